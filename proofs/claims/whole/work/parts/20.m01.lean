def f_X12_fault_L42 (I12 : zI) (x14 : Int32) (x15 : Int32) : Option ((Int32 × Int32) ⊕ Int32) := zg (¬ ((1 : Int32) < 0 ∨ 2 ≤ (1 : Int32).toNatClampNeg)) ((if (I12 9 (1 : Int32).toNatClampNeg) ≤ x15 then some (.inr x14) else zg (¬ ((9 + (2 * x15)) < 0 ∨ 16 ≤ (9 + (2 * x15)).toNatClampNeg)) (zn ((x14 + (I12 10 (9 + (2 * x15)).toNatClampNeg))) (fun y19 => zn (x15 + 1) (fun y20 => some (.inl (y19, y20)))))))
def f_X12_fault_L10 (J : zJ) (I5 : zI) : Option (zI ⊕ (zI ⊕ (Int32 × zI))) := (if (I5 0 0) ≤ (I5 0 2) then some (.inr (.inl I5)) else zn ((I5 0 2)) (fun y7 => zb2 (f_X12_isItem I5 J) (fun x8 I9 => (if x8 = 0 then some (.inr (.inr (y7, I9))) else some (.inl I9)))))
def f_X12_fault (I : zI) (J : zJ) : Option (Int32 × zI) := zn (va_up I 0 (va_up (I 0) 2 0)) (fun I1 => zb1 (f_X12_begins I1 J 1) (fun I2 => zc1 (zl (fun v : zI => f_X12_fault_L10 J v) zF I2) (fun I12 => zb1 (zl (fun v : (Int32 × Int32) => f_X12_fault_L42 I12 v.1 v.2) zF (0, 0)) (fun x21 => zg (¬ ((1 : Int32) < 0 ∨ 2 ≤ (1 : Int32).toNatClampNeg)) ((if (I12 9 (1 : Int32).toNatClampNeg) ≤ 0 then some ((-4), I12) else (if x21 = 10 then some ((-4), I12) else some ((I12 0 0), I12))))))))
theorem hinX12_fault_X12 : ∀ w ∈ u_ws RX12 TX12 31, w ∈ wsX12_fault := by decide +kernel
set_option maxHeartbeats 4000000 in
set_option maxRecDepth 100000 in
theorem w_X12_fault {p : Program} {l : Launch} {e : Env} {R : Room} {s : State} {m : MethodId} {args : Array Value} {below : List Frame} {meth : Method} {c : Code} {Q : State → Prop} (hfr : 3 ≤ R.frames) (hlo : 73 ≤ R.locals) {D : va_G} {a0 : Nat → Nat} {A : Nat → Prop} {cy : Nat → ClassId} {ad : Nat → Nat} (hD : zD A 25 ad) {I : zI} {J : zJ}  {rx : Int32} {rI : zI} (hf : f_X12_fault I J = some (rx, rI)) {ls : Array Slot} (S0 : zSt p m c cX12_fault 3 s args wsX12_fault RX12 D a0 A cy (zw 25 (kM cy ad) ad I J) [.ref (ad 0)] ls) (hret : ∀ (tx : Int32) (tI : zI), some (tx, tI) = some (rx, rI) → ∀ (H : Heap) (locs : List Loc) (ls : Array Slot) (pc : Nat), va_P D vwCl (zw 25 (kM cy ad) ad tI J) H → va_S A s.heap H locs → decode cX12_fault pc = .ok (.ireturn, 1) → W p l e R s m args below meth c H locs 0 0 Q (F0 m pc ls [.int tx])) : W p l e R s m args below meth c s.heap [] 0 0 Q (F0 m 0 ls []) := by
  obtain ⟨S, E, hP, hl⟩ := S0
  obtain ⟨hx, hb, hml, hown, hts⟩ := id S
  have hS : va_S A s.heap s.heap [] := va_S.rf
  replace hl : lv_has ls 3 [(0, .ref (ad 0))] := hl
  unfold f_X12_fault at hf
  refine lv_aload_n hx hb dX12_fault_0 rfl (lv_at hl 0 rfl) ?_
  refine lv_iconst (v := 0) hx hb dX12_fault_1 (by decide) ?_
  obtain ⟨I1, eI1⟩ := zex (va_up I 0 (va_up (I 0) 2 0))
  replace hf := zn_s eI1 hf
  refine zput (D := D) (ci := 11) (v := .int 0) (ty := .int) (C := RX12) (T := TX12) (N := 31) hx hb hts hinX12_fault_X12 tyX12 tyX12_ok nmX12 hown E.1 hP hD.D hS 0 (zO.get (oX12_at)) rfl 2 (by decide) (hts (.fieldLink RX12 108 "EdgeAndSpeedModel" "at" "I") (by decide +kernel)) (fun _ h9 => h9) rfl (tyX12_ok 2 (by decide)) rfl rfl (Nat.le_of_ble_eq_true rfl) dX12_fault_2 (zO.setI (oX12_at) rfl eI1) (fun H locs hP hS => ?_)
  refine lv_aload_n hx hb dX12_fault_5 rfl (lv_at hl 0 rfl) ?_
  refine lv_iconst (v := 1) hx hb dX12_fault_6 (by decide) ?_
  obtain ⟨I2, h3, hf⟩ := zb1_e hf
  refine zgo_v (zrunV (As := [.int 1]) (rest := []) S (c_X12_begins l hD 1 h3) (cwV 1 hts gX12_fault_X12_begins rfl rfl rfl ddX12_begins ⟨Nat.le_trans (Nat.le_of_ble_eq_true rfl) hfr, Nat.le_trans (Nat.le_of_ble_eq_true rfl) hlo⟩) (va_recv E.1 hP (q := (RX12, TX12, 31)) (ci := 11) rfl (zO.get (oX12_at))) E hP hS hl.1 rfl rfl (Nat.le_of_ble_eq_true rfl) dX12_fault_7) hS (fun H locs hP hS => ?_)
  obtain ⟨zl4, hf, hzl4, hel4⟩ := zc1_i hf
  have hjl4 : ∀ (I12 : zI), (Sum.inl I12) = zl4 → ∀ (H : Heap) (locs : List Loc) (ls : Array Slot), va_P D vwCl (zw 25 (kM cy ad) ad I12 J) H → va_S A s.heap H locs → lv_has ls 3 [(0, .ref (ad 0))] → W p l e R s m args below meth c H locs 0 0 Q (F0 m 38 ls []) := by
    intro I12 ez H locs ls hP hS hl
    have hf := hzl4 I12 ez
    refine lv_iconst (v := 0) hx hb dX12_fault_38 (by decide) ?_
    refine lv_istore_n (lv' := [(1, .int 0), (0, .ref (ad 0))]) hx hb dX12_fault_39 rfl hl (by decide) rfl (fun ls hl => ?_)
    refine lv_iconst (v := 0) hx hb dX12_fault_40 (by decide) ?_
    refine lv_istore_n (lv' := [(2, .int 0), (1, .int 0), (0, .ref (ad 0))]) hx hb dX12_fault_41 rfl hl (by decide) rfl (fun ls hl => ?_)
    obtain ⟨zl13, hf, hzl13⟩ := zb1_i hf
    have hjl13 : ∀ (x21 : Int32), x21 = zl13 → ∀ (H : Heap) (locs : List Loc) (ls : Array Slot), va_P D vwCl (zw 25 (kM cy ad) ad I12 J) H → va_S A s.heap H locs → lv_has ls 3 [(0, .ref (ad 0)), (1, .int x21)] → W p l e R s m args below meth c H locs 0 0 Q (F0 m 72 ls []) := by
      intro x21 ez H locs ls hP hS hl
      have hf := hzl13 x21 ez
      refine lv_aload_n hx hb dX12_fault_72 rfl (lv_at hl 0 rfl) ?_
      refine va_get (D := D) (ci := 11) (v := .ref (ad 9)) (C := RX12) (T := TX12) (N := 31) hx hb hts hinX12_fault_X12 hown E.1 hP 0 (zO.get (oX12_at)) rfl 10 (by decide) (hts (.fieldLink RX12 35 "EdgeAndSpeedModel" "steels" "[I") (by decide +kernel)) (fun _ h9 => h9) rfl dX12_fault_73 ?_
      refine lv_iconst (v := 1) hx hb dX12_fault_76 (by decide) ?_
      obtain ⟨g22, hf⟩ := zg_i hf
      refine va_iald hx hb E.1 hP 9 1 (zIA.get (aX12_10)) rfl g22 dX12_fault_77 ?_
      refine lv_if_le (tgt := 94) hx hb dX12_fault_78 (by decide) (fun k23 => ?_) (fun k23 => ?_)
      · replace hf := zt k23 hf
        refine lv_bipush (v := (-4)) hx hb dX12_fault_94 (by decide) ?_
        exact hret _ _ hf _ _ _ _ hP hS dX12_fault_96
      · replace hf := zf k23 hf
        refine lv_iload_n hx hb dX12_fault_81 rfl (lv_at hl 1 rfl) ?_
        refine lv_bipush (v := 10) hx hb dX12_fault_82 (by decide) ?_
        refine lv_icmp_eq (tgt := 94) hx hb dX12_fault_84 (by decide) (fun k24 => ?_) (fun k24 => ?_)
        · replace hf := zt k24 hf
          refine lv_bipush (v := (-4)) hx hb dX12_fault_94 (by decide) ?_
          exact hret _ _ hf _ _ _ _ hP hS dX12_fault_96
        · replace hf := zf k24 hf
          refine lv_aload_n hx hb dX12_fault_87 rfl (lv_at hl 0 rfl) ?_
          refine va_get (D := D) (ci := 11) (v := .int (I12 0 0)) (C := RX12) (T := TX12) (N := 31) hx hb hts hinX12_fault_X12 hown E.1 hP 0 (zO.get (oX12_at)) rfl 0 (by decide) (hts (.fieldLink RX12 105 "EdgeAndSpeedModel" "length" "I") (by decide +kernel)) (fun _ h9 => h9) rfl dX12_fault_88 ?_
          refine lv_goto (tgt := 96) hx hb dX12_fault_91 (by decide) ?_
          exact hret _ _ hf _ _ _ _ hP hS dX12_fault_96
    refine zl_i (V := (Int32 × Int32)) (P := fun v => ∀ (H : Heap) (locs : List Loc) (ls : Array Slot), va_P D vwCl (zw 25 (kM cy ad) ad I12 J) H → va_S A s.heap H locs → lv_has ls 3 [(0, .ref (ad 0)), (1, .int (v.1)), (2, .int (v.2))] → W p l e R s m args below meth c H locs 0 0 Q (F0 m 42 ls [])) ?_ _ _ hf _ _ _ hP hS (lv_sub hl [2, 1, 0] rfl)
    intro v z hf hcl13 hdl13
    obtain ⟨x14, x15⟩ := v
    intro H locs ls hP hS hl
    replace hf : f_X12_fault_L42 I12 x14 x15 = some z := hf
    unfold f_X12_fault_L42 at hf
    replace hP : va_P D vwCl (zw 25 (kM cy ad) ad I12 J) H := hP
    replace hl : lv_has ls 3 [(0, .ref (ad 0)), (1, .int x14), (2, .int x15)] := hl
    refine lv_iload_n hx hb dX12_fault_42 rfl (lv_at hl 2 rfl) ?_
    refine lv_aload_n hx hb dX12_fault_43 rfl (lv_at hl 0 rfl) ?_
    refine va_get (D := D) (ci := 11) (v := .ref (ad 9)) (C := RX12) (T := TX12) (N := 31) hx hb hts hinX12_fault_X12 hown E.1 hP 0 (zO.get (oX12_at)) rfl 10 (by decide) (hts (.fieldLink RX12 35 "EdgeAndSpeedModel" "steels" "[I") (by decide +kernel)) (fun _ h9 => h9) rfl dX12_fault_44 ?_
    refine lv_iconst (v := 1) hx hb dX12_fault_47 (by decide) ?_
    obtain ⟨g16, hf⟩ := zg_i hf
    refine va_iald hx hb E.1 hP 9 1 (zIA.get (aX12_10)) rfl g16 dX12_fault_48 ?_
    refine lv_icmp_ge (tgt := 72) hx hb dX12_fault_49 (by decide) (fun k17 => ?_) (fun k17 => ?_)
    · replace hf := zt k17 hf
      exact hjl13 _ (hdl13 _ (Option.some.inj hf).symm) _ _ _ hP hS (lv_sub hl [0, 1] rfl)
    · replace hf := zf k17 hf
      refine lv_iload_n hx hb dX12_fault_52 rfl (lv_at hl 1 rfl) ?_
      refine lv_aload_n hx hb dX12_fault_53 rfl (lv_at hl 0 rfl) ?_
      refine va_get (D := D) (ci := 11) (v := .ref (ad 10)) (C := RX12) (T := TX12) (N := 31) hx hb hts hinX12_fault_X12 hown E.1 hP 0 (zO.get (oX12_at)) rfl 11 (by decide) (hts (.fieldLink RX12 38 "EdgeAndSpeedModel" "steel" "[I") (by decide +kernel)) (fun _ h9 => h9) rfl dX12_fault_54 ?_
      refine lv_bipush (v := 9) hx hb dX12_fault_57 (by decide) ?_
      refine lv_iconst (v := 2) hx hb dX12_fault_59 (by decide) ?_
      refine lv_iload_n hx hb dX12_fault_60 rfl (lv_at hl 2 rfl) ?_
      refine lv_imul hx hb dX12_fault_61 ?_
      refine lv_iadd hx hb dX12_fault_62 ?_
      obtain ⟨g18, hf⟩ := zg_i hf
      refine va_iald hx hb E.1 hP 10 1 (zIA.get (aX12_11)) rfl g18 dX12_fault_63 ?_
      refine lv_iadd hx hb dX12_fault_64 ?_
      refine lv_topi (fun y19 ey19 => ?_)
      replace hf := zn_s ey19 hf
      refine lv_istore_n (lv' := [(1, .int y19), (0, .ref (ad 0)), (2, .int x15)]) hx hb dX12_fault_65 rfl hl (by decide) rfl (fun ls hl => ?_)
      obtain ⟨y20, ey20⟩ := zex (x15 + 1)
      replace hf := zn_s ey20 hf
      refine lv_iinc (v := y20) (lv' := [(2, .int y20), (1, .int y19), (0, .ref (ad 0))]) hx hb dX12_fault_66 hl (k := 2) rfl (by rw [ey20]; rfl) (by decide) rfl (fun ls hl => ?_)
      refine lv_goto (tgt := 42) hx hb dX12_fault_69 (by decide) ?_
      exact hcl13 _ (Option.some.inj hf).symm _ _ _ hP hS (lv_sub hl [2, 1, 0] rfl)
  refine zl_i (V := zI) (P := fun v => ∀ (H : Heap) (locs : List Loc) (ls : Array Slot), va_P D vwCl (zw 25 (kM cy ad) ad v J) H → va_S A s.heap H locs → lv_has ls 3 [(0, .ref (ad 0))] → W p l e R s m args below meth c H locs 0 0 Q (F0 m 10 ls [])) ?_ _ _ hf _ _ _ hP hS (lv_sub hl [0] rfl)
  intro v z hf hcl4 hdl4
  obtain ⟨I5, rfl⟩ : ∃ y, y = v := ⟨v, rfl⟩
  intro H locs ls hP hS hl
  replace hf : f_X12_fault_L10 J I5 = some z := hf
  unfold f_X12_fault_L10 at hf
  replace hP : va_P D vwCl (zw 25 (kM cy ad) ad I5 J) H := hP
  replace hl : lv_has ls 3 [(0, .ref (ad 0))] := hl
  refine lv_aload_n hx hb dX12_fault_10 rfl (lv_at hl 0 rfl) ?_
  refine va_get (D := D) (ci := 11) (v := .int (I5 0 2)) (C := RX12) (T := TX12) (N := 31) hx hb hts hinX12_fault_X12 hown E.1 hP 0 (zO.get (oX12_at)) rfl 2 (by decide) (hts (.fieldLink RX12 108 "EdgeAndSpeedModel" "at" "I") (by decide +kernel)) (fun _ h9 => h9) rfl dX12_fault_11 ?_
  refine lv_aload_n hx hb dX12_fault_14 rfl (lv_at hl 0 rfl) ?_
  refine va_get (D := D) (ci := 11) (v := .int (I5 0 0)) (C := RX12) (T := TX12) (N := 31) hx hb hts hinX12_fault_X12 hown E.1 hP 0 (zO.get (oX12_at)) rfl 0 (by decide) (hts (.fieldLink RX12 105 "EdgeAndSpeedModel" "length" "I") (by decide +kernel)) (fun _ h9 => h9) rfl dX12_fault_15 ?_
  refine lv_icmp_ge (tgt := 38) hx hb dX12_fault_18 (by decide) (fun k6 => ?_) (fun k6 => ?_)
  · replace hf := zt k6 hf
    exact hjl4 _ (hdl4 _ (Option.some.inj hf).symm) _ _ _ hP hS (lv_sub hl [0] rfl)
  · replace hf := zf k6 hf
    refine lv_aload_n hx hb dX12_fault_21 rfl (lv_at hl 0 rfl) ?_
    refine va_get (D := D) (ci := 11) (v := .int (I5 0 2)) (C := RX12) (T := TX12) (N := 31) hx hb hts hinX12_fault_X12 hown E.1 hP 0 (zO.get (oX12_at)) rfl 2 (by decide) (hts (.fieldLink RX12 108 "EdgeAndSpeedModel" "at" "I") (by decide +kernel)) (fun _ h9 => h9) rfl dX12_fault_22 ?_
    refine lv_topi (fun y7 ey7 => ?_)
    replace hf := zn_s ey7 hf
    refine lv_istore_n (lv' := [(1, .int y7), (0, .ref (ad 0))]) hx hb dX12_fault_25 rfl hl (by decide) rfl (fun ls hl => ?_)
    refine lv_aload_n hx hb dX12_fault_26 rfl (lv_at hl 1 rfl) ?_
    obtain ⟨x8, I9, h10, hf⟩ := zb2_e hf
    refine zgo_i (zrunV (As := []) (rest := []) S (c_X12_isItem l hD  h10) (cwV 0 hts gX12_fault_X12_isItem rfl rfl rfl ddX12_isItem ⟨Nat.le_trans (Nat.le_of_ble_eq_true rfl) hfr, Nat.le_trans (Nat.le_of_ble_eq_true rfl) hlo⟩) (va_recv E.1 hP (q := (RX12, TX12, 31)) (ci := 11) rfl (zO.get (oX12_at))) E hP hS hl.1 rfl rfl (Nat.le_of_ble_eq_true rfl) dX12_fault_27) hS (fun H locs hP hS => ?_)
    refine lv_if_ne (tgt := 35) hx hb dX12_fault_30 (by decide) (fun k11 => ?_) (fun k11 => ?_)
    · replace hf := zf k11 hf
      refine lv_goto (tgt := 10) hx hb dX12_fault_35 (by decide) ?_
      exact hcl4 _ (Option.some.inj hf).symm _ _ _ hP hS (lv_sub hl [1] rfl)
    · replace hf := zt k11 hf
      refine lv_iload_n hx hb dX12_fault_33 rfl (lv_at hl 0 rfl) ?_
      replace hf := hel4 _ (hdl4 _ (Option.some.inj hf).symm)
      exact hret _ _ hf _ _ _ _ hP hS dX12_fault_34
theorem c_X12_fault (l : Launch) {D : va_G} {a0 : Nat → Nat} {A : Nat → Prop} {cy : Nat → ClassId} {ad : Nat → Nat} (hD : zD A 25 ad) {I : zI} {J : zJ}  {rx : Int32} {rI : zI} (hf : f_X12_fault I J = some (rx, rI)) : Met l yX12_fault wsX12_fault { frames := 3, cells := 0, slots := 0, locals := 73 } (zPc D a0 A cy [.ref (ad 0)] (zw 25 (kM cy ad) ad I J)) (zQi D A rx (zw 25 (kM cy ad) ad rI J)) 0 0 A :=
  zmet RX12 (by decide) rfl rfl (Nat.le_of_ble_eq_true rfl) (fun p e R s m below meth c Q hfr hlo ls S0 hQ => w_X12_fault hfr hlo hD  hf S0 (fun tx tI hq H locs ls pc hP hS hd => by cases hq; exact hQ H locs _ hS (fun hx hb hr hlocks hfree => W.iret hx hb hr (fun t ht hW => ⟨⟨_, (), rfl, rfl, zht ht hP⟩, hS.F ht⟩) hfree hd hlocks)))
theorem ddX12_fault : yX12_fault.cls = RX12 ∧ yX12_fault.cls ≠ "java/lang/invoke/MethodHandle" ∧ yX12_fault.cls ≠ "java/lang/invoke/VarHandle" ∧ (parseMethodDescriptor yX12_fault.desc).map (fun d => d.parameters.length) = some 0 := by decide +kernel

def f_X12_lay_L85 (x24 : Int32) (I25 : zI) : Option ((Int32 × zI) ⊕ zI) := (if 200 ≤ x24 then some (.inr I25) else zg (¬ ((200 + x24) < 0 ∨ 400 ≤ (200 + x24).toNatClampNeg)) (zg (¬ (x24 < 0 ∨ 400 ≤ x24.toNatClampNeg)) (zn (va_up I25 8 (upd (I25 8) x24.toNatClampNeg (I25 8 (200 + x24).toNatClampNeg))) (fun I28 => zb1 ((if 12 ≤ x24 then some (I28) else zg (¬ ((12 + x24) < 0 ∨ 24 ≤ (12 + x24).toNatClampNeg)) (zg (¬ (x24 < 0 ∨ 24 ≤ x24.toNatClampNeg)) (zn (va_up I28 4 (upd (I28 4) x24.toNatClampNeg (I28 4 (12 + x24).toNatClampNeg))) (fun I34 => some (I34))))) : Option zI) (fun I36 => zb1 ((if 32 ≤ x24 then some (I36) else zg (¬ ((32 + x24) < 0 ∨ 64 ≤ (32 + x24).toNatClampNeg)) (zg (¬ (x24 < 0 ∨ 64 ≤ x24.toNatClampNeg)) (zn (va_up I36 6 (upd (I36 6) x24.toNatClampNeg (I36 6 (32 + x24).toNatClampNeg))) (fun I41 => some (I41))))) : Option zI) (fun I43 => zb1 ((if 8 ≤ x24 then some (I43) else zg (¬ ((8 + x24) < 0 ∨ 16 ≤ (8 + x24).toNatClampNeg)) (zg (¬ (x24 < 0 ∨ 16 ≤ x24.toNatClampNeg)) (zn (va_up I43 10 (upd (I43 10) x24.toNatClampNeg (I43 10 (8 + x24).toNatClampNeg))) (fun I48 => some (I48))))) : Option zI) (fun I50 => (if 5 ≤ x24 then zn (x24 + 1) (fun y52 => some (.inl (y52, I50))) else zg (¬ ((5 + x24) < 0 ∨ 10 ≤ (5 + x24).toNatClampNeg)) (zg (¬ (x24 < 0 ∨ 10 ≤ x24.toNatClampNeg)) (zn (va_up I50 11 (upd (I50 11) x24.toNatClampNeg (I50 11 (5 + x24).toNatClampNeg))) (fun I54 => zn (x24 + 1) (fun y56 => some (.inl (y56, I54))))))))))))))
def f_X12_lay (I : zI) (J : zJ) : Option (Int32 × zI) := zb2 (f_X12_fault I J) (fun x1 I2 => (if x1 = (-4) then zg (¬ ((1 : Int32) < 0 ∨ 2 ≤ (1 : Int32).toNatClampNeg)) ((if (I2 3 (1 : Int32).toNatClampNeg) = 0 then some ((-2), I2) else zg (¬ ((1 : Int32) < 0 ∨ 2 ≤ (1 : Int32).toNatClampNeg)) ((if (I2 5 (1 : Int32).toNatClampNeg) = 0 then some ((-2), I2) else zb1 (f_X12_ends I2 J 1) (fun I9 => zg (¬ ((1 : Int32) < 0 ∨ 2 ≤ (1 : Int32).toNatClampNeg)) (zg (¬ ((0 : Int32) < 0 ∨ 2 ≤ (0 : Int32).toNatClampNeg)) (zn (va_up I9 3 (upd (I9 3) (0 : Int32).toNatClampNeg (I9 3 (1 : Int32).toNatClampNeg))) (fun I12 => zg (¬ ((1 : Int32) < 0 ∨ 2 ≤ (1 : Int32).toNatClampNeg)) (zg (¬ ((0 : Int32) < 0 ∨ 2 ≤ (0 : Int32).toNatClampNeg)) (zn (va_up I12 5 (upd (I12 5) (0 : Int32).toNatClampNeg (I12 5 (1 : Int32).toNatClampNeg))) (fun I15 => zg (¬ ((1 : Int32) < 0 ∨ 2 ≤ (1 : Int32).toNatClampNeg)) (zg (¬ ((0 : Int32) < 0 ∨ 2 ≤ (0 : Int32).toNatClampNeg)) (zn (va_up I15 7 (upd (I15 7) (0 : Int32).toNatClampNeg (I15 7 (1 : Int32).toNatClampNeg))) (fun I18 => zg (¬ ((1 : Int32) < 0 ∨ 2 ≤ (1 : Int32).toNatClampNeg)) (zg (¬ ((0 : Int32) < 0 ∨ 2 ≤ (0 : Int32).toNatClampNeg)) (zn (va_up I18 9 (upd (I18 9) (0 : Int32).toNatClampNeg (I18 9 (1 : Int32).toNatClampNeg))) (fun I21 => zb1 (zl (fun v : (Int32 × zI) => f_X12_lay_L85 v.1 v.2) zF (0, I21)) (fun I57 => zb1 (f_X12_handsBegin I57 J) (fun I58 => zg (¬ ((0 : Int32) < 0 ∨ 2 ≤ (0 : Int32).toNatClampNeg)) (some ((I58 5 (0 : Int32).toNatClampNeg), I58))))))))))))))))))))) else some ((-2), I2)))
theorem hinX12_lay_X12 : ∀ w ∈ u_ws RX12 TX12 31, w ∈ wsX12_lay := by decide +kernel
set_option maxHeartbeats 4000000 in
set_option maxRecDepth 100000 in
theorem w_X12_lay {p : Program} {l : Launch} {e : Env} {R : Room} {s : State} {m : MethodId} {args : Array Value} {below : List Frame} {meth : Method} {c : Code} {Q : State → Prop} (hfr : 4 ≤ R.frames) (hlo : 95 ≤ R.locals) {D : va_G} {a0 : Nat → Nat} {A : Nat → Prop} {cy : Nat → ClassId} {ad : Nat → Nat} (hD : zD A 25 ad) {I : zI} {J : zJ}  {rx : Int32} {rI : zI} (hf : f_X12_lay I J = some (rx, rI)) {ls : Array Slot} (S0 : zSt p m c cX12_lay 2 s args wsX12_lay RX12 D a0 A cy (zw 25 (kM cy ad) ad I J) [.ref (ad 0)] ls) (hret : ∀ (tx : Int32) (tI : zI), some (tx, tI) = some (rx, rI) → ∀ (H : Heap) (locs : List Loc) (ls : Array Slot) (pc : Nat), va_P D vwCl (zw 25 (kM cy ad) ad tI J) H → va_S A s.heap H locs → decode cX12_lay pc = .ok (.ireturn, 1) → W p l e R s m args below meth c H locs 0 0 Q (F0 m pc ls [.int tx])) : W p l e R s m args below meth c s.heap [] 0 0 Q (F0 m 0 ls []) := by
  obtain ⟨S, E, hP, hl⟩ := S0
  obtain ⟨hx, hb, hml, hown, hts⟩ := id S
  have hS : va_S A s.heap s.heap [] := va_S.rf
  replace hl : lv_has ls 2 [(0, .ref (ad 0))] := hl
  unfold f_X12_lay at hf
  refine lv_aload_n hx hb dX12_lay_0 rfl (lv_at hl 0 rfl) ?_
  obtain ⟨x1, I2, h3, hf⟩ := zb2_e hf
  refine zgo_i (zrunV (As := []) (rest := []) S (c_X12_fault l hD  h3) (cwV 0 hts gX12_lay_X12_fault rfl rfl rfl ddX12_fault ⟨Nat.le_trans (Nat.le_of_ble_eq_true rfl) hfr, Nat.le_trans (Nat.le_of_ble_eq_true rfl) hlo⟩) (va_recv E.1 hP (q := (RX12, TX12, 31)) (ci := 11) rfl (zO.get (oX12_at))) E hP hS hl.1 rfl rfl (Nat.le_of_ble_eq_true rfl) dX12_lay_1) hS (fun H locs hP hS => ?_)
  refine lv_bipush (v := (-4)) hx hb dX12_lay_4 (by decide) ?_
  refine lv_icmp_ne (tgt := 27) hx hb dX12_lay_6 (by decide) (fun k4 => ?_) (fun k4 => ?_)
  · replace hf := zf k4 hf
    refine lv_bipush (v := (-2)) hx hb dX12_lay_27 (by decide) ?_
    exact hret _ _ hf _ _ _ _ hP hS dX12_lay_29
  · replace hf := zt k4 hf
    refine lv_aload_n hx hb dX12_lay_9 rfl (lv_at hl 0 rfl) ?_
    refine va_get (D := D) (ci := 11) (v := .ref (ad 3)) (C := RX12) (T := TX12) (N := 31) hx hb hts hinX12_lay_X12 hown E.1 hP 0 (zO.get (oX12_at)) rfl 4 (by decide) (hts (.fieldLink RX12 17 "EdgeAndSpeedModel" "speeds" "[I") (by decide +kernel)) (fun _ h9 => h9) rfl dX12_lay_10 ?_
    refine lv_iconst (v := 1) hx hb dX12_lay_13 (by decide) ?_
    obtain ⟨g5, hf⟩ := zg_i hf
    refine va_iald hx hb E.1 hP 3 1 (zIA.get (aX12_4)) rfl g5 dX12_lay_14 ?_
    refine lv_if_eq (tgt := 27) hx hb dX12_lay_15 (by decide) (fun k6 => ?_) (fun k6 => ?_)
    · replace hf := zt k6 hf
      refine lv_bipush (v := (-2)) hx hb dX12_lay_27 (by decide) ?_
      exact hret _ _ hf _ _ _ _ hP hS dX12_lay_29
    · replace hf := zf k6 hf
      refine lv_aload_n hx hb dX12_lay_18 rfl (lv_at hl 0 rfl) ?_
      refine va_get (D := D) (ci := 11) (v := .ref (ad 5)) (C := RX12) (T := TX12) (N := 31) hx hb hts hinX12_lay_X12 hown E.1 hP 0 (zO.get (oX12_at)) rfl 6 (by decide) (hts (.fieldLink RX12 23 "EdgeAndSpeedModel" "pieces" "[I") (by decide +kernel)) (fun _ h9 => h9) rfl dX12_lay_19 ?_
      refine lv_iconst (v := 1) hx hb dX12_lay_22 (by decide) ?_
      obtain ⟨g7, hf⟩ := zg_i hf
      refine va_iald hx hb E.1 hP 5 1 (zIA.get (aX12_6)) rfl g7 dX12_lay_23 ?_
      refine lv_if_ne (tgt := 30) hx hb dX12_lay_24 (by decide) (fun k8 => ?_) (fun k8 => ?_)
      · replace hf := zf k8 hf
        refine lv_aload_n hx hb dX12_lay_30 rfl (lv_at hl 0 rfl) ?_
        refine lv_iconst (v := 1) hx hb dX12_lay_31 (by decide) ?_
        obtain ⟨I9, h10, hf⟩ := zb1_e hf
        refine zgo_v (zrunV (As := [.int 1]) (rest := []) S (c_X12_ends l hD 1 h10) (cwV 1 hts gX12_lay_X12_ends rfl rfl rfl ddX12_ends ⟨Nat.le_trans (Nat.le_of_ble_eq_true rfl) hfr, Nat.le_trans (Nat.le_of_ble_eq_true rfl) hlo⟩) (va_recv E.1 hP (q := (RX12, TX12, 31)) (ci := 11) rfl (zO.get (oX12_at))) E hP hS hl.1 rfl rfl (Nat.le_of_ble_eq_true rfl) dX12_lay_32) hS (fun H locs hP hS => ?_)
        refine lv_aload_n hx hb dX12_lay_35 rfl (lv_at hl 0 rfl) ?_
        refine va_get (D := D) (ci := 11) (v := .ref (ad 3)) (C := RX12) (T := TX12) (N := 31) hx hb hts hinX12_lay_X12 hown E.1 hP 0 (zO.get (oX12_at)) rfl 4 (by decide) (hts (.fieldLink RX12 17 "EdgeAndSpeedModel" "speeds" "[I") (by decide +kernel)) (fun _ h9 => h9) rfl dX12_lay_36 ?_
        refine lv_iconst (v := 0) hx hb dX12_lay_39 (by decide) ?_
        refine lv_aload_n hx hb dX12_lay_40 rfl (lv_at hl 0 rfl) ?_
        refine va_get (D := D) (ci := 11) (v := .ref (ad 3)) (C := RX12) (T := TX12) (N := 31) hx hb hts hinX12_lay_X12 hown E.1 hP 0 (zO.get (oX12_at)) rfl 4 (by decide) (hts (.fieldLink RX12 17 "EdgeAndSpeedModel" "speeds" "[I") (by decide +kernel)) (fun _ h9 => h9) rfl dX12_lay_41 ?_
        refine lv_iconst (v := 1) hx hb dX12_lay_44 (by decide) ?_
        obtain ⟨g11, hf⟩ := zg_i hf
        refine va_iald hx hb E.1 hP 3 1 (zIA.get (aX12_4)) rfl g11 dX12_lay_45 ?_
        obtain ⟨g13, hf⟩ := zg_i hf
        obtain ⟨I12, eI12⟩ := zex (va_up I9 3 (upd (I9 3) (0 : Int32).toNatClampNeg (I9 3 (1 : Int32).toNatClampNeg)))
        replace hf := zn_s eI12 hf
        refine zast_i hx hb E.1 hP hD.D hS (aX12_4) g13 dX12_lay_46 eI12 (fun H locs hP hS => ?_)
        refine lv_aload_n hx hb dX12_lay_47 rfl (lv_at hl 0 rfl) ?_
        refine va_get (D := D) (ci := 11) (v := .ref (ad 5)) (C := RX12) (T := TX12) (N := 31) hx hb hts hinX12_lay_X12 hown E.1 hP 0 (zO.get (oX12_at)) rfl 6 (by decide) (hts (.fieldLink RX12 23 "EdgeAndSpeedModel" "pieces" "[I") (by decide +kernel)) (fun _ h9 => h9) rfl dX12_lay_48 ?_
        refine lv_iconst (v := 0) hx hb dX12_lay_51 (by decide) ?_
        refine lv_aload_n hx hb dX12_lay_52 rfl (lv_at hl 0 rfl) ?_
        refine va_get (D := D) (ci := 11) (v := .ref (ad 5)) (C := RX12) (T := TX12) (N := 31) hx hb hts hinX12_lay_X12 hown E.1 hP 0 (zO.get (oX12_at)) rfl 6 (by decide) (hts (.fieldLink RX12 23 "EdgeAndSpeedModel" "pieces" "[I") (by decide +kernel)) (fun _ h9 => h9) rfl dX12_lay_53 ?_
        refine lv_iconst (v := 1) hx hb dX12_lay_56 (by decide) ?_
        obtain ⟨g14, hf⟩ := zg_i hf
        refine va_iald hx hb E.1 hP 5 1 (zIA.get (aX12_6)) rfl g14 dX12_lay_57 ?_
        obtain ⟨g16, hf⟩ := zg_i hf
        obtain ⟨I15, eI15⟩ := zex (va_up I12 5 (upd (I12 5) (0 : Int32).toNatClampNeg (I12 5 (1 : Int32).toNatClampNeg)))
        replace hf := zn_s eI15 hf
        refine zast_i hx hb E.1 hP hD.D hS (aX12_6) g16 dX12_lay_58 eI15 (fun H locs hP hS => ?_)
        refine lv_aload_n hx hb dX12_lay_59 rfl (lv_at hl 0 rfl) ?_
        refine va_get (D := D) (ci := 11) (v := .ref (ad 7)) (C := RX12) (T := TX12) (N := 31) hx hb hts hinX12_lay_X12 hown E.1 hP 0 (zO.get (oX12_at)) rfl 8 (by decide) (hts (.fieldLink RX12 29 "EdgeAndSpeedModel" "cracks" "[I") (by decide +kernel)) (fun _ h9 => h9) rfl dX12_lay_60 ?_
        refine lv_iconst (v := 0) hx hb dX12_lay_63 (by decide) ?_
        refine lv_aload_n hx hb dX12_lay_64 rfl (lv_at hl 0 rfl) ?_
        refine va_get (D := D) (ci := 11) (v := .ref (ad 7)) (C := RX12) (T := TX12) (N := 31) hx hb hts hinX12_lay_X12 hown E.1 hP 0 (zO.get (oX12_at)) rfl 8 (by decide) (hts (.fieldLink RX12 29 "EdgeAndSpeedModel" "cracks" "[I") (by decide +kernel)) (fun _ h9 => h9) rfl dX12_lay_65 ?_
        refine lv_iconst (v := 1) hx hb dX12_lay_68 (by decide) ?_
        obtain ⟨g17, hf⟩ := zg_i hf
        refine va_iald hx hb E.1 hP 7 1 (zIA.get (aX12_8)) rfl g17 dX12_lay_69 ?_
        obtain ⟨g19, hf⟩ := zg_i hf
        obtain ⟨I18, eI18⟩ := zex (va_up I15 7 (upd (I15 7) (0 : Int32).toNatClampNeg (I15 7 (1 : Int32).toNatClampNeg)))
        replace hf := zn_s eI18 hf
        refine zast_i hx hb E.1 hP hD.D hS (aX12_8) g19 dX12_lay_70 eI18 (fun H locs hP hS => ?_)
        refine lv_aload_n hx hb dX12_lay_71 rfl (lv_at hl 0 rfl) ?_
        refine va_get (D := D) (ci := 11) (v := .ref (ad 9)) (C := RX12) (T := TX12) (N := 31) hx hb hts hinX12_lay_X12 hown E.1 hP 0 (zO.get (oX12_at)) rfl 10 (by decide) (hts (.fieldLink RX12 35 "EdgeAndSpeedModel" "steels" "[I") (by decide +kernel)) (fun _ h9 => h9) rfl dX12_lay_72 ?_
        refine lv_iconst (v := 0) hx hb dX12_lay_75 (by decide) ?_
        refine lv_aload_n hx hb dX12_lay_76 rfl (lv_at hl 0 rfl) ?_
        refine va_get (D := D) (ci := 11) (v := .ref (ad 9)) (C := RX12) (T := TX12) (N := 31) hx hb hts hinX12_lay_X12 hown E.1 hP 0 (zO.get (oX12_at)) rfl 10 (by decide) (hts (.fieldLink RX12 35 "EdgeAndSpeedModel" "steels" "[I") (by decide +kernel)) (fun _ h9 => h9) rfl dX12_lay_77 ?_
        refine lv_iconst (v := 1) hx hb dX12_lay_80 (by decide) ?_
        obtain ⟨g20, hf⟩ := zg_i hf
        refine va_iald hx hb E.1 hP 9 1 (zIA.get (aX12_10)) rfl g20 dX12_lay_81 ?_
        obtain ⟨g22, hf⟩ := zg_i hf
        obtain ⟨I21, eI21⟩ := zex (va_up I18 9 (upd (I18 9) (0 : Int32).toNatClampNeg (I18 9 (1 : Int32).toNatClampNeg)))
        replace hf := zn_s eI21 hf
        refine zast_i hx hb E.1 hP hD.D hS (aX12_10) g22 dX12_lay_82 eI21 (fun H locs hP hS => ?_)
        refine lv_iconst (v := 0) hx hb dX12_lay_83 (by decide) ?_
        refine lv_istore_n (lv' := [(1, .int 0), (0, .ref (ad 0))]) hx hb dX12_lay_84 rfl hl (by decide) rfl (fun ls hl => ?_)
        obtain ⟨zl23, hf, hzl23⟩ := zb1_i hf
        have hjl23 : ∀ (I57 : zI), I57 = zl23 → ∀ (H : Heap) (locs : List Loc) (ls : Array Slot), va_P D vwCl (zw 25 (kM cy ad) ad I57 J) H → va_S A s.heap H locs → lv_has ls 2 [(0, .ref (ad 0))] → W p l e R s m args below meth c H locs 0 0 Q (F0 m 196 ls []) := by
          intro I57 ez H locs ls hP hS hl
          have hf := hzl23 I57 ez
          refine lv_aload_n hx hb dX12_lay_196 rfl (lv_at hl 0 rfl) ?_
          obtain ⟨I58, h59, hf⟩ := zb1_e hf
          refine zgo_v (zrunV (As := []) (rest := []) S (c_X12_handsBegin l hD  h59) (cwV 0 hts gX12_lay_X12_handsBegin rfl rfl rfl ddX12_handsBegin ⟨Nat.le_trans (Nat.le_of_ble_eq_true rfl) hfr, Nat.le_trans (Nat.le_of_ble_eq_true rfl) hlo⟩) (va_recv E.1 hP (q := (RX12, TX12, 31)) (ci := 11) rfl (zO.get (oX12_at))) E hP hS hl.1 rfl rfl (Nat.le_of_ble_eq_true rfl) dX12_lay_197) hS (fun H locs hP hS => ?_)
          refine lv_aload_n hx hb dX12_lay_200 rfl (lv_at hl 0 rfl) ?_
          refine va_get (D := D) (ci := 11) (v := .ref (ad 5)) (C := RX12) (T := TX12) (N := 31) hx hb hts hinX12_lay_X12 hown E.1 hP 0 (zO.get (oX12_at)) rfl 6 (by decide) (hts (.fieldLink RX12 23 "EdgeAndSpeedModel" "pieces" "[I") (by decide +kernel)) (fun _ h9 => h9) rfl dX12_lay_201 ?_
          refine lv_iconst (v := 0) hx hb dX12_lay_204 (by decide) ?_
          obtain ⟨g60, hf⟩ := zg_i hf
          refine va_iald hx hb E.1 hP 5 1 (zIA.get (aX12_6)) rfl g60 dX12_lay_205 ?_
          exact hret _ _ hf _ _ _ _ hP hS dX12_lay_206
        refine zl_i (V := (Int32 × zI)) (P := fun v => ∀ (H : Heap) (locs : List Loc) (ls : Array Slot), va_P D vwCl (zw 25 (kM cy ad) ad v.2 J) H → va_S A s.heap H locs → lv_has ls 2 [(0, .ref (ad 0)), (1, .int (v.1))] → W p l e R s m args below meth c H locs 0 0 Q (F0 m 85 ls [])) ?_ _ _ hf _ _ _ hP hS (lv_sub hl [1, 0] rfl)
        intro v z hf hcl23 hdl23
        obtain ⟨x24, I25⟩ := v
        intro H locs ls hP hS hl
        replace hf : f_X12_lay_L85 x24 I25 = some z := hf
        unfold f_X12_lay_L85 at hf
        replace hP : va_P D vwCl (zw 25 (kM cy ad) ad I25 J) H := hP
        replace hl : lv_has ls 2 [(0, .ref (ad 0)), (1, .int x24)] := hl
        refine lv_iload_n hx hb dX12_lay_85 rfl (lv_at hl 1 rfl) ?_
        refine lv_sipush (v := 200) hx hb dX12_lay_86 (by decide) ?_
        refine lv_icmp_ge (tgt := 196) hx hb dX12_lay_89 (by decide) (fun k26 => ?_) (fun k26 => ?_)
        · replace hf := zt k26 hf
          exact hjl23 _ (hdl23 _ (Option.some.inj hf).symm) _ _ _ hP hS (lv_sub hl [0] rfl)
        · replace hf := zf k26 hf
          refine lv_aload_n hx hb dX12_lay_92 rfl (lv_at hl 0 rfl) ?_
          refine va_get (D := D) (ci := 11) (v := .ref (ad 8)) (C := RX12) (T := TX12) (N := 31) hx hb hts hinX12_lay_X12 hown E.1 hP 0 (zO.get (oX12_at)) rfl 9 (by decide) (hts (.fieldLink RX12 32 "EdgeAndSpeedModel" "crack" "[I") (by decide +kernel)) (fun _ h9 => h9) rfl dX12_lay_93 ?_
          refine lv_iload_n hx hb dX12_lay_96 rfl (lv_at hl 1 rfl) ?_
          refine lv_aload_n hx hb dX12_lay_97 rfl (lv_at hl 0 rfl) ?_
          refine va_get (D := D) (ci := 11) (v := .ref (ad 8)) (C := RX12) (T := TX12) (N := 31) hx hb hts hinX12_lay_X12 hown E.1 hP 0 (zO.get (oX12_at)) rfl 9 (by decide) (hts (.fieldLink RX12 32 "EdgeAndSpeedModel" "crack" "[I") (by decide +kernel)) (fun _ h9 => h9) rfl dX12_lay_98 ?_
          refine lv_sipush (v := 200) hx hb dX12_lay_101 (by decide) ?_
          refine lv_iload_n hx hb dX12_lay_104 rfl (lv_at hl 1 rfl) ?_
          refine lv_iadd hx hb dX12_lay_105 ?_
          obtain ⟨g27, hf⟩ := zg_i hf
          refine va_iald hx hb E.1 hP 8 1 (zIA.get (aX12_9)) rfl g27 dX12_lay_106 ?_
          obtain ⟨g29, hf⟩ := zg_i hf
          obtain ⟨I28, eI28⟩ := zex (va_up I25 8 (upd (I25 8) x24.toNatClampNeg (I25 8 (200 + x24).toNatClampNeg)))
          replace hf := zn_s eI28 hf
          refine zast_i hx hb E.1 hP hD.D hS (aX12_9) g29 dX12_lay_107 eI28 (fun H locs hP hS => ?_)
          refine lv_iload_n hx hb dX12_lay_108 rfl (lv_at hl 1 rfl) ?_
          refine lv_bipush (v := 12) hx hb dX12_lay_109 (by decide) ?_
          obtain ⟨zr32, hf, hzr32⟩ := zb1_i hf
          have hjr32 : ∀ (I36 : zI), I36 = zr32 → ∀ (H : Heap) (locs : List Loc) (ls : Array Slot), va_P D vwCl (zw 25 (kM cy ad) ad I36 J) H → va_S A s.heap H locs → lv_has ls 2 [(0, .ref (ad 0)), (1, .int x24)] → W p l e R s m args below meth c H locs 0 0 Q (F0 m 129 ls []) := by
            intro I36 ez H locs ls hP hS hl
            have hf := hzr32 I36 ez
            refine lv_iload_n hx hb dX12_lay_129 rfl (lv_at hl 1 rfl) ?_
            refine lv_bipush (v := 32) hx hb dX12_lay_130 (by decide) ?_
            obtain ⟨zr39, hf, hzr39⟩ := zb1_i hf
            have hjr39 : ∀ (I43 : zI), I43 = zr39 → ∀ (H : Heap) (locs : List Loc) (ls : Array Slot), va_P D vwCl (zw 25 (kM cy ad) ad I43 J) H → va_S A s.heap H locs → lv_has ls 2 [(0, .ref (ad 0)), (1, .int x24)] → W p l e R s m args below meth c H locs 0 0 Q (F0 m 150 ls []) := by
              intro I43 ez H locs ls hP hS hl
              have hf := hzr39 I43 ez
              refine lv_iload_n hx hb dX12_lay_150 rfl (lv_at hl 1 rfl) ?_
              refine lv_bipush (v := 8) hx hb dX12_lay_151 (by decide) ?_
              obtain ⟨zr46, hf, hzr46⟩ := zb1_i hf
              have hjr46 : ∀ (I50 : zI), I50 = zr46 → ∀ (H : Heap) (locs : List Loc) (ls : Array Slot), va_P D vwCl (zw 25 (kM cy ad) ad I50 J) H → va_S A s.heap H locs → lv_has ls 2 [(0, .ref (ad 0)), (1, .int x24)] → W p l e R s m args below meth c H locs 0 0 Q (F0 m 171 ls []) := by
                intro I50 ez H locs ls hP hS hl
                have hf := hzr46 I50 ez
                refine lv_iload_n hx hb dX12_lay_171 rfl (lv_at hl 1 rfl) ?_
                refine lv_iconst (v := 5) hx hb dX12_lay_172 (by decide) ?_
                refine lv_icmp_ge (tgt := 190) hx hb dX12_lay_173 (by decide) (fun k51 => ?_) (fun k51 => ?_)
                · replace hf := zt k51 hf
                  obtain ⟨y52, ey52⟩ := zex (x24 + 1)
                  replace hf := zn_s ey52 hf
                  refine lv_iinc (v := y52) (lv' := [(1, .int y52), (0, .ref (ad 0))]) hx hb dX12_lay_190 hl (k := 1) rfl (by rw [ey52]; rfl) (by decide) rfl (fun ls hl => ?_)
                  refine lv_goto (tgt := 85) hx hb dX12_lay_193 (by decide) ?_
                  exact hcl23 _ (Option.some.inj hf).symm _ _ _ hP hS (lv_sub hl [1, 0] rfl)
                · replace hf := zf k51 hf
                  refine lv_aload_n hx hb dX12_lay_176 rfl (lv_at hl 0 rfl) ?_
                  refine va_get (D := D) (ci := 11) (v := .ref (ad 11)) (C := RX12) (T := TX12) (N := 31) hx hb hts hinX12_lay_X12 hown E.1 hP 0 (zO.get (oX12_at)) rfl 12 (by decide) (hts (.fieldLink RX12 41 "EdgeAndSpeedModel" "rest" "[I") (by decide +kernel)) (fun _ h9 => h9) rfl dX12_lay_177 ?_
                  refine lv_iload_n hx hb dX12_lay_180 rfl (lv_at hl 1 rfl) ?_
                  refine lv_aload_n hx hb dX12_lay_181 rfl (lv_at hl 0 rfl) ?_
                  refine va_get (D := D) (ci := 11) (v := .ref (ad 11)) (C := RX12) (T := TX12) (N := 31) hx hb hts hinX12_lay_X12 hown E.1 hP 0 (zO.get (oX12_at)) rfl 12 (by decide) (hts (.fieldLink RX12 41 "EdgeAndSpeedModel" "rest" "[I") (by decide +kernel)) (fun _ h9 => h9) rfl dX12_lay_182 ?_
                  refine lv_iconst (v := 5) hx hb dX12_lay_185 (by decide) ?_
                  refine lv_iload_n hx hb dX12_lay_186 rfl (lv_at hl 1 rfl) ?_
                  refine lv_iadd hx hb dX12_lay_187 ?_
                  obtain ⟨g53, hf⟩ := zg_i hf
                  refine va_iald hx hb E.1 hP 11 1 (zIA.get (aX12_12)) rfl g53 dX12_lay_188 ?_
                  obtain ⟨g55, hf⟩ := zg_i hf
                  obtain ⟨I54, eI54⟩ := zex (va_up I50 11 (upd (I50 11) x24.toNatClampNeg (I50 11 (5 + x24).toNatClampNeg)))
                  replace hf := zn_s eI54 hf
                  refine zast_i hx hb E.1 hP hD.D hS (aX12_12) g55 dX12_lay_189 eI54 (fun H locs hP hS => ?_)
                  obtain ⟨y56, ey56⟩ := zex (x24 + 1)
                  replace hf := zn_s ey56 hf
                  refine lv_iinc (v := y56) (lv' := [(1, .int y56), (0, .ref (ad 0))]) hx hb dX12_lay_190 hl (k := 1) rfl (by rw [ey56]; rfl) (by decide) rfl (fun ls hl => ?_)
                  refine lv_goto (tgt := 85) hx hb dX12_lay_193 (by decide) ?_
                  exact hcl23 _ (Option.some.inj hf).symm _ _ _ hP hS (lv_sub hl [1, 0] rfl)
              refine lv_icmp_ge (tgt := 171) hx hb dX12_lay_153 (by decide) (fun k44 => ?_) (fun k44 => ?_)
              · replace hf := zt k44 hf
                exact hjr46 _ (Option.some.inj hf) _ _ _ hP hS (lv_sub hl [0, 1] rfl)
              · replace hf := zf k44 hf
                refine lv_aload_n hx hb dX12_lay_156 rfl (lv_at hl 0 rfl) ?_
                refine va_get (D := D) (ci := 11) (v := .ref (ad 10)) (C := RX12) (T := TX12) (N := 31) hx hb hts hinX12_lay_X12 hown E.1 hP 0 (zO.get (oX12_at)) rfl 11 (by decide) (hts (.fieldLink RX12 38 "EdgeAndSpeedModel" "steel" "[I") (by decide +kernel)) (fun _ h9 => h9) rfl dX12_lay_157 ?_
                refine lv_iload_n hx hb dX12_lay_160 rfl (lv_at hl 1 rfl) ?_
                refine lv_aload_n hx hb dX12_lay_161 rfl (lv_at hl 0 rfl) ?_
                refine va_get (D := D) (ci := 11) (v := .ref (ad 10)) (C := RX12) (T := TX12) (N := 31) hx hb hts hinX12_lay_X12 hown E.1 hP 0 (zO.get (oX12_at)) rfl 11 (by decide) (hts (.fieldLink RX12 38 "EdgeAndSpeedModel" "steel" "[I") (by decide +kernel)) (fun _ h9 => h9) rfl dX12_lay_162 ?_
                refine lv_bipush (v := 8) hx hb dX12_lay_165 (by decide) ?_
                refine lv_iload_n hx hb dX12_lay_167 rfl (lv_at hl 1 rfl) ?_
                refine lv_iadd hx hb dX12_lay_168 ?_
                obtain ⟨g47, hf⟩ := zg_i hf
                refine va_iald hx hb E.1 hP 10 1 (zIA.get (aX12_11)) rfl g47 dX12_lay_169 ?_
                obtain ⟨g49, hf⟩ := zg_i hf
                obtain ⟨I48, eI48⟩ := zex (va_up I43 10 (upd (I43 10) x24.toNatClampNeg (I43 10 (8 + x24).toNatClampNeg)))
                replace hf := zn_s eI48 hf
                refine zast_i hx hb E.1 hP hD.D hS (aX12_11) g49 dX12_lay_170 eI48 (fun H locs hP hS => ?_)
                exact hjr46 _ (Option.some.inj hf) _ _ _ hP hS (lv_sub hl [0, 1] rfl)
            refine lv_icmp_ge (tgt := 150) hx hb dX12_lay_132 (by decide) (fun k37 => ?_) (fun k37 => ?_)
            · replace hf := zt k37 hf
              exact hjr39 _ (Option.some.inj hf) _ _ _ hP hS (lv_sub hl [0, 1] rfl)
            · replace hf := zf k37 hf
              refine lv_aload_n hx hb dX12_lay_135 rfl (lv_at hl 0 rfl) ?_
              refine va_get (D := D) (ci := 11) (v := .ref (ad 6)) (C := RX12) (T := TX12) (N := 31) hx hb hts hinX12_lay_X12 hown E.1 hP 0 (zO.get (oX12_at)) rfl 7 (by decide) (hts (.fieldLink RX12 26 "EdgeAndSpeedModel" "piece" "[I") (by decide +kernel)) (fun _ h9 => h9) rfl dX12_lay_136 ?_
              refine lv_iload_n hx hb dX12_lay_139 rfl (lv_at hl 1 rfl) ?_
              refine lv_aload_n hx hb dX12_lay_140 rfl (lv_at hl 0 rfl) ?_
              refine va_get (D := D) (ci := 11) (v := .ref (ad 6)) (C := RX12) (T := TX12) (N := 31) hx hb hts hinX12_lay_X12 hown E.1 hP 0 (zO.get (oX12_at)) rfl 7 (by decide) (hts (.fieldLink RX12 26 "EdgeAndSpeedModel" "piece" "[I") (by decide +kernel)) (fun _ h9 => h9) rfl dX12_lay_141 ?_
              refine lv_bipush (v := 32) hx hb dX12_lay_144 (by decide) ?_
              refine lv_iload_n hx hb dX12_lay_146 rfl (lv_at hl 1 rfl) ?_
              refine lv_iadd hx hb dX12_lay_147 ?_
              obtain ⟨g40, hf⟩ := zg_i hf
              refine va_iald hx hb E.1 hP 6 1 (zIA.get (aX12_7)) rfl g40 dX12_lay_148 ?_
              obtain ⟨g42, hf⟩ := zg_i hf
              obtain ⟨I41, eI41⟩ := zex (va_up I36 6 (upd (I36 6) x24.toNatClampNeg (I36 6 (32 + x24).toNatClampNeg)))
              replace hf := zn_s eI41 hf
              refine zast_i hx hb E.1 hP hD.D hS (aX12_7) g42 dX12_lay_149 eI41 (fun H locs hP hS => ?_)
              exact hjr39 _ (Option.some.inj hf) _ _ _ hP hS (lv_sub hl [0, 1] rfl)
          refine lv_icmp_ge (tgt := 129) hx hb dX12_lay_111 (by decide) (fun k30 => ?_) (fun k30 => ?_)
          · replace hf := zt k30 hf
            exact hjr32 _ (Option.some.inj hf) _ _ _ hP hS (lv_sub hl [0, 1] rfl)
          · replace hf := zf k30 hf
            refine lv_aload_n hx hb dX12_lay_114 rfl (lv_at hl 0 rfl) ?_
            refine va_get (D := D) (ci := 11) (v := .ref (ad 4)) (C := RX12) (T := TX12) (N := 31) hx hb hts hinX12_lay_X12 hown E.1 hP 0 (zO.get (oX12_at)) rfl 5 (by decide) (hts (.fieldLink RX12 20 "EdgeAndSpeedModel" "speed" "[I") (by decide +kernel)) (fun _ h9 => h9) rfl dX12_lay_115 ?_
            refine lv_iload_n hx hb dX12_lay_118 rfl (lv_at hl 1 rfl) ?_
            refine lv_aload_n hx hb dX12_lay_119 rfl (lv_at hl 0 rfl) ?_
            refine va_get (D := D) (ci := 11) (v := .ref (ad 4)) (C := RX12) (T := TX12) (N := 31) hx hb hts hinX12_lay_X12 hown E.1 hP 0 (zO.get (oX12_at)) rfl 5 (by decide) (hts (.fieldLink RX12 20 "EdgeAndSpeedModel" "speed" "[I") (by decide +kernel)) (fun _ h9 => h9) rfl dX12_lay_120 ?_
            refine lv_bipush (v := 12) hx hb dX12_lay_123 (by decide) ?_
            refine lv_iload_n hx hb dX12_lay_125 rfl (lv_at hl 1 rfl) ?_
            refine lv_iadd hx hb dX12_lay_126 ?_
            obtain ⟨g33, hf⟩ := zg_i hf
            refine va_iald hx hb E.1 hP 4 1 (zIA.get (aX12_5)) rfl g33 dX12_lay_127 ?_
            obtain ⟨g35, hf⟩ := zg_i hf
            obtain ⟨I34, eI34⟩ := zex (va_up I28 4 (upd (I28 4) x24.toNatClampNeg (I28 4 (12 + x24).toNatClampNeg)))
            replace hf := zn_s eI34 hf
            refine zast_i hx hb E.1 hP hD.D hS (aX12_5) g35 dX12_lay_128 eI34 (fun H locs hP hS => ?_)
            exact hjr32 _ (Option.some.inj hf) _ _ _ hP hS (lv_sub hl [0, 1] rfl)
      · replace hf := zt k8 hf
        refine lv_bipush (v := (-2)) hx hb dX12_lay_27 (by decide) ?_
        exact hret _ _ hf _ _ _ _ hP hS dX12_lay_29
theorem c_X12_lay (l : Launch) {D : va_G} {a0 : Nat → Nat} {A : Nat → Prop} {cy : Nat → ClassId} {ad : Nat → Nat} (hD : zD A 25 ad) {I : zI} {J : zJ}  {rx : Int32} {rI : zI} (hf : f_X12_lay I J = some (rx, rI)) : Met l yX12_lay wsX12_lay { frames := 4, cells := 0, slots := 0, locals := 95 } (zPc D a0 A cy [.ref (ad 0)] (zw 25 (kM cy ad) ad I J)) (zQi D A rx (zw 25 (kM cy ad) ad rI J)) 0 0 A :=
  zmet RX12 (by decide) rfl rfl (Nat.le_of_ble_eq_true rfl) (fun p e R s m below meth c Q hfr hlo ls S0 hQ => w_X12_lay hfr hlo hD  hf S0 (fun tx tI hq H locs ls pc hP hS hd => by cases hq; exact hQ H locs _ hS (fun hx hb hr hlocks hfree => W.iret hx hb hr (fun t ht hW => ⟨⟨_, (), rfl, rfl, zht ht hP⟩, hS.F ht⟩) hfree hd hlocks)))
theorem ddX12_lay : yX12_lay.cls = RX12 ∧ yX12_lay.cls ≠ "java/lang/invoke/MethodHandle" ∧ yX12_lay.cls ≠ "java/lang/invoke/VarHandle" ∧ (parseMethodDescriptor yX12_lay.desc).map (fun d => d.parameters.length) = some 0 := by decide +kernel

def f_X12_isPiece (I : zI) (J : zJ) (p1 : Int32) : Option Int32 := zg (¬ ((0 : Int32) < 0 ∨ 2 ≤ (0 : Int32).toNatClampNeg)) (zb1 (f_X12_in I J (p1.toInt64) 0 (((I 5 (0 : Int32).toNatClampNeg) - 1).toInt64)) (fun x2 => zg (x2 = 0 ∨ x2 = 1) (some x2)))
theorem hinX12_isPiece_X12 : ∀ w ∈ u_ws RX12 TX12 31, w ∈ wsX12_isPiece := by decide +kernel
set_option maxHeartbeats 4000000 in
set_option maxRecDepth 100000 in
theorem w_X12_isPiece {p : Program} {l : Launch} {e : Env} {R : Room} {s : State} {m : MethodId} {args : Array Value} {below : List Frame} {meth : Method} {c : Code} {Q : State → Prop} (hfr : 1 ≤ R.frames) (hlo : 25 ≤ R.locals) {D : va_G} {a0 : Nat → Nat} {A : Nat → Prop} {cy : Nat → ClassId} {ad : Nat → Nat} (hD : zD A 25 ad) {I : zI} {J : zJ} (p1 : Int32) {rx : Int32} (hf : f_X12_isPiece I J p1 = some rx) {ls : Array Slot} (S0 : zSt p m c cX12_isPiece 2 s args wsX12_isPiece RX12 D a0 A cy (zw 25 (kM cy ad) ad I J) [.ref (ad 0), .int p1] ls) (hret : ∀ (tx : Int32), some tx = some rx → (tx = 0 ∨ tx = 1) → ∀ (H : Heap) (locs : List Loc) (ls : Array Slot) (pc : Nat), va_P D vwCl (zw 25 (kM cy ad) ad I J) H → va_S A s.heap H locs → decode cX12_isPiece pc = .ok (.ireturn, 1) → W p l e R s m args below meth c H locs 0 0 Q (F0 m pc ls [.int tx])) : W p l e R s m args below meth c s.heap [] 0 0 Q (F0 m 0 ls []) := by
  obtain ⟨S, E, hP, hl⟩ := S0
  obtain ⟨hx, hb, hml, hown, hts⟩ := id S
  have hS : va_S A s.heap s.heap [] := va_S.rf
  replace hl : lv_has ls 2 [(0, .ref (ad 0)), (1, .int p1)] := hl
  unfold f_X12_isPiece at hf
  refine lv_iload_n hx hb dX12_isPiece_0 rfl (lv_at hl 1 rfl) ?_
  refine lv_i2l hx hb dX12_isPiece_1 rfl ?_
  refine lv_lconst (v := 0) hx hb dX12_isPiece_2 (by decide) ?_
  refine lv_aload_n hx hb dX12_isPiece_3 rfl (lv_at hl 0 rfl) ?_
  refine va_get (D := D) (ci := 11) (v := .ref (ad 5)) (C := RX12) (T := TX12) (N := 31) hx hb hts hinX12_isPiece_X12 hown E.1 hP 0 (zO.get (oX12_at)) rfl 6 (by decide) (hts (.fieldLink RX12 23 "EdgeAndSpeedModel" "pieces" "[I") (by decide +kernel)) (fun _ h9 => h9) rfl dX12_isPiece_4 ?_
  refine lv_iconst (v := 0) hx hb dX12_isPiece_7 (by decide) ?_
  obtain ⟨g1, hf⟩ := zg_i hf
  refine va_iald hx hb E.1 hP 5 1 (zIA.get (aX12_6)) rfl g1 dX12_isPiece_8 ?_
  refine lv_iconst (v := 1) hx hb dX12_isPiece_9 (by decide) ?_
  refine lv_isub hx hb dX12_isPiece_10 ?_
  refine lv_i2l hx hb dX12_isPiece_11 rfl ?_
  obtain ⟨x2, h3, hf⟩ := zb1_e hf
  refine zgo_i (zrunS (As := [.long (p1.toInt64), .long 0, .long (((I 5 (0 : Int32).toNatClampNeg) - 1).toInt64)]) (rest := []) S (c_X12_in l hD (p1.toInt64) 0 (((I 5 (0 : Int32).toNatClampNeg) - 1).toInt64) h3) (va_cwS 3 hts gX12_isPiece_X12_in rfl rfl rfl ddX12_in ⟨Nat.le_trans (Nat.le_of_ble_eq_true rfl) hfr, Nat.le_trans (Nat.le_of_ble_eq_true rfl) hlo⟩) E hP hS hl.1 rfl rfl (Nat.le_of_ble_eq_true rfl) dX12_isPiece_12) hS (fun H locs hP hS => ?_)
  obtain ⟨g0, hf⟩ := zg_i hf
  exact hret _ hf g0 _ _ _ _ hP hS dX12_isPiece_15
theorem c_X12_isPiece (l : Launch) {D : va_G} {a0 : Nat → Nat} {A : Nat → Prop} {cy : Nat → ClassId} {ad : Nat → Nat} (hD : zD A 25 ad) {I : zI} {J : zJ} (p1 : Int32) {rx : Int32} (hf : f_X12_isPiece I J p1 = some rx) : Met l yX12_isPiece wsX12_isPiece { frames := 1, cells := 0, slots := 0, locals := 25 } (zPc D a0 A cy [.ref (ad 0), .int p1] (zw 25 (kM cy ad) ad I J)) (zQi D A rx (zw 25 (kM cy ad) ad I J)) 0 0 A :=
  zmet RX12 (by decide) rfl rfl (Nat.le_of_ble_eq_true rfl) (fun p e R s m below meth c Q hfr hlo ls S0 hQ => w_X12_isPiece hfr hlo hD p1 hf S0 (fun tx hq n01 H locs ls pc hP hS hd => by cases hq; exact hQ H locs _ hS (fun hx hb hr hlocks hfree => W.zret hx hb hr (z01 n01) (fun t ht hW => ⟨⟨_, (), rfl, rfl, zht ht hP⟩, hS.F ht⟩) hfree hd hlocks)))
theorem ddX12_isPiece : yX12_isPiece.cls = RX12 ∧ yX12_isPiece.cls ≠ "java/lang/invoke/MethodHandle" ∧ yX12_isPiece.cls ≠ "java/lang/invoke/VarHandle" ∧ (parseMethodDescriptor yX12_isPiece.desc).map (fun d => d.parameters.length) = some 1 := by decide +kernel

def f_X12_isSpeed (I : zI) (J : zJ) (p1 : Int32) : Option Int32 := zg (¬ ((0 : Int32) < 0 ∨ 2 ≤ (0 : Int32).toNatClampNeg)) (zb1 (f_X12_in I J (p1.toInt64) 0 (((I 3 (0 : Int32).toNatClampNeg) - 1).toInt64)) (fun x2 => zg (x2 = 0 ∨ x2 = 1) (some x2)))
theorem hinX12_isSpeed_X12 : ∀ w ∈ u_ws RX12 TX12 31, w ∈ wsX12_isSpeed := by decide +kernel
set_option maxHeartbeats 4000000 in
set_option maxRecDepth 100000 in
theorem w_X12_isSpeed {p : Program} {l : Launch} {e : Env} {R : Room} {s : State} {m : MethodId} {args : Array Value} {below : List Frame} {meth : Method} {c : Code} {Q : State → Prop} (hfr : 1 ≤ R.frames) (hlo : 25 ≤ R.locals) {D : va_G} {a0 : Nat → Nat} {A : Nat → Prop} {cy : Nat → ClassId} {ad : Nat → Nat} (hD : zD A 25 ad) {I : zI} {J : zJ} (p1 : Int32) {rx : Int32} (hf : f_X12_isSpeed I J p1 = some rx) {ls : Array Slot} (S0 : zSt p m c cX12_isSpeed 2 s args wsX12_isSpeed RX12 D a0 A cy (zw 25 (kM cy ad) ad I J) [.ref (ad 0), .int p1] ls) (hret : ∀ (tx : Int32), some tx = some rx → (tx = 0 ∨ tx = 1) → ∀ (H : Heap) (locs : List Loc) (ls : Array Slot) (pc : Nat), va_P D vwCl (zw 25 (kM cy ad) ad I J) H → va_S A s.heap H locs → decode cX12_isSpeed pc = .ok (.ireturn, 1) → W p l e R s m args below meth c H locs 0 0 Q (F0 m pc ls [.int tx])) : W p l e R s m args below meth c s.heap [] 0 0 Q (F0 m 0 ls []) := by
  obtain ⟨S, E, hP, hl⟩ := S0
  obtain ⟨hx, hb, hml, hown, hts⟩ := id S
  have hS : va_S A s.heap s.heap [] := va_S.rf
  replace hl : lv_has ls 2 [(0, .ref (ad 0)), (1, .int p1)] := hl
  unfold f_X12_isSpeed at hf
  refine lv_iload_n hx hb dX12_isSpeed_0 rfl (lv_at hl 1 rfl) ?_
  refine lv_i2l hx hb dX12_isSpeed_1 rfl ?_
  refine lv_lconst (v := 0) hx hb dX12_isSpeed_2 (by decide) ?_
  refine lv_aload_n hx hb dX12_isSpeed_3 rfl (lv_at hl 0 rfl) ?_
  refine va_get (D := D) (ci := 11) (v := .ref (ad 3)) (C := RX12) (T := TX12) (N := 31) hx hb hts hinX12_isSpeed_X12 hown E.1 hP 0 (zO.get (oX12_at)) rfl 4 (by decide) (hts (.fieldLink RX12 17 "EdgeAndSpeedModel" "speeds" "[I") (by decide +kernel)) (fun _ h9 => h9) rfl dX12_isSpeed_4 ?_
  refine lv_iconst (v := 0) hx hb dX12_isSpeed_7 (by decide) ?_
  obtain ⟨g1, hf⟩ := zg_i hf
  refine va_iald hx hb E.1 hP 3 1 (zIA.get (aX12_4)) rfl g1 dX12_isSpeed_8 ?_
  refine lv_iconst (v := 1) hx hb dX12_isSpeed_9 (by decide) ?_
  refine lv_isub hx hb dX12_isSpeed_10 ?_
  refine lv_i2l hx hb dX12_isSpeed_11 rfl ?_
  obtain ⟨x2, h3, hf⟩ := zb1_e hf
  refine zgo_i (zrunS (As := [.long (p1.toInt64), .long 0, .long (((I 3 (0 : Int32).toNatClampNeg) - 1).toInt64)]) (rest := []) S (c_X12_in l hD (p1.toInt64) 0 (((I 3 (0 : Int32).toNatClampNeg) - 1).toInt64) h3) (va_cwS 3 hts gX12_isSpeed_X12_in rfl rfl rfl ddX12_in ⟨Nat.le_trans (Nat.le_of_ble_eq_true rfl) hfr, Nat.le_trans (Nat.le_of_ble_eq_true rfl) hlo⟩) E hP hS hl.1 rfl rfl (Nat.le_of_ble_eq_true rfl) dX12_isSpeed_12) hS (fun H locs hP hS => ?_)
  obtain ⟨g0, hf⟩ := zg_i hf
  exact hret _ hf g0 _ _ _ _ hP hS dX12_isSpeed_15
theorem c_X12_isSpeed (l : Launch) {D : va_G} {a0 : Nat → Nat} {A : Nat → Prop} {cy : Nat → ClassId} {ad : Nat → Nat} (hD : zD A 25 ad) {I : zI} {J : zJ} (p1 : Int32) {rx : Int32} (hf : f_X12_isSpeed I J p1 = some rx) : Met l yX12_isSpeed wsX12_isSpeed { frames := 1, cells := 0, slots := 0, locals := 25 } (zPc D a0 A cy [.ref (ad 0), .int p1] (zw 25 (kM cy ad) ad I J)) (zQi D A rx (zw 25 (kM cy ad) ad I J)) 0 0 A :=
  zmet RX12 (by decide) rfl rfl (Nat.le_of_ble_eq_true rfl) (fun p e R s m below meth c Q hfr hlo ls S0 hQ => w_X12_isSpeed hfr hlo hD p1 hf S0 (fun tx hq n01 H locs ls pc hP hS hd => by cases hq; exact hQ H locs _ hS (fun hx hb hr hlocks hfree => W.zret hx hb hr (z01 n01) (fun t ht hW => ⟨⟨_, (), rfl, rfl, zht ht hP⟩, hS.F ht⟩) hfree hd hlocks)))
theorem ddX12_isSpeed : yX12_isSpeed.cls = RX12 ∧ yX12_isSpeed.cls ≠ "java/lang/invoke/MethodHandle" ∧ yX12_isSpeed.cls ≠ "java/lang/invoke/VarHandle" ∧ (parseMethodDescriptor yX12_isSpeed.desc).map (fun d => d.parameters.length) = some 1 := by decide +kernel

def f_X12_isSteel (I : zI) (J : zJ) (p1 : Int32) : Option Int32 := zg (¬ ((0 : Int32) < 0 ∨ 2 ≤ (0 : Int32).toNatClampNeg)) (zb1 (f_X12_in I J (p1.toInt64) 0 (((I 9 (0 : Int32).toNatClampNeg) - 1).toInt64)) (fun x2 => zg (x2 = 0 ∨ x2 = 1) (some x2)))
theorem hinX12_isSteel_X12 : ∀ w ∈ u_ws RX12 TX12 31, w ∈ wsX12_isSteel := by decide +kernel
set_option maxHeartbeats 4000000 in
set_option maxRecDepth 100000 in
theorem w_X12_isSteel {p : Program} {l : Launch} {e : Env} {R : Room} {s : State} {m : MethodId} {args : Array Value} {below : List Frame} {meth : Method} {c : Code} {Q : State → Prop} (hfr : 1 ≤ R.frames) (hlo : 25 ≤ R.locals) {D : va_G} {a0 : Nat → Nat} {A : Nat → Prop} {cy : Nat → ClassId} {ad : Nat → Nat} (hD : zD A 25 ad) {I : zI} {J : zJ} (p1 : Int32) {rx : Int32} (hf : f_X12_isSteel I J p1 = some rx) {ls : Array Slot} (S0 : zSt p m c cX12_isSteel 2 s args wsX12_isSteel RX12 D a0 A cy (zw 25 (kM cy ad) ad I J) [.ref (ad 0), .int p1] ls) (hret : ∀ (tx : Int32), some tx = some rx → (tx = 0 ∨ tx = 1) → ∀ (H : Heap) (locs : List Loc) (ls : Array Slot) (pc : Nat), va_P D vwCl (zw 25 (kM cy ad) ad I J) H → va_S A s.heap H locs → decode cX12_isSteel pc = .ok (.ireturn, 1) → W p l e R s m args below meth c H locs 0 0 Q (F0 m pc ls [.int tx])) : W p l e R s m args below meth c s.heap [] 0 0 Q (F0 m 0 ls []) := by
  obtain ⟨S, E, hP, hl⟩ := S0
  obtain ⟨hx, hb, hml, hown, hts⟩ := id S
  have hS : va_S A s.heap s.heap [] := va_S.rf
  replace hl : lv_has ls 2 [(0, .ref (ad 0)), (1, .int p1)] := hl
  unfold f_X12_isSteel at hf
  refine lv_iload_n hx hb dX12_isSteel_0 rfl (lv_at hl 1 rfl) ?_
  refine lv_i2l hx hb dX12_isSteel_1 rfl ?_
  refine lv_lconst (v := 0) hx hb dX12_isSteel_2 (by decide) ?_
  refine lv_aload_n hx hb dX12_isSteel_3 rfl (lv_at hl 0 rfl) ?_
  refine va_get (D := D) (ci := 11) (v := .ref (ad 9)) (C := RX12) (T := TX12) (N := 31) hx hb hts hinX12_isSteel_X12 hown E.1 hP 0 (zO.get (oX12_at)) rfl 10 (by decide) (hts (.fieldLink RX12 35 "EdgeAndSpeedModel" "steels" "[I") (by decide +kernel)) (fun _ h9 => h9) rfl dX12_isSteel_4 ?_
  refine lv_iconst (v := 0) hx hb dX12_isSteel_7 (by decide) ?_
  obtain ⟨g1, hf⟩ := zg_i hf
  refine va_iald hx hb E.1 hP 9 1 (zIA.get (aX12_10)) rfl g1 dX12_isSteel_8 ?_
  refine lv_iconst (v := 1) hx hb dX12_isSteel_9 (by decide) ?_
  refine lv_isub hx hb dX12_isSteel_10 ?_
  refine lv_i2l hx hb dX12_isSteel_11 rfl ?_
  obtain ⟨x2, h3, hf⟩ := zb1_e hf
  refine zgo_i (zrunS (As := [.long (p1.toInt64), .long 0, .long (((I 9 (0 : Int32).toNatClampNeg) - 1).toInt64)]) (rest := []) S (c_X12_in l hD (p1.toInt64) 0 (((I 9 (0 : Int32).toNatClampNeg) - 1).toInt64) h3) (va_cwS 3 hts gX12_isSteel_X12_in rfl rfl rfl ddX12_in ⟨Nat.le_trans (Nat.le_of_ble_eq_true rfl) hfr, Nat.le_trans (Nat.le_of_ble_eq_true rfl) hlo⟩) E hP hS hl.1 rfl rfl (Nat.le_of_ble_eq_true rfl) dX12_isSteel_12) hS (fun H locs hP hS => ?_)
  obtain ⟨g0, hf⟩ := zg_i hf
  exact hret _ hf g0 _ _ _ _ hP hS dX12_isSteel_15
theorem c_X12_isSteel (l : Launch) {D : va_G} {a0 : Nat → Nat} {A : Nat → Prop} {cy : Nat → ClassId} {ad : Nat → Nat} (hD : zD A 25 ad) {I : zI} {J : zJ} (p1 : Int32) {rx : Int32} (hf : f_X12_isSteel I J p1 = some rx) : Met l yX12_isSteel wsX12_isSteel { frames := 1, cells := 0, slots := 0, locals := 25 } (zPc D a0 A cy [.ref (ad 0), .int p1] (zw 25 (kM cy ad) ad I J)) (zQi D A rx (zw 25 (kM cy ad) ad I J)) 0 0 A :=
  zmet RX12 (by decide) rfl rfl (Nat.le_of_ble_eq_true rfl) (fun p e R s m below meth c Q hfr hlo ls S0 hQ => w_X12_isSteel hfr hlo hD p1 hf S0 (fun tx hq n01 H locs ls pc hP hS hd => by cases hq; exact hQ H locs _ hS (fun hx hb hr hlocks hfree => W.zret hx hb hr (z01 n01) (fun t ht hW => ⟨⟨_, (), rfl, rfl, zht ht hP⟩, hS.F ht⟩) hfree hd hlocks)))
theorem ddX12_isSteel : yX12_isSteel.cls = RX12 ∧ yX12_isSteel.cls ≠ "java/lang/invoke/MethodHandle" ∧ yX12_isSteel.cls ≠ "java/lang/invoke/VarHandle" ∧ (parseMethodDescriptor yX12_isSteel.desc).map (fun d => d.parameters.length) = some 1 := by decide +kernel

def f_X12_minutes (I : zI) (J : zJ) (p1 : Int32) (p2 : Int32) : Option Int32 := zg (¬ ((4 * p1) < 0 ∨ 64 ≤ (4 * p1).toNatClampNeg)) (zg (¬ ((2 * p2) < 0 ∨ 24 ≤ (2 * p2).toNatClampNeg)) (zg (¬ ((2 * p2) < 0 ∨ 24 ≤ (2 * p2).toNatClampNeg)) (zg (¬ (I 4 (2 * p2).toNatClampNeg) = 0) (some ((((100 * (I 6 (4 * p1).toNatClampNeg)) + (I 4 (2 * p2).toNatClampNeg)) - 1) / (I 4 (2 * p2).toNatClampNeg))))))
theorem hinX12_minutes_X12 : ∀ w ∈ u_ws RX12 TX12 31, w ∈ wsX12_minutes := by decide +kernel
set_option maxHeartbeats 4000000 in
set_option maxRecDepth 100000 in
theorem w_X12_minutes {p : Program} {l : Launch} {e : Env} {R : Room} {s : State} {m : MethodId} {args : Array Value} {below : List Frame} {meth : Method} {c : Code} {Q : State → Prop} (hfr : 0 ≤ R.frames) (hlo : 0 ≤ R.locals) {D : va_G} {a0 : Nat → Nat} {A : Nat → Prop} {cy : Nat → ClassId} {ad : Nat → Nat} (hD : zD A 25 ad) {I : zI} {J : zJ} (p1 : Int32) (p2 : Int32) {rx : Int32} (hf : f_X12_minutes I J p1 p2 = some rx) {ls : Array Slot} (S0 : zSt p m c cX12_minutes 3 s args wsX12_minutes RX12 D a0 A cy (zw 25 (kM cy ad) ad I J) [.ref (ad 0), .int p1, .int p2] ls) (hret : ∀ (tx : Int32), some tx = some rx → ∀ (H : Heap) (locs : List Loc) (ls : Array Slot) (pc : Nat), va_P D vwCl (zw 25 (kM cy ad) ad I J) H → va_S A s.heap H locs → decode cX12_minutes pc = .ok (.ireturn, 1) → W p l e R s m args below meth c H locs 0 0 Q (F0 m pc ls [.int tx])) : W p l e R s m args below meth c s.heap [] 0 0 Q (F0 m 0 ls []) := by
  obtain ⟨S, E, hP, hl⟩ := S0
  obtain ⟨hx, hb, hml, hown, hts⟩ := id S
  have hS : va_S A s.heap s.heap [] := va_S.rf
  replace hl : lv_has ls 3 [(0, .ref (ad 0)), (1, .int p1), (2, .int p2)] := hl
  unfold f_X12_minutes at hf
  refine lv_bipush (v := 100) hx hb dX12_minutes_0 (by decide) ?_
  refine lv_aload_n hx hb dX12_minutes_2 rfl (lv_at hl 0 rfl) ?_
  refine va_get (D := D) (ci := 11) (v := .ref (ad 6)) (C := RX12) (T := TX12) (N := 31) hx hb hts hinX12_minutes_X12 hown E.1 hP 0 (zO.get (oX12_at)) rfl 7 (by decide) (hts (.fieldLink RX12 26 "EdgeAndSpeedModel" "piece" "[I") (by decide +kernel)) (fun _ h9 => h9) rfl dX12_minutes_3 ?_
  refine lv_iconst (v := 4) hx hb dX12_minutes_6 (by decide) ?_
  refine lv_iload_n hx hb dX12_minutes_7 rfl (lv_at hl 1 rfl) ?_
  refine lv_imul hx hb dX12_minutes_8 ?_
  obtain ⟨g1, hf⟩ := zg_i hf
  refine va_iald hx hb E.1 hP 6 1 (zIA.get (aX12_7)) rfl g1 dX12_minutes_9 ?_
  refine lv_imul hx hb dX12_minutes_10 ?_
  refine lv_aload_n hx hb dX12_minutes_11 rfl (lv_at hl 0 rfl) ?_
  refine va_get (D := D) (ci := 11) (v := .ref (ad 4)) (C := RX12) (T := TX12) (N := 31) hx hb hts hinX12_minutes_X12 hown E.1 hP 0 (zO.get (oX12_at)) rfl 5 (by decide) (hts (.fieldLink RX12 20 "EdgeAndSpeedModel" "speed" "[I") (by decide +kernel)) (fun _ h9 => h9) rfl dX12_minutes_12 ?_
  refine lv_iconst (v := 2) hx hb dX12_minutes_15 (by decide) ?_
  refine lv_iload_n hx hb dX12_minutes_16 rfl (lv_at hl 2 rfl) ?_
  refine lv_imul hx hb dX12_minutes_17 ?_
  obtain ⟨g2, hf⟩ := zg_i hf
  refine va_iald hx hb E.1 hP 4 1 (zIA.get (aX12_5)) rfl g2 dX12_minutes_18 ?_
  refine lv_iadd hx hb dX12_minutes_19 ?_
  refine lv_iconst (v := 1) hx hb dX12_minutes_20 (by decide) ?_
  refine lv_isub hx hb dX12_minutes_21 ?_
  refine lv_aload_n hx hb dX12_minutes_22 rfl (lv_at hl 0 rfl) ?_
  refine va_get (D := D) (ci := 11) (v := .ref (ad 4)) (C := RX12) (T := TX12) (N := 31) hx hb hts hinX12_minutes_X12 hown E.1 hP 0 (zO.get (oX12_at)) rfl 5 (by decide) (hts (.fieldLink RX12 20 "EdgeAndSpeedModel" "speed" "[I") (by decide +kernel)) (fun _ h9 => h9) rfl dX12_minutes_23 ?_
  refine lv_iconst (v := 2) hx hb dX12_minutes_26 (by decide) ?_
  refine lv_iload_n hx hb dX12_minutes_27 rfl (lv_at hl 2 rfl) ?_
  refine lv_imul hx hb dX12_minutes_28 ?_
  obtain ⟨g3, hf⟩ := zg_i hf
  refine va_iald hx hb E.1 hP 4 1 (zIA.get (aX12_5)) rfl g3 dX12_minutes_29 ?_
  obtain ⟨g4, hf⟩ := zg_i hf
  refine lv_idiv hx hb dX12_minutes_30 g4 ?_
  exact hret _ hf _ _ _ _ hP hS dX12_minutes_31
theorem c_X12_minutes (l : Launch) {D : va_G} {a0 : Nat → Nat} {A : Nat → Prop} {cy : Nat → ClassId} {ad : Nat → Nat} (hD : zD A 25 ad) {I : zI} {J : zJ} (p1 : Int32) (p2 : Int32) {rx : Int32} (hf : f_X12_minutes I J p1 p2 = some rx) : Met l yX12_minutes wsX12_minutes { frames := 0, cells := 0, slots := 0, locals := 0 } (zPc D a0 A cy [.ref (ad 0), .int p1, .int p2] (zw 25 (kM cy ad) ad I J)) (zQi D A rx (zw 25 (kM cy ad) ad I J)) 0 0 A :=
  zmet RX12 (by decide) rfl rfl (Nat.le_of_ble_eq_true rfl) (fun p e R s m below meth c Q hfr hlo ls S0 hQ => w_X12_minutes hfr hlo hD p1 p2 hf S0 (fun tx hq H locs ls pc hP hS hd => by cases hq; exact hQ H locs _ hS (fun hx hb hr hlocks hfree => W.iret hx hb hr (fun t ht hW => ⟨⟨_, (), rfl, rfl, zht ht hP⟩, hS.F ht⟩) hfree hd hlocks)))
theorem ddX12_minutes : yX12_minutes.cls = RX12 ∧ yX12_minutes.cls ≠ "java/lang/invoke/MethodHandle" ∧ yX12_minutes.cls ≠ "java/lang/invoke/VarHandle" ∧ (parseMethodDescriptor yX12_minutes.desc).map (fun d => d.parameters.length) = some 2 := by decide +kernel

def f_X12_wears (I : zI) (J : zJ) (p1 : Int32) (p2 : Int32) (p3 : Int32) (p4 : Int32) : Option Int32 := zg (¬ ((4 * p1) < 0 ∨ 64 ≤ (4 * p1).toNatClampNeg)) (zg (¬ (((2 * p2) + 1) < 0 ∨ 24 ≤ ((2 * p2) + 1).toNatClampNeg)) (zg (¬ ((2 * p4) < 0 ∨ 16 ≤ (2 * p4).toNatClampNeg)) (some ((((((I 6 (4 * p1).toNatClampNeg).toInt64 * (I 4 ((2 * p2) + 1).toNatClampNeg).toInt64) * p3.toInt64) * (I 10 (2 * p4).toNatClampNeg).toInt64) / 10000).toInt32))))
theorem hinX12_wears_X12 : ∀ w ∈ u_ws RX12 TX12 31, w ∈ wsX12_wears := by decide +kernel
set_option maxHeartbeats 4000000 in
set_option maxRecDepth 100000 in
theorem w_X12_wears {p : Program} {l : Launch} {e : Env} {R : Room} {s : State} {m : MethodId} {args : Array Value} {below : List Frame} {meth : Method} {c : Code} {Q : State → Prop} (hfr : 0 ≤ R.frames) (hlo : 0 ≤ R.locals) {D : va_G} {a0 : Nat → Nat} {A : Nat → Prop} {cy : Nat → ClassId} {ad : Nat → Nat} (hD : zD A 25 ad) {I : zI} {J : zJ} (p1 : Int32) (p2 : Int32) (p3 : Int32) (p4 : Int32) {rx : Int32} (hf : f_X12_wears I J p1 p2 p3 p4 = some rx) {ls : Array Slot} (S0 : zSt p m c cX12_wears 5 s args wsX12_wears RX12 D a0 A cy (zw 25 (kM cy ad) ad I J) [.ref (ad 0), .int p1, .int p2, .int p3, .int p4] ls) (hret : ∀ (tx : Int32), some tx = some rx → ∀ (H : Heap) (locs : List Loc) (ls : Array Slot) (pc : Nat), va_P D vwCl (zw 25 (kM cy ad) ad I J) H → va_S A s.heap H locs → decode cX12_wears pc = .ok (.ireturn, 1) → W p l e R s m args below meth c H locs 0 0 Q (F0 m pc ls [.int tx])) : W p l e R s m args below meth c s.heap [] 0 0 Q (F0 m 0 ls []) := by
  obtain ⟨S, E, hP, hl⟩ := S0
  obtain ⟨hx, hb, hml, hown, hts⟩ := id S
  have hS : va_S A s.heap s.heap [] := va_S.rf
  replace hl : lv_has ls 5 [(0, .ref (ad 0)), (1, .int p1), (2, .int p2), (3, .int p3), (4, .int p4)] := hl
  unfold f_X12_wears at hf
  refine lv_aload_n hx hb dX12_wears_0 rfl (lv_at hl 0 rfl) ?_
  refine va_get (D := D) (ci := 11) (v := .ref (ad 6)) (C := RX12) (T := TX12) (N := 31) hx hb hts hinX12_wears_X12 hown E.1 hP 0 (zO.get (oX12_at)) rfl 7 (by decide) (hts (.fieldLink RX12 26 "EdgeAndSpeedModel" "piece" "[I") (by decide +kernel)) (fun _ h9 => h9) rfl dX12_wears_1 ?_
  refine lv_iconst (v := 4) hx hb dX12_wears_4 (by decide) ?_
  refine lv_iload_n hx hb dX12_wears_5 rfl (lv_at hl 1 rfl) ?_
  refine lv_imul hx hb dX12_wears_6 ?_
  obtain ⟨g1, hf⟩ := zg_i hf
  refine va_iald hx hb E.1 hP 6 1 (zIA.get (aX12_7)) rfl g1 dX12_wears_7 ?_
  refine lv_i2l hx hb dX12_wears_8 rfl ?_
  refine lv_aload_n hx hb dX12_wears_9 rfl (lv_at hl 0 rfl) ?_
  refine va_get (D := D) (ci := 11) (v := .ref (ad 4)) (C := RX12) (T := TX12) (N := 31) hx hb hts hinX12_wears_X12 hown E.1 hP 0 (zO.get (oX12_at)) rfl 5 (by decide) (hts (.fieldLink RX12 20 "EdgeAndSpeedModel" "speed" "[I") (by decide +kernel)) (fun _ h9 => h9) rfl dX12_wears_10 ?_
  refine lv_iconst (v := 2) hx hb dX12_wears_13 (by decide) ?_
  refine lv_iload_n hx hb dX12_wears_14 rfl (lv_at hl 2 rfl) ?_
  refine lv_imul hx hb dX12_wears_15 ?_
  refine lv_iconst (v := 1) hx hb dX12_wears_16 (by decide) ?_
  refine lv_iadd hx hb dX12_wears_17 ?_
  obtain ⟨g2, hf⟩ := zg_i hf
  refine va_iald hx hb E.1 hP 4 1 (zIA.get (aX12_5)) rfl g2 dX12_wears_18 ?_
  refine lv_i2l hx hb dX12_wears_19 rfl ?_
  refine lv_lmul hx hb dX12_wears_20 ?_
  refine lv_iload_n hx hb dX12_wears_21 rfl (lv_at hl 3 rfl) ?_
  refine lv_i2l hx hb dX12_wears_22 rfl ?_
  refine lv_lmul hx hb dX12_wears_23 ?_
  refine lv_aload_n hx hb dX12_wears_24 rfl (lv_at hl 0 rfl) ?_
  refine va_get (D := D) (ci := 11) (v := .ref (ad 10)) (C := RX12) (T := TX12) (N := 31) hx hb hts hinX12_wears_X12 hown E.1 hP 0 (zO.get (oX12_at)) rfl 11 (by decide) (hts (.fieldLink RX12 38 "EdgeAndSpeedModel" "steel" "[I") (by decide +kernel)) (fun _ h9 => h9) rfl dX12_wears_25 ?_
  refine lv_iconst (v := 2) hx hb dX12_wears_28 (by decide) ?_
  refine lv_iload hx hb dX12_wears_29 (lv_at hl 4 rfl) ?_
  refine lv_imul hx hb dX12_wears_31 ?_
  obtain ⟨g3, hf⟩ := zg_i hf
  refine va_iald hx hb E.1 hP 10 1 (zIA.get (aX12_11)) rfl g3 dX12_wears_32 ?_
  refine lv_i2l hx hb dX12_wears_33 rfl ?_
  refine lv_lmul hx hb dX12_wears_34 ?_
  refine lv_ldc2 hx hb hown (hts (.constantLong RX12 139 10000) (by decide +kernel)) dX12_wears_35 ?_
  refine lv_ldiv hx hb dX12_wears_38 (by decide) ?_
  refine lv_l2i hx hb dX12_wears_39 rfl ?_
  exact hret _ hf _ _ _ _ hP hS dX12_wears_40
theorem c_X12_wears (l : Launch) {D : va_G} {a0 : Nat → Nat} {A : Nat → Prop} {cy : Nat → ClassId} {ad : Nat → Nat} (hD : zD A 25 ad) {I : zI} {J : zJ} (p1 : Int32) (p2 : Int32) (p3 : Int32) (p4 : Int32) {rx : Int32} (hf : f_X12_wears I J p1 p2 p3 p4 = some rx) : Met l yX12_wears wsX12_wears { frames := 0, cells := 0, slots := 0, locals := 0 } (zPc D a0 A cy [.ref (ad 0), .int p1, .int p2, .int p3, .int p4] (zw 25 (kM cy ad) ad I J)) (zQi D A rx (zw 25 (kM cy ad) ad I J)) 0 0 A :=
  zmet RX12 (by decide) rfl rfl (Nat.le_of_ble_eq_true rfl) (fun p e R s m below meth c Q hfr hlo ls S0 hQ => w_X12_wears hfr hlo hD p1 p2 p3 p4 hf S0 (fun tx hq H locs ls pc hP hS hd => by cases hq; exact hQ H locs _ hS (fun hx hb hr hlocks hfree => W.iret hx hb hr (fun t ht hW => ⟨⟨_, (), rfl, rfl, zht ht hP⟩, hS.F ht⟩) hfree hd hlocks)))
theorem ddX12_wears : yX12_wears.cls = RX12 ∧ yX12_wears.cls ≠ "java/lang/invoke/MethodHandle" ∧ yX12_wears.cls ≠ "java/lang/invoke/VarHandle" ∧ (parseMethodDescriptor yX12_wears.desc).map (fun d => d.parameters.length) = some 4 := by decide +kernel

def f_X12_may (I : zI) (J : zJ) (p1 : Int32) (p2 : Int32) : Option Int32 := zg (¬ ((3 : Int32) < 0 ∨ 10 ≤ (3 : Int32).toNatClampNeg)) ((if (I 11 (3 : Int32).toNatClampNeg) < p2 then some 0 else zg (¬ ((2 * p1) < 0 ∨ 24 ≤ (2 * p1).toNatClampNeg)) (zg (¬ ((4 : Int32) < 0 ∨ 10 ≤ (4 : Int32).toNatClampNeg)) ((if (I 11 (4 : Int32).toNatClampNeg) < ((I 4 (2 * p1).toNatClampNeg) * p2) then some 0 else some 1)))))
theorem hinX12_may_X12 : ∀ w ∈ u_ws RX12 TX12 31, w ∈ wsX12_may := by decide +kernel
set_option maxHeartbeats 4000000 in
set_option maxRecDepth 100000 in
theorem w_X12_may {p : Program} {l : Launch} {e : Env} {R : Room} {s : State} {m : MethodId} {args : Array Value} {below : List Frame} {meth : Method} {c : Code} {Q : State → Prop} (hfr : 0 ≤ R.frames) (hlo : 0 ≤ R.locals) {D : va_G} {a0 : Nat → Nat} {A : Nat → Prop} {cy : Nat → ClassId} {ad : Nat → Nat} (hD : zD A 25 ad) {I : zI} {J : zJ} (p1 : Int32) (p2 : Int32) {rx : Int32} (hf : f_X12_may I J p1 p2 = some rx) {ls : Array Slot} (S0 : zSt p m c cX12_may 3 s args wsX12_may RX12 D a0 A cy (zw 25 (kM cy ad) ad I J) [.ref (ad 0), .int p1, .int p2] ls) (hret : ∀ (tx : Int32), some tx = some rx → (tx = 0 ∨ tx = 1) → ∀ (H : Heap) (locs : List Loc) (ls : Array Slot) (pc : Nat), va_P D vwCl (zw 25 (kM cy ad) ad I J) H → va_S A s.heap H locs → decode cX12_may pc = .ok (.ireturn, 1) → W p l e R s m args below meth c H locs 0 0 Q (F0 m pc ls [.int tx])) : W p l e R s m args below meth c s.heap [] 0 0 Q (F0 m 0 ls []) := by
  obtain ⟨S, E, hP, hl⟩ := S0
  obtain ⟨hx, hb, hml, hown, hts⟩ := id S
  have hS : va_S A s.heap s.heap [] := va_S.rf
  replace hl : lv_has ls 3 [(0, .ref (ad 0)), (1, .int p1), (2, .int p2)] := hl
  unfold f_X12_may at hf
  refine lv_iload_n hx hb dX12_may_0 rfl (lv_at hl 2 rfl) ?_
  refine lv_aload_n hx hb dX12_may_1 rfl (lv_at hl 0 rfl) ?_
  refine va_get (D := D) (ci := 11) (v := .ref (ad 11)) (C := RX12) (T := TX12) (N := 31) hx hb hts hinX12_may_X12 hown E.1 hP 0 (zO.get (oX12_at)) rfl 12 (by decide) (hts (.fieldLink RX12 41 "EdgeAndSpeedModel" "rest" "[I") (by decide +kernel)) (fun _ h9 => h9) rfl dX12_may_2 ?_
  refine lv_iconst (v := 3) hx hb dX12_may_5 (by decide) ?_
  obtain ⟨g1, hf⟩ := zg_i hf
  refine va_iald hx hb E.1 hP 11 1 (zIA.get (aX12_12)) rfl g1 dX12_may_6 ?_
  refine lv_icmp_gt (tgt := 33) hx hb dX12_may_7 (by decide) (fun k2 => ?_) (fun k2 => ?_)
  · replace hf := zt k2 hf
    refine lv_iconst (v := 0) hx hb dX12_may_33 (by decide) ?_
    exact hret _ hf (Or.inl rfl) _ _ _ _ hP hS dX12_may_34
  · replace hf := zf k2 hf
    refine lv_aload_n hx hb dX12_may_10 rfl (lv_at hl 0 rfl) ?_
    refine va_get (D := D) (ci := 11) (v := .ref (ad 4)) (C := RX12) (T := TX12) (N := 31) hx hb hts hinX12_may_X12 hown E.1 hP 0 (zO.get (oX12_at)) rfl 5 (by decide) (hts (.fieldLink RX12 20 "EdgeAndSpeedModel" "speed" "[I") (by decide +kernel)) (fun _ h9 => h9) rfl dX12_may_11 ?_
    refine lv_iconst (v := 2) hx hb dX12_may_14 (by decide) ?_
    refine lv_iload_n hx hb dX12_may_15 rfl (lv_at hl 1 rfl) ?_
    refine lv_imul hx hb dX12_may_16 ?_
    obtain ⟨g3, hf⟩ := zg_i hf
    refine va_iald hx hb E.1 hP 4 1 (zIA.get (aX12_5)) rfl g3 dX12_may_17 ?_
    refine lv_iload_n hx hb dX12_may_18 rfl (lv_at hl 2 rfl) ?_
    refine lv_imul hx hb dX12_may_19 ?_
    refine lv_aload_n hx hb dX12_may_20 rfl (lv_at hl 0 rfl) ?_
    refine va_get (D := D) (ci := 11) (v := .ref (ad 11)) (C := RX12) (T := TX12) (N := 31) hx hb hts hinX12_may_X12 hown E.1 hP 0 (zO.get (oX12_at)) rfl 12 (by decide) (hts (.fieldLink RX12 41 "EdgeAndSpeedModel" "rest" "[I") (by decide +kernel)) (fun _ h9 => h9) rfl dX12_may_21 ?_
    refine lv_iconst (v := 4) hx hb dX12_may_24 (by decide) ?_
    obtain ⟨g4, hf⟩ := zg_i hf
    refine va_iald hx hb E.1 hP 11 1 (zIA.get (aX12_12)) rfl g4 dX12_may_25 ?_
    refine lv_icmp_gt (tgt := 33) hx hb dX12_may_26 (by decide) (fun k5 => ?_) (fun k5 => ?_)
    · replace hf := zt k5 hf
      refine lv_iconst (v := 0) hx hb dX12_may_33 (by decide) ?_
      exact hret _ hf (Or.inl rfl) _ _ _ _ hP hS dX12_may_34
    · replace hf := zf k5 hf
      refine lv_iconst (v := 1) hx hb dX12_may_29 (by decide) ?_
      refine lv_goto (tgt := 34) hx hb dX12_may_30 (by decide) ?_
      exact hret _ hf (Or.inr rfl) _ _ _ _ hP hS dX12_may_34
theorem c_X12_may (l : Launch) {D : va_G} {a0 : Nat → Nat} {A : Nat → Prop} {cy : Nat → ClassId} {ad : Nat → Nat} (hD : zD A 25 ad) {I : zI} {J : zJ} (p1 : Int32) (p2 : Int32) {rx : Int32} (hf : f_X12_may I J p1 p2 = some rx) : Met l yX12_may wsX12_may { frames := 0, cells := 0, slots := 0, locals := 0 } (zPc D a0 A cy [.ref (ad 0), .int p1, .int p2] (zw 25 (kM cy ad) ad I J)) (zQi D A rx (zw 25 (kM cy ad) ad I J)) 0 0 A :=
  zmet RX12 (by decide) rfl rfl (Nat.le_of_ble_eq_true rfl) (fun p e R s m below meth c Q hfr hlo ls S0 hQ => w_X12_may hfr hlo hD p1 p2 hf S0 (fun tx hq n01 H locs ls pc hP hS hd => by cases hq; exact hQ H locs _ hS (fun hx hb hr hlocks hfree => W.zret hx hb hr (z01 n01) (fun t ht hW => ⟨⟨_, (), rfl, rfl, zht ht hP⟩, hS.F ht⟩) hfree hd hlocks)))
theorem ddX12_may : yX12_may.cls = RX12 ∧ yX12_may.cls ≠ "java/lang/invoke/MethodHandle" ∧ yX12_may.cls ≠ "java/lang/invoke/VarHandle" ∧ (parseMethodDescriptor yX12_may.desc).map (fun d => d.parameters.length) = some 2 := by decide +kernel

def f_X12_pass (I : zI) (J : zJ) (p1 : Int32) (p2 : Int32) (p3 : Int32) (p4 : Int32) (p5 : Int32) : Option Int32 := zb1 (f_X12_isPiece I J p1) (fun x1 => (if x1 = 0 then some (-1) else zb1 (f_X12_isSpeed I J p2) (fun x4 => (if x4 = 0 then some (-1) else zb1 (f_X12_in I J (p3.toInt64) 1 8) (fun x7 => (if x7 = 0 then some (-1) else zb1 (f_X12_isSteel I J p4) (fun x10 => (if x10 = 0 then some (-1) else zb1 (f_X12_in I J (p5.toInt64) 0 2) (fun x13 => (if x13 = 0 then some (-1) else (if p5 = 0 then zb1 (f_X12_minutes I J p1 p2) (fun x23 => some x23) else (if p5 = 1 then zb1 (f_X12_wears I J p1 p2 p3 p4) (fun x21 => some x21) else zb1 (f_X12_may I J p2 p3) (fun x18 => (if x18 = 0 then some 0 else some 1))))))))))))))
set_option maxHeartbeats 4000000 in
set_option maxRecDepth 100000 in
theorem w_X12_pass {p : Program} {l : Launch} {e : Env} {R : Room} {s : State} {m : MethodId} {args : Array Value} {below : List Frame} {meth : Method} {c : Code} {Q : State → Prop} (hfr : 2 ≤ R.frames) (hlo : 46 ≤ R.locals) {D : va_G} {a0 : Nat → Nat} {A : Nat → Prop} {cy : Nat → ClassId} {ad : Nat → Nat} (hD : zD A 25 ad) {I : zI} {J : zJ} (p1 : Int32) (p2 : Int32) (p3 : Int32) (p4 : Int32) (p5 : Int32) {rx : Int32} (hf : f_X12_pass I J p1 p2 p3 p4 p5 = some rx) {ls : Array Slot} (S0 : zSt p m c cX12_pass 6 s args wsX12_pass RX12 D a0 A cy (zw 25 (kM cy ad) ad I J) [.ref (ad 0), .int p1, .int p2, .int p3, .int p4, .int p5] ls) (hret : ∀ (tx : Int32), some tx = some rx → ∀ (H : Heap) (locs : List Loc) (ls : Array Slot) (pc : Nat), va_P D vwCl (zw 25 (kM cy ad) ad I J) H → va_S A s.heap H locs → decode cX12_pass pc = .ok (.ireturn, 1) → W p l e R s m args below meth c H locs 0 0 Q (F0 m pc ls [.int tx])) : W p l e R s m args below meth c s.heap [] 0 0 Q (F0 m 0 ls []) := by
  obtain ⟨S, E, hP, hl⟩ := S0
  obtain ⟨hx, hb, hml, hown, hts⟩ := id S
  have hS : va_S A s.heap s.heap [] := va_S.rf
  replace hl : lv_has ls 6 [(0, .ref (ad 0)), (1, .int p1), (2, .int p2), (3, .int p3), (4, .int p4), (5, .int p5)] := hl
  unfold f_X12_pass at hf
  refine lv_aload_n hx hb dX12_pass_0 rfl (lv_at hl 0 rfl) ?_
  refine lv_iload_n hx hb dX12_pass_1 rfl (lv_at hl 1 rfl) ?_
  obtain ⟨x1, h2, hf⟩ := zb1_e hf
  refine zgo_i (zrunV (As := [.int p1]) (rest := []) S (c_X12_isPiece l hD p1 h2) (cwV 1 hts gX12_pass_X12_isPiece rfl rfl rfl ddX12_isPiece ⟨Nat.le_trans (Nat.le_of_ble_eq_true rfl) hfr, Nat.le_trans (Nat.le_of_ble_eq_true rfl) hlo⟩) (va_recv E.1 hP (q := (RX12, TX12, 31)) (ci := 11) rfl (zO.get (oX12_at))) E hP hS hl.1 rfl rfl (Nat.le_of_ble_eq_true rfl) dX12_pass_2) hS (fun H locs hP hS => ?_)
  refine lv_if_eq (tgt := 50) hx hb dX12_pass_5 (by decide) (fun k3 => ?_) (fun k3 => ?_)
  · replace hf := zt k3 hf
    refine lv_iconst (v := (-1)) hx hb dX12_pass_50 (by decide) ?_
    exact hret _ hf _ _ _ _ hP hS dX12_pass_51
  · replace hf := zf k3 hf
    refine lv_aload_n hx hb dX12_pass_8 rfl (lv_at hl 0 rfl) ?_
    refine lv_iload_n hx hb dX12_pass_9 rfl (lv_at hl 2 rfl) ?_
    obtain ⟨x4, h5, hf⟩ := zb1_e hf
    refine zgo_i (zrunV (As := [.int p2]) (rest := []) S (c_X12_isSpeed l hD p2 h5) (cwV 1 hts gX12_pass_X12_isSpeed rfl rfl rfl ddX12_isSpeed ⟨Nat.le_trans (Nat.le_of_ble_eq_true rfl) hfr, Nat.le_trans (Nat.le_of_ble_eq_true rfl) hlo⟩) (va_recv E.1 hP (q := (RX12, TX12, 31)) (ci := 11) rfl (zO.get (oX12_at))) E hP hS hl.1 rfl rfl (Nat.le_of_ble_eq_true rfl) dX12_pass_10) hS (fun H locs hP hS => ?_)
    refine lv_if_eq (tgt := 50) hx hb dX12_pass_13 (by decide) (fun k6 => ?_) (fun k6 => ?_)
    · replace hf := zt k6 hf
      refine lv_iconst (v := (-1)) hx hb dX12_pass_50 (by decide) ?_
      exact hret _ hf _ _ _ _ hP hS dX12_pass_51
    · replace hf := zf k6 hf
      refine lv_iload_n hx hb dX12_pass_16 rfl (lv_at hl 3 rfl) ?_
      refine lv_i2l hx hb dX12_pass_17 rfl ?_
      refine lv_lconst (v := 1) hx hb dX12_pass_18 (by decide) ?_
      refine lv_ldc2 hx hb hown (hts (.constantLong RX12 99 8) (by decide +kernel)) dX12_pass_19 ?_
      obtain ⟨x7, h8, hf⟩ := zb1_e hf
      refine zgo_i (zrunS (As := [.long (p3.toInt64), .long 1, .long 8]) (rest := []) S (c_X12_in l hD (p3.toInt64) 1 8 h8) (va_cwS 3 hts gX12_pass_X12_in rfl rfl rfl ddX12_in ⟨Nat.le_trans (Nat.le_of_ble_eq_true rfl) hfr, Nat.le_trans (Nat.le_of_ble_eq_true rfl) hlo⟩) E hP hS hl.1 rfl rfl (Nat.le_of_ble_eq_true rfl) dX12_pass_22) hS (fun H locs hP hS => ?_)
      refine lv_if_eq (tgt := 50) hx hb dX12_pass_25 (by decide) (fun k9 => ?_) (fun k9 => ?_)
      · replace hf := zt k9 hf
        refine lv_iconst (v := (-1)) hx hb dX12_pass_50 (by decide) ?_
        exact hret _ hf _ _ _ _ hP hS dX12_pass_51
      · replace hf := zf k9 hf
        refine lv_aload_n hx hb dX12_pass_28 rfl (lv_at hl 0 rfl) ?_
        refine lv_iload hx hb dX12_pass_29 (lv_at hl 4 rfl) ?_
        obtain ⟨x10, h11, hf⟩ := zb1_e hf
        refine zgo_i (zrunV (As := [.int p4]) (rest := []) S (c_X12_isSteel l hD p4 h11) (cwV 1 hts gX12_pass_X12_isSteel rfl rfl rfl ddX12_isSteel ⟨Nat.le_trans (Nat.le_of_ble_eq_true rfl) hfr, Nat.le_trans (Nat.le_of_ble_eq_true rfl) hlo⟩) (va_recv E.1 hP (q := (RX12, TX12, 31)) (ci := 11) rfl (zO.get (oX12_at))) E hP hS hl.1 rfl rfl (Nat.le_of_ble_eq_true rfl) dX12_pass_31) hS (fun H locs hP hS => ?_)
        refine lv_if_eq (tgt := 50) hx hb dX12_pass_34 (by decide) (fun k12 => ?_) (fun k12 => ?_)
        · replace hf := zt k12 hf
          refine lv_iconst (v := (-1)) hx hb dX12_pass_50 (by decide) ?_
          exact hret _ hf _ _ _ _ hP hS dX12_pass_51
        · replace hf := zf k12 hf
          refine lv_iload hx hb dX12_pass_37 (lv_at hl 5 rfl) ?_
          refine lv_i2l hx hb dX12_pass_39 rfl ?_
          refine lv_lconst (v := 0) hx hb dX12_pass_40 (by decide) ?_
          refine lv_ldc2 hx hb hown (hts (.constantLong RX12 151 2) (by decide +kernel)) dX12_pass_41 ?_
          obtain ⟨x13, h14, hf⟩ := zb1_e hf
          refine zgo_i (zrunS (As := [.long (p5.toInt64), .long 0, .long 2]) (rest := []) S (c_X12_in l hD (p5.toInt64) 0 2 h14) (va_cwS 3 hts gX12_pass_X12_in rfl rfl rfl ddX12_in ⟨Nat.le_trans (Nat.le_of_ble_eq_true rfl) hfr, Nat.le_trans (Nat.le_of_ble_eq_true rfl) hlo⟩) E hP hS hl.1 rfl rfl (Nat.le_of_ble_eq_true rfl) dX12_pass_44) hS (fun H locs hP hS => ?_)
          refine lv_if_ne (tgt := 52) hx hb dX12_pass_47 (by decide) (fun k15 => ?_) (fun k15 => ?_)
          · replace hf := zf k15 hf
            refine lv_iload hx hb dX12_pass_52 (lv_at hl 5 rfl) ?_
            refine lv_if_ne (tgt := 66) hx hb dX12_pass_54 (by decide) (fun k16 => ?_) (fun k16 => ?_)
            · replace hf := zf k16 hf
              refine lv_iload hx hb dX12_pass_66 (lv_at hl 5 rfl) ?_
              refine lv_iconst (v := 1) hx hb dX12_pass_68 (by decide) ?_
              refine lv_icmp_ne (tgt := 84) hx hb dX12_pass_69 (by decide) (fun k17 => ?_) (fun k17 => ?_)
              · replace hf := zf k17 hf
                refine lv_aload_n hx hb dX12_pass_84 rfl (lv_at hl 0 rfl) ?_
                refine lv_iload_n hx hb dX12_pass_85 rfl (lv_at hl 2 rfl) ?_
                refine lv_iload_n hx hb dX12_pass_86 rfl (lv_at hl 3 rfl) ?_
                obtain ⟨x18, h19, hf⟩ := zb1_e hf
                refine zgo_i (zrunV (As := [.int p2, .int p3]) (rest := []) S (c_X12_may l hD p2 p3 h19) (cwV 2 hts gX12_pass_X12_may rfl rfl rfl ddX12_may ⟨Nat.le_trans (Nat.le_of_ble_eq_true rfl) hfr, Nat.le_trans (Nat.le_of_ble_eq_true rfl) hlo⟩) (va_recv E.1 hP (q := (RX12, TX12, 31)) (ci := 11) rfl (zO.get (oX12_at))) E hP hS hl.1 rfl rfl (Nat.le_of_ble_eq_true rfl) dX12_pass_87) hS (fun H locs hP hS => ?_)
                refine lv_if_eq (tgt := 97) hx hb dX12_pass_90 (by decide) (fun k20 => ?_) (fun k20 => ?_)
                · replace hf := zt k20 hf
                  refine lv_iconst (v := 0) hx hb dX12_pass_97 (by decide) ?_
                  exact hret _ hf _ _ _ _ hP hS dX12_pass_98
                · replace hf := zf k20 hf
                  refine lv_iconst (v := 1) hx hb dX12_pass_93 (by decide) ?_
                  refine lv_goto (tgt := 98) hx hb dX12_pass_94 (by decide) ?_
                  exact hret _ hf _ _ _ _ hP hS dX12_pass_98
              · replace hf := zt k17 hf
                refine lv_aload_n hx hb dX12_pass_72 rfl (lv_at hl 0 rfl) ?_
                refine lv_iload_n hx hb dX12_pass_73 rfl (lv_at hl 1 rfl) ?_
                refine lv_iload_n hx hb dX12_pass_74 rfl (lv_at hl 2 rfl) ?_
                refine lv_iload_n hx hb dX12_pass_75 rfl (lv_at hl 3 rfl) ?_
                refine lv_iload hx hb dX12_pass_76 (lv_at hl 4 rfl) ?_
                obtain ⟨x21, h22, hf⟩ := zb1_e hf
                refine zgo_i (zrunV (As := [.int p1, .int p2, .int p3, .int p4]) (rest := []) S (c_X12_wears l hD p1 p2 p3 p4 h22) (cwV 4 hts gX12_pass_X12_wears rfl rfl rfl ddX12_wears ⟨Nat.le_trans (Nat.le_of_ble_eq_true rfl) hfr, Nat.le_trans (Nat.le_of_ble_eq_true rfl) hlo⟩) (va_recv E.1 hP (q := (RX12, TX12, 31)) (ci := 11) rfl (zO.get (oX12_at))) E hP hS hl.1 rfl rfl (Nat.le_of_ble_eq_true rfl) dX12_pass_78) hS (fun H locs hP hS => ?_)
                refine lv_goto (tgt := 98) hx hb dX12_pass_81 (by decide) ?_
                exact hret _ hf _ _ _ _ hP hS dX12_pass_98
            · replace hf := zt k16 hf
              refine lv_aload_n hx hb dX12_pass_57 rfl (lv_at hl 0 rfl) ?_
              refine lv_iload_n hx hb dX12_pass_58 rfl (lv_at hl 1 rfl) ?_
              refine lv_iload_n hx hb dX12_pass_59 rfl (lv_at hl 2 rfl) ?_
              obtain ⟨x23, h24, hf⟩ := zb1_e hf
              refine zgo_i (zrunV (As := [.int p1, .int p2]) (rest := []) S (c_X12_minutes l hD p1 p2 h24) (cwV 2 hts gX12_pass_X12_minutes rfl rfl rfl ddX12_minutes ⟨Nat.le_trans (Nat.le_of_ble_eq_true rfl) hfr, Nat.le_trans (Nat.le_of_ble_eq_true rfl) hlo⟩) (va_recv E.1 hP (q := (RX12, TX12, 31)) (ci := 11) rfl (zO.get (oX12_at))) E hP hS hl.1 rfl rfl (Nat.le_of_ble_eq_true rfl) dX12_pass_60) hS (fun H locs hP hS => ?_)
              refine lv_goto (tgt := 98) hx hb dX12_pass_63 (by decide) ?_
              exact hret _ hf _ _ _ _ hP hS dX12_pass_98
          · replace hf := zt k15 hf
            refine lv_iconst (v := (-1)) hx hb dX12_pass_50 (by decide) ?_
            exact hret _ hf _ _ _ _ hP hS dX12_pass_51
theorem c_X12_pass (l : Launch) {D : va_G} {a0 : Nat → Nat} {A : Nat → Prop} {cy : Nat → ClassId} {ad : Nat → Nat} (hD : zD A 25 ad) {I : zI} {J : zJ} (p1 : Int32) (p2 : Int32) (p3 : Int32) (p4 : Int32) (p5 : Int32) {rx : Int32} (hf : f_X12_pass I J p1 p2 p3 p4 p5 = some rx) : Met l yX12_pass wsX12_pass { frames := 2, cells := 0, slots := 0, locals := 46 } (zPc D a0 A cy [.ref (ad 0), .int p1, .int p2, .int p3, .int p4, .int p5] (zw 25 (kM cy ad) ad I J)) (zQi D A rx (zw 25 (kM cy ad) ad I J)) 0 0 A :=
  zmet RX12 (by decide) rfl rfl (Nat.le_of_ble_eq_true rfl) (fun p e R s m below meth c Q hfr hlo ls S0 hQ => w_X12_pass hfr hlo hD p1 p2 p3 p4 p5 hf S0 (fun tx hq H locs ls pc hP hS hd => by cases hq; exact hQ H locs _ hS (fun hx hb hr hlocks hfree => W.iret hx hb hr (fun t ht hW => ⟨⟨_, (), rfl, rfl, zht ht hP⟩, hS.F ht⟩) hfree hd hlocks)))
theorem ddX12_pass : yX12_pass.cls = RX12 ∧ yX12_pass.cls ≠ "java/lang/invoke/MethodHandle" ∧ yX12_pass.cls ≠ "java/lang/invoke/VarHandle" ∧ (parseMethodDescriptor yX12_pass.desc).map (fun d => d.parameters.length) = some 5 := by decide +kernel

def f_X12_breaksAt_L4 (I : zI) (p1 : Int32) (x2 : Int32) (x3 : Int32) : Option ((Int32 × Int32) ⊕ Int32) := zg (¬ ((0 : Int32) < 0 ∨ 2 ≤ (0 : Int32).toNatClampNeg)) ((if (I 7 (0 : Int32).toNatClampNeg) ≤ x3 then some (.inr x2) else zg (¬ ((2 * x3) < 0 ∨ 400 ≤ (2 * x3).toNatClampNeg)) ((if p1 < (I 8 (2 * x3).toNatClampNeg) then zn (x3 + 1) (fun y8 => some (.inl (x2, y8))) else (if x2 < 0 then zn (x3 + 1) (fun y10 => some (.inl (x3, y10))) else zg (¬ ((2 * x3) < 0 ∨ 400 ≤ (2 * x3).toNatClampNeg)) (zg (¬ ((2 * x2) < 0 ∨ 400 ≤ (2 * x2).toNatClampNeg)) ((if (I 8 (2 * x3).toNatClampNeg) < (I 8 (2 * x2).toNatClampNeg) then zn (x3 + 1) (fun y14 => some (.inl (x2, y14))) else zn (x3 + 1) (fun y15 => some (.inl (x3, y15)))))))))))
def f_X12_breaksAt (I : zI) (J : zJ) (p1 : Int32) : Option Int32 := zb1 (zl (fun v : (Int32 × Int32) => f_X12_breaksAt_L4 I p1 v.1 v.2) zF ((-1), 0)) (fun x16 => (if 0 ≤ x16 then zg (¬ (((2 * x16) + 1) < 0 ∨ 400 ≤ ((2 * x16) + 1).toNatClampNeg)) (some (I 8 ((2 * x16) + 1).toNatClampNeg)) else some 0))
theorem hinX12_breaksAt_X12 : ∀ w ∈ u_ws RX12 TX12 31, w ∈ wsX12_breaksAt := by decide +kernel
set_option maxHeartbeats 4000000 in
set_option maxRecDepth 100000 in
theorem w_X12_breaksAt {p : Program} {l : Launch} {e : Env} {R : Room} {s : State} {m : MethodId} {args : Array Value} {below : List Frame} {meth : Method} {c : Code} {Q : State → Prop} (hfr : 0 ≤ R.frames) (hlo : 0 ≤ R.locals) {D : va_G} {a0 : Nat → Nat} {A : Nat → Prop} {cy : Nat → ClassId} {ad : Nat → Nat} (hD : zD A 25 ad) {I : zI} {J : zJ} (p1 : Int32) {rx : Int32} (hf : f_X12_breaksAt I J p1 = some rx) {ls : Array Slot} (S0 : zSt p m c cX12_breaksAt 4 s args wsX12_breaksAt RX12 D a0 A cy (zw 25 (kM cy ad) ad I J) [.ref (ad 0), .int p1] ls) (hret : ∀ (tx : Int32), some tx = some rx → ∀ (H : Heap) (locs : List Loc) (ls : Array Slot) (pc : Nat), va_P D vwCl (zw 25 (kM cy ad) ad I J) H → va_S A s.heap H locs → decode cX12_breaksAt pc = .ok (.ireturn, 1) → W p l e R s m args below meth c H locs 0 0 Q (F0 m pc ls [.int tx])) : W p l e R s m args below meth c s.heap [] 0 0 Q (F0 m 0 ls []) := by
  obtain ⟨S, E, hP, hl⟩ := S0
  obtain ⟨hx, hb, hml, hown, hts⟩ := id S
  have hS : va_S A s.heap s.heap [] := va_S.rf
  replace hl : lv_has ls 4 [(0, .ref (ad 0)), (1, .int p1)] := hl
  unfold f_X12_breaksAt at hf
  refine lv_iconst (v := (-1)) hx hb dX12_breaksAt_0 (by decide) ?_
  refine lv_istore_n (lv' := [(2, .int (-1)), (0, .ref (ad 0)), (1, .int p1)]) hx hb dX12_breaksAt_1 rfl hl (by decide) rfl (fun ls hl => ?_)
  refine lv_iconst (v := 0) hx hb dX12_breaksAt_2 (by decide) ?_
  refine lv_istore_n (lv' := [(3, .int 0), (2, .int (-1)), (0, .ref (ad 0)), (1, .int p1)]) hx hb dX12_breaksAt_3 rfl hl (by decide) rfl (fun ls hl => ?_)
  obtain ⟨zl1, hf, hzl1⟩ := zb1_i hf
  have hjl1 : ∀ (x16 : Int32), x16 = zl1 → ∀ (H : Heap) (locs : List Loc) (ls : Array Slot), va_P D vwCl (zw 25 (kM cy ad) ad I J) H → va_S A s.heap H locs → lv_has ls 4 [(0, .ref (ad 0)), (2, .int x16)] → W p l e R s m args below meth c H locs 0 0 Q (F0 m 61 ls []) := by
    intro x16 ez H locs ls hP hS hl
    have hf := hzl1 x16 ez
    refine lv_iload_n hx hb dX12_breaksAt_61 rfl (lv_at hl 1 rfl) ?_
    refine lv_if_ge (tgt := 69) hx hb dX12_breaksAt_62 (by decide) (fun k17 => ?_) (fun k17 => ?_)
    · replace hf := zt k17 hf
      refine lv_aload_n hx hb dX12_breaksAt_69 rfl (lv_at hl 0 rfl) ?_
      refine va_get (D := D) (ci := 11) (v := .ref (ad 8)) (C := RX12) (T := TX12) (N := 31) hx hb hts hinX12_breaksAt_X12 hown E.1 hP 0 (zO.get (oX12_at)) rfl 9 (by decide) (hts (.fieldLink RX12 32 "EdgeAndSpeedModel" "crack" "[I") (by decide +kernel)) (fun _ h9 => h9) rfl dX12_breaksAt_70 ?_
      refine lv_iconst (v := 2) hx hb dX12_breaksAt_73 (by decide) ?_
      refine lv_iload_n hx hb dX12_breaksAt_74 rfl (lv_at hl 1 rfl) ?_
      refine lv_imul hx hb dX12_breaksAt_75 ?_
      refine lv_iconst (v := 1) hx hb dX12_breaksAt_76 (by decide) ?_
      refine lv_iadd hx hb dX12_breaksAt_77 ?_
      obtain ⟨g18, hf⟩ := zg_i hf
      refine va_iald hx hb E.1 hP 8 1 (zIA.get (aX12_9)) rfl g18 dX12_breaksAt_78 ?_
      exact hret _ hf _ _ _ _ hP hS dX12_breaksAt_79
    · replace hf := zf k17 hf
      refine lv_iconst (v := 0) hx hb dX12_breaksAt_65 (by decide) ?_
      refine lv_goto (tgt := 79) hx hb dX12_breaksAt_66 (by decide) ?_
      exact hret _ hf _ _ _ _ hP hS dX12_breaksAt_79
  refine zl_i (V := (Int32 × Int32)) (P := fun v => ∀ (H : Heap) (locs : List Loc) (ls : Array Slot), va_P D vwCl (zw 25 (kM cy ad) ad I J) H → va_S A s.heap H locs → lv_has ls 4 [(0, .ref (ad 0)), (1, .int p1), (2, .int (v.1)), (3, .int (v.2))] → W p l e R s m args below meth c H locs 0 0 Q (F0 m 4 ls [])) ?_ _ _ hf _ _ _ hP hS (lv_sub hl [2, 3, 1, 0] rfl)
  intro v z hf hcl1 hdl1
  obtain ⟨x2, x3⟩ := v
  intro H locs ls hP hS hl
  replace hf : f_X12_breaksAt_L4 I p1 x2 x3 = some z := hf
  unfold f_X12_breaksAt_L4 at hf
  replace hP : va_P D vwCl (zw 25 (kM cy ad) ad I J) H := hP
  replace hl : lv_has ls 4 [(0, .ref (ad 0)), (1, .int p1), (2, .int x2), (3, .int x3)] := hl
  refine lv_iload_n hx hb dX12_breaksAt_4 rfl (lv_at hl 3 rfl) ?_
  refine lv_aload_n hx hb dX12_breaksAt_5 rfl (lv_at hl 0 rfl) ?_
  refine va_get (D := D) (ci := 11) (v := .ref (ad 7)) (C := RX12) (T := TX12) (N := 31) hx hb hts hinX12_breaksAt_X12 hown E.1 hP 0 (zO.get (oX12_at)) rfl 8 (by decide) (hts (.fieldLink RX12 29 "EdgeAndSpeedModel" "cracks" "[I") (by decide +kernel)) (fun _ h9 => h9) rfl dX12_breaksAt_6 ?_
  refine lv_iconst (v := 0) hx hb dX12_breaksAt_9 (by decide) ?_
  obtain ⟨g4, hf⟩ := zg_i hf
  refine va_iald hx hb E.1 hP 7 1 (zIA.get (aX12_8)) rfl g4 dX12_breaksAt_10 ?_
  refine lv_icmp_ge (tgt := 61) hx hb dX12_breaksAt_11 (by decide) (fun k5 => ?_) (fun k5 => ?_)
  · replace hf := zt k5 hf
    exact hjl1 _ (hdl1 _ (Option.some.inj hf).symm) _ _ _ hP hS (lv_sub hl [0, 2] rfl)
  · replace hf := zf k5 hf
    refine lv_aload_n hx hb dX12_breaksAt_14 rfl (lv_at hl 0 rfl) ?_
    refine va_get (D := D) (ci := 11) (v := .ref (ad 8)) (C := RX12) (T := TX12) (N := 31) hx hb hts hinX12_breaksAt_X12 hown E.1 hP 0 (zO.get (oX12_at)) rfl 9 (by decide) (hts (.fieldLink RX12 32 "EdgeAndSpeedModel" "crack" "[I") (by decide +kernel)) (fun _ h9 => h9) rfl dX12_breaksAt_15 ?_
    refine lv_iconst (v := 2) hx hb dX12_breaksAt_18 (by decide) ?_
    refine lv_iload_n hx hb dX12_breaksAt_19 rfl (lv_at hl 3 rfl) ?_
    refine lv_imul hx hb dX12_breaksAt_20 ?_
    obtain ⟨g6, hf⟩ := zg_i hf
    refine va_iald hx hb E.1 hP 8 1 (zIA.get (aX12_9)) rfl g6 dX12_breaksAt_21 ?_
    refine lv_iload_n hx hb dX12_breaksAt_22 rfl (lv_at hl 1 rfl) ?_
    refine lv_icmp_gt (tgt := 53) hx hb dX12_breaksAt_23 (by decide) (fun k7 => ?_) (fun k7 => ?_)
    · replace hf := zt k7 hf
      refine lv_iload_n hx hb dX12_breaksAt_53 rfl (lv_at hl 2 rfl) ?_
      refine lv_istore_n (lv' := [(2, .int x2), (0, .ref (ad 0)), (1, .int p1), (3, .int x3)]) hx hb dX12_breaksAt_54 rfl hl (by decide) rfl (fun ls hl => ?_)
      obtain ⟨y8, ey8⟩ := zex (x3 + 1)
      replace hf := zn_s ey8 hf
      refine lv_iinc (v := y8) (lv' := [(3, .int y8), (2, .int x2), (0, .ref (ad 0)), (1, .int p1)]) hx hb dX12_breaksAt_55 hl (k := 3) rfl (by rw [ey8]; rfl) (by decide) rfl (fun ls hl => ?_)
      refine lv_goto (tgt := 4) hx hb dX12_breaksAt_58 (by decide) ?_
      exact hcl1 _ (Option.some.inj hf).symm _ _ _ hP hS (lv_sub hl [2, 3, 1, 0] rfl)
    · replace hf := zf k7 hf
      refine lv_iload_n hx hb dX12_breaksAt_26 rfl (lv_at hl 2 rfl) ?_
      refine lv_if_lt (tgt := 49) hx hb dX12_breaksAt_27 (by decide) (fun k9 => ?_) (fun k9 => ?_)
      · replace hf := zt k9 hf
        refine lv_iload_n hx hb dX12_breaksAt_49 rfl (lv_at hl 3 rfl) ?_
        refine lv_goto (tgt := 54) hx hb dX12_breaksAt_50 (by decide) ?_
        refine lv_istore_n (lv' := [(2, .int x3), (0, .ref (ad 0)), (1, .int p1), (3, .int x3)]) hx hb dX12_breaksAt_54 rfl hl (by decide) rfl (fun ls hl => ?_)
        obtain ⟨y10, ey10⟩ := zex (x3 + 1)
        replace hf := zn_s ey10 hf
        refine lv_iinc (v := y10) (lv' := [(3, .int y10), (2, .int x3), (0, .ref (ad 0)), (1, .int p1)]) hx hb dX12_breaksAt_55 hl (k := 3) rfl (by rw [ey10]; rfl) (by decide) rfl (fun ls hl => ?_)
        refine lv_goto (tgt := 4) hx hb dX12_breaksAt_58 (by decide) ?_
        exact hcl1 _ (Option.some.inj hf).symm _ _ _ hP hS (lv_sub hl [2, 3, 1, 0] rfl)
      · replace hf := zf k9 hf
        refine lv_aload_n hx hb dX12_breaksAt_30 rfl (lv_at hl 0 rfl) ?_
        refine va_get (D := D) (ci := 11) (v := .ref (ad 8)) (C := RX12) (T := TX12) (N := 31) hx hb hts hinX12_breaksAt_X12 hown E.1 hP 0 (zO.get (oX12_at)) rfl 9 (by decide) (hts (.fieldLink RX12 32 "EdgeAndSpeedModel" "crack" "[I") (by decide +kernel)) (fun _ h9 => h9) rfl dX12_breaksAt_31 ?_
        refine lv_iconst (v := 2) hx hb dX12_breaksAt_34 (by decide) ?_
        refine lv_iload_n hx hb dX12_breaksAt_35 rfl (lv_at hl 3 rfl) ?_
        refine lv_imul hx hb dX12_breaksAt_36 ?_
        obtain ⟨g11, hf⟩ := zg_i hf
        refine va_iald hx hb E.1 hP 8 1 (zIA.get (aX12_9)) rfl g11 dX12_breaksAt_37 ?_
        refine lv_aload_n hx hb dX12_breaksAt_38 rfl (lv_at hl 0 rfl) ?_
        refine va_get (D := D) (ci := 11) (v := .ref (ad 8)) (C := RX12) (T := TX12) (N := 31) hx hb hts hinX12_breaksAt_X12 hown E.1 hP 0 (zO.get (oX12_at)) rfl 9 (by decide) (hts (.fieldLink RX12 32 "EdgeAndSpeedModel" "crack" "[I") (by decide +kernel)) (fun _ h9 => h9) rfl dX12_breaksAt_39 ?_
        refine lv_iconst (v := 2) hx hb dX12_breaksAt_42 (by decide) ?_
        refine lv_iload_n hx hb dX12_breaksAt_43 rfl (lv_at hl 2 rfl) ?_
        refine lv_imul hx hb dX12_breaksAt_44 ?_
        obtain ⟨g12, hf⟩ := zg_i hf
        refine va_iald hx hb E.1 hP 8 1 (zIA.get (aX12_9)) rfl g12 dX12_breaksAt_45 ?_
        refine lv_icmp_lt (tgt := 53) hx hb dX12_breaksAt_46 (by decide) (fun k13 => ?_) (fun k13 => ?_)
        · replace hf := zt k13 hf
          refine lv_iload_n hx hb dX12_breaksAt_53 rfl (lv_at hl 2 rfl) ?_
          refine lv_istore_n (lv' := [(2, .int x2), (0, .ref (ad 0)), (1, .int p1), (3, .int x3)]) hx hb dX12_breaksAt_54 rfl hl (by decide) rfl (fun ls hl => ?_)
          obtain ⟨y14, ey14⟩ := zex (x3 + 1)
          replace hf := zn_s ey14 hf
          refine lv_iinc (v := y14) (lv' := [(3, .int y14), (2, .int x2), (0, .ref (ad 0)), (1, .int p1)]) hx hb dX12_breaksAt_55 hl (k := 3) rfl (by rw [ey14]; rfl) (by decide) rfl (fun ls hl => ?_)
          refine lv_goto (tgt := 4) hx hb dX12_breaksAt_58 (by decide) ?_
          exact hcl1 _ (Option.some.inj hf).symm _ _ _ hP hS (lv_sub hl [2, 3, 1, 0] rfl)
        · replace hf := zf k13 hf
          refine lv_iload_n hx hb dX12_breaksAt_49 rfl (lv_at hl 3 rfl) ?_
          refine lv_goto (tgt := 54) hx hb dX12_breaksAt_50 (by decide) ?_
          refine lv_istore_n (lv' := [(2, .int x3), (0, .ref (ad 0)), (1, .int p1), (3, .int x3)]) hx hb dX12_breaksAt_54 rfl hl (by decide) rfl (fun ls hl => ?_)
          obtain ⟨y15, ey15⟩ := zex (x3 + 1)
          replace hf := zn_s ey15 hf
          refine lv_iinc (v := y15) (lv' := [(3, .int y15), (2, .int x3), (0, .ref (ad 0)), (1, .int p1)]) hx hb dX12_breaksAt_55 hl (k := 3) rfl (by rw [ey15]; rfl) (by decide) rfl (fun ls hl => ?_)
          refine lv_goto (tgt := 4) hx hb dX12_breaksAt_58 (by decide) ?_
          exact hcl1 _ (Option.some.inj hf).symm _ _ _ hP hS (lv_sub hl [2, 3, 1, 0] rfl)
theorem c_X12_breaksAt (l : Launch) {D : va_G} {a0 : Nat → Nat} {A : Nat → Prop} {cy : Nat → ClassId} {ad : Nat → Nat} (hD : zD A 25 ad) {I : zI} {J : zJ} (p1 : Int32) {rx : Int32} (hf : f_X12_breaksAt I J p1 = some rx) : Met l yX12_breaksAt wsX12_breaksAt { frames := 0, cells := 0, slots := 0, locals := 0 } (zPc D a0 A cy [.ref (ad 0), .int p1] (zw 25 (kM cy ad) ad I J)) (zQi D A rx (zw 25 (kM cy ad) ad I J)) 0 0 A :=
  zmet RX12 (by decide) rfl rfl (Nat.le_of_ble_eq_true rfl) (fun p e R s m below meth c Q hfr hlo ls S0 hQ => w_X12_breaksAt hfr hlo hD p1 hf S0 (fun tx hq H locs ls pc hP hS hd => by cases hq; exact hQ H locs _ hS (fun hx hb hr hlocks hfree => W.iret hx hb hr (fun t ht hW => ⟨⟨_, (), rfl, rfl, zht ht hP⟩, hS.F ht⟩) hfree hd hlocks)))
theorem ddX12_breaksAt : yX12_breaksAt.cls = RX12 ∧ yX12_breaksAt.cls ≠ "java/lang/invoke/MethodHandle" ∧ yX12_breaksAt.cls ≠ "java/lang/invoke/VarHandle" ∧ (parseMethodDescriptor yX12_breaksAt.desc).map (fun d => d.parameters.length) = some 1 := by decide +kernel

def f_X12_breaks (I : zI) (J : zJ) (p1 : Int32) : Option Int32 := zb1 (f_X12_in I J (p1.toInt64) 0 100) (fun x1 => (if x1 = 0 then some (-1) else zb1 (f_X12_breaksAt I J p1) (fun x4 => some x4)))
set_option maxHeartbeats 4000000 in
set_option maxRecDepth 100000 in
theorem w_X12_breaks {p : Program} {l : Launch} {e : Env} {R : Room} {s : State} {m : MethodId} {args : Array Value} {below : List Frame} {meth : Method} {c : Code} {Q : State → Prop} (hfr : 1 ≤ R.frames) (hlo : 25 ≤ R.locals) {D : va_G} {a0 : Nat → Nat} {A : Nat → Prop} {cy : Nat → ClassId} {ad : Nat → Nat} (hD : zD A 25 ad) {I : zI} {J : zJ} (p1 : Int32) {rx : Int32} (hf : f_X12_breaks I J p1 = some rx) {ls : Array Slot} (S0 : zSt p m c cX12_breaks 2 s args wsX12_breaks RX12 D a0 A cy (zw 25 (kM cy ad) ad I J) [.ref (ad 0), .int p1] ls) (hret : ∀ (tx : Int32), some tx = some rx → ∀ (H : Heap) (locs : List Loc) (ls : Array Slot) (pc : Nat), va_P D vwCl (zw 25 (kM cy ad) ad I J) H → va_S A s.heap H locs → decode cX12_breaks pc = .ok (.ireturn, 1) → W p l e R s m args below meth c H locs 0 0 Q (F0 m pc ls [.int tx])) : W p l e R s m args below meth c s.heap [] 0 0 Q (F0 m 0 ls []) := by
  obtain ⟨S, E, hP, hl⟩ := S0
  obtain ⟨hx, hb, hml, hown, hts⟩ := id S
  have hS : va_S A s.heap s.heap [] := va_S.rf
  replace hl : lv_has ls 2 [(0, .ref (ad 0)), (1, .int p1)] := hl
  unfold f_X12_breaks at hf
  refine lv_iload_n hx hb dX12_breaks_0 rfl (lv_at hl 1 rfl) ?_
  refine lv_i2l hx hb dX12_breaks_1 rfl ?_
  refine lv_lconst (v := 0) hx hb dX12_breaks_2 (by decide) ?_
  refine lv_ldc2 hx hb hown (hts (.constantLong RX12 164 100) (by decide +kernel)) dX12_breaks_3 ?_
  obtain ⟨x1, h2, hf⟩ := zb1_e hf
  refine zgo_i (zrunS (As := [.long (p1.toInt64), .long 0, .long 100]) (rest := []) S (c_X12_in l hD (p1.toInt64) 0 100 h2) (va_cwS 3 hts gX12_breaks_X12_in rfl rfl rfl ddX12_in ⟨Nat.le_trans (Nat.le_of_ble_eq_true rfl) hfr, Nat.le_trans (Nat.le_of_ble_eq_true rfl) hlo⟩) E hP hS hl.1 rfl rfl (Nat.le_of_ble_eq_true rfl) dX12_breaks_6) hS (fun H locs hP hS => ?_)
  refine lv_if_eq (tgt := 20) hx hb dX12_breaks_9 (by decide) (fun k3 => ?_) (fun k3 => ?_)
  · replace hf := zt k3 hf
    refine lv_iconst (v := (-1)) hx hb dX12_breaks_20 (by decide) ?_
    exact hret _ hf _ _ _ _ hP hS dX12_breaks_21
  · replace hf := zf k3 hf
    refine lv_aload_n hx hb dX12_breaks_12 rfl (lv_at hl 0 rfl) ?_
    refine lv_iload_n hx hb dX12_breaks_13 rfl (lv_at hl 1 rfl) ?_
    obtain ⟨x4, h5, hf⟩ := zb1_e hf
    refine zgo_i (zrunV (As := [.int p1]) (rest := []) S (c_X12_breaksAt l hD p1 h5) (cwV 1 hts gX12_breaks_X12_breaksAt rfl rfl rfl ddX12_breaksAt ⟨Nat.le_trans (Nat.le_of_ble_eq_true rfl) hfr, Nat.le_trans (Nat.le_of_ble_eq_true rfl) hlo⟩) (va_recv E.1 hP (q := (RX12, TX12, 31)) (ci := 11) rfl (zO.get (oX12_at))) E hP hS hl.1 rfl rfl (Nat.le_of_ble_eq_true rfl) dX12_breaks_14) hS (fun H locs hP hS => ?_)
    refine lv_goto (tgt := 21) hx hb dX12_breaks_17 (by decide) ?_
    exact hret _ hf _ _ _ _ hP hS dX12_breaks_21
theorem c_X12_breaks (l : Launch) {D : va_G} {a0 : Nat → Nat} {A : Nat → Prop} {cy : Nat → ClassId} {ad : Nat → Nat} (hD : zD A 25 ad) {I : zI} {J : zJ} (p1 : Int32) {rx : Int32} (hf : f_X12_breaks I J p1 = some rx) : Met l yX12_breaks wsX12_breaks { frames := 1, cells := 0, slots := 0, locals := 25 } (zPc D a0 A cy [.ref (ad 0), .int p1] (zw 25 (kM cy ad) ad I J)) (zQi D A rx (zw 25 (kM cy ad) ad I J)) 0 0 A :=
  zmet RX12 (by decide) rfl rfl (Nat.le_of_ble_eq_true rfl) (fun p e R s m below meth c Q hfr hlo ls S0 hQ => w_X12_breaks hfr hlo hD p1 hf S0 (fun tx hq H locs ls pc hP hS hd => by cases hq; exact hQ H locs _ hS (fun hx hb hr hlocks hfree => W.iret hx hb hr (fun t ht hW => ⟨⟨_, (), rfl, rfl, zht ht hP⟩, hS.F ht⟩) hfree hd hlocks)))
theorem ddX12_breaks : yX12_breaks.cls = RX12 ∧ yX12_breaks.cls ≠ "java/lang/invoke/MethodHandle" ∧ yX12_breaks.cls ≠ "java/lang/invoke/VarHandle" ∧ (parseMethodDescriptor yX12_breaks.desc).map (fun d => d.parameters.length) = some 1 := by decide +kernel

def f_X12_hand (I : zI) (J : zJ) (p1 : Int32) (p2 : Int32) : Option (Int32 × zI) := zb1 ((if p1 = 0 then zb1 (f_X12_isSpeed I J p2) (fun x11 => some (x11)) else (if p1 = 1 then zb1 (f_X12_in I J (p2.toInt64) 0 100) (fun x9 => some (x9)) else (if p1 = 2 then zb1 (f_X12_in I J (p2.toInt64) 1 8) (fun x6 => (if x6 = 0 then some (0) else some (1))) else some (0)))) : Option Int32) (fun x13 => (if x13 = 0 then some ((-1), I) else zg (¬ (p1 < 0 ∨ 9 ≤ p1.toNatClampNeg)) (zn ((I 12 p1.toNatClampNeg)) (fun y16 => zg (¬ (p1 < 0 ∨ 9 ≤ p1.toNatClampNeg)) (zn (va_up I 12 (upd (I 12) p1.toNatClampNeg p2)) (fun I17 => some (y16, I17)))))))
theorem hinX12_hand_X12 : ∀ w ∈ u_ws RX12 TX12 31, w ∈ wsX12_hand := by decide +kernel
set_option maxHeartbeats 4000000 in
set_option maxRecDepth 100000 in
theorem w_X12_hand {p : Program} {l : Launch} {e : Env} {R : Room} {s : State} {m : MethodId} {args : Array Value} {below : List Frame} {meth : Method} {c : Code} {Q : State → Prop} (hfr : 2 ≤ R.frames) (hlo : 46 ≤ R.locals) {D : va_G} {a0 : Nat → Nat} {A : Nat → Prop} {cy : Nat → ClassId} {ad : Nat → Nat} (hD : zD A 25 ad) {I : zI} {J : zJ} (p1 : Int32) (p2 : Int32) {rx : Int32} {rI : zI} (hf : f_X12_hand I J p1 p2 = some (rx, rI)) {ls : Array Slot} (S0 : zSt p m c cX12_hand 5 s args wsX12_hand RX12 D a0 A cy (zw 25 (kM cy ad) ad I J) [.ref (ad 0), .int p1, .int p2] ls) (hret : ∀ (tx : Int32) (tI : zI), some (tx, tI) = some (rx, rI) → ∀ (H : Heap) (locs : List Loc) (ls : Array Slot) (pc : Nat), va_P D vwCl (zw 25 (kM cy ad) ad tI J) H → va_S A s.heap H locs → decode cX12_hand pc = .ok (.ireturn, 1) → W p l e R s m args below meth c H locs 0 0 Q (F0 m pc ls [.int tx])) : W p l e R s m args below meth c s.heap [] 0 0 Q (F0 m 0 ls []) := by
  obtain ⟨S, E, hP, hl⟩ := S0
  obtain ⟨hx, hb, hml, hown, hts⟩ := id S
  have hS : va_S A s.heap s.heap [] := va_S.rf
  replace hl : lv_has ls 5 [(0, .ref (ad 0)), (1, .int p1), (2, .int p2)] := hl
  unfold f_X12_hand at hf
  refine lv_iload_n hx hb dX12_hand_0 rfl (lv_at hl 1 rfl) ?_
  obtain ⟨zr3, hf, hzr3⟩ := zb1_i hf
  have hjr3 : ∀ (x13 : Int32), x13 = zr3 → ∀ (H : Heap) (locs : List Loc) (ls : Array Slot), va_P D vwCl (zw 25 (kM cy ad) ad I J) H → va_S A s.heap H locs → lv_has ls 5 [(0, .ref (ad 0)), (1, .int p1), (2, .int p2)] → W p l e R s m args below meth c H locs 0 0 Q (F0 m 51 ls [.int x13]) := by
    intro x13 ez H locs ls hP hS hl
    have hf := hzr3 x13 ez
    refine lv_istore_n (lv' := [(3, .int x13), (0, .ref (ad 0)), (1, .int p1), (2, .int p2)]) hx hb dX12_hand_51 rfl hl (by decide) rfl (fun ls hl => ?_)
    refine lv_iload_n hx hb dX12_hand_52 rfl (lv_at hl 0 rfl) ?_
    refine lv_if_ne (tgt := 58) hx hb dX12_hand_53 (by decide) (fun k14 => ?_) (fun k14 => ?_)
    · replace hf := zf k14 hf
      refine lv_aload_n hx hb dX12_hand_58 rfl (lv_at hl 1 rfl) ?_
      refine va_get (D := D) (ci := 11) (v := .ref (ad 12)) (C := RX12) (T := TX12) (N := 31) hx hb hts hinX12_hand_X12 hown E.1 hP 0 (zO.get (oX12_at)) rfl 14 (by decide) (hts (.fieldLink RX12 44 "EdgeAndSpeedModel" "hands" "[I") (by decide +kernel)) (fun _ h9 => h9) rfl dX12_hand_59 ?_
      refine lv_iload_n hx hb dX12_hand_62 rfl (lv_at hl 2 rfl) ?_
      obtain ⟨g15, hf⟩ := zg_i hf
      refine va_iald hx hb E.1 hP 12 1 (zIA.get (aX12_14)) rfl g15 dX12_hand_63 ?_
      refine lv_topi (fun y16 ey16 => ?_)
      replace hf := zn_s ey16 hf
      refine lv_istore (lv' := [(4, .int y16), (3, .int x13), (0, .ref (ad 0)), (1, .int p1), (2, .int p2)]) hx hb dX12_hand_64 hl (by decide) rfl (fun ls hl => ?_)
      refine lv_aload_n hx hb dX12_hand_66 rfl (lv_at hl 2 rfl) ?_
      refine va_get (D := D) (ci := 11) (v := .ref (ad 12)) (C := RX12) (T := TX12) (N := 31) hx hb hts hinX12_hand_X12 hown E.1 hP 0 (zO.get (oX12_at)) rfl 14 (by decide) (hts (.fieldLink RX12 44 "EdgeAndSpeedModel" "hands" "[I") (by decide +kernel)) (fun _ h9 => h9) rfl dX12_hand_67 ?_
      refine lv_iload_n hx hb dX12_hand_70 rfl (lv_at hl 3 rfl) ?_
      refine lv_iload_n hx hb dX12_hand_71 rfl (lv_at hl 4 rfl) ?_
      obtain ⟨g18, hf⟩ := zg_i hf
      obtain ⟨I17, eI17⟩ := zex (va_up I 12 (upd (I 12) p1.toNatClampNeg p2))
      replace hf := zn_s eI17 hf
      refine zast_i hx hb E.1 hP hD.D hS (aX12_14) g18 dX12_hand_72 eI17 (fun H locs hP hS => ?_)
      refine lv_iload hx hb dX12_hand_73 (lv_at hl 0 rfl) ?_
      exact hret _ _ hf _ _ _ _ hP hS dX12_hand_75
    · replace hf := zt k14 hf
      refine lv_iconst (v := (-1)) hx hb dX12_hand_56 (by decide) ?_
      exact hret _ _ hf _ _ _ _ hP hS dX12_hand_57
  refine lv_if_ne (tgt := 12) hx hb dX12_hand_1 (by decide) (fun k1 => ?_) (fun k1 => ?_)
  · replace hf := zf k1 hf
    refine lv_iload_n hx hb dX12_hand_12 rfl (lv_at hl 1 rfl) ?_
    refine lv_iconst (v := 1) hx hb dX12_hand_13 (by decide) ?_
    refine lv_icmp_ne (tgt := 29) hx hb dX12_hand_14 (by decide) (fun k4 => ?_) (fun k4 => ?_)
    · replace hf := zf k4 hf
      refine lv_iload_n hx hb dX12_hand_29 rfl (lv_at hl 1 rfl) ?_
      refine lv_iconst (v := 2) hx hb dX12_hand_30 (by decide) ?_
      refine lv_icmp_ne (tgt := 50) hx hb dX12_hand_31 (by decide) (fun k5 => ?_) (fun k5 => ?_)
      · replace hf := zf k5 hf
        refine lv_iconst (v := 0) hx hb dX12_hand_50 (by decide) ?_
        exact hjr3 _ (Option.some.inj hf) _ _ _ hP hS (lv_sub hl [0, 1, 2] rfl)
      · replace hf := zt k5 hf
        refine lv_iload_n hx hb dX12_hand_34 rfl (lv_at hl 2 rfl) ?_
        refine lv_i2l hx hb dX12_hand_35 rfl ?_
        refine lv_lconst (v := 1) hx hb dX12_hand_36 (by decide) ?_
        refine lv_ldc2 hx hb hown (hts (.constantLong RX12 99 8) (by decide +kernel)) dX12_hand_37 ?_
        obtain ⟨x6, h7, hf⟩ := zb1_e hf
        refine zgo_i (zrunS (As := [.long (p2.toInt64), .long 1, .long 8]) (rest := []) S (c_X12_in l hD (p2.toInt64) 1 8 h7) (va_cwS 3 hts gX12_hand_X12_in rfl rfl rfl ddX12_in ⟨Nat.le_trans (Nat.le_of_ble_eq_true rfl) hfr, Nat.le_trans (Nat.le_of_ble_eq_true rfl) hlo⟩) E hP hS hl.1 rfl rfl (Nat.le_of_ble_eq_true rfl) dX12_hand_40) hS (fun H locs hP hS => ?_)
        refine lv_if_eq (tgt := 50) hx hb dX12_hand_43 (by decide) (fun k8 => ?_) (fun k8 => ?_)
        · replace hf := zt k8 hf
          refine lv_iconst (v := 0) hx hb dX12_hand_50 (by decide) ?_
          exact hjr3 _ (Option.some.inj hf) _ _ _ hP hS (lv_sub hl [0, 1, 2] rfl)
        · replace hf := zf k8 hf
          refine lv_iconst (v := 1) hx hb dX12_hand_46 (by decide) ?_
          refine lv_goto (tgt := 51) hx hb dX12_hand_47 (by decide) ?_
          exact hjr3 _ (Option.some.inj hf) _ _ _ hP hS (lv_sub hl [0, 1, 2] rfl)
    · replace hf := zt k4 hf
      refine lv_iload_n hx hb dX12_hand_17 rfl (lv_at hl 2 rfl) ?_
      refine lv_i2l hx hb dX12_hand_18 rfl ?_
      refine lv_lconst (v := 0) hx hb dX12_hand_19 (by decide) ?_
      refine lv_ldc2 hx hb hown (hts (.constantLong RX12 164 100) (by decide +kernel)) dX12_hand_20 ?_
      obtain ⟨x9, h10, hf⟩ := zb1_e hf
      refine zgo_i (zrunS (As := [.long (p2.toInt64), .long 0, .long 100]) (rest := []) S (c_X12_in l hD (p2.toInt64) 0 100 h10) (va_cwS 3 hts gX12_hand_X12_in rfl rfl rfl ddX12_in ⟨Nat.le_trans (Nat.le_of_ble_eq_true rfl) hfr, Nat.le_trans (Nat.le_of_ble_eq_true rfl) hlo⟩) E hP hS hl.1 rfl rfl (Nat.le_of_ble_eq_true rfl) dX12_hand_23) hS (fun H locs hP hS => ?_)
      refine lv_goto (tgt := 51) hx hb dX12_hand_26 (by decide) ?_
      exact hjr3 _ (Option.some.inj hf) _ _ _ hP hS (lv_sub hl [0, 1, 2] rfl)
  · replace hf := zt k1 hf
    refine lv_aload_n hx hb dX12_hand_4 rfl (lv_at hl 0 rfl) ?_
    refine lv_iload_n hx hb dX12_hand_5 rfl (lv_at hl 2 rfl) ?_
    obtain ⟨x11, h12, hf⟩ := zb1_e hf
    refine zgo_i (zrunV (As := [.int p2]) (rest := []) S (c_X12_isSpeed l hD p2 h12) (cwV 1 hts gX12_hand_X12_isSpeed rfl rfl rfl ddX12_isSpeed ⟨Nat.le_trans (Nat.le_of_ble_eq_true rfl) hfr, Nat.le_trans (Nat.le_of_ble_eq_true rfl) hlo⟩) (va_recv E.1 hP (q := (RX12, TX12, 31)) (ci := 11) rfl (zO.get (oX12_at))) E hP hS hl.1 rfl rfl (Nat.le_of_ble_eq_true rfl) dX12_hand_6) hS (fun H locs hP hS => ?_)
    refine lv_goto (tgt := 51) hx hb dX12_hand_9 (by decide) ?_
    exact hjr3 _ (Option.some.inj hf) _ _ _ hP hS (lv_sub hl [0, 1, 2] rfl)
theorem c_X12_hand (l : Launch) {D : va_G} {a0 : Nat → Nat} {A : Nat → Prop} {cy : Nat → ClassId} {ad : Nat → Nat} (hD : zD A 25 ad) {I : zI} {J : zJ} (p1 : Int32) (p2 : Int32) {rx : Int32} {rI : zI} (hf : f_X12_hand I J p1 p2 = some (rx, rI)) : Met l yX12_hand wsX12_hand { frames := 2, cells := 0, slots := 0, locals := 46 } (zPc D a0 A cy [.ref (ad 0), .int p1, .int p2] (zw 25 (kM cy ad) ad I J)) (zQi D A rx (zw 25 (kM cy ad) ad rI J)) 0 0 A :=
  zmet RX12 (by decide) rfl rfl (Nat.le_of_ble_eq_true rfl) (fun p e R s m below meth c Q hfr hlo ls S0 hQ => w_X12_hand hfr hlo hD p1 p2 hf S0 (fun tx tI hq H locs ls pc hP hS hd => by cases hq; exact hQ H locs _ hS (fun hx hb hr hlocks hfree => W.iret hx hb hr (fun t ht hW => ⟨⟨_, (), rfl, rfl, zht ht hP⟩, hS.F ht⟩) hfree hd hlocks)))
theorem ddX12_hand : yX12_hand.cls = RX12 ∧ yX12_hand.cls ≠ "java/lang/invoke/MethodHandle" ∧ yX12_hand.cls ≠ "java/lang/invoke/VarHandle" ∧ (parseMethodDescriptor yX12_hand.desc).map (fun d => d.parameters.length) = some 2 := by decide +kernel

def f_X12_cell (I : zI) (J : zJ) (p1 : Int32) (p2 : Int32) (p3 : Int32) : Option Int32 := some ((((9 * p1) + p2) * 101) + p3)
set_option maxHeartbeats 4000000 in
set_option maxRecDepth 100000 in
theorem w_X12_cell {p : Program} {l : Launch} {e : Env} {R : Room} {s : State} {m : MethodId} {args : Array Value} {below : List Frame} {meth : Method} {c : Code} {Q : State → Prop} (hfr : 0 ≤ R.frames) (hlo : 0 ≤ R.locals) {D : va_G} {a0 : Nat → Nat} {A : Nat → Prop} {cy : Nat → ClassId} {ad : Nat → Nat} (hD : zD A 25 ad) {I : zI} {J : zJ} (p1 : Int32) (p2 : Int32) (p3 : Int32) {rx : Int32} (hf : f_X12_cell I J p1 p2 p3 = some rx) {ls : Array Slot} (S0 : zSt p m c cX12_cell 3 s args wsX12_cell RX12 D a0 A cy (zw 25 (kM cy ad) ad I J) [.int p1, .int p2, .int p3] ls) (hret : ∀ (tx : Int32), some tx = some rx → ∀ (H : Heap) (locs : List Loc) (ls : Array Slot) (pc : Nat), va_P D vwCl (zw 25 (kM cy ad) ad I J) H → va_S A s.heap H locs → decode cX12_cell pc = .ok (.ireturn, 1) → W p l e R s m args below meth c H locs 0 0 Q (F0 m pc ls [.int tx])) : W p l e R s m args below meth c s.heap [] 0 0 Q (F0 m 0 ls []) := by
  obtain ⟨S, E, hP, hl⟩ := S0
  obtain ⟨hx, hb, hml, hown, hts⟩ := id S
  have hS : va_S A s.heap s.heap [] := va_S.rf
  replace hl : lv_has ls 3 [(0, .int p1), (1, .int p2), (2, .int p3)] := hl
  unfold f_X12_cell at hf
  refine lv_bipush (v := 9) hx hb dX12_cell_0 (by decide) ?_
  refine lv_iload_n hx hb dX12_cell_2 rfl (lv_at hl 0 rfl) ?_
  refine lv_imul hx hb dX12_cell_3 ?_
  refine lv_iload_n hx hb dX12_cell_4 rfl (lv_at hl 1 rfl) ?_
  refine lv_iadd hx hb dX12_cell_5 ?_
  refine lv_bipush (v := 101) hx hb dX12_cell_6 (by decide) ?_
  refine lv_imul hx hb dX12_cell_8 ?_
  refine lv_iload_n hx hb dX12_cell_9 rfl (lv_at hl 2 rfl) ?_
  refine lv_iadd hx hb dX12_cell_10 ?_
  exact hret _ hf _ _ _ _ hP hS dX12_cell_11
theorem c_X12_cell (l : Launch) {D : va_G} {a0 : Nat → Nat} {A : Nat → Prop} {cy : Nat → ClassId} {ad : Nat → Nat} (hD : zD A 25 ad) {I : zI} {J : zJ} (p1 : Int32) (p2 : Int32) (p3 : Int32) {rx : Int32} (hf : f_X12_cell I J p1 p2 p3 = some rx) : Met l yX12_cell wsX12_cell { frames := 0, cells := 0, slots := 0, locals := 0 } (zPc D a0 A cy [.int p1, .int p2, .int p3] (zw 25 (kM cy ad) ad I J)) (zQi D A rx (zw 25 (kM cy ad) ad I J)) 0 0 A :=
  zmet RX12 (by decide) rfl rfl (Nat.le_of_ble_eq_true rfl) (fun p e R s m below meth c Q hfr hlo ls S0 hQ => w_X12_cell hfr hlo hD p1 p2 p3 hf S0 (fun tx hq H locs ls pc hP hS hd => by cases hq; exact hQ H locs _ hS (fun hx hb hr hlocks hfree => W.iret hx hb hr (fun t ht hW => ⟨⟨_, (), rfl, rfl, zht ht hP⟩, hS.F ht⟩) hfree hd hlocks)))
theorem ddX12_cell : yX12_cell.cls ≠ "java/lang/invoke/MethodHandle" ∧ yX12_cell.cls ≠ "java/lang/invoke/VarHandle" ∧ (parseMethodDescriptor yX12_cell.desc).map (fun d => d.parameters.length) = some 3 := by decide +kernel

def f_X12_steps (I : zI) (J : zJ) (p1 : Int32) : Option Int32 := zg (¬ (((4 * p1) + 1) < 0 ∨ 64 ≤ ((4 * p1) + 1).toNatClampNeg)) (some (I 6 ((4 * p1) + 1).toNatClampNeg))
theorem hinX12_steps_X12 : ∀ w ∈ u_ws RX12 TX12 31, w ∈ wsX12_steps := by decide +kernel
set_option maxHeartbeats 4000000 in
set_option maxRecDepth 100000 in
theorem w_X12_steps {p : Program} {l : Launch} {e : Env} {R : Room} {s : State} {m : MethodId} {args : Array Value} {below : List Frame} {meth : Method} {c : Code} {Q : State → Prop} (hfr : 0 ≤ R.frames) (hlo : 0 ≤ R.locals) {D : va_G} {a0 : Nat → Nat} {A : Nat → Prop} {cy : Nat → ClassId} {ad : Nat → Nat} (hD : zD A 25 ad) {I : zI} {J : zJ} (p1 : Int32) {rx : Int32} (hf : f_X12_steps I J p1 = some rx) {ls : Array Slot} (S0 : zSt p m c cX12_steps 2 s args wsX12_steps RX12 D a0 A cy (zw 25 (kM cy ad) ad I J) [.ref (ad 0), .int p1] ls) (hret : ∀ (tx : Int32), some tx = some rx → ∀ (H : Heap) (locs : List Loc) (ls : Array Slot) (pc : Nat), va_P D vwCl (zw 25 (kM cy ad) ad I J) H → va_S A s.heap H locs → decode cX12_steps pc = .ok (.ireturn, 1) → W p l e R s m args below meth c H locs 0 0 Q (F0 m pc ls [.int tx])) : W p l e R s m args below meth c s.heap [] 0 0 Q (F0 m 0 ls []) := by
  obtain ⟨S, E, hP, hl⟩ := S0
  obtain ⟨hx, hb, hml, hown, hts⟩ := id S
  have hS : va_S A s.heap s.heap [] := va_S.rf
  replace hl : lv_has ls 2 [(0, .ref (ad 0)), (1, .int p1)] := hl
  unfold f_X12_steps at hf
  refine lv_aload_n hx hb dX12_steps_0 rfl (lv_at hl 0 rfl) ?_
  refine va_get (D := D) (ci := 11) (v := .ref (ad 6)) (C := RX12) (T := TX12) (N := 31) hx hb hts hinX12_steps_X12 hown E.1 hP 0 (zO.get (oX12_at)) rfl 7 (by decide) (hts (.fieldLink RX12 26 "EdgeAndSpeedModel" "piece" "[I") (by decide +kernel)) (fun _ h9 => h9) rfl dX12_steps_1 ?_
  refine lv_iconst (v := 4) hx hb dX12_steps_4 (by decide) ?_
  refine lv_iload_n hx hb dX12_steps_5 rfl (lv_at hl 1 rfl) ?_
  refine lv_imul hx hb dX12_steps_6 ?_
  refine lv_iconst (v := 1) hx hb dX12_steps_7 (by decide) ?_
  refine lv_iadd hx hb dX12_steps_8 ?_
  obtain ⟨g1, hf⟩ := zg_i hf
  refine va_iald hx hb E.1 hP 6 1 (zIA.get (aX12_7)) rfl g1 dX12_steps_9 ?_
  exact hret _ hf _ _ _ _ hP hS dX12_steps_10
theorem c_X12_steps (l : Launch) {D : va_G} {a0 : Nat → Nat} {A : Nat → Prop} {cy : Nat → ClassId} {ad : Nat → Nat} (hD : zD A 25 ad) {I : zI} {J : zJ} (p1 : Int32) {rx : Int32} (hf : f_X12_steps I J p1 = some rx) : Met l yX12_steps wsX12_steps { frames := 0, cells := 0, slots := 0, locals := 0 } (zPc D a0 A cy [.ref (ad 0), .int p1] (zw 25 (kM cy ad) ad I J)) (zQi D A rx (zw 25 (kM cy ad) ad I J)) 0 0 A :=
  zmet RX12 (by decide) rfl rfl (Nat.le_of_ble_eq_true rfl) (fun p e R s m below meth c Q hfr hlo ls S0 hQ => w_X12_steps hfr hlo hD p1 hf S0 (fun tx hq H locs ls pc hP hS hd => by cases hq; exact hQ H locs _ hS (fun hx hb hr hlocks hfree => W.iret hx hb hr (fun t ht hW => ⟨⟨_, (), rfl, rfl, zht ht hP⟩, hS.F ht⟩) hfree hd hlocks)))
theorem ddX12_steps : yX12_steps.cls = RX12 ∧ yX12_steps.cls ≠ "java/lang/invoke/MethodHandle" ∧ yX12_steps.cls ≠ "java/lang/invoke/VarHandle" ∧ (parseMethodDescriptor yX12_steps.desc).map (fun d => d.parameters.length) = some 1 := by decide +kernel

def f_X12_isState (I : zI) (J : zJ) (p1 : Int32) (p2 : Int32) (p3 : Int32) : Option Int32 := zb1 (f_X12_isPiece I J p1) (fun x1 => (if x1 = 0 then some 0 else zb1 (f_X12_steps I J p1) (fun x4 => zb1 (f_X12_in I J (p2.toInt64) 1 (x4.toInt64)) (fun x6 => (if x6 = 0 then some 0 else zb1 (f_X12_in I J (p3.toInt64) 0 100) (fun x9 => (if x9 = 0 then some 0 else some 1)))))))
set_option maxHeartbeats 4000000 in
set_option maxRecDepth 100000 in
theorem w_X12_isState {p : Program} {l : Launch} {e : Env} {R : Room} {s : State} {m : MethodId} {args : Array Value} {below : List Frame} {meth : Method} {c : Code} {Q : State → Prop} (hfr : 2 ≤ R.frames) (hlo : 46 ≤ R.locals) {D : va_G} {a0 : Nat → Nat} {A : Nat → Prop} {cy : Nat → ClassId} {ad : Nat → Nat} (hD : zD A 25 ad) {I : zI} {J : zJ} (p1 : Int32) (p2 : Int32) (p3 : Int32) {rx : Int32} (hf : f_X12_isState I J p1 p2 p3 = some rx) {ls : Array Slot} (S0 : zSt p m c cX12_isState 4 s args wsX12_isState RX12 D a0 A cy (zw 25 (kM cy ad) ad I J) [.ref (ad 0), .int p1, .int p2, .int p3] ls) (hret : ∀ (tx : Int32), some tx = some rx → (tx = 0 ∨ tx = 1) → ∀ (H : Heap) (locs : List Loc) (ls : Array Slot) (pc : Nat), va_P D vwCl (zw 25 (kM cy ad) ad I J) H → va_S A s.heap H locs → decode cX12_isState pc = .ok (.ireturn, 1) → W p l e R s m args below meth c H locs 0 0 Q (F0 m pc ls [.int tx])) : W p l e R s m args below meth c s.heap [] 0 0 Q (F0 m 0 ls []) := by
  obtain ⟨S, E, hP, hl⟩ := S0
  obtain ⟨hx, hb, hml, hown, hts⟩ := id S
  have hS : va_S A s.heap s.heap [] := va_S.rf
  replace hl : lv_has ls 4 [(0, .ref (ad 0)), (1, .int p1), (2, .int p2), (3, .int p3)] := hl
  unfold f_X12_isState at hf
  refine lv_aload_n hx hb dX12_isState_0 rfl (lv_at hl 0 rfl) ?_
  refine lv_iload_n hx hb dX12_isState_1 rfl (lv_at hl 1 rfl) ?_
  obtain ⟨x1, h2, hf⟩ := zb1_e hf
  refine zgo_i (zrunV (As := [.int p1]) (rest := []) S (c_X12_isPiece l hD p1 h2) (cwV 1 hts gX12_isState_X12_isPiece rfl rfl rfl ddX12_isPiece ⟨Nat.le_trans (Nat.le_of_ble_eq_true rfl) hfr, Nat.le_trans (Nat.le_of_ble_eq_true rfl) hlo⟩) (va_recv E.1 hP (q := (RX12, TX12, 31)) (ci := 11) rfl (zO.get (oX12_at))) E hP hS hl.1 rfl rfl (Nat.le_of_ble_eq_true rfl) dX12_isState_2) hS (fun H locs hP hS => ?_)
  refine lv_if_eq (tgt := 39) hx hb dX12_isState_5 (by decide) (fun k3 => ?_) (fun k3 => ?_)
  · replace hf := zt k3 hf
    refine lv_iconst (v := 0) hx hb dX12_isState_39 (by decide) ?_
    exact hret _ hf (Or.inl rfl) _ _ _ _ hP hS dX12_isState_40
  · replace hf := zf k3 hf
    refine lv_iload_n hx hb dX12_isState_8 rfl (lv_at hl 2 rfl) ?_
    refine lv_i2l hx hb dX12_isState_9 rfl ?_
    refine lv_lconst (v := 1) hx hb dX12_isState_10 (by decide) ?_
    refine lv_aload_n hx hb dX12_isState_11 rfl (lv_at hl 0 rfl) ?_
    refine lv_iload_n hx hb dX12_isState_12 rfl (lv_at hl 1 rfl) ?_
    obtain ⟨x4, h5, hf⟩ := zb1_e hf
    refine zgo_i (zrunV (As := [.int p1]) (rest := [.long 1, .long (p2.toInt64)]) S (c_X12_steps l hD p1 h5) (cwV 1 hts gX12_isState_X12_steps rfl rfl rfl ddX12_steps ⟨Nat.le_trans (Nat.le_of_ble_eq_true rfl) hfr, Nat.le_trans (Nat.le_of_ble_eq_true rfl) hlo⟩) (va_recv E.1 hP (q := (RX12, TX12, 31)) (ci := 11) rfl (zO.get (oX12_at))) E hP hS hl.1 rfl rfl (Nat.le_of_ble_eq_true rfl) dX12_isState_13) hS (fun H locs hP hS => ?_)
    refine lv_i2l hx hb dX12_isState_16 rfl ?_
    obtain ⟨x6, h7, hf⟩ := zb1_e hf
    refine zgo_i (zrunS (As := [.long (p2.toInt64), .long 1, .long (x4.toInt64)]) (rest := []) S (c_X12_in l hD (p2.toInt64) 1 (x4.toInt64) h7) (va_cwS 3 hts gX12_isState_X12_in rfl rfl rfl ddX12_in ⟨Nat.le_trans (Nat.le_of_ble_eq_true rfl) hfr, Nat.le_trans (Nat.le_of_ble_eq_true rfl) hlo⟩) E hP hS hl.1 rfl rfl (Nat.le_of_ble_eq_true rfl) dX12_isState_17) hS (fun H locs hP hS => ?_)
    refine lv_if_eq (tgt := 39) hx hb dX12_isState_20 (by decide) (fun k8 => ?_) (fun k8 => ?_)
    · replace hf := zt k8 hf
      refine lv_iconst (v := 0) hx hb dX12_isState_39 (by decide) ?_
      exact hret _ hf (Or.inl rfl) _ _ _ _ hP hS dX12_isState_40
    · replace hf := zf k8 hf
      refine lv_iload_n hx hb dX12_isState_23 rfl (lv_at hl 3 rfl) ?_
      refine lv_i2l hx hb dX12_isState_24 rfl ?_
      refine lv_lconst (v := 0) hx hb dX12_isState_25 (by decide) ?_
      refine lv_ldc2 hx hb hown (hts (.constantLong RX12 164 100) (by decide +kernel)) dX12_isState_26 ?_
      obtain ⟨x9, h10, hf⟩ := zb1_e hf
      refine zgo_i (zrunS (As := [.long (p3.toInt64), .long 0, .long 100]) (rest := []) S (c_X12_in l hD (p3.toInt64) 0 100 h10) (va_cwS 3 hts gX12_isState_X12_in rfl rfl rfl ddX12_in ⟨Nat.le_trans (Nat.le_of_ble_eq_true rfl) hfr, Nat.le_trans (Nat.le_of_ble_eq_true rfl) hlo⟩) E hP hS hl.1 rfl rfl (Nat.le_of_ble_eq_true rfl) dX12_isState_29) hS (fun H locs hP hS => ?_)
      refine lv_if_eq (tgt := 39) hx hb dX12_isState_32 (by decide) (fun k11 => ?_) (fun k11 => ?_)
      · replace hf := zt k11 hf
        refine lv_iconst (v := 0) hx hb dX12_isState_39 (by decide) ?_
        exact hret _ hf (Or.inl rfl) _ _ _ _ hP hS dX12_isState_40
      · replace hf := zf k11 hf
        refine lv_iconst (v := 1) hx hb dX12_isState_35 (by decide) ?_
        refine lv_goto (tgt := 40) hx hb dX12_isState_36 (by decide) ?_
        exact hret _ hf (Or.inr rfl) _ _ _ _ hP hS dX12_isState_40
theorem c_X12_isState (l : Launch) {D : va_G} {a0 : Nat → Nat} {A : Nat → Prop} {cy : Nat → ClassId} {ad : Nat → Nat} (hD : zD A 25 ad) {I : zI} {J : zJ} (p1 : Int32) (p2 : Int32) (p3 : Int32) {rx : Int32} (hf : f_X12_isState I J p1 p2 p3 = some rx) : Met l yX12_isState wsX12_isState { frames := 2, cells := 0, slots := 0, locals := 46 } (zPc D a0 A cy [.ref (ad 0), .int p1, .int p2, .int p3] (zw 25 (kM cy ad) ad I J)) (zQi D A rx (zw 25 (kM cy ad) ad I J)) 0 0 A :=
  zmet RX12 (by decide) rfl rfl (Nat.le_of_ble_eq_true rfl) (fun p e R s m below meth c Q hfr hlo ls S0 hQ => w_X12_isState hfr hlo hD p1 p2 p3 hf S0 (fun tx hq n01 H locs ls pc hP hS hd => by cases hq; exact hQ H locs _ hS (fun hx hb hr hlocks hfree => W.zret hx hb hr (z01 n01) (fun t ht hW => ⟨⟨_, (), rfl, rfl, zht ht hP⟩, hS.F ht⟩) hfree hd hlocks)))
theorem ddX12_isState : yX12_isState.cls = RX12 ∧ yX12_isState.cls ≠ "java/lang/invoke/MethodHandle" ∧ yX12_isState.cls ≠ "java/lang/invoke/VarHandle" ∧ (parseMethodDescriptor yX12_isState.desc).map (fun d => d.parameters.length) = some 3 := by decide +kernel

def f_X12_after (I : zI) (J : zJ) (p1 : Int32) (p2 : Int32) : Option Int64 := zg (¬ ((0 : Int32) < 0 ∨ 2 ≤ (0 : Int32).toNatClampNeg)) ((if (p1 + 1) = (I 5 (0 : Int32).toNatClampNeg) then some 0 else zb1 (f_X12_steps I J (p1 + 1)) (fun x3 => zb1 (f_X12_cell I J (p1 + 1) x3 p2) (fun x5 => zg (¬ (x5 < 0 ∨ 7272 ≤ x5.toNatClampNeg)) (some (J 16 x5.toNatClampNeg))))))
theorem hinX12_after_X12 : ∀ w ∈ u_ws RX12 TX12 31, w ∈ wsX12_after := by decide +kernel
set_option maxHeartbeats 4000000 in
set_option maxRecDepth 100000 in
theorem w_X12_after {p : Program} {l : Launch} {e : Env} {R : Room} {s : State} {m : MethodId} {args : Array Value} {below : List Frame} {meth : Method} {c : Code} {Q : State → Prop} (hfr : 1 ≤ R.frames) (hlo : 22 ≤ R.locals) {D : va_G} {a0 : Nat → Nat} {A : Nat → Prop} {cy : Nat → ClassId} {ad : Nat → Nat} (hD : zD A 25 ad) {I : zI} {J : zJ} (p1 : Int32) (p2 : Int32) {rx : Int64} (hf : f_X12_after I J p1 p2 = some rx) {ls : Array Slot} (S0 : zSt p m c cX12_after 3 s args wsX12_after RX12 D a0 A cy (zw 25 (kM cy ad) ad I J) [.ref (ad 0), .int p1, .int p2] ls) (hret : ∀ (tx : Int64), some tx = some rx → ∀ (H : Heap) (locs : List Loc) (ls : Array Slot) (pc : Nat), va_P D vwCl (zw 25 (kM cy ad) ad I J) H → va_S A s.heap H locs → decode cX12_after pc = .ok (.lreturn, 1) → W p l e R s m args below meth c H locs 0 0 Q (F0 m pc ls [.long tx])) : W p l e R s m args below meth c s.heap [] 0 0 Q (F0 m 0 ls []) := by
  obtain ⟨S, E, hP, hl⟩ := S0
  obtain ⟨hx, hb, hml, hown, hts⟩ := id S
  have hS : va_S A s.heap s.heap [] := va_S.rf
  replace hl : lv_has ls 3 [(0, .ref (ad 0)), (1, .int p1), (2, .int p2)] := hl
  unfold f_X12_after at hf
  refine lv_iload_n hx hb dX12_after_0 rfl (lv_at hl 1 rfl) ?_
  refine lv_iconst (v := 1) hx hb dX12_after_1 (by decide) ?_
  refine lv_iadd hx hb dX12_after_2 ?_
  refine lv_aload_n hx hb dX12_after_3 rfl (lv_at hl 0 rfl) ?_
  refine va_get (D := D) (ci := 11) (v := .ref (ad 5)) (C := RX12) (T := TX12) (N := 31) hx hb hts hinX12_after_X12 hown E.1 hP 0 (zO.get (oX12_at)) rfl 6 (by decide) (hts (.fieldLink RX12 23 "EdgeAndSpeedModel" "pieces" "[I") (by decide +kernel)) (fun _ h9 => h9) rfl dX12_after_4 ?_
  refine lv_iconst (v := 0) hx hb dX12_after_7 (by decide) ?_
  obtain ⟨g1, hf⟩ := zg_i hf
  refine va_iald hx hb E.1 hP 5 1 (zIA.get (aX12_6)) rfl g1 dX12_after_8 ?_
  refine lv_icmp_ne (tgt := 16) hx hb dX12_after_9 (by decide) (fun k2 => ?_) (fun k2 => ?_)
  · replace hf := zf k2 hf
    refine lv_aload_n hx hb dX12_after_16 rfl (lv_at hl 0 rfl) ?_
    refine va_get (D := D) (ci := 11) (v := .ref (ad 16)) (C := RX12) (T := TX12) (N := 31) hx hb hts hinX12_after_X12 hown E.1 hP 0 (zO.get (oX12_at)) rfl 18 (by decide) (hts (.fieldLink RX12 56 "EdgeAndSpeedModel" "value" "[J") (by decide +kernel)) (fun _ h9 => h9) rfl dX12_after_17 ?_
    refine lv_iload_n hx hb dX12_after_20 rfl (lv_at hl 1 rfl) ?_
    refine lv_iconst (v := 1) hx hb dX12_after_21 (by decide) ?_
    refine lv_iadd hx hb dX12_after_22 ?_
    refine lv_aload_n hx hb dX12_after_23 rfl (lv_at hl 0 rfl) ?_
    refine lv_iload_n hx hb dX12_after_24 rfl (lv_at hl 1 rfl) ?_
    refine lv_iconst (v := 1) hx hb dX12_after_25 (by decide) ?_
    refine lv_iadd hx hb dX12_after_26 ?_
    obtain ⟨x3, h4, hf⟩ := zb1_e hf
    refine zgo_i (zrunV (As := [.int (p1 + 1)]) (rest := [.int (p1 + 1), .ref (ad 16)]) S (c_X12_steps l hD (p1 + 1) h4) (cwV 1 hts gX12_after_X12_steps rfl rfl rfl ddX12_steps ⟨Nat.le_trans (Nat.le_of_ble_eq_true rfl) hfr, Nat.le_trans (Nat.le_of_ble_eq_true rfl) hlo⟩) (va_recv E.1 hP (q := (RX12, TX12, 31)) (ci := 11) rfl (zO.get (oX12_at))) E hP hS hl.1 rfl rfl (Nat.le_of_ble_eq_true rfl) dX12_after_27) hS (fun H locs hP hS => ?_)
    refine lv_iload_n hx hb dX12_after_30 rfl (lv_at hl 2 rfl) ?_
    obtain ⟨x5, h6, hf⟩ := zb1_e hf
    refine zgo_i (zrunS (As := [.int (p1 + 1), .int x3, .int p2]) (rest := [.ref (ad 16)]) S (c_X12_cell l hD (p1 + 1) x3 p2 h6) (va_cwS 3 hts gX12_after_X12_cell rfl rfl rfl ddX12_cell ⟨Nat.le_trans (Nat.le_of_ble_eq_true rfl) hfr, Nat.le_trans (Nat.le_of_ble_eq_true rfl) hlo⟩) E hP hS hl.1 rfl rfl (Nat.le_of_ble_eq_true rfl) dX12_after_31) hS (fun H locs hP hS => ?_)
    obtain ⟨g7, hf⟩ := zg_i hf
    refine va_lald hx hb E.1 hP 16 2 (zLA.get (aX12_18)) rfl g7 dX12_after_34 ?_
    exact hret _ hf _ _ _ _ hP hS dX12_after_35
  · replace hf := zt k2 hf
    refine lv_lconst (v := 0) hx hb dX12_after_12 (by decide) ?_
    refine lv_goto (tgt := 35) hx hb dX12_after_13 (by decide) ?_
    exact hret _ hf _ _ _ _ hP hS dX12_after_35
theorem c_X12_after (l : Launch) {D : va_G} {a0 : Nat → Nat} {A : Nat → Prop} {cy : Nat → ClassId} {ad : Nat → Nat} (hD : zD A 25 ad) {I : zI} {J : zJ} (p1 : Int32) (p2 : Int32) {rx : Int64} (hf : f_X12_after I J p1 p2 = some rx) : Met l yX12_after wsX12_after { frames := 1, cells := 0, slots := 0, locals := 22 } (zPc D a0 A cy [.ref (ad 0), .int p1, .int p2] (zw 25 (kM cy ad) ad I J)) (zQl D A rx (zw 25 (kM cy ad) ad I J)) 0 0 A :=
  zmet RX12 (by decide) rfl rfl (Nat.le_of_ble_eq_true rfl) (fun p e R s m below meth c Q hfr hlo ls S0 hQ => w_X12_after hfr hlo hD p1 p2 hf S0 (fun tx hq H locs ls pc hP hS hd => by cases hq; exact hQ H locs _ hS (fun hx hb hr hlocks hfree => W.lret hx hb hr (fun t ht hW => ⟨⟨_, (), rfl, rfl, zht ht hP⟩, hS.F ht⟩) hfree hd hlocks)))
theorem ddX12_after : yX12_after.cls = RX12 ∧ yX12_after.cls ≠ "java/lang/invoke/MethodHandle" ∧ yX12_after.cls ≠ "java/lang/invoke/VarHandle" ∧ (parseMethodDescriptor yX12_after.desc).map (fun d => d.parameters.length) = some 2 := by decide +kernel

def f_X12_can (I : zI) (J : zJ) (p1 : Int32) (p2 : Int32) (p3 : Int32) (p4 : Int32) : Option Int32 := (if p4 ≤ 47 then zb1 (f_X12_isSpeed I J (p4 / 8)) (fun x2 => (if x2 = 0 then some 0 else (if p2 ≤ (p4 - p4 / 8 * 8) then some 0 else zb1 (f_X12_may I J (p4 / 8) ((p4 - p4 / 8 * 8) + 1)) (fun x6 => (if x6 = 0 then some 0 else some 1))))) else (if p4 = 49 then some 1 else (if p3 ≤ 0 then some 0 else some 1)))
set_option maxHeartbeats 4000000 in
set_option maxRecDepth 100000 in
theorem w_X12_can {p : Program} {l : Launch} {e : Env} {R : Room} {s : State} {m : MethodId} {args : Array Value} {below : List Frame} {meth : Method} {c : Code} {Q : State → Prop} (hfr : 2 ≤ R.frames) (hlo : 46 ≤ R.locals) {D : va_G} {a0 : Nat → Nat} {A : Nat → Prop} {cy : Nat → ClassId} {ad : Nat → Nat} (hD : zD A 25 ad) {I : zI} {J : zJ} (p1 : Int32) (p2 : Int32) (p3 : Int32) (p4 : Int32) {rx : Int32} (hf : f_X12_can I J p1 p2 p3 p4 = some rx) {ls : Array Slot} (S0 : zSt p m c cX12_can 5 s args wsX12_can RX12 D a0 A cy (zw 25 (kM cy ad) ad I J) [.ref (ad 0), .int p1, .int p2, .int p3, .int p4] ls) (hret : ∀ (tx : Int32), some tx = some rx → (tx = 0 ∨ tx = 1) → ∀ (H : Heap) (locs : List Loc) (ls : Array Slot) (pc : Nat), va_P D vwCl (zw 25 (kM cy ad) ad I J) H → va_S A s.heap H locs → decode cX12_can pc = .ok (.ireturn, 1) → W p l e R s m args below meth c H locs 0 0 Q (F0 m pc ls [.int tx])) : W p l e R s m args below meth c s.heap [] 0 0 Q (F0 m 0 ls []) := by
  obtain ⟨S, E, hP, hl⟩ := S0
  obtain ⟨hx, hb, hml, hown, hts⟩ := id S
  have hS : va_S A s.heap s.heap [] := va_S.rf
  replace hl : lv_has ls 5 [(0, .ref (ad 0)), (1, .int p1), (2, .int p2), (3, .int p3), (4, .int p4)] := hl
  unfold f_X12_can at hf
  refine lv_iload hx hb dX12_can_0 (lv_at hl 4 rfl) ?_
  refine lv_bipush (v := 47) hx hb dX12_can_2 (by decide) ?_
  refine lv_icmp_le (tgt := 24) hx hb dX12_can_4 (by decide) (fun k1 => ?_) (fun k1 => ?_)
  · replace hf := zt k1 hf
    refine lv_aload_n hx hb dX12_can_24 rfl (lv_at hl 0 rfl) ?_
    refine lv_iload hx hb dX12_can_25 (lv_at hl 4 rfl) ?_
    refine lv_bipush (v := 8) hx hb dX12_can_27 (by decide) ?_
    refine lv_idiv hx hb dX12_can_29 (by decide) ?_
    obtain ⟨x2, h3, hf⟩ := zb1_e hf
    refine zgo_i (zrunV (As := [.int (p4 / 8)]) (rest := []) S (c_X12_isSpeed l hD (p4 / 8) h3) (cwV 1 hts gX12_can_X12_isSpeed rfl rfl rfl ddX12_isSpeed ⟨Nat.le_trans (Nat.le_of_ble_eq_true rfl) hfr, Nat.le_trans (Nat.le_of_ble_eq_true rfl) hlo⟩) (va_recv E.1 hP (q := (RX12, TX12, 31)) (ci := 11) rfl (zO.get (oX12_at))) E hP hS hl.1 rfl rfl (Nat.le_of_ble_eq_true rfl) dX12_can_30) hS (fun H locs hP hS => ?_)
    refine lv_if_eq (tgt := 68) hx hb dX12_can_33 (by decide) (fun k4 => ?_) (fun k4 => ?_)
    · replace hf := zt k4 hf
      refine lv_iconst (v := 0) hx hb dX12_can_68 (by decide) ?_
      exact hret _ hf (Or.inl rfl) _ _ _ _ hP hS dX12_can_69
    · replace hf := zf k4 hf
      refine lv_iload hx hb dX12_can_36 (lv_at hl 4 rfl) ?_
      refine lv_bipush (v := 8) hx hb dX12_can_38 (by decide) ?_
      refine lv_irem hx hb dX12_can_40 (by decide) ?_
      refine lv_iload_n hx hb dX12_can_41 rfl (lv_at hl 2 rfl) ?_
      refine lv_icmp_ge (tgt := 68) hx hb dX12_can_42 (by decide) (fun k5 => ?_) (fun k5 => ?_)
      · replace hf := zt k5 hf
        refine lv_iconst (v := 0) hx hb dX12_can_68 (by decide) ?_
        exact hret _ hf (Or.inl rfl) _ _ _ _ hP hS dX12_can_69
      · replace hf := zf k5 hf
        refine lv_aload_n hx hb dX12_can_45 rfl (lv_at hl 0 rfl) ?_
        refine lv_iload hx hb dX12_can_46 (lv_at hl 4 rfl) ?_
        refine lv_bipush (v := 8) hx hb dX12_can_48 (by decide) ?_
        refine lv_idiv hx hb dX12_can_50 (by decide) ?_
        refine lv_iload hx hb dX12_can_51 (lv_at hl 4 rfl) ?_
        refine lv_bipush (v := 8) hx hb dX12_can_53 (by decide) ?_
        refine lv_irem hx hb dX12_can_55 (by decide) ?_
        refine lv_iconst (v := 1) hx hb dX12_can_56 (by decide) ?_
        refine lv_iadd hx hb dX12_can_57 ?_
        obtain ⟨x6, h7, hf⟩ := zb1_e hf
        refine zgo_i (zrunV (As := [.int (p4 / 8), .int ((p4 - p4 / 8 * 8) + 1)]) (rest := []) S (c_X12_may l hD (p4 / 8) ((p4 - p4 / 8 * 8) + 1) h7) (cwV 2 hts gX12_can_X12_may rfl rfl rfl ddX12_may ⟨Nat.le_trans (Nat.le_of_ble_eq_true rfl) hfr, Nat.le_trans (Nat.le_of_ble_eq_true rfl) hlo⟩) (va_recv E.1 hP (q := (RX12, TX12, 31)) (ci := 11) rfl (zO.get (oX12_at))) E hP hS hl.1 rfl rfl (Nat.le_of_ble_eq_true rfl) dX12_can_58) hS (fun H locs hP hS => ?_)
        refine lv_if_eq (tgt := 68) hx hb dX12_can_61 (by decide) (fun k8 => ?_) (fun k8 => ?_)
        · replace hf := zt k8 hf
          refine lv_iconst (v := 0) hx hb dX12_can_68 (by decide) ?_
          exact hret _ hf (Or.inl rfl) _ _ _ _ hP hS dX12_can_69
        · replace hf := zf k8 hf
          refine lv_iconst (v := 1) hx hb dX12_can_64 (by decide) ?_
          refine lv_goto (tgt := 69) hx hb dX12_can_65 (by decide) ?_
          exact hret _ hf (Or.inr rfl) _ _ _ _ hP hS dX12_can_69
  · replace hf := zf k1 hf
    refine lv_iload hx hb dX12_can_7 (lv_at hl 4 rfl) ?_
    refine lv_bipush (v := 49) hx hb dX12_can_9 (by decide) ?_
    refine lv_icmp_eq (tgt := 18) hx hb dX12_can_11 (by decide) (fun k9 => ?_) (fun k9 => ?_)
    · replace hf := zt k9 hf
      refine lv_iconst (v := 1) hx hb dX12_can_18 (by decide) ?_
      refine lv_goto (tgt := 23) hx hb dX12_can_19 (by decide) ?_
      exact hret _ hf (Or.inr rfl) _ _ _ _ hP hS dX12_can_23
    · replace hf := zf k9 hf
      refine lv_iload_n hx hb dX12_can_14 rfl (lv_at hl 3 rfl) ?_
      refine lv_if_le (tgt := 22) hx hb dX12_can_15 (by decide) (fun k10 => ?_) (fun k10 => ?_)
      · replace hf := zt k10 hf
        refine lv_iconst (v := 0) hx hb dX12_can_22 (by decide) ?_
        exact hret _ hf (Or.inl rfl) _ _ _ _ hP hS dX12_can_23
      · replace hf := zf k10 hf
        refine lv_iconst (v := 1) hx hb dX12_can_18 (by decide) ?_
        refine lv_goto (tgt := 23) hx hb dX12_can_19 (by decide) ?_
        exact hret _ hf (Or.inr rfl) _ _ _ _ hP hS dX12_can_23
theorem c_X12_can (l : Launch) {D : va_G} {a0 : Nat → Nat} {A : Nat → Prop} {cy : Nat → ClassId} {ad : Nat → Nat} (hD : zD A 25 ad) {I : zI} {J : zJ} (p1 : Int32) (p2 : Int32) (p3 : Int32) (p4 : Int32) {rx : Int32} (hf : f_X12_can I J p1 p2 p3 p4 = some rx) : Met l yX12_can wsX12_can { frames := 2, cells := 0, slots := 0, locals := 46 } (zPc D a0 A cy [.ref (ad 0), .int p1, .int p2, .int p3, .int p4] (zw 25 (kM cy ad) ad I J)) (zQi D A rx (zw 25 (kM cy ad) ad I J)) 0 0 A :=
  zmet RX12 (by decide) rfl rfl (Nat.le_of_ble_eq_true rfl) (fun p e R s m below meth c Q hfr hlo ls S0 hQ => w_X12_can hfr hlo hD p1 p2 p3 p4 hf S0 (fun tx hq n01 H locs ls pc hP hS hd => by cases hq; exact hQ H locs _ hS (fun hx hb hr hlocks hfree => W.zret hx hb hr (z01 n01) (fun t ht hW => ⟨⟨_, (), rfl, rfl, zht ht hP⟩, hS.F ht⟩) hfree hd hlocks)))
theorem ddX12_can : yX12_can.cls = RX12 ∧ yX12_can.cls ≠ "java/lang/invoke/MethodHandle" ∧ yX12_can.cls ≠ "java/lang/invoke/VarHandle" ∧ (parseMethodDescriptor yX12_can.desc).map (fun d => d.parameters.length) = some 4 := by decide +kernel
