def f_X5_told (I : zI) (J : zJ) (p1 : Int32) (p2 : Int32) (p3 : Int32) : Option Int64 := zb1 (f_X5_cell I J p1 p2) (fun x1 => zb1 (f_X11_within I J x1 0 908) (fun x3 => (if x3 = 0 then some (-4) else zg (¬ (x1 < 0 ∨ 909 ≤ x1.toNatClampNeg)) ((if (I 42 x1.toNatClampNeg) = (-4) then some (-4) else (if p3 = 0 then zg (¬ (x1 < 0 ∨ 909 ≤ x1.toNatClampNeg)) (some (J 40 x1.toNatClampNeg)) else (if p3 = 1 then zg (¬ (x1 < 0 ∨ 909 ≤ x1.toNatClampNeg)) (some ((I 41 x1.toNatClampNeg).toInt64)) else zg (¬ (x1 < 0 ∨ 909 ≤ x1.toNatClampNeg)) (some ((I 42 x1.toNatClampNeg).toInt64)))))))))
theorem hinX5_told_X5 : ∀ w ∈ u_ws RX5 TX5 4, w ∈ wsX5_told := by decide +kernel
set_option maxHeartbeats 4000000 in
set_option maxRecDepth 100000 in
theorem w_X5_told {p : Program} {l : Launch} {e : Env} {R : Room} {s : State} {m : MethodId} {args : Array Value} {below : List Frame} {meth : Method} {c : Code} {Q : State → Prop} (hfr : 1 ≤ R.frames) (hlo : 22 ≤ R.locals) {D : va_G} {a0 : Nat → Nat} {A : Nat → Prop} {cy : Nat → ClassId} {ad : Nat → Nat} (hD : zD A 74 ad) {I : zI} {J : zJ} (p1 : Int32) (p2 : Int32) (p3 : Int32) {rx : Int64} (hf : f_X5_told I J p1 p2 p3 = some rx) {ls : Array Slot} (S0 : zSt p m c cX5_told 5 s args wsX5_told RX5 D a0 A cy (zw 74 (kC cy ad a0) ad I J) [.ref (ad 39), .int p1, .int p2, .int p3] ls) (hret : ∀ (tx : Int64), some tx = some rx → ∀ (H : Heap) (locs : List Loc) (ls : Array Slot) (pc : Nat), va_P D vwCl (zw 74 (kC cy ad a0) ad I J) H → va_S A s.heap H locs → decode cX5_told pc = .ok (.lreturn, 1) → W p l e R s m args below meth c H locs 0 0 Q (F0 m pc ls [.long tx])) : W p l e R s m args below meth c s.heap [] 0 0 Q (F0 m 0 ls []) := by
  obtain ⟨S, E, hP, hl⟩ := S0
  obtain ⟨hx, hb, hml, hown, hts⟩ := id S
  have hS : va_S A s.heap s.heap [] := va_S.rf
  replace hl : lv_has ls 5 [(0, .ref (ad 39)), (1, .int p1), (2, .int p2), (3, .int p3)] := hl
  unfold f_X5_told at hf
  refine lv_iload_n hx hb dX5_told_0 rfl (lv_at hl 1 rfl) ?_
  refine lv_iload_n hx hb dX5_told_1 rfl (lv_at hl 2 rfl) ?_
  obtain ⟨x1, h2, hf⟩ := zb1_e hf
  refine zgo_i (zrunS (As := [.int p1, .int p2]) (rest := []) S (c_X5_cell l hD p1 p2 h2) (va_cwS 2 hts gX5_told_X5_cell rfl rfl rfl ddX5_cell ⟨Nat.le_trans (Nat.le_of_ble_eq_true rfl) hfr, Nat.le_trans (Nat.le_of_ble_eq_true rfl) hlo⟩) E hP hS hl.1 rfl rfl (Nat.le_of_ble_eq_true rfl) dX5_told_2) hS (fun H locs hP hS => ?_)
  refine lv_istore (lv' := [(4, .int x1), (0, .ref (ad 39)), (1, .int p1), (2, .int p2), (3, .int p3)]) hx hb dX5_told_5 hl (by decide) rfl (fun ls hl => ?_)
  refine lv_iload hx hb dX5_told_7 (lv_at hl 0 rfl) ?_
  refine lv_iconst (v := 0) hx hb dX5_told_9 (by decide) ?_
  refine lv_sipush (v := 908) hx hb dX5_told_10 (by decide) ?_
  obtain ⟨x3, h4, hf⟩ := zb1_e hf
  refine zgo_i (zrunSN (As := [.int x1, .int 0, .int 908]) (rest := []) S (c_X11_within l hD x1 0 908 h4) ⟨va_cnB (host := "EdgeAndSpeed") 3 hts gX5_told_X11_within_n79 rfl rfl rfl (zNmw_12 E.2.2) (hts (.initialized RX11) (by decide +kernel)) ddX11_within ⟨Nat.le_trans (Nat.le_of_ble_eq_true rfl) hfr, Nat.le_trans (Nat.le_of_ble_eq_true rfl) hlo⟩, hts (.static yX11_within) (by decide +kernel), trivial⟩ E hP hS hl.1 rfl rfl (Nat.le_of_ble_eq_true rfl) dX5_told_13) hS (fun H locs hP hS => ?_)
  refine lv_if_eq (tgt := 31) hx hb dX5_told_16 (by decide) (fun k5 => ?_) (fun k5 => ?_)
  · replace hf := zt k5 hf
    refine lv_ldc2 hx hb hown (hts (.constantLong RX5 83 (-4)) (by decide +kernel)) dX5_told_31 ?_
    exact hret _ hf _ _ _ _ hP hS dX5_told_34
  · replace hf := zf k5 hf
    refine lv_aload_n hx hb dX5_told_19 rfl (lv_at hl 1 rfl) ?_
    refine va_get (D := D) (ci := 4) (v := .ref (ad 42)) (C := RX5) (T := TX5) (N := 4) hx hb hts hinX5_told_X5 hown E.1 hP 39 (zO.get (oX5_at)) rfl 3 (by decide) (hts (.fieldLink RX5 19 "EdgeAndSpeed$Parting" "firsts" "[I") (by decide +kernel)) (fun _ h9 => h9) rfl dX5_told_20 ?_
    refine lv_iload hx hb dX5_told_23 (lv_at hl 0 rfl) ?_
    obtain ⟨g6, hf⟩ := zg_i hf
    refine va_iald hx hb E.1 hP 42 1 (zIA.get (aX5_3)) rfl g6 dX5_told_25 ?_
    refine lv_bipush (v := (-4)) hx hb dX5_told_26 (by decide) ?_
    refine lv_icmp_ne (tgt := 35) hx hb dX5_told_28 (by decide) (fun k7 => ?_) (fun k7 => ?_)
    · replace hf := zf k7 hf
      refine lv_iload_n hx hb dX5_told_35 rfl (lv_at hl 4 rfl) ?_
      refine lv_if_ne (tgt := 47) hx hb dX5_told_36 (by decide) (fun k8 => ?_) (fun k8 => ?_)
      · replace hf := zf k8 hf
        refine lv_iload_n hx hb dX5_told_47 rfl (lv_at hl 4 rfl) ?_
        refine lv_iconst (v := 1) hx hb dX5_told_48 (by decide) ?_
        refine lv_icmp_ne (tgt := 63) hx hb dX5_told_49 (by decide) (fun k9 => ?_) (fun k9 => ?_)
        · replace hf := zf k9 hf
          refine lv_aload_n hx hb dX5_told_63 rfl (lv_at hl 1 rfl) ?_
          refine va_get (D := D) (ci := 4) (v := .ref (ad 42)) (C := RX5) (T := TX5) (N := 4) hx hb hts hinX5_told_X5 hown E.1 hP 39 (zO.get (oX5_at)) rfl 3 (by decide) (hts (.fieldLink RX5 19 "EdgeAndSpeed$Parting" "firsts" "[I") (by decide +kernel)) (fun _ h9 => h9) rfl dX5_told_64 ?_
          refine lv_iload hx hb dX5_told_67 (lv_at hl 0 rfl) ?_
          obtain ⟨g10, hf⟩ := zg_i hf
          refine va_iald hx hb E.1 hP 42 1 (zIA.get (aX5_3)) rfl g10 dX5_told_69 ?_
          refine lv_i2l hx hb dX5_told_70 rfl ?_
          exact hret _ hf _ _ _ _ hP hS dX5_told_71
        · replace hf := zt k9 hf
          refine lv_aload_n hx hb dX5_told_52 rfl (lv_at hl 1 rfl) ?_
          refine va_get (D := D) (ci := 4) (v := .ref (ad 41)) (C := RX5) (T := TX5) (N := 4) hx hb hts hinX5_told_X5 hown E.1 hP 39 (zO.get (oX5_at)) rfl 2 (by decide) (hts (.fieldLink RX5 15 "EdgeAndSpeed$Parting" "passes" "[I") (by decide +kernel)) (fun _ h9 => h9) rfl dX5_told_53 ?_
          refine lv_iload hx hb dX5_told_56 (lv_at hl 0 rfl) ?_
          obtain ⟨g11, hf⟩ := zg_i hf
          refine va_iald hx hb E.1 hP 41 1 (zIA.get (aX5_2)) rfl g11 dX5_told_58 ?_
          refine lv_i2l hx hb dX5_told_59 rfl ?_
          refine lv_goto (tgt := 71) hx hb dX5_told_60 (by decide) ?_
          exact hret _ hf _ _ _ _ hP hS dX5_told_71
      · replace hf := zt k8 hf
        refine lv_aload_n hx hb dX5_told_39 rfl (lv_at hl 1 rfl) ?_
        refine va_get (D := D) (ci := 4) (v := .ref (ad 40)) (C := RX5) (T := TX5) (N := 4) hx hb hts hinX5_told_X5 hown E.1 hP 39 (zO.get (oX5_at)) rfl 1 (by decide) (hts (.fieldLink RX5 11 "EdgeAndSpeed$Parting" "costs" "[J") (by decide +kernel)) (fun _ h9 => h9) rfl dX5_told_40 ?_
        refine lv_iload hx hb dX5_told_43 (lv_at hl 0 rfl) ?_
        obtain ⟨g12, hf⟩ := zg_i hf
        refine va_lald hx hb E.1 hP 40 2 (zLA.get (aX5_1)) rfl g12 dX5_told_45 ?_
        exact hret _ hf _ _ _ _ hP hS dX5_told_46
    · replace hf := zt k7 hf
      refine lv_ldc2 hx hb hown (hts (.constantLong RX5 83 (-4)) (by decide +kernel)) dX5_told_31 ?_
      exact hret _ hf _ _ _ _ hP hS dX5_told_34
theorem c_X5_told (l : Launch) {D : va_G} {a0 : Nat → Nat} {A : Nat → Prop} {cy : Nat → ClassId} {ad : Nat → Nat} (hD : zD A 74 ad) {I : zI} {J : zJ} (p1 : Int32) (p2 : Int32) (p3 : Int32) {rx : Int64} (hf : f_X5_told I J p1 p2 p3 = some rx) : Met l yX5_told wsX5_told { frames := 1, cells := 0, slots := 0, locals := 22 } (zPc D a0 A cy [.ref (ad 39), .int p1, .int p2, .int p3] (zw 74 (kC cy ad a0) ad I J)) (zQl D A rx (zw 74 (kC cy ad a0) ad I J)) 0 0 A :=
  zmet RX5 (by decide) rfl rfl (Nat.le_of_ble_eq_true rfl) (fun p e R s m below meth c Q hfr hlo ls S0 hQ => w_X5_told hfr hlo hD p1 p2 p3 hf S0 (fun tx hq H locs ls pc hP hS hd => by cases hq; exact hQ H locs _ hS (fun hx hb hr hlocks hfree => W.lret hx hb hr (fun t ht hW => ⟨⟨_, (), rfl, rfl, zht ht hP⟩, hS.F ht⟩) hfree hd hlocks)))
theorem ddX5_told : yX5_told.cls = RX5 ∧ yX5_told.cls ≠ "java/lang/invoke/MethodHandle" ∧ yX5_told.cls ≠ "java/lang/invoke/VarHandle" ∧ (parseMethodDescriptor yX5_told.desc).map (fun d => d.parameters.length) = some 3 := by decide +kernel

def f_X11_parted (I : zI) (J : zJ) (p1 : Int32) (p2 : Int32) (p3 : Int32) (p4 : Int32) : Option (Int64 × zI × zJ) := zb1 (f_X0_hasPiece I J 4 p1) (fun x1 => (if x1 = 0 then some ((-1), I, J) else zb1 (f_X0_hasSteel I J 4 p2) (fun x4 => (if x4 = 0 then some ((-1), I, J) else zb1 (f_X11_within I J p3 0 100) (fun x7 => (if x7 = 0 then some ((-1), I, J) else zb1 (f_X11_within I J p4 0 2) (fun x10 => (if x10 = 0 then some ((-1), I, J) else zb2 (f_X5_find I J p1 p2) (fun I13 J14 => zb1 (f_X0_stepsOf I13 J14 4 p1) (fun x16 => zb1 (f_X5_told I13 J14 x16 p3 p4) (fun u18 => some (u18, I13, J14))))))))))))
theorem hinX11_parted_X11 : ∀ w ∈ u_ws RX11 TX11 12, w ∈ wsX11_parted := by decide +kernel
set_option maxHeartbeats 4000000 in
set_option maxRecDepth 100000 in
theorem w_X11_parted {p : Program} {l : Launch} {e : Env} {R : Room} {s : State} {m : MethodId} {args : Array Value} {below : List Frame} {meth : Method} {c : Code} {Q : State → Prop} (hfr : 4 ≤ R.frames) (hlo : 103 ≤ R.locals) {D : va_G} {a0 : Nat → Nat} {A : Nat → Prop} {cy : Nat → ClassId} {ad : Nat → Nat} (hD : zD A 74 ad) {I : zI} {J : zJ} (p1 : Int32) (p2 : Int32) (p3 : Int32) (p4 : Int32) {rx : Int64} {rI : zI} {rJ : zJ} (hf : f_X11_parted I J p1 p2 p3 p4 = some (rx, rI, rJ)) {ls : Array Slot} (S0 : zSt p m c cX11_parted 5 s args wsX11_parted RX11 D a0 A cy (zw 74 (kC cy ad a0) ad I J) [.ref (ad 0), .int p1, .int p2, .int p3, .int p4] ls) (hret : ∀ (tx : Int64) (tI : zI) (tJ : zJ), some (tx, tI, tJ) = some (rx, rI, rJ) → ∀ (H : Heap) (locs : List Loc) (ls : Array Slot) (pc : Nat), va_P D vwCl (zw 74 (kC cy ad a0) ad tI tJ) H → va_S A s.heap H locs → decode cX11_parted pc = .ok (.lreturn, 1) → W p l e R s m args below meth c H locs 0 0 Q (F0 m pc ls [.long tx])) : W p l e R s m args below meth c s.heap [] 0 0 Q (F0 m 0 ls []) := by
  obtain ⟨S, E, hP, hl⟩ := S0
  obtain ⟨hx, hb, hml, hown, hts⟩ := id S
  have hS : va_S A s.heap s.heap [] := va_S.rf
  replace hl : lv_has ls 5 [(0, .ref (ad 0)), (1, .int p1), (2, .int p2), (3, .int p3), (4, .int p4)] := hl
  unfold f_X11_parted at hf
  refine lv_aload_n hx hb dX11_parted_0 rfl (lv_at hl 0 rfl) ?_
  refine va_get (D := D) (ci := 10) (v := .ref (ad 4)) (C := RX11) (T := TX11) (N := 12) hx hb hts hinX11_parted_X11 hown E.1 hP 0 (zO.get (oX11_at)) rfl 1 (by decide) (hts (.fieldLink RX11 19 "EdgeAndSpeed" "bench" "LEdgeAndSpeed$Bench;") (by decide +kernel)) (fun _ h9 => h9) rfl dX11_parted_1 ?_
  refine lv_iload_n hx hb dX11_parted_4 rfl (lv_at hl 1 rfl) ?_
  obtain ⟨x1, h2, hf⟩ := zb1_e hf
  refine zgo_i (zrunV (As := [.int p1]) (rest := []) S (c_X0_hasPiece l hD 4 (zBat_C (by decide)) p1 h2) (cwV 1 hts gX11_parted_X0_hasPiece rfl rfl rfl ddX0_hasPiece ⟨Nat.le_trans (Nat.le_of_ble_eq_true rfl) hfr, Nat.le_trans (Nat.le_of_ble_eq_true rfl) hlo⟩) (va_recv E.1 hP (q := (RX0, TX0, 17)) (ci := 0) rfl (zO.get (zBat_o (zBat_C (by decide))))) E hP hS hl.1 rfl rfl (Nat.le_of_ble_eq_true rfl) dX11_parted_5) hS (fun H locs hP hS => ?_)
  refine lv_if_eq (tgt := 22) hx hb dX11_parted_8 (by decide) (fun k3 => ?_) (fun k3 => ?_)
  · replace hf := zt k3 hf
    refine lv_ldc2 hx hb hown (hts (.constantLong RX11 185 (-1)) (by decide +kernel)) dX11_parted_22 ?_
    exact hret _ _ _ hf _ _ _ _ hP hS dX11_parted_25
  · replace hf := zf k3 hf
    refine lv_aload_n hx hb dX11_parted_11 rfl (lv_at hl 0 rfl) ?_
    refine va_get (D := D) (ci := 10) (v := .ref (ad 4)) (C := RX11) (T := TX11) (N := 12) hx hb hts hinX11_parted_X11 hown E.1 hP 0 (zO.get (oX11_at)) rfl 1 (by decide) (hts (.fieldLink RX11 19 "EdgeAndSpeed" "bench" "LEdgeAndSpeed$Bench;") (by decide +kernel)) (fun _ h9 => h9) rfl dX11_parted_12 ?_
    refine lv_iload_n hx hb dX11_parted_15 rfl (lv_at hl 2 rfl) ?_
    obtain ⟨x4, h5, hf⟩ := zb1_e hf
    refine zgo_i (zrunV (As := [.int p2]) (rest := []) S (c_X0_hasSteel l hD 4 (zBat_C (by decide)) p2 h5) (cwV 1 hts gX11_parted_X0_hasSteel rfl rfl rfl ddX0_hasSteel ⟨Nat.le_trans (Nat.le_of_ble_eq_true rfl) hfr, Nat.le_trans (Nat.le_of_ble_eq_true rfl) hlo⟩) (va_recv E.1 hP (q := (RX0, TX0, 17)) (ci := 0) rfl (zO.get (zBat_o (zBat_C (by decide))))) E hP hS hl.1 rfl rfl (Nat.le_of_ble_eq_true rfl) dX11_parted_16) hS (fun H locs hP hS => ?_)
    refine lv_if_ne (tgt := 26) hx hb dX11_parted_19 (by decide) (fun k6 => ?_) (fun k6 => ?_)
    · replace hf := zf k6 hf
      refine lv_iload_n hx hb dX11_parted_26 rfl (lv_at hl 3 rfl) ?_
      refine lv_iconst (v := 0) hx hb dX11_parted_27 (by decide) ?_
      refine lv_bipush (v := 100) hx hb dX11_parted_28 (by decide) ?_
      obtain ⟨x7, h8, hf⟩ := zb1_e hf
      refine zgo_i (zrunS (As := [.int p3, .int 0, .int 100]) (rest := []) S (c_X11_within l hD p3 0 100 h8) (va_cwS 3 hts gX11_parted_X11_within rfl rfl rfl ddX11_within ⟨Nat.le_trans (Nat.le_of_ble_eq_true rfl) hfr, Nat.le_trans (Nat.le_of_ble_eq_true rfl) hlo⟩) E hP hS hl.1 rfl rfl (Nat.le_of_ble_eq_true rfl) dX11_parted_30) hS (fun H locs hP hS => ?_)
      refine lv_if_eq (tgt := 46) hx hb dX11_parted_33 (by decide) (fun k9 => ?_) (fun k9 => ?_)
      · replace hf := zt k9 hf
        refine lv_ldc2 hx hb hown (hts (.constantLong RX11 185 (-1)) (by decide +kernel)) dX11_parted_46 ?_
        exact hret _ _ _ hf _ _ _ _ hP hS dX11_parted_49
      · replace hf := zf k9 hf
        refine lv_iload hx hb dX11_parted_36 (lv_at hl 4 rfl) ?_
        refine lv_iconst (v := 0) hx hb dX11_parted_38 (by decide) ?_
        refine lv_iconst (v := 2) hx hb dX11_parted_39 (by decide) ?_
        obtain ⟨x10, h11, hf⟩ := zb1_e hf
        refine zgo_i (zrunS (As := [.int p4, .int 0, .int 2]) (rest := []) S (c_X11_within l hD p4 0 2 h11) (va_cwS 3 hts gX11_parted_X11_within rfl rfl rfl ddX11_within ⟨Nat.le_trans (Nat.le_of_ble_eq_true rfl) hfr, Nat.le_trans (Nat.le_of_ble_eq_true rfl) hlo⟩) E hP hS hl.1 rfl rfl (Nat.le_of_ble_eq_true rfl) dX11_parted_40) hS (fun H locs hP hS => ?_)
        refine lv_if_ne (tgt := 50) hx hb dX11_parted_43 (by decide) (fun k12 => ?_) (fun k12 => ?_)
        · replace hf := zf k12 hf
          refine lv_aload_n hx hb dX11_parted_50 rfl (lv_at hl 0 rfl) ?_
          refine va_get (D := D) (ci := 10) (v := .ref (ad 39)) (C := RX11) (T := TX11) (N := 12) hx hb hts hinX11_parted_X11 hown E.1 hP 0 (zO.get (oX11_at)) rfl 9 (by decide) (hts (.fieldLink RX11 77 "EdgeAndSpeed" "parting" "LEdgeAndSpeed$Parting;") (by decide +kernel)) (fun _ h9 => h9) rfl dX11_parted_51 ?_
          refine lv_iload_n hx hb dX11_parted_54 rfl (lv_at hl 1 rfl) ?_
          refine lv_iload_n hx hb dX11_parted_55 rfl (lv_at hl 2 rfl) ?_
          obtain ⟨I13, J14, h15, hf⟩ := zb2_e hf
          refine zgo_v (zrunV (As := [.int p1, .int p2]) (rest := []) S (c_X5_find l hD p1 p2 h15) (cwV 2 hts gX11_parted_X5_find rfl rfl rfl ddX5_find ⟨Nat.le_trans (Nat.le_of_ble_eq_true rfl) hfr, Nat.le_trans (Nat.le_of_ble_eq_true rfl) hlo⟩) (va_recv E.1 hP (q := (RX5, TX5, 4)) (ci := 4) rfl (zO.get (oX5_at))) E hP hS hl.1 rfl rfl (Nat.le_of_ble_eq_true rfl) dX11_parted_56) hS (fun H locs hP hS => ?_)
          refine lv_aload_n hx hb dX11_parted_59 rfl (lv_at hl 0 rfl) ?_
          refine va_get (D := D) (ci := 10) (v := .ref (ad 39)) (C := RX11) (T := TX11) (N := 12) hx hb hts hinX11_parted_X11 hown E.1 hP 0 (zO.get (oX11_at)) rfl 9 (by decide) (hts (.fieldLink RX11 77 "EdgeAndSpeed" "parting" "LEdgeAndSpeed$Parting;") (by decide +kernel)) (fun _ h9 => h9) rfl dX11_parted_60 ?_
          refine lv_aload_n hx hb dX11_parted_63 rfl (lv_at hl 0 rfl) ?_
          refine va_get (D := D) (ci := 10) (v := .ref (ad 4)) (C := RX11) (T := TX11) (N := 12) hx hb hts hinX11_parted_X11 hown E.1 hP 0 (zO.get (oX11_at)) rfl 1 (by decide) (hts (.fieldLink RX11 19 "EdgeAndSpeed" "bench" "LEdgeAndSpeed$Bench;") (by decide +kernel)) (fun _ h9 => h9) rfl dX11_parted_64 ?_
          refine lv_iload_n hx hb dX11_parted_67 rfl (lv_at hl 1 rfl) ?_
          obtain ⟨x16, h17, hf⟩ := zb1_e hf
          refine zgo_i (zrunV (As := [.int p1]) (rest := [.ref (ad 39)]) S (c_X0_stepsOf l hD 4 (zBat_C (by decide)) p1 h17) (cwV 1 hts gX11_parted_X0_stepsOf rfl rfl rfl ddX0_stepsOf ⟨Nat.le_trans (Nat.le_of_ble_eq_true rfl) hfr, Nat.le_trans (Nat.le_of_ble_eq_true rfl) hlo⟩) (va_recv E.1 hP (q := (RX0, TX0, 17)) (ci := 0) rfl (zO.get (zBat_o (zBat_C (by decide))))) E hP hS hl.1 rfl rfl (Nat.le_of_ble_eq_true rfl) dX11_parted_68) hS (fun H locs hP hS => ?_)
          refine lv_iload_n hx hb dX11_parted_71 rfl (lv_at hl 3 rfl) ?_
          refine lv_iload hx hb dX11_parted_72 (lv_at hl 4 rfl) ?_
          obtain ⟨u18, h19, hf⟩ := zb1_e hf
          refine zgo_l (zrunV (As := [.int x16, .int p3, .int p4]) (rest := []) S (c_X5_told l hD x16 p3 p4 h19) (cwV 3 hts gX11_parted_X5_told rfl rfl rfl ddX5_told ⟨Nat.le_trans (Nat.le_of_ble_eq_true rfl) hfr, Nat.le_trans (Nat.le_of_ble_eq_true rfl) hlo⟩) (va_recv E.1 hP (q := (RX5, TX5, 4)) (ci := 4) rfl (zO.get (oX5_at))) E hP hS hl.1 rfl rfl (Nat.le_of_ble_eq_true rfl) dX11_parted_74) hS (fun H locs hP hS => ?_)
          exact hret _ _ _ hf _ _ _ _ hP hS dX11_parted_77
        · replace hf := zt k12 hf
          refine lv_ldc2 hx hb hown (hts (.constantLong RX11 185 (-1)) (by decide +kernel)) dX11_parted_46 ?_
          exact hret _ _ _ hf _ _ _ _ hP hS dX11_parted_49
    · replace hf := zt k6 hf
      refine lv_ldc2 hx hb hown (hts (.constantLong RX11 185 (-1)) (by decide +kernel)) dX11_parted_22 ?_
      exact hret _ _ _ hf _ _ _ _ hP hS dX11_parted_25
theorem c_X11_parted (l : Launch) {D : va_G} {a0 : Nat → Nat} {A : Nat → Prop} {cy : Nat → ClassId} {ad : Nat → Nat} (hD : zD A 74 ad) {I : zI} {J : zJ} (p1 : Int32) (p2 : Int32) (p3 : Int32) (p4 : Int32) {rx : Int64} {rI : zI} {rJ : zJ} (hf : f_X11_parted I J p1 p2 p3 p4 = some (rx, rI, rJ)) : Met l yX11_parted wsX11_parted { frames := 4, cells := 0, slots := 0, locals := 103 } (zPc D a0 A cy [.ref (ad 0), .int p1, .int p2, .int p3, .int p4] (zw 74 (kC cy ad a0) ad I J)) (zQl D A rx (zw 74 (kC cy ad a0) ad rI rJ)) 0 0 A :=
  zmet RX11 (by decide) rfl rfl (Nat.le_of_ble_eq_true rfl) (fun p e R s m below meth c Q hfr hlo ls S0 hQ => w_X11_parted hfr hlo hD p1 p2 p3 p4 hf S0 (fun tx tI tJ hq H locs ls pc hP hS hd => by cases hq; exact hQ H locs _ hS (fun hx hb hr hlocks hfree => W.lret hx hb hr (fun t ht hW => ⟨⟨_, (), rfl, rfl, zht ht hP⟩, hS.F ht⟩) hfree hd hlocks)))
theorem ddX11_parted : yX11_parted.cls = RX11 ∧ yX11_parted.cls ≠ "java/lang/invoke/MethodHandle" ∧ yX11_parted.cls ≠ "java/lang/invoke/VarHandle" ∧ (parseMethodDescriptor yX11_parted.desc).map (fun d => d.parameters.length) = some 4 := by decide +kernel

def f_X11_guess (I : zI) (J : zJ) (p1 : Int32) (p2 : Int32) : Option (Int64 × zI × zJ) := zb1 (f_X0_hasSteel I J 4 p1) (fun x1 => (if x1 = 0 then some ((-9223372036854775808), I, J) else zb1 (f_X0_hasSteel I J 4 p2) (fun x4 => (if x4 = 0 then some ((-9223372036854775808), I, J) else zb2 (f_X2_prepare I J 0 p1) (fun I7 J8 => zb1 (f_X0_stepsOf I7 J8 4 0) (fun x10 => zb1 (f_X10_spread I7 J8 0 p1 p2 0 x10 0) (fun I12 => zb3 (f_X10_gain I12 J8 0) (fun u14 I15 J16 => some (u14, I15, J16)))))))))
theorem hinX11_guess_X11 : ∀ w ∈ u_ws RX11 TX11 12, w ∈ wsX11_guess := by decide +kernel
set_option maxHeartbeats 4000000 in
set_option maxRecDepth 100000 in
theorem w_X11_guess {p : Program} {l : Launch} {e : Env} {R : Room} {s : State} {m : MethodId} {args : Array Value} {below : List Frame} {meth : Method} {c : Code} {Q : State → Prop} (hfr : 7 ≤ R.frames) (hlo : 174 ≤ R.locals) {D : va_G} {a0 : Nat → Nat} {A : Nat → Prop} {cy : Nat → ClassId} {ad : Nat → Nat} (hD : zD A 74 ad) {I : zI} {J : zJ} (p1 : Int32) (p2 : Int32) {rx : Int64} {rI : zI} {rJ : zJ} (hf : f_X11_guess I J p1 p2 = some (rx, rI, rJ)) {ls : Array Slot} (S0 : zSt p m c cX11_guess 3 s args wsX11_guess RX11 D a0 A cy (zw 74 (kC cy ad a0) ad I J) [.ref (ad 0), .int p1, .int p2] ls) (hret : ∀ (tx : Int64) (tI : zI) (tJ : zJ), some (tx, tI, tJ) = some (rx, rI, rJ) → ∀ (H : Heap) (locs : List Loc) (ls : Array Slot) (pc : Nat), va_P D vwCl (zw 74 (kC cy ad a0) ad tI tJ) H → va_S A s.heap H locs → decode cX11_guess pc = .ok (.lreturn, 1) → W p l e R s m args below meth c H locs 0 0 Q (F0 m pc ls [.long tx])) : W p l e R s m args below meth c s.heap [] 0 0 Q (F0 m 0 ls []) := by
  obtain ⟨S, E, hP, hl⟩ := S0
  obtain ⟨hx, hb, hml, hown, hts⟩ := id S
  have hS : va_S A s.heap s.heap [] := va_S.rf
  replace hl : lv_has ls 3 [(0, .ref (ad 0)), (1, .int p1), (2, .int p2)] := hl
  unfold f_X11_guess at hf
  refine lv_aload_n hx hb dX11_guess_0 rfl (lv_at hl 0 rfl) ?_
  refine va_get (D := D) (ci := 10) (v := .ref (ad 4)) (C := RX11) (T := TX11) (N := 12) hx hb hts hinX11_guess_X11 hown E.1 hP 0 (zO.get (oX11_at)) rfl 1 (by decide) (hts (.fieldLink RX11 19 "EdgeAndSpeed" "bench" "LEdgeAndSpeed$Bench;") (by decide +kernel)) (fun _ h9 => h9) rfl dX11_guess_1 ?_
  refine lv_iload_n hx hb dX11_guess_4 rfl (lv_at hl 1 rfl) ?_
  obtain ⟨x1, h2, hf⟩ := zb1_e hf
  refine zgo_i (zrunV (As := [.int p1]) (rest := []) S (c_X0_hasSteel l hD 4 (zBat_C (by decide)) p1 h2) (cwV 1 hts gX11_guess_X0_hasSteel rfl rfl rfl ddX0_hasSteel ⟨Nat.le_trans (Nat.le_of_ble_eq_true rfl) hfr, Nat.le_trans (Nat.le_of_ble_eq_true rfl) hlo⟩) (va_recv E.1 hP (q := (RX0, TX0, 17)) (ci := 0) rfl (zO.get (zBat_o (zBat_C (by decide))))) E hP hS hl.1 rfl rfl (Nat.le_of_ble_eq_true rfl) dX11_guess_5) hS (fun H locs hP hS => ?_)
  refine lv_if_eq (tgt := 22) hx hb dX11_guess_8 (by decide) (fun k3 => ?_) (fun k3 => ?_)
  · replace hf := zt k3 hf
    refine lv_ldc2 hx hb hown (hts (.constantLong RX11 169 (-9223372036854775808)) (by decide +kernel)) dX11_guess_22 ?_
    exact hret _ _ _ hf _ _ _ _ hP hS dX11_guess_25
  · replace hf := zf k3 hf
    refine lv_aload_n hx hb dX11_guess_11 rfl (lv_at hl 0 rfl) ?_
    refine va_get (D := D) (ci := 10) (v := .ref (ad 4)) (C := RX11) (T := TX11) (N := 12) hx hb hts hinX11_guess_X11 hown E.1 hP 0 (zO.get (oX11_at)) rfl 1 (by decide) (hts (.fieldLink RX11 19 "EdgeAndSpeed" "bench" "LEdgeAndSpeed$Bench;") (by decide +kernel)) (fun _ h9 => h9) rfl dX11_guess_12 ?_
    refine lv_iload_n hx hb dX11_guess_15 rfl (lv_at hl 2 rfl) ?_
    obtain ⟨x4, h5, hf⟩ := zb1_e hf
    refine zgo_i (zrunV (As := [.int p2]) (rest := []) S (c_X0_hasSteel l hD 4 (zBat_C (by decide)) p2 h5) (cwV 1 hts gX11_guess_X0_hasSteel rfl rfl rfl ddX0_hasSteel ⟨Nat.le_trans (Nat.le_of_ble_eq_true rfl) hfr, Nat.le_trans (Nat.le_of_ble_eq_true rfl) hlo⟩) (va_recv E.1 hP (q := (RX0, TX0, 17)) (ci := 0) rfl (zO.get (zBat_o (zBat_C (by decide))))) E hP hS hl.1 rfl rfl (Nat.le_of_ble_eq_true rfl) dX11_guess_16) hS (fun H locs hP hS => ?_)
    refine lv_if_ne (tgt := 26) hx hb dX11_guess_19 (by decide) (fun k6 => ?_) (fun k6 => ?_)
    · replace hf := zf k6 hf
      refine lv_aload_n hx hb dX11_guess_26 rfl (lv_at hl 0 rfl) ?_
      refine va_get (D := D) (ci := 10) (v := .ref (ad 34)) (C := RX11) (T := TX11) (N := 12) hx hb hts hinX11_guess_X11 hown E.1 hP 0 (zO.get (oX11_at)) rfl 6 (by decide) (hts (.fieldLink RX11 52 "EdgeAndSpeed" "hands" "LEdgeAndSpeed$Hands;") (by decide +kernel)) (fun _ h9 => h9) rfl dX11_guess_27 ?_
      refine lv_iconst (v := 0) hx hb dX11_guess_30 (by decide) ?_
      refine lv_iload_n hx hb dX11_guess_31 rfl (lv_at hl 1 rfl) ?_
      obtain ⟨I7, J8, h9, hf⟩ := zb2_e hf
      refine zgo_v (zrunV (As := [.int 0, .int p1]) (rest := []) S (c_X2_prepare l hD 0 p1 h9) (cwV 2 hts gX11_guess_X2_prepare rfl rfl rfl ddX2_prepare ⟨Nat.le_trans (Nat.le_of_ble_eq_true rfl) hfr, Nat.le_trans (Nat.le_of_ble_eq_true rfl) hlo⟩) (va_recv E.1 hP (q := (RX2, TX2, 4)) (ci := 2) rfl (zO.get (oX2_at))) E hP hS hl.1 rfl rfl (Nat.le_of_ble_eq_true rfl) dX11_guess_32) hS (fun H locs hP hS => ?_)
      refine lv_aload_n hx hb dX11_guess_35 rfl (lv_at hl 0 rfl) ?_
      refine va_get (D := D) (ci := 10) (v := .ref (ad 37)) (C := RX11) (T := TX11) (N := 12) hx hb hts hinX11_guess_X11 hown E.1 hP 0 (zO.get (oX11_at)) rfl 7 (by decide) (hts (.fieldLink RX11 61 "EdgeAndSpeed" "walk" "LEdgeAndSpeed$Walk;") (by decide +kernel)) (fun _ h9 => h9) rfl dX11_guess_36 ?_
      refine lv_iconst (v := 0) hx hb dX11_guess_39 (by decide) ?_
      refine lv_iload_n hx hb dX11_guess_40 rfl (lv_at hl 1 rfl) ?_
      refine lv_iload_n hx hb dX11_guess_41 rfl (lv_at hl 2 rfl) ?_
      refine lv_iconst (v := 0) hx hb dX11_guess_42 (by decide) ?_
      refine lv_aload_n hx hb dX11_guess_43 rfl (lv_at hl 0 rfl) ?_
      refine va_get (D := D) (ci := 10) (v := .ref (ad 4)) (C := RX11) (T := TX11) (N := 12) hx hb hts hinX11_guess_X11 hown E.1 hP 0 (zO.get (oX11_at)) rfl 1 (by decide) (hts (.fieldLink RX11 19 "EdgeAndSpeed" "bench" "LEdgeAndSpeed$Bench;") (by decide +kernel)) (fun _ h9 => h9) rfl dX11_guess_44 ?_
      refine lv_iconst (v := 0) hx hb dX11_guess_47 (by decide) ?_
      obtain ⟨x10, h11, hf⟩ := zb1_e hf
      refine zgo_i (zrunV (As := [.int 0]) (rest := [.int 0, .int p2, .int p1, .int 0, .ref (ad 37)]) S (c_X0_stepsOf l hD 4 (zBat_C (by decide)) 0 h11) (cwV 1 hts gX11_guess_X0_stepsOf rfl rfl rfl ddX0_stepsOf ⟨Nat.le_trans (Nat.le_of_ble_eq_true rfl) hfr, Nat.le_trans (Nat.le_of_ble_eq_true rfl) hlo⟩) (va_recv E.1 hP (q := (RX0, TX0, 17)) (ci := 0) rfl (zO.get (zBat_o (zBat_C (by decide))))) E hP hS hl.1 rfl rfl (Nat.le_of_ble_eq_true rfl) dX11_guess_48) hS (fun H locs hP hS => ?_)
      refine lv_iconst (v := 0) hx hb dX11_guess_51 (by decide) ?_
      obtain ⟨I12, h13, hf⟩ := zb1_e hf
      refine zgo_v (zrunV (As := [.int 0, .int p1, .int p2, .int 0, .int x10, .int 0]) (rest := []) S (c_X10_spread l hD 0 p1 p2 0 x10 0 h13) (cwV 6 hts gX11_guess_X10_spread rfl rfl rfl ddX10_spread ⟨Nat.le_trans (Nat.le_of_ble_eq_true rfl) hfr, Nat.le_trans (Nat.le_of_ble_eq_true rfl) hlo⟩) (va_recv E.1 hP (q := (RX10, TX10, 9)) (ci := 9) rfl (zO.get (oX10_at))) E hP hS hl.1 rfl rfl (Nat.le_of_ble_eq_true rfl) dX11_guess_52) hS (fun H locs hP hS => ?_)
      refine lv_aload_n hx hb dX11_guess_55 rfl (lv_at hl 0 rfl) ?_
      refine va_get (D := D) (ci := 10) (v := .ref (ad 37)) (C := RX11) (T := TX11) (N := 12) hx hb hts hinX11_guess_X11 hown E.1 hP 0 (zO.get (oX11_at)) rfl 7 (by decide) (hts (.fieldLink RX11 61 "EdgeAndSpeed" "walk" "LEdgeAndSpeed$Walk;") (by decide +kernel)) (fun _ h9 => h9) rfl dX11_guess_56 ?_
      refine va_gets (v := .ref (a0 0)) hx hb ((E.2.1 0 (by decide)).1) hS hown (hts (.fieldLink RX11 175 "EdgeAndSpeed$Measure" "VALUE" "LEdgeAndSpeed$Measure;") (by decide +kernel)) (fun _ h9 => h9) dX11_guess_59 ?_
      obtain ⟨u14, I15, J16, h17, hf⟩ := zb3_e hf
      refine zgo_l (zrunV (As := [.ref (a0 0)]) (rest := []) S (c_X10_gain l hD 0 h17) (cwV 1 hts gX11_guess_X10_gain rfl rfl rfl ddX10_gain ⟨Nat.le_trans (Nat.le_of_ble_eq_true rfl) hfr, Nat.le_trans (Nat.le_of_ble_eq_true rfl) hlo⟩) (va_recv E.1 hP (q := (RX10, TX10, 9)) (ci := 9) rfl (zO.get (oX10_at))) E hP hS hl.1 rfl rfl (Nat.le_of_ble_eq_true rfl) dX11_guess_62) hS (fun H locs hP hS => ?_)
      exact hret _ _ _ hf _ _ _ _ hP hS dX11_guess_65
    · replace hf := zt k6 hf
      refine lv_ldc2 hx hb hown (hts (.constantLong RX11 169 (-9223372036854775808)) (by decide +kernel)) dX11_guess_22 ?_
      exact hret _ _ _ hf _ _ _ _ hP hS dX11_guess_25
theorem c_X11_guess (l : Launch) {D : va_G} {a0 : Nat → Nat} {A : Nat → Prop} {cy : Nat → ClassId} {ad : Nat → Nat} (hD : zD A 74 ad) {I : zI} {J : zJ} (p1 : Int32) (p2 : Int32) {rx : Int64} {rI : zI} {rJ : zJ} (hf : f_X11_guess I J p1 p2 = some (rx, rI, rJ)) : Met l yX11_guess wsX11_guess { frames := 7, cells := 0, slots := 0, locals := 174 } (zPc D a0 A cy [.ref (ad 0), .int p1, .int p2] (zw 74 (kC cy ad a0) ad I J)) (zQl D A rx (zw 74 (kC cy ad a0) ad rI rJ)) 0 0 A :=
  zmet RX11 (by decide) rfl rfl (Nat.le_of_ble_eq_true rfl) (fun p e R s m below meth c Q hfr hlo ls S0 hQ => w_X11_guess hfr hlo hD p1 p2 hf S0 (fun tx tI tJ hq H locs ls pc hP hS hd => by cases hq; exact hQ H locs _ hS (fun hx hb hr hlocks hfree => W.lret hx hb hr (fun t ht hW => ⟨⟨_, (), rfl, rfl, zht ht hP⟩, hS.F ht⟩) hfree hd hlocks)))
theorem ddX11_guess : yX11_guess.cls = RX11 ∧ yX11_guess.cls ≠ "java/lang/invoke/MethodHandle" ∧ yX11_guess.cls ≠ "java/lang/invoke/VarHandle" ∧ (parseMethodDescriptor yX11_guess.desc).map (fun d => d.parameters.length) = some 2 := by decide +kernel

def f_X11_guessedSum_L5 (p1 : Int32) (u2 : Int64) (x3 : Int32) (I4 : zI) (J5 : zJ) : Option ((Int64 × Int32 × zI × zJ) ⊕ (Int64 × zI × zJ)) := (if (I4 4 11) ≤ x3 then some (.inr (u2, I4, J5)) else zb1 (f_X0_stepsOf I4 J5 4 0) (fun x7 => zb1 (f_X10_spread I4 J5 0 p1 x3 0 x7 0) (fun I9 => zb1 (f_X0_tenthsOf I9 J5 4 x3) (fun x11 => zb3 (f_X10_gain I9 J5 0) (fun u13 I14 J15 => zn ((u2 + (x11.toInt64 * u13))) (fun u17 => zn (x3 + 1) (fun y18 => some (.inl (u17, y18, I14, J15)))))))))
def f_X11_guessedSum (I : zI) (J : zJ) (p1 : Int32) : Option (Int64 × zI × zJ) := zb3 (zl (fun v : (Int64 × Int32 × zI × zJ) => f_X11_guessedSum_L5 p1 v.1 v.2.1 v.2.2.1 v.2.2.2) zF (0, 0, I, J)) (fun u19 I20 J21 => some (u19, I20, J21))
theorem hinX11_guessedSum_X11 : ∀ w ∈ u_ws RX11 TX11 12, w ∈ wsX11_guessedSum := by decide +kernel
theorem hinX11_guessedSum_X0 : ∀ w ∈ u_ws RX0 TX0 17, w ∈ wsX11_guessedSum := by decide +kernel
set_option maxHeartbeats 4000000 in
set_option maxRecDepth 100000 in
theorem w_X11_guessedSum {p : Program} {l : Launch} {e : Env} {R : Room} {s : State} {m : MethodId} {args : Array Value} {below : List Frame} {meth : Method} {c : Code} {Q : State → Prop} (hfr : 6 ≤ R.frames) (hlo : 151 ≤ R.locals) {D : va_G} {a0 : Nat → Nat} {A : Nat → Prop} {cy : Nat → ClassId} {ad : Nat → Nat} (hD : zD A 74 ad) {I : zI} {J : zJ} (p1 : Int32) {rx : Int64} {rI : zI} {rJ : zJ} (hf : f_X11_guessedSum I J p1 = some (rx, rI, rJ)) {ls : Array Slot} (S0 : zSt p m c cX11_guessedSum 5 s args wsX11_guessedSum RX11 D a0 A cy (zw 74 (kC cy ad a0) ad I J) [.ref (ad 0), .int p1] ls) (hret : ∀ (tx : Int64) (tI : zI) (tJ : zJ), some (tx, tI, tJ) = some (rx, rI, rJ) → ∀ (H : Heap) (locs : List Loc) (ls : Array Slot) (pc : Nat), va_P D vwCl (zw 74 (kC cy ad a0) ad tI tJ) H → va_S A s.heap H locs → decode cX11_guessedSum pc = .ok (.lreturn, 1) → W p l e R s m args below meth c H locs 0 0 Q (F0 m pc ls [.long tx])) : W p l e R s m args below meth c s.heap [] 0 0 Q (F0 m 0 ls []) := by
  obtain ⟨S, E, hP, hl⟩ := S0
  obtain ⟨hx, hb, hml, hown, hts⟩ := id S
  have hS : va_S A s.heap s.heap [] := va_S.rf
  replace hl : lv_has ls 5 [(0, .ref (ad 0)), (1, .int p1)] := hl
  unfold f_X11_guessedSum at hf
  refine lv_lconst (v := 0) hx hb dX11_guessedSum_0 (by decide) ?_
  refine lv_lstore_n (lv' := [(2, .long 0), (0, .ref (ad 0)), (1, .int p1)]) hx hb dX11_guessedSum_1 rfl hl (by decide) rfl (fun ls hl => ?_)
  refine lv_iconst (v := 0) hx hb dX11_guessedSum_2 (by decide) ?_
  refine lv_istore (lv' := [(4, .int 0), (2, .long 0), (0, .ref (ad 0)), (1, .int p1)]) hx hb dX11_guessedSum_3 hl (by decide) rfl (fun ls hl => ?_)
  obtain ⟨zl1, hf, hzl1⟩ := zb3_i hf
  have hjl1 : ∀ (u19 : Int64) (I20 : zI) (J21 : zJ), (u19, I20, J21) = zl1 → ∀ (H : Heap) (locs : List Loc) (ls : Array Slot), va_P D vwCl (zw 74 (kC cy ad a0) ad I20 J21) H → va_S A s.heap H locs → lv_has ls 5 [(2, .long u19)] → W p l e R s m args below meth c H locs 0 0 Q (F0 m 68 ls []) := by
    intro u19 I20 J21 ez H locs ls hP hS hl
    have hf := hzl1 u19 I20 J21 ez
    refine lv_lload_n hx hb dX11_guessedSum_68 rfl (lv_at hl 0 rfl) ?_
    exact hret _ _ _ hf _ _ _ _ hP hS dX11_guessedSum_69
  refine zl_i (V := (Int64 × Int32 × zI × zJ)) (P := fun v => ∀ (H : Heap) (locs : List Loc) (ls : Array Slot), va_P D vwCl (zw 74 (kC cy ad a0) ad v.2.2.1 v.2.2.2) H → va_S A s.heap H locs → lv_has ls 5 [(0, .ref (ad 0)), (1, .int p1), (2, .long (v.1)), (4, .int (v.2.1))] → W p l e R s m args below meth c H locs 0 0 Q (F0 m 5 ls [])) ?_ _ _ hf _ _ _ hP hS (lv_sub hl [2, 3, 1, 0] rfl)
  intro v z hf hcl1 hdl1
  obtain ⟨u2, x3, I4, J5⟩ := v
  intro H locs ls hP hS hl
  replace hf : f_X11_guessedSum_L5 p1 u2 x3 I4 J5 = some z := hf
  unfold f_X11_guessedSum_L5 at hf
  replace hP : va_P D vwCl (zw 74 (kC cy ad a0) ad I4 J5) H := hP
  replace hl : lv_has ls 5 [(0, .ref (ad 0)), (1, .int p1), (2, .long u2), (4, .int x3)] := hl
  refine lv_iload hx hb dX11_guessedSum_5 (lv_at hl 3 rfl) ?_
  refine lv_aload_n hx hb dX11_guessedSum_7 rfl (lv_at hl 0 rfl) ?_
  refine va_get (D := D) (ci := 10) (v := .ref (ad 4)) (C := RX11) (T := TX11) (N := 12) hx hb hts hinX11_guessedSum_X11 hown E.1 hP 0 (zO.get (oX11_at)) rfl 1 (by decide) (hts (.fieldLink RX11 19 "EdgeAndSpeed" "bench" "LEdgeAndSpeed$Bench;") (by decide +kernel)) (fun _ h9 => h9) rfl dX11_guessedSum_8 ?_
  refine va_getN (D := D) (ci := 0) (v := .int (I4 4 11)) (C := RX0) (T := TX0) (N := 17) hx hb hts hinX11_guessedSum_X0 hown E.1 hP 4 (zO.get (zBat_o (zBat_C (by decide)))) rfl 11 (by decide) (zNfw_7 E.2.2) (fun _ h9 => h9) rfl dX11_guessedSum_11 ?_
  refine lv_icmp_ge (tgt := 68) hx hb dX11_guessedSum_14 (by decide) (fun k6 => ?_) (fun k6 => ?_)
  · replace hf := zt k6 hf
    exact hjl1 _ _ _ (hdl1 _ (Option.some.inj hf).symm) _ _ _ hP hS (lv_sub hl [2] rfl)
  · replace hf := zf k6 hf
    refine lv_aload_n hx hb dX11_guessedSum_17 rfl (lv_at hl 0 rfl) ?_
    refine va_get (D := D) (ci := 10) (v := .ref (ad 37)) (C := RX11) (T := TX11) (N := 12) hx hb hts hinX11_guessedSum_X11 hown E.1 hP 0 (zO.get (oX11_at)) rfl 7 (by decide) (hts (.fieldLink RX11 61 "EdgeAndSpeed" "walk" "LEdgeAndSpeed$Walk;") (by decide +kernel)) (fun _ h9 => h9) rfl dX11_guessedSum_18 ?_
    refine lv_iconst (v := 0) hx hb dX11_guessedSum_21 (by decide) ?_
    refine lv_iload_n hx hb dX11_guessedSum_22 rfl (lv_at hl 1 rfl) ?_
    refine lv_iload hx hb dX11_guessedSum_23 (lv_at hl 3 rfl) ?_
    refine lv_iconst (v := 0) hx hb dX11_guessedSum_25 (by decide) ?_
    refine lv_aload_n hx hb dX11_guessedSum_26 rfl (lv_at hl 0 rfl) ?_
    refine va_get (D := D) (ci := 10) (v := .ref (ad 4)) (C := RX11) (T := TX11) (N := 12) hx hb hts hinX11_guessedSum_X11 hown E.1 hP 0 (zO.get (oX11_at)) rfl 1 (by decide) (hts (.fieldLink RX11 19 "EdgeAndSpeed" "bench" "LEdgeAndSpeed$Bench;") (by decide +kernel)) (fun _ h9 => h9) rfl dX11_guessedSum_27 ?_
    refine lv_iconst (v := 0) hx hb dX11_guessedSum_30 (by decide) ?_
    obtain ⟨x7, h8, hf⟩ := zb1_e hf
    refine zgo_i (zrunV (As := [.int 0]) (rest := [.int 0, .int x3, .int p1, .int 0, .ref (ad 37)]) S (c_X0_stepsOf l hD 4 (zBat_C (by decide)) 0 h8) (cwV 1 hts gX11_guessedSum_X0_stepsOf rfl rfl rfl ddX0_stepsOf ⟨Nat.le_trans (Nat.le_of_ble_eq_true rfl) hfr, Nat.le_trans (Nat.le_of_ble_eq_true rfl) hlo⟩) (va_recv E.1 hP (q := (RX0, TX0, 17)) (ci := 0) rfl (zO.get (zBat_o (zBat_C (by decide))))) E hP hS hl.1 rfl rfl (Nat.le_of_ble_eq_true rfl) dX11_guessedSum_31) hS (fun H locs hP hS => ?_)
    refine lv_iconst (v := 0) hx hb dX11_guessedSum_34 (by decide) ?_
    obtain ⟨I9, h10, hf⟩ := zb1_e hf
    refine zgo_v (zrunV (As := [.int 0, .int p1, .int x3, .int 0, .int x7, .int 0]) (rest := []) S (c_X10_spread l hD 0 p1 x3 0 x7 0 h10) (cwV 6 hts gX11_guessedSum_X10_spread rfl rfl rfl ddX10_spread ⟨Nat.le_trans (Nat.le_of_ble_eq_true rfl) hfr, Nat.le_trans (Nat.le_of_ble_eq_true rfl) hlo⟩) (va_recv E.1 hP (q := (RX10, TX10, 9)) (ci := 9) rfl (zO.get (oX10_at))) E hP hS hl.1 rfl rfl (Nat.le_of_ble_eq_true rfl) dX11_guessedSum_35) hS (fun H locs hP hS => ?_)
    refine lv_lload_n hx hb dX11_guessedSum_38 rfl (lv_at hl 2 rfl) ?_
    refine lv_aload_n hx hb dX11_guessedSum_39 rfl (lv_at hl 0 rfl) ?_
    refine va_get (D := D) (ci := 10) (v := .ref (ad 4)) (C := RX11) (T := TX11) (N := 12) hx hb hts hinX11_guessedSum_X11 hown E.1 hP 0 (zO.get (oX11_at)) rfl 1 (by decide) (hts (.fieldLink RX11 19 "EdgeAndSpeed" "bench" "LEdgeAndSpeed$Bench;") (by decide +kernel)) (fun _ h9 => h9) rfl dX11_guessedSum_40 ?_
    refine lv_iload hx hb dX11_guessedSum_43 (lv_at hl 3 rfl) ?_
    obtain ⟨x11, h12, hf⟩ := zb1_e hf
    refine zgo_i (zrunV (As := [.int x3]) (rest := [.long u2]) S (c_X0_tenthsOf l hD 4 (zBat_C (by decide)) x3 h12) (cwV 1 hts gX11_guessedSum_X0_tenthsOf rfl rfl rfl ddX0_tenthsOf ⟨Nat.le_trans (Nat.le_of_ble_eq_true rfl) hfr, Nat.le_trans (Nat.le_of_ble_eq_true rfl) hlo⟩) (va_recv E.1 hP (q := (RX0, TX0, 17)) (ci := 0) rfl (zO.get (zBat_o (zBat_C (by decide))))) E hP hS hl.1 rfl rfl (Nat.le_of_ble_eq_true rfl) dX11_guessedSum_45) hS (fun H locs hP hS => ?_)
    refine lv_i2l hx hb dX11_guessedSum_48 rfl ?_
    refine lv_aload_n hx hb dX11_guessedSum_49 rfl (lv_at hl 0 rfl) ?_
    refine va_get (D := D) (ci := 10) (v := .ref (ad 37)) (C := RX11) (T := TX11) (N := 12) hx hb hts hinX11_guessedSum_X11 hown E.1 hP 0 (zO.get (oX11_at)) rfl 7 (by decide) (hts (.fieldLink RX11 61 "EdgeAndSpeed" "walk" "LEdgeAndSpeed$Walk;") (by decide +kernel)) (fun _ h9 => h9) rfl dX11_guessedSum_50 ?_
    refine va_gets (v := .ref (a0 0)) hx hb ((E.2.1 0 (by decide)).1) hS hown (hts (.fieldLink RX11 175 "EdgeAndSpeed$Measure" "VALUE" "LEdgeAndSpeed$Measure;") (by decide +kernel)) (fun _ h9 => h9) dX11_guessedSum_53 ?_
    obtain ⟨u13, I14, J15, h16, hf⟩ := zb3_e hf
    refine zgo_l (zrunV (As := [.ref (a0 0)]) (rest := [.long (x11.toInt64), .long u2]) S (c_X10_gain l hD 0 h16) (cwV 1 hts gX11_guessedSum_X10_gain rfl rfl rfl ddX10_gain ⟨Nat.le_trans (Nat.le_of_ble_eq_true rfl) hfr, Nat.le_trans (Nat.le_of_ble_eq_true rfl) hlo⟩) (va_recv E.1 hP (q := (RX10, TX10, 9)) (ci := 9) rfl (zO.get (oX10_at))) E hP hS hl.1 rfl rfl (Nat.le_of_ble_eq_true rfl) dX11_guessedSum_56) hS (fun H locs hP hS => ?_)
    refine lv_lmul hx hb dX11_guessedSum_59 ?_
    refine lv_ladd hx hb dX11_guessedSum_60 ?_
    refine lv_topl (fun u17 eu17 => ?_)
    replace hf := zn_s eu17 hf
    refine lv_lstore_n (lv' := [(2, .long u17), (0, .ref (ad 0)), (1, .int p1), (4, .int x3)]) hx hb dX11_guessedSum_61 rfl hl (by decide) rfl (fun ls hl => ?_)
    obtain ⟨y18, ey18⟩ := zex (x3 + 1)
    replace hf := zn_s ey18 hf
    refine lv_iinc (v := y18) (lv' := [(4, .int y18), (2, .long u17), (0, .ref (ad 0)), (1, .int p1)]) hx hb dX11_guessedSum_62 hl (k := 3) rfl (by rw [ey18]; rfl) (by decide) rfl (fun ls hl => ?_)
    refine lv_goto (tgt := 5) hx hb dX11_guessedSum_65 (by decide) ?_
    exact hcl1 _ (Option.some.inj hf).symm _ _ _ hP hS (lv_sub hl [2, 3, 1, 0] rfl)
theorem c_X11_guessedSum (l : Launch) {D : va_G} {a0 : Nat → Nat} {A : Nat → Prop} {cy : Nat → ClassId} {ad : Nat → Nat} (hD : zD A 74 ad) {I : zI} {J : zJ} (p1 : Int32) {rx : Int64} {rI : zI} {rJ : zJ} (hf : f_X11_guessedSum I J p1 = some (rx, rI, rJ)) : Met l yX11_guessedSum wsX11_guessedSum { frames := 6, cells := 0, slots := 0, locals := 151 } (zPc D a0 A cy [.ref (ad 0), .int p1] (zw 74 (kC cy ad a0) ad I J)) (zQl D A rx (zw 74 (kC cy ad a0) ad rI rJ)) 0 0 A :=
  zmet RX11 (by decide) rfl rfl (Nat.le_of_ble_eq_true rfl) (fun p e R s m below meth c Q hfr hlo ls S0 hQ => w_X11_guessedSum hfr hlo hD p1 hf S0 (fun tx tI tJ hq H locs ls pc hP hS hd => by cases hq; exact hQ H locs _ hS (fun hx hb hr hlocks hfree => W.lret hx hb hr (fun t ht hW => ⟨⟨_, (), rfl, rfl, zht ht hP⟩, hS.F ht⟩) hfree hd hlocks)))
theorem ddX11_guessedSum : yX11_guessedSum.cls = RX11 ∧ yX11_guessedSum.cls ≠ "java/lang/invoke/MethodHandle" ∧ yX11_guessedSum.cls ≠ "java/lang/invoke/VarHandle" ∧ (parseMethodDescriptor yX11_guessedSum.desc).map (fun d => d.parameters.length) = some 1 := by decide +kernel

def f_X11_knownSum_L4 (I : zI) (J : zJ) (u2 : Int64) (x3 : Int32) : Option ((Int64 × Int32) ⊕ Int64) := (if (I 4 11) ≤ x3 then some (.inr u2) else zb1 (f_X0_tenthsOf I J 4 x3) (fun x5 => zb1 (f_X2_bestBy I J x3) (fun q7 => zg (zPn q7) (zb1 (f_X6_gainAtStart I J q7 0 0) (fun u10 => zn ((u2 + (x5.toInt64 * u10))) (fun u12 => zn (x3 + 1) (fun y13 => some (.inl (u12, y13)))))))))
def f_X11_knownSum (I : zI) (J : zJ) : Option Int64 := zb1 (zl (fun v : (Int64 × Int32) => f_X11_knownSum_L4 I J v.1 v.2) zF (0, 0)) (fun u14 => some u14)
theorem hinX11_knownSum_X11 : ∀ w ∈ u_ws RX11 TX11 12, w ∈ wsX11_knownSum := by decide +kernel
theorem hinX11_knownSum_X0 : ∀ w ∈ u_ws RX0 TX0 17, w ∈ wsX11_knownSum := by decide +kernel
set_option maxHeartbeats 4000000 in
set_option maxRecDepth 100000 in
theorem w_X11_knownSum {p : Program} {l : Launch} {e : Env} {R : Room} {s : State} {m : MethodId} {args : Array Value} {below : List Frame} {meth : Method} {c : Code} {Q : State → Prop} (hfr : 3 ≤ R.frames) (hlo : 68 ≤ R.locals) {D : va_G} {a0 : Nat → Nat} {A : Nat → Prop} {cy : Nat → ClassId} {ad : Nat → Nat} (hD : zD A 74 ad) {I : zI} {J : zJ}  {rx : Int64} (hf : f_X11_knownSum I J = some rx) {ls : Array Slot} (S0 : zSt p m c cX11_knownSum 4 s args wsX11_knownSum RX11 D a0 A cy (zw 74 (kC cy ad a0) ad I J) [.ref (ad 0)] ls) (hret : ∀ (tx : Int64), some tx = some rx → ∀ (H : Heap) (locs : List Loc) (ls : Array Slot) (pc : Nat), va_P D vwCl (zw 74 (kC cy ad a0) ad I J) H → va_S A s.heap H locs → decode cX11_knownSum pc = .ok (.lreturn, 1) → W p l e R s m args below meth c H locs 0 0 Q (F0 m pc ls [.long tx])) : W p l e R s m args below meth c s.heap [] 0 0 Q (F0 m 0 ls []) := by
  obtain ⟨S, E, hP, hl⟩ := S0
  obtain ⟨hx, hb, hml, hown, hts⟩ := id S
  have hS : va_S A s.heap s.heap [] := va_S.rf
  replace hl : lv_has ls 4 [(0, .ref (ad 0))] := hl
  unfold f_X11_knownSum at hf
  refine lv_lconst (v := 0) hx hb dX11_knownSum_0 (by decide) ?_
  refine lv_lstore_n (lv' := [(1, .long 0), (0, .ref (ad 0))]) hx hb dX11_knownSum_1 rfl hl (by decide) rfl (fun ls hl => ?_)
  refine lv_iconst (v := 0) hx hb dX11_knownSum_2 (by decide) ?_
  refine lv_istore_n (lv' := [(3, .int 0), (1, .long 0), (0, .ref (ad 0))]) hx hb dX11_knownSum_3 rfl hl (by decide) rfl (fun ls hl => ?_)
  obtain ⟨zl1, hf, hzl1⟩ := zb1_i hf
  have hjl1 : ∀ (u14 : Int64), u14 = zl1 → ∀ (H : Heap) (locs : List Loc) (ls : Array Slot), va_P D vwCl (zw 74 (kC cy ad a0) ad I J) H → va_S A s.heap H locs → lv_has ls 4 [(1, .long u14)] → W p l e R s m args below meth c H locs 0 0 Q (F0 m 47 ls []) := by
    intro u14 ez H locs ls hP hS hl
    have hf := hzl1 u14 ez
    refine lv_lload_n hx hb dX11_knownSum_47 rfl (lv_at hl 0 rfl) ?_
    exact hret _ hf _ _ _ _ hP hS dX11_knownSum_48
  refine zl_i (V := (Int64 × Int32)) (P := fun v => ∀ (H : Heap) (locs : List Loc) (ls : Array Slot), va_P D vwCl (zw 74 (kC cy ad a0) ad I J) H → va_S A s.heap H locs → lv_has ls 4 [(0, .ref (ad 0)), (1, .long (v.1)), (3, .int (v.2))] → W p l e R s m args below meth c H locs 0 0 Q (F0 m 4 ls [])) ?_ _ _ hf _ _ _ hP hS (lv_sub hl [2, 1, 0] rfl)
  intro v z hf hcl1 hdl1
  obtain ⟨u2, x3⟩ := v
  intro H locs ls hP hS hl
  replace hf : f_X11_knownSum_L4 I J u2 x3 = some z := hf
  unfold f_X11_knownSum_L4 at hf
  replace hP : va_P D vwCl (zw 74 (kC cy ad a0) ad I J) H := hP
  replace hl : lv_has ls 4 [(0, .ref (ad 0)), (1, .long u2), (3, .int x3)] := hl
  refine lv_iload_n hx hb dX11_knownSum_4 rfl (lv_at hl 2 rfl) ?_
  refine lv_aload_n hx hb dX11_knownSum_5 rfl (lv_at hl 0 rfl) ?_
  refine va_get (D := D) (ci := 10) (v := .ref (ad 4)) (C := RX11) (T := TX11) (N := 12) hx hb hts hinX11_knownSum_X11 hown E.1 hP 0 (zO.get (oX11_at)) rfl 1 (by decide) (hts (.fieldLink RX11 19 "EdgeAndSpeed" "bench" "LEdgeAndSpeed$Bench;") (by decide +kernel)) (fun _ h9 => h9) rfl dX11_knownSum_6 ?_
  refine va_getN (D := D) (ci := 0) (v := .int (I 4 11)) (C := RX0) (T := TX0) (N := 17) hx hb hts hinX11_knownSum_X0 hown E.1 hP 4 (zO.get (zBat_o (zBat_C (by decide)))) rfl 11 (by decide) (zNfw_7 E.2.2) (fun _ h9 => h9) rfl dX11_knownSum_9 ?_
  refine lv_icmp_ge (tgt := 47) hx hb dX11_knownSum_12 (by decide) (fun k4 => ?_) (fun k4 => ?_)
  · replace hf := zt k4 hf
    exact hjl1 _ (hdl1 _ (Option.some.inj hf).symm) _ _ _ hP hS (lv_sub hl [1] rfl)
  · replace hf := zf k4 hf
    refine lv_lload_n hx hb dX11_knownSum_15 rfl (lv_at hl 1 rfl) ?_
    refine lv_aload_n hx hb dX11_knownSum_16 rfl (lv_at hl 0 rfl) ?_
    refine va_get (D := D) (ci := 10) (v := .ref (ad 4)) (C := RX11) (T := TX11) (N := 12) hx hb hts hinX11_knownSum_X11 hown E.1 hP 0 (zO.get (oX11_at)) rfl 1 (by decide) (hts (.fieldLink RX11 19 "EdgeAndSpeed" "bench" "LEdgeAndSpeed$Bench;") (by decide +kernel)) (fun _ h9 => h9) rfl dX11_knownSum_17 ?_
    refine lv_iload_n hx hb dX11_knownSum_20 rfl (lv_at hl 2 rfl) ?_
    obtain ⟨x5, h6, hf⟩ := zb1_e hf
    refine zgo_i (zrunV (As := [.int x3]) (rest := [.long u2]) S (c_X0_tenthsOf l hD 4 (zBat_C (by decide)) x3 h6) (cwV 1 hts gX11_knownSum_X0_tenthsOf rfl rfl rfl ddX0_tenthsOf ⟨Nat.le_trans (Nat.le_of_ble_eq_true rfl) hfr, Nat.le_trans (Nat.le_of_ble_eq_true rfl) hlo⟩) (va_recv E.1 hP (q := (RX0, TX0, 17)) (ci := 0) rfl (zO.get (zBat_o (zBat_C (by decide))))) E hP hS hl.1 rfl rfl (Nat.le_of_ble_eq_true rfl) dX11_knownSum_21) hS (fun H locs hP hS => ?_)
    refine lv_i2l hx hb dX11_knownSum_24 rfl ?_
    refine lv_aload_n hx hb dX11_knownSum_25 rfl (lv_at hl 0 rfl) ?_
    refine va_get (D := D) (ci := 10) (v := .ref (ad 34)) (C := RX11) (T := TX11) (N := 12) hx hb hts hinX11_knownSum_X11 hown E.1 hP 0 (zO.get (oX11_at)) rfl 6 (by decide) (hts (.fieldLink RX11 52 "EdgeAndSpeed" "hands" "LEdgeAndSpeed$Hands;") (by decide +kernel)) (fun _ h9 => h9) rfl dX11_knownSum_26 ?_
    refine lv_iload_n hx hb dX11_knownSum_29 rfl (lv_at hl 2 rfl) ?_
    obtain ⟨q7, h8, hf⟩ := zb1_e hf
    refine zgo_r (zrunV (As := [.int x3]) (rest := [.long (x5.toInt64), .long u2]) S (c_X2_bestBy l hD x3 h8) (cwV 1 hts gX11_knownSum_X2_bestBy rfl rfl rfl ddX2_bestBy ⟨Nat.le_trans (Nat.le_of_ble_eq_true rfl) hfr, Nat.le_trans (Nat.le_of_ble_eq_true rfl) hlo⟩) (va_recv E.1 hP (q := (RX2, TX2, 4)) (ci := 2) rfl (zO.get (oX2_at))) E hP hS hl.1 rfl rfl (Nat.le_of_ble_eq_true rfl) dX11_knownSum_30) hS (fun H locs hP hS => ?_)
    obtain ⟨g9, hf⟩ := zg_i hf
    refine lv_iconst (v := 0) hx hb dX11_knownSum_33 (by decide) ?_
    refine lv_iconst (v := 0) hx hb dX11_knownSum_34 (by decide) ?_
    obtain ⟨u10, h11, hf⟩ := zb1_e hf
    refine zgo_l (zrunV (As := [.int 0, .int 0]) (rest := [.long (x5.toInt64), .long u2]) S (c_X6_gainAtStart l hD q7 g9 0 0 h11) (cwV 2 hts gX11_knownSum_X6_gainAtStart rfl rfl rfl ddX6_gainAtStart ⟨Nat.le_trans (Nat.le_of_ble_eq_true rfl) hfr, Nat.le_trans (Nat.le_of_ble_eq_true rfl) hlo⟩) (va_recv E.1 hP (q := (RX6, TX6, 7)) (ci := 5) rfl (zO.get (oX6_at g9))) E hP hS hl.1 rfl rfl (Nat.le_of_ble_eq_true rfl) dX11_knownSum_35) hS (fun H locs hP hS => ?_)
    refine lv_lmul hx hb dX11_knownSum_38 ?_
    refine lv_ladd hx hb dX11_knownSum_39 ?_
    refine lv_topl (fun u12 eu12 => ?_)
    replace hf := zn_s eu12 hf
    refine lv_lstore_n (lv' := [(1, .long u12), (0, .ref (ad 0)), (3, .int x3)]) hx hb dX11_knownSum_40 rfl hl (by decide) rfl (fun ls hl => ?_)
    obtain ⟨y13, ey13⟩ := zex (x3 + 1)
    replace hf := zn_s ey13 hf
    refine lv_iinc (v := y13) (lv' := [(3, .int y13), (1, .long u12), (0, .ref (ad 0))]) hx hb dX11_knownSum_41 hl (k := 2) rfl (by rw [ey13]; rfl) (by decide) rfl (fun ls hl => ?_)
    refine lv_goto (tgt := 4) hx hb dX11_knownSum_44 (by decide) ?_
    exact hcl1 _ (Option.some.inj hf).symm _ _ _ hP hS (lv_sub hl [2, 1, 0] rfl)
theorem c_X11_knownSum (l : Launch) {D : va_G} {a0 : Nat → Nat} {A : Nat → Prop} {cy : Nat → ClassId} {ad : Nat → Nat} (hD : zD A 74 ad) {I : zI} {J : zJ}  {rx : Int64} (hf : f_X11_knownSum I J = some rx) : Met l yX11_knownSum wsX11_knownSum { frames := 3, cells := 0, slots := 0, locals := 68 } (zPc D a0 A cy [.ref (ad 0)] (zw 74 (kC cy ad a0) ad I J)) (zQl D A rx (zw 74 (kC cy ad a0) ad I J)) 0 0 A :=
  zmet RX11 (by decide) rfl rfl (Nat.le_of_ble_eq_true rfl) (fun p e R s m below meth c Q hfr hlo ls S0 hQ => w_X11_knownSum hfr hlo hD  hf S0 (fun tx hq H locs ls pc hP hS hd => by cases hq; exact hQ H locs _ hS (fun hx hb hr hlocks hfree => W.lret hx hb hr (fun t ht hW => ⟨⟨_, (), rfl, rfl, zht ht hP⟩, hS.F ht⟩) hfree hd hlocks)))
theorem ddX11_knownSum : yX11_knownSum.cls = RX11 ∧ yX11_knownSum.cls ≠ "java/lang/invoke/MethodHandle" ∧ yX11_knownSum.cls ≠ "java/lang/invoke/VarHandle" ∧ (parseMethodDescriptor yX11_knownSum.desc).map (fun d => d.parameters.length) = some 0 := by decide +kernel

def f_X11_blind_L52 (x20 : Int32) (u21 : Int64) (x22 : Int32) (I23 : zI) (J24 : zJ) : Option ((Int32 × Int64 × Int32 × zI × zJ) ⊕ (Int32 × Int64 × zI × zJ)) := (if (I23 4 11) ≤ x22 then some (.inr (x20, u21, I23, J24)) else zb3 (f_X11_guessedSum I23 J24 x22) (fun u26 I27 J28 => (if (lg_cmp u26 u21) ≤ 0 then zn (x22 + 1) (fun y31 => some (.inl (x20, u21, y31, I27, J28))) else zn (x22 + 1) (fun y32 => some (.inl (x22, u26, y32, I27, J28))))))
def f_X11_blind_L15 (x5 : Int32) (I6 : zI) (J7 : zJ) : Option ((Int32 × zI × zJ) ⊕ (zI × zJ)) := (if (I6 4 11) ≤ x5 then some (.inr (I6, J7)) else zb2 (f_X2_prepare I6 J7 0 x5) (fun I9 J10 => zn (x5 + 1) (fun y12 => some (.inl (y12, I9, J10)))))
def f_X11_blind (I : zI) (J : zJ) (p1 : Int32) : Option (Int64 × zI × zJ) := zb1 (f_X11_within I J p1 0 3) (fun x1 => (if x1 = 0 then some ((-9223372036854775808), I, J) else zb2 (zl (fun v : (Int32 × zI × zJ) => f_X11_blind_L15 v.1 v.2.1 v.2.2) zF (0, I, J)) (fun I13 J14 => zb3 (f_X11_guessedSum I13 J14 0) (fun u15 I16 J17 => zb4 (zl (fun v : (Int32 × Int64 × Int32 × zI × zJ) => f_X11_blind_L52 v.1 v.2.1 v.2.2.1 v.2.2.2.1 v.2.2.2.2) zF (0, u15, 1, I16, J17)) (fun x33 u34 I35 J36 => (if 2 ≤ p1 then (if p1 = 2 then zb1 (f_X11_knownSum I35 J36) (fun u41 => some (u41, I35, J36)) else zb1 (f_X11_knownSum I35 J36) (fun u39 => some ((u39 - u34), I35, J36))) else (if p1 = 0 then some (x33.toInt64, I35, J36) else some (u34, I35, J36))))))))
theorem hinX11_blind_X11 : ∀ w ∈ u_ws RX11 TX11 12, w ∈ wsX11_blind := by decide +kernel
theorem hinX11_blind_X0 : ∀ w ∈ u_ws RX0 TX0 17, w ∈ wsX11_blind := by decide +kernel
set_option maxHeartbeats 4000000 in
set_option maxRecDepth 100000 in
theorem w_X11_blind {p : Program} {l : Launch} {e : Env} {R : Room} {s : State} {m : MethodId} {args : Array Value} {below : List Frame} {meth : Method} {c : Code} {Q : State → Prop} (hfr : 7 ≤ R.frames) (hlo : 175 ≤ R.locals) {D : va_G} {a0 : Nat → Nat} {A : Nat → Prop} {cy : Nat → ClassId} {ad : Nat → Nat} (hD : zD A 74 ad) {I : zI} {J : zJ} (p1 : Int32) {rx : Int64} {rI : zI} {rJ : zJ} (hf : f_X11_blind I J p1 = some (rx, rI, rJ)) {ls : Array Slot} (S0 : zSt p m c cX11_blind 8 s args wsX11_blind RX11 D a0 A cy (zw 74 (kC cy ad a0) ad I J) [.ref (ad 0), .int p1] ls) (hret : ∀ (tx : Int64) (tI : zI) (tJ : zJ), some (tx, tI, tJ) = some (rx, rI, rJ) → ∀ (H : Heap) (locs : List Loc) (ls : Array Slot) (pc : Nat), va_P D vwCl (zw 74 (kC cy ad a0) ad tI tJ) H → va_S A s.heap H locs → decode cX11_blind pc = .ok (.lreturn, 1) → W p l e R s m args below meth c H locs 0 0 Q (F0 m pc ls [.long tx])) : W p l e R s m args below meth c s.heap [] 0 0 Q (F0 m 0 ls []) := by
  obtain ⟨S, E, hP, hl⟩ := S0
  obtain ⟨hx, hb, hml, hown, hts⟩ := id S
  have hS : va_S A s.heap s.heap [] := va_S.rf
  replace hl : lv_has ls 8 [(0, .ref (ad 0)), (1, .int p1)] := hl
  unfold f_X11_blind at hf
  refine lv_iload_n hx hb dX11_blind_0 rfl (lv_at hl 1 rfl) ?_
  refine lv_iconst (v := 0) hx hb dX11_blind_1 (by decide) ?_
  refine lv_iconst (v := 3) hx hb dX11_blind_2 (by decide) ?_
  obtain ⟨x1, h2, hf⟩ := zb1_e hf
  refine zgo_i (zrunS (As := [.int p1, .int 0, .int 3]) (rest := []) S (c_X11_within l hD p1 0 3 h2) (va_cwS 3 hts gX11_blind_X11_within rfl rfl rfl ddX11_within ⟨Nat.le_trans (Nat.le_of_ble_eq_true rfl) hfr, Nat.le_trans (Nat.le_of_ble_eq_true rfl) hlo⟩) E hP hS hl.1 rfl rfl (Nat.le_of_ble_eq_true rfl) dX11_blind_3) hS (fun H locs hP hS => ?_)
  refine lv_if_ne (tgt := 13) hx hb dX11_blind_6 (by decide) (fun k3 => ?_) (fun k3 => ?_)
  · replace hf := zf k3 hf
    refine lv_iconst (v := 0) hx hb dX11_blind_13 (by decide) ?_
    refine lv_istore_n (lv' := [(2, .int 0), (0, .ref (ad 0)), (1, .int p1)]) hx hb dX11_blind_14 rfl hl (by decide) rfl (fun ls hl => ?_)
    obtain ⟨zl4, hf, hzl4⟩ := zb2_i hf
    have hjl4 : ∀ (I13 : zI) (J14 : zJ), (I13, J14) = zl4 → ∀ (H : Heap) (locs : List Loc) (ls : Array Slot), va_P D vwCl (zw 74 (kC cy ad a0) ad I13 J14) H → va_S A s.heap H locs → lv_has ls 8 [(0, .ref (ad 0)), (1, .int p1)] → W p l e R s m args below meth c H locs 0 0 Q (F0 m 41 ls []) := by
      intro I13 J14 ez H locs ls hP hS hl
      have hf := hzl4 I13 J14 ez
      refine lv_iconst (v := 0) hx hb dX11_blind_41 (by decide) ?_
      refine lv_istore_n (lv' := [(2, .int 0), (0, .ref (ad 0)), (1, .int p1)]) hx hb dX11_blind_42 rfl hl (by decide) rfl (fun ls hl => ?_)
      refine lv_aload_n hx hb dX11_blind_43 rfl (lv_at hl 1 rfl) ?_
      refine lv_iconst (v := 0) hx hb dX11_blind_44 (by decide) ?_
      obtain ⟨u15, I16, J17, h18, hf⟩ := zb3_e hf
      refine zgo_l (zrunV (As := [.int 0]) (rest := []) S (c_X11_guessedSum l hD 0 h18) (cwV 1 hts gX11_blind_X11_guessedSum rfl rfl rfl ddX11_guessedSum ⟨Nat.le_trans (Nat.le_of_ble_eq_true rfl) hfr, Nat.le_trans (Nat.le_of_ble_eq_true rfl) hlo⟩) (va_recv E.1 hP (q := (RX11, TX11, 12)) (ci := 10) rfl (zO.get (oX11_at))) E hP hS hl.1 rfl rfl (Nat.le_of_ble_eq_true rfl) dX11_blind_45) hS (fun H locs hP hS => ?_)
      refine lv_lstore_n (lv' := [(3, .long u15), (2, .int 0), (0, .ref (ad 0)), (1, .int p1)]) hx hb dX11_blind_48 rfl hl (by decide) rfl (fun ls hl => ?_)
      refine lv_iconst (v := 1) hx hb dX11_blind_49 (by decide) ?_
      refine lv_istore (lv' := [(5, .int 1), (3, .long u15), (2, .int 0), (0, .ref (ad 0)), (1, .int p1)]) hx hb dX11_blind_50 hl (by decide) rfl (fun ls hl => ?_)
      obtain ⟨zl19, hf, hzl19⟩ := zb4_i hf
      have hjl19 : ∀ (x33 : Int32) (u34 : Int64) (I35 : zI) (J36 : zJ), (x33, u34, I35, J36) = zl19 → ∀ (H : Heap) (locs : List Loc) (ls : Array Slot), va_P D vwCl (zw 74 (kC cy ad a0) ad I35 J36) H → va_S A s.heap H locs → lv_has ls 8 [(0, .ref (ad 0)), (1, .int p1), (2, .int x33), (3, .long u34)] → W p l e R s m args below meth c H locs 0 0 Q (F0 m 91 ls []) := by
        intro x33 u34 I35 J36 ez H locs ls hP hS hl
        have hf := hzl19 x33 u34 I35 J36 ez
        refine lv_iload_n hx hb dX11_blind_91 rfl (lv_at hl 1 rfl) ?_
        refine lv_iconst (v := 2) hx hb dX11_blind_92 (by decide) ?_
        refine lv_icmp_ge (tgt := 107) hx hb dX11_blind_93 (by decide) (fun k37 => ?_) (fun k37 => ?_)
        · replace hf := zt k37 hf
          refine lv_iload_n hx hb dX11_blind_107 rfl (lv_at hl 1 rfl) ?_
          refine lv_iconst (v := 2) hx hb dX11_blind_108 (by decide) ?_
          refine lv_icmp_ne (tgt := 119) hx hb dX11_blind_109 (by decide) (fun k38 => ?_) (fun k38 => ?_)
          · replace hf := zf k38 hf
            refine lv_aload_n hx hb dX11_blind_119 rfl (lv_at hl 0 rfl) ?_
            obtain ⟨u39, h40, hf⟩ := zb1_e hf
            refine zgo_l (zrunV (As := []) (rest := []) S (c_X11_knownSum l hD  h40) (cwV 0 hts gX11_blind_X11_knownSum rfl rfl rfl ddX11_knownSum ⟨Nat.le_trans (Nat.le_of_ble_eq_true rfl) hfr, Nat.le_trans (Nat.le_of_ble_eq_true rfl) hlo⟩) (va_recv E.1 hP (q := (RX11, TX11, 12)) (ci := 10) rfl (zO.get (oX11_at))) E hP hS hl.1 rfl rfl (Nat.le_of_ble_eq_true rfl) dX11_blind_120) hS (fun H locs hP hS => ?_)
            refine lv_lload_n hx hb dX11_blind_123 rfl (lv_at hl 3 rfl) ?_
            refine lv_lsub hx hb dX11_blind_124 ?_
            exact hret _ _ _ hf _ _ _ _ hP hS dX11_blind_125
          · replace hf := zt k38 hf
            refine lv_aload_n hx hb dX11_blind_112 rfl (lv_at hl 0 rfl) ?_
            obtain ⟨u41, h42, hf⟩ := zb1_e hf
            refine zgo_l (zrunV (As := []) (rest := []) S (c_X11_knownSum l hD  h42) (cwV 0 hts gX11_blind_X11_knownSum rfl rfl rfl ddX11_knownSum ⟨Nat.le_trans (Nat.le_of_ble_eq_true rfl) hfr, Nat.le_trans (Nat.le_of_ble_eq_true rfl) hlo⟩) (va_recv E.1 hP (q := (RX11, TX11, 12)) (ci := 10) rfl (zO.get (oX11_at))) E hP hS hl.1 rfl rfl (Nat.le_of_ble_eq_true rfl) dX11_blind_113) hS (fun H locs hP hS => ?_)
            refine lv_goto (tgt := 125) hx hb dX11_blind_116 (by decide) ?_
            exact hret _ _ _ hf _ _ _ _ hP hS dX11_blind_125
        · replace hf := zf k37 hf
          refine lv_iload_n hx hb dX11_blind_96 rfl (lv_at hl 1 rfl) ?_
          refine lv_if_ne (tgt := 105) hx hb dX11_blind_97 (by decide) (fun k43 => ?_) (fun k43 => ?_)
          · replace hf := zf k43 hf
            refine lv_lload_n hx hb dX11_blind_105 rfl (lv_at hl 3 rfl) ?_
            exact hret _ _ _ hf _ _ _ _ hP hS dX11_blind_106
          · replace hf := zt k43 hf
            refine lv_iload_n hx hb dX11_blind_100 rfl (lv_at hl 2 rfl) ?_
            refine lv_i2l hx hb dX11_blind_101 rfl ?_
            refine lv_goto (tgt := 106) hx hb dX11_blind_102 (by decide) ?_
            exact hret _ _ _ hf _ _ _ _ hP hS dX11_blind_106
      refine zl_i (V := (Int32 × Int64 × Int32 × zI × zJ)) (P := fun v => ∀ (H : Heap) (locs : List Loc) (ls : Array Slot), va_P D vwCl (zw 74 (kC cy ad a0) ad v.2.2.2.1 v.2.2.2.2) H → va_S A s.heap H locs → lv_has ls 8 [(0, .ref (ad 0)), (1, .int p1), (2, .int (v.1)), (3, .long (v.2.1)), (5, .int (v.2.2.1))] → W p l e R s m args below meth c H locs 0 0 Q (F0 m 52 ls [])) ?_ _ _ hf _ _ _ hP hS (lv_sub hl [3, 4, 2, 1, 0] rfl)
      intro v z hf hcl19 hdl19
      obtain ⟨x20, u21, x22, I23, J24⟩ := v
      intro H locs ls hP hS hl
      replace hf : f_X11_blind_L52 x20 u21 x22 I23 J24 = some z := hf
      unfold f_X11_blind_L52 at hf
      replace hP : va_P D vwCl (zw 74 (kC cy ad a0) ad I23 J24) H := hP
      replace hl : lv_has ls 8 [(0, .ref (ad 0)), (1, .int p1), (2, .int x20), (3, .long u21), (5, .int x22)] := hl
      refine lv_iload hx hb dX11_blind_52 (lv_at hl 4 rfl) ?_
      refine lv_aload_n hx hb dX11_blind_54 rfl (lv_at hl 0 rfl) ?_
      refine va_get (D := D) (ci := 10) (v := .ref (ad 4)) (C := RX11) (T := TX11) (N := 12) hx hb hts hinX11_blind_X11 hown E.1 hP 0 (zO.get (oX11_at)) rfl 1 (by decide) (hts (.fieldLink RX11 19 "EdgeAndSpeed" "bench" "LEdgeAndSpeed$Bench;") (by decide +kernel)) (fun _ h9 => h9) rfl dX11_blind_55 ?_
      refine va_getN (D := D) (ci := 0) (v := .int (I23 4 11)) (C := RX0) (T := TX0) (N := 17) hx hb hts hinX11_blind_X0 hown E.1 hP 4 (zO.get (zBat_o (zBat_C (by decide)))) rfl 11 (by decide) (zNfw_7 E.2.2) (fun _ h9 => h9) rfl dX11_blind_58 ?_
      refine lv_icmp_ge (tgt := 91) hx hb dX11_blind_61 (by decide) (fun k25 => ?_) (fun k25 => ?_)
      · replace hf := zt k25 hf
        exact hjl19 _ _ _ _ (hdl19 _ (Option.some.inj hf).symm) _ _ _ hP hS (lv_sub hl [0, 1, 2, 3] rfl)
      · replace hf := zf k25 hf
        refine lv_aload_n hx hb dX11_blind_64 rfl (lv_at hl 0 rfl) ?_
        refine lv_iload hx hb dX11_blind_65 (lv_at hl 4 rfl) ?_
        obtain ⟨u26, I27, J28, h29, hf⟩ := zb3_e hf
        refine zgo_l (zrunV (As := [.int x22]) (rest := []) S (c_X11_guessedSum l hD x22 h29) (cwV 1 hts gX11_blind_X11_guessedSum rfl rfl rfl ddX11_guessedSum ⟨Nat.le_trans (Nat.le_of_ble_eq_true rfl) hfr, Nat.le_trans (Nat.le_of_ble_eq_true rfl) hlo⟩) (va_recv E.1 hP (q := (RX11, TX11, 12)) (ci := 10) rfl (zO.get (oX11_at))) E hP hS hl.1 rfl rfl (Nat.le_of_ble_eq_true rfl) dX11_blind_67) hS (fun H locs hP hS => ?_)
        refine lv_lstore (lv' := [(6, .long u26), (0, .ref (ad 0)), (1, .int p1), (2, .int x20), (3, .long u21), (5, .int x22)]) hx hb dX11_blind_70 hl (by decide) rfl (fun ls hl => ?_)
        refine lv_lload hx hb dX11_blind_72 (lv_at hl 0 rfl) ?_
        refine lv_lload_n hx hb dX11_blind_74 rfl (lv_at hl 4 rfl) ?_
        refine W.lcmp hx hb dX11_blind_75 ?_
        refine lv_if_le (tgt := 85) hx hb dX11_blind_76 (by decide) (fun k30 => ?_) (fun k30 => ?_)
        · replace hf := zt k30 hf
          obtain ⟨y31, ey31⟩ := zex (x22 + 1)
          replace hf := zn_s ey31 hf
          refine lv_iinc (v := y31) (lv' := [(5, .int y31), (6, .long u26), (0, .ref (ad 0)), (1, .int p1), (2, .int x20), (3, .long u21)]) hx hb dX11_blind_85 hl (k := 5) rfl (by rw [ey31]; rfl) (by decide) rfl (fun ls hl => ?_)
          refine lv_goto (tgt := 52) hx hb dX11_blind_88 (by decide) ?_
          exact hcl19 _ (Option.some.inj hf).symm _ _ _ hP hS (lv_sub hl [2, 3, 4, 5, 0] rfl)
        · replace hf := zf k30 hf
          refine lv_iload hx hb dX11_blind_79 (lv_at hl 5 rfl) ?_
          refine lv_istore_n (lv' := [(2, .int x22), (6, .long u26), (0, .ref (ad 0)), (1, .int p1), (3, .long u21), (5, .int x22)]) hx hb dX11_blind_81 rfl hl (by decide) rfl (fun ls hl => ?_)
          refine lv_lload hx hb dX11_blind_82 (lv_at hl 1 rfl) ?_
          refine lv_lstore_n (lv' := [(3, .long u26), (2, .int x22), (6, .long u26), (0, .ref (ad 0)), (1, .int p1), (5, .int x22)]) hx hb dX11_blind_84 rfl hl (by decide) rfl (fun ls hl => ?_)
          obtain ⟨y32, ey32⟩ := zex (x22 + 1)
          replace hf := zn_s ey32 hf
          refine lv_iinc (v := y32) (lv' := [(5, .int y32), (3, .long u26), (2, .int x22), (6, .long u26), (0, .ref (ad 0)), (1, .int p1)]) hx hb dX11_blind_85 hl (k := 5) rfl (by rw [ey32]; rfl) (by decide) rfl (fun ls hl => ?_)
          refine lv_goto (tgt := 52) hx hb dX11_blind_88 (by decide) ?_
          exact hcl19 _ (Option.some.inj hf).symm _ _ _ hP hS (lv_sub hl [4, 5, 2, 1, 0] rfl)
    refine zl_i (V := (Int32 × zI × zJ)) (P := fun v => ∀ (H : Heap) (locs : List Loc) (ls : Array Slot), va_P D vwCl (zw 74 (kC cy ad a0) ad v.2.1 v.2.2) H → va_S A s.heap H locs → lv_has ls 8 [(0, .ref (ad 0)), (1, .int p1), (2, .int (v.1))] → W p l e R s m args below meth c H locs 0 0 Q (F0 m 15 ls [])) ?_ _ _ hf _ _ _ hP hS (lv_sub hl [1, 2, 0] rfl)
    intro v z hf hcl4 hdl4
    obtain ⟨x5, I6, J7⟩ := v
    intro H locs ls hP hS hl
    replace hf : f_X11_blind_L15 x5 I6 J7 = some z := hf
    unfold f_X11_blind_L15 at hf
    replace hP : va_P D vwCl (zw 74 (kC cy ad a0) ad I6 J7) H := hP
    replace hl : lv_has ls 8 [(0, .ref (ad 0)), (1, .int p1), (2, .int x5)] := hl
    refine lv_iload_n hx hb dX11_blind_15 rfl (lv_at hl 2 rfl) ?_
    refine lv_aload_n hx hb dX11_blind_16 rfl (lv_at hl 0 rfl) ?_
    refine va_get (D := D) (ci := 10) (v := .ref (ad 4)) (C := RX11) (T := TX11) (N := 12) hx hb hts hinX11_blind_X11 hown E.1 hP 0 (zO.get (oX11_at)) rfl 1 (by decide) (hts (.fieldLink RX11 19 "EdgeAndSpeed" "bench" "LEdgeAndSpeed$Bench;") (by decide +kernel)) (fun _ h9 => h9) rfl dX11_blind_17 ?_
    refine va_getN (D := D) (ci := 0) (v := .int (I6 4 11)) (C := RX0) (T := TX0) (N := 17) hx hb hts hinX11_blind_X0 hown E.1 hP 4 (zO.get (zBat_o (zBat_C (by decide)))) rfl 11 (by decide) (zNfw_7 E.2.2) (fun _ h9 => h9) rfl dX11_blind_20 ?_
    refine lv_icmp_ge (tgt := 41) hx hb dX11_blind_23 (by decide) (fun k8 => ?_) (fun k8 => ?_)
    · replace hf := zt k8 hf
      exact hjl4 _ _ (hdl4 _ (Option.some.inj hf).symm) _ _ _ hP hS (lv_sub hl [0, 1] rfl)
    · replace hf := zf k8 hf
      refine lv_aload_n hx hb dX11_blind_26 rfl (lv_at hl 0 rfl) ?_
      refine va_get (D := D) (ci := 10) (v := .ref (ad 34)) (C := RX11) (T := TX11) (N := 12) hx hb hts hinX11_blind_X11 hown E.1 hP 0 (zO.get (oX11_at)) rfl 6 (by decide) (hts (.fieldLink RX11 52 "EdgeAndSpeed" "hands" "LEdgeAndSpeed$Hands;") (by decide +kernel)) (fun _ h9 => h9) rfl dX11_blind_27 ?_
      refine lv_iconst (v := 0) hx hb dX11_blind_30 (by decide) ?_
      refine lv_iload_n hx hb dX11_blind_31 rfl (lv_at hl 2 rfl) ?_
      obtain ⟨I9, J10, h11, hf⟩ := zb2_e hf
      refine zgo_v (zrunV (As := [.int 0, .int x5]) (rest := []) S (c_X2_prepare l hD 0 x5 h11) (cwV 2 hts gX11_blind_X2_prepare rfl rfl rfl ddX2_prepare ⟨Nat.le_trans (Nat.le_of_ble_eq_true rfl) hfr, Nat.le_trans (Nat.le_of_ble_eq_true rfl) hlo⟩) (va_recv E.1 hP (q := (RX2, TX2, 4)) (ci := 2) rfl (zO.get (oX2_at))) E hP hS hl.1 rfl rfl (Nat.le_of_ble_eq_true rfl) dX11_blind_32) hS (fun H locs hP hS => ?_)
      obtain ⟨y12, ey12⟩ := zex (x5 + 1)
      replace hf := zn_s ey12 hf
      refine lv_iinc (v := y12) (lv' := [(2, .int y12), (0, .ref (ad 0)), (1, .int p1)]) hx hb dX11_blind_35 hl (k := 2) rfl (by rw [ey12]; rfl) (by decide) rfl (fun ls hl => ?_)
      refine lv_goto (tgt := 15) hx hb dX11_blind_38 (by decide) ?_
      exact hcl4 _ (Option.some.inj hf).symm _ _ _ hP hS (lv_sub hl [1, 2, 0] rfl)
  · replace hf := zt k3 hf
    refine lv_ldc2 hx hb hown (hts (.constantLong RX11 169 (-9223372036854775808)) (by decide +kernel)) dX11_blind_9 ?_
    exact hret _ _ _ hf _ _ _ _ hP hS dX11_blind_12
theorem c_X11_blind (l : Launch) {D : va_G} {a0 : Nat → Nat} {A : Nat → Prop} {cy : Nat → ClassId} {ad : Nat → Nat} (hD : zD A 74 ad) {I : zI} {J : zJ} (p1 : Int32) {rx : Int64} {rI : zI} {rJ : zJ} (hf : f_X11_blind I J p1 = some (rx, rI, rJ)) : Met l yX11_blind wsX11_blind { frames := 7, cells := 0, slots := 0, locals := 175 } (zPc D a0 A cy [.ref (ad 0), .int p1] (zw 74 (kC cy ad a0) ad I J)) (zQl D A rx (zw 74 (kC cy ad a0) ad rI rJ)) 0 0 A :=
  zmet RX11 (by decide) rfl rfl (Nat.le_of_ble_eq_true rfl) (fun p e R s m below meth c Q hfr hlo ls S0 hQ => w_X11_blind hfr hlo hD p1 hf S0 (fun tx tI tJ hq H locs ls pc hP hS hd => by cases hq; exact hQ H locs _ hS (fun hx hb hr hlocks hfree => W.lret hx hb hr (fun t ht hW => ⟨⟨_, (), rfl, rfl, zht ht hP⟩, hS.F ht⟩) hfree hd hlocks)))
theorem ddX11_blind : yX11_blind.cls = RX11 ∧ yX11_blind.cls ≠ "java/lang/invoke/MethodHandle" ∧ yX11_blind.cls ≠ "java/lang/invoke/VarHandle" ∧ (parseMethodDescriptor yX11_blind.desc).map (fun d => d.parameters.length) = some 1 := by decide +kernel

def f_X3_endsRound (I : zI) (J : zJ) (p1 : Int32) (p2 : Int32) (p3 : Int32) : Option (Int32 × zI) := zn ((p2 + 100)) (fun y1 => zb1 (f_X11_within I J y1 0 255) (fun x2 => (if x2 = 0 then some (0, I) else zg (¬ (y1 < 0 ∨ 256 ≤ y1.toNatClampNeg)) ((if 0 ≤ (I 44 y1.toNatClampNeg) then zg (¬ (y1 < 0 ∨ 256 ≤ y1.toNatClampNeg)) (zn (va_up I 43 (va_up (I 43) 2 (I 44 y1.toNatClampNeg))) (fun I8 => zn (va_up I8 43 (va_up (I8 43) 3 (p1 - (I8 43 2)))) (fun I9 => zg (¬ (y1 < 0 ∨ 256 ≤ y1.toNatClampNeg)) (zn (va_up I9 43 (va_up (I9 43) 4 (p3 - (I9 45 y1.toNatClampNeg)))) (fun I11 => some (1, I11)))))) else zg (¬ (y1 < 0 ∨ 256 ≤ y1.toNatClampNeg)) (zn (va_up I 44 (upd (I 44) y1.toNatClampNeg p1)) (fun I12 => zg (¬ (y1 < 0 ∨ 256 ≤ y1.toNatClampNeg)) (zn (va_up I12 45 (upd (I12 45) y1.toNatClampNeg p3)) (fun I14 => some (0, I14))))))))))
theorem hinX3_endsRound_X3 : ∀ w ∈ u_ws RX3 TX3 5, w ∈ wsX3_endsRound := by decide +kernel
set_option maxHeartbeats 4000000 in
set_option maxRecDepth 100000 in
theorem w_X3_endsRound {p : Program} {l : Launch} {e : Env} {R : Room} {s : State} {m : MethodId} {args : Array Value} {below : List Frame} {meth : Method} {c : Code} {Q : State → Prop} (hfr : 1 ≤ R.frames) (hlo : 22 ≤ R.locals) {D : va_G} {a0 : Nat → Nat} {A : Nat → Prop} {cy : Nat → ClassId} {ad : Nat → Nat} (hD : zD A 74 ad) {I : zI} {J : zJ} (p1 : Int32) (p2 : Int32) (p3 : Int32) {rx : Int32} {rI : zI} (hf : f_X3_endsRound I J p1 p2 p3 = some (rx, rI)) {ls : Array Slot} (S0 : zSt p m c cX3_endsRound 5 s args wsX3_endsRound RX3 D a0 A cy (zw 74 (kC cy ad a0) ad I J) [.ref (ad 43), .int p1, .int p2, .int p3] ls) (hret : ∀ (tx : Int32) (tI : zI), some (tx, tI) = some (rx, rI) → (tx = 0 ∨ tx = 1) → ∀ (H : Heap) (locs : List Loc) (ls : Array Slot) (pc : Nat), va_P D vwCl (zw 74 (kC cy ad a0) ad tI J) H → va_S A s.heap H locs → decode cX3_endsRound pc = .ok (.ireturn, 1) → W p l e R s m args below meth c H locs 0 0 Q (F0 m pc ls [.int tx])) : W p l e R s m args below meth c s.heap [] 0 0 Q (F0 m 0 ls []) := by
  obtain ⟨S, E, hP, hl⟩ := S0
  obtain ⟨hx, hb, hml, hown, hts⟩ := id S
  have hS : va_S A s.heap s.heap [] := va_S.rf
  replace hl : lv_has ls 5 [(0, .ref (ad 43)), (1, .int p1), (2, .int p2), (3, .int p3)] := hl
  unfold f_X3_endsRound at hf
  refine lv_iload_n hx hb dX3_endsRound_0 rfl (lv_at hl 2 rfl) ?_
  refine lv_bipush (v := 100) hx hb dX3_endsRound_1 (by decide) ?_
  refine lv_iadd hx hb dX3_endsRound_3 ?_
  refine lv_topi (fun y1 ey1 => ?_)
  replace hf := zn_s ey1 hf
  refine lv_istore (lv' := [(4, .int y1), (0, .ref (ad 43)), (1, .int p1), (2, .int p2), (3, .int p3)]) hx hb dX3_endsRound_4 hl (by decide) rfl (fun ls hl => ?_)
  refine lv_iload hx hb dX3_endsRound_6 (lv_at hl 0 rfl) ?_
  refine lv_iconst (v := 0) hx hb dX3_endsRound_8 (by decide) ?_
  refine lv_sipush (v := 255) hx hb dX3_endsRound_9 (by decide) ?_
  obtain ⟨x2, h3, hf⟩ := zb1_e hf
  refine zgo_i (zrunSN (As := [.int y1, .int 0, .int 255]) (rest := []) S (c_X11_within l hD y1 0 255 h3) ⟨va_cnB (host := "EdgeAndSpeed") 3 hts gX3_endsRound_X11_within_n33 rfl rfl rfl (zNmw_13 E.2.2) (hts (.initialized RX11) (by decide +kernel)) ddX11_within ⟨Nat.le_trans (Nat.le_of_ble_eq_true rfl) hfr, Nat.le_trans (Nat.le_of_ble_eq_true rfl) hlo⟩, hts (.static yX11_within) (by decide +kernel), trivial⟩ E hP hS hl.1 rfl rfl (Nat.le_of_ble_eq_true rfl) dX3_endsRound_12) hS (fun H locs hP hS => ?_)
  refine lv_if_ne (tgt := 20) hx hb dX3_endsRound_15 (by decide) (fun k4 => ?_) (fun k4 => ?_)
  · replace hf := zf k4 hf
    refine lv_aload_n hx hb dX3_endsRound_20 rfl (lv_at hl 1 rfl) ?_
    refine va_get (D := D) (ci := 3) (v := .ref (ad 44)) (C := RX3) (T := TX3) (N := 5) hx hb hts hinX3_endsRound_X3 hown E.1 hP 43 (zO.get (oX3_at)) rfl 0 (by decide) (hts (.fieldLink RX3 9 "EdgeAndSpeed$Lathes" "times" "[I") (by decide +kernel)) (fun _ h9 => h9) rfl dX3_endsRound_21 ?_
    refine lv_iload hx hb dX3_endsRound_24 (lv_at hl 0 rfl) ?_
    obtain ⟨g5, hf⟩ := zg_i hf
    refine va_iald hx hb E.1 hP 44 1 (zIA.get (aX3_0)) rfl g5 dX3_endsRound_26 ?_
    refine lv_if_ge (tgt := 48) hx hb dX3_endsRound_27 (by decide) (fun k6 => ?_) (fun k6 => ?_)
    · replace hf := zt k6 hf
      refine lv_aload_n hx hb dX3_endsRound_48 rfl (lv_at hl 1 rfl) ?_
      refine lv_aload_n hx hb dX3_endsRound_49 rfl (lv_at hl 1 rfl) ?_
      refine va_get (D := D) (ci := 3) (v := .ref (ad 44)) (C := RX3) (T := TX3) (N := 5) hx hb hts hinX3_endsRound_X3 hown E.1 hP 43 (zO.get (oX3_at)) rfl 0 (by decide) (hts (.fieldLink RX3 9 "EdgeAndSpeed$Lathes" "times" "[I") (by decide +kernel)) (fun _ h9 => h9) rfl dX3_endsRound_50 ?_
      refine lv_iload hx hb dX3_endsRound_53 (lv_at hl 0 rfl) ?_
      obtain ⟨g7, hf⟩ := zg_i hf
      refine va_iald hx hb E.1 hP 44 1 (zIA.get (aX3_0)) rfl g7 dX3_endsRound_55 ?_
      obtain ⟨I8, eI8⟩ := zex (va_up I 43 (va_up (I 43) 2 (I 44 y1.toNatClampNeg)))
      replace hf := zn_s eI8 hf
      refine zput (D := D) (ci := 3) (v := .int (I 44 y1.toNatClampNeg)) (ty := .int) (C := RX3) (T := TX3) (N := 5) hx hb hts hinX3_endsRound_X3 tyX3 tyX3_ok nmX3 hown E.1 hP hD.D hS 43 (zO.get (oX3_at)) rfl 2 (by decide) (hts (.fieldLink RX3 38 "EdgeAndSpeed$Lathes" "begin" "I") (by decide +kernel)) (fun _ h9 => h9) rfl (tyX3_ok 2 (by decide)) rfl rfl (Nat.le_of_ble_eq_true rfl) dX3_endsRound_56 (zO.setI (oX3_at) rfl eI8) (fun H locs hP hS => ?_)
      refine lv_aload_n hx hb dX3_endsRound_59 rfl (lv_at hl 1 rfl) ?_
      refine lv_iload_n hx hb dX3_endsRound_60 rfl (lv_at hl 2 rfl) ?_
      refine lv_aload_n hx hb dX3_endsRound_61 rfl (lv_at hl 1 rfl) ?_
      refine va_get (D := D) (ci := 3) (v := .int (I8 43 2)) (C := RX3) (T := TX3) (N := 5) hx hb hts hinX3_endsRound_X3 hown E.1 hP 43 (zO.get (oX3_at)) rfl 2 (by decide) (hts (.fieldLink RX3 38 "EdgeAndSpeed$Lathes" "begin" "I") (by decide +kernel)) (fun _ h9 => h9) rfl dX3_endsRound_62 ?_
      refine lv_isub hx hb dX3_endsRound_65 ?_
      obtain ⟨I9, eI9⟩ := zex (va_up I8 43 (va_up (I8 43) 3 (p1 - (I8 43 2))))
      replace hf := zn_s eI9 hf
      refine zput (D := D) (ci := 3) (v := .int (p1 - (I8 43 2))) (ty := .int) (C := RX3) (T := TX3) (N := 5) hx hb hts hinX3_endsRound_X3 tyX3 tyX3_ok nmX3 hown E.1 hP hD.D hS 43 (zO.get (oX3_at)) rfl 3 (by decide) (hts (.fieldLink RX3 42 "EdgeAndSpeed$Lathes" "minutes" "I") (by decide +kernel)) (fun _ h9 => h9) rfl (tyX3_ok 3 (by decide)) rfl rfl (Nat.le_of_ble_eq_true rfl) dX3_endsRound_66 (zO.setI (oX3_at) rfl eI9) (fun H locs hP hS => ?_)
      refine lv_aload_n hx hb dX3_endsRound_69 rfl (lv_at hl 1 rfl) ?_
      refine lv_iload_n hx hb dX3_endsRound_70 rfl (lv_at hl 4 rfl) ?_
      refine lv_aload_n hx hb dX3_endsRound_71 rfl (lv_at hl 1 rfl) ?_
      refine va_get (D := D) (ci := 3) (v := .ref (ad 45)) (C := RX3) (T := TX3) (N := 5) hx hb hts hinX3_endsRound_X3 hown E.1 hP 43 (zO.get (oX3_at)) rfl 1 (by decide) (hts (.fieldLink RX3 13 "EdgeAndSpeed$Lathes" "waitsThen" "[I") (by decide +kernel)) (fun _ h9 => h9) rfl dX3_endsRound_72 ?_
      refine lv_iload hx hb dX3_endsRound_75 (lv_at hl 0 rfl) ?_
      obtain ⟨g10, hf⟩ := zg_i hf
      refine va_iald hx hb E.1 hP 45 1 (zIA.get (aX3_1)) rfl g10 dX3_endsRound_77 ?_
      refine lv_isub hx hb dX3_endsRound_78 ?_
      obtain ⟨I11, eI11⟩ := zex (va_up I9 43 (va_up (I9 43) 4 (p3 - (I9 45 y1.toNatClampNeg))))
      replace hf := zn_s eI11 hf
      refine zput (D := D) (ci := 3) (v := .int (p3 - (I9 45 y1.toNatClampNeg))) (ty := .int) (C := RX3) (T := TX3) (N := 5) hx hb hts hinX3_endsRound_X3 tyX3 tyX3_ok nmX3 hown E.1 hP hD.D hS 43 (zO.get (oX3_at)) rfl 4 (by decide) (hts (.fieldLink RX3 45 "EdgeAndSpeed$Lathes" "waits" "I") (by decide +kernel)) (fun _ h9 => h9) rfl (tyX3_ok 4 (by decide)) rfl rfl (Nat.le_of_ble_eq_true rfl) dX3_endsRound_79 (zO.setI (oX3_at) rfl eI11) (fun H locs hP hS => ?_)
      refine lv_iconst (v := 1) hx hb dX3_endsRound_82 (by decide) ?_
      exact hret _ _ hf (Or.inr rfl) _ _ _ _ hP hS dX3_endsRound_83
    · replace hf := zf k6 hf
      refine lv_aload_n hx hb dX3_endsRound_30 rfl (lv_at hl 1 rfl) ?_
      refine va_get (D := D) (ci := 3) (v := .ref (ad 44)) (C := RX3) (T := TX3) (N := 5) hx hb hts hinX3_endsRound_X3 hown E.1 hP 43 (zO.get (oX3_at)) rfl 0 (by decide) (hts (.fieldLink RX3 9 "EdgeAndSpeed$Lathes" "times" "[I") (by decide +kernel)) (fun _ h9 => h9) rfl dX3_endsRound_31 ?_
      refine lv_iload hx hb dX3_endsRound_34 (lv_at hl 0 rfl) ?_
      refine lv_iload_n hx hb dX3_endsRound_36 rfl (lv_at hl 2 rfl) ?_
      obtain ⟨g13, hf⟩ := zg_i hf
      obtain ⟨I12, eI12⟩ := zex (va_up I 44 (upd (I 44) y1.toNatClampNeg p1))
      replace hf := zn_s eI12 hf
      refine zast_i hx hb E.1 hP hD.D hS (aX3_0) g13 dX3_endsRound_37 eI12 (fun H locs hP hS => ?_)
      refine lv_aload_n hx hb dX3_endsRound_38 rfl (lv_at hl 1 rfl) ?_
      refine va_get (D := D) (ci := 3) (v := .ref (ad 45)) (C := RX3) (T := TX3) (N := 5) hx hb hts hinX3_endsRound_X3 hown E.1 hP 43 (zO.get (oX3_at)) rfl 1 (by decide) (hts (.fieldLink RX3 13 "EdgeAndSpeed$Lathes" "waitsThen" "[I") (by decide +kernel)) (fun _ h9 => h9) rfl dX3_endsRound_39 ?_
      refine lv_iload hx hb dX3_endsRound_42 (lv_at hl 0 rfl) ?_
      refine lv_iload_n hx hb dX3_endsRound_44 rfl (lv_at hl 4 rfl) ?_
      obtain ⟨g15, hf⟩ := zg_i hf
      obtain ⟨I14, eI14⟩ := zex (va_up I12 45 (upd (I12 45) y1.toNatClampNeg p3))
      replace hf := zn_s eI14 hf
      refine zast_i hx hb E.1 hP hD.D hS (aX3_1) g15 dX3_endsRound_45 eI14 (fun H locs hP hS => ?_)
      refine lv_iconst (v := 0) hx hb dX3_endsRound_46 (by decide) ?_
      exact hret _ _ hf (Or.inl rfl) _ _ _ _ hP hS dX3_endsRound_47
  · replace hf := zt k4 hf
    refine lv_iconst (v := 0) hx hb dX3_endsRound_18 (by decide) ?_
    exact hret _ _ hf (Or.inl rfl) _ _ _ _ hP hS dX3_endsRound_19
theorem c_X3_endsRound (l : Launch) {D : va_G} {a0 : Nat → Nat} {A : Nat → Prop} {cy : Nat → ClassId} {ad : Nat → Nat} (hD : zD A 74 ad) {I : zI} {J : zJ} (p1 : Int32) (p2 : Int32) (p3 : Int32) {rx : Int32} {rI : zI} (hf : f_X3_endsRound I J p1 p2 p3 = some (rx, rI)) : Met l yX3_endsRound wsX3_endsRound { frames := 1, cells := 0, slots := 0, locals := 22 } (zPc D a0 A cy [.ref (ad 43), .int p1, .int p2, .int p3] (zw 74 (kC cy ad a0) ad I J)) (zQi D A rx (zw 74 (kC cy ad a0) ad rI J)) 0 0 A :=
  zmet RX3 (by decide) rfl rfl (Nat.le_of_ble_eq_true rfl) (fun p e R s m below meth c Q hfr hlo ls S0 hQ => w_X3_endsRound hfr hlo hD p1 p2 p3 hf S0 (fun tx tI hq n01 H locs ls pc hP hS hd => by cases hq; exact hQ H locs _ hS (fun hx hb hr hlocks hfree => W.zret hx hb hr (z01 n01) (fun t ht hW => ⟨⟨_, (), rfl, rfl, zht ht hP⟩, hS.F ht⟩) hfree hd hlocks)))
theorem ddX3_endsRound : yX3_endsRound.cls = RX3 ∧ yX3_endsRound.cls ≠ "java/lang/invoke/MethodHandle" ∧ yX3_endsRound.cls ≠ "java/lang/invoke/VarHandle" ∧ (parseMethodDescriptor yX3_endsRound.desc).map (fun d => d.parameters.length) = some 3 := by decide +kernel

def f_X3_goRound_L32 (p4 : Int32) (p2 : Int32) (p3 : Int32) (p1 : Int32) (J : zJ) (x7 : Int32) (x8 : Int32) (x9 : Int32) (x10 : Int32) (x11 : Int32) (I12 : zI) : Option ((Int32 × Int32 × Int32 × Int32 × Int32 × zI) ⊕ (zI ⊕ (Int32 × zI))) := (if 100000 ≤ x11 then some (.inr (.inl I12)) else (if 20000 < x9 then some (.inr (.inl I12)) else zb1 ((if x8 < x7 then some (0) else some (1)) : Option Int32) (fun x18 => zb1 ((if x18 = 0 then some (x8) else some (x7)) : Option Int32) (fun x22 => zn ((if x22 < x9 then x9 else x22)) (fun y23 => zn ((x10 + (y23 - x22))) (fun y24 => zb1 ((if x18 = 0 then some (p4) else some (p2)) : Option Int32) (fun x28 => zn ((y23 + x28)) (fun y29 => (if x18 = 0 then zn ((y29 + p3)) (fun y39 => zn (x11 + 1) (fun y40 => some (.inl (x7, y39, y29, y24, y40, I12)))) else zn ((y29 + p1)) (fun y31 => (if 20000 < y29 then zn (x11 + 1) (fun y33 => some (.inl (y31, x8, y29, y24, y33, I12))) else zb2 (f_X3_endsRound I12 J y29 (x8 - y29) y24) (fun x34 I35 => (if x34 = 0 then zn (x11 + 1) (fun y38 => some (.inl (y31, x8, y29, y24, y38, I35))) else some (.inr (.inr (1, I35))))))))))))))))
def f_X3_goRound (I : zI) (J : zJ) (p1 : Int32) (p2 : Int32) (p3 : Int32) (p4 : Int32) : Option (Int32 × zI) := zb1 (f_J7_fill_53178 I J 44 256 (-1)) (fun I1 => zb2 (f_X3_endsRound I1 J 0 p3 0) (fun x3 I4 => zc1 (zl (fun v : (Int32 × Int32 × Int32 × Int32 × Int32 × zI) => f_X3_goRound_L32 p4 p2 p3 p1 J v.1 v.2.1 v.2.2.1 v.2.2.2.1 v.2.2.2.2.1 v.2.2.2.2.2) zF (p1, p3, 0, 0, 0, I4)) (fun I41 => some (0, I41))))
theorem hinX3_goRound_X3 : ∀ w ∈ u_ws RX3 TX3 5, w ∈ wsX3_goRound := by decide +kernel
set_option maxHeartbeats 4000000 in
set_option maxRecDepth 100000 in
theorem w_X3_goRound {p : Program} {l : Launch} {e : Env} {R : Room} {s : State} {m : MethodId} {args : Array Value} {below : List Frame} {meth : Method} {c : Code} {Q : State → Prop} (hfr : 2 ≤ R.frames) (hlo : 46 ≤ R.locals) {D : va_G} {a0 : Nat → Nat} {A : Nat → Prop} {cy : Nat → ClassId} {ad : Nat → Nat} (hD : zD A 74 ad) {I : zI} {J : zJ} (p1 : Int32) (p2 : Int32) (p3 : Int32) (p4 : Int32) {rx : Int32} {rI : zI} (hf : f_X3_goRound I J p1 p2 p3 p4 = some (rx, rI)) {ls : Array Slot} (S0 : zSt p m c cX3_goRound 13 s args wsX3_goRound RX3 D a0 A cy (zw 74 (kC cy ad a0) ad I J) [.ref (ad 43), .int p1, .int p2, .int p3, .int p4] ls) (hret : ∀ (tx : Int32) (tI : zI), some (tx, tI) = some (rx, rI) → (tx = 0 ∨ tx = 1) → ∀ (H : Heap) (locs : List Loc) (ls : Array Slot) (pc : Nat), va_P D vwCl (zw 74 (kC cy ad a0) ad tI J) H → va_S A s.heap H locs → decode cX3_goRound pc = .ok (.ireturn, 1) → W p l e R s m args below meth c H locs 0 0 Q (F0 m pc ls [.int tx])) : W p l e R s m args below meth c s.heap [] 0 0 Q (F0 m 0 ls []) := by
  obtain ⟨S, E, hP, hl⟩ := S0
  obtain ⟨hx, hb, hml, hown, hts⟩ := id S
  have hS : va_S A s.heap s.heap [] := va_S.rf
  replace hl : lv_has ls 13 [(0, .ref (ad 43)), (1, .int p1), (2, .int p2), (3, .int p3), (4, .int p4)] := hl
  unfold f_X3_goRound at hf
  refine lv_aload_n hx hb dX3_goRound_0 rfl (lv_at hl 0 rfl) ?_
  refine va_get (D := D) (ci := 3) (v := .ref (ad 44)) (C := RX3) (T := TX3) (N := 5) hx hb hts hinX3_goRound_X3 hown E.1 hP 43 (zO.get (oX3_at)) rfl 0 (by decide) (hts (.fieldLink RX3 9 "EdgeAndSpeed$Lathes" "times" "[I") (by decide +kernel)) (fun _ h9 => h9) rfl dX3_goRound_1 ?_
  refine lv_iconst (v := (-1)) hx hb dX3_goRound_4 (by decide) ?_
  obtain ⟨I1, h2, hf⟩ := zb1_e hf
  refine zgo_v (zrunS (As := [.ref (ad 44), .int (-1)]) (rest := []) S (c_J7_fill_53178 l hD 44 256 (aX3_0) (-1) h2) (va_cwS 2 hts gX3_goRound_J7_fill_53178 rfl rfl rfl ddJ7_fill_53178 ⟨Nat.le_trans (Nat.le_of_ble_eq_true rfl) hfr, Nat.le_trans (Nat.le_of_ble_eq_true rfl) hlo⟩) E hP hS hl.1 rfl rfl (Nat.le_of_ble_eq_true rfl) dX3_goRound_5) hS (fun H locs hP hS => ?_)
  refine lv_iload_n hx hb dX3_goRound_8 rfl (lv_at hl 1 rfl) ?_
  refine lv_istore (lv' := [(5, .int p1), (0, .ref (ad 43)), (1, .int p1), (2, .int p2), (3, .int p3), (4, .int p4)]) hx hb dX3_goRound_9 hl (by decide) rfl (fun ls hl => ?_)
  refine lv_iload_n hx hb dX3_goRound_11 rfl (lv_at hl 4 rfl) ?_
  refine lv_istore (lv' := [(6, .int p3), (5, .int p1), (0, .ref (ad 43)), (1, .int p1), (2, .int p2), (3, .int p3), (4, .int p4)]) hx hb dX3_goRound_12 hl (by decide) rfl (fun ls hl => ?_)
  refine lv_iconst (v := 0) hx hb dX3_goRound_14 (by decide) ?_
  refine lv_istore (lv' := [(7, .int 0), (6, .int p3), (5, .int p1), (0, .ref (ad 43)), (1, .int p1), (2, .int p2), (3, .int p3), (4, .int p4)]) hx hb dX3_goRound_15 hl (by decide) rfl (fun ls hl => ?_)
  refine lv_iconst (v := 0) hx hb dX3_goRound_17 (by decide) ?_
  refine lv_istore (lv' := [(8, .int 0), (7, .int 0), (6, .int p3), (5, .int p1), (0, .ref (ad 43)), (1, .int p1), (2, .int p2), (3, .int p3), (4, .int p4)]) hx hb dX3_goRound_18 hl (by decide) rfl (fun ls hl => ?_)
  refine lv_aload_n hx hb dX3_goRound_20 rfl (lv_at hl 4 rfl) ?_
  refine lv_iconst (v := 0) hx hb dX3_goRound_21 (by decide) ?_
  refine lv_iload hx hb dX3_goRound_22 (lv_at hl 2 rfl) ?_
  refine lv_iconst (v := 0) hx hb dX3_goRound_24 (by decide) ?_
  obtain ⟨x3, I4, h5, hf⟩ := zb2_e hf
  refine zgo_i (zrunV (As := [.int 0, .int p3, .int 0]) (rest := []) S (c_X3_endsRound l hD 0 p3 0 h5) (cwV 3 hts gX3_goRound_X3_endsRound rfl rfl rfl ddX3_endsRound ⟨Nat.le_trans (Nat.le_of_ble_eq_true rfl) hfr, Nat.le_trans (Nat.le_of_ble_eq_true rfl) hlo⟩) (va_recv E.1 hP (q := (RX3, TX3, 5)) (ci := 3) rfl (zO.get (oX3_at))) E hP hS hl.1 rfl rfl (Nat.le_of_ble_eq_true rfl) dX3_goRound_25) hS (fun H locs hP hS => ?_)
  refine lv_pop hx hb dX3_goRound_28 rfl ?_
  refine lv_iconst (v := 0) hx hb dX3_goRound_29 (by decide) ?_
  refine lv_istore (lv' := [(9, .int 0), (8, .int 0), (7, .int 0), (6, .int p3), (5, .int p1), (0, .ref (ad 43)), (1, .int p1), (2, .int p2), (3, .int p3), (4, .int p4)]) hx hb dX3_goRound_30 hl (by decide) rfl (fun ls hl => ?_)
  obtain ⟨zl6, hf, hzl6, hel6⟩ := zc1_i hf
  have hjl6 : ∀ (I41 : zI), (Sum.inl I41) = zl6 → ∀ (H : Heap) (locs : List Loc) (ls : Array Slot), va_P D vwCl (zw 74 (kC cy ad a0) ad I41 J) H → va_S A s.heap H locs → lv_has ls 13 [] → W p l e R s m args below meth c H locs 0 0 Q (F0 m 162 ls []) := by
    intro I41 ez H locs ls hP hS hl
    have hf := hzl6 I41 ez
    refine lv_iconst (v := 0) hx hb dX3_goRound_162 (by decide) ?_
    exact hret _ _ hf (Or.inl rfl) _ _ _ _ hP hS dX3_goRound_163
  refine zl_i (V := (Int32 × Int32 × Int32 × Int32 × Int32 × zI)) (P := fun v => ∀ (H : Heap) (locs : List Loc) (ls : Array Slot), va_P D vwCl (zw 74 (kC cy ad a0) ad v.2.2.2.2.2 J) H → va_S A s.heap H locs → lv_has ls 13 [(0, .ref (ad 43)), (1, .int p1), (2, .int p2), (3, .int p3), (4, .int p4), (5, .int (v.1)), (6, .int (v.2.1)), (7, .int (v.2.2.1)), (8, .int (v.2.2.2.1)), (9, .int (v.2.2.2.2.1))] → W p l e R s m args below meth c H locs 0 0 Q (F0 m 32 ls [])) ?_ _ _ hf _ _ _ hP hS (lv_sub hl [5, 6, 7, 8, 9, 4, 3, 2, 1, 0] rfl)
  intro v z hf hcl6 hdl6
  obtain ⟨x7, x8, x9, x10, x11, I12⟩ := v
  intro H locs ls hP hS hl
  replace hf : f_X3_goRound_L32 p4 p2 p3 p1 J x7 x8 x9 x10 x11 I12 = some z := hf
  unfold f_X3_goRound_L32 at hf
  replace hP : va_P D vwCl (zw 74 (kC cy ad a0) ad I12 J) H := hP
  replace hl : lv_has ls 13 [(0, .ref (ad 43)), (1, .int p1), (2, .int p2), (3, .int p3), (4, .int p4), (5, .int x7), (6, .int x8), (7, .int x9), (8, .int x10), (9, .int x11)] := hl
  refine lv_iload hx hb dX3_goRound_32 (lv_at hl 9 rfl) ?_
  refine lv_ldc hx hb hown (hts (.constant RX3 26 100000) (by decide +kernel)) dX3_goRound_34 ?_
  refine lv_icmp_ge (tgt := 162) hx hb dX3_goRound_36 (by decide) (fun k13 => ?_) (fun k13 => ?_)
  · replace hf := zt k13 hf
    exact hjl6 _ (hdl6 _ (Option.some.inj hf).symm) _ _ _ hP hS (lv_sub hl [] rfl)
  · replace hf := zf k13 hf
    refine lv_iload hx hb dX3_goRound_39 (lv_at hl 7 rfl) ?_
    refine lv_sipush (v := 20000) hx hb dX3_goRound_41 (by decide) ?_
    refine lv_icmp_gt (tgt := 162) hx hb dX3_goRound_44 (by decide) (fun k14 => ?_) (fun k14 => ?_)
    · replace hf := zt k14 hf
      exact hjl6 _ (hdl6 _ (Option.some.inj hf).symm) _ _ _ hP hS (lv_sub hl [] rfl)
    · replace hf := zf k14 hf
      refine lv_iload hx hb dX3_goRound_47 (lv_at hl 5 rfl) ?_
      refine lv_iload hx hb dX3_goRound_49 (lv_at hl 6 rfl) ?_
      obtain ⟨zr17, hf, hzr17⟩ := zb1_i hf
      have hjr17 : ∀ (x18 : Int32), x18 = zr17 → ∀ (H : Heap) (locs : List Loc) (ls : Array Slot), va_P D vwCl (zw 74 (kC cy ad a0) ad I12 J) H → va_S A s.heap H locs → lv_has ls 13 [(0, .ref (ad 43)), (1, .int p1), (2, .int p2), (3, .int p3), (4, .int p4), (5, .int x7), (6, .int x8), (7, .int x9), (8, .int x10), (9, .int x11)] → W p l e R s m args below meth c H locs 0 0 Q (F0 m 59 ls [.int x18]) := by
        intro x18 ez H locs ls hP hS hl
        have hf := hzr17 x18 ez
        refine lv_istore (lv' := [(10, .int x18), (0, .ref (ad 43)), (1, .int p1), (2, .int p2), (3, .int p3), (4, .int p4), (5, .int x7), (6, .int x8), (7, .int x9), (8, .int x10), (9, .int x11)]) hx hb dX3_goRound_59 hl (by decide) rfl (fun ls hl => ?_)
        refine lv_iload hx hb dX3_goRound_61 (lv_at hl 0 rfl) ?_
        obtain ⟨zr21, hf, hzr21⟩ := zb1_i hf
        have hjr21 : ∀ (x22 : Int32), x22 = zr21 → ∀ (H : Heap) (locs : List Loc) (ls : Array Slot), va_P D vwCl (zw 74 (kC cy ad a0) ad I12 J) H → va_S A s.heap H locs → lv_has ls 13 [(0, .ref (ad 43)), (1, .int p1), (2, .int p2), (3, .int p3), (4, .int p4), (5, .int x7), (6, .int x8), (7, .int x9), (8, .int x10), (9, .int x11), (10, .int x18)] → W p l e R s m args below meth c H locs 0 0 Q (F0 m 73 ls [.int x22]) := by
          intro x22 ez H locs ls hP hS hl
          have hf := hzr21 x22 ez
          refine lv_istore (lv' := [(11, .int x22), (0, .ref (ad 43)), (1, .int p1), (2, .int p2), (3, .int p3), (4, .int p4), (5, .int x7), (6, .int x8), (7, .int x9), (8, .int x10), (9, .int x11), (10, .int x18)]) hx hb dX3_goRound_73 hl (by decide) rfl (fun ls hl => ?_)
          refine lv_iload hx hb dX3_goRound_75 (lv_at hl 0 rfl) ?_
          refine lv_iload hx hb dX3_goRound_77 (lv_at hl 8 rfl) ?_
          refine va_mmax hx hb (hml.trans hl.1.symm) hown (hts (.methodLink RX3 27 Lib.Math.max.name) (by decide +kernel)) (hts (.static Lib.Math.max.name) (by decide +kernel)) (hts (.initialized "java/lang/Math") (by decide +kernel)) (hts (.code Lib.Math.max.name Lib.Math.max.code 2 (some .int)) (by decide +kernel)) (Nat.le_trans (Nat.le_of_ble_eq_true rfl) hfr) (Nat.le_trans (Nat.le_of_ble_eq_true rfl) hlo) (Nat.zero_le _) (Nat.zero_le _) dX3_goRound_79 ?_
          refine lv_topi (fun y23 ey23 => ?_)
          replace hf := zn_s ey23 hf
          refine lv_istore (lv' := [(12, .int y23), (11, .int x22), (0, .ref (ad 43)), (1, .int p1), (2, .int p2), (3, .int p3), (4, .int p4), (5, .int x7), (6, .int x8), (7, .int x9), (8, .int x10), (9, .int x11), (10, .int x18)]) hx hb dX3_goRound_82 hl (by decide) rfl (fun ls hl => ?_)
          refine lv_iload hx hb dX3_goRound_84 (lv_at hl 10 rfl) ?_
          refine lv_iload hx hb dX3_goRound_86 (lv_at hl 0 rfl) ?_
          refine lv_iload hx hb dX3_goRound_88 (lv_at hl 1 rfl) ?_
          refine lv_isub hx hb dX3_goRound_90 ?_
          refine lv_iadd hx hb dX3_goRound_91 ?_
          refine lv_topi (fun y24 ey24 => ?_)
          replace hf := zn_s ey24 hf
          refine lv_istore (lv' := [(8, .int y24), (12, .int y23), (11, .int x22), (0, .ref (ad 43)), (1, .int p1), (2, .int p2), (3, .int p3), (4, .int p4), (5, .int x7), (6, .int x8), (7, .int x9), (9, .int x11), (10, .int x18)]) hx hb dX3_goRound_92 hl (by decide) rfl (fun ls hl => ?_)
          refine lv_iload hx hb dX3_goRound_94 (lv_at hl 1 rfl) ?_
          refine lv_iload hx hb dX3_goRound_96 (lv_at hl 12 rfl) ?_
          obtain ⟨zr27, hf, hzr27⟩ := zb1_i hf
          have hjr27 : ∀ (x28 : Int32), x28 = zr27 → ∀ (H : Heap) (locs : List Loc) (ls : Array Slot), va_P D vwCl (zw 74 (kC cy ad a0) ad I12 J) H → va_S A s.heap H locs → lv_has ls 13 [(0, .ref (ad 43)), (1, .int p1), (2, .int p2), (3, .int p3), (4, .int p4), (5, .int x7), (6, .int x8), (8, .int y24), (9, .int x11), (10, .int x18)] → W p l e R s m args below meth c H locs 0 0 Q (F0 m 107 ls [.int x28, .int y23]) := by
            intro x28 ez H locs ls hP hS hl
            have hf := hzr27 x28 ez
            refine lv_iadd hx hb dX3_goRound_107 ?_
            refine lv_topi (fun y29 ey29 => ?_)
            replace hf := zn_s ey29 hf
            refine lv_istore (lv' := [(7, .int y29), (0, .ref (ad 43)), (1, .int p1), (2, .int p2), (3, .int p3), (4, .int p4), (5, .int x7), (6, .int x8), (8, .int y24), (9, .int x11), (10, .int x18)]) hx hb dX3_goRound_108 hl (by decide) rfl (fun ls hl => ?_)
            refine lv_iload hx hb dX3_goRound_110 (lv_at hl 10 rfl) ?_
            refine lv_if_ne (tgt := 124) hx hb dX3_goRound_112 (by decide) (fun k30 => ?_) (fun k30 => ?_)
            · replace hf := zf k30 hf
              refine lv_iload hx hb dX3_goRound_124 (lv_at hl 0 rfl) ?_
              refine lv_iload_n hx hb dX3_goRound_126 rfl (lv_at hl 2 rfl) ?_
              refine lv_iadd hx hb dX3_goRound_127 ?_
              refine lv_topi (fun y31 ey31 => ?_)
              replace hf := zn_s ey31 hf
              refine lv_istore (lv' := [(5, .int y31), (7, .int y29), (0, .ref (ad 43)), (1, .int p1), (2, .int p2), (3, .int p3), (4, .int p4), (6, .int x8), (8, .int y24), (9, .int x11), (10, .int x18)]) hx hb dX3_goRound_128 hl (by decide) rfl (fun ls hl => ?_)
              refine lv_iload hx hb dX3_goRound_130 (lv_at hl 1 rfl) ?_
              refine lv_sipush (v := 20000) hx hb dX3_goRound_132 (by decide) ?_
              refine lv_icmp_gt (tgt := 156) hx hb dX3_goRound_135 (by decide) (fun k32 => ?_) (fun k32 => ?_)
              · replace hf := zt k32 hf
                obtain ⟨y33, ey33⟩ := zex (x11 + 1)
                replace hf := zn_s ey33 hf
                refine lv_iinc (v := y33) (lv' := [(9, .int y33), (5, .int y31), (7, .int y29), (0, .ref (ad 43)), (1, .int p1), (2, .int p2), (3, .int p3), (4, .int p4), (6, .int x8), (8, .int y24), (10, .int x18)]) hx hb dX3_goRound_156 hl (k := 9) rfl (by rw [ey33]; rfl) (by decide) rfl (fun ls hl => ?_)
                refine lv_goto (tgt := 32) hx hb dX3_goRound_159 (by decide) ?_
                exact hcl6 _ (Option.some.inj hf).symm _ _ _ hP hS (lv_sub hl [3, 4, 5, 6, 7, 1, 8, 2, 9, 0] rfl)
              · replace hf := zf k32 hf
                refine lv_aload_n hx hb dX3_goRound_138 rfl (lv_at hl 2 rfl) ?_
                refine lv_iload hx hb dX3_goRound_139 (lv_at hl 1 rfl) ?_
                refine lv_iload hx hb dX3_goRound_141 (lv_at hl 7 rfl) ?_
                refine lv_iload hx hb dX3_goRound_143 (lv_at hl 1 rfl) ?_
                refine lv_isub hx hb dX3_goRound_145 ?_
                refine lv_iload hx hb dX3_goRound_146 (lv_at hl 8 rfl) ?_
                obtain ⟨x34, I35, h36, hf⟩ := zb2_e hf
                refine zgo_i (zrunV (As := [.int y29, .int (x8 - y29), .int y24]) (rest := []) S (c_X3_endsRound l hD y29 (x8 - y29) y24 h36) (cwV 3 hts gX3_goRound_X3_endsRound rfl rfl rfl ddX3_endsRound ⟨Nat.le_trans (Nat.le_of_ble_eq_true rfl) hfr, Nat.le_trans (Nat.le_of_ble_eq_true rfl) hlo⟩) (va_recv E.1 hP (q := (RX3, TX3, 5)) (ci := 3) rfl (zO.get (oX3_at))) E hP hS hl.1 rfl rfl (Nat.le_of_ble_eq_true rfl) dX3_goRound_148) hS (fun H locs hP hS => ?_)
                refine lv_if_eq (tgt := 156) hx hb dX3_goRound_151 (by decide) (fun k37 => ?_) (fun k37 => ?_)
                · replace hf := zt k37 hf
                  obtain ⟨y38, ey38⟩ := zex (x11 + 1)
                  replace hf := zn_s ey38 hf
                  refine lv_iinc (v := y38) (lv' := [(9, .int y38), (5, .int y31), (7, .int y29), (0, .ref (ad 43)), (1, .int p1), (2, .int p2), (3, .int p3), (4, .int p4), (6, .int x8), (8, .int y24), (10, .int x18)]) hx hb dX3_goRound_156 hl (k := 9) rfl (by rw [ey38]; rfl) (by decide) rfl (fun ls hl => ?_)
                  refine lv_goto (tgt := 32) hx hb dX3_goRound_159 (by decide) ?_
                  exact hcl6 _ (Option.some.inj hf).symm _ _ _ hP hS (lv_sub hl [3, 4, 5, 6, 7, 1, 8, 2, 9, 0] rfl)
                · replace hf := zf k37 hf
                  refine lv_iconst (v := 1) hx hb dX3_goRound_154 (by decide) ?_
                  replace hf := hel6 _ (hdl6 _ (Option.some.inj hf).symm)
                  exact hret _ _ hf (Or.inr rfl) _ _ _ _ hP hS dX3_goRound_155
            · replace hf := zt k30 hf
              refine lv_iload hx hb dX3_goRound_115 (lv_at hl 0 rfl) ?_
              refine lv_iload_n hx hb dX3_goRound_117 rfl (lv_at hl 4 rfl) ?_
              refine lv_iadd hx hb dX3_goRound_118 ?_
              refine lv_topi (fun y39 ey39 => ?_)
              replace hf := zn_s ey39 hf
              refine lv_istore (lv' := [(6, .int y39), (7, .int y29), (0, .ref (ad 43)), (1, .int p1), (2, .int p2), (3, .int p3), (4, .int p4), (5, .int x7), (8, .int y24), (9, .int x11), (10, .int x18)]) hx hb dX3_goRound_119 hl (by decide) rfl (fun ls hl => ?_)
              refine lv_goto (tgt := 156) hx hb dX3_goRound_121 (by decide) ?_
              obtain ⟨y40, ey40⟩ := zex (x11 + 1)
              replace hf := zn_s ey40 hf
              refine lv_iinc (v := y40) (lv' := [(9, .int y40), (6, .int y39), (7, .int y29), (0, .ref (ad 43)), (1, .int p1), (2, .int p2), (3, .int p3), (4, .int p4), (5, .int x7), (8, .int y24), (10, .int x18)]) hx hb dX3_goRound_156 hl (k := 9) rfl (by rw [ey40]; rfl) (by decide) rfl (fun ls hl => ?_)
              refine lv_goto (tgt := 32) hx hb dX3_goRound_159 (by decide) ?_
              exact hcl6 _ (Option.some.inj hf).symm _ _ _ hP hS (lv_sub hl [3, 4, 5, 6, 7, 8, 1, 2, 9, 0] rfl)
          refine lv_if_eq (tgt := 105) hx hb dX3_goRound_98 (by decide) (fun k25 => ?_) (fun k25 => ?_)
          · replace hf := zt k25 hf
            refine lv_iload hx hb dX3_goRound_105 (lv_at hl 7 rfl) ?_
            exact hjr27 _ (Option.some.inj hf) _ _ _ hP hS (lv_sub hl [3, 4, 5, 6, 7, 8, 9, 0, 11, 12] rfl)
          · replace hf := zf k25 hf
            refine lv_iload_n hx hb dX3_goRound_101 rfl (lv_at hl 5 rfl) ?_
            refine lv_goto (tgt := 107) hx hb dX3_goRound_102 (by decide) ?_
            exact hjr27 _ (Option.some.inj hf) _ _ _ hP hS (lv_sub hl [3, 4, 5, 6, 7, 8, 9, 0, 11, 12] rfl)
        refine lv_if_eq (tgt := 71) hx hb dX3_goRound_63 (by decide) (fun k19 => ?_) (fun k19 => ?_)
        · replace hf := zt k19 hf
          refine lv_iload hx hb dX3_goRound_71 (lv_at hl 7 rfl) ?_
          exact hjr21 _ (Option.some.inj hf) _ _ _ hP hS (lv_sub hl [1, 2, 3, 4, 5, 6, 7, 8, 9, 10, 0] rfl)
        · replace hf := zf k19 hf
          refine lv_iload hx hb dX3_goRound_66 (lv_at hl 6 rfl) ?_
          refine lv_goto (tgt := 73) hx hb dX3_goRound_68 (by decide) ?_
          exact hjr21 _ (Option.some.inj hf) _ _ _ hP hS (lv_sub hl [1, 2, 3, 4, 5, 6, 7, 8, 9, 10, 0] rfl)
      refine lv_icmp_gt (tgt := 58) hx hb dX3_goRound_51 (by decide) (fun k15 => ?_) (fun k15 => ?_)
      · replace hf := zt k15 hf
        refine lv_iconst (v := 0) hx hb dX3_goRound_58 (by decide) ?_
        exact hjr17 _ (Option.some.inj hf) _ _ _ hP hS (lv_sub hl [0, 1, 2, 3, 4, 5, 6, 7, 8, 9] rfl)
      · replace hf := zf k15 hf
        refine lv_iconst (v := 1) hx hb dX3_goRound_54 (by decide) ?_
        refine lv_goto (tgt := 59) hx hb dX3_goRound_55 (by decide) ?_
        exact hjr17 _ (Option.some.inj hf) _ _ _ hP hS (lv_sub hl [0, 1, 2, 3, 4, 5, 6, 7, 8, 9] rfl)
theorem c_X3_goRound (l : Launch) {D : va_G} {a0 : Nat → Nat} {A : Nat → Prop} {cy : Nat → ClassId} {ad : Nat → Nat} (hD : zD A 74 ad) {I : zI} {J : zJ} (p1 : Int32) (p2 : Int32) (p3 : Int32) (p4 : Int32) {rx : Int32} {rI : zI} (hf : f_X3_goRound I J p1 p2 p3 p4 = some (rx, rI)) : Met l yX3_goRound wsX3_goRound { frames := 2, cells := 0, slots := 0, locals := 46 } (zPc D a0 A cy [.ref (ad 43), .int p1, .int p2, .int p3, .int p4] (zw 74 (kC cy ad a0) ad I J)) (zQi D A rx (zw 74 (kC cy ad a0) ad rI J)) 0 0 A :=
  zmet RX3 (by decide) rfl rfl (Nat.le_of_ble_eq_true rfl) (fun p e R s m below meth c Q hfr hlo ls S0 hQ => w_X3_goRound hfr hlo hD p1 p2 p3 p4 hf S0 (fun tx tI hq n01 H locs ls pc hP hS hd => by cases hq; exact hQ H locs _ hS (fun hx hb hr hlocks hfree => W.zret hx hb hr (z01 n01) (fun t ht hW => ⟨⟨_, (), rfl, rfl, zht ht hP⟩, hS.F ht⟩) hfree hd hlocks)))
theorem ddX3_goRound : yX3_goRound.cls = RX3 ∧ yX3_goRound.cls ≠ "java/lang/invoke/MethodHandle" ∧ yX3_goRound.cls ≠ "java/lang/invoke/VarHandle" ∧ (parseMethodDescriptor yX3_goRound.desc).map (fun d => d.parameters.length) = some 4 := by decide +kernel

def f_X3_told (I : zI) (J : zJ) (p1 : Int32) : Option Int32 := (if p1 = 0 then some (I 43 3) else (if p1 = 1 then some (I 43 4) else some (I 43 2)))
theorem hinX3_told_X3 : ∀ w ∈ u_ws RX3 TX3 5, w ∈ wsX3_told := by decide +kernel
set_option maxHeartbeats 4000000 in
set_option maxRecDepth 100000 in
theorem w_X3_told {p : Program} {l : Launch} {e : Env} {R : Room} {s : State} {m : MethodId} {args : Array Value} {below : List Frame} {meth : Method} {c : Code} {Q : State → Prop} (hfr : 0 ≤ R.frames) (hlo : 0 ≤ R.locals) {D : va_G} {a0 : Nat → Nat} {A : Nat → Prop} {cy : Nat → ClassId} {ad : Nat → Nat} (hD : zD A 74 ad) {I : zI} {J : zJ} (p1 : Int32) {rx : Int32} (hf : f_X3_told I J p1 = some rx) {ls : Array Slot} (S0 : zSt p m c cX3_told 2 s args wsX3_told RX3 D a0 A cy (zw 74 (kC cy ad a0) ad I J) [.ref (ad 43), .int p1] ls) (hret : ∀ (tx : Int32), some tx = some rx → ∀ (H : Heap) (locs : List Loc) (ls : Array Slot) (pc : Nat), va_P D vwCl (zw 74 (kC cy ad a0) ad I J) H → va_S A s.heap H locs → decode cX3_told pc = .ok (.ireturn, 1) → W p l e R s m args below meth c H locs 0 0 Q (F0 m pc ls [.int tx])) : W p l e R s m args below meth c s.heap [] 0 0 Q (F0 m 0 ls []) := by
  obtain ⟨S, E, hP, hl⟩ := S0
  obtain ⟨hx, hb, hml, hown, hts⟩ := id S
  have hS : va_S A s.heap s.heap [] := va_S.rf
  replace hl : lv_has ls 2 [(0, .ref (ad 43)), (1, .int p1)] := hl
  unfold f_X3_told at hf
  refine lv_iload_n hx hb dX3_told_0 rfl (lv_at hl 1 rfl) ?_
  refine lv_if_ne (tgt := 9) hx hb dX3_told_1 (by decide) (fun k1 => ?_) (fun k1 => ?_)
  · replace hf := zf k1 hf
    refine lv_iload_n hx hb dX3_told_9 rfl (lv_at hl 1 rfl) ?_
    refine lv_iconst (v := 1) hx hb dX3_told_10 (by decide) ?_
    refine lv_icmp_ne (tgt := 21) hx hb dX3_told_11 (by decide) (fun k2 => ?_) (fun k2 => ?_)
    · replace hf := zf k2 hf
      refine lv_aload_n hx hb dX3_told_21 rfl (lv_at hl 0 rfl) ?_
      refine va_get (D := D) (ci := 3) (v := .int (I 43 2)) (C := RX3) (T := TX3) (N := 5) hx hb hts hinX3_told_X3 hown E.1 hP 43 (zO.get (oX3_at)) rfl 2 (by decide) (hts (.fieldLink RX3 38 "EdgeAndSpeed$Lathes" "begin" "I") (by decide +kernel)) (fun _ h9 => h9) rfl dX3_told_22 ?_
      exact hret _ hf _ _ _ _ hP hS dX3_told_25
    · replace hf := zt k2 hf
      refine lv_aload_n hx hb dX3_told_14 rfl (lv_at hl 0 rfl) ?_
      refine va_get (D := D) (ci := 3) (v := .int (I 43 4)) (C := RX3) (T := TX3) (N := 5) hx hb hts hinX3_told_X3 hown E.1 hP 43 (zO.get (oX3_at)) rfl 4 (by decide) (hts (.fieldLink RX3 45 "EdgeAndSpeed$Lathes" "waits" "I") (by decide +kernel)) (fun _ h9 => h9) rfl dX3_told_15 ?_
      refine lv_goto (tgt := 25) hx hb dX3_told_18 (by decide) ?_
      exact hret _ hf _ _ _ _ hP hS dX3_told_25
  · replace hf := zt k1 hf
    refine lv_aload_n hx hb dX3_told_4 rfl (lv_at hl 0 rfl) ?_
    refine va_get (D := D) (ci := 3) (v := .int (I 43 3)) (C := RX3) (T := TX3) (N := 5) hx hb hts hinX3_told_X3 hown E.1 hP 43 (zO.get (oX3_at)) rfl 3 (by decide) (hts (.fieldLink RX3 42 "EdgeAndSpeed$Lathes" "minutes" "I") (by decide +kernel)) (fun _ h9 => h9) rfl dX3_told_5 ?_
    exact hret _ hf _ _ _ _ hP hS dX3_told_8
theorem c_X3_told (l : Launch) {D : va_G} {a0 : Nat → Nat} {A : Nat → Prop} {cy : Nat → ClassId} {ad : Nat → Nat} (hD : zD A 74 ad) {I : zI} {J : zJ} (p1 : Int32) {rx : Int32} (hf : f_X3_told I J p1 = some rx) : Met l yX3_told wsX3_told { frames := 0, cells := 0, slots := 0, locals := 0 } (zPc D a0 A cy [.ref (ad 43), .int p1] (zw 74 (kC cy ad a0) ad I J)) (zQi D A rx (zw 74 (kC cy ad a0) ad I J)) 0 0 A :=
  zmet RX3 (by decide) rfl rfl (Nat.le_of_ble_eq_true rfl) (fun p e R s m below meth c Q hfr hlo ls S0 hQ => w_X3_told hfr hlo hD p1 hf S0 (fun tx hq H locs ls pc hP hS hd => by cases hq; exact hQ H locs _ hS (fun hx hb hr hlocks hfree => W.iret hx hb hr (fun t ht hW => ⟨⟨_, (), rfl, rfl, zht ht hP⟩, hS.F ht⟩) hfree hd hlocks)))
theorem ddX3_told : yX3_told.cls = RX3 ∧ yX3_told.cls ≠ "java/lang/invoke/MethodHandle" ∧ yX3_told.cls ≠ "java/lang/invoke/VarHandle" ∧ (parseMethodDescriptor yX3_told.desc).map (fun d => d.parameters.length) = some 1 := by decide +kernel

def f_X11_two (I : zI) (J : zJ) (p1 : Int32) (p2 : Int32) (p3 : Int32) (p4 : Int32) (p5 : Int32) : Option (Int32 × zI) := zb1 (f_X11_within I J p1 1 99) (fun x1 => (if x1 = 0 then some ((-1), I) else zb1 (f_X11_within I J p2 1 30) (fun x4 => (if x4 = 0 then some ((-1), I) else zb1 (f_X11_within I J p3 1 99) (fun x7 => (if x7 = 0 then some ((-1), I) else zb1 (f_X11_within I J p4 1 30) (fun x10 => (if x10 = 0 then some ((-1), I) else zb1 (f_X11_within I J p5 0 2) (fun x13 => (if x13 = 0 then some ((-1), I) else zb2 (f_X3_goRound I J p1 p2 p3 p4) (fun x16 I17 => (if x16 = 0 then some ((-4), I17) else zb1 (f_X3_told I17 J p5) (fun x20 => some (x20, I17))))))))))))))
theorem hinX11_two_X11 : ∀ w ∈ u_ws RX11 TX11 12, w ∈ wsX11_two := by decide +kernel
set_option maxHeartbeats 4000000 in
set_option maxRecDepth 100000 in
theorem w_X11_two {p : Program} {l : Launch} {e : Env} {R : Room} {s : State} {m : MethodId} {args : Array Value} {below : List Frame} {meth : Method} {c : Code} {Q : State → Prop} (hfr : 3 ≤ R.frames) (hlo : 78 ≤ R.locals) {D : va_G} {a0 : Nat → Nat} {A : Nat → Prop} {cy : Nat → ClassId} {ad : Nat → Nat} (hD : zD A 74 ad) {I : zI} {J : zJ} (p1 : Int32) (p2 : Int32) (p3 : Int32) (p4 : Int32) (p5 : Int32) {rx : Int32} {rI : zI} (hf : f_X11_two I J p1 p2 p3 p4 p5 = some (rx, rI)) {ls : Array Slot} (S0 : zSt p m c cX11_two 6 s args wsX11_two RX11 D a0 A cy (zw 74 (kC cy ad a0) ad I J) [.ref (ad 0), .int p1, .int p2, .int p3, .int p4, .int p5] ls) (hret : ∀ (tx : Int32) (tI : zI), some (tx, tI) = some (rx, rI) → ∀ (H : Heap) (locs : List Loc) (ls : Array Slot) (pc : Nat), va_P D vwCl (zw 74 (kC cy ad a0) ad tI J) H → va_S A s.heap H locs → decode cX11_two pc = .ok (.ireturn, 1) → W p l e R s m args below meth c H locs 0 0 Q (F0 m pc ls [.int tx])) : W p l e R s m args below meth c s.heap [] 0 0 Q (F0 m 0 ls []) := by
  obtain ⟨S, E, hP, hl⟩ := S0
  obtain ⟨hx, hb, hml, hown, hts⟩ := id S
  have hS : va_S A s.heap s.heap [] := va_S.rf
  replace hl : lv_has ls 6 [(0, .ref (ad 0)), (1, .int p1), (2, .int p2), (3, .int p3), (4, .int p4), (5, .int p5)] := hl
  unfold f_X11_two at hf
  refine lv_iload_n hx hb dX11_two_0 rfl (lv_at hl 1 rfl) ?_
  refine lv_iconst (v := 1) hx hb dX11_two_1 (by decide) ?_
  refine lv_bipush (v := 99) hx hb dX11_two_2 (by decide) ?_
  obtain ⟨x1, h2, hf⟩ := zb1_e hf
  refine zgo_i (zrunS (As := [.int p1, .int 1, .int 99]) (rest := []) S (c_X11_within l hD p1 1 99 h2) (va_cwS 3 hts gX11_two_X11_within rfl rfl rfl ddX11_within ⟨Nat.le_trans (Nat.le_of_ble_eq_true rfl) hfr, Nat.le_trans (Nat.le_of_ble_eq_true rfl) hlo⟩) E hP hS hl.1 rfl rfl (Nat.le_of_ble_eq_true rfl) dX11_two_4) hS (fun H locs hP hS => ?_)
  refine lv_if_eq (tgt := 41) hx hb dX11_two_7 (by decide) (fun k3 => ?_) (fun k3 => ?_)
  · replace hf := zt k3 hf
    refine lv_iconst (v := (-1)) hx hb dX11_two_41 (by decide) ?_
    exact hret _ _ hf _ _ _ _ hP hS dX11_two_42
  · replace hf := zf k3 hf
    refine lv_iload_n hx hb dX11_two_10 rfl (lv_at hl 2 rfl) ?_
    refine lv_iconst (v := 1) hx hb dX11_two_11 (by decide) ?_
    refine lv_bipush (v := 30) hx hb dX11_two_12 (by decide) ?_
    obtain ⟨x4, h5, hf⟩ := zb1_e hf
    refine zgo_i (zrunS (As := [.int p2, .int 1, .int 30]) (rest := []) S (c_X11_within l hD p2 1 30 h5) (va_cwS 3 hts gX11_two_X11_within rfl rfl rfl ddX11_within ⟨Nat.le_trans (Nat.le_of_ble_eq_true rfl) hfr, Nat.le_trans (Nat.le_of_ble_eq_true rfl) hlo⟩) E hP hS hl.1 rfl rfl (Nat.le_of_ble_eq_true rfl) dX11_two_14) hS (fun H locs hP hS => ?_)
    refine lv_if_eq (tgt := 41) hx hb dX11_two_17 (by decide) (fun k6 => ?_) (fun k6 => ?_)
    · replace hf := zt k6 hf
      refine lv_iconst (v := (-1)) hx hb dX11_two_41 (by decide) ?_
      exact hret _ _ hf _ _ _ _ hP hS dX11_two_42
    · replace hf := zf k6 hf
      refine lv_iload_n hx hb dX11_two_20 rfl (lv_at hl 3 rfl) ?_
      refine lv_iconst (v := 1) hx hb dX11_two_21 (by decide) ?_
      refine lv_bipush (v := 99) hx hb dX11_two_22 (by decide) ?_
      obtain ⟨x7, h8, hf⟩ := zb1_e hf
      refine zgo_i (zrunS (As := [.int p3, .int 1, .int 99]) (rest := []) S (c_X11_within l hD p3 1 99 h8) (va_cwS 3 hts gX11_two_X11_within rfl rfl rfl ddX11_within ⟨Nat.le_trans (Nat.le_of_ble_eq_true rfl) hfr, Nat.le_trans (Nat.le_of_ble_eq_true rfl) hlo⟩) E hP hS hl.1 rfl rfl (Nat.le_of_ble_eq_true rfl) dX11_two_24) hS (fun H locs hP hS => ?_)
      refine lv_if_eq (tgt := 41) hx hb dX11_two_27 (by decide) (fun k9 => ?_) (fun k9 => ?_)
      · replace hf := zt k9 hf
        refine lv_iconst (v := (-1)) hx hb dX11_two_41 (by decide) ?_
        exact hret _ _ hf _ _ _ _ hP hS dX11_two_42
      · replace hf := zf k9 hf
        refine lv_iload hx hb dX11_two_30 (lv_at hl 4 rfl) ?_
        refine lv_iconst (v := 1) hx hb dX11_two_32 (by decide) ?_
        refine lv_bipush (v := 30) hx hb dX11_two_33 (by decide) ?_
        obtain ⟨x10, h11, hf⟩ := zb1_e hf
        refine zgo_i (zrunS (As := [.int p4, .int 1, .int 30]) (rest := []) S (c_X11_within l hD p4 1 30 h11) (va_cwS 3 hts gX11_two_X11_within rfl rfl rfl ddX11_within ⟨Nat.le_trans (Nat.le_of_ble_eq_true rfl) hfr, Nat.le_trans (Nat.le_of_ble_eq_true rfl) hlo⟩) E hP hS hl.1 rfl rfl (Nat.le_of_ble_eq_true rfl) dX11_two_35) hS (fun H locs hP hS => ?_)
        refine lv_if_ne (tgt := 43) hx hb dX11_two_38 (by decide) (fun k12 => ?_) (fun k12 => ?_)
        · replace hf := zf k12 hf
          refine lv_iload hx hb dX11_two_43 (lv_at hl 5 rfl) ?_
          refine lv_iconst (v := 0) hx hb dX11_two_45 (by decide) ?_
          refine lv_iconst (v := 2) hx hb dX11_two_46 (by decide) ?_
          obtain ⟨x13, h14, hf⟩ := zb1_e hf
          refine zgo_i (zrunS (As := [.int p5, .int 0, .int 2]) (rest := []) S (c_X11_within l hD p5 0 2 h14) (va_cwS 3 hts gX11_two_X11_within rfl rfl rfl ddX11_within ⟨Nat.le_trans (Nat.le_of_ble_eq_true rfl) hfr, Nat.le_trans (Nat.le_of_ble_eq_true rfl) hlo⟩) E hP hS hl.1 rfl rfl (Nat.le_of_ble_eq_true rfl) dX11_two_47) hS (fun H locs hP hS => ?_)
          refine lv_if_ne (tgt := 55) hx hb dX11_two_50 (by decide) (fun k15 => ?_) (fun k15 => ?_)
          · replace hf := zf k15 hf
            refine lv_aload_n hx hb dX11_two_55 rfl (lv_at hl 0 rfl) ?_
            refine va_get (D := D) (ci := 10) (v := .ref (ad 43)) (C := RX11) (T := TX11) (N := 12) hx hb hts hinX11_two_X11 hown E.1 hP 0 (zO.get (oX11_at)) rfl 10 (by decide) (hts (.fieldLink RX11 40 "EdgeAndSpeed" "lathes" "LEdgeAndSpeed$Lathes;") (by decide +kernel)) (fun _ h9 => h9) rfl dX11_two_56 ?_
            refine lv_iload_n hx hb dX11_two_59 rfl (lv_at hl 1 rfl) ?_
            refine lv_iload_n hx hb dX11_two_60 rfl (lv_at hl 2 rfl) ?_
            refine lv_iload_n hx hb dX11_two_61 rfl (lv_at hl 3 rfl) ?_
            refine lv_iload hx hb dX11_two_62 (lv_at hl 4 rfl) ?_
            obtain ⟨x16, I17, h18, hf⟩ := zb2_e hf
            refine zgo_i (zrunV (As := [.int p1, .int p2, .int p3, .int p4]) (rest := []) S (c_X3_goRound l hD p1 p2 p3 p4 h18) (cwV 4 hts gX11_two_X3_goRound rfl rfl rfl ddX3_goRound ⟨Nat.le_trans (Nat.le_of_ble_eq_true rfl) hfr, Nat.le_trans (Nat.le_of_ble_eq_true rfl) hlo⟩) (va_recv E.1 hP (q := (RX3, TX3, 5)) (ci := 3) rfl (zO.get (oX3_at))) E hP hS hl.1 rfl rfl (Nat.le_of_ble_eq_true rfl) dX11_two_64) hS (fun H locs hP hS => ?_)
            refine lv_if_eq (tgt := 82) hx hb dX11_two_67 (by decide) (fun k19 => ?_) (fun k19 => ?_)
            · replace hf := zt k19 hf
              refine lv_bipush (v := (-4)) hx hb dX11_two_82 (by decide) ?_
              exact hret _ _ hf _ _ _ _ hP hS dX11_two_84
            · replace hf := zf k19 hf
              refine lv_aload_n hx hb dX11_two_70 rfl (lv_at hl 0 rfl) ?_
              refine va_get (D := D) (ci := 10) (v := .ref (ad 43)) (C := RX11) (T := TX11) (N := 12) hx hb hts hinX11_two_X11 hown E.1 hP 0 (zO.get (oX11_at)) rfl 10 (by decide) (hts (.fieldLink RX11 40 "EdgeAndSpeed" "lathes" "LEdgeAndSpeed$Lathes;") (by decide +kernel)) (fun _ h9 => h9) rfl dX11_two_71 ?_
              refine lv_iload hx hb dX11_two_74 (lv_at hl 5 rfl) ?_
              obtain ⟨x20, h21, hf⟩ := zb1_e hf
              refine zgo_i (zrunV (As := [.int p5]) (rest := []) S (c_X3_told l hD p5 h21) (cwV 1 hts gX11_two_X3_told rfl rfl rfl ddX3_told ⟨Nat.le_trans (Nat.le_of_ble_eq_true rfl) hfr, Nat.le_trans (Nat.le_of_ble_eq_true rfl) hlo⟩) (va_recv E.1 hP (q := (RX3, TX3, 5)) (ci := 3) rfl (zO.get (oX3_at))) E hP hS hl.1 rfl rfl (Nat.le_of_ble_eq_true rfl) dX11_two_76) hS (fun H locs hP hS => ?_)
              refine lv_goto (tgt := 84) hx hb dX11_two_79 (by decide) ?_
              exact hret _ _ hf _ _ _ _ hP hS dX11_two_84
          · replace hf := zt k15 hf
            refine lv_iconst (v := (-1)) hx hb dX11_two_53 (by decide) ?_
            exact hret _ _ hf _ _ _ _ hP hS dX11_two_54
        · replace hf := zt k12 hf
          refine lv_iconst (v := (-1)) hx hb dX11_two_41 (by decide) ?_
          exact hret _ _ hf _ _ _ _ hP hS dX11_two_42
theorem c_X11_two (l : Launch) {D : va_G} {a0 : Nat → Nat} {A : Nat → Prop} {cy : Nat → ClassId} {ad : Nat → Nat} (hD : zD A 74 ad) {I : zI} {J : zJ} (p1 : Int32) (p2 : Int32) (p3 : Int32) (p4 : Int32) (p5 : Int32) {rx : Int32} {rI : zI} (hf : f_X11_two I J p1 p2 p3 p4 p5 = some (rx, rI)) : Met l yX11_two wsX11_two { frames := 3, cells := 0, slots := 0, locals := 78 } (zPc D a0 A cy [.ref (ad 0), .int p1, .int p2, .int p3, .int p4, .int p5] (zw 74 (kC cy ad a0) ad I J)) (zQi D A rx (zw 74 (kC cy ad a0) ad rI J)) 0 0 A :=
  zmet RX11 (by decide) rfl rfl (Nat.le_of_ble_eq_true rfl) (fun p e R s m below meth c Q hfr hlo ls S0 hQ => w_X11_two hfr hlo hD p1 p2 p3 p4 p5 hf S0 (fun tx tI hq H locs ls pc hP hS hd => by cases hq; exact hQ H locs _ hS (fun hx hb hr hlocks hfree => W.iret hx hb hr (fun t ht hW => ⟨⟨_, (), rfl, rfl, zht ht hP⟩, hS.F ht⟩) hfree hd hlocks)))
theorem ddX11_two : yX11_two.cls = RX11 ∧ yX11_two.cls ≠ "java/lang/invoke/MethodHandle" ∧ yX11_two.cls ≠ "java/lang/invoke/VarHandle" ∧ (parseMethodDescriptor yX11_two.desc).map (fun d => d.parameters.length) = some 5 := by decide +kernel

def f_X7_mayBe (I : zI) (J : zJ) (p1 : Int32) (p2 : Int32) : Option Int32 := zb1 (f_X0_stepsOf I J 4 p1) (fun x1 => zb1 (f_X0_mayCut I J 4 p2 x1) (fun x3 => zg (x3 = 0 ∨ x3 = 1) (some x3)))
theorem hinX7_mayBe_X7 : ∀ w ∈ u_ws RX7 TX7 1, w ∈ wsX7_mayBe := by decide +kernel
set_option maxHeartbeats 4000000 in
set_option maxRecDepth 100000 in
theorem w_X7_mayBe {p : Program} {l : Launch} {e : Env} {R : Room} {s : State} {m : MethodId} {args : Array Value} {below : List Frame} {meth : Method} {c : Code} {Q : State → Prop} (hfr : 2 ≤ R.frames) (hlo : 43 ≤ R.locals) {D : va_G} {a0 : Nat → Nat} {A : Nat → Prop} {cy : Nat → ClassId} {ad : Nat → Nat} (hD : zD A 74 ad) {I : zI} {J : zJ} (p1 : Int32) (p2 : Int32) {rx : Int32} (hf : f_X7_mayBe I J p1 p2 = some rx) {ls : Array Slot} (S0 : zSt p m c cX7_mayBe 3 s args wsX7_mayBe RX7 D a0 A cy (zw 74 (kC cy ad a0) ad I J) [.ref (ad 46), .int p1, .int p2] ls) (hret : ∀ (tx : Int32), some tx = some rx → (tx = 0 ∨ tx = 1) → ∀ (H : Heap) (locs : List Loc) (ls : Array Slot) (pc : Nat), va_P D vwCl (zw 74 (kC cy ad a0) ad I J) H → va_S A s.heap H locs → decode cX7_mayBe pc = .ok (.ireturn, 1) → W p l e R s m args below meth c H locs 0 0 Q (F0 m pc ls [.int tx])) : W p l e R s m args below meth c s.heap [] 0 0 Q (F0 m 0 ls []) := by
  obtain ⟨S, E, hP, hl⟩ := S0
  obtain ⟨hx, hb, hml, hown, hts⟩ := id S
  have hS : va_S A s.heap s.heap [] := va_S.rf
  replace hl : lv_has ls 3 [(0, .ref (ad 46)), (1, .int p1), (2, .int p2)] := hl
  unfold f_X7_mayBe at hf
  refine lv_aload_n hx hb dX7_mayBe_0 rfl (lv_at hl 0 rfl) ?_
  refine va_get (D := D) (ci := 6) (v := .ref (ad 4)) (C := RX7) (T := TX7) (N := 1) hx hb hts hinX7_mayBe_X7 hown E.1 hP 46 (zO.get (oX7_at)) rfl 0 (by decide) (hts (.fieldLink RX7 9 "EdgeAndSpeed$Shop" "bench" "LEdgeAndSpeed$Bench;") (by decide +kernel)) (fun _ h9 => h9) rfl dX7_mayBe_1 ?_
  refine lv_iload_n hx hb dX7_mayBe_4 rfl (lv_at hl 2 rfl) ?_
  refine lv_aload_n hx hb dX7_mayBe_5 rfl (lv_at hl 0 rfl) ?_
  refine va_get (D := D) (ci := 6) (v := .ref (ad 4)) (C := RX7) (T := TX7) (N := 1) hx hb hts hinX7_mayBe_X7 hown E.1 hP 46 (zO.get (oX7_at)) rfl 0 (by decide) (hts (.fieldLink RX7 9 "EdgeAndSpeed$Shop" "bench" "LEdgeAndSpeed$Bench;") (by decide +kernel)) (fun _ h9 => h9) rfl dX7_mayBe_6 ?_
  refine lv_iload_n hx hb dX7_mayBe_9 rfl (lv_at hl 1 rfl) ?_
  obtain ⟨x1, h2, hf⟩ := zb1_e hf
  refine zgo_i (zrunV (As := [.int p1]) (rest := [.int p2, .ref (ad 4)]) S (c_X0_stepsOf l hD 4 (zBat_C (by decide)) p1 h2) (cwV 1 hts gX7_mayBe_X0_stepsOf rfl rfl rfl ddX0_stepsOf ⟨Nat.le_trans (Nat.le_of_ble_eq_true rfl) hfr, Nat.le_trans (Nat.le_of_ble_eq_true rfl) hlo⟩) (va_recv E.1 hP (q := (RX0, TX0, 17)) (ci := 0) rfl (zO.get (zBat_o (zBat_C (by decide))))) E hP hS hl.1 rfl rfl (Nat.le_of_ble_eq_true rfl) dX7_mayBe_10) hS (fun H locs hP hS => ?_)
  obtain ⟨x3, h4, hf⟩ := zb1_e hf
  refine zgo_i (zrunV (As := [.int p2, .int x1]) (rest := []) S (c_X0_mayCut l hD 4 (zBat_C (by decide)) p2 x1 h4) (cwV 2 hts gX7_mayBe_X0_mayCut rfl rfl rfl ddX0_mayCut ⟨Nat.le_trans (Nat.le_of_ble_eq_true rfl) hfr, Nat.le_trans (Nat.le_of_ble_eq_true rfl) hlo⟩) (va_recv E.1 hP (q := (RX0, TX0, 17)) (ci := 0) rfl (zO.get (zBat_o (zBat_C (by decide))))) E hP hS hl.1 rfl rfl (Nat.le_of_ble_eq_true rfl) dX7_mayBe_13) hS (fun H locs hP hS => ?_)
  obtain ⟨g0, hf⟩ := zg_i hf
  exact hret _ hf g0 _ _ _ _ hP hS dX7_mayBe_16
theorem c_X7_mayBe (l : Launch) {D : va_G} {a0 : Nat → Nat} {A : Nat → Prop} {cy : Nat → ClassId} {ad : Nat → Nat} (hD : zD A 74 ad) {I : zI} {J : zJ} (p1 : Int32) (p2 : Int32) {rx : Int32} (hf : f_X7_mayBe I J p1 p2 = some rx) : Met l yX7_mayBe wsX7_mayBe { frames := 2, cells := 0, slots := 0, locals := 43 } (zPc D a0 A cy [.ref (ad 46), .int p1, .int p2] (zw 74 (kC cy ad a0) ad I J)) (zQi D A rx (zw 74 (kC cy ad a0) ad I J)) 0 0 A :=
  zmet RX7 (by decide) rfl rfl (Nat.le_of_ble_eq_true rfl) (fun p e R s m below meth c Q hfr hlo ls S0 hQ => w_X7_mayBe hfr hlo hD p1 p2 hf S0 (fun tx hq n01 H locs ls pc hP hS hd => by cases hq; exact hQ H locs _ hS (fun hx hb hr hlocks hfree => W.zret hx hb hr (z01 n01) (fun t ht hW => ⟨⟨_, (), rfl, rfl, zht ht hP⟩, hS.F ht⟩) hfree hd hlocks)))
theorem ddX7_mayBe : yX7_mayBe.cls = RX7 ∧ yX7_mayBe.cls ≠ "java/lang/invoke/MethodHandle" ∧ yX7_mayBe.cls ≠ "java/lang/invoke/VarHandle" ∧ (parseMethodDescriptor yX7_mayBe.desc).map (fun d => d.parameters.length) = some 2 := by decide +kernel

def f_X7_wearsOf (I : zI) (J : zJ) (p1 : Int32) (p2 : Int32) : Option Int32 := zb1 (f_X0_stepsOf I J 4 p1) (fun x1 => zb1 (f_X0_wears I J 4 p1 p2 x1 0) (fun x3 => some x3))
theorem hinX7_wearsOf_X7 : ∀ w ∈ u_ws RX7 TX7 1, w ∈ wsX7_wearsOf := by decide +kernel
set_option maxHeartbeats 4000000 in
set_option maxRecDepth 100000 in
theorem w_X7_wearsOf {p : Program} {l : Launch} {e : Env} {R : Room} {s : State} {m : MethodId} {args : Array Value} {below : List Frame} {meth : Method} {c : Code} {Q : State → Prop} (hfr : 2 ≤ R.frames) (hlo : 45 ≤ R.locals) {D : va_G} {a0 : Nat → Nat} {A : Nat → Prop} {cy : Nat → ClassId} {ad : Nat → Nat} (hD : zD A 74 ad) {I : zI} {J : zJ} (p1 : Int32) (p2 : Int32) {rx : Int32} (hf : f_X7_wearsOf I J p1 p2 = some rx) {ls : Array Slot} (S0 : zSt p m c cX7_wearsOf 3 s args wsX7_wearsOf RX7 D a0 A cy (zw 74 (kC cy ad a0) ad I J) [.ref (ad 46), .int p1, .int p2] ls) (hret : ∀ (tx : Int32), some tx = some rx → ∀ (H : Heap) (locs : List Loc) (ls : Array Slot) (pc : Nat), va_P D vwCl (zw 74 (kC cy ad a0) ad I J) H → va_S A s.heap H locs → decode cX7_wearsOf pc = .ok (.ireturn, 1) → W p l e R s m args below meth c H locs 0 0 Q (F0 m pc ls [.int tx])) : W p l e R s m args below meth c s.heap [] 0 0 Q (F0 m 0 ls []) := by
  obtain ⟨S, E, hP, hl⟩ := S0
  obtain ⟨hx, hb, hml, hown, hts⟩ := id S
  have hS : va_S A s.heap s.heap [] := va_S.rf
  replace hl : lv_has ls 3 [(0, .ref (ad 46)), (1, .int p1), (2, .int p2)] := hl
  unfold f_X7_wearsOf at hf
  refine lv_aload_n hx hb dX7_wearsOf_0 rfl (lv_at hl 0 rfl) ?_
  refine va_get (D := D) (ci := 6) (v := .ref (ad 4)) (C := RX7) (T := TX7) (N := 1) hx hb hts hinX7_wearsOf_X7 hown E.1 hP 46 (zO.get (oX7_at)) rfl 0 (by decide) (hts (.fieldLink RX7 9 "EdgeAndSpeed$Shop" "bench" "LEdgeAndSpeed$Bench;") (by decide +kernel)) (fun _ h9 => h9) rfl dX7_wearsOf_1 ?_
  refine lv_iload_n hx hb dX7_wearsOf_4 rfl (lv_at hl 1 rfl) ?_
  refine lv_iload_n hx hb dX7_wearsOf_5 rfl (lv_at hl 2 rfl) ?_
  refine lv_aload_n hx hb dX7_wearsOf_6 rfl (lv_at hl 0 rfl) ?_
  refine va_get (D := D) (ci := 6) (v := .ref (ad 4)) (C := RX7) (T := TX7) (N := 1) hx hb hts hinX7_wearsOf_X7 hown E.1 hP 46 (zO.get (oX7_at)) rfl 0 (by decide) (hts (.fieldLink RX7 9 "EdgeAndSpeed$Shop" "bench" "LEdgeAndSpeed$Bench;") (by decide +kernel)) (fun _ h9 => h9) rfl dX7_wearsOf_7 ?_
  refine lv_iload_n hx hb dX7_wearsOf_10 rfl (lv_at hl 1 rfl) ?_
  obtain ⟨x1, h2, hf⟩ := zb1_e hf
  refine zgo_i (zrunV (As := [.int p1]) (rest := [.int p2, .int p1, .ref (ad 4)]) S (c_X0_stepsOf l hD 4 (zBat_C (by decide)) p1 h2) (cwV 1 hts gX7_wearsOf_X0_stepsOf rfl rfl rfl ddX0_stepsOf ⟨Nat.le_trans (Nat.le_of_ble_eq_true rfl) hfr, Nat.le_trans (Nat.le_of_ble_eq_true rfl) hlo⟩) (va_recv E.1 hP (q := (RX0, TX0, 17)) (ci := 0) rfl (zO.get (zBat_o (zBat_C (by decide))))) E hP hS hl.1 rfl rfl (Nat.le_of_ble_eq_true rfl) dX7_wearsOf_11) hS (fun H locs hP hS => ?_)
  refine lv_iconst (v := 0) hx hb dX7_wearsOf_14 (by decide) ?_
  obtain ⟨x3, h4, hf⟩ := zb1_e hf
  refine zgo_i (zrunV (As := [.int p1, .int p2, .int x1, .int 0]) (rest := []) S (c_X0_wears l hD 4 (zBat_C (by decide)) p1 p2 x1 0 h4) (cwV 4 hts gX7_wearsOf_X0_wears rfl rfl rfl ddX0_wears ⟨Nat.le_trans (Nat.le_of_ble_eq_true rfl) hfr, Nat.le_trans (Nat.le_of_ble_eq_true rfl) hlo⟩) (va_recv E.1 hP (q := (RX0, TX0, 17)) (ci := 0) rfl (zO.get (zBat_o (zBat_C (by decide))))) E hP hS hl.1 rfl rfl (Nat.le_of_ble_eq_true rfl) dX7_wearsOf_15) hS (fun H locs hP hS => ?_)
  exact hret _ hf _ _ _ _ hP hS dX7_wearsOf_18
theorem c_X7_wearsOf (l : Launch) {D : va_G} {a0 : Nat → Nat} {A : Nat → Prop} {cy : Nat → ClassId} {ad : Nat → Nat} (hD : zD A 74 ad) {I : zI} {J : zJ} (p1 : Int32) (p2 : Int32) {rx : Int32} (hf : f_X7_wearsOf I J p1 p2 = some rx) : Met l yX7_wearsOf wsX7_wearsOf { frames := 2, cells := 0, slots := 0, locals := 45 } (zPc D a0 A cy [.ref (ad 46), .int p1, .int p2] (zw 74 (kC cy ad a0) ad I J)) (zQi D A rx (zw 74 (kC cy ad a0) ad I J)) 0 0 A :=
  zmet RX7 (by decide) rfl rfl (Nat.le_of_ble_eq_true rfl) (fun p e R s m below meth c Q hfr hlo ls S0 hQ => w_X7_wearsOf hfr hlo hD p1 p2 hf S0 (fun tx hq H locs ls pc hP hS hd => by cases hq; exact hQ H locs _ hS (fun hx hb hr hlocks hfree => W.iret hx hb hr (fun t ht hW => ⟨⟨_, (), rfl, rfl, zht ht hP⟩, hS.F ht⟩) hfree hd hlocks)))
theorem ddX7_wearsOf : yX7_wearsOf.cls = RX7 ∧ yX7_wearsOf.cls ≠ "java/lang/invoke/MethodHandle" ∧ yX7_wearsOf.cls ≠ "java/lang/invoke/VarHandle" ∧ (parseMethodDescriptor yX7_wearsOf.desc).map (fun d => d.parameters.length) = some 2 := by decide +kernel

def f_X7_timeOf (I : zI) (J : zJ) (p1 : Int32) (p2 : Int32) : Option Int32 := zb1 (f_X0_minutes I J 4 p1 p2) (fun x1 => zb1 (f_X7_wearsOf I J p1 p2) (fun x3 => some (x1 + (x3 * (I 4 12)))))
theorem hinX7_timeOf_X7 : ∀ w ∈ u_ws RX7 TX7 1, w ∈ wsX7_timeOf := by decide +kernel
theorem hinX7_timeOf_X0 : ∀ w ∈ u_ws RX0 TX0 17, w ∈ wsX7_timeOf := by decide +kernel
set_option maxHeartbeats 4000000 in
set_option maxRecDepth 100000 in
theorem w_X7_timeOf {p : Program} {l : Launch} {e : Env} {R : Room} {s : State} {m : MethodId} {args : Array Value} {below : List Frame} {meth : Method} {c : Code} {Q : State → Prop} (hfr : 3 ≤ R.frames) (hlo : 67 ≤ R.locals) {D : va_G} {a0 : Nat → Nat} {A : Nat → Prop} {cy : Nat → ClassId} {ad : Nat → Nat} (hD : zD A 74 ad) {I : zI} {J : zJ} (p1 : Int32) (p2 : Int32) {rx : Int32} (hf : f_X7_timeOf I J p1 p2 = some rx) {ls : Array Slot} (S0 : zSt p m c cX7_timeOf 3 s args wsX7_timeOf RX7 D a0 A cy (zw 74 (kC cy ad a0) ad I J) [.ref (ad 46), .int p1, .int p2] ls) (hret : ∀ (tx : Int32), some tx = some rx → ∀ (H : Heap) (locs : List Loc) (ls : Array Slot) (pc : Nat), va_P D vwCl (zw 74 (kC cy ad a0) ad I J) H → va_S A s.heap H locs → decode cX7_timeOf pc = .ok (.ireturn, 1) → W p l e R s m args below meth c H locs 0 0 Q (F0 m pc ls [.int tx])) : W p l e R s m args below meth c s.heap [] 0 0 Q (F0 m 0 ls []) := by
  obtain ⟨S, E, hP, hl⟩ := S0
  obtain ⟨hx, hb, hml, hown, hts⟩ := id S
  have hS : va_S A s.heap s.heap [] := va_S.rf
  replace hl : lv_has ls 3 [(0, .ref (ad 46)), (1, .int p1), (2, .int p2)] := hl
  unfold f_X7_timeOf at hf
  refine lv_aload_n hx hb dX7_timeOf_0 rfl (lv_at hl 0 rfl) ?_
  refine va_get (D := D) (ci := 6) (v := .ref (ad 4)) (C := RX7) (T := TX7) (N := 1) hx hb hts hinX7_timeOf_X7 hown E.1 hP 46 (zO.get (oX7_at)) rfl 0 (by decide) (hts (.fieldLink RX7 9 "EdgeAndSpeed$Shop" "bench" "LEdgeAndSpeed$Bench;") (by decide +kernel)) (fun _ h9 => h9) rfl dX7_timeOf_1 ?_
  refine lv_iload_n hx hb dX7_timeOf_4 rfl (lv_at hl 1 rfl) ?_
  refine lv_iload_n hx hb dX7_timeOf_5 rfl (lv_at hl 2 rfl) ?_
  obtain ⟨x1, h2, hf⟩ := zb1_e hf
  refine zgo_i (zrunV (As := [.int p1, .int p2]) (rest := []) S (c_X0_minutes l hD 4 (zBat_C (by decide)) p1 p2 h2) (cwV 2 hts gX7_timeOf_X0_minutes rfl rfl rfl ddX0_minutes ⟨Nat.le_trans (Nat.le_of_ble_eq_true rfl) hfr, Nat.le_trans (Nat.le_of_ble_eq_true rfl) hlo⟩) (va_recv E.1 hP (q := (RX0, TX0, 17)) (ci := 0) rfl (zO.get (zBat_o (zBat_C (by decide))))) E hP hS hl.1 rfl rfl (Nat.le_of_ble_eq_true rfl) dX7_timeOf_6) hS (fun H locs hP hS => ?_)
  refine lv_aload_n hx hb dX7_timeOf_9 rfl (lv_at hl 0 rfl) ?_
  refine lv_iload_n hx hb dX7_timeOf_10 rfl (lv_at hl 1 rfl) ?_
  refine lv_iload_n hx hb dX7_timeOf_11 rfl (lv_at hl 2 rfl) ?_
  obtain ⟨x3, h4, hf⟩ := zb1_e hf
  refine zgo_i (zrunV (As := [.int p1, .int p2]) (rest := [.int x1]) S (c_X7_wearsOf l hD p1 p2 h4) (cwV 2 hts gX7_timeOf_X7_wearsOf rfl rfl rfl ddX7_wearsOf ⟨Nat.le_trans (Nat.le_of_ble_eq_true rfl) hfr, Nat.le_trans (Nat.le_of_ble_eq_true rfl) hlo⟩) (va_recv E.1 hP (q := (RX7, TX7, 1)) (ci := 6) rfl (zO.get (oX7_at))) E hP hS hl.1 rfl rfl (Nat.le_of_ble_eq_true rfl) dX7_timeOf_12) hS (fun H locs hP hS => ?_)
  refine lv_aload_n hx hb dX7_timeOf_15 rfl (lv_at hl 0 rfl) ?_
  refine va_get (D := D) (ci := 6) (v := .ref (ad 4)) (C := RX7) (T := TX7) (N := 1) hx hb hts hinX7_timeOf_X7 hown E.1 hP 46 (zO.get (oX7_at)) rfl 0 (by decide) (hts (.fieldLink RX7 9 "EdgeAndSpeed$Shop" "bench" "LEdgeAndSpeed$Bench;") (by decide +kernel)) (fun _ h9 => h9) rfl dX7_timeOf_16 ?_
  refine va_getN (D := D) (ci := 0) (v := .int (I 4 12)) (C := RX0) (T := TX0) (N := 17) hx hb hts hinX7_timeOf_X0 hown E.1 hP 4 (zO.get (zBat_o (zBat_C (by decide)))) rfl 12 (by decide) (zNfw_8 E.2.2) (fun _ h9 => h9) rfl dX7_timeOf_19 ?_
  refine lv_imul hx hb dX7_timeOf_22 ?_
  refine lv_iadd hx hb dX7_timeOf_23 ?_
  exact hret _ hf _ _ _ _ hP hS dX7_timeOf_24
theorem c_X7_timeOf (l : Launch) {D : va_G} {a0 : Nat → Nat} {A : Nat → Prop} {cy : Nat → ClassId} {ad : Nat → Nat} (hD : zD A 74 ad) {I : zI} {J : zJ} (p1 : Int32) (p2 : Int32) {rx : Int32} (hf : f_X7_timeOf I J p1 p2 = some rx) : Met l yX7_timeOf wsX7_timeOf { frames := 3, cells := 0, slots := 0, locals := 67 } (zPc D a0 A cy [.ref (ad 46), .int p1, .int p2] (zw 74 (kC cy ad a0) ad I J)) (zQi D A rx (zw 74 (kC cy ad a0) ad I J)) 0 0 A :=
  zmet RX7 (by decide) rfl rfl (Nat.le_of_ble_eq_true rfl) (fun p e R s m below meth c Q hfr hlo ls S0 hQ => w_X7_timeOf hfr hlo hD p1 p2 hf S0 (fun tx hq H locs ls pc hP hS hd => by cases hq; exact hQ H locs _ hS (fun hx hb hr hlocks hfree => W.iret hx hb hr (fun t ht hW => ⟨⟨_, (), rfl, rfl, zht ht hP⟩, hS.F ht⟩) hfree hd hlocks)))
theorem ddX7_timeOf : yX7_timeOf.cls = RX7 ∧ yX7_timeOf.cls ≠ "java/lang/invoke/MethodHandle" ∧ yX7_timeOf.cls ≠ "java/lang/invoke/VarHandle" ∧ (parseMethodDescriptor yX7_timeOf.desc).map (fun d => d.parameters.length) = some 2 := by decide +kernel

def f_X7_perHour (I : zI) (J : zJ) (p1 : Int64) (p2 : Int32) : Option Int64 := (if 1 ≤ p2 then zg (¬ p2.toInt64 = 0) (some ((p1 * 6000) / p2.toInt64)) else some 0)
set_option maxHeartbeats 4000000 in
set_option maxRecDepth 100000 in
theorem w_X7_perHour {p : Program} {l : Launch} {e : Env} {R : Room} {s : State} {m : MethodId} {args : Array Value} {below : List Frame} {meth : Method} {c : Code} {Q : State → Prop} (hfr : 0 ≤ R.frames) (hlo : 0 ≤ R.locals) {D : va_G} {a0 : Nat → Nat} {A : Nat → Prop} {cy : Nat → ClassId} {ad : Nat → Nat} (hD : zD A 74 ad) {I : zI} {J : zJ} (p1 : Int64) (p2 : Int32) {rx : Int64} (hf : f_X7_perHour I J p1 p2 = some rx) {ls : Array Slot} (S0 : zSt p m c cX7_perHour 3 s args wsX7_perHour RX7 D a0 A cy (zw 74 (kC cy ad a0) ad I J) [.long p1, .int p2] ls) (hret : ∀ (tx : Int64), some tx = some rx → ∀ (H : Heap) (locs : List Loc) (ls : Array Slot) (pc : Nat), va_P D vwCl (zw 74 (kC cy ad a0) ad I J) H → va_S A s.heap H locs → decode cX7_perHour pc = .ok (.lreturn, 1) → W p l e R s m args below meth c H locs 0 0 Q (F0 m pc ls [.long tx])) : W p l e R s m args below meth c s.heap [] 0 0 Q (F0 m 0 ls []) := by
  obtain ⟨S, E, hP, hl⟩ := S0
  obtain ⟨hx, hb, hml, hown, hts⟩ := id S
  have hS : va_S A s.heap s.heap [] := va_S.rf
  replace hl : lv_has ls 3 [(0, .long p1), (2, .int p2)] := hl
  unfold f_X7_perHour at hf
  refine lv_iload_n hx hb dX7_perHour_0 rfl (lv_at hl 1 rfl) ?_
  refine lv_iconst (v := 1) hx hb dX7_perHour_1 (by decide) ?_
  refine lv_icmp_ge (tgt := 9) hx hb dX7_perHour_2 (by decide) (fun k1 => ?_) (fun k1 => ?_)
  · replace hf := zt k1 hf
    refine lv_lload_n hx hb dX7_perHour_9 rfl (lv_at hl 0 rfl) ?_
    refine lv_ldc2 hx hb hown (hts (.constantLong RX7 40 6000) (by decide +kernel)) dX7_perHour_10 ?_
    refine lv_lmul hx hb dX7_perHour_13 ?_
    refine lv_iload_n hx hb dX7_perHour_14 rfl (lv_at hl 1 rfl) ?_
    refine lv_i2l hx hb dX7_perHour_15 rfl ?_
    obtain ⟨g2, hf⟩ := zg_i hf
    refine lv_ldiv hx hb dX7_perHour_16 g2 ?_
    exact hret _ hf _ _ _ _ hP hS dX7_perHour_17
  · replace hf := zf k1 hf
    refine lv_lconst (v := 0) hx hb dX7_perHour_5 (by decide) ?_
    refine lv_goto (tgt := 17) hx hb dX7_perHour_6 (by decide) ?_
    exact hret _ hf _ _ _ _ hP hS dX7_perHour_17
theorem c_X7_perHour (l : Launch) {D : va_G} {a0 : Nat → Nat} {A : Nat → Prop} {cy : Nat → ClassId} {ad : Nat → Nat} (hD : zD A 74 ad) {I : zI} {J : zJ} (p1 : Int64) (p2 : Int32) {rx : Int64} (hf : f_X7_perHour I J p1 p2 = some rx) : Met l yX7_perHour wsX7_perHour { frames := 0, cells := 0, slots := 0, locals := 0 } (zPc D a0 A cy [.long p1, .int p2] (zw 74 (kC cy ad a0) ad I J)) (zQl D A rx (zw 74 (kC cy ad a0) ad I J)) 0 0 A :=
  zmet RX7 (by decide) rfl rfl (Nat.le_of_ble_eq_true rfl) (fun p e R s m below meth c Q hfr hlo ls S0 hQ => w_X7_perHour hfr hlo hD p1 p2 hf S0 (fun tx hq H locs ls pc hP hS hd => by cases hq; exact hQ H locs _ hS (fun hx hb hr hlocks hfree => W.lret hx hb hr (fun t ht hW => ⟨⟨_, (), rfl, rfl, zht ht hP⟩, hS.F ht⟩) hfree hd hlocks)))
theorem ddX7_perHour : yX7_perHour.cls ≠ "java/lang/invoke/MethodHandle" ∧ yX7_perHour.cls ≠ "java/lang/invoke/VarHandle" ∧ (parseMethodDescriptor yX7_perHour.desc).map (fun d => d.parameters.length) = some 2 := by decide +kernel

def f_X7_earned (I : zI) (J : zJ) (p1 : Int32) (p2 : Int32) (p3 : Int32) : Option Int64 := zb1 (f_X7_wearsOf I J p1 p2) (fun x1 => zn (((60 * x1.toInt64) * (I 4 13).toInt64)) (fun u3 => zb1 (f_X0_worthOf I J 4 p1) (fun x4 => zn (((6000 * x4.toInt64) - u3)) (fun u6 => zb1 (f_X7_timeOf I J p1 p2) (fun x7 => zb1 (f_X7_perHour I J u6 (if x7 < p3 then p3 else x7)) (fun u9 => some (u9 - (6000 * (I 4 14).toInt64))))))))
theorem hinX7_earned_X7 : ∀ w ∈ u_ws RX7 TX7 1, w ∈ wsX7_earned := by decide +kernel
theorem hinX7_earned_X0 : ∀ w ∈ u_ws RX0 TX0 17, w ∈ wsX7_earned := by decide +kernel
set_option maxHeartbeats 4000000 in
set_option maxRecDepth 100000 in
theorem w_X7_earned {p : Program} {l : Launch} {e : Env} {R : Room} {s : State} {m : MethodId} {args : Array Value} {below : List Frame} {meth : Method} {c : Code} {Q : State → Prop} (hfr : 4 ≤ R.frames) (hlo : 89 ≤ R.locals) {D : va_G} {a0 : Nat → Nat} {A : Nat → Prop} {cy : Nat → ClassId} {ad : Nat → Nat} (hD : zD A 74 ad) {I : zI} {J : zJ} (p1 : Int32) (p2 : Int32) (p3 : Int32) {rx : Int64} (hf : f_X7_earned I J p1 p2 p3 = some rx) {ls : Array Slot} (S0 : zSt p m c cX7_earned 8 s args wsX7_earned RX7 D a0 A cy (zw 74 (kC cy ad a0) ad I J) [.ref (ad 46), .int p1, .int p2, .int p3] ls) (hret : ∀ (tx : Int64), some tx = some rx → ∀ (H : Heap) (locs : List Loc) (ls : Array Slot) (pc : Nat), va_P D vwCl (zw 74 (kC cy ad a0) ad I J) H → va_S A s.heap H locs → decode cX7_earned pc = .ok (.lreturn, 1) → W p l e R s m args below meth c H locs 0 0 Q (F0 m pc ls [.long tx])) : W p l e R s m args below meth c s.heap [] 0 0 Q (F0 m 0 ls []) := by
  obtain ⟨S, E, hP, hl⟩ := S0
  obtain ⟨hx, hb, hml, hown, hts⟩ := id S
  have hS : va_S A s.heap s.heap [] := va_S.rf
  replace hl : lv_has ls 8 [(0, .ref (ad 46)), (1, .int p1), (2, .int p2), (3, .int p3)] := hl
  unfold f_X7_earned at hf
  refine lv_ldc2 hx hb hown (hts (.constantLong RX7 42 60) (by decide +kernel)) dX7_earned_0 ?_
  refine lv_aload_n hx hb dX7_earned_3 rfl (lv_at hl 0 rfl) ?_
  refine lv_iload_n hx hb dX7_earned_4 rfl (lv_at hl 1 rfl) ?_
  refine lv_iload_n hx hb dX7_earned_5 rfl (lv_at hl 2 rfl) ?_
  obtain ⟨x1, h2, hf⟩ := zb1_e hf
  refine zgo_i (zrunV (As := [.int p1, .int p2]) (rest := [.long 60]) S (c_X7_wearsOf l hD p1 p2 h2) (cwV 2 hts gX7_earned_X7_wearsOf rfl rfl rfl ddX7_wearsOf ⟨Nat.le_trans (Nat.le_of_ble_eq_true rfl) hfr, Nat.le_trans (Nat.le_of_ble_eq_true rfl) hlo⟩) (va_recv E.1 hP (q := (RX7, TX7, 1)) (ci := 6) rfl (zO.get (oX7_at))) E hP hS hl.1 rfl rfl (Nat.le_of_ble_eq_true rfl) dX7_earned_6) hS (fun H locs hP hS => ?_)
  refine lv_i2l hx hb dX7_earned_9 rfl ?_
  refine lv_lmul hx hb dX7_earned_10 ?_
  refine lv_aload_n hx hb dX7_earned_11 rfl (lv_at hl 0 rfl) ?_
  refine va_get (D := D) (ci := 6) (v := .ref (ad 4)) (C := RX7) (T := TX7) (N := 1) hx hb hts hinX7_earned_X7 hown E.1 hP 46 (zO.get (oX7_at)) rfl 0 (by decide) (hts (.fieldLink RX7 9 "EdgeAndSpeed$Shop" "bench" "LEdgeAndSpeed$Bench;") (by decide +kernel)) (fun _ h9 => h9) rfl dX7_earned_12 ?_
  refine va_getN (D := D) (ci := 0) (v := .int (I 4 13)) (C := RX0) (T := TX0) (N := 17) hx hb hts hinX7_earned_X0 hown E.1 hP 4 (zO.get (zBat_o (zBat_C (by decide)))) rfl 13 (by decide) (zNfw_9 E.2.2) (fun _ h9 => h9) rfl dX7_earned_15 ?_
  refine lv_i2l hx hb dX7_earned_18 rfl ?_
  refine lv_lmul hx hb dX7_earned_19 ?_
  refine lv_topl (fun u3 eu3 => ?_)
  replace hf := zn_s eu3 hf
  refine lv_lstore (lv' := [(4, .long u3), (0, .ref (ad 46)), (1, .int p1), (2, .int p2), (3, .int p3)]) hx hb dX7_earned_20 hl (by decide) rfl (fun ls hl => ?_)
  refine lv_ldc2 hx hb hown (hts (.constantLong RX7 40 6000) (by decide +kernel)) dX7_earned_22 ?_
  refine lv_aload_n hx hb dX7_earned_25 rfl (lv_at hl 1 rfl) ?_
  refine va_get (D := D) (ci := 6) (v := .ref (ad 4)) (C := RX7) (T := TX7) (N := 1) hx hb hts hinX7_earned_X7 hown E.1 hP 46 (zO.get (oX7_at)) rfl 0 (by decide) (hts (.fieldLink RX7 9 "EdgeAndSpeed$Shop" "bench" "LEdgeAndSpeed$Bench;") (by decide +kernel)) (fun _ h9 => h9) rfl dX7_earned_26 ?_
  refine lv_iload_n hx hb dX7_earned_29 rfl (lv_at hl 2 rfl) ?_
  obtain ⟨x4, h5, hf⟩ := zb1_e hf
  refine zgo_i (zrunV (As := [.int p1]) (rest := [.long 6000]) S (c_X0_worthOf l hD 4 (zBat_C (by decide)) p1 h5) (cwV 1 hts gX7_earned_X0_worthOf rfl rfl rfl ddX0_worthOf ⟨Nat.le_trans (Nat.le_of_ble_eq_true rfl) hfr, Nat.le_trans (Nat.le_of_ble_eq_true rfl) hlo⟩) (va_recv E.1 hP (q := (RX0, TX0, 17)) (ci := 0) rfl (zO.get (zBat_o (zBat_C (by decide))))) E hP hS hl.1 rfl rfl (Nat.le_of_ble_eq_true rfl) dX7_earned_30) hS (fun H locs hP hS => ?_)
  refine lv_i2l hx hb dX7_earned_33 rfl ?_
  refine lv_lmul hx hb dX7_earned_34 ?_
  refine lv_lload hx hb dX7_earned_35 (lv_at hl 0 rfl) ?_
  refine lv_lsub hx hb dX7_earned_37 ?_
  refine lv_topl (fun u6 eu6 => ?_)
  replace hf := zn_s eu6 hf
  refine lv_lstore (lv' := [(6, .long u6), (4, .long u3), (0, .ref (ad 46)), (1, .int p1), (2, .int p2), (3, .int p3)]) hx hb dX7_earned_38 hl (by decide) rfl (fun ls hl => ?_)
  refine lv_lload hx hb dX7_earned_40 (lv_at hl 0 rfl) ?_
  refine lv_aload_n hx hb dX7_earned_42 rfl (lv_at hl 2 rfl) ?_
  refine lv_iload_n hx hb dX7_earned_43 rfl (lv_at hl 3 rfl) ?_
  refine lv_iload_n hx hb dX7_earned_44 rfl (lv_at hl 4 rfl) ?_
  obtain ⟨x7, h8, hf⟩ := zb1_e hf
  refine zgo_i (zrunV (As := [.int p1, .int p2]) (rest := [.long u6]) S (c_X7_timeOf l hD p1 p2 h8) (cwV 2 hts gX7_earned_X7_timeOf rfl rfl rfl ddX7_timeOf ⟨Nat.le_trans (Nat.le_of_ble_eq_true rfl) hfr, Nat.le_trans (Nat.le_of_ble_eq_true rfl) hlo⟩) (va_recv E.1 hP (q := (RX7, TX7, 1)) (ci := 6) rfl (zO.get (oX7_at))) E hP hS hl.1 rfl rfl (Nat.le_of_ble_eq_true rfl) dX7_earned_45) hS (fun H locs hP hS => ?_)
  refine lv_iload_n hx hb dX7_earned_48 rfl (lv_at hl 5 rfl) ?_
  refine va_mmax hx hb (hml.trans hl.1.symm) hown (hts (.methodLink RX7 53 Lib.Math.max.name) (by decide +kernel)) (hts (.static Lib.Math.max.name) (by decide +kernel)) (hts (.initialized "java/lang/Math") (by decide +kernel)) (hts (.code Lib.Math.max.name Lib.Math.max.code 2 (some .int)) (by decide +kernel)) (Nat.le_trans (Nat.le_of_ble_eq_true rfl) hfr) (Nat.le_trans (Nat.le_of_ble_eq_true rfl) hlo) (Nat.zero_le _) (Nat.zero_le _) dX7_earned_49 ?_
  obtain ⟨u9, h10, hf⟩ := zb1_e hf
  refine zgo_l (zrunS (As := [.long u6, .int (if x7 < p3 then p3 else x7)]) (rest := []) S (c_X7_perHour l hD u6 (if x7 < p3 then p3 else x7) h10) (va_cwS 2 hts gX7_earned_X7_perHour rfl rfl rfl ddX7_perHour ⟨Nat.le_trans (Nat.le_of_ble_eq_true rfl) hfr, Nat.le_trans (Nat.le_of_ble_eq_true rfl) hlo⟩) E hP hS hl.1 rfl rfl (Nat.le_of_ble_eq_true rfl) dX7_earned_52) hS (fun H locs hP hS => ?_)
  refine lv_ldc2 hx hb hown (hts (.constantLong RX7 40 6000) (by decide +kernel)) dX7_earned_55 ?_
  refine lv_aload_n hx hb dX7_earned_58 rfl (lv_at hl 2 rfl) ?_
  refine va_get (D := D) (ci := 6) (v := .ref (ad 4)) (C := RX7) (T := TX7) (N := 1) hx hb hts hinX7_earned_X7 hown E.1 hP 46 (zO.get (oX7_at)) rfl 0 (by decide) (hts (.fieldLink RX7 9 "EdgeAndSpeed$Shop" "bench" "LEdgeAndSpeed$Bench;") (by decide +kernel)) (fun _ h9 => h9) rfl dX7_earned_59 ?_
  refine va_getN (D := D) (ci := 0) (v := .int (I 4 14)) (C := RX0) (T := TX0) (N := 17) hx hb hts hinX7_earned_X0 hown E.1 hP 4 (zO.get (zBat_o (zBat_C (by decide)))) rfl 14 (by decide) (zNfw_11 E.2.2) (fun _ h9 => h9) rfl dX7_earned_62 ?_
  refine lv_i2l hx hb dX7_earned_65 rfl ?_
  refine lv_lmul hx hb dX7_earned_66 ?_
  refine lv_lsub hx hb dX7_earned_67 ?_
  exact hret _ hf _ _ _ _ hP hS dX7_earned_68
theorem c_X7_earned (l : Launch) {D : va_G} {a0 : Nat → Nat} {A : Nat → Prop} {cy : Nat → ClassId} {ad : Nat → Nat} (hD : zD A 74 ad) {I : zI} {J : zJ} (p1 : Int32) (p2 : Int32) (p3 : Int32) {rx : Int64} (hf : f_X7_earned I J p1 p2 p3 = some rx) : Met l yX7_earned wsX7_earned { frames := 4, cells := 0, slots := 0, locals := 89 } (zPc D a0 A cy [.ref (ad 46), .int p1, .int p2, .int p3] (zw 74 (kC cy ad a0) ad I J)) (zQl D A rx (zw 74 (kC cy ad a0) ad I J)) 0 0 A :=
  zmet RX7 (by decide) rfl rfl (Nat.le_of_ble_eq_true rfl) (fun p e R s m below meth c Q hfr hlo ls S0 hQ => w_X7_earned hfr hlo hD p1 p2 p3 hf S0 (fun tx hq H locs ls pc hP hS hd => by cases hq; exact hQ H locs _ hS (fun hx hb hr hlocks hfree => W.lret hx hb hr (fun t ht hW => ⟨⟨_, (), rfl, rfl, zht ht hP⟩, hS.F ht⟩) hfree hd hlocks)))
theorem ddX7_earned : yX7_earned.cls = RX7 ∧ yX7_earned.cls ≠ "java/lang/invoke/MethodHandle" ∧ yX7_earned.cls ≠ "java/lang/invoke/VarHandle" ∧ (parseMethodDescriptor yX7_earned.desc).map (fun d => d.parameters.length) = some 3 := by decide +kernel

def f_X11_earns (I : zI) (J : zJ) (p1 : Int32) (p2 : Int32) (p3 : Int32) : Option Int64 := zb1 (f_X0_hasPiece I J 4 p1) (fun x1 => (if x1 = 0 then some (-9223372036854775808) else zb1 (f_X0_hasSpeed I J 4 p2) (fun x4 => (if x4 = 0 then some (-9223372036854775808) else zb1 (f_X11_within I J p3 1 9999) (fun x7 => (if x7 = 0 then some (-9223372036854775808) else zb1 (f_X7_mayBe I J p1 p2) (fun x10 => (if x10 = 0 then some (-9223372036854775806) else zb1 (f_X7_earned I J p1 p2 p3) (fun u13 => some u13)))))))))
theorem hinX11_earns_X11 : ∀ w ∈ u_ws RX11 TX11 12, w ∈ wsX11_earns := by decide +kernel
set_option maxHeartbeats 4000000 in
set_option maxRecDepth 100000 in
theorem w_X11_earns {p : Program} {l : Launch} {e : Env} {R : Room} {s : State} {m : MethodId} {args : Array Value} {below : List Frame} {meth : Method} {c : Code} {Q : State → Prop} (hfr : 5 ≤ R.frames) (hlo : 116 ≤ R.locals) {D : va_G} {a0 : Nat → Nat} {A : Nat → Prop} {cy : Nat → ClassId} {ad : Nat → Nat} (hD : zD A 74 ad) {I : zI} {J : zJ} (p1 : Int32) (p2 : Int32) (p3 : Int32) {rx : Int64} (hf : f_X11_earns I J p1 p2 p3 = some rx) {ls : Array Slot} (S0 : zSt p m c cX11_earns 4 s args wsX11_earns RX11 D a0 A cy (zw 74 (kC cy ad a0) ad I J) [.ref (ad 0), .int p1, .int p2, .int p3] ls) (hret : ∀ (tx : Int64), some tx = some rx → ∀ (H : Heap) (locs : List Loc) (ls : Array Slot) (pc : Nat), va_P D vwCl (zw 74 (kC cy ad a0) ad I J) H → va_S A s.heap H locs → decode cX11_earns pc = .ok (.lreturn, 1) → W p l e R s m args below meth c H locs 0 0 Q (F0 m pc ls [.long tx])) : W p l e R s m args below meth c s.heap [] 0 0 Q (F0 m 0 ls []) := by
  obtain ⟨S, E, hP, hl⟩ := S0
  obtain ⟨hx, hb, hml, hown, hts⟩ := id S
  have hS : va_S A s.heap s.heap [] := va_S.rf
  replace hl : lv_has ls 4 [(0, .ref (ad 0)), (1, .int p1), (2, .int p2), (3, .int p3)] := hl
  unfold f_X11_earns at hf
  refine lv_aload_n hx hb dX11_earns_0 rfl (lv_at hl 0 rfl) ?_
  refine va_get (D := D) (ci := 10) (v := .ref (ad 4)) (C := RX11) (T := TX11) (N := 12) hx hb hts hinX11_earns_X11 hown E.1 hP 0 (zO.get (oX11_at)) rfl 1 (by decide) (hts (.fieldLink RX11 19 "EdgeAndSpeed" "bench" "LEdgeAndSpeed$Bench;") (by decide +kernel)) (fun _ h9 => h9) rfl dX11_earns_1 ?_
  refine lv_iload_n hx hb dX11_earns_4 rfl (lv_at hl 1 rfl) ?_
  obtain ⟨x1, h2, hf⟩ := zb1_e hf
  refine zgo_i (zrunV (As := [.int p1]) (rest := []) S (c_X0_hasPiece l hD 4 (zBat_C (by decide)) p1 h2) (cwV 1 hts gX11_earns_X0_hasPiece rfl rfl rfl ddX0_hasPiece ⟨Nat.le_trans (Nat.le_of_ble_eq_true rfl) hfr, Nat.le_trans (Nat.le_of_ble_eq_true rfl) hlo⟩) (va_recv E.1 hP (q := (RX0, TX0, 17)) (ci := 0) rfl (zO.get (zBat_o (zBat_C (by decide))))) E hP hS hl.1 rfl rfl (Nat.le_of_ble_eq_true rfl) dX11_earns_5) hS (fun H locs hP hS => ?_)
  refine lv_if_eq (tgt := 33) hx hb dX11_earns_8 (by decide) (fun k3 => ?_) (fun k3 => ?_)
  · replace hf := zt k3 hf
    refine lv_ldc2 hx hb hown (hts (.constantLong RX11 169 (-9223372036854775808)) (by decide +kernel)) dX11_earns_33 ?_
    exact hret _ hf _ _ _ _ hP hS dX11_earns_36
  · replace hf := zf k3 hf
    refine lv_aload_n hx hb dX11_earns_11 rfl (lv_at hl 0 rfl) ?_
    refine va_get (D := D) (ci := 10) (v := .ref (ad 4)) (C := RX11) (T := TX11) (N := 12) hx hb hts hinX11_earns_X11 hown E.1 hP 0 (zO.get (oX11_at)) rfl 1 (by decide) (hts (.fieldLink RX11 19 "EdgeAndSpeed" "bench" "LEdgeAndSpeed$Bench;") (by decide +kernel)) (fun _ h9 => h9) rfl dX11_earns_12 ?_
    refine lv_iload_n hx hb dX11_earns_15 rfl (lv_at hl 2 rfl) ?_
    obtain ⟨x4, h5, hf⟩ := zb1_e hf
    refine zgo_i (zrunV (As := [.int p2]) (rest := []) S (c_X0_hasSpeed l hD 4 (zBat_C (by decide)) p2 h5) (cwV 1 hts gX11_earns_X0_hasSpeed rfl rfl rfl ddX0_hasSpeed ⟨Nat.le_trans (Nat.le_of_ble_eq_true rfl) hfr, Nat.le_trans (Nat.le_of_ble_eq_true rfl) hlo⟩) (va_recv E.1 hP (q := (RX0, TX0, 17)) (ci := 0) rfl (zO.get (zBat_o (zBat_C (by decide))))) E hP hS hl.1 rfl rfl (Nat.le_of_ble_eq_true rfl) dX11_earns_16) hS (fun H locs hP hS => ?_)
    refine lv_if_eq (tgt := 33) hx hb dX11_earns_19 (by decide) (fun k6 => ?_) (fun k6 => ?_)
    · replace hf := zt k6 hf
      refine lv_ldc2 hx hb hown (hts (.constantLong RX11 169 (-9223372036854775808)) (by decide +kernel)) dX11_earns_33 ?_
      exact hret _ hf _ _ _ _ hP hS dX11_earns_36
    · replace hf := zf k6 hf
      refine lv_iload_n hx hb dX11_earns_22 rfl (lv_at hl 3 rfl) ?_
      refine lv_iconst (v := 1) hx hb dX11_earns_23 (by decide) ?_
      refine lv_sipush (v := 9999) hx hb dX11_earns_24 (by decide) ?_
      obtain ⟨x7, h8, hf⟩ := zb1_e hf
      refine zgo_i (zrunS (As := [.int p3, .int 1, .int 9999]) (rest := []) S (c_X11_within l hD p3 1 9999 h8) (va_cwS 3 hts gX11_earns_X11_within rfl rfl rfl ddX11_within ⟨Nat.le_trans (Nat.le_of_ble_eq_true rfl) hfr, Nat.le_trans (Nat.le_of_ble_eq_true rfl) hlo⟩) E hP hS hl.1 rfl rfl (Nat.le_of_ble_eq_true rfl) dX11_earns_27) hS (fun H locs hP hS => ?_)
      refine lv_if_ne (tgt := 37) hx hb dX11_earns_30 (by decide) (fun k9 => ?_) (fun k9 => ?_)
      · replace hf := zf k9 hf
        refine lv_aload_n hx hb dX11_earns_37 rfl (lv_at hl 0 rfl) ?_
        refine va_get (D := D) (ci := 10) (v := .ref (ad 46)) (C := RX11) (T := TX11) (N := 12) hx hb hts hinX11_earns_X11 hown E.1 hP 0 (zO.get (oX11_at)) rfl 11 (by decide) (hts (.fieldLink RX11 84 "EdgeAndSpeed" "shop" "LEdgeAndSpeed$Shop;") (by decide +kernel)) (fun _ h9 => h9) rfl dX11_earns_38 ?_
        refine lv_iload_n hx hb dX11_earns_41 rfl (lv_at hl 1 rfl) ?_
        refine lv_iload_n hx hb dX11_earns_42 rfl (lv_at hl 2 rfl) ?_
        obtain ⟨x10, h11, hf⟩ := zb1_e hf
        refine zgo_i (zrunV (As := [.int p1, .int p2]) (rest := []) S (c_X7_mayBe l hD p1 p2 h11) (cwV 2 hts gX11_earns_X7_mayBe rfl rfl rfl ddX7_mayBe ⟨Nat.le_trans (Nat.le_of_ble_eq_true rfl) hfr, Nat.le_trans (Nat.le_of_ble_eq_true rfl) hlo⟩) (va_recv E.1 hP (q := (RX7, TX7, 1)) (ci := 6) rfl (zO.get (oX7_at))) E hP hS hl.1 rfl rfl (Nat.le_of_ble_eq_true rfl) dX11_earns_43) hS (fun H locs hP hS => ?_)
        refine lv_if_eq (tgt := 62) hx hb dX11_earns_46 (by decide) (fun k12 => ?_) (fun k12 => ?_)
        · replace hf := zt k12 hf
          refine lv_ldc2 hx hb hown (hts (.constantLong RX11 243 (-9223372036854775806)) (by decide +kernel)) dX11_earns_62 ?_
          exact hret _ hf _ _ _ _ hP hS dX11_earns_65
        · replace hf := zf k12 hf
          refine lv_aload_n hx hb dX11_earns_49 rfl (lv_at hl 0 rfl) ?_
          refine va_get (D := D) (ci := 10) (v := .ref (ad 46)) (C := RX11) (T := TX11) (N := 12) hx hb hts hinX11_earns_X11 hown E.1 hP 0 (zO.get (oX11_at)) rfl 11 (by decide) (hts (.fieldLink RX11 84 "EdgeAndSpeed" "shop" "LEdgeAndSpeed$Shop;") (by decide +kernel)) (fun _ h9 => h9) rfl dX11_earns_50 ?_
          refine lv_iload_n hx hb dX11_earns_53 rfl (lv_at hl 1 rfl) ?_
          refine lv_iload_n hx hb dX11_earns_54 rfl (lv_at hl 2 rfl) ?_
          refine lv_iload_n hx hb dX11_earns_55 rfl (lv_at hl 3 rfl) ?_
          obtain ⟨u13, h14, hf⟩ := zb1_e hf
          refine zgo_l (zrunV (As := [.int p1, .int p2, .int p3]) (rest := []) S (c_X7_earned l hD p1 p2 p3 h14) (cwV 3 hts gX11_earns_X7_earned rfl rfl rfl ddX7_earned ⟨Nat.le_trans (Nat.le_of_ble_eq_true rfl) hfr, Nat.le_trans (Nat.le_of_ble_eq_true rfl) hlo⟩) (va_recv E.1 hP (q := (RX7, TX7, 1)) (ci := 6) rfl (zO.get (oX7_at))) E hP hS hl.1 rfl rfl (Nat.le_of_ble_eq_true rfl) dX11_earns_56) hS (fun H locs hP hS => ?_)
          refine lv_goto (tgt := 65) hx hb dX11_earns_59 (by decide) ?_
          exact hret _ hf _ _ _ _ hP hS dX11_earns_65
      · replace hf := zt k9 hf
        refine lv_ldc2 hx hb hown (hts (.constantLong RX11 169 (-9223372036854775808)) (by decide +kernel)) dX11_earns_33 ?_
        exact hret _ hf _ _ _ _ hP hS dX11_earns_36
theorem c_X11_earns (l : Launch) {D : va_G} {a0 : Nat → Nat} {A : Nat → Prop} {cy : Nat → ClassId} {ad : Nat → Nat} (hD : zD A 74 ad) {I : zI} {J : zJ} (p1 : Int32) (p2 : Int32) (p3 : Int32) {rx : Int64} (hf : f_X11_earns I J p1 p2 p3 = some rx) : Met l yX11_earns wsX11_earns { frames := 5, cells := 0, slots := 0, locals := 116 } (zPc D a0 A cy [.ref (ad 0), .int p1, .int p2, .int p3] (zw 74 (kC cy ad a0) ad I J)) (zQl D A rx (zw 74 (kC cy ad a0) ad I J)) 0 0 A :=
  zmet RX11 (by decide) rfl rfl (Nat.le_of_ble_eq_true rfl) (fun p e R s m below meth c Q hfr hlo ls S0 hQ => w_X11_earns hfr hlo hD p1 p2 p3 hf S0 (fun tx hq H locs ls pc hP hS hd => by cases hq; exact hQ H locs _ hS (fun hx hb hr hlocks hfree => W.lret hx hb hr (fun t ht hW => ⟨⟨_, (), rfl, rfl, zht ht hP⟩, hS.F ht⟩) hfree hd hlocks)))
theorem ddX11_earns : yX11_earns.cls = RX11 ∧ yX11_earns.cls ≠ "java/lang/invoke/MethodHandle" ∧ yX11_earns.cls ≠ "java/lang/invoke/VarHandle" ∧ (parseMethodDescriptor yX11_earns.desc).map (fun d => d.parameters.length) = some 3 := by decide +kernel
