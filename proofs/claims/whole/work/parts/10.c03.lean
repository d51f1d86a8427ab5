def f_X6_solve_L51 (o : Nat) (x9 : Int32) (x14 : Int32) (x21 : Int32) (I22 : zI) (J23 : zJ) : Option ((Int32 × zI × zJ) ⊕ (zI × zJ)) := (if 48 ≤ x21 then some (.inr (I22, J23)) else zb2 (f_X6_offerPass I22 J23 o x21 x9 x14) (fun I25 J26 => zn (x21 + 1) (fun y28 => some (.inl (y28, I25, J26)))))
def f_X6_solve_L35 (x9 : Int32) (o : Nat) (x14 : Int32) (I15 : zI) (J16 : zJ) : Option ((Int32 × zI × zJ) ⊕ (zI × zJ)) := zb1 (f_X0_stepsOf I15 J16 4 x9) (fun x17 => (if x17 < x14 then some (.inr (I15, J16)) else zb2 (zl (fun v : (Int32 × zI × zJ) => f_X6_solve_L51 o x9 x14 v.1 v.2.1 v.2.2) zF (0, I15, J16)) (fun I29 J30 => zb2 (f_X6_offerRest I29 J30 o x9 x14) (fun I31 J32 => zn (x14 + 1) (fun y34 => some (.inl (y34, I31, J32)))))))
def f_X6_solve_L28 (o : Nat) (x9 : Int32) (I10 : zI) (J11 : zJ) : Option ((Int32 × zI × zJ) ⊕ (zI × zJ)) := (if x9 < 0 then some (.inr (I10, J11)) else zb2 (zl (fun v : (Int32 × zI × zJ) => f_X6_solve_L35 x9 o v.1 v.2.1 v.2.2) zF (1, I10, J11)) (fun I35 J36 => zn (x9 + (-1)) (fun y37 => some (.inl (y37, I35, J36)))))
def f_X6_solve (I : zI) (J : zJ) (o : Nat) (p1 : Nat) (p2 : Int32) : Option (zI × zJ) := (if (I o 6) = 0 then zb1 (f_X6_clear I J o) (fun I2 => zb2 (f_X6_measure I2 J o p1 p2) (fun I4 J5 => zn (((I4 4 10) - 1)) (fun y7 => zb2 (zl (fun v : (Int32 × zI × zJ) => f_X6_solve_L28 o v.1 v.2.1 v.2.2) zF (y7, I4, J5)) (fun I38 J39 => zn (va_up I38 o (va_up (I38 o) 6 1)) (fun I40 => some (I40, J39)))))) else some (I, J))
theorem hinX6_solve_X6 : ∀ w ∈ u_ws RX6 TX6 7, w ∈ wsX6_solve := by decide +kernel
theorem hinX6_solve_X0 : ∀ w ∈ u_ws RX0 TX0 17, w ∈ wsX6_solve := by decide +kernel
set_option maxHeartbeats 4000000 in
set_option maxRecDepth 100000 in
theorem w_X6_solve {p : Program} {l : Launch} {e : Env} {R : Room} {s : State} {m : MethodId} {args : Array Value} {below : List Frame} {meth : Method} {c : Code} {Q : State → Prop} (hfr : 5 ≤ R.frames) (hlo : 127 ≤ R.locals) {D : va_G} {a0 : Nat → Nat} {A : Nat → Prop} {cy : Nat → ClassId} {ad : Nat → Nat} (hD : zD A 74 ad) {I : zI} {J : zJ} (o : Nat) (ho : zPn o) (p1 : Nat) (p2 : Int32) {rI : zI} {rJ : zJ} (hf : f_X6_solve I J o p1 p2 = some (rI, rJ)) {ls : Array Slot} (S0 : zSt p m c cX6_solve 6 s args wsX6_solve RX6 D a0 A cy (zw 74 (kC cy ad a0) ad I J) [.ref (ad o), .ref (a0 p1), .int p2] ls) (hret : ∀ (tI : zI) (tJ : zJ), some (tI, tJ) = some (rI, rJ) → ∀ (H : Heap) (locs : List Loc) (ls : Array Slot) (pc : Nat), va_P D vwCl (zw 74 (kC cy ad a0) ad tI tJ) H → va_S A s.heap H locs → decode cX6_solve pc = .ok (.return_, 1) → W p l e R s m args below meth c H locs 0 0 Q (F0 m pc ls [])) : W p l e R s m args below meth c s.heap [] 0 0 Q (F0 m 0 ls []) := by
  obtain ⟨S, E, hP, hl⟩ := S0
  obtain ⟨hx, hb, hml, hown, hts⟩ := id S
  have hS : va_S A s.heap s.heap [] := va_S.rf
  replace hl : lv_has ls 6 [(0, .ref (ad o)), (1, .ref (a0 p1)), (2, .int p2)] := hl
  unfold f_X6_solve at hf
  refine lv_aload_n hx hb dX6_solve_0 rfl (lv_at hl 0 rfl) ?_
  refine va_get (D := D) (ci := 5) (v := .int (I o 6)) (C := RX6) (T := TX6) (N := 7) hx hb hts hinX6_solve_X6 hown E.1 hP o (zO.get (oX6_at ho)) rfl 6 (by decide) (hts (.fieldLink RX6 38 "EdgeAndSpeed$Plan" "solved" "Z") (by decide +kernel)) (fun _ h9 => h9) rfl dX6_solve_1 ?_
  refine lv_if_eq (tgt := 8) hx hb dX6_solve_4 (by decide) (fun k1 => ?_) (fun k1 => ?_)
  · replace hf := zt k1 hf
    refine lv_aload_n hx hb dX6_solve_8 rfl (lv_at hl 0 rfl) ?_
    obtain ⟨I2, h3, hf⟩ := zb1_e hf
    refine zgo_v (zrunV (As := []) (rest := []) S (c_X6_clear l hD o ho h3) (cwV 0 hts gX6_solve_X6_clear rfl rfl rfl ddX6_clear ⟨Nat.le_trans (Nat.le_of_ble_eq_true rfl) hfr, Nat.le_trans (Nat.le_of_ble_eq_true rfl) hlo⟩) (va_recv E.1 hP (q := (RX6, TX6, 7)) (ci := 5) rfl (zO.get (oX6_at ho))) E hP hS hl.1 rfl rfl (Nat.le_of_ble_eq_true rfl) dX6_solve_9) hS (fun H locs hP hS => ?_)
    refine lv_aload_n hx hb dX6_solve_12 rfl (lv_at hl 0 rfl) ?_
    refine lv_aload_n hx hb dX6_solve_13 rfl (lv_at hl 1 rfl) ?_
    refine lv_iload_n hx hb dX6_solve_14 rfl (lv_at hl 2 rfl) ?_
    obtain ⟨I4, J5, h6, hf⟩ := zb2_e hf
    refine zgo_v (zrunV (As := [.ref (a0 p1), .int p2]) (rest := []) S (c_X6_measure l hD o ho p1 p2 h6) (cwV 2 hts gX6_solve_X6_measure rfl rfl rfl ddX6_measure ⟨Nat.le_trans (Nat.le_of_ble_eq_true rfl) hfr, Nat.le_trans (Nat.le_of_ble_eq_true rfl) hlo⟩) (va_recv E.1 hP (q := (RX6, TX6, 7)) (ci := 5) rfl (zO.get (oX6_at ho))) E hP hS hl.1 rfl rfl (Nat.le_of_ble_eq_true rfl) dX6_solve_15) hS (fun H locs hP hS => ?_)
    refine lv_aload_n hx hb dX6_solve_18 rfl (lv_at hl 0 rfl) ?_
    refine va_get (D := D) (ci := 5) (v := .ref (ad 4)) (C := RX6) (T := TX6) (N := 7) hx hb hts hinX6_solve_X6 hown E.1 hP o (zO.get (oX6_at ho)) rfl 0 (by decide) (hts (.fieldLink RX6 28 "EdgeAndSpeed$Plan" "bench" "LEdgeAndSpeed$Bench;") (by decide +kernel)) (fun _ h9 => h9) rfl dX6_solve_19 ?_
    refine va_getN (D := D) (ci := 0) (v := .int (I4 4 10)) (C := RX0) (T := TX0) (N := 17) hx hb hts hinX6_solve_X0 hown E.1 hP 4 (zO.get (zBat_o (zBat_C (by decide)))) rfl 10 (by decide) (zNfw_6 E.2.2) (fun _ h9 => h9) rfl dX6_solve_22 ?_
    refine lv_iconst (v := 1) hx hb dX6_solve_25 (by decide) ?_
    refine lv_isub hx hb dX6_solve_26 ?_
    refine lv_topi (fun y7 ey7 => ?_)
    replace hf := zn_s ey7 hf
    refine lv_istore_n (lv' := [(3, .int y7), (0, .ref (ad o)), (1, .ref (a0 p1)), (2, .int p2)]) hx hb dX6_solve_27 rfl hl (by decide) rfl (fun ls hl => ?_)
    obtain ⟨zl8, hf, hzl8⟩ := zb2_i hf
    have hjl8 : ∀ (I38 : zI) (J39 : zJ), (I38, J39) = zl8 → ∀ (H : Heap) (locs : List Loc) (ls : Array Slot), va_P D vwCl (zw 74 (kC cy ad a0) ad I38 J39) H → va_S A s.heap H locs → lv_has ls 6 [(0, .ref (ad o))] → W p l e R s m args below meth c H locs 0 0 Q (F0 m 92 ls []) := by
      intro I38 J39 ez H locs ls hP hS hl
      have hf := hzl8 I38 J39 ez
      refine lv_aload_n hx hb dX6_solve_92 rfl (lv_at hl 0 rfl) ?_
      refine lv_iconst (v := 1) hx hb dX6_solve_93 (by decide) ?_
      obtain ⟨I40, eI40⟩ := zex (va_up I38 o (va_up (I38 o) 6 1))
      replace hf := zn_s eI40 hf
      refine zput (D := D) (ci := 5) (v := .int 1) (ty := .boolean) (C := RX6) (T := TX6) (N := 7) hx hb hts hinX6_solve_X6 tyX6 tyX6_ok nmX6 hown E.1 hP hD.D hS o (zO.get (oX6_at ho)) rfl 6 (by decide) (hts (.fieldLink RX6 38 "EdgeAndSpeed$Plan" "solved" "Z") (by decide +kernel)) (fun _ h9 => h9) rfl (tyX6_ok 6 (by decide)) rfl rfl (Nat.le_of_ble_eq_true rfl) dX6_solve_94 (zO.setI (oX6_at ho) rfl eI40) (fun H locs hP hS => ?_)
      exact hret _ _ hf _ _ _ _ hP hS dX6_solve_97
    refine zl_i (V := (Int32 × zI × zJ)) (P := fun v => ∀ (H : Heap) (locs : List Loc) (ls : Array Slot), va_P D vwCl (zw 74 (kC cy ad a0) ad v.2.1 v.2.2) H → va_S A s.heap H locs → lv_has ls 6 [(0, .ref (ad o)), (3, .int (v.1))] → W p l e R s m args below meth c H locs 0 0 Q (F0 m 28 ls [])) ?_ _ _ hf _ _ _ hP hS (lv_sub hl [1, 0] rfl)
    intro v z hf hcl8 hdl8
    obtain ⟨x9, I10, J11⟩ := v
    intro H locs ls hP hS hl
    replace hf : f_X6_solve_L28 o x9 I10 J11 = some z := hf
    unfold f_X6_solve_L28 at hf
    replace hP : va_P D vwCl (zw 74 (kC cy ad a0) ad I10 J11) H := hP
    replace hl : lv_has ls 6 [(0, .ref (ad o)), (3, .int x9)] := hl
    refine lv_iload_n hx hb dX6_solve_28 rfl (lv_at hl 1 rfl) ?_
    refine lv_if_lt (tgt := 92) hx hb dX6_solve_29 (by decide) (fun k12 => ?_) (fun k12 => ?_)
    · replace hf := zt k12 hf
      exact hjl8 _ _ (hdl8 _ (Option.some.inj hf).symm) _ _ _ hP hS (lv_sub hl [0] rfl)
    · replace hf := zf k12 hf
      refine lv_iconst (v := 1) hx hb dX6_solve_32 (by decide) ?_
      refine lv_istore (lv' := [(4, .int 1), (0, .ref (ad o)), (3, .int x9)]) hx hb dX6_solve_33 hl (by decide) rfl (fun ls hl => ?_)
      obtain ⟨zl13, hf, hzl13⟩ := zb2_i hf
      have hjl13 : ∀ (I35 : zI) (J36 : zJ), (I35, J36) = zl13 → ∀ (H : Heap) (locs : List Loc) (ls : Array Slot), va_P D vwCl (zw 74 (kC cy ad a0) ad I35 J36) H → va_S A s.heap H locs → lv_has ls 6 [(0, .ref (ad o)), (3, .int x9)] → W p l e R s m args below meth c H locs 0 0 Q (F0 m 86 ls []) := by
        intro I35 J36 ez H locs ls hP hS hl
        have hf := hzl13 I35 J36 ez
        obtain ⟨y37, ey37⟩ := zex (x9 + (-1))
        replace hf := zn_s ey37 hf
        refine lv_iinc (v := y37) (lv' := [(3, .int y37), (0, .ref (ad o))]) hx hb dX6_solve_86 hl (k := 1) rfl (by rw [ey37]; rfl) (by decide) rfl (fun ls hl => ?_)
        refine lv_goto (tgt := 28) hx hb dX6_solve_89 (by decide) ?_
        exact hcl8 _ (Option.some.inj hf).symm _ _ _ hP hS (lv_sub hl [1, 0] rfl)
      refine zl_i (V := (Int32 × zI × zJ)) (P := fun v => ∀ (H : Heap) (locs : List Loc) (ls : Array Slot), va_P D vwCl (zw 74 (kC cy ad a0) ad v.2.1 v.2.2) H → va_S A s.heap H locs → lv_has ls 6 [(0, .ref (ad o)), (3, .int x9), (4, .int (v.1))] → W p l e R s m args below meth c H locs 0 0 Q (F0 m 35 ls [])) ?_ _ _ hf _ _ _ hP hS (lv_sub hl [1, 2, 0] rfl)
      intro v z hf hcl13 hdl13
      obtain ⟨x14, I15, J16⟩ := v
      intro H locs ls hP hS hl
      replace hf : f_X6_solve_L35 x9 o x14 I15 J16 = some z := hf
      unfold f_X6_solve_L35 at hf
      replace hP : va_P D vwCl (zw 74 (kC cy ad a0) ad I15 J16) H := hP
      replace hl : lv_has ls 6 [(0, .ref (ad o)), (3, .int x9), (4, .int x14)] := hl
      refine lv_iload hx hb dX6_solve_35 (lv_at hl 2 rfl) ?_
      refine lv_aload_n hx hb dX6_solve_37 rfl (lv_at hl 0 rfl) ?_
      refine va_get (D := D) (ci := 5) (v := .ref (ad 4)) (C := RX6) (T := TX6) (N := 7) hx hb hts hinX6_solve_X6 hown E.1 hP o (zO.get (oX6_at ho)) rfl 0 (by decide) (hts (.fieldLink RX6 28 "EdgeAndSpeed$Plan" "bench" "LEdgeAndSpeed$Bench;") (by decide +kernel)) (fun _ h9 => h9) rfl dX6_solve_38 ?_
      refine lv_iload_n hx hb dX6_solve_41 rfl (lv_at hl 1 rfl) ?_
      obtain ⟨x17, h18, hf⟩ := zb1_e hf
      refine zgo_i (zrunV (As := [.int x9]) (rest := [.int x14]) S (c_X0_stepsOf l hD 4 (zBat_C (by decide)) x9 h18) (cwV 1 hts gX6_solve_X0_stepsOf rfl rfl rfl ddX0_stepsOf ⟨Nat.le_trans (Nat.le_of_ble_eq_true rfl) hfr, Nat.le_trans (Nat.le_of_ble_eq_true rfl) hlo⟩) (va_recv E.1 hP (q := (RX0, TX0, 17)) (ci := 0) rfl (zO.get (zBat_o (zBat_C (by decide))))) E hP hS hl.1 rfl rfl (Nat.le_of_ble_eq_true rfl) dX6_solve_42) hS (fun H locs hP hS => ?_)
      refine lv_icmp_gt (tgt := 86) hx hb dX6_solve_45 (by decide) (fun k19 => ?_) (fun k19 => ?_)
      · replace hf := zt k19 hf
        exact hjl13 _ _ (hdl13 _ (Option.some.inj hf).symm) _ _ _ hP hS (lv_sub hl [0, 1] rfl)
      · replace hf := zf k19 hf
        refine lv_iconst (v := 0) hx hb dX6_solve_48 (by decide) ?_
        refine lv_istore (lv' := [(5, .int 0), (0, .ref (ad o)), (3, .int x9), (4, .int x14)]) hx hb dX6_solve_49 hl (by decide) rfl (fun ls hl => ?_)
        obtain ⟨zl20, hf, hzl20⟩ := zb2_i hf
        have hjl20 : ∀ (I29 : zI) (J30 : zJ), (I29, J30) = zl20 → ∀ (H : Heap) (locs : List Loc) (ls : Array Slot), va_P D vwCl (zw 74 (kC cy ad a0) ad I29 J30) H → va_S A s.heap H locs → lv_has ls 6 [(0, .ref (ad o)), (3, .int x9), (4, .int x14)] → W p l e R s m args below meth c H locs 0 0 Q (F0 m 73 ls []) := by
          intro I29 J30 ez H locs ls hP hS hl
          have hf := hzl20 I29 J30 ez
          refine lv_aload_n hx hb dX6_solve_73 rfl (lv_at hl 0 rfl) ?_
          refine lv_iload_n hx hb dX6_solve_74 rfl (lv_at hl 1 rfl) ?_
          refine lv_iload hx hb dX6_solve_75 (lv_at hl 2 rfl) ?_
          obtain ⟨I31, J32, h33, hf⟩ := zb2_e hf
          refine zgo_v (zrunV (As := [.int x9, .int x14]) (rest := []) S (c_X6_offerRest l hD o ho x9 x14 h33) (cwV 2 hts gX6_solve_X6_offerRest rfl rfl rfl ddX6_offerRest ⟨Nat.le_trans (Nat.le_of_ble_eq_true rfl) hfr, Nat.le_trans (Nat.le_of_ble_eq_true rfl) hlo⟩) (va_recv E.1 hP (q := (RX6, TX6, 7)) (ci := 5) rfl (zO.get (oX6_at ho))) E hP hS hl.1 rfl rfl (Nat.le_of_ble_eq_true rfl) dX6_solve_77) hS (fun H locs hP hS => ?_)
          obtain ⟨y34, ey34⟩ := zex (x14 + 1)
          replace hf := zn_s ey34 hf
          refine lv_iinc (v := y34) (lv' := [(4, .int y34), (0, .ref (ad o)), (3, .int x9)]) hx hb dX6_solve_80 hl (k := 2) rfl (by rw [ey34]; rfl) (by decide) rfl (fun ls hl => ?_)
          refine lv_goto (tgt := 35) hx hb dX6_solve_83 (by decide) ?_
          exact hcl13 _ (Option.some.inj hf).symm _ _ _ hP hS (lv_sub hl [1, 2, 0] rfl)
        refine zl_i (V := (Int32 × zI × zJ)) (P := fun v => ∀ (H : Heap) (locs : List Loc) (ls : Array Slot), va_P D vwCl (zw 74 (kC cy ad a0) ad v.2.1 v.2.2) H → va_S A s.heap H locs → lv_has ls 6 [(0, .ref (ad o)), (3, .int x9), (4, .int x14), (5, .int (v.1))] → W p l e R s m args below meth c H locs 0 0 Q (F0 m 51 ls [])) ?_ _ _ hf _ _ _ hP hS (lv_sub hl [1, 2, 3, 0] rfl)
        intro v z hf hcl20 hdl20
        obtain ⟨x21, I22, J23⟩ := v
        intro H locs ls hP hS hl
        replace hf : f_X6_solve_L51 o x9 x14 x21 I22 J23 = some z := hf
        unfold f_X6_solve_L51 at hf
        replace hP : va_P D vwCl (zw 74 (kC cy ad a0) ad I22 J23) H := hP
        replace hl : lv_has ls 6 [(0, .ref (ad o)), (3, .int x9), (4, .int x14), (5, .int x21)] := hl
        refine lv_iload hx hb dX6_solve_51 (lv_at hl 3 rfl) ?_
        refine lv_bipush (v := 48) hx hb dX6_solve_53 (by decide) ?_
        refine lv_icmp_ge (tgt := 73) hx hb dX6_solve_55 (by decide) (fun k24 => ?_) (fun k24 => ?_)
        · replace hf := zt k24 hf
          exact hjl20 _ _ (hdl20 _ (Option.some.inj hf).symm) _ _ _ hP hS (lv_sub hl [0, 1, 2] rfl)
        · replace hf := zf k24 hf
          refine lv_aload_n hx hb dX6_solve_58 rfl (lv_at hl 0 rfl) ?_
          refine lv_iload hx hb dX6_solve_59 (lv_at hl 3 rfl) ?_
          refine lv_iload_n hx hb dX6_solve_61 rfl (lv_at hl 1 rfl) ?_
          refine lv_iload hx hb dX6_solve_62 (lv_at hl 2 rfl) ?_
          obtain ⟨I25, J26, h27, hf⟩ := zb2_e hf
          refine zgo_v (zrunV (As := [.int x21, .int x9, .int x14]) (rest := []) S (c_X6_offerPass l hD o ho x21 x9 x14 h27) (cwV 3 hts gX6_solve_X6_offerPass rfl rfl rfl ddX6_offerPass ⟨Nat.le_trans (Nat.le_of_ble_eq_true rfl) hfr, Nat.le_trans (Nat.le_of_ble_eq_true rfl) hlo⟩) (va_recv E.1 hP (q := (RX6, TX6, 7)) (ci := 5) rfl (zO.get (oX6_at ho))) E hP hS hl.1 rfl rfl (Nat.le_of_ble_eq_true rfl) dX6_solve_64) hS (fun H locs hP hS => ?_)
          obtain ⟨y28, ey28⟩ := zex (x21 + 1)
          replace hf := zn_s ey28 hf
          refine lv_iinc (v := y28) (lv' := [(5, .int y28), (0, .ref (ad o)), (3, .int x9), (4, .int x14)]) hx hb dX6_solve_67 hl (k := 3) rfl (by rw [ey28]; rfl) (by decide) rfl (fun ls hl => ?_)
          refine lv_goto (tgt := 51) hx hb dX6_solve_70 (by decide) ?_
          exact hcl20 _ (Option.some.inj hf).symm _ _ _ hP hS (lv_sub hl [1, 2, 3, 0] rfl)
  · replace hf := zf k1 hf
    exact hret _ _ hf _ _ _ _ hP hS dX6_solve_7
theorem c_X6_solve (l : Launch) {D : va_G} {a0 : Nat → Nat} {A : Nat → Prop} {cy : Nat → ClassId} {ad : Nat → Nat} (hD : zD A 74 ad) {I : zI} {J : zJ} (o : Nat) (ho : zPn o) (p1 : Nat) (p2 : Int32) {rI : zI} {rJ : zJ} (hf : f_X6_solve I J o p1 p2 = some (rI, rJ)) : Met l yX6_solve wsX6_solve { frames := 5, cells := 0, slots := 0, locals := 127 } (zPc D a0 A cy [.ref (ad o), .ref (a0 p1), .int p2] (zw 74 (kC cy ad a0) ad I J)) (zQv D A (zw 74 (kC cy ad a0) ad rI rJ)) 0 0 A :=
  zmet RX6 (by decide) rfl rfl (Nat.le_of_ble_eq_true rfl) (fun p e R s m below meth c Q hfr hlo ls S0 hQ => w_X6_solve hfr hlo hD o ho p1 p2 hf S0 (fun tI tJ hq H locs ls pc hP hS hd => by cases hq; exact hQ H locs _ hS (fun hx hb hr hlocks hfree => W.vret hx hb hr (fun t ht hW => ⟨⟨(), rfl, trivial, zht ht hP⟩, hS.F ht⟩) hfree hd hlocks)))
theorem ddX6_solve : yX6_solve.cls = RX6 ∧ yX6_solve.cls ≠ "java/lang/invoke/MethodHandle" ∧ yX6_solve.cls ≠ "java/lang/invoke/VarHandle" ∧ (parseMethodDescriptor yX6_solve.desc).map (fun d => d.parameters.length) = some 2 := by decide +kernel

def f_X2_quickBy (I : zI) (J : zJ) (p1 : Int32) : Option Nat := zb1 (f_X11_within I J p1 0 3) (fun x1 => (if x1 = 0 then zg (¬ ((0 : Int32) < 0 ∨ 4 ≤ (0 : Int32).toNatClampNeg)) (some (59 + 3 * (0 : Int32).toNatClampNeg)) else zg (¬ (p1 < 0 ∨ 4 ≤ p1.toNatClampNeg)) (some (59 + 3 * p1.toNatClampNeg))))
theorem hinX2_quickBy_X2 : ∀ w ∈ u_ws RX2 TX2 4, w ∈ wsX2_quickBy := by decide +kernel
set_option maxHeartbeats 4000000 in
set_option maxRecDepth 100000 in
theorem w_X2_quickBy {p : Program} {l : Launch} {e : Env} {R : Room} {s : State} {m : MethodId} {args : Array Value} {below : List Frame} {meth : Method} {c : Code} {Q : State → Prop} (hfr : 1 ≤ R.frames) (hlo : 22 ≤ R.locals) {D : va_G} {a0 : Nat → Nat} {A : Nat → Prop} {cy : Nat → ClassId} {ad : Nat → Nat} (hD : zD A 74 ad) {I : zI} {J : zJ} (p1 : Int32) {rx : Nat} (hf : f_X2_quickBy I J p1 = some rx) {ls : Array Slot} (S0 : zSt p m c cX2_quickBy 2 s args wsX2_quickBy RX2 D a0 A cy (zw 74 (kC cy ad a0) ad I J) [.ref (ad 34), .int p1] ls) (hret : ∀ (tx : Nat), some tx = some rx → ∀ (H : Heap) (locs : List Loc) (ls : Array Slot) (pc : Nat), va_P D vwCl (zw 74 (kC cy ad a0) ad I J) H → va_S A s.heap H locs → decode cX2_quickBy pc = .ok (.areturn, 1) → W p l e R s m args below meth c H locs 0 0 Q (F0 m pc ls [.ref (ad tx)])) : W p l e R s m args below meth c s.heap [] 0 0 Q (F0 m 0 ls []) := by
  obtain ⟨S, E, hP, hl⟩ := S0
  obtain ⟨hx, hb, hml, hown, hts⟩ := id S
  have hS : va_S A s.heap s.heap [] := va_S.rf
  replace hl : lv_has ls 2 [(0, .ref (ad 34)), (1, .int p1)] := hl
  unfold f_X2_quickBy at hf
  refine lv_aload_n hx hb dX2_quickBy_0 rfl (lv_at hl 0 rfl) ?_
  refine va_get (D := D) (ci := 2) (v := .ref (ad 36)) (C := RX2) (T := TX2) (N := 4) hx hb hts hinX2_quickBy_X2 hown E.1 hP 34 (zO.get (oX2_at)) rfl 3 (by decide) (hts (.fieldLink RX2 17 "EdgeAndSpeed$Hands" "quick" "[LEdgeAndSpeed$Plan;") (by decide +kernel)) (fun _ h9 => h9) rfl dX2_quickBy_1 ?_
  refine lv_iload_n hx hb dX2_quickBy_4 rfl (lv_at hl 1 rfl) ?_
  refine lv_iconst (v := 0) hx hb dX2_quickBy_5 (by decide) ?_
  refine lv_iconst (v := 3) hx hb dX2_quickBy_6 (by decide) ?_
  obtain ⟨x1, h2, hf⟩ := zb1_e hf
  refine zgo_i (zrunSN (As := [.int p1, .int 0, .int 3]) (rest := [.ref (ad 36)]) S (c_X11_within l hD p1 0 3 h2) ⟨va_cnB (host := "EdgeAndSpeed") 3 hts gX2_quickBy_X11_within_n54 rfl rfl rfl (zNmw_3 E.2.2) (hts (.initialized RX11) (by decide +kernel)) ddX11_within ⟨Nat.le_trans (Nat.le_of_ble_eq_true rfl) hfr, Nat.le_trans (Nat.le_of_ble_eq_true rfl) hlo⟩, hts (.static yX11_within) (by decide +kernel), trivial⟩ E hP hS hl.1 rfl rfl (Nat.le_of_ble_eq_true rfl) dX2_quickBy_7) hS (fun H locs hP hS => ?_)
  refine lv_if_eq (tgt := 17) hx hb dX2_quickBy_10 (by decide) (fun k3 => ?_) (fun k3 => ?_)
  · replace hf := zt k3 hf
    refine lv_iconst (v := 0) hx hb dX2_quickBy_17 (by decide) ?_
    obtain ⟨g4, hf⟩ := zg_i hf
    refine va_aldq (C := "EdgeAndSpeed$Plan") hx hb E.1 hP 36 5 (zRA.get aX2_3) rfl g4 dX2_quickBy_18 ?_
    exact hret _ hf _ _ _ _ hP hS dX2_quickBy_19
  · replace hf := zf k3 hf
    refine lv_iload_n hx hb dX2_quickBy_13 rfl (lv_at hl 1 rfl) ?_
    refine lv_goto (tgt := 18) hx hb dX2_quickBy_14 (by decide) ?_
    obtain ⟨g5, hf⟩ := zg_i hf
    refine va_aldq (C := "EdgeAndSpeed$Plan") hx hb E.1 hP 36 5 (zRA.get aX2_3) rfl g5 dX2_quickBy_18 ?_
    exact hret _ hf _ _ _ _ hP hS dX2_quickBy_19
theorem c_X2_quickBy (l : Launch) {D : va_G} {a0 : Nat → Nat} {A : Nat → Prop} {cy : Nat → ClassId} {ad : Nat → Nat} (hD : zD A 74 ad) {I : zI} {J : zJ} (p1 : Int32) {rx : Nat} (hf : f_X2_quickBy I J p1 = some rx) : Met l yX2_quickBy wsX2_quickBy { frames := 1, cells := 0, slots := 0, locals := 22 } (zPc D a0 A cy [.ref (ad 34), .int p1] (zw 74 (kC cy ad a0) ad I J)) (zQr D A (ad rx) (zw 74 (kC cy ad a0) ad I J)) 0 0 A :=
  zmet RX2 (by decide) rfl rfl (Nat.le_of_ble_eq_true rfl) (fun p e R s m below meth c Q hfr hlo ls S0 hQ => w_X2_quickBy hfr hlo hD p1 hf S0 (fun tx hq H locs ls pc hP hS hd => by cases hq; exact hQ H locs _ hS (fun hx hb hr hlocks hfree => W.aret hx hb hr (Or.inl ⟨_, rfl⟩) (Or.inr ⟨_, rfl⟩) (fun t ht hW => ⟨⟨(), _, rfl, trivial, rfl, zht ht hP⟩, hS.F ht⟩) hfree hd hlocks)))
theorem ddX2_quickBy : yX2_quickBy.cls = RX2 ∧ yX2_quickBy.cls ≠ "java/lang/invoke/MethodHandle" ∧ yX2_quickBy.cls ≠ "java/lang/invoke/VarHandle" ∧ (parseMethodDescriptor yX2_quickBy.desc).map (fun d => d.parameters.length) = some 1 := by decide +kernel

def f_X2_prepare (I : zI) (J : zJ) (p1 : Int32) (p2 : Int32) : Option (zI × zJ) := (if p1 = 0 then zb1 (f_X2_bestBy I J p2) (fun q9 => zg (zPn q9) (zb2 (f_X6_solve I J q9 0 p2) (fun I12 J13 => some (I12, J13)))) else (if p1 = 4 then zb1 (f_X2_quickBy I J p2) (fun q3 => zg (zPn q3) (zb2 (f_X6_solve I J q3 1 p2) (fun I6 J7 => some (I6, J7)))) else some (I, J)))
set_option maxHeartbeats 4000000 in
set_option maxRecDepth 100000 in
theorem w_X2_prepare {p : Program} {l : Launch} {e : Env} {R : Room} {s : State} {m : MethodId} {args : Array Value} {below : List Frame} {meth : Method} {c : Code} {Q : State → Prop} (hfr : 6 ≤ R.frames) (hlo : 152 ≤ R.locals) {D : va_G} {a0 : Nat → Nat} {A : Nat → Prop} {cy : Nat → ClassId} {ad : Nat → Nat} (hD : zD A 74 ad) {I : zI} {J : zJ} (p1 : Int32) (p2 : Int32) {rI : zI} {rJ : zJ} (hf : f_X2_prepare I J p1 p2 = some (rI, rJ)) {ls : Array Slot} (S0 : zSt p m c cX2_prepare 3 s args wsX2_prepare RX2 D a0 A cy (zw 74 (kC cy ad a0) ad I J) [.ref (ad 34), .int p1, .int p2] ls) (hret : ∀ (tI : zI) (tJ : zJ), some (tI, tJ) = some (rI, rJ) → ∀ (H : Heap) (locs : List Loc) (ls : Array Slot) (pc : Nat), va_P D vwCl (zw 74 (kC cy ad a0) ad tI tJ) H → va_S A s.heap H locs → decode cX2_prepare pc = .ok (.return_, 1) → W p l e R s m args below meth c H locs 0 0 Q (F0 m pc ls [])) : W p l e R s m args below meth c s.heap [] 0 0 Q (F0 m 0 ls []) := by
  obtain ⟨S, E, hP, hl⟩ := S0
  obtain ⟨hx, hb, hml, hown, hts⟩ := id S
  have hS : va_S A s.heap s.heap [] := va_S.rf
  replace hl : lv_has ls 3 [(0, .ref (ad 34)), (1, .int p1), (2, .int p2)] := hl
  unfold f_X2_prepare at hf
  refine lv_iload_n hx hb dX2_prepare_0 rfl (lv_at hl 1 rfl) ?_
  refine lv_if_ne (tgt := 19) hx hb dX2_prepare_1 (by decide) (fun k1 => ?_) (fun k1 => ?_)
  · replace hf := zf k1 hf
    refine lv_iload_n hx hb dX2_prepare_19 rfl (lv_at hl 1 rfl) ?_
    refine lv_iconst (v := 4) hx hb dX2_prepare_20 (by decide) ?_
    refine lv_icmp_ne (tgt := 36) hx hb dX2_prepare_21 (by decide) (fun k2 => ?_) (fun k2 => ?_)
    · replace hf := zf k2 hf
      exact hret _ _ hf _ _ _ _ hP hS dX2_prepare_36
    · replace hf := zt k2 hf
      refine lv_aload_n hx hb dX2_prepare_24 rfl (lv_at hl 0 rfl) ?_
      refine lv_iload_n hx hb dX2_prepare_25 rfl (lv_at hl 2 rfl) ?_
      obtain ⟨q3, h4, hf⟩ := zb1_e hf
      refine zgo_r (zrunV (As := [.int p2]) (rest := []) S (c_X2_quickBy l hD p2 h4) (cwV 1 hts gX2_prepare_X2_quickBy rfl rfl rfl ddX2_quickBy ⟨Nat.le_trans (Nat.le_of_ble_eq_true rfl) hfr, Nat.le_trans (Nat.le_of_ble_eq_true rfl) hlo⟩) (va_recv E.1 hP (q := (RX2, TX2, 4)) (ci := 2) rfl (zO.get (oX2_at))) E hP hS hl.1 rfl rfl (Nat.le_of_ble_eq_true rfl) dX2_prepare_26) hS (fun H locs hP hS => ?_)
      obtain ⟨g5, hf⟩ := zg_i hf
      refine va_gets (v := .ref (a0 1)) hx hb ((E.2.1 1 (by decide)).1) hS hown (hts (.fieldLink RX2 51 "EdgeAndSpeed$Measure" "HASTE" "LEdgeAndSpeed$Measure;") (by decide +kernel)) (fun _ h9 => h9) dX2_prepare_29 ?_
      refine lv_iload_n hx hb dX2_prepare_32 rfl (lv_at hl 2 rfl) ?_
      obtain ⟨I6, J7, h8, hf⟩ := zb2_e hf
      refine zgo_v (zrunV (As := [.ref (a0 1), .int p2]) (rest := []) S (c_X6_solve l hD q3 g5 1 p2 h8) (cwV 2 hts gX2_prepare_X6_solve rfl rfl rfl ddX6_solve ⟨Nat.le_trans (Nat.le_of_ble_eq_true rfl) hfr, Nat.le_trans (Nat.le_of_ble_eq_true rfl) hlo⟩) (va_recv E.1 hP (q := (RX6, TX6, 7)) (ci := 5) rfl (zO.get (oX6_at g5))) E hP hS hl.1 rfl rfl (Nat.le_of_ble_eq_true rfl) dX2_prepare_33) hS (fun H locs hP hS => ?_)
      exact hret _ _ hf _ _ _ _ hP hS dX2_prepare_36
  · replace hf := zt k1 hf
    refine lv_aload_n hx hb dX2_prepare_4 rfl (lv_at hl 0 rfl) ?_
    refine lv_iload_n hx hb dX2_prepare_5 rfl (lv_at hl 2 rfl) ?_
    obtain ⟨q9, h10, hf⟩ := zb1_e hf
    refine zgo_r (zrunV (As := [.int p2]) (rest := []) S (c_X2_bestBy l hD p2 h10) (cwV 1 hts gX2_prepare_X2_bestBy rfl rfl rfl ddX2_bestBy ⟨Nat.le_trans (Nat.le_of_ble_eq_true rfl) hfr, Nat.le_trans (Nat.le_of_ble_eq_true rfl) hlo⟩) (va_recv E.1 hP (q := (RX2, TX2, 4)) (ci := 2) rfl (zO.get (oX2_at))) E hP hS hl.1 rfl rfl (Nat.le_of_ble_eq_true rfl) dX2_prepare_6) hS (fun H locs hP hS => ?_)
    obtain ⟨g11, hf⟩ := zg_i hf
    refine va_gets (v := .ref (a0 0)) hx hb ((E.2.1 0 (by decide)).1) hS hown (hts (.fieldLink RX2 38 "EdgeAndSpeed$Measure" "VALUE" "LEdgeAndSpeed$Measure;") (by decide +kernel)) (fun _ h9 => h9) dX2_prepare_9 ?_
    refine lv_iload_n hx hb dX2_prepare_12 rfl (lv_at hl 2 rfl) ?_
    obtain ⟨I12, J13, h14, hf⟩ := zb2_e hf
    refine zgo_v (zrunV (As := [.ref (a0 0), .int p2]) (rest := []) S (c_X6_solve l hD q9 g11 0 p2 h14) (cwV 2 hts gX2_prepare_X6_solve rfl rfl rfl ddX6_solve ⟨Nat.le_trans (Nat.le_of_ble_eq_true rfl) hfr, Nat.le_trans (Nat.le_of_ble_eq_true rfl) hlo⟩) (va_recv E.1 hP (q := (RX6, TX6, 7)) (ci := 5) rfl (zO.get (oX6_at g11))) E hP hS hl.1 rfl rfl (Nat.le_of_ble_eq_true rfl) dX2_prepare_13) hS (fun H locs hP hS => ?_)
    refine lv_goto (tgt := 36) hx hb dX2_prepare_16 (by decide) ?_
    exact hret _ _ hf _ _ _ _ hP hS dX2_prepare_36
theorem c_X2_prepare (l : Launch) {D : va_G} {a0 : Nat → Nat} {A : Nat → Prop} {cy : Nat → ClassId} {ad : Nat → Nat} (hD : zD A 74 ad) {I : zI} {J : zJ} (p1 : Int32) (p2 : Int32) {rI : zI} {rJ : zJ} (hf : f_X2_prepare I J p1 p2 = some (rI, rJ)) : Met l yX2_prepare wsX2_prepare { frames := 6, cells := 0, slots := 0, locals := 152 } (zPc D a0 A cy [.ref (ad 34), .int p1, .int p2] (zw 74 (kC cy ad a0) ad I J)) (zQv D A (zw 74 (kC cy ad a0) ad rI rJ)) 0 0 A :=
  zmet RX2 (by decide) rfl rfl (Nat.le_of_ble_eq_true rfl) (fun p e R s m below meth c Q hfr hlo ls S0 hQ => w_X2_prepare hfr hlo hD p1 p2 hf S0 (fun tI tJ hq H locs ls pc hP hS hd => by cases hq; exact hQ H locs _ hS (fun hx hb hr hlocks hfree => W.vret hx hb hr (fun t ht hW => ⟨⟨(), rfl, trivial, zht ht hP⟩, hS.F ht⟩) hfree hd hlocks)))
theorem ddX2_prepare : yX2_prepare.cls = RX2 ∧ yX2_prepare.cls ≠ "java/lang/invoke/MethodHandle" ∧ yX2_prepare.cls ≠ "java/lang/invoke/VarHandle" ∧ (parseMethodDescriptor yX2_prepare.desc).map (fun d => d.parameters.length) = some 2 := by decide +kernel

def f_X0_deepest (I : zI) (J : zJ) (o : Nat) (p1 : Int32) (p2 : Int32) : Option Int32 := zb1 (f_X11_at I J (o + 1) 6 p1) (fun x1 => (if 1 ≤ x1 then zg (¬ x1 = 0) (some (if (if ((I o 16) / x1) < (I o 15) then ((I o 16) / x1) else (I o 15)) < p2 then (if ((I o 16) / x1) < (I o 15) then ((I o 16) / x1) else (I o 15)) else p2)) else some 0))
theorem hinX0_deepest_X0 : ∀ w ∈ u_ws RX0 TX0 17, w ∈ wsX0_deepest := by decide +kernel
set_option maxHeartbeats 4000000 in
set_option maxRecDepth 100000 in
theorem w_X0_deepest {p : Program} {l : Launch} {e : Env} {R : Room} {s : State} {m : MethodId} {args : Array Value} {below : List Frame} {meth : Method} {c : Code} {Q : State → Prop} (hfr : 1 ≤ R.frames) (hlo : 24 ≤ R.locals) {D : va_G} {a0 : Nat → Nat} {A : Nat → Prop} {cy : Nat → ClassId} {ad : Nat → Nat} {N : Nat} {K : zK} (hD : zD A N ad) {I : zI} {J : zJ} (o : Nat) (hB : zBat N K cy ad o) (p1 : Int32) (p2 : Int32) {rx : Int32} (hf : f_X0_deepest I J o p1 p2 = some rx) {ls : Array Slot} (S0 : zSt p m c cX0_deepest 4 s args wsX0_deepest RX0 D a0 A cy (zw N K ad I J) [.ref (ad o), .int p1, .int p2] ls) (hret : ∀ (tx : Int32), some tx = some rx → ∀ (H : Heap) (locs : List Loc) (ls : Array Slot) (pc : Nat), va_P D vwCl (zw N K ad I J) H → va_S A s.heap H locs → decode cX0_deepest pc = .ok (.ireturn, 1) → W p l e R s m args below meth c H locs 0 0 Q (F0 m pc ls [.int tx])) : W p l e R s m args below meth c s.heap [] 0 0 Q (F0 m 0 ls []) := by
  obtain ⟨S, E, hP, hl⟩ := S0
  obtain ⟨hx, hb, hml, hown, hts⟩ := id S
  have hS : va_S A s.heap s.heap [] := va_S.rf
  replace hl : lv_has ls 4 [(0, .ref (ad o)), (1, .int p1), (2, .int p2)] := hl
  unfold f_X0_deepest at hf
  refine lv_aload_n hx hb dX0_deepest_0 rfl (lv_at hl 0 rfl) ?_
  refine va_get (D := D) (ci := 0) (v := .ref (ad (o + 1))) (C := RX0) (T := TX0) (N := 17) hx hb hts hinX0_deepest_X0 hown E.1 hP o (zO.get (zBat_o hB)) rfl 0 (by decide) (hts (.fieldLink RX0 9 "EdgeAndSpeed$Bench" "inches" "[I") (by decide +kernel)) (fun _ h9 => h9) rfl dX0_deepest_1 ?_
  refine lv_iload_n hx hb dX0_deepest_4 rfl (lv_at hl 1 rfl) ?_
  obtain ⟨x1, h2, hf⟩ := zb1_e hf
  refine zgo_i (zrunSN (As := [.ref (ad (o + 1)), .int p1]) (rest := []) S (c_X11_at l hD (o + 1) 6 (zBat_0 hB) p1 h2) ⟨va_cnB (host := "EdgeAndSpeed") 2 hts gX0_deepest_X11_at_n85 rfl rfl rfl (zNmw_1 E.2.2) (hts (.initialized RX11) (by decide +kernel)) ddX11_at ⟨Nat.le_trans (Nat.le_of_ble_eq_true rfl) hfr, Nat.le_trans (Nat.le_of_ble_eq_true rfl) hlo⟩, hts (.static yX11_at) (by decide +kernel), trivial⟩ E hP hS hl.1 rfl rfl (Nat.le_of_ble_eq_true rfl) dX0_deepest_5) hS (fun H locs hP hS => ?_)
  refine lv_istore_n (lv' := [(3, .int x1), (0, .ref (ad o)), (1, .int p1), (2, .int p2)]) hx hb dX0_deepest_8 rfl hl (by decide) rfl (fun ls hl => ?_)
  refine lv_iload_n hx hb dX0_deepest_9 rfl (lv_at hl 0 rfl) ?_
  refine lv_iconst (v := 1) hx hb dX0_deepest_10 (by decide) ?_
  refine lv_icmp_ge (tgt := 18) hx hb dX0_deepest_11 (by decide) (fun k3 => ?_) (fun k3 => ?_)
  · replace hf := zt k3 hf
    refine lv_iload_n hx hb dX0_deepest_18 rfl (lv_at hl 3 rfl) ?_
    refine lv_aload_n hx hb dX0_deepest_19 rfl (lv_at hl 1 rfl) ?_
    refine va_get (D := D) (ci := 0) (v := .int (I o 15)) (C := RX0) (T := TX0) (N := 17) hx hb hts hinX0_deepest_X0 hown E.1 hP o (zO.get (zBat_o hB)) rfl 15 (by decide) (hts (.fieldLink RX0 73 "EdgeAndSpeed$Bench" "mostSteps" "I") (by decide +kernel)) (fun _ h9 => h9) rfl dX0_deepest_20 ?_
    refine lv_aload_n hx hb dX0_deepest_23 rfl (lv_at hl 1 rfl) ?_
    refine va_get (D := D) (ci := 0) (v := .int (I o 16)) (C := RX0) (T := TX0) (N := 17) hx hb hts hinX0_deepest_X0 hown E.1 hP o (zO.get (zBat_o hB)) rfl 16 (by decide) (hts (.fieldLink RX0 76 "EdgeAndSpeed$Bench" "mostWork" "I") (by decide +kernel)) (fun _ h9 => h9) rfl dX0_deepest_24 ?_
    refine lv_iload_n hx hb dX0_deepest_27 rfl (lv_at hl 0 rfl) ?_
    obtain ⟨g4, hf⟩ := zg_i hf
    refine lv_idiv hx hb dX0_deepest_28 g4 ?_
    refine va_mmin hx hb (hml.trans hl.1.symm) hown (hts (.methodLink RX0 131 Lib.Math.min.name) (by decide +kernel)) (hts (.static Lib.Math.min.name) (by decide +kernel)) (hts (.initialized "java/lang/Math") (by decide +kernel)) (hts (.code Lib.Math.min.name Lib.Math.min.code 2 (some .int)) (by decide +kernel)) (Nat.le_trans (Nat.le_of_ble_eq_true rfl) hfr) (Nat.le_trans (Nat.le_of_ble_eq_true rfl) hlo) (Nat.zero_le _) (Nat.zero_le _) dX0_deepest_29 ?_
    refine va_mmin hx hb (hml.trans hl.1.symm) hown (hts (.methodLink RX0 131 Lib.Math.min.name) (by decide +kernel)) (hts (.static Lib.Math.min.name) (by decide +kernel)) (hts (.initialized "java/lang/Math") (by decide +kernel)) (hts (.code Lib.Math.min.name Lib.Math.min.code 2 (some .int)) (by decide +kernel)) (Nat.le_trans (Nat.le_of_ble_eq_true rfl) hfr) (Nat.le_trans (Nat.le_of_ble_eq_true rfl) hlo) (Nat.zero_le _) (Nat.zero_le _) dX0_deepest_32 ?_
    exact hret _ hf _ _ _ _ hP hS dX0_deepest_35
  · replace hf := zf k3 hf
    refine lv_iconst (v := 0) hx hb dX0_deepest_14 (by decide) ?_
    refine lv_goto (tgt := 35) hx hb dX0_deepest_15 (by decide) ?_
    exact hret _ hf _ _ _ _ hP hS dX0_deepest_35
theorem c_X0_deepest (l : Launch) {D : va_G} {a0 : Nat → Nat} {A : Nat → Prop} {cy : Nat → ClassId} {ad : Nat → Nat} {N : Nat} {K : zK} (hD : zD A N ad) {I : zI} {J : zJ} (o : Nat) (hB : zBat N K cy ad o) (p1 : Int32) (p2 : Int32) {rx : Int32} (hf : f_X0_deepest I J o p1 p2 = some rx) : Met l yX0_deepest wsX0_deepest { frames := 1, cells := 0, slots := 0, locals := 24 } (zPc D a0 A cy [.ref (ad o), .int p1, .int p2] (zw N K ad I J)) (zQi D A rx (zw N K ad I J)) 0 0 A :=
  zmet RX0 (by decide) rfl rfl (Nat.le_of_ble_eq_true rfl) (fun p e R s m below meth c Q hfr hlo ls S0 hQ => w_X0_deepest hfr hlo hD o hB p1 p2 hf S0 (fun tx hq H locs ls pc hP hS hd => by cases hq; exact hQ H locs _ hS (fun hx hb hr hlocks hfree => W.iret hx hb hr (fun t ht hW => ⟨⟨_, (), rfl, rfl, zht ht hP⟩, hS.F ht⟩) hfree hd hlocks)))
theorem ddX0_deepest : yX0_deepest.cls = RX0 ∧ yX0_deepest.cls ≠ "java/lang/invoke/MethodHandle" ∧ yX0_deepest.cls ≠ "java/lang/invoke/VarHandle" ∧ (parseMethodDescriptor yX0_deepest.desc).map (fun d => d.parameters.length) = some 2 := by decide +kernel

def f_X2_passOf (I : zI) (J : zJ) (p1 : Int32) (p2 : Int32) : Option Int32 := some (((p1 * 8) + p2) - 1)
set_option maxHeartbeats 4000000 in
set_option maxRecDepth 100000 in
theorem w_X2_passOf {p : Program} {l : Launch} {e : Env} {R : Room} {s : State} {m : MethodId} {args : Array Value} {below : List Frame} {meth : Method} {c : Code} {Q : State → Prop} (hfr : 0 ≤ R.frames) (hlo : 0 ≤ R.locals) {D : va_G} {a0 : Nat → Nat} {A : Nat → Prop} {cy : Nat → ClassId} {ad : Nat → Nat} (hD : zD A 74 ad) {I : zI} {J : zJ} (p1 : Int32) (p2 : Int32) {rx : Int32} (hf : f_X2_passOf I J p1 p2 = some rx) {ls : Array Slot} (S0 : zSt p m c cX2_passOf 2 s args wsX2_passOf RX2 D a0 A cy (zw 74 (kC cy ad a0) ad I J) [.int p1, .int p2] ls) (hret : ∀ (tx : Int32), some tx = some rx → ∀ (H : Heap) (locs : List Loc) (ls : Array Slot) (pc : Nat), va_P D vwCl (zw 74 (kC cy ad a0) ad I J) H → va_S A s.heap H locs → decode cX2_passOf pc = .ok (.ireturn, 1) → W p l e R s m args below meth c H locs 0 0 Q (F0 m pc ls [.int tx])) : W p l e R s m args below meth c s.heap [] 0 0 Q (F0 m 0 ls []) := by
  obtain ⟨S, E, hP, hl⟩ := S0
  obtain ⟨hx, hb, hml, hown, hts⟩ := id S
  have hS : va_S A s.heap s.heap [] := va_S.rf
  replace hl : lv_has ls 2 [(0, .int p1), (1, .int p2)] := hl
  unfold f_X2_passOf at hf
  refine lv_iload_n hx hb dX2_passOf_0 rfl (lv_at hl 0 rfl) ?_
  refine lv_bipush (v := 8) hx hb dX2_passOf_1 (by decide) ?_
  refine lv_imul hx hb dX2_passOf_3 ?_
  refine lv_iload_n hx hb dX2_passOf_4 rfl (lv_at hl 1 rfl) ?_
  refine lv_iadd hx hb dX2_passOf_5 ?_
  refine lv_iconst (v := 1) hx hb dX2_passOf_6 (by decide) ?_
  refine lv_isub hx hb dX2_passOf_7 ?_
  exact hret _ hf _ _ _ _ hP hS dX2_passOf_8
theorem c_X2_passOf (l : Launch) {D : va_G} {a0 : Nat → Nat} {A : Nat → Prop} {cy : Nat → ClassId} {ad : Nat → Nat} (hD : zD A 74 ad) {I : zI} {J : zJ} (p1 : Int32) (p2 : Int32) {rx : Int32} (hf : f_X2_passOf I J p1 p2 = some rx) : Met l yX2_passOf wsX2_passOf { frames := 0, cells := 0, slots := 0, locals := 0 } (zPc D a0 A cy [.int p1, .int p2] (zw 74 (kC cy ad a0) ad I J)) (zQi D A rx (zw 74 (kC cy ad a0) ad I J)) 0 0 A :=
  zmet RX2 (by decide) rfl rfl (Nat.le_of_ble_eq_true rfl) (fun p e R s m below meth c Q hfr hlo ls S0 hQ => w_X2_passOf hfr hlo hD p1 p2 hf S0 (fun tx hq H locs ls pc hP hS hd => by cases hq; exact hQ H locs _ hS (fun hx hb hr hlocks hfree => W.iret hx hb hr (fun t ht hW => ⟨⟨_, (), rfl, rfl, zht ht hP⟩, hS.F ht⟩) hfree hd hlocks)))
theorem ddX2_passOf : yX2_passOf.cls ≠ "java/lang/invoke/MethodHandle" ∧ yX2_passOf.cls ≠ "java/lang/invoke/VarHandle" ∧ (parseMethodDescriptor yX2_passOf.desc).map (fun d => d.parameters.length) = some 2 := by decide +kernel

def f_X2_bySpeed (I : zI) (J : zJ) (p1 : Int32) (p2 : Int32) (p3 : Int32) (p4 : Int32) : Option Int32 := zb1 (f_X0_deepest I J 4 p1 p3) (fun x1 => (if x1 = 0 then some 49 else zb1 ((if (I 24 4) < p4 then some (1) else (if x1 = p3 then zb1 (f_X0_fineOf I J 4 p2) (fun x8 => (if p4 ≤ x8 then some (0) else some (1))) else some (0))) : Option Int32) (fun x11 => (if x11 = 0 then zb1 (f_X2_passOf I J p1 x1) (fun x13 => some x13) else some 48))))
theorem hinX2_bySpeed_X2 : ∀ w ∈ u_ws RX2 TX2 4, w ∈ wsX2_bySpeed := by decide +kernel
theorem hinX2_bySpeed_X1 : ∀ w ∈ u_ws RX1 TX1 6, w ∈ wsX2_bySpeed := by decide +kernel
set_option maxHeartbeats 4000000 in
set_option maxRecDepth 100000 in
theorem w_X2_bySpeed {p : Program} {l : Launch} {e : Env} {R : Room} {s : State} {m : MethodId} {args : Array Value} {below : List Frame} {meth : Method} {c : Code} {Q : State → Prop} (hfr : 2 ≤ R.frames) (hlo : 47 ≤ R.locals) {D : va_G} {a0 : Nat → Nat} {A : Nat → Prop} {cy : Nat → ClassId} {ad : Nat → Nat} (hD : zD A 74 ad) {I : zI} {J : zJ} (p1 : Int32) (p2 : Int32) (p3 : Int32) (p4 : Int32) {rx : Int32} (hf : f_X2_bySpeed I J p1 p2 p3 p4 = some rx) {ls : Array Slot} (S0 : zSt p m c cX2_bySpeed 7 s args wsX2_bySpeed RX2 D a0 A cy (zw 74 (kC cy ad a0) ad I J) [.ref (ad 34), .int p1, .int p2, .int p3, .int p4] ls) (hret : ∀ (tx : Int32), some tx = some rx → ∀ (H : Heap) (locs : List Loc) (ls : Array Slot) (pc : Nat), va_P D vwCl (zw 74 (kC cy ad a0) ad I J) H → va_S A s.heap H locs → decode cX2_bySpeed pc = .ok (.ireturn, 1) → W p l e R s m args below meth c H locs 0 0 Q (F0 m pc ls [.int tx])) : W p l e R s m args below meth c s.heap [] 0 0 Q (F0 m 0 ls []) := by
  obtain ⟨S, E, hP, hl⟩ := S0
  obtain ⟨hx, hb, hml, hown, hts⟩ := id S
  have hS : va_S A s.heap s.heap [] := va_S.rf
  replace hl : lv_has ls 7 [(0, .ref (ad 34)), (1, .int p1), (2, .int p2), (3, .int p3), (4, .int p4)] := hl
  unfold f_X2_bySpeed at hf
  refine lv_aload_n hx hb dX2_bySpeed_0 rfl (lv_at hl 0 rfl) ?_
  refine va_get (D := D) (ci := 2) (v := .ref (ad 4)) (C := RX2) (T := TX2) (N := 4) hx hb hts hinX2_bySpeed_X2 hown E.1 hP 34 (zO.get (oX2_at)) rfl 0 (by decide) (hts (.fieldLink RX2 20 "EdgeAndSpeed$Hands" "bench" "LEdgeAndSpeed$Bench;") (by decide +kernel)) (fun _ h9 => h9) rfl dX2_bySpeed_1 ?_
  refine lv_iload_n hx hb dX2_bySpeed_4 rfl (lv_at hl 1 rfl) ?_
  refine lv_iload_n hx hb dX2_bySpeed_5 rfl (lv_at hl 3 rfl) ?_
  obtain ⟨x1, h2, hf⟩ := zb1_e hf
  refine zgo_i (zrunV (As := [.int p1, .int p3]) (rest := []) S (c_X0_deepest l hD 4 (zBat_C (by decide)) p1 p3 h2) (cwV 2 hts gX2_bySpeed_X0_deepest rfl rfl rfl ddX0_deepest ⟨Nat.le_trans (Nat.le_of_ble_eq_true rfl) hfr, Nat.le_trans (Nat.le_of_ble_eq_true rfl) hlo⟩) (va_recv E.1 hP (q := (RX0, TX0, 17)) (ci := 0) rfl (zO.get (zBat_o (zBat_C (by decide))))) E hP hS hl.1 rfl rfl (Nat.le_of_ble_eq_true rfl) dX2_bySpeed_6) hS (fun H locs hP hS => ?_)
  refine lv_istore (lv' := [(5, .int x1), (0, .ref (ad 34)), (1, .int p1), (2, .int p2), (3, .int p3), (4, .int p4)]) hx hb dX2_bySpeed_9 hl (by decide) rfl (fun ls hl => ?_)
  refine lv_iload hx hb dX2_bySpeed_11 (lv_at hl 0 rfl) ?_
  refine lv_if_ne (tgt := 19) hx hb dX2_bySpeed_13 (by decide) (fun k3 => ?_) (fun k3 => ?_)
  · replace hf := zf k3 hf
    refine lv_iload hx hb dX2_bySpeed_19 (lv_at hl 5 rfl) ?_
    refine lv_aload_n hx hb dX2_bySpeed_21 rfl (lv_at hl 1 rfl) ?_
    refine va_get (D := D) (ci := 2) (v := .ref (ad 24)) (C := RX2) (T := TX2) (N := 4) hx hb hts hinX2_bySpeed_X2 hown E.1 hP 34 (zO.get (oX2_at)) rfl 1 (by decide) (hts (.fieldLink RX2 24 "EdgeAndSpeed$Hands" "habits" "LEdgeAndSpeed$Habits;") (by decide +kernel)) (fun _ h9 => h9) rfl dX2_bySpeed_22 ?_
    refine va_getN (D := D) (ci := 1) (v := .int (I 24 4)) (C := RX1) (T := TX1) (N := 6) hx hb hts hinX2_bySpeed_X1 hown E.1 hP 24 (zO.get (oX1_at (by decide))) rfl 4 (by decide) (zNfw_14 E.2.2) (fun _ h9 => h9) rfl dX2_bySpeed_25 ?_
    obtain ⟨zr6, hf, hzr6⟩ := zb1_i hf
    have hjr6 : ∀ (x11 : Int32), x11 = zr6 → ∀ (H : Heap) (locs : List Loc) (ls : Array Slot), va_P D vwCl (zw 74 (kC cy ad a0) ad I J) H → va_S A s.heap H locs → lv_has ls 7 [(1, .int p1), (5, .int x1)] → W p l e R s m args below meth c H locs 0 0 Q (F0 m 55 ls [.int x11]) := by
      intro x11 ez H locs ls hP hS hl
      have hf := hzr6 x11 ez
      refine lv_istore (lv' := [(6, .int x11), (1, .int p1), (5, .int x1)]) hx hb dX2_bySpeed_55 hl (by decide) rfl (fun ls hl => ?_)
      refine lv_iload hx hb dX2_bySpeed_57 (lv_at hl 0 rfl) ?_
      refine lv_if_eq (tgt := 67) hx hb dX2_bySpeed_59 (by decide) (fun k12 => ?_) (fun k12 => ?_)
      · replace hf := zt k12 hf
        refine lv_iload_n hx hb dX2_bySpeed_67 rfl (lv_at hl 1 rfl) ?_
        refine lv_iload hx hb dX2_bySpeed_68 (lv_at hl 2 rfl) ?_
        obtain ⟨x13, h14, hf⟩ := zb1_e hf
        refine zgo_i (zrunS (As := [.int p1, .int x1]) (rest := []) S (c_X2_passOf l hD p1 x1 h14) (va_cwS 2 hts gX2_bySpeed_X2_passOf rfl rfl rfl ddX2_passOf ⟨Nat.le_trans (Nat.le_of_ble_eq_true rfl) hfr, Nat.le_trans (Nat.le_of_ble_eq_true rfl) hlo⟩) E hP hS hl.1 rfl rfl (Nat.le_of_ble_eq_true rfl) dX2_bySpeed_70) hS (fun H locs hP hS => ?_)
        exact hret _ hf _ _ _ _ hP hS dX2_bySpeed_73
      · replace hf := zf k12 hf
        refine lv_bipush (v := 48) hx hb dX2_bySpeed_62 (by decide) ?_
        refine lv_goto (tgt := 73) hx hb dX2_bySpeed_64 (by decide) ?_
        exact hret _ hf _ _ _ _ hP hS dX2_bySpeed_73
    refine lv_icmp_gt (tgt := 50) hx hb dX2_bySpeed_28 (by decide) (fun k4 => ?_) (fun k4 => ?_)
    · replace hf := zt k4 hf
      refine lv_iconst (v := 1) hx hb dX2_bySpeed_50 (by decide) ?_
      refine lv_goto (tgt := 55) hx hb dX2_bySpeed_51 (by decide) ?_
      exact hjr6 _ (Option.some.inj hf) _ _ _ hP hS (lv_sub hl [2, 0] rfl)
    · replace hf := zf k4 hf
      refine lv_iload hx hb dX2_bySpeed_31 (lv_at hl 0 rfl) ?_
      refine lv_iload_n hx hb dX2_bySpeed_33 rfl (lv_at hl 4 rfl) ?_
      refine lv_icmp_ne (tgt := 54) hx hb dX2_bySpeed_34 (by decide) (fun k7 => ?_) (fun k7 => ?_)
      · replace hf := zf k7 hf
        refine lv_iconst (v := 0) hx hb dX2_bySpeed_54 (by decide) ?_
        exact hjr6 _ (Option.some.inj hf) _ _ _ hP hS (lv_sub hl [2, 0] rfl)
      · replace hf := zt k7 hf
        refine lv_iload hx hb dX2_bySpeed_37 (lv_at hl 5 rfl) ?_
        refine lv_aload_n hx hb dX2_bySpeed_39 rfl (lv_at hl 1 rfl) ?_
        refine va_get (D := D) (ci := 2) (v := .ref (ad 4)) (C := RX2) (T := TX2) (N := 4) hx hb hts hinX2_bySpeed_X2 hown E.1 hP 34 (zO.get (oX2_at)) rfl 0 (by decide) (hts (.fieldLink RX2 20 "EdgeAndSpeed$Hands" "bench" "LEdgeAndSpeed$Bench;") (by decide +kernel)) (fun _ h9 => h9) rfl dX2_bySpeed_40 ?_
        refine lv_iload_n hx hb dX2_bySpeed_43 rfl (lv_at hl 3 rfl) ?_
        obtain ⟨x8, h9, hf⟩ := zb1_e hf
        refine zgo_i (zrunV (As := [.int p2]) (rest := [.int p4]) S (c_X0_fineOf l hD 4 (zBat_C (by decide)) p2 h9) (cwV 1 hts gX2_bySpeed_X0_fineOf rfl rfl rfl ddX0_fineOf ⟨Nat.le_trans (Nat.le_of_ble_eq_true rfl) hfr, Nat.le_trans (Nat.le_of_ble_eq_true rfl) hlo⟩) (va_recv E.1 hP (q := (RX0, TX0, 17)) (ci := 0) rfl (zO.get (zBat_o (zBat_C (by decide))))) E hP hS hl.1 rfl rfl (Nat.le_of_ble_eq_true rfl) dX2_bySpeed_44) hS (fun H locs hP hS => ?_)
        refine lv_icmp_le (tgt := 54) hx hb dX2_bySpeed_47 (by decide) (fun k10 => ?_) (fun k10 => ?_)
        · replace hf := zt k10 hf
          refine lv_iconst (v := 0) hx hb dX2_bySpeed_54 (by decide) ?_
          exact hjr6 _ (Option.some.inj hf) _ _ _ hP hS (lv_sub hl [2, 0] rfl)
        · replace hf := zf k10 hf
          refine lv_iconst (v := 1) hx hb dX2_bySpeed_50 (by decide) ?_
          refine lv_goto (tgt := 55) hx hb dX2_bySpeed_51 (by decide) ?_
          exact hjr6 _ (Option.some.inj hf) _ _ _ hP hS (lv_sub hl [2, 0] rfl)
  · replace hf := zt k3 hf
    refine lv_bipush (v := 49) hx hb dX2_bySpeed_16 (by decide) ?_
    exact hret _ hf _ _ _ _ hP hS dX2_bySpeed_18
theorem c_X2_bySpeed (l : Launch) {D : va_G} {a0 : Nat → Nat} {A : Nat → Prop} {cy : Nat → ClassId} {ad : Nat → Nat} (hD : zD A 74 ad) {I : zI} {J : zJ} (p1 : Int32) (p2 : Int32) (p3 : Int32) (p4 : Int32) {rx : Int32} (hf : f_X2_bySpeed I J p1 p2 p3 p4 = some rx) : Met l yX2_bySpeed wsX2_bySpeed { frames := 2, cells := 0, slots := 0, locals := 47 } (zPc D a0 A cy [.ref (ad 34), .int p1, .int p2, .int p3, .int p4] (zw 74 (kC cy ad a0) ad I J)) (zQi D A rx (zw 74 (kC cy ad a0) ad I J)) 0 0 A :=
  zmet RX2 (by decide) rfl rfl (Nat.le_of_ble_eq_true rfl) (fun p e R s m below meth c Q hfr hlo ls S0 hQ => w_X2_bySpeed hfr hlo hD p1 p2 p3 p4 hf S0 (fun tx hq H locs ls pc hP hS hd => by cases hq; exact hQ H locs _ hS (fun hx hb hr hlocks hfree => W.iret hx hb hr (fun t ht hW => ⟨⟨_, (), rfl, rfl, zht ht hP⟩, hS.F ht⟩) hfree hd hlocks)))
theorem ddX2_bySpeed : yX2_bySpeed.cls = RX2 ∧ yX2_bySpeed.cls ≠ "java/lang/invoke/MethodHandle" ∧ yX2_bySpeed.cls ≠ "java/lang/invoke/VarHandle" ∧ (parseMethodDescriptor yX2_bySpeed.desc).map (fun d => d.parameters.length) = some 4 := by decide +kernel

def f_X2_isCounted (I : zI) (J : zJ) (p1 : Int32) : Option Int32 := (if p1 ≤ 0 then some 0 else (if (I 24 5) ≤ 0 then some 0 else zg (¬ (I 24 5) = 0) ((if (p1 - p1 / (I 24 5) * (I 24 5)) = 0 then some 1 else some 0))))
theorem hinX2_isCounted_X2 : ∀ w ∈ u_ws RX2 TX2 4, w ∈ wsX2_isCounted := by decide +kernel
theorem hinX2_isCounted_X1 : ∀ w ∈ u_ws RX1 TX1 6, w ∈ wsX2_isCounted := by decide +kernel
set_option maxHeartbeats 4000000 in
set_option maxRecDepth 100000 in
theorem w_X2_isCounted {p : Program} {l : Launch} {e : Env} {R : Room} {s : State} {m : MethodId} {args : Array Value} {below : List Frame} {meth : Method} {c : Code} {Q : State → Prop} (hfr : 0 ≤ R.frames) (hlo : 0 ≤ R.locals) {D : va_G} {a0 : Nat → Nat} {A : Nat → Prop} {cy : Nat → ClassId} {ad : Nat → Nat} (hD : zD A 74 ad) {I : zI} {J : zJ} (p1 : Int32) {rx : Int32} (hf : f_X2_isCounted I J p1 = some rx) {ls : Array Slot} (S0 : zSt p m c cX2_isCounted 2 s args wsX2_isCounted RX2 D a0 A cy (zw 74 (kC cy ad a0) ad I J) [.ref (ad 34), .int p1] ls) (hret : ∀ (tx : Int32), some tx = some rx → (tx = 0 ∨ tx = 1) → ∀ (H : Heap) (locs : List Loc) (ls : Array Slot) (pc : Nat), va_P D vwCl (zw 74 (kC cy ad a0) ad I J) H → va_S A s.heap H locs → decode cX2_isCounted pc = .ok (.ireturn, 1) → W p l e R s m args below meth c H locs 0 0 Q (F0 m pc ls [.int tx])) : W p l e R s m args below meth c s.heap [] 0 0 Q (F0 m 0 ls []) := by
  obtain ⟨S, E, hP, hl⟩ := S0
  obtain ⟨hx, hb, hml, hown, hts⟩ := id S
  have hS : va_S A s.heap s.heap [] := va_S.rf
  replace hl : lv_has ls 2 [(0, .ref (ad 34)), (1, .int p1)] := hl
  unfold f_X2_isCounted at hf
  refine lv_iload_n hx hb dX2_isCounted_0 rfl (lv_at hl 1 rfl) ?_
  refine lv_if_le (tgt := 30) hx hb dX2_isCounted_1 (by decide) (fun k1 => ?_) (fun k1 => ?_)
  · replace hf := zt k1 hf
    refine lv_iconst (v := 0) hx hb dX2_isCounted_30 (by decide) ?_
    exact hret _ hf (Or.inl rfl) _ _ _ _ hP hS dX2_isCounted_31
  · replace hf := zf k1 hf
    refine lv_aload_n hx hb dX2_isCounted_4 rfl (lv_at hl 0 rfl) ?_
    refine va_get (D := D) (ci := 2) (v := .ref (ad 24)) (C := RX2) (T := TX2) (N := 4) hx hb hts hinX2_isCounted_X2 hown E.1 hP 34 (zO.get (oX2_at)) rfl 1 (by decide) (hts (.fieldLink RX2 24 "EdgeAndSpeed$Hands" "habits" "LEdgeAndSpeed$Habits;") (by decide +kernel)) (fun _ h9 => h9) rfl dX2_isCounted_5 ?_
    refine va_getN (D := D) (ci := 1) (v := .int (I 24 5)) (C := RX1) (T := TX1) (N := 6) hx hb hts hinX2_isCounted_X1 hown E.1 hP 24 (zO.get (oX1_at (by decide))) rfl 5 (by decide) (zNfw_15 E.2.2) (fun _ h9 => h9) rfl dX2_isCounted_8 ?_
    refine lv_if_le (tgt := 30) hx hb dX2_isCounted_11 (by decide) (fun k2 => ?_) (fun k2 => ?_)
    · replace hf := zt k2 hf
      refine lv_iconst (v := 0) hx hb dX2_isCounted_30 (by decide) ?_
      exact hret _ hf (Or.inl rfl) _ _ _ _ hP hS dX2_isCounted_31
    · replace hf := zf k2 hf
      refine lv_iload_n hx hb dX2_isCounted_14 rfl (lv_at hl 1 rfl) ?_
      refine lv_aload_n hx hb dX2_isCounted_15 rfl (lv_at hl 0 rfl) ?_
      refine va_get (D := D) (ci := 2) (v := .ref (ad 24)) (C := RX2) (T := TX2) (N := 4) hx hb hts hinX2_isCounted_X2 hown E.1 hP 34 (zO.get (oX2_at)) rfl 1 (by decide) (hts (.fieldLink RX2 24 "EdgeAndSpeed$Hands" "habits" "LEdgeAndSpeed$Habits;") (by decide +kernel)) (fun _ h9 => h9) rfl dX2_isCounted_16 ?_
      refine va_getN (D := D) (ci := 1) (v := .int (I 24 5)) (C := RX1) (T := TX1) (N := 6) hx hb hts hinX2_isCounted_X1 hown E.1 hP 24 (zO.get (oX1_at (by decide))) rfl 5 (by decide) (zNfw_15 E.2.2) (fun _ h9 => h9) rfl dX2_isCounted_19 ?_
      obtain ⟨g3, hf⟩ := zg_i hf
      refine lv_irem hx hb dX2_isCounted_22 g3 ?_
      refine lv_if_ne (tgt := 30) hx hb dX2_isCounted_23 (by decide) (fun k4 => ?_) (fun k4 => ?_)
      · replace hf := zf k4 hf
        refine lv_iconst (v := 0) hx hb dX2_isCounted_30 (by decide) ?_
        exact hret _ hf (Or.inl rfl) _ _ _ _ hP hS dX2_isCounted_31
      · replace hf := zt k4 hf
        refine lv_iconst (v := 1) hx hb dX2_isCounted_26 (by decide) ?_
        refine lv_goto (tgt := 31) hx hb dX2_isCounted_27 (by decide) ?_
        exact hret _ hf (Or.inr rfl) _ _ _ _ hP hS dX2_isCounted_31
theorem c_X2_isCounted (l : Launch) {D : va_G} {a0 : Nat → Nat} {A : Nat → Prop} {cy : Nat → ClassId} {ad : Nat → Nat} (hD : zD A 74 ad) {I : zI} {J : zJ} (p1 : Int32) {rx : Int32} (hf : f_X2_isCounted I J p1 = some rx) : Met l yX2_isCounted wsX2_isCounted { frames := 0, cells := 0, slots := 0, locals := 0 } (zPc D a0 A cy [.ref (ad 34), .int p1] (zw 74 (kC cy ad a0) ad I J)) (zQi D A rx (zw 74 (kC cy ad a0) ad I J)) 0 0 A :=
  zmet RX2 (by decide) rfl rfl (Nat.le_of_ble_eq_true rfl) (fun p e R s m below meth c Q hfr hlo ls S0 hQ => w_X2_isCounted hfr hlo hD p1 hf S0 (fun tx hq n01 H locs ls pc hP hS hd => by cases hq; exact hQ H locs _ hS (fun hx hb hr hlocks hfree => W.zret hx hb hr (z01 n01) (fun t ht hW => ⟨⟨_, (), rfl, rfl, zht ht hP⟩, hS.F ht⟩) hfree hd hlocks)))
theorem ddX2_isCounted : yX2_isCounted.cls = RX2 ∧ yX2_isCounted.cls ≠ "java/lang/invoke/MethodHandle" ∧ yX2_isCounted.cls ≠ "java/lang/invoke/VarHandle" ∧ (parseMethodDescriptor yX2_isCounted.desc).map (fun d => d.parameters.length) = some 1 := by decide +kernel

def f_X2_byCount (I : zI) (J : zJ) (p1 : Int32) (p2 : Int32) (p3 : Int32) : Option Int32 := zb1 (f_X0_deepest I J 4 (I 24 3) p2) (fun x1 => (if x1 = 0 then some 49 else zb1 (f_X0_stepsOf I J 4 p1) (fun x4 => zb1 ((if p2 = x4 then (if p3 ≤ 0 then some (0) else some (1)) else some (0)) : Option Int32) (fun x10 => (if x10 = 0 then zb1 (f_X2_passOf I J (I 24 3) x1) (fun x12 => some x12) else zb1 (f_X2_isCounted I J p1) (fun x14 => (if x14 = 0 then zb1 (f_X2_passOf I J (I 24 3) x1) (fun x17 => some x17) else some 48)))))))
theorem hinX2_byCount_X2 : ∀ w ∈ u_ws RX2 TX2 4, w ∈ wsX2_byCount := by decide +kernel
theorem hinX2_byCount_X1 : ∀ w ∈ u_ws RX1 TX1 6, w ∈ wsX2_byCount := by decide +kernel
set_option maxHeartbeats 4000000 in
set_option maxRecDepth 100000 in
theorem w_X2_byCount {p : Program} {l : Launch} {e : Env} {R : Room} {s : State} {m : MethodId} {args : Array Value} {below : List Frame} {meth : Method} {c : Code} {Q : State → Prop} (hfr : 2 ≤ R.frames) (hlo : 47 ≤ R.locals) {D : va_G} {a0 : Nat → Nat} {A : Nat → Prop} {cy : Nat → ClassId} {ad : Nat → Nat} (hD : zD A 74 ad) {I : zI} {J : zJ} (p1 : Int32) (p2 : Int32) (p3 : Int32) {rx : Int32} (hf : f_X2_byCount I J p1 p2 p3 = some rx) {ls : Array Slot} (S0 : zSt p m c cX2_byCount 6 s args wsX2_byCount RX2 D a0 A cy (zw 74 (kC cy ad a0) ad I J) [.ref (ad 34), .int p1, .int p2, .int p3] ls) (hret : ∀ (tx : Int32), some tx = some rx → ∀ (H : Heap) (locs : List Loc) (ls : Array Slot) (pc : Nat), va_P D vwCl (zw 74 (kC cy ad a0) ad I J) H → va_S A s.heap H locs → decode cX2_byCount pc = .ok (.ireturn, 1) → W p l e R s m args below meth c H locs 0 0 Q (F0 m pc ls [.int tx])) : W p l e R s m args below meth c s.heap [] 0 0 Q (F0 m 0 ls []) := by
  obtain ⟨S, E, hP, hl⟩ := S0
  obtain ⟨hx, hb, hml, hown, hts⟩ := id S
  have hS : va_S A s.heap s.heap [] := va_S.rf
  replace hl : lv_has ls 6 [(0, .ref (ad 34)), (1, .int p1), (2, .int p2), (3, .int p3)] := hl
  unfold f_X2_byCount at hf
  refine lv_aload_n hx hb dX2_byCount_0 rfl (lv_at hl 0 rfl) ?_
  refine va_get (D := D) (ci := 2) (v := .ref (ad 4)) (C := RX2) (T := TX2) (N := 4) hx hb hts hinX2_byCount_X2 hown E.1 hP 34 (zO.get (oX2_at)) rfl 0 (by decide) (hts (.fieldLink RX2 20 "EdgeAndSpeed$Hands" "bench" "LEdgeAndSpeed$Bench;") (by decide +kernel)) (fun _ h9 => h9) rfl dX2_byCount_1 ?_
  refine lv_aload_n hx hb dX2_byCount_4 rfl (lv_at hl 0 rfl) ?_
  refine va_get (D := D) (ci := 2) (v := .ref (ad 24)) (C := RX2) (T := TX2) (N := 4) hx hb hts hinX2_byCount_X2 hown E.1 hP 34 (zO.get (oX2_at)) rfl 1 (by decide) (hts (.fieldLink RX2 24 "EdgeAndSpeed$Hands" "habits" "LEdgeAndSpeed$Habits;") (by decide +kernel)) (fun _ h9 => h9) rfl dX2_byCount_5 ?_
  refine va_getN (D := D) (ci := 1) (v := .int (I 24 3)) (C := RX1) (T := TX1) (N := 6) hx hb hts hinX2_byCount_X1 hown E.1 hP 24 (zO.get (oX1_at (by decide))) rfl 3 (by decide) (zNfw_13 E.2.2) (fun _ h9 => h9) rfl dX2_byCount_8 ?_
  refine lv_iload_n hx hb dX2_byCount_11 rfl (lv_at hl 2 rfl) ?_
  obtain ⟨x1, h2, hf⟩ := zb1_e hf
  refine zgo_i (zrunV (As := [.int (I 24 3), .int p2]) (rest := []) S (c_X0_deepest l hD 4 (zBat_C (by decide)) (I 24 3) p2 h2) (cwV 2 hts gX2_byCount_X0_deepest rfl rfl rfl ddX0_deepest ⟨Nat.le_trans (Nat.le_of_ble_eq_true rfl) hfr, Nat.le_trans (Nat.le_of_ble_eq_true rfl) hlo⟩) (va_recv E.1 hP (q := (RX0, TX0, 17)) (ci := 0) rfl (zO.get (zBat_o (zBat_C (by decide))))) E hP hS hl.1 rfl rfl (Nat.le_of_ble_eq_true rfl) dX2_byCount_12) hS (fun H locs hP hS => ?_)
  refine lv_istore (lv' := [(4, .int x1), (0, .ref (ad 34)), (1, .int p1), (2, .int p2), (3, .int p3)]) hx hb dX2_byCount_15 hl (by decide) rfl (fun ls hl => ?_)
  refine lv_iload hx hb dX2_byCount_17 (lv_at hl 0 rfl) ?_
  refine lv_if_ne (tgt := 25) hx hb dX2_byCount_19 (by decide) (fun k3 => ?_) (fun k3 => ?_)
  · replace hf := zf k3 hf
    refine lv_iload_n hx hb dX2_byCount_25 rfl (lv_at hl 3 rfl) ?_
    refine lv_aload_n hx hb dX2_byCount_26 rfl (lv_at hl 1 rfl) ?_
    refine va_get (D := D) (ci := 2) (v := .ref (ad 4)) (C := RX2) (T := TX2) (N := 4) hx hb hts hinX2_byCount_X2 hown E.1 hP 34 (zO.get (oX2_at)) rfl 0 (by decide) (hts (.fieldLink RX2 20 "EdgeAndSpeed$Hands" "bench" "LEdgeAndSpeed$Bench;") (by decide +kernel)) (fun _ h9 => h9) rfl dX2_byCount_27 ?_
    refine lv_iload_n hx hb dX2_byCount_30 rfl (lv_at hl 2 rfl) ?_
    obtain ⟨x4, h5, hf⟩ := zb1_e hf
    refine zgo_i (zrunV (As := [.int p1]) (rest := [.int p2]) S (c_X0_stepsOf l hD 4 (zBat_C (by decide)) p1 h5) (cwV 1 hts gX2_byCount_X0_stepsOf rfl rfl rfl ddX0_stepsOf ⟨Nat.le_trans (Nat.le_of_ble_eq_true rfl) hfr, Nat.le_trans (Nat.le_of_ble_eq_true rfl) hlo⟩) (va_recv E.1 hP (q := (RX0, TX0, 17)) (ci := 0) rfl (zO.get (zBat_o (zBat_C (by decide))))) E hP hS hl.1 rfl rfl (Nat.le_of_ble_eq_true rfl) dX2_byCount_31) hS (fun H locs hP hS => ?_)
    obtain ⟨zr8, hf, hzr8⟩ := zb1_i hf
    have hjr8 : ∀ (x10 : Int32), x10 = zr8 → ∀ (H : Heap) (locs : List Loc) (ls : Array Slot), va_P D vwCl (zw 74 (kC cy ad a0) ad I J) H → va_S A s.heap H locs → lv_has ls 6 [(0, .ref (ad 34)), (1, .int p1), (4, .int x1)] → W p l e R s m args below meth c H locs 0 0 Q (F0 m 46 ls [.int x10]) := by
      intro x10 ez H locs ls hP hS hl
      have hf := hzr8 x10 ez
      refine lv_istore (lv' := [(5, .int x10), (0, .ref (ad 34)), (1, .int p1), (4, .int x1)]) hx hb dX2_byCount_46 hl (by decide) rfl (fun ls hl => ?_)
      refine lv_iload hx hb dX2_byCount_48 (lv_at hl 0 rfl) ?_
      refine lv_if_eq (tgt := 66) hx hb dX2_byCount_50 (by decide) (fun k11 => ?_) (fun k11 => ?_)
      · replace hf := zt k11 hf
        refine lv_aload_n hx hb dX2_byCount_66 rfl (lv_at hl 1 rfl) ?_
        refine va_get (D := D) (ci := 2) (v := .ref (ad 24)) (C := RX2) (T := TX2) (N := 4) hx hb hts hinX2_byCount_X2 hown E.1 hP 34 (zO.get (oX2_at)) rfl 1 (by decide) (hts (.fieldLink RX2 24 "EdgeAndSpeed$Hands" "habits" "LEdgeAndSpeed$Habits;") (by decide +kernel)) (fun _ h9 => h9) rfl dX2_byCount_67 ?_
        refine va_getN (D := D) (ci := 1) (v := .int (I 24 3)) (C := RX1) (T := TX1) (N := 6) hx hb hts hinX2_byCount_X1 hown E.1 hP 24 (zO.get (oX1_at (by decide))) rfl 3 (by decide) (zNfw_13 E.2.2) (fun _ h9 => h9) rfl dX2_byCount_70 ?_
        refine lv_iload hx hb dX2_byCount_73 (lv_at hl 3 rfl) ?_
        obtain ⟨x12, h13, hf⟩ := zb1_e hf
        refine zgo_i (zrunS (As := [.int (I 24 3), .int x1]) (rest := []) S (c_X2_passOf l hD (I 24 3) x1 h13) (va_cwS 2 hts gX2_byCount_X2_passOf rfl rfl rfl ddX2_passOf ⟨Nat.le_trans (Nat.le_of_ble_eq_true rfl) hfr, Nat.le_trans (Nat.le_of_ble_eq_true rfl) hlo⟩) E hP hS hl.1 rfl rfl (Nat.le_of_ble_eq_true rfl) dX2_byCount_75) hS (fun H locs hP hS => ?_)
        exact hret _ hf _ _ _ _ hP hS dX2_byCount_78
      · replace hf := zf k11 hf
        refine lv_aload_n hx hb dX2_byCount_53 rfl (lv_at hl 1 rfl) ?_
        refine lv_iload_n hx hb dX2_byCount_54 rfl (lv_at hl 2 rfl) ?_
        obtain ⟨x14, h15, hf⟩ := zb1_e hf
        refine zgo_i (zrunV (As := [.int p1]) (rest := []) S (c_X2_isCounted l hD p1 h15) (cwV 1 hts gX2_byCount_X2_isCounted rfl rfl rfl ddX2_isCounted ⟨Nat.le_trans (Nat.le_of_ble_eq_true rfl) hfr, Nat.le_trans (Nat.le_of_ble_eq_true rfl) hlo⟩) (va_recv E.1 hP (q := (RX2, TX2, 4)) (ci := 2) rfl (zO.get (oX2_at))) E hP hS hl.1 rfl rfl (Nat.le_of_ble_eq_true rfl) dX2_byCount_55) hS (fun H locs hP hS => ?_)
        refine lv_if_eq (tgt := 66) hx hb dX2_byCount_58 (by decide) (fun k16 => ?_) (fun k16 => ?_)
        · replace hf := zt k16 hf
          refine lv_aload_n hx hb dX2_byCount_66 rfl (lv_at hl 1 rfl) ?_
          refine va_get (D := D) (ci := 2) (v := .ref (ad 24)) (C := RX2) (T := TX2) (N := 4) hx hb hts hinX2_byCount_X2 hown E.1 hP 34 (zO.get (oX2_at)) rfl 1 (by decide) (hts (.fieldLink RX2 24 "EdgeAndSpeed$Hands" "habits" "LEdgeAndSpeed$Habits;") (by decide +kernel)) (fun _ h9 => h9) rfl dX2_byCount_67 ?_
          refine va_getN (D := D) (ci := 1) (v := .int (I 24 3)) (C := RX1) (T := TX1) (N := 6) hx hb hts hinX2_byCount_X1 hown E.1 hP 24 (zO.get (oX1_at (by decide))) rfl 3 (by decide) (zNfw_13 E.2.2) (fun _ h9 => h9) rfl dX2_byCount_70 ?_
          refine lv_iload hx hb dX2_byCount_73 (lv_at hl 3 rfl) ?_
          obtain ⟨x17, h18, hf⟩ := zb1_e hf
          refine zgo_i (zrunS (As := [.int (I 24 3), .int x1]) (rest := []) S (c_X2_passOf l hD (I 24 3) x1 h18) (va_cwS 2 hts gX2_byCount_X2_passOf rfl rfl rfl ddX2_passOf ⟨Nat.le_trans (Nat.le_of_ble_eq_true rfl) hfr, Nat.le_trans (Nat.le_of_ble_eq_true rfl) hlo⟩) E hP hS hl.1 rfl rfl (Nat.le_of_ble_eq_true rfl) dX2_byCount_75) hS (fun H locs hP hS => ?_)
          exact hret _ hf _ _ _ _ hP hS dX2_byCount_78
        · replace hf := zf k16 hf
          refine lv_bipush (v := 48) hx hb dX2_byCount_61 (by decide) ?_
          refine lv_goto (tgt := 78) hx hb dX2_byCount_63 (by decide) ?_
          exact hret _ hf _ _ _ _ hP hS dX2_byCount_78
    refine lv_icmp_ne (tgt := 45) hx hb dX2_byCount_34 (by decide) (fun k6 => ?_) (fun k6 => ?_)
    · replace hf := zf k6 hf
      refine lv_iconst (v := 0) hx hb dX2_byCount_45 (by decide) ?_
      exact hjr8 _ (Option.some.inj hf) _ _ _ hP hS (lv_sub hl [1, 2, 0] rfl)
    · replace hf := zt k6 hf
      refine lv_iload_n hx hb dX2_byCount_37 rfl (lv_at hl 4 rfl) ?_
      refine lv_if_le (tgt := 45) hx hb dX2_byCount_38 (by decide) (fun k9 => ?_) (fun k9 => ?_)
      · replace hf := zt k9 hf
        refine lv_iconst (v := 0) hx hb dX2_byCount_45 (by decide) ?_
        exact hjr8 _ (Option.some.inj hf) _ _ _ hP hS (lv_sub hl [1, 2, 0] rfl)
      · replace hf := zf k9 hf
        refine lv_iconst (v := 1) hx hb dX2_byCount_41 (by decide) ?_
        refine lv_goto (tgt := 46) hx hb dX2_byCount_42 (by decide) ?_
        exact hjr8 _ (Option.some.inj hf) _ _ _ hP hS (lv_sub hl [1, 2, 0] rfl)
  · replace hf := zt k3 hf
    refine lv_bipush (v := 49) hx hb dX2_byCount_22 (by decide) ?_
    exact hret _ hf _ _ _ _ hP hS dX2_byCount_24
theorem c_X2_byCount (l : Launch) {D : va_G} {a0 : Nat → Nat} {A : Nat → Prop} {cy : Nat → ClassId} {ad : Nat → Nat} (hD : zD A 74 ad) {I : zI} {J : zJ} (p1 : Int32) (p2 : Int32) (p3 : Int32) {rx : Int32} (hf : f_X2_byCount I J p1 p2 p3 = some rx) : Met l yX2_byCount wsX2_byCount { frames := 2, cells := 0, slots := 0, locals := 47 } (zPc D a0 A cy [.ref (ad 34), .int p1, .int p2, .int p3] (zw 74 (kC cy ad a0) ad I J)) (zQi D A rx (zw 74 (kC cy ad a0) ad I J)) 0 0 A :=
  zmet RX2 (by decide) rfl rfl (Nat.le_of_ble_eq_true rfl) (fun p e R s m below meth c Q hfr hlo ls S0 hQ => w_X2_byCount hfr hlo hD p1 p2 p3 hf S0 (fun tx hq H locs ls pc hP hS hd => by cases hq; exact hQ H locs _ hS (fun hx hb hr hlocks hfree => W.iret hx hb hr (fun t ht hW => ⟨⟨_, (), rfl, rfl, zht ht hP⟩, hS.F ht⟩) hfree hd hlocks)))
theorem ddX2_byCount : yX2_byCount.cls = RX2 ∧ yX2_byCount.cls ≠ "java/lang/invoke/MethodHandle" ∧ yX2_byCount.cls ≠ "java/lang/invoke/VarHandle" ∧ (parseMethodDescriptor yX2_byCount.desc).map (fun d => d.parameters.length) = some 3 := by decide +kernel

def f_X0_slowest_L4 (I : zI) (o : Nat) (J : zJ) (x2 : Int32) (x3 : Int32) : Option ((Int32 × Int32) ⊕ Int32) := (if (I o 9) ≤ x3 then some (.inr x2) else zb1 (f_X11_at I J (o + 2) 6 x3) (fun x5 => zb1 (f_X11_at I J (o + 2) 6 x2) (fun x7 => (if x7 ≤ x5 then zn (x3 + 1) (fun y10 => some (.inl (x2, y10))) else zn (x3 + 1) (fun y11 => some (.inl (x3, y11)))))))
def f_X0_slowest (I : zI) (J : zJ) (o : Nat) : Option Int32 := zb1 (zl (fun v : (Int32 × Int32) => f_X0_slowest_L4 I o J v.1 v.2) zF (0, 1)) (fun x12 => some x12)
theorem hinX0_slowest_X0 : ∀ w ∈ u_ws RX0 TX0 17, w ∈ wsX0_slowest := by decide +kernel
set_option maxHeartbeats 4000000 in
set_option maxRecDepth 100000 in
theorem w_X0_slowest {p : Program} {l : Launch} {e : Env} {R : Room} {s : State} {m : MethodId} {args : Array Value} {below : List Frame} {meth : Method} {c : Code} {Q : State → Prop} (hfr : 1 ≤ R.frames) (hlo : 21 ≤ R.locals) {D : va_G} {a0 : Nat → Nat} {A : Nat → Prop} {cy : Nat → ClassId} {ad : Nat → Nat} {N : Nat} {K : zK} (hD : zD A N ad) {I : zI} {J : zJ} (o : Nat) (hB : zBat N K cy ad o) {rx : Int32} (hf : f_X0_slowest I J o = some rx) {ls : Array Slot} (S0 : zSt p m c cX0_slowest 3 s args wsX0_slowest RX0 D a0 A cy (zw N K ad I J) [.ref (ad o)] ls) (hret : ∀ (tx : Int32), some tx = some rx → ∀ (H : Heap) (locs : List Loc) (ls : Array Slot) (pc : Nat), va_P D vwCl (zw N K ad I J) H → va_S A s.heap H locs → decode cX0_slowest pc = .ok (.ireturn, 1) → W p l e R s m args below meth c H locs 0 0 Q (F0 m pc ls [.int tx])) : W p l e R s m args below meth c s.heap [] 0 0 Q (F0 m 0 ls []) := by
  obtain ⟨S, E, hP, hl⟩ := S0
  obtain ⟨hx, hb, hml, hown, hts⟩ := id S
  have hS : va_S A s.heap s.heap [] := va_S.rf
  replace hl : lv_has ls 3 [(0, .ref (ad o))] := hl
  unfold f_X0_slowest at hf
  refine lv_iconst (v := 0) hx hb dX0_slowest_0 (by decide) ?_
  refine lv_istore_n (lv' := [(1, .int 0), (0, .ref (ad o))]) hx hb dX0_slowest_1 rfl hl (by decide) rfl (fun ls hl => ?_)
  refine lv_iconst (v := 1) hx hb dX0_slowest_2 (by decide) ?_
  refine lv_istore_n (lv' := [(2, .int 1), (1, .int 0), (0, .ref (ad o))]) hx hb dX0_slowest_3 rfl hl (by decide) rfl (fun ls hl => ?_)
  obtain ⟨zl1, hf, hzl1⟩ := zb1_i hf
  have hjl1 : ∀ (x12 : Int32), x12 = zl1 → ∀ (H : Heap) (locs : List Loc) (ls : Array Slot), va_P D vwCl (zw N K ad I J) H → va_S A s.heap H locs → lv_has ls 3 [(1, .int x12)] → W p l e R s m args below meth c H locs 0 0 Q (F0 m 43 ls []) := by
    intro x12 ez H locs ls hP hS hl
    have hf := hzl1 x12 ez
    refine lv_iload_n hx hb dX0_slowest_43 rfl (lv_at hl 0 rfl) ?_
    exact hret _ hf _ _ _ _ hP hS dX0_slowest_44
  refine zl_i (V := (Int32 × Int32)) (P := fun v => ∀ (H : Heap) (locs : List Loc) (ls : Array Slot), va_P D vwCl (zw N K ad I J) H → va_S A s.heap H locs → lv_has ls 3 [(0, .ref (ad o)), (1, .int (v.1)), (2, .int (v.2))] → W p l e R s m args below meth c H locs 0 0 Q (F0 m 4 ls [])) ?_ _ _ hf _ _ _ hP hS (lv_sub hl [2, 1, 0] rfl)
  intro v z hf hcl1 hdl1
  obtain ⟨x2, x3⟩ := v
  intro H locs ls hP hS hl
  replace hf : f_X0_slowest_L4 I o J x2 x3 = some z := hf
  unfold f_X0_slowest_L4 at hf
  replace hP : va_P D vwCl (zw N K ad I J) H := hP
  replace hl : lv_has ls 3 [(0, .ref (ad o)), (1, .int x2), (2, .int x3)] := hl
  refine lv_iload_n hx hb dX0_slowest_4 rfl (lv_at hl 2 rfl) ?_
  refine lv_aload_n hx hb dX0_slowest_5 rfl (lv_at hl 0 rfl) ?_
  refine va_get (D := D) (ci := 0) (v := .int (I o 9)) (C := RX0) (T := TX0) (N := 17) hx hb hts hinX0_slowest_X0 hown E.1 hP o (zO.get (zBat_o hB)) rfl 9 (by decide) (hts (.fieldLink RX0 54 "EdgeAndSpeed$Bench" "speeds" "I") (by decide +kernel)) (fun _ h9 => h9) rfl dX0_slowest_6 ?_
  refine lv_icmp_ge (tgt := 43) hx hb dX0_slowest_9 (by decide) (fun k4 => ?_) (fun k4 => ?_)
  · replace hf := zt k4 hf
    exact hjl1 _ (hdl1 _ (Option.some.inj hf).symm) _ _ _ hP hS (lv_sub hl [1] rfl)
  · replace hf := zf k4 hf
    refine lv_aload_n hx hb dX0_slowest_12 rfl (lv_at hl 0 rfl) ?_
    refine va_get (D := D) (ci := 0) (v := .ref (ad (o + 2))) (C := RX0) (T := TX0) (N := 17) hx hb hts hinX0_slowest_X0 hown E.1 hP o (zO.get (zBat_o hB)) rfl 1 (by decide) (hts (.fieldLink RX0 15 "EdgeAndSpeed$Bench" "wearing" "[I") (by decide +kernel)) (fun _ h9 => h9) rfl dX0_slowest_13 ?_
    refine lv_iload_n hx hb dX0_slowest_16 rfl (lv_at hl 2 rfl) ?_
    obtain ⟨x5, h6, hf⟩ := zb1_e hf
    refine zgo_i (zrunSN (As := [.ref (ad (o + 2)), .int x3]) (rest := []) S (c_X11_at l hD (o + 2) 6 (zBat_1 hB) x3 h6) ⟨va_cnB (host := "EdgeAndSpeed") 2 hts gX0_slowest_X11_at_n85 rfl rfl rfl (zNmw_1 E.2.2) (hts (.initialized RX11) (by decide +kernel)) ddX11_at ⟨Nat.le_trans (Nat.le_of_ble_eq_true rfl) hfr, Nat.le_trans (Nat.le_of_ble_eq_true rfl) hlo⟩, hts (.static yX11_at) (by decide +kernel), trivial⟩ E hP hS hl.1 rfl rfl (Nat.le_of_ble_eq_true rfl) dX0_slowest_17) hS (fun H locs hP hS => ?_)
    refine lv_aload_n hx hb dX0_slowest_20 rfl (lv_at hl 0 rfl) ?_
    refine va_get (D := D) (ci := 0) (v := .ref (ad (o + 2))) (C := RX0) (T := TX0) (N := 17) hx hb hts hinX0_slowest_X0 hown E.1 hP o (zO.get (zBat_o hB)) rfl 1 (by decide) (hts (.fieldLink RX0 15 "EdgeAndSpeed$Bench" "wearing" "[I") (by decide +kernel)) (fun _ h9 => h9) rfl dX0_slowest_21 ?_
    refine lv_iload_n hx hb dX0_slowest_24 rfl (lv_at hl 1 rfl) ?_
    obtain ⟨x7, h8, hf⟩ := zb1_e hf
    refine zgo_i (zrunSN (As := [.ref (ad (o + 2)), .int x2]) (rest := [.int x5]) S (c_X11_at l hD (o + 2) 6 (zBat_1 hB) x2 h8) ⟨va_cnB (host := "EdgeAndSpeed") 2 hts gX0_slowest_X11_at_n85 rfl rfl rfl (zNmw_1 E.2.2) (hts (.initialized RX11) (by decide +kernel)) ddX11_at ⟨Nat.le_trans (Nat.le_of_ble_eq_true rfl) hfr, Nat.le_trans (Nat.le_of_ble_eq_true rfl) hlo⟩, hts (.static yX11_at) (by decide +kernel), trivial⟩ E hP hS hl.1 rfl rfl (Nat.le_of_ble_eq_true rfl) dX0_slowest_25) hS (fun H locs hP hS => ?_)
    refine lv_icmp_ge (tgt := 35) hx hb dX0_slowest_28 (by decide) (fun k9 => ?_) (fun k9 => ?_)
    · replace hf := zt k9 hf
      refine lv_iload_n hx hb dX0_slowest_35 rfl (lv_at hl 1 rfl) ?_
      refine lv_istore_n (lv' := [(1, .int x2), (0, .ref (ad o)), (2, .int x3)]) hx hb dX0_slowest_36 rfl hl (by decide) rfl (fun ls hl => ?_)
      obtain ⟨y10, ey10⟩ := zex (x3 + 1)
      replace hf := zn_s ey10 hf
      refine lv_iinc (v := y10) (lv' := [(2, .int y10), (1, .int x2), (0, .ref (ad o))]) hx hb dX0_slowest_37 hl (k := 2) rfl (by rw [ey10]; rfl) (by decide) rfl (fun ls hl => ?_)
      refine lv_goto (tgt := 4) hx hb dX0_slowest_40 (by decide) ?_
      exact hcl1 _ (Option.some.inj hf).symm _ _ _ hP hS (lv_sub hl [2, 1, 0] rfl)
    · replace hf := zf k9 hf
      refine lv_iload_n hx hb dX0_slowest_31 rfl (lv_at hl 2 rfl) ?_
      refine lv_goto (tgt := 36) hx hb dX0_slowest_32 (by decide) ?_
      refine lv_istore_n (lv' := [(1, .int x3), (0, .ref (ad o)), (2, .int x3)]) hx hb dX0_slowest_36 rfl hl (by decide) rfl (fun ls hl => ?_)
      obtain ⟨y11, ey11⟩ := zex (x3 + 1)
      replace hf := zn_s ey11 hf
      refine lv_iinc (v := y11) (lv' := [(2, .int y11), (1, .int x3), (0, .ref (ad o))]) hx hb dX0_slowest_37 hl (k := 2) rfl (by rw [ey11]; rfl) (by decide) rfl (fun ls hl => ?_)
      refine lv_goto (tgt := 4) hx hb dX0_slowest_40 (by decide) ?_
      exact hcl1 _ (Option.some.inj hf).symm _ _ _ hP hS (lv_sub hl [2, 1, 0] rfl)
theorem c_X0_slowest (l : Launch) {D : va_G} {a0 : Nat → Nat} {A : Nat → Prop} {cy : Nat → ClassId} {ad : Nat → Nat} {N : Nat} {K : zK} (hD : zD A N ad) {I : zI} {J : zJ} (o : Nat) (hB : zBat N K cy ad o) {rx : Int32} (hf : f_X0_slowest I J o = some rx) : Met l yX0_slowest wsX0_slowest { frames := 1, cells := 0, slots := 0, locals := 21 } (zPc D a0 A cy [.ref (ad o)] (zw N K ad I J)) (zQi D A rx (zw N K ad I J)) 0 0 A :=
  zmet RX0 (by decide) rfl rfl (Nat.le_of_ble_eq_true rfl) (fun p e R s m below meth c Q hfr hlo ls S0 hQ => w_X0_slowest hfr hlo hD o hB hf S0 (fun tx hq H locs ls pc hP hS hd => by cases hq; exact hQ H locs _ hS (fun hx hb hr hlocks hfree => W.iret hx hb hr (fun t ht hW => ⟨⟨_, (), rfl, rfl, zht ht hP⟩, hS.F ht⟩) hfree hd hlocks)))
theorem ddX0_slowest : yX0_slowest.cls = RX0 ∧ yX0_slowest.cls ≠ "java/lang/invoke/MethodHandle" ∧ yX0_slowest.cls ≠ "java/lang/invoke/VarHandle" ∧ (parseMethodDescriptor yX0_slowest.desc).map (fun d => d.parameters.length) = some 0 := by decide +kernel

def f_X6_actAt (I : zI) (J : zJ) (o : Nat) (p1 : Int32) (p2 : Int32) (p3 : Int32) : Option Int32 := zb1 (f_X6_placeOf I J p1 p2 p3) (fun x1 => (if x1 < 0 then some (-1) else (if 6464 ≤ x1 then some (-1) else zg (¬ (x1 < 0 ∨ 6464 ≤ x1.toNatClampNeg)) (some (I (o + 2) x1.toNatClampNeg)))))
theorem hinX6_actAt_X6 : ∀ w ∈ u_ws RX6 TX6 7, w ∈ wsX6_actAt := by decide +kernel
set_option maxHeartbeats 4000000 in
set_option maxRecDepth 100000 in
theorem w_X6_actAt {p : Program} {l : Launch} {e : Env} {R : Room} {s : State} {m : MethodId} {args : Array Value} {below : List Frame} {meth : Method} {c : Code} {Q : State → Prop} (hfr : 1 ≤ R.frames) (hlo : 22 ≤ R.locals) {D : va_G} {a0 : Nat → Nat} {A : Nat → Prop} {cy : Nat → ClassId} {ad : Nat → Nat} (hD : zD A 74 ad) {I : zI} {J : zJ} (o : Nat) (ho : zPn o) (p1 : Int32) (p2 : Int32) (p3 : Int32) {rx : Int32} (hf : f_X6_actAt I J o p1 p2 p3 = some rx) {ls : Array Slot} (S0 : zSt p m c cX6_actAt 5 s args wsX6_actAt RX6 D a0 A cy (zw 74 (kC cy ad a0) ad I J) [.ref (ad o), .int p1, .int p2, .int p3] ls) (hret : ∀ (tx : Int32), some tx = some rx → ∀ (H : Heap) (locs : List Loc) (ls : Array Slot) (pc : Nat), va_P D vwCl (zw 74 (kC cy ad a0) ad I J) H → va_S A s.heap H locs → decode cX6_actAt pc = .ok (.ireturn, 1) → W p l e R s m args below meth c H locs 0 0 Q (F0 m pc ls [.int tx])) : W p l e R s m args below meth c s.heap [] 0 0 Q (F0 m 0 ls []) := by
  obtain ⟨S, E, hP, hl⟩ := S0
  obtain ⟨hx, hb, hml, hown, hts⟩ := id S
  have hS : va_S A s.heap s.heap [] := va_S.rf
  replace hl : lv_has ls 5 [(0, .ref (ad o)), (1, .int p1), (2, .int p2), (3, .int p3)] := hl
  unfold f_X6_actAt at hf
  refine lv_iload_n hx hb dX6_actAt_0 rfl (lv_at hl 1 rfl) ?_
  refine lv_iload_n hx hb dX6_actAt_1 rfl (lv_at hl 2 rfl) ?_
  refine lv_iload_n hx hb dX6_actAt_2 rfl (lv_at hl 3 rfl) ?_
  obtain ⟨x1, h2, hf⟩ := zb1_e hf
  refine zgo_i (zrunS (As := [.int p1, .int p2, .int p3]) (rest := []) S (c_X6_placeOf l hD p1 p2 p3 h2) (va_cwS 3 hts gX6_actAt_X6_placeOf rfl rfl rfl ddX6_placeOf ⟨Nat.le_trans (Nat.le_of_ble_eq_true rfl) hfr, Nat.le_trans (Nat.le_of_ble_eq_true rfl) hlo⟩) E hP hS hl.1 rfl rfl (Nat.le_of_ble_eq_true rfl) dX6_actAt_3) hS (fun H locs hP hS => ?_)
  refine lv_istore (lv' := [(4, .int x1), (0, .ref (ad o)), (1, .int p1), (2, .int p2), (3, .int p3)]) hx hb dX6_actAt_6 hl (by decide) rfl (fun ls hl => ?_)
  refine lv_iload hx hb dX6_actAt_8 (lv_at hl 0 rfl) ?_
  refine lv_if_lt (tgt := 33) hx hb dX6_actAt_10 (by decide) (fun k3 => ?_) (fun k3 => ?_)
  · replace hf := zt k3 hf
    refine lv_iconst (v := (-1)) hx hb dX6_actAt_33 (by decide) ?_
    exact hret _ hf _ _ _ _ hP hS dX6_actAt_34
  · replace hf := zf k3 hf
    refine lv_iload hx hb dX6_actAt_13 (lv_at hl 0 rfl) ?_
    refine lv_aload_n hx hb dX6_actAt_15 rfl (lv_at hl 1 rfl) ?_
    refine va_get (D := D) (ci := 5) (v := .ref (ad (o + 2))) (C := RX6) (T := TX6) (N := 7) hx hb hts hinX6_actAt_X6 hown E.1 hP o (zO.get (oX6_at ho)) rfl 2 (by decide) (hts (.fieldLink RX6 15 "EdgeAndSpeed$Plan" "acts" "[B") (by decide +kernel)) (fun _ h9 => h9) rfl dX6_actAt_16 ?_
    refine va_alen (v := 6464) (ty := .byte) hx hb E.1 hP (o + 2) 0 (zIA.get (aX6_2 ho)) rfl rfl dX6_actAt_19 ?_
    refine lv_icmp_ge (tgt := 33) hx hb dX6_actAt_20 (by decide) (fun k4 => ?_) (fun k4 => ?_)
    · replace hf := zt k4 hf
      refine lv_iconst (v := (-1)) hx hb dX6_actAt_33 (by decide) ?_
      exact hret _ hf _ _ _ _ hP hS dX6_actAt_34
    · replace hf := zf k4 hf
      refine lv_aload_n hx hb dX6_actAt_23 rfl (lv_at hl 1 rfl) ?_
      refine va_get (D := D) (ci := 5) (v := .ref (ad (o + 2))) (C := RX6) (T := TX6) (N := 7) hx hb hts hinX6_actAt_X6 hown E.1 hP o (zO.get (oX6_at ho)) rfl 2 (by decide) (hts (.fieldLink RX6 15 "EdgeAndSpeed$Plan" "acts" "[B") (by decide +kernel)) (fun _ h9 => h9) rfl dX6_actAt_24 ?_
      refine lv_iload hx hb dX6_actAt_27 (lv_at hl 0 rfl) ?_
      obtain ⟨g5, hf⟩ := zg_i hf
      refine va_bald hx hb E.1 hP (o + 2) 0 (zIA.get (aX6_2 ho)) rfl g5 dX6_actAt_29 ?_
      refine lv_goto (tgt := 34) hx hb dX6_actAt_30 (by decide) ?_
      exact hret _ hf _ _ _ _ hP hS dX6_actAt_34
theorem c_X6_actAt (l : Launch) {D : va_G} {a0 : Nat → Nat} {A : Nat → Prop} {cy : Nat → ClassId} {ad : Nat → Nat} (hD : zD A 74 ad) {I : zI} {J : zJ} (o : Nat) (ho : zPn o) (p1 : Int32) (p2 : Int32) (p3 : Int32) {rx : Int32} (hf : f_X6_actAt I J o p1 p2 p3 = some rx) : Met l yX6_actAt wsX6_actAt { frames := 1, cells := 0, slots := 0, locals := 22 } (zPc D a0 A cy [.ref (ad o), .int p1, .int p2, .int p3] (zw 74 (kC cy ad a0) ad I J)) (zQi D A rx (zw 74 (kC cy ad a0) ad I J)) 0 0 A :=
  zmet RX6 (by decide) rfl rfl (Nat.le_of_ble_eq_true rfl) (fun p e R s m below meth c Q hfr hlo ls S0 hQ => w_X6_actAt hfr hlo hD o ho p1 p2 p3 hf S0 (fun tx hq H locs ls pc hP hS hd => by cases hq; exact hQ H locs _ hS (fun hx hb hr hlocks hfree => W.iret hx hb hr (fun t ht hW => ⟨⟨_, (), rfl, rfl, zht ht hP⟩, hS.F ht⟩) hfree hd hlocks)))
theorem ddX6_actAt : yX6_actAt.cls = RX6 ∧ yX6_actAt.cls ≠ "java/lang/invoke/MethodHandle" ∧ yX6_actAt.cls ≠ "java/lang/invoke/VarHandle" ∧ (parseMethodDescriptor yX6_actAt.desc).map (fun d => d.parameters.length) = some 3 := by decide +kernel

def f_X2_choose (I : zI) (J : zJ) (p1 : Int32) (p2 : Int32) (p3 : Int32) (p4 : Int32) (p5 : Int32) : Option Int32 := (if p1 = 1 then zb1 (f_X2_bySpeed I J (I 24 3) p3 p4 p5) (fun x6 => some x6) else if p1 = 2 then zb1 (f_X2_byCount I J p3 p4 p5) (fun x8 => some x8) else if p1 = 3 then zb1 (f_X2_bySpeed I J (I 24 3) p3 p4 (p5 - (p5 - p5 / 10 * 10))) (fun x10 => some x10) else if p1 = 4 then zb1 (f_X2_quickBy I J p2) (fun q12 => zg (zPn q12) (zb1 (f_X6_actAt I J q12 p3 p4 p5) (fun x15 => some x15))) else if p1 = 5 then zb1 (f_X0_slowest I J 4) (fun x17 => zb1 (f_X2_bySpeed I J x17 p3 p4 p5) (fun x19 => some x19)) else zb1 (f_X2_bestBy I J p2) (fun q21 => zg (zPn q21) (zb1 (f_X6_actAt I J q21 p3 p4 p5) (fun x24 => some x24))))
theorem hinX2_choose_X2 : ∀ w ∈ u_ws RX2 TX2 4, w ∈ wsX2_choose := by decide +kernel
theorem hinX2_choose_X1 : ∀ w ∈ u_ws RX1 TX1 6, w ∈ wsX2_choose := by decide +kernel
set_option maxHeartbeats 4000000 in
set_option maxRecDepth 100000 in
theorem w_X2_choose {p : Program} {l : Launch} {e : Env} {R : Room} {s : State} {m : MethodId} {args : Array Value} {below : List Frame} {meth : Method} {c : Code} {Q : State → Prop} (hfr : 3 ≤ R.frames) (hlo : 73 ≤ R.locals) {D : va_G} {a0 : Nat → Nat} {A : Nat → Prop} {cy : Nat → ClassId} {ad : Nat → Nat} (hD : zD A 74 ad) {I : zI} {J : zJ} (p1 : Int32) (p2 : Int32) (p3 : Int32) (p4 : Int32) (p5 : Int32) {rx : Int32} (hf : f_X2_choose I J p1 p2 p3 p4 p5 = some rx) {ls : Array Slot} (S0 : zSt p m c cX2_choose 6 s args wsX2_choose RX2 D a0 A cy (zw 74 (kC cy ad a0) ad I J) [.ref (ad 34), .int p1, .int p2, .int p3, .int p4, .int p5] ls) (hret : ∀ (tx : Int32), some tx = some rx → ∀ (H : Heap) (locs : List Loc) (ls : Array Slot) (pc : Nat), va_P D vwCl (zw 74 (kC cy ad a0) ad I J) H → va_S A s.heap H locs → decode cX2_choose pc = .ok (.ireturn, 1) → W p l e R s m args below meth c H locs 0 0 Q (F0 m pc ls [.int tx])) : W p l e R s m args below meth c s.heap [] 0 0 Q (F0 m 0 ls []) := by
  obtain ⟨S, E, hP, hl⟩ := S0
  obtain ⟨hx, hb, hml, hown, hts⟩ := id S
  have hS : va_S A s.heap s.heap [] := va_S.rf
  replace hl : lv_has ls 6 [(0, .ref (ad 34)), (1, .int p1), (2, .int p2), (3, .int p3), (4, .int p4), (5, .int p5)] := hl
  unfold f_X2_choose at hf
  refine lv_iload_n hx hb dX2_choose_0 rfl (lv_at hl 1 rfl) ?_
  rcases Decidable.em (p1 = 1) with k1 | k1
  · replace hf := zt k1 hf
    refine lv_tableIn (off := 35) (tgt := 36) hx hb dX2_choose_1 (by rw [k1]; decide) (by rw [k1]; decide) (by rw [k1]; rfl) (by decide) ?_
    refine lv_aload_n hx hb dX2_choose_36 rfl (lv_at hl 0 rfl) ?_
    refine lv_aload_n hx hb dX2_choose_37 rfl (lv_at hl 0 rfl) ?_
    refine va_get (D := D) (ci := 2) (v := .ref (ad 24)) (C := RX2) (T := TX2) (N := 4) hx hb hts hinX2_choose_X2 hown E.1 hP 34 (zO.get (oX2_at)) rfl 1 (by decide) (hts (.fieldLink RX2 24 "EdgeAndSpeed$Hands" "habits" "LEdgeAndSpeed$Habits;") (by decide +kernel)) (fun _ h9 => h9) rfl dX2_choose_38 ?_
    refine va_getN (D := D) (ci := 1) (v := .int (I 24 3)) (C := RX1) (T := TX1) (N := 6) hx hb hts hinX2_choose_X1 hown E.1 hP 24 (zO.get (oX1_at (by decide))) rfl 3 (by decide) (zNfw_13 E.2.2) (fun _ h9 => h9) rfl dX2_choose_41 ?_
    refine lv_iload_n hx hb dX2_choose_44 rfl (lv_at hl 3 rfl) ?_
    refine lv_iload hx hb dX2_choose_45 (lv_at hl 4 rfl) ?_
    refine lv_iload hx hb dX2_choose_47 (lv_at hl 5 rfl) ?_
    obtain ⟨x6, h7, hf⟩ := zb1_e hf
    refine zgo_i (zrunV (As := [.int (I 24 3), .int p3, .int p4, .int p5]) (rest := []) S (c_X2_bySpeed l hD (I 24 3) p3 p4 p5 h7) (cwV 4 hts gX2_choose_X2_bySpeed rfl rfl rfl ddX2_bySpeed ⟨Nat.le_trans (Nat.le_of_ble_eq_true rfl) hfr, Nat.le_trans (Nat.le_of_ble_eq_true rfl) hlo⟩) (va_recv E.1 hP (q := (RX2, TX2, 4)) (ci := 2) rfl (zO.get (oX2_at))) E hP hS hl.1 rfl rfl (Nat.le_of_ble_eq_true rfl) dX2_choose_49) hS (fun H locs hP hS => ?_)
    exact hret _ hf _ _ _ _ hP hS dX2_choose_52
  replace hf := zf k1 hf
  rcases Decidable.em (p1 = 2) with k2 | k2
  · replace hf := zt k2 hf
    refine lv_tableIn (off := 52) (tgt := 53) hx hb dX2_choose_1 (by rw [k2]; decide) (by rw [k2]; decide) (by rw [k2]; rfl) (by decide) ?_
    refine lv_aload_n hx hb dX2_choose_53 rfl (lv_at hl 0 rfl) ?_
    refine lv_iload_n hx hb dX2_choose_54 rfl (lv_at hl 3 rfl) ?_
    refine lv_iload hx hb dX2_choose_55 (lv_at hl 4 rfl) ?_
    refine lv_iload hx hb dX2_choose_57 (lv_at hl 5 rfl) ?_
    obtain ⟨x8, h9, hf⟩ := zb1_e hf
    refine zgo_i (zrunV (As := [.int p3, .int p4, .int p5]) (rest := []) S (c_X2_byCount l hD p3 p4 p5 h9) (cwV 3 hts gX2_choose_X2_byCount rfl rfl rfl ddX2_byCount ⟨Nat.le_trans (Nat.le_of_ble_eq_true rfl) hfr, Nat.le_trans (Nat.le_of_ble_eq_true rfl) hlo⟩) (va_recv E.1 hP (q := (RX2, TX2, 4)) (ci := 2) rfl (zO.get (oX2_at))) E hP hS hl.1 rfl rfl (Nat.le_of_ble_eq_true rfl) dX2_choose_59) hS (fun H locs hP hS => ?_)
    exact hret _ hf _ _ _ _ hP hS dX2_choose_62
  replace hf := zf k2 hf
  rcases Decidable.em (p1 = 3) with k3 | k3
  · replace hf := zt k3 hf
    refine lv_tableIn (off := 62) (tgt := 63) hx hb dX2_choose_1 (by rw [k3]; decide) (by rw [k3]; decide) (by rw [k3]; rfl) (by decide) ?_
    refine lv_aload_n hx hb dX2_choose_63 rfl (lv_at hl 0 rfl) ?_
    refine lv_aload_n hx hb dX2_choose_64 rfl (lv_at hl 0 rfl) ?_
    refine va_get (D := D) (ci := 2) (v := .ref (ad 24)) (C := RX2) (T := TX2) (N := 4) hx hb hts hinX2_choose_X2 hown E.1 hP 34 (zO.get (oX2_at)) rfl 1 (by decide) (hts (.fieldLink RX2 24 "EdgeAndSpeed$Hands" "habits" "LEdgeAndSpeed$Habits;") (by decide +kernel)) (fun _ h9 => h9) rfl dX2_choose_65 ?_
    refine va_getN (D := D) (ci := 1) (v := .int (I 24 3)) (C := RX1) (T := TX1) (N := 6) hx hb hts hinX2_choose_X1 hown E.1 hP 24 (zO.get (oX1_at (by decide))) rfl 3 (by decide) (zNfw_13 E.2.2) (fun _ h9 => h9) rfl dX2_choose_68 ?_
    refine lv_iload_n hx hb dX2_choose_71 rfl (lv_at hl 3 rfl) ?_
    refine lv_iload hx hb dX2_choose_72 (lv_at hl 4 rfl) ?_
    refine lv_iload hx hb dX2_choose_74 (lv_at hl 5 rfl) ?_
    refine lv_iload hx hb dX2_choose_76 (lv_at hl 5 rfl) ?_
    refine lv_bipush (v := 10) hx hb dX2_choose_78 (by decide) ?_
    refine lv_irem hx hb dX2_choose_80 (by decide) ?_
    refine lv_isub hx hb dX2_choose_81 ?_
    obtain ⟨x10, h11, hf⟩ := zb1_e hf
    refine zgo_i (zrunV (As := [.int (I 24 3), .int p3, .int p4, .int (p5 - (p5 - p5 / 10 * 10))]) (rest := []) S (c_X2_bySpeed l hD (I 24 3) p3 p4 (p5 - (p5 - p5 / 10 * 10)) h11) (cwV 4 hts gX2_choose_X2_bySpeed rfl rfl rfl ddX2_bySpeed ⟨Nat.le_trans (Nat.le_of_ble_eq_true rfl) hfr, Nat.le_trans (Nat.le_of_ble_eq_true rfl) hlo⟩) (va_recv E.1 hP (q := (RX2, TX2, 4)) (ci := 2) rfl (zO.get (oX2_at))) E hP hS hl.1 rfl rfl (Nat.le_of_ble_eq_true rfl) dX2_choose_82) hS (fun H locs hP hS => ?_)
    exact hret _ hf _ _ _ _ hP hS dX2_choose_85
  replace hf := zf k3 hf
  rcases Decidable.em (p1 = 4) with k4 | k4
  · replace hf := zt k4 hf
    refine lv_tableIn (off := 102) (tgt := 103) hx hb dX2_choose_1 (by rw [k4]; decide) (by rw [k4]; decide) (by rw [k4]; rfl) (by decide) ?_
    refine lv_aload_n hx hb dX2_choose_103 rfl (lv_at hl 0 rfl) ?_
    refine lv_iload_n hx hb dX2_choose_104 rfl (lv_at hl 2 rfl) ?_
    obtain ⟨q12, h13, hf⟩ := zb1_e hf
    refine zgo_r (zrunV (As := [.int p2]) (rest := []) S (c_X2_quickBy l hD p2 h13) (cwV 1 hts gX2_choose_X2_quickBy rfl rfl rfl ddX2_quickBy ⟨Nat.le_trans (Nat.le_of_ble_eq_true rfl) hfr, Nat.le_trans (Nat.le_of_ble_eq_true rfl) hlo⟩) (va_recv E.1 hP (q := (RX2, TX2, 4)) (ci := 2) rfl (zO.get (oX2_at))) E hP hS hl.1 rfl rfl (Nat.le_of_ble_eq_true rfl) dX2_choose_105) hS (fun H locs hP hS => ?_)
    obtain ⟨g14, hf⟩ := zg_i hf
    refine lv_iload_n hx hb dX2_choose_108 rfl (lv_at hl 3 rfl) ?_
    refine lv_iload hx hb dX2_choose_109 (lv_at hl 4 rfl) ?_
    refine lv_iload hx hb dX2_choose_111 (lv_at hl 5 rfl) ?_
    obtain ⟨x15, h16, hf⟩ := zb1_e hf
    refine zgo_i (zrunV (As := [.int p3, .int p4, .int p5]) (rest := []) S (c_X6_actAt l hD q12 g14 p3 p4 p5 h16) (cwV 3 hts gX2_choose_X6_actAt rfl rfl rfl ddX6_actAt ⟨Nat.le_trans (Nat.le_of_ble_eq_true rfl) hfr, Nat.le_trans (Nat.le_of_ble_eq_true rfl) hlo⟩) (va_recv E.1 hP (q := (RX6, TX6, 7)) (ci := 5) rfl (zO.get (oX6_at g14))) E hP hS hl.1 rfl rfl (Nat.le_of_ble_eq_true rfl) dX2_choose_113) hS (fun H locs hP hS => ?_)
    exact hret _ hf _ _ _ _ hP hS dX2_choose_116
  replace hf := zf k4 hf
  rcases Decidable.em (p1 = 5) with k5 | k5
  · replace hf := zt k5 hf
    refine lv_tableIn (off := 85) (tgt := 86) hx hb dX2_choose_1 (by rw [k5]; decide) (by rw [k5]; decide) (by rw [k5]; rfl) (by decide) ?_
    refine lv_aload_n hx hb dX2_choose_86 rfl (lv_at hl 0 rfl) ?_
    refine lv_aload_n hx hb dX2_choose_87 rfl (lv_at hl 0 rfl) ?_
    refine va_get (D := D) (ci := 2) (v := .ref (ad 4)) (C := RX2) (T := TX2) (N := 4) hx hb hts hinX2_choose_X2 hown E.1 hP 34 (zO.get (oX2_at)) rfl 0 (by decide) (hts (.fieldLink RX2 20 "EdgeAndSpeed$Hands" "bench" "LEdgeAndSpeed$Bench;") (by decide +kernel)) (fun _ h9 => h9) rfl dX2_choose_88 ?_
    obtain ⟨x17, h18, hf⟩ := zb1_e hf
    refine zgo_i (zrunV (As := []) (rest := [.ref (ad 34)]) S (c_X0_slowest l hD 4 (zBat_C (by decide)) h18) (cwV 0 hts gX2_choose_X0_slowest rfl rfl rfl ddX0_slowest ⟨Nat.le_trans (Nat.le_of_ble_eq_true rfl) hfr, Nat.le_trans (Nat.le_of_ble_eq_true rfl) hlo⟩) (va_recv E.1 hP (q := (RX0, TX0, 17)) (ci := 0) rfl (zO.get (zBat_o (zBat_C (by decide))))) E hP hS hl.1 rfl rfl (Nat.le_of_ble_eq_true rfl) dX2_choose_91) hS (fun H locs hP hS => ?_)
    refine lv_iload_n hx hb dX2_choose_94 rfl (lv_at hl 3 rfl) ?_
    refine lv_iload hx hb dX2_choose_95 (lv_at hl 4 rfl) ?_
    refine lv_iload hx hb dX2_choose_97 (lv_at hl 5 rfl) ?_
    obtain ⟨x19, h20, hf⟩ := zb1_e hf
    refine zgo_i (zrunV (As := [.int x17, .int p3, .int p4, .int p5]) (rest := []) S (c_X2_bySpeed l hD x17 p3 p4 p5 h20) (cwV 4 hts gX2_choose_X2_bySpeed rfl rfl rfl ddX2_bySpeed ⟨Nat.le_trans (Nat.le_of_ble_eq_true rfl) hfr, Nat.le_trans (Nat.le_of_ble_eq_true rfl) hlo⟩) (va_recv E.1 hP (q := (RX2, TX2, 4)) (ci := 2) rfl (zO.get (oX2_at))) E hP hS hl.1 rfl rfl (Nat.le_of_ble_eq_true rfl) dX2_choose_99) hS (fun H locs hP hS => ?_)
    exact hret _ hf _ _ _ _ hP hS dX2_choose_102
  replace hf := zf k5 hf
  refine lv_tableOut (tgt := 117) hx hb dX2_choose_1 (zTab (lo := 1) (hi := 5) (fun v h1 h2 h3 => by have h4 : v = 1 ∨ v = 2 ∨ v = 3 ∨ v = 4 ∨ v = 5 := (by omega); rcases h4 with rfl | rfl | rfl | rfl | rfl <;> first | exact k1 (Int32.toInt_inj.mp h3) | exact k2 (Int32.toInt_inj.mp h3) | exact k3 (Int32.toInt_inj.mp h3) | exact k4 (Int32.toInt_inj.mp h3) | exact k5 (Int32.toInt_inj.mp h3))) (by decide) ?_
  refine lv_aload_n hx hb dX2_choose_117 rfl (lv_at hl 0 rfl) ?_
  refine lv_iload_n hx hb dX2_choose_118 rfl (lv_at hl 2 rfl) ?_
  obtain ⟨q21, h22, hf⟩ := zb1_e hf
  refine zgo_r (zrunV (As := [.int p2]) (rest := []) S (c_X2_bestBy l hD p2 h22) (cwV 1 hts gX2_choose_X2_bestBy rfl rfl rfl ddX2_bestBy ⟨Nat.le_trans (Nat.le_of_ble_eq_true rfl) hfr, Nat.le_trans (Nat.le_of_ble_eq_true rfl) hlo⟩) (va_recv E.1 hP (q := (RX2, TX2, 4)) (ci := 2) rfl (zO.get (oX2_at))) E hP hS hl.1 rfl rfl (Nat.le_of_ble_eq_true rfl) dX2_choose_119) hS (fun H locs hP hS => ?_)
  obtain ⟨g23, hf⟩ := zg_i hf
  refine lv_iload_n hx hb dX2_choose_122 rfl (lv_at hl 3 rfl) ?_
  refine lv_iload hx hb dX2_choose_123 (lv_at hl 4 rfl) ?_
  refine lv_iload hx hb dX2_choose_125 (lv_at hl 5 rfl) ?_
  obtain ⟨x24, h25, hf⟩ := zb1_e hf
  refine zgo_i (zrunV (As := [.int p3, .int p4, .int p5]) (rest := []) S (c_X6_actAt l hD q21 g23 p3 p4 p5 h25) (cwV 3 hts gX2_choose_X6_actAt rfl rfl rfl ddX6_actAt ⟨Nat.le_trans (Nat.le_of_ble_eq_true rfl) hfr, Nat.le_trans (Nat.le_of_ble_eq_true rfl) hlo⟩) (va_recv E.1 hP (q := (RX6, TX6, 7)) (ci := 5) rfl (zO.get (oX6_at g23))) E hP hS hl.1 rfl rfl (Nat.le_of_ble_eq_true rfl) dX2_choose_127) hS (fun H locs hP hS => ?_)
  exact hret _ hf _ _ _ _ hP hS dX2_choose_130
theorem c_X2_choose (l : Launch) {D : va_G} {a0 : Nat → Nat} {A : Nat → Prop} {cy : Nat → ClassId} {ad : Nat → Nat} (hD : zD A 74 ad) {I : zI} {J : zJ} (p1 : Int32) (p2 : Int32) (p3 : Int32) (p4 : Int32) (p5 : Int32) {rx : Int32} (hf : f_X2_choose I J p1 p2 p3 p4 p5 = some rx) : Met l yX2_choose wsX2_choose { frames := 3, cells := 0, slots := 0, locals := 73 } (zPc D a0 A cy [.ref (ad 34), .int p1, .int p2, .int p3, .int p4, .int p5] (zw 74 (kC cy ad a0) ad I J)) (zQi D A rx (zw 74 (kC cy ad a0) ad I J)) 0 0 A :=
  zmet RX2 (by decide) rfl rfl (Nat.le_of_ble_eq_true rfl) (fun p e R s m below meth c Q hfr hlo ls S0 hQ => w_X2_choose hfr hlo hD p1 p2 p3 p4 p5 hf S0 (fun tx hq H locs ls pc hP hS hd => by cases hq; exact hQ H locs _ hS (fun hx hb hr hlocks hfree => W.iret hx hb hr (fun t ht hW => ⟨⟨_, (), rfl, rfl, zht ht hP⟩, hS.F ht⟩) hfree hd hlocks)))
theorem ddX2_choose : yX2_choose.cls = RX2 ∧ yX2_choose.cls ≠ "java/lang/invoke/MethodHandle" ∧ yX2_choose.cls ≠ "java/lang/invoke/VarHandle" ∧ (parseMethodDescriptor yX2_choose.desc).map (fun d => d.parameters.length) = some 5 := by decide +kernel

def f_X11_does (I : zI) (J : zJ) (p1 : Int32) (p2 : Int32) (p3 : Int32) (p4 : Int32) (p5 : Int32) : Option (Int32 × zI × zJ) := zb1 (f_X11_isHandIn I J p1 p2) (fun x1 => (if x1 = 0 then some ((-1), I, J) else zb1 (f_X0_isState I J 4 p3 p4 p5) (fun x4 => (if x4 = 0 then some ((-1), I, J) else zb2 (f_X2_prepare I J p1 p2) (fun I7 J8 => zb1 (f_X2_choose I7 J8 p1 p2 p3 p4 p5) (fun x10 => some (x10, I7, J8)))))))
theorem hinX11_does_X11 : ∀ w ∈ u_ws RX11 TX11 12, w ∈ wsX11_does := by decide +kernel
set_option maxHeartbeats 4000000 in
set_option maxRecDepth 100000 in
theorem w_X11_does {p : Program} {l : Launch} {e : Env} {R : Room} {s : State} {m : MethodId} {args : Array Value} {below : List Frame} {meth : Method} {c : Code} {Q : State → Prop} (hfr : 7 ≤ R.frames) (hlo : 174 ≤ R.locals) {D : va_G} {a0 : Nat → Nat} {A : Nat → Prop} {cy : Nat → ClassId} {ad : Nat → Nat} (hD : zD A 74 ad) {I : zI} {J : zJ} (p1 : Int32) (p2 : Int32) (p3 : Int32) (p4 : Int32) (p5 : Int32) {rx : Int32} {rI : zI} {rJ : zJ} (hf : f_X11_does I J p1 p2 p3 p4 p5 = some (rx, rI, rJ)) {ls : Array Slot} (S0 : zSt p m c cX11_does 6 s args wsX11_does RX11 D a0 A cy (zw 74 (kC cy ad a0) ad I J) [.ref (ad 0), .int p1, .int p2, .int p3, .int p4, .int p5] ls) (hret : ∀ (tx : Int32) (tI : zI) (tJ : zJ), some (tx, tI, tJ) = some (rx, rI, rJ) → ∀ (H : Heap) (locs : List Loc) (ls : Array Slot) (pc : Nat), va_P D vwCl (zw 74 (kC cy ad a0) ad tI tJ) H → va_S A s.heap H locs → decode cX11_does pc = .ok (.ireturn, 1) → W p l e R s m args below meth c H locs 0 0 Q (F0 m pc ls [.int tx])) : W p l e R s m args below meth c s.heap [] 0 0 Q (F0 m 0 ls []) := by
  obtain ⟨S, E, hP, hl⟩ := S0
  obtain ⟨hx, hb, hml, hown, hts⟩ := id S
  have hS : va_S A s.heap s.heap [] := va_S.rf
  replace hl : lv_has ls 6 [(0, .ref (ad 0)), (1, .int p1), (2, .int p2), (3, .int p3), (4, .int p4), (5, .int p5)] := hl
  unfold f_X11_does at hf
  refine lv_aload_n hx hb dX11_does_0 rfl (lv_at hl 0 rfl) ?_
  refine lv_iload_n hx hb dX11_does_1 rfl (lv_at hl 1 rfl) ?_
  refine lv_iload_n hx hb dX11_does_2 rfl (lv_at hl 2 rfl) ?_
  obtain ⟨x1, h2, hf⟩ := zb1_e hf
  refine zgo_i (zrunV (As := [.int p1, .int p2]) (rest := []) S (c_X11_isHandIn l hD p1 p2 h2) (cwV 2 hts gX11_does_X11_isHandIn rfl rfl rfl ddX11_isHandIn ⟨Nat.le_trans (Nat.le_of_ble_eq_true rfl) hfr, Nat.le_trans (Nat.le_of_ble_eq_true rfl) hlo⟩) (va_recv E.1 hP (q := (RX11, TX11, 12)) (ci := 10) rfl (zO.get (oX11_at))) E hP hS hl.1 rfl rfl (Nat.le_of_ble_eq_true rfl) dX11_does_3) hS (fun H locs hP hS => ?_)
  refine lv_if_eq (tgt := 24) hx hb dX11_does_6 (by decide) (fun k3 => ?_) (fun k3 => ?_)
  · replace hf := zt k3 hf
    refine lv_iconst (v := (-1)) hx hb dX11_does_24 (by decide) ?_
    exact hret _ _ _ hf _ _ _ _ hP hS dX11_does_25
  · replace hf := zf k3 hf
    refine lv_aload_n hx hb dX11_does_9 rfl (lv_at hl 0 rfl) ?_
    refine va_get (D := D) (ci := 10) (v := .ref (ad 4)) (C := RX11) (T := TX11) (N := 12) hx hb hts hinX11_does_X11 hown E.1 hP 0 (zO.get (oX11_at)) rfl 1 (by decide) (hts (.fieldLink RX11 19 "EdgeAndSpeed" "bench" "LEdgeAndSpeed$Bench;") (by decide +kernel)) (fun _ h9 => h9) rfl dX11_does_10 ?_
    refine lv_iload_n hx hb dX11_does_13 rfl (lv_at hl 3 rfl) ?_
    refine lv_iload hx hb dX11_does_14 (lv_at hl 4 rfl) ?_
    refine lv_iload hx hb dX11_does_16 (lv_at hl 5 rfl) ?_
    obtain ⟨x4, h5, hf⟩ := zb1_e hf
    refine zgo_i (zrunV (As := [.int p3, .int p4, .int p5]) (rest := []) S (c_X0_isState l hD 4 (zBat_C (by decide)) p3 p4 p5 h5) (cwV 3 hts gX11_does_X0_isState rfl rfl rfl ddX0_isState ⟨Nat.le_trans (Nat.le_of_ble_eq_true rfl) hfr, Nat.le_trans (Nat.le_of_ble_eq_true rfl) hlo⟩) (va_recv E.1 hP (q := (RX0, TX0, 17)) (ci := 0) rfl (zO.get (zBat_o (zBat_C (by decide))))) E hP hS hl.1 rfl rfl (Nat.le_of_ble_eq_true rfl) dX11_does_18) hS (fun H locs hP hS => ?_)
    refine lv_if_ne (tgt := 26) hx hb dX11_does_21 (by decide) (fun k6 => ?_) (fun k6 => ?_)
    · replace hf := zf k6 hf
      refine lv_aload_n hx hb dX11_does_26 rfl (lv_at hl 0 rfl) ?_
      refine va_get (D := D) (ci := 10) (v := .ref (ad 34)) (C := RX11) (T := TX11) (N := 12) hx hb hts hinX11_does_X11 hown E.1 hP 0 (zO.get (oX11_at)) rfl 6 (by decide) (hts (.fieldLink RX11 52 "EdgeAndSpeed" "hands" "LEdgeAndSpeed$Hands;") (by decide +kernel)) (fun _ h9 => h9) rfl dX11_does_27 ?_
      refine lv_iload_n hx hb dX11_does_30 rfl (lv_at hl 1 rfl) ?_
      refine lv_iload_n hx hb dX11_does_31 rfl (lv_at hl 2 rfl) ?_
      obtain ⟨I7, J8, h9, hf⟩ := zb2_e hf
      refine zgo_v (zrunV (As := [.int p1, .int p2]) (rest := []) S (c_X2_prepare l hD p1 p2 h9) (cwV 2 hts gX11_does_X2_prepare rfl rfl rfl ddX2_prepare ⟨Nat.le_trans (Nat.le_of_ble_eq_true rfl) hfr, Nat.le_trans (Nat.le_of_ble_eq_true rfl) hlo⟩) (va_recv E.1 hP (q := (RX2, TX2, 4)) (ci := 2) rfl (zO.get (oX2_at))) E hP hS hl.1 rfl rfl (Nat.le_of_ble_eq_true rfl) dX11_does_32) hS (fun H locs hP hS => ?_)
      refine lv_aload_n hx hb dX11_does_35 rfl (lv_at hl 0 rfl) ?_
      refine va_get (D := D) (ci := 10) (v := .ref (ad 34)) (C := RX11) (T := TX11) (N := 12) hx hb hts hinX11_does_X11 hown E.1 hP 0 (zO.get (oX11_at)) rfl 6 (by decide) (hts (.fieldLink RX11 52 "EdgeAndSpeed" "hands" "LEdgeAndSpeed$Hands;") (by decide +kernel)) (fun _ h9 => h9) rfl dX11_does_36 ?_
      refine lv_iload_n hx hb dX11_does_39 rfl (lv_at hl 1 rfl) ?_
      refine lv_iload_n hx hb dX11_does_40 rfl (lv_at hl 2 rfl) ?_
      refine lv_iload_n hx hb dX11_does_41 rfl (lv_at hl 3 rfl) ?_
      refine lv_iload hx hb dX11_does_42 (lv_at hl 4 rfl) ?_
      refine lv_iload hx hb dX11_does_44 (lv_at hl 5 rfl) ?_
      obtain ⟨x10, h11, hf⟩ := zb1_e hf
      refine zgo_i (zrunV (As := [.int p1, .int p2, .int p3, .int p4, .int p5]) (rest := []) S (c_X2_choose l hD p1 p2 p3 p4 p5 h11) (cwV 5 hts gX11_does_X2_choose rfl rfl rfl ddX2_choose ⟨Nat.le_trans (Nat.le_of_ble_eq_true rfl) hfr, Nat.le_trans (Nat.le_of_ble_eq_true rfl) hlo⟩) (va_recv E.1 hP (q := (RX2, TX2, 4)) (ci := 2) rfl (zO.get (oX2_at))) E hP hS hl.1 rfl rfl (Nat.le_of_ble_eq_true rfl) dX11_does_46) hS (fun H locs hP hS => ?_)
      exact hret _ _ _ hf _ _ _ _ hP hS dX11_does_49
    · replace hf := zt k6 hf
      refine lv_iconst (v := (-1)) hx hb dX11_does_24 (by decide) ?_
      exact hret _ _ _ hf _ _ _ _ hP hS dX11_does_25
theorem c_X11_does (l : Launch) {D : va_G} {a0 : Nat → Nat} {A : Nat → Prop} {cy : Nat → ClassId} {ad : Nat → Nat} (hD : zD A 74 ad) {I : zI} {J : zJ} (p1 : Int32) (p2 : Int32) (p3 : Int32) (p4 : Int32) (p5 : Int32) {rx : Int32} {rI : zI} {rJ : zJ} (hf : f_X11_does I J p1 p2 p3 p4 p5 = some (rx, rI, rJ)) : Met l yX11_does wsX11_does { frames := 7, cells := 0, slots := 0, locals := 174 } (zPc D a0 A cy [.ref (ad 0), .int p1, .int p2, .int p3, .int p4, .int p5] (zw 74 (kC cy ad a0) ad I J)) (zQi D A rx (zw 74 (kC cy ad a0) ad rI rJ)) 0 0 A :=
  zmet RX11 (by decide) rfl rfl (Nat.le_of_ble_eq_true rfl) (fun p e R s m below meth c Q hfr hlo ls S0 hQ => w_X11_does hfr hlo hD p1 p2 p3 p4 p5 hf S0 (fun tx tI tJ hq H locs ls pc hP hS hd => by cases hq; exact hQ H locs _ hS (fun hx hb hr hlocks hfree => W.iret hx hb hr (fun t ht hW => ⟨⟨_, (), rfl, rfl, zht ht hP⟩, hS.F ht⟩) hfree hd hlocks)))
theorem ddX11_does : yX11_does.cls = RX11 ∧ yX11_does.cls ≠ "java/lang/invoke/MethodHandle" ∧ yX11_does.cls ≠ "java/lang/invoke/VarHandle" ∧ (parseMethodDescriptor yX11_does.desc).map (fun d => d.parameters.length) = some 5 := by decide +kernel

def f_X6_setAct (I : zI) (J : zJ) (o : Nat) (p1 : Int32) (p2 : Int32) (p3 : Int32) (p4 : Int32) : Option zI := zb1 (f_X6_placeOf I J p1 p2 p3) (fun x1 => (if x1 < 0 then some I else (if 6464 ≤ x1 then some I else zg (¬ (x1 < 0 ∨ 6464 ≤ x1.toNatClampNeg)) (zn (va_up I (o + 2) (upd (I (o + 2)) x1.toNatClampNeg (vp_nar .byte (p4.toInt8.toInt32)))) (fun I5 => some I5)))))
theorem hinX6_setAct_X6 : ∀ w ∈ u_ws RX6 TX6 7, w ∈ wsX6_setAct := by decide +kernel
set_option maxHeartbeats 4000000 in
set_option maxRecDepth 100000 in
theorem w_X6_setAct {p : Program} {l : Launch} {e : Env} {R : Room} {s : State} {m : MethodId} {args : Array Value} {below : List Frame} {meth : Method} {c : Code} {Q : State → Prop} (hfr : 1 ≤ R.frames) (hlo : 22 ≤ R.locals) {D : va_G} {a0 : Nat → Nat} {A : Nat → Prop} {cy : Nat → ClassId} {ad : Nat → Nat} (hD : zD A 74 ad) {I : zI} {J : zJ} (o : Nat) (ho : zPn o) (p1 : Int32) (p2 : Int32) (p3 : Int32) (p4 : Int32) {rI : zI} (hf : f_X6_setAct I J o p1 p2 p3 p4 = some rI) {ls : Array Slot} (S0 : zSt p m c cX6_setAct 6 s args wsX6_setAct RX6 D a0 A cy (zw 74 (kC cy ad a0) ad I J) [.ref (ad o), .int p1, .int p2, .int p3, .int p4] ls) (hret : ∀ (tI : zI), some tI = some rI → ∀ (H : Heap) (locs : List Loc) (ls : Array Slot) (pc : Nat), va_P D vwCl (zw 74 (kC cy ad a0) ad tI J) H → va_S A s.heap H locs → decode cX6_setAct pc = .ok (.return_, 1) → W p l e R s m args below meth c H locs 0 0 Q (F0 m pc ls [])) : W p l e R s m args below meth c s.heap [] 0 0 Q (F0 m 0 ls []) := by
  obtain ⟨S, E, hP, hl⟩ := S0
  obtain ⟨hx, hb, hml, hown, hts⟩ := id S
  have hS : va_S A s.heap s.heap [] := va_S.rf
  replace hl : lv_has ls 6 [(0, .ref (ad o)), (1, .int p1), (2, .int p2), (3, .int p3), (4, .int p4)] := hl
  unfold f_X6_setAct at hf
  refine lv_iload_n hx hb dX6_setAct_0 rfl (lv_at hl 1 rfl) ?_
  refine lv_iload_n hx hb dX6_setAct_1 rfl (lv_at hl 2 rfl) ?_
  refine lv_iload_n hx hb dX6_setAct_2 rfl (lv_at hl 3 rfl) ?_
  obtain ⟨x1, h2, hf⟩ := zb1_e hf
  refine zgo_i (zrunS (As := [.int p1, .int p2, .int p3]) (rest := []) S (c_X6_placeOf l hD p1 p2 p3 h2) (va_cwS 3 hts gX6_setAct_X6_placeOf rfl rfl rfl ddX6_placeOf ⟨Nat.le_trans (Nat.le_of_ble_eq_true rfl) hfr, Nat.le_trans (Nat.le_of_ble_eq_true rfl) hlo⟩) E hP hS hl.1 rfl rfl (Nat.le_of_ble_eq_true rfl) dX6_setAct_3) hS (fun H locs hP hS => ?_)
  refine lv_istore (lv' := [(5, .int x1), (0, .ref (ad o)), (1, .int p1), (2, .int p2), (3, .int p3), (4, .int p4)]) hx hb dX6_setAct_6 hl (by decide) rfl (fun ls hl => ?_)
  refine lv_iload hx hb dX6_setAct_8 (lv_at hl 0 rfl) ?_
  refine lv_if_lt (tgt := 33) hx hb dX6_setAct_10 (by decide) (fun k3 => ?_) (fun k3 => ?_)
  · replace hf := zt k3 hf
    exact hret _ hf _ _ _ _ hP hS dX6_setAct_33
  · replace hf := zf k3 hf
    refine lv_iload hx hb dX6_setAct_13 (lv_at hl 0 rfl) ?_
    refine lv_aload_n hx hb dX6_setAct_15 rfl (lv_at hl 1 rfl) ?_
    refine va_get (D := D) (ci := 5) (v := .ref (ad (o + 2))) (C := RX6) (T := TX6) (N := 7) hx hb hts hinX6_setAct_X6 hown E.1 hP o (zO.get (oX6_at ho)) rfl 2 (by decide) (hts (.fieldLink RX6 15 "EdgeAndSpeed$Plan" "acts" "[B") (by decide +kernel)) (fun _ h9 => h9) rfl dX6_setAct_16 ?_
    refine va_alen (v := 6464) (ty := .byte) hx hb E.1 hP (o + 2) 0 (zIA.get (aX6_2 ho)) rfl rfl dX6_setAct_19 ?_
    refine lv_icmp_ge (tgt := 33) hx hb dX6_setAct_20 (by decide) (fun k4 => ?_) (fun k4 => ?_)
    · replace hf := zt k4 hf
      exact hret _ hf _ _ _ _ hP hS dX6_setAct_33
    · replace hf := zf k4 hf
      refine lv_aload_n hx hb dX6_setAct_23 rfl (lv_at hl 1 rfl) ?_
      refine va_get (D := D) (ci := 5) (v := .ref (ad (o + 2))) (C := RX6) (T := TX6) (N := 7) hx hb hts hinX6_setAct_X6 hown E.1 hP o (zO.get (oX6_at ho)) rfl 2 (by decide) (hts (.fieldLink RX6 15 "EdgeAndSpeed$Plan" "acts" "[B") (by decide +kernel)) (fun _ h9 => h9) rfl dX6_setAct_24 ?_
      refine lv_iload hx hb dX6_setAct_27 (lv_at hl 0 rfl) ?_
      refine lv_iload hx hb dX6_setAct_29 (lv_at hl 5 rfl) ?_
      refine lv_i2b hx hb dX6_setAct_31 rfl ?_
      obtain ⟨g6, hf⟩ := zg_i hf
      obtain ⟨I5, eI5⟩ := zex (va_up I (o + 2) (upd (I (o + 2)) x1.toNatClampNeg (vp_nar .byte (p4.toInt8.toInt32))))
      replace hf := zn_s eI5 hf
      refine zast_b hx hb E.1 hP hD.D hS (aX6_2 ho) g6 dX6_setAct_32 eI5 (fun H locs hP hS => ?_)
      exact hret _ hf _ _ _ _ hP hS dX6_setAct_33
theorem c_X6_setAct (l : Launch) {D : va_G} {a0 : Nat → Nat} {A : Nat → Prop} {cy : Nat → ClassId} {ad : Nat → Nat} (hD : zD A 74 ad) {I : zI} {J : zJ} (o : Nat) (ho : zPn o) (p1 : Int32) (p2 : Int32) (p3 : Int32) (p4 : Int32) {rI : zI} (hf : f_X6_setAct I J o p1 p2 p3 p4 = some rI) : Met l yX6_setAct wsX6_setAct { frames := 1, cells := 0, slots := 0, locals := 22 } (zPc D a0 A cy [.ref (ad o), .int p1, .int p2, .int p3, .int p4] (zw 74 (kC cy ad a0) ad I J)) (zQv D A (zw 74 (kC cy ad a0) ad rI J)) 0 0 A :=
  zmet RX6 (by decide) rfl rfl (Nat.le_of_ble_eq_true rfl) (fun p e R s m below meth c Q hfr hlo ls S0 hQ => w_X6_setAct hfr hlo hD o ho p1 p2 p3 p4 hf S0 (fun tI hq H locs ls pc hP hS hd => by cases hq; exact hQ H locs _ hS (fun hx hb hr hlocks hfree => W.vret hx hb hr (fun t ht hW => ⟨⟨(), rfl, trivial, zht ht hP⟩, hS.F ht⟩) hfree hd hlocks)))
theorem ddX6_setAct : yX6_setAct.cls = RX6 ∧ yX6_setAct.cls ≠ "java/lang/invoke/MethodHandle" ∧ yX6_setAct.cls ≠ "java/lang/invoke/VarHandle" ∧ (parseMethodDescriptor yX6_setAct.desc).map (fun d => d.parameters.length) = some 4 := by decide +kernel

def f_X10_markStart (I : zI) (J : zJ) (p1 : Int32) (p2 : Int32) : Option zI := zb1 (f_X0_hasPiece I J 4 p1) (fun x1 => (if x1 = 0 then some I else zb1 (f_X0_stepsOf I J 4 p1) (fun x4 => zb1 (f_X6_setAct I J 71 p1 x4 p2 0) (fun I6 => some I6))))
theorem hinX10_markStart_X10 : ∀ w ∈ u_ws RX10 TX10 9, w ∈ wsX10_markStart := by decide +kernel
set_option maxHeartbeats 4000000 in
set_option maxRecDepth 100000 in
theorem w_X10_markStart {p : Program} {l : Launch} {e : Env} {R : Room} {s : State} {m : MethodId} {args : Array Value} {below : List Frame} {meth : Method} {c : Code} {Q : State → Prop} (hfr : 2 ≤ R.frames) (hlo : 47 ≤ R.locals) {D : va_G} {a0 : Nat → Nat} {A : Nat → Prop} {cy : Nat → ClassId} {ad : Nat → Nat} (hD : zD A 74 ad) {I : zI} {J : zJ} (p1 : Int32) (p2 : Int32) {rI : zI} (hf : f_X10_markStart I J p1 p2 = some rI) {ls : Array Slot} (S0 : zSt p m c cX10_markStart 3 s args wsX10_markStart RX10 D a0 A cy (zw 74 (kC cy ad a0) ad I J) [.ref (ad 37), .int p1, .int p2] ls) (hret : ∀ (tI : zI), some tI = some rI → ∀ (H : Heap) (locs : List Loc) (ls : Array Slot) (pc : Nat), va_P D vwCl (zw 74 (kC cy ad a0) ad tI J) H → va_S A s.heap H locs → decode cX10_markStart pc = .ok (.return_, 1) → W p l e R s m args below meth c H locs 0 0 Q (F0 m pc ls [])) : W p l e R s m args below meth c s.heap [] 0 0 Q (F0 m 0 ls []) := by
  obtain ⟨S, E, hP, hl⟩ := S0
  obtain ⟨hx, hb, hml, hown, hts⟩ := id S
  have hS : va_S A s.heap s.heap [] := va_S.rf
  replace hl : lv_has ls 3 [(0, .ref (ad 37)), (1, .int p1), (2, .int p2)] := hl
  unfold f_X10_markStart at hf
  refine lv_aload_n hx hb dX10_markStart_0 rfl (lv_at hl 0 rfl) ?_
  refine va_get (D := D) (ci := 9) (v := .ref (ad 4)) (C := RX10) (T := TX10) (N := 9) hx hb hts hinX10_markStart_X10 hown E.1 hP 37 (zO.get (oX10_at)) rfl 0 (by decide) (hts (.fieldLink RX10 9 "EdgeAndSpeed$Walk" "bench" "LEdgeAndSpeed$Bench;") (by decide +kernel)) (fun _ h9 => h9) rfl dX10_markStart_1 ?_
  refine lv_iload_n hx hb dX10_markStart_4 rfl (lv_at hl 1 rfl) ?_
  obtain ⟨x1, h2, hf⟩ := zb1_e hf
  refine zgo_i (zrunV (As := [.int p1]) (rest := []) S (c_X0_hasPiece l hD 4 (zBat_C (by decide)) p1 h2) (cwV 1 hts gX10_markStart_X0_hasPiece rfl rfl rfl ddX0_hasPiece ⟨Nat.le_trans (Nat.le_of_ble_eq_true rfl) hfr, Nat.le_trans (Nat.le_of_ble_eq_true rfl) hlo⟩) (va_recv E.1 hP (q := (RX0, TX0, 17)) (ci := 0) rfl (zO.get (zBat_o (zBat_C (by decide))))) E hP hS hl.1 rfl rfl (Nat.le_of_ble_eq_true rfl) dX10_markStart_5) hS (fun H locs hP hS => ?_)
  refine lv_if_eq (tgt := 29) hx hb dX10_markStart_8 (by decide) (fun k3 => ?_) (fun k3 => ?_)
  · replace hf := zt k3 hf
    exact hret _ hf _ _ _ _ hP hS dX10_markStart_29
  · replace hf := zf k3 hf
    refine lv_aload_n hx hb dX10_markStart_11 rfl (lv_at hl 0 rfl) ?_
    refine va_get (D := D) (ci := 9) (v := .ref (ad 71)) (C := RX10) (T := TX10) (N := 9) hx hb hts hinX10_markStart_X10 hown E.1 hP 37 (zO.get (oX10_at)) rfl 2 (by decide) (hts (.fieldLink RX10 24 "EdgeAndSpeed$Walk" "plan" "LEdgeAndSpeed$Plan;") (by decide +kernel)) (fun _ h9 => h9) rfl dX10_markStart_12 ?_
    refine lv_iload_n hx hb dX10_markStart_15 rfl (lv_at hl 1 rfl) ?_
    refine lv_aload_n hx hb dX10_markStart_16 rfl (lv_at hl 0 rfl) ?_
    refine va_get (D := D) (ci := 9) (v := .ref (ad 4)) (C := RX10) (T := TX10) (N := 9) hx hb hts hinX10_markStart_X10 hown E.1 hP 37 (zO.get (oX10_at)) rfl 0 (by decide) (hts (.fieldLink RX10 9 "EdgeAndSpeed$Walk" "bench" "LEdgeAndSpeed$Bench;") (by decide +kernel)) (fun _ h9 => h9) rfl dX10_markStart_17 ?_
    refine lv_iload_n hx hb dX10_markStart_20 rfl (lv_at hl 1 rfl) ?_
    obtain ⟨x4, h5, hf⟩ := zb1_e hf
    refine zgo_i (zrunV (As := [.int p1]) (rest := [.int p1, .ref (ad 71)]) S (c_X0_stepsOf l hD 4 (zBat_C (by decide)) p1 h5) (cwV 1 hts gX10_markStart_X0_stepsOf rfl rfl rfl ddX0_stepsOf ⟨Nat.le_trans (Nat.le_of_ble_eq_true rfl) hfr, Nat.le_trans (Nat.le_of_ble_eq_true rfl) hlo⟩) (va_recv E.1 hP (q := (RX0, TX0, 17)) (ci := 0) rfl (zO.get (zBat_o (zBat_C (by decide))))) E hP hS hl.1 rfl rfl (Nat.le_of_ble_eq_true rfl) dX10_markStart_21) hS (fun H locs hP hS => ?_)
    refine lv_iload_n hx hb dX10_markStart_24 rfl (lv_at hl 2 rfl) ?_
    refine lv_iconst (v := 0) hx hb dX10_markStart_25 (by decide) ?_
    obtain ⟨I6, h7, hf⟩ := zb1_e hf
    refine zgo_v (zrunV (As := [.int p1, .int x4, .int p2, .int 0]) (rest := []) S (c_X6_setAct l hD 71 (by decide) p1 x4 p2 0 h7) (cwV 4 hts gX10_markStart_X6_setAct rfl rfl rfl ddX6_setAct ⟨Nat.le_trans (Nat.le_of_ble_eq_true rfl) hfr, Nat.le_trans (Nat.le_of_ble_eq_true rfl) hlo⟩) (va_recv E.1 hP (q := (RX6, TX6, 7)) (ci := 5) rfl (zO.get (oX6_at (by decide)))) E hP hS hl.1 rfl rfl (Nat.le_of_ble_eq_true rfl) dX10_markStart_26) hS (fun H locs hP hS => ?_)
    exact hret _ hf _ _ _ _ hP hS dX10_markStart_29
theorem c_X10_markStart (l : Launch) {D : va_G} {a0 : Nat → Nat} {A : Nat → Prop} {cy : Nat → ClassId} {ad : Nat → Nat} (hD : zD A 74 ad) {I : zI} {J : zJ} (p1 : Int32) (p2 : Int32) {rI : zI} (hf : f_X10_markStart I J p1 p2 = some rI) : Met l yX10_markStart wsX10_markStart { frames := 2, cells := 0, slots := 0, locals := 47 } (zPc D a0 A cy [.ref (ad 37), .int p1, .int p2] (zw 74 (kC cy ad a0) ad I J)) (zQv D A (zw 74 (kC cy ad a0) ad rI J)) 0 0 A :=
  zmet RX10 (by decide) rfl rfl (Nat.le_of_ble_eq_true rfl) (fun p e R s m below meth c Q hfr hlo ls S0 hQ => w_X10_markStart hfr hlo hD p1 p2 hf S0 (fun tI hq H locs ls pc hP hS hd => by cases hq; exact hQ H locs _ hS (fun hx hb hr hlocks hfree => W.vret hx hb hr (fun t ht hW => ⟨⟨(), rfl, trivial, zht ht hP⟩, hS.F ht⟩) hfree hd hlocks)))
theorem ddX10_markStart : yX10_markStart.cls = RX10 ∧ yX10_markStart.cls ≠ "java/lang/invoke/MethodHandle" ∧ yX10_markStart.cls ≠ "java/lang/invoke/VarHandle" ∧ (parseMethodDescriptor yX10_markStart.desc).map (fun d => d.parameters.length) = some 2 := by decide +kernel

def f_X10_markBehindPass (I : zI) (J : zJ) (p1 : Int32) (p2 : Int32) (p3 : Int32) (p4 : Int32) : Option zI := zb1 (f_X11_depthOf I J p1) (fun x1 => zb1 (f_X11_speedOf I J p1) (fun x3 => zb1 (f_X0_wears I J 4 p2 x3 x1 (I 37 5)) (fun x5 => zb1 (f_X0_risk I J 4 p4 x5) (fun x7 => zb1 ((if x7 ≤ 0 then some (I) else zb1 (f_X10_markStart I J (p2 + 1) 0) (fun I12 => some (I12))) : Option zI) (fun I14 => (if 100 ≤ x7 then (if 100 ≤ x7 then some I14 else zb1 (f_X10_markStart I14 J (p2 + 1) (p4 + x5)) (fun I17 => some I17)) else (if p3 ≤ x1 then (if 100 ≤ x7 then some I14 else zb1 (f_X10_markStart I14 J (p2 + 1) (p4 + x5)) (fun I21 => some I21)) else zb1 (f_X6_setAct I14 J 71 p2 (p3 - x1) (p4 + x5) 0) (fun I23 => some I23))))))))
theorem hinX10_markBehindPass_X10 : ∀ w ∈ u_ws RX10 TX10 9, w ∈ wsX10_markBehindPass := by decide +kernel
set_option maxHeartbeats 4000000 in
set_option maxRecDepth 100000 in
theorem w_X10_markBehindPass {p : Program} {l : Launch} {e : Env} {R : Room} {s : State} {m : MethodId} {args : Array Value} {below : List Frame} {meth : Method} {c : Code} {Q : State → Prop} (hfr : 3 ≤ R.frames) (hlo : 69 ≤ R.locals) {D : va_G} {a0 : Nat → Nat} {A : Nat → Prop} {cy : Nat → ClassId} {ad : Nat → Nat} (hD : zD A 74 ad) {I : zI} {J : zJ} (p1 : Int32) (p2 : Int32) (p3 : Int32) (p4 : Int32) {rI : zI} (hf : f_X10_markBehindPass I J p1 p2 p3 p4 = some rI) {ls : Array Slot} (S0 : zSt p m c cX10_markBehindPass 8 s args wsX10_markBehindPass RX10 D a0 A cy (zw 74 (kC cy ad a0) ad I J) [.ref (ad 37), .int p1, .int p2, .int p3, .int p4] ls) (hret : ∀ (tI : zI), some tI = some rI → ∀ (H : Heap) (locs : List Loc) (ls : Array Slot) (pc : Nat), va_P D vwCl (zw 74 (kC cy ad a0) ad tI J) H → va_S A s.heap H locs → decode cX10_markBehindPass pc = .ok (.return_, 1) → W p l e R s m args below meth c H locs 0 0 Q (F0 m pc ls [])) : W p l e R s m args below meth c s.heap [] 0 0 Q (F0 m 0 ls []) := by
  obtain ⟨S, E, hP, hl⟩ := S0
  obtain ⟨hx, hb, hml, hown, hts⟩ := id S
  have hS : va_S A s.heap s.heap [] := va_S.rf
  replace hl : lv_has ls 8 [(0, .ref (ad 37)), (1, .int p1), (2, .int p2), (3, .int p3), (4, .int p4)] := hl
  unfold f_X10_markBehindPass at hf
  refine lv_iload_n hx hb dX10_markBehindPass_0 rfl (lv_at hl 1 rfl) ?_
  obtain ⟨x1, h2, hf⟩ := zb1_e hf
  refine zgo_i (zrunSN (As := [.int p1]) (rest := []) S (c_X11_depthOf l hD p1 h2) ⟨va_cnB (host := "EdgeAndSpeed") 1 hts gX10_markBehindPass_X11_depthOf_n84 rfl rfl rfl (zNmw_8 E.2.2) (hts (.initialized RX11) (by decide +kernel)) ddX11_depthOf ⟨Nat.le_trans (Nat.le_of_ble_eq_true rfl) hfr, Nat.le_trans (Nat.le_of_ble_eq_true rfl) hlo⟩, hts (.static yX11_depthOf) (by decide +kernel), trivial⟩ E hP hS hl.1 rfl rfl (Nat.le_of_ble_eq_true rfl) dX10_markBehindPass_1) hS (fun H locs hP hS => ?_)
  refine lv_istore (lv' := [(5, .int x1), (0, .ref (ad 37)), (1, .int p1), (2, .int p2), (3, .int p3), (4, .int p4)]) hx hb dX10_markBehindPass_4 hl (by decide) rfl (fun ls hl => ?_)
  refine lv_aload_n hx hb dX10_markBehindPass_6 rfl (lv_at hl 1 rfl) ?_
  refine va_get (D := D) (ci := 9) (v := .ref (ad 4)) (C := RX10) (T := TX10) (N := 9) hx hb hts hinX10_markBehindPass_X10 hown E.1 hP 37 (zO.get (oX10_at)) rfl 0 (by decide) (hts (.fieldLink RX10 9 "EdgeAndSpeed$Walk" "bench" "LEdgeAndSpeed$Bench;") (by decide +kernel)) (fun _ h9 => h9) rfl dX10_markBehindPass_7 ?_
  refine lv_iload_n hx hb dX10_markBehindPass_10 rfl (lv_at hl 3 rfl) ?_
  refine lv_iload_n hx hb dX10_markBehindPass_11 rfl (lv_at hl 2 rfl) ?_
  obtain ⟨x3, h4, hf⟩ := zb1_e hf
  refine zgo_i (zrunSN (As := [.int p1]) (rest := [.int p2, .ref (ad 4)]) S (c_X11_speedOf l hD p1 h4) ⟨va_cnB (host := "EdgeAndSpeed") 1 hts gX10_markBehindPass_X11_speedOf_n87 rfl rfl rfl (zNmw_9 E.2.2) (hts (.initialized RX11) (by decide +kernel)) ddX11_speedOf ⟨Nat.le_trans (Nat.le_of_ble_eq_true rfl) hfr, Nat.le_trans (Nat.le_of_ble_eq_true rfl) hlo⟩, hts (.static yX11_speedOf) (by decide +kernel), trivial⟩ E hP hS hl.1 rfl rfl (Nat.le_of_ble_eq_true rfl) dX10_markBehindPass_12) hS (fun H locs hP hS => ?_)
  refine lv_iload hx hb dX10_markBehindPass_15 (lv_at hl 0 rfl) ?_
  refine lv_aload_n hx hb dX10_markBehindPass_17 rfl (lv_at hl 1 rfl) ?_
  refine va_get (D := D) (ci := 9) (v := .int (I 37 5)) (C := RX10) (T := TX10) (N := 9) hx hb hts hinX10_markBehindPass_X10 hown E.1 hP 37 (zO.get (oX10_at)) rfl 5 (by decide) (hts (.fieldLink RX10 35 "EdgeAndSpeed$Walk" "steel" "I") (by decide +kernel)) (fun _ h9 => h9) rfl dX10_markBehindPass_18 ?_
  obtain ⟨x5, h6, hf⟩ := zb1_e hf
  refine zgo_i (zrunV (As := [.int p2, .int x3, .int x1, .int (I 37 5)]) (rest := []) S (c_X0_wears l hD 4 (zBat_C (by decide)) p2 x3 x1 (I 37 5) h6) (cwV 4 hts gX10_markBehindPass_X0_wears rfl rfl rfl ddX0_wears ⟨Nat.le_trans (Nat.le_of_ble_eq_true rfl) hfr, Nat.le_trans (Nat.le_of_ble_eq_true rfl) hlo⟩) (va_recv E.1 hP (q := (RX0, TX0, 17)) (ci := 0) rfl (zO.get (zBat_o (zBat_C (by decide))))) E hP hS hl.1 rfl rfl (Nat.le_of_ble_eq_true rfl) dX10_markBehindPass_21) hS (fun H locs hP hS => ?_)
  refine lv_istore (lv' := [(6, .int x5), (5, .int x1), (0, .ref (ad 37)), (1, .int p1), (2, .int p2), (3, .int p3), (4, .int p4)]) hx hb dX10_markBehindPass_24 hl (by decide) rfl (fun ls hl => ?_)
  refine lv_aload_n hx hb dX10_markBehindPass_26 rfl (lv_at hl 2 rfl) ?_
  refine va_get (D := D) (ci := 9) (v := .ref (ad 4)) (C := RX10) (T := TX10) (N := 9) hx hb hts hinX10_markBehindPass_X10 hown E.1 hP 37 (zO.get (oX10_at)) rfl 0 (by decide) (hts (.fieldLink RX10 9 "EdgeAndSpeed$Walk" "bench" "LEdgeAndSpeed$Bench;") (by decide +kernel)) (fun _ h9 => h9) rfl dX10_markBehindPass_27 ?_
  refine lv_iload hx hb dX10_markBehindPass_30 (lv_at hl 6 rfl) ?_
  refine lv_iload hx hb dX10_markBehindPass_32 (lv_at hl 0 rfl) ?_
  obtain ⟨x7, h8, hf⟩ := zb1_e hf
  refine zgo_i (zrunV (As := [.int p4, .int x5]) (rest := []) S (c_X0_risk l hD 4 (zBat_C (by decide)) p4 x5 h8) (cwV 2 hts gX10_markBehindPass_X0_risk rfl rfl rfl ddX0_risk ⟨Nat.le_trans (Nat.le_of_ble_eq_true rfl) hfr, Nat.le_trans (Nat.le_of_ble_eq_true rfl) hlo⟩) (va_recv E.1 hP (q := (RX0, TX0, 17)) (ci := 0) rfl (zO.get (zBat_o (zBat_C (by decide))))) E hP hS hl.1 rfl rfl (Nat.le_of_ble_eq_true rfl) dX10_markBehindPass_34) hS (fun H locs hP hS => ?_)
  refine lv_istore (lv' := [(7, .int x7), (6, .int x5), (5, .int x1), (0, .ref (ad 37)), (1, .int p1), (2, .int p2), (3, .int p3), (4, .int p4)]) hx hb dX10_markBehindPass_37 hl (by decide) rfl (fun ls hl => ?_)
  refine lv_iload hx hb dX10_markBehindPass_39 (lv_at hl 0 rfl) ?_
  obtain ⟨zr11, hf, hzr11⟩ := zb1_i hf
  have hjr11 : ∀ (I14 : zI), I14 = zr11 → ∀ (H : Heap) (locs : List Loc) (ls : Array Slot), va_P D vwCl (zw 74 (kC cy ad a0) ad I14 J) H → va_S A s.heap H locs → lv_has ls 8 [(0, .ref (ad 37)), (2, .int p2), (3, .int p3), (4, .int p4), (5, .int x1), (6, .int x5), (7, .int x7)] → W p l e R s m args below meth c H locs 0 0 Q (F0 m 52 ls []) := by
    intro I14 ez H locs ls hP hS hl
    have hf := hzr11 I14 ez
    refine lv_iload hx hb dX10_markBehindPass_52 (lv_at hl 6 rfl) ?_
    refine lv_bipush (v := 100) hx hb dX10_markBehindPass_54 (by decide) ?_
    refine lv_icmp_ge (tgt := 86) hx hb dX10_markBehindPass_56 (by decide) (fun k15 => ?_) (fun k15 => ?_)
    · replace hf := zt k15 hf
      refine lv_iload hx hb dX10_markBehindPass_86 (lv_at hl 6 rfl) ?_
      refine lv_bipush (v := 100) hx hb dX10_markBehindPass_88 (by decide) ?_
      refine lv_icmp_ge (tgt := 105) hx hb dX10_markBehindPass_90 (by decide) (fun k16 => ?_) (fun k16 => ?_)
      · replace hf := zt k16 hf
        exact hret _ hf _ _ _ _ hP hS dX10_markBehindPass_105
      · replace hf := zf k16 hf
        refine lv_aload_n hx hb dX10_markBehindPass_93 rfl (lv_at hl 0 rfl) ?_
        refine lv_iload_n hx hb dX10_markBehindPass_94 rfl (lv_at hl 1 rfl) ?_
        refine lv_iconst (v := 1) hx hb dX10_markBehindPass_95 (by decide) ?_
        refine lv_iadd hx hb dX10_markBehindPass_96 ?_
        refine lv_iload hx hb dX10_markBehindPass_97 (lv_at hl 3 rfl) ?_
        refine lv_iload hx hb dX10_markBehindPass_99 (lv_at hl 5 rfl) ?_
        refine lv_iadd hx hb dX10_markBehindPass_101 ?_
        obtain ⟨I17, h18, hf⟩ := zb1_e hf
        refine zgo_v (zrunV (As := [.int (p2 + 1), .int (p4 + x5)]) (rest := []) S (c_X10_markStart l hD (p2 + 1) (p4 + x5) h18) (cwV 2 hts gX10_markBehindPass_X10_markStart rfl rfl rfl ddX10_markStart ⟨Nat.le_trans (Nat.le_of_ble_eq_true rfl) hfr, Nat.le_trans (Nat.le_of_ble_eq_true rfl) hlo⟩) (va_recv E.1 hP (q := (RX10, TX10, 9)) (ci := 9) rfl (zO.get (oX10_at))) E hP hS hl.1 rfl rfl (Nat.le_of_ble_eq_true rfl) dX10_markBehindPass_102) hS (fun H locs hP hS => ?_)
        exact hret _ hf _ _ _ _ hP hS dX10_markBehindPass_105
    · replace hf := zf k15 hf
      refine lv_iload hx hb dX10_markBehindPass_59 (lv_at hl 4 rfl) ?_
      refine lv_iload_n hx hb dX10_markBehindPass_61 rfl (lv_at hl 2 rfl) ?_
      refine lv_icmp_ge (tgt := 86) hx hb dX10_markBehindPass_62 (by decide) (fun k19 => ?_) (fun k19 => ?_)
      · replace hf := zt k19 hf
        refine lv_iload hx hb dX10_markBehindPass_86 (lv_at hl 6 rfl) ?_
        refine lv_bipush (v := 100) hx hb dX10_markBehindPass_88 (by decide) ?_
        refine lv_icmp_ge (tgt := 105) hx hb dX10_markBehindPass_90 (by decide) (fun k20 => ?_) (fun k20 => ?_)
        · replace hf := zt k20 hf
          exact hret _ hf _ _ _ _ hP hS dX10_markBehindPass_105
        · replace hf := zf k20 hf
          refine lv_aload_n hx hb dX10_markBehindPass_93 rfl (lv_at hl 0 rfl) ?_
          refine lv_iload_n hx hb dX10_markBehindPass_94 rfl (lv_at hl 1 rfl) ?_
          refine lv_iconst (v := 1) hx hb dX10_markBehindPass_95 (by decide) ?_
          refine lv_iadd hx hb dX10_markBehindPass_96 ?_
          refine lv_iload hx hb dX10_markBehindPass_97 (lv_at hl 3 rfl) ?_
          refine lv_iload hx hb dX10_markBehindPass_99 (lv_at hl 5 rfl) ?_
          refine lv_iadd hx hb dX10_markBehindPass_101 ?_
          obtain ⟨I21, h22, hf⟩ := zb1_e hf
          refine zgo_v (zrunV (As := [.int (p2 + 1), .int (p4 + x5)]) (rest := []) S (c_X10_markStart l hD (p2 + 1) (p4 + x5) h22) (cwV 2 hts gX10_markBehindPass_X10_markStart rfl rfl rfl ddX10_markStart ⟨Nat.le_trans (Nat.le_of_ble_eq_true rfl) hfr, Nat.le_trans (Nat.le_of_ble_eq_true rfl) hlo⟩) (va_recv E.1 hP (q := (RX10, TX10, 9)) (ci := 9) rfl (zO.get (oX10_at))) E hP hS hl.1 rfl rfl (Nat.le_of_ble_eq_true rfl) dX10_markBehindPass_102) hS (fun H locs hP hS => ?_)
          exact hret _ hf _ _ _ _ hP hS dX10_markBehindPass_105
      · replace hf := zf k19 hf
        refine lv_aload_n hx hb dX10_markBehindPass_65 rfl (lv_at hl 0 rfl) ?_
        refine va_get (D := D) (ci := 9) (v := .ref (ad 71)) (C := RX10) (T := TX10) (N := 9) hx hb hts hinX10_markBehindPass_X10 hown E.1 hP 37 (zO.get (oX10_at)) rfl 2 (by decide) (hts (.fieldLink RX10 24 "EdgeAndSpeed$Walk" "plan" "LEdgeAndSpeed$Plan;") (by decide +kernel)) (fun _ h9 => h9) rfl dX10_markBehindPass_66 ?_
        refine lv_iload_n hx hb dX10_markBehindPass_69 rfl (lv_at hl 1 rfl) ?_
        refine lv_iload_n hx hb dX10_markBehindPass_70 rfl (lv_at hl 2 rfl) ?_
        refine lv_iload hx hb dX10_markBehindPass_71 (lv_at hl 4 rfl) ?_
        refine lv_isub hx hb dX10_markBehindPass_73 ?_
        refine lv_iload hx hb dX10_markBehindPass_74 (lv_at hl 3 rfl) ?_
        refine lv_iload hx hb dX10_markBehindPass_76 (lv_at hl 5 rfl) ?_
        refine lv_iadd hx hb dX10_markBehindPass_78 ?_
        refine lv_iconst (v := 0) hx hb dX10_markBehindPass_79 (by decide) ?_
        obtain ⟨I23, h24, hf⟩ := zb1_e hf
        refine zgo_v (zrunV (As := [.int p2, .int (p3 - x1), .int (p4 + x5), .int 0]) (rest := []) S (c_X6_setAct l hD 71 (by decide) p2 (p3 - x1) (p4 + x5) 0 h24) (cwV 4 hts gX10_markBehindPass_X6_setAct rfl rfl rfl ddX6_setAct ⟨Nat.le_trans (Nat.le_of_ble_eq_true rfl) hfr, Nat.le_trans (Nat.le_of_ble_eq_true rfl) hlo⟩) (va_recv E.1 hP (q := (RX6, TX6, 7)) (ci := 5) rfl (zO.get (oX6_at (by decide)))) E hP hS hl.1 rfl rfl (Nat.le_of_ble_eq_true rfl) dX10_markBehindPass_80) hS (fun H locs hP hS => ?_)
        refine lv_goto (tgt := 105) hx hb dX10_markBehindPass_83 (by decide) ?_
        exact hret _ hf _ _ _ _ hP hS dX10_markBehindPass_105
  refine lv_if_le (tgt := 52) hx hb dX10_markBehindPass_41 (by decide) (fun k9 => ?_) (fun k9 => ?_)
  · replace hf := zt k9 hf
    exact hjr11 _ (Option.some.inj hf) _ _ _ hP hS (lv_sub hl [3, 5, 6, 7, 2, 1, 0] rfl)
  · replace hf := zf k9 hf
    refine lv_aload_n hx hb dX10_markBehindPass_44 rfl (lv_at hl 3 rfl) ?_
    refine lv_iload_n hx hb dX10_markBehindPass_45 rfl (lv_at hl 5 rfl) ?_
    refine lv_iconst (v := 1) hx hb dX10_markBehindPass_46 (by decide) ?_
    refine lv_iadd hx hb dX10_markBehindPass_47 ?_
    refine lv_iconst (v := 0) hx hb dX10_markBehindPass_48 (by decide) ?_
    obtain ⟨I12, h13, hf⟩ := zb1_e hf
    refine zgo_v (zrunV (As := [.int (p2 + 1), .int 0]) (rest := []) S (c_X10_markStart l hD (p2 + 1) 0 h13) (cwV 2 hts gX10_markBehindPass_X10_markStart rfl rfl rfl ddX10_markStart ⟨Nat.le_trans (Nat.le_of_ble_eq_true rfl) hfr, Nat.le_trans (Nat.le_of_ble_eq_true rfl) hlo⟩) (va_recv E.1 hP (q := (RX10, TX10, 9)) (ci := 9) rfl (zO.get (oX10_at))) E hP hS hl.1 rfl rfl (Nat.le_of_ble_eq_true rfl) dX10_markBehindPass_49) hS (fun H locs hP hS => ?_)
    exact hjr11 _ (Option.some.inj hf) _ _ _ hP hS (lv_sub hl [3, 5, 6, 7, 2, 1, 0] rfl)
theorem c_X10_markBehindPass (l : Launch) {D : va_G} {a0 : Nat → Nat} {A : Nat → Prop} {cy : Nat → ClassId} {ad : Nat → Nat} (hD : zD A 74 ad) {I : zI} {J : zJ} (p1 : Int32) (p2 : Int32) (p3 : Int32) (p4 : Int32) {rI : zI} (hf : f_X10_markBehindPass I J p1 p2 p3 p4 = some rI) : Met l yX10_markBehindPass wsX10_markBehindPass { frames := 3, cells := 0, slots := 0, locals := 69 } (zPc D a0 A cy [.ref (ad 37), .int p1, .int p2, .int p3, .int p4] (zw 74 (kC cy ad a0) ad I J)) (zQv D A (zw 74 (kC cy ad a0) ad rI J)) 0 0 A :=
  zmet RX10 (by decide) rfl rfl (Nat.le_of_ble_eq_true rfl) (fun p e R s m below meth c Q hfr hlo ls S0 hQ => w_X10_markBehindPass hfr hlo hD p1 p2 p3 p4 hf S0 (fun tI hq H locs ls pc hP hS hd => by cases hq; exact hQ H locs _ hS (fun hx hb hr hlocks hfree => W.vret hx hb hr (fun t ht hW => ⟨⟨(), rfl, trivial, zht ht hP⟩, hS.F ht⟩) hfree hd hlocks)))
theorem ddX10_markBehindPass : yX10_markBehindPass.cls = RX10 ∧ yX10_markBehindPass.cls ≠ "java/lang/invoke/MethodHandle" ∧ yX10_markBehindPass.cls ≠ "java/lang/invoke/VarHandle" ∧ (parseMethodDescriptor yX10_markBehindPass.desc).map (fun d => d.parameters.length) = some 4 := by decide +kernel

def f_X10_step (I : zI) (J : zJ) (p1 : Int32) (p2 : Int32) (p3 : Int32) : Option zI := zb1 (f_X2_choose I J (I 37 3) (I 37 4) p1 p2 p3) (fun x1 => zb1 (f_X6_setAct I J 71 p1 p2 p3 x1) (fun I3 => (if x1 = 48 then zb1 (f_X6_setAct I3 J 71 p1 p2 0 0) (fun I11 => some I11) else (if x1 = 49 then zb1 (f_X10_markStart I3 J (p1 + 1) p3) (fun I9 => some I9) else zb1 (f_X10_markBehindPass I3 J x1 p1 p2 p3) (fun I7 => some I7)))))
theorem hinX10_step_X10 : ∀ w ∈ u_ws RX10 TX10 9, w ∈ wsX10_step := by decide +kernel
set_option maxHeartbeats 4000000 in
set_option maxRecDepth 100000 in
theorem w_X10_step {p : Program} {l : Launch} {e : Env} {R : Room} {s : State} {m : MethodId} {args : Array Value} {below : List Frame} {meth : Method} {c : Code} {Q : State → Prop} (hfr : 4 ≤ R.frames) (hlo : 98 ≤ R.locals) {D : va_G} {a0 : Nat → Nat} {A : Nat → Prop} {cy : Nat → ClassId} {ad : Nat → Nat} (hD : zD A 74 ad) {I : zI} {J : zJ} (p1 : Int32) (p2 : Int32) (p3 : Int32) {rI : zI} (hf : f_X10_step I J p1 p2 p3 = some rI) {ls : Array Slot} (S0 : zSt p m c cX10_step 5 s args wsX10_step RX10 D a0 A cy (zw 74 (kC cy ad a0) ad I J) [.ref (ad 37), .int p1, .int p2, .int p3] ls) (hret : ∀ (tI : zI), some tI = some rI → ∀ (H : Heap) (locs : List Loc) (ls : Array Slot) (pc : Nat), va_P D vwCl (zw 74 (kC cy ad a0) ad tI J) H → va_S A s.heap H locs → decode cX10_step pc = .ok (.return_, 1) → W p l e R s m args below meth c H locs 0 0 Q (F0 m pc ls [])) : W p l e R s m args below meth c s.heap [] 0 0 Q (F0 m 0 ls []) := by
  obtain ⟨S, E, hP, hl⟩ := S0
  obtain ⟨hx, hb, hml, hown, hts⟩ := id S
  have hS : va_S A s.heap s.heap [] := va_S.rf
  replace hl : lv_has ls 5 [(0, .ref (ad 37)), (1, .int p1), (2, .int p2), (3, .int p3)] := hl
  unfold f_X10_step at hf
  refine lv_aload_n hx hb dX10_step_0 rfl (lv_at hl 0 rfl) ?_
  refine va_get (D := D) (ci := 9) (v := .ref (ad 34)) (C := RX10) (T := TX10) (N := 9) hx hb hts hinX10_step_X10 hown E.1 hP 37 (zO.get (oX10_at)) rfl 1 (by decide) (hts (.fieldLink RX10 15 "EdgeAndSpeed$Walk" "hands" "LEdgeAndSpeed$Hands;") (by decide +kernel)) (fun _ h9 => h9) rfl dX10_step_1 ?_
  refine lv_aload_n hx hb dX10_step_4 rfl (lv_at hl 0 rfl) ?_
  refine va_get (D := D) (ci := 9) (v := .int (I 37 3)) (C := RX10) (T := TX10) (N := 9) hx hb hts hinX10_step_X10 hown E.1 hP 37 (zO.get (oX10_at)) rfl 3 (by decide) (hts (.fieldLink RX10 28 "EdgeAndSpeed$Walk" "hand" "I") (by decide +kernel)) (fun _ h9 => h9) rfl dX10_step_5 ?_
  refine lv_aload_n hx hb dX10_step_8 rfl (lv_at hl 0 rfl) ?_
  refine va_get (D := D) (ci := 9) (v := .int (I 37 4)) (C := RX10) (T := TX10) (N := 9) hx hb hts hinX10_step_X10 hown E.1 hP 37 (zO.get (oX10_at)) rfl 4 (by decide) (hts (.fieldLink RX10 32 "EdgeAndSpeed$Walk" "steelThought" "I") (by decide +kernel)) (fun _ h9 => h9) rfl dX10_step_9 ?_
  refine lv_iload_n hx hb dX10_step_12 rfl (lv_at hl 1 rfl) ?_
  refine lv_iload_n hx hb dX10_step_13 rfl (lv_at hl 2 rfl) ?_
  refine lv_iload_n hx hb dX10_step_14 rfl (lv_at hl 3 rfl) ?_
  obtain ⟨x1, h2, hf⟩ := zb1_e hf
  refine zgo_i (zrunV (As := [.int (I 37 3), .int (I 37 4), .int p1, .int p2, .int p3]) (rest := []) S (c_X2_choose l hD (I 37 3) (I 37 4) p1 p2 p3 h2) (cwV 5 hts gX10_step_X2_choose rfl rfl rfl ddX2_choose ⟨Nat.le_trans (Nat.le_of_ble_eq_true rfl) hfr, Nat.le_trans (Nat.le_of_ble_eq_true rfl) hlo⟩) (va_recv E.1 hP (q := (RX2, TX2, 4)) (ci := 2) rfl (zO.get (oX2_at))) E hP hS hl.1 rfl rfl (Nat.le_of_ble_eq_true rfl) dX10_step_15) hS (fun H locs hP hS => ?_)
  refine lv_istore (lv' := [(4, .int x1), (0, .ref (ad 37)), (1, .int p1), (2, .int p2), (3, .int p3)]) hx hb dX10_step_18 hl (by decide) rfl (fun ls hl => ?_)
  refine lv_aload_n hx hb dX10_step_20 rfl (lv_at hl 1 rfl) ?_
  refine va_get (D := D) (ci := 9) (v := .ref (ad 71)) (C := RX10) (T := TX10) (N := 9) hx hb hts hinX10_step_X10 hown E.1 hP 37 (zO.get (oX10_at)) rfl 2 (by decide) (hts (.fieldLink RX10 24 "EdgeAndSpeed$Walk" "plan" "LEdgeAndSpeed$Plan;") (by decide +kernel)) (fun _ h9 => h9) rfl dX10_step_21 ?_
  refine lv_iload_n hx hb dX10_step_24 rfl (lv_at hl 2 rfl) ?_
  refine lv_iload_n hx hb dX10_step_25 rfl (lv_at hl 3 rfl) ?_
  refine lv_iload_n hx hb dX10_step_26 rfl (lv_at hl 4 rfl) ?_
  refine lv_iload hx hb dX10_step_27 (lv_at hl 0 rfl) ?_
  obtain ⟨I3, h4, hf⟩ := zb1_e hf
  refine zgo_v (zrunV (As := [.int p1, .int p2, .int p3, .int x1]) (rest := []) S (c_X6_setAct l hD 71 (by decide) p1 p2 p3 x1 h4) (cwV 4 hts gX10_step_X6_setAct rfl rfl rfl ddX6_setAct ⟨Nat.le_trans (Nat.le_of_ble_eq_true rfl) hfr, Nat.le_trans (Nat.le_of_ble_eq_true rfl) hlo⟩) (va_recv E.1 hP (q := (RX6, TX6, 7)) (ci := 5) rfl (zO.get (oX6_at (by decide)))) E hP hS hl.1 rfl rfl (Nat.le_of_ble_eq_true rfl) dX10_step_29) hS (fun H locs hP hS => ?_)
  refine lv_iload hx hb dX10_step_32 (lv_at hl 0 rfl) ?_
  refine lv_bipush (v := 48) hx hb dX10_step_34 (by decide) ?_
  refine lv_icmp_ne (tgt := 53) hx hb dX10_step_36 (by decide) (fun k5 => ?_) (fun k5 => ?_)
  · replace hf := zf k5 hf
    refine lv_iload hx hb dX10_step_53 (lv_at hl 0 rfl) ?_
    refine lv_bipush (v := 49) hx hb dX10_step_55 (by decide) ?_
    refine lv_icmp_ne (tgt := 71) hx hb dX10_step_57 (by decide) (fun k6 => ?_) (fun k6 => ?_)
    · replace hf := zf k6 hf
      refine lv_aload_n hx hb dX10_step_71 rfl (lv_at hl 1 rfl) ?_
      refine lv_iload hx hb dX10_step_72 (lv_at hl 0 rfl) ?_
      refine lv_iload_n hx hb dX10_step_74 rfl (lv_at hl 2 rfl) ?_
      refine lv_iload_n hx hb dX10_step_75 rfl (lv_at hl 3 rfl) ?_
      refine lv_iload_n hx hb dX10_step_76 rfl (lv_at hl 4 rfl) ?_
      obtain ⟨I7, h8, hf⟩ := zb1_e hf
      refine zgo_v (zrunV (As := [.int x1, .int p1, .int p2, .int p3]) (rest := []) S (c_X10_markBehindPass l hD x1 p1 p2 p3 h8) (cwV 4 hts gX10_step_X10_markBehindPass rfl rfl rfl ddX10_markBehindPass ⟨Nat.le_trans (Nat.le_of_ble_eq_true rfl) hfr, Nat.le_trans (Nat.le_of_ble_eq_true rfl) hlo⟩) (va_recv E.1 hP (q := (RX10, TX10, 9)) (ci := 9) rfl (zO.get (oX10_at))) E hP hS hl.1 rfl rfl (Nat.le_of_ble_eq_true rfl) dX10_step_77) hS (fun H locs hP hS => ?_)
      exact hret _ hf _ _ _ _ hP hS dX10_step_80
    · replace hf := zt k6 hf
      refine lv_aload_n hx hb dX10_step_60 rfl (lv_at hl 1 rfl) ?_
      refine lv_iload_n hx hb dX10_step_61 rfl (lv_at hl 2 rfl) ?_
      refine lv_iconst (v := 1) hx hb dX10_step_62 (by decide) ?_
      refine lv_iadd hx hb dX10_step_63 ?_
      refine lv_iload_n hx hb dX10_step_64 rfl (lv_at hl 4 rfl) ?_
      obtain ⟨I9, h10, hf⟩ := zb1_e hf
      refine zgo_v (zrunV (As := [.int (p1 + 1), .int p3]) (rest := []) S (c_X10_markStart l hD (p1 + 1) p3 h10) (cwV 2 hts gX10_step_X10_markStart rfl rfl rfl ddX10_markStart ⟨Nat.le_trans (Nat.le_of_ble_eq_true rfl) hfr, Nat.le_trans (Nat.le_of_ble_eq_true rfl) hlo⟩) (va_recv E.1 hP (q := (RX10, TX10, 9)) (ci := 9) rfl (zO.get (oX10_at))) E hP hS hl.1 rfl rfl (Nat.le_of_ble_eq_true rfl) dX10_step_65) hS (fun H locs hP hS => ?_)
      refine lv_goto (tgt := 80) hx hb dX10_step_68 (by decide) ?_
      exact hret _ hf _ _ _ _ hP hS dX10_step_80
  · replace hf := zt k5 hf
    refine lv_aload_n hx hb dX10_step_39 rfl (lv_at hl 1 rfl) ?_
    refine va_get (D := D) (ci := 9) (v := .ref (ad 71)) (C := RX10) (T := TX10) (N := 9) hx hb hts hinX10_step_X10 hown E.1 hP 37 (zO.get (oX10_at)) rfl 2 (by decide) (hts (.fieldLink RX10 24 "EdgeAndSpeed$Walk" "plan" "LEdgeAndSpeed$Plan;") (by decide +kernel)) (fun _ h9 => h9) rfl dX10_step_40 ?_
    refine lv_iload_n hx hb dX10_step_43 rfl (lv_at hl 2 rfl) ?_
    refine lv_iload_n hx hb dX10_step_44 rfl (lv_at hl 3 rfl) ?_
    refine lv_iconst (v := 0) hx hb dX10_step_45 (by decide) ?_
    refine lv_iconst (v := 0) hx hb dX10_step_46 (by decide) ?_
    obtain ⟨I11, h12, hf⟩ := zb1_e hf
    refine zgo_v (zrunV (As := [.int p1, .int p2, .int 0, .int 0]) (rest := []) S (c_X6_setAct l hD 71 (by decide) p1 p2 0 0 h12) (cwV 4 hts gX10_step_X6_setAct rfl rfl rfl ddX6_setAct ⟨Nat.le_trans (Nat.le_of_ble_eq_true rfl) hfr, Nat.le_trans (Nat.le_of_ble_eq_true rfl) hlo⟩) (va_recv E.1 hP (q := (RX6, TX6, 7)) (ci := 5) rfl (zO.get (oX6_at (by decide)))) E hP hS hl.1 rfl rfl (Nat.le_of_ble_eq_true rfl) dX10_step_47) hS (fun H locs hP hS => ?_)
    refine lv_goto (tgt := 80) hx hb dX10_step_50 (by decide) ?_
    exact hret _ hf _ _ _ _ hP hS dX10_step_80
theorem c_X10_step (l : Launch) {D : va_G} {a0 : Nat → Nat} {A : Nat → Prop} {cy : Nat → ClassId} {ad : Nat → Nat} (hD : zD A 74 ad) {I : zI} {J : zJ} (p1 : Int32) (p2 : Int32) (p3 : Int32) {rI : zI} (hf : f_X10_step I J p1 p2 p3 = some rI) : Met l yX10_step wsX10_step { frames := 4, cells := 0, slots := 0, locals := 98 } (zPc D a0 A cy [.ref (ad 37), .int p1, .int p2, .int p3] (zw 74 (kC cy ad a0) ad I J)) (zQv D A (zw 74 (kC cy ad a0) ad rI J)) 0 0 A :=
  zmet RX10 (by decide) rfl rfl (Nat.le_of_ble_eq_true rfl) (fun p e R s m below meth c Q hfr hlo ls S0 hQ => w_X10_step hfr hlo hD p1 p2 p3 hf S0 (fun tI hq H locs ls pc hP hS hd => by cases hq; exact hQ H locs _ hS (fun hx hb hr hlocks hfree => W.vret hx hb hr (fun t ht hW => ⟨⟨(), rfl, trivial, zht ht hP⟩, hS.F ht⟩) hfree hd hlocks)))
theorem ddX10_step : yX10_step.cls = RX10 ∧ yX10_step.cls ≠ "java/lang/invoke/MethodHandle" ∧ yX10_step.cls ≠ "java/lang/invoke/VarHandle" ∧ (parseMethodDescriptor yX10_step.desc).map (fun d => d.parameters.length) = some 3 := by decide +kernel

def f_X10_spread_L91 (J : zJ) (x12 : Int32) (x18 : Int32) (x22 : Int32) (I23 : zI) : Option ((Int32 × zI) ⊕ zI) := (if x22 < 0 then some (.inr I23) else zb1 (f_X6_actAt I23 J 71 x12 x18 x22) (fun x25 => (if x25 = (-1) then zn (x22 + (-1)) (fun y28 => some (.inl (y28, I23))) else zb1 (f_X10_step I23 J x12 x18 x22) (fun I29 => zn (x22 + (-1)) (fun y31 => some (.inl (y31, I29)))))))
def f_X10_spread_L81 (J : zJ) (x12 : Int32) (x18 : Int32) (I19 : zI) : Option ((Int32 × zI) ⊕ zI) := (if x18 < 1 then some (.inr I19) else zb1 (zl (fun v : (Int32 × zI) => f_X10_spread_L91 J x12 x18 v.1 v.2) zF (100, I19)) (fun I32 => zn (x18 + (-1)) (fun y33 => some (.inl (y33, I32)))))
def f_X10_spread_L58 (J : zJ) (x12 : Int32) (I13 : zI) : Option ((Int32 × zI) ⊕ zI) := (if (I13 4 10) ≤ x12 then some (.inr I13) else zb1 (f_X0_stepsOf I13 J 4 x12) (fun x15 => zb1 (zl (fun v : (Int32 × zI) => f_X10_spread_L81 J x12 v.1 v.2) zF (x15, I13)) (fun I34 => zn (x12 + 1) (fun y35 => some (.inl (y35, I34))))))
def f_X10_spread (I : zI) (J : zJ) (p1 : Int32) (p2 : Int32) (p3 : Int32) (p4 : Int32) (p5 : Int32) (p6 : Int32) : Option zI := zn (va_up I 37 (va_up (I 37) 3 p1)) (fun I1 => zn (va_up I1 37 (va_up (I1 37) 4 p2)) (fun I2 => zn (va_up I2 37 (va_up (I2 37) 5 p3)) (fun I3 => zn (va_up I3 37 (va_up (I3 37) 6 p4)) (fun I4 => zn (va_up I4 37 (va_up (I4 37) 7 p5)) (fun I5 => zn (va_up I5 37 (va_up (I5 37) 8 p6)) (fun I6 => zb1 (f_X6_clear I6 J 71) (fun I7 => zb1 (f_X6_setAct I7 J 71 p4 p5 p6 0) (fun I9 => zb1 (zl (fun v : (Int32 × zI) => f_X10_spread_L58 J v.1 v.2) zF (p4, I9)) (fun I36 => some I36)))))))))
theorem hinX10_spread_X10 : ∀ w ∈ u_ws RX10 TX10 9, w ∈ wsX10_spread := by decide +kernel
theorem hinX10_spread_X0 : ∀ w ∈ u_ws RX0 TX0 17, w ∈ wsX10_spread := by decide +kernel
set_option maxHeartbeats 4000000 in
set_option maxRecDepth 100000 in
theorem w_X10_spread {p : Program} {l : Launch} {e : Env} {R : Room} {s : State} {m : MethodId} {args : Array Value} {below : List Frame} {meth : Method} {c : Code} {Q : State → Prop} (hfr : 5 ≤ R.frames) (hlo : 122 ≤ R.locals) {D : va_G} {a0 : Nat → Nat} {A : Nat → Prop} {cy : Nat → ClassId} {ad : Nat → Nat} (hD : zD A 74 ad) {I : zI} {J : zJ} (p1 : Int32) (p2 : Int32) (p3 : Int32) (p4 : Int32) (p5 : Int32) (p6 : Int32) {rI : zI} (hf : f_X10_spread I J p1 p2 p3 p4 p5 p6 = some rI) {ls : Array Slot} (S0 : zSt p m c cX10_spread 10 s args wsX10_spread RX10 D a0 A cy (zw 74 (kC cy ad a0) ad I J) [.ref (ad 37), .int p1, .int p2, .int p3, .int p4, .int p5, .int p6] ls) (hret : ∀ (tI : zI), some tI = some rI → ∀ (H : Heap) (locs : List Loc) (ls : Array Slot) (pc : Nat), va_P D vwCl (zw 74 (kC cy ad a0) ad tI J) H → va_S A s.heap H locs → decode cX10_spread pc = .ok (.return_, 1) → W p l e R s m args below meth c H locs 0 0 Q (F0 m pc ls [])) : W p l e R s m args below meth c s.heap [] 0 0 Q (F0 m 0 ls []) := by
  obtain ⟨S, E, hP, hl⟩ := S0
  obtain ⟨hx, hb, hml, hown, hts⟩ := id S
  have hS : va_S A s.heap s.heap [] := va_S.rf
  replace hl : lv_has ls 10 [(0, .ref (ad 37)), (1, .int p1), (2, .int p2), (3, .int p3), (4, .int p4), (5, .int p5), (6, .int p6)] := hl
  unfold f_X10_spread at hf
  refine lv_aload_n hx hb dX10_spread_0 rfl (lv_at hl 0 rfl) ?_
  refine lv_iload_n hx hb dX10_spread_1 rfl (lv_at hl 1 rfl) ?_
  obtain ⟨I1, eI1⟩ := zex (va_up I 37 (va_up (I 37) 3 p1))
  replace hf := zn_s eI1 hf
  refine zput (D := D) (ci := 9) (v := .int p1) (ty := .int) (C := RX10) (T := TX10) (N := 9) hx hb hts hinX10_spread_X10 tyX10 tyX10_ok nmX10 hown E.1 hP hD.D hS 37 (zO.get (oX10_at)) rfl 3 (by decide) (hts (.fieldLink RX10 28 "EdgeAndSpeed$Walk" "hand" "I") (by decide +kernel)) (fun _ h9 => h9) rfl (tyX10_ok 3 (by decide)) rfl rfl (Nat.le_of_ble_eq_true rfl) dX10_spread_2 (zO.setI (oX10_at) rfl eI1) (fun H locs hP hS => ?_)
  refine lv_aload_n hx hb dX10_spread_5 rfl (lv_at hl 0 rfl) ?_
  refine lv_iload_n hx hb dX10_spread_6 rfl (lv_at hl 2 rfl) ?_
  obtain ⟨I2, eI2⟩ := zex (va_up I1 37 (va_up (I1 37) 4 p2))
  replace hf := zn_s eI2 hf
  refine zput (D := D) (ci := 9) (v := .int p2) (ty := .int) (C := RX10) (T := TX10) (N := 9) hx hb hts hinX10_spread_X10 tyX10 tyX10_ok nmX10 hown E.1 hP hD.D hS 37 (zO.get (oX10_at)) rfl 4 (by decide) (hts (.fieldLink RX10 32 "EdgeAndSpeed$Walk" "steelThought" "I") (by decide +kernel)) (fun _ h9 => h9) rfl (tyX10_ok 4 (by decide)) rfl rfl (Nat.le_of_ble_eq_true rfl) dX10_spread_7 (zO.setI (oX10_at) rfl eI2) (fun H locs hP hS => ?_)
  refine lv_aload_n hx hb dX10_spread_10 rfl (lv_at hl 0 rfl) ?_
  refine lv_iload_n hx hb dX10_spread_11 rfl (lv_at hl 3 rfl) ?_
  obtain ⟨I3, eI3⟩ := zex (va_up I2 37 (va_up (I2 37) 5 p3))
  replace hf := zn_s eI3 hf
  refine zput (D := D) (ci := 9) (v := .int p3) (ty := .int) (C := RX10) (T := TX10) (N := 9) hx hb hts hinX10_spread_X10 tyX10 tyX10_ok nmX10 hown E.1 hP hD.D hS 37 (zO.get (oX10_at)) rfl 5 (by decide) (hts (.fieldLink RX10 35 "EdgeAndSpeed$Walk" "steel" "I") (by decide +kernel)) (fun _ h9 => h9) rfl (tyX10_ok 5 (by decide)) rfl rfl (Nat.le_of_ble_eq_true rfl) dX10_spread_12 (zO.setI (oX10_at) rfl eI3) (fun H locs hP hS => ?_)
  refine lv_aload_n hx hb dX10_spread_15 rfl (lv_at hl 0 rfl) ?_
  refine lv_iload hx hb dX10_spread_16 (lv_at hl 4 rfl) ?_
  obtain ⟨I4, eI4⟩ := zex (va_up I3 37 (va_up (I3 37) 6 p4))
  replace hf := zn_s eI4 hf
  refine zput (D := D) (ci := 9) (v := .int p4) (ty := .int) (C := RX10) (T := TX10) (N := 9) hx hb hts hinX10_spread_X10 tyX10 tyX10_ok nmX10 hown E.1 hP hD.D hS 37 (zO.get (oX10_at)) rfl 6 (by decide) (hts (.fieldLink RX10 38 "EdgeAndSpeed$Walk" "piece" "I") (by decide +kernel)) (fun _ h9 => h9) rfl (tyX10_ok 6 (by decide)) rfl rfl (Nat.le_of_ble_eq_true rfl) dX10_spread_18 (zO.setI (oX10_at) rfl eI4) (fun H locs hP hS => ?_)
  refine lv_aload_n hx hb dX10_spread_21 rfl (lv_at hl 0 rfl) ?_
  refine lv_iload hx hb dX10_spread_22 (lv_at hl 5 rfl) ?_
  obtain ⟨I5, eI5⟩ := zex (va_up I4 37 (va_up (I4 37) 7 p5))
  replace hf := zn_s eI5 hf
  refine zput (D := D) (ci := 9) (v := .int p5) (ty := .int) (C := RX10) (T := TX10) (N := 9) hx hb hts hinX10_spread_X10 tyX10 tyX10_ok nmX10 hown E.1 hP hD.D hS 37 (zO.get (oX10_at)) rfl 7 (by decide) (hts (.fieldLink RX10 41 "EdgeAndSpeed$Walk" "left" "I") (by decide +kernel)) (fun _ h9 => h9) rfl (tyX10_ok 7 (by decide)) rfl rfl (Nat.le_of_ble_eq_true rfl) dX10_spread_24 (zO.setI (oX10_at) rfl eI5) (fun H locs hP hS => ?_)
  refine lv_aload_n hx hb dX10_spread_27 rfl (lv_at hl 0 rfl) ?_
  refine lv_iload hx hb dX10_spread_28 (lv_at hl 6 rfl) ?_
  obtain ⟨I6, eI6⟩ := zex (va_up I5 37 (va_up (I5 37) 8 p6))
  replace hf := zn_s eI6 hf
  refine zput (D := D) (ci := 9) (v := .int p6) (ty := .int) (C := RX10) (T := TX10) (N := 9) hx hb hts hinX10_spread_X10 tyX10 tyX10_ok nmX10 hown E.1 hP hD.D hS 37 (zO.get (oX10_at)) rfl 8 (by decide) (hts (.fieldLink RX10 44 "EdgeAndSpeed$Walk" "wear" "I") (by decide +kernel)) (fun _ h9 => h9) rfl (tyX10_ok 8 (by decide)) rfl rfl (Nat.le_of_ble_eq_true rfl) dX10_spread_30 (zO.setI (oX10_at) rfl eI6) (fun H locs hP hS => ?_)
  refine lv_aload_n hx hb dX10_spread_33 rfl (lv_at hl 0 rfl) ?_
  refine va_get (D := D) (ci := 9) (v := .ref (ad 71)) (C := RX10) (T := TX10) (N := 9) hx hb hts hinX10_spread_X10 hown E.1 hP 37 (zO.get (oX10_at)) rfl 2 (by decide) (hts (.fieldLink RX10 24 "EdgeAndSpeed$Walk" "plan" "LEdgeAndSpeed$Plan;") (by decide +kernel)) (fun _ h9 => h9) rfl dX10_spread_34 ?_
  obtain ⟨I7, h8, hf⟩ := zb1_e hf
  refine zgo_v (zrunV (As := []) (rest := []) S (c_X6_clear l hD 71 (by decide) h8) (cwV 0 hts gX10_spread_X6_clear rfl rfl rfl ddX6_clear ⟨Nat.le_trans (Nat.le_of_ble_eq_true rfl) hfr, Nat.le_trans (Nat.le_of_ble_eq_true rfl) hlo⟩) (va_recv E.1 hP (q := (RX6, TX6, 7)) (ci := 5) rfl (zO.get (oX6_at (by decide)))) E hP hS hl.1 rfl rfl (Nat.le_of_ble_eq_true rfl) dX10_spread_37) hS (fun H locs hP hS => ?_)
  refine lv_aload_n hx hb dX10_spread_40 rfl (lv_at hl 0 rfl) ?_
  refine va_get (D := D) (ci := 9) (v := .ref (ad 71)) (C := RX10) (T := TX10) (N := 9) hx hb hts hinX10_spread_X10 hown E.1 hP 37 (zO.get (oX10_at)) rfl 2 (by decide) (hts (.fieldLink RX10 24 "EdgeAndSpeed$Walk" "plan" "LEdgeAndSpeed$Plan;") (by decide +kernel)) (fun _ h9 => h9) rfl dX10_spread_41 ?_
  refine lv_iload hx hb dX10_spread_44 (lv_at hl 4 rfl) ?_
  refine lv_iload hx hb dX10_spread_46 (lv_at hl 5 rfl) ?_
  refine lv_iload hx hb dX10_spread_48 (lv_at hl 6 rfl) ?_
  refine lv_iconst (v := 0) hx hb dX10_spread_50 (by decide) ?_
  obtain ⟨I9, h10, hf⟩ := zb1_e hf
  refine zgo_v (zrunV (As := [.int p4, .int p5, .int p6, .int 0]) (rest := []) S (c_X6_setAct l hD 71 (by decide) p4 p5 p6 0 h10) (cwV 4 hts gX10_spread_X6_setAct rfl rfl rfl ddX6_setAct ⟨Nat.le_trans (Nat.le_of_ble_eq_true rfl) hfr, Nat.le_trans (Nat.le_of_ble_eq_true rfl) hlo⟩) (va_recv E.1 hP (q := (RX6, TX6, 7)) (ci := 5) rfl (zO.get (oX6_at (by decide)))) E hP hS hl.1 rfl rfl (Nat.le_of_ble_eq_true rfl) dX10_spread_51) hS (fun H locs hP hS => ?_)
  refine lv_iload hx hb dX10_spread_54 (lv_at hl 4 rfl) ?_
  refine lv_istore (lv' := [(7, .int p4), (0, .ref (ad 37)), (1, .int p1), (2, .int p2), (3, .int p3), (4, .int p4), (5, .int p5), (6, .int p6)]) hx hb dX10_spread_56 hl (by decide) rfl (fun ls hl => ?_)
  obtain ⟨zl11, hf, hzl11⟩ := zb1_i hf
  have hjl11 : ∀ (I36 : zI), I36 = zl11 → ∀ (H : Heap) (locs : List Loc) (ls : Array Slot), va_P D vwCl (zw 74 (kC cy ad a0) ad I36 J) H → va_S A s.heap H locs → lv_has ls 10 [] → W p l e R s m args below meth c H locs 0 0 Q (F0 m 141 ls []) := by
    intro I36 ez H locs ls hP hS hl
    have hf := hzl11 I36 ez
    exact hret _ hf _ _ _ _ hP hS dX10_spread_141
  refine zl_i (V := (Int32 × zI)) (P := fun v => ∀ (H : Heap) (locs : List Loc) (ls : Array Slot), va_P D vwCl (zw 74 (kC cy ad a0) ad v.2 J) H → va_S A s.heap H locs → lv_has ls 10 [(0, .ref (ad 37)), (7, .int (v.1))] → W p l e R s m args below meth c H locs 0 0 Q (F0 m 58 ls [])) ?_ _ _ hf _ _ _ hP hS (lv_sub hl [1, 0] rfl)
  intro v z hf hcl11 hdl11
  obtain ⟨x12, I13⟩ := v
  intro H locs ls hP hS hl
  replace hf : f_X10_spread_L58 J x12 I13 = some z := hf
  unfold f_X10_spread_L58 at hf
  replace hP : va_P D vwCl (zw 74 (kC cy ad a0) ad I13 J) H := hP
  replace hl : lv_has ls 10 [(0, .ref (ad 37)), (7, .int x12)] := hl
  refine lv_iload hx hb dX10_spread_58 (lv_at hl 1 rfl) ?_
  refine lv_aload_n hx hb dX10_spread_60 rfl (lv_at hl 0 rfl) ?_
  refine va_get (D := D) (ci := 9) (v := .ref (ad 4)) (C := RX10) (T := TX10) (N := 9) hx hb hts hinX10_spread_X10 hown E.1 hP 37 (zO.get (oX10_at)) rfl 0 (by decide) (hts (.fieldLink RX10 9 "EdgeAndSpeed$Walk" "bench" "LEdgeAndSpeed$Bench;") (by decide +kernel)) (fun _ h9 => h9) rfl dX10_spread_61 ?_
  refine va_getN (D := D) (ci := 0) (v := .int (I13 4 10)) (C := RX0) (T := TX0) (N := 17) hx hb hts hinX10_spread_X0 hown E.1 hP 4 (zO.get (zBat_o (zBat_C (by decide)))) rfl 10 (by decide) (zNfw_4 E.2.2) (fun _ h9 => h9) rfl dX10_spread_64 ?_
  refine lv_icmp_ge (tgt := 141) hx hb dX10_spread_67 (by decide) (fun k14 => ?_) (fun k14 => ?_)
  · replace hf := zt k14 hf
    exact hjl11 _ (hdl11 _ (Option.some.inj hf).symm) _ _ _ hP hS (lv_sub hl [] rfl)
  · replace hf := zf k14 hf
    refine lv_aload_n hx hb dX10_spread_70 rfl (lv_at hl 0 rfl) ?_
    refine va_get (D := D) (ci := 9) (v := .ref (ad 4)) (C := RX10) (T := TX10) (N := 9) hx hb hts hinX10_spread_X10 hown E.1 hP 37 (zO.get (oX10_at)) rfl 0 (by decide) (hts (.fieldLink RX10 9 "EdgeAndSpeed$Walk" "bench" "LEdgeAndSpeed$Bench;") (by decide +kernel)) (fun _ h9 => h9) rfl dX10_spread_71 ?_
    refine lv_iload hx hb dX10_spread_74 (lv_at hl 1 rfl) ?_
    obtain ⟨x15, h16, hf⟩ := zb1_e hf
    refine zgo_i (zrunV (As := [.int x12]) (rest := []) S (c_X0_stepsOf l hD 4 (zBat_C (by decide)) x12 h16) (cwV 1 hts gX10_spread_X0_stepsOf rfl rfl rfl ddX0_stepsOf ⟨Nat.le_trans (Nat.le_of_ble_eq_true rfl) hfr, Nat.le_trans (Nat.le_of_ble_eq_true rfl) hlo⟩) (va_recv E.1 hP (q := (RX0, TX0, 17)) (ci := 0) rfl (zO.get (zBat_o (zBat_C (by decide))))) E hP hS hl.1 rfl rfl (Nat.le_of_ble_eq_true rfl) dX10_spread_76) hS (fun H locs hP hS => ?_)
    refine lv_istore (lv' := [(8, .int x15), (0, .ref (ad 37)), (7, .int x12)]) hx hb dX10_spread_79 hl (by decide) rfl (fun ls hl => ?_)
    obtain ⟨zl17, hf, hzl17⟩ := zb1_i hf
    have hjl17 : ∀ (I34 : zI), I34 = zl17 → ∀ (H : Heap) (locs : List Loc) (ls : Array Slot), va_P D vwCl (zw 74 (kC cy ad a0) ad I34 J) H → va_S A s.heap H locs → lv_has ls 10 [(0, .ref (ad 37)), (7, .int x12)] → W p l e R s m args below meth c H locs 0 0 Q (F0 m 135 ls []) := by
      intro I34 ez H locs ls hP hS hl
      have hf := hzl17 I34 ez
      obtain ⟨y35, ey35⟩ := zex (x12 + 1)
      replace hf := zn_s ey35 hf
      refine lv_iinc (v := y35) (lv' := [(7, .int y35), (0, .ref (ad 37))]) hx hb dX10_spread_135 hl (k := 1) rfl (by rw [ey35]; rfl) (by decide) rfl (fun ls hl => ?_)
      refine lv_goto (tgt := 58) hx hb dX10_spread_138 (by decide) ?_
      exact hcl11 _ (Option.some.inj hf).symm _ _ _ hP hS (lv_sub hl [1, 0] rfl)
    refine zl_i (V := (Int32 × zI)) (P := fun v => ∀ (H : Heap) (locs : List Loc) (ls : Array Slot), va_P D vwCl (zw 74 (kC cy ad a0) ad v.2 J) H → va_S A s.heap H locs → lv_has ls 10 [(0, .ref (ad 37)), (7, .int x12), (8, .int (v.1))] → W p l e R s m args below meth c H locs 0 0 Q (F0 m 81 ls [])) ?_ _ _ hf _ _ _ hP hS (lv_sub hl [1, 2, 0] rfl)
    intro v z hf hcl17 hdl17
    obtain ⟨x18, I19⟩ := v
    intro H locs ls hP hS hl
    replace hf : f_X10_spread_L81 J x12 x18 I19 = some z := hf
    unfold f_X10_spread_L81 at hf
    replace hP : va_P D vwCl (zw 74 (kC cy ad a0) ad I19 J) H := hP
    replace hl : lv_has ls 10 [(0, .ref (ad 37)), (7, .int x12), (8, .int x18)] := hl
    refine lv_iload hx hb dX10_spread_81 (lv_at hl 2 rfl) ?_
    refine lv_iconst (v := 1) hx hb dX10_spread_83 (by decide) ?_
    refine lv_icmp_lt (tgt := 135) hx hb dX10_spread_84 (by decide) (fun k20 => ?_) (fun k20 => ?_)
    · replace hf := zt k20 hf
      exact hjl17 _ (hdl17 _ (Option.some.inj hf).symm) _ _ _ hP hS (lv_sub hl [0, 1] rfl)
    · replace hf := zf k20 hf
      refine lv_bipush (v := 100) hx hb dX10_spread_87 (by decide) ?_
      refine lv_istore (lv' := [(9, .int 100), (0, .ref (ad 37)), (7, .int x12), (8, .int x18)]) hx hb dX10_spread_89 hl (by decide) rfl (fun ls hl => ?_)
      obtain ⟨zl21, hf, hzl21⟩ := zb1_i hf
      have hjl21 : ∀ (I32 : zI), I32 = zl21 → ∀ (H : Heap) (locs : List Loc) (ls : Array Slot), va_P D vwCl (zw 74 (kC cy ad a0) ad I32 J) H → va_S A s.heap H locs → lv_has ls 10 [(0, .ref (ad 37)), (7, .int x12), (8, .int x18)] → W p l e R s m args below meth c H locs 0 0 Q (F0 m 129 ls []) := by
        intro I32 ez H locs ls hP hS hl
        have hf := hzl21 I32 ez
        obtain ⟨y33, ey33⟩ := zex (x18 + (-1))
        replace hf := zn_s ey33 hf
        refine lv_iinc (v := y33) (lv' := [(8, .int y33), (0, .ref (ad 37)), (7, .int x12)]) hx hb dX10_spread_129 hl (k := 2) rfl (by rw [ey33]; rfl) (by decide) rfl (fun ls hl => ?_)
        refine lv_goto (tgt := 81) hx hb dX10_spread_132 (by decide) ?_
        exact hcl17 _ (Option.some.inj hf).symm _ _ _ hP hS (lv_sub hl [1, 2, 0] rfl)
      refine zl_i (V := (Int32 × zI)) (P := fun v => ∀ (H : Heap) (locs : List Loc) (ls : Array Slot), va_P D vwCl (zw 74 (kC cy ad a0) ad v.2 J) H → va_S A s.heap H locs → lv_has ls 10 [(0, .ref (ad 37)), (7, .int x12), (8, .int x18), (9, .int (v.1))] → W p l e R s m args below meth c H locs 0 0 Q (F0 m 91 ls [])) ?_ _ _ hf _ _ _ hP hS (lv_sub hl [1, 2, 3, 0] rfl)
      intro v z hf hcl21 hdl21
      obtain ⟨x22, I23⟩ := v
      intro H locs ls hP hS hl
      replace hf : f_X10_spread_L91 J x12 x18 x22 I23 = some z := hf
      unfold f_X10_spread_L91 at hf
      replace hP : va_P D vwCl (zw 74 (kC cy ad a0) ad I23 J) H := hP
      replace hl : lv_has ls 10 [(0, .ref (ad 37)), (7, .int x12), (8, .int x18), (9, .int x22)] := hl
      refine lv_iload hx hb dX10_spread_91 (lv_at hl 3 rfl) ?_
      refine lv_if_lt (tgt := 129) hx hb dX10_spread_93 (by decide) (fun k24 => ?_) (fun k24 => ?_)
      · replace hf := zt k24 hf
        exact hjl21 _ (hdl21 _ (Option.some.inj hf).symm) _ _ _ hP hS (lv_sub hl [0, 1, 2] rfl)
      · replace hf := zf k24 hf
        refine lv_aload_n hx hb dX10_spread_96 rfl (lv_at hl 0 rfl) ?_
        refine va_get (D := D) (ci := 9) (v := .ref (ad 71)) (C := RX10) (T := TX10) (N := 9) hx hb hts hinX10_spread_X10 hown E.1 hP 37 (zO.get (oX10_at)) rfl 2 (by decide) (hts (.fieldLink RX10 24 "EdgeAndSpeed$Walk" "plan" "LEdgeAndSpeed$Plan;") (by decide +kernel)) (fun _ h9 => h9) rfl dX10_spread_97 ?_
        refine lv_iload hx hb dX10_spread_100 (lv_at hl 1 rfl) ?_
        refine lv_iload hx hb dX10_spread_102 (lv_at hl 2 rfl) ?_
        refine lv_iload hx hb dX10_spread_104 (lv_at hl 3 rfl) ?_
        obtain ⟨x25, h26, hf⟩ := zb1_e hf
        refine zgo_i (zrunV (As := [.int x12, .int x18, .int x22]) (rest := []) S (c_X6_actAt l hD 71 (by decide) x12 x18 x22 h26) (cwV 3 hts gX10_spread_X6_actAt rfl rfl rfl ddX6_actAt ⟨Nat.le_trans (Nat.le_of_ble_eq_true rfl) hfr, Nat.le_trans (Nat.le_of_ble_eq_true rfl) hlo⟩) (va_recv E.1 hP (q := (RX6, TX6, 7)) (ci := 5) rfl (zO.get (oX6_at (by decide)))) E hP hS hl.1 rfl rfl (Nat.le_of_ble_eq_true rfl) dX10_spread_106) hS (fun H locs hP hS => ?_)
        refine lv_iconst (v := (-1)) hx hb dX10_spread_109 (by decide) ?_
        refine lv_icmp_eq (tgt := 123) hx hb dX10_spread_110 (by decide) (fun k27 => ?_) (fun k27 => ?_)
        · replace hf := zt k27 hf
          obtain ⟨y28, ey28⟩ := zex (x22 + (-1))
          replace hf := zn_s ey28 hf
          refine lv_iinc (v := y28) (lv' := [(9, .int y28), (0, .ref (ad 37)), (7, .int x12), (8, .int x18)]) hx hb dX10_spread_123 hl (k := 3) rfl (by rw [ey28]; rfl) (by decide) rfl (fun ls hl => ?_)
          refine lv_goto (tgt := 91) hx hb dX10_spread_126 (by decide) ?_
          exact hcl21 _ (Option.some.inj hf).symm _ _ _ hP hS (lv_sub hl [1, 2, 3, 0] rfl)
        · replace hf := zf k27 hf
          refine lv_aload_n hx hb dX10_spread_113 rfl (lv_at hl 0 rfl) ?_
          refine lv_iload hx hb dX10_spread_114 (lv_at hl 1 rfl) ?_
          refine lv_iload hx hb dX10_spread_116 (lv_at hl 2 rfl) ?_
          refine lv_iload hx hb dX10_spread_118 (lv_at hl 3 rfl) ?_
          obtain ⟨I29, h30, hf⟩ := zb1_e hf
          refine zgo_v (zrunV (As := [.int x12, .int x18, .int x22]) (rest := []) S (c_X10_step l hD x12 x18 x22 h30) (cwV 3 hts gX10_spread_X10_step rfl rfl rfl ddX10_step ⟨Nat.le_trans (Nat.le_of_ble_eq_true rfl) hfr, Nat.le_trans (Nat.le_of_ble_eq_true rfl) hlo⟩) (va_recv E.1 hP (q := (RX10, TX10, 9)) (ci := 9) rfl (zO.get (oX10_at))) E hP hS hl.1 rfl rfl (Nat.le_of_ble_eq_true rfl) dX10_spread_120) hS (fun H locs hP hS => ?_)
          obtain ⟨y31, ey31⟩ := zex (x22 + (-1))
          replace hf := zn_s ey31 hf
          refine lv_iinc (v := y31) (lv' := [(9, .int y31), (0, .ref (ad 37)), (7, .int x12), (8, .int x18)]) hx hb dX10_spread_123 hl (k := 3) rfl (by rw [ey31]; rfl) (by decide) rfl (fun ls hl => ?_)
          refine lv_goto (tgt := 91) hx hb dX10_spread_126 (by decide) ?_
          exact hcl21 _ (Option.some.inj hf).symm _ _ _ hP hS (lv_sub hl [1, 2, 3, 0] rfl)
theorem c_X10_spread (l : Launch) {D : va_G} {a0 : Nat → Nat} {A : Nat → Prop} {cy : Nat → ClassId} {ad : Nat → Nat} (hD : zD A 74 ad) {I : zI} {J : zJ} (p1 : Int32) (p2 : Int32) (p3 : Int32) (p4 : Int32) (p5 : Int32) (p6 : Int32) {rI : zI} (hf : f_X10_spread I J p1 p2 p3 p4 p5 p6 = some rI) : Met l yX10_spread wsX10_spread { frames := 5, cells := 0, slots := 0, locals := 122 } (zPc D a0 A cy [.ref (ad 37), .int p1, .int p2, .int p3, .int p4, .int p5, .int p6] (zw 74 (kC cy ad a0) ad I J)) (zQv D A (zw 74 (kC cy ad a0) ad rI J)) 0 0 A :=
  zmet RX10 (by decide) rfl rfl (Nat.le_of_ble_eq_true rfl) (fun p e R s m below meth c Q hfr hlo ls S0 hQ => w_X10_spread hfr hlo hD p1 p2 p3 p4 p5 p6 hf S0 (fun tI hq H locs ls pc hP hS hd => by cases hq; exact hQ H locs _ hS (fun hx hb hr hlocks hfree => W.vret hx hb hr (fun t ht hW => ⟨⟨(), rfl, trivial, zht ht hP⟩, hS.F ht⟩) hfree hd hlocks)))
theorem ddX10_spread : yX10_spread.cls = RX10 ∧ yX10_spread.cls ≠ "java/lang/invoke/MethodHandle" ∧ yX10_spread.cls ≠ "java/lang/invoke/VarHandle" ∧ (parseMethodDescriptor yX10_spread.desc).map (fun d => d.parameters.length) = some 6 := by decide +kernel
