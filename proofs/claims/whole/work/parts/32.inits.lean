theorem hinX0_init_X0 : ∀ w ∈ u_ws RX0 TX0 17, w ∈ wsX0_init := by decide +kernel
set_option maxHeartbeats 4000000 in
set_option maxRecDepth 100000 in
theorem c_X0_init (l : Launch) {D : va_G} {a0 : Nat → Nat} {cy : Nat → ClassId} (h0 : Nat) (sz : Nat) : Met l yX0_init wsX0_init { frames := 1, cells := 9, slots := 153, locals := 12 } (zPcI D a0 cy [.ref h0] [(h0, .inr (0, [.null, .null, .null, .null, .null, .null, .null, .null, .null, .int 0, .int 0, .int 0, .int 0, .int 0, .int 0, .int 0, .int 0]))] sz) (zQvI (T := Nat → Nat) D (fun _ => True) [(h0, .inr (0, [.null, .null, .null, .null, .null, .null, .null, .null, .null, .int 0, .int 0, .int 0, .int 0, .int 0, .int 0, .int 0, .int 0]))] sz (fun u => [(h0, .inr (0, [.ref (u 0), .ref (u 1), .ref (u 2), .ref (u 3), .ref (u 4), .ref (u 5), .ref (u 6), .ref (u 7), .ref (u 8), .int 0, .int 0, .int 0, .int 0, .int 0, .int 0, .int 0, .int 0])), ((u 0), .inl (cy 1, 6, .inl (fun _ => 0))), ((u 1), .inl (cy 1, 6, .inl (fun _ => 0))), ((u 2), .inl (cy 1, 8, .inl (fun _ => 0))), ((u 3), .inl (cy 1, 8, .inl (fun _ => 0))), ((u 4), .inl (cy 1, 8, .inl (fun _ => 0))), ((u 5), .inl (cy 1, 8, .inl (fun _ => 0))), ((u 6), .inl (cy 1, 4, .inl (fun _ => 0))), ((u 7), .inl (cy 1, 4, .inl (fun _ => 0))), ((u 8), .inl (cy 1, 101, .inl (fun _ => 0)))])) 9 153 (va_A [(h0, .inr (0, [.null, .null, .null, .null, .null, .null, .null, .null, .null, .int 0, .int 0, .int 0, .int 0, .int 0, .int 0, .int 0, .int 0]))] sz) := by
  refine zmetI RX0 (by decide) rfl rfl rfl (Nat.le_of_ble_eq_true rfl) (fun p e R s m below meth c Q hfr hlo hmc hms hsz hmn ls S E hP hD hl hret => ?_)
  obtain ⟨hx, hb, hml, hown, hts⟩ := id S
  generalize hAe : va_A [(h0, .inr (0, [.null, .null, .null, .null, .null, .null, .null, .null, .null, .int 0, .int 0, .int 0, .int 0, .int 0, .int 0, .int 0, .int 0]))] s.heap.size = A at hD hret E ⊢
  have hA : ∀ q : Nat, s.heap.size ≤ q → A q := fun q h => by rw [← hAe]; exact Or.inr h
  have hS : va_S A s.heap s.heap [] := va_S.rf
  have hl : lv_has ls 1 [(0, .ref h0)] := hl
  refine lv_aload_n hx hb dX0_init_0 rfl (lv_at hl 0 rfl) ?_
  refine W.objInit hx hb hown (hts (.methodLink RX0 3 objectInit) (by decide +kernel)) (hts (.instanceMethod objectInit) (by decide +kernel)) (hts (.code objectInit ⟨#[0xb1]⟩ 1 none) (by decide +kernel)) rfl (by rw [hml]; exact hl.1) rfl dX0_init_1 (Nat.le_trans (Nat.le_of_ble_eq_true rfl) hfr) (Nat.le_trans (Nat.le_of_ble_eq_true rfl) hlo) ?_
  refine lv_aload_n hx hb dX0_init_4 rfl (lv_at hl 0 rfl) ?_
  refine lv_bipush (v := 6) hx hb dX0_init_5 (by decide) ?_
  refine znewa (atype := .int) (ty := .int) (k := 1) (x0 := (6, .inl fun _ => 0)) hx hb (hts (.arrayClass .int) (by decide +kernel)) rfl E.1.1 rfl hP hD hS hA (fun _ => rfl) (by decide) rfl (Nat.le_of_ble_eq_true rfl) (Nat.le_trans (Nat.le_of_ble_eq_true rfl) hmc) (Nat.le_trans (Nat.le_of_ble_eq_true rfl) hms) dX0_init_7 (fun q1 H hP hD hS => ?_)
  have hP : va_P D vwCl [(h0, .inr (0, [.null, .null, .null, .null, .null, .null, .null, .null, .null, .int 0, .int 0, .int 0, .int 0, .int 0, .int 0, .int 0, .int 0])), (q1, .inl (cy 1, 6, .inl (fun _ => 0)))] H := hP
  have hD : va_D A [(h0, .inr (0, [.null, .null, .null, .null, .null, .null, .null, .null, .null, .int 0, .int 0, .int 0, .int 0, .int 0, .int 0, .int 0, .int 0])), (q1, .inl (cy 1, 6, .inl (fun _ => 0)))] := hD
  refine va_putF (D := D) (ci := 0) (v := .ref q1) (ty := tyX0 0) (C := RX0) (T := TX0) (N := 17) hx hb hts hinX0_init_X0 tyX0 tyX0_ok nmX0 hown E.1.1 hP hD hS 0 rfl rfl 0 (by decide) (hts (.fieldLink RX0 9 "EdgeAndSpeed$Bench" "inches" "[I") (by decide +kernel)) (fun _ h9 => h9) rfl hmn rfl (tyX0_ok 0 (by decide)) rfl rfl (Nat.le_of_ble_eq_true rfl) dX0_init_9 (fun H locs hP hD hS => ?_)
  have hP : va_P D vwCl [(h0, .inr (0, [.ref q1, .null, .null, .null, .null, .null, .null, .null, .null, .int 0, .int 0, .int 0, .int 0, .int 0, .int 0, .int 0, .int 0])), (q1, .inl (cy 1, 6, .inl (fun _ => 0)))] H := hP
  have hD : va_D A [(h0, .inr (0, [.ref q1, .null, .null, .null, .null, .null, .null, .null, .null, .int 0, .int 0, .int 0, .int 0, .int 0, .int 0, .int 0, .int 0])), (q1, .inl (cy 1, 6, .inl (fun _ => 0)))] := hD
  refine lv_aload_n hx hb dX0_init_12 rfl (lv_at hl 0 rfl) ?_
  refine lv_bipush (v := 6) hx hb dX0_init_13 (by decide) ?_
  refine znewa (atype := .int) (ty := .int) (k := 1) (x0 := (6, .inl fun _ => 0)) hx hb (hts (.arrayClass .int) (by decide +kernel)) rfl E.1.1 rfl hP hD hS hA (fun _ => rfl) (by decide) rfl (Nat.le_of_ble_eq_true rfl) (Nat.le_trans (Nat.le_of_ble_eq_true rfl) hmc) (Nat.le_trans (Nat.le_of_ble_eq_true rfl) hms) dX0_init_15 (fun q2 H hP hD hS => ?_)
  have hP : va_P D vwCl [(h0, .inr (0, [.ref q1, .null, .null, .null, .null, .null, .null, .null, .null, .int 0, .int 0, .int 0, .int 0, .int 0, .int 0, .int 0, .int 0])), (q1, .inl (cy 1, 6, .inl (fun _ => 0))), (q2, .inl (cy 1, 6, .inl (fun _ => 0)))] H := hP
  have hD : va_D A [(h0, .inr (0, [.ref q1, .null, .null, .null, .null, .null, .null, .null, .null, .int 0, .int 0, .int 0, .int 0, .int 0, .int 0, .int 0, .int 0])), (q1, .inl (cy 1, 6, .inl (fun _ => 0))), (q2, .inl (cy 1, 6, .inl (fun _ => 0)))] := hD
  refine va_putF (D := D) (ci := 0) (v := .ref q2) (ty := tyX0 1) (C := RX0) (T := TX0) (N := 17) hx hb hts hinX0_init_X0 tyX0 tyX0_ok nmX0 hown E.1.1 hP hD hS 0 rfl rfl 1 (by decide) (hts (.fieldLink RX0 15 "EdgeAndSpeed$Bench" "wearing" "[I") (by decide +kernel)) (fun _ h9 => h9) rfl hmn rfl (tyX0_ok 1 (by decide)) rfl rfl (Nat.le_of_ble_eq_true rfl) dX0_init_17 (fun H locs hP hD hS => ?_)
  have hP : va_P D vwCl [(h0, .inr (0, [.ref q1, .ref q2, .null, .null, .null, .null, .null, .null, .null, .int 0, .int 0, .int 0, .int 0, .int 0, .int 0, .int 0, .int 0])), (q1, .inl (cy 1, 6, .inl (fun _ => 0))), (q2, .inl (cy 1, 6, .inl (fun _ => 0)))] H := hP
  have hD : va_D A [(h0, .inr (0, [.ref q1, .ref q2, .null, .null, .null, .null, .null, .null, .null, .int 0, .int 0, .int 0, .int 0, .int 0, .int 0, .int 0, .int 0])), (q1, .inl (cy 1, 6, .inl (fun _ => 0))), (q2, .inl (cy 1, 6, .inl (fun _ => 0)))] := hD
  refine lv_aload_n hx hb dX0_init_20 rfl (lv_at hl 0 rfl) ?_
  refine lv_bipush (v := 8) hx hb dX0_init_21 (by decide) ?_
  refine znewa (atype := .int) (ty := .int) (k := 1) (x0 := (8, .inl fun _ => 0)) hx hb (hts (.arrayClass .int) (by decide +kernel)) rfl E.1.1 rfl hP hD hS hA (fun _ => rfl) (by decide) rfl (Nat.le_of_ble_eq_true rfl) (Nat.le_trans (Nat.le_of_ble_eq_true rfl) hmc) (Nat.le_trans (Nat.le_of_ble_eq_true rfl) hms) dX0_init_23 (fun q3 H hP hD hS => ?_)
  have hP : va_P D vwCl [(h0, .inr (0, [.ref q1, .ref q2, .null, .null, .null, .null, .null, .null, .null, .int 0, .int 0, .int 0, .int 0, .int 0, .int 0, .int 0, .int 0])), (q1, .inl (cy 1, 6, .inl (fun _ => 0))), (q2, .inl (cy 1, 6, .inl (fun _ => 0))), (q3, .inl (cy 1, 8, .inl (fun _ => 0)))] H := hP
  have hD : va_D A [(h0, .inr (0, [.ref q1, .ref q2, .null, .null, .null, .null, .null, .null, .null, .int 0, .int 0, .int 0, .int 0, .int 0, .int 0, .int 0, .int 0])), (q1, .inl (cy 1, 6, .inl (fun _ => 0))), (q2, .inl (cy 1, 6, .inl (fun _ => 0))), (q3, .inl (cy 1, 8, .inl (fun _ => 0)))] := hD
  refine va_putF (D := D) (ci := 0) (v := .ref q3) (ty := tyX0 2) (C := RX0) (T := TX0) (N := 17) hx hb hts hinX0_init_X0 tyX0 tyX0_ok nmX0 hown E.1.1 hP hD hS 0 rfl rfl 2 (by decide) (hts (.fieldLink RX0 18 "EdgeAndSpeed$Bench" "lengths" "[I") (by decide +kernel)) (fun _ h9 => h9) rfl hmn rfl (tyX0_ok 2 (by decide)) rfl rfl (Nat.le_of_ble_eq_true rfl) dX0_init_25 (fun H locs hP hD hS => ?_)
  have hP : va_P D vwCl [(h0, .inr (0, [.ref q1, .ref q2, .ref q3, .null, .null, .null, .null, .null, .null, .int 0, .int 0, .int 0, .int 0, .int 0, .int 0, .int 0, .int 0])), (q1, .inl (cy 1, 6, .inl (fun _ => 0))), (q2, .inl (cy 1, 6, .inl (fun _ => 0))), (q3, .inl (cy 1, 8, .inl (fun _ => 0)))] H := hP
  have hD : va_D A [(h0, .inr (0, [.ref q1, .ref q2, .ref q3, .null, .null, .null, .null, .null, .null, .int 0, .int 0, .int 0, .int 0, .int 0, .int 0, .int 0, .int 0])), (q1, .inl (cy 1, 6, .inl (fun _ => 0))), (q2, .inl (cy 1, 6, .inl (fun _ => 0))), (q3, .inl (cy 1, 8, .inl (fun _ => 0)))] := hD
  refine lv_aload_n hx hb dX0_init_28 rfl (lv_at hl 0 rfl) ?_
  refine lv_bipush (v := 8) hx hb dX0_init_29 (by decide) ?_
  refine znewa (atype := .int) (ty := .int) (k := 1) (x0 := (8, .inl fun _ => 0)) hx hb (hts (.arrayClass .int) (by decide +kernel)) rfl E.1.1 rfl hP hD hS hA (fun _ => rfl) (by decide) rfl (Nat.le_of_ble_eq_true rfl) (Nat.le_trans (Nat.le_of_ble_eq_true rfl) hmc) (Nat.le_trans (Nat.le_of_ble_eq_true rfl) hms) dX0_init_31 (fun q4 H hP hD hS => ?_)
  have hP : va_P D vwCl [(h0, .inr (0, [.ref q1, .ref q2, .ref q3, .null, .null, .null, .null, .null, .null, .int 0, .int 0, .int 0, .int 0, .int 0, .int 0, .int 0, .int 0])), (q1, .inl (cy 1, 6, .inl (fun _ => 0))), (q2, .inl (cy 1, 6, .inl (fun _ => 0))), (q3, .inl (cy 1, 8, .inl (fun _ => 0))), (q4, .inl (cy 1, 8, .inl (fun _ => 0)))] H := hP
  have hD : va_D A [(h0, .inr (0, [.ref q1, .ref q2, .ref q3, .null, .null, .null, .null, .null, .null, .int 0, .int 0, .int 0, .int 0, .int 0, .int 0, .int 0, .int 0])), (q1, .inl (cy 1, 6, .inl (fun _ => 0))), (q2, .inl (cy 1, 6, .inl (fun _ => 0))), (q3, .inl (cy 1, 8, .inl (fun _ => 0))), (q4, .inl (cy 1, 8, .inl (fun _ => 0)))] := hD
  refine va_putF (D := D) (ci := 0) (v := .ref q4) (ty := tyX0 3) (C := RX0) (T := TX0) (N := 17) hx hb hts hinX0_init_X0 tyX0 tyX0_ok nmX0 hown E.1.1 hP hD hS 0 rfl rfl 3 (by decide) (hts (.fieldLink RX0 21 "EdgeAndSpeed$Bench" "depths" "[I") (by decide +kernel)) (fun _ h9 => h9) rfl hmn rfl (tyX0_ok 3 (by decide)) rfl rfl (Nat.le_of_ble_eq_true rfl) dX0_init_33 (fun H locs hP hD hS => ?_)
  have hP : va_P D vwCl [(h0, .inr (0, [.ref q1, .ref q2, .ref q3, .ref q4, .null, .null, .null, .null, .null, .int 0, .int 0, .int 0, .int 0, .int 0, .int 0, .int 0, .int 0])), (q1, .inl (cy 1, 6, .inl (fun _ => 0))), (q2, .inl (cy 1, 6, .inl (fun _ => 0))), (q3, .inl (cy 1, 8, .inl (fun _ => 0))), (q4, .inl (cy 1, 8, .inl (fun _ => 0)))] H := hP
  have hD : va_D A [(h0, .inr (0, [.ref q1, .ref q2, .ref q3, .ref q4, .null, .null, .null, .null, .null, .int 0, .int 0, .int 0, .int 0, .int 0, .int 0, .int 0, .int 0])), (q1, .inl (cy 1, 6, .inl (fun _ => 0))), (q2, .inl (cy 1, 6, .inl (fun _ => 0))), (q3, .inl (cy 1, 8, .inl (fun _ => 0))), (q4, .inl (cy 1, 8, .inl (fun _ => 0)))] := hD
  refine lv_aload_n hx hb dX0_init_36 rfl (lv_at hl 0 rfl) ?_
  refine lv_bipush (v := 8) hx hb dX0_init_37 (by decide) ?_
  refine znewa (atype := .int) (ty := .int) (k := 1) (x0 := (8, .inl fun _ => 0)) hx hb (hts (.arrayClass .int) (by decide +kernel)) rfl E.1.1 rfl hP hD hS hA (fun _ => rfl) (by decide) rfl (Nat.le_of_ble_eq_true rfl) (Nat.le_trans (Nat.le_of_ble_eq_true rfl) hmc) (Nat.le_trans (Nat.le_of_ble_eq_true rfl) hms) dX0_init_39 (fun q5 H hP hD hS => ?_)
  have hP : va_P D vwCl [(h0, .inr (0, [.ref q1, .ref q2, .ref q3, .ref q4, .null, .null, .null, .null, .null, .int 0, .int 0, .int 0, .int 0, .int 0, .int 0, .int 0, .int 0])), (q1, .inl (cy 1, 6, .inl (fun _ => 0))), (q2, .inl (cy 1, 6, .inl (fun _ => 0))), (q3, .inl (cy 1, 8, .inl (fun _ => 0))), (q4, .inl (cy 1, 8, .inl (fun _ => 0))), (q5, .inl (cy 1, 8, .inl (fun _ => 0)))] H := hP
  have hD : va_D A [(h0, .inr (0, [.ref q1, .ref q2, .ref q3, .ref q4, .null, .null, .null, .null, .null, .int 0, .int 0, .int 0, .int 0, .int 0, .int 0, .int 0, .int 0])), (q1, .inl (cy 1, 6, .inl (fun _ => 0))), (q2, .inl (cy 1, 6, .inl (fun _ => 0))), (q3, .inl (cy 1, 8, .inl (fun _ => 0))), (q4, .inl (cy 1, 8, .inl (fun _ => 0))), (q5, .inl (cy 1, 8, .inl (fun _ => 0)))] := hD
  refine va_putF (D := D) (ci := 0) (v := .ref q5) (ty := tyX0 4) (C := RX0) (T := TX0) (N := 17) hx hb hts hinX0_init_X0 tyX0 tyX0_ok nmX0 hown E.1.1 hP hD hS 0 rfl rfl 4 (by decide) (hts (.fieldLink RX0 24 "EdgeAndSpeed$Bench" "fines" "[I") (by decide +kernel)) (fun _ h9 => h9) rfl hmn rfl (tyX0_ok 4 (by decide)) rfl rfl (Nat.le_of_ble_eq_true rfl) dX0_init_41 (fun H locs hP hD hS => ?_)
  have hP : va_P D vwCl [(h0, .inr (0, [.ref q1, .ref q2, .ref q3, .ref q4, .ref q5, .null, .null, .null, .null, .int 0, .int 0, .int 0, .int 0, .int 0, .int 0, .int 0, .int 0])), (q1, .inl (cy 1, 6, .inl (fun _ => 0))), (q2, .inl (cy 1, 6, .inl (fun _ => 0))), (q3, .inl (cy 1, 8, .inl (fun _ => 0))), (q4, .inl (cy 1, 8, .inl (fun _ => 0))), (q5, .inl (cy 1, 8, .inl (fun _ => 0)))] H := hP
  have hD : va_D A [(h0, .inr (0, [.ref q1, .ref q2, .ref q3, .ref q4, .ref q5, .null, .null, .null, .null, .int 0, .int 0, .int 0, .int 0, .int 0, .int 0, .int 0, .int 0])), (q1, .inl (cy 1, 6, .inl (fun _ => 0))), (q2, .inl (cy 1, 6, .inl (fun _ => 0))), (q3, .inl (cy 1, 8, .inl (fun _ => 0))), (q4, .inl (cy 1, 8, .inl (fun _ => 0))), (q5, .inl (cy 1, 8, .inl (fun _ => 0)))] := hD
  refine lv_aload_n hx hb dX0_init_44 rfl (lv_at hl 0 rfl) ?_
  refine lv_bipush (v := 8) hx hb dX0_init_45 (by decide) ?_
  refine znewa (atype := .int) (ty := .int) (k := 1) (x0 := (8, .inl fun _ => 0)) hx hb (hts (.arrayClass .int) (by decide +kernel)) rfl E.1.1 rfl hP hD hS hA (fun _ => rfl) (by decide) rfl (Nat.le_of_ble_eq_true rfl) (Nat.le_trans (Nat.le_of_ble_eq_true rfl) hmc) (Nat.le_trans (Nat.le_of_ble_eq_true rfl) hms) dX0_init_47 (fun q6 H hP hD hS => ?_)
  have hP : va_P D vwCl [(h0, .inr (0, [.ref q1, .ref q2, .ref q3, .ref q4, .ref q5, .null, .null, .null, .null, .int 0, .int 0, .int 0, .int 0, .int 0, .int 0, .int 0, .int 0])), (q1, .inl (cy 1, 6, .inl (fun _ => 0))), (q2, .inl (cy 1, 6, .inl (fun _ => 0))), (q3, .inl (cy 1, 8, .inl (fun _ => 0))), (q4, .inl (cy 1, 8, .inl (fun _ => 0))), (q5, .inl (cy 1, 8, .inl (fun _ => 0))), (q6, .inl (cy 1, 8, .inl (fun _ => 0)))] H := hP
  have hD : va_D A [(h0, .inr (0, [.ref q1, .ref q2, .ref q3, .ref q4, .ref q5, .null, .null, .null, .null, .int 0, .int 0, .int 0, .int 0, .int 0, .int 0, .int 0, .int 0])), (q1, .inl (cy 1, 6, .inl (fun _ => 0))), (q2, .inl (cy 1, 6, .inl (fun _ => 0))), (q3, .inl (cy 1, 8, .inl (fun _ => 0))), (q4, .inl (cy 1, 8, .inl (fun _ => 0))), (q5, .inl (cy 1, 8, .inl (fun _ => 0))), (q6, .inl (cy 1, 8, .inl (fun _ => 0)))] := hD
  refine va_putF (D := D) (ci := 0) (v := .ref q6) (ty := tyX0 5) (C := RX0) (T := TX0) (N := 17) hx hb hts hinX0_init_X0 tyX0 tyX0_ok nmX0 hown E.1.1 hP hD hS 0 rfl rfl 5 (by decide) (hts (.fieldLink RX0 27 "EdgeAndSpeed$Bench" "worths" "[I") (by decide +kernel)) (fun _ h9 => h9) rfl hmn rfl (tyX0_ok 5 (by decide)) rfl rfl (Nat.le_of_ble_eq_true rfl) dX0_init_49 (fun H locs hP hD hS => ?_)
  have hP : va_P D vwCl [(h0, .inr (0, [.ref q1, .ref q2, .ref q3, .ref q4, .ref q5, .ref q6, .null, .null, .null, .int 0, .int 0, .int 0, .int 0, .int 0, .int 0, .int 0, .int 0])), (q1, .inl (cy 1, 6, .inl (fun _ => 0))), (q2, .inl (cy 1, 6, .inl (fun _ => 0))), (q3, .inl (cy 1, 8, .inl (fun _ => 0))), (q4, .inl (cy 1, 8, .inl (fun _ => 0))), (q5, .inl (cy 1, 8, .inl (fun _ => 0))), (q6, .inl (cy 1, 8, .inl (fun _ => 0)))] H := hP
  have hD : va_D A [(h0, .inr (0, [.ref q1, .ref q2, .ref q3, .ref q4, .ref q5, .ref q6, .null, .null, .null, .int 0, .int 0, .int 0, .int 0, .int 0, .int 0, .int 0, .int 0])), (q1, .inl (cy 1, 6, .inl (fun _ => 0))), (q2, .inl (cy 1, 6, .inl (fun _ => 0))), (q3, .inl (cy 1, 8, .inl (fun _ => 0))), (q4, .inl (cy 1, 8, .inl (fun _ => 0))), (q5, .inl (cy 1, 8, .inl (fun _ => 0))), (q6, .inl (cy 1, 8, .inl (fun _ => 0)))] := hD
  refine lv_aload_n hx hb dX0_init_52 rfl (lv_at hl 0 rfl) ?_
  refine lv_iconst (v := 4) hx hb dX0_init_53 (by decide) ?_
  refine znewa (atype := .int) (ty := .int) (k := 1) (x0 := (4, .inl fun _ => 0)) hx hb (hts (.arrayClass .int) (by decide +kernel)) rfl E.1.1 rfl hP hD hS hA (fun _ => rfl) (by decide) rfl (Nat.le_of_ble_eq_true rfl) (Nat.le_trans (Nat.le_of_ble_eq_true rfl) hmc) (Nat.le_trans (Nat.le_of_ble_eq_true rfl) hms) dX0_init_54 (fun q7 H hP hD hS => ?_)
  have hP : va_P D vwCl [(h0, .inr (0, [.ref q1, .ref q2, .ref q3, .ref q4, .ref q5, .ref q6, .null, .null, .null, .int 0, .int 0, .int 0, .int 0, .int 0, .int 0, .int 0, .int 0])), (q1, .inl (cy 1, 6, .inl (fun _ => 0))), (q2, .inl (cy 1, 6, .inl (fun _ => 0))), (q3, .inl (cy 1, 8, .inl (fun _ => 0))), (q4, .inl (cy 1, 8, .inl (fun _ => 0))), (q5, .inl (cy 1, 8, .inl (fun _ => 0))), (q6, .inl (cy 1, 8, .inl (fun _ => 0))), (q7, .inl (cy 1, 4, .inl (fun _ => 0)))] H := hP
  have hD : va_D A [(h0, .inr (0, [.ref q1, .ref q2, .ref q3, .ref q4, .ref q5, .ref q6, .null, .null, .null, .int 0, .int 0, .int 0, .int 0, .int 0, .int 0, .int 0, .int 0])), (q1, .inl (cy 1, 6, .inl (fun _ => 0))), (q2, .inl (cy 1, 6, .inl (fun _ => 0))), (q3, .inl (cy 1, 8, .inl (fun _ => 0))), (q4, .inl (cy 1, 8, .inl (fun _ => 0))), (q5, .inl (cy 1, 8, .inl (fun _ => 0))), (q6, .inl (cy 1, 8, .inl (fun _ => 0))), (q7, .inl (cy 1, 4, .inl (fun _ => 0)))] := hD
  refine va_putF (D := D) (ci := 0) (v := .ref q7) (ty := tyX0 6) (C := RX0) (T := TX0) (N := 17) hx hb hts hinX0_init_X0 tyX0 tyX0_ok nmX0 hown E.1.1 hP hD hS 0 rfl rfl 6 (by decide) (hts (.fieldLink RX0 30 "EdgeAndSpeed$Bench" "hardness" "[I") (by decide +kernel)) (fun _ h9 => h9) rfl hmn rfl (tyX0_ok 6 (by decide)) rfl rfl (Nat.le_of_ble_eq_true rfl) dX0_init_56 (fun H locs hP hD hS => ?_)
  have hP : va_P D vwCl [(h0, .inr (0, [.ref q1, .ref q2, .ref q3, .ref q4, .ref q5, .ref q6, .ref q7, .null, .null, .int 0, .int 0, .int 0, .int 0, .int 0, .int 0, .int 0, .int 0])), (q1, .inl (cy 1, 6, .inl (fun _ => 0))), (q2, .inl (cy 1, 6, .inl (fun _ => 0))), (q3, .inl (cy 1, 8, .inl (fun _ => 0))), (q4, .inl (cy 1, 8, .inl (fun _ => 0))), (q5, .inl (cy 1, 8, .inl (fun _ => 0))), (q6, .inl (cy 1, 8, .inl (fun _ => 0))), (q7, .inl (cy 1, 4, .inl (fun _ => 0)))] H := hP
  have hD : va_D A [(h0, .inr (0, [.ref q1, .ref q2, .ref q3, .ref q4, .ref q5, .ref q6, .ref q7, .null, .null, .int 0, .int 0, .int 0, .int 0, .int 0, .int 0, .int 0, .int 0])), (q1, .inl (cy 1, 6, .inl (fun _ => 0))), (q2, .inl (cy 1, 6, .inl (fun _ => 0))), (q3, .inl (cy 1, 8, .inl (fun _ => 0))), (q4, .inl (cy 1, 8, .inl (fun _ => 0))), (q5, .inl (cy 1, 8, .inl (fun _ => 0))), (q6, .inl (cy 1, 8, .inl (fun _ => 0))), (q7, .inl (cy 1, 4, .inl (fun _ => 0)))] := hD
  refine lv_aload_n hx hb dX0_init_59 rfl (lv_at hl 0 rfl) ?_
  refine lv_iconst (v := 4) hx hb dX0_init_60 (by decide) ?_
  refine znewa (atype := .int) (ty := .int) (k := 1) (x0 := (4, .inl fun _ => 0)) hx hb (hts (.arrayClass .int) (by decide +kernel)) rfl E.1.1 rfl hP hD hS hA (fun _ => rfl) (by decide) rfl (Nat.le_of_ble_eq_true rfl) (Nat.le_trans (Nat.le_of_ble_eq_true rfl) hmc) (Nat.le_trans (Nat.le_of_ble_eq_true rfl) hms) dX0_init_61 (fun q8 H hP hD hS => ?_)
  have hP : va_P D vwCl [(h0, .inr (0, [.ref q1, .ref q2, .ref q3, .ref q4, .ref q5, .ref q6, .ref q7, .null, .null, .int 0, .int 0, .int 0, .int 0, .int 0, .int 0, .int 0, .int 0])), (q1, .inl (cy 1, 6, .inl (fun _ => 0))), (q2, .inl (cy 1, 6, .inl (fun _ => 0))), (q3, .inl (cy 1, 8, .inl (fun _ => 0))), (q4, .inl (cy 1, 8, .inl (fun _ => 0))), (q5, .inl (cy 1, 8, .inl (fun _ => 0))), (q6, .inl (cy 1, 8, .inl (fun _ => 0))), (q7, .inl (cy 1, 4, .inl (fun _ => 0))), (q8, .inl (cy 1, 4, .inl (fun _ => 0)))] H := hP
  have hD : va_D A [(h0, .inr (0, [.ref q1, .ref q2, .ref q3, .ref q4, .ref q5, .ref q6, .ref q7, .null, .null, .int 0, .int 0, .int 0, .int 0, .int 0, .int 0, .int 0, .int 0])), (q1, .inl (cy 1, 6, .inl (fun _ => 0))), (q2, .inl (cy 1, 6, .inl (fun _ => 0))), (q3, .inl (cy 1, 8, .inl (fun _ => 0))), (q4, .inl (cy 1, 8, .inl (fun _ => 0))), (q5, .inl (cy 1, 8, .inl (fun _ => 0))), (q6, .inl (cy 1, 8, .inl (fun _ => 0))), (q7, .inl (cy 1, 4, .inl (fun _ => 0))), (q8, .inl (cy 1, 4, .inl (fun _ => 0)))] := hD
  refine va_putF (D := D) (ci := 0) (v := .ref q8) (ty := tyX0 7) (C := RX0) (T := TX0) (N := 17) hx hb hts hinX0_init_X0 tyX0 tyX0_ok nmX0 hown E.1.1 hP hD hS 0 rfl rfl 7 (by decide) (hts (.fieldLink RX0 33 "EdgeAndSpeed$Bench" "tenths" "[I") (by decide +kernel)) (fun _ h9 => h9) rfl hmn rfl (tyX0_ok 7 (by decide)) rfl rfl (Nat.le_of_ble_eq_true rfl) dX0_init_63 (fun H locs hP hD hS => ?_)
  have hP : va_P D vwCl [(h0, .inr (0, [.ref q1, .ref q2, .ref q3, .ref q4, .ref q5, .ref q6, .ref q7, .ref q8, .null, .int 0, .int 0, .int 0, .int 0, .int 0, .int 0, .int 0, .int 0])), (q1, .inl (cy 1, 6, .inl (fun _ => 0))), (q2, .inl (cy 1, 6, .inl (fun _ => 0))), (q3, .inl (cy 1, 8, .inl (fun _ => 0))), (q4, .inl (cy 1, 8, .inl (fun _ => 0))), (q5, .inl (cy 1, 8, .inl (fun _ => 0))), (q6, .inl (cy 1, 8, .inl (fun _ => 0))), (q7, .inl (cy 1, 4, .inl (fun _ => 0))), (q8, .inl (cy 1, 4, .inl (fun _ => 0)))] H := hP
  have hD : va_D A [(h0, .inr (0, [.ref q1, .ref q2, .ref q3, .ref q4, .ref q5, .ref q6, .ref q7, .ref q8, .null, .int 0, .int 0, .int 0, .int 0, .int 0, .int 0, .int 0, .int 0])), (q1, .inl (cy 1, 6, .inl (fun _ => 0))), (q2, .inl (cy 1, 6, .inl (fun _ => 0))), (q3, .inl (cy 1, 8, .inl (fun _ => 0))), (q4, .inl (cy 1, 8, .inl (fun _ => 0))), (q5, .inl (cy 1, 8, .inl (fun _ => 0))), (q6, .inl (cy 1, 8, .inl (fun _ => 0))), (q7, .inl (cy 1, 4, .inl (fun _ => 0))), (q8, .inl (cy 1, 4, .inl (fun _ => 0)))] := hD
  refine lv_aload_n hx hb dX0_init_66 rfl (lv_at hl 0 rfl) ?_
  refine lv_bipush (v := 101) hx hb dX0_init_67 (by decide) ?_
  refine znewa (atype := .int) (ty := .int) (k := 1) (x0 := (101, .inl fun _ => 0)) hx hb (hts (.arrayClass .int) (by decide +kernel)) rfl E.1.1 rfl hP hD hS hA (fun _ => rfl) (by decide) rfl (Nat.le_of_ble_eq_true rfl) (Nat.le_trans (Nat.le_of_ble_eq_true rfl) hmc) (Nat.le_trans (Nat.le_of_ble_eq_true rfl) hms) dX0_init_69 (fun q9 H hP hD hS => ?_)
  have hP : va_P D vwCl [(h0, .inr (0, [.ref q1, .ref q2, .ref q3, .ref q4, .ref q5, .ref q6, .ref q7, .ref q8, .null, .int 0, .int 0, .int 0, .int 0, .int 0, .int 0, .int 0, .int 0])), (q1, .inl (cy 1, 6, .inl (fun _ => 0))), (q2, .inl (cy 1, 6, .inl (fun _ => 0))), (q3, .inl (cy 1, 8, .inl (fun _ => 0))), (q4, .inl (cy 1, 8, .inl (fun _ => 0))), (q5, .inl (cy 1, 8, .inl (fun _ => 0))), (q6, .inl (cy 1, 8, .inl (fun _ => 0))), (q7, .inl (cy 1, 4, .inl (fun _ => 0))), (q8, .inl (cy 1, 4, .inl (fun _ => 0))), (q9, .inl (cy 1, 101, .inl (fun _ => 0)))] H := hP
  have hD : va_D A [(h0, .inr (0, [.ref q1, .ref q2, .ref q3, .ref q4, .ref q5, .ref q6, .ref q7, .ref q8, .null, .int 0, .int 0, .int 0, .int 0, .int 0, .int 0, .int 0, .int 0])), (q1, .inl (cy 1, 6, .inl (fun _ => 0))), (q2, .inl (cy 1, 6, .inl (fun _ => 0))), (q3, .inl (cy 1, 8, .inl (fun _ => 0))), (q4, .inl (cy 1, 8, .inl (fun _ => 0))), (q5, .inl (cy 1, 8, .inl (fun _ => 0))), (q6, .inl (cy 1, 8, .inl (fun _ => 0))), (q7, .inl (cy 1, 4, .inl (fun _ => 0))), (q8, .inl (cy 1, 4, .inl (fun _ => 0))), (q9, .inl (cy 1, 101, .inl (fun _ => 0)))] := hD
  refine va_putF (D := D) (ci := 0) (v := .ref q9) (ty := tyX0 8) (C := RX0) (T := TX0) (N := 17) hx hb hts hinX0_init_X0 tyX0 tyX0_ok nmX0 hown E.1.1 hP hD hS 0 rfl rfl 8 (by decide) (hts (.fieldLink RX0 36 "EdgeAndSpeed$Bench" "breaking" "[I") (by decide +kernel)) (fun _ h9 => h9) rfl hmn rfl (tyX0_ok 8 (by decide)) rfl rfl (Nat.le_of_ble_eq_true rfl) dX0_init_71 (fun H locs hP hD hS => ?_)
  have hP : va_P D vwCl [(h0, .inr (0, [.ref q1, .ref q2, .ref q3, .ref q4, .ref q5, .ref q6, .ref q7, .ref q8, .ref q9, .int 0, .int 0, .int 0, .int 0, .int 0, .int 0, .int 0, .int 0])), (q1, .inl (cy 1, 6, .inl (fun _ => 0))), (q2, .inl (cy 1, 6, .inl (fun _ => 0))), (q3, .inl (cy 1, 8, .inl (fun _ => 0))), (q4, .inl (cy 1, 8, .inl (fun _ => 0))), (q5, .inl (cy 1, 8, .inl (fun _ => 0))), (q6, .inl (cy 1, 8, .inl (fun _ => 0))), (q7, .inl (cy 1, 4, .inl (fun _ => 0))), (q8, .inl (cy 1, 4, .inl (fun _ => 0))), (q9, .inl (cy 1, 101, .inl (fun _ => 0)))] H := hP
  have hD : va_D A [(h0, .inr (0, [.ref q1, .ref q2, .ref q3, .ref q4, .ref q5, .ref q6, .ref q7, .ref q8, .ref q9, .int 0, .int 0, .int 0, .int 0, .int 0, .int 0, .int 0, .int 0])), (q1, .inl (cy 1, 6, .inl (fun _ => 0))), (q2, .inl (cy 1, 6, .inl (fun _ => 0))), (q3, .inl (cy 1, 8, .inl (fun _ => 0))), (q4, .inl (cy 1, 8, .inl (fun _ => 0))), (q5, .inl (cy 1, 8, .inl (fun _ => 0))), (q6, .inl (cy 1, 8, .inl (fun _ => 0))), (q7, .inl (cy 1, 4, .inl (fun _ => 0))), (q8, .inl (cy 1, 4, .inl (fun _ => 0))), (q9, .inl (cy 1, 101, .inl (fun _ => 0)))] := hD
  refine W.widen (k := 9) (n := 153) (Nat.le_of_ble_eq_true rfl) (Nat.le_of_ble_eq_true rfl) ?_
  exact hret H _ ls _ (fun k => [q1, q2, q3, q4, q5, q6, q7, q8, q9].getD k 0) trivial hP hD hS dX0_init_74

theorem hinX1_init_X1 : ∀ w ∈ u_ws RX1 TX1 6, w ∈ wsX1_init := by decide +kernel
set_option maxHeartbeats 4000000 in
set_option maxRecDepth 100000 in
theorem c_X1_init (l : Launch) {D : va_G} {a0 : Nat → Nat} {cy : Nat → ClassId} (h0 : Nat) (sz : Nat) : Met l yX1_init wsX1_init { frames := 1, cells := 2, slots := 40, locals := 12 } (zPcI D a0 cy [.ref h0] [(h0, .inr (1, [.null, .null, .int 0, .int 0, .int 0, .int 0]))] sz) (zQvI (T := Nat → Nat) D (fun _ => True) [(h0, .inr (1, [.null, .null, .int 0, .int 0, .int 0, .int 0]))] sz (fun u => [(h0, .inr (1, [.ref (u 0), .ref (u 1), .int 0, .int 0, .int 100, .int 8])), ((u 0), .inl (cy 1, 20, .inl (fun _ => 0))), ((u 1), .inl (cy 1, 20, .inl (fun _ => 0)))])) 2 40 (va_A [(h0, .inr (1, [.null, .null, .int 0, .int 0, .int 0, .int 0]))] sz) := by
  refine zmetI RX1 (by decide) rfl rfl rfl (Nat.le_of_ble_eq_true rfl) (fun p e R s m below meth c Q hfr hlo hmc hms hsz hmn ls S E hP hD hl hret => ?_)
  obtain ⟨hx, hb, hml, hown, hts⟩ := id S
  generalize hAe : va_A [(h0, .inr (1, [.null, .null, .int 0, .int 0, .int 0, .int 0]))] s.heap.size = A at hD hret E ⊢
  have hA : ∀ q : Nat, s.heap.size ≤ q → A q := fun q h => by rw [← hAe]; exact Or.inr h
  have hS : va_S A s.heap s.heap [] := va_S.rf
  have hl : lv_has ls 1 [(0, .ref h0)] := hl
  refine lv_aload_n hx hb dX1_init_0 rfl (lv_at hl 0 rfl) ?_
  refine W.objInit hx hb hown (hts (.methodLink RX1 3 objectInit) (by decide +kernel)) (hts (.instanceMethod objectInit) (by decide +kernel)) (hts (.code objectInit ⟨#[0xb1]⟩ 1 none) (by decide +kernel)) rfl (by rw [hml]; exact hl.1) rfl dX1_init_1 (Nat.le_trans (Nat.le_of_ble_eq_true rfl) hfr) (Nat.le_trans (Nat.le_of_ble_eq_true rfl) hlo) ?_
  refine lv_aload_n hx hb dX1_init_4 rfl (lv_at hl 0 rfl) ?_
  refine lv_bipush (v := 20) hx hb dX1_init_5 (by decide) ?_
  refine znewa (atype := .int) (ty := .int) (k := 1) (x0 := (20, .inl fun _ => 0)) hx hb (hts (.arrayClass .int) (by decide +kernel)) rfl E.1.1 rfl hP hD hS hA (fun _ => rfl) (by decide) rfl (Nat.le_of_ble_eq_true rfl) (Nat.le_trans (Nat.le_of_ble_eq_true rfl) hmc) (Nat.le_trans (Nat.le_of_ble_eq_true rfl) hms) dX1_init_7 (fun q1 H hP hD hS => ?_)
  have hP : va_P D vwCl [(h0, .inr (1, [.null, .null, .int 0, .int 0, .int 0, .int 0])), (q1, .inl (cy 1, 20, .inl (fun _ => 0)))] H := hP
  have hD : va_D A [(h0, .inr (1, [.null, .null, .int 0, .int 0, .int 0, .int 0])), (q1, .inl (cy 1, 20, .inl (fun _ => 0)))] := hD
  refine va_putF (D := D) (ci := 1) (v := .ref q1) (ty := tyX1 0) (C := RX1) (T := TX1) (N := 6) hx hb hts hinX1_init_X1 tyX1 tyX1_ok nmX1 hown E.1.1 hP hD hS 0 rfl rfl 0 (by decide) (hts (.fieldLink RX1 9 "EdgeAndSpeed$Habits" "wears" "[I") (by decide +kernel)) (fun _ h9 => h9) rfl hmn rfl (tyX1_ok 0 (by decide)) rfl rfl (Nat.le_of_ble_eq_true rfl) dX1_init_9 (fun H locs hP hD hS => ?_)
  have hP : va_P D vwCl [(h0, .inr (1, [.ref q1, .null, .int 0, .int 0, .int 0, .int 0])), (q1, .inl (cy 1, 20, .inl (fun _ => 0)))] H := hP
  have hD : va_D A [(h0, .inr (1, [.ref q1, .null, .int 0, .int 0, .int 0, .int 0])), (q1, .inl (cy 1, 20, .inl (fun _ => 0)))] := hD
  refine lv_aload_n hx hb dX1_init_12 rfl (lv_at hl 0 rfl) ?_
  refine lv_bipush (v := 20) hx hb dX1_init_13 (by decide) ?_
  refine znewa (atype := .int) (ty := .int) (k := 1) (x0 := (20, .inl fun _ => 0)) hx hb (hts (.arrayClass .int) (by decide +kernel)) rfl E.1.1 rfl hP hD hS hA (fun _ => rfl) (by decide) rfl (Nat.le_of_ble_eq_true rfl) (Nat.le_trans (Nat.le_of_ble_eq_true rfl) hmc) (Nat.le_trans (Nat.le_of_ble_eq_true rfl) hms) dX1_init_15 (fun q2 H hP hD hS => ?_)
  have hP : va_P D vwCl [(h0, .inr (1, [.ref q1, .null, .int 0, .int 0, .int 0, .int 0])), (q1, .inl (cy 1, 20, .inl (fun _ => 0))), (q2, .inl (cy 1, 20, .inl (fun _ => 0)))] H := hP
  have hD : va_D A [(h0, .inr (1, [.ref q1, .null, .int 0, .int 0, .int 0, .int 0])), (q1, .inl (cy 1, 20, .inl (fun _ => 0))), (q2, .inl (cy 1, 20, .inl (fun _ => 0)))] := hD
  refine va_putF (D := D) (ci := 1) (v := .ref q2) (ty := tyX1 1) (C := RX1) (T := TX1) (N := 6) hx hb hts hinX1_init_X1 tyX1 tyX1_ok nmX1 hown E.1.1 hP hD hS 0 rfl rfl 1 (by decide) (hts (.fieldLink RX1 15 "EdgeAndSpeed$Habits" "speeds" "[I") (by decide +kernel)) (fun _ h9 => h9) rfl hmn rfl (tyX1_ok 1 (by decide)) rfl rfl (Nat.le_of_ble_eq_true rfl) dX1_init_17 (fun H locs hP hD hS => ?_)
  have hP : va_P D vwCl [(h0, .inr (1, [.ref q1, .ref q2, .int 0, .int 0, .int 0, .int 0])), (q1, .inl (cy 1, 20, .inl (fun _ => 0))), (q2, .inl (cy 1, 20, .inl (fun _ => 0)))] H := hP
  have hD : va_D A [(h0, .inr (1, [.ref q1, .ref q2, .int 0, .int 0, .int 0, .int 0])), (q1, .inl (cy 1, 20, .inl (fun _ => 0))), (q2, .inl (cy 1, 20, .inl (fun _ => 0)))] := hD
  refine lv_aload_n hx hb dX1_init_20 rfl (lv_at hl 0 rfl) ?_
  refine lv_bipush (v := 100) hx hb dX1_init_21 (by decide) ?_
  refine va_put (D := D) (ci := 1) (v := .int 100) (ty := tyX1 4) (C := RX1) (T := TX1) (N := 6) hx hb hts hinX1_init_X1 tyX1 tyX1_ok nmX1 hown E.1.1 hP hD hS 0 rfl rfl 4 (by decide) (hts (.fieldLink RX1 18 "EdgeAndSpeed$Habits" "limit" "I") (by decide +kernel)) (fun _ h9 => h9) rfl (tyX1_ok 4 (by decide)) rfl rfl (Nat.le_of_ble_eq_true rfl) dX1_init_23 (fun H locs hP hD hS => ?_)
  have hP : va_P D vwCl [(h0, .inr (1, [.ref q1, .ref q2, .int 0, .int 0, .int 100, .int 0])), (q1, .inl (cy 1, 20, .inl (fun _ => 0))), (q2, .inl (cy 1, 20, .inl (fun _ => 0)))] H := hP
  have hD : va_D A [(h0, .inr (1, [.ref q1, .ref q2, .int 0, .int 0, .int 100, .int 0])), (q1, .inl (cy 1, 20, .inl (fun _ => 0))), (q2, .inl (cy 1, 20, .inl (fun _ => 0)))] := hD
  refine lv_aload_n hx hb dX1_init_26 rfl (lv_at hl 0 rfl) ?_
  refine lv_bipush (v := 8) hx hb dX1_init_27 (by decide) ?_
  refine va_put (D := D) (ci := 1) (v := .int 8) (ty := tyX1 5) (C := RX1) (T := TX1) (N := 6) hx hb hts hinX1_init_X1 tyX1 tyX1_ok nmX1 hown E.1.1 hP hD hS 0 rfl rfl 5 (by decide) (hts (.fieldLink RX1 22 "EdgeAndSpeed$Habits" "every" "I") (by decide +kernel)) (fun _ h9 => h9) rfl (tyX1_ok 5 (by decide)) rfl rfl (Nat.le_of_ble_eq_true rfl) dX1_init_29 (fun H locs hP hD hS => ?_)
  have hP : va_P D vwCl [(h0, .inr (1, [.ref q1, .ref q2, .int 0, .int 0, .int 100, .int 8])), (q1, .inl (cy 1, 20, .inl (fun _ => 0))), (q2, .inl (cy 1, 20, .inl (fun _ => 0)))] H := hP
  have hD : va_D A [(h0, .inr (1, [.ref q1, .ref q2, .int 0, .int 0, .int 100, .int 8])), (q1, .inl (cy 1, 20, .inl (fun _ => 0))), (q2, .inl (cy 1, 20, .inl (fun _ => 0)))] := hD
  refine W.widen (k := 2) (n := 40) (Nat.le_of_ble_eq_true rfl) (Nat.le_of_ble_eq_true rfl) ?_
  exact hret H _ ls _ (fun k => [q1, q2].getD k 0) trivial hP hD hS dX1_init_32

theorem hinX3_init_X3 : ∀ w ∈ u_ws RX3 TX3 5, w ∈ wsX3_init := by decide +kernel
set_option maxHeartbeats 4000000 in
set_option maxRecDepth 100000 in
theorem c_X3_init (l : Launch) {D : va_G} {a0 : Nat → Nat} {cy : Nat → ClassId} (h0 : Nat) (sz : Nat) : Met l yX3_init wsX3_init { frames := 1, cells := 2, slots := 512, locals := 12 } (zPcI D a0 cy [.ref h0] [(h0, .inr (3, [.null, .null, .int 0, .int 0, .int 0]))] sz) (zQvI (T := Nat → Nat) D (fun _ => True) [(h0, .inr (3, [.null, .null, .int 0, .int 0, .int 0]))] sz (fun u => [(h0, .inr (3, [.ref (u 0), .ref (u 1), .int 0, .int 0, .int 0])), ((u 0), .inl (cy 1, 256, .inl (fun _ => 0))), ((u 1), .inl (cy 1, 256, .inl (fun _ => 0)))])) 2 512 (va_A [(h0, .inr (3, [.null, .null, .int 0, .int 0, .int 0]))] sz) := by
  refine zmetI RX3 (by decide) rfl rfl rfl (Nat.le_of_ble_eq_true rfl) (fun p e R s m below meth c Q hfr hlo hmc hms hsz hmn ls S E hP hD hl hret => ?_)
  obtain ⟨hx, hb, hml, hown, hts⟩ := id S
  generalize hAe : va_A [(h0, .inr (3, [.null, .null, .int 0, .int 0, .int 0]))] s.heap.size = A at hD hret E ⊢
  have hA : ∀ q : Nat, s.heap.size ≤ q → A q := fun q h => by rw [← hAe]; exact Or.inr h
  have hS : va_S A s.heap s.heap [] := va_S.rf
  have hl : lv_has ls 1 [(0, .ref h0)] := hl
  refine lv_aload_n hx hb dX3_init_0 rfl (lv_at hl 0 rfl) ?_
  refine W.objInit hx hb hown (hts (.methodLink RX3 1 objectInit) (by decide +kernel)) (hts (.instanceMethod objectInit) (by decide +kernel)) (hts (.code objectInit ⟨#[0xb1]⟩ 1 none) (by decide +kernel)) rfl (by rw [hml]; exact hl.1) rfl dX3_init_1 (Nat.le_trans (Nat.le_of_ble_eq_true rfl) hfr) (Nat.le_trans (Nat.le_of_ble_eq_true rfl) hlo) ?_
  refine lv_aload_n hx hb dX3_init_4 rfl (lv_at hl 0 rfl) ?_
  refine lv_sipush (v := 256) hx hb dX3_init_5 (by decide) ?_
  refine znewa (atype := .int) (ty := .int) (k := 1) (x0 := (256, .inl fun _ => 0)) hx hb (hts (.arrayClass .int) (by decide +kernel)) rfl E.1.1 rfl hP hD hS hA (fun _ => rfl) (by decide) rfl (Nat.le_of_ble_eq_true rfl) (Nat.le_trans (Nat.le_of_ble_eq_true rfl) hmc) (Nat.le_trans (Nat.le_of_ble_eq_true rfl) hms) dX3_init_8 (fun q1 H hP hD hS => ?_)
  have hP : va_P D vwCl [(h0, .inr (3, [.null, .null, .int 0, .int 0, .int 0])), (q1, .inl (cy 1, 256, .inl (fun _ => 0)))] H := hP
  have hD : va_D A [(h0, .inr (3, [.null, .null, .int 0, .int 0, .int 0])), (q1, .inl (cy 1, 256, .inl (fun _ => 0)))] := hD
  refine va_putF (D := D) (ci := 3) (v := .ref q1) (ty := tyX3 0) (C := RX3) (T := TX3) (N := 5) hx hb hts hinX3_init_X3 tyX3 tyX3_ok nmX3 hown E.1.1 hP hD hS 0 rfl rfl 0 (by decide) (hts (.fieldLink RX3 9 "EdgeAndSpeed$Lathes" "times" "[I") (by decide +kernel)) (fun _ h9 => h9) rfl hmn rfl (tyX3_ok 0 (by decide)) rfl rfl (Nat.le_of_ble_eq_true rfl) dX3_init_10 (fun H locs hP hD hS => ?_)
  have hP : va_P D vwCl [(h0, .inr (3, [.ref q1, .null, .int 0, .int 0, .int 0])), (q1, .inl (cy 1, 256, .inl (fun _ => 0)))] H := hP
  have hD : va_D A [(h0, .inr (3, [.ref q1, .null, .int 0, .int 0, .int 0])), (q1, .inl (cy 1, 256, .inl (fun _ => 0)))] := hD
  refine lv_aload_n hx hb dX3_init_13 rfl (lv_at hl 0 rfl) ?_
  refine lv_sipush (v := 256) hx hb dX3_init_14 (by decide) ?_
  refine znewa (atype := .int) (ty := .int) (k := 1) (x0 := (256, .inl fun _ => 0)) hx hb (hts (.arrayClass .int) (by decide +kernel)) rfl E.1.1 rfl hP hD hS hA (fun _ => rfl) (by decide) rfl (Nat.le_of_ble_eq_true rfl) (Nat.le_trans (Nat.le_of_ble_eq_true rfl) hmc) (Nat.le_trans (Nat.le_of_ble_eq_true rfl) hms) dX3_init_17 (fun q2 H hP hD hS => ?_)
  have hP : va_P D vwCl [(h0, .inr (3, [.ref q1, .null, .int 0, .int 0, .int 0])), (q1, .inl (cy 1, 256, .inl (fun _ => 0))), (q2, .inl (cy 1, 256, .inl (fun _ => 0)))] H := hP
  have hD : va_D A [(h0, .inr (3, [.ref q1, .null, .int 0, .int 0, .int 0])), (q1, .inl (cy 1, 256, .inl (fun _ => 0))), (q2, .inl (cy 1, 256, .inl (fun _ => 0)))] := hD
  refine va_putF (D := D) (ci := 3) (v := .ref q2) (ty := tyX3 1) (C := RX3) (T := TX3) (N := 5) hx hb hts hinX3_init_X3 tyX3 tyX3_ok nmX3 hown E.1.1 hP hD hS 0 rfl rfl 1 (by decide) (hts (.fieldLink RX3 13 "EdgeAndSpeed$Lathes" "waitsThen" "[I") (by decide +kernel)) (fun _ h9 => h9) rfl hmn rfl (tyX3_ok 1 (by decide)) rfl rfl (Nat.le_of_ble_eq_true rfl) dX3_init_19 (fun H locs hP hD hS => ?_)
  have hP : va_P D vwCl [(h0, .inr (3, [.ref q1, .ref q2, .int 0, .int 0, .int 0])), (q1, .inl (cy 1, 256, .inl (fun _ => 0))), (q2, .inl (cy 1, 256, .inl (fun _ => 0)))] H := hP
  have hD : va_D A [(h0, .inr (3, [.ref q1, .ref q2, .int 0, .int 0, .int 0])), (q1, .inl (cy 1, 256, .inl (fun _ => 0))), (q2, .inl (cy 1, 256, .inl (fun _ => 0)))] := hD
  refine W.widen (k := 2) (n := 512) (Nat.le_of_ble_eq_true rfl) (Nat.le_of_ble_eq_true rfl) ?_
  exact hret H _ ls _ (fun k => [q1, q2].getD k 0) trivial hP hD hS dX3_init_22

theorem hinX5_init_X5 : ∀ w ∈ u_ws RX5 TX5 4, w ∈ wsX5_init := by decide +kernel
set_option maxHeartbeats 4000000 in
set_option maxRecDepth 100000 in
theorem c_X5_init (l : Launch) {D : va_G} {a0 : Nat → Nat} {cy : Nat → ClassId} (h0 : Nat) (p1 : Nat) (sz : Nat) : Met l yX5_init wsX5_init { frames := 1, cells := 3, slots := 2727, locals := 12 } (zPcI D a0 cy [.ref h0, .ref p1] [(h0, .inr (4, [.null, .null, .null, .null]))] sz) (zQvI (T := Nat → Nat) D (fun _ => True) [(h0, .inr (4, [.null, .null, .null, .null]))] sz (fun u => [(h0, .inr (4, [.ref p1, .ref (u 0), .ref (u 1), .ref (u 2)])), ((u 0), .inl (cy 2, 909, .inr (.inl (fun _ => 0)))), ((u 1), .inl (cy 1, 909, .inl (fun _ => 0))), ((u 2), .inl (cy 1, 909, .inl (fun _ => 0)))])) 3 2727 (va_A [(h0, .inr (4, [.null, .null, .null, .null]))] sz) := by
  refine zmetI RX5 (by decide) rfl rfl rfl (Nat.le_of_ble_eq_true rfl) (fun p e R s m below meth c Q hfr hlo hmc hms hsz hmn ls S E hP hD hl hret => ?_)
  obtain ⟨hx, hb, hml, hown, hts⟩ := id S
  generalize hAe : va_A [(h0, .inr (4, [.null, .null, .null, .null]))] s.heap.size = A at hD hret E ⊢
  have hA : ∀ q : Nat, s.heap.size ≤ q → A q := fun q h => by rw [← hAe]; exact Or.inr h
  have hS : va_S A s.heap s.heap [] := va_S.rf
  have hl : lv_has ls 2 [(0, .ref h0), (1, .ref p1)] := hl
  refine lv_aload_n hx hb dX5_init_0 rfl (lv_at hl 0 rfl) ?_
  refine W.objInit hx hb hown (hts (.methodLink RX5 3 objectInit) (by decide +kernel)) (hts (.instanceMethod objectInit) (by decide +kernel)) (hts (.code objectInit ⟨#[0xb1]⟩ 1 none) (by decide +kernel)) rfl (by rw [hml]; exact hl.1) rfl dX5_init_1 (Nat.le_trans (Nat.le_of_ble_eq_true rfl) hfr) (Nat.le_trans (Nat.le_of_ble_eq_true rfl) hlo) ?_
  refine lv_aload_n hx hb dX5_init_4 rfl (lv_at hl 0 rfl) ?_
  refine lv_sipush (v := 909) hx hb dX5_init_5 (by decide) ?_
  refine znewa (atype := .long) (ty := .long) (k := 2) (x0 := (909, .inr (.inl fun _ => 0))) hx hb (hts (.arrayClass .long) (by decide +kernel)) rfl E.1.1 rfl hP hD hS hA (fun _ => rfl) (by decide) rfl (Nat.le_of_ble_eq_true rfl) (Nat.le_trans (Nat.le_of_ble_eq_true rfl) hmc) (Nat.le_trans (Nat.le_of_ble_eq_true rfl) hms) dX5_init_8 (fun q1 H hP hD hS => ?_)
  have hP : va_P D vwCl [(h0, .inr (4, [.null, .null, .null, .null])), (q1, .inl (cy 2, 909, .inr (.inl (fun _ => 0))))] H := hP
  have hD : va_D A [(h0, .inr (4, [.null, .null, .null, .null])), (q1, .inl (cy 2, 909, .inr (.inl (fun _ => 0))))] := hD
  refine va_putF (D := D) (ci := 4) (v := .ref q1) (ty := tyX5 1) (C := RX5) (T := TX5) (N := 4) hx hb hts hinX5_init_X5 tyX5 tyX5_ok nmX5 hown E.1.1 hP hD hS 0 rfl rfl 1 (by decide) (hts (.fieldLink RX5 11 "EdgeAndSpeed$Parting" "costs" "[J") (by decide +kernel)) (fun _ h9 => h9) rfl hmn rfl (tyX5_ok 1 (by decide)) rfl rfl (Nat.le_of_ble_eq_true rfl) dX5_init_10 (fun H locs hP hD hS => ?_)
  have hP : va_P D vwCl [(h0, .inr (4, [.null, .ref q1, .null, .null])), (q1, .inl (cy 2, 909, .inr (.inl (fun _ => 0))))] H := hP
  have hD : va_D A [(h0, .inr (4, [.null, .ref q1, .null, .null])), (q1, .inl (cy 2, 909, .inr (.inl (fun _ => 0))))] := hD
  refine lv_aload_n hx hb dX5_init_13 rfl (lv_at hl 0 rfl) ?_
  refine lv_sipush (v := 909) hx hb dX5_init_14 (by decide) ?_
  refine znewa (atype := .int) (ty := .int) (k := 1) (x0 := (909, .inl fun _ => 0)) hx hb (hts (.arrayClass .int) (by decide +kernel)) rfl E.1.1 rfl hP hD hS hA (fun _ => rfl) (by decide) rfl (Nat.le_of_ble_eq_true rfl) (Nat.le_trans (Nat.le_of_ble_eq_true rfl) hmc) (Nat.le_trans (Nat.le_of_ble_eq_true rfl) hms) dX5_init_17 (fun q2 H hP hD hS => ?_)
  have hP : va_P D vwCl [(h0, .inr (4, [.null, .ref q1, .null, .null])), (q1, .inl (cy 2, 909, .inr (.inl (fun _ => 0)))), (q2, .inl (cy 1, 909, .inl (fun _ => 0)))] H := hP
  have hD : va_D A [(h0, .inr (4, [.null, .ref q1, .null, .null])), (q1, .inl (cy 2, 909, .inr (.inl (fun _ => 0)))), (q2, .inl (cy 1, 909, .inl (fun _ => 0)))] := hD
  refine va_putF (D := D) (ci := 4) (v := .ref q2) (ty := tyX5 2) (C := RX5) (T := TX5) (N := 4) hx hb hts hinX5_init_X5 tyX5 tyX5_ok nmX5 hown E.1.1 hP hD hS 0 rfl rfl 2 (by decide) (hts (.fieldLink RX5 15 "EdgeAndSpeed$Parting" "passes" "[I") (by decide +kernel)) (fun _ h9 => h9) rfl hmn rfl (tyX5_ok 2 (by decide)) rfl rfl (Nat.le_of_ble_eq_true rfl) dX5_init_19 (fun H locs hP hD hS => ?_)
  have hP : va_P D vwCl [(h0, .inr (4, [.null, .ref q1, .ref q2, .null])), (q1, .inl (cy 2, 909, .inr (.inl (fun _ => 0)))), (q2, .inl (cy 1, 909, .inl (fun _ => 0)))] H := hP
  have hD : va_D A [(h0, .inr (4, [.null, .ref q1, .ref q2, .null])), (q1, .inl (cy 2, 909, .inr (.inl (fun _ => 0)))), (q2, .inl (cy 1, 909, .inl (fun _ => 0)))] := hD
  refine lv_aload_n hx hb dX5_init_22 rfl (lv_at hl 0 rfl) ?_
  refine lv_sipush (v := 909) hx hb dX5_init_23 (by decide) ?_
  refine znewa (atype := .int) (ty := .int) (k := 1) (x0 := (909, .inl fun _ => 0)) hx hb (hts (.arrayClass .int) (by decide +kernel)) rfl E.1.1 rfl hP hD hS hA (fun _ => rfl) (by decide) rfl (Nat.le_of_ble_eq_true rfl) (Nat.le_trans (Nat.le_of_ble_eq_true rfl) hmc) (Nat.le_trans (Nat.le_of_ble_eq_true rfl) hms) dX5_init_26 (fun q3 H hP hD hS => ?_)
  have hP : va_P D vwCl [(h0, .inr (4, [.null, .ref q1, .ref q2, .null])), (q1, .inl (cy 2, 909, .inr (.inl (fun _ => 0)))), (q2, .inl (cy 1, 909, .inl (fun _ => 0))), (q3, .inl (cy 1, 909, .inl (fun _ => 0)))] H := hP
  have hD : va_D A [(h0, .inr (4, [.null, .ref q1, .ref q2, .null])), (q1, .inl (cy 2, 909, .inr (.inl (fun _ => 0)))), (q2, .inl (cy 1, 909, .inl (fun _ => 0))), (q3, .inl (cy 1, 909, .inl (fun _ => 0)))] := hD
  refine va_putF (D := D) (ci := 4) (v := .ref q3) (ty := tyX5 3) (C := RX5) (T := TX5) (N := 4) hx hb hts hinX5_init_X5 tyX5 tyX5_ok nmX5 hown E.1.1 hP hD hS 0 rfl rfl 3 (by decide) (hts (.fieldLink RX5 19 "EdgeAndSpeed$Parting" "firsts" "[I") (by decide +kernel)) (fun _ h9 => h9) rfl hmn rfl (tyX5_ok 3 (by decide)) rfl rfl (Nat.le_of_ble_eq_true rfl) dX5_init_28 (fun H locs hP hD hS => ?_)
  have hP : va_P D vwCl [(h0, .inr (4, [.null, .ref q1, .ref q2, .ref q3])), (q1, .inl (cy 2, 909, .inr (.inl (fun _ => 0)))), (q2, .inl (cy 1, 909, .inl (fun _ => 0))), (q3, .inl (cy 1, 909, .inl (fun _ => 0)))] H := hP
  have hD : va_D A [(h0, .inr (4, [.null, .ref q1, .ref q2, .ref q3])), (q1, .inl (cy 2, 909, .inr (.inl (fun _ => 0)))), (q2, .inl (cy 1, 909, .inl (fun _ => 0))), (q3, .inl (cy 1, 909, .inl (fun _ => 0)))] := hD
  refine lv_aload_n hx hb dX5_init_31 rfl (lv_at hl 0 rfl) ?_
  refine lv_aload_n hx hb dX5_init_32 rfl (lv_at hl 1 rfl) ?_
  refine va_putF (D := D) (ci := 4) (v := .ref p1) (ty := tyX5 0) (C := RX5) (T := TX5) (N := 4) hx hb hts hinX5_init_X5 tyX5 tyX5_ok nmX5 hown E.1.1 hP hD hS 0 rfl rfl 0 (by decide) (hts (.fieldLink RX5 22 "EdgeAndSpeed$Parting" "bench" "LEdgeAndSpeed$Bench;") (by decide +kernel)) (fun _ h9 => h9) rfl hmn rfl (tyX5_ok 0 (by decide)) rfl rfl (Nat.le_of_ble_eq_true rfl) dX5_init_33 (fun H locs hP hD hS => ?_)
  have hP : va_P D vwCl [(h0, .inr (4, [.ref p1, .ref q1, .ref q2, .ref q3])), (q1, .inl (cy 2, 909, .inr (.inl (fun _ => 0)))), (q2, .inl (cy 1, 909, .inl (fun _ => 0))), (q3, .inl (cy 1, 909, .inl (fun _ => 0)))] H := hP
  have hD : va_D A [(h0, .inr (4, [.ref p1, .ref q1, .ref q2, .ref q3])), (q1, .inl (cy 2, 909, .inr (.inl (fun _ => 0)))), (q2, .inl (cy 1, 909, .inl (fun _ => 0))), (q3, .inl (cy 1, 909, .inl (fun _ => 0)))] := hD
  refine W.widen (k := 3) (n := 2727) (Nat.le_of_ble_eq_true rfl) (Nat.le_of_ble_eq_true rfl) ?_
  exact hret H _ ls _ (fun k => [q1, q2, q3].getD k 0) trivial hP hD hS dX5_init_36

theorem hinX6_init_X6 : ∀ w ∈ u_ws RX6 TX6 7, w ∈ wsX6_init := by decide +kernel
set_option maxHeartbeats 4000000 in
set_option maxRecDepth 100000 in
theorem c_X6_init (l : Launch) {D : va_G} {a0 : Nat → Nat} {cy : Nat → ClassId} (h0 : Nat) (p1 : Nat) (sz : Nat) : Met l yX6_init wsX6_init { frames := 1, cells := 2, slots := 12928, locals := 12 } (zPcI D a0 cy [.ref h0, .ref p1] [(h0, .inr (5, [.null, .null, .null, .null, .int 0, .long 0, .int 0]))] sz) (zQvI (T := Nat → Nat) D (fun _ => True) [(h0, .inr (5, [.null, .null, .null, .null, .int 0, .long 0, .int 0]))] sz (fun u => [(h0, .inr (5, [.ref p1, .ref (u 0), .ref (u 1), .ref (a0 0), .int 0, .long 0, .int 0])), ((u 0), .inl (cy 2, 6464, .inr (.inl (fun _ => 0)))), ((u 1), .inl (cy 0, 6464, .inl (fun _ => 0)))])) 2 12928 (va_A [(h0, .inr (5, [.null, .null, .null, .null, .int 0, .long 0, .int 0]))] sz) := by
  refine zmetI RX6 (by decide) rfl rfl rfl (Nat.le_of_ble_eq_true rfl) (fun p e R s m below meth c Q hfr hlo hmc hms hsz hmn ls S E hP hD hl hret => ?_)
  obtain ⟨hx, hb, hml, hown, hts⟩ := id S
  generalize hAe : va_A [(h0, .inr (5, [.null, .null, .null, .null, .int 0, .long 0, .int 0]))] s.heap.size = A at hD hret E ⊢
  have hA : ∀ q : Nat, s.heap.size ≤ q → A q := fun q h => by rw [← hAe]; exact Or.inr h
  have hS : va_S A s.heap s.heap [] := va_S.rf
  have hl : lv_has ls 2 [(0, .ref h0), (1, .ref p1)] := hl
  refine lv_aload_n hx hb dX6_init_0 rfl (lv_at hl 0 rfl) ?_
  refine W.objInit hx hb hown (hts (.methodLink RX6 3 objectInit) (by decide +kernel)) (hts (.instanceMethod objectInit) (by decide +kernel)) (hts (.code objectInit ⟨#[0xb1]⟩ 1 none) (by decide +kernel)) rfl (by rw [hml]; exact hl.1) rfl dX6_init_1 (Nat.le_trans (Nat.le_of_ble_eq_true rfl) hfr) (Nat.le_trans (Nat.le_of_ble_eq_true rfl) hlo) ?_
  refine lv_aload_n hx hb dX6_init_4 rfl (lv_at hl 0 rfl) ?_
  refine lv_sipush (v := 6464) hx hb dX6_init_5 (by decide) ?_
  refine znewa (atype := .long) (ty := .long) (k := 2) (x0 := (6464, .inr (.inl fun _ => 0))) hx hb (hts (.arrayClass .long) (by decide +kernel)) rfl E.1.1 rfl hP hD hS hA (fun _ => rfl) (by decide) rfl (Nat.le_of_ble_eq_true rfl) (Nat.le_trans (Nat.le_of_ble_eq_true rfl) hmc) (Nat.le_trans (Nat.le_of_ble_eq_true rfl) hms) dX6_init_8 (fun q1 H hP hD hS => ?_)
  have hP : va_P D vwCl [(h0, .inr (5, [.null, .null, .null, .null, .int 0, .long 0, .int 0])), (q1, .inl (cy 2, 6464, .inr (.inl (fun _ => 0))))] H := hP
  have hD : va_D A [(h0, .inr (5, [.null, .null, .null, .null, .int 0, .long 0, .int 0])), (q1, .inl (cy 2, 6464, .inr (.inl (fun _ => 0))))] := hD
  refine va_putF (D := D) (ci := 5) (v := .ref q1) (ty := tyX6 1) (C := RX6) (T := TX6) (N := 7) hx hb hts hinX6_init_X6 tyX6 tyX6_ok nmX6 hown E.1.1 hP hD hS 0 rfl rfl 1 (by decide) (hts (.fieldLink RX6 9 "EdgeAndSpeed$Plan" "gains" "[J") (by decide +kernel)) (fun _ h9 => h9) rfl hmn rfl (tyX6_ok 1 (by decide)) rfl rfl (Nat.le_of_ble_eq_true rfl) dX6_init_10 (fun H locs hP hD hS => ?_)
  have hP : va_P D vwCl [(h0, .inr (5, [.null, .ref q1, .null, .null, .int 0, .long 0, .int 0])), (q1, .inl (cy 2, 6464, .inr (.inl (fun _ => 0))))] H := hP
  have hD : va_D A [(h0, .inr (5, [.null, .ref q1, .null, .null, .int 0, .long 0, .int 0])), (q1, .inl (cy 2, 6464, .inr (.inl (fun _ => 0))))] := hD
  refine lv_aload_n hx hb dX6_init_13 rfl (lv_at hl 0 rfl) ?_
  refine lv_sipush (v := 6464) hx hb dX6_init_14 (by decide) ?_
  refine znewa (atype := .byte) (ty := .byte) (k := 0) (x0 := (6464, .inl fun _ => 0)) hx hb (hts (.arrayClass .byte) (by decide +kernel)) rfl E.1.1 rfl hP hD hS hA (fun _ => rfl) (by decide) rfl (Nat.le_of_ble_eq_true rfl) (Nat.le_trans (Nat.le_of_ble_eq_true rfl) hmc) (Nat.le_trans (Nat.le_of_ble_eq_true rfl) hms) dX6_init_17 (fun q2 H hP hD hS => ?_)
  have hP : va_P D vwCl [(h0, .inr (5, [.null, .ref q1, .null, .null, .int 0, .long 0, .int 0])), (q1, .inl (cy 2, 6464, .inr (.inl (fun _ => 0)))), (q2, .inl (cy 0, 6464, .inl (fun _ => 0)))] H := hP
  have hD : va_D A [(h0, .inr (5, [.null, .ref q1, .null, .null, .int 0, .long 0, .int 0])), (q1, .inl (cy 2, 6464, .inr (.inl (fun _ => 0)))), (q2, .inl (cy 0, 6464, .inl (fun _ => 0)))] := hD
  refine va_putF (D := D) (ci := 5) (v := .ref q2) (ty := tyX6 2) (C := RX6) (T := TX6) (N := 7) hx hb hts hinX6_init_X6 tyX6 tyX6_ok nmX6 hown E.1.1 hP hD hS 0 rfl rfl 2 (by decide) (hts (.fieldLink RX6 15 "EdgeAndSpeed$Plan" "acts" "[B") (by decide +kernel)) (fun _ h9 => h9) rfl hmn rfl (tyX6_ok 2 (by decide)) rfl rfl (Nat.le_of_ble_eq_true rfl) dX6_init_19 (fun H locs hP hD hS => ?_)
  have hP : va_P D vwCl [(h0, .inr (5, [.null, .ref q1, .ref q2, .null, .int 0, .long 0, .int 0])), (q1, .inl (cy 2, 6464, .inr (.inl (fun _ => 0)))), (q2, .inl (cy 0, 6464, .inl (fun _ => 0)))] H := hP
  have hD : va_D A [(h0, .inr (5, [.null, .ref q1, .ref q2, .null, .int 0, .long 0, .int 0])), (q1, .inl (cy 2, 6464, .inr (.inl (fun _ => 0)))), (q2, .inl (cy 0, 6464, .inl (fun _ => 0)))] := hD
  refine lv_aload_n hx hb dX6_init_22 rfl (lv_at hl 0 rfl) ?_
  refine va_gets (v := .ref (a0 0)) hx hb ((E.1.2.1 0 (by decide)).1) hS hown (hts (.fieldLink RX6 19 "EdgeAndSpeed$Measure" "VALUE" "LEdgeAndSpeed$Measure;") (by decide +kernel)) (fun _ h9 => h9) dX6_init_23 ?_
  refine va_put (D := D) (ci := 5) (v := .ref (a0 0)) (ty := tyX6 3) (C := RX6) (T := TX6) (N := 7) hx hb hts hinX6_init_X6 tyX6 tyX6_ok nmX6 hown E.1.1 hP hD hS 0 rfl rfl 3 (by decide) (hts (.fieldLink RX6 25 "EdgeAndSpeed$Plan" "by" "LEdgeAndSpeed$Measure;") (by decide +kernel)) (fun _ h9 => h9) rfl (tyX6_ok 3 (by decide)) rfl rfl (Nat.le_of_ble_eq_true rfl) dX6_init_26 (fun H locs hP hD hS => ?_)
  have hP : va_P D vwCl [(h0, .inr (5, [.null, .ref q1, .ref q2, .ref (a0 0), .int 0, .long 0, .int 0])), (q1, .inl (cy 2, 6464, .inr (.inl (fun _ => 0)))), (q2, .inl (cy 0, 6464, .inl (fun _ => 0)))] H := hP
  have hD : va_D A [(h0, .inr (5, [.null, .ref q1, .ref q2, .ref (a0 0), .int 0, .long 0, .int 0])), (q1, .inl (cy 2, 6464, .inr (.inl (fun _ => 0)))), (q2, .inl (cy 0, 6464, .inl (fun _ => 0)))] := hD
  refine lv_aload_n hx hb dX6_init_29 rfl (lv_at hl 0 rfl) ?_
  refine lv_aload_n hx hb dX6_init_30 rfl (lv_at hl 1 rfl) ?_
  refine va_putF (D := D) (ci := 5) (v := .ref p1) (ty := tyX6 0) (C := RX6) (T := TX6) (N := 7) hx hb hts hinX6_init_X6 tyX6 tyX6_ok nmX6 hown E.1.1 hP hD hS 0 rfl rfl 0 (by decide) (hts (.fieldLink RX6 28 "EdgeAndSpeed$Plan" "bench" "LEdgeAndSpeed$Bench;") (by decide +kernel)) (fun _ h9 => h9) rfl hmn rfl (tyX6_ok 0 (by decide)) rfl rfl (Nat.le_of_ble_eq_true rfl) dX6_init_31 (fun H locs hP hD hS => ?_)
  have hP : va_P D vwCl [(h0, .inr (5, [.ref p1, .ref q1, .ref q2, .ref (a0 0), .int 0, .long 0, .int 0])), (q1, .inl (cy 2, 6464, .inr (.inl (fun _ => 0)))), (q2, .inl (cy 0, 6464, .inl (fun _ => 0)))] H := hP
  have hD : va_D A [(h0, .inr (5, [.ref p1, .ref q1, .ref q2, .ref (a0 0), .int 0, .long 0, .int 0])), (q1, .inl (cy 2, 6464, .inr (.inl (fun _ => 0)))), (q2, .inl (cy 0, 6464, .inl (fun _ => 0)))] := hD
  refine W.widen (k := 2) (n := 12928) (Nat.le_of_ble_eq_true rfl) (Nat.le_of_ble_eq_true rfl) ?_
  exact hret H _ ls _ (fun k => [q1, q2].getD k 0) trivial hP hD hS dX6_init_34

theorem hinX7_init_X7 : ∀ w ∈ u_ws RX7 TX7 1, w ∈ wsX7_init := by decide +kernel
set_option maxHeartbeats 4000000 in
set_option maxRecDepth 100000 in
theorem c_X7_init (l : Launch) {D : va_G} {a0 : Nat → Nat} {cy : Nat → ClassId} (h0 : Nat) (p1 : Nat) (sz : Nat) : Met l yX7_init wsX7_init { frames := 1, cells := 0, slots := 0, locals := 12 } (zPcI D a0 cy [.ref h0, .ref p1] [(h0, .inr (6, [.null]))] sz) (zQvI (T := Nat → Nat) D (fun _ => True) [(h0, .inr (6, [.null]))] sz (fun u => [(h0, .inr (6, [.ref p1]))])) 0 0 (va_A [(h0, .inr (6, [.null]))] sz) := by
  refine zmetI RX7 (by decide) rfl rfl rfl (Nat.le_of_ble_eq_true rfl) (fun p e R s m below meth c Q hfr hlo hmc hms hsz hmn ls S E hP hD hl hret => ?_)
  obtain ⟨hx, hb, hml, hown, hts⟩ := id S
  generalize hAe : va_A [(h0, .inr (6, [.null]))] s.heap.size = A at hD hret E ⊢
  have hA : ∀ q : Nat, s.heap.size ≤ q → A q := fun q h => by rw [← hAe]; exact Or.inr h
  have hS : va_S A s.heap s.heap [] := va_S.rf
  have hl : lv_has ls 2 [(0, .ref h0), (1, .ref p1)] := hl
  refine lv_aload_n hx hb dX7_init_0 rfl (lv_at hl 0 rfl) ?_
  refine W.objInit hx hb hown (hts (.methodLink RX7 3 objectInit) (by decide +kernel)) (hts (.instanceMethod objectInit) (by decide +kernel)) (hts (.code objectInit ⟨#[0xb1]⟩ 1 none) (by decide +kernel)) rfl (by rw [hml]; exact hl.1) rfl dX7_init_1 (Nat.le_trans (Nat.le_of_ble_eq_true rfl) hfr) (Nat.le_trans (Nat.le_of_ble_eq_true rfl) hlo) ?_
  refine lv_aload_n hx hb dX7_init_4 rfl (lv_at hl 0 rfl) ?_
  refine lv_aload_n hx hb dX7_init_5 rfl (lv_at hl 1 rfl) ?_
  refine va_putF (D := D) (ci := 6) (v := .ref p1) (ty := tyX7 0) (C := RX7) (T := TX7) (N := 1) hx hb hts hinX7_init_X7 tyX7 tyX7_ok nmX7 hown E.1.1 hP hD hS 0 rfl rfl 0 (by decide) (hts (.fieldLink RX7 9 "EdgeAndSpeed$Shop" "bench" "LEdgeAndSpeed$Bench;") (by decide +kernel)) (fun _ h9 => h9) rfl hmn rfl (tyX7_ok 0 (by decide)) rfl rfl (Nat.le_of_ble_eq_true rfl) dX7_init_6 (fun H locs hP hD hS => ?_)
  have hP : va_P D vwCl [(h0, .inr (6, [.ref p1]))] H := hP
  have hD : va_D A [(h0, .inr (6, [.ref p1]))] := hD
  refine W.widen (k := 0) (n := 0) (Nat.le_of_ble_eq_true rfl) (Nat.le_of_ble_eq_true rfl) ?_
  exact hret H _ ls _ (fun k => [].getD k 0) trivial hP hD hS dX7_init_9

theorem hinX8_init_X8 : ∀ w ∈ u_ws RX8 TX8 4, w ∈ wsX8_init := by decide +kernel
set_option maxHeartbeats 4000000 in
set_option maxRecDepth 100000 in
theorem c_X8_init (l : Launch) {D : va_G} {a0 : Nat → Nat} {cy : Nat → ClassId} (h0 : Nat) (sz : Nat) : Met l yX8_init wsX8_init { frames := 1, cells := 2, slots := 504, locals := 12 } (zPcI D a0 cy [.ref h0] [(h0, .inr (7, [.null, .null, .int 0, .int 0]))] sz) (zQvI (T := Nat → Nat) D (fun _ => True) [(h0, .inr (7, [.null, .null, .int 0, .int 0]))] sz (fun u => [(h0, .inr (7, [.ref (u 0), .ref (u 1), .int 0, .int 0])), ((u 0), .inl (cy 0, 500, .inl (fun _ => 0))), ((u 1), .inl (cy 1, 4, .inl (fun _ => 0)))])) 2 504 (va_A [(h0, .inr (7, [.null, .null, .int 0, .int 0]))] sz) := by
  refine zmetI RX8 (by decide) rfl rfl rfl (Nat.le_of_ble_eq_true rfl) (fun p e R s m below meth c Q hfr hlo hmc hms hsz hmn ls S E hP hD hl hret => ?_)
  obtain ⟨hx, hb, hml, hown, hts⟩ := id S
  generalize hAe : va_A [(h0, .inr (7, [.null, .null, .int 0, .int 0]))] s.heap.size = A at hD hret E ⊢
  have hA : ∀ q : Nat, s.heap.size ≤ q → A q := fun q h => by rw [← hAe]; exact Or.inr h
  have hS : va_S A s.heap s.heap [] := va_S.rf
  have hl : lv_has ls 1 [(0, .ref h0)] := hl
  refine lv_aload_n hx hb dX8_init_0 rfl (lv_at hl 0 rfl) ?_
  refine W.objInit hx hb hown (hts (.methodLink RX8 3 objectInit) (by decide +kernel)) (hts (.instanceMethod objectInit) (by decide +kernel)) (hts (.code objectInit ⟨#[0xb1]⟩ 1 none) (by decide +kernel)) rfl (by rw [hml]; exact hl.1) rfl dX8_init_1 (Nat.le_trans (Nat.le_of_ble_eq_true rfl) hfr) (Nat.le_trans (Nat.le_of_ble_eq_true rfl) hlo) ?_
  refine lv_aload_n hx hb dX8_init_4 rfl (lv_at hl 0 rfl) ?_
  refine lv_sipush (v := 500) hx hb dX8_init_5 (by decide) ?_
  refine znewa (atype := .byte) (ty := .byte) (k := 0) (x0 := (500, .inl fun _ => 0)) hx hb (hts (.arrayClass .byte) (by decide +kernel)) rfl E.1.1 rfl hP hD hS hA (fun _ => rfl) (by decide) rfl (Nat.le_of_ble_eq_true rfl) (Nat.le_trans (Nat.le_of_ble_eq_true rfl) hmc) (Nat.le_trans (Nat.le_of_ble_eq_true rfl) hms) dX8_init_8 (fun q1 H hP hD hS => ?_)
  have hP : va_P D vwCl [(h0, .inr (7, [.null, .null, .int 0, .int 0])), (q1, .inl (cy 0, 500, .inl (fun _ => 0)))] H := hP
  have hD : va_D A [(h0, .inr (7, [.null, .null, .int 0, .int 0])), (q1, .inl (cy 0, 500, .inl (fun _ => 0)))] := hD
  refine va_putF (D := D) (ci := 7) (v := .ref q1) (ty := tyX8 0) (C := RX8) (T := TX8) (N := 4) hx hb hts hinX8_init_X8 tyX8 tyX8_ok nmX8 hown E.1.1 hP hD hS 0 rfl rfl 0 (by decide) (hts (.fieldLink RX8 9 "EdgeAndSpeed$Text" "bytes" "[B") (by decide +kernel)) (fun _ h9 => h9) rfl hmn rfl (tyX8_ok 0 (by decide)) rfl rfl (Nat.le_of_ble_eq_true rfl) dX8_init_10 (fun H locs hP hD hS => ?_)
  have hP : va_P D vwCl [(h0, .inr (7, [.ref q1, .null, .int 0, .int 0])), (q1, .inl (cy 0, 500, .inl (fun _ => 0)))] H := hP
  have hD : va_D A [(h0, .inr (7, [.ref q1, .null, .int 0, .int 0])), (q1, .inl (cy 0, 500, .inl (fun _ => 0)))] := hD
  refine lv_aload_n hx hb dX8_init_13 rfl (lv_at hl 0 rfl) ?_
  refine lv_iconst (v := 4) hx hb dX8_init_14 (by decide) ?_
  refine znewa (atype := .int) (ty := .int) (k := 1) (x0 := (4, .inl fun _ => 0)) hx hb (hts (.arrayClass .int) (by decide +kernel)) rfl E.1.1 rfl hP hD hS hA (fun _ => rfl) (by decide) rfl (Nat.le_of_ble_eq_true rfl) (Nat.le_trans (Nat.le_of_ble_eq_true rfl) hmc) (Nat.le_trans (Nat.le_of_ble_eq_true rfl) hms) dX8_init_15 (fun q2 H hP hD hS => ?_)
  have hP : va_P D vwCl [(h0, .inr (7, [.ref q1, .null, .int 0, .int 0])), (q1, .inl (cy 0, 500, .inl (fun _ => 0))), (q2, .inl (cy 1, 4, .inl (fun _ => 0)))] H := hP
  have hD : va_D A [(h0, .inr (7, [.ref q1, .null, .int 0, .int 0])), (q1, .inl (cy 0, 500, .inl (fun _ => 0))), (q2, .inl (cy 1, 4, .inl (fun _ => 0)))] := hD
  refine va_putF (D := D) (ci := 7) (v := .ref q2) (ty := tyX8 1) (C := RX8) (T := TX8) (N := 4) hx hb hts hinX8_init_X8 tyX8 tyX8_ok nmX8 hown E.1.1 hP hD hS 0 rfl rfl 1 (by decide) (hts (.fieldLink RX8 15 "EdgeAndSpeed$Text" "told" "[I") (by decide +kernel)) (fun _ h9 => h9) rfl hmn rfl (tyX8_ok 1 (by decide)) rfl rfl (Nat.le_of_ble_eq_true rfl) dX8_init_17 (fun H locs hP hD hS => ?_)
  have hP : va_P D vwCl [(h0, .inr (7, [.ref q1, .ref q2, .int 0, .int 0])), (q1, .inl (cy 0, 500, .inl (fun _ => 0))), (q2, .inl (cy 1, 4, .inl (fun _ => 0)))] H := hP
  have hD : va_D A [(h0, .inr (7, [.ref q1, .ref q2, .int 0, .int 0])), (q1, .inl (cy 0, 500, .inl (fun _ => 0))), (q2, .inl (cy 1, 4, .inl (fun _ => 0)))] := hD
  refine W.widen (k := 2) (n := 504) (Nat.le_of_ble_eq_true rfl) (Nat.le_of_ble_eq_true rfl) ?_
  exact hret H _ ls _ (fun k => [q1, q2].getD k 0) trivial hP hD hS dX8_init_20

theorem hinX9_init_X9 : ∀ w ∈ u_ws RX9 TX9 10, w ∈ wsX9_init := by decide +kernel
set_option maxHeartbeats 4000000 in
set_option maxRecDepth 100000 in
theorem c_X9_init (l : Launch) {D : va_G} {a0 : Nat → Nat} {cy : Nat → ClassId} (h0 : Nat) (p1 : Nat) (p2 : Nat) (sz : Nat) : Met l yX9_init wsX9_init { frames := 1, cells := 0, slots := 0, locals := 12 } (zPcI D a0 cy [.ref h0, .ref p1, .ref p2] [(h0, .inr (8, [.null, .null, .int 0, .int 0, .int 0, .int 0, .int 0, .int 0, .int 0, .int 0]))] sz) (zQvI (T := Nat → Nat) D (fun _ => True) [(h0, .inr (8, [.null, .null, .int 0, .int 0, .int 0, .int 0, .int 0, .int 0, .int 0, .int 0]))] sz (fun u => [(h0, .inr (8, [.ref p1, .ref p2, .int 0, .int 0, .int 0, .int 0, .int 0, .int 0, .int 0, .int 0]))])) 0 0 (va_A [(h0, .inr (8, [.null, .null, .int 0, .int 0, .int 0, .int 0, .int 0, .int 0, .int 0, .int 0]))] sz) := by
  refine zmetI RX9 (by decide) rfl rfl rfl (Nat.le_of_ble_eq_true rfl) (fun p e R s m below meth c Q hfr hlo hmc hms hsz hmn ls S E hP hD hl hret => ?_)
  obtain ⟨hx, hb, hml, hown, hts⟩ := id S
  generalize hAe : va_A [(h0, .inr (8, [.null, .null, .int 0, .int 0, .int 0, .int 0, .int 0, .int 0, .int 0, .int 0]))] s.heap.size = A at hD hret E ⊢
  have hA : ∀ q : Nat, s.heap.size ≤ q → A q := fun q h => by rw [← hAe]; exact Or.inr h
  have hS : va_S A s.heap s.heap [] := va_S.rf
  have hl : lv_has ls 3 [(0, .ref h0), (1, .ref p1), (2, .ref p2)] := hl
  refine lv_aload_n hx hb dX9_init_0 rfl (lv_at hl 0 rfl) ?_
  refine W.objInit hx hb hown (hts (.methodLink RX9 3 objectInit) (by decide +kernel)) (hts (.instanceMethod objectInit) (by decide +kernel)) (hts (.code objectInit ⟨#[0xb1]⟩ 1 none) (by decide +kernel)) rfl (by rw [hml]; exact hl.1) rfl dX9_init_1 (Nat.le_trans (Nat.le_of_ble_eq_true rfl) hfr) (Nat.le_trans (Nat.le_of_ble_eq_true rfl) hlo) ?_
  refine lv_aload_n hx hb dX9_init_4 rfl (lv_at hl 0 rfl) ?_
  refine lv_aload_n hx hb dX9_init_5 rfl (lv_at hl 1 rfl) ?_
  refine va_putF (D := D) (ci := 8) (v := .ref p1) (ty := tyX9 0) (C := RX9) (T := TX9) (N := 10) hx hb hts hinX9_init_X9 tyX9 tyX9_ok nmX9 hown E.1.1 hP hD hS 0 rfl rfl 0 (by decide) (hts (.fieldLink RX9 9 "EdgeAndSpeed$Trial" "bench" "LEdgeAndSpeed$Bench;") (by decide +kernel)) (fun _ h9 => h9) rfl hmn rfl (tyX9_ok 0 (by decide)) rfl rfl (Nat.le_of_ble_eq_true rfl) dX9_init_6 (fun H locs hP hD hS => ?_)
  have hP : va_P D vwCl [(h0, .inr (8, [.ref p1, .null, .int 0, .int 0, .int 0, .int 0, .int 0, .int 0, .int 0, .int 0]))] H := hP
  have hD : va_D A [(h0, .inr (8, [.ref p1, .null, .int 0, .int 0, .int 0, .int 0, .int 0, .int 0, .int 0, .int 0]))] := hD
  refine lv_aload_n hx hb dX9_init_9 rfl (lv_at hl 0 rfl) ?_
  refine lv_aload_n hx hb dX9_init_10 rfl (lv_at hl 2 rfl) ?_
  refine va_putF (D := D) (ci := 8) (v := .ref p2) (ty := tyX9 1) (C := RX9) (T := TX9) (N := 10) hx hb hts hinX9_init_X9 tyX9 tyX9_ok nmX9 hown E.1.1 hP hD hS 0 rfl rfl 1 (by decide) (hts (.fieldLink RX9 15 "EdgeAndSpeed$Trial" "hands" "LEdgeAndSpeed$Hands;") (by decide +kernel)) (fun _ h9 => h9) rfl hmn rfl (tyX9_ok 1 (by decide)) rfl rfl (Nat.le_of_ble_eq_true rfl) dX9_init_11 (fun H locs hP hD hS => ?_)
  have hP : va_P D vwCl [(h0, .inr (8, [.ref p1, .ref p2, .int 0, .int 0, .int 0, .int 0, .int 0, .int 0, .int 0, .int 0]))] H := hP
  have hD : va_D A [(h0, .inr (8, [.ref p1, .ref p2, .int 0, .int 0, .int 0, .int 0, .int 0, .int 0, .int 0, .int 0]))] := hD
  refine W.widen (k := 0) (n := 0) (Nat.le_of_ble_eq_true rfl) (Nat.le_of_ble_eq_true rfl) ?_
  exact hret H _ ls _ (fun k => [].getD k 0) trivial hP hD hS dX9_init_14

theorem hinX10_init_X10 : ∀ w ∈ u_ws RX10 TX10 9, w ∈ wsX10_init := by decide +kernel
set_option maxHeartbeats 4000000 in
set_option maxRecDepth 100000 in
theorem c_X10_init (l : Launch) {D : va_G} {a0 : Nat → Nat} {cy : Nat → ClassId} (h0 : Nat) (p1 : Nat) (p2 : Nat) (sz : Nat) : Met l yX10_init wsX10_init { frames := 2, cells := 3, slots := 12935, locals := 33 } (zPcI D a0 cy [.ref h0, .ref p1, .ref p2] [(h0, .inr (9, [.null, .null, .null, .int 0, .int 0, .int 0, .int 0, .int 0, .int 0]))] sz) (zQvI (T := Nat → Nat) D (fun _ => True) [(h0, .inr (9, [.null, .null, .null, .int 0, .int 0, .int 0, .int 0, .int 0, .int 0]))] sz (fun u => [(h0, .inr (9, [.ref p1, .ref p2, .ref (u 0), .int 0, .int 0, .int 0, .int 0, .int 0, .int 0])), ((u 0), .inr (5, [.ref p1, .ref (u 1), .ref (u 2), .ref (a0 0), .int 0, .long 0, .int 0])), ((u 1), .inl (cy 2, 6464, .inr (.inl (fun _ => 0)))), ((u 2), .inl (cy 0, 6464, .inl (fun _ => 0)))])) 3 12935 (va_A [(h0, .inr (9, [.null, .null, .null, .int 0, .int 0, .int 0, .int 0, .int 0, .int 0]))] sz) := by
  refine zmetI RX10 (by decide) rfl rfl rfl (Nat.le_of_ble_eq_true rfl) (fun p e R s m below meth c Q hfr hlo hmc hms hsz hmn ls S E hP hD hl hret => ?_)
  obtain ⟨hx, hb, hml, hown, hts⟩ := id S
  generalize hAe : va_A [(h0, .inr (9, [.null, .null, .null, .int 0, .int 0, .int 0, .int 0, .int 0, .int 0]))] s.heap.size = A at hD hret E ⊢
  have hA : ∀ q : Nat, s.heap.size ≤ q → A q := fun q h => by rw [← hAe]; exact Or.inr h
  have hS : va_S A s.heap s.heap [] := va_S.rf
  have hl : lv_has ls 3 [(0, .ref h0), (1, .ref p1), (2, .ref p2)] := hl
  refine lv_aload_n hx hb dX10_init_0 rfl (lv_at hl 0 rfl) ?_
  refine W.objInit hx hb hown (hts (.methodLink RX10 3 objectInit) (by decide +kernel)) (hts (.instanceMethod objectInit) (by decide +kernel)) (hts (.code objectInit ⟨#[0xb1]⟩ 1 none) (by decide +kernel)) rfl (by rw [hml]; exact hl.1) rfl dX10_init_1 (Nat.le_trans (Nat.le_of_ble_eq_true rfl) hfr) (Nat.le_trans (Nat.le_of_ble_eq_true rfl) hlo) ?_
  refine lv_aload_n hx hb dX10_init_4 rfl (lv_at hl 0 rfl) ?_
  refine lv_aload_n hx hb dX10_init_5 rfl (lv_at hl 1 rfl) ?_
  refine va_putF (D := D) (ci := 9) (v := .ref p1) (ty := tyX10 0) (C := RX10) (T := TX10) (N := 9) hx hb hts hinX10_init_X10 tyX10 tyX10_ok nmX10 hown E.1.1 hP hD hS 0 rfl rfl 0 (by decide) (hts (.fieldLink RX10 9 "EdgeAndSpeed$Walk" "bench" "LEdgeAndSpeed$Bench;") (by decide +kernel)) (fun _ h9 => h9) rfl hmn rfl (tyX10_ok 0 (by decide)) rfl rfl (Nat.le_of_ble_eq_true rfl) dX10_init_6 (fun H locs hP hD hS => ?_)
  have hP : va_P D vwCl [(h0, .inr (9, [.ref p1, .null, .null, .int 0, .int 0, .int 0, .int 0, .int 0, .int 0]))] H := hP
  have hD : va_D A [(h0, .inr (9, [.ref p1, .null, .null, .int 0, .int 0, .int 0, .int 0, .int 0, .int 0]))] := hD
  refine lv_aload_n hx hb dX10_init_9 rfl (lv_at hl 0 rfl) ?_
  refine lv_aload_n hx hb dX10_init_10 rfl (lv_at hl 2 rfl) ?_
  refine va_putF (D := D) (ci := 9) (v := .ref p2) (ty := tyX10 1) (C := RX10) (T := TX10) (N := 9) hx hb hts hinX10_init_X10 tyX10 tyX10_ok nmX10 hown E.1.1 hP hD hS 0 rfl rfl 1 (by decide) (hts (.fieldLink RX10 15 "EdgeAndSpeed$Walk" "hands" "LEdgeAndSpeed$Hands;") (by decide +kernel)) (fun _ h9 => h9) rfl hmn rfl (tyX10_ok 1 (by decide)) rfl rfl (Nat.le_of_ble_eq_true rfl) dX10_init_11 (fun H locs hP hD hS => ?_)
  have hP : va_P D vwCl [(h0, .inr (9, [.ref p1, .ref p2, .null, .int 0, .int 0, .int 0, .int 0, .int 0, .int 0]))] H := hP
  have hD : va_D A [(h0, .inr (9, [.ref p1, .ref p2, .null, .int 0, .int 0, .int 0, .int 0, .int 0, .int 0]))] := hD
  refine lv_aload_n hx hb dX10_init_14 rfl (lv_at hl 0 rfl) ?_
  refine va_new (ci := 5) (fs := [.null, .null, .null, .null, .int 0, .long 0, .int 0]) (C := RX6) (T := TX6) (N := 7) hx hb hts (by decide +kernel) tyX6 tyX6_ok hown (hts (.classLink RX10 19 RX6) (by decide +kernel)) (hts (.instantiable RX6 7) (by decide +kernel)) (hts (.initialized RX6) (by decide +kernel)) E.1.1 hP hD hS hA rfl (fun j hj => by rcases (show j = 0 ∨ j = 1 ∨ j = 2 ∨ j = 3 ∨ j = 4 ∨ j = 5 ∨ j = 6 by omega) with rfl | rfl | rfl | rfl | rfl | rfl | rfl <;> rfl) (Nat.le_trans (Nat.le_of_ble_eq_true rfl) hmc) (Nat.le_trans (Nat.le_of_ble_eq_true rfl) hms) dX10_init_15 (fun q1 H hP hD hS => ?_)
  have hP : va_P D vwCl [(h0, .inr (9, [.ref p1, .ref p2, .null, .int 0, .int 0, .int 0, .int 0, .int 0, .int 0])), (q1, .inr (5, [.null, .null, .null, .null, .int 0, .long 0, .int 0]))] H := hP
  have hD : va_D A [(h0, .inr (9, [.ref p1, .ref p2, .null, .int 0, .int 0, .int 0, .int 0, .int 0, .int 0])), (q1, .inr (5, [.null, .null, .null, .null, .int 0, .long 0, .int 0]))] := hD
  refine lv_dup hx hb dX10_init_18 rfl ?_
  refine lv_aload_n hx hb dX10_init_19 rfl (lv_at hl 1 rfl) ?_
  refine zcallI (As := [.ref p1]) (rest := [.ref q1, .ref h0]) (wc := [(q1, .inr (5, [.null, .null, .null, .null, .int 0, .long 0, .int 0]))]) (wr := [(h0, .inr (9, [.ref p1, .ref p2, .null, .int 0, .int 0, .int 0, .int 0, .int 0, .int 0]))]) S (c_X6_init l q1 p1 H.size) (cwI 1 hts gX10_init_X6_init rfl rfl rfl (hts (.initialized RX6) (by decide +kernel)) (hts (.methodLink RX10 21 yX6_init) (by decide +kernel)) (hts (.instanceMethod yX6_init) (by decide +kernel)) rfl (by decide +kernel) ⟨Nat.le_trans (Nat.le_of_ble_eq_true rfl) hfr, Nat.le_trans (Nat.le_of_ble_eq_true rfl) hlo⟩) E hP hD hS hA hl.1 rfl rfl (Nat.le_of_ble_eq_true rfl) dX10_init_20 [1] [0] rfl rfl (by decide) (by decide) (by decide) ⟨Nat.le_trans (Nat.le_of_ble_eq_true rfl) hmc, Nat.le_trans (Nat.le_of_ble_eq_true rfl) hms⟩ (fun u2 H locs _ hP hD hS => ?_)
  have hP : va_P D vwCl [(h0, .inr (9, [.ref p1, .ref p2, .null, .int 0, .int 0, .int 0, .int 0, .int 0, .int 0])), (q1, .inr (5, [.ref p1, .ref (u2 0), .ref (u2 1), .ref (a0 0), .int 0, .long 0, .int 0])), ((u2 0), .inl (cy 2, 6464, .inr (.inl (fun _ => 0)))), ((u2 1), .inl (cy 0, 6464, .inl (fun _ => 0)))] H := hP
  have hD : va_D A [(h0, .inr (9, [.ref p1, .ref p2, .null, .int 0, .int 0, .int 0, .int 0, .int 0, .int 0])), (q1, .inr (5, [.ref p1, .ref (u2 0), .ref (u2 1), .ref (a0 0), .int 0, .long 0, .int 0])), ((u2 0), .inl (cy 2, 6464, .inr (.inl (fun _ => 0)))), ((u2 1), .inl (cy 0, 6464, .inl (fun _ => 0)))] := hD
  refine va_putF (D := D) (ci := 9) (v := .ref q1) (ty := tyX10 2) (C := RX10) (T := TX10) (N := 9) hx hb hts hinX10_init_X10 tyX10 tyX10_ok nmX10 hown E.1.1 hP hD hS 0 rfl rfl 2 (by decide) (hts (.fieldLink RX10 24 "EdgeAndSpeed$Walk" "plan" "LEdgeAndSpeed$Plan;") (by decide +kernel)) (fun _ h9 => h9) rfl hmn rfl (tyX10_ok 2 (by decide)) rfl rfl (Nat.le_of_ble_eq_true rfl) dX10_init_23 (fun H locs hP hD hS => ?_)
  have hP : va_P D vwCl [(h0, .inr (9, [.ref p1, .ref p2, .ref q1, .int 0, .int 0, .int 0, .int 0, .int 0, .int 0])), (q1, .inr (5, [.ref p1, .ref (u2 0), .ref (u2 1), .ref (a0 0), .int 0, .long 0, .int 0])), ((u2 0), .inl (cy 2, 6464, .inr (.inl (fun _ => 0)))), ((u2 1), .inl (cy 0, 6464, .inl (fun _ => 0)))] H := hP
  have hD : va_D A [(h0, .inr (9, [.ref p1, .ref p2, .ref q1, .int 0, .int 0, .int 0, .int 0, .int 0, .int 0])), (q1, .inr (5, [.ref p1, .ref (u2 0), .ref (u2 1), .ref (a0 0), .int 0, .long 0, .int 0])), ((u2 0), .inl (cy 2, 6464, .inr (.inl (fun _ => 0)))), ((u2 1), .inl (cy 0, 6464, .inl (fun _ => 0)))] := hD
  refine W.widen (k := 3) (n := 12935) (Nat.le_of_ble_eq_true rfl) (Nat.le_of_ble_eq_true rfl) ?_
  exact hret H _ ls _ (fun k => [q1, (u2 0), (u2 1)].getD k 0) trivial hP hD hS dX10_init_26

