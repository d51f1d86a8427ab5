def f_X6_gainOf (I : zI) (J : zJ) (o : Nat) (p1 : Int32) (p2 : Int32) (p3 : Int32) (p4 : Int32) : Option Int64 := (if p1 = 48 then zb1 (f_X6_gainAt I J o p2 p3 0) (fun u23 => some (u23 + (J o 5))) else (if p1 = 49 then zg ((I o 3).toNatClampNeg < 4) (zb1 (f_X6_gainAtStart I J o (p2 + 1) p4) (fun u21 => some ((zMv ((I o 3).toNatClampNeg) 2) + u21))) else zb1 (f_X11_depthOf I J p1) (fun x3 => zn ((p3 - x3)) (fun y5 => zb1 (f_X11_speedOf I J p1) (fun x6 => zb1 (f_X11_depthOf I J p1) (fun x8 => zb1 (f_X0_wears I J 4 p2 x6 x8 (I o 4)) (fun x10 => zb1 (f_X6_ofBreaking I J o p2) (fun u12 => zb1 (f_X6_comes I J o p2 y5 p4 x10 u12) (fun u14 => zb1 (f_X11_speedOf I J p1) (fun x16 => zb1 (f_X6_ofTime I J o p2 x16) (fun u18 => some (u14 + u18))))))))))))
theorem hinX6_gainOf_X6 : ∀ w ∈ u_ws RX6 TX6 7, w ∈ wsX6_gainOf := by decide +kernel
set_option maxHeartbeats 4000000 in
set_option maxRecDepth 100000 in
theorem w_X6_gainOf {p : Program} {l : Launch} {e : Env} {R : Room} {s : State} {m : MethodId} {args : Array Value} {below : List Frame} {meth : Method} {c : Code} {Q : State → Prop} (hfr : 4 ≤ R.frames) (hlo : 97 ≤ R.locals) {D : va_G} {a0 : Nat → Nat} {A : Nat → Prop} {cy : Nat → ClassId} {ad : Nat → Nat} (hD : zD A 74 ad) {I : zI} {J : zJ} (o : Nat) (ho : zPn o) (p1 : Int32) (p2 : Int32) (p3 : Int32) (p4 : Int32) {rx : Int64} (hf : f_X6_gainOf I J o p1 p2 p3 p4 = some rx) {ls : Array Slot} (S0 : zSt p m c cX6_gainOf 7 s args wsX6_gainOf RX6 D a0 A cy (zw 74 (kC cy ad a0) ad I J) [.ref (ad o), .int p1, .int p2, .int p3, .int p4] ls) (hret : ∀ (tx : Int64), some tx = some rx → ∀ (H : Heap) (locs : List Loc) (ls : Array Slot) (pc : Nat), va_P D vwCl (zw 74 (kC cy ad a0) ad I J) H → va_S A s.heap H locs → decode cX6_gainOf pc = .ok (.lreturn, 1) → W p l e R s m args below meth c H locs 0 0 Q (F0 m pc ls [.long tx])) : W p l e R s m args below meth c s.heap [] 0 0 Q (F0 m 0 ls []) := by
  obtain ⟨S, E, hP, hl⟩ := S0
  obtain ⟨hx, hb, hml, hown, hts⟩ := id S
  have hS : va_S A s.heap s.heap [] := va_S.rf
  replace hl : lv_has ls 7 [(0, .ref (ad o)), (1, .int p1), (2, .int p2), (3, .int p3), (4, .int p4)] := hl
  unfold f_X6_gainOf at hf
  refine lv_iload_n hx hb dX6_gainOf_0 rfl (lv_at hl 1 rfl) ?_
  refine lv_bipush (v := 48) hx hb dX6_gainOf_1 (by decide) ?_
  refine lv_icmp_ne (tgt := 19) hx hb dX6_gainOf_3 (by decide) (fun k1 => ?_) (fun k1 => ?_)
  · replace hf := zf k1 hf
    refine lv_iload_n hx hb dX6_gainOf_19 rfl (lv_at hl 1 rfl) ?_
    refine lv_bipush (v := 49) hx hb dX6_gainOf_20 (by decide) ?_
    refine lv_icmp_ne (tgt := 43) hx hb dX6_gainOf_22 (by decide) (fun k2 => ?_) (fun k2 => ?_)
    · replace hf := zf k2 hf
      refine lv_iload_n hx hb dX6_gainOf_43 rfl (lv_at hl 3 rfl) ?_
      refine lv_iload_n hx hb dX6_gainOf_44 rfl (lv_at hl 1 rfl) ?_
      obtain ⟨x3, h4, hf⟩ := zb1_e hf
      refine zgo_i (zrunSN (As := [.int p1]) (rest := [.int p3]) S (c_X11_depthOf l hD p1 h4) ⟨va_cnB (host := "EdgeAndSpeed") 1 hts gX6_gainOf_X11_depthOf_n87 rfl rfl rfl (zNmw_6 E.2.2) (hts (.initialized RX11) (by decide +kernel)) ddX11_depthOf ⟨Nat.le_trans (Nat.le_of_ble_eq_true rfl) hfr, Nat.le_trans (Nat.le_of_ble_eq_true rfl) hlo⟩, hts (.static yX11_depthOf) (by decide +kernel), trivial⟩ E hP hS hl.1 rfl rfl (Nat.le_of_ble_eq_true rfl) dX6_gainOf_45) hS (fun H locs hP hS => ?_)
      refine lv_isub hx hb dX6_gainOf_48 ?_
      refine lv_topi (fun y5 ey5 => ?_)
      replace hf := zn_s ey5 hf
      refine lv_istore (lv' := [(5, .int y5), (0, .ref (ad o)), (1, .int p1), (2, .int p2), (3, .int p3), (4, .int p4)]) hx hb dX6_gainOf_49 hl (by decide) rfl (fun ls hl => ?_)
      refine lv_aload_n hx hb dX6_gainOf_51 rfl (lv_at hl 1 rfl) ?_
      refine va_get (D := D) (ci := 5) (v := .ref (ad 4)) (C := RX6) (T := TX6) (N := 7) hx hb hts hinX6_gainOf_X6 hown E.1 hP o (zO.get (oX6_at ho)) rfl 0 (by decide) (hts (.fieldLink RX6 28 "EdgeAndSpeed$Plan" "bench" "LEdgeAndSpeed$Bench;") (by decide +kernel)) (fun _ h9 => h9) rfl dX6_gainOf_52 ?_
      refine lv_iload_n hx hb dX6_gainOf_55 rfl (lv_at hl 3 rfl) ?_
      refine lv_iload_n hx hb dX6_gainOf_56 rfl (lv_at hl 2 rfl) ?_
      obtain ⟨x6, h7, hf⟩ := zb1_e hf
      refine zgo_i (zrunSN (As := [.int p1]) (rest := [.int p2, .ref (ad 4)]) S (c_X11_speedOf l hD p1 h7) ⟨va_cnB (host := "EdgeAndSpeed") 1 hts gX6_gainOf_X11_speedOf_n90 rfl rfl rfl (zNmw_7 E.2.2) (hts (.initialized RX11) (by decide +kernel)) ddX11_speedOf ⟨Nat.le_trans (Nat.le_of_ble_eq_true rfl) hfr, Nat.le_trans (Nat.le_of_ble_eq_true rfl) hlo⟩, hts (.static yX11_speedOf) (by decide +kernel), trivial⟩ E hP hS hl.1 rfl rfl (Nat.le_of_ble_eq_true rfl) dX6_gainOf_57) hS (fun H locs hP hS => ?_)
      refine lv_iload_n hx hb dX6_gainOf_60 rfl (lv_at hl 2 rfl) ?_
      obtain ⟨x8, h9, hf⟩ := zb1_e hf
      refine zgo_i (zrunSN (As := [.int p1]) (rest := [.int x6, .int p2, .ref (ad 4)]) S (c_X11_depthOf l hD p1 h9) ⟨va_cnB (host := "EdgeAndSpeed") 1 hts gX6_gainOf_X11_depthOf_n87 rfl rfl rfl (zNmw_6 E.2.2) (hts (.initialized RX11) (by decide +kernel)) ddX11_depthOf ⟨Nat.le_trans (Nat.le_of_ble_eq_true rfl) hfr, Nat.le_trans (Nat.le_of_ble_eq_true rfl) hlo⟩, hts (.static yX11_depthOf) (by decide +kernel), trivial⟩ E hP hS hl.1 rfl rfl (Nat.le_of_ble_eq_true rfl) dX6_gainOf_61) hS (fun H locs hP hS => ?_)
      refine lv_aload_n hx hb dX6_gainOf_64 rfl (lv_at hl 1 rfl) ?_
      refine va_get (D := D) (ci := 5) (v := .int (I o 4)) (C := RX6) (T := TX6) (N := 7) hx hb hts hinX6_gainOf_X6 hown E.1 hP o (zO.get (oX6_at ho)) rfl 4 (by decide) (hts (.fieldLink RX6 42 "EdgeAndSpeed$Plan" "steel" "I") (by decide +kernel)) (fun _ h9 => h9) rfl dX6_gainOf_65 ?_
      obtain ⟨x10, h11, hf⟩ := zb1_e hf
      refine zgo_i (zrunV (As := [.int p2, .int x6, .int x8, .int (I o 4)]) (rest := []) S (c_X0_wears l hD 4 (zBat_C (by decide)) p2 x6 x8 (I o 4) h11) (cwV 4 hts gX6_gainOf_X0_wears rfl rfl rfl ddX0_wears ⟨Nat.le_trans (Nat.le_of_ble_eq_true rfl) hfr, Nat.le_trans (Nat.le_of_ble_eq_true rfl) hlo⟩) (va_recv E.1 hP (q := (RX0, TX0, 17)) (ci := 0) rfl (zO.get (zBat_o (zBat_C (by decide))))) E hP hS hl.1 rfl rfl (Nat.le_of_ble_eq_true rfl) dX6_gainOf_68) hS (fun H locs hP hS => ?_)
      refine lv_istore (lv' := [(6, .int x10), (5, .int y5), (0, .ref (ad o)), (1, .int p1), (2, .int p2), (3, .int p3), (4, .int p4)]) hx hb dX6_gainOf_71 hl (by decide) rfl (fun ls hl => ?_)
      refine lv_aload_n hx hb dX6_gainOf_73 rfl (lv_at hl 2 rfl) ?_
      refine lv_iload_n hx hb dX6_gainOf_74 rfl (lv_at hl 4 rfl) ?_
      refine lv_iload hx hb dX6_gainOf_75 (lv_at hl 1 rfl) ?_
      refine lv_iload hx hb dX6_gainOf_77 (lv_at hl 6 rfl) ?_
      refine lv_iload hx hb dX6_gainOf_79 (lv_at hl 0 rfl) ?_
      refine lv_aload_n hx hb dX6_gainOf_81 rfl (lv_at hl 2 rfl) ?_
      refine lv_iload_n hx hb dX6_gainOf_82 rfl (lv_at hl 4 rfl) ?_
      obtain ⟨u12, h13, hf⟩ := zb1_e hf
      refine zgo_l (zrunV (As := [.int p2]) (rest := [.int x10, .int p4, .int y5, .int p2, .ref (ad o)]) S (c_X6_ofBreaking l hD o ho p2 h13) (cwV 1 hts gX6_gainOf_X6_ofBreaking rfl rfl rfl ddX6_ofBreaking ⟨Nat.le_trans (Nat.le_of_ble_eq_true rfl) hfr, Nat.le_trans (Nat.le_of_ble_eq_true rfl) hlo⟩) (va_recv E.1 hP (q := (RX6, TX6, 7)) (ci := 5) rfl (zO.get (oX6_at ho))) E hP hS hl.1 rfl rfl (Nat.le_of_ble_eq_true rfl) dX6_gainOf_83) hS (fun H locs hP hS => ?_)
      obtain ⟨u14, h15, hf⟩ := zb1_e hf
      refine zgo_l (zrunV (As := [.int p2, .int y5, .int p4, .int x10, .long u12]) (rest := []) S (c_X6_comes l hD o ho p2 y5 p4 x10 u12 h15) (cwV 5 hts gX6_gainOf_X6_comes rfl rfl rfl ddX6_comes ⟨Nat.le_trans (Nat.le_of_ble_eq_true rfl) hfr, Nat.le_trans (Nat.le_of_ble_eq_true rfl) hlo⟩) (va_recv E.1 hP (q := (RX6, TX6, 7)) (ci := 5) rfl (zO.get (oX6_at ho))) E hP hS hl.1 rfl rfl (Nat.le_of_ble_eq_true rfl) dX6_gainOf_86) hS (fun H locs hP hS => ?_)
      refine lv_aload_n hx hb dX6_gainOf_89 rfl (lv_at hl 2 rfl) ?_
      refine lv_iload_n hx hb dX6_gainOf_90 rfl (lv_at hl 4 rfl) ?_
      refine lv_iload_n hx hb dX6_gainOf_91 rfl (lv_at hl 3 rfl) ?_
      obtain ⟨x16, h17, hf⟩ := zb1_e hf
      refine zgo_i (zrunSN (As := [.int p1]) (rest := [.int p2, .ref (ad o), .long u14]) S (c_X11_speedOf l hD p1 h17) ⟨va_cnB (host := "EdgeAndSpeed") 1 hts gX6_gainOf_X11_speedOf_n90 rfl rfl rfl (zNmw_7 E.2.2) (hts (.initialized RX11) (by decide +kernel)) ddX11_speedOf ⟨Nat.le_trans (Nat.le_of_ble_eq_true rfl) hfr, Nat.le_trans (Nat.le_of_ble_eq_true rfl) hlo⟩, hts (.static yX11_speedOf) (by decide +kernel), trivial⟩ E hP hS hl.1 rfl rfl (Nat.le_of_ble_eq_true rfl) dX6_gainOf_92) hS (fun H locs hP hS => ?_)
      obtain ⟨u18, h19, hf⟩ := zb1_e hf
      refine zgo_l (zrunV (As := [.int p2, .int x16]) (rest := [.long u14]) S (c_X6_ofTime l hD o ho p2 x16 h19) (cwV 2 hts gX6_gainOf_X6_ofTime rfl rfl rfl ddX6_ofTime ⟨Nat.le_trans (Nat.le_of_ble_eq_true rfl) hfr, Nat.le_trans (Nat.le_of_ble_eq_true rfl) hlo⟩) (va_recv E.1 hP (q := (RX6, TX6, 7)) (ci := 5) rfl (zO.get (oX6_at ho))) E hP hS hl.1 rfl rfl (Nat.le_of_ble_eq_true rfl) dX6_gainOf_95) hS (fun H locs hP hS => ?_)
      refine lv_ladd hx hb dX6_gainOf_98 ?_
      exact hret _ hf _ _ _ _ hP hS dX6_gainOf_99
    · replace hf := zt k2 hf
      refine lv_aload_n hx hb dX6_gainOf_25 rfl (lv_at hl 0 rfl) ?_
      refine va_get (D := D) (ci := 5) (v := .ref (a0 ((I o 3).toNatClampNeg))) (C := RX6) (T := TX6) (N := 7) hx hb hts hinX6_gainOf_X6 hown E.1 hP o (zO.get (oX6_at ho)) rfl 3 (by decide) (hts (.fieldLink RX6 25 "EdgeAndSpeed$Plan" "by" "LEdgeAndSpeed$Measure;") (by decide +kernel)) (fun _ h9 => h9) rfl dX6_gainOf_26 ?_
      obtain ⟨g20, hf⟩ := zg_i hf
      refine zgetfN hx hb ((E.2.1 _ g20).2.2 2 (by decide)) hS hown (zNfw_16 E.2.2) (fun _ h9 => h9) dX6_gainOf_29 ?_
      refine lv_aload_n hx hb dX6_gainOf_32 rfl (lv_at hl 0 rfl) ?_
      refine lv_iload_n hx hb dX6_gainOf_33 rfl (lv_at hl 2 rfl) ?_
      refine lv_iconst (v := 1) hx hb dX6_gainOf_34 (by decide) ?_
      refine lv_iadd hx hb dX6_gainOf_35 ?_
      refine lv_iload hx hb dX6_gainOf_36 (lv_at hl 4 rfl) ?_
      obtain ⟨u21, h22, hf⟩ := zb1_e hf
      refine zgo_l (zrunV (As := [.int (p2 + 1), .int p4]) (rest := [.long (zMv ((I o 3).toNatClampNeg) 2)]) S (c_X6_gainAtStart l hD o ho (p2 + 1) p4 h22) (cwV 2 hts gX6_gainOf_X6_gainAtStart rfl rfl rfl ddX6_gainAtStart ⟨Nat.le_trans (Nat.le_of_ble_eq_true rfl) hfr, Nat.le_trans (Nat.le_of_ble_eq_true rfl) hlo⟩) (va_recv E.1 hP (q := (RX6, TX6, 7)) (ci := 5) rfl (zO.get (oX6_at ho))) E hP hS hl.1 rfl rfl (Nat.le_of_ble_eq_true rfl) dX6_gainOf_38) hS (fun H locs hP hS => ?_)
      refine lv_ladd hx hb dX6_gainOf_41 ?_
      exact hret _ hf _ _ _ _ hP hS dX6_gainOf_42
  · replace hf := zt k1 hf
    refine lv_aload_n hx hb dX6_gainOf_6 rfl (lv_at hl 0 rfl) ?_
    refine lv_iload_n hx hb dX6_gainOf_7 rfl (lv_at hl 2 rfl) ?_
    refine lv_iload_n hx hb dX6_gainOf_8 rfl (lv_at hl 3 rfl) ?_
    refine lv_iconst (v := 0) hx hb dX6_gainOf_9 (by decide) ?_
    obtain ⟨u23, h24, hf⟩ := zb1_e hf
    refine zgo_l (zrunV (As := [.int p2, .int p3, .int 0]) (rest := []) S (c_X6_gainAt l hD o ho p2 p3 0 h24) (cwV 3 hts gX6_gainOf_X6_gainAt rfl rfl rfl ddX6_gainAt ⟨Nat.le_trans (Nat.le_of_ble_eq_true rfl) hfr, Nat.le_trans (Nat.le_of_ble_eq_true rfl) hlo⟩) (va_recv E.1 hP (q := (RX6, TX6, 7)) (ci := 5) rfl (zO.get (oX6_at ho))) E hP hS hl.1 rfl rfl (Nat.le_of_ble_eq_true rfl) dX6_gainOf_10) hS (fun H locs hP hS => ?_)
    refine lv_aload_n hx hb dX6_gainOf_13 rfl (lv_at hl 0 rfl) ?_
    refine va_get (D := D) (ci := 5) (v := .long (J o 5)) (C := RX6) (T := TX6) (N := 7) hx hb hts hinX6_gainOf_X6 hown E.1 hP o (zO.get (oX6_at ho)) rfl 5 (by decide) (hts (.fieldLink RX6 60 "EdgeAndSpeed$Plan" "ofChange" "J") (by decide +kernel)) (fun _ h9 => h9) rfl dX6_gainOf_14 ?_
    refine lv_ladd hx hb dX6_gainOf_17 ?_
    exact hret _ hf _ _ _ _ hP hS dX6_gainOf_18
theorem c_X6_gainOf (l : Launch) {D : va_G} {a0 : Nat → Nat} {A : Nat → Prop} {cy : Nat → ClassId} {ad : Nat → Nat} (hD : zD A 74 ad) {I : zI} {J : zJ} (o : Nat) (ho : zPn o) (p1 : Int32) (p2 : Int32) (p3 : Int32) (p4 : Int32) {rx : Int64} (hf : f_X6_gainOf I J o p1 p2 p3 p4 = some rx) : Met l yX6_gainOf wsX6_gainOf { frames := 4, cells := 0, slots := 0, locals := 97 } (zPc D a0 A cy [.ref (ad o), .int p1, .int p2, .int p3, .int p4] (zw 74 (kC cy ad a0) ad I J)) (zQl D A rx (zw 74 (kC cy ad a0) ad I J)) 0 0 A :=
  zmet RX6 (by decide) rfl rfl (Nat.le_of_ble_eq_true rfl) (fun p e R s m below meth c Q hfr hlo ls S0 hQ => w_X6_gainOf hfr hlo hD o ho p1 p2 p3 p4 hf S0 (fun tx hq H locs ls pc hP hS hd => by cases hq; exact hQ H locs _ hS (fun hx hb hr hlocks hfree => W.lret hx hb hr (fun t ht hW => ⟨⟨_, (), rfl, rfl, zht ht hP⟩, hS.F ht⟩) hfree hd hlocks)))
theorem ddX6_gainOf : yX6_gainOf.cls = RX6 ∧ yX6_gainOf.cls ≠ "java/lang/invoke/MethodHandle" ∧ yX6_gainOf.cls ≠ "java/lang/invoke/VarHandle" ∧ (parseMethodDescriptor yX6_gainOf.desc).map (fun d => d.parameters.length) = some 4 := by decide +kernel

def f_X6_setGain (I : zI) (J : zJ) (o : Nat) (p1 : Int32) (p2 : Int32) (p3 : Int32) (p4 : Int64) : Option zJ := zb1 (f_X6_placeOf I J p1 p2 p3) (fun x1 => (if x1 < 0 then some J else (if 6464 ≤ x1 then some J else zg (¬ (x1 < 0 ∨ 6464 ≤ x1.toNatClampNeg)) (zn (va_up J (o + 1) (vp_updL (J (o + 1)) x1.toNatClampNeg p4)) (fun J5 => some J5)))))
theorem hinX6_setGain_X6 : ∀ w ∈ u_ws RX6 TX6 7, w ∈ wsX6_setGain := by decide +kernel
set_option maxHeartbeats 4000000 in
set_option maxRecDepth 100000 in
theorem w_X6_setGain {p : Program} {l : Launch} {e : Env} {R : Room} {s : State} {m : MethodId} {args : Array Value} {below : List Frame} {meth : Method} {c : Code} {Q : State → Prop} (hfr : 1 ≤ R.frames) (hlo : 22 ≤ R.locals) {D : va_G} {a0 : Nat → Nat} {A : Nat → Prop} {cy : Nat → ClassId} {ad : Nat → Nat} (hD : zD A 74 ad) {I : zI} {J : zJ} (o : Nat) (ho : zPn o) (p1 : Int32) (p2 : Int32) (p3 : Int32) (p4 : Int64) {rJ : zJ} (hf : f_X6_setGain I J o p1 p2 p3 p4 = some rJ) {ls : Array Slot} (S0 : zSt p m c cX6_setGain 7 s args wsX6_setGain RX6 D a0 A cy (zw 74 (kC cy ad a0) ad I J) [.ref (ad o), .int p1, .int p2, .int p3, .long p4] ls) (hret : ∀ (tJ : zJ), some tJ = some rJ → ∀ (H : Heap) (locs : List Loc) (ls : Array Slot) (pc : Nat), va_P D vwCl (zw 74 (kC cy ad a0) ad I tJ) H → va_S A s.heap H locs → decode cX6_setGain pc = .ok (.return_, 1) → W p l e R s m args below meth c H locs 0 0 Q (F0 m pc ls [])) : W p l e R s m args below meth c s.heap [] 0 0 Q (F0 m 0 ls []) := by
  obtain ⟨S, E, hP, hl⟩ := S0
  obtain ⟨hx, hb, hml, hown, hts⟩ := id S
  have hS : va_S A s.heap s.heap [] := va_S.rf
  replace hl : lv_has ls 7 [(0, .ref (ad o)), (1, .int p1), (2, .int p2), (3, .int p3), (4, .long p4)] := hl
  unfold f_X6_setGain at hf
  refine lv_iload_n hx hb dX6_setGain_0 rfl (lv_at hl 1 rfl) ?_
  refine lv_iload_n hx hb dX6_setGain_1 rfl (lv_at hl 2 rfl) ?_
  refine lv_iload_n hx hb dX6_setGain_2 rfl (lv_at hl 3 rfl) ?_
  obtain ⟨x1, h2, hf⟩ := zb1_e hf
  refine zgo_i (zrunS (As := [.int p1, .int p2, .int p3]) (rest := []) S (c_X6_placeOf l hD p1 p2 p3 h2) (va_cwS 3 hts gX6_setGain_X6_placeOf rfl rfl rfl ddX6_placeOf ⟨Nat.le_trans (Nat.le_of_ble_eq_true rfl) hfr, Nat.le_trans (Nat.le_of_ble_eq_true rfl) hlo⟩) E hP hS hl.1 rfl rfl (Nat.le_of_ble_eq_true rfl) dX6_setGain_3) hS (fun H locs hP hS => ?_)
  refine lv_istore (lv' := [(6, .int x1), (0, .ref (ad o)), (1, .int p1), (2, .int p2), (3, .int p3), (4, .long p4)]) hx hb dX6_setGain_6 hl (by decide) rfl (fun ls hl => ?_)
  refine lv_iload hx hb dX6_setGain_8 (lv_at hl 0 rfl) ?_
  refine lv_if_lt (tgt := 32) hx hb dX6_setGain_10 (by decide) (fun k3 => ?_) (fun k3 => ?_)
  · replace hf := zt k3 hf
    exact hret _ hf _ _ _ _ hP hS dX6_setGain_32
  · replace hf := zf k3 hf
    refine lv_iload hx hb dX6_setGain_13 (lv_at hl 0 rfl) ?_
    refine lv_aload_n hx hb dX6_setGain_15 rfl (lv_at hl 1 rfl) ?_
    refine va_get (D := D) (ci := 5) (v := .ref (ad (o + 1))) (C := RX6) (T := TX6) (N := 7) hx hb hts hinX6_setGain_X6 hown E.1 hP o (zO.get (oX6_at ho)) rfl 1 (by decide) (hts (.fieldLink RX6 9 "EdgeAndSpeed$Plan" "gains" "[J") (by decide +kernel)) (fun _ h9 => h9) rfl dX6_setGain_16 ?_
    refine va_alen (v := 6464) (ty := .long) hx hb E.1 hP (o + 1) 2 (zLA.get (aX6_1 ho)) rfl rfl dX6_setGain_19 ?_
    refine lv_icmp_ge (tgt := 32) hx hb dX6_setGain_20 (by decide) (fun k4 => ?_) (fun k4 => ?_)
    · replace hf := zt k4 hf
      exact hret _ hf _ _ _ _ hP hS dX6_setGain_32
    · replace hf := zf k4 hf
      refine lv_aload_n hx hb dX6_setGain_23 rfl (lv_at hl 1 rfl) ?_
      refine va_get (D := D) (ci := 5) (v := .ref (ad (o + 1))) (C := RX6) (T := TX6) (N := 7) hx hb hts hinX6_setGain_X6 hown E.1 hP o (zO.get (oX6_at ho)) rfl 1 (by decide) (hts (.fieldLink RX6 9 "EdgeAndSpeed$Plan" "gains" "[J") (by decide +kernel)) (fun _ h9 => h9) rfl dX6_setGain_24 ?_
      refine lv_iload hx hb dX6_setGain_27 (lv_at hl 0 rfl) ?_
      refine lv_lload hx hb dX6_setGain_29 (lv_at hl 5 rfl) ?_
      obtain ⟨g6, hf⟩ := zg_i hf
      obtain ⟨J5, eJ5⟩ := zex (va_up J (o + 1) (vp_updL (J (o + 1)) x1.toNatClampNeg p4))
      replace hf := zn_s eJ5 hf
      refine zast_l hx hb E.1 hP hD.D hS (aX6_1 ho) g6 dX6_setGain_31 eJ5 (fun H locs hP hS => ?_)
      exact hret _ hf _ _ _ _ hP hS dX6_setGain_32
theorem c_X6_setGain (l : Launch) {D : va_G} {a0 : Nat → Nat} {A : Nat → Prop} {cy : Nat → ClassId} {ad : Nat → Nat} (hD : zD A 74 ad) {I : zI} {J : zJ} (o : Nat) (ho : zPn o) (p1 : Int32) (p2 : Int32) (p3 : Int32) (p4 : Int64) {rJ : zJ} (hf : f_X6_setGain I J o p1 p2 p3 p4 = some rJ) : Met l yX6_setGain wsX6_setGain { frames := 1, cells := 0, slots := 0, locals := 22 } (zPc D a0 A cy [.ref (ad o), .int p1, .int p2, .int p3, .long p4] (zw 74 (kC cy ad a0) ad I J)) (zQv D A (zw 74 (kC cy ad a0) ad I rJ)) 0 0 A :=
  zmet RX6 (by decide) rfl rfl (Nat.le_of_ble_eq_true rfl) (fun p e R s m below meth c Q hfr hlo ls S0 hQ => w_X6_setGain hfr hlo hD o ho p1 p2 p3 p4 hf S0 (fun tJ hq H locs ls pc hP hS hd => by cases hq; exact hQ H locs _ hS (fun hx hb hr hlocks hfree => W.vret hx hb hr (fun t ht hW => ⟨⟨(), rfl, trivial, zht ht hP⟩, hS.F ht⟩) hfree hd hlocks)))
theorem ddX6_setGain : yX6_setGain.cls = RX6 ∧ yX6_setGain.cls ≠ "java/lang/invoke/MethodHandle" ∧ yX6_setGain.cls ≠ "java/lang/invoke/VarHandle" ∧ (parseMethodDescriptor yX6_setGain.desc).map (fun d => d.parameters.length) = some 4 := by decide +kernel

def f_X10_gain_L47 (I1 : zI) (x6 : Int32) (x10 : Int32) (x16 : Int32) (J17 : zJ) : Option ((Int32 × zJ) ⊕ zJ) := (if 100 < x16 then some (.inr J17) else zb1 (f_X6_actAt I1 J17 71 x6 x10 x16) (fun x19 => (if x19 = (-1) then zn (x16 + 1) (fun y22 => some (.inl (y22, J17))) else zb1 (f_X6_gainOf I1 J17 71 x19 x6 x10 x16) (fun u23 => zb1 (f_X6_setGain I1 J17 71 x6 x10 x16 u23) (fun J25 => zn (x16 + 1) (fun y27 => some (.inl (y27, J25))))))))
def f_X10_gain_L32 (I1 : zI) (x6 : Int32) (x10 : Int32) (J11 : zJ) : Option ((Int32 × zJ) ⊕ zJ) := zb1 (f_X0_stepsOf I1 J11 4 x6) (fun x12 => (if x12 < x10 then some (.inr J11) else zb1 (zl (fun v : (Int32 × zJ) => f_X10_gain_L47 I1 x6 x10 v.1 v.2) zF (0, J11)) (fun J28 => zn (x10 + 1) (fun y29 => some (.inl (y29, J28))))))
def f_X10_gain_L22 (I1 : zI) (x6 : Int32) (J7 : zJ) : Option ((Int32 × zJ) ⊕ zJ) := (if x6 < (I1 37 6) then some (.inr J7) else zb1 (zl (fun v : (Int32 × zJ) => f_X10_gain_L32 I1 x6 v.1 v.2) zF (1, J7)) (fun J30 => zn (x6 + (-1)) (fun y31 => some (.inl (y31, J30)))))
def f_X10_gain (I : zI) (J : zJ) (p1 : Nat) : Option (Int64 × zI × zJ) := zb2 (f_X6_measure I J 71 p1 (I 37 5)) (fun I1 J2 => zn (((I1 4 10) - 1)) (fun y4 => zb1 (zl (fun v : (Int32 × zJ) => f_X10_gain_L22 I1 v.1 v.2) zF (y4, J2)) (fun J32 => zb1 (f_X6_gainAt I1 J32 71 (I1 37 6) (I1 37 7) (I1 37 8)) (fun u33 => some (u33, I1, J32)))))
theorem hinX10_gain_X10 : ∀ w ∈ u_ws RX10 TX10 9, w ∈ wsX10_gain := by decide +kernel
theorem hinX10_gain_X0 : ∀ w ∈ u_ws RX0 TX0 17, w ∈ wsX10_gain := by decide +kernel
set_option maxHeartbeats 4000000 in
set_option maxRecDepth 100000 in
theorem w_X10_gain {p : Program} {l : Launch} {e : Env} {R : Room} {s : State} {m : MethodId} {args : Array Value} {below : List Frame} {meth : Method} {c : Code} {Q : State → Prop} (hfr : 5 ≤ R.frames) (hlo : 123 ≤ R.locals) {D : va_G} {a0 : Nat → Nat} {A : Nat → Prop} {cy : Nat → ClassId} {ad : Nat → Nat} (hD : zD A 74 ad) {I : zI} {J : zJ} (p1 : Nat) {rx : Int64} {rI : zI} {rJ : zJ} (hf : f_X10_gain I J p1 = some (rx, rI, rJ)) {ls : Array Slot} (S0 : zSt p m c cX10_gain 6 s args wsX10_gain RX10 D a0 A cy (zw 74 (kC cy ad a0) ad I J) [.ref (ad 37), .ref (a0 p1)] ls) (hret : ∀ (tx : Int64) (tI : zI) (tJ : zJ), some (tx, tI, tJ) = some (rx, rI, rJ) → ∀ (H : Heap) (locs : List Loc) (ls : Array Slot) (pc : Nat), va_P D vwCl (zw 74 (kC cy ad a0) ad tI tJ) H → va_S A s.heap H locs → decode cX10_gain pc = .ok (.lreturn, 1) → W p l e R s m args below meth c H locs 0 0 Q (F0 m pc ls [.long tx])) : W p l e R s m args below meth c s.heap [] 0 0 Q (F0 m 0 ls []) := by
  obtain ⟨S, E, hP, hl⟩ := S0
  obtain ⟨hx, hb, hml, hown, hts⟩ := id S
  have hS : va_S A s.heap s.heap [] := va_S.rf
  replace hl : lv_has ls 6 [(0, .ref (ad 37)), (1, .ref (a0 p1))] := hl
  unfold f_X10_gain at hf
  refine lv_aload_n hx hb dX10_gain_0 rfl (lv_at hl 0 rfl) ?_
  refine va_get (D := D) (ci := 9) (v := .ref (ad 71)) (C := RX10) (T := TX10) (N := 9) hx hb hts hinX10_gain_X10 hown E.1 hP 37 (zO.get (oX10_at)) rfl 2 (by decide) (hts (.fieldLink RX10 24 "EdgeAndSpeed$Walk" "plan" "LEdgeAndSpeed$Plan;") (by decide +kernel)) (fun _ h9 => h9) rfl dX10_gain_1 ?_
  refine lv_aload_n hx hb dX10_gain_4 rfl (lv_at hl 1 rfl) ?_
  refine lv_aload_n hx hb dX10_gain_5 rfl (lv_at hl 0 rfl) ?_
  refine va_get (D := D) (ci := 9) (v := .int (I 37 5)) (C := RX10) (T := TX10) (N := 9) hx hb hts hinX10_gain_X10 hown E.1 hP 37 (zO.get (oX10_at)) rfl 5 (by decide) (hts (.fieldLink RX10 35 "EdgeAndSpeed$Walk" "steel" "I") (by decide +kernel)) (fun _ h9 => h9) rfl dX10_gain_6 ?_
  obtain ⟨I1, J2, h3, hf⟩ := zb2_e hf
  refine zgo_v (zrunV (As := [.ref (a0 p1), .int (I 37 5)]) (rest := []) S (c_X6_measure l hD 71 (by decide) p1 (I 37 5) h3) (cwV 2 hts gX10_gain_X6_measure rfl rfl rfl ddX6_measure ⟨Nat.le_trans (Nat.le_of_ble_eq_true rfl) hfr, Nat.le_trans (Nat.le_of_ble_eq_true rfl) hlo⟩) (va_recv E.1 hP (q := (RX6, TX6, 7)) (ci := 5) rfl (zO.get (oX6_at (by decide)))) E hP hS hl.1 rfl rfl (Nat.le_of_ble_eq_true rfl) dX10_gain_9) hS (fun H locs hP hS => ?_)
  refine lv_aload_n hx hb dX10_gain_12 rfl (lv_at hl 0 rfl) ?_
  refine va_get (D := D) (ci := 9) (v := .ref (ad 4)) (C := RX10) (T := TX10) (N := 9) hx hb hts hinX10_gain_X10 hown E.1 hP 37 (zO.get (oX10_at)) rfl 0 (by decide) (hts (.fieldLink RX10 9 "EdgeAndSpeed$Walk" "bench" "LEdgeAndSpeed$Bench;") (by decide +kernel)) (fun _ h9 => h9) rfl dX10_gain_13 ?_
  refine va_getN (D := D) (ci := 0) (v := .int (I1 4 10)) (C := RX0) (T := TX0) (N := 17) hx hb hts hinX10_gain_X0 hown E.1 hP 4 (zO.get (zBat_o (zBat_C (by decide)))) rfl 10 (by decide) (zNfw_4 E.2.2) (fun _ h9 => h9) rfl dX10_gain_16 ?_
  refine lv_iconst (v := 1) hx hb dX10_gain_19 (by decide) ?_
  refine lv_isub hx hb dX10_gain_20 ?_
  refine lv_topi (fun y4 ey4 => ?_)
  replace hf := zn_s ey4 hf
  refine lv_istore_n (lv' := [(2, .int y4), (0, .ref (ad 37)), (1, .ref (a0 p1))]) hx hb dX10_gain_21 rfl hl (by decide) rfl (fun ls hl => ?_)
  obtain ⟨zl5, hf, hzl5⟩ := zb1_i hf
  have hjl5 : ∀ (J32 : zJ), J32 = zl5 → ∀ (H : Heap) (locs : List Loc) (ls : Array Slot), va_P D vwCl (zw 74 (kC cy ad a0) ad I1 J32) H → va_S A s.heap H locs → lv_has ls 6 [(0, .ref (ad 37))] → W p l e R s m args below meth c H locs 0 0 Q (F0 m 115 ls []) := by
    intro J32 ez H locs ls hP hS hl
    have hf := hzl5 J32 ez
    refine lv_aload_n hx hb dX10_gain_115 rfl (lv_at hl 0 rfl) ?_
    refine va_get (D := D) (ci := 9) (v := .ref (ad 71)) (C := RX10) (T := TX10) (N := 9) hx hb hts hinX10_gain_X10 hown E.1 hP 37 (zO.get (oX10_at)) rfl 2 (by decide) (hts (.fieldLink RX10 24 "EdgeAndSpeed$Walk" "plan" "LEdgeAndSpeed$Plan;") (by decide +kernel)) (fun _ h9 => h9) rfl dX10_gain_116 ?_
    refine lv_aload_n hx hb dX10_gain_119 rfl (lv_at hl 0 rfl) ?_
    refine va_get (D := D) (ci := 9) (v := .int (I1 37 6)) (C := RX10) (T := TX10) (N := 9) hx hb hts hinX10_gain_X10 hown E.1 hP 37 (zO.get (oX10_at)) rfl 6 (by decide) (hts (.fieldLink RX10 38 "EdgeAndSpeed$Walk" "piece" "I") (by decide +kernel)) (fun _ h9 => h9) rfl dX10_gain_120 ?_
    refine lv_aload_n hx hb dX10_gain_123 rfl (lv_at hl 0 rfl) ?_
    refine va_get (D := D) (ci := 9) (v := .int (I1 37 7)) (C := RX10) (T := TX10) (N := 9) hx hb hts hinX10_gain_X10 hown E.1 hP 37 (zO.get (oX10_at)) rfl 7 (by decide) (hts (.fieldLink RX10 41 "EdgeAndSpeed$Walk" "left" "I") (by decide +kernel)) (fun _ h9 => h9) rfl dX10_gain_124 ?_
    refine lv_aload_n hx hb dX10_gain_127 rfl (lv_at hl 0 rfl) ?_
    refine va_get (D := D) (ci := 9) (v := .int (I1 37 8)) (C := RX10) (T := TX10) (N := 9) hx hb hts hinX10_gain_X10 hown E.1 hP 37 (zO.get (oX10_at)) rfl 8 (by decide) (hts (.fieldLink RX10 44 "EdgeAndSpeed$Walk" "wear" "I") (by decide +kernel)) (fun _ h9 => h9) rfl dX10_gain_128 ?_
    obtain ⟨u33, h34, hf⟩ := zb1_e hf
    refine zgo_l (zrunV (As := [.int (I1 37 6), .int (I1 37 7), .int (I1 37 8)]) (rest := []) S (c_X6_gainAt l hD 71 (by decide) (I1 37 6) (I1 37 7) (I1 37 8) h34) (cwV 3 hts gX10_gain_X6_gainAt rfl rfl rfl ddX6_gainAt ⟨Nat.le_trans (Nat.le_of_ble_eq_true rfl) hfr, Nat.le_trans (Nat.le_of_ble_eq_true rfl) hlo⟩) (va_recv E.1 hP (q := (RX6, TX6, 7)) (ci := 5) rfl (zO.get (oX6_at (by decide)))) E hP hS hl.1 rfl rfl (Nat.le_of_ble_eq_true rfl) dX10_gain_131) hS (fun H locs hP hS => ?_)
    exact hret _ _ _ hf _ _ _ _ hP hS dX10_gain_134
  refine zl_i (V := (Int32 × zJ)) (P := fun v => ∀ (H : Heap) (locs : List Loc) (ls : Array Slot), va_P D vwCl (zw 74 (kC cy ad a0) ad I1 v.2) H → va_S A s.heap H locs → lv_has ls 6 [(0, .ref (ad 37)), (2, .int (v.1))] → W p l e R s m args below meth c H locs 0 0 Q (F0 m 22 ls [])) ?_ _ _ hf _ _ _ hP hS (lv_sub hl [1, 0] rfl)
  intro v z hf hcl5 hdl5
  obtain ⟨x6, J7⟩ := v
  intro H locs ls hP hS hl
  replace hf : f_X10_gain_L22 I1 x6 J7 = some z := hf
  unfold f_X10_gain_L22 at hf
  replace hP : va_P D vwCl (zw 74 (kC cy ad a0) ad I1 J7) H := hP
  replace hl : lv_has ls 6 [(0, .ref (ad 37)), (2, .int x6)] := hl
  refine lv_iload_n hx hb dX10_gain_22 rfl (lv_at hl 1 rfl) ?_
  refine lv_aload_n hx hb dX10_gain_23 rfl (lv_at hl 0 rfl) ?_
  refine va_get (D := D) (ci := 9) (v := .int (I1 37 6)) (C := RX10) (T := TX10) (N := 9) hx hb hts hinX10_gain_X10 hown E.1 hP 37 (zO.get (oX10_at)) rfl 6 (by decide) (hts (.fieldLink RX10 38 "EdgeAndSpeed$Walk" "piece" "I") (by decide +kernel)) (fun _ h9 => h9) rfl dX10_gain_24 ?_
  refine lv_icmp_lt (tgt := 115) hx hb dX10_gain_27 (by decide) (fun k8 => ?_) (fun k8 => ?_)
  · replace hf := zt k8 hf
    exact hjl5 _ (hdl5 _ (Option.some.inj hf).symm) _ _ _ hP hS (lv_sub hl [0] rfl)
  · replace hf := zf k8 hf
    refine lv_iconst (v := 1) hx hb dX10_gain_30 (by decide) ?_
    refine lv_istore_n (lv' := [(3, .int 1), (0, .ref (ad 37)), (2, .int x6)]) hx hb dX10_gain_31 rfl hl (by decide) rfl (fun ls hl => ?_)
    obtain ⟨zl9, hf, hzl9⟩ := zb1_i hf
    have hjl9 : ∀ (J30 : zJ), J30 = zl9 → ∀ (H : Heap) (locs : List Loc) (ls : Array Slot), va_P D vwCl (zw 74 (kC cy ad a0) ad I1 J30) H → va_S A s.heap H locs → lv_has ls 6 [(0, .ref (ad 37)), (2, .int x6)] → W p l e R s m args below meth c H locs 0 0 Q (F0 m 109 ls []) := by
      intro J30 ez H locs ls hP hS hl
      have hf := hzl9 J30 ez
      obtain ⟨y31, ey31⟩ := zex (x6 + (-1))
      replace hf := zn_s ey31 hf
      refine lv_iinc (v := y31) (lv' := [(2, .int y31), (0, .ref (ad 37))]) hx hb dX10_gain_109 hl (k := 1) rfl (by rw [ey31]; rfl) (by decide) rfl (fun ls hl => ?_)
      refine lv_goto (tgt := 22) hx hb dX10_gain_112 (by decide) ?_
      exact hcl5 _ (Option.some.inj hf).symm _ _ _ hP hS (lv_sub hl [1, 0] rfl)
    refine zl_i (V := (Int32 × zJ)) (P := fun v => ∀ (H : Heap) (locs : List Loc) (ls : Array Slot), va_P D vwCl (zw 74 (kC cy ad a0) ad I1 v.2) H → va_S A s.heap H locs → lv_has ls 6 [(0, .ref (ad 37)), (2, .int x6), (3, .int (v.1))] → W p l e R s m args below meth c H locs 0 0 Q (F0 m 32 ls [])) ?_ _ _ hf _ _ _ hP hS (lv_sub hl [1, 2, 0] rfl)
    intro v z hf hcl9 hdl9
    obtain ⟨x10, J11⟩ := v
    intro H locs ls hP hS hl
    replace hf : f_X10_gain_L32 I1 x6 x10 J11 = some z := hf
    unfold f_X10_gain_L32 at hf
    replace hP : va_P D vwCl (zw 74 (kC cy ad a0) ad I1 J11) H := hP
    replace hl : lv_has ls 6 [(0, .ref (ad 37)), (2, .int x6), (3, .int x10)] := hl
    refine lv_iload_n hx hb dX10_gain_32 rfl (lv_at hl 2 rfl) ?_
    refine lv_aload_n hx hb dX10_gain_33 rfl (lv_at hl 0 rfl) ?_
    refine va_get (D := D) (ci := 9) (v := .ref (ad 4)) (C := RX10) (T := TX10) (N := 9) hx hb hts hinX10_gain_X10 hown E.1 hP 37 (zO.get (oX10_at)) rfl 0 (by decide) (hts (.fieldLink RX10 9 "EdgeAndSpeed$Walk" "bench" "LEdgeAndSpeed$Bench;") (by decide +kernel)) (fun _ h9 => h9) rfl dX10_gain_34 ?_
    refine lv_iload_n hx hb dX10_gain_37 rfl (lv_at hl 1 rfl) ?_
    obtain ⟨x12, h13, hf⟩ := zb1_e hf
    refine zgo_i (zrunV (As := [.int x6]) (rest := [.int x10]) S (c_X0_stepsOf l hD 4 (zBat_C (by decide)) x6 h13) (cwV 1 hts gX10_gain_X0_stepsOf rfl rfl rfl ddX0_stepsOf ⟨Nat.le_trans (Nat.le_of_ble_eq_true rfl) hfr, Nat.le_trans (Nat.le_of_ble_eq_true rfl) hlo⟩) (va_recv E.1 hP (q := (RX0, TX0, 17)) (ci := 0) rfl (zO.get (zBat_o (zBat_C (by decide))))) E hP hS hl.1 rfl rfl (Nat.le_of_ble_eq_true rfl) dX10_gain_38) hS (fun H locs hP hS => ?_)
    refine lv_icmp_gt (tgt := 109) hx hb dX10_gain_41 (by decide) (fun k14 => ?_) (fun k14 => ?_)
    · replace hf := zt k14 hf
      exact hjl9 _ (hdl9 _ (Option.some.inj hf).symm) _ _ _ hP hS (lv_sub hl [0, 1] rfl)
    · replace hf := zf k14 hf
      refine lv_iconst (v := 0) hx hb dX10_gain_44 (by decide) ?_
      refine lv_istore (lv' := [(4, .int 0), (0, .ref (ad 37)), (2, .int x6), (3, .int x10)]) hx hb dX10_gain_45 hl (by decide) rfl (fun ls hl => ?_)
      obtain ⟨zl15, hf, hzl15⟩ := zb1_i hf
      have hjl15 : ∀ (J28 : zJ), J28 = zl15 → ∀ (H : Heap) (locs : List Loc) (ls : Array Slot), va_P D vwCl (zw 74 (kC cy ad a0) ad I1 J28) H → va_S A s.heap H locs → lv_has ls 6 [(0, .ref (ad 37)), (2, .int x6), (3, .int x10)] → W p l e R s m args below meth c H locs 0 0 Q (F0 m 103 ls []) := by
        intro J28 ez H locs ls hP hS hl
        have hf := hzl15 J28 ez
        obtain ⟨y29, ey29⟩ := zex (x10 + 1)
        replace hf := zn_s ey29 hf
        refine lv_iinc (v := y29) (lv' := [(3, .int y29), (0, .ref (ad 37)), (2, .int x6)]) hx hb dX10_gain_103 hl (k := 2) rfl (by rw [ey29]; rfl) (by decide) rfl (fun ls hl => ?_)
        refine lv_goto (tgt := 32) hx hb dX10_gain_106 (by decide) ?_
        exact hcl9 _ (Option.some.inj hf).symm _ _ _ hP hS (lv_sub hl [1, 2, 0] rfl)
      refine zl_i (V := (Int32 × zJ)) (P := fun v => ∀ (H : Heap) (locs : List Loc) (ls : Array Slot), va_P D vwCl (zw 74 (kC cy ad a0) ad I1 v.2) H → va_S A s.heap H locs → lv_has ls 6 [(0, .ref (ad 37)), (2, .int x6), (3, .int x10), (4, .int (v.1))] → W p l e R s m args below meth c H locs 0 0 Q (F0 m 47 ls [])) ?_ _ _ hf _ _ _ hP hS (lv_sub hl [1, 2, 3, 0] rfl)
      intro v z hf hcl15 hdl15
      obtain ⟨x16, J17⟩ := v
      intro H locs ls hP hS hl
      replace hf : f_X10_gain_L47 I1 x6 x10 x16 J17 = some z := hf
      unfold f_X10_gain_L47 at hf
      replace hP : va_P D vwCl (zw 74 (kC cy ad a0) ad I1 J17) H := hP
      replace hl : lv_has ls 6 [(0, .ref (ad 37)), (2, .int x6), (3, .int x10), (4, .int x16)] := hl
      refine lv_iload hx hb dX10_gain_47 (lv_at hl 3 rfl) ?_
      refine lv_bipush (v := 100) hx hb dX10_gain_49 (by decide) ?_
      refine lv_icmp_gt (tgt := 103) hx hb dX10_gain_51 (by decide) (fun k18 => ?_) (fun k18 => ?_)
      · replace hf := zt k18 hf
        exact hjl15 _ (hdl15 _ (Option.some.inj hf).symm) _ _ _ hP hS (lv_sub hl [0, 1, 2] rfl)
      · replace hf := zf k18 hf
        refine lv_aload_n hx hb dX10_gain_54 rfl (lv_at hl 0 rfl) ?_
        refine va_get (D := D) (ci := 9) (v := .ref (ad 71)) (C := RX10) (T := TX10) (N := 9) hx hb hts hinX10_gain_X10 hown E.1 hP 37 (zO.get (oX10_at)) rfl 2 (by decide) (hts (.fieldLink RX10 24 "EdgeAndSpeed$Walk" "plan" "LEdgeAndSpeed$Plan;") (by decide +kernel)) (fun _ h9 => h9) rfl dX10_gain_55 ?_
        refine lv_iload_n hx hb dX10_gain_58 rfl (lv_at hl 1 rfl) ?_
        refine lv_iload_n hx hb dX10_gain_59 rfl (lv_at hl 2 rfl) ?_
        refine lv_iload hx hb dX10_gain_60 (lv_at hl 3 rfl) ?_
        obtain ⟨x19, h20, hf⟩ := zb1_e hf
        refine zgo_i (zrunV (As := [.int x6, .int x10, .int x16]) (rest := []) S (c_X6_actAt l hD 71 (by decide) x6 x10 x16 h20) (cwV 3 hts gX10_gain_X6_actAt rfl rfl rfl ddX6_actAt ⟨Nat.le_trans (Nat.le_of_ble_eq_true rfl) hfr, Nat.le_trans (Nat.le_of_ble_eq_true rfl) hlo⟩) (va_recv E.1 hP (q := (RX6, TX6, 7)) (ci := 5) rfl (zO.get (oX6_at (by decide)))) E hP hS hl.1 rfl rfl (Nat.le_of_ble_eq_true rfl) dX10_gain_62) hS (fun H locs hP hS => ?_)
        refine lv_istore (lv' := [(5, .int x19), (0, .ref (ad 37)), (2, .int x6), (3, .int x10), (4, .int x16)]) hx hb dX10_gain_65 hl (by decide) rfl (fun ls hl => ?_)
        refine lv_iload hx hb dX10_gain_67 (lv_at hl 0 rfl) ?_
        refine lv_iconst (v := (-1)) hx hb dX10_gain_69 (by decide) ?_
        refine lv_icmp_eq (tgt := 97) hx hb dX10_gain_70 (by decide) (fun k21 => ?_) (fun k21 => ?_)
        · replace hf := zt k21 hf
          obtain ⟨y22, ey22⟩ := zex (x16 + 1)
          replace hf := zn_s ey22 hf
          refine lv_iinc (v := y22) (lv' := [(4, .int y22), (5, .int x19), (0, .ref (ad 37)), (2, .int x6), (3, .int x10)]) hx hb dX10_gain_97 hl (k := 4) rfl (by rw [ey22]; rfl) (by decide) rfl (fun ls hl => ?_)
          refine lv_goto (tgt := 47) hx hb dX10_gain_100 (by decide) ?_
          exact hcl15 _ (Option.some.inj hf).symm _ _ _ hP hS (lv_sub hl [2, 3, 4, 0] rfl)
        · replace hf := zf k21 hf
          refine lv_aload_n hx hb dX10_gain_73 rfl (lv_at hl 1 rfl) ?_
          refine va_get (D := D) (ci := 9) (v := .ref (ad 71)) (C := RX10) (T := TX10) (N := 9) hx hb hts hinX10_gain_X10 hown E.1 hP 37 (zO.get (oX10_at)) rfl 2 (by decide) (hts (.fieldLink RX10 24 "EdgeAndSpeed$Walk" "plan" "LEdgeAndSpeed$Plan;") (by decide +kernel)) (fun _ h9 => h9) rfl dX10_gain_74 ?_
          refine lv_iload_n hx hb dX10_gain_77 rfl (lv_at hl 2 rfl) ?_
          refine lv_iload_n hx hb dX10_gain_78 rfl (lv_at hl 3 rfl) ?_
          refine lv_iload hx hb dX10_gain_79 (lv_at hl 4 rfl) ?_
          refine lv_aload_n hx hb dX10_gain_81 rfl (lv_at hl 1 rfl) ?_
          refine va_get (D := D) (ci := 9) (v := .ref (ad 71)) (C := RX10) (T := TX10) (N := 9) hx hb hts hinX10_gain_X10 hown E.1 hP 37 (zO.get (oX10_at)) rfl 2 (by decide) (hts (.fieldLink RX10 24 "EdgeAndSpeed$Walk" "plan" "LEdgeAndSpeed$Plan;") (by decide +kernel)) (fun _ h9 => h9) rfl dX10_gain_82 ?_
          refine lv_iload hx hb dX10_gain_85 (lv_at hl 0 rfl) ?_
          refine lv_iload_n hx hb dX10_gain_87 rfl (lv_at hl 2 rfl) ?_
          refine lv_iload_n hx hb dX10_gain_88 rfl (lv_at hl 3 rfl) ?_
          refine lv_iload hx hb dX10_gain_89 (lv_at hl 4 rfl) ?_
          obtain ⟨u23, h24, hf⟩ := zb1_e hf
          refine zgo_l (zrunV (As := [.int x19, .int x6, .int x10, .int x16]) (rest := [.int x16, .int x10, .int x6, .ref (ad 71)]) S (c_X6_gainOf l hD 71 (by decide) x19 x6 x10 x16 h24) (cwV 4 hts gX10_gain_X6_gainOf rfl rfl rfl ddX6_gainOf ⟨Nat.le_trans (Nat.le_of_ble_eq_true rfl) hfr, Nat.le_trans (Nat.le_of_ble_eq_true rfl) hlo⟩) (va_recv E.1 hP (q := (RX6, TX6, 7)) (ci := 5) rfl (zO.get (oX6_at (by decide)))) E hP hS hl.1 rfl rfl (Nat.le_of_ble_eq_true rfl) dX10_gain_91) hS (fun H locs hP hS => ?_)
          obtain ⟨J25, h26, hf⟩ := zb1_e hf
          refine zgo_v (zrunV (As := [.int x6, .int x10, .int x16, .long u23]) (rest := []) S (c_X6_setGain l hD 71 (by decide) x6 x10 x16 u23 h26) (cwV 4 hts gX10_gain_X6_setGain rfl rfl rfl ddX6_setGain ⟨Nat.le_trans (Nat.le_of_ble_eq_true rfl) hfr, Nat.le_trans (Nat.le_of_ble_eq_true rfl) hlo⟩) (va_recv E.1 hP (q := (RX6, TX6, 7)) (ci := 5) rfl (zO.get (oX6_at (by decide)))) E hP hS hl.1 rfl rfl (Nat.le_of_ble_eq_true rfl) dX10_gain_94) hS (fun H locs hP hS => ?_)
          obtain ⟨y27, ey27⟩ := zex (x16 + 1)
          replace hf := zn_s ey27 hf
          refine lv_iinc (v := y27) (lv' := [(4, .int y27), (5, .int x19), (0, .ref (ad 37)), (2, .int x6), (3, .int x10)]) hx hb dX10_gain_97 hl (k := 4) rfl (by rw [ey27]; rfl) (by decide) rfl (fun ls hl => ?_)
          refine lv_goto (tgt := 47) hx hb dX10_gain_100 (by decide) ?_
          exact hcl15 _ (Option.some.inj hf).symm _ _ _ hP hS (lv_sub hl [2, 3, 4, 0] rfl)
theorem c_X10_gain (l : Launch) {D : va_G} {a0 : Nat → Nat} {A : Nat → Prop} {cy : Nat → ClassId} {ad : Nat → Nat} (hD : zD A 74 ad) {I : zI} {J : zJ} (p1 : Nat) {rx : Int64} {rI : zI} {rJ : zJ} (hf : f_X10_gain I J p1 = some (rx, rI, rJ)) : Met l yX10_gain wsX10_gain { frames := 5, cells := 0, slots := 0, locals := 123 } (zPc D a0 A cy [.ref (ad 37), .ref (a0 p1)] (zw 74 (kC cy ad a0) ad I J)) (zQl D A rx (zw 74 (kC cy ad a0) ad rI rJ)) 0 0 A :=
  zmet RX10 (by decide) rfl rfl (Nat.le_of_ble_eq_true rfl) (fun p e R s m below meth c Q hfr hlo ls S0 hQ => w_X10_gain hfr hlo hD p1 hf S0 (fun tx tI tJ hq H locs ls pc hP hS hd => by cases hq; exact hQ H locs _ hS (fun hx hb hr hlocks hfree => W.lret hx hb hr (fun t ht hW => ⟨⟨_, (), rfl, rfl, zht ht hP⟩, hS.F ht⟩) hfree hd hlocks)))
theorem ddX10_gain : yX10_gain.cls = RX10 ∧ yX10_gain.cls ≠ "java/lang/invoke/MethodHandle" ∧ yX10_gain.cls ≠ "java/lang/invoke/VarHandle" ∧ (parseMethodDescriptor yX10_gain.desc).map (fun d => d.parameters.length) = some 1 := by decide +kernel

def f_X11_value (I : zI) (J : zJ) (p1 : Int32) (p2 : Int32) (p3 : Int32) (p4 : Int32) (p5 : Int32) : Option (Int64 × zI × zJ) := zb1 (f_X11_isHandIn I J p1 p2) (fun x1 => (if x1 = 0 then some ((-9223372036854775808), I, J) else zb1 (f_X0_isState I J 4 p3 p4 p5) (fun x4 => (if x4 = 0 then some ((-9223372036854775808), I, J) else zb2 (f_X2_prepare I J p1 p2) (fun I7 J8 => zb1 (f_X10_spread I7 J8 p1 p2 p2 p3 p4 p5) (fun I10 => zb3 (f_X10_gain I10 J8 0) (fun u12 I13 J14 => some (u12, I13, J14))))))))
theorem hinX11_value_X11 : ∀ w ∈ u_ws RX11 TX11 12, w ∈ wsX11_value := by decide +kernel
set_option maxHeartbeats 4000000 in
set_option maxRecDepth 100000 in
theorem w_X11_value {p : Program} {l : Launch} {e : Env} {R : Room} {s : State} {m : MethodId} {args : Array Value} {below : List Frame} {meth : Method} {c : Code} {Q : State → Prop} (hfr : 7 ≤ R.frames) (hlo : 174 ≤ R.locals) {D : va_G} {a0 : Nat → Nat} {A : Nat → Prop} {cy : Nat → ClassId} {ad : Nat → Nat} (hD : zD A 74 ad) {I : zI} {J : zJ} (p1 : Int32) (p2 : Int32) (p3 : Int32) (p4 : Int32) (p5 : Int32) {rx : Int64} {rI : zI} {rJ : zJ} (hf : f_X11_value I J p1 p2 p3 p4 p5 = some (rx, rI, rJ)) {ls : Array Slot} (S0 : zSt p m c cX11_value 6 s args wsX11_value RX11 D a0 A cy (zw 74 (kC cy ad a0) ad I J) [.ref (ad 0), .int p1, .int p2, .int p3, .int p4, .int p5] ls) (hret : ∀ (tx : Int64) (tI : zI) (tJ : zJ), some (tx, tI, tJ) = some (rx, rI, rJ) → ∀ (H : Heap) (locs : List Loc) (ls : Array Slot) (pc : Nat), va_P D vwCl (zw 74 (kC cy ad a0) ad tI tJ) H → va_S A s.heap H locs → decode cX11_value pc = .ok (.lreturn, 1) → W p l e R s m args below meth c H locs 0 0 Q (F0 m pc ls [.long tx])) : W p l e R s m args below meth c s.heap [] 0 0 Q (F0 m 0 ls []) := by
  obtain ⟨S, E, hP, hl⟩ := S0
  obtain ⟨hx, hb, hml, hown, hts⟩ := id S
  have hS : va_S A s.heap s.heap [] := va_S.rf
  replace hl : lv_has ls 6 [(0, .ref (ad 0)), (1, .int p1), (2, .int p2), (3, .int p3), (4, .int p4), (5, .int p5)] := hl
  unfold f_X11_value at hf
  refine lv_aload_n hx hb dX11_value_0 rfl (lv_at hl 0 rfl) ?_
  refine lv_iload_n hx hb dX11_value_1 rfl (lv_at hl 1 rfl) ?_
  refine lv_iload_n hx hb dX11_value_2 rfl (lv_at hl 2 rfl) ?_
  obtain ⟨x1, h2, hf⟩ := zb1_e hf
  refine zgo_i (zrunV (As := [.int p1, .int p2]) (rest := []) S (c_X11_isHandIn l hD p1 p2 h2) (cwV 2 hts gX11_value_X11_isHandIn rfl rfl rfl ddX11_isHandIn ⟨Nat.le_trans (Nat.le_of_ble_eq_true rfl) hfr, Nat.le_trans (Nat.le_of_ble_eq_true rfl) hlo⟩) (va_recv E.1 hP (q := (RX11, TX11, 12)) (ci := 10) rfl (zO.get (oX11_at))) E hP hS hl.1 rfl rfl (Nat.le_of_ble_eq_true rfl) dX11_value_3) hS (fun H locs hP hS => ?_)
  refine lv_if_eq (tgt := 24) hx hb dX11_value_6 (by decide) (fun k3 => ?_) (fun k3 => ?_)
  · replace hf := zt k3 hf
    refine lv_ldc2 hx hb hown (hts (.constantLong RX11 169 (-9223372036854775808)) (by decide +kernel)) dX11_value_24 ?_
    exact hret _ _ _ hf _ _ _ _ hP hS dX11_value_27
  · replace hf := zf k3 hf
    refine lv_aload_n hx hb dX11_value_9 rfl (lv_at hl 0 rfl) ?_
    refine va_get (D := D) (ci := 10) (v := .ref (ad 4)) (C := RX11) (T := TX11) (N := 12) hx hb hts hinX11_value_X11 hown E.1 hP 0 (zO.get (oX11_at)) rfl 1 (by decide) (hts (.fieldLink RX11 19 "EdgeAndSpeed" "bench" "LEdgeAndSpeed$Bench;") (by decide +kernel)) (fun _ h9 => h9) rfl dX11_value_10 ?_
    refine lv_iload_n hx hb dX11_value_13 rfl (lv_at hl 3 rfl) ?_
    refine lv_iload hx hb dX11_value_14 (lv_at hl 4 rfl) ?_
    refine lv_iload hx hb dX11_value_16 (lv_at hl 5 rfl) ?_
    obtain ⟨x4, h5, hf⟩ := zb1_e hf
    refine zgo_i (zrunV (As := [.int p3, .int p4, .int p5]) (rest := []) S (c_X0_isState l hD 4 (zBat_C (by decide)) p3 p4 p5 h5) (cwV 3 hts gX11_value_X0_isState rfl rfl rfl ddX0_isState ⟨Nat.le_trans (Nat.le_of_ble_eq_true rfl) hfr, Nat.le_trans (Nat.le_of_ble_eq_true rfl) hlo⟩) (va_recv E.1 hP (q := (RX0, TX0, 17)) (ci := 0) rfl (zO.get (zBat_o (zBat_C (by decide))))) E hP hS hl.1 rfl rfl (Nat.le_of_ble_eq_true rfl) dX11_value_18) hS (fun H locs hP hS => ?_)
    refine lv_if_ne (tgt := 28) hx hb dX11_value_21 (by decide) (fun k6 => ?_) (fun k6 => ?_)
    · replace hf := zf k6 hf
      refine lv_aload_n hx hb dX11_value_28 rfl (lv_at hl 0 rfl) ?_
      refine va_get (D := D) (ci := 10) (v := .ref (ad 34)) (C := RX11) (T := TX11) (N := 12) hx hb hts hinX11_value_X11 hown E.1 hP 0 (zO.get (oX11_at)) rfl 6 (by decide) (hts (.fieldLink RX11 52 "EdgeAndSpeed" "hands" "LEdgeAndSpeed$Hands;") (by decide +kernel)) (fun _ h9 => h9) rfl dX11_value_29 ?_
      refine lv_iload_n hx hb dX11_value_32 rfl (lv_at hl 1 rfl) ?_
      refine lv_iload_n hx hb dX11_value_33 rfl (lv_at hl 2 rfl) ?_
      obtain ⟨I7, J8, h9, hf⟩ := zb2_e hf
      refine zgo_v (zrunV (As := [.int p1, .int p2]) (rest := []) S (c_X2_prepare l hD p1 p2 h9) (cwV 2 hts gX11_value_X2_prepare rfl rfl rfl ddX2_prepare ⟨Nat.le_trans (Nat.le_of_ble_eq_true rfl) hfr, Nat.le_trans (Nat.le_of_ble_eq_true rfl) hlo⟩) (va_recv E.1 hP (q := (RX2, TX2, 4)) (ci := 2) rfl (zO.get (oX2_at))) E hP hS hl.1 rfl rfl (Nat.le_of_ble_eq_true rfl) dX11_value_34) hS (fun H locs hP hS => ?_)
      refine lv_aload_n hx hb dX11_value_37 rfl (lv_at hl 0 rfl) ?_
      refine va_get (D := D) (ci := 10) (v := .ref (ad 37)) (C := RX11) (T := TX11) (N := 12) hx hb hts hinX11_value_X11 hown E.1 hP 0 (zO.get (oX11_at)) rfl 7 (by decide) (hts (.fieldLink RX11 61 "EdgeAndSpeed" "walk" "LEdgeAndSpeed$Walk;") (by decide +kernel)) (fun _ h9 => h9) rfl dX11_value_38 ?_
      refine lv_iload_n hx hb dX11_value_41 rfl (lv_at hl 1 rfl) ?_
      refine lv_iload_n hx hb dX11_value_42 rfl (lv_at hl 2 rfl) ?_
      refine lv_iload_n hx hb dX11_value_43 rfl (lv_at hl 2 rfl) ?_
      refine lv_iload_n hx hb dX11_value_44 rfl (lv_at hl 3 rfl) ?_
      refine lv_iload hx hb dX11_value_45 (lv_at hl 4 rfl) ?_
      refine lv_iload hx hb dX11_value_47 (lv_at hl 5 rfl) ?_
      obtain ⟨I10, h11, hf⟩ := zb1_e hf
      refine zgo_v (zrunV (As := [.int p1, .int p2, .int p2, .int p3, .int p4, .int p5]) (rest := []) S (c_X10_spread l hD p1 p2 p2 p3 p4 p5 h11) (cwV 6 hts gX11_value_X10_spread rfl rfl rfl ddX10_spread ⟨Nat.le_trans (Nat.le_of_ble_eq_true rfl) hfr, Nat.le_trans (Nat.le_of_ble_eq_true rfl) hlo⟩) (va_recv E.1 hP (q := (RX10, TX10, 9)) (ci := 9) rfl (zO.get (oX10_at))) E hP hS hl.1 rfl rfl (Nat.le_of_ble_eq_true rfl) dX11_value_49) hS (fun H locs hP hS => ?_)
      refine lv_aload_n hx hb dX11_value_52 rfl (lv_at hl 0 rfl) ?_
      refine va_get (D := D) (ci := 10) (v := .ref (ad 37)) (C := RX11) (T := TX11) (N := 12) hx hb hts hinX11_value_X11 hown E.1 hP 0 (zO.get (oX11_at)) rfl 7 (by decide) (hts (.fieldLink RX11 61 "EdgeAndSpeed" "walk" "LEdgeAndSpeed$Walk;") (by decide +kernel)) (fun _ h9 => h9) rfl dX11_value_53 ?_
      refine va_gets (v := .ref (a0 0)) hx hb ((E.2.1 0 (by decide)).1) hS hown (hts (.fieldLink RX11 175 "EdgeAndSpeed$Measure" "VALUE" "LEdgeAndSpeed$Measure;") (by decide +kernel)) (fun _ h9 => h9) dX11_value_56 ?_
      obtain ⟨u12, I13, J14, h15, hf⟩ := zb3_e hf
      refine zgo_l (zrunV (As := [.ref (a0 0)]) (rest := []) S (c_X10_gain l hD 0 h15) (cwV 1 hts gX11_value_X10_gain rfl rfl rfl ddX10_gain ⟨Nat.le_trans (Nat.le_of_ble_eq_true rfl) hfr, Nat.le_trans (Nat.le_of_ble_eq_true rfl) hlo⟩) (va_recv E.1 hP (q := (RX10, TX10, 9)) (ci := 9) rfl (zO.get (oX10_at))) E hP hS hl.1 rfl rfl (Nat.le_of_ble_eq_true rfl) dX11_value_59) hS (fun H locs hP hS => ?_)
      exact hret _ _ _ hf _ _ _ _ hP hS dX11_value_62
    · replace hf := zt k6 hf
      refine lv_ldc2 hx hb hown (hts (.constantLong RX11 169 (-9223372036854775808)) (by decide +kernel)) dX11_value_24 ?_
      exact hret _ _ _ hf _ _ _ _ hP hS dX11_value_27
theorem c_X11_value (l : Launch) {D : va_G} {a0 : Nat → Nat} {A : Nat → Prop} {cy : Nat → ClassId} {ad : Nat → Nat} (hD : zD A 74 ad) {I : zI} {J : zJ} (p1 : Int32) (p2 : Int32) (p3 : Int32) (p4 : Int32) (p5 : Int32) {rx : Int64} {rI : zI} {rJ : zJ} (hf : f_X11_value I J p1 p2 p3 p4 p5 = some (rx, rI, rJ)) : Met l yX11_value wsX11_value { frames := 7, cells := 0, slots := 0, locals := 174 } (zPc D a0 A cy [.ref (ad 0), .int p1, .int p2, .int p3, .int p4, .int p5] (zw 74 (kC cy ad a0) ad I J)) (zQl D A rx (zw 74 (kC cy ad a0) ad rI rJ)) 0 0 A :=
  zmet RX11 (by decide) rfl rfl (Nat.le_of_ble_eq_true rfl) (fun p e R s m below meth c Q hfr hlo ls S0 hQ => w_X11_value hfr hlo hD p1 p2 p3 p4 p5 hf S0 (fun tx tI tJ hq H locs ls pc hP hS hd => by cases hq; exact hQ H locs _ hS (fun hx hb hr hlocks hfree => W.lret hx hb hr (fun t ht hW => ⟨⟨_, (), rfl, rfl, zht ht hP⟩, hS.F ht⟩) hfree hd hlocks)))
theorem ddX11_value : yX11_value.cls = RX11 ∧ yX11_value.cls ≠ "java/lang/invoke/MethodHandle" ∧ yX11_value.cls ≠ "java/lang/invoke/VarHandle" ∧ (parseMethodDescriptor yX11_value.desc).map (fun d => d.parameters.length) = some 5 := by decide +kernel

def f_X11_mean (I : zI) (J : zJ) (p1 : Int32) (p2 : Int32) (p3 : Int32) (p4 : Int32) (p5 : Int32) (p6 : Int32) : Option (Int64 × zI × zJ) := zb1 (f_X11_isHandIn I J p1 p2) (fun x1 => (if x1 = 0 then some ((-1), I, J) else zb1 (f_X0_isState I J 4 p3 p4 p5) (fun x4 => (if x4 = 0 then some ((-1), I, J) else zb1 (f_X11_within I J p6 0 1) (fun x7 => (if x7 = 0 then some ((-1), I, J) else zb2 (f_X2_prepare I J p1 p2) (fun I10 J11 => zb1 (f_X10_spread I10 J11 p1 p2 p2 p3 p4 p5) (fun I13 => (if p6 = 0 then zb3 (f_X10_gain I13 J11 2) (fun u20 I21 J22 => some (u20, I21, J22)) else zb3 (f_X10_gain I13 J11 3) (fun u16 I17 J18 => some (u16, I17, J18)))))))))))
theorem hinX11_mean_X11 : ∀ w ∈ u_ws RX11 TX11 12, w ∈ wsX11_mean := by decide +kernel
set_option maxHeartbeats 4000000 in
set_option maxRecDepth 100000 in
theorem w_X11_mean {p : Program} {l : Launch} {e : Env} {R : Room} {s : State} {m : MethodId} {args : Array Value} {below : List Frame} {meth : Method} {c : Code} {Q : State → Prop} (hfr : 7 ≤ R.frames) (hlo : 174 ≤ R.locals) {D : va_G} {a0 : Nat → Nat} {A : Nat → Prop} {cy : Nat → ClassId} {ad : Nat → Nat} (hD : zD A 74 ad) {I : zI} {J : zJ} (p1 : Int32) (p2 : Int32) (p3 : Int32) (p4 : Int32) (p5 : Int32) (p6 : Int32) {rx : Int64} {rI : zI} {rJ : zJ} (hf : f_X11_mean I J p1 p2 p3 p4 p5 p6 = some (rx, rI, rJ)) {ls : Array Slot} (S0 : zSt p m c cX11_mean 7 s args wsX11_mean RX11 D a0 A cy (zw 74 (kC cy ad a0) ad I J) [.ref (ad 0), .int p1, .int p2, .int p3, .int p4, .int p5, .int p6] ls) (hret : ∀ (tx : Int64) (tI : zI) (tJ : zJ), some (tx, tI, tJ) = some (rx, rI, rJ) → ∀ (H : Heap) (locs : List Loc) (ls : Array Slot) (pc : Nat), va_P D vwCl (zw 74 (kC cy ad a0) ad tI tJ) H → va_S A s.heap H locs → decode cX11_mean pc = .ok (.lreturn, 1) → W p l e R s m args below meth c H locs 0 0 Q (F0 m pc ls [.long tx])) : W p l e R s m args below meth c s.heap [] 0 0 Q (F0 m 0 ls []) := by
  obtain ⟨S, E, hP, hl⟩ := S0
  obtain ⟨hx, hb, hml, hown, hts⟩ := id S
  have hS : va_S A s.heap s.heap [] := va_S.rf
  replace hl : lv_has ls 7 [(0, .ref (ad 0)), (1, .int p1), (2, .int p2), (3, .int p3), (4, .int p4), (5, .int p5), (6, .int p6)] := hl
  unfold f_X11_mean at hf
  refine lv_aload_n hx hb dX11_mean_0 rfl (lv_at hl 0 rfl) ?_
  refine lv_iload_n hx hb dX11_mean_1 rfl (lv_at hl 1 rfl) ?_
  refine lv_iload_n hx hb dX11_mean_2 rfl (lv_at hl 2 rfl) ?_
  obtain ⟨x1, h2, hf⟩ := zb1_e hf
  refine zgo_i (zrunV (As := [.int p1, .int p2]) (rest := []) S (c_X11_isHandIn l hD p1 p2 h2) (cwV 2 hts gX11_mean_X11_isHandIn rfl rfl rfl ddX11_isHandIn ⟨Nat.le_trans (Nat.le_of_ble_eq_true rfl) hfr, Nat.le_trans (Nat.le_of_ble_eq_true rfl) hlo⟩) (va_recv E.1 hP (q := (RX11, TX11, 12)) (ci := 10) rfl (zO.get (oX11_at))) E hP hS hl.1 rfl rfl (Nat.le_of_ble_eq_true rfl) dX11_mean_3) hS (fun H locs hP hS => ?_)
  refine lv_if_eq (tgt := 34) hx hb dX11_mean_6 (by decide) (fun k3 => ?_) (fun k3 => ?_)
  · replace hf := zt k3 hf
    refine lv_ldc2 hx hb hown (hts (.constantLong RX11 185 (-1)) (by decide +kernel)) dX11_mean_34 ?_
    exact hret _ _ _ hf _ _ _ _ hP hS dX11_mean_37
  · replace hf := zf k3 hf
    refine lv_aload_n hx hb dX11_mean_9 rfl (lv_at hl 0 rfl) ?_
    refine va_get (D := D) (ci := 10) (v := .ref (ad 4)) (C := RX11) (T := TX11) (N := 12) hx hb hts hinX11_mean_X11 hown E.1 hP 0 (zO.get (oX11_at)) rfl 1 (by decide) (hts (.fieldLink RX11 19 "EdgeAndSpeed" "bench" "LEdgeAndSpeed$Bench;") (by decide +kernel)) (fun _ h9 => h9) rfl dX11_mean_10 ?_
    refine lv_iload_n hx hb dX11_mean_13 rfl (lv_at hl 3 rfl) ?_
    refine lv_iload hx hb dX11_mean_14 (lv_at hl 4 rfl) ?_
    refine lv_iload hx hb dX11_mean_16 (lv_at hl 5 rfl) ?_
    obtain ⟨x4, h5, hf⟩ := zb1_e hf
    refine zgo_i (zrunV (As := [.int p3, .int p4, .int p5]) (rest := []) S (c_X0_isState l hD 4 (zBat_C (by decide)) p3 p4 p5 h5) (cwV 3 hts gX11_mean_X0_isState rfl rfl rfl ddX0_isState ⟨Nat.le_trans (Nat.le_of_ble_eq_true rfl) hfr, Nat.le_trans (Nat.le_of_ble_eq_true rfl) hlo⟩) (va_recv E.1 hP (q := (RX0, TX0, 17)) (ci := 0) rfl (zO.get (zBat_o (zBat_C (by decide))))) E hP hS hl.1 rfl rfl (Nat.le_of_ble_eq_true rfl) dX11_mean_18) hS (fun H locs hP hS => ?_)
    refine lv_if_eq (tgt := 34) hx hb dX11_mean_21 (by decide) (fun k6 => ?_) (fun k6 => ?_)
    · replace hf := zt k6 hf
      refine lv_ldc2 hx hb hown (hts (.constantLong RX11 185 (-1)) (by decide +kernel)) dX11_mean_34 ?_
      exact hret _ _ _ hf _ _ _ _ hP hS dX11_mean_37
    · replace hf := zf k6 hf
      refine lv_iload hx hb dX11_mean_24 (lv_at hl 6 rfl) ?_
      refine lv_iconst (v := 0) hx hb dX11_mean_26 (by decide) ?_
      refine lv_iconst (v := 1) hx hb dX11_mean_27 (by decide) ?_
      obtain ⟨x7, h8, hf⟩ := zb1_e hf
      refine zgo_i (zrunS (As := [.int p6, .int 0, .int 1]) (rest := []) S (c_X11_within l hD p6 0 1 h8) (va_cwS 3 hts gX11_mean_X11_within rfl rfl rfl ddX11_within ⟨Nat.le_trans (Nat.le_of_ble_eq_true rfl) hfr, Nat.le_trans (Nat.le_of_ble_eq_true rfl) hlo⟩) E hP hS hl.1 rfl rfl (Nat.le_of_ble_eq_true rfl) dX11_mean_28) hS (fun H locs hP hS => ?_)
      refine lv_if_ne (tgt := 38) hx hb dX11_mean_31 (by decide) (fun k9 => ?_) (fun k9 => ?_)
      · replace hf := zf k9 hf
        refine lv_aload_n hx hb dX11_mean_38 rfl (lv_at hl 0 rfl) ?_
        refine va_get (D := D) (ci := 10) (v := .ref (ad 34)) (C := RX11) (T := TX11) (N := 12) hx hb hts hinX11_mean_X11 hown E.1 hP 0 (zO.get (oX11_at)) rfl 6 (by decide) (hts (.fieldLink RX11 52 "EdgeAndSpeed" "hands" "LEdgeAndSpeed$Hands;") (by decide +kernel)) (fun _ h9 => h9) rfl dX11_mean_39 ?_
        refine lv_iload_n hx hb dX11_mean_42 rfl (lv_at hl 1 rfl) ?_
        refine lv_iload_n hx hb dX11_mean_43 rfl (lv_at hl 2 rfl) ?_
        obtain ⟨I10, J11, h12, hf⟩ := zb2_e hf
        refine zgo_v (zrunV (As := [.int p1, .int p2]) (rest := []) S (c_X2_prepare l hD p1 p2 h12) (cwV 2 hts gX11_mean_X2_prepare rfl rfl rfl ddX2_prepare ⟨Nat.le_trans (Nat.le_of_ble_eq_true rfl) hfr, Nat.le_trans (Nat.le_of_ble_eq_true rfl) hlo⟩) (va_recv E.1 hP (q := (RX2, TX2, 4)) (ci := 2) rfl (zO.get (oX2_at))) E hP hS hl.1 rfl rfl (Nat.le_of_ble_eq_true rfl) dX11_mean_44) hS (fun H locs hP hS => ?_)
        refine lv_aload_n hx hb dX11_mean_47 rfl (lv_at hl 0 rfl) ?_
        refine va_get (D := D) (ci := 10) (v := .ref (ad 37)) (C := RX11) (T := TX11) (N := 12) hx hb hts hinX11_mean_X11 hown E.1 hP 0 (zO.get (oX11_at)) rfl 7 (by decide) (hts (.fieldLink RX11 61 "EdgeAndSpeed" "walk" "LEdgeAndSpeed$Walk;") (by decide +kernel)) (fun _ h9 => h9) rfl dX11_mean_48 ?_
        refine lv_iload_n hx hb dX11_mean_51 rfl (lv_at hl 1 rfl) ?_
        refine lv_iload_n hx hb dX11_mean_52 rfl (lv_at hl 2 rfl) ?_
        refine lv_iload_n hx hb dX11_mean_53 rfl (lv_at hl 2 rfl) ?_
        refine lv_iload_n hx hb dX11_mean_54 rfl (lv_at hl 3 rfl) ?_
        refine lv_iload hx hb dX11_mean_55 (lv_at hl 4 rfl) ?_
        refine lv_iload hx hb dX11_mean_57 (lv_at hl 5 rfl) ?_
        obtain ⟨I13, h14, hf⟩ := zb1_e hf
        refine zgo_v (zrunV (As := [.int p1, .int p2, .int p2, .int p3, .int p4, .int p5]) (rest := []) S (c_X10_spread l hD p1 p2 p2 p3 p4 p5 h14) (cwV 6 hts gX11_mean_X10_spread rfl rfl rfl ddX10_spread ⟨Nat.le_trans (Nat.le_of_ble_eq_true rfl) hfr, Nat.le_trans (Nat.le_of_ble_eq_true rfl) hlo⟩) (va_recv E.1 hP (q := (RX10, TX10, 9)) (ci := 9) rfl (zO.get (oX10_at))) E hP hS hl.1 rfl rfl (Nat.le_of_ble_eq_true rfl) dX11_mean_59) hS (fun H locs hP hS => ?_)
        refine lv_aload_n hx hb dX11_mean_62 rfl (lv_at hl 0 rfl) ?_
        refine va_get (D := D) (ci := 10) (v := .ref (ad 37)) (C := RX11) (T := TX11) (N := 12) hx hb hts hinX11_mean_X11 hown E.1 hP 0 (zO.get (oX11_at)) rfl 7 (by decide) (hts (.fieldLink RX11 61 "EdgeAndSpeed" "walk" "LEdgeAndSpeed$Walk;") (by decide +kernel)) (fun _ h9 => h9) rfl dX11_mean_63 ?_
        refine lv_iload hx hb dX11_mean_66 (lv_at hl 6 rfl) ?_
        refine lv_if_ne (tgt := 77) hx hb dX11_mean_68 (by decide) (fun k15 => ?_) (fun k15 => ?_)
        · replace hf := zf k15 hf
          refine va_gets (v := .ref (a0 3)) hx hb ((E.2.1 3 (by decide)).1) hS hown (hts (.fieldLink RX11 190 "EdgeAndSpeed$Measure" "SPOILT" "LEdgeAndSpeed$Measure;") (by decide +kernel)) (fun _ h9 => h9) dX11_mean_77 ?_
          obtain ⟨u16, I17, J18, h19, hf⟩ := zb3_e hf
          refine zgo_l (zrunV (As := [.ref (a0 3)]) (rest := []) S (c_X10_gain l hD 3 h19) (cwV 1 hts gX11_mean_X10_gain rfl rfl rfl ddX10_gain ⟨Nat.le_trans (Nat.le_of_ble_eq_true rfl) hfr, Nat.le_trans (Nat.le_of_ble_eq_true rfl) hlo⟩) (va_recv E.1 hP (q := (RX10, TX10, 9)) (ci := 9) rfl (zO.get (oX10_at))) E hP hS hl.1 rfl rfl (Nat.le_of_ble_eq_true rfl) dX11_mean_80) hS (fun H locs hP hS => ?_)
          exact hret _ _ _ hf _ _ _ _ hP hS dX11_mean_83
        · replace hf := zt k15 hf
          refine va_gets (v := .ref (a0 2)) hx hb ((E.2.1 2 (by decide)).1) hS hown (hts (.fieldLink RX11 187 "EdgeAndSpeed$Measure" "MINUTES" "LEdgeAndSpeed$Measure;") (by decide +kernel)) (fun _ h9 => h9) dX11_mean_71 ?_
          refine lv_goto (tgt := 80) hx hb dX11_mean_74 (by decide) ?_
          obtain ⟨u20, I21, J22, h23, hf⟩ := zb3_e hf
          refine zgo_l (zrunV (As := [.ref (a0 2)]) (rest := []) S (c_X10_gain l hD 2 h23) (cwV 1 hts gX11_mean_X10_gain rfl rfl rfl ddX10_gain ⟨Nat.le_trans (Nat.le_of_ble_eq_true rfl) hfr, Nat.le_trans (Nat.le_of_ble_eq_true rfl) hlo⟩) (va_recv E.1 hP (q := (RX10, TX10, 9)) (ci := 9) rfl (zO.get (oX10_at))) E hP hS hl.1 rfl rfl (Nat.le_of_ble_eq_true rfl) dX11_mean_80) hS (fun H locs hP hS => ?_)
          exact hret _ _ _ hf _ _ _ _ hP hS dX11_mean_83
      · replace hf := zt k9 hf
        refine lv_ldc2 hx hb hown (hts (.constantLong RX11 185 (-1)) (by decide +kernel)) dX11_mean_34 ?_
        exact hret _ _ _ hf _ _ _ _ hP hS dX11_mean_37
theorem c_X11_mean (l : Launch) {D : va_G} {a0 : Nat → Nat} {A : Nat → Prop} {cy : Nat → ClassId} {ad : Nat → Nat} (hD : zD A 74 ad) {I : zI} {J : zJ} (p1 : Int32) (p2 : Int32) (p3 : Int32) (p4 : Int32) (p5 : Int32) (p6 : Int32) {rx : Int64} {rI : zI} {rJ : zJ} (hf : f_X11_mean I J p1 p2 p3 p4 p5 p6 = some (rx, rI, rJ)) : Met l yX11_mean wsX11_mean { frames := 7, cells := 0, slots := 0, locals := 174 } (zPc D a0 A cy [.ref (ad 0), .int p1, .int p2, .int p3, .int p4, .int p5, .int p6] (zw 74 (kC cy ad a0) ad I J)) (zQl D A rx (zw 74 (kC cy ad a0) ad rI rJ)) 0 0 A :=
  zmet RX11 (by decide) rfl rfl (Nat.le_of_ble_eq_true rfl) (fun p e R s m below meth c Q hfr hlo ls S0 hQ => w_X11_mean hfr hlo hD p1 p2 p3 p4 p5 p6 hf S0 (fun tx tI tJ hq H locs ls pc hP hS hd => by cases hq; exact hQ H locs _ hS (fun hx hb hr hlocks hfree => W.lret hx hb hr (fun t ht hW => ⟨⟨_, (), rfl, rfl, zht ht hP⟩, hS.F ht⟩) hfree hd hlocks)))
theorem ddX11_mean : yX11_mean.cls = RX11 ∧ yX11_mean.cls ≠ "java/lang/invoke/MethodHandle" ∧ yX11_mean.cls ≠ "java/lang/invoke/VarHandle" ∧ (parseMethodDescriptor yX11_mean.desc).map (fun d => d.parameters.length) = some 6 := by decide +kernel

def f_X10_isWorse (I : zI) (J : zJ) (p1 : Nat) (p2 : Int32) (p3 : Int32) (p4 : Int32) : Option Int32 := zb1 (f_X6_actAt I J 71 p2 p3 p4) (fun x1 => (if x1 = (-1) then some 0 else zb1 (f_X6_gainOf I J p1 x1 p2 p3 p4) (fun u4 => zb1 (f_X6_gainAt I J p1 p2 p3 p4) (fun u6 => (if 0 ≤ (lg_cmp u4 u6) then some 0 else some 1)))))
theorem hinX10_isWorse_X10 : ∀ w ∈ u_ws RX10 TX10 9, w ∈ wsX10_isWorse := by decide +kernel
set_option maxHeartbeats 4000000 in
set_option maxRecDepth 100000 in
theorem w_X10_isWorse {p : Program} {l : Launch} {e : Env} {R : Room} {s : State} {m : MethodId} {args : Array Value} {below : List Frame} {meth : Method} {c : Code} {Q : State → Prop} (hfr : 5 ≤ R.frames) (hlo : 123 ≤ R.locals) {D : va_G} {a0 : Nat → Nat} {A : Nat → Prop} {cy : Nat → ClassId} {ad : Nat → Nat} (hD : zD A 74 ad) {I : zI} {J : zJ} (p1 : Nat) (hp1 : zPn p1) (p2 : Int32) (p3 : Int32) (p4 : Int32) {rx : Int32} (hf : f_X10_isWorse I J p1 p2 p3 p4 = some rx) {ls : Array Slot} (S0 : zSt p m c cX10_isWorse 6 s args wsX10_isWorse RX10 D a0 A cy (zw 74 (kC cy ad a0) ad I J) [.ref (ad 37), .ref (ad p1), .int p2, .int p3, .int p4] ls) (hret : ∀ (tx : Int32), some tx = some rx → (tx = 0 ∨ tx = 1) → ∀ (H : Heap) (locs : List Loc) (ls : Array Slot) (pc : Nat), va_P D vwCl (zw 74 (kC cy ad a0) ad I J) H → va_S A s.heap H locs → decode cX10_isWorse pc = .ok (.ireturn, 1) → W p l e R s m args below meth c H locs 0 0 Q (F0 m pc ls [.int tx])) : W p l e R s m args below meth c s.heap [] 0 0 Q (F0 m 0 ls []) := by
  obtain ⟨S, E, hP, hl⟩ := S0
  obtain ⟨hx, hb, hml, hown, hts⟩ := id S
  have hS : va_S A s.heap s.heap [] := va_S.rf
  replace hl : lv_has ls 6 [(0, .ref (ad 37)), (1, .ref (ad p1)), (2, .int p2), (3, .int p3), (4, .int p4)] := hl
  unfold f_X10_isWorse at hf
  refine lv_aload_n hx hb dX10_isWorse_0 rfl (lv_at hl 0 rfl) ?_
  refine va_get (D := D) (ci := 9) (v := .ref (ad 71)) (C := RX10) (T := TX10) (N := 9) hx hb hts hinX10_isWorse_X10 hown E.1 hP 37 (zO.get (oX10_at)) rfl 2 (by decide) (hts (.fieldLink RX10 24 "EdgeAndSpeed$Walk" "plan" "LEdgeAndSpeed$Plan;") (by decide +kernel)) (fun _ h9 => h9) rfl dX10_isWorse_1 ?_
  refine lv_iload_n hx hb dX10_isWorse_4 rfl (lv_at hl 2 rfl) ?_
  refine lv_iload_n hx hb dX10_isWorse_5 rfl (lv_at hl 3 rfl) ?_
  refine lv_iload hx hb dX10_isWorse_6 (lv_at hl 4 rfl) ?_
  obtain ⟨x1, h2, hf⟩ := zb1_e hf
  refine zgo_i (zrunV (As := [.int p2, .int p3, .int p4]) (rest := []) S (c_X6_actAt l hD 71 (by decide) p2 p3 p4 h2) (cwV 3 hts gX10_isWorse_X6_actAt rfl rfl rfl ddX6_actAt ⟨Nat.le_trans (Nat.le_of_ble_eq_true rfl) hfr, Nat.le_trans (Nat.le_of_ble_eq_true rfl) hlo⟩) (va_recv E.1 hP (q := (RX6, TX6, 7)) (ci := 5) rfl (zO.get (oX6_at (by decide)))) E hP hS hl.1 rfl rfl (Nat.le_of_ble_eq_true rfl) dX10_isWorse_8) hS (fun H locs hP hS => ?_)
  refine lv_istore (lv' := [(5, .int x1), (0, .ref (ad 37)), (1, .ref (ad p1)), (2, .int p2), (3, .int p3), (4, .int p4)]) hx hb dX10_isWorse_11 hl (by decide) rfl (fun ls hl => ?_)
  refine lv_iload hx hb dX10_isWorse_13 (lv_at hl 0 rfl) ?_
  refine lv_iconst (v := (-1)) hx hb dX10_isWorse_15 (by decide) ?_
  refine lv_icmp_eq (tgt := 45) hx hb dX10_isWorse_16 (by decide) (fun k3 => ?_) (fun k3 => ?_)
  · replace hf := zt k3 hf
    refine lv_iconst (v := 0) hx hb dX10_isWorse_45 (by decide) ?_
    exact hret _ hf (Or.inl rfl) _ _ _ _ hP hS dX10_isWorse_46
  · replace hf := zf k3 hf
    refine lv_aload_n hx hb dX10_isWorse_19 rfl (lv_at hl 2 rfl) ?_
    refine lv_iload hx hb dX10_isWorse_20 (lv_at hl 0 rfl) ?_
    refine lv_iload_n hx hb dX10_isWorse_22 rfl (lv_at hl 3 rfl) ?_
    refine lv_iload_n hx hb dX10_isWorse_23 rfl (lv_at hl 4 rfl) ?_
    refine lv_iload hx hb dX10_isWorse_24 (lv_at hl 5 rfl) ?_
    obtain ⟨u4, h5, hf⟩ := zb1_e hf
    refine zgo_l (zrunV (As := [.int x1, .int p2, .int p3, .int p4]) (rest := []) S (c_X6_gainOf l hD p1 hp1 x1 p2 p3 p4 h5) (cwV 4 hts gX10_isWorse_X6_gainOf rfl rfl rfl ddX6_gainOf ⟨Nat.le_trans (Nat.le_of_ble_eq_true rfl) hfr, Nat.le_trans (Nat.le_of_ble_eq_true rfl) hlo⟩) (va_recv E.1 hP (q := (RX6, TX6, 7)) (ci := 5) rfl (zO.get (oX6_at hp1))) E hP hS hl.1 rfl rfl (Nat.le_of_ble_eq_true rfl) dX10_isWorse_26) hS (fun H locs hP hS => ?_)
    refine lv_aload_n hx hb dX10_isWorse_29 rfl (lv_at hl 2 rfl) ?_
    refine lv_iload_n hx hb dX10_isWorse_30 rfl (lv_at hl 3 rfl) ?_
    refine lv_iload_n hx hb dX10_isWorse_31 rfl (lv_at hl 4 rfl) ?_
    refine lv_iload hx hb dX10_isWorse_32 (lv_at hl 5 rfl) ?_
    obtain ⟨u6, h7, hf⟩ := zb1_e hf
    refine zgo_l (zrunV (As := [.int p2, .int p3, .int p4]) (rest := [.long u4]) S (c_X6_gainAt l hD p1 hp1 p2 p3 p4 h7) (cwV 3 hts gX10_isWorse_X6_gainAt rfl rfl rfl ddX6_gainAt ⟨Nat.le_trans (Nat.le_of_ble_eq_true rfl) hfr, Nat.le_trans (Nat.le_of_ble_eq_true rfl) hlo⟩) (va_recv E.1 hP (q := (RX6, TX6, 7)) (ci := 5) rfl (zO.get (oX6_at hp1))) E hP hS hl.1 rfl rfl (Nat.le_of_ble_eq_true rfl) dX10_isWorse_34) hS (fun H locs hP hS => ?_)
    refine W.lcmp hx hb dX10_isWorse_37 ?_
    refine lv_if_ge (tgt := 45) hx hb dX10_isWorse_38 (by decide) (fun k8 => ?_) (fun k8 => ?_)
    · replace hf := zt k8 hf
      refine lv_iconst (v := 0) hx hb dX10_isWorse_45 (by decide) ?_
      exact hret _ hf (Or.inl rfl) _ _ _ _ hP hS dX10_isWorse_46
    · replace hf := zf k8 hf
      refine lv_iconst (v := 1) hx hb dX10_isWorse_41 (by decide) ?_
      refine lv_goto (tgt := 46) hx hb dX10_isWorse_42 (by decide) ?_
      exact hret _ hf (Or.inr rfl) _ _ _ _ hP hS dX10_isWorse_46
theorem c_X10_isWorse (l : Launch) {D : va_G} {a0 : Nat → Nat} {A : Nat → Prop} {cy : Nat → ClassId} {ad : Nat → Nat} (hD : zD A 74 ad) {I : zI} {J : zJ} (p1 : Nat) (hp1 : zPn p1) (p2 : Int32) (p3 : Int32) (p4 : Int32) {rx : Int32} (hf : f_X10_isWorse I J p1 p2 p3 p4 = some rx) : Met l yX10_isWorse wsX10_isWorse { frames := 5, cells := 0, slots := 0, locals := 123 } (zPc D a0 A cy [.ref (ad 37), .ref (ad p1), .int p2, .int p3, .int p4] (zw 74 (kC cy ad a0) ad I J)) (zQi D A rx (zw 74 (kC cy ad a0) ad I J)) 0 0 A :=
  zmet RX10 (by decide) rfl rfl (Nat.le_of_ble_eq_true rfl) (fun p e R s m below meth c Q hfr hlo ls S0 hQ => w_X10_isWorse hfr hlo hD p1 hp1 p2 p3 p4 hf S0 (fun tx hq n01 H locs ls pc hP hS hd => by cases hq; exact hQ H locs _ hS (fun hx hb hr hlocks hfree => W.zret hx hb hr (z01 n01) (fun t ht hW => ⟨⟨_, (), rfl, rfl, zht ht hP⟩, hS.F ht⟩) hfree hd hlocks)))
theorem ddX10_isWorse : yX10_isWorse.cls = RX10 ∧ yX10_isWorse.cls ≠ "java/lang/invoke/MethodHandle" ∧ yX10_isWorse.cls ≠ "java/lang/invoke/VarHandle" ∧ (parseMethodDescriptor yX10_isWorse.desc).map (fun d => d.parameters.length) = some 4 := by decide +kernel

def f_X10_firstWorse_L30 (I : zI) (J : zJ) (p1 : Nat) (x2 : Int32) (x7 : Int32) (x10 : Int32) : Option (Int32 ⊕ (Unit ⊕ (Int32 ⊕ (Unit ⊕ (Int32 ⊕ (Unit ⊕ Int32)))))) := (if 100 < x10 then some (.inr (.inl ())) else zb1 (f_X10_isWorse I J p1 x2 x7 x10) (fun x12 => (if x12 = 0 then zn (x10 + 1) (fun y15 => some (.inl y15)) else zb1 (f_X0_stepsOf I J 4 x2) (fun x16 => some (.inr (.inr (.inr (.inr (.inr (.inr (((1000 * x2) + (101 * (x16 - x7))) + x10)))))))))))
def f_X10_firstWorse_L22 (I : zI) (J : zJ) (p1 : Nat) (x2 : Int32) (x7 : Int32) : Option (Int32 ⊕ (Unit ⊕ (Int32 ⊕ (Unit ⊕ Int32)))) := (if x7 < 1 then some (.inr (.inl ())) else zc0 (zl (fun v : Int32 => f_X10_firstWorse_L30 I J p1 x2 x7 v) zF 0) (zn (x7 + (-1)) (fun y18 => some (.inl y18))))
def f_X10_firstWorse_L2 (I : zI) (J : zJ) (p1 : Nat) (x2 : Int32) : Option (Int32 ⊕ (Unit ⊕ Int32)) := (if (I 4 10) ≤ x2 then some (.inr (.inl ())) else zb1 (f_X0_stepsOf I J 4 x2) (fun x4 => zc0 (zl (fun v : Int32 => f_X10_firstWorse_L22 I J p1 x2 v) zF x4) (zn (x2 + 1) (fun y19 => some (.inl y19)))))
def f_X10_firstWorse (I : zI) (J : zJ) (p1 : Nat) : Option Int32 := zc0 (zl (fun v : Int32 => f_X10_firstWorse_L2 I J p1 v) zF 0) (some (-4))
theorem hinX10_firstWorse_X10 : ∀ w ∈ u_ws RX10 TX10 9, w ∈ wsX10_firstWorse := by decide +kernel
theorem hinX10_firstWorse_X0 : ∀ w ∈ u_ws RX0 TX0 17, w ∈ wsX10_firstWorse := by decide +kernel
set_option maxHeartbeats 4000000 in
set_option maxRecDepth 100000 in
theorem w_X10_firstWorse {p : Program} {l : Launch} {e : Env} {R : Room} {s : State} {m : MethodId} {args : Array Value} {below : List Frame} {meth : Method} {c : Code} {Q : State → Prop} (hfr : 6 ≤ R.frames) (hlo : 148 ≤ R.locals) {D : va_G} {a0 : Nat → Nat} {A : Nat → Prop} {cy : Nat → ClassId} {ad : Nat → Nat} (hD : zD A 74 ad) {I : zI} {J : zJ} (p1 : Nat) (hp1 : zPn p1) {rx : Int32} (hf : f_X10_firstWorse I J p1 = some rx) {ls : Array Slot} (S0 : zSt p m c cX10_firstWorse 5 s args wsX10_firstWorse RX10 D a0 A cy (zw 74 (kC cy ad a0) ad I J) [.ref (ad 37), .ref (ad p1)] ls) (hret : ∀ (tx : Int32), some tx = some rx → ∀ (H : Heap) (locs : List Loc) (ls : Array Slot) (pc : Nat), va_P D vwCl (zw 74 (kC cy ad a0) ad I J) H → va_S A s.heap H locs → decode cX10_firstWorse pc = .ok (.ireturn, 1) → W p l e R s m args below meth c H locs 0 0 Q (F0 m pc ls [.int tx])) : W p l e R s m args below meth c s.heap [] 0 0 Q (F0 m 0 ls []) := by
  obtain ⟨S, E, hP, hl⟩ := S0
  obtain ⟨hx, hb, hml, hown, hts⟩ := id S
  have hS : va_S A s.heap s.heap [] := va_S.rf
  replace hl : lv_has ls 5 [(0, .ref (ad 37)), (1, .ref (ad p1))] := hl
  unfold f_X10_firstWorse at hf
  refine lv_iconst (v := 0) hx hb dX10_firstWorse_0 (by decide) ?_
  refine lv_istore_n (lv' := [(2, .int 0), (0, .ref (ad 37)), (1, .ref (ad p1))]) hx hb dX10_firstWorse_1 rfl hl (by decide) rfl (fun ls hl => ?_)
  obtain ⟨zl1, hf, hzl1, hel1⟩ := zc0_i hf
  have hjl1 : (Sum.inl ()) = zl1 → ∀ (H : Heap) (locs : List Loc) (ls : Array Slot), va_P D vwCl (zw 74 (kC cy ad a0) ad I J) H → va_S A s.heap H locs → lv_has ls 5 [] → W p l e R s m args below meth c H locs 0 0 Q (F0 m 90 ls []) := by
    intro  ez H locs ls hP hS hl
    have hf := hzl1  ez
    refine lv_bipush (v := (-4)) hx hb dX10_firstWorse_90 (by decide) ?_
    exact hret _ hf _ _ _ _ hP hS dX10_firstWorse_92
  refine zl_i (V := Int32) (P := fun v => ∀ (H : Heap) (locs : List Loc) (ls : Array Slot), va_P D vwCl (zw 74 (kC cy ad a0) ad I J) H → va_S A s.heap H locs → lv_has ls 5 [(0, .ref (ad 37)), (1, .ref (ad p1)), (2, .int v)] → W p l e R s m args below meth c H locs 0 0 Q (F0 m 2 ls [])) ?_ _ _ hf _ _ _ hP hS (lv_sub hl [1, 2, 0] rfl)
  intro v z hf hcl1 hdl1
  obtain ⟨x2, rfl⟩ : ∃ y, y = v := ⟨v, rfl⟩
  intro H locs ls hP hS hl
  replace hf : f_X10_firstWorse_L2 I J p1 x2 = some z := hf
  unfold f_X10_firstWorse_L2 at hf
  replace hP : va_P D vwCl (zw 74 (kC cy ad a0) ad I J) H := hP
  replace hl : lv_has ls 5 [(0, .ref (ad 37)), (1, .ref (ad p1)), (2, .int x2)] := hl
  refine lv_iload_n hx hb dX10_firstWorse_2 rfl (lv_at hl 2 rfl) ?_
  refine lv_aload_n hx hb dX10_firstWorse_3 rfl (lv_at hl 0 rfl) ?_
  refine va_get (D := D) (ci := 9) (v := .ref (ad 4)) (C := RX10) (T := TX10) (N := 9) hx hb hts hinX10_firstWorse_X10 hown E.1 hP 37 (zO.get (oX10_at)) rfl 0 (by decide) (hts (.fieldLink RX10 9 "EdgeAndSpeed$Walk" "bench" "LEdgeAndSpeed$Bench;") (by decide +kernel)) (fun _ h9 => h9) rfl dX10_firstWorse_4 ?_
  refine va_getN (D := D) (ci := 0) (v := .int (I 4 10)) (C := RX0) (T := TX0) (N := 17) hx hb hts hinX10_firstWorse_X0 hown E.1 hP 4 (zO.get (zBat_o (zBat_C (by decide)))) rfl 10 (by decide) (zNfw_4 E.2.2) (fun _ h9 => h9) rfl dX10_firstWorse_7 ?_
  refine lv_icmp_ge (tgt := 90) hx hb dX10_firstWorse_10 (by decide) (fun k3 => ?_) (fun k3 => ?_)
  · replace hf := zt k3 hf
    exact hjl1 (hdl1 _ (Option.some.inj hf).symm) _ _ _ hP hS (lv_sub hl [] rfl)
  · replace hf := zf k3 hf
    refine lv_aload_n hx hb dX10_firstWorse_13 rfl (lv_at hl 0 rfl) ?_
    refine va_get (D := D) (ci := 9) (v := .ref (ad 4)) (C := RX10) (T := TX10) (N := 9) hx hb hts hinX10_firstWorse_X10 hown E.1 hP 37 (zO.get (oX10_at)) rfl 0 (by decide) (hts (.fieldLink RX10 9 "EdgeAndSpeed$Walk" "bench" "LEdgeAndSpeed$Bench;") (by decide +kernel)) (fun _ h9 => h9) rfl dX10_firstWorse_14 ?_
    refine lv_iload_n hx hb dX10_firstWorse_17 rfl (lv_at hl 2 rfl) ?_
    obtain ⟨x4, h5, hf⟩ := zb1_e hf
    refine zgo_i (zrunV (As := [.int x2]) (rest := []) S (c_X0_stepsOf l hD 4 (zBat_C (by decide)) x2 h5) (cwV 1 hts gX10_firstWorse_X0_stepsOf rfl rfl rfl ddX0_stepsOf ⟨Nat.le_trans (Nat.le_of_ble_eq_true rfl) hfr, Nat.le_trans (Nat.le_of_ble_eq_true rfl) hlo⟩) (va_recv E.1 hP (q := (RX0, TX0, 17)) (ci := 0) rfl (zO.get (zBat_o (zBat_C (by decide))))) E hP hS hl.1 rfl rfl (Nat.le_of_ble_eq_true rfl) dX10_firstWorse_18) hS (fun H locs hP hS => ?_)
    refine lv_istore_n (lv' := [(3, .int x4), (0, .ref (ad 37)), (1, .ref (ad p1)), (2, .int x2)]) hx hb dX10_firstWorse_21 rfl hl (by decide) rfl (fun ls hl => ?_)
    obtain ⟨zl6, hf, hzl6, hel6⟩ := zc0_i hf
    have hjl6 : (Sum.inl ()) = zl6 → ∀ (H : Heap) (locs : List Loc) (ls : Array Slot), va_P D vwCl (zw 74 (kC cy ad a0) ad I J) H → va_S A s.heap H locs → lv_has ls 5 [(0, .ref (ad 37)), (1, .ref (ad p1)), (2, .int x2)] → W p l e R s m args below meth c H locs 0 0 Q (F0 m 84 ls []) := by
      intro  ez H locs ls hP hS hl
      have hf := hzl6  ez
      obtain ⟨y19, ey19⟩ := zex (x2 + 1)
      replace hf := zn_s ey19 hf
      refine lv_iinc (v := y19) (lv' := [(2, .int y19), (0, .ref (ad 37)), (1, .ref (ad p1))]) hx hb dX10_firstWorse_84 hl (k := 2) rfl (by rw [ey19]; rfl) (by decide) rfl (fun ls hl => ?_)
      refine lv_goto (tgt := 2) hx hb dX10_firstWorse_87 (by decide) ?_
      exact hcl1 _ (Option.some.inj hf).symm _ _ _ hP hS (lv_sub hl [1, 2, 0] rfl)
    refine zl_i (V := Int32) (P := fun v => ∀ (H : Heap) (locs : List Loc) (ls : Array Slot), va_P D vwCl (zw 74 (kC cy ad a0) ad I J) H → va_S A s.heap H locs → lv_has ls 5 [(0, .ref (ad 37)), (1, .ref (ad p1)), (2, .int x2), (3, .int v)] → W p l e R s m args below meth c H locs 0 0 Q (F0 m 22 ls [])) ?_ _ _ hf _ _ _ hP hS (lv_sub hl [1, 2, 3, 0] rfl)
    intro v z hf hcl6 hdl6
    obtain ⟨x7, rfl⟩ : ∃ y, y = v := ⟨v, rfl⟩
    intro H locs ls hP hS hl
    replace hf : f_X10_firstWorse_L22 I J p1 x2 x7 = some z := hf
    unfold f_X10_firstWorse_L22 at hf
    replace hP : va_P D vwCl (zw 74 (kC cy ad a0) ad I J) H := hP
    replace hl : lv_has ls 5 [(0, .ref (ad 37)), (1, .ref (ad p1)), (2, .int x2), (3, .int x7)] := hl
    refine lv_iload_n hx hb dX10_firstWorse_22 rfl (lv_at hl 3 rfl) ?_
    refine lv_iconst (v := 1) hx hb dX10_firstWorse_23 (by decide) ?_
    refine lv_icmp_lt (tgt := 84) hx hb dX10_firstWorse_24 (by decide) (fun k8 => ?_) (fun k8 => ?_)
    · replace hf := zt k8 hf
      exact hjl6 (hdl6 _ (Option.some.inj hf).symm) _ _ _ hP hS (lv_sub hl [0, 1, 2] rfl)
    · replace hf := zf k8 hf
      refine lv_iconst (v := 0) hx hb dX10_firstWorse_27 (by decide) ?_
      refine lv_istore (lv' := [(4, .int 0), (0, .ref (ad 37)), (1, .ref (ad p1)), (2, .int x2), (3, .int x7)]) hx hb dX10_firstWorse_28 hl (by decide) rfl (fun ls hl => ?_)
      obtain ⟨zl9, hf, hzl9, hel9⟩ := zc0_i hf
      have hjl9 : (Sum.inl ()) = zl9 → ∀ (H : Heap) (locs : List Loc) (ls : Array Slot), va_P D vwCl (zw 74 (kC cy ad a0) ad I J) H → va_S A s.heap H locs → lv_has ls 5 [(0, .ref (ad 37)), (1, .ref (ad p1)), (2, .int x2), (3, .int x7)] → W p l e R s m args below meth c H locs 0 0 Q (F0 m 78 ls []) := by
        intro  ez H locs ls hP hS hl
        have hf := hzl9  ez
        obtain ⟨y18, ey18⟩ := zex (x7 + (-1))
        replace hf := zn_s ey18 hf
        refine lv_iinc (v := y18) (lv' := [(3, .int y18), (0, .ref (ad 37)), (1, .ref (ad p1)), (2, .int x2)]) hx hb dX10_firstWorse_78 hl (k := 3) rfl (by rw [ey18]; rfl) (by decide) rfl (fun ls hl => ?_)
        refine lv_goto (tgt := 22) hx hb dX10_firstWorse_81 (by decide) ?_
        exact hcl6 _ (Option.some.inj hf).symm _ _ _ hP hS (lv_sub hl [1, 2, 3, 0] rfl)
      refine zl_i (V := Int32) (P := fun v => ∀ (H : Heap) (locs : List Loc) (ls : Array Slot), va_P D vwCl (zw 74 (kC cy ad a0) ad I J) H → va_S A s.heap H locs → lv_has ls 5 [(0, .ref (ad 37)), (1, .ref (ad p1)), (2, .int x2), (3, .int x7), (4, .int v)] → W p l e R s m args below meth c H locs 0 0 Q (F0 m 30 ls [])) ?_ _ _ hf _ _ _ hP hS (lv_sub hl [1, 2, 3, 4, 0] rfl)
      intro v z hf hcl9 hdl9
      obtain ⟨x10, rfl⟩ : ∃ y, y = v := ⟨v, rfl⟩
      intro H locs ls hP hS hl
      replace hf : f_X10_firstWorse_L30 I J p1 x2 x7 x10 = some z := hf
      unfold f_X10_firstWorse_L30 at hf
      replace hP : va_P D vwCl (zw 74 (kC cy ad a0) ad I J) H := hP
      replace hl : lv_has ls 5 [(0, .ref (ad 37)), (1, .ref (ad p1)), (2, .int x2), (3, .int x7), (4, .int x10)] := hl
      refine lv_iload hx hb dX10_firstWorse_30 (lv_at hl 4 rfl) ?_
      refine lv_bipush (v := 100) hx hb dX10_firstWorse_32 (by decide) ?_
      refine lv_icmp_gt (tgt := 78) hx hb dX10_firstWorse_34 (by decide) (fun k11 => ?_) (fun k11 => ?_)
      · replace hf := zt k11 hf
        exact hjl9 (hdl9 _ (Option.some.inj hf).symm) _ _ _ hP hS (lv_sub hl [0, 1, 2, 3] rfl)
      · replace hf := zf k11 hf
        refine lv_aload_n hx hb dX10_firstWorse_37 rfl (lv_at hl 0 rfl) ?_
        refine lv_aload_n hx hb dX10_firstWorse_38 rfl (lv_at hl 1 rfl) ?_
        refine lv_iload_n hx hb dX10_firstWorse_39 rfl (lv_at hl 2 rfl) ?_
        refine lv_iload_n hx hb dX10_firstWorse_40 rfl (lv_at hl 3 rfl) ?_
        refine lv_iload hx hb dX10_firstWorse_41 (lv_at hl 4 rfl) ?_
        obtain ⟨x12, h13, hf⟩ := zb1_e hf
        refine zgo_i (zrunV (As := [.ref (ad p1), .int x2, .int x7, .int x10]) (rest := []) S (c_X10_isWorse l hD p1 hp1 x2 x7 x10 h13) (cwV 4 hts gX10_firstWorse_X10_isWorse rfl rfl rfl ddX10_isWorse ⟨Nat.le_trans (Nat.le_of_ble_eq_true rfl) hfr, Nat.le_trans (Nat.le_of_ble_eq_true rfl) hlo⟩) (va_recv E.1 hP (q := (RX10, TX10, 9)) (ci := 9) rfl (zO.get (oX10_at))) E hP hS hl.1 rfl rfl (Nat.le_of_ble_eq_true rfl) dX10_firstWorse_43) hS (fun H locs hP hS => ?_)
        refine lv_if_eq (tgt := 72) hx hb dX10_firstWorse_46 (by decide) (fun k14 => ?_) (fun k14 => ?_)
        · replace hf := zt k14 hf
          obtain ⟨y15, ey15⟩ := zex (x10 + 1)
          replace hf := zn_s ey15 hf
          refine lv_iinc (v := y15) (lv' := [(4, .int y15), (0, .ref (ad 37)), (1, .ref (ad p1)), (2, .int x2), (3, .int x7)]) hx hb dX10_firstWorse_72 hl (k := 4) rfl (by rw [ey15]; rfl) (by decide) rfl (fun ls hl => ?_)
          refine lv_goto (tgt := 30) hx hb dX10_firstWorse_75 (by decide) ?_
          exact hcl9 _ (Option.some.inj hf).symm _ _ _ hP hS (lv_sub hl [1, 2, 3, 4, 0] rfl)
        · replace hf := zf k14 hf
          refine lv_sipush (v := 1000) hx hb dX10_firstWorse_49 (by decide) ?_
          refine lv_iload_n hx hb dX10_firstWorse_52 rfl (lv_at hl 2 rfl) ?_
          refine lv_imul hx hb dX10_firstWorse_53 ?_
          refine lv_bipush (v := 101) hx hb dX10_firstWorse_54 (by decide) ?_
          refine lv_aload_n hx hb dX10_firstWorse_56 rfl (lv_at hl 0 rfl) ?_
          refine va_get (D := D) (ci := 9) (v := .ref (ad 4)) (C := RX10) (T := TX10) (N := 9) hx hb hts hinX10_firstWorse_X10 hown E.1 hP 37 (zO.get (oX10_at)) rfl 0 (by decide) (hts (.fieldLink RX10 9 "EdgeAndSpeed$Walk" "bench" "LEdgeAndSpeed$Bench;") (by decide +kernel)) (fun _ h9 => h9) rfl dX10_firstWorse_57 ?_
          refine lv_iload_n hx hb dX10_firstWorse_60 rfl (lv_at hl 2 rfl) ?_
          obtain ⟨x16, h17, hf⟩ := zb1_e hf
          refine zgo_i (zrunV (As := [.int x2]) (rest := [.int 101, .int (1000 * x2)]) S (c_X0_stepsOf l hD 4 (zBat_C (by decide)) x2 h17) (cwV 1 hts gX10_firstWorse_X0_stepsOf rfl rfl rfl ddX0_stepsOf ⟨Nat.le_trans (Nat.le_of_ble_eq_true rfl) hfr, Nat.le_trans (Nat.le_of_ble_eq_true rfl) hlo⟩) (va_recv E.1 hP (q := (RX0, TX0, 17)) (ci := 0) rfl (zO.get (zBat_o (zBat_C (by decide))))) E hP hS hl.1 rfl rfl (Nat.le_of_ble_eq_true rfl) dX10_firstWorse_61) hS (fun H locs hP hS => ?_)
          refine lv_iload_n hx hb dX10_firstWorse_64 rfl (lv_at hl 3 rfl) ?_
          refine lv_isub hx hb dX10_firstWorse_65 ?_
          refine lv_imul hx hb dX10_firstWorse_66 ?_
          refine lv_iadd hx hb dX10_firstWorse_67 ?_
          refine lv_iload hx hb dX10_firstWorse_68 (lv_at hl 4 rfl) ?_
          refine lv_iadd hx hb dX10_firstWorse_70 ?_
          replace hf := hel9 _ (hdl9 _ (Option.some.inj hf).symm)
          replace hf := hel6 _ (hdl6 _ (Option.some.inj hf).symm)
          replace hf := hel1 _ (hdl1 _ (Option.some.inj hf).symm)
          exact hret _ hf _ _ _ _ hP hS dX10_firstWorse_71
theorem c_X10_firstWorse (l : Launch) {D : va_G} {a0 : Nat → Nat} {A : Nat → Prop} {cy : Nat → ClassId} {ad : Nat → Nat} (hD : zD A 74 ad) {I : zI} {J : zJ} (p1 : Nat) (hp1 : zPn p1) {rx : Int32} (hf : f_X10_firstWorse I J p1 = some rx) : Met l yX10_firstWorse wsX10_firstWorse { frames := 6, cells := 0, slots := 0, locals := 148 } (zPc D a0 A cy [.ref (ad 37), .ref (ad p1)] (zw 74 (kC cy ad a0) ad I J)) (zQi D A rx (zw 74 (kC cy ad a0) ad I J)) 0 0 A :=
  zmet RX10 (by decide) rfl rfl (Nat.le_of_ble_eq_true rfl) (fun p e R s m below meth c Q hfr hlo ls S0 hQ => w_X10_firstWorse hfr hlo hD p1 hp1 hf S0 (fun tx hq H locs ls pc hP hS hd => by cases hq; exact hQ H locs _ hS (fun hx hb hr hlocks hfree => W.iret hx hb hr (fun t ht hW => ⟨⟨_, (), rfl, rfl, zht ht hP⟩, hS.F ht⟩) hfree hd hlocks)))
theorem ddX10_firstWorse : yX10_firstWorse.cls = RX10 ∧ yX10_firstWorse.cls ≠ "java/lang/invoke/MethodHandle" ∧ yX10_firstWorse.cls ≠ "java/lang/invoke/VarHandle" ∧ (parseMethodDescriptor yX10_firstWorse.desc).map (fun d => d.parameters.length) = some 1 := by decide +kernel

def f_X11_judge (I : zI) (J : zJ) (p1 : Int32) (p2 : Int32) : Option (Int32 × zI × zJ) := zb1 (f_X11_isHandIn I J p1 p2) (fun x1 => (if x1 = 0 then some ((-1), I, J) else zb2 (f_X2_prepare I J p1 p2) (fun I4 J5 => zb2 (f_X2_prepare I4 J5 0 p2) (fun I7 J8 => zb1 (f_X0_stepsOf I7 J8 4 0) (fun x10 => zb1 (f_X10_spread I7 J8 p1 p2 p2 0 x10 0) (fun I12 => zb1 (f_X2_bestBy I12 J8 p2) (fun q14 => zg (zPn q14) (zb1 (f_X10_firstWorse I12 J8 q14) (fun x17 => some (x17, I12, J8))))))))))
theorem hinX11_judge_X11 : ∀ w ∈ u_ws RX11 TX11 12, w ∈ wsX11_judge := by decide +kernel
set_option maxHeartbeats 4000000 in
set_option maxRecDepth 100000 in
theorem w_X11_judge {p : Program} {l : Launch} {e : Env} {R : Room} {s : State} {m : MethodId} {args : Array Value} {below : List Frame} {meth : Method} {c : Code} {Q : State → Prop} (hfr : 7 ≤ R.frames) (hlo : 174 ≤ R.locals) {D : va_G} {a0 : Nat → Nat} {A : Nat → Prop} {cy : Nat → ClassId} {ad : Nat → Nat} (hD : zD A 74 ad) {I : zI} {J : zJ} (p1 : Int32) (p2 : Int32) {rx : Int32} {rI : zI} {rJ : zJ} (hf : f_X11_judge I J p1 p2 = some (rx, rI, rJ)) {ls : Array Slot} (S0 : zSt p m c cX11_judge 3 s args wsX11_judge RX11 D a0 A cy (zw 74 (kC cy ad a0) ad I J) [.ref (ad 0), .int p1, .int p2] ls) (hret : ∀ (tx : Int32) (tI : zI) (tJ : zJ), some (tx, tI, tJ) = some (rx, rI, rJ) → ∀ (H : Heap) (locs : List Loc) (ls : Array Slot) (pc : Nat), va_P D vwCl (zw 74 (kC cy ad a0) ad tI tJ) H → va_S A s.heap H locs → decode cX11_judge pc = .ok (.ireturn, 1) → W p l e R s m args below meth c H locs 0 0 Q (F0 m pc ls [.int tx])) : W p l e R s m args below meth c s.heap [] 0 0 Q (F0 m 0 ls []) := by
  obtain ⟨S, E, hP, hl⟩ := S0
  obtain ⟨hx, hb, hml, hown, hts⟩ := id S
  have hS : va_S A s.heap s.heap [] := va_S.rf
  replace hl : lv_has ls 3 [(0, .ref (ad 0)), (1, .int p1), (2, .int p2)] := hl
  unfold f_X11_judge at hf
  refine lv_aload_n hx hb dX11_judge_0 rfl (lv_at hl 0 rfl) ?_
  refine lv_iload_n hx hb dX11_judge_1 rfl (lv_at hl 1 rfl) ?_
  refine lv_iload_n hx hb dX11_judge_2 rfl (lv_at hl 2 rfl) ?_
  obtain ⟨x1, h2, hf⟩ := zb1_e hf
  refine zgo_i (zrunV (As := [.int p1, .int p2]) (rest := []) S (c_X11_isHandIn l hD p1 p2 h2) (cwV 2 hts gX11_judge_X11_isHandIn rfl rfl rfl ddX11_isHandIn ⟨Nat.le_trans (Nat.le_of_ble_eq_true rfl) hfr, Nat.le_trans (Nat.le_of_ble_eq_true rfl) hlo⟩) (va_recv E.1 hP (q := (RX11, TX11, 12)) (ci := 10) rfl (zO.get (oX11_at))) E hP hS hl.1 rfl rfl (Nat.le_of_ble_eq_true rfl) dX11_judge_3) hS (fun H locs hP hS => ?_)
  refine lv_if_ne (tgt := 11) hx hb dX11_judge_6 (by decide) (fun k3 => ?_) (fun k3 => ?_)
  · replace hf := zf k3 hf
    refine lv_aload_n hx hb dX11_judge_11 rfl (lv_at hl 0 rfl) ?_
    refine va_get (D := D) (ci := 10) (v := .ref (ad 34)) (C := RX11) (T := TX11) (N := 12) hx hb hts hinX11_judge_X11 hown E.1 hP 0 (zO.get (oX11_at)) rfl 6 (by decide) (hts (.fieldLink RX11 52 "EdgeAndSpeed" "hands" "LEdgeAndSpeed$Hands;") (by decide +kernel)) (fun _ h9 => h9) rfl dX11_judge_12 ?_
    refine lv_iload_n hx hb dX11_judge_15 rfl (lv_at hl 1 rfl) ?_
    refine lv_iload_n hx hb dX11_judge_16 rfl (lv_at hl 2 rfl) ?_
    obtain ⟨I4, J5, h6, hf⟩ := zb2_e hf
    refine zgo_v (zrunV (As := [.int p1, .int p2]) (rest := []) S (c_X2_prepare l hD p1 p2 h6) (cwV 2 hts gX11_judge_X2_prepare rfl rfl rfl ddX2_prepare ⟨Nat.le_trans (Nat.le_of_ble_eq_true rfl) hfr, Nat.le_trans (Nat.le_of_ble_eq_true rfl) hlo⟩) (va_recv E.1 hP (q := (RX2, TX2, 4)) (ci := 2) rfl (zO.get (oX2_at))) E hP hS hl.1 rfl rfl (Nat.le_of_ble_eq_true rfl) dX11_judge_17) hS (fun H locs hP hS => ?_)
    refine lv_aload_n hx hb dX11_judge_20 rfl (lv_at hl 0 rfl) ?_
    refine va_get (D := D) (ci := 10) (v := .ref (ad 34)) (C := RX11) (T := TX11) (N := 12) hx hb hts hinX11_judge_X11 hown E.1 hP 0 (zO.get (oX11_at)) rfl 6 (by decide) (hts (.fieldLink RX11 52 "EdgeAndSpeed" "hands" "LEdgeAndSpeed$Hands;") (by decide +kernel)) (fun _ h9 => h9) rfl dX11_judge_21 ?_
    refine lv_iconst (v := 0) hx hb dX11_judge_24 (by decide) ?_
    refine lv_iload_n hx hb dX11_judge_25 rfl (lv_at hl 2 rfl) ?_
    obtain ⟨I7, J8, h9, hf⟩ := zb2_e hf
    refine zgo_v (zrunV (As := [.int 0, .int p2]) (rest := []) S (c_X2_prepare l hD 0 p2 h9) (cwV 2 hts gX11_judge_X2_prepare rfl rfl rfl ddX2_prepare ⟨Nat.le_trans (Nat.le_of_ble_eq_true rfl) hfr, Nat.le_trans (Nat.le_of_ble_eq_true rfl) hlo⟩) (va_recv E.1 hP (q := (RX2, TX2, 4)) (ci := 2) rfl (zO.get (oX2_at))) E hP hS hl.1 rfl rfl (Nat.le_of_ble_eq_true rfl) dX11_judge_26) hS (fun H locs hP hS => ?_)
    refine lv_aload_n hx hb dX11_judge_29 rfl (lv_at hl 0 rfl) ?_
    refine va_get (D := D) (ci := 10) (v := .ref (ad 37)) (C := RX11) (T := TX11) (N := 12) hx hb hts hinX11_judge_X11 hown E.1 hP 0 (zO.get (oX11_at)) rfl 7 (by decide) (hts (.fieldLink RX11 61 "EdgeAndSpeed" "walk" "LEdgeAndSpeed$Walk;") (by decide +kernel)) (fun _ h9 => h9) rfl dX11_judge_30 ?_
    refine lv_iload_n hx hb dX11_judge_33 rfl (lv_at hl 1 rfl) ?_
    refine lv_iload_n hx hb dX11_judge_34 rfl (lv_at hl 2 rfl) ?_
    refine lv_iload_n hx hb dX11_judge_35 rfl (lv_at hl 2 rfl) ?_
    refine lv_iconst (v := 0) hx hb dX11_judge_36 (by decide) ?_
    refine lv_aload_n hx hb dX11_judge_37 rfl (lv_at hl 0 rfl) ?_
    refine va_get (D := D) (ci := 10) (v := .ref (ad 4)) (C := RX11) (T := TX11) (N := 12) hx hb hts hinX11_judge_X11 hown E.1 hP 0 (zO.get (oX11_at)) rfl 1 (by decide) (hts (.fieldLink RX11 19 "EdgeAndSpeed" "bench" "LEdgeAndSpeed$Bench;") (by decide +kernel)) (fun _ h9 => h9) rfl dX11_judge_38 ?_
    refine lv_iconst (v := 0) hx hb dX11_judge_41 (by decide) ?_
    obtain ⟨x10, h11, hf⟩ := zb1_e hf
    refine zgo_i (zrunV (As := [.int 0]) (rest := [.int 0, .int p2, .int p2, .int p1, .ref (ad 37)]) S (c_X0_stepsOf l hD 4 (zBat_C (by decide)) 0 h11) (cwV 1 hts gX11_judge_X0_stepsOf rfl rfl rfl ddX0_stepsOf ⟨Nat.le_trans (Nat.le_of_ble_eq_true rfl) hfr, Nat.le_trans (Nat.le_of_ble_eq_true rfl) hlo⟩) (va_recv E.1 hP (q := (RX0, TX0, 17)) (ci := 0) rfl (zO.get (zBat_o (zBat_C (by decide))))) E hP hS hl.1 rfl rfl (Nat.le_of_ble_eq_true rfl) dX11_judge_42) hS (fun H locs hP hS => ?_)
    refine lv_iconst (v := 0) hx hb dX11_judge_45 (by decide) ?_
    obtain ⟨I12, h13, hf⟩ := zb1_e hf
    refine zgo_v (zrunV (As := [.int p1, .int p2, .int p2, .int 0, .int x10, .int 0]) (rest := []) S (c_X10_spread l hD p1 p2 p2 0 x10 0 h13) (cwV 6 hts gX11_judge_X10_spread rfl rfl rfl ddX10_spread ⟨Nat.le_trans (Nat.le_of_ble_eq_true rfl) hfr, Nat.le_trans (Nat.le_of_ble_eq_true rfl) hlo⟩) (va_recv E.1 hP (q := (RX10, TX10, 9)) (ci := 9) rfl (zO.get (oX10_at))) E hP hS hl.1 rfl rfl (Nat.le_of_ble_eq_true rfl) dX11_judge_46) hS (fun H locs hP hS => ?_)
    refine lv_aload_n hx hb dX11_judge_49 rfl (lv_at hl 0 rfl) ?_
    refine va_get (D := D) (ci := 10) (v := .ref (ad 37)) (C := RX11) (T := TX11) (N := 12) hx hb hts hinX11_judge_X11 hown E.1 hP 0 (zO.get (oX11_at)) rfl 7 (by decide) (hts (.fieldLink RX11 61 "EdgeAndSpeed" "walk" "LEdgeAndSpeed$Walk;") (by decide +kernel)) (fun _ h9 => h9) rfl dX11_judge_50 ?_
    refine lv_aload_n hx hb dX11_judge_53 rfl (lv_at hl 0 rfl) ?_
    refine va_get (D := D) (ci := 10) (v := .ref (ad 34)) (C := RX11) (T := TX11) (N := 12) hx hb hts hinX11_judge_X11 hown E.1 hP 0 (zO.get (oX11_at)) rfl 6 (by decide) (hts (.fieldLink RX11 52 "EdgeAndSpeed" "hands" "LEdgeAndSpeed$Hands;") (by decide +kernel)) (fun _ h9 => h9) rfl dX11_judge_54 ?_
    refine lv_iload_n hx hb dX11_judge_57 rfl (lv_at hl 2 rfl) ?_
    obtain ⟨q14, h15, hf⟩ := zb1_e hf
    refine zgo_r (zrunV (As := [.int p2]) (rest := [.ref (ad 37)]) S (c_X2_bestBy l hD p2 h15) (cwV 1 hts gX11_judge_X2_bestBy rfl rfl rfl ddX2_bestBy ⟨Nat.le_trans (Nat.le_of_ble_eq_true rfl) hfr, Nat.le_trans (Nat.le_of_ble_eq_true rfl) hlo⟩) (va_recv E.1 hP (q := (RX2, TX2, 4)) (ci := 2) rfl (zO.get (oX2_at))) E hP hS hl.1 rfl rfl (Nat.le_of_ble_eq_true rfl) dX11_judge_58) hS (fun H locs hP hS => ?_)
    obtain ⟨g16, hf⟩ := zg_i hf
    obtain ⟨x17, h18, hf⟩ := zb1_e hf
    refine zgo_i (zrunV (As := [.ref (ad q14)]) (rest := []) S (c_X10_firstWorse l hD q14 g16 h18) (cwV 1 hts gX11_judge_X10_firstWorse rfl rfl rfl ddX10_firstWorse ⟨Nat.le_trans (Nat.le_of_ble_eq_true rfl) hfr, Nat.le_trans (Nat.le_of_ble_eq_true rfl) hlo⟩) (va_recv E.1 hP (q := (RX10, TX10, 9)) (ci := 9) rfl (zO.get (oX10_at))) E hP hS hl.1 rfl rfl (Nat.le_of_ble_eq_true rfl) dX11_judge_61) hS (fun H locs hP hS => ?_)
    exact hret _ _ _ hf _ _ _ _ hP hS dX11_judge_64
  · replace hf := zt k3 hf
    refine lv_iconst (v := (-1)) hx hb dX11_judge_9 (by decide) ?_
    exact hret _ _ _ hf _ _ _ _ hP hS dX11_judge_10
theorem c_X11_judge (l : Launch) {D : va_G} {a0 : Nat → Nat} {A : Nat → Prop} {cy : Nat → ClassId} {ad : Nat → Nat} (hD : zD A 74 ad) {I : zI} {J : zJ} (p1 : Int32) (p2 : Int32) {rx : Int32} {rI : zI} {rJ : zJ} (hf : f_X11_judge I J p1 p2 = some (rx, rI, rJ)) : Met l yX11_judge wsX11_judge { frames := 7, cells := 0, slots := 0, locals := 174 } (zPc D a0 A cy [.ref (ad 0), .int p1, .int p2] (zw 74 (kC cy ad a0) ad I J)) (zQi D A rx (zw 74 (kC cy ad a0) ad rI rJ)) 0 0 A :=
  zmet RX11 (by decide) rfl rfl (Nat.le_of_ble_eq_true rfl) (fun p e R s m below meth c Q hfr hlo ls S0 hQ => w_X11_judge hfr hlo hD p1 p2 hf S0 (fun tx tI tJ hq H locs ls pc hP hS hd => by cases hq; exact hQ H locs _ hS (fun hx hb hr hlocks hfree => W.iret hx hb hr (fun t ht hW => ⟨⟨_, (), rfl, rfl, zht ht hP⟩, hS.F ht⟩) hfree hd hlocks)))
theorem ddX11_judge : yX11_judge.cls = RX11 ∧ yX11_judge.cls ≠ "java/lang/invoke/MethodHandle" ∧ yX11_judge.cls ≠ "java/lang/invoke/VarHandle" ∧ (parseMethodDescriptor yX11_judge.desc).map (fun d => d.parameters.length) = some 2 := by decide +kernel

def f_X5_cell (I : zI) (J : zJ) (p1 : Int32) (p2 : Int32) : Option Int32 := some ((p1 * 101) + p2)
set_option maxHeartbeats 4000000 in
set_option maxRecDepth 100000 in
theorem w_X5_cell {p : Program} {l : Launch} {e : Env} {R : Room} {s : State} {m : MethodId} {args : Array Value} {below : List Frame} {meth : Method} {c : Code} {Q : State → Prop} (hfr : 0 ≤ R.frames) (hlo : 0 ≤ R.locals) {D : va_G} {a0 : Nat → Nat} {A : Nat → Prop} {cy : Nat → ClassId} {ad : Nat → Nat} (hD : zD A 74 ad) {I : zI} {J : zJ} (p1 : Int32) (p2 : Int32) {rx : Int32} (hf : f_X5_cell I J p1 p2 = some rx) {ls : Array Slot} (S0 : zSt p m c cX5_cell 2 s args wsX5_cell RX5 D a0 A cy (zw 74 (kC cy ad a0) ad I J) [.int p1, .int p2] ls) (hret : ∀ (tx : Int32), some tx = some rx → ∀ (H : Heap) (locs : List Loc) (ls : Array Slot) (pc : Nat), va_P D vwCl (zw 74 (kC cy ad a0) ad I J) H → va_S A s.heap H locs → decode cX5_cell pc = .ok (.ireturn, 1) → W p l e R s m args below meth c H locs 0 0 Q (F0 m pc ls [.int tx])) : W p l e R s m args below meth c s.heap [] 0 0 Q (F0 m 0 ls []) := by
  obtain ⟨S, E, hP, hl⟩ := S0
  obtain ⟨hx, hb, hml, hown, hts⟩ := id S
  have hS : va_S A s.heap s.heap [] := va_S.rf
  replace hl : lv_has ls 2 [(0, .int p1), (1, .int p2)] := hl
  unfold f_X5_cell at hf
  refine lv_iload_n hx hb dX5_cell_0 rfl (lv_at hl 0 rfl) ?_
  refine lv_bipush (v := 101) hx hb dX5_cell_1 (by decide) ?_
  refine lv_imul hx hb dX5_cell_3 ?_
  refine lv_iload_n hx hb dX5_cell_4 rfl (lv_at hl 1 rfl) ?_
  refine lv_iadd hx hb dX5_cell_5 ?_
  exact hret _ hf _ _ _ _ hP hS dX5_cell_6
theorem c_X5_cell (l : Launch) {D : va_G} {a0 : Nat → Nat} {A : Nat → Prop} {cy : Nat → ClassId} {ad : Nat → Nat} (hD : zD A 74 ad) {I : zI} {J : zJ} (p1 : Int32) (p2 : Int32) {rx : Int32} (hf : f_X5_cell I J p1 p2 = some rx) : Met l yX5_cell wsX5_cell { frames := 0, cells := 0, slots := 0, locals := 0 } (zPc D a0 A cy [.int p1, .int p2] (zw 74 (kC cy ad a0) ad I J)) (zQi D A rx (zw 74 (kC cy ad a0) ad I J)) 0 0 A :=
  zmet RX5 (by decide) rfl rfl (Nat.le_of_ble_eq_true rfl) (fun p e R s m below meth c Q hfr hlo ls S0 hQ => w_X5_cell hfr hlo hD p1 p2 hf S0 (fun tx hq H locs ls pc hP hS hd => by cases hq; exact hQ H locs _ hS (fun hx hb hr hlocks hfree => W.iret hx hb hr (fun t ht hW => ⟨⟨_, (), rfl, rfl, zht ht hP⟩, hS.F ht⟩) hfree hd hlocks)))
theorem ddX5_cell : yX5_cell.cls ≠ "java/lang/invoke/MethodHandle" ∧ yX5_cell.cls ≠ "java/lang/invoke/VarHandle" ∧ (parseMethodDescriptor yX5_cell.desc).map (fun d => d.parameters.length) = some 2 := by decide +kernel

def f_X5_offerHere (I : zI) (J : zJ) (p1 : Int32) (p2 : Int32) (p3 : Int64) (p4 : Int32) : Option (zI × zJ) := zb1 (f_X11_within I J p1 0 908) (fun x1 => (if x1 = 0 then some (I, J) else zg (¬ (p1 < 0 ∨ 909 ≤ p1.toNatClampNeg)) (zb1 ((if (I 42 p1.toNatClampNeg) = (-4) then some (0) else zg (¬ (p1 < 0 ∨ 909 ≤ p1.toNatClampNeg)) ((if (lg_cmp p3 (J 40 p1.toNatClampNeg)) = 0 then some (1) else some (0)))) : Option Int32) (fun x10 => zg (¬ (p1 < 0 ∨ 909 ≤ p1.toNatClampNeg)) ((if (I 42 p1.toNatClampNeg) = (-4) then zg (¬ (p1 < 0 ∨ 909 ≤ p1.toNatClampNeg)) (zn (va_up J 40 (vp_updL (J 40) p1.toNatClampNeg p3)) (fun J13 => zg (¬ (p1 < 0 ∨ 909 ≤ p1.toNatClampNeg)) (zn (va_up I 41 (upd (I 41) p1.toNatClampNeg p4)) (fun I15 => zg (¬ (p1 < 0 ∨ 909 ≤ p1.toNatClampNeg)) (zn (va_up I15 42 (upd (I15 42) p1.toNatClampNeg p2)) (fun I17 => some (I17, J13))))))) else zg (¬ (p1 < 0 ∨ 909 ≤ p1.toNatClampNeg)) ((if (lg_cmp p3 (J 40 p1.toNatClampNeg)) < 0 then zg (¬ (p1 < 0 ∨ 909 ≤ p1.toNatClampNeg)) (zn (va_up J 40 (vp_updL (J 40) p1.toNatClampNeg p3)) (fun J21 => zg (¬ (p1 < 0 ∨ 909 ≤ p1.toNatClampNeg)) (zn (va_up I 41 (upd (I 41) p1.toNatClampNeg p4)) (fun I23 => zg (¬ (p1 < 0 ∨ 909 ≤ p1.toNatClampNeg)) (zn (va_up I23 42 (upd (I23 42) p1.toNatClampNeg p2)) (fun I25 => some (I25, J21))))))) else (if x10 = 0 then some (I, J) else zg (¬ (p1 < 0 ∨ 909 ≤ p1.toNatClampNeg)) ((if (I 41 p1.toNatClampNeg) ≤ p4 then some (I, J) else zg (¬ (p1 < 0 ∨ 909 ≤ p1.toNatClampNeg)) (zn (va_up J 40 (vp_updL (J 40) p1.toNatClampNeg p3)) (fun J30 => zg (¬ (p1 < 0 ∨ 909 ≤ p1.toNatClampNeg)) (zn (va_up I 41 (upd (I 41) p1.toNatClampNeg p4)) (fun I32 => zg (¬ (p1 < 0 ∨ 909 ≤ p1.toNatClampNeg)) (zn (va_up I32 42 (upd (I32 42) p1.toNatClampNeg p2)) (fun I34 => some (I34, J30))))))))))))))))))
theorem hinX5_offerHere_X5 : ∀ w ∈ u_ws RX5 TX5 4, w ∈ wsX5_offerHere := by decide +kernel
set_option maxHeartbeats 4000000 in
set_option maxRecDepth 100000 in
theorem w_X5_offerHere {p : Program} {l : Launch} {e : Env} {R : Room} {s : State} {m : MethodId} {args : Array Value} {below : List Frame} {meth : Method} {c : Code} {Q : State → Prop} (hfr : 1 ≤ R.frames) (hlo : 22 ≤ R.locals) {D : va_G} {a0 : Nat → Nat} {A : Nat → Prop} {cy : Nat → ClassId} {ad : Nat → Nat} (hD : zD A 74 ad) {I : zI} {J : zJ} (p1 : Int32) (p2 : Int32) (p3 : Int64) (p4 : Int32) {rI : zI} {rJ : zJ} (hf : f_X5_offerHere I J p1 p2 p3 p4 = some (rI, rJ)) {ls : Array Slot} (S0 : zSt p m c cX5_offerHere 7 s args wsX5_offerHere RX5 D a0 A cy (zw 74 (kC cy ad a0) ad I J) [.ref (ad 39), .int p1, .int p2, .long p3, .int p4] ls) (hret : ∀ (tI : zI) (tJ : zJ), some (tI, tJ) = some (rI, rJ) → ∀ (H : Heap) (locs : List Loc) (ls : Array Slot) (pc : Nat), va_P D vwCl (zw 74 (kC cy ad a0) ad tI tJ) H → va_S A s.heap H locs → decode cX5_offerHere pc = .ok (.return_, 1) → W p l e R s m args below meth c H locs 0 0 Q (F0 m pc ls [])) : W p l e R s m args below meth c s.heap [] 0 0 Q (F0 m 0 ls []) := by
  obtain ⟨S, E, hP, hl⟩ := S0
  obtain ⟨hx, hb, hml, hown, hts⟩ := id S
  have hS : va_S A s.heap s.heap [] := va_S.rf
  replace hl : lv_has ls 7 [(0, .ref (ad 39)), (1, .int p1), (2, .int p2), (3, .long p3), (5, .int p4)] := hl
  unfold f_X5_offerHere at hf
  refine lv_iload_n hx hb dX5_offerHere_0 rfl (lv_at hl 1 rfl) ?_
  refine lv_iconst (v := 0) hx hb dX5_offerHere_1 (by decide) ?_
  refine lv_sipush (v := 908) hx hb dX5_offerHere_2 (by decide) ?_
  obtain ⟨x1, h2, hf⟩ := zb1_e hf
  refine zgo_i (zrunSN (As := [.int p1, .int 0, .int 908]) (rest := []) S (c_X11_within l hD p1 0 908 h2) ⟨va_cnB (host := "EdgeAndSpeed") 3 hts gX5_offerHere_X11_within_n79 rfl rfl rfl (zNmw_12 E.2.2) (hts (.initialized RX11) (by decide +kernel)) ddX11_within ⟨Nat.le_trans (Nat.le_of_ble_eq_true rfl) hfr, Nat.le_trans (Nat.le_of_ble_eq_true rfl) hlo⟩, hts (.static yX11_within) (by decide +kernel), trivial⟩ E hP hS hl.1 rfl rfl (Nat.le_of_ble_eq_true rfl) dX5_offerHere_5) hS (fun H locs hP hS => ?_)
  refine lv_if_ne (tgt := 12) hx hb dX5_offerHere_8 (by decide) (fun k3 => ?_) (fun k3 => ?_)
  · replace hf := zf k3 hf
    refine lv_aload_n hx hb dX5_offerHere_12 rfl (lv_at hl 0 rfl) ?_
    refine va_get (D := D) (ci := 4) (v := .ref (ad 42)) (C := RX5) (T := TX5) (N := 4) hx hb hts hinX5_offerHere_X5 hown E.1 hP 39 (zO.get (oX5_at)) rfl 3 (by decide) (hts (.fieldLink RX5 19 "EdgeAndSpeed$Parting" "firsts" "[I") (by decide +kernel)) (fun _ h9 => h9) rfl dX5_offerHere_13 ?_
    refine lv_iload_n hx hb dX5_offerHere_16 rfl (lv_at hl 1 rfl) ?_
    obtain ⟨g4, hf⟩ := zg_i hf
    refine va_iald hx hb E.1 hP 42 1 (zIA.get (aX5_3)) rfl g4 dX5_offerHere_17 ?_
    refine lv_bipush (v := (-4)) hx hb dX5_offerHere_18 (by decide) ?_
    obtain ⟨zr7, hf, hzr7⟩ := zb1_i hf
    have hjr7 : ∀ (x10 : Int32), x10 = zr7 → ∀ (H : Heap) (locs : List Loc) (ls : Array Slot), va_P D vwCl (zw 74 (kC cy ad a0) ad I J) H → va_S A s.heap H locs → lv_has ls 7 [(0, .ref (ad 39)), (1, .int p1), (2, .int p2), (3, .long p3), (5, .int p4)] → W p l e R s m args below meth c H locs 0 0 Q (F0 m 39 ls [.int x10]) := by
      intro x10 ez H locs ls hP hS hl
      have hf := hzr7 x10 ez
      refine lv_istore (lv' := [(6, .int x10), (0, .ref (ad 39)), (1, .int p1), (2, .int p2), (3, .long p3), (5, .int p4)]) hx hb dX5_offerHere_39 hl (by decide) rfl (fun ls hl => ?_)
      refine lv_aload_n hx hb dX5_offerHere_41 rfl (lv_at hl 1 rfl) ?_
      refine va_get (D := D) (ci := 4) (v := .ref (ad 42)) (C := RX5) (T := TX5) (N := 4) hx hb hts hinX5_offerHere_X5 hown E.1 hP 39 (zO.get (oX5_at)) rfl 3 (by decide) (hts (.fieldLink RX5 19 "EdgeAndSpeed$Parting" "firsts" "[I") (by decide +kernel)) (fun _ h9 => h9) rfl dX5_offerHere_42 ?_
      refine lv_iload_n hx hb dX5_offerHere_45 rfl (lv_at hl 2 rfl) ?_
      obtain ⟨g11, hf⟩ := zg_i hf
      refine va_iald hx hb E.1 hP 42 1 (zIA.get (aX5_3)) rfl g11 dX5_offerHere_46 ?_
      refine lv_bipush (v := (-4)) hx hb dX5_offerHere_47 (by decide) ?_
      refine lv_icmp_eq (tgt := 79) hx hb dX5_offerHere_49 (by decide) (fun k12 => ?_) (fun k12 => ?_)
      · replace hf := zt k12 hf
        refine lv_aload_n hx hb dX5_offerHere_79 rfl (lv_at hl 1 rfl) ?_
        refine va_get (D := D) (ci := 4) (v := .ref (ad 40)) (C := RX5) (T := TX5) (N := 4) hx hb hts hinX5_offerHere_X5 hown E.1 hP 39 (zO.get (oX5_at)) rfl 1 (by decide) (hts (.fieldLink RX5 11 "EdgeAndSpeed$Parting" "costs" "[J") (by decide +kernel)) (fun _ h9 => h9) rfl dX5_offerHere_80 ?_
        refine lv_iload_n hx hb dX5_offerHere_83 rfl (lv_at hl 2 rfl) ?_
        refine lv_lload_n hx hb dX5_offerHere_84 rfl (lv_at hl 4 rfl) ?_
        obtain ⟨g14, hf⟩ := zg_i hf
        obtain ⟨J13, eJ13⟩ := zex (va_up J 40 (vp_updL (J 40) p1.toNatClampNeg p3))
        replace hf := zn_s eJ13 hf
        refine zast_l hx hb E.1 hP hD.D hS (aX5_1) g14 dX5_offerHere_85 eJ13 (fun H locs hP hS => ?_)
        refine lv_aload_n hx hb dX5_offerHere_86 rfl (lv_at hl 1 rfl) ?_
        refine va_get (D := D) (ci := 4) (v := .ref (ad 41)) (C := RX5) (T := TX5) (N := 4) hx hb hts hinX5_offerHere_X5 hown E.1 hP 39 (zO.get (oX5_at)) rfl 2 (by decide) (hts (.fieldLink RX5 15 "EdgeAndSpeed$Parting" "passes" "[I") (by decide +kernel)) (fun _ h9 => h9) rfl dX5_offerHere_87 ?_
        refine lv_iload_n hx hb dX5_offerHere_90 rfl (lv_at hl 2 rfl) ?_
        refine lv_iload hx hb dX5_offerHere_91 (lv_at hl 5 rfl) ?_
        obtain ⟨g16, hf⟩ := zg_i hf
        obtain ⟨I15, eI15⟩ := zex (va_up I 41 (upd (I 41) p1.toNatClampNeg p4))
        replace hf := zn_s eI15 hf
        refine zast_i hx hb E.1 hP hD.D hS (aX5_2) g16 dX5_offerHere_93 eI15 (fun H locs hP hS => ?_)
        refine lv_aload_n hx hb dX5_offerHere_94 rfl (lv_at hl 1 rfl) ?_
        refine va_get (D := D) (ci := 4) (v := .ref (ad 42)) (C := RX5) (T := TX5) (N := 4) hx hb hts hinX5_offerHere_X5 hown E.1 hP 39 (zO.get (oX5_at)) rfl 3 (by decide) (hts (.fieldLink RX5 19 "EdgeAndSpeed$Parting" "firsts" "[I") (by decide +kernel)) (fun _ h9 => h9) rfl dX5_offerHere_95 ?_
        refine lv_iload_n hx hb dX5_offerHere_98 rfl (lv_at hl 2 rfl) ?_
        refine lv_iload_n hx hb dX5_offerHere_99 rfl (lv_at hl 3 rfl) ?_
        obtain ⟨g18, hf⟩ := zg_i hf
        obtain ⟨I17, eI17⟩ := zex (va_up I15 42 (upd (I15 42) p1.toNatClampNeg p2))
        replace hf := zn_s eI17 hf
        refine zast_i hx hb E.1 hP hD.D hS (aX5_3) g18 dX5_offerHere_100 eI17 (fun H locs hP hS => ?_)
        exact hret _ _ hf _ _ _ _ hP hS dX5_offerHere_101
      · replace hf := zf k12 hf
        refine lv_lload_n hx hb dX5_offerHere_52 rfl (lv_at hl 4 rfl) ?_
        refine lv_aload_n hx hb dX5_offerHere_53 rfl (lv_at hl 1 rfl) ?_
        refine va_get (D := D) (ci := 4) (v := .ref (ad 40)) (C := RX5) (T := TX5) (N := 4) hx hb hts hinX5_offerHere_X5 hown E.1 hP 39 (zO.get (oX5_at)) rfl 1 (by decide) (hts (.fieldLink RX5 11 "EdgeAndSpeed$Parting" "costs" "[J") (by decide +kernel)) (fun _ h9 => h9) rfl dX5_offerHere_54 ?_
        refine lv_iload_n hx hb dX5_offerHere_57 rfl (lv_at hl 2 rfl) ?_
        obtain ⟨g19, hf⟩ := zg_i hf
        refine va_lald hx hb E.1 hP 40 2 (zLA.get (aX5_1)) rfl g19 dX5_offerHere_58 ?_
        refine W.lcmp hx hb dX5_offerHere_59 ?_
        refine lv_if_lt (tgt := 79) hx hb dX5_offerHere_60 (by decide) (fun k20 => ?_) (fun k20 => ?_)
        · replace hf := zt k20 hf
          refine lv_aload_n hx hb dX5_offerHere_79 rfl (lv_at hl 1 rfl) ?_
          refine va_get (D := D) (ci := 4) (v := .ref (ad 40)) (C := RX5) (T := TX5) (N := 4) hx hb hts hinX5_offerHere_X5 hown E.1 hP 39 (zO.get (oX5_at)) rfl 1 (by decide) (hts (.fieldLink RX5 11 "EdgeAndSpeed$Parting" "costs" "[J") (by decide +kernel)) (fun _ h9 => h9) rfl dX5_offerHere_80 ?_
          refine lv_iload_n hx hb dX5_offerHere_83 rfl (lv_at hl 2 rfl) ?_
          refine lv_lload_n hx hb dX5_offerHere_84 rfl (lv_at hl 4 rfl) ?_
          obtain ⟨g22, hf⟩ := zg_i hf
          obtain ⟨J21, eJ21⟩ := zex (va_up J 40 (vp_updL (J 40) p1.toNatClampNeg p3))
          replace hf := zn_s eJ21 hf
          refine zast_l hx hb E.1 hP hD.D hS (aX5_1) g22 dX5_offerHere_85 eJ21 (fun H locs hP hS => ?_)
          refine lv_aload_n hx hb dX5_offerHere_86 rfl (lv_at hl 1 rfl) ?_
          refine va_get (D := D) (ci := 4) (v := .ref (ad 41)) (C := RX5) (T := TX5) (N := 4) hx hb hts hinX5_offerHere_X5 hown E.1 hP 39 (zO.get (oX5_at)) rfl 2 (by decide) (hts (.fieldLink RX5 15 "EdgeAndSpeed$Parting" "passes" "[I") (by decide +kernel)) (fun _ h9 => h9) rfl dX5_offerHere_87 ?_
          refine lv_iload_n hx hb dX5_offerHere_90 rfl (lv_at hl 2 rfl) ?_
          refine lv_iload hx hb dX5_offerHere_91 (lv_at hl 5 rfl) ?_
          obtain ⟨g24, hf⟩ := zg_i hf
          obtain ⟨I23, eI23⟩ := zex (va_up I 41 (upd (I 41) p1.toNatClampNeg p4))
          replace hf := zn_s eI23 hf
          refine zast_i hx hb E.1 hP hD.D hS (aX5_2) g24 dX5_offerHere_93 eI23 (fun H locs hP hS => ?_)
          refine lv_aload_n hx hb dX5_offerHere_94 rfl (lv_at hl 1 rfl) ?_
          refine va_get (D := D) (ci := 4) (v := .ref (ad 42)) (C := RX5) (T := TX5) (N := 4) hx hb hts hinX5_offerHere_X5 hown E.1 hP 39 (zO.get (oX5_at)) rfl 3 (by decide) (hts (.fieldLink RX5 19 "EdgeAndSpeed$Parting" "firsts" "[I") (by decide +kernel)) (fun _ h9 => h9) rfl dX5_offerHere_95 ?_
          refine lv_iload_n hx hb dX5_offerHere_98 rfl (lv_at hl 2 rfl) ?_
          refine lv_iload_n hx hb dX5_offerHere_99 rfl (lv_at hl 3 rfl) ?_
          obtain ⟨g26, hf⟩ := zg_i hf
          obtain ⟨I25, eI25⟩ := zex (va_up I23 42 (upd (I23 42) p1.toNatClampNeg p2))
          replace hf := zn_s eI25 hf
          refine zast_i hx hb E.1 hP hD.D hS (aX5_3) g26 dX5_offerHere_100 eI25 (fun H locs hP hS => ?_)
          exact hret _ _ hf _ _ _ _ hP hS dX5_offerHere_101
        · replace hf := zf k20 hf
          refine lv_iload hx hb dX5_offerHere_63 (lv_at hl 0 rfl) ?_
          refine lv_if_eq (tgt := 101) hx hb dX5_offerHere_65 (by decide) (fun k27 => ?_) (fun k27 => ?_)
          · replace hf := zt k27 hf
            exact hret _ _ hf _ _ _ _ hP hS dX5_offerHere_101
          · replace hf := zf k27 hf
            refine lv_iload hx hb dX5_offerHere_68 (lv_at hl 5 rfl) ?_
            refine lv_aload_n hx hb dX5_offerHere_70 rfl (lv_at hl 1 rfl) ?_
            refine va_get (D := D) (ci := 4) (v := .ref (ad 41)) (C := RX5) (T := TX5) (N := 4) hx hb hts hinX5_offerHere_X5 hown E.1 hP 39 (zO.get (oX5_at)) rfl 2 (by decide) (hts (.fieldLink RX5 15 "EdgeAndSpeed$Parting" "passes" "[I") (by decide +kernel)) (fun _ h9 => h9) rfl dX5_offerHere_71 ?_
            refine lv_iload_n hx hb dX5_offerHere_74 rfl (lv_at hl 2 rfl) ?_
            obtain ⟨g28, hf⟩ := zg_i hf
            refine va_iald hx hb E.1 hP 41 1 (zIA.get (aX5_2)) rfl g28 dX5_offerHere_75 ?_
            refine lv_icmp_ge (tgt := 101) hx hb dX5_offerHere_76 (by decide) (fun k29 => ?_) (fun k29 => ?_)
            · replace hf := zt k29 hf
              exact hret _ _ hf _ _ _ _ hP hS dX5_offerHere_101
            · replace hf := zf k29 hf
              refine lv_aload_n hx hb dX5_offerHere_79 rfl (lv_at hl 1 rfl) ?_
              refine va_get (D := D) (ci := 4) (v := .ref (ad 40)) (C := RX5) (T := TX5) (N := 4) hx hb hts hinX5_offerHere_X5 hown E.1 hP 39 (zO.get (oX5_at)) rfl 1 (by decide) (hts (.fieldLink RX5 11 "EdgeAndSpeed$Parting" "costs" "[J") (by decide +kernel)) (fun _ h9 => h9) rfl dX5_offerHere_80 ?_
              refine lv_iload_n hx hb dX5_offerHere_83 rfl (lv_at hl 2 rfl) ?_
              refine lv_lload_n hx hb dX5_offerHere_84 rfl (lv_at hl 4 rfl) ?_
              obtain ⟨g31, hf⟩ := zg_i hf
              obtain ⟨J30, eJ30⟩ := zex (va_up J 40 (vp_updL (J 40) p1.toNatClampNeg p3))
              replace hf := zn_s eJ30 hf
              refine zast_l hx hb E.1 hP hD.D hS (aX5_1) g31 dX5_offerHere_85 eJ30 (fun H locs hP hS => ?_)
              refine lv_aload_n hx hb dX5_offerHere_86 rfl (lv_at hl 1 rfl) ?_
              refine va_get (D := D) (ci := 4) (v := .ref (ad 41)) (C := RX5) (T := TX5) (N := 4) hx hb hts hinX5_offerHere_X5 hown E.1 hP 39 (zO.get (oX5_at)) rfl 2 (by decide) (hts (.fieldLink RX5 15 "EdgeAndSpeed$Parting" "passes" "[I") (by decide +kernel)) (fun _ h9 => h9) rfl dX5_offerHere_87 ?_
              refine lv_iload_n hx hb dX5_offerHere_90 rfl (lv_at hl 2 rfl) ?_
              refine lv_iload hx hb dX5_offerHere_91 (lv_at hl 5 rfl) ?_
              obtain ⟨g33, hf⟩ := zg_i hf
              obtain ⟨I32, eI32⟩ := zex (va_up I 41 (upd (I 41) p1.toNatClampNeg p4))
              replace hf := zn_s eI32 hf
              refine zast_i hx hb E.1 hP hD.D hS (aX5_2) g33 dX5_offerHere_93 eI32 (fun H locs hP hS => ?_)
              refine lv_aload_n hx hb dX5_offerHere_94 rfl (lv_at hl 1 rfl) ?_
              refine va_get (D := D) (ci := 4) (v := .ref (ad 42)) (C := RX5) (T := TX5) (N := 4) hx hb hts hinX5_offerHere_X5 hown E.1 hP 39 (zO.get (oX5_at)) rfl 3 (by decide) (hts (.fieldLink RX5 19 "EdgeAndSpeed$Parting" "firsts" "[I") (by decide +kernel)) (fun _ h9 => h9) rfl dX5_offerHere_95 ?_
              refine lv_iload_n hx hb dX5_offerHere_98 rfl (lv_at hl 2 rfl) ?_
              refine lv_iload_n hx hb dX5_offerHere_99 rfl (lv_at hl 3 rfl) ?_
              obtain ⟨g35, hf⟩ := zg_i hf
              obtain ⟨I34, eI34⟩ := zex (va_up I32 42 (upd (I32 42) p1.toNatClampNeg p2))
              replace hf := zn_s eI34 hf
              refine zast_i hx hb E.1 hP hD.D hS (aX5_3) g35 dX5_offerHere_100 eI34 (fun H locs hP hS => ?_)
              exact hret _ _ hf _ _ _ _ hP hS dX5_offerHere_101
    refine lv_icmp_eq (tgt := 38) hx hb dX5_offerHere_20 (by decide) (fun k5 => ?_) (fun k5 => ?_)
    · replace hf := zt k5 hf
      refine lv_iconst (v := 0) hx hb dX5_offerHere_38 (by decide) ?_
      exact hjr7 _ (Option.some.inj hf) _ _ _ hP hS (lv_sub hl [0, 1, 2, 3, 4] rfl)
    · replace hf := zf k5 hf
      refine lv_lload_n hx hb dX5_offerHere_23 rfl (lv_at hl 3 rfl) ?_
      refine lv_aload_n hx hb dX5_offerHere_24 rfl (lv_at hl 0 rfl) ?_
      refine va_get (D := D) (ci := 4) (v := .ref (ad 40)) (C := RX5) (T := TX5) (N := 4) hx hb hts hinX5_offerHere_X5 hown E.1 hP 39 (zO.get (oX5_at)) rfl 1 (by decide) (hts (.fieldLink RX5 11 "EdgeAndSpeed$Parting" "costs" "[J") (by decide +kernel)) (fun _ h9 => h9) rfl dX5_offerHere_25 ?_
      refine lv_iload_n hx hb dX5_offerHere_28 rfl (lv_at hl 1 rfl) ?_
      obtain ⟨g8, hf⟩ := zg_i hf
      refine va_lald hx hb E.1 hP 40 2 (zLA.get (aX5_1)) rfl g8 dX5_offerHere_29 ?_
      refine W.lcmp hx hb dX5_offerHere_30 ?_
      refine lv_if_ne (tgt := 38) hx hb dX5_offerHere_31 (by decide) (fun k9 => ?_) (fun k9 => ?_)
      · replace hf := zf k9 hf
        refine lv_iconst (v := 0) hx hb dX5_offerHere_38 (by decide) ?_
        exact hjr7 _ (Option.some.inj hf) _ _ _ hP hS (lv_sub hl [0, 1, 2, 3, 4] rfl)
      · replace hf := zt k9 hf
        refine lv_iconst (v := 1) hx hb dX5_offerHere_34 (by decide) ?_
        refine lv_goto (tgt := 39) hx hb dX5_offerHere_35 (by decide) ?_
        exact hjr7 _ (Option.some.inj hf) _ _ _ hP hS (lv_sub hl [0, 1, 2, 3, 4] rfl)
  · replace hf := zt k3 hf
    exact hret _ _ hf _ _ _ _ hP hS dX5_offerHere_11
theorem c_X5_offerHere (l : Launch) {D : va_G} {a0 : Nat → Nat} {A : Nat → Prop} {cy : Nat → ClassId} {ad : Nat → Nat} (hD : zD A 74 ad) {I : zI} {J : zJ} (p1 : Int32) (p2 : Int32) (p3 : Int64) (p4 : Int32) {rI : zI} {rJ : zJ} (hf : f_X5_offerHere I J p1 p2 p3 p4 = some (rI, rJ)) : Met l yX5_offerHere wsX5_offerHere { frames := 1, cells := 0, slots := 0, locals := 22 } (zPc D a0 A cy [.ref (ad 39), .int p1, .int p2, .long p3, .int p4] (zw 74 (kC cy ad a0) ad I J)) (zQv D A (zw 74 (kC cy ad a0) ad rI rJ)) 0 0 A :=
  zmet RX5 (by decide) rfl rfl (Nat.le_of_ble_eq_true rfl) (fun p e R s m below meth c Q hfr hlo ls S0 hQ => w_X5_offerHere hfr hlo hD p1 p2 p3 p4 hf S0 (fun tI tJ hq H locs ls pc hP hS hd => by cases hq; exact hQ H locs _ hS (fun hx hb hr hlocks hfree => W.vret hx hb hr (fun t ht hW => ⟨⟨(), rfl, trivial, zht ht hP⟩, hS.F ht⟩) hfree hd hlocks)))
theorem ddX5_offerHere : yX5_offerHere.cls = RX5 ∧ yX5_offerHere.cls ≠ "java/lang/invoke/MethodHandle" ∧ yX5_offerHere.cls ≠ "java/lang/invoke/VarHandle" ∧ (parseMethodDescriptor yX5_offerHere.desc).map (fun d => d.parameters.length) = some 4 := by decide +kernel

def f_X5_offer_L81 (x18 : Int32) (p3 : Int32) (x1 : Int32) (x5 : Int32) (p1 : Int32) (u11 : Int64) (x20 : Int32) (I21 : zI) (J22 : zJ) : Option ((Int32 × zI × zJ) ⊕ (zI × zJ)) := (if x18 < x20 then some (.inr (I21, J22)) else zb1 (f_X5_cell I21 J22 (p3 - x1) (x20 + x5)) (fun x24 => (if x1 = p3 then zb1 (f_X5_cell I21 J22 p3 x20) (fun x42 => zb2 (f_X5_offerHere I21 J22 x42 p1 u11 1) (fun I44 J45 => zn (x20 + 1) (fun y47 => some (.inl (y47, I44, J45))))) else zb1 (f_X11_within I21 J22 x24 0 908) (fun x27 => (if x27 = 0 then zn (x20 + 1) (fun y30 => some (.inl (y30, I21, J22))) else zg (¬ (x24 < 0 ∨ 909 ≤ x24.toNatClampNeg)) ((if (I21 42 x24.toNatClampNeg) = (-4) then zn (x20 + 1) (fun y33 => some (.inl (y33, I21, J22))) else zb1 (f_X5_cell I21 J22 p3 x20) (fun x34 => zg (¬ (x24 < 0 ∨ 909 ≤ x24.toNatClampNeg)) (zg (¬ (x24 < 0 ∨ 909 ≤ x24.toNatClampNeg)) (zb2 (f_X5_offerHere I21 J22 x34 p1 (u11 + (J22 40 x24.toNatClampNeg)) (1 + (I21 41 x24.toNatClampNeg))) (fun I38 J39 => zn (x20 + 1) (fun y41 => some (.inl (y41, I38, J39))))))))))))))
def f_X5_offer (I : zI) (J : zJ) (p1 : Int32) (p2 : Int32) (p3 : Int32) (p4 : Int32) : Option (zI × zJ) := zb1 (f_X11_depthOf I J p1) (fun x1 => zb1 (f_X11_speedOf I J p1) (fun x3 => zb1 (f_X0_wears I J 4 p2 x3 x1 p4) (fun x5 => zb1 (f_X11_speedOf I J p1) (fun x7 => zb1 (f_X0_minutes I J 4 p2 x7) (fun x9 => zb1 (f_X0_cost I J 4 x9 0) (fun u11 => zb1 ((if x1 = p3 then zb1 (f_X0_fineOf I J 4 p2) (fun x16 => some ((if x16 < (100 - x5) then x16 else (100 - x5)))) else some ((100 - x5))) : Option Int32) (fun x18 => zb2 (zl (fun v : (Int32 × zI × zJ) => f_X5_offer_L81 x18 p3 x1 x5 p1 u11 v.1 v.2.1 v.2.2) zF (0, I, J)) (fun I48 J49 => some (I48, J49)))))))))
theorem hinX5_offer_X5 : ∀ w ∈ u_ws RX5 TX5 4, w ∈ wsX5_offer := by decide +kernel
set_option maxHeartbeats 4000000 in
set_option maxRecDepth 100000 in
theorem w_X5_offer {p : Program} {l : Launch} {e : Env} {R : Room} {s : State} {m : MethodId} {args : Array Value} {below : List Frame} {meth : Method} {c : Code} {Q : State → Prop} (hfr : 2 ≤ R.frames) (hlo : 48 ≤ R.locals) {D : va_G} {a0 : Nat → Nat} {A : Nat → Prop} {cy : Nat → ClassId} {ad : Nat → Nat} (hD : zD A 74 ad) {I : zI} {J : zJ} (p1 : Int32) (p2 : Int32) (p3 : Int32) (p4 : Int32) {rI : zI} {rJ : zJ} (hf : f_X5_offer I J p1 p2 p3 p4 = some (rI, rJ)) {ls : Array Slot} (S0 : zSt p m c cX5_offer 12 s args wsX5_offer RX5 D a0 A cy (zw 74 (kC cy ad a0) ad I J) [.ref (ad 39), .int p1, .int p2, .int p3, .int p4] ls) (hret : ∀ (tI : zI) (tJ : zJ), some (tI, tJ) = some (rI, rJ) → ∀ (H : Heap) (locs : List Loc) (ls : Array Slot) (pc : Nat), va_P D vwCl (zw 74 (kC cy ad a0) ad tI tJ) H → va_S A s.heap H locs → decode cX5_offer pc = .ok (.return_, 1) → W p l e R s m args below meth c H locs 0 0 Q (F0 m pc ls [])) : W p l e R s m args below meth c s.heap [] 0 0 Q (F0 m 0 ls []) := by
  obtain ⟨S, E, hP, hl⟩ := S0
  obtain ⟨hx, hb, hml, hown, hts⟩ := id S
  have hS : va_S A s.heap s.heap [] := va_S.rf
  replace hl : lv_has ls 12 [(0, .ref (ad 39)), (1, .int p1), (2, .int p2), (3, .int p3), (4, .int p4)] := hl
  unfold f_X5_offer at hf
  refine lv_iload_n hx hb dX5_offer_0 rfl (lv_at hl 1 rfl) ?_
  obtain ⟨x1, h2, hf⟩ := zb1_e hf
  refine zgo_i (zrunSN (As := [.int p1]) (rest := []) S (c_X11_depthOf l hD p1 h2) ⟨va_cnB (host := "EdgeAndSpeed") 1 hts gX5_offer_X11_depthOf_n46 rfl rfl rfl (zNmw_10 E.2.2) (hts (.initialized RX11) (by decide +kernel)) ddX11_depthOf ⟨Nat.le_trans (Nat.le_of_ble_eq_true rfl) hfr, Nat.le_trans (Nat.le_of_ble_eq_true rfl) hlo⟩, hts (.static yX11_depthOf) (by decide +kernel), trivial⟩ E hP hS hl.1 rfl rfl (Nat.le_of_ble_eq_true rfl) dX5_offer_1) hS (fun H locs hP hS => ?_)
  refine lv_istore (lv' := [(5, .int x1), (0, .ref (ad 39)), (1, .int p1), (2, .int p2), (3, .int p3), (4, .int p4)]) hx hb dX5_offer_4 hl (by decide) rfl (fun ls hl => ?_)
  refine lv_aload_n hx hb dX5_offer_6 rfl (lv_at hl 1 rfl) ?_
  refine va_get (D := D) (ci := 4) (v := .ref (ad 4)) (C := RX5) (T := TX5) (N := 4) hx hb hts hinX5_offer_X5 hown E.1 hP 39 (zO.get (oX5_at)) rfl 0 (by decide) (hts (.fieldLink RX5 22 "EdgeAndSpeed$Parting" "bench" "LEdgeAndSpeed$Bench;") (by decide +kernel)) (fun _ h9 => h9) rfl dX5_offer_7 ?_
  refine lv_iload_n hx hb dX5_offer_10 rfl (lv_at hl 3 rfl) ?_
  refine lv_iload_n hx hb dX5_offer_11 rfl (lv_at hl 2 rfl) ?_
  obtain ⟨x3, h4, hf⟩ := zb1_e hf
  refine zgo_i (zrunSN (As := [.int p1]) (rest := [.int p2, .ref (ad 4)]) S (c_X11_speedOf l hD p1 h4) ⟨va_cnB (host := "EdgeAndSpeed") 1 hts gX5_offer_X11_speedOf_n49 rfl rfl rfl (zNmw_11 E.2.2) (hts (.initialized RX11) (by decide +kernel)) ddX11_speedOf ⟨Nat.le_trans (Nat.le_of_ble_eq_true rfl) hfr, Nat.le_trans (Nat.le_of_ble_eq_true rfl) hlo⟩, hts (.static yX11_speedOf) (by decide +kernel), trivial⟩ E hP hS hl.1 rfl rfl (Nat.le_of_ble_eq_true rfl) dX5_offer_12) hS (fun H locs hP hS => ?_)
  refine lv_iload hx hb dX5_offer_15 (lv_at hl 0 rfl) ?_
  refine lv_iload hx hb dX5_offer_17 (lv_at hl 5 rfl) ?_
  obtain ⟨x5, h6, hf⟩ := zb1_e hf
  refine zgo_i (zrunV (As := [.int p2, .int x3, .int x1, .int p4]) (rest := []) S (c_X0_wears l hD 4 (zBat_C (by decide)) p2 x3 x1 p4 h6) (cwV 4 hts gX5_offer_X0_wears rfl rfl rfl ddX0_wears ⟨Nat.le_trans (Nat.le_of_ble_eq_true rfl) hfr, Nat.le_trans (Nat.le_of_ble_eq_true rfl) hlo⟩) (va_recv E.1 hP (q := (RX0, TX0, 17)) (ci := 0) rfl (zO.get (zBat_o (zBat_C (by decide))))) E hP hS hl.1 rfl rfl (Nat.le_of_ble_eq_true rfl) dX5_offer_19) hS (fun H locs hP hS => ?_)
  refine lv_istore (lv' := [(6, .int x5), (5, .int x1), (0, .ref (ad 39)), (1, .int p1), (2, .int p2), (3, .int p3), (4, .int p4)]) hx hb dX5_offer_22 hl (by decide) rfl (fun ls hl => ?_)
  refine lv_aload_n hx hb dX5_offer_24 rfl (lv_at hl 2 rfl) ?_
  refine va_get (D := D) (ci := 4) (v := .ref (ad 4)) (C := RX5) (T := TX5) (N := 4) hx hb hts hinX5_offer_X5 hown E.1 hP 39 (zO.get (oX5_at)) rfl 0 (by decide) (hts (.fieldLink RX5 22 "EdgeAndSpeed$Parting" "bench" "LEdgeAndSpeed$Bench;") (by decide +kernel)) (fun _ h9 => h9) rfl dX5_offer_25 ?_
  refine lv_aload_n hx hb dX5_offer_28 rfl (lv_at hl 2 rfl) ?_
  refine va_get (D := D) (ci := 4) (v := .ref (ad 4)) (C := RX5) (T := TX5) (N := 4) hx hb hts hinX5_offer_X5 hown E.1 hP 39 (zO.get (oX5_at)) rfl 0 (by decide) (hts (.fieldLink RX5 22 "EdgeAndSpeed$Parting" "bench" "LEdgeAndSpeed$Bench;") (by decide +kernel)) (fun _ h9 => h9) rfl dX5_offer_29 ?_
  refine lv_iload_n hx hb dX5_offer_32 rfl (lv_at hl 4 rfl) ?_
  refine lv_iload_n hx hb dX5_offer_33 rfl (lv_at hl 3 rfl) ?_
  obtain ⟨x7, h8, hf⟩ := zb1_e hf
  refine zgo_i (zrunSN (As := [.int p1]) (rest := [.int p2, .ref (ad 4), .ref (ad 4)]) S (c_X11_speedOf l hD p1 h8) ⟨va_cnB (host := "EdgeAndSpeed") 1 hts gX5_offer_X11_speedOf_n49 rfl rfl rfl (zNmw_11 E.2.2) (hts (.initialized RX11) (by decide +kernel)) ddX11_speedOf ⟨Nat.le_trans (Nat.le_of_ble_eq_true rfl) hfr, Nat.le_trans (Nat.le_of_ble_eq_true rfl) hlo⟩, hts (.static yX11_speedOf) (by decide +kernel), trivial⟩ E hP hS hl.1 rfl rfl (Nat.le_of_ble_eq_true rfl) dX5_offer_34) hS (fun H locs hP hS => ?_)
  obtain ⟨x9, h10, hf⟩ := zb1_e hf
  refine zgo_i (zrunV (As := [.int p2, .int x7]) (rest := [.ref (ad 4)]) S (c_X0_minutes l hD 4 (zBat_C (by decide)) p2 x7 h10) (cwV 2 hts gX5_offer_X0_minutes rfl rfl rfl ddX0_minutes ⟨Nat.le_trans (Nat.le_of_ble_eq_true rfl) hfr, Nat.le_trans (Nat.le_of_ble_eq_true rfl) hlo⟩) (va_recv E.1 hP (q := (RX0, TX0, 17)) (ci := 0) rfl (zO.get (zBat_o (zBat_C (by decide))))) E hP hS hl.1 rfl rfl (Nat.le_of_ble_eq_true rfl) dX5_offer_37) hS (fun H locs hP hS => ?_)
  refine lv_iconst (v := 0) hx hb dX5_offer_40 (by decide) ?_
  obtain ⟨u11, h12, hf⟩ := zb1_e hf
  refine zgo_l (zrunV (As := [.int x9, .int 0]) (rest := []) S (c_X0_cost l hD 4 (zBat_C (by decide)) x9 0 h12) (cwV 2 hts gX5_offer_X0_cost rfl rfl rfl ddX0_cost ⟨Nat.le_trans (Nat.le_of_ble_eq_true rfl) hfr, Nat.le_trans (Nat.le_of_ble_eq_true rfl) hlo⟩) (va_recv E.1 hP (q := (RX0, TX0, 17)) (ci := 0) rfl (zO.get (zBat_o (zBat_C (by decide))))) E hP hS hl.1 rfl rfl (Nat.le_of_ble_eq_true rfl) dX5_offer_41) hS (fun H locs hP hS => ?_)
  refine lv_lstore (lv' := [(7, .long u11), (6, .int x5), (5, .int x1), (0, .ref (ad 39)), (1, .int p1), (2, .int p2), (3, .int p3), (4, .int p4)]) hx hb dX5_offer_44 hl (by decide) rfl (fun ls hl => ?_)
  refine lv_iload hx hb dX5_offer_46 (lv_at hl 2 rfl) ?_
  refine lv_iload_n hx hb dX5_offer_48 rfl (lv_at hl 6 rfl) ?_
  obtain ⟨zr15, hf, hzr15⟩ := zb1_i hf
  have hjr15 : ∀ (x18 : Int32), x18 = zr15 → ∀ (H : Heap) (locs : List Loc) (ls : Array Slot), va_P D vwCl (zw 74 (kC cy ad a0) ad I J) H → va_S A s.heap H locs → lv_has ls 12 [(0, .ref (ad 39)), (1, .int p1), (3, .int p3), (5, .int x1), (6, .int x5), (7, .long u11)] → W p l e R s m args below meth c H locs 0 0 Q (F0 m 76 ls [.int x18]) := by
    intro x18 ez H locs ls hP hS hl
    have hf := hzr15 x18 ez
    refine lv_istore (lv' := [(9, .int x18), (0, .ref (ad 39)), (1, .int p1), (3, .int p3), (5, .int x1), (6, .int x5), (7, .long u11)]) hx hb dX5_offer_76 hl (by decide) rfl (fun ls hl => ?_)
    refine lv_iconst (v := 0) hx hb dX5_offer_78 (by decide) ?_
    refine lv_istore (lv' := [(10, .int 0), (9, .int x18), (0, .ref (ad 39)), (1, .int p1), (3, .int p3), (5, .int x1), (6, .int x5), (7, .long u11)]) hx hb dX5_offer_79 hl (by decide) rfl (fun ls hl => ?_)
    obtain ⟨zl19, hf, hzl19⟩ := zb2_i hf
    have hjl19 : ∀ (I48 : zI) (J49 : zJ), (I48, J49) = zl19 → ∀ (H : Heap) (locs : List Loc) (ls : Array Slot), va_P D vwCl (zw 74 (kC cy ad a0) ad I48 J49) H → va_S A s.heap H locs → lv_has ls 12 [] → W p l e R s m args below meth c H locs 0 0 Q (F0 m 185 ls []) := by
      intro I48 J49 ez H locs ls hP hS hl
      have hf := hzl19 I48 J49 ez
      exact hret _ _ hf _ _ _ _ hP hS dX5_offer_185
    refine zl_i (V := (Int32 × zI × zJ)) (P := fun v => ∀ (H : Heap) (locs : List Loc) (ls : Array Slot), va_P D vwCl (zw 74 (kC cy ad a0) ad v.2.1 v.2.2) H → va_S A s.heap H locs → lv_has ls 12 [(0, .ref (ad 39)), (1, .int p1), (3, .int p3), (5, .int x1), (6, .int x5), (7, .long u11), (9, .int x18), (10, .int (v.1))] → W p l e R s m args below meth c H locs 0 0 Q (F0 m 81 ls [])) ?_ _ _ hf _ _ _ hP hS (lv_sub hl [2, 3, 4, 5, 6, 7, 1, 0] rfl)
    intro v z hf hcl19 hdl19
    obtain ⟨x20, I21, J22⟩ := v
    intro H locs ls hP hS hl
    replace hf : f_X5_offer_L81 x18 p3 x1 x5 p1 u11 x20 I21 J22 = some z := hf
    unfold f_X5_offer_L81 at hf
    replace hP : va_P D vwCl (zw 74 (kC cy ad a0) ad I21 J22) H := hP
    replace hl : lv_has ls 12 [(0, .ref (ad 39)), (1, .int p1), (3, .int p3), (5, .int x1), (6, .int x5), (7, .long u11), (9, .int x18), (10, .int x20)] := hl
    refine lv_iload hx hb dX5_offer_81 (lv_at hl 7 rfl) ?_
    refine lv_iload hx hb dX5_offer_83 (lv_at hl 6 rfl) ?_
    refine lv_icmp_gt (tgt := 185) hx hb dX5_offer_85 (by decide) (fun k23 => ?_) (fun k23 => ?_)
    · replace hf := zt k23 hf
      exact hjl19 _ _ (hdl19 _ (Option.some.inj hf).symm) _ _ _ hP hS (lv_sub hl [] rfl)
    · replace hf := zf k23 hf
      refine lv_iload_n hx hb dX5_offer_88 rfl (lv_at hl 2 rfl) ?_
      refine lv_iload hx hb dX5_offer_89 (lv_at hl 3 rfl) ?_
      refine lv_isub hx hb dX5_offer_91 ?_
      refine lv_iload hx hb dX5_offer_92 (lv_at hl 7 rfl) ?_
      refine lv_iload hx hb dX5_offer_94 (lv_at hl 4 rfl) ?_
      refine lv_iadd hx hb dX5_offer_96 ?_
      obtain ⟨x24, h25, hf⟩ := zb1_e hf
      refine zgo_i (zrunS (As := [.int (p3 - x1), .int (x20 + x5)]) (rest := []) S (c_X5_cell l hD (p3 - x1) (x20 + x5) h25) (va_cwS 2 hts gX5_offer_X5_cell rfl rfl rfl ddX5_cell ⟨Nat.le_trans (Nat.le_of_ble_eq_true rfl) hfr, Nat.le_trans (Nat.le_of_ble_eq_true rfl) hlo⟩) E hP hS hl.1 rfl rfl (Nat.le_of_ble_eq_true rfl) dX5_offer_97) hS (fun H locs hP hS => ?_)
      refine lv_istore (lv' := [(11, .int x24), (0, .ref (ad 39)), (1, .int p1), (3, .int p3), (5, .int x1), (6, .int x5), (7, .long u11), (9, .int x18), (10, .int x20)]) hx hb dX5_offer_100 hl (by decide) rfl (fun ls hl => ?_)
      refine lv_iload hx hb dX5_offer_102 (lv_at hl 4 rfl) ?_
      refine lv_iload_n hx hb dX5_offer_104 rfl (lv_at hl 3 rfl) ?_
      refine lv_icmp_ne (tgt := 125) hx hb dX5_offer_105 (by decide) (fun k26 => ?_) (fun k26 => ?_)
      · replace hf := zf k26 hf
        refine lv_iload hx hb dX5_offer_125 (lv_at hl 0 rfl) ?_
        refine lv_iconst (v := 0) hx hb dX5_offer_127 (by decide) ?_
        refine lv_sipush (v := 908) hx hb dX5_offer_128 (by decide) ?_
        obtain ⟨x27, h28, hf⟩ := zb1_e hf
        refine zgo_i (zrunSN (As := [.int x24, .int 0, .int 908]) (rest := []) S (c_X11_within l hD x24 0 908 h28) ⟨va_cnB (host := "EdgeAndSpeed") 3 hts gX5_offer_X11_within_n79 rfl rfl rfl (zNmw_12 E.2.2) (hts (.initialized RX11) (by decide +kernel)) ddX11_within ⟨Nat.le_trans (Nat.le_of_ble_eq_true rfl) hfr, Nat.le_trans (Nat.le_of_ble_eq_true rfl) hlo⟩, hts (.static yX11_within) (by decide +kernel), trivial⟩ E hP hS hl.1 rfl rfl (Nat.le_of_ble_eq_true rfl) dX5_offer_131) hS (fun H locs hP hS => ?_)
        refine lv_if_eq (tgt := 179) hx hb dX5_offer_134 (by decide) (fun k29 => ?_) (fun k29 => ?_)
        · replace hf := zt k29 hf
          obtain ⟨y30, ey30⟩ := zex (x20 + 1)
          replace hf := zn_s ey30 hf
          refine lv_iinc (v := y30) (lv' := [(10, .int y30), (11, .int x24), (0, .ref (ad 39)), (1, .int p1), (3, .int p3), (5, .int x1), (6, .int x5), (7, .long u11), (9, .int x18)]) hx hb dX5_offer_179 hl (k := 8) rfl (by rw [ey30]; rfl) (by decide) rfl (fun ls hl => ?_)
          refine lv_goto (tgt := 81) hx hb dX5_offer_182 (by decide) ?_
          exact hcl19 _ (Option.some.inj hf).symm _ _ _ hP hS (lv_sub hl [2, 3, 4, 5, 6, 7, 8, 0] rfl)
        · replace hf := zf k29 hf
          refine lv_aload_n hx hb dX5_offer_137 rfl (lv_at hl 1 rfl) ?_
          refine va_get (D := D) (ci := 4) (v := .ref (ad 42)) (C := RX5) (T := TX5) (N := 4) hx hb hts hinX5_offer_X5 hown E.1 hP 39 (zO.get (oX5_at)) rfl 3 (by decide) (hts (.fieldLink RX5 19 "EdgeAndSpeed$Parting" "firsts" "[I") (by decide +kernel)) (fun _ h9 => h9) rfl dX5_offer_138 ?_
          refine lv_iload hx hb dX5_offer_141 (lv_at hl 0 rfl) ?_
          obtain ⟨g31, hf⟩ := zg_i hf
          refine va_iald hx hb E.1 hP 42 1 (zIA.get (aX5_3)) rfl g31 dX5_offer_143 ?_
          refine lv_bipush (v := (-4)) hx hb dX5_offer_144 (by decide) ?_
          refine lv_icmp_eq (tgt := 179) hx hb dX5_offer_146 (by decide) (fun k32 => ?_) (fun k32 => ?_)
          · replace hf := zt k32 hf
            obtain ⟨y33, ey33⟩ := zex (x20 + 1)
            replace hf := zn_s ey33 hf
            refine lv_iinc (v := y33) (lv' := [(10, .int y33), (11, .int x24), (0, .ref (ad 39)), (1, .int p1), (3, .int p3), (5, .int x1), (6, .int x5), (7, .long u11), (9, .int x18)]) hx hb dX5_offer_179 hl (k := 8) rfl (by rw [ey33]; rfl) (by decide) rfl (fun ls hl => ?_)
            refine lv_goto (tgt := 81) hx hb dX5_offer_182 (by decide) ?_
            exact hcl19 _ (Option.some.inj hf).symm _ _ _ hP hS (lv_sub hl [2, 3, 4, 5, 6, 7, 8, 0] rfl)
          · replace hf := zf k32 hf
            refine lv_aload_n hx hb dX5_offer_149 rfl (lv_at hl 1 rfl) ?_
            refine lv_iload_n hx hb dX5_offer_150 rfl (lv_at hl 3 rfl) ?_
            refine lv_iload hx hb dX5_offer_151 (lv_at hl 8 rfl) ?_
            obtain ⟨x34, h35, hf⟩ := zb1_e hf
            refine zgo_i (zrunS (As := [.int p3, .int x20]) (rest := [.ref (ad 39)]) S (c_X5_cell l hD p3 x20 h35) (va_cwS 2 hts gX5_offer_X5_cell rfl rfl rfl ddX5_cell ⟨Nat.le_trans (Nat.le_of_ble_eq_true rfl) hfr, Nat.le_trans (Nat.le_of_ble_eq_true rfl) hlo⟩) E hP hS hl.1 rfl rfl (Nat.le_of_ble_eq_true rfl) dX5_offer_153) hS (fun H locs hP hS => ?_)
            refine lv_iload_n hx hb dX5_offer_156 rfl (lv_at hl 2 rfl) ?_
            refine lv_lload hx hb dX5_offer_157 (lv_at hl 6 rfl) ?_
            refine lv_aload_n hx hb dX5_offer_159 rfl (lv_at hl 1 rfl) ?_
            refine va_get (D := D) (ci := 4) (v := .ref (ad 40)) (C := RX5) (T := TX5) (N := 4) hx hb hts hinX5_offer_X5 hown E.1 hP 39 (zO.get (oX5_at)) rfl 1 (by decide) (hts (.fieldLink RX5 11 "EdgeAndSpeed$Parting" "costs" "[J") (by decide +kernel)) (fun _ h9 => h9) rfl dX5_offer_160 ?_
            refine lv_iload hx hb dX5_offer_163 (lv_at hl 0 rfl) ?_
            obtain ⟨g36, hf⟩ := zg_i hf
            refine va_lald hx hb E.1 hP 40 2 (zLA.get (aX5_1)) rfl g36 dX5_offer_165 ?_
            refine lv_ladd hx hb dX5_offer_166 ?_
            refine lv_iconst (v := 1) hx hb dX5_offer_167 (by decide) ?_
            refine lv_aload_n hx hb dX5_offer_168 rfl (lv_at hl 1 rfl) ?_
            refine va_get (D := D) (ci := 4) (v := .ref (ad 41)) (C := RX5) (T := TX5) (N := 4) hx hb hts hinX5_offer_X5 hown E.1 hP 39 (zO.get (oX5_at)) rfl 2 (by decide) (hts (.fieldLink RX5 15 "EdgeAndSpeed$Parting" "passes" "[I") (by decide +kernel)) (fun _ h9 => h9) rfl dX5_offer_169 ?_
            refine lv_iload hx hb dX5_offer_172 (lv_at hl 0 rfl) ?_
            obtain ⟨g37, hf⟩ := zg_i hf
            refine va_iald hx hb E.1 hP 41 1 (zIA.get (aX5_2)) rfl g37 dX5_offer_174 ?_
            refine lv_iadd hx hb dX5_offer_175 ?_
            obtain ⟨I38, J39, h40, hf⟩ := zb2_e hf
            refine zgo_v (zrunV (As := [.int x34, .int p1, .long (u11 + (J22 40 x24.toNatClampNeg)), .int (1 + (I21 41 x24.toNatClampNeg))]) (rest := []) S (c_X5_offerHere l hD x34 p1 (u11 + (J22 40 x24.toNatClampNeg)) (1 + (I21 41 x24.toNatClampNeg)) h40) (cwV 4 hts gX5_offer_X5_offerHere rfl rfl rfl ddX5_offerHere ⟨Nat.le_trans (Nat.le_of_ble_eq_true rfl) hfr, Nat.le_trans (Nat.le_of_ble_eq_true rfl) hlo⟩) (va_recv E.1 hP (q := (RX5, TX5, 4)) (ci := 4) rfl (zO.get (oX5_at))) E hP hS hl.1 rfl rfl (Nat.le_of_ble_eq_true rfl) dX5_offer_176) hS (fun H locs hP hS => ?_)
            obtain ⟨y41, ey41⟩ := zex (x20 + 1)
            replace hf := zn_s ey41 hf
            refine lv_iinc (v := y41) (lv' := [(10, .int y41), (11, .int x24), (0, .ref (ad 39)), (1, .int p1), (3, .int p3), (5, .int x1), (6, .int x5), (7, .long u11), (9, .int x18)]) hx hb dX5_offer_179 hl (k := 8) rfl (by rw [ey41]; rfl) (by decide) rfl (fun ls hl => ?_)
            refine lv_goto (tgt := 81) hx hb dX5_offer_182 (by decide) ?_
            exact hcl19 _ (Option.some.inj hf).symm _ _ _ hP hS (lv_sub hl [2, 3, 4, 5, 6, 7, 8, 0] rfl)
      · replace hf := zt k26 hf
        refine lv_aload_n hx hb dX5_offer_108 rfl (lv_at hl 1 rfl) ?_
        refine lv_iload_n hx hb dX5_offer_109 rfl (lv_at hl 3 rfl) ?_
        refine lv_iload hx hb dX5_offer_110 (lv_at hl 8 rfl) ?_
        obtain ⟨x42, h43, hf⟩ := zb1_e hf
        refine zgo_i (zrunS (As := [.int p3, .int x20]) (rest := [.ref (ad 39)]) S (c_X5_cell l hD p3 x20 h43) (va_cwS 2 hts gX5_offer_X5_cell rfl rfl rfl ddX5_cell ⟨Nat.le_trans (Nat.le_of_ble_eq_true rfl) hfr, Nat.le_trans (Nat.le_of_ble_eq_true rfl) hlo⟩) E hP hS hl.1 rfl rfl (Nat.le_of_ble_eq_true rfl) dX5_offer_112) hS (fun H locs hP hS => ?_)
        refine lv_iload_n hx hb dX5_offer_115 rfl (lv_at hl 2 rfl) ?_
        refine lv_lload hx hb dX5_offer_116 (lv_at hl 6 rfl) ?_
        refine lv_iconst (v := 1) hx hb dX5_offer_118 (by decide) ?_
        obtain ⟨I44, J45, h46, hf⟩ := zb2_e hf
        refine zgo_v (zrunV (As := [.int x42, .int p1, .long u11, .int 1]) (rest := []) S (c_X5_offerHere l hD x42 p1 u11 1 h46) (cwV 4 hts gX5_offer_X5_offerHere rfl rfl rfl ddX5_offerHere ⟨Nat.le_trans (Nat.le_of_ble_eq_true rfl) hfr, Nat.le_trans (Nat.le_of_ble_eq_true rfl) hlo⟩) (va_recv E.1 hP (q := (RX5, TX5, 4)) (ci := 4) rfl (zO.get (oX5_at))) E hP hS hl.1 rfl rfl (Nat.le_of_ble_eq_true rfl) dX5_offer_119) hS (fun H locs hP hS => ?_)
        refine lv_goto (tgt := 179) hx hb dX5_offer_122 (by decide) ?_
        obtain ⟨y47, ey47⟩ := zex (x20 + 1)
        replace hf := zn_s ey47 hf
        refine lv_iinc (v := y47) (lv' := [(10, .int y47), (11, .int x24), (0, .ref (ad 39)), (1, .int p1), (3, .int p3), (5, .int x1), (6, .int x5), (7, .long u11), (9, .int x18)]) hx hb dX5_offer_179 hl (k := 8) rfl (by rw [ey47]; rfl) (by decide) rfl (fun ls hl => ?_)
        refine lv_goto (tgt := 81) hx hb dX5_offer_182 (by decide) ?_
        exact hcl19 _ (Option.some.inj hf).symm _ _ _ hP hS (lv_sub hl [2, 3, 4, 5, 6, 7, 8, 0] rfl)
  refine lv_icmp_ne (tgt := 71) hx hb dX5_offer_49 (by decide) (fun k13 => ?_) (fun k13 => ?_)
  · replace hf := zf k13 hf
    refine lv_bipush (v := 100) hx hb dX5_offer_71 (by decide) ?_
    refine lv_iload hx hb dX5_offer_73 (lv_at hl 1 rfl) ?_
    refine lv_isub hx hb dX5_offer_75 ?_
    exact hjr15 _ (Option.some.inj hf) _ _ _ hP hS (lv_sub hl [3, 4, 6, 2, 1, 0] rfl)
  · replace hf := zt k13 hf
    refine lv_bipush (v := 100) hx hb dX5_offer_52 (by decide) ?_
    refine lv_iload hx hb dX5_offer_54 (lv_at hl 1 rfl) ?_
    refine lv_isub hx hb dX5_offer_56 ?_
    refine lv_aload_n hx hb dX5_offer_57 rfl (lv_at hl 3 rfl) ?_
    refine va_get (D := D) (ci := 4) (v := .ref (ad 4)) (C := RX5) (T := TX5) (N := 4) hx hb hts hinX5_offer_X5 hown E.1 hP 39 (zO.get (oX5_at)) rfl 0 (by decide) (hts (.fieldLink RX5 22 "EdgeAndSpeed$Parting" "bench" "LEdgeAndSpeed$Bench;") (by decide +kernel)) (fun _ h9 => h9) rfl dX5_offer_58 ?_
    refine lv_iload_n hx hb dX5_offer_61 rfl (lv_at hl 5 rfl) ?_
    obtain ⟨x16, h17, hf⟩ := zb1_e hf
    refine zgo_i (zrunV (As := [.int p2]) (rest := [.int (100 - x5)]) S (c_X0_fineOf l hD 4 (zBat_C (by decide)) p2 h17) (cwV 1 hts gX5_offer_X0_fineOf rfl rfl rfl ddX0_fineOf ⟨Nat.le_trans (Nat.le_of_ble_eq_true rfl) hfr, Nat.le_trans (Nat.le_of_ble_eq_true rfl) hlo⟩) (va_recv E.1 hP (q := (RX0, TX0, 17)) (ci := 0) rfl (zO.get (zBat_o (zBat_C (by decide))))) E hP hS hl.1 rfl rfl (Nat.le_of_ble_eq_true rfl) dX5_offer_62) hS (fun H locs hP hS => ?_)
    refine va_mmin hx hb (hml.trans hl.1.symm) hown (hts (.methodLink RX5 67 Lib.Math.min.name) (by decide +kernel)) (hts (.static Lib.Math.min.name) (by decide +kernel)) (hts (.initialized "java/lang/Math") (by decide +kernel)) (hts (.code Lib.Math.min.name Lib.Math.min.code 2 (some .int)) (by decide +kernel)) (Nat.le_trans (Nat.le_of_ble_eq_true rfl) hfr) (Nat.le_trans (Nat.le_of_ble_eq_true rfl) hlo) (Nat.zero_le _) (Nat.zero_le _) dX5_offer_65 ?_
    refine lv_goto (tgt := 76) hx hb dX5_offer_68 (by decide) ?_
    exact hjr15 _ (Option.some.inj hf) _ _ _ hP hS (lv_sub hl [3, 4, 6, 2, 1, 0] rfl)
theorem c_X5_offer (l : Launch) {D : va_G} {a0 : Nat → Nat} {A : Nat → Prop} {cy : Nat → ClassId} {ad : Nat → Nat} (hD : zD A 74 ad) {I : zI} {J : zJ} (p1 : Int32) (p2 : Int32) (p3 : Int32) (p4 : Int32) {rI : zI} {rJ : zJ} (hf : f_X5_offer I J p1 p2 p3 p4 = some (rI, rJ)) : Met l yX5_offer wsX5_offer { frames := 2, cells := 0, slots := 0, locals := 48 } (zPc D a0 A cy [.ref (ad 39), .int p1, .int p2, .int p3, .int p4] (zw 74 (kC cy ad a0) ad I J)) (zQv D A (zw 74 (kC cy ad a0) ad rI rJ)) 0 0 A :=
  zmet RX5 (by decide) rfl rfl (Nat.le_of_ble_eq_true rfl) (fun p e R s m below meth c Q hfr hlo ls S0 hQ => w_X5_offer hfr hlo hD p1 p2 p3 p4 hf S0 (fun tI tJ hq H locs ls pc hP hS hd => by cases hq; exact hQ H locs _ hS (fun hx hb hr hlocks hfree => W.vret hx hb hr (fun t ht hW => ⟨⟨(), rfl, trivial, zht ht hP⟩, hS.F ht⟩) hfree hd hlocks)))
theorem ddX5_offer : yX5_offer.cls = RX5 ∧ yX5_offer.cls ≠ "java/lang/invoke/MethodHandle" ∧ yX5_offer.cls ≠ "java/lang/invoke/VarHandle" ∧ (parseMethodDescriptor yX5_offer.desc).map (fun d => d.parameters.length) = some 4 := by decide +kernel

def f_X5_find_L26 (x4 : Int32) (p1 : Int32) (p2 : Int32) (x11 : Int32) (I12 : zI) (J13 : zJ) : Option ((Int32 × zI × zJ) ⊕ (zI × zJ)) := (if 48 ≤ x11 then some (.inr (I12, J13)) else zb1 (f_X0_isPass I12 J13 4 x11 x4) (fun x15 => (if x15 = 0 then zn (x11 + 1) (fun y18 => some (.inl (y18, I12, J13))) else zb2 (f_X5_offer I12 J13 x11 p1 x4 p2) (fun I19 J20 => zn (x11 + 1) (fun y22 => some (.inl (y22, I19, J20)))))))
def f_X5_find_L11 (p1 : Int32) (p2 : Int32) (x4 : Int32) (I5 : zI) (J6 : zJ) : Option ((Int32 × zI × zJ) ⊕ (zI × zJ)) := zb1 (f_X0_stepsOf I5 J6 4 p1) (fun x7 => (if x7 < x4 then some (.inr (I5, J6)) else zb2 (zl (fun v : (Int32 × zI × zJ) => f_X5_find_L26 x4 p1 p2 v.1 v.2.1 v.2.2) zF (0, I5, J6)) (fun I23 J24 => zn (x4 + 1) (fun y25 => some (.inl (y25, I23, J24))))))
def f_X5_find (I : zI) (J : zJ) (p1 : Int32) (p2 : Int32) : Option (zI × zJ) := zb1 (f_J7_fill_53178 I J 42 909 (-4)) (fun I1 => zb2 (zl (fun v : (Int32 × zI × zJ) => f_X5_find_L11 p1 p2 v.1 v.2.1 v.2.2) zF (1, I1, J)) (fun I26 J27 => some (I26, J27)))
theorem hinX5_find_X5 : ∀ w ∈ u_ws RX5 TX5 4, w ∈ wsX5_find := by decide +kernel
set_option maxHeartbeats 4000000 in
set_option maxRecDepth 100000 in
theorem w_X5_find {p : Program} {l : Launch} {e : Env} {R : Room} {s : State} {m : MethodId} {args : Array Value} {below : List Frame} {meth : Method} {c : Code} {Q : State → Prop} (hfr : 3 ≤ R.frames) (hlo : 79 ≤ R.locals) {D : va_G} {a0 : Nat → Nat} {A : Nat → Prop} {cy : Nat → ClassId} {ad : Nat → Nat} (hD : zD A 74 ad) {I : zI} {J : zJ} (p1 : Int32) (p2 : Int32) {rI : zI} {rJ : zJ} (hf : f_X5_find I J p1 p2 = some (rI, rJ)) {ls : Array Slot} (S0 : zSt p m c cX5_find 5 s args wsX5_find RX5 D a0 A cy (zw 74 (kC cy ad a0) ad I J) [.ref (ad 39), .int p1, .int p2] ls) (hret : ∀ (tI : zI) (tJ : zJ), some (tI, tJ) = some (rI, rJ) → ∀ (H : Heap) (locs : List Loc) (ls : Array Slot) (pc : Nat), va_P D vwCl (zw 74 (kC cy ad a0) ad tI tJ) H → va_S A s.heap H locs → decode cX5_find pc = .ok (.return_, 1) → W p l e R s m args below meth c H locs 0 0 Q (F0 m pc ls [])) : W p l e R s m args below meth c s.heap [] 0 0 Q (F0 m 0 ls []) := by
  obtain ⟨S, E, hP, hl⟩ := S0
  obtain ⟨hx, hb, hml, hown, hts⟩ := id S
  have hS : va_S A s.heap s.heap [] := va_S.rf
  replace hl : lv_has ls 5 [(0, .ref (ad 39)), (1, .int p1), (2, .int p2)] := hl
  unfold f_X5_find at hf
  refine lv_aload_n hx hb dX5_find_0 rfl (lv_at hl 0 rfl) ?_
  refine va_get (D := D) (ci := 4) (v := .ref (ad 42)) (C := RX5) (T := TX5) (N := 4) hx hb hts hinX5_find_X5 hown E.1 hP 39 (zO.get (oX5_at)) rfl 3 (by decide) (hts (.fieldLink RX5 19 "EdgeAndSpeed$Parting" "firsts" "[I") (by decide +kernel)) (fun _ h9 => h9) rfl dX5_find_1 ?_
  refine lv_bipush (v := (-4)) hx hb dX5_find_4 (by decide) ?_
  obtain ⟨I1, h2, hf⟩ := zb1_e hf
  refine zgo_v (zrunS (As := [.ref (ad 42), .int (-4)]) (rest := []) S (c_J7_fill_53178 l hD 42 909 (aX5_3) (-4) h2) (va_cwS 2 hts gX5_find_J7_fill_53178 rfl rfl rfl ddJ7_fill_53178 ⟨Nat.le_trans (Nat.le_of_ble_eq_true rfl) hfr, Nat.le_trans (Nat.le_of_ble_eq_true rfl) hlo⟩) E hP hS hl.1 rfl rfl (Nat.le_of_ble_eq_true rfl) dX5_find_6) hS (fun H locs hP hS => ?_)
  refine lv_iconst (v := 1) hx hb dX5_find_9 (by decide) ?_
  refine lv_istore_n (lv' := [(3, .int 1), (0, .ref (ad 39)), (1, .int p1), (2, .int p2)]) hx hb dX5_find_10 rfl hl (by decide) rfl (fun ls hl => ?_)
  obtain ⟨zl3, hf, hzl3⟩ := zb2_i hf
  have hjl3 : ∀ (I26 : zI) (J27 : zJ), (I26, J27) = zl3 → ∀ (H : Heap) (locs : List Loc) (ls : Array Slot), va_P D vwCl (zw 74 (kC cy ad a0) ad I26 J27) H → va_S A s.heap H locs → lv_has ls 5 [] → W p l e R s m args below meth c H locs 0 0 Q (F0 m 67 ls []) := by
    intro I26 J27 ez H locs ls hP hS hl
    have hf := hzl3 I26 J27 ez
    exact hret _ _ hf _ _ _ _ hP hS dX5_find_67
  refine zl_i (V := (Int32 × zI × zJ)) (P := fun v => ∀ (H : Heap) (locs : List Loc) (ls : Array Slot), va_P D vwCl (zw 74 (kC cy ad a0) ad v.2.1 v.2.2) H → va_S A s.heap H locs → lv_has ls 5 [(0, .ref (ad 39)), (1, .int p1), (2, .int p2), (3, .int (v.1))] → W p l e R s m args below meth c H locs 0 0 Q (F0 m 11 ls [])) ?_ _ _ hf _ _ _ hP hS (lv_sub hl [1, 2, 3, 0] rfl)
  intro v z hf hcl3 hdl3
  obtain ⟨x4, I5, J6⟩ := v
  intro H locs ls hP hS hl
  replace hf : f_X5_find_L11 p1 p2 x4 I5 J6 = some z := hf
  unfold f_X5_find_L11 at hf
  replace hP : va_P D vwCl (zw 74 (kC cy ad a0) ad I5 J6) H := hP
  replace hl : lv_has ls 5 [(0, .ref (ad 39)), (1, .int p1), (2, .int p2), (3, .int x4)] := hl
  refine lv_iload_n hx hb dX5_find_11 rfl (lv_at hl 3 rfl) ?_
  refine lv_aload_n hx hb dX5_find_12 rfl (lv_at hl 0 rfl) ?_
  refine va_get (D := D) (ci := 4) (v := .ref (ad 4)) (C := RX5) (T := TX5) (N := 4) hx hb hts hinX5_find_X5 hown E.1 hP 39 (zO.get (oX5_at)) rfl 0 (by decide) (hts (.fieldLink RX5 22 "EdgeAndSpeed$Parting" "bench" "LEdgeAndSpeed$Bench;") (by decide +kernel)) (fun _ h9 => h9) rfl dX5_find_13 ?_
  refine lv_iload_n hx hb dX5_find_16 rfl (lv_at hl 1 rfl) ?_
  obtain ⟨x7, h8, hf⟩ := zb1_e hf
  refine zgo_i (zrunV (As := [.int p1]) (rest := [.int x4]) S (c_X0_stepsOf l hD 4 (zBat_C (by decide)) p1 h8) (cwV 1 hts gX5_find_X0_stepsOf rfl rfl rfl ddX0_stepsOf ⟨Nat.le_trans (Nat.le_of_ble_eq_true rfl) hfr, Nat.le_trans (Nat.le_of_ble_eq_true rfl) hlo⟩) (va_recv E.1 hP (q := (RX0, TX0, 17)) (ci := 0) rfl (zO.get (zBat_o (zBat_C (by decide))))) E hP hS hl.1 rfl rfl (Nat.le_of_ble_eq_true rfl) dX5_find_17) hS (fun H locs hP hS => ?_)
  refine lv_icmp_gt (tgt := 67) hx hb dX5_find_20 (by decide) (fun k9 => ?_) (fun k9 => ?_)
  · replace hf := zt k9 hf
    exact hjl3 _ _ (hdl3 _ (Option.some.inj hf).symm) _ _ _ hP hS (lv_sub hl [] rfl)
  · replace hf := zf k9 hf
    refine lv_iconst (v := 0) hx hb dX5_find_23 (by decide) ?_
    refine lv_istore (lv' := [(4, .int 0), (0, .ref (ad 39)), (1, .int p1), (2, .int p2), (3, .int x4)]) hx hb dX5_find_24 hl (by decide) rfl (fun ls hl => ?_)
    obtain ⟨zl10, hf, hzl10⟩ := zb2_i hf
    have hjl10 : ∀ (I23 : zI) (J24 : zJ), (I23, J24) = zl10 → ∀ (H : Heap) (locs : List Loc) (ls : Array Slot), va_P D vwCl (zw 74 (kC cy ad a0) ad I23 J24) H → va_S A s.heap H locs → lv_has ls 5 [(0, .ref (ad 39)), (1, .int p1), (2, .int p2), (3, .int x4)] → W p l e R s m args below meth c H locs 0 0 Q (F0 m 61 ls []) := by
      intro I23 J24 ez H locs ls hP hS hl
      have hf := hzl10 I23 J24 ez
      obtain ⟨y25, ey25⟩ := zex (x4 + 1)
      replace hf := zn_s ey25 hf
      refine lv_iinc (v := y25) (lv' := [(3, .int y25), (0, .ref (ad 39)), (1, .int p1), (2, .int p2)]) hx hb dX5_find_61 hl (k := 3) rfl (by rw [ey25]; rfl) (by decide) rfl (fun ls hl => ?_)
      refine lv_goto (tgt := 11) hx hb dX5_find_64 (by decide) ?_
      exact hcl3 _ (Option.some.inj hf).symm _ _ _ hP hS (lv_sub hl [1, 2, 3, 0] rfl)
    refine zl_i (V := (Int32 × zI × zJ)) (P := fun v => ∀ (H : Heap) (locs : List Loc) (ls : Array Slot), va_P D vwCl (zw 74 (kC cy ad a0) ad v.2.1 v.2.2) H → va_S A s.heap H locs → lv_has ls 5 [(0, .ref (ad 39)), (1, .int p1), (2, .int p2), (3, .int x4), (4, .int (v.1))] → W p l e R s m args below meth c H locs 0 0 Q (F0 m 26 ls [])) ?_ _ _ hf _ _ _ hP hS (lv_sub hl [1, 2, 3, 4, 0] rfl)
    intro v z hf hcl10 hdl10
    obtain ⟨x11, I12, J13⟩ := v
    intro H locs ls hP hS hl
    replace hf : f_X5_find_L26 x4 p1 p2 x11 I12 J13 = some z := hf
    unfold f_X5_find_L26 at hf
    replace hP : va_P D vwCl (zw 74 (kC cy ad a0) ad I12 J13) H := hP
    replace hl : lv_has ls 5 [(0, .ref (ad 39)), (1, .int p1), (2, .int p2), (3, .int x4), (4, .int x11)] := hl
    refine lv_iload hx hb dX5_find_26 (lv_at hl 4 rfl) ?_
    refine lv_bipush (v := 48) hx hb dX5_find_28 (by decide) ?_
    refine lv_icmp_ge (tgt := 61) hx hb dX5_find_30 (by decide) (fun k14 => ?_) (fun k14 => ?_)
    · replace hf := zt k14 hf
      exact hjl10 _ _ (hdl10 _ (Option.some.inj hf).symm) _ _ _ hP hS (lv_sub hl [0, 1, 2, 3] rfl)
    · replace hf := zf k14 hf
      refine lv_aload_n hx hb dX5_find_33 rfl (lv_at hl 0 rfl) ?_
      refine va_get (D := D) (ci := 4) (v := .ref (ad 4)) (C := RX5) (T := TX5) (N := 4) hx hb hts hinX5_find_X5 hown E.1 hP 39 (zO.get (oX5_at)) rfl 0 (by decide) (hts (.fieldLink RX5 22 "EdgeAndSpeed$Parting" "bench" "LEdgeAndSpeed$Bench;") (by decide +kernel)) (fun _ h9 => h9) rfl dX5_find_34 ?_
      refine lv_iload hx hb dX5_find_37 (lv_at hl 4 rfl) ?_
      refine lv_iload_n hx hb dX5_find_39 rfl (lv_at hl 3 rfl) ?_
      obtain ⟨x15, h16, hf⟩ := zb1_e hf
      refine zgo_i (zrunV (As := [.int x11, .int x4]) (rest := []) S (c_X0_isPass l hD 4 (zBat_C (by decide)) x11 x4 h16) (cwV 2 hts gX5_find_X0_isPass rfl rfl rfl ddX0_isPass ⟨Nat.le_trans (Nat.le_of_ble_eq_true rfl) hfr, Nat.le_trans (Nat.le_of_ble_eq_true rfl) hlo⟩) (va_recv E.1 hP (q := (RX0, TX0, 17)) (ci := 0) rfl (zO.get (zBat_o (zBat_C (by decide))))) E hP hS hl.1 rfl rfl (Nat.le_of_ble_eq_true rfl) dX5_find_40) hS (fun H locs hP hS => ?_)
      refine lv_if_eq (tgt := 55) hx hb dX5_find_43 (by decide) (fun k17 => ?_) (fun k17 => ?_)
      · replace hf := zt k17 hf
        obtain ⟨y18, ey18⟩ := zex (x11 + 1)
        replace hf := zn_s ey18 hf
        refine lv_iinc (v := y18) (lv' := [(4, .int y18), (0, .ref (ad 39)), (1, .int p1), (2, .int p2), (3, .int x4)]) hx hb dX5_find_55 hl (k := 4) rfl (by rw [ey18]; rfl) (by decide) rfl (fun ls hl => ?_)
        refine lv_goto (tgt := 26) hx hb dX5_find_58 (by decide) ?_
        exact hcl10 _ (Option.some.inj hf).symm _ _ _ hP hS (lv_sub hl [1, 2, 3, 4, 0] rfl)
      · replace hf := zf k17 hf
        refine lv_aload_n hx hb dX5_find_46 rfl (lv_at hl 0 rfl) ?_
        refine lv_iload hx hb dX5_find_47 (lv_at hl 4 rfl) ?_
        refine lv_iload_n hx hb dX5_find_49 rfl (lv_at hl 1 rfl) ?_
        refine lv_iload_n hx hb dX5_find_50 rfl (lv_at hl 3 rfl) ?_
        refine lv_iload_n hx hb dX5_find_51 rfl (lv_at hl 2 rfl) ?_
        obtain ⟨I19, J20, h21, hf⟩ := zb2_e hf
        refine zgo_v (zrunV (As := [.int x11, .int p1, .int x4, .int p2]) (rest := []) S (c_X5_offer l hD x11 p1 x4 p2 h21) (cwV 4 hts gX5_find_X5_offer rfl rfl rfl ddX5_offer ⟨Nat.le_trans (Nat.le_of_ble_eq_true rfl) hfr, Nat.le_trans (Nat.le_of_ble_eq_true rfl) hlo⟩) (va_recv E.1 hP (q := (RX5, TX5, 4)) (ci := 4) rfl (zO.get (oX5_at))) E hP hS hl.1 rfl rfl (Nat.le_of_ble_eq_true rfl) dX5_find_52) hS (fun H locs hP hS => ?_)
        obtain ⟨y22, ey22⟩ := zex (x11 + 1)
        replace hf := zn_s ey22 hf
        refine lv_iinc (v := y22) (lv' := [(4, .int y22), (0, .ref (ad 39)), (1, .int p1), (2, .int p2), (3, .int x4)]) hx hb dX5_find_55 hl (k := 4) rfl (by rw [ey22]; rfl) (by decide) rfl (fun ls hl => ?_)
        refine lv_goto (tgt := 26) hx hb dX5_find_58 (by decide) ?_
        exact hcl10 _ (Option.some.inj hf).symm _ _ _ hP hS (lv_sub hl [1, 2, 3, 4, 0] rfl)
theorem c_X5_find (l : Launch) {D : va_G} {a0 : Nat → Nat} {A : Nat → Prop} {cy : Nat → ClassId} {ad : Nat → Nat} (hD : zD A 74 ad) {I : zI} {J : zJ} (p1 : Int32) (p2 : Int32) {rI : zI} {rJ : zJ} (hf : f_X5_find I J p1 p2 = some (rI, rJ)) : Met l yX5_find wsX5_find { frames := 3, cells := 0, slots := 0, locals := 79 } (zPc D a0 A cy [.ref (ad 39), .int p1, .int p2] (zw 74 (kC cy ad a0) ad I J)) (zQv D A (zw 74 (kC cy ad a0) ad rI rJ)) 0 0 A :=
  zmet RX5 (by decide) rfl rfl (Nat.le_of_ble_eq_true rfl) (fun p e R s m below meth c Q hfr hlo ls S0 hQ => w_X5_find hfr hlo hD p1 p2 hf S0 (fun tI tJ hq H locs ls pc hP hS hd => by cases hq; exact hQ H locs _ hS (fun hx hb hr hlocks hfree => W.vret hx hb hr (fun t ht hW => ⟨⟨(), rfl, trivial, zht ht hP⟩, hS.F ht⟩) hfree hd hlocks)))
theorem ddX5_find : yX5_find.cls = RX5 ∧ yX5_find.cls ≠ "java/lang/invoke/MethodHandle" ∧ yX5_find.cls ≠ "java/lang/invoke/VarHandle" ∧ (parseMethodDescriptor yX5_find.desc).map (fun d => d.parameters.length) = some 2 := by decide +kernel
