def f_X11_hand (I : zI) (J : zJ) (p1 : Int32) (p2 : Int32) : Option (Int32 × zI) := (if p1 = 0 then zb1 (f_X0_hasSpeed I J 4 p2) (fun x4 => (if x4 = 0 then some ((-1), I) else zb2 (f_X1_swapSpeed I J 24 p2) (fun x7 I8 => some (x7, I8)))) else if p1 = 1 then zb1 (f_X11_within I J p2 0 100) (fun x10 => (if x10 = 0 then some ((-1), I) else zb2 (f_X1_swapLimit I J 24 p2) (fun x13 I14 => some (x13, I14)))) else if p1 = 2 then zb1 (f_X11_within I J p2 1 8) (fun x16 => (if x16 = 0 then some ((-1), I) else zb2 (f_X1_swapEvery I J 24 p2) (fun x19 I20 => some (x19, I20)))) else some ((-1), I))
theorem hinX11_hand_X11 : ∀ w ∈ u_ws RX11 TX11 12, w ∈ wsX11_hand := by decide +kernel
set_option maxHeartbeats 4000000 in
set_option maxRecDepth 100000 in
theorem w_X11_hand {p : Program} {l : Launch} {e : Env} {R : Room} {s : State} {m : MethodId} {args : Array Value} {below : List Frame} {meth : Method} {c : Code} {Q : State → Prop} (hfr : 2 ≤ R.frames) (hlo : 43 ≤ R.locals) {D : va_G} {a0 : Nat → Nat} {A : Nat → Prop} {cy : Nat → ClassId} {ad : Nat → Nat} (hD : zD A 74 ad) {I : zI} {J : zJ} (p1 : Int32) (p2 : Int32) {rx : Int32} {rI : zI} (hf : f_X11_hand I J p1 p2 = some (rx, rI)) {ls : Array Slot} (S0 : zSt p m c cX11_hand 3 s args wsX11_hand RX11 D a0 A cy (zw 74 (kC cy ad a0) ad I J) [.ref (ad 0), .int p1, .int p2] ls) (hret : ∀ (tx : Int32) (tI : zI), some (tx, tI) = some (rx, rI) → ∀ (H : Heap) (locs : List Loc) (ls : Array Slot) (pc : Nat), va_P D vwCl (zw 74 (kC cy ad a0) ad tI J) H → va_S A s.heap H locs → decode cX11_hand pc = .ok (.ireturn, 1) → W p l e R s m args below meth c H locs 0 0 Q (F0 m pc ls [.int tx])) : W p l e R s m args below meth c s.heap [] 0 0 Q (F0 m 0 ls []) := by
  obtain ⟨S, E, hP, hl⟩ := S0
  obtain ⟨hx, hb, hml, hown, hts⟩ := id S
  have hS : va_S A s.heap s.heap [] := va_S.rf
  replace hl : lv_has ls 3 [(0, .ref (ad 0)), (1, .int p1), (2, .int p2)] := hl
  unfold f_X11_hand at hf
  refine lv_iload_n hx hb dX11_hand_0 rfl (lv_at hl 1 rfl) ?_
  rcases Decidable.em (p1 = 0) with k1 | k1
  · replace hf := zt k1 hf
    refine lv_tableIn (off := 27) (tgt := 28) hx hb dX11_hand_1 (by rw [k1]; decide) (by rw [k1]; decide) (by rw [k1]; rfl) (by decide) ?_
    refine lv_aload_n hx hb dX11_hand_28 rfl (lv_at hl 0 rfl) ?_
    refine va_get (D := D) (ci := 10) (v := .ref (ad 4)) (C := RX11) (T := TX11) (N := 12) hx hb hts hinX11_hand_X11 hown E.1 hP 0 (zO.get (oX11_at)) rfl 1 (by decide) (hts (.fieldLink RX11 19 "EdgeAndSpeed" "bench" "LEdgeAndSpeed$Bench;") (by decide +kernel)) (fun _ h9 => h9) rfl dX11_hand_29 ?_
    refine lv_iload_n hx hb dX11_hand_32 rfl (lv_at hl 2 rfl) ?_
    obtain ⟨x4, h5, hf⟩ := zb1_e hf
    refine zgo_i (zrunV (As := [.int p2]) (rest := []) S (c_X0_hasSpeed l hD 4 (zBat_C (by decide)) p2 h5) (cwV 1 hts gX11_hand_X0_hasSpeed rfl rfl rfl ddX0_hasSpeed ⟨Nat.le_trans (Nat.le_of_ble_eq_true rfl) hfr, Nat.le_trans (Nat.le_of_ble_eq_true rfl) hlo⟩) (va_recv E.1 hP (q := (RX0, TX0, 17)) (ci := 0) rfl (zO.get (zBat_o (zBat_C (by decide))))) E hP hS hl.1 rfl rfl (Nat.le_of_ble_eq_true rfl) dX11_hand_33) hS (fun H locs hP hS => ?_)
    refine lv_if_eq (tgt := 50) hx hb dX11_hand_36 (by decide) (fun k6 => ?_) (fun k6 => ?_)
    · replace hf := zt k6 hf
      refine lv_iconst (v := (-1)) hx hb dX11_hand_50 (by decide) ?_
      exact hret _ _ hf _ _ _ _ hP hS dX11_hand_51
    · replace hf := zf k6 hf
      refine lv_aload_n hx hb dX11_hand_39 rfl (lv_at hl 0 rfl) ?_
      refine va_get (D := D) (ci := 10) (v := .ref (ad 24)) (C := RX11) (T := TX11) (N := 12) hx hb hts hinX11_hand_X11 hown E.1 hP 0 (zO.get (oX11_at)) rfl 3 (by decide) (hts (.fieldLink RX11 29 "EdgeAndSpeed" "habits" "LEdgeAndSpeed$Habits;") (by decide +kernel)) (fun _ h9 => h9) rfl dX11_hand_40 ?_
      refine lv_iload_n hx hb dX11_hand_43 rfl (lv_at hl 2 rfl) ?_
      obtain ⟨x7, I8, h9, hf⟩ := zb2_e hf
      refine zgo_i (zrunV (As := [.int p2]) (rest := []) S (c_X1_swapSpeed l hD 24 (by decide) p2 h9) (cwV 1 hts gX11_hand_X1_swapSpeed rfl rfl rfl ddX1_swapSpeed ⟨Nat.le_trans (Nat.le_of_ble_eq_true rfl) hfr, Nat.le_trans (Nat.le_of_ble_eq_true rfl) hlo⟩) (va_recv E.1 hP (q := (RX1, TX1, 6)) (ci := 1) rfl (zO.get (oX1_at (by decide)))) E hP hS hl.1 rfl rfl (Nat.le_of_ble_eq_true rfl) dX11_hand_44) hS (fun H locs hP hS => ?_)
      refine lv_goto (tgt := 51) hx hb dX11_hand_47 (by decide) ?_
      exact hret _ _ hf _ _ _ _ hP hS dX11_hand_51
  replace hf := zf k1 hf
  rcases Decidable.em (p1 = 1) with k2 | k2
  · replace hf := zt k2 hf
    refine lv_tableIn (off := 51) (tgt := 52) hx hb dX11_hand_1 (by rw [k2]; decide) (by rw [k2]; decide) (by rw [k2]; rfl) (by decide) ?_
    refine lv_iload_n hx hb dX11_hand_52 rfl (lv_at hl 2 rfl) ?_
    refine lv_iconst (v := 0) hx hb dX11_hand_53 (by decide) ?_
    refine lv_bipush (v := 100) hx hb dX11_hand_54 (by decide) ?_
    obtain ⟨x10, h11, hf⟩ := zb1_e hf
    refine zgo_i (zrunS (As := [.int p2, .int 0, .int 100]) (rest := []) S (c_X11_within l hD p2 0 100 h11) (va_cwS 3 hts gX11_hand_X11_within rfl rfl rfl ddX11_within ⟨Nat.le_trans (Nat.le_of_ble_eq_true rfl) hfr, Nat.le_trans (Nat.le_of_ble_eq_true rfl) hlo⟩) E hP hS hl.1 rfl rfl (Nat.le_of_ble_eq_true rfl) dX11_hand_56) hS (fun H locs hP hS => ?_)
    refine lv_if_eq (tgt := 73) hx hb dX11_hand_59 (by decide) (fun k12 => ?_) (fun k12 => ?_)
    · replace hf := zt k12 hf
      refine lv_iconst (v := (-1)) hx hb dX11_hand_73 (by decide) ?_
      exact hret _ _ hf _ _ _ _ hP hS dX11_hand_74
    · replace hf := zf k12 hf
      refine lv_aload_n hx hb dX11_hand_62 rfl (lv_at hl 0 rfl) ?_
      refine va_get (D := D) (ci := 10) (v := .ref (ad 24)) (C := RX11) (T := TX11) (N := 12) hx hb hts hinX11_hand_X11 hown E.1 hP 0 (zO.get (oX11_at)) rfl 3 (by decide) (hts (.fieldLink RX11 29 "EdgeAndSpeed" "habits" "LEdgeAndSpeed$Habits;") (by decide +kernel)) (fun _ h9 => h9) rfl dX11_hand_63 ?_
      refine lv_iload_n hx hb dX11_hand_66 rfl (lv_at hl 2 rfl) ?_
      obtain ⟨x13, I14, h15, hf⟩ := zb2_e hf
      refine zgo_i (zrunV (As := [.int p2]) (rest := []) S (c_X1_swapLimit l hD 24 (by decide) p2 h15) (cwV 1 hts gX11_hand_X1_swapLimit rfl rfl rfl ddX1_swapLimit ⟨Nat.le_trans (Nat.le_of_ble_eq_true rfl) hfr, Nat.le_trans (Nat.le_of_ble_eq_true rfl) hlo⟩) (va_recv E.1 hP (q := (RX1, TX1, 6)) (ci := 1) rfl (zO.get (oX1_at (by decide)))) E hP hS hl.1 rfl rfl (Nat.le_of_ble_eq_true rfl) dX11_hand_67) hS (fun H locs hP hS => ?_)
      refine lv_goto (tgt := 74) hx hb dX11_hand_70 (by decide) ?_
      exact hret _ _ hf _ _ _ _ hP hS dX11_hand_74
  replace hf := zf k2 hf
  rcases Decidable.em (p1 = 2) with k3 | k3
  · replace hf := zt k3 hf
    refine lv_tableIn (off := 74) (tgt := 75) hx hb dX11_hand_1 (by rw [k3]; decide) (by rw [k3]; decide) (by rw [k3]; rfl) (by decide) ?_
    refine lv_iload_n hx hb dX11_hand_75 rfl (lv_at hl 2 rfl) ?_
    refine lv_iconst (v := 1) hx hb dX11_hand_76 (by decide) ?_
    refine lv_bipush (v := 8) hx hb dX11_hand_77 (by decide) ?_
    obtain ⟨x16, h17, hf⟩ := zb1_e hf
    refine zgo_i (zrunS (As := [.int p2, .int 1, .int 8]) (rest := []) S (c_X11_within l hD p2 1 8 h17) (va_cwS 3 hts gX11_hand_X11_within rfl rfl rfl ddX11_within ⟨Nat.le_trans (Nat.le_of_ble_eq_true rfl) hfr, Nat.le_trans (Nat.le_of_ble_eq_true rfl) hlo⟩) E hP hS hl.1 rfl rfl (Nat.le_of_ble_eq_true rfl) dX11_hand_79) hS (fun H locs hP hS => ?_)
    refine lv_if_eq (tgt := 96) hx hb dX11_hand_82 (by decide) (fun k18 => ?_) (fun k18 => ?_)
    · replace hf := zt k18 hf
      refine lv_iconst (v := (-1)) hx hb dX11_hand_96 (by decide) ?_
      exact hret _ _ hf _ _ _ _ hP hS dX11_hand_97
    · replace hf := zf k18 hf
      refine lv_aload_n hx hb dX11_hand_85 rfl (lv_at hl 0 rfl) ?_
      refine va_get (D := D) (ci := 10) (v := .ref (ad 24)) (C := RX11) (T := TX11) (N := 12) hx hb hts hinX11_hand_X11 hown E.1 hP 0 (zO.get (oX11_at)) rfl 3 (by decide) (hts (.fieldLink RX11 29 "EdgeAndSpeed" "habits" "LEdgeAndSpeed$Habits;") (by decide +kernel)) (fun _ h9 => h9) rfl dX11_hand_86 ?_
      refine lv_iload_n hx hb dX11_hand_89 rfl (lv_at hl 2 rfl) ?_
      obtain ⟨x19, I20, h21, hf⟩ := zb2_e hf
      refine zgo_i (zrunV (As := [.int p2]) (rest := []) S (c_X1_swapEvery l hD 24 (by decide) p2 h21) (cwV 1 hts gX11_hand_X1_swapEvery rfl rfl rfl ddX1_swapEvery ⟨Nat.le_trans (Nat.le_of_ble_eq_true rfl) hfr, Nat.le_trans (Nat.le_of_ble_eq_true rfl) hlo⟩) (va_recv E.1 hP (q := (RX1, TX1, 6)) (ci := 1) rfl (zO.get (oX1_at (by decide)))) E hP hS hl.1 rfl rfl (Nat.le_of_ble_eq_true rfl) dX11_hand_90) hS (fun H locs hP hS => ?_)
      refine lv_goto (tgt := 97) hx hb dX11_hand_93 (by decide) ?_
      exact hret _ _ hf _ _ _ _ hP hS dX11_hand_97
  replace hf := zf k3 hf
  refine lv_tableOut (tgt := 98) hx hb dX11_hand_1 (zTab (lo := 0) (hi := 2) (fun v h1 h2 h3 => by have h4 : v = 0 ∨ v = 1 ∨ v = 2 := (by omega); rcases h4 with rfl | rfl | rfl <;> first | exact k1 (Int32.toInt_inj.mp h3) | exact k2 (Int32.toInt_inj.mp h3) | exact k3 (Int32.toInt_inj.mp h3))) (by decide) ?_
  refine lv_iconst (v := (-1)) hx hb dX11_hand_98 (by decide) ?_
  exact hret _ _ hf _ _ _ _ hP hS dX11_hand_99
theorem c_X11_hand (l : Launch) {D : va_G} {a0 : Nat → Nat} {A : Nat → Prop} {cy : Nat → ClassId} {ad : Nat → Nat} (hD : zD A 74 ad) {I : zI} {J : zJ} (p1 : Int32) (p2 : Int32) {rx : Int32} {rI : zI} (hf : f_X11_hand I J p1 p2 = some (rx, rI)) : Met l yX11_hand wsX11_hand { frames := 2, cells := 0, slots := 0, locals := 43 } (zPc D a0 A cy [.ref (ad 0), .int p1, .int p2] (zw 74 (kC cy ad a0) ad I J)) (zQi D A rx (zw 74 (kC cy ad a0) ad rI J)) 0 0 A :=
  zmet RX11 (by decide) rfl rfl (Nat.le_of_ble_eq_true rfl) (fun p e R s m below meth c Q hfr hlo ls S0 hQ => w_X11_hand hfr hlo hD p1 p2 hf S0 (fun tx tI hq H locs ls pc hP hS hd => by cases hq; exact hQ H locs _ hS (fun hx hb hr hlocks hfree => W.iret hx hb hr (fun t ht hW => ⟨⟨_, (), rfl, rfl, zht ht hP⟩, hS.F ht⟩) hfree hd hlocks)))
theorem ddX11_hand : yX11_hand.cls = RX11 ∧ yX11_hand.cls ≠ "java/lang/invoke/MethodHandle" ∧ yX11_hand.cls ≠ "java/lang/invoke/VarHandle" ∧ (parseMethodDescriptor yX11_hand.desc).map (fun d => d.parameters.length) = some 2 := by decide +kernel

def f_X11_isHandIn (I : zI) (J : zJ) (p1 : Int32) (p2 : Int32) : Option Int32 := zb1 (f_X11_within I J p1 0 5) (fun x1 => (if x1 = 0 then some 0 else zb1 (f_X0_hasSteel I J 4 p2) (fun x4 => (if x4 = 0 then some 0 else some 1))))
theorem hinX11_isHandIn_X11 : ∀ w ∈ u_ws RX11 TX11 12, w ∈ wsX11_isHandIn := by decide +kernel
set_option maxHeartbeats 4000000 in
set_option maxRecDepth 100000 in
theorem w_X11_isHandIn {p : Program} {l : Launch} {e : Env} {R : Room} {s : State} {m : MethodId} {args : Array Value} {below : List Frame} {meth : Method} {c : Code} {Q : State → Prop} (hfr : 2 ≤ R.frames) (hlo : 43 ≤ R.locals) {D : va_G} {a0 : Nat → Nat} {A : Nat → Prop} {cy : Nat → ClassId} {ad : Nat → Nat} (hD : zD A 74 ad) {I : zI} {J : zJ} (p1 : Int32) (p2 : Int32) {rx : Int32} (hf : f_X11_isHandIn I J p1 p2 = some rx) {ls : Array Slot} (S0 : zSt p m c cX11_isHandIn 3 s args wsX11_isHandIn RX11 D a0 A cy (zw 74 (kC cy ad a0) ad I J) [.ref (ad 0), .int p1, .int p2] ls) (hret : ∀ (tx : Int32), some tx = some rx → (tx = 0 ∨ tx = 1) → ∀ (H : Heap) (locs : List Loc) (ls : Array Slot) (pc : Nat), va_P D vwCl (zw 74 (kC cy ad a0) ad I J) H → va_S A s.heap H locs → decode cX11_isHandIn pc = .ok (.ireturn, 1) → W p l e R s m args below meth c H locs 0 0 Q (F0 m pc ls [.int tx])) : W p l e R s m args below meth c s.heap [] 0 0 Q (F0 m 0 ls []) := by
  obtain ⟨S, E, hP, hl⟩ := S0
  obtain ⟨hx, hb, hml, hown, hts⟩ := id S
  have hS : va_S A s.heap s.heap [] := va_S.rf
  replace hl : lv_has ls 3 [(0, .ref (ad 0)), (1, .int p1), (2, .int p2)] := hl
  unfold f_X11_isHandIn at hf
  refine lv_iload_n hx hb dX11_isHandIn_0 rfl (lv_at hl 1 rfl) ?_
  refine lv_iconst (v := 0) hx hb dX11_isHandIn_1 (by decide) ?_
  refine lv_iconst (v := 5) hx hb dX11_isHandIn_2 (by decide) ?_
  obtain ⟨x1, h2, hf⟩ := zb1_e hf
  refine zgo_i (zrunS (As := [.int p1, .int 0, .int 5]) (rest := []) S (c_X11_within l hD p1 0 5 h2) (va_cwS 3 hts gX11_isHandIn_X11_within rfl rfl rfl ddX11_within ⟨Nat.le_trans (Nat.le_of_ble_eq_true rfl) hfr, Nat.le_trans (Nat.le_of_ble_eq_true rfl) hlo⟩) E hP hS hl.1 rfl rfl (Nat.le_of_ble_eq_true rfl) dX11_isHandIn_3) hS (fun H locs hP hS => ?_)
  refine lv_if_eq (tgt := 24) hx hb dX11_isHandIn_6 (by decide) (fun k3 => ?_) (fun k3 => ?_)
  · replace hf := zt k3 hf
    refine lv_iconst (v := 0) hx hb dX11_isHandIn_24 (by decide) ?_
    exact hret _ hf (Or.inl rfl) _ _ _ _ hP hS dX11_isHandIn_25
  · replace hf := zf k3 hf
    refine lv_aload_n hx hb dX11_isHandIn_9 rfl (lv_at hl 0 rfl) ?_
    refine va_get (D := D) (ci := 10) (v := .ref (ad 4)) (C := RX11) (T := TX11) (N := 12) hx hb hts hinX11_isHandIn_X11 hown E.1 hP 0 (zO.get (oX11_at)) rfl 1 (by decide) (hts (.fieldLink RX11 19 "EdgeAndSpeed" "bench" "LEdgeAndSpeed$Bench;") (by decide +kernel)) (fun _ h9 => h9) rfl dX11_isHandIn_10 ?_
    refine lv_iload_n hx hb dX11_isHandIn_13 rfl (lv_at hl 2 rfl) ?_
    obtain ⟨x4, h5, hf⟩ := zb1_e hf
    refine zgo_i (zrunV (As := [.int p2]) (rest := []) S (c_X0_hasSteel l hD 4 (zBat_C (by decide)) p2 h5) (cwV 1 hts gX11_isHandIn_X0_hasSteel rfl rfl rfl ddX0_hasSteel ⟨Nat.le_trans (Nat.le_of_ble_eq_true rfl) hfr, Nat.le_trans (Nat.le_of_ble_eq_true rfl) hlo⟩) (va_recv E.1 hP (q := (RX0, TX0, 17)) (ci := 0) rfl (zO.get (zBat_o (zBat_C (by decide))))) E hP hS hl.1 rfl rfl (Nat.le_of_ble_eq_true rfl) dX11_isHandIn_14) hS (fun H locs hP hS => ?_)
    refine lv_if_eq (tgt := 24) hx hb dX11_isHandIn_17 (by decide) (fun k6 => ?_) (fun k6 => ?_)
    · replace hf := zt k6 hf
      refine lv_iconst (v := 0) hx hb dX11_isHandIn_24 (by decide) ?_
      exact hret _ hf (Or.inl rfl) _ _ _ _ hP hS dX11_isHandIn_25
    · replace hf := zf k6 hf
      refine lv_iconst (v := 1) hx hb dX11_isHandIn_20 (by decide) ?_
      refine lv_goto (tgt := 25) hx hb dX11_isHandIn_21 (by decide) ?_
      exact hret _ hf (Or.inr rfl) _ _ _ _ hP hS dX11_isHandIn_25
theorem c_X11_isHandIn (l : Launch) {D : va_G} {a0 : Nat → Nat} {A : Nat → Prop} {cy : Nat → ClassId} {ad : Nat → Nat} (hD : zD A 74 ad) {I : zI} {J : zJ} (p1 : Int32) (p2 : Int32) {rx : Int32} (hf : f_X11_isHandIn I J p1 p2 = some rx) : Met l yX11_isHandIn wsX11_isHandIn { frames := 2, cells := 0, slots := 0, locals := 43 } (zPc D a0 A cy [.ref (ad 0), .int p1, .int p2] (zw 74 (kC cy ad a0) ad I J)) (zQi D A rx (zw 74 (kC cy ad a0) ad I J)) 0 0 A :=
  zmet RX11 (by decide) rfl rfl (Nat.le_of_ble_eq_true rfl) (fun p e R s m below meth c Q hfr hlo ls S0 hQ => w_X11_isHandIn hfr hlo hD p1 p2 hf S0 (fun tx hq n01 H locs ls pc hP hS hd => by cases hq; exact hQ H locs _ hS (fun hx hb hr hlocks hfree => W.zret hx hb hr (z01 n01) (fun t ht hW => ⟨⟨_, (), rfl, rfl, zht ht hP⟩, hS.F ht⟩) hfree hd hlocks)))
theorem ddX11_isHandIn : yX11_isHandIn.cls = RX11 ∧ yX11_isHandIn.cls ≠ "java/lang/invoke/MethodHandle" ∧ yX11_isHandIn.cls ≠ "java/lang/invoke/VarHandle" ∧ (parseMethodDescriptor yX11_isHandIn.desc).map (fun d => d.parameters.length) = some 2 := by decide +kernel

def f_X0_stepsOf (I : zI) (J : zJ) (o : Nat) (p1 : Int32) : Option Int32 := zb1 (f_X11_at I J (o + 4) 8 p1) (fun x1 => some x1)
theorem hinX0_stepsOf_X0 : ∀ w ∈ u_ws RX0 TX0 17, w ∈ wsX0_stepsOf := by decide +kernel
set_option maxHeartbeats 4000000 in
set_option maxRecDepth 100000 in
theorem w_X0_stepsOf {p : Program} {l : Launch} {e : Env} {R : Room} {s : State} {m : MethodId} {args : Array Value} {below : List Frame} {meth : Method} {c : Code} {Q : State → Prop} (hfr : 1 ≤ R.frames) (hlo : 21 ≤ R.locals) {D : va_G} {a0 : Nat → Nat} {A : Nat → Prop} {cy : Nat → ClassId} {ad : Nat → Nat} {N : Nat} {K : zK} (hD : zD A N ad) {I : zI} {J : zJ} (o : Nat) (hB : zBat N K cy ad o) (p1 : Int32) {rx : Int32} (hf : f_X0_stepsOf I J o p1 = some rx) {ls : Array Slot} (S0 : zSt p m c cX0_stepsOf 2 s args wsX0_stepsOf RX0 D a0 A cy (zw N K ad I J) [.ref (ad o), .int p1] ls) (hret : ∀ (tx : Int32), some tx = some rx → ∀ (H : Heap) (locs : List Loc) (ls : Array Slot) (pc : Nat), va_P D vwCl (zw N K ad I J) H → va_S A s.heap H locs → decode cX0_stepsOf pc = .ok (.ireturn, 1) → W p l e R s m args below meth c H locs 0 0 Q (F0 m pc ls [.int tx])) : W p l e R s m args below meth c s.heap [] 0 0 Q (F0 m 0 ls []) := by
  obtain ⟨S, E, hP, hl⟩ := S0
  obtain ⟨hx, hb, hml, hown, hts⟩ := id S
  have hS : va_S A s.heap s.heap [] := va_S.rf
  replace hl : lv_has ls 2 [(0, .ref (ad o)), (1, .int p1)] := hl
  unfold f_X0_stepsOf at hf
  refine lv_aload_n hx hb dX0_stepsOf_0 rfl (lv_at hl 0 rfl) ?_
  refine va_get (D := D) (ci := 0) (v := .ref (ad (o + 4))) (C := RX0) (T := TX0) (N := 17) hx hb hts hinX0_stepsOf_X0 hown E.1 hP o (zO.get (zBat_o hB)) rfl 3 (by decide) (hts (.fieldLink RX0 21 "EdgeAndSpeed$Bench" "depths" "[I") (by decide +kernel)) (fun _ h9 => h9) rfl dX0_stepsOf_1 ?_
  refine lv_iload_n hx hb dX0_stepsOf_4 rfl (lv_at hl 1 rfl) ?_
  obtain ⟨x1, h2, hf⟩ := zb1_e hf
  refine zgo_i (zrunSN (As := [.ref (ad (o + 4)), .int p1]) (rest := []) S (c_X11_at l hD (o + 4) 8 (zBat_3 hB) p1 h2) ⟨va_cnB (host := "EdgeAndSpeed") 2 hts gX0_stepsOf_X11_at_n85 rfl rfl rfl (zNmw_1 E.2.2) (hts (.initialized RX11) (by decide +kernel)) ddX11_at ⟨Nat.le_trans (Nat.le_of_ble_eq_true rfl) hfr, Nat.le_trans (Nat.le_of_ble_eq_true rfl) hlo⟩, hts (.static yX11_at) (by decide +kernel), trivial⟩ E hP hS hl.1 rfl rfl (Nat.le_of_ble_eq_true rfl) dX0_stepsOf_5) hS (fun H locs hP hS => ?_)
  exact hret _ hf _ _ _ _ hP hS dX0_stepsOf_8
theorem c_X0_stepsOf (l : Launch) {D : va_G} {a0 : Nat → Nat} {A : Nat → Prop} {cy : Nat → ClassId} {ad : Nat → Nat} {N : Nat} {K : zK} (hD : zD A N ad) {I : zI} {J : zJ} (o : Nat) (hB : zBat N K cy ad o) (p1 : Int32) {rx : Int32} (hf : f_X0_stepsOf I J o p1 = some rx) : Met l yX0_stepsOf wsX0_stepsOf { frames := 1, cells := 0, slots := 0, locals := 21 } (zPc D a0 A cy [.ref (ad o), .int p1] (zw N K ad I J)) (zQi D A rx (zw N K ad I J)) 0 0 A :=
  zmet RX0 (by decide) rfl rfl (Nat.le_of_ble_eq_true rfl) (fun p e R s m below meth c Q hfr hlo ls S0 hQ => w_X0_stepsOf hfr hlo hD o hB p1 hf S0 (fun tx hq H locs ls pc hP hS hd => by cases hq; exact hQ H locs _ hS (fun hx hb hr hlocks hfree => W.iret hx hb hr (fun t ht hW => ⟨⟨_, (), rfl, rfl, zht ht hP⟩, hS.F ht⟩) hfree hd hlocks)))
theorem ddX0_stepsOf : yX0_stepsOf.cls = RX0 ∧ yX0_stepsOf.cls ≠ "java/lang/invoke/MethodHandle" ∧ yX0_stepsOf.cls ≠ "java/lang/invoke/VarHandle" ∧ (parseMethodDescriptor yX0_stepsOf.desc).map (fun d => d.parameters.length) = some 1 := by decide +kernel

def f_X0_isState (I : zI) (J : zJ) (o : Nat) (p1 : Int32) (p2 : Int32) (p3 : Int32) : Option Int32 := zb1 (f_X0_hasPiece I J o p1) (fun x1 => (if x1 = 0 then some 0 else zb1 (f_X0_stepsOf I J o p1) (fun x4 => zb1 (f_X11_within I J p2 1 x4) (fun x6 => (if x6 = 0 then some 0 else zb1 (f_X11_within I J p3 0 100) (fun x9 => (if x9 = 0 then some 0 else some 1)))))))
set_option maxHeartbeats 4000000 in
set_option maxRecDepth 100000 in
theorem w_X0_isState {p : Program} {l : Launch} {e : Env} {R : Room} {s : State} {m : MethodId} {args : Array Value} {below : List Frame} {meth : Method} {c : Code} {Q : State → Prop} (hfr : 2 ≤ R.frames) (hlo : 43 ≤ R.locals) {D : va_G} {a0 : Nat → Nat} {A : Nat → Prop} {cy : Nat → ClassId} {ad : Nat → Nat} {N : Nat} {K : zK} (hD : zD A N ad) {I : zI} {J : zJ} (o : Nat) (hB : zBat N K cy ad o) (p1 : Int32) (p2 : Int32) (p3 : Int32) {rx : Int32} (hf : f_X0_isState I J o p1 p2 p3 = some rx) {ls : Array Slot} (S0 : zSt p m c cX0_isState 4 s args wsX0_isState RX0 D a0 A cy (zw N K ad I J) [.ref (ad o), .int p1, .int p2, .int p3] ls) (hret : ∀ (tx : Int32), some tx = some rx → (tx = 0 ∨ tx = 1) → ∀ (H : Heap) (locs : List Loc) (ls : Array Slot) (pc : Nat), va_P D vwCl (zw N K ad I J) H → va_S A s.heap H locs → decode cX0_isState pc = .ok (.ireturn, 1) → W p l e R s m args below meth c H locs 0 0 Q (F0 m pc ls [.int tx])) : W p l e R s m args below meth c s.heap [] 0 0 Q (F0 m 0 ls []) := by
  obtain ⟨S, E, hP, hl⟩ := S0
  obtain ⟨hx, hb, hml, hown, hts⟩ := id S
  have hS : va_S A s.heap s.heap [] := va_S.rf
  replace hl : lv_has ls 4 [(0, .ref (ad o)), (1, .int p1), (2, .int p2), (3, .int p3)] := hl
  unfold f_X0_isState at hf
  refine lv_aload_n hx hb dX0_isState_0 rfl (lv_at hl 0 rfl) ?_
  refine lv_iload_n hx hb dX0_isState_1 rfl (lv_at hl 1 rfl) ?_
  obtain ⟨x1, h2, hf⟩ := zb1_e hf
  refine zgo_i (zrunV (As := [.int p1]) (rest := []) S (c_X0_hasPiece l hD o hB p1 h2) (cwV 1 hts gX0_isState_X0_hasPiece rfl rfl rfl ddX0_hasPiece ⟨Nat.le_trans (Nat.le_of_ble_eq_true rfl) hfr, Nat.le_trans (Nat.le_of_ble_eq_true rfl) hlo⟩) (va_recv E.1 hP (q := (RX0, TX0, 17)) (ci := 0) rfl (zO.get (zBat_o hB))) E hP hS hl.1 rfl rfl (Nat.le_of_ble_eq_true rfl) dX0_isState_2) hS (fun H locs hP hS => ?_)
  refine lv_if_eq (tgt := 35) hx hb dX0_isState_5 (by decide) (fun k3 => ?_) (fun k3 => ?_)
  · replace hf := zt k3 hf
    refine lv_iconst (v := 0) hx hb dX0_isState_35 (by decide) ?_
    exact hret _ hf (Or.inl rfl) _ _ _ _ hP hS dX0_isState_36
  · replace hf := zf k3 hf
    refine lv_iload_n hx hb dX0_isState_8 rfl (lv_at hl 2 rfl) ?_
    refine lv_iconst (v := 1) hx hb dX0_isState_9 (by decide) ?_
    refine lv_aload_n hx hb dX0_isState_10 rfl (lv_at hl 0 rfl) ?_
    refine lv_iload_n hx hb dX0_isState_11 rfl (lv_at hl 1 rfl) ?_
    obtain ⟨x4, h5, hf⟩ := zb1_e hf
    refine zgo_i (zrunV (As := [.int p1]) (rest := [.int 1, .int p2]) S (c_X0_stepsOf l hD o hB p1 h5) (cwV 1 hts gX0_isState_X0_stepsOf rfl rfl rfl ddX0_stepsOf ⟨Nat.le_trans (Nat.le_of_ble_eq_true rfl) hfr, Nat.le_trans (Nat.le_of_ble_eq_true rfl) hlo⟩) (va_recv E.1 hP (q := (RX0, TX0, 17)) (ci := 0) rfl (zO.get (zBat_o hB))) E hP hS hl.1 rfl rfl (Nat.le_of_ble_eq_true rfl) dX0_isState_12) hS (fun H locs hP hS => ?_)
    obtain ⟨x6, h7, hf⟩ := zb1_e hf
    refine zgo_i (zrunSN (As := [.int p2, .int 1, .int x4]) (rest := []) S (c_X11_within l hD p2 1 x4 h7) ⟨va_cnB (host := "EdgeAndSpeed") 3 hts gX0_isState_X11_within_n105 rfl rfl rfl (zNmw_0 E.2.2) (hts (.initialized RX11) (by decide +kernel)) ddX11_within ⟨Nat.le_trans (Nat.le_of_ble_eq_true rfl) hfr, Nat.le_trans (Nat.le_of_ble_eq_true rfl) hlo⟩, hts (.static yX11_within) (by decide +kernel), trivial⟩ E hP hS hl.1 rfl rfl (Nat.le_of_ble_eq_true rfl) dX0_isState_15) hS (fun H locs hP hS => ?_)
    refine lv_if_eq (tgt := 35) hx hb dX0_isState_18 (by decide) (fun k8 => ?_) (fun k8 => ?_)
    · replace hf := zt k8 hf
      refine lv_iconst (v := 0) hx hb dX0_isState_35 (by decide) ?_
      exact hret _ hf (Or.inl rfl) _ _ _ _ hP hS dX0_isState_36
    · replace hf := zf k8 hf
      refine lv_iload_n hx hb dX0_isState_21 rfl (lv_at hl 3 rfl) ?_
      refine lv_iconst (v := 0) hx hb dX0_isState_22 (by decide) ?_
      refine lv_bipush (v := 100) hx hb dX0_isState_23 (by decide) ?_
      obtain ⟨x9, h10, hf⟩ := zb1_e hf
      refine zgo_i (zrunSN (As := [.int p3, .int 0, .int 100]) (rest := []) S (c_X11_within l hD p3 0 100 h10) ⟨va_cnB (host := "EdgeAndSpeed") 3 hts gX0_isState_X11_within_n105 rfl rfl rfl (zNmw_0 E.2.2) (hts (.initialized RX11) (by decide +kernel)) ddX11_within ⟨Nat.le_trans (Nat.le_of_ble_eq_true rfl) hfr, Nat.le_trans (Nat.le_of_ble_eq_true rfl) hlo⟩, hts (.static yX11_within) (by decide +kernel), trivial⟩ E hP hS hl.1 rfl rfl (Nat.le_of_ble_eq_true rfl) dX0_isState_25) hS (fun H locs hP hS => ?_)
      refine lv_if_eq (tgt := 35) hx hb dX0_isState_28 (by decide) (fun k11 => ?_) (fun k11 => ?_)
      · replace hf := zt k11 hf
        refine lv_iconst (v := 0) hx hb dX0_isState_35 (by decide) ?_
        exact hret _ hf (Or.inl rfl) _ _ _ _ hP hS dX0_isState_36
      · replace hf := zf k11 hf
        refine lv_iconst (v := 1) hx hb dX0_isState_31 (by decide) ?_
        refine lv_goto (tgt := 36) hx hb dX0_isState_32 (by decide) ?_
        exact hret _ hf (Or.inr rfl) _ _ _ _ hP hS dX0_isState_36
theorem c_X0_isState (l : Launch) {D : va_G} {a0 : Nat → Nat} {A : Nat → Prop} {cy : Nat → ClassId} {ad : Nat → Nat} {N : Nat} {K : zK} (hD : zD A N ad) {I : zI} {J : zJ} (o : Nat) (hB : zBat N K cy ad o) (p1 : Int32) (p2 : Int32) (p3 : Int32) {rx : Int32} (hf : f_X0_isState I J o p1 p2 p3 = some rx) : Met l yX0_isState wsX0_isState { frames := 2, cells := 0, slots := 0, locals := 43 } (zPc D a0 A cy [.ref (ad o), .int p1, .int p2, .int p3] (zw N K ad I J)) (zQi D A rx (zw N K ad I J)) 0 0 A :=
  zmet RX0 (by decide) rfl rfl (Nat.le_of_ble_eq_true rfl) (fun p e R s m below meth c Q hfr hlo ls S0 hQ => w_X0_isState hfr hlo hD o hB p1 p2 p3 hf S0 (fun tx hq n01 H locs ls pc hP hS hd => by cases hq; exact hQ H locs _ hS (fun hx hb hr hlocks hfree => W.zret hx hb hr (z01 n01) (fun t ht hW => ⟨⟨_, (), rfl, rfl, zht ht hP⟩, hS.F ht⟩) hfree hd hlocks)))
theorem ddX0_isState : yX0_isState.cls = RX0 ∧ yX0_isState.cls ≠ "java/lang/invoke/MethodHandle" ∧ yX0_isState.cls ≠ "java/lang/invoke/VarHandle" ∧ (parseMethodDescriptor yX0_isState.desc).map (fun d => d.parameters.length) = some 3 := by decide +kernel

def f_X2_bestBy (I : zI) (J : zJ) (p1 : Int32) : Option Nat := zb1 (f_X11_within I J p1 0 3) (fun x1 => (if x1 = 0 then zg (¬ ((0 : Int32) < 0 ∨ 4 ≤ (0 : Int32).toNatClampNeg)) (some (47 + 3 * (0 : Int32).toNatClampNeg)) else zg (¬ (p1 < 0 ∨ 4 ≤ p1.toNatClampNeg)) (some (47 + 3 * p1.toNatClampNeg))))
theorem hinX2_bestBy_X2 : ∀ w ∈ u_ws RX2 TX2 4, w ∈ wsX2_bestBy := by decide +kernel
set_option maxHeartbeats 4000000 in
set_option maxRecDepth 100000 in
theorem w_X2_bestBy {p : Program} {l : Launch} {e : Env} {R : Room} {s : State} {m : MethodId} {args : Array Value} {below : List Frame} {meth : Method} {c : Code} {Q : State → Prop} (hfr : 1 ≤ R.frames) (hlo : 22 ≤ R.locals) {D : va_G} {a0 : Nat → Nat} {A : Nat → Prop} {cy : Nat → ClassId} {ad : Nat → Nat} (hD : zD A 74 ad) {I : zI} {J : zJ} (p1 : Int32) {rx : Nat} (hf : f_X2_bestBy I J p1 = some rx) {ls : Array Slot} (S0 : zSt p m c cX2_bestBy 2 s args wsX2_bestBy RX2 D a0 A cy (zw 74 (kC cy ad a0) ad I J) [.ref (ad 34), .int p1] ls) (hret : ∀ (tx : Nat), some tx = some rx → ∀ (H : Heap) (locs : List Loc) (ls : Array Slot) (pc : Nat), va_P D vwCl (zw 74 (kC cy ad a0) ad I J) H → va_S A s.heap H locs → decode cX2_bestBy pc = .ok (.areturn, 1) → W p l e R s m args below meth c H locs 0 0 Q (F0 m pc ls [.ref (ad tx)])) : W p l e R s m args below meth c s.heap [] 0 0 Q (F0 m 0 ls []) := by
  obtain ⟨S, E, hP, hl⟩ := S0
  obtain ⟨hx, hb, hml, hown, hts⟩ := id S
  have hS : va_S A s.heap s.heap [] := va_S.rf
  replace hl : lv_has ls 2 [(0, .ref (ad 34)), (1, .int p1)] := hl
  unfold f_X2_bestBy at hf
  refine lv_aload_n hx hb dX2_bestBy_0 rfl (lv_at hl 0 rfl) ?_
  refine va_get (D := D) (ci := 2) (v := .ref (ad 35)) (C := RX2) (T := TX2) (N := 4) hx hb hts hinX2_bestBy_X2 hown E.1 hP 34 (zO.get (oX2_at)) rfl 2 (by decide) (hts (.fieldLink RX2 11 "EdgeAndSpeed$Hands" "best" "[LEdgeAndSpeed$Plan;") (by decide +kernel)) (fun _ h9 => h9) rfl dX2_bestBy_1 ?_
  refine lv_iload_n hx hb dX2_bestBy_4 rfl (lv_at hl 1 rfl) ?_
  refine lv_iconst (v := 0) hx hb dX2_bestBy_5 (by decide) ?_
  refine lv_iconst (v := 3) hx hb dX2_bestBy_6 (by decide) ?_
  obtain ⟨x1, h2, hf⟩ := zb1_e hf
  refine zgo_i (zrunSN (As := [.int p1, .int 0, .int 3]) (rest := [.ref (ad 35)]) S (c_X11_within l hD p1 0 3 h2) ⟨va_cnB (host := "EdgeAndSpeed") 3 hts gX2_bestBy_X11_within_n54 rfl rfl rfl (zNmw_3 E.2.2) (hts (.initialized RX11) (by decide +kernel)) ddX11_within ⟨Nat.le_trans (Nat.le_of_ble_eq_true rfl) hfr, Nat.le_trans (Nat.le_of_ble_eq_true rfl) hlo⟩, hts (.static yX11_within) (by decide +kernel), trivial⟩ E hP hS hl.1 rfl rfl (Nat.le_of_ble_eq_true rfl) dX2_bestBy_7) hS (fun H locs hP hS => ?_)
  refine lv_if_eq (tgt := 17) hx hb dX2_bestBy_10 (by decide) (fun k3 => ?_) (fun k3 => ?_)
  · replace hf := zt k3 hf
    refine lv_iconst (v := 0) hx hb dX2_bestBy_17 (by decide) ?_
    obtain ⟨g4, hf⟩ := zg_i hf
    refine va_aldq (C := "EdgeAndSpeed$Plan") hx hb E.1 hP 35 5 (zRA.get aX2_2) rfl g4 dX2_bestBy_18 ?_
    exact hret _ hf _ _ _ _ hP hS dX2_bestBy_19
  · replace hf := zf k3 hf
    refine lv_iload_n hx hb dX2_bestBy_13 rfl (lv_at hl 1 rfl) ?_
    refine lv_goto (tgt := 18) hx hb dX2_bestBy_14 (by decide) ?_
    obtain ⟨g5, hf⟩ := zg_i hf
    refine va_aldq (C := "EdgeAndSpeed$Plan") hx hb E.1 hP 35 5 (zRA.get aX2_2) rfl g5 dX2_bestBy_18 ?_
    exact hret _ hf _ _ _ _ hP hS dX2_bestBy_19
theorem c_X2_bestBy (l : Launch) {D : va_G} {a0 : Nat → Nat} {A : Nat → Prop} {cy : Nat → ClassId} {ad : Nat → Nat} (hD : zD A 74 ad) {I : zI} {J : zJ} (p1 : Int32) {rx : Nat} (hf : f_X2_bestBy I J p1 = some rx) : Met l yX2_bestBy wsX2_bestBy { frames := 1, cells := 0, slots := 0, locals := 22 } (zPc D a0 A cy [.ref (ad 34), .int p1] (zw 74 (kC cy ad a0) ad I J)) (zQr D A (ad rx) (zw 74 (kC cy ad a0) ad I J)) 0 0 A :=
  zmet RX2 (by decide) rfl rfl (Nat.le_of_ble_eq_true rfl) (fun p e R s m below meth c Q hfr hlo ls S0 hQ => w_X2_bestBy hfr hlo hD p1 hf S0 (fun tx hq H locs ls pc hP hS hd => by cases hq; exact hQ H locs _ hS (fun hx hb hr hlocks hfree => W.aret hx hb hr (Or.inl ⟨_, rfl⟩) (Or.inr ⟨_, rfl⟩) (fun t ht hW => ⟨⟨(), _, rfl, trivial, rfl, zht ht hP⟩, hS.F ht⟩) hfree hd hlocks)))
theorem ddX2_bestBy : yX2_bestBy.cls = RX2 ∧ yX2_bestBy.cls ≠ "java/lang/invoke/MethodHandle" ∧ yX2_bestBy.cls ≠ "java/lang/invoke/VarHandle" ∧ (parseMethodDescriptor yX2_bestBy.desc).map (fun d => d.parameters.length) = some 1 := by decide +kernel

def f_X0_changeHundredths (I : zI) (J : zJ) (o : Nat) : Option Int32 := some (100 * (I o 12))
theorem hinX0_changeHundredths_X0 : ∀ w ∈ u_ws RX0 TX0 17, w ∈ wsX0_changeHundredths := by decide +kernel
set_option maxHeartbeats 4000000 in
set_option maxRecDepth 100000 in
theorem w_X0_changeHundredths {p : Program} {l : Launch} {e : Env} {R : Room} {s : State} {m : MethodId} {args : Array Value} {below : List Frame} {meth : Method} {c : Code} {Q : State → Prop} (hfr : 0 ≤ R.frames) (hlo : 0 ≤ R.locals) {D : va_G} {a0 : Nat → Nat} {A : Nat → Prop} {cy : Nat → ClassId} {ad : Nat → Nat} {N : Nat} {K : zK} (hD : zD A N ad) {I : zI} {J : zJ} (o : Nat) (hB : zBat N K cy ad o) {rx : Int32} (hf : f_X0_changeHundredths I J o = some rx) {ls : Array Slot} (S0 : zSt p m c cX0_changeHundredths 1 s args wsX0_changeHundredths RX0 D a0 A cy (zw N K ad I J) [.ref (ad o)] ls) (hret : ∀ (tx : Int32), some tx = some rx → ∀ (H : Heap) (locs : List Loc) (ls : Array Slot) (pc : Nat), va_P D vwCl (zw N K ad I J) H → va_S A s.heap H locs → decode cX0_changeHundredths pc = .ok (.ireturn, 1) → W p l e R s m args below meth c H locs 0 0 Q (F0 m pc ls [.int tx])) : W p l e R s m args below meth c s.heap [] 0 0 Q (F0 m 0 ls []) := by
  obtain ⟨S, E, hP, hl⟩ := S0
  obtain ⟨hx, hb, hml, hown, hts⟩ := id S
  have hS : va_S A s.heap s.heap [] := va_S.rf
  replace hl : lv_has ls 1 [(0, .ref (ad o))] := hl
  unfold f_X0_changeHundredths at hf
  refine lv_bipush (v := 100) hx hb dX0_changeHundredths_0 (by decide) ?_
  refine lv_aload_n hx hb dX0_changeHundredths_2 rfl (lv_at hl 0 rfl) ?_
  refine va_get (D := D) (ci := 0) (v := .int (I o 12)) (C := RX0) (T := TX0) (N := 17) hx hb hts hinX0_changeHundredths_X0 hown E.1 hP o (zO.get (zBat_o hB)) rfl 12 (by decide) (hts (.fieldLink RX0 64 "EdgeAndSpeed$Bench" "changeMinutes" "I") (by decide +kernel)) (fun _ h9 => h9) rfl dX0_changeHundredths_3 ?_
  refine lv_imul hx hb dX0_changeHundredths_6 ?_
  exact hret _ hf _ _ _ _ hP hS dX0_changeHundredths_7
theorem c_X0_changeHundredths (l : Launch) {D : va_G} {a0 : Nat → Nat} {A : Nat → Prop} {cy : Nat → ClassId} {ad : Nat → Nat} {N : Nat} {K : zK} (hD : zD A N ad) {I : zI} {J : zJ} (o : Nat) (hB : zBat N K cy ad o) {rx : Int32} (hf : f_X0_changeHundredths I J o = some rx) : Met l yX0_changeHundredths wsX0_changeHundredths { frames := 0, cells := 0, slots := 0, locals := 0 } (zPc D a0 A cy [.ref (ad o)] (zw N K ad I J)) (zQi D A rx (zw N K ad I J)) 0 0 A :=
  zmet RX0 (by decide) rfl rfl (Nat.le_of_ble_eq_true rfl) (fun p e R s m below meth c Q hfr hlo ls S0 hQ => w_X0_changeHundredths hfr hlo hD o hB hf S0 (fun tx hq H locs ls pc hP hS hd => by cases hq; exact hQ H locs _ hS (fun hx hb hr hlocks hfree => W.iret hx hb hr (fun t ht hW => ⟨⟨_, (), rfl, rfl, zht ht hP⟩, hS.F ht⟩) hfree hd hlocks)))
theorem ddX0_changeHundredths : yX0_changeHundredths.cls = RX0 ∧ yX0_changeHundredths.cls ≠ "java/lang/invoke/MethodHandle" ∧ yX0_changeHundredths.cls ≠ "java/lang/invoke/VarHandle" ∧ (parseMethodDescriptor yX0_changeHundredths.desc).map (fun d => d.parameters.length) = some 0 := by decide +kernel

def f_X0_cost (I : zI) (J : zJ) (o : Nat) (p1 : Int32) (p2 : Int32) : Option Int64 := some ((p1.toInt64 * (I o 14).toInt64) + (6000 * p2.toInt64))
theorem hinX0_cost_X0 : ∀ w ∈ u_ws RX0 TX0 17, w ∈ wsX0_cost := by decide +kernel
set_option maxHeartbeats 4000000 in
set_option maxRecDepth 100000 in
theorem w_X0_cost {p : Program} {l : Launch} {e : Env} {R : Room} {s : State} {m : MethodId} {args : Array Value} {below : List Frame} {meth : Method} {c : Code} {Q : State → Prop} (hfr : 0 ≤ R.frames) (hlo : 0 ≤ R.locals) {D : va_G} {a0 : Nat → Nat} {A : Nat → Prop} {cy : Nat → ClassId} {ad : Nat → Nat} {N : Nat} {K : zK} (hD : zD A N ad) {I : zI} {J : zJ} (o : Nat) (hB : zBat N K cy ad o) (p1 : Int32) (p2 : Int32) {rx : Int64} (hf : f_X0_cost I J o p1 p2 = some rx) {ls : Array Slot} (S0 : zSt p m c cX0_cost 3 s args wsX0_cost RX0 D a0 A cy (zw N K ad I J) [.ref (ad o), .int p1, .int p2] ls) (hret : ∀ (tx : Int64), some tx = some rx → ∀ (H : Heap) (locs : List Loc) (ls : Array Slot) (pc : Nat), va_P D vwCl (zw N K ad I J) H → va_S A s.heap H locs → decode cX0_cost pc = .ok (.lreturn, 1) → W p l e R s m args below meth c H locs 0 0 Q (F0 m pc ls [.long tx])) : W p l e R s m args below meth c s.heap [] 0 0 Q (F0 m 0 ls []) := by
  obtain ⟨S, E, hP, hl⟩ := S0
  obtain ⟨hx, hb, hml, hown, hts⟩ := id S
  have hS : va_S A s.heap s.heap [] := va_S.rf
  replace hl : lv_has ls 3 [(0, .ref (ad o)), (1, .int p1), (2, .int p2)] := hl
  unfold f_X0_cost at hf
  refine lv_iload_n hx hb dX0_cost_0 rfl (lv_at hl 1 rfl) ?_
  refine lv_i2l hx hb dX0_cost_1 rfl ?_
  refine lv_aload_n hx hb dX0_cost_2 rfl (lv_at hl 0 rfl) ?_
  refine va_get (D := D) (ci := 0) (v := .int (I o 14)) (C := RX0) (T := TX0) (N := 17) hx hb hts hinX0_cost_X0 hown E.1 hP o (zO.get (zBat_o hB)) rfl 14 (by decide) (hts (.fieldLink RX0 70 "EdgeAndSpeed$Bench" "hourPence" "I") (by decide +kernel)) (fun _ h9 => h9) rfl dX0_cost_3 ?_
  refine lv_i2l hx hb dX0_cost_6 rfl ?_
  refine lv_lmul hx hb dX0_cost_7 ?_
  refine lv_ldc2 hx hb hown (hts (.constantLong RX0 137 6000) (by decide +kernel)) dX0_cost_8 ?_
  refine lv_iload_n hx hb dX0_cost_11 rfl (lv_at hl 2 rfl) ?_
  refine lv_i2l hx hb dX0_cost_12 rfl ?_
  refine lv_lmul hx hb dX0_cost_13 ?_
  refine lv_ladd hx hb dX0_cost_14 ?_
  exact hret _ hf _ _ _ _ hP hS dX0_cost_15
theorem c_X0_cost (l : Launch) {D : va_G} {a0 : Nat → Nat} {A : Nat → Prop} {cy : Nat → ClassId} {ad : Nat → Nat} {N : Nat} {K : zK} (hD : zD A N ad) {I : zI} {J : zJ} (o : Nat) (hB : zBat N K cy ad o) (p1 : Int32) (p2 : Int32) {rx : Int64} (hf : f_X0_cost I J o p1 p2 = some rx) : Met l yX0_cost wsX0_cost { frames := 0, cells := 0, slots := 0, locals := 0 } (zPc D a0 A cy [.ref (ad o), .int p1, .int p2] (zw N K ad I J)) (zQl D A rx (zw N K ad I J)) 0 0 A :=
  zmet RX0 (by decide) rfl rfl (Nat.le_of_ble_eq_true rfl) (fun p e R s m below meth c Q hfr hlo ls S0 hQ => w_X0_cost hfr hlo hD o hB p1 p2 hf S0 (fun tx hq H locs ls pc hP hS hd => by cases hq; exact hQ H locs _ hS (fun hx hb hr hlocks hfree => W.lret hx hb hr (fun t ht hW => ⟨⟨_, (), rfl, rfl, zht ht hP⟩, hS.F ht⟩) hfree hd hlocks)))
theorem ddX0_cost : yX0_cost.cls = RX0 ∧ yX0_cost.cls ≠ "java/lang/invoke/MethodHandle" ∧ yX0_cost.cls ≠ "java/lang/invoke/VarHandle" ∧ (parseMethodDescriptor yX0_cost.desc).map (fun d => d.parameters.length) = some 2 := by decide +kernel

def f_X0_changeCost (I : zI) (J : zJ) (o : Nat) : Option Int64 := zb1 (f_X0_changeHundredths I J o) (fun x1 => zb1 (f_X0_cost I J o x1 (I o 13)) (fun u3 => some u3))
theorem hinX0_changeCost_X0 : ∀ w ∈ u_ws RX0 TX0 17, w ∈ wsX0_changeCost := by decide +kernel
set_option maxHeartbeats 4000000 in
set_option maxRecDepth 100000 in
theorem w_X0_changeCost {p : Program} {l : Launch} {e : Env} {R : Room} {s : State} {m : MethodId} {args : Array Value} {below : List Frame} {meth : Method} {c : Code} {Q : State → Prop} (hfr : 1 ≤ R.frames) (hlo : 22 ≤ R.locals) {D : va_G} {a0 : Nat → Nat} {A : Nat → Prop} {cy : Nat → ClassId} {ad : Nat → Nat} {N : Nat} {K : zK} (hD : zD A N ad) {I : zI} {J : zJ} (o : Nat) (hB : zBat N K cy ad o) {rx : Int64} (hf : f_X0_changeCost I J o = some rx) {ls : Array Slot} (S0 : zSt p m c cX0_changeCost 1 s args wsX0_changeCost RX0 D a0 A cy (zw N K ad I J) [.ref (ad o)] ls) (hret : ∀ (tx : Int64), some tx = some rx → ∀ (H : Heap) (locs : List Loc) (ls : Array Slot) (pc : Nat), va_P D vwCl (zw N K ad I J) H → va_S A s.heap H locs → decode cX0_changeCost pc = .ok (.lreturn, 1) → W p l e R s m args below meth c H locs 0 0 Q (F0 m pc ls [.long tx])) : W p l e R s m args below meth c s.heap [] 0 0 Q (F0 m 0 ls []) := by
  obtain ⟨S, E, hP, hl⟩ := S0
  obtain ⟨hx, hb, hml, hown, hts⟩ := id S
  have hS : va_S A s.heap s.heap [] := va_S.rf
  replace hl : lv_has ls 1 [(0, .ref (ad o))] := hl
  unfold f_X0_changeCost at hf
  refine lv_aload_n hx hb dX0_changeCost_0 rfl (lv_at hl 0 rfl) ?_
  refine lv_aload_n hx hb dX0_changeCost_1 rfl (lv_at hl 0 rfl) ?_
  obtain ⟨x1, h2, hf⟩ := zb1_e hf
  refine zgo_i (zrunV (As := []) (rest := [.ref (ad o)]) S (c_X0_changeHundredths l hD o hB h2) (cwV 0 hts gX0_changeCost_X0_changeHundredths rfl rfl rfl ddX0_changeHundredths ⟨Nat.le_trans (Nat.le_of_ble_eq_true rfl) hfr, Nat.le_trans (Nat.le_of_ble_eq_true rfl) hlo⟩) (va_recv E.1 hP (q := (RX0, TX0, 17)) (ci := 0) rfl (zO.get (zBat_o hB))) E hP hS hl.1 rfl rfl (Nat.le_of_ble_eq_true rfl) dX0_changeCost_2) hS (fun H locs hP hS => ?_)
  refine lv_aload_n hx hb dX0_changeCost_5 rfl (lv_at hl 0 rfl) ?_
  refine va_get (D := D) (ci := 0) (v := .int (I o 13)) (C := RX0) (T := TX0) (N := 17) hx hb hts hinX0_changeCost_X0 hown E.1 hP o (zO.get (zBat_o hB)) rfl 13 (by decide) (hts (.fieldLink RX0 67 "EdgeAndSpeed$Bench" "changePence" "I") (by decide +kernel)) (fun _ h9 => h9) rfl dX0_changeCost_6 ?_
  obtain ⟨u3, h4, hf⟩ := zb1_e hf
  refine zgo_l (zrunV (As := [.int x1, .int (I o 13)]) (rest := []) S (c_X0_cost l hD o hB x1 (I o 13) h4) (cwV 2 hts gX0_changeCost_X0_cost rfl rfl rfl ddX0_cost ⟨Nat.le_trans (Nat.le_of_ble_eq_true rfl) hfr, Nat.le_trans (Nat.le_of_ble_eq_true rfl) hlo⟩) (va_recv E.1 hP (q := (RX0, TX0, 17)) (ci := 0) rfl (zO.get (zBat_o hB))) E hP hS hl.1 rfl rfl (Nat.le_of_ble_eq_true rfl) dX0_changeCost_9) hS (fun H locs hP hS => ?_)
  exact hret _ hf _ _ _ _ hP hS dX0_changeCost_12
theorem c_X0_changeCost (l : Launch) {D : va_G} {a0 : Nat → Nat} {A : Nat → Prop} {cy : Nat → ClassId} {ad : Nat → Nat} {N : Nat} {K : zK} (hD : zD A N ad) {I : zI} {J : zJ} (o : Nat) (hB : zBat N K cy ad o) {rx : Int64} (hf : f_X0_changeCost I J o = some rx) : Met l yX0_changeCost wsX0_changeCost { frames := 1, cells := 0, slots := 0, locals := 22 } (zPc D a0 A cy [.ref (ad o)] (zw N K ad I J)) (zQl D A rx (zw N K ad I J)) 0 0 A :=
  zmet RX0 (by decide) rfl rfl (Nat.le_of_ble_eq_true rfl) (fun p e R s m below meth c Q hfr hlo ls S0 hQ => w_X0_changeCost hfr hlo hD o hB hf S0 (fun tx hq H locs ls pc hP hS hd => by cases hq; exact hQ H locs _ hS (fun hx hb hr hlocks hfree => W.lret hx hb hr (fun t ht hW => ⟨⟨_, (), rfl, rfl, zht ht hP⟩, hS.F ht⟩) hfree hd hlocks)))
theorem ddX0_changeCost : yX0_changeCost.cls = RX0 ∧ yX0_changeCost.cls ≠ "java/lang/invoke/MethodHandle" ∧ yX0_changeCost.cls ≠ "java/lang/invoke/VarHandle" ∧ (parseMethodDescriptor yX0_changeCost.desc).map (fun d => d.parameters.length) = some 0 := by decide +kernel

def f_X4_ofSpending (I : zI) (J : zJ) (mc : Nat) (p1 : Int32) (p2 : Int64) : Option Int64 := zg (mc < 4) (zg (mc < 4) (some (((zMv mc 3) * p1.toInt64) + ((zMv mc 4) * p2))))
set_option maxHeartbeats 4000000 in
set_option maxRecDepth 100000 in
theorem w_X4_ofSpending {p : Program} {l : Launch} {e : Env} {R : Room} {s : State} {m : MethodId} {args : Array Value} {below : List Frame} {meth : Method} {c : Code} {Q : State → Prop} (hfr : 0 ≤ R.frames) (hlo : 0 ≤ R.locals) {D : va_G} {a0 : Nat → Nat} {A : Nat → Prop} {cy : Nat → ClassId} {ad : Nat → Nat} (hD : zD A 74 ad) {I : zI} {J : zJ} (mc : Nat) (p1 : Int32) (p2 : Int64) {rx : Int64} (hf : f_X4_ofSpending I J mc p1 p2 = some rx) {ls : Array Slot} (S0 : zSt p m c cX4_ofSpending 4 s args wsX4_ofSpending RX4 D a0 A cy (zw 74 (kC cy ad a0) ad I J) [.ref (a0 mc), .int p1, .long p2] ls) (hret : ∀ (tx : Int64), some tx = some rx → ∀ (H : Heap) (locs : List Loc) (ls : Array Slot) (pc : Nat), va_P D vwCl (zw 74 (kC cy ad a0) ad I J) H → va_S A s.heap H locs → decode cX4_ofSpending pc = .ok (.lreturn, 1) → W p l e R s m args below meth c H locs 0 0 Q (F0 m pc ls [.long tx])) : W p l e R s m args below meth c s.heap [] 0 0 Q (F0 m 0 ls []) := by
  obtain ⟨S, E, hP, hl⟩ := S0
  obtain ⟨hx, hb, hml, hown, hts⟩ := id S
  have hS : va_S A s.heap s.heap [] := va_S.rf
  replace hl : lv_has ls 4 [(0, .ref (a0 mc)), (1, .int p1), (2, .long p2)] := hl
  unfold f_X4_ofSpending at hf
  refine lv_aload_n hx hb dX4_ofSpending_0 rfl (lv_at hl 0 rfl) ?_
  obtain ⟨g1, hf⟩ := zg_i hf
  refine vk_getf (v := .long (zMv mc 3)) hx hb ((E.2.1 _ g1).2.2 3 (by decide)) hS hown (hts (.fieldLink RX4 47 "EdgeAndSpeed$Measure" "byMinutes" "J") (by decide +kernel)) (fun _ h9 => h9) dX4_ofSpending_1 ?_
  refine lv_iload_n hx hb dX4_ofSpending_4 rfl (lv_at hl 1 rfl) ?_
  refine lv_i2l hx hb dX4_ofSpending_5 rfl ?_
  refine lv_lmul hx hb dX4_ofSpending_6 ?_
  refine lv_aload_n hx hb dX4_ofSpending_7 rfl (lv_at hl 0 rfl) ?_
  obtain ⟨g2, hf⟩ := zg_i hf
  refine vk_getf (v := .long (zMv mc 4)) hx hb ((E.2.1 _ g2).2.2 4 (by decide)) hS hown (hts (.fieldLink RX4 50 "EdgeAndSpeed$Measure" "byCost" "J") (by decide +kernel)) (fun _ h9 => h9) dX4_ofSpending_8 ?_
  refine lv_lload_n hx hb dX4_ofSpending_11 rfl (lv_at hl 2 rfl) ?_
  refine lv_lmul hx hb dX4_ofSpending_12 ?_
  refine lv_ladd hx hb dX4_ofSpending_13 ?_
  exact hret _ hf _ _ _ _ hP hS dX4_ofSpending_14
theorem c_X4_ofSpending (l : Launch) {D : va_G} {a0 : Nat → Nat} {A : Nat → Prop} {cy : Nat → ClassId} {ad : Nat → Nat} (hD : zD A 74 ad) {I : zI} {J : zJ} (mc : Nat) (p1 : Int32) (p2 : Int64) {rx : Int64} (hf : f_X4_ofSpending I J mc p1 p2 = some rx) : Met l yX4_ofSpending wsX4_ofSpending { frames := 0, cells := 0, slots := 0, locals := 0 } (zPc D a0 A cy [.ref (a0 mc), .int p1, .long p2] (zw 74 (kC cy ad a0) ad I J)) (zQl D A rx (zw 74 (kC cy ad a0) ad I J)) 0 0 A :=
  zmet RX4 (by decide) rfl rfl (Nat.le_of_ble_eq_true rfl) (fun p e R s m below meth c Q hfr hlo ls S0 hQ => w_X4_ofSpending hfr hlo hD mc p1 p2 hf S0 (fun tx hq H locs ls pc hP hS hd => by cases hq; exact hQ H locs _ hS (fun hx hb hr hlocks hfree => W.lret hx hb hr (fun t ht hW => ⟨⟨_, (), rfl, rfl, zht ht hP⟩, hS.F ht⟩) hfree hd hlocks)))
theorem ddX4_ofSpending : yX4_ofSpending.cls = RX4 ∧ yX4_ofSpending.cls ≠ "java/lang/invoke/MethodHandle" ∧ yX4_ofSpending.cls ≠ "java/lang/invoke/VarHandle" ∧ (parseMethodDescriptor yX4_ofSpending.desc).map (fun d => d.parameters.length) = some 2 := by decide +kernel

def f_X6_measure (I : zI) (J : zJ) (o : Nat) (p1 : Nat) (p2 : Int32) : Option (zI × zJ) := zg (p1 < 4) (zn (va_up I o (va_up (I o) 3 (nI p1))) (fun I1 => zn (va_up I1 o (va_up (I1 o) 4 p2)) (fun I3 => zb1 (f_X0_changeHundredths I3 J 4) (fun x4 => zb1 (f_X0_changeCost I3 J 4) (fun u6 => zg (p1 < 4) (zb1 (f_X4_ofSpending I3 J p1 x4 u6) (fun u8 => zn (va_up J o (va_up (J o) 5 u8)) (fun J10 => some (I3, J10)))))))))
theorem hinX6_measure_X6 : ∀ w ∈ u_ws RX6 TX6 7, w ∈ wsX6_measure := by decide +kernel
set_option maxHeartbeats 4000000 in
set_option maxRecDepth 100000 in
theorem w_X6_measure {p : Program} {l : Launch} {e : Env} {R : Room} {s : State} {m : MethodId} {args : Array Value} {below : List Frame} {meth : Method} {c : Code} {Q : State → Prop} (hfr : 2 ≤ R.frames) (hlo : 42 ≤ R.locals) {D : va_G} {a0 : Nat → Nat} {A : Nat → Prop} {cy : Nat → ClassId} {ad : Nat → Nat} (hD : zD A 74 ad) {I : zI} {J : zJ} (o : Nat) (ho : zPn o) (p1 : Nat) (p2 : Int32) {rI : zI} {rJ : zJ} (hf : f_X6_measure I J o p1 p2 = some (rI, rJ)) {ls : Array Slot} (S0 : zSt p m c cX6_measure 3 s args wsX6_measure RX6 D a0 A cy (zw 74 (kC cy ad a0) ad I J) [.ref (ad o), .ref (a0 p1), .int p2] ls) (hret : ∀ (tI : zI) (tJ : zJ), some (tI, tJ) = some (rI, rJ) → ∀ (H : Heap) (locs : List Loc) (ls : Array Slot) (pc : Nat), va_P D vwCl (zw 74 (kC cy ad a0) ad tI tJ) H → va_S A s.heap H locs → decode cX6_measure pc = .ok (.return_, 1) → W p l e R s m args below meth c H locs 0 0 Q (F0 m pc ls [])) : W p l e R s m args below meth c s.heap [] 0 0 Q (F0 m 0 ls []) := by
  obtain ⟨S, E, hP, hl⟩ := S0
  obtain ⟨hx, hb, hml, hown, hts⟩ := id S
  have hS : va_S A s.heap s.heap [] := va_S.rf
  replace hl : lv_has ls 3 [(0, .ref (ad o)), (1, .ref (a0 p1)), (2, .int p2)] := hl
  unfold f_X6_measure at hf
  refine lv_aload_n hx hb dX6_measure_0 rfl (lv_at hl 0 rfl) ?_
  refine lv_aload_n hx hb dX6_measure_1 rfl (lv_at hl 1 rfl) ?_
  obtain ⟨g2, hf⟩ := zg_i hf
  obtain ⟨I1, eI1⟩ := zex (va_up I o (va_up (I o) 3 (nI p1)))
  replace hf := zn_s eI1 hf
  refine zput (D := D) (ci := 5) (v := .ref (a0 p1)) (ty := (.object "EdgeAndSpeed$Measure")) (C := RX6) (T := TX6) (N := 7) hx hb hts hinX6_measure_X6 tyX6 tyX6_ok nmX6 hown E.1 hP hD.D hS o (zO.get (oX6_at ho)) rfl 3 (by decide) (hts (.fieldLink RX6 25 "EdgeAndSpeed$Plan" "by" "LEdgeAndSpeed$Measure;") (by decide +kernel)) (fun _ h9 => h9) rfl (tyX6_ok 3 (by decide)) rfl rfl (Nat.le_of_ble_eq_true rfl) dX6_measure_2 (zO.setI (oX6_at ho) (zby_set g2) eI1) (fun H locs hP hS => ?_)
  refine lv_aload_n hx hb dX6_measure_5 rfl (lv_at hl 0 rfl) ?_
  refine lv_iload_n hx hb dX6_measure_6 rfl (lv_at hl 2 rfl) ?_
  obtain ⟨I3, eI3⟩ := zex (va_up I1 o (va_up (I1 o) 4 p2))
  replace hf := zn_s eI3 hf
  refine zput (D := D) (ci := 5) (v := .int p2) (ty := .int) (C := RX6) (T := TX6) (N := 7) hx hb hts hinX6_measure_X6 tyX6 tyX6_ok nmX6 hown E.1 hP hD.D hS o (zO.get (oX6_at ho)) rfl 4 (by decide) (hts (.fieldLink RX6 42 "EdgeAndSpeed$Plan" "steel" "I") (by decide +kernel)) (fun _ h9 => h9) rfl (tyX6_ok 4 (by decide)) rfl rfl (Nat.le_of_ble_eq_true rfl) dX6_measure_7 (zO.setI (oX6_at ho) rfl eI3) (fun H locs hP hS => ?_)
  refine lv_aload_n hx hb dX6_measure_10 rfl (lv_at hl 0 rfl) ?_
  refine lv_aload_n hx hb dX6_measure_11 rfl (lv_at hl 1 rfl) ?_
  refine lv_aload_n hx hb dX6_measure_12 rfl (lv_at hl 0 rfl) ?_
  refine va_get (D := D) (ci := 5) (v := .ref (ad 4)) (C := RX6) (T := TX6) (N := 7) hx hb hts hinX6_measure_X6 hown E.1 hP o (zO.get (oX6_at ho)) rfl 0 (by decide) (hts (.fieldLink RX6 28 "EdgeAndSpeed$Plan" "bench" "LEdgeAndSpeed$Bench;") (by decide +kernel)) (fun _ h9 => h9) rfl dX6_measure_13 ?_
  obtain ⟨x4, h5, hf⟩ := zb1_e hf
  refine zgo_i (zrunV (As := []) (rest := [.ref (a0 p1), .ref (ad o)]) S (c_X0_changeHundredths l hD 4 (zBat_C (by decide)) h5) (cwV 0 hts gX6_measure_X0_changeHundredths rfl rfl rfl ddX0_changeHundredths ⟨Nat.le_trans (Nat.le_of_ble_eq_true rfl) hfr, Nat.le_trans (Nat.le_of_ble_eq_true rfl) hlo⟩) (va_recv E.1 hP (q := (RX0, TX0, 17)) (ci := 0) rfl (zO.get (zBat_o (zBat_C (by decide))))) E hP hS hl.1 rfl rfl (Nat.le_of_ble_eq_true rfl) dX6_measure_16) hS (fun H locs hP hS => ?_)
  refine lv_aload_n hx hb dX6_measure_19 rfl (lv_at hl 0 rfl) ?_
  refine va_get (D := D) (ci := 5) (v := .ref (ad 4)) (C := RX6) (T := TX6) (N := 7) hx hb hts hinX6_measure_X6 hown E.1 hP o (zO.get (oX6_at ho)) rfl 0 (by decide) (hts (.fieldLink RX6 28 "EdgeAndSpeed$Plan" "bench" "LEdgeAndSpeed$Bench;") (by decide +kernel)) (fun _ h9 => h9) rfl dX6_measure_20 ?_
  obtain ⟨u6, h7, hf⟩ := zb1_e hf
  refine zgo_l (zrunV (As := []) (rest := [.int x4, .ref (a0 p1), .ref (ad o)]) S (c_X0_changeCost l hD 4 (zBat_C (by decide)) h7) (cwV 0 hts gX6_measure_X0_changeCost rfl rfl rfl ddX0_changeCost ⟨Nat.le_trans (Nat.le_of_ble_eq_true rfl) hfr, Nat.le_trans (Nat.le_of_ble_eq_true rfl) hlo⟩) (va_recv E.1 hP (q := (RX0, TX0, 17)) (ci := 0) rfl (zO.get (zBat_o (zBat_C (by decide))))) E hP hS hl.1 rfl rfl (Nat.le_of_ble_eq_true rfl) dX6_measure_23) hS (fun H locs hP hS => ?_)
  obtain ⟨gm, hf⟩ := zg_i hf
  obtain ⟨u8, h9, hf⟩ := zb1_e hf
  refine zgo_l (zrunV (As := [.int x4, .long u6]) (rest := [.ref (ad o)]) S (c_X4_ofSpending l hD p1 x4 u6 h9) (cwV 2 hts gX6_measure_X4_ofSpending rfl rfl rfl ddX4_ofSpending ⟨Nat.le_trans (Nat.le_of_ble_eq_true rfl) hfr, Nat.le_trans (Nat.le_of_ble_eq_true rfl) hlo⟩) (zMrecv (E.2.1 _ gm) hS) E hP hS hl.1 rfl rfl (Nat.le_of_ble_eq_true rfl) dX6_measure_26) hS (fun H locs hP hS => ?_)
  obtain ⟨J10, eJ10⟩ := zex (va_up J o (va_up (J o) 5 u8))
  replace hf := zn_s eJ10 hf
  refine zput (D := D) (ci := 5) (v := .long u8) (ty := .long) (C := RX6) (T := TX6) (N := 7) hx hb hts hinX6_measure_X6 tyX6 tyX6_ok nmX6 hown E.1 hP hD.D hS o (zO.get (oX6_at ho)) rfl 5 (by decide) (hts (.fieldLink RX6 60 "EdgeAndSpeed$Plan" "ofChange" "J") (by decide +kernel)) (fun _ h9 => h9) rfl (tyX6_ok 5 (by decide)) rfl rfl (Nat.le_of_ble_eq_true rfl) dX6_measure_29 (zO.setJ (oX6_at ho) rfl eJ10) (fun H locs hP hS => ?_)
  exact hret _ _ hf _ _ _ _ hP hS dX6_measure_32
theorem c_X6_measure (l : Launch) {D : va_G} {a0 : Nat → Nat} {A : Nat → Prop} {cy : Nat → ClassId} {ad : Nat → Nat} (hD : zD A 74 ad) {I : zI} {J : zJ} (o : Nat) (ho : zPn o) (p1 : Nat) (p2 : Int32) {rI : zI} {rJ : zJ} (hf : f_X6_measure I J o p1 p2 = some (rI, rJ)) : Met l yX6_measure wsX6_measure { frames := 2, cells := 0, slots := 0, locals := 42 } (zPc D a0 A cy [.ref (ad o), .ref (a0 p1), .int p2] (zw 74 (kC cy ad a0) ad I J)) (zQv D A (zw 74 (kC cy ad a0) ad rI rJ)) 0 0 A :=
  zmet RX6 (by decide) rfl rfl (Nat.le_of_ble_eq_true rfl) (fun p e R s m below meth c Q hfr hlo ls S0 hQ => w_X6_measure hfr hlo hD o ho p1 p2 hf S0 (fun tI tJ hq H locs ls pc hP hS hd => by cases hq; exact hQ H locs _ hS (fun hx hb hr hlocks hfree => W.vret hx hb hr (fun t ht hW => ⟨⟨(), rfl, trivial, zht ht hP⟩, hS.F ht⟩) hfree hd hlocks)))
theorem ddX6_measure : yX6_measure.cls = RX6 ∧ yX6_measure.cls ≠ "java/lang/invoke/MethodHandle" ∧ yX6_measure.cls ≠ "java/lang/invoke/VarHandle" ∧ (parseMethodDescriptor yX6_measure.desc).map (fun d => d.parameters.length) = some 2 := by decide +kernel

def f_X0_isPass (I : zI) (J : zJ) (o : Nat) (p1 : Int32) (p2 : Int32) : Option Int32 := zb1 (f_X11_depthOf I J p1) (fun x1 => zb1 (f_X11_speedOf I J p1) (fun x3 => zb1 (f_X0_hasSpeed I J o x3) (fun x5 => (if x5 = 0 then some 0 else (if p2 < x1 then some 0 else zb1 (f_X11_speedOf I J p1) (fun x9 => zb1 (f_X0_mayCut I J o x9 x1) (fun x11 => (if x11 = 0 then some 0 else some 1))))))))
set_option maxHeartbeats 4000000 in
set_option maxRecDepth 100000 in
theorem w_X0_isPass {p : Program} {l : Launch} {e : Env} {R : Room} {s : State} {m : MethodId} {args : Array Value} {below : List Frame} {meth : Method} {c : Code} {Q : State → Prop} (hfr : 2 ≤ R.frames) (hlo : 43 ≤ R.locals) {D : va_G} {a0 : Nat → Nat} {A : Nat → Prop} {cy : Nat → ClassId} {ad : Nat → Nat} {N : Nat} {K : zK} (hD : zD A N ad) {I : zI} {J : zJ} (o : Nat) (hB : zBat N K cy ad o) (p1 : Int32) (p2 : Int32) {rx : Int32} (hf : f_X0_isPass I J o p1 p2 = some rx) {ls : Array Slot} (S0 : zSt p m c cX0_isPass 4 s args wsX0_isPass RX0 D a0 A cy (zw N K ad I J) [.ref (ad o), .int p1, .int p2] ls) (hret : ∀ (tx : Int32), some tx = some rx → (tx = 0 ∨ tx = 1) → ∀ (H : Heap) (locs : List Loc) (ls : Array Slot) (pc : Nat), va_P D vwCl (zw N K ad I J) H → va_S A s.heap H locs → decode cX0_isPass pc = .ok (.ireturn, 1) → W p l e R s m args below meth c H locs 0 0 Q (F0 m pc ls [.int tx])) : W p l e R s m args below meth c s.heap [] 0 0 Q (F0 m 0 ls []) := by
  obtain ⟨S, E, hP, hl⟩ := S0
  obtain ⟨hx, hb, hml, hown, hts⟩ := id S
  have hS : va_S A s.heap s.heap [] := va_S.rf
  replace hl : lv_has ls 4 [(0, .ref (ad o)), (1, .int p1), (2, .int p2)] := hl
  unfold f_X0_isPass at hf
  refine lv_iload_n hx hb dX0_isPass_0 rfl (lv_at hl 1 rfl) ?_
  obtain ⟨x1, h2, hf⟩ := zb1_e hf
  refine zgo_i (zrunSN (As := [.int p1]) (rest := []) S (c_X11_depthOf l hD p1 h2) ⟨va_cnB (host := "EdgeAndSpeed") 1 hts gX0_isPass_X11_depthOf_n119 rfl rfl rfl (zNmw_4 E.2.2) (hts (.initialized RX11) (by decide +kernel)) ddX11_depthOf ⟨Nat.le_trans (Nat.le_of_ble_eq_true rfl) hfr, Nat.le_trans (Nat.le_of_ble_eq_true rfl) hlo⟩, hts (.static yX11_depthOf) (by decide +kernel), trivial⟩ E hP hS hl.1 rfl rfl (Nat.le_of_ble_eq_true rfl) dX0_isPass_1) hS (fun H locs hP hS => ?_)
  refine lv_istore_n (lv' := [(3, .int x1), (0, .ref (ad o)), (1, .int p1), (2, .int p2)]) hx hb dX0_isPass_4 rfl hl (by decide) rfl (fun ls hl => ?_)
  refine lv_aload_n hx hb dX0_isPass_5 rfl (lv_at hl 1 rfl) ?_
  refine lv_iload_n hx hb dX0_isPass_6 rfl (lv_at hl 2 rfl) ?_
  obtain ⟨x3, h4, hf⟩ := zb1_e hf
  refine zgo_i (zrunSN (As := [.int p1]) (rest := [.ref (ad o)]) S (c_X11_speedOf l hD p1 h4) ⟨va_cnB (host := "EdgeAndSpeed") 1 hts gX0_isPass_X11_speedOf_n122 rfl rfl rfl (zNmw_5 E.2.2) (hts (.initialized RX11) (by decide +kernel)) ddX11_speedOf ⟨Nat.le_trans (Nat.le_of_ble_eq_true rfl) hfr, Nat.le_trans (Nat.le_of_ble_eq_true rfl) hlo⟩, hts (.static yX11_speedOf) (by decide +kernel), trivial⟩ E hP hS hl.1 rfl rfl (Nat.le_of_ble_eq_true rfl) dX0_isPass_7) hS (fun H locs hP hS => ?_)
  obtain ⟨x5, h6, hf⟩ := zb1_e hf
  refine zgo_i (zrunV (As := [.int x3]) (rest := []) S (c_X0_hasSpeed l hD o hB x3 h6) (cwV 1 hts gX0_isPass_X0_hasSpeed rfl rfl rfl ddX0_hasSpeed ⟨Nat.le_trans (Nat.le_of_ble_eq_true rfl) hfr, Nat.le_trans (Nat.le_of_ble_eq_true rfl) hlo⟩) (va_recv E.1 hP (q := (RX0, TX0, 17)) (ci := 0) rfl (zO.get (zBat_o hB))) E hP hS hl.1 rfl rfl (Nat.le_of_ble_eq_true rfl) dX0_isPass_10) hS (fun H locs hP hS => ?_)
  refine lv_if_eq (tgt := 37) hx hb dX0_isPass_13 (by decide) (fun k7 => ?_) (fun k7 => ?_)
  · replace hf := zt k7 hf
    refine lv_iconst (v := 0) hx hb dX0_isPass_37 (by decide) ?_
    exact hret _ hf (Or.inl rfl) _ _ _ _ hP hS dX0_isPass_38
  · replace hf := zf k7 hf
    refine lv_iload_n hx hb dX0_isPass_16 rfl (lv_at hl 0 rfl) ?_
    refine lv_iload_n hx hb dX0_isPass_17 rfl (lv_at hl 3 rfl) ?_
    refine lv_icmp_gt (tgt := 37) hx hb dX0_isPass_18 (by decide) (fun k8 => ?_) (fun k8 => ?_)
    · replace hf := zt k8 hf
      refine lv_iconst (v := 0) hx hb dX0_isPass_37 (by decide) ?_
      exact hret _ hf (Or.inl rfl) _ _ _ _ hP hS dX0_isPass_38
    · replace hf := zf k8 hf
      refine lv_aload_n hx hb dX0_isPass_21 rfl (lv_at hl 1 rfl) ?_
      refine lv_iload_n hx hb dX0_isPass_22 rfl (lv_at hl 2 rfl) ?_
      obtain ⟨x9, h10, hf⟩ := zb1_e hf
      refine zgo_i (zrunSN (As := [.int p1]) (rest := [.ref (ad o)]) S (c_X11_speedOf l hD p1 h10) ⟨va_cnB (host := "EdgeAndSpeed") 1 hts gX0_isPass_X11_speedOf_n122 rfl rfl rfl (zNmw_5 E.2.2) (hts (.initialized RX11) (by decide +kernel)) ddX11_speedOf ⟨Nat.le_trans (Nat.le_of_ble_eq_true rfl) hfr, Nat.le_trans (Nat.le_of_ble_eq_true rfl) hlo⟩, hts (.static yX11_speedOf) (by decide +kernel), trivial⟩ E hP hS hl.1 rfl rfl (Nat.le_of_ble_eq_true rfl) dX0_isPass_23) hS (fun H locs hP hS => ?_)
      refine lv_iload_n hx hb dX0_isPass_26 rfl (lv_at hl 0 rfl) ?_
      obtain ⟨x11, h12, hf⟩ := zb1_e hf
      refine zgo_i (zrunV (As := [.int x9, .int x1]) (rest := []) S (c_X0_mayCut l hD o hB x9 x1 h12) (cwV 2 hts gX0_isPass_X0_mayCut rfl rfl rfl ddX0_mayCut ⟨Nat.le_trans (Nat.le_of_ble_eq_true rfl) hfr, Nat.le_trans (Nat.le_of_ble_eq_true rfl) hlo⟩) (va_recv E.1 hP (q := (RX0, TX0, 17)) (ci := 0) rfl (zO.get (zBat_o hB))) E hP hS hl.1 rfl rfl (Nat.le_of_ble_eq_true rfl) dX0_isPass_27) hS (fun H locs hP hS => ?_)
      refine lv_if_eq (tgt := 37) hx hb dX0_isPass_30 (by decide) (fun k13 => ?_) (fun k13 => ?_)
      · replace hf := zt k13 hf
        refine lv_iconst (v := 0) hx hb dX0_isPass_37 (by decide) ?_
        exact hret _ hf (Or.inl rfl) _ _ _ _ hP hS dX0_isPass_38
      · replace hf := zf k13 hf
        refine lv_iconst (v := 1) hx hb dX0_isPass_33 (by decide) ?_
        refine lv_goto (tgt := 38) hx hb dX0_isPass_34 (by decide) ?_
        exact hret _ hf (Or.inr rfl) _ _ _ _ hP hS dX0_isPass_38
theorem c_X0_isPass (l : Launch) {D : va_G} {a0 : Nat → Nat} {A : Nat → Prop} {cy : Nat → ClassId} {ad : Nat → Nat} {N : Nat} {K : zK} (hD : zD A N ad) {I : zI} {J : zJ} (o : Nat) (hB : zBat N K cy ad o) (p1 : Int32) (p2 : Int32) {rx : Int32} (hf : f_X0_isPass I J o p1 p2 = some rx) : Met l yX0_isPass wsX0_isPass { frames := 2, cells := 0, slots := 0, locals := 43 } (zPc D a0 A cy [.ref (ad o), .int p1, .int p2] (zw N K ad I J)) (zQi D A rx (zw N K ad I J)) 0 0 A :=
  zmet RX0 (by decide) rfl rfl (Nat.le_of_ble_eq_true rfl) (fun p e R s m below meth c Q hfr hlo ls S0 hQ => w_X0_isPass hfr hlo hD o hB p1 p2 hf S0 (fun tx hq n01 H locs ls pc hP hS hd => by cases hq; exact hQ H locs _ hS (fun hx hb hr hlocks hfree => W.zret hx hb hr (z01 n01) (fun t ht hW => ⟨⟨_, (), rfl, rfl, zht ht hP⟩, hS.F ht⟩) hfree hd hlocks)))
theorem ddX0_isPass : yX0_isPass.cls = RX0 ∧ yX0_isPass.cls ≠ "java/lang/invoke/MethodHandle" ∧ yX0_isPass.cls ≠ "java/lang/invoke/VarHandle" ∧ (parseMethodDescriptor yX0_isPass.desc).map (fun d => d.parameters.length) = some 2 := by decide +kernel

def f_X6_ofTime (I : zI) (J : zJ) (o : Nat) (p1 : Int32) (p2 : Int32) : Option Int64 := zb1 (f_X0_minutes I J 4 p1 p2) (fun x1 => zb1 (f_X0_cost I J 4 x1 0) (fun u3 => zg ((I o 3).toNatClampNeg < 4) (zb1 (f_X4_ofSpending I J ((I o 3).toNatClampNeg) x1 u3) (fun u5 => some u5))))
theorem hinX6_ofTime_X6 : ∀ w ∈ u_ws RX6 TX6 7, w ∈ wsX6_ofTime := by decide +kernel
set_option maxHeartbeats 4000000 in
set_option maxRecDepth 100000 in
theorem w_X6_ofTime {p : Program} {l : Launch} {e : Env} {R : Room} {s : State} {m : MethodId} {args : Array Value} {below : List Frame} {meth : Method} {c : Code} {Q : State → Prop} (hfr : 2 ≤ R.frames) (hlo : 44 ≤ R.locals) {D : va_G} {a0 : Nat → Nat} {A : Nat → Prop} {cy : Nat → ClassId} {ad : Nat → Nat} (hD : zD A 74 ad) {I : zI} {J : zJ} (o : Nat) (ho : zPn o) (p1 : Int32) (p2 : Int32) {rx : Int64} (hf : f_X6_ofTime I J o p1 p2 = some rx) {ls : Array Slot} (S0 : zSt p m c cX6_ofTime 4 s args wsX6_ofTime RX6 D a0 A cy (zw 74 (kC cy ad a0) ad I J) [.ref (ad o), .int p1, .int p2] ls) (hret : ∀ (tx : Int64), some tx = some rx → ∀ (H : Heap) (locs : List Loc) (ls : Array Slot) (pc : Nat), va_P D vwCl (zw 74 (kC cy ad a0) ad I J) H → va_S A s.heap H locs → decode cX6_ofTime pc = .ok (.lreturn, 1) → W p l e R s m args below meth c H locs 0 0 Q (F0 m pc ls [.long tx])) : W p l e R s m args below meth c s.heap [] 0 0 Q (F0 m 0 ls []) := by
  obtain ⟨S, E, hP, hl⟩ := S0
  obtain ⟨hx, hb, hml, hown, hts⟩ := id S
  have hS : va_S A s.heap s.heap [] := va_S.rf
  replace hl : lv_has ls 4 [(0, .ref (ad o)), (1, .int p1), (2, .int p2)] := hl
  unfold f_X6_ofTime at hf
  refine lv_aload_n hx hb dX6_ofTime_0 rfl (lv_at hl 0 rfl) ?_
  refine va_get (D := D) (ci := 5) (v := .ref (ad 4)) (C := RX6) (T := TX6) (N := 7) hx hb hts hinX6_ofTime_X6 hown E.1 hP o (zO.get (oX6_at ho)) rfl 0 (by decide) (hts (.fieldLink RX6 28 "EdgeAndSpeed$Plan" "bench" "LEdgeAndSpeed$Bench;") (by decide +kernel)) (fun _ h9 => h9) rfl dX6_ofTime_1 ?_
  refine lv_iload_n hx hb dX6_ofTime_4 rfl (lv_at hl 1 rfl) ?_
  refine lv_iload_n hx hb dX6_ofTime_5 rfl (lv_at hl 2 rfl) ?_
  obtain ⟨x1, h2, hf⟩ := zb1_e hf
  refine zgo_i (zrunV (As := [.int p1, .int p2]) (rest := []) S (c_X0_minutes l hD 4 (zBat_C (by decide)) p1 p2 h2) (cwV 2 hts gX6_ofTime_X0_minutes rfl rfl rfl ddX0_minutes ⟨Nat.le_trans (Nat.le_of_ble_eq_true rfl) hfr, Nat.le_trans (Nat.le_of_ble_eq_true rfl) hlo⟩) (va_recv E.1 hP (q := (RX0, TX0, 17)) (ci := 0) rfl (zO.get (zBat_o (zBat_C (by decide))))) E hP hS hl.1 rfl rfl (Nat.le_of_ble_eq_true rfl) dX6_ofTime_6) hS (fun H locs hP hS => ?_)
  refine lv_istore_n (lv' := [(3, .int x1), (0, .ref (ad o)), (1, .int p1), (2, .int p2)]) hx hb dX6_ofTime_9 rfl hl (by decide) rfl (fun ls hl => ?_)
  refine lv_aload_n hx hb dX6_ofTime_10 rfl (lv_at hl 1 rfl) ?_
  refine va_get (D := D) (ci := 5) (v := .ref (a0 ((I o 3).toNatClampNeg))) (C := RX6) (T := TX6) (N := 7) hx hb hts hinX6_ofTime_X6 hown E.1 hP o (zO.get (oX6_at ho)) rfl 3 (by decide) (hts (.fieldLink RX6 25 "EdgeAndSpeed$Plan" "by" "LEdgeAndSpeed$Measure;") (by decide +kernel)) (fun _ h9 => h9) rfl dX6_ofTime_11 ?_
  refine lv_iload_n hx hb dX6_ofTime_14 rfl (lv_at hl 0 rfl) ?_
  refine lv_aload_n hx hb dX6_ofTime_15 rfl (lv_at hl 1 rfl) ?_
  refine va_get (D := D) (ci := 5) (v := .ref (ad 4)) (C := RX6) (T := TX6) (N := 7) hx hb hts hinX6_ofTime_X6 hown E.1 hP o (zO.get (oX6_at ho)) rfl 0 (by decide) (hts (.fieldLink RX6 28 "EdgeAndSpeed$Plan" "bench" "LEdgeAndSpeed$Bench;") (by decide +kernel)) (fun _ h9 => h9) rfl dX6_ofTime_16 ?_
  refine lv_iload_n hx hb dX6_ofTime_19 rfl (lv_at hl 0 rfl) ?_
  refine lv_iconst (v := 0) hx hb dX6_ofTime_20 (by decide) ?_
  obtain ⟨u3, h4, hf⟩ := zb1_e hf
  refine zgo_l (zrunV (As := [.int x1, .int 0]) (rest := [.int x1, .ref (a0 ((I o 3).toNatClampNeg))]) S (c_X0_cost l hD 4 (zBat_C (by decide)) x1 0 h4) (cwV 2 hts gX6_ofTime_X0_cost rfl rfl rfl ddX0_cost ⟨Nat.le_trans (Nat.le_of_ble_eq_true rfl) hfr, Nat.le_trans (Nat.le_of_ble_eq_true rfl) hlo⟩) (va_recv E.1 hP (q := (RX0, TX0, 17)) (ci := 0) rfl (zO.get (zBat_o (zBat_C (by decide))))) E hP hS hl.1 rfl rfl (Nat.le_of_ble_eq_true rfl) dX6_ofTime_21) hS (fun H locs hP hS => ?_)
  obtain ⟨gm, hf⟩ := zg_i hf
  obtain ⟨u5, h6, hf⟩ := zb1_e hf
  refine zgo_l (zrunV (As := [.int x1, .long u3]) (rest := []) S (c_X4_ofSpending l hD ((I o 3).toNatClampNeg) x1 u3 h6) (cwV 2 hts gX6_ofTime_X4_ofSpending rfl rfl rfl ddX4_ofSpending ⟨Nat.le_trans (Nat.le_of_ble_eq_true rfl) hfr, Nat.le_trans (Nat.le_of_ble_eq_true rfl) hlo⟩) (zMrecv (E.2.1 _ gm) hS) E hP hS hl.1 rfl rfl (Nat.le_of_ble_eq_true rfl) dX6_ofTime_24) hS (fun H locs hP hS => ?_)
  exact hret _ hf _ _ _ _ hP hS dX6_ofTime_27
theorem c_X6_ofTime (l : Launch) {D : va_G} {a0 : Nat → Nat} {A : Nat → Prop} {cy : Nat → ClassId} {ad : Nat → Nat} (hD : zD A 74 ad) {I : zI} {J : zJ} (o : Nat) (ho : zPn o) (p1 : Int32) (p2 : Int32) {rx : Int64} (hf : f_X6_ofTime I J o p1 p2 = some rx) : Met l yX6_ofTime wsX6_ofTime { frames := 2, cells := 0, slots := 0, locals := 44 } (zPc D a0 A cy [.ref (ad o), .int p1, .int p2] (zw 74 (kC cy ad a0) ad I J)) (zQl D A rx (zw 74 (kC cy ad a0) ad I J)) 0 0 A :=
  zmet RX6 (by decide) rfl rfl (Nat.le_of_ble_eq_true rfl) (fun p e R s m below meth c Q hfr hlo ls S0 hQ => w_X6_ofTime hfr hlo hD o ho p1 p2 hf S0 (fun tx hq H locs ls pc hP hS hd => by cases hq; exact hQ H locs _ hS (fun hx hb hr hlocks hfree => W.lret hx hb hr (fun t ht hW => ⟨⟨_, (), rfl, rfl, zht ht hP⟩, hS.F ht⟩) hfree hd hlocks)))
theorem ddX6_ofTime : yX6_ofTime.cls = RX6 ∧ yX6_ofTime.cls ≠ "java/lang/invoke/MethodHandle" ∧ yX6_ofTime.cls ≠ "java/lang/invoke/VarHandle" ∧ (parseMethodDescriptor yX6_ofTime.desc).map (fun d => d.parameters.length) = some 2 := by decide +kernel

def f_X6_placeOf (I : zI) (J : zJ) (p1 : Int32) (p2 : Int32) (p3 : Int32) : Option Int32 := some (((((p1 * 8) + p2) - 1) * 101) + p3)
set_option maxHeartbeats 4000000 in
set_option maxRecDepth 100000 in
theorem w_X6_placeOf {p : Program} {l : Launch} {e : Env} {R : Room} {s : State} {m : MethodId} {args : Array Value} {below : List Frame} {meth : Method} {c : Code} {Q : State → Prop} (hfr : 0 ≤ R.frames) (hlo : 0 ≤ R.locals) {D : va_G} {a0 : Nat → Nat} {A : Nat → Prop} {cy : Nat → ClassId} {ad : Nat → Nat} (hD : zD A 74 ad) {I : zI} {J : zJ} (p1 : Int32) (p2 : Int32) (p3 : Int32) {rx : Int32} (hf : f_X6_placeOf I J p1 p2 p3 = some rx) {ls : Array Slot} (S0 : zSt p m c cX6_placeOf 3 s args wsX6_placeOf RX6 D a0 A cy (zw 74 (kC cy ad a0) ad I J) [.int p1, .int p2, .int p3] ls) (hret : ∀ (tx : Int32), some tx = some rx → ∀ (H : Heap) (locs : List Loc) (ls : Array Slot) (pc : Nat), va_P D vwCl (zw 74 (kC cy ad a0) ad I J) H → va_S A s.heap H locs → decode cX6_placeOf pc = .ok (.ireturn, 1) → W p l e R s m args below meth c H locs 0 0 Q (F0 m pc ls [.int tx])) : W p l e R s m args below meth c s.heap [] 0 0 Q (F0 m 0 ls []) := by
  obtain ⟨S, E, hP, hl⟩ := S0
  obtain ⟨hx, hb, hml, hown, hts⟩ := id S
  have hS : va_S A s.heap s.heap [] := va_S.rf
  replace hl : lv_has ls 3 [(0, .int p1), (1, .int p2), (2, .int p3)] := hl
  unfold f_X6_placeOf at hf
  refine lv_iload_n hx hb dX6_placeOf_0 rfl (lv_at hl 0 rfl) ?_
  refine lv_bipush (v := 8) hx hb dX6_placeOf_1 (by decide) ?_
  refine lv_imul hx hb dX6_placeOf_3 ?_
  refine lv_iload_n hx hb dX6_placeOf_4 rfl (lv_at hl 1 rfl) ?_
  refine lv_iadd hx hb dX6_placeOf_5 ?_
  refine lv_iconst (v := 1) hx hb dX6_placeOf_6 (by decide) ?_
  refine lv_isub hx hb dX6_placeOf_7 ?_
  refine lv_bipush (v := 101) hx hb dX6_placeOf_8 (by decide) ?_
  refine lv_imul hx hb dX6_placeOf_10 ?_
  refine lv_iload_n hx hb dX6_placeOf_11 rfl (lv_at hl 2 rfl) ?_
  refine lv_iadd hx hb dX6_placeOf_12 ?_
  exact hret _ hf _ _ _ _ hP hS dX6_placeOf_13
theorem c_X6_placeOf (l : Launch) {D : va_G} {a0 : Nat → Nat} {A : Nat → Prop} {cy : Nat → ClassId} {ad : Nat → Nat} (hD : zD A 74 ad) {I : zI} {J : zJ} (p1 : Int32) (p2 : Int32) (p3 : Int32) {rx : Int32} (hf : f_X6_placeOf I J p1 p2 p3 = some rx) : Met l yX6_placeOf wsX6_placeOf { frames := 0, cells := 0, slots := 0, locals := 0 } (zPc D a0 A cy [.int p1, .int p2, .int p3] (zw 74 (kC cy ad a0) ad I J)) (zQi D A rx (zw 74 (kC cy ad a0) ad I J)) 0 0 A :=
  zmet RX6 (by decide) rfl rfl (Nat.le_of_ble_eq_true rfl) (fun p e R s m below meth c Q hfr hlo ls S0 hQ => w_X6_placeOf hfr hlo hD p1 p2 p3 hf S0 (fun tx hq H locs ls pc hP hS hd => by cases hq; exact hQ H locs _ hS (fun hx hb hr hlocks hfree => W.iret hx hb hr (fun t ht hW => ⟨⟨_, (), rfl, rfl, zht ht hP⟩, hS.F ht⟩) hfree hd hlocks)))
theorem ddX6_placeOf : yX6_placeOf.cls ≠ "java/lang/invoke/MethodHandle" ∧ yX6_placeOf.cls ≠ "java/lang/invoke/VarHandle" ∧ (parseMethodDescriptor yX6_placeOf.desc).map (fun d => d.parameters.length) = some 3 := by decide +kernel

def f_X6_gainAt (I : zI) (J : zJ) (o : Nat) (p1 : Int32) (p2 : Int32) (p3 : Int32) : Option Int64 := zb1 (f_X6_placeOf I J p1 p2 p3) (fun x1 => (if x1 < 0 then some 0 else (if 6464 ≤ x1 then some 0 else zg (¬ (x1 < 0 ∨ 6464 ≤ x1.toNatClampNeg)) (some (J (o + 1) x1.toNatClampNeg)))))
theorem hinX6_gainAt_X6 : ∀ w ∈ u_ws RX6 TX6 7, w ∈ wsX6_gainAt := by decide +kernel
set_option maxHeartbeats 4000000 in
set_option maxRecDepth 100000 in
theorem w_X6_gainAt {p : Program} {l : Launch} {e : Env} {R : Room} {s : State} {m : MethodId} {args : Array Value} {below : List Frame} {meth : Method} {c : Code} {Q : State → Prop} (hfr : 1 ≤ R.frames) (hlo : 22 ≤ R.locals) {D : va_G} {a0 : Nat → Nat} {A : Nat → Prop} {cy : Nat → ClassId} {ad : Nat → Nat} (hD : zD A 74 ad) {I : zI} {J : zJ} (o : Nat) (ho : zPn o) (p1 : Int32) (p2 : Int32) (p3 : Int32) {rx : Int64} (hf : f_X6_gainAt I J o p1 p2 p3 = some rx) {ls : Array Slot} (S0 : zSt p m c cX6_gainAt 5 s args wsX6_gainAt RX6 D a0 A cy (zw 74 (kC cy ad a0) ad I J) [.ref (ad o), .int p1, .int p2, .int p3] ls) (hret : ∀ (tx : Int64), some tx = some rx → ∀ (H : Heap) (locs : List Loc) (ls : Array Slot) (pc : Nat), va_P D vwCl (zw 74 (kC cy ad a0) ad I J) H → va_S A s.heap H locs → decode cX6_gainAt pc = .ok (.lreturn, 1) → W p l e R s m args below meth c H locs 0 0 Q (F0 m pc ls [.long tx])) : W p l e R s m args below meth c s.heap [] 0 0 Q (F0 m 0 ls []) := by
  obtain ⟨S, E, hP, hl⟩ := S0
  obtain ⟨hx, hb, hml, hown, hts⟩ := id S
  have hS : va_S A s.heap s.heap [] := va_S.rf
  replace hl : lv_has ls 5 [(0, .ref (ad o)), (1, .int p1), (2, .int p2), (3, .int p3)] := hl
  unfold f_X6_gainAt at hf
  refine lv_iload_n hx hb dX6_gainAt_0 rfl (lv_at hl 1 rfl) ?_
  refine lv_iload_n hx hb dX6_gainAt_1 rfl (lv_at hl 2 rfl) ?_
  refine lv_iload_n hx hb dX6_gainAt_2 rfl (lv_at hl 3 rfl) ?_
  obtain ⟨x1, h2, hf⟩ := zb1_e hf
  refine zgo_i (zrunS (As := [.int p1, .int p2, .int p3]) (rest := []) S (c_X6_placeOf l hD p1 p2 p3 h2) (va_cwS 3 hts gX6_gainAt_X6_placeOf rfl rfl rfl ddX6_placeOf ⟨Nat.le_trans (Nat.le_of_ble_eq_true rfl) hfr, Nat.le_trans (Nat.le_of_ble_eq_true rfl) hlo⟩) E hP hS hl.1 rfl rfl (Nat.le_of_ble_eq_true rfl) dX6_gainAt_3) hS (fun H locs hP hS => ?_)
  refine lv_istore (lv' := [(4, .int x1), (0, .ref (ad o)), (1, .int p1), (2, .int p2), (3, .int p3)]) hx hb dX6_gainAt_6 hl (by decide) rfl (fun ls hl => ?_)
  refine lv_iload hx hb dX6_gainAt_8 (lv_at hl 0 rfl) ?_
  refine lv_if_lt (tgt := 33) hx hb dX6_gainAt_10 (by decide) (fun k3 => ?_) (fun k3 => ?_)
  · replace hf := zt k3 hf
    refine lv_lconst (v := 0) hx hb dX6_gainAt_33 (by decide) ?_
    exact hret _ hf _ _ _ _ hP hS dX6_gainAt_34
  · replace hf := zf k3 hf
    refine lv_iload hx hb dX6_gainAt_13 (lv_at hl 0 rfl) ?_
    refine lv_aload_n hx hb dX6_gainAt_15 rfl (lv_at hl 1 rfl) ?_
    refine va_get (D := D) (ci := 5) (v := .ref (ad (o + 1))) (C := RX6) (T := TX6) (N := 7) hx hb hts hinX6_gainAt_X6 hown E.1 hP o (zO.get (oX6_at ho)) rfl 1 (by decide) (hts (.fieldLink RX6 9 "EdgeAndSpeed$Plan" "gains" "[J") (by decide +kernel)) (fun _ h9 => h9) rfl dX6_gainAt_16 ?_
    refine va_alen (v := 6464) (ty := .long) hx hb E.1 hP (o + 1) 2 (zLA.get (aX6_1 ho)) rfl rfl dX6_gainAt_19 ?_
    refine lv_icmp_ge (tgt := 33) hx hb dX6_gainAt_20 (by decide) (fun k4 => ?_) (fun k4 => ?_)
    · replace hf := zt k4 hf
      refine lv_lconst (v := 0) hx hb dX6_gainAt_33 (by decide) ?_
      exact hret _ hf _ _ _ _ hP hS dX6_gainAt_34
    · replace hf := zf k4 hf
      refine lv_aload_n hx hb dX6_gainAt_23 rfl (lv_at hl 1 rfl) ?_
      refine va_get (D := D) (ci := 5) (v := .ref (ad (o + 1))) (C := RX6) (T := TX6) (N := 7) hx hb hts hinX6_gainAt_X6 hown E.1 hP o (zO.get (oX6_at ho)) rfl 1 (by decide) (hts (.fieldLink RX6 9 "EdgeAndSpeed$Plan" "gains" "[J") (by decide +kernel)) (fun _ h9 => h9) rfl dX6_gainAt_24 ?_
      refine lv_iload hx hb dX6_gainAt_27 (lv_at hl 0 rfl) ?_
      obtain ⟨g5, hf⟩ := zg_i hf
      refine va_lald hx hb E.1 hP (o + 1) 2 (zLA.get (aX6_1 ho)) rfl g5 dX6_gainAt_29 ?_
      refine lv_goto (tgt := 34) hx hb dX6_gainAt_30 (by decide) ?_
      exact hret _ hf _ _ _ _ hP hS dX6_gainAt_34
theorem c_X6_gainAt (l : Launch) {D : va_G} {a0 : Nat → Nat} {A : Nat → Prop} {cy : Nat → ClassId} {ad : Nat → Nat} (hD : zD A 74 ad) {I : zI} {J : zJ} (o : Nat) (ho : zPn o) (p1 : Int32) (p2 : Int32) (p3 : Int32) {rx : Int64} (hf : f_X6_gainAt I J o p1 p2 p3 = some rx) : Met l yX6_gainAt wsX6_gainAt { frames := 1, cells := 0, slots := 0, locals := 22 } (zPc D a0 A cy [.ref (ad o), .int p1, .int p2, .int p3] (zw 74 (kC cy ad a0) ad I J)) (zQl D A rx (zw 74 (kC cy ad a0) ad I J)) 0 0 A :=
  zmet RX6 (by decide) rfl rfl (Nat.le_of_ble_eq_true rfl) (fun p e R s m below meth c Q hfr hlo ls S0 hQ => w_X6_gainAt hfr hlo hD o ho p1 p2 p3 hf S0 (fun tx hq H locs ls pc hP hS hd => by cases hq; exact hQ H locs _ hS (fun hx hb hr hlocks hfree => W.lret hx hb hr (fun t ht hW => ⟨⟨_, (), rfl, rfl, zht ht hP⟩, hS.F ht⟩) hfree hd hlocks)))
theorem ddX6_gainAt : yX6_gainAt.cls = RX6 ∧ yX6_gainAt.cls ≠ "java/lang/invoke/MethodHandle" ∧ yX6_gainAt.cls ≠ "java/lang/invoke/VarHandle" ∧ (parseMethodDescriptor yX6_gainAt.desc).map (fun d => d.parameters.length) = some 3 := by decide +kernel

def f_X6_gainAtStart (I : zI) (J : zJ) (o : Nat) (p1 : Int32) (p2 : Int32) : Option Int64 := zb1 (f_X0_hasPiece I J 4 p1) (fun x1 => (if x1 = 0 then some 0 else zb1 (f_X0_stepsOf I J 4 p1) (fun x4 => zb1 (f_X6_gainAt I J o p1 x4 p2) (fun u6 => some u6))))
theorem hinX6_gainAtStart_X6 : ∀ w ∈ u_ws RX6 TX6 7, w ∈ wsX6_gainAtStart := by decide +kernel
set_option maxHeartbeats 4000000 in
set_option maxRecDepth 100000 in
theorem w_X6_gainAtStart {p : Program} {l : Launch} {e : Env} {R : Room} {s : State} {m : MethodId} {args : Array Value} {below : List Frame} {meth : Method} {c : Code} {Q : State → Prop} (hfr : 2 ≤ R.frames) (hlo : 46 ≤ R.locals) {D : va_G} {a0 : Nat → Nat} {A : Nat → Prop} {cy : Nat → ClassId} {ad : Nat → Nat} (hD : zD A 74 ad) {I : zI} {J : zJ} (o : Nat) (ho : zPn o) (p1 : Int32) (p2 : Int32) {rx : Int64} (hf : f_X6_gainAtStart I J o p1 p2 = some rx) {ls : Array Slot} (S0 : zSt p m c cX6_gainAtStart 3 s args wsX6_gainAtStart RX6 D a0 A cy (zw 74 (kC cy ad a0) ad I J) [.ref (ad o), .int p1, .int p2] ls) (hret : ∀ (tx : Int64), some tx = some rx → ∀ (H : Heap) (locs : List Loc) (ls : Array Slot) (pc : Nat), va_P D vwCl (zw 74 (kC cy ad a0) ad I J) H → va_S A s.heap H locs → decode cX6_gainAtStart pc = .ok (.lreturn, 1) → W p l e R s m args below meth c H locs 0 0 Q (F0 m pc ls [.long tx])) : W p l e R s m args below meth c s.heap [] 0 0 Q (F0 m 0 ls []) := by
  obtain ⟨S, E, hP, hl⟩ := S0
  obtain ⟨hx, hb, hml, hown, hts⟩ := id S
  have hS : va_S A s.heap s.heap [] := va_S.rf
  replace hl : lv_has ls 3 [(0, .ref (ad o)), (1, .int p1), (2, .int p2)] := hl
  unfold f_X6_gainAtStart at hf
  refine lv_aload_n hx hb dX6_gainAtStart_0 rfl (lv_at hl 0 rfl) ?_
  refine va_get (D := D) (ci := 5) (v := .ref (ad 4)) (C := RX6) (T := TX6) (N := 7) hx hb hts hinX6_gainAtStart_X6 hown E.1 hP o (zO.get (oX6_at ho)) rfl 0 (by decide) (hts (.fieldLink RX6 28 "EdgeAndSpeed$Plan" "bench" "LEdgeAndSpeed$Bench;") (by decide +kernel)) (fun _ h9 => h9) rfl dX6_gainAtStart_1 ?_
  refine lv_iload_n hx hb dX6_gainAtStart_4 rfl (lv_at hl 1 rfl) ?_
  obtain ⟨x1, h2, hf⟩ := zb1_e hf
  refine zgo_i (zrunV (As := [.int p1]) (rest := []) S (c_X0_hasPiece l hD 4 (zBat_C (by decide)) p1 h2) (cwV 1 hts gX6_gainAtStart_X0_hasPiece rfl rfl rfl ddX0_hasPiece ⟨Nat.le_trans (Nat.le_of_ble_eq_true rfl) hfr, Nat.le_trans (Nat.le_of_ble_eq_true rfl) hlo⟩) (va_recv E.1 hP (q := (RX0, TX0, 17)) (ci := 0) rfl (zO.get (zBat_o (zBat_C (by decide))))) E hP hS hl.1 rfl rfl (Nat.le_of_ble_eq_true rfl) dX6_gainAtStart_5) hS (fun H locs hP hS => ?_)
  refine lv_if_eq (tgt := 28) hx hb dX6_gainAtStart_8 (by decide) (fun k3 => ?_) (fun k3 => ?_)
  · replace hf := zt k3 hf
    refine lv_lconst (v := 0) hx hb dX6_gainAtStart_28 (by decide) ?_
    exact hret _ hf _ _ _ _ hP hS dX6_gainAtStart_29
  · replace hf := zf k3 hf
    refine lv_aload_n hx hb dX6_gainAtStart_11 rfl (lv_at hl 0 rfl) ?_
    refine lv_iload_n hx hb dX6_gainAtStart_12 rfl (lv_at hl 1 rfl) ?_
    refine lv_aload_n hx hb dX6_gainAtStart_13 rfl (lv_at hl 0 rfl) ?_
    refine va_get (D := D) (ci := 5) (v := .ref (ad 4)) (C := RX6) (T := TX6) (N := 7) hx hb hts hinX6_gainAtStart_X6 hown E.1 hP o (zO.get (oX6_at ho)) rfl 0 (by decide) (hts (.fieldLink RX6 28 "EdgeAndSpeed$Plan" "bench" "LEdgeAndSpeed$Bench;") (by decide +kernel)) (fun _ h9 => h9) rfl dX6_gainAtStart_14 ?_
    refine lv_iload_n hx hb dX6_gainAtStart_17 rfl (lv_at hl 1 rfl) ?_
    obtain ⟨x4, h5, hf⟩ := zb1_e hf
    refine zgo_i (zrunV (As := [.int p1]) (rest := [.int p1, .ref (ad o)]) S (c_X0_stepsOf l hD 4 (zBat_C (by decide)) p1 h5) (cwV 1 hts gX6_gainAtStart_X0_stepsOf rfl rfl rfl ddX0_stepsOf ⟨Nat.le_trans (Nat.le_of_ble_eq_true rfl) hfr, Nat.le_trans (Nat.le_of_ble_eq_true rfl) hlo⟩) (va_recv E.1 hP (q := (RX0, TX0, 17)) (ci := 0) rfl (zO.get (zBat_o (zBat_C (by decide))))) E hP hS hl.1 rfl rfl (Nat.le_of_ble_eq_true rfl) dX6_gainAtStart_18) hS (fun H locs hP hS => ?_)
    refine lv_iload_n hx hb dX6_gainAtStart_21 rfl (lv_at hl 2 rfl) ?_
    obtain ⟨u6, h7, hf⟩ := zb1_e hf
    refine zgo_l (zrunV (As := [.int p1, .int x4, .int p2]) (rest := []) S (c_X6_gainAt l hD o ho p1 x4 p2 h7) (cwV 3 hts gX6_gainAtStart_X6_gainAt rfl rfl rfl ddX6_gainAt ⟨Nat.le_trans (Nat.le_of_ble_eq_true rfl) hfr, Nat.le_trans (Nat.le_of_ble_eq_true rfl) hlo⟩) (va_recv E.1 hP (q := (RX6, TX6, 7)) (ci := 5) rfl (zO.get (oX6_at ho))) E hP hS hl.1 rfl rfl (Nat.le_of_ble_eq_true rfl) dX6_gainAtStart_22) hS (fun H locs hP hS => ?_)
    refine lv_goto (tgt := 29) hx hb dX6_gainAtStart_25 (by decide) ?_
    exact hret _ hf _ _ _ _ hP hS dX6_gainAtStart_29
theorem c_X6_gainAtStart (l : Launch) {D : va_G} {a0 : Nat → Nat} {A : Nat → Prop} {cy : Nat → ClassId} {ad : Nat → Nat} (hD : zD A 74 ad) {I : zI} {J : zJ} (o : Nat) (ho : zPn o) (p1 : Int32) (p2 : Int32) {rx : Int64} (hf : f_X6_gainAtStart I J o p1 p2 = some rx) : Met l yX6_gainAtStart wsX6_gainAtStart { frames := 2, cells := 0, slots := 0, locals := 46 } (zPc D a0 A cy [.ref (ad o), .int p1, .int p2] (zw 74 (kC cy ad a0) ad I J)) (zQl D A rx (zw 74 (kC cy ad a0) ad I J)) 0 0 A :=
  zmet RX6 (by decide) rfl rfl (Nat.le_of_ble_eq_true rfl) (fun p e R s m below meth c Q hfr hlo ls S0 hQ => w_X6_gainAtStart hfr hlo hD o ho p1 p2 hf S0 (fun tx hq H locs ls pc hP hS hd => by cases hq; exact hQ H locs _ hS (fun hx hb hr hlocks hfree => W.lret hx hb hr (fun t ht hW => ⟨⟨_, (), rfl, rfl, zht ht hP⟩, hS.F ht⟩) hfree hd hlocks)))
theorem ddX6_gainAtStart : yX6_gainAtStart.cls = RX6 ∧ yX6_gainAtStart.cls ≠ "java/lang/invoke/MethodHandle" ∧ yX6_gainAtStart.cls ≠ "java/lang/invoke/VarHandle" ∧ (parseMethodDescriptor yX6_gainAtStart.desc).map (fun d => d.parameters.length) = some 2 := by decide +kernel

def f_X6_ofBreaking (I : zI) (J : zJ) (o : Nat) (p1 : Int32) : Option Int64 := zg ((I o 3).toNatClampNeg < 4) (zb1 (f_X6_gainAtStart I J o (p1 + 1) 0) (fun u2 => some (((zMv ((I o 3).toNatClampNeg) 2) + (J o 5)) + u2)))
theorem hinX6_ofBreaking_X6 : ∀ w ∈ u_ws RX6 TX6 7, w ∈ wsX6_ofBreaking := by decide +kernel
set_option maxHeartbeats 4000000 in
set_option maxRecDepth 100000 in
theorem w_X6_ofBreaking {p : Program} {l : Launch} {e : Env} {R : Room} {s : State} {m : MethodId} {args : Array Value} {below : List Frame} {meth : Method} {c : Code} {Q : State → Prop} (hfr : 3 ≤ R.frames) (hlo : 68 ≤ R.locals) {D : va_G} {a0 : Nat → Nat} {A : Nat → Prop} {cy : Nat → ClassId} {ad : Nat → Nat} (hD : zD A 74 ad) {I : zI} {J : zJ} (o : Nat) (ho : zPn o) (p1 : Int32) {rx : Int64} (hf : f_X6_ofBreaking I J o p1 = some rx) {ls : Array Slot} (S0 : zSt p m c cX6_ofBreaking 2 s args wsX6_ofBreaking RX6 D a0 A cy (zw 74 (kC cy ad a0) ad I J) [.ref (ad o), .int p1] ls) (hret : ∀ (tx : Int64), some tx = some rx → ∀ (H : Heap) (locs : List Loc) (ls : Array Slot) (pc : Nat), va_P D vwCl (zw 74 (kC cy ad a0) ad I J) H → va_S A s.heap H locs → decode cX6_ofBreaking pc = .ok (.lreturn, 1) → W p l e R s m args below meth c H locs 0 0 Q (F0 m pc ls [.long tx])) : W p l e R s m args below meth c s.heap [] 0 0 Q (F0 m 0 ls []) := by
  obtain ⟨S, E, hP, hl⟩ := S0
  obtain ⟨hx, hb, hml, hown, hts⟩ := id S
  have hS : va_S A s.heap s.heap [] := va_S.rf
  replace hl : lv_has ls 2 [(0, .ref (ad o)), (1, .int p1)] := hl
  unfold f_X6_ofBreaking at hf
  refine lv_aload_n hx hb dX6_ofBreaking_0 rfl (lv_at hl 0 rfl) ?_
  refine va_get (D := D) (ci := 5) (v := .ref (a0 ((I o 3).toNatClampNeg))) (C := RX6) (T := TX6) (N := 7) hx hb hts hinX6_ofBreaking_X6 hown E.1 hP o (zO.get (oX6_at ho)) rfl 3 (by decide) (hts (.fieldLink RX6 25 "EdgeAndSpeed$Plan" "by" "LEdgeAndSpeed$Measure;") (by decide +kernel)) (fun _ h9 => h9) rfl dX6_ofBreaking_1 ?_
  obtain ⟨g1, hf⟩ := zg_i hf
  refine zgetfN hx hb ((E.2.1 _ g1).2.2 2 (by decide)) hS hown (zNfw_16 E.2.2) (fun _ h9 => h9) dX6_ofBreaking_4 ?_
  refine lv_aload_n hx hb dX6_ofBreaking_7 rfl (lv_at hl 0 rfl) ?_
  refine va_get (D := D) (ci := 5) (v := .long (J o 5)) (C := RX6) (T := TX6) (N := 7) hx hb hts hinX6_ofBreaking_X6 hown E.1 hP o (zO.get (oX6_at ho)) rfl 5 (by decide) (hts (.fieldLink RX6 60 "EdgeAndSpeed$Plan" "ofChange" "J") (by decide +kernel)) (fun _ h9 => h9) rfl dX6_ofBreaking_8 ?_
  refine lv_ladd hx hb dX6_ofBreaking_11 ?_
  refine lv_aload_n hx hb dX6_ofBreaking_12 rfl (lv_at hl 0 rfl) ?_
  refine lv_iload_n hx hb dX6_ofBreaking_13 rfl (lv_at hl 1 rfl) ?_
  refine lv_iconst (v := 1) hx hb dX6_ofBreaking_14 (by decide) ?_
  refine lv_iadd hx hb dX6_ofBreaking_15 ?_
  refine lv_iconst (v := 0) hx hb dX6_ofBreaking_16 (by decide) ?_
  obtain ⟨u2, h3, hf⟩ := zb1_e hf
  refine zgo_l (zrunV (As := [.int (p1 + 1), .int 0]) (rest := [.long ((zMv ((I o 3).toNatClampNeg) 2) + (J o 5))]) S (c_X6_gainAtStart l hD o ho (p1 + 1) 0 h3) (cwV 2 hts gX6_ofBreaking_X6_gainAtStart rfl rfl rfl ddX6_gainAtStart ⟨Nat.le_trans (Nat.le_of_ble_eq_true rfl) hfr, Nat.le_trans (Nat.le_of_ble_eq_true rfl) hlo⟩) (va_recv E.1 hP (q := (RX6, TX6, 7)) (ci := 5) rfl (zO.get (oX6_at ho))) E hP hS hl.1 rfl rfl (Nat.le_of_ble_eq_true rfl) dX6_ofBreaking_17) hS (fun H locs hP hS => ?_)
  refine lv_ladd hx hb dX6_ofBreaking_20 ?_
  exact hret _ hf _ _ _ _ hP hS dX6_ofBreaking_21
theorem c_X6_ofBreaking (l : Launch) {D : va_G} {a0 : Nat → Nat} {A : Nat → Prop} {cy : Nat → ClassId} {ad : Nat → Nat} (hD : zD A 74 ad) {I : zI} {J : zJ} (o : Nat) (ho : zPn o) (p1 : Int32) {rx : Int64} (hf : f_X6_ofBreaking I J o p1 = some rx) : Met l yX6_ofBreaking wsX6_ofBreaking { frames := 3, cells := 0, slots := 0, locals := 68 } (zPc D a0 A cy [.ref (ad o), .int p1] (zw 74 (kC cy ad a0) ad I J)) (zQl D A rx (zw 74 (kC cy ad a0) ad I J)) 0 0 A :=
  zmet RX6 (by decide) rfl rfl (Nat.le_of_ble_eq_true rfl) (fun p e R s m below meth c Q hfr hlo ls S0 hQ => w_X6_ofBreaking hfr hlo hD o ho p1 hf S0 (fun tx hq H locs ls pc hP hS hd => by cases hq; exact hQ H locs _ hS (fun hx hb hr hlocks hfree => W.lret hx hb hr (fun t ht hW => ⟨⟨_, (), rfl, rfl, zht ht hP⟩, hS.F ht⟩) hfree hd hlocks)))
theorem ddX6_ofBreaking : yX6_ofBreaking.cls = RX6 ∧ yX6_ofBreaking.cls ≠ "java/lang/invoke/MethodHandle" ∧ yX6_ofBreaking.cls ≠ "java/lang/invoke/VarHandle" ∧ (parseMethodDescriptor yX6_ofBreaking.desc).map (fun d => d.parameters.length) = some 1 := by decide +kernel

def f_X0_risk (I : zI) (J : zJ) (o : Nat) (p1 : Int32) (p2 : Int32) : Option Int32 := (if (p1 + p2) ≤ 100 then zb1 (f_X11_at I J (o + 9) 101 p1) (fun x2 => some x2) else some 100)
theorem hinX0_risk_X0 : ∀ w ∈ u_ws RX0 TX0 17, w ∈ wsX0_risk := by decide +kernel
set_option maxHeartbeats 4000000 in
set_option maxRecDepth 100000 in
theorem w_X0_risk {p : Program} {l : Launch} {e : Env} {R : Room} {s : State} {m : MethodId} {args : Array Value} {below : List Frame} {meth : Method} {c : Code} {Q : State → Prop} (hfr : 1 ≤ R.frames) (hlo : 21 ≤ R.locals) {D : va_G} {a0 : Nat → Nat} {A : Nat → Prop} {cy : Nat → ClassId} {ad : Nat → Nat} {N : Nat} {K : zK} (hD : zD A N ad) {I : zI} {J : zJ} (o : Nat) (hB : zBat N K cy ad o) (p1 : Int32) (p2 : Int32) {rx : Int32} (hf : f_X0_risk I J o p1 p2 = some rx) {ls : Array Slot} (S0 : zSt p m c cX0_risk 3 s args wsX0_risk RX0 D a0 A cy (zw N K ad I J) [.ref (ad o), .int p1, .int p2] ls) (hret : ∀ (tx : Int32), some tx = some rx → ∀ (H : Heap) (locs : List Loc) (ls : Array Slot) (pc : Nat), va_P D vwCl (zw N K ad I J) H → va_S A s.heap H locs → decode cX0_risk pc = .ok (.ireturn, 1) → W p l e R s m args below meth c H locs 0 0 Q (F0 m pc ls [.int tx])) : W p l e R s m args below meth c s.heap [] 0 0 Q (F0 m 0 ls []) := by
  obtain ⟨S, E, hP, hl⟩ := S0
  obtain ⟨hx, hb, hml, hown, hts⟩ := id S
  have hS : va_S A s.heap s.heap [] := va_S.rf
  replace hl : lv_has ls 3 [(0, .ref (ad o)), (1, .int p1), (2, .int p2)] := hl
  unfold f_X0_risk at hf
  refine lv_iload_n hx hb dX0_risk_0 rfl (lv_at hl 1 rfl) ?_
  refine lv_iload_n hx hb dX0_risk_1 rfl (lv_at hl 2 rfl) ?_
  refine lv_iadd hx hb dX0_risk_2 ?_
  refine lv_bipush (v := 100) hx hb dX0_risk_3 (by decide) ?_
  refine lv_icmp_le (tgt := 13) hx hb dX0_risk_5 (by decide) (fun k1 => ?_) (fun k1 => ?_)
  · replace hf := zt k1 hf
    refine lv_aload_n hx hb dX0_risk_13 rfl (lv_at hl 0 rfl) ?_
    refine va_get (D := D) (ci := 0) (v := .ref (ad (o + 9))) (C := RX0) (T := TX0) (N := 17) hx hb hts hinX0_risk_X0 hown E.1 hP o (zO.get (zBat_o hB)) rfl 8 (by decide) (hts (.fieldLink RX0 36 "EdgeAndSpeed$Bench" "breaking" "[I") (by decide +kernel)) (fun _ h9 => h9) rfl dX0_risk_14 ?_
    refine lv_iload_n hx hb dX0_risk_17 rfl (lv_at hl 1 rfl) ?_
    obtain ⟨x2, h3, hf⟩ := zb1_e hf
    refine zgo_i (zrunSN (As := [.ref (ad (o + 9)), .int p1]) (rest := []) S (c_X11_at l hD (o + 9) 101 (zBat_8 hB) p1 h3) ⟨va_cnB (host := "EdgeAndSpeed") 2 hts gX0_risk_X11_at_n85 rfl rfl rfl (zNmw_1 E.2.2) (hts (.initialized RX11) (by decide +kernel)) ddX11_at ⟨Nat.le_trans (Nat.le_of_ble_eq_true rfl) hfr, Nat.le_trans (Nat.le_of_ble_eq_true rfl) hlo⟩, hts (.static yX11_at) (by decide +kernel), trivial⟩ E hP hS hl.1 rfl rfl (Nat.le_of_ble_eq_true rfl) dX0_risk_18) hS (fun H locs hP hS => ?_)
    exact hret _ hf _ _ _ _ hP hS dX0_risk_21
  · replace hf := zf k1 hf
    refine lv_bipush (v := 100) hx hb dX0_risk_8 (by decide) ?_
    refine lv_goto (tgt := 21) hx hb dX0_risk_10 (by decide) ?_
    exact hret _ hf _ _ _ _ hP hS dX0_risk_21
theorem c_X0_risk (l : Launch) {D : va_G} {a0 : Nat → Nat} {A : Nat → Prop} {cy : Nat → ClassId} {ad : Nat → Nat} {N : Nat} {K : zK} (hD : zD A N ad) {I : zI} {J : zJ} (o : Nat) (hB : zBat N K cy ad o) (p1 : Int32) (p2 : Int32) {rx : Int32} (hf : f_X0_risk I J o p1 p2 = some rx) : Met l yX0_risk wsX0_risk { frames := 1, cells := 0, slots := 0, locals := 21 } (zPc D a0 A cy [.ref (ad o), .int p1, .int p2] (zw N K ad I J)) (zQi D A rx (zw N K ad I J)) 0 0 A :=
  zmet RX0 (by decide) rfl rfl (Nat.le_of_ble_eq_true rfl) (fun p e R s m below meth c Q hfr hlo ls S0 hQ => w_X0_risk hfr hlo hD o hB p1 p2 hf S0 (fun tx hq H locs ls pc hP hS hd => by cases hq; exact hQ H locs _ hS (fun hx hb hr hlocks hfree => W.iret hx hb hr (fun t ht hW => ⟨⟨_, (), rfl, rfl, zht ht hP⟩, hS.F ht⟩) hfree hd hlocks)))
theorem ddX0_risk : yX0_risk.cls = RX0 ∧ yX0_risk.cls ≠ "java/lang/invoke/MethodHandle" ∧ yX0_risk.cls ≠ "java/lang/invoke/VarHandle" ∧ (parseMethodDescriptor yX0_risk.desc).map (fun d => d.parameters.length) = some 2 := by decide +kernel

def f_X0_fineOf (I : zI) (J : zJ) (o : Nat) (p1 : Int32) : Option Int32 := zb1 (f_X11_at I J (o + 5) 8 p1) (fun x1 => some x1)
theorem hinX0_fineOf_X0 : ∀ w ∈ u_ws RX0 TX0 17, w ∈ wsX0_fineOf := by decide +kernel
set_option maxHeartbeats 4000000 in
set_option maxRecDepth 100000 in
theorem w_X0_fineOf {p : Program} {l : Launch} {e : Env} {R : Room} {s : State} {m : MethodId} {args : Array Value} {below : List Frame} {meth : Method} {c : Code} {Q : State → Prop} (hfr : 1 ≤ R.frames) (hlo : 21 ≤ R.locals) {D : va_G} {a0 : Nat → Nat} {A : Nat → Prop} {cy : Nat → ClassId} {ad : Nat → Nat} {N : Nat} {K : zK} (hD : zD A N ad) {I : zI} {J : zJ} (o : Nat) (hB : zBat N K cy ad o) (p1 : Int32) {rx : Int32} (hf : f_X0_fineOf I J o p1 = some rx) {ls : Array Slot} (S0 : zSt p m c cX0_fineOf 2 s args wsX0_fineOf RX0 D a0 A cy (zw N K ad I J) [.ref (ad o), .int p1] ls) (hret : ∀ (tx : Int32), some tx = some rx → ∀ (H : Heap) (locs : List Loc) (ls : Array Slot) (pc : Nat), va_P D vwCl (zw N K ad I J) H → va_S A s.heap H locs → decode cX0_fineOf pc = .ok (.ireturn, 1) → W p l e R s m args below meth c H locs 0 0 Q (F0 m pc ls [.int tx])) : W p l e R s m args below meth c s.heap [] 0 0 Q (F0 m 0 ls []) := by
  obtain ⟨S, E, hP, hl⟩ := S0
  obtain ⟨hx, hb, hml, hown, hts⟩ := id S
  have hS : va_S A s.heap s.heap [] := va_S.rf
  replace hl : lv_has ls 2 [(0, .ref (ad o)), (1, .int p1)] := hl
  unfold f_X0_fineOf at hf
  refine lv_aload_n hx hb dX0_fineOf_0 rfl (lv_at hl 0 rfl) ?_
  refine va_get (D := D) (ci := 0) (v := .ref (ad (o + 5))) (C := RX0) (T := TX0) (N := 17) hx hb hts hinX0_fineOf_X0 hown E.1 hP o (zO.get (zBat_o hB)) rfl 4 (by decide) (hts (.fieldLink RX0 24 "EdgeAndSpeed$Bench" "fines" "[I") (by decide +kernel)) (fun _ h9 => h9) rfl dX0_fineOf_1 ?_
  refine lv_iload_n hx hb dX0_fineOf_4 rfl (lv_at hl 1 rfl) ?_
  obtain ⟨x1, h2, hf⟩ := zb1_e hf
  refine zgo_i (zrunSN (As := [.ref (ad (o + 5)), .int p1]) (rest := []) S (c_X11_at l hD (o + 5) 8 (zBat_4 hB) p1 h2) ⟨va_cnB (host := "EdgeAndSpeed") 2 hts gX0_fineOf_X11_at_n85 rfl rfl rfl (zNmw_1 E.2.2) (hts (.initialized RX11) (by decide +kernel)) ddX11_at ⟨Nat.le_trans (Nat.le_of_ble_eq_true rfl) hfr, Nat.le_trans (Nat.le_of_ble_eq_true rfl) hlo⟩, hts (.static yX11_at) (by decide +kernel), trivial⟩ E hP hS hl.1 rfl rfl (Nat.le_of_ble_eq_true rfl) dX0_fineOf_5) hS (fun H locs hP hS => ?_)
  exact hret _ hf _ _ _ _ hP hS dX0_fineOf_8
theorem c_X0_fineOf (l : Launch) {D : va_G} {a0 : Nat → Nat} {A : Nat → Prop} {cy : Nat → ClassId} {ad : Nat → Nat} {N : Nat} {K : zK} (hD : zD A N ad) {I : zI} {J : zJ} (o : Nat) (hB : zBat N K cy ad o) (p1 : Int32) {rx : Int32} (hf : f_X0_fineOf I J o p1 = some rx) : Met l yX0_fineOf wsX0_fineOf { frames := 1, cells := 0, slots := 0, locals := 21 } (zPc D a0 A cy [.ref (ad o), .int p1] (zw N K ad I J)) (zQi D A rx (zw N K ad I J)) 0 0 A :=
  zmet RX0 (by decide) rfl rfl (Nat.le_of_ble_eq_true rfl) (fun p e R s m below meth c Q hfr hlo ls S0 hQ => w_X0_fineOf hfr hlo hD o hB p1 hf S0 (fun tx hq H locs ls pc hP hS hd => by cases hq; exact hQ H locs _ hS (fun hx hb hr hlocks hfree => W.iret hx hb hr (fun t ht hW => ⟨⟨_, (), rfl, rfl, zht ht hP⟩, hS.F ht⟩) hfree hd hlocks)))
theorem ddX0_fineOf : yX0_fineOf.cls = RX0 ∧ yX0_fineOf.cls ≠ "java/lang/invoke/MethodHandle" ∧ yX0_fineOf.cls ≠ "java/lang/invoke/VarHandle" ∧ (parseMethodDescriptor yX0_fineOf.desc).map (fun d => d.parameters.length) = some 1 := by decide +kernel

def f_X0_worthOf (I : zI) (J : zJ) (o : Nat) (p1 : Int32) : Option Int32 := zb1 (f_X11_at I J (o + 6) 8 p1) (fun x1 => some x1)
theorem hinX0_worthOf_X0 : ∀ w ∈ u_ws RX0 TX0 17, w ∈ wsX0_worthOf := by decide +kernel
set_option maxHeartbeats 4000000 in
set_option maxRecDepth 100000 in
theorem w_X0_worthOf {p : Program} {l : Launch} {e : Env} {R : Room} {s : State} {m : MethodId} {args : Array Value} {below : List Frame} {meth : Method} {c : Code} {Q : State → Prop} (hfr : 1 ≤ R.frames) (hlo : 21 ≤ R.locals) {D : va_G} {a0 : Nat → Nat} {A : Nat → Prop} {cy : Nat → ClassId} {ad : Nat → Nat} {N : Nat} {K : zK} (hD : zD A N ad) {I : zI} {J : zJ} (o : Nat) (hB : zBat N K cy ad o) (p1 : Int32) {rx : Int32} (hf : f_X0_worthOf I J o p1 = some rx) {ls : Array Slot} (S0 : zSt p m c cX0_worthOf 2 s args wsX0_worthOf RX0 D a0 A cy (zw N K ad I J) [.ref (ad o), .int p1] ls) (hret : ∀ (tx : Int32), some tx = some rx → ∀ (H : Heap) (locs : List Loc) (ls : Array Slot) (pc : Nat), va_P D vwCl (zw N K ad I J) H → va_S A s.heap H locs → decode cX0_worthOf pc = .ok (.ireturn, 1) → W p l e R s m args below meth c H locs 0 0 Q (F0 m pc ls [.int tx])) : W p l e R s m args below meth c s.heap [] 0 0 Q (F0 m 0 ls []) := by
  obtain ⟨S, E, hP, hl⟩ := S0
  obtain ⟨hx, hb, hml, hown, hts⟩ := id S
  have hS : va_S A s.heap s.heap [] := va_S.rf
  replace hl : lv_has ls 2 [(0, .ref (ad o)), (1, .int p1)] := hl
  unfold f_X0_worthOf at hf
  refine lv_aload_n hx hb dX0_worthOf_0 rfl (lv_at hl 0 rfl) ?_
  refine va_get (D := D) (ci := 0) (v := .ref (ad (o + 6))) (C := RX0) (T := TX0) (N := 17) hx hb hts hinX0_worthOf_X0 hown E.1 hP o (zO.get (zBat_o hB)) rfl 5 (by decide) (hts (.fieldLink RX0 27 "EdgeAndSpeed$Bench" "worths" "[I") (by decide +kernel)) (fun _ h9 => h9) rfl dX0_worthOf_1 ?_
  refine lv_iload_n hx hb dX0_worthOf_4 rfl (lv_at hl 1 rfl) ?_
  obtain ⟨x1, h2, hf⟩ := zb1_e hf
  refine zgo_i (zrunSN (As := [.ref (ad (o + 6)), .int p1]) (rest := []) S (c_X11_at l hD (o + 6) 8 (zBat_5 hB) p1 h2) ⟨va_cnB (host := "EdgeAndSpeed") 2 hts gX0_worthOf_X11_at_n85 rfl rfl rfl (zNmw_1 E.2.2) (hts (.initialized RX11) (by decide +kernel)) ddX11_at ⟨Nat.le_trans (Nat.le_of_ble_eq_true rfl) hfr, Nat.le_trans (Nat.le_of_ble_eq_true rfl) hlo⟩, hts (.static yX11_at) (by decide +kernel), trivial⟩ E hP hS hl.1 rfl rfl (Nat.le_of_ble_eq_true rfl) dX0_worthOf_5) hS (fun H locs hP hS => ?_)
  exact hret _ hf _ _ _ _ hP hS dX0_worthOf_8
theorem c_X0_worthOf (l : Launch) {D : va_G} {a0 : Nat → Nat} {A : Nat → Prop} {cy : Nat → ClassId} {ad : Nat → Nat} {N : Nat} {K : zK} (hD : zD A N ad) {I : zI} {J : zJ} (o : Nat) (hB : zBat N K cy ad o) (p1 : Int32) {rx : Int32} (hf : f_X0_worthOf I J o p1 = some rx) : Met l yX0_worthOf wsX0_worthOf { frames := 1, cells := 0, slots := 0, locals := 21 } (zPc D a0 A cy [.ref (ad o), .int p1] (zw N K ad I J)) (zQi D A rx (zw N K ad I J)) 0 0 A :=
  zmet RX0 (by decide) rfl rfl (Nat.le_of_ble_eq_true rfl) (fun p e R s m below meth c Q hfr hlo ls S0 hQ => w_X0_worthOf hfr hlo hD o hB p1 hf S0 (fun tx hq H locs ls pc hP hS hd => by cases hq; exact hQ H locs _ hS (fun hx hb hr hlocks hfree => W.iret hx hb hr (fun t ht hW => ⟨⟨_, (), rfl, rfl, zht ht hP⟩, hS.F ht⟩) hfree hd hlocks)))
theorem ddX0_worthOf : yX0_worthOf.cls = RX0 ∧ yX0_worthOf.cls ≠ "java/lang/invoke/MethodHandle" ∧ yX0_worthOf.cls ≠ "java/lang/invoke/VarHandle" ∧ (parseMethodDescriptor yX0_worthOf.desc).map (fun d => d.parameters.length) = some 1 := by decide +kernel

def f_X4_ofDone (I : zI) (J : zJ) (mc : Nat) (p1 : Int32) : Option Int64 := zg (mc < 4) (zg (mc < 4) (some (((zMv mc 0) * p1.toInt64) + (zMv mc 1))))
set_option maxHeartbeats 4000000 in
set_option maxRecDepth 100000 in
theorem w_X4_ofDone {p : Program} {l : Launch} {e : Env} {R : Room} {s : State} {m : MethodId} {args : Array Value} {below : List Frame} {meth : Method} {c : Code} {Q : State → Prop} (hfr : 0 ≤ R.frames) (hlo : 0 ≤ R.locals) {D : va_G} {a0 : Nat → Nat} {A : Nat → Prop} {cy : Nat → ClassId} {ad : Nat → Nat} (hD : zD A 74 ad) {I : zI} {J : zJ} (mc : Nat) (p1 : Int32) {rx : Int64} (hf : f_X4_ofDone I J mc p1 = some rx) {ls : Array Slot} (S0 : zSt p m c cX4_ofDone 2 s args wsX4_ofDone RX4 D a0 A cy (zw 74 (kC cy ad a0) ad I J) [.ref (a0 mc), .int p1] ls) (hret : ∀ (tx : Int64), some tx = some rx → ∀ (H : Heap) (locs : List Loc) (ls : Array Slot) (pc : Nat), va_P D vwCl (zw 74 (kC cy ad a0) ad I J) H → va_S A s.heap H locs → decode cX4_ofDone pc = .ok (.lreturn, 1) → W p l e R s m args below meth c H locs 0 0 Q (F0 m pc ls [.long tx])) : W p l e R s m args below meth c s.heap [] 0 0 Q (F0 m 0 ls []) := by
  obtain ⟨S, E, hP, hl⟩ := S0
  obtain ⟨hx, hb, hml, hown, hts⟩ := id S
  have hS : va_S A s.heap s.heap [] := va_S.rf
  replace hl : lv_has ls 2 [(0, .ref (a0 mc)), (1, .int p1)] := hl
  unfold f_X4_ofDone at hf
  refine lv_aload_n hx hb dX4_ofDone_0 rfl (lv_at hl 0 rfl) ?_
  obtain ⟨g1, hf⟩ := zg_i hf
  refine vk_getf (v := .long (zMv mc 0)) hx hb ((E.2.1 _ g1).2.2 0 (by decide)) hS hown (hts (.fieldLink RX4 37 "EdgeAndSpeed$Measure" "byPenny" "J") (by decide +kernel)) (fun _ h9 => h9) dX4_ofDone_1 ?_
  refine lv_iload_n hx hb dX4_ofDone_4 rfl (lv_at hl 1 rfl) ?_
  refine lv_i2l hx hb dX4_ofDone_5 rfl ?_
  refine lv_lmul hx hb dX4_ofDone_6 ?_
  refine lv_aload_n hx hb dX4_ofDone_7 rfl (lv_at hl 0 rfl) ?_
  obtain ⟨g2, hf⟩ := zg_i hf
  refine vk_getf (v := .long (zMv mc 1)) hx hb ((E.2.1 _ g2).2.2 1 (by decide)) hS hown (hts (.fieldLink RX4 41 "EdgeAndSpeed$Measure" "byDone" "J") (by decide +kernel)) (fun _ h9 => h9) dX4_ofDone_8 ?_
  refine lv_ladd hx hb dX4_ofDone_11 ?_
  exact hret _ hf _ _ _ _ hP hS dX4_ofDone_12
theorem c_X4_ofDone (l : Launch) {D : va_G} {a0 : Nat → Nat} {A : Nat → Prop} {cy : Nat → ClassId} {ad : Nat → Nat} (hD : zD A 74 ad) {I : zI} {J : zJ} (mc : Nat) (p1 : Int32) {rx : Int64} (hf : f_X4_ofDone I J mc p1 = some rx) : Met l yX4_ofDone wsX4_ofDone { frames := 0, cells := 0, slots := 0, locals := 0 } (zPc D a0 A cy [.ref (a0 mc), .int p1] (zw 74 (kC cy ad a0) ad I J)) (zQl D A rx (zw 74 (kC cy ad a0) ad I J)) 0 0 A :=
  zmet RX4 (by decide) rfl rfl (Nat.le_of_ble_eq_true rfl) (fun p e R s m below meth c Q hfr hlo ls S0 hQ => w_X4_ofDone hfr hlo hD mc p1 hf S0 (fun tx hq H locs ls pc hP hS hd => by cases hq; exact hQ H locs _ hS (fun hx hb hr hlocks hfree => W.lret hx hb hr (fun t ht hW => ⟨⟨_, (), rfl, rfl, zht ht hP⟩, hS.F ht⟩) hfree hd hlocks)))
theorem ddX4_ofDone : yX4_ofDone.cls = RX4 ∧ yX4_ofDone.cls ≠ "java/lang/invoke/MethodHandle" ∧ yX4_ofDone.cls ≠ "java/lang/invoke/VarHandle" ∧ (parseMethodDescriptor yX4_ofDone.desc).map (fun d => d.parameters.length) = some 1 := by decide +kernel

def f_X6_ofEnd (I : zI) (J : zJ) (o : Nat) (p1 : Int32) (p2 : Int32) : Option Int64 := zb1 (f_X0_fineOf I J 4 p1) (fun x1 => (if p2 ≤ x1 then zb1 (f_X0_worthOf I J 4 p1) (fun x4 => zg ((I o 3).toNatClampNeg < 4) (zb1 (f_X4_ofDone I J ((I o 3).toNatClampNeg) x4) (fun u6 => some u6))) else zg ((I o 3).toNatClampNeg < 4) (some (zMv ((I o 3).toNatClampNeg) 2))))
theorem hinX6_ofEnd_X6 : ∀ w ∈ u_ws RX6 TX6 7, w ∈ wsX6_ofEnd := by decide +kernel
set_option maxHeartbeats 4000000 in
set_option maxRecDepth 100000 in
theorem w_X6_ofEnd {p : Program} {l : Launch} {e : Env} {R : Room} {s : State} {m : MethodId} {args : Array Value} {below : List Frame} {meth : Method} {c : Code} {Q : State → Prop} (hfr : 2 ≤ R.frames) (hlo : 42 ≤ R.locals) {D : va_G} {a0 : Nat → Nat} {A : Nat → Prop} {cy : Nat → ClassId} {ad : Nat → Nat} (hD : zD A 74 ad) {I : zI} {J : zJ} (o : Nat) (ho : zPn o) (p1 : Int32) (p2 : Int32) {rx : Int64} (hf : f_X6_ofEnd I J o p1 p2 = some rx) {ls : Array Slot} (S0 : zSt p m c cX6_ofEnd 3 s args wsX6_ofEnd RX6 D a0 A cy (zw 74 (kC cy ad a0) ad I J) [.ref (ad o), .int p1, .int p2] ls) (hret : ∀ (tx : Int64), some tx = some rx → ∀ (H : Heap) (locs : List Loc) (ls : Array Slot) (pc : Nat), va_P D vwCl (zw 74 (kC cy ad a0) ad I J) H → va_S A s.heap H locs → decode cX6_ofEnd pc = .ok (.lreturn, 1) → W p l e R s m args below meth c H locs 0 0 Q (F0 m pc ls [.long tx])) : W p l e R s m args below meth c s.heap [] 0 0 Q (F0 m 0 ls []) := by
  obtain ⟨S, E, hP, hl⟩ := S0
  obtain ⟨hx, hb, hml, hown, hts⟩ := id S
  have hS : va_S A s.heap s.heap [] := va_S.rf
  replace hl : lv_has ls 3 [(0, .ref (ad o)), (1, .int p1), (2, .int p2)] := hl
  unfold f_X6_ofEnd at hf
  refine lv_iload_n hx hb dX6_ofEnd_0 rfl (lv_at hl 2 rfl) ?_
  refine lv_aload_n hx hb dX6_ofEnd_1 rfl (lv_at hl 0 rfl) ?_
  refine va_get (D := D) (ci := 5) (v := .ref (ad 4)) (C := RX6) (T := TX6) (N := 7) hx hb hts hinX6_ofEnd_X6 hown E.1 hP o (zO.get (oX6_at ho)) rfl 0 (by decide) (hts (.fieldLink RX6 28 "EdgeAndSpeed$Plan" "bench" "LEdgeAndSpeed$Bench;") (by decide +kernel)) (fun _ h9 => h9) rfl dX6_ofEnd_2 ?_
  refine lv_iload_n hx hb dX6_ofEnd_5 rfl (lv_at hl 1 rfl) ?_
  obtain ⟨x1, h2, hf⟩ := zb1_e hf
  refine zgo_i (zrunV (As := [.int p1]) (rest := [.int p2]) S (c_X0_fineOf l hD 4 (zBat_C (by decide)) p1 h2) (cwV 1 hts gX6_ofEnd_X0_fineOf rfl rfl rfl ddX0_fineOf ⟨Nat.le_trans (Nat.le_of_ble_eq_true rfl) hfr, Nat.le_trans (Nat.le_of_ble_eq_true rfl) hlo⟩) (va_recv E.1 hP (q := (RX0, TX0, 17)) (ci := 0) rfl (zO.get (zBat_o (zBat_C (by decide))))) E hP hS hl.1 rfl rfl (Nat.le_of_ble_eq_true rfl) dX6_ofEnd_6) hS (fun H locs hP hS => ?_)
  refine lv_icmp_le (tgt := 22) hx hb dX6_ofEnd_9 (by decide) (fun k3 => ?_) (fun k3 => ?_)
  · replace hf := zt k3 hf
    refine lv_aload_n hx hb dX6_ofEnd_22 rfl (lv_at hl 0 rfl) ?_
    refine va_get (D := D) (ci := 5) (v := .ref (a0 ((I o 3).toNatClampNeg))) (C := RX6) (T := TX6) (N := 7) hx hb hts hinX6_ofEnd_X6 hown E.1 hP o (zO.get (oX6_at ho)) rfl 3 (by decide) (hts (.fieldLink RX6 25 "EdgeAndSpeed$Plan" "by" "LEdgeAndSpeed$Measure;") (by decide +kernel)) (fun _ h9 => h9) rfl dX6_ofEnd_23 ?_
    refine lv_aload_n hx hb dX6_ofEnd_26 rfl (lv_at hl 0 rfl) ?_
    refine va_get (D := D) (ci := 5) (v := .ref (ad 4)) (C := RX6) (T := TX6) (N := 7) hx hb hts hinX6_ofEnd_X6 hown E.1 hP o (zO.get (oX6_at ho)) rfl 0 (by decide) (hts (.fieldLink RX6 28 "EdgeAndSpeed$Plan" "bench" "LEdgeAndSpeed$Bench;") (by decide +kernel)) (fun _ h9 => h9) rfl dX6_ofEnd_27 ?_
    refine lv_iload_n hx hb dX6_ofEnd_30 rfl (lv_at hl 1 rfl) ?_
    obtain ⟨x4, h5, hf⟩ := zb1_e hf
    refine zgo_i (zrunV (As := [.int p1]) (rest := [.ref (a0 ((I o 3).toNatClampNeg))]) S (c_X0_worthOf l hD 4 (zBat_C (by decide)) p1 h5) (cwV 1 hts gX6_ofEnd_X0_worthOf rfl rfl rfl ddX0_worthOf ⟨Nat.le_trans (Nat.le_of_ble_eq_true rfl) hfr, Nat.le_trans (Nat.le_of_ble_eq_true rfl) hlo⟩) (va_recv E.1 hP (q := (RX0, TX0, 17)) (ci := 0) rfl (zO.get (zBat_o (zBat_C (by decide))))) E hP hS hl.1 rfl rfl (Nat.le_of_ble_eq_true rfl) dX6_ofEnd_31) hS (fun H locs hP hS => ?_)
    obtain ⟨gm, hf⟩ := zg_i hf
    obtain ⟨u6, h7, hf⟩ := zb1_e hf
    refine zgo_l (zrunV (As := [.int x4]) (rest := []) S (c_X4_ofDone l hD ((I o 3).toNatClampNeg) x4 h7) (cwV 1 hts gX6_ofEnd_X4_ofDone rfl rfl rfl ddX4_ofDone ⟨Nat.le_trans (Nat.le_of_ble_eq_true rfl) hfr, Nat.le_trans (Nat.le_of_ble_eq_true rfl) hlo⟩) (zMrecv (E.2.1 _ gm) hS) E hP hS hl.1 rfl rfl (Nat.le_of_ble_eq_true rfl) dX6_ofEnd_34) hS (fun H locs hP hS => ?_)
    exact hret _ hf _ _ _ _ hP hS dX6_ofEnd_37
  · replace hf := zf k3 hf
    refine lv_aload_n hx hb dX6_ofEnd_12 rfl (lv_at hl 0 rfl) ?_
    refine va_get (D := D) (ci := 5) (v := .ref (a0 ((I o 3).toNatClampNeg))) (C := RX6) (T := TX6) (N := 7) hx hb hts hinX6_ofEnd_X6 hown E.1 hP o (zO.get (oX6_at ho)) rfl 3 (by decide) (hts (.fieldLink RX6 25 "EdgeAndSpeed$Plan" "by" "LEdgeAndSpeed$Measure;") (by decide +kernel)) (fun _ h9 => h9) rfl dX6_ofEnd_13 ?_
    obtain ⟨g8, hf⟩ := zg_i hf
    refine zgetfN hx hb ((E.2.1 _ g8).2.2 2 (by decide)) hS hown (zNfw_16 E.2.2) (fun _ h9 => h9) dX6_ofEnd_16 ?_
    refine lv_goto (tgt := 37) hx hb dX6_ofEnd_19 (by decide) ?_
    exact hret _ hf _ _ _ _ hP hS dX6_ofEnd_37
theorem c_X6_ofEnd (l : Launch) {D : va_G} {a0 : Nat → Nat} {A : Nat → Prop} {cy : Nat → ClassId} {ad : Nat → Nat} (hD : zD A 74 ad) {I : zI} {J : zJ} (o : Nat) (ho : zPn o) (p1 : Int32) (p2 : Int32) {rx : Int64} (hf : f_X6_ofEnd I J o p1 p2 = some rx) : Met l yX6_ofEnd wsX6_ofEnd { frames := 2, cells := 0, slots := 0, locals := 42 } (zPc D a0 A cy [.ref (ad o), .int p1, .int p2] (zw 74 (kC cy ad a0) ad I J)) (zQl D A rx (zw 74 (kC cy ad a0) ad I J)) 0 0 A :=
  zmet RX6 (by decide) rfl rfl (Nat.le_of_ble_eq_true rfl) (fun p e R s m below meth c Q hfr hlo ls S0 hQ => w_X6_ofEnd hfr hlo hD o ho p1 p2 hf S0 (fun tx hq H locs ls pc hP hS hd => by cases hq; exact hQ H locs _ hS (fun hx hb hr hlocks hfree => W.lret hx hb hr (fun t ht hW => ⟨⟨_, (), rfl, rfl, zht ht hP⟩, hS.F ht⟩) hfree hd hlocks)))
theorem ddX6_ofEnd : yX6_ofEnd.cls = RX6 ∧ yX6_ofEnd.cls ≠ "java/lang/invoke/MethodHandle" ∧ yX6_ofEnd.cls ≠ "java/lang/invoke/VarHandle" ∧ (parseMethodDescriptor yX6_ofEnd.desc).map (fun d => d.parameters.length) = some 2 := by decide +kernel

def f_X6_comes (I : zI) (J : zJ) (o : Nat) (p1 : Int32) (p2 : Int32) (p3 : Int32) (p4 : Int32) (p5 : Int64) : Option Int64 := zb1 (f_X0_risk I J 4 p3 p4) (fun x1 => (if x1 = 100 then some p5 else zb1 ((if p2 ≤ 0 then zb1 (f_X6_ofEnd I J o p1 p3) (fun u7 => zb1 (f_X6_gainAtStart I J o (p1 + 1) (p3 + p4)) (fun u9 => some ((u7 + u9)))) else zb1 (f_X6_gainAt I J o p1 p2 (p3 + p4)) (fun u11 => some (u11))) : Option Int64) (fun u13 => (if x1 = 0 then some u13 else some ((((100 - x1).toInt64 * u13) + (x1.toInt64 * p5)) / 100)))))
theorem hinX6_comes_X6 : ∀ w ∈ u_ws RX6 TX6 7, w ∈ wsX6_comes := by decide +kernel
set_option maxHeartbeats 4000000 in
set_option maxRecDepth 100000 in
theorem w_X6_comes {p : Program} {l : Launch} {e : Env} {R : Room} {s : State} {m : MethodId} {args : Array Value} {below : List Frame} {meth : Method} {c : Code} {Q : State → Prop} (hfr : 3 ≤ R.frames) (hlo : 68 ≤ R.locals) {D : va_G} {a0 : Nat → Nat} {A : Nat → Prop} {cy : Nat → ClassId} {ad : Nat → Nat} (hD : zD A 74 ad) {I : zI} {J : zJ} (o : Nat) (ho : zPn o) (p1 : Int32) (p2 : Int32) (p3 : Int32) (p4 : Int32) (p5 : Int64) {rx : Int64} (hf : f_X6_comes I J o p1 p2 p3 p4 p5 = some rx) {ls : Array Slot} (S0 : zSt p m c cX6_comes 10 s args wsX6_comes RX6 D a0 A cy (zw 74 (kC cy ad a0) ad I J) [.ref (ad o), .int p1, .int p2, .int p3, .int p4, .long p5] ls) (hret : ∀ (tx : Int64), some tx = some rx → ∀ (H : Heap) (locs : List Loc) (ls : Array Slot) (pc : Nat), va_P D vwCl (zw 74 (kC cy ad a0) ad I J) H → va_S A s.heap H locs → decode cX6_comes pc = .ok (.lreturn, 1) → W p l e R s m args below meth c H locs 0 0 Q (F0 m pc ls [.long tx])) : W p l e R s m args below meth c s.heap [] 0 0 Q (F0 m 0 ls []) := by
  obtain ⟨S, E, hP, hl⟩ := S0
  obtain ⟨hx, hb, hml, hown, hts⟩ := id S
  have hS : va_S A s.heap s.heap [] := va_S.rf
  replace hl : lv_has ls 10 [(0, .ref (ad o)), (1, .int p1), (2, .int p2), (3, .int p3), (4, .int p4), (5, .long p5)] := hl
  unfold f_X6_comes at hf
  refine lv_aload_n hx hb dX6_comes_0 rfl (lv_at hl 0 rfl) ?_
  refine va_get (D := D) (ci := 5) (v := .ref (ad 4)) (C := RX6) (T := TX6) (N := 7) hx hb hts hinX6_comes_X6 hown E.1 hP o (zO.get (oX6_at ho)) rfl 0 (by decide) (hts (.fieldLink RX6 28 "EdgeAndSpeed$Plan" "bench" "LEdgeAndSpeed$Bench;") (by decide +kernel)) (fun _ h9 => h9) rfl dX6_comes_1 ?_
  refine lv_iload_n hx hb dX6_comes_4 rfl (lv_at hl 3 rfl) ?_
  refine lv_iload hx hb dX6_comes_5 (lv_at hl 4 rfl) ?_
  obtain ⟨x1, h2, hf⟩ := zb1_e hf
  refine zgo_i (zrunV (As := [.int p3, .int p4]) (rest := []) S (c_X0_risk l hD 4 (zBat_C (by decide)) p3 p4 h2) (cwV 2 hts gX6_comes_X0_risk rfl rfl rfl ddX0_risk ⟨Nat.le_trans (Nat.le_of_ble_eq_true rfl) hfr, Nat.le_trans (Nat.le_of_ble_eq_true rfl) hlo⟩) (va_recv E.1 hP (q := (RX0, TX0, 17)) (ci := 0) rfl (zO.get (zBat_o (zBat_C (by decide))))) E hP hS hl.1 rfl rfl (Nat.le_of_ble_eq_true rfl) dX6_comes_7) hS (fun H locs hP hS => ?_)
  refine lv_istore (lv' := [(7, .int x1), (0, .ref (ad o)), (1, .int p1), (2, .int p2), (3, .int p3), (4, .int p4), (5, .long p5)]) hx hb dX6_comes_10 hl (by decide) rfl (fun ls hl => ?_)
  refine lv_iload hx hb dX6_comes_12 (lv_at hl 0 rfl) ?_
  refine lv_bipush (v := 100) hx hb dX6_comes_14 (by decide) ?_
  refine lv_icmp_ne (tgt := 22) hx hb dX6_comes_16 (by decide) (fun k3 => ?_) (fun k3 => ?_)
  · replace hf := zf k3 hf
    refine lv_iload_n hx hb dX6_comes_22 rfl (lv_at hl 3 rfl) ?_
    obtain ⟨zr6, hf, hzr6⟩ := zb1_i hf
    have hjr6 : ∀ (u13 : Int64), u13 = zr6 → ∀ (H : Heap) (locs : List Loc) (ls : Array Slot), va_P D vwCl (zw 74 (kC cy ad a0) ad I J) H → va_S A s.heap H locs → lv_has ls 10 [(5, .long p5), (7, .int x1)] → W p l e R s m args below meth c H locs 0 0 Q (F0 m 57 ls [.long u13]) := by
      intro u13 ez H locs ls hP hS hl
      have hf := hzr6 u13 ez
      refine lv_lstore (lv' := [(8, .long u13), (5, .long p5), (7, .int x1)]) hx hb dX6_comes_57 hl (by decide) rfl (fun ls hl => ?_)
      refine lv_iload hx hb dX6_comes_59 (lv_at hl 2 rfl) ?_
      refine lv_if_ne (tgt := 69) hx hb dX6_comes_61 (by decide) (fun k14 => ?_) (fun k14 => ?_)
      · replace hf := zf k14 hf
        refine lv_bipush (v := 100) hx hb dX6_comes_69 (by decide) ?_
        refine lv_iload hx hb dX6_comes_71 (lv_at hl 2 rfl) ?_
        refine lv_isub hx hb dX6_comes_73 ?_
        refine lv_i2l hx hb dX6_comes_74 rfl ?_
        refine lv_lload hx hb dX6_comes_75 (lv_at hl 0 rfl) ?_
        refine lv_lmul hx hb dX6_comes_77 ?_
        refine lv_iload hx hb dX6_comes_78 (lv_at hl 2 rfl) ?_
        refine lv_i2l hx hb dX6_comes_80 rfl ?_
        refine lv_lload hx hb dX6_comes_81 (lv_at hl 1 rfl) ?_
        refine lv_lmul hx hb dX6_comes_83 ?_
        refine lv_ladd hx hb dX6_comes_84 ?_
        refine lv_ldc2 hx hb hown (hts (.constantLong RX6 121 100) (by decide +kernel)) dX6_comes_85 ?_
        refine lv_ldiv hx hb dX6_comes_88 (by decide) ?_
        exact hret _ hf _ _ _ _ hP hS dX6_comes_89
      · replace hf := zt k14 hf
        refine lv_lload hx hb dX6_comes_64 (lv_at hl 0 rfl) ?_
        refine lv_goto (tgt := 89) hx hb dX6_comes_66 (by decide) ?_
        exact hret _ hf _ _ _ _ hP hS dX6_comes_89
    refine lv_if_le (tgt := 39) hx hb dX6_comes_23 (by decide) (fun k4 => ?_) (fun k4 => ?_)
    · replace hf := zt k4 hf
      refine lv_aload_n hx hb dX6_comes_39 rfl (lv_at hl 1 rfl) ?_
      refine lv_iload_n hx hb dX6_comes_40 rfl (lv_at hl 2 rfl) ?_
      refine lv_iload_n hx hb dX6_comes_41 rfl (lv_at hl 4 rfl) ?_
      obtain ⟨u7, h8, hf⟩ := zb1_e hf
      refine zgo_l (zrunV (As := [.int p1, .int p3]) (rest := []) S (c_X6_ofEnd l hD o ho p1 p3 h8) (cwV 2 hts gX6_comes_X6_ofEnd rfl rfl rfl ddX6_ofEnd ⟨Nat.le_trans (Nat.le_of_ble_eq_true rfl) hfr, Nat.le_trans (Nat.le_of_ble_eq_true rfl) hlo⟩) (va_recv E.1 hP (q := (RX6, TX6, 7)) (ci := 5) rfl (zO.get (oX6_at ho))) E hP hS hl.1 rfl rfl (Nat.le_of_ble_eq_true rfl) dX6_comes_42) hS (fun H locs hP hS => ?_)
      refine lv_aload_n hx hb dX6_comes_45 rfl (lv_at hl 1 rfl) ?_
      refine lv_iload_n hx hb dX6_comes_46 rfl (lv_at hl 2 rfl) ?_
      refine lv_iconst (v := 1) hx hb dX6_comes_47 (by decide) ?_
      refine lv_iadd hx hb dX6_comes_48 ?_
      refine lv_iload_n hx hb dX6_comes_49 rfl (lv_at hl 4 rfl) ?_
      refine lv_iload hx hb dX6_comes_50 (lv_at hl 5 rfl) ?_
      refine lv_iadd hx hb dX6_comes_52 ?_
      obtain ⟨u9, h10, hf⟩ := zb1_e hf
      refine zgo_l (zrunV (As := [.int (p1 + 1), .int (p3 + p4)]) (rest := [.long u7]) S (c_X6_gainAtStart l hD o ho (p1 + 1) (p3 + p4) h10) (cwV 2 hts gX6_comes_X6_gainAtStart rfl rfl rfl ddX6_gainAtStart ⟨Nat.le_trans (Nat.le_of_ble_eq_true rfl) hfr, Nat.le_trans (Nat.le_of_ble_eq_true rfl) hlo⟩) (va_recv E.1 hP (q := (RX6, TX6, 7)) (ci := 5) rfl (zO.get (oX6_at ho))) E hP hS hl.1 rfl rfl (Nat.le_of_ble_eq_true rfl) dX6_comes_53) hS (fun H locs hP hS => ?_)
      refine lv_ladd hx hb dX6_comes_56 ?_
      exact hjr6 _ (Option.some.inj hf) _ _ _ hP hS (lv_sub hl [6, 0] rfl)
    · replace hf := zf k4 hf
      refine lv_aload_n hx hb dX6_comes_26 rfl (lv_at hl 1 rfl) ?_
      refine lv_iload_n hx hb dX6_comes_27 rfl (lv_at hl 2 rfl) ?_
      refine lv_iload_n hx hb dX6_comes_28 rfl (lv_at hl 3 rfl) ?_
      refine lv_iload_n hx hb dX6_comes_29 rfl (lv_at hl 4 rfl) ?_
      refine lv_iload hx hb dX6_comes_30 (lv_at hl 5 rfl) ?_
      refine lv_iadd hx hb dX6_comes_32 ?_
      obtain ⟨u11, h12, hf⟩ := zb1_e hf
      refine zgo_l (zrunV (As := [.int p1, .int p2, .int (p3 + p4)]) (rest := []) S (c_X6_gainAt l hD o ho p1 p2 (p3 + p4) h12) (cwV 3 hts gX6_comes_X6_gainAt rfl rfl rfl ddX6_gainAt ⟨Nat.le_trans (Nat.le_of_ble_eq_true rfl) hfr, Nat.le_trans (Nat.le_of_ble_eq_true rfl) hlo⟩) (va_recv E.1 hP (q := (RX6, TX6, 7)) (ci := 5) rfl (zO.get (oX6_at ho))) E hP hS hl.1 rfl rfl (Nat.le_of_ble_eq_true rfl) dX6_comes_33) hS (fun H locs hP hS => ?_)
      refine lv_goto (tgt := 57) hx hb dX6_comes_36 (by decide) ?_
      exact hjr6 _ (Option.some.inj hf) _ _ _ hP hS (lv_sub hl [6, 0] rfl)
  · replace hf := zt k3 hf
    refine lv_lload hx hb dX6_comes_19 (lv_at hl 6 rfl) ?_
    exact hret _ hf _ _ _ _ hP hS dX6_comes_21
theorem c_X6_comes (l : Launch) {D : va_G} {a0 : Nat → Nat} {A : Nat → Prop} {cy : Nat → ClassId} {ad : Nat → Nat} (hD : zD A 74 ad) {I : zI} {J : zJ} (o : Nat) (ho : zPn o) (p1 : Int32) (p2 : Int32) (p3 : Int32) (p4 : Int32) (p5 : Int64) {rx : Int64} (hf : f_X6_comes I J o p1 p2 p3 p4 p5 = some rx) : Met l yX6_comes wsX6_comes { frames := 3, cells := 0, slots := 0, locals := 68 } (zPc D a0 A cy [.ref (ad o), .int p1, .int p2, .int p3, .int p4, .long p5] (zw 74 (kC cy ad a0) ad I J)) (zQl D A rx (zw 74 (kC cy ad a0) ad I J)) 0 0 A :=
  zmet RX6 (by decide) rfl rfl (Nat.le_of_ble_eq_true rfl) (fun p e R s m below meth c Q hfr hlo ls S0 hQ => w_X6_comes hfr hlo hD o ho p1 p2 p3 p4 p5 hf S0 (fun tx hq H locs ls pc hP hS hd => by cases hq; exact hQ H locs _ hS (fun hx hb hr hlocks hfree => W.lret hx hb hr (fun t ht hW => ⟨⟨_, (), rfl, rfl, zht ht hP⟩, hS.F ht⟩) hfree hd hlocks)))
theorem ddX6_comes : yX6_comes.cls = RX6 ∧ yX6_comes.cls ≠ "java/lang/invoke/MethodHandle" ∧ yX6_comes.cls ≠ "java/lang/invoke/VarHandle" ∧ (parseMethodDescriptor yX6_comes.desc).map (fun d => d.parameters.length) = some 5 := by decide +kernel

def f_X6_offer (I : zI) (J : zJ) (o : Nat) (p1 : Int32) (p2 : Int32) (p3 : Int32) (p4 : Int32) (p5 : Int64) : Option (zI × zJ) := zb1 (f_X6_placeOf I J p2 p3 p4) (fun x1 => (if x1 < 0 then some (I, J) else (if 6464 ≤ x1 then some (I, J) else (if x1 < 6464 then zg (¬ (x1 < 0 ∨ 6464 ≤ x1.toNatClampNeg)) ((if (I (o + 2) x1.toNatClampNeg) = (-1) then zg (¬ (x1 < 0 ∨ 6464 ≤ x1.toNatClampNeg)) (zn (va_up I (o + 2) (upd (I (o + 2)) x1.toNatClampNeg (vp_nar .byte (p1.toInt8.toInt32)))) (fun I8 => zg (¬ (x1 < 0 ∨ 6464 ≤ x1.toNatClampNeg)) (zn (va_up J (o + 1) (vp_updL (J (o + 1)) x1.toNatClampNeg p5)) (fun J10 => some (I8, J10))))) else zg (¬ (x1 < 0 ∨ 6464 ≤ x1.toNatClampNeg)) ((if (lg_cmp p5 (J (o + 1) x1.toNatClampNeg)) ≤ 0 then some (I, J) else zg (¬ (x1 < 0 ∨ 6464 ≤ x1.toNatClampNeg)) (zn (va_up I (o + 2) (upd (I (o + 2)) x1.toNatClampNeg (vp_nar .byte (p1.toInt8.toInt32)))) (fun I14 => zg (¬ (x1 < 0 ∨ 6464 ≤ x1.toNatClampNeg)) (zn (va_up J (o + 1) (vp_updL (J (o + 1)) x1.toNatClampNeg p5)) (fun J16 => some (I14, J16))))))))) else some (I, J)))))
theorem hinX6_offer_X6 : ∀ w ∈ u_ws RX6 TX6 7, w ∈ wsX6_offer := by decide +kernel
set_option maxHeartbeats 4000000 in
set_option maxRecDepth 100000 in
theorem w_X6_offer {p : Program} {l : Launch} {e : Env} {R : Room} {s : State} {m : MethodId} {args : Array Value} {below : List Frame} {meth : Method} {c : Code} {Q : State → Prop} (hfr : 1 ≤ R.frames) (hlo : 22 ≤ R.locals) {D : va_G} {a0 : Nat → Nat} {A : Nat → Prop} {cy : Nat → ClassId} {ad : Nat → Nat} (hD : zD A 74 ad) {I : zI} {J : zJ} (o : Nat) (ho : zPn o) (p1 : Int32) (p2 : Int32) (p3 : Int32) (p4 : Int32) (p5 : Int64) {rI : zI} {rJ : zJ} (hf : f_X6_offer I J o p1 p2 p3 p4 p5 = some (rI, rJ)) {ls : Array Slot} (S0 : zSt p m c cX6_offer 8 s args wsX6_offer RX6 D a0 A cy (zw 74 (kC cy ad a0) ad I J) [.ref (ad o), .int p1, .int p2, .int p3, .int p4, .long p5] ls) (hret : ∀ (tI : zI) (tJ : zJ), some (tI, tJ) = some (rI, rJ) → ∀ (H : Heap) (locs : List Loc) (ls : Array Slot) (pc : Nat), va_P D vwCl (zw 74 (kC cy ad a0) ad tI tJ) H → va_S A s.heap H locs → decode cX6_offer pc = .ok (.return_, 1) → W p l e R s m args below meth c H locs 0 0 Q (F0 m pc ls [])) : W p l e R s m args below meth c s.heap [] 0 0 Q (F0 m 0 ls []) := by
  obtain ⟨S, E, hP, hl⟩ := S0
  obtain ⟨hx, hb, hml, hown, hts⟩ := id S
  have hS : va_S A s.heap s.heap [] := va_S.rf
  replace hl : lv_has ls 8 [(0, .ref (ad o)), (1, .int p1), (2, .int p2), (3, .int p3), (4, .int p4), (5, .long p5)] := hl
  unfold f_X6_offer at hf
  refine lv_iload_n hx hb dX6_offer_0 rfl (lv_at hl 2 rfl) ?_
  refine lv_iload_n hx hb dX6_offer_1 rfl (lv_at hl 3 rfl) ?_
  refine lv_iload hx hb dX6_offer_2 (lv_at hl 4 rfl) ?_
  obtain ⟨x1, h2, hf⟩ := zb1_e hf
  refine zgo_i (zrunS (As := [.int p2, .int p3, .int p4]) (rest := []) S (c_X6_placeOf l hD p2 p3 p4 h2) (va_cwS 3 hts gX6_offer_X6_placeOf rfl rfl rfl ddX6_placeOf ⟨Nat.le_trans (Nat.le_of_ble_eq_true rfl) hfr, Nat.le_trans (Nat.le_of_ble_eq_true rfl) hlo⟩) E hP hS hl.1 rfl rfl (Nat.le_of_ble_eq_true rfl) dX6_offer_4) hS (fun H locs hP hS => ?_)
  refine lv_istore (lv' := [(7, .int x1), (0, .ref (ad o)), (1, .int p1), (2, .int p2), (3, .int p3), (4, .int p4), (5, .long p5)]) hx hb dX6_offer_7 hl (by decide) rfl (fun ls hl => ?_)
  refine lv_iload hx hb dX6_offer_9 (lv_at hl 0 rfl) ?_
  refine lv_if_lt (tgt := 34) hx hb dX6_offer_11 (by decide) (fun k3 => ?_) (fun k3 => ?_)
  · replace hf := zt k3 hf
    exact hret _ _ hf _ _ _ _ hP hS dX6_offer_34
  · replace hf := zf k3 hf
    refine lv_iload hx hb dX6_offer_14 (lv_at hl 0 rfl) ?_
    refine lv_aload_n hx hb dX6_offer_16 rfl (lv_at hl 1 rfl) ?_
    refine va_get (D := D) (ci := 5) (v := .ref (ad (o + 1))) (C := RX6) (T := TX6) (N := 7) hx hb hts hinX6_offer_X6 hown E.1 hP o (zO.get (oX6_at ho)) rfl 1 (by decide) (hts (.fieldLink RX6 9 "EdgeAndSpeed$Plan" "gains" "[J") (by decide +kernel)) (fun _ h9 => h9) rfl dX6_offer_17 ?_
    refine va_alen (v := 6464) (ty := .long) hx hb E.1 hP (o + 1) 2 (zLA.get (aX6_1 ho)) rfl rfl dX6_offer_20 ?_
    refine lv_icmp_ge (tgt := 34) hx hb dX6_offer_21 (by decide) (fun k4 => ?_) (fun k4 => ?_)
    · replace hf := zt k4 hf
      exact hret _ _ hf _ _ _ _ hP hS dX6_offer_34
    · replace hf := zf k4 hf
      refine lv_iload hx hb dX6_offer_24 (lv_at hl 0 rfl) ?_
      refine lv_aload_n hx hb dX6_offer_26 rfl (lv_at hl 1 rfl) ?_
      refine va_get (D := D) (ci := 5) (v := .ref (ad (o + 2))) (C := RX6) (T := TX6) (N := 7) hx hb hts hinX6_offer_X6 hown E.1 hP o (zO.get (oX6_at ho)) rfl 2 (by decide) (hts (.fieldLink RX6 15 "EdgeAndSpeed$Plan" "acts" "[B") (by decide +kernel)) (fun _ h9 => h9) rfl dX6_offer_27 ?_
      refine va_alen (v := 6464) (ty := .byte) hx hb E.1 hP (o + 2) 0 (zIA.get (aX6_2 ho)) rfl rfl dX6_offer_30 ?_
      refine lv_icmp_lt (tgt := 35) hx hb dX6_offer_31 (by decide) (fun k5 => ?_) (fun k5 => ?_)
      · replace hf := zt k5 hf
        refine lv_aload_n hx hb dX6_offer_35 rfl (lv_at hl 1 rfl) ?_
        refine va_get (D := D) (ci := 5) (v := .ref (ad (o + 2))) (C := RX6) (T := TX6) (N := 7) hx hb hts hinX6_offer_X6 hown E.1 hP o (zO.get (oX6_at ho)) rfl 2 (by decide) (hts (.fieldLink RX6 15 "EdgeAndSpeed$Plan" "acts" "[B") (by decide +kernel)) (fun _ h9 => h9) rfl dX6_offer_36 ?_
        refine lv_iload hx hb dX6_offer_39 (lv_at hl 0 rfl) ?_
        obtain ⟨g6, hf⟩ := zg_i hf
        refine va_bald hx hb E.1 hP (o + 2) 0 (zIA.get (aX6_2 ho)) rfl g6 dX6_offer_41 ?_
        refine lv_iconst (v := (-1)) hx hb dX6_offer_42 (by decide) ?_
        refine lv_icmp_eq (tgt := 59) hx hb dX6_offer_43 (by decide) (fun k7 => ?_) (fun k7 => ?_)
        · replace hf := zt k7 hf
          refine lv_aload_n hx hb dX6_offer_59 rfl (lv_at hl 1 rfl) ?_
          refine va_get (D := D) (ci := 5) (v := .ref (ad (o + 2))) (C := RX6) (T := TX6) (N := 7) hx hb hts hinX6_offer_X6 hown E.1 hP o (zO.get (oX6_at ho)) rfl 2 (by decide) (hts (.fieldLink RX6 15 "EdgeAndSpeed$Plan" "acts" "[B") (by decide +kernel)) (fun _ h9 => h9) rfl dX6_offer_60 ?_
          refine lv_iload hx hb dX6_offer_63 (lv_at hl 0 rfl) ?_
          refine lv_iload_n hx hb dX6_offer_65 rfl (lv_at hl 2 rfl) ?_
          refine lv_i2b hx hb dX6_offer_66 rfl ?_
          obtain ⟨g9, hf⟩ := zg_i hf
          obtain ⟨I8, eI8⟩ := zex (va_up I (o + 2) (upd (I (o + 2)) x1.toNatClampNeg (vp_nar .byte (p1.toInt8.toInt32))))
          replace hf := zn_s eI8 hf
          refine zast_b hx hb E.1 hP hD.D hS (aX6_2 ho) g9 dX6_offer_67 eI8 (fun H locs hP hS => ?_)
          refine lv_aload_n hx hb dX6_offer_68 rfl (lv_at hl 1 rfl) ?_
          refine va_get (D := D) (ci := 5) (v := .ref (ad (o + 1))) (C := RX6) (T := TX6) (N := 7) hx hb hts hinX6_offer_X6 hown E.1 hP o (zO.get (oX6_at ho)) rfl 1 (by decide) (hts (.fieldLink RX6 9 "EdgeAndSpeed$Plan" "gains" "[J") (by decide +kernel)) (fun _ h9 => h9) rfl dX6_offer_69 ?_
          refine lv_iload hx hb dX6_offer_72 (lv_at hl 0 rfl) ?_
          refine lv_lload hx hb dX6_offer_74 (lv_at hl 6 rfl) ?_
          obtain ⟨g11, hf⟩ := zg_i hf
          obtain ⟨J10, eJ10⟩ := zex (va_up J (o + 1) (vp_updL (J (o + 1)) x1.toNatClampNeg p5))
          replace hf := zn_s eJ10 hf
          refine zast_l hx hb E.1 hP hD.D hS (aX6_1 ho) g11 dX6_offer_76 eJ10 (fun H locs hP hS => ?_)
          exact hret _ _ hf _ _ _ _ hP hS dX6_offer_77
        · replace hf := zf k7 hf
          refine lv_lload hx hb dX6_offer_46 (lv_at hl 6 rfl) ?_
          refine lv_aload_n hx hb dX6_offer_48 rfl (lv_at hl 1 rfl) ?_
          refine va_get (D := D) (ci := 5) (v := .ref (ad (o + 1))) (C := RX6) (T := TX6) (N := 7) hx hb hts hinX6_offer_X6 hown E.1 hP o (zO.get (oX6_at ho)) rfl 1 (by decide) (hts (.fieldLink RX6 9 "EdgeAndSpeed$Plan" "gains" "[J") (by decide +kernel)) (fun _ h9 => h9) rfl dX6_offer_49 ?_
          refine lv_iload hx hb dX6_offer_52 (lv_at hl 0 rfl) ?_
          obtain ⟨g12, hf⟩ := zg_i hf
          refine va_lald hx hb E.1 hP (o + 1) 2 (zLA.get (aX6_1 ho)) rfl g12 dX6_offer_54 ?_
          refine W.lcmp hx hb dX6_offer_55 ?_
          refine lv_if_le (tgt := 77) hx hb dX6_offer_56 (by decide) (fun k13 => ?_) (fun k13 => ?_)
          · replace hf := zt k13 hf
            exact hret _ _ hf _ _ _ _ hP hS dX6_offer_77
          · replace hf := zf k13 hf
            refine lv_aload_n hx hb dX6_offer_59 rfl (lv_at hl 1 rfl) ?_
            refine va_get (D := D) (ci := 5) (v := .ref (ad (o + 2))) (C := RX6) (T := TX6) (N := 7) hx hb hts hinX6_offer_X6 hown E.1 hP o (zO.get (oX6_at ho)) rfl 2 (by decide) (hts (.fieldLink RX6 15 "EdgeAndSpeed$Plan" "acts" "[B") (by decide +kernel)) (fun _ h9 => h9) rfl dX6_offer_60 ?_
            refine lv_iload hx hb dX6_offer_63 (lv_at hl 0 rfl) ?_
            refine lv_iload_n hx hb dX6_offer_65 rfl (lv_at hl 2 rfl) ?_
            refine lv_i2b hx hb dX6_offer_66 rfl ?_
            obtain ⟨g15, hf⟩ := zg_i hf
            obtain ⟨I14, eI14⟩ := zex (va_up I (o + 2) (upd (I (o + 2)) x1.toNatClampNeg (vp_nar .byte (p1.toInt8.toInt32))))
            replace hf := zn_s eI14 hf
            refine zast_b hx hb E.1 hP hD.D hS (aX6_2 ho) g15 dX6_offer_67 eI14 (fun H locs hP hS => ?_)
            refine lv_aload_n hx hb dX6_offer_68 rfl (lv_at hl 1 rfl) ?_
            refine va_get (D := D) (ci := 5) (v := .ref (ad (o + 1))) (C := RX6) (T := TX6) (N := 7) hx hb hts hinX6_offer_X6 hown E.1 hP o (zO.get (oX6_at ho)) rfl 1 (by decide) (hts (.fieldLink RX6 9 "EdgeAndSpeed$Plan" "gains" "[J") (by decide +kernel)) (fun _ h9 => h9) rfl dX6_offer_69 ?_
            refine lv_iload hx hb dX6_offer_72 (lv_at hl 0 rfl) ?_
            refine lv_lload hx hb dX6_offer_74 (lv_at hl 6 rfl) ?_
            obtain ⟨g17, hf⟩ := zg_i hf
            obtain ⟨J16, eJ16⟩ := zex (va_up J (o + 1) (vp_updL (J (o + 1)) x1.toNatClampNeg p5))
            replace hf := zn_s eJ16 hf
            refine zast_l hx hb E.1 hP hD.D hS (aX6_1 ho) g17 dX6_offer_76 eJ16 (fun H locs hP hS => ?_)
            exact hret _ _ hf _ _ _ _ hP hS dX6_offer_77
      · replace hf := zf k5 hf
        exact hret _ _ hf _ _ _ _ hP hS dX6_offer_34
theorem c_X6_offer (l : Launch) {D : va_G} {a0 : Nat → Nat} {A : Nat → Prop} {cy : Nat → ClassId} {ad : Nat → Nat} (hD : zD A 74 ad) {I : zI} {J : zJ} (o : Nat) (ho : zPn o) (p1 : Int32) (p2 : Int32) (p3 : Int32) (p4 : Int32) (p5 : Int64) {rI : zI} {rJ : zJ} (hf : f_X6_offer I J o p1 p2 p3 p4 p5 = some (rI, rJ)) : Met l yX6_offer wsX6_offer { frames := 1, cells := 0, slots := 0, locals := 22 } (zPc D a0 A cy [.ref (ad o), .int p1, .int p2, .int p3, .int p4, .long p5] (zw 74 (kC cy ad a0) ad I J)) (zQv D A (zw 74 (kC cy ad a0) ad rI rJ)) 0 0 A :=
  zmet RX6 (by decide) rfl rfl (Nat.le_of_ble_eq_true rfl) (fun p e R s m below meth c Q hfr hlo ls S0 hQ => w_X6_offer hfr hlo hD o ho p1 p2 p3 p4 p5 hf S0 (fun tI tJ hq H locs ls pc hP hS hd => by cases hq; exact hQ H locs _ hS (fun hx hb hr hlocks hfree => W.vret hx hb hr (fun t ht hW => ⟨⟨(), rfl, trivial, zht ht hP⟩, hS.F ht⟩) hfree hd hlocks)))
theorem ddX6_offer : yX6_offer.cls = RX6 ∧ yX6_offer.cls ≠ "java/lang/invoke/MethodHandle" ∧ yX6_offer.cls ≠ "java/lang/invoke/VarHandle" ∧ (parseMethodDescriptor yX6_offer.desc).map (fun d => d.parameters.length) = some 5 := by decide +kernel

def f_X6_offerPass_L64 (o : Nat) (p2 : Int32) (y6 : Int32) (x11 : Int32) (u17 : Int64) (p1 : Int32) (p3 : Int32) (u15 : Int64) (x20 : Int32) (I21 : zI) (J22 : zJ) : Option ((Int32 × zI × zJ) ⊕ (zI × zJ)) := (if 100 < x20 then some (.inr (I21, J22)) else zb1 (f_X6_comes I21 J22 o p2 y6 x20 x11 u17) (fun u24 => zb2 (f_X6_offer I21 J22 o p1 p2 p3 x20 (u24 + u15)) (fun I26 J27 => zn (x20 + 1) (fun y29 => some (.inl (y29, I26, J27))))))
def f_X6_offerPass (I : zI) (J : zJ) (o : Nat) (p1 : Int32) (p2 : Int32) (p3 : Int32) : Option (zI × zJ) := zb1 (f_X0_isPass I J 4 p1 p3) (fun x1 => (if x1 = 0 then some (I, J) else zb1 (f_X11_depthOf I J p1) (fun x4 => zn ((p3 - x4)) (fun y6 => zb1 (f_X11_speedOf I J p1) (fun x7 => zb1 (f_X11_depthOf I J p1) (fun x9 => zb1 (f_X0_wears I J 4 p2 x7 x9 (I o 4)) (fun x11 => zb1 (f_X11_speedOf I J p1) (fun x13 => zb1 (f_X6_ofTime I J o p2 x13) (fun u15 => zb1 (f_X6_ofBreaking I J o p2) (fun u17 => zb2 (zl (fun v : (Int32 × zI × zJ) => f_X6_offerPass_L64 o p2 y6 x11 u17 p1 p3 u15 v.1 v.2.1 v.2.2) zF (0, I, J)) (fun I30 J31 => some (I30, J31))))))))))))
theorem hinX6_offerPass_X6 : ∀ w ∈ u_ws RX6 TX6 7, w ∈ wsX6_offerPass := by decide +kernel
set_option maxHeartbeats 4000000 in
set_option maxRecDepth 100000 in
theorem w_X6_offerPass {p : Program} {l : Launch} {e : Env} {R : Room} {s : State} {m : MethodId} {args : Array Value} {below : List Frame} {meth : Method} {c : Code} {Q : State → Prop} (hfr : 4 ≤ R.frames) (hlo : 97 ≤ R.locals) {D : va_G} {a0 : Nat → Nat} {A : Nat → Prop} {cy : Nat → ClassId} {ad : Nat → Nat} (hD : zD A 74 ad) {I : zI} {J : zJ} (o : Nat) (ho : zPn o) (p1 : Int32) (p2 : Int32) (p3 : Int32) {rI : zI} {rJ : zJ} (hf : f_X6_offerPass I J o p1 p2 p3 = some (rI, rJ)) {ls : Array Slot} (S0 : zSt p m c cX6_offerPass 11 s args wsX6_offerPass RX6 D a0 A cy (zw 74 (kC cy ad a0) ad I J) [.ref (ad o), .int p1, .int p2, .int p3] ls) (hret : ∀ (tI : zI) (tJ : zJ), some (tI, tJ) = some (rI, rJ) → ∀ (H : Heap) (locs : List Loc) (ls : Array Slot) (pc : Nat), va_P D vwCl (zw 74 (kC cy ad a0) ad tI tJ) H → va_S A s.heap H locs → decode cX6_offerPass pc = .ok (.return_, 1) → W p l e R s m args below meth c H locs 0 0 Q (F0 m pc ls [])) : W p l e R s m args below meth c s.heap [] 0 0 Q (F0 m 0 ls []) := by
  obtain ⟨S, E, hP, hl⟩ := S0
  obtain ⟨hx, hb, hml, hown, hts⟩ := id S
  have hS : va_S A s.heap s.heap [] := va_S.rf
  replace hl : lv_has ls 11 [(0, .ref (ad o)), (1, .int p1), (2, .int p2), (3, .int p3)] := hl
  unfold f_X6_offerPass at hf
  refine lv_aload_n hx hb dX6_offerPass_0 rfl (lv_at hl 0 rfl) ?_
  refine va_get (D := D) (ci := 5) (v := .ref (ad 4)) (C := RX6) (T := TX6) (N := 7) hx hb hts hinX6_offerPass_X6 hown E.1 hP o (zO.get (oX6_at ho)) rfl 0 (by decide) (hts (.fieldLink RX6 28 "EdgeAndSpeed$Plan" "bench" "LEdgeAndSpeed$Bench;") (by decide +kernel)) (fun _ h9 => h9) rfl dX6_offerPass_1 ?_
  refine lv_iload_n hx hb dX6_offerPass_4 rfl (lv_at hl 1 rfl) ?_
  refine lv_iload_n hx hb dX6_offerPass_5 rfl (lv_at hl 3 rfl) ?_
  obtain ⟨x1, h2, hf⟩ := zb1_e hf
  refine zgo_i (zrunV (As := [.int p1, .int p3]) (rest := []) S (c_X0_isPass l hD 4 (zBat_C (by decide)) p1 p3 h2) (cwV 2 hts gX6_offerPass_X0_isPass rfl rfl rfl ddX0_isPass ⟨Nat.le_trans (Nat.le_of_ble_eq_true rfl) hfr, Nat.le_trans (Nat.le_of_ble_eq_true rfl) hlo⟩) (va_recv E.1 hP (q := (RX0, TX0, 17)) (ci := 0) rfl (zO.get (zBat_o (zBat_C (by decide))))) E hP hS hl.1 rfl rfl (Nat.le_of_ble_eq_true rfl) dX6_offerPass_6) hS (fun H locs hP hS => ?_)
  refine lv_if_ne (tgt := 13) hx hb dX6_offerPass_9 (by decide) (fun k3 => ?_) (fun k3 => ?_)
  · replace hf := zf k3 hf
    refine lv_iload_n hx hb dX6_offerPass_13 rfl (lv_at hl 3 rfl) ?_
    refine lv_iload_n hx hb dX6_offerPass_14 rfl (lv_at hl 1 rfl) ?_
    obtain ⟨x4, h5, hf⟩ := zb1_e hf
    refine zgo_i (zrunSN (As := [.int p1]) (rest := [.int p3]) S (c_X11_depthOf l hD p1 h5) ⟨va_cnB (host := "EdgeAndSpeed") 1 hts gX6_offerPass_X11_depthOf_n87 rfl rfl rfl (zNmw_6 E.2.2) (hts (.initialized RX11) (by decide +kernel)) ddX11_depthOf ⟨Nat.le_trans (Nat.le_of_ble_eq_true rfl) hfr, Nat.le_trans (Nat.le_of_ble_eq_true rfl) hlo⟩, hts (.static yX11_depthOf) (by decide +kernel), trivial⟩ E hP hS hl.1 rfl rfl (Nat.le_of_ble_eq_true rfl) dX6_offerPass_15) hS (fun H locs hP hS => ?_)
    refine lv_isub hx hb dX6_offerPass_18 ?_
    refine lv_topi (fun y6 ey6 => ?_)
    replace hf := zn_s ey6 hf
    refine lv_istore (lv' := [(4, .int y6), (0, .ref (ad o)), (1, .int p1), (2, .int p2), (3, .int p3)]) hx hb dX6_offerPass_19 hl (by decide) rfl (fun ls hl => ?_)
    refine lv_aload_n hx hb dX6_offerPass_21 rfl (lv_at hl 1 rfl) ?_
    refine va_get (D := D) (ci := 5) (v := .ref (ad 4)) (C := RX6) (T := TX6) (N := 7) hx hb hts hinX6_offerPass_X6 hown E.1 hP o (zO.get (oX6_at ho)) rfl 0 (by decide) (hts (.fieldLink RX6 28 "EdgeAndSpeed$Plan" "bench" "LEdgeAndSpeed$Bench;") (by decide +kernel)) (fun _ h9 => h9) rfl dX6_offerPass_22 ?_
    refine lv_iload_n hx hb dX6_offerPass_25 rfl (lv_at hl 3 rfl) ?_
    refine lv_iload_n hx hb dX6_offerPass_26 rfl (lv_at hl 2 rfl) ?_
    obtain ⟨x7, h8, hf⟩ := zb1_e hf
    refine zgo_i (zrunSN (As := [.int p1]) (rest := [.int p2, .ref (ad 4)]) S (c_X11_speedOf l hD p1 h8) ⟨va_cnB (host := "EdgeAndSpeed") 1 hts gX6_offerPass_X11_speedOf_n90 rfl rfl rfl (zNmw_7 E.2.2) (hts (.initialized RX11) (by decide +kernel)) ddX11_speedOf ⟨Nat.le_trans (Nat.le_of_ble_eq_true rfl) hfr, Nat.le_trans (Nat.le_of_ble_eq_true rfl) hlo⟩, hts (.static yX11_speedOf) (by decide +kernel), trivial⟩ E hP hS hl.1 rfl rfl (Nat.le_of_ble_eq_true rfl) dX6_offerPass_27) hS (fun H locs hP hS => ?_)
    refine lv_iload_n hx hb dX6_offerPass_30 rfl (lv_at hl 2 rfl) ?_
    obtain ⟨x9, h10, hf⟩ := zb1_e hf
    refine zgo_i (zrunSN (As := [.int p1]) (rest := [.int x7, .int p2, .ref (ad 4)]) S (c_X11_depthOf l hD p1 h10) ⟨va_cnB (host := "EdgeAndSpeed") 1 hts gX6_offerPass_X11_depthOf_n87 rfl rfl rfl (zNmw_6 E.2.2) (hts (.initialized RX11) (by decide +kernel)) ddX11_depthOf ⟨Nat.le_trans (Nat.le_of_ble_eq_true rfl) hfr, Nat.le_trans (Nat.le_of_ble_eq_true rfl) hlo⟩, hts (.static yX11_depthOf) (by decide +kernel), trivial⟩ E hP hS hl.1 rfl rfl (Nat.le_of_ble_eq_true rfl) dX6_offerPass_31) hS (fun H locs hP hS => ?_)
    refine lv_aload_n hx hb dX6_offerPass_34 rfl (lv_at hl 1 rfl) ?_
    refine va_get (D := D) (ci := 5) (v := .int (I o 4)) (C := RX6) (T := TX6) (N := 7) hx hb hts hinX6_offerPass_X6 hown E.1 hP o (zO.get (oX6_at ho)) rfl 4 (by decide) (hts (.fieldLink RX6 42 "EdgeAndSpeed$Plan" "steel" "I") (by decide +kernel)) (fun _ h9 => h9) rfl dX6_offerPass_35 ?_
    obtain ⟨x11, h12, hf⟩ := zb1_e hf
    refine zgo_i (zrunV (As := [.int p2, .int x7, .int x9, .int (I o 4)]) (rest := []) S (c_X0_wears l hD 4 (zBat_C (by decide)) p2 x7 x9 (I o 4) h12) (cwV 4 hts gX6_offerPass_X0_wears rfl rfl rfl ddX0_wears ⟨Nat.le_trans (Nat.le_of_ble_eq_true rfl) hfr, Nat.le_trans (Nat.le_of_ble_eq_true rfl) hlo⟩) (va_recv E.1 hP (q := (RX0, TX0, 17)) (ci := 0) rfl (zO.get (zBat_o (zBat_C (by decide))))) E hP hS hl.1 rfl rfl (Nat.le_of_ble_eq_true rfl) dX6_offerPass_38) hS (fun H locs hP hS => ?_)
    refine lv_istore (lv' := [(5, .int x11), (4, .int y6), (0, .ref (ad o)), (1, .int p1), (2, .int p2), (3, .int p3)]) hx hb dX6_offerPass_41 hl (by decide) rfl (fun ls hl => ?_)
    refine lv_aload_n hx hb dX6_offerPass_43 rfl (lv_at hl 2 rfl) ?_
    refine lv_iload_n hx hb dX6_offerPass_44 rfl (lv_at hl 4 rfl) ?_
    refine lv_iload_n hx hb dX6_offerPass_45 rfl (lv_at hl 3 rfl) ?_
    obtain ⟨x13, h14, hf⟩ := zb1_e hf
    refine zgo_i (zrunSN (As := [.int p1]) (rest := [.int p2, .ref (ad o)]) S (c_X11_speedOf l hD p1 h14) ⟨va_cnB (host := "EdgeAndSpeed") 1 hts gX6_offerPass_X11_speedOf_n90 rfl rfl rfl (zNmw_7 E.2.2) (hts (.initialized RX11) (by decide +kernel)) ddX11_speedOf ⟨Nat.le_trans (Nat.le_of_ble_eq_true rfl) hfr, Nat.le_trans (Nat.le_of_ble_eq_true rfl) hlo⟩, hts (.static yX11_speedOf) (by decide +kernel), trivial⟩ E hP hS hl.1 rfl rfl (Nat.le_of_ble_eq_true rfl) dX6_offerPass_46) hS (fun H locs hP hS => ?_)
    obtain ⟨u15, h16, hf⟩ := zb1_e hf
    refine zgo_l (zrunV (As := [.int p2, .int x13]) (rest := []) S (c_X6_ofTime l hD o ho p2 x13 h16) (cwV 2 hts gX6_offerPass_X6_ofTime rfl rfl rfl ddX6_ofTime ⟨Nat.le_trans (Nat.le_of_ble_eq_true rfl) hfr, Nat.le_trans (Nat.le_of_ble_eq_true rfl) hlo⟩) (va_recv E.1 hP (q := (RX6, TX6, 7)) (ci := 5) rfl (zO.get (oX6_at ho))) E hP hS hl.1 rfl rfl (Nat.le_of_ble_eq_true rfl) dX6_offerPass_49) hS (fun H locs hP hS => ?_)
    refine lv_lstore (lv' := [(6, .long u15), (5, .int x11), (4, .int y6), (0, .ref (ad o)), (1, .int p1), (2, .int p2), (3, .int p3)]) hx hb dX6_offerPass_52 hl (by decide) rfl (fun ls hl => ?_)
    refine lv_aload_n hx hb dX6_offerPass_54 rfl (lv_at hl 3 rfl) ?_
    refine lv_iload_n hx hb dX6_offerPass_55 rfl (lv_at hl 5 rfl) ?_
    obtain ⟨u17, h18, hf⟩ := zb1_e hf
    refine zgo_l (zrunV (As := [.int p2]) (rest := []) S (c_X6_ofBreaking l hD o ho p2 h18) (cwV 1 hts gX6_offerPass_X6_ofBreaking rfl rfl rfl ddX6_ofBreaking ⟨Nat.le_trans (Nat.le_of_ble_eq_true rfl) hfr, Nat.le_trans (Nat.le_of_ble_eq_true rfl) hlo⟩) (va_recv E.1 hP (q := (RX6, TX6, 7)) (ci := 5) rfl (zO.get (oX6_at ho))) E hP hS hl.1 rfl rfl (Nat.le_of_ble_eq_true rfl) dX6_offerPass_56) hS (fun H locs hP hS => ?_)
    refine lv_lstore (lv' := [(8, .long u17), (6, .long u15), (5, .int x11), (4, .int y6), (0, .ref (ad o)), (1, .int p1), (2, .int p2), (3, .int p3)]) hx hb dX6_offerPass_59 hl (by decide) rfl (fun ls hl => ?_)
    refine lv_iconst (v := 0) hx hb dX6_offerPass_61 (by decide) ?_
    refine lv_istore (lv' := [(10, .int 0), (8, .long u17), (6, .long u15), (5, .int x11), (4, .int y6), (0, .ref (ad o)), (1, .int p1), (2, .int p2), (3, .int p3)]) hx hb dX6_offerPass_62 hl (by decide) rfl (fun ls hl => ?_)
    obtain ⟨zl19, hf, hzl19⟩ := zb2_i hf
    have hjl19 : ∀ (I30 : zI) (J31 : zJ), (I30, J31) = zl19 → ∀ (H : Heap) (locs : List Loc) (ls : Array Slot), va_P D vwCl (zw 74 (kC cy ad a0) ad I30 J31) H → va_S A s.heap H locs → lv_has ls 11 [] → W p l e R s m args below meth c H locs 0 0 Q (F0 m 102 ls []) := by
      intro I30 J31 ez H locs ls hP hS hl
      have hf := hzl19 I30 J31 ez
      exact hret _ _ hf _ _ _ _ hP hS dX6_offerPass_102
    refine zl_i (V := (Int32 × zI × zJ)) (P := fun v => ∀ (H : Heap) (locs : List Loc) (ls : Array Slot), va_P D vwCl (zw 74 (kC cy ad a0) ad v.2.1 v.2.2) H → va_S A s.heap H locs → lv_has ls 11 [(0, .ref (ad o)), (1, .int p1), (2, .int p2), (3, .int p3), (4, .int y6), (5, .int x11), (6, .long u15), (8, .long u17), (10, .int (v.1))] → W p l e R s m args below meth c H locs 0 0 Q (F0 m 64 ls [])) ?_ _ _ hf _ _ _ hP hS (lv_sub hl [5, 6, 7, 8, 4, 3, 2, 1, 0] rfl)
    intro v z hf hcl19 hdl19
    obtain ⟨x20, I21, J22⟩ := v
    intro H locs ls hP hS hl
    replace hf : f_X6_offerPass_L64 o p2 y6 x11 u17 p1 p3 u15 x20 I21 J22 = some z := hf
    unfold f_X6_offerPass_L64 at hf
    replace hP : va_P D vwCl (zw 74 (kC cy ad a0) ad I21 J22) H := hP
    replace hl : lv_has ls 11 [(0, .ref (ad o)), (1, .int p1), (2, .int p2), (3, .int p3), (4, .int y6), (5, .int x11), (6, .long u15), (8, .long u17), (10, .int x20)] := hl
    refine lv_iload hx hb dX6_offerPass_64 (lv_at hl 8 rfl) ?_
    refine lv_bipush (v := 100) hx hb dX6_offerPass_66 (by decide) ?_
    refine lv_icmp_gt (tgt := 102) hx hb dX6_offerPass_68 (by decide) (fun k23 => ?_) (fun k23 => ?_)
    · replace hf := zt k23 hf
      exact hjl19 _ _ (hdl19 _ (Option.some.inj hf).symm) _ _ _ hP hS (lv_sub hl [] rfl)
    · replace hf := zf k23 hf
      refine lv_aload_n hx hb dX6_offerPass_71 rfl (lv_at hl 0 rfl) ?_
      refine lv_iload_n hx hb dX6_offerPass_72 rfl (lv_at hl 1 rfl) ?_
      refine lv_iload_n hx hb dX6_offerPass_73 rfl (lv_at hl 2 rfl) ?_
      refine lv_iload_n hx hb dX6_offerPass_74 rfl (lv_at hl 3 rfl) ?_
      refine lv_iload hx hb dX6_offerPass_75 (lv_at hl 8 rfl) ?_
      refine lv_aload_n hx hb dX6_offerPass_77 rfl (lv_at hl 0 rfl) ?_
      refine lv_iload_n hx hb dX6_offerPass_78 rfl (lv_at hl 2 rfl) ?_
      refine lv_iload hx hb dX6_offerPass_79 (lv_at hl 4 rfl) ?_
      refine lv_iload hx hb dX6_offerPass_81 (lv_at hl 8 rfl) ?_
      refine lv_iload hx hb dX6_offerPass_83 (lv_at hl 5 rfl) ?_
      refine lv_lload hx hb dX6_offerPass_85 (lv_at hl 7 rfl) ?_
      obtain ⟨u24, h25, hf⟩ := zb1_e hf
      refine zgo_l (zrunV (As := [.int p2, .int y6, .int x20, .int x11, .long u17]) (rest := [.int x20, .int p3, .int p2, .int p1, .ref (ad o)]) S (c_X6_comes l hD o ho p2 y6 x20 x11 u17 h25) (cwV 5 hts gX6_offerPass_X6_comes rfl rfl rfl ddX6_comes ⟨Nat.le_trans (Nat.le_of_ble_eq_true rfl) hfr, Nat.le_trans (Nat.le_of_ble_eq_true rfl) hlo⟩) (va_recv E.1 hP (q := (RX6, TX6, 7)) (ci := 5) rfl (zO.get (oX6_at ho))) E hP hS hl.1 rfl rfl (Nat.le_of_ble_eq_true rfl) dX6_offerPass_87) hS (fun H locs hP hS => ?_)
      refine lv_lload hx hb dX6_offerPass_90 (lv_at hl 6 rfl) ?_
      refine lv_ladd hx hb dX6_offerPass_92 ?_
      obtain ⟨I26, J27, h28, hf⟩ := zb2_e hf
      refine zgo_v (zrunV (As := [.int p1, .int p2, .int p3, .int x20, .long (u24 + u15)]) (rest := []) S (c_X6_offer l hD o ho p1 p2 p3 x20 (u24 + u15) h28) (cwV 5 hts gX6_offerPass_X6_offer rfl rfl rfl ddX6_offer ⟨Nat.le_trans (Nat.le_of_ble_eq_true rfl) hfr, Nat.le_trans (Nat.le_of_ble_eq_true rfl) hlo⟩) (va_recv E.1 hP (q := (RX6, TX6, 7)) (ci := 5) rfl (zO.get (oX6_at ho))) E hP hS hl.1 rfl rfl (Nat.le_of_ble_eq_true rfl) dX6_offerPass_93) hS (fun H locs hP hS => ?_)
      obtain ⟨y29, ey29⟩ := zex (x20 + 1)
      replace hf := zn_s ey29 hf
      refine lv_iinc (v := y29) (lv' := [(10, .int y29), (0, .ref (ad o)), (1, .int p1), (2, .int p2), (3, .int p3), (4, .int y6), (5, .int x11), (6, .long u15), (8, .long u17)]) hx hb dX6_offerPass_96 hl (k := 8) rfl (by rw [ey29]; rfl) (by decide) rfl (fun ls hl => ?_)
      refine lv_goto (tgt := 64) hx hb dX6_offerPass_99 (by decide) ?_
      exact hcl19 _ (Option.some.inj hf).symm _ _ _ hP hS (lv_sub hl [1, 2, 3, 4, 5, 6, 7, 8, 0] rfl)
  · replace hf := zt k3 hf
    exact hret _ _ hf _ _ _ _ hP hS dX6_offerPass_12
theorem c_X6_offerPass (l : Launch) {D : va_G} {a0 : Nat → Nat} {A : Nat → Prop} {cy : Nat → ClassId} {ad : Nat → Nat} (hD : zD A 74 ad) {I : zI} {J : zJ} (o : Nat) (ho : zPn o) (p1 : Int32) (p2 : Int32) (p3 : Int32) {rI : zI} {rJ : zJ} (hf : f_X6_offerPass I J o p1 p2 p3 = some (rI, rJ)) : Met l yX6_offerPass wsX6_offerPass { frames := 4, cells := 0, slots := 0, locals := 97 } (zPc D a0 A cy [.ref (ad o), .int p1, .int p2, .int p3] (zw 74 (kC cy ad a0) ad I J)) (zQv D A (zw 74 (kC cy ad a0) ad rI rJ)) 0 0 A :=
  zmet RX6 (by decide) rfl rfl (Nat.le_of_ble_eq_true rfl) (fun p e R s m below meth c Q hfr hlo ls S0 hQ => w_X6_offerPass hfr hlo hD o ho p1 p2 p3 hf S0 (fun tI tJ hq H locs ls pc hP hS hd => by cases hq; exact hQ H locs _ hS (fun hx hb hr hlocks hfree => W.vret hx hb hr (fun t ht hW => ⟨⟨(), rfl, trivial, zht ht hP⟩, hS.F ht⟩) hfree hd hlocks)))
theorem ddX6_offerPass : yX6_offerPass.cls = RX6 ∧ yX6_offerPass.cls ≠ "java/lang/invoke/MethodHandle" ∧ yX6_offerPass.cls ≠ "java/lang/invoke/VarHandle" ∧ (parseMethodDescriptor yX6_offerPass.desc).map (fun d => d.parameters.length) = some 3 := by decide +kernel

def f_X6_offerRest_L2 (o : Nat) (p1 : Int32) (p2 : Int32) (x2 : Int32) (I3 : zI) (J4 : zJ) : Option ((Int32 × zI × zJ) ⊕ (zI × zJ)) := (if 100 < x2 then some (.inr (I3, J4)) else zb2 ((if x2 ≤ 0 then some ((I3, J4)) else zb1 (f_X6_gainAt I3 J4 o p1 p2 0) (fun u9 => zb2 (f_X6_offer I3 J4 o 48 p1 p2 x2 (u9 + (J4 o 5))) (fun I11 J12 => some ((I11, J12))))) : Option (zI × zJ)) (fun I14 J15 => zg ((I14 o 3).toNatClampNeg < 4) (zb1 (f_X6_gainAtStart I14 J15 o (p1 + 1) x2) (fun u17 => zb2 (f_X6_offer I14 J15 o 49 p1 p2 x2 ((zMv ((I14 o 3).toNatClampNeg) 2) + u17)) (fun I19 J20 => zn (x2 + 1) (fun y22 => some (.inl (y22, I19, J20))))))))
def f_X6_offerRest (I : zI) (J : zJ) (o : Nat) (p1 : Int32) (p2 : Int32) : Option (zI × zJ) := zb2 (zl (fun v : (Int32 × zI × zJ) => f_X6_offerRest_L2 o p1 p2 v.1 v.2.1 v.2.2) zF (0, I, J)) (fun I23 J24 => some (I23, J24))
theorem hinX6_offerRest_X6 : ∀ w ∈ u_ws RX6 TX6 7, w ∈ wsX6_offerRest := by decide +kernel
set_option maxHeartbeats 4000000 in
set_option maxRecDepth 100000 in
theorem w_X6_offerRest {p : Program} {l : Launch} {e : Env} {R : Room} {s : State} {m : MethodId} {args : Array Value} {below : List Frame} {meth : Method} {c : Code} {Q : State → Prop} (hfr : 3 ≤ R.frames) (hlo : 68 ≤ R.locals) {D : va_G} {a0 : Nat → Nat} {A : Nat → Prop} {cy : Nat → ClassId} {ad : Nat → Nat} (hD : zD A 74 ad) {I : zI} {J : zJ} (o : Nat) (ho : zPn o) (p1 : Int32) (p2 : Int32) {rI : zI} {rJ : zJ} (hf : f_X6_offerRest I J o p1 p2 = some (rI, rJ)) {ls : Array Slot} (S0 : zSt p m c cX6_offerRest 4 s args wsX6_offerRest RX6 D a0 A cy (zw 74 (kC cy ad a0) ad I J) [.ref (ad o), .int p1, .int p2] ls) (hret : ∀ (tI : zI) (tJ : zJ), some (tI, tJ) = some (rI, rJ) → ∀ (H : Heap) (locs : List Loc) (ls : Array Slot) (pc : Nat), va_P D vwCl (zw 74 (kC cy ad a0) ad tI tJ) H → va_S A s.heap H locs → decode cX6_offerRest pc = .ok (.return_, 1) → W p l e R s m args below meth c H locs 0 0 Q (F0 m pc ls [])) : W p l e R s m args below meth c s.heap [] 0 0 Q (F0 m 0 ls []) := by
  obtain ⟨S, E, hP, hl⟩ := S0
  obtain ⟨hx, hb, hml, hown, hts⟩ := id S
  have hS : va_S A s.heap s.heap [] := va_S.rf
  replace hl : lv_has ls 4 [(0, .ref (ad o)), (1, .int p1), (2, .int p2)] := hl
  unfold f_X6_offerRest at hf
  refine lv_iconst (v := 0) hx hb dX6_offerRest_0 (by decide) ?_
  refine lv_istore_n (lv' := [(3, .int 0), (0, .ref (ad o)), (1, .int p1), (2, .int p2)]) hx hb dX6_offerRest_1 rfl hl (by decide) rfl (fun ls hl => ?_)
  obtain ⟨zl1, hf, hzl1⟩ := zb2_i hf
  have hjl1 : ∀ (I23 : zI) (J24 : zJ), (I23, J24) = zl1 → ∀ (H : Heap) (locs : List Loc) (ls : Array Slot), va_P D vwCl (zw 74 (kC cy ad a0) ad I23 J24) H → va_S A s.heap H locs → lv_has ls 4 [] → W p l e R s m args below meth c H locs 0 0 Q (F0 m 64 ls []) := by
    intro I23 J24 ez H locs ls hP hS hl
    have hf := hzl1 I23 J24 ez
    exact hret _ _ hf _ _ _ _ hP hS dX6_offerRest_64
  refine zl_i (V := (Int32 × zI × zJ)) (P := fun v => ∀ (H : Heap) (locs : List Loc) (ls : Array Slot), va_P D vwCl (zw 74 (kC cy ad a0) ad v.2.1 v.2.2) H → va_S A s.heap H locs → lv_has ls 4 [(0, .ref (ad o)), (1, .int p1), (2, .int p2), (3, .int (v.1))] → W p l e R s m args below meth c H locs 0 0 Q (F0 m 2 ls [])) ?_ _ _ hf _ _ _ hP hS (lv_sub hl [1, 2, 3, 0] rfl)
  intro v z hf hcl1 hdl1
  obtain ⟨x2, I3, J4⟩ := v
  intro H locs ls hP hS hl
  replace hf : f_X6_offerRest_L2 o p1 p2 x2 I3 J4 = some z := hf
  unfold f_X6_offerRest_L2 at hf
  replace hP : va_P D vwCl (zw 74 (kC cy ad a0) ad I3 J4) H := hP
  replace hl : lv_has ls 4 [(0, .ref (ad o)), (1, .int p1), (2, .int p2), (3, .int x2)] := hl
  refine lv_iload_n hx hb dX6_offerRest_2 rfl (lv_at hl 3 rfl) ?_
  refine lv_bipush (v := 100) hx hb dX6_offerRest_3 (by decide) ?_
  refine lv_icmp_gt (tgt := 64) hx hb dX6_offerRest_5 (by decide) (fun k5 => ?_) (fun k5 => ?_)
  · replace hf := zt k5 hf
    exact hjl1 _ _ (hdl1 _ (Option.some.inj hf).symm) _ _ _ hP hS (lv_sub hl [] rfl)
  · replace hf := zf k5 hf
    refine lv_iload_n hx hb dX6_offerRest_8 rfl (lv_at hl 3 rfl) ?_
    obtain ⟨zr8, hf, hzr8⟩ := zb2_i hf
    have hjr8 : ∀ (I14 : zI) (J15 : zJ), (I14, J15) = zr8 → ∀ (H : Heap) (locs : List Loc) (ls : Array Slot), va_P D vwCl (zw 74 (kC cy ad a0) ad I14 J15) H → va_S A s.heap H locs → lv_has ls 4 [(0, .ref (ad o)), (1, .int p1), (2, .int p2), (3, .int x2)] → W p l e R s m args below meth c H locs 0 0 Q (F0 m 33 ls []) := by
      intro I14 J15 ez H locs ls hP hS hl
      have hf := hzr8 I14 J15 ez
      refine lv_aload_n hx hb dX6_offerRest_33 rfl (lv_at hl 0 rfl) ?_
      refine lv_bipush (v := 49) hx hb dX6_offerRest_34 (by decide) ?_
      refine lv_iload_n hx hb dX6_offerRest_36 rfl (lv_at hl 1 rfl) ?_
      refine lv_iload_n hx hb dX6_offerRest_37 rfl (lv_at hl 2 rfl) ?_
      refine lv_iload_n hx hb dX6_offerRest_38 rfl (lv_at hl 3 rfl) ?_
      refine lv_aload_n hx hb dX6_offerRest_39 rfl (lv_at hl 0 rfl) ?_
      refine va_get (D := D) (ci := 5) (v := .ref (a0 ((I14 o 3).toNatClampNeg))) (C := RX6) (T := TX6) (N := 7) hx hb hts hinX6_offerRest_X6 hown E.1 hP o (zO.get (oX6_at ho)) rfl 3 (by decide) (hts (.fieldLink RX6 25 "EdgeAndSpeed$Plan" "by" "LEdgeAndSpeed$Measure;") (by decide +kernel)) (fun _ h9 => h9) rfl dX6_offerRest_40 ?_
      obtain ⟨g16, hf⟩ := zg_i hf
      refine zgetfN hx hb ((E.2.1 _ g16).2.2 2 (by decide)) hS hown (zNfw_16 E.2.2) (fun _ h9 => h9) dX6_offerRest_43 ?_
      refine lv_aload_n hx hb dX6_offerRest_46 rfl (lv_at hl 0 rfl) ?_
      refine lv_iload_n hx hb dX6_offerRest_47 rfl (lv_at hl 1 rfl) ?_
      refine lv_iconst (v := 1) hx hb dX6_offerRest_48 (by decide) ?_
      refine lv_iadd hx hb dX6_offerRest_49 ?_
      refine lv_iload_n hx hb dX6_offerRest_50 rfl (lv_at hl 3 rfl) ?_
      obtain ⟨u17, h18, hf⟩ := zb1_e hf
      refine zgo_l (zrunV (As := [.int (p1 + 1), .int x2]) (rest := [.long (zMv ((I14 o 3).toNatClampNeg) 2), .int x2, .int p2, .int p1, .int 49, .ref (ad o)]) S (c_X6_gainAtStart l hD o ho (p1 + 1) x2 h18) (cwV 2 hts gX6_offerRest_X6_gainAtStart rfl rfl rfl ddX6_gainAtStart ⟨Nat.le_trans (Nat.le_of_ble_eq_true rfl) hfr, Nat.le_trans (Nat.le_of_ble_eq_true rfl) hlo⟩) (va_recv E.1 hP (q := (RX6, TX6, 7)) (ci := 5) rfl (zO.get (oX6_at ho))) E hP hS hl.1 rfl rfl (Nat.le_of_ble_eq_true rfl) dX6_offerRest_51) hS (fun H locs hP hS => ?_)
      refine lv_ladd hx hb dX6_offerRest_54 ?_
      obtain ⟨I19, J20, h21, hf⟩ := zb2_e hf
      refine zgo_v (zrunV (As := [.int 49, .int p1, .int p2, .int x2, .long ((zMv ((I14 o 3).toNatClampNeg) 2) + u17)]) (rest := []) S (c_X6_offer l hD o ho 49 p1 p2 x2 ((zMv ((I14 o 3).toNatClampNeg) 2) + u17) h21) (cwV 5 hts gX6_offerRest_X6_offer rfl rfl rfl ddX6_offer ⟨Nat.le_trans (Nat.le_of_ble_eq_true rfl) hfr, Nat.le_trans (Nat.le_of_ble_eq_true rfl) hlo⟩) (va_recv E.1 hP (q := (RX6, TX6, 7)) (ci := 5) rfl (zO.get (oX6_at ho))) E hP hS hl.1 rfl rfl (Nat.le_of_ble_eq_true rfl) dX6_offerRest_55) hS (fun H locs hP hS => ?_)
      obtain ⟨y22, ey22⟩ := zex (x2 + 1)
      replace hf := zn_s ey22 hf
      refine lv_iinc (v := y22) (lv' := [(3, .int y22), (0, .ref (ad o)), (1, .int p1), (2, .int p2)]) hx hb dX6_offerRest_58 hl (k := 3) rfl (by rw [ey22]; rfl) (by decide) rfl (fun ls hl => ?_)
      refine lv_goto (tgt := 2) hx hb dX6_offerRest_61 (by decide) ?_
      exact hcl1 _ (Option.some.inj hf).symm _ _ _ hP hS (lv_sub hl [1, 2, 3, 0] rfl)
    refine lv_if_le (tgt := 33) hx hb dX6_offerRest_9 (by decide) (fun k6 => ?_) (fun k6 => ?_)
    · replace hf := zt k6 hf
      exact hjr8 _ _ (Option.some.inj hf) _ _ _ hP hS (lv_sub hl [0, 1, 2, 3] rfl)
    · replace hf := zf k6 hf
      refine lv_aload_n hx hb dX6_offerRest_12 rfl (lv_at hl 0 rfl) ?_
      refine lv_bipush (v := 48) hx hb dX6_offerRest_13 (by decide) ?_
      refine lv_iload_n hx hb dX6_offerRest_15 rfl (lv_at hl 1 rfl) ?_
      refine lv_iload_n hx hb dX6_offerRest_16 rfl (lv_at hl 2 rfl) ?_
      refine lv_iload_n hx hb dX6_offerRest_17 rfl (lv_at hl 3 rfl) ?_
      refine lv_aload_n hx hb dX6_offerRest_18 rfl (lv_at hl 0 rfl) ?_
      refine lv_iload_n hx hb dX6_offerRest_19 rfl (lv_at hl 1 rfl) ?_
      refine lv_iload_n hx hb dX6_offerRest_20 rfl (lv_at hl 2 rfl) ?_
      refine lv_iconst (v := 0) hx hb dX6_offerRest_21 (by decide) ?_
      obtain ⟨u9, h10, hf⟩ := zb1_e hf
      refine zgo_l (zrunV (As := [.int p1, .int p2, .int 0]) (rest := [.int x2, .int p2, .int p1, .int 48, .ref (ad o)]) S (c_X6_gainAt l hD o ho p1 p2 0 h10) (cwV 3 hts gX6_offerRest_X6_gainAt rfl rfl rfl ddX6_gainAt ⟨Nat.le_trans (Nat.le_of_ble_eq_true rfl) hfr, Nat.le_trans (Nat.le_of_ble_eq_true rfl) hlo⟩) (va_recv E.1 hP (q := (RX6, TX6, 7)) (ci := 5) rfl (zO.get (oX6_at ho))) E hP hS hl.1 rfl rfl (Nat.le_of_ble_eq_true rfl) dX6_offerRest_22) hS (fun H locs hP hS => ?_)
      refine lv_aload_n hx hb dX6_offerRest_25 rfl (lv_at hl 0 rfl) ?_
      refine va_get (D := D) (ci := 5) (v := .long (J4 o 5)) (C := RX6) (T := TX6) (N := 7) hx hb hts hinX6_offerRest_X6 hown E.1 hP o (zO.get (oX6_at ho)) rfl 5 (by decide) (hts (.fieldLink RX6 60 "EdgeAndSpeed$Plan" "ofChange" "J") (by decide +kernel)) (fun _ h9 => h9) rfl dX6_offerRest_26 ?_
      refine lv_ladd hx hb dX6_offerRest_29 ?_
      obtain ⟨I11, J12, h13, hf⟩ := zb2_e hf
      refine zgo_v (zrunV (As := [.int 48, .int p1, .int p2, .int x2, .long (u9 + (J4 o 5))]) (rest := []) S (c_X6_offer l hD o ho 48 p1 p2 x2 (u9 + (J4 o 5)) h13) (cwV 5 hts gX6_offerRest_X6_offer rfl rfl rfl ddX6_offer ⟨Nat.le_trans (Nat.le_of_ble_eq_true rfl) hfr, Nat.le_trans (Nat.le_of_ble_eq_true rfl) hlo⟩) (va_recv E.1 hP (q := (RX6, TX6, 7)) (ci := 5) rfl (zO.get (oX6_at ho))) E hP hS hl.1 rfl rfl (Nat.le_of_ble_eq_true rfl) dX6_offerRest_30) hS (fun H locs hP hS => ?_)
      exact hjr8 _ _ (Option.some.inj hf) _ _ _ hP hS (lv_sub hl [0, 1, 2, 3] rfl)
theorem c_X6_offerRest (l : Launch) {D : va_G} {a0 : Nat → Nat} {A : Nat → Prop} {cy : Nat → ClassId} {ad : Nat → Nat} (hD : zD A 74 ad) {I : zI} {J : zJ} (o : Nat) (ho : zPn o) (p1 : Int32) (p2 : Int32) {rI : zI} {rJ : zJ} (hf : f_X6_offerRest I J o p1 p2 = some (rI, rJ)) : Met l yX6_offerRest wsX6_offerRest { frames := 3, cells := 0, slots := 0, locals := 68 } (zPc D a0 A cy [.ref (ad o), .int p1, .int p2] (zw 74 (kC cy ad a0) ad I J)) (zQv D A (zw 74 (kC cy ad a0) ad rI rJ)) 0 0 A :=
  zmet RX6 (by decide) rfl rfl (Nat.le_of_ble_eq_true rfl) (fun p e R s m below meth c Q hfr hlo ls S0 hQ => w_X6_offerRest hfr hlo hD o ho p1 p2 hf S0 (fun tI tJ hq H locs ls pc hP hS hd => by cases hq; exact hQ H locs _ hS (fun hx hb hr hlocks hfree => W.vret hx hb hr (fun t ht hW => ⟨⟨(), rfl, trivial, zht ht hP⟩, hS.F ht⟩) hfree hd hlocks)))
theorem ddX6_offerRest : yX6_offerRest.cls = RX6 ∧ yX6_offerRest.cls ≠ "java/lang/invoke/MethodHandle" ∧ yX6_offerRest.cls ≠ "java/lang/invoke/VarHandle" ∧ (parseMethodDescriptor yX6_offerRest.desc).map (fun d => d.parameters.length) = some 2 := by decide +kernel
