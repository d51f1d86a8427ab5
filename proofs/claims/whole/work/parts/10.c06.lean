def f_X7_speedFor_L9 (I : zI) (J : zJ) (p1 : Int32) (p2 : Int32) (x2 : Int32) (u3 : Int64) (x4 : Int32) : Option ((Int32 × Int64 × Int32) ⊕ Int32) := (if (I 4 9) ≤ x4 then some (.inr x2) else zb1 (f_X7_mayBe I J p1 x4) (fun x6 => (if x6 = 0 then zn (x4 + 1) (fun y9 => some (.inl (x2, u3, y9))) else zb1 (f_X7_earned I J p1 x4 p2) (fun u10 => (if x2 = (-4) then zn (x4 + 1) (fun y13 => some (.inl (x4, u10, y13))) else (if (lg_cmp u10 u3) ≤ 0 then zn (x4 + 1) (fun y15 => some (.inl (x2, u3, y15))) else zn (x4 + 1) (fun y16 => some (.inl (x4, u10, y16)))))))))
def f_X7_speedFor (I : zI) (J : zJ) (p1 : Int32) (p2 : Int32) : Option Int32 := zb1 (zl (fun v : (Int32 × Int64 × Int32) => f_X7_speedFor_L9 I J p1 p2 v.1 v.2.1 v.2.2) zF ((-4), 0, 0)) (fun x17 => some x17)
theorem hinX7_speedFor_X7 : ∀ w ∈ u_ws RX7 TX7 1, w ∈ wsX7_speedFor := by decide +kernel
theorem hinX7_speedFor_X0 : ∀ w ∈ u_ws RX0 TX0 17, w ∈ wsX7_speedFor := by decide +kernel
set_option maxHeartbeats 4000000 in
set_option maxRecDepth 100000 in
theorem w_X7_speedFor {p : Program} {l : Launch} {e : Env} {R : Room} {s : State} {m : MethodId} {args : Array Value} {below : List Frame} {meth : Method} {c : Code} {Q : State → Prop} (hfr : 5 ≤ R.frames) (hlo : 116 ≤ R.locals) {D : va_G} {a0 : Nat → Nat} {A : Nat → Prop} {cy : Nat → ClassId} {ad : Nat → Nat} (hD : zD A 74 ad) {I : zI} {J : zJ} (p1 : Int32) (p2 : Int32) {rx : Int32} (hf : f_X7_speedFor I J p1 p2 = some rx) {ls : Array Slot} (S0 : zSt p m c cX7_speedFor 9 s args wsX7_speedFor RX7 D a0 A cy (zw 74 (kC cy ad a0) ad I J) [.ref (ad 46), .int p1, .int p2] ls) (hret : ∀ (tx : Int32), some tx = some rx → ∀ (H : Heap) (locs : List Loc) (ls : Array Slot) (pc : Nat), va_P D vwCl (zw 74 (kC cy ad a0) ad I J) H → va_S A s.heap H locs → decode cX7_speedFor pc = .ok (.ireturn, 1) → W p l e R s m args below meth c H locs 0 0 Q (F0 m pc ls [.int tx])) : W p l e R s m args below meth c s.heap [] 0 0 Q (F0 m 0 ls []) := by
  obtain ⟨S, E, hP, hl⟩ := S0
  obtain ⟨hx, hb, hml, hown, hts⟩ := id S
  have hS : va_S A s.heap s.heap [] := va_S.rf
  replace hl : lv_has ls 9 [(0, .ref (ad 46)), (1, .int p1), (2, .int p2)] := hl
  unfold f_X7_speedFor at hf
  refine lv_bipush (v := (-4)) hx hb dX7_speedFor_0 (by decide) ?_
  refine lv_istore_n (lv' := [(3, .int (-4)), (0, .ref (ad 46)), (1, .int p1), (2, .int p2)]) hx hb dX7_speedFor_2 rfl hl (by decide) rfl (fun ls hl => ?_)
  refine lv_lconst (v := 0) hx hb dX7_speedFor_3 (by decide) ?_
  refine lv_lstore (lv' := [(4, .long 0), (3, .int (-4)), (0, .ref (ad 46)), (1, .int p1), (2, .int p2)]) hx hb dX7_speedFor_4 hl (by decide) rfl (fun ls hl => ?_)
  refine lv_iconst (v := 0) hx hb dX7_speedFor_6 (by decide) ?_
  refine lv_istore (lv' := [(6, .int 0), (4, .long 0), (3, .int (-4)), (0, .ref (ad 46)), (1, .int p1), (2, .int p2)]) hx hb dX7_speedFor_7 hl (by decide) rfl (fun ls hl => ?_)
  obtain ⟨zl1, hf, hzl1⟩ := zb1_i hf
  have hjl1 : ∀ (x17 : Int32), x17 = zl1 → ∀ (H : Heap) (locs : List Loc) (ls : Array Slot), va_P D vwCl (zw 74 (kC cy ad a0) ad I J) H → va_S A s.heap H locs → lv_has ls 9 [(3, .int x17)] → W p l e R s m args below meth c H locs 0 0 Q (F0 m 68 ls []) := by
    intro x17 ez H locs ls hP hS hl
    have hf := hzl1 x17 ez
    refine lv_iload_n hx hb dX7_speedFor_68 rfl (lv_at hl 0 rfl) ?_
    exact hret _ hf _ _ _ _ hP hS dX7_speedFor_69
  refine zl_i (V := (Int32 × Int64 × Int32)) (P := fun v => ∀ (H : Heap) (locs : List Loc) (ls : Array Slot), va_P D vwCl (zw 74 (kC cy ad a0) ad I J) H → va_S A s.heap H locs → lv_has ls 9 [(0, .ref (ad 46)), (1, .int p1), (2, .int p2), (3, .int (v.1)), (4, .long (v.2.1)), (6, .int (v.2.2))] → W p l e R s m args below meth c H locs 0 0 Q (F0 m 9 ls [])) ?_ _ _ hf _ _ _ hP hS (lv_sub hl [3, 4, 5, 2, 1, 0] rfl)
  intro v z hf hcl1 hdl1
  obtain ⟨x2, u3, x4⟩ := v
  intro H locs ls hP hS hl
  replace hf : f_X7_speedFor_L9 I J p1 p2 x2 u3 x4 = some z := hf
  unfold f_X7_speedFor_L9 at hf
  replace hP : va_P D vwCl (zw 74 (kC cy ad a0) ad I J) H := hP
  replace hl : lv_has ls 9 [(0, .ref (ad 46)), (1, .int p1), (2, .int p2), (3, .int x2), (4, .long u3), (6, .int x4)] := hl
  refine lv_iload hx hb dX7_speedFor_9 (lv_at hl 5 rfl) ?_
  refine lv_aload_n hx hb dX7_speedFor_11 rfl (lv_at hl 0 rfl) ?_
  refine va_get (D := D) (ci := 6) (v := .ref (ad 4)) (C := RX7) (T := TX7) (N := 1) hx hb hts hinX7_speedFor_X7 hown E.1 hP 46 (zO.get (oX7_at)) rfl 0 (by decide) (hts (.fieldLink RX7 9 "EdgeAndSpeed$Shop" "bench" "LEdgeAndSpeed$Bench;") (by decide +kernel)) (fun _ h9 => h9) rfl dX7_speedFor_12 ?_
  refine va_getN (D := D) (ci := 0) (v := .int (I 4 9)) (C := RX0) (T := TX0) (N := 17) hx hb hts hinX7_speedFor_X0 hown E.1 hP 4 (zO.get (zBat_o (zBat_C (by decide)))) rfl 9 (by decide) (zNfw_3 E.2.2) (fun _ h9 => h9) rfl dX7_speedFor_15 ?_
  refine lv_icmp_ge (tgt := 68) hx hb dX7_speedFor_18 (by decide) (fun k5 => ?_) (fun k5 => ?_)
  · replace hf := zt k5 hf
    exact hjl1 _ (hdl1 _ (Option.some.inj hf).symm) _ _ _ hP hS (lv_sub hl [3] rfl)
  · replace hf := zf k5 hf
    refine lv_aload_n hx hb dX7_speedFor_21 rfl (lv_at hl 0 rfl) ?_
    refine lv_iload_n hx hb dX7_speedFor_22 rfl (lv_at hl 1 rfl) ?_
    refine lv_iload hx hb dX7_speedFor_23 (lv_at hl 5 rfl) ?_
    obtain ⟨x6, h7, hf⟩ := zb1_e hf
    refine zgo_i (zrunV (As := [.int p1, .int x4]) (rest := []) S (c_X7_mayBe l hD p1 x4 h7) (cwV 2 hts gX7_speedFor_X7_mayBe rfl rfl rfl ddX7_mayBe ⟨Nat.le_trans (Nat.le_of_ble_eq_true rfl) hfr, Nat.le_trans (Nat.le_of_ble_eq_true rfl) hlo⟩) (va_recv E.1 hP (q := (RX7, TX7, 1)) (ci := 6) rfl (zO.get (oX7_at))) E hP hS hl.1 rfl rfl (Nat.le_of_ble_eq_true rfl) dX7_speedFor_25) hS (fun H locs hP hS => ?_)
    refine lv_if_eq (tgt := 62) hx hb dX7_speedFor_28 (by decide) (fun k8 => ?_) (fun k8 => ?_)
    · replace hf := zt k8 hf
      obtain ⟨y9, ey9⟩ := zex (x4 + 1)
      replace hf := zn_s ey9 hf
      refine lv_iinc (v := y9) (lv' := [(6, .int y9), (0, .ref (ad 46)), (1, .int p1), (2, .int p2), (3, .int x2), (4, .long u3)]) hx hb dX7_speedFor_62 hl (k := 5) rfl (by rw [ey9]; rfl) (by decide) rfl (fun ls hl => ?_)
      refine lv_goto (tgt := 9) hx hb dX7_speedFor_65 (by decide) ?_
      exact hcl1 _ (Option.some.inj hf).symm _ _ _ hP hS (lv_sub hl [1, 2, 3, 4, 5, 0] rfl)
    · replace hf := zf k8 hf
      refine lv_aload_n hx hb dX7_speedFor_31 rfl (lv_at hl 0 rfl) ?_
      refine lv_iload_n hx hb dX7_speedFor_32 rfl (lv_at hl 1 rfl) ?_
      refine lv_iload hx hb dX7_speedFor_33 (lv_at hl 5 rfl) ?_
      refine lv_iload_n hx hb dX7_speedFor_35 rfl (lv_at hl 2 rfl) ?_
      obtain ⟨u10, h11, hf⟩ := zb1_e hf
      refine zgo_l (zrunV (As := [.int p1, .int x4, .int p2]) (rest := []) S (c_X7_earned l hD p1 x4 p2 h11) (cwV 3 hts gX7_speedFor_X7_earned rfl rfl rfl ddX7_earned ⟨Nat.le_trans (Nat.le_of_ble_eq_true rfl) hfr, Nat.le_trans (Nat.le_of_ble_eq_true rfl) hlo⟩) (va_recv E.1 hP (q := (RX7, TX7, 1)) (ci := 6) rfl (zO.get (oX7_at))) E hP hS hl.1 rfl rfl (Nat.le_of_ble_eq_true rfl) dX7_speedFor_36) hS (fun H locs hP hS => ?_)
      refine lv_lstore (lv' := [(7, .long u10), (0, .ref (ad 46)), (1, .int p1), (2, .int p2), (3, .int x2), (4, .long u3), (6, .int x4)]) hx hb dX7_speedFor_39 hl (by decide) rfl (fun ls hl => ?_)
      refine lv_iload_n hx hb dX7_speedFor_41 rfl (lv_at hl 4 rfl) ?_
      refine lv_bipush (v := (-4)) hx hb dX7_speedFor_42 (by decide) ?_
      refine lv_icmp_eq (tgt := 55) hx hb dX7_speedFor_44 (by decide) (fun k12 => ?_) (fun k12 => ?_)
      · replace hf := zt k12 hf
        refine lv_iload hx hb dX7_speedFor_55 (lv_at hl 6 rfl) ?_
        refine lv_istore_n (lv' := [(3, .int x4), (7, .long u10), (0, .ref (ad 46)), (1, .int p1), (2, .int p2), (4, .long u3), (6, .int x4)]) hx hb dX7_speedFor_57 rfl hl (by decide) rfl (fun ls hl => ?_)
        refine lv_lload hx hb dX7_speedFor_58 (lv_at hl 1 rfl) ?_
        refine lv_lstore (lv' := [(4, .long u10), (3, .int x4), (7, .long u10), (0, .ref (ad 46)), (1, .int p1), (2, .int p2), (6, .int x4)]) hx hb dX7_speedFor_60 hl (by decide) rfl (fun ls hl => ?_)
        obtain ⟨y13, ey13⟩ := zex (x4 + 1)
        replace hf := zn_s ey13 hf
        refine lv_iinc (v := y13) (lv' := [(6, .int y13), (4, .long u10), (3, .int x4), (7, .long u10), (0, .ref (ad 46)), (1, .int p1), (2, .int p2)]) hx hb dX7_speedFor_62 hl (k := 6) rfl (by rw [ey13]; rfl) (by decide) rfl (fun ls hl => ?_)
        refine lv_goto (tgt := 9) hx hb dX7_speedFor_65 (by decide) ?_
        exact hcl1 _ (Option.some.inj hf).symm _ _ _ hP hS (lv_sub hl [4, 5, 6, 2, 1, 0] rfl)
      · replace hf := zf k12 hf
        refine lv_lload hx hb dX7_speedFor_47 (lv_at hl 0 rfl) ?_
        refine lv_lload hx hb dX7_speedFor_49 (lv_at hl 5 rfl) ?_
        refine W.lcmp hx hb dX7_speedFor_51 ?_
        refine lv_if_le (tgt := 62) hx hb dX7_speedFor_52 (by decide) (fun k14 => ?_) (fun k14 => ?_)
        · replace hf := zt k14 hf
          obtain ⟨y15, ey15⟩ := zex (x4 + 1)
          replace hf := zn_s ey15 hf
          refine lv_iinc (v := y15) (lv' := [(6, .int y15), (7, .long u10), (0, .ref (ad 46)), (1, .int p1), (2, .int p2), (3, .int x2), (4, .long u3)]) hx hb dX7_speedFor_62 hl (k := 6) rfl (by rw [ey15]; rfl) (by decide) rfl (fun ls hl => ?_)
          refine lv_goto (tgt := 9) hx hb dX7_speedFor_65 (by decide) ?_
          exact hcl1 _ (Option.some.inj hf).symm _ _ _ hP hS (lv_sub hl [2, 3, 4, 5, 6, 0] rfl)
        · replace hf := zf k14 hf
          refine lv_iload hx hb dX7_speedFor_55 (lv_at hl 6 rfl) ?_
          refine lv_istore_n (lv' := [(3, .int x4), (7, .long u10), (0, .ref (ad 46)), (1, .int p1), (2, .int p2), (4, .long u3), (6, .int x4)]) hx hb dX7_speedFor_57 rfl hl (by decide) rfl (fun ls hl => ?_)
          refine lv_lload hx hb dX7_speedFor_58 (lv_at hl 1 rfl) ?_
          refine lv_lstore (lv' := [(4, .long u10), (3, .int x4), (7, .long u10), (0, .ref (ad 46)), (1, .int p1), (2, .int p2), (6, .int x4)]) hx hb dX7_speedFor_60 hl (by decide) rfl (fun ls hl => ?_)
          obtain ⟨y16, ey16⟩ := zex (x4 + 1)
          replace hf := zn_s ey16 hf
          refine lv_iinc (v := y16) (lv' := [(6, .int y16), (4, .long u10), (3, .int x4), (7, .long u10), (0, .ref (ad 46)), (1, .int p1), (2, .int p2)]) hx hb dX7_speedFor_62 hl (k := 6) rfl (by rw [ey16]; rfl) (by decide) rfl (fun ls hl => ?_)
          refine lv_goto (tgt := 9) hx hb dX7_speedFor_65 (by decide) ?_
          exact hcl1 _ (Option.some.inj hf).symm _ _ _ hP hS (lv_sub hl [4, 5, 6, 2, 1, 0] rfl)
theorem c_X7_speedFor (l : Launch) {D : va_G} {a0 : Nat → Nat} {A : Nat → Prop} {cy : Nat → ClassId} {ad : Nat → Nat} (hD : zD A 74 ad) {I : zI} {J : zJ} (p1 : Int32) (p2 : Int32) {rx : Int32} (hf : f_X7_speedFor I J p1 p2 = some rx) : Met l yX7_speedFor wsX7_speedFor { frames := 5, cells := 0, slots := 0, locals := 116 } (zPc D a0 A cy [.ref (ad 46), .int p1, .int p2] (zw 74 (kC cy ad a0) ad I J)) (zQi D A rx (zw 74 (kC cy ad a0) ad I J)) 0 0 A :=
  zmet RX7 (by decide) rfl rfl (Nat.le_of_ble_eq_true rfl) (fun p e R s m below meth c Q hfr hlo ls S0 hQ => w_X7_speedFor hfr hlo hD p1 p2 hf S0 (fun tx hq H locs ls pc hP hS hd => by cases hq; exact hQ H locs _ hS (fun hx hb hr hlocks hfree => W.iret hx hb hr (fun t ht hW => ⟨⟨_, (), rfl, rfl, zht ht hP⟩, hS.F ht⟩) hfree hd hlocks)))
theorem ddX7_speedFor : yX7_speedFor.cls = RX7 ∧ yX7_speedFor.cls ≠ "java/lang/invoke/MethodHandle" ∧ yX7_speedFor.cls ≠ "java/lang/invoke/VarHandle" ∧ (parseMethodDescriptor yX7_speedFor.desc).map (fun d => d.parameters.length) = some 2 := by decide +kernel

def f_X11_shop (I : zI) (J : zJ) (p1 : Int32) (p2 : Int32) : Option Int32 := zb1 (f_X0_hasPiece I J 4 p1) (fun x1 => (if x1 = 0 then some (-1) else zb1 (f_X11_within I J p2 1 9999) (fun x4 => (if x4 = 0 then some (-1) else zb1 (f_X7_speedFor I J p1 p2) (fun x7 => some x7)))))
theorem hinX11_shop_X11 : ∀ w ∈ u_ws RX11 TX11 12, w ∈ wsX11_shop := by decide +kernel
set_option maxHeartbeats 4000000 in
set_option maxRecDepth 100000 in
theorem w_X11_shop {p : Program} {l : Launch} {e : Env} {R : Room} {s : State} {m : MethodId} {args : Array Value} {below : List Frame} {meth : Method} {c : Code} {Q : State → Prop} (hfr : 6 ≤ R.frames) (hlo : 144 ≤ R.locals) {D : va_G} {a0 : Nat → Nat} {A : Nat → Prop} {cy : Nat → ClassId} {ad : Nat → Nat} (hD : zD A 74 ad) {I : zI} {J : zJ} (p1 : Int32) (p2 : Int32) {rx : Int32} (hf : f_X11_shop I J p1 p2 = some rx) {ls : Array Slot} (S0 : zSt p m c cX11_shop 3 s args wsX11_shop RX11 D a0 A cy (zw 74 (kC cy ad a0) ad I J) [.ref (ad 0), .int p1, .int p2] ls) (hret : ∀ (tx : Int32), some tx = some rx → ∀ (H : Heap) (locs : List Loc) (ls : Array Slot) (pc : Nat), va_P D vwCl (zw 74 (kC cy ad a0) ad I J) H → va_S A s.heap H locs → decode cX11_shop pc = .ok (.ireturn, 1) → W p l e R s m args below meth c H locs 0 0 Q (F0 m pc ls [.int tx])) : W p l e R s m args below meth c s.heap [] 0 0 Q (F0 m 0 ls []) := by
  obtain ⟨S, E, hP, hl⟩ := S0
  obtain ⟨hx, hb, hml, hown, hts⟩ := id S
  have hS : va_S A s.heap s.heap [] := va_S.rf
  replace hl : lv_has ls 3 [(0, .ref (ad 0)), (1, .int p1), (2, .int p2)] := hl
  unfold f_X11_shop at hf
  refine lv_aload_n hx hb dX11_shop_0 rfl (lv_at hl 0 rfl) ?_
  refine va_get (D := D) (ci := 10) (v := .ref (ad 4)) (C := RX11) (T := TX11) (N := 12) hx hb hts hinX11_shop_X11 hown E.1 hP 0 (zO.get (oX11_at)) rfl 1 (by decide) (hts (.fieldLink RX11 19 "EdgeAndSpeed" "bench" "LEdgeAndSpeed$Bench;") (by decide +kernel)) (fun _ h9 => h9) rfl dX11_shop_1 ?_
  refine lv_iload_n hx hb dX11_shop_4 rfl (lv_at hl 1 rfl) ?_
  obtain ⟨x1, h2, hf⟩ := zb1_e hf
  refine zgo_i (zrunV (As := [.int p1]) (rest := []) S (c_X0_hasPiece l hD 4 (zBat_C (by decide)) p1 h2) (cwV 1 hts gX11_shop_X0_hasPiece rfl rfl rfl ddX0_hasPiece ⟨Nat.le_trans (Nat.le_of_ble_eq_true rfl) hfr, Nat.le_trans (Nat.le_of_ble_eq_true rfl) hlo⟩) (va_recv E.1 hP (q := (RX0, TX0, 17)) (ci := 0) rfl (zO.get (zBat_o (zBat_C (by decide))))) E hP hS hl.1 rfl rfl (Nat.le_of_ble_eq_true rfl) dX11_shop_5) hS (fun H locs hP hS => ?_)
  refine lv_if_eq (tgt := 34) hx hb dX11_shop_8 (by decide) (fun k3 => ?_) (fun k3 => ?_)
  · replace hf := zt k3 hf
    refine lv_iconst (v := (-1)) hx hb dX11_shop_34 (by decide) ?_
    exact hret _ hf _ _ _ _ hP hS dX11_shop_35
  · replace hf := zf k3 hf
    refine lv_iload_n hx hb dX11_shop_11 rfl (lv_at hl 2 rfl) ?_
    refine lv_iconst (v := 1) hx hb dX11_shop_12 (by decide) ?_
    refine lv_sipush (v := 9999) hx hb dX11_shop_13 (by decide) ?_
    obtain ⟨x4, h5, hf⟩ := zb1_e hf
    refine zgo_i (zrunS (As := [.int p2, .int 1, .int 9999]) (rest := []) S (c_X11_within l hD p2 1 9999 h5) (va_cwS 3 hts gX11_shop_X11_within rfl rfl rfl ddX11_within ⟨Nat.le_trans (Nat.le_of_ble_eq_true rfl) hfr, Nat.le_trans (Nat.le_of_ble_eq_true rfl) hlo⟩) E hP hS hl.1 rfl rfl (Nat.le_of_ble_eq_true rfl) dX11_shop_16) hS (fun H locs hP hS => ?_)
    refine lv_if_eq (tgt := 34) hx hb dX11_shop_19 (by decide) (fun k6 => ?_) (fun k6 => ?_)
    · replace hf := zt k6 hf
      refine lv_iconst (v := (-1)) hx hb dX11_shop_34 (by decide) ?_
      exact hret _ hf _ _ _ _ hP hS dX11_shop_35
    · replace hf := zf k6 hf
      refine lv_aload_n hx hb dX11_shop_22 rfl (lv_at hl 0 rfl) ?_
      refine va_get (D := D) (ci := 10) (v := .ref (ad 46)) (C := RX11) (T := TX11) (N := 12) hx hb hts hinX11_shop_X11 hown E.1 hP 0 (zO.get (oX11_at)) rfl 11 (by decide) (hts (.fieldLink RX11 84 "EdgeAndSpeed" "shop" "LEdgeAndSpeed$Shop;") (by decide +kernel)) (fun _ h9 => h9) rfl dX11_shop_23 ?_
      refine lv_iload_n hx hb dX11_shop_26 rfl (lv_at hl 1 rfl) ?_
      refine lv_iload_n hx hb dX11_shop_27 rfl (lv_at hl 2 rfl) ?_
      obtain ⟨x7, h8, hf⟩ := zb1_e hf
      refine zgo_i (zrunV (As := [.int p1, .int p2]) (rest := []) S (c_X7_speedFor l hD p1 p2 h8) (cwV 2 hts gX11_shop_X7_speedFor rfl rfl rfl ddX7_speedFor ⟨Nat.le_trans (Nat.le_of_ble_eq_true rfl) hfr, Nat.le_trans (Nat.le_of_ble_eq_true rfl) hlo⟩) (va_recv E.1 hP (q := (RX7, TX7, 1)) (ci := 6) rfl (zO.get (oX7_at))) E hP hS hl.1 rfl rfl (Nat.le_of_ble_eq_true rfl) dX11_shop_28) hS (fun H locs hP hS => ?_)
      refine lv_goto (tgt := 35) hx hb dX11_shop_31 (by decide) ?_
      exact hret _ hf _ _ _ _ hP hS dX11_shop_35
theorem c_X11_shop (l : Launch) {D : va_G} {a0 : Nat → Nat} {A : Nat → Prop} {cy : Nat → ClassId} {ad : Nat → Nat} (hD : zD A 74 ad) {I : zI} {J : zJ} (p1 : Int32) (p2 : Int32) {rx : Int32} (hf : f_X11_shop I J p1 p2 = some rx) : Met l yX11_shop wsX11_shop { frames := 6, cells := 0, slots := 0, locals := 144 } (zPc D a0 A cy [.ref (ad 0), .int p1, .int p2] (zw 74 (kC cy ad a0) ad I J)) (zQi D A rx (zw 74 (kC cy ad a0) ad I J)) 0 0 A :=
  zmet RX11 (by decide) rfl rfl (Nat.le_of_ble_eq_true rfl) (fun p e R s m below meth c Q hfr hlo ls S0 hQ => w_X11_shop hfr hlo hD p1 p2 hf S0 (fun tx hq H locs ls pc hP hS hd => by cases hq; exact hQ H locs _ hS (fun hx hb hr hlocks hfree => W.iret hx hb hr (fun t ht hW => ⟨⟨_, (), rfl, rfl, zht ht hP⟩, hS.F ht⟩) hfree hd hlocks)))
theorem ddX11_shop : yX11_shop.cls = RX11 ∧ yX11_shop.cls ≠ "java/lang/invoke/MethodHandle" ∧ yX11_shop.cls ≠ "java/lang/invoke/VarHandle" ∧ (parseMethodDescriptor yX11_shop.desc).map (fun d => d.parameters.length) = some 2 := by decide +kernel

def f_X7_manGets (I : zI) (J : zJ) (p1 : Int32) (p2 : Int32) (p3 : Int32) : Option Int64 := zb1 (f_X7_timeOf I J p1 p2) (fun x1 => zb1 (f_X7_perHour I J (6000 * p3.toInt64) x1) (fun u3 => some u3))
set_option maxHeartbeats 4000000 in
set_option maxRecDepth 100000 in
theorem w_X7_manGets {p : Program} {l : Launch} {e : Env} {R : Room} {s : State} {m : MethodId} {args : Array Value} {below : List Frame} {meth : Method} {c : Code} {Q : State → Prop} (hfr : 4 ≤ R.frames) (hlo : 89 ≤ R.locals) {D : va_G} {a0 : Nat → Nat} {A : Nat → Prop} {cy : Nat → ClassId} {ad : Nat → Nat} (hD : zD A 74 ad) {I : zI} {J : zJ} (p1 : Int32) (p2 : Int32) (p3 : Int32) {rx : Int64} (hf : f_X7_manGets I J p1 p2 p3 = some rx) {ls : Array Slot} (S0 : zSt p m c cX7_manGets 4 s args wsX7_manGets RX7 D a0 A cy (zw 74 (kC cy ad a0) ad I J) [.ref (ad 46), .int p1, .int p2, .int p3] ls) (hret : ∀ (tx : Int64), some tx = some rx → ∀ (H : Heap) (locs : List Loc) (ls : Array Slot) (pc : Nat), va_P D vwCl (zw 74 (kC cy ad a0) ad I J) H → va_S A s.heap H locs → decode cX7_manGets pc = .ok (.lreturn, 1) → W p l e R s m args below meth c H locs 0 0 Q (F0 m pc ls [.long tx])) : W p l e R s m args below meth c s.heap [] 0 0 Q (F0 m 0 ls []) := by
  obtain ⟨S, E, hP, hl⟩ := S0
  obtain ⟨hx, hb, hml, hown, hts⟩ := id S
  have hS : va_S A s.heap s.heap [] := va_S.rf
  replace hl : lv_has ls 4 [(0, .ref (ad 46)), (1, .int p1), (2, .int p2), (3, .int p3)] := hl
  unfold f_X7_manGets at hf
  refine lv_ldc2 hx hb hown (hts (.constantLong RX7 40 6000) (by decide +kernel)) dX7_manGets_0 ?_
  refine lv_iload_n hx hb dX7_manGets_3 rfl (lv_at hl 3 rfl) ?_
  refine lv_i2l hx hb dX7_manGets_4 rfl ?_
  refine lv_lmul hx hb dX7_manGets_5 ?_
  refine lv_aload_n hx hb dX7_manGets_6 rfl (lv_at hl 0 rfl) ?_
  refine lv_iload_n hx hb dX7_manGets_7 rfl (lv_at hl 1 rfl) ?_
  refine lv_iload_n hx hb dX7_manGets_8 rfl (lv_at hl 2 rfl) ?_
  obtain ⟨x1, h2, hf⟩ := zb1_e hf
  refine zgo_i (zrunV (As := [.int p1, .int p2]) (rest := [.long (6000 * p3.toInt64)]) S (c_X7_timeOf l hD p1 p2 h2) (cwV 2 hts gX7_manGets_X7_timeOf rfl rfl rfl ddX7_timeOf ⟨Nat.le_trans (Nat.le_of_ble_eq_true rfl) hfr, Nat.le_trans (Nat.le_of_ble_eq_true rfl) hlo⟩) (va_recv E.1 hP (q := (RX7, TX7, 1)) (ci := 6) rfl (zO.get (oX7_at))) E hP hS hl.1 rfl rfl (Nat.le_of_ble_eq_true rfl) dX7_manGets_9) hS (fun H locs hP hS => ?_)
  obtain ⟨u3, h4, hf⟩ := zb1_e hf
  refine zgo_l (zrunS (As := [.long (6000 * p3.toInt64), .int x1]) (rest := []) S (c_X7_perHour l hD (6000 * p3.toInt64) x1 h4) (va_cwS 2 hts gX7_manGets_X7_perHour rfl rfl rfl ddX7_perHour ⟨Nat.le_trans (Nat.le_of_ble_eq_true rfl) hfr, Nat.le_trans (Nat.le_of_ble_eq_true rfl) hlo⟩) E hP hS hl.1 rfl rfl (Nat.le_of_ble_eq_true rfl) dX7_manGets_12) hS (fun H locs hP hS => ?_)
  exact hret _ hf _ _ _ _ hP hS dX7_manGets_15
theorem c_X7_manGets (l : Launch) {D : va_G} {a0 : Nat → Nat} {A : Nat → Prop} {cy : Nat → ClassId} {ad : Nat → Nat} (hD : zD A 74 ad) {I : zI} {J : zJ} (p1 : Int32) (p2 : Int32) (p3 : Int32) {rx : Int64} (hf : f_X7_manGets I J p1 p2 p3 = some rx) : Met l yX7_manGets wsX7_manGets { frames := 4, cells := 0, slots := 0, locals := 89 } (zPc D a0 A cy [.ref (ad 46), .int p1, .int p2, .int p3] (zw 74 (kC cy ad a0) ad I J)) (zQl D A rx (zw 74 (kC cy ad a0) ad I J)) 0 0 A :=
  zmet RX7 (by decide) rfl rfl (Nat.le_of_ble_eq_true rfl) (fun p e R s m below meth c Q hfr hlo ls S0 hQ => w_X7_manGets hfr hlo hD p1 p2 p3 hf S0 (fun tx hq H locs ls pc hP hS hd => by cases hq; exact hQ H locs _ hS (fun hx hb hr hlocks hfree => W.lret hx hb hr (fun t ht hW => ⟨⟨_, (), rfl, rfl, zht ht hP⟩, hS.F ht⟩) hfree hd hlocks)))
theorem ddX7_manGets : yX7_manGets.cls = RX7 ∧ yX7_manGets.cls ≠ "java/lang/invoke/MethodHandle" ∧ yX7_manGets.cls ≠ "java/lang/invoke/VarHandle" ∧ (parseMethodDescriptor yX7_manGets.desc).map (fun d => d.parameters.length) = some 3 := by decide +kernel

def f_X0_inchesOf (I : zI) (J : zJ) (o : Nat) (p1 : Int32) : Option Int32 := zb1 (f_X11_at I J (o + 1) 6 p1) (fun x1 => some x1)
theorem hinX0_inchesOf_X0 : ∀ w ∈ u_ws RX0 TX0 17, w ∈ wsX0_inchesOf := by decide +kernel
set_option maxHeartbeats 4000000 in
set_option maxRecDepth 100000 in
theorem w_X0_inchesOf {p : Program} {l : Launch} {e : Env} {R : Room} {s : State} {m : MethodId} {args : Array Value} {below : List Frame} {meth : Method} {c : Code} {Q : State → Prop} (hfr : 1 ≤ R.frames) (hlo : 21 ≤ R.locals) {D : va_G} {a0 : Nat → Nat} {A : Nat → Prop} {cy : Nat → ClassId} {ad : Nat → Nat} {N : Nat} {K : zK} (hD : zD A N ad) {I : zI} {J : zJ} (o : Nat) (hB : zBat N K cy ad o) (p1 : Int32) {rx : Int32} (hf : f_X0_inchesOf I J o p1 = some rx) {ls : Array Slot} (S0 : zSt p m c cX0_inchesOf 2 s args wsX0_inchesOf RX0 D a0 A cy (zw N K ad I J) [.ref (ad o), .int p1] ls) (hret : ∀ (tx : Int32), some tx = some rx → ∀ (H : Heap) (locs : List Loc) (ls : Array Slot) (pc : Nat), va_P D vwCl (zw N K ad I J) H → va_S A s.heap H locs → decode cX0_inchesOf pc = .ok (.ireturn, 1) → W p l e R s m args below meth c H locs 0 0 Q (F0 m pc ls [.int tx])) : W p l e R s m args below meth c s.heap [] 0 0 Q (F0 m 0 ls []) := by
  obtain ⟨S, E, hP, hl⟩ := S0
  obtain ⟨hx, hb, hml, hown, hts⟩ := id S
  have hS : va_S A s.heap s.heap [] := va_S.rf
  replace hl : lv_has ls 2 [(0, .ref (ad o)), (1, .int p1)] := hl
  unfold f_X0_inchesOf at hf
  refine lv_aload_n hx hb dX0_inchesOf_0 rfl (lv_at hl 0 rfl) ?_
  refine va_get (D := D) (ci := 0) (v := .ref (ad (o + 1))) (C := RX0) (T := TX0) (N := 17) hx hb hts hinX0_inchesOf_X0 hown E.1 hP o (zO.get (zBat_o hB)) rfl 0 (by decide) (hts (.fieldLink RX0 9 "EdgeAndSpeed$Bench" "inches" "[I") (by decide +kernel)) (fun _ h9 => h9) rfl dX0_inchesOf_1 ?_
  refine lv_iload_n hx hb dX0_inchesOf_4 rfl (lv_at hl 1 rfl) ?_
  obtain ⟨x1, h2, hf⟩ := zb1_e hf
  refine zgo_i (zrunSN (As := [.ref (ad (o + 1)), .int p1]) (rest := []) S (c_X11_at l hD (o + 1) 6 (zBat_0 hB) p1 h2) ⟨va_cnB (host := "EdgeAndSpeed") 2 hts gX0_inchesOf_X11_at_n85 rfl rfl rfl (zNmw_1 E.2.2) (hts (.initialized RX11) (by decide +kernel)) ddX11_at ⟨Nat.le_trans (Nat.le_of_ble_eq_true rfl) hfr, Nat.le_trans (Nat.le_of_ble_eq_true rfl) hlo⟩, hts (.static yX11_at) (by decide +kernel), trivial⟩ E hP hS hl.1 rfl rfl (Nat.le_of_ble_eq_true rfl) dX0_inchesOf_5) hS (fun H locs hP hS => ?_)
  exact hret _ hf _ _ _ _ hP hS dX0_inchesOf_8
theorem c_X0_inchesOf (l : Launch) {D : va_G} {a0 : Nat → Nat} {A : Nat → Prop} {cy : Nat → ClassId} {ad : Nat → Nat} {N : Nat} {K : zK} (hD : zD A N ad) {I : zI} {J : zJ} (o : Nat) (hB : zBat N K cy ad o) (p1 : Int32) {rx : Int32} (hf : f_X0_inchesOf I J o p1 = some rx) : Met l yX0_inchesOf wsX0_inchesOf { frames := 1, cells := 0, slots := 0, locals := 21 } (zPc D a0 A cy [.ref (ad o), .int p1] (zw N K ad I J)) (zQi D A rx (zw N K ad I J)) 0 0 A :=
  zmet RX0 (by decide) rfl rfl (Nat.le_of_ble_eq_true rfl) (fun p e R s m below meth c Q hfr hlo ls S0 hQ => w_X0_inchesOf hfr hlo hD o hB p1 hf S0 (fun tx hq H locs ls pc hP hS hd => by cases hq; exact hQ H locs _ hS (fun hx hb hr hlocks hfree => W.iret hx hb hr (fun t ht hW => ⟨⟨_, (), rfl, rfl, zht ht hP⟩, hS.F ht⟩) hfree hd hlocks)))
theorem ddX0_inchesOf : yX0_inchesOf.cls = RX0 ∧ yX0_inchesOf.cls ≠ "java/lang/invoke/MethodHandle" ∧ yX0_inchesOf.cls ≠ "java/lang/invoke/VarHandle" ∧ (parseMethodDescriptor yX0_inchesOf.desc).map (fun d => d.parameters.length) = some 1 := by decide +kernel

def f_X7_speedOfMan_L10 (I : zI) (J : zJ) (p1 : Int32) (p2 : Int32) (p3 : Int32) (x2 : Int32) (u3 : Int64) (x4 : Int32) : Option ((Int32 × Int64 × Int32) ⊕ Int32) := (if (I 4 9) ≤ x4 then some (.inr x2) else zb1 (f_X7_mayBe I J p1 x4) (fun x6 => (if x6 = 0 then zn (x4 + 1) (fun y9 => some (.inl (x2, u3, y9))) else zb1 (f_X7_manGets I J p1 x4 p2) (fun u10 => zb1 (f_X0_inchesOf I J 4 x4) (fun x12 => zn ((u10 - ((6000 * p3.toInt64) * x12.toInt64))) (fun u14 => (if x2 = (-4) then zn (x4 + 1) (fun y16 => some (.inl (x4, u14, y16))) else (if (lg_cmp u14 u3) ≤ 0 then zn (x4 + 1) (fun y18 => some (.inl (x2, u3, y18))) else zn (x4 + 1) (fun y19 => some (.inl (x4, u14, y19)))))))))))
def f_X7_speedOfMan (I : zI) (J : zJ) (p1 : Int32) (p2 : Int32) (p3 : Int32) : Option Int32 := zb1 (zl (fun v : (Int32 × Int64 × Int32) => f_X7_speedOfMan_L10 I J p1 p2 p3 v.1 v.2.1 v.2.2) zF ((-4), 0, 0)) (fun x20 => some x20)
theorem hinX7_speedOfMan_X7 : ∀ w ∈ u_ws RX7 TX7 1, w ∈ wsX7_speedOfMan := by decide +kernel
theorem hinX7_speedOfMan_X0 : ∀ w ∈ u_ws RX0 TX0 17, w ∈ wsX7_speedOfMan := by decide +kernel
set_option maxHeartbeats 4000000 in
set_option maxRecDepth 100000 in
theorem w_X7_speedOfMan {p : Program} {l : Launch} {e : Env} {R : Room} {s : State} {m : MethodId} {args : Array Value} {below : List Frame} {meth : Method} {c : Code} {Q : State → Prop} (hfr : 5 ≤ R.frames) (hlo : 112 ≤ R.locals) {D : va_G} {a0 : Nat → Nat} {A : Nat → Prop} {cy : Nat → ClassId} {ad : Nat → Nat} (hD : zD A 74 ad) {I : zI} {J : zJ} (p1 : Int32) (p2 : Int32) (p3 : Int32) {rx : Int32} (hf : f_X7_speedOfMan I J p1 p2 p3 = some rx) {ls : Array Slot} (S0 : zSt p m c cX7_speedOfMan 10 s args wsX7_speedOfMan RX7 D a0 A cy (zw 74 (kC cy ad a0) ad I J) [.ref (ad 46), .int p1, .int p2, .int p3] ls) (hret : ∀ (tx : Int32), some tx = some rx → ∀ (H : Heap) (locs : List Loc) (ls : Array Slot) (pc : Nat), va_P D vwCl (zw 74 (kC cy ad a0) ad I J) H → va_S A s.heap H locs → decode cX7_speedOfMan pc = .ok (.ireturn, 1) → W p l e R s m args below meth c H locs 0 0 Q (F0 m pc ls [.int tx])) : W p l e R s m args below meth c s.heap [] 0 0 Q (F0 m 0 ls []) := by
  obtain ⟨S, E, hP, hl⟩ := S0
  obtain ⟨hx, hb, hml, hown, hts⟩ := id S
  have hS : va_S A s.heap s.heap [] := va_S.rf
  replace hl : lv_has ls 10 [(0, .ref (ad 46)), (1, .int p1), (2, .int p2), (3, .int p3)] := hl
  unfold f_X7_speedOfMan at hf
  refine lv_bipush (v := (-4)) hx hb dX7_speedOfMan_0 (by decide) ?_
  refine lv_istore (lv' := [(4, .int (-4)), (0, .ref (ad 46)), (1, .int p1), (2, .int p2), (3, .int p3)]) hx hb dX7_speedOfMan_2 hl (by decide) rfl (fun ls hl => ?_)
  refine lv_lconst (v := 0) hx hb dX7_speedOfMan_4 (by decide) ?_
  refine lv_lstore (lv' := [(5, .long 0), (4, .int (-4)), (0, .ref (ad 46)), (1, .int p1), (2, .int p2), (3, .int p3)]) hx hb dX7_speedOfMan_5 hl (by decide) rfl (fun ls hl => ?_)
  refine lv_iconst (v := 0) hx hb dX7_speedOfMan_7 (by decide) ?_
  refine lv_istore (lv' := [(7, .int 0), (5, .long 0), (4, .int (-4)), (0, .ref (ad 46)), (1, .int p1), (2, .int p2), (3, .int p3)]) hx hb dX7_speedOfMan_8 hl (by decide) rfl (fun ls hl => ?_)
  obtain ⟨zl1, hf, hzl1⟩ := zb1_i hf
  have hjl1 : ∀ (x20 : Int32), x20 = zl1 → ∀ (H : Heap) (locs : List Loc) (ls : Array Slot), va_P D vwCl (zw 74 (kC cy ad a0) ad I J) H → va_S A s.heap H locs → lv_has ls 10 [(4, .int x20)] → W p l e R s m args below meth c H locs 0 0 Q (F0 m 89 ls []) := by
    intro x20 ez H locs ls hP hS hl
    have hf := hzl1 x20 ez
    refine lv_iload hx hb dX7_speedOfMan_89 (lv_at hl 0 rfl) ?_
    exact hret _ hf _ _ _ _ hP hS dX7_speedOfMan_91
  refine zl_i (V := (Int32 × Int64 × Int32)) (P := fun v => ∀ (H : Heap) (locs : List Loc) (ls : Array Slot), va_P D vwCl (zw 74 (kC cy ad a0) ad I J) H → va_S A s.heap H locs → lv_has ls 10 [(0, .ref (ad 46)), (1, .int p1), (2, .int p2), (3, .int p3), (4, .int (v.1)), (5, .long (v.2.1)), (7, .int (v.2.2))] → W p l e R s m args below meth c H locs 0 0 Q (F0 m 10 ls [])) ?_ _ _ hf _ _ _ hP hS (lv_sub hl [3, 4, 5, 6, 2, 1, 0] rfl)
  intro v z hf hcl1 hdl1
  obtain ⟨x2, u3, x4⟩ := v
  intro H locs ls hP hS hl
  replace hf : f_X7_speedOfMan_L10 I J p1 p2 p3 x2 u3 x4 = some z := hf
  unfold f_X7_speedOfMan_L10 at hf
  replace hP : va_P D vwCl (zw 74 (kC cy ad a0) ad I J) H := hP
  replace hl : lv_has ls 10 [(0, .ref (ad 46)), (1, .int p1), (2, .int p2), (3, .int p3), (4, .int x2), (5, .long u3), (7, .int x4)] := hl
  refine lv_iload hx hb dX7_speedOfMan_10 (lv_at hl 6 rfl) ?_
  refine lv_aload_n hx hb dX7_speedOfMan_12 rfl (lv_at hl 0 rfl) ?_
  refine va_get (D := D) (ci := 6) (v := .ref (ad 4)) (C := RX7) (T := TX7) (N := 1) hx hb hts hinX7_speedOfMan_X7 hown E.1 hP 46 (zO.get (oX7_at)) rfl 0 (by decide) (hts (.fieldLink RX7 9 "EdgeAndSpeed$Shop" "bench" "LEdgeAndSpeed$Bench;") (by decide +kernel)) (fun _ h9 => h9) rfl dX7_speedOfMan_13 ?_
  refine va_getN (D := D) (ci := 0) (v := .int (I 4 9)) (C := RX0) (T := TX0) (N := 17) hx hb hts hinX7_speedOfMan_X0 hown E.1 hP 4 (zO.get (zBat_o (zBat_C (by decide)))) rfl 9 (by decide) (zNfw_3 E.2.2) (fun _ h9 => h9) rfl dX7_speedOfMan_16 ?_
  refine lv_icmp_ge (tgt := 89) hx hb dX7_speedOfMan_19 (by decide) (fun k5 => ?_) (fun k5 => ?_)
  · replace hf := zt k5 hf
    exact hjl1 _ (hdl1 _ (Option.some.inj hf).symm) _ _ _ hP hS (lv_sub hl [4] rfl)
  · replace hf := zf k5 hf
    refine lv_aload_n hx hb dX7_speedOfMan_22 rfl (lv_at hl 0 rfl) ?_
    refine lv_iload_n hx hb dX7_speedOfMan_23 rfl (lv_at hl 1 rfl) ?_
    refine lv_iload hx hb dX7_speedOfMan_24 (lv_at hl 6 rfl) ?_
    obtain ⟨x6, h7, hf⟩ := zb1_e hf
    refine zgo_i (zrunV (As := [.int p1, .int x4]) (rest := []) S (c_X7_mayBe l hD p1 x4 h7) (cwV 2 hts gX7_speedOfMan_X7_mayBe rfl rfl rfl ddX7_mayBe ⟨Nat.le_trans (Nat.le_of_ble_eq_true rfl) hfr, Nat.le_trans (Nat.le_of_ble_eq_true rfl) hlo⟩) (va_recv E.1 hP (q := (RX7, TX7, 1)) (ci := 6) rfl (zO.get (oX7_at))) E hP hS hl.1 rfl rfl (Nat.le_of_ble_eq_true rfl) dX7_speedOfMan_26) hS (fun H locs hP hS => ?_)
    refine lv_if_eq (tgt := 83) hx hb dX7_speedOfMan_29 (by decide) (fun k8 => ?_) (fun k8 => ?_)
    · replace hf := zt k8 hf
      obtain ⟨y9, ey9⟩ := zex (x4 + 1)
      replace hf := zn_s ey9 hf
      refine lv_iinc (v := y9) (lv' := [(7, .int y9), (0, .ref (ad 46)), (1, .int p1), (2, .int p2), (3, .int p3), (4, .int x2), (5, .long u3)]) hx hb dX7_speedOfMan_83 hl (k := 6) rfl (by rw [ey9]; rfl) (by decide) rfl (fun ls hl => ?_)
      refine lv_goto (tgt := 10) hx hb dX7_speedOfMan_86 (by decide) ?_
      exact hcl1 _ (Option.some.inj hf).symm _ _ _ hP hS (lv_sub hl [1, 2, 3, 4, 5, 6, 0] rfl)
    · replace hf := zf k8 hf
      refine lv_aload_n hx hb dX7_speedOfMan_32 rfl (lv_at hl 0 rfl) ?_
      refine lv_iload_n hx hb dX7_speedOfMan_33 rfl (lv_at hl 1 rfl) ?_
      refine lv_iload hx hb dX7_speedOfMan_34 (lv_at hl 6 rfl) ?_
      refine lv_iload_n hx hb dX7_speedOfMan_36 rfl (lv_at hl 2 rfl) ?_
      obtain ⟨u10, h11, hf⟩ := zb1_e hf
      refine zgo_l (zrunV (As := [.int p1, .int x4, .int p2]) (rest := []) S (c_X7_manGets l hD p1 x4 p2 h11) (cwV 3 hts gX7_speedOfMan_X7_manGets rfl rfl rfl ddX7_manGets ⟨Nat.le_trans (Nat.le_of_ble_eq_true rfl) hfr, Nat.le_trans (Nat.le_of_ble_eq_true rfl) hlo⟩) (va_recv E.1 hP (q := (RX7, TX7, 1)) (ci := 6) rfl (zO.get (oX7_at))) E hP hS hl.1 rfl rfl (Nat.le_of_ble_eq_true rfl) dX7_speedOfMan_37) hS (fun H locs hP hS => ?_)
      refine lv_ldc2 hx hb hown (hts (.constantLong RX7 40 6000) (by decide +kernel)) dX7_speedOfMan_40 ?_
      refine lv_iload_n hx hb dX7_speedOfMan_43 rfl (lv_at hl 3 rfl) ?_
      refine lv_i2l hx hb dX7_speedOfMan_44 rfl ?_
      refine lv_lmul hx hb dX7_speedOfMan_45 ?_
      refine lv_aload_n hx hb dX7_speedOfMan_46 rfl (lv_at hl 0 rfl) ?_
      refine va_get (D := D) (ci := 6) (v := .ref (ad 4)) (C := RX7) (T := TX7) (N := 1) hx hb hts hinX7_speedOfMan_X7 hown E.1 hP 46 (zO.get (oX7_at)) rfl 0 (by decide) (hts (.fieldLink RX7 9 "EdgeAndSpeed$Shop" "bench" "LEdgeAndSpeed$Bench;") (by decide +kernel)) (fun _ h9 => h9) rfl dX7_speedOfMan_47 ?_
      refine lv_iload hx hb dX7_speedOfMan_50 (lv_at hl 6 rfl) ?_
      obtain ⟨x12, h13, hf⟩ := zb1_e hf
      refine zgo_i (zrunV (As := [.int x4]) (rest := [.long (6000 * p3.toInt64), .long u10]) S (c_X0_inchesOf l hD 4 (zBat_C (by decide)) x4 h13) (cwV 1 hts gX7_speedOfMan_X0_inchesOf rfl rfl rfl ddX0_inchesOf ⟨Nat.le_trans (Nat.le_of_ble_eq_true rfl) hfr, Nat.le_trans (Nat.le_of_ble_eq_true rfl) hlo⟩) (va_recv E.1 hP (q := (RX0, TX0, 17)) (ci := 0) rfl (zO.get (zBat_o (zBat_C (by decide))))) E hP hS hl.1 rfl rfl (Nat.le_of_ble_eq_true rfl) dX7_speedOfMan_52) hS (fun H locs hP hS => ?_)
      refine lv_i2l hx hb dX7_speedOfMan_55 rfl ?_
      refine lv_lmul hx hb dX7_speedOfMan_56 ?_
      refine lv_lsub hx hb dX7_speedOfMan_57 ?_
      refine lv_topl (fun u14 eu14 => ?_)
      replace hf := zn_s eu14 hf
      refine lv_lstore (lv' := [(8, .long u14), (0, .ref (ad 46)), (1, .int p1), (2, .int p2), (3, .int p3), (4, .int x2), (5, .long u3), (7, .int x4)]) hx hb dX7_speedOfMan_58 hl (by decide) rfl (fun ls hl => ?_)
      refine lv_iload hx hb dX7_speedOfMan_60 (lv_at hl 5 rfl) ?_
      refine lv_bipush (v := (-4)) hx hb dX7_speedOfMan_62 (by decide) ?_
      refine lv_icmp_eq (tgt := 75) hx hb dX7_speedOfMan_64 (by decide) (fun k15 => ?_) (fun k15 => ?_)
      · replace hf := zt k15 hf
        refine lv_iload hx hb dX7_speedOfMan_75 (lv_at hl 7 rfl) ?_
        refine lv_istore (lv' := [(4, .int x4), (8, .long u14), (0, .ref (ad 46)), (1, .int p1), (2, .int p2), (3, .int p3), (5, .long u3), (7, .int x4)]) hx hb dX7_speedOfMan_77 hl (by decide) rfl (fun ls hl => ?_)
        refine lv_lload hx hb dX7_speedOfMan_79 (lv_at hl 1 rfl) ?_
        refine lv_lstore (lv' := [(5, .long u14), (4, .int x4), (8, .long u14), (0, .ref (ad 46)), (1, .int p1), (2, .int p2), (3, .int p3), (7, .int x4)]) hx hb dX7_speedOfMan_81 hl (by decide) rfl (fun ls hl => ?_)
        obtain ⟨y16, ey16⟩ := zex (x4 + 1)
        replace hf := zn_s ey16 hf
        refine lv_iinc (v := y16) (lv' := [(7, .int y16), (5, .long u14), (4, .int x4), (8, .long u14), (0, .ref (ad 46)), (1, .int p1), (2, .int p2), (3, .int p3)]) hx hb dX7_speedOfMan_83 hl (k := 7) rfl (by rw [ey16]; rfl) (by decide) rfl (fun ls hl => ?_)
        refine lv_goto (tgt := 10) hx hb dX7_speedOfMan_86 (by decide) ?_
        exact hcl1 _ (Option.some.inj hf).symm _ _ _ hP hS (lv_sub hl [4, 5, 6, 7, 2, 1, 0] rfl)
      · replace hf := zf k15 hf
        refine lv_lload hx hb dX7_speedOfMan_67 (lv_at hl 0 rfl) ?_
        refine lv_lload hx hb dX7_speedOfMan_69 (lv_at hl 6 rfl) ?_
        refine W.lcmp hx hb dX7_speedOfMan_71 ?_
        refine lv_if_le (tgt := 83) hx hb dX7_speedOfMan_72 (by decide) (fun k17 => ?_) (fun k17 => ?_)
        · replace hf := zt k17 hf
          obtain ⟨y18, ey18⟩ := zex (x4 + 1)
          replace hf := zn_s ey18 hf
          refine lv_iinc (v := y18) (lv' := [(7, .int y18), (8, .long u14), (0, .ref (ad 46)), (1, .int p1), (2, .int p2), (3, .int p3), (4, .int x2), (5, .long u3)]) hx hb dX7_speedOfMan_83 hl (k := 7) rfl (by rw [ey18]; rfl) (by decide) rfl (fun ls hl => ?_)
          refine lv_goto (tgt := 10) hx hb dX7_speedOfMan_86 (by decide) ?_
          exact hcl1 _ (Option.some.inj hf).symm _ _ _ hP hS (lv_sub hl [2, 3, 4, 5, 6, 7, 0] rfl)
        · replace hf := zf k17 hf
          refine lv_iload hx hb dX7_speedOfMan_75 (lv_at hl 7 rfl) ?_
          refine lv_istore (lv' := [(4, .int x4), (8, .long u14), (0, .ref (ad 46)), (1, .int p1), (2, .int p2), (3, .int p3), (5, .long u3), (7, .int x4)]) hx hb dX7_speedOfMan_77 hl (by decide) rfl (fun ls hl => ?_)
          refine lv_lload hx hb dX7_speedOfMan_79 (lv_at hl 1 rfl) ?_
          refine lv_lstore (lv' := [(5, .long u14), (4, .int x4), (8, .long u14), (0, .ref (ad 46)), (1, .int p1), (2, .int p2), (3, .int p3), (7, .int x4)]) hx hb dX7_speedOfMan_81 hl (by decide) rfl (fun ls hl => ?_)
          obtain ⟨y19, ey19⟩ := zex (x4 + 1)
          replace hf := zn_s ey19 hf
          refine lv_iinc (v := y19) (lv' := [(7, .int y19), (5, .long u14), (4, .int x4), (8, .long u14), (0, .ref (ad 46)), (1, .int p1), (2, .int p2), (3, .int p3)]) hx hb dX7_speedOfMan_83 hl (k := 7) rfl (by rw [ey19]; rfl) (by decide) rfl (fun ls hl => ?_)
          refine lv_goto (tgt := 10) hx hb dX7_speedOfMan_86 (by decide) ?_
          exact hcl1 _ (Option.some.inj hf).symm _ _ _ hP hS (lv_sub hl [4, 5, 6, 7, 2, 1, 0] rfl)
theorem c_X7_speedOfMan (l : Launch) {D : va_G} {a0 : Nat → Nat} {A : Nat → Prop} {cy : Nat → ClassId} {ad : Nat → Nat} (hD : zD A 74 ad) {I : zI} {J : zJ} (p1 : Int32) (p2 : Int32) (p3 : Int32) {rx : Int32} (hf : f_X7_speedOfMan I J p1 p2 p3 = some rx) : Met l yX7_speedOfMan wsX7_speedOfMan { frames := 5, cells := 0, slots := 0, locals := 112 } (zPc D a0 A cy [.ref (ad 46), .int p1, .int p2, .int p3] (zw 74 (kC cy ad a0) ad I J)) (zQi D A rx (zw 74 (kC cy ad a0) ad I J)) 0 0 A :=
  zmet RX7 (by decide) rfl rfl (Nat.le_of_ble_eq_true rfl) (fun p e R s m below meth c Q hfr hlo ls S0 hQ => w_X7_speedOfMan hfr hlo hD p1 p2 p3 hf S0 (fun tx hq H locs ls pc hP hS hd => by cases hq; exact hQ H locs _ hS (fun hx hb hr hlocks hfree => W.iret hx hb hr (fun t ht hW => ⟨⟨_, (), rfl, rfl, zht ht hP⟩, hS.F ht⟩) hfree hd hlocks)))
theorem ddX7_speedOfMan : yX7_speedOfMan.cls = RX7 ∧ yX7_speedOfMan.cls ≠ "java/lang/invoke/MethodHandle" ∧ yX7_speedOfMan.cls ≠ "java/lang/invoke/VarHandle" ∧ (parseMethodDescriptor yX7_speedOfMan.desc).map (fun d => d.parameters.length) = some 3 := by decide +kernel

def f_X7_leftToShop (I : zI) (J : zJ) (p1 : Int32) (p2 : Int32) (p3 : Int32) : Option Int64 := zb1 (f_X7_earned I J p1 p2 1) (fun u1 => zb1 (f_X7_manGets I J p1 p2 p3) (fun u3 => some (u1 - u3)))
set_option maxHeartbeats 4000000 in
set_option maxRecDepth 100000 in
theorem w_X7_leftToShop {p : Program} {l : Launch} {e : Env} {R : Room} {s : State} {m : MethodId} {args : Array Value} {below : List Frame} {meth : Method} {c : Code} {Q : State → Prop} (hfr : 5 ≤ R.frames) (hlo : 116 ≤ R.locals) {D : va_G} {a0 : Nat → Nat} {A : Nat → Prop} {cy : Nat → ClassId} {ad : Nat → Nat} (hD : zD A 74 ad) {I : zI} {J : zJ} (p1 : Int32) (p2 : Int32) (p3 : Int32) {rx : Int64} (hf : f_X7_leftToShop I J p1 p2 p3 = some rx) {ls : Array Slot} (S0 : zSt p m c cX7_leftToShop 4 s args wsX7_leftToShop RX7 D a0 A cy (zw 74 (kC cy ad a0) ad I J) [.ref (ad 46), .int p1, .int p2, .int p3] ls) (hret : ∀ (tx : Int64), some tx = some rx → ∀ (H : Heap) (locs : List Loc) (ls : Array Slot) (pc : Nat), va_P D vwCl (zw 74 (kC cy ad a0) ad I J) H → va_S A s.heap H locs → decode cX7_leftToShop pc = .ok (.lreturn, 1) → W p l e R s m args below meth c H locs 0 0 Q (F0 m pc ls [.long tx])) : W p l e R s m args below meth c s.heap [] 0 0 Q (F0 m 0 ls []) := by
  obtain ⟨S, E, hP, hl⟩ := S0
  obtain ⟨hx, hb, hml, hown, hts⟩ := id S
  have hS : va_S A s.heap s.heap [] := va_S.rf
  replace hl : lv_has ls 4 [(0, .ref (ad 46)), (1, .int p1), (2, .int p2), (3, .int p3)] := hl
  unfold f_X7_leftToShop at hf
  refine lv_aload_n hx hb dX7_leftToShop_0 rfl (lv_at hl 0 rfl) ?_
  refine lv_iload_n hx hb dX7_leftToShop_1 rfl (lv_at hl 1 rfl) ?_
  refine lv_iload_n hx hb dX7_leftToShop_2 rfl (lv_at hl 2 rfl) ?_
  refine lv_iconst (v := 1) hx hb dX7_leftToShop_3 (by decide) ?_
  obtain ⟨u1, h2, hf⟩ := zb1_e hf
  refine zgo_l (zrunV (As := [.int p1, .int p2, .int 1]) (rest := []) S (c_X7_earned l hD p1 p2 1 h2) (cwV 3 hts gX7_leftToShop_X7_earned rfl rfl rfl ddX7_earned ⟨Nat.le_trans (Nat.le_of_ble_eq_true rfl) hfr, Nat.le_trans (Nat.le_of_ble_eq_true rfl) hlo⟩) (va_recv E.1 hP (q := (RX7, TX7, 1)) (ci := 6) rfl (zO.get (oX7_at))) E hP hS hl.1 rfl rfl (Nat.le_of_ble_eq_true rfl) dX7_leftToShop_4) hS (fun H locs hP hS => ?_)
  refine lv_aload_n hx hb dX7_leftToShop_7 rfl (lv_at hl 0 rfl) ?_
  refine lv_iload_n hx hb dX7_leftToShop_8 rfl (lv_at hl 1 rfl) ?_
  refine lv_iload_n hx hb dX7_leftToShop_9 rfl (lv_at hl 2 rfl) ?_
  refine lv_iload_n hx hb dX7_leftToShop_10 rfl (lv_at hl 3 rfl) ?_
  obtain ⟨u3, h4, hf⟩ := zb1_e hf
  refine zgo_l (zrunV (As := [.int p1, .int p2, .int p3]) (rest := [.long u1]) S (c_X7_manGets l hD p1 p2 p3 h4) (cwV 3 hts gX7_leftToShop_X7_manGets rfl rfl rfl ddX7_manGets ⟨Nat.le_trans (Nat.le_of_ble_eq_true rfl) hfr, Nat.le_trans (Nat.le_of_ble_eq_true rfl) hlo⟩) (va_recv E.1 hP (q := (RX7, TX7, 1)) (ci := 6) rfl (zO.get (oX7_at))) E hP hS hl.1 rfl rfl (Nat.le_of_ble_eq_true rfl) dX7_leftToShop_11) hS (fun H locs hP hS => ?_)
  refine lv_lsub hx hb dX7_leftToShop_14 ?_
  exact hret _ hf _ _ _ _ hP hS dX7_leftToShop_15
theorem c_X7_leftToShop (l : Launch) {D : va_G} {a0 : Nat → Nat} {A : Nat → Prop} {cy : Nat → ClassId} {ad : Nat → Nat} (hD : zD A 74 ad) {I : zI} {J : zJ} (p1 : Int32) (p2 : Int32) (p3 : Int32) {rx : Int64} (hf : f_X7_leftToShop I J p1 p2 p3 = some rx) : Met l yX7_leftToShop wsX7_leftToShop { frames := 5, cells := 0, slots := 0, locals := 116 } (zPc D a0 A cy [.ref (ad 46), .int p1, .int p2, .int p3] (zw 74 (kC cy ad a0) ad I J)) (zQl D A rx (zw 74 (kC cy ad a0) ad I J)) 0 0 A :=
  zmet RX7 (by decide) rfl rfl (Nat.le_of_ble_eq_true rfl) (fun p e R s m below meth c Q hfr hlo ls S0 hQ => w_X7_leftToShop hfr hlo hD p1 p2 p3 hf S0 (fun tx hq H locs ls pc hP hS hd => by cases hq; exact hQ H locs _ hS (fun hx hb hr hlocks hfree => W.lret hx hb hr (fun t ht hW => ⟨⟨_, (), rfl, rfl, zht ht hP⟩, hS.F ht⟩) hfree hd hlocks)))
theorem ddX7_leftToShop : yX7_leftToShop.cls = RX7 ∧ yX7_leftToShop.cls ≠ "java/lang/invoke/MethodHandle" ∧ yX7_leftToShop.cls ≠ "java/lang/invoke/VarHandle" ∧ (parseMethodDescriptor yX7_leftToShop.desc).map (fun d => d.parameters.length) = some 3 := by decide +kernel

def f_X11_pay (I : zI) (J : zJ) (p1 : Int32) (p2 : Int32) (p3 : Int32) (p4 : Int32) : Option Int64 := zb1 (f_X0_hasPiece I J 4 p1) (fun x1 => (if x1 = 0 then (if p4 = 1 then some (-9223372036854775808) else some (-1)) else zb1 (f_X11_within I J p2 0 99) (fun x5 => (if x5 = 0 then (if p4 = 1 then some (-9223372036854775808) else some (-1)) else zb1 (f_X11_within I J p3 0 99) (fun x9 => (if x9 = 0 then (if p4 = 1 then some (-9223372036854775808) else some (-1)) else zb1 (f_X11_within I J p4 0 1) (fun x13 => (if x13 = 0 then (if p4 = 1 then some (-9223372036854775808) else some (-1)) else zb1 (f_X7_speedOfMan I J p1 p2 p3) (fun x16 => (if 0 ≤ x16 then (if p4 = 1 then zb1 (f_X7_leftToShop I J p1 x16 p2) (fun u20 => some u20) else some (x16.toInt64)) else (if p4 = 1 then some (-9223372036854775804) else some (-4))))))))))))
theorem hinX11_pay_X11 : ∀ w ∈ u_ws RX11 TX11 12, w ∈ wsX11_pay := by decide +kernel
set_option maxHeartbeats 4000000 in
set_option maxRecDepth 100000 in
theorem w_X11_pay {p : Program} {l : Launch} {e : Env} {R : Room} {s : State} {m : MethodId} {args : Array Value} {below : List Frame} {meth : Method} {c : Code} {Q : State → Prop} (hfr : 6 ≤ R.frames) (hlo : 141 ≤ R.locals) {D : va_G} {a0 : Nat → Nat} {A : Nat → Prop} {cy : Nat → ClassId} {ad : Nat → Nat} (hD : zD A 74 ad) {I : zI} {J : zJ} (p1 : Int32) (p2 : Int32) (p3 : Int32) (p4 : Int32) {rx : Int64} (hf : f_X11_pay I J p1 p2 p3 p4 = some rx) {ls : Array Slot} (S0 : zSt p m c cX11_pay 6 s args wsX11_pay RX11 D a0 A cy (zw 74 (kC cy ad a0) ad I J) [.ref (ad 0), .int p1, .int p2, .int p3, .int p4] ls) (hret : ∀ (tx : Int64), some tx = some rx → ∀ (H : Heap) (locs : List Loc) (ls : Array Slot) (pc : Nat), va_P D vwCl (zw 74 (kC cy ad a0) ad I J) H → va_S A s.heap H locs → decode cX11_pay pc = .ok (.lreturn, 1) → W p l e R s m args below meth c H locs 0 0 Q (F0 m pc ls [.long tx])) : W p l e R s m args below meth c s.heap [] 0 0 Q (F0 m 0 ls []) := by
  obtain ⟨S, E, hP, hl⟩ := S0
  obtain ⟨hx, hb, hml, hown, hts⟩ := id S
  have hS : va_S A s.heap s.heap [] := va_S.rf
  replace hl : lv_has ls 6 [(0, .ref (ad 0)), (1, .int p1), (2, .int p2), (3, .int p3), (4, .int p4)] := hl
  unfold f_X11_pay at hf
  refine lv_aload_n hx hb dX11_pay_0 rfl (lv_at hl 0 rfl) ?_
  refine va_get (D := D) (ci := 10) (v := .ref (ad 4)) (C := RX11) (T := TX11) (N := 12) hx hb hts hinX11_pay_X11 hown E.1 hP 0 (zO.get (oX11_at)) rfl 1 (by decide) (hts (.fieldLink RX11 19 "EdgeAndSpeed" "bench" "LEdgeAndSpeed$Bench;") (by decide +kernel)) (fun _ h9 => h9) rfl dX11_pay_1 ?_
  refine lv_iload_n hx hb dX11_pay_4 rfl (lv_at hl 1 rfl) ?_
  obtain ⟨x1, h2, hf⟩ := zb1_e hf
  refine zgo_i (zrunV (As := [.int p1]) (rest := []) S (c_X0_hasPiece l hD 4 (zBat_C (by decide)) p1 h2) (cwV 1 hts gX11_pay_X0_hasPiece rfl rfl rfl ddX0_hasPiece ⟨Nat.le_trans (Nat.le_of_ble_eq_true rfl) hfr, Nat.le_trans (Nat.le_of_ble_eq_true rfl) hlo⟩) (va_recv E.1 hP (q := (RX0, TX0, 17)) (ci := 0) rfl (zO.get (zBat_o (zBat_C (by decide))))) E hP hS hl.1 rfl rfl (Nat.le_of_ble_eq_true rfl) dX11_pay_5) hS (fun H locs hP hS => ?_)
  refine lv_if_eq (tgt := 41) hx hb dX11_pay_8 (by decide) (fun k3 => ?_) (fun k3 => ?_)
  · replace hf := zt k3 hf
    refine lv_iload hx hb dX11_pay_41 (lv_at hl 4 rfl) ?_
    refine lv_iconst (v := 1) hx hb dX11_pay_43 (by decide) ?_
    refine lv_icmp_ne (tgt := 53) hx hb dX11_pay_44 (by decide) (fun k4 => ?_) (fun k4 => ?_)
    · replace hf := zf k4 hf
      refine lv_ldc2 hx hb hown (hts (.constantLong RX11 185 (-1)) (by decide +kernel)) dX11_pay_53 ?_
      exact hret _ hf _ _ _ _ hP hS dX11_pay_56
    · replace hf := zt k4 hf
      refine lv_ldc2 hx hb hown (hts (.constantLong RX11 169 (-9223372036854775808)) (by decide +kernel)) dX11_pay_47 ?_
      refine lv_goto (tgt := 56) hx hb dX11_pay_50 (by decide) ?_
      exact hret _ hf _ _ _ _ hP hS dX11_pay_56
  · replace hf := zf k3 hf
    refine lv_iload_n hx hb dX11_pay_11 rfl (lv_at hl 2 rfl) ?_
    refine lv_iconst (v := 0) hx hb dX11_pay_12 (by decide) ?_
    refine lv_bipush (v := 99) hx hb dX11_pay_13 (by decide) ?_
    obtain ⟨x5, h6, hf⟩ := zb1_e hf
    refine zgo_i (zrunS (As := [.int p2, .int 0, .int 99]) (rest := []) S (c_X11_within l hD p2 0 99 h6) (va_cwS 3 hts gX11_pay_X11_within rfl rfl rfl ddX11_within ⟨Nat.le_trans (Nat.le_of_ble_eq_true rfl) hfr, Nat.le_trans (Nat.le_of_ble_eq_true rfl) hlo⟩) E hP hS hl.1 rfl rfl (Nat.le_of_ble_eq_true rfl) dX11_pay_15) hS (fun H locs hP hS => ?_)
    refine lv_if_eq (tgt := 41) hx hb dX11_pay_18 (by decide) (fun k7 => ?_) (fun k7 => ?_)
    · replace hf := zt k7 hf
      refine lv_iload hx hb dX11_pay_41 (lv_at hl 4 rfl) ?_
      refine lv_iconst (v := 1) hx hb dX11_pay_43 (by decide) ?_
      refine lv_icmp_ne (tgt := 53) hx hb dX11_pay_44 (by decide) (fun k8 => ?_) (fun k8 => ?_)
      · replace hf := zf k8 hf
        refine lv_ldc2 hx hb hown (hts (.constantLong RX11 185 (-1)) (by decide +kernel)) dX11_pay_53 ?_
        exact hret _ hf _ _ _ _ hP hS dX11_pay_56
      · replace hf := zt k8 hf
        refine lv_ldc2 hx hb hown (hts (.constantLong RX11 169 (-9223372036854775808)) (by decide +kernel)) dX11_pay_47 ?_
        refine lv_goto (tgt := 56) hx hb dX11_pay_50 (by decide) ?_
        exact hret _ hf _ _ _ _ hP hS dX11_pay_56
    · replace hf := zf k7 hf
      refine lv_iload_n hx hb dX11_pay_21 rfl (lv_at hl 3 rfl) ?_
      refine lv_iconst (v := 0) hx hb dX11_pay_22 (by decide) ?_
      refine lv_bipush (v := 99) hx hb dX11_pay_23 (by decide) ?_
      obtain ⟨x9, h10, hf⟩ := zb1_e hf
      refine zgo_i (zrunS (As := [.int p3, .int 0, .int 99]) (rest := []) S (c_X11_within l hD p3 0 99 h10) (va_cwS 3 hts gX11_pay_X11_within rfl rfl rfl ddX11_within ⟨Nat.le_trans (Nat.le_of_ble_eq_true rfl) hfr, Nat.le_trans (Nat.le_of_ble_eq_true rfl) hlo⟩) E hP hS hl.1 rfl rfl (Nat.le_of_ble_eq_true rfl) dX11_pay_25) hS (fun H locs hP hS => ?_)
      refine lv_if_eq (tgt := 41) hx hb dX11_pay_28 (by decide) (fun k11 => ?_) (fun k11 => ?_)
      · replace hf := zt k11 hf
        refine lv_iload hx hb dX11_pay_41 (lv_at hl 4 rfl) ?_
        refine lv_iconst (v := 1) hx hb dX11_pay_43 (by decide) ?_
        refine lv_icmp_ne (tgt := 53) hx hb dX11_pay_44 (by decide) (fun k12 => ?_) (fun k12 => ?_)
        · replace hf := zf k12 hf
          refine lv_ldc2 hx hb hown (hts (.constantLong RX11 185 (-1)) (by decide +kernel)) dX11_pay_53 ?_
          exact hret _ hf _ _ _ _ hP hS dX11_pay_56
        · replace hf := zt k12 hf
          refine lv_ldc2 hx hb hown (hts (.constantLong RX11 169 (-9223372036854775808)) (by decide +kernel)) dX11_pay_47 ?_
          refine lv_goto (tgt := 56) hx hb dX11_pay_50 (by decide) ?_
          exact hret _ hf _ _ _ _ hP hS dX11_pay_56
      · replace hf := zf k11 hf
        refine lv_iload hx hb dX11_pay_31 (lv_at hl 4 rfl) ?_
        refine lv_iconst (v := 0) hx hb dX11_pay_33 (by decide) ?_
        refine lv_iconst (v := 1) hx hb dX11_pay_34 (by decide) ?_
        obtain ⟨x13, h14, hf⟩ := zb1_e hf
        refine zgo_i (zrunS (As := [.int p4, .int 0, .int 1]) (rest := []) S (c_X11_within l hD p4 0 1 h14) (va_cwS 3 hts gX11_pay_X11_within rfl rfl rfl ddX11_within ⟨Nat.le_trans (Nat.le_of_ble_eq_true rfl) hfr, Nat.le_trans (Nat.le_of_ble_eq_true rfl) hlo⟩) E hP hS hl.1 rfl rfl (Nat.le_of_ble_eq_true rfl) dX11_pay_35) hS (fun H locs hP hS => ?_)
        refine lv_if_ne (tgt := 57) hx hb dX11_pay_38 (by decide) (fun k15 => ?_) (fun k15 => ?_)
        · replace hf := zf k15 hf
          refine lv_aload_n hx hb dX11_pay_57 rfl (lv_at hl 0 rfl) ?_
          refine va_get (D := D) (ci := 10) (v := .ref (ad 46)) (C := RX11) (T := TX11) (N := 12) hx hb hts hinX11_pay_X11 hown E.1 hP 0 (zO.get (oX11_at)) rfl 11 (by decide) (hts (.fieldLink RX11 84 "EdgeAndSpeed" "shop" "LEdgeAndSpeed$Shop;") (by decide +kernel)) (fun _ h9 => h9) rfl dX11_pay_58 ?_
          refine lv_iload_n hx hb dX11_pay_61 rfl (lv_at hl 1 rfl) ?_
          refine lv_iload_n hx hb dX11_pay_62 rfl (lv_at hl 2 rfl) ?_
          refine lv_iload_n hx hb dX11_pay_63 rfl (lv_at hl 3 rfl) ?_
          obtain ⟨x16, h17, hf⟩ := zb1_e hf
          refine zgo_i (zrunV (As := [.int p1, .int p2, .int p3]) (rest := []) S (c_X7_speedOfMan l hD p1 p2 p3 h17) (cwV 3 hts gX11_pay_X7_speedOfMan rfl rfl rfl ddX7_speedOfMan ⟨Nat.le_trans (Nat.le_of_ble_eq_true rfl) hfr, Nat.le_trans (Nat.le_of_ble_eq_true rfl) hlo⟩) (va_recv E.1 hP (q := (RX7, TX7, 1)) (ci := 6) rfl (zO.get (oX7_at))) E hP hS hl.1 rfl rfl (Nat.le_of_ble_eq_true rfl) dX11_pay_64) hS (fun H locs hP hS => ?_)
          refine lv_istore (lv' := [(5, .int x16), (0, .ref (ad 0)), (1, .int p1), (2, .int p2), (3, .int p3), (4, .int p4)]) hx hb dX11_pay_67 hl (by decide) rfl (fun ls hl => ?_)
          refine lv_iload hx hb dX11_pay_69 (lv_at hl 0 rfl) ?_
          refine lv_if_ge (tgt := 90) hx hb dX11_pay_71 (by decide) (fun k18 => ?_) (fun k18 => ?_)
          · replace hf := zt k18 hf
            refine lv_iload hx hb dX11_pay_90 (lv_at hl 5 rfl) ?_
            refine lv_iconst (v := 1) hx hb dX11_pay_92 (by decide) ?_
            refine lv_icmp_ne (tgt := 110) hx hb dX11_pay_93 (by decide) (fun k19 => ?_) (fun k19 => ?_)
            · replace hf := zf k19 hf
              refine lv_iload hx hb dX11_pay_110 (lv_at hl 0 rfl) ?_
              refine lv_i2l hx hb dX11_pay_112 rfl ?_
              exact hret _ hf _ _ _ _ hP hS dX11_pay_113
            · replace hf := zt k19 hf
              refine lv_aload_n hx hb dX11_pay_96 rfl (lv_at hl 1 rfl) ?_
              refine va_get (D := D) (ci := 10) (v := .ref (ad 46)) (C := RX11) (T := TX11) (N := 12) hx hb hts hinX11_pay_X11 hown E.1 hP 0 (zO.get (oX11_at)) rfl 11 (by decide) (hts (.fieldLink RX11 84 "EdgeAndSpeed" "shop" "LEdgeAndSpeed$Shop;") (by decide +kernel)) (fun _ h9 => h9) rfl dX11_pay_97 ?_
              refine lv_iload_n hx hb dX11_pay_100 rfl (lv_at hl 2 rfl) ?_
              refine lv_iload hx hb dX11_pay_101 (lv_at hl 0 rfl) ?_
              refine lv_iload_n hx hb dX11_pay_103 rfl (lv_at hl 3 rfl) ?_
              obtain ⟨u20, h21, hf⟩ := zb1_e hf
              refine zgo_l (zrunV (As := [.int p1, .int x16, .int p2]) (rest := []) S (c_X7_leftToShop l hD p1 x16 p2 h21) (cwV 3 hts gX11_pay_X7_leftToShop rfl rfl rfl ddX7_leftToShop ⟨Nat.le_trans (Nat.le_of_ble_eq_true rfl) hfr, Nat.le_trans (Nat.le_of_ble_eq_true rfl) hlo⟩) (va_recv E.1 hP (q := (RX7, TX7, 1)) (ci := 6) rfl (zO.get (oX7_at))) E hP hS hl.1 rfl rfl (Nat.le_of_ble_eq_true rfl) dX11_pay_104) hS (fun H locs hP hS => ?_)
              refine lv_goto (tgt := 113) hx hb dX11_pay_107 (by decide) ?_
              exact hret _ hf _ _ _ _ hP hS dX11_pay_113
          · replace hf := zf k18 hf
            refine lv_iload hx hb dX11_pay_74 (lv_at hl 5 rfl) ?_
            refine lv_iconst (v := 1) hx hb dX11_pay_76 (by decide) ?_
            refine lv_icmp_ne (tgt := 86) hx hb dX11_pay_77 (by decide) (fun k22 => ?_) (fun k22 => ?_)
            · replace hf := zf k22 hf
              refine lv_ldc2 hx hb hown (hts (.constantLong RX11 254 (-4)) (by decide +kernel)) dX11_pay_86 ?_
              exact hret _ hf _ _ _ _ hP hS dX11_pay_89
            · replace hf := zt k22 hf
              refine lv_ldc2 hx hb hown (hts (.constantLong RX11 252 (-9223372036854775804)) (by decide +kernel)) dX11_pay_80 ?_
              refine lv_goto (tgt := 89) hx hb dX11_pay_83 (by decide) ?_
              exact hret _ hf _ _ _ _ hP hS dX11_pay_89
        · replace hf := zt k15 hf
          refine lv_iload hx hb dX11_pay_41 (lv_at hl 4 rfl) ?_
          refine lv_iconst (v := 1) hx hb dX11_pay_43 (by decide) ?_
          refine lv_icmp_ne (tgt := 53) hx hb dX11_pay_44 (by decide) (fun k23 => ?_) (fun k23 => ?_)
          · replace hf := zf k23 hf
            refine lv_ldc2 hx hb hown (hts (.constantLong RX11 185 (-1)) (by decide +kernel)) dX11_pay_53 ?_
            exact hret _ hf _ _ _ _ hP hS dX11_pay_56
          · replace hf := zt k23 hf
            refine lv_ldc2 hx hb hown (hts (.constantLong RX11 169 (-9223372036854775808)) (by decide +kernel)) dX11_pay_47 ?_
            refine lv_goto (tgt := 56) hx hb dX11_pay_50 (by decide) ?_
            exact hret _ hf _ _ _ _ hP hS dX11_pay_56
theorem c_X11_pay (l : Launch) {D : va_G} {a0 : Nat → Nat} {A : Nat → Prop} {cy : Nat → ClassId} {ad : Nat → Nat} (hD : zD A 74 ad) {I : zI} {J : zJ} (p1 : Int32) (p2 : Int32) (p3 : Int32) (p4 : Int32) {rx : Int64} (hf : f_X11_pay I J p1 p2 p3 p4 = some rx) : Met l yX11_pay wsX11_pay { frames := 6, cells := 0, slots := 0, locals := 141 } (zPc D a0 A cy [.ref (ad 0), .int p1, .int p2, .int p3, .int p4] (zw 74 (kC cy ad a0) ad I J)) (zQl D A rx (zw 74 (kC cy ad a0) ad I J)) 0 0 A :=
  zmet RX11 (by decide) rfl rfl (Nat.le_of_ble_eq_true rfl) (fun p e R s m below meth c Q hfr hlo ls S0 hQ => w_X11_pay hfr hlo hD p1 p2 p3 p4 hf S0 (fun tx hq H locs ls pc hP hS hd => by cases hq; exact hQ H locs _ hS (fun hx hb hr hlocks hfree => W.lret hx hb hr (fun t ht hW => ⟨⟨_, (), rfl, rfl, zht ht hP⟩, hS.F ht⟩) hfree hd hlocks)))
theorem ddX11_pay : yX11_pay.cls = RX11 ∧ yX11_pay.cls ≠ "java/lang/invoke/MethodHandle" ∧ yX11_pay.cls ≠ "java/lang/invoke/VarHandle" ∧ (parseMethodDescriptor yX11_pay.desc).map (fun d => d.parameters.length) = some 4 := by decide +kernel

def f_X7_payFor_L9 (I : zI) (J : zJ) (p1 : Int32) (p2 : Int32) (x2 : Int32) (u3 : Int64) (x4 : Int32) : Option ((Int32 × Int64 × Int32) ⊕ Int32) := (if 99 < x4 then some (.inr x2) else zb1 (f_X7_speedOfMan I J p1 x4 p2) (fun x6 => (if x6 = (-4) then zn (x4 + 1) (fun y9 => some (.inl (x2, u3, y9))) else zb1 (f_X7_leftToShop I J p1 x6 x4) (fun u10 => (if x2 = (-4) then zn (x4 + 1) (fun y13 => some (.inl (x4, u10, y13))) else (if (lg_cmp u10 u3) ≤ 0 then zn (x4 + 1) (fun y15 => some (.inl (x2, u3, y15))) else zn (x4 + 1) (fun y16 => some (.inl (x4, u10, y16)))))))))
def f_X7_payFor (I : zI) (J : zJ) (p1 : Int32) (p2 : Int32) : Option Int32 := zb1 (zl (fun v : (Int32 × Int64 × Int32) => f_X7_payFor_L9 I J p1 p2 v.1 v.2.1 v.2.2) zF ((-4), 0, 0)) (fun x17 => some x17)
set_option maxHeartbeats 4000000 in
set_option maxRecDepth 100000 in
theorem w_X7_payFor {p : Program} {l : Launch} {e : Env} {R : Room} {s : State} {m : MethodId} {args : Array Value} {below : List Frame} {meth : Method} {c : Code} {Q : State → Prop} (hfr : 6 ≤ R.frames) (hlo : 141 ≤ R.locals) {D : va_G} {a0 : Nat → Nat} {A : Nat → Prop} {cy : Nat → ClassId} {ad : Nat → Nat} (hD : zD A 74 ad) {I : zI} {J : zJ} (p1 : Int32) (p2 : Int32) {rx : Int32} (hf : f_X7_payFor I J p1 p2 = some rx) {ls : Array Slot} (S0 : zSt p m c cX7_payFor 10 s args wsX7_payFor RX7 D a0 A cy (zw 74 (kC cy ad a0) ad I J) [.ref (ad 46), .int p1, .int p2] ls) (hret : ∀ (tx : Int32), some tx = some rx → ∀ (H : Heap) (locs : List Loc) (ls : Array Slot) (pc : Nat), va_P D vwCl (zw 74 (kC cy ad a0) ad I J) H → va_S A s.heap H locs → decode cX7_payFor pc = .ok (.ireturn, 1) → W p l e R s m args below meth c H locs 0 0 Q (F0 m pc ls [.int tx])) : W p l e R s m args below meth c s.heap [] 0 0 Q (F0 m 0 ls []) := by
  obtain ⟨S, E, hP, hl⟩ := S0
  obtain ⟨hx, hb, hml, hown, hts⟩ := id S
  have hS : va_S A s.heap s.heap [] := va_S.rf
  replace hl : lv_has ls 10 [(0, .ref (ad 46)), (1, .int p1), (2, .int p2)] := hl
  unfold f_X7_payFor at hf
  refine lv_bipush (v := (-4)) hx hb dX7_payFor_0 (by decide) ?_
  refine lv_istore_n (lv' := [(3, .int (-4)), (0, .ref (ad 46)), (1, .int p1), (2, .int p2)]) hx hb dX7_payFor_2 rfl hl (by decide) rfl (fun ls hl => ?_)
  refine lv_lconst (v := 0) hx hb dX7_payFor_3 (by decide) ?_
  refine lv_lstore (lv' := [(4, .long 0), (3, .int (-4)), (0, .ref (ad 46)), (1, .int p1), (2, .int p2)]) hx hb dX7_payFor_4 hl (by decide) rfl (fun ls hl => ?_)
  refine lv_iconst (v := 0) hx hb dX7_payFor_6 (by decide) ?_
  refine lv_istore (lv' := [(6, .int 0), (4, .long 0), (3, .int (-4)), (0, .ref (ad 46)), (1, .int p1), (2, .int p2)]) hx hb dX7_payFor_7 hl (by decide) rfl (fun ls hl => ?_)
  obtain ⟨zl1, hf, hzl1⟩ := zb1_i hf
  have hjl1 : ∀ (x17 : Int32), x17 = zl1 → ∀ (H : Heap) (locs : List Loc) (ls : Array Slot), va_P D vwCl (zw 74 (kC cy ad a0) ad I J) H → va_S A s.heap H locs → lv_has ls 10 [(3, .int x17)] → W p l e R s m args below meth c H locs 0 0 Q (F0 m 71 ls []) := by
    intro x17 ez H locs ls hP hS hl
    have hf := hzl1 x17 ez
    refine lv_iload_n hx hb dX7_payFor_71 rfl (lv_at hl 0 rfl) ?_
    exact hret _ hf _ _ _ _ hP hS dX7_payFor_72
  refine zl_i (V := (Int32 × Int64 × Int32)) (P := fun v => ∀ (H : Heap) (locs : List Loc) (ls : Array Slot), va_P D vwCl (zw 74 (kC cy ad a0) ad I J) H → va_S A s.heap H locs → lv_has ls 10 [(0, .ref (ad 46)), (1, .int p1), (2, .int p2), (3, .int (v.1)), (4, .long (v.2.1)), (6, .int (v.2.2))] → W p l e R s m args below meth c H locs 0 0 Q (F0 m 9 ls [])) ?_ _ _ hf _ _ _ hP hS (lv_sub hl [3, 4, 5, 2, 1, 0] rfl)
  intro v z hf hcl1 hdl1
  obtain ⟨x2, u3, x4⟩ := v
  intro H locs ls hP hS hl
  replace hf : f_X7_payFor_L9 I J p1 p2 x2 u3 x4 = some z := hf
  unfold f_X7_payFor_L9 at hf
  replace hP : va_P D vwCl (zw 74 (kC cy ad a0) ad I J) H := hP
  replace hl : lv_has ls 10 [(0, .ref (ad 46)), (1, .int p1), (2, .int p2), (3, .int x2), (4, .long u3), (6, .int x4)] := hl
  refine lv_iload hx hb dX7_payFor_9 (lv_at hl 5 rfl) ?_
  refine lv_bipush (v := 99) hx hb dX7_payFor_11 (by decide) ?_
  refine lv_icmp_gt (tgt := 71) hx hb dX7_payFor_13 (by decide) (fun k5 => ?_) (fun k5 => ?_)
  · replace hf := zt k5 hf
    exact hjl1 _ (hdl1 _ (Option.some.inj hf).symm) _ _ _ hP hS (lv_sub hl [3] rfl)
  · replace hf := zf k5 hf
    refine lv_aload_n hx hb dX7_payFor_16 rfl (lv_at hl 0 rfl) ?_
    refine lv_iload_n hx hb dX7_payFor_17 rfl (lv_at hl 1 rfl) ?_
    refine lv_iload hx hb dX7_payFor_18 (lv_at hl 5 rfl) ?_
    refine lv_iload_n hx hb dX7_payFor_20 rfl (lv_at hl 2 rfl) ?_
    obtain ⟨x6, h7, hf⟩ := zb1_e hf
    refine zgo_i (zrunV (As := [.int p1, .int x4, .int p2]) (rest := []) S (c_X7_speedOfMan l hD p1 x4 p2 h7) (cwV 3 hts gX7_payFor_X7_speedOfMan rfl rfl rfl ddX7_speedOfMan ⟨Nat.le_trans (Nat.le_of_ble_eq_true rfl) hfr, Nat.le_trans (Nat.le_of_ble_eq_true rfl) hlo⟩) (va_recv E.1 hP (q := (RX7, TX7, 1)) (ci := 6) rfl (zO.get (oX7_at))) E hP hS hl.1 rfl rfl (Nat.le_of_ble_eq_true rfl) dX7_payFor_21) hS (fun H locs hP hS => ?_)
    refine lv_istore (lv' := [(7, .int x6), (0, .ref (ad 46)), (1, .int p1), (2, .int p2), (3, .int x2), (4, .long u3), (6, .int x4)]) hx hb dX7_payFor_24 hl (by decide) rfl (fun ls hl => ?_)
    refine lv_iload hx hb dX7_payFor_26 (lv_at hl 0 rfl) ?_
    refine lv_bipush (v := (-4)) hx hb dX7_payFor_28 (by decide) ?_
    refine lv_icmp_eq (tgt := 65) hx hb dX7_payFor_30 (by decide) (fun k8 => ?_) (fun k8 => ?_)
    · replace hf := zt k8 hf
      obtain ⟨y9, ey9⟩ := zex (x4 + 1)
      replace hf := zn_s ey9 hf
      refine lv_iinc (v := y9) (lv' := [(6, .int y9), (7, .int x6), (0, .ref (ad 46)), (1, .int p1), (2, .int p2), (3, .int x2), (4, .long u3)]) hx hb dX7_payFor_65 hl (k := 6) rfl (by rw [ey9]; rfl) (by decide) rfl (fun ls hl => ?_)
      refine lv_goto (tgt := 9) hx hb dX7_payFor_68 (by decide) ?_
      exact hcl1 _ (Option.some.inj hf).symm _ _ _ hP hS (lv_sub hl [2, 3, 4, 5, 6, 0] rfl)
    · replace hf := zf k8 hf
      refine lv_aload_n hx hb dX7_payFor_33 rfl (lv_at hl 1 rfl) ?_
      refine lv_iload_n hx hb dX7_payFor_34 rfl (lv_at hl 2 rfl) ?_
      refine lv_iload hx hb dX7_payFor_35 (lv_at hl 0 rfl) ?_
      refine lv_iload hx hb dX7_payFor_37 (lv_at hl 6 rfl) ?_
      obtain ⟨u10, h11, hf⟩ := zb1_e hf
      refine zgo_l (zrunV (As := [.int p1, .int x6, .int x4]) (rest := []) S (c_X7_leftToShop l hD p1 x6 x4 h11) (cwV 3 hts gX7_payFor_X7_leftToShop rfl rfl rfl ddX7_leftToShop ⟨Nat.le_trans (Nat.le_of_ble_eq_true rfl) hfr, Nat.le_trans (Nat.le_of_ble_eq_true rfl) hlo⟩) (va_recv E.1 hP (q := (RX7, TX7, 1)) (ci := 6) rfl (zO.get (oX7_at))) E hP hS hl.1 rfl rfl (Nat.le_of_ble_eq_true rfl) dX7_payFor_39) hS (fun H locs hP hS => ?_)
      refine lv_lstore (lv' := [(8, .long u10), (7, .int x6), (0, .ref (ad 46)), (1, .int p1), (2, .int p2), (3, .int x2), (4, .long u3), (6, .int x4)]) hx hb dX7_payFor_42 hl (by decide) rfl (fun ls hl => ?_)
      refine lv_iload_n hx hb dX7_payFor_44 rfl (lv_at hl 5 rfl) ?_
      refine lv_bipush (v := (-4)) hx hb dX7_payFor_45 (by decide) ?_
      refine lv_icmp_eq (tgt := 58) hx hb dX7_payFor_47 (by decide) (fun k12 => ?_) (fun k12 => ?_)
      · replace hf := zt k12 hf
        refine lv_iload hx hb dX7_payFor_58 (lv_at hl 7 rfl) ?_
        refine lv_istore_n (lv' := [(3, .int x4), (8, .long u10), (7, .int x6), (0, .ref (ad 46)), (1, .int p1), (2, .int p2), (4, .long u3), (6, .int x4)]) hx hb dX7_payFor_60 rfl hl (by decide) rfl (fun ls hl => ?_)
        refine lv_lload hx hb dX7_payFor_61 (lv_at hl 1 rfl) ?_
        refine lv_lstore (lv' := [(4, .long u10), (3, .int x4), (8, .long u10), (7, .int x6), (0, .ref (ad 46)), (1, .int p1), (2, .int p2), (6, .int x4)]) hx hb dX7_payFor_63 hl (by decide) rfl (fun ls hl => ?_)
        obtain ⟨y13, ey13⟩ := zex (x4 + 1)
        replace hf := zn_s ey13 hf
        refine lv_iinc (v := y13) (lv' := [(6, .int y13), (4, .long u10), (3, .int x4), (8, .long u10), (7, .int x6), (0, .ref (ad 46)), (1, .int p1), (2, .int p2)]) hx hb dX7_payFor_65 hl (k := 7) rfl (by rw [ey13]; rfl) (by decide) rfl (fun ls hl => ?_)
        refine lv_goto (tgt := 9) hx hb dX7_payFor_68 (by decide) ?_
        exact hcl1 _ (Option.some.inj hf).symm _ _ _ hP hS (lv_sub hl [5, 6, 7, 2, 1, 0] rfl)
      · replace hf := zf k12 hf
        refine lv_lload hx hb dX7_payFor_50 (lv_at hl 0 rfl) ?_
        refine lv_lload hx hb dX7_payFor_52 (lv_at hl 6 rfl) ?_
        refine W.lcmp hx hb dX7_payFor_54 ?_
        refine lv_if_le (tgt := 65) hx hb dX7_payFor_55 (by decide) (fun k14 => ?_) (fun k14 => ?_)
        · replace hf := zt k14 hf
          obtain ⟨y15, ey15⟩ := zex (x4 + 1)
          replace hf := zn_s ey15 hf
          refine lv_iinc (v := y15) (lv' := [(6, .int y15), (8, .long u10), (7, .int x6), (0, .ref (ad 46)), (1, .int p1), (2, .int p2), (3, .int x2), (4, .long u3)]) hx hb dX7_payFor_65 hl (k := 7) rfl (by rw [ey15]; rfl) (by decide) rfl (fun ls hl => ?_)
          refine lv_goto (tgt := 9) hx hb dX7_payFor_68 (by decide) ?_
          exact hcl1 _ (Option.some.inj hf).symm _ _ _ hP hS (lv_sub hl [3, 4, 5, 6, 7, 0] rfl)
        · replace hf := zf k14 hf
          refine lv_iload hx hb dX7_payFor_58 (lv_at hl 7 rfl) ?_
          refine lv_istore_n (lv' := [(3, .int x4), (8, .long u10), (7, .int x6), (0, .ref (ad 46)), (1, .int p1), (2, .int p2), (4, .long u3), (6, .int x4)]) hx hb dX7_payFor_60 rfl hl (by decide) rfl (fun ls hl => ?_)
          refine lv_lload hx hb dX7_payFor_61 (lv_at hl 1 rfl) ?_
          refine lv_lstore (lv' := [(4, .long u10), (3, .int x4), (8, .long u10), (7, .int x6), (0, .ref (ad 46)), (1, .int p1), (2, .int p2), (6, .int x4)]) hx hb dX7_payFor_63 hl (by decide) rfl (fun ls hl => ?_)
          obtain ⟨y16, ey16⟩ := zex (x4 + 1)
          replace hf := zn_s ey16 hf
          refine lv_iinc (v := y16) (lv' := [(6, .int y16), (4, .long u10), (3, .int x4), (8, .long u10), (7, .int x6), (0, .ref (ad 46)), (1, .int p1), (2, .int p2)]) hx hb dX7_payFor_65 hl (k := 7) rfl (by rw [ey16]; rfl) (by decide) rfl (fun ls hl => ?_)
          refine lv_goto (tgt := 9) hx hb dX7_payFor_68 (by decide) ?_
          exact hcl1 _ (Option.some.inj hf).symm _ _ _ hP hS (lv_sub hl [5, 6, 7, 2, 1, 0] rfl)
theorem c_X7_payFor (l : Launch) {D : va_G} {a0 : Nat → Nat} {A : Nat → Prop} {cy : Nat → ClassId} {ad : Nat → Nat} (hD : zD A 74 ad) {I : zI} {J : zJ} (p1 : Int32) (p2 : Int32) {rx : Int32} (hf : f_X7_payFor I J p1 p2 = some rx) : Met l yX7_payFor wsX7_payFor { frames := 6, cells := 0, slots := 0, locals := 141 } (zPc D a0 A cy [.ref (ad 46), .int p1, .int p2] (zw 74 (kC cy ad a0) ad I J)) (zQi D A rx (zw 74 (kC cy ad a0) ad I J)) 0 0 A :=
  zmet RX7 (by decide) rfl rfl (Nat.le_of_ble_eq_true rfl) (fun p e R s m below meth c Q hfr hlo ls S0 hQ => w_X7_payFor hfr hlo hD p1 p2 hf S0 (fun tx hq H locs ls pc hP hS hd => by cases hq; exact hQ H locs _ hS (fun hx hb hr hlocks hfree => W.iret hx hb hr (fun t ht hW => ⟨⟨_, (), rfl, rfl, zht ht hP⟩, hS.F ht⟩) hfree hd hlocks)))
theorem ddX7_payFor : yX7_payFor.cls = RX7 ∧ yX7_payFor.cls ≠ "java/lang/invoke/MethodHandle" ∧ yX7_payFor.cls ≠ "java/lang/invoke/VarHandle" ∧ (parseMethodDescriptor yX7_payFor.desc).map (fun d => d.parameters.length) = some 2 := by decide +kernel

def f_X11_bestPay (I : zI) (J : zJ) (p1 : Int32) (p2 : Int32) : Option Int32 := zb1 (f_X0_hasPiece I J 4 p1) (fun x1 => (if x1 = 0 then some (-1) else zb1 (f_X11_within I J p2 0 99) (fun x4 => (if x4 = 0 then some (-1) else zb1 (f_X7_payFor I J p1 p2) (fun x7 => some x7)))))
theorem hinX11_bestPay_X11 : ∀ w ∈ u_ws RX11 TX11 12, w ∈ wsX11_bestPay := by decide +kernel
set_option maxHeartbeats 4000000 in
set_option maxRecDepth 100000 in
theorem w_X11_bestPay {p : Program} {l : Launch} {e : Env} {R : Room} {s : State} {m : MethodId} {args : Array Value} {below : List Frame} {meth : Method} {c : Code} {Q : State → Prop} (hfr : 7 ≤ R.frames) (hlo : 170 ≤ R.locals) {D : va_G} {a0 : Nat → Nat} {A : Nat → Prop} {cy : Nat → ClassId} {ad : Nat → Nat} (hD : zD A 74 ad) {I : zI} {J : zJ} (p1 : Int32) (p2 : Int32) {rx : Int32} (hf : f_X11_bestPay I J p1 p2 = some rx) {ls : Array Slot} (S0 : zSt p m c cX11_bestPay 3 s args wsX11_bestPay RX11 D a0 A cy (zw 74 (kC cy ad a0) ad I J) [.ref (ad 0), .int p1, .int p2] ls) (hret : ∀ (tx : Int32), some tx = some rx → ∀ (H : Heap) (locs : List Loc) (ls : Array Slot) (pc : Nat), va_P D vwCl (zw 74 (kC cy ad a0) ad I J) H → va_S A s.heap H locs → decode cX11_bestPay pc = .ok (.ireturn, 1) → W p l e R s m args below meth c H locs 0 0 Q (F0 m pc ls [.int tx])) : W p l e R s m args below meth c s.heap [] 0 0 Q (F0 m 0 ls []) := by
  obtain ⟨S, E, hP, hl⟩ := S0
  obtain ⟨hx, hb, hml, hown, hts⟩ := id S
  have hS : va_S A s.heap s.heap [] := va_S.rf
  replace hl : lv_has ls 3 [(0, .ref (ad 0)), (1, .int p1), (2, .int p2)] := hl
  unfold f_X11_bestPay at hf
  refine lv_aload_n hx hb dX11_bestPay_0 rfl (lv_at hl 0 rfl) ?_
  refine va_get (D := D) (ci := 10) (v := .ref (ad 4)) (C := RX11) (T := TX11) (N := 12) hx hb hts hinX11_bestPay_X11 hown E.1 hP 0 (zO.get (oX11_at)) rfl 1 (by decide) (hts (.fieldLink RX11 19 "EdgeAndSpeed" "bench" "LEdgeAndSpeed$Bench;") (by decide +kernel)) (fun _ h9 => h9) rfl dX11_bestPay_1 ?_
  refine lv_iload_n hx hb dX11_bestPay_4 rfl (lv_at hl 1 rfl) ?_
  obtain ⟨x1, h2, hf⟩ := zb1_e hf
  refine zgo_i (zrunV (As := [.int p1]) (rest := []) S (c_X0_hasPiece l hD 4 (zBat_C (by decide)) p1 h2) (cwV 1 hts gX11_bestPay_X0_hasPiece rfl rfl rfl ddX0_hasPiece ⟨Nat.le_trans (Nat.le_of_ble_eq_true rfl) hfr, Nat.le_trans (Nat.le_of_ble_eq_true rfl) hlo⟩) (va_recv E.1 hP (q := (RX0, TX0, 17)) (ci := 0) rfl (zO.get (zBat_o (zBat_C (by decide))))) E hP hS hl.1 rfl rfl (Nat.le_of_ble_eq_true rfl) dX11_bestPay_5) hS (fun H locs hP hS => ?_)
  refine lv_if_eq (tgt := 33) hx hb dX11_bestPay_8 (by decide) (fun k3 => ?_) (fun k3 => ?_)
  · replace hf := zt k3 hf
    refine lv_iconst (v := (-1)) hx hb dX11_bestPay_33 (by decide) ?_
    exact hret _ hf _ _ _ _ hP hS dX11_bestPay_34
  · replace hf := zf k3 hf
    refine lv_iload_n hx hb dX11_bestPay_11 rfl (lv_at hl 2 rfl) ?_
    refine lv_iconst (v := 0) hx hb dX11_bestPay_12 (by decide) ?_
    refine lv_bipush (v := 99) hx hb dX11_bestPay_13 (by decide) ?_
    obtain ⟨x4, h5, hf⟩ := zb1_e hf
    refine zgo_i (zrunS (As := [.int p2, .int 0, .int 99]) (rest := []) S (c_X11_within l hD p2 0 99 h5) (va_cwS 3 hts gX11_bestPay_X11_within rfl rfl rfl ddX11_within ⟨Nat.le_trans (Nat.le_of_ble_eq_true rfl) hfr, Nat.le_trans (Nat.le_of_ble_eq_true rfl) hlo⟩) E hP hS hl.1 rfl rfl (Nat.le_of_ble_eq_true rfl) dX11_bestPay_15) hS (fun H locs hP hS => ?_)
    refine lv_if_eq (tgt := 33) hx hb dX11_bestPay_18 (by decide) (fun k6 => ?_) (fun k6 => ?_)
    · replace hf := zt k6 hf
      refine lv_iconst (v := (-1)) hx hb dX11_bestPay_33 (by decide) ?_
      exact hret _ hf _ _ _ _ hP hS dX11_bestPay_34
    · replace hf := zf k6 hf
      refine lv_aload_n hx hb dX11_bestPay_21 rfl (lv_at hl 0 rfl) ?_
      refine va_get (D := D) (ci := 10) (v := .ref (ad 46)) (C := RX11) (T := TX11) (N := 12) hx hb hts hinX11_bestPay_X11 hown E.1 hP 0 (zO.get (oX11_at)) rfl 11 (by decide) (hts (.fieldLink RX11 84 "EdgeAndSpeed" "shop" "LEdgeAndSpeed$Shop;") (by decide +kernel)) (fun _ h9 => h9) rfl dX11_bestPay_22 ?_
      refine lv_iload_n hx hb dX11_bestPay_25 rfl (lv_at hl 1 rfl) ?_
      refine lv_iload_n hx hb dX11_bestPay_26 rfl (lv_at hl 2 rfl) ?_
      obtain ⟨x7, h8, hf⟩ := zb1_e hf
      refine zgo_i (zrunV (As := [.int p1, .int p2]) (rest := []) S (c_X7_payFor l hD p1 p2 h8) (cwV 2 hts gX11_bestPay_X7_payFor rfl rfl rfl ddX7_payFor ⟨Nat.le_trans (Nat.le_of_ble_eq_true rfl) hfr, Nat.le_trans (Nat.le_of_ble_eq_true rfl) hlo⟩) (va_recv E.1 hP (q := (RX7, TX7, 1)) (ci := 6) rfl (zO.get (oX7_at))) E hP hS hl.1 rfl rfl (Nat.le_of_ble_eq_true rfl) dX11_bestPay_27) hS (fun H locs hP hS => ?_)
      refine lv_goto (tgt := 34) hx hb dX11_bestPay_30 (by decide) ?_
      exact hret _ hf _ _ _ _ hP hS dX11_bestPay_34
theorem c_X11_bestPay (l : Launch) {D : va_G} {a0 : Nat → Nat} {A : Nat → Prop} {cy : Nat → ClassId} {ad : Nat → Nat} (hD : zD A 74 ad) {I : zI} {J : zJ} (p1 : Int32) (p2 : Int32) {rx : Int32} (hf : f_X11_bestPay I J p1 p2 = some rx) : Met l yX11_bestPay wsX11_bestPay { frames := 7, cells := 0, slots := 0, locals := 170 } (zPc D a0 A cy [.ref (ad 0), .int p1, .int p2] (zw 74 (kC cy ad a0) ad I J)) (zQi D A rx (zw 74 (kC cy ad a0) ad I J)) 0 0 A :=
  zmet RX11 (by decide) rfl rfl (Nat.le_of_ble_eq_true rfl) (fun p e R s m below meth c Q hfr hlo ls S0 hQ => w_X11_bestPay hfr hlo hD p1 p2 hf S0 (fun tx hq H locs ls pc hP hS hd => by cases hq; exact hQ H locs _ hS (fun hx hb hr hlocks hfree => W.iret hx hb hr (fun t ht hW => ⟨⟨_, (), rfl, rfl, zht ht hP⟩, hS.F ht⟩) hfree hd hlocks)))
theorem ddX11_bestPay : yX11_bestPay.cls = RX11 ∧ yX11_bestPay.cls ≠ "java/lang/invoke/MethodHandle" ∧ yX11_bestPay.cls ≠ "java/lang/invoke/VarHandle" ∧ (parseMethodDescriptor yX11_bestPay.desc).map (fun d => d.parameters.length) = some 2 := by decide +kernel

def f_X1_note (I : zI) (J : zJ) (o : Nat) (p1 : Int32) (p2 : Int32) : Option (Int32 × zI) := zb1 (f_X11_within I J (I o 2) 0 19) (fun x1 => (if x1 = 0 then some (0, I) else zg (¬ ((I o 2) < 0 ∨ 20 ≤ (I o 2).toNatClampNeg)) (zn (va_up I (o + 1) (upd (I (o + 1)) (I o 2).toNatClampNeg p1)) (fun I4 => zg (¬ ((I4 o 2) < 0 ∨ 20 ≤ (I4 o 2).toNatClampNeg)) (zn (va_up I4 (o + 2) (upd (I4 (o + 2)) (I4 o 2).toNatClampNeg p2)) (fun I6 => zn (va_up I6 o (va_up (I6 o) 2 ((I6 o 2) + 1))) (fun I8 => some (1, I8))))))))
theorem hinX1_note_X1 : ∀ w ∈ u_ws RX1 TX1 6, w ∈ wsX1_note := by decide +kernel
set_option maxHeartbeats 4000000 in
set_option maxRecDepth 100000 in
theorem w_X1_note {p : Program} {l : Launch} {e : Env} {R : Room} {s : State} {m : MethodId} {args : Array Value} {below : List Frame} {meth : Method} {c : Code} {Q : State → Prop} (hfr : 1 ≤ R.frames) (hlo : 22 ≤ R.locals) {D : va_G} {a0 : Nat → Nat} {A : Nat → Prop} {cy : Nat → ClassId} {ad : Nat → Nat} (hD : zD A 74 ad) {I : zI} {J : zJ} (o : Nat) (ho : zHn o) (p1 : Int32) (p2 : Int32) {rx : Int32} {rI : zI} (hf : f_X1_note I J o p1 p2 = some (rx, rI)) {ls : Array Slot} (S0 : zSt p m c cX1_note 3 s args wsX1_note RX1 D a0 A cy (zw 74 (kC cy ad a0) ad I J) [.ref (ad o), .int p1, .int p2] ls) (hret : ∀ (tx : Int32) (tI : zI), some (tx, tI) = some (rx, rI) → (tx = 0 ∨ tx = 1) → ∀ (H : Heap) (locs : List Loc) (ls : Array Slot) (pc : Nat), va_P D vwCl (zw 74 (kC cy ad a0) ad tI J) H → va_S A s.heap H locs → decode cX1_note pc = .ok (.ireturn, 1) → W p l e R s m args below meth c H locs 0 0 Q (F0 m pc ls [.int tx])) : W p l e R s m args below meth c s.heap [] 0 0 Q (F0 m 0 ls []) := by
  obtain ⟨S, E, hP, hl⟩ := S0
  obtain ⟨hx, hb, hml, hown, hts⟩ := id S
  have hS : va_S A s.heap s.heap [] := va_S.rf
  replace hl : lv_has ls 3 [(0, .ref (ad o)), (1, .int p1), (2, .int p2)] := hl
  unfold f_X1_note at hf
  refine lv_aload_n hx hb dX1_note_0 rfl (lv_at hl 0 rfl) ?_
  refine va_get (D := D) (ci := 1) (v := .int (I o 2)) (C := RX1) (T := TX1) (N := 6) hx hb hts hinX1_note_X1 hown E.1 hP o (zO.get (oX1_at ho)) rfl 2 (by decide) (hts (.fieldLink RX1 25 "EdgeAndSpeed$Habits" "rows" "I") (by decide +kernel)) (fun _ h9 => h9) rfl dX1_note_1 ?_
  refine lv_iconst (v := 0) hx hb dX1_note_4 (by decide) ?_
  refine lv_bipush (v := 19) hx hb dX1_note_5 (by decide) ?_
  obtain ⟨x1, h2, hf⟩ := zb1_e hf
  refine zgo_i (zrunSN (As := [.int (I o 2), .int 0, .int 19]) (rest := []) S (c_X11_within l hD (I o 2) 0 19 h2) ⟨va_cnB (host := "EdgeAndSpeed") 3 hts gX1_note_X11_within_n37 rfl rfl rfl (zNmw_14 E.2.2) (hts (.initialized RX11) (by decide +kernel)) ddX11_within ⟨Nat.le_trans (Nat.le_of_ble_eq_true rfl) hfr, Nat.le_trans (Nat.le_of_ble_eq_true rfl) hlo⟩, hts (.static yX11_within) (by decide +kernel), trivial⟩ E hP hS hl.1 rfl rfl (Nat.le_of_ble_eq_true rfl) dX1_note_7) hS (fun H locs hP hS => ?_)
  refine lv_if_ne (tgt := 15) hx hb dX1_note_10 (by decide) (fun k3 => ?_) (fun k3 => ?_)
  · replace hf := zf k3 hf
    refine lv_aload_n hx hb dX1_note_15 rfl (lv_at hl 0 rfl) ?_
    refine va_get (D := D) (ci := 1) (v := .ref (ad (o + 1))) (C := RX1) (T := TX1) (N := 6) hx hb hts hinX1_note_X1 hown E.1 hP o (zO.get (oX1_at ho)) rfl 0 (by decide) (hts (.fieldLink RX1 9 "EdgeAndSpeed$Habits" "wears" "[I") (by decide +kernel)) (fun _ h9 => h9) rfl dX1_note_16 ?_
    refine lv_aload_n hx hb dX1_note_19 rfl (lv_at hl 0 rfl) ?_
    refine va_get (D := D) (ci := 1) (v := .int (I o 2)) (C := RX1) (T := TX1) (N := 6) hx hb hts hinX1_note_X1 hown E.1 hP o (zO.get (oX1_at ho)) rfl 2 (by decide) (hts (.fieldLink RX1 25 "EdgeAndSpeed$Habits" "rows" "I") (by decide +kernel)) (fun _ h9 => h9) rfl dX1_note_20 ?_
    refine lv_iload_n hx hb dX1_note_23 rfl (lv_at hl 1 rfl) ?_
    obtain ⟨g5, hf⟩ := zg_i hf
    obtain ⟨I4, eI4⟩ := zex (va_up I (o + 1) (upd (I (o + 1)) (I o 2).toNatClampNeg p1))
    replace hf := zn_s eI4 hf
    refine zast_i hx hb E.1 hP hD.D hS (aX1_0 ho) g5 dX1_note_24 eI4 (fun H locs hP hS => ?_)
    refine lv_aload_n hx hb dX1_note_25 rfl (lv_at hl 0 rfl) ?_
    refine va_get (D := D) (ci := 1) (v := .ref (ad (o + 2))) (C := RX1) (T := TX1) (N := 6) hx hb hts hinX1_note_X1 hown E.1 hP o (zO.get (oX1_at ho)) rfl 1 (by decide) (hts (.fieldLink RX1 15 "EdgeAndSpeed$Habits" "speeds" "[I") (by decide +kernel)) (fun _ h9 => h9) rfl dX1_note_26 ?_
    refine lv_aload_n hx hb dX1_note_29 rfl (lv_at hl 0 rfl) ?_
    refine va_get (D := D) (ci := 1) (v := .int (I4 o 2)) (C := RX1) (T := TX1) (N := 6) hx hb hts hinX1_note_X1 hown E.1 hP o (zO.get (oX1_at ho)) rfl 2 (by decide) (hts (.fieldLink RX1 25 "EdgeAndSpeed$Habits" "rows" "I") (by decide +kernel)) (fun _ h9 => h9) rfl dX1_note_30 ?_
    refine lv_iload_n hx hb dX1_note_33 rfl (lv_at hl 2 rfl) ?_
    obtain ⟨g7, hf⟩ := zg_i hf
    obtain ⟨I6, eI6⟩ := zex (va_up I4 (o + 2) (upd (I4 (o + 2)) (I4 o 2).toNatClampNeg p2))
    replace hf := zn_s eI6 hf
    refine zast_i hx hb E.1 hP hD.D hS (aX1_1 ho) g7 dX1_note_34 eI6 (fun H locs hP hS => ?_)
    refine lv_aload_n hx hb dX1_note_35 rfl (lv_at hl 0 rfl) ?_
    refine lv_dup hx hb dX1_note_36 rfl ?_
    refine va_get (D := D) (ci := 1) (v := .int (I6 o 2)) (C := RX1) (T := TX1) (N := 6) hx hb hts hinX1_note_X1 hown E.1 hP o (zO.get (oX1_at ho)) rfl 2 (by decide) (hts (.fieldLink RX1 25 "EdgeAndSpeed$Habits" "rows" "I") (by decide +kernel)) (fun _ h9 => h9) rfl dX1_note_37 ?_
    refine lv_iconst (v := 1) hx hb dX1_note_40 (by decide) ?_
    refine lv_iadd hx hb dX1_note_41 ?_
    obtain ⟨I8, eI8⟩ := zex (va_up I6 o (va_up (I6 o) 2 ((I6 o 2) + 1)))
    replace hf := zn_s eI8 hf
    refine zput (D := D) (ci := 1) (v := .int ((I6 o 2) + 1)) (ty := .int) (C := RX1) (T := TX1) (N := 6) hx hb hts hinX1_note_X1 tyX1 tyX1_ok nmX1 hown E.1 hP hD.D hS o (zO.get (oX1_at ho)) rfl 2 (by decide) (hts (.fieldLink RX1 25 "EdgeAndSpeed$Habits" "rows" "I") (by decide +kernel)) (fun _ h9 => h9) rfl (tyX1_ok 2 (by decide)) rfl rfl (Nat.le_of_ble_eq_true rfl) dX1_note_42 (zO.setI (oX1_at ho) rfl eI8) (fun H locs hP hS => ?_)
    refine lv_iconst (v := 1) hx hb dX1_note_45 (by decide) ?_
    exact hret _ _ hf (Or.inr rfl) _ _ _ _ hP hS dX1_note_46
  · replace hf := zt k3 hf
    refine lv_iconst (v := 0) hx hb dX1_note_13 (by decide) ?_
    exact hret _ _ hf (Or.inl rfl) _ _ _ _ hP hS dX1_note_14
theorem c_X1_note (l : Launch) {D : va_G} {a0 : Nat → Nat} {A : Nat → Prop} {cy : Nat → ClassId} {ad : Nat → Nat} (hD : zD A 74 ad) {I : zI} {J : zJ} (o : Nat) (ho : zHn o) (p1 : Int32) (p2 : Int32) {rx : Int32} {rI : zI} (hf : f_X1_note I J o p1 p2 = some (rx, rI)) : Met l yX1_note wsX1_note { frames := 1, cells := 0, slots := 0, locals := 22 } (zPc D a0 A cy [.ref (ad o), .int p1, .int p2] (zw 74 (kC cy ad a0) ad I J)) (zQi D A rx (zw 74 (kC cy ad a0) ad rI J)) 0 0 A :=
  zmet RX1 (by decide) rfl rfl (Nat.le_of_ble_eq_true rfl) (fun p e R s m below meth c Q hfr hlo ls S0 hQ => w_X1_note hfr hlo hD o ho p1 p2 hf S0 (fun tx tI hq n01 H locs ls pc hP hS hd => by cases hq; exact hQ H locs _ hS (fun hx hb hr hlocks hfree => W.zret hx hb hr (z01 n01) (fun t ht hW => ⟨⟨_, (), rfl, rfl, zht ht hP⟩, hS.F ht⟩) hfree hd hlocks)))
theorem ddX1_note : yX1_note.cls = RX1 ∧ yX1_note.cls ≠ "java/lang/invoke/MethodHandle" ∧ yX1_note.cls ≠ "java/lang/invoke/VarHandle" ∧ (parseMethodDescriptor yX1_note.desc).map (fun d => d.parameters.length) = some 2 := by decide +kernel

def f_X11_log (I : zI) (J : zJ) (p1 : Int32) (p2 : Int32) (p3 : Int32) (p4 : Int32) : Option (Int32 × zI) := zb1 (f_X0_isState I J 4 p1 p2 p3) (fun x1 => (if x1 = 0 then some ((-1), I) else zb1 (f_X11_within I J p4 0 47) (fun x4 => (if x4 = 0 then some ((-1), I) else zb1 (f_X0_isPass I J 4 p4 p2) (fun x7 => (if x7 = 0 then some ((-1), I) else zb1 (f_X11_speedOf I J p4) (fun x10 => zb2 (f_X1_note I J 24 p3 x10) (fun x12 I13 => (if x12 = 0 then some ((-3), I13) else some ((I13 24 2), I13))))))))))
theorem hinX11_log_X11 : ∀ w ∈ u_ws RX11 TX11 12, w ∈ wsX11_log := by decide +kernel
theorem hinX11_log_X1 : ∀ w ∈ u_ws RX1 TX1 6, w ∈ wsX11_log := by decide +kernel
set_option maxHeartbeats 4000000 in
set_option maxRecDepth 100000 in
theorem w_X11_log {p : Program} {l : Launch} {e : Env} {R : Room} {s : State} {m : MethodId} {args : Array Value} {below : List Frame} {meth : Method} {c : Code} {Q : State → Prop} (hfr : 3 ≤ R.frames) (hlo : 66 ≤ R.locals) {D : va_G} {a0 : Nat → Nat} {A : Nat → Prop} {cy : Nat → ClassId} {ad : Nat → Nat} (hD : zD A 74 ad) {I : zI} {J : zJ} (p1 : Int32) (p2 : Int32) (p3 : Int32) (p4 : Int32) {rx : Int32} {rI : zI} (hf : f_X11_log I J p1 p2 p3 p4 = some (rx, rI)) {ls : Array Slot} (S0 : zSt p m c cX11_log 5 s args wsX11_log RX11 D a0 A cy (zw 74 (kC cy ad a0) ad I J) [.ref (ad 0), .int p1, .int p2, .int p3, .int p4] ls) (hret : ∀ (tx : Int32) (tI : zI), some (tx, tI) = some (rx, rI) → ∀ (H : Heap) (locs : List Loc) (ls : Array Slot) (pc : Nat), va_P D vwCl (zw 74 (kC cy ad a0) ad tI J) H → va_S A s.heap H locs → decode cX11_log pc = .ok (.ireturn, 1) → W p l e R s m args below meth c H locs 0 0 Q (F0 m pc ls [.int tx])) : W p l e R s m args below meth c s.heap [] 0 0 Q (F0 m 0 ls []) := by
  obtain ⟨S, E, hP, hl⟩ := S0
  obtain ⟨hx, hb, hml, hown, hts⟩ := id S
  have hS : va_S A s.heap s.heap [] := va_S.rf
  replace hl : lv_has ls 5 [(0, .ref (ad 0)), (1, .int p1), (2, .int p2), (3, .int p3), (4, .int p4)] := hl
  unfold f_X11_log at hf
  refine lv_aload_n hx hb dX11_log_0 rfl (lv_at hl 0 rfl) ?_
  refine va_get (D := D) (ci := 10) (v := .ref (ad 4)) (C := RX11) (T := TX11) (N := 12) hx hb hts hinX11_log_X11 hown E.1 hP 0 (zO.get (oX11_at)) rfl 1 (by decide) (hts (.fieldLink RX11 19 "EdgeAndSpeed" "bench" "LEdgeAndSpeed$Bench;") (by decide +kernel)) (fun _ h9 => h9) rfl dX11_log_1 ?_
  refine lv_iload_n hx hb dX11_log_4 rfl (lv_at hl 1 rfl) ?_
  refine lv_iload_n hx hb dX11_log_5 rfl (lv_at hl 2 rfl) ?_
  refine lv_iload_n hx hb dX11_log_6 rfl (lv_at hl 3 rfl) ?_
  obtain ⟨x1, h2, hf⟩ := zb1_e hf
  refine zgo_i (zrunV (As := [.int p1, .int p2, .int p3]) (rest := []) S (c_X0_isState l hD 4 (zBat_C (by decide)) p1 p2 p3 h2) (cwV 3 hts gX11_log_X0_isState rfl rfl rfl ddX0_isState ⟨Nat.le_trans (Nat.le_of_ble_eq_true rfl) hfr, Nat.le_trans (Nat.le_of_ble_eq_true rfl) hlo⟩) (va_recv E.1 hP (q := (RX0, TX0, 17)) (ci := 0) rfl (zO.get (zBat_o (zBat_C (by decide))))) E hP hS hl.1 rfl rfl (Nat.le_of_ble_eq_true rfl) dX11_log_7) hS (fun H locs hP hS => ?_)
  refine lv_if_eq (tgt := 37) hx hb dX11_log_10 (by decide) (fun k3 => ?_) (fun k3 => ?_)
  · replace hf := zt k3 hf
    refine lv_iconst (v := (-1)) hx hb dX11_log_37 (by decide) ?_
    exact hret _ _ hf _ _ _ _ hP hS dX11_log_38
  · replace hf := zf k3 hf
    refine lv_iload hx hb dX11_log_13 (lv_at hl 4 rfl) ?_
    refine lv_iconst (v := 0) hx hb dX11_log_15 (by decide) ?_
    refine lv_bipush (v := 47) hx hb dX11_log_16 (by decide) ?_
    obtain ⟨x4, h5, hf⟩ := zb1_e hf
    refine zgo_i (zrunS (As := [.int p4, .int 0, .int 47]) (rest := []) S (c_X11_within l hD p4 0 47 h5) (va_cwS 3 hts gX11_log_X11_within rfl rfl rfl ddX11_within ⟨Nat.le_trans (Nat.le_of_ble_eq_true rfl) hfr, Nat.le_trans (Nat.le_of_ble_eq_true rfl) hlo⟩) E hP hS hl.1 rfl rfl (Nat.le_of_ble_eq_true rfl) dX11_log_18) hS (fun H locs hP hS => ?_)
    refine lv_if_eq (tgt := 37) hx hb dX11_log_21 (by decide) (fun k6 => ?_) (fun k6 => ?_)
    · replace hf := zt k6 hf
      refine lv_iconst (v := (-1)) hx hb dX11_log_37 (by decide) ?_
      exact hret _ _ hf _ _ _ _ hP hS dX11_log_38
    · replace hf := zf k6 hf
      refine lv_aload_n hx hb dX11_log_24 rfl (lv_at hl 0 rfl) ?_
      refine va_get (D := D) (ci := 10) (v := .ref (ad 4)) (C := RX11) (T := TX11) (N := 12) hx hb hts hinX11_log_X11 hown E.1 hP 0 (zO.get (oX11_at)) rfl 1 (by decide) (hts (.fieldLink RX11 19 "EdgeAndSpeed" "bench" "LEdgeAndSpeed$Bench;") (by decide +kernel)) (fun _ h9 => h9) rfl dX11_log_25 ?_
      refine lv_iload hx hb dX11_log_28 (lv_at hl 4 rfl) ?_
      refine lv_iload_n hx hb dX11_log_30 rfl (lv_at hl 2 rfl) ?_
      obtain ⟨x7, h8, hf⟩ := zb1_e hf
      refine zgo_i (zrunV (As := [.int p4, .int p2]) (rest := []) S (c_X0_isPass l hD 4 (zBat_C (by decide)) p4 p2 h8) (cwV 2 hts gX11_log_X0_isPass rfl rfl rfl ddX0_isPass ⟨Nat.le_trans (Nat.le_of_ble_eq_true rfl) hfr, Nat.le_trans (Nat.le_of_ble_eq_true rfl) hlo⟩) (va_recv E.1 hP (q := (RX0, TX0, 17)) (ci := 0) rfl (zO.get (zBat_o (zBat_C (by decide))))) E hP hS hl.1 rfl rfl (Nat.le_of_ble_eq_true rfl) dX11_log_31) hS (fun H locs hP hS => ?_)
      refine lv_if_ne (tgt := 39) hx hb dX11_log_34 (by decide) (fun k9 => ?_) (fun k9 => ?_)
      · replace hf := zf k9 hf
        refine lv_aload_n hx hb dX11_log_39 rfl (lv_at hl 0 rfl) ?_
        refine va_get (D := D) (ci := 10) (v := .ref (ad 24)) (C := RX11) (T := TX11) (N := 12) hx hb hts hinX11_log_X11 hown E.1 hP 0 (zO.get (oX11_at)) rfl 3 (by decide) (hts (.fieldLink RX11 29 "EdgeAndSpeed" "habits" "LEdgeAndSpeed$Habits;") (by decide +kernel)) (fun _ h9 => h9) rfl dX11_log_40 ?_
        refine lv_iload_n hx hb dX11_log_43 rfl (lv_at hl 3 rfl) ?_
        refine lv_iload hx hb dX11_log_44 (lv_at hl 4 rfl) ?_
        obtain ⟨x10, h11, hf⟩ := zb1_e hf
        refine zgo_i (zrunS (As := [.int p4]) (rest := [.int p3, .ref (ad 24)]) S (c_X11_speedOf l hD p4 h11) (va_cwS 1 hts gX11_log_X11_speedOf rfl rfl rfl ddX11_speedOf ⟨Nat.le_trans (Nat.le_of_ble_eq_true rfl) hfr, Nat.le_trans (Nat.le_of_ble_eq_true rfl) hlo⟩) E hP hS hl.1 rfl rfl (Nat.le_of_ble_eq_true rfl) dX11_log_46) hS (fun H locs hP hS => ?_)
        obtain ⟨x12, I13, h14, hf⟩ := zb2_e hf
        refine zgo_i (zrunV (As := [.int p3, .int x10]) (rest := []) S (c_X1_note l hD 24 (by decide) p3 x10 h14) (cwV 2 hts gX11_log_X1_note rfl rfl rfl ddX1_note ⟨Nat.le_trans (Nat.le_of_ble_eq_true rfl) hfr, Nat.le_trans (Nat.le_of_ble_eq_true rfl) hlo⟩) (va_recv E.1 hP (q := (RX1, TX1, 6)) (ci := 1) rfl (zO.get (oX1_at (by decide)))) E hP hS hl.1 rfl rfl (Nat.le_of_ble_eq_true rfl) dX11_log_49) hS (fun H locs hP hS => ?_)
        refine lv_if_eq (tgt := 65) hx hb dX11_log_52 (by decide) (fun k15 => ?_) (fun k15 => ?_)
        · replace hf := zt k15 hf
          refine lv_bipush (v := (-3)) hx hb dX11_log_65 (by decide) ?_
          exact hret _ _ hf _ _ _ _ hP hS dX11_log_67
        · replace hf := zf k15 hf
          refine lv_aload_n hx hb dX11_log_55 rfl (lv_at hl 0 rfl) ?_
          refine va_get (D := D) (ci := 10) (v := .ref (ad 24)) (C := RX11) (T := TX11) (N := 12) hx hb hts hinX11_log_X11 hown E.1 hP 0 (zO.get (oX11_at)) rfl 3 (by decide) (hts (.fieldLink RX11 29 "EdgeAndSpeed" "habits" "LEdgeAndSpeed$Habits;") (by decide +kernel)) (fun _ h9 => h9) rfl dX11_log_56 ?_
          refine va_getN (D := D) (ci := 1) (v := .int (I13 24 2)) (C := RX1) (T := TX1) (N := 6) hx hb hts hinX11_log_X1 hown E.1 hP 24 (zO.get (oX1_at (by decide))) rfl 2 (by decide) (zNfw_12 E.2.2) (fun _ h9 => h9) rfl dX11_log_59 ?_
          refine lv_goto (tgt := 67) hx hb dX11_log_62 (by decide) ?_
          exact hret _ _ hf _ _ _ _ hP hS dX11_log_67
      · replace hf := zt k9 hf
        refine lv_iconst (v := (-1)) hx hb dX11_log_37 (by decide) ?_
        exact hret _ _ hf _ _ _ _ hP hS dX11_log_38
theorem c_X11_log (l : Launch) {D : va_G} {a0 : Nat → Nat} {A : Nat → Prop} {cy : Nat → ClassId} {ad : Nat → Nat} (hD : zD A 74 ad) {I : zI} {J : zJ} (p1 : Int32) (p2 : Int32) (p3 : Int32) (p4 : Int32) {rx : Int32} {rI : zI} (hf : f_X11_log I J p1 p2 p3 p4 = some (rx, rI)) : Met l yX11_log wsX11_log { frames := 3, cells := 0, slots := 0, locals := 66 } (zPc D a0 A cy [.ref (ad 0), .int p1, .int p2, .int p3, .int p4] (zw 74 (kC cy ad a0) ad I J)) (zQi D A rx (zw 74 (kC cy ad a0) ad rI J)) 0 0 A :=
  zmet RX11 (by decide) rfl rfl (Nat.le_of_ble_eq_true rfl) (fun p e R s m below meth c Q hfr hlo ls S0 hQ => w_X11_log hfr hlo hD p1 p2 p3 p4 hf S0 (fun tx tI hq H locs ls pc hP hS hd => by cases hq; exact hQ H locs _ hS (fun hx hb hr hlocks hfree => W.iret hx hb hr (fun t ht hW => ⟨⟨_, (), rfl, rfl, zht ht hP⟩, hS.F ht⟩) hfree hd hlocks)))
theorem ddX11_log : yX11_log.cls = RX11 ∧ yX11_log.cls ≠ "java/lang/invoke/MethodHandle" ∧ yX11_log.cls ≠ "java/lang/invoke/VarHandle" ∧ (parseMethodDescriptor yX11_log.desc).map (fun d => d.parameters.length) = some 4 := by decide +kernel

def f_X11_noLog (I : zI) (J : zJ) : Option (Int32 × zI) := zn ((I 24 2)) (fun y1 => zn (va_up I 24 (va_up (I 24) 2 0)) (fun I2 => some (y1, I2)))
theorem hinX11_noLog_X11 : ∀ w ∈ u_ws RX11 TX11 12, w ∈ wsX11_noLog := by decide +kernel
theorem hinX11_noLog_X1 : ∀ w ∈ u_ws RX1 TX1 6, w ∈ wsX11_noLog := by decide +kernel
set_option maxHeartbeats 4000000 in
set_option maxRecDepth 100000 in
theorem w_X11_noLog {p : Program} {l : Launch} {e : Env} {R : Room} {s : State} {m : MethodId} {args : Array Value} {below : List Frame} {meth : Method} {c : Code} {Q : State → Prop} (hfr : 0 ≤ R.frames) (hlo : 0 ≤ R.locals) {D : va_G} {a0 : Nat → Nat} {A : Nat → Prop} {cy : Nat → ClassId} {ad : Nat → Nat} (hD : zD A 74 ad) {I : zI} {J : zJ}  {rx : Int32} {rI : zI} (hf : f_X11_noLog I J = some (rx, rI)) {ls : Array Slot} (S0 : zSt p m c cX11_noLog 2 s args wsX11_noLog RX11 D a0 A cy (zw 74 (kC cy ad a0) ad I J) [.ref (ad 0)] ls) (hret : ∀ (tx : Int32) (tI : zI), some (tx, tI) = some (rx, rI) → ∀ (H : Heap) (locs : List Loc) (ls : Array Slot) (pc : Nat), va_P D vwCl (zw 74 (kC cy ad a0) ad tI J) H → va_S A s.heap H locs → decode cX11_noLog pc = .ok (.ireturn, 1) → W p l e R s m args below meth c H locs 0 0 Q (F0 m pc ls [.int tx])) : W p l e R s m args below meth c s.heap [] 0 0 Q (F0 m 0 ls []) := by
  obtain ⟨S, E, hP, hl⟩ := S0
  obtain ⟨hx, hb, hml, hown, hts⟩ := id S
  have hS : va_S A s.heap s.heap [] := va_S.rf
  replace hl : lv_has ls 2 [(0, .ref (ad 0))] := hl
  unfold f_X11_noLog at hf
  refine lv_aload_n hx hb dX11_noLog_0 rfl (lv_at hl 0 rfl) ?_
  refine va_get (D := D) (ci := 10) (v := .ref (ad 24)) (C := RX11) (T := TX11) (N := 12) hx hb hts hinX11_noLog_X11 hown E.1 hP 0 (zO.get (oX11_at)) rfl 3 (by decide) (hts (.fieldLink RX11 29 "EdgeAndSpeed" "habits" "LEdgeAndSpeed$Habits;") (by decide +kernel)) (fun _ h9 => h9) rfl dX11_noLog_1 ?_
  refine va_getN (D := D) (ci := 1) (v := .int (I 24 2)) (C := RX1) (T := TX1) (N := 6) hx hb hts hinX11_noLog_X1 hown E.1 hP 24 (zO.get (oX1_at (by decide))) rfl 2 (by decide) (zNfw_12 E.2.2) (fun _ h9 => h9) rfl dX11_noLog_4 ?_
  refine lv_topi (fun y1 ey1 => ?_)
  replace hf := zn_s ey1 hf
  refine lv_istore_n (lv' := [(1, .int y1), (0, .ref (ad 0))]) hx hb dX11_noLog_7 rfl hl (by decide) rfl (fun ls hl => ?_)
  refine lv_aload_n hx hb dX11_noLog_8 rfl (lv_at hl 1 rfl) ?_
  refine va_get (D := D) (ci := 10) (v := .ref (ad 24)) (C := RX11) (T := TX11) (N := 12) hx hb hts hinX11_noLog_X11 hown E.1 hP 0 (zO.get (oX11_at)) rfl 3 (by decide) (hts (.fieldLink RX11 29 "EdgeAndSpeed" "habits" "LEdgeAndSpeed$Habits;") (by decide +kernel)) (fun _ h9 => h9) rfl dX11_noLog_9 ?_
  refine lv_iconst (v := 0) hx hb dX11_noLog_12 (by decide) ?_
  obtain ⟨I2, eI2⟩ := zex (va_up I 24 (va_up (I 24) 2 0))
  replace hf := zn_s eI2 hf
  refine zputN (D := D) (ci := 1) (v := .int 0) (ty := .int) (C := RX1) (T := TX1) (N := 6) hx hb hts hinX11_noLog_X1 tyX1 tyX1_ok nmX1 hown E.1 hP hD.D hS 24 (zO.get (oX1_at (by decide))) rfl 2 (by decide) (zNfw_12 E.2.2) (fun _ h9 => h9) rfl (tyX1_ok 2 (by decide)) rfl rfl (Nat.le_of_ble_eq_true rfl) dX11_noLog_13 (zO.setI (oX1_at (by decide)) rfl eI2) (fun H locs hP hS => ?_)
  refine lv_iload_n hx hb dX11_noLog_16 rfl (lv_at hl 0 rfl) ?_
  exact hret _ _ hf _ _ _ _ hP hS dX11_noLog_17
theorem c_X11_noLog (l : Launch) {D : va_G} {a0 : Nat → Nat} {A : Nat → Prop} {cy : Nat → ClassId} {ad : Nat → Nat} (hD : zD A 74 ad) {I : zI} {J : zJ}  {rx : Int32} {rI : zI} (hf : f_X11_noLog I J = some (rx, rI)) : Met l yX11_noLog wsX11_noLog { frames := 0, cells := 0, slots := 0, locals := 0 } (zPc D a0 A cy [.ref (ad 0)] (zw 74 (kC cy ad a0) ad I J)) (zQi D A rx (zw 74 (kC cy ad a0) ad rI J)) 0 0 A :=
  zmet RX11 (by decide) rfl rfl (Nat.le_of_ble_eq_true rfl) (fun p e R s m below meth c Q hfr hlo ls S0 hQ => w_X11_noLog hfr hlo hD  hf S0 (fun tx tI hq H locs ls pc hP hS hd => by cases hq; exact hQ H locs _ hS (fun hx hb hr hlocks hfree => W.iret hx hb hr (fun t ht hW => ⟨⟨_, (), rfl, rfl, zht ht hP⟩, hS.F ht⟩) hfree hd hlocks)))
theorem ddX11_noLog : yX11_noLog.cls = RX11 ∧ yX11_noLog.cls ≠ "java/lang/invoke/MethodHandle" ∧ yX11_noLog.cls ≠ "java/lang/invoke/VarHandle" ∧ (parseMethodDescriptor yX11_noLog.desc).map (fun d => d.parameters.length) = some 0 := by decide +kernel

def f_X1_offBy_L6 (I : zI) (o : Nat) (p2 : Int32) (p3 : Int32) (p1 : Int32) (x2 : Int32) (x3 : Int32) : Option ((Int32 × Int32) ⊕ Int32) := (if (I o 2) ≤ x3 then some (.inr x2) else (if 20 ≤ x3 then some (.inr x2) else zg (¬ (x3 < 0 ∨ 20 ≤ x3.toNatClampNeg)) (zb1 ((if p2 ≤ (I (o + 1) x3.toNatClampNeg) then some (p3) else some (p1)) : Option Int32) (fun x10 => zg (¬ (x3 < 0 ∨ 20 ≤ x3.toNatClampNeg)) ((if x10 = (I (o + 2) x3.toNatClampNeg) then zn ((x2 + 0)) (fun y15 => zn (x3 + 1) (fun y16 => some (.inl (y15, y16)))) else zn ((x2 + 1)) (fun y13 => zn (x3 + 1) (fun y14 => some (.inl (y13, y14))))))))))
def f_X1_offBy (I : zI) (J : zJ) (o : Nat) (p1 : Int32) (p2 : Int32) (p3 : Int32) : Option Int32 := zb1 (zl (fun v : (Int32 × Int32) => f_X1_offBy_L6 I o p2 p3 p1 v.1 v.2) zF (0, 0)) (fun x17 => some x17)
theorem hinX1_offBy_X1 : ∀ w ∈ u_ws RX1 TX1 6, w ∈ wsX1_offBy := by decide +kernel
set_option maxHeartbeats 4000000 in
set_option maxRecDepth 100000 in
theorem w_X1_offBy {p : Program} {l : Launch} {e : Env} {R : Room} {s : State} {m : MethodId} {args : Array Value} {below : List Frame} {meth : Method} {c : Code} {Q : State → Prop} (hfr : 0 ≤ R.frames) (hlo : 0 ≤ R.locals) {D : va_G} {a0 : Nat → Nat} {A : Nat → Prop} {cy : Nat → ClassId} {ad : Nat → Nat} (hD : zD A 74 ad) {I : zI} {J : zJ} (o : Nat) (ho : zHn o) (p1 : Int32) (p2 : Int32) (p3 : Int32) {rx : Int32} (hf : f_X1_offBy I J o p1 p2 p3 = some rx) {ls : Array Slot} (S0 : zSt p m c cX1_offBy 7 s args wsX1_offBy RX1 D a0 A cy (zw 74 (kC cy ad a0) ad I J) [.ref (ad o), .int p1, .int p2, .int p3] ls) (hret : ∀ (tx : Int32), some tx = some rx → ∀ (H : Heap) (locs : List Loc) (ls : Array Slot) (pc : Nat), va_P D vwCl (zw 74 (kC cy ad a0) ad I J) H → va_S A s.heap H locs → decode cX1_offBy pc = .ok (.ireturn, 1) → W p l e R s m args below meth c H locs 0 0 Q (F0 m pc ls [.int tx])) : W p l e R s m args below meth c s.heap [] 0 0 Q (F0 m 0 ls []) := by
  obtain ⟨S, E, hP, hl⟩ := S0
  obtain ⟨hx, hb, hml, hown, hts⟩ := id S
  have hS : va_S A s.heap s.heap [] := va_S.rf
  replace hl : lv_has ls 7 [(0, .ref (ad o)), (1, .int p1), (2, .int p2), (3, .int p3)] := hl
  unfold f_X1_offBy at hf
  refine lv_iconst (v := 0) hx hb dX1_offBy_0 (by decide) ?_
  refine lv_istore (lv' := [(4, .int 0), (0, .ref (ad o)), (1, .int p1), (2, .int p2), (3, .int p3)]) hx hb dX1_offBy_1 hl (by decide) rfl (fun ls hl => ?_)
  refine lv_iconst (v := 0) hx hb dX1_offBy_3 (by decide) ?_
  refine lv_istore (lv' := [(5, .int 0), (4, .int 0), (0, .ref (ad o)), (1, .int p1), (2, .int p2), (3, .int p3)]) hx hb dX1_offBy_4 hl (by decide) rfl (fun ls hl => ?_)
  obtain ⟨zl1, hf, hzl1⟩ := zb1_i hf
  have hjl1 : ∀ (x17 : Int32), x17 = zl1 → ∀ (H : Heap) (locs : List Loc) (ls : Array Slot), va_P D vwCl (zw 74 (kC cy ad a0) ad I J) H → va_S A s.heap H locs → lv_has ls 7 [(4, .int x17)] → W p l e R s m args below meth c H locs 0 0 Q (F0 m 68 ls []) := by
    intro x17 ez H locs ls hP hS hl
    have hf := hzl1 x17 ez
    refine lv_iload hx hb dX1_offBy_68 (lv_at hl 0 rfl) ?_
    exact hret _ hf _ _ _ _ hP hS dX1_offBy_70
  refine zl_i (V := (Int32 × Int32)) (P := fun v => ∀ (H : Heap) (locs : List Loc) (ls : Array Slot), va_P D vwCl (zw 74 (kC cy ad a0) ad I J) H → va_S A s.heap H locs → lv_has ls 7 [(0, .ref (ad o)), (1, .int p1), (2, .int p2), (3, .int p3), (4, .int (v.1)), (5, .int (v.2))] → W p l e R s m args below meth c H locs 0 0 Q (F0 m 6 ls [])) ?_ _ _ hf _ _ _ hP hS (lv_sub hl [2, 3, 4, 5, 1, 0] rfl)
  intro v z hf hcl1 hdl1
  obtain ⟨x2, x3⟩ := v
  intro H locs ls hP hS hl
  replace hf : f_X1_offBy_L6 I o p2 p3 p1 x2 x3 = some z := hf
  unfold f_X1_offBy_L6 at hf
  replace hP : va_P D vwCl (zw 74 (kC cy ad a0) ad I J) H := hP
  replace hl : lv_has ls 7 [(0, .ref (ad o)), (1, .int p1), (2, .int p2), (3, .int p3), (4, .int x2), (5, .int x3)] := hl
  refine lv_iload hx hb dX1_offBy_6 (lv_at hl 5 rfl) ?_
  refine lv_aload_n hx hb dX1_offBy_8 rfl (lv_at hl 0 rfl) ?_
  refine va_get (D := D) (ci := 1) (v := .int (I o 2)) (C := RX1) (T := TX1) (N := 6) hx hb hts hinX1_offBy_X1 hown E.1 hP o (zO.get (oX1_at ho)) rfl 2 (by decide) (hts (.fieldLink RX1 25 "EdgeAndSpeed$Habits" "rows" "I") (by decide +kernel)) (fun _ h9 => h9) rfl dX1_offBy_9 ?_
  refine lv_icmp_ge (tgt := 68) hx hb dX1_offBy_12 (by decide) (fun k4 => ?_) (fun k4 => ?_)
  · replace hf := zt k4 hf
    exact hjl1 _ (hdl1 _ (Option.some.inj hf).symm) _ _ _ hP hS (lv_sub hl [4] rfl)
  · replace hf := zf k4 hf
    refine lv_iload hx hb dX1_offBy_15 (lv_at hl 5 rfl) ?_
    refine lv_bipush (v := 20) hx hb dX1_offBy_17 (by decide) ?_
    refine lv_icmp_ge (tgt := 68) hx hb dX1_offBy_19 (by decide) (fun k5 => ?_) (fun k5 => ?_)
    · replace hf := zt k5 hf
      exact hjl1 _ (hdl1 _ (Option.some.inj hf).symm) _ _ _ hP hS (lv_sub hl [4] rfl)
    · replace hf := zf k5 hf
      refine lv_aload_n hx hb dX1_offBy_22 rfl (lv_at hl 0 rfl) ?_
      refine va_get (D := D) (ci := 1) (v := .ref (ad (o + 1))) (C := RX1) (T := TX1) (N := 6) hx hb hts hinX1_offBy_X1 hown E.1 hP o (zO.get (oX1_at ho)) rfl 0 (by decide) (hts (.fieldLink RX1 9 "EdgeAndSpeed$Habits" "wears" "[I") (by decide +kernel)) (fun _ h9 => h9) rfl dX1_offBy_23 ?_
      refine lv_iload hx hb dX1_offBy_26 (lv_at hl 5 rfl) ?_
      obtain ⟨g6, hf⟩ := zg_i hf
      refine va_iald hx hb E.1 hP (o + 1) 1 (zIA.get (aX1_0 ho)) rfl g6 dX1_offBy_28 ?_
      refine lv_iload_n hx hb dX1_offBy_29 rfl (lv_at hl 2 rfl) ?_
      obtain ⟨zr9, hf, hzr9⟩ := zb1_i hf
      have hjr9 : ∀ (x10 : Int32), x10 = zr9 → ∀ (H : Heap) (locs : List Loc) (ls : Array Slot), va_P D vwCl (zw 74 (kC cy ad a0) ad I J) H → va_S A s.heap H locs → lv_has ls 7 [(0, .ref (ad o)), (1, .int p1), (2, .int p2), (3, .int p3), (4, .int x2), (5, .int x3)] → W p l e R s m args below meth c H locs 0 0 Q (F0 m 38 ls [.int x10]) := by
        intro x10 ez H locs ls hP hS hl
        have hf := hzr9 x10 ez
        refine lv_istore (lv' := [(6, .int x10), (0, .ref (ad o)), (1, .int p1), (2, .int p2), (3, .int p3), (4, .int x2), (5, .int x3)]) hx hb dX1_offBy_38 hl (by decide) rfl (fun ls hl => ?_)
        refine lv_iload hx hb dX1_offBy_40 (lv_at hl 5 rfl) ?_
        refine lv_iload hx hb dX1_offBy_42 (lv_at hl 0 rfl) ?_
        refine lv_aload_n hx hb dX1_offBy_44 rfl (lv_at hl 1 rfl) ?_
        refine va_get (D := D) (ci := 1) (v := .ref (ad (o + 2))) (C := RX1) (T := TX1) (N := 6) hx hb hts hinX1_offBy_X1 hown E.1 hP o (zO.get (oX1_at ho)) rfl 1 (by decide) (hts (.fieldLink RX1 15 "EdgeAndSpeed$Habits" "speeds" "[I") (by decide +kernel)) (fun _ h9 => h9) rfl dX1_offBy_45 ?_
        refine lv_iload hx hb dX1_offBy_48 (lv_at hl 6 rfl) ?_
        obtain ⟨g11, hf⟩ := zg_i hf
        refine va_iald hx hb E.1 hP (o + 2) 1 (zIA.get (aX1_1 ho)) rfl g11 dX1_offBy_50 ?_
        refine lv_icmp_ne (tgt := 58) hx hb dX1_offBy_51 (by decide) (fun k12 => ?_) (fun k12 => ?_)
        · replace hf := zf k12 hf
          refine lv_iconst (v := 1) hx hb dX1_offBy_58 (by decide) ?_
          refine lv_iadd hx hb dX1_offBy_59 ?_
          refine lv_topi (fun y13 ey13 => ?_)
          replace hf := zn_s ey13 hf
          refine lv_istore (lv' := [(4, .int y13), (6, .int x10), (0, .ref (ad o)), (1, .int p1), (2, .int p2), (3, .int p3), (5, .int x3)]) hx hb dX1_offBy_60 hl (by decide) rfl (fun ls hl => ?_)
          obtain ⟨y14, ey14⟩ := zex (x3 + 1)
          replace hf := zn_s ey14 hf
          refine lv_iinc (v := y14) (lv' := [(5, .int y14), (4, .int y13), (6, .int x10), (0, .ref (ad o)), (1, .int p1), (2, .int p2), (3, .int p3)]) hx hb dX1_offBy_62 hl (k := 6) rfl (by rw [ey14]; rfl) (by decide) rfl (fun ls hl => ?_)
          refine lv_goto (tgt := 6) hx hb dX1_offBy_65 (by decide) ?_
          exact hcl1 _ (Option.some.inj hf).symm _ _ _ hP hS (lv_sub hl [3, 4, 5, 6, 1, 0] rfl)
        · replace hf := zt k12 hf
          refine lv_iconst (v := 0) hx hb dX1_offBy_54 (by decide) ?_
          refine lv_goto (tgt := 59) hx hb dX1_offBy_55 (by decide) ?_
          refine lv_iadd hx hb dX1_offBy_59 ?_
          refine lv_topi (fun y15 ey15 => ?_)
          replace hf := zn_s ey15 hf
          refine lv_istore (lv' := [(4, .int y15), (6, .int x10), (0, .ref (ad o)), (1, .int p1), (2, .int p2), (3, .int p3), (5, .int x3)]) hx hb dX1_offBy_60 hl (by decide) rfl (fun ls hl => ?_)
          obtain ⟨y16, ey16⟩ := zex (x3 + 1)
          replace hf := zn_s ey16 hf
          refine lv_iinc (v := y16) (lv' := [(5, .int y16), (4, .int y15), (6, .int x10), (0, .ref (ad o)), (1, .int p1), (2, .int p2), (3, .int p3)]) hx hb dX1_offBy_62 hl (k := 6) rfl (by rw [ey16]; rfl) (by decide) rfl (fun ls hl => ?_)
          refine lv_goto (tgt := 6) hx hb dX1_offBy_65 (by decide) ?_
          exact hcl1 _ (Option.some.inj hf).symm _ _ _ hP hS (lv_sub hl [3, 4, 5, 6, 1, 0] rfl)
      refine lv_icmp_ge (tgt := 37) hx hb dX1_offBy_30 (by decide) (fun k7 => ?_) (fun k7 => ?_)
      · replace hf := zt k7 hf
        refine lv_iload_n hx hb dX1_offBy_37 rfl (lv_at hl 3 rfl) ?_
        exact hjr9 _ (Option.some.inj hf) _ _ _ hP hS (lv_sub hl [0, 1, 2, 3, 4, 5] rfl)
      · replace hf := zf k7 hf
        refine lv_iload_n hx hb dX1_offBy_33 rfl (lv_at hl 1 rfl) ?_
        refine lv_goto (tgt := 38) hx hb dX1_offBy_34 (by decide) ?_
        exact hjr9 _ (Option.some.inj hf) _ _ _ hP hS (lv_sub hl [0, 1, 2, 3, 4, 5] rfl)
theorem c_X1_offBy (l : Launch) {D : va_G} {a0 : Nat → Nat} {A : Nat → Prop} {cy : Nat → ClassId} {ad : Nat → Nat} (hD : zD A 74 ad) {I : zI} {J : zJ} (o : Nat) (ho : zHn o) (p1 : Int32) (p2 : Int32) (p3 : Int32) {rx : Int32} (hf : f_X1_offBy I J o p1 p2 p3 = some rx) : Met l yX1_offBy wsX1_offBy { frames := 0, cells := 0, slots := 0, locals := 0 } (zPc D a0 A cy [.ref (ad o), .int p1, .int p2, .int p3] (zw 74 (kC cy ad a0) ad I J)) (zQi D A rx (zw 74 (kC cy ad a0) ad I J)) 0 0 A :=
  zmet RX1 (by decide) rfl rfl (Nat.le_of_ble_eq_true rfl) (fun p e R s m below meth c Q hfr hlo ls S0 hQ => w_X1_offBy hfr hlo hD o ho p1 p2 p3 hf S0 (fun tx hq H locs ls pc hP hS hd => by cases hq; exact hQ H locs _ hS (fun hx hb hr hlocks hfree => W.iret hx hb hr (fun t ht hW => ⟨⟨_, (), rfl, rfl, zht ht hP⟩, hS.F ht⟩) hfree hd hlocks)))
theorem ddX1_offBy : yX1_offBy.cls = RX1 ∧ yX1_offBy.cls ≠ "java/lang/invoke/MethodHandle" ∧ yX1_offBy.cls ≠ "java/lang/invoke/VarHandle" ∧ (parseMethodDescriptor yX1_offBy.desc).map (fun d => d.parameters.length) = some 3 := by decide +kernel

def f_X11_off (I : zI) (J : zJ) (p1 : Int32) (p2 : Int32) (p3 : Int32) : Option Int32 := zb1 (f_X0_hasSpeed I J 4 p1) (fun x1 => (if x1 = 0 then some (-1) else zb1 (f_X0_hasSpeed I J 4 p3) (fun x4 => (if x4 = 0 then some (-1) else zb1 (f_X11_within I J p2 0 100) (fun x7 => (if x7 = 0 then some (-1) else zb1 (f_X1_offBy I J 24 p1 p2 p3) (fun x10 => some x10)))))))
theorem hinX11_off_X11 : ∀ w ∈ u_ws RX11 TX11 12, w ∈ wsX11_off := by decide +kernel
set_option maxHeartbeats 4000000 in
set_option maxRecDepth 100000 in
theorem w_X11_off {p : Program} {l : Launch} {e : Env} {R : Room} {s : State} {m : MethodId} {args : Array Value} {below : List Frame} {meth : Method} {c : Code} {Q : State → Prop} (hfr : 2 ≤ R.frames) (hlo : 43 ≤ R.locals) {D : va_G} {a0 : Nat → Nat} {A : Nat → Prop} {cy : Nat → ClassId} {ad : Nat → Nat} (hD : zD A 74 ad) {I : zI} {J : zJ} (p1 : Int32) (p2 : Int32) (p3 : Int32) {rx : Int32} (hf : f_X11_off I J p1 p2 p3 = some rx) {ls : Array Slot} (S0 : zSt p m c cX11_off 4 s args wsX11_off RX11 D a0 A cy (zw 74 (kC cy ad a0) ad I J) [.ref (ad 0), .int p1, .int p2, .int p3] ls) (hret : ∀ (tx : Int32), some tx = some rx → ∀ (H : Heap) (locs : List Loc) (ls : Array Slot) (pc : Nat), va_P D vwCl (zw 74 (kC cy ad a0) ad I J) H → va_S A s.heap H locs → decode cX11_off pc = .ok (.ireturn, 1) → W p l e R s m args below meth c H locs 0 0 Q (F0 m pc ls [.int tx])) : W p l e R s m args below meth c s.heap [] 0 0 Q (F0 m 0 ls []) := by
  obtain ⟨S, E, hP, hl⟩ := S0
  obtain ⟨hx, hb, hml, hown, hts⟩ := id S
  have hS : va_S A s.heap s.heap [] := va_S.rf
  replace hl : lv_has ls 4 [(0, .ref (ad 0)), (1, .int p1), (2, .int p2), (3, .int p3)] := hl
  unfold f_X11_off at hf
  refine lv_aload_n hx hb dX11_off_0 rfl (lv_at hl 0 rfl) ?_
  refine va_get (D := D) (ci := 10) (v := .ref (ad 4)) (C := RX11) (T := TX11) (N := 12) hx hb hts hinX11_off_X11 hown E.1 hP 0 (zO.get (oX11_at)) rfl 1 (by decide) (hts (.fieldLink RX11 19 "EdgeAndSpeed" "bench" "LEdgeAndSpeed$Bench;") (by decide +kernel)) (fun _ h9 => h9) rfl dX11_off_1 ?_
  refine lv_iload_n hx hb dX11_off_4 rfl (lv_at hl 1 rfl) ?_
  obtain ⟨x1, h2, hf⟩ := zb1_e hf
  refine zgo_i (zrunV (As := [.int p1]) (rest := []) S (c_X0_hasSpeed l hD 4 (zBat_C (by decide)) p1 h2) (cwV 1 hts gX11_off_X0_hasSpeed rfl rfl rfl ddX0_hasSpeed ⟨Nat.le_trans (Nat.le_of_ble_eq_true rfl) hfr, Nat.le_trans (Nat.le_of_ble_eq_true rfl) hlo⟩) (va_recv E.1 hP (q := (RX0, TX0, 17)) (ci := 0) rfl (zO.get (zBat_o (zBat_C (by decide))))) E hP hS hl.1 rfl rfl (Nat.le_of_ble_eq_true rfl) dX11_off_5) hS (fun H locs hP hS => ?_)
  refine lv_if_eq (tgt := 32) hx hb dX11_off_8 (by decide) (fun k3 => ?_) (fun k3 => ?_)
  · replace hf := zt k3 hf
    refine lv_iconst (v := (-1)) hx hb dX11_off_32 (by decide) ?_
    exact hret _ hf _ _ _ _ hP hS dX11_off_33
  · replace hf := zf k3 hf
    refine lv_aload_n hx hb dX11_off_11 rfl (lv_at hl 0 rfl) ?_
    refine va_get (D := D) (ci := 10) (v := .ref (ad 4)) (C := RX11) (T := TX11) (N := 12) hx hb hts hinX11_off_X11 hown E.1 hP 0 (zO.get (oX11_at)) rfl 1 (by decide) (hts (.fieldLink RX11 19 "EdgeAndSpeed" "bench" "LEdgeAndSpeed$Bench;") (by decide +kernel)) (fun _ h9 => h9) rfl dX11_off_12 ?_
    refine lv_iload_n hx hb dX11_off_15 rfl (lv_at hl 3 rfl) ?_
    obtain ⟨x4, h5, hf⟩ := zb1_e hf
    refine zgo_i (zrunV (As := [.int p3]) (rest := []) S (c_X0_hasSpeed l hD 4 (zBat_C (by decide)) p3 h5) (cwV 1 hts gX11_off_X0_hasSpeed rfl rfl rfl ddX0_hasSpeed ⟨Nat.le_trans (Nat.le_of_ble_eq_true rfl) hfr, Nat.le_trans (Nat.le_of_ble_eq_true rfl) hlo⟩) (va_recv E.1 hP (q := (RX0, TX0, 17)) (ci := 0) rfl (zO.get (zBat_o (zBat_C (by decide))))) E hP hS hl.1 rfl rfl (Nat.le_of_ble_eq_true rfl) dX11_off_16) hS (fun H locs hP hS => ?_)
    refine lv_if_eq (tgt := 32) hx hb dX11_off_19 (by decide) (fun k6 => ?_) (fun k6 => ?_)
    · replace hf := zt k6 hf
      refine lv_iconst (v := (-1)) hx hb dX11_off_32 (by decide) ?_
      exact hret _ hf _ _ _ _ hP hS dX11_off_33
    · replace hf := zf k6 hf
      refine lv_iload_n hx hb dX11_off_22 rfl (lv_at hl 2 rfl) ?_
      refine lv_iconst (v := 0) hx hb dX11_off_23 (by decide) ?_
      refine lv_bipush (v := 100) hx hb dX11_off_24 (by decide) ?_
      obtain ⟨x7, h8, hf⟩ := zb1_e hf
      refine zgo_i (zrunS (As := [.int p2, .int 0, .int 100]) (rest := []) S (c_X11_within l hD p2 0 100 h8) (va_cwS 3 hts gX11_off_X11_within rfl rfl rfl ddX11_within ⟨Nat.le_trans (Nat.le_of_ble_eq_true rfl) hfr, Nat.le_trans (Nat.le_of_ble_eq_true rfl) hlo⟩) E hP hS hl.1 rfl rfl (Nat.le_of_ble_eq_true rfl) dX11_off_26) hS (fun H locs hP hS => ?_)
      refine lv_if_ne (tgt := 34) hx hb dX11_off_29 (by decide) (fun k9 => ?_) (fun k9 => ?_)
      · replace hf := zf k9 hf
        refine lv_aload_n hx hb dX11_off_34 rfl (lv_at hl 0 rfl) ?_
        refine va_get (D := D) (ci := 10) (v := .ref (ad 24)) (C := RX11) (T := TX11) (N := 12) hx hb hts hinX11_off_X11 hown E.1 hP 0 (zO.get (oX11_at)) rfl 3 (by decide) (hts (.fieldLink RX11 29 "EdgeAndSpeed" "habits" "LEdgeAndSpeed$Habits;") (by decide +kernel)) (fun _ h9 => h9) rfl dX11_off_35 ?_
        refine lv_iload_n hx hb dX11_off_38 rfl (lv_at hl 1 rfl) ?_
        refine lv_iload_n hx hb dX11_off_39 rfl (lv_at hl 2 rfl) ?_
        refine lv_iload_n hx hb dX11_off_40 rfl (lv_at hl 3 rfl) ?_
        obtain ⟨x10, h11, hf⟩ := zb1_e hf
        refine zgo_i (zrunV (As := [.int p1, .int p2, .int p3]) (rest := []) S (c_X1_offBy l hD 24 (by decide) p1 p2 p3 h11) (cwV 3 hts gX11_off_X1_offBy rfl rfl rfl ddX1_offBy ⟨Nat.le_trans (Nat.le_of_ble_eq_true rfl) hfr, Nat.le_trans (Nat.le_of_ble_eq_true rfl) hlo⟩) (va_recv E.1 hP (q := (RX1, TX1, 6)) (ci := 1) rfl (zO.get (oX1_at (by decide)))) E hP hS hl.1 rfl rfl (Nat.le_of_ble_eq_true rfl) dX11_off_41) hS (fun H locs hP hS => ?_)
        exact hret _ hf _ _ _ _ hP hS dX11_off_44
      · replace hf := zt k9 hf
        refine lv_iconst (v := (-1)) hx hb dX11_off_32 (by decide) ?_
        exact hret _ hf _ _ _ _ hP hS dX11_off_33
theorem c_X11_off (l : Launch) {D : va_G} {a0 : Nat → Nat} {A : Nat → Prop} {cy : Nat → ClassId} {ad : Nat → Nat} (hD : zD A 74 ad) {I : zI} {J : zJ} (p1 : Int32) (p2 : Int32) (p3 : Int32) {rx : Int32} (hf : f_X11_off I J p1 p2 p3 = some rx) : Met l yX11_off wsX11_off { frames := 2, cells := 0, slots := 0, locals := 43 } (zPc D a0 A cy [.ref (ad 0), .int p1, .int p2, .int p3] (zw 74 (kC cy ad a0) ad I J)) (zQi D A rx (zw 74 (kC cy ad a0) ad I J)) 0 0 A :=
  zmet RX11 (by decide) rfl rfl (Nat.le_of_ble_eq_true rfl) (fun p e R s m below meth c Q hfr hlo ls S0 hQ => w_X11_off hfr hlo hD p1 p2 p3 hf S0 (fun tx hq H locs ls pc hP hS hd => by cases hq; exact hQ H locs _ hS (fun hx hb hr hlocks hfree => W.iret hx hb hr (fun t ht hW => ⟨⟨_, (), rfl, rfl, zht ht hP⟩, hS.F ht⟩) hfree hd hlocks)))
theorem ddX11_off : yX11_off.cls = RX11 ∧ yX11_off.cls ≠ "java/lang/invoke/MethodHandle" ∧ yX11_off.cls ≠ "java/lang/invoke/VarHandle" ∧ (parseMethodDescriptor yX11_off.desc).map (fun d => d.parameters.length) = some 3 := by decide +kernel

def f_X1_rankOf (I : zI) (J : zJ) (o : Nat) (p1 : Int32) (p2 : Int32) (p3 : Int32) : Option Int32 := zb1 (f_X1_offBy I J o p1 p2 p3) (fun x1 => zb1 ((if p1 = p3 then some (0) else some (1)) : Option Int32) (fun x6 => zn (((2 * x1) + x6)) (fun y7 => some ((((((y7 * 6) + p1) * 101) + p2) * 6) + p3))))
set_option maxHeartbeats 4000000 in
set_option maxRecDepth 100000 in
theorem w_X1_rankOf {p : Program} {l : Launch} {e : Env} {R : Room} {s : State} {m : MethodId} {args : Array Value} {below : List Frame} {meth : Method} {c : Code} {Q : State → Prop} (hfr : 1 ≤ R.frames) (hlo : 26 ≤ R.locals) {D : va_G} {a0 : Nat → Nat} {A : Nat → Prop} {cy : Nat → ClassId} {ad : Nat → Nat} (hD : zD A 74 ad) {I : zI} {J : zJ} (o : Nat) (ho : zHn o) (p1 : Int32) (p2 : Int32) (p3 : Int32) {rx : Int32} (hf : f_X1_rankOf I J o p1 p2 p3 = some rx) {ls : Array Slot} (S0 : zSt p m c cX1_rankOf 5 s args wsX1_rankOf RX1 D a0 A cy (zw 74 (kC cy ad a0) ad I J) [.ref (ad o), .int p1, .int p2, .int p3] ls) (hret : ∀ (tx : Int32), some tx = some rx → ∀ (H : Heap) (locs : List Loc) (ls : Array Slot) (pc : Nat), va_P D vwCl (zw 74 (kC cy ad a0) ad I J) H → va_S A s.heap H locs → decode cX1_rankOf pc = .ok (.ireturn, 1) → W p l e R s m args below meth c H locs 0 0 Q (F0 m pc ls [.int tx])) : W p l e R s m args below meth c s.heap [] 0 0 Q (F0 m 0 ls []) := by
  obtain ⟨S, E, hP, hl⟩ := S0
  obtain ⟨hx, hb, hml, hown, hts⟩ := id S
  have hS : va_S A s.heap s.heap [] := va_S.rf
  replace hl : lv_has ls 5 [(0, .ref (ad o)), (1, .int p1), (2, .int p2), (3, .int p3)] := hl
  unfold f_X1_rankOf at hf
  refine lv_iconst (v := 2) hx hb dX1_rankOf_0 (by decide) ?_
  refine lv_aload_n hx hb dX1_rankOf_1 rfl (lv_at hl 0 rfl) ?_
  refine lv_iload_n hx hb dX1_rankOf_2 rfl (lv_at hl 1 rfl) ?_
  refine lv_iload_n hx hb dX1_rankOf_3 rfl (lv_at hl 2 rfl) ?_
  refine lv_iload_n hx hb dX1_rankOf_4 rfl (lv_at hl 3 rfl) ?_
  obtain ⟨x1, h2, hf⟩ := zb1_e hf
  refine zgo_i (zrunV (As := [.int p1, .int p2, .int p3]) (rest := [.int 2]) S (c_X1_offBy l hD o ho p1 p2 p3 h2) (cwV 3 hts gX1_rankOf_X1_offBy rfl rfl rfl ddX1_offBy ⟨Nat.le_trans (Nat.le_of_ble_eq_true rfl) hfr, Nat.le_trans (Nat.le_of_ble_eq_true rfl) hlo⟩) (va_recv E.1 hP (q := (RX1, TX1, 6)) (ci := 1) rfl (zO.get (oX1_at ho))) E hP hS hl.1 rfl rfl (Nat.le_of_ble_eq_true rfl) dX1_rankOf_5) hS (fun H locs hP hS => ?_)
  refine lv_imul hx hb dX1_rankOf_8 ?_
  refine lv_iload_n hx hb dX1_rankOf_9 rfl (lv_at hl 1 rfl) ?_
  refine lv_iload_n hx hb dX1_rankOf_10 rfl (lv_at hl 3 rfl) ?_
  obtain ⟨zr5, hf, hzr5⟩ := zb1_i hf
  have hjr5 : ∀ (x6 : Int32), x6 = zr5 → ∀ (H : Heap) (locs : List Loc) (ls : Array Slot), va_P D vwCl (zw 74 (kC cy ad a0) ad I J) H → va_S A s.heap H locs → lv_has ls 5 [(1, .int p1), (2, .int p2), (3, .int p3)] → W p l e R s m args below meth c H locs 0 0 Q (F0 m 19 ls [.int x6, .int (2 * x1)]) := by
    intro x6 ez H locs ls hP hS hl
    have hf := hzr5 x6 ez
    refine lv_iadd hx hb dX1_rankOf_19 ?_
    refine lv_topi (fun y7 ey7 => ?_)
    replace hf := zn_s ey7 hf
    refine lv_istore (lv' := [(4, .int y7), (1, .int p1), (2, .int p2), (3, .int p3)]) hx hb dX1_rankOf_20 hl (by decide) rfl (fun ls hl => ?_)
    refine lv_iload hx hb dX1_rankOf_22 (lv_at hl 0 rfl) ?_
    refine lv_bipush (v := 6) hx hb dX1_rankOf_24 (by decide) ?_
    refine lv_imul hx hb dX1_rankOf_26 ?_
    refine lv_iload_n hx hb dX1_rankOf_27 rfl (lv_at hl 1 rfl) ?_
    refine lv_iadd hx hb dX1_rankOf_28 ?_
    refine lv_bipush (v := 101) hx hb dX1_rankOf_29 (by decide) ?_
    refine lv_imul hx hb dX1_rankOf_31 ?_
    refine lv_iload_n hx hb dX1_rankOf_32 rfl (lv_at hl 2 rfl) ?_
    refine lv_iadd hx hb dX1_rankOf_33 ?_
    refine lv_bipush (v := 6) hx hb dX1_rankOf_34 (by decide) ?_
    refine lv_imul hx hb dX1_rankOf_36 ?_
    refine lv_iload_n hx hb dX1_rankOf_37 rfl (lv_at hl 3 rfl) ?_
    refine lv_iadd hx hb dX1_rankOf_38 ?_
    exact hret _ hf _ _ _ _ hP hS dX1_rankOf_39
  refine lv_icmp_ne (tgt := 18) hx hb dX1_rankOf_11 (by decide) (fun k3 => ?_) (fun k3 => ?_)
  · replace hf := zf k3 hf
    refine lv_iconst (v := 1) hx hb dX1_rankOf_18 (by decide) ?_
    exact hjr5 _ (Option.some.inj hf) _ _ _ hP hS (lv_sub hl [1, 2, 3] rfl)
  · replace hf := zt k3 hf
    refine lv_iconst (v := 0) hx hb dX1_rankOf_14 (by decide) ?_
    refine lv_goto (tgt := 19) hx hb dX1_rankOf_15 (by decide) ?_
    exact hjr5 _ (Option.some.inj hf) _ _ _ hP hS (lv_sub hl [1, 2, 3] rfl)
theorem c_X1_rankOf (l : Launch) {D : va_G} {a0 : Nat → Nat} {A : Nat → Prop} {cy : Nat → ClassId} {ad : Nat → Nat} (hD : zD A 74 ad) {I : zI} {J : zJ} (o : Nat) (ho : zHn o) (p1 : Int32) (p2 : Int32) (p3 : Int32) {rx : Int32} (hf : f_X1_rankOf I J o p1 p2 p3 = some rx) : Met l yX1_rankOf wsX1_rankOf { frames := 1, cells := 0, slots := 0, locals := 26 } (zPc D a0 A cy [.ref (ad o), .int p1, .int p2, .int p3] (zw 74 (kC cy ad a0) ad I J)) (zQi D A rx (zw 74 (kC cy ad a0) ad I J)) 0 0 A :=
  zmet RX1 (by decide) rfl rfl (Nat.le_of_ble_eq_true rfl) (fun p e R s m below meth c Q hfr hlo ls S0 hQ => w_X1_rankOf hfr hlo hD o ho p1 p2 p3 hf S0 (fun tx hq H locs ls pc hP hS hd => by cases hq; exact hQ H locs _ hS (fun hx hb hr hlocks hfree => W.iret hx hb hr (fun t ht hW => ⟨⟨_, (), rfl, rfl, zht ht hP⟩, hS.F ht⟩) hfree hd hlocks)))
theorem ddX1_rankOf : yX1_rankOf.cls = RX1 ∧ yX1_rankOf.cls ≠ "java/lang/invoke/MethodHandle" ∧ yX1_rankOf.cls ≠ "java/lang/invoke/VarHandle" ∧ (parseMethodDescriptor yX1_rankOf.desc).map (fun d => d.parameters.length) = some 3 := by decide +kernel

def f_X1_plainestRule_L44 (p1 : Int32) (x5 : Int32) (I : zI) (J : zJ) (o : Nat) (x12 : Int32) (x15 : Int32) (x16 : Int32) : Option ((Int32 × Int32) ⊕ Int32) := (if p1 ≤ x16 then some (.inr x15) else (if x5 = x16 then zn (x16 + 1) (fun y23 => some (.inl (x15, y23))) else zb1 (f_X1_rankOf I J o x5 x12 x16) (fun x19 => zn ((if x19 < x15 then x19 else x15)) (fun y21 => zn (x16 + 1) (fun y22 => some (.inl (y21, y22)))))))
def f_X1_plainestRule_L34 (p1 : Int32) (x5 : Int32) (I : zI) (J : zJ) (o : Nat) (x11 : Int32) (x12 : Int32) : Option ((Int32 × Int32) ⊕ Int32) := (if 100 < x12 then some (.inr x11) else zb1 (zl (fun v : (Int32 × Int32) => f_X1_plainestRule_L44 p1 x5 I J o x12 v.1 v.2) zF (x11, 0)) (fun x24 => zn (x12 + 1) (fun y25 => some (.inl (x24, y25)))))
def f_X1_plainestRule_L11 (p1 : Int32) (I : zI) (J : zJ) (o : Nat) (x4 : Int32) (x5 : Int32) : Option ((Int32 × Int32) ⊕ Int32) := (if p1 ≤ x5 then some (.inr x4) else zb1 (f_X1_rankOf I J o x5 0 x5) (fun x7 => zn ((if x7 < x4 then x7 else x4)) (fun y9 => zb1 (zl (fun v : (Int32 × Int32) => f_X1_plainestRule_L34 p1 x5 I J o v.1 v.2) zF (y9, 0)) (fun x26 => zn (x5 + 1) (fun y27 => some (.inl (x26, y27)))))))
def f_X1_plainestRule (I : zI) (J : zJ) (o : Nat) (p1 : Int32) (p2 : Int32) : Option Int32 := zb1 (f_X1_rankOf I J o 0 0 0) (fun x1 => zb1 (zl (fun v : (Int32 × Int32) => f_X1_plainestRule_L11 p1 I J o v.1 v.2) zF (x1, 0)) (fun x28 => (if p2 = 0 then some (((x28 / 6) / 101) - ((x28 / 6) / 101) / 6 * 6) else if p2 = 1 then some ((x28 / 6) - (x28 / 6) / 101 * 101) else if p2 = 2 then some (x28 - x28 / 6 * 6) else some ((((x28 / 6) / 101) / 6) / 2))))
set_option maxHeartbeats 4000000 in
set_option maxRecDepth 100000 in
theorem w_X1_plainestRule {p : Program} {l : Launch} {e : Env} {R : Room} {s : State} {m : MethodId} {args : Array Value} {below : List Frame} {meth : Method} {c : Code} {Q : State → Prop} (hfr : 2 ≤ R.frames) (hlo : 50 ≤ R.locals) {D : va_G} {a0 : Nat → Nat} {A : Nat → Prop} {cy : Nat → ClassId} {ad : Nat → Nat} (hD : zD A 74 ad) {I : zI} {J : zJ} (o : Nat) (ho : zHn o) (p1 : Int32) (p2 : Int32) {rx : Int32} (hf : f_X1_plainestRule I J o p1 p2 = some rx) {ls : Array Slot} (S0 : zSt p m c cX1_plainestRule 7 s args wsX1_plainestRule RX1 D a0 A cy (zw 74 (kC cy ad a0) ad I J) [.ref (ad o), .int p1, .int p2] ls) (hret : ∀ (tx : Int32), some tx = some rx → ∀ (H : Heap) (locs : List Loc) (ls : Array Slot) (pc : Nat), va_P D vwCl (zw 74 (kC cy ad a0) ad I J) H → va_S A s.heap H locs → decode cX1_plainestRule pc = .ok (.ireturn, 1) → W p l e R s m args below meth c H locs 0 0 Q (F0 m pc ls [.int tx])) : W p l e R s m args below meth c s.heap [] 0 0 Q (F0 m 0 ls []) := by
  obtain ⟨S, E, hP, hl⟩ := S0
  obtain ⟨hx, hb, hml, hown, hts⟩ := id S
  have hS : va_S A s.heap s.heap [] := va_S.rf
  replace hl : lv_has ls 7 [(0, .ref (ad o)), (1, .int p1), (2, .int p2)] := hl
  unfold f_X1_plainestRule at hf
  refine lv_aload_n hx hb dX1_plainestRule_0 rfl (lv_at hl 0 rfl) ?_
  refine lv_iconst (v := 0) hx hb dX1_plainestRule_1 (by decide) ?_
  refine lv_iconst (v := 0) hx hb dX1_plainestRule_2 (by decide) ?_
  refine lv_iconst (v := 0) hx hb dX1_plainestRule_3 (by decide) ?_
  obtain ⟨x1, h2, hf⟩ := zb1_e hf
  refine zgo_i (zrunV (As := [.int 0, .int 0, .int 0]) (rest := []) S (c_X1_rankOf l hD o ho 0 0 0 h2) (cwV 3 hts gX1_plainestRule_X1_rankOf rfl rfl rfl ddX1_rankOf ⟨Nat.le_trans (Nat.le_of_ble_eq_true rfl) hfr, Nat.le_trans (Nat.le_of_ble_eq_true rfl) hlo⟩) (va_recv E.1 hP (q := (RX1, TX1, 6)) (ci := 1) rfl (zO.get (oX1_at ho))) E hP hS hl.1 rfl rfl (Nat.le_of_ble_eq_true rfl) dX1_plainestRule_4) hS (fun H locs hP hS => ?_)
  refine lv_istore_n (lv' := [(3, .int x1), (0, .ref (ad o)), (1, .int p1), (2, .int p2)]) hx hb dX1_plainestRule_7 rfl hl (by decide) rfl (fun ls hl => ?_)
  refine lv_iconst (v := 0) hx hb dX1_plainestRule_8 (by decide) ?_
  refine lv_istore (lv' := [(4, .int 0), (3, .int x1), (0, .ref (ad o)), (1, .int p1), (2, .int p2)]) hx hb dX1_plainestRule_9 hl (by decide) rfl (fun ls hl => ?_)
  obtain ⟨zl3, hf, hzl3⟩ := zb1_i hf
  have hjl3 : ∀ (x28 : Int32), x28 = zl3 → ∀ (H : Heap) (locs : List Loc) (ls : Array Slot), va_P D vwCl (zw 74 (kC cy ad a0) ad I J) H → va_S A s.heap H locs → lv_has ls 7 [(2, .int p2), (3, .int x28)] → W p l e R s m args below meth c H locs 0 0 Q (F0 m 94 ls []) := by
    intro x28 ez H locs ls hP hS hl
    have hf := hzl3 x28 ez
    refine lv_iload_n hx hb dX1_plainestRule_94 rfl (lv_at hl 0 rfl) ?_
    rcases Decidable.em (p2 = 0) with k29 | k29
    · replace hf := zt k29 hf
      refine lv_tableIn (off := 25) (tgt := 120) hx hb dX1_plainestRule_95 (by rw [k29]; decide) (by rw [k29]; decide) (by rw [k29]; rfl) (by decide) ?_
      refine lv_iload_n hx hb dX1_plainestRule_120 rfl (lv_at hl 1 rfl) ?_
      refine lv_bipush (v := 6) hx hb dX1_plainestRule_121 (by decide) ?_
      refine lv_idiv hx hb dX1_plainestRule_123 (by decide) ?_
      refine lv_bipush (v := 101) hx hb dX1_plainestRule_124 (by decide) ?_
      refine lv_idiv hx hb dX1_plainestRule_126 (by decide) ?_
      refine lv_bipush (v := 6) hx hb dX1_plainestRule_127 (by decide) ?_
      refine lv_irem hx hb dX1_plainestRule_129 (by decide) ?_
      exact hret _ hf _ _ _ _ hP hS dX1_plainestRule_130
    replace hf := zf k29 hf
    rcases Decidable.em (p2 = 1) with k30 | k30
    · replace hf := zt k30 hf
      refine lv_tableIn (off := 36) (tgt := 131) hx hb dX1_plainestRule_95 (by rw [k30]; decide) (by rw [k30]; decide) (by rw [k30]; rfl) (by decide) ?_
      refine lv_iload_n hx hb dX1_plainestRule_131 rfl (lv_at hl 1 rfl) ?_
      refine lv_bipush (v := 6) hx hb dX1_plainestRule_132 (by decide) ?_
      refine lv_idiv hx hb dX1_plainestRule_134 (by decide) ?_
      refine lv_bipush (v := 101) hx hb dX1_plainestRule_135 (by decide) ?_
      refine lv_irem hx hb dX1_plainestRule_137 (by decide) ?_
      exact hret _ hf _ _ _ _ hP hS dX1_plainestRule_138
    replace hf := zf k30 hf
    rcases Decidable.em (p2 = 2) with k31 | k31
    · replace hf := zt k31 hf
      refine lv_tableIn (off := 44) (tgt := 139) hx hb dX1_plainestRule_95 (by rw [k31]; decide) (by rw [k31]; decide) (by rw [k31]; rfl) (by decide) ?_
      refine lv_iload_n hx hb dX1_plainestRule_139 rfl (lv_at hl 1 rfl) ?_
      refine lv_bipush (v := 6) hx hb dX1_plainestRule_140 (by decide) ?_
      refine lv_irem hx hb dX1_plainestRule_142 (by decide) ?_
      exact hret _ hf _ _ _ _ hP hS dX1_plainestRule_143
    replace hf := zf k31 hf
    refine lv_tableOut (tgt := 144) hx hb dX1_plainestRule_95 (zTab (lo := 0) (hi := 2) (fun v h1 h2 h3 => by have h4 : v = 0 ∨ v = 1 ∨ v = 2 := (by omega); rcases h4 with rfl | rfl | rfl <;> first | exact k29 (Int32.toInt_inj.mp h3) | exact k30 (Int32.toInt_inj.mp h3) | exact k31 (Int32.toInt_inj.mp h3))) (by decide) ?_
    refine lv_iload_n hx hb dX1_plainestRule_144 rfl (lv_at hl 1 rfl) ?_
    refine lv_bipush (v := 6) hx hb dX1_plainestRule_145 (by decide) ?_
    refine lv_idiv hx hb dX1_plainestRule_147 (by decide) ?_
    refine lv_bipush (v := 101) hx hb dX1_plainestRule_148 (by decide) ?_
    refine lv_idiv hx hb dX1_plainestRule_150 (by decide) ?_
    refine lv_bipush (v := 6) hx hb dX1_plainestRule_151 (by decide) ?_
    refine lv_idiv hx hb dX1_plainestRule_153 (by decide) ?_
    refine lv_iconst (v := 2) hx hb dX1_plainestRule_154 (by decide) ?_
    refine lv_idiv hx hb dX1_plainestRule_155 (by decide) ?_
    exact hret _ hf _ _ _ _ hP hS dX1_plainestRule_156
  refine zl_i (V := (Int32 × Int32)) (P := fun v => ∀ (H : Heap) (locs : List Loc) (ls : Array Slot), va_P D vwCl (zw 74 (kC cy ad a0) ad I J) H → va_S A s.heap H locs → lv_has ls 7 [(0, .ref (ad o)), (1, .int p1), (2, .int p2), (3, .int (v.1)), (4, .int (v.2))] → W p l e R s m args below meth c H locs 0 0 Q (F0 m 11 ls [])) ?_ _ _ hf _ _ _ hP hS (lv_sub hl [2, 3, 4, 1, 0] rfl)
  intro v z hf hcl3 hdl3
  obtain ⟨x4, x5⟩ := v
  intro H locs ls hP hS hl
  replace hf : f_X1_plainestRule_L11 p1 I J o x4 x5 = some z := hf
  unfold f_X1_plainestRule_L11 at hf
  replace hP : va_P D vwCl (zw 74 (kC cy ad a0) ad I J) H := hP
  replace hl : lv_has ls 7 [(0, .ref (ad o)), (1, .int p1), (2, .int p2), (3, .int x4), (4, .int x5)] := hl
  refine lv_iload hx hb dX1_plainestRule_11 (lv_at hl 4 rfl) ?_
  refine lv_iload_n hx hb dX1_plainestRule_13 rfl (lv_at hl 1 rfl) ?_
  refine lv_icmp_ge (tgt := 94) hx hb dX1_plainestRule_14 (by decide) (fun k6 => ?_) (fun k6 => ?_)
  · replace hf := zt k6 hf
    exact hjl3 _ (hdl3 _ (Option.some.inj hf).symm) _ _ _ hP hS (lv_sub hl [2, 3] rfl)
  · replace hf := zf k6 hf
    refine lv_iload_n hx hb dX1_plainestRule_17 rfl (lv_at hl 3 rfl) ?_
    refine lv_aload_n hx hb dX1_plainestRule_18 rfl (lv_at hl 0 rfl) ?_
    refine lv_iload hx hb dX1_plainestRule_19 (lv_at hl 4 rfl) ?_
    refine lv_iconst (v := 0) hx hb dX1_plainestRule_21 (by decide) ?_
    refine lv_iload hx hb dX1_plainestRule_22 (lv_at hl 4 rfl) ?_
    obtain ⟨x7, h8, hf⟩ := zb1_e hf
    refine zgo_i (zrunV (As := [.int x5, .int 0, .int x5]) (rest := [.int x4]) S (c_X1_rankOf l hD o ho x5 0 x5 h8) (cwV 3 hts gX1_plainestRule_X1_rankOf rfl rfl rfl ddX1_rankOf ⟨Nat.le_trans (Nat.le_of_ble_eq_true rfl) hfr, Nat.le_trans (Nat.le_of_ble_eq_true rfl) hlo⟩) (va_recv E.1 hP (q := (RX1, TX1, 6)) (ci := 1) rfl (zO.get (oX1_at ho))) E hP hS hl.1 rfl rfl (Nat.le_of_ble_eq_true rfl) dX1_plainestRule_24) hS (fun H locs hP hS => ?_)
    refine va_mmin hx hb (hml.trans hl.1.symm) hown (hts (.methodLink RX1 45 Lib.Math.min.name) (by decide +kernel)) (hts (.static Lib.Math.min.name) (by decide +kernel)) (hts (.initialized "java/lang/Math") (by decide +kernel)) (hts (.code Lib.Math.min.name Lib.Math.min.code 2 (some .int)) (by decide +kernel)) (Nat.le_trans (Nat.le_of_ble_eq_true rfl) hfr) (Nat.le_trans (Nat.le_of_ble_eq_true rfl) hlo) (Nat.zero_le _) (Nat.zero_le _) dX1_plainestRule_27 ?_
    refine lv_topi (fun y9 ey9 => ?_)
    replace hf := zn_s ey9 hf
    refine lv_istore_n (lv' := [(3, .int y9), (0, .ref (ad o)), (1, .int p1), (2, .int p2), (4, .int x5)]) hx hb dX1_plainestRule_30 rfl hl (by decide) rfl (fun ls hl => ?_)
    refine lv_iconst (v := 0) hx hb dX1_plainestRule_31 (by decide) ?_
    refine lv_istore (lv' := [(5, .int 0), (3, .int y9), (0, .ref (ad o)), (1, .int p1), (2, .int p2), (4, .int x5)]) hx hb dX1_plainestRule_32 hl (by decide) rfl (fun ls hl => ?_)
    obtain ⟨zl10, hf, hzl10⟩ := zb1_i hf
    have hjl10 : ∀ (x26 : Int32), x26 = zl10 → ∀ (H : Heap) (locs : List Loc) (ls : Array Slot), va_P D vwCl (zw 74 (kC cy ad a0) ad I J) H → va_S A s.heap H locs → lv_has ls 7 [(0, .ref (ad o)), (1, .int p1), (2, .int p2), (3, .int x26), (4, .int x5)] → W p l e R s m args below meth c H locs 0 0 Q (F0 m 88 ls []) := by
      intro x26 ez H locs ls hP hS hl
      have hf := hzl10 x26 ez
      obtain ⟨y27, ey27⟩ := zex (x5 + 1)
      replace hf := zn_s ey27 hf
      refine lv_iinc (v := y27) (lv' := [(4, .int y27), (0, .ref (ad o)), (1, .int p1), (2, .int p2), (3, .int x26)]) hx hb dX1_plainestRule_88 hl (k := 4) rfl (by rw [ey27]; rfl) (by decide) rfl (fun ls hl => ?_)
      refine lv_goto (tgt := 11) hx hb dX1_plainestRule_91 (by decide) ?_
      exact hcl3 _ (Option.some.inj hf).symm _ _ _ hP hS (lv_sub hl [1, 2, 3, 4, 0] rfl)
    refine zl_i (V := (Int32 × Int32)) (P := fun v => ∀ (H : Heap) (locs : List Loc) (ls : Array Slot), va_P D vwCl (zw 74 (kC cy ad a0) ad I J) H → va_S A s.heap H locs → lv_has ls 7 [(0, .ref (ad o)), (1, .int p1), (2, .int p2), (3, .int (v.1)), (4, .int x5), (5, .int (v.2))] → W p l e R s m args below meth c H locs 0 0 Q (F0 m 34 ls [])) ?_ _ _ hf _ _ _ hP hS (lv_sub hl [2, 3, 4, 1, 5, 0] rfl)
    intro v z hf hcl10 hdl10
    obtain ⟨x11, x12⟩ := v
    intro H locs ls hP hS hl
    replace hf : f_X1_plainestRule_L34 p1 x5 I J o x11 x12 = some z := hf
    unfold f_X1_plainestRule_L34 at hf
    replace hP : va_P D vwCl (zw 74 (kC cy ad a0) ad I J) H := hP
    replace hl : lv_has ls 7 [(0, .ref (ad o)), (1, .int p1), (2, .int p2), (3, .int x11), (4, .int x5), (5, .int x12)] := hl
    refine lv_iload hx hb dX1_plainestRule_34 (lv_at hl 5 rfl) ?_
    refine lv_bipush (v := 100) hx hb dX1_plainestRule_36 (by decide) ?_
    refine lv_icmp_gt (tgt := 88) hx hb dX1_plainestRule_38 (by decide) (fun k13 => ?_) (fun k13 => ?_)
    · replace hf := zt k13 hf
      exact hjl10 _ (hdl10 _ (Option.some.inj hf).symm) _ _ _ hP hS (lv_sub hl [0, 1, 2, 3, 4] rfl)
    · replace hf := zf k13 hf
      refine lv_iconst (v := 0) hx hb dX1_plainestRule_41 (by decide) ?_
      refine lv_istore (lv' := [(6, .int 0), (0, .ref (ad o)), (1, .int p1), (2, .int p2), (3, .int x11), (4, .int x5), (5, .int x12)]) hx hb dX1_plainestRule_42 hl (by decide) rfl (fun ls hl => ?_)
      obtain ⟨zl14, hf, hzl14⟩ := zb1_i hf
      have hjl14 : ∀ (x24 : Int32), x24 = zl14 → ∀ (H : Heap) (locs : List Loc) (ls : Array Slot), va_P D vwCl (zw 74 (kC cy ad a0) ad I J) H → va_S A s.heap H locs → lv_has ls 7 [(0, .ref (ad o)), (1, .int p1), (2, .int p2), (3, .int x24), (4, .int x5), (5, .int x12)] → W p l e R s m args below meth c H locs 0 0 Q (F0 m 82 ls []) := by
        intro x24 ez H locs ls hP hS hl
        have hf := hzl14 x24 ez
        obtain ⟨y25, ey25⟩ := zex (x12 + 1)
        replace hf := zn_s ey25 hf
        refine lv_iinc (v := y25) (lv' := [(5, .int y25), (0, .ref (ad o)), (1, .int p1), (2, .int p2), (3, .int x24), (4, .int x5)]) hx hb dX1_plainestRule_82 hl (k := 5) rfl (by rw [ey25]; rfl) (by decide) rfl (fun ls hl => ?_)
        refine lv_goto (tgt := 34) hx hb dX1_plainestRule_85 (by decide) ?_
        exact hcl10 _ (Option.some.inj hf).symm _ _ _ hP hS (lv_sub hl [1, 2, 3, 4, 5, 0] rfl)
      refine zl_i (V := (Int32 × Int32)) (P := fun v => ∀ (H : Heap) (locs : List Loc) (ls : Array Slot), va_P D vwCl (zw 74 (kC cy ad a0) ad I J) H → va_S A s.heap H locs → lv_has ls 7 [(0, .ref (ad o)), (1, .int p1), (2, .int p2), (3, .int (v.1)), (4, .int x5), (5, .int x12), (6, .int (v.2))] → W p l e R s m args below meth c H locs 0 0 Q (F0 m 44 ls [])) ?_ _ _ hf _ _ _ hP hS (lv_sub hl [1, 2, 3, 4, 5, 6, 0] rfl)
      intro v z hf hcl14 hdl14
      obtain ⟨x15, x16⟩ := v
      intro H locs ls hP hS hl
      replace hf : f_X1_plainestRule_L44 p1 x5 I J o x12 x15 x16 = some z := hf
      unfold f_X1_plainestRule_L44 at hf
      replace hP : va_P D vwCl (zw 74 (kC cy ad a0) ad I J) H := hP
      replace hl : lv_has ls 7 [(0, .ref (ad o)), (1, .int p1), (2, .int p2), (3, .int x15), (4, .int x5), (5, .int x12), (6, .int x16)] := hl
      refine lv_iload hx hb dX1_plainestRule_44 (lv_at hl 6 rfl) ?_
      refine lv_iload_n hx hb dX1_plainestRule_46 rfl (lv_at hl 1 rfl) ?_
      refine lv_icmp_ge (tgt := 82) hx hb dX1_plainestRule_47 (by decide) (fun k17 => ?_) (fun k17 => ?_)
      · replace hf := zt k17 hf
        exact hjl14 _ (hdl14 _ (Option.some.inj hf).symm) _ _ _ hP hS (lv_sub hl [0, 1, 2, 3, 4, 5] rfl)
      · replace hf := zf k17 hf
        refine lv_iload hx hb dX1_plainestRule_50 (lv_at hl 4 rfl) ?_
        refine lv_iload hx hb dX1_plainestRule_52 (lv_at hl 6 rfl) ?_
        refine lv_icmp_ne (tgt := 61) hx hb dX1_plainestRule_54 (by decide) (fun k18 => ?_) (fun k18 => ?_)
        · replace hf := zf k18 hf
          refine lv_iload_n hx hb dX1_plainestRule_61 rfl (lv_at hl 3 rfl) ?_
          refine lv_aload_n hx hb dX1_plainestRule_62 rfl (lv_at hl 0 rfl) ?_
          refine lv_iload hx hb dX1_plainestRule_63 (lv_at hl 4 rfl) ?_
          refine lv_iload hx hb dX1_plainestRule_65 (lv_at hl 5 rfl) ?_
          refine lv_iload hx hb dX1_plainestRule_67 (lv_at hl 6 rfl) ?_
          obtain ⟨x19, h20, hf⟩ := zb1_e hf
          refine zgo_i (zrunV (As := [.int x5, .int x12, .int x16]) (rest := [.int x15]) S (c_X1_rankOf l hD o ho x5 x12 x16 h20) (cwV 3 hts gX1_plainestRule_X1_rankOf rfl rfl rfl ddX1_rankOf ⟨Nat.le_trans (Nat.le_of_ble_eq_true rfl) hfr, Nat.le_trans (Nat.le_of_ble_eq_true rfl) hlo⟩) (va_recv E.1 hP (q := (RX1, TX1, 6)) (ci := 1) rfl (zO.get (oX1_at ho))) E hP hS hl.1 rfl rfl (Nat.le_of_ble_eq_true rfl) dX1_plainestRule_69) hS (fun H locs hP hS => ?_)
          refine va_mmin hx hb (hml.trans hl.1.symm) hown (hts (.methodLink RX1 45 Lib.Math.min.name) (by decide +kernel)) (hts (.static Lib.Math.min.name) (by decide +kernel)) (hts (.initialized "java/lang/Math") (by decide +kernel)) (hts (.code Lib.Math.min.name Lib.Math.min.code 2 (some .int)) (by decide +kernel)) (Nat.le_trans (Nat.le_of_ble_eq_true rfl) hfr) (Nat.le_trans (Nat.le_of_ble_eq_true rfl) hlo) (Nat.zero_le _) (Nat.zero_le _) dX1_plainestRule_72 ?_
          refine lv_topi (fun y21 ey21 => ?_)
          replace hf := zn_s ey21 hf
          refine lv_istore_n (lv' := [(3, .int y21), (0, .ref (ad o)), (1, .int p1), (2, .int p2), (4, .int x5), (5, .int x12), (6, .int x16)]) hx hb dX1_plainestRule_75 rfl hl (by decide) rfl (fun ls hl => ?_)
          obtain ⟨y22, ey22⟩ := zex (x16 + 1)
          replace hf := zn_s ey22 hf
          refine lv_iinc (v := y22) (lv' := [(6, .int y22), (3, .int y21), (0, .ref (ad o)), (1, .int p1), (2, .int p2), (4, .int x5), (5, .int x12)]) hx hb dX1_plainestRule_76 hl (k := 6) rfl (by rw [ey22]; rfl) (by decide) rfl (fun ls hl => ?_)
          refine lv_goto (tgt := 44) hx hb dX1_plainestRule_79 (by decide) ?_
          exact hcl14 _ (Option.some.inj hf).symm _ _ _ hP hS (lv_sub hl [2, 3, 4, 1, 5, 6, 0] rfl)
        · replace hf := zt k18 hf
          refine lv_iload_n hx hb dX1_plainestRule_57 rfl (lv_at hl 3 rfl) ?_
          refine lv_goto (tgt := 75) hx hb dX1_plainestRule_58 (by decide) ?_
          refine lv_istore_n (lv' := [(3, .int x15), (0, .ref (ad o)), (1, .int p1), (2, .int p2), (4, .int x5), (5, .int x12), (6, .int x16)]) hx hb dX1_plainestRule_75 rfl hl (by decide) rfl (fun ls hl => ?_)
          obtain ⟨y23, ey23⟩ := zex (x16 + 1)
          replace hf := zn_s ey23 hf
          refine lv_iinc (v := y23) (lv' := [(6, .int y23), (3, .int x15), (0, .ref (ad o)), (1, .int p1), (2, .int p2), (4, .int x5), (5, .int x12)]) hx hb dX1_plainestRule_76 hl (k := 6) rfl (by rw [ey23]; rfl) (by decide) rfl (fun ls hl => ?_)
          refine lv_goto (tgt := 44) hx hb dX1_plainestRule_79 (by decide) ?_
          exact hcl14 _ (Option.some.inj hf).symm _ _ _ hP hS (lv_sub hl [2, 3, 4, 1, 5, 6, 0] rfl)
theorem c_X1_plainestRule (l : Launch) {D : va_G} {a0 : Nat → Nat} {A : Nat → Prop} {cy : Nat → ClassId} {ad : Nat → Nat} (hD : zD A 74 ad) {I : zI} {J : zJ} (o : Nat) (ho : zHn o) (p1 : Int32) (p2 : Int32) {rx : Int32} (hf : f_X1_plainestRule I J o p1 p2 = some rx) : Met l yX1_plainestRule wsX1_plainestRule { frames := 2, cells := 0, slots := 0, locals := 50 } (zPc D a0 A cy [.ref (ad o), .int p1, .int p2] (zw 74 (kC cy ad a0) ad I J)) (zQi D A rx (zw 74 (kC cy ad a0) ad I J)) 0 0 A :=
  zmet RX1 (by decide) rfl rfl (Nat.le_of_ble_eq_true rfl) (fun p e R s m below meth c Q hfr hlo ls S0 hQ => w_X1_plainestRule hfr hlo hD o ho p1 p2 hf S0 (fun tx hq H locs ls pc hP hS hd => by cases hq; exact hQ H locs _ hS (fun hx hb hr hlocks hfree => W.iret hx hb hr (fun t ht hW => ⟨⟨_, (), rfl, rfl, zht ht hP⟩, hS.F ht⟩) hfree hd hlocks)))
theorem ddX1_plainestRule : yX1_plainestRule.cls = RX1 ∧ yX1_plainestRule.cls ≠ "java/lang/invoke/MethodHandle" ∧ yX1_plainestRule.cls ≠ "java/lang/invoke/VarHandle" ∧ (parseMethodDescriptor yX1_plainestRule.desc).map (fun d => d.parameters.length) = some 2 := by decide +kernel

def f_X11_plainest (I : zI) (J : zJ) (p1 : Int32) : Option Int32 := zb1 (f_X11_within I J p1 0 3) (fun x1 => (if x1 = 0 then some (-1) else zb1 (f_X1_plainestRule I J 24 (I 4 9) p1) (fun x4 => some x4)))
theorem hinX11_plainest_X11 : ∀ w ∈ u_ws RX11 TX11 12, w ∈ wsX11_plainest := by decide +kernel
theorem hinX11_plainest_X0 : ∀ w ∈ u_ws RX0 TX0 17, w ∈ wsX11_plainest := by decide +kernel
set_option maxHeartbeats 4000000 in
set_option maxRecDepth 100000 in
theorem w_X11_plainest {p : Program} {l : Launch} {e : Env} {R : Room} {s : State} {m : MethodId} {args : Array Value} {below : List Frame} {meth : Method} {c : Code} {Q : State → Prop} (hfr : 3 ≤ R.frames) (hlo : 76 ≤ R.locals) {D : va_G} {a0 : Nat → Nat} {A : Nat → Prop} {cy : Nat → ClassId} {ad : Nat → Nat} (hD : zD A 74 ad) {I : zI} {J : zJ} (p1 : Int32) {rx : Int32} (hf : f_X11_plainest I J p1 = some rx) {ls : Array Slot} (S0 : zSt p m c cX11_plainest 2 s args wsX11_plainest RX11 D a0 A cy (zw 74 (kC cy ad a0) ad I J) [.ref (ad 0), .int p1] ls) (hret : ∀ (tx : Int32), some tx = some rx → ∀ (H : Heap) (locs : List Loc) (ls : Array Slot) (pc : Nat), va_P D vwCl (zw 74 (kC cy ad a0) ad I J) H → va_S A s.heap H locs → decode cX11_plainest pc = .ok (.ireturn, 1) → W p l e R s m args below meth c H locs 0 0 Q (F0 m pc ls [.int tx])) : W p l e R s m args below meth c s.heap [] 0 0 Q (F0 m 0 ls []) := by
  obtain ⟨S, E, hP, hl⟩ := S0
  obtain ⟨hx, hb, hml, hown, hts⟩ := id S
  have hS : va_S A s.heap s.heap [] := va_S.rf
  replace hl : lv_has ls 2 [(0, .ref (ad 0)), (1, .int p1)] := hl
  unfold f_X11_plainest at hf
  refine lv_iload_n hx hb dX11_plainest_0 rfl (lv_at hl 1 rfl) ?_
  refine lv_iconst (v := 0) hx hb dX11_plainest_1 (by decide) ?_
  refine lv_iconst (v := 3) hx hb dX11_plainest_2 (by decide) ?_
  obtain ⟨x1, h2, hf⟩ := zb1_e hf
  refine zgo_i (zrunS (As := [.int p1, .int 0, .int 3]) (rest := []) S (c_X11_within l hD p1 0 3 h2) (va_cwS 3 hts gX11_plainest_X11_within rfl rfl rfl ddX11_within ⟨Nat.le_trans (Nat.le_of_ble_eq_true rfl) hfr, Nat.le_trans (Nat.le_of_ble_eq_true rfl) hlo⟩) E hP hS hl.1 rfl rfl (Nat.le_of_ble_eq_true rfl) dX11_plainest_3) hS (fun H locs hP hS => ?_)
  refine lv_if_eq (tgt := 27) hx hb dX11_plainest_6 (by decide) (fun k3 => ?_) (fun k3 => ?_)
  · replace hf := zt k3 hf
    refine lv_iconst (v := (-1)) hx hb dX11_plainest_27 (by decide) ?_
    exact hret _ hf _ _ _ _ hP hS dX11_plainest_28
  · replace hf := zf k3 hf
    refine lv_aload_n hx hb dX11_plainest_9 rfl (lv_at hl 0 rfl) ?_
    refine va_get (D := D) (ci := 10) (v := .ref (ad 24)) (C := RX11) (T := TX11) (N := 12) hx hb hts hinX11_plainest_X11 hown E.1 hP 0 (zO.get (oX11_at)) rfl 3 (by decide) (hts (.fieldLink RX11 29 "EdgeAndSpeed" "habits" "LEdgeAndSpeed$Habits;") (by decide +kernel)) (fun _ h9 => h9) rfl dX11_plainest_10 ?_
    refine lv_aload_n hx hb dX11_plainest_13 rfl (lv_at hl 0 rfl) ?_
    refine va_get (D := D) (ci := 10) (v := .ref (ad 4)) (C := RX11) (T := TX11) (N := 12) hx hb hts hinX11_plainest_X11 hown E.1 hP 0 (zO.get (oX11_at)) rfl 1 (by decide) (hts (.fieldLink RX11 19 "EdgeAndSpeed" "bench" "LEdgeAndSpeed$Bench;") (by decide +kernel)) (fun _ h9 => h9) rfl dX11_plainest_14 ?_
    refine va_getN (D := D) (ci := 0) (v := .int (I 4 9)) (C := RX0) (T := TX0) (N := 17) hx hb hts hinX11_plainest_X0 hown E.1 hP 4 (zO.get (zBat_o (zBat_C (by decide)))) rfl 9 (by decide) (zNfw_2 E.2.2) (fun _ h9 => h9) rfl dX11_plainest_17 ?_
    refine lv_iload_n hx hb dX11_plainest_20 rfl (lv_at hl 1 rfl) ?_
    obtain ⟨x4, h5, hf⟩ := zb1_e hf
    refine zgo_i (zrunV (As := [.int (I 4 9), .int p1]) (rest := []) S (c_X1_plainestRule l hD 24 (by decide) (I 4 9) p1 h5) (cwV 2 hts gX11_plainest_X1_plainestRule rfl rfl rfl ddX1_plainestRule ⟨Nat.le_trans (Nat.le_of_ble_eq_true rfl) hfr, Nat.le_trans (Nat.le_of_ble_eq_true rfl) hlo⟩) (va_recv E.1 hP (q := (RX1, TX1, 6)) (ci := 1) rfl (zO.get (oX1_at (by decide)))) E hP hS hl.1 rfl rfl (Nat.le_of_ble_eq_true rfl) dX11_plainest_21) hS (fun H locs hP hS => ?_)
    refine lv_goto (tgt := 28) hx hb dX11_plainest_24 (by decide) ?_
    exact hret _ hf _ _ _ _ hP hS dX11_plainest_28
theorem c_X11_plainest (l : Launch) {D : va_G} {a0 : Nat → Nat} {A : Nat → Prop} {cy : Nat → ClassId} {ad : Nat → Nat} (hD : zD A 74 ad) {I : zI} {J : zJ} (p1 : Int32) {rx : Int32} (hf : f_X11_plainest I J p1 = some rx) : Met l yX11_plainest wsX11_plainest { frames := 3, cells := 0, slots := 0, locals := 76 } (zPc D a0 A cy [.ref (ad 0), .int p1] (zw 74 (kC cy ad a0) ad I J)) (zQi D A rx (zw 74 (kC cy ad a0) ad I J)) 0 0 A :=
  zmet RX11 (by decide) rfl rfl (Nat.le_of_ble_eq_true rfl) (fun p e R s m below meth c Q hfr hlo ls S0 hQ => w_X11_plainest hfr hlo hD p1 hf S0 (fun tx hq H locs ls pc hP hS hd => by cases hq; exact hQ H locs _ hS (fun hx hb hr hlocks hfree => W.iret hx hb hr (fun t ht hW => ⟨⟨_, (), rfl, rfl, zht ht hP⟩, hS.F ht⟩) hfree hd hlocks)))
theorem ddX11_plainest : yX11_plainest.cls = RX11 ∧ yX11_plainest.cls ≠ "java/lang/invoke/MethodHandle" ∧ yX11_plainest.cls ≠ "java/lang/invoke/VarHandle" ∧ (parseMethodDescriptor yX11_plainest.desc).map (fun d => d.parameters.length) = some 1 := by decide +kernel

def f_X9_start (I : zI) (J : zJ) : Option zI := zn (va_up I 38 (va_up (I 38) 2 0)) (fun I1 => zb1 (f_X0_stepsOf I1 J 4 0) (fun x2 => zn (va_up I1 38 (va_up (I1 38) 3 x2)) (fun I4 => zn (va_up I4 38 (va_up (I4 38) 4 0)) (fun I5 => zn (va_up I5 38 (va_up (I5 38) 5 0)) (fun I6 => zn (va_up I6 38 (va_up (I6 38) 6 0)) (fun I7 => zn (va_up I7 38 (va_up (I7 38) 7 0)) (fun I8 => zn (va_up I8 38 (va_up (I8 38) 8 0)) (fun I9 => zn (va_up I9 38 (va_up (I9 38) 9 0)) (fun I10 => some I10)))))))))
theorem hinX9_start_X9 : ∀ w ∈ u_ws RX9 TX9 10, w ∈ wsX9_start := by decide +kernel
set_option maxHeartbeats 4000000 in
set_option maxRecDepth 100000 in
theorem w_X9_start {p : Program} {l : Launch} {e : Env} {R : Room} {s : State} {m : MethodId} {args : Array Value} {below : List Frame} {meth : Method} {c : Code} {Q : State → Prop} (hfr : 2 ≤ R.frames) (hlo : 42 ≤ R.locals) {D : va_G} {a0 : Nat → Nat} {A : Nat → Prop} {cy : Nat → ClassId} {ad : Nat → Nat} (hD : zD A 74 ad) {I : zI} {J : zJ}  {rI : zI} (hf : f_X9_start I J = some rI) {ls : Array Slot} (S0 : zSt p m c cX9_start 1 s args wsX9_start RX9 D a0 A cy (zw 74 (kC cy ad a0) ad I J) [.ref (ad 38)] ls) (hret : ∀ (tI : zI), some tI = some rI → ∀ (H : Heap) (locs : List Loc) (ls : Array Slot) (pc : Nat), va_P D vwCl (zw 74 (kC cy ad a0) ad tI J) H → va_S A s.heap H locs → decode cX9_start pc = .ok (.return_, 1) → W p l e R s m args below meth c H locs 0 0 Q (F0 m pc ls [])) : W p l e R s m args below meth c s.heap [] 0 0 Q (F0 m 0 ls []) := by
  obtain ⟨S, E, hP, hl⟩ := S0
  obtain ⟨hx, hb, hml, hown, hts⟩ := id S
  have hS : va_S A s.heap s.heap [] := va_S.rf
  replace hl : lv_has ls 1 [(0, .ref (ad 38))] := hl
  unfold f_X9_start at hf
  refine lv_aload_n hx hb dX9_start_0 rfl (lv_at hl 0 rfl) ?_
  refine lv_iconst (v := 0) hx hb dX9_start_1 (by decide) ?_
  obtain ⟨I1, eI1⟩ := zex (va_up I 38 (va_up (I 38) 2 0))
  replace hf := zn_s eI1 hf
  refine zput (D := D) (ci := 8) (v := .int 0) (ty := .int) (C := RX9) (T := TX9) (N := 10) hx hb hts hinX9_start_X9 tyX9 tyX9_ok nmX9 hown E.1 hP hD.D hS 38 (zO.get (oX9_at)) rfl 2 (by decide) (hts (.fieldLink RX9 22 "EdgeAndSpeed$Trial" "piece" "I") (by decide +kernel)) (fun _ h9 => h9) rfl (tyX9_ok 2 (by decide)) rfl rfl (Nat.le_of_ble_eq_true rfl) dX9_start_2 (zO.setI (oX9_at) rfl eI1) (fun H locs hP hS => ?_)
  refine lv_aload_n hx hb dX9_start_5 rfl (lv_at hl 0 rfl) ?_
  refine lv_aload_n hx hb dX9_start_6 rfl (lv_at hl 0 rfl) ?_
  refine va_get (D := D) (ci := 8) (v := .ref (ad 4)) (C := RX9) (T := TX9) (N := 10) hx hb hts hinX9_start_X9 hown E.1 hP 38 (zO.get (oX9_at)) rfl 0 (by decide) (hts (.fieldLink RX9 9 "EdgeAndSpeed$Trial" "bench" "LEdgeAndSpeed$Bench;") (by decide +kernel)) (fun _ h9 => h9) rfl dX9_start_7 ?_
  refine lv_iconst (v := 0) hx hb dX9_start_10 (by decide) ?_
  obtain ⟨x2, h3, hf⟩ := zb1_e hf
  refine zgo_i (zrunV (As := [.int 0]) (rest := [.ref (ad 38)]) S (c_X0_stepsOf l hD 4 (zBat_C (by decide)) 0 h3) (cwV 1 hts gX9_start_X0_stepsOf rfl rfl rfl ddX0_stepsOf ⟨Nat.le_trans (Nat.le_of_ble_eq_true rfl) hfr, Nat.le_trans (Nat.le_of_ble_eq_true rfl) hlo⟩) (va_recv E.1 hP (q := (RX0, TX0, 17)) (ci := 0) rfl (zO.get (zBat_o (zBat_C (by decide))))) E hP hS hl.1 rfl rfl (Nat.le_of_ble_eq_true rfl) dX9_start_11) hS (fun H locs hP hS => ?_)
  obtain ⟨I4, eI4⟩ := zex (va_up I1 38 (va_up (I1 38) 3 x2))
  replace hf := zn_s eI4 hf
  refine zput (D := D) (ci := 8) (v := .int x2) (ty := .int) (C := RX9) (T := TX9) (N := 10) hx hb hts hinX9_start_X9 tyX9 tyX9_ok nmX9 hown E.1 hP hD.D hS 38 (zO.get (oX9_at)) rfl 3 (by decide) (hts (.fieldLink RX9 32 "EdgeAndSpeed$Trial" "left" "I") (by decide +kernel)) (fun _ h9 => h9) rfl (tyX9_ok 3 (by decide)) rfl rfl (Nat.le_of_ble_eq_true rfl) dX9_start_14 (zO.setI (oX9_at) rfl eI4) (fun H locs hP hS => ?_)
  refine lv_aload_n hx hb dX9_start_17 rfl (lv_at hl 0 rfl) ?_
  refine lv_iconst (v := 0) hx hb dX9_start_18 (by decide) ?_
  obtain ⟨I5, eI5⟩ := zex (va_up I4 38 (va_up (I4 38) 4 0))
  replace hf := zn_s eI5 hf
  refine zput (D := D) (ci := 8) (v := .int 0) (ty := .int) (C := RX9) (T := TX9) (N := 10) hx hb hts hinX9_start_X9 tyX9 tyX9_ok nmX9 hown E.1 hP hD.D hS 38 (zO.get (oX9_at)) rfl 4 (by decide) (hts (.fieldLink RX9 35 "EdgeAndSpeed$Trial" "wear" "I") (by decide +kernel)) (fun _ h9 => h9) rfl (tyX9_ok 4 (by decide)) rfl rfl (Nat.le_of_ble_eq_true rfl) dX9_start_19 (zO.setI (oX9_at) rfl eI5) (fun H locs hP hS => ?_)
  refine lv_aload_n hx hb dX9_start_22 rfl (lv_at hl 0 rfl) ?_
  refine lv_iconst (v := 0) hx hb dX9_start_23 (by decide) ?_
  obtain ⟨I6, eI6⟩ := zex (va_up I5 38 (va_up (I5 38) 5 0))
  replace hf := zn_s eI6 hf
  refine zput (D := D) (ci := 8) (v := .int 0) (ty := .int) (C := RX9) (T := TX9) (N := 10) hx hb hts hinX9_start_X9 tyX9 tyX9_ok nmX9 hown E.1 hP hD.D hS 38 (zO.get (oX9_at)) rfl 5 (by decide) (hts (.fieldLink RX9 58 "EdgeAndSpeed$Trial" "passes" "I") (by decide +kernel)) (fun _ h9 => h9) rfl (tyX9_ok 5 (by decide)) rfl rfl (Nat.le_of_ble_eq_true rfl) dX9_start_24 (zO.setI (oX9_at) rfl eI6) (fun H locs hP hS => ?_)
  refine lv_aload_n hx hb dX9_start_27 rfl (lv_at hl 0 rfl) ?_
  refine lv_iconst (v := 0) hx hb dX9_start_28 (by decide) ?_
  obtain ⟨I7, eI7⟩ := zex (va_up I6 38 (va_up (I6 38) 6 0))
  replace hf := zn_s eI7 hf
  refine zput (D := D) (ci := 8) (v := .int 0) (ty := .int) (C := RX9) (T := TX9) (N := 10) hx hb hts hinX9_start_X9 tyX9 tyX9_ok nmX9 hown E.1 hP hD.D hS 38 (zO.get (oX9_at)) rfl 6 (by decide) (hts (.fieldLink RX9 61 "EdgeAndSpeed$Trial" "minutes" "I") (by decide +kernel)) (fun _ h9 => h9) rfl (tyX9_ok 6 (by decide)) rfl rfl (Nat.le_of_ble_eq_true rfl) dX9_start_29 (zO.setI (oX9_at) rfl eI7) (fun H locs hP hS => ?_)
  refine lv_aload_n hx hb dX9_start_32 rfl (lv_at hl 0 rfl) ?_
  refine lv_iconst (v := 0) hx hb dX9_start_33 (by decide) ?_
  obtain ⟨I8, eI8⟩ := zex (va_up I7 38 (va_up (I7 38) 7 0))
  replace hf := zn_s eI8 hf
  refine zput (D := D) (ci := 8) (v := .int 0) (ty := .int) (C := RX9) (T := TX9) (N := 10) hx hb hts hinX9_start_X9 tyX9 tyX9_ok nmX9 hown E.1 hP hD.D hS 38 (zO.get (oX9_at)) rfl 7 (by decide) (hts (.fieldLink RX9 64 "EdgeAndSpeed$Trial" "done" "I") (by decide +kernel)) (fun _ h9 => h9) rfl (tyX9_ok 7 (by decide)) rfl rfl (Nat.le_of_ble_eq_true rfl) dX9_start_34 (zO.setI (oX9_at) rfl eI8) (fun H locs hP hS => ?_)
  refine lv_aload_n hx hb dX9_start_37 rfl (lv_at hl 0 rfl) ?_
  refine lv_iconst (v := 0) hx hb dX9_start_38 (by decide) ?_
  obtain ⟨I9, eI9⟩ := zex (va_up I8 38 (va_up (I8 38) 8 0))
  replace hf := zn_s eI9 hf
  refine zput (D := D) (ci := 8) (v := .int 0) (ty := .int) (C := RX9) (T := TX9) (N := 10) hx hb hts hinX9_start_X9 tyX9 tyX9_ok nmX9 hown E.1 hP hD.D hS 38 (zO.get (oX9_at)) rfl 8 (by decide) (hts (.fieldLink RX9 67 "EdgeAndSpeed$Trial" "spoilt" "I") (by decide +kernel)) (fun _ h9 => h9) rfl (tyX9_ok 8 (by decide)) rfl rfl (Nat.le_of_ble_eq_true rfl) dX9_start_39 (zO.setI (oX9_at) rfl eI9) (fun H locs hP hS => ?_)
  refine lv_aload_n hx hb dX9_start_42 rfl (lv_at hl 0 rfl) ?_
  refine lv_iconst (v := 0) hx hb dX9_start_43 (by decide) ?_
  obtain ⟨I10, eI10⟩ := zex (va_up I9 38 (va_up (I9 38) 9 0))
  replace hf := zn_s eI10 hf
  refine zput (D := D) (ci := 8) (v := .int 0) (ty := .int) (C := RX9) (T := TX9) (N := 10) hx hb hts hinX9_start_X9 tyX9 tyX9_ok nmX9 hown E.1 hP hD.D hS 38 (zO.get (oX9_at)) rfl 9 (by decide) (hts (.fieldLink RX9 70 "EdgeAndSpeed$Trial" "changes" "I") (by decide +kernel)) (fun _ h9 => h9) rfl (tyX9_ok 9 (by decide)) rfl rfl (Nat.le_of_ble_eq_true rfl) dX9_start_44 (zO.setI (oX9_at) rfl eI10) (fun H locs hP hS => ?_)
  exact hret _ hf _ _ _ _ hP hS dX9_start_47
theorem c_X9_start (l : Launch) {D : va_G} {a0 : Nat → Nat} {A : Nat → Prop} {cy : Nat → ClassId} {ad : Nat → Nat} (hD : zD A 74 ad) {I : zI} {J : zJ}  {rI : zI} (hf : f_X9_start I J = some rI) : Met l yX9_start wsX9_start { frames := 2, cells := 0, slots := 0, locals := 42 } (zPc D a0 A cy [.ref (ad 38)] (zw 74 (kC cy ad a0) ad I J)) (zQv D A (zw 74 (kC cy ad a0) ad rI J)) 0 0 A :=
  zmet RX9 (by decide) rfl rfl (Nat.le_of_ble_eq_true rfl) (fun p e R s m below meth c Q hfr hlo ls S0 hQ => w_X9_start hfr hlo hD  hf S0 (fun tI hq H locs ls pc hP hS hd => by cases hq; exact hQ H locs _ hS (fun hx hb hr hlocks hfree => W.vret hx hb hr (fun t ht hW => ⟨⟨(), rfl, trivial, zht ht hP⟩, hS.F ht⟩) hfree hd hlocks)))
theorem ddX9_start : yX9_start.cls = RX9 ∧ yX9_start.cls ≠ "java/lang/invoke/MethodHandle" ∧ yX9_start.cls ≠ "java/lang/invoke/VarHandle" ∧ (parseMethodDescriptor yX9_start.desc).map (fun d => d.parameters.length) = some 0 := by decide +kernel
