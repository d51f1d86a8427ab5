def f_X12_bestPay_L26 (I : zI) (J : zJ) (p1 : Int32) (p2 : Int32) (x8 : Int32) (u9 : Int64) (x10 : Int32) : Option ((Int32 × Int64 × Int32) ⊕ Int32) := (if 100 ≤ x10 then some (.inr x8) else zb1 (f_X12_takes I J p1 x10 p2) (fun x12 => zb1 ((if 0 ≤ x12 then zb1 (f_X12_earnsOf I J p1 x12 1) (fun u17 => zb1 (f_X12_pays I J p1 x12 x10) (fun u19 => some ((u17 - u19)))) else some (0)) : Option Int64) (fun u21 => (if x12 < 0 then zn (x10 + 1) (fun y23 => some (.inl (x8, u9, y23))) else (if x8 < 0 then zn (x10 + 1) (fun y25 => some (.inl (x10, u21, y25))) else (if (lg_cmp u21 u9) ≤ 0 then zn (x10 + 1) (fun y27 => some (.inl (x8, u9, y27))) else zn (x10 + 1) (fun y28 => some (.inl (x10, u21, y28)))))))))
def f_X12_bestPay (I : zI) (J : zJ) (p1 : Int32) (p2 : Int32) : Option Int32 := zb1 (f_X12_isPiece I J p1) (fun x1 => (if x1 = 0 then some (-1) else zb1 (f_X12_isPence I J p2) (fun x4 => (if x4 = 0 then some (-1) else zb1 (zl (fun v : (Int32 × Int64 × Int32) => f_X12_bestPay_L26 I J p1 p2 v.1 v.2.1 v.2.2) zF ((-4), 0, 0)) (fun x29 => some x29)))))
set_option maxHeartbeats 4000000 in
set_option maxRecDepth 100000 in
theorem w_X12_bestPay {p : Program} {l : Launch} {e : Env} {R : Room} {s : State} {m : MethodId} {args : Array Value} {below : List Frame} {meth : Method} {c : Code} {Q : State → Prop} (hfr : 4 ≤ R.frames) (hlo : 98 ≤ R.locals) {D : va_G} {a0 : Nat → Nat} {A : Nat → Prop} {cy : Nat → ClassId} {ad : Nat → Nat} (hD : zD A 25 ad) {I : zI} {J : zJ} (p1 : Int32) (p2 : Int32) {rx : Int32} (hf : f_X12_bestPay I J p1 p2 = some rx) {ls : Array Slot} (S0 : zSt p m c cX12_bestPay 10 s args wsX12_bestPay RX12 D a0 A cy (zw 25 (kM cy ad) ad I J) [.ref (ad 0), .int p1, .int p2] ls) (hret : ∀ (tx : Int32), some tx = some rx → ∀ (H : Heap) (locs : List Loc) (ls : Array Slot) (pc : Nat), va_P D vwCl (zw 25 (kM cy ad) ad I J) H → va_S A s.heap H locs → decode cX12_bestPay pc = .ok (.ireturn, 1) → W p l e R s m args below meth c H locs 0 0 Q (F0 m pc ls [.int tx])) : W p l e R s m args below meth c s.heap [] 0 0 Q (F0 m 0 ls []) := by
  obtain ⟨S, E, hP, hl⟩ := S0
  obtain ⟨hx, hb, hml, hown, hts⟩ := id S
  have hS : va_S A s.heap s.heap [] := va_S.rf
  replace hl : lv_has ls 10 [(0, .ref (ad 0)), (1, .int p1), (2, .int p2)] := hl
  unfold f_X12_bestPay at hf
  refine lv_aload_n hx hb dX12_bestPay_0 rfl (lv_at hl 0 rfl) ?_
  refine lv_iload_n hx hb dX12_bestPay_1 rfl (lv_at hl 1 rfl) ?_
  obtain ⟨x1, h2, hf⟩ := zb1_e hf
  refine zgo_i (zrunV (As := [.int p1]) (rest := []) S (c_X12_isPiece l hD p1 h2) (cwV 1 hts gX12_bestPay_X12_isPiece rfl rfl rfl ddX12_isPiece ⟨Nat.le_trans (Nat.le_of_ble_eq_true rfl) hfr, Nat.le_trans (Nat.le_of_ble_eq_true rfl) hlo⟩) (va_recv E.1 hP (q := (RX12, TX12, 31)) (ci := 11) rfl (zO.get (oX12_at))) E hP hS hl.1 rfl rfl (Nat.le_of_ble_eq_true rfl) dX12_bestPay_2) hS (fun H locs hP hS => ?_)
  refine lv_if_eq (tgt := 15) hx hb dX12_bestPay_5 (by decide) (fun k3 => ?_) (fun k3 => ?_)
  · replace hf := zt k3 hf
    refine lv_iconst (v := (-1)) hx hb dX12_bestPay_15 (by decide) ?_
    exact hret _ hf _ _ _ _ hP hS dX12_bestPay_16
  · replace hf := zf k3 hf
    refine lv_iload_n hx hb dX12_bestPay_8 rfl (lv_at hl 2 rfl) ?_
    obtain ⟨x4, h5, hf⟩ := zb1_e hf
    refine zgo_i (zrunS (As := [.int p2]) (rest := []) S (c_X12_isPence l hD p2 h5) (va_cwS 1 hts gX12_bestPay_X12_isPence rfl rfl rfl ddX12_isPence ⟨Nat.le_trans (Nat.le_of_ble_eq_true rfl) hfr, Nat.le_trans (Nat.le_of_ble_eq_true rfl) hlo⟩) E hP hS hl.1 rfl rfl (Nat.le_of_ble_eq_true rfl) dX12_bestPay_9) hS (fun H locs hP hS => ?_)
    refine lv_if_ne (tgt := 17) hx hb dX12_bestPay_12 (by decide) (fun k6 => ?_) (fun k6 => ?_)
    · replace hf := zf k6 hf
      refine lv_bipush (v := (-4)) hx hb dX12_bestPay_17 (by decide) ?_
      refine lv_istore_n (lv' := [(3, .int (-4)), (0, .ref (ad 0)), (1, .int p1), (2, .int p2)]) hx hb dX12_bestPay_19 rfl hl (by decide) rfl (fun ls hl => ?_)
      refine lv_lconst (v := 0) hx hb dX12_bestPay_20 (by decide) ?_
      refine lv_lstore (lv' := [(4, .long 0), (3, .int (-4)), (0, .ref (ad 0)), (1, .int p1), (2, .int p2)]) hx hb dX12_bestPay_21 hl (by decide) rfl (fun ls hl => ?_)
      refine lv_iconst (v := 0) hx hb dX12_bestPay_23 (by decide) ?_
      refine lv_istore (lv' := [(6, .int 0), (4, .long 0), (3, .int (-4)), (0, .ref (ad 0)), (1, .int p1), (2, .int p2)]) hx hb dX12_bestPay_24 hl (by decide) rfl (fun ls hl => ?_)
      obtain ⟨zl7, hf, hzl7⟩ := zb1_i hf
      have hjl7 : ∀ (x29 : Int32), x29 = zl7 → ∀ (H : Heap) (locs : List Loc) (ls : Array Slot), va_P D vwCl (zw 25 (kM cy ad) ad I J) H → va_S A s.heap H locs → lv_has ls 10 [(3, .int x29)] → W p l e R s m args below meth c H locs 0 0 Q (F0 m 102 ls []) := by
        intro x29 ez H locs ls hP hS hl
        have hf := hzl7 x29 ez
        refine lv_iload_n hx hb dX12_bestPay_102 rfl (lv_at hl 0 rfl) ?_
        exact hret _ hf _ _ _ _ hP hS dX12_bestPay_103
      refine zl_i (V := (Int32 × Int64 × Int32)) (P := fun v => ∀ (H : Heap) (locs : List Loc) (ls : Array Slot), va_P D vwCl (zw 25 (kM cy ad) ad I J) H → va_S A s.heap H locs → lv_has ls 10 [(0, .ref (ad 0)), (1, .int p1), (2, .int p2), (3, .int (v.1)), (4, .long (v.2.1)), (6, .int (v.2.2))] → W p l e R s m args below meth c H locs 0 0 Q (F0 m 26 ls [])) ?_ _ _ hf _ _ _ hP hS (lv_sub hl [3, 4, 5, 2, 1, 0] rfl)
      intro v z hf hcl7 hdl7
      obtain ⟨x8, u9, x10⟩ := v
      intro H locs ls hP hS hl
      replace hf : f_X12_bestPay_L26 I J p1 p2 x8 u9 x10 = some z := hf
      unfold f_X12_bestPay_L26 at hf
      replace hP : va_P D vwCl (zw 25 (kM cy ad) ad I J) H := hP
      replace hl : lv_has ls 10 [(0, .ref (ad 0)), (1, .int p1), (2, .int p2), (3, .int x8), (4, .long u9), (6, .int x10)] := hl
      refine lv_iload hx hb dX12_bestPay_26 (lv_at hl 5 rfl) ?_
      refine lv_bipush (v := 100) hx hb dX12_bestPay_28 (by decide) ?_
      refine lv_icmp_ge (tgt := 102) hx hb dX12_bestPay_30 (by decide) (fun k11 => ?_) (fun k11 => ?_)
      · replace hf := zt k11 hf
        exact hjl7 _ (hdl7 _ (Option.some.inj hf).symm) _ _ _ hP hS (lv_sub hl [3] rfl)
      · replace hf := zf k11 hf
        refine lv_aload_n hx hb dX12_bestPay_33 rfl (lv_at hl 0 rfl) ?_
        refine lv_iload_n hx hb dX12_bestPay_34 rfl (lv_at hl 1 rfl) ?_
        refine lv_iload hx hb dX12_bestPay_35 (lv_at hl 5 rfl) ?_
        refine lv_iload_n hx hb dX12_bestPay_37 rfl (lv_at hl 2 rfl) ?_
        obtain ⟨x12, h13, hf⟩ := zb1_e hf
        refine zgo_i (zrunV (As := [.int p1, .int x10, .int p2]) (rest := []) S (c_X12_takes l hD p1 x10 p2 h13) (cwV 3 hts gX12_bestPay_X12_takes rfl rfl rfl ddX12_takes ⟨Nat.le_trans (Nat.le_of_ble_eq_true rfl) hfr, Nat.le_trans (Nat.le_of_ble_eq_true rfl) hlo⟩) (va_recv E.1 hP (q := (RX12, TX12, 31)) (ci := 11) rfl (zO.get (oX12_at))) E hP hS hl.1 rfl rfl (Nat.le_of_ble_eq_true rfl) dX12_bestPay_38) hS (fun H locs hP hS => ?_)
        refine lv_istore (lv' := [(7, .int x12), (0, .ref (ad 0)), (1, .int p1), (2, .int p2), (3, .int x8), (4, .long u9), (6, .int x10)]) hx hb dX12_bestPay_41 hl (by decide) rfl (fun ls hl => ?_)
        refine lv_iload hx hb dX12_bestPay_43 (lv_at hl 0 rfl) ?_
        obtain ⟨zr16, hf, hzr16⟩ := zb1_i hf
        have hjr16 : ∀ (u21 : Int64), u21 = zr16 → ∀ (H : Heap) (locs : List Loc) (ls : Array Slot), va_P D vwCl (zw 25 (kM cy ad) ad I J) H → va_S A s.heap H locs → lv_has ls 10 [(0, .ref (ad 0)), (1, .int p1), (2, .int p2), (3, .int x8), (4, .long u9), (6, .int x10), (7, .int x12)] → W p l e R s m args below meth c H locs 0 0 Q (F0 m 70 ls [.long u21]) := by
          intro u21 ez H locs ls hP hS hl
          have hf := hzr16 u21 ez
          refine lv_lstore (lv' := [(8, .long u21), (0, .ref (ad 0)), (1, .int p1), (2, .int p2), (3, .int x8), (4, .long u9), (6, .int x10), (7, .int x12)]) hx hb dX12_bestPay_70 hl (by decide) rfl (fun ls hl => ?_)
          refine lv_iload hx hb dX12_bestPay_72 (lv_at hl 7 rfl) ?_
          refine lv_if_lt (tgt := 96) hx hb dX12_bestPay_74 (by decide) (fun k22 => ?_) (fun k22 => ?_)
          · replace hf := zt k22 hf
            obtain ⟨y23, ey23⟩ := zex (x10 + 1)
            replace hf := zn_s ey23 hf
            refine lv_iinc (v := y23) (lv' := [(6, .int y23), (8, .long u21), (0, .ref (ad 0)), (1, .int p1), (2, .int p2), (3, .int x8), (4, .long u9), (7, .int x12)]) hx hb dX12_bestPay_96 hl (k := 6) rfl (by rw [ey23]; rfl) (by decide) rfl (fun ls hl => ?_)
            refine lv_goto (tgt := 26) hx hb dX12_bestPay_99 (by decide) ?_
            exact hcl7 _ (Option.some.inj hf).symm _ _ _ hP hS (lv_sub hl [2, 3, 4, 5, 6, 0] rfl)
          · replace hf := zf k22 hf
            refine lv_iload_n hx hb dX12_bestPay_77 rfl (lv_at hl 4 rfl) ?_
            refine lv_if_lt (tgt := 89) hx hb dX12_bestPay_78 (by decide) (fun k24 => ?_) (fun k24 => ?_)
            · replace hf := zt k24 hf
              refine lv_iload hx hb dX12_bestPay_89 (lv_at hl 6 rfl) ?_
              refine lv_istore_n (lv' := [(3, .int x10), (8, .long u21), (0, .ref (ad 0)), (1, .int p1), (2, .int p2), (4, .long u9), (6, .int x10), (7, .int x12)]) hx hb dX12_bestPay_91 rfl hl (by decide) rfl (fun ls hl => ?_)
              refine lv_lload hx hb dX12_bestPay_92 (lv_at hl 1 rfl) ?_
              refine lv_lstore (lv' := [(4, .long u21), (3, .int x10), (8, .long u21), (0, .ref (ad 0)), (1, .int p1), (2, .int p2), (6, .int x10), (7, .int x12)]) hx hb dX12_bestPay_94 hl (by decide) rfl (fun ls hl => ?_)
              obtain ⟨y25, ey25⟩ := zex (x10 + 1)
              replace hf := zn_s ey25 hf
              refine lv_iinc (v := y25) (lv' := [(6, .int y25), (4, .long u21), (3, .int x10), (8, .long u21), (0, .ref (ad 0)), (1, .int p1), (2, .int p2), (7, .int x12)]) hx hb dX12_bestPay_96 hl (k := 6) rfl (by rw [ey25]; rfl) (by decide) rfl (fun ls hl => ?_)
              refine lv_goto (tgt := 26) hx hb dX12_bestPay_99 (by decide) ?_
              exact hcl7 _ (Option.some.inj hf).symm _ _ _ hP hS (lv_sub hl [4, 5, 6, 2, 1, 0] rfl)
            · replace hf := zf k24 hf
              refine lv_lload hx hb dX12_bestPay_81 (lv_at hl 0 rfl) ?_
              refine lv_lload hx hb dX12_bestPay_83 (lv_at hl 5 rfl) ?_
              refine W.lcmp hx hb dX12_bestPay_85 ?_
              refine lv_if_le (tgt := 96) hx hb dX12_bestPay_86 (by decide) (fun k26 => ?_) (fun k26 => ?_)
              · replace hf := zt k26 hf
                obtain ⟨y27, ey27⟩ := zex (x10 + 1)
                replace hf := zn_s ey27 hf
                refine lv_iinc (v := y27) (lv' := [(6, .int y27), (8, .long u21), (0, .ref (ad 0)), (1, .int p1), (2, .int p2), (3, .int x8), (4, .long u9), (7, .int x12)]) hx hb dX12_bestPay_96 hl (k := 6) rfl (by rw [ey27]; rfl) (by decide) rfl (fun ls hl => ?_)
                refine lv_goto (tgt := 26) hx hb dX12_bestPay_99 (by decide) ?_
                exact hcl7 _ (Option.some.inj hf).symm _ _ _ hP hS (lv_sub hl [2, 3, 4, 5, 6, 0] rfl)
              · replace hf := zf k26 hf
                refine lv_iload hx hb dX12_bestPay_89 (lv_at hl 6 rfl) ?_
                refine lv_istore_n (lv' := [(3, .int x10), (8, .long u21), (0, .ref (ad 0)), (1, .int p1), (2, .int p2), (4, .long u9), (6, .int x10), (7, .int x12)]) hx hb dX12_bestPay_91 rfl hl (by decide) rfl (fun ls hl => ?_)
                refine lv_lload hx hb dX12_bestPay_92 (lv_at hl 1 rfl) ?_
                refine lv_lstore (lv' := [(4, .long u21), (3, .int x10), (8, .long u21), (0, .ref (ad 0)), (1, .int p1), (2, .int p2), (6, .int x10), (7, .int x12)]) hx hb dX12_bestPay_94 hl (by decide) rfl (fun ls hl => ?_)
                obtain ⟨y28, ey28⟩ := zex (x10 + 1)
                replace hf := zn_s ey28 hf
                refine lv_iinc (v := y28) (lv' := [(6, .int y28), (4, .long u21), (3, .int x10), (8, .long u21), (0, .ref (ad 0)), (1, .int p1), (2, .int p2), (7, .int x12)]) hx hb dX12_bestPay_96 hl (k := 6) rfl (by rw [ey28]; rfl) (by decide) rfl (fun ls hl => ?_)
                refine lv_goto (tgt := 26) hx hb dX12_bestPay_99 (by decide) ?_
                exact hcl7 _ (Option.some.inj hf).symm _ _ _ hP hS (lv_sub hl [4, 5, 6, 2, 1, 0] rfl)
        refine lv_if_ge (tgt := 52) hx hb dX12_bestPay_45 (by decide) (fun k14 => ?_) (fun k14 => ?_)
        · replace hf := zt k14 hf
          refine lv_aload_n hx hb dX12_bestPay_52 rfl (lv_at hl 1 rfl) ?_
          refine lv_iload_n hx hb dX12_bestPay_53 rfl (lv_at hl 2 rfl) ?_
          refine lv_iload hx hb dX12_bestPay_54 (lv_at hl 0 rfl) ?_
          refine lv_iconst (v := 1) hx hb dX12_bestPay_56 (by decide) ?_
          obtain ⟨u17, h18, hf⟩ := zb1_e hf
          refine zgo_l (zrunV (As := [.int p1, .int x12, .int 1]) (rest := []) S (c_X12_earnsOf l hD p1 x12 1 h18) (cwV 3 hts gX12_bestPay_X12_earnsOf rfl rfl rfl ddX12_earnsOf ⟨Nat.le_trans (Nat.le_of_ble_eq_true rfl) hfr, Nat.le_trans (Nat.le_of_ble_eq_true rfl) hlo⟩) (va_recv E.1 hP (q := (RX12, TX12, 31)) (ci := 11) rfl (zO.get (oX12_at))) E hP hS hl.1 rfl rfl (Nat.le_of_ble_eq_true rfl) dX12_bestPay_57) hS (fun H locs hP hS => ?_)
          refine lv_aload_n hx hb dX12_bestPay_60 rfl (lv_at hl 1 rfl) ?_
          refine lv_iload_n hx hb dX12_bestPay_61 rfl (lv_at hl 2 rfl) ?_
          refine lv_iload hx hb dX12_bestPay_62 (lv_at hl 0 rfl) ?_
          refine lv_iload hx hb dX12_bestPay_64 (lv_at hl 6 rfl) ?_
          obtain ⟨u19, h20, hf⟩ := zb1_e hf
          refine zgo_l (zrunV (As := [.int p1, .int x12, .int x10]) (rest := [.long u17]) S (c_X12_pays l hD p1 x12 x10 h20) (cwV 3 hts gX12_bestPay_X12_pays rfl rfl rfl ddX12_pays ⟨Nat.le_trans (Nat.le_of_ble_eq_true rfl) hfr, Nat.le_trans (Nat.le_of_ble_eq_true rfl) hlo⟩) (va_recv E.1 hP (q := (RX12, TX12, 31)) (ci := 11) rfl (zO.get (oX12_at))) E hP hS hl.1 rfl rfl (Nat.le_of_ble_eq_true rfl) dX12_bestPay_66) hS (fun H locs hP hS => ?_)
          refine lv_lsub hx hb dX12_bestPay_69 ?_
          exact hjr16 _ (Option.some.inj hf) _ _ _ hP hS (lv_sub hl [1, 2, 3, 4, 5, 6, 0] rfl)
        · replace hf := zf k14 hf
          refine lv_lconst (v := 0) hx hb dX12_bestPay_48 (by decide) ?_
          refine lv_goto (tgt := 70) hx hb dX12_bestPay_49 (by decide) ?_
          exact hjr16 _ (Option.some.inj hf) _ _ _ hP hS (lv_sub hl [1, 2, 3, 4, 5, 6, 0] rfl)
    · replace hf := zt k6 hf
      refine lv_iconst (v := (-1)) hx hb dX12_bestPay_15 (by decide) ?_
      exact hret _ hf _ _ _ _ hP hS dX12_bestPay_16
theorem c_X12_bestPay (l : Launch) {D : va_G} {a0 : Nat → Nat} {A : Nat → Prop} {cy : Nat → ClassId} {ad : Nat → Nat} (hD : zD A 25 ad) {I : zI} {J : zJ} (p1 : Int32) (p2 : Int32) {rx : Int32} (hf : f_X12_bestPay I J p1 p2 = some rx) : Met l yX12_bestPay wsX12_bestPay { frames := 4, cells := 0, slots := 0, locals := 98 } (zPc D a0 A cy [.ref (ad 0), .int p1, .int p2] (zw 25 (kM cy ad) ad I J)) (zQi D A rx (zw 25 (kM cy ad) ad I J)) 0 0 A :=
  zmet RX12 (by decide) rfl rfl (Nat.le_of_ble_eq_true rfl) (fun p e R s m below meth c Q hfr hlo ls S0 hQ => w_X12_bestPay hfr hlo hD p1 p2 hf S0 (fun tx hq H locs ls pc hP hS hd => by cases hq; exact hQ H locs _ hS (fun hx hb hr hlocks hfree => W.iret hx hb hr (fun t ht hW => ⟨⟨_, (), rfl, rfl, zht ht hP⟩, hS.F ht⟩) hfree hd hlocks)))
theorem ddX12_bestPay : yX12_bestPay.cls = RX12 ∧ yX12_bestPay.cls ≠ "java/lang/invoke/MethodHandle" ∧ yX12_bestPay.cls ≠ "java/lang/invoke/VarHandle" ∧ (parseMethodDescriptor yX12_bestPay.desc).map (fun d => d.parameters.length) = some 2 := by decide +kernel

def f_X12_log (I : zI) (J : zJ) (p1 : Int32) (p2 : Int32) (p3 : Int32) (p4 : Int32) : Option (Int32 × zI) := zb1 (f_X12_isState I J p1 p2 p3) (fun x1 => (if x1 = 0 then some ((-1), I) else zb1 (f_X12_in I J (p4.toInt64) 0 47) (fun x4 => (if x4 = 0 then some ((-1), I) else zb1 (f_X12_can I J p1 p2 p3 p4) (fun x7 => (if x7 = 0 then some ((-1), I) else zg (¬ ((0 : Int32) < 0 ∨ 3 ≤ (0 : Int32).toNatClampNeg)) ((if (I 13 (0 : Int32).toNatClampNeg) = 20 then some ((-3), I) else zg (¬ ((0 : Int32) < 0 ∨ 3 ≤ (0 : Int32).toNatClampNeg)) (zg (¬ ((2 * (I 13 (0 : Int32).toNatClampNeg)) < 0 ∨ 120 ≤ (2 * (I 13 (0 : Int32).toNatClampNeg)).toNatClampNeg)) (zn (va_up I 14 (upd (I 14) (2 * (I 13 (0 : Int32).toNatClampNeg)).toNatClampNeg p3)) (fun I13 => zg (¬ ((0 : Int32) < 0 ∨ 3 ≤ (0 : Int32).toNatClampNeg)) (zg (¬ (((2 * (I13 13 (0 : Int32).toNatClampNeg)) + 1) < 0 ∨ 120 ≤ ((2 * (I13 13 (0 : Int32).toNatClampNeg)) + 1).toNatClampNeg)) (zn (va_up I13 14 (upd (I13 14) ((2 * (I13 13 (0 : Int32).toNatClampNeg)) + 1).toNatClampNeg (p4 / 8))) (fun I16 => zg (¬ ((0 : Int32) < 0 ∨ 3 ≤ (0 : Int32).toNatClampNeg)) (zg (¬ ((0 : Int32) < 0 ∨ 3 ≤ (0 : Int32).toNatClampNeg)) (zn (va_up I16 13 (upd (I16 13) (0 : Int32).toNatClampNeg ((I16 13 (0 : Int32).toNatClampNeg) + 1))) (fun I19 => zg (¬ ((0 : Int32) < 0 ∨ 3 ≤ (0 : Int32).toNatClampNeg)) (some ((I19 13 (0 : Int32).toNatClampNeg), I19)))))))))))))))))))
theorem hinX12_log_X12 : ∀ w ∈ u_ws RX12 TX12 31, w ∈ wsX12_log := by decide +kernel
set_option maxHeartbeats 4000000 in
set_option maxRecDepth 100000 in
theorem w_X12_log {p : Program} {l : Launch} {e : Env} {R : Room} {s : State} {m : MethodId} {args : Array Value} {below : List Frame} {meth : Method} {c : Code} {Q : State → Prop} (hfr : 3 ≤ R.frames) (hlo : 70 ≤ R.locals) {D : va_G} {a0 : Nat → Nat} {A : Nat → Prop} {cy : Nat → ClassId} {ad : Nat → Nat} (hD : zD A 25 ad) {I : zI} {J : zJ} (p1 : Int32) (p2 : Int32) (p3 : Int32) (p4 : Int32) {rx : Int32} {rI : zI} (hf : f_X12_log I J p1 p2 p3 p4 = some (rx, rI)) {ls : Array Slot} (S0 : zSt p m c cX12_log 5 s args wsX12_log RX12 D a0 A cy (zw 25 (kM cy ad) ad I J) [.ref (ad 0), .int p1, .int p2, .int p3, .int p4] ls) (hret : ∀ (tx : Int32) (tI : zI), some (tx, tI) = some (rx, rI) → ∀ (H : Heap) (locs : List Loc) (ls : Array Slot) (pc : Nat), va_P D vwCl (zw 25 (kM cy ad) ad tI J) H → va_S A s.heap H locs → decode cX12_log pc = .ok (.ireturn, 1) → W p l e R s m args below meth c H locs 0 0 Q (F0 m pc ls [.int tx])) : W p l e R s m args below meth c s.heap [] 0 0 Q (F0 m 0 ls []) := by
  obtain ⟨S, E, hP, hl⟩ := S0
  obtain ⟨hx, hb, hml, hown, hts⟩ := id S
  have hS : va_S A s.heap s.heap [] := va_S.rf
  replace hl : lv_has ls 5 [(0, .ref (ad 0)), (1, .int p1), (2, .int p2), (3, .int p3), (4, .int p4)] := hl
  unfold f_X12_log at hf
  refine lv_aload_n hx hb dX12_log_0 rfl (lv_at hl 0 rfl) ?_
  refine lv_iload_n hx hb dX12_log_1 rfl (lv_at hl 1 rfl) ?_
  refine lv_iload_n hx hb dX12_log_2 rfl (lv_at hl 2 rfl) ?_
  refine lv_iload_n hx hb dX12_log_3 rfl (lv_at hl 3 rfl) ?_
  obtain ⟨x1, h2, hf⟩ := zb1_e hf
  refine zgo_i (zrunV (As := [.int p1, .int p2, .int p3]) (rest := []) S (c_X12_isState l hD p1 p2 p3 h2) (cwV 3 hts gX12_log_X12_isState rfl rfl rfl ddX12_isState ⟨Nat.le_trans (Nat.le_of_ble_eq_true rfl) hfr, Nat.le_trans (Nat.le_of_ble_eq_true rfl) hlo⟩) (va_recv E.1 hP (q := (RX12, TX12, 31)) (ci := 11) rfl (zO.get (oX12_at))) E hP hS hl.1 rfl rfl (Nat.le_of_ble_eq_true rfl) dX12_log_4) hS (fun H locs hP hS => ?_)
  refine lv_if_eq (tgt := 35) hx hb dX12_log_7 (by decide) (fun k3 => ?_) (fun k3 => ?_)
  · replace hf := zt k3 hf
    refine lv_iconst (v := (-1)) hx hb dX12_log_35 (by decide) ?_
    exact hret _ _ hf _ _ _ _ hP hS dX12_log_36
  · replace hf := zf k3 hf
    refine lv_iload hx hb dX12_log_10 (lv_at hl 4 rfl) ?_
    refine lv_i2l hx hb dX12_log_12 rfl ?_
    refine lv_lconst (v := 0) hx hb dX12_log_13 (by decide) ?_
    refine lv_ldc2 hx hb hown (hts (.constantLong RX12 298 47) (by decide +kernel)) dX12_log_14 ?_
    obtain ⟨x4, h5, hf⟩ := zb1_e hf
    refine zgo_i (zrunS (As := [.long (p4.toInt64), .long 0, .long 47]) (rest := []) S (c_X12_in l hD (p4.toInt64) 0 47 h5) (va_cwS 3 hts gX12_log_X12_in rfl rfl rfl ddX12_in ⟨Nat.le_trans (Nat.le_of_ble_eq_true rfl) hfr, Nat.le_trans (Nat.le_of_ble_eq_true rfl) hlo⟩) E hP hS hl.1 rfl rfl (Nat.le_of_ble_eq_true rfl) dX12_log_17) hS (fun H locs hP hS => ?_)
    refine lv_if_eq (tgt := 35) hx hb dX12_log_20 (by decide) (fun k6 => ?_) (fun k6 => ?_)
    · replace hf := zt k6 hf
      refine lv_iconst (v := (-1)) hx hb dX12_log_35 (by decide) ?_
      exact hret _ _ hf _ _ _ _ hP hS dX12_log_36
    · replace hf := zf k6 hf
      refine lv_aload_n hx hb dX12_log_23 rfl (lv_at hl 0 rfl) ?_
      refine lv_iload_n hx hb dX12_log_24 rfl (lv_at hl 1 rfl) ?_
      refine lv_iload_n hx hb dX12_log_25 rfl (lv_at hl 2 rfl) ?_
      refine lv_iload_n hx hb dX12_log_26 rfl (lv_at hl 3 rfl) ?_
      refine lv_iload hx hb dX12_log_27 (lv_at hl 4 rfl) ?_
      obtain ⟨x7, h8, hf⟩ := zb1_e hf
      refine zgo_i (zrunV (As := [.int p1, .int p2, .int p3, .int p4]) (rest := []) S (c_X12_can l hD p1 p2 p3 p4 h8) (cwV 4 hts gX12_log_X12_can rfl rfl rfl ddX12_can ⟨Nat.le_trans (Nat.le_of_ble_eq_true rfl) hfr, Nat.le_trans (Nat.le_of_ble_eq_true rfl) hlo⟩) (va_recv E.1 hP (q := (RX12, TX12, 31)) (ci := 11) rfl (zO.get (oX12_at))) E hP hS hl.1 rfl rfl (Nat.le_of_ble_eq_true rfl) dX12_log_29) hS (fun H locs hP hS => ?_)
      refine lv_if_ne (tgt := 37) hx hb dX12_log_32 (by decide) (fun k9 => ?_) (fun k9 => ?_)
      · replace hf := zf k9 hf
        refine lv_aload_n hx hb dX12_log_37 rfl (lv_at hl 0 rfl) ?_
        refine va_get (D := D) (ci := 11) (v := .ref (ad 13)) (C := RX12) (T := TX12) (N := 31) hx hb hts hinX12_log_X12 hown E.1 hP 0 (zO.get (oX12_at)) rfl 15 (by decide) (hts (.fieldLink RX12 47 "EdgeAndSpeedModel" "logs" "[I") (by decide +kernel)) (fun _ h9 => h9) rfl dX12_log_38 ?_
        refine lv_iconst (v := 0) hx hb dX12_log_41 (by decide) ?_
        obtain ⟨g10, hf⟩ := zg_i hf
        refine va_iald hx hb E.1 hP 13 1 (zIA.get (aX12_15)) rfl g10 dX12_log_42 ?_
        refine lv_bipush (v := 20) hx hb dX12_log_43 (by decide) ?_
        refine lv_icmp_ne (tgt := 51) hx hb dX12_log_45 (by decide) (fun k11 => ?_) (fun k11 => ?_)
        · replace hf := zf k11 hf
          refine lv_aload_n hx hb dX12_log_51 rfl (lv_at hl 0 rfl) ?_
          refine va_get (D := D) (ci := 11) (v := .ref (ad 14)) (C := RX12) (T := TX12) (N := 31) hx hb hts hinX12_log_X12 hown E.1 hP 0 (zO.get (oX12_at)) rfl 16 (by decide) (hts (.fieldLink RX12 50 "EdgeAndSpeedModel" "logged" "[I") (by decide +kernel)) (fun _ h9 => h9) rfl dX12_log_52 ?_
          refine lv_iconst (v := 2) hx hb dX12_log_55 (by decide) ?_
          refine lv_aload_n hx hb dX12_log_56 rfl (lv_at hl 0 rfl) ?_
          refine va_get (D := D) (ci := 11) (v := .ref (ad 13)) (C := RX12) (T := TX12) (N := 31) hx hb hts hinX12_log_X12 hown E.1 hP 0 (zO.get (oX12_at)) rfl 15 (by decide) (hts (.fieldLink RX12 47 "EdgeAndSpeedModel" "logs" "[I") (by decide +kernel)) (fun _ h9 => h9) rfl dX12_log_57 ?_
          refine lv_iconst (v := 0) hx hb dX12_log_60 (by decide) ?_
          obtain ⟨g12, hf⟩ := zg_i hf
          refine va_iald hx hb E.1 hP 13 1 (zIA.get (aX12_15)) rfl g12 dX12_log_61 ?_
          refine lv_imul hx hb dX12_log_62 ?_
          refine lv_iload_n hx hb dX12_log_63 rfl (lv_at hl 3 rfl) ?_
          obtain ⟨g14, hf⟩ := zg_i hf
          obtain ⟨I13, eI13⟩ := zex (va_up I 14 (upd (I 14) (2 * (I 13 (0 : Int32).toNatClampNeg)).toNatClampNeg p3))
          replace hf := zn_s eI13 hf
          refine zast_i hx hb E.1 hP hD.D hS (aX12_16) g14 dX12_log_64 eI13 (fun H locs hP hS => ?_)
          refine lv_aload_n hx hb dX12_log_65 rfl (lv_at hl 0 rfl) ?_
          refine va_get (D := D) (ci := 11) (v := .ref (ad 14)) (C := RX12) (T := TX12) (N := 31) hx hb hts hinX12_log_X12 hown E.1 hP 0 (zO.get (oX12_at)) rfl 16 (by decide) (hts (.fieldLink RX12 50 "EdgeAndSpeedModel" "logged" "[I") (by decide +kernel)) (fun _ h9 => h9) rfl dX12_log_66 ?_
          refine lv_iconst (v := 2) hx hb dX12_log_69 (by decide) ?_
          refine lv_aload_n hx hb dX12_log_70 rfl (lv_at hl 0 rfl) ?_
          refine va_get (D := D) (ci := 11) (v := .ref (ad 13)) (C := RX12) (T := TX12) (N := 31) hx hb hts hinX12_log_X12 hown E.1 hP 0 (zO.get (oX12_at)) rfl 15 (by decide) (hts (.fieldLink RX12 47 "EdgeAndSpeedModel" "logs" "[I") (by decide +kernel)) (fun _ h9 => h9) rfl dX12_log_71 ?_
          refine lv_iconst (v := 0) hx hb dX12_log_74 (by decide) ?_
          obtain ⟨g15, hf⟩ := zg_i hf
          refine va_iald hx hb E.1 hP 13 1 (zIA.get (aX12_15)) rfl g15 dX12_log_75 ?_
          refine lv_imul hx hb dX12_log_76 ?_
          refine lv_iconst (v := 1) hx hb dX12_log_77 (by decide) ?_
          refine lv_iadd hx hb dX12_log_78 ?_
          refine lv_iload hx hb dX12_log_79 (lv_at hl 4 rfl) ?_
          refine lv_bipush (v := 8) hx hb dX12_log_81 (by decide) ?_
          refine lv_idiv hx hb dX12_log_83 (by decide) ?_
          obtain ⟨g17, hf⟩ := zg_i hf
          obtain ⟨I16, eI16⟩ := zex (va_up I13 14 (upd (I13 14) ((2 * (I13 13 (0 : Int32).toNatClampNeg)) + 1).toNatClampNeg (p4 / 8)))
          replace hf := zn_s eI16 hf
          refine zast_i hx hb E.1 hP hD.D hS (aX12_16) g17 dX12_log_84 eI16 (fun H locs hP hS => ?_)
          refine lv_aload_n hx hb dX12_log_85 rfl (lv_at hl 0 rfl) ?_
          refine va_get (D := D) (ci := 11) (v := .ref (ad 13)) (C := RX12) (T := TX12) (N := 31) hx hb hts hinX12_log_X12 hown E.1 hP 0 (zO.get (oX12_at)) rfl 15 (by decide) (hts (.fieldLink RX12 47 "EdgeAndSpeedModel" "logs" "[I") (by decide +kernel)) (fun _ h9 => h9) rfl dX12_log_86 ?_
          refine lv_iconst (v := 0) hx hb dX12_log_89 (by decide) ?_
          refine lv_dup2_11 hx hb dX12_log_90 rfl rfl ?_
          obtain ⟨g18, hf⟩ := zg_i hf
          refine va_iald hx hb E.1 hP 13 1 (zIA.get (aX12_15)) rfl g18 dX12_log_91 ?_
          refine lv_iconst (v := 1) hx hb dX12_log_92 (by decide) ?_
          refine lv_iadd hx hb dX12_log_93 ?_
          obtain ⟨g20, hf⟩ := zg_i hf
          obtain ⟨I19, eI19⟩ := zex (va_up I16 13 (upd (I16 13) (0 : Int32).toNatClampNeg ((I16 13 (0 : Int32).toNatClampNeg) + 1)))
          replace hf := zn_s eI19 hf
          refine zast_i hx hb E.1 hP hD.D hS (aX12_15) g20 dX12_log_94 eI19 (fun H locs hP hS => ?_)
          refine lv_aload_n hx hb dX12_log_95 rfl (lv_at hl 0 rfl) ?_
          refine va_get (D := D) (ci := 11) (v := .ref (ad 13)) (C := RX12) (T := TX12) (N := 31) hx hb hts hinX12_log_X12 hown E.1 hP 0 (zO.get (oX12_at)) rfl 15 (by decide) (hts (.fieldLink RX12 47 "EdgeAndSpeedModel" "logs" "[I") (by decide +kernel)) (fun _ h9 => h9) rfl dX12_log_96 ?_
          refine lv_iconst (v := 0) hx hb dX12_log_99 (by decide) ?_
          obtain ⟨g21, hf⟩ := zg_i hf
          refine va_iald hx hb E.1 hP 13 1 (zIA.get (aX12_15)) rfl g21 dX12_log_100 ?_
          exact hret _ _ hf _ _ _ _ hP hS dX12_log_101
        · replace hf := zt k11 hf
          refine lv_bipush (v := (-3)) hx hb dX12_log_48 (by decide) ?_
          exact hret _ _ hf _ _ _ _ hP hS dX12_log_50
      · replace hf := zt k9 hf
        refine lv_iconst (v := (-1)) hx hb dX12_log_35 (by decide) ?_
        exact hret _ _ hf _ _ _ _ hP hS dX12_log_36
theorem c_X12_log (l : Launch) {D : va_G} {a0 : Nat → Nat} {A : Nat → Prop} {cy : Nat → ClassId} {ad : Nat → Nat} (hD : zD A 25 ad) {I : zI} {J : zJ} (p1 : Int32) (p2 : Int32) (p3 : Int32) (p4 : Int32) {rx : Int32} {rI : zI} (hf : f_X12_log I J p1 p2 p3 p4 = some (rx, rI)) : Met l yX12_log wsX12_log { frames := 3, cells := 0, slots := 0, locals := 70 } (zPc D a0 A cy [.ref (ad 0), .int p1, .int p2, .int p3, .int p4] (zw 25 (kM cy ad) ad I J)) (zQi D A rx (zw 25 (kM cy ad) ad rI J)) 0 0 A :=
  zmet RX12 (by decide) rfl rfl (Nat.le_of_ble_eq_true rfl) (fun p e R s m below meth c Q hfr hlo ls S0 hQ => w_X12_log hfr hlo hD p1 p2 p3 p4 hf S0 (fun tx tI hq H locs ls pc hP hS hd => by cases hq; exact hQ H locs _ hS (fun hx hb hr hlocks hfree => W.iret hx hb hr (fun t ht hW => ⟨⟨_, (), rfl, rfl, zht ht hP⟩, hS.F ht⟩) hfree hd hlocks)))
theorem ddX12_log : yX12_log.cls = RX12 ∧ yX12_log.cls ≠ "java/lang/invoke/MethodHandle" ∧ yX12_log.cls ≠ "java/lang/invoke/VarHandle" ∧ (parseMethodDescriptor yX12_log.desc).map (fun d => d.parameters.length) = some 4 := by decide +kernel

def f_X12_noLog (I : zI) (J : zJ) : Option (Int32 × zI) := zg (¬ ((0 : Int32) < 0 ∨ 3 ≤ (0 : Int32).toNatClampNeg)) (zn ((I 13 (0 : Int32).toNatClampNeg)) (fun y2 => zg (¬ ((0 : Int32) < 0 ∨ 3 ≤ (0 : Int32).toNatClampNeg)) (zn (va_up I 13 (upd (I 13) (0 : Int32).toNatClampNeg 0)) (fun I3 => some (y2, I3)))))
theorem hinX12_noLog_X12 : ∀ w ∈ u_ws RX12 TX12 31, w ∈ wsX12_noLog := by decide +kernel
set_option maxHeartbeats 4000000 in
set_option maxRecDepth 100000 in
theorem w_X12_noLog {p : Program} {l : Launch} {e : Env} {R : Room} {s : State} {m : MethodId} {args : Array Value} {below : List Frame} {meth : Method} {c : Code} {Q : State → Prop} (hfr : 0 ≤ R.frames) (hlo : 0 ≤ R.locals) {D : va_G} {a0 : Nat → Nat} {A : Nat → Prop} {cy : Nat → ClassId} {ad : Nat → Nat} (hD : zD A 25 ad) {I : zI} {J : zJ}  {rx : Int32} {rI : zI} (hf : f_X12_noLog I J = some (rx, rI)) {ls : Array Slot} (S0 : zSt p m c cX12_noLog 2 s args wsX12_noLog RX12 D a0 A cy (zw 25 (kM cy ad) ad I J) [.ref (ad 0)] ls) (hret : ∀ (tx : Int32) (tI : zI), some (tx, tI) = some (rx, rI) → ∀ (H : Heap) (locs : List Loc) (ls : Array Slot) (pc : Nat), va_P D vwCl (zw 25 (kM cy ad) ad tI J) H → va_S A s.heap H locs → decode cX12_noLog pc = .ok (.ireturn, 1) → W p l e R s m args below meth c H locs 0 0 Q (F0 m pc ls [.int tx])) : W p l e R s m args below meth c s.heap [] 0 0 Q (F0 m 0 ls []) := by
  obtain ⟨S, E, hP, hl⟩ := S0
  obtain ⟨hx, hb, hml, hown, hts⟩ := id S
  have hS : va_S A s.heap s.heap [] := va_S.rf
  replace hl : lv_has ls 2 [(0, .ref (ad 0))] := hl
  unfold f_X12_noLog at hf
  refine lv_aload_n hx hb dX12_noLog_0 rfl (lv_at hl 0 rfl) ?_
  refine va_get (D := D) (ci := 11) (v := .ref (ad 13)) (C := RX12) (T := TX12) (N := 31) hx hb hts hinX12_noLog_X12 hown E.1 hP 0 (zO.get (oX12_at)) rfl 15 (by decide) (hts (.fieldLink RX12 47 "EdgeAndSpeedModel" "logs" "[I") (by decide +kernel)) (fun _ h9 => h9) rfl dX12_noLog_1 ?_
  refine lv_iconst (v := 0) hx hb dX12_noLog_4 (by decide) ?_
  obtain ⟨g1, hf⟩ := zg_i hf
  refine va_iald hx hb E.1 hP 13 1 (zIA.get (aX12_15)) rfl g1 dX12_noLog_5 ?_
  refine lv_topi (fun y2 ey2 => ?_)
  replace hf := zn_s ey2 hf
  refine lv_istore_n (lv' := [(1, .int y2), (0, .ref (ad 0))]) hx hb dX12_noLog_6 rfl hl (by decide) rfl (fun ls hl => ?_)
  refine lv_aload_n hx hb dX12_noLog_7 rfl (lv_at hl 1 rfl) ?_
  refine va_get (D := D) (ci := 11) (v := .ref (ad 13)) (C := RX12) (T := TX12) (N := 31) hx hb hts hinX12_noLog_X12 hown E.1 hP 0 (zO.get (oX12_at)) rfl 15 (by decide) (hts (.fieldLink RX12 47 "EdgeAndSpeedModel" "logs" "[I") (by decide +kernel)) (fun _ h9 => h9) rfl dX12_noLog_8 ?_
  refine lv_iconst (v := 0) hx hb dX12_noLog_11 (by decide) ?_
  refine lv_iconst (v := 0) hx hb dX12_noLog_12 (by decide) ?_
  obtain ⟨g4, hf⟩ := zg_i hf
  obtain ⟨I3, eI3⟩ := zex (va_up I 13 (upd (I 13) (0 : Int32).toNatClampNeg 0))
  replace hf := zn_s eI3 hf
  refine zast_i hx hb E.1 hP hD.D hS (aX12_15) g4 dX12_noLog_13 eI3 (fun H locs hP hS => ?_)
  refine lv_iload_n hx hb dX12_noLog_14 rfl (lv_at hl 0 rfl) ?_
  exact hret _ _ hf _ _ _ _ hP hS dX12_noLog_15
theorem c_X12_noLog (l : Launch) {D : va_G} {a0 : Nat → Nat} {A : Nat → Prop} {cy : Nat → ClassId} {ad : Nat → Nat} (hD : zD A 25 ad) {I : zI} {J : zJ}  {rx : Int32} {rI : zI} (hf : f_X12_noLog I J = some (rx, rI)) : Met l yX12_noLog wsX12_noLog { frames := 0, cells := 0, slots := 0, locals := 0 } (zPc D a0 A cy [.ref (ad 0)] (zw 25 (kM cy ad) ad I J)) (zQi D A rx (zw 25 (kM cy ad) ad rI J)) 0 0 A :=
  zmet RX12 (by decide) rfl rfl (Nat.le_of_ble_eq_true rfl) (fun p e R s m below meth c Q hfr hlo ls S0 hQ => w_X12_noLog hfr hlo hD  hf S0 (fun tx tI hq H locs ls pc hP hS hd => by cases hq; exact hQ H locs _ hS (fun hx hb hr hlocks hfree => W.iret hx hb hr (fun t ht hW => ⟨⟨_, (), rfl, rfl, zht ht hP⟩, hS.F ht⟩) hfree hd hlocks)))
theorem ddX12_noLog : yX12_noLog.cls = RX12 ∧ yX12_noLog.cls ≠ "java/lang/invoke/MethodHandle" ∧ yX12_noLog.cls ≠ "java/lang/invoke/VarHandle" ∧ (parseMethodDescriptor yX12_noLog.desc).map (fun d => d.parameters.length) = some 0 := by decide +kernel

def f_X12_offOf_L6 (I : zI) (p2 : Int32) (p3 : Int32) (p1 : Int32) (x2 : Int32) (x3 : Int32) : Option ((Int32 × Int32) ⊕ Int32) := zg (¬ ((0 : Int32) < 0 ∨ 3 ≤ (0 : Int32).toNatClampNeg)) ((if (I 13 (0 : Int32).toNatClampNeg) ≤ x3 then some (.inr x2) else zg (¬ (((2 * x3) + 1) < 0 ∨ 120 ≤ ((2 * x3) + 1).toNatClampNeg)) (zg (¬ ((2 * x3) < 0 ∨ 120 ≤ (2 * x3).toNatClampNeg)) (zb1 ((if p2 ≤ (I 14 (2 * x3).toNatClampNeg) then some (p3) else some (p1)) : Option Int32) (fun x11 => (if (I 14 ((2 * x3) + 1).toNatClampNeg) = x11 then zn ((x2 + 0)) (fun y13 => zn (x3 + 1) (fun y14 => some (.inl (y13, y14)))) else zn ((x2 + 1)) (fun y15 => zn (x3 + 1) (fun y16 => some (.inl (y15, y16))))))))))
def f_X12_offOf (I : zI) (J : zJ) (p1 : Int32) (p2 : Int32) (p3 : Int32) : Option Int32 := zb1 (zl (fun v : (Int32 × Int32) => f_X12_offOf_L6 I p2 p3 p1 v.1 v.2) zF (0, 0)) (fun x17 => some x17)
theorem hinX12_offOf_X12 : ∀ w ∈ u_ws RX12 TX12 31, w ∈ wsX12_offOf := by decide +kernel
set_option maxHeartbeats 4000000 in
set_option maxRecDepth 100000 in
theorem w_X12_offOf {p : Program} {l : Launch} {e : Env} {R : Room} {s : State} {m : MethodId} {args : Array Value} {below : List Frame} {meth : Method} {c : Code} {Q : State → Prop} (hfr : 0 ≤ R.frames) (hlo : 0 ≤ R.locals) {D : va_G} {a0 : Nat → Nat} {A : Nat → Prop} {cy : Nat → ClassId} {ad : Nat → Nat} (hD : zD A 25 ad) {I : zI} {J : zJ} (p1 : Int32) (p2 : Int32) (p3 : Int32) {rx : Int32} (hf : f_X12_offOf I J p1 p2 p3 = some rx) {ls : Array Slot} (S0 : zSt p m c cX12_offOf 6 s args wsX12_offOf RX12 D a0 A cy (zw 25 (kM cy ad) ad I J) [.ref (ad 0), .int p1, .int p2, .int p3] ls) (hret : ∀ (tx : Int32), some tx = some rx → ∀ (H : Heap) (locs : List Loc) (ls : Array Slot) (pc : Nat), va_P D vwCl (zw 25 (kM cy ad) ad I J) H → va_S A s.heap H locs → decode cX12_offOf pc = .ok (.ireturn, 1) → W p l e R s m args below meth c H locs 0 0 Q (F0 m pc ls [.int tx])) : W p l e R s m args below meth c s.heap [] 0 0 Q (F0 m 0 ls []) := by
  obtain ⟨S, E, hP, hl⟩ := S0
  obtain ⟨hx, hb, hml, hown, hts⟩ := id S
  have hS : va_S A s.heap s.heap [] := va_S.rf
  replace hl : lv_has ls 6 [(0, .ref (ad 0)), (1, .int p1), (2, .int p2), (3, .int p3)] := hl
  unfold f_X12_offOf at hf
  refine lv_iconst (v := 0) hx hb dX12_offOf_0 (by decide) ?_
  refine lv_istore (lv' := [(4, .int 0), (0, .ref (ad 0)), (1, .int p1), (2, .int p2), (3, .int p3)]) hx hb dX12_offOf_1 hl (by decide) rfl (fun ls hl => ?_)
  refine lv_iconst (v := 0) hx hb dX12_offOf_3 (by decide) ?_
  refine lv_istore (lv' := [(5, .int 0), (4, .int 0), (0, .ref (ad 0)), (1, .int p1), (2, .int p2), (3, .int p3)]) hx hb dX12_offOf_4 hl (by decide) rfl (fun ls hl => ?_)
  obtain ⟨zl1, hf, hzl1⟩ := zb1_i hf
  have hjl1 : ∀ (x17 : Int32), x17 = zl1 → ∀ (H : Heap) (locs : List Loc) (ls : Array Slot), va_P D vwCl (zw 25 (kM cy ad) ad I J) H → va_S A s.heap H locs → lv_has ls 6 [(4, .int x17)] → W p l e R s m args below meth c H locs 0 0 Q (F0 m 65 ls []) := by
    intro x17 ez H locs ls hP hS hl
    have hf := hzl1 x17 ez
    refine lv_iload hx hb dX12_offOf_65 (lv_at hl 0 rfl) ?_
    exact hret _ hf _ _ _ _ hP hS dX12_offOf_67
  refine zl_i (V := (Int32 × Int32)) (P := fun v => ∀ (H : Heap) (locs : List Loc) (ls : Array Slot), va_P D vwCl (zw 25 (kM cy ad) ad I J) H → va_S A s.heap H locs → lv_has ls 6 [(0, .ref (ad 0)), (1, .int p1), (2, .int p2), (3, .int p3), (4, .int (v.1)), (5, .int (v.2))] → W p l e R s m args below meth c H locs 0 0 Q (F0 m 6 ls [])) ?_ _ _ hf _ _ _ hP hS (lv_sub hl [2, 3, 4, 5, 1, 0] rfl)
  intro v z hf hcl1 hdl1
  obtain ⟨x2, x3⟩ := v
  intro H locs ls hP hS hl
  replace hf : f_X12_offOf_L6 I p2 p3 p1 x2 x3 = some z := hf
  unfold f_X12_offOf_L6 at hf
  replace hP : va_P D vwCl (zw 25 (kM cy ad) ad I J) H := hP
  replace hl : lv_has ls 6 [(0, .ref (ad 0)), (1, .int p1), (2, .int p2), (3, .int p3), (4, .int x2), (5, .int x3)] := hl
  refine lv_iload hx hb dX12_offOf_6 (lv_at hl 5 rfl) ?_
  refine lv_aload_n hx hb dX12_offOf_8 rfl (lv_at hl 0 rfl) ?_
  refine va_get (D := D) (ci := 11) (v := .ref (ad 13)) (C := RX12) (T := TX12) (N := 31) hx hb hts hinX12_offOf_X12 hown E.1 hP 0 (zO.get (oX12_at)) rfl 15 (by decide) (hts (.fieldLink RX12 47 "EdgeAndSpeedModel" "logs" "[I") (by decide +kernel)) (fun _ h9 => h9) rfl dX12_offOf_9 ?_
  refine lv_iconst (v := 0) hx hb dX12_offOf_12 (by decide) ?_
  obtain ⟨g4, hf⟩ := zg_i hf
  refine va_iald hx hb E.1 hP 13 1 (zIA.get (aX12_15)) rfl g4 dX12_offOf_13 ?_
  refine lv_icmp_ge (tgt := 65) hx hb dX12_offOf_14 (by decide) (fun k5 => ?_) (fun k5 => ?_)
  · replace hf := zt k5 hf
    exact hjl1 _ (hdl1 _ (Option.some.inj hf).symm) _ _ _ hP hS (lv_sub hl [4] rfl)
  · replace hf := zf k5 hf
    refine lv_iload hx hb dX12_offOf_17 (lv_at hl 4 rfl) ?_
    refine lv_aload_n hx hb dX12_offOf_19 rfl (lv_at hl 0 rfl) ?_
    refine va_get (D := D) (ci := 11) (v := .ref (ad 14)) (C := RX12) (T := TX12) (N := 31) hx hb hts hinX12_offOf_X12 hown E.1 hP 0 (zO.get (oX12_at)) rfl 16 (by decide) (hts (.fieldLink RX12 50 "EdgeAndSpeedModel" "logged" "[I") (by decide +kernel)) (fun _ h9 => h9) rfl dX12_offOf_20 ?_
    refine lv_iconst (v := 2) hx hb dX12_offOf_23 (by decide) ?_
    refine lv_iload hx hb dX12_offOf_24 (lv_at hl 5 rfl) ?_
    refine lv_imul hx hb dX12_offOf_26 ?_
    refine lv_iconst (v := 1) hx hb dX12_offOf_27 (by decide) ?_
    refine lv_iadd hx hb dX12_offOf_28 ?_
    obtain ⟨g6, hf⟩ := zg_i hf
    refine va_iald hx hb E.1 hP 14 1 (zIA.get (aX12_16)) rfl g6 dX12_offOf_29 ?_
    refine lv_aload_n hx hb dX12_offOf_30 rfl (lv_at hl 0 rfl) ?_
    refine va_get (D := D) (ci := 11) (v := .ref (ad 14)) (C := RX12) (T := TX12) (N := 31) hx hb hts hinX12_offOf_X12 hown E.1 hP 0 (zO.get (oX12_at)) rfl 16 (by decide) (hts (.fieldLink RX12 50 "EdgeAndSpeedModel" "logged" "[I") (by decide +kernel)) (fun _ h9 => h9) rfl dX12_offOf_31 ?_
    refine lv_iconst (v := 2) hx hb dX12_offOf_34 (by decide) ?_
    refine lv_iload hx hb dX12_offOf_35 (lv_at hl 5 rfl) ?_
    refine lv_imul hx hb dX12_offOf_37 ?_
    obtain ⟨g7, hf⟩ := zg_i hf
    refine va_iald hx hb E.1 hP 14 1 (zIA.get (aX12_16)) rfl g7 dX12_offOf_38 ?_
    refine lv_iload_n hx hb dX12_offOf_39 rfl (lv_at hl 2 rfl) ?_
    obtain ⟨zr10, hf, hzr10⟩ := zb1_i hf
    have hjr10 : ∀ (x11 : Int32), x11 = zr10 → ∀ (H : Heap) (locs : List Loc) (ls : Array Slot), va_P D vwCl (zw 25 (kM cy ad) ad I J) H → va_S A s.heap H locs → lv_has ls 6 [(0, .ref (ad 0)), (1, .int p1), (2, .int p2), (3, .int p3), (5, .int x3)] → W p l e R s m args below meth c H locs 0 0 Q (F0 m 48 ls [.int x11, .int (I 14 ((2 * x3) + 1).toNatClampNeg), .int x2]) := by
      intro x11 ez H locs ls hP hS hl
      have hf := hzr10 x11 ez
      refine lv_icmp_eq (tgt := 55) hx hb dX12_offOf_48 (by decide) (fun k12 => ?_) (fun k12 => ?_)
      · replace hf := zt k12 hf
        refine lv_iconst (v := 0) hx hb dX12_offOf_55 (by decide) ?_
        refine lv_iadd hx hb dX12_offOf_56 ?_
        refine lv_topi (fun y13 ey13 => ?_)
        replace hf := zn_s ey13 hf
        refine lv_istore (lv' := [(4, .int y13), (0, .ref (ad 0)), (1, .int p1), (2, .int p2), (3, .int p3), (5, .int x3)]) hx hb dX12_offOf_57 hl (by decide) rfl (fun ls hl => ?_)
        obtain ⟨y14, ey14⟩ := zex (x3 + 1)
        replace hf := zn_s ey14 hf
        refine lv_iinc (v := y14) (lv' := [(5, .int y14), (4, .int y13), (0, .ref (ad 0)), (1, .int p1), (2, .int p2), (3, .int p3)]) hx hb dX12_offOf_59 hl (k := 5) rfl (by rw [ey14]; rfl) (by decide) rfl (fun ls hl => ?_)
        refine lv_goto (tgt := 6) hx hb dX12_offOf_62 (by decide) ?_
        exact hcl1 _ (Option.some.inj hf).symm _ _ _ hP hS (lv_sub hl [2, 3, 4, 5, 1, 0] rfl)
      · replace hf := zf k12 hf
        refine lv_iconst (v := 1) hx hb dX12_offOf_51 (by decide) ?_
        refine lv_goto (tgt := 56) hx hb dX12_offOf_52 (by decide) ?_
        refine lv_iadd hx hb dX12_offOf_56 ?_
        refine lv_topi (fun y15 ey15 => ?_)
        replace hf := zn_s ey15 hf
        refine lv_istore (lv' := [(4, .int y15), (0, .ref (ad 0)), (1, .int p1), (2, .int p2), (3, .int p3), (5, .int x3)]) hx hb dX12_offOf_57 hl (by decide) rfl (fun ls hl => ?_)
        obtain ⟨y16, ey16⟩ := zex (x3 + 1)
        replace hf := zn_s ey16 hf
        refine lv_iinc (v := y16) (lv' := [(5, .int y16), (4, .int y15), (0, .ref (ad 0)), (1, .int p1), (2, .int p2), (3, .int p3)]) hx hb dX12_offOf_59 hl (k := 5) rfl (by rw [ey16]; rfl) (by decide) rfl (fun ls hl => ?_)
        refine lv_goto (tgt := 6) hx hb dX12_offOf_62 (by decide) ?_
        exact hcl1 _ (Option.some.inj hf).symm _ _ _ hP hS (lv_sub hl [2, 3, 4, 5, 1, 0] rfl)
    refine lv_icmp_ge (tgt := 47) hx hb dX12_offOf_40 (by decide) (fun k8 => ?_) (fun k8 => ?_)
    · replace hf := zt k8 hf
      refine lv_iload_n hx hb dX12_offOf_47 rfl (lv_at hl 3 rfl) ?_
      exact hjr10 _ (Option.some.inj hf) _ _ _ hP hS (lv_sub hl [0, 1, 2, 3, 5] rfl)
    · replace hf := zf k8 hf
      refine lv_iload_n hx hb dX12_offOf_43 rfl (lv_at hl 1 rfl) ?_
      refine lv_goto (tgt := 48) hx hb dX12_offOf_44 (by decide) ?_
      exact hjr10 _ (Option.some.inj hf) _ _ _ hP hS (lv_sub hl [0, 1, 2, 3, 5] rfl)
theorem c_X12_offOf (l : Launch) {D : va_G} {a0 : Nat → Nat} {A : Nat → Prop} {cy : Nat → ClassId} {ad : Nat → Nat} (hD : zD A 25 ad) {I : zI} {J : zJ} (p1 : Int32) (p2 : Int32) (p3 : Int32) {rx : Int32} (hf : f_X12_offOf I J p1 p2 p3 = some rx) : Met l yX12_offOf wsX12_offOf { frames := 0, cells := 0, slots := 0, locals := 0 } (zPc D a0 A cy [.ref (ad 0), .int p1, .int p2, .int p3] (zw 25 (kM cy ad) ad I J)) (zQi D A rx (zw 25 (kM cy ad) ad I J)) 0 0 A :=
  zmet RX12 (by decide) rfl rfl (Nat.le_of_ble_eq_true rfl) (fun p e R s m below meth c Q hfr hlo ls S0 hQ => w_X12_offOf hfr hlo hD p1 p2 p3 hf S0 (fun tx hq H locs ls pc hP hS hd => by cases hq; exact hQ H locs _ hS (fun hx hb hr hlocks hfree => W.iret hx hb hr (fun t ht hW => ⟨⟨_, (), rfl, rfl, zht ht hP⟩, hS.F ht⟩) hfree hd hlocks)))
theorem ddX12_offOf : yX12_offOf.cls = RX12 ∧ yX12_offOf.cls ≠ "java/lang/invoke/MethodHandle" ∧ yX12_offOf.cls ≠ "java/lang/invoke/VarHandle" ∧ (parseMethodDescriptor yX12_offOf.desc).map (fun d => d.parameters.length) = some 3 := by decide +kernel

def f_X12_off (I : zI) (J : zJ) (p1 : Int32) (p2 : Int32) (p3 : Int32) : Option Int32 := zb1 (f_X12_isSpeed I J p1) (fun x1 => (if x1 = 0 then some (-1) else zb1 (f_X12_isSpeed I J p3) (fun x4 => (if x4 = 0 then some (-1) else zb1 (f_X12_in I J (p2.toInt64) 0 100) (fun x7 => (if x7 = 0 then some (-1) else zb1 (f_X12_offOf I J p1 p2 p3) (fun x10 => some x10)))))))
set_option maxHeartbeats 4000000 in
set_option maxRecDepth 100000 in
theorem w_X12_off {p : Program} {l : Launch} {e : Env} {R : Room} {s : State} {m : MethodId} {args : Array Value} {below : List Frame} {meth : Method} {c : Code} {Q : State → Prop} (hfr : 2 ≤ R.frames) (hlo : 46 ≤ R.locals) {D : va_G} {a0 : Nat → Nat} {A : Nat → Prop} {cy : Nat → ClassId} {ad : Nat → Nat} (hD : zD A 25 ad) {I : zI} {J : zJ} (p1 : Int32) (p2 : Int32) (p3 : Int32) {rx : Int32} (hf : f_X12_off I J p1 p2 p3 = some rx) {ls : Array Slot} (S0 : zSt p m c cX12_off 4 s args wsX12_off RX12 D a0 A cy (zw 25 (kM cy ad) ad I J) [.ref (ad 0), .int p1, .int p2, .int p3] ls) (hret : ∀ (tx : Int32), some tx = some rx → ∀ (H : Heap) (locs : List Loc) (ls : Array Slot) (pc : Nat), va_P D vwCl (zw 25 (kM cy ad) ad I J) H → va_S A s.heap H locs → decode cX12_off pc = .ok (.ireturn, 1) → W p l e R s m args below meth c H locs 0 0 Q (F0 m pc ls [.int tx])) : W p l e R s m args below meth c s.heap [] 0 0 Q (F0 m 0 ls []) := by
  obtain ⟨S, E, hP, hl⟩ := S0
  obtain ⟨hx, hb, hml, hown, hts⟩ := id S
  have hS : va_S A s.heap s.heap [] := va_S.rf
  replace hl : lv_has ls 4 [(0, .ref (ad 0)), (1, .int p1), (2, .int p2), (3, .int p3)] := hl
  unfold f_X12_off at hf
  refine lv_aload_n hx hb dX12_off_0 rfl (lv_at hl 0 rfl) ?_
  refine lv_iload_n hx hb dX12_off_1 rfl (lv_at hl 1 rfl) ?_
  obtain ⟨x1, h2, hf⟩ := zb1_e hf
  refine zgo_i (zrunV (As := [.int p1]) (rest := []) S (c_X12_isSpeed l hD p1 h2) (cwV 1 hts gX12_off_X12_isSpeed rfl rfl rfl ddX12_isSpeed ⟨Nat.le_trans (Nat.le_of_ble_eq_true rfl) hfr, Nat.le_trans (Nat.le_of_ble_eq_true rfl) hlo⟩) (va_recv E.1 hP (q := (RX12, TX12, 31)) (ci := 11) rfl (zO.get (oX12_at))) E hP hS hl.1 rfl rfl (Nat.le_of_ble_eq_true rfl) dX12_off_2) hS (fun H locs hP hS => ?_)
  refine lv_if_eq (tgt := 38) hx hb dX12_off_5 (by decide) (fun k3 => ?_) (fun k3 => ?_)
  · replace hf := zt k3 hf
    refine lv_iconst (v := (-1)) hx hb dX12_off_38 (by decide) ?_
    exact hret _ hf _ _ _ _ hP hS dX12_off_39
  · replace hf := zf k3 hf
    refine lv_aload_n hx hb dX12_off_8 rfl (lv_at hl 0 rfl) ?_
    refine lv_iload_n hx hb dX12_off_9 rfl (lv_at hl 3 rfl) ?_
    obtain ⟨x4, h5, hf⟩ := zb1_e hf
    refine zgo_i (zrunV (As := [.int p3]) (rest := []) S (c_X12_isSpeed l hD p3 h5) (cwV 1 hts gX12_off_X12_isSpeed rfl rfl rfl ddX12_isSpeed ⟨Nat.le_trans (Nat.le_of_ble_eq_true rfl) hfr, Nat.le_trans (Nat.le_of_ble_eq_true rfl) hlo⟩) (va_recv E.1 hP (q := (RX12, TX12, 31)) (ci := 11) rfl (zO.get (oX12_at))) E hP hS hl.1 rfl rfl (Nat.le_of_ble_eq_true rfl) dX12_off_10) hS (fun H locs hP hS => ?_)
    refine lv_if_eq (tgt := 38) hx hb dX12_off_13 (by decide) (fun k6 => ?_) (fun k6 => ?_)
    · replace hf := zt k6 hf
      refine lv_iconst (v := (-1)) hx hb dX12_off_38 (by decide) ?_
      exact hret _ hf _ _ _ _ hP hS dX12_off_39
    · replace hf := zf k6 hf
      refine lv_iload_n hx hb dX12_off_16 rfl (lv_at hl 2 rfl) ?_
      refine lv_i2l hx hb dX12_off_17 rfl ?_
      refine lv_lconst (v := 0) hx hb dX12_off_18 (by decide) ?_
      refine lv_ldc2 hx hb hown (hts (.constantLong RX12 164 100) (by decide +kernel)) dX12_off_19 ?_
      obtain ⟨x7, h8, hf⟩ := zb1_e hf
      refine zgo_i (zrunS (As := [.long (p2.toInt64), .long 0, .long 100]) (rest := []) S (c_X12_in l hD (p2.toInt64) 0 100 h8) (va_cwS 3 hts gX12_off_X12_in rfl rfl rfl ddX12_in ⟨Nat.le_trans (Nat.le_of_ble_eq_true rfl) hfr, Nat.le_trans (Nat.le_of_ble_eq_true rfl) hlo⟩) E hP hS hl.1 rfl rfl (Nat.le_of_ble_eq_true rfl) dX12_off_22) hS (fun H locs hP hS => ?_)
      refine lv_if_eq (tgt := 38) hx hb dX12_off_25 (by decide) (fun k9 => ?_) (fun k9 => ?_)
      · replace hf := zt k9 hf
        refine lv_iconst (v := (-1)) hx hb dX12_off_38 (by decide) ?_
        exact hret _ hf _ _ _ _ hP hS dX12_off_39
      · replace hf := zf k9 hf
        refine lv_aload_n hx hb dX12_off_28 rfl (lv_at hl 0 rfl) ?_
        refine lv_iload_n hx hb dX12_off_29 rfl (lv_at hl 1 rfl) ?_
        refine lv_iload_n hx hb dX12_off_30 rfl (lv_at hl 2 rfl) ?_
        refine lv_iload_n hx hb dX12_off_31 rfl (lv_at hl 3 rfl) ?_
        obtain ⟨x10, h11, hf⟩ := zb1_e hf
        refine zgo_i (zrunV (As := [.int p1, .int p2, .int p3]) (rest := []) S (c_X12_offOf l hD p1 p2 p3 h11) (cwV 3 hts gX12_off_X12_offOf rfl rfl rfl ddX12_offOf ⟨Nat.le_trans (Nat.le_of_ble_eq_true rfl) hfr, Nat.le_trans (Nat.le_of_ble_eq_true rfl) hlo⟩) (va_recv E.1 hP (q := (RX12, TX12, 31)) (ci := 11) rfl (zO.get (oX12_at))) E hP hS hl.1 rfl rfl (Nat.le_of_ble_eq_true rfl) dX12_off_32) hS (fun H locs hP hS => ?_)
        refine lv_goto (tgt := 39) hx hb dX12_off_35 (by decide) ?_
        exact hret _ hf _ _ _ _ hP hS dX12_off_39
theorem c_X12_off (l : Launch) {D : va_G} {a0 : Nat → Nat} {A : Nat → Prop} {cy : Nat → ClassId} {ad : Nat → Nat} (hD : zD A 25 ad) {I : zI} {J : zJ} (p1 : Int32) (p2 : Int32) (p3 : Int32) {rx : Int32} (hf : f_X12_off I J p1 p2 p3 = some rx) : Met l yX12_off wsX12_off { frames := 2, cells := 0, slots := 0, locals := 46 } (zPc D a0 A cy [.ref (ad 0), .int p1, .int p2, .int p3] (zw 25 (kM cy ad) ad I J)) (zQi D A rx (zw 25 (kM cy ad) ad I J)) 0 0 A :=
  zmet RX12 (by decide) rfl rfl (Nat.le_of_ble_eq_true rfl) (fun p e R s m below meth c Q hfr hlo ls S0 hQ => w_X12_off hfr hlo hD p1 p2 p3 hf S0 (fun tx hq H locs ls pc hP hS hd => by cases hq; exact hQ H locs _ hS (fun hx hb hr hlocks hfree => W.iret hx hb hr (fun t ht hW => ⟨⟨_, (), rfl, rfl, zht ht hP⟩, hS.F ht⟩) hfree hd hlocks)))
theorem ddX12_off : yX12_off.cls = RX12 ∧ yX12_off.cls ≠ "java/lang/invoke/MethodHandle" ∧ yX12_off.cls ≠ "java/lang/invoke/VarHandle" ∧ (parseMethodDescriptor yX12_off.desc).map (fun d => d.parameters.length) = some 3 := by decide +kernel

def f_X12_plainest_L104 (I : zI) (x26 : Int32) (J : zJ) (x34 : Int32) (x37 : Int32) (x38 : Int32) (x39 : Int32) (x40 : Int32) (x41 : Int32) : Option ((Int32 × Int32 × Int32 × Int32 × Int32) ⊕ (Int32 × Int32 × Int32 × Int32)) := zg (¬ ((0 : Int32) < 0 ∨ 2 ≤ (0 : Int32).toNatClampNeg)) ((if (I 3 (0 : Int32).toNatClampNeg) ≤ x41 then some (.inr (x37, x38, x39, x40)) else (if x26 = x41 then zn (x41 + 1) (fun y45 => some (.inl (x37, x38, x39, x40, y45))) else zb1 (f_X12_offOf I J x26 x34 x41) (fun x46 => (if x40 ≤ x46 then zn (x41 + 1) (fun y49 => some (.inl (x37, x38, x39, x40, y49))) else zb1 (f_X12_offOf I J x26 x34 x41) (fun x50 => zn (x41 + 1) (fun y52 => some (.inl (x26, x34, x41, x50, y52)))))))))
def f_X12_plainest_L94 (I : zI) (x26 : Int32) (J : zJ) (x30 : Int32) (x31 : Int32) (x32 : Int32) (x33 : Int32) (x34 : Int32) : Option ((Int32 × Int32 × Int32 × Int32 × Int32) ⊕ (Int32 × Int32 × Int32 × Int32)) := (if 100 < x34 then some (.inr (x30, x31, x32, x33)) else zb4 (zl (fun v : (Int32 × Int32 × Int32 × Int32 × Int32) => f_X12_plainest_L104 I x26 J x34 v.1 v.2.1 v.2.2.1 v.2.2.2.1 v.2.2.2.2) zF (x30, x31, x32, x33, 0)) (fun x53 x54 x55 x56 => zn (x34 + 1) (fun y57 => some (.inl (x53, x54, x55, x56, y57)))))
def f_X12_plainest_L80 (I : zI) (J : zJ) (x22 : Int32) (x23 : Int32) (x24 : Int32) (x25 : Int32) (x26 : Int32) : Option ((Int32 × Int32 × Int32 × Int32 × Int32) ⊕ (Int32 × Int32 × Int32 × Int32)) := zg (¬ ((0 : Int32) < 0 ∨ 2 ≤ (0 : Int32).toNatClampNeg)) ((if (I 3 (0 : Int32).toNatClampNeg) ≤ x26 then some (.inr (x22, x23, x24, x25)) else zb4 (zl (fun v : (Int32 × Int32 × Int32 × Int32 × Int32) => f_X12_plainest_L94 I x26 J v.1 v.2.1 v.2.2.1 v.2.2.2.1 v.2.2.2.2) zF (x22, x23, x24, x25, 0)) (fun x58 x59 x60 x61 => zn (x26 + 1) (fun y62 => some (.inl (x58, x59, x60, x61, y62))))))
def f_X12_plainest_L28 (I : zI) (J : zJ) (x5 : Int32) (x6 : Int32) (x7 : Int32) (x8 : Int32) : Option ((Int32 × Int32 × Int32 × Int32) ⊕ (Int32 × Int32 × Int32)) := zg (¬ ((0 : Int32) < 0 ∨ 2 ≤ (0 : Int32).toNatClampNeg)) ((if (I 3 (0 : Int32).toNatClampNeg) ≤ x8 then some (.inr (x5, x6, x7)) else zb1 (f_X12_offOf I J x8 0 x8) (fun x11 => (if x7 ≤ x11 then zn (x8 + 1) (fun y14 => some (.inl (x5, x6, x7, y14))) else zb1 (f_X12_offOf I J x8 0 x8) (fun x15 => zn (x8 + 1) (fun y17 => some (.inl (x8, x8, x15, y17))))))))
def f_X12_plainest (I : zI) (J : zJ) (p1 : Int32) : Option Int32 := zb1 (f_X12_in I J (p1.toInt64) 0 3) (fun x1 => (if x1 = 0 then some (-1) else zb3 (zl (fun v : (Int32 × Int32 × Int32 × Int32) => f_X12_plainest_L28 I J v.1 v.2.1 v.2.2.1 v.2.2.2) zF (0, 0, 1000000000, 0)) (fun x18 x19 x20 => zb4 (zl (fun v : (Int32 × Int32 × Int32 × Int32 × Int32) => f_X12_plainest_L80 I J v.1 v.2.1 v.2.2.1 v.2.2.2.1 v.2.2.2.2) zF (x18, 0, x19, x20, 0)) (fun x63 x64 x65 x66 => (if p1 = 0 then some x63 else (if p1 = 1 then some x64 else (if p1 = 2 then some x65 else some x66)))))))
theorem hinX12_plainest_X12 : ∀ w ∈ u_ws RX12 TX12 31, w ∈ wsX12_plainest := by decide +kernel
set_option maxHeartbeats 4000000 in
set_option maxRecDepth 100000 in
theorem w_X12_plainest {p : Program} {l : Launch} {e : Env} {R : Room} {s : State} {m : MethodId} {args : Array Value} {below : List Frame} {meth : Method} {c : Code} {Q : State → Prop} (hfr : 1 ≤ R.frames) (hlo : 25 ≤ R.locals) {D : va_G} {a0 : Nat → Nat} {A : Nat → Prop} {cy : Nat → ClassId} {ad : Nat → Nat} (hD : zD A 25 ad) {I : zI} {J : zJ} (p1 : Int32) {rx : Int32} (hf : f_X12_plainest I J p1 = some rx) {ls : Array Slot} (S0 : zSt p m c cX12_plainest 9 s args wsX12_plainest RX12 D a0 A cy (zw 25 (kM cy ad) ad I J) [.ref (ad 0), .int p1] ls) (hret : ∀ (tx : Int32), some tx = some rx → ∀ (H : Heap) (locs : List Loc) (ls : Array Slot) (pc : Nat), va_P D vwCl (zw 25 (kM cy ad) ad I J) H → va_S A s.heap H locs → decode cX12_plainest pc = .ok (.ireturn, 1) → W p l e R s m args below meth c H locs 0 0 Q (F0 m pc ls [.int tx])) : W p l e R s m args below meth c s.heap [] 0 0 Q (F0 m 0 ls []) := by
  obtain ⟨S, E, hP, hl⟩ := S0
  obtain ⟨hx, hb, hml, hown, hts⟩ := id S
  have hS : va_S A s.heap s.heap [] := va_S.rf
  replace hl : lv_has ls 9 [(0, .ref (ad 0)), (1, .int p1)] := hl
  unfold f_X12_plainest at hf
  refine lv_iload_n hx hb dX12_plainest_0 rfl (lv_at hl 1 rfl) ?_
  refine lv_i2l hx hb dX12_plainest_1 rfl ?_
  refine lv_lconst (v := 0) hx hb dX12_plainest_2 (by decide) ?_
  refine lv_ldc2 hx hb hown (hts (.constantLong RX12 115 3) (by decide +kernel)) dX12_plainest_3 ?_
  obtain ⟨x1, h2, hf⟩ := zb1_e hf
  refine zgo_i (zrunS (As := [.long (p1.toInt64), .long 0, .long 3]) (rest := []) S (c_X12_in l hD (p1.toInt64) 0 3 h2) (va_cwS 3 hts gX12_plainest_X12_in rfl rfl rfl ddX12_in ⟨Nat.le_trans (Nat.le_of_ble_eq_true rfl) hfr, Nat.le_trans (Nat.le_of_ble_eq_true rfl) hlo⟩) E hP hS hl.1 rfl rfl (Nat.le_of_ble_eq_true rfl) dX12_plainest_6) hS (fun H locs hP hS => ?_)
  refine lv_if_ne (tgt := 14) hx hb dX12_plainest_9 (by decide) (fun k3 => ?_) (fun k3 => ?_)
  · replace hf := zf k3 hf
    refine lv_iconst (v := 0) hx hb dX12_plainest_14 (by decide) ?_
    refine lv_istore_n (lv' := [(2, .int 0), (0, .ref (ad 0)), (1, .int p1)]) hx hb dX12_plainest_15 rfl hl (by decide) rfl (fun ls hl => ?_)
    refine lv_iconst (v := 0) hx hb dX12_plainest_16 (by decide) ?_
    refine lv_istore_n (lv' := [(3, .int 0), (2, .int 0), (0, .ref (ad 0)), (1, .int p1)]) hx hb dX12_plainest_17 rfl hl (by decide) rfl (fun ls hl => ?_)
    refine lv_iconst (v := 0) hx hb dX12_plainest_18 (by decide) ?_
    refine lv_istore (lv' := [(4, .int 0), (3, .int 0), (2, .int 0), (0, .ref (ad 0)), (1, .int p1)]) hx hb dX12_plainest_19 hl (by decide) rfl (fun ls hl => ?_)
    refine lv_ldc hx hb hown (hts (.constant RX12 254 1000000000) (by decide +kernel)) dX12_plainest_21 ?_
    refine lv_istore (lv' := [(5, .int 1000000000), (4, .int 0), (3, .int 0), (2, .int 0), (0, .ref (ad 0)), (1, .int p1)]) hx hb dX12_plainest_23 hl (by decide) rfl (fun ls hl => ?_)
    refine lv_iconst (v := 0) hx hb dX12_plainest_25 (by decide) ?_
    refine lv_istore (lv' := [(6, .int 0), (5, .int 1000000000), (4, .int 0), (3, .int 0), (2, .int 0), (0, .ref (ad 0)), (1, .int p1)]) hx hb dX12_plainest_26 hl (by decide) rfl (fun ls hl => ?_)
    obtain ⟨zl4, hf, hzl4⟩ := zb3_i hf
    have hjl4 : ∀ (x18 : Int32) (x19 : Int32) (x20 : Int32), (x18, x19, x20) = zl4 → ∀ (H : Heap) (locs : List Loc) (ls : Array Slot), va_P D vwCl (zw 25 (kM cy ad) ad I J) H → va_S A s.heap H locs → lv_has ls 9 [(0, .ref (ad 0)), (1, .int p1), (2, .int x18), (3, .int 0), (4, .int x19), (5, .int x20)] → W p l e R s m args below meth c H locs 0 0 Q (F0 m 77 ls []) := by
      intro x18 x19 x20 ez H locs ls hP hS hl
      have hf := hzl4 x18 x19 x20 ez
      refine lv_iconst (v := 0) hx hb dX12_plainest_77 (by decide) ?_
      refine lv_istore (lv' := [(6, .int 0), (0, .ref (ad 0)), (1, .int p1), (2, .int x18), (3, .int 0), (4, .int x19), (5, .int x20)]) hx hb dX12_plainest_78 hl (by decide) rfl (fun ls hl => ?_)
      obtain ⟨zl21, hf, hzl21⟩ := zb4_i hf
      have hjl21 : ∀ (x63 : Int32) (x64 : Int32) (x65 : Int32) (x66 : Int32), (x63, x64, x65, x66) = zl21 → ∀ (H : Heap) (locs : List Loc) (ls : Array Slot), va_P D vwCl (zw 25 (kM cy ad) ad I J) H → va_S A s.heap H locs → lv_has ls 9 [(1, .int p1), (2, .int x63), (3, .int x64), (4, .int x65), (5, .int x66)] → W p l e R s m args below meth c H locs 0 0 Q (F0 m 177 ls []) := by
        intro x63 x64 x65 x66 ez H locs ls hP hS hl
        have hf := hzl21 x63 x64 x65 x66 ez
        refine lv_iload_n hx hb dX12_plainest_177 rfl (lv_at hl 0 rfl) ?_
        refine lv_if_ne (tgt := 185) hx hb dX12_plainest_178 (by decide) (fun k67 => ?_) (fun k67 => ?_)
        · replace hf := zf k67 hf
          refine lv_iload_n hx hb dX12_plainest_185 rfl (lv_at hl 0 rfl) ?_
          refine lv_iconst (v := 1) hx hb dX12_plainest_186 (by decide) ?_
          refine lv_icmp_ne (tgt := 194) hx hb dX12_plainest_187 (by decide) (fun k68 => ?_) (fun k68 => ?_)
          · replace hf := zf k68 hf
            refine lv_iload_n hx hb dX12_plainest_194 rfl (lv_at hl 0 rfl) ?_
            refine lv_iconst (v := 2) hx hb dX12_plainest_195 (by decide) ?_
            refine lv_icmp_ne (tgt := 204) hx hb dX12_plainest_196 (by decide) (fun k69 => ?_) (fun k69 => ?_)
            · replace hf := zf k69 hf
              refine lv_iload hx hb dX12_plainest_204 (lv_at hl 4 rfl) ?_
              exact hret _ hf _ _ _ _ hP hS dX12_plainest_206
            · replace hf := zt k69 hf
              refine lv_iload hx hb dX12_plainest_199 (lv_at hl 3 rfl) ?_
              refine lv_goto (tgt := 206) hx hb dX12_plainest_201 (by decide) ?_
              exact hret _ hf _ _ _ _ hP hS dX12_plainest_206
          · replace hf := zt k68 hf
            refine lv_iload_n hx hb dX12_plainest_190 rfl (lv_at hl 2 rfl) ?_
            refine lv_goto (tgt := 206) hx hb dX12_plainest_191 (by decide) ?_
            exact hret _ hf _ _ _ _ hP hS dX12_plainest_206
        · replace hf := zt k67 hf
          refine lv_iload_n hx hb dX12_plainest_181 rfl (lv_at hl 1 rfl) ?_
          refine lv_goto (tgt := 206) hx hb dX12_plainest_182 (by decide) ?_
          exact hret _ hf _ _ _ _ hP hS dX12_plainest_206
      refine zl_i (V := (Int32 × Int32 × Int32 × Int32 × Int32)) (P := fun v => ∀ (H : Heap) (locs : List Loc) (ls : Array Slot), va_P D vwCl (zw 25 (kM cy ad) ad I J) H → va_S A s.heap H locs → lv_has ls 9 [(0, .ref (ad 0)), (1, .int p1), (2, .int (v.1)), (3, .int (v.2.1)), (4, .int (v.2.2.1)), (5, .int (v.2.2.2.1)), (6, .int (v.2.2.2.2))] → W p l e R s m args below meth c H locs 0 0 Q (F0 m 80 ls [])) ?_ _ _ hf _ _ _ hP hS (lv_sub hl [1, 2, 3, 4, 5, 6, 0] rfl)
      intro v z hf hcl21 hdl21
      obtain ⟨x22, x23, x24, x25, x26⟩ := v
      intro H locs ls hP hS hl
      replace hf : f_X12_plainest_L80 I J x22 x23 x24 x25 x26 = some z := hf
      unfold f_X12_plainest_L80 at hf
      replace hP : va_P D vwCl (zw 25 (kM cy ad) ad I J) H := hP
      replace hl : lv_has ls 9 [(0, .ref (ad 0)), (1, .int p1), (2, .int x22), (3, .int x23), (4, .int x24), (5, .int x25), (6, .int x26)] := hl
      refine lv_iload hx hb dX12_plainest_80 (lv_at hl 6 rfl) ?_
      refine lv_aload_n hx hb dX12_plainest_82 rfl (lv_at hl 0 rfl) ?_
      refine va_get (D := D) (ci := 11) (v := .ref (ad 3)) (C := RX12) (T := TX12) (N := 31) hx hb hts hinX12_plainest_X12 hown E.1 hP 0 (zO.get (oX12_at)) rfl 4 (by decide) (hts (.fieldLink RX12 17 "EdgeAndSpeedModel" "speeds" "[I") (by decide +kernel)) (fun _ h9 => h9) rfl dX12_plainest_83 ?_
      refine lv_iconst (v := 0) hx hb dX12_plainest_86 (by decide) ?_
      obtain ⟨g27, hf⟩ := zg_i hf
      refine va_iald hx hb E.1 hP 3 1 (zIA.get (aX12_4)) rfl g27 dX12_plainest_87 ?_
      refine lv_icmp_ge (tgt := 177) hx hb dX12_plainest_88 (by decide) (fun k28 => ?_) (fun k28 => ?_)
      · replace hf := zt k28 hf
        exact hjl21 _ _ _ _ (hdl21 _ (Option.some.inj hf).symm) _ _ _ hP hS (lv_sub hl [1, 2, 3, 4, 5] rfl)
      · replace hf := zf k28 hf
        refine lv_iconst (v := 0) hx hb dX12_plainest_91 (by decide) ?_
        refine lv_istore (lv' := [(7, .int 0), (0, .ref (ad 0)), (1, .int p1), (2, .int x22), (3, .int x23), (4, .int x24), (5, .int x25), (6, .int x26)]) hx hb dX12_plainest_92 hl (by decide) rfl (fun ls hl => ?_)
        obtain ⟨zl29, hf, hzl29⟩ := zb4_i hf
        have hjl29 : ∀ (x58 : Int32) (x59 : Int32) (x60 : Int32) (x61 : Int32), (x58, x59, x60, x61) = zl29 → ∀ (H : Heap) (locs : List Loc) (ls : Array Slot), va_P D vwCl (zw 25 (kM cy ad) ad I J) H → va_S A s.heap H locs → lv_has ls 9 [(0, .ref (ad 0)), (1, .int p1), (2, .int x58), (3, .int x59), (4, .int x60), (5, .int x61), (6, .int x26)] → W p l e R s m args below meth c H locs 0 0 Q (F0 m 171 ls []) := by
          intro x58 x59 x60 x61 ez H locs ls hP hS hl
          have hf := hzl29 x58 x59 x60 x61 ez
          obtain ⟨y62, ey62⟩ := zex (x26 + 1)
          replace hf := zn_s ey62 hf
          refine lv_iinc (v := y62) (lv' := [(6, .int y62), (0, .ref (ad 0)), (1, .int p1), (2, .int x58), (3, .int x59), (4, .int x60), (5, .int x61)]) hx hb dX12_plainest_171 hl (k := 6) rfl (by rw [ey62]; rfl) (by decide) rfl (fun ls hl => ?_)
          refine lv_goto (tgt := 80) hx hb dX12_plainest_174 (by decide) ?_
          exact hcl21 _ (Option.some.inj hf).symm _ _ _ hP hS (lv_sub hl [1, 2, 3, 4, 5, 6, 0] rfl)
        refine zl_i (V := (Int32 × Int32 × Int32 × Int32 × Int32)) (P := fun v => ∀ (H : Heap) (locs : List Loc) (ls : Array Slot), va_P D vwCl (zw 25 (kM cy ad) ad I J) H → va_S A s.heap H locs → lv_has ls 9 [(0, .ref (ad 0)), (1, .int p1), (2, .int (v.1)), (3, .int (v.2.1)), (4, .int (v.2.2.1)), (5, .int (v.2.2.2.1)), (6, .int x26), (7, .int (v.2.2.2.2))] → W p l e R s m args below meth c H locs 0 0 Q (F0 m 94 ls [])) ?_ _ _ hf _ _ _ hP hS (lv_sub hl [1, 2, 3, 4, 5, 6, 7, 0] rfl)
        intro v z hf hcl29 hdl29
        obtain ⟨x30, x31, x32, x33, x34⟩ := v
        intro H locs ls hP hS hl
        replace hf : f_X12_plainest_L94 I x26 J x30 x31 x32 x33 x34 = some z := hf
        unfold f_X12_plainest_L94 at hf
        replace hP : va_P D vwCl (zw 25 (kM cy ad) ad I J) H := hP
        replace hl : lv_has ls 9 [(0, .ref (ad 0)), (1, .int p1), (2, .int x30), (3, .int x31), (4, .int x32), (5, .int x33), (6, .int x26), (7, .int x34)] := hl
        refine lv_iload hx hb dX12_plainest_94 (lv_at hl 7 rfl) ?_
        refine lv_bipush (v := 100) hx hb dX12_plainest_96 (by decide) ?_
        refine lv_icmp_gt (tgt := 171) hx hb dX12_plainest_98 (by decide) (fun k35 => ?_) (fun k35 => ?_)
        · replace hf := zt k35 hf
          exact hjl29 _ _ _ _ (hdl29 _ (Option.some.inj hf).symm) _ _ _ hP hS (lv_sub hl [0, 1, 2, 3, 4, 5, 6] rfl)
        · replace hf := zf k35 hf
          refine lv_iconst (v := 0) hx hb dX12_plainest_101 (by decide) ?_
          refine lv_istore (lv' := [(8, .int 0), (0, .ref (ad 0)), (1, .int p1), (2, .int x30), (3, .int x31), (4, .int x32), (5, .int x33), (6, .int x26), (7, .int x34)]) hx hb dX12_plainest_102 hl (by decide) rfl (fun ls hl => ?_)
          obtain ⟨zl36, hf, hzl36⟩ := zb4_i hf
          have hjl36 : ∀ (x53 : Int32) (x54 : Int32) (x55 : Int32) (x56 : Int32), (x53, x54, x55, x56) = zl36 → ∀ (H : Heap) (locs : List Loc) (ls : Array Slot), va_P D vwCl (zw 25 (kM cy ad) ad I J) H → va_S A s.heap H locs → lv_has ls 9 [(0, .ref (ad 0)), (1, .int p1), (2, .int x53), (3, .int x54), (4, .int x55), (5, .int x56), (6, .int x26), (7, .int x34)] → W p l e R s m args below meth c H locs 0 0 Q (F0 m 165 ls []) := by
            intro x53 x54 x55 x56 ez H locs ls hP hS hl
            have hf := hzl36 x53 x54 x55 x56 ez
            obtain ⟨y57, ey57⟩ := zex (x34 + 1)
            replace hf := zn_s ey57 hf
            refine lv_iinc (v := y57) (lv' := [(7, .int y57), (0, .ref (ad 0)), (1, .int p1), (2, .int x53), (3, .int x54), (4, .int x55), (5, .int x56), (6, .int x26)]) hx hb dX12_plainest_165 hl (k := 7) rfl (by rw [ey57]; rfl) (by decide) rfl (fun ls hl => ?_)
            refine lv_goto (tgt := 94) hx hb dX12_plainest_168 (by decide) ?_
            exact hcl29 _ (Option.some.inj hf).symm _ _ _ hP hS (lv_sub hl [1, 2, 3, 4, 5, 6, 7, 0] rfl)
          refine zl_i (V := (Int32 × Int32 × Int32 × Int32 × Int32)) (P := fun v => ∀ (H : Heap) (locs : List Loc) (ls : Array Slot), va_P D vwCl (zw 25 (kM cy ad) ad I J) H → va_S A s.heap H locs → lv_has ls 9 [(0, .ref (ad 0)), (1, .int p1), (2, .int (v.1)), (3, .int (v.2.1)), (4, .int (v.2.2.1)), (5, .int (v.2.2.2.1)), (6, .int x26), (7, .int x34), (8, .int (v.2.2.2.2))] → W p l e R s m args below meth c H locs 0 0 Q (F0 m 104 ls [])) ?_ _ _ hf _ _ _ hP hS (lv_sub hl [1, 2, 3, 4, 5, 6, 7, 8, 0] rfl)
          intro v z hf hcl36 hdl36
          obtain ⟨x37, x38, x39, x40, x41⟩ := v
          intro H locs ls hP hS hl
          replace hf : f_X12_plainest_L104 I x26 J x34 x37 x38 x39 x40 x41 = some z := hf
          unfold f_X12_plainest_L104 at hf
          replace hP : va_P D vwCl (zw 25 (kM cy ad) ad I J) H := hP
          replace hl : lv_has ls 9 [(0, .ref (ad 0)), (1, .int p1), (2, .int x37), (3, .int x38), (4, .int x39), (5, .int x40), (6, .int x26), (7, .int x34), (8, .int x41)] := hl
          refine lv_iload hx hb dX12_plainest_104 (lv_at hl 8 rfl) ?_
          refine lv_aload_n hx hb dX12_plainest_106 rfl (lv_at hl 0 rfl) ?_
          refine va_get (D := D) (ci := 11) (v := .ref (ad 3)) (C := RX12) (T := TX12) (N := 31) hx hb hts hinX12_plainest_X12 hown E.1 hP 0 (zO.get (oX12_at)) rfl 4 (by decide) (hts (.fieldLink RX12 17 "EdgeAndSpeedModel" "speeds" "[I") (by decide +kernel)) (fun _ h9 => h9) rfl dX12_plainest_107 ?_
          refine lv_iconst (v := 0) hx hb dX12_plainest_110 (by decide) ?_
          obtain ⟨g42, hf⟩ := zg_i hf
          refine va_iald hx hb E.1 hP 3 1 (zIA.get (aX12_4)) rfl g42 dX12_plainest_111 ?_
          refine lv_icmp_ge (tgt := 165) hx hb dX12_plainest_112 (by decide) (fun k43 => ?_) (fun k43 => ?_)
          · replace hf := zt k43 hf
            exact hjl36 _ _ _ _ (hdl36 _ (Option.some.inj hf).symm) _ _ _ hP hS (lv_sub hl [0, 1, 2, 3, 4, 5, 6, 7] rfl)
          · replace hf := zf k43 hf
            refine lv_iload hx hb dX12_plainest_115 (lv_at hl 6 rfl) ?_
            refine lv_iload hx hb dX12_plainest_117 (lv_at hl 8 rfl) ?_
            refine lv_icmp_eq (tgt := 159) hx hb dX12_plainest_119 (by decide) (fun k44 => ?_) (fun k44 => ?_)
            · replace hf := zt k44 hf
              obtain ⟨y45, ey45⟩ := zex (x41 + 1)
              replace hf := zn_s ey45 hf
              refine lv_iinc (v := y45) (lv' := [(8, .int y45), (0, .ref (ad 0)), (1, .int p1), (2, .int x37), (3, .int x38), (4, .int x39), (5, .int x40), (6, .int x26), (7, .int x34)]) hx hb dX12_plainest_159 hl (k := 8) rfl (by rw [ey45]; rfl) (by decide) rfl (fun ls hl => ?_)
              refine lv_goto (tgt := 104) hx hb dX12_plainest_162 (by decide) ?_
              exact hcl36 _ (Option.some.inj hf).symm _ _ _ hP hS (lv_sub hl [1, 2, 3, 4, 5, 6, 7, 8, 0] rfl)
            · replace hf := zf k44 hf
              refine lv_aload_n hx hb dX12_plainest_122 rfl (lv_at hl 0 rfl) ?_
              refine lv_iload hx hb dX12_plainest_123 (lv_at hl 6 rfl) ?_
              refine lv_iload hx hb dX12_plainest_125 (lv_at hl 7 rfl) ?_
              refine lv_iload hx hb dX12_plainest_127 (lv_at hl 8 rfl) ?_
              obtain ⟨x46, h47, hf⟩ := zb1_e hf
              refine zgo_i (zrunV (As := [.int x26, .int x34, .int x41]) (rest := []) S (c_X12_offOf l hD x26 x34 x41 h47) (cwV 3 hts gX12_plainest_X12_offOf rfl rfl rfl ddX12_offOf ⟨Nat.le_trans (Nat.le_of_ble_eq_true rfl) hfr, Nat.le_trans (Nat.le_of_ble_eq_true rfl) hlo⟩) (va_recv E.1 hP (q := (RX12, TX12, 31)) (ci := 11) rfl (zO.get (oX12_at))) E hP hS hl.1 rfl rfl (Nat.le_of_ble_eq_true rfl) dX12_plainest_129) hS (fun H locs hP hS => ?_)
              refine lv_iload hx hb dX12_plainest_132 (lv_at hl 5 rfl) ?_
              refine lv_icmp_ge (tgt := 159) hx hb dX12_plainest_134 (by decide) (fun k48 => ?_) (fun k48 => ?_)
              · replace hf := zt k48 hf
                obtain ⟨y49, ey49⟩ := zex (x41 + 1)
                replace hf := zn_s ey49 hf
                refine lv_iinc (v := y49) (lv' := [(8, .int y49), (0, .ref (ad 0)), (1, .int p1), (2, .int x37), (3, .int x38), (4, .int x39), (5, .int x40), (6, .int x26), (7, .int x34)]) hx hb dX12_plainest_159 hl (k := 8) rfl (by rw [ey49]; rfl) (by decide) rfl (fun ls hl => ?_)
                refine lv_goto (tgt := 104) hx hb dX12_plainest_162 (by decide) ?_
                exact hcl36 _ (Option.some.inj hf).symm _ _ _ hP hS (lv_sub hl [1, 2, 3, 4, 5, 6, 7, 8, 0] rfl)
              · replace hf := zf k48 hf
                refine lv_aload_n hx hb dX12_plainest_137 rfl (lv_at hl 0 rfl) ?_
                refine lv_iload hx hb dX12_plainest_138 (lv_at hl 6 rfl) ?_
                refine lv_iload hx hb dX12_plainest_140 (lv_at hl 7 rfl) ?_
                refine lv_iload hx hb dX12_plainest_142 (lv_at hl 8 rfl) ?_
                obtain ⟨x50, h51, hf⟩ := zb1_e hf
                refine zgo_i (zrunV (As := [.int x26, .int x34, .int x41]) (rest := []) S (c_X12_offOf l hD x26 x34 x41 h51) (cwV 3 hts gX12_plainest_X12_offOf rfl rfl rfl ddX12_offOf ⟨Nat.le_trans (Nat.le_of_ble_eq_true rfl) hfr, Nat.le_trans (Nat.le_of_ble_eq_true rfl) hlo⟩) (va_recv E.1 hP (q := (RX12, TX12, 31)) (ci := 11) rfl (zO.get (oX12_at))) E hP hS hl.1 rfl rfl (Nat.le_of_ble_eq_true rfl) dX12_plainest_144) hS (fun H locs hP hS => ?_)
                refine lv_istore (lv' := [(5, .int x50), (0, .ref (ad 0)), (1, .int p1), (2, .int x37), (3, .int x38), (4, .int x39), (6, .int x26), (7, .int x34), (8, .int x41)]) hx hb dX12_plainest_147 hl (by decide) rfl (fun ls hl => ?_)
                refine lv_iload hx hb dX12_plainest_149 (lv_at hl 6 rfl) ?_
                refine lv_istore_n (lv' := [(2, .int x26), (5, .int x50), (0, .ref (ad 0)), (1, .int p1), (3, .int x38), (4, .int x39), (6, .int x26), (7, .int x34), (8, .int x41)]) hx hb dX12_plainest_151 rfl hl (by decide) rfl (fun ls hl => ?_)
                refine lv_iload hx hb dX12_plainest_152 (lv_at hl 7 rfl) ?_
                refine lv_istore_n (lv' := [(3, .int x34), (2, .int x26), (5, .int x50), (0, .ref (ad 0)), (1, .int p1), (4, .int x39), (6, .int x26), (7, .int x34), (8, .int x41)]) hx hb dX12_plainest_154 rfl hl (by decide) rfl (fun ls hl => ?_)
                refine lv_iload hx hb dX12_plainest_155 (lv_at hl 8 rfl) ?_
                refine lv_istore (lv' := [(4, .int x41), (3, .int x34), (2, .int x26), (5, .int x50), (0, .ref (ad 0)), (1, .int p1), (6, .int x26), (7, .int x34), (8, .int x41)]) hx hb dX12_plainest_157 hl (by decide) rfl (fun ls hl => ?_)
                obtain ⟨y52, ey52⟩ := zex (x41 + 1)
                replace hf := zn_s ey52 hf
                refine lv_iinc (v := y52) (lv' := [(8, .int y52), (4, .int x41), (3, .int x34), (2, .int x26), (5, .int x50), (0, .ref (ad 0)), (1, .int p1), (6, .int x26), (7, .int x34)]) hx hb dX12_plainest_159 hl (k := 8) rfl (by rw [ey52]; rfl) (by decide) rfl (fun ls hl => ?_)
                refine lv_goto (tgt := 104) hx hb dX12_plainest_162 (by decide) ?_
                exact hcl36 _ (Option.some.inj hf).symm _ _ _ hP hS (lv_sub hl [5, 6, 3, 2, 1, 4, 7, 8, 0] rfl)
    refine zl_i (V := (Int32 × Int32 × Int32 × Int32)) (P := fun v => ∀ (H : Heap) (locs : List Loc) (ls : Array Slot), va_P D vwCl (zw 25 (kM cy ad) ad I J) H → va_S A s.heap H locs → lv_has ls 9 [(0, .ref (ad 0)), (1, .int p1), (2, .int (v.1)), (3, .int 0), (4, .int (v.2.1)), (5, .int (v.2.2.1)), (6, .int (v.2.2.2))] → W p l e R s m args below meth c H locs 0 0 Q (F0 m 28 ls [])) ?_ _ _ hf _ _ _ hP hS (lv_sub hl [5, 6, 4, 3, 2, 1, 0] rfl)
    intro v z hf hcl4 hdl4
    obtain ⟨x5, x6, x7, x8⟩ := v
    intro H locs ls hP hS hl
    replace hf : f_X12_plainest_L28 I J x5 x6 x7 x8 = some z := hf
    unfold f_X12_plainest_L28 at hf
    replace hP : va_P D vwCl (zw 25 (kM cy ad) ad I J) H := hP
    replace hl : lv_has ls 9 [(0, .ref (ad 0)), (1, .int p1), (2, .int x5), (3, .int 0), (4, .int x6), (5, .int x7), (6, .int x8)] := hl
    refine lv_iload hx hb dX12_plainest_28 (lv_at hl 6 rfl) ?_
    refine lv_aload_n hx hb dX12_plainest_30 rfl (lv_at hl 0 rfl) ?_
    refine va_get (D := D) (ci := 11) (v := .ref (ad 3)) (C := RX12) (T := TX12) (N := 31) hx hb hts hinX12_plainest_X12 hown E.1 hP 0 (zO.get (oX12_at)) rfl 4 (by decide) (hts (.fieldLink RX12 17 "EdgeAndSpeedModel" "speeds" "[I") (by decide +kernel)) (fun _ h9 => h9) rfl dX12_plainest_31 ?_
    refine lv_iconst (v := 0) hx hb dX12_plainest_34 (by decide) ?_
    obtain ⟨g9, hf⟩ := zg_i hf
    refine va_iald hx hb E.1 hP 3 1 (zIA.get (aX12_4)) rfl g9 dX12_plainest_35 ?_
    refine lv_icmp_ge (tgt := 77) hx hb dX12_plainest_36 (by decide) (fun k10 => ?_) (fun k10 => ?_)
    · replace hf := zt k10 hf
      exact hjl4 _ _ _ (hdl4 _ (Option.some.inj hf).symm) _ _ _ hP hS (lv_sub hl [0, 1, 2, 3, 4, 5] rfl)
    · replace hf := zf k10 hf
      refine lv_aload_n hx hb dX12_plainest_39 rfl (lv_at hl 0 rfl) ?_
      refine lv_iload hx hb dX12_plainest_40 (lv_at hl 6 rfl) ?_
      refine lv_iconst (v := 0) hx hb dX12_plainest_42 (by decide) ?_
      refine lv_iload hx hb dX12_plainest_43 (lv_at hl 6 rfl) ?_
      obtain ⟨x11, h12, hf⟩ := zb1_e hf
      refine zgo_i (zrunV (As := [.int x8, .int 0, .int x8]) (rest := []) S (c_X12_offOf l hD x8 0 x8 h12) (cwV 3 hts gX12_plainest_X12_offOf rfl rfl rfl ddX12_offOf ⟨Nat.le_trans (Nat.le_of_ble_eq_true rfl) hfr, Nat.le_trans (Nat.le_of_ble_eq_true rfl) hlo⟩) (va_recv E.1 hP (q := (RX12, TX12, 31)) (ci := 11) rfl (zO.get (oX12_at))) E hP hS hl.1 rfl rfl (Nat.le_of_ble_eq_true rfl) dX12_plainest_45) hS (fun H locs hP hS => ?_)
      refine lv_iload hx hb dX12_plainest_48 (lv_at hl 5 rfl) ?_
      refine lv_icmp_ge (tgt := 71) hx hb dX12_plainest_50 (by decide) (fun k13 => ?_) (fun k13 => ?_)
      · replace hf := zt k13 hf
        obtain ⟨y14, ey14⟩ := zex (x8 + 1)
        replace hf := zn_s ey14 hf
        refine lv_iinc (v := y14) (lv' := [(6, .int y14), (0, .ref (ad 0)), (1, .int p1), (2, .int x5), (3, .int 0), (4, .int x6), (5, .int x7)]) hx hb dX12_plainest_71 hl (k := 6) rfl (by rw [ey14]; rfl) (by decide) rfl (fun ls hl => ?_)
        refine lv_goto (tgt := 28) hx hb dX12_plainest_74 (by decide) ?_
        exact hcl4 _ (Option.some.inj hf).symm _ _ _ hP hS (lv_sub hl [1, 2, 3, 4, 5, 6, 0] rfl)
      · replace hf := zf k13 hf
        refine lv_aload_n hx hb dX12_plainest_53 rfl (lv_at hl 0 rfl) ?_
        refine lv_iload hx hb dX12_plainest_54 (lv_at hl 6 rfl) ?_
        refine lv_iconst (v := 0) hx hb dX12_plainest_56 (by decide) ?_
        refine lv_iload hx hb dX12_plainest_57 (lv_at hl 6 rfl) ?_
        obtain ⟨x15, h16, hf⟩ := zb1_e hf
        refine zgo_i (zrunV (As := [.int x8, .int 0, .int x8]) (rest := []) S (c_X12_offOf l hD x8 0 x8 h16) (cwV 3 hts gX12_plainest_X12_offOf rfl rfl rfl ddX12_offOf ⟨Nat.le_trans (Nat.le_of_ble_eq_true rfl) hfr, Nat.le_trans (Nat.le_of_ble_eq_true rfl) hlo⟩) (va_recv E.1 hP (q := (RX12, TX12, 31)) (ci := 11) rfl (zO.get (oX12_at))) E hP hS hl.1 rfl rfl (Nat.le_of_ble_eq_true rfl) dX12_plainest_59) hS (fun H locs hP hS => ?_)
        refine lv_istore (lv' := [(5, .int x15), (0, .ref (ad 0)), (1, .int p1), (2, .int x5), (3, .int 0), (4, .int x6), (6, .int x8)]) hx hb dX12_plainest_62 hl (by decide) rfl (fun ls hl => ?_)
        refine lv_iload hx hb dX12_plainest_64 (lv_at hl 6 rfl) ?_
        refine lv_istore_n (lv' := [(2, .int x8), (5, .int x15), (0, .ref (ad 0)), (1, .int p1), (3, .int 0), (4, .int x6), (6, .int x8)]) hx hb dX12_plainest_66 rfl hl (by decide) rfl (fun ls hl => ?_)
        refine lv_iload hx hb dX12_plainest_67 (lv_at hl 6 rfl) ?_
        refine lv_istore (lv' := [(4, .int x8), (2, .int x8), (5, .int x15), (0, .ref (ad 0)), (1, .int p1), (3, .int 0), (6, .int x8)]) hx hb dX12_plainest_69 hl (by decide) rfl (fun ls hl => ?_)
        obtain ⟨y17, ey17⟩ := zex (x8 + 1)
        replace hf := zn_s ey17 hf
        refine lv_iinc (v := y17) (lv' := [(6, .int y17), (4, .int x8), (2, .int x8), (5, .int x15), (0, .ref (ad 0)), (1, .int p1), (3, .int 0)]) hx hb dX12_plainest_71 hl (k := 6) rfl (by rw [ey17]; rfl) (by decide) rfl (fun ls hl => ?_)
        refine lv_goto (tgt := 28) hx hb dX12_plainest_74 (by decide) ?_
        exact hcl4 _ (Option.some.inj hf).symm _ _ _ hP hS (lv_sub hl [4, 5, 2, 6, 1, 3, 0] rfl)
  · replace hf := zt k3 hf
    refine lv_iconst (v := (-1)) hx hb dX12_plainest_12 (by decide) ?_
    exact hret _ hf _ _ _ _ hP hS dX12_plainest_13
theorem c_X12_plainest (l : Launch) {D : va_G} {a0 : Nat → Nat} {A : Nat → Prop} {cy : Nat → ClassId} {ad : Nat → Nat} (hD : zD A 25 ad) {I : zI} {J : zJ} (p1 : Int32) {rx : Int32} (hf : f_X12_plainest I J p1 = some rx) : Met l yX12_plainest wsX12_plainest { frames := 1, cells := 0, slots := 0, locals := 25 } (zPc D a0 A cy [.ref (ad 0), .int p1] (zw 25 (kM cy ad) ad I J)) (zQi D A rx (zw 25 (kM cy ad) ad I J)) 0 0 A :=
  zmet RX12 (by decide) rfl rfl (Nat.le_of_ble_eq_true rfl) (fun p e R s m below meth c Q hfr hlo ls S0 hQ => w_X12_plainest hfr hlo hD p1 hf S0 (fun tx hq H locs ls pc hP hS hd => by cases hq; exact hQ H locs _ hS (fun hx hb hr hlocks hfree => W.iret hx hb hr (fun t ht hW => ⟨⟨_, (), rfl, rfl, zht ht hP⟩, hS.F ht⟩) hfree hd hlocks)))
theorem ddX12_plainest : yX12_plainest.cls = RX12 ∧ yX12_plainest.cls ≠ "java/lang/invoke/MethodHandle" ∧ yX12_plainest.cls ≠ "java/lang/invoke/VarHandle" ∧ (parseMethodDescriptor yX12_plainest.desc).map (fun d => d.parameters.length) = some 1 := by decide +kernel

def f_X12_draw (I : zI) (J : zJ) (p1 : Int32) (p2 : Int32) : Option Int32 := zn ((((7919 * p1.toInt64) + (6151 * p2.toInt64)) + 1)) (fun u1 => some ((((u1 * u1) - (u1 * u1) / 65521 * 65521) - ((u1 * u1) - (u1 * u1) / 65521 * 65521) / 100 * 100).toInt32))
set_option maxHeartbeats 4000000 in
set_option maxRecDepth 100000 in
theorem w_X12_draw {p : Program} {l : Launch} {e : Env} {R : Room} {s : State} {m : MethodId} {args : Array Value} {below : List Frame} {meth : Method} {c : Code} {Q : State → Prop} (hfr : 0 ≤ R.frames) (hlo : 0 ≤ R.locals) {D : va_G} {a0 : Nat → Nat} {A : Nat → Prop} {cy : Nat → ClassId} {ad : Nat → Nat} (hD : zD A 25 ad) {I : zI} {J : zJ} (p1 : Int32) (p2 : Int32) {rx : Int32} (hf : f_X12_draw I J p1 p2 = some rx) {ls : Array Slot} (S0 : zSt p m c cX12_draw 4 s args wsX12_draw RX12 D a0 A cy (zw 25 (kM cy ad) ad I J) [.int p1, .int p2] ls) (hret : ∀ (tx : Int32), some tx = some rx → ∀ (H : Heap) (locs : List Loc) (ls : Array Slot) (pc : Nat), va_P D vwCl (zw 25 (kM cy ad) ad I J) H → va_S A s.heap H locs → decode cX12_draw pc = .ok (.ireturn, 1) → W p l e R s m args below meth c H locs 0 0 Q (F0 m pc ls [.int tx])) : W p l e R s m args below meth c s.heap [] 0 0 Q (F0 m 0 ls []) := by
  obtain ⟨S, E, hP, hl⟩ := S0
  obtain ⟨hx, hb, hml, hown, hts⟩ := id S
  have hS : va_S A s.heap s.heap [] := va_S.rf
  replace hl : lv_has ls 4 [(0, .int p1), (1, .int p2)] := hl
  unfold f_X12_draw at hf
  refine lv_ldc2 hx hb hown (hts (.constantLong RX12 303 7919) (by decide +kernel)) dX12_draw_0 ?_
  refine lv_iload_n hx hb dX12_draw_3 rfl (lv_at hl 0 rfl) ?_
  refine lv_i2l hx hb dX12_draw_4 rfl ?_
  refine lv_lmul hx hb dX12_draw_5 ?_
  refine lv_ldc2 hx hb hown (hts (.constantLong RX12 305 6151) (by decide +kernel)) dX12_draw_6 ?_
  refine lv_iload_n hx hb dX12_draw_9 rfl (lv_at hl 1 rfl) ?_
  refine lv_i2l hx hb dX12_draw_10 rfl ?_
  refine lv_lmul hx hb dX12_draw_11 ?_
  refine lv_ladd hx hb dX12_draw_12 ?_
  refine lv_lconst (v := 1) hx hb dX12_draw_13 (by decide) ?_
  refine lv_ladd hx hb dX12_draw_14 ?_
  refine lv_topl (fun u1 eu1 => ?_)
  replace hf := zn_s eu1 hf
  refine lv_lstore_n (lv' := [(2, .long u1), (0, .int p1), (1, .int p2)]) hx hb dX12_draw_15 rfl hl (by decide) rfl (fun ls hl => ?_)
  refine lv_lload_n hx hb dX12_draw_16 rfl (lv_at hl 0 rfl) ?_
  refine lv_lload_n hx hb dX12_draw_17 rfl (lv_at hl 0 rfl) ?_
  refine lv_lmul hx hb dX12_draw_18 ?_
  refine lv_ldc2 hx hb hown (hts (.constantLong RX12 307 65521) (by decide +kernel)) dX12_draw_19 ?_
  refine lv_lrem hx hb dX12_draw_22 (by decide) ?_
  refine lv_ldc2 hx hb hown (hts (.constantLong RX12 164 100) (by decide +kernel)) dX12_draw_23 ?_
  refine lv_lrem hx hb dX12_draw_26 (by decide) ?_
  refine lv_l2i hx hb dX12_draw_27 rfl ?_
  exact hret _ hf _ _ _ _ hP hS dX12_draw_28
theorem c_X12_draw (l : Launch) {D : va_G} {a0 : Nat → Nat} {A : Nat → Prop} {cy : Nat → ClassId} {ad : Nat → Nat} (hD : zD A 25 ad) {I : zI} {J : zJ} (p1 : Int32) (p2 : Int32) {rx : Int32} (hf : f_X12_draw I J p1 p2 = some rx) : Met l yX12_draw wsX12_draw { frames := 0, cells := 0, slots := 0, locals := 0 } (zPc D a0 A cy [.int p1, .int p2] (zw 25 (kM cy ad) ad I J)) (zQi D A rx (zw 25 (kM cy ad) ad I J)) 0 0 A :=
  zmet RX12 (by decide) rfl rfl (Nat.le_of_ble_eq_true rfl) (fun p e R s m below meth c Q hfr hlo ls S0 hQ => w_X12_draw hfr hlo hD p1 p2 hf S0 (fun tx hq H locs ls pc hP hS hd => by cases hq; exact hQ H locs _ hS (fun hx hb hr hlocks hfree => W.iret hx hb hr (fun t ht hW => ⟨⟨_, (), rfl, rfl, zht ht hP⟩, hS.F ht⟩) hfree hd hlocks)))
theorem ddX12_draw : yX12_draw.cls ≠ "java/lang/invoke/MethodHandle" ∧ yX12_draw.cls ≠ "java/lang/invoke/VarHandle" ∧ (parseMethodDescriptor yX12_draw.desc).map (fun d => d.parameters.length) = some 2 := by decide +kernel

def f_X12_runs_L35 (J : zJ) (p1 : Int32) (p2 : Int32) (x12 : Int32) (x13 : Int32) (x14 : Int32) (x15 : Int32) (I16 : zI) : Option ((Int32 × Int32 × Int32 × Int32 × zI) ⊕ zI) := zg (¬ ((0 : Int32) < 0 ∨ 2 ≤ (0 : Int32).toNatClampNeg)) ((if (I16 5 (0 : Int32).toNatClampNeg) ≤ x12 then some (.inr I16) else zb1 (f_X12_cell I16 J x12 x13 x14) (fun x19 => zg (¬ (x19 < 0 ∨ 7272 ≤ x19.toNatClampNeg)) (zn ((I16 15 x19.toNatClampNeg)) (fun y22 => zb1 ((if y22 = 49 then some (1) else some (0)) : Option Int32) (fun x26 => zb1 ((if y22 = 48 then some (1) else some (0)) : Option Int32) (fun x30 => zb1 ((if x26 = 0 then some (0) else some (1)) : Option Int32) (fun x34 => zb7 ((if 48 ≤ y22 then some ((x13, x14, x15, x26, x30, x34, I16)) else zn (((y22 - y22 / 8 * 8) + 1)) (fun y38 => zb1 (f_X12_wears I16 J x12 (y22 / 8) y38 p1) (fun x39 => zn ((x14 + x39)) (fun y41 => zb1 ((if 100 < y41 then some (1) else zb1 (f_X12_draw I16 J p2 x15) (fun x45 => zb1 (f_X12_breaksAt I16 J x14) (fun x47 => (if x47 ≤ x45 then some (0) else some (1))))) : Option Int32) (fun x50 => zn (x15 + 1) (fun y51 => zg (¬ ((0 : Int32) < 0 ∨ 4 ≤ (0 : Int32).toNatClampNeg)) (zb1 (f_X12_minutes I16 J x12 (y22 / 8)) (fun x53 => zg (¬ ((0 : Int32) < 0 ∨ 4 ≤ (0 : Int32).toNatClampNeg)) (zn (va_up I16 24 (upd (I16 24) (0 : Int32).toNatClampNeg ((I16 24 (0 : Int32).toNatClampNeg) + x53))) (fun I55 => zb1 ((if x50 = 0 then (if y38 = x13 then some (1) else some (0)) else some (1)) : Option Int32) (fun x61 => zb1 ((if x50 = 0 then (if y38 = x13 then zg (¬ (((4 * x12) + 2) < 0 ∨ 64 ≤ ((4 * x12) + 2).toNatClampNeg)) ((if x14 ≤ (I55 6 ((4 * x12) + 2).toNatClampNeg) then some (0) else some (1))) else some (0)) else some (1)) : Option Int32) (fun x68 => zn ((x13 - y38)) (fun y69 => (if x50 = 0 then some ((y69, y41, y51, x61, x50, x68, I55)) else some ((y69, 0, y51, x61, x50, x68, I55)))))))))))))))) : Option (Int32 × Int32 × Int32 × Int32 × Int32 × Int32 × zI)) (fun x71 x72 x73 x74 x75 x76 I77 => zb2 ((if x75 = 0 then some ((x72, I77)) else zg (¬ ((0 : Int32) < 0 ∨ 4 ≤ (0 : Int32).toNatClampNeg)) (zg (¬ ((0 : Int32) < 0 ∨ 10 ≤ (0 : Int32).toNatClampNeg)) (zg (¬ ((0 : Int32) < 0 ∨ 4 ≤ (0 : Int32).toNatClampNeg)) (zn (va_up I77 24 (upd (I77 24) (0 : Int32).toNatClampNeg ((I77 24 (0 : Int32).toNatClampNeg) + (100 * (I77 11 (0 : Int32).toNatClampNeg))))) (fun I83 => zg (¬ ((1 : Int32) < 0 ∨ 4 ≤ (1 : Int32).toNatClampNeg)) (zg (¬ ((1 : Int32) < 0 ∨ 4 ≤ (1 : Int32).toNatClampNeg)) (zn (va_up I83 24 (upd (I83 24) (1 : Int32).toNatClampNeg ((I83 24 (1 : Int32).toNatClampNeg) + 1))) (fun I86 => some ((0, I86)))))))))) : Option (Int32 × zI)) (fun x88 I89 => (if x74 = 0 then some (.inl (x12, x71, x88, x73, I89)) else zg (¬ ((2 : Int32) < 0 ∨ 4 ≤ (2 : Int32).toNatClampNeg)) (zg (¬ ((2 : Int32) < 0 ∨ 4 ≤ (2 : Int32).toNatClampNeg)) (zn (va_up I89 24 (upd (I89 24) (2 : Int32).toNatClampNeg ((I89 24 (2 : Int32).toNatClampNeg) + (1 - x76)))) (fun I92 => zg (¬ ((3 : Int32) < 0 ∨ 4 ≤ (3 : Int32).toNatClampNeg)) (zg (¬ ((3 : Int32) < 0 ∨ 4 ≤ (3 : Int32).toNatClampNeg)) (zn (va_up I92 24 (upd (I92 24) (3 : Int32).toNatClampNeg ((I92 24 (3 : Int32).toNatClampNeg) + x76))) (fun I95 => zn (x12 + 1) (fun y97 => zg (¬ ((0 : Int32) < 0 ∨ 2 ≤ (0 : Int32).toNatClampNeg)) ((if (I95 5 (0 : Int32).toNatClampNeg) ≤ y97 then some (.inl (y97, 0, x88, x73, I95)) else zb1 (f_X12_steps I95 J y97) (fun x100 => some (.inl (y97, x100, x88, x73, I95)))))))))))))))))))))))
def f_X12_runs_L2 (x2 : Int32) (I3 : zI) : Option ((Int32 × zI) ⊕ zI) := (if 4 ≤ x2 then some (.inr I3) else zg (¬ (x2 < 0 ∨ 4 ≤ x2.toNatClampNeg)) (zn (va_up I3 24 (upd (I3 24) x2.toNatClampNeg 0)) (fun I5 => zn (x2 + 1) (fun y7 => some (.inl (y7, I5))))))
def f_X12_runs (I : zI) (J : zJ) (p1 : Int32) (p2 : Int32) : Option zI := zb1 (zl (fun v : (Int32 × zI) => f_X12_runs_L2 v.1 v.2) zF (0, I)) (fun I8 => zb1 (f_X12_steps I8 J 0) (fun x9 => zb1 (zl (fun v : (Int32 × Int32 × Int32 × Int32 × zI) => f_X12_runs_L35 J p1 p2 v.1 v.2.1 v.2.2.1 v.2.2.2.1 v.2.2.2.2) zF (0, x9, 0, 0, I8)) (fun I102 => some I102)))
theorem hinX12_runs_X12 : ∀ w ∈ u_ws RX12 TX12 31, w ∈ wsX12_runs := by decide +kernel
set_option maxHeartbeats 4000000 in
set_option maxRecDepth 100000 in
theorem w_X12_runs {p : Program} {l : Launch} {e : Env} {R : Room} {s : State} {m : MethodId} {args : Array Value} {below : List Frame} {meth : Method} {c : Code} {Q : State → Prop} (hfr : 1 ≤ R.frames) (hlo : 24 ≤ R.locals) {D : va_G} {a0 : Nat → Nat} {A : Nat → Prop} {cy : Nat → ClassId} {ad : Nat → Nat} (hD : zD A 25 ad) {I : zI} {J : zJ} (p1 : Int32) (p2 : Int32) {rI : zI} (hf : f_X12_runs I J p1 p2 = some rI) {ls : Array Slot} (S0 : zSt p m c cX12_runs 14 s args wsX12_runs RX12 D a0 A cy (zw 25 (kM cy ad) ad I J) [.ref (ad 0), .int p1, .int p2] ls) (hret : ∀ (tI : zI), some tI = some rI → ∀ (H : Heap) (locs : List Loc) (ls : Array Slot) (pc : Nat), va_P D vwCl (zw 25 (kM cy ad) ad tI J) H → va_S A s.heap H locs → decode cX12_runs pc = .ok (.return_, 1) → W p l e R s m args below meth c H locs 0 0 Q (F0 m pc ls [])) : W p l e R s m args below meth c s.heap [] 0 0 Q (F0 m 0 ls []) := by
  obtain ⟨S, E, hP, hl⟩ := S0
  obtain ⟨hx, hb, hml, hown, hts⟩ := id S
  have hS : va_S A s.heap s.heap [] := va_S.rf
  replace hl : lv_has ls 14 [(0, .ref (ad 0)), (1, .int p1), (2, .int p2)] := hl
  unfold f_X12_runs at hf
  refine lv_iconst (v := 0) hx hb dX12_runs_0 (by decide) ?_
  refine lv_istore_n (lv' := [(3, .int 0), (0, .ref (ad 0)), (1, .int p1), (2, .int p2)]) hx hb dX12_runs_1 rfl hl (by decide) rfl (fun ls hl => ?_)
  obtain ⟨zl1, hf, hzl1⟩ := zb1_i hf
  have hjl1 : ∀ (I8 : zI), I8 = zl1 → ∀ (H : Heap) (locs : List Loc) (ls : Array Slot), va_P D vwCl (zw 25 (kM cy ad) ad I8 J) H → va_S A s.heap H locs → lv_has ls 14 [(0, .ref (ad 0)), (1, .int p1), (2, .int p2)] → W p l e R s m args below meth c H locs 0 0 Q (F0 m 20 ls []) := by
    intro I8 ez H locs ls hP hS hl
    have hf := hzl1 I8 ez
    refine lv_iconst (v := 0) hx hb dX12_runs_20 (by decide) ?_
    refine lv_istore_n (lv' := [(3, .int 0), (0, .ref (ad 0)), (1, .int p1), (2, .int p2)]) hx hb dX12_runs_21 rfl hl (by decide) rfl (fun ls hl => ?_)
    refine lv_aload_n hx hb dX12_runs_22 rfl (lv_at hl 1 rfl) ?_
    refine lv_iconst (v := 0) hx hb dX12_runs_23 (by decide) ?_
    obtain ⟨x9, h10, hf⟩ := zb1_e hf
    refine zgo_i (zrunV (As := [.int 0]) (rest := []) S (c_X12_steps l hD 0 h10) (cwV 1 hts gX12_runs_X12_steps rfl rfl rfl ddX12_steps ⟨Nat.le_trans (Nat.le_of_ble_eq_true rfl) hfr, Nat.le_trans (Nat.le_of_ble_eq_true rfl) hlo⟩) (va_recv E.1 hP (q := (RX12, TX12, 31)) (ci := 11) rfl (zO.get (oX12_at))) E hP hS hl.1 rfl rfl (Nat.le_of_ble_eq_true rfl) dX12_runs_24) hS (fun H locs hP hS => ?_)
    refine lv_istore (lv' := [(4, .int x9), (3, .int 0), (0, .ref (ad 0)), (1, .int p1), (2, .int p2)]) hx hb dX12_runs_27 hl (by decide) rfl (fun ls hl => ?_)
    refine lv_iconst (v := 0) hx hb dX12_runs_29 (by decide) ?_
    refine lv_istore (lv' := [(5, .int 0), (4, .int x9), (3, .int 0), (0, .ref (ad 0)), (1, .int p1), (2, .int p2)]) hx hb dX12_runs_30 hl (by decide) rfl (fun ls hl => ?_)
    refine lv_iconst (v := 0) hx hb dX12_runs_32 (by decide) ?_
    refine lv_istore (lv' := [(6, .int 0), (5, .int 0), (4, .int x9), (3, .int 0), (0, .ref (ad 0)), (1, .int p1), (2, .int p2)]) hx hb dX12_runs_33 hl (by decide) rfl (fun ls hl => ?_)
    obtain ⟨zl11, hf, hzl11⟩ := zb1_i hf
    have hjl11 : ∀ (I102 : zI), I102 = zl11 → ∀ (H : Heap) (locs : List Loc) (ls : Array Slot), va_P D vwCl (zw 25 (kM cy ad) ad I102 J) H → va_S A s.heap H locs → lv_has ls 14 [] → W p l e R s m args below meth c H locs 0 0 Q (F0 m 354 ls []) := by
      intro I102 ez H locs ls hP hS hl
      have hf := hzl11 I102 ez
      exact hret _ hf _ _ _ _ hP hS dX12_runs_354
    refine zl_i (V := (Int32 × Int32 × Int32 × Int32 × zI)) (P := fun v => ∀ (H : Heap) (locs : List Loc) (ls : Array Slot), va_P D vwCl (zw 25 (kM cy ad) ad v.2.2.2.2 J) H → va_S A s.heap H locs → lv_has ls 14 [(0, .ref (ad 0)), (1, .int p1), (2, .int p2), (3, .int (v.1)), (4, .int (v.2.1)), (5, .int (v.2.2.1)), (6, .int (v.2.2.2.1))] → W p l e R s m args below meth c H locs 0 0 Q (F0 m 35 ls [])) ?_ _ _ hf _ _ _ hP hS (lv_sub hl [4, 5, 6, 3, 2, 1, 0] rfl)
    intro v z hf hcl11 hdl11
    obtain ⟨x12, x13, x14, x15, I16⟩ := v
    intro H locs ls hP hS hl
    replace hf : f_X12_runs_L35 J p1 p2 x12 x13 x14 x15 I16 = some z := hf
    unfold f_X12_runs_L35 at hf
    replace hP : va_P D vwCl (zw 25 (kM cy ad) ad I16 J) H := hP
    replace hl : lv_has ls 14 [(0, .ref (ad 0)), (1, .int p1), (2, .int p2), (3, .int x12), (4, .int x13), (5, .int x14), (6, .int x15)] := hl
    refine lv_iload_n hx hb dX12_runs_35 rfl (lv_at hl 3 rfl) ?_
    refine lv_aload_n hx hb dX12_runs_36 rfl (lv_at hl 0 rfl) ?_
    refine va_get (D := D) (ci := 11) (v := .ref (ad 5)) (C := RX12) (T := TX12) (N := 31) hx hb hts hinX12_runs_X12 hown E.1 hP 0 (zO.get (oX12_at)) rfl 6 (by decide) (hts (.fieldLink RX12 23 "EdgeAndSpeedModel" "pieces" "[I") (by decide +kernel)) (fun _ h9 => h9) rfl dX12_runs_37 ?_
    refine lv_iconst (v := 0) hx hb dX12_runs_40 (by decide) ?_
    obtain ⟨g17, hf⟩ := zg_i hf
    refine va_iald hx hb E.1 hP 5 1 (zIA.get (aX12_6)) rfl g17 dX12_runs_41 ?_
    refine lv_icmp_ge (tgt := 354) hx hb dX12_runs_42 (by decide) (fun k18 => ?_) (fun k18 => ?_)
    · replace hf := zt k18 hf
      exact hjl11 _ (hdl11 _ (Option.some.inj hf).symm) _ _ _ hP hS (lv_sub hl [] rfl)
    · replace hf := zf k18 hf
      refine lv_aload_n hx hb dX12_runs_45 rfl (lv_at hl 0 rfl) ?_
      refine va_get (D := D) (ci := 11) (v := .ref (ad 15)) (C := RX12) (T := TX12) (N := 31) hx hb hts hinX12_runs_X12 hown E.1 hP 0 (zO.get (oX12_at)) rfl 17 (by decide) (hts (.fieldLink RX12 53 "EdgeAndSpeedModel" "act" "[I") (by decide +kernel)) (fun _ h9 => h9) rfl dX12_runs_46 ?_
      refine lv_iload_n hx hb dX12_runs_49 rfl (lv_at hl 3 rfl) ?_
      refine lv_iload hx hb dX12_runs_50 (lv_at hl 4 rfl) ?_
      refine lv_iload hx hb dX12_runs_52 (lv_at hl 5 rfl) ?_
      obtain ⟨x19, h20, hf⟩ := zb1_e hf
      refine zgo_i (zrunS (As := [.int x12, .int x13, .int x14]) (rest := [.ref (ad 15)]) S (c_X12_cell l hD x12 x13 x14 h20) (va_cwS 3 hts gX12_runs_X12_cell rfl rfl rfl ddX12_cell ⟨Nat.le_trans (Nat.le_of_ble_eq_true rfl) hfr, Nat.le_trans (Nat.le_of_ble_eq_true rfl) hlo⟩) E hP hS hl.1 rfl rfl (Nat.le_of_ble_eq_true rfl) dX12_runs_54) hS (fun H locs hP hS => ?_)
      obtain ⟨g21, hf⟩ := zg_i hf
      refine va_iald hx hb E.1 hP 15 1 (zIA.get (aX12_17)) rfl g21 dX12_runs_57 ?_
      refine lv_topi (fun y22 ey22 => ?_)
      replace hf := zn_s ey22 hf
      refine lv_istore (lv' := [(7, .int y22), (0, .ref (ad 0)), (1, .int p1), (2, .int p2), (3, .int x12), (4, .int x13), (5, .int x14), (6, .int x15)]) hx hb dX12_runs_58 hl (by decide) rfl (fun ls hl => ?_)
      refine lv_iload hx hb dX12_runs_60 (lv_at hl 0 rfl) ?_
      refine lv_bipush (v := 49) hx hb dX12_runs_62 (by decide) ?_
      obtain ⟨zr25, hf, hzr25⟩ := zb1_i hf
      have hjr25 : ∀ (x26 : Int32), x26 = zr25 → ∀ (H : Heap) (locs : List Loc) (ls : Array Slot), va_P D vwCl (zw 25 (kM cy ad) ad I16 J) H → va_S A s.heap H locs → lv_has ls 14 [(0, .ref (ad 0)), (1, .int p1), (2, .int p2), (3, .int x12), (4, .int x13), (5, .int x14), (6, .int x15), (7, .int y22)] → W p l e R s m args below meth c H locs 0 0 Q (F0 m 72 ls [.int x26]) := by
        intro x26 ez H locs ls hP hS hl
        have hf := hzr25 x26 ez
        refine lv_istore (lv' := [(8, .int x26), (0, .ref (ad 0)), (1, .int p1), (2, .int p2), (3, .int x12), (4, .int x13), (5, .int x14), (6, .int x15), (7, .int y22)]) hx hb dX12_runs_72 hl (by decide) rfl (fun ls hl => ?_)
        refine lv_iload hx hb dX12_runs_74 (lv_at hl 8 rfl) ?_
        refine lv_bipush (v := 48) hx hb dX12_runs_76 (by decide) ?_
        obtain ⟨zr29, hf, hzr29⟩ := zb1_i hf
        have hjr29 : ∀ (x30 : Int32), x30 = zr29 → ∀ (H : Heap) (locs : List Loc) (ls : Array Slot), va_P D vwCl (zw 25 (kM cy ad) ad I16 J) H → va_S A s.heap H locs → lv_has ls 14 [(0, .ref (ad 0)), (1, .int p1), (2, .int p2), (3, .int x12), (4, .int x13), (5, .int x14), (6, .int x15), (7, .int y22), (8, .int x26)] → W p l e R s m args below meth c H locs 0 0 Q (F0 m 86 ls [.int x30]) := by
          intro x30 ez H locs ls hP hS hl
          have hf := hzr29 x30 ez
          refine lv_istore (lv' := [(9, .int x30), (0, .ref (ad 0)), (1, .int p1), (2, .int p2), (3, .int x12), (4, .int x13), (5, .int x14), (6, .int x15), (7, .int y22), (8, .int x26)]) hx hb dX12_runs_86 hl (by decide) rfl (fun ls hl => ?_)
          refine lv_iload hx hb dX12_runs_88 (lv_at hl 9 rfl) ?_
          obtain ⟨zr33, hf, hzr33⟩ := zb1_i hf
          have hjr33 : ∀ (x34 : Int32), x34 = zr33 → ∀ (H : Heap) (locs : List Loc) (ls : Array Slot), va_P D vwCl (zw 25 (kM cy ad) ad I16 J) H → va_S A s.heap H locs → lv_has ls 14 [(0, .ref (ad 0)), (1, .int p1), (2, .int p2), (3, .int x12), (4, .int x13), (5, .int x14), (6, .int x15), (7, .int y22), (8, .int x26), (9, .int x30)] → W p l e R s m args below meth c H locs 0 0 Q (F0 m 98 ls [.int x34]) := by
            intro x34 ez H locs ls hP hS hl
            have hf := hzr33 x34 ez
            refine lv_istore (lv' := [(10, .int x34), (0, .ref (ad 0)), (1, .int p1), (2, .int p2), (3, .int x12), (4, .int x13), (5, .int x14), (6, .int x15), (7, .int y22), (8, .int x26), (9, .int x30)]) hx hb dX12_runs_98 hl (by decide) rfl (fun ls hl => ?_)
            refine lv_iload hx hb dX12_runs_100 (lv_at hl 8 rfl) ?_
            refine lv_bipush (v := 48) hx hb dX12_runs_102 (by decide) ?_
            obtain ⟨zr37, hf, hzr37⟩ := zb7_i hf
            have hjr37 : ∀ (x71 : Int32) (x72 : Int32) (x73 : Int32) (x74 : Int32) (x75 : Int32) (x76 : Int32) (I77 : zI), (x71, x72, x73, x74, x75, x76, I77) = zr37 → ∀ (H : Heap) (locs : List Loc) (ls : Array Slot), va_P D vwCl (zw 25 (kM cy ad) ad I77 J) H → va_S A s.heap H locs → lv_has ls 14 [(0, .ref (ad 0)), (1, .int p1), (2, .int p2), (3, .int x12), (4, .int x71), (5, .int x72), (6, .int x73), (8, .int x74), (9, .int x75), (10, .int x76)] → W p l e R s m args below meth c H locs 0 0 Q (F0 m 262 ls []) := by
              intro x71 x72 x73 x74 x75 x76 I77 ez H locs ls hP hS hl
              have hf := hzr37 x71 x72 x73 x74 x75 x76 I77 ez
              refine lv_iload hx hb dX12_runs_262 (lv_at hl 8 rfl) ?_
              obtain ⟨zr80, hf, hzr80⟩ := zb2_i hf
              have hjr80 : ∀ (x88 : Int32) (I89 : zI), (x88, I89) = zr80 → ∀ (H : Heap) (locs : List Loc) (ls : Array Slot), va_P D vwCl (zw 25 (kM cy ad) ad I89 J) H → va_S A s.heap H locs → lv_has ls 14 [(0, .ref (ad 0)), (1, .int p1), (2, .int p2), (3, .int x12), (4, .int x71), (5, .int x88), (6, .int x73), (8, .int x74), (10, .int x76)] → W p l e R s m args below meth c H locs 0 0 Q (F0 m 298 ls []) := by
                intro x88 I89 ez H locs ls hP hS hl
                have hf := hzr80 x88 I89 ez
                refine lv_iload hx hb dX12_runs_298 (lv_at hl 7 rfl) ?_
                refine lv_if_eq (tgt := 351) hx hb dX12_runs_300 (by decide) (fun k90 => ?_) (fun k90 => ?_)
                · replace hf := zt k90 hf
                  refine lv_goto (tgt := 35) hx hb dX12_runs_351 (by decide) ?_
                  exact hcl11 _ (Option.some.inj hf).symm _ _ _ hP hS (lv_sub hl [0, 1, 2, 3, 4, 5, 6] rfl)
                · replace hf := zf k90 hf
                  refine lv_aload_n hx hb dX12_runs_303 rfl (lv_at hl 0 rfl) ?_
                  refine va_get (D := D) (ci := 11) (v := .ref (ad 24)) (C := RX12) (T := TX12) (N := 31) hx hb hts hinX12_runs_X12 hown E.1 hP 0 (zO.get (oX12_at)) rfl 30 (by decide) (hts (.fieldLink RX12 82 "EdgeAndSpeedModel" "ran" "[I") (by decide +kernel)) (fun _ h9 => h9) rfl dX12_runs_304 ?_
                  refine lv_iconst (v := 2) hx hb dX12_runs_307 (by decide) ?_
                  refine lv_dup2_11 hx hb dX12_runs_308 rfl rfl ?_
                  obtain ⟨g91, hf⟩ := zg_i hf
                  refine va_iald hx hb E.1 hP 24 1 (zIA.get (aX12_30)) rfl g91 dX12_runs_309 ?_
                  refine lv_iconst (v := 1) hx hb dX12_runs_310 (by decide) ?_
                  refine lv_iload hx hb dX12_runs_311 (lv_at hl 8 rfl) ?_
                  refine lv_isub hx hb dX12_runs_313 ?_
                  refine lv_iadd hx hb dX12_runs_314 ?_
                  obtain ⟨g93, hf⟩ := zg_i hf
                  obtain ⟨I92, eI92⟩ := zex (va_up I89 24 (upd (I89 24) (2 : Int32).toNatClampNeg ((I89 24 (2 : Int32).toNatClampNeg) + (1 - x76))))
                  replace hf := zn_s eI92 hf
                  refine zast_i hx hb E.1 hP hD.D hS (aX12_30) g93 dX12_runs_315 eI92 (fun H locs hP hS => ?_)
                  refine lv_aload_n hx hb dX12_runs_316 rfl (lv_at hl 0 rfl) ?_
                  refine va_get (D := D) (ci := 11) (v := .ref (ad 24)) (C := RX12) (T := TX12) (N := 31) hx hb hts hinX12_runs_X12 hown E.1 hP 0 (zO.get (oX12_at)) rfl 30 (by decide) (hts (.fieldLink RX12 82 "EdgeAndSpeedModel" "ran" "[I") (by decide +kernel)) (fun _ h9 => h9) rfl dX12_runs_317 ?_
                  refine lv_iconst (v := 3) hx hb dX12_runs_320 (by decide) ?_
                  refine lv_dup2_11 hx hb dX12_runs_321 rfl rfl ?_
                  obtain ⟨g94, hf⟩ := zg_i hf
                  refine va_iald hx hb E.1 hP 24 1 (zIA.get (aX12_30)) rfl g94 dX12_runs_322 ?_
                  refine lv_iload hx hb dX12_runs_323 (lv_at hl 8 rfl) ?_
                  refine lv_iadd hx hb dX12_runs_325 ?_
                  obtain ⟨g96, hf⟩ := zg_i hf
                  obtain ⟨I95, eI95⟩ := zex (va_up I92 24 (upd (I92 24) (3 : Int32).toNatClampNeg ((I92 24 (3 : Int32).toNatClampNeg) + x76)))
                  replace hf := zn_s eI95 hf
                  refine zast_i hx hb E.1 hP hD.D hS (aX12_30) g96 dX12_runs_326 eI95 (fun H locs hP hS => ?_)
                  obtain ⟨y97, ey97⟩ := zex (x12 + 1)
                  replace hf := zn_s ey97 hf
                  refine lv_iinc (v := y97) (lv' := [(3, .int y97), (0, .ref (ad 0)), (1, .int p1), (2, .int p2), (4, .int x71), (5, .int x88), (6, .int x73), (8, .int x74), (10, .int x76)]) hx hb dX12_runs_327 hl (k := 3) rfl (by rw [ey97]; rfl) (by decide) rfl (fun ls hl => ?_)
                  refine lv_iload_n hx hb dX12_runs_330 rfl (lv_at hl 0 rfl) ?_
                  refine lv_aload_n hx hb dX12_runs_331 rfl (lv_at hl 1 rfl) ?_
                  refine va_get (D := D) (ci := 11) (v := .ref (ad 5)) (C := RX12) (T := TX12) (N := 31) hx hb hts hinX12_runs_X12 hown E.1 hP 0 (zO.get (oX12_at)) rfl 6 (by decide) (hts (.fieldLink RX12 23 "EdgeAndSpeedModel" "pieces" "[I") (by decide +kernel)) (fun _ h9 => h9) rfl dX12_runs_332 ?_
                  refine lv_iconst (v := 0) hx hb dX12_runs_335 (by decide) ?_
                  obtain ⟨g98, hf⟩ := zg_i hf
                  refine va_iald hx hb E.1 hP 5 1 (zIA.get (aX12_6)) rfl g98 dX12_runs_336 ?_
                  refine lv_icmp_ge (tgt := 348) hx hb dX12_runs_337 (by decide) (fun k99 => ?_) (fun k99 => ?_)
                  · replace hf := zt k99 hf
                    refine lv_iconst (v := 0) hx hb dX12_runs_348 (by decide) ?_
                    refine lv_istore (lv' := [(4, .int 0), (3, .int y97), (0, .ref (ad 0)), (1, .int p1), (2, .int p2), (5, .int x88), (6, .int x73), (8, .int x74), (10, .int x76)]) hx hb dX12_runs_349 hl (by decide) rfl (fun ls hl => ?_)
                    refine lv_goto (tgt := 35) hx hb dX12_runs_351 (by decide) ?_
                    exact hcl11 _ (Option.some.inj hf).symm _ _ _ hP hS (lv_sub hl [2, 3, 4, 1, 0, 5, 6] rfl)
                  · replace hf := zf k99 hf
                    refine lv_aload_n hx hb dX12_runs_340 rfl (lv_at hl 1 rfl) ?_
                    refine lv_iload_n hx hb dX12_runs_341 rfl (lv_at hl 0 rfl) ?_
                    obtain ⟨x100, h101, hf⟩ := zb1_e hf
                    refine zgo_i (zrunV (As := [.int y97]) (rest := []) S (c_X12_steps l hD y97 h101) (cwV 1 hts gX12_runs_X12_steps rfl rfl rfl ddX12_steps ⟨Nat.le_trans (Nat.le_of_ble_eq_true rfl) hfr, Nat.le_trans (Nat.le_of_ble_eq_true rfl) hlo⟩) (va_recv E.1 hP (q := (RX12, TX12, 31)) (ci := 11) rfl (zO.get (oX12_at))) E hP hS hl.1 rfl rfl (Nat.le_of_ble_eq_true rfl) dX12_runs_342) hS (fun H locs hP hS => ?_)
                    refine lv_goto (tgt := 349) hx hb dX12_runs_345 (by decide) ?_
                    refine lv_istore (lv' := [(4, .int x100), (3, .int y97), (0, .ref (ad 0)), (1, .int p1), (2, .int p2), (5, .int x88), (6, .int x73), (8, .int x74), (10, .int x76)]) hx hb dX12_runs_349 hl (by decide) rfl (fun ls hl => ?_)
                    refine lv_goto (tgt := 35) hx hb dX12_runs_351 (by decide) ?_
                    exact hcl11 _ (Option.some.inj hf).symm _ _ _ hP hS (lv_sub hl [2, 3, 4, 1, 0, 5, 6] rfl)
              refine lv_if_eq (tgt := 298) hx hb dX12_runs_264 (by decide) (fun k78 => ?_) (fun k78 => ?_)
              · replace hf := zt k78 hf
                exact hjr80 _ _ (Option.some.inj hf) _ _ _ hP hS (lv_sub hl [0, 1, 2, 3, 4, 5, 6, 7, 9] rfl)
              · replace hf := zf k78 hf
                refine lv_aload_n hx hb dX12_runs_267 rfl (lv_at hl 0 rfl) ?_
                refine va_get (D := D) (ci := 11) (v := .ref (ad 24)) (C := RX12) (T := TX12) (N := 31) hx hb hts hinX12_runs_X12 hown E.1 hP 0 (zO.get (oX12_at)) rfl 30 (by decide) (hts (.fieldLink RX12 82 "EdgeAndSpeedModel" "ran" "[I") (by decide +kernel)) (fun _ h9 => h9) rfl dX12_runs_268 ?_
                refine lv_iconst (v := 0) hx hb dX12_runs_271 (by decide) ?_
                refine lv_dup2_11 hx hb dX12_runs_272 rfl rfl ?_
                obtain ⟨g81, hf⟩ := zg_i hf
                refine va_iald hx hb E.1 hP 24 1 (zIA.get (aX12_30)) rfl g81 dX12_runs_273 ?_
                refine lv_bipush (v := 100) hx hb dX12_runs_274 (by decide) ?_
                refine lv_aload_n hx hb dX12_runs_276 rfl (lv_at hl 0 rfl) ?_
                refine va_get (D := D) (ci := 11) (v := .ref (ad 11)) (C := RX12) (T := TX12) (N := 31) hx hb hts hinX12_runs_X12 hown E.1 hP 0 (zO.get (oX12_at)) rfl 12 (by decide) (hts (.fieldLink RX12 41 "EdgeAndSpeedModel" "rest" "[I") (by decide +kernel)) (fun _ h9 => h9) rfl dX12_runs_277 ?_
                refine lv_iconst (v := 0) hx hb dX12_runs_280 (by decide) ?_
                obtain ⟨g82, hf⟩ := zg_i hf
                refine va_iald hx hb E.1 hP 11 1 (zIA.get (aX12_12)) rfl g82 dX12_runs_281 ?_
                refine lv_imul hx hb dX12_runs_282 ?_
                refine lv_iadd hx hb dX12_runs_283 ?_
                obtain ⟨g84, hf⟩ := zg_i hf
                obtain ⟨I83, eI83⟩ := zex (va_up I77 24 (upd (I77 24) (0 : Int32).toNatClampNeg ((I77 24 (0 : Int32).toNatClampNeg) + (100 * (I77 11 (0 : Int32).toNatClampNeg)))))
                replace hf := zn_s eI83 hf
                refine zast_i hx hb E.1 hP hD.D hS (aX12_30) g84 dX12_runs_284 eI83 (fun H locs hP hS => ?_)
                refine lv_aload_n hx hb dX12_runs_285 rfl (lv_at hl 0 rfl) ?_
                refine va_get (D := D) (ci := 11) (v := .ref (ad 24)) (C := RX12) (T := TX12) (N := 31) hx hb hts hinX12_runs_X12 hown E.1 hP 0 (zO.get (oX12_at)) rfl 30 (by decide) (hts (.fieldLink RX12 82 "EdgeAndSpeedModel" "ran" "[I") (by decide +kernel)) (fun _ h9 => h9) rfl dX12_runs_286 ?_
                refine lv_iconst (v := 1) hx hb dX12_runs_289 (by decide) ?_
                refine lv_dup2_11 hx hb dX12_runs_290 rfl rfl ?_
                obtain ⟨g85, hf⟩ := zg_i hf
                refine va_iald hx hb E.1 hP 24 1 (zIA.get (aX12_30)) rfl g85 dX12_runs_291 ?_
                refine lv_iconst (v := 1) hx hb dX12_runs_292 (by decide) ?_
                refine lv_iadd hx hb dX12_runs_293 ?_
                obtain ⟨g87, hf⟩ := zg_i hf
                obtain ⟨I86, eI86⟩ := zex (va_up I83 24 (upd (I83 24) (1 : Int32).toNatClampNeg ((I83 24 (1 : Int32).toNatClampNeg) + 1)))
                replace hf := zn_s eI86 hf
                refine zast_i hx hb E.1 hP hD.D hS (aX12_30) g87 dX12_runs_294 eI86 (fun H locs hP hS => ?_)
                refine lv_iconst (v := 0) hx hb dX12_runs_295 (by decide) ?_
                refine lv_istore (lv' := [(5, .int 0), (0, .ref (ad 0)), (1, .int p1), (2, .int p2), (3, .int x12), (4, .int x71), (6, .int x73), (8, .int x74), (9, .int x75), (10, .int x76)]) hx hb dX12_runs_296 hl (by decide) rfl (fun ls hl => ?_)
                exact hjr80 _ _ (Option.some.inj hf) _ _ _ hP hS (lv_sub hl [1, 2, 3, 4, 5, 0, 6, 7, 9] rfl)
            refine lv_icmp_ge (tgt := 262) hx hb dX12_runs_104 (by decide) (fun k35 => ?_) (fun k35 => ?_)
            · replace hf := zt k35 hf
              exact hjr37 _ _ _ _ _ _ _ (Option.some.inj hf) _ _ _ hP hS (lv_sub hl [1, 2, 3, 4, 5, 6, 7, 9, 10, 0] rfl)
            · replace hf := zf k35 hf
              refine lv_iload hx hb dX12_runs_107 (lv_at hl 8 rfl) ?_
              refine lv_bipush (v := 8) hx hb dX12_runs_109 (by decide) ?_
              refine lv_irem hx hb dX12_runs_111 (by decide) ?_
              refine lv_iconst (v := 1) hx hb dX12_runs_112 (by decide) ?_
              refine lv_iadd hx hb dX12_runs_113 ?_
              refine lv_topi (fun y38 ey38 => ?_)
              replace hf := zn_s ey38 hf
              refine lv_istore (lv' := [(11, .int y38), (10, .int x34), (0, .ref (ad 0)), (1, .int p1), (2, .int p2), (3, .int x12), (4, .int x13), (5, .int x14), (6, .int x15), (7, .int y22), (8, .int x26), (9, .int x30)]) hx hb dX12_runs_114 hl (by decide) rfl (fun ls hl => ?_)
              refine lv_iload hx hb dX12_runs_116 (lv_at hl 7 rfl) ?_
              refine lv_aload_n hx hb dX12_runs_118 rfl (lv_at hl 2 rfl) ?_
              refine lv_iload_n hx hb dX12_runs_119 rfl (lv_at hl 5 rfl) ?_
              refine lv_iload hx hb dX12_runs_120 (lv_at hl 9 rfl) ?_
              refine lv_bipush (v := 8) hx hb dX12_runs_122 (by decide) ?_
              refine lv_idiv hx hb dX12_runs_124 (by decide) ?_
              refine lv_iload hx hb dX12_runs_125 (lv_at hl 0 rfl) ?_
              refine lv_iload_n hx hb dX12_runs_127 rfl (lv_at hl 3 rfl) ?_
              obtain ⟨x39, h40, hf⟩ := zb1_e hf
              refine zgo_i (zrunV (As := [.int x12, .int (y22 / 8), .int y38, .int p1]) (rest := [.int x14]) S (c_X12_wears l hD x12 (y22 / 8) y38 p1 h40) (cwV 4 hts gX12_runs_X12_wears rfl rfl rfl ddX12_wears ⟨Nat.le_trans (Nat.le_of_ble_eq_true rfl) hfr, Nat.le_trans (Nat.le_of_ble_eq_true rfl) hlo⟩) (va_recv E.1 hP (q := (RX12, TX12, 31)) (ci := 11) rfl (zO.get (oX12_at))) E hP hS hl.1 rfl rfl (Nat.le_of_ble_eq_true rfl) dX12_runs_128) hS (fun H locs hP hS => ?_)
              refine lv_iadd hx hb dX12_runs_131 ?_
              refine lv_topi (fun y41 ey41 => ?_)
              replace hf := zn_s ey41 hf
              refine lv_istore (lv' := [(12, .int y41), (11, .int y38), (10, .int x34), (0, .ref (ad 0)), (1, .int p1), (2, .int p2), (3, .int x12), (4, .int x13), (5, .int x14), (6, .int x15), (7, .int y22), (8, .int x26), (9, .int x30)]) hx hb dX12_runs_132 hl (by decide) rfl (fun ls hl => ?_)
              refine lv_iload hx hb dX12_runs_134 (lv_at hl 0 rfl) ?_
              refine lv_bipush (v := 100) hx hb dX12_runs_136 (by decide) ?_
              obtain ⟨zr44, hf, hzr44⟩ := zb1_i hf
              have hjr44 : ∀ (x50 : Int32), x50 = zr44 → ∀ (H : Heap) (locs : List Loc) (ls : Array Slot), va_P D vwCl (zw 25 (kM cy ad) ad I16 J) H → va_S A s.heap H locs → lv_has ls 14 [(0, .ref (ad 0)), (1, .int p1), (2, .int p2), (3, .int x12), (4, .int x13), (5, .int x14), (6, .int x15), (7, .int y22), (11, .int y38), (12, .int y41)] → W p l e R s m args below meth c H locs 0 0 Q (F0 m 161 ls [.int x50]) := by
                intro x50 ez H locs ls hP hS hl
                have hf := hzr44 x50 ez
                refine lv_istore (lv' := [(13, .int x50), (0, .ref (ad 0)), (1, .int p1), (2, .int p2), (3, .int x12), (4, .int x13), (5, .int x14), (6, .int x15), (7, .int y22), (11, .int y38), (12, .int y41)]) hx hb dX12_runs_161 hl (by decide) rfl (fun ls hl => ?_)
                obtain ⟨y51, ey51⟩ := zex (x15 + 1)
                replace hf := zn_s ey51 hf
                refine lv_iinc (v := y51) (lv' := [(6, .int y51), (13, .int x50), (0, .ref (ad 0)), (1, .int p1), (2, .int p2), (3, .int x12), (4, .int x13), (5, .int x14), (7, .int y22), (11, .int y38), (12, .int y41)]) hx hb dX12_runs_163 hl (k := 7) rfl (by rw [ey51]; rfl) (by decide) rfl (fun ls hl => ?_)
                refine lv_aload_n hx hb dX12_runs_166 rfl (lv_at hl 2 rfl) ?_
                refine va_get (D := D) (ci := 11) (v := .ref (ad 24)) (C := RX12) (T := TX12) (N := 31) hx hb hts hinX12_runs_X12 hown E.1 hP 0 (zO.get (oX12_at)) rfl 30 (by decide) (hts (.fieldLink RX12 82 "EdgeAndSpeedModel" "ran" "[I") (by decide +kernel)) (fun _ h9 => h9) rfl dX12_runs_167 ?_
                refine lv_iconst (v := 0) hx hb dX12_runs_170 (by decide) ?_
                refine lv_dup2_11 hx hb dX12_runs_171 rfl rfl ?_
                obtain ⟨g52, hf⟩ := zg_i hf
                refine va_iald hx hb E.1 hP 24 1 (zIA.get (aX12_30)) rfl g52 dX12_runs_172 ?_
                refine lv_aload_n hx hb dX12_runs_173 rfl (lv_at hl 2 rfl) ?_
                refine lv_iload_n hx hb dX12_runs_174 rfl (lv_at hl 5 rfl) ?_
                refine lv_iload hx hb dX12_runs_175 (lv_at hl 8 rfl) ?_
                refine lv_bipush (v := 8) hx hb dX12_runs_177 (by decide) ?_
                refine lv_idiv hx hb dX12_runs_179 (by decide) ?_
                obtain ⟨x53, h54, hf⟩ := zb1_e hf
                refine zgo_i (zrunV (As := [.int x12, .int (y22 / 8)]) (rest := [.int (I16 24 (0 : Int32).toNatClampNeg), .int 0, .ref (ad 24)]) S (c_X12_minutes l hD x12 (y22 / 8) h54) (cwV 2 hts gX12_runs_X12_minutes rfl rfl rfl ddX12_minutes ⟨Nat.le_trans (Nat.le_of_ble_eq_true rfl) hfr, Nat.le_trans (Nat.le_of_ble_eq_true rfl) hlo⟩) (va_recv E.1 hP (q := (RX12, TX12, 31)) (ci := 11) rfl (zO.get (oX12_at))) E hP hS hl.1 rfl rfl (Nat.le_of_ble_eq_true rfl) dX12_runs_180) hS (fun H locs hP hS => ?_)
                refine lv_iadd hx hb dX12_runs_183 ?_
                obtain ⟨g56, hf⟩ := zg_i hf
                obtain ⟨I55, eI55⟩ := zex (va_up I16 24 (upd (I16 24) (0 : Int32).toNatClampNeg ((I16 24 (0 : Int32).toNatClampNeg) + x53)))
                replace hf := zn_s eI55 hf
                refine zast_i hx hb E.1 hP hD.D hS (aX12_30) g56 dX12_runs_184 eI55 (fun H locs hP hS => ?_)
                refine lv_iload hx hb dX12_runs_185 (lv_at hl 1 rfl) ?_
                refine lv_istore (lv' := [(9, .int x50), (6, .int y51), (13, .int x50), (0, .ref (ad 0)), (1, .int p1), (2, .int p2), (3, .int x12), (4, .int x13), (5, .int x14), (7, .int y22), (11, .int y38), (12, .int y41)]) hx hb dX12_runs_187 hl (by decide) rfl (fun ls hl => ?_)
                refine lv_iload hx hb dX12_runs_189 (lv_at hl 2 rfl) ?_
                obtain ⟨zr59, hf, hzr59⟩ := zb1_i hf
                have hjr59 : ∀ (x61 : Int32), x61 = zr59 → ∀ (H : Heap) (locs : List Loc) (ls : Array Slot), va_P D vwCl (zw 25 (kM cy ad) ad I55 J) H → va_S A s.heap H locs → lv_has ls 14 [(0, .ref (ad 0)), (1, .int p1), (2, .int p2), (3, .int x12), (4, .int x13), (5, .int x14), (6, .int y51), (9, .int x50), (11, .int y38), (12, .int y41), (13, .int x50)] → W p l e R s m args below meth c H locs 0 0 Q (F0 m 206 ls [.int x61]) := by
                  intro x61 ez H locs ls hP hS hl
                  have hf := hzr59 x61 ez
                  refine lv_istore (lv' := [(8, .int x61), (0, .ref (ad 0)), (1, .int p1), (2, .int p2), (3, .int x12), (4, .int x13), (5, .int x14), (6, .int y51), (9, .int x50), (11, .int y38), (12, .int y41), (13, .int x50)]) hx hb dX12_runs_206 hl (by decide) rfl (fun ls hl => ?_)
                  refine lv_iload hx hb dX12_runs_208 (lv_at hl 11 rfl) ?_
                  obtain ⟨zr64, hf, hzr64⟩ := zb1_i hf
                  have hjr64 : ∀ (x68 : Int32), x68 = zr64 → ∀ (H : Heap) (locs : List Loc) (ls : Array Slot), va_P D vwCl (zw 25 (kM cy ad) ad I55 J) H → va_S A s.heap H locs → lv_has ls 14 [(0, .ref (ad 0)), (1, .int p1), (2, .int p2), (3, .int x12), (4, .int x13), (6, .int y51), (8, .int x61), (9, .int x50), (11, .int y38), (12, .int y41), (13, .int x50)] → W p l e R s m args below meth c H locs 0 0 Q (F0 m 240 ls [.int x68]) := by
                    intro x68 ez H locs ls hP hS hl
                    have hf := hzr64 x68 ez
                    refine lv_istore (lv' := [(10, .int x68), (0, .ref (ad 0)), (1, .int p1), (2, .int p2), (3, .int x12), (4, .int x13), (6, .int y51), (8, .int x61), (9, .int x50), (11, .int y38), (12, .int y41), (13, .int x50)]) hx hb dX12_runs_240 hl (by decide) rfl (fun ls hl => ?_)
                    refine lv_iload hx hb dX12_runs_242 (lv_at hl 5 rfl) ?_
                    refine lv_iload hx hb dX12_runs_244 (lv_at hl 9 rfl) ?_
                    refine lv_isub hx hb dX12_runs_246 ?_
                    refine lv_topi (fun y69 ey69 => ?_)
                    replace hf := zn_s ey69 hf
                    refine lv_istore (lv' := [(4, .int y69), (10, .int x68), (0, .ref (ad 0)), (1, .int p1), (2, .int p2), (3, .int x12), (6, .int y51), (8, .int x61), (9, .int x50), (11, .int y38), (12, .int y41), (13, .int x50)]) hx hb dX12_runs_247 hl (by decide) rfl (fun ls hl => ?_)
                    refine lv_iload hx hb dX12_runs_249 (lv_at hl 11 rfl) ?_
                    refine lv_if_eq (tgt := 258) hx hb dX12_runs_251 (by decide) (fun k70 => ?_) (fun k70 => ?_)
                    · replace hf := zt k70 hf
                      refine lv_iload hx hb dX12_runs_258 (lv_at hl 10 rfl) ?_
                      refine lv_istore (lv' := [(5, .int y41), (4, .int y69), (10, .int x68), (0, .ref (ad 0)), (1, .int p1), (2, .int p2), (3, .int x12), (6, .int y51), (8, .int x61), (9, .int x50), (11, .int y38), (12, .int y41), (13, .int x50)]) hx hb dX12_runs_260 hl (by decide) rfl (fun ls hl => ?_)
                      exact hjr37 _ _ _ _ _ _ _ (Option.some.inj hf) _ _ _ hP hS (lv_sub hl [3, 4, 5, 6, 1, 0, 7, 8, 9, 2] rfl)
                    · replace hf := zf k70 hf
                      refine lv_iconst (v := 0) hx hb dX12_runs_254 (by decide) ?_
                      refine lv_goto (tgt := 260) hx hb dX12_runs_255 (by decide) ?_
                      refine lv_istore (lv' := [(5, .int 0), (4, .int y69), (10, .int x68), (0, .ref (ad 0)), (1, .int p1), (2, .int p2), (3, .int x12), (6, .int y51), (8, .int x61), (9, .int x50), (11, .int y38), (12, .int y41), (13, .int x50)]) hx hb dX12_runs_260 hl (by decide) rfl (fun ls hl => ?_)
                      exact hjr37 _ _ _ _ _ _ _ (Option.some.inj hf) _ _ _ hP hS (lv_sub hl [3, 4, 5, 6, 1, 0, 7, 8, 9, 2] rfl)
                  refine lv_if_ne (tgt := 235) hx hb dX12_runs_210 (by decide) (fun k62 => ?_) (fun k62 => ?_)
                  · replace hf := zf k62 hf
                    refine lv_iconst (v := 1) hx hb dX12_runs_235 (by decide) ?_
                    refine lv_goto (tgt := 240) hx hb dX12_runs_236 (by decide) ?_
                    exact hjr64 _ (Option.some.inj hf) _ _ _ hP hS (lv_sub hl [1, 2, 3, 4, 5, 7, 0, 8, 9, 10, 11] rfl)
                  · replace hf := zt k62 hf
                    refine lv_iload hx hb dX12_runs_213 (lv_at hl 9 rfl) ?_
                    refine lv_iload hx hb dX12_runs_215 (lv_at hl 5 rfl) ?_
                    refine lv_icmp_ne (tgt := 239) hx hb dX12_runs_217 (by decide) (fun k65 => ?_) (fun k65 => ?_)
                    · replace hf := zf k65 hf
                      refine lv_iconst (v := 0) hx hb dX12_runs_239 (by decide) ?_
                      exact hjr64 _ (Option.some.inj hf) _ _ _ hP hS (lv_sub hl [1, 2, 3, 4, 5, 7, 0, 8, 9, 10, 11] rfl)
                    · replace hf := zt k65 hf
                      refine lv_iload hx hb dX12_runs_220 (lv_at hl 6 rfl) ?_
                      refine lv_aload_n hx hb dX12_runs_222 rfl (lv_at hl 1 rfl) ?_
                      refine va_get (D := D) (ci := 11) (v := .ref (ad 6)) (C := RX12) (T := TX12) (N := 31) hx hb hts hinX12_runs_X12 hown E.1 hP 0 (zO.get (oX12_at)) rfl 7 (by decide) (hts (.fieldLink RX12 26 "EdgeAndSpeedModel" "piece" "[I") (by decide +kernel)) (fun _ h9 => h9) rfl dX12_runs_223 ?_
                      refine lv_iconst (v := 4) hx hb dX12_runs_226 (by decide) ?_
                      refine lv_iload_n hx hb dX12_runs_227 rfl (lv_at hl 4 rfl) ?_
                      refine lv_imul hx hb dX12_runs_228 ?_
                      refine lv_iconst (v := 2) hx hb dX12_runs_229 (by decide) ?_
                      refine lv_iadd hx hb dX12_runs_230 ?_
                      obtain ⟨g66, hf⟩ := zg_i hf
                      refine va_iald hx hb E.1 hP 6 1 (zIA.get (aX12_7)) rfl g66 dX12_runs_231 ?_
                      refine lv_icmp_le (tgt := 239) hx hb dX12_runs_232 (by decide) (fun k67 => ?_) (fun k67 => ?_)
                      · replace hf := zt k67 hf
                        refine lv_iconst (v := 0) hx hb dX12_runs_239 (by decide) ?_
                        exact hjr64 _ (Option.some.inj hf) _ _ _ hP hS (lv_sub hl [1, 2, 3, 4, 5, 7, 0, 8, 9, 10, 11] rfl)
                      · replace hf := zf k67 hf
                        refine lv_iconst (v := 1) hx hb dX12_runs_235 (by decide) ?_
                        refine lv_goto (tgt := 240) hx hb dX12_runs_236 (by decide) ?_
                        exact hjr64 _ (Option.some.inj hf) _ _ _ hP hS (lv_sub hl [1, 2, 3, 4, 5, 7, 0, 8, 9, 10, 11] rfl)
                refine lv_if_ne (tgt := 201) hx hb dX12_runs_191 (by decide) (fun k57 => ?_) (fun k57 => ?_)
                · replace hf := zf k57 hf
                  refine lv_iconst (v := 1) hx hb dX12_runs_201 (by decide) ?_
                  refine lv_goto (tgt := 206) hx hb dX12_runs_202 (by decide) ?_
                  exact hjr59 _ (Option.some.inj hf) _ _ _ hP hS (lv_sub hl [3, 4, 5, 6, 7, 8, 1, 0, 10, 11, 2] rfl)
                · replace hf := zt k57 hf
                  refine lv_iload hx hb dX12_runs_194 (lv_at hl 10 rfl) ?_
                  refine lv_iload hx hb dX12_runs_196 (lv_at hl 7 rfl) ?_
                  refine lv_icmp_ne (tgt := 205) hx hb dX12_runs_198 (by decide) (fun k60 => ?_) (fun k60 => ?_)
                  · replace hf := zf k60 hf
                    refine lv_iconst (v := 0) hx hb dX12_runs_205 (by decide) ?_
                    exact hjr59 _ (Option.some.inj hf) _ _ _ hP hS (lv_sub hl [3, 4, 5, 6, 7, 8, 1, 0, 10, 11, 2] rfl)
                  · replace hf := zt k60 hf
                    refine lv_iconst (v := 1) hx hb dX12_runs_201 (by decide) ?_
                    refine lv_goto (tgt := 206) hx hb dX12_runs_202 (by decide) ?_
                    exact hjr59 _ (Option.some.inj hf) _ _ _ hP hS (lv_sub hl [3, 4, 5, 6, 7, 8, 1, 0, 10, 11, 2] rfl)
              refine lv_icmp_gt (tgt := 156) hx hb dX12_runs_138 (by decide) (fun k42 => ?_) (fun k42 => ?_)
              · replace hf := zt k42 hf
                refine lv_iconst (v := 1) hx hb dX12_runs_156 (by decide) ?_
                refine lv_goto (tgt := 161) hx hb dX12_runs_157 (by decide) ?_
                exact hjr44 _ (Option.some.inj hf) _ _ _ hP hS (lv_sub hl [3, 4, 5, 6, 7, 8, 9, 10, 1, 0] rfl)
              · replace hf := zf k42 hf
                refine lv_iload_n hx hb dX12_runs_141 rfl (lv_at hl 5 rfl) ?_
                refine lv_iload hx hb dX12_runs_142 (lv_at hl 9 rfl) ?_
                obtain ⟨x45, h46, hf⟩ := zb1_e hf
                refine zgo_i (zrunS (As := [.int p2, .int x15]) (rest := []) S (c_X12_draw l hD p2 x15 h46) (va_cwS 2 hts gX12_runs_X12_draw rfl rfl rfl ddX12_draw ⟨Nat.le_trans (Nat.le_of_ble_eq_true rfl) hfr, Nat.le_trans (Nat.le_of_ble_eq_true rfl) hlo⟩) E hP hS hl.1 rfl rfl (Nat.le_of_ble_eq_true rfl) dX12_runs_144) hS (fun H locs hP hS => ?_)
                refine lv_aload_n hx hb dX12_runs_147 rfl (lv_at hl 3 rfl) ?_
                refine lv_iload hx hb dX12_runs_148 (lv_at hl 8 rfl) ?_
                obtain ⟨x47, h48, hf⟩ := zb1_e hf
                refine zgo_i (zrunV (As := [.int x14]) (rest := [.int x45]) S (c_X12_breaksAt l hD x14 h48) (cwV 1 hts gX12_runs_X12_breaksAt rfl rfl rfl ddX12_breaksAt ⟨Nat.le_trans (Nat.le_of_ble_eq_true rfl) hfr, Nat.le_trans (Nat.le_of_ble_eq_true rfl) hlo⟩) (va_recv E.1 hP (q := (RX12, TX12, 31)) (ci := 11) rfl (zO.get (oX12_at))) E hP hS hl.1 rfl rfl (Nat.le_of_ble_eq_true rfl) dX12_runs_150) hS (fun H locs hP hS => ?_)
                refine lv_icmp_ge (tgt := 160) hx hb dX12_runs_153 (by decide) (fun k49 => ?_) (fun k49 => ?_)
                · replace hf := zt k49 hf
                  refine lv_iconst (v := 0) hx hb dX12_runs_160 (by decide) ?_
                  exact hjr44 _ (Option.some.inj hf) _ _ _ hP hS (lv_sub hl [3, 4, 5, 6, 7, 8, 9, 10, 1, 0] rfl)
                · replace hf := zf k49 hf
                  refine lv_iconst (v := 1) hx hb dX12_runs_156 (by decide) ?_
                  refine lv_goto (tgt := 161) hx hb dX12_runs_157 (by decide) ?_
                  exact hjr44 _ (Option.some.inj hf) _ _ _ hP hS (lv_sub hl [3, 4, 5, 6, 7, 8, 9, 10, 1, 0] rfl)
          refine lv_if_eq (tgt := 97) hx hb dX12_runs_90 (by decide) (fun k31 => ?_) (fun k31 => ?_)
          · replace hf := zt k31 hf
            refine lv_iconst (v := 0) hx hb dX12_runs_97 (by decide) ?_
            exact hjr33 _ (Option.some.inj hf) _ _ _ hP hS (lv_sub hl [1, 2, 3, 4, 5, 6, 7, 8, 9, 0] rfl)
          · replace hf := zf k31 hf
            refine lv_iconst (v := 1) hx hb dX12_runs_93 (by decide) ?_
            refine lv_goto (tgt := 98) hx hb dX12_runs_94 (by decide) ?_
            exact hjr33 _ (Option.some.inj hf) _ _ _ hP hS (lv_sub hl [1, 2, 3, 4, 5, 6, 7, 8, 9, 0] rfl)
        refine lv_icmp_ne (tgt := 85) hx hb dX12_runs_78 (by decide) (fun k27 => ?_) (fun k27 => ?_)
        · replace hf := zf k27 hf
          refine lv_iconst (v := 0) hx hb dX12_runs_85 (by decide) ?_
          exact hjr29 _ (Option.some.inj hf) _ _ _ hP hS (lv_sub hl [1, 2, 3, 4, 5, 6, 7, 8, 0] rfl)
        · replace hf := zt k27 hf
          refine lv_iconst (v := 1) hx hb dX12_runs_81 (by decide) ?_
          refine lv_goto (tgt := 86) hx hb dX12_runs_82 (by decide) ?_
          exact hjr29 _ (Option.some.inj hf) _ _ _ hP hS (lv_sub hl [1, 2, 3, 4, 5, 6, 7, 8, 0] rfl)
      refine lv_icmp_ne (tgt := 71) hx hb dX12_runs_64 (by decide) (fun k23 => ?_) (fun k23 => ?_)
      · replace hf := zf k23 hf
        refine lv_iconst (v := 0) hx hb dX12_runs_71 (by decide) ?_
        exact hjr25 _ (Option.some.inj hf) _ _ _ hP hS (lv_sub hl [1, 2, 3, 4, 5, 6, 7, 0] rfl)
      · replace hf := zt k23 hf
        refine lv_iconst (v := 1) hx hb dX12_runs_67 (by decide) ?_
        refine lv_goto (tgt := 72) hx hb dX12_runs_68 (by decide) ?_
        exact hjr25 _ (Option.some.inj hf) _ _ _ hP hS (lv_sub hl [1, 2, 3, 4, 5, 6, 7, 0] rfl)
  refine zl_i (V := (Int32 × zI)) (P := fun v => ∀ (H : Heap) (locs : List Loc) (ls : Array Slot), va_P D vwCl (zw 25 (kM cy ad) ad v.2 J) H → va_S A s.heap H locs → lv_has ls 14 [(0, .ref (ad 0)), (1, .int p1), (2, .int p2), (3, .int (v.1))] → W p l e R s m args below meth c H locs 0 0 Q (F0 m 2 ls [])) ?_ _ _ hf _ _ _ hP hS (lv_sub hl [1, 2, 3, 0] rfl)
  intro v z hf hcl1 hdl1
  obtain ⟨x2, I3⟩ := v
  intro H locs ls hP hS hl
  replace hf : f_X12_runs_L2 x2 I3 = some z := hf
  unfold f_X12_runs_L2 at hf
  replace hP : va_P D vwCl (zw 25 (kM cy ad) ad I3 J) H := hP
  replace hl : lv_has ls 14 [(0, .ref (ad 0)), (1, .int p1), (2, .int p2), (3, .int x2)] := hl
  refine lv_iload_n hx hb dX12_runs_2 rfl (lv_at hl 3 rfl) ?_
  refine lv_iconst (v := 4) hx hb dX12_runs_3 (by decide) ?_
  refine lv_icmp_ge (tgt := 20) hx hb dX12_runs_4 (by decide) (fun k4 => ?_) (fun k4 => ?_)
  · replace hf := zt k4 hf
    exact hjl1 _ (hdl1 _ (Option.some.inj hf).symm) _ _ _ hP hS (lv_sub hl [0, 1, 2] rfl)
  · replace hf := zf k4 hf
    refine lv_aload_n hx hb dX12_runs_7 rfl (lv_at hl 0 rfl) ?_
    refine va_get (D := D) (ci := 11) (v := .ref (ad 24)) (C := RX12) (T := TX12) (N := 31) hx hb hts hinX12_runs_X12 hown E.1 hP 0 (zO.get (oX12_at)) rfl 30 (by decide) (hts (.fieldLink RX12 82 "EdgeAndSpeedModel" "ran" "[I") (by decide +kernel)) (fun _ h9 => h9) rfl dX12_runs_8 ?_
    refine lv_iload_n hx hb dX12_runs_11 rfl (lv_at hl 3 rfl) ?_
    refine lv_iconst (v := 0) hx hb dX12_runs_12 (by decide) ?_
    obtain ⟨g6, hf⟩ := zg_i hf
    obtain ⟨I5, eI5⟩ := zex (va_up I3 24 (upd (I3 24) x2.toNatClampNeg 0))
    replace hf := zn_s eI5 hf
    refine zast_i hx hb E.1 hP hD.D hS (aX12_30) g6 dX12_runs_13 eI5 (fun H locs hP hS => ?_)
    obtain ⟨y7, ey7⟩ := zex (x2 + 1)
    replace hf := zn_s ey7 hf
    refine lv_iinc (v := y7) (lv' := [(3, .int y7), (0, .ref (ad 0)), (1, .int p1), (2, .int p2)]) hx hb dX12_runs_14 hl (k := 3) rfl (by rw [ey7]; rfl) (by decide) rfl (fun ls hl => ?_)
    refine lv_goto (tgt := 2) hx hb dX12_runs_17 (by decide) ?_
    exact hcl1 _ (Option.some.inj hf).symm _ _ _ hP hS (lv_sub hl [1, 2, 3, 0] rfl)
theorem c_X12_runs (l : Launch) {D : va_G} {a0 : Nat → Nat} {A : Nat → Prop} {cy : Nat → ClassId} {ad : Nat → Nat} (hD : zD A 25 ad) {I : zI} {J : zJ} (p1 : Int32) (p2 : Int32) {rI : zI} (hf : f_X12_runs I J p1 p2 = some rI) : Met l yX12_runs wsX12_runs { frames := 1, cells := 0, slots := 0, locals := 24 } (zPc D a0 A cy [.ref (ad 0), .int p1, .int p2] (zw 25 (kM cy ad) ad I J)) (zQv D A (zw 25 (kM cy ad) ad rI J)) 0 0 A :=
  zmet RX12 (by decide) rfl rfl (Nat.le_of_ble_eq_true rfl) (fun p e R s m below meth c Q hfr hlo ls S0 hQ => w_X12_runs hfr hlo hD p1 p2 hf S0 (fun tI hq H locs ls pc hP hS hd => by cases hq; exact hQ H locs _ hS (fun hx hb hr hlocks hfree => W.vret hx hb hr (fun t ht hW => ⟨⟨(), rfl, trivial, zht ht hP⟩, hS.F ht⟩) hfree hd hlocks)))
theorem ddX12_runs : yX12_runs.cls = RX12 ∧ yX12_runs.cls ≠ "java/lang/invoke/MethodHandle" ∧ yX12_runs.cls ≠ "java/lang/invoke/VarHandle" ∧ (parseMethodDescriptor yX12_runs.desc).map (fun d => d.parameters.length) = some 2 := by decide +kernel

def f_X12_run (I : zI) (J : zJ) (p1 : Int32) (p2 : Int32) (p3 : Int32) (p4 : Int32) : Option (Int64 × zI × zJ) := zb1 (f_X12_in I J (p1.toInt64) 0 5) (fun x1 => (if x1 = 0 then some ((-1), I, J) else zb1 (f_X12_isSteel I J p2) (fun x4 => (if x4 = 0 then some ((-1), I, J) else zb1 (f_X12_in I J (p3.toInt64) 0 9999) (fun x7 => (if x7 = 0 then some ((-1), I, J) else zb1 (f_X12_in I J (p4.toInt64) 0 4) (fun x10 => (if x10 = 0 then some ((-1), I, J) else zb2 (f_X12_handles I J p1 p2) (fun I13 J14 => zb1 (f_X12_runs I13 J14 p2 p3) (fun I16 => zg (¬ ((0 : Int32) < 0 ∨ 4 ≤ (0 : Int32).toNatClampNeg)) (zg (¬ ((2 : Int32) < 0 ∨ 10 ≤ (2 : Int32).toNatClampNeg)) (zg (¬ ((1 : Int32) < 0 ∨ 4 ≤ (1 : Int32).toNatClampNeg)) (zg (¬ ((1 : Int32) < 0 ∨ 10 ≤ (1 : Int32).toNatClampNeg)) (zn ((((I16 24 (0 : Int32).toNatClampNeg).toInt64 * (I16 11 (2 : Int32).toNatClampNeg).toInt64) + ((6000 * (I16 24 (1 : Int32).toNatClampNeg).toInt64) * (I16 11 (1 : Int32).toNatClampNeg).toInt64))) (fun u22 => (if p4 = 0 then zg (¬ ((0 : Int32) < 0 ∨ 4 ≤ (0 : Int32).toNatClampNeg)) (some ((I16 24 (0 : Int32).toNatClampNeg).toInt64, I16, J14)) else (if p4 = 1 then some (u22, I16, J14) else (if p4 = 2 then zg (¬ ((2 : Int32) < 0 ∨ 4 ≤ (2 : Int32).toNatClampNeg)) (some ((I16 24 (2 : Int32).toNatClampNeg).toInt64, I16, J14)) else (if p4 = 3 then zg (¬ ((3 : Int32) < 0 ∨ 4 ≤ (3 : Int32).toNatClampNeg)) (some ((I16 24 (3 : Int32).toNatClampNeg).toInt64, I16, J14)) else zg (¬ ((1 : Int32) < 0 ∨ 4 ≤ (1 : Int32).toNatClampNeg)) (some ((I16 24 (1 : Int32).toNatClampNeg).toInt64, I16, J14)))))))))))))))))))))
theorem hinX12_run_X12 : ∀ w ∈ u_ws RX12 TX12 31, w ∈ wsX12_run := by decide +kernel
set_option maxHeartbeats 4000000 in
set_option maxRecDepth 100000 in
theorem w_X12_run {p : Program} {l : Launch} {e : Env} {R : Room} {s : State} {m : MethodId} {args : Array Value} {below : List Frame} {meth : Method} {c : Code} {Q : State → Prop} (hfr : 5 ≤ R.frames) (hlo : 131 ≤ R.locals) {D : va_G} {a0 : Nat → Nat} {A : Nat → Prop} {cy : Nat → ClassId} {ad : Nat → Nat} (hD : zD A 25 ad) {I : zI} {J : zJ} (p1 : Int32) (p2 : Int32) (p3 : Int32) (p4 : Int32) {rx : Int64} {rI : zI} {rJ : zJ} (hf : f_X12_run I J p1 p2 p3 p4 = some (rx, rI, rJ)) {ls : Array Slot} (S0 : zSt p m c cX12_run 7 s args wsX12_run RX12 D a0 A cy (zw 25 (kM cy ad) ad I J) [.ref (ad 0), .int p1, .int p2, .int p3, .int p4] ls) (hret : ∀ (tx : Int64) (tI : zI) (tJ : zJ), some (tx, tI, tJ) = some (rx, rI, rJ) → ∀ (H : Heap) (locs : List Loc) (ls : Array Slot) (pc : Nat), va_P D vwCl (zw 25 (kM cy ad) ad tI tJ) H → va_S A s.heap H locs → decode cX12_run pc = .ok (.lreturn, 1) → W p l e R s m args below meth c H locs 0 0 Q (F0 m pc ls [.long tx])) : W p l e R s m args below meth c s.heap [] 0 0 Q (F0 m 0 ls []) := by
  obtain ⟨S, E, hP, hl⟩ := S0
  obtain ⟨hx, hb, hml, hown, hts⟩ := id S
  have hS : va_S A s.heap s.heap [] := va_S.rf
  replace hl : lv_has ls 7 [(0, .ref (ad 0)), (1, .int p1), (2, .int p2), (3, .int p3), (4, .int p4)] := hl
  unfold f_X12_run at hf
  refine lv_iload_n hx hb dX12_run_0 rfl (lv_at hl 1 rfl) ?_
  refine lv_i2l hx hb dX12_run_1 rfl ?_
  refine lv_lconst (v := 0) hx hb dX12_run_2 (by decide) ?_
  refine lv_ldc2 hx hb hown (hts (.constantLong RX12 225 5) (by decide +kernel)) dX12_run_3 ?_
  obtain ⟨x1, h2, hf⟩ := zb1_e hf
  refine zgo_i (zrunS (As := [.long (p1.toInt64), .long 0, .long 5]) (rest := []) S (c_X12_in l hD (p1.toInt64) 0 5 h2) (va_cwS 3 hts gX12_run_X12_in rfl rfl rfl ddX12_in ⟨Nat.le_trans (Nat.le_of_ble_eq_true rfl) hfr, Nat.le_trans (Nat.le_of_ble_eq_true rfl) hlo⟩) E hP hS hl.1 rfl rfl (Nat.le_of_ble_eq_true rfl) dX12_run_6) hS (fun H locs hP hS => ?_)
  refine lv_if_eq (tgt := 45) hx hb dX12_run_9 (by decide) (fun k3 => ?_) (fun k3 => ?_)
  · replace hf := zt k3 hf
    refine lv_ldc2 hx hb hown (hts (.constantLong RX12 196 (-1)) (by decide +kernel)) dX12_run_45 ?_
    exact hret _ _ _ hf _ _ _ _ hP hS dX12_run_48
  · replace hf := zf k3 hf
    refine lv_aload_n hx hb dX12_run_12 rfl (lv_at hl 0 rfl) ?_
    refine lv_iload_n hx hb dX12_run_13 rfl (lv_at hl 2 rfl) ?_
    obtain ⟨x4, h5, hf⟩ := zb1_e hf
    refine zgo_i (zrunV (As := [.int p2]) (rest := []) S (c_X12_isSteel l hD p2 h5) (cwV 1 hts gX12_run_X12_isSteel rfl rfl rfl ddX12_isSteel ⟨Nat.le_trans (Nat.le_of_ble_eq_true rfl) hfr, Nat.le_trans (Nat.le_of_ble_eq_true rfl) hlo⟩) (va_recv E.1 hP (q := (RX12, TX12, 31)) (ci := 11) rfl (zO.get (oX12_at))) E hP hS hl.1 rfl rfl (Nat.le_of_ble_eq_true rfl) dX12_run_14) hS (fun H locs hP hS => ?_)
    refine lv_if_eq (tgt := 45) hx hb dX12_run_17 (by decide) (fun k6 => ?_) (fun k6 => ?_)
    · replace hf := zt k6 hf
      refine lv_ldc2 hx hb hown (hts (.constantLong RX12 196 (-1)) (by decide +kernel)) dX12_run_45 ?_
      exact hret _ _ _ hf _ _ _ _ hP hS dX12_run_48
    · replace hf := zf k6 hf
      refine lv_iload_n hx hb dX12_run_20 rfl (lv_at hl 3 rfl) ?_
      refine lv_i2l hx hb dX12_run_21 rfl ?_
      refine lv_lconst (v := 0) hx hb dX12_run_22 (by decide) ?_
      refine lv_ldc2 hx hb hown (hts (.constantLong RX12 276 9999) (by decide +kernel)) dX12_run_23 ?_
      obtain ⟨x7, h8, hf⟩ := zb1_e hf
      refine zgo_i (zrunS (As := [.long (p3.toInt64), .long 0, .long 9999]) (rest := []) S (c_X12_in l hD (p3.toInt64) 0 9999 h8) (va_cwS 3 hts gX12_run_X12_in rfl rfl rfl ddX12_in ⟨Nat.le_trans (Nat.le_of_ble_eq_true rfl) hfr, Nat.le_trans (Nat.le_of_ble_eq_true rfl) hlo⟩) E hP hS hl.1 rfl rfl (Nat.le_of_ble_eq_true rfl) dX12_run_26) hS (fun H locs hP hS => ?_)
      refine lv_if_eq (tgt := 45) hx hb dX12_run_29 (by decide) (fun k9 => ?_) (fun k9 => ?_)
      · replace hf := zt k9 hf
        refine lv_ldc2 hx hb hown (hts (.constantLong RX12 196 (-1)) (by decide +kernel)) dX12_run_45 ?_
        exact hret _ _ _ hf _ _ _ _ hP hS dX12_run_48
      · replace hf := zf k9 hf
        refine lv_iload hx hb dX12_run_32 (lv_at hl 4 rfl) ?_
        refine lv_i2l hx hb dX12_run_34 rfl ?_
        refine lv_lconst (v := 0) hx hb dX12_run_35 (by decide) ?_
        refine lv_ldc2 hx hb hown (hts (.constantLong RX12 312 4) (by decide +kernel)) dX12_run_36 ?_
        obtain ⟨x10, h11, hf⟩ := zb1_e hf
        refine zgo_i (zrunS (As := [.long (p4.toInt64), .long 0, .long 4]) (rest := []) S (c_X12_in l hD (p4.toInt64) 0 4 h11) (va_cwS 3 hts gX12_run_X12_in rfl rfl rfl ddX12_in ⟨Nat.le_trans (Nat.le_of_ble_eq_true rfl) hfr, Nat.le_trans (Nat.le_of_ble_eq_true rfl) hlo⟩) E hP hS hl.1 rfl rfl (Nat.le_of_ble_eq_true rfl) dX12_run_39) hS (fun H locs hP hS => ?_)
        refine lv_if_ne (tgt := 49) hx hb dX12_run_42 (by decide) (fun k12 => ?_) (fun k12 => ?_)
        · replace hf := zf k12 hf
          refine lv_aload_n hx hb dX12_run_49 rfl (lv_at hl 0 rfl) ?_
          refine lv_iload_n hx hb dX12_run_50 rfl (lv_at hl 1 rfl) ?_
          refine lv_iload_n hx hb dX12_run_51 rfl (lv_at hl 2 rfl) ?_
          obtain ⟨I13, J14, h15, hf⟩ := zb2_e hf
          refine zgo_v (zrunV (As := [.int p1, .int p2]) (rest := []) S (c_X12_handles l hD p1 p2 h15) (cwV 2 hts gX12_run_X12_handles rfl rfl rfl ddX12_handles ⟨Nat.le_trans (Nat.le_of_ble_eq_true rfl) hfr, Nat.le_trans (Nat.le_of_ble_eq_true rfl) hlo⟩) (va_recv E.1 hP (q := (RX12, TX12, 31)) (ci := 11) rfl (zO.get (oX12_at))) E hP hS hl.1 rfl rfl (Nat.le_of_ble_eq_true rfl) dX12_run_52) hS (fun H locs hP hS => ?_)
          refine lv_aload_n hx hb dX12_run_55 rfl (lv_at hl 0 rfl) ?_
          refine lv_iload_n hx hb dX12_run_56 rfl (lv_at hl 2 rfl) ?_
          refine lv_iload_n hx hb dX12_run_57 rfl (lv_at hl 3 rfl) ?_
          obtain ⟨I16, h17, hf⟩ := zb1_e hf
          refine zgo_v (zrunV (As := [.int p2, .int p3]) (rest := []) S (c_X12_runs l hD p2 p3 h17) (cwV 2 hts gX12_run_X12_runs rfl rfl rfl ddX12_runs ⟨Nat.le_trans (Nat.le_of_ble_eq_true rfl) hfr, Nat.le_trans (Nat.le_of_ble_eq_true rfl) hlo⟩) (va_recv E.1 hP (q := (RX12, TX12, 31)) (ci := 11) rfl (zO.get (oX12_at))) E hP hS hl.1 rfl rfl (Nat.le_of_ble_eq_true rfl) dX12_run_58) hS (fun H locs hP hS => ?_)
          refine lv_aload_n hx hb dX12_run_61 rfl (lv_at hl 0 rfl) ?_
          refine va_get (D := D) (ci := 11) (v := .ref (ad 24)) (C := RX12) (T := TX12) (N := 31) hx hb hts hinX12_run_X12 hown E.1 hP 0 (zO.get (oX12_at)) rfl 30 (by decide) (hts (.fieldLink RX12 82 "EdgeAndSpeedModel" "ran" "[I") (by decide +kernel)) (fun _ h9 => h9) rfl dX12_run_62 ?_
          refine lv_iconst (v := 0) hx hb dX12_run_65 (by decide) ?_
          obtain ⟨g18, hf⟩ := zg_i hf
          refine va_iald hx hb E.1 hP 24 1 (zIA.get (aX12_30)) rfl g18 dX12_run_66 ?_
          refine lv_i2l hx hb dX12_run_67 rfl ?_
          refine lv_aload_n hx hb dX12_run_68 rfl (lv_at hl 0 rfl) ?_
          refine va_get (D := D) (ci := 11) (v := .ref (ad 11)) (C := RX12) (T := TX12) (N := 31) hx hb hts hinX12_run_X12 hown E.1 hP 0 (zO.get (oX12_at)) rfl 12 (by decide) (hts (.fieldLink RX12 41 "EdgeAndSpeedModel" "rest" "[I") (by decide +kernel)) (fun _ h9 => h9) rfl dX12_run_69 ?_
          refine lv_iconst (v := 2) hx hb dX12_run_72 (by decide) ?_
          obtain ⟨g19, hf⟩ := zg_i hf
          refine va_iald hx hb E.1 hP 11 1 (zIA.get (aX12_12)) rfl g19 dX12_run_73 ?_
          refine lv_i2l hx hb dX12_run_74 rfl ?_
          refine lv_lmul hx hb dX12_run_75 ?_
          refine lv_ldc2 hx hb hown (hts (.constantLong RX12 191 6000) (by decide +kernel)) dX12_run_76 ?_
          refine lv_aload_n hx hb dX12_run_79 rfl (lv_at hl 0 rfl) ?_
          refine va_get (D := D) (ci := 11) (v := .ref (ad 24)) (C := RX12) (T := TX12) (N := 31) hx hb hts hinX12_run_X12 hown E.1 hP 0 (zO.get (oX12_at)) rfl 30 (by decide) (hts (.fieldLink RX12 82 "EdgeAndSpeedModel" "ran" "[I") (by decide +kernel)) (fun _ h9 => h9) rfl dX12_run_80 ?_
          refine lv_iconst (v := 1) hx hb dX12_run_83 (by decide) ?_
          obtain ⟨g20, hf⟩ := zg_i hf
          refine va_iald hx hb E.1 hP 24 1 (zIA.get (aX12_30)) rfl g20 dX12_run_84 ?_
          refine lv_i2l hx hb dX12_run_85 rfl ?_
          refine lv_lmul hx hb dX12_run_86 ?_
          refine lv_aload_n hx hb dX12_run_87 rfl (lv_at hl 0 rfl) ?_
          refine va_get (D := D) (ci := 11) (v := .ref (ad 11)) (C := RX12) (T := TX12) (N := 31) hx hb hts hinX12_run_X12 hown E.1 hP 0 (zO.get (oX12_at)) rfl 12 (by decide) (hts (.fieldLink RX12 41 "EdgeAndSpeedModel" "rest" "[I") (by decide +kernel)) (fun _ h9 => h9) rfl dX12_run_88 ?_
          refine lv_iconst (v := 1) hx hb dX12_run_91 (by decide) ?_
          obtain ⟨g21, hf⟩ := zg_i hf
          refine va_iald hx hb E.1 hP 11 1 (zIA.get (aX12_12)) rfl g21 dX12_run_92 ?_
          refine lv_i2l hx hb dX12_run_93 rfl ?_
          refine lv_lmul hx hb dX12_run_94 ?_
          refine lv_ladd hx hb dX12_run_95 ?_
          refine lv_topl (fun u22 eu22 => ?_)
          replace hf := zn_s eu22 hf
          refine lv_lstore (lv' := [(5, .long u22), (0, .ref (ad 0)), (1, .int p1), (2, .int p2), (3, .int p3), (4, .int p4)]) hx hb dX12_run_96 hl (by decide) rfl (fun ls hl => ?_)
          refine lv_iload hx hb dX12_run_98 (lv_at hl 5 rfl) ?_
          refine lv_if_ne (tgt := 113) hx hb dX12_run_100 (by decide) (fun k23 => ?_) (fun k23 => ?_)
          · replace hf := zf k23 hf
            refine lv_iload hx hb dX12_run_113 (lv_at hl 5 rfl) ?_
            refine lv_iconst (v := 1) hx hb dX12_run_115 (by decide) ?_
            refine lv_icmp_ne (tgt := 124) hx hb dX12_run_116 (by decide) (fun k24 => ?_) (fun k24 => ?_)
            · replace hf := zf k24 hf
              refine lv_iload hx hb dX12_run_124 (lv_at hl 5 rfl) ?_
              refine lv_iconst (v := 2) hx hb dX12_run_126 (by decide) ?_
              refine lv_icmp_ne (tgt := 140) hx hb dX12_run_127 (by decide) (fun k25 => ?_) (fun k25 => ?_)
              · replace hf := zf k25 hf
                refine lv_iload hx hb dX12_run_140 (lv_at hl 5 rfl) ?_
                refine lv_iconst (v := 3) hx hb dX12_run_142 (by decide) ?_
                refine lv_icmp_ne (tgt := 156) hx hb dX12_run_143 (by decide) (fun k26 => ?_) (fun k26 => ?_)
                · replace hf := zf k26 hf
                  refine lv_aload_n hx hb dX12_run_156 rfl (lv_at hl 1 rfl) ?_
                  refine va_get (D := D) (ci := 11) (v := .ref (ad 24)) (C := RX12) (T := TX12) (N := 31) hx hb hts hinX12_run_X12 hown E.1 hP 0 (zO.get (oX12_at)) rfl 30 (by decide) (hts (.fieldLink RX12 82 "EdgeAndSpeedModel" "ran" "[I") (by decide +kernel)) (fun _ h9 => h9) rfl dX12_run_157 ?_
                  refine lv_iconst (v := 1) hx hb dX12_run_160 (by decide) ?_
                  obtain ⟨g27, hf⟩ := zg_i hf
                  refine va_iald hx hb E.1 hP 24 1 (zIA.get (aX12_30)) rfl g27 dX12_run_161 ?_
                  refine lv_i2l hx hb dX12_run_162 rfl ?_
                  exact hret _ _ _ hf _ _ _ _ hP hS dX12_run_163
                · replace hf := zt k26 hf
                  refine lv_aload_n hx hb dX12_run_146 rfl (lv_at hl 1 rfl) ?_
                  refine va_get (D := D) (ci := 11) (v := .ref (ad 24)) (C := RX12) (T := TX12) (N := 31) hx hb hts hinX12_run_X12 hown E.1 hP 0 (zO.get (oX12_at)) rfl 30 (by decide) (hts (.fieldLink RX12 82 "EdgeAndSpeedModel" "ran" "[I") (by decide +kernel)) (fun _ h9 => h9) rfl dX12_run_147 ?_
                  refine lv_iconst (v := 3) hx hb dX12_run_150 (by decide) ?_
                  obtain ⟨g28, hf⟩ := zg_i hf
                  refine va_iald hx hb E.1 hP 24 1 (zIA.get (aX12_30)) rfl g28 dX12_run_151 ?_
                  refine lv_i2l hx hb dX12_run_152 rfl ?_
                  refine lv_goto (tgt := 163) hx hb dX12_run_153 (by decide) ?_
                  exact hret _ _ _ hf _ _ _ _ hP hS dX12_run_163
              · replace hf := zt k25 hf
                refine lv_aload_n hx hb dX12_run_130 rfl (lv_at hl 1 rfl) ?_
                refine va_get (D := D) (ci := 11) (v := .ref (ad 24)) (C := RX12) (T := TX12) (N := 31) hx hb hts hinX12_run_X12 hown E.1 hP 0 (zO.get (oX12_at)) rfl 30 (by decide) (hts (.fieldLink RX12 82 "EdgeAndSpeedModel" "ran" "[I") (by decide +kernel)) (fun _ h9 => h9) rfl dX12_run_131 ?_
                refine lv_iconst (v := 2) hx hb dX12_run_134 (by decide) ?_
                obtain ⟨g29, hf⟩ := zg_i hf
                refine va_iald hx hb E.1 hP 24 1 (zIA.get (aX12_30)) rfl g29 dX12_run_135 ?_
                refine lv_i2l hx hb dX12_run_136 rfl ?_
                refine lv_goto (tgt := 163) hx hb dX12_run_137 (by decide) ?_
                exact hret _ _ _ hf _ _ _ _ hP hS dX12_run_163
            · replace hf := zt k24 hf
              refine lv_lload hx hb dX12_run_119 (lv_at hl 0 rfl) ?_
              refine lv_goto (tgt := 163) hx hb dX12_run_121 (by decide) ?_
              exact hret _ _ _ hf _ _ _ _ hP hS dX12_run_163
          · replace hf := zt k23 hf
            refine lv_aload_n hx hb dX12_run_103 rfl (lv_at hl 1 rfl) ?_
            refine va_get (D := D) (ci := 11) (v := .ref (ad 24)) (C := RX12) (T := TX12) (N := 31) hx hb hts hinX12_run_X12 hown E.1 hP 0 (zO.get (oX12_at)) rfl 30 (by decide) (hts (.fieldLink RX12 82 "EdgeAndSpeedModel" "ran" "[I") (by decide +kernel)) (fun _ h9 => h9) rfl dX12_run_104 ?_
            refine lv_iconst (v := 0) hx hb dX12_run_107 (by decide) ?_
            obtain ⟨g30, hf⟩ := zg_i hf
            refine va_iald hx hb E.1 hP 24 1 (zIA.get (aX12_30)) rfl g30 dX12_run_108 ?_
            refine lv_i2l hx hb dX12_run_109 rfl ?_
            refine lv_goto (tgt := 163) hx hb dX12_run_110 (by decide) ?_
            exact hret _ _ _ hf _ _ _ _ hP hS dX12_run_163
        · replace hf := zt k12 hf
          refine lv_ldc2 hx hb hown (hts (.constantLong RX12 196 (-1)) (by decide +kernel)) dX12_run_45 ?_
          exact hret _ _ _ hf _ _ _ _ hP hS dX12_run_48
theorem c_X12_run (l : Launch) {D : va_G} {a0 : Nat → Nat} {A : Nat → Prop} {cy : Nat → ClassId} {ad : Nat → Nat} (hD : zD A 25 ad) {I : zI} {J : zJ} (p1 : Int32) (p2 : Int32) (p3 : Int32) (p4 : Int32) {rx : Int64} {rI : zI} {rJ : zJ} (hf : f_X12_run I J p1 p2 p3 p4 = some (rx, rI, rJ)) : Met l yX12_run wsX12_run { frames := 5, cells := 0, slots := 0, locals := 131 } (zPc D a0 A cy [.ref (ad 0), .int p1, .int p2, .int p3, .int p4] (zw 25 (kM cy ad) ad I J)) (zQl D A rx (zw 25 (kM cy ad) ad rI rJ)) 0 0 A :=
  zmet RX12 (by decide) rfl rfl (Nat.le_of_ble_eq_true rfl) (fun p e R s m below meth c Q hfr hlo ls S0 hQ => w_X12_run hfr hlo hD p1 p2 p3 p4 hf S0 (fun tx tI tJ hq H locs ls pc hP hS hd => by cases hq; exact hQ H locs _ hS (fun hx hb hr hlocks hfree => W.lret hx hb hr (fun t ht hW => ⟨⟨_, (), rfl, rfl, zht ht hP⟩, hS.F ht⟩) hfree hd hlocks)))
theorem ddX12_run : yX12_run.cls = RX12 ∧ yX12_run.cls ≠ "java/lang/invoke/MethodHandle" ∧ yX12_run.cls ≠ "java/lang/invoke/VarHandle" ∧ (parseMethodDescriptor yX12_run.desc).map (fun d => d.parameters.length) = some 4 := by decide +kernel
