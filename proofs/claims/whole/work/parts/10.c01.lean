def f_X0_take (I : zI) (J : zJ) (o : Nat) (p1 : Int32) (q : Nat) : Option (Int32 × zI) := zb1 (f_X11_at I J q 4 0) (fun x1 => zb1 (f_X11_at I J q 4 1) (fun x3 => (if p1 = 98 then zb2 (f_X0_takeBreak I J o x1 x3) (fun x26 I27 => zg (x26 = 0 ∨ x26 = 1) (some (x26, I27))) else if p1 = 99 then zb2 (f_X0_takeChange I J o x1 x3) (fun x29 I30 => zg (x29 = 0 ∨ x29 = 1) (some (x29, I30))) else if p1 = 100 then some (0, I) else if p1 = 101 then some (0, I) else if p1 = 102 then some (0, I) else if p1 = 103 then some (0, I) else if p1 = 104 then zb2 (f_X0_takeHour I J o x1) (fun x32 I33 => zg (x32 = 0 ∨ x32 = 1) (some (x32, I33))) else if p1 = 105 then some (0, I) else if p1 = 106 then some (0, I) else if p1 = 107 then zb2 (f_X0_takeMost I J o x1 x3) (fun x35 I36 => zg (x35 = 0 ∨ x35 = 1) (some (x35, I36))) else if p1 = 108 then some (0, I) else if p1 = 109 then some (0, I) else if p1 = 110 then some (0, I) else if p1 = 111 then some (0, I) else if p1 = 112 then zb1 (f_X11_at I J q 4 2) (fun x38 => zb1 (f_X11_at I J q 4 3) (fun x40 => zb2 (f_X0_takePiece I J o x1 x3 x38 x40) (fun x42 I43 => zg (x42 = 0 ∨ x42 = 1) (some (x42, I43))))) else if p1 = 113 then some (0, I) else if p1 = 114 then some (0, I) else if p1 = 115 then some (0, I) else if p1 = 116 then zb2 (f_X0_takeSteel I J o x1 x3) (fun x45 I46 => zg (x45 = 0 ∨ x45 = 1) (some (x45, I46))) else if p1 = 117 then some (0, I) else if p1 = 118 then zb2 (f_X0_takeSpeed I J o x1 x3) (fun x48 I49 => zg (x48 = 0 ∨ x48 = 1) (some (x48, I49))) else some (0, I))))
set_option maxHeartbeats 4000000 in
set_option maxRecDepth 100000 in
theorem w_X0_take {p : Program} {l : Launch} {e : Env} {R : Room} {s : State} {m : MethodId} {args : Array Value} {below : List Frame} {meth : Method} {c : Code} {Q : State → Prop} (hfr : 2 ≤ R.frames) (hlo : 46 ≤ R.locals) {D : va_G} {a0 : Nat → Nat} {A : Nat → Prop} {cy : Nat → ClassId} {ad : Nat → Nat} {N : Nat} {K : zK} (hD : zD A N ad) {I : zI} {J : zJ} (o : Nat) (hB : zBat N K cy ad o) (p1 : Int32) (q : Nat) (hq : zIA N K (cy 1) q 4) {rx : Int32} {rI : zI} (hf : f_X0_take I J o p1 q = some (rx, rI)) {ls : Array Slot} (S0 : zSt p m c cX0_take 5 s args wsX0_take RX0 D a0 A cy (zw N K ad I J) [.ref (ad o), .int p1, .ref (ad q)] ls) (hret : ∀ (tx : Int32) (tI : zI), some (tx, tI) = some (rx, rI) → (tx = 0 ∨ tx = 1) → ∀ (H : Heap) (locs : List Loc) (ls : Array Slot) (pc : Nat), va_P D vwCl (zw N K ad tI J) H → va_S A s.heap H locs → decode cX0_take pc = .ok (.ireturn, 1) → W p l e R s m args below meth c H locs 0 0 Q (F0 m pc ls [.int tx])) : W p l e R s m args below meth c s.heap [] 0 0 Q (F0 m 0 ls []) := by
  obtain ⟨S, E, hP, hl⟩ := S0
  obtain ⟨hx, hb, hml, hown, hts⟩ := id S
  have hS : va_S A s.heap s.heap [] := va_S.rf
  replace hl : lv_has ls 5 [(0, .ref (ad o)), (1, .int p1), (2, .ref (ad q))] := hl
  unfold f_X0_take at hf
  refine lv_aload_n hx hb dX0_take_0 rfl (lv_at hl 2 rfl) ?_
  refine lv_iconst (v := 0) hx hb dX0_take_1 (by decide) ?_
  obtain ⟨x1, h2, hf⟩ := zb1_e hf
  refine zgo_i (zrunSN (As := [.ref (ad q), .int 0]) (rest := []) S (c_X11_at l hD q 4 hq 0 h2) ⟨va_cnB (host := "EdgeAndSpeed") 2 hts gX0_take_X11_at_n85 rfl rfl rfl (zNmw_1 E.2.2) (hts (.initialized RX11) (by decide +kernel)) ddX11_at ⟨Nat.le_trans (Nat.le_of_ble_eq_true rfl) hfr, Nat.le_trans (Nat.le_of_ble_eq_true rfl) hlo⟩, hts (.static yX11_at) (by decide +kernel), trivial⟩ E hP hS hl.1 rfl rfl (Nat.le_of_ble_eq_true rfl) dX0_take_2) hS (fun H locs hP hS => ?_)
  refine lv_istore_n (lv' := [(3, .int x1), (0, .ref (ad o)), (1, .int p1), (2, .ref (ad q))]) hx hb dX0_take_5 rfl hl (by decide) rfl (fun ls hl => ?_)
  refine lv_aload_n hx hb dX0_take_6 rfl (lv_at hl 3 rfl) ?_
  refine lv_iconst (v := 1) hx hb dX0_take_7 (by decide) ?_
  obtain ⟨x3, h4, hf⟩ := zb1_e hf
  refine zgo_i (zrunSN (As := [.ref (ad q), .int 1]) (rest := []) S (c_X11_at l hD q 4 hq 1 h4) ⟨va_cnB (host := "EdgeAndSpeed") 2 hts gX0_take_X11_at_n85 rfl rfl rfl (zNmw_1 E.2.2) (hts (.initialized RX11) (by decide +kernel)) ddX11_at ⟨Nat.le_trans (Nat.le_of_ble_eq_true rfl) hfr, Nat.le_trans (Nat.le_of_ble_eq_true rfl) hlo⟩, hts (.static yX11_at) (by decide +kernel), trivial⟩ E hP hS hl.1 rfl rfl (Nat.le_of_ble_eq_true rfl) dX0_take_8) hS (fun H locs hP hS => ?_)
  refine lv_istore (lv' := [(4, .int x3), (3, .int x1), (0, .ref (ad o)), (1, .int p1), (2, .ref (ad q))]) hx hb dX0_take_11 hl (by decide) rfl (fun ls hl => ?_)
  refine lv_iload_n hx hb dX0_take_13 rfl (lv_at hl 3 rfl) ?_
  rcases Decidable.em (p1 = 98) with k5 | k5
  · replace hf := zt k5 hf
    refine lv_tableIn (off := 124) (tgt := 138) hx hb dX0_take_14 (by rw [k5]; decide) (by rw [k5]; decide) (by rw [k5]; rfl) (by decide) ?_
    refine lv_aload_n hx hb dX0_take_138 rfl (lv_at hl 2 rfl) ?_
    refine lv_iload_n hx hb dX0_take_139 rfl (lv_at hl 1 rfl) ?_
    refine lv_iload hx hb dX0_take_140 (lv_at hl 0 rfl) ?_
    obtain ⟨x26, I27, h28, hf⟩ := zb2_e hf
    refine zgo_i (zrunV (As := [.int x1, .int x3]) (rest := []) S (c_X0_takeBreak l hD o hB x1 x3 h28) (cwV 2 hts gX0_take_X0_takeBreak rfl rfl rfl ddX0_takeBreak ⟨Nat.le_trans (Nat.le_of_ble_eq_true rfl) hfr, Nat.le_trans (Nat.le_of_ble_eq_true rfl) hlo⟩) (va_recv E.1 hP (q := (RX0, TX0, 17)) (ci := 0) rfl (zO.get (zBat_o hB))) E hP hS hl.1 rfl rfl (Nat.le_of_ble_eq_true rfl) dX0_take_142) hS (fun H locs hP hS => ?_)
    obtain ⟨g0, hf⟩ := zg_i hf
    exact hret _ _ hf g0 _ _ _ _ hP hS dX0_take_145
  replace hf := zf k5 hf
  rcases Decidable.em (p1 = 99) with k6 | k6
  · replace hf := zt k6 hf
    refine lv_tableIn (off := 132) (tgt := 146) hx hb dX0_take_14 (by rw [k6]; decide) (by rw [k6]; decide) (by rw [k6]; rfl) (by decide) ?_
    refine lv_aload_n hx hb dX0_take_146 rfl (lv_at hl 2 rfl) ?_
    refine lv_iload_n hx hb dX0_take_147 rfl (lv_at hl 1 rfl) ?_
    refine lv_iload hx hb dX0_take_148 (lv_at hl 0 rfl) ?_
    obtain ⟨x29, I30, h31, hf⟩ := zb2_e hf
    refine zgo_i (zrunV (As := [.int x1, .int x3]) (rest := []) S (c_X0_takeChange l hD o hB x1 x3 h31) (cwV 2 hts gX0_take_X0_takeChange rfl rfl rfl ddX0_takeChange ⟨Nat.le_trans (Nat.le_of_ble_eq_true rfl) hfr, Nat.le_trans (Nat.le_of_ble_eq_true rfl) hlo⟩) (va_recv E.1 hP (q := (RX0, TX0, 17)) (ci := 0) rfl (zO.get (zBat_o hB))) E hP hS hl.1 rfl rfl (Nat.le_of_ble_eq_true rfl) dX0_take_150) hS (fun H locs hP hS => ?_)
    obtain ⟨g0, hf⟩ := zg_i hf
    exact hret _ _ hf g0 _ _ _ _ hP hS dX0_take_153
  replace hf := zf k6 hf
  rcases Decidable.em (p1 = 100) with k7 | k7
  · replace hf := zt k7 hf
    refine lv_tableIn (off := 162) (tgt := 176) hx hb dX0_take_14 (by rw [k7]; decide) (by rw [k7]; decide) (by rw [k7]; rfl) (by decide) ?_
    refine lv_iconst (v := 0) hx hb dX0_take_176 (by decide) ?_
    exact hret _ _ hf (Or.inl rfl) _ _ _ _ hP hS dX0_take_177
  replace hf := zf k7 hf
  rcases Decidable.em (p1 = 101) with k8 | k8
  · replace hf := zt k8 hf
    refine lv_tableIn (off := 162) (tgt := 176) hx hb dX0_take_14 (by rw [k8]; decide) (by rw [k8]; decide) (by rw [k8]; rfl) (by decide) ?_
    refine lv_iconst (v := 0) hx hb dX0_take_176 (by decide) ?_
    exact hret _ _ hf (Or.inl rfl) _ _ _ _ hP hS dX0_take_177
  replace hf := zf k8 hf
  rcases Decidable.em (p1 = 102) with k9 | k9
  · replace hf := zt k9 hf
    refine lv_tableIn (off := 162) (tgt := 176) hx hb dX0_take_14 (by rw [k9]; decide) (by rw [k9]; decide) (by rw [k9]; rfl) (by decide) ?_
    refine lv_iconst (v := 0) hx hb dX0_take_176 (by decide) ?_
    exact hret _ _ hf (Or.inl rfl) _ _ _ _ hP hS dX0_take_177
  replace hf := zf k9 hf
  rcases Decidable.em (p1 = 103) with k10 | k10
  · replace hf := zt k10 hf
    refine lv_tableIn (off := 162) (tgt := 176) hx hb dX0_take_14 (by rw [k10]; decide) (by rw [k10]; decide) (by rw [k10]; rfl) (by decide) ?_
    refine lv_iconst (v := 0) hx hb dX0_take_176 (by decide) ?_
    exact hret _ _ hf (Or.inl rfl) _ _ _ _ hP hS dX0_take_177
  replace hf := zf k10 hf
  rcases Decidable.em (p1 = 104) with k11 | k11
  · replace hf := zt k11 hf
    refine lv_tableIn (off := 140) (tgt := 154) hx hb dX0_take_14 (by rw [k11]; decide) (by rw [k11]; decide) (by rw [k11]; rfl) (by decide) ?_
    refine lv_aload_n hx hb dX0_take_154 rfl (lv_at hl 2 rfl) ?_
    refine lv_iload_n hx hb dX0_take_155 rfl (lv_at hl 1 rfl) ?_
    obtain ⟨x32, I33, h34, hf⟩ := zb2_e hf
    refine zgo_i (zrunV (As := [.int x1]) (rest := []) S (c_X0_takeHour l hD o hB x1 h34) (cwV 1 hts gX0_take_X0_takeHour rfl rfl rfl ddX0_takeHour ⟨Nat.le_trans (Nat.le_of_ble_eq_true rfl) hfr, Nat.le_trans (Nat.le_of_ble_eq_true rfl) hlo⟩) (va_recv E.1 hP (q := (RX0, TX0, 17)) (ci := 0) rfl (zO.get (zBat_o hB))) E hP hS hl.1 rfl rfl (Nat.le_of_ble_eq_true rfl) dX0_take_156) hS (fun H locs hP hS => ?_)
    obtain ⟨g0, hf⟩ := zg_i hf
    exact hret _ _ hf g0 _ _ _ _ hP hS dX0_take_159
  replace hf := zf k11 hf
  rcases Decidable.em (p1 = 105) with k12 | k12
  · replace hf := zt k12 hf
    refine lv_tableIn (off := 162) (tgt := 176) hx hb dX0_take_14 (by rw [k12]; decide) (by rw [k12]; decide) (by rw [k12]; rfl) (by decide) ?_
    refine lv_iconst (v := 0) hx hb dX0_take_176 (by decide) ?_
    exact hret _ _ hf (Or.inl rfl) _ _ _ _ hP hS dX0_take_177
  replace hf := zf k12 hf
  rcases Decidable.em (p1 = 106) with k13 | k13
  · replace hf := zt k13 hf
    refine lv_tableIn (off := 162) (tgt := 176) hx hb dX0_take_14 (by rw [k13]; decide) (by rw [k13]; decide) (by rw [k13]; rfl) (by decide) ?_
    refine lv_iconst (v := 0) hx hb dX0_take_176 (by decide) ?_
    exact hret _ _ hf (Or.inl rfl) _ _ _ _ hP hS dX0_take_177
  replace hf := zf k13 hf
  rcases Decidable.em (p1 = 107) with k14 | k14
  · replace hf := zt k14 hf
    refine lv_tableIn (off := 146) (tgt := 160) hx hb dX0_take_14 (by rw [k14]; decide) (by rw [k14]; decide) (by rw [k14]; rfl) (by decide) ?_
    refine lv_aload_n hx hb dX0_take_160 rfl (lv_at hl 2 rfl) ?_
    refine lv_iload_n hx hb dX0_take_161 rfl (lv_at hl 1 rfl) ?_
    refine lv_iload hx hb dX0_take_162 (lv_at hl 0 rfl) ?_
    obtain ⟨x35, I36, h37, hf⟩ := zb2_e hf
    refine zgo_i (zrunV (As := [.int x1, .int x3]) (rest := []) S (c_X0_takeMost l hD o hB x1 x3 h37) (cwV 2 hts gX0_take_X0_takeMost rfl rfl rfl ddX0_takeMost ⟨Nat.le_trans (Nat.le_of_ble_eq_true rfl) hfr, Nat.le_trans (Nat.le_of_ble_eq_true rfl) hlo⟩) (va_recv E.1 hP (q := (RX0, TX0, 17)) (ci := 0) rfl (zO.get (zBat_o hB))) E hP hS hl.1 rfl rfl (Nat.le_of_ble_eq_true rfl) dX0_take_164) hS (fun H locs hP hS => ?_)
    obtain ⟨g0, hf⟩ := zg_i hf
    exact hret _ _ hf g0 _ _ _ _ hP hS dX0_take_167
  replace hf := zf k14 hf
  rcases Decidable.em (p1 = 108) with k15 | k15
  · replace hf := zt k15 hf
    refine lv_tableIn (off := 162) (tgt := 176) hx hb dX0_take_14 (by rw [k15]; decide) (by rw [k15]; decide) (by rw [k15]; rfl) (by decide) ?_
    refine lv_iconst (v := 0) hx hb dX0_take_176 (by decide) ?_
    exact hret _ _ hf (Or.inl rfl) _ _ _ _ hP hS dX0_take_177
  replace hf := zf k15 hf
  rcases Decidable.em (p1 = 109) with k16 | k16
  · replace hf := zt k16 hf
    refine lv_tableIn (off := 162) (tgt := 176) hx hb dX0_take_14 (by rw [k16]; decide) (by rw [k16]; decide) (by rw [k16]; rfl) (by decide) ?_
    refine lv_iconst (v := 0) hx hb dX0_take_176 (by decide) ?_
    exact hret _ _ hf (Or.inl rfl) _ _ _ _ hP hS dX0_take_177
  replace hf := zf k16 hf
  rcases Decidable.em (p1 = 110) with k17 | k17
  · replace hf := zt k17 hf
    refine lv_tableIn (off := 162) (tgt := 176) hx hb dX0_take_14 (by rw [k17]; decide) (by rw [k17]; decide) (by rw [k17]; rfl) (by decide) ?_
    refine lv_iconst (v := 0) hx hb dX0_take_176 (by decide) ?_
    exact hret _ _ hf (Or.inl rfl) _ _ _ _ hP hS dX0_take_177
  replace hf := zf k17 hf
  rcases Decidable.em (p1 = 111) with k18 | k18
  · replace hf := zt k18 hf
    refine lv_tableIn (off := 162) (tgt := 176) hx hb dX0_take_14 (by rw [k18]; decide) (by rw [k18]; decide) (by rw [k18]; rfl) (by decide) ?_
    refine lv_iconst (v := 0) hx hb dX0_take_176 (by decide) ?_
    exact hret _ _ hf (Or.inl rfl) _ _ _ _ hP hS dX0_take_177
  replace hf := zf k18 hf
  rcases Decidable.em (p1 = 112) with k19 | k19
  · replace hf := zt k19 hf
    refine lv_tableIn (off := 106) (tgt := 120) hx hb dX0_take_14 (by rw [k19]; decide) (by rw [k19]; decide) (by rw [k19]; rfl) (by decide) ?_
    refine lv_aload_n hx hb dX0_take_120 rfl (lv_at hl 2 rfl) ?_
    refine lv_iload_n hx hb dX0_take_121 rfl (lv_at hl 1 rfl) ?_
    refine lv_iload hx hb dX0_take_122 (lv_at hl 0 rfl) ?_
    refine lv_aload_n hx hb dX0_take_124 rfl (lv_at hl 4 rfl) ?_
    refine lv_iconst (v := 2) hx hb dX0_take_125 (by decide) ?_
    obtain ⟨x38, h39, hf⟩ := zb1_e hf
    refine zgo_i (zrunSN (As := [.ref (ad q), .int 2]) (rest := [.int x3, .int x1, .ref (ad o)]) S (c_X11_at l hD q 4 hq 2 h39) ⟨va_cnB (host := "EdgeAndSpeed") 2 hts gX0_take_X11_at_n85 rfl rfl rfl (zNmw_1 E.2.2) (hts (.initialized RX11) (by decide +kernel)) ddX11_at ⟨Nat.le_trans (Nat.le_of_ble_eq_true rfl) hfr, Nat.le_trans (Nat.le_of_ble_eq_true rfl) hlo⟩, hts (.static yX11_at) (by decide +kernel), trivial⟩ E hP hS hl.1 rfl rfl (Nat.le_of_ble_eq_true rfl) dX0_take_126) hS (fun H locs hP hS => ?_)
    refine lv_aload_n hx hb dX0_take_129 rfl (lv_at hl 4 rfl) ?_
    refine lv_iconst (v := 3) hx hb dX0_take_130 (by decide) ?_
    obtain ⟨x40, h41, hf⟩ := zb1_e hf
    refine zgo_i (zrunSN (As := [.ref (ad q), .int 3]) (rest := [.int x38, .int x3, .int x1, .ref (ad o)]) S (c_X11_at l hD q 4 hq 3 h41) ⟨va_cnB (host := "EdgeAndSpeed") 2 hts gX0_take_X11_at_n85 rfl rfl rfl (zNmw_1 E.2.2) (hts (.initialized RX11) (by decide +kernel)) ddX11_at ⟨Nat.le_trans (Nat.le_of_ble_eq_true rfl) hfr, Nat.le_trans (Nat.le_of_ble_eq_true rfl) hlo⟩, hts (.static yX11_at) (by decide +kernel), trivial⟩ E hP hS hl.1 rfl rfl (Nat.le_of_ble_eq_true rfl) dX0_take_131) hS (fun H locs hP hS => ?_)
    obtain ⟨x42, I43, h44, hf⟩ := zb2_e hf
    refine zgo_i (zrunV (As := [.int x1, .int x3, .int x38, .int x40]) (rest := []) S (c_X0_takePiece l hD o hB x1 x3 x38 x40 h44) (cwV 4 hts gX0_take_X0_takePiece rfl rfl rfl ddX0_takePiece ⟨Nat.le_trans (Nat.le_of_ble_eq_true rfl) hfr, Nat.le_trans (Nat.le_of_ble_eq_true rfl) hlo⟩) (va_recv E.1 hP (q := (RX0, TX0, 17)) (ci := 0) rfl (zO.get (zBat_o hB))) E hP hS hl.1 rfl rfl (Nat.le_of_ble_eq_true rfl) dX0_take_134) hS (fun H locs hP hS => ?_)
    obtain ⟨g0, hf⟩ := zg_i hf
    exact hret _ _ hf g0 _ _ _ _ hP hS dX0_take_137
  replace hf := zf k19 hf
  rcases Decidable.em (p1 = 113) with k20 | k20
  · replace hf := zt k20 hf
    refine lv_tableIn (off := 162) (tgt := 176) hx hb dX0_take_14 (by rw [k20]; decide) (by rw [k20]; decide) (by rw [k20]; rfl) (by decide) ?_
    refine lv_iconst (v := 0) hx hb dX0_take_176 (by decide) ?_
    exact hret _ _ hf (Or.inl rfl) _ _ _ _ hP hS dX0_take_177
  replace hf := zf k20 hf
  rcases Decidable.em (p1 = 114) with k21 | k21
  · replace hf := zt k21 hf
    refine lv_tableIn (off := 162) (tgt := 176) hx hb dX0_take_14 (by rw [k21]; decide) (by rw [k21]; decide) (by rw [k21]; rfl) (by decide) ?_
    refine lv_iconst (v := 0) hx hb dX0_take_176 (by decide) ?_
    exact hret _ _ hf (Or.inl rfl) _ _ _ _ hP hS dX0_take_177
  replace hf := zf k21 hf
  rcases Decidable.em (p1 = 115) with k22 | k22
  · replace hf := zt k22 hf
    refine lv_tableIn (off := 162) (tgt := 176) hx hb dX0_take_14 (by rw [k22]; decide) (by rw [k22]; decide) (by rw [k22]; rfl) (by decide) ?_
    refine lv_iconst (v := 0) hx hb dX0_take_176 (by decide) ?_
    exact hret _ _ hf (Or.inl rfl) _ _ _ _ hP hS dX0_take_177
  replace hf := zf k22 hf
  rcases Decidable.em (p1 = 116) with k23 | k23
  · replace hf := zt k23 hf
    refine lv_tableIn (off := 154) (tgt := 168) hx hb dX0_take_14 (by rw [k23]; decide) (by rw [k23]; decide) (by rw [k23]; rfl) (by decide) ?_
    refine lv_aload_n hx hb dX0_take_168 rfl (lv_at hl 2 rfl) ?_
    refine lv_iload_n hx hb dX0_take_169 rfl (lv_at hl 1 rfl) ?_
    refine lv_iload hx hb dX0_take_170 (lv_at hl 0 rfl) ?_
    obtain ⟨x45, I46, h47, hf⟩ := zb2_e hf
    refine zgo_i (zrunV (As := [.int x1, .int x3]) (rest := []) S (c_X0_takeSteel l hD o hB x1 x3 h47) (cwV 2 hts gX0_take_X0_takeSteel rfl rfl rfl ddX0_takeSteel ⟨Nat.le_trans (Nat.le_of_ble_eq_true rfl) hfr, Nat.le_trans (Nat.le_of_ble_eq_true rfl) hlo⟩) (va_recv E.1 hP (q := (RX0, TX0, 17)) (ci := 0) rfl (zO.get (zBat_o hB))) E hP hS hl.1 rfl rfl (Nat.le_of_ble_eq_true rfl) dX0_take_172) hS (fun H locs hP hS => ?_)
    obtain ⟨g0, hf⟩ := zg_i hf
    exact hret _ _ hf g0 _ _ _ _ hP hS dX0_take_175
  replace hf := zf k23 hf
  rcases Decidable.em (p1 = 117) with k24 | k24
  · replace hf := zt k24 hf
    refine lv_tableIn (off := 162) (tgt := 176) hx hb dX0_take_14 (by rw [k24]; decide) (by rw [k24]; decide) (by rw [k24]; rfl) (by decide) ?_
    refine lv_iconst (v := 0) hx hb dX0_take_176 (by decide) ?_
    exact hret _ _ hf (Or.inl rfl) _ _ _ _ hP hS dX0_take_177
  replace hf := zf k24 hf
  rcases Decidable.em (p1 = 118) with k25 | k25
  · replace hf := zt k25 hf
    refine lv_tableIn (off := 98) (tgt := 112) hx hb dX0_take_14 (by rw [k25]; decide) (by rw [k25]; decide) (by rw [k25]; rfl) (by decide) ?_
    refine lv_aload_n hx hb dX0_take_112 rfl (lv_at hl 2 rfl) ?_
    refine lv_iload_n hx hb dX0_take_113 rfl (lv_at hl 1 rfl) ?_
    refine lv_iload hx hb dX0_take_114 (lv_at hl 0 rfl) ?_
    obtain ⟨x48, I49, h50, hf⟩ := zb2_e hf
    refine zgo_i (zrunV (As := [.int x1, .int x3]) (rest := []) S (c_X0_takeSpeed l hD o hB x1 x3 h50) (cwV 2 hts gX0_take_X0_takeSpeed rfl rfl rfl ddX0_takeSpeed ⟨Nat.le_trans (Nat.le_of_ble_eq_true rfl) hfr, Nat.le_trans (Nat.le_of_ble_eq_true rfl) hlo⟩) (va_recv E.1 hP (q := (RX0, TX0, 17)) (ci := 0) rfl (zO.get (zBat_o hB))) E hP hS hl.1 rfl rfl (Nat.le_of_ble_eq_true rfl) dX0_take_116) hS (fun H locs hP hS => ?_)
    obtain ⟨g0, hf⟩ := zg_i hf
    exact hret _ _ hf g0 _ _ _ _ hP hS dX0_take_119
  replace hf := zf k25 hf
  refine lv_tableOut (tgt := 176) hx hb dX0_take_14 (zTab (lo := 98) (hi := 118) (fun v h1 h2 h3 => by have h4 : v = 98 ∨ v = 99 ∨ v = 100 ∨ v = 101 ∨ v = 102 ∨ v = 103 ∨ v = 104 ∨ v = 105 ∨ v = 106 ∨ v = 107 ∨ v = 108 ∨ v = 109 ∨ v = 110 ∨ v = 111 ∨ v = 112 ∨ v = 113 ∨ v = 114 ∨ v = 115 ∨ v = 116 ∨ v = 117 ∨ v = 118 := (by omega); rcases h4 with rfl | rfl | rfl | rfl | rfl | rfl | rfl | rfl | rfl | rfl | rfl | rfl | rfl | rfl | rfl | rfl | rfl | rfl | rfl | rfl | rfl <;> first | exact k5 (Int32.toInt_inj.mp h3) | exact k6 (Int32.toInt_inj.mp h3) | exact k7 (Int32.toInt_inj.mp h3) | exact k8 (Int32.toInt_inj.mp h3) | exact k9 (Int32.toInt_inj.mp h3) | exact k10 (Int32.toInt_inj.mp h3) | exact k11 (Int32.toInt_inj.mp h3) | exact k12 (Int32.toInt_inj.mp h3) | exact k13 (Int32.toInt_inj.mp h3) | exact k14 (Int32.toInt_inj.mp h3) | exact k15 (Int32.toInt_inj.mp h3) | exact k16 (Int32.toInt_inj.mp h3) | exact k17 (Int32.toInt_inj.mp h3) | exact k18 (Int32.toInt_inj.mp h3) | exact k19 (Int32.toInt_inj.mp h3) | exact k20 (Int32.toInt_inj.mp h3) | exact k21 (Int32.toInt_inj.mp h3) | exact k22 (Int32.toInt_inj.mp h3) | exact k23 (Int32.toInt_inj.mp h3) | exact k24 (Int32.toInt_inj.mp h3) | exact k25 (Int32.toInt_inj.mp h3))) (by decide) ?_
  refine lv_iconst (v := 0) hx hb dX0_take_176 (by decide) ?_
  exact hret _ _ hf (Or.inl rfl) _ _ _ _ hP hS dX0_take_177
theorem c_X0_take (l : Launch) {D : va_G} {a0 : Nat → Nat} {A : Nat → Prop} {cy : Nat → ClassId} {ad : Nat → Nat} {N : Nat} {K : zK} (hD : zD A N ad) {I : zI} {J : zJ} (o : Nat) (hB : zBat N K cy ad o) (p1 : Int32) (q : Nat) (hq : zIA N K (cy 1) q 4) {rx : Int32} {rI : zI} (hf : f_X0_take I J o p1 q = some (rx, rI)) : Met l yX0_take wsX0_take { frames := 2, cells := 0, slots := 0, locals := 46 } (zPc D a0 A cy [.ref (ad o), .int p1, .ref (ad q)] (zw N K ad I J)) (zQi D A rx (zw N K ad rI J)) 0 0 A :=
  zmet RX0 (by decide) rfl rfl (Nat.le_of_ble_eq_true rfl) (fun p e R s m below meth c Q hfr hlo ls S0 hQ => w_X0_take hfr hlo hD o hB p1 q hq hf S0 (fun tx tI hq n01 H locs ls pc hP hS hd => by cases hq; exact hQ H locs _ hS (fun hx hb hr hlocks hfree => W.zret hx hb hr (z01 n01) (fun t ht hW => ⟨⟨_, (), rfl, rfl, zht ht hP⟩, hS.F ht⟩) hfree hd hlocks)))
theorem ddX0_take : yX0_take.cls = RX0 ∧ yX0_take.cls ≠ "java/lang/invoke/MethodHandle" ∧ yX0_take.cls ≠ "java/lang/invoke/VarHandle" ∧ (parseMethodDescriptor yX0_take.desc).map (fun d => d.parameters.length) = some 2 := by decide +kernel

def f_X0_tenthsOf (I : zI) (J : zJ) (o : Nat) (p1 : Int32) : Option Int32 := zb1 (f_X11_at I J (o + 8) 4 p1) (fun x1 => some x1)
theorem hinX0_tenthsOf_X0 : ∀ w ∈ u_ws RX0 TX0 17, w ∈ wsX0_tenthsOf := by decide +kernel
set_option maxHeartbeats 4000000 in
set_option maxRecDepth 100000 in
theorem w_X0_tenthsOf {p : Program} {l : Launch} {e : Env} {R : Room} {s : State} {m : MethodId} {args : Array Value} {below : List Frame} {meth : Method} {c : Code} {Q : State → Prop} (hfr : 1 ≤ R.frames) (hlo : 21 ≤ R.locals) {D : va_G} {a0 : Nat → Nat} {A : Nat → Prop} {cy : Nat → ClassId} {ad : Nat → Nat} {N : Nat} {K : zK} (hD : zD A N ad) {I : zI} {J : zJ} (o : Nat) (hB : zBat N K cy ad o) (p1 : Int32) {rx : Int32} (hf : f_X0_tenthsOf I J o p1 = some rx) {ls : Array Slot} (S0 : zSt p m c cX0_tenthsOf 2 s args wsX0_tenthsOf RX0 D a0 A cy (zw N K ad I J) [.ref (ad o), .int p1] ls) (hret : ∀ (tx : Int32), some tx = some rx → ∀ (H : Heap) (locs : List Loc) (ls : Array Slot) (pc : Nat), va_P D vwCl (zw N K ad I J) H → va_S A s.heap H locs → decode cX0_tenthsOf pc = .ok (.ireturn, 1) → W p l e R s m args below meth c H locs 0 0 Q (F0 m pc ls [.int tx])) : W p l e R s m args below meth c s.heap [] 0 0 Q (F0 m 0 ls []) := by
  obtain ⟨S, E, hP, hl⟩ := S0
  obtain ⟨hx, hb, hml, hown, hts⟩ := id S
  have hS : va_S A s.heap s.heap [] := va_S.rf
  replace hl : lv_has ls 2 [(0, .ref (ad o)), (1, .int p1)] := hl
  unfold f_X0_tenthsOf at hf
  refine lv_aload_n hx hb dX0_tenthsOf_0 rfl (lv_at hl 0 rfl) ?_
  refine va_get (D := D) (ci := 0) (v := .ref (ad (o + 8))) (C := RX0) (T := TX0) (N := 17) hx hb hts hinX0_tenthsOf_X0 hown E.1 hP o (zO.get (zBat_o hB)) rfl 7 (by decide) (hts (.fieldLink RX0 33 "EdgeAndSpeed$Bench" "tenths" "[I") (by decide +kernel)) (fun _ h9 => h9) rfl dX0_tenthsOf_1 ?_
  refine lv_iload_n hx hb dX0_tenthsOf_4 rfl (lv_at hl 1 rfl) ?_
  obtain ⟨x1, h2, hf⟩ := zb1_e hf
  refine zgo_i (zrunSN (As := [.ref (ad (o + 8)), .int p1]) (rest := []) S (c_X11_at l hD (o + 8) 4 (zBat_7 hB) p1 h2) ⟨va_cnB (host := "EdgeAndSpeed") 2 hts gX0_tenthsOf_X11_at_n85 rfl rfl rfl (zNmw_1 E.2.2) (hts (.initialized RX11) (by decide +kernel)) ddX11_at ⟨Nat.le_trans (Nat.le_of_ble_eq_true rfl) hfr, Nat.le_trans (Nat.le_of_ble_eq_true rfl) hlo⟩, hts (.static yX11_at) (by decide +kernel), trivial⟩ E hP hS hl.1 rfl rfl (Nat.le_of_ble_eq_true rfl) dX0_tenthsOf_5) hS (fun H locs hP hS => ?_)
  exact hret _ hf _ _ _ _ hP hS dX0_tenthsOf_8
theorem c_X0_tenthsOf (l : Launch) {D : va_G} {a0 : Nat → Nat} {A : Nat → Prop} {cy : Nat → ClassId} {ad : Nat → Nat} {N : Nat} {K : zK} (hD : zD A N ad) {I : zI} {J : zJ} (o : Nat) (hB : zBat N K cy ad o) (p1 : Int32) {rx : Int32} (hf : f_X0_tenthsOf I J o p1 = some rx) : Met l yX0_tenthsOf wsX0_tenthsOf { frames := 1, cells := 0, slots := 0, locals := 21 } (zPc D a0 A cy [.ref (ad o), .int p1] (zw N K ad I J)) (zQi D A rx (zw N K ad I J)) 0 0 A :=
  zmet RX0 (by decide) rfl rfl (Nat.le_of_ble_eq_true rfl) (fun p e R s m below meth c Q hfr hlo ls S0 hQ => w_X0_tenthsOf hfr hlo hD o hB p1 hf S0 (fun tx hq H locs ls pc hP hS hd => by cases hq; exact hQ H locs _ hS (fun hx hb hr hlocks hfree => W.iret hx hb hr (fun t ht hW => ⟨⟨_, (), rfl, rfl, zht ht hP⟩, hS.F ht⟩) hfree hd hlocks)))
theorem ddX0_tenthsOf : yX0_tenthsOf.cls = RX0 ∧ yX0_tenthsOf.cls ≠ "java/lang/invoke/MethodHandle" ∧ yX0_tenthsOf.cls ≠ "java/lang/invoke/VarHandle" ∧ (parseMethodDescriptor yX0_tenthsOf.desc).map (fun d => d.parameters.length) = some 1 := by decide +kernel

def f_X0_finish_L66 (I22 : zI) (o : Nat) (J : zJ) (x24 : Int32) (x25 : Int32) : Option ((Int32 × Int32) ⊕ Int32) := (if (I22 o 11) ≤ x25 then some (.inr x24) else zb1 (f_X0_tenthsOf I22 J o x25) (fun x27 => zn ((x24 + x27)) (fun y29 => zn (x25 + 1) (fun y30 => some (.inl (y29, y30))))))
def f_X0_finish_L20 (o : Nat) (x9 : Int32) (x10 : Int32) (I11 : zI) : Option ((Int32 × Int32 × zI) ⊕ zI) := (if 101 ≤ x10 then some (.inr I11) else zg (¬ (x10 < 0 ∨ 101 ≤ x10.toNatClampNeg)) (zb1 ((if 0 ≤ (I11 (o + 9) x10.toNatClampNeg) then zg (¬ (x10 < 0 ∨ 101 ≤ x10.toNatClampNeg)) (some ((I11 (o + 9) x10.toNatClampNeg))) else some (x9)) : Option Int32) (fun x18 => zg (¬ (x10 < 0 ∨ 101 ≤ x10.toNatClampNeg)) (zn (va_up I11 (o + 9) (upd (I11 (o + 9)) x10.toNatClampNeg x18)) (fun I19 => zn (x10 + 1) (fun y21 => some (.inl (x18, y21, I19))))))))
def f_X0_finish (I : zI) (J : zJ) (o : Nat) : Option (Int32 × zI) := zb1 ((if (I o 11) = 0 then zb2 (f_X0_takeSteel I J o 100 10) (fun x4 I5 => some (I5)) else some (I)) : Option zI) (fun I7 => zb1 (zl (fun v : (Int32 × Int32 × zI) => f_X0_finish_L20 o v.1 v.2.1 v.2.2) zF (0, 0, I7)) (fun I22 => zb1 (zl (fun v : (Int32 × Int32) => f_X0_finish_L66 I22 o J v.1 v.2) zF (0, 0)) (fun x31 => (if x31 = 10 then some (1, I22) else some (0, I22)))))
theorem hinX0_finish_X0 : ∀ w ∈ u_ws RX0 TX0 17, w ∈ wsX0_finish := by decide +kernel
set_option maxHeartbeats 4000000 in
set_option maxRecDepth 100000 in
theorem w_X0_finish {p : Program} {l : Launch} {e : Env} {R : Room} {s : State} {m : MethodId} {args : Array Value} {below : List Frame} {meth : Method} {c : Code} {Q : State → Prop} (hfr : 2 ≤ R.frames) (hlo : 44 ≤ R.locals) {D : va_G} {a0 : Nat → Nat} {A : Nat → Prop} {cy : Nat → ClassId} {ad : Nat → Nat} {N : Nat} {K : zK} (hD : zD A N ad) {I : zI} {J : zJ} (o : Nat) (hB : zBat N K cy ad o) {rx : Int32} {rI : zI} (hf : f_X0_finish I J o = some (rx, rI)) {ls : Array Slot} (S0 : zSt p m c cX0_finish 4 s args wsX0_finish RX0 D a0 A cy (zw N K ad I J) [.ref (ad o)] ls) (hret : ∀ (tx : Int32) (tI : zI), some (tx, tI) = some (rx, rI) → (tx = 0 ∨ tx = 1) → ∀ (H : Heap) (locs : List Loc) (ls : Array Slot) (pc : Nat), va_P D vwCl (zw N K ad tI J) H → va_S A s.heap H locs → decode cX0_finish pc = .ok (.ireturn, 1) → W p l e R s m args below meth c H locs 0 0 Q (F0 m pc ls [.int tx])) : W p l e R s m args below meth c s.heap [] 0 0 Q (F0 m 0 ls []) := by
  obtain ⟨S, E, hP, hl⟩ := S0
  obtain ⟨hx, hb, hml, hown, hts⟩ := id S
  have hS : va_S A s.heap s.heap [] := va_S.rf
  replace hl : lv_has ls 4 [(0, .ref (ad o))] := hl
  unfold f_X0_finish at hf
  refine lv_aload_n hx hb dX0_finish_0 rfl (lv_at hl 0 rfl) ?_
  refine va_get (D := D) (ci := 0) (v := .int (I o 11)) (C := RX0) (T := TX0) (N := 17) hx hb hts hinX0_finish_X0 hown E.1 hP o (zO.get (zBat_o hB)) rfl 11 (by decide) (hts (.fieldLink RX0 61 "EdgeAndSpeed$Bench" "steels" "I") (by decide +kernel)) (fun _ h9 => h9) rfl dX0_finish_1 ?_
  obtain ⟨zr3, hf, hzr3⟩ := zb1_i hf
  have hjr3 : ∀ (I7 : zI), I7 = zr3 → ∀ (H : Heap) (locs : List Loc) (ls : Array Slot), va_P D vwCl (zw N K ad I7 J) H → va_S A s.heap H locs → lv_has ls 4 [(0, .ref (ad o))] → W p l e R s m args below meth c H locs 0 0 Q (F0 m 16 ls []) := by
    intro I7 ez H locs ls hP hS hl
    have hf := hzr3 I7 ez
    refine lv_iconst (v := 0) hx hb dX0_finish_16 (by decide) ?_
    refine lv_istore_n (lv' := [(1, .int 0), (0, .ref (ad o))]) hx hb dX0_finish_17 rfl hl (by decide) rfl (fun ls hl => ?_)
    refine lv_iconst (v := 0) hx hb dX0_finish_18 (by decide) ?_
    refine lv_istore_n (lv' := [(2, .int 0), (1, .int 0), (0, .ref (ad o))]) hx hb dX0_finish_19 rfl hl (by decide) rfl (fun ls hl => ?_)
    obtain ⟨zl8, hf, hzl8⟩ := zb1_i hf
    have hjl8 : ∀ (I22 : zI), I22 = zl8 → ∀ (H : Heap) (locs : List Loc) (ls : Array Slot), va_P D vwCl (zw N K ad I22 J) H → va_S A s.heap H locs → lv_has ls 4 [(0, .ref (ad o))] → W p l e R s m args below meth c H locs 0 0 Q (F0 m 62 ls []) := by
      intro I22 ez H locs ls hP hS hl
      have hf := hzl8 I22 ez
      refine lv_iconst (v := 0) hx hb dX0_finish_62 (by decide) ?_
      refine lv_istore_n (lv' := [(2, .int 0), (0, .ref (ad o))]) hx hb dX0_finish_63 rfl hl (by decide) rfl (fun ls hl => ?_)
      refine lv_iconst (v := 0) hx hb dX0_finish_64 (by decide) ?_
      refine lv_istore_n (lv' := [(3, .int 0), (2, .int 0), (0, .ref (ad o))]) hx hb dX0_finish_65 rfl hl (by decide) rfl (fun ls hl => ?_)
      obtain ⟨zl23, hf, hzl23⟩ := zb1_i hf
      have hjl23 : ∀ (x31 : Int32), x31 = zl23 → ∀ (H : Heap) (locs : List Loc) (ls : Array Slot), va_P D vwCl (zw N K ad I22 J) H → va_S A s.heap H locs → lv_has ls 4 [(2, .int x31)] → W p l e R s m args below meth c H locs 0 0 Q (F0 m 88 ls []) := by
        intro x31 ez H locs ls hP hS hl
        have hf := hzl23 x31 ez
        refine lv_iload_n hx hb dX0_finish_88 rfl (lv_at hl 0 rfl) ?_
        refine lv_bipush (v := 10) hx hb dX0_finish_89 (by decide) ?_
        refine lv_icmp_ne (tgt := 98) hx hb dX0_finish_91 (by decide) (fun k32 => ?_) (fun k32 => ?_)
        · replace hf := zf k32 hf
          refine lv_iconst (v := 0) hx hb dX0_finish_98 (by decide) ?_
          exact hret _ _ hf (Or.inl rfl) _ _ _ _ hP hS dX0_finish_99
        · replace hf := zt k32 hf
          refine lv_iconst (v := 1) hx hb dX0_finish_94 (by decide) ?_
          refine lv_goto (tgt := 99) hx hb dX0_finish_95 (by decide) ?_
          exact hret _ _ hf (Or.inr rfl) _ _ _ _ hP hS dX0_finish_99
      refine zl_i (V := (Int32 × Int32)) (P := fun v => ∀ (H : Heap) (locs : List Loc) (ls : Array Slot), va_P D vwCl (zw N K ad I22 J) H → va_S A s.heap H locs → lv_has ls 4 [(0, .ref (ad o)), (2, .int (v.1)), (3, .int (v.2))] → W p l e R s m args below meth c H locs 0 0 Q (F0 m 66 ls [])) ?_ _ _ hf _ _ _ hP hS (lv_sub hl [2, 1, 0] rfl)
      intro v z hf hcl23 hdl23
      obtain ⟨x24, x25⟩ := v
      intro H locs ls hP hS hl
      replace hf : f_X0_finish_L66 I22 o J x24 x25 = some z := hf
      unfold f_X0_finish_L66 at hf
      replace hP : va_P D vwCl (zw N K ad I22 J) H := hP
      replace hl : lv_has ls 4 [(0, .ref (ad o)), (2, .int x24), (3, .int x25)] := hl
      refine lv_iload_n hx hb dX0_finish_66 rfl (lv_at hl 2 rfl) ?_
      refine lv_aload_n hx hb dX0_finish_67 rfl (lv_at hl 0 rfl) ?_
      refine va_get (D := D) (ci := 0) (v := .int (I22 o 11)) (C := RX0) (T := TX0) (N := 17) hx hb hts hinX0_finish_X0 hown E.1 hP o (zO.get (zBat_o hB)) rfl 11 (by decide) (hts (.fieldLink RX0 61 "EdgeAndSpeed$Bench" "steels" "I") (by decide +kernel)) (fun _ h9 => h9) rfl dX0_finish_68 ?_
      refine lv_icmp_ge (tgt := 88) hx hb dX0_finish_71 (by decide) (fun k26 => ?_) (fun k26 => ?_)
      · replace hf := zt k26 hf
        exact hjl23 _ (hdl23 _ (Option.some.inj hf).symm) _ _ _ hP hS (lv_sub hl [1] rfl)
      · replace hf := zf k26 hf
        refine lv_iload_n hx hb dX0_finish_74 rfl (lv_at hl 1 rfl) ?_
        refine lv_aload_n hx hb dX0_finish_75 rfl (lv_at hl 0 rfl) ?_
        refine lv_iload_n hx hb dX0_finish_76 rfl (lv_at hl 2 rfl) ?_
        obtain ⟨x27, h28, hf⟩ := zb1_e hf
        refine zgo_i (zrunV (As := [.int x25]) (rest := [.int x24]) S (c_X0_tenthsOf l hD o hB x25 h28) (cwV 1 hts gX0_finish_X0_tenthsOf rfl rfl rfl ddX0_tenthsOf ⟨Nat.le_trans (Nat.le_of_ble_eq_true rfl) hfr, Nat.le_trans (Nat.le_of_ble_eq_true rfl) hlo⟩) (va_recv E.1 hP (q := (RX0, TX0, 17)) (ci := 0) rfl (zO.get (zBat_o hB))) E hP hS hl.1 rfl rfl (Nat.le_of_ble_eq_true rfl) dX0_finish_77) hS (fun H locs hP hS => ?_)
        refine lv_iadd hx hb dX0_finish_80 ?_
        refine lv_topi (fun y29 ey29 => ?_)
        replace hf := zn_s ey29 hf
        refine lv_istore_n (lv' := [(2, .int y29), (0, .ref (ad o)), (3, .int x25)]) hx hb dX0_finish_81 rfl hl (by decide) rfl (fun ls hl => ?_)
        obtain ⟨y30, ey30⟩ := zex (x25 + 1)
        replace hf := zn_s ey30 hf
        refine lv_iinc (v := y30) (lv' := [(3, .int y30), (2, .int y29), (0, .ref (ad o))]) hx hb dX0_finish_82 hl (k := 2) rfl (by rw [ey30]; rfl) (by decide) rfl (fun ls hl => ?_)
        refine lv_goto (tgt := 66) hx hb dX0_finish_85 (by decide) ?_
        exact hcl23 _ (Option.some.inj hf).symm _ _ _ hP hS (lv_sub hl [2, 1, 0] rfl)
    refine zl_i (V := (Int32 × Int32 × zI)) (P := fun v => ∀ (H : Heap) (locs : List Loc) (ls : Array Slot), va_P D vwCl (zw N K ad v.2.2 J) H → va_S A s.heap H locs → lv_has ls 4 [(0, .ref (ad o)), (1, .int (v.1)), (2, .int (v.2.1))] → W p l e R s m args below meth c H locs 0 0 Q (F0 m 20 ls [])) ?_ _ _ hf _ _ _ hP hS (lv_sub hl [2, 1, 0] rfl)
    intro v z hf hcl8 hdl8
    obtain ⟨x9, x10, I11⟩ := v
    intro H locs ls hP hS hl
    replace hf : f_X0_finish_L20 o x9 x10 I11 = some z := hf
    unfold f_X0_finish_L20 at hf
    replace hP : va_P D vwCl (zw N K ad I11 J) H := hP
    replace hl : lv_has ls 4 [(0, .ref (ad o)), (1, .int x9), (2, .int x10)] := hl
    refine lv_iload_n hx hb dX0_finish_20 rfl (lv_at hl 2 rfl) ?_
    refine lv_aload_n hx hb dX0_finish_21 rfl (lv_at hl 0 rfl) ?_
    refine va_get (D := D) (ci := 0) (v := .ref (ad (o + 9))) (C := RX0) (T := TX0) (N := 17) hx hb hts hinX0_finish_X0 hown E.1 hP o (zO.get (zBat_o hB)) rfl 8 (by decide) (hts (.fieldLink RX0 36 "EdgeAndSpeed$Bench" "breaking" "[I") (by decide +kernel)) (fun _ h9 => h9) rfl dX0_finish_22 ?_
    refine va_alen (v := 101) (ty := .int) hx hb E.1 hP (o + 9) 1 (zIA.get (zBat_8 hB)) rfl rfl dX0_finish_25 ?_
    refine lv_icmp_ge (tgt := 62) hx hb dX0_finish_26 (by decide) (fun k12 => ?_) (fun k12 => ?_)
    · replace hf := zt k12 hf
      exact hjl8 _ (hdl8 _ (Option.some.inj hf).symm) _ _ _ hP hS (lv_sub hl [0] rfl)
    · replace hf := zf k12 hf
      refine lv_aload_n hx hb dX0_finish_29 rfl (lv_at hl 0 rfl) ?_
      refine va_get (D := D) (ci := 0) (v := .ref (ad (o + 9))) (C := RX0) (T := TX0) (N := 17) hx hb hts hinX0_finish_X0 hown E.1 hP o (zO.get (zBat_o hB)) rfl 8 (by decide) (hts (.fieldLink RX0 36 "EdgeAndSpeed$Bench" "breaking" "[I") (by decide +kernel)) (fun _ h9 => h9) rfl dX0_finish_30 ?_
      refine lv_iload_n hx hb dX0_finish_33 rfl (lv_at hl 2 rfl) ?_
      obtain ⟨g13, hf⟩ := zg_i hf
      refine va_iald hx hb E.1 hP (o + 9) 1 (zIA.get (zBat_8 hB)) rfl g13 dX0_finish_34 ?_
      obtain ⟨zr16, hf, hzr16⟩ := zb1_i hf
      have hjr16 : ∀ (x18 : Int32), x18 = zr16 → ∀ (H : Heap) (locs : List Loc) (ls : Array Slot), va_P D vwCl (zw N K ad I11 J) H → va_S A s.heap H locs → lv_has ls 4 [(0, .ref (ad o)), (2, .int x10)] → W p l e R s m args below meth c H locs 0 0 Q (F0 m 48 ls [.int x18]) := by
        intro x18 ez H locs ls hP hS hl
        have hf := hzr16 x18 ez
        refine lv_istore_n (lv' := [(1, .int x18), (0, .ref (ad o)), (2, .int x10)]) hx hb dX0_finish_48 rfl hl (by decide) rfl (fun ls hl => ?_)
        refine lv_aload_n hx hb dX0_finish_49 rfl (lv_at hl 1 rfl) ?_
        refine va_get (D := D) (ci := 0) (v := .ref (ad (o + 9))) (C := RX0) (T := TX0) (N := 17) hx hb hts hinX0_finish_X0 hown E.1 hP o (zO.get (zBat_o hB)) rfl 8 (by decide) (hts (.fieldLink RX0 36 "EdgeAndSpeed$Bench" "breaking" "[I") (by decide +kernel)) (fun _ h9 => h9) rfl dX0_finish_50 ?_
        refine lv_iload_n hx hb dX0_finish_53 rfl (lv_at hl 2 rfl) ?_
        refine lv_iload_n hx hb dX0_finish_54 rfl (lv_at hl 0 rfl) ?_
        obtain ⟨g20, hf⟩ := zg_i hf
        obtain ⟨I19, eI19⟩ := zex (va_up I11 (o + 9) (upd (I11 (o + 9)) x10.toNatClampNeg x18))
        replace hf := zn_s eI19 hf
        refine zast_i hx hb E.1 hP hD.D hS (zBat_8 hB) g20 dX0_finish_55 eI19 (fun H locs hP hS => ?_)
        obtain ⟨y21, ey21⟩ := zex (x10 + 1)
        replace hf := zn_s ey21 hf
        refine lv_iinc (v := y21) (lv' := [(2, .int y21), (1, .int x18), (0, .ref (ad o))]) hx hb dX0_finish_56 hl (k := 2) rfl (by rw [ey21]; rfl) (by decide) rfl (fun ls hl => ?_)
        refine lv_goto (tgt := 20) hx hb dX0_finish_59 (by decide) ?_
        exact hcl8 _ (Option.some.inj hf).symm _ _ _ hP hS (lv_sub hl [2, 1, 0] rfl)
      refine lv_if_ge (tgt := 42) hx hb dX0_finish_35 (by decide) (fun k14 => ?_) (fun k14 => ?_)
      · replace hf := zt k14 hf
        refine lv_aload_n hx hb dX0_finish_42 rfl (lv_at hl 0 rfl) ?_
        refine va_get (D := D) (ci := 0) (v := .ref (ad (o + 9))) (C := RX0) (T := TX0) (N := 17) hx hb hts hinX0_finish_X0 hown E.1 hP o (zO.get (zBat_o hB)) rfl 8 (by decide) (hts (.fieldLink RX0 36 "EdgeAndSpeed$Bench" "breaking" "[I") (by decide +kernel)) (fun _ h9 => h9) rfl dX0_finish_43 ?_
        refine lv_iload_n hx hb dX0_finish_46 rfl (lv_at hl 2 rfl) ?_
        obtain ⟨g17, hf⟩ := zg_i hf
        refine va_iald hx hb E.1 hP (o + 9) 1 (zIA.get (zBat_8 hB)) rfl g17 dX0_finish_47 ?_
        exact hjr16 _ (Option.some.inj hf) _ _ _ hP hS (lv_sub hl [0, 2] rfl)
      · replace hf := zf k14 hf
        refine lv_iload_n hx hb dX0_finish_38 rfl (lv_at hl 1 rfl) ?_
        refine lv_goto (tgt := 48) hx hb dX0_finish_39 (by decide) ?_
        exact hjr16 _ (Option.some.inj hf) _ _ _ hP hS (lv_sub hl [0, 2] rfl)
  refine lv_if_ne (tgt := 16) hx hb dX0_finish_4 (by decide) (fun k1 => ?_) (fun k1 => ?_)
  · replace hf := zf k1 hf
    exact hjr3 _ (Option.some.inj hf) _ _ _ hP hS (lv_sub hl [0] rfl)
  · replace hf := zt k1 hf
    refine lv_aload_n hx hb dX0_finish_7 rfl (lv_at hl 0 rfl) ?_
    refine lv_bipush (v := 100) hx hb dX0_finish_8 (by decide) ?_
    refine lv_bipush (v := 10) hx hb dX0_finish_10 (by decide) ?_
    obtain ⟨x4, I5, h6, hf⟩ := zb2_e hf
    refine zgo_i (zrunV (As := [.int 100, .int 10]) (rest := []) S (c_X0_takeSteel l hD o hB 100 10 h6) (cwV 2 hts gX0_finish_X0_takeSteel rfl rfl rfl ddX0_takeSteel ⟨Nat.le_trans (Nat.le_of_ble_eq_true rfl) hfr, Nat.le_trans (Nat.le_of_ble_eq_true rfl) hlo⟩) (va_recv E.1 hP (q := (RX0, TX0, 17)) (ci := 0) rfl (zO.get (zBat_o hB))) E hP hS hl.1 rfl rfl (Nat.le_of_ble_eq_true rfl) dX0_finish_12) hS (fun H locs hP hS => ?_)
    refine lv_pop hx hb dX0_finish_15 rfl ?_
    exact hjr3 _ (Option.some.inj hf) _ _ _ hP hS (lv_sub hl [0] rfl)
theorem c_X0_finish (l : Launch) {D : va_G} {a0 : Nat → Nat} {A : Nat → Prop} {cy : Nat → ClassId} {ad : Nat → Nat} {N : Nat} {K : zK} (hD : zD A N ad) {I : zI} {J : zJ} (o : Nat) (hB : zBat N K cy ad o) {rx : Int32} {rI : zI} (hf : f_X0_finish I J o = some (rx, rI)) : Met l yX0_finish wsX0_finish { frames := 2, cells := 0, slots := 0, locals := 44 } (zPc D a0 A cy [.ref (ad o)] (zw N K ad I J)) (zQi D A rx (zw N K ad rI J)) 0 0 A :=
  zmet RX0 (by decide) rfl rfl (Nat.le_of_ble_eq_true rfl) (fun p e R s m below meth c Q hfr hlo ls S0 hQ => w_X0_finish hfr hlo hD o hB hf S0 (fun tx tI hq n01 H locs ls pc hP hS hd => by cases hq; exact hQ H locs _ hS (fun hx hb hr hlocks hfree => W.zret hx hb hr (z01 n01) (fun t ht hW => ⟨⟨_, (), rfl, rfl, zht ht hP⟩, hS.F ht⟩) hfree hd hlocks)))
theorem ddX0_finish : yX0_finish.cls = RX0 ∧ yX0_finish.cls ≠ "java/lang/invoke/MethodHandle" ∧ yX0_finish.cls ≠ "java/lang/invoke/VarHandle" ∧ (parseMethodDescriptor yX0_finish.desc).map (fun d => d.parameters.length) = some 0 := by decide +kernel

def f_X8_readInto_L11 (J : zJ) (p1 : Nat) (x5 : Int32) (I6 : zI) : Option ((Int32 × zI) ⊕ (zI ⊕ (Int32 × zI))) := (if 500 ≤ x5 then some (.inr (.inl I6)) else (if (I6 1 2) ≤ (I6 1 3) then some (.inr (.inl I6)) else zn ((I6 1 3)) (fun y9 => zb1 (f_X8_byteAt I6 J (I6 1 3)) (fun x10 => zb1 (f_X8_numbersOf I6 J x10) (fun x12 => zb2 (f_X8_readNumbers I6 J x12) (fun x14 I15 => (if x14 = 0 then some (.inr (.inr (y9, I15))) else zb2 (f_X0_take I15 J p1 x10 3) (fun x18 I19 => (if x18 = 0 then some (.inr (.inr (y9, I19))) else zn (x5 + 1) (fun y22 => some (.inl (y22, I19))))))))))))
def f_X8_readInto (I : zI) (J : zJ) (p1 : Nat) : Option (Int32 × zI) := zb1 (f_X0_clear I J p1) (fun I1 => zn (va_up I1 1 (va_up (I1 1) 3 0)) (fun I3 => zc1 (zl (fun v : (Int32 × zI) => f_X8_readInto_L11 J p1 v.1 v.2) zF (0, I3)) (fun I23 => zb2 (f_X0_finish I23 J p1) (fun x24 I25 => (if x24 = 0 then some ((I25 1 2), I25) else some ((-4), I25))))))
theorem hinX8_readInto_X8 : ∀ w ∈ u_ws RX8 TX8 4, w ∈ wsX8_readInto := by decide +kernel
set_option maxHeartbeats 4000000 in
set_option maxRecDepth 100000 in
theorem w_X8_readInto {p : Program} {l : Launch} {e : Env} {R : Room} {s : State} {m : MethodId} {args : Array Value} {below : List Frame} {meth : Method} {c : Code} {Q : State → Prop} (hfr : 3 ≤ R.frames) (hlo : 70 ≤ R.locals) {D : va_G} {a0 : Nat → Nat} {A : Nat → Prop} {cy : Nat → ClassId} {ad : Nat → Nat} (hD : zD A 74 ad) {I : zI} {J : zJ} (p1 : Nat) (hp1 : zBn p1) {rx : Int32} {rI : zI} (hf : f_X8_readInto I J p1 = some (rx, rI)) {ls : Array Slot} (S0 : zSt p m c cX8_readInto 5 s args wsX8_readInto RX8 D a0 A cy (zw 74 (kC cy ad a0) ad I J) [.ref (ad 1), .ref (ad p1)] ls) (hret : ∀ (tx : Int32) (tI : zI), some (tx, tI) = some (rx, rI) → ∀ (H : Heap) (locs : List Loc) (ls : Array Slot) (pc : Nat), va_P D vwCl (zw 74 (kC cy ad a0) ad tI J) H → va_S A s.heap H locs → decode cX8_readInto pc = .ok (.ireturn, 1) → W p l e R s m args below meth c H locs 0 0 Q (F0 m pc ls [.int tx])) : W p l e R s m args below meth c s.heap [] 0 0 Q (F0 m 0 ls []) := by
  obtain ⟨S, E, hP, hl⟩ := S0
  obtain ⟨hx, hb, hml, hown, hts⟩ := id S
  have hS : va_S A s.heap s.heap [] := va_S.rf
  replace hl : lv_has ls 5 [(0, .ref (ad 1)), (1, .ref (ad p1))] := hl
  unfold f_X8_readInto at hf
  refine lv_aload_n hx hb dX8_readInto_0 rfl (lv_at hl 1 rfl) ?_
  obtain ⟨I1, h2, hf⟩ := zb1_e hf
  refine zgo_v (zrunV (As := []) (rest := []) S (c_X0_clear l hD p1 (zBat_C hp1) h2) (cwV 0 hts gX8_readInto_X0_clear rfl rfl rfl ddX0_clear ⟨Nat.le_trans (Nat.le_of_ble_eq_true rfl) hfr, Nat.le_trans (Nat.le_of_ble_eq_true rfl) hlo⟩) (va_recv E.1 hP (q := (RX0, TX0, 17)) (ci := 0) rfl (zO.get (zBat_o (zBat_C hp1)))) E hP hS hl.1 rfl rfl (Nat.le_of_ble_eq_true rfl) dX8_readInto_1) hS (fun H locs hP hS => ?_)
  refine lv_aload_n hx hb dX8_readInto_4 rfl (lv_at hl 0 rfl) ?_
  refine lv_iconst (v := 0) hx hb dX8_readInto_5 (by decide) ?_
  obtain ⟨I3, eI3⟩ := zex (va_up I1 1 (va_up (I1 1) 3 0))
  replace hf := zn_s eI3 hf
  refine zput (D := D) (ci := 7) (v := .int 0) (ty := .int) (C := RX8) (T := TX8) (N := 4) hx hb hts hinX8_readInto_X8 tyX8 tyX8_ok nmX8 hown E.1 hP hD.D hS 1 (zO.get (oX8_at)) rfl 3 (by decide) (hts (.fieldLink RX8 28 "EdgeAndSpeed$Text" "place" "I") (by decide +kernel)) (fun _ h9 => h9) rfl (tyX8_ok 3 (by decide)) rfl rfl (Nat.le_of_ble_eq_true rfl) dX8_readInto_6 (zO.setI (oX8_at) rfl eI3) (fun H locs hP hS => ?_)
  refine lv_iconst (v := 0) hx hb dX8_readInto_9 (by decide) ?_
  refine lv_istore_n (lv' := [(2, .int 0), (0, .ref (ad 1)), (1, .ref (ad p1))]) hx hb dX8_readInto_10 rfl hl (by decide) rfl (fun ls hl => ?_)
  obtain ⟨zl4, hf, hzl4, hel4⟩ := zc1_i hf
  have hjl4 : ∀ (I23 : zI), (Sum.inl I23) = zl4 → ∀ (H : Heap) (locs : List Loc) (ls : Array Slot), va_P D vwCl (zw 74 (kC cy ad a0) ad I23 J) H → va_S A s.heap H locs → lv_has ls 5 [(0, .ref (ad 1)), (1, .ref (ad p1))] → W p l e R s m args below meth c H locs 0 0 Q (F0 m 77 ls []) := by
    intro I23 ez H locs ls hP hS hl
    have hf := hzl4 I23 ez
    refine lv_aload_n hx hb dX8_readInto_77 rfl (lv_at hl 1 rfl) ?_
    obtain ⟨x24, I25, h26, hf⟩ := zb2_e hf
    refine zgo_i (zrunV (As := []) (rest := []) S (c_X0_finish l hD p1 (zBat_C hp1) h26) (cwV 0 hts gX8_readInto_X0_finish rfl rfl rfl ddX0_finish ⟨Nat.le_trans (Nat.le_of_ble_eq_true rfl) hfr, Nat.le_trans (Nat.le_of_ble_eq_true rfl) hlo⟩) (va_recv E.1 hP (q := (RX0, TX0, 17)) (ci := 0) rfl (zO.get (zBat_o (zBat_C hp1)))) E hP hS hl.1 rfl rfl (Nat.le_of_ble_eq_true rfl) dX8_readInto_78) hS (fun H locs hP hS => ?_)
    refine lv_if_eq (tgt := 89) hx hb dX8_readInto_81 (by decide) (fun k27 => ?_) (fun k27 => ?_)
    · replace hf := zt k27 hf
      refine lv_aload_n hx hb dX8_readInto_89 rfl (lv_at hl 0 rfl) ?_
      refine va_get (D := D) (ci := 7) (v := .int (I25 1 2)) (C := RX8) (T := TX8) (N := 4) hx hb hts hinX8_readInto_X8 hown E.1 hP 1 (zO.get (oX8_at)) rfl 2 (by decide) (hts (.fieldLink RX8 19 "EdgeAndSpeed$Text" "length" "I") (by decide +kernel)) (fun _ h9 => h9) rfl dX8_readInto_90 ?_
      exact hret _ _ hf _ _ _ _ hP hS dX8_readInto_93
    · replace hf := zf k27 hf
      refine lv_bipush (v := (-4)) hx hb dX8_readInto_84 (by decide) ?_
      refine lv_goto (tgt := 93) hx hb dX8_readInto_86 (by decide) ?_
      exact hret _ _ hf _ _ _ _ hP hS dX8_readInto_93
  refine zl_i (V := (Int32 × zI)) (P := fun v => ∀ (H : Heap) (locs : List Loc) (ls : Array Slot), va_P D vwCl (zw 74 (kC cy ad a0) ad v.2 J) H → va_S A s.heap H locs → lv_has ls 5 [(0, .ref (ad 1)), (1, .ref (ad p1)), (2, .int (v.1))] → W p l e R s m args below meth c H locs 0 0 Q (F0 m 11 ls [])) ?_ _ _ hf _ _ _ hP hS (lv_sub hl [1, 2, 0] rfl)
  intro v z hf hcl4 hdl4
  obtain ⟨x5, I6⟩ := v
  intro H locs ls hP hS hl
  replace hf : f_X8_readInto_L11 J p1 x5 I6 = some z := hf
  unfold f_X8_readInto_L11 at hf
  replace hP : va_P D vwCl (zw 74 (kC cy ad a0) ad I6 J) H := hP
  replace hl : lv_has ls 5 [(0, .ref (ad 1)), (1, .ref (ad p1)), (2, .int x5)] := hl
  refine lv_iload_n hx hb dX8_readInto_11 rfl (lv_at hl 2 rfl) ?_
  refine lv_sipush (v := 500) hx hb dX8_readInto_12 (by decide) ?_
  refine lv_icmp_ge (tgt := 77) hx hb dX8_readInto_15 (by decide) (fun k7 => ?_) (fun k7 => ?_)
  · replace hf := zt k7 hf
    exact hjl4 _ (hdl4 _ (Option.some.inj hf).symm) _ _ _ hP hS (lv_sub hl [0, 1] rfl)
  · replace hf := zf k7 hf
    refine lv_aload_n hx hb dX8_readInto_18 rfl (lv_at hl 0 rfl) ?_
    refine va_get (D := D) (ci := 7) (v := .int (I6 1 3)) (C := RX8) (T := TX8) (N := 4) hx hb hts hinX8_readInto_X8 hown E.1 hP 1 (zO.get (oX8_at)) rfl 3 (by decide) (hts (.fieldLink RX8 28 "EdgeAndSpeed$Text" "place" "I") (by decide +kernel)) (fun _ h9 => h9) rfl dX8_readInto_19 ?_
    refine lv_aload_n hx hb dX8_readInto_22 rfl (lv_at hl 0 rfl) ?_
    refine va_get (D := D) (ci := 7) (v := .int (I6 1 2)) (C := RX8) (T := TX8) (N := 4) hx hb hts hinX8_readInto_X8 hown E.1 hP 1 (zO.get (oX8_at)) rfl 2 (by decide) (hts (.fieldLink RX8 19 "EdgeAndSpeed$Text" "length" "I") (by decide +kernel)) (fun _ h9 => h9) rfl dX8_readInto_23 ?_
    refine lv_icmp_ge (tgt := 77) hx hb dX8_readInto_26 (by decide) (fun k8 => ?_) (fun k8 => ?_)
    · replace hf := zt k8 hf
      exact hjl4 _ (hdl4 _ (Option.some.inj hf).symm) _ _ _ hP hS (lv_sub hl [0, 1] rfl)
    · replace hf := zf k8 hf
      refine lv_aload_n hx hb dX8_readInto_29 rfl (lv_at hl 0 rfl) ?_
      refine va_get (D := D) (ci := 7) (v := .int (I6 1 3)) (C := RX8) (T := TX8) (N := 4) hx hb hts hinX8_readInto_X8 hown E.1 hP 1 (zO.get (oX8_at)) rfl 3 (by decide) (hts (.fieldLink RX8 28 "EdgeAndSpeed$Text" "place" "I") (by decide +kernel)) (fun _ h9 => h9) rfl dX8_readInto_30 ?_
      refine lv_topi (fun y9 ey9 => ?_)
      replace hf := zn_s ey9 hf
      refine lv_istore_n (lv' := [(3, .int y9), (0, .ref (ad 1)), (1, .ref (ad p1)), (2, .int x5)]) hx hb dX8_readInto_33 rfl hl (by decide) rfl (fun ls hl => ?_)
      refine lv_aload_n hx hb dX8_readInto_34 rfl (lv_at hl 1 rfl) ?_
      refine lv_aload_n hx hb dX8_readInto_35 rfl (lv_at hl 1 rfl) ?_
      refine va_get (D := D) (ci := 7) (v := .int (I6 1 3)) (C := RX8) (T := TX8) (N := 4) hx hb hts hinX8_readInto_X8 hown E.1 hP 1 (zO.get (oX8_at)) rfl 3 (by decide) (hts (.fieldLink RX8 28 "EdgeAndSpeed$Text" "place" "I") (by decide +kernel)) (fun _ h9 => h9) rfl dX8_readInto_36 ?_
      obtain ⟨x10, h11, hf⟩ := zb1_e hf
      refine zgo_i (zrunV (As := [.int (I6 1 3)]) (rest := []) S (c_X8_byteAt l hD (I6 1 3) h11) (cwV 1 hts gX8_readInto_X8_byteAt rfl rfl rfl ddX8_byteAt ⟨Nat.le_trans (Nat.le_of_ble_eq_true rfl) hfr, Nat.le_trans (Nat.le_of_ble_eq_true rfl) hlo⟩) (va_recv E.1 hP (q := (RX8, TX8, 4)) (ci := 7) rfl (zO.get (oX8_at))) E hP hS hl.1 rfl rfl (Nat.le_of_ble_eq_true rfl) dX8_readInto_39) hS (fun H locs hP hS => ?_)
      refine lv_istore (lv' := [(4, .int x10), (3, .int y9), (0, .ref (ad 1)), (1, .ref (ad p1)), (2, .int x5)]) hx hb dX8_readInto_42 hl (by decide) rfl (fun ls hl => ?_)
      refine lv_aload_n hx hb dX8_readInto_44 rfl (lv_at hl 2 rfl) ?_
      refine lv_iload hx hb dX8_readInto_45 (lv_at hl 0 rfl) ?_
      obtain ⟨x12, h13, hf⟩ := zb1_e hf
      refine zgo_i (zrunS (As := [.int x10]) (rest := [.ref (ad 1)]) S (c_X8_numbersOf l hD x10 h13) (va_cwS 1 hts gX8_readInto_X8_numbersOf rfl rfl rfl ddX8_numbersOf ⟨Nat.le_trans (Nat.le_of_ble_eq_true rfl) hfr, Nat.le_trans (Nat.le_of_ble_eq_true rfl) hlo⟩) E hP hS hl.1 rfl rfl (Nat.le_of_ble_eq_true rfl) dX8_readInto_47) hS (fun H locs hP hS => ?_)
      obtain ⟨x14, I15, h16, hf⟩ := zb2_e hf
      refine zgo_i (zrunV (As := [.int x12]) (rest := []) S (c_X8_readNumbers l hD x12 h16) (cwV 1 hts gX8_readInto_X8_readNumbers rfl rfl rfl ddX8_readNumbers ⟨Nat.le_trans (Nat.le_of_ble_eq_true rfl) hfr, Nat.le_trans (Nat.le_of_ble_eq_true rfl) hlo⟩) (va_recv E.1 hP (q := (RX8, TX8, 4)) (ci := 7) rfl (zO.get (oX8_at))) E hP hS hl.1 rfl rfl (Nat.le_of_ble_eq_true rfl) dX8_readInto_50) hS (fun H locs hP hS => ?_)
      refine lv_if_eq (tgt := 69) hx hb dX8_readInto_53 (by decide) (fun k17 => ?_) (fun k17 => ?_)
      · replace hf := zt k17 hf
        refine lv_iload_n hx hb dX8_readInto_69 rfl (lv_at hl 1 rfl) ?_
        replace hf := hel4 _ (hdl4 _ (Option.some.inj hf).symm)
        exact hret _ _ hf _ _ _ _ hP hS dX8_readInto_70
      · replace hf := zf k17 hf
        refine lv_aload_n hx hb dX8_readInto_56 rfl (lv_at hl 3 rfl) ?_
        refine lv_iload hx hb dX8_readInto_57 (lv_at hl 0 rfl) ?_
        refine lv_aload_n hx hb dX8_readInto_59 rfl (lv_at hl 2 rfl) ?_
        refine va_get (D := D) (ci := 7) (v := .ref (ad 3)) (C := RX8) (T := TX8) (N := 4) hx hb hts hinX8_readInto_X8 hown E.1 hP 1 (zO.get (oX8_at)) rfl 1 (by decide) (hts (.fieldLink RX8 15 "EdgeAndSpeed$Text" "told" "[I") (by decide +kernel)) (fun _ h9 => h9) rfl dX8_readInto_60 ?_
        obtain ⟨x18, I19, h20, hf⟩ := zb2_e hf
        refine zgo_i (zrunV (As := [.int x10, .ref (ad 3)]) (rest := []) S (c_X0_take l hD p1 (zBat_C hp1) x10 3 (aX8_1) h20) (cwV 2 hts gX8_readInto_X0_take rfl rfl rfl ddX0_take ⟨Nat.le_trans (Nat.le_of_ble_eq_true rfl) hfr, Nat.le_trans (Nat.le_of_ble_eq_true rfl) hlo⟩) (va_recv E.1 hP (q := (RX0, TX0, 17)) (ci := 0) rfl (zO.get (zBat_o (zBat_C hp1)))) E hP hS hl.1 rfl rfl (Nat.le_of_ble_eq_true rfl) dX8_readInto_63) hS (fun H locs hP hS => ?_)
        refine lv_if_ne (tgt := 71) hx hb dX8_readInto_66 (by decide) (fun k21 => ?_) (fun k21 => ?_)
        · replace hf := zf k21 hf
          obtain ⟨y22, ey22⟩ := zex (x5 + 1)
          replace hf := zn_s ey22 hf
          refine lv_iinc (v := y22) (lv' := [(2, .int y22), (4, .int x10), (3, .int y9), (0, .ref (ad 1)), (1, .ref (ad p1))]) hx hb dX8_readInto_71 hl (k := 4) rfl (by rw [ey22]; rfl) (by decide) rfl (fun ls hl => ?_)
          refine lv_goto (tgt := 11) hx hb dX8_readInto_74 (by decide) ?_
          exact hcl4 _ (Option.some.inj hf).symm _ _ _ hP hS (lv_sub hl [3, 4, 0] rfl)
        · replace hf := zt k21 hf
          refine lv_iload_n hx hb dX8_readInto_69 rfl (lv_at hl 1 rfl) ?_
          replace hf := hel4 _ (hdl4 _ (Option.some.inj hf).symm)
          exact hret _ _ hf _ _ _ _ hP hS dX8_readInto_70
theorem c_X8_readInto (l : Launch) {D : va_G} {a0 : Nat → Nat} {A : Nat → Prop} {cy : Nat → ClassId} {ad : Nat → Nat} (hD : zD A 74 ad) {I : zI} {J : zJ} (p1 : Nat) (hp1 : zBn p1) {rx : Int32} {rI : zI} (hf : f_X8_readInto I J p1 = some (rx, rI)) : Met l yX8_readInto wsX8_readInto { frames := 3, cells := 0, slots := 0, locals := 70 } (zPc D a0 A cy [.ref (ad 1), .ref (ad p1)] (zw 74 (kC cy ad a0) ad I J)) (zQi D A rx (zw 74 (kC cy ad a0) ad rI J)) 0 0 A :=
  zmet RX8 (by decide) rfl rfl (Nat.le_of_ble_eq_true rfl) (fun p e R s m below meth c Q hfr hlo ls S0 hQ => w_X8_readInto hfr hlo hD p1 hp1 hf S0 (fun tx tI hq H locs ls pc hP hS hd => by cases hq; exact hQ H locs _ hS (fun hx hb hr hlocks hfree => W.iret hx hb hr (fun t ht hW => ⟨⟨_, (), rfl, rfl, zht ht hP⟩, hS.F ht⟩) hfree hd hlocks)))
theorem ddX8_readInto : yX8_readInto.cls = RX8 ∧ yX8_readInto.cls ≠ "java/lang/invoke/MethodHandle" ∧ yX8_readInto.cls ≠ "java/lang/invoke/VarHandle" ∧ (parseMethodDescriptor yX8_readInto.desc).map (fun d => d.parameters.length) = some 1 := by decide +kernel

def f_X11_fault (I : zI) (J : zJ) : Option (Int32 × zI) := zb2 (f_X8_readInto I J 14) (fun x1 I2 => some (x1, I2))
theorem hinX11_fault_X11 : ∀ w ∈ u_ws RX11 TX11 12, w ∈ wsX11_fault := by decide +kernel
set_option maxHeartbeats 4000000 in
set_option maxRecDepth 100000 in
theorem w_X11_fault {p : Program} {l : Launch} {e : Env} {R : Room} {s : State} {m : MethodId} {args : Array Value} {below : List Frame} {meth : Method} {c : Code} {Q : State → Prop} (hfr : 4 ≤ R.frames) (hlo : 94 ≤ R.locals) {D : va_G} {a0 : Nat → Nat} {A : Nat → Prop} {cy : Nat → ClassId} {ad : Nat → Nat} (hD : zD A 74 ad) {I : zI} {J : zJ}  {rx : Int32} {rI : zI} (hf : f_X11_fault I J = some (rx, rI)) {ls : Array Slot} (S0 : zSt p m c cX11_fault 1 s args wsX11_fault RX11 D a0 A cy (zw 74 (kC cy ad a0) ad I J) [.ref (ad 0)] ls) (hret : ∀ (tx : Int32) (tI : zI), some (tx, tI) = some (rx, rI) → ∀ (H : Heap) (locs : List Loc) (ls : Array Slot) (pc : Nat), va_P D vwCl (zw 74 (kC cy ad a0) ad tI J) H → va_S A s.heap H locs → decode cX11_fault pc = .ok (.ireturn, 1) → W p l e R s m args below meth c H locs 0 0 Q (F0 m pc ls [.int tx])) : W p l e R s m args below meth c s.heap [] 0 0 Q (F0 m 0 ls []) := by
  obtain ⟨S, E, hP, hl⟩ := S0
  obtain ⟨hx, hb, hml, hown, hts⟩ := id S
  have hS : va_S A s.heap s.heap [] := va_S.rf
  replace hl : lv_has ls 1 [(0, .ref (ad 0))] := hl
  unfold f_X11_fault at hf
  refine lv_aload_n hx hb dX11_fault_0 rfl (lv_at hl 0 rfl) ?_
  refine va_get (D := D) (ci := 10) (v := .ref (ad 1)) (C := RX11) (T := TX11) (N := 12) hx hb hts hinX11_fault_X11 hown E.1 hP 0 (zO.get (oX11_at)) rfl 0 (by decide) (hts (.fieldLink RX11 12 "EdgeAndSpeed" "text" "LEdgeAndSpeed$Text;") (by decide +kernel)) (fun _ h9 => h9) rfl dX11_fault_1 ?_
  refine lv_aload_n hx hb dX11_fault_4 rfl (lv_at hl 0 rfl) ?_
  refine va_get (D := D) (ci := 10) (v := .ref (ad 14)) (C := RX11) (T := TX11) (N := 12) hx hb hts hinX11_fault_X11 hown E.1 hP 0 (zO.get (oX11_at)) rfl 2 (by decide) (hts (.fieldLink RX11 23 "EdgeAndSpeed" "draft" "LEdgeAndSpeed$Bench;") (by decide +kernel)) (fun _ h9 => h9) rfl dX11_fault_5 ?_
  obtain ⟨x1, I2, h3, hf⟩ := zb2_e hf
  refine zgo_i (zrunV (As := [.ref (ad 14)]) (rest := []) S (c_X8_readInto l hD 14 (by decide) h3) (cwV 1 hts gX11_fault_X8_readInto rfl rfl rfl ddX8_readInto ⟨Nat.le_trans (Nat.le_of_ble_eq_true rfl) hfr, Nat.le_trans (Nat.le_of_ble_eq_true rfl) hlo⟩) (va_recv E.1 hP (q := (RX8, TX8, 4)) (ci := 7) rfl (zO.get (oX8_at))) E hP hS hl.1 rfl rfl (Nat.le_of_ble_eq_true rfl) dX11_fault_8) hS (fun H locs hP hS => ?_)
  exact hret _ _ hf _ _ _ _ hP hS dX11_fault_11
theorem c_X11_fault (l : Launch) {D : va_G} {a0 : Nat → Nat} {A : Nat → Prop} {cy : Nat → ClassId} {ad : Nat → Nat} (hD : zD A 74 ad) {I : zI} {J : zJ}  {rx : Int32} {rI : zI} (hf : f_X11_fault I J = some (rx, rI)) : Met l yX11_fault wsX11_fault { frames := 4, cells := 0, slots := 0, locals := 94 } (zPc D a0 A cy [.ref (ad 0)] (zw 74 (kC cy ad a0) ad I J)) (zQi D A rx (zw 74 (kC cy ad a0) ad rI J)) 0 0 A :=
  zmet RX11 (by decide) rfl rfl (Nat.le_of_ble_eq_true rfl) (fun p e R s m below meth c Q hfr hlo ls S0 hQ => w_X11_fault hfr hlo hD  hf S0 (fun tx tI hq H locs ls pc hP hS hd => by cases hq; exact hQ H locs _ hS (fun hx hb hr hlocks hfree => W.iret hx hb hr (fun t ht hW => ⟨⟨_, (), rfl, rfl, zht ht hP⟩, hS.F ht⟩) hfree hd hlocks)))
theorem ddX11_fault : yX11_fault.cls = RX11 ∧ yX11_fault.cls ≠ "java/lang/invoke/MethodHandle" ∧ yX11_fault.cls ≠ "java/lang/invoke/VarHandle" ∧ (parseMethodDescriptor yX11_fault.desc).map (fun d => d.parameters.length) = some 0 := by decide +kernel

def f_J7_fill_031fb_L5 (y1 : Int32) (n : Nat) (q : Nat) (p2 : Int32) (x3 : Int32) (I4 : zI) : Option ((Int32 × zI) ⊕ zI) := (if y1 ≤ x3 then some (.inr I4) else zg (¬ (x3 < 0 ∨ n ≤ x3.toNatClampNeg)) (zn (va_up I4 q (upd (I4 q) x3.toNatClampNeg (vp_nar .byte p2))) (fun I6 => zn (x3 + 1) (fun y8 => some (.inl (y8, I6))))))
def f_J7_fill_031fb (I : zI) (J : zJ) (q : Nat) (n : Nat) (p2 : Int32) : Option zI := zn ((nI n)) (fun y1 => zb1 (zl (fun v : (Int32 × zI) => f_J7_fill_031fb_L5 y1 n q p2 v.1 v.2) zF (0, I)) (fun I9 => some I9))
set_option maxHeartbeats 4000000 in
set_option maxRecDepth 100000 in
theorem w_J7_fill_031fb {p : Program} {l : Launch} {e : Env} {R : Room} {s : State} {m : MethodId} {args : Array Value} {below : List Frame} {meth : Method} {c : Code} {Q : State → Prop} (hfr : 0 ≤ R.frames) (hlo : 0 ≤ R.locals) {D : va_G} {a0 : Nat → Nat} {A : Nat → Prop} {cy : Nat → ClassId} {ad : Nat → Nat} {N : Nat} {K : zK} (hD : zD A N ad) {I : zI} {J : zJ} (q n : Nat) (hq : zIA N K (cy 0) q n) (p2 : Int32) {rI : zI} (hf : f_J7_fill_031fb I J q n p2 = some rI) {ls : Array Slot} (S0 : zSt p m c cJ7_fill_031fb 4 s args wsJ7_fill_031fb RJ7 D a0 A cy (zw N K ad I J) [.ref (ad q), .int p2] ls) (hret : ∀ (tI : zI), some tI = some rI → ∀ (H : Heap) (locs : List Loc) (ls : Array Slot) (pc : Nat), va_P D vwCl (zw N K ad tI J) H → va_S A s.heap H locs → decode cJ7_fill_031fb pc = .ok (.return_, 1) → W p l e R s m args below meth c H locs 0 0 Q (F0 m pc ls [])) : W p l e R s m args below meth c s.heap [] 0 0 Q (F0 m 0 ls []) := by
  obtain ⟨S, E, hP, hl⟩ := S0
  obtain ⟨hx, hb, hml, hown, hts⟩ := id S
  have hS : va_S A s.heap s.heap [] := va_S.rf
  replace hl : lv_has ls 4 [(0, .ref (ad q)), (1, .int p2)] := hl
  unfold f_J7_fill_031fb at hf
  refine lv_iconst (v := 0) hx hb dJ7_fill_031fb_0 (by decide) ?_
  refine lv_istore_n (lv' := [(2, .int 0), (0, .ref (ad q)), (1, .int p2)]) hx hb dJ7_fill_031fb_1 rfl hl (by decide) rfl (fun ls hl => ?_)
  refine lv_aload_n hx hb dJ7_fill_031fb_2 rfl (lv_at hl 1 rfl) ?_
  refine va_alen (v := (nI n)) (ty := .byte) hx hb E.1 hP q 0 (zIA.get hq) rfl rfl dJ7_fill_031fb_3 ?_
  refine lv_topi (fun y1 ey1 => ?_)
  replace hf := zn_s ey1 hf
  refine lv_istore_n (lv' := [(3, .int y1), (2, .int 0), (0, .ref (ad q)), (1, .int p2)]) hx hb dJ7_fill_031fb_4 rfl hl (by decide) rfl (fun ls hl => ?_)
  obtain ⟨zl2, hf, hzl2⟩ := zb1_i hf
  have hjl2 : ∀ (I9 : zI), I9 = zl2 → ∀ (H : Heap) (locs : List Loc) (ls : Array Slot), va_P D vwCl (zw N K ad I9 J) H → va_S A s.heap H locs → lv_has ls 4 [] → W p l e R s m args below meth c H locs 0 0 Q (F0 m 20 ls []) := by
    intro I9 ez H locs ls hP hS hl
    have hf := hzl2 I9 ez
    exact hret _ hf _ _ _ _ hP hS dJ7_fill_031fb_20
  refine zl_i (V := (Int32 × zI)) (P := fun v => ∀ (H : Heap) (locs : List Loc) (ls : Array Slot), va_P D vwCl (zw N K ad v.2 J) H → va_S A s.heap H locs → lv_has ls 4 [(0, .ref (ad q)), (1, .int p2), (2, .int (v.1)), (3, .int y1)] → W p l e R s m args below meth c H locs 0 0 Q (F0 m 5 ls [])) ?_ _ _ hf _ _ _ hP hS (lv_sub hl [2, 3, 1, 0] rfl)
  intro v z hf hcl2 hdl2
  obtain ⟨x3, I4⟩ := v
  intro H locs ls hP hS hl
  replace hf : f_J7_fill_031fb_L5 y1 n q p2 x3 I4 = some z := hf
  unfold f_J7_fill_031fb_L5 at hf
  replace hP : va_P D vwCl (zw N K ad I4 J) H := hP
  replace hl : lv_has ls 4 [(0, .ref (ad q)), (1, .int p2), (2, .int x3), (3, .int y1)] := hl
  refine lv_iload_n hx hb dJ7_fill_031fb_5 rfl (lv_at hl 2 rfl) ?_
  refine lv_iload_n hx hb dJ7_fill_031fb_6 rfl (lv_at hl 3 rfl) ?_
  refine lv_icmp_ge (tgt := 20) hx hb dJ7_fill_031fb_7 (by decide) (fun k5 => ?_) (fun k5 => ?_)
  · replace hf := zt k5 hf
    exact hjl2 _ (hdl2 _ (Option.some.inj hf).symm) _ _ _ hP hS (lv_sub hl [] rfl)
  · replace hf := zf k5 hf
    refine lv_aload_n hx hb dJ7_fill_031fb_10 rfl (lv_at hl 0 rfl) ?_
    refine lv_iload_n hx hb dJ7_fill_031fb_11 rfl (lv_at hl 2 rfl) ?_
    refine lv_iload_n hx hb dJ7_fill_031fb_12 rfl (lv_at hl 1 rfl) ?_
    obtain ⟨g7, hf⟩ := zg_i hf
    obtain ⟨I6, eI6⟩ := zex (va_up I4 q (upd (I4 q) x3.toNatClampNeg (vp_nar .byte p2)))
    replace hf := zn_s eI6 hf
    refine zast_b hx hb E.1 hP hD.D hS hq g7 dJ7_fill_031fb_13 eI6 (fun H locs hP hS => ?_)
    obtain ⟨y8, ey8⟩ := zex (x3 + 1)
    replace hf := zn_s ey8 hf
    refine lv_iinc (v := y8) (lv' := [(2, .int y8), (0, .ref (ad q)), (1, .int p2), (3, .int y1)]) hx hb dJ7_fill_031fb_14 hl (k := 2) rfl (by rw [ey8]; rfl) (by decide) rfl (fun ls hl => ?_)
    refine lv_goto (tgt := 5) hx hb dJ7_fill_031fb_17 (by decide) ?_
    exact hcl2 _ (Option.some.inj hf).symm _ _ _ hP hS (lv_sub hl [1, 2, 0, 3] rfl)
theorem c_J7_fill_031fb (l : Launch) {D : va_G} {a0 : Nat → Nat} {A : Nat → Prop} {cy : Nat → ClassId} {ad : Nat → Nat} {N : Nat} {K : zK} (hD : zD A N ad) {I : zI} {J : zJ} (q n : Nat) (hq : zIA N K (cy 0) q n) (p2 : Int32) {rI : zI} (hf : f_J7_fill_031fb I J q n p2 = some rI) : Met l yJ7_fill_031fb wsJ7_fill_031fb { frames := 0, cells := 0, slots := 0, locals := 0 } (zPc D a0 A cy [.ref (ad q), .int p2] (zw N K ad I J)) (zQv D A (zw N K ad rI J)) 0 0 A :=
  zmet RJ7 (by decide) rfl rfl (Nat.le_of_ble_eq_true rfl) (fun p e R s m below meth c Q hfr hlo ls S0 hQ => w_J7_fill_031fb hfr hlo hD q n hq p2 hf S0 (fun tI hq H locs ls pc hP hS hd => by cases hq; exact hQ H locs _ hS (fun hx hb hr hlocks hfree => W.vret hx hb hr (fun t ht hW => ⟨⟨(), rfl, trivial, zht ht hP⟩, hS.F ht⟩) hfree hd hlocks)))
theorem ddJ7_fill_031fb : yJ7_fill_031fb.cls ≠ "java/lang/invoke/MethodHandle" ∧ yJ7_fill_031fb.cls ≠ "java/lang/invoke/VarHandle" ∧ (parseMethodDescriptor yJ7_fill_031fb.desc).map (fun d => d.parameters.length) = some 2 := by decide +kernel

def f_X6_clear (I : zI) (J : zJ) (o : Nat) : Option zI := zb1 (f_J7_fill_031fb I J (o + 2) 6464 (-1)) (fun I1 => zn (va_up I1 o (va_up (I1 o) 6 0)) (fun I3 => some I3))
theorem hinX6_clear_X6 : ∀ w ∈ u_ws RX6 TX6 7, w ∈ wsX6_clear := by decide +kernel
set_option maxHeartbeats 4000000 in
set_option maxRecDepth 100000 in
theorem w_X6_clear {p : Program} {l : Launch} {e : Env} {R : Room} {s : State} {m : MethodId} {args : Array Value} {below : List Frame} {meth : Method} {c : Code} {Q : State → Prop} (hfr : 1 ≤ R.frames) (hlo : 23 ≤ R.locals) {D : va_G} {a0 : Nat → Nat} {A : Nat → Prop} {cy : Nat → ClassId} {ad : Nat → Nat} (hD : zD A 74 ad) {I : zI} {J : zJ} (o : Nat) (ho : zPn o) {rI : zI} (hf : f_X6_clear I J o = some rI) {ls : Array Slot} (S0 : zSt p m c cX6_clear 1 s args wsX6_clear RX6 D a0 A cy (zw 74 (kC cy ad a0) ad I J) [.ref (ad o)] ls) (hret : ∀ (tI : zI), some tI = some rI → ∀ (H : Heap) (locs : List Loc) (ls : Array Slot) (pc : Nat), va_P D vwCl (zw 74 (kC cy ad a0) ad tI J) H → va_S A s.heap H locs → decode cX6_clear pc = .ok (.return_, 1) → W p l e R s m args below meth c H locs 0 0 Q (F0 m pc ls [])) : W p l e R s m args below meth c s.heap [] 0 0 Q (F0 m 0 ls []) := by
  obtain ⟨S, E, hP, hl⟩ := S0
  obtain ⟨hx, hb, hml, hown, hts⟩ := id S
  have hS : va_S A s.heap s.heap [] := va_S.rf
  replace hl : lv_has ls 1 [(0, .ref (ad o))] := hl
  unfold f_X6_clear at hf
  refine lv_aload_n hx hb dX6_clear_0 rfl (lv_at hl 0 rfl) ?_
  refine va_get (D := D) (ci := 5) (v := .ref (ad (o + 2))) (C := RX6) (T := TX6) (N := 7) hx hb hts hinX6_clear_X6 hown E.1 hP o (zO.get (oX6_at ho)) rfl 2 (by decide) (hts (.fieldLink RX6 15 "EdgeAndSpeed$Plan" "acts" "[B") (by decide +kernel)) (fun _ h9 => h9) rfl dX6_clear_1 ?_
  refine lv_iconst (v := (-1)) hx hb dX6_clear_4 (by decide) ?_
  obtain ⟨I1, h2, hf⟩ := zb1_e hf
  refine zgo_v (zrunS (As := [.ref (ad (o + 2)), .int (-1)]) (rest := []) S (c_J7_fill_031fb l hD (o + 2) 6464 (aX6_2 ho) (-1) h2) (va_cwS 2 hts gX6_clear_J7_fill_031fb rfl rfl rfl ddJ7_fill_031fb ⟨Nat.le_trans (Nat.le_of_ble_eq_true rfl) hfr, Nat.le_trans (Nat.le_of_ble_eq_true rfl) hlo⟩) E hP hS hl.1 rfl rfl (Nat.le_of_ble_eq_true rfl) dX6_clear_5) hS (fun H locs hP hS => ?_)
  refine lv_aload_n hx hb dX6_clear_8 rfl (lv_at hl 0 rfl) ?_
  refine lv_iconst (v := 0) hx hb dX6_clear_9 (by decide) ?_
  obtain ⟨I3, eI3⟩ := zex (va_up I1 o (va_up (I1 o) 6 0))
  replace hf := zn_s eI3 hf
  refine zput (D := D) (ci := 5) (v := .int 0) (ty := .boolean) (C := RX6) (T := TX6) (N := 7) hx hb hts hinX6_clear_X6 tyX6 tyX6_ok nmX6 hown E.1 hP hD.D hS o (zO.get (oX6_at ho)) rfl 6 (by decide) (hts (.fieldLink RX6 38 "EdgeAndSpeed$Plan" "solved" "Z") (by decide +kernel)) (fun _ h9 => h9) rfl (tyX6_ok 6 (by decide)) rfl rfl (Nat.le_of_ble_eq_true rfl) dX6_clear_10 (zO.setI (oX6_at ho) rfl eI3) (fun H locs hP hS => ?_)
  exact hret _ hf _ _ _ _ hP hS dX6_clear_13
theorem c_X6_clear (l : Launch) {D : va_G} {a0 : Nat → Nat} {A : Nat → Prop} {cy : Nat → ClassId} {ad : Nat → Nat} (hD : zD A 74 ad) {I : zI} {J : zJ} (o : Nat) (ho : zPn o) {rI : zI} (hf : f_X6_clear I J o = some rI) : Met l yX6_clear wsX6_clear { frames := 1, cells := 0, slots := 0, locals := 23 } (zPc D a0 A cy [.ref (ad o)] (zw 74 (kC cy ad a0) ad I J)) (zQv D A (zw 74 (kC cy ad a0) ad rI J)) 0 0 A :=
  zmet RX6 (by decide) rfl rfl (Nat.le_of_ble_eq_true rfl) (fun p e R s m below meth c Q hfr hlo ls S0 hQ => w_X6_clear hfr hlo hD o ho hf S0 (fun tI hq H locs ls pc hP hS hd => by cases hq; exact hQ H locs _ hS (fun hx hb hr hlocks hfree => W.vret hx hb hr (fun t ht hW => ⟨⟨(), rfl, trivial, zht ht hP⟩, hS.F ht⟩) hfree hd hlocks)))
theorem ddX6_clear : yX6_clear.cls = RX6 ∧ yX6_clear.cls ≠ "java/lang/invoke/MethodHandle" ∧ yX6_clear.cls ≠ "java/lang/invoke/VarHandle" ∧ (parseMethodDescriptor yX6_clear.desc).map (fun d => d.parameters.length) = some 0 := by decide +kernel

def f_X2_forget_L2 (J : zJ) (x2 : Int32) (I3 : zI) : Option ((Int32 × zI) ⊕ zI) := (if 4 ≤ x2 then some (.inr I3) else zg (¬ (x2 < 0 ∨ 4 ≤ x2.toNatClampNeg)) (zb1 (f_X6_clear I3 J (47 + 3 * x2.toNatClampNeg)) (fun I6 => zg (¬ (x2 < 0 ∨ 4 ≤ x2.toNatClampNeg)) (zb1 (f_X6_clear I6 J (59 + 3 * x2.toNatClampNeg)) (fun I9 => zn (x2 + 1) (fun y11 => some (.inl (y11, I9))))))))
def f_X2_forget (I : zI) (J : zJ) : Option zI := zb1 (zl (fun v : (Int32 × zI) => f_X2_forget_L2 J v.1 v.2) zF (0, I)) (fun I12 => some I12)
theorem hinX2_forget_X2 : ∀ w ∈ u_ws RX2 TX2 4, w ∈ wsX2_forget := by decide +kernel
set_option maxHeartbeats 4000000 in
set_option maxRecDepth 100000 in
theorem w_X2_forget {p : Program} {l : Launch} {e : Env} {R : Room} {s : State} {m : MethodId} {args : Array Value} {below : List Frame} {meth : Method} {c : Code} {Q : State → Prop} (hfr : 2 ≤ R.frames) (hlo : 43 ≤ R.locals) {D : va_G} {a0 : Nat → Nat} {A : Nat → Prop} {cy : Nat → ClassId} {ad : Nat → Nat} (hD : zD A 74 ad) {I : zI} {J : zJ}  {rI : zI} (hf : f_X2_forget I J = some rI) {ls : Array Slot} (S0 : zSt p m c cX2_forget 2 s args wsX2_forget RX2 D a0 A cy (zw 74 (kC cy ad a0) ad I J) [.ref (ad 34)] ls) (hret : ∀ (tI : zI), some tI = some rI → ∀ (H : Heap) (locs : List Loc) (ls : Array Slot) (pc : Nat), va_P D vwCl (zw 74 (kC cy ad a0) ad tI J) H → va_S A s.heap H locs → decode cX2_forget pc = .ok (.return_, 1) → W p l e R s m args below meth c H locs 0 0 Q (F0 m pc ls [])) : W p l e R s m args below meth c s.heap [] 0 0 Q (F0 m 0 ls []) := by
  obtain ⟨S, E, hP, hl⟩ := S0
  obtain ⟨hx, hb, hml, hown, hts⟩ := id S
  have hS : va_S A s.heap s.heap [] := va_S.rf
  replace hl : lv_has ls 2 [(0, .ref (ad 34))] := hl
  unfold f_X2_forget at hf
  refine lv_iconst (v := 0) hx hb dX2_forget_0 (by decide) ?_
  refine lv_istore_n (lv' := [(1, .int 0), (0, .ref (ad 34))]) hx hb dX2_forget_1 rfl hl (by decide) rfl (fun ls hl => ?_)
  obtain ⟨zl1, hf, hzl1⟩ := zb1_i hf
  have hjl1 : ∀ (I12 : zI), I12 = zl1 → ∀ (H : Heap) (locs : List Loc) (ls : Array Slot), va_P D vwCl (zw 74 (kC cy ad a0) ad I12 J) H → va_S A s.heap H locs → lv_has ls 2 [] → W p l e R s m args below meth c H locs 0 0 Q (F0 m 31 ls []) := by
    intro I12 ez H locs ls hP hS hl
    have hf := hzl1 I12 ez
    exact hret _ hf _ _ _ _ hP hS dX2_forget_31
  refine zl_i (V := (Int32 × zI)) (P := fun v => ∀ (H : Heap) (locs : List Loc) (ls : Array Slot), va_P D vwCl (zw 74 (kC cy ad a0) ad v.2 J) H → va_S A s.heap H locs → lv_has ls 2 [(0, .ref (ad 34)), (1, .int (v.1))] → W p l e R s m args below meth c H locs 0 0 Q (F0 m 2 ls [])) ?_ _ _ hf _ _ _ hP hS (lv_sub hl [1, 0] rfl)
  intro v z hf hcl1 hdl1
  obtain ⟨x2, I3⟩ := v
  intro H locs ls hP hS hl
  replace hf : f_X2_forget_L2 J x2 I3 = some z := hf
  unfold f_X2_forget_L2 at hf
  replace hP : va_P D vwCl (zw 74 (kC cy ad a0) ad I3 J) H := hP
  replace hl : lv_has ls 2 [(0, .ref (ad 34)), (1, .int x2)] := hl
  refine lv_iload_n hx hb dX2_forget_2 rfl (lv_at hl 1 rfl) ?_
  refine lv_iconst (v := 4) hx hb dX2_forget_3 (by decide) ?_
  refine lv_icmp_ge (tgt := 31) hx hb dX2_forget_4 (by decide) (fun k4 => ?_) (fun k4 => ?_)
  · replace hf := zt k4 hf
    exact hjl1 _ (hdl1 _ (Option.some.inj hf).symm) _ _ _ hP hS (lv_sub hl [] rfl)
  · replace hf := zf k4 hf
    refine lv_aload_n hx hb dX2_forget_7 rfl (lv_at hl 0 rfl) ?_
    refine va_get (D := D) (ci := 2) (v := .ref (ad 35)) (C := RX2) (T := TX2) (N := 4) hx hb hts hinX2_forget_X2 hown E.1 hP 34 (zO.get (oX2_at)) rfl 2 (by decide) (hts (.fieldLink RX2 11 "EdgeAndSpeed$Hands" "best" "[LEdgeAndSpeed$Plan;") (by decide +kernel)) (fun _ h9 => h9) rfl dX2_forget_8 ?_
    refine lv_iload_n hx hb dX2_forget_11 rfl (lv_at hl 1 rfl) ?_
    obtain ⟨g5, hf⟩ := zg_i hf
    refine va_aldq (C := "EdgeAndSpeed$Plan") hx hb E.1 hP 35 5 (zRA.get aX2_2) rfl g5 dX2_forget_12 ?_
    obtain ⟨I6, h7, hf⟩ := zb1_e hf
    refine zgo_v (zrunV (As := []) (rest := []) S (c_X6_clear l hD (47 + 3 * x2.toNatClampNeg) (zPn_k g5) h7) (cwV 0 hts gX2_forget_X6_clear rfl rfl rfl ddX6_clear ⟨Nat.le_trans (Nat.le_of_ble_eq_true rfl) hfr, Nat.le_trans (Nat.le_of_ble_eq_true rfl) hlo⟩) (va_recv E.1 hP (q := (RX6, TX6, 7)) (ci := 5) rfl (zO.get (oX6_at (zPn_k g5)))) E hP hS hl.1 rfl rfl (Nat.le_of_ble_eq_true rfl) dX2_forget_13) hS (fun H locs hP hS => ?_)
    refine lv_aload_n hx hb dX2_forget_16 rfl (lv_at hl 0 rfl) ?_
    refine va_get (D := D) (ci := 2) (v := .ref (ad 36)) (C := RX2) (T := TX2) (N := 4) hx hb hts hinX2_forget_X2 hown E.1 hP 34 (zO.get (oX2_at)) rfl 3 (by decide) (hts (.fieldLink RX2 17 "EdgeAndSpeed$Hands" "quick" "[LEdgeAndSpeed$Plan;") (by decide +kernel)) (fun _ h9 => h9) rfl dX2_forget_17 ?_
    refine lv_iload_n hx hb dX2_forget_20 rfl (lv_at hl 1 rfl) ?_
    obtain ⟨g8, hf⟩ := zg_i hf
    refine va_aldq (C := "EdgeAndSpeed$Plan") hx hb E.1 hP 36 5 (zRA.get aX2_3) rfl g8 dX2_forget_21 ?_
    obtain ⟨I9, h10, hf⟩ := zb1_e hf
    refine zgo_v (zrunV (As := []) (rest := []) S (c_X6_clear l hD (59 + 3 * x2.toNatClampNeg) (zPn_q g8) h10) (cwV 0 hts gX2_forget_X6_clear rfl rfl rfl ddX6_clear ⟨Nat.le_trans (Nat.le_of_ble_eq_true rfl) hfr, Nat.le_trans (Nat.le_of_ble_eq_true rfl) hlo⟩) (va_recv E.1 hP (q := (RX6, TX6, 7)) (ci := 5) rfl (zO.get (oX6_at (zPn_q g8)))) E hP hS hl.1 rfl rfl (Nat.le_of_ble_eq_true rfl) dX2_forget_22) hS (fun H locs hP hS => ?_)
    obtain ⟨y11, ey11⟩ := zex (x2 + 1)
    replace hf := zn_s ey11 hf
    refine lv_iinc (v := y11) (lv' := [(1, .int y11), (0, .ref (ad 34))]) hx hb dX2_forget_25 hl (k := 1) rfl (by rw [ey11]; rfl) (by decide) rfl (fun ls hl => ?_)
    refine lv_goto (tgt := 2) hx hb dX2_forget_28 (by decide) ?_
    exact hcl1 _ (Option.some.inj hf).symm _ _ _ hP hS (lv_sub hl [1, 0] rfl)
theorem c_X2_forget (l : Launch) {D : va_G} {a0 : Nat → Nat} {A : Nat → Prop} {cy : Nat → ClassId} {ad : Nat → Nat} (hD : zD A 74 ad) {I : zI} {J : zJ}  {rI : zI} (hf : f_X2_forget I J = some rI) : Met l yX2_forget wsX2_forget { frames := 2, cells := 0, slots := 0, locals := 43 } (zPc D a0 A cy [.ref (ad 34)] (zw 74 (kC cy ad a0) ad I J)) (zQv D A (zw 74 (kC cy ad a0) ad rI J)) 0 0 A :=
  zmet RX2 (by decide) rfl rfl (Nat.le_of_ble_eq_true rfl) (fun p e R s m below meth c Q hfr hlo ls S0 hQ => w_X2_forget hfr hlo hD  hf S0 (fun tI hq H locs ls pc hP hS hd => by cases hq; exact hQ H locs _ hS (fun hx hb hr hlocks hfree => W.vret hx hb hr (fun t ht hW => ⟨⟨(), rfl, trivial, zht ht hP⟩, hS.F ht⟩) hfree hd hlocks)))
theorem ddX2_forget : yX2_forget.cls = RX2 ∧ yX2_forget.cls ≠ "java/lang/invoke/MethodHandle" ∧ yX2_forget.cls ≠ "java/lang/invoke/VarHandle" ∧ (parseMethodDescriptor yX2_forget.desc).map (fun d => d.parameters.length) = some 0 := by decide +kernel

def f_X1_reset (I : zI) (J : zJ) (o : Nat) : Option zI := zn (va_up I o (va_up (I o) 2 0)) (fun I1 => zn (va_up I1 o (va_up (I1 o) 3 0)) (fun I2 => zn (va_up I2 o (va_up (I2 o) 4 100)) (fun I3 => zn (va_up I3 o (va_up (I3 o) 5 8)) (fun I4 => some I4))))
theorem hinX1_reset_X1 : ∀ w ∈ u_ws RX1 TX1 6, w ∈ wsX1_reset := by decide +kernel
set_option maxHeartbeats 4000000 in
set_option maxRecDepth 100000 in
theorem w_X1_reset {p : Program} {l : Launch} {e : Env} {R : Room} {s : State} {m : MethodId} {args : Array Value} {below : List Frame} {meth : Method} {c : Code} {Q : State → Prop} (hfr : 0 ≤ R.frames) (hlo : 0 ≤ R.locals) {D : va_G} {a0 : Nat → Nat} {A : Nat → Prop} {cy : Nat → ClassId} {ad : Nat → Nat} (hD : zD A 74 ad) {I : zI} {J : zJ} (o : Nat) (ho : zHn o) {rI : zI} (hf : f_X1_reset I J o = some rI) {ls : Array Slot} (S0 : zSt p m c cX1_reset 1 s args wsX1_reset RX1 D a0 A cy (zw 74 (kC cy ad a0) ad I J) [.ref (ad o)] ls) (hret : ∀ (tI : zI), some tI = some rI → ∀ (H : Heap) (locs : List Loc) (ls : Array Slot) (pc : Nat), va_P D vwCl (zw 74 (kC cy ad a0) ad tI J) H → va_S A s.heap H locs → decode cX1_reset pc = .ok (.return_, 1) → W p l e R s m args below meth c H locs 0 0 Q (F0 m pc ls [])) : W p l e R s m args below meth c s.heap [] 0 0 Q (F0 m 0 ls []) := by
  obtain ⟨S, E, hP, hl⟩ := S0
  obtain ⟨hx, hb, hml, hown, hts⟩ := id S
  have hS : va_S A s.heap s.heap [] := va_S.rf
  replace hl : lv_has ls 1 [(0, .ref (ad o))] := hl
  unfold f_X1_reset at hf
  refine lv_aload_n hx hb dX1_reset_0 rfl (lv_at hl 0 rfl) ?_
  refine lv_iconst (v := 0) hx hb dX1_reset_1 (by decide) ?_
  obtain ⟨I1, eI1⟩ := zex (va_up I o (va_up (I o) 2 0))
  replace hf := zn_s eI1 hf
  refine zput (D := D) (ci := 1) (v := .int 0) (ty := .int) (C := RX1) (T := TX1) (N := 6) hx hb hts hinX1_reset_X1 tyX1 tyX1_ok nmX1 hown E.1 hP hD.D hS o (zO.get (oX1_at ho)) rfl 2 (by decide) (hts (.fieldLink RX1 25 "EdgeAndSpeed$Habits" "rows" "I") (by decide +kernel)) (fun _ h9 => h9) rfl (tyX1_ok 2 (by decide)) rfl rfl (Nat.le_of_ble_eq_true rfl) dX1_reset_2 (zO.setI (oX1_at ho) rfl eI1) (fun H locs hP hS => ?_)
  refine lv_aload_n hx hb dX1_reset_5 rfl (lv_at hl 0 rfl) ?_
  refine lv_iconst (v := 0) hx hb dX1_reset_6 (by decide) ?_
  obtain ⟨I2, eI2⟩ := zex (va_up I1 o (va_up (I1 o) 3 0))
  replace hf := zn_s eI2 hf
  refine zput (D := D) (ci := 1) (v := .int 0) (ty := .int) (C := RX1) (T := TX1) (N := 6) hx hb hts hinX1_reset_X1 tyX1 tyX1_ok nmX1 hown E.1 hP hD.D hS o (zO.get (oX1_at ho)) rfl 3 (by decide) (hts (.fieldLink RX1 28 "EdgeAndSpeed$Habits" "speed" "I") (by decide +kernel)) (fun _ h9 => h9) rfl (tyX1_ok 3 (by decide)) rfl rfl (Nat.le_of_ble_eq_true rfl) dX1_reset_7 (zO.setI (oX1_at ho) rfl eI2) (fun H locs hP hS => ?_)
  refine lv_aload_n hx hb dX1_reset_10 rfl (lv_at hl 0 rfl) ?_
  refine lv_bipush (v := 100) hx hb dX1_reset_11 (by decide) ?_
  obtain ⟨I3, eI3⟩ := zex (va_up I2 o (va_up (I2 o) 4 100))
  replace hf := zn_s eI3 hf
  refine zput (D := D) (ci := 1) (v := .int 100) (ty := .int) (C := RX1) (T := TX1) (N := 6) hx hb hts hinX1_reset_X1 tyX1 tyX1_ok nmX1 hown E.1 hP hD.D hS o (zO.get (oX1_at ho)) rfl 4 (by decide) (hts (.fieldLink RX1 18 "EdgeAndSpeed$Habits" "limit" "I") (by decide +kernel)) (fun _ h9 => h9) rfl (tyX1_ok 4 (by decide)) rfl rfl (Nat.le_of_ble_eq_true rfl) dX1_reset_13 (zO.setI (oX1_at ho) rfl eI3) (fun H locs hP hS => ?_)
  refine lv_aload_n hx hb dX1_reset_16 rfl (lv_at hl 0 rfl) ?_
  refine lv_bipush (v := 8) hx hb dX1_reset_17 (by decide) ?_
  obtain ⟨I4, eI4⟩ := zex (va_up I3 o (va_up (I3 o) 5 8))
  replace hf := zn_s eI4 hf
  refine zput (D := D) (ci := 1) (v := .int 8) (ty := .int) (C := RX1) (T := TX1) (N := 6) hx hb hts hinX1_reset_X1 tyX1 tyX1_ok nmX1 hown E.1 hP hD.D hS o (zO.get (oX1_at ho)) rfl 5 (by decide) (hts (.fieldLink RX1 22 "EdgeAndSpeed$Habits" "every" "I") (by decide +kernel)) (fun _ h9 => h9) rfl (tyX1_ok 5 (by decide)) rfl rfl (Nat.le_of_ble_eq_true rfl) dX1_reset_19 (zO.setI (oX1_at ho) rfl eI4) (fun H locs hP hS => ?_)
  exact hret _ hf _ _ _ _ hP hS dX1_reset_22
theorem c_X1_reset (l : Launch) {D : va_G} {a0 : Nat → Nat} {A : Nat → Prop} {cy : Nat → ClassId} {ad : Nat → Nat} (hD : zD A 74 ad) {I : zI} {J : zJ} (o : Nat) (ho : zHn o) {rI : zI} (hf : f_X1_reset I J o = some rI) : Met l yX1_reset wsX1_reset { frames := 0, cells := 0, slots := 0, locals := 0 } (zPc D a0 A cy [.ref (ad o)] (zw 74 (kC cy ad a0) ad I J)) (zQv D A (zw 74 (kC cy ad a0) ad rI J)) 0 0 A :=
  zmet RX1 (by decide) rfl rfl (Nat.le_of_ble_eq_true rfl) (fun p e R s m below meth c Q hfr hlo ls S0 hQ => w_X1_reset hfr hlo hD o ho hf S0 (fun tI hq H locs ls pc hP hS hd => by cases hq; exact hQ H locs _ hS (fun hx hb hr hlocks hfree => W.vret hx hb hr (fun t ht hW => ⟨⟨(), rfl, trivial, zht ht hP⟩, hS.F ht⟩) hfree hd hlocks)))
theorem ddX1_reset : yX1_reset.cls = RX1 ∧ yX1_reset.cls ≠ "java/lang/invoke/MethodHandle" ∧ yX1_reset.cls ≠ "java/lang/invoke/VarHandle" ∧ (parseMethodDescriptor yX1_reset.desc).map (fun d => d.parameters.length) = some 0 := by decide +kernel

def f_X11_lay (I : zI) (J : zJ) : Option (Int32 × zI) := zb2 (f_X8_readInto I J 14) (fun x1 I2 => (if x1 = (-4) then (if (I2 14 9) = 0 then some ((-2), I2) else (if (I2 14 10) = 0 then some ((-2), I2) else zb2 (f_X8_readInto I2 J 4) (fun x7 I8 => zb1 (f_X2_forget I8 J) (fun I10 => zb1 (f_X1_reset I10 J 24) (fun I12 => zn (va_up I12 0 (va_up (I12 0) 5 0)) (fun I14 => some ((I14 4 10), I14))))))) else some ((-2), I2)))
theorem hinX11_lay_X11 : ∀ w ∈ u_ws RX11 TX11 12, w ∈ wsX11_lay := by decide +kernel
theorem hinX11_lay_X0 : ∀ w ∈ u_ws RX0 TX0 17, w ∈ wsX11_lay := by decide +kernel
set_option maxHeartbeats 4000000 in
set_option maxRecDepth 100000 in
theorem w_X11_lay {p : Program} {l : Launch} {e : Env} {R : Room} {s : State} {m : MethodId} {args : Array Value} {below : List Frame} {meth : Method} {c : Code} {Q : State → Prop} (hfr : 4 ≤ R.frames) (hlo : 94 ≤ R.locals) {D : va_G} {a0 : Nat → Nat} {A : Nat → Prop} {cy : Nat → ClassId} {ad : Nat → Nat} (hD : zD A 74 ad) {I : zI} {J : zJ}  {rx : Int32} {rI : zI} (hf : f_X11_lay I J = some (rx, rI)) {ls : Array Slot} (S0 : zSt p m c cX11_lay 1 s args wsX11_lay RX11 D a0 A cy (zw 74 (kC cy ad a0) ad I J) [.ref (ad 0)] ls) (hret : ∀ (tx : Int32) (tI : zI), some (tx, tI) = some (rx, rI) → ∀ (H : Heap) (locs : List Loc) (ls : Array Slot) (pc : Nat), va_P D vwCl (zw 74 (kC cy ad a0) ad tI J) H → va_S A s.heap H locs → decode cX11_lay pc = .ok (.ireturn, 1) → W p l e R s m args below meth c H locs 0 0 Q (F0 m pc ls [.int tx])) : W p l e R s m args below meth c s.heap [] 0 0 Q (F0 m 0 ls []) := by
  obtain ⟨S, E, hP, hl⟩ := S0
  obtain ⟨hx, hb, hml, hown, hts⟩ := id S
  have hS : va_S A s.heap s.heap [] := va_S.rf
  replace hl : lv_has ls 1 [(0, .ref (ad 0))] := hl
  unfold f_X11_lay at hf
  refine lv_aload_n hx hb dX11_lay_0 rfl (lv_at hl 0 rfl) ?_
  refine va_get (D := D) (ci := 10) (v := .ref (ad 1)) (C := RX11) (T := TX11) (N := 12) hx hb hts hinX11_lay_X11 hown E.1 hP 0 (zO.get (oX11_at)) rfl 0 (by decide) (hts (.fieldLink RX11 12 "EdgeAndSpeed" "text" "LEdgeAndSpeed$Text;") (by decide +kernel)) (fun _ h9 => h9) rfl dX11_lay_1 ?_
  refine lv_aload_n hx hb dX11_lay_4 rfl (lv_at hl 0 rfl) ?_
  refine va_get (D := D) (ci := 10) (v := .ref (ad 14)) (C := RX11) (T := TX11) (N := 12) hx hb hts hinX11_lay_X11 hown E.1 hP 0 (zO.get (oX11_at)) rfl 2 (by decide) (hts (.fieldLink RX11 23 "EdgeAndSpeed" "draft" "LEdgeAndSpeed$Bench;") (by decide +kernel)) (fun _ h9 => h9) rfl dX11_lay_5 ?_
  obtain ⟨x1, I2, h3, hf⟩ := zb2_e hf
  refine zgo_i (zrunV (As := [.ref (ad 14)]) (rest := []) S (c_X8_readInto l hD 14 (by decide) h3) (cwV 1 hts gX11_lay_X8_readInto rfl rfl rfl ddX8_readInto ⟨Nat.le_trans (Nat.le_of_ble_eq_true rfl) hfr, Nat.le_trans (Nat.le_of_ble_eq_true rfl) hlo⟩) (va_recv E.1 hP (q := (RX8, TX8, 4)) (ci := 7) rfl (zO.get (oX8_at))) E hP hS hl.1 rfl rfl (Nat.le_of_ble_eq_true rfl) dX11_lay_8) hS (fun H locs hP hS => ?_)
  refine lv_bipush (v := (-4)) hx hb dX11_lay_11 (by decide) ?_
  refine lv_icmp_ne (tgt := 36) hx hb dX11_lay_13 (by decide) (fun k4 => ?_) (fun k4 => ?_)
  · replace hf := zf k4 hf
    refine lv_bipush (v := (-2)) hx hb dX11_lay_36 (by decide) ?_
    exact hret _ _ hf _ _ _ _ hP hS dX11_lay_38
  · replace hf := zt k4 hf
    refine lv_aload_n hx hb dX11_lay_16 rfl (lv_at hl 0 rfl) ?_
    refine va_get (D := D) (ci := 10) (v := .ref (ad 14)) (C := RX11) (T := TX11) (N := 12) hx hb hts hinX11_lay_X11 hown E.1 hP 0 (zO.get (oX11_at)) rfl 2 (by decide) (hts (.fieldLink RX11 23 "EdgeAndSpeed" "draft" "LEdgeAndSpeed$Bench;") (by decide +kernel)) (fun _ h9 => h9) rfl dX11_lay_17 ?_
    refine va_getN (D := D) (ci := 0) (v := .int (I2 14 9)) (C := RX0) (T := TX0) (N := 17) hx hb hts hinX11_lay_X0 hown E.1 hP 14 (zO.get (zBat_o (zBat_C (by decide)))) rfl 9 (by decide) (zNfw_2 E.2.2) (fun _ h9 => h9) rfl dX11_lay_20 ?_
    refine lv_if_eq (tgt := 36) hx hb dX11_lay_23 (by decide) (fun k5 => ?_) (fun k5 => ?_)
    · replace hf := zt k5 hf
      refine lv_bipush (v := (-2)) hx hb dX11_lay_36 (by decide) ?_
      exact hret _ _ hf _ _ _ _ hP hS dX11_lay_38
    · replace hf := zf k5 hf
      refine lv_aload_n hx hb dX11_lay_26 rfl (lv_at hl 0 rfl) ?_
      refine va_get (D := D) (ci := 10) (v := .ref (ad 14)) (C := RX11) (T := TX11) (N := 12) hx hb hts hinX11_lay_X11 hown E.1 hP 0 (zO.get (oX11_at)) rfl 2 (by decide) (hts (.fieldLink RX11 23 "EdgeAndSpeed" "draft" "LEdgeAndSpeed$Bench;") (by decide +kernel)) (fun _ h9 => h9) rfl dX11_lay_27 ?_
      refine va_getN (D := D) (ci := 0) (v := .int (I2 14 10)) (C := RX0) (T := TX0) (N := 17) hx hb hts hinX11_lay_X0 hown E.1 hP 14 (zO.get (zBat_o (zBat_C (by decide)))) rfl 10 (by decide) (zNfw_5 E.2.2) (fun _ h9 => h9) rfl dX11_lay_30 ?_
      refine lv_if_ne (tgt := 39) hx hb dX11_lay_33 (by decide) (fun k6 => ?_) (fun k6 => ?_)
      · replace hf := zf k6 hf
        refine lv_aload_n hx hb dX11_lay_39 rfl (lv_at hl 0 rfl) ?_
        refine va_get (D := D) (ci := 10) (v := .ref (ad 1)) (C := RX11) (T := TX11) (N := 12) hx hb hts hinX11_lay_X11 hown E.1 hP 0 (zO.get (oX11_at)) rfl 0 (by decide) (hts (.fieldLink RX11 12 "EdgeAndSpeed" "text" "LEdgeAndSpeed$Text;") (by decide +kernel)) (fun _ h9 => h9) rfl dX11_lay_40 ?_
        refine lv_aload_n hx hb dX11_lay_43 rfl (lv_at hl 0 rfl) ?_
        refine va_get (D := D) (ci := 10) (v := .ref (ad 4)) (C := RX11) (T := TX11) (N := 12) hx hb hts hinX11_lay_X11 hown E.1 hP 0 (zO.get (oX11_at)) rfl 1 (by decide) (hts (.fieldLink RX11 19 "EdgeAndSpeed" "bench" "LEdgeAndSpeed$Bench;") (by decide +kernel)) (fun _ h9 => h9) rfl dX11_lay_44 ?_
        obtain ⟨x7, I8, h9, hf⟩ := zb2_e hf
        refine zgo_i (zrunV (As := [.ref (ad 4)]) (rest := []) S (c_X8_readInto l hD 4 (by decide) h9) (cwV 1 hts gX11_lay_X8_readInto rfl rfl rfl ddX8_readInto ⟨Nat.le_trans (Nat.le_of_ble_eq_true rfl) hfr, Nat.le_trans (Nat.le_of_ble_eq_true rfl) hlo⟩) (va_recv E.1 hP (q := (RX8, TX8, 4)) (ci := 7) rfl (zO.get (oX8_at))) E hP hS hl.1 rfl rfl (Nat.le_of_ble_eq_true rfl) dX11_lay_47) hS (fun H locs hP hS => ?_)
        refine lv_pop hx hb dX11_lay_50 rfl ?_
        refine lv_aload_n hx hb dX11_lay_51 rfl (lv_at hl 0 rfl) ?_
        refine va_get (D := D) (ci := 10) (v := .ref (ad 34)) (C := RX11) (T := TX11) (N := 12) hx hb hts hinX11_lay_X11 hown E.1 hP 0 (zO.get (oX11_at)) rfl 6 (by decide) (hts (.fieldLink RX11 52 "EdgeAndSpeed" "hands" "LEdgeAndSpeed$Hands;") (by decide +kernel)) (fun _ h9 => h9) rfl dX11_lay_52 ?_
        obtain ⟨I10, h11, hf⟩ := zb1_e hf
        refine zgo_v (zrunV (As := []) (rest := []) S (c_X2_forget l hD  h11) (cwV 0 hts gX11_lay_X2_forget rfl rfl rfl ddX2_forget ⟨Nat.le_trans (Nat.le_of_ble_eq_true rfl) hfr, Nat.le_trans (Nat.le_of_ble_eq_true rfl) hlo⟩) (va_recv E.1 hP (q := (RX2, TX2, 4)) (ci := 2) rfl (zO.get (oX2_at))) E hP hS hl.1 rfl rfl (Nat.le_of_ble_eq_true rfl) dX11_lay_55) hS (fun H locs hP hS => ?_)
        refine lv_aload_n hx hb dX11_lay_58 rfl (lv_at hl 0 rfl) ?_
        refine va_get (D := D) (ci := 10) (v := .ref (ad 24)) (C := RX11) (T := TX11) (N := 12) hx hb hts hinX11_lay_X11 hown E.1 hP 0 (zO.get (oX11_at)) rfl 3 (by decide) (hts (.fieldLink RX11 29 "EdgeAndSpeed" "habits" "LEdgeAndSpeed$Habits;") (by decide +kernel)) (fun _ h9 => h9) rfl dX11_lay_59 ?_
        obtain ⟨I12, h13, hf⟩ := zb1_e hf
        refine zgo_v (zrunV (As := []) (rest := []) S (c_X1_reset l hD 24 (by decide) h13) (cwV 0 hts gX11_lay_X1_reset rfl rfl rfl ddX1_reset ⟨Nat.le_trans (Nat.le_of_ble_eq_true rfl) hfr, Nat.le_trans (Nat.le_of_ble_eq_true rfl) hlo⟩) (va_recv E.1 hP (q := (RX1, TX1, 6)) (ci := 1) rfl (zO.get (oX1_at (by decide)))) E hP hS hl.1 rfl rfl (Nat.le_of_ble_eq_true rfl) dX11_lay_62) hS (fun H locs hP hS => ?_)
        refine lv_aload_n hx hb dX11_lay_65 rfl (lv_at hl 0 rfl) ?_
        refine lv_iconst (v := 0) hx hb dX11_lay_66 (by decide) ?_
        obtain ⟨I14, eI14⟩ := zex (va_up I12 0 (va_up (I12 0) 5 0))
        replace hf := zn_s eI14 hf
        refine zput (D := D) (ci := 10) (v := .int 0) (ty := .int) (C := RX11) (T := TX11) (N := 12) hx hb hts hinX11_lay_X11 tyX11 tyX11_ok nmX11 hown E.1 hP hD.D hS 0 (zO.get (oX11_at)) rfl 5 (by decide) (hts (.fieldLink RX11 116 "EdgeAndSpeed" "keptRows" "I") (by decide +kernel)) (fun _ h9 => h9) rfl (tyX11_ok 5 (by decide)) rfl rfl (Nat.le_of_ble_eq_true rfl) dX11_lay_67 (zO.setI (oX11_at) rfl eI14) (fun H locs hP hS => ?_)
        refine lv_aload_n hx hb dX11_lay_70 rfl (lv_at hl 0 rfl) ?_
        refine va_get (D := D) (ci := 10) (v := .ref (ad 4)) (C := RX11) (T := TX11) (N := 12) hx hb hts hinX11_lay_X11 hown E.1 hP 0 (zO.get (oX11_at)) rfl 1 (by decide) (hts (.fieldLink RX11 19 "EdgeAndSpeed" "bench" "LEdgeAndSpeed$Bench;") (by decide +kernel)) (fun _ h9 => h9) rfl dX11_lay_71 ?_
        refine va_getN (D := D) (ci := 0) (v := .int (I14 4 10)) (C := RX0) (T := TX0) (N := 17) hx hb hts hinX11_lay_X0 hown E.1 hP 4 (zO.get (zBat_o (zBat_C (by decide)))) rfl 10 (by decide) (zNfw_5 E.2.2) (fun _ h9 => h9) rfl dX11_lay_74 ?_
        exact hret _ _ hf _ _ _ _ hP hS dX11_lay_77
      · replace hf := zt k6 hf
        refine lv_bipush (v := (-2)) hx hb dX11_lay_36 (by decide) ?_
        exact hret _ _ hf _ _ _ _ hP hS dX11_lay_38
theorem c_X11_lay (l : Launch) {D : va_G} {a0 : Nat → Nat} {A : Nat → Prop} {cy : Nat → ClassId} {ad : Nat → Nat} (hD : zD A 74 ad) {I : zI} {J : zJ}  {rx : Int32} {rI : zI} (hf : f_X11_lay I J = some (rx, rI)) : Met l yX11_lay wsX11_lay { frames := 4, cells := 0, slots := 0, locals := 94 } (zPc D a0 A cy [.ref (ad 0)] (zw 74 (kC cy ad a0) ad I J)) (zQi D A rx (zw 74 (kC cy ad a0) ad rI J)) 0 0 A :=
  zmet RX11 (by decide) rfl rfl (Nat.le_of_ble_eq_true rfl) (fun p e R s m below meth c Q hfr hlo ls S0 hQ => w_X11_lay hfr hlo hD  hf S0 (fun tx tI hq H locs ls pc hP hS hd => by cases hq; exact hQ H locs _ hS (fun hx hb hr hlocks hfree => W.iret hx hb hr (fun t ht hW => ⟨⟨_, (), rfl, rfl, zht ht hP⟩, hS.F ht⟩) hfree hd hlocks)))
theorem ddX11_lay : yX11_lay.cls = RX11 ∧ yX11_lay.cls ≠ "java/lang/invoke/MethodHandle" ∧ yX11_lay.cls ≠ "java/lang/invoke/VarHandle" ∧ (parseMethodDescriptor yX11_lay.desc).map (fun d => d.parameters.length) = some 0 := by decide +kernel

def f_X0_hasPiece (I : zI) (J : zJ) (o : Nat) (p1 : Int32) : Option Int32 := zb1 (f_X11_within I J p1 0 ((I o 10) - 1)) (fun x1 => zg (x1 = 0 ∨ x1 = 1) (some x1))
theorem hinX0_hasPiece_X0 : ∀ w ∈ u_ws RX0 TX0 17, w ∈ wsX0_hasPiece := by decide +kernel
set_option maxHeartbeats 4000000 in
set_option maxRecDepth 100000 in
theorem w_X0_hasPiece {p : Program} {l : Launch} {e : Env} {R : Room} {s : State} {m : MethodId} {args : Array Value} {below : List Frame} {meth : Method} {c : Code} {Q : State → Prop} (hfr : 1 ≤ R.frames) (hlo : 22 ≤ R.locals) {D : va_G} {a0 : Nat → Nat} {A : Nat → Prop} {cy : Nat → ClassId} {ad : Nat → Nat} {N : Nat} {K : zK} (hD : zD A N ad) {I : zI} {J : zJ} (o : Nat) (hB : zBat N K cy ad o) (p1 : Int32) {rx : Int32} (hf : f_X0_hasPiece I J o p1 = some rx) {ls : Array Slot} (S0 : zSt p m c cX0_hasPiece 2 s args wsX0_hasPiece RX0 D a0 A cy (zw N K ad I J) [.ref (ad o), .int p1] ls) (hret : ∀ (tx : Int32), some tx = some rx → (tx = 0 ∨ tx = 1) → ∀ (H : Heap) (locs : List Loc) (ls : Array Slot) (pc : Nat), va_P D vwCl (zw N K ad I J) H → va_S A s.heap H locs → decode cX0_hasPiece pc = .ok (.ireturn, 1) → W p l e R s m args below meth c H locs 0 0 Q (F0 m pc ls [.int tx])) : W p l e R s m args below meth c s.heap [] 0 0 Q (F0 m 0 ls []) := by
  obtain ⟨S, E, hP, hl⟩ := S0
  obtain ⟨hx, hb, hml, hown, hts⟩ := id S
  have hS : va_S A s.heap s.heap [] := va_S.rf
  replace hl : lv_has ls 2 [(0, .ref (ad o)), (1, .int p1)] := hl
  unfold f_X0_hasPiece at hf
  refine lv_iload_n hx hb dX0_hasPiece_0 rfl (lv_at hl 1 rfl) ?_
  refine lv_iconst (v := 0) hx hb dX0_hasPiece_1 (by decide) ?_
  refine lv_aload_n hx hb dX0_hasPiece_2 rfl (lv_at hl 0 rfl) ?_
  refine va_get (D := D) (ci := 0) (v := .int (I o 10)) (C := RX0) (T := TX0) (N := 17) hx hb hts hinX0_hasPiece_X0 hown E.1 hP o (zO.get (zBat_o hB)) rfl 10 (by decide) (hts (.fieldLink RX0 58 "EdgeAndSpeed$Bench" "pieces" "I") (by decide +kernel)) (fun _ h9 => h9) rfl dX0_hasPiece_3 ?_
  refine lv_iconst (v := 1) hx hb dX0_hasPiece_6 (by decide) ?_
  refine lv_isub hx hb dX0_hasPiece_7 ?_
  obtain ⟨x1, h2, hf⟩ := zb1_e hf
  refine zgo_i (zrunSN (As := [.int p1, .int 0, .int ((I o 10) - 1)]) (rest := []) S (c_X11_within l hD p1 0 ((I o 10) - 1) h2) ⟨va_cnB (host := "EdgeAndSpeed") 3 hts gX0_hasPiece_X11_within_n105 rfl rfl rfl (zNmw_0 E.2.2) (hts (.initialized RX11) (by decide +kernel)) ddX11_within ⟨Nat.le_trans (Nat.le_of_ble_eq_true rfl) hfr, Nat.le_trans (Nat.le_of_ble_eq_true rfl) hlo⟩, hts (.static yX11_within) (by decide +kernel), trivial⟩ E hP hS hl.1 rfl rfl (Nat.le_of_ble_eq_true rfl) dX0_hasPiece_8) hS (fun H locs hP hS => ?_)
  obtain ⟨g0, hf⟩ := zg_i hf
  exact hret _ hf g0 _ _ _ _ hP hS dX0_hasPiece_11
theorem c_X0_hasPiece (l : Launch) {D : va_G} {a0 : Nat → Nat} {A : Nat → Prop} {cy : Nat → ClassId} {ad : Nat → Nat} {N : Nat} {K : zK} (hD : zD A N ad) {I : zI} {J : zJ} (o : Nat) (hB : zBat N K cy ad o) (p1 : Int32) {rx : Int32} (hf : f_X0_hasPiece I J o p1 = some rx) : Met l yX0_hasPiece wsX0_hasPiece { frames := 1, cells := 0, slots := 0, locals := 22 } (zPc D a0 A cy [.ref (ad o), .int p1] (zw N K ad I J)) (zQi D A rx (zw N K ad I J)) 0 0 A :=
  zmet RX0 (by decide) rfl rfl (Nat.le_of_ble_eq_true rfl) (fun p e R s m below meth c Q hfr hlo ls S0 hQ => w_X0_hasPiece hfr hlo hD o hB p1 hf S0 (fun tx hq n01 H locs ls pc hP hS hd => by cases hq; exact hQ H locs _ hS (fun hx hb hr hlocks hfree => W.zret hx hb hr (z01 n01) (fun t ht hW => ⟨⟨_, (), rfl, rfl, zht ht hP⟩, hS.F ht⟩) hfree hd hlocks)))
theorem ddX0_hasPiece : yX0_hasPiece.cls = RX0 ∧ yX0_hasPiece.cls ≠ "java/lang/invoke/MethodHandle" ∧ yX0_hasPiece.cls ≠ "java/lang/invoke/VarHandle" ∧ (parseMethodDescriptor yX0_hasPiece.desc).map (fun d => d.parameters.length) = some 1 := by decide +kernel

def f_X0_hasSpeed (I : zI) (J : zJ) (o : Nat) (p1 : Int32) : Option Int32 := zb1 (f_X11_within I J p1 0 ((I o 9) - 1)) (fun x1 => zg (x1 = 0 ∨ x1 = 1) (some x1))
theorem hinX0_hasSpeed_X0 : ∀ w ∈ u_ws RX0 TX0 17, w ∈ wsX0_hasSpeed := by decide +kernel
set_option maxHeartbeats 4000000 in
set_option maxRecDepth 100000 in
theorem w_X0_hasSpeed {p : Program} {l : Launch} {e : Env} {R : Room} {s : State} {m : MethodId} {args : Array Value} {below : List Frame} {meth : Method} {c : Code} {Q : State → Prop} (hfr : 1 ≤ R.frames) (hlo : 22 ≤ R.locals) {D : va_G} {a0 : Nat → Nat} {A : Nat → Prop} {cy : Nat → ClassId} {ad : Nat → Nat} {N : Nat} {K : zK} (hD : zD A N ad) {I : zI} {J : zJ} (o : Nat) (hB : zBat N K cy ad o) (p1 : Int32) {rx : Int32} (hf : f_X0_hasSpeed I J o p1 = some rx) {ls : Array Slot} (S0 : zSt p m c cX0_hasSpeed 2 s args wsX0_hasSpeed RX0 D a0 A cy (zw N K ad I J) [.ref (ad o), .int p1] ls) (hret : ∀ (tx : Int32), some tx = some rx → (tx = 0 ∨ tx = 1) → ∀ (H : Heap) (locs : List Loc) (ls : Array Slot) (pc : Nat), va_P D vwCl (zw N K ad I J) H → va_S A s.heap H locs → decode cX0_hasSpeed pc = .ok (.ireturn, 1) → W p l e R s m args below meth c H locs 0 0 Q (F0 m pc ls [.int tx])) : W p l e R s m args below meth c s.heap [] 0 0 Q (F0 m 0 ls []) := by
  obtain ⟨S, E, hP, hl⟩ := S0
  obtain ⟨hx, hb, hml, hown, hts⟩ := id S
  have hS : va_S A s.heap s.heap [] := va_S.rf
  replace hl : lv_has ls 2 [(0, .ref (ad o)), (1, .int p1)] := hl
  unfold f_X0_hasSpeed at hf
  refine lv_iload_n hx hb dX0_hasSpeed_0 rfl (lv_at hl 1 rfl) ?_
  refine lv_iconst (v := 0) hx hb dX0_hasSpeed_1 (by decide) ?_
  refine lv_aload_n hx hb dX0_hasSpeed_2 rfl (lv_at hl 0 rfl) ?_
  refine va_get (D := D) (ci := 0) (v := .int (I o 9)) (C := RX0) (T := TX0) (N := 17) hx hb hts hinX0_hasSpeed_X0 hown E.1 hP o (zO.get (zBat_o hB)) rfl 9 (by decide) (hts (.fieldLink RX0 54 "EdgeAndSpeed$Bench" "speeds" "I") (by decide +kernel)) (fun _ h9 => h9) rfl dX0_hasSpeed_3 ?_
  refine lv_iconst (v := 1) hx hb dX0_hasSpeed_6 (by decide) ?_
  refine lv_isub hx hb dX0_hasSpeed_7 ?_
  obtain ⟨x1, h2, hf⟩ := zb1_e hf
  refine zgo_i (zrunSN (As := [.int p1, .int 0, .int ((I o 9) - 1)]) (rest := []) S (c_X11_within l hD p1 0 ((I o 9) - 1) h2) ⟨va_cnB (host := "EdgeAndSpeed") 3 hts gX0_hasSpeed_X11_within_n105 rfl rfl rfl (zNmw_0 E.2.2) (hts (.initialized RX11) (by decide +kernel)) ddX11_within ⟨Nat.le_trans (Nat.le_of_ble_eq_true rfl) hfr, Nat.le_trans (Nat.le_of_ble_eq_true rfl) hlo⟩, hts (.static yX11_within) (by decide +kernel), trivial⟩ E hP hS hl.1 rfl rfl (Nat.le_of_ble_eq_true rfl) dX0_hasSpeed_8) hS (fun H locs hP hS => ?_)
  obtain ⟨g0, hf⟩ := zg_i hf
  exact hret _ hf g0 _ _ _ _ hP hS dX0_hasSpeed_11
theorem c_X0_hasSpeed (l : Launch) {D : va_G} {a0 : Nat → Nat} {A : Nat → Prop} {cy : Nat → ClassId} {ad : Nat → Nat} {N : Nat} {K : zK} (hD : zD A N ad) {I : zI} {J : zJ} (o : Nat) (hB : zBat N K cy ad o) (p1 : Int32) {rx : Int32} (hf : f_X0_hasSpeed I J o p1 = some rx) : Met l yX0_hasSpeed wsX0_hasSpeed { frames := 1, cells := 0, slots := 0, locals := 22 } (zPc D a0 A cy [.ref (ad o), .int p1] (zw N K ad I J)) (zQi D A rx (zw N K ad I J)) 0 0 A :=
  zmet RX0 (by decide) rfl rfl (Nat.le_of_ble_eq_true rfl) (fun p e R s m below meth c Q hfr hlo ls S0 hQ => w_X0_hasSpeed hfr hlo hD o hB p1 hf S0 (fun tx hq n01 H locs ls pc hP hS hd => by cases hq; exact hQ H locs _ hS (fun hx hb hr hlocks hfree => W.zret hx hb hr (z01 n01) (fun t ht hW => ⟨⟨_, (), rfl, rfl, zht ht hP⟩, hS.F ht⟩) hfree hd hlocks)))
theorem ddX0_hasSpeed : yX0_hasSpeed.cls = RX0 ∧ yX0_hasSpeed.cls ≠ "java/lang/invoke/MethodHandle" ∧ yX0_hasSpeed.cls ≠ "java/lang/invoke/VarHandle" ∧ (parseMethodDescriptor yX0_hasSpeed.desc).map (fun d => d.parameters.length) = some 1 := by decide +kernel

def f_X0_hasSteel (I : zI) (J : zJ) (o : Nat) (p1 : Int32) : Option Int32 := zb1 (f_X11_within I J p1 0 ((I o 11) - 1)) (fun x1 => zg (x1 = 0 ∨ x1 = 1) (some x1))
theorem hinX0_hasSteel_X0 : ∀ w ∈ u_ws RX0 TX0 17, w ∈ wsX0_hasSteel := by decide +kernel
set_option maxHeartbeats 4000000 in
set_option maxRecDepth 100000 in
theorem w_X0_hasSteel {p : Program} {l : Launch} {e : Env} {R : Room} {s : State} {m : MethodId} {args : Array Value} {below : List Frame} {meth : Method} {c : Code} {Q : State → Prop} (hfr : 1 ≤ R.frames) (hlo : 22 ≤ R.locals) {D : va_G} {a0 : Nat → Nat} {A : Nat → Prop} {cy : Nat → ClassId} {ad : Nat → Nat} {N : Nat} {K : zK} (hD : zD A N ad) {I : zI} {J : zJ} (o : Nat) (hB : zBat N K cy ad o) (p1 : Int32) {rx : Int32} (hf : f_X0_hasSteel I J o p1 = some rx) {ls : Array Slot} (S0 : zSt p m c cX0_hasSteel 2 s args wsX0_hasSteel RX0 D a0 A cy (zw N K ad I J) [.ref (ad o), .int p1] ls) (hret : ∀ (tx : Int32), some tx = some rx → (tx = 0 ∨ tx = 1) → ∀ (H : Heap) (locs : List Loc) (ls : Array Slot) (pc : Nat), va_P D vwCl (zw N K ad I J) H → va_S A s.heap H locs → decode cX0_hasSteel pc = .ok (.ireturn, 1) → W p l e R s m args below meth c H locs 0 0 Q (F0 m pc ls [.int tx])) : W p l e R s m args below meth c s.heap [] 0 0 Q (F0 m 0 ls []) := by
  obtain ⟨S, E, hP, hl⟩ := S0
  obtain ⟨hx, hb, hml, hown, hts⟩ := id S
  have hS : va_S A s.heap s.heap [] := va_S.rf
  replace hl : lv_has ls 2 [(0, .ref (ad o)), (1, .int p1)] := hl
  unfold f_X0_hasSteel at hf
  refine lv_iload_n hx hb dX0_hasSteel_0 rfl (lv_at hl 1 rfl) ?_
  refine lv_iconst (v := 0) hx hb dX0_hasSteel_1 (by decide) ?_
  refine lv_aload_n hx hb dX0_hasSteel_2 rfl (lv_at hl 0 rfl) ?_
  refine va_get (D := D) (ci := 0) (v := .int (I o 11)) (C := RX0) (T := TX0) (N := 17) hx hb hts hinX0_hasSteel_X0 hown E.1 hP o (zO.get (zBat_o hB)) rfl 11 (by decide) (hts (.fieldLink RX0 61 "EdgeAndSpeed$Bench" "steels" "I") (by decide +kernel)) (fun _ h9 => h9) rfl dX0_hasSteel_3 ?_
  refine lv_iconst (v := 1) hx hb dX0_hasSteel_6 (by decide) ?_
  refine lv_isub hx hb dX0_hasSteel_7 ?_
  obtain ⟨x1, h2, hf⟩ := zb1_e hf
  refine zgo_i (zrunSN (As := [.int p1, .int 0, .int ((I o 11) - 1)]) (rest := []) S (c_X11_within l hD p1 0 ((I o 11) - 1) h2) ⟨va_cnB (host := "EdgeAndSpeed") 3 hts gX0_hasSteel_X11_within_n105 rfl rfl rfl (zNmw_0 E.2.2) (hts (.initialized RX11) (by decide +kernel)) ddX11_within ⟨Nat.le_trans (Nat.le_of_ble_eq_true rfl) hfr, Nat.le_trans (Nat.le_of_ble_eq_true rfl) hlo⟩, hts (.static yX11_within) (by decide +kernel), trivial⟩ E hP hS hl.1 rfl rfl (Nat.le_of_ble_eq_true rfl) dX0_hasSteel_8) hS (fun H locs hP hS => ?_)
  obtain ⟨g0, hf⟩ := zg_i hf
  exact hret _ hf g0 _ _ _ _ hP hS dX0_hasSteel_11
theorem c_X0_hasSteel (l : Launch) {D : va_G} {a0 : Nat → Nat} {A : Nat → Prop} {cy : Nat → ClassId} {ad : Nat → Nat} {N : Nat} {K : zK} (hD : zD A N ad) {I : zI} {J : zJ} (o : Nat) (hB : zBat N K cy ad o) (p1 : Int32) {rx : Int32} (hf : f_X0_hasSteel I J o p1 = some rx) : Met l yX0_hasSteel wsX0_hasSteel { frames := 1, cells := 0, slots := 0, locals := 22 } (zPc D a0 A cy [.ref (ad o), .int p1] (zw N K ad I J)) (zQi D A rx (zw N K ad I J)) 0 0 A :=
  zmet RX0 (by decide) rfl rfl (Nat.le_of_ble_eq_true rfl) (fun p e R s m below meth c Q hfr hlo ls S0 hQ => w_X0_hasSteel hfr hlo hD o hB p1 hf S0 (fun tx hq n01 H locs ls pc hP hS hd => by cases hq; exact hQ H locs _ hS (fun hx hb hr hlocks hfree => W.zret hx hb hr (z01 n01) (fun t ht hW => ⟨⟨_, (), rfl, rfl, zht ht hP⟩, hS.F ht⟩) hfree hd hlocks)))
theorem ddX0_hasSteel : yX0_hasSteel.cls = RX0 ∧ yX0_hasSteel.cls ≠ "java/lang/invoke/MethodHandle" ∧ yX0_hasSteel.cls ≠ "java/lang/invoke/VarHandle" ∧ (parseMethodDescriptor yX0_hasSteel.desc).map (fun d => d.parameters.length) = some 1 := by decide +kernel

def f_X0_minutes (I : zI) (J : zJ) (o : Nat) (p1 : Int32) (p2 : Int32) : Option Int32 := zb1 (f_X11_at I J (o + 1) 6 p2) (fun x1 => (if 1 ≤ x1 then zb1 (f_X11_at I J (o + 3) 8 p1) (fun x4 => zg (¬ x1 = 0) (some ((((100 * x4) + x1) - 1) / x1))) else some 0))
theorem hinX0_minutes_X0 : ∀ w ∈ u_ws RX0 TX0 17, w ∈ wsX0_minutes := by decide +kernel
set_option maxHeartbeats 4000000 in
set_option maxRecDepth 100000 in
theorem w_X0_minutes {p : Program} {l : Launch} {e : Env} {R : Room} {s : State} {m : MethodId} {args : Array Value} {below : List Frame} {meth : Method} {c : Code} {Q : State → Prop} (hfr : 1 ≤ R.frames) (hlo : 21 ≤ R.locals) {D : va_G} {a0 : Nat → Nat} {A : Nat → Prop} {cy : Nat → ClassId} {ad : Nat → Nat} {N : Nat} {K : zK} (hD : zD A N ad) {I : zI} {J : zJ} (o : Nat) (hB : zBat N K cy ad o) (p1 : Int32) (p2 : Int32) {rx : Int32} (hf : f_X0_minutes I J o p1 p2 = some rx) {ls : Array Slot} (S0 : zSt p m c cX0_minutes 4 s args wsX0_minutes RX0 D a0 A cy (zw N K ad I J) [.ref (ad o), .int p1, .int p2] ls) (hret : ∀ (tx : Int32), some tx = some rx → ∀ (H : Heap) (locs : List Loc) (ls : Array Slot) (pc : Nat), va_P D vwCl (zw N K ad I J) H → va_S A s.heap H locs → decode cX0_minutes pc = .ok (.ireturn, 1) → W p l e R s m args below meth c H locs 0 0 Q (F0 m pc ls [.int tx])) : W p l e R s m args below meth c s.heap [] 0 0 Q (F0 m 0 ls []) := by
  obtain ⟨S, E, hP, hl⟩ := S0
  obtain ⟨hx, hb, hml, hown, hts⟩ := id S
  have hS : va_S A s.heap s.heap [] := va_S.rf
  replace hl : lv_has ls 4 [(0, .ref (ad o)), (1, .int p1), (2, .int p2)] := hl
  unfold f_X0_minutes at hf
  refine lv_aload_n hx hb dX0_minutes_0 rfl (lv_at hl 0 rfl) ?_
  refine va_get (D := D) (ci := 0) (v := .ref (ad (o + 1))) (C := RX0) (T := TX0) (N := 17) hx hb hts hinX0_minutes_X0 hown E.1 hP o (zO.get (zBat_o hB)) rfl 0 (by decide) (hts (.fieldLink RX0 9 "EdgeAndSpeed$Bench" "inches" "[I") (by decide +kernel)) (fun _ h9 => h9) rfl dX0_minutes_1 ?_
  refine lv_iload_n hx hb dX0_minutes_4 rfl (lv_at hl 2 rfl) ?_
  obtain ⟨x1, h2, hf⟩ := zb1_e hf
  refine zgo_i (zrunSN (As := [.ref (ad (o + 1)), .int p2]) (rest := []) S (c_X11_at l hD (o + 1) 6 (zBat_0 hB) p2 h2) ⟨va_cnB (host := "EdgeAndSpeed") 2 hts gX0_minutes_X11_at_n85 rfl rfl rfl (zNmw_1 E.2.2) (hts (.initialized RX11) (by decide +kernel)) ddX11_at ⟨Nat.le_trans (Nat.le_of_ble_eq_true rfl) hfr, Nat.le_trans (Nat.le_of_ble_eq_true rfl) hlo⟩, hts (.static yX11_at) (by decide +kernel), trivial⟩ E hP hS hl.1 rfl rfl (Nat.le_of_ble_eq_true rfl) dX0_minutes_5) hS (fun H locs hP hS => ?_)
  refine lv_istore_n (lv' := [(3, .int x1), (0, .ref (ad o)), (1, .int p1), (2, .int p2)]) hx hb dX0_minutes_8 rfl hl (by decide) rfl (fun ls hl => ?_)
  refine lv_iload_n hx hb dX0_minutes_9 rfl (lv_at hl 0 rfl) ?_
  refine lv_iconst (v := 1) hx hb dX0_minutes_10 (by decide) ?_
  refine lv_icmp_ge (tgt := 18) hx hb dX0_minutes_11 (by decide) (fun k3 => ?_) (fun k3 => ?_)
  · replace hf := zt k3 hf
    refine lv_bipush (v := 100) hx hb dX0_minutes_18 (by decide) ?_
    refine lv_aload_n hx hb dX0_minutes_20 rfl (lv_at hl 1 rfl) ?_
    refine va_get (D := D) (ci := 0) (v := .ref (ad (o + 3))) (C := RX0) (T := TX0) (N := 17) hx hb hts hinX0_minutes_X0 hown E.1 hP o (zO.get (zBat_o hB)) rfl 2 (by decide) (hts (.fieldLink RX0 18 "EdgeAndSpeed$Bench" "lengths" "[I") (by decide +kernel)) (fun _ h9 => h9) rfl dX0_minutes_21 ?_
    refine lv_iload_n hx hb dX0_minutes_24 rfl (lv_at hl 2 rfl) ?_
    obtain ⟨x4, h5, hf⟩ := zb1_e hf
    refine zgo_i (zrunSN (As := [.ref (ad (o + 3)), .int p1]) (rest := [.int 100]) S (c_X11_at l hD (o + 3) 8 (zBat_2 hB) p1 h5) ⟨va_cnB (host := "EdgeAndSpeed") 2 hts gX0_minutes_X11_at_n85 rfl rfl rfl (zNmw_1 E.2.2) (hts (.initialized RX11) (by decide +kernel)) ddX11_at ⟨Nat.le_trans (Nat.le_of_ble_eq_true rfl) hfr, Nat.le_trans (Nat.le_of_ble_eq_true rfl) hlo⟩, hts (.static yX11_at) (by decide +kernel), trivial⟩ E hP hS hl.1 rfl rfl (Nat.le_of_ble_eq_true rfl) dX0_minutes_25) hS (fun H locs hP hS => ?_)
    refine lv_imul hx hb dX0_minutes_28 ?_
    refine lv_iload_n hx hb dX0_minutes_29 rfl (lv_at hl 0 rfl) ?_
    refine lv_iadd hx hb dX0_minutes_30 ?_
    refine lv_iconst (v := 1) hx hb dX0_minutes_31 (by decide) ?_
    refine lv_isub hx hb dX0_minutes_32 ?_
    refine lv_iload_n hx hb dX0_minutes_33 rfl (lv_at hl 0 rfl) ?_
    obtain ⟨g6, hf⟩ := zg_i hf
    refine lv_idiv hx hb dX0_minutes_34 g6 ?_
    exact hret _ hf _ _ _ _ hP hS dX0_minutes_35
  · replace hf := zf k3 hf
    refine lv_iconst (v := 0) hx hb dX0_minutes_14 (by decide) ?_
    refine lv_goto (tgt := 35) hx hb dX0_minutes_15 (by decide) ?_
    exact hret _ hf _ _ _ _ hP hS dX0_minutes_35
theorem c_X0_minutes (l : Launch) {D : va_G} {a0 : Nat → Nat} {A : Nat → Prop} {cy : Nat → ClassId} {ad : Nat → Nat} {N : Nat} {K : zK} (hD : zD A N ad) {I : zI} {J : zJ} (o : Nat) (hB : zBat N K cy ad o) (p1 : Int32) (p2 : Int32) {rx : Int32} (hf : f_X0_minutes I J o p1 p2 = some rx) : Met l yX0_minutes wsX0_minutes { frames := 1, cells := 0, slots := 0, locals := 21 } (zPc D a0 A cy [.ref (ad o), .int p1, .int p2] (zw N K ad I J)) (zQi D A rx (zw N K ad I J)) 0 0 A :=
  zmet RX0 (by decide) rfl rfl (Nat.le_of_ble_eq_true rfl) (fun p e R s m below meth c Q hfr hlo ls S0 hQ => w_X0_minutes hfr hlo hD o hB p1 p2 hf S0 (fun tx hq H locs ls pc hP hS hd => by cases hq; exact hQ H locs _ hS (fun hx hb hr hlocks hfree => W.iret hx hb hr (fun t ht hW => ⟨⟨_, (), rfl, rfl, zht ht hP⟩, hS.F ht⟩) hfree hd hlocks)))
theorem ddX0_minutes : yX0_minutes.cls = RX0 ∧ yX0_minutes.cls ≠ "java/lang/invoke/MethodHandle" ∧ yX0_minutes.cls ≠ "java/lang/invoke/VarHandle" ∧ (parseMethodDescriptor yX0_minutes.desc).map (fun d => d.parameters.length) = some 2 := by decide +kernel

def f_X0_wears (I : zI) (J : zJ) (o : Nat) (p1 : Int32) (p2 : Int32) (p3 : Int32) (p4 : Int32) : Option Int32 := zb1 (f_X11_at I J (o + 3) 8 p1) (fun x1 => zb1 (f_X11_at I J (o + 2) 6 p2) (fun x3 => zb1 (f_X11_at I J (o + 7) 4 p4) (fun x5 => some ((((x1 * x3) * p3) * x5) / 10000))))
theorem hinX0_wears_X0 : ∀ w ∈ u_ws RX0 TX0 17, w ∈ wsX0_wears := by decide +kernel
set_option maxHeartbeats 4000000 in
set_option maxRecDepth 100000 in
theorem w_X0_wears {p : Program} {l : Launch} {e : Env} {R : Room} {s : State} {m : MethodId} {args : Array Value} {below : List Frame} {meth : Method} {c : Code} {Q : State → Prop} (hfr : 1 ≤ R.frames) (hlo : 21 ≤ R.locals) {D : va_G} {a0 : Nat → Nat} {A : Nat → Prop} {cy : Nat → ClassId} {ad : Nat → Nat} {N : Nat} {K : zK} (hD : zD A N ad) {I : zI} {J : zJ} (o : Nat) (hB : zBat N K cy ad o) (p1 : Int32) (p2 : Int32) (p3 : Int32) (p4 : Int32) {rx : Int32} (hf : f_X0_wears I J o p1 p2 p3 p4 = some rx) {ls : Array Slot} (S0 : zSt p m c cX0_wears 5 s args wsX0_wears RX0 D a0 A cy (zw N K ad I J) [.ref (ad o), .int p1, .int p2, .int p3, .int p4] ls) (hret : ∀ (tx : Int32), some tx = some rx → ∀ (H : Heap) (locs : List Loc) (ls : Array Slot) (pc : Nat), va_P D vwCl (zw N K ad I J) H → va_S A s.heap H locs → decode cX0_wears pc = .ok (.ireturn, 1) → W p l e R s m args below meth c H locs 0 0 Q (F0 m pc ls [.int tx])) : W p l e R s m args below meth c s.heap [] 0 0 Q (F0 m 0 ls []) := by
  obtain ⟨S, E, hP, hl⟩ := S0
  obtain ⟨hx, hb, hml, hown, hts⟩ := id S
  have hS : va_S A s.heap s.heap [] := va_S.rf
  replace hl : lv_has ls 5 [(0, .ref (ad o)), (1, .int p1), (2, .int p2), (3, .int p3), (4, .int p4)] := hl
  unfold f_X0_wears at hf
  refine lv_aload_n hx hb dX0_wears_0 rfl (lv_at hl 0 rfl) ?_
  refine va_get (D := D) (ci := 0) (v := .ref (ad (o + 3))) (C := RX0) (T := TX0) (N := 17) hx hb hts hinX0_wears_X0 hown E.1 hP o (zO.get (zBat_o hB)) rfl 2 (by decide) (hts (.fieldLink RX0 18 "EdgeAndSpeed$Bench" "lengths" "[I") (by decide +kernel)) (fun _ h9 => h9) rfl dX0_wears_1 ?_
  refine lv_iload_n hx hb dX0_wears_4 rfl (lv_at hl 1 rfl) ?_
  obtain ⟨x1, h2, hf⟩ := zb1_e hf
  refine zgo_i (zrunSN (As := [.ref (ad (o + 3)), .int p1]) (rest := []) S (c_X11_at l hD (o + 3) 8 (zBat_2 hB) p1 h2) ⟨va_cnB (host := "EdgeAndSpeed") 2 hts gX0_wears_X11_at_n85 rfl rfl rfl (zNmw_1 E.2.2) (hts (.initialized RX11) (by decide +kernel)) ddX11_at ⟨Nat.le_trans (Nat.le_of_ble_eq_true rfl) hfr, Nat.le_trans (Nat.le_of_ble_eq_true rfl) hlo⟩, hts (.static yX11_at) (by decide +kernel), trivial⟩ E hP hS hl.1 rfl rfl (Nat.le_of_ble_eq_true rfl) dX0_wears_5) hS (fun H locs hP hS => ?_)
  refine lv_aload_n hx hb dX0_wears_8 rfl (lv_at hl 0 rfl) ?_
  refine va_get (D := D) (ci := 0) (v := .ref (ad (o + 2))) (C := RX0) (T := TX0) (N := 17) hx hb hts hinX0_wears_X0 hown E.1 hP o (zO.get (zBat_o hB)) rfl 1 (by decide) (hts (.fieldLink RX0 15 "EdgeAndSpeed$Bench" "wearing" "[I") (by decide +kernel)) (fun _ h9 => h9) rfl dX0_wears_9 ?_
  refine lv_iload_n hx hb dX0_wears_12 rfl (lv_at hl 2 rfl) ?_
  obtain ⟨x3, h4, hf⟩ := zb1_e hf
  refine zgo_i (zrunSN (As := [.ref (ad (o + 2)), .int p2]) (rest := [.int x1]) S (c_X11_at l hD (o + 2) 6 (zBat_1 hB) p2 h4) ⟨va_cnB (host := "EdgeAndSpeed") 2 hts gX0_wears_X11_at_n85 rfl rfl rfl (zNmw_1 E.2.2) (hts (.initialized RX11) (by decide +kernel)) ddX11_at ⟨Nat.le_trans (Nat.le_of_ble_eq_true rfl) hfr, Nat.le_trans (Nat.le_of_ble_eq_true rfl) hlo⟩, hts (.static yX11_at) (by decide +kernel), trivial⟩ E hP hS hl.1 rfl rfl (Nat.le_of_ble_eq_true rfl) dX0_wears_13) hS (fun H locs hP hS => ?_)
  refine lv_imul hx hb dX0_wears_16 ?_
  refine lv_iload_n hx hb dX0_wears_17 rfl (lv_at hl 3 rfl) ?_
  refine lv_imul hx hb dX0_wears_18 ?_
  refine lv_aload_n hx hb dX0_wears_19 rfl (lv_at hl 0 rfl) ?_
  refine va_get (D := D) (ci := 0) (v := .ref (ad (o + 7))) (C := RX0) (T := TX0) (N := 17) hx hb hts hinX0_wears_X0 hown E.1 hP o (zO.get (zBat_o hB)) rfl 6 (by decide) (hts (.fieldLink RX0 30 "EdgeAndSpeed$Bench" "hardness" "[I") (by decide +kernel)) (fun _ h9 => h9) rfl dX0_wears_20 ?_
  refine lv_iload hx hb dX0_wears_23 (lv_at hl 4 rfl) ?_
  obtain ⟨x5, h6, hf⟩ := zb1_e hf
  refine zgo_i (zrunSN (As := [.ref (ad (o + 7)), .int p4]) (rest := [.int ((x1 * x3) * p3)]) S (c_X11_at l hD (o + 7) 4 (zBat_6 hB) p4 h6) ⟨va_cnB (host := "EdgeAndSpeed") 2 hts gX0_wears_X11_at_n85 rfl rfl rfl (zNmw_1 E.2.2) (hts (.initialized RX11) (by decide +kernel)) ddX11_at ⟨Nat.le_trans (Nat.le_of_ble_eq_true rfl) hfr, Nat.le_trans (Nat.le_of_ble_eq_true rfl) hlo⟩, hts (.static yX11_at) (by decide +kernel), trivial⟩ E hP hS hl.1 rfl rfl (Nat.le_of_ble_eq_true rfl) dX0_wears_25) hS (fun H locs hP hS => ?_)
  refine lv_imul hx hb dX0_wears_28 ?_
  refine lv_sipush (v := 10000) hx hb dX0_wears_29 (by decide) ?_
  refine lv_idiv hx hb dX0_wears_32 (by decide) ?_
  exact hret _ hf _ _ _ _ hP hS dX0_wears_33
theorem c_X0_wears (l : Launch) {D : va_G} {a0 : Nat → Nat} {A : Nat → Prop} {cy : Nat → ClassId} {ad : Nat → Nat} {N : Nat} {K : zK} (hD : zD A N ad) {I : zI} {J : zJ} (o : Nat) (hB : zBat N K cy ad o) (p1 : Int32) (p2 : Int32) (p3 : Int32) (p4 : Int32) {rx : Int32} (hf : f_X0_wears I J o p1 p2 p3 p4 = some rx) : Met l yX0_wears wsX0_wears { frames := 1, cells := 0, slots := 0, locals := 21 } (zPc D a0 A cy [.ref (ad o), .int p1, .int p2, .int p3, .int p4] (zw N K ad I J)) (zQi D A rx (zw N K ad I J)) 0 0 A :=
  zmet RX0 (by decide) rfl rfl (Nat.le_of_ble_eq_true rfl) (fun p e R s m below meth c Q hfr hlo ls S0 hQ => w_X0_wears hfr hlo hD o hB p1 p2 p3 p4 hf S0 (fun tx hq H locs ls pc hP hS hd => by cases hq; exact hQ H locs _ hS (fun hx hb hr hlocks hfree => W.iret hx hb hr (fun t ht hW => ⟨⟨_, (), rfl, rfl, zht ht hP⟩, hS.F ht⟩) hfree hd hlocks)))
theorem ddX0_wears : yX0_wears.cls = RX0 ∧ yX0_wears.cls ≠ "java/lang/invoke/MethodHandle" ∧ yX0_wears.cls ≠ "java/lang/invoke/VarHandle" ∧ (parseMethodDescriptor yX0_wears.desc).map (fun d => d.parameters.length) = some 4 := by decide +kernel

def f_X0_mayCut (I : zI) (J : zJ) (o : Nat) (p1 : Int32) (p2 : Int32) : Option Int32 := (if (I o 15) < p2 then some 0 else zb1 (f_X11_at I J (o + 1) 6 p1) (fun x2 => (if (I o 16) < (x2 * p2) then some 0 else some 1)))
theorem hinX0_mayCut_X0 : ∀ w ∈ u_ws RX0 TX0 17, w ∈ wsX0_mayCut := by decide +kernel
set_option maxHeartbeats 4000000 in
set_option maxRecDepth 100000 in
theorem w_X0_mayCut {p : Program} {l : Launch} {e : Env} {R : Room} {s : State} {m : MethodId} {args : Array Value} {below : List Frame} {meth : Method} {c : Code} {Q : State → Prop} (hfr : 1 ≤ R.frames) (hlo : 21 ≤ R.locals) {D : va_G} {a0 : Nat → Nat} {A : Nat → Prop} {cy : Nat → ClassId} {ad : Nat → Nat} {N : Nat} {K : zK} (hD : zD A N ad) {I : zI} {J : zJ} (o : Nat) (hB : zBat N K cy ad o) (p1 : Int32) (p2 : Int32) {rx : Int32} (hf : f_X0_mayCut I J o p1 p2 = some rx) {ls : Array Slot} (S0 : zSt p m c cX0_mayCut 3 s args wsX0_mayCut RX0 D a0 A cy (zw N K ad I J) [.ref (ad o), .int p1, .int p2] ls) (hret : ∀ (tx : Int32), some tx = some rx → (tx = 0 ∨ tx = 1) → ∀ (H : Heap) (locs : List Loc) (ls : Array Slot) (pc : Nat), va_P D vwCl (zw N K ad I J) H → va_S A s.heap H locs → decode cX0_mayCut pc = .ok (.ireturn, 1) → W p l e R s m args below meth c H locs 0 0 Q (F0 m pc ls [.int tx])) : W p l e R s m args below meth c s.heap [] 0 0 Q (F0 m 0 ls []) := by
  obtain ⟨S, E, hP, hl⟩ := S0
  obtain ⟨hx, hb, hml, hown, hts⟩ := id S
  have hS : va_S A s.heap s.heap [] := va_S.rf
  replace hl : lv_has ls 3 [(0, .ref (ad o)), (1, .int p1), (2, .int p2)] := hl
  unfold f_X0_mayCut at hf
  refine lv_iload_n hx hb dX0_mayCut_0 rfl (lv_at hl 2 rfl) ?_
  refine lv_aload_n hx hb dX0_mayCut_1 rfl (lv_at hl 0 rfl) ?_
  refine va_get (D := D) (ci := 0) (v := .int (I o 15)) (C := RX0) (T := TX0) (N := 17) hx hb hts hinX0_mayCut_X0 hown E.1 hP o (zO.get (zBat_o hB)) rfl 15 (by decide) (hts (.fieldLink RX0 73 "EdgeAndSpeed$Bench" "mostSteps" "I") (by decide +kernel)) (fun _ h9 => h9) rfl dX0_mayCut_2 ?_
  refine lv_icmp_gt (tgt := 29) hx hb dX0_mayCut_5 (by decide) (fun k1 => ?_) (fun k1 => ?_)
  · replace hf := zt k1 hf
    refine lv_iconst (v := 0) hx hb dX0_mayCut_29 (by decide) ?_
    exact hret _ hf (Or.inl rfl) _ _ _ _ hP hS dX0_mayCut_30
  · replace hf := zf k1 hf
    refine lv_aload_n hx hb dX0_mayCut_8 rfl (lv_at hl 0 rfl) ?_
    refine va_get (D := D) (ci := 0) (v := .ref (ad (o + 1))) (C := RX0) (T := TX0) (N := 17) hx hb hts hinX0_mayCut_X0 hown E.1 hP o (zO.get (zBat_o hB)) rfl 0 (by decide) (hts (.fieldLink RX0 9 "EdgeAndSpeed$Bench" "inches" "[I") (by decide +kernel)) (fun _ h9 => h9) rfl dX0_mayCut_9 ?_
    refine lv_iload_n hx hb dX0_mayCut_12 rfl (lv_at hl 1 rfl) ?_
    obtain ⟨x2, h3, hf⟩ := zb1_e hf
    refine zgo_i (zrunSN (As := [.ref (ad (o + 1)), .int p1]) (rest := []) S (c_X11_at l hD (o + 1) 6 (zBat_0 hB) p1 h3) ⟨va_cnB (host := "EdgeAndSpeed") 2 hts gX0_mayCut_X11_at_n85 rfl rfl rfl (zNmw_1 E.2.2) (hts (.initialized RX11) (by decide +kernel)) ddX11_at ⟨Nat.le_trans (Nat.le_of_ble_eq_true rfl) hfr, Nat.le_trans (Nat.le_of_ble_eq_true rfl) hlo⟩, hts (.static yX11_at) (by decide +kernel), trivial⟩ E hP hS hl.1 rfl rfl (Nat.le_of_ble_eq_true rfl) dX0_mayCut_13) hS (fun H locs hP hS => ?_)
    refine lv_iload_n hx hb dX0_mayCut_16 rfl (lv_at hl 2 rfl) ?_
    refine lv_imul hx hb dX0_mayCut_17 ?_
    refine lv_aload_n hx hb dX0_mayCut_18 rfl (lv_at hl 0 rfl) ?_
    refine va_get (D := D) (ci := 0) (v := .int (I o 16)) (C := RX0) (T := TX0) (N := 17) hx hb hts hinX0_mayCut_X0 hown E.1 hP o (zO.get (zBat_o hB)) rfl 16 (by decide) (hts (.fieldLink RX0 76 "EdgeAndSpeed$Bench" "mostWork" "I") (by decide +kernel)) (fun _ h9 => h9) rfl dX0_mayCut_19 ?_
    refine lv_icmp_gt (tgt := 29) hx hb dX0_mayCut_22 (by decide) (fun k4 => ?_) (fun k4 => ?_)
    · replace hf := zt k4 hf
      refine lv_iconst (v := 0) hx hb dX0_mayCut_29 (by decide) ?_
      exact hret _ hf (Or.inl rfl) _ _ _ _ hP hS dX0_mayCut_30
    · replace hf := zf k4 hf
      refine lv_iconst (v := 1) hx hb dX0_mayCut_25 (by decide) ?_
      refine lv_goto (tgt := 30) hx hb dX0_mayCut_26 (by decide) ?_
      exact hret _ hf (Or.inr rfl) _ _ _ _ hP hS dX0_mayCut_30
theorem c_X0_mayCut (l : Launch) {D : va_G} {a0 : Nat → Nat} {A : Nat → Prop} {cy : Nat → ClassId} {ad : Nat → Nat} {N : Nat} {K : zK} (hD : zD A N ad) {I : zI} {J : zJ} (o : Nat) (hB : zBat N K cy ad o) (p1 : Int32) (p2 : Int32) {rx : Int32} (hf : f_X0_mayCut I J o p1 p2 = some rx) : Met l yX0_mayCut wsX0_mayCut { frames := 1, cells := 0, slots := 0, locals := 21 } (zPc D a0 A cy [.ref (ad o), .int p1, .int p2] (zw N K ad I J)) (zQi D A rx (zw N K ad I J)) 0 0 A :=
  zmet RX0 (by decide) rfl rfl (Nat.le_of_ble_eq_true rfl) (fun p e R s m below meth c Q hfr hlo ls S0 hQ => w_X0_mayCut hfr hlo hD o hB p1 p2 hf S0 (fun tx hq n01 H locs ls pc hP hS hd => by cases hq; exact hQ H locs _ hS (fun hx hb hr hlocks hfree => W.zret hx hb hr (z01 n01) (fun t ht hW => ⟨⟨_, (), rfl, rfl, zht ht hP⟩, hS.F ht⟩) hfree hd hlocks)))
theorem ddX0_mayCut : yX0_mayCut.cls = RX0 ∧ yX0_mayCut.cls ≠ "java/lang/invoke/MethodHandle" ∧ yX0_mayCut.cls ≠ "java/lang/invoke/VarHandle" ∧ (parseMethodDescriptor yX0_mayCut.desc).map (fun d => d.parameters.length) = some 2 := by decide +kernel

def f_X11_pass (I : zI) (J : zJ) (p1 : Int32) (p2 : Int32) (p3 : Int32) (p4 : Int32) (p5 : Int32) : Option Int32 := zb1 (f_X0_hasPiece I J 4 p1) (fun x1 => (if x1 = 0 then some (-1) else zb1 (f_X0_hasSpeed I J 4 p2) (fun x4 => (if x4 = 0 then some (-1) else zb1 (f_X0_hasSteel I J 4 p4) (fun x7 => (if x7 = 0 then some (-1) else zb1 (f_X11_within I J p3 1 8) (fun x10 => (if x10 = 0 then some (-1) else zb1 (f_X11_within I J p5 0 2) (fun x13 => (if x13 = 0 then some (-1) else (if p5 = 0 then zb1 (f_X0_minutes I J 4 p1 p2) (fun x23 => some x23) else (if p5 = 1 then zb1 (f_X0_wears I J 4 p1 p2 p3 p4) (fun x21 => some x21) else zb1 (f_X0_mayCut I J 4 p2 p3) (fun x18 => (if x18 = 0 then some 0 else some 1))))))))))))))
theorem hinX11_pass_X11 : ∀ w ∈ u_ws RX11 TX11 12, w ∈ wsX11_pass := by decide +kernel
set_option maxHeartbeats 4000000 in
set_option maxRecDepth 100000 in
theorem w_X11_pass {p : Program} {l : Launch} {e : Env} {R : Room} {s : State} {m : MethodId} {args : Array Value} {below : List Frame} {meth : Method} {c : Code} {Q : State → Prop} (hfr : 2 ≤ R.frames) (hlo : 45 ≤ R.locals) {D : va_G} {a0 : Nat → Nat} {A : Nat → Prop} {cy : Nat → ClassId} {ad : Nat → Nat} (hD : zD A 74 ad) {I : zI} {J : zJ} (p1 : Int32) (p2 : Int32) (p3 : Int32) (p4 : Int32) (p5 : Int32) {rx : Int32} (hf : f_X11_pass I J p1 p2 p3 p4 p5 = some rx) {ls : Array Slot} (S0 : zSt p m c cX11_pass 6 s args wsX11_pass RX11 D a0 A cy (zw 74 (kC cy ad a0) ad I J) [.ref (ad 0), .int p1, .int p2, .int p3, .int p4, .int p5] ls) (hret : ∀ (tx : Int32), some tx = some rx → ∀ (H : Heap) (locs : List Loc) (ls : Array Slot) (pc : Nat), va_P D vwCl (zw 74 (kC cy ad a0) ad I J) H → va_S A s.heap H locs → decode cX11_pass pc = .ok (.ireturn, 1) → W p l e R s m args below meth c H locs 0 0 Q (F0 m pc ls [.int tx])) : W p l e R s m args below meth c s.heap [] 0 0 Q (F0 m 0 ls []) := by
  obtain ⟨S, E, hP, hl⟩ := S0
  obtain ⟨hx, hb, hml, hown, hts⟩ := id S
  have hS : va_S A s.heap s.heap [] := va_S.rf
  replace hl : lv_has ls 6 [(0, .ref (ad 0)), (1, .int p1), (2, .int p2), (3, .int p3), (4, .int p4), (5, .int p5)] := hl
  unfold f_X11_pass at hf
  refine lv_aload_n hx hb dX11_pass_0 rfl (lv_at hl 0 rfl) ?_
  refine va_get (D := D) (ci := 10) (v := .ref (ad 4)) (C := RX11) (T := TX11) (N := 12) hx hb hts hinX11_pass_X11 hown E.1 hP 0 (zO.get (oX11_at)) rfl 1 (by decide) (hts (.fieldLink RX11 19 "EdgeAndSpeed" "bench" "LEdgeAndSpeed$Bench;") (by decide +kernel)) (fun _ h9 => h9) rfl dX11_pass_1 ?_
  refine lv_iload_n hx hb dX11_pass_4 rfl (lv_at hl 1 rfl) ?_
  obtain ⟨x1, h2, hf⟩ := zb1_e hf
  refine zgo_i (zrunV (As := [.int p1]) (rest := []) S (c_X0_hasPiece l hD 4 (zBat_C (by decide)) p1 h2) (cwV 1 hts gX11_pass_X0_hasPiece rfl rfl rfl ddX0_hasPiece ⟨Nat.le_trans (Nat.le_of_ble_eq_true rfl) hfr, Nat.le_trans (Nat.le_of_ble_eq_true rfl) hlo⟩) (va_recv E.1 hP (q := (RX0, TX0, 17)) (ci := 0) rfl (zO.get (zBat_o (zBat_C (by decide))))) E hP hS hl.1 rfl rfl (Nat.le_of_ble_eq_true rfl) dX11_pass_5) hS (fun H locs hP hS => ?_)
  refine lv_if_eq (tgt := 34) hx hb dX11_pass_8 (by decide) (fun k3 => ?_) (fun k3 => ?_)
  · replace hf := zt k3 hf
    refine lv_iconst (v := (-1)) hx hb dX11_pass_34 (by decide) ?_
    exact hret _ hf _ _ _ _ hP hS dX11_pass_35
  · replace hf := zf k3 hf
    refine lv_aload_n hx hb dX11_pass_11 rfl (lv_at hl 0 rfl) ?_
    refine va_get (D := D) (ci := 10) (v := .ref (ad 4)) (C := RX11) (T := TX11) (N := 12) hx hb hts hinX11_pass_X11 hown E.1 hP 0 (zO.get (oX11_at)) rfl 1 (by decide) (hts (.fieldLink RX11 19 "EdgeAndSpeed" "bench" "LEdgeAndSpeed$Bench;") (by decide +kernel)) (fun _ h9 => h9) rfl dX11_pass_12 ?_
    refine lv_iload_n hx hb dX11_pass_15 rfl (lv_at hl 2 rfl) ?_
    obtain ⟨x4, h5, hf⟩ := zb1_e hf
    refine zgo_i (zrunV (As := [.int p2]) (rest := []) S (c_X0_hasSpeed l hD 4 (zBat_C (by decide)) p2 h5) (cwV 1 hts gX11_pass_X0_hasSpeed rfl rfl rfl ddX0_hasSpeed ⟨Nat.le_trans (Nat.le_of_ble_eq_true rfl) hfr, Nat.le_trans (Nat.le_of_ble_eq_true rfl) hlo⟩) (va_recv E.1 hP (q := (RX0, TX0, 17)) (ci := 0) rfl (zO.get (zBat_o (zBat_C (by decide))))) E hP hS hl.1 rfl rfl (Nat.le_of_ble_eq_true rfl) dX11_pass_16) hS (fun H locs hP hS => ?_)
    refine lv_if_eq (tgt := 34) hx hb dX11_pass_19 (by decide) (fun k6 => ?_) (fun k6 => ?_)
    · replace hf := zt k6 hf
      refine lv_iconst (v := (-1)) hx hb dX11_pass_34 (by decide) ?_
      exact hret _ hf _ _ _ _ hP hS dX11_pass_35
    · replace hf := zf k6 hf
      refine lv_aload_n hx hb dX11_pass_22 rfl (lv_at hl 0 rfl) ?_
      refine va_get (D := D) (ci := 10) (v := .ref (ad 4)) (C := RX11) (T := TX11) (N := 12) hx hb hts hinX11_pass_X11 hown E.1 hP 0 (zO.get (oX11_at)) rfl 1 (by decide) (hts (.fieldLink RX11 19 "EdgeAndSpeed" "bench" "LEdgeAndSpeed$Bench;") (by decide +kernel)) (fun _ h9 => h9) rfl dX11_pass_23 ?_
      refine lv_iload hx hb dX11_pass_26 (lv_at hl 4 rfl) ?_
      obtain ⟨x7, h8, hf⟩ := zb1_e hf
      refine zgo_i (zrunV (As := [.int p4]) (rest := []) S (c_X0_hasSteel l hD 4 (zBat_C (by decide)) p4 h8) (cwV 1 hts gX11_pass_X0_hasSteel rfl rfl rfl ddX0_hasSteel ⟨Nat.le_trans (Nat.le_of_ble_eq_true rfl) hfr, Nat.le_trans (Nat.le_of_ble_eq_true rfl) hlo⟩) (va_recv E.1 hP (q := (RX0, TX0, 17)) (ci := 0) rfl (zO.get (zBat_o (zBat_C (by decide))))) E hP hS hl.1 rfl rfl (Nat.le_of_ble_eq_true rfl) dX11_pass_28) hS (fun H locs hP hS => ?_)
      refine lv_if_ne (tgt := 36) hx hb dX11_pass_31 (by decide) (fun k9 => ?_) (fun k9 => ?_)
      · replace hf := zf k9 hf
        refine lv_iload_n hx hb dX11_pass_36 rfl (lv_at hl 3 rfl) ?_
        refine lv_iconst (v := 1) hx hb dX11_pass_37 (by decide) ?_
        refine lv_bipush (v := 8) hx hb dX11_pass_38 (by decide) ?_
        obtain ⟨x10, h11, hf⟩ := zb1_e hf
        refine zgo_i (zrunS (As := [.int p3, .int 1, .int 8]) (rest := []) S (c_X11_within l hD p3 1 8 h11) (va_cwS 3 hts gX11_pass_X11_within rfl rfl rfl ddX11_within ⟨Nat.le_trans (Nat.le_of_ble_eq_true rfl) hfr, Nat.le_trans (Nat.le_of_ble_eq_true rfl) hlo⟩) E hP hS hl.1 rfl rfl (Nat.le_of_ble_eq_true rfl) dX11_pass_40) hS (fun H locs hP hS => ?_)
        refine lv_if_eq (tgt := 56) hx hb dX11_pass_43 (by decide) (fun k12 => ?_) (fun k12 => ?_)
        · replace hf := zt k12 hf
          refine lv_iconst (v := (-1)) hx hb dX11_pass_56 (by decide) ?_
          exact hret _ hf _ _ _ _ hP hS dX11_pass_57
        · replace hf := zf k12 hf
          refine lv_iload hx hb dX11_pass_46 (lv_at hl 5 rfl) ?_
          refine lv_iconst (v := 0) hx hb dX11_pass_48 (by decide) ?_
          refine lv_iconst (v := 2) hx hb dX11_pass_49 (by decide) ?_
          obtain ⟨x13, h14, hf⟩ := zb1_e hf
          refine zgo_i (zrunS (As := [.int p5, .int 0, .int 2]) (rest := []) S (c_X11_within l hD p5 0 2 h14) (va_cwS 3 hts gX11_pass_X11_within rfl rfl rfl ddX11_within ⟨Nat.le_trans (Nat.le_of_ble_eq_true rfl) hfr, Nat.le_trans (Nat.le_of_ble_eq_true rfl) hlo⟩) E hP hS hl.1 rfl rfl (Nat.le_of_ble_eq_true rfl) dX11_pass_50) hS (fun H locs hP hS => ?_)
          refine lv_if_ne (tgt := 58) hx hb dX11_pass_53 (by decide) (fun k15 => ?_) (fun k15 => ?_)
          · replace hf := zf k15 hf
            refine lv_iload hx hb dX11_pass_58 (lv_at hl 5 rfl) ?_
            refine lv_if_ne (tgt := 73) hx hb dX11_pass_60 (by decide) (fun k16 => ?_) (fun k16 => ?_)
            · replace hf := zf k16 hf
              refine lv_iload hx hb dX11_pass_73 (lv_at hl 5 rfl) ?_
              refine lv_iconst (v := 1) hx hb dX11_pass_75 (by decide) ?_
              refine lv_icmp_ne (tgt := 94) hx hb dX11_pass_76 (by decide) (fun k17 => ?_) (fun k17 => ?_)
              · replace hf := zf k17 hf
                refine lv_aload_n hx hb dX11_pass_94 rfl (lv_at hl 0 rfl) ?_
                refine va_get (D := D) (ci := 10) (v := .ref (ad 4)) (C := RX11) (T := TX11) (N := 12) hx hb hts hinX11_pass_X11 hown E.1 hP 0 (zO.get (oX11_at)) rfl 1 (by decide) (hts (.fieldLink RX11 19 "EdgeAndSpeed" "bench" "LEdgeAndSpeed$Bench;") (by decide +kernel)) (fun _ h9 => h9) rfl dX11_pass_95 ?_
                refine lv_iload_n hx hb dX11_pass_98 rfl (lv_at hl 2 rfl) ?_
                refine lv_iload_n hx hb dX11_pass_99 rfl (lv_at hl 3 rfl) ?_
                obtain ⟨x18, h19, hf⟩ := zb1_e hf
                refine zgo_i (zrunV (As := [.int p2, .int p3]) (rest := []) S (c_X0_mayCut l hD 4 (zBat_C (by decide)) p2 p3 h19) (cwV 2 hts gX11_pass_X0_mayCut rfl rfl rfl ddX0_mayCut ⟨Nat.le_trans (Nat.le_of_ble_eq_true rfl) hfr, Nat.le_trans (Nat.le_of_ble_eq_true rfl) hlo⟩) (va_recv E.1 hP (q := (RX0, TX0, 17)) (ci := 0) rfl (zO.get (zBat_o (zBat_C (by decide))))) E hP hS hl.1 rfl rfl (Nat.le_of_ble_eq_true rfl) dX11_pass_100) hS (fun H locs hP hS => ?_)
                refine lv_if_eq (tgt := 110) hx hb dX11_pass_103 (by decide) (fun k20 => ?_) (fun k20 => ?_)
                · replace hf := zt k20 hf
                  refine lv_iconst (v := 0) hx hb dX11_pass_110 (by decide) ?_
                  exact hret _ hf _ _ _ _ hP hS dX11_pass_111
                · replace hf := zf k20 hf
                  refine lv_iconst (v := 1) hx hb dX11_pass_106 (by decide) ?_
                  refine lv_goto (tgt := 111) hx hb dX11_pass_107 (by decide) ?_
                  exact hret _ hf _ _ _ _ hP hS dX11_pass_111
              · replace hf := zt k17 hf
                refine lv_aload_n hx hb dX11_pass_79 rfl (lv_at hl 0 rfl) ?_
                refine va_get (D := D) (ci := 10) (v := .ref (ad 4)) (C := RX11) (T := TX11) (N := 12) hx hb hts hinX11_pass_X11 hown E.1 hP 0 (zO.get (oX11_at)) rfl 1 (by decide) (hts (.fieldLink RX11 19 "EdgeAndSpeed" "bench" "LEdgeAndSpeed$Bench;") (by decide +kernel)) (fun _ h9 => h9) rfl dX11_pass_80 ?_
                refine lv_iload_n hx hb dX11_pass_83 rfl (lv_at hl 1 rfl) ?_
                refine lv_iload_n hx hb dX11_pass_84 rfl (lv_at hl 2 rfl) ?_
                refine lv_iload_n hx hb dX11_pass_85 rfl (lv_at hl 3 rfl) ?_
                refine lv_iload hx hb dX11_pass_86 (lv_at hl 4 rfl) ?_
                obtain ⟨x21, h22, hf⟩ := zb1_e hf
                refine zgo_i (zrunV (As := [.int p1, .int p2, .int p3, .int p4]) (rest := []) S (c_X0_wears l hD 4 (zBat_C (by decide)) p1 p2 p3 p4 h22) (cwV 4 hts gX11_pass_X0_wears rfl rfl rfl ddX0_wears ⟨Nat.le_trans (Nat.le_of_ble_eq_true rfl) hfr, Nat.le_trans (Nat.le_of_ble_eq_true rfl) hlo⟩) (va_recv E.1 hP (q := (RX0, TX0, 17)) (ci := 0) rfl (zO.get (zBat_o (zBat_C (by decide))))) E hP hS hl.1 rfl rfl (Nat.le_of_ble_eq_true rfl) dX11_pass_88) hS (fun H locs hP hS => ?_)
                refine lv_goto (tgt := 111) hx hb dX11_pass_91 (by decide) ?_
                exact hret _ hf _ _ _ _ hP hS dX11_pass_111
            · replace hf := zt k16 hf
              refine lv_aload_n hx hb dX11_pass_63 rfl (lv_at hl 0 rfl) ?_
              refine va_get (D := D) (ci := 10) (v := .ref (ad 4)) (C := RX11) (T := TX11) (N := 12) hx hb hts hinX11_pass_X11 hown E.1 hP 0 (zO.get (oX11_at)) rfl 1 (by decide) (hts (.fieldLink RX11 19 "EdgeAndSpeed" "bench" "LEdgeAndSpeed$Bench;") (by decide +kernel)) (fun _ h9 => h9) rfl dX11_pass_64 ?_
              refine lv_iload_n hx hb dX11_pass_67 rfl (lv_at hl 1 rfl) ?_
              refine lv_iload_n hx hb dX11_pass_68 rfl (lv_at hl 2 rfl) ?_
              obtain ⟨x23, h24, hf⟩ := zb1_e hf
              refine zgo_i (zrunV (As := [.int p1, .int p2]) (rest := []) S (c_X0_minutes l hD 4 (zBat_C (by decide)) p1 p2 h24) (cwV 2 hts gX11_pass_X0_minutes rfl rfl rfl ddX0_minutes ⟨Nat.le_trans (Nat.le_of_ble_eq_true rfl) hfr, Nat.le_trans (Nat.le_of_ble_eq_true rfl) hlo⟩) (va_recv E.1 hP (q := (RX0, TX0, 17)) (ci := 0) rfl (zO.get (zBat_o (zBat_C (by decide))))) E hP hS hl.1 rfl rfl (Nat.le_of_ble_eq_true rfl) dX11_pass_69) hS (fun H locs hP hS => ?_)
              exact hret _ hf _ _ _ _ hP hS dX11_pass_72
          · replace hf := zt k15 hf
            refine lv_iconst (v := (-1)) hx hb dX11_pass_56 (by decide) ?_
            exact hret _ hf _ _ _ _ hP hS dX11_pass_57
      · replace hf := zt k9 hf
        refine lv_iconst (v := (-1)) hx hb dX11_pass_34 (by decide) ?_
        exact hret _ hf _ _ _ _ hP hS dX11_pass_35
theorem c_X11_pass (l : Launch) {D : va_G} {a0 : Nat → Nat} {A : Nat → Prop} {cy : Nat → ClassId} {ad : Nat → Nat} (hD : zD A 74 ad) {I : zI} {J : zJ} (p1 : Int32) (p2 : Int32) (p3 : Int32) (p4 : Int32) (p5 : Int32) {rx : Int32} (hf : f_X11_pass I J p1 p2 p3 p4 p5 = some rx) : Met l yX11_pass wsX11_pass { frames := 2, cells := 0, slots := 0, locals := 45 } (zPc D a0 A cy [.ref (ad 0), .int p1, .int p2, .int p3, .int p4, .int p5] (zw 74 (kC cy ad a0) ad I J)) (zQi D A rx (zw 74 (kC cy ad a0) ad I J)) 0 0 A :=
  zmet RX11 (by decide) rfl rfl (Nat.le_of_ble_eq_true rfl) (fun p e R s m below meth c Q hfr hlo ls S0 hQ => w_X11_pass hfr hlo hD p1 p2 p3 p4 p5 hf S0 (fun tx hq H locs ls pc hP hS hd => by cases hq; exact hQ H locs _ hS (fun hx hb hr hlocks hfree => W.iret hx hb hr (fun t ht hW => ⟨⟨_, (), rfl, rfl, zht ht hP⟩, hS.F ht⟩) hfree hd hlocks)))
theorem ddX11_pass : yX11_pass.cls = RX11 ∧ yX11_pass.cls ≠ "java/lang/invoke/MethodHandle" ∧ yX11_pass.cls ≠ "java/lang/invoke/VarHandle" ∧ (parseMethodDescriptor yX11_pass.desc).map (fun d => d.parameters.length) = some 5 := by decide +kernel

def f_X11_breaks (I : zI) (J : zJ) (p1 : Int32) : Option Int32 := zb1 (f_X11_within I J p1 0 100) (fun x1 => (if x1 = 0 then some (-1) else zg (¬ (p1 < 0 ∨ 101 ≤ p1.toNatClampNeg)) (some (I 13 p1.toNatClampNeg))))
theorem hinX11_breaks_X11 : ∀ w ∈ u_ws RX11 TX11 12, w ∈ wsX11_breaks := by decide +kernel
theorem hinX11_breaks_X0 : ∀ w ∈ u_ws RX0 TX0 17, w ∈ wsX11_breaks := by decide +kernel
set_option maxHeartbeats 4000000 in
set_option maxRecDepth 100000 in
theorem w_X11_breaks {p : Program} {l : Launch} {e : Env} {R : Room} {s : State} {m : MethodId} {args : Array Value} {below : List Frame} {meth : Method} {c : Code} {Q : State → Prop} (hfr : 1 ≤ R.frames) (hlo : 22 ≤ R.locals) {D : va_G} {a0 : Nat → Nat} {A : Nat → Prop} {cy : Nat → ClassId} {ad : Nat → Nat} (hD : zD A 74 ad) {I : zI} {J : zJ} (p1 : Int32) {rx : Int32} (hf : f_X11_breaks I J p1 = some rx) {ls : Array Slot} (S0 : zSt p m c cX11_breaks 2 s args wsX11_breaks RX11 D a0 A cy (zw 74 (kC cy ad a0) ad I J) [.ref (ad 0), .int p1] ls) (hret : ∀ (tx : Int32), some tx = some rx → ∀ (H : Heap) (locs : List Loc) (ls : Array Slot) (pc : Nat), va_P D vwCl (zw 74 (kC cy ad a0) ad I J) H → va_S A s.heap H locs → decode cX11_breaks pc = .ok (.ireturn, 1) → W p l e R s m args below meth c H locs 0 0 Q (F0 m pc ls [.int tx])) : W p l e R s m args below meth c s.heap [] 0 0 Q (F0 m 0 ls []) := by
  obtain ⟨S, E, hP, hl⟩ := S0
  obtain ⟨hx, hb, hml, hown, hts⟩ := id S
  have hS : va_S A s.heap s.heap [] := va_S.rf
  replace hl : lv_has ls 2 [(0, .ref (ad 0)), (1, .int p1)] := hl
  unfold f_X11_breaks at hf
  refine lv_iload_n hx hb dX11_breaks_0 rfl (lv_at hl 1 rfl) ?_
  refine lv_iconst (v := 0) hx hb dX11_breaks_1 (by decide) ?_
  refine lv_bipush (v := 100) hx hb dX11_breaks_2 (by decide) ?_
  obtain ⟨x1, h2, hf⟩ := zb1_e hf
  refine zgo_i (zrunS (As := [.int p1, .int 0, .int 100]) (rest := []) S (c_X11_within l hD p1 0 100 h2) (va_cwS 3 hts gX11_breaks_X11_within rfl rfl rfl ddX11_within ⟨Nat.le_trans (Nat.le_of_ble_eq_true rfl) hfr, Nat.le_trans (Nat.le_of_ble_eq_true rfl) hlo⟩) E hP hS hl.1 rfl rfl (Nat.le_of_ble_eq_true rfl) dX11_breaks_4) hS (fun H locs hP hS => ?_)
  refine lv_if_eq (tgt := 22) hx hb dX11_breaks_7 (by decide) (fun k3 => ?_) (fun k3 => ?_)
  · replace hf := zt k3 hf
    refine lv_iconst (v := (-1)) hx hb dX11_breaks_22 (by decide) ?_
    exact hret _ hf _ _ _ _ hP hS dX11_breaks_23
  · replace hf := zf k3 hf
    refine lv_aload_n hx hb dX11_breaks_10 rfl (lv_at hl 0 rfl) ?_
    refine va_get (D := D) (ci := 10) (v := .ref (ad 4)) (C := RX11) (T := TX11) (N := 12) hx hb hts hinX11_breaks_X11 hown E.1 hP 0 (zO.get (oX11_at)) rfl 1 (by decide) (hts (.fieldLink RX11 19 "EdgeAndSpeed" "bench" "LEdgeAndSpeed$Bench;") (by decide +kernel)) (fun _ h9 => h9) rfl dX11_breaks_11 ?_
    refine va_getN (D := D) (ci := 0) (v := .ref (ad 13)) (C := RX0) (T := TX0) (N := 17) hx hb hts hinX11_breaks_X0 hown E.1 hP 4 (zO.get (zBat_o (zBat_C (by decide)))) rfl 8 (by decide) (zNfw_1 E.2.2) (fun _ h9 => h9) rfl dX11_breaks_14 ?_
    refine lv_iload_n hx hb dX11_breaks_17 rfl (lv_at hl 1 rfl) ?_
    obtain ⟨g4, hf⟩ := zg_i hf
    refine va_iald hx hb E.1 hP 13 1 (zIA.get (zBat_8 (zBat_C (by decide)))) rfl g4 dX11_breaks_18 ?_
    refine lv_goto (tgt := 23) hx hb dX11_breaks_19 (by decide) ?_
    exact hret _ hf _ _ _ _ hP hS dX11_breaks_23
theorem c_X11_breaks (l : Launch) {D : va_G} {a0 : Nat → Nat} {A : Nat → Prop} {cy : Nat → ClassId} {ad : Nat → Nat} (hD : zD A 74 ad) {I : zI} {J : zJ} (p1 : Int32) {rx : Int32} (hf : f_X11_breaks I J p1 = some rx) : Met l yX11_breaks wsX11_breaks { frames := 1, cells := 0, slots := 0, locals := 22 } (zPc D a0 A cy [.ref (ad 0), .int p1] (zw 74 (kC cy ad a0) ad I J)) (zQi D A rx (zw 74 (kC cy ad a0) ad I J)) 0 0 A :=
  zmet RX11 (by decide) rfl rfl (Nat.le_of_ble_eq_true rfl) (fun p e R s m below meth c Q hfr hlo ls S0 hQ => w_X11_breaks hfr hlo hD p1 hf S0 (fun tx hq H locs ls pc hP hS hd => by cases hq; exact hQ H locs _ hS (fun hx hb hr hlocks hfree => W.iret hx hb hr (fun t ht hW => ⟨⟨_, (), rfl, rfl, zht ht hP⟩, hS.F ht⟩) hfree hd hlocks)))
theorem ddX11_breaks : yX11_breaks.cls = RX11 ∧ yX11_breaks.cls ≠ "java/lang/invoke/MethodHandle" ∧ yX11_breaks.cls ≠ "java/lang/invoke/VarHandle" ∧ (parseMethodDescriptor yX11_breaks.desc).map (fun d => d.parameters.length) = some 1 := by decide +kernel

def f_X1_swapSpeed (I : zI) (J : zJ) (o : Nat) (p1 : Int32) : Option (Int32 × zI) := zn ((I o 3)) (fun y1 => zn (va_up I o (va_up (I o) 3 p1)) (fun I2 => some (y1, I2)))
theorem hinX1_swapSpeed_X1 : ∀ w ∈ u_ws RX1 TX1 6, w ∈ wsX1_swapSpeed := by decide +kernel
set_option maxHeartbeats 4000000 in
set_option maxRecDepth 100000 in
theorem w_X1_swapSpeed {p : Program} {l : Launch} {e : Env} {R : Room} {s : State} {m : MethodId} {args : Array Value} {below : List Frame} {meth : Method} {c : Code} {Q : State → Prop} (hfr : 0 ≤ R.frames) (hlo : 0 ≤ R.locals) {D : va_G} {a0 : Nat → Nat} {A : Nat → Prop} {cy : Nat → ClassId} {ad : Nat → Nat} (hD : zD A 74 ad) {I : zI} {J : zJ} (o : Nat) (ho : zHn o) (p1 : Int32) {rx : Int32} {rI : zI} (hf : f_X1_swapSpeed I J o p1 = some (rx, rI)) {ls : Array Slot} (S0 : zSt p m c cX1_swapSpeed 3 s args wsX1_swapSpeed RX1 D a0 A cy (zw 74 (kC cy ad a0) ad I J) [.ref (ad o), .int p1] ls) (hret : ∀ (tx : Int32) (tI : zI), some (tx, tI) = some (rx, rI) → ∀ (H : Heap) (locs : List Loc) (ls : Array Slot) (pc : Nat), va_P D vwCl (zw 74 (kC cy ad a0) ad tI J) H → va_S A s.heap H locs → decode cX1_swapSpeed pc = .ok (.ireturn, 1) → W p l e R s m args below meth c H locs 0 0 Q (F0 m pc ls [.int tx])) : W p l e R s m args below meth c s.heap [] 0 0 Q (F0 m 0 ls []) := by
  obtain ⟨S, E, hP, hl⟩ := S0
  obtain ⟨hx, hb, hml, hown, hts⟩ := id S
  have hS : va_S A s.heap s.heap [] := va_S.rf
  replace hl : lv_has ls 3 [(0, .ref (ad o)), (1, .int p1)] := hl
  unfold f_X1_swapSpeed at hf
  refine lv_aload_n hx hb dX1_swapSpeed_0 rfl (lv_at hl 0 rfl) ?_
  refine va_get (D := D) (ci := 1) (v := .int (I o 3)) (C := RX1) (T := TX1) (N := 6) hx hb hts hinX1_swapSpeed_X1 hown E.1 hP o (zO.get (oX1_at ho)) rfl 3 (by decide) (hts (.fieldLink RX1 28 "EdgeAndSpeed$Habits" "speed" "I") (by decide +kernel)) (fun _ h9 => h9) rfl dX1_swapSpeed_1 ?_
  refine lv_topi (fun y1 ey1 => ?_)
  replace hf := zn_s ey1 hf
  refine lv_istore_n (lv' := [(2, .int y1), (0, .ref (ad o)), (1, .int p1)]) hx hb dX1_swapSpeed_4 rfl hl (by decide) rfl (fun ls hl => ?_)
  refine lv_aload_n hx hb dX1_swapSpeed_5 rfl (lv_at hl 1 rfl) ?_
  refine lv_iload_n hx hb dX1_swapSpeed_6 rfl (lv_at hl 2 rfl) ?_
  obtain ⟨I2, eI2⟩ := zex (va_up I o (va_up (I o) 3 p1))
  replace hf := zn_s eI2 hf
  refine zput (D := D) (ci := 1) (v := .int p1) (ty := .int) (C := RX1) (T := TX1) (N := 6) hx hb hts hinX1_swapSpeed_X1 tyX1 tyX1_ok nmX1 hown E.1 hP hD.D hS o (zO.get (oX1_at ho)) rfl 3 (by decide) (hts (.fieldLink RX1 28 "EdgeAndSpeed$Habits" "speed" "I") (by decide +kernel)) (fun _ h9 => h9) rfl (tyX1_ok 3 (by decide)) rfl rfl (Nat.le_of_ble_eq_true rfl) dX1_swapSpeed_7 (zO.setI (oX1_at ho) rfl eI2) (fun H locs hP hS => ?_)
  refine lv_iload_n hx hb dX1_swapSpeed_10 rfl (lv_at hl 0 rfl) ?_
  exact hret _ _ hf _ _ _ _ hP hS dX1_swapSpeed_11
theorem c_X1_swapSpeed (l : Launch) {D : va_G} {a0 : Nat → Nat} {A : Nat → Prop} {cy : Nat → ClassId} {ad : Nat → Nat} (hD : zD A 74 ad) {I : zI} {J : zJ} (o : Nat) (ho : zHn o) (p1 : Int32) {rx : Int32} {rI : zI} (hf : f_X1_swapSpeed I J o p1 = some (rx, rI)) : Met l yX1_swapSpeed wsX1_swapSpeed { frames := 0, cells := 0, slots := 0, locals := 0 } (zPc D a0 A cy [.ref (ad o), .int p1] (zw 74 (kC cy ad a0) ad I J)) (zQi D A rx (zw 74 (kC cy ad a0) ad rI J)) 0 0 A :=
  zmet RX1 (by decide) rfl rfl (Nat.le_of_ble_eq_true rfl) (fun p e R s m below meth c Q hfr hlo ls S0 hQ => w_X1_swapSpeed hfr hlo hD o ho p1 hf S0 (fun tx tI hq H locs ls pc hP hS hd => by cases hq; exact hQ H locs _ hS (fun hx hb hr hlocks hfree => W.iret hx hb hr (fun t ht hW => ⟨⟨_, (), rfl, rfl, zht ht hP⟩, hS.F ht⟩) hfree hd hlocks)))
theorem ddX1_swapSpeed : yX1_swapSpeed.cls = RX1 ∧ yX1_swapSpeed.cls ≠ "java/lang/invoke/MethodHandle" ∧ yX1_swapSpeed.cls ≠ "java/lang/invoke/VarHandle" ∧ (parseMethodDescriptor yX1_swapSpeed.desc).map (fun d => d.parameters.length) = some 1 := by decide +kernel

def f_X1_swapLimit (I : zI) (J : zJ) (o : Nat) (p1 : Int32) : Option (Int32 × zI) := zn ((I o 4)) (fun y1 => zn (va_up I o (va_up (I o) 4 p1)) (fun I2 => some (y1, I2)))
theorem hinX1_swapLimit_X1 : ∀ w ∈ u_ws RX1 TX1 6, w ∈ wsX1_swapLimit := by decide +kernel
set_option maxHeartbeats 4000000 in
set_option maxRecDepth 100000 in
theorem w_X1_swapLimit {p : Program} {l : Launch} {e : Env} {R : Room} {s : State} {m : MethodId} {args : Array Value} {below : List Frame} {meth : Method} {c : Code} {Q : State → Prop} (hfr : 0 ≤ R.frames) (hlo : 0 ≤ R.locals) {D : va_G} {a0 : Nat → Nat} {A : Nat → Prop} {cy : Nat → ClassId} {ad : Nat → Nat} (hD : zD A 74 ad) {I : zI} {J : zJ} (o : Nat) (ho : zHn o) (p1 : Int32) {rx : Int32} {rI : zI} (hf : f_X1_swapLimit I J o p1 = some (rx, rI)) {ls : Array Slot} (S0 : zSt p m c cX1_swapLimit 3 s args wsX1_swapLimit RX1 D a0 A cy (zw 74 (kC cy ad a0) ad I J) [.ref (ad o), .int p1] ls) (hret : ∀ (tx : Int32) (tI : zI), some (tx, tI) = some (rx, rI) → ∀ (H : Heap) (locs : List Loc) (ls : Array Slot) (pc : Nat), va_P D vwCl (zw 74 (kC cy ad a0) ad tI J) H → va_S A s.heap H locs → decode cX1_swapLimit pc = .ok (.ireturn, 1) → W p l e R s m args below meth c H locs 0 0 Q (F0 m pc ls [.int tx])) : W p l e R s m args below meth c s.heap [] 0 0 Q (F0 m 0 ls []) := by
  obtain ⟨S, E, hP, hl⟩ := S0
  obtain ⟨hx, hb, hml, hown, hts⟩ := id S
  have hS : va_S A s.heap s.heap [] := va_S.rf
  replace hl : lv_has ls 3 [(0, .ref (ad o)), (1, .int p1)] := hl
  unfold f_X1_swapLimit at hf
  refine lv_aload_n hx hb dX1_swapLimit_0 rfl (lv_at hl 0 rfl) ?_
  refine va_get (D := D) (ci := 1) (v := .int (I o 4)) (C := RX1) (T := TX1) (N := 6) hx hb hts hinX1_swapLimit_X1 hown E.1 hP o (zO.get (oX1_at ho)) rfl 4 (by decide) (hts (.fieldLink RX1 18 "EdgeAndSpeed$Habits" "limit" "I") (by decide +kernel)) (fun _ h9 => h9) rfl dX1_swapLimit_1 ?_
  refine lv_topi (fun y1 ey1 => ?_)
  replace hf := zn_s ey1 hf
  refine lv_istore_n (lv' := [(2, .int y1), (0, .ref (ad o)), (1, .int p1)]) hx hb dX1_swapLimit_4 rfl hl (by decide) rfl (fun ls hl => ?_)
  refine lv_aload_n hx hb dX1_swapLimit_5 rfl (lv_at hl 1 rfl) ?_
  refine lv_iload_n hx hb dX1_swapLimit_6 rfl (lv_at hl 2 rfl) ?_
  obtain ⟨I2, eI2⟩ := zex (va_up I o (va_up (I o) 4 p1))
  replace hf := zn_s eI2 hf
  refine zput (D := D) (ci := 1) (v := .int p1) (ty := .int) (C := RX1) (T := TX1) (N := 6) hx hb hts hinX1_swapLimit_X1 tyX1 tyX1_ok nmX1 hown E.1 hP hD.D hS o (zO.get (oX1_at ho)) rfl 4 (by decide) (hts (.fieldLink RX1 18 "EdgeAndSpeed$Habits" "limit" "I") (by decide +kernel)) (fun _ h9 => h9) rfl (tyX1_ok 4 (by decide)) rfl rfl (Nat.le_of_ble_eq_true rfl) dX1_swapLimit_7 (zO.setI (oX1_at ho) rfl eI2) (fun H locs hP hS => ?_)
  refine lv_iload_n hx hb dX1_swapLimit_10 rfl (lv_at hl 0 rfl) ?_
  exact hret _ _ hf _ _ _ _ hP hS dX1_swapLimit_11
theorem c_X1_swapLimit (l : Launch) {D : va_G} {a0 : Nat → Nat} {A : Nat → Prop} {cy : Nat → ClassId} {ad : Nat → Nat} (hD : zD A 74 ad) {I : zI} {J : zJ} (o : Nat) (ho : zHn o) (p1 : Int32) {rx : Int32} {rI : zI} (hf : f_X1_swapLimit I J o p1 = some (rx, rI)) : Met l yX1_swapLimit wsX1_swapLimit { frames := 0, cells := 0, slots := 0, locals := 0 } (zPc D a0 A cy [.ref (ad o), .int p1] (zw 74 (kC cy ad a0) ad I J)) (zQi D A rx (zw 74 (kC cy ad a0) ad rI J)) 0 0 A :=
  zmet RX1 (by decide) rfl rfl (Nat.le_of_ble_eq_true rfl) (fun p e R s m below meth c Q hfr hlo ls S0 hQ => w_X1_swapLimit hfr hlo hD o ho p1 hf S0 (fun tx tI hq H locs ls pc hP hS hd => by cases hq; exact hQ H locs _ hS (fun hx hb hr hlocks hfree => W.iret hx hb hr (fun t ht hW => ⟨⟨_, (), rfl, rfl, zht ht hP⟩, hS.F ht⟩) hfree hd hlocks)))
theorem ddX1_swapLimit : yX1_swapLimit.cls = RX1 ∧ yX1_swapLimit.cls ≠ "java/lang/invoke/MethodHandle" ∧ yX1_swapLimit.cls ≠ "java/lang/invoke/VarHandle" ∧ (parseMethodDescriptor yX1_swapLimit.desc).map (fun d => d.parameters.length) = some 1 := by decide +kernel

def f_X1_swapEvery (I : zI) (J : zJ) (o : Nat) (p1 : Int32) : Option (Int32 × zI) := zn ((I o 5)) (fun y1 => zn (va_up I o (va_up (I o) 5 p1)) (fun I2 => some (y1, I2)))
theorem hinX1_swapEvery_X1 : ∀ w ∈ u_ws RX1 TX1 6, w ∈ wsX1_swapEvery := by decide +kernel
set_option maxHeartbeats 4000000 in
set_option maxRecDepth 100000 in
theorem w_X1_swapEvery {p : Program} {l : Launch} {e : Env} {R : Room} {s : State} {m : MethodId} {args : Array Value} {below : List Frame} {meth : Method} {c : Code} {Q : State → Prop} (hfr : 0 ≤ R.frames) (hlo : 0 ≤ R.locals) {D : va_G} {a0 : Nat → Nat} {A : Nat → Prop} {cy : Nat → ClassId} {ad : Nat → Nat} (hD : zD A 74 ad) {I : zI} {J : zJ} (o : Nat) (ho : zHn o) (p1 : Int32) {rx : Int32} {rI : zI} (hf : f_X1_swapEvery I J o p1 = some (rx, rI)) {ls : Array Slot} (S0 : zSt p m c cX1_swapEvery 3 s args wsX1_swapEvery RX1 D a0 A cy (zw 74 (kC cy ad a0) ad I J) [.ref (ad o), .int p1] ls) (hret : ∀ (tx : Int32) (tI : zI), some (tx, tI) = some (rx, rI) → ∀ (H : Heap) (locs : List Loc) (ls : Array Slot) (pc : Nat), va_P D vwCl (zw 74 (kC cy ad a0) ad tI J) H → va_S A s.heap H locs → decode cX1_swapEvery pc = .ok (.ireturn, 1) → W p l e R s m args below meth c H locs 0 0 Q (F0 m pc ls [.int tx])) : W p l e R s m args below meth c s.heap [] 0 0 Q (F0 m 0 ls []) := by
  obtain ⟨S, E, hP, hl⟩ := S0
  obtain ⟨hx, hb, hml, hown, hts⟩ := id S
  have hS : va_S A s.heap s.heap [] := va_S.rf
  replace hl : lv_has ls 3 [(0, .ref (ad o)), (1, .int p1)] := hl
  unfold f_X1_swapEvery at hf
  refine lv_aload_n hx hb dX1_swapEvery_0 rfl (lv_at hl 0 rfl) ?_
  refine va_get (D := D) (ci := 1) (v := .int (I o 5)) (C := RX1) (T := TX1) (N := 6) hx hb hts hinX1_swapEvery_X1 hown E.1 hP o (zO.get (oX1_at ho)) rfl 5 (by decide) (hts (.fieldLink RX1 22 "EdgeAndSpeed$Habits" "every" "I") (by decide +kernel)) (fun _ h9 => h9) rfl dX1_swapEvery_1 ?_
  refine lv_topi (fun y1 ey1 => ?_)
  replace hf := zn_s ey1 hf
  refine lv_istore_n (lv' := [(2, .int y1), (0, .ref (ad o)), (1, .int p1)]) hx hb dX1_swapEvery_4 rfl hl (by decide) rfl (fun ls hl => ?_)
  refine lv_aload_n hx hb dX1_swapEvery_5 rfl (lv_at hl 1 rfl) ?_
  refine lv_iload_n hx hb dX1_swapEvery_6 rfl (lv_at hl 2 rfl) ?_
  obtain ⟨I2, eI2⟩ := zex (va_up I o (va_up (I o) 5 p1))
  replace hf := zn_s eI2 hf
  refine zput (D := D) (ci := 1) (v := .int p1) (ty := .int) (C := RX1) (T := TX1) (N := 6) hx hb hts hinX1_swapEvery_X1 tyX1 tyX1_ok nmX1 hown E.1 hP hD.D hS o (zO.get (oX1_at ho)) rfl 5 (by decide) (hts (.fieldLink RX1 22 "EdgeAndSpeed$Habits" "every" "I") (by decide +kernel)) (fun _ h9 => h9) rfl (tyX1_ok 5 (by decide)) rfl rfl (Nat.le_of_ble_eq_true rfl) dX1_swapEvery_7 (zO.setI (oX1_at ho) rfl eI2) (fun H locs hP hS => ?_)
  refine lv_iload_n hx hb dX1_swapEvery_10 rfl (lv_at hl 0 rfl) ?_
  exact hret _ _ hf _ _ _ _ hP hS dX1_swapEvery_11
theorem c_X1_swapEvery (l : Launch) {D : va_G} {a0 : Nat → Nat} {A : Nat → Prop} {cy : Nat → ClassId} {ad : Nat → Nat} (hD : zD A 74 ad) {I : zI} {J : zJ} (o : Nat) (ho : zHn o) (p1 : Int32) {rx : Int32} {rI : zI} (hf : f_X1_swapEvery I J o p1 = some (rx, rI)) : Met l yX1_swapEvery wsX1_swapEvery { frames := 0, cells := 0, slots := 0, locals := 0 } (zPc D a0 A cy [.ref (ad o), .int p1] (zw 74 (kC cy ad a0) ad I J)) (zQi D A rx (zw 74 (kC cy ad a0) ad rI J)) 0 0 A :=
  zmet RX1 (by decide) rfl rfl (Nat.le_of_ble_eq_true rfl) (fun p e R s m below meth c Q hfr hlo ls S0 hQ => w_X1_swapEvery hfr hlo hD o ho p1 hf S0 (fun tx tI hq H locs ls pc hP hS hd => by cases hq; exact hQ H locs _ hS (fun hx hb hr hlocks hfree => W.iret hx hb hr (fun t ht hW => ⟨⟨_, (), rfl, rfl, zht ht hP⟩, hS.F ht⟩) hfree hd hlocks)))
theorem ddX1_swapEvery : yX1_swapEvery.cls = RX1 ∧ yX1_swapEvery.cls ≠ "java/lang/invoke/MethodHandle" ∧ yX1_swapEvery.cls ≠ "java/lang/invoke/VarHandle" ∧ (parseMethodDescriptor yX1_swapEvery.desc).map (fun d => d.parameters.length) = some 1 := by decide +kernel
