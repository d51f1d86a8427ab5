theorem zapp_l {a b : va_W} {k : Nat} {x : Nat × va_E} (h : a[k]? = some x) : (a ++ b)[k]? = some x := by
  have hk : k < a.length := (List.getElem?_eq_some_iff.mp h).1
  rw [List.getElem?_append_left hk]; exact h
theorem zdis_74 : ∀ i ∈ (List.range 25).map (fun i => 74 + i), i ∉ List.range 74 := by
  intro i h1 h2
  simp at h1 h2
  omega
theorem zdis_25 : ∀ i ∈ (List.range 74).map (fun i => 25 + i), i ∉ List.range 25 := by
  intro i h1 h2
  simp at h1 h2
  omega
theorem zcmp_rr {r : Int64} : lg_cmp r r = 0 := by
  have h : ¬ r > r := Int64.lt_irrefl
  simp [lg_cmp, h]
theorem law_in {L i k : Nat} {x3 y : Int32} (hL : L ≤ 448) (h7 : i + 7 ≤ L) (hx : x3 = nI i) (hk : k < 7) (hy : y = x3 + Int32.ofNat k) : vp_in y L := by
  subst hy; subst hx
  rw [show nI i + Int32.ofNat k = nI (i + k) from nI_add i k]
  exact vp_in_nI (by omega) (by omega)
theorem law_in0 {L i : Nat} {x3 : Int32} (hL : L ≤ 448) (h7 : i + 7 ≤ L) (hx : x3 = nI i) : vp_in x3 L := by
  subst hx
  exact vp_in_nI (by omega) (by omega)
theorem law_end {L i : Nat} {x3 : Int32} (hL : L ≤ 448) (hi : i ≤ L) (hx : x3 = nI i) (h : ¬ Int32.ofNat L - 7 < x3) : i + 7 ≤ L := by
  subst hx
  have h1 : (Int32.ofNat L - 7).toInt = (L : Int) - 7 := by
    rw [Int32.toInt_sub, show (Int32.ofNat L).toInt = (L : Int) from nI_toInt (by omega), show (7 : Int32).toInt = 7 from rfl, Int.bmod_eq_of_le (by omega) (by omega)]
  have h2 : (nI i).toInt = (i : Int) := nI_toInt (by omega)
  have h3 : ¬ (Int32.ofNat L - 7).toInt < (nI i).toInt := fun q => h (Int32.lt_iff_toInt_lt.mpr q)
  omega
/-- write: both answer alike, and the relation stays -/
def op_write (Rel : zI → zJ → zI → zJ → Prop) : Prop := ∀ (I : zI) (J : zJ) (IM : zI) (JM : zJ), Rel I J IM JM → ∀ (p1 : Int32) (p2 : Int64), ∃ (r : Int32) (rI : zI) (sI : zI), f_X11_write I J p1 p2 = some (r, rI) ∧ f_X12_write IM JM p1 p2 = some (r, sI) ∧ Rel rI J sI JM
set_option maxHeartbeats 4000000 in
set_option maxRecDepth 100000 in
theorem law_case_0 {p : Program} {l : Launch} {e : Env} {s : State} {m : MethodId} {below : List Frame} {meth : Method} {c : Code} {D : va_G} {cy : Nat → ClassId} {a0 ad adM : Nat → Nat} {b L : Nat} {xs : Nat → Int32} {Rel : zI → zJ → zI → zJ → Prop} (hop : op_write Rel) (hL : L ≤ 448) (C0 : lw_At p s m meth c b L xs) (E : zE D a0 (fun q : Nat => s.heap.size ≤ q) cy s) {I : zI} {J : zJ} {IM : zI} {JM : zJ} (hR : Rel I J IM JM) (i : Nat) (hi7 : i + 7 ≤ L) (x3 : Int32) (hx3 : x3 = nI i) {H : Heap} {locs : List Loc} (hP : va_P D vwCl (zw 74 (kC cy ad a0) ad I J ++ zw 25 (kM cy adM) adM IM JM) H) (hD : va_D (fun q : Nat => s.heap.size ≤ q) (zw 74 (kC cy ad a0) ad I J ++ zw 25 (kM cy adM) adM IM JM)) (hS : va_S (fun q : Nat => s.heap.size ≤ q) s.heap H locs) {ls : Array Slot} (hl : lv_has ls 4 [(0, .ref b), (1, .ref (ad 0)), (2, .ref (adM 0)), (3, .int x3)]) (kk : ∀ (I : zI) (J : zJ) (IM : zI) (JM : zJ) (H : Heap) (locs : List Loc), Rel I J IM JM → va_P D vwCl (zw 74 (kC cy ad a0) ad I J ++ zw 25 (kM cy adM) adM IM JM) H → va_D (fun q : Nat => s.heap.size ≤ q) (zw 74 (kC cy ad a0) ad I J ++ zw 25 (kM cy adM) adM IM JM) → va_S (fun q : Nat => s.heap.size ≤ q) s.heap H locs → W p l e room_1 s m #[Value.ref b] below meth c H locs 600000 7302249 (lw_Z below #[Value.ref b] s) (F0 m 1187 ls [])) : W p l e room_1 s m #[Value.ref b] below meth c H locs 600000 7302249 (lw_Z below #[Value.ref b] s) (F0 m 156 ls []) := by
  obtain ⟨hx, hb, hr, hml, hown, hts, hX, hbl, hlocks, hgv⟩ := id C0
  have hA : ∀ q : Nat, s.heap.size ≤ q → (fun q : Nat => s.heap.size ≤ q) q := fun _ h => h
  have hbA : ¬ (fun q : Nat => s.heap.size ≤ q) b := Nat.not_le.mpr hbl
  have htsL : ∀ w ∈ wsLF, w.before #[Value.ref b] s = true := fun w h => hts w (wsLF_in w h)
  have S : CallFix p m c code 4 s #[Value.ref b] wsLF RL := ⟨hx, hb, hml, hown, htsL⟩
  have hiC : zInj 74 ad := zInj_of (hD.sub (List.range 74) (by decide) (zC_left zw_len))
  have hiM : zInj 25 adM := zInj_of (hD.sub ((List.range 25).map (fun i => 74 + i)) (by decide) (zC_right zw_len zw_len))
  refine lv_aload_n hx hb dL_law_156 rfl (lv_at hl 1 rfl) ?_
  refine lv_aload_n hx hb dL_law_157 rfl (lv_at hl 0 rfl) ?_
  refine lv_iload_n hx hb dL_law_158 rfl (lv_at hl 3 rfl) ?_
  refine lv_iconst (v := 1) hx hb dL_law_159 (by decide) ?_
  refine lv_iadd hx hb dL_law_160 ?_
  refine va_sld hx hb hX hbl hbA hS (law_in hL hi7 hx3 (k := 1) (by decide) rfl) dL_law_161 ?_
  refine lv_aload_n hx hb dL_law_162 rfl (lv_at hl 0 rfl) ?_
  refine lv_iload_n hx hb dL_law_163 rfl (lv_at hl 3 rfl) ?_
  refine lv_iconst (v := 2) hx hb dL_law_164 (by decide) ?_
  refine lv_iadd hx hb dL_law_165 ?_
  refine va_sld hx hb hX hbl hbA hS (law_in hL hi7 hx3 (k := 2) (by decide) rfl) dL_law_166 ?_
  refine lv_i2l hx hb dL_law_167 rfl ?_
  refine lv_bipush (v := 32) hx hb dL_law_168 (by decide) ?_
  refine lv_lshl hx hb dL_law_170 rfl ?_
  refine lv_aload_n hx hb dL_law_171 rfl (lv_at hl 0 rfl) ?_
  refine lv_iload_n hx hb dL_law_172 rfl (lv_at hl 3 rfl) ?_
  refine lv_iconst (v := 3) hx hb dL_law_173 (by decide) ?_
  refine lv_iadd hx hb dL_law_174 ?_
  refine va_sld hx hb hX hbl hbA hS (law_in hL hi7 hx3 (k := 3) (by decide) rfl) dL_law_175 ?_
  refine lv_i2l hx hb dL_law_176 rfl ?_
  refine lv_ldc2 hx hb hown (hts (.constantLong RL 13 4294967295) (by decide +kernel)) dL_law_177 ?_
  refine lv_land hx hb dL_law_180 ?_
  refine lv_lor hx hb dL_law_181 ?_
  obtain ⟨r, rI, sI, hc1, hc2, hR2⟩ := hop I J IM JM hR (xs (x3 + 1).toNatClampNeg) (((xs (x3 + 2).toNatClampNeg).toInt64 <<< ((32 : Int32).toInt64 &&& 63)) ||| ((xs (x3 + 3).toNatClampNeg).toInt64 &&& 4294967295))
  refine zcallW_i (As := [.int (xs (x3 + 1).toNatClampNeg), .long (((xs (x3 + 2).toNatClampNeg).toInt64 <<< ((32 : Int32).toInt64 &&& 63)) ||| ((xs (x3 + 3).toNatClampNeg).toInt64 &&& 4294967295))]) (rest := []) (wr := zw 25 (kM cy adM) adM IM JM) (I2 := rI) (J2 := J) S (c_X11_write l (zInj.D hiC) (xs (x3 + 1).toNatClampNeg) (((xs (x3 + 2).toNatClampNeg).toInt64 <<< ((32 : Int32).toInt64 &&& 63)) ||| ((xs (x3 + 3).toNatClampNeg).toInt64 &&& 4294967295)) hc1) (cwV 2 htsL gF_X11_write rfl rfl rfl ddX11_write ⟨Nat.le_of_ble_eq_true rfl, Nat.le_of_ble_eq_true rfl⟩) (va_recv E.1 hP (q := (RX11, TX11, 12)) (ci := 10) (q0 := 0) rfl (zapp_l (zO.get oX11_at))) E hP hD hS hA hiC (List.range 74) ((List.range 25).map (fun i => 74 + i)) (zC_left zw_len) (zC_right zw_len zw_len) (by decide) zdis_74 hl.1 rfl rfl (Nat.le_of_ble_eq_true rfl) dL_law_182 ⟨Nat.le_refl _, Nat.le_refl _⟩ (fun H locs hP hD hS => ?_)
  refine lv_aload_n hx hb dL_law_185 rfl (lv_at hl 2 rfl) ?_
  refine lv_aload_n hx hb dL_law_186 rfl (lv_at hl 0 rfl) ?_
  refine lv_iload_n hx hb dL_law_187 rfl (lv_at hl 3 rfl) ?_
  refine lv_iconst (v := 1) hx hb dL_law_188 (by decide) ?_
  refine lv_iadd hx hb dL_law_189 ?_
  refine va_sld hx hb hX hbl hbA hS (law_in hL hi7 hx3 (k := 1) (by decide) rfl) dL_law_190 ?_
  refine lv_aload_n hx hb dL_law_191 rfl (lv_at hl 0 rfl) ?_
  refine lv_iload_n hx hb dL_law_192 rfl (lv_at hl 3 rfl) ?_
  refine lv_iconst (v := 2) hx hb dL_law_193 (by decide) ?_
  refine lv_iadd hx hb dL_law_194 ?_
  refine va_sld hx hb hX hbl hbA hS (law_in hL hi7 hx3 (k := 2) (by decide) rfl) dL_law_195 ?_
  refine lv_i2l hx hb dL_law_196 rfl ?_
  refine lv_bipush (v := 32) hx hb dL_law_197 (by decide) ?_
  refine lv_lshl hx hb dL_law_199 rfl ?_
  refine lv_aload_n hx hb dL_law_200 rfl (lv_at hl 0 rfl) ?_
  refine lv_iload_n hx hb dL_law_201 rfl (lv_at hl 3 rfl) ?_
  refine lv_iconst (v := 3) hx hb dL_law_202 (by decide) ?_
  refine lv_iadd hx hb dL_law_203 ?_
  refine va_sld hx hb hX hbl hbA hS (law_in hL hi7 hx3 (k := 3) (by decide) rfl) dL_law_204 ?_
  refine lv_i2l hx hb dL_law_205 rfl ?_
  refine lv_ldc2 hx hb hown (hts (.constantLong RL 13 4294967295) (by decide +kernel)) dL_law_206 ?_
  refine lv_land hx hb dL_law_209 ?_
  refine lv_lor hx hb dL_law_210 ?_
  refine zcallW_i (As := [.int (xs (x3 + 1).toNatClampNeg), .long (((xs (x3 + 2).toNatClampNeg).toInt64 <<< ((32 : Int32).toInt64 &&& 63)) ||| ((xs (x3 + 3).toNatClampNeg).toInt64 &&& 4294967295))]) (rest := [.int r]) (wr := zw 74 (kC cy ad a0) ad rI J) (I2 := sI) (J2 := JM) S (c_X12_write l (zInj.D hiM) (xs (x3 + 1).toNatClampNeg) (((xs (x3 + 2).toNatClampNeg).toInt64 <<< ((32 : Int32).toInt64 &&& 63)) ||| ((xs (x3 + 3).toNatClampNeg).toInt64 &&& 4294967295)) hc2) (cwV 2 htsL gF_X12_write rfl rfl rfl ddX12_write ⟨Nat.le_of_ble_eq_true rfl, Nat.le_of_ble_eq_true rfl⟩) (va_recv E.1 hP (q := (RX12, TX12, 31)) (ci := 11) (q0 := 0) rfl (zapp_l (zO.get oX12_at))) E hP hD hS hA hiM (List.range 25) ((List.range 74).map (fun i => 25 + i)) (zC_left zw_len) (zC_right zw_len zw_len) (by decide) zdis_25 hl.1 rfl rfl (Nat.le_of_ble_eq_true rfl) dL_law_211 ⟨Nat.le_refl _, Nat.le_refl _⟩ (fun H locs hP hD hS => ?_)
  refine lv_icmp_eq (tgt := 1187) hx hb dL_law_214 (by decide) (fun _ => ?_) (fun k9 => absurd rfl k9)
  exact kk _ _ _ _ _ _ hR2 hP hD hS
/-- wipe: both answer alike, and the relation stays -/
def op_wipe (Rel : zI → zJ → zI → zJ → Prop) : Prop := ∀ (I : zI) (J : zJ) (IM : zI) (JM : zJ), Rel I J IM JM → ∃ (r : Int32) (rI : zI) (sI : zI), f_X11_wipe I J = some (r, rI) ∧ f_X12_wipe IM JM = some (r, sI) ∧ Rel rI J sI JM
set_option maxHeartbeats 4000000 in
set_option maxRecDepth 100000 in
theorem law_case_1 {p : Program} {l : Launch} {e : Env} {s : State} {m : MethodId} {below : List Frame} {meth : Method} {c : Code} {D : va_G} {cy : Nat → ClassId} {a0 ad adM : Nat → Nat} {b L : Nat} {xs : Nat → Int32} {Rel : zI → zJ → zI → zJ → Prop} (hop : op_wipe Rel) (hL : L ≤ 448) (C0 : lw_At p s m meth c b L xs) (E : zE D a0 (fun q : Nat => s.heap.size ≤ q) cy s) {I : zI} {J : zJ} {IM : zI} {JM : zJ} (hR : Rel I J IM JM) (i : Nat) (hi7 : i + 7 ≤ L) (x3 : Int32) (hx3 : x3 = nI i) {H : Heap} {locs : List Loc} (hP : va_P D vwCl (zw 74 (kC cy ad a0) ad I J ++ zw 25 (kM cy adM) adM IM JM) H) (hD : va_D (fun q : Nat => s.heap.size ≤ q) (zw 74 (kC cy ad a0) ad I J ++ zw 25 (kM cy adM) adM IM JM)) (hS : va_S (fun q : Nat => s.heap.size ≤ q) s.heap H locs) {ls : Array Slot} (hl : lv_has ls 4 [(0, .ref b), (1, .ref (ad 0)), (2, .ref (adM 0)), (3, .int x3)]) (kk : ∀ (I : zI) (J : zJ) (IM : zI) (JM : zJ) (H : Heap) (locs : List Loc), Rel I J IM JM → va_P D vwCl (zw 74 (kC cy ad a0) ad I J ++ zw 25 (kM cy adM) adM IM JM) H → va_D (fun q : Nat => s.heap.size ≤ q) (zw 74 (kC cy ad a0) ad I J ++ zw 25 (kM cy adM) adM IM JM) → va_S (fun q : Nat => s.heap.size ≤ q) s.heap H locs → W p l e room_1 s m #[Value.ref b] below meth c H locs 600000 7302249 (lw_Z below #[Value.ref b] s) (F0 m 1187 ls [])) : W p l e room_1 s m #[Value.ref b] below meth c H locs 600000 7302249 (lw_Z below #[Value.ref b] s) (F0 m 219 ls []) := by
  obtain ⟨hx, hb, hr, hml, hown, hts, hX, hbl, hlocks, hgv⟩ := id C0
  have hA : ∀ q : Nat, s.heap.size ≤ q → (fun q : Nat => s.heap.size ≤ q) q := fun _ h => h
  have hbA : ¬ (fun q : Nat => s.heap.size ≤ q) b := Nat.not_le.mpr hbl
  have htsL : ∀ w ∈ wsLF, w.before #[Value.ref b] s = true := fun w h => hts w (wsLF_in w h)
  have S : CallFix p m c code 4 s #[Value.ref b] wsLF RL := ⟨hx, hb, hml, hown, htsL⟩
  have hiC : zInj 74 ad := zInj_of (hD.sub (List.range 74) (by decide) (zC_left zw_len))
  have hiM : zInj 25 adM := zInj_of (hD.sub ((List.range 25).map (fun i => 74 + i)) (by decide) (zC_right zw_len zw_len))
  refine lv_aload_n hx hb dL_law_219 rfl (lv_at hl 1 rfl) ?_
  obtain ⟨r, rI, sI, hc1, hc2, hR2⟩ := hop I J IM JM hR
  refine zcallW_i (As := []) (rest := []) (wr := zw 25 (kM cy adM) adM IM JM) (I2 := rI) (J2 := J) S (c_X11_wipe l (zInj.D hiC) hc1) (cwV 0 htsL gF_X11_wipe rfl rfl rfl ddX11_wipe ⟨Nat.le_of_ble_eq_true rfl, Nat.le_of_ble_eq_true rfl⟩) (va_recv E.1 hP (q := (RX11, TX11, 12)) (ci := 10) (q0 := 0) rfl (zapp_l (zO.get oX11_at))) E hP hD hS hA hiC (List.range 74) ((List.range 25).map (fun i => 74 + i)) (zC_left zw_len) (zC_right zw_len zw_len) (by decide) zdis_74 hl.1 rfl rfl (Nat.le_of_ble_eq_true rfl) dL_law_220 ⟨Nat.le_refl _, Nat.le_refl _⟩ (fun H locs hP hD hS => ?_)
  refine lv_aload_n hx hb dL_law_223 rfl (lv_at hl 2 rfl) ?_
  refine zcallW_i (As := []) (rest := [.int r]) (wr := zw 74 (kC cy ad a0) ad rI J) (I2 := sI) (J2 := JM) S (c_X12_wipe l (zInj.D hiM) hc2) (cwV 0 htsL gF_X12_wipe rfl rfl rfl ddX12_wipe ⟨Nat.le_of_ble_eq_true rfl, Nat.le_of_ble_eq_true rfl⟩) (va_recv E.1 hP (q := (RX12, TX12, 31)) (ci := 11) (q0 := 0) rfl (zapp_l (zO.get oX12_at))) E hP hD hS hA hiM (List.range 25) ((List.range 74).map (fun i => 25 + i)) (zC_left zw_len) (zC_right zw_len zw_len) (by decide) zdis_25 hl.1 rfl rfl (Nat.le_of_ble_eq_true rfl) dL_law_224 ⟨Nat.le_refl _, Nat.le_refl _⟩ (fun H locs hP hD hS => ?_)
  refine lv_icmp_eq (tgt := 1187) hx hb dL_law_227 (by decide) (fun _ => ?_) (fun k9 => absurd rfl k9)
  exact kk _ _ _ _ _ _ hR2 hP hD hS
/-- fault: both answer alike, and the relation stays -/
def op_fault (Rel : zI → zJ → zI → zJ → Prop) : Prop := ∀ (I : zI) (J : zJ) (IM : zI) (JM : zJ), Rel I J IM JM → ∃ (r : Int32) (rI : zI) (sI : zI), f_X11_fault I J = some (r, rI) ∧ f_X12_fault IM JM = some (r, sI) ∧ Rel rI J sI JM
set_option maxHeartbeats 4000000 in
set_option maxRecDepth 100000 in
theorem law_case_2 {p : Program} {l : Launch} {e : Env} {s : State} {m : MethodId} {below : List Frame} {meth : Method} {c : Code} {D : va_G} {cy : Nat → ClassId} {a0 ad adM : Nat → Nat} {b L : Nat} {xs : Nat → Int32} {Rel : zI → zJ → zI → zJ → Prop} (hop : op_fault Rel) (hL : L ≤ 448) (C0 : lw_At p s m meth c b L xs) (E : zE D a0 (fun q : Nat => s.heap.size ≤ q) cy s) {I : zI} {J : zJ} {IM : zI} {JM : zJ} (hR : Rel I J IM JM) (i : Nat) (hi7 : i + 7 ≤ L) (x3 : Int32) (hx3 : x3 = nI i) {H : Heap} {locs : List Loc} (hP : va_P D vwCl (zw 74 (kC cy ad a0) ad I J ++ zw 25 (kM cy adM) adM IM JM) H) (hD : va_D (fun q : Nat => s.heap.size ≤ q) (zw 74 (kC cy ad a0) ad I J ++ zw 25 (kM cy adM) adM IM JM)) (hS : va_S (fun q : Nat => s.heap.size ≤ q) s.heap H locs) {ls : Array Slot} (hl : lv_has ls 4 [(0, .ref b), (1, .ref (ad 0)), (2, .ref (adM 0)), (3, .int x3)]) (kk : ∀ (I : zI) (J : zJ) (IM : zI) (JM : zJ) (H : Heap) (locs : List Loc), Rel I J IM JM → va_P D vwCl (zw 74 (kC cy ad a0) ad I J ++ zw 25 (kM cy adM) adM IM JM) H → va_D (fun q : Nat => s.heap.size ≤ q) (zw 74 (kC cy ad a0) ad I J ++ zw 25 (kM cy adM) adM IM JM) → va_S (fun q : Nat => s.heap.size ≤ q) s.heap H locs → W p l e room_1 s m #[Value.ref b] below meth c H locs 600000 7302249 (lw_Z below #[Value.ref b] s) (F0 m 1187 ls [])) : W p l e room_1 s m #[Value.ref b] below meth c H locs 600000 7302249 (lw_Z below #[Value.ref b] s) (F0 m 232 ls []) := by
  obtain ⟨hx, hb, hr, hml, hown, hts, hX, hbl, hlocks, hgv⟩ := id C0
  have hA : ∀ q : Nat, s.heap.size ≤ q → (fun q : Nat => s.heap.size ≤ q) q := fun _ h => h
  have hbA : ¬ (fun q : Nat => s.heap.size ≤ q) b := Nat.not_le.mpr hbl
  have htsL : ∀ w ∈ wsLF, w.before #[Value.ref b] s = true := fun w h => hts w (wsLF_in w h)
  have S : CallFix p m c code 4 s #[Value.ref b] wsLF RL := ⟨hx, hb, hml, hown, htsL⟩
  have hiC : zInj 74 ad := zInj_of (hD.sub (List.range 74) (by decide) (zC_left zw_len))
  have hiM : zInj 25 adM := zInj_of (hD.sub ((List.range 25).map (fun i => 74 + i)) (by decide) (zC_right zw_len zw_len))
  refine lv_aload_n hx hb dL_law_232 rfl (lv_at hl 1 rfl) ?_
  obtain ⟨r, rI, sI, hc1, hc2, hR2⟩ := hop I J IM JM hR
  refine zcallW_i (As := []) (rest := []) (wr := zw 25 (kM cy adM) adM IM JM) (I2 := rI) (J2 := J) S (c_X11_fault l (zInj.D hiC) hc1) (cwV 0 htsL gF_X11_fault rfl rfl rfl ddX11_fault ⟨Nat.le_of_ble_eq_true rfl, Nat.le_of_ble_eq_true rfl⟩) (va_recv E.1 hP (q := (RX11, TX11, 12)) (ci := 10) (q0 := 0) rfl (zapp_l (zO.get oX11_at))) E hP hD hS hA hiC (List.range 74) ((List.range 25).map (fun i => 74 + i)) (zC_left zw_len) (zC_right zw_len zw_len) (by decide) zdis_74 hl.1 rfl rfl (Nat.le_of_ble_eq_true rfl) dL_law_233 ⟨Nat.le_refl _, Nat.le_refl _⟩ (fun H locs hP hD hS => ?_)
  refine lv_aload_n hx hb dL_law_236 rfl (lv_at hl 2 rfl) ?_
  refine zcallW_i (As := []) (rest := [.int r]) (wr := zw 74 (kC cy ad a0) ad rI J) (I2 := sI) (J2 := JM) S (c_X12_fault l (zInj.D hiM) hc2) (cwV 0 htsL gF_X12_fault rfl rfl rfl ddX12_fault ⟨Nat.le_of_ble_eq_true rfl, Nat.le_of_ble_eq_true rfl⟩) (va_recv E.1 hP (q := (RX12, TX12, 31)) (ci := 11) (q0 := 0) rfl (zapp_l (zO.get oX12_at))) E hP hD hS hA hiM (List.range 25) ((List.range 74).map (fun i => 25 + i)) (zC_left zw_len) (zC_right zw_len zw_len) (by decide) zdis_25 hl.1 rfl rfl (Nat.le_of_ble_eq_true rfl) dL_law_237 ⟨Nat.le_refl _, Nat.le_refl _⟩ (fun H locs hP hD hS => ?_)
  refine lv_icmp_eq (tgt := 1187) hx hb dL_law_240 (by decide) (fun _ => ?_) (fun k9 => absurd rfl k9)
  exact kk _ _ _ _ _ _ hR2 hP hD hS
/-- lay: both answer alike, and the relation stays -/
def op_lay (Rel : zI → zJ → zI → zJ → Prop) : Prop := ∀ (I : zI) (J : zJ) (IM : zI) (JM : zJ), Rel I J IM JM → ∃ (r : Int32) (rI : zI) (sI : zI), f_X11_lay I J = some (r, rI) ∧ f_X12_lay IM JM = some (r, sI) ∧ Rel rI J sI JM
set_option maxHeartbeats 4000000 in
set_option maxRecDepth 100000 in
theorem law_case_3 {p : Program} {l : Launch} {e : Env} {s : State} {m : MethodId} {below : List Frame} {meth : Method} {c : Code} {D : va_G} {cy : Nat → ClassId} {a0 ad adM : Nat → Nat} {b L : Nat} {xs : Nat → Int32} {Rel : zI → zJ → zI → zJ → Prop} (hop : op_lay Rel) (hL : L ≤ 448) (C0 : lw_At p s m meth c b L xs) (E : zE D a0 (fun q : Nat => s.heap.size ≤ q) cy s) {I : zI} {J : zJ} {IM : zI} {JM : zJ} (hR : Rel I J IM JM) (i : Nat) (hi7 : i + 7 ≤ L) (x3 : Int32) (hx3 : x3 = nI i) {H : Heap} {locs : List Loc} (hP : va_P D vwCl (zw 74 (kC cy ad a0) ad I J ++ zw 25 (kM cy adM) adM IM JM) H) (hD : va_D (fun q : Nat => s.heap.size ≤ q) (zw 74 (kC cy ad a0) ad I J ++ zw 25 (kM cy adM) adM IM JM)) (hS : va_S (fun q : Nat => s.heap.size ≤ q) s.heap H locs) {ls : Array Slot} (hl : lv_has ls 4 [(0, .ref b), (1, .ref (ad 0)), (2, .ref (adM 0)), (3, .int x3)]) (kk : ∀ (I : zI) (J : zJ) (IM : zI) (JM : zJ) (H : Heap) (locs : List Loc), Rel I J IM JM → va_P D vwCl (zw 74 (kC cy ad a0) ad I J ++ zw 25 (kM cy adM) adM IM JM) H → va_D (fun q : Nat => s.heap.size ≤ q) (zw 74 (kC cy ad a0) ad I J ++ zw 25 (kM cy adM) adM IM JM) → va_S (fun q : Nat => s.heap.size ≤ q) s.heap H locs → W p l e room_1 s m #[Value.ref b] below meth c H locs 600000 7302249 (lw_Z below #[Value.ref b] s) (F0 m 1187 ls [])) : W p l e room_1 s m #[Value.ref b] below meth c H locs 600000 7302249 (lw_Z below #[Value.ref b] s) (F0 m 245 ls []) := by
  obtain ⟨hx, hb, hr, hml, hown, hts, hX, hbl, hlocks, hgv⟩ := id C0
  have hA : ∀ q : Nat, s.heap.size ≤ q → (fun q : Nat => s.heap.size ≤ q) q := fun _ h => h
  have hbA : ¬ (fun q : Nat => s.heap.size ≤ q) b := Nat.not_le.mpr hbl
  have htsL : ∀ w ∈ wsLF, w.before #[Value.ref b] s = true := fun w h => hts w (wsLF_in w h)
  have S : CallFix p m c code 4 s #[Value.ref b] wsLF RL := ⟨hx, hb, hml, hown, htsL⟩
  have hiC : zInj 74 ad := zInj_of (hD.sub (List.range 74) (by decide) (zC_left zw_len))
  have hiM : zInj 25 adM := zInj_of (hD.sub ((List.range 25).map (fun i => 74 + i)) (by decide) (zC_right zw_len zw_len))
  refine lv_aload_n hx hb dL_law_245 rfl (lv_at hl 1 rfl) ?_
  obtain ⟨r, rI, sI, hc1, hc2, hR2⟩ := hop I J IM JM hR
  refine zcallW_i (As := []) (rest := []) (wr := zw 25 (kM cy adM) adM IM JM) (I2 := rI) (J2 := J) S (c_X11_lay l (zInj.D hiC) hc1) (cwV 0 htsL gF_X11_lay rfl rfl rfl ddX11_lay ⟨Nat.le_of_ble_eq_true rfl, Nat.le_of_ble_eq_true rfl⟩) (va_recv E.1 hP (q := (RX11, TX11, 12)) (ci := 10) (q0 := 0) rfl (zapp_l (zO.get oX11_at))) E hP hD hS hA hiC (List.range 74) ((List.range 25).map (fun i => 74 + i)) (zC_left zw_len) (zC_right zw_len zw_len) (by decide) zdis_74 hl.1 rfl rfl (Nat.le_of_ble_eq_true rfl) dL_law_246 ⟨Nat.le_refl _, Nat.le_refl _⟩ (fun H locs hP hD hS => ?_)
  refine lv_aload_n hx hb dL_law_249 rfl (lv_at hl 2 rfl) ?_
  refine zcallW_i (As := []) (rest := [.int r]) (wr := zw 74 (kC cy ad a0) ad rI J) (I2 := sI) (J2 := JM) S (c_X12_lay l (zInj.D hiM) hc2) (cwV 0 htsL gF_X12_lay rfl rfl rfl ddX12_lay ⟨Nat.le_of_ble_eq_true rfl, Nat.le_of_ble_eq_true rfl⟩) (va_recv E.1 hP (q := (RX12, TX12, 31)) (ci := 11) (q0 := 0) rfl (zapp_l (zO.get oX12_at))) E hP hD hS hA hiM (List.range 25) ((List.range 74).map (fun i => 25 + i)) (zC_left zw_len) (zC_right zw_len zw_len) (by decide) zdis_25 hl.1 rfl rfl (Nat.le_of_ble_eq_true rfl) dL_law_250 ⟨Nat.le_refl _, Nat.le_refl _⟩ (fun H locs hP hD hS => ?_)
  refine lv_icmp_eq (tgt := 1187) hx hb dL_law_253 (by decide) (fun _ => ?_) (fun k9 => absurd rfl k9)
  exact kk _ _ _ _ _ _ hR2 hP hD hS
/-- pass: both answer alike, and the relation stays -/
def op_pass (Rel : zI → zJ → zI → zJ → Prop) : Prop := ∀ (I : zI) (J : zJ) (IM : zI) (JM : zJ), Rel I J IM JM → ∀ (p1 : Int32) (p2 : Int32) (p3 : Int32) (p4 : Int32) (p5 : Int32), ∃ (r : Int32), f_X11_pass I J p1 p2 p3 p4 p5 = some r ∧ f_X12_pass IM JM p1 p2 p3 p4 p5 = some r ∧ Rel I J IM JM
set_option maxHeartbeats 4000000 in
set_option maxRecDepth 100000 in
theorem law_case_4 {p : Program} {l : Launch} {e : Env} {s : State} {m : MethodId} {below : List Frame} {meth : Method} {c : Code} {D : va_G} {cy : Nat → ClassId} {a0 ad adM : Nat → Nat} {b L : Nat} {xs : Nat → Int32} {Rel : zI → zJ → zI → zJ → Prop} (hop : op_pass Rel) (hL : L ≤ 448) (C0 : lw_At p s m meth c b L xs) (E : zE D a0 (fun q : Nat => s.heap.size ≤ q) cy s) {I : zI} {J : zJ} {IM : zI} {JM : zJ} (hR : Rel I J IM JM) (i : Nat) (hi7 : i + 7 ≤ L) (x3 : Int32) (hx3 : x3 = nI i) {H : Heap} {locs : List Loc} (hP : va_P D vwCl (zw 74 (kC cy ad a0) ad I J ++ zw 25 (kM cy adM) adM IM JM) H) (hD : va_D (fun q : Nat => s.heap.size ≤ q) (zw 74 (kC cy ad a0) ad I J ++ zw 25 (kM cy adM) adM IM JM)) (hS : va_S (fun q : Nat => s.heap.size ≤ q) s.heap H locs) {ls : Array Slot} (hl : lv_has ls 4 [(0, .ref b), (1, .ref (ad 0)), (2, .ref (adM 0)), (3, .int x3)]) (kk : ∀ (I : zI) (J : zJ) (IM : zI) (JM : zJ) (H : Heap) (locs : List Loc), Rel I J IM JM → va_P D vwCl (zw 74 (kC cy ad a0) ad I J ++ zw 25 (kM cy adM) adM IM JM) H → va_D (fun q : Nat => s.heap.size ≤ q) (zw 74 (kC cy ad a0) ad I J ++ zw 25 (kM cy adM) adM IM JM) → va_S (fun q : Nat => s.heap.size ≤ q) s.heap H locs → W p l e room_1 s m #[Value.ref b] below meth c H locs 600000 7302249 (lw_Z below #[Value.ref b] s) (F0 m 1187 ls [])) : W p l e room_1 s m #[Value.ref b] below meth c H locs 600000 7302249 (lw_Z below #[Value.ref b] s) (F0 m 258 ls []) := by
  obtain ⟨hx, hb, hr, hml, hown, hts, hX, hbl, hlocks, hgv⟩ := id C0
  have hA : ∀ q : Nat, s.heap.size ≤ q → (fun q : Nat => s.heap.size ≤ q) q := fun _ h => h
  have hbA : ¬ (fun q : Nat => s.heap.size ≤ q) b := Nat.not_le.mpr hbl
  have htsL : ∀ w ∈ wsLF, w.before #[Value.ref b] s = true := fun w h => hts w (wsLF_in w h)
  have S : CallFix p m c code 4 s #[Value.ref b] wsLF RL := ⟨hx, hb, hml, hown, htsL⟩
  have hiC : zInj 74 ad := zInj_of (hD.sub (List.range 74) (by decide) (zC_left zw_len))
  have hiM : zInj 25 adM := zInj_of (hD.sub ((List.range 25).map (fun i => 74 + i)) (by decide) (zC_right zw_len zw_len))
  refine lv_aload_n hx hb dL_law_258 rfl (lv_at hl 1 rfl) ?_
  refine lv_aload_n hx hb dL_law_259 rfl (lv_at hl 0 rfl) ?_
  refine lv_iload_n hx hb dL_law_260 rfl (lv_at hl 3 rfl) ?_
  refine lv_iconst (v := 1) hx hb dL_law_261 (by decide) ?_
  refine lv_iadd hx hb dL_law_262 ?_
  refine va_sld hx hb hX hbl hbA hS (law_in hL hi7 hx3 (k := 1) (by decide) rfl) dL_law_263 ?_
  refine lv_aload_n hx hb dL_law_264 rfl (lv_at hl 0 rfl) ?_
  refine lv_iload_n hx hb dL_law_265 rfl (lv_at hl 3 rfl) ?_
  refine lv_iconst (v := 2) hx hb dL_law_266 (by decide) ?_
  refine lv_iadd hx hb dL_law_267 ?_
  refine va_sld hx hb hX hbl hbA hS (law_in hL hi7 hx3 (k := 2) (by decide) rfl) dL_law_268 ?_
  refine lv_aload_n hx hb dL_law_269 rfl (lv_at hl 0 rfl) ?_
  refine lv_iload_n hx hb dL_law_270 rfl (lv_at hl 3 rfl) ?_
  refine lv_iconst (v := 3) hx hb dL_law_271 (by decide) ?_
  refine lv_iadd hx hb dL_law_272 ?_
  refine va_sld hx hb hX hbl hbA hS (law_in hL hi7 hx3 (k := 3) (by decide) rfl) dL_law_273 ?_
  refine lv_aload_n hx hb dL_law_274 rfl (lv_at hl 0 rfl) ?_
  refine lv_iload_n hx hb dL_law_275 rfl (lv_at hl 3 rfl) ?_
  refine lv_iconst (v := 4) hx hb dL_law_276 (by decide) ?_
  refine lv_iadd hx hb dL_law_277 ?_
  refine va_sld hx hb hX hbl hbA hS (law_in hL hi7 hx3 (k := 4) (by decide) rfl) dL_law_278 ?_
  refine lv_aload_n hx hb dL_law_279 rfl (lv_at hl 0 rfl) ?_
  refine lv_iload_n hx hb dL_law_280 rfl (lv_at hl 3 rfl) ?_
  refine lv_iconst (v := 5) hx hb dL_law_281 (by decide) ?_
  refine lv_iadd hx hb dL_law_282 ?_
  refine va_sld hx hb hX hbl hbA hS (law_in hL hi7 hx3 (k := 5) (by decide) rfl) dL_law_283 ?_
  obtain ⟨r, hc1, hc2, hR2⟩ := hop I J IM JM hR (xs (x3 + 1).toNatClampNeg) (xs (x3 + 2).toNatClampNeg) (xs (x3 + 3).toNatClampNeg) (xs (x3 + 4).toNatClampNeg) (xs (x3 + 5).toNatClampNeg)
  refine zcallW_i (As := [.int (xs (x3 + 1).toNatClampNeg), .int (xs (x3 + 2).toNatClampNeg), .int (xs (x3 + 3).toNatClampNeg), .int (xs (x3 + 4).toNatClampNeg), .int (xs (x3 + 5).toNatClampNeg)]) (rest := []) (wr := zw 25 (kM cy adM) adM IM JM) (I2 := I) (J2 := J) S (c_X11_pass l (zInj.D hiC) (xs (x3 + 1).toNatClampNeg) (xs (x3 + 2).toNatClampNeg) (xs (x3 + 3).toNatClampNeg) (xs (x3 + 4).toNatClampNeg) (xs (x3 + 5).toNatClampNeg) hc1) (cwV 5 htsL gF_X11_pass rfl rfl rfl ddX11_pass ⟨Nat.le_of_ble_eq_true rfl, Nat.le_of_ble_eq_true rfl⟩) (va_recv E.1 hP (q := (RX11, TX11, 12)) (ci := 10) (q0 := 0) rfl (zapp_l (zO.get oX11_at))) E hP hD hS hA hiC (List.range 74) ((List.range 25).map (fun i => 74 + i)) (zC_left zw_len) (zC_right zw_len zw_len) (by decide) zdis_74 hl.1 rfl rfl (Nat.le_of_ble_eq_true rfl) dL_law_284 ⟨Nat.le_refl _, Nat.le_refl _⟩ (fun H locs hP hD hS => ?_)
  refine lv_aload_n hx hb dL_law_287 rfl (lv_at hl 2 rfl) ?_
  refine lv_aload_n hx hb dL_law_288 rfl (lv_at hl 0 rfl) ?_
  refine lv_iload_n hx hb dL_law_289 rfl (lv_at hl 3 rfl) ?_
  refine lv_iconst (v := 1) hx hb dL_law_290 (by decide) ?_
  refine lv_iadd hx hb dL_law_291 ?_
  refine va_sld hx hb hX hbl hbA hS (law_in hL hi7 hx3 (k := 1) (by decide) rfl) dL_law_292 ?_
  refine lv_aload_n hx hb dL_law_293 rfl (lv_at hl 0 rfl) ?_
  refine lv_iload_n hx hb dL_law_294 rfl (lv_at hl 3 rfl) ?_
  refine lv_iconst (v := 2) hx hb dL_law_295 (by decide) ?_
  refine lv_iadd hx hb dL_law_296 ?_
  refine va_sld hx hb hX hbl hbA hS (law_in hL hi7 hx3 (k := 2) (by decide) rfl) dL_law_297 ?_
  refine lv_aload_n hx hb dL_law_298 rfl (lv_at hl 0 rfl) ?_
  refine lv_iload_n hx hb dL_law_299 rfl (lv_at hl 3 rfl) ?_
  refine lv_iconst (v := 3) hx hb dL_law_300 (by decide) ?_
  refine lv_iadd hx hb dL_law_301 ?_
  refine va_sld hx hb hX hbl hbA hS (law_in hL hi7 hx3 (k := 3) (by decide) rfl) dL_law_302 ?_
  refine lv_aload_n hx hb dL_law_303 rfl (lv_at hl 0 rfl) ?_
  refine lv_iload_n hx hb dL_law_304 rfl (lv_at hl 3 rfl) ?_
  refine lv_iconst (v := 4) hx hb dL_law_305 (by decide) ?_
  refine lv_iadd hx hb dL_law_306 ?_
  refine va_sld hx hb hX hbl hbA hS (law_in hL hi7 hx3 (k := 4) (by decide) rfl) dL_law_307 ?_
  refine lv_aload_n hx hb dL_law_308 rfl (lv_at hl 0 rfl) ?_
  refine lv_iload_n hx hb dL_law_309 rfl (lv_at hl 3 rfl) ?_
  refine lv_iconst (v := 5) hx hb dL_law_310 (by decide) ?_
  refine lv_iadd hx hb dL_law_311 ?_
  refine va_sld hx hb hX hbl hbA hS (law_in hL hi7 hx3 (k := 5) (by decide) rfl) dL_law_312 ?_
  refine zcallW_i (As := [.int (xs (x3 + 1).toNatClampNeg), .int (xs (x3 + 2).toNatClampNeg), .int (xs (x3 + 3).toNatClampNeg), .int (xs (x3 + 4).toNatClampNeg), .int (xs (x3 + 5).toNatClampNeg)]) (rest := [.int r]) (wr := zw 74 (kC cy ad a0) ad I J) (I2 := IM) (J2 := JM) S (c_X12_pass l (zInj.D hiM) (xs (x3 + 1).toNatClampNeg) (xs (x3 + 2).toNatClampNeg) (xs (x3 + 3).toNatClampNeg) (xs (x3 + 4).toNatClampNeg) (xs (x3 + 5).toNatClampNeg) hc2) (cwV 5 htsL gF_X12_pass rfl rfl rfl ddX12_pass ⟨Nat.le_of_ble_eq_true rfl, Nat.le_of_ble_eq_true rfl⟩) (va_recv E.1 hP (q := (RX12, TX12, 31)) (ci := 11) (q0 := 0) rfl (zapp_l (zO.get oX12_at))) E hP hD hS hA hiM (List.range 25) ((List.range 74).map (fun i => 25 + i)) (zC_left zw_len) (zC_right zw_len zw_len) (by decide) zdis_25 hl.1 rfl rfl (Nat.le_of_ble_eq_true rfl) dL_law_313 ⟨Nat.le_refl _, Nat.le_refl _⟩ (fun H locs hP hD hS => ?_)
  refine lv_icmp_eq (tgt := 1187) hx hb dL_law_316 (by decide) (fun _ => ?_) (fun k9 => absurd rfl k9)
  exact kk _ _ _ _ _ _ hR2 hP hD hS
/-- breaks: both answer alike, and the relation stays -/
def op_breaks (Rel : zI → zJ → zI → zJ → Prop) : Prop := ∀ (I : zI) (J : zJ) (IM : zI) (JM : zJ), Rel I J IM JM → ∀ (p1 : Int32), ∃ (r : Int32), f_X11_breaks I J p1 = some r ∧ f_X12_breaks IM JM p1 = some r ∧ Rel I J IM JM
set_option maxHeartbeats 4000000 in
set_option maxRecDepth 100000 in
theorem law_case_5 {p : Program} {l : Launch} {e : Env} {s : State} {m : MethodId} {below : List Frame} {meth : Method} {c : Code} {D : va_G} {cy : Nat → ClassId} {a0 ad adM : Nat → Nat} {b L : Nat} {xs : Nat → Int32} {Rel : zI → zJ → zI → zJ → Prop} (hop : op_breaks Rel) (hL : L ≤ 448) (C0 : lw_At p s m meth c b L xs) (E : zE D a0 (fun q : Nat => s.heap.size ≤ q) cy s) {I : zI} {J : zJ} {IM : zI} {JM : zJ} (hR : Rel I J IM JM) (i : Nat) (hi7 : i + 7 ≤ L) (x3 : Int32) (hx3 : x3 = nI i) {H : Heap} {locs : List Loc} (hP : va_P D vwCl (zw 74 (kC cy ad a0) ad I J ++ zw 25 (kM cy adM) adM IM JM) H) (hD : va_D (fun q : Nat => s.heap.size ≤ q) (zw 74 (kC cy ad a0) ad I J ++ zw 25 (kM cy adM) adM IM JM)) (hS : va_S (fun q : Nat => s.heap.size ≤ q) s.heap H locs) {ls : Array Slot} (hl : lv_has ls 4 [(0, .ref b), (1, .ref (ad 0)), (2, .ref (adM 0)), (3, .int x3)]) (kk : ∀ (I : zI) (J : zJ) (IM : zI) (JM : zJ) (H : Heap) (locs : List Loc), Rel I J IM JM → va_P D vwCl (zw 74 (kC cy ad a0) ad I J ++ zw 25 (kM cy adM) adM IM JM) H → va_D (fun q : Nat => s.heap.size ≤ q) (zw 74 (kC cy ad a0) ad I J ++ zw 25 (kM cy adM) adM IM JM) → va_S (fun q : Nat => s.heap.size ≤ q) s.heap H locs → W p l e room_1 s m #[Value.ref b] below meth c H locs 600000 7302249 (lw_Z below #[Value.ref b] s) (F0 m 1187 ls [])) : W p l e room_1 s m #[Value.ref b] below meth c H locs 600000 7302249 (lw_Z below #[Value.ref b] s) (F0 m 321 ls []) := by
  obtain ⟨hx, hb, hr, hml, hown, hts, hX, hbl, hlocks, hgv⟩ := id C0
  have hA : ∀ q : Nat, s.heap.size ≤ q → (fun q : Nat => s.heap.size ≤ q) q := fun _ h => h
  have hbA : ¬ (fun q : Nat => s.heap.size ≤ q) b := Nat.not_le.mpr hbl
  have htsL : ∀ w ∈ wsLF, w.before #[Value.ref b] s = true := fun w h => hts w (wsLF_in w h)
  have S : CallFix p m c code 4 s #[Value.ref b] wsLF RL := ⟨hx, hb, hml, hown, htsL⟩
  have hiC : zInj 74 ad := zInj_of (hD.sub (List.range 74) (by decide) (zC_left zw_len))
  have hiM : zInj 25 adM := zInj_of (hD.sub ((List.range 25).map (fun i => 74 + i)) (by decide) (zC_right zw_len zw_len))
  refine lv_aload_n hx hb dL_law_321 rfl (lv_at hl 1 rfl) ?_
  refine lv_aload_n hx hb dL_law_322 rfl (lv_at hl 0 rfl) ?_
  refine lv_iload_n hx hb dL_law_323 rfl (lv_at hl 3 rfl) ?_
  refine lv_iconst (v := 1) hx hb dL_law_324 (by decide) ?_
  refine lv_iadd hx hb dL_law_325 ?_
  refine va_sld hx hb hX hbl hbA hS (law_in hL hi7 hx3 (k := 1) (by decide) rfl) dL_law_326 ?_
  obtain ⟨r, hc1, hc2, hR2⟩ := hop I J IM JM hR (xs (x3 + 1).toNatClampNeg)
  refine zcallW_i (As := [.int (xs (x3 + 1).toNatClampNeg)]) (rest := []) (wr := zw 25 (kM cy adM) adM IM JM) (I2 := I) (J2 := J) S (c_X11_breaks l (zInj.D hiC) (xs (x3 + 1).toNatClampNeg) hc1) (cwV 1 htsL gF_X11_breaks rfl rfl rfl ddX11_breaks ⟨Nat.le_of_ble_eq_true rfl, Nat.le_of_ble_eq_true rfl⟩) (va_recv E.1 hP (q := (RX11, TX11, 12)) (ci := 10) (q0 := 0) rfl (zapp_l (zO.get oX11_at))) E hP hD hS hA hiC (List.range 74) ((List.range 25).map (fun i => 74 + i)) (zC_left zw_len) (zC_right zw_len zw_len) (by decide) zdis_74 hl.1 rfl rfl (Nat.le_of_ble_eq_true rfl) dL_law_327 ⟨Nat.le_refl _, Nat.le_refl _⟩ (fun H locs hP hD hS => ?_)
  refine lv_aload_n hx hb dL_law_330 rfl (lv_at hl 2 rfl) ?_
  refine lv_aload_n hx hb dL_law_331 rfl (lv_at hl 0 rfl) ?_
  refine lv_iload_n hx hb dL_law_332 rfl (lv_at hl 3 rfl) ?_
  refine lv_iconst (v := 1) hx hb dL_law_333 (by decide) ?_
  refine lv_iadd hx hb dL_law_334 ?_
  refine va_sld hx hb hX hbl hbA hS (law_in hL hi7 hx3 (k := 1) (by decide) rfl) dL_law_335 ?_
  refine zcallW_i (As := [.int (xs (x3 + 1).toNatClampNeg)]) (rest := [.int r]) (wr := zw 74 (kC cy ad a0) ad I J) (I2 := IM) (J2 := JM) S (c_X12_breaks l (zInj.D hiM) (xs (x3 + 1).toNatClampNeg) hc2) (cwV 1 htsL gF_X12_breaks rfl rfl rfl ddX12_breaks ⟨Nat.le_of_ble_eq_true rfl, Nat.le_of_ble_eq_true rfl⟩) (va_recv E.1 hP (q := (RX12, TX12, 31)) (ci := 11) (q0 := 0) rfl (zapp_l (zO.get oX12_at))) E hP hD hS hA hiM (List.range 25) ((List.range 74).map (fun i => 25 + i)) (zC_left zw_len) (zC_right zw_len zw_len) (by decide) zdis_25 hl.1 rfl rfl (Nat.le_of_ble_eq_true rfl) dL_law_336 ⟨Nat.le_refl _, Nat.le_refl _⟩ (fun H locs hP hD hS => ?_)
  refine lv_icmp_eq (tgt := 1187) hx hb dL_law_339 (by decide) (fun _ => ?_) (fun k9 => absurd rfl k9)
  exact kk _ _ _ _ _ _ hR2 hP hD hS
/-- hand: both answer alike, and the relation stays -/
def op_hand (Rel : zI → zJ → zI → zJ → Prop) : Prop := ∀ (I : zI) (J : zJ) (IM : zI) (JM : zJ), Rel I J IM JM → ∀ (p1 : Int32) (p2 : Int32), ∃ (r : Int32) (rI : zI) (sI : zI), f_X11_hand I J p1 p2 = some (r, rI) ∧ f_X12_hand IM JM p1 p2 = some (r, sI) ∧ Rel rI J sI JM
set_option maxHeartbeats 4000000 in
set_option maxRecDepth 100000 in
theorem law_case_6 {p : Program} {l : Launch} {e : Env} {s : State} {m : MethodId} {below : List Frame} {meth : Method} {c : Code} {D : va_G} {cy : Nat → ClassId} {a0 ad adM : Nat → Nat} {b L : Nat} {xs : Nat → Int32} {Rel : zI → zJ → zI → zJ → Prop} (hop : op_hand Rel) (hL : L ≤ 448) (C0 : lw_At p s m meth c b L xs) (E : zE D a0 (fun q : Nat => s.heap.size ≤ q) cy s) {I : zI} {J : zJ} {IM : zI} {JM : zJ} (hR : Rel I J IM JM) (i : Nat) (hi7 : i + 7 ≤ L) (x3 : Int32) (hx3 : x3 = nI i) {H : Heap} {locs : List Loc} (hP : va_P D vwCl (zw 74 (kC cy ad a0) ad I J ++ zw 25 (kM cy adM) adM IM JM) H) (hD : va_D (fun q : Nat => s.heap.size ≤ q) (zw 74 (kC cy ad a0) ad I J ++ zw 25 (kM cy adM) adM IM JM)) (hS : va_S (fun q : Nat => s.heap.size ≤ q) s.heap H locs) {ls : Array Slot} (hl : lv_has ls 4 [(0, .ref b), (1, .ref (ad 0)), (2, .ref (adM 0)), (3, .int x3)]) (kk : ∀ (I : zI) (J : zJ) (IM : zI) (JM : zJ) (H : Heap) (locs : List Loc), Rel I J IM JM → va_P D vwCl (zw 74 (kC cy ad a0) ad I J ++ zw 25 (kM cy adM) adM IM JM) H → va_D (fun q : Nat => s.heap.size ≤ q) (zw 74 (kC cy ad a0) ad I J ++ zw 25 (kM cy adM) adM IM JM) → va_S (fun q : Nat => s.heap.size ≤ q) s.heap H locs → W p l e room_1 s m #[Value.ref b] below meth c H locs 600000 7302249 (lw_Z below #[Value.ref b] s) (F0 m 1187 ls [])) : W p l e room_1 s m #[Value.ref b] below meth c H locs 600000 7302249 (lw_Z below #[Value.ref b] s) (F0 m 344 ls []) := by
  obtain ⟨hx, hb, hr, hml, hown, hts, hX, hbl, hlocks, hgv⟩ := id C0
  have hA : ∀ q : Nat, s.heap.size ≤ q → (fun q : Nat => s.heap.size ≤ q) q := fun _ h => h
  have hbA : ¬ (fun q : Nat => s.heap.size ≤ q) b := Nat.not_le.mpr hbl
  have htsL : ∀ w ∈ wsLF, w.before #[Value.ref b] s = true := fun w h => hts w (wsLF_in w h)
  have S : CallFix p m c code 4 s #[Value.ref b] wsLF RL := ⟨hx, hb, hml, hown, htsL⟩
  have hiC : zInj 74 ad := zInj_of (hD.sub (List.range 74) (by decide) (zC_left zw_len))
  have hiM : zInj 25 adM := zInj_of (hD.sub ((List.range 25).map (fun i => 74 + i)) (by decide) (zC_right zw_len zw_len))
  refine lv_aload_n hx hb dL_law_344 rfl (lv_at hl 1 rfl) ?_
  refine lv_aload_n hx hb dL_law_345 rfl (lv_at hl 0 rfl) ?_
  refine lv_iload_n hx hb dL_law_346 rfl (lv_at hl 3 rfl) ?_
  refine lv_iconst (v := 1) hx hb dL_law_347 (by decide) ?_
  refine lv_iadd hx hb dL_law_348 ?_
  refine va_sld hx hb hX hbl hbA hS (law_in hL hi7 hx3 (k := 1) (by decide) rfl) dL_law_349 ?_
  refine lv_aload_n hx hb dL_law_350 rfl (lv_at hl 0 rfl) ?_
  refine lv_iload_n hx hb dL_law_351 rfl (lv_at hl 3 rfl) ?_
  refine lv_iconst (v := 2) hx hb dL_law_352 (by decide) ?_
  refine lv_iadd hx hb dL_law_353 ?_
  refine va_sld hx hb hX hbl hbA hS (law_in hL hi7 hx3 (k := 2) (by decide) rfl) dL_law_354 ?_
  obtain ⟨r, rI, sI, hc1, hc2, hR2⟩ := hop I J IM JM hR (xs (x3 + 1).toNatClampNeg) (xs (x3 + 2).toNatClampNeg)
  refine zcallW_i (As := [.int (xs (x3 + 1).toNatClampNeg), .int (xs (x3 + 2).toNatClampNeg)]) (rest := []) (wr := zw 25 (kM cy adM) adM IM JM) (I2 := rI) (J2 := J) S (c_X11_hand l (zInj.D hiC) (xs (x3 + 1).toNatClampNeg) (xs (x3 + 2).toNatClampNeg) hc1) (cwV 2 htsL gF_X11_hand rfl rfl rfl ddX11_hand ⟨Nat.le_of_ble_eq_true rfl, Nat.le_of_ble_eq_true rfl⟩) (va_recv E.1 hP (q := (RX11, TX11, 12)) (ci := 10) (q0 := 0) rfl (zapp_l (zO.get oX11_at))) E hP hD hS hA hiC (List.range 74) ((List.range 25).map (fun i => 74 + i)) (zC_left zw_len) (zC_right zw_len zw_len) (by decide) zdis_74 hl.1 rfl rfl (Nat.le_of_ble_eq_true rfl) dL_law_355 ⟨Nat.le_refl _, Nat.le_refl _⟩ (fun H locs hP hD hS => ?_)
  refine lv_aload_n hx hb dL_law_358 rfl (lv_at hl 2 rfl) ?_
  refine lv_aload_n hx hb dL_law_359 rfl (lv_at hl 0 rfl) ?_
  refine lv_iload_n hx hb dL_law_360 rfl (lv_at hl 3 rfl) ?_
  refine lv_iconst (v := 1) hx hb dL_law_361 (by decide) ?_
  refine lv_iadd hx hb dL_law_362 ?_
  refine va_sld hx hb hX hbl hbA hS (law_in hL hi7 hx3 (k := 1) (by decide) rfl) dL_law_363 ?_
  refine lv_aload_n hx hb dL_law_364 rfl (lv_at hl 0 rfl) ?_
  refine lv_iload_n hx hb dL_law_365 rfl (lv_at hl 3 rfl) ?_
  refine lv_iconst (v := 2) hx hb dL_law_366 (by decide) ?_
  refine lv_iadd hx hb dL_law_367 ?_
  refine va_sld hx hb hX hbl hbA hS (law_in hL hi7 hx3 (k := 2) (by decide) rfl) dL_law_368 ?_
  refine zcallW_i (As := [.int (xs (x3 + 1).toNatClampNeg), .int (xs (x3 + 2).toNatClampNeg)]) (rest := [.int r]) (wr := zw 74 (kC cy ad a0) ad rI J) (I2 := sI) (J2 := JM) S (c_X12_hand l (zInj.D hiM) (xs (x3 + 1).toNatClampNeg) (xs (x3 + 2).toNatClampNeg) hc2) (cwV 2 htsL gF_X12_hand rfl rfl rfl ddX12_hand ⟨Nat.le_of_ble_eq_true rfl, Nat.le_of_ble_eq_true rfl⟩) (va_recv E.1 hP (q := (RX12, TX12, 31)) (ci := 11) (q0 := 0) rfl (zapp_l (zO.get oX12_at))) E hP hD hS hA hiM (List.range 25) ((List.range 74).map (fun i => 25 + i)) (zC_left zw_len) (zC_right zw_len zw_len) (by decide) zdis_25 hl.1 rfl rfl (Nat.le_of_ble_eq_true rfl) dL_law_369 ⟨Nat.le_refl _, Nat.le_refl _⟩ (fun H locs hP hD hS => ?_)
  refine lv_icmp_eq (tgt := 1187) hx hb dL_law_372 (by decide) (fun _ => ?_) (fun k9 => absurd rfl k9)
  exact kk _ _ _ _ _ _ hR2 hP hD hS
/-- does: both answer alike, and the relation stays -/
def op_does (Rel : zI → zJ → zI → zJ → Prop) : Prop := ∀ (I : zI) (J : zJ) (IM : zI) (JM : zJ), Rel I J IM JM → ∀ (p1 : Int32) (p2 : Int32) (p3 : Int32) (p4 : Int32) (p5 : Int32), ∃ (r : Int32) (rI : zI) (rJ : zJ) (sI : zI) (sJ : zJ), f_X11_does I J p1 p2 p3 p4 p5 = some (r, rI, rJ) ∧ f_X12_does IM JM p1 p2 p3 p4 p5 = some (r, sI, sJ) ∧ Rel rI rJ sI sJ
set_option maxHeartbeats 4000000 in
set_option maxRecDepth 100000 in
theorem law_case_7 {p : Program} {l : Launch} {e : Env} {s : State} {m : MethodId} {below : List Frame} {meth : Method} {c : Code} {D : va_G} {cy : Nat → ClassId} {a0 ad adM : Nat → Nat} {b L : Nat} {xs : Nat → Int32} {Rel : zI → zJ → zI → zJ → Prop} (hop : op_does Rel) (hL : L ≤ 448) (C0 : lw_At p s m meth c b L xs) (E : zE D a0 (fun q : Nat => s.heap.size ≤ q) cy s) {I : zI} {J : zJ} {IM : zI} {JM : zJ} (hR : Rel I J IM JM) (i : Nat) (hi7 : i + 7 ≤ L) (x3 : Int32) (hx3 : x3 = nI i) {H : Heap} {locs : List Loc} (hP : va_P D vwCl (zw 74 (kC cy ad a0) ad I J ++ zw 25 (kM cy adM) adM IM JM) H) (hD : va_D (fun q : Nat => s.heap.size ≤ q) (zw 74 (kC cy ad a0) ad I J ++ zw 25 (kM cy adM) adM IM JM)) (hS : va_S (fun q : Nat => s.heap.size ≤ q) s.heap H locs) {ls : Array Slot} (hl : lv_has ls 4 [(0, .ref b), (1, .ref (ad 0)), (2, .ref (adM 0)), (3, .int x3)]) (kk : ∀ (I : zI) (J : zJ) (IM : zI) (JM : zJ) (H : Heap) (locs : List Loc), Rel I J IM JM → va_P D vwCl (zw 74 (kC cy ad a0) ad I J ++ zw 25 (kM cy adM) adM IM JM) H → va_D (fun q : Nat => s.heap.size ≤ q) (zw 74 (kC cy ad a0) ad I J ++ zw 25 (kM cy adM) adM IM JM) → va_S (fun q : Nat => s.heap.size ≤ q) s.heap H locs → W p l e room_1 s m #[Value.ref b] below meth c H locs 600000 7302249 (lw_Z below #[Value.ref b] s) (F0 m 1187 ls [])) : W p l e room_1 s m #[Value.ref b] below meth c H locs 600000 7302249 (lw_Z below #[Value.ref b] s) (F0 m 377 ls []) := by
  obtain ⟨hx, hb, hr, hml, hown, hts, hX, hbl, hlocks, hgv⟩ := id C0
  have hA : ∀ q : Nat, s.heap.size ≤ q → (fun q : Nat => s.heap.size ≤ q) q := fun _ h => h
  have hbA : ¬ (fun q : Nat => s.heap.size ≤ q) b := Nat.not_le.mpr hbl
  have htsL : ∀ w ∈ wsLF, w.before #[Value.ref b] s = true := fun w h => hts w (wsLF_in w h)
  have S : CallFix p m c code 4 s #[Value.ref b] wsLF RL := ⟨hx, hb, hml, hown, htsL⟩
  have hiC : zInj 74 ad := zInj_of (hD.sub (List.range 74) (by decide) (zC_left zw_len))
  have hiM : zInj 25 adM := zInj_of (hD.sub ((List.range 25).map (fun i => 74 + i)) (by decide) (zC_right zw_len zw_len))
  refine lv_aload_n hx hb dL_law_377 rfl (lv_at hl 1 rfl) ?_
  refine lv_aload_n hx hb dL_law_378 rfl (lv_at hl 0 rfl) ?_
  refine lv_iload_n hx hb dL_law_379 rfl (lv_at hl 3 rfl) ?_
  refine lv_iconst (v := 1) hx hb dL_law_380 (by decide) ?_
  refine lv_iadd hx hb dL_law_381 ?_
  refine va_sld hx hb hX hbl hbA hS (law_in hL hi7 hx3 (k := 1) (by decide) rfl) dL_law_382 ?_
  refine lv_aload_n hx hb dL_law_383 rfl (lv_at hl 0 rfl) ?_
  refine lv_iload_n hx hb dL_law_384 rfl (lv_at hl 3 rfl) ?_
  refine lv_iconst (v := 2) hx hb dL_law_385 (by decide) ?_
  refine lv_iadd hx hb dL_law_386 ?_
  refine va_sld hx hb hX hbl hbA hS (law_in hL hi7 hx3 (k := 2) (by decide) rfl) dL_law_387 ?_
  refine lv_aload_n hx hb dL_law_388 rfl (lv_at hl 0 rfl) ?_
  refine lv_iload_n hx hb dL_law_389 rfl (lv_at hl 3 rfl) ?_
  refine lv_iconst (v := 3) hx hb dL_law_390 (by decide) ?_
  refine lv_iadd hx hb dL_law_391 ?_
  refine va_sld hx hb hX hbl hbA hS (law_in hL hi7 hx3 (k := 3) (by decide) rfl) dL_law_392 ?_
  refine lv_aload_n hx hb dL_law_393 rfl (lv_at hl 0 rfl) ?_
  refine lv_iload_n hx hb dL_law_394 rfl (lv_at hl 3 rfl) ?_
  refine lv_iconst (v := 4) hx hb dL_law_395 (by decide) ?_
  refine lv_iadd hx hb dL_law_396 ?_
  refine va_sld hx hb hX hbl hbA hS (law_in hL hi7 hx3 (k := 4) (by decide) rfl) dL_law_397 ?_
  refine lv_aload_n hx hb dL_law_398 rfl (lv_at hl 0 rfl) ?_
  refine lv_iload_n hx hb dL_law_399 rfl (lv_at hl 3 rfl) ?_
  refine lv_iconst (v := 5) hx hb dL_law_400 (by decide) ?_
  refine lv_iadd hx hb dL_law_401 ?_
  refine va_sld hx hb hX hbl hbA hS (law_in hL hi7 hx3 (k := 5) (by decide) rfl) dL_law_402 ?_
  obtain ⟨r, rI, rJ, sI, sJ, hc1, hc2, hR2⟩ := hop I J IM JM hR (xs (x3 + 1).toNatClampNeg) (xs (x3 + 2).toNatClampNeg) (xs (x3 + 3).toNatClampNeg) (xs (x3 + 4).toNatClampNeg) (xs (x3 + 5).toNatClampNeg)
  refine zcallW_i (As := [.int (xs (x3 + 1).toNatClampNeg), .int (xs (x3 + 2).toNatClampNeg), .int (xs (x3 + 3).toNatClampNeg), .int (xs (x3 + 4).toNatClampNeg), .int (xs (x3 + 5).toNatClampNeg)]) (rest := []) (wr := zw 25 (kM cy adM) adM IM JM) (I2 := rI) (J2 := rJ) S (c_X11_does l (zInj.D hiC) (xs (x3 + 1).toNatClampNeg) (xs (x3 + 2).toNatClampNeg) (xs (x3 + 3).toNatClampNeg) (xs (x3 + 4).toNatClampNeg) (xs (x3 + 5).toNatClampNeg) hc1) (cwV 5 htsL gF_X11_does rfl rfl rfl ddX11_does ⟨Nat.le_of_ble_eq_true rfl, Nat.le_of_ble_eq_true rfl⟩) (va_recv E.1 hP (q := (RX11, TX11, 12)) (ci := 10) (q0 := 0) rfl (zapp_l (zO.get oX11_at))) E hP hD hS hA hiC (List.range 74) ((List.range 25).map (fun i => 74 + i)) (zC_left zw_len) (zC_right zw_len zw_len) (by decide) zdis_74 hl.1 rfl rfl (Nat.le_of_ble_eq_true rfl) dL_law_403 ⟨Nat.le_refl _, Nat.le_refl _⟩ (fun H locs hP hD hS => ?_)
  refine lv_aload_n hx hb dL_law_406 rfl (lv_at hl 2 rfl) ?_
  refine lv_aload_n hx hb dL_law_407 rfl (lv_at hl 0 rfl) ?_
  refine lv_iload_n hx hb dL_law_408 rfl (lv_at hl 3 rfl) ?_
  refine lv_iconst (v := 1) hx hb dL_law_409 (by decide) ?_
  refine lv_iadd hx hb dL_law_410 ?_
  refine va_sld hx hb hX hbl hbA hS (law_in hL hi7 hx3 (k := 1) (by decide) rfl) dL_law_411 ?_
  refine lv_aload_n hx hb dL_law_412 rfl (lv_at hl 0 rfl) ?_
  refine lv_iload_n hx hb dL_law_413 rfl (lv_at hl 3 rfl) ?_
  refine lv_iconst (v := 2) hx hb dL_law_414 (by decide) ?_
  refine lv_iadd hx hb dL_law_415 ?_
  refine va_sld hx hb hX hbl hbA hS (law_in hL hi7 hx3 (k := 2) (by decide) rfl) dL_law_416 ?_
  refine lv_aload_n hx hb dL_law_417 rfl (lv_at hl 0 rfl) ?_
  refine lv_iload_n hx hb dL_law_418 rfl (lv_at hl 3 rfl) ?_
  refine lv_iconst (v := 3) hx hb dL_law_419 (by decide) ?_
  refine lv_iadd hx hb dL_law_420 ?_
  refine va_sld hx hb hX hbl hbA hS (law_in hL hi7 hx3 (k := 3) (by decide) rfl) dL_law_421 ?_
  refine lv_aload_n hx hb dL_law_422 rfl (lv_at hl 0 rfl) ?_
  refine lv_iload_n hx hb dL_law_423 rfl (lv_at hl 3 rfl) ?_
  refine lv_iconst (v := 4) hx hb dL_law_424 (by decide) ?_
  refine lv_iadd hx hb dL_law_425 ?_
  refine va_sld hx hb hX hbl hbA hS (law_in hL hi7 hx3 (k := 4) (by decide) rfl) dL_law_426 ?_
  refine lv_aload_n hx hb dL_law_427 rfl (lv_at hl 0 rfl) ?_
  refine lv_iload_n hx hb dL_law_428 rfl (lv_at hl 3 rfl) ?_
  refine lv_iconst (v := 5) hx hb dL_law_429 (by decide) ?_
  refine lv_iadd hx hb dL_law_430 ?_
  refine va_sld hx hb hX hbl hbA hS (law_in hL hi7 hx3 (k := 5) (by decide) rfl) dL_law_431 ?_
  refine zcallW_i (As := [.int (xs (x3 + 1).toNatClampNeg), .int (xs (x3 + 2).toNatClampNeg), .int (xs (x3 + 3).toNatClampNeg), .int (xs (x3 + 4).toNatClampNeg), .int (xs (x3 + 5).toNatClampNeg)]) (rest := [.int r]) (wr := zw 74 (kC cy ad a0) ad rI rJ) (I2 := sI) (J2 := sJ) S (c_X12_does l (zInj.D hiM) (xs (x3 + 1).toNatClampNeg) (xs (x3 + 2).toNatClampNeg) (xs (x3 + 3).toNatClampNeg) (xs (x3 + 4).toNatClampNeg) (xs (x3 + 5).toNatClampNeg) hc2) (cwV 5 htsL gF_X12_does rfl rfl rfl ddX12_does ⟨Nat.le_of_ble_eq_true rfl, Nat.le_of_ble_eq_true rfl⟩) (va_recv E.1 hP (q := (RX12, TX12, 31)) (ci := 11) (q0 := 0) rfl (zapp_l (zO.get oX12_at))) E hP hD hS hA hiM (List.range 25) ((List.range 74).map (fun i => 25 + i)) (zC_left zw_len) (zC_right zw_len zw_len) (by decide) zdis_25 hl.1 rfl rfl (Nat.le_of_ble_eq_true rfl) dL_law_432 ⟨Nat.le_refl _, Nat.le_refl _⟩ (fun H locs hP hD hS => ?_)
  refine lv_icmp_eq (tgt := 1187) hx hb dL_law_435 (by decide) (fun _ => ?_) (fun k9 => absurd rfl k9)
  exact kk _ _ _ _ _ _ hR2 hP hD hS
/-- value: both answer alike, and the relation stays -/
def op_value (Rel : zI → zJ → zI → zJ → Prop) : Prop := ∀ (I : zI) (J : zJ) (IM : zI) (JM : zJ), Rel I J IM JM → ∀ (p1 : Int32) (p2 : Int32) (p3 : Int32) (p4 : Int32) (p5 : Int32), ∃ (r : Int64) (rI : zI) (rJ : zJ) (sI : zI) (sJ : zJ), f_X11_value I J p1 p2 p3 p4 p5 = some (r, rI, rJ) ∧ f_X12_value IM JM p1 p2 p3 p4 p5 = some (r, sI, sJ) ∧ Rel rI rJ sI sJ
set_option maxHeartbeats 4000000 in
set_option maxRecDepth 100000 in
theorem law_case_8 {p : Program} {l : Launch} {e : Env} {s : State} {m : MethodId} {below : List Frame} {meth : Method} {c : Code} {D : va_G} {cy : Nat → ClassId} {a0 ad adM : Nat → Nat} {b L : Nat} {xs : Nat → Int32} {Rel : zI → zJ → zI → zJ → Prop} (hop : op_value Rel) (hL : L ≤ 448) (C0 : lw_At p s m meth c b L xs) (E : zE D a0 (fun q : Nat => s.heap.size ≤ q) cy s) {I : zI} {J : zJ} {IM : zI} {JM : zJ} (hR : Rel I J IM JM) (i : Nat) (hi7 : i + 7 ≤ L) (x3 : Int32) (hx3 : x3 = nI i) {H : Heap} {locs : List Loc} (hP : va_P D vwCl (zw 74 (kC cy ad a0) ad I J ++ zw 25 (kM cy adM) adM IM JM) H) (hD : va_D (fun q : Nat => s.heap.size ≤ q) (zw 74 (kC cy ad a0) ad I J ++ zw 25 (kM cy adM) adM IM JM)) (hS : va_S (fun q : Nat => s.heap.size ≤ q) s.heap H locs) {ls : Array Slot} (hl : lv_has ls 4 [(0, .ref b), (1, .ref (ad 0)), (2, .ref (adM 0)), (3, .int x3)]) (kk : ∀ (I : zI) (J : zJ) (IM : zI) (JM : zJ) (H : Heap) (locs : List Loc), Rel I J IM JM → va_P D vwCl (zw 74 (kC cy ad a0) ad I J ++ zw 25 (kM cy adM) adM IM JM) H → va_D (fun q : Nat => s.heap.size ≤ q) (zw 74 (kC cy ad a0) ad I J ++ zw 25 (kM cy adM) adM IM JM) → va_S (fun q : Nat => s.heap.size ≤ q) s.heap H locs → W p l e room_1 s m #[Value.ref b] below meth c H locs 600000 7302249 (lw_Z below #[Value.ref b] s) (F0 m 1187 ls [])) : W p l e room_1 s m #[Value.ref b] below meth c H locs 600000 7302249 (lw_Z below #[Value.ref b] s) (F0 m 440 ls []) := by
  obtain ⟨hx, hb, hr, hml, hown, hts, hX, hbl, hlocks, hgv⟩ := id C0
  have hA : ∀ q : Nat, s.heap.size ≤ q → (fun q : Nat => s.heap.size ≤ q) q := fun _ h => h
  have hbA : ¬ (fun q : Nat => s.heap.size ≤ q) b := Nat.not_le.mpr hbl
  have htsL : ∀ w ∈ wsLF, w.before #[Value.ref b] s = true := fun w h => hts w (wsLF_in w h)
  have S : CallFix p m c code 4 s #[Value.ref b] wsLF RL := ⟨hx, hb, hml, hown, htsL⟩
  have hiC : zInj 74 ad := zInj_of (hD.sub (List.range 74) (by decide) (zC_left zw_len))
  have hiM : zInj 25 adM := zInj_of (hD.sub ((List.range 25).map (fun i => 74 + i)) (by decide) (zC_right zw_len zw_len))
  refine lv_aload_n hx hb dL_law_440 rfl (lv_at hl 1 rfl) ?_
  refine lv_aload_n hx hb dL_law_441 rfl (lv_at hl 0 rfl) ?_
  refine lv_iload_n hx hb dL_law_442 rfl (lv_at hl 3 rfl) ?_
  refine lv_iconst (v := 1) hx hb dL_law_443 (by decide) ?_
  refine lv_iadd hx hb dL_law_444 ?_
  refine va_sld hx hb hX hbl hbA hS (law_in hL hi7 hx3 (k := 1) (by decide) rfl) dL_law_445 ?_
  refine lv_aload_n hx hb dL_law_446 rfl (lv_at hl 0 rfl) ?_
  refine lv_iload_n hx hb dL_law_447 rfl (lv_at hl 3 rfl) ?_
  refine lv_iconst (v := 2) hx hb dL_law_448 (by decide) ?_
  refine lv_iadd hx hb dL_law_449 ?_
  refine va_sld hx hb hX hbl hbA hS (law_in hL hi7 hx3 (k := 2) (by decide) rfl) dL_law_450 ?_
  refine lv_aload_n hx hb dL_law_451 rfl (lv_at hl 0 rfl) ?_
  refine lv_iload_n hx hb dL_law_452 rfl (lv_at hl 3 rfl) ?_
  refine lv_iconst (v := 3) hx hb dL_law_453 (by decide) ?_
  refine lv_iadd hx hb dL_law_454 ?_
  refine va_sld hx hb hX hbl hbA hS (law_in hL hi7 hx3 (k := 3) (by decide) rfl) dL_law_455 ?_
  refine lv_aload_n hx hb dL_law_456 rfl (lv_at hl 0 rfl) ?_
  refine lv_iload_n hx hb dL_law_457 rfl (lv_at hl 3 rfl) ?_
  refine lv_iconst (v := 4) hx hb dL_law_458 (by decide) ?_
  refine lv_iadd hx hb dL_law_459 ?_
  refine va_sld hx hb hX hbl hbA hS (law_in hL hi7 hx3 (k := 4) (by decide) rfl) dL_law_460 ?_
  refine lv_aload_n hx hb dL_law_461 rfl (lv_at hl 0 rfl) ?_
  refine lv_iload_n hx hb dL_law_462 rfl (lv_at hl 3 rfl) ?_
  refine lv_iconst (v := 5) hx hb dL_law_463 (by decide) ?_
  refine lv_iadd hx hb dL_law_464 ?_
  refine va_sld hx hb hX hbl hbA hS (law_in hL hi7 hx3 (k := 5) (by decide) rfl) dL_law_465 ?_
  obtain ⟨r, rI, rJ, sI, sJ, hc1, hc2, hR2⟩ := hop I J IM JM hR (xs (x3 + 1).toNatClampNeg) (xs (x3 + 2).toNatClampNeg) (xs (x3 + 3).toNatClampNeg) (xs (x3 + 4).toNatClampNeg) (xs (x3 + 5).toNatClampNeg)
  refine zcallW_l (As := [.int (xs (x3 + 1).toNatClampNeg), .int (xs (x3 + 2).toNatClampNeg), .int (xs (x3 + 3).toNatClampNeg), .int (xs (x3 + 4).toNatClampNeg), .int (xs (x3 + 5).toNatClampNeg)]) (rest := []) (wr := zw 25 (kM cy adM) adM IM JM) (I2 := rI) (J2 := rJ) S (c_X11_value l (zInj.D hiC) (xs (x3 + 1).toNatClampNeg) (xs (x3 + 2).toNatClampNeg) (xs (x3 + 3).toNatClampNeg) (xs (x3 + 4).toNatClampNeg) (xs (x3 + 5).toNatClampNeg) hc1) (cwV 5 htsL gF_X11_value rfl rfl rfl ddX11_value ⟨Nat.le_of_ble_eq_true rfl, Nat.le_of_ble_eq_true rfl⟩) (va_recv E.1 hP (q := (RX11, TX11, 12)) (ci := 10) (q0 := 0) rfl (zapp_l (zO.get oX11_at))) E hP hD hS hA hiC (List.range 74) ((List.range 25).map (fun i => 74 + i)) (zC_left zw_len) (zC_right zw_len zw_len) (by decide) zdis_74 hl.1 rfl rfl (Nat.le_of_ble_eq_true rfl) dL_law_466 ⟨Nat.le_refl _, Nat.le_refl _⟩ (fun H locs hP hD hS => ?_)
  refine lv_aload_n hx hb dL_law_469 rfl (lv_at hl 2 rfl) ?_
  refine lv_aload_n hx hb dL_law_470 rfl (lv_at hl 0 rfl) ?_
  refine lv_iload_n hx hb dL_law_471 rfl (lv_at hl 3 rfl) ?_
  refine lv_iconst (v := 1) hx hb dL_law_472 (by decide) ?_
  refine lv_iadd hx hb dL_law_473 ?_
  refine va_sld hx hb hX hbl hbA hS (law_in hL hi7 hx3 (k := 1) (by decide) rfl) dL_law_474 ?_
  refine lv_aload_n hx hb dL_law_475 rfl (lv_at hl 0 rfl) ?_
  refine lv_iload_n hx hb dL_law_476 rfl (lv_at hl 3 rfl) ?_
  refine lv_iconst (v := 2) hx hb dL_law_477 (by decide) ?_
  refine lv_iadd hx hb dL_law_478 ?_
  refine va_sld hx hb hX hbl hbA hS (law_in hL hi7 hx3 (k := 2) (by decide) rfl) dL_law_479 ?_
  refine lv_aload_n hx hb dL_law_480 rfl (lv_at hl 0 rfl) ?_
  refine lv_iload_n hx hb dL_law_481 rfl (lv_at hl 3 rfl) ?_
  refine lv_iconst (v := 3) hx hb dL_law_482 (by decide) ?_
  refine lv_iadd hx hb dL_law_483 ?_
  refine va_sld hx hb hX hbl hbA hS (law_in hL hi7 hx3 (k := 3) (by decide) rfl) dL_law_484 ?_
  refine lv_aload_n hx hb dL_law_485 rfl (lv_at hl 0 rfl) ?_
  refine lv_iload_n hx hb dL_law_486 rfl (lv_at hl 3 rfl) ?_
  refine lv_iconst (v := 4) hx hb dL_law_487 (by decide) ?_
  refine lv_iadd hx hb dL_law_488 ?_
  refine va_sld hx hb hX hbl hbA hS (law_in hL hi7 hx3 (k := 4) (by decide) rfl) dL_law_489 ?_
  refine lv_aload_n hx hb dL_law_490 rfl (lv_at hl 0 rfl) ?_
  refine lv_iload_n hx hb dL_law_491 rfl (lv_at hl 3 rfl) ?_
  refine lv_iconst (v := 5) hx hb dL_law_492 (by decide) ?_
  refine lv_iadd hx hb dL_law_493 ?_
  refine va_sld hx hb hX hbl hbA hS (law_in hL hi7 hx3 (k := 5) (by decide) rfl) dL_law_494 ?_
  refine zcallW_l (As := [.int (xs (x3 + 1).toNatClampNeg), .int (xs (x3 + 2).toNatClampNeg), .int (xs (x3 + 3).toNatClampNeg), .int (xs (x3 + 4).toNatClampNeg), .int (xs (x3 + 5).toNatClampNeg)]) (rest := [.long r]) (wr := zw 74 (kC cy ad a0) ad rI rJ) (I2 := sI) (J2 := sJ) S (c_X12_value l (zInj.D hiM) (xs (x3 + 1).toNatClampNeg) (xs (x3 + 2).toNatClampNeg) (xs (x3 + 3).toNatClampNeg) (xs (x3 + 4).toNatClampNeg) (xs (x3 + 5).toNatClampNeg) hc2) (cwV 5 htsL gF_X12_value rfl rfl rfl ddX12_value ⟨Nat.le_of_ble_eq_true rfl, Nat.le_of_ble_eq_true rfl⟩) (va_recv E.1 hP (q := (RX12, TX12, 31)) (ci := 11) (q0 := 0) rfl (zapp_l (zO.get oX12_at))) E hP hD hS hA hiM (List.range 25) ((List.range 74).map (fun i => 25 + i)) (zC_left zw_len) (zC_right zw_len zw_len) (by decide) zdis_25 hl.1 rfl rfl (Nat.le_of_ble_eq_true rfl) dL_law_495 ⟨Nat.le_refl _, Nat.le_refl _⟩ (fun H locs hP hD hS => ?_)
  refine W.lcmp hx hb dL_law_498 ?_
  refine lv_if_eq (tgt := 1187) hx hb dL_law_499 (by decide) (fun _ => ?_) (fun k9 => absurd zcmp_rr k9)
  exact kk _ _ _ _ _ _ hR2 hP hD hS
/-- mean: both answer alike, and the relation stays -/
def op_mean (Rel : zI → zJ → zI → zJ → Prop) : Prop := ∀ (I : zI) (J : zJ) (IM : zI) (JM : zJ), Rel I J IM JM → ∀ (p1 : Int32) (p2 : Int32) (p3 : Int32) (p4 : Int32) (p5 : Int32) (p6 : Int32), ∃ (r : Int64) (rI : zI) (rJ : zJ) (sI : zI) (sJ : zJ), f_X11_mean I J p1 p2 p3 p4 p5 p6 = some (r, rI, rJ) ∧ f_X12_mean IM JM p1 p2 p3 p4 p5 p6 = some (r, sI, sJ) ∧ Rel rI rJ sI sJ
set_option maxHeartbeats 4000000 in
set_option maxRecDepth 100000 in
theorem law_case_9 {p : Program} {l : Launch} {e : Env} {s : State} {m : MethodId} {below : List Frame} {meth : Method} {c : Code} {D : va_G} {cy : Nat → ClassId} {a0 ad adM : Nat → Nat} {b L : Nat} {xs : Nat → Int32} {Rel : zI → zJ → zI → zJ → Prop} (hop : op_mean Rel) (hL : L ≤ 448) (C0 : lw_At p s m meth c b L xs) (E : zE D a0 (fun q : Nat => s.heap.size ≤ q) cy s) {I : zI} {J : zJ} {IM : zI} {JM : zJ} (hR : Rel I J IM JM) (i : Nat) (hi7 : i + 7 ≤ L) (x3 : Int32) (hx3 : x3 = nI i) {H : Heap} {locs : List Loc} (hP : va_P D vwCl (zw 74 (kC cy ad a0) ad I J ++ zw 25 (kM cy adM) adM IM JM) H) (hD : va_D (fun q : Nat => s.heap.size ≤ q) (zw 74 (kC cy ad a0) ad I J ++ zw 25 (kM cy adM) adM IM JM)) (hS : va_S (fun q : Nat => s.heap.size ≤ q) s.heap H locs) {ls : Array Slot} (hl : lv_has ls 4 [(0, .ref b), (1, .ref (ad 0)), (2, .ref (adM 0)), (3, .int x3)]) (kk : ∀ (I : zI) (J : zJ) (IM : zI) (JM : zJ) (H : Heap) (locs : List Loc), Rel I J IM JM → va_P D vwCl (zw 74 (kC cy ad a0) ad I J ++ zw 25 (kM cy adM) adM IM JM) H → va_D (fun q : Nat => s.heap.size ≤ q) (zw 74 (kC cy ad a0) ad I J ++ zw 25 (kM cy adM) adM IM JM) → va_S (fun q : Nat => s.heap.size ≤ q) s.heap H locs → W p l e room_1 s m #[Value.ref b] below meth c H locs 600000 7302249 (lw_Z below #[Value.ref b] s) (F0 m 1187 ls [])) : W p l e room_1 s m #[Value.ref b] below meth c H locs 600000 7302249 (lw_Z below #[Value.ref b] s) (F0 m 504 ls []) := by
  obtain ⟨hx, hb, hr, hml, hown, hts, hX, hbl, hlocks, hgv⟩ := id C0
  have hA : ∀ q : Nat, s.heap.size ≤ q → (fun q : Nat => s.heap.size ≤ q) q := fun _ h => h
  have hbA : ¬ (fun q : Nat => s.heap.size ≤ q) b := Nat.not_le.mpr hbl
  have htsL : ∀ w ∈ wsLF, w.before #[Value.ref b] s = true := fun w h => hts w (wsLF_in w h)
  have S : CallFix p m c code 4 s #[Value.ref b] wsLF RL := ⟨hx, hb, hml, hown, htsL⟩
  have hiC : zInj 74 ad := zInj_of (hD.sub (List.range 74) (by decide) (zC_left zw_len))
  have hiM : zInj 25 adM := zInj_of (hD.sub ((List.range 25).map (fun i => 74 + i)) (by decide) (zC_right zw_len zw_len))
  refine lv_aload_n hx hb dL_law_504 rfl (lv_at hl 1 rfl) ?_
  refine lv_aload_n hx hb dL_law_505 rfl (lv_at hl 0 rfl) ?_
  refine lv_iload_n hx hb dL_law_506 rfl (lv_at hl 3 rfl) ?_
  refine lv_iconst (v := 1) hx hb dL_law_507 (by decide) ?_
  refine lv_iadd hx hb dL_law_508 ?_
  refine va_sld hx hb hX hbl hbA hS (law_in hL hi7 hx3 (k := 1) (by decide) rfl) dL_law_509 ?_
  refine lv_aload_n hx hb dL_law_510 rfl (lv_at hl 0 rfl) ?_
  refine lv_iload_n hx hb dL_law_511 rfl (lv_at hl 3 rfl) ?_
  refine lv_iconst (v := 2) hx hb dL_law_512 (by decide) ?_
  refine lv_iadd hx hb dL_law_513 ?_
  refine va_sld hx hb hX hbl hbA hS (law_in hL hi7 hx3 (k := 2) (by decide) rfl) dL_law_514 ?_
  refine lv_aload_n hx hb dL_law_515 rfl (lv_at hl 0 rfl) ?_
  refine lv_iload_n hx hb dL_law_516 rfl (lv_at hl 3 rfl) ?_
  refine lv_iconst (v := 3) hx hb dL_law_517 (by decide) ?_
  refine lv_iadd hx hb dL_law_518 ?_
  refine va_sld hx hb hX hbl hbA hS (law_in hL hi7 hx3 (k := 3) (by decide) rfl) dL_law_519 ?_
  refine lv_aload_n hx hb dL_law_520 rfl (lv_at hl 0 rfl) ?_
  refine lv_iload_n hx hb dL_law_521 rfl (lv_at hl 3 rfl) ?_
  refine lv_iconst (v := 4) hx hb dL_law_522 (by decide) ?_
  refine lv_iadd hx hb dL_law_523 ?_
  refine va_sld hx hb hX hbl hbA hS (law_in hL hi7 hx3 (k := 4) (by decide) rfl) dL_law_524 ?_
  refine lv_aload_n hx hb dL_law_525 rfl (lv_at hl 0 rfl) ?_
  refine lv_iload_n hx hb dL_law_526 rfl (lv_at hl 3 rfl) ?_
  refine lv_iconst (v := 5) hx hb dL_law_527 (by decide) ?_
  refine lv_iadd hx hb dL_law_528 ?_
  refine va_sld hx hb hX hbl hbA hS (law_in hL hi7 hx3 (k := 5) (by decide) rfl) dL_law_529 ?_
  refine lv_aload_n hx hb dL_law_530 rfl (lv_at hl 0 rfl) ?_
  refine lv_iload_n hx hb dL_law_531 rfl (lv_at hl 3 rfl) ?_
  refine lv_bipush (v := 6) hx hb dL_law_532 (by decide) ?_
  refine lv_iadd hx hb dL_law_534 ?_
  refine va_sld hx hb hX hbl hbA hS (law_in hL hi7 hx3 (k := 6) (by decide) rfl) dL_law_535 ?_
  obtain ⟨r, rI, rJ, sI, sJ, hc1, hc2, hR2⟩ := hop I J IM JM hR (xs (x3 + 1).toNatClampNeg) (xs (x3 + 2).toNatClampNeg) (xs (x3 + 3).toNatClampNeg) (xs (x3 + 4).toNatClampNeg) (xs (x3 + 5).toNatClampNeg) (xs (x3 + 6).toNatClampNeg)
  refine zcallW_l (As := [.int (xs (x3 + 1).toNatClampNeg), .int (xs (x3 + 2).toNatClampNeg), .int (xs (x3 + 3).toNatClampNeg), .int (xs (x3 + 4).toNatClampNeg), .int (xs (x3 + 5).toNatClampNeg), .int (xs (x3 + 6).toNatClampNeg)]) (rest := []) (wr := zw 25 (kM cy adM) adM IM JM) (I2 := rI) (J2 := rJ) S (c_X11_mean l (zInj.D hiC) (xs (x3 + 1).toNatClampNeg) (xs (x3 + 2).toNatClampNeg) (xs (x3 + 3).toNatClampNeg) (xs (x3 + 4).toNatClampNeg) (xs (x3 + 5).toNatClampNeg) (xs (x3 + 6).toNatClampNeg) hc1) (cwV 6 htsL gF_X11_mean rfl rfl rfl ddX11_mean ⟨Nat.le_of_ble_eq_true rfl, Nat.le_of_ble_eq_true rfl⟩) (va_recv E.1 hP (q := (RX11, TX11, 12)) (ci := 10) (q0 := 0) rfl (zapp_l (zO.get oX11_at))) E hP hD hS hA hiC (List.range 74) ((List.range 25).map (fun i => 74 + i)) (zC_left zw_len) (zC_right zw_len zw_len) (by decide) zdis_74 hl.1 rfl rfl (Nat.le_of_ble_eq_true rfl) dL_law_536 ⟨Nat.le_refl _, Nat.le_refl _⟩ (fun H locs hP hD hS => ?_)
  refine lv_aload_n hx hb dL_law_539 rfl (lv_at hl 2 rfl) ?_
  refine lv_aload_n hx hb dL_law_540 rfl (lv_at hl 0 rfl) ?_
  refine lv_iload_n hx hb dL_law_541 rfl (lv_at hl 3 rfl) ?_
  refine lv_iconst (v := 1) hx hb dL_law_542 (by decide) ?_
  refine lv_iadd hx hb dL_law_543 ?_
  refine va_sld hx hb hX hbl hbA hS (law_in hL hi7 hx3 (k := 1) (by decide) rfl) dL_law_544 ?_
  refine lv_aload_n hx hb dL_law_545 rfl (lv_at hl 0 rfl) ?_
  refine lv_iload_n hx hb dL_law_546 rfl (lv_at hl 3 rfl) ?_
  refine lv_iconst (v := 2) hx hb dL_law_547 (by decide) ?_
  refine lv_iadd hx hb dL_law_548 ?_
  refine va_sld hx hb hX hbl hbA hS (law_in hL hi7 hx3 (k := 2) (by decide) rfl) dL_law_549 ?_
  refine lv_aload_n hx hb dL_law_550 rfl (lv_at hl 0 rfl) ?_
  refine lv_iload_n hx hb dL_law_551 rfl (lv_at hl 3 rfl) ?_
  refine lv_iconst (v := 3) hx hb dL_law_552 (by decide) ?_
  refine lv_iadd hx hb dL_law_553 ?_
  refine va_sld hx hb hX hbl hbA hS (law_in hL hi7 hx3 (k := 3) (by decide) rfl) dL_law_554 ?_
  refine lv_aload_n hx hb dL_law_555 rfl (lv_at hl 0 rfl) ?_
  refine lv_iload_n hx hb dL_law_556 rfl (lv_at hl 3 rfl) ?_
  refine lv_iconst (v := 4) hx hb dL_law_557 (by decide) ?_
  refine lv_iadd hx hb dL_law_558 ?_
  refine va_sld hx hb hX hbl hbA hS (law_in hL hi7 hx3 (k := 4) (by decide) rfl) dL_law_559 ?_
  refine lv_aload_n hx hb dL_law_560 rfl (lv_at hl 0 rfl) ?_
  refine lv_iload_n hx hb dL_law_561 rfl (lv_at hl 3 rfl) ?_
  refine lv_iconst (v := 5) hx hb dL_law_562 (by decide) ?_
  refine lv_iadd hx hb dL_law_563 ?_
  refine va_sld hx hb hX hbl hbA hS (law_in hL hi7 hx3 (k := 5) (by decide) rfl) dL_law_564 ?_
  refine lv_aload_n hx hb dL_law_565 rfl (lv_at hl 0 rfl) ?_
  refine lv_iload_n hx hb dL_law_566 rfl (lv_at hl 3 rfl) ?_
  refine lv_bipush (v := 6) hx hb dL_law_567 (by decide) ?_
  refine lv_iadd hx hb dL_law_569 ?_
  refine va_sld hx hb hX hbl hbA hS (law_in hL hi7 hx3 (k := 6) (by decide) rfl) dL_law_570 ?_
  refine zcallW_l (As := [.int (xs (x3 + 1).toNatClampNeg), .int (xs (x3 + 2).toNatClampNeg), .int (xs (x3 + 3).toNatClampNeg), .int (xs (x3 + 4).toNatClampNeg), .int (xs (x3 + 5).toNatClampNeg), .int (xs (x3 + 6).toNatClampNeg)]) (rest := [.long r]) (wr := zw 74 (kC cy ad a0) ad rI rJ) (I2 := sI) (J2 := sJ) S (c_X12_mean l (zInj.D hiM) (xs (x3 + 1).toNatClampNeg) (xs (x3 + 2).toNatClampNeg) (xs (x3 + 3).toNatClampNeg) (xs (x3 + 4).toNatClampNeg) (xs (x3 + 5).toNatClampNeg) (xs (x3 + 6).toNatClampNeg) hc2) (cwV 6 htsL gF_X12_mean rfl rfl rfl ddX12_mean ⟨Nat.le_of_ble_eq_true rfl, Nat.le_of_ble_eq_true rfl⟩) (va_recv E.1 hP (q := (RX12, TX12, 31)) (ci := 11) (q0 := 0) rfl (zapp_l (zO.get oX12_at))) E hP hD hS hA hiM (List.range 25) ((List.range 74).map (fun i => 25 + i)) (zC_left zw_len) (zC_right zw_len zw_len) (by decide) zdis_25 hl.1 rfl rfl (Nat.le_of_ble_eq_true rfl) dL_law_571 ⟨Nat.le_refl _, Nat.le_refl _⟩ (fun H locs hP hD hS => ?_)
  refine W.lcmp hx hb dL_law_574 ?_
  refine lv_if_eq (tgt := 1187) hx hb dL_law_575 (by decide) (fun _ => ?_) (fun k9 => absurd zcmp_rr k9)
  exact kk _ _ _ _ _ _ hR2 hP hD hS
/-- judge: both answer alike, and the relation stays -/
def op_judge (Rel : zI → zJ → zI → zJ → Prop) : Prop := ∀ (I : zI) (J : zJ) (IM : zI) (JM : zJ), Rel I J IM JM → ∀ (p1 : Int32) (p2 : Int32), ∃ (r : Int32) (rI : zI) (rJ : zJ) (sI : zI) (sJ : zJ), f_X11_judge I J p1 p2 = some (r, rI, rJ) ∧ f_X12_judge IM JM p1 p2 = some (r, sI, sJ) ∧ Rel rI rJ sI sJ
set_option maxHeartbeats 4000000 in
set_option maxRecDepth 100000 in
theorem law_case_10 {p : Program} {l : Launch} {e : Env} {s : State} {m : MethodId} {below : List Frame} {meth : Method} {c : Code} {D : va_G} {cy : Nat → ClassId} {a0 ad adM : Nat → Nat} {b L : Nat} {xs : Nat → Int32} {Rel : zI → zJ → zI → zJ → Prop} (hop : op_judge Rel) (hL : L ≤ 448) (C0 : lw_At p s m meth c b L xs) (E : zE D a0 (fun q : Nat => s.heap.size ≤ q) cy s) {I : zI} {J : zJ} {IM : zI} {JM : zJ} (hR : Rel I J IM JM) (i : Nat) (hi7 : i + 7 ≤ L) (x3 : Int32) (hx3 : x3 = nI i) {H : Heap} {locs : List Loc} (hP : va_P D vwCl (zw 74 (kC cy ad a0) ad I J ++ zw 25 (kM cy adM) adM IM JM) H) (hD : va_D (fun q : Nat => s.heap.size ≤ q) (zw 74 (kC cy ad a0) ad I J ++ zw 25 (kM cy adM) adM IM JM)) (hS : va_S (fun q : Nat => s.heap.size ≤ q) s.heap H locs) {ls : Array Slot} (hl : lv_has ls 4 [(0, .ref b), (1, .ref (ad 0)), (2, .ref (adM 0)), (3, .int x3)]) (kk : ∀ (I : zI) (J : zJ) (IM : zI) (JM : zJ) (H : Heap) (locs : List Loc), Rel I J IM JM → va_P D vwCl (zw 74 (kC cy ad a0) ad I J ++ zw 25 (kM cy adM) adM IM JM) H → va_D (fun q : Nat => s.heap.size ≤ q) (zw 74 (kC cy ad a0) ad I J ++ zw 25 (kM cy adM) adM IM JM) → va_S (fun q : Nat => s.heap.size ≤ q) s.heap H locs → W p l e room_1 s m #[Value.ref b] below meth c H locs 600000 7302249 (lw_Z below #[Value.ref b] s) (F0 m 1187 ls [])) : W p l e room_1 s m #[Value.ref b] below meth c H locs 600000 7302249 (lw_Z below #[Value.ref b] s) (F0 m 580 ls []) := by
  obtain ⟨hx, hb, hr, hml, hown, hts, hX, hbl, hlocks, hgv⟩ := id C0
  have hA : ∀ q : Nat, s.heap.size ≤ q → (fun q : Nat => s.heap.size ≤ q) q := fun _ h => h
  have hbA : ¬ (fun q : Nat => s.heap.size ≤ q) b := Nat.not_le.mpr hbl
  have htsL : ∀ w ∈ wsLF, w.before #[Value.ref b] s = true := fun w h => hts w (wsLF_in w h)
  have S : CallFix p m c code 4 s #[Value.ref b] wsLF RL := ⟨hx, hb, hml, hown, htsL⟩
  have hiC : zInj 74 ad := zInj_of (hD.sub (List.range 74) (by decide) (zC_left zw_len))
  have hiM : zInj 25 adM := zInj_of (hD.sub ((List.range 25).map (fun i => 74 + i)) (by decide) (zC_right zw_len zw_len))
  refine lv_aload_n hx hb dL_law_580 rfl (lv_at hl 1 rfl) ?_
  refine lv_aload_n hx hb dL_law_581 rfl (lv_at hl 0 rfl) ?_
  refine lv_iload_n hx hb dL_law_582 rfl (lv_at hl 3 rfl) ?_
  refine lv_iconst (v := 1) hx hb dL_law_583 (by decide) ?_
  refine lv_iadd hx hb dL_law_584 ?_
  refine va_sld hx hb hX hbl hbA hS (law_in hL hi7 hx3 (k := 1) (by decide) rfl) dL_law_585 ?_
  refine lv_aload_n hx hb dL_law_586 rfl (lv_at hl 0 rfl) ?_
  refine lv_iload_n hx hb dL_law_587 rfl (lv_at hl 3 rfl) ?_
  refine lv_iconst (v := 2) hx hb dL_law_588 (by decide) ?_
  refine lv_iadd hx hb dL_law_589 ?_
  refine va_sld hx hb hX hbl hbA hS (law_in hL hi7 hx3 (k := 2) (by decide) rfl) dL_law_590 ?_
  obtain ⟨r, rI, rJ, sI, sJ, hc1, hc2, hR2⟩ := hop I J IM JM hR (xs (x3 + 1).toNatClampNeg) (xs (x3 + 2).toNatClampNeg)
  refine zcallW_i (As := [.int (xs (x3 + 1).toNatClampNeg), .int (xs (x3 + 2).toNatClampNeg)]) (rest := []) (wr := zw 25 (kM cy adM) adM IM JM) (I2 := rI) (J2 := rJ) S (c_X11_judge l (zInj.D hiC) (xs (x3 + 1).toNatClampNeg) (xs (x3 + 2).toNatClampNeg) hc1) (cwV 2 htsL gF_X11_judge rfl rfl rfl ddX11_judge ⟨Nat.le_of_ble_eq_true rfl, Nat.le_of_ble_eq_true rfl⟩) (va_recv E.1 hP (q := (RX11, TX11, 12)) (ci := 10) (q0 := 0) rfl (zapp_l (zO.get oX11_at))) E hP hD hS hA hiC (List.range 74) ((List.range 25).map (fun i => 74 + i)) (zC_left zw_len) (zC_right zw_len zw_len) (by decide) zdis_74 hl.1 rfl rfl (Nat.le_of_ble_eq_true rfl) dL_law_591 ⟨Nat.le_refl _, Nat.le_refl _⟩ (fun H locs hP hD hS => ?_)
  refine lv_aload_n hx hb dL_law_594 rfl (lv_at hl 2 rfl) ?_
  refine lv_aload_n hx hb dL_law_595 rfl (lv_at hl 0 rfl) ?_
  refine lv_iload_n hx hb dL_law_596 rfl (lv_at hl 3 rfl) ?_
  refine lv_iconst (v := 1) hx hb dL_law_597 (by decide) ?_
  refine lv_iadd hx hb dL_law_598 ?_
  refine va_sld hx hb hX hbl hbA hS (law_in hL hi7 hx3 (k := 1) (by decide) rfl) dL_law_599 ?_
  refine lv_aload_n hx hb dL_law_600 rfl (lv_at hl 0 rfl) ?_
  refine lv_iload_n hx hb dL_law_601 rfl (lv_at hl 3 rfl) ?_
  refine lv_iconst (v := 2) hx hb dL_law_602 (by decide) ?_
  refine lv_iadd hx hb dL_law_603 ?_
  refine va_sld hx hb hX hbl hbA hS (law_in hL hi7 hx3 (k := 2) (by decide) rfl) dL_law_604 ?_
  refine zcallW_i (As := [.int (xs (x3 + 1).toNatClampNeg), .int (xs (x3 + 2).toNatClampNeg)]) (rest := [.int r]) (wr := zw 74 (kC cy ad a0) ad rI rJ) (I2 := sI) (J2 := sJ) S (c_X12_judge l (zInj.D hiM) (xs (x3 + 1).toNatClampNeg) (xs (x3 + 2).toNatClampNeg) hc2) (cwV 2 htsL gF_X12_judge rfl rfl rfl ddX12_judge ⟨Nat.le_of_ble_eq_true rfl, Nat.le_of_ble_eq_true rfl⟩) (va_recv E.1 hP (q := (RX12, TX12, 31)) (ci := 11) (q0 := 0) rfl (zapp_l (zO.get oX12_at))) E hP hD hS hA hiM (List.range 25) ((List.range 74).map (fun i => 25 + i)) (zC_left zw_len) (zC_right zw_len zw_len) (by decide) zdis_25 hl.1 rfl rfl (Nat.le_of_ble_eq_true rfl) dL_law_605 ⟨Nat.le_refl _, Nat.le_refl _⟩ (fun H locs hP hD hS => ?_)
  refine lv_icmp_eq (tgt := 1187) hx hb dL_law_608 (by decide) (fun _ => ?_) (fun k9 => absurd rfl k9)
  exact kk _ _ _ _ _ _ hR2 hP hD hS
/-- parted: both answer alike, and the relation stays -/
def op_parted (Rel : zI → zJ → zI → zJ → Prop) : Prop := ∀ (I : zI) (J : zJ) (IM : zI) (JM : zJ), Rel I J IM JM → ∀ (p1 : Int32) (p2 : Int32) (p3 : Int32) (p4 : Int32), ∃ (r : Int64) (rI : zI) (rJ : zJ) (sI : zI), f_X11_parted I J p1 p2 p3 p4 = some (r, rI, rJ) ∧ f_X12_parted IM JM p1 p2 p3 p4 = some (r, sI) ∧ Rel rI rJ sI JM
set_option maxHeartbeats 4000000 in
set_option maxRecDepth 100000 in
theorem law_case_11 {p : Program} {l : Launch} {e : Env} {s : State} {m : MethodId} {below : List Frame} {meth : Method} {c : Code} {D : va_G} {cy : Nat → ClassId} {a0 ad adM : Nat → Nat} {b L : Nat} {xs : Nat → Int32} {Rel : zI → zJ → zI → zJ → Prop} (hop : op_parted Rel) (hL : L ≤ 448) (C0 : lw_At p s m meth c b L xs) (E : zE D a0 (fun q : Nat => s.heap.size ≤ q) cy s) {I : zI} {J : zJ} {IM : zI} {JM : zJ} (hR : Rel I J IM JM) (i : Nat) (hi7 : i + 7 ≤ L) (x3 : Int32) (hx3 : x3 = nI i) {H : Heap} {locs : List Loc} (hP : va_P D vwCl (zw 74 (kC cy ad a0) ad I J ++ zw 25 (kM cy adM) adM IM JM) H) (hD : va_D (fun q : Nat => s.heap.size ≤ q) (zw 74 (kC cy ad a0) ad I J ++ zw 25 (kM cy adM) adM IM JM)) (hS : va_S (fun q : Nat => s.heap.size ≤ q) s.heap H locs) {ls : Array Slot} (hl : lv_has ls 4 [(0, .ref b), (1, .ref (ad 0)), (2, .ref (adM 0)), (3, .int x3)]) (kk : ∀ (I : zI) (J : zJ) (IM : zI) (JM : zJ) (H : Heap) (locs : List Loc), Rel I J IM JM → va_P D vwCl (zw 74 (kC cy ad a0) ad I J ++ zw 25 (kM cy adM) adM IM JM) H → va_D (fun q : Nat => s.heap.size ≤ q) (zw 74 (kC cy ad a0) ad I J ++ zw 25 (kM cy adM) adM IM JM) → va_S (fun q : Nat => s.heap.size ≤ q) s.heap H locs → W p l e room_1 s m #[Value.ref b] below meth c H locs 600000 7302249 (lw_Z below #[Value.ref b] s) (F0 m 1187 ls [])) : W p l e room_1 s m #[Value.ref b] below meth c H locs 600000 7302249 (lw_Z below #[Value.ref b] s) (F0 m 613 ls []) := by
  obtain ⟨hx, hb, hr, hml, hown, hts, hX, hbl, hlocks, hgv⟩ := id C0
  have hA : ∀ q : Nat, s.heap.size ≤ q → (fun q : Nat => s.heap.size ≤ q) q := fun _ h => h
  have hbA : ¬ (fun q : Nat => s.heap.size ≤ q) b := Nat.not_le.mpr hbl
  have htsL : ∀ w ∈ wsLF, w.before #[Value.ref b] s = true := fun w h => hts w (wsLF_in w h)
  have S : CallFix p m c code 4 s #[Value.ref b] wsLF RL := ⟨hx, hb, hml, hown, htsL⟩
  have hiC : zInj 74 ad := zInj_of (hD.sub (List.range 74) (by decide) (zC_left zw_len))
  have hiM : zInj 25 adM := zInj_of (hD.sub ((List.range 25).map (fun i => 74 + i)) (by decide) (zC_right zw_len zw_len))
  refine lv_aload_n hx hb dL_law_613 rfl (lv_at hl 1 rfl) ?_
  refine lv_aload_n hx hb dL_law_614 rfl (lv_at hl 0 rfl) ?_
  refine lv_iload_n hx hb dL_law_615 rfl (lv_at hl 3 rfl) ?_
  refine lv_iconst (v := 1) hx hb dL_law_616 (by decide) ?_
  refine lv_iadd hx hb dL_law_617 ?_
  refine va_sld hx hb hX hbl hbA hS (law_in hL hi7 hx3 (k := 1) (by decide) rfl) dL_law_618 ?_
  refine lv_aload_n hx hb dL_law_619 rfl (lv_at hl 0 rfl) ?_
  refine lv_iload_n hx hb dL_law_620 rfl (lv_at hl 3 rfl) ?_
  refine lv_iconst (v := 2) hx hb dL_law_621 (by decide) ?_
  refine lv_iadd hx hb dL_law_622 ?_
  refine va_sld hx hb hX hbl hbA hS (law_in hL hi7 hx3 (k := 2) (by decide) rfl) dL_law_623 ?_
  refine lv_aload_n hx hb dL_law_624 rfl (lv_at hl 0 rfl) ?_
  refine lv_iload_n hx hb dL_law_625 rfl (lv_at hl 3 rfl) ?_
  refine lv_iconst (v := 3) hx hb dL_law_626 (by decide) ?_
  refine lv_iadd hx hb dL_law_627 ?_
  refine va_sld hx hb hX hbl hbA hS (law_in hL hi7 hx3 (k := 3) (by decide) rfl) dL_law_628 ?_
  refine lv_aload_n hx hb dL_law_629 rfl (lv_at hl 0 rfl) ?_
  refine lv_iload_n hx hb dL_law_630 rfl (lv_at hl 3 rfl) ?_
  refine lv_iconst (v := 4) hx hb dL_law_631 (by decide) ?_
  refine lv_iadd hx hb dL_law_632 ?_
  refine va_sld hx hb hX hbl hbA hS (law_in hL hi7 hx3 (k := 4) (by decide) rfl) dL_law_633 ?_
  obtain ⟨r, rI, rJ, sI, hc1, hc2, hR2⟩ := hop I J IM JM hR (xs (x3 + 1).toNatClampNeg) (xs (x3 + 2).toNatClampNeg) (xs (x3 + 3).toNatClampNeg) (xs (x3 + 4).toNatClampNeg)
  refine zcallW_l (As := [.int (xs (x3 + 1).toNatClampNeg), .int (xs (x3 + 2).toNatClampNeg), .int (xs (x3 + 3).toNatClampNeg), .int (xs (x3 + 4).toNatClampNeg)]) (rest := []) (wr := zw 25 (kM cy adM) adM IM JM) (I2 := rI) (J2 := rJ) S (c_X11_parted l (zInj.D hiC) (xs (x3 + 1).toNatClampNeg) (xs (x3 + 2).toNatClampNeg) (xs (x3 + 3).toNatClampNeg) (xs (x3 + 4).toNatClampNeg) hc1) (cwV 4 htsL gF_X11_parted rfl rfl rfl ddX11_parted ⟨Nat.le_of_ble_eq_true rfl, Nat.le_of_ble_eq_true rfl⟩) (va_recv E.1 hP (q := (RX11, TX11, 12)) (ci := 10) (q0 := 0) rfl (zapp_l (zO.get oX11_at))) E hP hD hS hA hiC (List.range 74) ((List.range 25).map (fun i => 74 + i)) (zC_left zw_len) (zC_right zw_len zw_len) (by decide) zdis_74 hl.1 rfl rfl (Nat.le_of_ble_eq_true rfl) dL_law_634 ⟨Nat.le_refl _, Nat.le_refl _⟩ (fun H locs hP hD hS => ?_)
  refine lv_aload_n hx hb dL_law_637 rfl (lv_at hl 2 rfl) ?_
  refine lv_aload_n hx hb dL_law_638 rfl (lv_at hl 0 rfl) ?_
  refine lv_iload_n hx hb dL_law_639 rfl (lv_at hl 3 rfl) ?_
  refine lv_iconst (v := 1) hx hb dL_law_640 (by decide) ?_
  refine lv_iadd hx hb dL_law_641 ?_
  refine va_sld hx hb hX hbl hbA hS (law_in hL hi7 hx3 (k := 1) (by decide) rfl) dL_law_642 ?_
  refine lv_aload_n hx hb dL_law_643 rfl (lv_at hl 0 rfl) ?_
  refine lv_iload_n hx hb dL_law_644 rfl (lv_at hl 3 rfl) ?_
  refine lv_iconst (v := 2) hx hb dL_law_645 (by decide) ?_
  refine lv_iadd hx hb dL_law_646 ?_
  refine va_sld hx hb hX hbl hbA hS (law_in hL hi7 hx3 (k := 2) (by decide) rfl) dL_law_647 ?_
  refine lv_aload_n hx hb dL_law_648 rfl (lv_at hl 0 rfl) ?_
  refine lv_iload_n hx hb dL_law_649 rfl (lv_at hl 3 rfl) ?_
  refine lv_iconst (v := 3) hx hb dL_law_650 (by decide) ?_
  refine lv_iadd hx hb dL_law_651 ?_
  refine va_sld hx hb hX hbl hbA hS (law_in hL hi7 hx3 (k := 3) (by decide) rfl) dL_law_652 ?_
  refine lv_aload_n hx hb dL_law_653 rfl (lv_at hl 0 rfl) ?_
  refine lv_iload_n hx hb dL_law_654 rfl (lv_at hl 3 rfl) ?_
  refine lv_iconst (v := 4) hx hb dL_law_655 (by decide) ?_
  refine lv_iadd hx hb dL_law_656 ?_
  refine va_sld hx hb hX hbl hbA hS (law_in hL hi7 hx3 (k := 4) (by decide) rfl) dL_law_657 ?_
  refine zcallW_l (As := [.int (xs (x3 + 1).toNatClampNeg), .int (xs (x3 + 2).toNatClampNeg), .int (xs (x3 + 3).toNatClampNeg), .int (xs (x3 + 4).toNatClampNeg)]) (rest := [.long r]) (wr := zw 74 (kC cy ad a0) ad rI rJ) (I2 := sI) (J2 := JM) S (c_X12_parted l (zInj.D hiM) (xs (x3 + 1).toNatClampNeg) (xs (x3 + 2).toNatClampNeg) (xs (x3 + 3).toNatClampNeg) (xs (x3 + 4).toNatClampNeg) hc2) (cwV 4 htsL gF_X12_parted rfl rfl rfl ddX12_parted ⟨Nat.le_of_ble_eq_true rfl, Nat.le_of_ble_eq_true rfl⟩) (va_recv E.1 hP (q := (RX12, TX12, 31)) (ci := 11) (q0 := 0) rfl (zapp_l (zO.get oX12_at))) E hP hD hS hA hiM (List.range 25) ((List.range 74).map (fun i => 25 + i)) (zC_left zw_len) (zC_right zw_len zw_len) (by decide) zdis_25 hl.1 rfl rfl (Nat.le_of_ble_eq_true rfl) dL_law_658 ⟨Nat.le_refl _, Nat.le_refl _⟩ (fun H locs hP hD hS => ?_)
  refine W.lcmp hx hb dL_law_661 ?_
  refine lv_if_eq (tgt := 1187) hx hb dL_law_662 (by decide) (fun _ => ?_) (fun k9 => absurd zcmp_rr k9)
  exact kk _ _ _ _ _ _ hR2 hP hD hS
/-- guess: both answer alike, and the relation stays -/
def op_guess (Rel : zI → zJ → zI → zJ → Prop) : Prop := ∀ (I : zI) (J : zJ) (IM : zI) (JM : zJ), Rel I J IM JM → ∀ (p1 : Int32) (p2 : Int32), ∃ (r : Int64) (rI : zI) (rJ : zJ) (sI : zI) (sJ : zJ), f_X11_guess I J p1 p2 = some (r, rI, rJ) ∧ f_X12_guess IM JM p1 p2 = some (r, sI, sJ) ∧ Rel rI rJ sI sJ
set_option maxHeartbeats 4000000 in
set_option maxRecDepth 100000 in
theorem law_case_12 {p : Program} {l : Launch} {e : Env} {s : State} {m : MethodId} {below : List Frame} {meth : Method} {c : Code} {D : va_G} {cy : Nat → ClassId} {a0 ad adM : Nat → Nat} {b L : Nat} {xs : Nat → Int32} {Rel : zI → zJ → zI → zJ → Prop} (hop : op_guess Rel) (hL : L ≤ 448) (C0 : lw_At p s m meth c b L xs) (E : zE D a0 (fun q : Nat => s.heap.size ≤ q) cy s) {I : zI} {J : zJ} {IM : zI} {JM : zJ} (hR : Rel I J IM JM) (i : Nat) (hi7 : i + 7 ≤ L) (x3 : Int32) (hx3 : x3 = nI i) {H : Heap} {locs : List Loc} (hP : va_P D vwCl (zw 74 (kC cy ad a0) ad I J ++ zw 25 (kM cy adM) adM IM JM) H) (hD : va_D (fun q : Nat => s.heap.size ≤ q) (zw 74 (kC cy ad a0) ad I J ++ zw 25 (kM cy adM) adM IM JM)) (hS : va_S (fun q : Nat => s.heap.size ≤ q) s.heap H locs) {ls : Array Slot} (hl : lv_has ls 4 [(0, .ref b), (1, .ref (ad 0)), (2, .ref (adM 0)), (3, .int x3)]) (kk : ∀ (I : zI) (J : zJ) (IM : zI) (JM : zJ) (H : Heap) (locs : List Loc), Rel I J IM JM → va_P D vwCl (zw 74 (kC cy ad a0) ad I J ++ zw 25 (kM cy adM) adM IM JM) H → va_D (fun q : Nat => s.heap.size ≤ q) (zw 74 (kC cy ad a0) ad I J ++ zw 25 (kM cy adM) adM IM JM) → va_S (fun q : Nat => s.heap.size ≤ q) s.heap H locs → W p l e room_1 s m #[Value.ref b] below meth c H locs 600000 7302249 (lw_Z below #[Value.ref b] s) (F0 m 1187 ls [])) : W p l e room_1 s m #[Value.ref b] below meth c H locs 600000 7302249 (lw_Z below #[Value.ref b] s) (F0 m 667 ls []) := by
  obtain ⟨hx, hb, hr, hml, hown, hts, hX, hbl, hlocks, hgv⟩ := id C0
  have hA : ∀ q : Nat, s.heap.size ≤ q → (fun q : Nat => s.heap.size ≤ q) q := fun _ h => h
  have hbA : ¬ (fun q : Nat => s.heap.size ≤ q) b := Nat.not_le.mpr hbl
  have htsL : ∀ w ∈ wsLF, w.before #[Value.ref b] s = true := fun w h => hts w (wsLF_in w h)
  have S : CallFix p m c code 4 s #[Value.ref b] wsLF RL := ⟨hx, hb, hml, hown, htsL⟩
  have hiC : zInj 74 ad := zInj_of (hD.sub (List.range 74) (by decide) (zC_left zw_len))
  have hiM : zInj 25 adM := zInj_of (hD.sub ((List.range 25).map (fun i => 74 + i)) (by decide) (zC_right zw_len zw_len))
  refine lv_aload_n hx hb dL_law_667 rfl (lv_at hl 1 rfl) ?_
  refine lv_aload_n hx hb dL_law_668 rfl (lv_at hl 0 rfl) ?_
  refine lv_iload_n hx hb dL_law_669 rfl (lv_at hl 3 rfl) ?_
  refine lv_iconst (v := 1) hx hb dL_law_670 (by decide) ?_
  refine lv_iadd hx hb dL_law_671 ?_
  refine va_sld hx hb hX hbl hbA hS (law_in hL hi7 hx3 (k := 1) (by decide) rfl) dL_law_672 ?_
  refine lv_aload_n hx hb dL_law_673 rfl (lv_at hl 0 rfl) ?_
  refine lv_iload_n hx hb dL_law_674 rfl (lv_at hl 3 rfl) ?_
  refine lv_iconst (v := 2) hx hb dL_law_675 (by decide) ?_
  refine lv_iadd hx hb dL_law_676 ?_
  refine va_sld hx hb hX hbl hbA hS (law_in hL hi7 hx3 (k := 2) (by decide) rfl) dL_law_677 ?_
  obtain ⟨r, rI, rJ, sI, sJ, hc1, hc2, hR2⟩ := hop I J IM JM hR (xs (x3 + 1).toNatClampNeg) (xs (x3 + 2).toNatClampNeg)
  refine zcallW_l (As := [.int (xs (x3 + 1).toNatClampNeg), .int (xs (x3 + 2).toNatClampNeg)]) (rest := []) (wr := zw 25 (kM cy adM) adM IM JM) (I2 := rI) (J2 := rJ) S (c_X11_guess l (zInj.D hiC) (xs (x3 + 1).toNatClampNeg) (xs (x3 + 2).toNatClampNeg) hc1) (cwV 2 htsL gF_X11_guess rfl rfl rfl ddX11_guess ⟨Nat.le_of_ble_eq_true rfl, Nat.le_of_ble_eq_true rfl⟩) (va_recv E.1 hP (q := (RX11, TX11, 12)) (ci := 10) (q0 := 0) rfl (zapp_l (zO.get oX11_at))) E hP hD hS hA hiC (List.range 74) ((List.range 25).map (fun i => 74 + i)) (zC_left zw_len) (zC_right zw_len zw_len) (by decide) zdis_74 hl.1 rfl rfl (Nat.le_of_ble_eq_true rfl) dL_law_678 ⟨Nat.le_refl _, Nat.le_refl _⟩ (fun H locs hP hD hS => ?_)
  refine lv_aload_n hx hb dL_law_681 rfl (lv_at hl 2 rfl) ?_
  refine lv_aload_n hx hb dL_law_682 rfl (lv_at hl 0 rfl) ?_
  refine lv_iload_n hx hb dL_law_683 rfl (lv_at hl 3 rfl) ?_
  refine lv_iconst (v := 1) hx hb dL_law_684 (by decide) ?_
  refine lv_iadd hx hb dL_law_685 ?_
  refine va_sld hx hb hX hbl hbA hS (law_in hL hi7 hx3 (k := 1) (by decide) rfl) dL_law_686 ?_
  refine lv_aload_n hx hb dL_law_687 rfl (lv_at hl 0 rfl) ?_
  refine lv_iload_n hx hb dL_law_688 rfl (lv_at hl 3 rfl) ?_
  refine lv_iconst (v := 2) hx hb dL_law_689 (by decide) ?_
  refine lv_iadd hx hb dL_law_690 ?_
  refine va_sld hx hb hX hbl hbA hS (law_in hL hi7 hx3 (k := 2) (by decide) rfl) dL_law_691 ?_
  refine zcallW_l (As := [.int (xs (x3 + 1).toNatClampNeg), .int (xs (x3 + 2).toNatClampNeg)]) (rest := [.long r]) (wr := zw 74 (kC cy ad a0) ad rI rJ) (I2 := sI) (J2 := sJ) S (c_X12_guess l (zInj.D hiM) (xs (x3 + 1).toNatClampNeg) (xs (x3 + 2).toNatClampNeg) hc2) (cwV 2 htsL gF_X12_guess rfl rfl rfl ddX12_guess ⟨Nat.le_of_ble_eq_true rfl, Nat.le_of_ble_eq_true rfl⟩) (va_recv E.1 hP (q := (RX12, TX12, 31)) (ci := 11) (q0 := 0) rfl (zapp_l (zO.get oX12_at))) E hP hD hS hA hiM (List.range 25) ((List.range 74).map (fun i => 25 + i)) (zC_left zw_len) (zC_right zw_len zw_len) (by decide) zdis_25 hl.1 rfl rfl (Nat.le_of_ble_eq_true rfl) dL_law_692 ⟨Nat.le_refl _, Nat.le_refl _⟩ (fun H locs hP hD hS => ?_)
  refine W.lcmp hx hb dL_law_695 ?_
  refine lv_if_eq (tgt := 1187) hx hb dL_law_696 (by decide) (fun _ => ?_) (fun k9 => absurd zcmp_rr k9)
  exact kk _ _ _ _ _ _ hR2 hP hD hS
/-- blind: both answer alike, and the relation stays -/
def op_blind (Rel : zI → zJ → zI → zJ → Prop) : Prop := ∀ (I : zI) (J : zJ) (IM : zI) (JM : zJ), Rel I J IM JM → ∀ (p1 : Int32), ∃ (r : Int64) (rI : zI) (rJ : zJ) (sI : zI) (sJ : zJ), f_X11_blind I J p1 = some (r, rI, rJ) ∧ f_X12_blind IM JM p1 = some (r, sI, sJ) ∧ Rel rI rJ sI sJ
set_option maxHeartbeats 4000000 in
set_option maxRecDepth 100000 in
theorem law_case_13 {p : Program} {l : Launch} {e : Env} {s : State} {m : MethodId} {below : List Frame} {meth : Method} {c : Code} {D : va_G} {cy : Nat → ClassId} {a0 ad adM : Nat → Nat} {b L : Nat} {xs : Nat → Int32} {Rel : zI → zJ → zI → zJ → Prop} (hop : op_blind Rel) (hL : L ≤ 448) (C0 : lw_At p s m meth c b L xs) (E : zE D a0 (fun q : Nat => s.heap.size ≤ q) cy s) {I : zI} {J : zJ} {IM : zI} {JM : zJ} (hR : Rel I J IM JM) (i : Nat) (hi7 : i + 7 ≤ L) (x3 : Int32) (hx3 : x3 = nI i) {H : Heap} {locs : List Loc} (hP : va_P D vwCl (zw 74 (kC cy ad a0) ad I J ++ zw 25 (kM cy adM) adM IM JM) H) (hD : va_D (fun q : Nat => s.heap.size ≤ q) (zw 74 (kC cy ad a0) ad I J ++ zw 25 (kM cy adM) adM IM JM)) (hS : va_S (fun q : Nat => s.heap.size ≤ q) s.heap H locs) {ls : Array Slot} (hl : lv_has ls 4 [(0, .ref b), (1, .ref (ad 0)), (2, .ref (adM 0)), (3, .int x3)]) (kk : ∀ (I : zI) (J : zJ) (IM : zI) (JM : zJ) (H : Heap) (locs : List Loc), Rel I J IM JM → va_P D vwCl (zw 74 (kC cy ad a0) ad I J ++ zw 25 (kM cy adM) adM IM JM) H → va_D (fun q : Nat => s.heap.size ≤ q) (zw 74 (kC cy ad a0) ad I J ++ zw 25 (kM cy adM) adM IM JM) → va_S (fun q : Nat => s.heap.size ≤ q) s.heap H locs → W p l e room_1 s m #[Value.ref b] below meth c H locs 600000 7302249 (lw_Z below #[Value.ref b] s) (F0 m 1187 ls [])) : W p l e room_1 s m #[Value.ref b] below meth c H locs 600000 7302249 (lw_Z below #[Value.ref b] s) (F0 m 701 ls []) := by
  obtain ⟨hx, hb, hr, hml, hown, hts, hX, hbl, hlocks, hgv⟩ := id C0
  have hA : ∀ q : Nat, s.heap.size ≤ q → (fun q : Nat => s.heap.size ≤ q) q := fun _ h => h
  have hbA : ¬ (fun q : Nat => s.heap.size ≤ q) b := Nat.not_le.mpr hbl
  have htsL : ∀ w ∈ wsLF, w.before #[Value.ref b] s = true := fun w h => hts w (wsLF_in w h)
  have S : CallFix p m c code 4 s #[Value.ref b] wsLF RL := ⟨hx, hb, hml, hown, htsL⟩
  have hiC : zInj 74 ad := zInj_of (hD.sub (List.range 74) (by decide) (zC_left zw_len))
  have hiM : zInj 25 adM := zInj_of (hD.sub ((List.range 25).map (fun i => 74 + i)) (by decide) (zC_right zw_len zw_len))
  refine lv_aload_n hx hb dL_law_701 rfl (lv_at hl 1 rfl) ?_
  refine lv_aload_n hx hb dL_law_702 rfl (lv_at hl 0 rfl) ?_
  refine lv_iload_n hx hb dL_law_703 rfl (lv_at hl 3 rfl) ?_
  refine lv_iconst (v := 1) hx hb dL_law_704 (by decide) ?_
  refine lv_iadd hx hb dL_law_705 ?_
  refine va_sld hx hb hX hbl hbA hS (law_in hL hi7 hx3 (k := 1) (by decide) rfl) dL_law_706 ?_
  obtain ⟨r, rI, rJ, sI, sJ, hc1, hc2, hR2⟩ := hop I J IM JM hR (xs (x3 + 1).toNatClampNeg)
  refine zcallW_l (As := [.int (xs (x3 + 1).toNatClampNeg)]) (rest := []) (wr := zw 25 (kM cy adM) adM IM JM) (I2 := rI) (J2 := rJ) S (c_X11_blind l (zInj.D hiC) (xs (x3 + 1).toNatClampNeg) hc1) (cwV 1 htsL gF_X11_blind rfl rfl rfl ddX11_blind ⟨Nat.le_of_ble_eq_true rfl, Nat.le_of_ble_eq_true rfl⟩) (va_recv E.1 hP (q := (RX11, TX11, 12)) (ci := 10) (q0 := 0) rfl (zapp_l (zO.get oX11_at))) E hP hD hS hA hiC (List.range 74) ((List.range 25).map (fun i => 74 + i)) (zC_left zw_len) (zC_right zw_len zw_len) (by decide) zdis_74 hl.1 rfl rfl (Nat.le_of_ble_eq_true rfl) dL_law_707 ⟨Nat.le_refl _, Nat.le_refl _⟩ (fun H locs hP hD hS => ?_)
  refine lv_aload_n hx hb dL_law_710 rfl (lv_at hl 2 rfl) ?_
  refine lv_aload_n hx hb dL_law_711 rfl (lv_at hl 0 rfl) ?_
  refine lv_iload_n hx hb dL_law_712 rfl (lv_at hl 3 rfl) ?_
  refine lv_iconst (v := 1) hx hb dL_law_713 (by decide) ?_
  refine lv_iadd hx hb dL_law_714 ?_
  refine va_sld hx hb hX hbl hbA hS (law_in hL hi7 hx3 (k := 1) (by decide) rfl) dL_law_715 ?_
  refine zcallW_l (As := [.int (xs (x3 + 1).toNatClampNeg)]) (rest := [.long r]) (wr := zw 74 (kC cy ad a0) ad rI rJ) (I2 := sI) (J2 := sJ) S (c_X12_blind l (zInj.D hiM) (xs (x3 + 1).toNatClampNeg) hc2) (cwV 1 htsL gF_X12_blind rfl rfl rfl ddX12_blind ⟨Nat.le_of_ble_eq_true rfl, Nat.le_of_ble_eq_true rfl⟩) (va_recv E.1 hP (q := (RX12, TX12, 31)) (ci := 11) (q0 := 0) rfl (zapp_l (zO.get oX12_at))) E hP hD hS hA hiM (List.range 25) ((List.range 74).map (fun i => 25 + i)) (zC_left zw_len) (zC_right zw_len zw_len) (by decide) zdis_25 hl.1 rfl rfl (Nat.le_of_ble_eq_true rfl) dL_law_716 ⟨Nat.le_refl _, Nat.le_refl _⟩ (fun H locs hP hD hS => ?_)
  refine W.lcmp hx hb dL_law_719 ?_
  refine lv_if_eq (tgt := 1187) hx hb dL_law_720 (by decide) (fun _ => ?_) (fun k9 => absurd zcmp_rr k9)
  exact kk _ _ _ _ _ _ hR2 hP hD hS
/-- two: both answer alike, and the relation stays -/
def op_two (Rel : zI → zJ → zI → zJ → Prop) : Prop := ∀ (I : zI) (J : zJ) (IM : zI) (JM : zJ), Rel I J IM JM → ∀ (p1 : Int32) (p2 : Int32) (p3 : Int32) (p4 : Int32) (p5 : Int32), ∃ (r : Int32) (rI : zI) (sI : zI), f_X11_two I J p1 p2 p3 p4 p5 = some (r, rI) ∧ f_X12_two IM JM p1 p2 p3 p4 p5 = some (r, sI) ∧ Rel rI J sI JM
set_option maxHeartbeats 4000000 in
set_option maxRecDepth 100000 in
theorem law_case_14 {p : Program} {l : Launch} {e : Env} {s : State} {m : MethodId} {below : List Frame} {meth : Method} {c : Code} {D : va_G} {cy : Nat → ClassId} {a0 ad adM : Nat → Nat} {b L : Nat} {xs : Nat → Int32} {Rel : zI → zJ → zI → zJ → Prop} (hop : op_two Rel) (hL : L ≤ 448) (C0 : lw_At p s m meth c b L xs) (E : zE D a0 (fun q : Nat => s.heap.size ≤ q) cy s) {I : zI} {J : zJ} {IM : zI} {JM : zJ} (hR : Rel I J IM JM) (i : Nat) (hi7 : i + 7 ≤ L) (x3 : Int32) (hx3 : x3 = nI i) {H : Heap} {locs : List Loc} (hP : va_P D vwCl (zw 74 (kC cy ad a0) ad I J ++ zw 25 (kM cy adM) adM IM JM) H) (hD : va_D (fun q : Nat => s.heap.size ≤ q) (zw 74 (kC cy ad a0) ad I J ++ zw 25 (kM cy adM) adM IM JM)) (hS : va_S (fun q : Nat => s.heap.size ≤ q) s.heap H locs) {ls : Array Slot} (hl : lv_has ls 4 [(0, .ref b), (1, .ref (ad 0)), (2, .ref (adM 0)), (3, .int x3)]) (kk : ∀ (I : zI) (J : zJ) (IM : zI) (JM : zJ) (H : Heap) (locs : List Loc), Rel I J IM JM → va_P D vwCl (zw 74 (kC cy ad a0) ad I J ++ zw 25 (kM cy adM) adM IM JM) H → va_D (fun q : Nat => s.heap.size ≤ q) (zw 74 (kC cy ad a0) ad I J ++ zw 25 (kM cy adM) adM IM JM) → va_S (fun q : Nat => s.heap.size ≤ q) s.heap H locs → W p l e room_1 s m #[Value.ref b] below meth c H locs 600000 7302249 (lw_Z below #[Value.ref b] s) (F0 m 1187 ls [])) : W p l e room_1 s m #[Value.ref b] below meth c H locs 600000 7302249 (lw_Z below #[Value.ref b] s) (F0 m 725 ls []) := by
  obtain ⟨hx, hb, hr, hml, hown, hts, hX, hbl, hlocks, hgv⟩ := id C0
  have hA : ∀ q : Nat, s.heap.size ≤ q → (fun q : Nat => s.heap.size ≤ q) q := fun _ h => h
  have hbA : ¬ (fun q : Nat => s.heap.size ≤ q) b := Nat.not_le.mpr hbl
  have htsL : ∀ w ∈ wsLF, w.before #[Value.ref b] s = true := fun w h => hts w (wsLF_in w h)
  have S : CallFix p m c code 4 s #[Value.ref b] wsLF RL := ⟨hx, hb, hml, hown, htsL⟩
  have hiC : zInj 74 ad := zInj_of (hD.sub (List.range 74) (by decide) (zC_left zw_len))
  have hiM : zInj 25 adM := zInj_of (hD.sub ((List.range 25).map (fun i => 74 + i)) (by decide) (zC_right zw_len zw_len))
  refine lv_aload_n hx hb dL_law_725 rfl (lv_at hl 1 rfl) ?_
  refine lv_aload_n hx hb dL_law_726 rfl (lv_at hl 0 rfl) ?_
  refine lv_iload_n hx hb dL_law_727 rfl (lv_at hl 3 rfl) ?_
  refine lv_iconst (v := 1) hx hb dL_law_728 (by decide) ?_
  refine lv_iadd hx hb dL_law_729 ?_
  refine va_sld hx hb hX hbl hbA hS (law_in hL hi7 hx3 (k := 1) (by decide) rfl) dL_law_730 ?_
  refine lv_aload_n hx hb dL_law_731 rfl (lv_at hl 0 rfl) ?_
  refine lv_iload_n hx hb dL_law_732 rfl (lv_at hl 3 rfl) ?_
  refine lv_iconst (v := 2) hx hb dL_law_733 (by decide) ?_
  refine lv_iadd hx hb dL_law_734 ?_
  refine va_sld hx hb hX hbl hbA hS (law_in hL hi7 hx3 (k := 2) (by decide) rfl) dL_law_735 ?_
  refine lv_aload_n hx hb dL_law_736 rfl (lv_at hl 0 rfl) ?_
  refine lv_iload_n hx hb dL_law_737 rfl (lv_at hl 3 rfl) ?_
  refine lv_iconst (v := 3) hx hb dL_law_738 (by decide) ?_
  refine lv_iadd hx hb dL_law_739 ?_
  refine va_sld hx hb hX hbl hbA hS (law_in hL hi7 hx3 (k := 3) (by decide) rfl) dL_law_740 ?_
  refine lv_aload_n hx hb dL_law_741 rfl (lv_at hl 0 rfl) ?_
  refine lv_iload_n hx hb dL_law_742 rfl (lv_at hl 3 rfl) ?_
  refine lv_iconst (v := 4) hx hb dL_law_743 (by decide) ?_
  refine lv_iadd hx hb dL_law_744 ?_
  refine va_sld hx hb hX hbl hbA hS (law_in hL hi7 hx3 (k := 4) (by decide) rfl) dL_law_745 ?_
  refine lv_aload_n hx hb dL_law_746 rfl (lv_at hl 0 rfl) ?_
  refine lv_iload_n hx hb dL_law_747 rfl (lv_at hl 3 rfl) ?_
  refine lv_iconst (v := 5) hx hb dL_law_748 (by decide) ?_
  refine lv_iadd hx hb dL_law_749 ?_
  refine va_sld hx hb hX hbl hbA hS (law_in hL hi7 hx3 (k := 5) (by decide) rfl) dL_law_750 ?_
  obtain ⟨r, rI, sI, hc1, hc2, hR2⟩ := hop I J IM JM hR (xs (x3 + 1).toNatClampNeg) (xs (x3 + 2).toNatClampNeg) (xs (x3 + 3).toNatClampNeg) (xs (x3 + 4).toNatClampNeg) (xs (x3 + 5).toNatClampNeg)
  refine zcallW_i (As := [.int (xs (x3 + 1).toNatClampNeg), .int (xs (x3 + 2).toNatClampNeg), .int (xs (x3 + 3).toNatClampNeg), .int (xs (x3 + 4).toNatClampNeg), .int (xs (x3 + 5).toNatClampNeg)]) (rest := []) (wr := zw 25 (kM cy adM) adM IM JM) (I2 := rI) (J2 := J) S (c_X11_two l (zInj.D hiC) (xs (x3 + 1).toNatClampNeg) (xs (x3 + 2).toNatClampNeg) (xs (x3 + 3).toNatClampNeg) (xs (x3 + 4).toNatClampNeg) (xs (x3 + 5).toNatClampNeg) hc1) (cwV 5 htsL gF_X11_two rfl rfl rfl ddX11_two ⟨Nat.le_of_ble_eq_true rfl, Nat.le_of_ble_eq_true rfl⟩) (va_recv E.1 hP (q := (RX11, TX11, 12)) (ci := 10) (q0 := 0) rfl (zapp_l (zO.get oX11_at))) E hP hD hS hA hiC (List.range 74) ((List.range 25).map (fun i => 74 + i)) (zC_left zw_len) (zC_right zw_len zw_len) (by decide) zdis_74 hl.1 rfl rfl (Nat.le_of_ble_eq_true rfl) dL_law_751 ⟨Nat.le_refl _, Nat.le_refl _⟩ (fun H locs hP hD hS => ?_)
  refine lv_aload_n hx hb dL_law_754 rfl (lv_at hl 2 rfl) ?_
  refine lv_aload_n hx hb dL_law_755 rfl (lv_at hl 0 rfl) ?_
  refine lv_iload_n hx hb dL_law_756 rfl (lv_at hl 3 rfl) ?_
  refine lv_iconst (v := 1) hx hb dL_law_757 (by decide) ?_
  refine lv_iadd hx hb dL_law_758 ?_
  refine va_sld hx hb hX hbl hbA hS (law_in hL hi7 hx3 (k := 1) (by decide) rfl) dL_law_759 ?_
  refine lv_aload_n hx hb dL_law_760 rfl (lv_at hl 0 rfl) ?_
  refine lv_iload_n hx hb dL_law_761 rfl (lv_at hl 3 rfl) ?_
  refine lv_iconst (v := 2) hx hb dL_law_762 (by decide) ?_
  refine lv_iadd hx hb dL_law_763 ?_
  refine va_sld hx hb hX hbl hbA hS (law_in hL hi7 hx3 (k := 2) (by decide) rfl) dL_law_764 ?_
  refine lv_aload_n hx hb dL_law_765 rfl (lv_at hl 0 rfl) ?_
  refine lv_iload_n hx hb dL_law_766 rfl (lv_at hl 3 rfl) ?_
  refine lv_iconst (v := 3) hx hb dL_law_767 (by decide) ?_
  refine lv_iadd hx hb dL_law_768 ?_
  refine va_sld hx hb hX hbl hbA hS (law_in hL hi7 hx3 (k := 3) (by decide) rfl) dL_law_769 ?_
  refine lv_aload_n hx hb dL_law_770 rfl (lv_at hl 0 rfl) ?_
  refine lv_iload_n hx hb dL_law_771 rfl (lv_at hl 3 rfl) ?_
  refine lv_iconst (v := 4) hx hb dL_law_772 (by decide) ?_
  refine lv_iadd hx hb dL_law_773 ?_
  refine va_sld hx hb hX hbl hbA hS (law_in hL hi7 hx3 (k := 4) (by decide) rfl) dL_law_774 ?_
  refine lv_aload_n hx hb dL_law_775 rfl (lv_at hl 0 rfl) ?_
  refine lv_iload_n hx hb dL_law_776 rfl (lv_at hl 3 rfl) ?_
  refine lv_iconst (v := 5) hx hb dL_law_777 (by decide) ?_
  refine lv_iadd hx hb dL_law_778 ?_
  refine va_sld hx hb hX hbl hbA hS (law_in hL hi7 hx3 (k := 5) (by decide) rfl) dL_law_779 ?_
  refine zcallW_i (As := [.int (xs (x3 + 1).toNatClampNeg), .int (xs (x3 + 2).toNatClampNeg), .int (xs (x3 + 3).toNatClampNeg), .int (xs (x3 + 4).toNatClampNeg), .int (xs (x3 + 5).toNatClampNeg)]) (rest := [.int r]) (wr := zw 74 (kC cy ad a0) ad rI J) (I2 := sI) (J2 := JM) S (c_X12_two l (zInj.D hiM) (xs (x3 + 1).toNatClampNeg) (xs (x3 + 2).toNatClampNeg) (xs (x3 + 3).toNatClampNeg) (xs (x3 + 4).toNatClampNeg) (xs (x3 + 5).toNatClampNeg) hc2) (cwV 5 htsL gF_X12_two rfl rfl rfl ddX12_two ⟨Nat.le_of_ble_eq_true rfl, Nat.le_of_ble_eq_true rfl⟩) (va_recv E.1 hP (q := (RX12, TX12, 31)) (ci := 11) (q0 := 0) rfl (zapp_l (zO.get oX12_at))) E hP hD hS hA hiM (List.range 25) ((List.range 74).map (fun i => 25 + i)) (zC_left zw_len) (zC_right zw_len zw_len) (by decide) zdis_25 hl.1 rfl rfl (Nat.le_of_ble_eq_true rfl) dL_law_780 ⟨Nat.le_refl _, Nat.le_refl _⟩ (fun H locs hP hD hS => ?_)
  refine lv_icmp_eq (tgt := 1187) hx hb dL_law_783 (by decide) (fun _ => ?_) (fun k9 => absurd rfl k9)
  exact kk _ _ _ _ _ _ hR2 hP hD hS
/-- earns: both answer alike, and the relation stays -/
def op_earns (Rel : zI → zJ → zI → zJ → Prop) : Prop := ∀ (I : zI) (J : zJ) (IM : zI) (JM : zJ), Rel I J IM JM → ∀ (p1 : Int32) (p2 : Int32) (p3 : Int32), ∃ (r : Int64), f_X11_earns I J p1 p2 p3 = some r ∧ f_X12_earns IM JM p1 p2 p3 = some r ∧ Rel I J IM JM
set_option maxHeartbeats 4000000 in
set_option maxRecDepth 100000 in
theorem law_case_15 {p : Program} {l : Launch} {e : Env} {s : State} {m : MethodId} {below : List Frame} {meth : Method} {c : Code} {D : va_G} {cy : Nat → ClassId} {a0 ad adM : Nat → Nat} {b L : Nat} {xs : Nat → Int32} {Rel : zI → zJ → zI → zJ → Prop} (hop : op_earns Rel) (hL : L ≤ 448) (C0 : lw_At p s m meth c b L xs) (E : zE D a0 (fun q : Nat => s.heap.size ≤ q) cy s) {I : zI} {J : zJ} {IM : zI} {JM : zJ} (hR : Rel I J IM JM) (i : Nat) (hi7 : i + 7 ≤ L) (x3 : Int32) (hx3 : x3 = nI i) {H : Heap} {locs : List Loc} (hP : va_P D vwCl (zw 74 (kC cy ad a0) ad I J ++ zw 25 (kM cy adM) adM IM JM) H) (hD : va_D (fun q : Nat => s.heap.size ≤ q) (zw 74 (kC cy ad a0) ad I J ++ zw 25 (kM cy adM) adM IM JM)) (hS : va_S (fun q : Nat => s.heap.size ≤ q) s.heap H locs) {ls : Array Slot} (hl : lv_has ls 4 [(0, .ref b), (1, .ref (ad 0)), (2, .ref (adM 0)), (3, .int x3)]) (kk : ∀ (I : zI) (J : zJ) (IM : zI) (JM : zJ) (H : Heap) (locs : List Loc), Rel I J IM JM → va_P D vwCl (zw 74 (kC cy ad a0) ad I J ++ zw 25 (kM cy adM) adM IM JM) H → va_D (fun q : Nat => s.heap.size ≤ q) (zw 74 (kC cy ad a0) ad I J ++ zw 25 (kM cy adM) adM IM JM) → va_S (fun q : Nat => s.heap.size ≤ q) s.heap H locs → W p l e room_1 s m #[Value.ref b] below meth c H locs 600000 7302249 (lw_Z below #[Value.ref b] s) (F0 m 1187 ls [])) : W p l e room_1 s m #[Value.ref b] below meth c H locs 600000 7302249 (lw_Z below #[Value.ref b] s) (F0 m 788 ls []) := by
  obtain ⟨hx, hb, hr, hml, hown, hts, hX, hbl, hlocks, hgv⟩ := id C0
  have hA : ∀ q : Nat, s.heap.size ≤ q → (fun q : Nat => s.heap.size ≤ q) q := fun _ h => h
  have hbA : ¬ (fun q : Nat => s.heap.size ≤ q) b := Nat.not_le.mpr hbl
  have htsL : ∀ w ∈ wsLF, w.before #[Value.ref b] s = true := fun w h => hts w (wsLF_in w h)
  have S : CallFix p m c code 4 s #[Value.ref b] wsLF RL := ⟨hx, hb, hml, hown, htsL⟩
  have hiC : zInj 74 ad := zInj_of (hD.sub (List.range 74) (by decide) (zC_left zw_len))
  have hiM : zInj 25 adM := zInj_of (hD.sub ((List.range 25).map (fun i => 74 + i)) (by decide) (zC_right zw_len zw_len))
  refine lv_aload_n hx hb dL_law_788 rfl (lv_at hl 1 rfl) ?_
  refine lv_aload_n hx hb dL_law_789 rfl (lv_at hl 0 rfl) ?_
  refine lv_iload_n hx hb dL_law_790 rfl (lv_at hl 3 rfl) ?_
  refine lv_iconst (v := 1) hx hb dL_law_791 (by decide) ?_
  refine lv_iadd hx hb dL_law_792 ?_
  refine va_sld hx hb hX hbl hbA hS (law_in hL hi7 hx3 (k := 1) (by decide) rfl) dL_law_793 ?_
  refine lv_aload_n hx hb dL_law_794 rfl (lv_at hl 0 rfl) ?_
  refine lv_iload_n hx hb dL_law_795 rfl (lv_at hl 3 rfl) ?_
  refine lv_iconst (v := 2) hx hb dL_law_796 (by decide) ?_
  refine lv_iadd hx hb dL_law_797 ?_
  refine va_sld hx hb hX hbl hbA hS (law_in hL hi7 hx3 (k := 2) (by decide) rfl) dL_law_798 ?_
  refine lv_aload_n hx hb dL_law_799 rfl (lv_at hl 0 rfl) ?_
  refine lv_iload_n hx hb dL_law_800 rfl (lv_at hl 3 rfl) ?_
  refine lv_iconst (v := 3) hx hb dL_law_801 (by decide) ?_
  refine lv_iadd hx hb dL_law_802 ?_
  refine va_sld hx hb hX hbl hbA hS (law_in hL hi7 hx3 (k := 3) (by decide) rfl) dL_law_803 ?_
  obtain ⟨r, hc1, hc2, hR2⟩ := hop I J IM JM hR (xs (x3 + 1).toNatClampNeg) (xs (x3 + 2).toNatClampNeg) (xs (x3 + 3).toNatClampNeg)
  refine zcallW_l (As := [.int (xs (x3 + 1).toNatClampNeg), .int (xs (x3 + 2).toNatClampNeg), .int (xs (x3 + 3).toNatClampNeg)]) (rest := []) (wr := zw 25 (kM cy adM) adM IM JM) (I2 := I) (J2 := J) S (c_X11_earns l (zInj.D hiC) (xs (x3 + 1).toNatClampNeg) (xs (x3 + 2).toNatClampNeg) (xs (x3 + 3).toNatClampNeg) hc1) (cwV 3 htsL gF_X11_earns rfl rfl rfl ddX11_earns ⟨Nat.le_of_ble_eq_true rfl, Nat.le_of_ble_eq_true rfl⟩) (va_recv E.1 hP (q := (RX11, TX11, 12)) (ci := 10) (q0 := 0) rfl (zapp_l (zO.get oX11_at))) E hP hD hS hA hiC (List.range 74) ((List.range 25).map (fun i => 74 + i)) (zC_left zw_len) (zC_right zw_len zw_len) (by decide) zdis_74 hl.1 rfl rfl (Nat.le_of_ble_eq_true rfl) dL_law_804 ⟨Nat.le_refl _, Nat.le_refl _⟩ (fun H locs hP hD hS => ?_)
  refine lv_aload_n hx hb dL_law_807 rfl (lv_at hl 2 rfl) ?_
  refine lv_aload_n hx hb dL_law_808 rfl (lv_at hl 0 rfl) ?_
  refine lv_iload_n hx hb dL_law_809 rfl (lv_at hl 3 rfl) ?_
  refine lv_iconst (v := 1) hx hb dL_law_810 (by decide) ?_
  refine lv_iadd hx hb dL_law_811 ?_
  refine va_sld hx hb hX hbl hbA hS (law_in hL hi7 hx3 (k := 1) (by decide) rfl) dL_law_812 ?_
  refine lv_aload_n hx hb dL_law_813 rfl (lv_at hl 0 rfl) ?_
  refine lv_iload_n hx hb dL_law_814 rfl (lv_at hl 3 rfl) ?_
  refine lv_iconst (v := 2) hx hb dL_law_815 (by decide) ?_
  refine lv_iadd hx hb dL_law_816 ?_
  refine va_sld hx hb hX hbl hbA hS (law_in hL hi7 hx3 (k := 2) (by decide) rfl) dL_law_817 ?_
  refine lv_aload_n hx hb dL_law_818 rfl (lv_at hl 0 rfl) ?_
  refine lv_iload_n hx hb dL_law_819 rfl (lv_at hl 3 rfl) ?_
  refine lv_iconst (v := 3) hx hb dL_law_820 (by decide) ?_
  refine lv_iadd hx hb dL_law_821 ?_
  refine va_sld hx hb hX hbl hbA hS (law_in hL hi7 hx3 (k := 3) (by decide) rfl) dL_law_822 ?_
  refine zcallW_l (As := [.int (xs (x3 + 1).toNatClampNeg), .int (xs (x3 + 2).toNatClampNeg), .int (xs (x3 + 3).toNatClampNeg)]) (rest := [.long r]) (wr := zw 74 (kC cy ad a0) ad I J) (I2 := IM) (J2 := JM) S (c_X12_earns l (zInj.D hiM) (xs (x3 + 1).toNatClampNeg) (xs (x3 + 2).toNatClampNeg) (xs (x3 + 3).toNatClampNeg) hc2) (cwV 3 htsL gF_X12_earns rfl rfl rfl ddX12_earns ⟨Nat.le_of_ble_eq_true rfl, Nat.le_of_ble_eq_true rfl⟩) (va_recv E.1 hP (q := (RX12, TX12, 31)) (ci := 11) (q0 := 0) rfl (zapp_l (zO.get oX12_at))) E hP hD hS hA hiM (List.range 25) ((List.range 74).map (fun i => 25 + i)) (zC_left zw_len) (zC_right zw_len zw_len) (by decide) zdis_25 hl.1 rfl rfl (Nat.le_of_ble_eq_true rfl) dL_law_823 ⟨Nat.le_refl _, Nat.le_refl _⟩ (fun H locs hP hD hS => ?_)
  refine W.lcmp hx hb dL_law_826 ?_
  refine lv_if_eq (tgt := 1187) hx hb dL_law_827 (by decide) (fun _ => ?_) (fun k9 => absurd zcmp_rr k9)
  exact kk _ _ _ _ _ _ hR2 hP hD hS
/-- shop: both answer alike, and the relation stays -/
def op_shop (Rel : zI → zJ → zI → zJ → Prop) : Prop := ∀ (I : zI) (J : zJ) (IM : zI) (JM : zJ), Rel I J IM JM → ∀ (p1 : Int32) (p2 : Int32), ∃ (r : Int32), f_X11_shop I J p1 p2 = some r ∧ f_X12_shop IM JM p1 p2 = some r ∧ Rel I J IM JM
set_option maxHeartbeats 4000000 in
set_option maxRecDepth 100000 in
theorem law_case_16 {p : Program} {l : Launch} {e : Env} {s : State} {m : MethodId} {below : List Frame} {meth : Method} {c : Code} {D : va_G} {cy : Nat → ClassId} {a0 ad adM : Nat → Nat} {b L : Nat} {xs : Nat → Int32} {Rel : zI → zJ → zI → zJ → Prop} (hop : op_shop Rel) (hL : L ≤ 448) (C0 : lw_At p s m meth c b L xs) (E : zE D a0 (fun q : Nat => s.heap.size ≤ q) cy s) {I : zI} {J : zJ} {IM : zI} {JM : zJ} (hR : Rel I J IM JM) (i : Nat) (hi7 : i + 7 ≤ L) (x3 : Int32) (hx3 : x3 = nI i) {H : Heap} {locs : List Loc} (hP : va_P D vwCl (zw 74 (kC cy ad a0) ad I J ++ zw 25 (kM cy adM) adM IM JM) H) (hD : va_D (fun q : Nat => s.heap.size ≤ q) (zw 74 (kC cy ad a0) ad I J ++ zw 25 (kM cy adM) adM IM JM)) (hS : va_S (fun q : Nat => s.heap.size ≤ q) s.heap H locs) {ls : Array Slot} (hl : lv_has ls 4 [(0, .ref b), (1, .ref (ad 0)), (2, .ref (adM 0)), (3, .int x3)]) (kk : ∀ (I : zI) (J : zJ) (IM : zI) (JM : zJ) (H : Heap) (locs : List Loc), Rel I J IM JM → va_P D vwCl (zw 74 (kC cy ad a0) ad I J ++ zw 25 (kM cy adM) adM IM JM) H → va_D (fun q : Nat => s.heap.size ≤ q) (zw 74 (kC cy ad a0) ad I J ++ zw 25 (kM cy adM) adM IM JM) → va_S (fun q : Nat => s.heap.size ≤ q) s.heap H locs → W p l e room_1 s m #[Value.ref b] below meth c H locs 600000 7302249 (lw_Z below #[Value.ref b] s) (F0 m 1187 ls [])) : W p l e room_1 s m #[Value.ref b] below meth c H locs 600000 7302249 (lw_Z below #[Value.ref b] s) (F0 m 832 ls []) := by
  obtain ⟨hx, hb, hr, hml, hown, hts, hX, hbl, hlocks, hgv⟩ := id C0
  have hA : ∀ q : Nat, s.heap.size ≤ q → (fun q : Nat => s.heap.size ≤ q) q := fun _ h => h
  have hbA : ¬ (fun q : Nat => s.heap.size ≤ q) b := Nat.not_le.mpr hbl
  have htsL : ∀ w ∈ wsLF, w.before #[Value.ref b] s = true := fun w h => hts w (wsLF_in w h)
  have S : CallFix p m c code 4 s #[Value.ref b] wsLF RL := ⟨hx, hb, hml, hown, htsL⟩
  have hiC : zInj 74 ad := zInj_of (hD.sub (List.range 74) (by decide) (zC_left zw_len))
  have hiM : zInj 25 adM := zInj_of (hD.sub ((List.range 25).map (fun i => 74 + i)) (by decide) (zC_right zw_len zw_len))
  refine lv_aload_n hx hb dL_law_832 rfl (lv_at hl 1 rfl) ?_
  refine lv_aload_n hx hb dL_law_833 rfl (lv_at hl 0 rfl) ?_
  refine lv_iload_n hx hb dL_law_834 rfl (lv_at hl 3 rfl) ?_
  refine lv_iconst (v := 1) hx hb dL_law_835 (by decide) ?_
  refine lv_iadd hx hb dL_law_836 ?_
  refine va_sld hx hb hX hbl hbA hS (law_in hL hi7 hx3 (k := 1) (by decide) rfl) dL_law_837 ?_
  refine lv_aload_n hx hb dL_law_838 rfl (lv_at hl 0 rfl) ?_
  refine lv_iload_n hx hb dL_law_839 rfl (lv_at hl 3 rfl) ?_
  refine lv_iconst (v := 2) hx hb dL_law_840 (by decide) ?_
  refine lv_iadd hx hb dL_law_841 ?_
  refine va_sld hx hb hX hbl hbA hS (law_in hL hi7 hx3 (k := 2) (by decide) rfl) dL_law_842 ?_
  obtain ⟨r, hc1, hc2, hR2⟩ := hop I J IM JM hR (xs (x3 + 1).toNatClampNeg) (xs (x3 + 2).toNatClampNeg)
  refine zcallW_i (As := [.int (xs (x3 + 1).toNatClampNeg), .int (xs (x3 + 2).toNatClampNeg)]) (rest := []) (wr := zw 25 (kM cy adM) adM IM JM) (I2 := I) (J2 := J) S (c_X11_shop l (zInj.D hiC) (xs (x3 + 1).toNatClampNeg) (xs (x3 + 2).toNatClampNeg) hc1) (cwV 2 htsL gF_X11_shop rfl rfl rfl ddX11_shop ⟨Nat.le_of_ble_eq_true rfl, Nat.le_of_ble_eq_true rfl⟩) (va_recv E.1 hP (q := (RX11, TX11, 12)) (ci := 10) (q0 := 0) rfl (zapp_l (zO.get oX11_at))) E hP hD hS hA hiC (List.range 74) ((List.range 25).map (fun i => 74 + i)) (zC_left zw_len) (zC_right zw_len zw_len) (by decide) zdis_74 hl.1 rfl rfl (Nat.le_of_ble_eq_true rfl) dL_law_843 ⟨Nat.le_refl _, Nat.le_refl _⟩ (fun H locs hP hD hS => ?_)
  refine lv_aload_n hx hb dL_law_846 rfl (lv_at hl 2 rfl) ?_
  refine lv_aload_n hx hb dL_law_847 rfl (lv_at hl 0 rfl) ?_
  refine lv_iload_n hx hb dL_law_848 rfl (lv_at hl 3 rfl) ?_
  refine lv_iconst (v := 1) hx hb dL_law_849 (by decide) ?_
  refine lv_iadd hx hb dL_law_850 ?_
  refine va_sld hx hb hX hbl hbA hS (law_in hL hi7 hx3 (k := 1) (by decide) rfl) dL_law_851 ?_
  refine lv_aload_n hx hb dL_law_852 rfl (lv_at hl 0 rfl) ?_
  refine lv_iload_n hx hb dL_law_853 rfl (lv_at hl 3 rfl) ?_
  refine lv_iconst (v := 2) hx hb dL_law_854 (by decide) ?_
  refine lv_iadd hx hb dL_law_855 ?_
  refine va_sld hx hb hX hbl hbA hS (law_in hL hi7 hx3 (k := 2) (by decide) rfl) dL_law_856 ?_
  refine zcallW_i (As := [.int (xs (x3 + 1).toNatClampNeg), .int (xs (x3 + 2).toNatClampNeg)]) (rest := [.int r]) (wr := zw 74 (kC cy ad a0) ad I J) (I2 := IM) (J2 := JM) S (c_X12_shop l (zInj.D hiM) (xs (x3 + 1).toNatClampNeg) (xs (x3 + 2).toNatClampNeg) hc2) (cwV 2 htsL gF_X12_shop rfl rfl rfl ddX12_shop ⟨Nat.le_of_ble_eq_true rfl, Nat.le_of_ble_eq_true rfl⟩) (va_recv E.1 hP (q := (RX12, TX12, 31)) (ci := 11) (q0 := 0) rfl (zapp_l (zO.get oX12_at))) E hP hD hS hA hiM (List.range 25) ((List.range 74).map (fun i => 25 + i)) (zC_left zw_len) (zC_right zw_len zw_len) (by decide) zdis_25 hl.1 rfl rfl (Nat.le_of_ble_eq_true rfl) dL_law_857 ⟨Nat.le_refl _, Nat.le_refl _⟩ (fun H locs hP hD hS => ?_)
  refine lv_icmp_eq (tgt := 1187) hx hb dL_law_860 (by decide) (fun _ => ?_) (fun k9 => absurd rfl k9)
  exact kk _ _ _ _ _ _ hR2 hP hD hS
/-- pay: both answer alike, and the relation stays -/
def op_pay (Rel : zI → zJ → zI → zJ → Prop) : Prop := ∀ (I : zI) (J : zJ) (IM : zI) (JM : zJ), Rel I J IM JM → ∀ (p1 : Int32) (p2 : Int32) (p3 : Int32) (p4 : Int32), ∃ (r : Int64), f_X11_pay I J p1 p2 p3 p4 = some r ∧ f_X12_pay IM JM p1 p2 p3 p4 = some r ∧ Rel I J IM JM
set_option maxHeartbeats 4000000 in
set_option maxRecDepth 100000 in
theorem law_case_17 {p : Program} {l : Launch} {e : Env} {s : State} {m : MethodId} {below : List Frame} {meth : Method} {c : Code} {D : va_G} {cy : Nat → ClassId} {a0 ad adM : Nat → Nat} {b L : Nat} {xs : Nat → Int32} {Rel : zI → zJ → zI → zJ → Prop} (hop : op_pay Rel) (hL : L ≤ 448) (C0 : lw_At p s m meth c b L xs) (E : zE D a0 (fun q : Nat => s.heap.size ≤ q) cy s) {I : zI} {J : zJ} {IM : zI} {JM : zJ} (hR : Rel I J IM JM) (i : Nat) (hi7 : i + 7 ≤ L) (x3 : Int32) (hx3 : x3 = nI i) {H : Heap} {locs : List Loc} (hP : va_P D vwCl (zw 74 (kC cy ad a0) ad I J ++ zw 25 (kM cy adM) adM IM JM) H) (hD : va_D (fun q : Nat => s.heap.size ≤ q) (zw 74 (kC cy ad a0) ad I J ++ zw 25 (kM cy adM) adM IM JM)) (hS : va_S (fun q : Nat => s.heap.size ≤ q) s.heap H locs) {ls : Array Slot} (hl : lv_has ls 4 [(0, .ref b), (1, .ref (ad 0)), (2, .ref (adM 0)), (3, .int x3)]) (kk : ∀ (I : zI) (J : zJ) (IM : zI) (JM : zJ) (H : Heap) (locs : List Loc), Rel I J IM JM → va_P D vwCl (zw 74 (kC cy ad a0) ad I J ++ zw 25 (kM cy adM) adM IM JM) H → va_D (fun q : Nat => s.heap.size ≤ q) (zw 74 (kC cy ad a0) ad I J ++ zw 25 (kM cy adM) adM IM JM) → va_S (fun q : Nat => s.heap.size ≤ q) s.heap H locs → W p l e room_1 s m #[Value.ref b] below meth c H locs 600000 7302249 (lw_Z below #[Value.ref b] s) (F0 m 1187 ls [])) : W p l e room_1 s m #[Value.ref b] below meth c H locs 600000 7302249 (lw_Z below #[Value.ref b] s) (F0 m 865 ls []) := by
  obtain ⟨hx, hb, hr, hml, hown, hts, hX, hbl, hlocks, hgv⟩ := id C0
  have hA : ∀ q : Nat, s.heap.size ≤ q → (fun q : Nat => s.heap.size ≤ q) q := fun _ h => h
  have hbA : ¬ (fun q : Nat => s.heap.size ≤ q) b := Nat.not_le.mpr hbl
  have htsL : ∀ w ∈ wsLF, w.before #[Value.ref b] s = true := fun w h => hts w (wsLF_in w h)
  have S : CallFix p m c code 4 s #[Value.ref b] wsLF RL := ⟨hx, hb, hml, hown, htsL⟩
  have hiC : zInj 74 ad := zInj_of (hD.sub (List.range 74) (by decide) (zC_left zw_len))
  have hiM : zInj 25 adM := zInj_of (hD.sub ((List.range 25).map (fun i => 74 + i)) (by decide) (zC_right zw_len zw_len))
  refine lv_aload_n hx hb dL_law_865 rfl (lv_at hl 1 rfl) ?_
  refine lv_aload_n hx hb dL_law_866 rfl (lv_at hl 0 rfl) ?_
  refine lv_iload_n hx hb dL_law_867 rfl (lv_at hl 3 rfl) ?_
  refine lv_iconst (v := 1) hx hb dL_law_868 (by decide) ?_
  refine lv_iadd hx hb dL_law_869 ?_
  refine va_sld hx hb hX hbl hbA hS (law_in hL hi7 hx3 (k := 1) (by decide) rfl) dL_law_870 ?_
  refine lv_aload_n hx hb dL_law_871 rfl (lv_at hl 0 rfl) ?_
  refine lv_iload_n hx hb dL_law_872 rfl (lv_at hl 3 rfl) ?_
  refine lv_iconst (v := 2) hx hb dL_law_873 (by decide) ?_
  refine lv_iadd hx hb dL_law_874 ?_
  refine va_sld hx hb hX hbl hbA hS (law_in hL hi7 hx3 (k := 2) (by decide) rfl) dL_law_875 ?_
  refine lv_aload_n hx hb dL_law_876 rfl (lv_at hl 0 rfl) ?_
  refine lv_iload_n hx hb dL_law_877 rfl (lv_at hl 3 rfl) ?_
  refine lv_iconst (v := 3) hx hb dL_law_878 (by decide) ?_
  refine lv_iadd hx hb dL_law_879 ?_
  refine va_sld hx hb hX hbl hbA hS (law_in hL hi7 hx3 (k := 3) (by decide) rfl) dL_law_880 ?_
  refine lv_aload_n hx hb dL_law_881 rfl (lv_at hl 0 rfl) ?_
  refine lv_iload_n hx hb dL_law_882 rfl (lv_at hl 3 rfl) ?_
  refine lv_iconst (v := 4) hx hb dL_law_883 (by decide) ?_
  refine lv_iadd hx hb dL_law_884 ?_
  refine va_sld hx hb hX hbl hbA hS (law_in hL hi7 hx3 (k := 4) (by decide) rfl) dL_law_885 ?_
  obtain ⟨r, hc1, hc2, hR2⟩ := hop I J IM JM hR (xs (x3 + 1).toNatClampNeg) (xs (x3 + 2).toNatClampNeg) (xs (x3 + 3).toNatClampNeg) (xs (x3 + 4).toNatClampNeg)
  refine zcallW_l (As := [.int (xs (x3 + 1).toNatClampNeg), .int (xs (x3 + 2).toNatClampNeg), .int (xs (x3 + 3).toNatClampNeg), .int (xs (x3 + 4).toNatClampNeg)]) (rest := []) (wr := zw 25 (kM cy adM) adM IM JM) (I2 := I) (J2 := J) S (c_X11_pay l (zInj.D hiC) (xs (x3 + 1).toNatClampNeg) (xs (x3 + 2).toNatClampNeg) (xs (x3 + 3).toNatClampNeg) (xs (x3 + 4).toNatClampNeg) hc1) (cwV 4 htsL gF_X11_pay rfl rfl rfl ddX11_pay ⟨Nat.le_of_ble_eq_true rfl, Nat.le_of_ble_eq_true rfl⟩) (va_recv E.1 hP (q := (RX11, TX11, 12)) (ci := 10) (q0 := 0) rfl (zapp_l (zO.get oX11_at))) E hP hD hS hA hiC (List.range 74) ((List.range 25).map (fun i => 74 + i)) (zC_left zw_len) (zC_right zw_len zw_len) (by decide) zdis_74 hl.1 rfl rfl (Nat.le_of_ble_eq_true rfl) dL_law_886 ⟨Nat.le_refl _, Nat.le_refl _⟩ (fun H locs hP hD hS => ?_)
  refine lv_aload_n hx hb dL_law_889 rfl (lv_at hl 2 rfl) ?_
  refine lv_aload_n hx hb dL_law_890 rfl (lv_at hl 0 rfl) ?_
  refine lv_iload_n hx hb dL_law_891 rfl (lv_at hl 3 rfl) ?_
  refine lv_iconst (v := 1) hx hb dL_law_892 (by decide) ?_
  refine lv_iadd hx hb dL_law_893 ?_
  refine va_sld hx hb hX hbl hbA hS (law_in hL hi7 hx3 (k := 1) (by decide) rfl) dL_law_894 ?_
  refine lv_aload_n hx hb dL_law_895 rfl (lv_at hl 0 rfl) ?_
  refine lv_iload_n hx hb dL_law_896 rfl (lv_at hl 3 rfl) ?_
  refine lv_iconst (v := 2) hx hb dL_law_897 (by decide) ?_
  refine lv_iadd hx hb dL_law_898 ?_
  refine va_sld hx hb hX hbl hbA hS (law_in hL hi7 hx3 (k := 2) (by decide) rfl) dL_law_899 ?_
  refine lv_aload_n hx hb dL_law_900 rfl (lv_at hl 0 rfl) ?_
  refine lv_iload_n hx hb dL_law_901 rfl (lv_at hl 3 rfl) ?_
  refine lv_iconst (v := 3) hx hb dL_law_902 (by decide) ?_
  refine lv_iadd hx hb dL_law_903 ?_
  refine va_sld hx hb hX hbl hbA hS (law_in hL hi7 hx3 (k := 3) (by decide) rfl) dL_law_904 ?_
  refine lv_aload_n hx hb dL_law_905 rfl (lv_at hl 0 rfl) ?_
  refine lv_iload_n hx hb dL_law_906 rfl (lv_at hl 3 rfl) ?_
  refine lv_iconst (v := 4) hx hb dL_law_907 (by decide) ?_
  refine lv_iadd hx hb dL_law_908 ?_
  refine va_sld hx hb hX hbl hbA hS (law_in hL hi7 hx3 (k := 4) (by decide) rfl) dL_law_909 ?_
  refine zcallW_l (As := [.int (xs (x3 + 1).toNatClampNeg), .int (xs (x3 + 2).toNatClampNeg), .int (xs (x3 + 3).toNatClampNeg), .int (xs (x3 + 4).toNatClampNeg)]) (rest := [.long r]) (wr := zw 74 (kC cy ad a0) ad I J) (I2 := IM) (J2 := JM) S (c_X12_pay l (zInj.D hiM) (xs (x3 + 1).toNatClampNeg) (xs (x3 + 2).toNatClampNeg) (xs (x3 + 3).toNatClampNeg) (xs (x3 + 4).toNatClampNeg) hc2) (cwV 4 htsL gF_X12_pay rfl rfl rfl ddX12_pay ⟨Nat.le_of_ble_eq_true rfl, Nat.le_of_ble_eq_true rfl⟩) (va_recv E.1 hP (q := (RX12, TX12, 31)) (ci := 11) (q0 := 0) rfl (zapp_l (zO.get oX12_at))) E hP hD hS hA hiM (List.range 25) ((List.range 74).map (fun i => 25 + i)) (zC_left zw_len) (zC_right zw_len zw_len) (by decide) zdis_25 hl.1 rfl rfl (Nat.le_of_ble_eq_true rfl) dL_law_910 ⟨Nat.le_refl _, Nat.le_refl _⟩ (fun H locs hP hD hS => ?_)
  refine W.lcmp hx hb dL_law_913 ?_
  refine lv_if_eq (tgt := 1187) hx hb dL_law_914 (by decide) (fun _ => ?_) (fun k9 => absurd zcmp_rr k9)
  exact kk _ _ _ _ _ _ hR2 hP hD hS
/-- bestPay: both answer alike, and the relation stays -/
def op_bestPay (Rel : zI → zJ → zI → zJ → Prop) : Prop := ∀ (I : zI) (J : zJ) (IM : zI) (JM : zJ), Rel I J IM JM → ∀ (p1 : Int32) (p2 : Int32), ∃ (r : Int32), f_X11_bestPay I J p1 p2 = some r ∧ f_X12_bestPay IM JM p1 p2 = some r ∧ Rel I J IM JM
set_option maxHeartbeats 4000000 in
set_option maxRecDepth 100000 in
theorem law_case_18 {p : Program} {l : Launch} {e : Env} {s : State} {m : MethodId} {below : List Frame} {meth : Method} {c : Code} {D : va_G} {cy : Nat → ClassId} {a0 ad adM : Nat → Nat} {b L : Nat} {xs : Nat → Int32} {Rel : zI → zJ → zI → zJ → Prop} (hop : op_bestPay Rel) (hL : L ≤ 448) (C0 : lw_At p s m meth c b L xs) (E : zE D a0 (fun q : Nat => s.heap.size ≤ q) cy s) {I : zI} {J : zJ} {IM : zI} {JM : zJ} (hR : Rel I J IM JM) (i : Nat) (hi7 : i + 7 ≤ L) (x3 : Int32) (hx3 : x3 = nI i) {H : Heap} {locs : List Loc} (hP : va_P D vwCl (zw 74 (kC cy ad a0) ad I J ++ zw 25 (kM cy adM) adM IM JM) H) (hD : va_D (fun q : Nat => s.heap.size ≤ q) (zw 74 (kC cy ad a0) ad I J ++ zw 25 (kM cy adM) adM IM JM)) (hS : va_S (fun q : Nat => s.heap.size ≤ q) s.heap H locs) {ls : Array Slot} (hl : lv_has ls 4 [(0, .ref b), (1, .ref (ad 0)), (2, .ref (adM 0)), (3, .int x3)]) (kk : ∀ (I : zI) (J : zJ) (IM : zI) (JM : zJ) (H : Heap) (locs : List Loc), Rel I J IM JM → va_P D vwCl (zw 74 (kC cy ad a0) ad I J ++ zw 25 (kM cy adM) adM IM JM) H → va_D (fun q : Nat => s.heap.size ≤ q) (zw 74 (kC cy ad a0) ad I J ++ zw 25 (kM cy adM) adM IM JM) → va_S (fun q : Nat => s.heap.size ≤ q) s.heap H locs → W p l e room_1 s m #[Value.ref b] below meth c H locs 600000 7302249 (lw_Z below #[Value.ref b] s) (F0 m 1187 ls [])) : W p l e room_1 s m #[Value.ref b] below meth c H locs 600000 7302249 (lw_Z below #[Value.ref b] s) (F0 m 919 ls []) := by
  obtain ⟨hx, hb, hr, hml, hown, hts, hX, hbl, hlocks, hgv⟩ := id C0
  have hA : ∀ q : Nat, s.heap.size ≤ q → (fun q : Nat => s.heap.size ≤ q) q := fun _ h => h
  have hbA : ¬ (fun q : Nat => s.heap.size ≤ q) b := Nat.not_le.mpr hbl
  have htsL : ∀ w ∈ wsLF, w.before #[Value.ref b] s = true := fun w h => hts w (wsLF_in w h)
  have S : CallFix p m c code 4 s #[Value.ref b] wsLF RL := ⟨hx, hb, hml, hown, htsL⟩
  have hiC : zInj 74 ad := zInj_of (hD.sub (List.range 74) (by decide) (zC_left zw_len))
  have hiM : zInj 25 adM := zInj_of (hD.sub ((List.range 25).map (fun i => 74 + i)) (by decide) (zC_right zw_len zw_len))
  refine lv_aload_n hx hb dL_law_919 rfl (lv_at hl 1 rfl) ?_
  refine lv_aload_n hx hb dL_law_920 rfl (lv_at hl 0 rfl) ?_
  refine lv_iload_n hx hb dL_law_921 rfl (lv_at hl 3 rfl) ?_
  refine lv_iconst (v := 1) hx hb dL_law_922 (by decide) ?_
  refine lv_iadd hx hb dL_law_923 ?_
  refine va_sld hx hb hX hbl hbA hS (law_in hL hi7 hx3 (k := 1) (by decide) rfl) dL_law_924 ?_
  refine lv_aload_n hx hb dL_law_925 rfl (lv_at hl 0 rfl) ?_
  refine lv_iload_n hx hb dL_law_926 rfl (lv_at hl 3 rfl) ?_
  refine lv_iconst (v := 2) hx hb dL_law_927 (by decide) ?_
  refine lv_iadd hx hb dL_law_928 ?_
  refine va_sld hx hb hX hbl hbA hS (law_in hL hi7 hx3 (k := 2) (by decide) rfl) dL_law_929 ?_
  obtain ⟨r, hc1, hc2, hR2⟩ := hop I J IM JM hR (xs (x3 + 1).toNatClampNeg) (xs (x3 + 2).toNatClampNeg)
  refine zcallW_i (As := [.int (xs (x3 + 1).toNatClampNeg), .int (xs (x3 + 2).toNatClampNeg)]) (rest := []) (wr := zw 25 (kM cy adM) adM IM JM) (I2 := I) (J2 := J) S (c_X11_bestPay l (zInj.D hiC) (xs (x3 + 1).toNatClampNeg) (xs (x3 + 2).toNatClampNeg) hc1) (cwV 2 htsL gF_X11_bestPay rfl rfl rfl ddX11_bestPay ⟨Nat.le_of_ble_eq_true rfl, Nat.le_of_ble_eq_true rfl⟩) (va_recv E.1 hP (q := (RX11, TX11, 12)) (ci := 10) (q0 := 0) rfl (zapp_l (zO.get oX11_at))) E hP hD hS hA hiC (List.range 74) ((List.range 25).map (fun i => 74 + i)) (zC_left zw_len) (zC_right zw_len zw_len) (by decide) zdis_74 hl.1 rfl rfl (Nat.le_of_ble_eq_true rfl) dL_law_930 ⟨Nat.le_refl _, Nat.le_refl _⟩ (fun H locs hP hD hS => ?_)
  refine lv_aload_n hx hb dL_law_933 rfl (lv_at hl 2 rfl) ?_
  refine lv_aload_n hx hb dL_law_934 rfl (lv_at hl 0 rfl) ?_
  refine lv_iload_n hx hb dL_law_935 rfl (lv_at hl 3 rfl) ?_
  refine lv_iconst (v := 1) hx hb dL_law_936 (by decide) ?_
  refine lv_iadd hx hb dL_law_937 ?_
  refine va_sld hx hb hX hbl hbA hS (law_in hL hi7 hx3 (k := 1) (by decide) rfl) dL_law_938 ?_
  refine lv_aload_n hx hb dL_law_939 rfl (lv_at hl 0 rfl) ?_
  refine lv_iload_n hx hb dL_law_940 rfl (lv_at hl 3 rfl) ?_
  refine lv_iconst (v := 2) hx hb dL_law_941 (by decide) ?_
  refine lv_iadd hx hb dL_law_942 ?_
  refine va_sld hx hb hX hbl hbA hS (law_in hL hi7 hx3 (k := 2) (by decide) rfl) dL_law_943 ?_
  refine zcallW_i (As := [.int (xs (x3 + 1).toNatClampNeg), .int (xs (x3 + 2).toNatClampNeg)]) (rest := [.int r]) (wr := zw 74 (kC cy ad a0) ad I J) (I2 := IM) (J2 := JM) S (c_X12_bestPay l (zInj.D hiM) (xs (x3 + 1).toNatClampNeg) (xs (x3 + 2).toNatClampNeg) hc2) (cwV 2 htsL gF_X12_bestPay rfl rfl rfl ddX12_bestPay ⟨Nat.le_of_ble_eq_true rfl, Nat.le_of_ble_eq_true rfl⟩) (va_recv E.1 hP (q := (RX12, TX12, 31)) (ci := 11) (q0 := 0) rfl (zapp_l (zO.get oX12_at))) E hP hD hS hA hiM (List.range 25) ((List.range 74).map (fun i => 25 + i)) (zC_left zw_len) (zC_right zw_len zw_len) (by decide) zdis_25 hl.1 rfl rfl (Nat.le_of_ble_eq_true rfl) dL_law_944 ⟨Nat.le_refl _, Nat.le_refl _⟩ (fun H locs hP hD hS => ?_)
  refine lv_icmp_eq (tgt := 1187) hx hb dL_law_947 (by decide) (fun _ => ?_) (fun k9 => absurd rfl k9)
  exact kk _ _ _ _ _ _ hR2 hP hD hS
/-- log: both answer alike, and the relation stays -/
def op_log (Rel : zI → zJ → zI → zJ → Prop) : Prop := ∀ (I : zI) (J : zJ) (IM : zI) (JM : zJ), Rel I J IM JM → ∀ (p1 : Int32) (p2 : Int32) (p3 : Int32) (p4 : Int32), ∃ (r : Int32) (rI : zI) (sI : zI), f_X11_log I J p1 p2 p3 p4 = some (r, rI) ∧ f_X12_log IM JM p1 p2 p3 p4 = some (r, sI) ∧ Rel rI J sI JM
set_option maxHeartbeats 4000000 in
set_option maxRecDepth 100000 in
theorem law_case_19 {p : Program} {l : Launch} {e : Env} {s : State} {m : MethodId} {below : List Frame} {meth : Method} {c : Code} {D : va_G} {cy : Nat → ClassId} {a0 ad adM : Nat → Nat} {b L : Nat} {xs : Nat → Int32} {Rel : zI → zJ → zI → zJ → Prop} (hop : op_log Rel) (hL : L ≤ 448) (C0 : lw_At p s m meth c b L xs) (E : zE D a0 (fun q : Nat => s.heap.size ≤ q) cy s) {I : zI} {J : zJ} {IM : zI} {JM : zJ} (hR : Rel I J IM JM) (i : Nat) (hi7 : i + 7 ≤ L) (x3 : Int32) (hx3 : x3 = nI i) {H : Heap} {locs : List Loc} (hP : va_P D vwCl (zw 74 (kC cy ad a0) ad I J ++ zw 25 (kM cy adM) adM IM JM) H) (hD : va_D (fun q : Nat => s.heap.size ≤ q) (zw 74 (kC cy ad a0) ad I J ++ zw 25 (kM cy adM) adM IM JM)) (hS : va_S (fun q : Nat => s.heap.size ≤ q) s.heap H locs) {ls : Array Slot} (hl : lv_has ls 4 [(0, .ref b), (1, .ref (ad 0)), (2, .ref (adM 0)), (3, .int x3)]) (kk : ∀ (I : zI) (J : zJ) (IM : zI) (JM : zJ) (H : Heap) (locs : List Loc), Rel I J IM JM → va_P D vwCl (zw 74 (kC cy ad a0) ad I J ++ zw 25 (kM cy adM) adM IM JM) H → va_D (fun q : Nat => s.heap.size ≤ q) (zw 74 (kC cy ad a0) ad I J ++ zw 25 (kM cy adM) adM IM JM) → va_S (fun q : Nat => s.heap.size ≤ q) s.heap H locs → W p l e room_1 s m #[Value.ref b] below meth c H locs 600000 7302249 (lw_Z below #[Value.ref b] s) (F0 m 1187 ls [])) : W p l e room_1 s m #[Value.ref b] below meth c H locs 600000 7302249 (lw_Z below #[Value.ref b] s) (F0 m 952 ls []) := by
  obtain ⟨hx, hb, hr, hml, hown, hts, hX, hbl, hlocks, hgv⟩ := id C0
  have hA : ∀ q : Nat, s.heap.size ≤ q → (fun q : Nat => s.heap.size ≤ q) q := fun _ h => h
  have hbA : ¬ (fun q : Nat => s.heap.size ≤ q) b := Nat.not_le.mpr hbl
  have htsL : ∀ w ∈ wsLF, w.before #[Value.ref b] s = true := fun w h => hts w (wsLF_in w h)
  have S : CallFix p m c code 4 s #[Value.ref b] wsLF RL := ⟨hx, hb, hml, hown, htsL⟩
  have hiC : zInj 74 ad := zInj_of (hD.sub (List.range 74) (by decide) (zC_left zw_len))
  have hiM : zInj 25 adM := zInj_of (hD.sub ((List.range 25).map (fun i => 74 + i)) (by decide) (zC_right zw_len zw_len))
  refine lv_aload_n hx hb dL_law_952 rfl (lv_at hl 1 rfl) ?_
  refine lv_aload_n hx hb dL_law_953 rfl (lv_at hl 0 rfl) ?_
  refine lv_iload_n hx hb dL_law_954 rfl (lv_at hl 3 rfl) ?_
  refine lv_iconst (v := 1) hx hb dL_law_955 (by decide) ?_
  refine lv_iadd hx hb dL_law_956 ?_
  refine va_sld hx hb hX hbl hbA hS (law_in hL hi7 hx3 (k := 1) (by decide) rfl) dL_law_957 ?_
  refine lv_aload_n hx hb dL_law_958 rfl (lv_at hl 0 rfl) ?_
  refine lv_iload_n hx hb dL_law_959 rfl (lv_at hl 3 rfl) ?_
  refine lv_iconst (v := 2) hx hb dL_law_960 (by decide) ?_
  refine lv_iadd hx hb dL_law_961 ?_
  refine va_sld hx hb hX hbl hbA hS (law_in hL hi7 hx3 (k := 2) (by decide) rfl) dL_law_962 ?_
  refine lv_aload_n hx hb dL_law_963 rfl (lv_at hl 0 rfl) ?_
  refine lv_iload_n hx hb dL_law_964 rfl (lv_at hl 3 rfl) ?_
  refine lv_iconst (v := 3) hx hb dL_law_965 (by decide) ?_
  refine lv_iadd hx hb dL_law_966 ?_
  refine va_sld hx hb hX hbl hbA hS (law_in hL hi7 hx3 (k := 3) (by decide) rfl) dL_law_967 ?_
  refine lv_aload_n hx hb dL_law_968 rfl (lv_at hl 0 rfl) ?_
  refine lv_iload_n hx hb dL_law_969 rfl (lv_at hl 3 rfl) ?_
  refine lv_iconst (v := 4) hx hb dL_law_970 (by decide) ?_
  refine lv_iadd hx hb dL_law_971 ?_
  refine va_sld hx hb hX hbl hbA hS (law_in hL hi7 hx3 (k := 4) (by decide) rfl) dL_law_972 ?_
  obtain ⟨r, rI, sI, hc1, hc2, hR2⟩ := hop I J IM JM hR (xs (x3 + 1).toNatClampNeg) (xs (x3 + 2).toNatClampNeg) (xs (x3 + 3).toNatClampNeg) (xs (x3 + 4).toNatClampNeg)
  refine zcallW_i (As := [.int (xs (x3 + 1).toNatClampNeg), .int (xs (x3 + 2).toNatClampNeg), .int (xs (x3 + 3).toNatClampNeg), .int (xs (x3 + 4).toNatClampNeg)]) (rest := []) (wr := zw 25 (kM cy adM) adM IM JM) (I2 := rI) (J2 := J) S (c_X11_log l (zInj.D hiC) (xs (x3 + 1).toNatClampNeg) (xs (x3 + 2).toNatClampNeg) (xs (x3 + 3).toNatClampNeg) (xs (x3 + 4).toNatClampNeg) hc1) (cwV 4 htsL gF_X11_log rfl rfl rfl ddX11_log ⟨Nat.le_of_ble_eq_true rfl, Nat.le_of_ble_eq_true rfl⟩) (va_recv E.1 hP (q := (RX11, TX11, 12)) (ci := 10) (q0 := 0) rfl (zapp_l (zO.get oX11_at))) E hP hD hS hA hiC (List.range 74) ((List.range 25).map (fun i => 74 + i)) (zC_left zw_len) (zC_right zw_len zw_len) (by decide) zdis_74 hl.1 rfl rfl (Nat.le_of_ble_eq_true rfl) dL_law_973 ⟨Nat.le_refl _, Nat.le_refl _⟩ (fun H locs hP hD hS => ?_)
  refine lv_aload_n hx hb dL_law_976 rfl (lv_at hl 2 rfl) ?_
  refine lv_aload_n hx hb dL_law_977 rfl (lv_at hl 0 rfl) ?_
  refine lv_iload_n hx hb dL_law_978 rfl (lv_at hl 3 rfl) ?_
  refine lv_iconst (v := 1) hx hb dL_law_979 (by decide) ?_
  refine lv_iadd hx hb dL_law_980 ?_
  refine va_sld hx hb hX hbl hbA hS (law_in hL hi7 hx3 (k := 1) (by decide) rfl) dL_law_981 ?_
  refine lv_aload_n hx hb dL_law_982 rfl (lv_at hl 0 rfl) ?_
  refine lv_iload_n hx hb dL_law_983 rfl (lv_at hl 3 rfl) ?_
  refine lv_iconst (v := 2) hx hb dL_law_984 (by decide) ?_
  refine lv_iadd hx hb dL_law_985 ?_
  refine va_sld hx hb hX hbl hbA hS (law_in hL hi7 hx3 (k := 2) (by decide) rfl) dL_law_986 ?_
  refine lv_aload_n hx hb dL_law_987 rfl (lv_at hl 0 rfl) ?_
  refine lv_iload_n hx hb dL_law_988 rfl (lv_at hl 3 rfl) ?_
  refine lv_iconst (v := 3) hx hb dL_law_989 (by decide) ?_
  refine lv_iadd hx hb dL_law_990 ?_
  refine va_sld hx hb hX hbl hbA hS (law_in hL hi7 hx3 (k := 3) (by decide) rfl) dL_law_991 ?_
  refine lv_aload_n hx hb dL_law_992 rfl (lv_at hl 0 rfl) ?_
  refine lv_iload_n hx hb dL_law_993 rfl (lv_at hl 3 rfl) ?_
  refine lv_iconst (v := 4) hx hb dL_law_994 (by decide) ?_
  refine lv_iadd hx hb dL_law_995 ?_
  refine va_sld hx hb hX hbl hbA hS (law_in hL hi7 hx3 (k := 4) (by decide) rfl) dL_law_996 ?_
  refine zcallW_i (As := [.int (xs (x3 + 1).toNatClampNeg), .int (xs (x3 + 2).toNatClampNeg), .int (xs (x3 + 3).toNatClampNeg), .int (xs (x3 + 4).toNatClampNeg)]) (rest := [.int r]) (wr := zw 74 (kC cy ad a0) ad rI J) (I2 := sI) (J2 := JM) S (c_X12_log l (zInj.D hiM) (xs (x3 + 1).toNatClampNeg) (xs (x3 + 2).toNatClampNeg) (xs (x3 + 3).toNatClampNeg) (xs (x3 + 4).toNatClampNeg) hc2) (cwV 4 htsL gF_X12_log rfl rfl rfl ddX12_log ⟨Nat.le_of_ble_eq_true rfl, Nat.le_of_ble_eq_true rfl⟩) (va_recv E.1 hP (q := (RX12, TX12, 31)) (ci := 11) (q0 := 0) rfl (zapp_l (zO.get oX12_at))) E hP hD hS hA hiM (List.range 25) ((List.range 74).map (fun i => 25 + i)) (zC_left zw_len) (zC_right zw_len zw_len) (by decide) zdis_25 hl.1 rfl rfl (Nat.le_of_ble_eq_true rfl) dL_law_997 ⟨Nat.le_refl _, Nat.le_refl _⟩ (fun H locs hP hD hS => ?_)
  refine lv_icmp_eq (tgt := 1187) hx hb dL_law_1000 (by decide) (fun _ => ?_) (fun k9 => absurd rfl k9)
  exact kk _ _ _ _ _ _ hR2 hP hD hS
/-- noLog: both answer alike, and the relation stays -/
def op_noLog (Rel : zI → zJ → zI → zJ → Prop) : Prop := ∀ (I : zI) (J : zJ) (IM : zI) (JM : zJ), Rel I J IM JM → ∃ (r : Int32) (rI : zI) (sI : zI), f_X11_noLog I J = some (r, rI) ∧ f_X12_noLog IM JM = some (r, sI) ∧ Rel rI J sI JM
set_option maxHeartbeats 4000000 in
set_option maxRecDepth 100000 in
theorem law_case_20 {p : Program} {l : Launch} {e : Env} {s : State} {m : MethodId} {below : List Frame} {meth : Method} {c : Code} {D : va_G} {cy : Nat → ClassId} {a0 ad adM : Nat → Nat} {b L : Nat} {xs : Nat → Int32} {Rel : zI → zJ → zI → zJ → Prop} (hop : op_noLog Rel) (hL : L ≤ 448) (C0 : lw_At p s m meth c b L xs) (E : zE D a0 (fun q : Nat => s.heap.size ≤ q) cy s) {I : zI} {J : zJ} {IM : zI} {JM : zJ} (hR : Rel I J IM JM) (i : Nat) (hi7 : i + 7 ≤ L) (x3 : Int32) (hx3 : x3 = nI i) {H : Heap} {locs : List Loc} (hP : va_P D vwCl (zw 74 (kC cy ad a0) ad I J ++ zw 25 (kM cy adM) adM IM JM) H) (hD : va_D (fun q : Nat => s.heap.size ≤ q) (zw 74 (kC cy ad a0) ad I J ++ zw 25 (kM cy adM) adM IM JM)) (hS : va_S (fun q : Nat => s.heap.size ≤ q) s.heap H locs) {ls : Array Slot} (hl : lv_has ls 4 [(0, .ref b), (1, .ref (ad 0)), (2, .ref (adM 0)), (3, .int x3)]) (kk : ∀ (I : zI) (J : zJ) (IM : zI) (JM : zJ) (H : Heap) (locs : List Loc), Rel I J IM JM → va_P D vwCl (zw 74 (kC cy ad a0) ad I J ++ zw 25 (kM cy adM) adM IM JM) H → va_D (fun q : Nat => s.heap.size ≤ q) (zw 74 (kC cy ad a0) ad I J ++ zw 25 (kM cy adM) adM IM JM) → va_S (fun q : Nat => s.heap.size ≤ q) s.heap H locs → W p l e room_1 s m #[Value.ref b] below meth c H locs 600000 7302249 (lw_Z below #[Value.ref b] s) (F0 m 1187 ls [])) : W p l e room_1 s m #[Value.ref b] below meth c H locs 600000 7302249 (lw_Z below #[Value.ref b] s) (F0 m 1005 ls []) := by
  obtain ⟨hx, hb, hr, hml, hown, hts, hX, hbl, hlocks, hgv⟩ := id C0
  have hA : ∀ q : Nat, s.heap.size ≤ q → (fun q : Nat => s.heap.size ≤ q) q := fun _ h => h
  have hbA : ¬ (fun q : Nat => s.heap.size ≤ q) b := Nat.not_le.mpr hbl
  have htsL : ∀ w ∈ wsLF, w.before #[Value.ref b] s = true := fun w h => hts w (wsLF_in w h)
  have S : CallFix p m c code 4 s #[Value.ref b] wsLF RL := ⟨hx, hb, hml, hown, htsL⟩
  have hiC : zInj 74 ad := zInj_of (hD.sub (List.range 74) (by decide) (zC_left zw_len))
  have hiM : zInj 25 adM := zInj_of (hD.sub ((List.range 25).map (fun i => 74 + i)) (by decide) (zC_right zw_len zw_len))
  refine lv_aload_n hx hb dL_law_1005 rfl (lv_at hl 1 rfl) ?_
  obtain ⟨r, rI, sI, hc1, hc2, hR2⟩ := hop I J IM JM hR
  refine zcallW_i (As := []) (rest := []) (wr := zw 25 (kM cy adM) adM IM JM) (I2 := rI) (J2 := J) S (c_X11_noLog l (zInj.D hiC) hc1) (cwV 0 htsL gF_X11_noLog rfl rfl rfl ddX11_noLog ⟨Nat.le_of_ble_eq_true rfl, Nat.le_of_ble_eq_true rfl⟩) (va_recv E.1 hP (q := (RX11, TX11, 12)) (ci := 10) (q0 := 0) rfl (zapp_l (zO.get oX11_at))) E hP hD hS hA hiC (List.range 74) ((List.range 25).map (fun i => 74 + i)) (zC_left zw_len) (zC_right zw_len zw_len) (by decide) zdis_74 hl.1 rfl rfl (Nat.le_of_ble_eq_true rfl) dL_law_1006 ⟨Nat.le_refl _, Nat.le_refl _⟩ (fun H locs hP hD hS => ?_)
  refine lv_aload_n hx hb dL_law_1009 rfl (lv_at hl 2 rfl) ?_
  refine zcallW_i (As := []) (rest := [.int r]) (wr := zw 74 (kC cy ad a0) ad rI J) (I2 := sI) (J2 := JM) S (c_X12_noLog l (zInj.D hiM) hc2) (cwV 0 htsL gF_X12_noLog rfl rfl rfl ddX12_noLog ⟨Nat.le_of_ble_eq_true rfl, Nat.le_of_ble_eq_true rfl⟩) (va_recv E.1 hP (q := (RX12, TX12, 31)) (ci := 11) (q0 := 0) rfl (zapp_l (zO.get oX12_at))) E hP hD hS hA hiM (List.range 25) ((List.range 74).map (fun i => 25 + i)) (zC_left zw_len) (zC_right zw_len zw_len) (by decide) zdis_25 hl.1 rfl rfl (Nat.le_of_ble_eq_true rfl) dL_law_1010 ⟨Nat.le_refl _, Nat.le_refl _⟩ (fun H locs hP hD hS => ?_)
  refine lv_icmp_eq (tgt := 1187) hx hb dL_law_1013 (by decide) (fun _ => ?_) (fun k9 => absurd rfl k9)
  exact kk _ _ _ _ _ _ hR2 hP hD hS
/-- off: both answer alike, and the relation stays -/
def op_off (Rel : zI → zJ → zI → zJ → Prop) : Prop := ∀ (I : zI) (J : zJ) (IM : zI) (JM : zJ), Rel I J IM JM → ∀ (p1 : Int32) (p2 : Int32) (p3 : Int32), ∃ (r : Int32), f_X11_off I J p1 p2 p3 = some r ∧ f_X12_off IM JM p1 p2 p3 = some r ∧ Rel I J IM JM
set_option maxHeartbeats 4000000 in
set_option maxRecDepth 100000 in
theorem law_case_21 {p : Program} {l : Launch} {e : Env} {s : State} {m : MethodId} {below : List Frame} {meth : Method} {c : Code} {D : va_G} {cy : Nat → ClassId} {a0 ad adM : Nat → Nat} {b L : Nat} {xs : Nat → Int32} {Rel : zI → zJ → zI → zJ → Prop} (hop : op_off Rel) (hL : L ≤ 448) (C0 : lw_At p s m meth c b L xs) (E : zE D a0 (fun q : Nat => s.heap.size ≤ q) cy s) {I : zI} {J : zJ} {IM : zI} {JM : zJ} (hR : Rel I J IM JM) (i : Nat) (hi7 : i + 7 ≤ L) (x3 : Int32) (hx3 : x3 = nI i) {H : Heap} {locs : List Loc} (hP : va_P D vwCl (zw 74 (kC cy ad a0) ad I J ++ zw 25 (kM cy adM) adM IM JM) H) (hD : va_D (fun q : Nat => s.heap.size ≤ q) (zw 74 (kC cy ad a0) ad I J ++ zw 25 (kM cy adM) adM IM JM)) (hS : va_S (fun q : Nat => s.heap.size ≤ q) s.heap H locs) {ls : Array Slot} (hl : lv_has ls 4 [(0, .ref b), (1, .ref (ad 0)), (2, .ref (adM 0)), (3, .int x3)]) (kk : ∀ (I : zI) (J : zJ) (IM : zI) (JM : zJ) (H : Heap) (locs : List Loc), Rel I J IM JM → va_P D vwCl (zw 74 (kC cy ad a0) ad I J ++ zw 25 (kM cy adM) adM IM JM) H → va_D (fun q : Nat => s.heap.size ≤ q) (zw 74 (kC cy ad a0) ad I J ++ zw 25 (kM cy adM) adM IM JM) → va_S (fun q : Nat => s.heap.size ≤ q) s.heap H locs → W p l e room_1 s m #[Value.ref b] below meth c H locs 600000 7302249 (lw_Z below #[Value.ref b] s) (F0 m 1187 ls [])) : W p l e room_1 s m #[Value.ref b] below meth c H locs 600000 7302249 (lw_Z below #[Value.ref b] s) (F0 m 1018 ls []) := by
  obtain ⟨hx, hb, hr, hml, hown, hts, hX, hbl, hlocks, hgv⟩ := id C0
  have hA : ∀ q : Nat, s.heap.size ≤ q → (fun q : Nat => s.heap.size ≤ q) q := fun _ h => h
  have hbA : ¬ (fun q : Nat => s.heap.size ≤ q) b := Nat.not_le.mpr hbl
  have htsL : ∀ w ∈ wsLF, w.before #[Value.ref b] s = true := fun w h => hts w (wsLF_in w h)
  have S : CallFix p m c code 4 s #[Value.ref b] wsLF RL := ⟨hx, hb, hml, hown, htsL⟩
  have hiC : zInj 74 ad := zInj_of (hD.sub (List.range 74) (by decide) (zC_left zw_len))
  have hiM : zInj 25 adM := zInj_of (hD.sub ((List.range 25).map (fun i => 74 + i)) (by decide) (zC_right zw_len zw_len))
  refine lv_aload_n hx hb dL_law_1018 rfl (lv_at hl 1 rfl) ?_
  refine lv_aload_n hx hb dL_law_1019 rfl (lv_at hl 0 rfl) ?_
  refine lv_iload_n hx hb dL_law_1020 rfl (lv_at hl 3 rfl) ?_
  refine lv_iconst (v := 1) hx hb dL_law_1021 (by decide) ?_
  refine lv_iadd hx hb dL_law_1022 ?_
  refine va_sld hx hb hX hbl hbA hS (law_in hL hi7 hx3 (k := 1) (by decide) rfl) dL_law_1023 ?_
  refine lv_aload_n hx hb dL_law_1024 rfl (lv_at hl 0 rfl) ?_
  refine lv_iload_n hx hb dL_law_1025 rfl (lv_at hl 3 rfl) ?_
  refine lv_iconst (v := 2) hx hb dL_law_1026 (by decide) ?_
  refine lv_iadd hx hb dL_law_1027 ?_
  refine va_sld hx hb hX hbl hbA hS (law_in hL hi7 hx3 (k := 2) (by decide) rfl) dL_law_1028 ?_
  refine lv_aload_n hx hb dL_law_1029 rfl (lv_at hl 0 rfl) ?_
  refine lv_iload_n hx hb dL_law_1030 rfl (lv_at hl 3 rfl) ?_
  refine lv_iconst (v := 3) hx hb dL_law_1031 (by decide) ?_
  refine lv_iadd hx hb dL_law_1032 ?_
  refine va_sld hx hb hX hbl hbA hS (law_in hL hi7 hx3 (k := 3) (by decide) rfl) dL_law_1033 ?_
  obtain ⟨r, hc1, hc2, hR2⟩ := hop I J IM JM hR (xs (x3 + 1).toNatClampNeg) (xs (x3 + 2).toNatClampNeg) (xs (x3 + 3).toNatClampNeg)
  refine zcallW_i (As := [.int (xs (x3 + 1).toNatClampNeg), .int (xs (x3 + 2).toNatClampNeg), .int (xs (x3 + 3).toNatClampNeg)]) (rest := []) (wr := zw 25 (kM cy adM) adM IM JM) (I2 := I) (J2 := J) S (c_X11_off l (zInj.D hiC) (xs (x3 + 1).toNatClampNeg) (xs (x3 + 2).toNatClampNeg) (xs (x3 + 3).toNatClampNeg) hc1) (cwV 3 htsL gF_X11_off rfl rfl rfl ddX11_off ⟨Nat.le_of_ble_eq_true rfl, Nat.le_of_ble_eq_true rfl⟩) (va_recv E.1 hP (q := (RX11, TX11, 12)) (ci := 10) (q0 := 0) rfl (zapp_l (zO.get oX11_at))) E hP hD hS hA hiC (List.range 74) ((List.range 25).map (fun i => 74 + i)) (zC_left zw_len) (zC_right zw_len zw_len) (by decide) zdis_74 hl.1 rfl rfl (Nat.le_of_ble_eq_true rfl) dL_law_1034 ⟨Nat.le_refl _, Nat.le_refl _⟩ (fun H locs hP hD hS => ?_)
  refine lv_aload_n hx hb dL_law_1037 rfl (lv_at hl 2 rfl) ?_
  refine lv_aload_n hx hb dL_law_1038 rfl (lv_at hl 0 rfl) ?_
  refine lv_iload_n hx hb dL_law_1039 rfl (lv_at hl 3 rfl) ?_
  refine lv_iconst (v := 1) hx hb dL_law_1040 (by decide) ?_
  refine lv_iadd hx hb dL_law_1041 ?_
  refine va_sld hx hb hX hbl hbA hS (law_in hL hi7 hx3 (k := 1) (by decide) rfl) dL_law_1042 ?_
  refine lv_aload_n hx hb dL_law_1043 rfl (lv_at hl 0 rfl) ?_
  refine lv_iload_n hx hb dL_law_1044 rfl (lv_at hl 3 rfl) ?_
  refine lv_iconst (v := 2) hx hb dL_law_1045 (by decide) ?_
  refine lv_iadd hx hb dL_law_1046 ?_
  refine va_sld hx hb hX hbl hbA hS (law_in hL hi7 hx3 (k := 2) (by decide) rfl) dL_law_1047 ?_
  refine lv_aload_n hx hb dL_law_1048 rfl (lv_at hl 0 rfl) ?_
  refine lv_iload_n hx hb dL_law_1049 rfl (lv_at hl 3 rfl) ?_
  refine lv_iconst (v := 3) hx hb dL_law_1050 (by decide) ?_
  refine lv_iadd hx hb dL_law_1051 ?_
  refine va_sld hx hb hX hbl hbA hS (law_in hL hi7 hx3 (k := 3) (by decide) rfl) dL_law_1052 ?_
  refine zcallW_i (As := [.int (xs (x3 + 1).toNatClampNeg), .int (xs (x3 + 2).toNatClampNeg), .int (xs (x3 + 3).toNatClampNeg)]) (rest := [.int r]) (wr := zw 74 (kC cy ad a0) ad I J) (I2 := IM) (J2 := JM) S (c_X12_off l (zInj.D hiM) (xs (x3 + 1).toNatClampNeg) (xs (x3 + 2).toNatClampNeg) (xs (x3 + 3).toNatClampNeg) hc2) (cwV 3 htsL gF_X12_off rfl rfl rfl ddX12_off ⟨Nat.le_of_ble_eq_true rfl, Nat.le_of_ble_eq_true rfl⟩) (va_recv E.1 hP (q := (RX12, TX12, 31)) (ci := 11) (q0 := 0) rfl (zapp_l (zO.get oX12_at))) E hP hD hS hA hiM (List.range 25) ((List.range 74).map (fun i => 25 + i)) (zC_left zw_len) (zC_right zw_len zw_len) (by decide) zdis_25 hl.1 rfl rfl (Nat.le_of_ble_eq_true rfl) dL_law_1053 ⟨Nat.le_refl _, Nat.le_refl _⟩ (fun H locs hP hD hS => ?_)
  refine lv_icmp_eq (tgt := 1187) hx hb dL_law_1056 (by decide) (fun _ => ?_) (fun k9 => absurd rfl k9)
  exact kk _ _ _ _ _ _ hR2 hP hD hS
/-- plainest: both answer alike, and the relation stays -/
def op_plainest (Rel : zI → zJ → zI → zJ → Prop) : Prop := ∀ (I : zI) (J : zJ) (IM : zI) (JM : zJ), Rel I J IM JM → ∀ (p1 : Int32), ∃ (r : Int32), f_X11_plainest I J p1 = some r ∧ f_X12_plainest IM JM p1 = some r ∧ Rel I J IM JM
set_option maxHeartbeats 4000000 in
set_option maxRecDepth 100000 in
theorem law_case_22 {p : Program} {l : Launch} {e : Env} {s : State} {m : MethodId} {below : List Frame} {meth : Method} {c : Code} {D : va_G} {cy : Nat → ClassId} {a0 ad adM : Nat → Nat} {b L : Nat} {xs : Nat → Int32} {Rel : zI → zJ → zI → zJ → Prop} (hop : op_plainest Rel) (hL : L ≤ 448) (C0 : lw_At p s m meth c b L xs) (E : zE D a0 (fun q : Nat => s.heap.size ≤ q) cy s) {I : zI} {J : zJ} {IM : zI} {JM : zJ} (hR : Rel I J IM JM) (i : Nat) (hi7 : i + 7 ≤ L) (x3 : Int32) (hx3 : x3 = nI i) {H : Heap} {locs : List Loc} (hP : va_P D vwCl (zw 74 (kC cy ad a0) ad I J ++ zw 25 (kM cy adM) adM IM JM) H) (hD : va_D (fun q : Nat => s.heap.size ≤ q) (zw 74 (kC cy ad a0) ad I J ++ zw 25 (kM cy adM) adM IM JM)) (hS : va_S (fun q : Nat => s.heap.size ≤ q) s.heap H locs) {ls : Array Slot} (hl : lv_has ls 4 [(0, .ref b), (1, .ref (ad 0)), (2, .ref (adM 0)), (3, .int x3)]) (kk : ∀ (I : zI) (J : zJ) (IM : zI) (JM : zJ) (H : Heap) (locs : List Loc), Rel I J IM JM → va_P D vwCl (zw 74 (kC cy ad a0) ad I J ++ zw 25 (kM cy adM) adM IM JM) H → va_D (fun q : Nat => s.heap.size ≤ q) (zw 74 (kC cy ad a0) ad I J ++ zw 25 (kM cy adM) adM IM JM) → va_S (fun q : Nat => s.heap.size ≤ q) s.heap H locs → W p l e room_1 s m #[Value.ref b] below meth c H locs 600000 7302249 (lw_Z below #[Value.ref b] s) (F0 m 1187 ls [])) : W p l e room_1 s m #[Value.ref b] below meth c H locs 600000 7302249 (lw_Z below #[Value.ref b] s) (F0 m 1061 ls []) := by
  obtain ⟨hx, hb, hr, hml, hown, hts, hX, hbl, hlocks, hgv⟩ := id C0
  have hA : ∀ q : Nat, s.heap.size ≤ q → (fun q : Nat => s.heap.size ≤ q) q := fun _ h => h
  have hbA : ¬ (fun q : Nat => s.heap.size ≤ q) b := Nat.not_le.mpr hbl
  have htsL : ∀ w ∈ wsLF, w.before #[Value.ref b] s = true := fun w h => hts w (wsLF_in w h)
  have S : CallFix p m c code 4 s #[Value.ref b] wsLF RL := ⟨hx, hb, hml, hown, htsL⟩
  have hiC : zInj 74 ad := zInj_of (hD.sub (List.range 74) (by decide) (zC_left zw_len))
  have hiM : zInj 25 adM := zInj_of (hD.sub ((List.range 25).map (fun i => 74 + i)) (by decide) (zC_right zw_len zw_len))
  refine lv_aload_n hx hb dL_law_1061 rfl (lv_at hl 1 rfl) ?_
  refine lv_aload_n hx hb dL_law_1062 rfl (lv_at hl 0 rfl) ?_
  refine lv_iload_n hx hb dL_law_1063 rfl (lv_at hl 3 rfl) ?_
  refine lv_iconst (v := 1) hx hb dL_law_1064 (by decide) ?_
  refine lv_iadd hx hb dL_law_1065 ?_
  refine va_sld hx hb hX hbl hbA hS (law_in hL hi7 hx3 (k := 1) (by decide) rfl) dL_law_1066 ?_
  obtain ⟨r, hc1, hc2, hR2⟩ := hop I J IM JM hR (xs (x3 + 1).toNatClampNeg)
  refine zcallW_i (As := [.int (xs (x3 + 1).toNatClampNeg)]) (rest := []) (wr := zw 25 (kM cy adM) adM IM JM) (I2 := I) (J2 := J) S (c_X11_plainest l (zInj.D hiC) (xs (x3 + 1).toNatClampNeg) hc1) (cwV 1 htsL gF_X11_plainest rfl rfl rfl ddX11_plainest ⟨Nat.le_of_ble_eq_true rfl, Nat.le_of_ble_eq_true rfl⟩) (va_recv E.1 hP (q := (RX11, TX11, 12)) (ci := 10) (q0 := 0) rfl (zapp_l (zO.get oX11_at))) E hP hD hS hA hiC (List.range 74) ((List.range 25).map (fun i => 74 + i)) (zC_left zw_len) (zC_right zw_len zw_len) (by decide) zdis_74 hl.1 rfl rfl (Nat.le_of_ble_eq_true rfl) dL_law_1067 ⟨Nat.le_refl _, Nat.le_refl _⟩ (fun H locs hP hD hS => ?_)
  refine lv_aload_n hx hb dL_law_1070 rfl (lv_at hl 2 rfl) ?_
  refine lv_aload_n hx hb dL_law_1071 rfl (lv_at hl 0 rfl) ?_
  refine lv_iload_n hx hb dL_law_1072 rfl (lv_at hl 3 rfl) ?_
  refine lv_iconst (v := 1) hx hb dL_law_1073 (by decide) ?_
  refine lv_iadd hx hb dL_law_1074 ?_
  refine va_sld hx hb hX hbl hbA hS (law_in hL hi7 hx3 (k := 1) (by decide) rfl) dL_law_1075 ?_
  refine zcallW_i (As := [.int (xs (x3 + 1).toNatClampNeg)]) (rest := [.int r]) (wr := zw 74 (kC cy ad a0) ad I J) (I2 := IM) (J2 := JM) S (c_X12_plainest l (zInj.D hiM) (xs (x3 + 1).toNatClampNeg) hc2) (cwV 1 htsL gF_X12_plainest rfl rfl rfl ddX12_plainest ⟨Nat.le_of_ble_eq_true rfl, Nat.le_of_ble_eq_true rfl⟩) (va_recv E.1 hP (q := (RX12, TX12, 31)) (ci := 11) (q0 := 0) rfl (zapp_l (zO.get oX12_at))) E hP hD hS hA hiM (List.range 25) ((List.range 74).map (fun i => 25 + i)) (zC_left zw_len) (zC_right zw_len zw_len) (by decide) zdis_25 hl.1 rfl rfl (Nat.le_of_ble_eq_true rfl) dL_law_1076 ⟨Nat.le_refl _, Nat.le_refl _⟩ (fun H locs hP hD hS => ?_)
  refine lv_icmp_eq (tgt := 1187) hx hb dL_law_1079 (by decide) (fun _ => ?_) (fun k9 => absurd rfl k9)
  exact kk _ _ _ _ _ _ hR2 hP hD hS
/-- run: both answer alike, and the relation stays -/
def op_run (Rel : zI → zJ → zI → zJ → Prop) : Prop := ∀ (I : zI) (J : zJ) (IM : zI) (JM : zJ), Rel I J IM JM → ∀ (p1 : Int32) (p2 : Int32) (p3 : Int32) (p4 : Int32), ∃ (r : Int64) (rI : zI) (rJ : zJ) (sI : zI) (sJ : zJ), f_X11_run I J p1 p2 p3 p4 = some (r, rI, rJ) ∧ f_X12_run IM JM p1 p2 p3 p4 = some (r, sI, sJ) ∧ Rel rI rJ sI sJ
set_option maxHeartbeats 4000000 in
set_option maxRecDepth 100000 in
theorem law_case_23 {p : Program} {l : Launch} {e : Env} {s : State} {m : MethodId} {below : List Frame} {meth : Method} {c : Code} {D : va_G} {cy : Nat → ClassId} {a0 ad adM : Nat → Nat} {b L : Nat} {xs : Nat → Int32} {Rel : zI → zJ → zI → zJ → Prop} (hop : op_run Rel) (hL : L ≤ 448) (C0 : lw_At p s m meth c b L xs) (E : zE D a0 (fun q : Nat => s.heap.size ≤ q) cy s) {I : zI} {J : zJ} {IM : zI} {JM : zJ} (hR : Rel I J IM JM) (i : Nat) (hi7 : i + 7 ≤ L) (x3 : Int32) (hx3 : x3 = nI i) {H : Heap} {locs : List Loc} (hP : va_P D vwCl (zw 74 (kC cy ad a0) ad I J ++ zw 25 (kM cy adM) adM IM JM) H) (hD : va_D (fun q : Nat => s.heap.size ≤ q) (zw 74 (kC cy ad a0) ad I J ++ zw 25 (kM cy adM) adM IM JM)) (hS : va_S (fun q : Nat => s.heap.size ≤ q) s.heap H locs) {ls : Array Slot} (hl : lv_has ls 4 [(0, .ref b), (1, .ref (ad 0)), (2, .ref (adM 0)), (3, .int x3)]) (kk : ∀ (I : zI) (J : zJ) (IM : zI) (JM : zJ) (H : Heap) (locs : List Loc), Rel I J IM JM → va_P D vwCl (zw 74 (kC cy ad a0) ad I J ++ zw 25 (kM cy adM) adM IM JM) H → va_D (fun q : Nat => s.heap.size ≤ q) (zw 74 (kC cy ad a0) ad I J ++ zw 25 (kM cy adM) adM IM JM) → va_S (fun q : Nat => s.heap.size ≤ q) s.heap H locs → W p l e room_1 s m #[Value.ref b] below meth c H locs 600000 7302249 (lw_Z below #[Value.ref b] s) (F0 m 1187 ls [])) : W p l e room_1 s m #[Value.ref b] below meth c H locs 600000 7302249 (lw_Z below #[Value.ref b] s) (F0 m 1084 ls []) := by
  obtain ⟨hx, hb, hr, hml, hown, hts, hX, hbl, hlocks, hgv⟩ := id C0
  have hA : ∀ q : Nat, s.heap.size ≤ q → (fun q : Nat => s.heap.size ≤ q) q := fun _ h => h
  have hbA : ¬ (fun q : Nat => s.heap.size ≤ q) b := Nat.not_le.mpr hbl
  have htsL : ∀ w ∈ wsLF, w.before #[Value.ref b] s = true := fun w h => hts w (wsLF_in w h)
  have S : CallFix p m c code 4 s #[Value.ref b] wsLF RL := ⟨hx, hb, hml, hown, htsL⟩
  have hiC : zInj 74 ad := zInj_of (hD.sub (List.range 74) (by decide) (zC_left zw_len))
  have hiM : zInj 25 adM := zInj_of (hD.sub ((List.range 25).map (fun i => 74 + i)) (by decide) (zC_right zw_len zw_len))
  refine lv_aload_n hx hb dL_law_1084 rfl (lv_at hl 1 rfl) ?_
  refine lv_aload_n hx hb dL_law_1085 rfl (lv_at hl 0 rfl) ?_
  refine lv_iload_n hx hb dL_law_1086 rfl (lv_at hl 3 rfl) ?_
  refine lv_iconst (v := 1) hx hb dL_law_1087 (by decide) ?_
  refine lv_iadd hx hb dL_law_1088 ?_
  refine va_sld hx hb hX hbl hbA hS (law_in hL hi7 hx3 (k := 1) (by decide) rfl) dL_law_1089 ?_
  refine lv_aload_n hx hb dL_law_1090 rfl (lv_at hl 0 rfl) ?_
  refine lv_iload_n hx hb dL_law_1091 rfl (lv_at hl 3 rfl) ?_
  refine lv_iconst (v := 2) hx hb dL_law_1092 (by decide) ?_
  refine lv_iadd hx hb dL_law_1093 ?_
  refine va_sld hx hb hX hbl hbA hS (law_in hL hi7 hx3 (k := 2) (by decide) rfl) dL_law_1094 ?_
  refine lv_aload_n hx hb dL_law_1095 rfl (lv_at hl 0 rfl) ?_
  refine lv_iload_n hx hb dL_law_1096 rfl (lv_at hl 3 rfl) ?_
  refine lv_iconst (v := 3) hx hb dL_law_1097 (by decide) ?_
  refine lv_iadd hx hb dL_law_1098 ?_
  refine va_sld hx hb hX hbl hbA hS (law_in hL hi7 hx3 (k := 3) (by decide) rfl) dL_law_1099 ?_
  refine lv_aload_n hx hb dL_law_1100 rfl (lv_at hl 0 rfl) ?_
  refine lv_iload_n hx hb dL_law_1101 rfl (lv_at hl 3 rfl) ?_
  refine lv_iconst (v := 4) hx hb dL_law_1102 (by decide) ?_
  refine lv_iadd hx hb dL_law_1103 ?_
  refine va_sld hx hb hX hbl hbA hS (law_in hL hi7 hx3 (k := 4) (by decide) rfl) dL_law_1104 ?_
  obtain ⟨r, rI, rJ, sI, sJ, hc1, hc2, hR2⟩ := hop I J IM JM hR (xs (x3 + 1).toNatClampNeg) (xs (x3 + 2).toNatClampNeg) (xs (x3 + 3).toNatClampNeg) (xs (x3 + 4).toNatClampNeg)
  refine zcallW_l (As := [.int (xs (x3 + 1).toNatClampNeg), .int (xs (x3 + 2).toNatClampNeg), .int (xs (x3 + 3).toNatClampNeg), .int (xs (x3 + 4).toNatClampNeg)]) (rest := []) (wr := zw 25 (kM cy adM) adM IM JM) (I2 := rI) (J2 := rJ) S (c_X11_run l (zInj.D hiC) (xs (x3 + 1).toNatClampNeg) (xs (x3 + 2).toNatClampNeg) (xs (x3 + 3).toNatClampNeg) (xs (x3 + 4).toNatClampNeg) hc1) (cwV 4 htsL gF_X11_run rfl rfl rfl ddX11_run ⟨Nat.le_of_ble_eq_true rfl, Nat.le_of_ble_eq_true rfl⟩) (va_recv E.1 hP (q := (RX11, TX11, 12)) (ci := 10) (q0 := 0) rfl (zapp_l (zO.get oX11_at))) E hP hD hS hA hiC (List.range 74) ((List.range 25).map (fun i => 74 + i)) (zC_left zw_len) (zC_right zw_len zw_len) (by decide) zdis_74 hl.1 rfl rfl (Nat.le_of_ble_eq_true rfl) dL_law_1105 ⟨Nat.le_refl _, Nat.le_refl _⟩ (fun H locs hP hD hS => ?_)
  refine lv_aload_n hx hb dL_law_1108 rfl (lv_at hl 2 rfl) ?_
  refine lv_aload_n hx hb dL_law_1109 rfl (lv_at hl 0 rfl) ?_
  refine lv_iload_n hx hb dL_law_1110 rfl (lv_at hl 3 rfl) ?_
  refine lv_iconst (v := 1) hx hb dL_law_1111 (by decide) ?_
  refine lv_iadd hx hb dL_law_1112 ?_
  refine va_sld hx hb hX hbl hbA hS (law_in hL hi7 hx3 (k := 1) (by decide) rfl) dL_law_1113 ?_
  refine lv_aload_n hx hb dL_law_1114 rfl (lv_at hl 0 rfl) ?_
  refine lv_iload_n hx hb dL_law_1115 rfl (lv_at hl 3 rfl) ?_
  refine lv_iconst (v := 2) hx hb dL_law_1116 (by decide) ?_
  refine lv_iadd hx hb dL_law_1117 ?_
  refine va_sld hx hb hX hbl hbA hS (law_in hL hi7 hx3 (k := 2) (by decide) rfl) dL_law_1118 ?_
  refine lv_aload_n hx hb dL_law_1119 rfl (lv_at hl 0 rfl) ?_
  refine lv_iload_n hx hb dL_law_1120 rfl (lv_at hl 3 rfl) ?_
  refine lv_iconst (v := 3) hx hb dL_law_1121 (by decide) ?_
  refine lv_iadd hx hb dL_law_1122 ?_
  refine va_sld hx hb hX hbl hbA hS (law_in hL hi7 hx3 (k := 3) (by decide) rfl) dL_law_1123 ?_
  refine lv_aload_n hx hb dL_law_1124 rfl (lv_at hl 0 rfl) ?_
  refine lv_iload_n hx hb dL_law_1125 rfl (lv_at hl 3 rfl) ?_
  refine lv_iconst (v := 4) hx hb dL_law_1126 (by decide) ?_
  refine lv_iadd hx hb dL_law_1127 ?_
  refine va_sld hx hb hX hbl hbA hS (law_in hL hi7 hx3 (k := 4) (by decide) rfl) dL_law_1128 ?_
  refine zcallW_l (As := [.int (xs (x3 + 1).toNatClampNeg), .int (xs (x3 + 2).toNatClampNeg), .int (xs (x3 + 3).toNatClampNeg), .int (xs (x3 + 4).toNatClampNeg)]) (rest := [.long r]) (wr := zw 74 (kC cy ad a0) ad rI rJ) (I2 := sI) (J2 := sJ) S (c_X12_run l (zInj.D hiM) (xs (x3 + 1).toNatClampNeg) (xs (x3 + 2).toNatClampNeg) (xs (x3 + 3).toNatClampNeg) (xs (x3 + 4).toNatClampNeg) hc2) (cwV 4 htsL gF_X12_run rfl rfl rfl ddX12_run ⟨Nat.le_of_ble_eq_true rfl, Nat.le_of_ble_eq_true rfl⟩) (va_recv E.1 hP (q := (RX12, TX12, 31)) (ci := 11) (q0 := 0) rfl (zapp_l (zO.get oX12_at))) E hP hD hS hA hiM (List.range 25) ((List.range 74).map (fun i => 25 + i)) (zC_left zw_len) (zC_right zw_len zw_len) (by decide) zdis_25 hl.1 rfl rfl (Nat.le_of_ble_eq_true rfl) dL_law_1129 ⟨Nat.le_refl _, Nat.le_refl _⟩ (fun H locs hP hD hS => ?_)
  refine W.lcmp hx hb dL_law_1132 ?_
  refine lv_if_eq (tgt := 1187) hx hb dL_law_1133 (by decide) (fun _ => ?_) (fun k9 => absurd zcmp_rr k9)
  exact kk _ _ _ _ _ _ hR2 hP hD hS
/-- keep: both answer alike, and the relation stays -/
def op_keep (Rel : zI → zJ → zI → zJ → Prop) : Prop := ∀ (I : zI) (J : zJ) (IM : zI) (JM : zJ), Rel I J IM JM → ∃ (r : Int32) (rI : zI) (sI : zI), f_X11_keep I J = some (r, rI) ∧ f_X12_keep IM JM = some (r, sI) ∧ Rel rI J sI JM
set_option maxHeartbeats 4000000 in
set_option maxRecDepth 100000 in
theorem law_case_24 {p : Program} {l : Launch} {e : Env} {s : State} {m : MethodId} {below : List Frame} {meth : Method} {c : Code} {D : va_G} {cy : Nat → ClassId} {a0 ad adM : Nat → Nat} {b L : Nat} {xs : Nat → Int32} {Rel : zI → zJ → zI → zJ → Prop} (hop : op_keep Rel) (hL : L ≤ 448) (C0 : lw_At p s m meth c b L xs) (E : zE D a0 (fun q : Nat => s.heap.size ≤ q) cy s) {I : zI} {J : zJ} {IM : zI} {JM : zJ} (hR : Rel I J IM JM) (i : Nat) (hi7 : i + 7 ≤ L) (x3 : Int32) (hx3 : x3 = nI i) {H : Heap} {locs : List Loc} (hP : va_P D vwCl (zw 74 (kC cy ad a0) ad I J ++ zw 25 (kM cy adM) adM IM JM) H) (hD : va_D (fun q : Nat => s.heap.size ≤ q) (zw 74 (kC cy ad a0) ad I J ++ zw 25 (kM cy adM) adM IM JM)) (hS : va_S (fun q : Nat => s.heap.size ≤ q) s.heap H locs) {ls : Array Slot} (hl : lv_has ls 4 [(0, .ref b), (1, .ref (ad 0)), (2, .ref (adM 0)), (3, .int x3)]) (kk : ∀ (I : zI) (J : zJ) (IM : zI) (JM : zJ) (H : Heap) (locs : List Loc), Rel I J IM JM → va_P D vwCl (zw 74 (kC cy ad a0) ad I J ++ zw 25 (kM cy adM) adM IM JM) H → va_D (fun q : Nat => s.heap.size ≤ q) (zw 74 (kC cy ad a0) ad I J ++ zw 25 (kM cy adM) adM IM JM) → va_S (fun q : Nat => s.heap.size ≤ q) s.heap H locs → W p l e room_1 s m #[Value.ref b] below meth c H locs 600000 7302249 (lw_Z below #[Value.ref b] s) (F0 m 1187 ls [])) : W p l e room_1 s m #[Value.ref b] below meth c H locs 600000 7302249 (lw_Z below #[Value.ref b] s) (F0 m 1138 ls []) := by
  obtain ⟨hx, hb, hr, hml, hown, hts, hX, hbl, hlocks, hgv⟩ := id C0
  have hA : ∀ q : Nat, s.heap.size ≤ q → (fun q : Nat => s.heap.size ≤ q) q := fun _ h => h
  have hbA : ¬ (fun q : Nat => s.heap.size ≤ q) b := Nat.not_le.mpr hbl
  have htsL : ∀ w ∈ wsLF, w.before #[Value.ref b] s = true := fun w h => hts w (wsLF_in w h)
  have S : CallFix p m c code 4 s #[Value.ref b] wsLF RL := ⟨hx, hb, hml, hown, htsL⟩
  have hiC : zInj 74 ad := zInj_of (hD.sub (List.range 74) (by decide) (zC_left zw_len))
  have hiM : zInj 25 adM := zInj_of (hD.sub ((List.range 25).map (fun i => 74 + i)) (by decide) (zC_right zw_len zw_len))
  refine lv_aload_n hx hb dL_law_1138 rfl (lv_at hl 1 rfl) ?_
  obtain ⟨r, rI, sI, hc1, hc2, hR2⟩ := hop I J IM JM hR
  refine zcallW_i (As := []) (rest := []) (wr := zw 25 (kM cy adM) adM IM JM) (I2 := rI) (J2 := J) S (c_X11_keep l (zInj.D hiC) hc1) (cwV 0 htsL gF_X11_keep rfl rfl rfl ddX11_keep ⟨Nat.le_of_ble_eq_true rfl, Nat.le_of_ble_eq_true rfl⟩) (va_recv E.1 hP (q := (RX11, TX11, 12)) (ci := 10) (q0 := 0) rfl (zapp_l (zO.get oX11_at))) E hP hD hS hA hiC (List.range 74) ((List.range 25).map (fun i => 74 + i)) (zC_left zw_len) (zC_right zw_len zw_len) (by decide) zdis_74 hl.1 rfl rfl (Nat.le_of_ble_eq_true rfl) dL_law_1139 ⟨Nat.le_refl _, Nat.le_refl _⟩ (fun H locs hP hD hS => ?_)
  refine lv_aload_n hx hb dL_law_1142 rfl (lv_at hl 2 rfl) ?_
  refine zcallW_i (As := []) (rest := [.int r]) (wr := zw 74 (kC cy ad a0) ad rI J) (I2 := sI) (J2 := JM) S (c_X12_keep l (zInj.D hiM) hc2) (cwV 0 htsL gF_X12_keep rfl rfl rfl ddX12_keep ⟨Nat.le_of_ble_eq_true rfl, Nat.le_of_ble_eq_true rfl⟩) (va_recv E.1 hP (q := (RX12, TX12, 31)) (ci := 11) (q0 := 0) rfl (zapp_l (zO.get oX12_at))) E hP hD hS hA hiM (List.range 25) ((List.range 74).map (fun i => 25 + i)) (zC_left zw_len) (zC_right zw_len zw_len) (by decide) zdis_25 hl.1 rfl rfl (Nat.le_of_ble_eq_true rfl) dL_law_1143 ⟨Nat.le_refl _, Nat.le_refl _⟩ (fun H locs hP hD hS => ?_)
  refine lv_icmp_eq (tgt := 1187) hx hb dL_law_1146 (by decide) (fun _ => ?_) (fun k9 => absurd rfl k9)
  exact kk _ _ _ _ _ _ hR2 hP hD hS
/-- back: both answer alike, and the relation stays -/
def op_back (Rel : zI → zJ → zI → zJ → Prop) : Prop := ∀ (I : zI) (J : zJ) (IM : zI) (JM : zJ), Rel I J IM JM → ∃ (r : Int32) (rI : zI) (sI : zI), f_X11_back I J = some (r, rI) ∧ f_X12_back IM JM = some (r, sI) ∧ Rel rI J sI JM
set_option maxHeartbeats 4000000 in
set_option maxRecDepth 100000 in
theorem law_case_25 {p : Program} {l : Launch} {e : Env} {s : State} {m : MethodId} {below : List Frame} {meth : Method} {c : Code} {D : va_G} {cy : Nat → ClassId} {a0 ad adM : Nat → Nat} {b L : Nat} {xs : Nat → Int32} {Rel : zI → zJ → zI → zJ → Prop} (hop : op_back Rel) (hL : L ≤ 448) (C0 : lw_At p s m meth c b L xs) (E : zE D a0 (fun q : Nat => s.heap.size ≤ q) cy s) {I : zI} {J : zJ} {IM : zI} {JM : zJ} (hR : Rel I J IM JM) (i : Nat) (hi7 : i + 7 ≤ L) (x3 : Int32) (hx3 : x3 = nI i) {H : Heap} {locs : List Loc} (hP : va_P D vwCl (zw 74 (kC cy ad a0) ad I J ++ zw 25 (kM cy adM) adM IM JM) H) (hD : va_D (fun q : Nat => s.heap.size ≤ q) (zw 74 (kC cy ad a0) ad I J ++ zw 25 (kM cy adM) adM IM JM)) (hS : va_S (fun q : Nat => s.heap.size ≤ q) s.heap H locs) {ls : Array Slot} (hl : lv_has ls 4 [(0, .ref b), (1, .ref (ad 0)), (2, .ref (adM 0)), (3, .int x3)]) (kk : ∀ (I : zI) (J : zJ) (IM : zI) (JM : zJ) (H : Heap) (locs : List Loc), Rel I J IM JM → va_P D vwCl (zw 74 (kC cy ad a0) ad I J ++ zw 25 (kM cy adM) adM IM JM) H → va_D (fun q : Nat => s.heap.size ≤ q) (zw 74 (kC cy ad a0) ad I J ++ zw 25 (kM cy adM) adM IM JM) → va_S (fun q : Nat => s.heap.size ≤ q) s.heap H locs → W p l e room_1 s m #[Value.ref b] below meth c H locs 600000 7302249 (lw_Z below #[Value.ref b] s) (F0 m 1187 ls [])) : W p l e room_1 s m #[Value.ref b] below meth c H locs 600000 7302249 (lw_Z below #[Value.ref b] s) (F0 m 1151 ls []) := by
  obtain ⟨hx, hb, hr, hml, hown, hts, hX, hbl, hlocks, hgv⟩ := id C0
  have hA : ∀ q : Nat, s.heap.size ≤ q → (fun q : Nat => s.heap.size ≤ q) q := fun _ h => h
  have hbA : ¬ (fun q : Nat => s.heap.size ≤ q) b := Nat.not_le.mpr hbl
  have htsL : ∀ w ∈ wsLF, w.before #[Value.ref b] s = true := fun w h => hts w (wsLF_in w h)
  have S : CallFix p m c code 4 s #[Value.ref b] wsLF RL := ⟨hx, hb, hml, hown, htsL⟩
  have hiC : zInj 74 ad := zInj_of (hD.sub (List.range 74) (by decide) (zC_left zw_len))
  have hiM : zInj 25 adM := zInj_of (hD.sub ((List.range 25).map (fun i => 74 + i)) (by decide) (zC_right zw_len zw_len))
  refine lv_aload_n hx hb dL_law_1151 rfl (lv_at hl 1 rfl) ?_
  obtain ⟨r, rI, sI, hc1, hc2, hR2⟩ := hop I J IM JM hR
  refine zcallW_i (As := []) (rest := []) (wr := zw 25 (kM cy adM) adM IM JM) (I2 := rI) (J2 := J) S (c_X11_back l (zInj.D hiC) hc1) (cwV 0 htsL gF_X11_back rfl rfl rfl ddX11_back ⟨Nat.le_of_ble_eq_true rfl, Nat.le_of_ble_eq_true rfl⟩) (va_recv E.1 hP (q := (RX11, TX11, 12)) (ci := 10) (q0 := 0) rfl (zapp_l (zO.get oX11_at))) E hP hD hS hA hiC (List.range 74) ((List.range 25).map (fun i => 74 + i)) (zC_left zw_len) (zC_right zw_len zw_len) (by decide) zdis_74 hl.1 rfl rfl (Nat.le_of_ble_eq_true rfl) dL_law_1152 ⟨Nat.le_refl _, Nat.le_refl _⟩ (fun H locs hP hD hS => ?_)
  refine lv_aload_n hx hb dL_law_1155 rfl (lv_at hl 2 rfl) ?_
  refine zcallW_i (As := []) (rest := [.int r]) (wr := zw 74 (kC cy ad a0) ad rI J) (I2 := sI) (J2 := JM) S (c_X12_back l (zInj.D hiM) hc2) (cwV 0 htsL gF_X12_back rfl rfl rfl ddX12_back ⟨Nat.le_of_ble_eq_true rfl, Nat.le_of_ble_eq_true rfl⟩) (va_recv E.1 hP (q := (RX12, TX12, 31)) (ci := 11) (q0 := 0) rfl (zapp_l (zO.get oX12_at))) E hP hD hS hA hiM (List.range 25) ((List.range 74).map (fun i => 25 + i)) (zC_left zw_len) (zC_right zw_len zw_len) (by decide) zdis_25 hl.1 rfl rfl (Nat.le_of_ble_eq_true rfl) dL_law_1156 ⟨Nat.le_refl _, Nat.le_refl _⟩ (fun H locs hP hD hS => ?_)
  refine lv_icmp_eq (tgt := 1187) hx hb dL_law_1159 (by decide) (fun _ => ?_) (fun k9 => absurd rfl k9)
  exact kk _ _ _ _ _ _ hR2 hP hD hS
/-- count: both answer alike, and the relation stays -/
def op_count (Rel : zI → zJ → zI → zJ → Prop) : Prop := ∀ (I : zI) (J : zJ) (IM : zI) (JM : zJ), Rel I J IM JM → ∀ (p1 : Int32), ∃ (r : Int32), f_X11_count I J p1 = some r ∧ f_X12_count IM JM p1 = some r ∧ Rel I J IM JM
set_option maxHeartbeats 4000000 in
set_option maxRecDepth 100000 in
theorem law_case_26 {p : Program} {l : Launch} {e : Env} {s : State} {m : MethodId} {below : List Frame} {meth : Method} {c : Code} {D : va_G} {cy : Nat → ClassId} {a0 ad adM : Nat → Nat} {b L : Nat} {xs : Nat → Int32} {Rel : zI → zJ → zI → zJ → Prop} (hop : op_count Rel) (hL : L ≤ 448) (C0 : lw_At p s m meth c b L xs) (E : zE D a0 (fun q : Nat => s.heap.size ≤ q) cy s) {I : zI} {J : zJ} {IM : zI} {JM : zJ} (hR : Rel I J IM JM) (i : Nat) (hi7 : i + 7 ≤ L) (x3 : Int32) (hx3 : x3 = nI i) {H : Heap} {locs : List Loc} (hP : va_P D vwCl (zw 74 (kC cy ad a0) ad I J ++ zw 25 (kM cy adM) adM IM JM) H) (hD : va_D (fun q : Nat => s.heap.size ≤ q) (zw 74 (kC cy ad a0) ad I J ++ zw 25 (kM cy adM) adM IM JM)) (hS : va_S (fun q : Nat => s.heap.size ≤ q) s.heap H locs) {ls : Array Slot} (hl : lv_has ls 4 [(0, .ref b), (1, .ref (ad 0)), (2, .ref (adM 0)), (3, .int x3)]) (kk : ∀ (I : zI) (J : zJ) (IM : zI) (JM : zJ) (H : Heap) (locs : List Loc), Rel I J IM JM → va_P D vwCl (zw 74 (kC cy ad a0) ad I J ++ zw 25 (kM cy adM) adM IM JM) H → va_D (fun q : Nat => s.heap.size ≤ q) (zw 74 (kC cy ad a0) ad I J ++ zw 25 (kM cy adM) adM IM JM) → va_S (fun q : Nat => s.heap.size ≤ q) s.heap H locs → W p l e room_1 s m #[Value.ref b] below meth c H locs 600000 7302249 (lw_Z below #[Value.ref b] s) (F0 m 1187 ls [])) : W p l e room_1 s m #[Value.ref b] below meth c H locs 600000 7302249 (lw_Z below #[Value.ref b] s) (F0 m 1164 ls []) := by
  obtain ⟨hx, hb, hr, hml, hown, hts, hX, hbl, hlocks, hgv⟩ := id C0
  have hA : ∀ q : Nat, s.heap.size ≤ q → (fun q : Nat => s.heap.size ≤ q) q := fun _ h => h
  have hbA : ¬ (fun q : Nat => s.heap.size ≤ q) b := Nat.not_le.mpr hbl
  have htsL : ∀ w ∈ wsLF, w.before #[Value.ref b] s = true := fun w h => hts w (wsLF_in w h)
  have S : CallFix p m c code 4 s #[Value.ref b] wsLF RL := ⟨hx, hb, hml, hown, htsL⟩
  have hiC : zInj 74 ad := zInj_of (hD.sub (List.range 74) (by decide) (zC_left zw_len))
  have hiM : zInj 25 adM := zInj_of (hD.sub ((List.range 25).map (fun i => 74 + i)) (by decide) (zC_right zw_len zw_len))
  refine lv_aload_n hx hb dL_law_1164 rfl (lv_at hl 1 rfl) ?_
  refine lv_aload_n hx hb dL_law_1165 rfl (lv_at hl 0 rfl) ?_
  refine lv_iload_n hx hb dL_law_1166 rfl (lv_at hl 3 rfl) ?_
  refine lv_iconst (v := 1) hx hb dL_law_1167 (by decide) ?_
  refine lv_iadd hx hb dL_law_1168 ?_
  refine va_sld hx hb hX hbl hbA hS (law_in hL hi7 hx3 (k := 1) (by decide) rfl) dL_law_1169 ?_
  obtain ⟨r, hc1, hc2, hR2⟩ := hop I J IM JM hR (xs (x3 + 1).toNatClampNeg)
  refine zcallW_i (As := [.int (xs (x3 + 1).toNatClampNeg)]) (rest := []) (wr := zw 25 (kM cy adM) adM IM JM) (I2 := I) (J2 := J) S (c_X11_count l (zInj.D hiC) (xs (x3 + 1).toNatClampNeg) hc1) (cwV 1 htsL gF_X11_count rfl rfl rfl ddX11_count ⟨Nat.le_of_ble_eq_true rfl, Nat.le_of_ble_eq_true rfl⟩) (va_recv E.1 hP (q := (RX11, TX11, 12)) (ci := 10) (q0 := 0) rfl (zapp_l (zO.get oX11_at))) E hP hD hS hA hiC (List.range 74) ((List.range 25).map (fun i => 74 + i)) (zC_left zw_len) (zC_right zw_len zw_len) (by decide) zdis_74 hl.1 rfl rfl (Nat.le_of_ble_eq_true rfl) dL_law_1170 ⟨Nat.le_refl _, Nat.le_refl _⟩ (fun H locs hP hD hS => ?_)
  refine lv_aload_n hx hb dL_law_1173 rfl (lv_at hl 2 rfl) ?_
  refine lv_aload_n hx hb dL_law_1174 rfl (lv_at hl 0 rfl) ?_
  refine lv_iload_n hx hb dL_law_1175 rfl (lv_at hl 3 rfl) ?_
  refine lv_iconst (v := 1) hx hb dL_law_1176 (by decide) ?_
  refine lv_iadd hx hb dL_law_1177 ?_
  refine va_sld hx hb hX hbl hbA hS (law_in hL hi7 hx3 (k := 1) (by decide) rfl) dL_law_1178 ?_
  refine zcallW_i (As := [.int (xs (x3 + 1).toNatClampNeg)]) (rest := [.int r]) (wr := zw 74 (kC cy ad a0) ad I J) (I2 := IM) (J2 := JM) S (c_X12_count l (zInj.D hiM) (xs (x3 + 1).toNatClampNeg) hc2) (cwV 1 htsL gF_X12_count rfl rfl rfl ddX12_count ⟨Nat.le_of_ble_eq_true rfl, Nat.le_of_ble_eq_true rfl⟩) (va_recv E.1 hP (q := (RX12, TX12, 31)) (ci := 11) (q0 := 0) rfl (zapp_l (zO.get oX12_at))) E hP hD hS hA hiM (List.range 25) ((List.range 74).map (fun i => 25 + i)) (zC_left zw_len) (zC_right zw_len zw_len) (by decide) zdis_25 hl.1 rfl rfl (Nat.le_of_ble_eq_true rfl) dL_law_1179 ⟨Nat.le_refl _, Nat.le_refl _⟩ (fun H locs hP hD hS => ?_)
  refine lv_icmp_eq (tgt := 1187) hx hb dL_law_1182 (by decide) (fun _ => ?_) (fun k9 => absurd rfl k9)
  exact kk _ _ _ _ _ _ hR2 hP hD hS
/-- all calls -/
def op_all (Rel : zI → zJ → zI → zJ → Prop) : Prop := op_write Rel ∧ op_wipe Rel ∧ op_fault Rel ∧ op_lay Rel ∧ op_pass Rel ∧ op_breaks Rel ∧ op_hand Rel ∧ op_does Rel ∧ op_value Rel ∧ op_mean Rel ∧ op_judge Rel ∧ op_parted Rel ∧ op_guess Rel ∧ op_blind Rel ∧ op_two Rel ∧ op_earns Rel ∧ op_shop Rel ∧ op_pay Rel ∧ op_bestPay Rel ∧ op_log Rel ∧ op_noLog Rel ∧ op_off Rel ∧ op_plainest Rel ∧ op_run Rel ∧ op_keep Rel ∧ op_back Rel ∧ op_count Rel
set_option maxHeartbeats 8000000 in
set_option maxRecDepth 100000 in
theorem law_loop {p : Program} {l : Launch} {e : Env} {s : State} {m : MethodId} {below : List Frame} {meth : Method} {c : Code} {D : va_G} {cy : Nat → ClassId} {a0 ad adM : Nat → Nat} {b L : Nat} {xs : Nat → Int32} {Rel : zI → zJ → zI → zJ → Prop} (hops : op_all Rel) (hL : L ≤ 448) (C0 : lw_At p s m meth c b L xs) (E : zE D a0 (fun q : Nat => s.heap.size ≤ q) cy s) : ∀ (n i : Nat) (x3 : Int32), i ≤ L → L + 1 ≤ i + n → x3 = nI i → ∀ (I : zI) (J : zJ) (IM : zI) (JM : zJ), Rel I J IM JM → ∀ (H : Heap) (locs : List Loc), va_P D vwCl (zw 74 (kC cy ad a0) ad I J ++ zw 25 (kM cy adM) adM IM JM) H → va_D (fun q : Nat => s.heap.size ≤ q) (zw 74 (kC cy ad a0) ad I J ++ zw 25 (kM cy adM) adM IM JM) → va_S (fun q : Nat => s.heap.size ≤ q) s.heap H locs → ∀ (ls : Array Slot), lv_has ls 4 [(0, .ref b), (1, .ref (ad 0)), (2, .ref (adM 0)), (3, .int x3)] → W p l e room_1 s m #[Value.ref b] below meth c H locs 600000 7302249 (lw_Z below #[Value.ref b] s) (F0 m 18 ls []) := by
  obtain ⟨hx, hb, hr, hml, hown, hts, hX, hbl, hlocks, hgv⟩ := id C0
  have hA : ∀ q : Nat, s.heap.size ≤ q → (fun q : Nat => s.heap.size ≤ q) q := fun _ h => h
  have hbA : ¬ (fun q : Nat => s.heap.size ≤ q) b := Nat.not_le.mpr hbl
  intro n
  induction n with
  | zero =>
    intro i x3 h1 h2
    exact absurd h2 (by omega)
  | succ n ih =>
    intro i x3 hi hin ex3 I J IM JM hR H locs hP hD hS ls hl
    refine lv_iload_n hx hb dL_law_18 rfl (lv_at hl 3 rfl) ?_
    refine lv_aload_n hx hb dL_law_19 rfl (lv_at hl 0 rfl) ?_
    refine va_slen hx hb hX hbl hbA hS dL_law_20 ?_
    refine lv_bipush (v := 7) hx hb dL_law_21 (by decide) ?_
    refine lv_isub hx hb dL_law_23 ?_
    refine lv_icmp_gt (tgt := 1193) hx hb dL_law_24 (by decide) (fun k1 => ?_) (fun k1 => ?_)
    · refine lv_iconst (v := 1) hx hb dL_law_1193 (by decide) ?_
      refine va_forget (fun q hq => hS.2.2 q hq) ?_
      exact lw_ret hx hb hr hlocks dL_law_1194
    · have hi7 : i + 7 ≤ L := law_end hL hi ex3 k1
      have kk : ∀ (I : zI) (J : zJ) (IM : zI) (JM : zJ) (H : Heap) (locs : List Loc), Rel I J IM JM → va_P D vwCl (zw 74 (kC cy ad a0) ad I J ++ zw 25 (kM cy adM) adM IM JM) H → va_D (fun q : Nat => s.heap.size ≤ q) (zw 74 (kC cy ad a0) ad I J ++ zw 25 (kM cy adM) adM IM JM) → va_S (fun q : Nat => s.heap.size ≤ q) s.heap H locs → W p l e room_1 s m #[Value.ref b] below meth c H locs 600000 7302249 (lw_Z below #[Value.ref b] s) (F0 m 1187 ls []) := by
        intro I J IM JM H locs hR hP hD hS
        obtain ⟨y, ey⟩ := zex (x3 + 7)
        refine lv_iinc (v := y) (lv' := [(3, .int y), (0, .ref b), (1, .ref (ad 0)), (2, .ref (adM 0))]) hx hb dL_law_1187 hl (k := 3) rfl (by rw [ey]; rfl) (by decide) rfl (fun ls hl => ?_)
        refine lv_goto (tgt := 18) hx hb dL_law_1190 (by decide) ?_
        exact ih (i + 7) y hi7 (by omega) (by rw [ey, ex3]; exact nI_add i 7) I J IM JM hR H locs hP hD hS ls (lv_sub hl [1, 2, 3, 0] rfl)
      refine lv_aload_n hx hb dL_law_27 rfl (lv_at hl 0 rfl) ?_
      refine lv_iload_n hx hb dL_law_28 rfl (lv_at hl 3 rfl) ?_
      refine va_sld hx hb hX hbl hbA hS (law_in0 hL hi7 ex3) dL_law_29 ?_
      refine lv_bipush (v := 31) hx hb dL_law_30 (by decide) ?_
      refine lv_iand hx hb dL_law_32 ?_
      refine lv_topi (fun y ey => ?_)
      rcases Decidable.em (y = 0) with k2 | k2
      · refine lv_tableIn (off := 123) (tgt := 156) hx hb dL_law_33 (by rw [k2]; decide) (by rw [k2]; decide) (by rw [k2]; rfl) (by decide) ?_
        exact law_case_0 hops.1 hL C0 E hR i hi7 x3 ex3 hP hD hS hl kk
      rcases Decidable.em (y = 1) with k3 | k3
      · refine lv_tableIn (off := 186) (tgt := 219) hx hb dL_law_33 (by rw [k3]; decide) (by rw [k3]; decide) (by rw [k3]; rfl) (by decide) ?_
        exact law_case_1 hops.2.1 hL C0 E hR i hi7 x3 ex3 hP hD hS hl kk
      rcases Decidable.em (y = 2) with k4 | k4
      · refine lv_tableIn (off := 199) (tgt := 232) hx hb dL_law_33 (by rw [k4]; decide) (by rw [k4]; decide) (by rw [k4]; rfl) (by decide) ?_
        exact law_case_2 hops.2.2.1 hL C0 E hR i hi7 x3 ex3 hP hD hS hl kk
      rcases Decidable.em (y = 3) with k5 | k5
      · refine lv_tableIn (off := 212) (tgt := 245) hx hb dL_law_33 (by rw [k5]; decide) (by rw [k5]; decide) (by rw [k5]; rfl) (by decide) ?_
        exact law_case_3 hops.2.2.2.1 hL C0 E hR i hi7 x3 ex3 hP hD hS hl kk
      rcases Decidable.em (y = 4) with k6 | k6
      · refine lv_tableIn (off := 225) (tgt := 258) hx hb dL_law_33 (by rw [k6]; decide) (by rw [k6]; decide) (by rw [k6]; rfl) (by decide) ?_
        exact law_case_4 hops.2.2.2.2.1 hL C0 E hR i hi7 x3 ex3 hP hD hS hl kk
      rcases Decidable.em (y = 5) with k7 | k7
      · refine lv_tableIn (off := 288) (tgt := 321) hx hb dL_law_33 (by rw [k7]; decide) (by rw [k7]; decide) (by rw [k7]; rfl) (by decide) ?_
        exact law_case_5 hops.2.2.2.2.2.1 hL C0 E hR i hi7 x3 ex3 hP hD hS hl kk
      rcases Decidable.em (y = 6) with k8 | k8
      · refine lv_tableIn (off := 311) (tgt := 344) hx hb dL_law_33 (by rw [k8]; decide) (by rw [k8]; decide) (by rw [k8]; rfl) (by decide) ?_
        exact law_case_6 hops.2.2.2.2.2.2.1 hL C0 E hR i hi7 x3 ex3 hP hD hS hl kk
      rcases Decidable.em (y = 7) with k9 | k9
      · refine lv_tableIn (off := 344) (tgt := 377) hx hb dL_law_33 (by rw [k9]; decide) (by rw [k9]; decide) (by rw [k9]; rfl) (by decide) ?_
        exact law_case_7 hops.2.2.2.2.2.2.2.1 hL C0 E hR i hi7 x3 ex3 hP hD hS hl kk
      rcases Decidable.em (y = 8) with k10 | k10
      · refine lv_tableIn (off := 407) (tgt := 440) hx hb dL_law_33 (by rw [k10]; decide) (by rw [k10]; decide) (by rw [k10]; rfl) (by decide) ?_
        exact law_case_8 hops.2.2.2.2.2.2.2.2.1 hL C0 E hR i hi7 x3 ex3 hP hD hS hl kk
      rcases Decidable.em (y = 9) with k11 | k11
      · refine lv_tableIn (off := 471) (tgt := 504) hx hb dL_law_33 (by rw [k11]; decide) (by rw [k11]; decide) (by rw [k11]; rfl) (by decide) ?_
        exact law_case_9 hops.2.2.2.2.2.2.2.2.2.1 hL C0 E hR i hi7 x3 ex3 hP hD hS hl kk
      rcases Decidable.em (y = 10) with k12 | k12
      · refine lv_tableIn (off := 547) (tgt := 580) hx hb dL_law_33 (by rw [k12]; decide) (by rw [k12]; decide) (by rw [k12]; rfl) (by decide) ?_
        exact law_case_10 hops.2.2.2.2.2.2.2.2.2.2.1 hL C0 E hR i hi7 x3 ex3 hP hD hS hl kk
      rcases Decidable.em (y = 11) with k13 | k13
      · refine lv_tableIn (off := 580) (tgt := 613) hx hb dL_law_33 (by rw [k13]; decide) (by rw [k13]; decide) (by rw [k13]; rfl) (by decide) ?_
        exact law_case_11 hops.2.2.2.2.2.2.2.2.2.2.2.1 hL C0 E hR i hi7 x3 ex3 hP hD hS hl kk
      rcases Decidable.em (y = 12) with k14 | k14
      · refine lv_tableIn (off := 634) (tgt := 667) hx hb dL_law_33 (by rw [k14]; decide) (by rw [k14]; decide) (by rw [k14]; rfl) (by decide) ?_
        exact law_case_12 hops.2.2.2.2.2.2.2.2.2.2.2.2.1 hL C0 E hR i hi7 x3 ex3 hP hD hS hl kk
      rcases Decidable.em (y = 13) with k15 | k15
      · refine lv_tableIn (off := 668) (tgt := 701) hx hb dL_law_33 (by rw [k15]; decide) (by rw [k15]; decide) (by rw [k15]; rfl) (by decide) ?_
        exact law_case_13 hops.2.2.2.2.2.2.2.2.2.2.2.2.2.1 hL C0 E hR i hi7 x3 ex3 hP hD hS hl kk
      rcases Decidable.em (y = 14) with k16 | k16
      · refine lv_tableIn (off := 692) (tgt := 725) hx hb dL_law_33 (by rw [k16]; decide) (by rw [k16]; decide) (by rw [k16]; rfl) (by decide) ?_
        exact law_case_14 hops.2.2.2.2.2.2.2.2.2.2.2.2.2.2.1 hL C0 E hR i hi7 x3 ex3 hP hD hS hl kk
      rcases Decidable.em (y = 15) with k17 | k17
      · refine lv_tableIn (off := 755) (tgt := 788) hx hb dL_law_33 (by rw [k17]; decide) (by rw [k17]; decide) (by rw [k17]; rfl) (by decide) ?_
        exact law_case_15 hops.2.2.2.2.2.2.2.2.2.2.2.2.2.2.2.1 hL C0 E hR i hi7 x3 ex3 hP hD hS hl kk
      rcases Decidable.em (y = 16) with k18 | k18
      · refine lv_tableIn (off := 799) (tgt := 832) hx hb dL_law_33 (by rw [k18]; decide) (by rw [k18]; decide) (by rw [k18]; rfl) (by decide) ?_
        exact law_case_16 hops.2.2.2.2.2.2.2.2.2.2.2.2.2.2.2.2.1 hL C0 E hR i hi7 x3 ex3 hP hD hS hl kk
      rcases Decidable.em (y = 17) with k19 | k19
      · refine lv_tableIn (off := 832) (tgt := 865) hx hb dL_law_33 (by rw [k19]; decide) (by rw [k19]; decide) (by rw [k19]; rfl) (by decide) ?_
        exact law_case_17 hops.2.2.2.2.2.2.2.2.2.2.2.2.2.2.2.2.2.1 hL C0 E hR i hi7 x3 ex3 hP hD hS hl kk
      rcases Decidable.em (y = 18) with k20 | k20
      · refine lv_tableIn (off := 886) (tgt := 919) hx hb dL_law_33 (by rw [k20]; decide) (by rw [k20]; decide) (by rw [k20]; rfl) (by decide) ?_
        exact law_case_18 hops.2.2.2.2.2.2.2.2.2.2.2.2.2.2.2.2.2.2.1 hL C0 E hR i hi7 x3 ex3 hP hD hS hl kk
      rcases Decidable.em (y = 19) with k21 | k21
      · refine lv_tableIn (off := 919) (tgt := 952) hx hb dL_law_33 (by rw [k21]; decide) (by rw [k21]; decide) (by rw [k21]; rfl) (by decide) ?_
        exact law_case_19 hops.2.2.2.2.2.2.2.2.2.2.2.2.2.2.2.2.2.2.2.1 hL C0 E hR i hi7 x3 ex3 hP hD hS hl kk
      rcases Decidable.em (y = 20) with k22 | k22
      · refine lv_tableIn (off := 972) (tgt := 1005) hx hb dL_law_33 (by rw [k22]; decide) (by rw [k22]; decide) (by rw [k22]; rfl) (by decide) ?_
        exact law_case_20 hops.2.2.2.2.2.2.2.2.2.2.2.2.2.2.2.2.2.2.2.2.1 hL C0 E hR i hi7 x3 ex3 hP hD hS hl kk
      rcases Decidable.em (y = 21) with k23 | k23
      · refine lv_tableIn (off := 985) (tgt := 1018) hx hb dL_law_33 (by rw [k23]; decide) (by rw [k23]; decide) (by rw [k23]; rfl) (by decide) ?_
        exact law_case_21 hops.2.2.2.2.2.2.2.2.2.2.2.2.2.2.2.2.2.2.2.2.2.1 hL C0 E hR i hi7 x3 ex3 hP hD hS hl kk
      rcases Decidable.em (y = 22) with k24 | k24
      · refine lv_tableIn (off := 1028) (tgt := 1061) hx hb dL_law_33 (by rw [k24]; decide) (by rw [k24]; decide) (by rw [k24]; rfl) (by decide) ?_
        exact law_case_22 hops.2.2.2.2.2.2.2.2.2.2.2.2.2.2.2.2.2.2.2.2.2.2.1 hL C0 E hR i hi7 x3 ex3 hP hD hS hl kk
      rcases Decidable.em (y = 23) with k25 | k25
      · refine lv_tableIn (off := 1051) (tgt := 1084) hx hb dL_law_33 (by rw [k25]; decide) (by rw [k25]; decide) (by rw [k25]; rfl) (by decide) ?_
        exact law_case_23 hops.2.2.2.2.2.2.2.2.2.2.2.2.2.2.2.2.2.2.2.2.2.2.2.1 hL C0 E hR i hi7 x3 ex3 hP hD hS hl kk
      rcases Decidable.em (y = 24) with k26 | k26
      · refine lv_tableIn (off := 1105) (tgt := 1138) hx hb dL_law_33 (by rw [k26]; decide) (by rw [k26]; decide) (by rw [k26]; rfl) (by decide) ?_
        exact law_case_24 hops.2.2.2.2.2.2.2.2.2.2.2.2.2.2.2.2.2.2.2.2.2.2.2.2.1 hL C0 E hR i hi7 x3 ex3 hP hD hS hl kk
      rcases Decidable.em (y = 25) with k27 | k27
      · refine lv_tableIn (off := 1118) (tgt := 1151) hx hb dL_law_33 (by rw [k27]; decide) (by rw [k27]; decide) (by rw [k27]; rfl) (by decide) ?_
        exact law_case_25 hops.2.2.2.2.2.2.2.2.2.2.2.2.2.2.2.2.2.2.2.2.2.2.2.2.2.1 hL C0 E hR i hi7 x3 ex3 hP hD hS hl kk
      rcases Decidable.em (y = 26) with k28 | k28
      · refine lv_tableIn (off := 1131) (tgt := 1164) hx hb dL_law_33 (by rw [k28]; decide) (by rw [k28]; decide) (by rw [k28]; rfl) (by decide) ?_
        exact law_case_26 hops.2.2.2.2.2.2.2.2.2.2.2.2.2.2.2.2.2.2.2.2.2.2.2.2.2.2 hL C0 E hR i hi7 x3 ex3 hP hD hS hl kk
      refine lv_tableOut (tgt := 1187) hx hb dL_law_33 (zTab (lo := 0) (hi := 26) (fun v h1 h2 h3 => by have h4 : v = 0 ∨ v = 1 ∨ v = 2 ∨ v = 3 ∨ v = 4 ∨ v = 5 ∨ v = 6 ∨ v = 7 ∨ v = 8 ∨ v = 9 ∨ v = 10 ∨ v = 11 ∨ v = 12 ∨ v = 13 ∨ v = 14 ∨ v = 15 ∨ v = 16 ∨ v = 17 ∨ v = 18 ∨ v = 19 ∨ v = 20 ∨ v = 21 ∨ v = 22 ∨ v = 23 ∨ v = 24 ∨ v = 25 ∨ v = 26 := (by omega); rcases h4 with rfl | rfl | rfl | rfl | rfl | rfl | rfl | rfl | rfl | rfl | rfl | rfl | rfl | rfl | rfl | rfl | rfl | rfl | rfl | rfl | rfl | rfl | rfl | rfl | rfl | rfl | rfl <;> first | exact k2 (Int32.toInt_inj.mp h3) | exact k3 (Int32.toInt_inj.mp h3) | exact k4 (Int32.toInt_inj.mp h3) | exact k5 (Int32.toInt_inj.mp h3) | exact k6 (Int32.toInt_inj.mp h3) | exact k7 (Int32.toInt_inj.mp h3) | exact k8 (Int32.toInt_inj.mp h3) | exact k9 (Int32.toInt_inj.mp h3) | exact k10 (Int32.toInt_inj.mp h3) | exact k11 (Int32.toInt_inj.mp h3) | exact k12 (Int32.toInt_inj.mp h3) | exact k13 (Int32.toInt_inj.mp h3) | exact k14 (Int32.toInt_inj.mp h3) | exact k15 (Int32.toInt_inj.mp h3) | exact k16 (Int32.toInt_inj.mp h3) | exact k17 (Int32.toInt_inj.mp h3) | exact k18 (Int32.toInt_inj.mp h3) | exact k19 (Int32.toInt_inj.mp h3) | exact k20 (Int32.toInt_inj.mp h3) | exact k21 (Int32.toInt_inj.mp h3) | exact k22 (Int32.toInt_inj.mp h3) | exact k23 (Int32.toInt_inj.mp h3) | exact k24 (Int32.toInt_inj.mp h3) | exact k25 (Int32.toInt_inj.mp h3) | exact k26 (Int32.toInt_inj.mp h3) | exact k27 (Int32.toInt_inj.mp h3) | exact k28 (Int32.toInt_inj.mp h3))) (by decide) ?_
      exact kk _ _ _ _ _ _ hR hP hD hS
