/-! runs by draws -/
theorem lN_divB {a k : Nat} (ha : a < 2 ^ 62) (hk : k < 2 ^ 31) : lN a / lN k = lN (a / k) := by
  apply Int64.toInt_inj.mp
  have h1 : a / k ≤ a := Nat.div_le_self a k
  have e1 : (lN a).toInt = a := Int64.toInt_ofNat_of_lt (by omega)
  have e2 : (lN (a / k)).toInt = (a / k : Nat) := Int64.toInt_ofNat_of_lt (by omega)
  rw [Int64.toInt_div, e1, e2, lN_toInt hk, ← Int.ofNat_tdiv]
  generalize a / k = q at h1 ⊢
  rw [Int.bmod_eq_of_le (by omega) (by omega)]
theorem lN_modB {a k : Nat} (ha : a < 2 ^ 62) (hk : k < 2 ^ 31) : lN a - lN a / lN k * lN k = lN (a % k) := by
  have h2 : a / k * k + a % k = a := by have h := Nat.div_add_mod a k; rw [Nat.mul_comm] at h; exact h
  rw [lN_divB ha hk, lN_mul2, lN_sub (by omega)]
  congr 1; omega
def drw (z t : Nat) : Nat := (7919 * z + 6151 * t + 1) * (7919 * z + 6151 * t + 1) % 65521 % 100
theorem drw_e {z t : Nat} (hz : z ≤ 9999) (ht : t ≤ 1000) : (lN (7919 * z + 6151 * t + 1) * lN (7919 * z + 6151 * t + 1) - lN (7919 * z + 6151 * t + 1) * lN (7919 * z + 6151 * t + 1) / 65521 * 65521) - (lN (7919 * z + 6151 * t + 1) * lN (7919 * z + 6151 * t + 1) - lN (7919 * z + 6151 * t + 1) * lN (7919 * z + 6151 * t + 1) / 65521 * 65521) / 100 * 100 = lN (drw z t) := by
  have h1 : 7919 * z + 6151 * t + 1 ≤ 100000000 := by omega
  unfold drw
  generalize 7919 * z + 6151 * t + 1 = x at h1
  have h2 : x * x ≤ 100000000 * 100000000 := Nat.mul_le_mul h1 h1
  have h3 : x * x % 65521 < 65521 := Nat.mod_lt _ (by omega)
  rw [lN_mul2, show (65521 : Int64) = lN 65521 from rfl, lN_modB (by omega) (by omega), show (100 : Int64) = lN 100 from rfl, lN_modB (by omega) (by omega)]
theorem drw_lt (z t : Nat) : drw z t < 100 := Nat.mod_lt _ (by omega)
abbrev zT : Type := Nat × Nat × Nat × Nat × Nat × Nat × Nat × Nat
/-- one act of a run: piece, left, wear, passes, minutes, done, spoilt, changes -/
def stp (b : zB) (h z a : Nat) (v : zT) : zT := if a = 48 then (v.1, v.2.1, 0, v.2.2.2.1, v.2.2.2.2.1 + 100 * b 9 3, v.2.2.2.2.2.1, v.2.2.2.2.2.2.1, v.2.2.2.2.2.2.2 + 1) else if a = 49 then (v.1 + 1, b 3 (v.1 + 1), v.2.2.1, v.2.2.2.1, v.2.2.2.2.1, v.2.2.2.2.2.1, v.2.2.2.2.2.2.1 + 1, v.2.2.2.2.2.2.2) else if drw z v.2.2.2.1 < rsk b v.1 v.2.2.1 (a / 8) (a % 8 + 1) h then (v.1 + 1, b 3 (v.1 + 1), 0, v.2.2.2.1 + 1, v.2.2.2.2.1 + mins b v.1 (a / 8) + 100 * b 9 3, v.2.2.2.2.2.1, v.2.2.2.2.2.2.1 + 1, v.2.2.2.2.2.2.2 + 1) else if a % 8 + 1 = v.2.1 then (if b 4 v.1 < v.2.2.1 then (v.1 + 1, b 3 (v.1 + 1), v.2.2.1 + wrs b v.1 (a / 8) (a % 8 + 1) h, v.2.2.2.1 + 1, v.2.2.2.2.1 + mins b v.1 (a / 8), v.2.2.2.2.2.1, v.2.2.2.2.2.2.1 + 1, v.2.2.2.2.2.2.2) else (v.1 + 1, b 3 (v.1 + 1), v.2.2.1 + wrs b v.1 (a / 8) (a % 8 + 1) h, v.2.2.2.1 + 1, v.2.2.2.2.1 + mins b v.1 (a / 8), v.2.2.2.2.2.1 + 1, v.2.2.2.2.2.2.1, v.2.2.2.2.2.2.2)) else (v.1, v.2.1 - (a % 8 + 1), v.2.2.1 + wrs b v.1 (a / 8) (a % 8 + 1) h, v.2.2.2.1 + 1, v.2.2.2.2.1 + mins b v.1 (a / 8), v.2.2.2.2.2.1, v.2.2.2.2.2.2.1, v.2.2.2.2.2.2.2)
/-- the class's run -/
def cR (b : zB) (I : zI) (v : zT) : Prop := (I 38 2 = nI v.1 ∧ (v.1 < b 9 1 → I 38 3 = nI v.2.1) ∧ I 38 4 = nI v.2.2.1) ∧ I 38 5 = nI v.2.2.2.1 ∧ I 38 6 = nI v.2.2.2.2.1 ∧ I 38 7 = nI v.2.2.2.2.2.1 ∧ I 38 8 = nI v.2.2.2.2.2.2.1 ∧ I 38 9 = nI v.2.2.2.2.2.2.2
/-- the reference's run -/
def mR (I : zI) (v : zT) : Prop := I 24 0 = nI v.2.2.2.2.1 ∧ I 24 1 = nI v.2.2.2.2.2.2.2 ∧ I 24 2 = nI v.2.2.2.2.2.1 ∧ I 24 3 = nI v.2.2.2.2.2.2.1
abbrev oT (I I2 : zI) : Prop := ∀ k, k ≠ 38 → I2 k = I k
section RU
variable {b : zB} {J : zJ}
theorem x_stepsAny (hb : bOk b) {I : zI} (hC : rC b I 4) {p : Nat} (hp : p ≤ 8) : ∃ x, f_X0_stepsOf I J 4 (nI p) = some x ∧ (p < b 9 1 → x = nI (b 3 p)) := by
  by_cases c : p < b 9 1
  · exact ⟨_, x_stepsOf hb hC c, fun _ => rfl⟩
  · unfold f_X0_stepsOf
    by_cases d : p < 8
    · rw [e_at d (by omega), zb1_s]
      exact ⟨_, rfl, fun z => absurd z c⟩
    · unfold f_X11_at
      rw [if_neg (nI_pos (by omega)), if_pos (show nI 8 ≤ nI p from nI_le (by omega) (by omega)), zb1_s]
      exact ⟨_, rfl, fun z => absurd z c⟩
theorem x_next (hb : bOk b) {I : zI} (hC : rC b I 4) {p : Nat} (hp : p < b 9 1) (h : I 38 2 = nI p) : ∃ I2 : zI, f_X9_next I J = some I2 ∧ oT I I2 ∧ I2 38 2 = nI (p + 1) ∧ (p + 1 < b 9 1 → I2 38 3 = nI (b 3 (p + 1))) ∧ ∀ j, j ≠ 2 → j ≠ 3 → I2 38 j = I 38 j := by
  have h8 := bP hb
  unfold f_X9_next
  rw [zn_e, up_s, up_s, h, nI_1]
  have hC1 : rC b (va_up I 38 (va_up (I 38) 2 (nI (p + 1)))) 4 := hC.eq (fun k hk => up_n (by omega))
  obtain ⟨x, e1, e2⟩ := x_stepsAny (J := J) hb hC1 (show p + 1 ≤ 8 by omega)
  rw [e1, zb1_s, zn_e]
  refine ⟨_, rfl, fun k hk => ?_, ?_, fun z => ?_, fun j h1 h2 => ?_⟩
  · rw [up_n hk, up_n hk]
  · rw [up_s, up_n (by omega), up_s]
  · rw [up_s, up_s]; exact e2 z
  · rw [up_s, up_n h2, up_n h1]
theorem x_spoil (hb : bOk b) {I : zI} (hC : rC b I 4) {p s : Nat} (hp : p < b 9 1) (h : I 38 2 = nI p) (h2 : I 38 8 = nI s) : ∃ I2 : zI, f_X9_spoil I J = some I2 ∧ oT I I2 ∧ I2 38 2 = nI (p + 1) ∧ (p + 1 < b 9 1 → I2 38 3 = nI (b 3 (p + 1))) ∧ I2 38 8 = nI (s + 1) ∧ ∀ j, j ≠ 2 → j ≠ 3 → j ≠ 8 → I2 38 j = I 38 j := by
  unfold f_X9_spoil
  rw [h2, nI_1, zn_e]
  have hC1 : rC b (va_up I 38 (va_up (I 38) 8 (nI (s + 1)))) 4 := hC.eq (fun k hk => up_n (by omega))
  obtain ⟨I2, e1, e2, e3, e4, e5⟩ := x_next (J := J) hb hC1 hp (by rw [up_s, up_n (by omega)]; exact h)
  rw [e1, zb1_s]
  refine ⟨I2, rfl, fun k hk => by rw [e2 k hk, up_n hk], e3, e4, ?_, fun j h1 h2 h3 => ?_⟩
  · rw [e5 8 (by omega) (by omega), up_s, up_s]
  · rw [e5 j h1 h2, up_s, up_n h3]
theorem x_change (hb : bOk b) {I : zI} (hC : rC b I 4) {m c : Nat} (h1 : I 38 9 = nI c) (h2 : I 38 6 = nI m) : ∃ I2 : zI, f_X9_change I J = some I2 ∧ oT I I2 ∧ I2 38 4 = nI 0 ∧ I2 38 9 = nI (c + 1) ∧ I2 38 6 = nI (m + 100 * b 9 3) ∧ ∀ j, j ≠ 4 → j ≠ 9 → j ≠ 6 → I2 38 j = I 38 j := by
  unfold f_X9_change f_X0_changeHundredths
  rw [zn_e, up_s, up_n (show 9 ≠ 4 by decide), h1, nI_1, zn_e, zb1_s, zn_e]
  refine ⟨_, rfl, fun k hk => ?_, ?_, ?_, ?_, fun j h1 h2 h3 => ?_⟩
  · rw [up_n hk, up_n hk, up_n hk]
  · rw [up_s, up_n (by omega), up_s, up_n (by omega), up_s]; rfl
  · rw [up_s, up_n (by omega), up_s, up_s]
  · rw [up_s, up_s, up_s, up_n (show 6 ≠ 9 by decide), up_n (show 6 ≠ 4 by decide), h2, up_n (show 4 ≠ 38 by decide), up_n (show 4 ≠ 38 by decide), (bk_e b I 4 hC).2.2.2.1, show (100 : Int32) = nI 100 from rfl, nI_mul, nI_add]
  · rw [up_s, up_n h3, up_s, up_n h2, up_n h1]
theorem x_drw {I : zI} {z t : Nat} (hz : z ≤ 9999) (ht : t ≤ 1000) : f_X9_draw I J (nI z) (nI t) = some (lN (drw z t)) := by
  unfold f_X9_draw
  rw [nI_l (by omega), nI_l (by omega), show (7919 : Int64) = lN 7919 from rfl, show (6151 : Int64) = lN 6151 from rfl, lN_mul2, lN_mul2, lN_add2, lN_1, zn_e, drw_e hz ht]
theorem m_drw {I : zI} {z t : Nat} (hz : z ≤ 9999) (ht : t ≤ 1000) : f_X12_draw I J (nI z) (nI t) = some (nI (drw z t)) := by
  unfold f_X12_draw
  rw [nI_l (by omega), nI_l (by omega), show (7919 : Int64) = lN 7919 from rfl, show (6151 : Int64) = lN 6151 from rfl, lN_mul2, lN_mul2, lN_add2, lN_1, zn_e, drw_e hz ht, lN_i]
theorem x_cut (hb : bOk b) {I : zI} (hC : rC b I 4) {h z a : Nat} {v : zT} (hh : h < b 9 2) (hz : z ≤ 9999) (r : cR b I v) (hs : inS b v.1 v.2.1 v.2.2.1) (q1 : a < 48) (q2 : a / 8 < b 9 0) (q3 : a % 8 < v.2.1) (ht : v.2.2.2.1 ≤ 1000) : ∃ I2 : zI, f_X9_cut I J (nI a) (nI h) (nI z) = some I2 ∧ oT I I2 ∧ cR b I2 (stp b h z a v) := by
  obtain ⟨p, l, w, t, m, d, s, c⟩ := v
  obtain ⟨⟨r1, r2, r3⟩, r4, r5, r6, r7, r8⟩ := r
  obtain ⟨k1, k2, k3, k4⟩ := hs
  dsimp only at r1 r2 r3 r4 r5 r6 r7 r8 k1 k2 k3 k4 q3 ht
  have r2 := r2 k1
  have h8 := bP hb
  have hd3 := (hb.2.2.2.2.2.2.1 p k1).2.1
  have hf := (hb.2.2.2.2.2.2.1 p k1).2.2.1
  have hw8 := wrs_b hb k1 q2 hh (show a % 8 + 1 ≤ 8 by omega)
  have hr0 := rsk_le hb (p := p) (i := a / 8) (d := a % 8 + 1) (h := h) k4
  have hdl := drw_lt z t
  unfold f_X9_cut
  rw [e_depthOf (by omega), zb1_s, e_speedOf (by omega), zb1_s, r1, x_wears hb hC k1 q2 hh (by omega), zb1_s, r4, x_drw hz ht, zb1_s, r3, x_risk hb hC k4 (by omega), zb1_s]
  rw [show (if 100 < w + wrs b p (a / 8) (a % 8 + 1) h then 100 else b 8 w) = rsk b p w (a / 8) (a % 8 + 1) h from rfl, nI_l (by omega)]
  have e1 : (if 0 ≤ lg_cmp (lN (drw z t)) (lN (rsk b p w (a / 8) (a % 8 + 1) h)) then some (0 : Int32) else some 1) = some (zi (drw z t < rsk b p w (a / 8) (a % 8 + 1) h)) := by
    have hc1 : lg_cmp (lN (drw z t)) (lN (rsk b p w (a / 8) (a % 8 + 1) h)) < 0 ↔ drw z t < rsk b p w (a / 8) (a % 8 + 1) h := by rw [cmp_lt, lN_lt (by omega) (by omega)]
    by_cases c1 : drw z t < rsk b p w (a / 8) (a % 8 + 1) h
    · rw [if_neg (fun y => (Int32.not_lt.mpr y) (hc1.2 c1)), zi, if_pos c1]
    · rw [if_pos (Int32.not_lt.mp (fun y => c1 (hc1.1 y))), zi, if_neg c1]
  rw [e1, zb1_s, zb1_s, x_minutes hb hC k1 q2, zb1_s, zn_e, zn_e, r5, nI_add, zif]
  generalize hI20 : va_up (va_up I 38 (va_up (I 38) 6 (nI (m + mins b p (a / 8))))) 38 (va_up ((va_up I 38 (va_up (I 38) 6 (nI (m + mins b p (a / 8))))) 38) 5 (((va_up I 38 (va_up (I 38) 6 (nI (m + mins b p (a / 8))))) 38 5) + 1)) = I20
  have o20 : oT I I20 := fun k hk => by rw [← hI20, up_n hk, up_n hk]
  have t20 : I20 38 5 = nI (t + 1) := by rw [← hI20, up_s, up_s, up_s, up_n (by omega), r4, nI_1]
  have m20 : I20 38 6 = nI (m + mins b p (a / 8)) := by rw [← hI20, up_s, up_n (by omega), up_s, up_s]
  have x20 : ∀ j, j ≠ 5 → j ≠ 6 → I20 38 j = I 38 j := fun j h1 h2 => by rw [← hI20, up_s, up_n h1, up_s, up_n h2]
  have hC20 : rC b I20 4 := hC.eq (fun k hk => o20 _ (by omega))
  have hst : ∀ v2, stp b h z a (p, l, w, t, m, d, s, c) = v2 → cR b (I20) (stp b h z a (p, l, w, t, m, d, s, c)) = cR b I20 v2 := fun v2 e => by rw [e]
  by_cases c1 : drw z t < rsk b p w (a / 8) (a % 8 + 1) h
  · rw [if_pos c1]
    obtain ⟨I42, s1, s2, s3, s4, s5, s6⟩ := x_change (J := J) hb hC20 (by rw [x20 9 (by omega) (by omega)]; exact r8) m20
    have hC42 : rC b I42 4 := hC20.eq (fun k hk => s2 _ (by omega))
    obtain ⟨I44, u1, u2, u3, u4, u5, u6⟩ := x_spoil (J := J) hb hC42 k1 (by rw [s6 2 (by omega) (by omega) (by omega), x20 2 (by omega) (by omega)]; exact r1) (by rw [s6 8 (by omega) (by omega) (by omega), x20 8 (by omega) (by omega)]; exact r7)
    rw [s1, zb1_s, u1, zb1_s]
    have e : stp b h z a (p, l, w, t, m, d, s, c) = (p + 1, b 3 (p + 1), 0, t + 1, m + mins b p (a / 8) + 100 * b 9 3, d, s + 1, c + 1) := by
      unfold stp; rw [if_neg (by omega), if_neg (by omega), if_pos c1]
    refine ⟨I44, rfl, fun k hk => by rw [u2 k hk, s2 k hk, o20 k hk], ?_⟩
    rw [e]
    refine ⟨⟨u3, u4, ?_⟩, ?_, ?_, ?_, u5, ?_⟩
    · rw [u6 4 (by omega) (by omega) (by omega)]; exact s3
    · rw [u6 5 (by omega) (by omega) (by omega), s6 5 (by omega) (by omega) (by omega)]; exact t20
    · rw [u6 6 (by omega) (by omega) (by omega)]; exact s5
    · rw [u6 7 (by omega) (by omega) (by omega), s6 7 (by omega) (by omega) (by omega), x20 7 (by omega) (by omega)]; exact r6
    · rw [u6 9 (by omega) (by omega) (by omega)]; exact s4
  · rw [if_neg c1, x20 2 (by omega) (by omega), r1, x_fineOf hb hC20 k1, zb1_s, x20 4 (by omega) (by omega), r3]
    have e2 : (if nI w ≤ nI (b 4 p) then some (0 : Int32) else some 1) = some (zi (b 4 p < w)) := by
      by_cases c2 : b 4 p < w
      · rw [if_neg (nI_ge c2 (by omega)), zi, if_pos c2]
      · rw [if_pos (nI_le (by omega) (by omega)), zi, if_neg c2]
    rw [e2, zb1_s, nI_add, zn_e, zn_e]
    generalize hI28 : va_up I20 38 (va_up (I20 38) 4 (nI (w + wrs b p (a / 8) (a % 8 + 1) h))) = I28
    generalize hI29 : va_up I28 38 (va_up (I28 38) 3 (I28 38 3 - nI (a % 8 + 1))) = I29
    have e28 : I28 38 3 = nI l := by rw [← hI28, up_s, up_n (by omega), x20 3 (by omega) (by omega), r2]
    have o29 : oT I I29 := fun k hk => by rw [← hI29, up_n hk, ← hI28, up_n hk, o20 k hk]
    have l29 : I29 38 3 = nI (l - (a % 8 + 1)) := by rw [← hI29, up_s, up_s, e28, nI_sub (by omega)]
    have w29 : I29 38 4 = nI (w + wrs b p (a / 8) (a % 8 + 1) h) := by rw [← hI29, up_s, up_n (by omega), ← hI28, up_s, up_s]
    have x29 : ∀ j, j ≠ 3 → j ≠ 4 → I29 38 j = I20 38 j := fun j h1 h2 => by rw [← hI29, up_s, up_n h1, ← hI28, up_s, up_n h2]
    have hC29 : rC b I29 4 := hC.eq (fun k hk => o29 _ (by omega))
    rw [l29, zif]
    by_cases c2 : a % 8 + 1 = l
    · have c2' : nI (l - (a % 8 + 1)) = 0 := by rw [show l - (a % 8 + 1) = 0 by omega]; rfl
      rw [if_pos c2', if_pos c2']
      by_cases c3 : b 4 p < w
      · rw [if_pos c3]
        obtain ⟨I40, u1, u2, u3, u4, u5, u6⟩ := x_spoil (J := J) hb hC29 k1 (by rw [x29 2 (by omega) (by omega), x20 2 (by omega) (by omega)]; exact r1) (by rw [x29 8 (by omega) (by omega), x20 8 (by omega) (by omega)]; exact r7)
        have e : stp b h z a (p, l, w, t, m, d, s, c) = (p + 1, b 3 (p + 1), w + wrs b p (a / 8) (a % 8 + 1) h, t + 1, m + mins b p (a / 8), d, s + 1, c) := by
          unfold stp; rw [if_neg (by omega), if_neg (by omega), if_neg c1, if_pos c2, if_pos c3]
        rw [u1, zb1_s, e]
        refine ⟨I40, rfl, fun k hk => by rw [u2 k hk, o29 k hk], ⟨u3, u4, ?_⟩, ?_, ?_, ?_, u5, ?_⟩
        · rw [u6 4 (by omega) (by omega) (by omega)]; exact w29
        · rw [u6 5 (by omega) (by omega) (by omega), x29 5 (by omega) (by omega)]; exact t20
        · rw [u6 6 (by omega) (by omega) (by omega), x29 6 (by omega) (by omega)]; exact m20
        · rw [u6 7 (by omega) (by omega) (by omega), x29 7 (by omega) (by omega), x20 7 (by omega) (by omega)]; exact r6
        · rw [u6 9 (by omega) (by omega) (by omega), x29 9 (by omega) (by omega), x20 9 (by omega) (by omega)]; exact r8
      · rw [if_neg c3, x29 7 (by omega) (by omega), x20 7 (by omega) (by omega), r6, nI_1, zn_e]
        have hC37 : rC b (va_up I29 38 (va_up (I29 38) 7 (nI (d + 1)))) 4 := hC29.eq (fun k hk => up_n (by omega))
        obtain ⟨I38, u1, u2, u3, u4, u5⟩ := x_next (J := J) hb hC37 k1 (by rw [up_s, up_n (by omega), x29 2 (by omega) (by omega), x20 2 (by omega) (by omega)]; exact r1)
        have e : stp b h z a (p, l, w, t, m, d, s, c) = (p + 1, b 3 (p + 1), w + wrs b p (a / 8) (a % 8 + 1) h, t + 1, m + mins b p (a / 8), d + 1, s, c) := by
          unfold stp; rw [if_neg (by omega), if_neg (by omega), if_neg c1, if_pos c2, if_neg c3]
        rw [u1, zb1_s, e]
        refine ⟨I38, rfl, fun k hk => by rw [u2 k hk, up_n hk, o29 k hk], ⟨u3, u4, ?_⟩, ?_, ?_, ?_, ?_, ?_⟩
        · rw [u5 4 (by omega) (by omega), up_s, up_n (by omega)]; exact w29
        · rw [u5 5 (by omega) (by omega), up_s, up_n (by omega), x29 5 (by omega) (by omega)]; exact t20
        · rw [u5 6 (by omega) (by omega), up_s, up_n (by omega), x29 6 (by omega) (by omega)]; exact m20
        · rw [u5 7 (by omega) (by omega), up_s, up_s]
        · rw [u5 8 (by omega) (by omega), up_s, up_n (by omega), x29 8 (by omega) (by omega), x20 8 (by omega) (by omega)]; exact r7
        · rw [u5 9 (by omega) (by omega), up_s, up_n (by omega), x29 9 (by omega) (by omega), x20 9 (by omega) (by omega)]; exact r8
    · have c2' : ¬ nI (l - (a % 8 + 1)) = 0 := nI_ne0 (by omega) (by omega)
      rw [if_neg c2', if_neg c2']
      have e : stp b h z a (p, l, w, t, m, d, s, c) = (p, l - (a % 8 + 1), w + wrs b p (a / 8) (a % 8 + 1) h, t + 1, m + mins b p (a / 8), d, s, c) := by
        unfold stp; rw [if_neg (by omega), if_neg (by omega), if_neg c1, if_neg c2]
      rw [e]
      refine ⟨I29, rfl, o29, ⟨?_, fun _ => l29, w29⟩, ?_, ?_, ?_, ?_, ?_⟩
      · rw [x29 2 (by omega) (by omega), x20 2 (by omega) (by omega)]; exact r1
      · rw [x29 5 (by omega) (by omega)]; exact t20
      · rw [x29 6 (by omega) (by omega)]; exact m20
      · rw [x29 7 (by omega) (by omega), x20 7 (by omega) (by omega)]; exact r6
      · rw [x29 8 (by omega) (by omega), x20 8 (by omega) (by omega)]; exact r7
      · rw [x29 9 (by omega) (by omega), x20 9 (by omega) (by omega)]; exact r8
end RU
