/-! longs by integers; what comes, as the class reckons it -/
def lI (z : Int) : Int64 := Int64.ofInt z
theorem lI_add (x y : Int) : lI x + lI y = lI (x + y) := (Int64.ofInt_add x y).symm
theorem lI_sub (x y : Int) : lI x - lI y = lI (x - y) := (Int64.ofInt_sub x y).symm
theorem lI_mul (x y : Int) : lI x * lI y = lI (x * y) := (Int64.ofInt_mul x y).symm
theorem lI_N (n : Nat) : lN n = lI (n : Int) := Int64.ofInt_eq_ofNat.symm
theorem lI_of (x : Int64) : lI x.toInt = x := Int64.ofInt_toInt x
theorem lI_t {z : Int} (h1 : -9223372036854775808 ≤ z) (h2 : z < 9223372036854775808) : (lI z).toInt = z := Int64.toInt_ofInt_of_le (by omega) (by omega)
theorem lI_n {n : Nat} (h : n < 2 ^ 31) : (nI n).toInt64 = lI (n : Int) := by rw [nI_l h, lI_N]
theorem lI_lt {x y : Int} (h1 : -9223372036854775808 ≤ x ∧ x < 9223372036854775808) (h2 : -9223372036854775808 ≤ y ∧ y < 9223372036854775808) : lI x < lI y ↔ x < y := by rw [i64_lt, lI_t h1.1 h1.2, lI_t h2.1 h2.2]
theorem lI_100 {z : Int} (h1 : -9223372036854775808 ≤ z) (h2 : z < 9223372036854775808) : lI z / 100 = lI (z.tdiv 100) := by
  apply Int64.toInt_inj.mp
  have t := t100 z
  have e : -9223372036854775808 ≤ z.tdiv 100 ∧ z.tdiv 100 < 9223372036854775808 := by
    by_cases c : 0 ≤ z
    · rw [t.1 c]; omega
    · rw [t.2 (by omega)]; omega
  rw [Int64.toInt_div_of_ne_right _ _ (by decide), lI_t h1 h2, lI_t e.1 e.2]
  rfl
abbrev vOk (z : Int) : Prop := -1099511627776 ≤ z ∧ z ≤ 1099511627776
/-- the class's measures: value, haste, minutes, spoilt -/
def muX (b : zB) (c : Nat) : zMu := if c = 0 then muC b 0 else if c = 1 then muC b 1 else if c = 2 then (-1, -((100 * b 9 3 : Nat) : Int), 0, 0) else muC b 2
theorem muC_ok {b : zB} (hb : bOk b) (c : Nat) : uOk (muC b c) := by
  obtain ⟨h1, h2, h3⟩ := hb.2.2.2.1
  have e1 : 100 * b 9 3 * b 9 5 ≤ 100 * 99 * 999 := Nat.mul_le_mul (Nat.mul_le_mul_left 100 h1) h3
  unfold muC uOk
  split
  · dsimp only
    generalize 100 * b 9 3 * b 9 5 = z at e1
    omega
  · split
    · dsimp only; omega
    · split
      · dsimp only; omega
      · dsimp only; omega
theorem muX_ok {b : zB} (hb : bOk b) (c : Nat) : uOk (muX b c) := by
  have h1 := hb.2.2.2.1.1
  unfold muX
  split
  · exact muC_ok hb 0
  · split
    · exact muC_ok hb 1
    · split
      · unfold uOk; dsimp only; omega
      · exact muC_ok hb 2
section GX
variable {b : zB} {I : zI} {J : zJ} {o c h : Nat}
theorem x_place {p l : Nat} (w : Nat) (hl : 1 ≤ l) : f_X6_placeOf I J (nI p) (nI l) (nI w) = some (nI (plc p l w)) := by
  unfold f_X6_placeOf plc
  rw [show (8 : Int32) = nI 8 from rfl, nI_mul, nI_add, show (1 : Int32) = nI 1 from rfl, nI_sub (by omega), show (101 : Int32) = nI 101 from rfl, nI_mul, nI_add]
theorem plc_lt (hb : bOk b) {p l w : Nat} (hs : inS b p l w) : plc p l w < 6464 := by
  have h8 := bP hb
  obtain ⟨k1, k2, k3, k4⟩ := hs
  have hd := (hb.2.2.2.2.2.2.1 p k1).2.1
  have h1 : p * 8 + l - 1 ≤ 63 := by omega
  have h2 : (p * 8 + l - 1) * 101 ≤ 63 * 101 := Nat.mul_le_mul_right _ h1
  unfold plc
  omega
theorem x_gainAt (hb : bOk b) {p l w : Nat} (hs : inS b p l w) : f_X6_gainAt I J o (nI p) (nI l) (nI w) = some (J (o + 1) (plc p l w)) := by
  have h := plc_lt hb hs
  unfold f_X6_gainAt
  rw [x_place w hs.2.1, zb1_s, if_neg (nI_pos (by omega)), if_neg (show ¬ (6464 : Int32) ≤ nI (plc p l w) from nI_ge (b := 6464) h (by omega)), zg_t (nI_in h (by omega)), nI_clamp (by omega)]
theorem x_actAt (hb : bOk b) {p l w : Nat} (hs : inS b p l w) : f_X6_actAt I J o (nI p) (nI l) (nI w) = some (I (o + 2) (plc p l w)) := by
  have h := plc_lt hb hs
  unfold f_X6_actAt
  rw [x_place w hs.2.1, zb1_s, if_neg (nI_pos (by omega)), if_neg (show ¬ (6464 : Int32) ≤ nI (plc p l w) from nI_ge (b := 6464) h (by omega)), zg_t (nI_in h (by omega)), nI_clamp (by omega)]
theorem x_gainAtStart (hb : bOk b) (hC : rC b I 4) {p w : Nat} (hp : p < b 9 1) (hw : w ≤ 100) : f_X6_gainAtStart I J o (nI (p + 1)) (nI w) = some (if p + 1 = b 9 1 then 0 else J (o + 1) (plc (p + 1) (b 3 (p + 1)) w)) := by
  have h8 := bP hb
  unfold f_X6_gainAtStart
  rw [x_hasPiece hb hC, zb1_s, zif, nI_toInt (by omega)]
  by_cases c : p + 1 = b 9 1
  · rw [if_neg (by omega), if_pos c]
  · have hp2 : p + 1 < b 9 1 := by omega
    rw [if_pos (by omega), if_neg c, x_stepsOf hb hC hp2, zb1_s, x_gainAt hb (aft_in hb hp2 hw), zb1_s]
theorem x_aft (hb : bOk b) (hC : rC b I 4) {V : Nat → Nat → Nat → Int} {p w : Nat} (hp : p < b 9 1) (hw : w ≤ 100) (hc : p + 1 < b 9 1 → J (o + 1) (plc (p + 1) (b 3 (p + 1)) w) = lI (V (p + 1) (b 3 (p + 1)) w)) : f_X6_gainAtStart I J o (nI (p + 1)) (nI w) = some (lI (aft b V p w)) := by
  rw [x_gainAtStart hb hC hp hw]
  unfold aft
  by_cases c : p + 1 = b 9 1
  · rw [if_pos c, if_pos c]; rfl
  · rw [if_neg c, if_neg c, hc (by omega)]
/-- the plan's measure and steel -/
def gP (b : zB) (c h o : Nat) (I : zI) (J : zJ) : Prop := I o 3 = nI c ∧ I o 4 = nI h ∧ J o 5 = lI (-(muX b c).2.1)
theorem x_ofTime (hb : bOk b) (hC : rC b I 4) (hc : c < 4) (g : gP b c h o I J) {p i : Nat} (hp : p < b 9 1) (hi : i < b 9 0) : f_X6_ofTime I J o (nI p) (nI i) = some (lI (-((muX b c).1 * (mins b p i : Int)))) := by
  have h1 := (mins_le hb hp hi).2
  unfold f_X6_ofTime
  rw [x_minutes hb hC hp hi, zb1_s, x_cost0 hb hC hp hi, zb1_s, g.1, nI_clamp (by omega), zg_t hc]
  unfold f_X4_ofSpending
  rw [zg_t hc, zg_t hc, zb1_s, lI_n (by omega), lI_N]
  have hcc : c = 0 ∨ c = 1 ∨ c = 2 ∨ c = 3 := by omega
  rcases hcc with rfl | rfl | rfl | rfl
  · rw [show zMv 0 3 = lI 0 from rfl, show zMv 0 4 = lI (-1) from rfl, lI_mul, lI_mul, lI_add]
    show some (lI (0 * (mins b p i : Int) + -1 * ((mins b p i * b 9 5 : Nat) : Int))) = some (lI (-((b 9 5 : Int) * (mins b p i : Int))))
    rw [Int.natCast_mul, Int.mul_comm (b 9 5 : Int)]
    congr 2; omega
  · rw [show zMv 1 3 = lI (-1) from rfl, show zMv 1 4 = lI 0 from rfl, lI_mul, lI_mul, lI_add]
    show some (lI (-1 * (mins b p i : Int) + 0 * ((mins b p i * b 9 5 : Nat) : Int))) = some (lI (-((1 : Int) * (mins b p i : Int))))
    congr 2; omega
  · rw [show zMv 2 3 = lI 1 from rfl, show zMv 2 4 = lI 0 from rfl, lI_mul, lI_mul, lI_add]
    show some (lI (1 * (mins b p i : Int) + 0 * ((mins b p i * b 9 5 : Nat) : Int))) = some (lI (-((-1 : Int) * (mins b p i : Int))))
    congr 2; omega
  · rw [show zMv 3 3 = lI 0 from rfl, show zMv 3 4 = lI 0 from rfl, lI_mul, lI_mul, lI_add]
    show some (lI (0 * (mins b p i : Int) + 0 * ((mins b p i * b 9 5 : Nat) : Int))) = some (lI (-((0 : Int) * (mins b p i : Int))))
    congr 2; omega
theorem x_measure (hb : bOk b) (hC : rC b I 4) (hc : c < 4) (ho : 14 ≤ o) : ∃ (I2 : zI) (J2 : zJ), f_X6_measure I J o c (nI h) = some (I2, J2) ∧ gP b c h o I2 J2 ∧ (∀ k, k ≠ o → I2 k = I k) ∧ (∀ j, j ≠ 3 → j ≠ 4 → I2 o j = I o j) ∧ (∀ k, k ≠ o → J2 k = J k) ∧ ∀ j, j ≠ 5 → J2 o j = J o j := by
  obtain ⟨h1, h2, h3⟩ := hb.2.2.2.1
  have e1 : 100 * b 9 3 * b 9 5 ≤ 100 * 99 * 999 := Nat.mul_le_mul (Nat.mul_le_mul_left 100 h1) h3
  have hk := bk_e b I 4 hC
  unfold f_X6_measure
  simp only [zn_e, zg_t hc]
  unfold f_X0_changeCost f_X0_changeHundredths f_X0_cost
  simp only [zb1_s, up_n (show (4 : Nat) ≠ o by omega), hk.2.2.2.1, hk.2.2.2.2.1, hk.2.2.2.2.2.1]
  rw [show (100 : Int32) * nI (b 9 3) = nI (100 * b 9 3) from nI_mul 100 (b 9 3)]
  unfold f_X4_ofSpending
  rw [zg_t hc, zg_t hc, zb1_s]
  refine ⟨_, _, rfl, ⟨?_, ?_, ?_⟩, fun k hk => ?_, fun j h1 h2 => ?_, fun k hk => ?_, fun j hj => ?_⟩
  · rw [up_s, up_n (by omega), up_s, up_s]
  · rw [up_s, up_s]
  · rw [up_s, up_s, lI_n (by omega), lI_n (by omega), lI_n (by omega), show (6000 : Int64) = lI 6000 from rfl, lI_mul, lI_mul, lI_add]
    have hcc : c = 0 ∨ c = 1 ∨ c = 2 ∨ c = 3 := by omega
    rcases hcc with rfl | rfl | rfl | rfl
    · rw [show zMv 0 3 = lI 0 from rfl, show zMv 0 4 = lI (-1) from rfl, lI_mul, lI_mul, lI_add]
      show lI _ = lI (-((100 * b 9 3 * b 9 5 + 6000 * b 9 4 : Nat) : Int))
      rw [Int.natCast_add, Int.natCast_mul (100 * b 9 3)]
      congr 1; omega
    · rw [show zMv 1 3 = lI (-1) from rfl, show zMv 1 4 = lI 0 from rfl, lI_mul, lI_mul, lI_add]
      show lI _ = lI (-((100 * b 9 3 : Nat) : Int))
      congr 1; omega
    · rw [show zMv 2 3 = lI 1 from rfl, show zMv 2 4 = lI 0 from rfl, lI_mul, lI_mul, lI_add]
      show lI _ = lI (-(-((100 * b 9 3 : Nat) : Int)))
      congr 1; omega
    · rw [show zMv 3 3 = lI 0 from rfl, show zMv 3 4 = lI 0 from rfl, lI_mul, lI_mul, lI_add]
      show lI _ = lI (-0)
      congr 1; omega
  · rw [up_n hk, up_n hk]
  · rw [up_s, up_n h2, up_s, up_n h1]
  · rw [up_n hk]
  · rw [up_s, up_n hj]
theorem x_sp (hc : c < 4) : zMv c 2 = lI (muX b c).2.2.2 := by
  have hcc : c = 0 ∨ c = 1 ∨ c = 2 ∨ c = 3 := by omega
  rcases hcc with rfl | rfl | rfl | rfl <;> rfl
theorem x_ofBreaking (hb : bOk b) (hC : rC b I 4) (hc : c < 4) (g : gP b c h o I J) {V : Nat → Nat → Nat → Int} {p : Nat} (hp : p < b 9 1) : ∃ z, f_X6_ofBreaking I J o (nI p) = some z ∧ ((p + 1 < b 9 1 → J (o + 1) (plc (p + 1) (b 3 (p + 1)) 0) = lI (V (p + 1) (b 3 (p + 1)) 0)) → z = lI (brk b (muX b c) V p)) := by
  have hz : (0 : Int32) = nI 0 := rfl
  unfold f_X6_ofBreaking
  rw [g.1, nI_clamp (by omega), zg_t hc, nI_1, hz, x_gainAtStart hb hC hp (by omega), zb1_s]
  refine ⟨_, rfl, fun hv => ?_⟩
  have e := x_aft (o := o) (J := J) hb hC hp (show 0 ≤ 100 by omega) hv
  rw [x_gainAtStart hb hC hp (by omega)] at e
  rw [Option.some.inj e, x_sp (b := b) hc, g.2.2, lI_add, lI_add]
  unfold brk
  congr 1; omega
theorem x_ofEnd (hb : bOk b) (hC : rC b I 4) (hc : c < 4) (g : gP b c h o I J) {p w : Nat} (hp : p < b 9 1) (hw : w ≤ 100) : f_X6_ofEnd I J o (nI p) (nI w) = some (lI (if b 4 p < w then (muX b c).2.2.2 else dnS b (muX b c) p)) := by
  have hq := (hb.2.2.2.2.2.2.1 p hp).2.2
  unfold f_X6_ofEnd
  simp only [x_fineOf hb hC hp, zb1_s, g.1, nI_clamp (show c < 2 ^ 31 by omega), zg_t hc, x_sp (b := b) hc]
  by_cases d : b 4 p < w
  · rw [if_neg (nI_ge d (by omega)), if_pos d]
  · rw [if_pos (nI_le (by omega) (by omega)), if_neg d, x_worthOf hb hC hp, zb1_s]
    unfold f_X4_ofDone dnS
    rw [zg_t hc, zg_t hc, zb1_s, lI_n (by omega)]
    have hcc : c = 0 ∨ c = 1 ∨ c = 2 ∨ c = 3 := by omega
    rcases hcc with rfl | rfl | rfl | rfl
    · rw [show zMv 0 0 = lI 6000 from rfl, show zMv 0 1 = lI 0 from rfl, lI_mul, lI_add, if_pos (show (muX b 0).2.2.1 < 0 by show (-1 : Int) < 0; omega)]
      congr 2
      try omega
    · rw [show zMv 1 0 = lI 0 from rfl, show zMv 1 1 = lI 100000 from rfl, lI_mul, lI_add, if_neg (show ¬ (muX b 1).2.2.1 < 0 by show ¬ (100000 : Int) < 0; omega)]
      show some (lI _) = some (lI 100000)
      congr 2; omega
    · rw [show zMv 2 0 = lI 0 from rfl, show zMv 2 1 = lI 0 from rfl, lI_mul, lI_add, if_neg (show ¬ (muX b 2).2.2.1 < 0 by show ¬ (0 : Int) < 0; omega)]
      show some (lI _) = some (lI 0)
      congr 2; omega
    · rw [show zMv 3 0 = lI 0 from rfl, show zMv 3 1 = lI 0 from rfl, lI_mul, lI_add, if_neg (show ¬ (muX b 3).2.2.1 < 0 by show ¬ (0 : Int) < 0; omega)]
      show some (lI _) = some (lI 0)
      congr 2; omega
/-- the mean of what comes of a pass -/
def mnG (b : zB) (u : zMu) (h : Nat) (V : Nat → Nat → Nat → Int) (p l w a : Nat) : Int := ((100 - (rsk b p w (a / 8) (a % 8 + 1) h : Int)) * whl b u h V p l w a + (rsk b p w (a / 8) (a % 8 + 1) h : Int) * brk b u V p).tdiv 100
theorem gG_p {u : zMu} {V : Nat → Nat → Nat → Int} {p l w a : Nat} (ha : a < 48) : gG b u h V p l w a = mnG b u h V p l w a - u.1 * (mins b p (a / 8) : Int) := by unfold gG mnG; rw [if_neg (by omega), if_neg (by omega)]
theorem whl_b {u : zMu} (hb : bOk b) (hu : uOk u) {V : Nat → Nat → Nat → Int} (hV : ∀ p l w, inS b p l w → vOk (V p l w)) {p l w a : Nat} (hs : inS b p l w) : (-2000000000000 ≤ whl b u h V p l w a ∧ whl b u h V p l w a ≤ 2000000000000) ∧ -2000000000000 ≤ brk b u V p ∧ brk b u V p ≤ 2000000000000 := by
  have hs0 := hs
  obtain ⟨k1, k2, k3, k4⟩ := hs
  have hdn := dn_b hb hu k1
  obtain ⟨u1, u2, u3, u4⟩ := hu
  have ha : ∀ x, x ≤ 100 → vOk (aft b V p x) := by
    intro x hx
    unfold aft
    by_cases c : p + 1 = b 9 1
    · rw [if_pos c]; exact ⟨by omega, by omega⟩
    · rw [if_neg c]; exact hV _ _ _ (aft_in hb (by omega) hx)
  refine ⟨?_, ?_⟩
  · unfold whl
    by_cases c1 : 100 < w + wrs b p (a / 8) (a % 8 + 1) h
    · rw [if_pos c1]; omega
    · rw [if_neg c1]
      by_cases c2 : a % 8 + 1 < l
      · rw [if_pos c2]
        have := hV p (l - (a % 8 + 1)) (w + wrs b p (a / 8) (a % 8 + 1) h) ⟨k1, by omega, by omega, by omega⟩
        omega
      · rw [if_neg c2]
        have := ha (w + wrs b p (a / 8) (a % 8 + 1) h) (by omega)
        by_cases c3 : b 4 p < w
        · rw [if_pos c3]; omega
        · rw [if_neg c3]; omega
  · have := ha 0 (by omega)
    unfold brk
    omega
theorem x_comes (hb : bOk b) (hC : rC b I 4) (hc : c < 4) (hh : h < b 9 2) (g : gP b c h o I J) {V : Nat → Nat → Nat → Int} (hV : ∀ p l w, inS b p l w → vOk (V p l w)) {p l w a : Nat} {z : Int64} (hs : inS b p l w) (ha : a < 48) (hi : a / 8 < b 9 0) (hd : a % 8 < l) (hz : 0 < rsk b p w (a / 8) (a % 8 + 1) h → z = lI (brk b (muX b c) V p)) (h1 : rsk b p w (a / 8) (a % 8 + 1) h < 100 → a % 8 + 1 < l → J (o + 1) (plc p (l - (a % 8 + 1)) (w + wrs b p (a / 8) (a % 8 + 1) h)) = lI (V p (l - (a % 8 + 1)) (w + wrs b p (a / 8) (a % 8 + 1) h))) (h2 : rsk b p w (a / 8) (a % 8 + 1) h < 100 → ¬ a % 8 + 1 < l → p + 1 < b 9 1 → J (o + 1) (plc (p + 1) (b 3 (p + 1)) (w + wrs b p (a / 8) (a % 8 + 1) h)) = lI (V (p + 1) (b 3 (p + 1)) (w + wrs b p (a / 8) (a % 8 + 1) h))) : f_X6_comes I J o (nI p) (nI (l - (a % 8 + 1))) (nI w) (nI (wrs b p (a / 8) (a % 8 + 1) h)) z = some (lI (mnG b (muX b c) h V p l w a)) := by
  have hs0 := hs
  obtain ⟨k1, k2, k3, k4⟩ := hs
  have h8 := bP hb
  have hl8 := (hb.2.2.2.2.2.2.1 p k1).2.1
  have hw8 := wrs_b hb k1 hi hh (show a % 8 + 1 ≤ 8 by omega)
  have hr0 := rsk_le hb (p := p) (i := a / 8) (d := a % 8 + 1) (h := h) k4
  obtain ⟨hB1, hB2⟩ := whl_b (h := h) (a := a) hb (muX_ok hb c) hV hs0
  unfold f_X6_comes
  rw [x_risk hb hC k4 (by omega), zb1_s, show (if 100 < w + wrs b p (a / 8) (a % 8 + 1) h then 100 else b 8 w) = rsk b p w (a / 8) (a % 8 + 1) h from rfl]
  have hrd : rsk b p w (a / 8) (a % 8 + 1) h = if 100 < w + wrs b p (a / 8) (a % 8 + 1) h then 100 else b 8 w := rfl
  by_cases c1 : rsk b p w (a / 8) (a % 8 + 1) h = 100
  · rw [c1, if_pos (show nI 100 = 100 from rfl), hz (by omega)]
    unfold mnG
    rw [c1]
    congr 2
    generalize whl b (muX b c) h V p l w a = x
    generalize brk b (muX b c) V p = y
    rw [show (100 - ((100 : Nat) : Int)) * x + ((100 : Nat) : Int) * y = 100 * y by omega, Int.mul_tdiv_cancel_left _ (by omega)]
  · rw [if_neg (show ¬ nI (rsk b p w (a / 8) (a % 8 + 1) h) = 100 from nI_eqF (c := 100) c1 (by omega) (by omega))]
    have hw : ¬ 100 < w + wrs b p (a / 8) (a % 8 + 1) h := fun q => c1 (by rw [hrd, if_pos q])
    have e1 : (if nI (l - (a % 8 + 1)) ≤ 0 then zb1 (f_X6_ofEnd I J o (nI p) (nI w)) (fun u7 => zb1 (f_X6_gainAtStart I J o (nI p + 1) (nI w + nI (wrs b p (a / 8) (a % 8 + 1) h))) (fun u9 => some ((u7 + u9)))) else zb1 (f_X6_gainAt I J o (nI p) (nI (l - (a % 8 + 1))) (nI w + nI (wrs b p (a / 8) (a % 8 + 1) h))) (fun u11 => some (u11))) = some (lI (whl b (muX b c) h V p l w a)) := by
      unfold whl
      rw [if_neg hw, nI_add, nI_1]
      by_cases c2 : a % 8 + 1 < l
      · rw [if_pos c2, if_neg (nI_nle (by omega) (by omega)), x_gainAt hb ⟨k1, by omega, by omega, by omega⟩, zb1_s, h1 (by omega) c2]
      · rw [if_neg c2, show l - (a % 8 + 1) = 0 by omega, if_pos (show nI 0 ≤ 0 by decide), x_ofEnd hb hC hc g k1 k4, zb1_s, x_aft hb hC k1 (by omega) (fun q => h2 (by omega) c2 q), zb1_s, lI_add]
    rw [e1, zb1_s]
    unfold mnG
    by_cases c3 : rsk b p w (a / 8) (a % 8 + 1) h = 0
    · rw [c3, if_pos (show nI 0 = 0 from rfl)]
      congr 2
      generalize whl b (muX b c) h V p l w a = x
      generalize brk b (muX b c) V p = y
      rw [show (100 - ((0 : Nat) : Int)) * x + ((0 : Nat) : Int) * y = 100 * x by omega, Int.mul_tdiv_cancel_left _ (by omega)]
    · rw [if_neg (nI_ne0 (by omega) (by omega)), hz (by omega), show (100 : Int32) = nI 100 from rfl, nI_sub (by omega), lI_n (by omega), lI_n (by omega), lI_mul, lI_mul, lI_add]
      have hm := mean_z (r := (rsk b p w (a / 8) (a % 8 + 1) h : Int)) (by omega) (by omega) hB1 hB2
      rw [Int.ofNat_sub (by omega)]
      rw [lI_100]
      · rfl
      · show _ ≤ (100 - _) * _ + _
        omega
      · show (100 - _) * _ + _ < _
        omega
/-- what may come behind what is done in a state -/
def sucS (b : zB) (h p l w a p' l' w' : Nat) : Prop := (a = 48 ∧ p' = p ∧ l' = l ∧ w' = 0) ∨ (a = 49 ∧ p' = p + 1 ∧ p' < b 9 1 ∧ l' = b 3 p' ∧ w' = w) ∨ (a < 48 ∧ ((0 < rsk b p w (a / 8) (a % 8 + 1) h ∧ p' = p + 1 ∧ p' < b 9 1 ∧ l' = b 3 p' ∧ w' = 0) ∨ (rsk b p w (a / 8) (a % 8 + 1) h < 100 ∧ a % 8 + 1 < l ∧ p' = p ∧ l' = l - (a % 8 + 1) ∧ w' = w + wrs b p (a / 8) (a % 8 + 1) h) ∨ (rsk b p w (a / 8) (a % 8 + 1) h < 100 ∧ ¬ a % 8 + 1 < l ∧ p' = p + 1 ∧ p' < b 9 1 ∧ l' = b 3 p' ∧ w' = w + wrs b p (a / 8) (a % 8 + 1) h)))
theorem x_depthOf (a : Nat) (h : a < 2 ^ 31) : f_X11_depthOf I J (nI a) = some (nI (a % 8 + 1)) := by
  unfold f_X11_depthOf
  rw [show (8 : Int32) = nI 8 from rfl, nI_mod h (by omega), nI_1]
theorem x_speedOf (a : Nat) (h : a < 2 ^ 31) : f_X11_speedOf I J (nI a) = some (nI (a / 8)) := by
  unfold f_X11_speedOf
  rw [show (8 : Int32) = nI 8 from rfl, nI_div h (by omega)]
theorem x_gainOf (hb : bOk b) (hC : rC b I 4) (hc : c < 4) (hh : h < b 9 2) (g : gP b c h o I J) {V : Nat → Nat → Nat → Int} (hV : ∀ p l w, inS b p l w → vOk (V p l w)) {p l w a : Nat} (hs : inS b p l w) (ha : canS b l w a) (hcell : ∀ p' l' w', sucS b h p l w a p' l' w' → J (o + 1) (plc p' l' w') = lI (V p' l' w')) : f_X6_gainOf I J o (nI a) (nI p) (nI l) (nI w) = some (lI (gG b (muX b c) h V p l w a)) := by
  have hs0 := hs
  obtain ⟨k1, k2, k3, k4⟩ := hs
  have h8 := bP hb
  have hl8 := (hb.2.2.2.2.2.2.1 p k1).2.1
  unfold f_X6_gainOf
  have ha50 := canS_lt ha
  rcases ha with q | q | q
  · subst q
    rw [if_neg (show ¬ nI 49 = 48 by decide), if_pos (show nI 49 = 49 from rfl), g.1, nI_clamp (by omega), zg_t hc, nI_1, x_aft hb hC k1 k4 (fun z => hcell _ _ _ (Or.inr (Or.inl ⟨rfl, rfl, z, rfl, rfl⟩))), zb1_s, x_sp (b := b) hc, lI_add]
    unfold gG
    rw [if_neg (by omega), if_pos rfl]
  · obtain ⟨q, -⟩ := q
    subst q
    rw [if_pos (show nI 48 = 48 from rfl), show (0 : Int32) = nI 0 from rfl, x_gainAt hb ⟨k1, k2, k3, by omega⟩, zb1_s, hcell p l 0 (Or.inl ⟨rfl, rfl, rfl, rfl⟩), g.2.2, lI_add]
    unfold gG
    rw [if_pos rfl]
    congr 2
  · obtain ⟨q1, q2, q3, q4⟩ := q
    rw [if_neg (show ¬ nI a = 48 from nI_eqF (c := 48) (by omega) (by omega) (by omega)), if_neg (show ¬ nI a = 49 from nI_eqF (c := 49) (by omega) (by omega) (by omega))]
    simp only [x_depthOf a (show a < 2 ^ 31 by omega), x_speedOf a (show a < 2 ^ 31 by omega), zb1_s, zn_e]
    rw [nI_sub (by omega), g.2.1, x_wears hb hC k1 q2 hh (by omega), zb1_s]
    obtain ⟨z, e1, e2⟩ := x_ofBreaking (V := V) hb hC hc g k1
    rw [e1, zb1_s]
    rw [x_comes hb hC hc hh g hV hs0 q1 q2 q3 (fun r => e2 (fun z => hcell _ _ _ (Or.inr (Or.inr ⟨q1, Or.inl ⟨r, rfl, z, rfl, rfl⟩⟩)))) (fun r d => hcell _ _ _ (Or.inr (Or.inr ⟨q1, Or.inr (Or.inl ⟨r, d, rfl, rfl, rfl⟩)⟩))) (fun r d z => hcell _ _ _ (Or.inr (Or.inr ⟨q1, Or.inr (Or.inr ⟨r, d, rfl, z, rfl, rfl⟩)⟩))), zb1_s, x_ofTime hb hC hc g k1 q2, zb1_s, lI_add, gG_p q1]
    congr 2
end GX
