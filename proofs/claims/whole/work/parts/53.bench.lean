/-! THE BENCH: the small questions, in the class and in the reference -/
theorem nI_mul (a b : Nat) : nI a * nI b = nI (a * b) := (Int32.ofNat_mul a b).symm
theorem nI_sub {a b : Nat} (h : b ≤ a) : nI a - nI b = nI (a - b) := by
  have e : nI (a - b) + nI b = nI a := by rw [nI_add, Nat.sub_add_cancel h]
  rw [← e, Int32.add_sub_cancel]
theorem nI_div {a b : Nat} (ha : a < 2 ^ 31) (hb : b < 2 ^ 31) : nI a / nI b = nI (a / b) := by
  apply Int32.toInt_inj.mp
  have h1 : a / b ≤ a := Nat.div_le_self a b
  rw [Int32.toInt_div, nI_toInt ha, nI_toInt hb, nI_toInt (by omega), ← Int.ofNat_tdiv]
  generalize a / b = q at h1 ⊢
  rw [Int.bmod_eq_of_le (by omega) (by omega)]
theorem lN_div {a b : Nat} (ha : a < 2 ^ 31) (hb : b < 2 ^ 31) : lN a / lN b = lN (a / b) := by
  apply Int64.toInt_inj.mp
  have h1 : a / b ≤ a := Nat.div_le_self a b
  rw [Int64.toInt_div, lN_toInt ha, lN_toInt hb, lN_toInt (by omega), ← Int.ofNat_tdiv]
  generalize a / b = q at h1 ⊢
  rw [Int.bmod_eq_of_le (by omega) (by omega)]
theorem nI_mod {a b : Nat} (ha : a < 2 ^ 31) (hb : b < 2 ^ 31) : nI a - nI a / nI b * nI b = nI (a % b) := by
  have h2 : a / b * b + a % b = a := by have h := Nat.div_add_mod a b; rw [Nat.mul_comm] at h; exact h
  rw [nI_div ha hb, nI_mul, nI_sub (by omega)]
  congr 1; omega
theorem nI_of3 {x : Int32} {n : Nat} (h0 : 0 ≤ x.toInt) (h1 : x.toInt < n) : ∃ k, k < n ∧ x = nI k := by
  obtain ⟨k, h, rfl⟩ := nI_of (x := x) (fun q => by have := i32_lt.mp q; simp at this; omega)
  rw [nI_toInt h] at h1
  exact ⟨k, by omega, rfl⟩
theorem nI_m1 {n : Nat} (h : n < 2 ^ 31) : (nI n - 1).toInt = (n : Int) - 1 := by
  rw [Int32.toInt_sub, nI_toInt h, show (1 : Int32).toInt = 1 from rfl, Int.bmod_eq_of_le (by omega) (by omega)]
theorem e_at {I : zI} {J : zJ} {q n k : Nat} (h : k < n) (hn : n < 2 ^ 31) : f_X11_at I J q n (nI k) = some (I q k) := by
  unfold f_X11_at
  rw [if_neg (nI_pos (by omega)), if_neg (nI_ge h hn), zg_t (nI_in h hn), nI_clamp (by omega)]
theorem x_mem {I : zI} {J : zJ} {p : Int32} {n : Nat} (h1 : n < 2 ^ 31) : f_X11_within I J p 0 (nI n - 1) = some (zi (0 ≤ p.toInt ∧ p.toInt < n)) := by
  rw [e_within, nI_m1 h1]
  congr 1
  apply zi_c
  simp
  omega
theorem m_mem {I : zI} {J : zJ} {p : Int32} {n : Nat} (h1 : n < 2 ^ 31) : f_X12_in I J p.toInt64 0 (nI n - 1).toInt64 = some (zi (0 ≤ p.toInt ∧ p.toInt < n)) := by
  rw [e_in, t64, t64, nI_m1 h1]
  congr 1
  apply zi_c
  simp
  omega
theorem bk_e (b : zB) (I : zI) (o : Nat) (h : rC b I o) : I o 9 = nI (b 9 0) ∧ I o 10 = nI (b 9 1) ∧ I o 11 = nI (b 9 2) ∧ I o 12 = nI (b 9 3) ∧ I o 13 = nI (b 9 4) ∧ I o 14 = nI (b 9 5) ∧ I o 15 = nI (b 9 6) ∧ I o 16 = nI (b 9 7) := ⟨h.1 0 (by omega), h.1 1 (by omega), h.1 2 (by omega), h.1 3 (by omega), h.1 4 (by omega), h.1 5 (by omega), h.1 6 (by omega), h.1 7 (by omega)⟩
section BC
variable {b : zB} {I : zI} {J : zJ} {o : Nat}
theorem bS (hb : bOk b) : b 9 0 ≤ 6 := hb.1.2
theorem bP (hb : bOk b) : b 9 1 ≤ 8 := hb.2.1.2
theorem bT (hb : bOk b) : b 9 2 ≤ 4 := hb.2.2.1.2
theorem x_hasSpeed (hb : bOk b) (hC : rC b I o) (p : Int32) : f_X0_hasSpeed I J o p = some (zi (0 ≤ p.toInt ∧ p.toInt < b 9 0)) := by
  have := bS hb
  unfold f_X0_hasSpeed
  rw [(bk_e b I o hC).1, x_mem (by omega), zb1_s, zg_t zi_01]
theorem x_hasPiece (hb : bOk b) (hC : rC b I o) (p : Int32) : f_X0_hasPiece I J o p = some (zi (0 ≤ p.toInt ∧ p.toInt < b 9 1)) := by
  have := bP hb
  unfold f_X0_hasPiece
  rw [(bk_e b I o hC).2.1, x_mem (by omega), zb1_s, zg_t zi_01]
theorem x_hasSteel (hb : bOk b) (hC : rC b I o) (p : Int32) : f_X0_hasSteel I J o p = some (zi (0 ≤ p.toInt ∧ p.toInt < b 9 2)) := by
  have := bT hb
  unfold f_X0_hasSteel
  rw [(bk_e b I o hC).2.2.1, x_mem (by omega), zb1_s, zg_t zi_01]
theorem m_isSpeed (hb : bOk b) (hM : rM b I) (p : Int32) : f_X12_isSpeed I J p = some (zi (0 ≤ p.toInt ∧ p.toInt < b 9 0)) := by
  have := bS hb
  unfold f_X12_isSpeed
  rw [zg_t (by decide), sp_0, hM.1.1, m_mem (by omega), zb1_s, zg_t zi_01]
theorem m_isPiece (hb : bOk b) (hM : rM b I) (p : Int32) : f_X12_isPiece I J p = some (zi (0 ≤ p.toInt ∧ p.toInt < b 9 1)) := by
  have := bP hb
  unfold f_X12_isPiece
  rw [zg_t (by decide), sp_0, hM.1.2.1, m_mem (by omega), zb1_s, zg_t zi_01]
theorem m_isSteel (hb : bOk b) (hM : rM b I) (p : Int32) : f_X12_isSteel I J p = some (zi (0 ≤ p.toInt ∧ p.toInt < b 9 2)) := by
  have := bT hb
  unfold f_X12_isSteel
  rw [zg_t (by decide), sp_0, hM.1.2.2, m_mem (by omega), zb1_s, zg_t zi_01]
-- the arrays
theorem bC0 (hC : rC b I o) {i : Nat} (h : i < b 9 0) : I (o + 1) i = nI (b 0 i) := hC.2 0 (by omega) i h
theorem bC1 (hC : rC b I o) {i : Nat} (h : i < b 9 0) : I (o + 2) i = nI (b 1 i) := hC.2 1 (by omega) i h
theorem bC2 (hC : rC b I o) {p : Nat} (h : p < b 9 1) : I (o + 3) p = nI (b 2 p) := hC.2 2 (by omega) p h
theorem bC3 (hC : rC b I o) {p : Nat} (h : p < b 9 1) : I (o + 4) p = nI (b 3 p) := hC.2 3 (by omega) p h
theorem bC4 (hC : rC b I o) {p : Nat} (h : p < b 9 1) : I (o + 5) p = nI (b 4 p) := hC.2 4 (by omega) p h
theorem bC5 (hC : rC b I o) {p : Nat} (h : p < b 9 1) : I (o + 6) p = nI (b 5 p) := hC.2 5 (by omega) p h
theorem bC6 (hC : rC b I o) {t : Nat} (h : t < b 9 2) : I (o + 7) t = nI (b 6 t) := hC.2 6 (by omega) t h
theorem bC7 (hC : rC b I o) {t : Nat} (h : t < b 9 2) : I (o + 8) t = nI (b 7 t) := hC.2 7 (by omega) t h
theorem bC8 (hC : rC b I o) {w : Nat} (h : w ≤ 100) : I (o + 9) w = nI (b 8 w) := hC.2 8 (by omega) w (show w < 101 by omega)
theorem x_stepsOf (hb : bOk b) (hC : rC b I o) {p : Nat} (h : p < b 9 1) : f_X0_stepsOf I J o (nI p) = some (nI (b 3 p)) := by
  have := bP hb
  unfold f_X0_stepsOf
  rw [e_at (by omega) (by omega), zb1_s, bC3 hC h]
theorem x_tenthsOf (hb : bOk b) (hC : rC b I o) {t : Nat} (h : t < b 9 2) : f_X0_tenthsOf I J o (nI t) = some (nI (b 7 t)) := by
  have := bT hb
  unfold f_X0_tenthsOf
  rw [e_at (by omega) (by omega), zb1_s, bC7 hC h]
theorem x_inchesOf (hb : bOk b) (hC : rC b I o) {i : Nat} (h : i < b 9 0) : f_X0_inchesOf I J o (nI i) = some (nI (b 0 i)) := by
  have := bS hb
  unfold f_X0_inchesOf
  rw [e_at (by omega) (by omega), zb1_s, bC0 hC h]
theorem x_fineOf (hb : bOk b) (hC : rC b I o) {p : Nat} (h : p < b 9 1) : f_X0_fineOf I J o (nI p) = some (nI (b 4 p)) := by
  have := bP hb
  unfold f_X0_fineOf
  rw [e_at (by omega) (by omega), zb1_s, bC4 hC h]
theorem x_worthOf (hb : bOk b) (hC : rC b I o) {p : Nat} (h : p < b 9 1) : f_X0_worthOf I J o (nI p) = some (nI (b 5 p)) := by
  have := bP hb
  unfold f_X0_worthOf
  rw [e_at (by omega) (by omega), zb1_s, bC5 hC h]
theorem x_mayCut (hb : bOk b) (hC : rC b I o) {i d : Nat} (h : i < b 9 0) (hd : d ≤ 1000) : f_X0_mayCut I J o (nI i) (nI d) = some (zi (d ≤ b 9 6 ∧ b 0 i * d ≤ b 9 7)) := by
  have h0 := bS hb
  obtain ⟨⟨k1, k2⟩, k3, k4⟩ := hb.2.2.2.2.1
  obtain ⟨q1, q2, q3⟩ := hb.2.2.2.2.2.1 i h
  have hm : b 0 i * d ≤ 99 * 1000 := Nat.mul_le_mul q2 hd
  unfold f_X0_mayCut zi
  rw [e_at (by omega) (by omega), zb1_s, bC0 hC h, (bk_e b I o hC).2.2.2.2.2.2.1, (bk_e b I o hC).2.2.2.2.2.2.2, nI_mul]
  simp only [nI_ltI (show b 9 6 < 2 ^ 31 by omega) (show d < 2 ^ 31 by omega), nI_ltI (show b 9 7 < 2 ^ 31 by omega) (show b 0 i * d < 2 ^ 31 by omega)]
  by_cases c1 : b 9 6 < d
  · simp [c1, show ¬ d ≤ b 9 6 by omega]
  · by_cases c2 : b 9 7 < b 0 i * d
    · simp [c1, c2, show ¬ b 0 i * d ≤ b 9 7 by omega]
    · simp [c1, c2, show d ≤ b 9 6 by omega, show b 0 i * d ≤ b 9 7 by omega]
theorem x_minutes (hb : bOk b) (hC : rC b I o) {p i : Nat} (hp : p < b 9 1) (h : i < b 9 0) : f_X0_minutes I J o (nI p) (nI i) = some (nI (mins b p i)) := by
  have h0 := bS hb
  have h8 := bP hb
  obtain ⟨q1, q2, q3⟩ := hb.2.2.2.2.2.1 i h
  obtain ⟨⟨l1, l2⟩, -⟩ := hb.2.2.2.2.2.2.1 p hp
  unfold f_X0_minutes mins
  rw [e_at (by omega) (by omega), zb1_s, bC0 hC h, e_at (by omega) (by omega), zb1_s, bC2 hC hp, if_pos (show (1 : Int32) ≤ nI (b 0 i) from nI_le q1 (by omega)), zg_t (nI_ne0 (by omega) (by omega)), show (100 : Int32) = nI 100 from rfl, show (1 : Int32) = nI 1 from rfl, nI_mul, nI_add, nI_sub (by omega), nI_div (by omega) (by omega)]
theorem wrs_le (hb : bOk b) {p i d h : Nat} (hp : p < b 9 1) (hi : i < b 9 0) (hh : h < b 9 2) (hd : d ≤ 8) : b 2 p * b 1 i ≤ 98901 ∧ b 2 p * b 1 i * d ≤ 791208 ∧ b 2 p * b 1 i * d * b 6 h ≤ 316483200 := by
  obtain ⟨q1, q2, q3⟩ := hb.2.2.2.2.2.1 i hi
  obtain ⟨⟨l1, l2⟩, -⟩ := hb.2.2.2.2.2.2.1 p hp
  obtain ⟨⟨t1, t2⟩, -⟩ := hb.2.2.2.2.2.2.2.1 h hh
  have e1 : b 2 p * b 1 i ≤ 99 * 999 := Nat.mul_le_mul l2 q3
  have e2 : b 2 p * b 1 i * d ≤ 99 * 999 * 8 := Nat.mul_le_mul e1 hd
  have e3 : b 2 p * b 1 i * d * b 6 h ≤ 99 * 999 * 8 * 400 := Nat.mul_le_mul e2 t2
  omega
theorem x_wears (hb : bOk b) (hC : rC b I o) {p i d h : Nat} (hp : p < b 9 1) (hi : i < b 9 0) (hh : h < b 9 2) (hd : d ≤ 8) : f_X0_wears I J o (nI p) (nI i) (nI d) (nI h) = some (nI (wrs b p i d h)) := by
  have h0 := bS hb
  have h8 := bP hb
  have h4 := bT hb
  obtain ⟨e1, e2, e3⟩ := wrs_le hb hp hi hh hd
  unfold f_X0_wears wrs
  rw [e_at (by omega) (by omega), zb1_s, e_at (by omega) (by omega), zb1_s, e_at (by omega) (by omega), zb1_s, bC2 hC hp, bC1 hC hi, bC6 hC hh, nI_mul, nI_mul, nI_mul, show (10000 : Int32) = nI 10000 from rfl, nI_div (by omega) (by omega)]
theorem x_risk (hb : bOk b) (hC : rC b I o) {w x : Nat} (hw : w ≤ 100) (hx : x ≤ 100000) : f_X0_risk I J o (nI w) (nI x) = some (nI (if 100 < w + x then 100 else b 8 w)) := by
  unfold f_X0_risk
  rw [nI_add, e_at (by omega) (by omega), zb1_s, bC8 hC hw]
  by_cases c : 100 < w + x
  · rw [if_neg (show ¬ nI (w + x) ≤ 100 from nI_ge c (by omega)), if_pos c]; rfl
  · rw [if_pos (show nI (w + x) ≤ 100 from nI_le (b := 100) (by omega) (by omega)), if_neg c]
end BC
section BM
variable {b : zB} {I : zI} {J : zJ}
theorem m_2i {x : Nat} (h : x < 2 ^ 30) : (2 : Int32) * nI x = nI (2 * x) := nI_mul 2 x
theorem m_2i1 {x : Nat} : (2 : Int32) * nI x + 1 = nI (2 * x + 1) := by rw [show (2 : Int32) * nI x = nI (2 * x) from nI_mul 2 x, nI_1]
theorem m_4i {x : Nat} : (4 : Int32) * nI x = nI (4 * x) := nI_mul 4 x
theorem m_4i1 {x : Nat} : (4 : Int32) * nI x + 1 = nI (4 * x + 1) := by rw [m_4i, nI_1]
theorem m_steps (hb : bOk b) (hM : rM b I) {p : Nat} (h : p < b 9 1) : f_X12_steps I J (nI p) = some (nI (b 3 p)) := by
  have := bP hb
  unfold f_X12_steps
  rw [m_4i1, zg_t (nI_in (by omega) (by omega)), nI_clamp (by omega), (hM.2.2.2.1 p h).2.1]
theorem m_may (hb : bOk b) (hM : rM b I) {i d : Nat} (h : i < b 9 0) (hd : d ≤ 1000) : f_X12_may I J (nI i) (nI d) = some (zi (d ≤ b 9 6 ∧ b 0 i * d ≤ b 9 7)) := by
  have h0 := bS hb
  obtain ⟨⟨k1, k2⟩, k3, k4⟩ := hb.2.2.2.2.1
  obtain ⟨q1, q2, q3⟩ := hb.2.2.2.2.2.1 i h
  have hm : b 0 i * d ≤ 99 * 1000 := Nat.mul_le_mul q2 hd
  unfold f_X12_may zi
  rw [zg_t (by decide), m_2i (by omega), zg_t (nI_in (by omega) (by omega)), zg_t (by decide), nI_clamp (by omega), show (3 : Int32).toNatClampNeg = 3 from rfl, show (4 : Int32).toNatClampNeg = 4 from rfl, (hM.2.2.1 i h).1, hM.2.1 3 (by omega), hM.2.1 4 (by omega), nI_mul]
  simp only [nI_ltI (show b 9 (3 + 3) < 2 ^ 31 by simp; omega) (show d < 2 ^ 31 by omega), nI_ltI (show b 9 (3 + 4) < 2 ^ 31 by simp; omega) (show b 0 i * d < 2 ^ 31 by omega)]
  by_cases c1 : b 9 6 < d
  · simp [c1, show ¬ d ≤ b 9 6 by omega]
  · by_cases c2 : b 9 7 < b 0 i * d
    · simp [c1, c2, show ¬ b 0 i * d ≤ b 9 7 by omega]
    · simp [c1, c2, show d ≤ b 9 6 by omega, show b 0 i * d ≤ b 9 7 by omega]
theorem m_minutes (hb : bOk b) (hM : rM b I) {p i : Nat} (hp : p < b 9 1) (h : i < b 9 0) : f_X12_minutes I J (nI p) (nI i) = some (nI (mins b p i)) := by
  have h0 := bS hb
  have h8 := bP hb
  obtain ⟨q1, q2, q3⟩ := hb.2.2.2.2.2.1 i h
  obtain ⟨⟨l1, l2⟩, -⟩ := hb.2.2.2.2.2.2.1 p hp
  unfold f_X12_minutes mins
  rw [m_4i, m_2i (by omega), zg_t (nI_in (by omega) (by omega)), zg_t (nI_in (by omega) (by omega)), zg_t (nI_in (by omega) (by omega)), nI_clamp (by omega), nI_clamp (by omega), (hM.2.2.1 i h).1, (hM.2.2.2.1 p hp).1, zg_t (nI_ne0 (by omega) (by omega)), show (100 : Int32) = nI 100 from rfl, show (1 : Int32) = nI 1 from rfl, nI_mul, nI_add, nI_sub (by omega), nI_div (by omega) (by omega)]
theorem m_wears (hb : bOk b) (hM : rM b I) {p i d h : Nat} (hp : p < b 9 1) (hi : i < b 9 0) (hh : h < b 9 2) (hd : d ≤ 8) : f_X12_wears I J (nI p) (nI i) (nI d) (nI h) = some (nI (wrs b p i d h)) := by
  have h0 := bS hb
  have h8 := bP hb
  have h4 := bT hb
  obtain ⟨q1, q2, q3⟩ := hb.2.2.2.2.2.1 i hi
  obtain ⟨⟨l1, l2⟩, -⟩ := hb.2.2.2.2.2.2.1 p hp
  obtain ⟨⟨t1, t2⟩, -⟩ := hb.2.2.2.2.2.2.2.1 h hh
  obtain ⟨e1, e2, e3⟩ := wrs_le hb hp hi hh hd
  unfold f_X12_wears wrs
  rw [m_4i, m_2i1, m_2i (by omega), zg_t (nI_in (by omega) (by omega)), zg_t (nI_in (by omega) (by omega)), zg_t (nI_in (by omega) (by omega)), nI_clamp (by omega), nI_clamp (by omega), nI_clamp (by omega), (hM.2.2.1 i hi).2, (hM.2.2.2.1 p hp).1, (hM.2.2.2.2.1 h hh).1, nI_l (by omega), nI_l (by omega), nI_l (by omega), nI_l (by omega), lN_mul, lN_mul, lN_mul, show (10000 : Int64) = lN 10000 from rfl, lN_div (by omega) (by omega), lN_i]
end BM
