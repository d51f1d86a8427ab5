/-! earns, shop, pay, bestPay -/
theorem cmp_le0 {x y : Int64} : lg_cmp x y ≤ 0 ↔ ¬ y < x := by
  rw [← cmp_gt]
  exact Int32.not_lt.symm
abbrev whD (b : zB) (p i : Nat) : Prop := b 3 p ≤ b 9 6 ∧ b 0 i * b 3 p ≤ b 9 7
def TmS (b : zB) (p i : Nat) : Nat := mins b p i + wrs b p i (b 3 p) 0 * b 9 3
def earnI (b : zB) (p i t : Nat) : Int64 := ((6000 * lN (b 5 p) - 60 * lN (wrs b p i (b 3 p) 0) * lN (b 9 4)) * 6000) / lN (max (TmS b p i) t) - 6000 * lN (b 9 5)
def paysI (b : zB) (p i u : Nat) : Int64 := ((6000 * lN u) * 6000) / lN (TmS b p i)
theorem mins_le {b : zB} (hb : bOk b) {p i : Nat} (hp : p < b 9 1) (hi : i < b 9 0) : 1 ≤ mins b p i ∧ mins b p i ≤ 10000 := by
  obtain ⟨q1, q2, q3⟩ := hb.2.2.2.2.2.1 i hi
  obtain ⟨⟨l1, l2⟩, -⟩ := hb.2.2.2.2.2.2.1 p hp
  unfold mins
  refine ⟨(Nat.one_le_div_iff (by omega)).mpr (by omega), ?_⟩
  exact Nat.le_trans (Nat.div_le_self _ _) (by omega)
theorem wrs_b {b : zB} (hb : bOk b) {p i d h : Nat} (hp : p < b 9 1) (hi : i < b 9 0) (hh : h < b 9 2) (hd : d ≤ 8) : wrs b p i d h ≤ 31648 := by
  have := (wrs_le hb hp hi hh hd).2.2
  unfold wrs
  omega
theorem TmS_b {b : zB} (hb : bOk b) {p i : Nat} (hp : p < b 9 1) (hi : i < b 9 0) : 1 ≤ TmS b p i ∧ wrs b p i (b 3 p) 0 * b 9 3 ≤ 3133152 ∧ TmS b p i ≤ 3143152 := by
  have h1 := mins_le hb hp hi
  have h2 := wrs_b hb hp hi (show 0 < b 9 2 from hb.2.2.1.1) (hb.2.2.2.2.2.2.1 p hp).2.1.2
  have h3 := hb.2.2.2.1.1
  have h4 : wrs b p i (b 3 p) 0 * b 9 3 ≤ 31648 * 99 := Nat.mul_le_mul h2 h3
  unfold TmS
  omega
theorem lN_ne0 {n : Nat} (h0 : 0 < n) (h : n < 2 ^ 31) : ¬ lN n = 0 := fun q => by
  have := (lN_eq (a := n) (b := 0) h (by omega)).mp q
  omega
section SH
variable {b : zB} {I : zI} {J : zJ}
theorem x_mayBe (hb : bOk b) (hC : rC b I 4) {p i : Nat} (hp : p < b 9 1) (hi : i < b 9 0) : f_X7_mayBe I J (nI p) (nI i) = some (zi (whD b p i)) := by
  have := (hb.2.2.2.2.2.2.1 p hp).2.1
  unfold f_X7_mayBe
  rw [x_stepsOf hb hC hp, zb1_s, x_mayCut hb hC hi (by omega), zb1_s, zg_t zi_01]
theorem m_whole (hb : bOk b) (hM : rM b I) {p i : Nat} (hp : p < b 9 1) (hi : i < b 9 0) : f_X12_whole I J (nI p) (nI i) = some (zi (whD b p i)) := by
  have := (hb.2.2.2.2.2.2.1 p hp).2.1
  unfold f_X12_whole
  rw [m_steps hb hM hp, zb1_s, m_may hb hM hi (by omega), zb1_s, zg_t zi_01]
theorem x_wearsOf (hb : bOk b) (hC : rC b I 4) {p i : Nat} (hp : p < b 9 1) (hi : i < b 9 0) : f_X7_wearsOf I J (nI p) (nI i) = some (nI (wrs b p i (b 3 p) 0)) := by
  have := (hb.2.2.2.2.2.2.1 p hp).2.1
  unfold f_X7_wearsOf
  rw [x_stepsOf hb hC hp, zb1_s, show (0 : Int32) = nI 0 from rfl, x_wears hb hC hp hi hb.2.2.1.1 (by omega), zb1_s]
theorem x_timeOf (hb : bOk b) (hC : rC b I 4) {p i : Nat} (hp : p < b 9 1) (hi : i < b 9 0) : f_X7_timeOf I J (nI p) (nI i) = some (nI (TmS b p i)) := by
  unfold f_X7_timeOf
  rw [x_minutes hb hC hp hi, zb1_s, x_wearsOf hb hC hp hi, zb1_s, (bk_e b I 4 hC).2.2.2.1, nI_mul, nI_add]
  rfl
theorem x_perHour (s : Int64) {t : Nat} (h1 : 1 ≤ t) (h2 : t < 2 ^ 31) : f_X7_perHour I J s (nI t) = some (s * 6000 / lN t) := by
  unfold f_X7_perHour
  rw [if_pos (show (1 : Int32) ≤ nI t from nI_le (a := 1) h1 h2), nI_l h2, zg_t (lN_ne0 h1 h2)]
theorem x_earned (hb : bOk b) (hC : rC b I 4) {p i t : Nat} (hp : p < b 9 1) (hi : i < b 9 0) (ht : 1 ≤ t ∧ t ≤ 9999) : f_X7_earned I J (nI p) (nI i) (nI t) = some (earnI b p i t) := by
  obtain ⟨a1, a2, a3⟩ := TmS_b hb hp hi
  have h5 := hb.2.2.2.1
  have h6 := (hb.2.2.2.2.2.2.1 p hp).2.2.2
  have h7 := wrs_b hb hp hi (show 0 < b 9 2 from hb.2.2.1.1) (hb.2.2.2.2.2.2.1 p hp).2.1.2
  unfold f_X7_earned
  rw [x_wearsOf hb hC hp hi, zb1_s, zn_e, x_worthOf hb hC hp, zb1_s, zn_e, x_timeOf hb hC hp hi, zb1_s]
  have e : (if nI (TmS b p i) < nI t then nI t else nI (TmS b p i)) = nI (max (TmS b p i) t) := by
    by_cases c : TmS b p i < t
    · rw [if_pos (nI_lt c (by omega)), Nat.max_eq_right (by omega)]
    · rw [if_neg (nI_nlt (by omega) (by omega)), Nat.max_eq_left (by omega)]
  rw [e, x_perHour _ (by omega) (by omega), zb1_s, (bk_e b I 4 hC).2.2.2.2.1, (bk_e b I 4 hC).2.2.2.2.2.1, nI_l (by omega), nI_l (by omega), nI_l (by omega), nI_l (by omega)]
  rfl
theorem m_hundredths (hb : bOk b) (hM : rM b I) {p i : Nat} (hp : p < b 9 1) (hi : i < b 9 0) : f_X12_hundredths I J (nI p) (nI i) = some (lN (TmS b p i)) := by
  have h1 := mins_le hb hp hi
  have h5 := hb.2.2.2.1
  have h7 := wrs_b hb hp hi (show 0 < b 9 2 from hb.2.2.1.1) (hb.2.2.2.2.2.2.1 p hp).2.1.2
  unfold f_X12_hundredths
  rw [m_minutes hb hM hp hi, zb1_s, m_steps hb hM hp, zb1_s, show f_X12_wears I J (nI p) (nI i) (nI (b 3 p)) 0 = some (nI (wrs b p i (b 3 p) 0)) from m_wears hb hM hp hi hb.2.2.1.1 (hb.2.2.2.2.2.2.1 p hp).2.1.2, zb1_s, zg_t (by decide), sp_0, show I 11 0 = nI (b 9 3) from hM.2.1 0 (by omega), nI_l (by omega), nI_l (by omega), nI_l (by omega), lN_mul, lN_add]
  rfl
theorem m_earnsOf (hb : bOk b) (hM : rM b I) {p i t : Nat} (hp : p < b 9 1) (hi : i < b 9 0) (ht : 1 ≤ t ∧ t ≤ 9999) : f_X12_earnsOf I J (nI p) (nI i) (nI t) = some (earnI b p i t) := by
  obtain ⟨a1, a2, a3⟩ := TmS_b hb hp hi
  have h8 := bP hb
  have h5 := hb.2.2.2.1
  have h6 := (hb.2.2.2.2.2.2.1 p hp).2.2.2
  have h7 := wrs_b hb hp hi (show 0 < b 9 2 from hb.2.2.1.1) (hb.2.2.2.2.2.2.1 p hp).2.1.2
  unfold f_X12_earnsOf
  simp only [m_hundredths hb hM hp hi, zb1_s, nI_l (show t < 2 ^ 31 by omega), cmp_le0, lN_lt (show t < 2 ^ 31 by omega) (show TmS b p i < 2 ^ 31 by omega)]
  have e : (if ¬ t < TmS b p i then some (lN t) else some (lN (TmS b p i))) = some (lN (max (TmS b p i) t)) := by
    by_cases c : t < TmS b p i
    · rw [if_neg (fun q => q c), Nat.max_eq_left (by omega)]
    · rw [if_pos c, Nat.max_eq_right (by omega)]
  rw [e, zb1_s, m_4i, show nI (4 * p) + 3 = nI (4 * p + 3) from nI_add _ 3, zg_t (nI_in (by omega) (by omega)), m_steps hb hM hp, zb1_s, show f_X12_wears I J (nI p) (nI i) (nI (b 3 p)) 0 = some (nI (wrs b p i (b 3 p) 0)) from m_wears hb hM hp hi hb.2.2.1.1 (hb.2.2.2.2.2.2.1 p hp).2.1.2, zb1_s, zg_t (by decide), zn_e, zg_t (lN_ne0 (by omega) (by omega)), zg_t (by decide), nI_clamp (by omega), (hM.2.2.2.1 p hp).2.2.2, sp_1, show I 11 1 = nI (b 9 4) from hM.2.1 1 (by omega), show I 11 (2 : Int32).toNatClampNeg = nI (b 9 5) from hM.2.1 2 (by omega), nI_l (by omega), nI_l (by omega), nI_l (by omega), nI_l (by omega)]
  rfl
end SH
theorem pu_earns : op_earns zRel := by
  intro I J IM JM hR p1 p2 p3
  have hR0 := hR
  obtain ⟨b, hb, hC, hM, hT, hH, hK, hP⟩ := hR
  have h0 := bS hb
  have h8 := bP hb
  suffices h : ∃ r : Int64, f_X11_earns I J p1 p2 p3 = some r ∧ f_X12_earns IM JM p1 p2 p3 = some r by
    obtain ⟨r, h1, h2⟩ := h
    exact ⟨r, h1, h2, hR0⟩
  unfold f_X11_earns f_X12_earns
  simp only [x_hasPiece hb hC, m_isPiece hb hM, x_hasSpeed hb hC, m_isSpeed hb hM, e_within, e_in, t64, zb1_s, zif, k1, k9999, K1, K9999]
  by_cases c1 : 0 ≤ p1.toInt ∧ p1.toInt < b 9 1
  case neg => simp only [if_neg c1]; exact ⟨_, rfl, rfl⟩
  by_cases c2 : 0 ≤ p2.toInt ∧ p2.toInt < b 9 0
  case neg => simp only [if_pos c1, if_neg c2]; exact ⟨_, rfl, rfl⟩
  by_cases c3 : 1 ≤ p3.toInt ∧ p3.toInt ≤ 9999
  case neg => simp only [if_pos c1, if_pos c2, if_neg c3]; exact ⟨_, rfl, rfl⟩
  simp only [if_pos c1, if_pos c2, if_pos c3]
  obtain ⟨t, ht, rfl⟩ := nI_of3 (x := p3) (n := 10000) (by omega) (by omega)
  rw [nI_toInt (by omega)] at c3
  obtain ⟨p, hp, rfl⟩ := nI_of3 c1.1 c1.2
  obtain ⟨i, hi, rfl⟩ := nI_of3 c2.1 c2.2
  rw [x_mayBe hb hC hp hi, m_whole hb hM hp hi, x_earned hb hC hp hi (by omega), m_earnsOf hb hM hp hi (by omega)]
  simp only [zb1_s, zif]
  split <;> exact ⟨_, rfl, rfl⟩
