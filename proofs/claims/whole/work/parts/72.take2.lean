/-! laying: a steel, a chance, a change, an hour, the most taken -/
theorem k400 : (400 : Int32).toInt = 400 := rfl
theorem k10 : (10 : Int32).toInt = 10 := rfl
theorem x_takeSteel {I : zI} {J : zJ} {o n : Nat} (hn : n ≤ 4) (h : I o 11 = nI n) (p1 p2 : Int32) : (((1 ≤ p1.toInt ∧ p1.toInt ≤ 400) ∧ (0 ≤ p2.toInt ∧ p2.toInt ≤ 10) ∧ n < 4) ∧ ∃ I2 : zI, f_X0_takeSteel I J o p1 p2 = some (1, I2) ∧ (∀ k, k ≠ o → k ≠ o + 7 → k ≠ o + 8 → I2 k = I k) ∧ I2 o 11 = nI (n + 1) ∧ (∀ j, j ≠ 11 → I2 o j = I o j) ∧ I2 (o + 7) n = p1 ∧ I2 (o + 8) n = p2 ∧ ∀ j, j ≠ n → I2 (o + 7) j = I (o + 7) j ∧ I2 (o + 8) j = I (o + 8) j) ∨ (¬ ((1 ≤ p1.toInt ∧ p1.toInt ≤ 400) ∧ (0 ≤ p2.toInt ∧ p2.toInt ≤ 10) ∧ n < 4) ∧ f_X0_takeSteel I J o p1 p2 = some (0, I)) := by
  unfold f_X0_takeSteel
  simp only [e_within, zb1_s, zif, k0, k1, k400, k10, k3, h, nI_toInt (show n < 2 ^ 31 by omega)]
  by_cases c1 : 1 ≤ p1.toInt ∧ p1.toInt ≤ 400
  case neg => exact Or.inr ⟨fun z => c1 z.1, by rw [if_neg c1]⟩
  by_cases c2 : 0 ≤ p2.toInt ∧ p2.toInt ≤ 10
  case neg => exact Or.inr ⟨fun z => c2 z.2.1, by rw [if_pos c1, if_neg c2]⟩
  by_cases c3 : n < 4
  case neg => exact Or.inr ⟨fun z => c3 z.2.2, by rw [if_pos c1, if_pos c2, if_neg (by omega)]⟩
  refine Or.inl ⟨⟨c1, c2, c3⟩, ?_⟩
  rw [if_pos c1, if_pos c2, if_pos (show (0 : Int) ≤ n ∧ (n : Int) ≤ 3 by omega)]
  have e1 : ∀ v : Nat → Int32, va_up I (o + 7) v o 11 = nI n := fun v => by rw [up_n (by omega)]; exact h
  have e2 : ∀ v w : Nat → Int32, va_up (va_up I (o + 7) v) (o + 8) w o 11 = nI n := fun v w => by rw [up_n (by omega)]; exact e1 v
  simp only [zn_e, e1, e2, zg_t (nI_in c3 (show 4 < 2 ^ 31 by omega))]
  simp only [nI_clamp (show n < 2 ^ 31 by omega), nI_1]
  refine ⟨_, rfl, fun k h1 h2 h3 => ?_, ?_, fun j hj => ?_, ?_, ?_, fun j hj => ⟨?_, ?_⟩⟩
  · rw [up_n h1, up_n h3, up_n h2]
  · rw [up_s, up_s]
  · rw [up_s, up_n hj, up_n (by omega), up_n (by omega)]
  · rw [up_n (by omega), up_n (by omega), up_s, ud_s]
  · rw [up_n (by omega), up_s, ud_s]
  · rw [up_n (by omega), up_n (by omega), up_s, ud_n hj]
  · rw [up_n (by omega), up_s, ud_n hj, up_n (by omega)]
theorem x_takeBreak {I : zI} {J : zJ} {o : Nat} (p1 p2 : Int32) : (((0 ≤ p1.toInt ∧ p1.toInt ≤ 100) ∧ 0 ≤ p2.toInt ∧ p2.toInt ≤ 100) ∧ ∃ I2 : zI, f_X0_takeBreak I J o p1 p2 = some (1, I2) ∧ (∀ k, k ≠ o + 9 → I2 k = I k) ∧ I2 (o + 9) p1.toInt.toNat = p2 ∧ ∀ j, j ≠ p1.toInt.toNat → I2 (o + 9) j = I (o + 9) j) ∨ (¬ ((0 ≤ p1.toInt ∧ p1.toInt ≤ 100) ∧ 0 ≤ p2.toInt ∧ p2.toInt ≤ 100) ∧ f_X0_takeBreak I J o p1 p2 = some (0, I)) := by
  unfold f_X0_takeBreak
  simp only [e_within, zb1_s, zif, k0, k100]
  by_cases c1 : 0 ≤ p1.toInt ∧ p1.toInt ≤ 100
  case neg => exact Or.inr ⟨fun z => c1 z.1, by rw [if_neg c1]⟩
  by_cases c2 : 0 ≤ p2.toInt ∧ p2.toInt ≤ 100
  case neg => exact Or.inr ⟨fun z => c2 z.2, by rw [if_pos c1, if_neg c2]⟩
  refine Or.inl ⟨⟨c1, c2⟩, ?_⟩
  obtain ⟨w, hw, rfl⟩ := nI_of3 (x := p1) (n := 101) c1.1 (by omega)
  rw [if_pos c1, if_pos c2, zg_t (nI_in hw (by omega)), nI_clamp (by omega), zn_e, nI_toInt (by omega), show ((w : Int)).toNat = w from rfl]
  refine ⟨_, rfl, fun k h1 => up_n h1, ?_, fun j hj => ?_⟩
  · rw [up_s]; exact ud_s
  · rw [up_s]; exact ud_n hj
theorem x_takeChange {I : zI} {J : zJ} {o : Nat} (p1 p2 : Int32) : (((0 ≤ p1.toInt ∧ p1.toInt ≤ 99) ∧ 0 ≤ p2.toInt ∧ p2.toInt ≤ 99) ∧ ∃ I2 : zI, f_X0_takeChange I J o p1 p2 = some (1, I2) ∧ (∀ k, k ≠ o → I2 k = I k) ∧ I2 o 12 = p1 ∧ I2 o 13 = p2 ∧ ∀ j, j ≠ 12 → j ≠ 13 → I2 o j = I o j) ∨ (¬ ((0 ≤ p1.toInt ∧ p1.toInt ≤ 99) ∧ 0 ≤ p2.toInt ∧ p2.toInt ≤ 99) ∧ f_X0_takeChange I J o p1 p2 = some (0, I)) := by
  unfold f_X0_takeChange
  simp only [e_within, zb1_s, zif, k0, k99]
  by_cases c1 : 0 ≤ p1.toInt ∧ p1.toInt ≤ 99
  case neg => exact Or.inr ⟨fun z => c1 z.1, by rw [if_neg c1]⟩
  by_cases c2 : 0 ≤ p2.toInt ∧ p2.toInt ≤ 99
  case neg => exact Or.inr ⟨fun z => c2 z.2, by rw [if_pos c1, if_neg c2]⟩
  refine Or.inl ⟨⟨c1, c2⟩, ?_⟩
  rw [if_pos c1, if_pos c2]
  simp only [zn_e]
  refine ⟨_, rfl, fun k h1 => ?_, ?_, ?_, fun j h1 h2 => ?_⟩
  · rw [up_n h1, up_n h1]
  · rw [up_s, up_n (by omega), up_s, up_s]
  · rw [up_s, up_s]
  · rw [up_s, up_n h2, up_s, up_n h1]
theorem x_takeHour {I : zI} {J : zJ} {o : Nat} (p1 : Int32) : ((0 ≤ p1.toInt ∧ p1.toInt ≤ 999) ∧ ∃ I2 : zI, f_X0_takeHour I J o p1 = some (1, I2) ∧ (∀ k, k ≠ o → I2 k = I k) ∧ I2 o 14 = p1 ∧ ∀ j, j ≠ 14 → I2 o j = I o j) ∨ (¬ (0 ≤ p1.toInt ∧ p1.toInt ≤ 999) ∧ f_X0_takeHour I J o p1 = some (0, I)) := by
  unfold f_X0_takeHour
  simp only [e_within, zb1_s, zif, k0, k999]
  by_cases c1 : 0 ≤ p1.toInt ∧ p1.toInt ≤ 999
  case neg => exact Or.inr ⟨c1, by rw [if_neg c1]⟩
  refine Or.inl ⟨c1, ?_⟩
  rw [if_pos c1]
  simp only [zn_e]
  exact ⟨_, rfl, fun k h1 => up_n h1, by rw [up_s, up_s], fun j h1 => by rw [up_s, up_n h1]⟩
theorem x_takeMost {I : zI} {J : zJ} {o : Nat} (p1 p2 : Int32) : (((1 ≤ p1.toInt ∧ p1.toInt ≤ 8) ∧ 1 ≤ p2.toInt ∧ p2.toInt ≤ 999) ∧ ∃ I2 : zI, f_X0_takeMost I J o p1 p2 = some (1, I2) ∧ (∀ k, k ≠ o → I2 k = I k) ∧ I2 o 15 = p1 ∧ I2 o 16 = p2 ∧ ∀ j, j ≠ 15 → j ≠ 16 → I2 o j = I o j) ∨ (¬ ((1 ≤ p1.toInt ∧ p1.toInt ≤ 8) ∧ 1 ≤ p2.toInt ∧ p2.toInt ≤ 999) ∧ f_X0_takeMost I J o p1 p2 = some (0, I)) := by
  unfold f_X0_takeMost
  simp only [e_within, zb1_s, zif, k1, k8, k999]
  by_cases c1 : 1 ≤ p1.toInt ∧ p1.toInt ≤ 8
  case neg => exact Or.inr ⟨fun z => c1 z.1, by rw [if_neg c1]⟩
  by_cases c2 : 1 ≤ p2.toInt ∧ p2.toInt ≤ 999
  case neg => exact Or.inr ⟨fun z => c2 z.2, by rw [if_pos c1, if_neg c2]⟩
  refine Or.inl ⟨⟨c1, c2⟩, ?_⟩
  rw [if_pos c1, if_pos c2]
  simp only [zn_e]
  refine ⟨_, rfl, fun k h1 => ?_, ?_, ?_, fun j h1 h2 => ?_⟩
  · rw [up_n h1, up_n h1]
  · rw [up_s, up_n (by omega), up_s, up_s]
  · rw [up_s, up_s]
  · rw [up_s, up_n h2, up_s, up_n h1]
