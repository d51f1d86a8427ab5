/-! laying: a speed taken -/
theorem k5' : (5 : Int32).toInt = 5 := rfl
theorem x_takeSpeed {I : zI} {J : zJ} {o n : Nat} (hn : n ≤ 6) (h : I o 9 = nI n) (p1 p2 : Int32) : (((1 ≤ p1.toInt ∧ p1.toInt ≤ 99) ∧ (0 ≤ p2.toInt ∧ p2.toInt ≤ 999) ∧ n < 6) ∧ ∃ I2 : zI, f_X0_takeSpeed I J o p1 p2 = some (1, I2) ∧ (∀ k, k ≠ o → k ≠ o + 1 → k ≠ o + 2 → I2 k = I k) ∧ I2 o 9 = nI (n + 1) ∧ (∀ j, j ≠ 9 → I2 o j = I o j) ∧ I2 (o + 1) n = p1 ∧ I2 (o + 2) n = p2 ∧ ∀ j, j ≠ n → I2 (o + 1) j = I (o + 1) j ∧ I2 (o + 2) j = I (o + 2) j) ∨ (¬ ((1 ≤ p1.toInt ∧ p1.toInt ≤ 99) ∧ (0 ≤ p2.toInt ∧ p2.toInt ≤ 999) ∧ n < 6) ∧ f_X0_takeSpeed I J o p1 p2 = some (0, I)) := by
  unfold f_X0_takeSpeed
  simp only [e_within, zb1_s, zif, k0, k1, k99, k999, k5, h, nI_toInt (show n < 2 ^ 31 by omega)]
  by_cases c1 : 1 ≤ p1.toInt ∧ p1.toInt ≤ 99
  case neg => exact Or.inr ⟨fun z => c1 z.1, by rw [if_neg c1]⟩
  by_cases c2 : 0 ≤ p2.toInt ∧ p2.toInt ≤ 999
  case neg => exact Or.inr ⟨fun z => c2 z.2.1, by rw [if_pos c1, if_neg c2]⟩
  by_cases c3 : n < 6
  case neg => exact Or.inr ⟨fun z => c3 z.2.2, by rw [if_pos c1, if_pos c2, if_neg (by omega)]⟩
  refine Or.inl ⟨⟨c1, c2, c3⟩, ?_⟩
  rw [if_pos c1, if_pos c2, if_pos (show (0 : Int) ≤ n ∧ (n : Int) ≤ 5 by omega)]
  have e1 : ∀ v : Nat → Int32, va_up I (o + 1) v o 9 = nI n := fun v => by rw [up_n (by omega)]; exact h
  have e2 : ∀ v w : Nat → Int32, va_up (va_up I (o + 1) v) (o + 2) w o 9 = nI n := fun v w => by rw [up_n (by omega)]; exact e1 v
  simp only [zn_e, e1, e2, zg_t (nI_in c3 (show 6 < 2 ^ 31 by omega))]
  simp only [nI_clamp (show n < 2 ^ 31 by omega), nI_1]
  refine ⟨_, rfl, fun k h1 h2 h3 => ?_, ?_, fun j hj => ?_, ?_, ?_, fun j hj => ⟨?_, ?_⟩⟩
  · rw [up_n h1, up_n h3, up_n h2]
  · rw [up_s, up_s]
  · rw [up_s, up_n hj, up_n (by omega), up_n (by omega)]
  · rw [up_n (by omega), up_n (by omega), up_s, ud_s]
  · rw [up_n (by omega), up_s, ud_s]
  · rw [up_n (by omega), up_n (by omega), up_s, ud_n hj]
  · rw [up_n (by omega), up_s, ud_n hj, up_n (by omega)]
theorem k7 : (7 : Int32).toInt = 7 := rfl
theorem x_takePiece {I : zI} {J : zJ} {o n : Nat} (hn : n ≤ 8) (h : I o 10 = nI n) (p1 p2 p3 p4 : Int32) : (((1 ≤ p1.toInt ∧ p1.toInt ≤ 99) ∧ (1 ≤ p2.toInt ∧ p2.toInt ≤ 8) ∧ (0 ≤ p3.toInt ∧ p3.toInt ≤ 100) ∧ (0 ≤ p4.toInt ∧ p4.toInt ≤ 999) ∧ n < 8) ∧ ∃ I2 : zI, f_X0_takePiece I J o p1 p2 p3 p4 = some (1, I2) ∧ (∀ k, k ≠ o → k ≠ o + 3 → k ≠ o + 4 → k ≠ o + 5 → k ≠ o + 6 → I2 k = I k) ∧ I2 o 10 = nI (n + 1) ∧ (∀ j, j ≠ 10 → I2 o j = I o j) ∧ (I2 (o + 3) n = p1 ∧ I2 (o + 4) n = p2 ∧ I2 (o + 5) n = p3 ∧ I2 (o + 6) n = p4) ∧ ∀ j, j ≠ n → I2 (o + 3) j = I (o + 3) j ∧ I2 (o + 4) j = I (o + 4) j ∧ I2 (o + 5) j = I (o + 5) j ∧ I2 (o + 6) j = I (o + 6) j) ∨ (¬ ((1 ≤ p1.toInt ∧ p1.toInt ≤ 99) ∧ (1 ≤ p2.toInt ∧ p2.toInt ≤ 8) ∧ (0 ≤ p3.toInt ∧ p3.toInt ≤ 100) ∧ (0 ≤ p4.toInt ∧ p4.toInt ≤ 999) ∧ n < 8) ∧ f_X0_takePiece I J o p1 p2 p3 p4 = some (0, I)) := by
  unfold f_X0_takePiece
  simp only [e_within, zb1_s, zif, k0, k1, k99, k999, k8, k100, k7, h, nI_toInt (show n < 2 ^ 31 by omega)]
  by_cases c1 : 1 ≤ p1.toInt ∧ p1.toInt ≤ 99
  case neg => exact Or.inr ⟨fun z => c1 z.1, by rw [if_neg c1]⟩
  by_cases c2 : 1 ≤ p2.toInt ∧ p2.toInt ≤ 8
  case neg => exact Or.inr ⟨fun z => c2 z.2.1, by rw [if_pos c1, if_neg c2]⟩
  by_cases c4 : 0 ≤ p3.toInt ∧ p3.toInt ≤ 100
  case neg => exact Or.inr ⟨fun z => c4 z.2.2.1, by rw [if_pos c1, if_pos c2, if_neg c4]⟩
  by_cases c5 : 0 ≤ p4.toInt ∧ p4.toInt ≤ 999
  case neg => exact Or.inr ⟨fun z => c5 z.2.2.2.1, by rw [if_pos c1, if_pos c2, if_pos c4, if_neg c5]⟩
  by_cases c3 : n < 8
  case neg => exact Or.inr ⟨fun z => c3 z.2.2.2.2, by rw [if_pos c1, if_pos c2, if_pos c4, if_pos c5, if_neg (by omega)]⟩
  refine Or.inl ⟨⟨c1, c2, c4, c5, c3⟩, ?_⟩
  rw [if_pos c1, if_pos c2, if_pos c4, if_pos c5, if_pos (show (0 : Int) ≤ n ∧ (n : Int) ≤ 7 by omega)]
  have e1 : ∀ v : Nat → Int32, va_up I (o + 3) v o 10 = nI n := fun v => by rw [up_n (by omega)]; exact h
  have e2 : ∀ v w : Nat → Int32, va_up (va_up I (o + 3) v) (o + 4) w o 10 = nI n := fun v w => by rw [up_n (by omega)]; exact e1 v
  have e3 : ∀ v w x : Nat → Int32, va_up (va_up (va_up I (o + 3) v) (o + 4) w) (o + 5) x o 10 = nI n := fun v w x => by rw [up_n (by omega)]; exact e2 v w
  have e4 : ∀ v w x y : Nat → Int32, va_up (va_up (va_up (va_up I (o + 3) v) (o + 4) w) (o + 5) x) (o + 6) y o 10 = nI n := fun v w x y => by rw [up_n (by omega)]; exact e3 v w x
  simp only [h, zn_e, e1, e2, e3, e4, zg_t (nI_in c3 (show 8 < 2 ^ 31 by omega))]
  simp only [nI_clamp (show n < 2 ^ 31 by omega), nI_1]
  refine ⟨_, rfl, fun k h1 h2 h3 h4 h5 => ?_, ?_, fun j hj => ?_, ⟨?_, ?_, ?_, ?_⟩, fun j hj => ⟨?_, ?_, ?_, ?_⟩⟩
  · rw [up_n h1, up_n h5, up_n h4, up_n h3, up_n h2]
  · rw [up_s, up_s]
  · rw [up_s, up_n hj, up_n (by omega), up_n (by omega), up_n (by omega), up_n (by omega)]
  · rw [up_n (by omega), up_n (by omega), up_n (by omega), up_n (by omega), up_s, ud_s]
  · rw [up_n (by omega), up_n (by omega), up_n (by omega), up_s, ud_s]
  · rw [up_n (by omega), up_n (by omega), up_s, ud_s]
  · rw [up_n (by omega), up_s, ud_s]
  · rw [up_n (by omega), up_n (by omega), up_n (by omega), up_n (by omega), up_s, ud_n hj]
  · rw [up_n (by omega), up_n (by omega), up_n (by omega), up_s, ud_n hj, up_n (by omega)]
  · rw [up_n (by omega), up_n (by omega), up_s, ud_n hj, up_n (by omega), up_n (by omega)]
  · rw [up_n (by omega), up_s, ud_n hj, up_n (by omega), up_n (by omega), up_n (by omega)]
