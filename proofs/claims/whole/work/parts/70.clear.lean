/-! laying: a bench cleared -/
theorem x_clear {I : zI} {J : zJ} {o : Nat} : ∃ I2 : zI, f_X0_clear I J o = some I2 ∧ (∀ k, k ≠ o → k ≠ o + 9 → I2 k = I k) ∧ (I2 o 9 = nI 0 ∧ I2 o 10 = nI 0 ∧ I2 o 11 = nI 0 ∧ I2 o 12 = nI 4 ∧ I2 o 13 = nI 9 ∧ I2 o 14 = nI 60 ∧ I2 o 15 = nI 8 ∧ I2 o 16 = nI 999) ∧ (∀ j, j < 9 ∨ 16 < j → I2 o j = I o j) ∧ ∀ w, w ≤ 100 → I2 (o + 9) w = -1 := by
  unfold f_X0_clear
  simp only [zn_e, up_s]
  obtain ⟨I1, f1, f2, f3⟩ := x_fill (I := va_up (va_up (va_up (va_up (va_up (va_up (va_up (va_up I o (va_up (I o) 9 0)) o (va_up (va_up (I o) 9 0) 10 0)) o (va_up (va_up (va_up (I o) 9 0) 10 0) 11 0)) o (va_up (va_up (va_up (va_up (I o) 9 0) 10 0) 11 0) 12 4)) o (va_up (va_up (va_up (va_up (va_up (I o) 9 0) 10 0) 11 0) 12 4) 13 9)) o (va_up (va_up (va_up (va_up (va_up (va_up (I o) 9 0) 10 0) 11 0) 12 4) 13 9) 14 60)) o (va_up (va_up (va_up (va_up (va_up (va_up (va_up (I o) 9 0) 10 0) 11 0) 12 4) 13 9) 14 60) 15 8)) o (va_up (va_up (va_up (va_up (va_up (va_up (va_up (va_up (I o) 9 0) 10 0) 11 0) 12 4) 13 9) 14 60) 15 8) 16 999)) (J := J) (q := o + 9) (n := 101) (by omega) (-1)
  refine ⟨I1, by rw [f1, zb1_s], fun k h1 h2 => ?_, ?_, fun j hj => ?_, fun w hw => f3 w (by omega)⟩
  · rw [f2 k h2]; simp only [up_n h1]
  · rw [f2 o (by omega), up_s]
    refine ⟨?_, ?_, ?_, ?_, ?_, ?_, ?_, ?_⟩ <;> rfl
  · rw [f2 o (by omega), up_s]
    rw [up_n (by omega), up_n (by omega), up_n (by omega), up_n (by omega), up_n (by omega), up_n (by omega), up_n (by omega), up_n (by omega)]
