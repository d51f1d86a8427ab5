/-! laying: the class's chances filled up -/
def flR (r : Nat → Int32) : Nat → Int32
  | 0 => if 0 ≤ r 0 then r 0 else 0
  | w + 1 => if 0 ≤ r (w + 1) then r (w + 1) else flR r w
def flL (r : Nat → Int32) : Nat → Int32
  | 0 => 0
  | w + 1 => flR r w
theorem flR_e (r : Nat → Int32) (w : Nat) : flR r w = if 0 ≤ r w then r w else flL r w := by
  cases w with
  | zero => rfl
  | succ w => rfl
theorem x_finL {I : zI} {J : zJ} {o : Nat} : ∃ I2 : zI, zl (fun v : (Int32 × Int32 × zI) => f_X0_finish_L20 o v.1 v.2.1 v.2.2) zF (0, 0, I) = some I2 ∧ ((∀ k, k ≠ o + 9 → I2 k = I k) ∧ ∀ w, w ≤ 100 → I2 (o + 9) w = flR (I (o + 9)) w) := by
  refine zl_inv (fun k v => v.1 = flL (I (o + 9)) k ∧ v.2.1 = nI k ∧ (∀ j, j ≠ o + 9 → v.2.2 j = I j) ∧ (∀ w, w < k → v.2.2 (o + 9) w = flR (I (o + 9)) w) ∧ ∀ w, k ≤ w → v.2.2 (o + 9) w = I (o + 9) w) _ 101 0 _ ⟨rfl, rfl, fun _ _ => rfl, fun w hw => by omega, fun _ _ => rfl⟩ ?_ ?_ zF (by unfold zF; omega)
  · intro k v _ hk hv
    obtain ⟨x, y, I6⟩ := v
    obtain ⟨h1, h2, h3, h4, h5⟩ := hv
    have h1 : x = flL (I (o + 9)) k := h1
    have h2 : y = nI k := h2
    subst h1 h2
    have h3 : ∀ j, j ≠ o + 9 → I6 j = I j := h3
    have h4 : ∀ w, w < k → I6 (o + 9) w = flR (I (o + 9)) w := h4
    have h5 : ∀ w, k ≤ w → I6 (o + 9) w = I (o + 9) w := h5
    have hkn : k < 101 := by omega
    show ∃ v', f_X0_finish_L20 o (flL (I (o + 9)) k) (nI k) I6 = some (.inl v') ∧ _
    unfold f_X0_finish_L20
    rw [if_neg (show ¬ (101 : Int32) ≤ nI k from nI_ge (a := k) (b := 101) (by omega) (by omega))]
    simp only [zg_t (nI_in hkn (show 101 < 2 ^ 31 by omega))]
    simp only [nI_clamp (show k < 2 ^ 31 by omega), zn_e, nI_1]
    have e : (if 0 ≤ I6 (o + 9) k then some (I6 (o + 9) k) else some (flL (I (o + 9)) k)) = some (flR (I (o + 9)) k) := by
      rw [h5 k (Nat.le_refl _), flR_e]
      by_cases c : 0 ≤ I (o + 9) k
      · rw [if_pos c, if_pos c]
      · rw [if_neg c, if_neg c]
    rw [e, zb1_s]
    refine ⟨_, rfl, rfl, rfl, fun j hj => ?_, fun w hw => ?_, fun w hw => ?_⟩
    · dsimp only
      rw [up_n hj]; exact h3 j hj
    · dsimp only
      rw [up_s]
      by_cases d : w = k
      · rw [d, ud_s]
      · rw [ud_n d]; exact h4 w (by omega)
    · dsimp only
      rw [up_s, ud_n (by omega)]; exact h5 w (by omega)
  · intro v hv
    obtain ⟨x, y, I6⟩ := v
    obtain ⟨h1, h2, h3, h4, h5⟩ := hv
    have h2 : y = nI 101 := h2
    subst h2
    exact ⟨I6, if_pos (nI_le (a := 101) (b := 101) (by omega) (by omega)), h3, fun w hw => h4 w (by omega)⟩
