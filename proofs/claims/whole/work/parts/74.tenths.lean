/-! laying: the tenths added up -/
def smT (t : Nat → Nat) : Nat → Nat
  | 0 => 0
  | n + 1 => smT t n + t n
theorem x_tenL {I : zI} {J : zJ} {o n : Nat} {t : Nat → Nat} (hn : n ≤ 4) (h : I o 11 = nI n) (ht : ∀ i, i < n → f_X0_tenthsOf I J o (nI i) = some (nI (t i))) : zl (fun v : (Int32 × Int32) => f_X0_finish_L66 I o J v.1 v.2) zF (0, 0) = some (nI (smT t n)) := by
  refine zl_run (S := fun k => (nI (smT t k), nI k)) _ n (fun k hk => ?_) ?_ zF (by unfold zF; omega)
  · show f_X0_finish_L66 I o J (nI (smT t k)) (nI k) = _
    unfold f_X0_finish_L66
    rw [h, if_neg (nI_ge hk (by omega)), ht k hk, zb1_s, zn_e, zn_e, nI_add, nI_1]
    rfl
  · show f_X0_finish_L66 I o J (nI (smT t n)) (nI n) = _
    unfold f_X0_finish_L66
    rw [h, if_pos (nI_le (Nat.le_refl _) (by omega))]
