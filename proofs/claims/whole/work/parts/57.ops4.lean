/-! keep, back -/
/-- a loop that copies within one row -/
theorem cp_run {I : zI} {q k0 a c : Nat} {body : Int32 → zI → Option ((Int32 × zI) ⊕ zI)} (hap : a + k0 ≤ c ∨ c + k0 ≤ a)
    (hs : ∀ (i : Nat) (X : zI), i < k0 → body (nI i) X = some (.inl (nI (i + 1), va_up X q (upd (X q) (c + i) (X q (a + i)))))) (he : ∀ X : zI, body (nI k0) X = some (.inr X)) (hk : k0 < 1000) :
    ∃ r : Nat → Int32, zl (fun v : (Int32 × zI) => body v.1 v.2) zF (0, I) = some (va_up I q r) ∧ (∀ i, i < k0 → r (c + i) = I q (a + i)) ∧ ∀ j, (j < c ∨ c + k0 ≤ j) → r j = I q j := by
  refine ⟨fun j => if c ≤ j ∧ j < c + k0 then I q (a + (j - c)) else I q j, ?_, fun i hi => ?_, fun j hj => ?_⟩
  · have h0 : (0, I) = ((fun i => (nI i, va_up I q (fun j => if c ≤ j ∧ j < c + i then I q (a + (j - c)) else I q j))) 0 : Int32 × zI) := by
      show ((0, I) : Int32 × zI) = (nI 0, _)
      congr 1
      funext x
      by_cases hx : x = q
      · subst hx
        rw [up_s]
        funext j
        rw [if_neg (by omega)]
      · rw [up_n hx]
    rw [h0]
    refine zl_run (S := fun i => (nI i, va_up I q (fun j => if c ≤ j ∧ j < c + i then I q (a + (j - c)) else I q j))) _ k0 (fun i hi => ?_) ?_ zF (by unfold zF; omega)
    · show body (nI i) _ = _
      rw [hs i _ hi]
      congr 3
      funext x
      by_cases hx : x = q
      · subst hx
        simp only [up_s]
        funext j
        unfold upd
        by_cases hj : j = c + i
        · subst hj
          rw [if_pos rfl, if_pos (by omega), if_neg (by omega)]
          congr 1
          omega
        · rw [if_neg hj]
          by_cases h1 : c ≤ j ∧ j < c + i
          · rw [if_pos h1, if_pos (by omega)]
          · rw [if_neg h1, if_neg (by omega)]
      · simp only [up_n hx]
    · exact he _
  · show (if c ≤ c + i ∧ c + i < c + k0 then I q (a + (c + i - c)) else I q (c + i)) = _
    rw [if_pos (by omega), Nat.add_sub_cancel_left]
  · show (if c ≤ j ∧ j < c + k0 then I q (a + (j - c)) else I q j) = _
    rw [if_neg (by omega)]
/-- the reference's copy of the numbers and the log -/
theorem m_copies {I : zI} {J : zJ} {a c : Nat} (ha : a ≤ 2) (hc : c ≤ 2) (hac : a ≠ c) : ∃ I2 : zI, f_X12_copies I J (nI a) (nI c) = some I2 ∧ (∀ k, k ≠ 12 → k ≠ 13 → k ≠ 14 → I2 k = I k) ∧ (∀ k, k < 3 → I2 12 (3 * c + k) = I 12 (3 * a + k)) ∧ (∀ d k, d ≠ c → k < 3 → I2 12 (3 * d + k) = I 12 (3 * d + k)) ∧ I2 13 c = I 13 a ∧ (∀ d, d ≠ c → I2 13 d = I 13 d) ∧ (∀ k, k < 40 → I2 14 (40 * c + k) = I 14 (40 * a + k)) ∧ ∀ d k, d ≠ c → k < 40 → I2 14 (40 * d + k) = I 14 (40 * d + k) := by
  have r1 := cp_run (I := I) (q := 12) (k0 := 3) (a := 3 * a) (c := 3 * c) (body := fun x X => f_X12_copies_L2 (nI a) (nI c) x X) (by omega) (fun i X hi => by
    show f_X12_copies_L2 (nI a) (nI c) (nI i) X = _
    unfold f_X12_copies_L2
    rw [if_neg (show ¬ (3 : Int32) ≤ nI i from nI_ge (b := 3) hi (by omega)), show (3 : Int32) = nI 3 from rfl, nI_mul, nI_mul, nI_add, nI_add, zg_t (nI_in (by omega) (by omega)), zg_t (nI_in (by omega) (by omega)), zn_e, zn_e, nI_1, nI_clamp (by omega), nI_clamp (by omega)]) (fun X => by
    show f_X12_copies_L2 (nI a) (nI c) (nI 3) X = _
    unfold f_X12_copies_L2
    rw [if_pos (show (3 : Int32) ≤ nI 3 by decide)]) (by omega)
  obtain ⟨r12, e1, p1, p2⟩ := r1
  obtain ⟨X, hX⟩ : ∃ X : zI, X = va_up (va_up I 12 r12) 13 (upd (I 13) c (I 13 a)) := ⟨_, rfl⟩
  have r2 := cp_run (I := X) (q := 14) (k0 := 40) (a := 40 * a) (c := 40 * c) (body := fun x X => f_X12_copies_L47 (nI a) (nI c) x X) (by omega) (fun i X hi => by
    show f_X12_copies_L47 (nI a) (nI c) (nI i) X = _
    unfold f_X12_copies_L47
    rw [if_neg (show ¬ (40 : Int32) ≤ nI i from nI_ge (b := 40) hi (by omega)), show (40 : Int32) = nI 40 from rfl, nI_mul, nI_mul, nI_add, nI_add, zg_t (nI_in (by omega) (by omega)), zg_t (nI_in (by omega) (by omega)), zn_e, zn_e, nI_1, nI_clamp (by omega), nI_clamp (by omega)]) (fun X => by
    show f_X12_copies_L47 (nI a) (nI c) (nI 40) X = _
    unfold f_X12_copies_L47
    rw [if_pos (show (40 : Int32) ≤ nI 40 by decide)]) (by omega)
  obtain ⟨r14, e2, q1, q2⟩ := r2
  have x14 : X 14 = I 14 := by rw [hX, up_n (by omega), up_n (by omega)]
  have x12 : X 12 = r12 := by rw [hX, up_n (by omega), up_s]
  have x13 : X 13 = upd (I 13) c (I 13 a) := by rw [hX, up_s]
  refine ⟨va_up X 14 r14, ?_, ?_, ?_, ?_, ?_, ?_, ?_, ?_⟩
  · unfold f_X12_copies
    rw [e1, zb1_s, zg_t (nI_in (by omega) (by omega)), zg_t (nI_in (by omega) (by omega)), zn_e, nI_clamp (by omega), nI_clamp (by omega), up_n (by omega), ← hX, e2, zb1_s]
  · intro k k1 k2 k3
    rw [up_n k3, hX, up_n k2, up_n k1]
  · intro k hk
    rw [up_n (by omega), x12, p1 k hk]
  · intro d k hd hk
    rw [up_n (by omega), x12, p2 _ (by omega)]
  · rw [up_n (by omega), x13, ud_s]
  · intro d hd
    rw [up_n (by omega), x13, ud_n hd]
  · intro k hk
    rw [up_s, q1 k hk, x14]
  · intro d k hd hk
    rw [up_s, q2 _ (by omega), x14]
