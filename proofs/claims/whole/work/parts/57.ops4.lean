/-! keep, back -/
/-- a loop that copies within one row -/
theorem cp_run {I : zI} {q k0 a c : Nat} {body : Int32 → zI → Option ((Int32 × zI) ⊕ zI)} (hap : a + k0 ≤ c ∨ c + k0 ≤ a)
    (hs : ∀ (i : Nat) (X : zI), i < k0 → body (nI i) X = some (.inl (nI (i + 1), va_up X q (upd (X q) (c + i) (X q (a + i)))))) (he : ∀ X : zI, body (nI k0) X = some (.inr X)) (hk : k0 < 1000) :
    ∃ r : Nat → Int32, zl (fun v : (Int32 × zI) => body v.1 v.2) zF (0, I) = some (va_up I q r) ∧ (∀ i, i < k0 → r (c + i) = I q (a + i)) ∧ ∀ j, (j < c ∨ c + k0 ≤ j) → r j = I q j := by
  refine ⟨fun j => if c ≤ j ∧ j < c + k0 then I q (a + (j - c)) else I q j, ?_, fun i hi => ?_, fun j hj => ?_⟩
  · have h0 : (0, I) = ((fun i => (nI i, va_up I q (fun j => if c ≤ j ∧ j < c + i then I q (a + (j - c)) else I q j))) 0 : Int32 × zI) := by
      show ((0, I) : Int32 × zI) = (nI 0, _)
      congr 1
      funext x
      by_cases hx : x = q
      · subst hx
        rw [up_s]
        funext j
        rw [if_neg (by omega)]
      · rw [up_n hx]
    rw [h0]
    refine zl_run (S := fun i => (nI i, va_up I q (fun j => if c ≤ j ∧ j < c + i then I q (a + (j - c)) else I q j))) _ k0 (fun i hi => ?_) ?_ zF (by unfold zF; omega)
    · show body (nI i) _ = _
      rw [hs i _ hi]
      congr 3
      funext x
      by_cases hx : x = q
      · subst hx
        simp only [up_s]
        funext j
        unfold upd
        dsimp only
        by_cases hj : j = c + i
        · subst hj
          rw [if_pos rfl, if_neg (by omega), if_pos (by omega)]
          congr 1
          omega
        · rw [if_neg hj]
          by_cases h1 : c ≤ j ∧ j < c + i
          · rw [if_pos h1, if_pos (by omega)]
          · rw [if_neg h1, if_neg (by omega)]
      · simp only [up_n hx]
    · exact he _
  · show (if c ≤ c + i ∧ c + i < c + k0 then I q (a + (c + i - c)) else I q (c + i)) = _
    rw [if_pos (by omega), Nat.add_sub_cancel_left]
  · show (if c ≤ j ∧ j < c + k0 then I q (a + (j - c)) else I q j) = _
    rw [if_neg (by omega)]
/-- the reference's copy of the numbers and the log -/
theorem m_copies {I : zI} {J : zJ} {a c : Nat} (ha : a ≤ 2) (hc : c ≤ 2) (hac : a ≠ c) : ∃ I2 : zI, f_X12_copies I J (nI a) (nI c) = some I2 ∧ (∀ k, k ≠ 12 → k ≠ 13 → k ≠ 14 → I2 k = I k) ∧ (∀ k, k < 3 → I2 12 (3 * c + k) = I 12 (3 * a + k)) ∧ (∀ d k, d ≠ c → k < 3 → I2 12 (3 * d + k) = I 12 (3 * d + k)) ∧ I2 13 c = I 13 a ∧ (∀ d, d ≠ c → I2 13 d = I 13 d) ∧ (∀ k, k < 40 → I2 14 (40 * c + k) = I 14 (40 * a + k)) ∧ ∀ d k, d ≠ c → k < 40 → I2 14 (40 * d + k) = I 14 (40 * d + k) := by
  have r1 := cp_run (I := I) (q := 12) (k0 := 3) (a := 3 * a) (c := 3 * c) (body := fun x X => f_X12_copies_L2 (nI a) (nI c) x X) (by omega) (fun i X hi => by
    show f_X12_copies_L2 (nI a) (nI c) (nI i) X = _
    unfold f_X12_copies_L2
    rw [if_neg (show ¬ (3 : Int32) ≤ nI i from nI_ge (b := 3) hi (by omega)), show (3 : Int32) = nI 3 from rfl, nI_mul, nI_mul, nI_add, nI_add, zg_t (nI_in (by omega) (by omega)), zg_t (nI_in (by omega) (by omega)), zn_e, zn_e, nI_1, nI_clamp (by omega), nI_clamp (by omega)]) (fun X => by
    show f_X12_copies_L2 (nI a) (nI c) (nI 3) X = _
    unfold f_X12_copies_L2
    rw [if_pos (show (3 : Int32) ≤ nI 3 by decide)]) (by omega)
  obtain ⟨r12, e1, p1, p2⟩ := r1
  obtain ⟨X, hX⟩ : ∃ X : zI, X = va_up (va_up I 12 r12) 13 (upd (I 13) c (I 13 a)) := ⟨_, rfl⟩
  have r2 := cp_run (I := X) (q := 14) (k0 := 40) (a := 40 * a) (c := 40 * c) (body := fun x X => f_X12_copies_L47 (nI a) (nI c) x X) (by omega) (fun i X hi => by
    show f_X12_copies_L47 (nI a) (nI c) (nI i) X = _
    unfold f_X12_copies_L47
    rw [if_neg (show ¬ (40 : Int32) ≤ nI i from nI_ge (b := 40) hi (by omega)), show (40 : Int32) = nI 40 from rfl, nI_mul, nI_mul, nI_add, nI_add, zg_t (nI_in (by omega) (by omega)), zg_t (nI_in (by omega) (by omega)), zn_e, zn_e, nI_1, nI_clamp (by omega), nI_clamp (by omega)]) (fun X => by
    show f_X12_copies_L47 (nI a) (nI c) (nI 40) X = _
    unfold f_X12_copies_L47
    rw [if_pos (show (40 : Int32) ≤ nI 40 by decide)]) (by omega)
  obtain ⟨r14, e2, q1, q2⟩ := r2
  have x14 : X 14 = I 14 := by rw [hX, up_n (by omega), up_n (by omega)]
  have x12 : X 12 = r12 := by rw [hX, up_n (by omega), up_s]
  have x13 : X 13 = upd (I 13) c (I 13 a) := by rw [hX, up_s]
  refine ⟨va_up X 14 r14, ?_, ?_, ?_, ?_, ?_, ?_, ?_, ?_⟩
  · unfold f_X12_copies
    rw [e1, zb1_s, zg_t (nI_in (by omega) (by omega)), zg_t (nI_in (by omega) (by omega)), zn_e, nI_clamp (by omega), nI_clamp (by omega), up_n (by omega), ← hX, e2, zb1_s]
  · intro k k1 k2 k3
    rw [up_n k3, hX, up_n k2, up_n k1]
  · intro k hk
    rw [up_n (by omega), x12, p1 k hk]
  · intro d k hd hk
    rw [up_n (by omega), x12, p2 _ (by omega)]
  · rw [up_n (by omega), x13, ud_s]
  · intro d hd
    rw [up_n (by omega), x13, ud_n hd]
  · intro k hk
    rw [up_s, q1 k hk, x14]
  · intro d k hd hk
    rw [up_s, q2 _ (by omega), x14]

theorem x_copy {I : zI} {J : zJ} {o p : Nat} (h : p + 3 ≤ o ∨ o + 3 ≤ p) : ∃ I2 : zI, f_X1_copy I J o p = some I2 ∧ (∀ k, k ≠ o → k ≠ o + 1 → k ≠ o + 2 → I2 k = I k) ∧ (I2 o 2 = I p 2 ∧ I2 o 3 = I p 3 ∧ I2 o 4 = I p 4 ∧ I2 o 5 = I p 5) ∧ ∀ k, k < 20 → I2 (o + 1) k = I (p + 1) k ∧ I2 (o + 2) k = I (p + 2) k := by
  unfold f_X1_copy
  simp only [zn_e]
  refine ⟨_, rfl, fun k h1 h2 h3 => ?_, ?_, fun k hk => ?_⟩
  · rw [up_n h3, up_n h2, up_n h1, up_n h1, up_n h1, up_n h1]
  · simp only [up_n (show o ≠ o + 2 by omega), up_n (show o ≠ o + 1 by omega), up_s, up_n (show p ≠ o by omega), up_n (show (2 : Nat) ≠ 5 by omega), up_n (show (2 : Nat) ≠ 4 by omega), up_n (show (2 : Nat) ≠ 3 by omega), up_n (show (3 : Nat) ≠ 5 by omega), up_n (show (3 : Nat) ≠ 4 by omega), up_n (show (4 : Nat) ≠ 5 by omega), and_self]
  · have e : ∀ (f g : Nat → Int32), va_cpy f g 0 0 20 k = f k := fun f g => by simp [va_cpy, hk]
    simp only [up_n (show o + 1 ≠ o + 2 by omega), up_s, e, up_n (show p + 1 ≠ o by omega), up_n (show p + 2 ≠ o + 1 by omega), up_n (show p + 2 ≠ o by omega), and_self]
theorem pu_keep : op_keep zRel := by
  intro I J IM JM hR
  have hR0 := hR
  obtain ⟨b, hb, hC, hM, hT, hH, hK, hP⟩ := hR
  obtain ⟨n, hn, g2, g3, g4⟩ := id hK
  obtain ⟨sp, li, ev, r, h1, h2, h3, h4, h5, h6, h7⟩ := id hH
  simp only [Nat.mul_zero, Nat.zero_add] at h6 h7
  unfold f_X11_keep f_X12_keep
  rw [g2, g3, e_within, zb1_s, zif, nI_toInt (by omega)]
  simp only [k0, show ((2 : Int32) - 1).toInt = 1 from rfl]
  by_cases c : n = 2
  · subst c
    rw [if_neg (by omega), if_pos (show nI 2 = 2 from rfl)]
    exact ⟨_, _, _, rfl, rfl, hR0⟩
  · rw [if_pos (by omega), if_neg (show ¬ nI n = 2 from fun q => c ((nI_eq (a := n) (b := 2) (by omega) (by omega)).mp q)), zg_t (nI_in (by omega) (by omega)), nI_clamp (by omega), zn_e, nI_1]
    obtain ⟨X, hX, x1, x2, x3⟩ := x_copy (I := I) (J := J) (o := 27 + 3 * n) (p := 24) (by omega)
    obtain ⟨Y, hY⟩ : ∃ Y : zI, Y = va_up IM 0 (va_up (IM 0) 13 (nI (n + 1))) := ⟨_, rfl⟩
    have y0 : Y 0 13 = nI (n + 1) := by rw [hY, up_s, up_s]
    have yk : ∀ k, k ≠ 0 → Y k = IM k := fun k hk => by rw [hY, up_n hk]
    obtain ⟨Z, hZ, z1, z2, z3, z4, z5, z6, z7⟩ := m_copies (I := Y) (J := JM) (a := 0) (c := n + 1) (by omega) (by omega) (by omega)
    rw [hX, zb1_s, zn_e, x1 0 (by omega) (by omega) (by omega), g2, nI_1, ← hY, y0, show (0 : Int32) = nI 0 from rfl, hZ, zb1_s, z1 0 (by omega) (by omega) (by omega), y0]
    simp only [up_s]
    refine ⟨_, _, _, rfl, rfl, b, hb, ?_, ?_, ?_, ?_, ?_, ?_⟩
    · exact hC.eq (fun k hk => by rw [up_n (by omega), x1 _ (by omega) (by omega) (by omega)])
    · exact hM.eq (fun k k1 k2 => by rw [z1 _ (by omega) (by omega) (by omega), yk _ (by omega)])
    · exact hT.eq (by rw [up_n (by omega), x1 _ (by omega) (by omega) (by omega)]) (by rw [up_n (by omega), x1 _ (by omega) (by omega) (by omega)]) (by rw [z1 _ (by omega) (by omega) (by omega), hY, up_s, up_n (by omega)]) (by rw [z1 _ (by omega) (by omega) (by omega), yk _ (by omega)])
    · refine hH.eq (fun k hk => by rw [up_n (by omega), x1 _ (by omega) (by omega) (by omega)]) (fun k hk => ?_) ?_ (fun k hk => ?_)
      · rw [z3 0 k (by omega) hk, yk _ (by omega)]
      · rw [z5 0 (by omega), yk _ (by omega)]
      · rw [z7 0 k (by omega) hk, yk _ (by omega)]
    · refine ⟨n + 1, by omega, by rw [up_s, up_s], by rw [z1 0 (by omega) (by omega) (by omega), y0], fun j hj => ?_⟩
      by_cases e : j = n
      · subst e
        refine ⟨sp, li, ev, r, h1, h2, h3, h4, ?_, ?_, fun k hk => ?_⟩
        · rw [up_n (by omega), x2.1, x2.2.1, x2.2.2.1, x2.2.2.2]
          exact h5
        · refine ⟨?_, ?_, ?_, ?_⟩
          · rw [show 3 * (j + 1) = 3 * (j + 1) + 0 from rfl, z2 0 (by omega), yk _ (by omega)]; exact h6.1
          · rw [z2 1 (by omega), yk _ (by omega)]; exact h6.2.1
          · rw [z2 2 (by omega), yk _ (by omega)]; exact h6.2.2.1
          · rw [z4, yk _ (by omega)]; exact h6.2.2.2
        · rw [up_n (by omega), up_n (by omega), (x3 k (by omega)).1, (x3 k (by omega)).2, z6 (2 * k) (by omega), show 40 * (j + 1) + 2 * k + 1 = 40 * (j + 1) + (2 * k + 1) from rfl, z6 (2 * k + 1) (by omega), yk _ (by omega)]
          have := h7 k hk
          simpa using this
      · refine (g4 j (by omega)).eq (fun k hk => by rw [up_n (by omega), x1 _ (by omega) (by omega) (by omega)]) (fun k hk => ?_) ?_ (fun k hk => ?_)
        · rw [z3 (j + 1) k (by omega) hk, yk _ (by omega)]
        · rw [z5 (j + 1) (by omega), yk _ (by omega)]
        · rw [z7 (j + 1) k (by omega) hk, yk _ (by omega)]
    · exact hP.eq (fun k k1 k2 => by rw [up_n (by omega), x1 _ (by omega) (by omega) (by omega)]) (fun k k1 k2 => rfl)
theorem pu_back : op_back zRel := by
  intro I J IM JM hR
  have hR0 := hR
  obtain ⟨b, hb, hC, hM, hT, hH, hK, hP⟩ := hR
  obtain ⟨n, hn, g2, g3, g4⟩ := id hK
  unfold f_X11_back f_X12_back
  rw [g2, g3, e_within, zb1_s, zif, nI_toInt (by omega)]
  simp only [k1, k2]
  by_cases c : n = 0
  · subst c
    rw [if_neg (by omega), if_pos (show nI 0 = 0 from rfl)]
    exact ⟨_, _, _, rfl, rfl, hR0⟩
  · obtain ⟨m, rfl⟩ : ∃ m, n = m + 1 := ⟨n - 1, by omega⟩
    obtain ⟨sp, li, ev, r, h1, h2, h3, h4, h5, h6, h7⟩ := g4 m (by omega)
    rw [if_pos (by omega), if_neg (nI_ne0 (by omega) (by omega)), zn_e, nI_pred]
    obtain ⟨Y, hY⟩ : ∃ Y : zI, Y = va_up I 0 (va_up (I 0) 5 (nI m)) := ⟨_, rfl⟩
    have y0 : Y 0 5 = nI m := by rw [hY, up_s, up_s]
    have yk : ∀ k, k ≠ 0 → Y k = I k := fun k hk => by rw [hY, up_n hk]
    obtain ⟨X, hX, x1, x2, x3⟩ := x_copy (I := Y) (J := J) (o := 24) (p := 27 + 3 * m) (by omega)
    obtain ⟨Z, hZ, z1, z2, z3, z4, z5, z6, z7⟩ := m_copies (I := IM) (J := JM) (a := m + 1) (c := 0) (by omega) (by omega) (by omega)
    rw [← hY, y0, zg_t (nI_in (by omega) (by omega)), nI_clamp (by omega), hX, zb1_s, x1 0 (by omega) (by omega) (by omega), y0, show (0 : Int32) = nI 0 from rfl, hZ, zb1_s, zn_e, z1 0 (by omega) (by omega) (by omega), g3, nI_pred]
    simp only [up_s]
    refine ⟨_, _, _, rfl, rfl, b, hb, ?_, ?_, ?_, ?_, ?_, ?_⟩
    · exact hC.eq (fun k hk => by rw [x1 _ (by omega) (by omega) (by omega), yk _ (by omega)])
    · exact hM.eq (fun k k1 k2 => by rw [up_n (by omega), z1 _ (by omega) (by omega) (by omega)])
    · exact hT.eq (by rw [x1 _ (by omega) (by omega) (by omega), yk _ (by omega)]) (by rw [x1 _ (by omega) (by omega) (by omega), yk _ (by omega)]) (by rw [up_s, up_n (by omega)]) (by rw [up_n (by omega), z1 _ (by omega) (by omega) (by omega)])
    · refine ⟨sp, li, ev, r, h1, h2, h3, h4, ?_, ?_, fun k hk => ?_⟩
      · rw [x2.1, x2.2.1, x2.2.2.1, x2.2.2.2, yk _ (by omega)]
        exact h5
      · refine ⟨?_, ?_, ?_, ?_⟩
        · rw [up_n (by omega), show 3 * 0 = 3 * 0 + 0 from rfl, z2 0 (by omega)]; exact h6.1
        · rw [up_n (by omega), z2 1 (by omega)]; exact h6.2.1
        · rw [up_n (by omega), z2 2 (by omega)]; exact h6.2.2.1
        · rw [up_n (by omega), z4]; exact h6.2.2.2
      · rw [(x3 k (by omega)).1, (x3 k (by omega)).2, up_n (by omega), z6 (2 * k) (by omega), show 40 * 0 + 2 * k + 1 = 40 * 0 + (2 * k + 1) from rfl, z6 (2 * k + 1) (by omega), yk _ (by omega), yk _ (by omega)]
        exact h7 k hk
    · refine ⟨m, by omega, by rw [x1 0 (by omega) (by omega) (by omega), y0], by rw [up_s, up_s], fun j hj => ?_⟩
      refine (g4 j (by omega)).eq (fun k hk => by rw [x1 _ (by omega) (by omega) (by omega), yk _ (by omega)]) (fun k hk => ?_) ?_ (fun k hk => ?_)
      · rw [up_n (by omega), z3 (j + 1) k (by omega) hk]
      · rw [up_n (by omega), z5 (j + 1) (by omega)]
      · rw [up_n (by omega), z7 (j + 1) k (by omega) hk]
    · exact hP.eq (fun k k1 k2 => by rw [x1 _ (by omega) (by omega) (by omega), yk _ (by omega)]) (fun k k1 k2 => rfl)
