/-! pass, breaks, hand, off, log -/
theorem zif {c : Prop} [Decidable c] {α : Sort _} {x y : α} : (if zi c = 0 then x else y) = if c then y else x := by unfold zi; by_cases h : c <;> simp [h]
theorem k0 : (0 : Int32).toInt = 0 := rfl
theorem K0 : (0 : Int64).toInt = 0 := rfl
theorem k1 : (1 : Int32).toInt = 1 := rfl
theorem K1 : (1 : Int64).toInt = 1 := rfl
theorem k2 : (2 : Int32).toInt = 2 := rfl
theorem K2 : (2 : Int64).toInt = 2 := rfl
theorem k3 : (3 : Int32).toInt = 3 := rfl
theorem K3 : (3 : Int64).toInt = 3 := rfl
theorem k4 : (4 : Int32).toInt = 4 := rfl
theorem K4 : (4 : Int64).toInt = 4 := rfl
theorem k5 : (5 : Int32).toInt = 5 := rfl
theorem K5 : (5 : Int64).toInt = 5 := rfl
theorem k8 : (8 : Int32).toInt = 8 := rfl
theorem K8 : (8 : Int64).toInt = 8 := rfl
theorem k19 : (19 : Int32).toInt = 19 := rfl
theorem K19 : (19 : Int64).toInt = 19 := rfl
theorem k20 : (20 : Int32).toInt = 20 := rfl
theorem K20 : (20 : Int64).toInt = 20 := rfl
theorem k30 : (30 : Int32).toInt = 30 := rfl
theorem K30 : (30 : Int64).toInt = 30 := rfl
theorem k47 : (47 : Int32).toInt = 47 := rfl
theorem K47 : (47 : Int64).toInt = 47 := rfl
theorem k99 : (99 : Int32).toInt = 99 := rfl
theorem K99 : (99 : Int64).toInt = 99 := rfl
theorem k100 : (100 : Int32).toInt = 100 := rfl
theorem K100 : (100 : Int64).toInt = 100 := rfl
theorem k999 : (999 : Int32).toInt = 999 := rfl
theorem K999 : (999 : Int64).toInt = 999 := rfl
theorem k9999 : (9999 : Int32).toInt = 9999 := rfl
theorem K9999 : (9999 : Int64).toInt = 9999 := rfl
theorem pu_pass : op_pass zRel := by
  intro I J IM JM hR p1 p2 p3 p4 p5
  have hR0 := hR
  obtain ⟨b, hb, hC, hM, hT, hH, hK, hP⟩ := hR
  have h0 := bS hb
  have h8 := bP hb
  have h4 := bT hb
  suffices h : ∃ r : Int32, f_X11_pass I J p1 p2 p3 p4 p5 = some r ∧ f_X12_pass IM JM p1 p2 p3 p4 p5 = some r by
    obtain ⟨r, h1, h2⟩ := h
    exact ⟨r, h1, h2, hR0⟩
  unfold f_X11_pass f_X12_pass
  simp only [x_hasPiece hb hC, m_isPiece hb hM, x_hasSpeed hb hC, m_isSpeed hb hM, x_hasSteel hb hC, m_isSteel hb hM, e_within, e_in, t64, zb1_s, zif, k0, k1, k2, k8, K0, K1, K2, K8]
  by_cases c1 : 0 ≤ p1.toInt ∧ p1.toInt < b 9 1
  case neg => simp only [if_neg c1]; exact ⟨_, rfl, rfl⟩
  by_cases c2 : 0 ≤ p2.toInt ∧ p2.toInt < b 9 0
  case neg => simp only [if_pos c1, if_neg c2]; exact ⟨_, rfl, rfl⟩
  by_cases c3 : 0 ≤ p4.toInt ∧ p4.toInt < b 9 2
  case neg => simp only [if_pos c1, if_pos c2, if_neg c3, ite_self]; exact ⟨_, rfl, rfl⟩
  by_cases c4 : 1 ≤ p3.toInt ∧ p3.toInt ≤ 8
  case neg => simp only [if_pos c1, if_pos c2, if_pos c3, if_neg c4]; exact ⟨_, rfl, rfl⟩
  by_cases c5 : 0 ≤ p5.toInt ∧ p5.toInt ≤ 2
  case neg => simp only [if_pos c1, if_pos c2, if_pos c3, if_pos c4, if_neg c5]; exact ⟨_, rfl, rfl⟩
  simp only [if_pos c1, if_pos c2, if_pos c3, if_pos c4, if_pos c5]
  obtain ⟨d, hd, rfl⟩ := nI_of3 (x := p3) (n := 9) (by omega) (by omega)
  obtain ⟨p, hp, rfl⟩ := nI_of3 c1.1 c1.2
  obtain ⟨i, hi, rfl⟩ := nI_of3 c2.1 c2.2
  obtain ⟨t, ht, rfl⟩ := nI_of3 c3.1 c3.2
  rw [x_minutes hb hC hp hi, m_minutes hb hM hp hi, x_wears hb hC hp hi ht (by omega), m_wears hb hM hp hi ht (by omega), x_mayCut hb hC hi (by omega), m_may hb hM hi (by omega)]
  simp only [zb1_s, zif]
  split
  · exact ⟨_, rfl, rfl⟩
  · split
    · exact ⟨_, rfl, rfl⟩
    · split <;> exact ⟨_, rfl, rfl⟩
theorem pu_hand : op_hand zRel := by
  intro I J IM JM hR p1 p2
  have hR0 := hR
  obtain ⟨b, hb, hC, hM, hT, hH, hK, hP⟩ := hR
  obtain ⟨sp, li, ev, n, h1, h2, h3, h4, h5, h6, h7⟩ := id hH
  have h0 := bS hb
  have fin : ∀ (k : Nat) (v : Nat), k < 3 → (k = 0 → v < b 9 0) → (k = 1 → v ≤ 100) → (k = 2 → 1 ≤ v ∧ v ≤ 8) → zRel (va_up I 24 (va_up (I 24) (3 + k) (nI v))) J (va_up IM 12 (upd (IM 12) k (nI v))) JM := by
    intro k v hk v0 v1 v2
    refine ⟨b, hb, hC.eq (fun k hk => up_n (by omega)), hM.eq (fun k h1 h2 => up_n (by omega)), hT.eq (by rw [up_n (by omega)]) (by rw [up_n (by omega)]) (by rw [up_n (by omega)]) (by rw [up_n (by omega)]), ?_, ?_, hP.eq (fun k h1 h2 => up_n (by omega)) (fun k h1 h2 => rfl)⟩
    · simp only [Nat.mul_zero, Nat.zero_add] at h6 h7
      unfold rHb
      simp only [Nat.mul_zero, Nat.zero_add, up_s, up_n (show (13 : Nat) ≠ 12 by omega), up_n (show (14 : Nat) ≠ 12 by omega), up_n (show (24 + 1 : Nat) ≠ 24 by omega), up_n (show (24 + 2 : Nat) ≠ 24 by omega)]
      rcases (show k = 0 ∨ k = 1 ∨ k = 2 by omega) with rfl | rfl | rfl
      · exact ⟨v, li, ev, n, v0 rfl, h2, h3, h4, ⟨up_s, (up_n (by omega)).trans h5.2.1, (up_n (by omega)).trans h5.2.2.1, (up_n (by omega)).trans h5.2.2.2⟩, ⟨ud_s, (ud_n (by omega)).trans h6.2.1, (ud_n (by omega)).trans h6.2.2.1, h6.2.2.2⟩, h7⟩
      · exact ⟨sp, v, ev, n, h1, v1 rfl, h3, h4, ⟨(up_n (by omega)).trans h5.1, up_s, (up_n (by omega)).trans h5.2.2.1, (up_n (by omega)).trans h5.2.2.2⟩, ⟨(ud_n (by omega)).trans h6.1, ud_s, (ud_n (by omega)).trans h6.2.2.1, h6.2.2.2⟩, h7⟩
      · exact ⟨sp, li, v, n, h1, h2, v2 rfl, h4, ⟨(up_n (by omega)).trans h5.1, (up_n (by omega)).trans h5.2.1, up_s, (up_n (by omega)).trans h5.2.2.2⟩, ⟨(ud_n (by omega)).trans h6.1, (ud_n (by omega)).trans h6.2.1, ud_s, h6.2.2.2⟩, h7⟩
    · obtain ⟨m, g1, g2, g3, g4⟩ := hK
      exact ⟨m, g1, by rw [up_n (by omega)]; exact g2, by rw [up_n (by omega)]; exact g3, fun j hj => (g4 j hj).eq (fun k hk => up_n (by omega)) (fun k hk => by rw [up_s, ud_n (by omega)]) (by rw [up_n (by omega)]) (fun k hk => by rw [up_n (by omega)])⟩
  have m0 : IM 12 0 = nI sp := h6.1
  have m1 : IM 12 1 = nI li := h6.2.1
  have m2 : IM 12 2 = nI ev := h6.2.2.1
  unfold f_X11_hand f_X12_hand f_X1_swapSpeed f_X1_swapLimit f_X1_swapEvery
  simp only [x_hasSpeed hb hC, m_isSpeed hb hM, e_within, e_in, t64, zb1_s, zb2_s, zn_e, zif, k0, k1, k8, k100, K0, K1, K8, K100]
  by_cases e0 : p1 = 0
  · subst e0
    simp only [if_true]
    by_cases c : 0 ≤ p2.toInt ∧ p2.toInt < b 9 0
    · simp only [zb1_s, zif, if_pos c]
      rw [zg_t (by decide), zg_t (by decide), sp_0, m0, h5.1]
      obtain ⟨v, hv, rfl⟩ := nI_of3 c.1 c.2
      exact ⟨_, _, _, rfl, rfl, fin 0 v (by omega) (fun _ => hv) (fun q => by omega) (fun q => by omega)⟩
    · simp only [zb1_s, zif, if_neg c]
      exact ⟨_, _, _, rfl, rfl, hR0⟩
  · simp only [if_neg e0]
    by_cases e1 : p1 = 1
    · subst e1
      simp only [if_true]
      by_cases c : 0 ≤ p2.toInt ∧ p2.toInt ≤ 100
      · simp only [zb1_s, zif, if_pos c, if_neg (show ¬ (1 : Int32) = 0 by decide)]
        rw [zg_t (by decide), zg_t (by decide), sp_1, m1, h5.2.1]
        obtain ⟨v, hv, rfl⟩ := nI_of3 (n := 101) c.1 (by omega)
        exact ⟨_, _, _, rfl, rfl, fin 1 v (by omega) (fun q => by omega) (fun q => by omega) (fun q => by omega)⟩
      · simp only [zb1_s, zif, if_neg c, if_neg (show ¬ (1 : Int32) = 0 by decide)]
        exact ⟨_, _, _, rfl, rfl, hR0⟩
    · simp only [if_neg e1]
      by_cases e2 : p1 = 2
      · subst e2
        simp only [if_true]
        by_cases c : 1 ≤ p2.toInt ∧ p2.toInt ≤ 8
        · simp only [zb1_s, if_pos c, if_neg (show ¬ (1 : Int32) = 0 by decide), if_neg (show ¬ (2 : Int32) = 0 by decide), if_neg (show ¬ (2 : Int32) = 1 by decide)]
          rw [zg_t (by decide), zg_t (by decide), show (2 : Int32).toNatClampNeg = 2 from rfl, m2, h5.2.2.1]
          obtain ⟨v, hv, rfl⟩ := nI_of3 (x := p2) (n := 9) (by omega) (by omega)
          rw [nI_toInt (by omega)] at c
          exact ⟨_, _, _, rfl, rfl, fin 2 v (by omega) (fun q => by omega) (fun q => by omega) (fun q => by omega)⟩
        · simp only [zb1_s, if_neg c, if_neg (show ¬ (2 : Int32) = 0 by decide), if_neg (show ¬ (2 : Int32) = 1 by decide), if_true]
          exact ⟨_, _, _, rfl, rfl, hR0⟩
      · simp only [zb1_s, if_neg e2, if_true]
        exact ⟨_, _, _, rfl, rfl, hR0⟩
