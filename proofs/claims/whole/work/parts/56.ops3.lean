/-! log -/
abbrev canP (b : zB) (l a : Nat) : Prop := a / 8 < b 9 0 ∧ a % 8 < l ∧ a % 8 + 1 ≤ b 9 6 ∧ b 0 (a / 8) * (a % 8 + 1) ≤ b 9 7
abbrev stI (b : zB) (p l w : Int32) : Prop := (0 ≤ p.toInt ∧ p.toInt < b 9 1) ∧ (1 ≤ l.toInt ∧ l.toInt ≤ b 3 p.toInt.toNat) ∧ 0 ≤ w.toInt ∧ w.toInt ≤ 100
theorem stI_nat {b : zB} (hb : bOk b) {p l w : Int32} (h : stI b p l w) : ∃ p' l' w' : Nat, p = nI p' ∧ l = nI l' ∧ w = nI w' ∧ inS b p' l' w' := by
  obtain ⟨⟨a1, a2⟩, ⟨a3, a4⟩, a5, a6⟩ := h
  obtain ⟨p', hp, rfl⟩ := nI_of3 a1 a2
  have h8 := bP hb
  rw [nI_toInt (by omega)] at a4
  simp only [Int.toNat_natCast] at a4
  obtain ⟨l', hl, rfl⟩ := nI_of3 (x := l) (n := b 3 p' + 1) (by omega) (by omega)
  obtain ⟨w', hw, rfl⟩ := nI_of3 (x := w) (n := 101) a5 (by omega)
  have := (hb.2.2.2.2.2.2.1 p' hp).2.1
  rw [nI_toInt (by omega)] at a3 a4
  exact ⟨p', l', w', rfl, rfl, rfl, hp, by omega, by omega, by omega⟩
section LG
variable {b : zB} {I : zI} {J : zJ} {o : Nat}
theorem x_isState (hb : bOk b) (hC : rC b I o) (p l w : Int32) : f_X0_isState I J o p l w = some (zi (stI b p l w)) := by
  have h8 := bP hb
  unfold f_X0_isState
  simp only [x_hasPiece hb hC, zb1_s, zif]
  by_cases c1 : 0 ≤ p.toInt ∧ p.toInt < b 9 1
  · rw [if_pos c1]
    obtain ⟨p', hp, rfl⟩ := nI_of3 c1.1 c1.2
    have h3 := (hb.2.2.2.2.2.2.1 p' hp).2.1
    have e : (nI p').toInt.toNat = p' := by rw [nI_toInt (by omega)]; simp
    simp only [x_stepsOf hb hC hp, zb1_s, e_within, zif, k0, k1, k100, nI_toInt (show b 3 p' < 2 ^ 31 by omega)]
    unfold zi stI
    rw [e]
    by_cases c2 : 1 ≤ l.toInt ∧ l.toInt ≤ b 3 p'
    · rw [if_pos c2]
      by_cases c3 : 0 ≤ w.toInt ∧ w.toInt ≤ 100
      · rw [if_pos c3, if_pos ⟨c1, c2, c3⟩]
      · rw [if_neg c3, if_neg (fun q => c3 q.2.2)]
    · rw [if_neg c2, if_neg (fun q => c2 q.2.1)]
  · rw [if_neg c1]
    unfold zi
    rw [if_neg (fun q => c1 q.1)]
theorem m_isState (hb : bOk b) (hM : rM b I) (p l w : Int32) : f_X12_isState I J p l w = some (zi (stI b p l w)) := by
  have h8 := bP hb
  unfold f_X12_isState
  simp only [m_isPiece hb hM, zb1_s, zif]
  by_cases c1 : 0 ≤ p.toInt ∧ p.toInt < b 9 1
  · rw [if_pos c1]
    obtain ⟨p', hp, rfl⟩ := nI_of3 c1.1 c1.2
    have h3 := (hb.2.2.2.2.2.2.1 p' hp).2.1
    have e : (nI p').toInt.toNat = p' := by rw [nI_toInt (by omega)]; simp
    simp only [m_steps hb hM hp, zb1_s, e_in, t64, zif, K0, K1, K100, nI_toInt (show b 3 p' < 2 ^ 31 by omega)]
    unfold zi stI
    rw [e]
    by_cases c2 : 1 ≤ l.toInt ∧ l.toInt ≤ b 3 p'
    · rw [if_pos c2]
      by_cases c3 : 0 ≤ w.toInt ∧ w.toInt ≤ 100
      · rw [if_pos c3, if_pos ⟨c1, c2, c3⟩]
      · rw [if_neg c3, if_neg (fun q => c3 q.2.2)]
    · rw [if_neg c2, if_neg (fun q => c2 q.2.1)]
  · rw [if_neg c1]
    unfold zi
    rw [if_neg (fun q => c1 q.1)]
theorem e_speedOf {a : Nat} (h : a < 2 ^ 31) : f_X11_speedOf I J (nI a) = some (nI (a / 8)) := by
  unfold f_X11_speedOf
  rw [show (8 : Int32) = nI 8 from rfl, nI_div h (by omega)]
theorem e_depthOf {a : Nat} (h : a < 2 ^ 31) : f_X11_depthOf I J (nI a) = some (nI (a % 8 + 1)) := by
  unfold f_X11_depthOf
  rw [show (8 : Int32) = nI 8 from rfl, nI_mod h (by omega), nI_1]
theorem x_isPass (hb : bOk b) (hC : rC b I o) {a l : Nat} (ha : a < 2 ^ 31) (hl : l < 2 ^ 31) : f_X0_isPass I J o (nI a) (nI l) = some (zi (canP b l a)) := by
  have h0 := bS hb
  unfold f_X0_isPass
  rw [e_depthOf ha, zb1_s, e_speedOf ha, zb1_s]
  simp only [x_hasSpeed hb hC, zb1_s, zif, nI_toInt (show a / 8 < 2 ^ 31 by omega)]
  by_cases c1 : a / 8 < b 9 0
  · rw [if_pos (by omega)]
    by_cases c2 : a % 8 < l
    · rw [if_neg (nI_nlt (by omega) (by omega)), x_mayCut hb hC c1 (by omega), zb1_s, zif]
      unfold zi
      by_cases c3 : a % 8 + 1 ≤ b 9 6 ∧ b 0 (a / 8) * (a % 8 + 1) ≤ b 9 7
      · rw [if_pos c3, if_pos ⟨c1, c2, c3.1, c3.2⟩]
      · rw [if_neg c3, if_neg (fun q => c3 q.2.2)]
    · rw [if_pos (nI_lt (by omega) (by omega))]
      unfold zi
      rw [if_neg (fun q => c2 q.2.1)]
  · rw [if_neg (by omega)]
    unfold zi
    rw [if_neg (fun q => c1 q.1)]
theorem m_can (hb : bOk b) (hM : rM b I) {a l : Nat} (ha : a < 48) (hl : l < 2 ^ 31) (p w : Int32) : f_X12_can I J p (nI l) w (nI a) = some (zi (canP b l a)) := by
  have h0 := bS hb
  unfold f_X12_can
  rw [if_pos (show nI a ≤ 47 from nI_le (b := 47) (by omega) (by omega)), show (8 : Int32) = nI 8 from rfl, nI_mod (by omega) (by omega), nI_div (by omega) (by omega), nI_1]
  simp only [m_isSpeed hb hM, zb1_s, zif, nI_toInt (show a / 8 < 2 ^ 31 by omega)]
  by_cases c1 : a / 8 < b 9 0
  · rw [if_pos (by omega)]
    by_cases c2 : a % 8 < l
    · rw [if_neg (nI_ge (by omega) (by omega)), m_may hb hM c1 (by omega), zb1_s, zif]
      unfold zi
      by_cases c3 : a % 8 + 1 ≤ b 9 6 ∧ b 0 (a / 8) * (a % 8 + 1) ≤ b 9 7
      · rw [if_pos c3, if_pos ⟨c1, c2, c3.1, c3.2⟩]
      · rw [if_neg c3, if_neg (fun q => c3 q.2.2)]
    · rw [if_pos (nI_le (by omega) (by omega))]
      unfold zi
      rw [if_neg (fun q => c2 q.2.1)]
  · rw [if_neg (by omega)]
    unfold zi
    rw [if_neg (fun q => c1 q.1)]
end LG
theorem pu_log : op_log zRel := by
  intro I J IM JM hR p1 p2 p3 p4
  have hR0 := hR
  obtain ⟨b, hb, hC, hM, hT, hH, hK, hP⟩ := hR
  have h0 := bS hb
  obtain ⟨sp, li, ev, n, h1, h2, h3, h4, h5, h6, h7⟩ := id hH
  simp only [Nat.mul_zero, Nat.zero_add] at h6 h7
  unfold f_X11_log f_X12_log
  simp only [x_isState hb hC, m_isState hb hM, e_within, e_in, t64, zb1_s, zif, k0, k47, K0, K47]
  by_cases c1 : stI b p1 p2 p3
  case neg => simp only [if_neg c1]; exact ⟨_, _, _, rfl, rfl, hR0⟩
  by_cases c2 : 0 ≤ p4.toInt ∧ p4.toInt ≤ 47
  case neg => simp only [if_pos c1, if_neg c2]; exact ⟨_, _, _, rfl, rfl, hR0⟩
  simp only [if_pos c1, if_pos c2]
  obtain ⟨p, l, w, rfl, rfl, rfl, hs⟩ := stI_nat hb c1
  obtain ⟨a, ha, rfl⟩ := nI_of3 (x := p4) (n := 48) c2.1 (by omega)
  have hD := (hb.2.2.2.2.2.2.1 p hs.1).2.1
  have hl : l < 2 ^ 31 := by have := hs.2.2.1; omega
  rw [x_isPass hb hC (by omega) hl, m_can hb hM ha hl, e_speedOf (by omega)]
  simp only [zb1_s, zif]
  by_cases c3 : canP b l a
  case neg => simp only [if_neg c3]; exact ⟨_, _, _, rfl, rfl, hR0⟩
  simp only [if_pos c3]
  unfold f_X1_note
  simp only [e_within, zb1_s, zif, k0, k19, h5.2.2.2, sp_0, h6.2.2.2, nI_toInt (show n < 2 ^ 31 by omega)]
  by_cases c4 : n = 20
  · subst c4
    rw [if_neg (by omega), zb2_s, if_pos rfl, zg_t (by decide), if_pos (show nI 20 = 20 from rfl)]
    exact ⟨_, _, _, rfl, rfl, hR0⟩
  · have hn : n < 20 := by omega
    rw [if_pos (by omega), zg_t (nI_in (by omega) (by omega)), zn_e]
    simp only [up_n (show (24 : Nat) ≠ 24 + 1 by omega), h5.2.2.2]
    rw [zg_t (nI_in (by omega) (by omega)), zn_e, zn_e, zb2_s, if_neg (by decide)]
    simp only [up_s, up_n (show (24 : Nat) ≠ 24 + 1 by omega), up_n (show (24 : Nat) ≠ 24 + 2 by omega), h5.2.2.2, nI_1]
    rw [zg_t (by decide), if_neg (show ¬ nI n = 20 from fun q => c4 ((nI_eq (a := n) (b := 20) (by omega) (by omega)).mp q)), zg_t (by decide), m_2i (by omega), zg_t (nI_in (by omega) (by omega)), zn_e, zg_t (by decide)]
    simp only [up_n (show (13 : Nat) ≠ 14 by omega), h6.2.2.2]
    rw [m_2i1, zg_t (nI_in (by omega) (by omega)), zn_e, zg_t (by decide), zg_t (by decide), zn_e, zg_t (by decide)]
    simp only [up_s, up_n (show (13 : Nat) ≠ 14 by omega), h6.2.2.2, nI_1, ud_s, nI_clamp (show n < 2 ^ 31 by omega), nI_clamp (show 2 * n < 2 ^ 31 by omega), nI_clamp (show 2 * n + 1 < 2 ^ 31 by omega)]
    rw [show (8 : Int32) = nI 8 from rfl, nI_div (show a < 2 ^ 31 by omega) (by omega)]
    refine ⟨_, _, _, rfl, rfl, b, hb, ?_, ?_, ?_, ?_, ?_, ?_⟩
    · exact hC.eq (fun k hk => by rw [up_n (by omega), up_n (by omega), up_n (by omega)])
    · exact hM.eq (fun k h1 h2 => by rw [up_n (by omega), up_n (by omega), up_n (by omega)])
    · exact hT.eq (by rw [up_n (by omega), up_n (by omega), up_n (by omega)]) (by rw [up_n (by omega), up_n (by omega), up_n (by omega)]) (by rw [up_n (by omega), up_n (by omega), up_n (by omega)]) (by rw [up_n (by omega), up_n (by omega), up_n (by omega)])
    · refine ⟨sp, li, ev, n + 1, h1, h2, h3, by omega, ?_, ?_, fun k hk => ?_⟩
      · simp only [up_s]
        rw [up_n (by omega), up_n (by omega), up_n (by omega)]
        exact ⟨h5.1, h5.2.1, h5.2.2.1, trivial⟩
      · simp only [up_s, Nat.mul_zero, Nat.zero_add, up_n (show (12 : Nat) ≠ 13 by omega), up_n (show (12 : Nat) ≠ 14 by omega), ud_s]
        exact ⟨h6.1, h6.2.1, h6.2.2.1, trivial⟩
      · simp only [Nat.mul_zero, Nat.zero_add, up_n (show (24 + 1 : Nat) ≠ 24 by omega), up_n (show (24 + 2 : Nat) ≠ 24 by omega), up_n (show (24 + 1 : Nat) ≠ 24 + 2 by omega), up_s, up_n (show (14 : Nat) ≠ 13 by omega), up_n (show (24 + 2 : Nat) ≠ 24 + 1 by omega)]
        by_cases e : k = n
        · subst e
          rw [ud_s, ud_s, ud_n (by omega), ud_s, ud_s]
          exact ⟨rfl, rfl⟩
        · rw [ud_n e, ud_n e, ud_n (by omega), ud_n (by omega), ud_n (by omega), ud_n (by omega)]
          exact h7 k (by omega)
    · obtain ⟨m, g1, g2, g3, g4⟩ := hK
      refine ⟨m, g1, by rw [up_n (by omega), up_n (by omega), up_n (by omega)]; exact g2, by rw [up_n (by omega), up_n (by omega), up_n (by omega)]; exact g3, fun j hj => (g4 j hj).eq (fun k hk => by rw [up_n (by omega), up_n (by omega), up_n (by omega)]) (fun k hk => by rw [up_n (by omega), up_n (by omega), up_n (by omega)]) (by rw [up_s, ud_n (by omega)]) (fun k hk => ?_)⟩
      rw [up_n (by omega), up_s, ud_n (by omega), ud_n (by omega)]
    · exact hP.eq (fun k h1 h2 => by rw [up_n (by omega), up_n (by omega), up_n (by omega)]) (fun k h1 h2 => rfl)
