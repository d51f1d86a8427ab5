theorem pu_parted : op_parted zRel := by
  intro I J IM JM hR p1 p2 p3 p4
  have hR0 := hR
  obtain ⟨b, hb, hC, hM, hT, hH, hK, hP⟩ := hR
  have h8 := bP hb
  have h4 := bT hb
  unfold f_X11_parted f_X12_parted
  simp only [x_hasPiece hb hC, m_isPiece hb hM, x_hasSteel hb hC, m_isSteel hb hM, e_within, e_in, t64, zb1_s, zif, k0, k2, k100, K0, K2, K100]
  by_cases c1 : 0 ≤ p1.toInt ∧ p1.toInt < b 9 1
  case neg => simp only [if_neg c1]; exact ⟨_, _, _, _, rfl, rfl, hR0⟩
  by_cases c2 : 0 ≤ p2.toInt ∧ p2.toInt < b 9 2
  case neg => simp only [if_pos c1, if_neg c2]; exact ⟨_, _, _, _, rfl, rfl, hR0⟩
  by_cases c3 : 0 ≤ p3.toInt ∧ p3.toInt ≤ 100
  case neg => simp only [if_pos c1, if_pos c2, if_neg c3]; exact ⟨_, _, _, _, rfl, rfl, hR0⟩
  by_cases c4 : 0 ≤ p4.toInt ∧ p4.toInt ≤ 2
  case neg => simp only [if_pos c1, if_pos c2, if_pos c3, if_neg c4]; exact ⟨_, _, _, _, rfl, rfl, hR0⟩
  simp only [if_pos c1, if_pos c2, if_pos c3, if_pos c4]
  obtain ⟨p, hp, rfl⟩ := nI_of3 c1.1 c1.2
  obtain ⟨h, hh, rfl⟩ := nI_of3 c2.1 c2.2
  obtain ⟨w, hw, rfl⟩ := nI_of3 (x := p3) (n := 101) c3.1 (by omega)
  obtain ⟨k, hk, rfl⟩ := nI_of3 (x := p4) (n := 3) c4.1 (by omega)
  have hs := (hb.2.2.2.2.2.2.1 p hp).2.1
  obtain ⟨I2, J2, e1, e2, e3⟩ := x_find (J := J) hb hC hp hh
  obtain ⟨M2, g1, g2, g3⟩ := m_partT (J := JM) hb hM hp hh
  have hC2 := hC.oC e2
  have hM2 : rM b M2 := hM.eq (fun j _ _ => g2 j (by omega))
  have hrel : zRel I2 J2 M2 JM := by
    refine ⟨b, hb, hC2, hM2, ?_, ?_, ?_, ?_⟩
    · exact hT.eq (by rw [e2.1 1 (by omega) (by omega)]) (e2.1 2 (by omega) (by omega)) (by rw [g2 0 (by omega)]) (g2 1 (by omega))
    · exact hH.eq (fun k hk => e2.1 _ (by omega) (by omega)) (fun k _ => by rw [g2 12 (by omega)]) (by rw [g2 13 (by omega)]) (fun k _ => by rw [g2 14 (by omega)])
    · obtain ⟨n, k1, k2, k3, k4⟩ := hK
      exact ⟨n, k1, by rw [e2.1 0 (by omega) (by omega)]; exact k2, by rw [g2 0 (by omega)]; exact k3, fun j hj => (k4 j hj).eq (fun k hk => e2.1 _ (by omega) (by omega)) (fun k _ => by rw [g2 12 (by omega)]) (by rw [g2 13 (by omega)]) (fun k _ => by rw [g2 14 (by omega)])⟩
    · exact hP.eq (fun k _ _ => e2.1 k (by omega) (by omega)) (fun k _ _ => e2.2 k (by omega))
  have hx := e3.1 (b 3 p) w hs.1 (by omega) (by omega)
  have hm := g3 (b 3 p) w (Or.inl (by omega)) (by omega)
  have hlt : 101 * b 3 p + w < 909 := by omega
  have h101 : 101 ≤ 101 * b 3 p + w := by omega
  rw [e1, g1]
  simp only [zb1_s, zb2_s, x_stepsOf hb hC2 hp, m_steps hb hM2 hp, zn_e]
  rw [show (101 : Int32) * nI (b 3 p) + nI w = nI (101 * b 3 p + w) by rw [show (101 : Int32) = nI 101 from rfl, nI_mul, nI_add]]
  unfold f_X5_told
  rw [x_cellP, zb1_s]
  have hbq := tab_ok (h := h) hb hp _ (b 3 p) (Nat.le_refl _) w
  generalize 101 * b 3 p + w = x at hlt hx hm h101 ⊢
  rw [e_within, zb1_s, zif, if_pos (show (0 : Int32).toInt ≤ (nI x).toInt ∧ (nI x).toInt ≤ (908 : Int32).toInt by rw [nI_toInt (by omega), k0, show (908 : Int32).toInt = 908 from rfl]; omega)]
  simp only [zg_t (nI_in hlt (show 909 < 2 ^ 31 by omega))]
  simp only [nI_clamp (show x < 2 ^ 31 by omega)]
  cases g : tab b p h (b 3 p) w with
  | none =>
    rw [g] at hx hm
    have hx : I2 42 x = -4 := hx
    have hm : M2 19 x = nI 1000000000 := hm
    rw [if_pos hx, if_pos (show M2 19 x = 1000000000 from hm), zb1_s]
    exact ⟨_, _, _, _, rfl, rfl, hrel⟩
  | some q =>
    have hq := hbq q g
    rw [g] at hx hm
    have hx : J2 40 x = lN q.1 ∧ I2 41 x = nI q.2.1 ∧ I2 42 x = nI q.2.2 := hx
    have hm : M2 19 x = nI q.1 ∧ M2 20 x = nI q.2.1 ∧ (101 ≤ x → M2 21 x = nI q.2.2) := hm
    have hq1 : q.1 ≤ 80000000 := Nat.le_trans hq.1 (by omega)
    rw [if_neg (by rw [hx.2.2]; exact qI_ne (q := (q.2.2, 0)) (by show q.2.2 < 2 ^ 31; omega)), hx.1, hx.2.1, hx.2.2, hm.1, hm.2.1, hm.2.2 h101, if_neg (show ¬ nI q.1 = 1000000000 from nI_eqF (c := 1000000000) (by omega) (by omega) (by omega))]
    by_cases d0 : nI k = 0
    · rw [if_pos d0, if_pos d0, zb1_s, nI_l (by omega)]
      exact ⟨_, _, _, _, rfl, rfl, hrel⟩
    · rw [if_neg d0, if_neg d0]
      by_cases d1 : nI k = 1
      · rw [if_pos d1, if_pos d1, zb1_s]
        exact ⟨_, _, _, _, rfl, rfl, hrel⟩
      · rw [if_neg d1, if_neg d1, zb1_s]
        exact ⟨_, _, _, _, rfl, rfl, hrel⟩
