theorem x_start {b : zB} {I : zI} {J : zJ} (hb : bOk b) (hC : rC b I 4) : ∃ I2 : zI, f_X9_start I J = some I2 ∧ oT I I2 ∧ cR b I2 (0, b 3 0, 0, 0, 0, 0, 0, 0) := by
  unfold f_X9_start
  have hC1 : rC b (va_up I 38 (va_up (I 38) 2 0)) 4 := hC.eq (fun k hk => up_n (by omega))
  have e0 : f_X0_stepsOf (va_up I 38 (va_up (I 38) 2 0)) J 4 0 = some (nI (b 3 0)) := x_stepsOf hb hC1 hb.2.1.1
  rw [zn_e, e0, zb1_s]
  simp only [zn_e, up_s]
  refine ⟨_, rfl, fun k hk => by simp only [up_n hk], ⟨?_, fun _ => ?_, ?_⟩, ?_, ?_, ?_, ?_, ?_⟩ <;> (rw [up_s]; rfl)
theorem m_runs2 {I : zI} : ∃ I2 : zI, zl (fun v : (Int32 × zI) => f_X12_runs_L2 v.1 v.2) zF (0, I) = some I2 ∧ (oY I I2 ∧ ∀ x, x < 4 → I2 24 x = 0) := by
  refine zl_inv (fun k u => u.1 = nI k ∧ oY I u.2 ∧ ∀ x, x < k → u.2 24 x = 0) _ 4 0 _ ⟨rfl, fun _ _ => rfl, fun x hx => by omega⟩ ?_ ?_ zF (by unfold zF; omega)
  · intro k u _ hk hu
    obtain ⟨x, I6⟩ := u
    obtain ⟨h1, h2, h3⟩ := hu
    have h1 : x = nI k := h1
    subst h1
    have hkn : k < 4 := by omega
    show ∃ v', f_X12_runs_L2 (nI k) I6 = some (.inl v') ∧ _
    unfold f_X12_runs_L2
    rw [if_neg (show ¬ (4 : Int32) ≤ nI k from nI_ge (b := 4) hkn (by omega)), zg_t (nI_in hkn (by omega)), nI_clamp (by omega), zn_e, nI_1, zn_e]
    refine ⟨_, rfl, rfl, fun j hj => ?_, fun x hx => ?_⟩
    · dsimp only
      rw [up_n hj]; exact h2 j hj
    · dsimp only
      rw [up_s]
      by_cases d : x = k
      · rw [d, ud_s]
      · rw [ud_n d]; exact h3 x (by omega)
  · intro u hu
    obtain ⟨x, I6⟩ := u
    obtain ⟨h1, h2, h3⟩ := hu
    have h1 : x = nI (0 + 4) := h1
    subst h1
    exact ⟨I6, if_pos (show (4 : Int32) ≤ nI 4 by decide), h2, h3⟩
theorem pu_run : op_run zRel := by
  intro I J IM JM hR p1 p2 p3 p4
  have hR0 := hR
  obtain ⟨b, hb, hC, hM, hT, hH, hK, hP⟩ := hR
  have h4 := bT hb
  unfold f_X11_run f_X12_run
  rw [x_isHandIn hb hC, zb1_s, zif, e_within, zb1_s, zif, e_within, zb1_s, zif, e_in, zb1_s, zif, m_isSteel hb hM, zb1_s, zif, e_in, zb1_s, zif, e_in, zb1_s, zif, t64, t64, t64, k0, k9999, k4, K0, K5, K9999, K4]
  by_cases c1 : 0 ≤ p1.toInt ∧ p1.toInt ≤ 5
  case neg => rw [if_neg c1, if_neg (fun z => c1 z.1)]; exact ⟨_, _, _, _, _, rfl, rfl, hR0⟩
  by_cases c2 : 0 ≤ p2.toInt ∧ p2.toInt < b 9 2
  case neg => rw [if_pos c1, if_neg c2, if_neg (fun z => c2 z.2)]; exact ⟨_, _, _, _, _, rfl, rfl, hR0⟩
  have c12 := And.intro c1 c2
  by_cases c3 : 0 ≤ p3.toInt ∧ p3.toInt ≤ 9999
  case neg => rw [if_pos c12, if_neg c3, if_pos c1, if_pos c2, if_neg c3]; exact ⟨_, _, _, _, _, rfl, rfl, hR0⟩
  by_cases c4 : 0 ≤ p4.toInt ∧ p4.toInt ≤ 4
  case neg => rw [if_pos c12, if_pos c3, if_neg c4, if_pos c1, if_pos c2, if_pos c3, if_neg c4]; exact ⟨_, _, _, _, _, rfl, rfl, hR0⟩
  rw [if_pos c12, if_pos c3, if_pos c4, if_pos c1, if_pos c2, if_pos c3, if_pos c4]
  obtain ⟨k, hk, rfl⟩ := nI_of3 (x := p1) (n := 6) c1.1 (by omega)
  obtain ⟨h, hh, rfl⟩ := nI_of3 c2.1 c2.2
  obtain ⟨z, hz, rfl⟩ := nI_of3 (x := p3) (n := 10000) c3.1 (by omega)
  obtain ⟨q, hq, rfl⟩ := nI_of3 (x := p4) (n := 5) c4.1 (by omega)
  obtain ⟨sp, li, ev, g1, g2, g3, ⟨g4, g5, g6⟩, g7, g8, g9⟩ := hab_e hH
  obtain ⟨I2, J2, e1, e2, e3, e4, -⟩ := x_prepare hb hk hh hC hP
  have hC2 := e2.rC hC
  obtain ⟨A, a1, a2⟩ := x_choose hb hk hh hC2 (by rw [e2.1 24 (by omega)]; exact g4) (by rw [e2.1 24 (by omega)]; exact g5) (by rw [e2.1 24 (by omega)]; exact g6) g1 g2 g3 e4
  obtain ⟨A2, M2, N2, f1, f2, f3, f4, f5⟩ := m_handles (J := JM) hb hM g7 g8 g9 g1 g2 g3 hk hh
  have hM2 : rM b M2 := hM.eq (fun r _ _ => f3 r (by omega))
  have hA := aH_can hb g1 a1
  have f5 : ∀ p l w, inS b p l w → M2 15 (clM p l w) = nI (A p l w) := fun p l w hs => by rw [f5 p l w hs, aH_uniq hb a1 f2 hs]
  obtain ⟨I3, s1, s2, s3⟩ := x_start (J := J2) hb hC2
  obtain ⟨M3, t1, t2, t3⟩ := m_runs2 (I := M2)
  have hM3 : rM b M3 := hM2.eq (fun r _ _ => t2 r (by omega))
  have hp0 := hb.2.1.1
  have hp8 := hb.2.1.2
  have hd0 := (hb.2.2.2.2.2.2.1 0 hp0).2.1
  have hs0 : inS b 0 (b 3 0) 0 := ⟨hp0, hd0.1, Nat.le_refl _, by omega⟩
  obtain ⟨I4, M4, v, r1, r2, r3, r4, r5, r6, r7, r8, r9, r10⟩ := run_both (J := J2) (JM := N2) (k := k) (h := h) (z := z) (A := A) (I0 := I2) (M0 := M2) hb hh (by omega) hC2 hM2 hA (fun I5 y p l w hs => by
    exact a2 I5 J2 (fun r hr1 hr2 hr3 => y r hr3) p l w hs) f5 200 0 (0, b 3 0, 0, 0, 0, 0, 0, 0) I3 M3 (nI (b 3 0)) (fun _ => ⟨hs0, by show rk b 0 (b 3 0) 0 < 200; unfold rk; split <;> omega⟩) (by show 0 ≤ _; omega) (by omega) (by show 0 ≤ _; omega) (by show 0 ≤ _; omega) (by show 0 ≤ _; omega) (by show 0 ≤ _; omega) (by show 0 ≤ _; omega) s2 t2 s3 ⟨t3 0 (by omega), t3 1 (by omega), t3 2 (by omega), t3 3 (by omega)⟩ (fun _ => rfl) zF zF (by unfold zF; omega) (by unfold zF; omega)
  have hC4 : rC b I4 4 := hC2.eq (fun r hr => r3 _ (by omega))
  have hM4 : rM b M4 := hM2.eq (fun r _ _ => r4 r (by omega))
  have hst : f_X12_steps M3 N2 0 = some (nI (b 3 0)) := m_steps hb hM3 hp0
  have hrel : zRel I4 J2 M4 N2 := zRel.stay hb hC hM hT hH hK (fun r hr => by rw [r3 r (by omega), e2.1 r (by omega)]) (fun r hr => by rw [r4 r (by omega), f3 r (by omega)]) (e3.eq (fun r h1 h2 => r3 r (by omega)) (fun _ _ _ => rfl))
  unfold f_X9_go f_X12_runs
  have r1 : zl (fun u : (Int32 × zI) => f_X9_go_L7 J2 (nI k) (nI h) (nI z) u.1 u.2) zF (0, I3) = some I4 := r1
  have r2 : zl (fun u : (Int32 × Int32 × Int32 × Int32 × zI) => f_X12_runs_L35 N2 (nI h) (nI z) u.1 u.2.1 u.2.2.1 u.2.2.2.1 u.2.2.2.2) zF (0, nI (b 3 0), 0, 0, M3) = some M4 := r2
  rw [e1, zb2_s, s1, zb1_s, r1, zb1_s, zb1_s, f1, zb2_s, t1, zb1_s, hst, zb1_s, r2, zb1_s, zb1_s]
  simp only [zg_t (show ¬ ((0 : Int32) < 0 ∨ 4 ≤ (0 : Int32).toNatClampNeg) by decide), zg_t (show ¬ ((2 : Int32) < 0 ∨ 10 ≤ (2 : Int32).toNatClampNeg) by decide), zg_t (show ¬ ((1 : Int32) < 0 ∨ 10 ≤ (1 : Int32).toNatClampNeg) by decide), zg_t (show ¬ ((1 : Int32) < 0 ∨ 4 ≤ (1 : Int32).toNatClampNeg) by decide), zg_t (show ¬ ((2 : Int32) < 0 ∨ 4 ≤ (2 : Int32).toNatClampNeg) by decide), zg_t (show ¬ ((3 : Int32) < 0 ∨ 4 ≤ (3 : Int32).toNatClampNeg) by decide), zn_e]
  simp only [sp_0, sp_1, show (2 : Int32).toNatClampNeg = 2 from rfl, show (3 : Int32).toNatClampNeg = 3 from rfl]
  obtain ⟨-, -, q6, q7, q8, q9⟩ := r5
  obtain ⟨y0, y1, y2, y3⟩ := r6
  have m1 : M4 11 1 = nI (b 9 4) := hM4.2.1 1 (by omega)
  have m2 : M4 11 2 = nI (b 9 5) := hM4.2.1 2 (by omega)
  obtain ⟨b3, b4, b5⟩ := hb.2.2.2.1
  unfold f_X9_told f_X0_cost
  rw [q6, q7, q8, q9, y0, y1, y2, y3, m1, m2, (bk_e b I4 4 hC4).2.2.2.2.1, (bk_e b I4 4 hC4).2.2.2.2.2.1, nI_mul, zb1_s]
  have hcc : b 9 4 * v.2.2.2.2.2.2.2 ≤ 99 * 900 := Nat.mul_le_mul b4 r8
  have hcost : (nI v.2.2.2.2.1).toInt64 * (nI (b 9 5)).toInt64 + 6000 * (nI (b 9 4 * v.2.2.2.2.2.2.2)).toInt64 = (nI v.2.2.2.2.1).toInt64 * (nI (b 9 5)).toInt64 + 6000 * (nI v.2.2.2.2.2.2.2).toInt64 * (nI (b 9 4)).toInt64 := by
    rw [nI_l (by omega), nI_l (by omega), nI_l (by omega), nI_l (by omega), nI_l (by omega), show (6000 : Int64) = lN 6000 from rfl, lN_mul2, lN_mul2, lN_mul2, lN_mul2, Nat.mul_assoc, Nat.mul_comm (b 9 4)]
  rw [hcost]
  have hq5 : q = 0 ∨ q = 1 ∨ q = 2 ∨ q = 3 ∨ q = 4 := by omega
  rcases hq5 with rfl | rfl | rfl | rfl | rfl
  · exact ⟨_, _, _, _, _, rfl, rfl, hrel⟩
  · exact ⟨_, _, _, _, _, rfl, rfl, hrel⟩
  · exact ⟨_, _, _, _, _, rfl, rfl, hrel⟩
  · exact ⟨_, _, _, _, _, rfl, rfl, hrel⟩
  · exact ⟨_, _, _, _, _, rfl, rfl, hrel⟩
