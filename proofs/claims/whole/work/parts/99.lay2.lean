theorem m_counts4 {I9 : zI} : ∃ I21 : zI, va_up (va_up (va_up (va_up I9 3 (upd (I9 3) 0 (I9 3 1))) 5 (upd ((va_up I9 3 (upd (I9 3) 0 (I9 3 1))) 5) 0 ((va_up I9 3 (upd (I9 3) 0 (I9 3 1))) 5 1))) 7 (upd ((va_up (va_up I9 3 (upd (I9 3) 0 (I9 3 1))) 5 (upd ((va_up I9 3 (upd (I9 3) 0 (I9 3 1))) 5) 0 ((va_up I9 3 (upd (I9 3) 0 (I9 3 1))) 5 1))) 7) 0 ((va_up (va_up I9 3 (upd (I9 3) 0 (I9 3 1))) 5 (upd ((va_up I9 3 (upd (I9 3) 0 (I9 3 1))) 5) 0 ((va_up I9 3 (upd (I9 3) 0 (I9 3 1))) 5 1))) 7 1))) 9 (upd ((va_up (va_up (va_up I9 3 (upd (I9 3) 0 (I9 3 1))) 5 (upd ((va_up I9 3 (upd (I9 3) 0 (I9 3 1))) 5) 0 ((va_up I9 3 (upd (I9 3) 0 (I9 3 1))) 5 1))) 7 (upd ((va_up (va_up I9 3 (upd (I9 3) 0 (I9 3 1))) 5 (upd ((va_up I9 3 (upd (I9 3) 0 (I9 3 1))) 5) 0 ((va_up I9 3 (upd (I9 3) 0 (I9 3 1))) 5 1))) 7) 0 ((va_up (va_up I9 3 (upd (I9 3) 0 (I9 3 1))) 5 (upd ((va_up I9 3 (upd (I9 3) 0 (I9 3 1))) 5) 0 ((va_up I9 3 (upd (I9 3) 0 (I9 3 1))) 5 1))) 7 1))) 9) 0 ((va_up (va_up (va_up I9 3 (upd (I9 3) 0 (I9 3 1))) 5 (upd ((va_up I9 3 (upd (I9 3) 0 (I9 3 1))) 5) 0 ((va_up I9 3 (upd (I9 3) 0 (I9 3 1))) 5 1))) 7 (upd ((va_up (va_up I9 3 (upd (I9 3) 0 (I9 3 1))) 5 (upd ((va_up I9 3 (upd (I9 3) 0 (I9 3 1))) 5) 0 ((va_up I9 3 (upd (I9 3) 0 (I9 3 1))) 5 1))) 7) 0 ((va_up (va_up I9 3 (upd (I9 3) 0 (I9 3 1))) 5 (upd ((va_up I9 3 (upd (I9 3) 0 (I9 3 1))) 5) 0 ((va_up I9 3 (upd (I9 3) 0 (I9 3 1))) 5 1))) 7 1))) 9 1)) = I21 ∧ (∀ r, r ≠ 3 → r ≠ 5 → r ≠ 7 → r ≠ 9 → I21 r = I9 r) ∧ I21 3 0 = I9 3 1 ∧ I21 5 0 = I9 5 1 ∧ I21 7 0 = I9 7 1 ∧ I21 9 0 = I9 9 1 := by
  refine ⟨_, rfl, fun r h1 h2 h3 h4 => ?_, ?_, ?_, ?_, ?_⟩
  · rw [up_n h4, up_n h3, up_n h2, up_n h1]
  · rw [up_n (by omega), up_n (by omega), up_n (by omega), up_s, ud_s]
  · rw [up_n (by omega), up_n (by omega), up_s, ud_s, up_n (by omega)]
  · rw [up_n (by omega), up_s, ud_s, up_n (by omega), up_n (by omega)]
  · rw [up_s, ud_s, up_n (by omega), up_n (by omega), up_n (by omega)]
theorem pu_lay : op_lay zRel := by
  intro I J IM JM hR
  have hR0 := hR
  obtain ⟨b, hb, hC, hM, hT, hH, hK, hP⟩ := hR
  have hT0 := hT
  obtain ⟨n, B, t1, t2, t3⟩ := rT_B hT
  obtain ⟨r, I2, M2, e1, e2, e3, e4, e5⟩ := read_both (J := J) (JM := JM) t1 (Or.inl rfl) t2 t3
  have hR2 := hR0.read e3 e4
  unfold f_X11_lay f_X12_lay
  rw [e1, zb2_s, e2, zb2_s]
  by_cases c : r = -4
  case neg =>
    rw [if_neg c, if_neg c]
    exact ⟨_, _, _, rfl, rfl, hR2⟩
  rw [if_pos c, if_pos c]
  obtain ⟨ns, np, nt, nc, ck, cb, d⟩ := e5 c
  obtain ⟨⟨q1, q2, q3, q4⟩, ⟨q5, q6, q7⟩, ⟨m3, m5, m9, m7⟩, -⟩ := d
  simp only [zg_t (show ¬ ((0 : Int32) < 0 ∨ 2 ≤ (0 : Int32).toNatClampNeg) by decide), zg_t (show ¬ ((1 : Int32) < 0 ∨ 2 ≤ (1 : Int32).toNatClampNeg) by decide), zn_e]
  simp only [sp_0, sp_1]
  rw [q5, q6, m3, m5]
  have i0 : nI ns = 0 ↔ ns = 0 := nI_eq (b := 0) (by omega) (by omega)
  have j0 : nI np = 0 ↔ np = 0 := nI_eq (b := 0) (by omega) (by omega)
  by_cases hns : ns = 0
  · rw [if_pos (i0.2 hns), if_pos (i0.2 hns)]
    exact ⟨_, _, _, rfl, rfl, hR2⟩
  by_cases hnp : np = 0
  · rw [if_neg (fun z => hns (i0.1 z)), if_neg (fun z => hns (i0.1 z)), if_pos (j0.2 hnp), if_pos (j0.2 hnp)]
    exact ⟨_, _, _, rfl, rfl, hR2⟩
  rw [if_neg (fun z => hns (i0.1 z)), if_neg (fun z => hns (i0.1 z)), if_neg (fun z => hnp (j0.1 z)), if_neg (fun z => hnp (j0.1 z))]
  -- read once more, into the bench itself
  have t4 : tCt B n I2 := t2.go (e3.2 2 (by omega)) (e3.1 2 (by omega) (by omega) (by omega))
  obtain ⟨r', I8, M2', g1, g2, g3, g4, g5⟩ := read_both (o := 4) (J := J) (JM := JM) t1 (Or.inr rfl) t4 t3
  rw [e2] at g2
  have g2 := Option.some.inj g2
  have gr : r = r' := congrArg Prod.fst g2
  have gm : M2 = M2' := congrArg Prod.snd g2
  subst gr gm
  obtain ⟨ns', np', nt', nc', ck', cb', d'⟩ := g5 c
  have hd' := d'
  obtain ⟨⟨u1, u2, u3, u4⟩, ⟨u5, u6, u7⟩, ⟨w3, w5, w9, w7⟩, ⟨dn, -⟩, ds, dp, dt0, dt, ⟨-, dk⟩, -⟩ := d'
  have ens : ns = ns' := by rw [m3] at w3; exact (nI_eq (by omega) (by omega)).1 w3
  have enp : np = np' := by rw [m5] at w5; exact (nI_eq (by omega) (by omega)).1 w5
  subst ens enp
  obtain ⟨I10, f1, f2, f3⟩ := x_forget (I := I8) (J := J)
  obtain ⟨I12, s1, s2, s3, s4, s5, s6⟩ := x_reset (I := I10) (J := J)
  obtain ⟨I9, n1, n2, n3, n4, n5, n6⟩ := m_ends (I := M2) (J := JM) (k := 1) (by omega) u3 w9
  replace n1 : f_X12_ends M2 JM 1 = some I9 := n1
  obtain ⟨I21, v1, v2, v3, v4, v5, v6⟩ := m_counts4 (I9 := I9)
  obtain ⟨I57, y1, y2, y3, y4, y5, y6, y7⟩ := m_lay85 (I := I21)
  obtain ⟨I58, z1, z2, z3, z4, z5, z6, z7, z8⟩ := m_handsBegin (I := I57) (J := JM)
  have hnt : (if nt' = 0 then 1 else nt') ≤ 4 := by split <;> omega
  obtain ⟨b', hb', hC', hM', hb1⟩ := fin_bench (M := I57) hd' (by omega) (by omega) ⟨by rw [y2 3 (by omega) (by omega) (by omega) (by omega) (by omega), v3, n2 3 (by omega) (by omega)]; exact w3, by rw [y2 5 (by omega) (by omega) (by omega) (by omega) (by omega), v4, n2 5 (by omega) (by omega)]; exact w5, by rw [y2 9 (by omega) (by omega) (by omega) (by omega) (by omega), v6]; exact n3, by rw [y2 7 (by omega) (by omega) (by omega) (by omega) (by omega), v5, n2 7 (by omega) (by omega)]; exact w7⟩
    (fun j hj => by rw [y7.at (by omega) hj, v2 11 (by omega) (by omega) (by omega) (by omega), n2 11 (by omega) (by omega)]; exact (dn j hj).symm)
    (fun i hi => by
      have q := (ds i hi).1
      rw [y4.at (by omega) (by omega), y4.at (by omega) (by omega), v2 4 (by omega) (by omega) (by omega) (by omega), n2 4 (by omega) (by omega)]
      exact ⟨q.1.symm, q.2.symm⟩)
    (fun p hp => by
      have q := (dp p hp).1
      rw [y5.at (by omega) (by omega), y5.at (by omega) (by omega), y5.at (by omega) (by omega), y5.at (by omega) (by omega), v2 6 (by omega) (by omega) (by omega) (by omega), n2 6 (by omega) (by omega)]
      exact ⟨q.1.symm, q.2.1.symm, q.2.2.1.symm, q.2.2.2.symm⟩)
    (fun t ht => by
      rw [y6.at (by omega) (by omega), y6.at (by omega) (by omega), v2 10 (by omega) (by omega) (by omega) (by omega)]
      by_cases k0 : nt' = 0
      · rw [if_pos k0] at ht
        have et : t = 0 := by omega
        subst et
        obtain ⟨a1, a2⟩ := n5 k0
        obtain ⟨a3, a4⟩ := dt0 k0
        exact ⟨a1.trans a3.symm, a2.trans a4.symm⟩
      · rw [if_neg k0] at ht
        have q := (dt t ht).1
        rw [n6 k0]
        exact ⟨q.1.symm, q.2.symm⟩)
    (fun k hk => by
      have q := dk k hk
      rw [y3.at (by omega) (by omega), y3.at (by omega) (by omega), v2 8 (by omega) (by omega) (by omega) (by omega), n2 8 (by omega) (by omega)]
      exact q)
  have hans : I8 4 10 = nI np := u6
  rw [g1, zb2_s, f1, zb1_s, s1, zb1_s, n1, zb1_s, v1, y1, zb1_s, z1, zb1_s]
  have oI : ∀ r, r ≠ 0 → r ≠ 24 → r < 47 ∨ 71 ≤ r → (va_up I12 0 (va_up (I12 0) 5 0)) r = I8 r := fun r h1 h2 h3 => by rw [up_n h1, s2 r h2, f2 r h3]
  have oI0 : ∀ r, r ≠ 1 → r ≠ 3 → r < 4 ∨ 23 < r → I8 r = I r := fun r h1 h2 h3 => by rw [g3.1 r h1 h2 (by omega), e3.1 r h1 h2 (by omega)]
  refine ⟨nI np, va_up I12 0 (va_up (I12 0) 5 0), I58, ?_, ?_, b', hb', ?_, ?_, ?_, ?_, ?_, ?_⟩
  · rw [oI 4 (by omega) (by omega) (by omega), hans]
  · rw [z2 5 (by omega) (by omega) (by omega), y2 5 (by omega) (by omega) (by omega) (by omega) (by omega), v4, n2 5 (by omega) (by omega), w5]
  · exact hC'.eq (fun k hk => oI _ (by omega) (by omega) (by omega))
  · exact hM'.eq (fun k h1 h2 => z2 k (by omega) (by omega) (by omega))
  · refine hT0.eq ?_ ?_ ?_ ?_
    · rw [oI 1 (by omega) (by omega) (by omega), g3.2 2 (by omega), e3.2 2 (by omega)]
    · rw [oI 2 (by omega) (by omega) (by omega), oI0 2 (by omega) (by omega) (by omega)]
    · rw [z3 0 (by omega), y2 0 (by omega) (by omega) (by omega) (by omega) (by omega), v2 0 (by omega) (by omega) (by omega) (by omega), n2 0 (by omega) (by omega), e4.1.2 0 (by omega)]
    · rw [z2 1 (by omega) (by omega) (by omega), y2 1 (by omega) (by omega) (by omega) (by omega) (by omega), v2 1 (by omega) (by omega) (by omega) (by omega), n2 1 (by omega) (by omega), e4.1.1 1 (Or.inl rfl)]
  · have e24 : (va_up I12 0 (va_up (I12 0) 5 0)) 24 = I12 24 := up_n (by omega)
    have hb0 := hb'.1.1
    refine ⟨0, 100, 8, 0, by omega, by omega, by omega, by omega, ?_, ?_, fun k hk => by omega⟩
    · rw [e24]; exact ⟨s4, s5, s6, s3⟩
    · exact ⟨z5, z6, z7, z8⟩
  · exact ⟨0, by omega, by rw [up_s, up_s]; rfl, z4, fun j hj => by omega⟩
  · intro h hh
    obtain ⟨a1, a2⟩ := f3 h hh
    refine ⟨Or.inl ?_, Or.inl ?_⟩
    · rw [up_n (by omega), s2 _ (by omega)]; exact a1
    · rw [up_n (by omega), s2 _ (by omega)]; exact a2
