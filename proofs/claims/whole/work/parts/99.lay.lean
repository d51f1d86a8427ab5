/-! a bench laid -/
def bOf (I : zI) : zB := fun k i => if k = 9 then (I 4 (9 + i)).toInt.toNat else (I (5 + k) i).toInt.toNat
theorem bOf_9 {I : zI} {i : Nat} : bOf I 9 i = (I 4 (9 + i)).toInt.toNat := if_pos rfl
theorem bOf_k {I : zI} {k i : Nat} (h : k ≠ 9) : bOf I k i = (I (5 + k) i).toInt.toNat := if_neg h
theorem nI_n2 {x : Int32} {v : Nat} (h : x = nI v) (hv : v < 2 ^ 31) : x.toInt.toNat = v := by rw [h, nI_toInt hv]; rfl
theorem fin_bench {ns np nt nc : Nat} {ck cb : Nat → Nat} {I IM M : zI} (hd : dF 4 ns np nt nc ck cb I IM) (h1 : 1 ≤ ns) (h2 : 1 ≤ np) (m0 : M 3 0 = nI ns ∧ M 5 0 = nI np ∧ M 9 0 = nI (if nt = 0 then 1 else nt) ∧ M 7 0 = nI nc) (m1 : ∀ j, j < 5 → M 11 j = I 4 (12 + j)) (m2 : ∀ i, i < ns → M 4 (2 * i) = I 5 i ∧ M 4 (2 * i + 1) = I 6 i) (m3 : ∀ p, p < np → M 6 (4 * p) = I 7 p ∧ M 6 (4 * p + 1) = I 8 p ∧ M 6 (4 * p + 2) = I 9 p ∧ M 6 (4 * p + 3) = I 10 p) (m4 : ∀ t, t < (if nt = 0 then 1 else nt) → M 10 (2 * t) = I 11 t ∧ M 10 (2 * t + 1) = I 12 t) (m5 : ∀ k, k < nc → M 8 (2 * k) = nI (ck k) ∧ M 8 (2 * k + 1) = nI (cb k)) : ∃ b, bOk b ∧ rC b I 4 ∧ rM b M ∧ b 9 1 = np := by
  obtain ⟨⟨q1, q2, q3, q4⟩, ⟨q5, q6, q7⟩, -, ⟨-, ⟨n1, n2, n3⟩, n4, n5⟩, d2, d3, d4, d5, ⟨d6, -⟩, d8⟩ := hd
  have hnt : (if nt = 0 then 1 else nt) ≤ 4 ∧ 1 ≤ (if nt = 0 then 1 else nt) := by split <;> omega
  have b0 : bOf I 9 0 = ns := by rw [bOf_9]; exact nI_n2 q5 (by omega)
  have b1 : bOf I 9 1 = np := by rw [bOf_9]; exact nI_n2 q6 (by omega)
  have b2 : bOf I 9 2 = (if nt = 0 then 1 else nt) := by rw [bOf_9]; exact nI_n2 q7 (by omega)
  have b3 := isN_e n1 (by omega)
  have b4 := isN_e n2 (by omega)
  have b5 := isN_e n3 (by omega)
  have b6 := isN_e n4 (by omega)
  have b7 := isN_e n5 (by omega)
  have s1 : ∀ i, i < ns → (I 5 i = nI (bOf I 0 i) ∧ 1 ≤ bOf I 0 i ∧ bOf I 0 i ≤ 99) ∧ I 6 i = nI (bOf I 1 i) ∧ bOf I 1 i ≤ 999 := by
    intro i hi
    obtain ⟨_, z1, z2⟩ := d2 i hi
    have y1 := isN_e z1 (by omega)
    have y2 := isN_e z2 (by omega)
    rw [bOf_k (show 0 ≠ 9 by omega), bOf_k (show 1 ≠ 9 by omega)]
    exact ⟨y1, y2.1, y2.2.2⟩
  have s2 : ∀ p, p < np → (I 7 p = nI (bOf I 2 p) ∧ 1 ≤ bOf I 2 p ∧ bOf I 2 p ≤ 99) ∧ (I 8 p = nI (bOf I 3 p) ∧ 1 ≤ bOf I 3 p ∧ bOf I 3 p ≤ 8) ∧ (I 9 p = nI (bOf I 4 p) ∧ bOf I 4 p ≤ 100) ∧ I 10 p = nI (bOf I 5 p) ∧ bOf I 5 p ≤ 999 := by
    intro p hp
    obtain ⟨_, z1, z2, z3, z4⟩ := d3 p hp
    have y1 := isN_e z1 (by omega)
    have y2 := isN_e z2 (by omega)
    have y3 := isN_e z3 (by omega)
    have y4 := isN_e z4 (by omega)
    rw [bOf_k (show 2 ≠ 9 by omega), bOf_k (show 3 ≠ 9 by omega), bOf_k (show 4 ≠ 9 by omega), bOf_k (show 5 ≠ 9 by omega)]
    exact ⟨y1, y2, ⟨y3.1, y3.2.2⟩, y4.1, y4.2.2⟩
  have s3 : ∀ t, t < (if nt = 0 then 1 else nt) → (I 11 t = nI (bOf I 6 t) ∧ 1 ≤ bOf I 6 t ∧ bOf I 6 t ≤ 400) ∧ I 12 t = nI (bOf I 7 t) ∧ bOf I 7 t ≤ 10 := by
    intro t ht
    have z : isN (I 11 t) 1 400 ∧ isN (I 12 t) 0 10 := by
      by_cases c : nt = 0
      · rw [if_pos c] at ht
        have e : t = 0 := by omega
        obtain ⟨y1, y2⟩ := d4 c
        replace y1 : I 11 0 = 100 := y1
        replace y2 : I 12 0 = 10 := y2
        rw [e, y1, y2]
        exact ⟨⟨by decide, by decide⟩, by decide, by decide⟩
      · rw [if_neg c] at ht
        exact (d5 t ht).2
    have y1 := isN_e z.1 (by omega)
    have y2 := isN_e z.2 (by omega)
    rw [bOf_k (show 6 ≠ 9 by omega), bOf_k (show 7 ≠ 9 by omega)]
    exact ⟨y1, y2.1, y2.2.2⟩
  have hck : ∀ w, ckB ck cb w nc ≤ 100 := by
    intro w
    unfold ckB
    cases ckAt ck w nc with
    | none => show 0 ≤ 100; omega
    | some k => exact (d6 k).2
  have s4 : ∀ w, w ≤ 100 → bOf I 8 w = ckB ck cb w nc := by
    intro w hw
    have e : I 13 w = nI (ckB ck cb w nc) := d8 w hw
    rw [bOf_k (show 8 ≠ 9 by omega)]
    exact nI_n2 e (by have := hck w; omega)
  refine ⟨bOf I, ⟨by omega, by omega, by omega, ?_, ?_, fun i hi => ?_, fun p hp => ?_, fun h hh => ?_, fun w hw => ?_⟩, ⟨fun j hj => ?_, fun k hk i hi => ?_⟩, ⟨⟨by rw [b0]; exact m0.1, by rw [b1]; exact m0.2.1, by rw [b2]; exact m0.2.2.1⟩, fun j hj => ?_, fun i hi => ?_, fun p hp => ?_, fun h hh => ?_, nc, ck, cb, q4, m0.2.2.2, fun k hk => ⟨(m5 k hk).1, (m5 k hk).2, d6 k⟩, s4⟩, b1⟩
  · rw [bOf_9, bOf_9, bOf_9]; exact ⟨b3.2.2, b4.2.2, b5.2.2⟩
  · rw [bOf_9, bOf_9]; exact ⟨⟨b6.2.1, b6.2.2⟩, b7.2.1, b7.2.2⟩
  · rw [b0] at hi
    have z := s1 i hi
    exact ⟨z.1.2.1, z.1.2.2, z.2.2⟩
  · rw [b1] at hp
    have z := s2 p hp
    exact ⟨z.1.2, z.2.1.2, z.2.2.1.2, z.2.2.2.2⟩
  · rw [b2] at hh
    have z := s3 h hh
    exact ⟨z.1.2, z.2.2⟩
  · rw [s4 w hw]; exact hck w
  · have hj8 : j = 0 ∨ j = 1 ∨ j = 2 ∨ j = 3 ∨ j = 4 ∨ j = 5 ∨ j = 6 ∨ j = 7 := by omega
    rcases hj8 with rfl | rfl | rfl | rfl | rfl | rfl | rfl | rfl
    · rw [b0]; exact q5
    · rw [b1]; exact q6
    · rw [b2]; exact q7
    · rw [bOf_9]; exact b3.1
    · rw [bOf_9]; exact b4.1
    · rw [bOf_9]; exact b5.1
    · rw [bOf_9]; exact b6.1
    · rw [bOf_9]; exact b7.1
  · unfold bCt at hi
    rw [b0, b1, b2] at hi
    have hk9 : k = 0 ∨ k = 1 ∨ k = 2 ∨ k = 3 ∨ k = 4 ∨ k = 5 ∨ k = 6 ∨ k = 7 ∨ k = 8 := by omega
    rcases hk9 with rfl | rfl | rfl | rfl | rfl | rfl | rfl | rfl | rfl
    · exact (s1 i hi).1.1
    · exact (s1 i hi).2.1
    · exact (s2 i hi).1.1
    · exact (s2 i hi).2.1.1
    · exact (s2 i hi).2.2.1.1
    · exact (s2 i hi).2.2.2.1
    · exact (s3 i hi).1.1
    · exact (s3 i hi).2.1
    · have hw : i ≤ 100 := by
        have z : i < 101 := hi
        omega
      rw [s4 i hw]
      exact d8 i hw
  · rw [m1 j hj, bOf_9]
    have hj5 : j = 0 ∨ j = 1 ∨ j = 2 ∨ j = 3 ∨ j = 4 := by omega
    rcases hj5 with rfl | rfl | rfl | rfl | rfl
    · exact b3.1
    · exact b4.1
    · exact b5.1
    · exact b6.1
    · exact b7.1
  · rw [b0] at hi
    rw [(m2 i hi).1, (m2 i hi).2]
    exact ⟨(s1 i hi).1.1, (s1 i hi).2.1⟩
  · rw [b1] at hp
    obtain ⟨z1, z2, z3, z4⟩ := m3 p hp
    rw [z1, z2, z3, z4]
    exact ⟨(s2 p hp).1.1, (s2 p hp).2.1.1, (s2 p hp).2.2.1.1, (s2 p hp).2.2.2.1⟩
  · rw [b2] at hh
    rw [(m4 h hh).1, (m4 h hh).2]
    exact ⟨(s3 h hh).1.1, (s3 h hh).2.1⟩
/-- a row copied so far -/
def cpR (R c k : Nat) (I0 I : zI) : Prop := ∀ y, I R y = if y < k ∧ y < c then I0 R (c + y) else I0 R y
theorem cpR.step {R c k : Nat} {I0 I : zI} (h : cpR R c k I0 I) (hk : k < c) : cpR R c (k + 1) I0 (va_up I R (upd (I R) k (I R (c + k)))) := by
  intro y
  rw [up_s]
  by_cases d : y = k
  · subst d
    rw [ud_s, h, if_neg (by omega), if_pos ⟨by omega, hk⟩]
  · rw [ud_n d, h y]
    by_cases e : y < k ∧ y < c
    · rw [if_pos e, if_pos ⟨by omega, e.2⟩]
    · rw [if_neg e, if_neg (by omega)]
theorem cpR.skip {R c k : Nat} {I0 I : zI} (h : cpR R c k I0 I) (hk : c ≤ k) : cpR R c (k + 1) I0 I := by
  intro y
  rw [h y]
  by_cases e : y < k ∧ y < c
  · rw [if_pos e, if_pos ⟨by omega, e.2⟩]
  · rw [if_neg e, if_neg (by omega)]
theorem cpR.eq {R c k : Nat} {I0 I I2 : zI} (h : cpR R c k I0 I) (e : I2 R = I R) : cpR R c k I0 I2 := by
  intro y
  rw [e]; exact h y
theorem nI_in2 {k N : Nat} (h : k < N) (hN : N < 2 ^ 31) : ¬ (nI k < 0 ∨ N ≤ k) := fun z => z.elim (nI_pos (by omega)) (fun y => by omega)
theorem cpR.one {R c k sz : Nat} {I0 I : zI} (hR : 2 * c = sz) (hs : sz < 2 ^ 20) (hk : k < 200) (h : cpR R c k I0 I) : ∃ I2 : zI, (if nI c ≤ nI k then some I else zg (¬ ((nI c + nI k) < 0 ∨ sz ≤ (nI c + nI k).toNatClampNeg)) (zg (¬ (nI k < 0 ∨ sz ≤ k)) (zn (va_up I R (upd (I R) k (I R (nI c + nI k).toNatClampNeg))) (fun I34 => some (I34))))) = some I2 ∧ (∀ r, r ≠ R → I2 r = I r) ∧ cpR R c (k + 1) I0 I2 := by
  by_cases d : c ≤ k
  · rw [if_pos (nI_le d (by omega))]
    exact ⟨I, rfl, fun _ _ => rfl, h.skip d⟩
  · rw [if_neg (nI_ge (by omega) (by omega)), nI_add, zg_t (nI_in (by omega) (by omega)), zg_t (nI_in2 (by omega) (by omega)), nI_clamp (by omega), zn_e]
    exact ⟨_, rfl, fun r hr => up_n hr, h.step (by omega)⟩
theorem m_lay85 {I : zI} : ∃ I2 : zI, zl (fun v : (Int32 × zI) => f_X12_lay_L85 v.1 v.2) zF (0, I) = some I2 ∧ ((∀ r, r ≠ 4 → r ≠ 6 → r ≠ 8 → r ≠ 10 → r ≠ 11 → I2 r = I r) ∧ cpR 8 200 200 I I2 ∧ cpR 4 12 200 I I2 ∧ cpR 6 32 200 I I2 ∧ cpR 10 8 200 I I2 ∧ cpR 11 5 200 I I2) := by
  have z0 : ∀ R c, cpR R c 0 I I := fun R c y => by rw [if_neg (by omega)]
  refine zl_inv (fun k v => v.1 = nI k ∧ (∀ r, r ≠ 4 → r ≠ 6 → r ≠ 8 → r ≠ 10 → r ≠ 11 → v.2 r = I r) ∧ cpR 8 200 k I v.2 ∧ cpR 4 12 k I v.2 ∧ cpR 6 32 k I v.2 ∧ cpR 10 8 k I v.2 ∧ cpR 11 5 k I v.2) _ 200 0 _ ⟨rfl, fun _ _ _ _ _ _ => rfl, z0 _ _, z0 _ _, z0 _ _, z0 _ _, z0 _ _⟩ ?_ ?_ zF (by unfold zF; omega)
  · intro k v _ hk hv
    obtain ⟨x24, I25⟩ := v
    obtain ⟨g1, g2, g3, g4, g5, g6, g7⟩ := hv
    replace g1 : x24 = nI k := g1
    replace g2 : ∀ r, r ≠ 4 → r ≠ 6 → r ≠ 8 → r ≠ 10 → r ≠ 11 → I25 r = I r := g2
    replace g3 : cpR 8 200 k I I25 := g3
    replace g4 : cpR 4 12 k I I25 := g4
    replace g5 : cpR 6 32 k I I25 := g5
    replace g6 : cpR 10 8 k I I25 := g6
    replace g7 : cpR 11 5 k I I25 := g7
    subst g1
    have hk2 : k < 200 := by omega
    show ∃ v', f_X12_lay_L85 (nI k) I25 = some (.inl v') ∧ _
    unfold f_X12_lay_L85
    rw [if_neg (show ¬ (200 : Int32) ≤ nI k from nI_ge (b := 200) hk2 (by omega)), show (200 : Int32) = nI 200 from rfl, nI_add, zg_t (nI_in (by omega) (by omega)), zg_t (nI_in (by omega) (by omega)), nI_clamp (by omega), nI_clamp (by omega), zn_e]
    generalize hI28 : va_up I25 8 (upd (I25 8) k (I25 8 (200 + k))) = I28
    have o28 : ∀ r, r ≠ 8 → I28 r = I25 r := fun r hr => by rw [← hI28, up_n hr]
    have c28 : cpR 8 200 (k + 1) I I28 := by rw [← hI28]; exact g3.step hk2
    obtain ⟨I36, a1, a2, a3⟩ := (g4.eq (o28 4 (by omega))).one (sz := 24) rfl (by omega) hk2
    replace a1 : (if 12 ≤ nI k then some I28 else zg (¬ ((12 + nI k) < 0 ∨ 24 ≤ (12 + nI k).toNatClampNeg)) (zg (¬ (nI k < 0 ∨ 24 ≤ k)) (zn (va_up I28 4 (upd (I28 4) k (I28 4 (12 + nI k).toNatClampNeg))) (fun I34 => some (I34))))) = some I36 := a1
    obtain ⟨I43, b1, b2, b3⟩ := ((g5.eq (o28 6 (by omega))).eq (a2 6 (by omega))).one (sz := 64) rfl (by omega) hk2
    replace b1 : (if 32 ≤ nI k then some I36 else zg (¬ ((32 + nI k) < 0 ∨ 64 ≤ (32 + nI k).toNatClampNeg)) (zg (¬ (nI k < 0 ∨ 64 ≤ k)) (zn (va_up I36 6 (upd (I36 6) k (I36 6 (32 + nI k).toNatClampNeg))) (fun I34 => some (I34))))) = some I43 := b1
    obtain ⟨I50, c1, c2, c3⟩ := (((g6.eq (o28 10 (by omega))).eq (a2 10 (by omega))).eq (b2 10 (by omega))).one (sz := 16) rfl (by omega) hk2
    replace c1 : (if 8 ≤ nI k then some I43 else zg (¬ ((8 + nI k) < 0 ∨ 16 ≤ (8 + nI k).toNatClampNeg)) (zg (¬ (nI k < 0 ∨ 16 ≤ k)) (zn (va_up I43 10 (upd (I43 10) k (I43 10 (8 + nI k).toNatClampNeg))) (fun I34 => some (I34))))) = some I50 := c1
    rw [a1, zb1_s, b1, zb1_s, c1, zb1_s, nI_1]
    have e11 : I50 11 = I25 11 := by rw [c2 11 (by omega), b2 11 (by omega), a2 11 (by omega), o28 11 (by omega)]
    have oo : ∀ r, r ≠ 4 → r ≠ 6 → r ≠ 8 → r ≠ 10 → I50 r = I25 r := fun r h1 h2 h3 h4 => by rw [c2 r h4, b2 r h2, a2 r h1, o28 r h3]
    have f8 : cpR 8 200 (k + 1) I I50 := ((c28.eq (a2 8 (by omega))).eq (b2 8 (by omega))).eq (c2 8 (by omega))
    have f4 : cpR 4 12 (k + 1) I I50 := (a3.eq (b2 4 (by omega))).eq (c2 4 (by omega))
    have f6 : cpR 6 32 (k + 1) I I50 := b3.eq (c2 6 (by omega))
    by_cases d : 5 ≤ k
    · rw [if_pos (show (5 : Int32) ≤ nI k from nI_le (a := 5) d (by omega)), zn_e]
      exact ⟨_, rfl, rfl, fun r h1 h2 h3 h4 h5 => (oo r h1 h2 h3 h4).trans (g2 r h1 h2 h3 h4 h5), f8, f4, f6, c3, (g7.eq e11).skip d⟩
    · rw [if_neg (show ¬ (5 : Int32) ≤ nI k from nI_ge (b := 5) (by omega) (by omega)), show (5 : Int32) = nI 5 from rfl, nI_add, zg_t (nI_in (by omega) (by omega)), zg_t (nI_in2 (by omega) (by omega)), nI_clamp (by omega), zn_e, zn_e]
      have w : ∀ r, r ≠ 11 → (va_up I50 11 (upd (I50 11) k (I50 11 (5 + k)))) r = I50 r := fun r hr => up_n hr
      exact ⟨_, rfl, rfl, fun r h1 h2 h3 h4 h5 => (w r h5).trans ((oo r h1 h2 h3 h4).trans (g2 r h1 h2 h3 h4 h5)), f8.eq (w 8 (by omega)), f4.eq (w 4 (by omega)), f6.eq (w 6 (by omega)), c3.eq (w 10 (by omega)), (g7.eq e11).step (by omega)⟩
  · intro v hv
    obtain ⟨x24, I25⟩ := v
    obtain ⟨g1, g2⟩ := hv
    replace g1 : x24 = nI (0 + 200) := g1
    subst g1
    exact ⟨I25, if_pos (show (200 : Int32) ≤ nI 200 by decide), g2⟩
theorem cpR.at {R c : Nat} {I0 I : zI} (h : cpR R c 200 I0 I) (hc : c ≤ 200) {y : Nat} (hy : y < c) : I R y = I0 R (c + y) := by rw [h y, if_pos ⟨by omega, hy⟩]
theorem x_forget {I : zI} {J : zJ} : ∃ I2 : zI, f_X2_forget I J = some I2 ∧ (∀ r, r < 47 ∨ 71 ≤ r → I2 r = I r) ∧ ∀ h, h < 4 → I2 (47 + 3 * h) 6 = 0 ∧ I2 (59 + 3 * h) 6 = 0 := by
  have run : ∃ I2, zl (fun v : (Int32 × zI) => f_X2_forget_L2 J v.1 v.2) zF (0, I) = some I2 ∧ ((∀ r, r < 47 ∨ 71 ≤ r → I2 r = I r) ∧ ∀ h, h < 4 → I2 (47 + 3 * h) 6 = 0 ∧ I2 (59 + 3 * h) 6 = 0) := by
    refine zl_inv (fun k v => v.1 = nI k ∧ (∀ r, r < 47 ∨ 71 ≤ r → v.2 r = I r) ∧ ∀ h, h < k → v.2 (47 + 3 * h) 6 = 0 ∧ v.2 (59 + 3 * h) 6 = 0) _ 4 0 _ ⟨rfl, fun _ _ => rfl, fun h hh => by omega⟩ ?_ ?_ zF (by unfold zF; omega)
    · intro k v _ hk hv
      obtain ⟨x2, I3⟩ := v
      obtain ⟨g1, g2, g3⟩ := hv
      replace g1 : x2 = nI k := g1
      replace g2 : ∀ r, r < 47 ∨ 71 ≤ r → I3 r = I r := g2
      replace g3 : ∀ h, h < k → I3 (47 + 3 * h) 6 = 0 ∧ I3 (59 + 3 * h) 6 = 0 := g3
      subst g1
      have hk4 : k < 4 := by omega
      obtain ⟨I6, a1, a2, a3, a4, a5⟩ := x_clearP (I := I3) (J := J) (o := 47 + 3 * k)
      obtain ⟨I9, b1, b2, b3, b4, b5⟩ := x_clearP (I := I6) (J := J) (o := 59 + 3 * k)
      show ∃ v', f_X2_forget_L2 J (nI k) I3 = some (.inl v') ∧ _
      unfold f_X2_forget_L2
      rw [if_neg (show ¬ (4 : Int32) ≤ nI k from nI_ge (b := 4) hk4 (by omega)), zg_t (nI_in hk4 (by omega)), nI_clamp (by omega), a1, zb1_s, zg_t (nI_in2 hk4 (by omega)), b1, zb1_s, zn_e, nI_1]
      refine ⟨_, rfl, rfl, fun r hr => ?_, fun h hh => ?_⟩
      · dsimp only
        rw [b2 r (by omega) (by omega), a2 r (by omega) (by omega)]; exact g2 r hr
      · dsimp only
        by_cases d : h = k
        · subst d
          rw [b2 (47 + 3 * h) (by omega) (by omega)]
          exact ⟨a4, b4⟩
        · rw [b2 (47 + 3 * h) (by omega) (by omega), a2 (47 + 3 * h) (by omega) (by omega), b2 (59 + 3 * h) (by omega) (by omega), a2 (59 + 3 * h) (by omega) (by omega)]
          exact g3 h (by omega)
    · intro v hv
      obtain ⟨x2, I3⟩ := v
      obtain ⟨g1, g2, g3⟩ := hv
      replace g1 : x2 = nI (0 + 4) := g1
      subst g1
      exact ⟨I3, if_pos (show (4 : Int32) ≤ nI 4 by decide), g2, g3⟩
  obtain ⟨I2, e1, e2⟩ := run
  unfold f_X2_forget
  rw [e1, zb1_s]
  exact ⟨I2, rfl, e2⟩
theorem x_reset {I : zI} {J : zJ} : ∃ I2 : zI, f_X1_reset I J 24 = some I2 ∧ (∀ r, r ≠ 24 → I2 r = I r) ∧ I2 24 2 = nI 0 ∧ I2 24 3 = nI 0 ∧ I2 24 4 = nI 100 ∧ I2 24 5 = nI 8 := by
  unfold f_X1_reset
  simp only [zn_e, up_s]
  refine ⟨_, rfl, fun r hr => by simp only [up_n hr], ?_, ?_, ?_, ?_⟩ <;> (rw [up_s]; rfl)
theorem m_handsBegin {I : zI} {J : zJ} : ∃ I2 : zI, f_X12_handsBegin I J = some I2 ∧ (∀ r, r ≠ 0 → r ≠ 12 → r ≠ 13 → I2 r = I r) ∧ (∀ j, j ≠ 13 → I2 0 j = I 0 j) ∧ I2 0 13 = nI 0 ∧ I2 12 0 = nI 0 ∧ I2 12 1 = nI 100 ∧ I2 12 2 = nI 8 ∧ I2 13 0 = nI 0 := by
  unfold f_X12_handsBegin
  simp only [zg_t (show ¬ ((0 : Int32) < 0 ∨ 9 ≤ (0 : Int32).toNatClampNeg) by decide), zg_t (show ¬ ((1 : Int32) < 0 ∨ 9 ≤ (1 : Int32).toNatClampNeg) by decide), zg_t (show ¬ ((2 : Int32) < 0 ∨ 9 ≤ (2 : Int32).toNatClampNeg) by decide), zg_t (show ¬ ((0 : Int32) < 0 ∨ 3 ≤ (0 : Int32).toNatClampNeg) by decide), zn_e]
  simp only [sp_0, sp_1, show (2 : Int32).toNatClampNeg = 2 from rfl]
  refine ⟨_, rfl, fun r h1 h2 h3 => ?_, fun j hj => ?_, ?_, ?_, ?_, ?_, ?_⟩
  · rw [up_n h1, up_n h3, up_n h2, up_n h2, up_n h2]
  · rw [up_s, up_n hj, up_n (by omega), up_n (by omega), up_n (by omega), up_n (by omega)]
  · rw [up_s, up_s]; rfl
  · rw [up_n (by omega), up_n (by omega), up_s, ud_n (by omega), up_s, ud_n (by omega), up_s, ud_s]; rfl
  · rw [up_n (by omega), up_n (by omega), up_s, ud_n (by omega), up_s, ud_s]; rfl
  · rw [up_n (by omega), up_n (by omega), up_s, ud_s]; rfl
  · rw [up_n (by omega), up_s, ud_s]; rfl
theorem m_ends {I : zI} {J : zJ} {k nt : Nat} (hk : k < 2) (hn : nt ≤ 4) (h : I 9 k = nI nt) : ∃ I2 : zI, f_X12_ends I J (nI k) = some I2 ∧ (∀ r, r ≠ 9 → r ≠ 10 → I2 r = I r) ∧ I2 9 k = nI (if nt = 0 then 1 else nt) ∧ (∀ j, j ≠ k → I2 9 j = I 9 j) ∧ (nt = 0 → I2 10 (8 * k) = 100 ∧ I2 10 (8 * k + 1) = 10) ∧ (nt ≠ 0 → I2 10 = I 10) := by
  have e0 : (8 : Int32) * nI k = nI (8 * k) := nI_mul 8 k
  unfold f_X12_ends
  rw [zg_t (nI_in hk (by omega)), nI_clamp (by omega), h, e0, nI_1]
  by_cases c : nt = 0
  · subst c
    rw [if_pos (show nI 0 = 0 from rfl), zg_t (nI_in2 hk (by omega)), zn_e, zg_t (nI_in (by omega) (by omega)), zn_e, zg_t (nI_in (by omega) (by omega)), zn_e, nI_clamp (by omega), nI_clamp (by omega)]
    refine ⟨_, rfl, fun r h1 h2 => ?_, ?_, fun j hj => ?_, fun _ => ⟨?_, ?_⟩, fun z => absurd rfl z⟩
    · rw [up_n h2, up_n h2, up_n h1]
    · rw [up_n (by omega), up_n (by omega), up_s, ud_s]; rfl
    · rw [up_n (by omega), up_n (by omega), up_s, ud_n hj]
    · rw [up_s, ud_n (by omega), up_s, ud_s]
    · rw [up_s, ud_s]
  · rw [if_neg (nI_ne0 (by omega) (by omega))]
    refine ⟨I, rfl, fun _ _ _ => rfl, by rw [if_neg c]; exact h, fun _ _ => rfl, fun z => absurd z c, fun _ => rfl⟩
