/-! the two objects as they are made -/
theorem dF.shift {o o2 ns np nt nc : Nat} {ck cb : Nat → Nat} {I I2 IM : zI} (h : dF o ns np nt nc ck cb I IM) (e : ∀ k, k < 10 → I2 (o2 + k) = I (o + k)) : dF o2 ns np nt nc ck cb I2 IM := by
  unfold dF dN1 dS1 dP1 dT1 at h ⊢
  rw [show I2 o2 = I o from e 0 (by omega), e 1 (by omega), e 2 (by omega), e 3 (by omega), e 4 (by omega), e 5 (by omega), e 6 (by omega), e 7 (by omega), e 8 (by omega), e 9 (by omega)]
  exact h
theorem pu_init : op_init zRel := by
  have c10 : (10 : Int32).toInt = 10 := rfl
  have c100 : (100 : Int32).toInt = 100 := rfl
  obtain ⟨I1, a1, a2, ⟨a3, a4, a5, a6, a7, a8, a9, a10⟩, a11, a12⟩ := x_clear (I := fun _ _ => 0) (J := fun _ _ => 0) (o := 0)
  rcases x_takeSpeed (J := fun _ _ => 0) (show 0 ≤ 6 by omega) a3 10 10 with ⟨_, I4, b1, b2, b3, b4, b5, b6, b7⟩ | ⟨cc, _⟩
  case inr =>
    exfalso
    apply cc
    rw [c10]; omega
  rcases x_takePiece (J := fun _ _ => 0) (show 0 ≤ 8 by omega) ((b4 10 (by omega)).trans a4) 10 1 100 10 with ⟨_, I7, d1, d2, d3, d4, ⟨d5, d6, d7, d8⟩, d9⟩ | ⟨cc, _⟩
  case inr =>
    exfalso
    apply cc
    rw [c10, c100, k1]; omega
  have s0 : ∀ j, j ≠ 9 → j ≠ 10 → I7 0 j = I1 0 j := fun j h1 h2 => by rw [d4 j h2, b4 j h1]
  have n9 : I7 0 9 = nI 1 := by rw [d4 9 (by omega)]; exact b3
  have r1 : I7 1 0 = 10 := by rw [d2 1 (by omega) (by omega) (by omega) (by omega) (by omega)]; exact b5
  have r2 : I7 2 0 = 10 := by rw [d2 2 (by omega) (by omega) (by omega) (by omega) (by omega)]; exact b6
  have r9 : ∀ w, w ≤ 100 → I7 9 w = -1 := fun w hw => by rw [d2 9 (by omega) (by omega) (by omega) (by omega) (by omega), b2 9 (by omega) (by omega) (by omega)]; exact a12 w hw
  have v12 : I7 0 12 = nI 4 := (s0 12 (by omega) (by omega)).trans a6
  have v13 : I7 0 13 = nI 9 := (s0 13 (by omega) (by omega)).trans a7
  have v14 : I7 0 14 = nI 60 := (s0 14 (by omega) (by omega)).trans a8
  have v15 : I7 0 15 = nI 8 := (s0 15 (by omega) (by omega)).trans a9
  have v16 : I7 0 16 = nI 999 := (s0 16 (by omega) (by omega)).trans a10
  -- a reference's second bench of our own
  have hd : dR 0 1 1 0 0 (fun _ => 0) (fun _ => 0) I7 (fun R y => if R = 3 ∨ R = 5 then nI 1 else if R = 11 then I7 0 (7 + y) else if R = 4 then (if y = 12 then I7 1 0 else I7 2 0) else if R = 6 then (if y = 32 then I7 3 0 else if y = 33 then I7 4 0 else if y = 34 then I7 5 0 else I7 6 0) else 0) := by
    refine ⟨⟨⟨by omega, by omega, by omega, by omega⟩, ⟨n9, d3, ?_⟩, rfl, rfl, rfl, rfl⟩, ⟨fun j hj => ?_, ⟨?_, ?_, ?_⟩, ?_, ?_⟩, fun i hi => ?_, fun p hp => ?_, fun t ht => by omega, ⟨fun k => ⟨by show 0 ≤ 100; omega, by show 0 ≤ 100; omega⟩, fun k hk => by omega, fun w hw => ?_⟩⟩
    · exact (s0 11 (by omega) (by omega)).trans a5
    · show I7 0 (12 + j) = I7 0 (7 + (5 + j))
      rw [show 7 + (5 + j) = 12 + j by omega]
    · rw [v12]; exact isN_n (by omega) (by omega) (by omega)
    · rw [v13]; exact isN_n (by omega) (by omega) (by omega)
    · rw [v14]; exact isN_n (by omega) (by omega) (by omega)
    · rw [v15]; exact isN_n (by omega) (by omega) (by omega)
    · rw [v16]; exact isN_n (by omega) (by omega) (by omega)
    · have e : i = 0 := by omega
      subst e
      refine ⟨⟨rfl, rfl⟩, ?_, ?_⟩
      · show isN (I7 1 0) 1 99
        rw [r1]; exact isN_n (v := 10) (by omega) (by omega) (by omega)
      · show isN (I7 2 0) 0 999
        rw [r2]; exact isN_n (v := 10) (by omega) (by omega) (by omega)
    · have e : p = 0 := by omega
      subst e
      refine ⟨⟨rfl, rfl, rfl, rfl⟩, ?_, ?_, ?_, ?_⟩
      · show isN (I7 3 0) 1 99
        rw [show I7 3 0 = 10 from d5]; exact isN_n (v := 10) (by omega) (by omega) (by omega)
      · show isN (I7 4 0) 1 8
        rw [show I7 4 0 = 1 from d6]; exact isN_n (v := 1) (by omega) (by omega) (by omega)
      · show isN (I7 5 0) 0 100
        rw [show I7 5 0 = 100 from d7]; exact isN_n (v := 100) (by omega) (by omega) (by omega)
      · show isN (I7 6 0) 0 999
        rw [show I7 6 0 = 10 from d8]; exact isN_n (v := 10) (by omega) (by omega) (by omega)
    · show I7 9 w = -1
      exact r9 w hw
  obtain ⟨sm, rI, f1, -, -, f4, f5⟩ := x_finish (J := fun _ _ => 0) hd
  have hlay : f_X0_layFirst (fun _ _ => 0) (fun _ _ => 0) 0 = some rI := by
    unfold f_X0_layFirst
    rw [a1, zb1_s, b1, zb2_s, d1, zb2_s, f1, zb2_s]
  -- the reference's
  obtain ⟨M1, g1, g2, ⟨g3, g4, g5, g6⟩, g7, ⟨g8, g9, g10, g11, g12⟩, g13⟩ := m_begins (I := fun _ _ => 0) (J := fun _ _ => 0) (k := 0) (by omega)
  obtain ⟨M2, h2⟩ : ∃ M2, M2 = va_up M1 3 (upd (M1 3) (0 : Int32).toNatClampNeg 1) := ⟨_, rfl⟩
  obtain ⟨M3, h3⟩ : ∃ M3, M3 = va_up M2 4 (upd (M2 4) (0 : Int32).toNatClampNeg 10) := ⟨_, rfl⟩
  obtain ⟨M4, h4⟩ : ∃ M4, M4 = va_up M3 4 (upd (M3 4) (1 : Int32).toNatClampNeg 10) := ⟨_, rfl⟩
  obtain ⟨M5, h5⟩ : ∃ M5, M5 = va_up M4 5 (upd (M4 5) (0 : Int32).toNatClampNeg 1) := ⟨_, rfl⟩
  obtain ⟨M6, h6⟩ : ∃ M6, M6 = va_up M5 6 (upd (M5 6) (0 : Int32).toNatClampNeg 10) := ⟨_, rfl⟩
  obtain ⟨M7, h7⟩ : ∃ M7, M7 = va_up M6 6 (upd (M6 6) (1 : Int32).toNatClampNeg 1) := ⟨_, rfl⟩
  obtain ⟨M8, h8⟩ : ∃ M8, M8 = va_up M7 6 (upd (M7 6) (2 : Int32).toNatClampNeg 100) := ⟨_, rfl⟩
  obtain ⟨M9, h9⟩ : ∃ M9, M9 = va_up M8 6 (upd (M8 6) (3 : Int32).toNatClampNeg 10) := ⟨_, rfl⟩
  have q3 : M9 3 0 = 1 := by rw [h9, up_n (by omega), h8, up_n (by omega), h7, up_n (by omega), h6, up_n (by omega), h5, up_n (by omega), h4, up_n (by omega), h3, up_n (by omega), h2, up_s]; exact ud_s
  have q4 : M9 4 = M4 4 := by rw [h9, up_n (by omega), h8, up_n (by omega), h7, up_n (by omega), h6, up_n (by omega), h5, up_n (by omega)]
  have q40 : M4 4 0 = 10 := by rw [h4, up_s, ud_n (show 0 ≠ (1 : Int32).toNatClampNeg by decide), h3, up_s]; exact ud_s
  have q41 : M4 4 1 = 10 := by rw [h4, up_s]; exact ud_s
  have q5 : M9 5 0 = 1 := by rw [h9, up_n (by omega), h8, up_n (by omega), h7, up_n (by omega), h6, up_n (by omega), h5, up_s]; exact ud_s
  have q63 : M9 6 3 = 10 := by rw [h9, up_s]; exact ud_s
  have q62 : M9 6 2 = 100 := by rw [h9, up_s, ud_n (show 2 ≠ (3 : Int32).toNatClampNeg by decide), h8, up_s]; exact ud_s
  have q61 : M9 6 1 = 1 := by rw [h9, up_s, ud_n (show 1 ≠ (3 : Int32).toNatClampNeg by decide), h8, up_s, ud_n (show 1 ≠ (2 : Int32).toNatClampNeg by decide), h7, up_s]; exact ud_s
  have q60 : M9 6 0 = 10 := by rw [h9, up_s, ud_n (show 0 ≠ (3 : Int32).toNatClampNeg by decide), h8, up_s, ud_n (show 0 ≠ (2 : Int32).toNatClampNeg by decide), h7, up_s, ud_n (show 0 ≠ (1 : Int32).toNatClampNeg by decide), h6, up_s]; exact ud_s
  have qo : ∀ r, r ≠ 3 → r ≠ 4 → r ≠ 5 → r ≠ 6 → M9 r = M1 r := fun r z1 z2 z3 z4 => by rw [h9, up_n z4, h8, up_n z4, h7, up_n z4, h6, up_n z4, h5, up_n z3, h4, up_n z2, h3, up_n z2, h2, up_n z1]
  obtain ⟨M10, e1, e2, e3, e4, e5, e6⟩ := m_ends (I := M9) (J := fun _ _ => 0) (k := 0) (nt := 0) (by omega) (by omega) (by rw [qo 9 (by omega) (by omega) (by omega) (by omega)]; exact g6)
  obtain ⟨M11, w1, w2, w3, w4, w5, w6, w7, w8⟩ := m_handsBegin (I := M10) (J := fun _ _ => 0)
  obtain ⟨y1, y2⟩ := e5 rfl
  have hrow : ∀ k, k < 10 → zI0C rI (4 + k) = rI (0 + k) := fun k hk => by
    unfold zI0C
    rw [if_pos ⟨by omega, by omega⟩, show 4 + k - 4 = 0 + k by omega]
  have hF := f4.shift (o2 := 4) hrow
  have z5 : zI0C rI 5 = rI 1 := hrow 1 (by omega)
  have z6 : zI0C rI 6 = rI 2 := hrow 2 (by omega)
  have z7 : zI0C rI 7 = rI 3 := hrow 3 (by omega)
  have z8 : zI0C rI 8 = rI 4 := hrow 4 (by omega)
  have z9 : zI0C rI 9 = rI 5 := hrow 5 (by omega)
  have z10 : zI0C rI 10 = rI 6 := hrow 6 (by omega)
  have hF0 := hF
  obtain ⟨-, -, -, ⟨fn, -⟩, fs, fp, ft, -⟩ := hF
  obtain ⟨fs1, -⟩ := fs 0 (by omega)
  obtain ⟨fp1, -⟩ := fp 0 (by omega)
  have ft1 := ft rfl
  obtain ⟨b', hb', hC', hM', -⟩ := fin_bench (M := M10) hF0 (by omega) (by omega) ⟨by rw [e2 3 (by omega) (by omega)]; exact q3, by rw [e2 5 (by omega) (by omega)]; exact q5, e3, by rw [e2 7 (by omega) (by omega), qo 7 (by omega) (by omega) (by omega) (by omega)]; exact g5⟩
    (fun j hj => by
      rw [e2 11 (by omega) (by omega), qo 11 (by omega) (by omega) (by omega) (by omega)]
      have hf : zI0C rI 4 (12 + j) = I7 0 (7 + (5 + j)) := fn j hj
      rw [hf, show 7 + (5 + j) = 12 + j by omega]
      have hj5 : j = 0 ∨ j = 1 ∨ j = 2 ∨ j = 3 ∨ j = 4 := by omega
      rcases hj5 with rfl | rfl | rfl | rfl | rfl
      · exact g8.trans v12.symm
      · exact g9.trans v13.symm
      · exact g10.trans v14.symm
      · exact g11.trans v15.symm
      · exact g12.trans v16.symm)
    (fun i hi => by
      have e : i = 0 := by omega
      subst e
      have s1 : zI0C rI 5 0 = I7 1 0 := fs1.1
      have s2 : zI0C rI 6 0 = I7 2 0 := fs1.2
      rw [s1, s2, r1, r2, e2 4 (by omega) (by omega), q4]
      exact ⟨q40, q41⟩)
    (fun p hp => by
      have e : p = 0 := by omega
      subst e
      have s1 : zI0C rI 7 0 = I7 3 0 := fp1.1
      have s2 : zI0C rI 8 0 = I7 4 0 := fp1.2.1
      have s3 : zI0C rI 9 0 = I7 5 0 := fp1.2.2.1
      have s4 : zI0C rI 10 0 = I7 6 0 := fp1.2.2.2
      rw [s1, s2, s3, s4, show I7 3 0 = 10 from d5, show I7 4 0 = 1 from d6, show I7 5 0 = 100 from d7, show I7 6 0 = 10 from d8, e2 6 (by omega) (by omega)]
      exact ⟨q60, q61, q62, q63⟩)
    (fun t ht => by
      rw [if_pos rfl] at ht
      have e : t = 0 := by omega
      subst e
      exact ⟨y1.trans ft1.1.symm, y2.trans ft1.2.symm⟩)
    (fun k hk => by omega)
  have zr : ∀ r, r < 4 ∨ 14 ≤ r → ¬ (r = 24 ∨ r = 27 ∨ r = 30) → zI0C rI r = fun _ => 0 := fun r k1 k2 => by
    unfold zI0C
    rw [if_neg (by omega), if_neg k2]
  have z24 : zI0C rI 24 = fun j => if j = 4 then 100 else if j = 5 then 8 else 0 := by
    unfold zI0C
    rw [if_neg (by omega), if_pos (Or.inl rfl)]
  have m0 : M11 0 0 = 0 := by rw [w3 0 (by omega), e2 0 (by omega) (by omega), qo 0 (by omega) (by omega) (by omega) (by omega), g2 0 (by omega) (by omega) (by omega) (by omega) (by omega)]
  refine ⟨rI, M1, M2, M3, M4, M5, M6, M7, M8, M9, M10, M11, hlay, g1, h2, h3, h4, h5, h6, h7, h8, h9, e1, w1, b', hb', hC', hM'.eq (fun k k1 k2 => w2 k (by omega) (by omega) (by omega)), ?_, ?_, ?_, ?_⟩
  · exact ⟨0, by omega, by rw [zr 1 (by omega) (by omega)]; rfl, m0, fun k hk => by omega⟩
  · have hb0 := hb'.1.1
    refine ⟨0, 100, 8, 0, by omega, by omega, by omega, by omega, ?_, ⟨w5, w6, w7, w8⟩, fun k hk => by omega⟩
    rw [z24]
    exact ⟨rfl, rfl, rfl, rfl⟩
  · exact ⟨0, by omega, by rw [zr 0 (by omega) (by omega)]; rfl, w4, fun j hj => by omega⟩
  · intro h hh
    refine ⟨Or.inl ?_, Or.inl ?_⟩
    · rw [zr _ (by omega) (by omega)]
    · rw [zr _ (by omega) (by omega)]
