/-! the whole text, read by both -/
/-- the reference's rows that a text's reading leaves -/
def oZ2 (I I2 : zI) : Prop := ((∀ r, r = 1 ∨ 11 < r → I2 r = I r) ∧ ∀ j, j ≠ 2 → I2 0 j = I 0 j) ∧ (I2 3 0 = I 3 0 ∧ I2 5 0 = I 5 0 ∧ I2 7 0 = I 7 0 ∧ I2 9 0 = I 9 0) ∧ (∀ y, y < 12 → I2 4 y = I 4 y) ∧ (∀ y, y < 32 → I2 6 y = I 6 y) ∧ (∀ y, y < 200 → I2 8 y = I 8 y) ∧ (∀ y, y < 8 → I2 10 y = I 10 y) ∧ ∀ y, y < 5 → I2 11 y = I 11 y
theorem oZ2.refl {I : zI} : oZ2 I I := ⟨⟨fun _ _ => rfl, fun _ _ => rfl⟩, ⟨rfl, rfl, rfl, rfl⟩, fun _ _ => rfl, fun _ _ => rfl, fun _ _ => rfl, fun _ _ => rfl, fun _ _ => rfl⟩
theorem oZ2.trans {I I2 I3 : zI} (h : oZ2 I I2) (g : oZ2 I2 I3) : oZ2 I I3 := by
  obtain ⟨⟨a1, a2⟩, ⟨a3, a4, a5, a6⟩, a7, a8, a9, a10, a11⟩ := h
  obtain ⟨⟨b1, b2⟩, ⟨b3, b4, b5, b6⟩, b7, b8, b9, b10, b11⟩ := g
  exact ⟨⟨fun r hr => by rw [b1 r hr, a1 r hr], fun j hj => by rw [b2 j hj, a2 j hj]⟩, ⟨by rw [b3, a3], by rw [b4, a4], by rw [b5, a5], by rw [b6, a6]⟩, fun y hy => by rw [b7 y hy, a7 y hy], fun y hy => by rw [b8 y hy, a8 y hy], fun y hy => by rw [b9 y hy, a9 y hy], fun y hy => by rw [b10 y hy, a10 y hy], fun y hy => by rw [b11 y hy, a11 y hy]⟩
theorem oB.toZ {I I2 : zI} (h : oB I I2) : oZ2 I I2 := by
  refine ⟨⟨fun r hr => h.1 r (by omega) (by omega), h.2⟩, ⟨?_, ?_, ?_, ?_⟩, fun y _ => ?_, fun y _ => ?_, fun y _ => ?_, fun y _ => ?_, fun y _ => ?_⟩
  · rw [h.1 3 (by omega) (by omega)]
  · rw [h.1 5 (by omega) (by omega)]
  · rw [h.1 7 (by omega) (by omega)]
  · rw [h.1 9 (by omega) (by omega)]
  · rw [h.1 4 (by omega) (by omega)]
  · rw [h.1 6 (by omega) (by omega)]
  · rw [h.1 8 (by omega) (by omega)]
  · rw [h.1 10 (by omega) (by omega)]
  · rw [h.1 11 (by omega) (by omega)]
theorem ptS.toZ {l ns np nc nt : Nat} {I I2 : zI} (hm : 1 ≤ nmO l) (h : ptS l ns np nc nt I I2) : oZ2 I I2 ∧ I2 0 = I 0 := by
  obtain ⟨p1, p2, p3, p4, p5⟩ := h
  rcases nmO_7 hm with rfl | rfl | rfl | rfl | rfl | rfl | rfl
  · have q : ∀ r, r ≠ 4 → r ≠ 3 → r ≠ 5 → r ≠ 7 → r ≠ 9 → I2 r = I r := p1
    have w : ∀ y, y < 12 + 2 * ns → I2 4 y = I 4 y := fun y hy => p3 y (Or.inl hy)
    exact ⟨⟨⟨fun r hr => q r (by omega) (by omega) (by omega) (by omega) (by omega), fun j hj => by rw [q 0 (by omega) (by omega) (by omega) (by omega) (by omega)]⟩, p5, fun y hy => w y (by omega), fun y hy => by rw [q 6 (by omega) (by omega) (by omega) (by omega) (by omega)], fun y hy => by rw [q 8 (by omega) (by omega) (by omega) (by omega) (by omega)], fun y hy => by rw [q 10 (by omega) (by omega) (by omega) (by omega) (by omega)], fun y hy => by rw [q 11 (by omega) (by omega) (by omega) (by omega) (by omega)]⟩, q 0 (by omega) (by omega) (by omega) (by omega) (by omega)⟩
  · have q : ∀ r, r ≠ 6 → r ≠ 3 → r ≠ 5 → r ≠ 7 → r ≠ 9 → I2 r = I r := p1
    have w : ∀ y, y < 32 + 4 * np → I2 6 y = I 6 y := fun y hy => p3 y (Or.inl hy)
    exact ⟨⟨⟨fun r hr => q r (by omega) (by omega) (by omega) (by omega) (by omega), fun j hj => by rw [q 0 (by omega) (by omega) (by omega) (by omega) (by omega)]⟩, p5, fun y hy => by rw [q 4 (by omega) (by omega) (by omega) (by omega) (by omega)], fun y hy => w y (by omega), fun y hy => by rw [q 8 (by omega) (by omega) (by omega) (by omega) (by omega)], fun y hy => by rw [q 10 (by omega) (by omega) (by omega) (by omega) (by omega)], fun y hy => by rw [q 11 (by omega) (by omega) (by omega) (by omega) (by omega)]⟩, q 0 (by omega) (by omega) (by omega) (by omega) (by omega)⟩
  · have q : ∀ r, r ≠ 8 → r ≠ 3 → r ≠ 5 → r ≠ 7 → r ≠ 9 → I2 r = I r := p1
    have w : ∀ y, y < 200 + 2 * nc → I2 8 y = I 8 y := fun y hy => p3 y (Or.inl hy)
    exact ⟨⟨⟨fun r hr => q r (by omega) (by omega) (by omega) (by omega) (by omega), fun j hj => by rw [q 0 (by omega) (by omega) (by omega) (by omega) (by omega)]⟩, p5, fun y hy => by rw [q 4 (by omega) (by omega) (by omega) (by omega) (by omega)], fun y hy => by rw [q 6 (by omega) (by omega) (by omega) (by omega) (by omega)], fun y hy => w y (by omega), fun y hy => by rw [q 10 (by omega) (by omega) (by omega) (by omega) (by omega)], fun y hy => by rw [q 11 (by omega) (by omega) (by omega) (by omega) (by omega)]⟩, q 0 (by omega) (by omega) (by omega) (by omega) (by omega)⟩
  · have q : ∀ r, r ≠ 10 → r ≠ 3 → r ≠ 5 → r ≠ 7 → r ≠ 9 → I2 r = I r := p1
    have w : ∀ y, y < 8 + 2 * nt → I2 10 y = I 10 y := fun y hy => p3 y (Or.inl hy)
    exact ⟨⟨⟨fun r hr => q r (by omega) (by omega) (by omega) (by omega) (by omega), fun j hj => by rw [q 0 (by omega) (by omega) (by omega) (by omega) (by omega)]⟩, p5, fun y hy => by rw [q 4 (by omega) (by omega) (by omega) (by omega) (by omega)], fun y hy => by rw [q 6 (by omega) (by omega) (by omega) (by omega) (by omega)], fun y hy => by rw [q 8 (by omega) (by omega) (by omega) (by omega) (by omega)], fun y hy => w y (by omega), fun y hy => by rw [q 11 (by omega) (by omega) (by omega) (by omega) (by omega)]⟩, q 0 (by omega) (by omega) (by omega) (by omega) (by omega)⟩
  all_goals
    have q : ∀ r, r ≠ 11 → r ≠ 3 → r ≠ 5 → r ≠ 7 → r ≠ 9 → I2 r = I r := p1
    have w : ∀ y, y < 5 → I2 11 y = I 11 y := fun y hy => p3 y (Or.inl (by first | (show y < 5; omega) | (show y < 7; omega) | (show y < 8; omega)))
    exact ⟨⟨⟨fun r hr => q r (by omega) (by omega) (by omega) (by omega) (by omega), fun j hj => by rw [q 0 (by omega) (by omega) (by omega) (by omega) (by omega)]⟩, p5, fun y hy => by rw [q 4 (by omega) (by omega) (by omega) (by omega) (by omega)], fun y hy => by rw [q 6 (by omega) (by omega) (by omega) (by omega) (by omega)], fun y hy => by rw [q 8 (by omega) (by omega) (by omega) (by omega) (by omega)], fun y hy => by rw [q 10 (by omega) (by omega) (by omega) (by omega) (by omega)], fun y hy => w y hy⟩, q 0 (by omega) (by omega) (by omega) (by omega) (by omega)⟩
section RB
variable {B : Nat → Nat} {n : Nat} {J JM : zJ}
/-- an item as it must be -/
def okI (B : Nat → Nat) (l q0 ns np nt : Nat) (s : Nat × (Nat → Nat)) : Prop := 1 ≤ nmO l ∧ rdR B q0 (nmO l) = some s ∧ (∀ j, j < nmO l → loS l j ≤ s.2 j ∧ s.2 j ≤ hiS l j) ∧ B s.1 = 59 ∧ ¬ fulL l ns np nt
theorem m_isItem (hB : tBt B n) {I : zI} {q ns np nt nc : Nat} (hM : tMt B n I) (h2 : I 0 2 = nI q) (hq : q < n) (h3 : I 3 1 = nI ns) (h5 : I 5 1 = nI np) (h7 : I 7 1 = nI nc) (h9 : I 9 1 = nI nt) (hb : ns ≤ 6 ∧ np ≤ 8 ∧ nt ≤ 4) (hnc : nc < 100) : (∃ (s : Nat × (Nat → Nat)) (I2 I3 : zI), okI B (B q) (q + 1) ns np nt s ∧ f_X12_isItem I JM = some (1, I3) ∧ oB I I2 ∧ (∀ j, j < nmO (B q) → I2 2 j = nI (s.2 j)) ∧ ptS (B q) ns np nc nt I2 I3 ∧ I3 0 2 = nI (s.1 + 1) ∧ s.1 < n) ∨ ((∀ s, ¬ okI B (B q) (q + 1) ns np nt s) ∧ ∃ I3 : zI, f_X12_isItem I JM = some (0, I3) ∧ oB I I3) := by
  have hn := hB.1
  have hx : ∀ c, c < 128 → (I 1 q = nI c ↔ B q = c) := hM.2 q hq
  have h118 : I 1 q = 118 ↔ B q = 118 := hx 118 (by omega)
  have h98 : I 1 q = 98 ↔ B q = 98 := hx 98 (by omega)
  have h99 : I 1 q = 99 ↔ B q = 99 := hx 99 (by omega)
  have h107 : I 1 q = 107 ↔ B q = 107 := hx 107 (by omega)
  have h116 : I 1 q = 116 ↔ B q = 116 := hx 116 (by omega)
  have h112 : I 1 q = 112 ↔ B q = 112 := hx 112 (by omega)
  have h104 : I 1 q = 104 ↔ B q = 104 := hx 104 (by omega)
  have hm4 := nmO_le (B q)
  have e13 : (if I 1 q = 118 then some (2 : Int32) else (if I 1 q = 98 then some (2) else (if I 1 q = 99 then some (2) else (if I 1 q = 107 then some (2) else (if I 1 q = 116 then some (2) else (if I 1 q = 112 then some (4) else (if I 1 q = 104 then some (1) else some (0)))))))) = some (nI (nmO (B q))) := by
    simp only [h118, h98, h99, h107, h116, h112, h104]
    generalize B q = l
    unfold nmO
    repeat' split
    all_goals first | rfl | omega
  generalize hl : B q = l at *
  have o3 : oB I (va_up I 0 (va_up (I 0) 2 (nI (q + 1)))) := ⟨fun r h1 h2 => up_n h1, fun j hj => by rw [up_s, up_n hj]⟩
  unfold f_X12_isItem
  rw [h2, zg_t (nI_in (show q < 500 by omega) (by omega)), nI_clamp (by omega), zn_e, nI_1, zn_e, e13, zb1_s]
  generalize hI3 : va_up I 0 (va_up (I 0) 2 (nI (q + 1))) = I3 at o3
  have p3 : I3 0 2 = nI (q + 1) := by rw [← hI3, up_s, up_s]
  have hM3 := o3.toT hM
  by_cases m0 : nmO l = 0
  · have e0 : zl (fun v : (Int32 × Int32 × zI) => f_X12_isItem_L89 (nI 0) JM (I 1 q) v.1 v.2.1 v.2.2) zF (0, 0, I3) = some (0, I3) := by
      obtain ⟨z, hz⟩ : ∃ z, zF = z + 1 := ⟨9999999, rfl⟩
      rw [hz]
      exact zl_r (if_pos (show nI 0 ≤ 0 by decide))
    rw [m0, if_pos (show nI 0 ≤ 0 by decide), zb1_s, e0, zb2_s, if_pos (show (0 : Int32) = 0 from rfl), zb1_s, if_pos (show (0 : Int32) = 0 from rfl)]
    exact Or.inr ⟨fun s z => by have := z.1; omega, I3, rfl, o3⟩
  obtain ⟨⟨x54, I55⟩, e1, e2⟩ := m_items (J := JM) hB hx hM3 p3 (show q + 1 ≤ n by omega) (show 1 ≤ nmO l ∧ nmO l ≤ 4 by omega)
  rw [if_neg (nI_nle (by omega) (by omega)), zb1_s, e1, zb2_s]
  rcases e2 with ⟨s, g1, g2, g3, g4, g5, g6⟩ | ⟨g1, g2, g3⟩
  case inr =>
    replace g1 : x54 = 0 := g1
    replace g3 : oB I3 I55 := g3
    rw [if_pos g1, zb1_s, if_pos (show (0 : Int32) = 0 from rfl)]
    exact Or.inr ⟨fun s z => g2 ⟨s, z.2.1, z.2.2.1⟩, I55, rfl, o3.trans g3⟩
  replace g1 : x54 = 1 := g1
  replace g3 : I55 0 2 = nI s.1 := g3
  replace g5 : ∀ j, j < nmO l → I55 2 j = nI (s.2 j) ∧ loS l j ≤ s.2 j ∧ s.2 j ≤ hiS l j := g5
  replace g6 : oB I3 I55 := g6
  have o55 := o3.trans g6
  have hM55 := g6.toT hM3
  have e62 : (if x54 = 0 then some (0 : Int32) else (if (I55 0 0) ≤ (I55 0 2) then some (0) else zg (¬ ((I55 0 2) < 0 ∨ 500 ≤ (I55 0 2).toNatClampNeg)) ((if (I55 1 (I55 0 2).toNatClampNeg) = 59 then some (1) else some (0))))) = some (zi (B s.1 = 59)) := by
    rw [g1, if_neg (by decide), hM55.1, g3]
    by_cases d : s.1 < n
    · rw [if_neg (nI_ge d (by omega)), zg_t (nI_in (show s.1 < 500 by omega) (by omega)), nI_clamp (by omega)]
      have h59 : I55 1 s.1 = 59 ↔ B s.1 = 59 := hM55.2 s.1 d 59 (by omega)
      by_cases y : B s.1 = 59
      · rw [if_pos (h59.2 y), zi, if_pos y]
      · rw [if_neg (fun z => y (h59.1 z)), zi, if_neg y]
    · have hz := hB.2.1 s.1 (by omega)
      rw [if_pos (nI_le (by omega) (by omega)), zi, if_neg (by omega)]
  rw [e62, zb1_s, zif]
  by_cases c : B s.1 = 59
  case neg =>
    rw [if_neg c]
    refine Or.inr ⟨fun s2 z => ?_, I55, rfl, o55⟩
    have e := z.2.1
    rw [g2] at e
    have e := Option.some.inj e
    rw [← e] at z
    exact c z.2.2.2.1
  have hsn : s.1 < n := by
    by_cases d : s.1 < n
    · exact d
    · have := hB.2.1 s.1 (by omega); omega
  have f3 : I55 3 1 = nI ns := by rw [o55.1 3 (by omega) (by omega)]; exact h3
  have f5 : I55 5 1 = nI np := by rw [o55.1 5 (by omega) (by omega)]; exact h5
  have f7 : I55 7 1 = nI nc := by rw [o55.1 7 (by omega) (by omega)]; exact h7
  have f9 : I55 9 1 = nI nt := by rw [o55.1 9 (by omega) (by omega)]; exact h9
  rw [if_pos c]
  simp only [h118, h112, h116, zg_t (show ¬ ((1 : Int32) < 0 ∨ 2 ≤ (1 : Int32).toNatClampNeg) by decide)]
  simp only [sp_1, f3, f5, f9]
  have i6 : nI ns = 6 ↔ ns = 6 := nI_eq (b := 6) (by omega) (by omega)
  have i8 : nI np = 8 ↔ np = 8 := nI_eq (b := 8) (by omega) (by omega)
  have i4 : nI nt = 4 ↔ nt = 4 := nI_eq (b := 4) (by omega) (by omega)
  simp only [i6, i8, i4]
  by_cases hf : fulL l ns np nt
  · refine Or.inr ⟨fun s2 z => z.2.2.2.2 hf, I55, ?_, o55⟩
    rcases hf with ⟨z1, z2⟩ | ⟨z1, z2⟩ | ⟨z1, z2⟩
    · rw [if_pos z1, if_pos z2, zc0_r]
    · rw [if_neg (by omega), zc0_l, if_pos z1, if_pos z2, zc0_r]
    · rw [if_neg (by omega), zc0_l, if_neg (by omega), zc0_l, if_pos z1, if_pos z2, zc0_r]
  · have nf : ¬ (l = 118 ∧ ns = 6) ∧ ¬ (l = 112 ∧ np = 8) ∧ ¬ (l = 116 ∧ nt = 4) := by unfold fulL at hf; omega
    have a1 : (if l = 118 then (if ns = 6 then some (Sum.inr (α := Unit) ((0 : Int32), I55)) else some (.inl ())) else some (.inl ())) = some (.inl ()) := by
      by_cases z : l = 118
      · rw [if_pos z, if_neg (fun y => nf.1 ⟨z, y⟩)]
      · rw [if_neg z]
    have a2 : (if l = 112 then (if np = 8 then some (Sum.inr (α := Unit) ((0 : Int32), I55)) else some (.inl ())) else some (.inl ())) = some (.inl ()) := by
      by_cases z : l = 112
      · rw [if_pos z, if_neg (fun y => nf.2.1 ⟨z, y⟩)]
      · rw [if_neg z]
    have a3 : (if l = 116 then (if nt = 4 then some (Sum.inr (α := Unit) ((0 : Int32), I55)) else some (.inl ())) else some (.inl ())) = some (.inl ()) := by
      by_cases z : l = 116
      · rw [if_pos z, if_neg (fun y => nf.2.2 ⟨z, y⟩)]
      · rw [if_neg z]
    rw [a1, zc0_l, a2, zc0_l, a3, zc0_l, g3, nI_1, zn_e]
    generalize hI79 : va_up I55 0 (va_up (I55 0) 2 (nI (s.1 + 1))) = I79
    have o79 : oB I55 I79 := ⟨fun r h1 h2 => by rw [← hI79, up_n h1], fun j hj => by rw [← hI79, up_s, up_n hj]⟩
    have k79 : ∀ r, r ≠ 0 → I79 r = I55 r := fun r hr => by rw [← hI79, up_n hr]
    obtain ⟨I80, u1, u2⟩ := m_puts (J := JM) hx (show 1 ≤ nmO l by omega) (show I79 3 1 = nI ns by rw [k79 3 (by omega)]; exact f3) (show I79 5 1 = nI np by rw [k79 5 (by omega)]; exact f5) (show I79 7 1 = nI nc by rw [k79 7 (by omega)]; exact f7) (show I79 9 1 = nI nt by rw [k79 9 (by omega)]; exact f9) (fun z => by have := nf.1; omega) (fun z => by have := nf.2.1; omega) (fun _ => hnc) (fun z => by have := nf.2.2; omega)
    have hpt : ptS l ns np nc nt I79 I80 := u2
    rw [u1, zb1_s]
    refine Or.inl ⟨s, I79, I80, ⟨by omega, g2, fun j hj => (g5 j hj).2, c, hf⟩, rfl, o55.trans o79, fun j hj => by rw [k79 2 (by omega)]; exact (g5 j hj).1, hpt, ?_, hsn⟩
    rw [(hpt.toZ (by omega)).2, ← hI79, up_s, up_s]
/-- the class's rows that a text's reading leaves -/
def oP (o : Nat) (I I2 : zI) : Prop := (∀ r, r ≠ 1 → r ≠ 3 → r < o ∨ o + 9 < r → I2 r = I r) ∧ ∀ j, j ≠ 3 → I2 1 j = I 1 j
theorem oP.trans {o : Nat} {I I2 I3 : zI} (h : oP o I I2) (g : oP o I2 I3) : oP o I I3 := ⟨fun r h1 h2 h3 => by rw [g.1 r h1 h2 h3, h.1 r h1 h2 h3], fun j hj => by rw [g.2 j hj, h.2 j hj]⟩
theorem oA.toP {o : Nat} {I I2 : zI} (h : oA I I2) : oP o I I2 := ⟨fun r h1 h2 _ => h.1 r h1 h2, h.2⟩
theorem dR.eqs {o ns np nt nc : Nat} {ck cb : Nat → Nat} {I I2 IM IM2 : zI} (ho : o = 14 ∨ o = 4) (h : dR o ns np nt nc ck cb I IM) (e1 : oA I I2) (e2 : oB IM IM2) : dR o ns np nt nc ck cb I2 IM2 := by
  obtain ⟨⟨q1, q2, q3⟩, d1, d2, d3, d4, d5⟩ := h
  refine ⟨⟨q1, ?_, ?_⟩, d1.eq (fun j h1 h2 => by rw [e1.1 o (by omega) (by omega)]) (e2.1 11 (by omega) (by omega)), d2.eq (e1.1 _ (by omega) (by omega)) (e1.1 _ (by omega) (by omega)) (e2.1 4 (by omega) (by omega)), d3.eq (fun k h1 h2 => e1.1 _ (by omega) (by omega)) (e2.1 6 (by omega) (by omega)), d4.eq (e1.1 _ (by omega) (by omega)) (e1.1 _ (by omega) (by omega)) (e2.1 10 (by omega) (by omega)), d5.eq (e1.1 _ (by omega) (by omega)) (e2.1 8 (by omega) (by omega))⟩
  · rw [e1.1 o (by omega) (by omega)]; exact q2
  · rw [e2.1 3 (by omega) (by omega), e2.1 5 (by omega) (by omega), e2.1 7 (by omega) (by omega), e2.1 9 (by omega) (by omega)]; exact q3
/-- all items, from a place on -/
theorem read_loop (hB : tBt B n) {o : Nat} (ho : o = 14 ∨ o = 4) : ∀ (r q k ns np nt nc : Nat) (ck cb : Nat → Nat) (I IM : zI), n ≤ q + r → q ≤ n → k ≤ q → 5 * nc ≤ q → tCt B n I → tMt B n IM → I 1 3 = nI q → IM 0 2 = nI q → dR o ns np nt nc ck cb I IM → ∀ f1 f2, r < f1 → r < f2 → ∃ I2 IM2 : zI, oP o I I2 ∧ oZ2 IM IM2 ∧ ((∃ v : Nat, v ≤ n ∧ zl (fun u : (Int32 × zI) => f_X8_readInto_L11 J o u.1 u.2) f1 (nI k, I) = some (.inr (nI v, I2)) ∧ zl (fun u : zI => f_X12_fault_L10 JM u) f2 IM = some (.inr (nI v, IM2))) ∨ (zl (fun u : (Int32 × zI) => f_X8_readInto_L11 J o u.1 u.2) f1 (nI k, I) = some (.inl I2) ∧ zl (fun u : zI => f_X12_fault_L10 JM u) f2 IM = some (.inl IM2) ∧ ∃ (ns' np' nt' nc' : Nat) (ck' cb' : Nat → Nat), dR o ns' np' nt' nc' ck' cb' I2 IM2)) := by
  have hn := hB.1
  intro r
  induction r with
  | zero =>
    intro q k ns np nt nc ck cb I IM h1 h2 h3 h4 hC hM h5 h6 hd f1 f2 g1 g2
    obtain ⟨f1, rfl⟩ : ∃ f, f1 = f + 1 := ⟨f1 - 1, by omega⟩
    obtain ⟨f2, rfl⟩ : ∃ f, f2 = f + 1 := ⟨f2 - 1, by omega⟩
    refine ⟨I, IM, ⟨fun _ _ _ _ => rfl, fun _ _ => rfl⟩, oZ2.refl, Or.inr ⟨zl_r ?_, zl_r ?_, ns, np, nt, nc, ck, cb, hd⟩⟩
    · show f_X8_readInto_L11 J o (nI k) I = _
      unfold f_X8_readInto_L11
      rw [hC.1, h5, if_pos (nI_le (by omega) (by omega)), ite_self]
    · show f_X12_fault_L10 JM IM = _
      unfold f_X12_fault_L10
      rw [hM.1, h6, if_pos (nI_le (by omega) (by omega))]
  | succ r ih =>
    intro q k ns np nt nc ck cb I IM h1 h2 h3 h4 hC hM h5 h6 hd f1 f2 g1 g2
    obtain ⟨f1, rfl⟩ : ∃ f, f1 = f + 1 := ⟨f1 - 1, by omega⟩
    obtain ⟨f2, rfl⟩ : ∃ f, f2 = f + 1 := ⟨f2 - 1, by omega⟩
    by_cases hq : q < n
    case neg =>
      refine ⟨I, IM, ⟨fun _ _ _ _ => rfl, fun _ _ => rfl⟩, oZ2.refl, Or.inr ⟨zl_r ?_, zl_r ?_, ns, np, nt, nc, ck, cb, hd⟩⟩
      · show f_X8_readInto_L11 J o (nI k) I = _
        unfold f_X8_readInto_L11
        rw [hC.1, h5, if_pos (nI_le (by omega) (by omega)), ite_self]
      · show f_X12_fault_L10 JM IM = _
        unfold f_X12_fault_L10
        rw [hM.1, h6, if_pos (nI_le (by omega) (by omega))]
    have hq1 := hd.1
    obtain ⟨q1, q2, q3⟩ := hq1
    have hbt := hB.2.2 q
    have hm4 := nmO_le (B q)
    have c500 : ¬ (500 : Int32) ≤ nI k := nI_ge (b := 500) (by omega) (by omega)
    have clen : ¬ nI n ≤ nI q := nI_ge hq (by omega)
    -- the class's body
    have X : ∀ (x14 : Int32) (I15 : zI), f_X8_readNumbers I J (nI (nmO (B q))) = some (x14, I15) → f_X8_readInto_L11 J o (nI k) I = (if x14 = 0 then some (.inr (.inr (nI q, I15))) else zb2 (f_X0_take I15 J o (nI (B q)) 3) (fun x18 I19 => (if x18 = 0 then some (.inr (.inr (nI q, I19))) else some (.inl (nI (k + 1), I19))))) := by
      intro x14 I15 hr
      unfold f_X8_readInto_L11
      rw [if_neg c500, hC.1, h5, if_neg clen, zn_e, x_byteAt hB hC (by omega), zb1_s, numbersOf_e hbt, zb1_s, hr, zb2_s, nI_1]
      rfl
    have M : ∀ (x8 : Int32) (I9 : zI), f_X12_isItem IM JM = some (x8, I9) → f_X12_fault_L10 JM IM = (if x8 = 0 then some (.inr (.inr (nI q, I9))) else some (.inl I9)) := by
      intro x8 I9 hr
      unfold f_X12_fault_L10
      rw [hM.1, h6, if_neg clen, zn_e, hr, zb2_s]
    have hnc : nc < 100 := by omega
    rcases m_isItem (JM := JM) hB hM h6 hq q3.1 q3.2.1 q3.2.2.2 q3.2.2.1 ⟨q1.1, q1.2.1, q1.2.2.1⟩ hnc with ⟨s, M2, M3, ok, e1, e2, e3, e4, e5, e6⟩ | ⟨bad, M3, e1, e2⟩
    · -- an item
      obtain ⟨k1, k2, k3, k4, k5⟩ := ok
      have hrd : rdS B (nmO (B q)) (q + 1) (nmO (B q)) = some (s.1 + 1, s.2) := by
        rcases rd_eq (B := B) (m := nmO (B q)) (q0 := q + 1) (nmO (B q)) k1 (Nat.le_refl _) with ⟨z1, _⟩ | ⟨s2, z1, z2⟩
        · rw [z1] at k2; cases k2
        · rw [k2] at z1
          have z1 := Option.some.inj z1
          rw [z2, ← z1, if_neg (show ¬ nmO (B q) < nmO (B q) by omega), if_pos k4]
      have me := M 1 M3 e1
      rw [if_neg (by decide)] at me
      rcases x_readNumbers (J := J) hB hC h5 hq hm4 with ⟨e, f, I2, a1, a2, a3, a4, a5, a6, a7, a8⟩ | ⟨a1, _⟩
      case inr =>
        rcases a1 with z | z
        · omega
        · rw [hrd] at z; cases z
      rw [hrd] at a2
      have a2 := Option.some.inj a2
      have ae : e = s.1 + 1 := by rw [show e = ((e, f) : Nat × (Nat → Nat)).1 from rfl, ← a2]
      have af : f = s.2 := by rw [show f = ((e, f) : Nat × (Nat → Nat)).2 from rfl, ← a2]
      have hd2 : dR o ns np nt nc ck cb I2 M2 := hd.eqs ho a8 e2
      obtain ⟨I3, ns', np', nt', ck', cb', b1, b2, b3⟩ := take_step (J := J) k1 hd2 (fun j hj => by rw [← af]; exact (a7 j hj).1) e3 k3 k5 (fun _ => hnc) e4
      have xe := X 1 I2 a3
      rw [if_neg (by decide), b1, zb2_s, if_neg (by decide)] at xe
      have o3 : oP o I I3 := a8.toP.trans ⟨fun r _ _ hr => b3 r hr, fun j hj => by rw [b3 1 (by omega)]⟩
      have z3 : oZ2 IM M3 := e2.toZ.trans (e4.toZ k1).1
      have hC3 : tCt B n I3 := (a8.toT hC).go (by rw [b3 1 (by omega)]) (b3 2 (by omega))
      have hM3 : tMt B n M3 := hM.go (z3.1.2 0 (by omega)) (z3.1.1 1 (Or.inl rfl))
      have hpl : I3 1 3 = nI (s.1 + 1) := by rw [b3 1 (by omega), a4, ae]
      have h98 : B q = 98 → nmO (B q) = 2 := fun z => by rw [z]; rfl
      rw [zl_l xe, zl_l me]
      obtain ⟨I4, M4, c1, c2, c3⟩ := ih (s.1 + 1) (k + 1) ns' np' nt' (nc + if B q = 98 then 1 else 0) ck' cb' I3 M3 (by omega) (by omega) (by omega) (by
        by_cases z : B q = 98
        · rw [if_pos z]
          have := h98 z
          omega
        · rw [if_neg z]; omega) hC3 hM3 hpl e5 b2 f1 f2 (by omega) (by omega)
      exact ⟨I4, M4, o3.trans c1, z3.trans c2, c3⟩
    · -- none
      have me := M 0 M3 e1
      rw [if_pos rfl] at me
      have fin : ∃ I3 : zI, f_X8_readInto_L11 J o (nI k) I = some (.inr (.inr (nI q, I3))) ∧ oP o I I3 := by
        rcases x_readNumbers (J := J) hB hC h5 hq hm4 with ⟨e, f, I2, a1, a2, a3, a4, a5, a6, a7, a8⟩ | ⟨a1, I2, a2, a3⟩
        · have hd2 : dR o ns np nt nc ck cb I2 IM := hd.eqs ho a8 oB.refl
          have xe := X 1 I2 a3
          have ht := take_fail (J := J) a1 hd2.1 a7 (fun z => by
            rcases rd_eq (B := B) (m := nmO (B q)) (q0 := q + 1) (nmO (B q)) a1 (Nat.le_refl _) with ⟨_, z2⟩ | ⟨s2, z1, z2⟩
            · rw [a2] at z2; cases z2
            · rw [a2, if_neg (show ¬ nmO (B q) < nmO (B q) by omega)] at z2
              by_cases y : B s2.1 = 59
              · rw [if_pos y] at z2
                have z2 := Option.some.inj z2
                have zf : f = s2.2 := by rw [show f = ((e, f) : Nat × (Nat → Nat)).2 from rfl, z2]
                exact bad s2 ⟨a1, z1, fun j hj => by rw [← zf]; exact z.1 j hj, y, z.2⟩
              · rw [if_neg y] at z2; cases z2)
          rw [if_neg (by decide), ht, zb2_s, if_pos rfl] at xe
          exact ⟨I2, xe, a8.toP⟩
        · have xe := X 0 I2 a2
          rw [if_pos rfl] at xe
          exact ⟨I2, xe, a3.toP⟩
      obtain ⟨I3, x1, x2⟩ := fin
      exact ⟨I3, M3, x2, e2.toZ, Or.inl ⟨q, h2, zl_r x1, zl_r me⟩⟩
end RB
