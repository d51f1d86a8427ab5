/-! the text's end; fault -/
theorem smT_le {t : Nat → Nat} : ∀ n, (∀ i, i < n → t i ≤ 10) → smT t n ≤ 10 * n := by
  intro n
  induction n with
  | zero => intro _; exact Nat.le_refl _
  | succ n ih =>
    intro h
    have h1 := ih (fun i hi => h i (by omega))
    have h2 := h n (by omega)
    show smT t n + t n ≤ _
    omega
theorem isN_e {x : Int32} {lo hi : Nat} (h : isN x lo hi) (h2 : hi < 2 ^ 31) : x = nI x.toInt.toNat ∧ lo ≤ x.toInt.toNat ∧ x.toInt.toNat ≤ hi := by
  obtain ⟨k, hk, rfl⟩ := nI_of3 (x := x) (n := hi + 1) (by have := h.1; omega) (by have := h.2; omega)
  unfold isN at h
  rw [nI_toInt (by omega)] at h ⊢
  exact ⟨rfl, by omega, by omega⟩
/-- a bench that is told, and ended -/
def dF (o ns np nt nc : Nat) (ck cb : Nat → Nat) (I IM : zI) : Prop := (ns ≤ 6 ∧ np ≤ 8 ∧ nt ≤ 4 ∧ nc ≤ 100) ∧ (I o 9 = nI ns ∧ I o 10 = nI np ∧ I o 11 = nI (if nt = 0 then 1 else nt)) ∧ (IM 3 1 = nI ns ∧ IM 5 1 = nI np ∧ IM 9 1 = nI nt ∧ IM 7 1 = nI nc) ∧ dN1 o I IM ∧ dS1 o ns I IM ∧ dP1 o np I IM ∧ (nt = 0 → I (o + 7) 0 = 100 ∧ I (o + 8) 0 = 10) ∧ dT1 o nt I IM ∧ ((∀ k, ck k ≤ 100 ∧ cb k ≤ 100) ∧ ∀ k, k < nc → IM 8 (200 + 2 * k) = nI (ck k) ∧ IM 8 (200 + 2 * k + 1) = nI (cb k)) ∧ ∀ w, w ≤ 100 → I (o + 9) w = nI (ckB ck cb w nc)
theorem x_finish {o ns np nt nc : Nat} {ck cb : Nat → Nat} {I IM : zI} {J : zJ} (hd : dR o ns np nt nc ck cb I IM) : ∃ (sm : Nat) (I2 : zI), f_X0_finish I J o = some (zi (sm = 10), I2) ∧ (nt = 0 → sm = 10) ∧ (nt ≠ 0 → sm = smT (fun i => (I (o + 8) i).toInt.toNat) nt) ∧ dF o ns np nt nc ck cb I2 IM ∧ ∀ r, r < o ∨ o + 9 < r → I2 r = I r := by
  obtain ⟨⟨q1, q2, q3⟩, d1, d2, d3, d4, d5⟩ := hd
  have hcb : ∀ k, cb k < 2 ^ 31 := fun k => by have := (d5.1 k).2; omega
  -- behind the steel
  have step : ∀ (I7 : zI) (nt' : Nat), nt' ≤ 4 → nt' = (if nt = 0 then 1 else nt) → I7 o 11 = nI nt' → (∀ j, j ≠ 11 → I7 o j = I o j) → (∀ r, r ≠ o → r ≠ o + 7 → r ≠ o + 8 → I7 r = I r) → (nt = 0 → I7 (o + 7) 0 = 100 ∧ I7 (o + 8) 0 = 10) → dT1 o nt I7 IM → (∀ i, i < nt' → isN (I7 (o + 8) i) 0 10) → ∃ I2 : zI, zb1 (zl (fun v : (Int32 × Int32 × zI) => f_X0_finish_L20 o v.1 v.2.1 v.2.2) zF (0, 0, I7)) (fun I22 => zb1 (zl (fun v : (Int32 × Int32) => f_X0_finish_L66 I22 o J v.1 v.2) zF (0, 0)) (fun x31 => (if x31 = 10 then some ((1 : Int32), I22) else some (0, I22)))) = some (zi (smT (fun i => (I7 (o + 8) i).toInt.toNat) nt' = 10), I2) ∧ dF o ns np nt nc ck cb I2 IM ∧ ∀ r, r < o ∨ o + 9 < r → I2 r = I r := by
    intro I7 nt' h1 h1b h2 h3 h4 h5 h6 h7
    obtain ⟨I22, a1, a2, a3⟩ := x_finL (I := I7) (J := J) (o := o)
    have e9 : I7 (o + 9) = I (o + 9) := h4 _ (by omega) (by omega) (by omega)
    have b2 : ∀ r, r ≠ o → r ≠ o + 7 → r ≠ o + 8 → r ≠ o + 9 → I22 r = I r := fun r z1 z2 z3 z4 => by rw [a2 r z4, h4 r z1 z2 z3]
    have b8 : I22 (o + 8) = I7 (o + 8) := a2 _ (by omega)
    have b7 : I22 (o + 7) = I7 (o + 7) := a2 _ (by omega)
    have bo : I22 o = I7 o := a2 _ (by omega)
    have hsm := smT_le (t := fun i => (I7 (o + 8) i).toInt.toNat) nt' (fun i hi => (isN_e (h7 i hi) (by omega)).2.2)
    have ten := x_tenL (I := I22) (J := J) (o := o) (n := nt') (t := fun i => (I7 (o + 8) i).toInt.toNat) h1 (by rw [bo]; exact h2) (fun i hi => by
      unfold f_X0_tenthsOf
      rw [e_at (by omega) (by omega), zb1_s, b8]
      exact congrArg some (isN_e (h7 i hi) (by omega)).1)
    refine ⟨I22, ?_, ⟨q1, ?_, q3, d1.eq (fun j z1 z2 => by rw [bo, h3 j (by omega)]) rfl, d2.eq (b2 _ (by omega) (by omega) (by omega) (by omega)) (b2 _ (by omega) (by omega) (by omega) (by omega)) rfl, d3.eq (fun k z1 z2 => b2 _ (by omega) (by omega) (by omega) (by omega)) rfl, fun z => ?_, h6.eq b7 b8 rfl, ⟨d5.1, d5.2.1⟩, fun w hw => ?_⟩, fun r hr => b2 r (by omega) (by omega) (by omega) (by omega)⟩
    · rw [a1, zb1_s, ten, zb1_s]
      generalize smT (fun i => (I7 (o + 8) i).toInt.toNat) nt' = sm at hsm
      by_cases c : sm = 10
      · rw [if_pos (by rw [c]; rfl), zi, if_pos c]
      · rw [if_neg (show ¬ nI sm = 10 from nI_eqF (c := 10) c (by omega) (by omega)), zi, if_neg c]
    · rw [bo, h3 9 (by omega), h3 10 (by omega), h2, ← h1b]
      exact ⟨q2.1, q2.2.1, rfl⟩
    · rw [b7, b8]; exact h5 z
    · rw [a3 w hw, e9]
      exact flR_ck hcb w (fun x hx => d5.2.2 x (by omega))
  unfold f_X0_finish
  by_cases c : nt = 0
  · subst c
    have c100 : (100 : Int32).toInt = 100 := rfl
    have c10 : (10 : Int32).toInt = 10 := rfl
    rcases x_takeSteel (J := J) (show 0 ≤ 4 by omega) q2.2.2 100 10 with ⟨_, I7, e1, e2, e3, e4, e5, e6, e7⟩ | ⟨cc, _⟩
    · obtain ⟨I2, s1, s2, s3⟩ := step I7 1 (by omega) rfl e3 e4 e2 (fun _ => ⟨e5, e6⟩) (fun t ht => by omega) (fun i hi => by
        have z : i = 0 := by omega
        rw [z, e6]
        exact ⟨by decide, by decide⟩)
      have sm : smT (fun i => (I7 (o + 8) i).toInt.toNat) 1 = 10 := by
        show 0 + (I7 (o + 8) 0).toInt.toNat = 10
        rw [e6]; rfl
      refine ⟨smT (fun i => (I7 (o + 8) i).toInt.toNat) 1, I2, ?_, fun _ => sm, fun z => absurd rfl z, s2, s3⟩
      rw [q2.2.2, if_pos (show nI 0 = 0 from rfl), e1, zb2_s, zb1_s]
      exact s1
    · exfalso
      apply cc
      rw [c100, c10]
      omega
  · obtain ⟨I2, s1, s2, s3⟩ := step I nt q1.2.2.1 (by rw [if_neg c]) q2.2.2 (fun _ _ => rfl) (fun _ _ _ _ => rfl) (fun z => absurd z c) d4 (fun i hi => (d4 i hi).2.2)
    refine ⟨_, I2, ?_, fun z => absurd z c, fun _ => rfl, s2, s3⟩
    rw [q2.2.2, if_neg (nI_ne0 (by omega) (by omega)), zb1_s]
    exact s1
theorem m_tenL {o nt : Nat} {I IM : zI} (h4 : nt ≤ 4) (h9 : IM 9 1 = nI nt) (hd : dT1 o nt I IM) : zl (fun v : (Int32 × Int32) => f_X12_fault_L42 IM v.1 v.2) zF (0, 0) = some (nI (smT (fun i => (I (o + 8) i).toInt.toNat) nt)) := by
  refine zl_run (S := fun k => (nI (smT (fun i => (I (o + 8) i).toInt.toNat) k), nI k)) _ nt (fun k hk => ?_) ?_ zF (by unfold zF; omega)
  · show f_X12_fault_L42 IM (nI _) (nI k) = _
    obtain ⟨⟨_, e1⟩, _, e2⟩ := hd k hk
    have e3 := (isN_e e2 (by omega)).1
    unfold f_X12_fault_L42
    rw [zg_t (by decide), sp_1, h9, if_neg (nI_ge hk (by omega)), show (9 : Int32) + 2 * nI k = nI (8 + 2 * k + 1) by rw [show (2 : Int32) = nI 2 from rfl, show (9 : Int32) = nI 9 from rfl, nI_mul, nI_add]; congr 1; omega, zg_t (nI_in (by omega) (by omega)), nI_clamp (by omega), zn_e, zn_e, nI_1, ← e1]
    show some (Sum.inl (nI (smT (fun i => (I (o + 8) i).toInt.toNat) k) + I (o + 8) k, nI (k + 1))) = some (.inl (nI (smT (fun i => (I (o + 8) i).toInt.toNat) k + (I (o + 8) k).toInt.toNat), nI (k + 1)))
    have e4 : nI (smT (fun i => (I (o + 8) i).toInt.toNat) k) + I (o + 8) k = nI (smT (fun i => (I (o + 8) i).toInt.toNat) k + (I (o + 8) k).toInt.toNat) := by rw [← nI_add, ← e3]
    rw [e4]
  · show f_X12_fault_L42 IM (nI _) (nI nt) = _
    unfold f_X12_fault_L42
    rw [zg_t (by decide), sp_1, h9, if_pos (nI_le (Nat.le_refl _) (by omega))]
/-- an empty bench: cleared, begun -/
theorem m_begins {I : zI} {J : zJ} {k : Nat} (hk : k < 2) : ∃ I2 : zI, f_X12_begins I J (nI k) = some I2 ∧ (∀ r, r ≠ 3 → r ≠ 5 → r ≠ 7 → r ≠ 9 → r ≠ 11 → I2 r = I r) ∧ (I2 3 k = nI 0 ∧ I2 5 k = nI 0 ∧ I2 7 k = nI 0 ∧ I2 9 k = nI 0) ∧ (∀ j, j ≠ k → I2 3 j = I 3 j ∧ I2 5 j = I 5 j ∧ I2 7 j = I 7 j ∧ I2 9 j = I 9 j) ∧ (I2 11 (5 * k) = nI 4 ∧ I2 11 (5 * k + 1) = nI 9 ∧ I2 11 (5 * k + 2) = nI 60 ∧ I2 11 (5 * k + 3) = nI 8 ∧ I2 11 (5 * k + 4) = nI 999) ∧ ∀ y, y < 5 * k ∨ 5 * k + 4 < y → I2 11 y = I 11 y := by
  have e0 : (5 : Int32) * nI k = nI (5 * k) := nI_mul 5 k
  unfold f_X12_begins
  rw [e0, nI_1, show (2 : Int32) = nI 2 from rfl, nI_add, show (3 : Int32) = nI 3 from rfl, nI_add, show (4 : Int32) = nI 4 from rfl, nI_add]
  simp only [zg_t (nI_in hk (show 2 < 2 ^ 31 by omega)), zg_t (nI_in (show 5 * k < 10 by omega) (show 10 < 2 ^ 31 by omega)), zg_t (nI_in (show 5 * k + 1 < 10 by omega) (show 10 < 2 ^ 31 by omega)), zg_t (nI_in (show 5 * k + 2 < 10 by omega) (show 10 < 2 ^ 31 by omega)), zg_t (nI_in (show 5 * k + 3 < 10 by omega) (show 10 < 2 ^ 31 by omega)), zg_t (nI_in (show 5 * k + 4 < 10 by omega) (show 10 < 2 ^ 31 by omega))]
  simp only [nI_clamp (show k < 2 ^ 31 by omega), nI_clamp (show 5 * k < 2 ^ 31 by omega), nI_clamp (show 5 * k + 1 < 2 ^ 31 by omega), nI_clamp (show 5 * k + 2 < 2 ^ 31 by omega), nI_clamp (show 5 * k + 3 < 2 ^ 31 by omega), nI_clamp (show 5 * k + 4 < 2 ^ 31 by omega), zn_e]
  refine ⟨_, rfl, fun r h1 h2 h3 h4 h5 => ?_, ⟨?_, ?_, ?_, ?_⟩, fun j hj => ⟨?_, ?_, ?_, ?_⟩, ⟨?_, ?_, ?_, ?_, ?_⟩, fun y hy => ?_⟩
  · rw [up_n h5, up_n h5, up_n h5, up_n h5, up_n h5, up_n h4, up_n h3, up_n h2, up_n h1]
  · rw [up_n (by omega), up_n (by omega), up_n (by omega), up_n (by omega), up_n (by omega), up_n (by omega), up_n (by omega), up_n (by omega), up_s, ud_s]; rfl
  · rw [up_n (by omega), up_n (by omega), up_n (by omega), up_n (by omega), up_n (by omega), up_n (by omega), up_n (by omega), up_s, ud_s]; rfl
  · rw [up_n (by omega), up_n (by omega), up_n (by omega), up_n (by omega), up_n (by omega), up_n (by omega), up_s, ud_s]; rfl
  · rw [up_n (by omega), up_n (by omega), up_n (by omega), up_n (by omega), up_n (by omega), up_s, ud_s]; rfl
  · rw [up_n (by omega), up_n (by omega), up_n (by omega), up_n (by omega), up_n (by omega), up_n (by omega), up_n (by omega), up_n (by omega), up_s, ud_n hj]
  · rw [up_n (by omega), up_n (by omega), up_n (by omega), up_n (by omega), up_n (by omega), up_n (by omega), up_n (by omega), up_s, ud_n hj, up_n (by omega)]
  · rw [up_n (by omega), up_n (by omega), up_n (by omega), up_n (by omega), up_n (by omega), up_n (by omega), up_s, ud_n hj, up_n (by omega), up_n (by omega)]
  · rw [up_n (by omega), up_n (by omega), up_n (by omega), up_n (by omega), up_n (by omega), up_s, ud_n hj, up_n (by omega), up_n (by omega), up_n (by omega)]
  · rw [up_s, ud_n (by omega), up_s, ud_n (by omega), up_s, ud_n (by omega), up_s, ud_n (by omega), up_s, ud_s]
  · rw [up_s, ud_n (by omega), up_s, ud_n (by omega), up_s, ud_n (by omega), up_s, ud_s]; rfl
  · rw [up_s, ud_n (by omega), up_s, ud_n (by omega), up_s, ud_s]; rfl
  · rw [up_s, ud_n (by omega), up_s, ud_s]; rfl
  · rw [up_s, ud_s]; rfl
  · rw [up_s, ud_n (by omega), up_s, ud_n (by omega), up_s, ud_n (by omega), up_s, ud_n (by omega), up_s, ud_n (by omega), up_n (by omega), up_n (by omega), up_n (by omega), up_n (by omega)]
theorem read_both {B : Nat → Nat} {n o : Nat} {I IM : zI} {J JM : zJ} (hB : tBt B n) (ho : o = 14 ∨ o = 4) (hC : tCt B n I) (hM : tMt B n IM) : ∃ (r : Int32) (I2 IM2 : zI), f_X8_readInto I J o = some (r, I2) ∧ f_X12_fault IM JM = some (r, IM2) ∧ oP o I I2 ∧ oZ2 IM IM2 ∧ (r = -4 → ∃ (ns np nt nc : Nat) (ck cb : Nat → Nat), dF o ns np nt nc ck cb I2 IM2) := by
  have hn := hB.1
  obtain ⟨I1, a1, a2, a3, a4, a5⟩ := x_clear (I := I) (J := J) (o := o)
  generalize hI3 : va_up I1 1 (va_up (I1 1) 3 0) = I3
  have o3 : oP o I I3 := ⟨fun r h1 h2 h3 => by rw [← hI3, up_n h1, a2 r (by omega) (by omega)], fun j hj => by rw [← hI3, up_s, up_n hj, a2 1 (by omega) (by omega)]⟩
  have k3 : ∀ r, r ≠ 1 → I3 r = I1 r := fun r hr => by rw [← hI3, up_n hr]
  have p3 : I3 1 3 = nI 0 := by rw [← hI3, up_s, up_s]; rfl
  have hC3 : tCt B n I3 := hC.go (o3.2 2 (by omega)) (o3.1 2 (by omega) (by omega) (by omega))
  obtain ⟨M2, b1, b2, b3, b4, b5, b6⟩ := m_begins (I := va_up IM 0 (va_up (IM 0) 2 0)) (J := JM) (k := 1) (by omega)
  replace b1 : f_X12_begins (va_up IM 0 (va_up (IM 0) 2 0)) JM 1 = some M2 := b1
  have z2 : oZ2 IM M2 := by
    obtain ⟨w3, w5, w7, w9⟩ := b4 0 (by omega)
    refine ⟨⟨fun r hr => by rw [b2 r (by omega) (by omega) (by omega) (by omega) (by omega), up_n (by omega)], fun j hj => by rw [b2 0 (by omega) (by omega) (by omega) (by omega) (by omega), up_s, up_n hj]⟩, ⟨?_, ?_, ?_, ?_⟩, fun y _ => by rw [b2 4 (by omega) (by omega) (by omega) (by omega) (by omega), up_n (by omega)], fun y _ => by rw [b2 6 (by omega) (by omega) (by omega) (by omega) (by omega), up_n (by omega)], fun y _ => by rw [b2 8 (by omega) (by omega) (by omega) (by omega) (by omega), up_n (by omega)], fun y _ => by rw [b2 10 (by omega) (by omega) (by omega) (by omega) (by omega), up_n (by omega)], fun y hy => by rw [b6 y (by omega), up_n (by omega)]⟩
    · rw [w3, up_n (by omega)]
    · rw [w5, up_n (by omega)]
    · rw [w7, up_n (by omega)]
    · rw [w9, up_n (by omega)]
  have hM2 : tMt B n M2 := hM.go (z2.1.2 0 (by omega)) (z2.1.1 1 (Or.inl rfl))
  have p2 : M2 0 2 = nI 0 := by rw [b2 0 (by omega) (by omega) (by omega) (by omega) (by omega), up_s, up_s]; rfl
  have hd : dR o 0 0 0 0 (fun _ => 0) (fun _ => 0) I3 M2 := by
    obtain ⟨c1, c2, c3, c4, c5, c6, c7, c8⟩ := a3
    obtain ⟨m1, m2, m3, m4, m5⟩ := b5
    have eo : I3 o = I1 o := k3 o (by omega)
    refine ⟨⟨⟨by omega, by omega, by omega, by omega⟩, ?_, b3.1, b3.2.1, b3.2.2.2, b3.2.2.1⟩, ⟨fun j hj => ?_, ⟨?_, ?_, ?_⟩, ?_, ?_⟩, fun i hi => by omega, fun i hi => by omega, fun i hi => by omega, ⟨fun k => ⟨by show 0 ≤ 100; omega, by show 0 ≤ 100; omega⟩, fun k hk => by omega, fun w hw => ?_⟩⟩
    · rw [eo]; exact ⟨c1, c2, c3⟩
    · rw [eo]
      have hj5 : j = 0 ∨ j = 1 ∨ j = 2 ∨ j = 3 ∨ j = 4 := by omega
      rcases hj5 with rfl | rfl | rfl | rfl | rfl
      · exact c4.trans m1.symm
      · exact c5.trans m2.symm
      · exact c6.trans m3.symm
      · exact c7.trans m4.symm
      · exact c8.trans m5.symm
    · rw [eo, c4]; exact isN_n (by omega) (by omega) (by omega)
    · rw [eo, c5]; exact isN_n (by omega) (by omega) (by omega)
    · rw [eo, c6]; exact isN_n (by omega) (by omega) (by omega)
    · rw [eo, c7]; exact isN_n (by omega) (by omega) (by omega)
    · rw [eo, c8]; exact isN_n (by omega) (by omega) (by omega)
    · rw [k3 (o + 9) (by omega), a5 w hw]; rfl
  obtain ⟨I4, M4, l1, l2, l3⟩ := read_loop (J := J) (JM := JM) hB ho n 0 0 0 0 0 0 _ _ I3 M2 (by omega) (by omega) (by omega) (by omega) hC3 hM2 p3 p2 hd zF zF (by unfold zF; omega) (by unfold zF; omega)
  unfold f_X8_readInto f_X12_fault
  rw [a1, zb1_s, zn_e, hI3, zn_e, b1, zb1_s]
  rcases l3 with ⟨v, v1, v2, v3⟩ | ⟨v2, v3, ns, np, nt, nc, ck, cb, v4⟩
  · replace v2 : zl (fun u : (Int32 × zI) => f_X8_readInto_L11 J o u.1 u.2) zF (0, I3) = some (.inr (nI v, I4)) := v2
    rw [v2, v3, zc1_r, zc1_r]
    refine ⟨nI v, I4, M4, rfl, rfl, o3.trans l1, z2.trans l2, fun z => ?_⟩
    have e := congrArg Int32.toInt z
    rw [nI_toInt (by omega), show (-4 : Int32).toInt = -4 from rfl] at e
    omega
  · replace v2 : zl (fun u : (Int32 × zI) => f_X8_readInto_L11 J o u.1 u.2) zF (0, I3) = some (.inl I4) := v2
    obtain ⟨q1, q2, q3⟩ := v4.1
    have hT := v4.2.2.2.2.1
    obtain ⟨sm, I5, s1, s2, s3, s4, s5⟩ := x_finish (J := J) v4
    have ten := m_tenL q1.2.2.1 q3.2.2.1 hT
    have hsm := smT_le (t := fun i => (I4 (o + 8) i).toInt.toNat) nt (fun i hi => (isN_e (hT i hi).2.2 (by omega)).2.2)
    have o5 : oP o I I5 := (o3.trans l1).trans ⟨fun r _ _ hr => s5 r hr, fun j _ => by rw [s5 1 (by omega)]⟩
    have len5 : I5 1 2 = nI n := by rw [o5.2 2 (by omega)]; exact hC.1
    have lenM : M4 0 0 = nI n := by rw [(z2.trans l2).1.2 0 (by omega)]; exact hM.1
    rw [v2, v3, zc1_l, zc1_l, s1, zb2_s, ten, zb1_s, zg_t (by decide), sp_1, q3.2.2.1, len5, lenM, zif]
    by_cases c : nt = 0
    · rw [if_pos (s2 c), c, if_pos (show nI 0 ≤ 0 by decide)]
      exact ⟨-4, I5, M4, rfl, rfl, o5, z2.trans l2, fun _ => ⟨ns, np, nt, nc, ck, cb, s4⟩⟩
    · rw [if_neg (nI_nle (by omega) (by omega))]
      have es := s3 c
      rw [← es] at hsm ⊢
      by_cases d : sm = 10
      · rw [if_pos d, if_pos (by rw [d]; rfl)]
        exact ⟨-4, I5, M4, rfl, rfl, o5, z2.trans l2, fun _ => ⟨ns, np, nt, nc, ck, cb, s4⟩⟩
      · rw [if_neg d, if_neg (show ¬ nI sm = 10 from nI_eqF (c := 10) d (by omega) (by omega))]
        refine ⟨nI n, I5, M4, rfl, rfl, o5, z2.trans l2, fun z => ?_⟩
        have e := congrArg Int32.toInt z
        rw [nI_toInt (by omega), show (-4 : Int32).toInt = -4 from rfl] at e
        omega
theorem rM.oZ {b : zB} {I I2 : zI} (hb : bOk b) (h : rM b I) (o : oZ2 I I2) : rM b I2 := by
  have h0 := bS hb
  have h8 := bP hb
  have h4 := bT hb
  obtain ⟨⟨a1, a2⟩, ⟨a3, a4, a5, a6⟩, a7, a8, a9, a10, a11⟩ := o
  obtain ⟨⟨m1, m2, m3⟩, m4, m5, m6, m7, n, ck, cb, m8, m9, m10, m11⟩ := h
  refine ⟨⟨by rw [a3]; exact m1, by rw [a4]; exact m2, by rw [a6]; exact m3⟩, fun j hj => by rw [a11 j hj]; exact m4 j hj, fun i hi => ?_, fun p hp => ?_, fun h hh => ?_, n, ck, cb, m8, by rw [a5]; exact m9, fun k hk => ?_, m11⟩
  · rw [a7 _ (by omega), a7 _ (by omega)]; exact m5 i hi
  · rw [a8 _ (by omega), a8 _ (by omega), a8 _ (by omega), a8 _ (by omega)]; exact m6 p hp
  · rw [a10 _ (by omega), a10 _ (by omega)]; exact m7 h hh
  · rw [a9 _ (by omega), a9 _ (by omega)]; exact m10 k hk
/-- what a text's reading into the draft leaves -/
theorem zRel.read {I I2 IM IM2 : zI} {J JM : zJ} (h : zRel I J IM JM) (o : oP 14 I I2) (z : oZ2 IM IM2) : zRel I2 J IM2 JM := by
  obtain ⟨b, hb, hC, hM, hT, hH, hK, hP⟩ := h
  have e : ∀ r, r ≠ 1 → r ≠ 3 → r < 14 ∨ 23 < r → I2 r = I r := o.1
  refine ⟨b, hb, hC.eq (fun k hk => e _ (by omega) (by omega) (by omega)), hM.oZ hb z, ?_, ?_, ?_, hP.eq (fun k h1 h2 => e k (by omega) (by omega) (by omega)) (fun _ _ _ => rfl)⟩
  · exact hT.eq (o.2 2 (by omega)) (e 2 (by omega) (by omega) (by omega)) (z.1.2 0 (by omega)) (z.1.1 1 (Or.inl rfl))
  · exact hH.eq (fun k hk => e _ (by omega) (by omega) (by omega)) (fun k _ => by rw [z.1.1 12 (by omega)]) (by rw [z.1.1 13 (by omega)]) (fun k _ => by rw [z.1.1 14 (by omega)])
  · obtain ⟨n, k1, k2, k3, k4⟩ := hK
    exact ⟨n, k1, by rw [e 0 (by omega) (by omega) (by omega)]; exact k2, by rw [z.1.2 13 (by omega)]; exact k3, fun j hj => (k4 j hj).eq (fun k hk => e _ (by omega) (by omega) (by omega)) (fun k _ => by rw [z.1.1 12 (by omega)]) (by rw [z.1.1 13 (by omega)]) (fun k _ => by rw [z.1.1 14 (by omega)])⟩
theorem pu_fault : op_fault zRel := by
  intro I J IM JM hR
  have hR0 := hR
  obtain ⟨b, hb, hC, hM, hT, hH, hK, hP⟩ := hR
  obtain ⟨n, B, t1, t2, t3⟩ := rT_B hT
  obtain ⟨r, I2, IM2, e1, e2, e3, e4, e5⟩ := read_both (J := J) (JM := JM) t1 (Or.inl rfl) t2 t3
  refine ⟨r, I2, IM2, ?_, e2, hR0.read e3 e4⟩
  unfold f_X11_fault
  rw [e1, zb2_s]
