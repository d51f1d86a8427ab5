/-! what is read is laid into the bench, by both -/
theorem numbersOf_e {I : zI} {J : zJ} {l : Nat} (h : l < 256) : f_X8_numbersOf I J (nI l) = some (nI (nmO l)) := by
  have key : ∀ x : Fin 256, f_X8_numbersOf (fun _ _ => 0) (fun _ _ => 0) (nI x.val) = some (nI (nmO x.val)) := by decide +kernel
  exact key ⟨l, h⟩
theorem nmO_7 {l : Nat} (h : 1 ≤ nmO l) : l = 118 ∨ l = 112 ∨ l = 98 ∨ l = 116 ∨ l = 99 ∨ l = 104 ∨ l = 107 := by
  unfold nmO at h
  split at h
  · omega
  · split at h
    · omega
    · split at h <;> omega
abbrev isN (x : Int32) (lo hi : Nat) : Prop := (lo : Int) ≤ x.toInt ∧ x.toInt ≤ hi
theorem isN_n {v lo hi : Nat} (h1 : lo ≤ v) (h2 : v ≤ hi) (h3 : hi < 2 ^ 31) : isN (nI v) lo hi := by
  unfold isN
  rw [nI_toInt (by omega)]; omega
/-- the reference's rows but for what a text tells -/
def oZ (I I2 : zI) : Prop := (∀ r, r < 3 ∨ 11 < r → I2 r = I r) ∧ (I2 3 0 = I 3 0 ∧ I2 5 0 = I 5 0 ∧ I2 7 0 = I 7 0 ∧ I2 9 0 = I 9 0) ∧ (∀ y, y < 12 → I2 4 y = I 4 y) ∧ (∀ y, y < 32 → I2 6 y = I 6 y) ∧ (∀ y, y < 200 → I2 8 y = I 8 y) ∧ (∀ y, y < 8 → I2 10 y = I 10 y) ∧ ∀ y, y < 5 → I2 11 y = I 11 y
def rowL (l : Nat) : Nat := if l = 118 then 4 else if l = 112 then 6 else if l = 98 then 8 else if l = 116 then 10 else 11
def basL (l ns np nc nt : Nat) : Nat := if l = 118 then 12 + 2 * ns else if l = 112 then 32 + 4 * np else if l = 98 then 200 + 2 * nc else if l = 116 then 8 + 2 * nt else if l = 99 then 5 else if l = 104 then 7 else 8
theorem puts_run {I : zI} {x : Int32} {m R base : Nat} (hm : m ≤ 4) (hR : R ≠ 2) (hbody : ∀ k I', k < m → (∀ r, r ≠ R → I' r = I r) → f_X12_puts_L2 (nI m) x (nI k) I' = some (.inl (nI (k + 1), va_up I' R (upd (I' R) (base + k) (I' 2 k))))) : ∃ I2 : zI, zl (fun v : (Int32 × zI) => f_X12_puts_L2 (nI m) x v.1 v.2) zF (0, I) = some I2 ∧ ((∀ r, r ≠ R → I2 r = I r) ∧ (∀ k, k < m → I2 R (base + k) = I 2 k) ∧ ∀ y, y < base ∨ base + m ≤ y → I2 R y = I R y) := by
  refine zl_inv (fun k v => v.1 = nI k ∧ (∀ r, r ≠ R → v.2 r = I r) ∧ (∀ j, j < k → v.2 R (base + j) = I 2 j) ∧ ∀ y, y < base ∨ base + k ≤ y → v.2 R y = I R y) _ m 0 _ ⟨rfl, fun _ _ => rfl, fun j hj => by omega, fun _ _ => rfl⟩ ?_ ?_ zF (by unfold zF; omega)
  · intro k v _ hk hv
    obtain ⟨x2, I3⟩ := v
    obtain ⟨g1, g2, g3, g4⟩ := hv
    replace g1 : x2 = nI k := g1
    replace g2 : ∀ r, r ≠ R → I3 r = I r := g2
    replace g3 : ∀ j, j < k → I3 R (base + j) = I 2 j := g3
    replace g4 : ∀ y, y < base ∨ base + k ≤ y → I3 R y = I R y := g4
    subst g1
    refine ⟨_, hbody k I3 (by omega) g2, rfl, fun r hr => ?_, fun j hj => ?_, fun y hy => ?_⟩
    · dsimp only
      rw [up_n hr]; exact g2 r hr
    · dsimp only
      rw [up_s]
      by_cases d : j = k
      · rw [d, ud_s, g2 2 (fun z => hR z.symm)]
      · rw [ud_n (by omega)]; exact g3 j (by omega)
    · dsimp only
      rw [up_s, ud_n (by omega)]; exact g4 y (by omega)
  · intro v hv
    obtain ⟨x2, I3⟩ := v
    obtain ⟨g1, g2, g3, g4⟩ := hv
    replace g1 : x2 = nI (0 + m) := g1
    rw [Nat.zero_add] at g1 g3 g4
    subst g1
    exact ⟨I3, if_pos (nI_le (Nat.le_refl _) (by omega)), g2, g3, g4⟩
theorem m_puts {I : zI} {J : zJ} {x : Int32} {l ns np nc nt : Nat} (hx : ∀ c, c < 128 → (x = nI c ↔ l = c)) (hm : 1 ≤ nmO l) (h3 : I 3 1 = nI ns) (h5 : I 5 1 = nI np) (h7 : I 7 1 = nI nc) (h9 : I 9 1 = nI nt) (b1 : l = 118 → ns < 6) (b2 : l = 112 → np < 8) (b3 : l = 98 → nc < 100) (b4 : l = 116 → nt < 4) : ∃ I2 : zI, f_X12_puts I J x (nI (nmO l)) = some I2 ∧ (∀ r, r ≠ rowL l → r ≠ 3 → r ≠ 5 → r ≠ 7 → r ≠ 9 → I2 r = I r) ∧ (∀ k, k < nmO l → I2 (rowL l) (basL l ns np nc nt + k) = I 2 k) ∧ (∀ y, y < basL l ns np nc nt ∨ basL l ns np nc nt + nmO l ≤ y → I2 (rowL l) y = I (rowL l) y) ∧ (I2 3 1 = nI (ns + if l = 118 then 1 else 0) ∧ I2 5 1 = nI (np + if l = 112 then 1 else 0) ∧ I2 7 1 = nI (nc + if l = 98 then 1 else 0) ∧ I2 9 1 = nI (nt + if l = 116 then 1 else 0)) ∧ I2 3 0 = I 3 0 ∧ I2 5 0 = I 5 0 ∧ I2 7 0 = I 7 0 ∧ I2 9 0 = I 9 0 := by
  have h118 : x = 118 ↔ l = 118 := hx 118 (by omega)
  have h112 : x = 112 ↔ l = 112 := hx 112 (by omega)
  have h98 : x = 98 ↔ l = 98 := hx 98 (by omega)
  have h116 : x = 116 ↔ l = 116 := hx 116 (by omega)
  have h99 : x = 99 ↔ l = 99 := hx 99 (by omega)
  have h104 : x = 104 ↔ l = 104 := hx 104 (by omega)
  have hm4 := nmO_le l
  have hRl : rowL l ≠ 2 ∧ rowL l ≠ 3 ∧ rowL l ≠ 5 ∧ rowL l ≠ 7 ∧ rowL l ≠ 9 := by
    unfold rowL
    split
    · omega
    · split
      · omega
      · split
        · omega
        · split <;> omega
  have run := puts_run (I := I) (x := x) (m := nmO l) (R := rowL l) (base := basL l ns np nc nt) hm4 hRl.1 (fun k I' hk hI' => by
    have e3 : I' 3 1 = nI ns := by rw [hI' 3 (fun z => hRl.2.1 z.symm)]; exact h3
    have e5 : I' 5 1 = nI np := by rw [hI' 5 (fun z => hRl.2.2.1 z.symm)]; exact h5
    have e7 : I' 7 1 = nI nc := by rw [hI' 7 (fun z => hRl.2.2.2.1 z.symm)]; exact h7
    have e9 : I' 9 1 = nI nt := by rw [hI' 9 (fun z => hRl.2.2.2.2 z.symm)]; exact h9
    have hk4 : k < 4 := by omega
    unfold f_X12_puts_L2
    rw [if_neg (nI_ge hk (by omega))]
    simp only [h118, h112, h98, h116, h99, h104, zg_t (show ¬ ((1 : Int32) < 0 ∨ 2 ≤ (1 : Int32).toNatClampNeg) by decide), zg_t (nI_in hk4 (show 4 < 2 ^ 31 by omega))]
    simp only [sp_1, nI_clamp (show k < 2 ^ 31 by omega), e3, e5, e7, e9, nI_1]
    rcases nmO_7 hm with rfl | rfl | rfl | rfl | rfl | rfl | rfl
    · have hk2 : k < 2 := hk
      have b := b1 rfl
      rw [if_pos rfl, show (12 : Int32) + 2 * nI ns + nI k = nI (12 + 2 * ns + k) by rw [show (12 : Int32) = nI 12 from rfl, show (2 : Int32) = nI 2 from rfl, nI_mul, nI_add, nI_add], zg_t (nI_in (by omega) (by omega)), nI_clamp (by omega), zn_e, zn_e]
      rfl
    · have hk2 : k < 4 := hk
      have b := b2 rfl
      rw [if_neg (by omega), if_pos rfl, show (32 : Int32) + 4 * nI np + nI k = nI (32 + 4 * np + k) by rw [show (32 : Int32) = nI 32 from rfl, show (4 : Int32) = nI 4 from rfl, nI_mul, nI_add, nI_add], zg_t (nI_in (by omega) (by omega)), nI_clamp (by omega), zn_e, zn_e]
      rfl
    · have hk2 : k < 2 := hk
      have b := b3 rfl
      rw [if_neg (by omega), if_neg (by omega), if_pos rfl, show (200 : Int32) + 2 * nI nc + nI k = nI (200 + 2 * nc + k) by rw [show (200 : Int32) = nI 200 from rfl, show (2 : Int32) = nI 2 from rfl, nI_mul, nI_add, nI_add], zg_t (nI_in (by omega) (by omega)), nI_clamp (by omega), zn_e, zn_e]
      rfl
    · have hk2 : k < 2 := hk
      have b := b4 rfl
      rw [if_neg (by omega), if_neg (by omega), if_neg (by omega), if_pos rfl, show (8 : Int32) + 2 * nI nt + nI k = nI (8 + 2 * nt + k) by rw [show (8 : Int32) = nI 8 from rfl, show (2 : Int32) = nI 2 from rfl, nI_mul, nI_add, nI_add], zg_t (nI_in (by omega) (by omega)), nI_clamp (by omega), zn_e, zn_e]
      rfl
    · have hk2 : k < 2 := hk
      rw [if_neg (by omega), if_neg (by omega), if_neg (by omega), if_neg (by omega), if_pos rfl, zb1_s, show (5 : Int32) + 0 + nI k = nI (5 + k) by rw [show (5 : Int32) + 0 = nI 5 from rfl, nI_add], zg_t (nI_in (by omega) (by omega)), nI_clamp (by omega), zn_e, zn_e]
      rfl
    · have hk2 : k < 1 := hk
      rw [if_neg (by omega), if_neg (by omega), if_neg (by omega), if_neg (by omega), if_neg (by omega), if_pos rfl, zb1_s, show (5 : Int32) + 2 + nI k = nI (7 + k) by rw [show (5 : Int32) + 2 = nI 7 from rfl, nI_add], zg_t (nI_in (by omega) (by omega)), nI_clamp (by omega), zn_e, zn_e]
      rfl
    · have hk2 : k < 2 := hk
      rw [if_neg (by omega), if_neg (by omega), if_neg (by omega), if_neg (by omega), if_neg (by omega), if_neg (by omega), zb1_s, show (5 : Int32) + 3 + nI k = nI (8 + k) by rw [show (5 : Int32) + 3 = nI 8 from rfl, nI_add], zg_t (nI_in (by omega) (by omega)), nI_clamp (by omega), zn_e, zn_e]
      rfl)
  obtain ⟨I38, r1, r2, r3, r4⟩ := run
  have e3 : I38 3 1 = nI ns := by rw [r2 3 (fun z => hRl.2.1 z.symm)]; exact h3
  have e5 : I38 5 1 = nI np := by rw [r2 5 (fun z => hRl.2.2.1 z.symm)]; exact h5
  have e7 : I38 7 1 = nI nc := by rw [r2 7 (fun z => hRl.2.2.2.1 z.symm)]; exact h7
  have e9 : I38 9 1 = nI nt := by rw [r2 9 (fun z => hRl.2.2.2.2 z.symm)]; exact h9
  have a1 : (if l = 118 then some (1 : Int32) else some 0) = some (nI (if l = 118 then 1 else 0)) := by split <;> rfl
  have a2 : (if l = 112 then some (1 : Int32) else some 0) = some (nI (if l = 112 then 1 else 0)) := by split <;> rfl
  have a3 : (if l = 98 then some (1 : Int32) else some 0) = some (nI (if l = 98 then 1 else 0)) := by split <;> rfl
  unfold f_X12_puts
  rw [r1, zb1_s]
  simp only [h118, h112, h98, h116, zg_t (show ¬ ((1 : Int32) < 0 ∨ 2 ≤ (1 : Int32).toNatClampNeg) by decide), a1, a2, a3, zb1_s, zn_e]
  simp only [sp_1]
  rw [e3, nI_add, up_n (show 5 ≠ 3 by decide), e5, nI_add]
  generalize hI44 : va_up I38 3 (upd (I38 3) 1 (nI (ns + if l = 118 then 1 else 0))) = I44
  have o44 : ∀ r, r ≠ 3 → I44 r = I38 r := fun r hr => by rw [← hI44, up_n hr]
  have e44 : I44 3 1 = nI (ns + if l = 118 then 1 else 0) ∧ I44 3 0 = I38 3 0 := by rw [← hI44, up_s, ud_s, ud_n (by omega)]; exact ⟨rfl, rfl⟩
  have t5 : I38 5 = I44 5 := (o44 5 (by omega)).symm
  rw [t5]
  generalize hI51 : va_up I44 5 (upd (I44 5) 1 (nI (np + if l = 112 then 1 else 0))) = I51
  have o51 : ∀ r, r ≠ 5 → I51 r = I44 r := fun r hr => by rw [← hI51, up_n hr]
  have e51 : I51 5 1 = nI (np + if l = 112 then 1 else 0) ∧ I51 5 0 = I44 5 0 := by rw [← hI51, up_s, ud_s, ud_n (by omega)]; exact ⟨rfl, rfl⟩
  have e517 : I51 7 1 = nI nc := by rw [o51 7 (by omega), o44 7 (by omega)]; exact e7
  rw [e517, nI_add]
  generalize hI58 : va_up I51 7 (upd (I51 7) 1 (nI (nc + if l = 98 then 1 else 0))) = I58
  have o58 : ∀ r, r ≠ 7 → I58 r = I51 r := fun r hr => by rw [← hI58, up_n hr]
  have e58 : I58 7 1 = nI (nc + if l = 98 then 1 else 0) ∧ I58 7 0 = I51 7 0 := by rw [← hI58, up_s, ud_s, ud_n (by omega)]; exact ⟨rfl, rfl⟩
  have e589 : I58 9 1 = nI nt := by rw [o58 9 (by omega), o51 9 (by omega), o44 9 (by omega)]; exact e9
  rw [e589]
  have e64 : (if l = 116 then some (va_up I58 9 (upd (I58 9) 1 (nI nt + 1))) else some (va_up I58 9 (upd (I58 9) 1 (nI nt + 0)))) = some (va_up I58 9 (upd (I58 9) 1 (nI (nt + if l = 116 then 1 else 0)))) := by
    by_cases c : l = 116
    · rw [if_pos c, if_pos c, nI_1]
    · rw [if_neg c, if_neg c, Int32.add_zero, Nat.add_zero]
  rw [e64]
  have oo : ∀ r, r ≠ 3 → r ≠ 5 → r ≠ 7 → r ≠ 9 → (va_up I58 9 (upd (I58 9) 1 (nI (nt + if l = 116 then 1 else 0)))) r = I38 r := fun r q1 q2 q3 q4 => by rw [up_n q4, o58 r q3, o51 r q2, o44 r q1]
  refine ⟨_, rfl, fun r q0 q1 q2 q3 q4 => by rw [oo r q1 q2 q3 q4, r2 r q0], fun k hk => ?_, fun y hy => ?_, ⟨?_, ?_, ?_, ?_⟩, ?_, ?_, ?_, ?_⟩
  · rw [oo _ hRl.2.1 hRl.2.2.1 hRl.2.2.2.1 hRl.2.2.2.2]; exact r3 k hk
  · rw [oo _ hRl.2.1 hRl.2.2.1 hRl.2.2.2.1 hRl.2.2.2.2]; exact r4 y hy
  · rw [up_n (by omega), o58 3 (by omega), o51 3 (by omega)]; exact e44.1
  · rw [up_n (by omega), o58 5 (by omega)]; exact e51.1
  · rw [up_n (by omega)]; exact e58.1
  · rw [up_s, ud_s]
  · rw [up_n (by omega), o58 3 (by omega), o51 3 (by omega), e44.2, r2 3 (fun z => hRl.2.1 z.symm)]
  · rw [up_n (by omega), o58 5 (by omega), e51.2, o44 5 (by omega), r2 5 (fun z => hRl.2.2.1 z.symm)]
  · rw [up_n (by omega), e58.2, o51 7 (by omega), o44 7 (by omega), r2 7 (fun z => hRl.2.2.2.1 z.symm)]
  · rw [up_s, ud_n (by omega), o58 9 (by omega), o51 9 (by omega), o44 9 (by omega), r2 9 (fun z => hRl.2.2.2.2 z.symm)]
