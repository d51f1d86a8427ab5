/-! guesses: what one has of them; the blind one's best; what is known -/
def isG (b : zB) (g h : Nat) (x : Int) : Prop := ∃ (A : Nat → Nat → Nat → Nat) (V V0 : Nat → Nat → Nat → Int), solS b (muC b 0) g A V0 ∧ folS b (muC b 0) h A V ∧ x = V 0 (b 3 0) 0
noncomputable def GV (b : zB) (g h : Nat) : Int := Classical.epsilon (isG b g h)
theorem in0 {b : zB} (hb : bOk b) : inS b 0 (b 3 0) 0 := ⟨hb.2.1.1, (hb.2.2.2.2.2.2.1 0 hb.2.1.1).2.1.1, Nat.le_refl _, by omega⟩
theorem isG_ex {b : zB} (hb : bOk b) (g h : Nat) : ∃ x, isG b g h x := by
  obtain ⟨A, V0, s⟩ := sol_ex (muC b 0) g hb
  obtain ⟨V, v⟩ := fol_ex (muC b 0) h hb (fun p l w hs => (s p l w hs).1)
  exact ⟨_, A, V, V0, s, v, rfl⟩
theorem isG_eq {b : zB} (hb : bOk b) {g h : Nat} {x : Int} (hx : isG b g h x) : x = GV b g h := by
  obtain ⟨A, V, V0, s, v, e⟩ := hx
  obtain ⟨A2, V2, V3, s2, v2, e2⟩ : isG b g h (GV b g h) := Classical.epsilon_spec (isG_ex hb g h)
  rw [e, e2]
  exact folS_uniq hb (fun p l w hs => ⟨(solS_uniq hb s s2 p l w hs).2, fun z => by rcases (s p l w hs).1 with q | q | q <;> omega⟩) v v2 _ _ _ (in0 hb)
theorem GV_ok {b : zB} (hb : bOk b) (g h : Nat) : vOk (GV b g h) := by
  obtain ⟨x, hx⟩ := isG_ex hb g h
  rw [← isG_eq hb hx]
  obtain ⟨A, V, V0, s, v, e⟩ := hx
  rw [e]
  exact fol_bd2 hb (muC_ok hb 0) (fun p l w hs => (s p l w hs).1) v _ _ _ (in0 hb)
def SG (b : zB) (f : Nat → Int) : Nat → Int
  | 0 => 0
  | n + 1 => SG b f n + (b 7 n : Int) * f n
theorem SG_ok {b : zB} (hb : bOk b) {f : Nat → Int} (hf : ∀ n, vOk (f n)) : ∀ n, n ≤ b 9 2 → -(10995116277760 * (n : Int)) ≤ SG b f n ∧ SG b f n ≤ 10995116277760 * (n : Int) := by
  intro n
  induction n with
  | zero => intro _; exact ⟨by show _ ≤ (0 : Int); omega, by show (0 : Int) ≤ _; omega⟩
  | succ n ih =>
    intro h
    have h1 := ih (by omega)
    have h2 := (hb.2.2.2.2.2.2.2.1 n (by omega)).2
    have h3 := hf n
    have a1 := Int.mul_le_mul_of_nonneg_left h3.1 (show (0 : Int) ≤ (b 7 n : Int) by omega)
    have a2 := Int.mul_le_mul_of_nonneg_left h3.2 (show (0 : Int) ≤ (b 7 n : Int) by omega)
    show _ ≤ SG b f n + (b 7 n : Int) * f n ∧ SG b f n + (b 7 n : Int) * f n ≤ _
    generalize (b 7 n : Int) * f n = z at a1 a2
    omega
theorem SG_b {b : zB} (hb : bOk b) {f : Nat → Int} (hf : ∀ n, vOk (f n)) : -100000000000000 ≤ SG b f (b 9 2) ∧ SG b f (b 9 2) ≤ 100000000000000 := by
  have h1 := SG_ok hb hf (b 9 2) (Nat.le_refl _)
  have h4 := bT hb
  omega
/-- the class's world but for the walk's rows -/
def oV (I I2 : zI) (J J2 : zJ) : Prop := (∀ r, r ≠ 37 → r ≠ 71 → r ≠ 73 → I2 r = I r) ∧ ∀ r, r ≠ 71 → r ≠ 72 → J2 r = J r
theorem oV.trans {I I2 I3 : zI} {J J2 J3 : zJ} (h : oV I I2 J J2) (g : oV I2 I3 J2 J3) : oV I I3 J J3 := ⟨fun k h1 h2 h3 => by rw [g.1 k h1 h2 h3, h.1 k h1 h2 h3], fun k h1 h2 => by rw [g.2 k h1 h2, h.2 k h1 h2]⟩
theorem oV.refl {I : zI} {J : zJ} : oV I I J J := ⟨fun _ _ _ _ => rfl, fun _ _ _ => rfl⟩
theorem oV.toC {b : zB} {I I2 : zI} {J J2 : zJ} (h : oV I I2 J J2) (hC : rC b I 4) : rC b I2 4 := hC.eq (fun k hk => h.1 _ (by omega) (by omega) (by omega))
theorem oV.toS {b : zB} {c h i : Nat} {I I2 : zI} {J J2 : zJ} (o : oV I I2 J J2) (hi : i < 8) (s : sP b c h (47 + 3 * i) I J) : sP b c h (47 + 3 * i) I2 J2 := s.eq (fun k hk => o.1 _ (by omega) (by omega) (by omega)) (fun k hk => o.2 _ (by omega) (by omega))
def hB (b : zB) (sp li ev : Nat) (I : zI) : Prop := (I 24 3 = nI sp ∧ I 24 4 = nI li ∧ I 24 5 = nI ev) ∧ sp < b 9 0 ∧ li ≤ 100 ∧ 1 ≤ ev ∧ ev ≤ 8
theorem oV.toH {b : zB} {sp li ev : Nat} {I I2 : zI} {J J2 : zJ} (o : oV I I2 J J2) (s : hB b sp li ev I) : hB b sp li ev I2 := by
  unfold hB at s ⊢
  rw [o.1 24 (by omega) (by omega) (by omega)]; exact s
section GU
variable {b : zB}
theorem x_guessed (hb : bOk b) {g h sp li ev : Nat} {I : zI} {J : zJ} (hg : g < b 9 2) (hh : h < b 9 2) (hC : rC b I 4) (hH : hB b sp li ev I) (s : sP b 0 g (47 + 3 * g) I J) : ∃ (I2 I3 : zI) (J3 : zJ), f_X10_spread I J 0 (nI g) (nI h) 0 (nI (b 3 0)) 0 = some I2 ∧ f_X10_gain I2 J 0 = some (lI (GV b g h), I3, J3) ∧ rC b I2 4 ∧ oV I I3 J J3 := by
  obtain ⟨⟨g4, g5, g6⟩, g1, g2, g3⟩ := hH
  obtain ⟨A, V, I2, I3, J3, b1, b2, b3, b4, b5, b6, b7⟩ := x_valued (k := 0) (c := 0) hb (by omega) hg hh (by omega) hC g4 g5 g6 g1 g2 g3 ⟨fun _ => s, fun z => by omega⟩ (in0 hb)
  obtain ⟨V0, s0⟩ := b3.1 rfl
  have e : V 0 (b 3 0) 0 = GV b g h := isG_eq hb ⟨A, V, V0, s0, b4, rfl⟩
  rw [e] at b2
  exact ⟨I2, I3, J3, b1, b2, hC.eq (fun k hk => b5 _ (by omega) (by omega) (by omega)), b6, b7⟩
theorem m_guessOf (hb : bOk b) {g h : Nat} {I : zI} {J : zJ} (hM : rM b I) (hg : g < b 9 2) (hh : h < b 9 2) : ∃ (I2 : zI) (J2 : zJ), f_X12_guessOf I J (nI g) (nI h) = some (lI (GV b g h), I2, J2) ∧ ∀ r, r ≠ 15 → I2 r = I r := by
  obtain ⟨J1, d1, d2, d3⟩ := m_counts (J := J) (k := 0) hb hM (by omega)
  obtain ⟨A, V0, s⟩ := sol_ex (muC b 0) g hb
  obtain ⟨I3, J4, f1, f2, f3⟩ := m_solves hb hM hg (muC_ok hb 0) d2 s
  have hA : ∀ p l w, inS b p l w → canS b l w (A p l w) := fun p l w hs => (s p l w hs).1
  have hM3 : rM b I3 := f2.rM hM
  obtain ⟨V, v⟩ := fol_ex (muC b 0) h hb hA
  obtain ⟨J6, n1, n2, n3⟩ := m_follows hb hM3 hh (muC_ok hb 0) (f2.toM d2) hA v (fun p l w hs => (f3 p l w hs).1)
  have hst : f_X12_steps I3 J6 0 = some (nI (b 3 0)) := m_steps hb hM3 hb.2.1.1
  have hlt := clM_lt hb (in0 hb)
  have hcell : f_X12_cell I3 J6 0 (nI (b 3 0)) 0 = some (nI (clM 0 (b 3 0) 0)) := m_cell 0 (b 3 0) 0
  have e : V 0 (b 3 0) 0 = GV b g h := isG_eq hb ⟨A, V, V0, s, v, rfl⟩
  have d1 : f_X12_counts I J 0 = some J1 := d1
  unfold f_X12_guessOf
  rw [d1, zb1_s, f1, zb2_s, n1, zb1_s, hst, zb1_s, hcell, zb1_s, zg_t (nI_in hlt (by omega)), nI_clamp (by omega), n3 _ _ _ (in0 hb), e]
  exact ⟨I3, J6, rfl, f2.1⟩
theorem x_guessedSum (hb : bOk b) {g sp li ev : Nat} {I : zI} {J : zJ} (hg : g < b 9 2) (hC : rC b I 4) (hH : hB b sp li ev I) (s : sP b 0 g (47 + 3 * g) I J) : ∃ (I2 : zI) (J2 : zJ), f_X11_guessedSum I J (nI g) = some (lI (SG b (GV b g) (b 9 2)), I2, J2) ∧ oV I I2 J J2 := by
  have h4 := bT hb
  have run : ∃ e : Int64 × zI × zJ, zl (fun v : (Int64 × Int32 × zI × zJ) => f_X11_guessedSum_L5 (nI g) v.1 v.2.1 v.2.2.1 v.2.2.2) zF (0, 0, I, J) = some e ∧ (e.1 = lI (SG b (GV b g) (b 9 2)) ∧ oV I e.2.1 J e.2.2) := by
    refine zl_inv (fun k v => v.2.1 = nI k ∧ v.1 = lI (SG b (GV b g) k) ∧ oV I v.2.2.1 J v.2.2.2) _ (b 9 2) 0 _ ⟨rfl, rfl, oV.refl⟩ ?_ ?_ zF (by unfold zF; omega)
    · intro k v _ hk hv
      obtain ⟨u2, x3, I4, J5⟩ := v
      obtain ⟨h1, h2, h3⟩ := hv
      replace h1 : x3 = nI k := h1
      replace h2 : u2 = lI (SG b (GV b g) k) := h2
      replace h3 : oV I I4 J J5 := h3
      subst h1 h2
      have hk2 : k < b 9 2 := by omega
      have hC4 := h3.toC hC
      obtain ⟨I9, I10, J10, a1, a2, a3, a4⟩ := x_guessed hb hg hk2 hC4 (h3.toH hH) (h3.toS (by omega) s)
      have h7 := (hb.2.2.2.2.2.2.2.1 k hk2).2
      have hst : f_X0_stepsOf I4 J5 4 0 = some (nI (b 3 0)) := x_stepsOf hb hC4 hb.2.1.1
      show ∃ v', f_X11_guessedSum_L5 (nI g) (lI (SG b (GV b g) k)) (nI k) I4 J5 = some (.inl v') ∧ _
      unfold f_X11_guessedSum_L5
      rw [(bk_e b I4 4 hC4).2.2.1, if_neg (nI_ge hk2 (by omega)), hst, zb1_s, a1, zb1_s, x_tenthsOf hb a3 hk2, zb1_s, a2, zb3_s, zn_e, zn_e, nI_1, lI_n (by omega), lI_mul, lI_add]
      exact ⟨_, rfl, rfl, rfl, h3.trans a4⟩
    · intro v hv
      obtain ⟨u2, x3, I4, J5⟩ := v
      obtain ⟨h1, h2, h3⟩ := hv
      replace h1 : x3 = nI (0 + b 9 2) := h1
      replace h2 : u2 = lI (SG b (GV b g) (0 + b 9 2)) := h2
      replace h3 : oV I I4 J J5 := h3
      rw [Nat.zero_add] at h1 h2
      subst h1 h2
      refine ⟨(lI (SG b (GV b g) (b 9 2)), I4, J5), ?_, rfl, h3⟩
      show f_X11_guessedSum_L5 (nI g) (lI (SG b (GV b g) (b 9 2))) (nI (b 9 2)) I4 J5 = _
      unfold f_X11_guessedSum_L5
      rw [(bk_e b I4 4 (h3.toC hC)).2.2.1, if_pos (nI_le (Nat.le_refl _) (by omega))]
  obtain ⟨⟨u, I2, J2⟩, e1, e2, e3⟩ := run
  replace e2 : u = lI (SG b (GV b g) (b 9 2)) := e2
  unfold f_X11_guessedSum
  rw [e1, zb3_s, e2]
  exact ⟨I2, J2, rfl, e3⟩
theorem m_sumOf (hb : bOk b) {I : zI} {J : zJ} (hM : rM b I) {x : Int32} {f : Nat → Int} (hx : (∃ g, g < b 9 2 ∧ x = nI g ∧ f = GV b g) ∨ (x = -1 ∧ f = fun h => GV b h h)) : ∃ (I2 : zI) (J2 : zJ), f_X12_sumOf I J x = some (lI (SG b f (b 9 2)), I2, J2) ∧ ∀ r, r ≠ 15 → I2 r = I r := by
  have h4 := bT hb
  have run : ∃ e : Int64 × zI × zJ, zl (fun v : (Int64 × Int32 × zI × zJ) => f_X12_sumOf_L5 x v.1 v.2.1 v.2.2.1 v.2.2.2) zF (0, 0, I, J) = some e ∧ (e.1 = lI (SG b f (b 9 2)) ∧ ∀ r, r ≠ 15 → e.2.1 r = I r) := by
    refine zl_inv (fun k v => v.2.1 = nI k ∧ v.1 = lI (SG b f k) ∧ ∀ r, r ≠ 15 → v.2.2.1 r = I r) _ (b 9 2) 0 _ ⟨rfl, rfl, fun _ _ => rfl⟩ ?_ ?_ zF (by unfold zF; omega)
    · intro k v _ hk hv
      obtain ⟨u2, x3, I4, J5⟩ := v
      obtain ⟨h1, h2, h3⟩ := hv
      replace h1 : x3 = nI k := h1
      replace h2 : u2 = lI (SG b f k) := h2
      replace h3 : ∀ r, r ≠ 15 → I4 r = I r := h3
      subst h1 h2
      have hk2 : k < b 9 2 := by omega
      have hM4 : rM b I4 := hM.eq (fun r _ _ => h3 r (by omega))
      have h7 := (hb.2.2.2.2.2.2.2.1 k hk2).2
      have hg : ∃ (g : Nat) (I14 : zI) (J15 : zJ), (if 0 ≤ x then some x else some (nI k)) = some (nI g) ∧ f_X12_guessOf I4 J5 (nI g) (nI k) = some (lI (f k), I14, J15) ∧ ∀ r, r ≠ 15 → I14 r = I4 r := by
        rcases hx with ⟨g, g1, g2, g3⟩ | ⟨g2, g3⟩
        · obtain ⟨I14, J15, q1, q2⟩ := m_guessOf (J := J5) hb hM4 g1 hk2
          refine ⟨g, I14, J15, ?_, ?_, q2⟩
          · rw [g2, if_pos (nI_pos' (by omega))]
          · rw [q1, g3]
        · obtain ⟨I14, J15, q1, q2⟩ := m_guessOf (J := J5) hb hM4 hk2 hk2
          refine ⟨k, I14, J15, ?_, ?_, q2⟩
          · rw [g2, if_neg (by decide)]
          · rw [q1, g3]
      obtain ⟨g, I14, J15, q1, q2, q3⟩ := hg
      show ∃ v', f_X12_sumOf_L5 x (lI (SG b f k)) (nI k) I4 J5 = some (.inl v') ∧ _
      unfold f_X12_sumOf_L5
      rw [zg_t (by decide), sp_0, hM4.1.2.2, if_neg (nI_ge hk2 (by omega)), m_2i1, zg_t (nI_in (by omega) (by omega)), nI_clamp (by omega), (hM4.2.2.2.2.1 k hk2).2, q1, zb1_s, q2, zb3_s, zn_e, zn_e, nI_1, lI_n (by omega), lI_mul, lI_add]
      exact ⟨_, rfl, rfl, rfl, fun r hr => by rw [← h3 r hr]; exact q3 r hr⟩
    · intro v hv
      obtain ⟨u2, x3, I4, J5⟩ := v
      obtain ⟨h1, h2, h3⟩ := hv
      replace h1 : x3 = nI (0 + b 9 2) := h1
      replace h2 : u2 = lI (SG b f (0 + b 9 2)) := h2
      replace h3 : ∀ r, r ≠ 15 → I4 r = I r := h3
      rw [Nat.zero_add] at h1 h2
      subst h1 h2
      have hM4 : rM b I4 := hM.eq (fun r _ _ => h3 r (by omega))
      refine ⟨(lI (SG b f (b 9 2)), I4, J5), ?_, rfl, h3⟩
      show f_X12_sumOf_L5 x (lI (SG b f (b 9 2))) (nI (b 9 2)) I4 J5 = _
      unfold f_X12_sumOf_L5
      rw [zg_t (by decide), sp_0, hM4.1.2.2, if_pos (nI_le (Nat.le_refl _) (by omega))]
  obtain ⟨⟨u, I2, J2⟩, e1, e2, e3⟩ := run
  replace e2 : u = lI (SG b f (b 9 2)) := e2
  unfold f_X12_sumOf
  rw [e1, zb3_s, e2]
  exact ⟨I2, J2, rfl, e3⟩
theorem x_prepAll (hb : bOk b) {I : zI} {J : zJ} (hC : rC b I 4) (hP : rP b I J) : ∃ e : zI × zJ, zl (fun v : (Int32 × zI × zJ) => f_X11_blind_L15 v.1 v.2.1 v.2.2) zF (0, I, J) = some e ∧ (oQ I e.1 J e.2 ∧ rP b e.1 e.2 ∧ ∀ h, h < b 9 2 → sP b 0 h (47 + 3 * h) e.1 e.2) := by
  have h4 := bT hb
  refine zl_inv (fun k v => v.1 = nI k ∧ oQ I v.2.1 J v.2.2 ∧ rP b v.2.1 v.2.2 ∧ ∀ h, h < k → sP b 0 h (47 + 3 * h) v.2.1 v.2.2) _ (b 9 2) 0 _ ⟨rfl, oQ.refl, hP, fun h hh => by omega⟩ ?_ ?_ zF (by unfold zF; omega)
  · intro k v _ hk hv
    obtain ⟨x5, I6, J7⟩ := v
    obtain ⟨h1, h2, h3, h5⟩ := hv
    replace h1 : x5 = nI k := h1
    replace h2 : oQ I I6 J J7 := h2
    replace h3 : rP b I6 J7 := h3
    replace h5 : ∀ h, h < k → sP b 0 h (47 + 3 * h) I6 J7 := h5
    subst h1
    have hk2 : k < b 9 2 := by omega
    have hC6 := h2.rC hC
    obtain ⟨I9, J10, e1, e2, e3, e4, e5⟩ := x_prepare (k := 0) hb (by omega) hk2 hC6 h3
    replace e1 : f_X2_prepare I6 J7 0 (nI k) = some (I9, J10) := e1
    show ∃ v', f_X11_blind_L15 (nI k) I6 J7 = some (.inl v') ∧ _
    unfold f_X11_blind_L15
    rw [(bk_e b I6 4 hC6).2.2.1, if_neg (nI_ge hk2 (by omega)), e1, zb2_s, zn_e, nI_1]
    refine ⟨_, rfl, rfl, h2.trans e2, e3, fun h hh => ?_⟩
    by_cases d : h = k
    · rw [d]; exact e4.1 rfl
    · exact e5 _ _ _ (h5 h (by omega))
  · intro v hv
    obtain ⟨x5, I6, J7⟩ := v
    obtain ⟨h1, h2, h3, h5⟩ := hv
    replace h1 : x5 = nI (0 + b 9 2) := h1
    replace h2 : oQ I I6 J J7 := h2
    rw [Nat.zero_add] at h1 h5
    subst h1
    refine ⟨(I6, J7), ?_, h2, h3, h5⟩
    show f_X11_blind_L15 (nI (b 9 2)) I6 J7 = _
    unfold f_X11_blind_L15
    rw [(bk_e b I6 4 (h2.rC hC)).2.2.1, if_pos (nI_le (Nat.le_refl _) (by omega))]
theorem x_knownSum (hb : bOk b) {I : zI} {J : zJ} (hC : rC b I 4) (s : ∀ h, h < b 9 2 → sP b 0 h (47 + 3 * h) I J) : f_X11_knownSum I J = some (lI (SG b (fun h => GV b h h) (b 9 2))) := by
  have h4 := bT hb
  have hp8 := hb.2.1
  have run : zl (fun v : (Int64 × Int32) => f_X11_knownSum_L4 I J v.1 v.2) zF (0, 0) = some (lI (SG b (fun h => GV b h h) (b 9 2))) := by
    refine zl_run (S := fun k => (lI (SG b (fun h => GV b h h) k), nI k)) _ (b 9 2) (fun k hk => ?_) ?_ zF (by unfold zF; omega)
    · show f_X11_knownSum_L4 I J (lI (SG b (fun h => GV b h h) k)) (nI k) = _
      have h7 := (hb.2.2.2.2.2.2.2.1 k hk).2
      obtain ⟨_, _, A, V, s1, s2⟩ := s k hk
      have hv : V 0 (b 3 0) 0 = GV b k k := isG_eq hb ⟨A, V, V, s1, s1.fol, rfl⟩
      have hcell := (s2 _ _ _ (in0 hb)).2
      have hst : f_X0_stepsOf I J 4 0 = some (nI (b 3 0)) := x_stepsOf hb hC hb.2.1.1
      have hga : f_X6_gainAt I J (47 + 3 * k) 0 (nI (b 3 0)) 0 = some (J (47 + 3 * k + 1) (plc 0 (b 3 0) 0)) := x_gainAt hb (in0 hb)
      unfold f_X11_knownSum_L4 f_X6_gainAtStart
      rw [(bk_e b I 4 hC).2.2.1, if_neg (nI_ge hk (by omega)), x_tenthsOf hb hC hk, zb1_s, x_bestBy (by omega), zb1_s, zg_t ⟨by omega, by omega, by omega⟩, x_hasPiece hb hC, zb1_s, zif, k0, if_pos (by omega), hst, zb1_s, hga, zb1_s, zb1_s, hcell, hv, zn_e, zn_e, nI_1, lI_n (by omega), lI_mul, lI_add]
      rfl
    · show f_X11_knownSum_L4 I J _ (nI (b 9 2)) = _
      unfold f_X11_knownSum_L4
      rw [(bk_e b I 4 hC).2.2.1, if_pos (nI_le (Nat.le_refl _) (by omega))]
  unfold f_X11_knownSum
  rw [run, zb1_s]
/-- the best of the guesses up to n, the first of several -/
noncomputable def bzG (b : zB) : Nat → Nat × Int
  | 0 => (0, SG b (GV b 0) (b 9 2))
  | n + 1 => if (bzG b n).2 < SG b (GV b (n + 1)) (b 9 2) then (n + 1, SG b (GV b (n + 1)) (b 9 2)) else bzG b n
theorem bzG_ok (hb : bOk b) : ∀ n, (bzG b n).1 ≤ n ∧ -100000000000000 ≤ (bzG b n).2 ∧ (bzG b n).2 ≤ 100000000000000 := by
  intro n
  induction n with
  | zero => exact ⟨Nat.le_refl _, SG_b hb (GV_ok hb 0)⟩
  | succ n ih =>
    have h1 := SG_b hb (GV_ok hb (n + 1))
    unfold bzG
    by_cases c : (bzG b n).2 < SG b (GV b (n + 1)) (b 9 2)
    · rw [if_pos c]; exact ⟨Nat.le_refl _, h1⟩
    · rw [if_neg c]; exact ⟨by omega, ih.2⟩
theorem x_blindL (hb : bOk b) {sp li ev : Nat} {I : zI} {J : zJ} (hC : rC b I 4) (hH : hB b sp li ev I) (s : ∀ h, h < b 9 2 → sP b 0 h (47 + 3 * h) I J) : ∃ e : Int32 × Int64 × zI × zJ, zl (fun v : (Int32 × Int64 × Int32 × zI × zJ) => f_X11_blind_L52 v.1 v.2.1 v.2.2.1 v.2.2.2.1 v.2.2.2.2) zF (0, lI (SG b (GV b 0) (b 9 2)), 1, I, J) = some e ∧ (e.1 = nI (bzG b (b 9 2 - 1)).1 ∧ e.2.1 = lI (bzG b (b 9 2 - 1)).2 ∧ oV I e.2.2.1 J e.2.2.2) := by
  have h4 := hb.2.2.1
  refine zl_inv (fun k v => v.2.2.1 = nI (k + 1) ∧ v.1 = nI (bzG b k).1 ∧ v.2.1 = lI (bzG b k).2 ∧ oV I v.2.2.2.1 J v.2.2.2.2) _ (b 9 2 - 1) 0 _ ⟨rfl, rfl, rfl, oV.refl⟩ ?_ ?_ zF (by unfold zF; omega)
  · intro k v _ hk hv
    obtain ⟨x20, u21, x22, I23, J24⟩ := v
    obtain ⟨h1, h2, h3, h5⟩ := hv
    replace h1 : x22 = nI (k + 1) := h1
    replace h2 : x20 = nI (bzG b k).1 := h2
    replace h3 : u21 = lI (bzG b k).2 := h3
    replace h5 : oV I I23 J J24 := h5
    subst h1 h2 h3
    have hk2 : k + 1 < b 9 2 := by omega
    have hC6 := h5.toC hC
    obtain ⟨I27, J28, e1, e2⟩ := x_guessedSum (J := J24) hb hk2 hC6 (h5.toH hH) (h5.toS (by omega) (s _ hk2))
    obtain ⟨z0, z1⟩ := bzG_ok hb k
    have z2 := SG_b hb (GV_ok hb (k + 1))
    show ∃ v', f_X11_blind_L52 (nI (bzG b k).1) (lI (bzG b k).2) (nI (k + 1)) I23 J24 = some (.inl v') ∧ _
    unfold f_X11_blind_L52
    rw [(bk_e b I23 4 hC6).2.2.1, if_neg (nI_ge hk2 (by omega)), e1, zb3_s]
    have ebz : bzG b (k + 1) = if (bzG b k).2 < SG b (GV b (k + 1)) (b 9 2) then (k + 1, SG b (GV b (k + 1)) (b 9 2)) else bzG b k := rfl
    by_cases d : (bzG b k).2 < SG b (GV b (k + 1)) (b 9 2)
    · rw [if_neg (fun z => (cmp_le0.1 z) ((lI_lt (by omega) (by omega)).2 d)), zn_e, nI_1]
      rw [if_pos d] at ebz
      refine ⟨_, rfl, rfl, ?_, ?_, h5.trans e2⟩
      · rw [ebz]
      · rw [ebz]
    · rw [if_pos (cmp_le0.2 (fun z => d ((lI_lt (by omega) (by omega)).1 z))), zn_e, nI_1]
      rw [if_neg d] at ebz
      refine ⟨_, rfl, rfl, ?_, ?_, h5.trans e2⟩
      · rw [ebz]
      · rw [ebz]
  · intro v hv
    obtain ⟨x20, u21, x22, I23, J24⟩ := v
    obtain ⟨h1, h2, h3, h5⟩ := hv
    replace h1 : x22 = nI (0 + (b 9 2 - 1) + 1) := h1
    replace h2 : x20 = nI (bzG b (0 + (b 9 2 - 1))).1 := h2
    replace h3 : u21 = lI (bzG b (0 + (b 9 2 - 1))).2 := h3
    replace h5 : oV I I23 J J24 := h5
    rw [Nat.zero_add] at h1 h2 h3
    subst h1
    refine ⟨(x20, u21, I23, J24), ?_, h2, h3, h5⟩
    show f_X11_blind_L52 x20 u21 (nI (b 9 2 - 1 + 1)) I23 J24 = _
    unfold f_X11_blind_L52
    rw [(bk_e b I23 4 (h5.toC hC)).2.2.1, if_pos (nI_le (by omega) (by omega))]
theorem m_blindL (hb : bOk b) {I : zI} {J : zJ} (hM : rM b I) : ∃ e : Int32 × Int64 × zI × zJ, zl (fun v : (Int32 × Int64 × Int32 × zI × zJ) => f_X12_blind_L27 v.1 v.2.1 v.2.2.1 v.2.2.2.1 v.2.2.2.2) zF (0, lI (SG b (GV b 0) (b 9 2)), 1, I, J) = some e ∧ (e.1 = nI (bzG b (b 9 2 - 1)).1 ∧ e.2.1 = lI (bzG b (b 9 2 - 1)).2 ∧ ∀ r, r ≠ 15 → e.2.2.1 r = I r) := by
  have h4 := hb.2.2.1
  refine zl_inv (fun k v => v.2.2.1 = nI (k + 1) ∧ v.1 = nI (bzG b k).1 ∧ v.2.1 = lI (bzG b k).2 ∧ ∀ r, r ≠ 15 → v.2.2.2.1 r = I r) _ (b 9 2 - 1) 0 _ ⟨rfl, rfl, rfl, fun _ _ => rfl⟩ ?_ ?_ zF (by unfold zF; omega)
  · intro k v _ hk hv
    obtain ⟨x20, u21, x22, I23, J24⟩ := v
    obtain ⟨h1, h2, h3, h5⟩ := hv
    replace h1 : x22 = nI (k + 1) := h1
    replace h2 : x20 = nI (bzG b k).1 := h2
    replace h3 : u21 = lI (bzG b k).2 := h3
    replace h5 : ∀ r, r ≠ 15 → I23 r = I r := h5
    subst h1 h2 h3
    have hk2 : k + 1 < b 9 2 := by omega
    have hM6 : rM b I23 := hM.eq (fun r _ _ => h5 r (by omega))
    obtain ⟨I27, J28, e1, e2⟩ := m_sumOf (J := J24) hb hM6 (Or.inl ⟨k + 1, hk2, rfl, rfl⟩)
    obtain ⟨z0, z1⟩ := bzG_ok hb k
    have z2 := SG_b hb (GV_ok hb (k + 1))
    show ∃ v', f_X12_blind_L27 (nI (bzG b k).1) (lI (bzG b k).2) (nI (k + 1)) I23 J24 = some (.inl v') ∧ _
    unfold f_X12_blind_L27
    rw [zg_t (by decide), sp_0, hM6.1.2.2, if_neg (nI_ge hk2 (by omega)), e1, zb3_s]
    have ebz : bzG b (k + 1) = if (bzG b k).2 < SG b (GV b (k + 1)) (b 9 2) then (k + 1, SG b (GV b (k + 1)) (b 9 2)) else bzG b k := rfl
    by_cases d : (bzG b k).2 < SG b (GV b (k + 1)) (b 9 2)
    · have nd : ¬ lg_cmp (lI (SG b (GV b (k + 1)) (b 9 2))) (lI (bzG b k).2) ≤ 0 := fun z => (cmp_le0.1 z) ((lI_lt (by omega) (by omega)).2 d)
      rw [if_neg nd, zb1_s, if_neg nd, zn_e, nI_1]
      rw [if_pos d] at ebz
      refine ⟨_, rfl, rfl, ?_, ?_, fun r hr => by rw [← h5 r hr]; exact e2 r hr⟩
      · rw [ebz]
      · rw [ebz]
    · have nd : lg_cmp (lI (SG b (GV b (k + 1)) (b 9 2))) (lI (bzG b k).2) ≤ 0 := cmp_le0.2 (fun z => d ((lI_lt (by omega) (by omega)).1 z))
      rw [if_pos nd, zb1_s, if_pos nd, zn_e, nI_1]
      rw [if_neg d] at ebz
      refine ⟨_, rfl, rfl, ?_, ?_, fun r hr => by rw [← h5 r hr]; exact e2 r hr⟩
      · rw [ebz]
      · rw [ebz]
  · intro v hv
    obtain ⟨x20, u21, x22, I23, J24⟩ := v
    obtain ⟨h1, h2, h3, h5⟩ := hv
    replace h1 : x22 = nI (0 + (b 9 2 - 1) + 1) := h1
    replace h2 : x20 = nI (bzG b (0 + (b 9 2 - 1))).1 := h2
    replace h3 : u21 = lI (bzG b (0 + (b 9 2 - 1))).2 := h3
    replace h5 : ∀ r, r ≠ 15 → I23 r = I r := h5
    rw [Nat.zero_add] at h1 h2 h3
    subst h1
    have hM6 : rM b I23 := hM.eq (fun r _ _ => h5 r (by omega))
    refine ⟨(x20, u21, I23, J24), ?_, h2, h3, h5⟩
    show f_X12_blind_L27 x20 u21 (nI (b 9 2 - 1 + 1)) I23 J24 = _
    unfold f_X12_blind_L27
    rw [zg_t (by decide), sp_0, hM6.1.2.2, if_pos (nI_le (by omega) (by omega))]
end GU
theorem hB_e {b : zB} {I IM : zI} (hH : rHb (b 9 0) 24 0 I IM) : ∃ sp li ev : Nat, hB b sp li ev I := by
  obtain ⟨sp, li, ev, g1, g2, g3, g4, -⟩ := hab_e hH
  exact ⟨sp, li, ev, g4, g1, g2, g3⟩
theorem oQ.toH {b : zB} {sp li ev : Nat} {I I2 : zI} {J J2 : zJ} (o : oQ I I2 J J2) (s : hB b sp li ev I) : hB b sp li ev I2 := by
  unfold hB at s ⊢
  rw [o.1 24 (by omega)]; exact s
theorem pu_guess : op_guess zRel := by
  intro I J IM JM hR p1 p2
  have hR0 := hR
  obtain ⟨b, hb, hC, hM, hT, hH, hK, hP⟩ := hR
  have h4 := bT hb
  unfold f_X11_guess f_X12_guess
  rw [x_hasSteel hb hC, zb1_s, zif, x_hasSteel hb hC, zb1_s, zif, m_isSteel hb hM, zb1_s, zif, m_isSteel hb hM, zb1_s, zif]
  by_cases c1 : 0 ≤ p1.toInt ∧ p1.toInt < b 9 2
  case neg => rw [if_neg c1, if_neg c1]; exact ⟨_, _, _, _, _, rfl, rfl, hR0⟩
  by_cases c2 : 0 ≤ p2.toInt ∧ p2.toInt < b 9 2
  case neg => rw [if_pos c1, if_pos c1, if_neg c2, if_neg c2]; exact ⟨_, _, _, _, _, rfl, rfl, hR0⟩
  rw [if_pos c1, if_pos c1, if_pos c2, if_pos c2]
  obtain ⟨g, hg, rfl⟩ := nI_of3 c1.1 c1.2
  obtain ⟨h, hh, rfl⟩ := nI_of3 c2.1 c2.2
  obtain ⟨sp, li, ev, hHB⟩ := hB_e hH
  obtain ⟨I2, J2, e1, e2, e3, e4, -⟩ := x_prepare (k := 0) hb (by omega) hg hC hP
  replace e1 : f_X2_prepare I J 0 (nI g) = some (I2, J2) := e1
  have hC2 := e2.rC hC
  obtain ⟨I3, I4, J4, a1, a2, a3, a4⟩ := x_guessed hb hg hh hC2 (e2.toH hHB) (e4.1 rfl)
  obtain ⟨M2, N2, q1, q2⟩ := m_guessOf (J := JM) hb hM hg hh
  have hst : f_X0_stepsOf I2 J2 4 0 = some (nI (b 3 0)) := x_stepsOf hb hC2 hb.2.1.1
  rw [e1, zb2_s, hst, zb1_s, a1, zb1_s, a2, zb3_s, q1, zb3_s]
  exact ⟨_, _, _, _, _, rfl, rfl, zRel.stay hb hC hM hT hH hK (fun r hr => by rw [a4.1 r (by omega) (by omega) (by omega), e2.1 r (by omega)]) (fun r hr => q2 r (by omega)) (e3.far a4.1 a4.2)⟩
theorem pu_blind : op_blind zRel := by
  intro I J IM JM hR p1
  have hR0 := hR
  obtain ⟨b, hb, hC, hM, hT, hH, hK, hP⟩ := hR
  have h4 := hb.2.2.1
  unfold f_X11_blind f_X12_blind
  rw [e_within, zb1_s, zif, e_in, zb1_s, zif, t64, k0, k3, K0, K3]
  by_cases c : 0 ≤ p1.toInt ∧ p1.toInt ≤ 3
  case neg => rw [if_neg c, if_neg c]; exact ⟨_, _, _, _, _, rfl, rfl, hR0⟩
  rw [if_pos c, if_pos c]
  obtain ⟨q, hq, rfl⟩ := nI_of3 (x := p1) (n := 4) c.1 (by omega)
  obtain ⟨sp, li, ev, hHB⟩ := hB_e hH
  obtain ⟨⟨I2, J2⟩, a1, a2, a3, a4⟩ := x_prepAll hb hC hP
  replace a2 : oQ I I2 J J2 := a2
  replace a3 : rP b I2 J2 := a3
  replace a4 : ∀ h, h < b 9 2 → sP b 0 h (47 + 3 * h) I2 J2 := a4
  have hC2 := a2.rC hC
  obtain ⟨I3, J3, b1, b2⟩ := x_guessedSum (g := 0) hb h4.1 hC2 (a2.toH hHB) (a4 0 h4.1)
  replace b1 : f_X11_guessedSum I2 J2 0 = some (lI (SG b (GV b 0) (b 9 2)), I3, J3) := b1
  have hC3 := b2.toC hC2
  have s3 : ∀ h, h < b 9 2 → sP b 0 h (47 + 3 * h) I3 J3 := fun h hh => b2.toS (by omega) (a4 h hh)
  obtain ⟨⟨x4, u4, I4, J4⟩, d1, d2, d3, d4⟩ := x_blindL hb hC3 (b2.toH (a2.toH hHB)) s3
  replace d2 : x4 = nI (bzG b (b 9 2 - 1)).1 := d2
  replace d3 : u4 = lI (bzG b (b 9 2 - 1)).2 := d3
  replace d4 : oV I3 I4 J3 J4 := d4
  have hC4 := d4.toC hC3
  have s4 : ∀ h, h < b 9 2 → sP b 0 h (47 + 3 * h) I4 J4 := fun h hh => d4.toS (by omega) (s3 h hh)
  have kn := x_knownSum hb hC4 s4
  obtain ⟨M2, N2, e1, e2⟩ := m_sumOf (J := JM) (x := 0) (f := GV b 0) hb hM (Or.inl ⟨0, h4.1, rfl, rfl⟩)
  have hM2 : rM b M2 := hM.eq (fun r _ _ => e2 r (by omega))
  obtain ⟨⟨y3, v3, M3, N3⟩, f1, f2, f3, f4⟩ := m_blindL (J := N2) hb hM2
  replace f2 : y3 = nI (bzG b (b 9 2 - 1)).1 := f2
  replace f3 : v3 = lI (bzG b (b 9 2 - 1)).2 := f3
  replace f4 : ∀ r, r ≠ 15 → M3 r = M2 r := f4
  have hM3 : rM b M3 := hM2.eq (fun r _ _ => f4 r (by omega))
  obtain ⟨M4, N4, g1, g2⟩ := m_sumOf (J := N3) (x := -1) (f := fun h => GV b h h) hb hM3 (Or.inr ⟨rfl, rfl⟩)
  have o4 := b2.trans d4
  have hP4 : rP b I4 J4 := a3.far o4.1 o4.2
  have oI : ∀ r, r < 37 → I4 r = I r := fun r hr => by rw [o4.1 r (by omega) (by omega) (by omega), a2.1 r (by omega)]
  have oM3 : ∀ r, r < 15 → M3 r = IM r := fun r hr => by rw [f4 r (by omega), e2 r (by omega)]
  have oM4 : ∀ r, r < 15 → M4 r = IM r := fun r hr => by rw [g2 r (by omega), oM3 r hr]
  have r3 : zRel I4 J4 M3 N3 := zRel.stay hb hC hM hT hH hK oI oM3 hP4
  have r4 : zRel I4 J4 M4 N4 := zRel.stay hb hC hM hT hH hK oI oM4 hP4
  rw [a1, zb2_s, b1, zb3_s, d1, zb4_s, e1, zb3_s, f1, zb4_s, d2, d3, f2, f3]
  have hq4 : q = 0 ∨ q = 1 ∨ q = 2 ∨ q = 3 := by omega
  rcases hq4 with rfl | rfl | rfl | rfl
  · rw [if_neg (show ¬ (2 : Int32) ≤ nI 0 by decide), if_pos (show nI 0 = 0 from rfl), if_pos (show nI 0 = 0 from rfl)]
    exact ⟨_, _, _, _, _, rfl, rfl, r3⟩
  · rw [if_neg (show ¬ (2 : Int32) ≤ nI 1 by decide), if_neg (show ¬ nI 1 = 0 by decide), if_neg (show ¬ nI 1 = 0 by decide), if_pos (show nI 1 = 1 from rfl)]
    exact ⟨_, _, _, _, _, rfl, rfl, r3⟩
  · rw [if_pos (show (2 : Int32) ≤ nI 2 by decide), if_pos (show nI 2 = 2 from rfl), kn, zb1_s, if_neg (show ¬ nI 2 = 0 by decide), if_neg (show ¬ nI 2 = 1 by decide), if_pos (show nI 2 = 2 from rfl), g1, zb3_s]
    exact ⟨_, _, _, _, _, rfl, rfl, r4⟩
  · rw [if_pos (show (2 : Int32) ≤ nI 3 by decide), if_neg (show ¬ nI 3 = 2 by decide), kn, zb1_s, if_neg (show ¬ nI 3 = 0 by decide), if_neg (show ¬ nI 3 = 1 by decide), if_neg (show ¬ nI 3 = 2 by decide), g1, zb3_s]
    exact ⟨_, _, _, _, _, rfl, rfl, r4⟩
