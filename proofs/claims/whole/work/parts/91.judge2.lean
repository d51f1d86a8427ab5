/-! judged: both searches side by side -/
theorem cmp_ge0 {x y : Int64} : 0 ≤ lg_cmp x y ↔ ¬ x < y := by
  rw [← cmp_lt]
  exact Int32.not_lt.symm
section JJ
variable {b : zB} {h : Nat} {A : Nat → Nat → Nat → Nat} {V : Nat → Nat → Nat → Int} {I IM : zI} {J JM : zJ}
/-- what both know when they search -/
def jS (b : zB) (h : Nat) (A : Nat → Nat → Nat → Nat) (V : Nat → Nat → Nat → Int) (I IM : zI) (J JM : zJ) : Prop := rC b I 4 ∧ rM b IM ∧ wD b h A 0 (b 3 0) 0 I ∧ mD b h A 0 (b 3 0) 0 IM ∧ gP b 0 h (47 + 3 * h) I J ∧ mP (muC b 0) JM ∧ (∀ p l w, inS b p l w → canS b l w (A p l w)) ∧ (∃ A0, solS b (muC b 0) h A0 V) ∧ (∀ p l w, inS b p l w → J (47 + 3 * h + 1) (plc p l w) = lI (V p l w)) ∧ (∀ p l w, inS b p l w → JM 16 (clM p l w) = lI (V p l w)) ∧ ∀ p l w, inS b p l w → IM 17 (clM p l w) = nI (A p l w)
theorem j_w (hb : bOk b) (hh : h < b 9 2) (r : jS b h A V I IM J JM) {p l w : Nat} (hs : inS b p l w) : (f_X10_firstWorse_L30 I J (47 + 3 * h) (nI p) (nI l) (nI w) = some (.inl (nI (w + 1))) ∧ f_X12_judge_L97 IM JM (nI p) (nI l) (nI h) (nI w) = some (.inl (nI (w + 1)))) ∨ ∃ v : Int32, f_X10_firstWorse_L30 I J (47 + 3 * h) (nI p) (nI l) (nI w) = some (.inr (.inr (.inr (.inr (.inr (.inr v)))))) ∧ f_X12_judge_L97 IM JM (nI p) (nI l) (nI h) (nI w) = some (.inr (.inr (.inr (.inr (.inr (.inr (v, IM, JM))))))) := by
  obtain ⟨hC, hM, r1, r2, r3, r4, hA, ⟨A0, s⟩, r5, r6, r7⟩ := r
  have hs0 := hs
  obtain ⟨k1, k2, k3, k4⟩ := hs
  have hlt := clM_lt hb hs0
  have hu := muC_ok hb 0
  have hV := sol_bd hb hu s
  have ha := hA p l w hs0
  have ha50 := canS_lt ha
  have hgb := gG_bd (h := h) hb hu hV hs0 ha
  have hvb := hV p l w hs0
  unfold f_X10_firstWorse_L30 f_X12_judge_L97 f_X10_isWorse
  rw [if_neg (show ¬ (100 : Int32) < nI w from nI_ltF (a := 100) (by omega) (by omega)), if_neg (show ¬ (100 : Int32) < nI w from nI_ltF (a := 100) (by omega) (by omega)), x_actAt hb hs0, zb1_s, m_cell, zb1_s]
  simp only [zg_t (nI_in hlt (show 7272 < 2 ^ 31 by omega))]
  simp only [nI_clamp (show clM p l w < 2 ^ 31 by omega)]
  by_cases c : Rch b h A 0 (b 3 0) 0 p l w
  case neg =>
    have e1 : I (71 + 2) (plc p l w) = -1 := (r1 p l w hs0).2 c
    have e2 : IM 18 (clM p l w) = 0 := Classical.not_not.mp (fun z => c ((r2 p l w hs0).2 z))
    rw [e1, if_pos rfl, zb1_s, if_pos rfl, zn_e, nI_1, e2, if_pos rfl, zn_e]
    exact Or.inl ⟨rfl, rfl⟩
  have e1 : I (71 + 2) (plc p l w) = nI (A p l w) := (r1 p l w hs0).1 c
  have e2 : ¬ IM 18 (clM p l w) = 0 := (r2 p l w hs0).1 c
  have g1 : f_X6_gainOf I J (47 + 3 * h) (nI (A p l w)) (nI p) (nI l) (nI w) = some (lI (gG b (muC b 0) h V p l w (A p l w))) := x_gainOf hb hC (by omega) hh r3 hV hs0 ha (fun p' l' w' hc => r5 p' l' w' (suc_in hb hs0 hc))
  have g2 : f_X12_comes IM JM (nI p) (nI l) (nI w) (nI h) (nI (A p l w)) = some (lI (gG b (muC b 0) h V p l w (A p l w))) := m_comes hb hM hh hu r4 hV hs0 ha (fun x hx q => r6 _ _ _ (aft_in hb q hx)) (fun l' x q1 q2 q3 => r6 _ _ _ ⟨k1, q1, by omega, q3⟩) (fun _ => r6 _ _ _ ⟨k1, k2, k3, by omega⟩)
  rw [e1, if_neg (m1_ne (by omega)), g1, zb1_s, x_gainAt hb hs0, zb1_s, r5 p l w hs0, if_neg e2, r7 p l w hs0, g2, zb1_s, r6 p l w hs0]
  by_cases d : gG b (muC b 0) h V p l w (A p l w) < V p l w
  · have nd : ¬ 0 ≤ lg_cmp (lI (gG b (muC b 0) h V p l w (A p l w))) (lI (V p l w)) := fun z => (cmp_ge0.1 z) ((lI_lt (by omega) (by omega)).2 d)
    rw [if_neg nd, zb1_s, if_neg (by decide), if_neg nd, x_stepsOf hb hC k1, zb1_s, m_steps hb hM k1, zb1_s]
    exact Or.inr ⟨_, rfl, rfl⟩
  · have nd : 0 ≤ lg_cmp (lI (gG b (muC b 0) h V p l w (A p l w))) (lI (V p l w)) := cmp_ge0.2 (fun z => d ((lI_lt (by omega) (by omega)).1 z))
    rw [if_pos nd, zb1_s, if_pos rfl, zn_e, nI_1, if_pos nd, zn_e]
    exact Or.inl ⟨rfl, rfl⟩
theorem j_l (hb : bOk b) (hh : h < b 9 2) (r : jS b h A V I IM J JM) {p l : Nat} (hp : p < b 9 1) (hl : 1 ≤ l ∧ l ≤ b 3 p) : (f_X10_firstWorse_L22 I J (47 + 3 * h) (nI p) (nI l) = some (.inl (nI (l - 1))) ∧ f_X12_judge_L89 IM JM (nI p) (nI h) (nI l) = some (.inl (nI (l - 1)))) ∨ ∃ v : Int32, f_X10_firstWorse_L22 I J (47 + 3 * h) (nI p) (nI l) = some (.inr (.inr (.inr (.inr v)))) ∧ f_X12_judge_L89 IM JM (nI p) (nI h) (nI l) = some (.inr (.inr (.inr (.inr (v, IM, JM))))) := by
  have hd3 := (hb.2.2.2.2.2.2.1 p hp).2.1
  have q := zl_two (T := Int32) (b1 := fun v : Int32 => f_X10_firstWorse_L30 I J (47 + 3 * h) (nI p) (nI l) v) (b2 := fun v : Int32 => f_X12_judge_L97 IM JM (nI p) (nI l) (nI h) v) (fun j => nI j) (fun j => nI j) (.inl ()) (.inl ()) (fun v => .inr (.inr (.inr (.inr (.inr v))))) (fun v => .inr (.inr (.inr (.inr (.inr (v, IM, JM)))))) 101 0 (fun j _ hj => j_w hb hh r ⟨hp, hl.1, hl.2, by omega⟩) (if_pos (show (100 : Int32) < nI 101 by decide)) (if_pos (show (100 : Int32) < nI 101 by decide)) zF zF (by unfold zF; omega) (by unfold zF; omega)
  have e : nI l + -1 = nI (l - 1) := by
    obtain ⟨m, rfl⟩ : ∃ m, l = m + 1 := ⟨l - 1, by omega⟩
    rw [← Int32.sub_eq_add_neg, nI_pred]; rfl
  unfold f_X10_firstWorse_L22 f_X12_judge_L89
  rw [if_neg (show ¬ nI l < 1 from nI_nlt (b := 1) (by omega) (by omega)), if_neg (nI_nle (by omega) (by omega)), e, zn_e, zn_e]
  rcases q with ⟨q1, q2⟩ | ⟨v, q1, q2⟩
  · replace q1 : zl (fun v : Int32 => f_X10_firstWorse_L30 I J (47 + 3 * h) (nI p) (nI l) v) zF 0 = some (.inl ()) := q1
    replace q2 : zl (fun v : Int32 => f_X12_judge_L97 IM JM (nI p) (nI l) (nI h) v) zF 0 = some (.inl ()) := q2
    rw [q1, q2, zc0_l, zc0_l]
    exact Or.inl ⟨rfl, rfl⟩
  · replace q1 : zl (fun v : Int32 => f_X10_firstWorse_L30 I J (47 + 3 * h) (nI p) (nI l) v) zF 0 = some (.inr (.inr (.inr (.inr (.inr v))))) := q1
    replace q2 : zl (fun v : Int32 => f_X12_judge_L97 IM JM (nI p) (nI l) (nI h) v) zF 0 = some (.inr (.inr (.inr (.inr (.inr (v, IM, JM)))))) := q2
    rw [q1, q2, zc0_r, zc0_r]
    exact Or.inr ⟨v, rfl, rfl⟩
theorem j_p (hb : bOk b) (hh : h < b 9 2) (r : jS b h A V I IM J JM) {p : Nat} (hp : p < b 9 1) : (f_X10_firstWorse_L2 I J (47 + 3 * h) (nI p) = some (.inl (nI (p + 1))) ∧ f_X12_judge_L72 IM JM (nI h) (nI p) = some (.inl (nI (p + 1)))) ∨ ∃ v : Int32, f_X10_firstWorse_L2 I J (47 + 3 * h) (nI p) = some (.inr (.inr v)) ∧ f_X12_judge_L72 IM JM (nI h) (nI p) = some (.inr (.inr (v, IM, JM))) := by
  have h8 := bP hb
  have hd3 := (hb.2.2.2.2.2.2.1 p hp).2.1
  have hC := r.1
  have hM := r.2.1
  have q := zl_two (T := Int32) (b1 := fun v : Int32 => f_X10_firstWorse_L22 I J (47 + 3 * h) (nI p) v) (b2 := fun v : Int32 => f_X12_judge_L89 IM JM (nI p) (nI h) v) (fun j => nI (b 3 p - j)) (fun j => nI (b 3 p - j)) (.inl ()) (.inl ()) (fun v => .inr (.inr (.inr v))) (fun v => .inr (.inr (.inr (v, IM, JM)))) (b 3 p) 0 (fun j _ hj => by
    have q := j_l hb hh r hp (show 1 ≤ b 3 p - j ∧ b 3 p - j ≤ b 3 p by omega)
    rw [show b 3 p - j - 1 = b 3 p - (j + 1) by omega] at q
    exact q) (by
    show f_X10_firstWorse_L22 I J (47 + 3 * h) (nI p) (nI (b 3 p - (0 + b 3 p))) = _
    rw [show b 3 p - (0 + b 3 p) = 0 by omega]
    exact if_pos (show nI 0 < 1 by decide)) (by
    show f_X12_judge_L89 IM JM (nI p) (nI h) (nI (b 3 p - (0 + b 3 p))) = _
    rw [show b 3 p - (0 + b 3 p) = 0 by omega]
    exact if_pos (show nI 0 ≤ 0 by decide)) zF zF (by unfold zF; omega) (by unfold zF; omega)
  unfold f_X10_firstWorse_L2 f_X12_judge_L72
  rw [(bk_e b I 4 hC).2.1, if_neg (nI_ge hp (by omega)), x_stepsOf hb hC hp, zb1_s, zg_t (by decide), sp_0, hM.1.2.1, if_neg (nI_ge hp (by omega)), m_steps hb hM hp, zb1_s, zn_e, nI_1, zn_e]
  rcases q with ⟨q1, q2⟩ | ⟨v, q1, q2⟩
  · replace q1 : zl (fun v : Int32 => f_X10_firstWorse_L22 I J (47 + 3 * h) (nI p) v) zF (nI (b 3 p)) = some (.inl ()) := q1
    replace q2 : zl (fun v : Int32 => f_X12_judge_L89 IM JM (nI p) (nI h) v) zF (nI (b 3 p)) = some (.inl ()) := q2
    rw [q1, q2, zc0_l, zc0_l]
    exact Or.inl ⟨rfl, rfl⟩
  · replace q1 : zl (fun v : Int32 => f_X10_firstWorse_L22 I J (47 + 3 * h) (nI p) v) zF (nI (b 3 p)) = some (.inr (.inr (.inr v))) := q1
    replace q2 : zl (fun v : Int32 => f_X12_judge_L89 IM JM (nI p) (nI h) v) zF (nI (b 3 p)) = some (.inr (.inr (.inr (v, IM, JM)))) := q2
    rw [q1, q2, zc0_r, zc0_r]
    exact Or.inr ⟨v, rfl, rfl⟩
theorem j_all (hb : bOk b) (hh : h < b 9 2) (r : jS b h A V I IM J JM) : ∃ v : Int32, f_X10_firstWorse I J (47 + 3 * h) = some v ∧ zc0 (zl (fun v : Int32 => f_X12_judge_L72 IM JM (nI h) v) zF 0) (some ((-4), IM, JM)) = some (v, IM, JM) := by
  have h8 := bP hb
  have hC := r.1
  have hM := r.2.1
  have q := zl_two (T := Int32) (b1 := fun v : Int32 => f_X10_firstWorse_L2 I J (47 + 3 * h) v) (b2 := fun v : Int32 => f_X12_judge_L72 IM JM (nI h) v) (fun j => nI j) (fun j => nI j) (.inl ()) (.inl ()) (fun v => .inr v) (fun v => .inr (v, IM, JM)) (b 9 1) 0 (fun j _ hj => j_p hb hh r (by omega)) (by
    show f_X10_firstWorse_L2 I J (47 + 3 * h) (nI (0 + b 9 1)) = _
    unfold f_X10_firstWorse_L2
    rw [Nat.zero_add, (bk_e b I 4 hC).2.1, if_pos (nI_le (Nat.le_refl _) (by omega))]) (by
    show f_X12_judge_L72 IM JM (nI h) (nI (0 + b 9 1)) = _
    unfold f_X12_judge_L72
    rw [Nat.zero_add, zg_t (by decide), sp_0, hM.1.2.1, if_pos (nI_le (Nat.le_refl _) (by omega))]) zF zF (by unfold zF; omega) (by unfold zF; omega)
  unfold f_X10_firstWorse
  rcases q with ⟨q1, q2⟩ | ⟨v, q1, q2⟩
  · replace q1 : zl (fun v : Int32 => f_X10_firstWorse_L2 I J (47 + 3 * h) v) zF 0 = some (.inl ()) := q1
    replace q2 : zl (fun v : Int32 => f_X12_judge_L72 IM JM (nI h) v) zF 0 = some (.inl ()) := q2
    rw [q1, q2, zc0_l, zc0_l]
    exact ⟨_, rfl, rfl⟩
  · replace q1 : zl (fun v : Int32 => f_X10_firstWorse_L2 I J (47 + 3 * h) v) zF 0 = some (.inr v) := q1
    replace q2 : zl (fun v : Int32 => f_X12_judge_L72 IM JM (nI h) v) zF 0 = some (.inr (v, IM, JM)) := q2
    rw [q1, q2, zc0_r, zc0_r]
    exact ⟨_, rfl, rfl⟩
end JJ
theorem m_judge35 {I : zI} : ∃ I2 : zI, zl (fun v : (Int32 × zI) => f_X12_judge_L35 v.1 v.2) zF (0, I) = some I2 ∧ ((∀ k, k ≠ 17 → I2 k = I k) ∧ ∀ x, x < 7272 → I2 17 x = I 15 x) := by
  refine zl_inv (fun k u => u.1 = nI k ∧ (∀ j, j ≠ 17 → u.2 j = I j) ∧ ∀ x, x < k → u.2 17 x = I 15 x) _ 7272 0 _ ⟨rfl, fun _ _ => rfl, fun x hx => by omega⟩ ?_ ?_ zF (by unfold zF; omega)
  · intro k u _ hk hu
    obtain ⟨x, I6⟩ := u
    obtain ⟨h1, h2, h3⟩ := hu
    replace h1 : x = nI k := h1
    replace h2 : ∀ j, j ≠ 17 → I6 j = I j := h2
    subst h1
    have hkn : k < 7272 := by omega
    show ∃ v', f_X12_judge_L35 (nI k) I6 = some (.inl v') ∧ _
    unfold f_X12_judge_L35
    rw [if_neg (show ¬ (7272 : Int32) ≤ nI k from nI_ge (b := 7272) hkn (by omega)), zg_t (nI_in hkn (by omega)), zg_t (nI_in hkn (by omega)), nI_clamp (by omega), zn_e, nI_1, zn_e]
    refine ⟨_, rfl, rfl, fun j hj => ?_, fun x hx => ?_⟩
    · dsimp only
      rw [up_n hj]; exact h2 j hj
    · dsimp only
      rw [up_s]
      by_cases d : x = k
      · rw [d, ud_s, h2 15 (by omega)]
      · rw [ud_n d]; exact h3 x (by omega)
  · intro u hu
    obtain ⟨x, I6⟩ := u
    obtain ⟨h1, h2, h3⟩ := hu
    replace h1 : x = nI (0 + 7272) := h1
    subst h1
    exact ⟨I6, if_pos (show (7272 : Int32) ≤ nI 7272 by decide), h2, h3⟩
theorem pu_judge : op_judge zRel := by
  intro I J IM JM hR p1 p2
  have hR0 := hR
  obtain ⟨b, hb, hC, hM, hT, hH, hK, hP⟩ := hR
  have h4 := bT hb
  unfold f_X11_judge f_X12_judge
  rw [x_isHandIn hb hC, zb1_s, zif, e_in, zb1_s, zif, m_isSteel hb hM, zb1_s, zif, t64, K0, K5]
  by_cases c1 : 0 ≤ p1.toInt ∧ p1.toInt ≤ 5
  case neg => rw [if_neg c1, if_neg (fun z => c1 z.1)]; exact ⟨_, _, _, _, _, rfl, rfl, hR0⟩
  by_cases c2 : 0 ≤ p2.toInt ∧ p2.toInt < b 9 2
  case neg => rw [if_pos c1, if_neg c2, if_neg (fun z => c2 z.2)]; exact ⟨_, _, _, _, _, rfl, rfl, hR0⟩
  have c12 := And.intro c1 c2
  rw [if_pos c12, if_pos c1, if_pos c2]
  obtain ⟨k, hk, rfl⟩ := nI_of3 (x := p1) (n := 6) c1.1 (by omega)
  obtain ⟨h, hh, rfl⟩ := nI_of3 c2.1 c2.2
  obtain ⟨sp, li, ev, g1, g2, g3, ⟨g4, g5, g6⟩, g7, g8, g9⟩ := hab_e hH
  obtain ⟨I2, J2, e1, e2, e3, e4, -⟩ := x_prepare hb hk hh hC hP
  have hC2 := e2.rC hC
  obtain ⟨I4, J4, a1, a2, a3, a4, a5⟩ := x_prepare (k := 0) hb (by omega) hh hC2 e3
  replace a1 : f_X2_prepare I2 J2 0 (nI h) = some (I4, J4) := a1
  have hC4 := a2.rC hC2
  have o4 := e2.trans a2
  have hD4 : pD b k h I4 J4 := ⟨fun z => a5 _ _ _ (e4.1 z), fun z => by
    have q := e4.2 z
    rw [show 59 + 3 * h = 47 + 3 * (4 + h) by omega] at q ⊢
    exact a5 _ _ _ q⟩
  obtain ⟨A, u1, u2⟩ := x_choose hb hk hh hC4 (by rw [o4.1 24 (by omega)]; exact g4) (by rw [o4.1 24 (by omega)]; exact g5) (by rw [o4.1 24 (by omega)]; exact g6) g1 g2 g3 hD4
  have hA := aH_can hb g1 u1
  obtain ⟨I5, s1, s2, s3, s4⟩ := x_spread (J := J4) hb hh hC4 hA (in0 hb) (fun I2 z => u2 I2 J4 (fun r h1 h2 _ => z r h1 h2))
  replace s1 : f_X10_spread I4 J4 (nI k) (nI h) (nI h) 0 (nI (b 3 0)) 0 = some I5 := s1
  have hC5 : rC b I5 4 := hC4.eq (fun r hr => s2 _ (by omega) (by omega) (by omega))
  have hst : f_X0_stepsOf I4 J4 4 0 = some (nI (b 3 0)) := x_stepsOf hb hC4 hb.2.1.1
  -- the reference's
  obtain ⟨A2, M2, N2, f1, f2, f3, f4, f5⟩ := m_handles (J := JM) hb hM g7 g8 g9 g1 g2 g3 hk hh
  have hM2 : rM b M2 := hM.eq (fun r _ _ => f3 r (by omega))
  replace f5 : ∀ p l w, inS b p l w → M2 15 (clM p l w) = nI (A p l w) := fun p l w hs => by rw [f5 p l w hs, aH_uniq hb u1 f2 hs]
  obtain ⟨M3, w1, w2, w3⟩ := m_walks (J := N2) hb hh hM2 hA f5
  obtain ⟨M4, v1, v2, v3⟩ := m_judge35 (I := M3)
  have hM3 : rM b M3 := hM2.eq (fun r _ _ => w2 r (by omega))
  have hM4 : rM b M4 := hM3.eq (fun r _ _ => v2 r (by omega))
  obtain ⟨N4, d1, d2, d3⟩ := m_counts (J := N2) (k := 0) hb hM4 (by omega)
  replace d1 : f_X12_counts M4 N2 0 = some N4 := d1
  obtain ⟨A1, V, hV⟩ := sol_ex (muC b 0) h hb
  obtain ⟨M5, N5, n1, n2, n3⟩ := m_solves hb hM4 hh (muC_ok hb 0) d2 hV
  have hM5 := n2.rM hM4
  have hj : jS b h A V I5 M5 J4 N5 := by
    obtain ⟨_, q2, A0, V0, q3, q4⟩ := a4.1 rfl
    refine ⟨hC5, hM5, s4, fun p l w hs => ?_, ?_, n2.toM d2, hA, ⟨A1, hV⟩, fun p l w hs => ?_, fun p l w hs => (n3 p l w hs).2, fun p l w hs => ?_⟩
    · rw [n2.1 18 (by omega), v2 18 (by omega)]; exact w3 p l w hs
    · unfold gP at q2 ⊢
      rw [s2 _ (by omega) (by omega) (by omega)]; exact q2
    · rw [(q4 p l w hs).2, (solS_uniq hb q3 hV p l w hs).1]
    · rw [n2.1 17 (by omega), v3 _ (clM_lt hb hs), w2 15 (by omega)]; exact f5 p l w hs
  obtain ⟨v, j1, j2⟩ := j_all hb hh hj
  rw [e1, zb2_s, a1, zb2_s, hst, zb1_s, s1, zb1_s, x_bestBy (by omega), zb1_s, zg_t ⟨by omega, by omega, by omega⟩, j1, zb1_s, f1, zb2_s, w1, zb1_s, v1, zb1_s, d1, zb1_s, n1, zb2_s, j2]
  refine ⟨_, _, _, _, _, rfl, rfl, zRel.stay hb hC hM hT hH hK (fun r hr => ?_) (fun r hr => ?_) (a3.eq (fun r h1 h2 => s2 r (by omega) (by omega) (by omega)) (fun _ _ _ => rfl))⟩
  · by_cases z : r = 37
    · omega
    · rw [s2 r z (by omega) (by omega), o4.1 r (by omega)]
  · rw [n2.1 r (by omega), v2 r (by omega), w2 r (by omega), f3 r (by omega)]
