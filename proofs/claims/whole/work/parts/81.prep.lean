/-! the class's plans, solved -/
def dS (b : zB) (A : Nat → Nat → Nat → Nat) (V : Nat → Nat → Nat → Int) (o : Nat) (I : zI) (J : zJ) (P : Nat) : Prop := ∀ p l w, inS b p l w → (P ≤ p → cl I J o p l w (some (V p l w, A p l w))) ∧ (p < P → cl I J o p l w none)
section SV2
variable {b : zB} {c h o : Nat} {A : Nat → Nat → Nat → Nat} {V : Nat → Nat → Nat → Int}
theorem x_solve51 (hb : bOk b) (hc : c < 4) (hh : h < b 9 2) (ho : 14 ≤ o) (hV : ∀ p l w, inS b p l w → vOk (V p l w)) {p l : Nat} (hp : p < b 9 1) (hl : 1 ≤ l ∧ l ≤ b 3 p) {I : zI} {J : zJ} (hC : rC b I 4) (g : gP b c h o I J) (r : tS b (muX b c) h A V o I J p l (fun _ => 0)) : ∃ e : zI × zJ, zl (fun v : (Int32 × zI × zJ) => f_X6_solve_L51 o (nI p) (nI l) v.1 v.2.1 v.2.2) zF (0, I, J) = some e ∧ (oS o I e.1 J e.2 ∧ tS b (muX b c) h A V o e.1 e.2 p l (fun _ => 48)) := by
  refine zl_inv (fun k v => v.1 = nI k ∧ oS o I v.2.1 J v.2.2 ∧ tS b (muX b c) h A V o v.2.1 v.2.2 p l (fun _ => k)) _ 48 0 _ ⟨rfl, oS.refl, r⟩ ?_ ?_ zF (by unfold zF; omega)
  · intro k v _ hk hv
    obtain ⟨x20, I6, J6⟩ := v
    obtain ⟨h1, h2, h3⟩ := hv
    replace h1 : x20 = nI k := h1
    replace h2 : oS o I I6 J J6 := h2
    replace h3 : tS b (muX b c) h A V o I6 J6 p l (fun _ => k) := h3
    subst h1
    obtain ⟨I7, J7, e1, e2, e3⟩ := x_offerPass hb hc hh ho hV hp hl (show k < 48 by omega) (h2.rC ho hC) (h2.toP g) h3
    show ∃ v', f_X6_solve_L51 o (nI p) (nI l) (nI k) I6 J6 = some (.inl v') ∧ _
    unfold f_X6_solve_L51
    rw [if_neg (show ¬ (48 : Int32) ≤ nI k from nI_ge (b := 48) (by omega) (by omega)), e1, zb2_s, zn_e, nI_1]
    exact ⟨_, rfl, rfl, h2.trans e2, e3⟩
  · intro v hv
    obtain ⟨x20, I6, J6⟩ := v
    obtain ⟨h1, h2, h3⟩ := hv
    replace h1 : x20 = nI (0 + 48) := h1
    subst h1
    exact ⟨(I6, J6), if_pos (show (48 : Int32) ≤ nI 48 by decide), h2, h3⟩
theorem x_solve35 (hb : bOk b) (hc : c < 4) (hh : h < b 9 2) (ho : 14 ≤ o) (s : solS b (muX b c) h A V) (hV : ∀ p l w, inS b p l w → vOk (V p l w)) {p : Nat} (hp : p < b 9 1) {I : zI} {J : zJ} (hC : rC b I 4) (g : gP b c h o I J) (r : dS b A V o I J (p + 1)) : ∃ e : zI × zJ, zl (fun v : (Int32 × zI × zJ) => f_X6_solve_L35 (nI p) o v.1 v.2.1 v.2.2) zF (1, I, J) = some e ∧ (oS o I e.1 J e.2 ∧ dS b A V o e.1 e.2 p) := by
  have hd := (hb.2.2.2.2.2.2.1 p hp).2.1
  refine zl_inv (fun k v => v.1 = nI (k + 1) ∧ oS o I v.2.1 J v.2.2 ∧ tS b (muX b c) h A V o v.2.1 v.2.2 p (k + 1) (fun _ => 0)) _ (b 3 p) 0 _ ⟨rfl, oS.refl, ?_⟩ ?_ ?_ zF (by unfold zF; omega)
  · intro p' l' w' hs'
    obtain ⟨r1, r2⟩ := r p' l' w' hs'
    have := hs'.2.1
    refine ⟨fun z => r1 (by omega), fun z => r2 (by omega), fun z => r2 (by omega)⟩
  · intro k v _ hk hv
    obtain ⟨x20, I6, J6⟩ := v
    obtain ⟨h1, h2, h3⟩ := hv
    replace h1 : x20 = nI (k + 1) := h1
    replace h2 : oS o I I6 J J6 := h2
    replace h3 : tS b (muX b c) h A V o I6 J6 p (k + 1) (fun _ => 0) := h3
    subst h1
    have hl : 1 ≤ k + 1 ∧ k + 1 ≤ b 3 p := by omega
    obtain ⟨⟨I7, J7⟩, e1, e2, e3⟩ := x_solve51 hb hc hh ho hV hp hl (h2.rC ho hC) (h2.toP g) h3
    replace e2 : oS o I6 I7 J6 J7 := e2
    have h7 := h2.trans e2
    obtain ⟨I8, J8, f1, f2, f3⟩ := x_offerRest hb hc ho s hV hp hl (h7.rC ho hC) (h7.toP g) e3
    show ∃ v', f_X6_solve_L35 (nI p) o (nI (k + 1)) I6 J6 = some (.inl v') ∧ _
    unfold f_X6_solve_L35
    rw [x_stepsOf hb (h2.rC ho hC) hp, zb1_s, if_neg (nI_nlt (by omega) (by omega)), e1, zb2_s, f1, zb2_s, zn_e, nI_1]
    refine ⟨_, rfl, rfl, h7.trans f2, fun p' l' w' hs' => ?_⟩
    obtain ⟨r1, r2, r3⟩ := f3 p' l' w' hs'
    refine ⟨fun z => ?_, fun z => r2 (by omega), fun z => r2 (by omega)⟩
    by_cases d : p' = p ∧ l' = k + 1
    · have r3 := r3 d
      rw [gA_50 s hs'] at r3
      exact r3
    · exact r1 (by omega)
  · intro v hv
    obtain ⟨x20, I6, J6⟩ := v
    obtain ⟨h1, h2, h3⟩ := hv
    replace h1 : x20 = nI (0 + b 3 p + 1) := h1
    rw [Nat.zero_add] at h1
    replace h2 : oS o I I6 J J6 := h2
    replace h3 : tS b (muX b c) h A V o I6 J6 p (0 + b 3 p + 1) (fun _ => 0) := h3
    subst h1
    refine ⟨(I6, J6), ?_, h2, fun p' l' w' hs' => ?_⟩
    · show f_X6_solve_L35 (nI p) o (nI (b 3 p + 1)) I6 J6 = _
      unfold f_X6_solve_L35
      rw [x_stepsOf hb (h2.rC ho hC) hp, zb1_s, if_pos (nI_lt (by omega) (by omega))]
    · obtain ⟨r1, r2, r3⟩ := h3 p' l' w' hs'
      have := hs'.2.2.1
      refine ⟨fun z => r1 ?_, fun z => r2 (by omega)⟩
      by_cases d : p' = p
      · rw [d] at this; omega
      · omega
theorem x_solve28 (hb : bOk b) (hc : c < 4) (hh : h < b 9 2) (ho : 14 ≤ o) (s : solS b (muX b c) h A V) (hV : ∀ p l w, inS b p l w → vOk (V p l w)) {I : zI} {J : zJ} (hC : rC b I 4) (g : gP b c h o I J) (r : dS b A V o I J (b 9 1)) : ∃ e : zI × zJ, zl (fun v : (Int32 × zI × zJ) => f_X6_solve_L28 o v.1 v.2.1 v.2.2) zF (nI (b 9 1) - 1, I, J) = some e ∧ (oS o I e.1 J e.2 ∧ dS b A V o e.1 e.2 0) := by
  have h8 := bP hb
  refine zl_inv (fun k v => v.1 = nI (b 9 1 - k) - 1 ∧ oS o I v.2.1 J v.2.2 ∧ dS b A V o v.2.1 v.2.2 (b 9 1 - k)) _ (b 9 1) 0 _ ⟨rfl, oS.refl, r⟩ ?_ ?_ zF (by unfold zF; omega)
  · intro k v _ hk hv
    obtain ⟨x20, I6, J6⟩ := v
    obtain ⟨h1, h2, h3⟩ := hv
    obtain ⟨p, hp⟩ : ∃ p, b 9 1 - k = p + 1 := ⟨b 9 1 - k - 1, by omega⟩
    replace h1 : x20 = nI (b 9 1 - k) - 1 := h1
    rw [hp, nI_pred] at h1
    replace h2 : oS o I I6 J J6 := h2
    replace h3 : dS b A V o I6 J6 (b 9 1 - k) := h3
    rw [hp] at h3
    subst h1
    obtain ⟨⟨I7, J7⟩, e1, e2, e3⟩ := x_solve35 hb hc hh ho s hV (show p < b 9 1 by omega) (h2.rC ho hC) (h2.toP g) h3
    show ∃ v', f_X6_solve_L28 o (nI p) I6 J6 = some (.inl v') ∧ _
    unfold f_X6_solve_L28
    rw [if_neg (nI_pos (by omega)), e1, zb2_s, zn_e]
    refine ⟨_, rfl, ?_, h2.trans e2, ?_⟩
    · show nI p + -1 = nI (b 9 1 - (k + 1)) - 1
      rw [show b 9 1 - (k + 1) = p by omega]; exact (Int32.sub_eq_add_neg _ _).symm
    · show dS b A V o I7 J7 (b 9 1 - (k + 1))
      rw [show b 9 1 - (k + 1) = p by omega]; exact e3
  · intro v hv
    obtain ⟨x20, I6, J6⟩ := v
    obtain ⟨h1, h2, h3⟩ := hv
    replace h1 : x20 = nI (b 9 1 - (0 + b 9 1)) - 1 := h1
    replace h3 : dS b A V o I6 J6 (b 9 1 - (0 + b 9 1)) := h3
    rw [show b 9 1 - (0 + b 9 1) = 0 by omega] at h1 h3
    subst h1
    exact ⟨(I6, J6), if_pos (show nI 0 - 1 < 0 by decide), h2, h3⟩
/-- a plan that is solved -/
def sP (b : zB) (c h o : Nat) (I : zI) (J : zJ) : Prop := I o 6 = 1 ∧ gP b c h o I J ∧ ∃ (A : Nat → Nat → Nat → Nat) (V : Nat → Nat → Nat → Int), solS b (muX b c) h A V ∧ ∀ p l w, inS b p l w → I (o + 2) (plc p l w) = nI (A p l w) ∧ J (o + 1) (plc p l w) = lI (V p l w)
theorem sP.eq {I I2 : zI} {J J2 : zJ} (r : sP b c h o I J) (e : ∀ k, k < 3 → I2 (o + k) = I (o + k)) (f : ∀ k, k < 3 → J2 (o + k) = J (o + k)) : sP b c h o I2 J2 := by
  unfold sP gP at r ⊢
  rw [show I2 o = I o from e 0 (by omega), show J2 o = J o from f 0 (by omega), e 2 (by omega), f 1 (by omega)]
  exact r
theorem muX_C {c : Nat} (hc : c < 2) : muX b c = muC b c := by
  have : c = 0 ∨ c = 1 := by omega
  rcases this with rfl | rfl <;> rfl
theorem sP.rPl {I : zI} {J : zJ} (hb : bOk b) (hc : c < 2) (hh : h < b 9 2) (r : sP b c h o I J) : rPl b c h o I J := by
  obtain ⟨r1, ⟨r2, r3, r4⟩, A, V, r5, r6⟩ := r
  have hm := muX_ok hb c
  have hu := hm.2.1
  have hV := sol_bd hb hm r5
  rw [muX_C hc] at r4 r5 hu
  refine Or.inr ⟨r1, hh, r2, r3, ?_, A, V, r5, fun p l w hs => ⟨(r6 p l w hs).1, ?_⟩⟩
  · rw [r4, lI_t (by omega) (by omega)]
  · have := hV p l w hs
    rw [(r6 p l w hs).2, lI_t (by omega) (by omega)]
theorem rPl.sP {I : zI} {J : zJ} (hc : c < 2) (r : rPl b c h o I J) (h6 : ¬ I o 6 = 0) : sP b c h o I J := by
  rcases r with r | ⟨r1, r2, r3, r4, r5, A, V, r6, r7⟩
  · exact absurd r h6
  · rw [← muX_C hc] at r5 r6
    exact ⟨r1, ⟨r3, r4, by rw [← r5, lI_of]⟩, A, V, r6, fun p l w hs => ⟨(r7 p l w hs).1, by rw [← (r7 p l w hs).2, lI_of]⟩⟩
theorem x_solve (hb : bOk b) (hc : c < 2) (hh : h < b 9 2) (ho : 14 ≤ o) {I : zI} {J : zJ} (hC : rC b I 4) (r : rPl b c h o I J) : ∃ (I2 : zI) (J2 : zJ), f_X6_solve I J o c (nI h) = some (I2, J2) ∧ sP b c h o I2 J2 ∧ (∀ k, k ≠ o → k ≠ o + 2 → I2 k = I k) ∧ (∀ k, k ≠ o → k ≠ o + 1 → J2 k = J k) ∧ (¬ I o 6 = 0 → I2 = I ∧ J2 = J) := by
  unfold f_X6_solve
  by_cases h6 : I o 6 = 0
  case neg =>
    rw [if_neg h6]
    exact ⟨I, J, rfl, r.sP hc h6, fun _ _ _ => rfl, fun _ _ _ => rfl, fun _ => ⟨rfl, rfl⟩⟩
  rw [if_pos h6]
  obtain ⟨I1, a1, a2, a3, a4, a5⟩ := x_clearP (I := I) (J := J) (o := o)
  have hC1 : rC b I1 4 := hC.eq (fun k hk => a2 _ (by omega) (by omega))
  obtain ⟨I3, J3, b1, b2, b3, b4, b5, b6⟩ := x_measure (I := I1) (J := J) (c := c) (h := h) (o := o) hb hC1 (by omega) ho
  have hC3 : rC b I3 4 := hC1.eq (fun k hk => b3 _ (by omega))
  obtain ⟨A, V, s⟩ := sol_ex (muX b c) h hb
  have hV := sol_bd hb (muX_ok hb c) s
  obtain ⟨⟨I4, J4⟩, d1, d2, d3⟩ := x_solve28 (o := o) hb (by omega) hh ho s hV hC3 b2 (fun p l w hs => ⟨fun z => absurd hs.1 (by omega), fun _ => by
    show I3 (o + 2) (plc p l w) = -1
    rw [b3 (o + 2) (by omega)]
    exact a5 _ (plc_lt hb hs)⟩)
  replace d2 : oS o I3 I4 J3 J4 := d2
  replace d3 : dS b A V o I4 J4 0 := d3
  have g4 := d2.toP b2
  rw [a1, zb1_s, b1, zb2_s, (bk_e b I3 4 hC3).2.1, zn_e, d1, zb2_s, zn_e]
  refine ⟨_, _, rfl, ⟨?_, ⟨?_, ?_, g4.2.2⟩, A, V, s, fun p l w hs => ?_⟩, fun k k1 k2 => ?_, fun k k1 k2 => ?_, fun z => absurd h6 z⟩
  · rw [up_s, up_s]
  · rw [up_s, up_n (by omega)]; exact g4.1
  · rw [up_s, up_n (by omega)]; exact g4.2.1
  · rw [up_n (by omega)]
    exact (d3 p l w hs).1 (by omega)
  · rw [up_n k1, d2.1 k k2, b3 k k1, a2 k k1 k2]
  · rw [d2.2 k k2, b5 k k1]
end SV2
theorem x_bestBy {I : zI} {J : zJ} {h : Nat} (hh : h < 4) : f_X2_bestBy I J (nI h) = some (47 + 3 * h) := by
  unfold f_X2_bestBy
  rw [e_within, zb1_s, zif, if_pos (by rw [nI_toInt (by omega), k0, k3]; omega), zg_t (nI_in hh (by omega)), nI_clamp (by omega)]
theorem x_quickBy {I : zI} {J : zJ} {h : Nat} (hh : h < 4) : f_X2_quickBy I J (nI h) = some (59 + 3 * h) := by
  unfold f_X2_quickBy
  rw [e_within, zb1_s, zif, if_pos (by rw [nI_toInt (by omega), k0, k3]; omega), zg_t (nI_in hh (by omega)), nI_clamp (by omega)]
/-- what a hand needs is planned -/
def pD (b : zB) (k h : Nat) (I : zI) (J : zJ) : Prop := (k = 0 → sP b 0 h (47 + 3 * h) I J) ∧ (k = 4 → sP b 1 h (59 + 3 * h) I J)
/-- rows below 47 and from 71 on stay -/
def oQ (I I2 : zI) (J J2 : zJ) : Prop := (∀ r, r < 47 ∨ 71 ≤ r → I2 r = I r) ∧ ∀ r, r < 47 ∨ 71 ≤ r → J2 r = J r
theorem oQ.trans {I I2 I3 : zI} {J J2 J3 : zJ} (h : oQ I I2 J J2) (g : oQ I2 I3 J2 J3) : oQ I I3 J J3 := ⟨fun k hk => by rw [g.1 k hk, h.1 k hk], fun k hk => by rw [g.2 k hk, h.2 k hk]⟩
theorem oQ.refl {I : zI} {J : zJ} : oQ I I J J := ⟨fun _ _ => rfl, fun _ _ => rfl⟩
theorem oQ.rC {b : zB} {I I2 : zI} {J J2 : zJ} (h : oQ I I2 J J2) (hC : rC b I 4) : rC b I2 4 := hC.eq (fun k hk => h.1 _ (by omega))
theorem x_solveI {b : zB} {c h i : Nat} (hb : bOk b) (hc : c < 2) (hh : h < b 9 2) (hi : i = 4 * c + h) {I : zI} {J : zJ} (hC : rC b I 4) (hP : rP b I J) : ∃ (I2 : zI) (J2 : zJ), f_X6_solve I J (47 + 3 * i) c (nI h) = some (I2, J2) ∧ oQ I I2 J J2 ∧ rP b I2 J2 ∧ sP b c h (47 + 3 * i) I2 J2 ∧ ∀ c' h' i', sP b c' h' (47 + 3 * i') I J → sP b c' h' (47 + 3 * i') I2 J2 := by
  have h4 := bT hb
  have hr : rPl b c h (47 + 3 * i) I J := by
    have q := hP h (by omega)
    have hcc : c = 0 ∨ c = 1 := by omega
    rcases hcc with rfl | rfl
    · rw [hi, show 47 + 3 * (4 * 0 + h) = 47 + 3 * h by omega]; exact q.1
    · rw [hi, show 47 + 3 * (4 * 1 + h) = 59 + 3 * h by omega]; exact q.2
  obtain ⟨I2, J2, e1, e2, e3, e4, e5⟩ := x_solve hb hc hh (show 14 ≤ 47 + 3 * i by omega) hC hr
  have far : ∀ i', i' ≠ i → (∀ k, k < 3 → I2 (47 + 3 * i' + k) = I (47 + 3 * i' + k)) ∧ ∀ k, k < 3 → J2 (47 + 3 * i' + k) = J (47 + 3 * i' + k) := fun i' hi' => ⟨fun k hk => e3 _ (by omega) (by omega), fun k hk => e4 _ (by omega) (by omega)⟩
  refine ⟨I2, J2, e1, ⟨fun r hr => e3 r (by omega) (by omega), fun r hr => e4 r (by omega) (by omega)⟩, fun h' hh' => ?_, e2, fun c' h' i' s' => ?_⟩
  · obtain ⟨q1, q2⟩ := hP h' hh'
    refine ⟨?_, ?_⟩
    · by_cases d : h' = i
      · have hc0 : c = 0 := by omega
        have hh0 : h' = h := by omega
        subst hc0 hh0
        have q := e2.rPl hb (by omega) hh
        rw [← d] at q; exact q
      · exact q1.eq (far h' d).1 (far h' d).2
    · by_cases d : 4 + h' = i
      · have hc0 : c = 1 := by omega
        have hh0 : h' = h := by omega
        subst hc0 hh0
        rw [show 59 + 3 * h' = 47 + 3 * i by omega]; exact e2.rPl hb (by omega) hh
      · have f := far (4 + h') d
        rw [show 47 + 3 * (4 + h') = 59 + 3 * h' by omega] at f
        exact q2.eq f.1 f.2
  · by_cases d : i' = i
    · subst d
      obtain ⟨z1, z2⟩ := e5 (by rw [s'.1]; decide)
      rw [z1, z2]; exact s'
    · exact s'.eq (far i' d).1 (far i' d).2
theorem x_prepare {b : zB} {k h : Nat} (hb : bOk b) (hk : k < 6) (hh : h < b 9 2) {I : zI} {J : zJ} (hC : rC b I 4) (hP : rP b I J) : ∃ (I2 : zI) (J2 : zJ), f_X2_prepare I J (nI k) (nI h) = some (I2, J2) ∧ oQ I I2 J J2 ∧ rP b I2 J2 ∧ pD b k h I2 J2 ∧ ∀ c' h' i', sP b c' h' (47 + 3 * i') I J → sP b c' h' (47 + 3 * i') I2 J2 := by
  have h4 := bT hb
  unfold f_X2_prepare
  by_cases c0 : k = 0
  · subst c0
    obtain ⟨I2, J2, e1, e2, e3, e4, e5⟩ := x_solveI (c := 0) (i := h) hb (by omega) hh (by omega) hC hP
    rw [if_pos (show nI 0 = 0 from rfl), x_bestBy (by omega), zb1_s, zg_t ⟨by omega, by omega, by omega⟩, e1, zb2_s]
    exact ⟨I2, J2, rfl, e2, e3, ⟨fun _ => e4, fun z => by omega⟩, e5⟩
  · rw [if_neg (nI_ne0 (by omega) (by omega))]
    by_cases c4 : k = 4
    · subst c4
      obtain ⟨I2, J2, e1, e2, e3, e4, e5⟩ := x_solveI (c := 1) (i := 4 + h) hb (by omega) hh (by omega) hC hP
      rw [show 47 + 3 * (4 + h) = 59 + 3 * h by omega] at e1 e4
      rw [if_pos (show nI 4 = 4 from rfl), x_quickBy (by omega), zb1_s, zg_t ⟨by omega, by omega, by omega⟩, e1, zb2_s]
      exact ⟨I2, J2, rfl, e2, e3, ⟨fun z => by omega, fun _ => e4⟩, e5⟩
    · rw [if_neg (show ¬ nI k = 4 from nI_eqF (c := 4) c4 (by omega) (by omega))]
      exact ⟨I, J, rfl, oQ.refl, hP, ⟨fun z => absurd z c0, fun z => absurd z c4⟩, fun _ _ _ s => s⟩
