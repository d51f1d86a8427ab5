/-! the class finds the best in each state -/
theorem nar_a {a : Nat} (h : a < 50) : vp_nar .byte ((nI a).toInt8.toInt32) = nI a := by
  have key : ∀ x : Fin 50, vp_nar .byte ((nI x.val).toInt8.toInt32) = nI x.val := by decide +kernel
  exact key ⟨a, h⟩
theorem nar_m : vp_nar .byte (-1) = -1 := by decide +kernel
theorem x_fillB {I : zI} {J : zJ} {q n : Nat} (hn : n < 2 ^ 20) : ∃ I1 : zI, f_J7_fill_031fb I J q n (-1) = some I1 ∧ (∀ k, k ≠ q → I1 k = I k) ∧ ∀ x, x < n → I1 q x = -1 := by
  have run : ∃ I1, zl (fun u : (Int32 × zI) => f_J7_fill_031fb_L5 (nI n) n q (-1) u.1 u.2) zF (0, I) = some I1 ∧ ((∀ k, k ≠ q → I1 k = I k) ∧ ∀ x, x < n → I1 q x = -1) := by
    refine zl_inv (fun k u => u.1 = nI k ∧ (∀ j, j ≠ q → u.2 j = I j) ∧ ∀ x, x < k → u.2 q x = -1) _ n 0 _ ⟨rfl, fun _ _ => rfl, fun x hx => by omega⟩ ?_ ?_ zF (by unfold zF; omega)
    · intro k u _ hk hu
      obtain ⟨x, I6⟩ := u
      obtain ⟨h1, h2, h3⟩ := hu
      replace h1 : x = nI k := h1
      subst h1
      have hkn : k < n := by omega
      show ∃ v', f_J7_fill_031fb_L5 (nI n) n q (-1) (nI k) I6 = some (.inl v') ∧ _
      unfold f_J7_fill_031fb_L5
      rw [if_neg (nI_ge hkn (by omega)), zg_t (nI_in hkn (by omega)), nI_clamp (by omega), nar_m]
      simp only [zn_e, nI_1]
      refine ⟨_, rfl, rfl, fun j hj => ?_, fun x hx => ?_⟩
      · dsimp only
        rw [up_n hj]; exact h2 j hj
      · dsimp only
        rw [up_s]
        by_cases d : x = k
        · rw [d, ud_s]
        · rw [ud_n d]; exact h3 x (by omega)
    · intro u hu
      obtain ⟨x, I6⟩ := u
      obtain ⟨h1, h2, h3⟩ := hu
      replace h1 : x = nI (0 + n) := h1
      subst h1
      rw [Nat.zero_add] at h3 ⊢
      exact ⟨I6, if_pos (nI_le (Nat.le_refl _) (by omega)), h2, h3⟩
  obtain ⟨I1, r1, r2⟩ := run
  refine ⟨I1, ?_, r2⟩
  unfold f_J7_fill_031fb
  rw [zn_e, r1, zb1_s]
theorem x_clearP {I : zI} {J : zJ} {o : Nat} : ∃ I1 : zI, f_X6_clear I J o = some I1 ∧ (∀ k, k ≠ o → k ≠ o + 2 → I1 k = I k) ∧ (∀ j, j ≠ 6 → I1 o j = I o j) ∧ I1 o 6 = 0 ∧ ∀ x, x < 6464 → I1 (o + 2) x = -1 := by
  obtain ⟨I1, e1, e2, e3⟩ := x_fillB (I := I) (J := J) (q := o + 2) (n := 6464) (by omega)
  unfold f_X6_clear
  rw [e1, zb1_s, zn_e]
  refine ⟨_, rfl, fun k h1 h2 => ?_, fun j hj => ?_, ?_, fun x hx => ?_⟩
  · rw [up_n h1]; exact e2 k h2
  · rw [up_s, up_n hj, e2 o (by omega)]
  · rw [up_s, up_s]
  · rw [up_n (by omega)]; exact e3 x hx
/-- a cell of a plan: nothing, or the best so far -/
def cl (I : zI) (J : zJ) (o p l w : Nat) (t : Option (Int × Nat)) : Prop := match t with
  | none => I (o + 2) (plc p l w) = -1
  | some q => I (o + 2) (plc p l w) = nI q.2 ∧ J (o + 1) (plc p l w) = lI q.1
theorem cl.eq {I I2 : zI} {J J2 : zJ} {o p l w : Nat} {t : Option (Int × Nat)} (h : cl I J o p l w t) (e1 : I2 (o + 2) (plc p l w) = I (o + 2) (plc p l w)) (e2 : J2 (o + 1) (plc p l w) = J (o + 1) (plc p l w)) : cl I2 J2 o p l w t := by
  cases t with
  | none => show I2 _ _ = _; rw [e1]; exact h
  | some q => show I2 _ _ = _ ∧ J2 _ _ = _; rw [e1, e2]; exact h
/-- all but the plan's rows stays -/
def oS (o : Nat) (I I2 : zI) (J J2 : zJ) : Prop := (∀ k, k ≠ o + 2 → I2 k = I k) ∧ ∀ k, k ≠ o + 1 → J2 k = J k
theorem oS.trans {o : Nat} {I I2 I3 : zI} {J J2 J3 : zJ} (h : oS o I I2 J J2) (g : oS o I2 I3 J2 J3) : oS o I I3 J J3 := ⟨fun k hk => by rw [g.1 k hk, h.1 k hk], fun k hk => by rw [g.2 k hk, h.2 k hk]⟩
theorem oS.refl {o : Nat} {I : zI} {J : zJ} : oS o I I J J := ⟨fun _ _ => rfl, fun _ _ => rfl⟩
theorem oS.rC {b : zB} {o : Nat} {I I2 : zI} {J J2 : zJ} (h : oS o I I2 J J2) (ho : 14 ≤ o) (hC : rC b I 4) : rC b I2 4 := hC.eq (fun k hk => h.1 _ (by omega))
theorem oS.toP {b : zB} {c h0 o : Nat} {I I2 : zI} {J J2 : zJ} (h : oS o I I2 J J2) (g : gP b c h0 o I J) : gP b c h0 o I2 J2 := by
  unfold gP at g ⊢
  rw [h.1 o (by omega), h.2 o (by omega)]; exact g
def bsO (t : Option (Int × Nat)) (g : Int) (a : Nat) : Int × Nat := match t with
  | none => (g, a)
  | some q => if q.1 < g then (g, a) else q
theorem bst_bsO {G : Nat → Int} {C : Nat → Bool} {n : Nat} (h : C n = true) : bst G C (n + 1) = some (bsO (bst G C n) (G n) n) := by rw [bst_t h]; rfl
theorem x_offerP {b : zB} (hb : bOk b) {I : zI} {J : zJ} {o p l w a : Nat} {g : Int} {t : Option (Int × Nat)} (hs : inS b p l w) (ha : a < 50) (hg : -9000000000000 ≤ g ∧ g ≤ 9000000000000) (ht : ∀ q, t = some q → q.2 < 50 ∧ -9000000000000 ≤ q.1 ∧ q.1 ≤ 9000000000000) (hc : cl I J o p l w t) : ∃ (I2 : zI) (J2 : zJ), f_X6_offer I J o (nI a) (nI p) (nI l) (nI w) (lI g) = some (I2, J2) ∧ oS o I I2 J J2 ∧ (∀ x, x ≠ plc p l w → I2 (o + 2) x = I (o + 2) x ∧ J2 (o + 1) x = J (o + 1) x) ∧ cl I2 J2 o p l w (some (bsO t g a)) := by
  have h := plc_lt hb hs
  have hset : oS o I (va_up I (o + 2) (upd (I (o + 2)) (plc p l w) (nI a))) J (va_up J (o + 1) (vp_updL (J (o + 1)) (plc p l w) (lI g))) ∧ (∀ x, x ≠ plc p l w → (va_up I (o + 2) (upd (I (o + 2)) (plc p l w) (nI a))) (o + 2) x = I (o + 2) x ∧ (va_up J (o + 1) (vp_updL (J (o + 1)) (plc p l w) (lI g))) (o + 1) x = J (o + 1) x) ∧ cl (va_up I (o + 2) (upd (I (o + 2)) (plc p l w) (nI a))) (va_up J (o + 1) (vp_updL (J (o + 1)) (plc p l w) (lI g))) o p l w (some (g, a)) := by
    refine ⟨⟨fun k hk => up_n hk, fun k hk => up_n hk⟩, fun x hx => ⟨?_, ?_⟩, ?_, ?_⟩
    · rw [up_s, ud_n hx]
    · rw [up_s, uL_n hx]
    · rw [up_s, ud_s]
    · rw [up_s, uL_s]
  unfold f_X6_offer
  rw [x_place w hs.2.1, zb1_s, if_neg (nI_pos (by omega)), if_neg (show ¬ (6464 : Int32) ≤ nI (plc p l w) from nI_ge (b := 6464) h (by omega)), if_pos (show nI (plc p l w) < 6464 from nI_lt (b := 6464) h (by omega))]
  simp only [zg_t (nI_in h (show 6464 < 2 ^ 31 by omega))]
  simp only [nI_clamp (show plc p l w < 2 ^ 31 by omega), zn_e, nar_a ha]
  cases t with
  | none =>
    replace hc : I (o + 2) (plc p l w) = -1 := hc
    rw [if_pos hc]
    exact ⟨_, _, rfl, hset⟩
  | some q =>
    obtain ⟨t1, t2⟩ := ht q rfl
    replace hc : I (o + 2) (plc p l w) = nI q.2 ∧ J (o + 1) (plc p l w) = lI q.1 := hc
    have hne : ¬ nI q.2 = -1 := fun z => by
      have e := congrArg Int32.toInt z
      rw [nI_toInt (by omega), show (-1 : Int32).toInt = -1 from rfl] at e
      omega
    rw [hc.1, hc.2, if_neg hne]
    show ∃ I2 J2, _ ∧ _ ∧ _ ∧ cl I2 J2 o p l w (some (if q.1 < g then (g, a) else q))
    by_cases d : q.1 < g
    · rw [if_neg (fun z => (cmp_le0.1 z) ((lI_lt (by omega) (by omega)).2 d)), if_pos d]
      exact ⟨_, _, rfl, hset⟩
    · rw [if_pos (cmp_le0.2 (fun z => d ((lI_lt (by omega) (by omega)).1 z))), if_neg d]
      exact ⟨I, J, rfl, oS.refl, fun _ _ => ⟨rfl, rfl⟩, hc⟩
theorem gG_bd {b : zB} {u : zMu} {h : Nat} (hb : bOk b) (hu : uOk u) {V : Nat → Nat → Nat → Int} (hV : ∀ p l w, inS b p l w → vOk (V p l w)) {p l w a : Nat} (hs : inS b p l w) (ha : canS b l w a) : -9000000000000 ≤ gG b u h V p l w a ∧ gG b u h V p l w a ≤ 9000000000000 := by
  have hs0 := hs
  obtain ⟨k1, k2, k3, k4⟩ := hs
  rcases ha with q | q | q
  · subst q
    have h1 := hu.2.2.2
    unfold gG aft
    rw [if_neg (by omega), if_pos rfl]
    by_cases c : p + 1 = b 9 1
    · rw [if_pos c]; omega
    · rw [if_neg c]
      have := hV _ _ _ (aft_in hb (show p + 1 < b 9 1 by omega) k4)
      omega
  · obtain ⟨q, -⟩ := q
    subst q
    have h1 := hu.2.1
    unfold gG
    rw [if_pos rfl]
    have := hV p l 0 ⟨k1, k2, k3, by omega⟩
    omega
  · obtain ⟨q1, q2, q3, q4⟩ := q
    rw [gG_p q1]
    have h1 := minu_b hb hu k1 q2
    have hr0 := rsk_le hb (p := p) (i := a / 8) (d := a % 8 + 1) (h := h) k4
    obtain ⟨hB1, hB2⟩ := whl_b (h := h) (a := a) hb hu hV hs0
    have hm := mean_b (r := (rsk b p w (a / 8) (a % 8 + 1) h : Int)) (by omega) (by omega) hB1 hB2
    unfold mnG
    omega
/-- the acts below n, and the best of them -/
def gA (b : zB) (u : zMu) (h : Nat) (V : Nat → Nat → Nat → Int) (p l w n : Nat) : Option (Int × Nat) := bst (gG b u h V p l w) (canB b l w) n
theorem gA_ok {b : zB} {u : zMu} {h : Nat} (hb : bOk b) (hu : uOk u) {V : Nat → Nat → Nat → Int} (hV : ∀ p l w, inS b p l w → vOk (V p l w)) {p l w n : Nat} (hs : inS b p l w) (q : Int × Nat) (e : gA b u h V p l w n = some q) : q.2 < 50 ∧ -9000000000000 ≤ q.1 ∧ q.1 ≤ 9000000000000 := by
  obtain ⟨h1, h2, h3, h4⟩ := bst_ok n q e
  have hc := canB_e.1 h1
  rw [h3]
  exact ⟨canS_lt hc, gG_bd hb hu hV hs hc⟩
theorem gA_50 {b : zB} {u : zMu} {h : Nat} {A : Nat → Nat → Nat → Nat} {V : Nat → Nat → Nat → Int} (s : solS b u h A V) {p l w : Nat} (hs : inS b p l w) : gA b u h V p l w 50 = some (V p l w, A p l w) := by
  obtain ⟨h1, h2, h3⟩ := s p l w hs
  exact bst_is (canS_lt h1) (canB_e.2 h1) h2 (fun x hx => h3 x (canB_e.1 hx))
/-- the plan, while the states of piece p with l left are told -/
def tS (b : zB) (u : zMu) (h : Nat) (A : Nat → Nat → Nat → Nat) (V : Nat → Nat → Nat → Int) (o : Nat) (I : zI) (J : zJ) (p l : Nat) (n : Nat → Nat) : Prop := ∀ p' l' w', inS b p' l' w' → ((p < p' ∨ (p' = p ∧ l' < l)) → cl I J o p' l' w' (some (V p' l' w', A p' l' w'))) ∧ ((p' < p ∨ (p' = p ∧ l < l')) → cl I J o p' l' w' none) ∧ ((p' = p ∧ l' = l) → cl I J o p' l' w' (gA b u h V p' l' w' (n w')))
theorem tS.set {b : zB} {u : zMu} {h : Nat} {A : Nat → Nat → Nat → Nat} {V : Nat → Nat → Nat → Int} {o : Nat} {I I2 : zI} {J J2 : zJ} {p l w : Nat} {n n2 : Nat → Nat} (hb : bOk b) (hs : inS b p l w) (r : tS b u h A V o I J p l n) (e : ∀ x, x ≠ plc p l w → I2 (o + 2) x = I (o + 2) x ∧ J2 (o + 1) x = J (o + 1) x) (c : cl I2 J2 o p l w (gA b u h V p l w (n2 w))) (hn : ∀ x, x ≠ w → n2 x = n x) : tS b u h A V o I2 J2 p l n2 := by
  intro p' l' w' hs'
  obtain ⟨r1, r2, r3⟩ := r p' l' w' hs'
  have hd := (hb.2.2.2.2.2.2.1 p hs.1).2.1
  have hd' := (hb.2.2.2.2.2.2.1 p' hs'.1).2.1
  have hne : ¬ (p' = p ∧ l' = l ∧ w' = w) → plc p' l' w' ≠ plc p l w := by
    intro z q
    have h1 := hs.2.1
    have h2 := hs.2.2.1
    have h3 := hs'.2.1
    have h4 := hs'.2.2.1
    exact z (plc_inj h3 (by omega) hs'.2.2.2 h1 (by omega) hs.2.2.2 q)
  refine ⟨fun z => ?_, fun z => ?_, fun z => ?_⟩
  · have q := e _ (hne (by omega)); exact (r1 z).eq q.1 q.2
  · have q := e _ (hne (by omega)); exact (r2 z).eq q.1 q.2
  · by_cases d : w' = w
    · rw [z.1, z.2, d]; exact c
    · have q := e _ (hne (by omega)); rw [hn w' d]; exact (r3 z).eq q.1 q.2
section SV
variable {b : zB} {c h o : Nat} {A : Nat → Nat → Nat → Nat} {V : Nat → Nat → Nat → Int}
theorem x_offerPass (hb : bOk b) (hc : c < 4) (hh : h < b 9 2) (ho : 14 ≤ o) (hV : ∀ p l w, inS b p l w → vOk (V p l w)) {p l a : Nat} (hp : p < b 9 1) (hl : 1 ≤ l ∧ l ≤ b 3 p) (ha : a < 48) {I : zI} {J : zJ} (hC : rC b I 4) (g : gP b c h o I J) (r : tS b (muX b c) h A V o I J p l (fun _ => a)) : ∃ (I2 : zI) (J2 : zJ), f_X6_offerPass I J o (nI a) (nI p) (nI l) = some (I2, J2) ∧ oS o I I2 J J2 ∧ tS b (muX b c) h A V o I2 J2 p l (fun _ => a + 1) := by
  have hd := (hb.2.2.2.2.2.2.1 p hp).2.1
  unfold f_X6_offerPass
  rw [x_isPass hb hC (by omega) (by omega), zb1_s, zif]
  by_cases cc : canP b l a
  case neg =>
    rw [if_neg cc]
    refine ⟨I, J, rfl, oS.refl, fun p' l' w' hs' => ?_⟩
    obtain ⟨r1, r2, r3⟩ := r p' l' w' hs'
    refine ⟨r1, r2, fun z => ?_⟩
    have hno : ¬ canB b l' w' a = true := by
      intro q
      rcases canB_e.1 q with q | q | q
      · omega
      · omega
      · rw [z.2] at q; exact cc ⟨q.2.1, q.2.2.1, q.2.2.2⟩
    have e : gA b (muX b c) h V p' l' w' (a + 1) = gA b (muX b c) h V p' l' w' a := bst_f hno
    rw [e]; exact r3 z
  have hcan : ∀ w, canS b l w a := fun w => Or.inr (Or.inr ⟨ha, cc.1, cc.2.1, cc.2.2⟩)
  rw [if_pos cc]
  simp only [e_depthOf (show a < 2 ^ 31 by omega), e_speedOf (show a < 2 ^ 31 by omega), zb1_s, zn_e]
  rw [nI_sub (show a % 8 + 1 ≤ l by have := cc.2.1; omega), g.2.1, x_wears hb hC hp cc.1 hh (by omega), zb1_s, x_ofTime hb hC hc g hp cc.1, zb1_s]
  obtain ⟨z, e1, e2⟩ := x_ofBreaking (V := V) hb hC hc g hp
  rw [e1, zb1_s]
  have e2 := e2 (fun hp2 => by
    have q := (r _ _ _ (aft_in hb hp2 (show 0 ≤ 100 by omega))).1 (Or.inl (by omega))
    exact q.2)
  have run : ∃ e : zI × zJ, zl (fun v : (Int32 × zI × zJ) => f_X6_offerPass_L64 o (nI p) (nI (l - (a % 8 + 1))) (nI (wrs b p (a / 8) (a % 8 + 1) h)) z (nI a) (nI l) (lI (-((muX b c).1 * (mins b p (a / 8) : Int)))) v.1 v.2.1 v.2.2) zF (0, I, J) = some e ∧ (oS o I e.1 J e.2 ∧ tS b (muX b c) h A V o e.1 e.2 p l (fun _ => a + 1)) := by
    refine zl_inv (fun k v => v.1 = nI k ∧ oS o I v.2.1 J v.2.2 ∧ tS b (muX b c) h A V o v.2.1 v.2.2 p l (fun w => if w < k then a + 1 else a)) _ 101 0 _ ⟨rfl, oS.refl, r⟩ ?_ ?_ zF (by unfold zF; omega)
    · intro k v _ hk hv
      obtain ⟨x20, I6, J6⟩ := v
      obtain ⟨h1, h2, h3⟩ := hv
      replace h1 : x20 = nI k := h1
      replace h2 : oS o I I6 J J6 := h2
      replace h3 : tS b (muX b c) h A V o I6 J6 p l (fun w => if w < k then a + 1 else a) := h3
      subst h1
      have hC6 := h2.rC ho hC
      have g6 := h2.toP g
      have hk100 : k ≤ 100 := by omega
      have hs : inS b p l k := ⟨hp, hl.1, hl.2, hk100⟩
      show ∃ v', f_X6_offerPass_L64 o (nI p) (nI (l - (a % 8 + 1))) (nI (wrs b p (a / 8) (a % 8 + 1) h)) z (nI a) (nI l) (lI (-((muX b c).1 * (mins b p (a / 8) : Int)))) (nI k) I6 J6 = some (.inl v') ∧ _
      unfold f_X6_offerPass_L64
      rw [if_neg (show ¬ (100 : Int32) < nI k from nI_ltF (a := 100) hk100 (by omega))]
      rw [x_comes hb hC6 hc hh g6 hV hs ha cc.1 cc.2.1 (fun _ => e2) (fun q1 q2 => ((h3 p (l - (a % 8 + 1)) (k + wrs b p (a / 8) (a % 8 + 1) h) ⟨hp, by omega, by omega, by unfold rsk at q1; split at q1 <;> omega⟩).1 (Or.inr ⟨rfl, by omega⟩)).2) (fun q1 q2 q3 => ((h3 _ _ _ (aft_in hb q3 (show k + wrs b p (a / 8) (a % 8 + 1) h ≤ 100 by unfold rsk at q1; split at q1 <;> omega))).1 (Or.inl (by omega))).2), zb1_s, lI_add]
      have hgg : mnG b (muX b c) h V p l k a + -((muX b c).1 * (mins b p (a / 8) : Int)) = gG b (muX b c) h V p l k a := by rw [gG_p ha]; omega
      rw [hgg]
      have hcell := (h3 p l k hs).2.2 ⟨rfl, rfl⟩
      dsimp only at hcell
      rw [if_neg (by omega)] at hcell
      obtain ⟨I7, J7, s1, s2, s3, s4⟩ := x_offerP hb hs (show a < 50 by omega) (gG_bd hb (muX_ok hb c) hV hs (hcan k)) (gA_ok hb (muX_ok hb c) hV hs) hcell
      rw [s1, zb2_s, zn_e, nI_1]
      refine ⟨_, rfl, rfl, h2.trans s2, h3.set hb hs s3 ?_ (fun x hx => ?_)⟩
      · dsimp only
        rw [if_pos (by omega)]
        have e : gA b (muX b c) h V p l k (a + 1) = some (bsO (gA b (muX b c) h V p l k a) (gG b (muX b c) h V p l k a) a) := bst_bsO (canB_e.2 (hcan k))
        rw [e]; exact s4
      · skip
        by_cases d : x < k
        · rw [if_pos (by omega), if_pos d]
        · rw [if_neg (by omega), if_neg d]
    · intro v hv
      obtain ⟨x20, I6, J6⟩ := v
      obtain ⟨h1, h2, h3⟩ := hv
      replace h1 : x20 = nI (0 + 101) := h1
      subst h1
      refine ⟨(I6, J6), if_pos (show (100 : Int32) < nI 101 by decide), h2, fun p' l' w' hs' => ?_⟩
      obtain ⟨r1, r2, r3⟩ := h3 p' l' w' hs'
      refine ⟨r1, r2, fun q => ?_⟩
      have r3 := r3 q
      dsimp only at r3
      rw [if_pos (by have := hs'.2.2.2; omega)] at r3
      exact r3
  obtain ⟨⟨I2, J2⟩, e3, e4, e5⟩ := run
  rw [e3, zb2_s]
  exact ⟨I2, J2, rfl, e4, e5⟩
theorem x_offerRest (hb : bOk b) (hc : c < 4) (ho : 14 ≤ o) (s : solS b (muX b c) h A V) (hV : ∀ p l w, inS b p l w → vOk (V p l w)) {p l : Nat} (hp : p < b 9 1) (hl : 1 ≤ l ∧ l ≤ b 3 p) {I : zI} {J : zJ} (hC : rC b I 4) (g : gP b c h o I J) (r : tS b (muX b c) h A V o I J p l (fun _ => 48)) : ∃ (I2 : zI) (J2 : zJ), f_X6_offerRest I J o (nI p) (nI l) = some (I2, J2) ∧ oS o I I2 J J2 ∧ tS b (muX b c) h A V o I2 J2 p l (fun _ => 50) := by
  have hd := (hb.2.2.2.2.2.2.1 p hp).2.1
  unfold f_X6_offerRest
  have run : ∃ e : zI × zJ, zl (fun v : (Int32 × zI × zJ) => f_X6_offerRest_L2 o (nI p) (nI l) v.1 v.2.1 v.2.2) zF (0, I, J) = some e ∧ (oS o I e.1 J e.2 ∧ tS b (muX b c) h A V o e.1 e.2 p l (fun _ => 50)) := by
    refine zl_inv (fun k v => v.1 = nI k ∧ oS o I v.2.1 J v.2.2 ∧ tS b (muX b c) h A V o v.2.1 v.2.2 p l (fun w => if w < k then 50 else 48)) _ 101 0 _ ⟨rfl, oS.refl, r⟩ ?_ ?_ zF (by unfold zF; omega)
    · intro k v _ hk hv
      obtain ⟨x20, I6, J6⟩ := v
      obtain ⟨h1, h2, h3⟩ := hv
      replace h1 : x20 = nI k := h1
      replace h2 : oS o I I6 J J6 := h2
      replace h3 : tS b (muX b c) h A V o I6 J6 p l (fun w => if w < k then 50 else 48) := h3
      subst h1
      have hC6 := h2.rC ho hC
      have g6 := h2.toP g
      have hk100 : k ≤ 100 := by omega
      have hs : inS b p l k := ⟨hp, hl.1, hl.2, hk100⟩
      have hcell := (h3 p l k hs).2.2 ⟨rfl, rfl⟩
      dsimp only at hcell
      rw [if_neg (by omega)] at hcell
      -- a change
      have ch : ∃ (I7 : zI) (J7 : zJ), (if nI k ≤ 0 then some ((I6, J6)) else zb1 (f_X6_gainAt I6 J6 o (nI p) (nI l) 0) (fun u9 => zb2 (f_X6_offer I6 J6 o 48 (nI p) (nI l) (nI k) (u9 + (J6 o 5))) (fun I11 J12 => some ((I11, J12))))) = some (I7, J7) ∧ oS o I6 I7 J6 J7 ∧ tS b (muX b c) h A V o I7 J7 p l (fun w => if w < k then 50 else if w = k then 49 else 48) := by
        by_cases d : k = 0
        · rw [d, if_pos (show nI 0 ≤ 0 by decide)]
          refine ⟨I6, J6, rfl, oS.refl, fun p' l' w' hs' => ?_⟩
          obtain ⟨r1, r2, r3⟩ := h3 p' l' w' hs'
          refine ⟨r1, r2, fun q => ?_⟩
          have r3 := r3 q
          rw [d] at r3
          dsimp only at r3 ⊢
          rw [if_neg (by omega)] at r3 ⊢
          by_cases f : w' = 0
          · rw [if_pos f, f]
            rw [f] at r3
            have hno : ¬ canB b l' 0 48 = true := by
              intro q
              rcases canB_e.1 q with q | q | q <;> omega
            have e : gA b (muX b c) h V p' l' 0 49 = gA b (muX b c) h V p' l' 0 48 := bst_f hno
            rw [e]; exact r3
          · rw [if_neg f]; exact r3
        · rw [if_neg (nI_nle (by omega) (by omega))]
          have hs0 : inS b p l 0 := ⟨hp, hl.1, hl.2, by omega⟩
          have h00 := (h3 p l 0 hs0).2.2 ⟨rfl, rfl⟩
          dsimp only at h00
          rw [if_pos (by omega), gA_50 s hs0] at h00
          have h00 : J6 (o + 1) (plc p l 0) = lI (V p l 0) := h00.2
          have hcan : canS b l k 48 := Or.inr (Or.inl ⟨rfl, by omega⟩)
          have hgg : V p l 0 + -(muX b c).2.1 = gG b (muX b c) h V p l k 48 := by unfold gG; rw [if_pos rfl]; omega
          rw [show (0 : Int32) = nI 0 from rfl, x_gainAt hb hs0, zb1_s, h00, g6.2.2, lI_add, hgg]
          obtain ⟨I7, J7, s1, s2, s3, s4⟩ := x_offerP hb hs (show 48 < 50 by omega) (gG_bd hb (muX_ok hb c) hV hs hcan) (gA_ok hb (muX_ok hb c) hV hs) hcell
          rw [show (48 : Int32) = nI 48 from rfl, s1, zb2_s]
          refine ⟨_, _, rfl, s2, h3.set hb hs s3 ?_ (fun x hx => ?_)⟩
          · skip
            rw [if_neg (by omega), if_pos rfl]
            have e : gA b (muX b c) h V p l k (48 + 1) = some (bsO (gA b (muX b c) h V p l k 48) (gG b (muX b c) h V p l k 48) 48) := bst_bsO (canB_e.2 hcan)
            rw [e]; exact s4
          · skip
            by_cases f : x < k
            · rw [if_pos f, if_pos f]
            · rw [if_neg f, if_neg f, if_neg hx]
      obtain ⟨I7, J7, c1, c2, c3⟩ := ch
      have h7 := h2.trans c2
      have hC7 := h7.rC ho hC
      have g7 := h7.toP g
      have hcell7 := (c3 p l k hs).2.2 ⟨rfl, rfl⟩
      dsimp only at hcell7
      rw [if_neg (by omega), if_pos rfl] at hcell7
      have hcan : canS b l k 49 := Or.inl rfl
      show ∃ v', f_X6_offerRest_L2 o (nI p) (nI l) (nI k) I6 J6 = some (.inl v') ∧ _
      unfold f_X6_offerRest_L2
      have hgg : (muX b c).2.2.2 + aft b V p k = gG b (muX b c) h V p l k 49 := by unfold gG; rw [if_neg (by omega), if_pos rfl]
      rw [if_neg (show ¬ (100 : Int32) < nI k from nI_ltF (a := 100) hk100 (by omega)), c1, zb2_s, g7.1, nI_clamp (by omega), zg_t hc, nI_1, x_aft hb hC7 hp hk100 (fun q => ((c3 _ _ _ (aft_in hb q hk100)).1 (Or.inl (by omega))).2), zb1_s, x_sp (b := b) hc, lI_add, hgg]
      obtain ⟨I8, J8, s1, s2, s3, s4⟩ := x_offerP hb hs (show 49 < 50 by omega) (gG_bd hb (muX_ok hb c) hV hs hcan) (gA_ok hb (muX_ok hb c) hV hs) hcell7
      rw [show (49 : Int32) = nI 49 from rfl, s1, zb2_s, zn_e, nI_1]
      refine ⟨_, rfl, rfl, h7.trans s2, c3.set hb hs s3 ?_ (fun x hx => ?_)⟩
      · dsimp only
        rw [if_pos (by omega)]
        have e : gA b (muX b c) h V p l k (49 + 1) = some (bsO (gA b (muX b c) h V p l k 49) (gG b (muX b c) h V p l k 49) 49) := bst_bsO (canB_e.2 hcan)
        rw [e]; exact s4
      · skip
        by_cases d : x < k
        · rw [if_pos (by omega), if_pos d]
        · rw [if_neg (by omega), if_neg d, if_neg hx]
    · intro v hv
      obtain ⟨x20, I6, J6⟩ := v
      obtain ⟨h1, h2, h3⟩ := hv
      replace h1 : x20 = nI (0 + 101) := h1
      subst h1
      refine ⟨(I6, J6), if_pos (show (100 : Int32) < nI 101 by decide), h2, fun p' l' w' hs' => ?_⟩
      obtain ⟨r1, r2, r3⟩ := h3 p' l' w' hs'
      refine ⟨r1, r2, fun q => ?_⟩
      have r3 := r3 q
      dsimp only at r3
      rw [if_pos (by have := hs'.2.2.2; omega)] at r3
      exact r3
  obtain ⟨⟨I2, J2⟩, e3, e4, e5⟩ := run
  rw [e3, zb2_s]
  exact ⟨I2, J2, rfl, e4, e5⟩
end SV
