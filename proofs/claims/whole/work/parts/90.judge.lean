/-! judged: the reference's walk, and both searches side by side -/
theorem zc0_l {γ : Type} {f : Option γ} : zc0 (some (.inl ())) f = f := rfl
theorem zc0_r {γ : Type} {t : γ} {f : Option γ} : zc0 (some (.inr t)) f = some t := rfl
theorem zl_two {V1 V2 E1 E2 T : Type} {b1 : V1 → Option (V1 ⊕ E1)} {b2 : V2 → Option (V2 ⊕ E2)} (S1 : Nat → V1) (S2 : Nat → V2) (f1 : E1) (f2 : E2) (e1 : T → E1) (e2 : T → E2) : ∀ (n k : Nat), (∀ j, k ≤ j → j < k + n → (b1 (S1 j) = some (.inl (S1 (j + 1))) ∧ b2 (S2 j) = some (.inl (S2 (j + 1)))) ∨ ∃ v, b1 (S1 j) = some (.inr (e1 v)) ∧ b2 (S2 j) = some (.inr (e2 v))) → b1 (S1 (k + n)) = some (.inr f1) → b2 (S2 (k + n)) = some (.inr f2) → ∀ n1 n2, n < n1 → n < n2 → (zl b1 n1 (S1 k) = some f1 ∧ zl b2 n2 (S2 k) = some f2) ∨ ∃ v, zl b1 n1 (S1 k) = some (e1 v) ∧ zl b2 n2 (S2 k) = some (e2 v) := by
  intro n
  induction n with
  | zero =>
    intro k _ h1 h2 n1 n2 g1 g2
    obtain ⟨n1, rfl⟩ : ∃ m, n1 = m + 1 := ⟨n1 - 1, by omega⟩
    obtain ⟨n2, rfl⟩ : ∃ m, n2 = m + 1 := ⟨n2 - 1, by omega⟩
    exact Or.inl ⟨zl_r h1, zl_r h2⟩
  | succ n ih =>
    intro k hs h1 h2 n1 n2 g1 g2
    obtain ⟨n1, rfl⟩ : ∃ m, n1 = m + 1 := ⟨n1 - 1, by omega⟩
    obtain ⟨n2, rfl⟩ : ∃ m, n2 = m + 1 := ⟨n2 - 1, by omega⟩
    rcases hs k (Nat.le_refl _) (by omega) with ⟨q1, q2⟩ | ⟨v, q1, q2⟩
    · rw [zl_l q1, zl_l q2]
      exact ih (k + 1) (fun j j1 j2 => hs j (by omega) (by omega)) (by rw [show k + 1 + n = k + (n + 1) by omega]; exact h1) (by rw [show k + 1 + n = k + (n + 1) by omega]; exact h2) n1 n2 (by omega) (by omega)
    · exact Or.inr ⟨v, zl_r q1, zl_r q2⟩
theorem nar_b1 : vp_nar .boolean 1 = 1 := by decide +kernel
theorem nar_b0 : vp_nar .boolean 0 = 0 := by decide +kernel
/-- a state met -/
def mtI (I : zI) (x : Nat) : zI := va_up I 18 (upd (I 18) x 1)
theorem mtI_s {I : zI} {x : Nat} : mtI I x 18 x = 1 := by unfold mtI; rw [up_s, ud_s]
theorem mtI_n {I : zI} {x y : Nat} (h : y ≠ x) : mtI I x 18 y = I 18 y := by unfold mtI; rw [up_s, ud_n h]
abbrev oK (I I2 : zI) : Prop := ∀ k, k ≠ 18 → I2 k = I k
theorem mtI_o {I : zI} {x : Nat} : oK I (mtI I x) := fun k hk => by unfold mtI; rw [up_n hk]
theorem oK.trans {I I2 I3 : zI} (h : oK I I2) (g : oK I2 I3) : oK I I3 := fun k hk => by rw [g k hk, h k hk]
section JM
variable {b : zB} {J : zJ}
theorem m_meets (hb : bOk b) {I : zI} (hM : rM b I) {p l w : Nat} (hs : inS b p l w) : f_X12_meets I J (nI p) (nI l) (nI w) = some (mtI I (clM p l w)) := by
  have hlt := clM_lt hb hs
  have h8 := bP hb
  have hd3 := (hb.2.2.2.2.2.2.1 p hs.1).2.1
  have h1 := hs.1
  have h2 := hs.2.1
  have h3 := hs.2.2.1
  unfold f_X12_meets
  rw [zg_t (by decide), sp_0, hM.1.2.1, if_neg (nI_ge h1 (by omega)), if_neg (nI_ne0 (by omega) (by omega)), zb1_s, m_cell, zb1_s, zg_t (nI_in hlt (by omega)), nI_clamp (by omega), nar_b1, zn_e]
  rfl
theorem m_meets0 (hb : bOk b) {I : zI} (hM : rM b I) {p w : Nat} (hp : p ≤ 8) (hw : w ≤ 100) : f_X12_meets I J (nI p) 0 (nI w) = some (if p < b 9 1 then mtI I (clM p (b 3 p) w) else I) := by
  have h8 := bP hb
  unfold f_X12_meets
  rw [zg_t (by decide), sp_0, hM.1.2.1]
  by_cases c : p < b 9 1
  · have hs : inS b p (b 3 p) w := ⟨c, (hb.2.2.2.2.2.2.1 p c).2.1.1, Nat.le_refl _, hw⟩
    have hlt := clM_lt hb hs
    rw [if_neg (nI_ge c (by omega)), if_pos (show (0 : Int32) = 0 from rfl), m_steps hb hM c, zb1_s, zb1_s, m_cell, zb1_s, zg_t (nI_in hlt (by omega)), nI_clamp (by omega), nar_b1, zn_e, if_pos c]
    rfl
  · rw [if_pos (nI_le (by omega) (by omega)), if_neg c]
/-- what a step of the reference's walk does -/
def stM (b : zB) (h : Nat) (I I2 : zI) (p l w a : Nat) : Prop := oK I I2 ∧ (∀ p' l' w', sucS b h p l w a p' l' w' → I2 18 (clM p' l' w') = 1) ∧ ∀ x, (∀ p' l' w', sucS b h p l w a p' l' w' → x ≠ clM p' l' w') → I2 18 x = I 18 x
theorem m_walksOn (hb : bOk b) {I : zI} {h p l w a : Nat} (hh : h < b 9 2) (hM : rM b I) (hs : inS b p l w) (ha : canS b l w a) (hI : I 15 (clM p l w) = nI a) : ∃ I2 : zI, f_X12_walksOn I J (nI p) (nI l) (nI w) (nI h) = some I2 ∧ stM b h I I2 p l w a := by
  have ha50 := canS_lt ha
  have hs0 := hs
  obtain ⟨k1, k2, k3, k4⟩ := hs
  have h8 := bP hb
  have hlt := clM_lt hb hs0
  have hd3 := (hb.2.2.2.2.2.2.1 p k1).2.1
  unfold f_X12_walksOn
  rw [m_cell, zb1_s, zg_t (nI_in hlt (by omega)), nI_clamp (by omega), hI, zn_e]
  rcases ha with q | q | q
  · subst q
    rw [if_neg (show ¬ nI 49 = 48 by decide), if_pos (show nI 49 = 49 from rfl), nI_1, m_meets0 hb hM (by omega) k4, zb1_s]
    refine ⟨_, rfl, ?_⟩
    by_cases c : p + 1 < b 9 1
    · have hcs : sucS b h p l w 49 (p + 1) (b 3 (p + 1)) w := Or.inr (Or.inl ⟨rfl, rfl, c, rfl, rfl⟩)
      rw [if_pos c]
      refine ⟨mtI_o, fun p' l' w' hc => ?_, fun x x2 => mtI_n (x2 _ _ _ hcs)⟩
      rcases hc with ⟨q1, q2, q3, q4⟩ | ⟨q1, q2, q3, q4, q5⟩ | ⟨q1, _⟩
      · omega
      · rw [q4, q5, q2, mtI_s]
      · omega
    · rw [if_neg c]
      refine ⟨fun _ _ => rfl, fun p' l' w' hc => ?_, fun x x2 => rfl⟩
      rcases hc with ⟨q1, q2, q3, q4⟩ | ⟨q1, q2, q3, q4, q5⟩ | ⟨q1, _⟩ <;> omega
  · obtain ⟨q, qw⟩ := q
    subst q
    have hcs : sucS b h p l w 48 p l 0 := Or.inl ⟨rfl, rfl, rfl, rfl⟩
    have hme : f_X12_meets I J (nI p) (nI l) 0 = some (mtI I (clM p l 0)) := m_meets (w := 0) hb hM ⟨k1, k2, k3, by omega⟩
    rw [if_pos (show nI 48 = 48 from rfl), hme, zb1_s]
    refine ⟨_, rfl, mtI_o, fun p' l' w' hc => ?_, fun x x2 => mtI_n (x2 _ _ _ hcs)⟩
    rcases hc with ⟨q1, q2, q3, q4⟩ | ⟨q1, q2, q3, q4, q5⟩ | ⟨q1, _⟩
    · rw [q2, q3, q4, mtI_s]
    · omega
    · omega
  · obtain ⟨q1, q2, q3, q4⟩ := q
    have hw8 := wrs_b hb k1 q2 hh (show a % 8 + 1 ≤ 8 by omega)
    have hr0 := rsk_le hb (p := p) (i := a / 8) (d := a % 8 + 1) (h := h) k4
    have hrw : rsk b p w (a / 8) (a % 8 + 1) h < 100 → w + wrs b p (a / 8) (a % 8 + 1) h ≤ 100 := by
      intro z
      unfold rsk at z
      split at z <;> omega
    have em : nI a - nI a / 8 * 8 = nI (a % 8) := nI_mod (b := 8) (by omega) (by omega)
    have ed : nI a / 8 = nI (a / 8) := nI_div (b := 8) (by omega) (by omega)
    rw [if_neg (show ¬ nI a = 48 from nI_eqF (c := 48) (by omega) (by omega) (by omega)), if_neg (show ¬ nI a = 49 from nI_eqF (c := 49) (by omega) (by omega) (by omega)), em, ed, nI_1, m_wears hb hM k1 q2 hh (by omega), zb1_s, nI_add, zn_e]
    have e15 : (if nI (w + wrs b p (a / 8) (a % 8 + 1) h) ≤ 100 then zb1 (f_X12_breaksAt I J (nI w)) (fun x13 => some (x13)) else some (100)) = some (nI (rsk b p w (a / 8) (a % 8 + 1) h)) := by
      unfold rsk
      by_cases c : 100 < w + wrs b p (a / 8) (a % 8 + 1) h
      · rw [if_neg (show ¬ nI (w + wrs b p (a / 8) (a % 8 + 1) h) ≤ 100 from nI_ge (a := 100) c (by omega)), if_pos c]; rfl
      · rw [if_pos (show nI (w + wrs b p (a / 8) (a % 8 + 1) h) ≤ 100 from nI_le (b := 100) (by omega) (by omega)), if_neg c, m_breaksAt hM k4, zb1_s]
    rw [e15, zb1_s]
    have hst : ∃ I3 : zI, (if nI (rsk b p w (a / 8) (a % 8 + 1) h) ≤ 0 then some I else zb1 (f_X12_meets I J (nI p + 1) 0 0) (fun I19 => some (I19))) = some I3 ∧ oK I I3 ∧ (0 < rsk b p w (a / 8) (a % 8 + 1) h → p + 1 < b 9 1 → I3 18 (clM (p + 1) (b 3 (p + 1)) 0) = 1) ∧ ∀ x, (0 < rsk b p w (a / 8) (a % 8 + 1) h → p + 1 < b 9 1 → x ≠ clM (p + 1) (b 3 (p + 1)) 0) → I3 18 x = I 18 x := by
      by_cases c : rsk b p w (a / 8) (a % 8 + 1) h = 0
      · rw [c, if_pos (show nI 0 ≤ 0 by decide)]
        exact ⟨I, rfl, fun _ _ => rfl, fun z => by omega, fun _ _ => rfl⟩
      · have hme : f_X12_meets I J (nI (p + 1)) 0 0 = some (if p + 1 < b 9 1 then mtI I (clM (p + 1) (b 3 (p + 1)) 0) else I) := m_meets0 hb hM (by omega) (show 0 ≤ 100 by omega)
        rw [if_neg (nI_nle (by omega) (by omega)), nI_1, hme, zb1_s]
        refine ⟨_, rfl, ?_⟩
        by_cases d : p + 1 < b 9 1
        · rw [if_pos d]
          exact ⟨mtI_o, fun _ _ => mtI_s, fun x x2 => mtI_n (x2 (by omega) d)⟩
        · rw [if_neg d]
          exact ⟨fun _ _ => rfl, fun _ z => absurd z d, fun _ _ => rfl⟩
    obtain ⟨I3, s1, s2, s4, s5⟩ := hst
    have hM3 : rM b I3 := hM.eq (fun k _ _ => s2 k (by omega))
    rw [s1, zb1_s]
    by_cases c100 : rsk b p w (a / 8) (a % 8 + 1) h = 100
    · rw [c100, if_pos (show (100 : Int32) ≤ nI 100 by decide), if_pos (show (100 : Int32) ≤ nI 100 by decide)]
      refine ⟨I3, rfl, s2, fun p' l' w' hc => ?_, fun x x2 => s5 x (fun z1 z2 => x2 _ _ _ (Or.inr (Or.inr ⟨q1, Or.inl ⟨z1, rfl, z2, rfl, rfl⟩⟩)))⟩
      rcases hc with ⟨r1, _⟩ | ⟨r1, _⟩ | ⟨r1, ⟨r2, r3, r4, r5, r6⟩ | ⟨r2, _⟩ | ⟨r2, _⟩⟩
      · omega
      · omega
      · rw [r5, r6, r3]; rw [r3] at r4; exact s4 r2 r4
      · omega
      · omega
    · have n100 : ¬ (100 : Int32) ≤ nI (rsk b p w (a / 8) (a % 8 + 1) h) := nI_ge (b := 100) (by omega) (by omega)
      rw [if_neg n100, if_neg n100]
      by_cases c : a % 8 + 1 < l
      · have hi : inS b p (l - (a % 8 + 1)) (w + wrs b p (a / 8) (a % 8 + 1) h) := ⟨k1, by omega, by omega, hrw (by omega)⟩
        have el : nI l - nI (a % 8) - 1 = nI (l - (a % 8 + 1)) := by
          rw [nI_sub (by omega), show (1 : Int32) = nI 1 from rfl, nI_sub (by omega)]
          congr 1
        rw [if_neg (nI_ge c (by omega)), el, m_meets hb hM3 hi, zb1_s]
        have hcs : sucS b h p l w a p (l - (a % 8 + 1)) (w + wrs b p (a / 8) (a % 8 + 1) h) := Or.inr (Or.inr ⟨q1, Or.inr (Or.inl ⟨by omega, c, rfl, rfl, rfl⟩)⟩)
        refine ⟨_, rfl, s2.trans mtI_o, fun p' l' w' hc => ?_, fun x x2 => ?_⟩
        · rcases hc with ⟨r1, _⟩ | ⟨r1, _⟩ | ⟨r1, ⟨r2, r3, r4, r5, r6⟩ | ⟨r2, r3, r4, r5, r6⟩ | ⟨r2, r3, _⟩⟩
          · omega
          · omega
          · rw [r3] at r4
            have hi2 := aft_in hb r4 (show 0 ≤ 100 by omega)
            rw [r5, r6, r3, mtI_n (clM_ne hb hi hi2 (by omega))]
            exact s4 r2 r4
          · rw [r4, r5, r6, mtI_s]
          · omega
        · rw [mtI_n (x2 _ _ _ hcs)]
          exact s5 x (fun z1 z2 => x2 _ _ _ (Or.inr (Or.inr ⟨q1, Or.inl ⟨z1, rfl, z2, rfl, rfl⟩⟩)))
      · rw [if_pos (nI_le (by omega) (by omega)), nI_1, m_meets0 hb hM3 (by omega) (hrw (by omega)), zb1_s]
        refine ⟨_, rfl, ?_⟩
        by_cases d : p + 1 < b 9 1
        · rw [if_pos d]
          have hcs : sucS b h p l w a (p + 1) (b 3 (p + 1)) (w + wrs b p (a / 8) (a % 8 + 1) h) := Or.inr (Or.inr ⟨q1, Or.inr (Or.inr ⟨by omega, c, rfl, d, rfl, rfl⟩)⟩)
          refine ⟨s2.trans mtI_o, fun p' l' w' hc => ?_, fun x x2 => ?_⟩
          · rcases hc with ⟨r1, _⟩ | ⟨r1, _⟩ | ⟨r1, ⟨r2, r3, r4, r5, r6⟩ | ⟨r2, r3, _⟩ | ⟨r2, r3, r4, r5, r6, r7⟩⟩
            · omega
            · omega
            · rw [r5, r6, r3]
              by_cases z : clM (p + 1) (b 3 (p + 1)) 0 = clM (p + 1) (b 3 (p + 1)) (w + wrs b p (a / 8) (a % 8 + 1) h)
              · rw [z, mtI_s]
              · rw [mtI_n z]; exact s4 r2 d
            · omega
            · rw [r6, r7, r4, mtI_s]
          · rw [mtI_n (x2 _ _ _ hcs)]
            exact s5 x (fun z1 z2 => x2 _ _ _ (Or.inr (Or.inr ⟨q1, Or.inl ⟨z1, rfl, z2, rfl, rfl⟩⟩)))
        · rw [if_neg d]
          refine ⟨s2, fun p' l' w' hc => ?_, fun x x2 => s5 x (fun z1 z2 => x2 _ _ _ (Or.inr (Or.inr ⟨q1, Or.inl ⟨z1, rfl, z2, rfl, rfl⟩⟩)))⟩
          rcases hc with ⟨r1, _⟩ | ⟨r1, _⟩ | ⟨r1, ⟨r2, r3, r4, r5, r6⟩ | ⟨r2, r3, _⟩ | ⟨r2, r3, r4, r5, r6, r7⟩⟩ <;> omega
/-- the reference's walk, at a place of the way -/
def wM (b : zB) (h : Nat) (A : Nat → Nat → Nat → Nat) (p0 l0 w0 : Nat) (I : zI) (P L W : Nat) : Prop := ¬ I 18 (clM p0 l0 w0) = 0 ∧ (∀ p l w, inS b p l w → ¬ I 18 (clM p l w) = 0 → Rch b h A p0 l0 w0 p l w ∧ I 18 (clM p l w) = 1) ∧ ∀ p l w, inS b p l w → ¬ I 18 (clM p l w) = 0 → bfW P L W p l w → ∀ p' l' w', sucS b h p l w (A p l w) p' l' w' → ¬ I 18 (clM p' l' w') = 0
theorem wM.go (hb : bOk b) {h : Nat} {A : Nat → Nat → Nat → Nat} {p0 l0 w0 : Nat} {I I2 : zI} {P L W : Nat} (hA : ∀ p l w, inS b p l w → canS b l w (A p l w)) (h0 : inS b p0 l0 w0) (hs : inS b P L W) (r : wM b h A p0 l0 w0 I P L (W + 1)) (hm : ¬ I 18 (clM P L W) = 0) (st : stM b h I I2 P L W (A P L W)) : wM b h A p0 l0 w0 I2 P L W := by
  obtain ⟨r1, r2, r3⟩ := r
  obtain ⟨t1, t3, t4⟩ := st
  have nm : ∀ p l w, ¬ I 18 (clM p l w) = 0 → ¬ I2 18 (clM p l w) = 0 := by
    intro p l w hm'
    by_cases d : ∀ p' l' w', sucS b h P L W (A P L W) p' l' w' → clM p l w ≠ clM p' l' w'
    · rw [t4 _ d]; exact hm'
    · obtain ⟨p', d⟩ := Classical.not_forall.mp d
      obtain ⟨l', d⟩ := Classical.not_forall.mp d
      obtain ⟨w', d⟩ := Classical.not_forall.mp d
      obtain ⟨d1, d2⟩ := Classical.not_imp.mp d
      rw [Classical.not_not.mp d2, t3 _ _ _ d1]; decide
  refine ⟨nm _ _ _ r1, fun p l w hs' hm' => ?_, fun p l w hs' hm' hf p2 l2 w2 hc2 => ?_⟩
  · by_cases d : ∀ p' l' w', sucS b h P L W (A P L W) p' l' w' → clM p l w ≠ clM p' l' w'
    · rw [t4 _ d] at hm' ⊢
      exact r2 _ _ _ hs' hm'
    · obtain ⟨p', d⟩ := Classical.not_forall.mp d
      obtain ⟨l', d⟩ := Classical.not_forall.mp d
      obtain ⟨w', d⟩ := Classical.not_forall.mp d
      obtain ⟨d1, d2⟩ := Classical.not_imp.mp d
      have hi := suc_in hb hs d1
      have e : p = p' ∧ l = l' ∧ w = w' := by
        by_cases z : p = p' ∧ l = l' ∧ w = w'
        · exact z
        · exact absurd (Classical.not_not.mp d2) (clM_ne hb hi hs' z)
      rw [e.1, e.2.1, e.2.2]
      exact ⟨Rch_s hs (r2 _ _ _ hs hm).1 d1, t3 _ _ _ d1⟩
  · by_cases c : p = P ∧ l = L ∧ w = W
    · obtain ⟨c1, c2, c3⟩ := c
      subst c1 c2 c3
      rw [t3 _ _ _ hc2]; decide
    · by_cases d : ¬ I 18 (clM p l w) = 0
      · exact nm _ _ _ (r3 p l w hs' d (by omega) _ _ _ hc2)
      · -- it has been met just now: it lies later
        exfalso
        have d := Classical.not_not.mp d
        by_cases y : ∀ p' l' w', sucS b h P L W (A P L W) p' l' w' → clM p l w ≠ clM p' l' w'
        · rw [t4 _ y] at hm'; exact hm' d
        · obtain ⟨p', y⟩ := Classical.not_forall.mp y
          obtain ⟨l', y⟩ := Classical.not_forall.mp y
          obtain ⟨w', y⟩ := Classical.not_forall.mp y
          obtain ⟨d1, d2⟩ := Classical.not_imp.mp y
          have hi := suc_in hb hs d1
          have e : p = p' ∧ l = l' ∧ w = w' := by
            by_cases z : p = p' ∧ l = l' ∧ w = w'
            · exact z
            · exact absurd (Classical.not_not.mp d2) (clM_ne hb hi hs' z)
          rw [e.1, e.2.1, e.2.2] at hf c
          have hl := suc_later hs.2.1 (hA _ _ _ hs) d1
          omega
theorem wM.skip {h : Nat} {A : Nat → Nat → Nat → Nat} {p0 l0 w0 : Nat} {I : zI} {P L W : Nat} (r : wM b h A p0 l0 w0 I P L (W + 1)) (hm : I 18 (clM P L W) = 0) : wM b h A p0 l0 w0 I P L W := by
  obtain ⟨r1, r2, r3⟩ := r
  refine ⟨r1, r2, fun p l w hs' hm' hf => r3 p l w hs' hm' ?_⟩
  by_cases c : p = P ∧ l = L ∧ w = W
  · rw [c.1, c.2.1, c.2.2] at hm'; exact absurd hm hm'
  · omega
theorem wM.to {h : Nat} {A : Nat → Nat → Nat → Nat} {p0 l0 w0 : Nat} {I : zI} {P L W Q M N : Nat} (r : wM b h A p0 l0 w0 I P L W) (e : ∀ p l w, inS b p l w → bfW Q M N p l w → bfW P L W p l w) : wM b h A p0 l0 w0 I Q M N := ⟨r.1, r.2.1, fun p l w hs' hm' hf => r.2.2 p l w hs' hm' (e p l w hs' hf)⟩
section WA
variable {h : Nat} {A : Nat → Nat → Nat → Nat} {p0 l0 w0 : Nat} {I : zI}
theorem m_walks55 (hb : bOk b) (hh : h < b 9 2) (hM : rM b I) (hA : ∀ p l w, inS b p l w → canS b l w (A p l w)) (h0 : inS b p0 l0 w0) (hI : ∀ p l w, inS b p l w → I 15 (clM p l w) = nI (A p l w)) {P L : Nat} (hp : P < b 9 1) (hl : 1 ≤ L ∧ L ≤ b 3 P) (r : wM b h A p0 l0 w0 I P L 101) : ∃ I2 : zI, zl (fun v : (Int32 × zI) => f_X12_walks_L55 J (nI P) (nI L) (nI h) v.1 v.2) zF (100, I) = some I2 ∧ (oK I I2 ∧ wM b h A p0 l0 w0 I2 P L 0) := by
  refine zl_inv (fun n v => v.1 = nI (101 - n) - 1 ∧ oK I v.2 ∧ wM b h A p0 l0 w0 v.2 P L (101 - n)) _ 101 0 _ ⟨rfl, fun _ _ => rfl, r⟩ ?_ ?_ zF (by unfold zF; omega)
  · intro n v _ hn hv
    obtain ⟨x22, I6⟩ := v
    obtain ⟨g1, g2, g3⟩ := hv
    obtain ⟨w, hw⟩ : ∃ w, 101 - n = w + 1 := ⟨101 - n - 1, by omega⟩
    replace g1 : x22 = nI (101 - n) - 1 := g1
    replace g2 : oK I I6 := g2
    replace g3 : wM b h A p0 l0 w0 I6 P L (101 - n) := g3
    rw [hw] at g1 g3
    rw [nI_pred] at g1
    subst g1
    have hs : inS b P L w := ⟨hp, hl.1, hl.2, by omega⟩
    have hlt := clM_lt hb hs
    have hM6 : rM b I6 := hM.eq (fun k _ _ => g2 k (by omega))
    show ∃ v', f_X12_walks_L55 J (nI P) (nI L) (nI h) (nI w) I6 = some (.inl v') ∧ _
    unfold f_X12_walks_L55
    rw [if_neg (nI_pos (by omega)), m_cell, zb1_s, zg_t (nI_in hlt (by omega)), nI_clamp (by omega)]
    have e : nI w + -1 = nI (101 - (n + 1)) - 1 := by
      rw [show 101 - (n + 1) = w by omega]; exact (Int32.sub_eq_add_neg _ _).symm
    by_cases c : I6 18 (clM P L w) = 0
    · rw [if_pos c, zn_e, e]
      refine ⟨_, rfl, rfl, g2, ?_⟩
      show wM b h A p0 l0 w0 I6 P L (101 - (n + 1))
      rw [show 101 - (n + 1) = w by omega]
      exact g3.skip c
    · obtain ⟨I7, s1, s2⟩ := m_walksOn (J := J) hb hh hM6 hs (hA _ _ _ hs) (by rw [g2 15 (by omega)]; exact hI _ _ _ hs)
      rw [if_neg c, s1, zb1_s, zn_e, e]
      refine ⟨_, rfl, rfl, g2.trans s2.1, ?_⟩
      show wM b h A p0 l0 w0 I7 P L (101 - (n + 1))
      rw [show 101 - (n + 1) = w by omega]
      exact g3.go hb hA h0 hs c s2
  · intro v hv
    obtain ⟨x22, I6⟩ := v
    obtain ⟨g1, g2, g3⟩ := hv
    replace g1 : x22 = nI 0 - 1 := g1
    subst g1
    exact ⟨I6, if_pos (show nI 0 - 1 < 0 by decide), g2, g3⟩
theorem m_walks47 (hb : bOk b) (hh : h < b 9 2) (hM : rM b I) (hA : ∀ p l w, inS b p l w → canS b l w (A p l w)) (h0 : inS b p0 l0 w0) (hI : ∀ p l w, inS b p l w → I 15 (clM p l w) = nI (A p l w)) {P : Nat} (hp : P < b 9 1) (r : wM b h A p0 l0 w0 I P (b 3 P) 101) : ∃ I2 : zI, zl (fun v : (Int32 × zI) => f_X12_walks_L47 J (nI P) (nI h) v.1 v.2) zF (nI (b 3 P), I) = some I2 ∧ (oK I I2 ∧ wM b h A p0 l0 w0 I2 P 0 101) := by
  have hd3 := (hb.2.2.2.2.2.2.1 P hp).2.1
  refine zl_inv (fun n v => v.1 = nI (b 3 P - n) ∧ oK I v.2 ∧ wM b h A p0 l0 w0 v.2 P (b 3 P - n) 101) _ (b 3 P) 0 _ ⟨rfl, fun _ _ => rfl, r⟩ ?_ ?_ zF (by unfold zF; omega)
  · intro n v _ hn hv
    obtain ⟨x18, I6⟩ := v
    obtain ⟨g1, g2, g3⟩ := hv
    obtain ⟨l, hl⟩ : ∃ l, b 3 P - n = l + 1 := ⟨b 3 P - n - 1, by omega⟩
    replace g1 : x18 = nI (b 3 P - n) := g1
    replace g2 : oK I I6 := g2
    replace g3 : wM b h A p0 l0 w0 I6 P (b 3 P - n) 101 := g3
    rw [hl] at g1 g3
    subst g1
    have hM6 : rM b I6 := hM.eq (fun k _ _ => g2 k (by omega))
    obtain ⟨I7, s1, s2, s3⟩ := m_walks55 (J := J) hb hh hM6 hA h0 (fun p l w hs => by rw [g2 15 (by omega)]; exact hI p l w hs) hp (show 1 ≤ l + 1 ∧ l + 1 ≤ b 3 P by omega) g3
    show ∃ v', f_X12_walks_L47 J (nI P) (nI h) (nI (l + 1)) I6 = some (.inl v') ∧ _
    unfold f_X12_walks_L47
    rw [if_neg (nI_nle (by omega) (by omega)), s1, zb1_s, zn_e]
    refine ⟨_, rfl, ?_, g2.trans s2, ?_⟩
    · show nI (l + 1) + -1 = nI (b 3 P - (n + 1))
      rw [show b 3 P - (n + 1) = l by omega, ← Int32.sub_eq_add_neg, nI_pred]
    · show wM b h A p0 l0 w0 I7 P (b 3 P - (n + 1)) 101
      rw [show b 3 P - (n + 1) = l by omega]
      exact s3.to (fun p' l' w' hs' hf => by have := hs'.2.2.2; omega)
  · intro v hv
    obtain ⟨x18, I6⟩ := v
    obtain ⟨g1, g2, g3⟩ := hv
    replace g1 : x18 = nI (b 3 P - (0 + b 3 P)) := g1
    replace g3 : wM b h A p0 l0 w0 I6 P (b 3 P - (0 + b 3 P)) 101 := g3
    rw [show b 3 P - (0 + b 3 P) = 0 by omega] at g1 g3
    subst g1
    exact ⟨I6, if_pos (show nI 0 ≤ 0 by decide), g2, g3⟩
theorem m_walks31 (hb : bOk b) (hh : h < b 9 2) (hM : rM b I) (hA : ∀ p l w, inS b p l w → canS b l w (A p l w)) (h0 : inS b p0 l0 w0) (hI : ∀ p l w, inS b p l w → I 15 (clM p l w) = nI (A p l w)) (r : wM b h A p0 l0 w0 I 0 (b 3 0) 101) : ∃ I2 : zI, zl (fun v : (Int32 × zI) => f_X12_walks_L31 J (nI h) v.1 v.2) zF (0, I) = some I2 ∧ (oK I I2 ∧ wM b h A p0 l0 w0 I2 (b 9 1) 0 101) := by
  have h8 := bP hb
  refine zl_inv (fun n v => v.1 = nI n ∧ oK I v.2 ∧ wM b h A p0 l0 w0 v.2 n (b 3 n) 101) _ (b 9 1) 0 _ ⟨rfl, fun _ _ => rfl, r⟩ ?_ ?_ zF (by unfold zF; omega)
  · intro n v _ hn hv
    obtain ⟨x12, I6⟩ := v
    obtain ⟨g1, g2, g3⟩ := hv
    replace g1 : x12 = nI n := g1
    replace g2 : oK I I6 := g2
    replace g3 : wM b h A p0 l0 w0 I6 n (b 3 n) 101 := g3
    subst g1
    have hp : n < b 9 1 := by omega
    have hM6 : rM b I6 := hM.eq (fun k _ _ => g2 k (by omega))
    obtain ⟨I7, s1, s2, s3⟩ := m_walks47 (J := J) hb hh hM6 hA h0 (fun p l w hs => by rw [g2 15 (by omega)]; exact hI p l w hs) hp g3
    show ∃ v', f_X12_walks_L31 J (nI h) (nI n) I6 = some (.inl v') ∧ _
    unfold f_X12_walks_L31
    rw [zg_t (by decide), sp_0, hM6.1.2.1, if_neg (nI_ge hp (by omega)), m_steps hb hM6 hp, zb1_s, s1, zb1_s, zn_e, nI_1]
    refine ⟨_, rfl, rfl, g2.trans s2, ?_⟩
    show wM b h A p0 l0 w0 I7 (n + 1) (b 3 (n + 1)) 101
    refine s3.to (fun p' l' w' hs' hf => ?_)
    have h1 := hs'.2.1
    have h2 := hs'.2.2.1
    have h3 := hs'.2.2.2
    by_cases d : p' = n + 1
    · rw [d] at h2; omega
    · omega
  · intro v hv
    obtain ⟨x12, I6⟩ := v
    obtain ⟨g1, g2, g3⟩ := hv
    replace g1 : x12 = nI (0 + b 9 1) := g1
    replace g2 : oK I I6 := g2
    replace g3 : wM b h A p0 l0 w0 I6 (0 + b 9 1) (b 3 (0 + b 9 1)) 101 := g3
    rw [Nat.zero_add] at g1 g3
    subst g1
    have hM6 : rM b I6 := hM.eq (fun k _ _ => g2 k (by omega))
    refine ⟨I6, ?_, g2, g3.to (fun p' l' w' hs' hf => by have := hs'.1; omega)⟩
    show f_X12_walks_L31 J (nI h) (nI (b 9 1)) I6 = _
    unfold f_X12_walks_L31
    rw [zg_t (by decide), sp_0, hM6.1.2.1, if_pos (nI_le (Nat.le_refl _) (by omega))]
theorem m_walks2 : ∃ I2 : zI, zl (fun v : (Int32 × zI) => f_X12_walks_L2 v.1 v.2) zF (0, I) = some I2 ∧ (oK I I2 ∧ ∀ x, x < 7272 → I2 18 x = 0) := by
  refine zl_inv (fun k u => u.1 = nI k ∧ oK I u.2 ∧ ∀ x, x < k → u.2 18 x = 0) _ 7272 0 _ ⟨rfl, fun _ _ => rfl, fun x hx => by omega⟩ ?_ ?_ zF (by unfold zF; omega)
  · intro k u _ hk hu
    obtain ⟨x, I6⟩ := u
    obtain ⟨h1, h2, h3⟩ := hu
    replace h1 : x = nI k := h1
    subst h1
    have hkn : k < 7272 := by omega
    show ∃ v', f_X12_walks_L2 (nI k) I6 = some (.inl v') ∧ _
    unfold f_X12_walks_L2
    rw [if_neg (show ¬ (7272 : Int32) ≤ nI k from nI_ge (b := 7272) hkn (by omega)), zg_t (nI_in hkn (by omega)), nI_clamp (by omega), nar_b0, zn_e, nI_1, zn_e]
    refine ⟨_, rfl, rfl, fun j hj => ?_, fun x hx => ?_⟩
    · dsimp only
      rw [up_n hj]; exact h2 j hj
    · dsimp only
      rw [up_s]
      by_cases d : x = k
      · rw [d, ud_s]
      · rw [ud_n d]; exact h3 x (by omega)
  · intro u hu
    obtain ⟨x, I6⟩ := u
    obtain ⟨h1, h2, h3⟩ := hu
    replace h1 : x = nI (0 + 7272) := h1
    subst h1
    exact ⟨I6, if_pos (show (7272 : Int32) ≤ nI 7272 by decide), h2, h3⟩
end WA
/-- what the reference has met -/
def mD (b : zB) (h : Nat) (A : Nat → Nat → Nat → Nat) (p0 l0 w0 : Nat) (I : zI) : Prop := ∀ p l w, inS b p l w → (Rch b h A p0 l0 w0 p l w ↔ ¬ I 18 (clM p l w) = 0)
theorem m_walks (hb : bOk b) {h : Nat} {A : Nat → Nat → Nat → Nat} {I : zI} (hh : h < b 9 2) (hM : rM b I) (hA : ∀ p l w, inS b p l w → canS b l w (A p l w)) (hI : ∀ p l w, inS b p l w → I 15 (clM p l w) = nI (A p l w)) : ∃ I2 : zI, f_X12_walks I J (nI h) = some I2 ∧ oK I I2 ∧ mD b h A 0 (b 3 0) 0 I2 := by
  have h0 := in0 hb
  obtain ⟨I1, a1, a2, a3⟩ := m_walks2 (I := I)
  have hM1 : rM b I1 := hM.eq (fun k _ _ => a2 k (by omega))
  have e1 : f_X12_meets I1 J 0 0 0 = some (if 0 < b 9 1 then mtI I1 (clM 0 (b 3 0) 0) else I1) := m_meets0 (p := 0) (w := 0) hb hM1 (by omega) (by omega)
  rw [if_pos (show 0 < b 9 1 from hb.2.1.1)] at e1
  have o2 : oK I1 (mtI I1 (clM 0 (b 3 0) 0)) := mtI_o
  have hM2 : rM b (mtI I1 (clM 0 (b 3 0) 0)) := hM1.eq (fun k _ _ => o2 k (by omega))
  have w0' : wM b h A 0 (b 3 0) 0 (mtI I1 (clM 0 (b 3 0) 0)) 0 (b 3 0) 101 := by
    refine ⟨by rw [mtI_s]; decide, fun p l w hs hm => ?_, fun p l w hs hm hf => ?_⟩
    · by_cases c : p = 0 ∧ l = b 3 0 ∧ w = 0
      · rw [c.1, c.2.1, c.2.2]; exact ⟨Rch_0, mtI_s⟩
      · rw [mtI_n (clM_ne hb h0 hs c), a3 _ (clM_lt hb hs)] at hm; exact absurd rfl hm
    · by_cases c : p = 0 ∧ l = b 3 0 ∧ w = 0
      · have h1 := hs.2.2.1
        have h2 := hs.2.2.2
        omega
      · rw [mtI_n (clM_ne hb h0 hs c), a3 _ (clM_lt hb hs)] at hm; exact absurd rfl hm
  obtain ⟨I3, s1, s2, s3⟩ := m_walks31 (J := J) hb hh hM2 hA h0 (fun p l w hs => by rw [o2 15 (by omega), a2 15 (by omega)]; exact hI p l w hs) w0'
  unfold f_X12_walks
  rw [a1, zb1_s, e1, zb1_s, s1, zb1_s]
  refine ⟨I3, rfl, (a2.trans o2).trans s2, fun p l w hs => ⟨fun z => ?_, fun z => (s3.2.1 p l w hs z).1⟩⟩
  refine (z (fun p l w => inS b p l w ∧ ¬ I3 18 (clM p l w) = 0) ⟨h0, s3.1⟩ (fun p l w p' l' w' hs hm hc => ⟨suc_in hb hs hc, ?_⟩)).2
  exact s3.2.2 p l w hs hm.2 (Or.inl hs.1) _ _ _ hc
end JM
