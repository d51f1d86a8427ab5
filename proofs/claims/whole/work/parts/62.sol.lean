/-! the best is one: two plans that are best in each state are the same -/
theorem gG_eq {b : zB} {u : zMu} {h : Nat} {V V2 : Nat → Nat → Nat → Int} {p l w a : Nat} (hf : ∀ x, x ≤ 100 → aft b V p x = aft b V2 p x) (hl : ∀ l' x, 1 ≤ l' → l' < l → x ≤ 100 → V p l' x = V2 p l' x) (h0 : a = 48 → V p l 0 = V2 p l 0) (hw : w ≤ 100) : gG b u h V p l w a = gG b u h V2 p l w a := by
  unfold gG
  by_cases c1 : a = 48
  · rw [if_pos c1, if_pos c1, h0 c1]
  · rw [if_neg c1, if_neg c1]
    by_cases c2 : a = 49
    · rw [if_pos c2, if_pos c2, hf w hw]
    · rw [if_neg c2, if_neg c2]
      have e1 : whl b u h V p l w a = whl b u h V2 p l w a := by
        unfold whl
        by_cases d1 : 100 < w + wrs b p (a / 8) (a % 8 + 1) h
        · rw [if_pos d1, if_pos d1]
        · rw [if_neg d1, if_neg d1]
          by_cases d2 : a % 8 + 1 < l
          · rw [if_pos d2, if_pos d2, hl _ _ (by omega) (by omega) (by omega)]
          · rw [if_neg d2, if_neg d2, hf _ (by omega)]
      have e2 : brk b u V p = brk b u V2 p := by
        unfold brk
        rw [hf 0 (by omega)]
      rw [e1, e2]
theorem first_one {G G2 : Nat → Int} {C : Nat → Prop} {a a2 : Nat} {v v2 : Int} (e : ∀ x, C x → G x = G2 x) (c1 : C a) (c2 : C a2) (h1 : v = G a) (h2 : v2 = G2 a2) (m1 : ∀ x, C x → G x ≤ v ∧ (G x = v → a ≤ x)) (m2 : ∀ x, C x → G2 x ≤ v2 ∧ (G2 x = v2 → a2 ≤ x)) : v = v2 ∧ a = a2 := by
  have g1 := e a c1
  have g2 := e a2 c2
  have k1 := m1 a2 c2
  have k2 := m2 a c1
  have hv : v = v2 := by omega
  have q1 := k1.2 (by omega)
  have q2 := k2.2 (by omega)
  exact ⟨hv, by omega⟩
theorem aft_in {b : zB} (hb : bOk b) {p x : Nat} (hp : p + 1 < b 9 1) (hx : x ≤ 100) : inS b (p + 1) (b 3 (p + 1)) x := ⟨hp, (hb.2.2.2.2.2.2.1 _ hp).2.1.1, Nat.le_refl _, hx⟩
theorem solS_uniq {b : zB} {u : zMu} {h : Nat} {A A2 : Nat → Nat → Nat → Nat} {V V2 : Nat → Nat → Nat → Int} (hb : bOk b) (s1 : solS b u h A V) (s2 : solS b u h A2 V2) : ∀ p l w, inS b p l w → V p l w = V2 p l w ∧ A p l w = A2 p l w := by
  have key : ∀ n p, b 9 1 ≤ p + n → ∀ l w, inS b p l w → V p l w = V2 p l w ∧ A p l w = A2 p l w := by
    intro n
    induction n with
    | zero => intro p hp l w hs; exact absurd hs.1 (by omega)
    | succ n ihn =>
      intro p hp
      have hf : p < b 9 1 → ∀ x, x ≤ 100 → aft b V p x = aft b V2 p x := by
        intro hpp x hx
        unfold aft
        by_cases c : p + 1 = b 9 1
        · rw [if_pos c, if_pos c]
        · rw [if_neg c, if_neg c]
          exact (ihn (p + 1) (by omega) _ _ (aft_in hb (by omega) hx)).1
      have byl : ∀ k l, l < k → ∀ w, inS b p l w → V p l w = V2 p l w ∧ A p l w = A2 p l w := by
        intro k
        induction k with
        | zero => intro l hl; exact absurd hl (by omega)
        | succ k ihk =>
          intro l hl
          have hz : ∀ w, inS b p l w → (0 < w → V p l 0 = V2 p l 0) → V p l w = V2 p l w ∧ A p l w = A2 p l w := by
            intro w hs h0
            obtain ⟨c1, d1, m1⟩ := s1 p l w hs
            obtain ⟨c2, d2, m2⟩ := s2 p l w hs
            refine first_one (C := canS b l w) (fun x hx => ?_) c1 c2 d1 d2 m1 m2
            refine gG_eq (hf hs.1) (fun l' x' g1 g2 g3 => (ihk l' (by omega) x' ⟨hs.1, g1, by have := hs.2.2.1; omega, g3⟩).1) (fun ex => h0 ?_) hs.2.2.2
            rcases hx with q | q | q
            · omega
            · exact q.2
            · omega
          intro w hs
          refine hz w hs (fun hw => ?_)
          exact (hz 0 ⟨hs.1, hs.2.1, hs.2.2.1, by omega⟩ (fun q => absurd q (by omega))).1
      intro l w hs
      exact byl (l + 1) l (by omega) w hs
  intro p l w hs
  exact key (b 9 1) p (by omega) l w hs
/-- what comes of what is done is one -/
theorem folS_uniq {b : zB} {u : zMu} {h : Nat} {A A2 : Nat → Nat → Nat → Nat} {V V2 : Nat → Nat → Nat → Int} (hb : bOk b) (hA : ∀ p l w, inS b p l w → A p l w = A2 p l w ∧ (A p l w = 48 → 0 < w)) (s1 : folS b u h A V) (s2 : folS b u h A2 V2) : ∀ p l w, inS b p l w → V p l w = V2 p l w := by
  have key : ∀ n p, b 9 1 ≤ p + n → ∀ l w, inS b p l w → V p l w = V2 p l w := by
    intro n
    induction n with
    | zero => intro p hp l w hs; exact absurd hs.1 (by omega)
    | succ n ihn =>
      intro p hp
      have hf : p < b 9 1 → ∀ x, x ≤ 100 → aft b V p x = aft b V2 p x := by
        intro hpp x hx
        unfold aft
        by_cases c : p + 1 = b 9 1
        · rw [if_pos c, if_pos c]
        · rw [if_neg c, if_neg c]
          exact ihn (p + 1) (by omega) _ _ (aft_in hb (by omega) hx)
      have byl : ∀ k l, l < k → ∀ w, inS b p l w → V p l w = V2 p l w := by
        intro k
        induction k with
        | zero => intro l hl; exact absurd hl (by omega)
        | succ k ihk =>
          intro l hl
          have hz : ∀ w, inS b p l w → (0 < w → V p l 0 = V2 p l 0) → V p l w = V2 p l w := by
            intro w hs h0
            rw [s1 p l w hs, s2 p l w hs, ← (hA p l w hs).1]
            exact gG_eq (hf hs.1) (fun l' x' g1 g2 g3 => ihk l' (by omega) x' ⟨hs.1, g1, by have := hs.2.2.1; omega, g3⟩) (fun ex => h0 ((hA p l w hs).2 ex)) hs.2.2.2
          intro w hs
          refine hz w hs (fun hw => ?_)
          exact hz 0 ⟨hs.1, hs.2.1, hs.2.2.1, by omega⟩ (fun q => absurd q (by omega))
      intro l w hs
      exact byl (l + 1) l (by omega) w hs
  intro p l w hs
  exact key (b 9 1) p (by omega) l w hs
