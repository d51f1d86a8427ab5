/-! the best exists, and is bounded -/
def bst (G : Nat → Int) (C : Nat → Bool) : Nat → Option (Int × Nat)
  | 0 => none
  | n + 1 => if C n = true then some (match bst G C n with
    | none => (G n, n)
    | some q => if q.1 < G n then (G n, n) else q) else bst G C n
theorem bst_f {G : Nat → Int} {C : Nat → Bool} {n : Nat} (h : ¬ C n = true) : bst G C (n + 1) = bst G C n := by rw [bst, if_neg h]
theorem bst_t {G : Nat → Int} {C : Nat → Bool} {n : Nat} (h : C n = true) : bst G C (n + 1) = some (match bst G C n with
    | none => (G n, n)
    | some q => if q.1 < G n then (G n, n) else q) := by rw [bst, if_pos h]
theorem bst_congr {G G2 : Nat → Int} {C : Nat → Bool} : ∀ n, (∀ x, x < n → C x = true → G x = G2 x) → bst G C n = bst G2 C n := by
  intro n
  induction n with
  | zero => intro _; rfl
  | succ n ih =>
    intro h
    have h2 := ih (fun x hx => h x (by omega))
    by_cases c : C n = true
    · rw [bst_t c, bst_t c, h2, h n (by omega) c]
    · rw [bst_f c, bst_f c, h2]
theorem bst_no {G : Nat → Int} {C : Nat → Bool} : ∀ n, bst G C n = none → ∀ x, x < n → ¬ C x = true := by
  intro n
  induction n with
  | zero => intro _ x hx; omega
  | succ n ih =>
    intro h x hx
    by_cases c : C n = true
    · rw [bst_t c] at h; cases h
    · rw [bst_f c] at h
      by_cases d : x = n
      · rw [d]; exact c
      · exact ih h x (by omega)
theorem bst_ok {G : Nat → Int} {C : Nat → Bool} : ∀ n q, bst G C n = some q → C q.2 = true ∧ q.2 < n ∧ q.1 = G q.2 ∧ ∀ x, x < n → C x = true → G x ≤ q.1 ∧ (G x = q.1 → q.2 ≤ x) := by
  intro n
  induction n with
  | zero => intro q h; cases h
  | succ n ih =>
    intro q h
    by_cases c : C n = true
    case neg =>
      rw [bst_f c] at h
      obtain ⟨h1, h2, h3, h4⟩ := ih q h
      refine ⟨h1, by omega, h3, fun x hx hc => ?_⟩
      by_cases d : x = n
      · rw [d] at hc; exact absurd hc c
      · exact h4 x (by omega) hc
    rw [bst_t c] at h
    have h := Option.some.inj h
    cases g : bst G C n with
    | none =>
      rw [g] at h
      have h : (G n, n) = q := h
      subst h
      refine ⟨c, by simp, rfl, fun x hx hc => ?_⟩
      by_cases d : x = n
      · rw [d]; exact ⟨Int.le_refl _, fun _ => Nat.le_refl _⟩
      · exact absurd hc (bst_no n g x (by omega))
    | some r =>
      rw [g] at h
      have h : (if r.1 < G n then (G n, n) else r) = q := h
      obtain ⟨h1, h2, h3, h4⟩ := ih r g
      by_cases e : r.1 < G n
      · rw [if_pos e] at h
        subst h
        refine ⟨c, by simp, rfl, fun x hx hc => ?_⟩
        by_cases d : x = n
        · rw [d]; exact ⟨Int.le_refl _, fun _ => Nat.le_refl _⟩
        · have := (h4 x (by omega) hc).1
          show G x ≤ G n ∧ (G x = G n → n ≤ x)
          exact ⟨by omega, fun z => by omega⟩
      · rw [if_neg e] at h
        subst h
        refine ⟨h1, by omega, h3, fun x hx hc => ?_⟩
        by_cases d : x = n
        · rw [d]; exact ⟨by omega, fun z => by omega⟩
        · exact h4 x (by omega) hc
theorem bst_is {G : Nat → Int} {C : Nat → Bool} {n a : Nat} {v : Int} (ha : a < n) (hc : C a = true) (hv : v = G a) (hm : ∀ x, C x = true → G x ≤ v ∧ (G x = v → a ≤ x)) : bst G C n = some (v, a) := by
  cases g : bst G C n with
  | none => exact absurd hc (bst_no n g a ha)
  | some q =>
    obtain ⟨h1, h2, h3, h4⟩ := bst_ok n q g
    obtain ⟨e1, e2⟩ := first_one (G := G) (G2 := G) (C := fun x => x < n ∧ C x = true) (fun _ _ => rfl) ⟨h2, h1⟩ ⟨ha, hc⟩ h3 hv (fun x hx => h4 x hx.1 hx.2) (fun x hx => hm x hx.2)
    rw [← e1, ← e2]
def canB (b : zB) (l w a : Nat) : Bool := decide (a = 49 ∨ (a = 48 ∧ 0 < w) ∨ (a < 48 ∧ a / 8 < b 9 0 ∧ a % 8 < l ∧ (a % 8 + 1 ≤ b 9 6 ∧ b 0 (a / 8) * (a % 8 + 1) ≤ b 9 7)))
theorem canB_e {b : zB} {l w a : Nat} : canB b l w a = true ↔ canS b l w a := by unfold canB; rw [decide_eq_true_iff]; exact Iff.rfl
theorem canS_lt {b : zB} {l w a : Nat} (h : canS b l w a) : a < 50 := by rcases h with h | h | h <;> omega
theorem canB_49 {b : zB} {l w : Nat} : canB b l w 49 = true := canB_e.2 (Or.inl rfl)
def VS (b : zB) (u : zMu) (h : Nat) : Nat → Nat → Nat → Nat → Int × Nat
  | 0, _, _, _ => (0, 49)
  | n + 1, p, l, w => match bst (gG b u h (fun p l w => (VS b u h n p l w).1) p l w) (canB b l w) 50 with
    | none => (0, 49)
    | some q => q
def rk (b : zB) (p l w : Nat) : Nat := ((b 9 1 - p) * 9 + l) * 2 + (if w = 0 then 0 else 1)
theorem VS_congr {b : zB} {u : zMu} {h : Nat} (hb : bOk b) : ∀ n m p l w, inS b p l w → rk b p l w < n → rk b p l w < m → VS b u h n p l w = VS b u h m p l w := by
  intro n
  induction n with
  | zero => intro m p l w _ h1; omega
  | succ n ih =>
    intro m p l w hs h1 h2
    obtain ⟨m, rfl⟩ : ∃ m', m = m' + 1 := ⟨m - 1, by omega⟩
    have e : bst (gG b u h (fun p l w => (VS b u h n p l w).1) p l w) (canB b l w) 50 = bst (gG b u h (fun p l w => (VS b u h m p l w).1) p l w) (canB b l w) 50 := by
      refine bst_congr 50 (fun a _ ha => ?_)
      have hs2 := hs
      obtain ⟨k1, k2, k3, k4⟩ := hs
      have hd := (hb.2.2.2.2.2.2.1 p k1).2.1
      refine gG_eq (fun x hx => ?_) (fun l' x g1 g2 g3 => ?_) (fun ex => ?_) k4
      · unfold aft
        by_cases c : p + 1 = b 9 1
        · rw [if_pos c, if_pos c]
        · rw [if_neg c, if_neg c]
          have hd2 := (hb.2.2.2.2.2.2.1 (p + 1) (by omega)).2.1
          have hr : rk b (p + 1) (b 3 (p + 1)) x < rk b p l w := by unfold rk; split <;> split <;> omega
          show (VS b u h n (p + 1) (b 3 (p + 1)) x).1 = (VS b u h m (p + 1) (b 3 (p + 1)) x).1
          rw [ih m (p + 1) (b 3 (p + 1)) x (aft_in hb (by omega) hx) (by omega) (by omega)]
      · have hr : rk b p l' x < rk b p l w := by unfold rk; split <;> split <;> omega
        show (VS b u h n p l' x).1 = (VS b u h m p l' x).1
        rw [ih m p l' x ⟨k1, g1, by omega, g3⟩ (by omega) (by omega)]
      · rcases canB_e.1 ha with q | q | q
        · omega
        · have hw := q.2
          have hr : rk b p l 0 < rk b p l w := by unfold rk; rw [if_pos rfl, if_neg (by omega)]; omega
          show (VS b u h n p l 0).1 = (VS b u h m p l 0).1
          rw [ih m p l 0 ⟨k1, k2, k3, by omega⟩ (by omega) (by omega)]
        · omega
    rw [VS, VS, e]
theorem sol_ex {b : zB} (u : zMu) (h : Nat) (hb : bOk b) : ∃ (A : Nat → Nat → Nat → Nat) (V : Nat → Nat → Nat → Int), solS b u h A V := by
  refine ⟨fun p l w => (VS b u h 301 p l w).2, fun p l w => (VS b u h 301 p l w).1, ?_⟩
  intro p l w hs
  have h8 := bP hb
  have hrk : ∀ p l w, inS b p l w → rk b p l w < 300 := by
    intro p l w hs
    obtain ⟨k1, k2, k3, k4⟩ := hs
    have hd := (hb.2.2.2.2.2.2.1 p k1).2.1
    unfold rk
    split <;> omega
  have hv : VS b u h 301 p l w = match bst (gG b u h (fun p l w => (VS b u h 300 p l w).1) p l w) (canB b l w) 50 with
    | none => (0, 49)
    | some q => q := rfl
  have e : ∀ a, canS b l w a → gG b u h (fun p l w => (VS b u h 300 p l w).1) p l w a = gG b u h (fun p l w => (VS b u h 301 p l w).1) p l w a := by
    intro a ha
    obtain ⟨k1, k2, k3, k4⟩ := hs
    refine gG_eq (fun x hx => ?_) (fun l' x g1 g2 g3 => ?_) (fun ex => ?_) k4
    · unfold aft
      by_cases c : p + 1 = b 9 1
      · rw [if_pos c, if_pos c]
      · rw [if_neg c, if_neg c]
        have hi := aft_in hb (show p + 1 < b 9 1 by omega) hx
        have := hrk _ _ _ hi
        show (VS b u h 300 (p + 1) (b 3 (p + 1)) x).1 = (VS b u h 301 (p + 1) (b 3 (p + 1)) x).1
        rw [VS_congr hb 300 301 _ _ _ hi (by omega) (by omega)]
    · have hi : inS b p l' x := ⟨k1, g1, by omega, g3⟩
      have := hrk _ _ _ hi
      show (VS b u h 300 p l' x).1 = (VS b u h 301 p l' x).1
      rw [VS_congr hb 300 301 _ _ _ hi (by omega) (by omega)]
    · have hi : inS b p l 0 := ⟨k1, k2, k3, by omega⟩
      have := hrk _ _ _ hi
      show (VS b u h 300 p l 0).1 = (VS b u h 301 p l 0).1
      rw [VS_congr hb 300 301 _ _ _ hi (by omega) (by omega)]
  cases g : bst (gG b u h (fun p l w => (VS b u h 300 p l w).1) p l w) (canB b l w) 50 with
  | none => exact absurd canB_49 (bst_no 50 g 49 (by omega))
  | some q =>
    rw [g] at hv
    have hv : VS b u h 301 p l w = q := hv
    obtain ⟨h1, h2, h3, h4⟩ := bst_ok 50 q g
    show canS b l w (VS b u h 301 p l w).2 ∧ (VS b u h 301 p l w).1 = _ ∧ _
    rw [hv]
    have hq := canB_e.1 h1
    refine ⟨hq, ?_, fun a ha => ?_⟩
    · rw [h3]
      show _ = gG b u h (fun p l w => (VS b u h 301 p l w).1) p l w (VS b u h 301 p l w).2
      rw [hv]; exact e _ hq
    · have h5 := h4 a (canS_lt ha) (canB_e.2 ha)
      rw [e a ha] at h5
      show gG b u h (fun p l w => (VS b u h 301 p l w).1) p l w a ≤ (VS b u h 301 p l w).1 ∧ (gG b u h (fun p l w => (VS b u h 301 p l w).1) p l w a = (VS b u h 301 p l w).1 → (VS b u h 301 p l w).2 ≤ a)
      rw [hv]
      exact h5
theorem t100 (z : Int) : (0 ≤ z → z.tdiv 100 = z / 100) ∧ (z < 0 → z.tdiv 100 = -((-z) / 100)) := by
  refine ⟨fun h => Int.tdiv_eq_ediv_of_nonneg h, fun h => ?_⟩
  rw [← Int.tdiv_eq_ediv_of_nonneg (show 0 ≤ -z by omega), Int.neg_tdiv, Int.neg_neg]
theorem mean_z {x y r B : Int} (h0 : 0 ≤ r) (h1 : r ≤ 100) (hx : -B ≤ x ∧ x ≤ B) (hy : -B ≤ y ∧ y ≤ B) : -(100 * B) ≤ (100 - r) * x + r * y ∧ (100 - r) * x + r * y ≤ 100 * B := by
  have a1 := Int.mul_le_mul_of_nonneg_left hx.1 (show 0 ≤ 100 - r by omega)
  have a2 := Int.mul_le_mul_of_nonneg_left hx.2 (show 0 ≤ 100 - r by omega)
  have a3 := Int.mul_le_mul_of_nonneg_left hy.1 h0
  have a4 := Int.mul_le_mul_of_nonneg_left hy.2 h0
  rw [Int.mul_neg, Int.sub_mul] at a1
  rw [Int.sub_mul 100 r B] at a2
  rw [Int.mul_neg] at a3
  omega
theorem mean_b {x y r B : Int} (h0 : 0 ≤ r) (h1 : r ≤ 100) (hx : -B ≤ x ∧ x ≤ B) (hy : -B ≤ y ∧ y ≤ B) : -B ≤ ((100 - r) * x + r * y).tdiv 100 ∧ ((100 - r) * x + r * y).tdiv 100 ≤ B := by
  obtain ⟨z1, z2⟩ := mean_z h0 h1 hx hy
  generalize (100 - r) * x + r * y = z at z1 z2
  have t := t100 z
  by_cases c : 0 ≤ z
  · rw [t.1 c]; omega
  · rw [t.2 (by omega)]; omega
/-- the measure's numbers are small -/
def uOk (u : zMu) : Prop := (-999 ≤ u.1 ∧ u.1 ≤ 999) ∧ (-10484100 ≤ u.2.1 ∧ u.2.1 ≤ 10484100) ∧ u.2.2.1 ≤ 1000000 ∧ -1000000 ≤ u.2.2.2 ∧ u.2.2.2 ≤ 1000000
theorem rsk_le {b : zB} (hb : bOk b) {p w i d h : Nat} (hw : w ≤ 100) : rsk b p w i d h ≤ 100 := by
  have := hb.2.2.2.2.2.2.2.2 w hw
  unfold rsk
  split <;> omega
theorem dn_b {b : zB} {u : zMu} (hb : bOk b) (hu : uOk u) {p : Nat} (hp : p < b 9 1) : -1000000 ≤ dnS b u p ∧ dnS b u p ≤ 6000000 := by
  have h1 := (hb.2.2.2.2.2.2.1 p hp).2.2.2
  obtain ⟨-, -, u3, -⟩ := hu
  unfold dnS
  by_cases c : u.2.2.1 < 0
  · rw [if_pos c]; omega
  · rw [if_neg c]; omega
theorem minu_b {b : zB} {u : zMu} (hb : bOk b) (hu : uOk u) {p i : Nat} (hp : p < b 9 1) (hi : i < b 9 0) : -9990000 ≤ u.1 * (mins b p i : Int) ∧ u.1 * (mins b p i : Int) ≤ 9990000 := by
  have h1 := (mins_le hb hp hi).2
  obtain ⟨u1, -⟩ := hu
  have h2 : (mins b p i : Int) ≤ 10000 := by omega
  have h3 : (0 : Int) ≤ (mins b p i : Int) := by omega
  generalize (mins b p i : Int) = m at h2 h3
  have a1 := Int.mul_le_mul_of_nonneg_right u1.1 h3
  have a2 := Int.mul_le_mul_of_nonneg_right u1.2 h3
  omega
def vbd (b : zB) (p l w : Nat) : Int := 30000000 * (18 * ((b 9 1 : Int) - p - 1) + 2 * l + (if w = 0 then 0 else 1))
theorem fol_bd {b : zB} {u : zMu} {h : Nat} {A : Nat → Nat → Nat → Nat} {V : Nat → Nat → Nat → Int} (hb : bOk b) (hu : uOk u) (hA : ∀ p l w, inS b p l w → canS b l w (A p l w)) (s : folS b u h A V) : ∀ n p l w, inS b p l w → rk b p l w < n → -(vbd b p l w) ≤ V p l w ∧ V p l w ≤ vbd b p l w := by
  intro n
  induction n with
  | zero => intro p l w _ h1; omega
  | succ n ih =>
    intro p l w hs hn
    have hs0 := hs
    obtain ⟨k1, k2, k3, k4⟩ := hs
    have hd := (hb.2.2.2.2.2.2.1 p k1).2.1
    have hk1 : (p : Int) + 1 ≤ b 9 1 := by omega
    have hk2 : (1 : Int) ≤ l := by omega
    obtain ⟨u1, u2, u3, u4⟩ := id hu
    have hf : ∀ x, x ≤ 100 → -(30000000 * (18 * ((b 9 1 : Int) - p - 1) - 1)) ≤ aft b V p x + (if p + 1 = b 9 1 then 30000000 else 0) ∧ aft b V p x ≤ 30000000 * (18 * ((b 9 1 : Int) - p - 1) - 1) + (if p + 1 = b 9 1 then 30000000 else 0) := by
      intro x hx
      unfold aft
      by_cases c : p + 1 = b 9 1
      · rw [if_pos c, if_pos c]; omega
      · rw [if_neg c, if_neg c]
        have hd2 := (hb.2.2.2.2.2.2.1 (p + 1) (by omega)).2.1
        have hr : rk b (p + 1) (b 3 (p + 1)) x < rk b p l w := by unfold rk; split <;> split <;> omega
        have q := ih _ _ _ (aft_in hb (show p + 1 < b 9 1 by omega) hx) (by omega)
        unfold vbd at q
        have e : ((p + 1 : Nat) : Int) = (p : Int) + 1 := by omega
        rw [e] at q
        split at q <;> omega
    have hg : ∀ x, x ≤ 100 → -(30000000 * (18 * ((b 9 1 : Int) - p - 1))) ≤ aft b V p x ∧ aft b V p x ≤ 30000000 * (18 * ((b 9 1 : Int) - p - 1)) := by
      intro x hx
      have q := hf x hx
      by_cases c : p + 1 = b 9 1
      · rw [if_pos c] at q
        have e : aft b V p x = 0 := by unfold aft; rw [if_pos c]
        rw [e]; omega
      · rw [if_neg c] at q; omega
    rw [s p l w hs0]
    unfold gG
    have hc := hA p l w hs0
    generalize A p l w = a at hc
    rcases hc with q | q | q
    · rw [if_neg (by omega), if_pos q]
      have := hg w k4
      unfold vbd
      split <;> omega
    · rw [if_pos q.1]
      have hr : rk b p l 0 < rk b p l w := by unfold rk; rw [if_pos rfl, if_neg (by omega)]; omega
      have q2 := ih p l 0 ⟨k1, k2, k3, by omega⟩ (by omega)
      unfold vbd at q2 ⊢
      rw [if_pos rfl] at q2
      rw [if_neg (by omega)]
      omega
    · rw [if_neg (by omega), if_neg (by omega)]
      have hmi := minu_b hb hu k1 q.2.1
      have hr0 := rsk_le hb (p := p) (i := a / 8) (d := a % 8 + 1) (h := h) k4
      have hdn := dn_b hb hu k1
      have hB : -(30000000 * (18 * ((b 9 1 : Int) - p - 1) + 2 * l) - 9990000) ≤ whl b u h V p l w a ∧ whl b u h V p l w a ≤ 30000000 * (18 * ((b 9 1 : Int) - p - 1) + 2 * l) - 9990000 := by
        unfold whl
        by_cases c1 : 100 < w + wrs b p (a / 8) (a % 8 + 1) h
        · rw [if_pos c1]; omega
        · rw [if_neg c1]
          by_cases c2 : a % 8 + 1 < l
          · rw [if_pos c2]
            have hr : rk b p (l - (a % 8 + 1)) (w + wrs b p (a / 8) (a % 8 + 1) h) < rk b p l w := by unfold rk; split <;> split <;> omega
            have q2 := ih p (l - (a % 8 + 1)) (w + wrs b p (a / 8) (a % 8 + 1) h) ⟨k1, by omega, by omega, by omega⟩ (by omega)
            unfold vbd at q2
            have e : ((l - (a % 8 + 1) : Nat) : Int) + 1 ≤ (l : Int) := by omega
            split at q2 <;> omega
          · rw [if_neg c2]
            have := hg (w + wrs b p (a / 8) (a % 8 + 1) h) (by omega)
            by_cases c3 : b 4 p < w
            · rw [if_pos c3]; omega
            · rw [if_neg c3]; omega
      have hC : -(30000000 * (18 * ((b 9 1 : Int) - p - 1) + 2 * l) - 9990000) ≤ brk b u V p ∧ brk b u V p ≤ 30000000 * (18 * ((b 9 1 : Int) - p - 1) + 2 * l) - 9990000 := by
        unfold brk
        have := hg 0 (by omega)
        omega
      have hm := mean_b (r := (rsk b p w (a / 8) (a % 8 + 1) h : Int)) (by omega) (by omega) hB hC
      unfold vbd
      split <;> omega
theorem fol_bd2 {b : zB} {u : zMu} {h : Nat} {A : Nat → Nat → Nat → Nat} {V : Nat → Nat → Nat → Int} (hb : bOk b) (hu : uOk u) (hA : ∀ p l w, inS b p l w → canS b l w (A p l w)) (s : folS b u h A V) : ∀ p l w, inS b p l w → -1099511627776 ≤ V p l w ∧ V p l w ≤ 1099511627776 := by
  intro p l w hs
  have q := fol_bd hb hu hA s _ p l w hs (Nat.lt_succ_self _)
  have h8 := bP hb
  have hd := (hb.2.2.2.2.2.2.1 p hs.1).2.1
  have := hs.2.2.1
  unfold vbd at q
  split at q <;> omega
theorem solS.fol {b : zB} {u : zMu} {h : Nat} {A : Nat → Nat → Nat → Nat} {V : Nat → Nat → Nat → Int} (s : solS b u h A V) : folS b u h A V := fun p l w hs => (s p l w hs).2.1
theorem sol_bd {b : zB} {u : zMu} {h : Nat} {A : Nat → Nat → Nat → Nat} {V : Nat → Nat → Nat → Int} (hb : bOk b) (hu : uOk u) (s : solS b u h A V) : ∀ p l w, inS b p l w → -1099511627776 ≤ V p l w ∧ V p l w ≤ 1099511627776 := fol_bd2 hb hu (fun p l w hs => (s p l w hs).1) s.fol
