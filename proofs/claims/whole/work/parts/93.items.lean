/-! the text's items, read by both -/
theorem zl_inv2 {V E : Type} {b : V → Option (V ⊕ E)} (P : Nat → V → Prop) (Q : E → Prop) : ∀ (k i : Nat) (v : V), P i v → (∀ j v, i ≤ j → j < i + k → P j v → (∃ v', b v = some (.inl v') ∧ P (j + 1) v') ∨ ∃ e, b v = some (.inr e) ∧ Q e) → (∀ v, P (i + k) v → ∃ e, b v = some (.inr e) ∧ Q e) → ∀ n, k < n → ∃ e, zl b n v = some e ∧ Q e := by
  intro k
  induction k with
  | zero =>
    intro i v hP hs he n hn
    obtain ⟨e, h1, h2⟩ := he v hP
    obtain ⟨m, rfl⟩ : ∃ m, n = m + 1 := ⟨n - 1, by omega⟩
    exact ⟨e, zl_r h1, h2⟩
  | succ k ih =>
    intro i v hP hs he n hn
    obtain ⟨m, rfl⟩ : ∃ m, n = m + 1 := ⟨n - 1, by omega⟩
    rcases hs i v (by omega) (by omega) hP with ⟨v', h1, h2⟩ | ⟨e, h1, h2⟩
    · rw [zl_l h1]
      refine ih (i + 1) v' h2 (fun j w h3 h4 => hs j w (by omega) (by omega)) (fun w hw => he w ?_) m (by omega)
      rw [show i + (k + 1) = i + 1 + k by omega]; exact hw
    · exact ⟨e, zl_r h1, h2⟩
def upN (f : Nat → Nat) (i v : Nat) : Nat → Nat := fun j => if j = i then v else f j
theorem upN_s {f : Nat → Nat} {i v : Nat} : upN f i v i = v := if_pos rfl
theorem upN_n {f : Nat → Nat} {i j v : Nat} (h : j ≠ i) : upN f i v j = f j := if_neg h
/-- the class's way: a number, then its sign -/
def rdS (B : Nat → Nat) (m q0 : Nat) : Nat → Option (Nat × (Nat → Nat))
  | 0 => some (q0, fun _ => 0)
  | i + 1 => match rdS B m q0 i with
    | none => none
    | some s => match num B s.1 with
      | none => none
      | some w => if B (s.1 + w.2) = (if i + 1 < m then 44 else 59) then some (s.1 + w.2 + 1, upN s.2 i w.1) else none
/-- the reference's way: the sign ahead, then a number -/
def rdR (B : Nat → Nat) (q0 : Nat) : Nat → Option (Nat × (Nat → Nat))
  | 0 => some (q0, fun _ => 0)
  | k + 1 => match rdR B q0 k with
    | none => none
    | some s => if k = 0 ∨ B s.1 = 44 then (match num B (if k = 0 then s.1 else s.1 + 1) with
      | none => none
      | some w => some ((if k = 0 then s.1 else s.1 + 1) + w.2, upN s.2 k w.1)) else none
section RD
variable {B : Nat → Nat} {m q0 : Nat}
theorem rdS_n0 {i : Nat} (h : rdS B m q0 i = none) : rdS B m q0 (i + 1) = none := by
  show (match rdS B m q0 i with | none => none | some s => _) = _
  rw [h]
theorem rdS_n1 {i : Nat} {s : Nat × (Nat → Nat)} (h : rdS B m q0 i = some s) (g : num B s.1 = none) : rdS B m q0 (i + 1) = none := by
  show (match rdS B m q0 i with | none => none | some s => match num B s.1 with | none => none | some w => _) = _
  rw [h]
  show (match num B s.1 with | none => none | some w => _) = _
  rw [g]
theorem rdS_s {i : Nat} {s : Nat × (Nat → Nat)} {w : Nat × Nat} (h : rdS B m q0 i = some s) (g : num B s.1 = some w) : rdS B m q0 (i + 1) = if B (s.1 + w.2) = (if i + 1 < m then 44 else 59) then some (s.1 + w.2 + 1, upN s.2 i w.1) else none := by
  show (match rdS B m q0 i with | none => none | some s => match num B s.1 with | none => none | some w => _) = _
  rw [h]
  show (match num B s.1 with | none => none | some w => _) = _
  rw [g]
theorem rdS_none {i k : Nat} (h : rdS B m q0 i = none) (hk : i ≤ k) : rdS B m q0 k = none := by
  obtain ⟨d, rfl⟩ : ∃ d, k = i + d := ⟨k - i, by omega⟩
  clear hk
  induction d with
  | zero => exact h
  | succ d ih => exact rdS_n0 ih
theorem rdR_n0 {i : Nat} (h : rdR B q0 i = none) : rdR B q0 (i + 1) = none := by
  show (match rdR B q0 i with | none => none | some s => _) = _
  rw [h]
theorem rdR_s {i : Nat} {s : Nat × (Nat → Nat)} (h : rdR B q0 i = some s) : rdR B q0 (i + 1) = if i = 0 ∨ B s.1 = 44 then (match num B (if i = 0 then s.1 else s.1 + 1) with
      | none => none
      | some w => some ((if i = 0 then s.1 else s.1 + 1) + w.2, upN s.2 i w.1)) else none := by
  show (match rdR B q0 i with | none => none | some s => _) = _
  rw [h]
theorem rdR_s1 {i : Nat} {s : Nat × (Nat → Nat)} (h : rdR B q0 i = some s) (g : ¬ (i = 0 ∨ B s.1 = 44)) : rdR B q0 (i + 1) = none := by rw [rdR_s h, if_neg g]
theorem rdR_s2 {i : Nat} {s : Nat × (Nat → Nat)} (h : rdR B q0 i = some s) (g : i = 0 ∨ B s.1 = 44) (e : num B (if i = 0 then s.1 else s.1 + 1) = none) : rdR B q0 (i + 1) = none := by rw [rdR_s h, if_pos g, e]
theorem rdR_s3 {i : Nat} {s : Nat × (Nat → Nat)} {w : Nat × Nat} (h : rdR B q0 i = some s) (g : i = 0 ∨ B s.1 = 44) (e : num B (if i = 0 then s.1 else s.1 + 1) = some w) : rdR B q0 (i + 1) = some ((if i = 0 then s.1 else s.1 + 1) + w.2, upN s.2 i w.1) := by rw [rdR_s h, if_pos g, e]
theorem rdR_none {i k : Nat} (h : rdR B q0 i = none) (hk : i ≤ k) : rdR B q0 k = none := by
  obtain ⟨d, rfl⟩ : ∃ d, k = i + d := ⟨k - i, by omega⟩
  clear hk
  induction d with
  | zero => exact h
  | succ d ih => exact rdR_n0 ih
/-- the reference's place behind i numbers, and the class's behind their sign -/
theorem rd_eq : ∀ i, 1 ≤ i → i ≤ m → (rdR B q0 i = none ∧ rdS B m q0 i = none) ∨ ∃ s, rdR B q0 i = some s ∧ rdS B m q0 i = if B s.1 = (if i < m then 44 else 59) then some (s.1 + 1, s.2) else none := by
  intro i
  induction i with
  | zero => intro h; omega
  | succ i ih =>
    intro _ hm
    by_cases c : i = 0
    · subst c
      have h0 : rdR B q0 0 = some (q0, fun _ => 0) := rfl
      have g0 : rdS B m q0 0 = some (q0, fun _ => 0) := rfl
      cases e : num B q0 with
      | none => exact Or.inl ⟨rdR_s2 h0 (Or.inl rfl) (by rw [if_pos rfl]; exact e), rdS_n1 g0 e⟩
      | some w =>
        have q1 := rdR_s3 (w := w) h0 (Or.inl rfl) (by rw [if_pos rfl]; exact e)
        rw [if_pos rfl] at q1
        exact Or.inr ⟨_, q1, rdS_s g0 e⟩
    · rcases ih (by omega) (by omega) with ⟨h1, h2⟩ | ⟨s, h1, h2⟩
      · exact Or.inl ⟨rdR_n0 h1, rdS_n0 h2⟩
      · rw [if_pos (show i < m by omega)] at h2
        by_cases d : B s.1 = 44
        · rw [if_pos d] at h2
          cases e : num B (s.1 + 1) with
          | none => exact Or.inl ⟨rdR_s2 h1 (Or.inr d) (by rw [if_neg c]; exact e), rdS_n1 h2 e⟩
          | some w =>
            have q1 := rdR_s3 (w := w) h1 (Or.inr d) (by rw [if_neg c]; exact e)
            rw [if_neg c] at q1
            exact Or.inr ⟨_, q1, rdS_s h2 e⟩
        · rw [if_neg d] at h2
          exact Or.inl ⟨rdR_s1 h1 (by omega), rdS_n0 h2⟩
/-- i numbers read, each within its bounds -/
def gdR (B : Nat → Nat) (q0 : Nat) (lo hi : Nat → Nat) (i : Nat) : Prop := ∃ s, rdR B q0 i = some s ∧ ∀ j, j < i → lo j ≤ s.2 j ∧ s.2 j ≤ hi j
theorem gdR_pred {lo hi : Nat → Nat} {i : Nat} (h : gdR B q0 lo hi (i + 1)) : gdR B q0 lo hi i := by
  obtain ⟨s, h1, h2⟩ := h
  cases e : rdR B q0 i with
  | none => rw [rdR_n0 e] at h1; cases h1
  | some s0 =>
    refine ⟨s0, e, fun j hj => ?_⟩
    by_cases g : i = 0 ∨ B s0.1 = 44
    · cases f : num B (if i = 0 then s0.1 else s0.1 + 1) with
      | none => rw [rdR_s2 e g f] at h1; cases h1
      | some w =>
        rw [rdR_s3 e g f] at h1
        have h1 := Option.some.inj h1
        have q := h2 j (by omega)
        rw [← h1] at q
        have q2 : lo j ≤ upN s0.2 i w.1 j ∧ upN s0.2 i w.1 j ≤ hi j := q
        rw [upN_n (by omega)] at q2
        exact q2
    · rw [rdR_s1 e g] at h1; cases h1
theorem gdR_mono {lo hi : Nat → Nat} {i k : Nat} (h : gdR B q0 lo hi k) (hk : i ≤ k) : gdR B q0 lo hi i := by
  obtain ⟨d, rfl⟩ : ∃ d, k = i + d := ⟨k - i, by omega⟩
  clear hk
  induction d with
  | zero => exact h
  | succ d ih => exact ih (gdR_pred h)
end RD
section TI
variable {B : Nat → Nat} {n : Nat} {J : zJ}
theorem x_readNumbers (hB : tBt B n) {I : zI} {q m : Nat} (hC : tCt B n I) (h3 : I 1 3 = nI q) (hq : q < n) (hm : m ≤ 4) : (∃ (e : Nat) (f : Nat → Nat) (I2 : zI), 1 ≤ m ∧ rdS B m (q + 1) m = some (e, f) ∧ f_X8_readNumbers I J (nI m) = some (1, I2) ∧ I2 1 3 = nI e ∧ e ≤ n ∧ q + 1 + 2 * m ≤ e ∧ (∀ j, j < m → I2 3 j = nI (f j) ∧ f j < 10000) ∧ oA I I2) ∨ ((m = 0 ∨ rdS B m (q + 1) m = none) ∧ ∃ I2 : zI, f_X8_readNumbers I J (nI m) = some (0, I2) ∧ oA I I2) := by
  have hn := hB.1
  have o1 : oA I (va_up I 1 (va_up (I 1) 3 (nI (q + 1)))) := ⟨fun r h1 h2 => up_n h1, fun j hj => by rw [up_s, up_n hj]⟩
  unfold f_X8_readNumbers
  rw [h3, nI_1, zn_e]
  by_cases m0 : m = 0
  · subst m0
    have e0 : zl (fun v : (Int32 × zI) => f_X8_readNumbers_L12 (nI 0) J v.1 v.2) zF (0, va_up I 1 (va_up (I 1) 3 (nI (q + 1)))) = some (.inl (va_up I 1 (va_up (I 1) 3 (nI (q + 1))))) := by
      obtain ⟨z, hz⟩ : ∃ z, zF = z + 1 := ⟨9999999, rfl⟩
      rw [hz]
      exact zl_r (if_pos (show nI 0 ≤ 0 by decide))
    refine Or.inr ⟨Or.inl rfl, _, ?_, o1⟩
    rw [e0, zc1_l, if_pos (show nI 0 ≤ 0 by decide)]
  have run : ∃ e, zl (fun v : (Int32 × zI) => f_X8_readNumbers_L12 (nI m) J v.1 v.2) zF (0, va_up I 1 (va_up (I 1) 3 (nI (q + 1)))) = some e ∧ ((∃ (I2 : zI) (s : Nat × (Nat → Nat)), e = .inl I2 ∧ rdS B m (q + 1) m = some s ∧ I2 1 3 = nI s.1 ∧ s.1 ≤ n ∧ q + 1 + 2 * m ≤ s.1 ∧ (∀ j, j < m → I2 3 j = nI (s.2 j) ∧ s.2 j < 10000) ∧ oA I I2) ∨ ∃ I2 : zI, e = .inr (0, I2) ∧ rdS B m (q + 1) m = none ∧ oA I I2) := by
    refine zl_inv2 (fun i v => v.1 = nI i ∧ ∃ s : Nat × (Nat → Nat), rdS B m (q + 1) i = some s ∧ v.2 1 3 = nI s.1 ∧ s.1 ≤ n ∧ q + 1 + 2 * i ≤ s.1 ∧ (∀ j, j < i → v.2 3 j = nI (s.2 j) ∧ s.2 j < 10000) ∧ oA I v.2) _ m 0 _ ⟨rfl, (q + 1, fun _ => 0), rfl, by dsimp only; rw [up_s, up_s], hq, by show q + 1 + 0 ≤ q + 1; omega, fun j hj => by omega, o1⟩ ?_ ?_ zF (by unfold zF; omega)
    · intro i v _ hi hv
      obtain ⟨x3, I4⟩ := v
      obtain ⟨g1, s, g2, g3, g4, g5, g6, g7⟩ := hv
      replace g1 : x3 = nI i := g1
      replace g3 : I4 1 3 = nI s.1 := g3
      replace g6 : ∀ j, j < i → I4 3 j = nI (s.2 j) ∧ s.2 j < 10000 := g6
      replace g7 : oA I I4 := g7
      subst g1
      have him : i < m := by omega
      have hC4 := g7.toT hC
      show (∃ v', f_X8_readNumbers_L12 (nI m) J (nI i) I4 = some (.inl v') ∧ _) ∨ ∃ e, f_X8_readNumbers_L12 (nI m) J (nI i) I4 = some (.inr e) ∧ _
      unfold f_X8_readNumbers_L12
      rw [if_neg (nI_ge him (by omega))]
      rcases x_readNumber (J := J) hB hC4 g3 g4 (show i < 4 by omega) with ⟨v, k, I7, r1, r2, r3, r4, r5, r6, r7, r8, r9⟩ | ⟨r1, I7, r2, r3⟩
      · have hsep : (if nI m ≤ (nI i + 1) then some (59 : Int32) else some 44) = some (nI (if i + 1 < m then 44 else 59)) := by
          rw [nI_1]
          by_cases d : i + 1 < m
          · rw [if_neg (nI_ge d (by omega)), if_pos d]; rfl
          · rw [if_pos (nI_le (by omega) (by omega)), if_neg d]; rfl
        have hC7 := r9.toT hC4
        have hst := rdS_s g2 r1
        have hbt := hB.2.2 (s.1 + k)
        have hsl : (if i + 1 < m then 44 else 59) < 256 := by split <;> omega
        rw [r3, zb2_s, if_neg (by decide), r4, x_byteAt hB hC7 (by omega), zb1_s, hsep, zb1_s]
        by_cases c : B (s.1 + k) = (if i + 1 < m then 44 else 59)
        · rw [if_pos c] at hst
          have hpn : s.1 + k < n := by
            by_cases z : s.1 + k < n
            · exact z
            · have := hB.2.1 (s.1 + k) (by omega)
              rw [this] at c
              split at c <;> omega
          rw [if_pos (by rw [c]), nI_1, zn_e, nI_1, zn_e]
          refine Or.inl ⟨_, rfl, rfl, _, hst, ?_, ?_, ?_, fun j hj => ?_, ?_⟩
          · dsimp only
            rw [up_s, up_s]
          · dsimp only
            omega
          · dsimp only
            omega
          · dsimp only
            rw [up_n (by omega)]
            by_cases d : j = i
            · rw [d, upN_s]; exact ⟨r7, r2⟩
            · rw [upN_n d, r8 j d]; exact g6 j (by omega)
          · dsimp only
            exact (g7.trans r9).trans ⟨fun r h1 h2 => up_n h1, fun j hj => by rw [up_s, up_n hj]⟩
        · rw [if_neg c] at hst
          rw [if_neg (nI_eqF c (by omega) (by omega))]
          exact Or.inr ⟨_, rfl, Or.inr ⟨I7, rfl, rdS_none hst (by omega), g7.trans r9⟩⟩
      · rw [r2, zb2_s, if_pos rfl]
        exact Or.inr ⟨_, rfl, Or.inr ⟨I7, rfl, rdS_none (rdS_n1 g2 r1) (by omega), g7.trans r3⟩⟩
    · intro v hv
      obtain ⟨x3, I4⟩ := v
      obtain ⟨g1, s, g2, g3, g4, g5, g6, g7⟩ := hv
      replace g1 : x3 = nI (0 + m) := g1
      rw [Nat.zero_add] at g1 g2 g5 g6
      subst g1
      exact ⟨_, if_pos (nI_le (Nat.le_refl _) (by omega)), Or.inl ⟨I4, s, rfl, g2, g3, g4, g5, g6, g7⟩⟩
  obtain ⟨e, e1, e2⟩ := run
  rcases e2 with ⟨I2, s, e2, e3, e4, e5, e6, e7, e8⟩ | ⟨I2, e2, e3, e4⟩
  · refine Or.inl ⟨s.1, s.2, I2, by omega, e3, ?_, e4, e5, e6, e7, e8⟩
    rw [e1, e2, zc1_l, if_neg (nI_nle (by omega) (by omega))]
  · refine Or.inr ⟨Or.inr e3, I2, ?_, e4⟩
    rw [e1, e2, zc1_r]
end TI
