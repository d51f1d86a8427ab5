/-! the text: its bytes, its numbers -/
def uB (x : Int32) : Nat := (x &&& 255).toInt.toNat
theorem and_p {t : Nat} (h : t < 128) : nI t &&& 255 = nI t := by
  have key : ∀ x : Fin 128, nI x.val &&& 255 = nI x.val := by decide +kernel
  exact key ⟨t, h⟩
theorem and_m {t : Nat} (h : t < 128) : (-(nI (t + 1))) &&& 255 = nI (255 - t) := by
  have key : ∀ x : Fin 128, (-(nI (x.val + 1))) &&& 255 = nI (255 - x.val) := by decide +kernel
  exact key ⟨t, h⟩
theorem uB_e {x : Int32} (h : -128 ≤ x.toInt ∧ x.toInt ≤ 127) : x &&& 255 = nI (uB x) ∧ uB x < 256 ∧ ∀ c, c < 128 → (x = nI c ↔ uB x = c) := by
  by_cases c0 : 0 ≤ x.toInt
  · obtain ⟨t, ht, rfl⟩ := nI_of3 (x := x) (n := 128) c0 (by omega)
    have e : uB (nI t) = t := by unfold uB; rw [and_p ht, nI_toInt (by omega)]; rfl
    rw [e]
    exact ⟨and_p ht, by omega, fun c hc => nI_eq (by omega) (by omega)⟩
  · obtain ⟨t, ht⟩ : ∃ t : Nat, x.toInt = -((t : Int) + 1) := ⟨(-x.toInt - 1).toNat, by omega⟩
    have e : x = -(nI (t + 1)) := by
      apply Int32.toInt_inj.mp
      rw [Int32.toInt_neg, nI_toInt (by omega), ht, Int.bmod_eq_of_le (by omega) (by omega)]
      omega
    have e2 : uB x = 255 - t := by
      unfold uB
      rw [e, and_m (by omega), nI_toInt (by omega)]
      omega
    rw [e2]
    refine ⟨by rw [e]; exact and_m (by omega), by omega, fun c hc => ⟨fun z => ?_, fun z => by omega⟩⟩
    rw [z, nI_toInt (by omega)] at c0
    omega
def tBt (B : Nat → Nat) (n : Nat) : Prop := n ≤ 500 ∧ (∀ q, n ≤ q → B q = 0) ∧ ∀ q, B q < 256
def tCt (B : Nat → Nat) (n : Nat) (I : zI) : Prop := I 1 2 = nI n ∧ ∀ q, q < n → I 2 q &&& 255 = nI (B q)
def tMt (B : Nat → Nat) (n : Nat) (I : zI) : Prop := I 0 0 = nI n ∧ ∀ q, q < n → ∀ c, c < 128 → (I 1 q = nI c ↔ B q = c)
theorem rT_B {I IM : zI} (h : rT I IM) : ∃ n B, tBt B n ∧ tCt B n I ∧ tMt B n IM := by
  obtain ⟨n, h1, h2, h3, h4⟩ := h
  refine ⟨n, fun q => if q < n then uB (I 2 q) else 0, ⟨h1, fun q hq => if_neg (by omega), fun q => ?_⟩, ⟨h2, fun q hq => ?_⟩, h3, fun q hq c hc => ?_⟩
  · dsimp only
    by_cases d : q < n
    · rw [if_pos d]; exact (uB_e (h4 q d).2).2.1
    · rw [if_neg d]; omega
  · dsimp only
    rw [if_pos hq]; exact (uB_e (h4 q hq).2).1
  · dsimp only
    rw [if_pos hq, ← (h4 q hq).1]; exact (uB_e (h4 q hq).2).2.2 c hc
abbrev oA (I I2 : zI) : Prop := (∀ r, r ≠ 1 → r ≠ 3 → I2 r = I r) ∧ ∀ j, j ≠ 3 → I2 1 j = I 1 j
theorem oA.trans {I I2 I3 : zI} (h : oA I I2) (g : oA I2 I3) : oA I I3 := ⟨fun r h1 h2 => by rw [g.1 r h1 h2, h.1 r h1 h2], fun j hj => by rw [g.2 j hj, h.2 j hj]⟩
theorem oA.refl {I : zI} : oA I I := ⟨fun _ _ _ => rfl, fun _ _ => rfl⟩
theorem tCt.go {B : Nat → Nat} {n : Nat} {I I2 : zI} (h : tCt B n I) (e1 : I2 1 2 = I 1 2) (e2 : I2 2 = I 2) : tCt B n I2 := by
  unfold tCt at h ⊢
  rw [e1, e2]; exact h
theorem oA.toT {B : Nat → Nat} {n : Nat} {I I2 : zI} (o : oA I I2) (h : tCt B n I) : tCt B n I2 := h.go (o.2 2 (by omega)) (o.1 2 (by omega) (by omega))
abbrev oB (I I2 : zI) : Prop := (∀ r, r ≠ 0 → r ≠ 2 → I2 r = I r) ∧ ∀ j, j ≠ 2 → I2 0 j = I 0 j
theorem oB.trans {I I2 I3 : zI} (h : oB I I2) (g : oB I2 I3) : oB I I3 := ⟨fun r h1 h2 => by rw [g.1 r h1 h2, h.1 r h1 h2], fun j hj => by rw [g.2 j hj, h.2 j hj]⟩
theorem oB.refl {I : zI} : oB I I := ⟨fun _ _ _ => rfl, fun _ _ => rfl⟩
theorem tMt.go {B : Nat → Nat} {n : Nat} {I I2 : zI} (h : tMt B n I) (e1 : I2 0 0 = I 0 0) (e2 : I2 1 = I 1) : tMt B n I2 := by
  unfold tMt at h ⊢
  rw [e1, e2]; exact h
theorem oB.toT {B : Nat → Nat} {n : Nat} {I I2 : zI} (o : oB I I2) (h : tMt B n I) : tMt B n I2 := h.go (o.2 0 (by omega)) (o.1 1 (by omega) (by omega))
def vl (B : Nat → Nat) (q : Nat) : Nat → Nat
  | 0 => 0
  | k + 1 => 10 * vl B q k + (B (q + k) - 48)
abbrev dD (B : Nat → Nat) (q : Nat) : Prop := 48 ≤ B q ∧ B q ≤ 57
def num (B : Nat → Nat) (q : Nat) : Option (Nat × Nat) := if dD B q then (if dD B (q + 1) then (if dD B (q + 2) then (if dD B (q + 3) then none else some (vl B q 3, 3)) else some (vl B q 2, 2)) else some (vl B q 1, 1)) else none
theorem num_of {B : Nat → Nat} {q k : Nat} (h1 : ∀ j, j < k → dD B (q + j)) (h2 : k = 4 ∨ ¬ dD B (q + k)) (h3 : k ≤ 4) : (1 ≤ k ∧ k ≤ 3 ∧ num B q = some (vl B q k, k)) ∨ (¬ (1 ≤ k ∧ k ≤ 3) ∧ num B q = none) := by
  have hk : k = 0 ∨ k = 1 ∨ k = 2 ∨ k = 3 ∨ k = 4 := by omega
  unfold num
  rcases hk with rfl | rfl | rfl | rfl | rfl
  · refine Or.inr ⟨by omega, ?_⟩
    rcases h2 with h2 | h2
    · omega
    · rw [if_neg (show ¬ dD B q from h2)]
  · refine Or.inl ⟨by omega, by omega, ?_⟩
    rcases h2 with h2 | h2
    · omega
    · rw [if_pos (show dD B q from h1 0 (by omega)), if_neg h2]
  · refine Or.inl ⟨by omega, by omega, ?_⟩
    rcases h2 with h2 | h2
    · omega
    · rw [if_pos (show dD B q from h1 0 (by omega)), if_pos (h1 1 (by omega)), if_neg h2]
  · refine Or.inl ⟨by omega, by omega, ?_⟩
    rcases h2 with h2 | h2
    · omega
    · rw [if_pos (show dD B q from h1 0 (by omega)), if_pos (h1 1 (by omega)), if_pos (h1 2 (by omega)), if_neg h2]
  · refine Or.inr ⟨by omega, ?_⟩
    rw [if_pos (show dD B q from h1 0 (by omega)), if_pos (h1 1 (by omega)), if_pos (h1 2 (by omega)), if_pos (h1 3 (by omega))]
theorem vl_lt {B : Nat → Nat} {q : Nat} : ∀ k, (∀ j, j < k → dD B (q + j)) → vl B q k < 10 ^ k := by
  intro k
  induction k with
  | zero => intro _; exact Nat.lt_of_lt_of_le (show (0 : Nat) < 1 by omega) (Nat.le_refl _)
  | succ k ih =>
    intro h
    have h1 := ih (fun j hj => h j (by omega))
    have h2 := h k (by omega)
    rw [Nat.pow_succ]
    show 10 * vl B q k + (B (q + k) - 48) < 10 ^ k * 10
    omega
theorem vl_le {B : Nat → Nat} {q k : Nat} (h : ∀ j, j < k → dD B (q + j)) (hk : k ≤ 4) : vl B q k < 10000 := by
  have h1 := vl_lt k h
  have h2 : 10 ^ k ≤ 10 ^ 4 := Nat.pow_le_pow_right (by omega) hk
  omega
section TX
variable {B : Nat → Nat} {n : Nat} {J : zJ}
theorem x_byteAt {I : zI} (hB : tBt B n) (hC : tCt B n I) {q : Nat} (hq : q ≤ 1000) : f_X8_byteAt I J (nI q) = some (nI (B q)) := by
  obtain ⟨h1, h2, h3⟩ := hB
  unfold f_X8_byteAt
  rw [if_neg (nI_pos (by omega)), hC.1]
  by_cases c : q < n
  · rw [if_neg (nI_ge c (by omega)), if_neg (show ¬ (500 : Int32) ≤ nI q from nI_ge (b := 500) (by omega) (by omega)), zg_t (nI_in (show q < 500 by omega) (by omega)), nI_clamp (by omega), hC.2 q c]
  · rw [if_pos (nI_le (by omega) (by omega)), h2 q (by omega)]; rfl
theorem x_numL (hB : tBt B n) {q : Nat} : ∀ (m k : Nat) (I : zI), k + m = 4 → tCt B n I → I 1 3 = nI (q + k) → q + k ≤ n → (∀ j, j < k → dD B (q + j)) → ∀ f, m < f → ∃ (k' : Nat) (I2 : zI), zl (fun v : (Int32 × Int32 × zI) => f_X8_readNumber_L4 J v.1 v.2.1 v.2.2) f (nI (vl B q k), nI k, I) = some (nI (vl B q k'), nI k', I2) ∧ k' ≤ 4 ∧ (∀ j, j < k' → dD B (q + j)) ∧ (k' = 4 ∨ ¬ dD B (q + k')) ∧ I2 1 3 = nI (q + k') ∧ q + k' ≤ n ∧ (∀ r, r ≠ 1 → I2 r = I r) ∧ ∀ j, j ≠ 3 → I2 1 j = I 1 j := by
  have hn := hB.1
  intro m
  induction m with
  | zero =>
    intro k I hk hC h3 hq hd f hf
    obtain ⟨f, rfl⟩ : ∃ g, f = g + 1 := ⟨f - 1, by omega⟩
    refine ⟨k, I, zl_r ?_, by omega, hd, Or.inl (by omega), h3, hq, fun _ _ => rfl, fun _ _ => rfl⟩
    show f_X8_readNumber_L4 J (nI (vl B q k)) (nI k) I = _
    unfold f_X8_readNumber_L4
    rw [if_pos (show (4 : Int32) ≤ nI k from nI_le (a := 4) (by omega) (by omega))]
  | succ m ih =>
    intro k I hk hC h3 hq hd f hf
    obtain ⟨f, rfl⟩ : ∃ g, f = g + 1 := ⟨f - 1, by omega⟩
    have hbt := hB.2.2 (q + k)
    have h4 : ¬ (4 : Int32) ≤ nI k := nI_ge (b := 4) (by omega) (by omega)
    have ew : f_X11_within I J (nI (B (q + k))) 48 57 = some (zi (dD B (q + k))) := by
      rw [e_within, nI_toInt (by omega), show (48 : Int32).toInt = 48 from rfl, show (57 : Int32).toInt = 57 from rfl]
      exact congrArg some (zi_c (by omega))
    by_cases c : dD B (q + k)
    · have hqn : q + k < n := by
        by_cases z : q + k < n
        · exact z
        · have := hB.2.1 (q + k) (by omega); omega
      have hv := vl_le hd (by omega)
      have hv2 : vl B q (k + 1) = 10 * vl B q k + (B (q + k) - 48) := rfl
      have s1 : f_X8_readNumber_L4 J (nI (vl B q k)) (nI k) I = some (.inl (nI (vl B q (k + 1)), nI (k + 1), va_up I 1 (va_up (I 1) 3 (nI (q + (k + 1)))))) := by
        unfold f_X8_readNumber_L4
        rw [if_neg h4, h3, x_byteAt hB hC (by omega), zb1_s, ew, zb1_s, zif, if_pos c, zb1_s, zn_e, nI_1, zn_e, nI_1, zn_e, show (10 : Int32) = nI 10 from rfl, nI_mul, nI_add, show (48 : Int32) = nI 48 from rfl, nI_sub (by omega), hv2]
        congr 3
        congr 1
        omega
      rw [zl_l s1]
      obtain ⟨k', I2, e1, e2, e3, e4, e5, e6, e7, e8⟩ := ih (k + 1) (va_up I 1 (va_up (I 1) 3 (nI (q + (k + 1))))) (by omega) (hC.go (by rw [up_s, up_n (by omega)]) (up_n (by omega))) (by rw [up_s, up_s]) (by omega) (fun j hj => by
        by_cases z : j = k
        · rw [z]; exact c
        · exact hd j (by omega)) f (by omega)
      exact ⟨k', I2, e1, e2, e3, e4, e5, e6, fun r hr => by rw [e7 r hr, up_n hr], fun j hj => by rw [e8 j hj, up_s, up_n hj]⟩
    · refine ⟨k, I, zl_r ?_, by omega, hd, Or.inr c, h3, hq, fun _ _ => rfl, fun _ _ => rfl⟩
      show f_X8_readNumber_L4 J (nI (vl B q k)) (nI k) I = _
      unfold f_X8_readNumber_L4
      rw [if_neg h4, h3, x_byteAt hB hC (by omega), zb1_s, ew, zb1_s, zif, if_neg c]
theorem x_readNumber (hB : tBt B n) {I : zI} {q i : Nat} (hC : tCt B n I) (h3 : I 1 3 = nI q) (hq : q ≤ n) (hi : i < 4) : (∃ (v k : Nat) (I2 : zI), num B q = some (v, k) ∧ v < 10000 ∧ f_X8_readNumber I J (nI i) = some (1, I2) ∧ I2 1 3 = nI (q + k) ∧ q + k ≤ n ∧ 1 ≤ k ∧ I2 3 i = nI v ∧ (∀ j, j ≠ i → I2 3 j = I 3 j) ∧ oA I I2) ∨ (num B q = none ∧ ∃ I2 : zI, f_X8_readNumber I J (nI i) = some (0, I2) ∧ oA I I2) := by
  obtain ⟨k, I2, e1, e2, e3, e4, e5, e6, e7, e8⟩ := x_numL (J := J) hB (q := q) 4 0 I (by omega) hC h3 hq (fun j hj => by omega) zF (by unfold zF; omega)
  replace e1 : zl (fun v : (Int32 × Int32 × zI) => f_X8_readNumber_L4 J v.1 v.2.1 v.2.2) zF (0, 0, I) = some (nI (vl B q k), nI k, I2) := e1
  have ei : f_X11_within I2 J (nI i) 0 (4 - 1) = some (zi True) := by
    rw [e_within, nI_toInt (by omega), k0, show ((4 : Int32) - 1).toInt = 3 from rfl]
    exact congrArg some (zi_c ⟨fun _ => trivial, fun _ => by omega⟩)
  have ew : f_X11_within (va_up I2 3 (upd (I2 3) i (nI (vl B q k)))) J (nI k) 1 3 = some (zi (1 ≤ k ∧ k ≤ 3)) := by
    rw [e_within, nI_toInt (by omega), k1, k3]
    exact congrArg some (zi_c (by omega))
  have hf : f_X8_readNumber I J (nI i) = some (zi (1 ≤ k ∧ k ≤ 3), va_up I2 3 (upd (I2 3) i (nI (vl B q k)))) := by
    unfold f_X8_readNumber
    rw [e1, zb3_s, ei, zb1_s, zif, if_pos trivial, zg_t (nI_in hi (by omega)), nI_clamp (by omega), zn_e, ew, zb1_s, zg_t zi_01]
  have ho : oA I (va_up I2 3 (upd (I2 3) i (nI (vl B q k)))) := ⟨fun r h1 h2 => by rw [up_n h2, e7 r h1], fun j hj => by rw [up_n (by omega), e8 j hj]⟩
  rcases num_of e3 e4 e2 with ⟨g1, g2, g3⟩ | ⟨g1, g2⟩
  · refine Or.inl ⟨vl B q k, k, _, g3, vl_le e3 e2, ?_, ?_, e6, g1, ?_, fun j hj => ?_, ho⟩
    · rw [hf, zi, if_pos ⟨g1, g2⟩]
    · rw [up_n (by omega)]; exact e5
    · rw [up_s, ud_s]
    · rw [up_s, ud_n hj, e7 3 (by omega)]
  · refine Or.inr ⟨g2, _, ?_, ho⟩
    rw [hf, zi, if_neg g1]
-- the reference's
theorem m_dig {I : zI} (hM : tMt B n I) {q : Nat} (hq : q < n) : (48 ≤ (I 1 q).toInt ∧ (I 1 q).toInt ≤ 57 ↔ dD B q) ∧ (dD B q → I 1 q = nI (B q)) := by
  have h2 : dD B q → I 1 q = nI (B q) := fun z => (hM.2 q hq (B q) (by omega)).2 rfl
  refine ⟨⟨fun z => ?_, fun z => ?_⟩, h2⟩
  · obtain ⟨t, ht, e⟩ := nI_of3 (x := I 1 q) (n := 128) (by omega) (by omega)
    have e2 := (hM.2 q hq t ht).1 e
    rw [e, nI_toInt (by omega)] at z
    omega
  · rw [h2 z, nI_toInt (by omega)]; omega
theorem m_numL (hB : tBt B n) {q : Nat} : ∀ (m k : Nat) (I : zI), n ≤ q + k + m → tMt B n I → I 0 2 = nI (q + k) → q + k ≤ n → (∀ j, j < k → dD B (q + j)) → ∀ f, m < f → ∃ (k' : Nat) (I2 : zI), zl (fun v : (Int32 × Int32 × zI) => f_X12_number_L5 J v.1 v.2.1 v.2.2) f (nI (vl B q (min k 3)), nI k, I) = some (nI (vl B q (min k' 3)), nI k', I2) ∧ (∀ j, j < k' → dD B (q + j)) ∧ ¬ dD B (q + k') ∧ I2 0 2 = nI (q + k') ∧ q + k' ≤ n ∧ (∀ r, r ≠ 0 → I2 r = I r) ∧ ∀ j, j ≠ 2 → I2 0 j = I 0 j := by
  have hn := hB.1
  intro m
  induction m with
  | zero =>
    intro k I hk hM h2 hq hd f hf
    obtain ⟨f, rfl⟩ : ∃ g, f = g + 1 := ⟨f - 1, by omega⟩
    have hz := hB.2.1 (q + k) (by omega)
    refine ⟨k, I, zl_r ?_, hd, by omega, h2, hq, fun _ _ => rfl, fun _ _ => rfl⟩
    show f_X12_number_L5 J (nI (vl B q (min k 3))) (nI k) I = _
    unfold f_X12_number_L5
    rw [hM.1, h2, if_pos (nI_le (by omega) (by omega))]
  | succ m ih =>
    intro k I hk hM h2 hq hd f hf
    obtain ⟨f, rfl⟩ : ∃ g, f = g + 1 := ⟨f - 1, by omega⟩
    by_cases hqn : q + k < n
    case neg =>
      have hz := hB.2.1 (q + k) (by omega)
      refine ⟨k, I, zl_r ?_, hd, by omega, h2, hq, fun _ _ => rfl, fun _ _ => rfl⟩
      show f_X12_number_L5 J (nI (vl B q (min k 3))) (nI k) I = _
      unfold f_X12_number_L5
      rw [hM.1, h2, if_pos (nI_le (by omega) (by omega))]
    obtain ⟨d1, d2⟩ := m_dig hM hqn
    have hge : ¬ nI n ≤ nI (q + k) := nI_ge hqn (by omega)
    have ew : f_X12_in I J (I 1 (q + k)).toInt64 48 57 = some (zi (dD B (q + k))) := by
      rw [e_in, t64, show (48 : Int64).toInt = 48 from rfl, show (57 : Int64).toInt = 57 from rfl]
      exact congrArg some (zi_c d1)
    by_cases c : dD B (q + k)
    · have s1 : f_X12_number_L5 J (nI (vl B q (min k 3))) (nI k) I = some (.inl (nI (vl B q (min (k + 1) 3)), nI (k + 1), va_up I 0 (va_up (I 0) 2 (nI (q + (k + 1)))))) := by
        unfold f_X12_number_L5
        rw [hM.1, h2, if_neg hge]
        simp only [zg_t (nI_in (show q + k < 500 by omega) (show 500 < 2 ^ 31 by omega))]
        simp only [nI_clamp (show q + k < 2 ^ 31 by omega)]
        rw [ew, zb1_s, zif, if_pos c, d2 c]
        have e14 : (if 3 ≤ nI k then some (nI (vl B q (min k 3))) else some (((10 * nI (vl B q (min k 3))) + nI (B (q + k))) - 48)) = some (nI (vl B q (min (k + 1) 3))) := by
          by_cases z : 3 ≤ k
          · rw [if_pos (show (3 : Int32) ≤ nI k from nI_le (a := 3) z (by omega)), Nat.min_eq_right z, Nat.min_eq_right (by omega)]
          · have hv := vl_le (k := k) hd (by omega)
            have hv2 : vl B q (k + 1) = 10 * vl B q k + (B (q + k) - 48) := rfl
            rw [if_neg (show ¬ (3 : Int32) ≤ nI k from nI_ge (b := 3) (by omega) (by omega)), Nat.min_eq_left (by omega), Nat.min_eq_left (by omega), show (10 : Int32) = nI 10 from rfl, nI_mul, nI_add, show (48 : Int32) = nI 48 from rfl, nI_sub (by omega), hv2]
            congr 2
            omega
        rw [e14, zb1_s, zn_e, nI_1, zn_e, nI_1]
        rfl
      rw [zl_l s1]
      obtain ⟨k', I2, e1, e3, e4, e5, e6, e7, e8⟩ := ih (k + 1) (va_up I 0 (va_up (I 0) 2 (nI (q + (k + 1))))) (by omega) (hM.go (by rw [up_s, up_n (by omega)]) (up_n (by omega))) (by rw [up_s, up_s]) (by omega) (fun j hj => by
        by_cases z : j = k
        · rw [z]; exact c
        · exact hd j (by omega)) f (by omega)
      exact ⟨k', I2, e1, e3, e4, e5, e6, fun r hr => by rw [e7 r hr, up_n hr], fun j hj => by rw [e8 j hj, up_s, up_n hj]⟩
    · refine ⟨k, I, zl_r ?_, hd, c, h2, hq, fun _ _ => rfl, fun _ _ => rfl⟩
      show f_X12_number_L5 J (nI (vl B q (min k 3))) (nI k) I = _
      unfold f_X12_number_L5
      rw [hM.1, h2, if_neg hge]
      simp only [zg_t (nI_in (show q + k < 500 by omega) (show 500 < 2 ^ 31 by omega))]
      simp only [nI_clamp (show q + k < 2 ^ 31 by omega)]
      rw [ew, zb1_s, zif, if_neg c]
theorem m_number (hB : tBt B n) {I : zI} {q lo hi : Nat} (hM : tMt B n I) (h2 : I 0 2 = nI q) (hq : q ≤ n) (hlo : lo < 2 ^ 31) (hhi : hi < 2 ^ 31) : (∃ (v k : Nat) (I2 : zI), num B q = some (v, k) ∧ v < 10000 ∧ f_X12_number I J (nI lo) (nI hi) = some ((if lo ≤ v ∧ v ≤ hi then nI v else -1), I2) ∧ I2 0 2 = nI (q + k) ∧ q + k ≤ n ∧ (∀ r, r ≠ 0 → I2 r = I r) ∧ ∀ j, j ≠ 2 → I2 0 j = I 0 j) ∨ (num B q = none ∧ ∃ I2 : zI, f_X12_number I J (nI lo) (nI hi) = some (-1, I2) ∧ (∀ r, r ≠ 0 → I2 r = I r) ∧ ∀ j, j ≠ 2 → I2 0 j = I 0 j) := by
  have hn := hB.1
  obtain ⟨k, I2, e1, e3, e4, e5, e6, e7, e8⟩ := m_numL (J := J) hB (q := q) n 0 I (by omega) hM h2 hq (fun j hj => by omega) zF (by unfold zF; omega)
  replace e1 : zl (fun v : (Int32 × Int32 × zI) => f_X12_number_L5 J v.1 v.2.1 v.2.2) zF (0, 0, I) = some (nI (vl B q (min k 3)), nI k, I2) := e1
  have ek : f_X12_in I2 J (nI k).toInt64 1 3 = some (zi (1 ≤ k ∧ k ≤ 3)) := by
    rw [e_in, t64, nI_toInt (by omega), K1, K3]
    exact congrArg some (zi_c (by omega))
  unfold f_X12_number
  rw [e1, zb3_s, ek, zb1_s, zif]
  by_cases c : 1 ≤ k ∧ k ≤ 3
  · rcases num_of e3 (Or.inr e4) (by omega) with ⟨g1, g2, g3⟩ | ⟨g1, g2⟩
    · have hv := vl_le e3 (show k ≤ 4 by omega)
      have ev : f_X12_in I2 J (nI (vl B q k)).toInt64 (nI lo).toInt64 (nI hi).toInt64 = some (zi (lo ≤ vl B q k ∧ vl B q k ≤ hi)) := by
        rw [e_in, t64, t64, t64, nI_toInt hlo, nI_toInt hhi, nI_toInt (show vl B q k < 2 ^ 31 by omega)]
        exact congrArg some (zi_c (by omega))
      refine Or.inl ⟨vl B q k, k, I2, g3, hv, ?_, e5, e6, e7, e8⟩
      rw [if_pos c, Nat.min_eq_left (by omega), ev, zb1_s, zif]
      by_cases d : lo ≤ vl B q k ∧ vl B q k ≤ hi
      · rw [if_pos d, if_pos d]
      · rw [if_neg d, if_neg d]
    · exact absurd c g1
  · refine Or.inr ⟨?_, I2, ?_, e7, e8⟩
    · by_cases k4 : k ≤ 4
      · rcases num_of e3 (Or.inr e4) k4 with ⟨g1, g2, g3⟩ | ⟨g1, g2⟩
        · exact absurd ⟨g1, g2⟩ c
        · exact g2
      · rcases num_of (k := 4) (fun j hj => e3 j (by omega)) (Or.inl rfl) (by omega) with ⟨g1, g2, g3⟩ | ⟨g1, g2⟩
        · omega
        · exact g2
    · rw [if_neg c]
end TX
