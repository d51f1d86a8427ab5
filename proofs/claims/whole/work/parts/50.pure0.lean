/-! THE PURE PART: words -/
theorem zb1_s {α γ : Type} {a : α} {f : α → Option γ} : zb1 (some a) f = f a := rfl
theorem zb2_s {α β γ : Type} {a : α} {b : β} {f : α → β → Option γ} : zb2 (some (a, b)) f = f a b := rfl
theorem zb3_s {α β δ γ : Type} {a : α} {b : β} {c : δ} {f : α → β → δ → Option γ} : zb3 (some (a, b, c)) f = f a b c := rfl
theorem zb4_s {α β δ ε γ : Type} {a : α} {b : β} {c : δ} {d : ε} {f : α → β → δ → ε → Option γ} : zb4 (some (a, b, c, d)) f = f a b c d := rfl
theorem zc1_l {α γ : Type} {a : α} {f : α → Option γ} : zc1 (some (.inl a)) f = f a := rfl
theorem zc1_r {α γ : Type} {t : γ} {f : α → Option γ} : zc1 (some (.inr t)) f = some t := rfl
theorem zc2_l {α β γ : Type} {a : α} {b : β} {f : α → β → Option γ} : zc2 (some (.inl (a, b))) f = f a b := rfl
theorem zc2_r {α β γ : Type} {t : γ} {f : α → β → Option γ} : zc2 (some (.inr t)) f = some t := rfl
theorem zn_e {α β : Type} {a : α} {f : α → β} : zn a f = f a := rfl
theorem zg_t {α : Type} {c : Prop} [Decidable c] {x : Option α} (h : c) : zg c x = x := if_pos h
theorem zl_l {V E : Type} {b : V → Option (V ⊕ E)} {n : Nat} {v v' : V} (h : b v = some (.inl v')) : zl b (n + 1) v = zl b n v' := by rw [zl, h]
theorem zl_r {V E : Type} {b : V → Option (V ⊕ E)} {n : Nat} {v : V} {e : E} (h : b v = some (.inr e)) : zl b (n + 1) v = some e := by rw [zl, h]
/-- a counting loop: k steps that go on, then one that leaves -/
theorem zl_run {V E : Type} {b : V → Option (V ⊕ E)} (S : Nat → V) (e : E) (k : Nat) (hs : ∀ i, i < k → b (S i) = some (.inl (S (i + 1)))) (he : b (S k) = some (.inr e)) : ∀ n, k < n → zl b n (S 0) = some e := by
  have key : ∀ j, j ≤ k → ∀ n, j < n → zl b n (S (k - j)) = some e := by
    intro j
    induction j with
    | zero =>
      intro _ n hn
      obtain ⟨n', rfl⟩ : ∃ n', n = n' + 1 := ⟨n - 1, by omega⟩
      exact zl_r he
    | succ j ih =>
      intro hj n hn
      obtain ⟨n', rfl⟩ : ∃ n', n = n' + 1 := ⟨n - 1, by omega⟩
      have h1 := hs (k - (j + 1)) (by omega)
      rw [zl_l h1, show k - (j + 1) + 1 = k - j by omega]
      exact ih (by omega) n' (by omega)
  intro n hn
  have h := key k (Nat.le_refl k) n hn
  rw [Nat.sub_self] at h
  exact h
theorem up_s {α : Type} {f : Nat → α} {k : Nat} {v : α} : va_up f k v k = v := if_pos rfl
theorem up_n {α : Type} {f : Nat → α} {k j : Nat} {v : α} (h : j ≠ k) : va_up f k v j = f j := if_neg h
theorem ud_s {f : Nat → Int32} {k : Nat} {v : Int32} : upd f k v k = v := if_pos rfl
theorem ud_n {f : Nat → Int32} {k j : Nat} {v : Int32} (h : j ≠ k) : upd f k v j = f j := if_neg h
theorem i32_le {a b : Int32} : a ≤ b ↔ a.toInt ≤ b.toInt := Int32.le_iff_toInt_le
theorem i32_lt {a b : Int32} : a < b ↔ a.toInt < b.toInt := Int32.lt_iff_toInt_lt
theorem i64_lt {a b : Int64} : a < b ↔ a.toInt < b.toInt := Int64.lt_iff_toInt_lt
theorem cmp_lt {x y : Int64} : lg_cmp x y < 0 ↔ x < y := by
  unfold lg_cmp
  by_cases h1 : x > y
  · rw [if_pos h1]
    have : ¬ x < y := by rw [i64_lt]; have := i64_lt.mp h1; omega
    simp [this]
  · rw [if_neg h1]
    by_cases h2 : x = y
    · subst h2
      simp [i64_lt]
    · rw [if_neg h2]
      have : x < y := by
        rw [i64_lt]
        have a : ¬ y.toInt < x.toInt := fun q => h1 (i64_lt.mpr q)
        have b : ¬ x.toInt = y.toInt := fun q => h2 (Int64.toInt_inj.mp q)
        omega
      simp [this]
theorem cmp_gt {x y : Int64} : 0 < lg_cmp x y ↔ y < x := by
  unfold lg_cmp
  by_cases h1 : x > y
  · rw [if_pos h1]
    simp [show y < x from h1]
  · rw [if_neg h1]
    by_cases h2 : x = y
    · subst h2
      simp [i64_lt]
    · rw [if_neg h2]
      simp [show ¬ y < x from h1]
/-- 1 or 0 -/
def zi (c : Prop) [Decidable c] : Int32 := if c then 1 else 0
theorem zi_0 {c : Prop} [Decidable c] : zi c = 0 ↔ ¬ c := by unfold zi; by_cases h : c <;> simp [h]
theorem zi_01 {c : Prop} [Decidable c] : zi c = 0 ∨ zi c = 1 := by unfold zi; by_cases h : c <;> simp [h]
theorem zi_c {c d : Prop} [Decidable c] [Decidable d] (h : c ↔ d) : zi c = zi d := by unfold zi; by_cases k : c <;> simp [k, ← h]
theorem e_within (I : zI) (J : zJ) (a b c : Int32) : f_X11_within I J a b c = some (zi (b.toInt ≤ a.toInt ∧ a.toInt ≤ c.toInt)) := by
  unfold f_X11_within zi
  simp only [i32_lt]
  by_cases h1 : a.toInt < b.toInt
  · simp [h1, show ¬ b.toInt ≤ a.toInt by omega]
  · by_cases h2 : c.toInt < a.toInt
    · simp [h1, h2, show ¬ a.toInt ≤ c.toInt by omega]
    · simp [h1, h2, show b.toInt ≤ a.toInt by omega, show a.toInt ≤ c.toInt by omega]
theorem e_in (I : zI) (J : zJ) (a b c : Int64) : f_X12_in I J a b c = some (zi (b.toInt ≤ a.toInt ∧ a.toInt ≤ c.toInt)) := by
  unfold f_X12_in zi
  simp only [cmp_lt, cmp_gt, i64_lt]
  by_cases h1 : a.toInt < b.toInt
  · simp [h1, show ¬ b.toInt ≤ a.toInt by omega]
  · by_cases h2 : c.toInt < a.toInt
    · simp [h1, h2, show ¬ a.toInt ≤ c.toInt by omega]
    · simp [h1, h2, show b.toInt ≤ a.toInt by omega, show a.toInt ≤ c.toInt by omega]
theorem t64 (a : Int32) : a.toInt64.toInt = a.toInt := Int32.toInt_toInt64 a
