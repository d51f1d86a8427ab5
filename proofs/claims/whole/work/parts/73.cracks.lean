/-! laying: the chances as the reference keeps them, pair by pair, and as the class fills them -/
def lsE (ck : Nat → Nat) (w : Nat) : Nat → Option Nat
  | 0 => none
  | n + 1 => if ck n = w then some n else lsE ck w n
theorem ckAt_le {ck : Nat → Nat} {w : Nat} : ∀ {n k : Nat}, ckAt ck w n = some k → ck k ≤ w := by
  intro n
  induction n with
  | zero => intro k h; cases h
  | succ n ih =>
    intro k h
    unfold ckAt at h
    by_cases c : ck n ≤ w ∧ ckOk ck (ckAt ck w n) n = true
    · rw [if_pos c] at h; cases h; exact c.1
    · rw [if_neg c] at h; exact ih h
theorem lsE_k {ck : Nat → Nat} {w : Nat} : ∀ {n k : Nat}, lsE ck w n = some k → ck k = w ∧ ckAt ck w n = some k := by
  intro n
  induction n with
  | zero => intro k h; cases h
  | succ n ih =>
    intro k h
    unfold lsE at h
    unfold ckAt
    by_cases c : ck n = w
    · rw [if_pos c] at h; cases h
      refine ⟨c, if_pos ⟨by omega, ?_⟩⟩
      cases g : ckAt ck w n with
      | none => rfl
      | some j => exact decide_eq_true (by have := ckAt_le g; omega)
    · rw [if_neg c] at h
      obtain ⟨h1, h2⟩ := ih h
      refine ⟨h1, ?_⟩
      rw [if_neg ?_, h2]
      intro z
      rw [h2] at z
      have z2 : ck k ≤ ck n := of_decide_eq_true z.2
      omega
theorem lsE_n {ck : Nat → Nat} {w : Nat} : ∀ {n : Nat}, lsE ck (w + 1) n = none → ckAt ck (w + 1) n = ckAt ck w n := by
  intro n
  induction n with
  | zero => intro _; rfl
  | succ n ih =>
    intro h
    unfold lsE at h
    by_cases c : ck n = w + 1
    · rw [if_pos c] at h; cases h
    · rw [if_neg c] at h
      have h2 := ih h
      unfold ckAt
      rw [h2]
      by_cases d : ck n ≤ w ∧ ckOk ck (ckAt ck w n) n = true
      · rw [if_pos d, if_pos ⟨by omega, d.2⟩]
      · rw [if_neg d, if_neg (fun z => d ⟨by omega, z.2⟩)]
theorem lsE_0 {ck : Nat → Nat} : ∀ {n : Nat}, lsE ck 0 n = none → ckAt ck 0 n = none := by
  intro n
  induction n with
  | zero => intro _; rfl
  | succ n ih =>
    intro h
    unfold lsE at h
    by_cases c : ck n = 0
    · rw [if_pos c] at h; cases h
    · rw [if_neg c] at h
      unfold ckAt
      rw [if_neg (fun z => c (by omega))]; exact ih h
def rwI (ck cb : Nat → Nat) (n w : Nat) : Int32 := match lsE ck w n with
  | none => -1
  | some k => nI (cb k)
theorem flR_ck {r : Nat → Int32} {ck cb : Nat → Nat} {n : Nat} (hb : ∀ k, cb k < 2 ^ 31) : ∀ w, (∀ x, x ≤ w → r x = rwI ck cb n x) → flR r w = nI (ckB ck cb w n) := by
  have one : ∀ x k, r x = rwI ck cb n x → lsE ck x n = some k → (if 0 ≤ r x then r x else 0) = nI (cb k) ∧ 0 ≤ r x ∧ r x = nI (ckB ck cb x n) := by
    intro x k h1 h2
    unfold rwI at h1
    rw [h2] at h1
    have h1 : r x = nI (cb k) := h1
    have h3 : 0 ≤ r x := by rw [h1]; exact nI_le (a := 0) (by omega) (hb k)
    refine ⟨by rw [if_pos h3, h1], h3, ?_⟩
    unfold ckB
    rw [(lsE_k h2).2, h1]
  have non : ∀ x, r x = rwI ck cb n x → lsE ck x n = none → ¬ 0 ≤ r x := by
    intro x h1 h2
    unfold rwI at h1
    rw [h2] at h1
    have h1 : r x = -1 := h1
    rw [h1]; decide
  intro w
  induction w with
  | zero =>
    intro h
    have h0 := h 0 (Nat.le_refl _)
    unfold flR
    cases g : lsE ck 0 n with
    | none => rw [if_neg (non 0 h0 g)]; unfold ckB; rw [lsE_0 g]; rfl
    | some k => obtain ⟨_, q2, q3⟩ := one 0 k h0 g; rw [if_pos q2, q3]
  | succ w ih =>
    intro h
    have h0 := h (w + 1) (Nat.le_refl _)
    unfold flR
    cases g : lsE ck (w + 1) n with
    | none =>
      rw [if_neg (non _ h0 g), ih (fun x hx => h x (by omega))]
      unfold ckB; rw [lsE_n g]
    | some k => obtain ⟨_, q2, q3⟩ := one _ k h0 g; rw [if_pos q2, q3]
