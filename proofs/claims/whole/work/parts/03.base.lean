/-! THE BASE: partial functions, loops, the worlds by index, calls over one world -/
def zg {α : Type} (c : Prop) [Decidable c] (x : Option α) : Option α := if c then x else none
def zn {α β : Type} (a : α) (f : α → β) : β := f a
def zb {α γ : Type} (x : Option α) (f : α → Option γ) : Option γ := match x with
  | none => none
  | some a => f a
def zb1 {α γ : Type} (x : Option α) (f : α → Option γ) : Option γ := zb x f
def zb2 {α β γ : Type} (x : Option (α × β)) (f : α → β → Option γ) : Option γ := zb x (fun v => f v.1 v.2)
def zb3 {α β δ γ : Type} (x : Option (α × β × δ)) (f : α → β → δ → Option γ) : Option γ := zb x (fun v => f v.1 v.2.1 v.2.2)
def zb4 {α β δ ε γ : Type} (x : Option (α × β × δ × ε)) (f : α → β → δ → ε → Option γ) : Option γ := zb x (fun v => f v.1 v.2.1 v.2.2.1 v.2.2.2)
def zb5 {α β δ ε ζ γ : Type} (x : Option (α × β × δ × ε × ζ)) (f : α → β → δ → ε → ζ → Option γ) : Option γ := zb x (fun v => f v.1 v.2.1 v.2.2.1 v.2.2.2.1 v.2.2.2.2)
def zb6 {α β δ ε ζ η γ : Type} (x : Option (α × β × δ × ε × ζ × η)) (f : α → β → δ → ε → ζ → η → Option γ) : Option γ := zb x (fun v => f v.1 v.2.1 v.2.2.1 v.2.2.2.1 v.2.2.2.2.1 v.2.2.2.2.2)
def zb7 {α β δ ε ζ η θ γ : Type} (x : Option (α × β × δ × ε × ζ × η × θ)) (f : α → β → δ → ε → ζ → η → θ → Option γ) : Option γ := zb x (fun v => f v.1 v.2.1 v.2.2.1 v.2.2.2.1 v.2.2.2.2.1 v.2.2.2.2.2.1 v.2.2.2.2.2.2)
def zc {α γ : Type} (x : Option (α ⊕ γ)) (f : α → Option γ) : Option γ := match x with
  | none => none
  | some (.inl a) => f a
  | some (.inr t) => some t
def zc0 {γ : Type} (x : Option (Unit ⊕ γ)) (f : Option γ) : Option γ := zc x (fun _ => f)
def zc1 {α γ : Type} (x : Option (α ⊕ γ)) (f : α → Option γ) : Option γ := zc x f
def zc2 {α β γ : Type} (x : Option ((α × β) ⊕ γ)) (f : α → β → Option γ) : Option γ := zc x (fun v => f v.1 v.2)
def zc3 {α β δ γ : Type} (x : Option ((α × β × δ) ⊕ γ)) (f : α → β → δ → Option γ) : Option γ := zc x (fun v => f v.1 v.2.1 v.2.2)
def zc4 {α β δ ε γ : Type} (x : Option ((α × β × δ × ε) ⊕ γ)) (f : α → β → δ → ε → Option γ) : Option γ := zc x (fun v => f v.1 v.2.1 v.2.2.1 v.2.2.2)
def zc5 {α β δ ε ζ γ : Type} (x : Option ((α × β × δ × ε × ζ) ⊕ γ)) (f : α → β → δ → ε → ζ → Option γ) : Option γ := zc x (fun v => f v.1 v.2.1 v.2.2.1 v.2.2.2.1 v.2.2.2.2)
def zb0 {γ : Type} (x : Option Unit) (f : Option γ) : Option γ := zb x (fun _ => f)
/-- a loop: the body goes on (inl) or leaves (inr) -/
def zl {V E : Type} (b : V → Option (V ⊕ E)) : Nat → V → Option E
  | 0, _ => none
  | n + 1, v => match b v with
    | none => none
    | some (.inl v') => zl b n v'
    | some (.inr e) => some e
def zF : Nat := 10000000
theorem zl_i {V E : Type} {b : V → Option (V ⊕ E)} {P : V → Prop} {e0 : E} (h : ∀ v z, b v = some z → (∀ v', z = .inl v' → P v') → (∀ e, z = .inr e → e = e0) → P v) : ∀ (n : Nat) (v : V), zl b n v = some e0 → P v := by
  intro n
  induction n with
  | zero => intro v hv; cases hv
  | succ n ih =>
    intro v hv
    unfold zl at hv
    cases hb : b v with
    | none => rw [hb] at hv; cases hv
    | some z =>
      rw [hb] at hv
      refine h v z hb (fun v' hz => ?_) (fun e hz => ?_)
      · subst hz; exact ih v' hv
      · subst hz; exact Option.some.inj hv
theorem zg_i {α : Type} {c : Prop} [Decidable c] {x : Option α} {r : α} (h : zg c x = some r) : c ∧ x = some r := by
  unfold zg at h
  by_cases hc : c
  · rw [if_pos hc] at h; exact ⟨hc, h⟩
  · rw [if_neg hc] at h; cases h
theorem zt {α : Sort _} {c : Prop} (k : c) {i : Decidable c} {a b r : α} (h : (if c then a else b) = r) : a = r := by rw [if_pos k] at h; exact h
theorem zf {α : Sort _} {c : Prop} (k : ¬ c) {i : Decidable c} {a b r : α} (h : (if c then a else b) = r) : b = r := by rw [if_neg k] at h; exact h
theorem zfn {α : Sort _} {c : Prop} (k : c) {i : Decidable (¬ c)} {a b r : α} (h : (if ¬ c then a else b) = r) : b = r := by rw [if_neg (fun q => q k)] at h; exact h
theorem zn_s {α β : Type} {a y : α} {f : α → β} {r : β} (e : y = a) (h : zn a f = r) : f y = r := by subst e; exact h
theorem zex {α : Type} (a : α) : ∃ y : α, y = a := ⟨a, rfl⟩
theorem zb_e {α γ : Type} {x : Option α} {f : α → Option γ} {r : γ} (h : zb x f = some r) : ∃ a, x = some a ∧ f a = some r := by
  cases x with
  | none => cases h
  | some a => exact ⟨a, rfl, h⟩
theorem zb1_e {α γ : Type} {x : Option α} {f : α → Option γ} {r : γ} (h : zb1 x f = some r) : ∃ a, x = some a ∧ f a = some r := zb_e h
theorem zb2_e {α β γ : Type} {x : Option (α × β)} {f : α → β → Option γ} {r : γ} (h : zb2 x f = some r) : ∃ a b, x = some (a, b) ∧ f a b = some r := by
  obtain ⟨a, h1, h2⟩ := zb_e h; exact ⟨a.1, a.2, h1, h2⟩
theorem zb3_e {α β δ γ : Type} {x : Option (α × β × δ)} {f : α → β → δ → Option γ} {r : γ} (h : zb3 x f = some r) : ∃ a b c, x = some (a, b, c) ∧ f a b c = some r := by
  obtain ⟨a, h1, h2⟩ := zb_e h; exact ⟨a.1, a.2.1, a.2.2, h1, h2⟩
theorem zb0_i {γ : Type} {x : Option Unit} {f : Option γ} {r : γ} (h : zb0 x f = some r) : ∃ z, x = some z ∧ (() = z → f = some r) := by
  obtain ⟨a, h1, h2⟩ := zb_e h; exact ⟨a, h1, fun _ => h2⟩
theorem zb1_i {α γ : Type} {x : Option α} {f : α → Option γ} {r : γ} (h : zb1 x f = some r) : ∃ z, x = some z ∧ ∀ a, a = z → f a = some r := by
  obtain ⟨a, h1, h2⟩ := zb_e h; exact ⟨a, h1, fun _ e => by subst e; exact h2⟩
theorem zb2_i {α β γ : Type} {x : Option (α × β)} {f : α → β → Option γ} {r : γ} (h : zb2 x f = some r) : ∃ z, x = some z ∧ ∀ a b, (a, b) = z → f a b = some r := by
  obtain ⟨a, h1, h2⟩ := zb_e h; exact ⟨a, h1, fun _ _ e => by subst e; exact h2⟩
theorem zb3_i {α β δ γ : Type} {x : Option (α × β × δ)} {f : α → β → δ → Option γ} {r : γ} (h : zb3 x f = some r) : ∃ z, x = some z ∧ ∀ a b c, (a, b, c) = z → f a b c = some r := by
  obtain ⟨a, h1, h2⟩ := zb_e h; exact ⟨a, h1, fun _ _ _ e => by subst e; exact h2⟩
theorem zb4_i {α β δ ε γ : Type} {x : Option (α × β × δ × ε)} {f : α → β → δ → ε → Option γ} {r : γ} (h : zb4 x f = some r) : ∃ z, x = some z ∧ ∀ a b c d, (a, b, c, d) = z → f a b c d = some r := by
  obtain ⟨a, h1, h2⟩ := zb_e h; exact ⟨a, h1, fun _ _ _ _ e => by subst e; exact h2⟩
theorem zb5_i {α β δ ε ζ γ : Type} {x : Option (α × β × δ × ε × ζ)} {f : α → β → δ → ε → ζ → Option γ} {r : γ} (h : zb5 x f = some r) : ∃ z, x = some z ∧ ∀ a b c d e, (a, b, c, d, e) = z → f a b c d e = some r := by
  obtain ⟨a, h1, h2⟩ := zb_e h; exact ⟨a, h1, fun _ _ _ _ _ e => by subst e; exact h2⟩
theorem zb6_i {α β δ ε ζ η γ : Type} {x : Option (α × β × δ × ε × ζ × η)} {f : α → β → δ → ε → ζ → η → Option γ} {r : γ} (h : zb6 x f = some r) : ∃ z, x = some z ∧ ∀ a b c d e g, (a, b, c, d, e, g) = z → f a b c d e g = some r := by
  obtain ⟨a, h1, h2⟩ := zb_e h; exact ⟨a, h1, fun _ _ _ _ _ _ e => by subst e; exact h2⟩
theorem zb7_i {α β δ ε ζ η θ γ : Type} {x : Option (α × β × δ × ε × ζ × η × θ)} {f : α → β → δ → ε → ζ → η → θ → Option γ} {r : γ} (h : zb7 x f = some r) : ∃ z, x = some z ∧ ∀ a b c d e g k, (a, b, c, d, e, g, k) = z → f a b c d e g k = some r := by
  obtain ⟨a, h1, h2⟩ := zb_e h; exact ⟨a, h1, fun _ _ _ _ _ _ _ e => by subst e; exact h2⟩
theorem zc_e {α γ : Type} {x : Option (α ⊕ γ)} {f : α → Option γ} {r : γ} (h : zc x f = some r) : ∃ z, x = some z ∧ (∀ a, .inl a = z → f a = some r) ∧ ∀ t, .inr t = z → some t = some r := by
  cases x with
  | none => cases h
  | some a => cases a with
    | inl a => exact ⟨_, rfl, fun b e => (by cases e; exact h), fun t e => (by cases e)⟩
    | inr t => exact ⟨_, rfl, fun b e => (by cases e), fun t e => (by cases e; exact h)⟩
theorem zc0_i {γ : Type} {x : Option (Unit ⊕ γ)} {f : Option γ} {r : γ} (h : zc0 x f = some r) : ∃ z, x = some z ∧ (.inl () = z → f = some r) ∧ ∀ t, .inr t = z → some t = some r := by
  obtain ⟨z, h1, h2, h3⟩ := zc_e h; exact ⟨z, h1, fun e => h2 _ e, h3⟩
theorem zc1_i {α γ : Type} {x : Option (α ⊕ γ)} {f : α → Option γ} {r : γ} (h : zc1 x f = some r) : ∃ z, x = some z ∧ (∀ a, .inl a = z → f a = some r) ∧ ∀ t, .inr t = z → some t = some r := zc_e h
theorem zc2_i {α β γ : Type} {x : Option ((α × β) ⊕ γ)} {f : α → β → Option γ} {r : γ} (h : zc2 x f = some r) : ∃ z, x = some z ∧ (∀ a b, .inl (a, b) = z → f a b = some r) ∧ ∀ t, .inr t = z → some t = some r := by
  obtain ⟨z, h1, h2, h3⟩ := zc_e h; exact ⟨z, h1, fun _ _ e => h2 _ e, h3⟩
theorem zc3_i {α β δ γ : Type} {x : Option ((α × β × δ) ⊕ γ)} {f : α → β → δ → Option γ} {r : γ} (h : zc3 x f = some r) : ∃ z, x = some z ∧ (∀ a b c, .inl (a, b, c) = z → f a b c = some r) ∧ ∀ t, .inr t = z → some t = some r := by
  obtain ⟨z, h1, h2, h3⟩ := zc_e h; exact ⟨z, h1, fun _ _ _ e => h2 _ e, h3⟩
theorem zc4_i {α β δ ε γ : Type} {x : Option ((α × β × δ × ε) ⊕ γ)} {f : α → β → δ → ε → Option γ} {r : γ} (h : zc4 x f = some r) : ∃ z, x = some z ∧ (∀ a b c d, .inl (a, b, c, d) = z → f a b c d = some r) ∧ ∀ t, .inr t = z → some t = some r := by
  obtain ⟨z, h1, h2, h3⟩ := zc_e h; exact ⟨z, h1, fun _ _ _ _ e => h2 _ e, h3⟩
theorem zc5_i {α β δ ε ζ γ : Type} {x : Option ((α × β × δ × ε × ζ) ⊕ γ)} {f : α → β → δ → ε → ζ → Option γ} {r : γ} (h : zc5 x f = some r) : ∃ z, x = some z ∧ (∀ a b c d g, .inl (a, b, c, d, g) = z → f a b c d g = some r) ∧ ∀ t, .inr t = z → some t = some r := by
  obtain ⟨z, h1, h2, h3⟩ := zc_e h; exact ⟨z, h1, fun _ _ _ _ _ e => h2 _ e, h3⟩
theorem z01 {x : Int32} (h : x = 0 ∨ x = 1) : narrow .boolean (.int x) = .int x := by rcases h with rfl | rfl <;> rfl
-- worlds by index
abbrev zK : Type := Nat → (Nat → Int32) → (Nat → Int64) → va_E
abbrev zI : Type := Nat → Nat → Int32
abbrev zJ : Type := Nat → Nat → Int64
def zw (N : Nat) (K : zK) (ad : Nat → Nat) (I : zI) (J : zJ) : va_W := (List.range N).map (fun k => (ad k, K k (I k) (J k)))
theorem zw_get {N : Nat} {K : zK} {ad : Nat → Nat} {I : zI} {J : zJ} {k : Nat} (h : k < N) : (zw N K ad I J)[k]? = some (ad k, K k (I k) (J k)) := by simp [zw, h]
theorem zw_set {N : Nat} {K : zK} {ad : Nat → Nat} {I I2 : zI} {J J2 : zJ} {k : Nat} {e : va_E} (hI : ∀ n, n ≠ k → I2 n = I n) (hJ : ∀ n, n ≠ k → J2 n = J n) (he : K k (I2 k) (J2 k) = e) : (zw N K ad I J).set k (ad k, e) = zw N K ad I2 J2 := by
  apply List.ext_getElem?
  intro n
  by_cases hn : n = k
  · subst hn
    by_cases hl : n < N
    · rw [List.getElem?_set_self (by simp [zw, hl]), zw_get hl, he]
    · simp [zw, hl]
  · rw [List.getElem?_set_ne (fun q => hn q.symm)]
    by_cases hl : n < N
    · rw [zw_get hl, zw_get hl, hI n hn, hJ n hn]
    · simp [zw, hl]
def zIA (N : Nat) (K : zK) (cA : ClassId) (k n : Nat) : Prop := k < N ∧ ∀ i j, K k i j = .inl (cA, n, .inl i)
def zLA (N : Nat) (K : zK) (cA : ClassId) (k n : Nat) : Prop := k < N ∧ ∀ i j, K k i j = .inl (cA, n, .inr (.inl j))
def zRA (N : Nat) (K : zK) (cA : ClassId) (k n : Nat) (f : Nat → Option Nat) : Prop := k < N ∧ ∀ i j, K k i j = .inl (cA, n, .inr (.inr (.inr (.inr f))))
def zO (N : Nat) (K : zK) (k ci : Nat) (F : (Nat → Int32) → (Nat → Int64) → List Value) : Prop := k < N ∧ ∀ i j, K k i j = .inr (ci, F i j)
section ZW
variable {N : Nat} {K : zK} {ad : Nat → Nat} {I I2 : zI} {J J2 : zJ} {k n ci : Nat} {cA : ClassId} {F : (Nat → Int32) → (Nat → Int64) → List Value} {f : Nat → Option Nat}
theorem zIA.get (h : zIA N K cA k n) : (zw N K ad I J)[k]? = some (ad k, .inl (cA, n, .inl (I k))) := by rw [zw_get h.1, h.2]
theorem zLA.get (h : zLA N K cA k n) : (zw N K ad I J)[k]? = some (ad k, .inl (cA, n, .inr (.inl (J k)))) := by rw [zw_get h.1, h.2]
theorem zRA.get (h : zRA N K cA k n f) : (zw N K ad I J)[k]? = some (ad k, .inl (cA, n, .inr (.inr (.inr (.inr f))))) := by rw [zw_get h.1, h.2]
theorem zO.get (h : zO N K k ci F) : (zw N K ad I J)[k]? = some (ad k, .inr (ci, F (I k) (J k))) := by rw [zw_get h.1, h.2]
theorem zIA.set (h : zIA N K cA k n) {r : Nat → Int32} (e : I2 = va_up I k r) : (zw N K ad I J).set k (ad k, .inl (cA, n, .inl r)) = zw N K ad I2 J := by
  subst e
  refine zw_set (fun n hn => by simp [va_up, hn]) (fun _ _ => rfl) ?_
  rw [h.2]; simp [va_up]
theorem zLA.set (h : zLA N K cA k n) {r : Nat → Int64} (e : J2 = va_up J k r) : (zw N K ad I J).set k (ad k, .inl (cA, n, .inr (.inl r))) = zw N K ad I J2 := by
  subst e
  refine zw_set (fun _ _ => rfl) (fun n hn => by simp [va_up, hn]) ?_
  rw [h.2]; simp [va_up]
theorem zO.setI (h : zO N K k ci F) {i : Nat → Int32} {vs : List Value} (hF : F i (J k) = vs) (e : I2 = va_up I k i) : (zw N K ad I J).set k (ad k, .inr (ci, vs)) = zw N K ad I2 J := by
  subst e
  refine zw_set (fun n hn => by simp [va_up, hn]) (fun _ _ => rfl) ?_
  rw [h.2]; simp [va_up, hF]
theorem zO.setJ (h : zO N K k ci F) {j : Nat → Int64} {vs : List Value} (hF : F (I k) j = vs) (e : J2 = va_up J k j) : (zw N K ad I J).set k (ad k, .inr (ci, vs)) = zw N K ad I J2 := by
  subst e
  refine zw_set (fun _ _ => rfl) (fun n hn => by simp [va_up, hn]) ?_
  rw [h.2]; simp [va_up, hF]
end ZW
