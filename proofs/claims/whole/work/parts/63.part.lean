/-! parting: the cheapest ways, by what is left and by the wear -/
theorem zl_inv {V E : Type} {b : V → Option (V ⊕ E)} (P : Nat → V → Prop) (Q : E → Prop) : ∀ (k i : Nat) (v : V), P i v → (∀ j v, i ≤ j → j < i + k → P j v → ∃ v', b v = some (.inl v') ∧ P (j + 1) v') → (∀ v, P (i + k) v → ∃ e, b v = some (.inr e) ∧ Q e) → ∀ n, k < n → ∃ e, zl b n v = some e ∧ Q e := by
  intro k
  induction k with
  | zero =>
    intro i v hP hs he n hn
    obtain ⟨e, h1, h2⟩ := he v hP
    obtain ⟨m, rfl⟩ : ∃ m, n = m + 1 := ⟨n - 1, by omega⟩
    exact ⟨e, zl_r h1, h2⟩
  | succ k ih =>
    intro i v hP hs he n hn
    obtain ⟨v', h1, h2⟩ := hs i v (by omega) (by omega) hP
    obtain ⟨m, rfl⟩ : ∃ m, n = m + 1 := ⟨n - 1, by omega⟩
    rw [zl_l h1]
    refine ih (i + 1) v' h2 (fun j w h3 h4 => hs j w (by omega) (by omega)) (fun w hw => he w ?_) m (by omega)
    rw [show i + (k + 1) = i + 1 + k by omega]; exact hw
abbrev zP3 : Type := Option (Nat × Nat × Nat)
def bsN (c m k : Nat) (o : zP3) : zP3 := match o with
  | none => some (c, m, k)
  | some q => if c < q.1 ∨ (c = q.1 ∧ m < q.2.1) then some (c, m, k) else some q
def bs (f : Nat → Option (Nat × Nat)) : Nat → zP3
  | 0 => none
  | k + 1 => match f k with
    | none => bs f k
    | some v => bsN v.1 v.2 k (bs f k)
abbrev okP (b : zB) (p h l w a : Nat) : Prop := canP b l a ∧ w + wrs b p (a / 8) (a % 8 + 1) h ≤ 100 ∧ (a % 8 + 1 = l → w ≤ b 4 p)
def cd (b : zB) (p h : Nat) (T : Nat → Nat → zP3) (l w a : Nat) : Option (Nat × Nat) := if okP b p h l w a then (T (l - (a % 8 + 1)) (w + wrs b p (a / 8) (a % 8 + 1) h)).map (fun q => (q.1 + mins b p (a / 8) * b 9 5, q.2.1 + 1)) else none
def ptN (b : zB) (p h : Nat) : Nat → Nat → Nat → zP3
  | 0, _, _ => some (0, 0, 0)
  | n + 1, l, w => if l = n + 1 then bs (cd b p h (ptN b p h n) (n + 1) w) 48 else ptN b p h n l w
def tab (b : zB) (p h l w : Nat) : zP3 := ptN b p h l l w
theorem bs_eq {f g : Nat → Option (Nat × Nat)} : ∀ n, (∀ k, k < n → f k = g k) → bs f n = bs g n := by
  intro n
  induction n with
  | zero => intro _; rfl
  | succ n ih => intro h; unfold bs; rw [h n (by omega), ih (fun k hk => h k (by omega))]
theorem ptN_tab (b : zB) (p h : Nat) : ∀ n l, l ≤ n → ∀ w, ptN b p h n l w = tab b p h l w := by
  intro n
  induction n with
  | zero => intro l hl w; rw [show l = 0 by omega]; rfl
  | succ n ih =>
    intro l hl w
    by_cases c : l = n + 1
    · rw [c]; rfl
    · rw [ptN, if_neg c]; exact ih l (by omega) w
theorem tab_0 (b : zB) (p h w : Nat) : tab b p h 0 w = some (0, 0, 0) := rfl
theorem cd_n {b : zB} {p h : Nat} {T : Nat → Nat → zP3} {l w a : Nat} (k : ¬ okP b p h l w a) : cd b p h T l w a = none := by unfold cd; rw [if_neg k]
theorem cd_p {b : zB} {p h : Nat} {T : Nat → Nat → zP3} {l w a : Nat} (k : okP b p h l w a) : cd b p h T l w a = (T (l - (a % 8 + 1)) (w + wrs b p (a / 8) (a % 8 + 1) h)).map (fun q => (q.1 + mins b p (a / 8) * b 9 5, q.2.1 + 1)) := by unfold cd; rw [if_pos k]
theorem tab_s (b : zB) (p h l w : Nat) : tab b p h (l + 1) w = bs (cd b p h (tab b p h) (l + 1) w) 48 := by
  show ptN b p h (l + 1) (l + 1) w = _
  rw [ptN, if_pos rfl]
  refine bs_eq 48 (fun k _ => ?_)
  by_cases c : okP b p h (l + 1) w k
  · rw [cd_p c, cd_p c, ptN_tab b p h l _ (by omega)]
  · rw [cd_n c, cd_n c]
theorem bs_n {f : Nat → Option (Nat × Nat)} {k : Nat} (h : f k = none) : bs f (k + 1) = bs f k := by rw [bs, h]
theorem bs_c {f : Nat → Option (Nat × Nat)} {k c m : Nat} (h : f k = some (c, m)) : bs f (k + 1) = bsN c m k (bs f k) := by rw [bs, h]
/-- a number that bounds all -/
theorem bs_ok {f : Nat → Option (Nat × Nat)} {C M : Nat} (hf : ∀ k v, f k = some v → v.1 ≤ C ∧ v.2 ≤ M) : ∀ n q, bs f n = some q → q.1 ≤ C ∧ q.2.1 ≤ M ∧ q.2.2 < n := by
  intro n
  induction n with
  | zero => intro q h; cases h
  | succ n ih =>
    intro q h
    cases g : f n with
    | none => rw [bs_n g] at h; have := ih q h; exact ⟨this.1, this.2.1, by omega⟩
    | some v =>
      have hv := hf n v g
      rw [bs_c (c := v.1) (m := v.2) g] at h
      cases g2 : bs f n with
      | none => rw [g2] at h; cases h; exact ⟨hv.1, hv.2, by simp⟩
      | some q0 =>
        rw [g2] at h
        have h : (if v.1 < q0.1 ∨ (v.1 = q0.1 ∧ v.2 < q0.2.1) then some (v.1, v.2, n) else some q0) = some q := h
        by_cases c : v.1 < q0.1 ∨ (v.1 = q0.1 ∧ v.2 < q0.2.1)
        · rw [if_pos c] at h; cases h; exact ⟨hv.1, hv.2, by simp⟩
        · rw [if_neg c] at h; have e2 : q0 = q := Option.some.inj h; have h3 := ih q0 g2; rw [← e2]; exact ⟨h3.1, h3.2.1, by omega⟩
theorem minc_le {b : zB} (hb : bOk b) {p i : Nat} (hp : p < b 9 1) (hi : i < b 9 0) : mins b p i ≤ 10000 ∧ mins b p i * b 9 5 ≤ 9990000 := by
  have h3 := hb.2.2.2.1.2.2
  have h4 : mins b p i ≤ 10000 := (mins_le hb hp hi).2
  refine ⟨h4, ?_⟩
  calc mins b p i * b 9 5 ≤ 10000 * 999 := Nat.mul_le_mul h4 h3
    _ = 9990000 := by decide
theorem tab_ok {b : zB} (hb : bOk b) {p h : Nat} (hp : p < b 9 1) : ∀ n l, l ≤ n → ∀ w q, tab b p h l w = some q → q.1 ≤ l * 10000000 ∧ q.2.1 ≤ l ∧ q.2.2 < 48 := by
  intro n
  induction n with
  | zero => intro l hl w q hq; rw [show l = 0 by omega, tab_0] at hq; cases hq; rw [show l = 0 by omega]; exact ⟨by decide, by decide, by decide⟩
  | succ n ih =>
    intro l hl w q hq
    rcases Nat.eq_zero_or_pos l with z | z
    · rw [z, tab_0] at hq; cases hq; rw [z]; exact ⟨by decide, by decide, by decide⟩
    · obtain ⟨l', rfl⟩ : ∃ l', l = l' + 1 := ⟨l - 1, by omega⟩
      rw [tab_s] at hq
      refine bs_ok (fun k v hv => ?_) 48 q hq
      by_cases c : okP b p h (l' + 1) w k
      · rw [cd_p c] at hv
        cases g : tab b p h (l' + 1 - (k % 8 + 1)) (w + wrs b p (k / 8) (k % 8 + 1) h) with
        | none => rw [g] at hv; cases hv
        | some q2 =>
          rw [g] at hv; cases hv
          have h1 := ih _ (by omega) _ _ g
          have h2 := (minc_le hb hp c.1.1).2
          have h3 : (l' + 1 - (k % 8 + 1)) * 10000000 ≤ l' * 10000000 := Nat.mul_le_mul_right _ (by omega)
          refine ⟨?_, ?_⟩
          · show q2.1 + mins b p (k / 8) * b 9 5 ≤ (l' + 1) * 10000000
            exact Nat.le_trans (Nat.add_le_add (Nat.le_trans h1.1 h3) (Nat.le_trans h2 (show 9990000 ≤ 10000000 by decide))) (Nat.le_of_eq (Nat.succ_mul _ _).symm)
          · show q2.2.1 + 1 ≤ l' + 1
            omega
      · rw [cd_n c] at hv; cases hv
/-- the reference's cell -/
def cM (I : zI) (x : Nat) (t : zP3) : Prop := match t with
  | none => I 19 x = nI 1000000000
  | some q => I 19 x = nI q.1 ∧ I 20 x = nI q.2.1 ∧ (101 ≤ x → I 21 x = nI q.2.2)
/-- the class's cell -/
def cX (I : zI) (J : zJ) (x : Nat) (t : zP3) : Prop := match t with
  | none => I 42 x = -4
  | some q => J 40 x = lN q.1 ∧ I 41 x = nI q.2.1 ∧ I 42 x = nI q.2.2
theorem cM.eq {I I2 : zI} {x : Nat} {t : zP3} (h : cM I x t) (e1 : I2 19 x = I 19 x) (e2 : I2 20 x = I 20 x) (e3 : I2 21 x = I 21 x) : cM I2 x t := by
  cases t with
  | none => show I2 19 x = _; rw [e1]; exact h
  | some q => show I2 19 x = _ ∧ I2 20 x = _ ∧ (101 ≤ x → I2 21 x = _); rw [e1, e2, e3]; exact h
theorem cX.eq {I I2 : zI} {J J2 : zJ} {x : Nat} {t : zP3} (h : cX I J x t) (e1 : J2 40 x = J 40 x) (e2 : I2 41 x = I 41 x) (e3 : I2 42 x = I 42 x) : cX I2 J2 x t := by
  cases t with
  | none => show I2 42 x = _; rw [e3]; exact h
  | some q => show J2 40 x = _ ∧ I2 41 x = _ ∧ I2 42 x = _; rw [e1, e2, e3]; exact h
/-- all but rows 19, 20, 21 at x stays -/
def oM (I I2 : zI) (x : Nat) : Prop := (∀ k, k < 19 ∨ 21 < k → I2 k = I k) ∧ ∀ k y, y ≠ x → I2 k y = I k y
theorem oM.refl {I : zI} {x : Nat} : oM I I x := ⟨fun _ _ => rfl, fun _ _ _ => rfl⟩
theorem oM.up {I I2 : zI} {x k : Nat} {v : Int32} (h : oM I I2 x) (h1 : 19 ≤ k) (h2 : k ≤ 21) : oM I (va_up I2 k (upd (I2 k) x v)) x := by
  refine ⟨fun j hj => ?_, fun j y hy => ?_⟩
  · rw [up_n (by omega)]; exact h.1 j hj
  · by_cases c : j = k
    · rw [c, up_s, ud_n hy]; exact h.2 k y hy
    · rw [up_n c]; exact h.2 j y hy
theorem cd_ok {b : zB} (hb : bOk b) {p h l w k : Nat} {v : Nat × Nat} (hp : p < b 9 1) (hl : 1 ≤ l) (hv : cd b p h (tab b p h) l w k = some v) : v.1 ≤ l * 10000000 ∧ v.2 ≤ l := by
  by_cases c : okP b p h l w k
  · rw [cd_p c] at hv
    cases g : tab b p h (l - (k % 8 + 1)) (w + wrs b p (k / 8) (k % 8 + 1) h) with
    | none => rw [g] at hv; cases hv
    | some q2 =>
      rw [g] at hv; cases hv
      have h1 := tab_ok hb hp _ _ (Nat.le_refl _) _ _ g
      have h2 := (minc_le hb hp c.1.1).2
      refine ⟨?_, ?_⟩
      · show q2.1 + mins b p (k / 8) * b 9 5 ≤ l * 10000000
        generalize mins b p (k / 8) * b 9 5 = z at h2
        have h3 := h1.1
        generalize q2.1 = y at h3
        omega
      · show q2.2.1 + 1 ≤ l
        have h4 := h1.2.1
        generalize q2.2.1 = y at h4
        omega
  · rw [cd_n c] at hv; cases hv
theorem nI_ltT {a c : Nat} (h : a < c) (hc : c < 2 ^ 31) : nI a < nI c := by rw [i32_lt, nI_toInt (by omega), nI_toInt (by omega)]; omega
theorem nI_ltF {a c : Nat} (h : c ≤ a) (hc : a < 2 ^ 31) : ¬ nI a < nI c := by rw [i32_lt, nI_toInt (by omega), nI_toInt (by omega)]; omega
theorem nI_eqF {a c : Nat} (h : a ≠ c) (ha : a < 2 ^ 31) (hc : c < 2 ^ 31) : ¬ nI a = nI c := fun e => by
  have h1 := congrArg Int32.toInt e
  rw [nI_toInt ha, nI_toInt hc] at h1
  omega
theorem m_parts {b : zB} (hb : bOk b) {I : zI} {J : zJ} (hM : rM b I) {p h l w : Nat} (hp : p < b 9 1) (hh : h < b 9 2) (hl : 1 ≤ l ∧ l ≤ 8) (hw : w ≤ 100) (hc : ∀ l' w', l' < l → w' ≤ 100 → cM I (101 * l' + w') (tab b p h l' w')) : ∃ I2 : zI, f_X12_parts I J (nI p) (nI h) (nI l) (nI w) = some I2 ∧ oM I I2 (101 * l + w) ∧ cM I2 (101 * l + w) (tab b p h l w) := by
  have h8 := bP hb
  have hy : (101 : Int32) * nI l + nI w = nI (101 * l + w) := by rw [show (101 : Int32) * nI l = nI (101 * l) from nI_mul 101 l, nI_add]
  have hyl : 101 * l + w < 909 := by omega
  have run : ∃ I2, zl (fun v : (Int32 × zI) => f_X12_parts_L21 J (nI p) (nI l) (nI w) (nI h) (nI (101 * l + w)) v.1 v.2) zF (0, va_up I 19 (upd (I 19) (101 * l + w) 1000000000)) = some I2 ∧ (oM I I2 (101 * l + w) ∧ cM I2 (101 * l + w) (bs (cd b p h (tab b p h) l w) 48)) := by
    refine zl_inv (fun k v => v.1 = nI k ∧ oM I v.2 (101 * l + w) ∧ cM v.2 (101 * l + w) (bs (cd b p h (tab b p h) l w) k)) _ 48 0 _ ⟨rfl, oM.refl.up (by omega) (by omega), ?_⟩ ?_ ?_ zF (by unfold zF; omega)
    · show va_up I 19 (upd (I 19) (101 * l + w) 1000000000) 19 (101 * l + w) = _
      rw [up_s, ud_s]; rfl
    · intro k v _ hk hv
      obtain ⟨x5, I6⟩ := v
      obtain ⟨h1, h2, h3⟩ := hv
      have h1 : x5 = nI k := h1
      subst h1
      have hM6 : rM b I6 := hM.eq (fun j _ _ => h2.1 j (by omega))
      show ∃ v', f_X12_parts_L21 J (nI p) (nI l) (nI w) (nI h) (nI (101 * l + w)) (nI k) I6 = some (.inl v') ∧ _
      unfold f_X12_parts_L21
      rw [if_neg (show ¬ (48 : Int32) ≤ nI k from nI_ge (a := k) (b := 48) (by omega) (by omega)), zn_e, show (nI k - nI k / 8 * 8) + 1 = nI (k % 8 + 1) from by rw [show (8 : Int32) = nI 8 from rfl, nI_mod (by omega) (by omega), show (1 : Int32) = nI 1 from rfl, nI_add], m_can hb hM6 (by omega) (by omega), zb1_s, zif]
      have h31 : nI k + 1 = nI (k + 1) := nI_1 k
      have hdiv : nI k / 8 = nI (k / 8) := nI_div (b := 8) (by omega) (by omega)
      by_cases c1 : canP b l k
      case neg =>
        rw [if_neg c1, zb1_s, if_pos (show (100 : Int32) < 101 by decide), zb1_s, if_pos rfl, zb1_s, if_pos rfl, zn_e, h31]
        exact ⟨_, rfl, rfl, h2, by rw [bs_n (cd_n (fun z => c1 z.1))]; exact h3⟩
      rw [if_pos c1, hdiv, m_wears hb hM6 hp c1.1 hh (by omega), zb1_s, nI_add, zb1_s]
      have hwb := (wrs_le hb hp c1.1 hh (show k % 8 + 1 ≤ 8 by omega)).2.2
      have hwr : wrs b p (k / 8) (k % 8 + 1) h ≤ 31649 := by unfold wrs; omega
      by_cases c2 : w + wrs b p (k / 8) (k % 8 + 1) h ≤ 100
      case neg =>
        rw [if_pos (show (100 : Int32) < nI (w + wrs b p (k / 8) (k % 8 + 1) h) from nI_ltT (a := 100) (by omega) (by omega)), zb1_s, if_pos rfl, zb1_s, if_pos rfl, zn_e, h31]
        exact ⟨_, rfl, rfl, h2, by rw [bs_n (cd_n (fun z => c2 z.2.1))]; exact h3⟩
      rw [if_neg (show ¬ (100 : Int32) < nI (w + wrs b p (k / 8) (k % 8 + 1) h) from nI_ltF (a := 100) (by omega) (by omega))]
      have hx23 : (if nI (k % 8 + 1) < nI l then some (1 : Int32) else zg (¬ (((4 * nI p) + 2) < 0 ∨ 64 ≤ ((4 * nI p) + 2).toNatClampNeg)) (if (I6 6 ((4 * nI p) + 2).toNatClampNeg) < nI w then some 0 else some 1)) = some (zi (k % 8 + 1 = l → w ≤ b 4 p)) := by
        by_cases d1 : k % 8 + 1 < l
        · rw [if_pos (nI_ltT d1 (by omega))]
          rw [show zi (k % 8 + 1 = l → w ≤ b 4 p) = 1 from if_pos (fun z => by omega)]
        · have d2 : k % 8 + 1 = l := by have := c1.2.1; omega
          have hf := (hb.2.2.2.2.2.2.1 p hp).2.2.1
          rw [if_neg (nI_ltF (by omega) (by omega)), m_4i, show (2 : Int32) = nI 2 from rfl, nI_add, zg_t (nI_in (by omega) (by omega)), nI_clamp (by omega), (hM6.2.2.2.1 p hp).2.2.1]
          by_cases d3 : w ≤ b 4 p
          · rw [if_neg (nI_ltF d3 (by omega)), show zi (k % 8 + 1 = l → w ≤ b 4 p) = 1 from if_pos (fun _ => d3)]
          · rw [if_pos (nI_ltT (by omega) (by omega)), show zi (k % 8 + 1 = l → w ≤ b 4 p) = 0 from if_neg (fun z => d3 (z d2))]
      rw [hx23, zb1_s, zif]
      by_cases c3 : k % 8 + 1 = l → w ≤ b 4 p
      case neg =>
        rw [if_neg c3, zb1_s, zif, if_neg c3, zn_e, h31]
        exact ⟨_, rfl, rfl, h2, by rw [bs_n (cd_n (fun z => c3 z.2.2))]; exact h3⟩
      rw [if_pos c3, nI_sub (show k % 8 + 1 ≤ l by have := c1.2.1; omega), show (101 : Int32) = nI 101 from rfl, nI_mul, nI_add, zb1_s, zif, if_pos c3]
      have hok : okP b p h l w k := ⟨c1, c2, c3⟩
      have hcd := cd_p (T := tab b p h) hok
      have hin := hc (l - (k % 8 + 1)) (w + wrs b p (k / 8) (k % 8 + 1) h) (by omega) c2
      have htk := tab_ok hb hp _ _ (Nat.le_refl (l - (k % 8 + 1))) (h := h) (w + wrs b p (k / 8) (k % 8 + 1) h)
      have hne : 101 * (l - (k % 8 + 1)) + (w + wrs b p (k / 8) (k % 8 + 1) h) ≠ 101 * l + w := by omega
      have hlt : 101 * (l - (k % 8 + 1)) + (w + wrs b p (k / 8) (k % 8 + 1) h) < 909 := by omega
      have e19 : I6 19 _ = I 19 _ := h2.2 19 _ hne
      have e20 : I6 20 _ = I 20 _ := h2.2 20 _ hne
      generalize 101 * (l - (k % 8 + 1)) + (w + wrs b p (k / 8) (k % 8 + 1) h) = x at *
      simp only [zg_t (nI_in hlt (show 909 < 2 ^ 31 by omega)), zg_t (nI_in hyl (show 909 < 2 ^ 31 by omega))]
      simp only [nI_clamp (show x < 2 ^ 31 by omega), nI_clamp (show 101 * l + w < 2 ^ 31 by omega)]
      rw [e19]
      cases g : tab b p h (l - (k % 8 + 1)) (w + wrs b p (k / 8) (k % 8 + 1) h) with
      | none =>
        rw [g] at hin hcd
        have hin : I 19 x = nI 1000000000 := hin
        rw [hin, if_pos (show (1000000000 : Int32) ≤ nI 1000000000 by decide), zn_e, h31]
        exact ⟨(nI (k + 1), I6), rfl, rfl, h2, by rw [bs_n hcd]; exact h3⟩
      | some q =>
        rw [g] at hin hcd
        have hq := htk q g
        have hin : I 19 x = nI q.1 ∧ I 20 x = nI q.2.1 ∧ (101 ≤ x → I 21 x = nI q.2.2) := hin
        have hcd : cd b p h (tab b p h) l w k = some (q.1 + mins b p (k / 8) * b 9 5, q.2.1 + 1) := hcd
        have hok2 := cd_ok hb hp (by omega) hcd
        have hq1 : q.1 ≤ 80000000 := by have := hq.1; omega
        rw [hin.1, if_neg (show ¬ (1000000000 : Int32) ≤ nI q.1 from nI_ge (b := 1000000000) (by omega) (by omega)), m_minutes hb hM6 hp c1.1, zb1_s, zg_t (by decide), show (2 : Int32).toNatClampNeg = 2 from rfl, hM6.2.1 2 (by omega), nI_mul, nI_add, zn_e, e20, hin.2.1, nI_1, zn_e]
        have hcm : q.1 + mins b p (k / 8) * b 9 (3 + 2) ≤ 80000000 := Nat.le_trans hok2.1 (by omega)
        have hm8 : q.2.1 + 1 ≤ 8 := Nat.le_trans hok2.2 hl.2
        have hset : ∀ o, o = some (q.1 + mins b p (k / 8) * b 9 (3 + 2), q.2.1 + 1, k) → ∃ v', (zn (va_up I6 19 (upd (I6 19) (101 * l + w) (nI (q.1 + mins b p (k / 8) * b 9 (3 + 2))))) (fun I55 => zn (va_up I55 20 (upd (I55 20) (101 * l + w) (nI (q.2.1 + 1)))) (fun I57 => zn (va_up I57 21 (upd (I57 21) (101 * l + w) (nI k))) (fun I59 => zn (nI k + 1) (fun y61 => some (Sum.inl (β := zI) (y61, I59))))))) = some (.inl v') ∧ v'.1 = nI (k + 1) ∧ oM I v'.2 (101 * l + w) ∧ cM v'.2 (101 * l + w) o := by
          intro o ho
          simp only [zn_e, h31]
          refine ⟨_, rfl, rfl, ((h2.up (by omega) (by omega)).up (by omega) (by omega)).up (by omega) (by omega), ?_⟩
          rw [ho]
          refine ⟨?_, ?_, ?_⟩
          · dsimp only
            rw [up_n (show 19 ≠ 21 by decide), up_n (show 19 ≠ 20 by decide), up_s, ud_s]
          · dsimp only
            rw [up_n (show 20 ≠ 21 by decide), up_s, ud_s]
          · intro _
            dsimp only
            rw [up_s, ud_s]
        have hbs := bs_c hcd
        cases gr : bs (cd b p h (tab b p h) l w) k with
        | none =>
          rw [gr] at hbs h3
          have h3 : I6 19 (101 * l + w) = nI 1000000000 := h3
          rw [if_pos (show nI (q.1 + mins b p (k / 8) * b 9 (3 + 2)) < I6 19 (101 * l + w) from by rw [h3]; exact nI_ltT (by omega) (by omega))]
          exact hset _ hbs
        | some r =>
          have hr := bs_ok (fun k v hv => cd_ok hb hp (by omega) hv) k r gr
          have hr1 : r.1 ≤ 80000000 := Nat.le_trans hr.1 (by omega)
          have hr2 : r.2.1 ≤ 8 := Nat.le_trans hr.2.1 hl.2
          rw [gr] at hbs h3
          have h3 : I6 19 (101 * l + w) = nI r.1 ∧ I6 20 (101 * l + w) = nI r.2.1 ∧ (101 ≤ 101 * l + w → I6 21 (101 * l + w) = nI r.2.2) := h3
          have hbs : bs (cd b p h (tab b p h) l w) (k + 1) = if q.1 + mins b p (k / 8) * b 9 (3 + 2) < r.1 ∨ (q.1 + mins b p (k / 8) * b 9 (3 + 2) = r.1 ∧ q.2.1 + 1 < r.2.1) then some (q.1 + mins b p (k / 8) * b 9 (3 + 2), q.2.1 + 1, k) else some r := hbs
          rw [h3.1]
          by_cases d1 : q.1 + mins b p (k / 8) * b 9 (3 + 2) < r.1
          · rw [if_pos (nI_ltT d1 (by omega))]
            rw [if_pos (Or.inl d1)] at hbs
            exact hset _ hbs
          · rw [if_neg (nI_ltF (by omega) (by omega))]
            by_cases d2 : q.1 + mins b p (k / 8) * b 9 (3 + 2) = r.1
            · rw [if_pos (by rw [d2]), h3.2.1]
              by_cases d3 : q.2.1 + 1 < r.2.1
              · rw [if_neg (nI_ge d3 (by omega))]
                rw [if_pos (Or.inr ⟨d2, d3⟩)] at hbs
                exact hset _ hbs
              · rw [if_pos (nI_le (by omega) (by omega)), zn_e, h31]
                rw [if_neg (by omega)] at hbs
                exact ⟨(nI (k + 1), I6), rfl, rfl, h2, by rw [hbs]; exact h3⟩
            · rw [if_neg (nI_eqF d2 (by omega) (by omega)), zn_e, h31]
              rw [if_neg (by omega)] at hbs
              exact ⟨(nI (k + 1), I6), rfl, rfl, h2, by rw [hbs]; exact h3⟩
    · intro v hv
      obtain ⟨x5, I6⟩ := v
      obtain ⟨h1, h2, h3⟩ := hv
      have h1 : x5 = nI 48 := h1
      subst h1
      exact ⟨I6, if_pos (nI_le (a := 48) (b := 48) (by omega) (by omega)), h2, h3⟩
  obtain ⟨I2, r1, r2, r3⟩ := run
  obtain ⟨l', rfl⟩ : ∃ l', l = l' + 1 := ⟨l - 1, by omega⟩
  refine ⟨I2, ?_, r2, by rw [tab_s]; exact r3⟩
  unfold f_X12_parts
  rw [zn_e, hy, zg_t (nI_in hyl (by omega)), zn_e, nI_clamp (by omega), r1, zb1_s]
