/-! the best of several, the lowest of them -/
def fmx (f : Nat → Option Int64) : Nat → Option (Nat × Int64)
  | 0 => none
  | k + 1 => match f k with
    | none => fmx f k
    | some v => match fmx f k with
      | none => some (k, v)
      | some q => if q.2 < v then some (k, v) else some q
def qI (o : Option (Nat × Int64)) : Int32 := match o with
  | none => -4
  | some q => nI q.1
def qV (o : Option (Nat × Int64)) : Int64 := match o with
  | none => 0
  | some q => q.2
theorem fmx_some {f : Nat → Option Int64} : ∀ {n : Nat} {q : Nat × Int64}, fmx f n = some q → q.1 < n ∧ f q.1 = some q.2 := by
  intro n
  induction n with
  | zero => intro q h; cases h
  | succ n ih =>
    intro q h
    unfold fmx at h
    cases hf : f n with
    | none => rw [hf] at h; have := ih h; exact ⟨by omega, this.2⟩
    | some v =>
      rw [hf] at h
      cases hg : fmx f n with
      | none => rw [hg] at h; cases h; exact ⟨by simp, hf⟩
      | some q0 =>
        rw [hg] at h
        have h : (if q0.2 < v then some (n, v) else some q0) = some q := h
        by_cases c : q0.2 < v
        · rw [if_pos c] at h; cases h; exact ⟨by simp, hf⟩
        · rw [if_neg c] at h; cases h; have := ih hg; exact ⟨by omega, this.2⟩
theorem fmx_n {f : Nat → Option Int64} {k : Nat} (h : f k = none) : fmx f (k + 1) = fmx f k := by rw [fmx, h]
theorem fmx_0 {f : Nat → Option Int64} {k : Nat} {v : Int64} (h : f k = some v) (g : fmx f k = none) : fmx f (k + 1) = some (k, v) := by rw [fmx, h, g]
theorem fmx_g {f : Nat → Option Int64} {k : Nat} {v : Int64} {q : Nat × Int64} (h : f k = some v) (g : fmx f k = some q) (c : q.2 < v) : fmx f (k + 1) = some (k, v) := by
  rw [fmx, h, g]; exact if_pos c
theorem fmx_l {f : Nat → Option Int64} {k : Nat} {v : Int64} {q : Nat × Int64} (h : f k = some v) (g : fmx f k = some q) (c : ¬ q.2 < v) : fmx f (k + 1) = some q := by
  rw [fmx, h, g]; exact if_neg c
section SP
variable {b : zB} {I : zI} {J : zJ}
def fEarn (b : zB) (p t : Nat) (i : Nat) : Option Int64 := if whD b p i then some (earnI b p i t) else none
def fMan (b : zB) (p u e : Nat) (i : Nat) : Option Int64 := if whD b p i then some (paysI b p i u - 6000 * lN e * lN (b 0 i)) else none
theorem fE_p {p t i : Nat} (h : whD b p i) : fEarn b p t i = some (earnI b p i t) := if_pos h
theorem fE_n {p t i : Nat} (h : ¬ whD b p i) : fEarn b p t i = none := if_neg h
theorem fM_p {p u e i : Nat} (h : whD b p i) : fMan b p u e i = some (paysI b p i u - 6000 * lN e * lN (b 0 i)) := if_pos h
theorem fM_n {p u e i : Nat} (h : ¬ whD b p i) : fMan b p u e i = none := if_neg h
theorem qI_ne {q : Nat × Int64} (h : q.1 < 2 ^ 31) : ¬ qI (some q) = -4 := fun e => by
  have h1 : nI q.1 = -4 := e
  have h2 := congrArg Int32.toInt h1
  rw [nI_toInt h] at h2
  have h3 : (-4 : Int32).toInt = -4 := rfl
  omega
theorem qI_pos {q : Nat × Int64} (h : q.1 < 2 ^ 31) : ¬ qI (some q) < 0 := nI_pos h
theorem x_speedFor (hb : bOk b) (hC : rC b I 4) {p t : Nat} (hp : p < b 9 1) (ht : 1 ≤ t ∧ t ≤ 9999) : f_X7_speedFor I J (nI p) (nI t) = some (qI (fmx (fEarn b p t) (b 9 0))) := by
  have h0 := bS hb
  have run : zl (fun v : (Int32 × Int64 × Int32) => f_X7_speedFor_L9 I J (nI p) (nI t) v.1 v.2.1 v.2.2) zF ((-4), 0, 0) = some (qI (fmx (fEarn b p t) (b 9 0))) := by
    refine zl_run (S := fun k => (qI (fmx (fEarn b p t) k), qV (fmx (fEarn b p t) k), nI k)) _ (b 9 0) (fun k hk => ?_) ?_ zF (by unfold zF; omega)
    · show f_X7_speedFor_L9 I J (nI p) (nI t) (qI (fmx (fEarn b p t) k)) (qV (fmx (fEarn b p t) k)) (nI k) = _
      unfold f_X7_speedFor_L9
      rw [(bk_e b I 4 hC).1, if_neg (nI_ge hk (by omega)), x_mayBe hb hC hp hk, zb1_s, zif]
      by_cases c : whD b p k
      · rw [if_pos c, x_earned hb hC hp hk ht, zb1_s]
        simp only [zn_e, nI_1]
        cases g : fmx (fEarn b p t) k with
        | none => rw [fmx_0 (fE_p c) g, if_pos (show qI none = -4 from rfl)]; rfl
        | some q =>
          have hq := fmx_some g
          rw [if_neg (qI_ne (by omega))]
          by_cases d : q.2 < earnI b p k t
          · rw [fmx_g (fE_p c) g d, if_neg (by rw [cmp_le0]; exact fun z => z d)]; rfl
          · rw [fmx_l (fE_p c) g d, if_pos (by rw [cmp_le0]; exact d)]
      · rw [if_neg c, zn_e, nI_1, fmx_n (fE_n c)]
    · show f_X7_speedFor_L9 I J (nI p) (nI t) (qI (fmx (fEarn b p t) (b 9 0))) (qV (fmx (fEarn b p t) (b 9 0))) (nI (b 9 0)) = _
      unfold f_X7_speedFor_L9
      rw [(bk_e b I 4 hC).1, if_pos (nI_le (Nat.le_refl _) (by omega))]
  unfold f_X7_speedFor
  rw [run, zb1_s]
theorem m_shopL (hb : bOk b) (hM : rM b I) {p t : Nat} (hp : p < b 9 1) (ht : 1 ≤ t ∧ t ≤ 9999) : zl (fun v : (Int32 × Int32) => f_X12_shop_L28 I J (nI p) (nI t) v.1 v.2) zF ((-4), 0) = some (qI (fmx (fEarn b p t) (b 9 0))) := by
  have h0 := bS hb
  refine zl_run (S := fun k => (qI (fmx (fEarn b p t) k), nI k)) _ (b 9 0) (fun k hk => ?_) ?_ zF (by unfold zF; omega)
  · show f_X12_shop_L28 I J (nI p) (nI t) (qI (fmx (fEarn b p t) k)) (nI k) = _
    unfold f_X12_shop_L28
    rw [zg_t (by decide), sp_0, hM.1.1, if_neg (nI_ge hk (by omega)), m_whole hb hM hp hk, zb1_s, zif]
    by_cases c : whD b p k
    · rw [if_pos c]
      simp only [zn_e, nI_1]
      cases g : fmx (fEarn b p t) k with
      | none => rw [fmx_0 (fE_p c) g, if_pos (show qI none < 0 by decide)]; rfl
      | some q =>
        have hq := fmx_some g
        have hw : whD b p q.1 := by
          by_cases z : whD b p q.1
          · exact z
          · rw [fE_n z] at hq; exact absurd hq.2 (by simp)
        have e2 : earnI b p q.1 t = q.2 := by have := hq.2; rw [fE_p hw] at this; exact Option.some.inj this
        rw [if_neg (qI_pos (by omega)), m_earnsOf hb hM hp hk ht, zb1_s, show f_X12_earnsOf I J (nI p) (qI (some q)) (nI t) = some (earnI b p q.1 t) from m_earnsOf hb hM hp (by omega) ht, zb1_s, e2]
        by_cases d : q.2 < earnI b p k t
        · rw [fmx_g (fE_p c) g d, if_neg (by rw [cmp_le0]; exact fun z => z d)]; rfl
        · rw [fmx_l (fE_p c) g d, if_pos (by rw [cmp_le0]; exact d)]
    · rw [if_neg c, zn_e, nI_1, fmx_n (fE_n c)]
  · show f_X12_shop_L28 I J (nI p) (nI t) (qI (fmx (fEarn b p t) (b 9 0))) (nI (b 9 0)) = _
    unfold f_X12_shop_L28
    rw [zg_t (by decide), sp_0, hM.1.1, if_pos (nI_le (Nat.le_refl _) (by omega))]
end SP
theorem pu_shop : op_shop zRel := by
  intro I J IM JM hR p1 p2
  have hR0 := hR
  obtain ⟨b, hb, hC, hM, hT, hH, hK, hP⟩ := hR
  have h8 := bP hb
  suffices h : ∃ r : Int32, f_X11_shop I J p1 p2 = some r ∧ f_X12_shop IM JM p1 p2 = some r by
    obtain ⟨r, h1, h2⟩ := h
    exact ⟨r, h1, h2, hR0⟩
  unfold f_X11_shop f_X12_shop
  simp only [x_hasPiece hb hC, m_isPiece hb hM, e_within, e_in, t64, zb1_s, zif, k1, k9999, K1, K9999]
  by_cases c1 : 0 ≤ p1.toInt ∧ p1.toInt < b 9 1
  case neg => simp only [if_neg c1]; exact ⟨_, rfl, rfl⟩
  by_cases c3 : 1 ≤ p2.toInt ∧ p2.toInt ≤ 9999
  case neg => simp only [if_pos c1, if_neg c3]; exact ⟨_, rfl, rfl⟩
  simp only [if_pos c1, if_pos c3]
  obtain ⟨t, ht, rfl⟩ := nI_of3 (x := p2) (n := 10000) (by omega) (by omega)
  rw [nI_toInt (by omega)] at c3
  obtain ⟨p, hp, rfl⟩ := nI_of3 c1.1 c1.2
  rw [x_speedFor hb hC hp (by omega), m_shopL hb hM hp (by omega)]
  exact ⟨_, rfl, rfl⟩
