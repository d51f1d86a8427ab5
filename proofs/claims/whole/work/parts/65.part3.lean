/-! parting: the class's table -/
theorem uL_s {f : Nat → Int64} {k : Nat} {v : Int64} : vp_updL f k v k = v := if_pos rfl
theorem uL_n {f : Nat → Int64} {k j : Nat} {v : Int64} (h : j ≠ k) : vp_updL f k v j = f j := if_neg h
theorem cmp_0 {x y : Int64} : lg_cmp x y = 0 ↔ x = y := by
  have h1 := cmp_lt (x := x) (y := y)
  have h2 := cmp_gt (x := x) (y := y)
  rw [i32_lt, i64_lt, k0] at h1 h2
  constructor
  · intro h
    rw [h, k0] at h1 h2
    exact Int64.toInt_inj.1 (by omega)
  · intro h
    rw [h] at h1 h2
    exact Int32.toInt_inj.1 (by rw [h, k0]; omega)
theorem lN_t {a : Nat} (h : a < 2 ^ 31) : (lN a).toInt = a := by
  show (Int64.ofNat a).toInt = a
  exact Int64.toInt_ofNat_of_lt (by omega)
theorem x_fill {I : zI} {J : zJ} {q n : Nat} (hn : n < 2 ^ 20) (v : Int32) : ∃ I1 : zI, f_J7_fill_53178 I J q n v = some I1 ∧ (∀ k, k ≠ q → I1 k = I k) ∧ ∀ x, x < n → I1 q x = v := by
  have run : ∃ I1, zl (fun u : (Int32 × zI) => f_J7_fill_53178_L5 (nI n) n q v u.1 u.2) zF (0, I) = some I1 ∧ ((∀ k, k ≠ q → I1 k = I k) ∧ ∀ x, x < n → I1 q x = v) := by
    refine zl_inv (fun k u => u.1 = nI k ∧ (∀ j, j ≠ q → u.2 j = I j) ∧ ∀ x, x < k → u.2 q x = v) _ n 0 _ ⟨rfl, fun _ _ => rfl, fun x hx => by omega⟩ ?_ ?_ zF (by unfold zF; omega)
    · intro k u _ hk hu
      obtain ⟨x, I6⟩ := u
      obtain ⟨h1, h2, h3⟩ := hu
      have h1 : x = nI k := h1
      subst h1
      have hkn : k < n := by omega
      show ∃ v', f_J7_fill_53178_L5 (nI n) n q v (nI k) I6 = some (.inl v') ∧ _
      unfold f_J7_fill_53178_L5
      rw [if_neg (nI_ge hkn (by omega)), zg_t (nI_in hkn (by omega)), nI_clamp (by omega)]
      simp only [zn_e, nI_1]
      refine ⟨_, rfl, rfl, fun j hj => ?_, fun x hx => ?_⟩
      · dsimp only
        rw [up_n hj]; exact h2 j hj
      · dsimp only
        rw [up_s]
        by_cases d : x = k
        · rw [d, ud_s]
        · rw [ud_n d]; exact h3 x (by omega)
    · intro u hu
      obtain ⟨x, I6⟩ := u
      obtain ⟨h1, h2, h3⟩ := hu
      have h1 : x = nI (0 + n) := h1
      subst h1
      rw [Nat.zero_add] at h3 ⊢
      exact ⟨I6, if_pos (nI_le (Nat.le_refl _) (by omega)), h2, h3⟩
  obtain ⟨I1, r1, r2⟩ := run
  refine ⟨I1, ?_, r2⟩
  unfold f_J7_fill_53178
  rw [zn_e, r1, zb1_s]
/-- all but the class's cell at x stays -/
def oX (I I2 : zI) (J J2 : zJ) (x : Nat) : Prop := (∀ k, k ≠ 41 → k ≠ 42 → I2 k = I k) ∧ (∀ k, k ≠ 40 → J2 k = J k) ∧ ∀ y, y ≠ x → I2 41 y = I 41 y ∧ I2 42 y = I 42 y ∧ J2 40 y = J 40 y
theorem oX_set (I : zI) (J : zJ) (x : Nat) (v : Int64) (m a : Int32) : oX I (va_up (va_up I 41 (upd (I 41) x m)) 42 (upd ((va_up I 41 (upd (I 41) x m)) 42) x a)) J (va_up J 40 (vp_updL (J 40) x v)) x := by
  refine ⟨fun k h1 h2 => ?_, fun k h => ?_, fun y hy => ⟨?_, ?_, ?_⟩⟩
  · rw [up_n h2, up_n h1]
  · rw [up_n h]
  · rw [up_n (show 41 ≠ 42 by decide), up_s, ud_n hy]
  · rw [up_s, ud_n hy, up_n (show 42 ≠ 41 by decide)]
  · rw [up_s, uL_n hy]
theorem x_here {I : zI} {J : zJ} {x a c m : Nat} {t : zP3} (hx : x < 909) (ha : a < 48) (hcb : c ≤ 80000000) (hm : m ≤ 8) (ht : ∀ q, t = some q → q.1 ≤ 80000000 ∧ q.2.1 ≤ 8 ∧ q.2.2 < 48) (hc : cX I J x t) : ∃ (I2 : zI) (J2 : zJ), f_X5_offerHere I J (nI x) (nI a) (lN c) (nI m) = some (I2, J2) ∧ oX I I2 J J2 x ∧ cX I2 J2 x (bsN c m a t) := by
  unfold f_X5_offerHere
  rw [e_within, zb1_s, zif, if_pos (show (0 : Int32).toInt ≤ (nI x).toInt ∧ (nI x).toInt ≤ (908 : Int32).toInt by rw [nI_toInt (by omega), k0, show (908 : Int32).toInt = 908 from rfl]; omega)]
  simp only [zg_t (nI_in hx (show 909 < 2 ^ 31 by omega))]
  simp only [nI_clamp (show x < 2 ^ 31 by omega), zn_e]
  have hst := oX_set I J x (lN c) (nI m) (nI a)
  have hcs : cX (va_up (va_up I 41 (upd (I 41) x (nI m))) 42 (upd ((va_up I 41 (upd (I 41) x (nI m))) 42) x (nI a))) (va_up J 40 (vp_updL (J 40) x (lN c))) x (some (c, m, a)) := by
    refine ⟨?_, ?_, ?_⟩
    · rw [up_s, uL_s]
    · rw [up_n (show 41 ≠ 42 by decide), up_s, ud_s]
    · rw [up_s, ud_s]
  cases t with
  | none =>
    have hc : I 42 x = -4 := hc
    rw [if_pos hc, zb1_s, if_pos hc]
    exact ⟨_, _, rfl, hst, hcs⟩
  | some q =>
    have hq := ht q rfl
    have hc : J 40 x = lN q.1 ∧ I 41 x = nI q.2.1 ∧ I 42 x = nI q.2.2 := hc
    have h4 : ¬ I 42 x = -4 := by rw [hc.2.2]; exact qI_ne (q := (q.2.2, 0)) (by show q.2.2 < 2 ^ 31; omega)
    have hlt : lN c < lN q.1 ↔ c < q.1 := by rw [i64_lt, lN_t (by omega), lN_t (by omega)]; omega
    have heq : lN c = lN q.1 ↔ c = q.1 := ⟨fun z => by have := congrArg Int64.toInt z; rw [lN_t (by omega), lN_t (by omega)] at this; omega, fun z => by rw [z]⟩
    rw [if_neg h4, hc.1]
    show ∃ I2 J2, _ ∧ _ ∧ cX I2 J2 x (if c < q.1 ∨ (c = q.1 ∧ m < q.2.1) then some (c, m, a) else some q)
    have hx10 : (if lg_cmp (lN c) (lN q.1) = 0 then some (1 : Int32) else some 0) = some (zi (c = q.1)) := by
      by_cases d : c = q.1
      · rw [if_pos (cmp_0.2 (heq.2 d)), show zi (c = q.1) = 1 from if_pos d]
      · rw [if_neg (fun z => d (heq.1 (cmp_0.1 z))), show zi (c = q.1) = 0 from if_neg d]
    rw [hx10, zb1_s, if_neg h4, zif]
    by_cases d1 : c < q.1
    · rw [if_pos (cmp_lt.2 (hlt.2 d1)), if_pos (Or.inl d1)]
      exact ⟨_, _, rfl, hst, hcs⟩
    · rw [if_neg (fun z => d1 (hlt.1 (cmp_lt.1 z)))]
      by_cases d2 : c = q.1
      · rw [if_pos d2, hc.2.1]
        by_cases d3 : m < q.2.1
        · rw [if_neg (nI_ge d3 (by omega)), if_pos (Or.inr ⟨d2, d3⟩)]
          exact ⟨_, _, rfl, hst, hcs⟩
        · rw [if_pos (nI_le (by omega) (by omega)), if_neg (by omega)]
          exact ⟨_, _, rfl, ⟨fun _ _ _ => rfl, fun _ _ => rfl, fun _ _ => ⟨rfl, rfl, rfl⟩⟩, hc⟩
      · rw [if_neg d2, if_neg (by omega)]
        exact ⟨_, _, rfl, ⟨fun _ _ _ => rfl, fun _ _ => rfl, fun _ _ => ⟨rfl, rfl, rfl⟩⟩, hc⟩
