/-! parting: the class offers an act to the whole row -/
theorem lN_mul2 (a b : Nat) : lN a * lN b = lN (a * b) := (Int64.ofNat_mul a b).symm
theorem lN_add2 (a b : Nat) : lN a + lN b = lN (a + b) := (Int64.ofNat_add a b).symm
theorem x_cellP {I : zI} {J : zJ} (l w : Nat) : f_X5_cell I J (nI l) (nI w) = some (nI (101 * l + w)) := by
  unfold f_X5_cell
  rw [show (101 : Int32) = nI 101 from rfl, nI_mul, nI_add, Nat.mul_comm l 101]
theorem x_cost0 {b : zB} (hb : bOk b) {I : zI} {J : zJ} (hC : rC b I 4) {p i : Nat} (hp : p < b 9 1) (hi : i < b 9 0) : f_X0_cost I J 4 (nI (mins b p i)) 0 = some (lN (mins b p i * b 9 5)) := by
  have h1 := mins_le hb hp hi
  have h3 := hb.2.2.2.1.2.2
  unfold f_X0_cost
  rw [nI_l (by omega), (bk_e b I 4 hC).2.2.2.2.2.1, nI_l (by omega), lN_mul2, show (6000 : Int64) * (0 : Int32).toInt64 = lN 0 by decide, lN_add2, Nat.add_zero]
/-- the class's table at level l, acts below a told, a told for the wears below k -/
def tX (b : zB) (p h : Nat) (I : zI) (J : zJ) (l a k : Nat) : Prop := (∀ l' w', 1 ≤ l' → l' < l → w' ≤ 100 → cX I J (101 * l' + w') (tab b p h l' w')) ∧ (∀ l' w', l < l' → l' ≤ 8 → w' ≤ 100 → cX I J (101 * l' + w') none) ∧ ∀ w', w' ≤ 100 → cX I J (101 * l + w') (bs (cd b p h (tab b p h) l w') (if w' < k then a + 1 else a))
def oC (I I2 : zI) (J J2 : zJ) : Prop := (∀ k, k ≠ 41 → k ≠ 42 → I2 k = I k) ∧ ∀ k, k ≠ 40 → J2 k = J k
theorem tX.set {b : zB} {p h : Nat} {I I2 : zI} {J J2 : zJ} {l a k : Nat} (hl : 1 ≤ l) (hk : k ≤ 100) (r : tX b p h I J l a k) (o : oX I I2 J J2 (101 * l + k)) (c : cX I2 J2 (101 * l + k) (bs (cd b p h (tab b p h) l k) (a + 1))) : tX b p h I2 J2 l a (k + 1) := by
  refine ⟨fun l' w' h1 h2 h3 => ?_, fun l' w' h1 h2 h3 => ?_, fun w' h3 => ?_⟩
  · obtain ⟨e1, e2, e3⟩ := o.2.2 (101 * l' + w') (by omega)
    exact (r.1 l' w' h1 h2 h3).eq e3 e1 e2
  · obtain ⟨e1, e2, e3⟩ := o.2.2 (101 * l' + w') (by omega)
    exact (r.2.1 l' w' h1 h2 h3).eq e3 e1 e2
  · by_cases d : w' = k
    · rw [d, if_pos (by omega)]; exact c
    · obtain ⟨e1, e2, e3⟩ := o.2.2 (101 * l + w') (by omega)
      have h5 := (r.2.2 w' h3).eq e3 e1 e2
      by_cases z : w' < k
      · rw [if_pos z] at h5; rw [if_pos (by omega)]; exact h5
      · rw [if_neg z] at h5; rw [if_neg (by omega)]; exact h5
theorem x_offerStep {b : zB} (hb : bOk b) {I : zI} {J : zJ} {p h l a k : Nat} {x18 : Int32} (hp : p < b 9 1) (hl : 1 ≤ l ∧ l ≤ 8) (hk : k ≤ 100) (ha : a < 48) (hx : ¬ x18 < nI k) (hok : okP b p h l k a) (r : tX b p h I J l a k) : ∃ (I2 : zI) (J2 : zJ), f_X5_offer_L81 x18 (nI l) (nI (a % 8 + 1)) (nI (wrs b p (a / 8) (a % 8 + 1) h)) (nI a) (lN (mins b p (a / 8) * b 9 5)) (nI k) I J = some (.inl (nI (k + 1), I2, J2)) ∧ oC I I2 J J2 ∧ tX b p h I2 J2 l a (k + 1) := by
  have hcd := cd_p (T := tab b p h) hok
  have hd : a % 8 + 1 ≤ l := by have := hok.1.2.1; omega
  have hw := hok.2.1
  have hcell := r.2.2 k hk
  rw [if_neg (by omega)] at hcell
  have hbd : ∀ q, bs (cd b p h (tab b p h) l k) a = some q → q.1 ≤ 80000000 ∧ q.2.1 ≤ 8 ∧ q.2.2 < 48 := by
    intro q hq
    have h1 := bs_ok (fun k v hv => cd_ok hb hp hl.1 hv) a q hq
    exact ⟨Nat.le_trans h1.1 (by omega), Nat.le_trans h1.2.1 hl.2, by omega⟩
  have hset : ∀ c m, cd b p h (tab b p h) l k a = some (c, m) → ∃ (I2 : zI) (J2 : zJ), f_X5_offerHere I J (nI (101 * l + k)) (nI a) (lN c) (nI m) = some (I2, J2) ∧ oC I I2 J J2 ∧ tX b p h I2 J2 l a (k + 1) := by
    intro c m hcm
    have h1 := cd_ok hb hp hl.1 hcm
    obtain ⟨I2, J2, e1, e2, e3⟩ := x_here (I := I) (J := J) (x := 101 * l + k) (a := a) (c := c) (m := m) (by omega) ha (Nat.le_trans h1.1 (by omega)) (Nat.le_trans h1.2 hl.2) hbd hcell
    exact ⟨I2, J2, e1, ⟨e2.1, e2.2.1⟩, r.set hl.1 hk e2 (by rw [bs_c hcm]; exact e3)⟩
  unfold f_X5_offer_L81
  rw [if_neg hx, nI_sub hd, nI_add, x_cellP, zb1_s]
  by_cases d1 : a % 8 + 1 = l
  · rw [if_pos (by rw [d1]), x_cellP, zb1_s]
    rw [d1, Nat.sub_self, tab_0] at hcd
    obtain ⟨I2, J2, e1, e2, e3⟩ := hset _ _ hcd
    have e1 : f_X5_offerHere I J (nI (101 * l + k)) (nI a) (lN (mins b p (a / 8) * b 9 5)) 1 = some (I2, J2) := by
      rw [show (0 : Nat) + mins b p (a / 8) * b 9 5 = mins b p (a / 8) * b 9 5 from Nat.zero_add _] at e1; exact e1
    rw [e1, zb2_s, zn_e, nI_1]
    exact ⟨I2, J2, rfl, e2, e3⟩
  · rw [if_neg (nI_eqF d1 (by omega) (by omega))]
    have hlt : 101 * (l - (a % 8 + 1)) + (k + wrs b p (a / 8) (a % 8 + 1) h) < 909 := by omega
    have hin := r.1 (l - (a % 8 + 1)) (k + wrs b p (a / 8) (a % 8 + 1) h) (by omega) (by omega) hw
    generalize hxx : 101 * (l - (a % 8 + 1)) + (k + wrs b p (a / 8) (a % 8 + 1) h) = x at hlt hin ⊢
    rw [e_within, zb1_s, zif, if_pos (show (0 : Int32).toInt ≤ (nI x).toInt ∧ (nI x).toInt ≤ (908 : Int32).toInt by rw [nI_toInt (by omega), k0, show (908 : Int32).toInt = 908 from rfl]; omega)]
    simp only [zg_t (nI_in hlt (show 909 < 2 ^ 31 by omega)), x_cellP, zb1_s]
    simp only [nI_clamp (show x < 2 ^ 31 by omega)]
    cases g : tab b p h (l - (a % 8 + 1)) (k + wrs b p (a / 8) (a % 8 + 1) h) with
    | none =>
      rw [g] at hin hcd
      have hin : I 42 x = -4 := hin
      rw [if_pos hin, zn_e, nI_1]
      have hcd : cd b p h (tab b p h) l k a = none := hcd
      exact ⟨I, J, rfl, ⟨fun _ _ _ => rfl, fun _ _ => rfl⟩, r.set hl.1 hk ⟨fun _ _ _ => rfl, fun _ _ => rfl, fun _ _ => ⟨rfl, rfl, rfl⟩⟩ (by rw [bs_n hcd]; exact hcell)⟩
    | some q =>
      rw [g] at hin hcd
      have hq := tab_ok hb hp _ _ (Nat.le_refl _) _ q g
      have hin : J 40 x = lN q.1 ∧ I 41 x = nI q.2.1 ∧ I 42 x = nI q.2.2 := hin
      have hcd : cd b p h (tab b p h) l k a = some (q.1 + mins b p (a / 8) * b 9 5, q.2.1 + 1) := hcd
      obtain ⟨I2, J2, e1, e2, e3⟩ := hset _ _ hcd
      rw [if_neg (by rw [hin.2.2]; exact qI_ne (q := (q.2.2, 0)) (by show q.2.2 < 2 ^ 31; omega)), hin.1, hin.2.1, lN_add2, Nat.add_comm (mins b p (a / 8) * b 9 5) q.1, show (1 : Int32) + nI q.2.1 = nI (q.2.1 + 1) by rw [show (1 : Int32) = nI 1 from rfl, nI_add, Nat.add_comm], e1, zb2_s, zn_e, nI_1]
      exact ⟨I2, J2, rfl, e2, e3⟩
