/-! what a hand does: the class's choice, the reference's table -/
def slS (b : zB) : Nat → Nat
  | 0 => 0
  | n + 1 => if b 1 n < b 1 (slS b n) then n else slS b n
theorem slS_lt (b : zB) : ∀ n, 1 ≤ n → slS b n < n := by
  intro n
  induction n with
  | zero => intro h; omega
  | succ n ih =>
    intro _
    unfold slS
    by_cases c : b 1 n < b 1 (slS b n)
    · rw [if_pos c]; omega
    · rw [if_neg c]
      by_cases d : n = 0
      · rw [d]; show (0 : Nat) < 1; omega
      · have := ih (by omega); omega
theorem slS_1 (b : zB) : slS b 1 = 0 := by
  show (if b 1 0 < b 1 0 then 0 else 0) = 0
  rw [ite_self]
def dpS (b : zB) (i l : Nat) : Nat := min (min (b 9 7 / b 0 i) (b 9 6)) l
/-- of the hands that don't plan: 1 set, 2 count, 3 signs, 5 slow -/
def habS (b : zB) (sp li ev k p l w : Nat) : Nat := if dpS b (if k = 5 then slS b (b 9 0) else sp) l = 0 then 49 else if (if k = 2 then 0 < p ∧ p % ev = 0 ∧ l = b 3 p else li < (if k = 3 then w - w % 10 else w) ∨ (dpS b (if k = 5 then slS b (b 9 0) else sp) l = l ∧ b 4 p < (if k = 3 then w - w % 10 else w))) ∧ 0 < w then 48 else 8 * (if k = 5 then slS b (b 9 0) else sp) + dpS b (if k = 5 then slS b (b 9 0) else sp) l - 1
section HD
variable {b : zB} {I : zI} {J : zJ}
theorem x_slowest (hb : bOk b) (hC : rC b I 4) : f_X0_slowest I J 4 = some (nI (slS b (b 9 0))) := by
  have h6 := hb.1
  have run : zl (fun v : (Int32 × Int32) => f_X0_slowest_L4 I 4 J v.1 v.2) zF (nI (slS b 1), 1) = some (nI (slS b (b 9 0))) := by
    have h1 := zl_run (b := fun v : (Int32 × Int32) => f_X0_slowest_L4 I 4 J v.1 v.2) (S := fun k => (nI (slS b (k + 1)), nI (k + 1))) (nI (slS b (b 9 0))) (b 9 0 - 1) (fun k hk => ?_) ?_ zF (by unfold zF; omega)
    · exact h1
    · show f_X0_slowest_L4 I 4 J (nI (slS b (k + 1))) (nI (k + 1)) = _
      have hs := slS_lt b (k + 1) (by omega)
      have q1 := (hb.2.2.2.2.2.1 (k + 1) (by omega)).2.2
      have q2 := (hb.2.2.2.2.2.1 (slS b (k + 1)) (by omega)).2.2
      unfold f_X0_slowest_L4
      rw [(bk_e b I 4 hC).1, if_neg (nI_ge (by omega) (by omega)), e_at (by omega) (by omega), zb1_s, e_at (by omega) (by omega), zb1_s, bC1 hC (show k + 1 < b 9 0 by omega), bC1 hC (show slS b (k + 1) < b 9 0 by omega), nI_1]
      conv => rhs; unfold slS
      by_cases c : b 1 (k + 1) < b 1 (slS b (k + 1))
      · rw [if_neg (nI_ge c (by omega)), zn_e]
        show _ = some (Sum.inl ((nI (if b 1 (k + 1) < b 1 (slS b (k + 1)) then k + 1 else slS b (k + 1)), nI (k + 1 + 1))))
        rw [if_pos c]
      · rw [if_pos (nI_le (by omega) (by omega)), zn_e]
        show _ = some (Sum.inl ((nI (if b 1 (k + 1) < b 1 (slS b (k + 1)) then k + 1 else slS b (k + 1)), nI (k + 1 + 1))))
        rw [if_neg c]
    · show f_X0_slowest_L4 I 4 J (nI (slS b (b 9 0 - 1 + 1))) (nI (b 9 0 - 1 + 1)) = _
      rw [show b 9 0 - 1 + 1 = b 9 0 by omega]
      unfold f_X0_slowest_L4
      rw [(bk_e b I 4 hC).1, if_pos (nI_le (Nat.le_refl _) (by omega))]
  unfold f_X0_slowest
  rw [slS_1] at run
  rw [show (0 : Int32) = nI 0 from rfl, run, zb1_s]
theorem m_leastWear (hb : bOk b) (hM : rM b I) : f_X12_leastWear I J = some (nI (slS b (b 9 0))) := by
  have h6 := hb.1
  have run : zl (fun v : (Int32 × Int32) => f_X12_leastWear_L4 I v.1 v.2) zF (nI (slS b 1), 1) = some (nI (slS b (b 9 0))) := by
    have h1 := zl_run (b := fun v : (Int32 × Int32) => f_X12_leastWear_L4 I v.1 v.2) (S := fun k => (nI (slS b (k + 1)), nI (k + 1))) (nI (slS b (b 9 0))) (b 9 0 - 1) (fun k hk => ?_) ?_ zF (by unfold zF; omega)
    · exact h1
    · show f_X12_leastWear_L4 I (nI (slS b (k + 1))) (nI (k + 1)) = _
      have hs := slS_lt b (k + 1) (by omega)
      have q1 := (hb.2.2.2.2.2.1 (k + 1) (by omega)).2.2
      have q2 := (hb.2.2.2.2.2.1 (slS b (k + 1)) (by omega)).2.2
      unfold f_X12_leastWear_L4
      rw [zg_t (by decide), sp_0, hM.1.1, if_neg (nI_ge (by omega) (by omega)), m_2i1, m_2i1, zg_t (nI_in (by omega) (by omega)), zg_t (nI_in (by omega) (by omega)), nI_clamp (by omega), nI_clamp (by omega), (hM.2.2.1 _ (show k + 1 < b 9 0 by omega)).2, (hM.2.2.1 _ (show slS b (k + 1) < b 9 0 by omega)).2, nI_1]
      conv => rhs; unfold slS
      by_cases c : b 1 (k + 1) < b 1 (slS b (k + 1))
      · rw [if_neg (nI_ge c (by omega)), zn_e]
        show _ = some (Sum.inl ((nI (if b 1 (k + 1) < b 1 (slS b (k + 1)) then k + 1 else slS b (k + 1)), nI (k + 1 + 1))))
        rw [if_pos c]
      · rw [if_pos (nI_le (by omega) (by omega)), zn_e]
        show _ = some (Sum.inl ((nI (if b 1 (k + 1) < b 1 (slS b (k + 1)) then k + 1 else slS b (k + 1)), nI (k + 1 + 1))))
        rw [if_neg c]
    · show f_X12_leastWear_L4 I (nI (slS b (b 9 0 - 1 + 1))) (nI (b 9 0 - 1 + 1)) = _
      rw [show b 9 0 - 1 + 1 = b 9 0 by omega]
      unfold f_X12_leastWear_L4
      rw [zg_t (by decide), sp_0, hM.1.1, if_pos (nI_le (Nat.le_refl _) (by omega))]
  unfold f_X12_leastWear
  rw [slS_1] at run
  rw [show (0 : Int32) = nI 0 from rfl, run, zb1_s]
theorem x_deepest (hb : bOk b) (hC : rC b I 4) {i l : Nat} (hi : i < b 9 0) (hl : l ≤ 8) : f_X0_deepest I J 4 (nI i) (nI l) = some (nI (dpS b i l)) := by
  have h6 := hb.1
  obtain ⟨⟨k1, k2⟩, k3, k4⟩ := hb.2.2.2.2.1
  obtain ⟨q1, q2, q3⟩ := hb.2.2.2.2.2.1 i hi
  have hk := bk_e b I 4 hC
  unfold f_X0_deepest
  rw [e_at (by omega) (by omega), zb1_s, bC0 hC hi, if_pos (show (1 : Int32) ≤ nI (b 0 i) from nI_le q1 (by omega)), zg_t (nI_ne0 (by omega) (by omega)), hk.2.2.2.2.2.2.1, hk.2.2.2.2.2.2.2, nI_div (by omega) (by omega)]
  have hdv : b 9 7 / b 0 i ≤ 999 := Nat.le_trans (Nat.div_le_self _ _) k4
  unfold dpS
  generalize b 9 7 / b 0 i = z at hdv
  congr 1
  have e1 : (if nI z < nI (b 9 6) then nI z else nI (b 9 6)) = nI (min z (b 9 6)) := by
    by_cases c : z < b 9 6
    · rw [if_pos (nI_lt c (by omega)), Nat.min_eq_left (by omega)]
    · rw [if_neg (nI_nlt (by omega) (by omega)), Nat.min_eq_right (by omega)]
  rw [e1]
  have hm : min z (b 9 6) ≤ 999 := by omega
  generalize min z (b 9 6) = y at hm ⊢
  by_cases c : y < l
  · rw [if_pos (nI_lt c (by omega)), Nat.min_eq_left (by omega)]
  · rw [if_neg (nI_nlt (by omega) (by omega)), Nat.min_eq_right (by omega)]
theorem m_deepest (hb : bOk b) (hM : rM b I) {i l : Nat} (hi : i < b 9 0) (hl : l ≤ 8) : f_X12_deepest I J (nI i) (nI l) = some (nI (dpS b i l)) := by
  obtain ⟨⟨k1, k2⟩, k3, k4⟩ := hb.2.2.2.2.1
  obtain ⟨q1, q2, q3⟩ := hb.2.2.2.2.2.1 i hi
  have run : zl (fun v : (Int32 × Int32) => f_X12_deepest_L5 (nI l) I J (nI i) v.1 v.2) zF (nI (dpS b i 0), 1) = some (nI (dpS b i l)) := by
    refine zl_run (b := fun v : (Int32 × Int32) => f_X12_deepest_L5 (nI l) I J (nI i) v.1 v.2) (S := fun k => (nI (dpS b i k), nI (k + 1))) (nI (dpS b i l)) l (fun k hk => ?_) ?_ zF (by unfold zF; omega)
    · show f_X12_deepest_L5 (nI l) I J (nI i) (nI (dpS b i k)) (nI (k + 1)) = _
      unfold f_X12_deepest_L5
      rw [if_neg (nI_nlt (by omega) (by omega)), m_may hb hM hi (by omega), zb1_s, zif, nI_1]
      have hm : b 0 i * (k + 1) ≤ b 9 7 ↔ k + 1 ≤ b 9 7 / b 0 i := by rw [Nat.mul_comm]; exact (Nat.le_div_iff_mul_le (by omega)).symm
      by_cases c : k + 1 ≤ b 9 6 ∧ b 0 i * (k + 1) ≤ b 9 7
      · rw [if_pos c, zn_e]
        have e : dpS b i (k + 1) = k + 1 := by
          have := hm.1 c.2
          unfold dpS; omega
        show _ = some (Sum.inl (nI (dpS b i (k + 1)), nI (k + 1 + 1)))
        rw [e]
      · rw [if_neg c, zn_e]
        have e : dpS b i (k + 1) = dpS b i k := by
          have : ¬ (k + 1 ≤ b 9 6 ∧ k + 1 ≤ b 9 7 / b 0 i) := fun z => c ⟨z.1, hm.2 z.2⟩
          unfold dpS; omega
        show _ = some (Sum.inl (nI (dpS b i (k + 1)), nI (k + 1 + 1)))
        rw [e]
    · show f_X12_deepest_L5 (nI l) I J (nI i) (nI (dpS b i l)) (nI (l + 1)) = _
      unfold f_X12_deepest_L5
      rw [if_pos (nI_lt (by omega) (by omega))]
  unfold f_X12_deepest
  have e0 : dpS b i 0 = 0 := Nat.min_zero _
  rw [e0] at run
  rw [show (0 : Int32) = nI 0 from rfl, run, zb1_s]
theorem x_passOf {i d : Nat} (hd : 1 ≤ d) : f_X2_passOf I J (nI i) (nI d) = some (nI (8 * i + d - 1)) := by
  unfold f_X2_passOf
  rw [show (8 : Int32) = nI 8 from rfl, nI_mul, nI_add, show (1 : Int32) = nI 1 from rfl, nI_sub (by omega), Nat.mul_comm]
theorem x_bySpeed (hb : bOk b) (hC : rC b I 4) {li i p l s : Nat} (h4 : I 24 4 = nI li) (hli : li ≤ 100) (hi : i < b 9 0) (hp : p < b 9 1) (hl : l ≤ 8) (hs : s ≤ 100) : f_X2_bySpeed I J (nI i) (nI p) (nI l) (nI s) = some (nI (if dpS b i l = 0 then 49 else if (li < s ∨ (dpS b i l = l ∧ b 4 p < s)) then 48 else 8 * i + dpS b i l - 1)) := by
  have hf := (hb.2.2.2.2.2.2.1 p hp).2.2.1
  have hd8 : dpS b i l ≤ 8 := by unfold dpS; omega
  unfold f_X2_bySpeed
  rw [x_deepest hb hC hi hl, zb1_s]
  by_cases c : dpS b i l = 0
  · rw [c, if_pos (show nI 0 = 0 from rfl), if_pos rfl]; rfl
  · rw [if_neg (nI_ne0 (by omega) (by omega)), if_neg c, h4]
    have e : (if nI li < nI s then some (1 : Int32) else (if nI (dpS b i l) = nI l then zb1 (f_X0_fineOf I J 4 (nI p)) (fun x8 => (if nI s ≤ x8 then some (0) else some (1))) else some (0))) = some (zi (li < s ∨ (dpS b i l = l ∧ b 4 p < s))) := by
      by_cases c1 : li < s
      · rw [if_pos (nI_lt c1 (by omega)), zi, if_pos (Or.inl c1)]
      · rw [if_neg (nI_nlt (by omega) (by omega))]
        by_cases c2 : dpS b i l = l
        · rw [if_pos (by rw [c2]), x_fineOf hb hC hp, zb1_s]
          by_cases c3 : b 4 p < s
          · rw [if_neg (nI_ge c3 (by omega)), zi, if_pos (Or.inr ⟨c2, c3⟩)]
          · rw [if_pos (nI_le (by omega) (by omega)), zi, if_neg (by omega)]
        · rw [if_neg (nI_eqF c2 (by omega) (by omega)), zi, if_neg (by omega)]
    rw [e, zb1_s, zif]
    by_cases c4 : li < s ∨ (dpS b i l = l ∧ b 4 p < s)
    · rw [if_pos c4, if_pos c4]; rfl
    · rw [if_neg c4, if_neg c4, x_passOf (by omega), zb1_s]
theorem x_byCount (hb : bOk b) (hC : rC b I 4) {sp ev p l w : Nat} (h3 : I 24 3 = nI sp) (h5 : I 24 5 = nI ev) (hev : 1 ≤ ev ∧ ev ≤ 8) (hi : sp < b 9 0) (hp : p < b 9 1) (hl : l ≤ 8) (hw : w ≤ 100) : f_X2_byCount I J (nI p) (nI l) (nI w) = some (nI (if dpS b sp l = 0 then 49 else if (0 < p ∧ p % ev = 0 ∧ l = b 3 p) ∧ 0 < w then 48 else 8 * sp + dpS b sp l - 1)) := by
  have hd3 := (hb.2.2.2.2.2.2.1 p hp).2.1
  have h8 := bP hb
  have hd8 : dpS b sp l ≤ 8 := by unfold dpS; omega
  unfold f_X2_byCount
  rw [h3, x_deepest hb hC hi hl, zb1_s]
  by_cases c : dpS b sp l = 0
  · rw [c, if_pos (show nI 0 = 0 from rfl), if_pos rfl]; rfl
  · rw [if_neg (nI_ne0 (by omega) (by omega)), if_neg c, x_stepsOf hb hC hp, zb1_s]
    have e : (if nI l = nI (b 3 p) then (if nI w ≤ 0 then some (0) else some (1 : Int32)) else some (0)) = some (zi (l = b 3 p ∧ 0 < w)) := by
      by_cases c1 : l = b 3 p
      · rw [if_pos (by rw [c1])]
        by_cases c2 : w = 0
        · rw [c2, if_pos (show nI 0 ≤ 0 by decide), zi, if_neg (by omega)]
        · rw [if_neg (nI_nle (by omega) (by omega)), zi, if_pos ⟨c1, by omega⟩]
      · rw [if_neg (nI_eqF c1 (by omega) (by omega)), zi, if_neg (fun z => c1 z.1)]
    rw [e, zb1_s, zif]
    by_cases c3 : l = b 3 p ∧ 0 < w
    case neg => rw [if_neg c3, x_passOf (by omega), zb1_s, if_neg (by omega)]
    rw [if_pos c3]
    have e2 : f_X2_isCounted I J (nI p) = some (zi (0 < p ∧ p % ev = 0)) := by
      unfold f_X2_isCounted
      rw [h5]
      by_cases c4 : p = 0
      · rw [c4, if_pos (show nI 0 ≤ 0 by decide), zi, if_neg (by omega)]
      · rw [if_neg (nI_nle (by omega) (by omega)), if_neg (nI_nle (by omega) (by omega)), zg_t (nI_ne0 (by omega) (by omega)), nI_mod (by omega) (by omega)]
        by_cases c5 : p % ev = 0
        · rw [c5, if_pos (show nI 0 = 0 from rfl), zi, if_pos ⟨by omega, rfl⟩]
        · have hm : p % ev ≤ p := Nat.mod_le _ _
          rw [if_neg (nI_ne0 (by omega) (by omega)), zi, if_neg (fun z => c5 z.2)]
    rw [e2, zb1_s, zif]
    by_cases c6 : 0 < p ∧ p % ev = 0
    · rw [if_pos c6, if_pos ⟨⟨c6.1, c6.2, c3.1⟩, c3.2⟩]; rfl
    · rw [if_neg c6, x_passOf (by omega), zb1_s, if_neg (fun z => c6 ⟨z.1.1, z.1.2.1⟩)]
theorem x_hab (hb : bOk b) (hC : rC b I 4) {sp li ev k p l w : Nat} {h : Int32} (h3 : I 24 3 = nI sp) (h4 : I 24 4 = nI li) (h5 : I 24 5 = nI ev) (hsp : sp < b 9 0) (hli : li ≤ 100) (hev : 1 ≤ ev ∧ ev ≤ 8) (hk : k = 1 ∨ k = 2 ∨ k = 3 ∨ k = 5) (hs : inS b p l w) : f_X2_choose I J (nI k) h (nI p) (nI l) (nI w) = some (nI (habS b sp li ev k p l w)) := by
  obtain ⟨k1, k2, k3, k4⟩ := hs
  have hd3 := (hb.2.2.2.2.2.2.1 p k1).2.1
  unfold f_X2_choose habS
  rcases hk with rfl | rfl | rfl | rfl
  · rw [if_pos (show nI 1 = 1 from rfl), h3, x_bySpeed hb hC h4 hli hsp k1 (by omega) k4, zb1_s]
    simp only [show ¬ (1 : Nat) = 5 by decide, show ¬ (1 : Nat) = 2 by decide, show ¬ (1 : Nat) = 3 by decide, if_false]
    by_cases c : dpS b sp l = 0
    · rw [if_pos c, if_pos c]
    · rw [if_neg c, if_neg c]
      by_cases d : li < w ∨ (dpS b sp l = l ∧ b 4 p < w)
      · rw [if_pos d, if_pos ⟨d, by omega⟩]
      · rw [if_neg d, if_neg (fun z => d z.1)]
  · rw [if_neg (show ¬ nI 2 = 1 by decide), if_pos (show nI 2 = 2 from rfl), x_byCount hb hC h3 h5 hev hsp k1 (by omega) k4, zb1_s]
    simp only [show ¬ (2 : Nat) = 5 by decide, if_false, if_true]
  · have hm : w - w % 10 ≤ 100 := by omega
    have e : nI w - (nI w - nI w / 10 * 10) = nI (w - w % 10) := by
      rw [show (10 : Int32) = nI 10 from rfl, nI_mod (by omega) (by omega), nI_sub (by omega)]
    rw [if_neg (show ¬ nI 3 = 1 by decide), if_neg (show ¬ nI 3 = 2 by decide), if_pos (show nI 3 = 3 from rfl), h3, e, x_bySpeed hb hC h4 hli hsp k1 (by omega) hm, zb1_s]
    simp only [show ¬ (3 : Nat) = 5 by decide, show ¬ (3 : Nat) = 2 by decide, if_false, if_true]
    by_cases c : dpS b sp l = 0
    · rw [if_pos c, if_pos c]
    · rw [if_neg c, if_neg c]
      by_cases d : li < w - w % 10 ∨ (dpS b sp l = l ∧ b 4 p < w - w % 10)
      · rw [if_pos d, if_pos ⟨d, by omega⟩]
      · rw [if_neg d, if_neg (fun z => d z.1)]
  · have hsl := slS_lt b (b 9 0) hb.1.1
    rw [if_neg (show ¬ nI 5 = 1 by decide), if_neg (show ¬ nI 5 = 2 by decide), if_neg (show ¬ nI 5 = 3 by decide), if_neg (show ¬ nI 5 = 4 by decide), if_pos (show nI 5 = 5 from rfl), x_slowest hb hC, zb1_s, x_bySpeed hb hC h4 hli hsl k1 (by omega) k4, zb1_s]
    simp only [show ¬ (5 : Nat) = 3 by decide, show ¬ (5 : Nat) = 2 by decide, if_false, if_true]
    by_cases c : dpS b (slS b (b 9 0)) l = 0
    · rw [if_pos c, if_pos c]
    · rw [if_neg c, if_neg c]
      by_cases d : li < w ∨ (dpS b (slS b (b 9 0)) l = l ∧ b 4 p < w)
      · rw [if_pos d, if_pos ⟨d, by omega⟩]
      · rw [if_neg d, if_neg (fun z => d z.1)]
theorem m_habit (hb : bOk b) (hM : rM b I) {sp li ev k p l w : Nat} (h3 : I 12 0 = nI sp) (h4 : I 12 1 = nI li) (h5 : I 12 2 = nI ev) (hsp : sp < b 9 0) (hli : li ≤ 100) (hev : 1 ≤ ev ∧ ev ≤ 8) (hk : k < 6) (hs : inS b p l w) : f_X12_habit I J (nI k) (nI p) (nI l) (nI w) = some (nI (habS b sp li ev k p l w)) := by
  obtain ⟨k1, k2, k3, k4⟩ := hs
  have hd3 := (hb.2.2.2.2.2.2.1 p k1).2.1
  have hf := (hb.2.2.2.2.2.2.1 p k1).2.2.1
  have h8 := bP hb
  have hsl := slS_lt b (b 9 0) hb.1.1
  unfold f_X12_habit habS
  have e1 : (if nI k = 5 then zb1 (f_X12_leastWear I J) (fun x5 => some (x5)) else zg (¬ ((0 : Int32) < 0 ∨ 9 ≤ (0 : Int32).toNatClampNeg)) (some ((I 12 (0 : Int32).toNatClampNeg)))) = some (nI (if k = 5 then slS b (b 9 0) else sp)) := by
    by_cases c : k = 5
    · rw [c, if_pos (show nI 5 = 5 from rfl), m_leastWear hb hM, zb1_s, if_pos rfl]
    · rw [if_neg (show ¬ nI k = 5 from nI_eqF (c := 5) c (by omega) (by omega)), if_neg c, zg_t (by decide), sp_0, h3]
  rw [e1, zb1_s]
  have hi : (if k = 5 then slS b (b 9 0) else sp) < b 9 0 := by split <;> omega
  generalize (if k = 5 then slS b (b 9 0) else sp) = i at hi
  have hd8 : dpS b i l ≤ 8 := by unfold dpS; omega
  have hi6 := bS hb
  rw [m_deepest hb hM hi (by omega), zb1_s]
  by_cases c : dpS b i l = 0
  · rw [c, if_pos (show nI 0 = 0 from rfl), if_pos rfl]; rfl
  rw [if_neg (nI_ne0 (by omega) (by omega)), if_neg c]
  have e2 : (if nI k = 3 then some ((nI w - (nI w - nI w / 10 * 10))) else some (nI w)) = some (nI (if k = 3 then w - w % 10 else w)) := by
    by_cases c : k = 3
    · rw [c, if_pos (show nI 3 = 3 from rfl), if_pos rfl, show (10 : Int32) = nI 10 from rfl, nI_mod (by omega) (by omega), nI_sub (by omega)]
    · rw [if_neg (show ¬ nI k = 3 from nI_eqF (c := 3) c (by omega) (by omega)), if_neg c]
  rw [e2, zb1_s]
  have hs100 : (if k = 3 then w - w % 10 else w) ≤ 100 := by split <;> omega
  generalize (if k = 3 then w - w % 10 else w) = sn at hs100
  rw [zg_t (by decide), sp_1, h4]
  have e3 : (if nI li < nI sn then some (1 : Int32) else (if nI (dpS b i l) = nI l then zg (¬ (((4 * nI p) + 2) < 0 ∨ 64 ≤ ((4 * nI p) + 2).toNatClampNeg)) ((if nI sn ≤ (I 6 ((4 * nI p) + 2).toNatClampNeg) then some (0) else some (1))) else some (0))) = some (zi (li < sn ∨ (dpS b i l = l ∧ b 4 p < sn))) := by
    by_cases c1 : li < sn
    · rw [if_pos (nI_lt c1 (by omega)), zi, if_pos (Or.inl c1)]
    · rw [if_neg (nI_nlt (by omega) (by omega))]
      by_cases c2 : dpS b i l = l
      · rw [if_pos (by rw [c2]), m_4i, show (2 : Int32) = nI 2 from rfl, nI_add, zg_t (nI_in (by omega) (by omega)), nI_clamp (by omega), (hM.2.2.2.1 p k1).2.2.1]
        by_cases c3 : b 4 p < sn
        · rw [if_neg (nI_ge c3 (by omega)), zi, if_pos (Or.inr ⟨c2, c3⟩)]
        · rw [if_pos (nI_le (by omega) (by omega)), zi, if_neg (by omega)]
      · rw [if_neg (nI_eqF c2 (by omega) (by omega)), zi, if_neg (by omega)]
  rw [e3, zb1_s]
  have e4 : (if nI k = 2 then (if nI p ≤ 0 then some (0) else zg (¬ ((2 : Int32) < 0 ∨ 9 ≤ (2 : Int32).toNatClampNeg)) (zg (¬ (I 12 (2 : Int32).toNatClampNeg) = 0) ((if (nI p - nI p / (I 12 (2 : Int32).toNatClampNeg) * (I 12 (2 : Int32).toNatClampNeg)) = 0 then zb1 (f_X12_steps I J (nI p)) (fun x30 => (if nI l = x30 then some (1) else some (0))) else some (0))))) else some (zi (li < sn ∨ (dpS b i l = l ∧ b 4 p < sn)))) = some (zi (if k = 2 then 0 < p ∧ p % ev = 0 ∧ l = b 3 p else li < sn ∨ (dpS b i l = l ∧ b 4 p < sn))) := by
    by_cases c : k = 2
    · subst c
      simp only [if_true]
      rw [if_pos (show nI 2 = 2 from rfl)]
      by_cases c4 : p = 0
      · rw [c4, if_pos (show nI 0 ≤ 0 by decide), zi, if_neg (by omega)]
      · rw [if_neg (nI_nle (by omega) (by omega)), zg_t (by decide), show (2 : Int32).toNatClampNeg = 2 from rfl, h5, zg_t (nI_ne0 (by omega) (by omega)), nI_mod (by omega) (by omega), m_steps hb hM k1, zb1_s]
        by_cases c5 : p % ev = 0
        · rw [c5, if_pos (show nI 0 = 0 from rfl)]
          by_cases c6 : l = b 3 p
          · rw [if_pos (by rw [c6]), zi, if_pos ⟨by omega, rfl, c6⟩]
          · rw [if_neg (nI_eqF c6 (by omega) (by omega)), zi, if_neg (fun z => c6 z.2.2)]
        · have hm : p % ev ≤ p := Nat.mod_le _ _
          rw [if_neg (nI_ne0 (by omega) (by omega)), zi, if_neg (fun z => c5 z.2.1)]
    · rw [if_neg (show ¬ nI k = 2 from nI_eqF (c := 2) c (by omega) (by omega))]
      simp only [c, if_false]
  rw [e4, zb1_s, zif]
  have e5 : ((8 * nI i) + nI (dpS b i l)) - 1 = nI (8 * i + dpS b i l - 1) := by
    rw [show (8 : Int32) = nI 8 from rfl, nI_mul, nI_add, show (1 : Int32) = nI 1 from rfl, nI_sub (by omega)]
  rw [e5]
  by_cases c7 : (if k = 2 then 0 < p ∧ p % ev = 0 ∧ l = b 3 p else li < sn ∨ (dpS b i l = l ∧ b 4 p < sn))
  · rw [if_pos c7]
    by_cases c8 : w = 0
    · rw [c8, if_pos (show nI 0 ≤ 0 by decide), if_neg (fun z => by omega)]
    · rw [if_neg (nI_nle (by omega) (by omega)), if_pos ⟨c7, by omega⟩]; rfl
  · rw [if_neg c7, if_neg (fun z => c7 z.1)]
theorem habS_can (hb : bOk b) {sp li ev k p l w : Nat} (hsp : sp < b 9 0) (hs : inS b p l w) : canS b l w (habS b sp li ev k p l w) := by
  obtain ⟨k1, k2, k3, k4⟩ := hs
  have hd3 := (hb.2.2.2.2.2.2.1 p k1).2.1
  have hsl := slS_lt b (b 9 0) hb.1.1
  unfold habS
  have hi : (if k = 5 then slS b (b 9 0) else sp) < b 9 0 := by split <;> omega
  generalize (if k = 5 then slS b (b 9 0) else sp) = i at hi
  have hi6 := bS hb
  by_cases c : dpS b i l = 0
  · rw [if_pos c]; exact Or.inl rfl
  rw [if_neg c]
  by_cases d : (if k = 2 then 0 < p ∧ p % ev = 0 ∧ l = b 3 p else li < (if k = 3 then w - w % 10 else w) ∨ (dpS b i l = l ∧ b 4 p < (if k = 3 then w - w % 10 else w))) ∧ 0 < w
  · rw [if_pos d]; exact Or.inr (Or.inl ⟨rfl, d.2⟩)
  rw [if_neg d]
  obtain ⟨q1, q2, q3⟩ := hb.2.2.2.2.2.1 i hi
  have hdl : dpS b i l ≤ l ∧ dpS b i l ≤ b 9 6 ∧ dpS b i l ≤ b 9 7 / b 0 i := by unfold dpS; omega
  have hm : dpS b i l * b 0 i ≤ b 9 7 := (Nat.le_div_iff_mul_le (by omega)).1 hdl.2.2
  generalize dpS b i l = dd at c hdl hm
  have e1 : (8 * i + dd - 1) / 8 = i := by omega
  have e2 : (8 * i + dd - 1) % 8 + 1 = dd := by omega
  refine Or.inr (Or.inr ⟨by omega, by omega, by omega, ?_⟩)
  unfold mayb
  rw [e1, e2, Nat.mul_comm]
  exact ⟨hdl.2.1, hm⟩
/-- what the hand k does by a steel h -/
def aH (b : zB) (k h sp li ev : Nat) (A : Nat → Nat → Nat → Nat) : Prop := (k = 0 → ∃ V, solS b (muC b 0) h A V) ∧ (k = 4 → ∃ V, solS b (muC b 1) h A V) ∧ (k ≠ 0 → k ≠ 4 → ∀ p l w, inS b p l w → A p l w = habS b sp li ev k p l w)
theorem aH_uniq (hb : bOk b) {k h sp li ev : Nat} {A A2 : Nat → Nat → Nat → Nat} (a1 : aH b k h sp li ev A) (a2 : aH b k h sp li ev A2) {p l w : Nat} (hs : inS b p l w) : A p l w = A2 p l w := by
  by_cases c0 : k = 0
  · obtain ⟨V, s1⟩ := a1.1 c0
    obtain ⟨V2, s2⟩ := a2.1 c0
    exact (solS_uniq hb s1 s2 p l w hs).2
  · by_cases c4 : k = 4
    · obtain ⟨V, s1⟩ := a1.2.1 c4
      obtain ⟨V2, s2⟩ := a2.2.1 c4
      exact (solS_uniq hb s1 s2 p l w hs).2
    · rw [a1.2.2 c0 c4 p l w hs, a2.2.2 c0 c4 p l w hs]
theorem aH_can (hb : bOk b) {k h sp li ev : Nat} {A : Nat → Nat → Nat → Nat} (hsp : sp < b 9 0) (a1 : aH b k h sp li ev A) : ∀ p l w, inS b p l w → canS b l w (A p l w) := by
  intro p l w hs
  by_cases c0 : k = 0
  · obtain ⟨V, s1⟩ := a1.1 c0
    exact (s1 p l w hs).1
  · by_cases c4 : k = 4
    · obtain ⟨V, s1⟩ := a1.2.1 c4
      exact (s1 p l w hs).1
    · rw [a1.2.2 c0 c4 p l w hs]; exact habS_can hb hsp hs
theorem x_choose (hb : bOk b) {k h sp li ev : Nat} (hk : k < 6) (hh : h < b 9 2) (hC : rC b I 4) (h3 : I 24 3 = nI sp) (h4 : I 24 4 = nI li) (h5 : I 24 5 = nI ev) (hsp : sp < b 9 0) (hli : li ≤ 100) (hev : 1 ≤ ev ∧ ev ≤ 8) (hD : pD b k h I J) : ∃ A, aH b k h sp li ev A ∧ ∀ (I2 : zI) (J2 : zJ), (∀ r, r < 71 → r ≠ 37 → r ≠ 38 → I2 r = I r) → ∀ p l w, inS b p l w → f_X2_choose I2 J2 (nI k) (nI h) (nI p) (nI l) (nI w) = some (nI (A p l w)) := by
  have h4' := bT hb
  by_cases c0 : k = 0
  · obtain ⟨_, _, A, V, s1, s2⟩ := hD.1 c0
    refine ⟨A, ⟨fun _ => ⟨V, s1⟩, fun z => by omega, fun z => absurd c0 z⟩, fun I2 J2 e p l w hs => ?_⟩
    subst c0
    unfold f_X2_choose
    rw [if_neg (show ¬ nI 0 = 1 by decide), if_neg (show ¬ nI 0 = 2 by decide), if_neg (show ¬ nI 0 = 3 by decide), if_neg (show ¬ nI 0 = 4 by decide), if_neg (show ¬ nI 0 = 5 by decide), x_bestBy (by omega), zb1_s, zg_t ⟨by omega, by omega, by omega⟩, x_actAt hb hs, zb1_s, e _ (by omega) (by omega) (by omega), (s2 p l w hs).1]
  · by_cases c4 : k = 4
    · obtain ⟨_, _, A, V, s1, s2⟩ := hD.2 c4
      refine ⟨A, ⟨fun z => by omega, fun _ => ⟨V, s1⟩, fun _ z => absurd c4 z⟩, fun I2 J2 e p l w hs => ?_⟩
      subst c4
      unfold f_X2_choose
      rw [if_neg (show ¬ nI 4 = 1 by decide), if_neg (show ¬ nI 4 = 2 by decide), if_neg (show ¬ nI 4 = 3 by decide), if_pos (show nI 4 = 4 from rfl), x_quickBy (by omega), zb1_s, zg_t ⟨by omega, by omega, by omega⟩, x_actAt hb hs, zb1_s, e _ (by omega) (by omega) (by omega), (s2 p l w hs).1]
    · refine ⟨habS b sp li ev k, ⟨fun z => absurd z c0, fun z => absurd z c4, fun _ _ _ _ _ _ => rfl⟩, fun I2 J2 e p l w hs => ?_⟩
      exact x_hab hb (hC.eq (fun r hr => e _ (by omega) (by omega) (by omega))) (by rw [e 24 (by omega) (by omega) (by omega)]; exact h3) (by rw [e 24 (by omega) (by omega) (by omega)]; exact h4) (by rw [e 24 (by omega) (by omega) (by omega)]; exact h5) hsp hli hev (by omega) hs
-- the reference's table of what a hand does
theorem m_hand (hb : bOk b) (hM : rM b I) {sp li ev k : Nat} (h3 : I 12 0 = nI sp) (h4 : I 12 1 = nI li) (h5 : I 12 2 = nI ev) (hsp : sp < b 9 0) (hli : li ≤ 100) (hev : 1 ≤ ev ∧ ev ≤ 8) (hk : k < 6) : ∃ I2 : zI, zl (fun v : (Int32 × zI) => f_X12_handles_L30 J (nI k) v.1 v.2) zF (0, I) = some I2 ∧ ((∀ r, r ≠ 15 → I2 r = I r) ∧ ∀ p l w, inS b p l w → I2 15 (clM p l w) = nI (habS b sp li ev k p l w)) := by
  have h8 := bP hb
  refine zl_inv (fun n v => v.1 = nI n ∧ (∀ r, r ≠ 15 → v.2 r = I r) ∧ ∀ p l w, inS b p l w → p < n → v.2 15 (clM p l w) = nI (habS b sp li ev k p l w)) _ (b 9 1) 0 _ ⟨rfl, fun _ _ => rfl, fun _ _ _ _ z => by omega⟩ ?_ ?_ zF (by unfold zF; omega)
  · intro p v _ hpp hv
    obtain ⟨x13, I6⟩ := v
    obtain ⟨g1, g2, g3⟩ := hv
    replace g1 : x13 = nI p := g1
    replace g2 : ∀ r, r ≠ 15 → I6 r = I r := g2
    replace g3 : ∀ p' l w, inS b p' l w → p' < p → I6 15 (clM p' l w) = nI (habS b sp li ev k p' l w) := g3
    subst g1
    have hp : p < b 9 1 := by omega
    have hd3 := (hb.2.2.2.2.2.2.1 p hp).2.1
    have run : ∃ I7 : zI, zl (fun v : (Int32 × zI) => f_X12_handles_L43 J (nI p) (nI k) v.1 v.2) zF (1, I6) = some I7 ∧ ((∀ r, r ≠ 15 → I7 r = I r) ∧ ∀ p' l w, inS b p' l w → p' < p + 1 → I7 15 (clM p' l w) = nI (habS b sp li ev k p' l w)) := by
      refine zl_inv (fun n v => v.1 = nI (n + 1) ∧ (∀ r, r ≠ 15 → v.2 r = I r) ∧ ∀ p' l w, inS b p' l w → p' < p ∨ (p' = p ∧ l < n + 1) → v.2 15 (clM p' l w) = nI (habS b sp li ev k p' l w)) _ (b 3 p) 0 _ ⟨rfl, g2, fun p' l w hs z => g3 p' l w hs (by have := hs.2.1; omega)⟩ ?_ ?_ zF (by unfold zF; omega)
      · intro n v _ hnn hv
        obtain ⟨x18, I8⟩ := v
        obtain ⟨f1, f2, f3⟩ := hv
        replace f1 : x18 = nI (n + 1) := f1
        replace f2 : ∀ r, r ≠ 15 → I8 r = I r := f2
        replace f3 : ∀ p' l w, inS b p' l w → p' < p ∨ (p' = p ∧ l < n + 1) → I8 15 (clM p' l w) = nI (habS b sp li ev k p' l w) := f3
        subst f1
        have run2 : ∃ I9 : zI, zl (fun v : (Int32 × zI) => f_X12_handles_L56 J (nI p) (nI (n + 1)) (nI k) v.1 v.2) zF (0, I8) = some I9 ∧ ((∀ r, r ≠ 15 → I9 r = I r) ∧ ∀ p' l w, inS b p' l w → p' < p ∨ (p' = p ∧ l < n + 2) → I9 15 (clM p' l w) = nI (habS b sp li ev k p' l w)) := by
          refine zl_inv (fun m v => v.1 = nI m ∧ (∀ r, r ≠ 15 → v.2 r = I r) ∧ ∀ p' l w, inS b p' l w → p' < p ∨ (p' = p ∧ (l < n + 1 ∨ (l = n + 1 ∧ w < m))) → v.2 15 (clM p' l w) = nI (habS b sp li ev k p' l w)) _ 101 0 _ ⟨rfl, f2, fun p' l w hs z => f3 p' l w hs (by omega)⟩ ?_ ?_ zF (by unfold zF; omega)
          · intro m v _ hmm hv
            obtain ⟨x24, I10⟩ := v
            obtain ⟨e1, e2, e3⟩ := hv
            replace e1 : x24 = nI m := e1
            replace e2 : ∀ r, r ≠ 15 → I10 r = I r := e2
            replace e3 : ∀ p' l w, inS b p' l w → p' < p ∨ (p' = p ∧ (l < n + 1 ∨ (l = n + 1 ∧ w < m))) → I10 15 (clM p' l w) = nI (habS b sp li ev k p' l w) := e3
            subst e1
            have hs : inS b p (n + 1) m := ⟨hp, by omega, by omega, by omega⟩
            have hlt := clM_lt hb hs
            have hM10 : rM b I10 := hM.eq (fun j _ _ => e2 j (by omega))
            have e12 := e2 12 (by omega)
            show ∃ v', f_X12_handles_L56 J (nI p) (nI (n + 1)) (nI k) (nI m) I10 = some (.inl v') ∧ _
            unfold f_X12_handles_L56
            rw [if_neg (show ¬ (100 : Int32) < nI m from nI_ltF (a := 100) (by omega) (by omega)), m_cell, zb1_s, m_habit hb hM10 (by rw [e12]; exact h3) (by rw [e12]; exact h4) (by rw [e12]; exact h5) hsp hli hev hk hs, zb1_s, zg_t (nI_in hlt (by omega)), nI_clamp (by omega), zn_e, nI_1, zn_e]
            refine ⟨_, rfl, rfl, fun r hr => ?_, fun p' l w hs' z => ?_⟩
            · dsimp only
              rw [up_n hr]; exact e2 r hr
            · dsimp only
              rw [up_s]
              by_cases d : p' = p ∧ l = n + 1 ∧ w = m
              · rw [d.1, d.2.1, d.2.2, ud_s]
              · rw [ud_n (clM_ne hb hs hs' d)]
                exact e3 p' l w hs' (by omega)
          · intro v hv
            obtain ⟨x24, I10⟩ := v
            obtain ⟨e1, e2, e3⟩ := hv
            replace e1 : x24 = nI (0 + 101) := e1
            subst e1
            refine ⟨I10, if_pos (show (100 : Int32) < nI 101 by decide), e2, fun p' l w hs z => e3 p' l w hs ?_⟩
            have := hs.2.2.2
            omega
        obtain ⟨I9, r1, r2, r3⟩ := run2
        have hM8 : rM b I8 := hM.eq (fun j _ _ => f2 j (by omega))
        show ∃ v', f_X12_handles_L43 J (nI p) (nI k) (nI (n + 1)) I8 = some (.inl v') ∧ _
        unfold f_X12_handles_L43
        rw [m_steps hb hM8 hp, zb1_s, if_neg (nI_nlt (by omega) (by omega)), r1, zb1_s, zn_e, nI_1]
        exact ⟨_, rfl, rfl, r2, r3⟩
      · intro v hv
        obtain ⟨x18, I8⟩ := v
        obtain ⟨f1, f2, f3⟩ := hv
        replace f1 : x18 = nI (0 + b 3 p + 1) := f1
        replace f2 : ∀ r, r ≠ 15 → I8 r = I r := f2
        rw [Nat.zero_add] at f1
        subst f1
        have hM8 : rM b I8 := hM.eq (fun j _ _ => f2 j (by omega))
        refine ⟨I8, ?_, f2, fun p' l w hs z => f3 p' l w hs ?_⟩
        · show f_X12_handles_L43 J (nI p) (nI k) (nI (b 3 p + 1)) I8 = _
          unfold f_X12_handles_L43
          rw [m_steps hb hM8 hp, zb1_s, if_pos (nI_lt (by omega) (by omega))]
        · have h5 := hs.2.2.1
          by_cases d : p' = p
          · rw [d] at h5; omega
          · omega
    obtain ⟨I7, r1, r2, r3⟩ := run
    have hM6 : rM b I6 := hM.eq (fun j _ _ => g2 j (by omega))
    show ∃ v', f_X12_handles_L30 J (nI k) (nI p) I6 = some (.inl v') ∧ _
    unfold f_X12_handles_L30
    rw [zg_t (by decide), sp_0, hM6.1.2.1, if_neg (nI_ge hp (by omega)), r1, zb1_s, zn_e, nI_1]
    exact ⟨_, rfl, rfl, r2, r3⟩
  · intro v hv
    obtain ⟨x13, I6⟩ := v
    obtain ⟨g1, g2, g3⟩ := hv
    replace g1 : x13 = nI (0 + b 9 1) := g1
    replace g2 : ∀ r, r ≠ 15 → I6 r = I r := g2
    rw [Nat.zero_add] at g1
    subst g1
    have hM6 : rM b I6 := hM.eq (fun j _ _ => g2 j (by omega))
    refine ⟨I6, ?_, g2, fun p l w hs => g3 p l w hs (by have := hs.1; omega)⟩
    show f_X12_handles_L30 J (nI k) (nI (b 9 1)) I6 = _
    unfold f_X12_handles_L30
    rw [zg_t (by decide), sp_0, hM6.1.2.1, if_pos (nI_le (Nat.le_refl _) (by omega))]
theorem m_handles (hb : bOk b) (hM : rM b I) {sp li ev k h : Nat} (h3 : I 12 0 = nI sp) (h4 : I 12 1 = nI li) (h5 : I 12 2 = nI ev) (hsp : sp < b 9 0) (hli : li ≤ 100) (hev : 1 ≤ ev ∧ ev ≤ 8) (hk : k < 6) (hh : h < b 9 2) : ∃ (A : Nat → Nat → Nat → Nat) (I2 : zI) (J2 : zJ), f_X12_handles I J (nI k) (nI h) = some (I2, J2) ∧ aH b k h sp li ev A ∧ (∀ r, r ≠ 15 → I2 r = I r) ∧ (∀ r, r ≠ 0 → r ≠ 16 → J2 r = J r) ∧ ∀ p l w, inS b p l w → I2 15 (clM p l w) = nI (A p l w) := by
  unfold f_X12_handles
  by_cases c0 : k = 0
  · subst c0
    obtain ⟨J6, e1, e2, e3⟩ := m_counts (J := J) (k := 0) hb hM (by omega)
    obtain ⟨A, V, s⟩ := sol_ex (muC b 0) h hb
    obtain ⟨I8, J8, f1, f2, f3⟩ := m_solves hb hM hh (muC_ok hb 0) e2 s
    rw [show nI 0 = (0 : Int32) from rfl] at e1
    rw [if_pos (show nI 0 = 0 from rfl), if_pos (show nI 0 = 0 from rfl), zb1_s, e1, zb1_s, f1, zb2_s]
    exact ⟨A, I8, J8, rfl, ⟨fun _ => ⟨V, s⟩, fun z => by omega, fun z => absurd rfl z⟩, f2.1, fun r r1 r2 => by rw [f2.2 r r2, e3 r r1], fun p l w hs => (f3 p l w hs).1⟩
  · rw [if_neg (nI_ne0 (by omega) (by omega))]
    by_cases c4 : k = 4
    · subst c4
      obtain ⟨J6, e1, e2, e3⟩ := m_counts (J := J) (k := 1) hb hM (by omega)
      obtain ⟨A, V, s⟩ := sol_ex (muC b 1) h hb
      obtain ⟨I8, J8, f1, f2, f3⟩ := m_solves hb hM hh (muC_ok hb 1) e2 s
      rw [show nI 1 = (1 : Int32) from rfl] at e1
      rw [if_pos (show nI 4 = 4 from rfl), if_neg (show ¬ nI 4 = 0 by decide), zb1_s, e1, zb1_s, f1, zb2_s]
      exact ⟨A, I8, J8, rfl, ⟨fun z => by omega, fun _ => ⟨V, s⟩, fun _ z => absurd rfl z⟩, f2.1, fun r r1 r2 => by rw [f2.2 r r2, e3 r r1], fun p l w hs => (f3 p l w hs).1⟩
    · obtain ⟨I2, e1, e2, e3⟩ := m_hand (J := J) hb hM h3 h4 h5 hsp hli hev hk
      rw [if_neg (show ¬ nI k = 4 from nI_eqF (c := 4) c4 (by omega) (by omega)), e1, zb1_s]
      exact ⟨habS b sp li ev k, I2, J, rfl, ⟨fun z => absurd z c0, fun z => absurd z c4, fun _ _ _ _ _ _ => rfl⟩, e2, fun _ _ _ => rfl, e3⟩
end HD
