/-! two lathes: side by side -/
abbrev zO1 : Type := zI ⊕ (Int32 × zI)
def tw (I IM : zI) : Prop := ∀ g, g < 130 → I 44 (g + 70) = IM 22 g ∧ (I 45 (g + 70) = IM 23 g ∨ I 44 (g + 70) = -1)
def twE (I I2 IM IM2 : zI) : Prop := (∀ k, k ≠ 43 → k ≠ 44 → k ≠ 45 → I2 k = I k) ∧ ∀ k, k ≠ 22 → k ≠ 23 → IM2 k = IM k
theorem twE.trans {I I2 I3 IM IM2 IM3 : zI} (h : twE I I2 IM IM2) (g : twE I2 I3 IM2 IM3) : twE I I3 IM IM3 := ⟨fun k h1 h2 h3 => by rw [g.1 k h1 h2 h3, h.1 k h1 h2 h3], fun k h1 h2 => by rw [g.2 k h1 h2, h.2 k h1 h2]⟩
/-- how the two loops end -/
def twQ (p5 : Int32) (I IM : zI) (r : Option (zI ⊕ (Int32 × zI))) (s : Option (zI ⊕ (Int32 × zI))) : Prop := ∃ I2 IM2 : zI, twE I I2 IM IM2 ∧ ((r = some (.inl I2) ∧ s = some (.inl IM2)) ∨ ∃ v, r = some (.inr (1, I2)) ∧ s = some (.inr (v, IM2)) ∧ v = if p5 = 0 then I2 43 3 else if p5 = 1 then I2 43 4 else I2 43 2)
theorem twQ.up {p5 : Int32} {I I2 IM IM2 : zI} {r s : Option (zI ⊕ (Int32 × zI))} (h : twE I I2 IM IM2) (q : twQ p5 I2 IM2 r s) : twQ p5 I IM r s := by
  obtain ⟨A, B, h1, h2⟩ := q
  exact ⟨A, B, h.trans h1, h2⟩
theorem two_max1 {w f : Nat} (hw : w < 2 ^ 31) (hf : f < 2 ^ 31) : (if nI w < nI f then nI f else nI w) = nI (max w f) := by
  by_cases c : w < f
  · rw [if_pos (nI_lt c hf), Nat.max_eq_right (by omega)]
  · rw [if_neg (nI_nlt (by omega) hw), Nat.max_eq_left (by omega)]
theorem two_max2 {w f : Nat} (hw : w < 2 ^ 31) (hf : f < 2 ^ 31) : (if nI w ≤ nI f then some (nI f) else some (nI w)) = some (nI (max w f)) := by
  by_cases c : w ≤ f
  · rw [if_pos (nI_le c hf), Nat.max_eq_right (by omega)]
  · rw [if_neg (nI_ge (by omega) hw), Nat.max_eq_left (by omega)]
section TW
variable {a x b y : Nat} {J JM : zJ} {p5 : Int32}
theorem two_out (x7 x8 wt x11 z7 z8 wu : Int32) {fr : Nat} (h : 20000 < fr) (h2 : fr < 2 ^ 31) (I IM : zI) (n1 n2 : Nat) : twQ p5 I IM (zl (fun v : (Int32 × Int32 × Int32 × Int32 × Int32 × zI) => f_X3_goRound_L32 (nI y) (nI x) (nI b) (nI a) J v.1 v.2.1 v.2.2.1 v.2.2.2.1 v.2.2.2.2.1 v.2.2.2.2.2) (n1 + 1) (x7, x8, nI fr, wt, x11, I)) (zl (fun v : (Int32 × Int32 × Int32 × Int32 × zI) => f_X12_two_L121 (nI y) (nI x) (nI b) (nI a) p5 v.1 v.2.1 v.2.2.1 v.2.2.2.1 v.2.2.2.2) (n2 + 1) (z7, z8, nI fr, wu, IM)) := by
  refine ⟨I, IM, ⟨fun _ _ _ _ => rfl, fun _ _ _ => rfl⟩, Or.inl ⟨zl_r ?_, zl_r ?_⟩⟩
  · show f_X3_goRound_L32 (nI y) (nI x) (nI b) (nI a) J x7 x8 (nI fr) wt x11 I = _
    unfold f_X3_goRound_L32
    rw [if_pos (show (20000 : Int32) < nI fr from nI_ltT (a := 20000) h h2), ite_self]
  · show f_X12_two_L121 (nI y) (nI x) (nI b) (nI a) p5 z7 z8 (nI fr) wu IM = _
    unfold f_X12_two_L121
    rw [if_pos (show (20000 : Int32) < nI fr from nI_ltT (a := 20000) h h2)]
theorem two_loop (ha : 1 ≤ a ∧ a ≤ 99) (hx : 1 ≤ x ∧ x ≤ 30) (hb : 1 ≤ b ∧ b ≤ 99) (hy : 1 ≤ y ∧ y ≤ 30) (hp : p5 = 0 ∨ p5 = 1 ∨ p5 = 2) : ∀ (m f1 f2 fr k : Nat) (wt : Int32) (I IM : zI), 20000 < fr + m → k ≤ fr → fr ≤ 20200 → f1 ≤ fr + a → f2 ≤ fr + b → (fr ≤ f1 ∨ fr ≤ f2) → tw I IM → ∀ n1 n2, m < n1 → m < n2 → twQ p5 I IM (zl (fun v : (Int32 × Int32 × Int32 × Int32 × Int32 × zI) => f_X3_goRound_L32 (nI y) (nI x) (nI b) (nI a) J v.1 v.2.1 v.2.2.1 v.2.2.2.1 v.2.2.2.2.1 v.2.2.2.2.2) n1 (nI f1, nI f2, nI fr, wt, nI k, I)) (zl (fun v : (Int32 × Int32 × Int32 × Int32 × zI) => f_X12_two_L121 (nI y) (nI x) (nI b) (nI a) p5 v.1 v.2.1 v.2.2.1 v.2.2.2.1 v.2.2.2.2) n2 (nI f1, nI f2, nI fr, wt, IM)) := by
  intro m
  induction m with
  | zero =>
    intro f1 f2 fr k wt I IM h1 h2 h3 h4 h5 h6 h7 n1 n2 g1 g2
    obtain ⟨n1, rfl⟩ : ∃ n, n1 = n + 1 := ⟨n1 - 1, by omega⟩
    obtain ⟨n2, rfl⟩ : ∃ n, n2 = n + 1 := ⟨n2 - 1, by omega⟩
    exact two_out _ _ _ _ _ _ _ (by omega) (by omega) I IM n1 n2
  | succ m ih =>
    intro f1 f2 fr k wt I IM h1 h2 h3 h4 h5 h6 h7 n1 n2 g1 g2
    obtain ⟨n1, rfl⟩ : ∃ n, n1 = n + 1 := ⟨n1 - 1, by omega⟩
    obtain ⟨n2, rfl⟩ : ∃ n, n2 = n + 1 := ⟨n2 - 1, by omega⟩
    by_cases hfr : 20000 < fr
    · exact two_out _ _ _ _ _ _ _ hfr (by omega) I IM n1 n2
    have c0 : ¬ (100000 : Int32) ≤ nI k := nI_ge (b := 100000) (by omega) (by omega)
    have c1 : ¬ (20000 : Int32) < nI fr := nI_ltF (a := 20000) (by omega) (by omega)
    by_cases c : f2 < f1
    · -- the other
      have s1 : f_X3_goRound_L32 (nI y) (nI x) (nI b) (nI a) J (nI f1) (nI f2) (nI fr) wt (nI k) I = some (.inl (nI f1, nI (max f2 fr + y + b), nI (max f2 fr + y), wt + (nI (max f2 fr) - nI f2), nI (k + 1), I)) := by
        unfold f_X3_goRound_L32
        rw [if_neg c0, if_neg c1, if_pos (nI_lt c (by omega)), zb1_s, if_pos rfl, zb1_s, two_max1 (by omega) (by omega), zn_e, zn_e, if_pos rfl, zb1_s, nI_add, zn_e, if_pos rfl, nI_add, zn_e, nI_1, zn_e]
      have s2 : f_X12_two_L121 (nI y) (nI x) (nI b) (nI a) p5 (nI f1) (nI f2) (nI fr) wt IM = some (.inl (nI f1, nI (max f2 fr + y + b), nI (max f2 fr + y), wt + (nI (max f2 fr) - nI f2), IM)) := by
        unfold f_X12_two_L121
        rw [if_neg c1, if_pos (nI_lt c (by omega)), zb1_s, if_pos rfl, zb1_s, two_max2 (by omega) (by omega), zb1_s, zn_e, if_pos rfl, zb1_s, nI_add, zn_e, if_pos rfl, nI_add, zn_e]
      rw [zl_l s1, zl_l s2]
      exact ih f1 (max f2 fr + y + b) (max f2 fr + y) (k + 1) _ I IM (by omega) (by omega) (by omega) (by omega) (by omega) (by omega) h7 n1 n2 (by omega) (by omega)
    · -- the first
      by_cases d : 20000 < max f1 fr + x
      · have s1 : f_X3_goRound_L32 (nI y) (nI x) (nI b) (nI a) J (nI f1) (nI f2) (nI fr) wt (nI k) I = some (.inl (nI (max f1 fr + x + a), nI f2, nI (max f1 fr + x), wt + (nI (max f1 fr) - nI f1), nI (k + 1), I)) := by
          unfold f_X3_goRound_L32
          rw [if_neg c0, if_neg c1, if_neg (nI_nlt (by omega) (by omega)), zb1_s, if_neg (by decide), zb1_s, two_max1 (by omega) (by omega), zn_e, zn_e, if_neg (by decide), zb1_s, nI_add, zn_e, if_neg (by decide), nI_add, zn_e, if_pos (show (20000 : Int32) < nI (max f1 fr + x) from nI_ltT (a := 20000) d (by omega)), nI_1, zn_e]
        have s2 : f_X12_two_L121 (nI y) (nI x) (nI b) (nI a) p5 (nI f1) (nI f2) (nI fr) wt IM = some (.inl (nI f1, nI f2, nI (max f1 fr + x), wt + (nI (max f1 fr) - nI f1), IM)) := by
          unfold f_X12_two_L121
          rw [if_neg c1, if_neg (nI_nlt (by omega) (by omega)), zb1_s, if_neg (by decide), zb1_s, two_max2 (by omega) (by omega), zb1_s, zn_e, if_neg (by decide), zb1_s, nI_add, zn_e, if_neg (by decide), if_pos (show (20000 : Int32) < nI (max f1 fr + x) from nI_ltT (a := 20000) d (by omega))]
        rw [zl_l s1, zl_l s2]
        obtain ⟨n1, rfl⟩ : ∃ n, n1 = n + 1 := ⟨n1 - 1, by omega⟩
        obtain ⟨n2, rfl⟩ : ∃ n, n2 = n + 1 := ⟨n2 - 1, by omega⟩
        exact two_out _ _ _ _ _ _ _ d (by omega) I IM n1 n2
      · have hs0 : max f1 fr + x ≤ f2 + 30 := by omega
        have hg : f2 + 30 - (max f1 fr + x) < 130 := by omega
        have hgg : (nI f2 - nI (max f1 fr + x)) + 100 = nI (f2 + 30 - (max f1 fr + x) + 70) := by
          have e : nI (f2 + 30 - (max f1 fr + x) + 70) + nI (max f1 fr + x) = nI f2 + 100 := by
            rw [nI_add, show (100 : Int32) = nI 100 from rfl, nI_add]
            congr 1; omega
          have e2 : nI (f2 + 30 - (max f1 fr + x) + 70) = nI f2 + 100 - nI (max f1 fr + x) := by rw [← e, Int32.add_sub_cancel]
          rw [e2, Int32.sub_eq_add_neg, Int32.sub_eq_add_neg, Int32.add_assoc, Int32.add_assoc, Int32.add_comm (-nI (max f1 fr + x)) 100]
        have hgm : (30 + nI f2) - nI (max f1 fr + x) = nI (f2 + 30 - (max f1 fr + x)) := by
          rw [show (30 : Int32) = nI 30 from rfl, nI_add, nI_sub (by omega)]
          congr 1; omega
        obtain ⟨t1, t2⟩ := h7 _ hg
        have hfr2 : max f1 fr + x < 2 ^ 31 := by omega
        have hres : max f1 fr + x ≤ 20000 := by omega
        have hwt : ∃ wz, wt + (nI (max f1 fr) - nI f1) = wz := ⟨_, rfl⟩
        obtain ⟨wz, hwz⟩ := hwt
        have S1 : f_X3_goRound_L32 (nI y) (nI x) (nI b) (nI a) J (nI f1) (nI f2) (nI fr) wt (nI k) I = zb2 (f_X3_endsRound I J (nI (max f1 fr + x)) (nI f2 - nI (max f1 fr + x)) wz) (fun x34 I35 => (if x34 = 0 then some (.inl (nI (max f1 fr + x + a), nI f2, nI (max f1 fr + x), wz, nI (k + 1), I35)) else some (.inr (.inr (1, I35))))) := by
          unfold f_X3_goRound_L32
          rw [if_neg c0, if_neg c1, if_neg (nI_nlt (by omega) (by omega)), zb1_s, if_neg (by decide), zb1_s, two_max1 (by omega) (by omega), zn_e, zn_e, if_neg (by decide), zb1_s, nI_add, zn_e, if_neg (by decide), nI_add, zn_e, if_neg (show ¬ (20000 : Int32) < nI (max f1 fr + x) from nI_ltF (a := 20000) hres (by omega)), hwz, nI_1]
          rfl
        have S2 : f_X12_two_L121 (nI y) (nI x) (nI b) (nI a) p5 (nI f1) (nI f2) (nI fr) wt IM = (if IM 22 (f2 + 30 - (max f1 fr + x)) < 0 then some (.inl (nI (max f1 fr + x + a), nI f2, nI (max f1 fr + x), wz, va_up (va_up IM 22 (upd (IM 22) (f2 + 30 - (max f1 fr + x)) (nI (max f1 fr + x)))) 23 (upd ((va_up IM 22 (upd (IM 22) (f2 + 30 - (max f1 fr + x)) (nI (max f1 fr + x)))) 23) (f2 + 30 - (max f1 fr + x)) wz))) else if p5 = 0 then some (.inr (.inr (nI (max f1 fr + x) - IM 22 (f2 + 30 - (max f1 fr + x)), IM))) else if p5 = 1 then some (.inr (.inr (wz - IM 23 (f2 + 30 - (max f1 fr + x)), IM))) else some (.inr (.inr (IM 22 (f2 + 30 - (max f1 fr + x)), IM)))) := by
          unfold f_X12_two_L121
          rw [if_neg c1, if_neg (nI_nlt (by omega) (by omega)), zb1_s, if_neg (by decide), zb1_s, two_max2 (by omega) (by omega), zb1_s, zn_e, if_neg (by decide), zb1_s, nI_add, zn_e, if_neg (by decide), if_neg (show ¬ (20000 : Int32) < nI (max f1 fr + x) from nI_ltF (a := 20000) hres (by omega)), nI_add, zn_e, hgm, zn_e, hwz]
          simp only [zg_t (nI_in hg (show 130 < 2 ^ 31 by omega))]
          simp only [nI_clamp (show f2 + 30 - (max f1 fr + x) < 2 ^ 31 by omega), zn_e]
        have hwi : f_X11_within I J (nI (f2 + 30 - (max f1 fr + x) + 70)) 0 255 = some (zi True) := by
          rw [e_within, nI_toInt (by omega), k0, show (255 : Int32).toInt = 255 from rfl]
          exact congrArg some (zi_c ⟨fun _ => trivial, fun _ => by omega⟩)
        generalize hgx : f2 + 30 - (max f1 fr + x) = g at *
        generalize hfx : max f1 fr + x = F at *
        have E1 : f_X3_endsRound I J (nI F) (nI f2 - nI F) wz = (if 0 ≤ I 44 (g + 70) then some (1, va_up (va_up (va_up I 43 (va_up (I 43) 2 (I 44 (g + 70)))) 43 (va_up ((va_up I 43 (va_up (I 43) 2 (I 44 (g + 70)))) 43) 3 (nI F - I 44 (g + 70)))) 43 (va_up ((va_up (va_up I 43 (va_up (I 43) 2 (I 44 (g + 70)))) 43 (va_up ((va_up I 43 (va_up (I 43) 2 (I 44 (g + 70)))) 43) 3 (nI F - I 44 (g + 70)))) 43) 4 (wz - I 45 (g + 70)))) else some (0, va_up (va_up I 44 (upd (I 44) (g + 70) (nI F))) 45 (upd ((va_up I 44 (upd (I 44) (g + 70) (nI F))) 45) (g + 70) wz))) := by
          unfold f_X3_endsRound
          rw [hgg, zn_e, hwi, zb1_s, zif, if_pos trivial]
          simp only [zg_t (nI_in (show g + 70 < 256 by omega) (show 256 < 2 ^ 31 by omega))]
          simp only [nI_clamp (show g + 70 < 2 ^ 31 by omega), zn_e]
          rfl
        by_cases e : 0 ≤ I 44 (g + 70)
        · have e2 : ¬ IM 22 g < 0 := by rw [← t1]; exact Int32.not_lt.mpr e
          have t2 : I 45 (g + 70) = IM 23 g := by
            rcases t2 with q | q
            · exact q
            · rw [q] at e; exact absurd e (by decide)
          rw [E1, if_pos e, zb2_s, if_neg (by decide)] at S1
          rw [if_neg e2] at S2
          rw [zl_r S1]
          have hfin : ∀ v, v = (if p5 = 0 then nI F - IM 22 g else if p5 = 1 then wz - IM 23 g else IM 22 g) → f_X12_two_L121 (nI y) (nI x) (nI b) (nI a) p5 (nI f1) (nI f2) (nI fr) wt IM = some (.inr (.inr (v, IM))) → twQ p5 I IM (some (.inr (1, va_up (va_up (va_up I 43 (va_up (I 43) 2 (I 44 (g + 70)))) 43 (va_up ((va_up I 43 (va_up (I 43) 2 (I 44 (g + 70)))) 43) 3 (nI F - I 44 (g + 70)))) 43 (va_up ((va_up (va_up I 43 (va_up (I 43) 2 (I 44 (g + 70)))) 43 (va_up ((va_up I 43 (va_up (I 43) 2 (I 44 (g + 70)))) 43) 3 (nI F - I 44 (g + 70)))) 43) 4 (wz - I 45 (g + 70)))))) (zl (fun v : (Int32 × Int32 × Int32 × Int32 × zI) => f_X12_two_L121 (nI y) (nI x) (nI b) (nI a) p5 v.1 v.2.1 v.2.2.1 v.2.2.2.1 v.2.2.2.2) (n2 + 1) (nI f1, nI f2, nI fr, wt, IM)) := by
            intro v hv hz
            rw [zl_r hz]
            refine ⟨_, IM, ⟨fun k h1 h2 h3 => ?_, fun _ _ _ => rfl⟩, Or.inr ⟨v, rfl, rfl, ?_⟩⟩
            · rw [up_n h1, up_n h1, up_n h1]
            · rw [hv, up_s, up_s, up_s]
              rw [up_n (show 3 ≠ 4 by decide), up_s, up_s, up_n (show 2 ≠ 4 by decide), up_n (show 2 ≠ 3 by decide), up_s, t1, t2]
          rcases hp with q | q | q
          · rw [if_pos q] at S2
            exact hfin _ (by rw [if_pos q]) S2
          · rw [if_neg (by rw [q]; decide), if_pos q] at S2
            exact hfin _ (by rw [if_neg (by rw [q]; decide), if_pos q]) S2
          · rw [if_neg (by rw [q]; decide), if_neg (by rw [q]; decide)] at S2
            exact hfin _ (by rw [if_neg (by rw [q]; decide), if_neg (by rw [q]; decide)]) S2
        · have e2 : IM 22 g < 0 := by rw [← t1]; exact Int32.not_le.mp e
          rw [E1, if_neg e, zb2_s, if_pos rfl] at S1
          rw [if_pos e2] at S2
          rw [zl_l S1, zl_l S2]
          refine (ih (F + a) f2 F (k + 1) wz _ _ (by omega) (by omega) (by omega) (by omega) (by omega) (by omega) ?_ n1 n2 (by omega) (by omega)).up ⟨fun k h1 h2 h3 => ?_, fun k h1 h2 => ?_⟩
          · intro g' hg'
            rw [up_n (show 44 ≠ 45 by decide), up_n (show 22 ≠ 23 by decide), up_s, up_s, up_s, up_s, up_n (show 45 ≠ 44 by decide), up_n (show 23 ≠ 22 by decide)]
            by_cases z : g' = g
            · rw [z, ud_s, ud_s, ud_s, ud_s]; exact ⟨rfl, Or.inl rfl⟩
            · rw [ud_n (by omega), ud_n (by omega), ud_n (by omega), ud_n (by omega)]; exact h7 g' hg'
          · rw [up_n h3, up_n h2]
          · rw [up_n h2, up_n h1]
end TW
theorem m_two67 {I : zI} : ∃ I2 : zI, zl (fun v : (Int32 × zI) => f_X12_two_L67 v.1 v.2) zF (0, I) = some I2 ∧ ((∀ k, k ≠ 22 → I2 k = I k) ∧ ∀ g, g < 130 → I2 22 g = -1) := by
  refine zl_inv (fun k u => u.1 = nI k ∧ (∀ j, j ≠ 22 → u.2 j = I j) ∧ ∀ x, x < k → u.2 22 x = -1) _ 130 0 _ ⟨rfl, fun _ _ => rfl, fun x hx => by omega⟩ ?_ ?_ zF (by unfold zF; omega)
  · intro k u _ hk hu
    obtain ⟨x, I6⟩ := u
    obtain ⟨h1, h2, h3⟩ := hu
    replace h1 : x = nI k := h1
    subst h1
    have hkn : k < 130 := by omega
    show ∃ v', f_X12_two_L67 (nI k) I6 = some (.inl v') ∧ _
    unfold f_X12_two_L67
    rw [if_neg (show ¬ (130 : Int32) ≤ nI k from nI_ge (b := 130) hkn (by omega)), zg_t (nI_in hkn (by omega)), nI_clamp (by omega), zn_e, nI_1, zn_e]
    refine ⟨_, rfl, rfl, fun j hj => ?_, fun x hx => ?_⟩
    · dsimp only
      rw [up_n hj]; exact h2 j hj
    · dsimp only
      rw [up_s]
      by_cases d : x = k
      · rw [d, ud_s]
      · rw [ud_n d]; exact h3 x (by omega)
  · intro u hu
    obtain ⟨x, I6⟩ := u
    obtain ⟨h1, h2, h3⟩ := hu
    replace h1 : x = nI (0 + 130) := h1
    subst h1
    exact ⟨I6, if_pos (show (130 : Int32) ≤ nI 130 by decide), h2, h3⟩
theorem zRel.stay {b : zB} {I I2 : zI} {J2 : zJ} {IM IM2 : zI} {JM2 : zJ} (hb : bOk b) (hC : rC b I 4) (hM : rM b IM) (hT : rT I IM) (hH : rHb (b 9 0) 24 0 I IM) (hK : rK (b 9 0) I IM) (e1 : ∀ k, k < 37 → I2 k = I k) (e2 : ∀ k, k < 15 → IM2 k = IM k) (hP : rP b I2 J2) : zRel I2 J2 IM2 JM2 := by
  refine ⟨b, hb, hC.eq (fun k hk => e1 _ (by omega)), hM.eq (fun k _ h2 => e2 k (by omega)), ?_, ?_, ?_, hP⟩
  · exact hT.eq (by rw [e1 1 (by omega)]) (e1 2 (by omega)) (by rw [e2 0 (by omega)]) (e2 1 (by omega))
  · exact hH.eq (fun k hk => e1 _ (by omega)) (fun k _ => by rw [e2 12 (by omega)]) (by rw [e2 13 (by omega)]) (fun k _ => by rw [e2 14 (by omega)])
  · obtain ⟨n, k1, k2, k3, k4⟩ := hK
    exact ⟨n, k1, by rw [e1 0 (by omega)]; exact k2, by rw [e2 0 (by omega)]; exact k3, fun j hj => (k4 j hj).eq (fun k hk => e1 _ (by omega)) (fun k _ => by rw [e2 12 (by omega)]) (by rw [e2 13 (by omega)]) (fun k _ => by rw [e2 14 (by omega)])⟩
theorem pu_two : op_two zRel := by
  intro I J IM JM hR p1 p2 p3 p4 p5
  have hR0 := hR
  obtain ⟨bb, hb, hC, hM, hT, hH, hK, hP⟩ := hR
  unfold f_X11_two f_X12_two
  simp only [e_within, e_in, t64, zb1_s, zif, k0, k1, k2, k30, k99, K0, K1, K2, K30, K99]
  by_cases c1 : 1 ≤ p1.toInt ∧ p1.toInt ≤ 99
  case neg => simp only [if_neg c1]; exact ⟨_, _, _, rfl, rfl, hR0⟩
  by_cases c2 : 1 ≤ p2.toInt ∧ p2.toInt ≤ 30
  case neg => simp only [if_pos c1, if_neg c2]; exact ⟨_, _, _, rfl, rfl, hR0⟩
  by_cases c3 : 1 ≤ p3.toInt ∧ p3.toInt ≤ 99
  case neg => simp only [if_pos c1, if_pos c2, if_neg c3]; exact ⟨_, _, _, rfl, rfl, hR0⟩
  by_cases c4 : 1 ≤ p4.toInt ∧ p4.toInt ≤ 30
  case neg => simp only [if_pos c1, if_pos c2, if_pos c3, if_neg c4]; exact ⟨_, _, _, rfl, rfl, hR0⟩
  by_cases c5 : 0 ≤ p5.toInt ∧ p5.toInt ≤ 2
  case neg => simp only [if_pos c1, if_pos c2, if_pos c3, if_pos c4, if_neg c5]; exact ⟨_, _, _, rfl, rfl, hR0⟩
  simp only [if_pos c1, if_pos c2, if_pos c3, if_pos c4, if_pos c5]
  obtain ⟨a, ha, rfl⟩ := nI_of3 (x := p1) (n := 100) (by omega) (by omega)
  obtain ⟨x, hx, rfl⟩ := nI_of3 (x := p2) (n := 31) (by omega) (by omega)
  obtain ⟨b, hbb, rfl⟩ := nI_of3 (x := p3) (n := 100) (by omega) (by omega)
  obtain ⟨y, hy, rfl⟩ := nI_of3 (x := p4) (n := 31) (by omega) (by omega)
  rw [nI_toInt (by omega)] at c1 c2 c3 c4
  have hp : p5 = 0 ∨ p5 = 1 ∨ p5 = 2 := by
    obtain ⟨k, hk, rfl⟩ := nI_of3 (x := p5) (n := 3) c5.1 (by omega)
    have : k = 0 ∨ k = 1 ∨ k = 2 := by omega
    rcases this with rfl | rfl | rfl
    · exact Or.inl rfl
    · exact Or.inr (Or.inl rfl)
    · exact Or.inr (Or.inr rfl)
  obtain ⟨I1, e1, e2, e3⟩ := x_fill (I := I) (J := J) (q := 44) (n := 256) (by omega) (-1)
  obtain ⟨M1, g1, g2, g3⟩ := m_two67 (I := IM)
  unfold f_X3_goRound
  rw [e1, zb1_s]
  have hwi : f_X11_within I1 J (nI (b + 100)) 0 255 = some (zi True) := by
    rw [e_within, nI_toInt (by omega), k0, show (255 : Int32).toInt = 255 from rfl]
    exact congrArg some (zi_c ⟨fun _ => trivial, fun _ => by omega⟩)
  have E1 : f_X3_endsRound I1 J 0 (nI b) 0 = some (0, va_up (va_up I1 44 (upd (I1 44) (b + 100) 0)) 45 (upd ((va_up I1 44 (upd (I1 44) (b + 100) 0)) 45) (b + 100) 0)) := by
    unfold f_X3_endsRound
    rw [show (100 : Int32) = nI 100 from rfl, nI_add, zn_e, hwi, zb1_s, zif, if_pos trivial]
    simp only [zg_t (nI_in (show b + 100 < 256 by omega) (show 256 < 2 ^ 31 by omega))]
    simp only [nI_clamp (show b + 100 < 2 ^ 31 by omega), zn_e]
    rw [e3 (b + 100) (by omega), if_neg (by decide)]
  rw [E1, zb2_s, g1, zb1_s, show (30 : Int32) + nI b = nI (30 + b) from by rw [show (30 : Int32) = nI 30 from rfl, nI_add]]
  simp only [zg_t (nI_in (show 30 + b < 130 by omega) (show 130 < 2 ^ 31 by omega))]
  simp only [nI_clamp (show 30 + b < 2 ^ 31 by omega), zn_e]
  generalize hI2 : va_up (va_up I1 44 (upd (I1 44) (b + 100) 0)) 45 (upd ((va_up I1 44 (upd (I1 44) (b + 100) 0)) 45) (b + 100) 0) = I2
  generalize hM2 : va_up (va_up M1 22 (upd (M1 22) (30 + b) 0)) 23 (upd ((va_up M1 22 (upd (M1 22) (30 + b) 0)) 23) (30 + b) 0) = M2
  have htw : tw I2 M2 := by
    intro g hg
    rw [← hI2, ← hM2, up_n (show 44 ≠ 45 by decide), up_n (show 22 ≠ 23 by decide), up_s, up_s, up_s, up_s, up_n (show 45 ≠ 44 by decide), up_n (show 23 ≠ 22 by decide)]
    by_cases z : g = 30 + b
    · rw [show g + 70 = b + 100 by omega, z, ud_s, ud_s, ud_s, ud_s]; exact ⟨rfl, Or.inl rfl⟩
    · rw [ud_n (by omega), ud_n z, ud_n (by omega), ud_n z, e3 _ (by omega), g3 _ hg]; exact ⟨rfl, Or.inr rfl⟩
  obtain ⟨I3, M3, ⟨f1, f2⟩, hq⟩ := two_loop (a := a) (x := x) (b := b) (y := y) (J := J) (p5 := p5) ⟨by omega, by omega⟩ ⟨by omega, by omega⟩ ⟨by omega, by omega⟩ ⟨by omega, by omega⟩ hp 20001 a b 0 0 0 I2 M2 (by omega) (by omega) (by omega) (by omega) (by omega) (by omega) htw zF zF (by unfold zF; omega) (by unfold zF; omega)
  have hrel : zRel I3 J M3 JM := by
    refine zRel.stay hb hC hM hT hH hK (fun k hk => ?_) (fun k hk => ?_) (hP.eq (fun k h1 h2 => ?_) (fun _ _ _ => rfl))
    · rw [f1 k (by omega) (by omega) (by omega), ← hI2, up_n (by omega), up_n (by omega), e2 k (by omega)]
    · rw [f2 k (by omega) (by omega), ← hM2, up_n (by omega), up_n (by omega), g2 k (by omega)]
    · rw [f1 k (by omega) (by omega) (by omega), ← hI2, up_n (by omega), up_n (by omega), e2 k (by omega)]
  rw [show nI 0 = (0 : Int32) from rfl] at hq
  rcases hq with ⟨q1, q2⟩ | ⟨v, q1, q2, q3⟩
  · rw [q1, q2, zc1_l, zc1_l, zb2_s, if_pos rfl]
    exact ⟨_, _, _, rfl, rfl, hrel⟩
  · rw [q1, q2, zc1_r, zc1_r, zb2_s, if_neg (by decide)]
    unfold f_X3_told
    rcases hp with q | q | q
    · rw [if_pos q] at q3 ⊢
      rw [zb1_s, ← q3]
      exact ⟨_, _, _, rfl, rfl, hrel⟩
    · rw [if_neg (by rw [q]; decide), if_pos q] at q3 ⊢
      rw [zb1_s, ← q3]
      exact ⟨_, _, _, rfl, rfl, hrel⟩
    · rw [if_neg (by rw [q]; decide), if_neg (by rw [q]; decide)] at q3 ⊢
      rw [zb1_s, ← q3]
      exact ⟨_, _, _, rfl, rfl, hrel⟩
