/-! the plainest rule -/
def rkR (G : Nat → Nat → Nat → Nat) (i a j : Nat) : Nat := (((2 * G i a j + (if i = j then 0 else 1)) * 6 + i) * 101 + a) * 6 + j
abbrev lgR (ns i a j : Nat) : Prop := i < ns ∧ j < ns ∧ a ≤ 100 ∧ (i = j → a = 0)
def mnR (G : Nat → Nat → Nat → Nat) (ns : Nat) (Vi : Nat → Nat → Nat → Prop) (x : Int32) : Prop := ∃ i a j, lgR ns i a j ∧ x = nI (rkR G i a j) ∧ ∀ i' a' j', lgR ns i' a' j' → Vi i' a' j' → rkR G i a j ≤ rkR G i' a' j'
theorem rkR_lt {G : Nat → Nat → Nat → Nat} {ns i a j : Nat} (hG : ∀ i a j, G i a j ≤ 20) (hn : ns ≤ 6) (h : lgR ns i a j) : rkR G i a j < 1000000 := by
  have := hG i a j
  obtain ⟨h1, h2, h3, h4⟩ := h
  unfold rkR
  split <;> omega
theorem mnR.sub {G : Nat → Nat → Nat → Nat} {ns : Nat} {Vi Vj : Nat → Nat → Nat → Prop} {x : Int32} (m : mnR G ns Vi x) (h : ∀ i a j, lgR ns i a j → Vj i a j → Vi i a j) : mnR G ns Vj x := by
  obtain ⟨i, a, j, h1, h2, h3⟩ := m
  exact ⟨i, a, j, h1, h2, fun i' a' j' g1 g2 => h3 i' a' j' g1 (h i' a' j' g1 g2)⟩
theorem mnR.add {G : Nat → Nat → Nat → Nat} {ns i0 a0 j0 : Nat} {Vi Vj : Nat → Nat → Nat → Prop} {x : Int32} (hG : ∀ i a j, G i a j ≤ 20) (hn : ns ≤ 6) (m : mnR G ns Vi x) (hl : lgR ns i0 a0 j0) (h : ∀ i a j, lgR ns i a j → Vj i a j → Vi i a j ∨ (i = i0 ∧ a = a0 ∧ j = j0)) : mnR G ns Vj (if nI (rkR G i0 a0 j0) < x then nI (rkR G i0 a0 j0) else x) := by
  obtain ⟨i, a, j, h1, h2, h3⟩ := m
  have k1 := rkR_lt hG hn h1
  have k2 := rkR_lt hG hn hl
  rw [h2]
  by_cases c : rkR G i0 a0 j0 < rkR G i a j
  · rw [if_pos (nI_lt c (by omega))]
    refine ⟨i0, a0, j0, hl, rfl, fun i' a' j' g1 g2 => ?_⟩
    rcases h i' a' j' g1 g2 with q | ⟨q1, q2, q3⟩
    · have := h3 i' a' j' g1 q; omega
    · rw [q1, q2, q3]; exact Nat.le_refl _
  · rw [if_neg (nI_nlt (by omega) (by omega))]
    refine ⟨i, a, j, h1, rfl, fun i' a' j' g1 g2 => ?_⟩
    rcases h i' a' j' g1 g2 with q | ⟨q1, q2, q3⟩
    · exact h3 i' a' j' g1 q
    · rw [q1, q2, q3]; omega
theorem x_rankOf {I : zI} {J : zJ} {G : Nat → Nat → Nat → Nat} {ns i a j : Nat} (hn : ns ≤ 6) (hG : ∀ i a j, G i a j ≤ 20) (hf : ∀ i a j, f_X1_offBy I J 24 (nI i) (nI a) (nI j) = some (nI (G i a j))) (h : lgR ns i a j) : f_X1_rankOf I J 24 (nI i) (nI a) (nI j) = some (nI (rkR G i a j)) := by
  obtain ⟨h1, h2, h3, h4⟩ := h
  unfold f_X1_rankOf
  rw [hf, zb1_s]
  have e : (if nI i = nI j then some (0 : Int32) else some 1) = some (nI (if i = j then 0 else 1)) := by
    by_cases c : i = j
    · rw [if_pos (by rw [c]), if_pos c]; rfl
    · rw [if_neg (nI_eqF c (by omega) (by omega)), if_neg c]; rfl
  rw [e, zb1_s, zn_e, show (2 : Int32) = nI 2 from rfl, show (6 : Int32) = nI 6 from rfl, show (101 : Int32) = nI 101 from rfl]
  simp only [nI_mul, nI_add]
  rfl
abbrev vC (pi pa pj i a j : Nat) : Prop := i < pi ∨ (i = pi ∧ (i = j ∨ a < pa ∨ (a = pa ∧ j < pj)))
section PL
variable {I : zI} {J : zJ} {G : Nat → Nat → Nat → Nat} {ns : Nat}
theorem x_pl44 (hn : ns ≤ 6) (hG : ∀ i a j, G i a j ≤ 20) (hf : ∀ i a j, f_X1_offBy I J 24 (nI i) (nI a) (nI j) = some (nI (G i a j))) {i a : Nat} (hi : i < ns) (ha : a ≤ 100) {x : Int32} (hx : mnR G ns (vC i a 0) x) : ∃ y, zl (fun v : (Int32 × Int32) => f_X1_plainestRule_L44 (nI ns) (nI i) I J 24 (nI a) v.1 v.2) zF (x, 0) = some y ∧ mnR G ns (vC i a ns) y := by
  refine zl_inv (fun k v => v.2 = nI k ∧ mnR G ns (vC i a k) v.1) _ ns 0 _ ⟨rfl, hx⟩ ?_ ?_ zF (by unfold zF; omega)
  · intro k v _ hk hv
    obtain ⟨x15, x16⟩ := v
    obtain ⟨h1, h2⟩ := hv
    replace h1 : x16 = nI k := h1
    replace h2 : mnR G ns (vC i a k) x15 := h2
    subst h1
    show ∃ v', f_X1_plainestRule_L44 (nI ns) (nI i) I J 24 (nI a) x15 (nI k) = some (.inl v') ∧ _
    unfold f_X1_plainestRule_L44
    rw [if_neg (nI_ge (by omega) (by omega))]
    by_cases c : i = k
    · rw [if_pos (by rw [c]), zn_e, nI_1]
      exact ⟨_, rfl, rfl, h2.sub (fun i' a' j' g1 g2 => by omega)⟩
    · have hl : lgR ns i a k := ⟨hi, by omega, ha, fun z => absurd z c⟩
      rw [if_neg (nI_eqF c (by omega) (by omega)), x_rankOf hn hG hf hl, zb1_s, zn_e, zn_e, nI_1]
      exact ⟨_, rfl, rfl, h2.add hG hn hl (fun i' a' j' g1 g2 => by omega)⟩
  · intro v hv
    obtain ⟨x15, x16⟩ := v
    obtain ⟨h1, h2⟩ := hv
    replace h1 : x16 = nI (0 + ns) := h1
    replace h2 : mnR G ns (vC i a (0 + ns)) x15 := h2
    rw [Nat.zero_add] at h1 h2
    subst h1
    exact ⟨x15, if_pos (nI_le (Nat.le_refl _) (by omega)), h2⟩
theorem x_pl34 (hn : ns ≤ 6) (hG : ∀ i a j, G i a j ≤ 20) (hf : ∀ i a j, f_X1_offBy I J 24 (nI i) (nI a) (nI j) = some (nI (G i a j))) {i : Nat} (hi : i < ns) {x : Int32} (hx : mnR G ns (vC i 0 0) x) : ∃ y, zl (fun v : (Int32 × Int32) => f_X1_plainestRule_L34 (nI ns) (nI i) I J 24 v.1 v.2) zF (x, 0) = some y ∧ mnR G ns (vC i 101 0) y := by
  refine zl_inv (fun k v => v.2 = nI k ∧ mnR G ns (vC i k 0) v.1) _ 101 0 _ ⟨rfl, hx⟩ ?_ ?_ zF (by unfold zF; omega)
  · intro k v _ hk hv
    obtain ⟨x15, x16⟩ := v
    obtain ⟨h1, h2⟩ := hv
    replace h1 : x16 = nI k := h1
    replace h2 : mnR G ns (vC i k 0) x15 := h2
    subst h1
    obtain ⟨y, e1, e2⟩ := x_pl44 hn hG hf hi (show k ≤ 100 by omega) h2
    show ∃ v', f_X1_plainestRule_L34 (nI ns) (nI i) I J 24 x15 (nI k) = some (.inl v') ∧ _
    unfold f_X1_plainestRule_L34
    rw [if_neg (show ¬ (100 : Int32) < nI k from nI_ltF (a := 100) (by omega) (by omega)), e1, zb1_s, zn_e, nI_1]
    exact ⟨_, rfl, rfl, e2.sub (fun i' a' j' g1 g2 => by omega)⟩
  · intro v hv
    obtain ⟨x15, x16⟩ := v
    obtain ⟨h1, h2⟩ := hv
    replace h1 : x16 = nI (0 + 101) := h1
    subst h1
    exact ⟨x15, if_pos (show (100 : Int32) < nI 101 by decide), h2⟩
theorem x_pl11 (h1 : 1 ≤ ns) (hn : ns ≤ 6) (hG : ∀ i a j, G i a j ≤ 20) (hf : ∀ i a j, f_X1_offBy I J 24 (nI i) (nI a) (nI j) = some (nI (G i a j))) : ∃ y, zl (fun v : (Int32 × Int32) => f_X1_plainestRule_L11 (nI ns) I J 24 v.1 v.2) zF (nI (rkR G 0 0 0), 0) = some y ∧ mnR G ns (fun _ _ _ => True) y := by
  refine zl_inv (fun k v => v.2 = nI k ∧ mnR G ns (fun i _ _ => i < k) v.1) _ ns 0 _ ⟨rfl, 0, 0, 0, ⟨by omega, by omega, by omega, fun _ => rfl⟩, rfl, fun _ _ _ _ z => by omega⟩ ?_ ?_ zF (by unfold zF; omega)
  · intro k v _ hk hv
    obtain ⟨x15, x16⟩ := v
    obtain ⟨h1, h2⟩ := hv
    replace h1 : x16 = nI k := h1
    replace h2 : mnR G ns (fun i _ _ => i < k) x15 := h2
    subst h1
    have hl : lgR ns k 0 k := ⟨by omega, by omega, by omega, fun _ => rfl⟩
    obtain ⟨y, e1, e2⟩ := x_pl34 hn hG hf (show k < ns by omega) (h2.add (Vj := vC k 0 0) hG hn hl (fun i' a' j' g1 g2 => by omega))
    show ∃ v', f_X1_plainestRule_L11 (nI ns) I J 24 x15 (nI k) = some (.inl v') ∧ _
    unfold f_X1_plainestRule_L11
    rw [if_neg (nI_ge (by omega) (by omega)), show (0 : Int32) = nI 0 from rfl, x_rankOf hn hG hf hl, zb1_s, zn_e, show nI 0 = (0 : Int32) from rfl, e1, zb1_s, zn_e, nI_1]
    exact ⟨_, rfl, rfl, e2.sub (fun i' a' j' g1 g2 => by omega)⟩
  · intro v hv
    obtain ⟨x15, x16⟩ := v
    obtain ⟨h1, h2⟩ := hv
    replace h1 : x16 = nI (0 + ns) := h1
    rw [Nat.zero_add] at h1
    subst h1
    exact ⟨x15, if_pos (nI_le (Nat.le_refl _) (by omega)), mnR.sub h2 (fun i' a' j' g1 g2 => by omega)⟩
-- the reference's
abbrev vM (pi pa pj i a j : Nat) : Prop := i = j ∨ i < pi ∨ (i = pi ∧ (a < pa ∨ (a = pa ∧ j < pj)))
def mnM (G : Nat → Nat → Nat → Nat) (ns pi pa pj : Nat) (x y z t : Int32) : Prop := ∃ i a j, lgR ns i a j ∧ (x = nI i ∧ y = nI a ∧ z = nI j ∧ t = nI (G i a j)) ∧ vM pi pa pj i a j ∧ ∀ i' a' j', lgR ns i' a' j' → vM pi pa pj i' a' j' → rkR G i a j ≤ rkR G i' a' j'
theorem mnM.sub {pi pa pj qi qa qj : Nat} {x y z t : Int32} (m : mnM G ns pi pa pj x y z t) (h : ∀ i a j, lgR ns i a j → (vM qi qa qj i a j ↔ vM pi pa pj i a j)) : mnM G ns qi qa qj x y z t := by
  obtain ⟨i, a, j, h1, h2, h3, h4⟩ := m
  exact ⟨i, a, j, h1, h2, (h i a j h1).2 h3, fun i' a' j' g1 g2 => h4 i' a' j' g1 ((h i' a' j' g1).1 g2)⟩
theorem m_pl104 (hn : ns ≤ 6) (hI : I 3 0 = nI ns) (hG : ∀ i a j, G i a j ≤ 20) (hf : ∀ i a j, f_X12_offOf I J (nI i) (nI a) (nI j) = some (nI (G i a j))) {i a : Nat} (hi : i < ns) (ha : a ≤ 100) {x y z t : Int32} (hx : mnM G ns i a 0 x y z t) : ∃ e, zl (fun v : (Int32 × Int32 × Int32 × Int32 × Int32) => f_X12_plainest_L104 I (nI i) J (nI a) v.1 v.2.1 v.2.2.1 v.2.2.2.1 v.2.2.2.2) zF (x, y, z, t, 0) = some e ∧ mnM G ns i a ns e.1 e.2.1 e.2.2.1 e.2.2.2 := by
  refine zl_inv (fun k v => v.2.2.2.2 = nI k ∧ mnM G ns i a k v.1 v.2.1 v.2.2.1 v.2.2.2.1) _ ns 0 _ ⟨rfl, hx⟩ ?_ ?_ zF (by unfold zF; omega)
  · intro k v _ hk hv
    obtain ⟨x, y, z, t, q⟩ := v
    obtain ⟨h1, h2⟩ := hv
    replace h1 : q = nI k := h1
    replace h2 : mnM G ns i a k x y z t := h2
    subst h1
    show ∃ v', f_X12_plainest_L104 I (nI i) J (nI a) x y z t (nI k) = some (.inl v') ∧ _
    unfold f_X12_plainest_L104
    rw [zg_t (by decide), sp_0, hI, if_neg (nI_ge (by omega) (by omega))]
    by_cases c : i = k
    · rw [if_pos (by rw [c]), zn_e, nI_1]
      exact ⟨_, rfl, rfl, h2.sub (fun i' a' j' g1 => by omega)⟩
    · have hl : lgR ns i a k := ⟨hi, by omega, ha, fun z => absurd z c⟩
      rw [if_neg (nI_eqF c (by omega) (by omega)), hf, zb1_s, zb1_s]
      obtain ⟨i1, a1, j1, g1, ⟨g2, g3, g4, g5⟩, g6, g7⟩ := h2
      have k1 := hG i a k
      have k2 := hG i1 a1 j1
      rw [g5]
      by_cases d : G i1 a1 j1 ≤ G i a k
      · rw [if_pos (nI_le d (by omega)), zn_e, nI_1]
        refine ⟨_, rfl, rfl, i1, a1, j1, g1, ⟨g2, g3, g4, rfl⟩, by omega, fun i' a' j' r1 r2 => ?_⟩
        by_cases e : i' = i ∧ a' = a ∧ j' = k
        · rw [e.1, e.2.1, e.2.2]
          unfold rkR
          rw [if_neg c]
          split <;> omega
        · exact g7 i' a' j' r1 (by omega)
      · rw [if_neg (nI_ge (by omega) (by omega)), zn_e, nI_1]
        refine ⟨_, rfl, rfl, i, a, k, hl, ⟨rfl, rfl, rfl, rfl⟩, by omega, fun i' a' j' r1 r2 => ?_⟩
        by_cases e : i' = i ∧ a' = a ∧ j' = k
        · rw [e.1, e.2.1, e.2.2]; exact Nat.le_refl _
        · have h5 := g7 i' a' j' r1 (by omega)
          have h6 : rkR G i a k ≤ rkR G i1 a1 j1 := by
            unfold rkR
            rw [if_neg c]
            split <;> omega
          omega
  · intro v hv
    obtain ⟨x, y, z, t, q⟩ := v
    obtain ⟨h1, h2⟩ := hv
    replace h1 : q = nI (0 + ns) := h1
    replace h2 : mnM G ns i a (0 + ns) x y z t := h2
    rw [Nat.zero_add] at h1 h2
    subst h1
    refine ⟨(x, y, z, t), ?_, h2⟩
    show f_X12_plainest_L104 I (nI i) J (nI a) x y z t (nI ns) = _
    unfold f_X12_plainest_L104
    rw [zg_t (by decide), sp_0, hI, if_pos (nI_le (Nat.le_refl _) (by omega))]
theorem m_pl94 (hn : ns ≤ 6) (hI : I 3 0 = nI ns) (hG : ∀ i a j, G i a j ≤ 20) (hf : ∀ i a j, f_X12_offOf I J (nI i) (nI a) (nI j) = some (nI (G i a j))) {i : Nat} (hi : i < ns) {x y z t : Int32} (hx : mnM G ns i 0 0 x y z t) : ∃ e, zl (fun v : (Int32 × Int32 × Int32 × Int32 × Int32) => f_X12_plainest_L94 I (nI i) J v.1 v.2.1 v.2.2.1 v.2.2.2.1 v.2.2.2.2) zF (x, y, z, t, 0) = some e ∧ mnM G ns (i + 1) 0 0 e.1 e.2.1 e.2.2.1 e.2.2.2 := by
  refine zl_inv (fun k v => v.2.2.2.2 = nI k ∧ mnM G ns i k 0 v.1 v.2.1 v.2.2.1 v.2.2.2.1) _ 101 0 _ ⟨rfl, hx⟩ ?_ ?_ zF (by unfold zF; omega)
  · intro k v _ hk hv
    obtain ⟨x, y, z, t, q⟩ := v
    obtain ⟨h1, h2⟩ := hv
    replace h1 : q = nI k := h1
    replace h2 : mnM G ns i k 0 x y z t := h2
    subst h1
    obtain ⟨⟨x2, y2, z2, t2⟩, e1, e2⟩ := m_pl104 hn hI hG hf hi (show k ≤ 100 by omega) h2
    replace e2 : mnM G ns i k ns x2 y2 z2 t2 := e2
    show ∃ v', f_X12_plainest_L94 I (nI i) J x y z t (nI k) = some (.inl v') ∧ _
    unfold f_X12_plainest_L94
    rw [if_neg (show ¬ (100 : Int32) < nI k from nI_ltF (a := 100) (by omega) (by omega)), e1, zb4_s, zn_e, nI_1]
    exact ⟨_, rfl, rfl, e2.sub (fun i' a' j' g1 => by omega)⟩
  · intro v hv
    obtain ⟨x, y, z, t, q⟩ := v
    obtain ⟨h1, h2⟩ := hv
    replace h1 : q = nI (0 + 101) := h1
    replace h2 : mnM G ns i 101 0 x y z t := h2
    subst h1
    exact ⟨(x, y, z, t), if_pos (show (100 : Int32) < nI 101 by decide), h2.sub (fun i' a' j' g1 => by omega)⟩
theorem m_pl80 (hn : ns ≤ 6) (hI : I 3 0 = nI ns) (hG : ∀ i a j, G i a j ≤ 20) (hf : ∀ i a j, f_X12_offOf I J (nI i) (nI a) (nI j) = some (nI (G i a j))) {x y z t : Int32} (hx : mnM G ns 0 0 0 x y z t) : ∃ e, zl (fun v : (Int32 × Int32 × Int32 × Int32 × Int32) => f_X12_plainest_L80 I J v.1 v.2.1 v.2.2.1 v.2.2.2.1 v.2.2.2.2) zF (x, y, z, t, 0) = some e ∧ mnM G ns ns 0 0 e.1 e.2.1 e.2.2.1 e.2.2.2 := by
  refine zl_inv (fun k v => v.2.2.2.2 = nI k ∧ mnM G ns k 0 0 v.1 v.2.1 v.2.2.1 v.2.2.2.1) _ ns 0 _ ⟨rfl, hx⟩ ?_ ?_ zF (by unfold zF; omega)
  · intro k v _ hk hv
    obtain ⟨x, y, z, t, q⟩ := v
    obtain ⟨h1, h2⟩ := hv
    replace h1 : q = nI k := h1
    replace h2 : mnM G ns k 0 0 x y z t := h2
    subst h1
    obtain ⟨⟨x2, y2, z2, t2⟩, e1, e2⟩ := m_pl94 hn hI hG hf (show k < ns by omega) h2
    show ∃ v', f_X12_plainest_L80 I J x y z t (nI k) = some (.inl v') ∧ _
    unfold f_X12_plainest_L80
    rw [zg_t (by decide), sp_0, hI, if_neg (nI_ge (by omega) (by omega)), e1, zb4_s, zn_e, nI_1]
    exact ⟨_, rfl, rfl, e2⟩
  · intro v hv
    obtain ⟨x, y, z, t, q⟩ := v
    obtain ⟨h1, h2⟩ := hv
    replace h1 : q = nI (0 + ns) := h1
    replace h2 : mnM G ns (0 + ns) 0 0 x y z t := h2
    rw [Nat.zero_add] at h1 h2
    subst h1
    refine ⟨(x, y, z, t), ?_, h2⟩
    show f_X12_plainest_L80 I J x y z t (nI ns) = _
    unfold f_X12_plainest_L80
    rw [zg_t (by decide), sp_0, hI, if_pos (nI_le (Nat.le_refl _) (by omega))]
theorem m_pl28 (h1 : 1 ≤ ns) (hn : ns ≤ 6) (hI : I 3 0 = nI ns) (hG : ∀ i a j, G i a j ≤ 20) (hf : ∀ i a j, f_X12_offOf I J (nI i) (nI a) (nI j) = some (nI (G i a j))) : ∃ e, zl (fun v : (Int32 × Int32 × Int32 × Int32) => f_X12_plainest_L28 I J v.1 v.2.1 v.2.2.1 v.2.2.2) zF (0, 0, 1000000000, 0) = some e ∧ mnM G ns 0 0 0 e.1 0 e.2.1 e.2.2 := by
  refine zl_inv (fun k v => v.2.2.2 = nI k ∧ ((k = 0 ∧ v.2.2.1 = nI 1000000000) ∨ ∃ i, i < ns ∧ v.1 = nI i ∧ v.2.1 = nI i ∧ v.2.2.1 = nI (G i 0 i) ∧ i < k ∧ ∀ i', i' < k → rkR G i 0 i ≤ rkR G i' 0 i')) _ ns 0 _ ⟨rfl, Or.inl ⟨rfl, rfl⟩⟩ ?_ ?_ zF (by unfold zF; omega)
  · intro k v _ hk hv
    obtain ⟨x, y, t, q⟩ := v
    obtain ⟨h1, h2⟩ := hv
    replace h1 : q = nI k := h1
    replace h2 : (k = 0 ∧ t = nI 1000000000) ∨ ∃ i, i < ns ∧ x = nI i ∧ y = nI i ∧ t = nI (G i 0 i) ∧ i < k ∧ ∀ i', i' < k → rkR G i 0 i ≤ rkR G i' 0 i' := h2
    subst h1
    show ∃ v', f_X12_plainest_L28 I J x y t (nI k) = some (.inl v') ∧ _
    unfold f_X12_plainest_L28
    have hf0 := hf k 0 k
    rw [show nI 0 = (0 : Int32) from rfl] at hf0
    rw [zg_t (by decide), sp_0, hI, if_neg (nI_ge (by omega) (by omega)), hf0, zb1_s, zb1_s]
    have k1 := hG k 0 k
    rcases h2 with ⟨g1, g2⟩ | ⟨i, g1, g2, g3, g4, g5, g6⟩
    · rw [g2, if_neg (nI_ge (by omega) (by omega)), zn_e, nI_1]
      refine ⟨_, rfl, rfl, Or.inr ⟨k, by omega, rfl, rfl, rfl, by omega, fun i' hi' => ?_⟩⟩
      rw [show i' = k by omega]; exact Nat.le_refl _
    · have k2 := hG i 0 i
      rw [g4]
      by_cases d : G i 0 i ≤ G k 0 k
      · rw [if_pos (nI_le d (by omega)), zn_e, nI_1]
        refine ⟨_, rfl, rfl, Or.inr ⟨i, g1, g2, g3, rfl, by omega, fun i' hi' => ?_⟩⟩
        by_cases e : i' = k
        · rw [e]
          unfold rkR
          rw [if_pos rfl, if_pos rfl]
          omega
        · exact g6 i' (by omega)
      · rw [if_neg (nI_ge (by omega) (by omega)), zn_e, nI_1]
        refine ⟨_, rfl, rfl, Or.inr ⟨k, by omega, rfl, rfl, rfl, by omega, fun i' hi' => ?_⟩⟩
        by_cases e : i' = k
        · rw [e]; exact Nat.le_refl _
        · have h5 := g6 i' (by omega)
          have h6 : rkR G k 0 k ≤ rkR G i 0 i := by
            unfold rkR
            rw [if_pos rfl, if_pos rfl]
            omega
          omega
  · intro v hv
    obtain ⟨x, y, t, q⟩ := v
    obtain ⟨h1, h2⟩ := hv
    replace h1 : q = nI (0 + ns) := h1
    replace h2 : (0 + ns = 0 ∧ t = nI 1000000000) ∨ ∃ i, i < ns ∧ x = nI i ∧ y = nI i ∧ t = nI (G i 0 i) ∧ i < 0 + ns ∧ ∀ i', i' < 0 + ns → rkR G i 0 i ≤ rkR G i' 0 i' := h2
    rw [Nat.zero_add] at h1 h2
    subst h1
    refine ⟨(x, y, t), ?_, ?_⟩
    · show f_X12_plainest_L28 I J x y t (nI ns) = _
      unfold f_X12_plainest_L28
      rw [zg_t (by decide), sp_0, hI, if_pos (nI_le (Nat.le_refl _) (by omega))]
    · rcases h2 with ⟨g1, g2⟩ | ⟨i, g1, g2, g3, g4, g5, g6⟩
      · omega
      · refine ⟨i, 0, i, ⟨g1, g1, by omega, fun _ => rfl⟩, ⟨g2, rfl, g3, g4⟩, Or.inl rfl, fun i' a' j' r1 r2 => ?_⟩
        have e1 : i' = j' := by omega
        have e2 := r1.2.2.2 e1
        subst e1
        rw [e2]
        exact g6 i' r1.1
end PL
theorem pu_plainest : op_plainest zRel := by
  intro I J IM JM hR p1
  have hR0 := hR
  obtain ⟨b, hb, hC, hM, hT, hH, hK, hP⟩ := hR
  obtain ⟨F, f0, f1, f2⟩ := off_same (J := J) (JM := JM) hH
  suffices h : ∃ r : Int32, f_X11_plainest I J p1 = some r ∧ f_X12_plainest IM JM p1 = some r by
    obtain ⟨r, h1, h2⟩ := h
    exact ⟨r, h1, h2, hR0⟩
  have hns := hb.1
  unfold f_X11_plainest f_X12_plainest
  simp only [e_within, e_in, t64, zb1_s, zif, k0, k3, K0, K3]
  by_cases c : 0 ≤ p1.toInt ∧ p1.toInt ≤ 3
  case neg => simp only [if_neg c]; exact ⟨_, rfl, rfl⟩
  simp only [if_pos c]
  obtain ⟨k, hk, rfl⟩ := nI_of3 (x := p1) (n := 4) c.1 (by omega)
  have g0 : ∀ i a j, (fun i a j => F (nI i) (nI a) (nI j)) i a j ≤ 20 := fun i a j => f0 _ _ _
  obtain ⟨y, e1, i, a, j, e2, e3, e4⟩ := x_pl11 (I := I) (J := J) (G := fun i a j => F (nI i) (nI a) (nI j)) (ns := b 9 0) hns.1 hns.2 g0 (fun i a j => f1 _ _ _)
  obtain ⟨⟨x1, x2, x3⟩, q1, q2⟩ := m_pl28 (I := IM) (J := JM) (G := fun i a j => F (nI i) (nI a) (nI j)) (ns := b 9 0) hns.1 hns.2 hM.1.1 g0 (fun i a j => f2 _ _ _)
  obtain ⟨⟨y1, y2, y3, y4⟩, s1, i', a', j', s2, ⟨s3, s4, s5, s6⟩, s7, s8⟩ := m_pl80 (I := IM) (J := JM) (G := fun i a j => F (nI i) (nI a) (nI j)) (ns := b 9 0) hns.2 hM.1.1 g0 (fun i a j => f2 _ _ _) q2
  have hl0 : lgR (b 9 0) 0 0 0 := ⟨by omega, by omega, by omega, fun _ => rfl⟩
  have hr0 := x_rankOf (I := I) (J := J) hns.2 g0 (fun i a j => f1 _ _ _) hl0
  rw [show nI 0 = (0 : Int32) from rfl] at hr0
  unfold f_X1_plainestRule
  rw [hr0, zb1_s, (bk_e b I 4 hC).1, e1, q1]
  rw [zb1_s, zb3_s]
  dsimp only at s1
  rw [s1, zb4_s]
  have hy1 : y1 = nI i' := s3
  have hy2 : y2 = nI a' := s4
  have hy3 : y3 = nI j' := s5
  have hy4 : y4 = nI (F (nI i') (nI a') (nI j')) := s6
  have r1 := e4 i' a' j' s2 trivial
  have r2 := s8 i a j e2 (by obtain ⟨z1, z2, z3, z4⟩ := e2; omega)
  have r3 : rkR (fun i a j => F (nI i) (nI a) (nI j)) i a j = rkR (fun i a j => F (nI i) (nI a) (nI j)) i' a' j' := by omega
  have b0 := rkR_lt g0 hns.2 s2
  have b1 := f0 (nI i') (nI a') (nI j')
  obtain ⟨z1, z2, z3, z4⟩ := s2
  rw [e3, r3, hy1, hy2, hy3, hy4]
  generalize hX : rkR (fun i a j => F (nI i) (nI a) (nI j)) i' a' j' = X at b0
  unfold rkR at hX
  have hX2 : (((2 * F (nI i') (nI a') (nI j') + (if i' = j' then 0 else 1)) * 6 + i') * 101 + a') * 6 + j' = X := hX
  generalize F (nI i') (nI a') (nI j') = Fx at hX2 b1
  have he : (if i' = j' then 0 else 1) ≤ 1 := by split <;> omega
  generalize (if i' = j' then 0 else 1) = ee at hX2 he
  have hk4 : k = 0 ∨ k = 1 ∨ k = 2 ∨ k = 3 := by omega
  rcases hk4 with rfl | rfl | rfl | rfl
  · rw [if_pos (show nI 0 = 0 from rfl), zb1_s, if_pos (show nI 0 = 0 from rfl)]
    refine ⟨_, ?_, rfl⟩
    rw [show (6 : Int32) = nI 6 from rfl, show (101 : Int32) = nI 101 from rfl, nI_div (by omega) (by omega), nI_div (by omega) (by omega), nI_mod (by omega) (by omega)]
    congr 2; omega
  · rw [if_neg (show ¬ nI 1 = 0 by decide), if_pos (show nI 1 = 1 from rfl), zb1_s, if_neg (show ¬ nI 1 = 0 by decide), if_pos (show nI 1 = 1 from rfl)]
    refine ⟨_, ?_, rfl⟩
    rw [show (6 : Int32) = nI 6 from rfl, show (101 : Int32) = nI 101 from rfl, nI_div (by omega) (by omega), nI_mod (by omega) (by omega)]
    congr 2; omega
  · rw [if_neg (show ¬ nI 2 = 0 by decide), if_neg (show ¬ nI 2 = 1 by decide), if_pos (show nI 2 = 2 from rfl), zb1_s, if_neg (show ¬ nI 2 = 0 by decide), if_neg (show ¬ nI 2 = 1 by decide), if_pos (show nI 2 = 2 from rfl)]
    refine ⟨_, ?_, rfl⟩
    rw [show (6 : Int32) = nI 6 from rfl, nI_mod (by omega) (by omega)]
    congr 2; omega
  · rw [if_neg (show ¬ nI 3 = 0 by decide), if_neg (show ¬ nI 3 = 1 by decide), if_neg (show ¬ nI 3 = 2 by decide), zb1_s, if_neg (show ¬ nI 3 = 0 by decide), if_neg (show ¬ nI 3 = 1 by decide), if_neg (show ¬ nI 3 = 2 by decide)]
    refine ⟨_, ?_, rfl⟩
    rw [show (6 : Int32) = nI 6 from rfl, show (101 : Int32) = nI 101 from rfl, show (2 : Int32) = nI 2 from rfl, nI_div (by omega) (by omega), nI_div (by omega) (by omega), nI_div (by omega) (by omega), nI_div (by omega) (by omega)]
    congr 2; omega
