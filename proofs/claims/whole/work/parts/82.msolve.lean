/-! the reference finds the best in each state, and follows what is done -/
def FS (b : zB) (u : zMu) (h : Nat) (A : Nat → Nat → Nat → Nat) : Nat → Nat → Nat → Nat → Int
  | 0, _, _, _ => 0
  | n + 1, p, l, w => gG b u h (FS b u h A n) p l w (A p l w)
theorem FS_congr {b : zB} {u : zMu} {h : Nat} {A : Nat → Nat → Nat → Nat} (hb : bOk b) (hA : ∀ p l w, inS b p l w → canS b l w (A p l w)) : ∀ n m p l w, inS b p l w → rk b p l w < n → rk b p l w < m → FS b u h A n p l w = FS b u h A m p l w := by
  intro n
  induction n with
  | zero => intro m p l w _ h1; omega
  | succ n ih =>
    intro m p l w hs h1 h2
    obtain ⟨m, rfl⟩ : ∃ m', m = m' + 1 := ⟨m - 1, by omega⟩
    show gG b u h (FS b u h A n) p l w (A p l w) = gG b u h (FS b u h A m) p l w (A p l w)
    have ha := hA p l w hs
    obtain ⟨k1, k2, k3, k4⟩ := hs
    have hd := (hb.2.2.2.2.2.2.1 p k1).2.1
    refine gG_eq (fun x hx => ?_) (fun l' x g1 g2 g3 => ?_) (fun ex => ?_) k4
    · unfold aft
      by_cases c : p + 1 = b 9 1
      · rw [if_pos c, if_pos c]
      · rw [if_neg c, if_neg c]
        have hd2 := (hb.2.2.2.2.2.2.1 (p + 1) (by omega)).2.1
        have hr : rk b (p + 1) (b 3 (p + 1)) x < rk b p l w := by unfold rk; split <;> split <;> omega
        exact ih m (p + 1) (b 3 (p + 1)) x (aft_in hb (by omega) hx) (by omega) (by omega)
    · have hr : rk b p l' x < rk b p l w := by unfold rk; split <;> split <;> omega
      exact ih m p l' x ⟨k1, g1, by omega, g3⟩ (by omega) (by omega)
    · rcases ha with q | q | q
      · omega
      · have hw := q.2
        have hr : rk b p l 0 < rk b p l w := by unfold rk; rw [if_pos rfl, if_neg (by omega)]; omega
        exact ih m p l 0 ⟨k1, k2, k3, by omega⟩ (by omega) (by omega)
      · omega
theorem fol_ex {b : zB} (u : zMu) (h : Nat) {A : Nat → Nat → Nat → Nat} (hb : bOk b) (hA : ∀ p l w, inS b p l w → canS b l w (A p l w)) : ∃ V : Nat → Nat → Nat → Int, folS b u h A V := by
  refine ⟨FS b u h A 301, ?_⟩
  intro p l w hs
  have h8 := bP hb
  have hrk : ∀ p l w, inS b p l w → rk b p l w < 300 := by
    intro p l w hs
    obtain ⟨k1, k2, k3, k4⟩ := hs
    have hd := (hb.2.2.2.2.2.2.1 p k1).2.1
    unfold rk
    split <;> omega
  show gG b u h (FS b u h A 300) p l w (A p l w) = gG b u h (FS b u h A 301) p l w (A p l w)
  have ha := hA p l w hs
  obtain ⟨k1, k2, k3, k4⟩ := hs
  refine gG_eq (fun x hx => ?_) (fun l' x g1 g2 g3 => ?_) (fun ex => ?_) k4
  · unfold aft
    by_cases c : p + 1 = b 9 1
    · rw [if_pos c, if_pos c]
    · rw [if_neg c, if_neg c]
      have hi := aft_in hb (show p + 1 < b 9 1 by omega) hx
      have := hrk _ _ _ hi
      exact FS_congr hb hA 300 301 _ _ _ hi (by omega) (by omega)
  · have hi : inS b p l' x := ⟨k1, g1, by omega, g3⟩
    have := hrk _ _ _ hi
    exact FS_congr hb hA 300 301 _ _ _ hi (by omega) (by omega)
  · have hi : inS b p l 0 := ⟨k1, k2, k3, by omega⟩
    have := hrk _ _ _ hi
    exact FS_congr hb hA 300 301 _ _ _ hi (by omega) (by omega)
/-- a state ahead of the place (p, l, k), from the last piece on -/
abbrev bfM (p l k p' l' w' : Nat) : Prop := p < p' ∨ (p' = p ∧ (l' < l ∨ (l' = l ∧ w' < k)))
section MS
variable {b : zB} {I : zI} {J : zJ} {h : Nat} {u : zMu} {A : Nat → Nat → Nat → Nat} {V : Nat → Nat → Nat → Int}
theorem m_canB (hb : bOk b) (hM : rM b I) {a l w : Nat} (ha : a < 50) (hl : l < 2 ^ 31) (hw : w < 2 ^ 31) (p : Int32) : f_X12_can I J p (nI l) (nI w) (nI a) = some (zi (canB b l w a = true)) := by
  by_cases c : a < 48
  · rw [m_can hb hM c hl]
    congr 1
    apply zi_c
    rw [canB_e]
    constructor
    · intro q; exact Or.inr (Or.inr ⟨c, q.1, q.2.1, q.2.2⟩)
    · intro q
      rcases q with q | q | q
      · omega
      · omega
      · exact ⟨q.2.1, q.2.2.1, q.2.2.2⟩
  · unfold f_X12_can
    rw [if_neg (show ¬ nI a ≤ 47 from nI_ge (a := 47) (by omega) (by omega))]
    by_cases d : a = 49
    · rw [if_pos (by rw [d]; rfl), d, zi, if_pos canB_49]
    · rw [if_neg (show ¬ nI a = 49 from nI_eqF (c := 49) d (by omega) (by omega))]
      have e : a = 48 := by omega
      subst e
      by_cases f : w = 0
      · have hno : ¬ canB b l w 48 = true := by
          intro q
          rcases canB_e.1 q with q | q | q <;> omega
        rw [f, if_pos (show nI 0 ≤ 0 by decide), ← f, zi, if_neg hno]
      · have hy : canB b l w 48 = true := canB_e.2 (Or.inr (Or.inl ⟨rfl, by omega⟩))
        rw [if_neg (nI_nle (by omega) hw), zi, if_pos hy]
/-- the reference's cells, ahead of a place -/
def mS (b : zB) (A : Nat → Nat → Nat → Nat) (V : Nat → Nat → Nat → Int) (I : zI) (J : zJ) (p l k : Nat) : Prop := ∀ p' l' w', inS b p' l' w' → bfM p l k p' l' w' → I 15 (clM p' l' w') = nI (A p' l' w') ∧ J 16 (clM p' l' w') = lI (V p' l' w')
def oN (I I2 : zI) (J J2 : zJ) : Prop := (∀ k, k ≠ 15 → I2 k = I k) ∧ ∀ k, k ≠ 16 → J2 k = J k
theorem oN.trans {I I2 I3 : zI} {J J2 J3 : zJ} (h : oN I I2 J J2) (g : oN I2 I3 J2 J3) : oN I I3 J J3 := ⟨fun k hk => by rw [g.1 k hk, h.1 k hk], fun k hk => by rw [g.2 k hk, h.2 k hk]⟩
theorem oN.refl {I : zI} {J : zJ} : oN I I J J := ⟨fun _ _ => rfl, fun _ _ => rfl⟩
theorem oN.rM {I I2 : zI} {J J2 : zJ} (g : oN I I2 J J2) (hM : rM b I) : rM b I2 := hM.eq (fun k _ _ => g.1 k (by omega))
theorem oN.toM {I I2 : zI} {J J2 : zJ} (g : oN I I2 J J2) (m : mP u J) : mP u J2 := by
  unfold mP at m ⊢
  rw [g.2 0 (by omega)]; exact m
theorem clM_ne (hb : bOk b) {p l w p' l' w' : Nat} (hs : inS b p l w) (hs' : inS b p' l' w') (hn : ¬ (p' = p ∧ l' = l ∧ w' = w)) : clM p' l' w' ≠ clM p l w := by
  intro q
  have hd := (hb.2.2.2.2.2.2.1 p hs.1).2.1
  have hd' := (hb.2.2.2.2.2.2.1 p' hs'.1).2.1
  have h2 := hs.2.2.1
  have h4 := hs'.2.2.1
  exact hn (clM_inj (by omega) hs'.2.2.2 (by omega) hs.2.2.2 q)
theorem m_solve57 (hb : bOk b) (hM : rM b I) (hh : h < b 9 2) (hu : uOk u) (g : mP u J) (hV : ∀ p l w, inS b p l w → vOk (V p l w)) {p l w : Nat} (hs : inS b p l w) (hm : I 15 (clM p l w) = -1) (r : ∀ p' l' w', inS b p' l' w' → bfM p l w p' l' w' → J 16 (clM p' l' w') = lI (V p' l' w')) : ∃ e : Int64 × zI, zl (fun v : (Int64 × Int32 × zI) => f_X12_solves_L57 J (nI p) (nI l) (nI w) (nI h) (nI (clM p l w)) v.1 v.2.1 v.2.2) zF (0, 0, I) = some e ∧ ((∀ k, k ≠ 15 → e.2 k = I k) ∧ (∀ x, x ≠ clM p l w → e.2 15 x = I 15 x) ∧ ∀ q, gA b u h V p l w 50 = some q → e.2 15 (clM p l w) = nI q.2 ∧ e.1 = lI q.1) := by
  have hlt := clM_lt hb hs
  have hs0 := hs
  obtain ⟨k1, k2, k3, k4⟩ := hs
  have hd := (hb.2.2.2.2.2.2.1 p k1).2.1
  refine zl_inv (fun k v => v.2.1 = nI k ∧ (∀ j, j ≠ 15 → v.2.2 j = I j) ∧ (∀ x, x ≠ clM p l w → v.2.2 15 x = I 15 x) ∧ (gA b u h V p l w k = none → v.2.2 15 (clM p l w) = -1) ∧ ∀ q, gA b u h V p l w k = some q → v.2.2 15 (clM p l w) = nI q.2 ∧ v.1 = lI q.1) _ 50 0 _ ⟨rfl, fun _ _ => rfl, fun _ _ => rfl, fun _ => hm, fun q hq => by cases hq⟩ ?_ ?_ zF (by unfold zF; omega)
  · intro a v _ hk hv
    obtain ⟨u25, x26, I6⟩ := v
    obtain ⟨h1, h2, h3, h4, h5⟩ := hv
    replace h1 : x26 = nI a := h1
    replace h2 : ∀ j, j ≠ 15 → I6 j = I j := h2
    replace h3 : ∀ x, x ≠ clM p l w → I6 15 x = I 15 x := h3
    replace h4 : gA b u h V p l w a = none → I6 15 (clM p l w) = -1 := h4
    replace h5 : ∀ q, gA b u h V p l w a = some q → I6 15 (clM p l w) = nI q.2 ∧ u25 = lI q.1 := h5
    subst h1
    have hM6 : rM b I6 := hM.eq (fun j _ _ => h2 j (by omega))
    show ∃ v', f_X12_solves_L57 J (nI p) (nI l) (nI w) (nI h) (nI (clM p l w)) u25 (nI a) I6 = some (.inl v') ∧ _
    unfold f_X12_solves_L57
    rw [if_neg (show ¬ (50 : Int32) ≤ nI a from nI_ge (b := 50) (by omega) (by omega)), m_canB hb hM6 (by omega) (by omega) (by omega), zb1_s, zif]
    by_cases cc : canB b l w a = true
    case neg =>
      have e : gA b u h V p l w (a + 1) = gA b u h V p l w a := bst_f cc
      rw [if_neg cc, zn_e, nI_1]
      refine ⟨_, rfl, rfl, h2, h3, ?_, ?_⟩
      · rw [e]; exact h4
      · rw [e]; exact h5
    have hcan := canB_e.1 cc
    have e : gA b u h V p l w (a + 1) = some (bsO (gA b u h V p l w a) (gG b u h V p l w a) a) := bst_bsO cc
    rw [if_pos cc, m_comes hb hM6 hh hu g hV hs0 hcan (fun x hx q => r _ _ _ (aft_in hb q hx) (Or.inl (by omega))) (fun l' x g1 g2 g3 => r _ _ _ ⟨k1, g1, by omega, g3⟩ (Or.inr ⟨rfl, Or.inl g2⟩)) (fun q => r _ _ _ ⟨k1, k2, k3, by omega⟩ (Or.inr ⟨rfl, Or.inr ⟨rfl, by rcases hcan with z | z | z <;> omega⟩⟩)), zb1_s]
    simp only [zg_t (nI_in hlt (show 7272 < 2 ^ 31 by omega))]
    simp only [nI_clamp (show clM p l w < 2 ^ 31 by omega), zn_e, nI_1]
    have hset : ∀ q : Int × Nat, bsO (gA b u h V p l w a) (gG b u h V p l w a) a = q → q = (gG b u h V p l w a, a) → ∃ v', some (Sum.inl (β := Int64 × zI) (lI (gG b u h V p l w a), nI (a + 1), va_up I6 15 (upd (I6 15) (clM p l w) (nI a)))) = some (.inl v') ∧ v'.2.1 = nI (a + 1) ∧ (∀ j, j ≠ 15 → v'.2.2 j = I j) ∧ (∀ x, x ≠ clM p l w → v'.2.2 15 x = I 15 x) ∧ (gA b u h V p l w (a + 1) = none → v'.2.2 15 (clM p l w) = -1) ∧ ∀ q, gA b u h V p l w (a + 1) = some q → v'.2.2 15 (clM p l w) = nI q.2 ∧ v'.1 = lI q.1 := by
      intro q hq1 hq2
      refine ⟨_, rfl, rfl, fun j hj => ?_, fun x hx => ?_, fun z => ?_, fun q' z => ?_⟩
      · dsimp only
        rw [up_n hj]; exact h2 j hj
      · dsimp only
        rw [up_s, ud_n hx]; exact h3 x hx
      · rw [e] at z; cases z
      · rw [e, hq1, hq2] at z
        have z := Option.some.inj z
        dsimp only
        rw [up_s, ud_s, ← z]
        exact ⟨rfl, rfl⟩
    cases gq : gA b u h V p l w a with
    | none =>
      rw [h4 gq, if_pos (by decide)]
      exact hset _ (by rw [gq]; rfl) rfl
    | some q0 =>
      obtain ⟨s1, s2⟩ := h5 q0 gq
      have hq0 := gA_ok hb hu hV hs0 q0 gq
      have hgb := gG_bd hb hu (h := h) hV hs0 hcan
      rw [s1, s2, if_neg (nI_pos (by omega))]
      by_cases d : q0.1 < gG b u h V p l w a
      · rw [if_neg (fun z => (cmp_le0.1 z) ((lI_lt (by omega) (by omega)).2 d))]
        exact hset _ (by rw [gq]; show (if q0.1 < _ then _ else _) = _; rw [if_pos d]) rfl
      · rw [if_pos (cmp_le0.2 (fun z => d ((lI_lt (by omega) (by omega)).1 z)))]
        refine ⟨_, rfl, rfl, h2, h3, fun z => ?_, fun q' z => ?_⟩
        · rw [e] at z; cases z
        · rw [e, gq] at z
          replace z : some (if q0.1 < gG b u h V p l w a then (gG b u h V p l w a, a) else q0) = some q' := z
          rw [if_neg d] at z
          have z := Option.some.inj z
          rw [← z]
          exact ⟨s1, rfl⟩
  · intro v hv
    obtain ⟨u25, x26, I6⟩ := v
    obtain ⟨h1, h2, h3, h4, h5⟩ := hv
    replace h1 : x26 = nI (0 + 50) := h1
    subst h1
    exact ⟨(u25, I6), if_pos (show (50 : Int32) ≤ nI 50 by decide), h2, h3, h5⟩
theorem m_solve27 (hb : bOk b) (hM : rM b I) (hh : h < b 9 2) (hu : uOk u) (g : mP u J) (s : solS b u h A V) (hV : ∀ p l w, inS b p l w → vOk (V p l w)) {p l : Nat} (hp : p < b 9 1) (hl : 1 ≤ l ∧ l ≤ b 3 p) (r : mS b A V I J p l 0) : ∃ e : zI × zJ, zl (fun v : (Int32 × zI × zJ) => f_X12_solves_L27 (nI p) (nI l) (nI h) v.1 v.2.1 v.2.2) zF (0, I, J) = some e ∧ (oN I e.1 J e.2 ∧ mS b A V e.1 e.2 p (l + 1) 0) := by
  refine zl_inv (fun k v => v.1 = nI k ∧ oN I v.2.1 J v.2.2 ∧ mS b A V v.2.1 v.2.2 p l k) _ 101 0 _ ⟨rfl, oN.refl, r⟩ ?_ ?_ zF (by unfold zF; omega)
  · intro k v _ hk hv
    obtain ⟨x16, I6, J6⟩ := v
    obtain ⟨h1, h2, h3⟩ := hv
    replace h1 : x16 = nI k := h1
    replace h2 : oN I I6 J J6 := h2
    replace h3 : mS b A V I6 J6 p l k := h3
    subst h1
    have hk100 : k ≤ 100 := by omega
    have hs : inS b p l k := ⟨hp, hl.1, hl.2, hk100⟩
    have hlt := clM_lt hb hs
    show ∃ v', f_X12_solves_L27 (nI p) (nI l) (nI h) (nI k) I6 J6 = some (.inl v') ∧ _
    unfold f_X12_solves_L27
    rw [if_neg (show ¬ (100 : Int32) < nI k from nI_ltF (a := 100) hk100 (by omega)), m_cell, zb1_s]
    simp only [zg_t (nI_in hlt (show 7272 < 2 ^ 31 by omega))]
    simp only [nI_clamp (show clM p l k < 2 ^ 31 by omega), zn_e]
    have o7 : oN I6 (va_up I6 15 (upd (I6 15) (clM p l k) (-1))) J6 J6 := ⟨fun j hj => up_n hj, fun _ _ => rfl⟩
    obtain ⟨⟨u8, I8⟩, e1, e2, e3, e4⟩ := m_solve57 (I := va_up I6 15 (upd (I6 15) (clM p l k) (-1))) (J := J6) (V := V) hb ((h2.trans o7).rM hM) hh hu (h2.toM g) hV hs (by rw [up_s, ud_s]) (fun p' l' w' hs' hb' => (h3 p' l' w' hs' hb').2)
    replace e2 : ∀ j, j ≠ 15 → I8 j = (va_up I6 15 (upd (I6 15) (clM p l k) (-1))) j := e2
    obtain ⟨e5, e6⟩ := e4 _ (gA_50 s hs)
    replace e5 : I8 15 (clM p l k) = nI (A p l k) := e5
    replace e6 : u8 = lI (V p l k) := e6
    rw [e1, zb2_s, nI_1]
    refine ⟨_, rfl, rfl, ⟨fun j hj => ?_, fun j hj => ?_⟩, fun p' l' w' hs' hb' => ?_⟩
    · dsimp only
      rw [e2 j hj, up_n hj, h2.1 j hj]
    · dsimp only
      rw [up_n hj, h2.2 j hj]
    · dsimp only
      rw [up_s]
      by_cases d : p' = p ∧ l' = l ∧ w' = k
      · obtain ⟨d1, d2, d3⟩ := d
        rw [d1, d2, d3, uL_s]
        exact ⟨e5, e6⟩
      · have hne := clM_ne hb hs hs' d
        rw [uL_n hne]
        have q := h3 p' l' w' hs' (by omega)
        refine ⟨?_, q.2⟩
        have e3 := e3 _ hne
        replace e3 : I8 15 (clM p' l' w') = va_up I6 15 (upd (I6 15) (clM p l k) (-1)) 15 (clM p' l' w') := e3
        rw [e3, up_s, ud_n hne]; exact q.1
  · intro v hv
    obtain ⟨x16, I6, J6⟩ := v
    obtain ⟨h1, h2, h3⟩ := hv
    replace h1 : x16 = nI (0 + 101) := h1
    subst h1
    refine ⟨(I6, J6), if_pos (show (100 : Int32) < nI 101 by decide), h2, fun p' l' w' hs' hb' => h3 p' l' w' hs' ?_⟩
    have := hs'.2.2.2
    omega
theorem m_solve15 (hb : bOk b) (hM : rM b I) (hh : h < b 9 2) (hu : uOk u) (g : mP u J) (s : solS b u h A V) (hV : ∀ p l w, inS b p l w → vOk (V p l w)) {p : Nat} (hp : p < b 9 1) (r : mS b A V I J p 1 0) : ∃ e : zI × zJ, zl (fun v : (Int32 × zI × zJ) => f_X12_solves_L15 (nI p) (nI h) v.1 v.2.1 v.2.2) zF (1, I, J) = some e ∧ (oN I e.1 J e.2 ∧ mS b A V e.1 e.2 p (b 3 p + 1) 0) := by
  have hd := (hb.2.2.2.2.2.2.1 p hp).2.1
  refine zl_inv (fun k v => v.1 = nI (k + 1) ∧ oN I v.2.1 J v.2.2 ∧ mS b A V v.2.1 v.2.2 p (k + 1) 0) _ (b 3 p) 0 _ ⟨rfl, oN.refl, r⟩ ?_ ?_ zF (by unfold zF; omega)
  · intro k v _ hk hv
    obtain ⟨x16, I6, J6⟩ := v
    obtain ⟨h1, h2, h3⟩ := hv
    replace h1 : x16 = nI (k + 1) := h1
    replace h2 : oN I I6 J J6 := h2
    replace h3 : mS b A V I6 J6 p (k + 1) 0 := h3
    subst h1
    obtain ⟨⟨I7, J7⟩, e1, e2, e3⟩ := m_solve27 hb (h2.rM hM) hh hu (h2.toM g) s hV hp (show 1 ≤ k + 1 ∧ k + 1 ≤ b 3 p by omega) h3
    show ∃ v', f_X12_solves_L15 (nI p) (nI h) (nI (k + 1)) I6 J6 = some (.inl v') ∧ _
    unfold f_X12_solves_L15
    rw [m_steps hb (h2.rM hM) hp, zb1_s, if_neg (nI_nlt (by omega) (by omega)), e1, zb2_s, zn_e, nI_1]
    exact ⟨_, rfl, rfl, h2.trans e2, e3⟩
  · intro v hv
    obtain ⟨x16, I6, J6⟩ := v
    obtain ⟨h1, h2, h3⟩ := hv
    replace h1 : x16 = nI (0 + b 3 p + 1) := h1
    replace h2 : oN I I6 J J6 := h2
    replace h3 : mS b A V I6 J6 p (0 + b 3 p + 1) 0 := h3
    rw [Nat.zero_add] at h1 h3
    subst h1
    refine ⟨(I6, J6), ?_, h2, h3⟩
    show f_X12_solves_L15 (nI p) (nI h) (nI (b 3 p + 1)) I6 J6 = _
    unfold f_X12_solves_L15
    rw [m_steps hb (h2.rM hM) hp, zb1_s, if_pos (nI_lt (by omega) (by omega))]
theorem mS.next (hb : bOk b) {p : Nat} (r : mS b A V I J p (b 3 p + 1) 0) : mS b A V I J (p - 1) 1 0 ∨ p = 0 := by
  by_cases c : p = 0
  · exact Or.inr c
  · refine Or.inl (fun p' l' w' hs' hb' => r p' l' w' hs' ?_)
    have h1 := hs'.2.1
    have h2 := hs'.2.2.1
    by_cases d : p' = p
    · rw [d] at h2; omega
    · omega
theorem m_solves (hb : bOk b) (hM : rM b I) (hh : h < b 9 2) (hu : uOk u) (g : mP u J) (s : solS b u h A V) : ∃ (I2 : zI) (J2 : zJ), f_X12_solves I J (nI h) = some (I2, J2) ∧ oN I I2 J J2 ∧ ∀ p l w, inS b p l w → I2 15 (clM p l w) = nI (A p l w) ∧ J2 16 (clM p l w) = lI (V p l w) := by
  have h8 := bP hb
  have h1 := hb.2.1.1
  have hV := sol_bd hb hu s
  have run : ∃ e : zI × zJ, zl (fun v : (Int32 × zI × zJ) => f_X12_solves_L9 (nI h) v.1 v.2.1 v.2.2) zF (nI (b 9 1) - 1, I, J) = some e ∧ (oN I e.1 J e.2 ∧ ∀ p l w, inS b p l w → e.1 15 (clM p l w) = nI (A p l w) ∧ e.2 16 (clM p l w) = lI (V p l w)) := by
    refine zl_inv (fun k v => v.1 = nI (b 9 1 - k) - 1 ∧ oN I v.2.1 J v.2.2 ∧ ∀ p l w, inS b p l w → b 9 1 - k ≤ p → v.2.1 15 (clM p l w) = nI (A p l w) ∧ v.2.2 16 (clM p l w) = lI (V p l w)) _ (b 9 1) 0 _ ⟨rfl, oN.refl, fun p l w hs z => absurd hs.1 (by omega)⟩ ?_ ?_ zF (by unfold zF; omega)
    · intro k v _ hk hv
      obtain ⟨x16, I6, J6⟩ := v
      obtain ⟨h1, h2, h3⟩ := hv
      obtain ⟨p, hp⟩ : ∃ p, b 9 1 - k = p + 1 := ⟨b 9 1 - k - 1, by omega⟩
      replace h1 : x16 = nI (b 9 1 - k) - 1 := h1
      rw [hp, nI_pred] at h1
      replace h2 : oN I I6 J J6 := h2
      replace h3 : ∀ p l w, inS b p l w → b 9 1 - k ≤ p → I6 15 (clM p l w) = nI (A p l w) ∧ J6 16 (clM p l w) = lI (V p l w) := h3
      subst h1
      obtain ⟨⟨I7, J7⟩, e1, e2, e3⟩ := m_solve15 (p := p) hb (h2.rM hM) hh hu (h2.toM g) s hV (by omega) (fun p' l' w' hs' hb' => h3 p' l' w' hs' (by have := hs'.2.1; omega))
      show ∃ v', f_X12_solves_L9 (nI h) (nI p) I6 J6 = some (.inl v') ∧ _
      unfold f_X12_solves_L9
      rw [if_neg (nI_pos (by omega)), e1, zb2_s, zn_e]
      refine ⟨_, rfl, ?_, h2.trans e2, fun p' l' w' hs' hz => e3 p' l' w' hs' ?_⟩
      · show nI p + -1 = nI (b 9 1 - (k + 1)) - 1
        rw [show b 9 1 - (k + 1) = p by omega]; exact (Int32.sub_eq_add_neg _ _).symm
      · have h5 := hs'.2.2.1
        by_cases d : p' = p
        · rw [d] at h5; omega
        · omega
    · intro v hv
      obtain ⟨x16, I6, J6⟩ := v
      obtain ⟨h1, h2, h3⟩ := hv
      replace h1 : x16 = nI (b 9 1 - (0 + b 9 1)) - 1 := h1
      rw [show b 9 1 - (0 + b 9 1) = 0 by omega] at h1
      subst h1
      exact ⟨(I6, J6), if_pos (show nI 0 - 1 < 0 by decide), h2, fun p l w hs => h3 p l w hs (by omega)⟩
  obtain ⟨⟨I2, J2⟩, e1, e2, e3⟩ := run
  unfold f_X12_solves
  rw [zg_t (by decide), sp_0, hM.1.2.1, zn_e, e1, zb2_s]
  exact ⟨I2, J2, rfl, e2, e3⟩
-- follows
theorem m_fol27 (hb : bOk b) (hM : rM b I) (hh : h < b 9 2) (hu : uOk u) (g : mP u J) (hA : ∀ p l w, inS b p l w → canS b l w (A p l w)) (s : folS b u h A V) (hV : ∀ p l w, inS b p l w → vOk (V p l w)) (hI : ∀ p l w, inS b p l w → I 15 (clM p l w) = nI (A p l w)) {p l : Nat} (hp : p < b 9 1) (hl : 1 ≤ l ∧ l ≤ b 3 p) (r : mS b A V I J p l 0) : ∃ e : zJ, zl (fun v : (Int32 × zJ) => f_X12_follows_L27 I (nI p) (nI l) (nI h) v.1 v.2) zF (0, J) = some e ∧ (oN I I J e ∧ mS b A V I e p (l + 1) 0) := by
  refine zl_inv (fun k v => v.1 = nI k ∧ oN I I J v.2 ∧ mS b A V I v.2 p l k) _ 101 0 _ ⟨rfl, oN.refl, r⟩ ?_ ?_ zF (by unfold zF; omega)
  · intro k v _ hk hv
    obtain ⟨x16, J6⟩ := v
    obtain ⟨h1, h2, h3⟩ := hv
    replace h1 : x16 = nI k := h1
    replace h2 : oN I I J J6 := h2
    replace h3 : mS b A V I J6 p l k := h3
    subst h1
    have hk100 : k ≤ 100 := by omega
    have hs : inS b p l k := ⟨hp, hl.1, hl.2, hk100⟩
    have hlt := clM_lt hb hs
    have hcan := hA p l k hs
    show ∃ v', f_X12_follows_L27 I (nI p) (nI l) (nI h) (nI k) J6 = some (.inl v') ∧ _
    unfold f_X12_follows_L27
    rw [if_neg (show ¬ (100 : Int32) < nI k from nI_ltF (a := 100) hk100 (by omega)), m_cell, zb1_s, zb1_s]
    simp only [zg_t (nI_in hlt (show 7272 < 2 ^ 31 by omega))]
    simp only [nI_clamp (show clM p l k < 2 ^ 31 by omega), zn_e]
    rw [hI p l k hs, m_comes hb hM hh hu (h2.toM g) hV hs hcan (fun x hx q => (h3 _ _ _ (aft_in hb q hx) (Or.inl (by omega))).2) (fun l' x g1 g2 g3 => (h3 _ _ _ ⟨hp, g1, by omega, g3⟩ (Or.inr ⟨rfl, Or.inl g2⟩)).2) (fun q => (h3 _ _ _ ⟨hp, hl.1, hl.2, by omega⟩ (Or.inr ⟨rfl, Or.inr ⟨rfl, by rcases hcan with z | z | z <;> omega⟩⟩)).2), zb1_s, ← s p l k hs, nI_1]
    refine ⟨_, rfl, rfl, ⟨fun _ _ => rfl, fun j hj => ?_⟩, fun p' l' w' hs' hb' => ⟨hI p' l' w' hs', ?_⟩⟩
    · dsimp only
      rw [up_n hj, h2.2 j hj]
    · dsimp only
      rw [up_s]
      by_cases d : p' = p ∧ l' = l ∧ w' = k
      · obtain ⟨d1, d2, d3⟩ := d
        rw [d1, d2, d3, uL_s]
      · rw [uL_n (clM_ne hb hs hs' d)]
        exact (h3 p' l' w' hs' (by omega)).2
  · intro v hv
    obtain ⟨x16, J6⟩ := v
    obtain ⟨h1, h2, h3⟩ := hv
    replace h1 : x16 = nI (0 + 101) := h1
    subst h1
    refine ⟨J6, if_pos (show (100 : Int32) < nI 101 by decide), h2, fun p' l' w' hs' hb' => h3 p' l' w' hs' ?_⟩
    have := hs'.2.2.2
    omega
theorem m_fol15 (hb : bOk b) (hM : rM b I) (hh : h < b 9 2) (hu : uOk u) (g : mP u J) (hA : ∀ p l w, inS b p l w → canS b l w (A p l w)) (s : folS b u h A V) (hV : ∀ p l w, inS b p l w → vOk (V p l w)) (hI : ∀ p l w, inS b p l w → I 15 (clM p l w) = nI (A p l w)) {p : Nat} (hp : p < b 9 1) (r : mS b A V I J p 1 0) : ∃ e : zJ, zl (fun v : (Int32 × zJ) => f_X12_follows_L15 I (nI p) (nI h) v.1 v.2) zF (1, J) = some e ∧ (oN I I J e ∧ mS b A V I e p (b 3 p + 1) 0) := by
  have hd := (hb.2.2.2.2.2.2.1 p hp).2.1
  refine zl_inv (fun k v => v.1 = nI (k + 1) ∧ oN I I J v.2 ∧ mS b A V I v.2 p (k + 1) 0) _ (b 3 p) 0 _ ⟨rfl, oN.refl, r⟩ ?_ ?_ zF (by unfold zF; omega)
  · intro k v _ hk hv
    obtain ⟨x16, J6⟩ := v
    obtain ⟨h1, h2, h3⟩ := hv
    replace h1 : x16 = nI (k + 1) := h1
    replace h2 : oN I I J J6 := h2
    replace h3 : mS b A V I J6 p (k + 1) 0 := h3
    subst h1
    obtain ⟨J7, e1, e2, e3⟩ := m_fol27 hb hM hh hu (h2.toM g) hA s hV hI hp (show 1 ≤ k + 1 ∧ k + 1 ≤ b 3 p by omega) h3
    show ∃ v', f_X12_follows_L15 I (nI p) (nI h) (nI (k + 1)) J6 = some (.inl v') ∧ _
    unfold f_X12_follows_L15
    rw [m_steps hb hM hp, zb1_s, if_neg (nI_nlt (by omega) (by omega)), e1, zb1_s, zn_e, nI_1]
    exact ⟨_, rfl, rfl, h2.trans e2, e3⟩
  · intro v hv
    obtain ⟨x16, J6⟩ := v
    obtain ⟨h1, h2, h3⟩ := hv
    replace h1 : x16 = nI (0 + b 3 p + 1) := h1
    replace h3 : mS b A V I J6 p (0 + b 3 p + 1) 0 := h3
    rw [Nat.zero_add] at h1 h3
    subst h1
    refine ⟨J6, ?_, h2, h3⟩
    show f_X12_follows_L15 I (nI p) (nI h) (nI (b 3 p + 1)) J6 = _
    unfold f_X12_follows_L15
    rw [m_steps hb hM hp, zb1_s, if_pos (nI_lt (by omega) (by omega))]
theorem m_follows (hb : bOk b) (hM : rM b I) (hh : h < b 9 2) (hu : uOk u) (g : mP u J) (hA : ∀ p l w, inS b p l w → canS b l w (A p l w)) (s : folS b u h A V) (hI : ∀ p l w, inS b p l w → I 15 (clM p l w) = nI (A p l w)) : ∃ J2 : zJ, f_X12_follows I J (nI h) = some J2 ∧ (∀ k, k ≠ 16 → J2 k = J k) ∧ ∀ p l w, inS b p l w → J2 16 (clM p l w) = lI (V p l w) := by
  have h8 := bP hb
  have h1 := hb.2.1.1
  have hV := fol_bd2 hb hu hA s
  have run : ∃ e : zJ, zl (fun v : (Int32 × zJ) => f_X12_follows_L9 I (nI h) v.1 v.2) zF (nI (b 9 1) - 1, J) = some e ∧ (oN I I J e ∧ ∀ p l w, inS b p l w → e 16 (clM p l w) = lI (V p l w)) := by
    refine zl_inv (fun k v => v.1 = nI (b 9 1 - k) - 1 ∧ oN I I J v.2 ∧ ∀ p l w, inS b p l w → b 9 1 - k ≤ p → v.2 16 (clM p l w) = lI (V p l w)) _ (b 9 1) 0 _ ⟨rfl, oN.refl, fun p l w hs z => absurd hs.1 (by omega)⟩ ?_ ?_ zF (by unfold zF; omega)
    · intro k v _ hk hv
      obtain ⟨x16, J6⟩ := v
      obtain ⟨h1, h2, h3⟩ := hv
      obtain ⟨p, hp⟩ : ∃ p, b 9 1 - k = p + 1 := ⟨b 9 1 - k - 1, by omega⟩
      replace h1 : x16 = nI (b 9 1 - k) - 1 := h1
      rw [hp, nI_pred] at h1
      replace h2 : oN I I J J6 := h2
      replace h3 : ∀ p l w, inS b p l w → b 9 1 - k ≤ p → J6 16 (clM p l w) = lI (V p l w) := h3
      subst h1
      obtain ⟨J7, e1, e2, e3⟩ := m_fol15 (p := p) (J := J6) hb hM hh hu (h2.toM g) hA s hV hI (by omega) (fun p' l' w' hs' hb' => ⟨hI p' l' w' hs', h3 p' l' w' hs' (by have := hs'.2.1; omega)⟩)
      show ∃ v', f_X12_follows_L9 I (nI h) (nI p) J6 = some (.inl v') ∧ _
      unfold f_X12_follows_L9
      rw [if_neg (nI_pos (by omega)), e1, zb1_s, zn_e]
      refine ⟨_, rfl, ?_, h2.trans e2, fun p' l' w' hs' hz => (e3 p' l' w' hs' ?_).2⟩
      · show nI p + -1 = nI (b 9 1 - (k + 1)) - 1
        rw [show b 9 1 - (k + 1) = p by omega]; exact (Int32.sub_eq_add_neg _ _).symm
      · have h5 := hs'.2.2.1
        by_cases d : p' = p
        · rw [d] at h5; omega
        · omega
    · intro v hv
      obtain ⟨x16, J6⟩ := v
      obtain ⟨h1, h2, h3⟩ := hv
      replace h1 : x16 = nI (b 9 1 - (0 + b 9 1)) - 1 := h1
      rw [show b 9 1 - (0 + b 9 1) = 0 by omega] at h1
      subst h1
      exact ⟨J6, if_pos (show nI 0 - 1 < 0 by decide), h2, fun p l w hs => h3 p l w hs (by omega)⟩
  obtain ⟨J2, e1, e2, e3⟩ := run
  unfold f_X12_follows
  rw [zg_t (by decide), sp_0, hM.1.2.1, zn_e, e1, zb1_s]
  exact ⟨J2, rfl, e2.2, e3⟩
end MS
