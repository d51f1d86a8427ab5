/-! an item, read by the reference -/
def nmO (l : Nat) : Nat := if l = 118 ∨ l = 98 ∨ l = 99 ∨ l = 107 ∨ l = 116 then 2 else if l = 112 then 4 else if l = 104 then 1 else 0
def loS (l k : Nat) : Nat := if (l = 118 ∧ k = 0) ∨ (l = 112 ∧ k < 2) ∨ l = 107 ∨ (l = 116 ∧ k = 0) then 1 else 0
def hiS (l k : Nat) : Nat := if l = 118 then (if k = 0 then 99 else 999) else if l = 112 then (if k = 0 then 99 else if k = 1 then 8 else if k = 2 then 100 else 999) else if l = 107 then (if k = 0 then 8 else 999) else if l = 116 then (if k = 0 then 400 else 10) else if l = 98 then 100 else if l = 99 then 99 else 999
theorem hiS_le (l k : Nat) : hiS l k ≤ 999 := by
  unfold hiS
  repeat' split
  all_goals omega
theorem loS_le (l k : Nat) : loS l k ≤ 1 := by
  unfold loS
  split <;> omega
theorem nmO_le (l : Nat) : nmO l ≤ 4 := by
  unfold nmO
  repeat' split
  all_goals omega
section IR
variable {B : Nat → Nat} {n : Nat} {J : zJ}
/-- what the reference's letter is -/
theorem lt_is {I : zI} (hM : tMt B n I) {q : Nat} (hq : q < n) (c : Nat) (hc : c < 128) : (I 1 q = nI c ↔ B q = c) := hM.2 q hq c hc
theorem m_lowOf {I : zI} {x : Int32} {l k : Nat} (hx : ∀ c, c < 128 → (x = nI c ↔ l = c)) (hk : k < 4) : f_X12_lowOf I J x (nI k) = some (nI (loS l k)) := by
  have h118 : x = 118 ↔ l = 118 := hx 118 (by omega)
  have h112 : x = 112 ↔ l = 112 := hx 112 (by omega)
  have h107 : x = 107 ↔ l = 107 := hx 107 (by omega)
  have h116 : x = 116 ↔ l = 116 := hx 116 (by omega)
  have k0' : nI k = 0 ↔ k = 0 := nI_eq (b := 0) (by omega) (by omega)
  have k2' : nI k < 2 ↔ k < 2 := nI_ltI (b := 2) (by omega) (by omega)
  unfold f_X12_lowOf loS
  simp only [h118, h112, h107, h116, k0', k2']
  by_cases a1 : l = 118
  · subst a1
    by_cases a2 : k = 0
    · simp [a2]; rfl
    · simp [a2]; rfl
  · by_cases a2 : l = 112
    · subst a2
      by_cases a3 : k < 2
      · simp [a3]; rfl
      · simp [a3]; rfl
    · by_cases a3 : l = 107
      · subst a3; simp; rfl
      · by_cases a4 : l = 116
        · subst a4
          by_cases a5 : k = 0
          · simp [a5]; rfl
          · simp [a5]; rfl
        · simp [a1, a2, a3, a4]; rfl
theorem m_highOf {I : zI} {x : Int32} {l k : Nat} (hx : ∀ c, c < 128 → (x = nI c ↔ l = c)) (hk : k < 4) : f_X12_highOf I J x (nI k) = some (nI (hiS l k)) := by
  have h118 : x = 118 ↔ l = 118 := hx 118 (by omega)
  have h112 : x = 112 ↔ l = 112 := hx 112 (by omega)
  have h107 : x = 107 ↔ l = 107 := hx 107 (by omega)
  have h116 : x = 116 ↔ l = 116 := hx 116 (by omega)
  have h98 : x = 98 ↔ l = 98 := hx 98 (by omega)
  have h99 : x = 99 ↔ l = 99 := hx 99 (by omega)
  have k0' : nI k = 0 ↔ k = 0 := nI_eq (b := 0) (by omega) (by omega)
  have k1' : nI k = 1 ↔ k = 1 := nI_eq (b := 1) (by omega) (by omega)
  have k2' : nI k = 2 ↔ k = 2 := nI_eq (b := 2) (by omega) (by omega)
  unfold f_X12_highOf hiS
  simp only [h118, h112, h107, h116, h98, h99, k0', k1', k2']
  repeat' split
  all_goals first | rfl | omega
theorem m_items (hB : tBt B n) {I : zI} {x : Int32} {l q0 m : Nat} (hx : ∀ c, c < 128 → (x = nI c ↔ l = c)) (hM : tMt B n I) (h2 : I 0 2 = nI q0) (hq : q0 ≤ n) (hm : 1 ≤ m ∧ m ≤ 4) : ∃ e : Int32 × zI, zl (fun v : (Int32 × Int32 × zI) => f_X12_isItem_L89 (nI m) J x v.1 v.2.1 v.2.2) zF (1, 0, I) = some e ∧ ((∃ s : Nat × (Nat → Nat), e.1 = 1 ∧ rdR B q0 m = some s ∧ e.2 0 2 = nI s.1 ∧ s.1 ≤ n ∧ (∀ j, j < m → e.2 2 j = nI (s.2 j) ∧ loS l j ≤ s.2 j ∧ s.2 j ≤ hiS l j) ∧ oB I e.2) ∨ (e.1 = 0 ∧ ¬ gdR B q0 (loS l) (hiS l) m ∧ oB I e.2)) := by
  have hn := hB.1
  refine zl_inv2 (fun i v => v.2.1 = nI i ∧ ((∃ s : Nat × (Nat → Nat), v.1 = 1 ∧ rdR B q0 i = some s ∧ v.2.2 0 2 = nI s.1 ∧ s.1 ≤ n ∧ (∀ j, j < i → v.2.2 2 j = nI (s.2 j) ∧ loS l j ≤ s.2 j ∧ s.2 j ≤ hiS l j) ∧ oB I v.2.2) ∨ (v.1 = 0 ∧ ¬ gdR B q0 (loS l) (hiS l) m ∧ oB I v.2.2))) _ m 0 _ ⟨rfl, Or.inl ⟨(q0, fun _ => 0), rfl, rfl, h2, hq, fun j hj => by omega, oB.refl⟩⟩ ?_ ?_ zF (by unfold zF; omega)
  · intro i v _ hi hv
    obtain ⟨x19, x20, I21⟩ := v
    obtain ⟨g1, g2⟩ := hv
    replace g1 : x20 = nI i := g1
    subst g1
    have him : i < m := by omega
    show (∃ v', f_X12_isItem_L89 (nI m) J x x19 (nI i) I21 = some (.inl v') ∧ _) ∨ ∃ e, f_X12_isItem_L89 (nI m) J x x19 (nI i) I21 = some (.inr e) ∧ _
    unfold f_X12_isItem_L89
    rw [if_neg (nI_ge him (by omega))]
    rcases g2 with ⟨s, g3, g4, g5, g6, g7, g8⟩ | ⟨g3, g4, g5⟩
    case inr =>
      replace g3 : x19 = 0 := g3
      rw [if_pos g3]
      exact Or.inr ⟨_, rfl, Or.inr ⟨g3, g4, g5⟩⟩
    replace g3 : x19 = 1 := g3
    replace g5 : I21 0 2 = nI s.1 := g5
    replace g7 : ∀ j, j < i → I21 2 j = nI (s.2 j) ∧ loS l j ≤ s.2 j ∧ s.2 j ≤ hiS l j := g7
    replace g8 : oB I I21 := g8
    subst g3
    have hM1 := g8.toT hM
    have hlo := loS_le l i
    have hhi := hiS_le l i
    rw [if_neg (by decide)]
    refine Or.inl ?_
    -- the sign ahead
    have e30 : (if nI i = 0 then some (1 : Int32) else (if (I21 0 0) ≤ (I21 0 2) then some (0) else zg (¬ ((I21 0 2) < 0 ∨ 500 ≤ (I21 0 2).toNatClampNeg)) ((if (I21 1 (I21 0 2).toNatClampNeg) = 44 then some (1) else some (0))))) = some (zi (i = 0 ∨ B s.1 = 44)) := by
      by_cases c : i = 0
      · rw [c, if_pos (show nI 0 = 0 from rfl), zi, if_pos (Or.inl rfl)]
      · rw [if_neg (nI_ne0 (by omega) (by omega)), hM1.1, g5]
        by_cases d : s.1 < n
        · rw [if_neg (nI_ge d (by omega)), zg_t (nI_in (show s.1 < 500 by omega) (by omega)), nI_clamp (by omega)]
          have h44 : I21 1 s.1 = 44 ↔ B s.1 = 44 := hM1.2 s.1 d 44 (by omega)
          by_cases y : B s.1 = 44
          · rw [if_pos (h44.2 y), zi, if_pos (Or.inr y)]
          · rw [if_neg (fun z => y (h44.1 z)), zi, if_neg (by omega)]
        · have hz := hB.2.1 s.1 (by omega)
          rw [if_pos (nI_le (by omega) (by omega)), zi, if_neg (by omega)]
    have e34 : (if nI i = 0 then some (0 : Int32) else some 1) = some (nI (if i = 0 then 0 else 1)) := by
      by_cases c : i = 0
      · rw [c, if_pos (show nI 0 = 0 from rfl), if_pos rfl]; rfl
      · rw [if_neg (nI_ne0 (by omega) (by omega)), if_neg c]; rfl
    rw [e30, zb1_s, e34, zb1_s, g5, nI_add, zn_e, zif]
    have hpos : s.1 + (if i = 0 then 0 else 1) = if i = 0 then s.1 else s.1 + 1 := by split <;> omega
    rw [hpos]
    generalize hI35 : va_up I21 0 (va_up (I21 0) 2 (nI (if i = 0 then s.1 else s.1 + 1))) = I35
    have o35 : oB I21 I35 := ⟨fun r h1 h2 => by rw [← hI35, up_n h1], fun j hj => by rw [← hI35, up_s, up_n hj]⟩
    have r35 : I35 2 = I21 2 := by rw [← hI35, up_n (by omega)]
    have p35 : I35 0 2 = nI (if i = 0 then s.1 else s.1 + 1) := by rw [← hI35, up_s, up_s]
    have hM35 := o35.toT hM1
    have hlo2 : f_X12_lowOf I35 J x (nI i) = some (nI (loS l i)) := m_lowOf hx (by omega)
    have hhi2 : f_X12_highOf I35 J x (nI i) = some (nI (hiS l i)) := m_highOf hx (by omega)
    have fin : ∀ (x46 : Int32) (I47 : zI), oB I35 I47 → (x46 = -1 ∧ ¬ gdR B q0 (loS l) (hiS l) m ∨ ∃ s2 : Nat × (Nat → Nat), rdR B q0 (i + 1) = some s2 ∧ I47 0 2 = nI s2.1 ∧ s2.1 ≤ n ∧ x46 = nI (s2.2 i) ∧ loS l i ≤ s2.2 i ∧ s2.2 i ≤ hiS l i ∧ (∀ j, j < i → s2.2 j = s.2 j) ∧ I47 2 = I21 2) → ∃ v', (zg (¬ (nI i < 0 ∨ 4 ≤ (nI i).toNatClampNeg)) (zn (va_up I47 2 (upd (I47 2) (nI i).toNatClampNeg x46)) (fun I48 => zg (¬ (nI i < 0 ∨ 4 ≤ (nI i).toNatClampNeg)) ((if (I48 2 (nI i).toNatClampNeg) < 0 then zn (nI i + 1) (fun y52 => some (Sum.inl (α := Int32 × Int32 × zI) (β := Int32 × zI) (0, y52, I48))) else zn (nI i + 1) (fun y53 => some (.inl (1, y53, I48)))))))) = some (.inl v') ∧ v'.2.1 = nI (i + 1) ∧ ((∃ s : Nat × (Nat → Nat), v'.1 = 1 ∧ rdR B q0 (i + 1) = some s ∧ v'.2.2 0 2 = nI s.1 ∧ s.1 ≤ n ∧ (∀ j, j < i + 1 → v'.2.2 2 j = nI (s.2 j) ∧ loS l j ≤ s.2 j ∧ s.2 j ≤ hiS l j) ∧ oB I v'.2.2) ∨ (v'.1 = 0 ∧ ¬ gdR B q0 (loS l) (hiS l) m ∧ oB I v'.2.2)) := by
      intro x46 I47 o47 hc
      have ho : oB I (va_up I47 2 (upd (I47 2) i x46)) := ((g8.trans o35).trans o47).trans ⟨fun r h1 h2 => up_n h2, fun j hj => by rw [up_n (by omega)]⟩
      simp only [zg_t (nI_in (show i < 4 by omega) (show 4 < 2 ^ 31 by omega))]
      simp only [nI_clamp (show i < 2 ^ 31 by omega), zn_e, nI_1]
      rw [up_s, ud_s]
      rcases hc with ⟨c1, c2⟩ | ⟨s2, c1, c2, c3, c4, c5, c6, c7, c8⟩
      · rw [c1, if_pos (by decide)]
        refine ⟨_, rfl, rfl, Or.inr ⟨rfl, c2, ?_⟩⟩
        rw [c1] at ho; exact ho
      · rw [c4, if_neg (nI_pos (by omega))]
        refine ⟨_, rfl, rfl, Or.inl ⟨s2, rfl, c1, ?_, c3, fun j hj => ?_, ?_⟩⟩
        · dsimp only
          rw [up_n (by omega)]; exact c2
        · dsimp only
          rw [up_s]
          by_cases d : j = i
          · rw [d, ud_s]; exact ⟨rfl, c5, c6⟩
          · rw [ud_n d, c8, c7 j (by omega)]; exact g7 j (by omega)
        · rw [c4] at ho; exact ho
    by_cases c : i = 0 ∨ B s.1 = 44
    case neg =>
      rw [if_neg c, zb2_s]
      refine fin (-1) I35 oB.refl (Or.inl ⟨rfl, fun z => ?_⟩)
      obtain ⟨s2, z1, z2⟩ := gdR_mono z (show i + 1 ≤ m by omega)
      rw [rdR_s1 g4 c] at z1; cases z1
    rw [if_pos c, hlo2, zb1_s, hhi2, zb1_s]
    have hpn : (if i = 0 then s.1 else s.1 + 1) ≤ n := by
      by_cases z : i = 0
      · rw [if_pos z]; exact g6
      · rw [if_neg z]
        by_cases y : s.1 < n
        · omega
        · have := hB.2.1 s.1 (by omega)
          omega
    rcases m_number (J := J) hB hM35 p35 hpn (show loS l i < 2 ^ 31 by omega) (show hiS l i < 2 ^ 31 by omega) with ⟨v, k, I44, r1, r2, r3, r4, r5, r6, r7⟩ | ⟨r1, I44, r3, r6, r7⟩
    · have o44 : oB I35 I44 := ⟨fun r h1 _ => r6 r h1, r7⟩
      rw [r3, zb2_s, zb2_s]
      have hst := rdR_s3 g4 c r1
      by_cases d : loS l i ≤ v ∧ v ≤ hiS l i
      · rw [if_pos d]
        refine fin _ I44 o44 (Or.inr ⟨_, hst, r4, r5, ?_, ?_, ?_, fun j hj => ?_, ?_⟩)
        · dsimp only
          rw [upN_s]
        · dsimp only
          rw [upN_s]; exact d.1
        · dsimp only
          rw [upN_s]; exact d.2
        · dsimp only
          rw [upN_n (by omega)]
        · rw [r6 2 (by omega), r35]
      · rw [if_neg d]
        refine fin _ I44 o44 (Or.inl ⟨rfl, fun z => ?_⟩)
        obtain ⟨s2, z1, z2⟩ := gdR_mono z (show i + 1 ≤ m by omega)
        rw [hst] at z1
        have z1 := Option.some.inj z1
        have z3 := z2 i (by omega)
        rw [← z1] at z3
        have z4 : loS l i ≤ upN s.2 i v i ∧ upN s.2 i v i ≤ hiS l i := z3
        rw [upN_s] at z4
        exact d z4
    · have o44 : oB I35 I44 := ⟨fun r h1 _ => r6 r h1, r7⟩
      rw [r3, zb2_s, zb2_s]
      refine fin _ I44 o44 (Or.inl ⟨rfl, fun z => ?_⟩)
      obtain ⟨s2, z1, z2⟩ := gdR_mono z (show i + 1 ≤ m by omega)
      rw [rdR_s2 g4 c r1] at z1; cases z1
  · intro v hv
    obtain ⟨x19, x20, I21⟩ := v
    obtain ⟨g1, g2⟩ := hv
    replace g1 : x20 = nI (0 + m) := g1
    rw [Nat.zero_add] at g1 g2
    subst g1
    exact ⟨(x19, I21), if_pos (nI_le (Nat.le_refl _) (by omega)), g2⟩
end IR
