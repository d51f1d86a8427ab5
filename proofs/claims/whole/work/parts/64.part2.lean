/-! parting: the reference's table -/
def oR (I I2 : zI) : Prop := ∀ k, k < 19 ∨ 21 < k → I2 k = I k
def tM (b : zB) (p h : Nat) (I : zI) (l k : Nat) : Prop := ∀ l' w', (l' < l ∨ (l' = l ∧ w' < k)) → w' ≤ 100 → cM I (101 * l' + w') (tab b p h l' w')
theorem m_partL {b : zB} (hb : bOk b) {I : zI} {J : zJ} (hM : rM b I) {p h l : Nat} (hp : p < b 9 1) (hh : h < b 9 2) (hl : l ≤ 8) (hc : tM b p h I l 0) : ∃ I2 : zI, zl (fun v : (Int32 × zI) => f_X12_parted_L61 (nI l) J (nI p) (nI h) v.1 v.2) zF (0, I) = some I2 ∧ (oR I I2 ∧ tM b p h I2 (l + 1) 0) := by
  have h8 := bP hb
  refine zl_inv (fun k v => v.1 = nI k ∧ oR I v.2 ∧ tM b p h v.2 l k) _ 101 0 _ ⟨rfl, fun _ _ => rfl, hc⟩ ?_ ?_ zF (by unfold zF; omega)
  · intro k v _ hk hv
    obtain ⟨x, I6⟩ := v
    obtain ⟨h1, h2, h3⟩ := hv
    have h1 : x = nI k := h1
    subst h1
    have h2 : oR I I6 := h2
    have h3 : tM b p h I6 l k := h3
    have hM6 : rM b I6 := hM.eq (fun j _ _ => h2 j (by omega))
    show ∃ v', f_X12_parted_L61 (nI l) J (nI p) (nI h) (nI k) I6 = some (.inl v') ∧ _
    unfold f_X12_parted_L61
    rw [if_neg (show ¬ (100 : Int32) < nI k from nI_ltF (a := 100) (by omega) (by omega))]
    by_cases c : l = 0
    · have hkl : k < 909 := by omega
      subst c
      rw [if_pos (show nI 0 = 0 from rfl)]
      simp only [zg_t (nI_in hkl (show 909 < 2 ^ 31 by omega))]
      simp only [nI_clamp (show k < 2 ^ 31 by omega), zn_e, nI_1]
      refine ⟨_, rfl, rfl, fun j hj => ?_, fun l' w' h4 h5 => ?_⟩
      · dsimp only
        rw [up_n (by omega), up_n (by omega)]; exact h2 j hj
      · have h6 : l' = 0 := by omega
        subst h6
        by_cases d : w' = k
        · subst d
          rw [show 101 * 0 + w' = w' by omega]
          refine ⟨?_, ?_, fun z => by omega⟩
          · dsimp only
            rw [up_n (show 19 ≠ 20 by decide), up_s, ud_s]; rfl
          · dsimp only
            rw [up_s, ud_s]; rfl
        · refine (h3 0 w' (by omega) h5).eq ?_ ?_ ?_
          · dsimp only
            rw [up_n (show 19 ≠ 20 by decide), up_s, ud_n (by omega)]
          · dsimp only
            rw [up_s, ud_n (by omega), up_n (show 20 ≠ 19 by decide)]
          · dsimp only
            rw [up_n (show 21 ≠ 20 by decide), up_n (show 21 ≠ 19 by decide)]
    · obtain ⟨I2, r1, r2, r3⟩ := m_parts (J := J) hb hM6 hp hh (l := l) (w := k) (by omega) (by omega) (fun l' w' h4 h5 => h3 l' w' (Or.inl h4) h5)
      rw [if_neg (nI_ne0 (by omega) (by omega)), r1, zb1_s, zn_e, nI_1]
      refine ⟨(nI (k + 1), I2), rfl, rfl, fun j hj => ?_, fun l' w' h4 h5 => ?_⟩
      · show I2 j = _
        rw [r2.1 j hj]; exact h2 j hj
      · show cM I2 _ _
        by_cases d : l' = l ∧ w' = k
        · rw [d.1, d.2]; exact r3
        · exact (h3 l' w' (by omega) h5).eq (r2.2 19 _ (by omega)) (r2.2 20 _ (by omega)) (r2.2 21 _ (by omega))
  · intro v hv
    obtain ⟨x, I6⟩ := v
    obtain ⟨h1, h2, h3⟩ := hv
    have h1 : x = nI (0 + 101) := h1
    subst h1
    exact ⟨I6, if_pos (show (100 : Int32) < nI 101 from by decide), h2, fun l' w' h4 h5 => h3 l' w' (by omega) h5⟩
theorem m_partT {b : zB} (hb : bOk b) {I : zI} {J : zJ} (hM : rM b I) {p h : Nat} (hp : p < b 9 1) (hh : h < b 9 2) : ∃ I2 : zI, zl (fun v : (Int32 × zI) => f_X12_parted_L48 J (nI p) (nI h) v.1 v.2) zF (0, I) = some I2 ∧ (oR I I2 ∧ tM b p h I2 (b 3 p + 1) 0) := by
  have hs := (hb.2.2.2.2.2.2.1 p hp).2.1
  refine zl_inv (fun k v => v.1 = nI k ∧ oR I v.2 ∧ tM b p h v.2 k 0) _ (b 3 p + 1) 0 _ ⟨rfl, fun _ _ => rfl, fun l' w' h4 _ => by omega⟩ ?_ ?_ zF (by unfold zF; omega)
  · intro k v _ hk hv
    obtain ⟨x, I6⟩ := v
    obtain ⟨h1, h2, h3⟩ := hv
    have h1 : x = nI k := h1
    subst h1
    have h2 : oR I I6 := h2
    have h3 : tM b p h I6 k 0 := h3
    have hM6 : rM b I6 := hM.eq (fun j _ _ => h2 j (by omega))
    obtain ⟨I2, r1, r2, r3⟩ := m_partL (J := J) hb hM6 hp hh (l := k) (by omega) h3
    show ∃ v', f_X12_parted_L48 J (nI p) (nI h) (nI k) I6 = some (.inl v') ∧ _
    unfold f_X12_parted_L48
    rw [m_steps hb hM6 hp, zb1_s, if_neg (nI_ltF (by omega) (by omega)), r1, zb1_s, zn_e, nI_1]
    exact ⟨(nI (k + 1), I2), rfl, rfl, fun j hj => by rw [← h2 j hj]; exact r2 j hj, r3⟩
  · intro v hv
    obtain ⟨x, I6⟩ := v
    obtain ⟨h1, h2, h3⟩ := hv
    have h1 : x = nI (0 + (b 3 p + 1)) := h1
    subst h1
    have h2 : oR I I6 := h2
    have hM6 : rM b I6 := hM.eq (fun j _ _ => h2 j (by omega))
    rw [Nat.zero_add] at h3 ⊢
    refine ⟨I6, ?_, h2, h3⟩
    show f_X12_parted_L48 J (nI p) (nI h) (nI (b 3 p + 1)) I6 = _
    unfold f_X12_parted_L48
    rw [m_steps hb hM6 hp, zb1_s, if_pos (nI_ltT (by omega) (by omega))]
