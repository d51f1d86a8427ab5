/-! breaks, off, log -/
def fI (o : Option Nat) : Int32 := match o with
  | none => -1
  | some k => nI k
theorem ckAt_lt {ck : Nat → Nat} {w : Nat} : ∀ {n k : Nat}, ckAt ck w n = some k → k < n := by
  intro n
  induction n with
  | zero => intro k h; cases h
  | succ n ih =>
    intro k h
    unfold ckAt at h
    by_cases c : ck n ≤ w ∧ ckOk ck (ckAt ck w n) n = true
    · rw [if_pos c] at h; cases h; omega
    · rw [if_neg c] at h; have := ih h; omega
theorem m_breaksAt {b : zB} {I : zI} {J : zJ} (hM : rM b I) {w : Nat} (hw : w ≤ 100) : f_X12_breaksAt I J (nI w) = some (nI (b 8 w)) := by
  obtain ⟨-, -, -, -, -, n, ck, cb, hn, m7, m8, m9⟩ := hM
  have run : zl (fun v : (Int32 × Int32) => f_X12_breaksAt_L4 I (nI w) v.1 v.2) zF (-1, 0) = some (fI (ckAt ck w n)) := by
    refine zl_run (S := fun k => (fI (ckAt ck w k), nI k)) _ n (fun k hk => ?_) ?_ zF (by unfold zF; omega)
    · obtain ⟨c1, c2, c3, c4⟩ := m8 k hk
      show f_X12_breaksAt_L4 I (nI w) (fI (ckAt ck w k)) (nI k) = _
      unfold f_X12_breaksAt_L4
      rw [zg_t (by decide), sp_0, m7, if_neg (nI_ge hk (by omega)), m_2i (by omega), zg_t (nI_in (by omega) (by omega)), show I 8 (nI (2 * k)).toNatClampNeg = nI (ck k) by rw [nI_clamp (by omega)]; exact c1]
      conv => rhs; unfold ckAt
      by_cases e1 : ck k ≤ w
      · rw [if_neg (nI_nlt e1 (by omega))]
        cases hf : ckAt ck w k with
        | none =>
          rw [if_pos (show fI none < 0 by decide), zn_e, nI_1, if_pos ⟨e1, rfl⟩]
          rfl
        | some j =>
          have hj := ckAt_lt hf
          obtain ⟨d1, d2, d3, d4⟩ := m8 j (by omega)
          rw [if_neg (show ¬ fI (some j) < 0 from nI_pos (by omega)), zg_t (nI_in (by omega) (by omega)), show fI (some j) = nI j from rfl, m_2i (by omega), zg_t (nI_in (by omega) (by omega)), show I 8 (nI (2 * j)).toNatClampNeg = nI (ck j) by rw [nI_clamp (by omega)]; exact d1]
          by_cases e2 : ck j ≤ ck k
          · rw [if_neg (nI_nlt e2 (by omega)), zn_e, nI_1, if_pos ⟨e1, by simp [ckOk, e2]⟩]
            rfl
          · rw [if_pos (nI_lt (by omega) (by omega)), zn_e, nI_1, if_neg (fun q => e2 (by simpa [ckOk] using q.2))]
            rfl
      · rw [if_pos (nI_lt (by omega) (by omega)), zn_e, nI_1]
        rw [if_neg (fun q => e1 q.1)]
    · show f_X12_breaksAt_L4 I (nI w) (fI (ckAt ck w n)) (nI n) = _
      unfold f_X12_breaksAt_L4
      rw [zg_t (by decide), sp_0, m7, if_pos (nI_le (Nat.le_refl n) (by omega))]
  unfold f_X12_breaksAt
  rw [run, zb1_s, m9 w hw]
  unfold ckB
  cases hf : ckAt ck w n with
  | none => rw [if_neg (show ¬ (0 : Int32) ≤ fI none by decide)]; rfl
  | some j =>
    have hj := ckAt_lt hf
    obtain ⟨d1, d2, d3, d4⟩ := m8 j hj
    rw [if_pos (show (0 : Int32) ≤ fI (some j) from nI_pos' (by omega)), show fI (some j) = nI j from rfl, m_2i1, zg_t (nI_in (by omega) (by omega)), nI_clamp (by omega), d2]
theorem pu_breaks : op_breaks zRel := by
  intro I J IM JM hR p1
  have hR0 := hR
  obtain ⟨b, hb, hC, hM, hT, hH, hK, hP⟩ := hR
  suffices h : ∃ r : Int32, f_X11_breaks I J p1 = some r ∧ f_X12_breaks IM JM p1 = some r by
    obtain ⟨r, h1, h2⟩ := h
    exact ⟨r, h1, h2, hR0⟩
  unfold f_X11_breaks f_X12_breaks
  simp only [e_within, e_in, t64, zb1_s, zif, k0, k100, K0, K100]
  by_cases c : 0 ≤ p1.toInt ∧ p1.toInt ≤ 100
  · simp only [if_pos c]
    obtain ⟨w, hw, rfl⟩ := nI_of3 (n := 101) c.1 (by omega)
    rw [m_breaksAt hM (by omega), zb1_s, zg_t (nI_in hw (by omega)), nI_clamp (by omega), show I 13 w = nI (b 8 w) from bC8 hC (by omega)]
    exact ⟨_, rfl, rfl⟩
  · simp only [if_neg c]
    exact ⟨_, rfl, rfl⟩
/-- how many rows of a log are off a rule -/
def offS (lw ls : Nat → Int32) (i a j : Int32) : Nat → Nat
  | 0 => 0
  | k + 1 => offS lw ls i a j k + (if (if a ≤ lw k then j else i) = ls k then 0 else 1)
theorem offS_le {lw ls : Nat → Int32} {i a j : Int32} : ∀ n, offS lw ls i a j n ≤ n := by
  intro n
  induction n with
  | zero => exact Nat.le_refl _
  | succ n ih =>
    unfold offS
    have h1 : (if (if a ≤ lw n then j else i) = ls n then 0 else 1) ≤ 1 := by by_cases c : (if a ≤ lw n then j else i) = ls n <;> simp [c]
    omega
theorem offS_eq {lw ls lw2 ls2 : Nat → Int32} {i a j : Int32} : ∀ n, (∀ k, k < n → lw k = lw2 k ∧ ls k = ls2 k) → offS lw ls i a j n = offS lw2 ls2 i a j n := by
  intro n
  induction n with
  | zero => intro _; rfl
  | succ n ih =>
    intro h
    unfold offS
    rw [ih (fun k hk => h k (by omega)), (h n (by omega)).1, (h n (by omega)).2]
theorem x_offBy {I : zI} {J : zJ} {o n : Nat} (hn : n ≤ 20) (h : I o 2 = nI n) (i a j : Int32) : f_X1_offBy I J o i a j = some (nI (offS (I (o + 1)) (I (o + 2)) i a j n)) := by
  have run : zl (fun v : (Int32 × Int32) => f_X1_offBy_L6 I o a j i v.1 v.2) zF (0, 0) = some (nI (offS (I (o + 1)) (I (o + 2)) i a j n)) := by
   refine zl_run (S := fun k => (nI (offS (I (o + 1)) (I (o + 2)) i a j k), nI k)) _ n (fun k hk => ?_) ?_ zF (by unfold zF; omega)
   · show f_X1_offBy_L6 I o a j i (nI _) (nI k) = _
     unfold f_X1_offBy_L6
     rw [h, if_neg (nI_ge hk (by omega)), if_neg (show ¬ (20 : Int32) ≤ nI k from nI_ge (b := 20) (by omega) (by omega))]
     simp only [zg_t (nI_in (show k < 20 by omega) (show (20 : Nat) < 2 ^ 31 by omega))]
     simp only [nI_clamp (show k < 2 ^ 31 by omega)]
     conv => rhs; unfold offS
     by_cases e : a ≤ I (o + 1) k
     · simp only [if_pos e, zb1_s, zn_e, nI_1]
       by_cases f : j = I (o + 2) k
       · simp only [if_pos f, Int32.add_zero, Nat.add_zero]
       · simp only [if_neg f, nI_1]
     · simp only [if_neg e, zb1_s, zn_e, nI_1]
       by_cases f : i = I (o + 2) k
       · simp only [if_pos f, Int32.add_zero, Nat.add_zero]
       · simp only [if_neg f, nI_1]
   · show f_X1_offBy_L6 I o a j i (nI _) (nI n) = _
     unfold f_X1_offBy_L6
     rw [h, if_pos (nI_le (Nat.le_refl n) (by omega))]
  unfold f_X1_offBy
  rw [run, zb1_s]
theorem m_offOf {I : zI} {J : zJ} {n : Nat} (hn : n ≤ 20) (h : I 13 0 = nI n) (i a j : Int32) : f_X12_offOf I J i a j = some (nI (offS (fun k => I 14 (2 * k)) (fun k => I 14 (2 * k + 1)) i a j n)) := by
  have run : zl (fun v : (Int32 × Int32) => f_X12_offOf_L6 I a j i v.1 v.2) zF (0, 0) = some (nI (offS (fun k => I 14 (2 * k)) (fun k => I 14 (2 * k + 1)) i a j n)) := by
   refine zl_run (S := fun k => (nI (offS (fun k => I 14 (2 * k)) (fun k => I 14 (2 * k + 1)) i a j k), nI k)) _ n (fun k hk => ?_) ?_ zF (by unfold zF; omega)
   · show f_X12_offOf_L6 I a j i (nI _) (nI k) = _
     unfold f_X12_offOf_L6
     rw [zg_t (by decide), sp_0, h, if_neg (nI_ge hk (by omega)), m_2i1, m_2i (by omega), zg_t (nI_in (by omega) (by omega)), zg_t (nI_in (by omega) (by omega)), nI_clamp (by omega), nI_clamp (by omega)]
     conv => rhs; unfold offS
     by_cases e : a ≤ I 14 (2 * k)
     · simp only [if_pos e, zb1_s, zn_e, nI_1]
       by_cases f : j = I 14 (2 * k + 1)
       · simp only [if_pos f, if_pos f.symm, Int32.add_zero, Nat.add_zero]
       · simp only [if_neg f, if_neg (fun q => f q.symm : ¬ I 14 (2 * k + 1) = j), nI_1]
     · simp only [if_neg e, zb1_s, zn_e, nI_1]
       by_cases f : i = I 14 (2 * k + 1)
       · simp only [if_pos f, if_pos f.symm, Int32.add_zero, Nat.add_zero]
       · simp only [if_neg f, if_neg (fun q => f q.symm : ¬ I 14 (2 * k + 1) = i), nI_1]
   · show f_X12_offOf_L6 I a j i (nI _) (nI n) = _
     unfold f_X12_offOf_L6
     rw [zg_t (by decide), sp_0, h, if_pos (nI_le (Nat.le_refl n) (by omega))]
  unfold f_X12_offOf
  rw [run, zb1_s]
theorem off_same {ns : Nat} {I IM : zI} {J JM : zJ} (hH : rHb ns 24 0 I IM) : ∃ F : Int32 → Int32 → Int32 → Nat, (∀ i a j, F i a j ≤ 20) ∧ (∀ i a j, f_X1_offBy I J 24 i a j = some (nI (F i a j))) ∧ ∀ i a j, f_X12_offOf IM JM i a j = some (nI (F i a j)) := by
  obtain ⟨sp, li, ev, n, h1, h2, h3, h4, h5, h6, h7⟩ := hH
  refine ⟨fun i a j => offS (I 25) (I 26) i a j n, fun i a j => Nat.le_trans (offS_le n) h4, fun i a j => x_offBy h4 h5.2.2.2 i a j, fun i a j => ?_⟩
  rw [m_offOf h4 h6.2.2.2]
  congr 2
  exact (offS_eq n (fun k hk => by have := h7 k hk; simpa using this)).symm
theorem pu_off : op_off zRel := by
  intro I J IM JM hR p1 p2 p3
  have hR0 := hR
  obtain ⟨b, hb, hC, hM, hT, hH, hK, hP⟩ := hR
  obtain ⟨F, -, f1, f2⟩ := off_same (J := J) (JM := JM) hH
  suffices h : ∃ r : Int32, f_X11_off I J p1 p2 p3 = some r ∧ f_X12_off IM JM p1 p2 p3 = some r by
    obtain ⟨r, h1, h2⟩ := h
    exact ⟨r, h1, h2, hR0⟩
  unfold f_X11_off f_X12_off
  simp only [x_hasSpeed hb hC, m_isSpeed hb hM, e_within, e_in, t64, zb1_s, zif, k0, k100, K0, K100, f1, f2]
  split
  · split
    · split <;> exact ⟨_, rfl, rfl⟩
    · exact ⟨_, rfl, rfl⟩
  · exact ⟨_, rfl, rfl⟩
