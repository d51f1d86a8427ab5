/-! what comes, as the reference reckons it -/
def clM (p l w : Nat) : Nat := (9 * p + l) * 101 + w
def mP (u : zMu) (J : zJ) : Prop := J 0 21 = lI u.1 ∧ J 0 22 = lI u.2.1 ∧ J 0 23 = lI u.2.2.1 ∧ J 0 24 = lI u.2.2.2 ∧ -9 ≤ u.2.2.1
theorem clM_inj {p l w p' l' w' : Nat} (h1 : l ≤ 8) (h2 : w ≤ 100) (h3 : l' ≤ 8) (h4 : w' ≤ 100) (h : clM p l w = clM p' l' w') : p = p' ∧ l = l' ∧ w = w' := by
  unfold clM at h
  omega
theorem plc_inj {p l w p' l' w' : Nat} (h0 : 1 ≤ l) (h1 : l ≤ 8) (h2 : w ≤ 100) (h5 : 1 ≤ l') (h3 : l' ≤ 8) (h4 : w' ≤ 100) (h : plc p l w = plc p' l' w') : p = p' ∧ l = l' ∧ w = w' := by
  unfold plc at h
  omega
section GM
variable {b : zB} {I : zI} {J : zJ} {h : Nat} {u : zMu}
theorem clM_lt (hb : bOk b) {p l w : Nat} (hs : inS b p l w) : clM p l w < 7272 := by
  have h8 := bP hb
  obtain ⟨k1, k2, k3, k4⟩ := hs
  have hd := (hb.2.2.2.2.2.2.1 p k1).2.1
  unfold clM
  omega
theorem m_cell (p l w : Nat) : f_X12_cell I J (nI p) (nI l) (nI w) = some (nI (clM p l w)) := by
  unfold f_X12_cell clM
  rw [show (9 : Int32) = nI 9 from rfl, nI_mul, nI_add, show (101 : Int32) = nI 101 from rfl, nI_mul, nI_add]
theorem m_after (hb : bOk b) (hM : rM b I) {V : Nat → Nat → Nat → Int} {p w : Nat} (hp : p < b 9 1) (hw : w ≤ 100) (hc : p + 1 < b 9 1 → J 16 (clM (p + 1) (b 3 (p + 1)) w) = lI (V (p + 1) (b 3 (p + 1)) w)) : f_X12_after I J (nI p) (nI w) = some (lI (aft b V p w)) := by
  have h8 := bP hb
  unfold f_X12_after aft
  rw [zg_t (by decide), sp_0, hM.1.2.1, nI_1]
  by_cases c : p + 1 = b 9 1
  · rw [if_pos (by rw [c]), if_pos c]; rfl
  · have hp2 : p + 1 < b 9 1 := by omega
    have hlt := clM_lt hb (aft_in hb hp2 hw)
    rw [if_neg (nI_eqF c (by omega) (by omega)), if_neg c, m_steps hb hM hp2, zb1_s, m_cell, zb1_s, zg_t (nI_in hlt (by omega)), nI_clamp (by omega), hc hp2]
theorem m_comes (hb : bOk b) (hM : rM b I) (hh : h < b 9 2) (hu : uOk u) (g : mP u J) {V : Nat → Nat → Nat → Int} (hV : ∀ p l w, inS b p l w → vOk (V p l w)) {p l w a : Nat} (hs : inS b p l w) (ha : canS b l w a) (hf : ∀ x, x ≤ 100 → p + 1 < b 9 1 → J 16 (clM (p + 1) (b 3 (p + 1)) x) = lI (V (p + 1) (b 3 (p + 1)) x)) (hl : ∀ l' x, 1 ≤ l' → l' < l → x ≤ 100 → J 16 (clM p l' x) = lI (V p l' x)) (h0 : a = 48 → J 16 (clM p l 0) = lI (V p l 0)) : f_X12_comes I J (nI p) (nI l) (nI w) (nI h) (nI a) = some (lI (gG b u h V p l w a)) := by
  have hs0 := hs
  obtain ⟨k1, k2, k3, k4⟩ := hs
  have h8 := bP hb
  have hl8 := (hb.2.2.2.2.2.2.1 p k1).2.1
  have hq8 := (hb.2.2.2.2.2.2.1 p k1).2.2
  unfold f_X12_comes
  have ha50 := canS_lt ha
  rcases ha with q | q | q
  · subst q
    rw [if_neg (show ¬ nI 49 = 48 by decide), if_pos (show nI 49 = 49 from rfl), m_after hb hM k1 k4 (fun z => hf w k4 z), zb1_s, g.2.2.2.1, lI_add]
    unfold gG
    rw [if_neg (by omega), if_pos rfl]
  · obtain ⟨q, -⟩ := q
    subst q
    have hlt := clM_lt hb (p := p) (l := l) (w := 0) ⟨k1, k2, k3, by omega⟩
    rw [if_pos (show nI 48 = 48 from rfl), show f_X12_cell I J (nI p) (nI l) 0 = some (nI (clM p l 0)) from m_cell p l 0, zb1_s, zg_t (nI_in hlt (by omega)), nI_clamp (by omega), h0 rfl, g.2.1, lI_sub]
    unfold gG
    rw [if_pos rfl]
  · obtain ⟨q1, q2, q3, q4⟩ := q
    have hw8 := wrs_b hb k1 q2 hh (show a % 8 + 1 ≤ 8 by omega)
    have hr0 := rsk_le hb (p := p) (i := a / 8) (d := a % 8 + 1) (h := h) k4
    obtain ⟨hB1, hB2⟩ := whl_b (h := h) (a := a) hb hu hV hs0
    have hdn := dn_b hb hu k1
    rw [if_neg (show ¬ nI a = 48 from nI_eqF (c := 48) (by omega) (by omega) (by omega)), if_neg (show ¬ nI a = 49 from nI_eqF (c := 49) (by omega) (by omega) (by omega))]
    rw [zn_e, show (nI a - nI a / 8 * 8) + 1 = nI (a % 8 + 1) from by rw [show (8 : Int32) = nI 8 from rfl, nI_mod (by omega) (by omega), nI_1], show nI a / 8 = nI (a / 8) from nI_div (b := 8) (by omega) (by omega), m_wears hb hM k1 q2 hh (by omega), zb1_s, zn_e, nI_add]
    have e1 : (if nI (w + wrs b p (a / 8) (a % 8 + 1) h) ≤ 100 then zb1 (f_X12_breaksAt I J (nI w)) (fun x10 => some (x10)) else some (100)) = some (nI (rsk b p w (a / 8) (a % 8 + 1) h)) := by
      unfold rsk
      by_cases c : 100 < w + wrs b p (a / 8) (a % 8 + 1) h
      · rw [if_neg (show ¬ nI (w + wrs b p (a / 8) (a % 8 + 1) h) ≤ 100 from nI_ge (a := 100) c (by omega)), if_pos c]; rfl
      · rw [if_pos (show nI (w + wrs b p (a / 8) (a % 8 + 1) h) ≤ 100 from nI_le (b := 100) (by omega) (by omega)), if_neg c, m_breaksAt hM k4, zb1_s]
    have hA0 : f_X12_after I J (nI p) 0 = some (lI (aft b V p 0)) := m_after hb hM k1 (show 0 ≤ 100 by omega) (fun z => hf 0 (by omega) z)
    rw [e1, zb1_s, hA0, m_minutes hb hM k1 q2]
    simp only [zb1_s, zn_e]
    rw [g.1, g.2.1, g.2.2.1, g.2.2.2.1]
    have hdone : (if 0 ≤ (lg_cmp (lI u.2.2.1) 0) then some (lI u.2.2.1) else zg (¬ (((4 * nI p) + 3) < 0 ∨ 64 ≤ ((4 * nI p) + 3).toNatClampNeg)) (some ((6000 * (I 6 ((4 * nI p) + 3).toNatClampNeg).toInt64)))) = some (lI (dnS b u p)) := by
      unfold dnS
      have hu3 := hu.2.2.1
      have hu4 := g.2.2.2.2
      have hcmp : 0 ≤ lg_cmp (lI u.2.2.1) 0 ↔ ¬ u.2.2.1 < 0 := by
        have h1 : ¬ lg_cmp (lI u.2.2.1) 0 < 0 ↔ ¬ u.2.2.1 < 0 := by rw [cmp_lt, show (0 : Int64) = lI 0 from rfl, lI_lt (by omega) (by omega)]
        rw [← h1, i32_lt, i32_le, k0]
        omega
      by_cases c : u.2.2.1 < 0
      · rw [if_neg (fun z => (hcmp.1 z) c), if_pos c, show (3 : Int32) = nI 3 from rfl, m_4i, nI_add, zg_t (nI_in (by omega) (by omega)), nI_clamp (by omega), (hM.2.2.2.1 p k1).2.2.2, lI_n (by omega), show (6000 : Int64) = lI 6000 from rfl, lI_mul]
      · rw [if_pos (hcmp.2 c), if_neg c]
    have e2 : (if 100 < nI (w + wrs b p (a / 8) (a % 8 + 1) h) then (if 100 < nI (w + wrs b p (a / 8) (a % 8 + 1) h) then some (0) else zb1 (some (lI (dnS b u p))) (fun u21 => zg (¬ (((4 * nI p) + 2) < 0 ∨ 64 ≤ ((4 * nI p) + 2).toNatClampNeg)) (zb1 ((if nI w ≤ (I 6 ((4 * nI p) + 2).toNatClampNeg) then some (u21) else some (lI u.2.2.2)) : Option Int64) (fun u26 => zb1 (f_X12_after I J (nI p) (nI (w + wrs b p (a / 8) (a % 8 + 1) h))) (fun u27 => some (u26 + u27)))))) else (if nI l ≤ nI (a % 8 + 1) then (if 100 < nI (w + wrs b p (a / 8) (a % 8 + 1) h) then some (0) else zb1 (some (lI (dnS b u p))) (fun u36 => zg (¬ (((4 * nI p) + 2) < 0 ∨ 64 ≤ ((4 * nI p) + 2).toNatClampNeg)) (zb1 ((if nI w ≤ (I 6 ((4 * nI p) + 2).toNatClampNeg) then some (u36) else some (lI u.2.2.2)) : Option Int64) (fun u41 => zb1 (f_X12_after I J (nI p) (nI (w + wrs b p (a / 8) (a % 8 + 1) h))) (fun u42 => some (u41 + u42)))))) else zb1 (f_X12_cell I J (nI p) (nI l - nI (a % 8 + 1)) (nI (w + wrs b p (a / 8) (a % 8 + 1) h))) (fun x45 => zg (¬ (x45 < 0 ∨ 7272 ≤ x45.toNatClampNeg)) (some (J 16 x45.toNatClampNeg))))) = some (lI (whl b u h V p l w a)) := by
      unfold whl
      by_cases c : 100 < w + wrs b p (a / 8) (a % 8 + 1) h
      · have c' : (100 : Int32) < nI (w + wrs b p (a / 8) (a % 8 + 1) h) := nI_ltT (a := 100) c (by omega)
        rw [if_pos c', if_pos c', if_pos c]; rfl
      · have c' : ¬ (100 : Int32) < nI (w + wrs b p (a / 8) (a % 8 + 1) h) := nI_ltF (a := 100) (by omega) (by omega)
        rw [if_neg c', if_neg c', if_neg c]
        by_cases c2 : a % 8 + 1 < l
        · have hlt := clM_lt hb (p := p) (l := l - (a % 8 + 1)) (w := w + wrs b p (a / 8) (a % 8 + 1) h) ⟨k1, by omega, by omega, by omega⟩
          rw [if_neg (nI_ge c2 (by omega)), if_pos c2, nI_sub (by omega), m_cell, zb1_s, zg_t (nI_in hlt (by omega)), nI_clamp (by omega), hl _ _ (by omega) (by omega) (by omega)]
        · rw [if_pos (nI_le (by omega) (by omega)), if_neg c2, zb1_s, show (2 : Int32) = nI 2 from rfl, m_4i, nI_add, zg_t (nI_in (by omega) (by omega)), nI_clamp (by omega), (hM.2.2.2.1 p k1).2.2.1, m_after hb hM k1 (by omega) (fun z => hf _ (by omega) z)]
          by_cases c3 : b 4 p < w
          · rw [if_neg (nI_ge c3 (by omega)), if_pos c3, zb1_s, zb1_s, lI_add]
          · rw [if_pos (nI_le (by omega) (by omega)), if_neg c3, zb1_s, zb1_s, lI_add]
    rw [hdone, e2, zb1_s, show (100 : Int32) = nI 100 from rfl, nI_sub (by omega), lI_n (by omega), lI_n (by omega), lI_n (by have := (mins_le hb k1 q2).2; omega), lI_add, lI_sub, lI_mul, lI_mul, lI_mul, lI_add]
    have hm := mean_z (r := (rsk b p w (a / 8) (a % 8 + 1) h : Int)) (by omega) (by omega) hB1 hB2
    rw [Int.ofNat_sub (by omega)]
    have hbr : u.2.2.2 + aft b V p 0 - u.2.1 = brk b u V p := rfl
    rw [hbr, lI_100 (by show _ ≤ (100 - _) * _ + _; omega) (by show (100 - _) * _ + _ < _; omega), lI_sub, gG_p q1]
    rfl
theorem m_counts (hb : bOk b) (hM : rM b I) {k : Nat} (hk : k < 4) : ∃ J2 : zJ, f_X12_counts I J (nI k) = some J2 ∧ mP (muC b k) J2 ∧ ∀ r, r ≠ 0 → J2 r = J r := by
  obtain ⟨h1, h2, h3⟩ := hb.2.2.2.1
  have e1 : 100 * b 9 3 * b 9 5 ≤ 100 * 99 * 999 := Nat.mul_le_mul (Nat.mul_le_mul_left 100 h1) h3
  have m0 : I 11 0 = nI (b 9 3) := hM.2.1 0 (by omega)
  have m1 : I 11 1 = nI (b 9 4) := hM.2.1 1 (by omega)
  have m2 : I 11 2 = nI (b 9 5) := hM.2.1 2 (by omega)
  unfold f_X12_counts
  simp only [zg_t (show ¬ ((2 : Int32) < 0 ∨ 10 ≤ (2 : Int32).toNatClampNeg) by decide), zg_t (show ¬ ((1 : Int32) < 0 ∨ 10 ≤ (1 : Int32).toNatClampNeg) by decide), zg_t (show ¬ ((0 : Int32) < 0 ∨ 10 ≤ (0 : Int32).toNatClampNeg) by decide), show (2 : Int32).toNatClampNeg = 2 from rfl, sp_0, sp_1, m0, m1, m2, zn_e]
  rw [lI_n (by omega), lI_n (by omega), lI_n (by omega), show (6000 : Int64) = lI 6000 from rfl, show (100 : Int64) = lI 100 from rfl, lI_mul, lI_mul, lI_mul, lI_add]
  have hcc : k = 0 ∨ k = 1 ∨ k = 2 ∨ k = 3 := by omega
  rcases hcc with rfl | rfl | rfl | rfl
  · refine ⟨_, rfl, ⟨rfl, ?_, rfl, rfl, by show (-9 : Int) ≤ -1; decide⟩, fun r hr => ?_⟩
    · show lI _ = lI ((100 * b 9 3 * b 9 5 + 6000 * b 9 4 : Nat) : Int)
      rw [Int.natCast_add, Int.natCast_mul (100 * b 9 3)]
      congr 1
    · rw [up_n hr, up_n hr, up_n hr, up_n hr]
  · refine ⟨_, rfl, ⟨rfl, rfl, rfl, rfl, by show (-9 : Int) ≤ 100000; decide⟩, fun r hr => ?_⟩
    rw [up_n hr, up_n hr, up_n hr, up_n hr]
  · refine ⟨_, rfl, ⟨rfl, rfl, rfl, rfl, by show (-9 : Int) ≤ 0; decide⟩, fun r hr => ?_⟩
    rw [up_n hr, up_n hr, up_n hr, up_n hr]
  · refine ⟨_, rfl, ⟨rfl, rfl, rfl, rfl, by show (-9 : Int) ≤ 0; decide⟩, fun r hr => ?_⟩
    rw [up_n hr, up_n hr, up_n hr, up_n hr]
end GM
