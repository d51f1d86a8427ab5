/-! pay, bestPay -/
section PY
variable {b : zB} {I : zI} {J : zJ}
theorem x_manGets (hb : bOk b) (hC : rC b I 4) {p i u : Nat} (hp : p < b 9 1) (hi : i < b 9 0) (hu : u ≤ 99) : f_X7_manGets I J (nI p) (nI i) (nI u) = some (paysI b p i u) := by
  obtain ⟨a1, a2, a3⟩ := TmS_b hb hp hi
  unfold f_X7_manGets
  rw [x_timeOf hb hC hp hi, zb1_s, x_perHour _ a1 (by omega), zb1_s, nI_l (by omega)]
  rfl
theorem m_pays (hb : bOk b) (hM : rM b I) {p i u : Nat} (hp : p < b 9 1) (hi : i < b 9 0) (hu : u ≤ 99) : f_X12_pays I J (nI p) (nI i) (nI u) = some (paysI b p i u) := by
  obtain ⟨a1, a2, a3⟩ := TmS_b hb hp hi
  unfold f_X12_pays
  rw [m_hundredths hb hM hp hi, zb1_s, zg_t (lN_ne0 a1 (by omega)), nI_l (by omega)]
  rfl
theorem x_speedOfMan (hb : bOk b) (hC : rC b I 4) {p u e : Nat} (hp : p < b 9 1) (hu : u ≤ 99) (he : e ≤ 99) : f_X7_speedOfMan I J (nI p) (nI u) (nI e) = some (qI (fmx (fMan b p u e) (b 9 0))) := by
  have h0 := bS hb
  have run : zl (fun v : (Int32 × Int64 × Int32) => f_X7_speedOfMan_L10 I J (nI p) (nI u) (nI e) v.1 v.2.1 v.2.2) zF ((-4), 0, 0) = some (qI (fmx (fMan b p u e) (b 9 0))) := by
    refine zl_run (S := fun k => (qI (fmx (fMan b p u e) k), qV (fmx (fMan b p u e) k), nI k)) _ (b 9 0) (fun k hk => ?_) ?_ zF (by unfold zF; omega)
    · show f_X7_speedOfMan_L10 I J (nI p) (nI u) (nI e) (qI (fmx (fMan b p u e) k)) (qV (fmx (fMan b p u e) k)) (nI k) = _
      have h2 := (hb.2.2.2.2.2.1 k hk).2.1
      unfold f_X7_speedOfMan_L10
      rw [(bk_e b I 4 hC).1, if_neg (nI_ge hk (by omega)), x_mayBe hb hC hp hk, zb1_s, zif]
      by_cases c : whD b p k
      · rw [if_pos c, x_manGets hb hC hp hk hu, zb1_s, x_inchesOf hb hC hk, zb1_s, zn_e, nI_l (show e < 2 ^ 31 by omega), nI_l (show b 0 k < 2 ^ 31 by omega)]
        simp only [zn_e, nI_1]
        cases g : fmx (fMan b p u e) k with
        | none => rw [fmx_0 (fM_p c) g, if_pos (show qI none = -4 from rfl)]; rfl
        | some q =>
          have hq := fmx_some g
          rw [if_neg (qI_ne (by omega))]
          by_cases d : q.2 < paysI b p k u - 6000 * lN e * lN (b 0 k)
          · rw [fmx_g (fM_p c) g d, if_neg (by rw [cmp_le0]; exact fun z => z d)]; rfl
          · rw [fmx_l (fM_p c) g d, if_pos (by rw [cmp_le0]; exact d)]
      · rw [if_neg c, zn_e, nI_1, fmx_n (fM_n c)]
    · show f_X7_speedOfMan_L10 I J (nI p) (nI u) (nI e) (qI (fmx (fMan b p u e) (b 9 0))) (qV (fmx (fMan b p u e) (b 9 0))) (nI (b 9 0)) = _
      unfold f_X7_speedOfMan_L10
      rw [(bk_e b I 4 hC).1, if_pos (nI_le (Nat.le_refl _) (by omega))]
  unfold f_X7_speedOfMan
  rw [run, zb1_s]
theorem m_takes (hb : bOk b) (hM : rM b I) {p u e : Nat} (hp : p < b 9 1) (hu : u ≤ 99) (he : e ≤ 99) : f_X12_takes I J (nI p) (nI u) (nI e) = some (qI (fmx (fMan b p u e) (b 9 0))) := by
  have h0 := bS hb
  have run : zl (fun v : (Int32 × Int64 × Int32) => f_X12_takes_L10 I J (nI p) (nI u) (nI e) v.1 v.2.1 v.2.2) zF ((-4), 0, 0) = some (qI (fmx (fMan b p u e) (b 9 0))) := by
    refine zl_run (S := fun k => (qI (fmx (fMan b p u e) k), qV (fmx (fMan b p u e) k), nI k)) _ (b 9 0) (fun k hk => ?_) ?_ zF (by unfold zF; omega)
    · show f_X12_takes_L10 I J (nI p) (nI u) (nI e) (qI (fmx (fMan b p u e) k)) (qV (fmx (fMan b p u e) k)) (nI k) = _
      have h2 := (hb.2.2.2.2.2.1 k hk).2.1
      unfold f_X12_takes_L10
      rw [zg_t (by decide), sp_0, hM.1.1, if_neg (nI_ge hk (by omega)), m_whole hb hM hp hk, zb1_s, zif]
      by_cases c : whD b p k
      · rw [if_pos c, m_pays hb hM hp hk hu, zb1_s, m_2i (by omega), zg_t (nI_in (by omega) (by omega)), zn_e, nI_clamp (by omega), (hM.2.2.1 k hk).1, nI_l (show e < 2 ^ 31 by omega), nI_l (show b 0 k < 2 ^ 31 by omega)]
        simp only [zn_e, nI_1]
        cases g : fmx (fMan b p u e) k with
        | none => rw [fmx_0 (fM_p c) g, if_pos (show qI none < 0 by decide)]; rfl
        | some q =>
          have hq := fmx_some g
          rw [if_neg (qI_pos (by omega))]
          by_cases d : q.2 < paysI b p k u - 6000 * lN e * lN (b 0 k)
          · rw [fmx_g (fM_p c) g d, if_neg (by rw [cmp_le0]; exact fun z => z d)]; rfl
          · rw [fmx_l (fM_p c) g d, if_pos (by rw [cmp_le0]; exact d)]
      · rw [if_neg c, zn_e, nI_1, fmx_n (fM_n c)]
    · show f_X12_takes_L10 I J (nI p) (nI u) (nI e) (qI (fmx (fMan b p u e) (b 9 0))) (qV (fmx (fMan b p u e) (b 9 0))) (nI (b 9 0)) = _
      unfold f_X12_takes_L10
      rw [zg_t (by decide), sp_0, hM.1.1, if_pos (nI_le (Nat.le_refl _) (by omega))]
  unfold f_X12_takes
  rw [run, zb1_s]
theorem x_left (hb : bOk b) (hC : rC b I 4) {p i u : Nat} (hp : p < b 9 1) (hi : i < b 9 0) (hu : u ≤ 99) : f_X7_leftToShop I J (nI p) (nI i) (nI u) = some (earnI b p i 1 - paysI b p i u) := by
  unfold f_X7_leftToShop
  rw [show (1 : Int32) = nI 1 from rfl, x_earned hb hC hp hi (by omega), zb1_s, x_manGets hb hC hp hi hu, zb1_s]
def fPay (b : zB) (p e : Nat) (u : Nat) : Option Int64 := match fmx (fMan b p u e) (b 9 0) with
  | none => none
  | some q => some (earnI b p q.1 1 - paysI b p q.1 u)
theorem fP_n {p e u : Nat} (h : fmx (fMan b p u e) (b 9 0) = none) : fPay b p e u = none := by unfold fPay; rw [h]
theorem fP_s {p e u : Nat} {q : Nat × Int64} (h : fmx (fMan b p u e) (b 9 0) = some q) : fPay b p e u = some (earnI b p q.1 1 - paysI b p q.1 u) := by unfold fPay; rw [h]
theorem x_payFor (hb : bOk b) (hC : rC b I 4) {p e : Nat} (hp : p < b 9 1) (he : e ≤ 99) : f_X7_payFor I J (nI p) (nI e) = some (qI (fmx (fPay b p e) 100)) := by
  have h0 := bS hb
  have run : zl (fun v : (Int32 × Int64 × Int32) => f_X7_payFor_L9 I J (nI p) (nI e) v.1 v.2.1 v.2.2) zF ((-4), 0, 0) = some (qI (fmx (fPay b p e) 100)) := by
    refine zl_run (S := fun k => (qI (fmx (fPay b p e) k), qV (fmx (fPay b p e) k), nI k)) _ 100 (fun k hk => ?_) ?_ zF (by unfold zF; omega)
    · show f_X7_payFor_L9 I J (nI p) (nI e) (qI (fmx (fPay b p e) k)) (qV (fmx (fPay b p e) k)) (nI k) = _
      unfold f_X7_payFor_L9
      rw [if_neg (show ¬ (99 : Int32) < nI k from nI_nlt (b := k) (a := 99) (by omega) (by omega)), x_speedOfMan hb hC hp (by omega) he, zb1_s]
      cases m : fmx (fMan b p k e) (b 9 0) with
      | none => rw [if_pos (show qI none = -4 from rfl), zn_e, nI_1, fmx_n (fP_n m)]
      | some r =>
        have hr := fmx_some m
        rw [if_neg (qI_ne (by omega)), show f_X7_leftToShop I J (nI p) (qI (some r)) (nI k) = some (earnI b p r.1 1 - paysI b p r.1 k) from x_left hb hC hp hr.1 (by omega), zb1_s]
        simp only [zn_e, nI_1]
        cases g : fmx (fPay b p e) k with
        | none => rw [fmx_0 (fP_s m) g, if_pos (show qI none = -4 from rfl)]; rfl
        | some q =>
          have hq := fmx_some g
          rw [if_neg (qI_ne (by omega))]
          by_cases d : q.2 < earnI b p r.1 1 - paysI b p r.1 k
          · rw [fmx_g (fP_s m) g d, if_neg (by rw [cmp_le0]; exact fun z => z d)]; rfl
          · rw [fmx_l (fP_s m) g d, if_pos (by rw [cmp_le0]; exact d)]
    · show f_X7_payFor_L9 I J (nI p) (nI e) (qI (fmx (fPay b p e) 100)) (qV (fmx (fPay b p e) 100)) (nI 100) = _
      unfold f_X7_payFor_L9
      rw [if_pos (by decide)]
  unfold f_X7_payFor
  rw [run, zb1_s]
theorem m_bestL (hb : bOk b) (hM : rM b I) {p e : Nat} (hp : p < b 9 1) (he : e ≤ 99) : zl (fun v : (Int32 × Int64 × Int32) => f_X12_bestPay_L26 I J (nI p) (nI e) v.1 v.2.1 v.2.2) zF ((-4), 0, 0) = some (qI (fmx (fPay b p e) 100)) := by
  have h0 := bS hb
  refine zl_run (S := fun k => (qI (fmx (fPay b p e) k), qV (fmx (fPay b p e) k), nI k)) _ 100 (fun k hk => ?_) ?_ zF (by unfold zF; omega)
  · show f_X12_bestPay_L26 I J (nI p) (nI e) (qI (fmx (fPay b p e) k)) (qV (fmx (fPay b p e) k)) (nI k) = _
    unfold f_X12_bestPay_L26
    rw [if_neg (show ¬ (100 : Int32) ≤ nI k from nI_ge (b := 100) hk (by omega)), m_takes hb hM hp (by omega) he, zb1_s]
    cases m : fmx (fMan b p k e) (b 9 0) with
    | none => rw [if_neg (show ¬ (0 : Int32) ≤ qI none by decide), zb1_s, if_pos (show qI none < 0 by decide), zn_e, nI_1, fmx_n (fP_n m)]
    | some r =>
      have hr := fmx_some m
      rw [if_pos (show (0 : Int32) ≤ qI (some r) from nI_pos' (by omega)), show f_X12_earnsOf I J (nI p) (qI (some r)) 1 = some (earnI b p r.1 1) from m_earnsOf (t := 1) hb hM hp hr.1 (by omega), zb1_s, show f_X12_pays I J (nI p) (qI (some r)) (nI k) = some (paysI b p r.1 k) from m_pays hb hM hp hr.1 (by omega), zb1_s, zb1_s, if_neg (qI_pos (by omega))]
      simp only [zn_e, nI_1]
      cases g : fmx (fPay b p e) k with
      | none => rw [fmx_0 (fP_s m) g, if_pos (show qI none < 0 by decide)]; rfl
      | some q =>
        have hq := fmx_some g
        rw [if_neg (qI_pos (by omega))]
        by_cases d : q.2 < earnI b p r.1 1 - paysI b p r.1 k
        · rw [fmx_g (fP_s m) g d, if_neg (by rw [cmp_le0]; exact fun z => z d)]; rfl
        · rw [fmx_l (fP_s m) g d, if_pos (by rw [cmp_le0]; exact d)]
  · show f_X12_bestPay_L26 I J (nI p) (nI e) (qI (fmx (fPay b p e) 100)) (qV (fmx (fPay b p e) 100)) (nI 100) = _
    unfold f_X12_bestPay_L26
    rw [if_pos (by decide)]
theorem m_isPence (p : Int32) : f_X12_isPence I J p = some (zi (0 ≤ p.toInt ∧ p.toInt ≤ 99)) := by
  unfold f_X12_isPence
  rw [e_in, t64, zb1_s, zg_t zi_01]
  rfl
end PY
theorem pu_bestPay : op_bestPay zRel := by
  intro I J IM JM hR p1 p2
  have hR0 := hR
  obtain ⟨b, hb, hC, hM, hT, hH, hK, hP⟩ := hR
  have h8 := bP hb
  suffices h : ∃ r : Int32, f_X11_bestPay I J p1 p2 = some r ∧ f_X12_bestPay IM JM p1 p2 = some r by
    obtain ⟨r, h1, h2⟩ := h
    exact ⟨r, h1, h2, hR0⟩
  unfold f_X11_bestPay f_X12_bestPay
  simp only [x_hasPiece hb hC, m_isPiece hb hM, m_isPence, e_within, zb1_s, zif, k0, k99]
  by_cases c1 : 0 ≤ p1.toInt ∧ p1.toInt < b 9 1
  case neg => simp only [if_neg c1]; exact ⟨_, rfl, rfl⟩
  by_cases c3 : 0 ≤ p2.toInt ∧ p2.toInt ≤ 99
  case neg => simp only [if_pos c1, if_neg c3]; exact ⟨_, rfl, rfl⟩
  simp only [if_pos c1, if_pos c3]
  obtain ⟨e, he, rfl⟩ := nI_of3 (x := p2) (n := 100) (by omega) (by omega)
  obtain ⟨p, hp, rfl⟩ := nI_of3 c1.1 c1.2
  rw [x_payFor hb hC hp (by omega), m_bestL hb hM hp (by omega)]
  exact ⟨_, rfl, rfl⟩
theorem pu_pay : op_pay zRel := by
  intro I J IM JM hR p1 p2 p3 p4
  have hR0 := hR
  obtain ⟨b, hb, hC, hM, hT, hH, hK, hP⟩ := hR
  have h8 := bP hb
  have h0 := bS hb
  suffices h : ∃ r : Int64, f_X11_pay I J p1 p2 p3 p4 = some r ∧ f_X12_pay IM JM p1 p2 p3 p4 = some r by
    obtain ⟨r, h1, h2⟩ := h
    exact ⟨r, h1, h2, hR0⟩
  unfold f_X11_pay f_X12_pay
  simp only [x_hasPiece hb hC, m_isPiece hb hM, m_isPence, e_within, e_in, t64, zb1_s, zif, k0, k1, k99, K0, K1]
  have fin : ∃ r : Int64, (if p4 = 1 then some (-9223372036854775808 : Int64) else some (-1)) = some r ∧ (if p4 = 1 then some (-9223372036854775808 : Int64) else some (-1)) = some r := by split <;> exact ⟨_, rfl, rfl⟩
  by_cases c1 : 0 ≤ p1.toInt ∧ p1.toInt < b 9 1
  case neg => simp only [if_neg c1]; exact fin
  by_cases c2 : 0 ≤ p2.toInt ∧ p2.toInt ≤ 99
  case neg => simp only [if_pos c1, if_neg c2]; exact fin
  by_cases c3 : 0 ≤ p3.toInt ∧ p3.toInt ≤ 99
  case neg => simp only [if_pos c1, if_pos c2, if_neg c3]; exact fin
  by_cases c4 : 0 ≤ p4.toInt ∧ p4.toInt ≤ 1
  case neg => simp only [if_pos c1, if_pos c2, if_pos c3, if_neg c4]; exact fin
  simp only [if_pos c1, if_pos c2, if_pos c3, if_pos c4]
  obtain ⟨w, hw, rfl⟩ := nI_of3 (x := p4) (n := 2) (by omega) (by omega)
  obtain ⟨u, hu, rfl⟩ := nI_of3 (x := p2) (n := 100) (by omega) (by omega)
  obtain ⟨e, he, rfl⟩ := nI_of3 (x := p3) (n := 100) (by omega) (by omega)
  obtain ⟨p, hp, rfl⟩ := nI_of3 c1.1 c1.2
  rw [x_speedOfMan hb hC hp (by omega) (by omega), m_takes hb hM hp (by omega) (by omega)]
  simp only [zb1_s]
  cases m : fmx (fMan b p u e) (b 9 0) with
  | none =>
    rw [if_neg (show ¬ (0 : Int32) ≤ qI none by decide), if_neg (show ¬ (0 : Int32) ≤ qI none by decide)]
    split <;> exact ⟨_, rfl, rfl⟩
  | some r =>
    have hr := fmx_some m
    rw [if_pos (show (0 : Int32) ≤ qI (some r) from nI_pos' (by omega)), if_pos (show (0 : Int32) ≤ qI (some r) from nI_pos' (by omega)), show f_X7_leftToShop I J (nI p) (qI (some r)) (nI u) = some (earnI b p r.1 1 - paysI b p r.1 u) from x_left hb hC hp hr.1 (by omega), show f_X12_earnsOf IM JM (nI p) (qI (some r)) 1 = some (earnI b p r.1 1) from m_earnsOf (t := 1) hb hM hp hr.1 (by omega), show f_X12_pays IM JM (nI p) (qI (some r)) (nI u) = some (paysI b p r.1 u) from m_pays hb hM hp hr.1 (by omega)]
    simp only [zb1_s]
    rcases (show w = 0 ∨ w = 1 by omega) with rfl | rfl
    · rw [if_neg (show ¬ nI 0 = 1 by decide), if_pos (show nI 0 = 0 from rfl)]
      exact ⟨_, rfl, rfl⟩
    · rw [if_pos (show nI 1 = 1 from rfl), if_neg (show ¬ nI 1 = 0 by decide)]
      exact ⟨_, rfl, rfl⟩
