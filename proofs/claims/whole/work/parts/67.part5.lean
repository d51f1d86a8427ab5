/-! parting: offer, find -/
theorem x_room {wr fine d l : Nat} (hf : fine ≤ 100) (hwr : wr ≤ 31648) : ∃ K, K ≤ 101 ∧ (∀ k, k < K → ¬ (if d = l then (if nI fine < 100 - nI wr then nI fine else 100 - nI wr) else 100 - nI wr) < nI k ∧ k + wr ≤ 100 ∧ (d = l → k ≤ fine)) ∧ (if d = l then (if nI fine < 100 - nI wr then nI fine else 100 - nI wr) else 100 - nI wr) < nI K ∧ ∀ k, K ≤ k → ¬ (k + wr ≤ 100 ∧ (d = l → k ≤ fine)) := by
  have e : (100 - nI wr).toInt = 100 - (wr : Int) := by
    rw [Int32.toInt_sub, nI_toInt (by omega), k100, Int.bmod_eq_of_le (by omega) (by omega)]
  by_cases c : wr ≤ 100
  · by_cases d1 : d = l
    · rw [if_pos d1]
      by_cases d2 : fine < 100 - wr
      · refine ⟨fine + 1, by omega, fun k hk => ⟨?_, by omega, fun _ => by omega⟩, ?_, fun k hk z => ?_⟩
        · rw [if_pos (by rw [i32_lt, e, nI_toInt (by omega)]; omega)]
          exact nI_ltF (by omega) (by omega)
        · rw [if_pos (by rw [i32_lt, e, nI_toInt (by omega)]; omega)]
          exact nI_ltT (by omega) (by omega)
        · have := z.2 d1; omega
      · refine ⟨100 - wr + 1, by omega, fun k hk => ⟨?_, by omega, fun _ => by omega⟩, ?_, fun k hk z => by omega⟩
        · rw [if_neg (by rw [i32_lt, e, nI_toInt (by omega)]; omega), i32_lt, e, nI_toInt (by omega)]; omega
        · rw [if_neg (by rw [i32_lt, e, nI_toInt (by omega)]; omega), i32_lt, e, nI_toInt (by omega)]; omega
    · rw [if_neg d1]
      refine ⟨100 - wr + 1, by omega, fun k hk => ⟨?_, by omega, fun z => absurd z d1⟩, ?_, fun k hk z => by omega⟩
      · rw [i32_lt, e, nI_toInt (by omega)]; omega
      · rw [i32_lt, e, nI_toInt (by omega)]; omega
  · refine ⟨0, by omega, fun k hk => by omega, ?_, fun k hk z => by omega⟩
    by_cases d1 : d = l
    · rw [if_pos d1, if_neg (by rw [i32_lt, e, nI_toInt (by omega)]; omega), i32_lt, e, nI_toInt (by omega)]; omega
    · rw [if_neg d1, i32_lt, e, nI_toInt (by omega)]; omega
theorem rC.oC {b : zB} {I I2 : zI} {J J2 : zJ} (h : rC b I 4) (o : oC I I2 J J2) : rC b I2 4 := h.eq (fun k hk => o.1 _ (by omega) (by omega))
theorem oC.tr {I I2 I3 : zI} {J J2 J3 : zJ} (h : oC I I2 J J2) (g : oC I2 I3 J2 J3) : oC I I3 J J3 := ⟨fun k h1 h2 => by rw [g.1 k h1 h2, h.1 k h1 h2], fun k h1 => by rw [g.2 k h1, h.2 k h1]⟩
theorem x_offer {b : zB} (hb : bOk b) {I : zI} {J : zJ} (hC : rC b I 4) {p h l a : Nat} (hp : p < b 9 1) (hh : h < b 9 2) (hl : 1 ≤ l ∧ l ≤ 8) (ha : a < 48) (hcan : canP b l a) (r : tX b p h I J l a 0) : ∃ (I2 : zI) (J2 : zJ), f_X5_offer I J (nI a) (nI p) (nI l) (nI h) = some (I2, J2) ∧ oC I I2 J J2 ∧ tX b p h I2 J2 l (a + 1) 0 := by
  have h8 := bP hb
  have hT := bT hb
  have hS := bS hb
  have hf := (hb.2.2.2.2.2.2.1 p hp).2.2.1
  have hwr := wrs_b hb hp hcan.1 hh (show a % 8 + 1 ≤ 8 by omega)
  obtain ⟨K, hK, k1, k2, k3⟩ := x_room (d := a % 8 + 1) (l := l) hf hwr
  have hx18 : (if nI (a % 8 + 1) = nI l then zb1 (f_X0_fineOf I J 4 (nI p)) (fun x16 => some (if x16 < 100 - nI (wrs b p (a / 8) (a % 8 + 1) h) then x16 else 100 - nI (wrs b p (a / 8) (a % 8 + 1) h))) else some (100 - nI (wrs b p (a / 8) (a % 8 + 1) h))) = some (if a % 8 + 1 = l then (if nI (b 4 p) < 100 - nI (wrs b p (a / 8) (a % 8 + 1) h) then nI (b 4 p) else 100 - nI (wrs b p (a / 8) (a % 8 + 1) h)) else 100 - nI (wrs b p (a / 8) (a % 8 + 1) h)) := by
    by_cases d : a % 8 + 1 = l
    · rw [if_pos (by rw [d]), if_pos d, x_fineOf hb hC hp, zb1_s]
    · rw [if_neg (nI_eqF d (by omega) (by omega)), if_neg d]
  generalize (if a % 8 + 1 = l then (if nI (b 4 p) < 100 - nI (wrs b p (a / 8) (a % 8 + 1) h) then nI (b 4 p) else 100 - nI (wrs b p (a / 8) (a % 8 + 1) h)) else 100 - nI (wrs b p (a / 8) (a % 8 + 1) h)) = x18 at k1 k2 hx18
  have run : ∃ e : zI × zJ, zl (fun v : (Int32 × zI × zJ) => f_X5_offer_L81 x18 (nI l) (nI (a % 8 + 1)) (nI (wrs b p (a / 8) (a % 8 + 1) h)) (nI a) (lN (mins b p (a / 8) * b 9 5)) v.1 v.2.1 v.2.2) zF (0, I, J) = some e ∧ (oC I e.1 J e.2 ∧ tX b p h e.1 e.2 l a K) := by
    refine zl_inv (fun k v => v.1 = nI k ∧ oC I v.2.1 J v.2.2 ∧ tX b p h v.2.1 v.2.2 l a k) _ K 0 _ ⟨rfl, ⟨fun _ _ _ => rfl, fun _ _ => rfl⟩, r⟩ ?_ ?_ zF (by unfold zF; omega)
    · intro k v _ hk hv
      obtain ⟨x, I6, J6⟩ := v
      obtain ⟨h1, h2, h3⟩ := hv
      have h1 : x = nI k := h1
      subst h1
      obtain ⟨q1, q2⟩ := k1 k (by omega)
      obtain ⟨I2, J2, e1, e2, e3⟩ := x_offerStep hb hp hl (by omega) ha q1 ⟨hcan, q2⟩ h3
      exact ⟨(nI (k + 1), I2, J2), e1, rfl, h2.tr e2, e3⟩
    · intro v hv
      obtain ⟨x, I6, J6⟩ := v
      obtain ⟨h1, h2, h3⟩ := hv
      have h1 : x = nI (0 + K) := h1
      rw [Nat.zero_add] at h1 h3
      subst h1
      exact ⟨(I6, J6), if_pos k2, h2, h3⟩
  obtain ⟨⟨I2, J2⟩, e1, e2, e3⟩ := run
  refine ⟨I2, J2, ?_, e2, e3.1, e3.2.1, fun w' hw' => ?_⟩
  · unfold f_X5_offer
    rw [e_depthOf (by omega), zb1_s, e_speedOf (by omega), zb1_s, x_wears hb hC hp hcan.1 hh (by omega), zb1_s, zb1_s, x_minutes hb hC hp hcan.1, zb1_s, x_cost0 hb hC hp hcan.1, zb1_s, hx18, zb1_s, e1, zb2_s]
  · have h5 := e3.2.2 w' hw'
    rw [if_neg (by omega)]
    by_cases z : w' < K
    · rw [if_pos z] at h5; exact h5
    · rw [if_neg z] at h5
      rw [bs_n (cd_n (fun y => k3 w' (by omega) y.2))]; exact h5
/-- the class's table, levels below l told -/
def tF (b : zB) (p h : Nat) (I : zI) (J : zJ) (l : Nat) : Prop := (∀ l' w', 1 ≤ l' → l' < l → w' ≤ 100 → cX I J (101 * l' + w') (tab b p h l' w')) ∧ ∀ l' w', l ≤ l' → l' ≤ 8 → w' ≤ 100 → cX I J (101 * l' + w') none
theorem x_findL {b : zB} (hb : bOk b) {I : zI} {J : zJ} (hC : rC b I 4) {p h l : Nat} (hp : p < b 9 1) (hh : h < b 9 2) (hl : 1 ≤ l ∧ l ≤ 8) (r : tF b p h I J l) : ∃ e : zI × zJ, zl (fun v : (Int32 × zI × zJ) => f_X5_find_L26 (nI l) (nI p) (nI h) v.1 v.2.1 v.2.2) zF (0, I, J) = some e ∧ (oC I e.1 J e.2 ∧ tF b p h e.1 e.2 (l + 1)) := by
  refine zl_inv (fun k v => v.1 = nI k ∧ oC I v.2.1 J v.2.2 ∧ tX b p h v.2.1 v.2.2 l k 0) _ 48 0 _ ⟨rfl, ⟨fun _ _ _ => rfl, fun _ _ => rfl⟩, r.1, fun l' w' h1 h2 h3 => r.2 l' w' (by omega) h2 h3, fun w' h3 => r.2 l w' (by omega) hl.2 h3⟩ ?_ ?_ zF (by unfold zF; omega)
  · intro k v _ hk hv
    obtain ⟨x, I6, J6⟩ := v
    obtain ⟨h1, h2, h3⟩ := hv
    have h1 : x = nI k := h1
    subst h1
    have h2 : oC I I6 J J6 := h2
    have h3 : tX b p h I6 J6 l k 0 := h3
    have hC6 := hC.oC h2
    show ∃ v', f_X5_find_L26 (nI l) (nI p) (nI h) (nI k) I6 J6 = some (.inl v') ∧ _
    unfold f_X5_find_L26
    rw [if_neg (show ¬ (48 : Int32) ≤ nI k from nI_ge (a := k) (b := 48) (by omega) (by omega)), x_isPass hb hC6 (by omega) (by omega), zb1_s, zif]
    by_cases c : canP b l k
    · obtain ⟨I2, J2, e1, e2, e3⟩ := x_offer hb hC6 hp hh hl (by omega) c h3
      rw [if_pos c, e1, zb2_s, zn_e, nI_1]
      exact ⟨(nI (k + 1), I2, J2), rfl, rfl, h2.tr e2, e3⟩
    · rw [if_neg c, zn_e, nI_1]
      refine ⟨(nI (k + 1), I6, J6), rfl, rfl, h2, h3.1, h3.2.1, fun w' h5 => ?_⟩
      have h6 := h3.2.2 w' h5
      rw [if_neg (by omega)] at h6 ⊢
      rw [bs_n (cd_n (fun y => c y.1))]; exact h6
  · intro v hv
    obtain ⟨x, I6, J6⟩ := v
    obtain ⟨h1, h2, h3⟩ := hv
    have h1 : x = nI 48 := h1
    subst h1
    have h3 : tX b p h I6 J6 l 48 0 := h3
    refine ⟨(I6, J6), if_pos (nI_le (a := 48) (b := 48) (by omega) (by omega)), h2, fun l' w' h4 h5 h6 => ?_, fun l' w' h4 h5 h6 => h3.2.1 l' w' (by omega) h5 h6⟩
    by_cases d : l' = l
    · have h7 := h3.2.2 w' h6
      rw [if_neg (by omega)] at h7
      obtain ⟨m, rfl⟩ : ∃ m, l = m + 1 := ⟨l - 1, by omega⟩
      rw [d, tab_s]; exact h7
    · exact h3.1 l' w' h4 (by omega) h6
theorem x_find {b : zB} (hb : bOk b) {I : zI} {J : zJ} (hC : rC b I 4) {p h : Nat} (hp : p < b 9 1) (hh : h < b 9 2) : ∃ (I2 : zI) (J2 : zJ), f_X5_find I J (nI p) (nI h) = some (I2, J2) ∧ oC I I2 J J2 ∧ tF b p h I2 J2 (b 3 p + 1) := by
  have hs := (hb.2.2.2.2.2.2.1 p hp).2.1
  obtain ⟨I1, f1, f2, f3⟩ := x_fill (I := I) (J := J) (q := 42) (n := 909) (by omega) (-4)
  have o1 : oC I I1 J J := ⟨fun k _ h2 => f2 k h2, fun _ _ => rfl⟩
  have hF : tF b p h I1 J 1 := ⟨fun l' w' h4 h5 h6 => by omega, fun l' w' h4 h5 h6 => f3 (101 * l' + w') (by omega)⟩
  have run : ∃ e : zI × zJ, zl (fun v : (Int32 × zI × zJ) => f_X5_find_L11 (nI p) (nI h) v.1 v.2.1 v.2.2) zF (1, I1, J) = some e ∧ (oC I e.1 J e.2 ∧ tF b p h e.1 e.2 (b 3 p + 1)) := by
    refine zl_inv (fun k v => v.1 = nI k ∧ oC I v.2.1 J v.2.2 ∧ tF b p h v.2.1 v.2.2 k) _ (b 3 p) 1 _ ⟨rfl, o1, hF⟩ ?_ ?_ zF (by unfold zF; omega)
    · intro k v hk1 hk hv
      obtain ⟨x, I6, J6⟩ := v
      obtain ⟨h1, h2, h3⟩ := hv
      have h1 : x = nI k := h1
      subst h1
      have h2 : oC I I6 J J6 := h2
      have hC6 := hC.oC h2
      obtain ⟨⟨I2, J2⟩, e1, e2, e3⟩ := x_findL hb hC6 hp hh (l := k) (by omega) h3
      show ∃ v', f_X5_find_L11 (nI p) (nI h) (nI k) I6 J6 = some (.inl v') ∧ _
      unfold f_X5_find_L11
      rw [x_stepsOf hb hC6 hp, zb1_s, if_neg (nI_ltF (by omega) (by omega)), e1, zb2_s, zn_e, nI_1]
      exact ⟨(nI (k + 1), I2, J2), rfl, rfl, h2.tr e2, e3⟩
    · intro v hv
      obtain ⟨x, I6, J6⟩ := v
      obtain ⟨h1, h2, h3⟩ := hv
      have h1 : x = nI (1 + b 3 p) := h1
      rw [Nat.add_comm] at h1 h3
      subst h1
      have h2 : oC I I6 J J6 := h2
      have hC6 := hC.oC h2
      refine ⟨(I6, J6), ?_, h2, h3⟩
      show f_X5_find_L11 (nI p) (nI h) (nI (b 3 p + 1)) I6 J6 = _
      unfold f_X5_find_L11
      rw [x_stepsOf hb hC6 hp, zb1_s, if_pos (nI_ltT (by omega) (by omega))]
  obtain ⟨⟨I2, J2⟩, e1, e2, e3⟩ := run
  refine ⟨I2, J2, ?_, e2, e3⟩
  unfold f_X5_find
  rw [f1, zb1_s, e1, zb2_s]
