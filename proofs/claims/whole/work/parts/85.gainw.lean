/-! what comes from the walk's first state on -/
def oG (J J2 : zJ) : Prop := ∀ k, k ≠ 72 → J2 k = J k
theorem oG.trans {J J2 J3 : zJ} (h : oG J J2) (g : oG J2 J3) : oG J J3 := fun k hk => by rw [g k hk, h k hk]
theorem oG.toP {b : zB} {c h : Nat} {I : zI} {J J2 : zJ} (o : oG J J2) (g : gP b c h 71 I J) : gP b c h 71 I J2 := by
  unfold gP at g ⊢
  rw [o 71 (by omega)]; exact g
/-- what is told, ahead of a place -/
def gW (b : zB) (h : Nat) (A : Nat → Nat → Nat → Nat) (V : Nat → Nat → Nat → Int) (p0 l0 w0 : Nat) (J : zJ) (P L W : Nat) : Prop := ∀ p l w, inS b p l w → Rch b h A p0 l0 w0 p l w → bfM P L W p l w → J 72 (plc p l w) = lI (V p l w)
section GW
variable {b : zB} {I : zI} {c h : Nat} {A : Nat → Nat → Nat → Nat} {V : Nat → Nat → Nat → Int} {p0 l0 w0 : Nat}
theorem x_setGain (hb : bOk b) {J : zJ} {p l w : Nat} {g : Int64} (hs : inS b p l w) : f_X6_setGain I J 71 (nI p) (nI l) (nI w) g = some (va_up J 72 (vp_updL (J 72) (plc p l w) g)) := by
  have h := plc_lt hb hs
  unfold f_X6_setGain
  rw [x_place w hs.2.1, zb1_s, if_neg (nI_pos (by omega)), if_neg (show ¬ (6464 : Int32) ≤ nI (plc p l w) from nI_ge (b := 6464) h (by omega)), zg_t (nI_in h (by omega)), nI_clamp (by omega), zn_e]
theorem x_gain47 (hb : bOk b) (hc : c < 4) (hh : h < b 9 2) (hC : rC b I 4) (hA : ∀ p l w, inS b p l w → canS b l w (A p l w)) (s : folS b (muX b c) h A V) (hV : ∀ p l w, inS b p l w → vOk (V p l w)) (hD : wD b h A p0 l0 w0 I) {J : zJ} (g : gP b c h 71 I J) {P L : Nat} (hp : P < b 9 1) (hl : 1 ≤ L ∧ L ≤ b 3 P) (r : gW b h A V p0 l0 w0 J P L 0) : ∃ J2 : zJ, zl (fun v : (Int32 × zJ) => f_X10_gain_L47 I (nI P) (nI L) v.1 v.2) zF (0, J) = some J2 ∧ (oG J J2 ∧ gW b h A V p0 l0 w0 J2 P L 101) := by
  refine zl_inv (fun n v => v.1 = nI n ∧ oG J v.2 ∧ gW b h A V p0 l0 w0 v.2 P L n) _ 101 0 _ ⟨rfl, fun _ _ => rfl, r⟩ ?_ ?_ zF (by unfold zF; omega)
  · intro k v _ hk hv
    obtain ⟨x16, J6⟩ := v
    obtain ⟨g1, g2, g3⟩ := hv
    replace g1 : x16 = nI k := g1
    replace g2 : oG J J6 := g2
    replace g3 : gW b h A V p0 l0 w0 J6 P L k := g3
    subst g1
    have hs : inS b P L k := ⟨hp, hl.1, hl.2, by omega⟩
    have ha50 := canS_lt (hA _ _ _ hs)
    show ∃ v', f_X10_gain_L47 I (nI P) (nI L) (nI k) J6 = some (.inl v') ∧ _
    unfold f_X10_gain_L47
    rw [if_neg (show ¬ (100 : Int32) < nI k from nI_ltF (a := 100) (by omega) (by omega)), x_actAt hb hs, zb1_s]
    by_cases hr : Rch b h A p0 l0 w0 P L k
    · have e := (hD P L k hs).1 hr
      rw [show I (71 + 2) (plc P L k) = nI (A P L k) from e, if_neg (m1_ne (by omega)), x_gainOf hb hC hc hh (g2.toP g) hV hs (hA _ _ _ hs) (fun p' l' w' hc' => g3 p' l' w' (suc_in hb hs hc') (Rch_s hs hr hc') (suc_later hs.2.1 (hA _ _ _ hs) hc')), zb1_s, x_setGain hb hs, zb1_s, zn_e, nI_1, ← s P L k hs]
      refine ⟨_, rfl, rfl, fun j hj => ?_, fun p l w hs' hr' hf => ?_⟩
      · dsimp only
        rw [up_n hj]; exact g2 j hj
      · dsimp only
        rw [up_s]
        by_cases d : p = P ∧ l = L ∧ w = k
        · rw [d.1, d.2.1, d.2.2, uL_s]
        · rw [uL_n (plc_ne hb hs hs' d)]
          exact g3 p l w hs' hr' (by omega)
    · have e := (hD P L k hs).2 hr
      rw [if_pos (show I (71 + 2) (plc P L k) = -1 from e), zn_e, nI_1]
      refine ⟨_, rfl, rfl, g2, fun p l w hs' hr' hf => ?_⟩
      by_cases d : p = P ∧ l = L ∧ w = k
      · rw [d.1, d.2.1, d.2.2] at hr'; exact absurd hr' hr
      · exact g3 p l w hs' hr' (by omega)
  · intro v hv
    obtain ⟨x16, J6⟩ := v
    obtain ⟨g1, g2, g3⟩ := hv
    replace g1 : x16 = nI (0 + 101) := g1
    subst g1
    exact ⟨J6, if_pos (show (100 : Int32) < nI 101 by decide), g2, g3⟩
theorem x_gain32 (hb : bOk b) (hc : c < 4) (hh : h < b 9 2) (hC : rC b I 4) (hA : ∀ p l w, inS b p l w → canS b l w (A p l w)) (s : folS b (muX b c) h A V) (hV : ∀ p l w, inS b p l w → vOk (V p l w)) (hD : wD b h A p0 l0 w0 I) {J : zJ} (g : gP b c h 71 I J) {P : Nat} (hp : P < b 9 1) (r : gW b h A V p0 l0 w0 J P 1 0) : ∃ J2 : zJ, zl (fun v : (Int32 × zJ) => f_X10_gain_L32 I (nI P) v.1 v.2) zF (1, J) = some J2 ∧ (oG J J2 ∧ gW b h A V p0 l0 w0 J2 P (b 3 P + 1) 0) := by
  have hd := (hb.2.2.2.2.2.2.1 P hp).2.1
  refine zl_inv (fun n v => v.1 = nI (n + 1) ∧ oG J v.2 ∧ gW b h A V p0 l0 w0 v.2 P (n + 1) 0) _ (b 3 P) 0 _ ⟨rfl, fun _ _ => rfl, r⟩ ?_ ?_ zF (by unfold zF; omega)
  · intro k v _ hk hv
    obtain ⟨x10, J6⟩ := v
    obtain ⟨g1, g2, g3⟩ := hv
    replace g1 : x10 = nI (k + 1) := g1
    replace g2 : oG J J6 := g2
    replace g3 : gW b h A V p0 l0 w0 J6 P (k + 1) 0 := g3
    subst g1
    obtain ⟨J7, e1, e2, e3⟩ := x_gain47 hb hc hh hC hA s hV hD (g2.toP g) hp (show 1 ≤ k + 1 ∧ k + 1 ≤ b 3 P by omega) g3
    show ∃ v', f_X10_gain_L32 I (nI P) (nI (k + 1)) J6 = some (.inl v') ∧ _
    unfold f_X10_gain_L32
    rw [x_stepsOf hb hC hp, zb1_s, if_neg (nI_nlt (by omega) (by omega)), e1, zb1_s, zn_e, nI_1]
    refine ⟨_, rfl, rfl, g2.trans e2, fun p l w hs' hr' hf => e3 p l w hs' hr' ?_⟩
    have := hs'.2.2.2
    omega
  · intro v hv
    obtain ⟨x10, J6⟩ := v
    obtain ⟨g1, g2, g3⟩ := hv
    replace g1 : x10 = nI (0 + b 3 P + 1) := g1
    replace g3 : gW b h A V p0 l0 w0 J6 P (0 + b 3 P + 1) 0 := g3
    rw [Nat.zero_add] at g1 g3
    subst g1
    refine ⟨J6, ?_, g2, g3⟩
    show f_X10_gain_L32 I (nI P) (nI (b 3 P + 1)) J6 = _
    unfold f_X10_gain_L32
    rw [x_stepsOf hb hC hp, zb1_s, if_pos (nI_lt (by omega) (by omega))]
theorem x_gain22 (hb : bOk b) (hc : c < 4) (hh : h < b 9 2) (hC : rC b I 4) (hA : ∀ p l w, inS b p l w → canS b l w (A p l w)) (s : folS b (muX b c) h A V) (hV : ∀ p l w, inS b p l w → vOk (V p l w)) (hD : wD b h A p0 l0 w0 I) (h6 : I 37 6 = nI p0) (h0 : inS b p0 l0 w0) {J : zJ} (g : gP b c h 71 I J) : ∃ J2 : zJ, zl (fun v : (Int32 × zJ) => f_X10_gain_L22 I v.1 v.2) zF (nI (b 9 1) - 1, J) = some J2 ∧ (oG J J2 ∧ J2 72 (plc p0 l0 w0) = lI (V p0 l0 w0)) := by
  have h8 := bP hb
  have hp0 := h0.1
  refine zl_inv (fun n v => v.1 = nI (b 9 1 - n) - 1 ∧ oG J v.2 ∧ ∀ p l w, inS b p l w → Rch b h A p0 l0 w0 p l w → b 9 1 - n ≤ p → v.2 72 (plc p l w) = lI (V p l w)) _ (b 9 1 - p0) 0 _ ⟨rfl, fun _ _ => rfl, fun p l w hs _ z => absurd hs.1 (by omega)⟩ ?_ ?_ zF (by unfold zF; omega)
  · intro k v _ hk hv
    obtain ⟨x6, J6⟩ := v
    obtain ⟨g1, g2, g3⟩ := hv
    obtain ⟨p, hp⟩ : ∃ p, b 9 1 - k = p + 1 := ⟨b 9 1 - k - 1, by omega⟩
    replace g1 : x6 = nI (b 9 1 - k) - 1 := g1
    replace g2 : oG J J6 := g2
    replace g3 : ∀ p l w, inS b p l w → Rch b h A p0 l0 w0 p l w → b 9 1 - k ≤ p → J6 72 (plc p l w) = lI (V p l w) := g3
    rw [hp, nI_pred] at g1
    subst g1
    obtain ⟨J7, e1, e2, e3⟩ := x_gain32 (P := p) (J := J6) hb hc hh hC hA s hV hD (g2.toP g) (by omega) (fun p' l' w' hs' hr' hf => g3 p' l' w' hs' hr' (by have := hs'.2.1; omega))
    show ∃ v', f_X10_gain_L22 I (nI p) J6 = some (.inl v') ∧ _
    unfold f_X10_gain_L22
    rw [h6, if_neg (nI_nlt (by omega) (by omega)), e1, zb1_s, zn_e]
    refine ⟨_, rfl, ?_, g2.trans e2, fun p' l' w' hs' hr' hf => e3 p' l' w' hs' hr' ?_⟩
    · show nI p + -1 = nI (b 9 1 - (k + 1)) - 1
      rw [show b 9 1 - (k + 1) = p by omega]; exact (Int32.sub_eq_add_neg _ _).symm
    · have h5 := hs'.2.2.1
      by_cases d : p' = p
      · rw [d] at h5; omega
      · omega
  · intro v hv
    obtain ⟨x6, J6⟩ := v
    obtain ⟨g1, g2, g3⟩ := hv
    replace g1 : x6 = nI (b 9 1 - (0 + (b 9 1 - p0))) - 1 := g1
    rw [show b 9 1 - (0 + (b 9 1 - p0)) = p0 by omega] at g1
    subst g1
    refine ⟨J6, ?_, g2, g3 p0 l0 w0 h0 Rch_0 (by omega)⟩
    show f_X10_gain_L22 I (nI p0 - 1) J6 = _
    unfold f_X10_gain_L22
    rw [h6, if_pos ?_]
    rw [i32_lt, nI_m1 (by omega), nI_toInt (by omega)]
    omega
theorem x_gain (hb : bOk b) (hc : c < 4) (hh : h < b 9 2) (hC : rC b I 4) (hA : ∀ p l w, inS b p l w → canS b l w (A p l w)) (s : folS b (muX b c) h A V) (hD : wD b h A p0 l0 w0 I) (h37 : I 37 5 = nI h ∧ I 37 6 = nI p0 ∧ I 37 7 = nI l0 ∧ I 37 8 = nI w0) (h0 : inS b p0 l0 w0) {J : zJ} : ∃ (I2 : zI) (J2 : zJ), f_X10_gain I J c = some (lI (V p0 l0 w0), I2, J2) ∧ (∀ r, r ≠ 71 → I2 r = I r) ∧ ∀ r, r ≠ 71 → r ≠ 72 → J2 r = J r := by
  have hV := fol_bd2 hb (muX_ok hb c) hA s
  obtain ⟨I1, J1, a1, a2, a3, a4, a5, a6⟩ := x_measure (I := I) (J := J) (c := c) (h := h) (o := 71) hb hC hc (by omega)
  have hC1 : rC b I1 4 := hC.eq (fun r hr => a3 _ (by omega))
  have hD1 : wD b h A p0 l0 w0 I1 := fun p l w hs => by rw [a3 73 (by omega)]; exact hD p l w hs
  have e37 : I1 37 = I 37 := a3 37 (by omega)
  obtain ⟨J2, s1, s2, s3⟩ := x_gain22 hb hc hh hC1 hA s hV hD1 (by rw [e37]; exact h37.2.1) h0 a2
  unfold f_X10_gain
  rw [h37.1, a1, zb2_s, (bk_e b I1 4 hC1).2.1, zn_e, s1, zb1_s, e37, h37.2.1, h37.2.2.1, h37.2.2.2, x_gainAt hb h0, zb1_s]
  refine ⟨I1, J2, ?_, a3, fun r h1 h2 => by rw [s2 r h2, a5 r h1]⟩
  show some (J2 72 (plc p0 l0 w0), I1, J2) = _
  rw [s3]
end GW
theorem gG_neg {b : zB} {x : Int} {h : Nat} {V W : Nat → Nat → Nat → Int} (hb : bOk b) (hVW : ∀ p l w, inS b p l w → V p l w = -(W p l w)) {p l w a : Nat} (hs : inS b p l w) (ha : canS b l w a) : gG b (-1, -x, 0, 0) h V p l w a = -(gG b (1, x, 0, 0) h W p l w a) := by
  have hs0 := hs
  obtain ⟨k1, k2, k3, k4⟩ := hs
  have hf : ∀ y, y ≤ 100 → aft b V p y = -(aft b W p y) := by
    intro y hy
    unfold aft
    by_cases c : p + 1 = b 9 1
    · rw [if_pos c, if_pos c]; rfl
    · rw [if_neg c, if_neg c]; exact hVW _ _ _ (aft_in hb (by omega) hy)
  rcases ha with q | q | q
  · subst q
    unfold gG
    rw [if_neg (by omega), if_pos rfl, if_neg (by omega), if_pos rfl, hf w k4]
    show (0 : Int) + _ = -(0 + _)
    omega
  · obtain ⟨q, -⟩ := q
    subst q
    unfold gG
    rw [if_pos rfl, if_pos rfl, hVW p l 0 ⟨k1, k2, k3, by omega⟩]
    show _ - -x = -(_ - x)
    omega
  · obtain ⟨q1, q2, q3, q4⟩ := q
    rw [gG_p q1, gG_p q1]
    have e1 : whl b (-1, -x, 0, 0) h V p l w a = -(whl b (1, x, 0, 0) h W p l w a) := by
      unfold whl
      by_cases c1 : 100 < w + wrs b p (a / 8) (a % 8 + 1) h
      · rw [if_pos c1, if_pos c1]; rfl
      · rw [if_neg c1, if_neg c1]
        by_cases c2 : a % 8 + 1 < l
        · rw [if_pos c2, if_pos c2]; exact hVW _ _ _ ⟨k1, by omega, by omega, by omega⟩
        · rw [if_neg c2, if_neg c2, hf _ (by omega)]
          have d1 : dnS b (-1, -x, 0, 0) p = 0 := by unfold dnS; rfl
          have d2 : dnS b (1, x, 0, 0) p = 0 := by unfold dnS; rfl
          rw [d1, d2]
          show (if b 4 p < w then (0 : Int) else 0) + _ = -((if b 4 p < w then (0 : Int) else 0) + _)
          rw [ite_self]
          omega
    have e2 : brk b (-1, -x, 0, 0) V p = -(brk b (1, x, 0, 0) W p) := by
      unfold brk
      rw [hf 0 (by omega)]
      show (0 : Int) + _ - -x = -(0 + _ - x)
      omega
    unfold mnG
    rw [e1, e2, Int.mul_neg, Int.mul_neg, ← Int.neg_add, Int.neg_tdiv]
    show _ - -1 * _ = -(_ - 1 * _)
    omega
/-- what the class and the reference have of a hand -/
theorem val_same {b : zB} {c k h : Nat} {A A2 : Nat → Nat → Nat → Nat} (hb : bOk b) (hA : ∀ p l w, inS b p l w → canS b l w (A p l w)) (hAA : ∀ p l w, inS b p l w → A p l w = A2 p l w) (hk : muX b c = muC b k) {V V2 : Nat → Nat → Nat → Int} (s1 : folS b (muX b c) h A V) (s2 : folS b (muC b k) h A2 V2) {p l w : Nat} (hs : inS b p l w) : V p l w = V2 p l w := by
  rw [hk] at s1
  refine folS_uniq hb (fun p l w hs => ⟨hAA p l w hs, fun z => ?_⟩) s1 s2 p l w hs
  rcases hA p l w hs with q | q | q <;> omega
/-- the hands' numbers, on both sides -/
theorem hab_e {ns : Nat} {I IM : zI} (hH : rHb ns 24 0 I IM) : ∃ sp li ev : Nat, sp < ns ∧ li ≤ 100 ∧ (1 ≤ ev ∧ ev ≤ 8) ∧ (I 24 3 = nI sp ∧ I 24 4 = nI li ∧ I 24 5 = nI ev) ∧ IM 12 0 = nI sp ∧ IM 12 1 = nI li ∧ IM 12 2 = nI ev := by
  obtain ⟨sp, li, ev, n, h1, h2, h3, h4, h5, h6, h7⟩ := hH
  exact ⟨sp, li, ev, h1, h2, h3, ⟨h5.1, h5.2.1, h5.2.2.1⟩, h6.1, h6.2.1, h6.2.2.1⟩
theorem x_isHandIn {b : zB} {I : zI} {J : zJ} (hb : bOk b) (hC : rC b I 4) (k h : Int32) : f_X11_isHandIn I J k h = some (zi ((0 ≤ k.toInt ∧ k.toInt ≤ 5) ∧ 0 ≤ h.toInt ∧ h.toInt < b 9 2)) := by
  unfold f_X11_isHandIn
  rw [e_within, zb1_s, zif, k0, k5]
  by_cases c : 0 ≤ k.toInt ∧ k.toInt ≤ 5
  · rw [if_pos c, x_hasSteel hb hC, zb1_s, zif]
    by_cases d : 0 ≤ h.toInt ∧ h.toInt < b 9 2
    · rw [if_pos d, zi, if_pos ⟨c, d⟩]
    · rw [if_neg d, zi, if_neg (fun z => d z.2)]
  · rw [if_neg c, zi, if_neg (fun z => c z.1)]
theorem m_isAsked {b : zB} {I : zI} {J : zJ} (hb : bOk b) (hM : rM b I) (k h p l w : Int32) : f_X12_isAsked I J k h p l w = some (zi (((0 ≤ k.toInt ∧ k.toInt ≤ 5) ∧ 0 ≤ h.toInt ∧ h.toInt < b 9 2) ∧ stI b p l w)) := by
  unfold f_X12_isAsked
  rw [e_in, zb1_s, zif, t64, K0, K5]
  by_cases c : 0 ≤ k.toInt ∧ k.toInt ≤ 5
  · rw [if_pos c, m_isSteel hb hM, zb1_s, zif]
    by_cases d : 0 ≤ h.toInt ∧ h.toInt < b 9 2
    · rw [if_pos d, m_isState hb hM, zb1_s, zif]
      by_cases e : stI b p l w
      · rw [if_pos e, zi, if_pos ⟨⟨c, d⟩, e⟩]
      · rw [if_neg e, zi, if_neg (fun z => e z.2)]
    · rw [if_neg d, zi, if_neg (fun z => d z.1.2)]
  · rw [if_neg c, zi, if_neg (fun z => c z.1.1)]
theorem pu_does : op_does zRel := by
  intro I J IM JM hR p1 p2 p3 p4 p5
  have hR0 := hR
  obtain ⟨b, hb, hC, hM, hT, hH, hK, hP⟩ := hR
  have h4 := bT hb
  unfold f_X11_does f_X12_does
  rw [x_isHandIn hb hC, m_isAsked hb hM, zb1_s, zb1_s, zif, zif, x_isState hb hC, zb1_s, zif]
  by_cases c1 : (0 ≤ p1.toInt ∧ p1.toInt ≤ 5) ∧ 0 ≤ p2.toInt ∧ p2.toInt < b 9 2
  case neg => rw [if_neg c1, if_neg (fun z => c1 z.1)]; exact ⟨_, _, _, _, _, rfl, rfl, hR0⟩
  by_cases c2 : stI b p3 p4 p5
  case neg => rw [if_pos c1, if_neg c2, if_neg (fun z => c2 z.2)]; exact ⟨_, _, _, _, _, rfl, rfl, hR0⟩
  rw [if_pos c1, if_pos c2, if_pos ⟨c1, c2⟩]
  obtain ⟨k, hk, rfl⟩ := nI_of3 (x := p1) (n := 6) c1.1.1 (by omega)
  obtain ⟨h, hh, rfl⟩ := nI_of3 c1.2.1 c1.2.2
  obtain ⟨p, l, w, rfl, rfl, rfl, hs⟩ := stI_nat hb c2
  obtain ⟨sp, li, ev, g1, g2, g3, ⟨g4, g5, g6⟩, g7, g8, g9⟩ := hab_e hH
  obtain ⟨I2, J2, e1, e2, e3, e4, -⟩ := x_prepare hb hk hh hC hP
  obtain ⟨A, a1, a2⟩ := x_choose hb hk hh (e2.rC hC) (by rw [e2.1 24 (by omega)]; exact g4) (by rw [e2.1 24 (by omega)]; exact g5) (by rw [e2.1 24 (by omega)]; exact g6) g1 g2 g3 e4
  obtain ⟨A2, M2, N2, f1, f2, f3, f4, f5⟩ := m_handles (J := JM) hb hM g7 g8 g9 g1 g2 g3 hk hh
  have hlt := clM_lt hb hs
  rw [e1, zb2_s, a2 I2 J2 (fun _ _ _ _ => rfl) p l w hs, zb1_s, f1, zb2_s, m_cell, zb1_s, zg_t (nI_in hlt (by omega)), nI_clamp (by omega), f5 p l w hs, aH_uniq hb a1 f2 hs]
  exact ⟨_, _, _, _, _, rfl, rfl, zRel.stay hb hC hM hT hH hK (fun r hr => e2.1 r (by omega)) (fun r hr => f3 r (by omega)) e3⟩
/-- the class's way to a value: prepared, spread, measured -/
theorem x_valued {b : zB} {k g h c p0 l0 w0 sp li ev : Nat} {I : zI} {J : zJ} (hb : bOk b) (hk : k < 6) (hg : g < b 9 2) (hh : h < b 9 2) (hc : c < 4) (hC : rC b I 4) (g4 : I 24 3 = nI sp) (g5 : I 24 4 = nI li) (g6 : I 24 5 = nI ev) (g1 : sp < b 9 0) (g2 : li ≤ 100) (g3 : 1 ≤ ev ∧ ev ≤ 8) (hD : pD b k g I J) (h0 : inS b p0 l0 w0) : ∃ (A : Nat → Nat → Nat → Nat) (V : Nat → Nat → Nat → Int) (I2 I3 : zI) (J3 : zJ), f_X10_spread I J (nI k) (nI g) (nI h) (nI p0) (nI l0) (nI w0) = some I2 ∧ f_X10_gain I2 J c = some (lI (V p0 l0 w0), I3, J3) ∧ aH b k g sp li ev A ∧ folS b (muX b c) h A V ∧ (∀ r, r ≠ 37 → r ≠ 71 → r ≠ 73 → I2 r = I r) ∧ (∀ r, r ≠ 37 → r ≠ 71 → r ≠ 73 → I3 r = I r) ∧ ∀ r, r ≠ 71 → r ≠ 72 → J3 r = J r := by
  obtain ⟨A, a1, a2⟩ := x_choose hb hk hg hC g4 g5 g6 g1 g2 g3 hD
  have hA := aH_can hb g1 a1
  obtain ⟨I2, s1, s2, s3, s4⟩ := x_spread (J := J) hb hh hC hA h0 (fun I2 z => a2 I2 J (fun r h1 h2 _ => z r h1 h2))
  obtain ⟨V, v1⟩ := fol_ex (muX b c) h hb hA
  have hC2 : rC b I2 4 := hC.eq (fun r hr => s2 _ (by omega) (by omega) (by omega))
  obtain ⟨I3, J3, t1, t2, t3⟩ := x_gain (J := J) hb hc hh hC2 hA v1 s4 s3 h0
  exact ⟨A, V, I2, I3, J3, s1, t1, a1, v1, s2, fun r h1 h2 h3 => by rw [t2 r h2, s2 r h1 h2 h3], t3⟩
theorem rP.far {b : zB} {I I2 : zI} {J J2 : zJ} (r : rP b I J) (e : ∀ r, r ≠ 37 → r ≠ 71 → r ≠ 73 → I2 r = I r) (f : ∀ r, r ≠ 71 → r ≠ 72 → J2 r = J r) : rP b I2 J2 := r.eq (fun k h1 h2 => e k (by omega) (by omega) (by omega)) (fun k h1 h2 => f k (by omega) (by omega))
theorem pu_value : op_value zRel := by
  intro I J IM JM hR p1 p2 p3 p4 p5
  have hR0 := hR
  obtain ⟨b, hb, hC, hM, hT, hH, hK, hP⟩ := hR
  have h4 := bT hb
  unfold f_X11_value f_X12_value
  rw [x_isHandIn hb hC, m_isAsked hb hM, zb1_s, zb1_s, zif, zif, x_isState hb hC, zb1_s, zif]
  by_cases c1 : (0 ≤ p1.toInt ∧ p1.toInt ≤ 5) ∧ 0 ≤ p2.toInt ∧ p2.toInt < b 9 2
  case neg => rw [if_neg c1, if_neg (fun z => c1 z.1)]; exact ⟨_, _, _, _, _, rfl, rfl, hR0⟩
  by_cases c2 : stI b p3 p4 p5
  case neg => rw [if_pos c1, if_neg c2, if_neg (fun z => c2 z.2)]; exact ⟨_, _, _, _, _, rfl, rfl, hR0⟩
  rw [if_pos c1, if_pos c2, if_pos ⟨c1, c2⟩]
  obtain ⟨k, hk, rfl⟩ := nI_of3 (x := p1) (n := 6) c1.1.1 (by omega)
  obtain ⟨h, hh, rfl⟩ := nI_of3 c1.2.1 c1.2.2
  obtain ⟨p, l, w, rfl, rfl, rfl, hs⟩ := stI_nat hb c2
  obtain ⟨sp, li, ev, g1, g2, g3, ⟨g4, g5, g6⟩, g7, g8, g9⟩ := hab_e hH
  obtain ⟨I2, J2, e1, e2, e3, e4, -⟩ := x_prepare hb hk hh hC hP
  obtain ⟨A, V, I3, I4, J4, b1, b2, b3, b4, b5, b6, b7⟩ := x_valued (c := 0) hb hk hh hh (by omega) (e2.rC hC) (by rw [e2.1 24 (by omega)]; exact g4) (by rw [e2.1 24 (by omega)]; exact g5) (by rw [e2.1 24 (by omega)]; exact g6) g1 g2 g3 e4 hs
  obtain ⟨A2, M2, N2, f1, f2, f3, f4, f5⟩ := m_handles (J := JM) hb hM g7 g8 g9 g1 g2 g3 hk hh
  have hM2 : rM b M2 := hM.eq (fun r _ _ => f3 r (by omega))
  obtain ⟨N3, d1, d2, d3⟩ := m_counts (J := N2) (k := 0) hb hM2 (by omega)
  have hA2 := aH_can hb g1 f2
  obtain ⟨V2, v2⟩ := fol_ex (muC b 0) h hb hA2
  obtain ⟨N4, n1, n2, n3⟩ := m_follows hb hM2 hh (muC_ok hb 0) d2 hA2 v2 f5
  have hlt := clM_lt hb hs
  have hv : V p l w = V2 p l w := val_same hb (aH_can hb g1 b3) (fun p l w hs => aH_uniq hb b3 f2 hs) rfl b4 v2 hs
  rw [show nI 0 = (0 : Int32) from rfl] at d1
  rw [e1, zb2_s, b1, zb1_s, b2, zb3_s, f1, zb2_s, d1, zb1_s, n1, zb1_s, m_cell, zb1_s, zg_t (nI_in hlt (by omega)), nI_clamp (by omega), n3 p l w hs, hv]
  exact ⟨_, _, _, _, _, rfl, rfl, zRel.stay hb hC hM hT hH hK (fun r hr => by rw [b6 r (by omega) (by omega) (by omega), e2.1 r (by omega)]) (fun r hr => f3 r (by omega)) (e3.far b6 b7)⟩
theorem pu_mean : op_mean zRel := by
  intro I J IM JM hR p1 p2 p3 p4 p5 p6
  have hR0 := hR
  obtain ⟨b, hb, hC, hM, hT, hH, hK, hP⟩ := hR
  have h4 := bT hb
  unfold f_X11_mean f_X12_mean
  rw [x_isHandIn hb hC, m_isAsked hb hM, zb1_s, zb1_s, zif, zif, x_isState hb hC, zb1_s, zif, e_within, zb1_s, zif, e_in, zb1_s, zif, t64, k0, k1, K0, K1]
  by_cases c1 : (0 ≤ p1.toInt ∧ p1.toInt ≤ 5) ∧ 0 ≤ p2.toInt ∧ p2.toInt < b 9 2
  case neg => rw [if_neg c1, if_neg (fun z => c1 z.1)]; exact ⟨_, _, _, _, _, rfl, rfl, hR0⟩
  by_cases c2 : stI b p3 p4 p5
  case neg => rw [if_pos c1, if_neg c2, if_neg (fun z => c2 z.2)]; exact ⟨_, _, _, _, _, rfl, rfl, hR0⟩
  have c12 := And.intro c1 c2
  by_cases c3 : 0 ≤ p6.toInt ∧ p6.toInt ≤ 1
  case neg => rw [if_pos c1, if_pos c2, if_pos c12, if_neg c3, if_neg c3]; exact ⟨_, _, _, _, _, rfl, rfl, hR0⟩
  rw [if_pos c1, if_pos c2, if_pos c12, if_pos c3, if_pos c3]
  obtain ⟨k, hk, rfl⟩ := nI_of3 (x := p1) (n := 6) c1.1.1 (by omega)
  obtain ⟨h, hh, rfl⟩ := nI_of3 c1.2.1 c1.2.2
  obtain ⟨p, l, w, rfl, rfl, rfl, hs⟩ := stI_nat hb c2
  obtain ⟨sp, li, ev, g1, g2, g3, ⟨g4, g5, g6⟩, g7, g8, g9⟩ := hab_e hH
  obtain ⟨I2, J2, e1, e2, e3, e4, -⟩ := x_prepare hb hk hh hC hP
  obtain ⟨A2, M2, N2, f1, f2, f3, f4, f5⟩ := m_handles (J := JM) hb hM g7 g8 g9 g1 g2 g3 hk hh
  have hM2 : rM b M2 := hM.eq (fun r _ _ => f3 r (by omega))
  have hA2 := aH_can hb g1 f2
  have hlt := clM_lt hb hs
  rw [e1, zb2_s, f1, zb2_s]
  by_cases c4 : p6 = 0
  · obtain ⟨A, V, I3, I4, J4, b1, b2, b3, b4, b5, b6, b7⟩ := x_valued (c := 2) hb hk hh hh (by omega) (e2.rC hC) (by rw [e2.1 24 (by omega)]; exact g4) (by rw [e2.1 24 (by omega)]; exact g5) (by rw [e2.1 24 (by omega)]; exact g6) g1 g2 g3 e4 hs
    obtain ⟨N3, d1, d2, d3⟩ := m_counts (J := N2) (k := 3) hb hM2 (by omega)
    obtain ⟨V2, v2⟩ := fol_ex (muC b 3) h hb hA2
    obtain ⟨N4, n1, n2, n3⟩ := m_follows hb hM2 hh (muC_ok hb 3) d2 hA2 v2 f5
    have hA := aH_can hb g1 b3
    have v3 : folS b (muC b 3) h A (fun p l w => -(V p l w)) := by
      intro p l w hs
      have e := gG_neg (b := b) (x := ((100 * b 9 3 : Nat) : Int)) (h := h) (V := V) (W := fun p l w => -(V p l w)) hb (fun p l w _ => by omega) hs (hA p l w hs)
      have e2 := b4 p l w hs
      have e3 : V p l w = -(gG b (muC b 3) h (fun p l w => -(V p l w)) p l w (A p l w)) := by rw [e2]; exact e
      show -(V p l w) = _
      omega
    have hv : -(V p l w) = V2 p l w := folS_uniq hb (fun p l w hs => ⟨aH_uniq hb b3 f2 hs, fun z => by rcases hA p l w hs with q | q | q <;> omega⟩) v3 v2 p l w hs
    rw [show nI 3 = (3 : Int32) from rfl] at d1
    rw [b1, zb1_s, if_pos c4, b2, zb3_s, if_pos c4, zb1_s, d1, zb1_s, n1, zb1_s, m_cell, zb1_s, zg_t (nI_in hlt (by omega)), nI_clamp (by omega), zn_e, n3 p l w hs, if_pos c4, ← hv]
    have e9 : -lI (-(V p l w)) = lI (V p l w) := by
      rw [show -lI (-(V p l w)) = lI (- -(V p l w)) from (Int64.ofInt_neg _).symm, Int.neg_neg]
    rw [e9]
    exact ⟨_, _, _, _, _, rfl, rfl, zRel.stay hb hC hM hT hH hK (fun r hr => by rw [b6 r (by omega) (by omega) (by omega), e2.1 r (by omega)]) (fun r hr => f3 r (by omega)) (e3.far b6 b7)⟩
  · obtain ⟨A, V, I3, I4, J4, b1, b2, b3, b4, b5, b6, b7⟩ := x_valued (c := 3) hb hk hh hh (by omega) (e2.rC hC) (by rw [e2.1 24 (by omega)]; exact g4) (by rw [e2.1 24 (by omega)]; exact g5) (by rw [e2.1 24 (by omega)]; exact g6) g1 g2 g3 e4 hs
    obtain ⟨N3, d1, d2, d3⟩ := m_counts (J := N2) (k := 2) hb hM2 (by omega)
    obtain ⟨V2, v2⟩ := fol_ex (muC b 2) h hb hA2
    obtain ⟨N4, n1, n2, n3⟩ := m_follows hb hM2 hh (muC_ok hb 2) d2 hA2 v2 f5
    have hv : V p l w = V2 p l w := val_same hb (aH_can hb g1 b3) (fun p l w hs => aH_uniq hb b3 f2 hs) rfl b4 v2 hs
    rw [show nI 2 = (2 : Int32) from rfl] at d1
    rw [b1, zb1_s, if_neg c4, b2, zb3_s, if_neg c4, zb1_s, d1, zb1_s, n1, zb1_s, m_cell, zb1_s, zg_t (nI_in hlt (by omega)), nI_clamp (by omega), zn_e, n3 p l w hs, if_neg c4, ← hv]
    exact ⟨_, _, _, _, _, rfl, rfl, zRel.stay hb hC hM hT hH hK (fun r hr => by rw [b6 r (by omega) (by omega) (by omega), e2.1 r (by omega)]) (fun r hr => f3 r (by omega)) (e3.far b6 b7)⟩
