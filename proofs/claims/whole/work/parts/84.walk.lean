/-! the class's walk: what is done in each state to which one comes -/
def Rch (b : zB) (h : Nat) (A : Nat → Nat → Nat → Nat) (p0 l0 w0 p l w : Nat) : Prop := ∀ M : Nat → Nat → Nat → Prop, M p0 l0 w0 → (∀ p l w p' l' w', inS b p l w → M p l w → sucS b h p l w (A p l w) p' l' w' → M p' l' w') → M p l w
theorem suc_in {b : zB} (hb : bOk b) {h p l w a p' l' w' : Nat} (hs : inS b p l w) (hc : sucS b h p l w a p' l' w') : inS b p' l' w' := by
  obtain ⟨k1, k2, k3, k4⟩ := hs
  rcases hc with ⟨q1, q2, q3, q4⟩ | ⟨q1, q2, q3, q4, q5⟩ | ⟨q1, ⟨q2, q3, q4, q5, q6⟩ | ⟨q2, q3, q4, q5, q6⟩ | ⟨q2, q3, q4, q5, q6, q7⟩⟩
  · rw [q2, q3, q4]; exact ⟨k1, k2, k3, by omega⟩
  · rw [q4, q5]; exact ⟨q3, (hb.2.2.2.2.2.2.1 _ q3).2.1.1, Nat.le_refl _, k4⟩
  · rw [q5, q6]; exact ⟨q4, (hb.2.2.2.2.2.2.1 _ q4).2.1.1, Nat.le_refl _, by omega⟩
  · have hw : w + wrs b p (a / 8) (a % 8 + 1) h ≤ 100 := by unfold rsk at q2; split at q2 <;> omega
    rw [q4, q5, q6]; exact ⟨k1, by omega, by omega, hw⟩
  · have hw : w + wrs b p (a / 8) (a % 8 + 1) h ≤ 100 := by unfold rsk at q2; split at q2 <;> omega
    rw [q6, q7]; exact ⟨q5, (hb.2.2.2.2.2.2.1 _ q5).2.1.1, Nat.le_refl _, hw⟩
/-- what comes behind lies later on the way -/
theorem suc_later {b : zB} {h p l w a p' l' w' : Nat} (hl : 1 ≤ l) (ha : canS b l w a) (hc : sucS b h p l w a p' l' w') : p < p' ∨ (p' = p ∧ (l' < l ∨ (l' = l ∧ w' < w))) := by
  rcases hc with ⟨q1, q2, q3, q4⟩ | ⟨q1, q2, q3, q4, q5⟩ | ⟨q1, ⟨q2, q3, q4, q5, q6⟩ | ⟨q2, q3, q4, q5, q6⟩ | ⟨q2, q3, q4, q5, q6, q7⟩⟩
  · rcases ha with z | z | z <;> omega
  · omega
  · omega
  · omega
  · omega
theorem Rch_in {b : zB} (hb : bOk b) {h : Nat} {A : Nat → Nat → Nat → Nat} {p0 l0 w0 p l w : Nat} (h0 : inS b p0 l0 w0) (r : Rch b h A p0 l0 w0 p l w) : inS b p l w := r (fun p l w => inS b p l w) h0 (fun _ _ _ _ _ _ hs _ hc => suc_in hb hs hc)
theorem Rch_0 {b : zB} {h : Nat} {A : Nat → Nat → Nat → Nat} {p0 l0 w0 : Nat} : Rch b h A p0 l0 w0 p0 l0 w0 := fun _ h0 _ => h0
theorem Rch_s {b : zB} {h : Nat} {A : Nat → Nat → Nat → Nat} {p0 l0 w0 p l w p' l' w' : Nat} (hs : inS b p l w) (r : Rch b h A p0 l0 w0 p l w) (hc : sucS b h p l w (A p l w) p' l' w') : Rch b h A p0 l0 w0 p' l' w' := fun M h0 hM => hM p l w p' l' w' hs (r M h0 hM) hc
/-- all but the walk's acts stays -/
def oW (I I2 : zI) : Prop := ∀ k, k ≠ 73 → I2 k = I k
theorem oW.trans {I I2 I3 : zI} (h : oW I I2) (g : oW I2 I3) : oW I I3 := fun k hk => by rw [g k hk, h k hk]
/-- a mark put at a place -/
def mkI (I : zI) (x : Nat) (v : Int32) : zI := va_up I 73 (upd (I 73) x v)
theorem mkI_s {I : zI} {x : Nat} {v : Int32} : mkI I x v 73 x = v := by unfold mkI; rw [up_s, ud_s]
theorem mkI_n {I : zI} {x y : Nat} {v : Int32} (h : y ≠ x) : mkI I x v 73 y = I 73 y := by unfold mkI; rw [up_s, ud_n h]
theorem mkI_o {I : zI} {x : Nat} {v : Int32} : oW I (mkI I x v) := fun k hk => by unfold mkI; rw [up_n hk]
theorem m1_ne {a : Nat} (h : a < 2 ^ 31) : ¬ nI a = -1 := fun z => by
  have e := congrArg Int32.toInt z
  rw [nI_toInt h, show (-1 : Int32).toInt = -1 from rfl] at e
  omega
section WK
variable {b : zB} {J : zJ}
theorem x_setAct (hb : bOk b) {I : zI} {p l w a : Nat} (hs : inS b p l w) (ha : a < 50) : f_X6_setAct I J 71 (nI p) (nI l) (nI w) (nI a) = some (mkI I (plc p l w) (nI a)) := by
  have h := plc_lt hb hs
  unfold f_X6_setAct
  rw [x_place w hs.2.1, zb1_s, if_neg (nI_pos (by omega)), if_neg (show ¬ (6464 : Int32) ≤ nI (plc p l w) from nI_ge (b := 6464) h (by omega)), zg_t (nI_in h (by omega)), nI_clamp (by omega), nar_a ha, zn_e]
  rfl
theorem x_markStart (hb : bOk b) {I : zI} (hC : rC b I 4) {p w : Nat} (hp : p < b 9 1) (hw : w ≤ 100) : f_X10_markStart I J (nI (p + 1)) (nI w) = some (if p + 1 < b 9 1 then mkI I (plc (p + 1) (b 3 (p + 1)) w) 0 else I) := by
  have h8 := bP hb
  unfold f_X10_markStart
  rw [x_hasPiece hb hC, zb1_s, zif, nI_toInt (by omega)]
  by_cases c : p + 1 < b 9 1
  · rw [if_pos (by omega), if_pos c, x_stepsOf hb hC c, zb1_s, show (0 : Int32) = nI 0 from rfl, x_setAct hb (aft_in hb c hw) (by omega), zb1_s]
  · rw [if_neg (by omega), if_neg c]
/-- what a step does: the act, and marks behind -/
def stW (b : zB) (h : Nat) (I I2 : zI) (p l w a : Nat) : Prop := oW I I2 ∧ I2 73 (plc p l w) = nI a ∧ (∀ p' l' w', sucS b h p l w a p' l' w' → I2 73 (plc p' l' w') = 0) ∧ ∀ x, x ≠ plc p l w → (∀ p' l' w', sucS b h p l w a p' l' w' → x ≠ plc p' l' w') → I2 73 x = I 73 x
theorem plc_ne (hb : bOk b) {p l w p' l' w' : Nat} (hs : inS b p l w) (hs' : inS b p' l' w') (hn : ¬ (p' = p ∧ l' = l ∧ w' = w)) : plc p' l' w' ≠ plc p l w := by
  intro q
  have hd := (hb.2.2.2.2.2.2.1 p hs.1).2.1
  have hd' := (hb.2.2.2.2.2.2.1 p' hs'.1).2.1
  have h1 := hs.2.1
  have h2 := hs.2.2.1
  have h3 := hs'.2.1
  have h4 := hs'.2.2.1
  exact hn (plc_inj h3 (by omega) hs'.2.2.2 h1 (by omega) hs.2.2.2 q)
theorem x_step (hb : bOk b) {I : zI} {h p l w a : Nat} (hh : h < b 9 2) (hC : rC b I 4) (h5 : I 37 5 = nI h) (hs : inS b p l w) (ha : canS b l w a) (hch : f_X2_choose I J (I 37 3) (I 37 4) (nI p) (nI l) (nI w) = some (nI a)) : ∃ I2 : zI, f_X10_step I J (nI p) (nI l) (nI w) = some I2 ∧ stW b h I I2 p l w a := by
  have ha50 := canS_lt ha
  have hs0 := hs
  obtain ⟨k1, k2, k3, k4⟩ := hs
  have h8 := bP hb
  have hd3 := (hb.2.2.2.2.2.2.1 p k1).2.1
  have hne : ∀ p' l' w', sucS b h p l w a p' l' w' → plc p l w ≠ plc p' l' w' := by
    intro p' l' w' hc
    have hi := suc_in hb hs0 hc
    have hl := suc_later k2 ha hc
    exact plc_ne hb hi hs0 (by omega)
  unfold f_X10_step
  rw [hch, zb1_s, x_setAct hb hs0 ha50, zb1_s]
  have o1 : oW I (mkI I (plc p l w) (nI a)) := mkI_o
  have hC1 : rC b (mkI I (plc p l w) (nI a)) 4 := hC.eq (fun k hk => o1 _ (by omega))
  rcases ha with q | q | q
  · subst q
    rw [if_neg (show ¬ nI 49 = 48 by decide), if_pos (show nI 49 = 49 from rfl), nI_1, x_markStart hb hC1 k1 k4, zb1_s]
    refine ⟨_, rfl, ?_⟩
    by_cases c : p + 1 < b 9 1
    · have hcs : sucS b h p l w 49 (p + 1) (b 3 (p + 1)) w := Or.inr (Or.inl ⟨rfl, rfl, c, rfl, rfl⟩)
      rw [if_pos c]
      refine ⟨o1.trans mkI_o, ?_, fun p' l' w' hc => ?_, fun x x1 x2 => ?_⟩
      · rw [mkI_n (hne _ _ _ hcs), mkI_s]
      · rcases hc with ⟨q1, q2, q3, q4⟩ | ⟨q1, q2, q3, q4, q5⟩ | ⟨q1, _⟩
        · omega
        · rw [q4, q5, q2, mkI_s]
        · omega
      · rw [mkI_n (x2 _ _ _ hcs), mkI_n x1]
    · rw [if_neg c]
      refine ⟨o1, mkI_s, fun p' l' w' hc => ?_, fun x x1 x2 => mkI_n x1⟩
      rcases hc with ⟨q1, q2, q3, q4⟩ | ⟨q1, q2, q3, q4, q5⟩ | ⟨q1, _⟩ <;> omega
  · obtain ⟨q, qw⟩ := q
    subst q
    have hcs : sucS b h p l w 48 p l 0 := Or.inl ⟨rfl, rfl, rfl, rfl⟩
    rw [if_pos (show nI 48 = 48 from rfl), show (0 : Int32) = nI 0 from rfl, x_setAct hb ⟨k1, k2, k3, by omega⟩ (by omega), zb1_s]
    refine ⟨_, rfl, o1.trans mkI_o, ?_, fun p' l' w' hc => ?_, fun x x1 x2 => ?_⟩
    · rw [mkI_n (hne _ _ _ hcs), mkI_s]
    · rcases hc with ⟨q1, q2, q3, q4⟩ | ⟨q1, q2, q3, q4, q5⟩ | ⟨q1, _⟩
      · rw [q2, q3, q4, mkI_s]; rfl
      · omega
      · omega
    · rw [mkI_n (x2 _ _ _ hcs), mkI_n x1]
  · obtain ⟨q1, q2, q3, q4⟩ := q
    have hw8 := wrs_b hb k1 q2 hh (show a % 8 + 1 ≤ 8 by omega)
    have hr0 := rsk_le hb (p := p) (i := a / 8) (d := a % 8 + 1) (h := h) k4
    have hrw : rsk b p w (a / 8) (a % 8 + 1) h < 100 → w + wrs b p (a / 8) (a % 8 + 1) h ≤ 100 := by
      intro z
      unfold rsk at z
      split at z <;> omega
    rw [if_neg (show ¬ nI a = 48 from nI_eqF (c := 48) (by omega) (by omega) (by omega)), if_neg (show ¬ nI a = 49 from nI_eqF (c := 49) (by omega) (by omega) (by omega))]
    unfold f_X10_markBehindPass
    rw [e_depthOf (by omega), zb1_s, e_speedOf (by omega), zb1_s, o1 37 (by omega), h5, x_wears hb hC1 k1 q2 hh (by omega), zb1_s, x_risk hb hC1 k4 (by omega), zb1_s]
    rw [show (if 100 < w + wrs b p (a / 8) (a % 8 + 1) h then 100 else b 8 w) = rsk b p w (a / 8) (a % 8 + 1) h from rfl]
    -- the mark behind a break
    have hst : ∃ I3 : zI, (if nI (rsk b p w (a / 8) (a % 8 + 1) h) ≤ 0 then some (mkI I (plc p l w) (nI a)) else zb1 (f_X10_markStart (mkI I (plc p l w) (nI a)) J (nI p + 1) 0) (fun I12 => some (I12))) = some I3 ∧ oW I I3 ∧ I3 73 (plc p l w) = nI a ∧ (0 < rsk b p w (a / 8) (a % 8 + 1) h → p + 1 < b 9 1 → I3 73 (plc (p + 1) (b 3 (p + 1)) 0) = 0) ∧ ∀ x, x ≠ plc p l w → (0 < rsk b p w (a / 8) (a % 8 + 1) h → p + 1 < b 9 1 → x ≠ plc (p + 1) (b 3 (p + 1)) 0) → I3 73 x = I 73 x := by
      by_cases c : rsk b p w (a / 8) (a % 8 + 1) h = 0
      · rw [c, if_pos (show nI 0 ≤ 0 by decide)]
        exact ⟨_, rfl, o1, mkI_s, fun z => by omega, fun x x1 _ => mkI_n x1⟩
      · rw [if_neg (nI_nle (by omega) (by omega)), nI_1, show (0 : Int32) = nI 0 from rfl, x_markStart hb hC1 k1 (by omega), zb1_s]
        refine ⟨_, rfl, ?_⟩
        by_cases d : p + 1 < b 9 1
        · have hcs : sucS b h p l w a (p + 1) (b 3 (p + 1)) 0 := Or.inr (Or.inr ⟨q1, Or.inl ⟨by omega, rfl, d, rfl, rfl⟩⟩)
          rw [if_pos d]
          refine ⟨o1.trans mkI_o, ?_, fun _ _ => mkI_s, fun x x1 x2 => ?_⟩
          · rw [mkI_n (hne _ _ _ hcs), mkI_s]
          · rw [mkI_n (x2 (by omega) d), mkI_n x1]
        · rw [if_neg d]
          exact ⟨o1, mkI_s, fun _ z => absurd z d, fun x x1 _ => mkI_n x1⟩
    obtain ⟨I3, s1, s2, s3, s4, s5⟩ := hst
    have hC3 : rC b I3 4 := hC.eq (fun k hk => s2 _ (by omega))
    rw [s1, zb1_s]
    by_cases c100 : rsk b p w (a / 8) (a % 8 + 1) h = 100
    · rw [c100, if_pos (show (100 : Int32) ≤ nI 100 by decide), if_pos (show (100 : Int32) ≤ nI 100 by decide), zb1_s]
      refine ⟨I3, rfl, s2, s3, fun p' l' w' hc => ?_, fun x x1 x2 => s5 x x1 (fun z1 z2 => x2 _ _ _ (Or.inr (Or.inr ⟨q1, Or.inl ⟨z1, rfl, z2, rfl, rfl⟩⟩)))⟩
      rcases hc with ⟨r1, _⟩ | ⟨r1, _⟩ | ⟨r1, ⟨r2, r3, r4, r5, r6⟩ | ⟨r2, _⟩ | ⟨r2, _⟩⟩
      · omega
      · omega
      · rw [r5, r6, r3]; rw [r3] at r4; exact s4 r2 r4
      · omega
      · omega
    · have n100 : ¬ (100 : Int32) ≤ nI (rsk b p w (a / 8) (a % 8 + 1) h) := nI_ge (b := 100) (by omega) (by omega)
      rw [if_neg n100, if_neg n100, nI_add]
      by_cases c : a % 8 + 1 < l
      · rw [if_neg (nI_ge c (by omega)), nI_sub (by omega), show (0 : Int32) = nI 0 from rfl, x_setAct hb ⟨k1, by omega, by omega, hrw (by omega)⟩ (by omega), zb1_s, zb1_s]
        have hcs : sucS b h p l w a p (l - (a % 8 + 1)) (w + wrs b p (a / 8) (a % 8 + 1) h) := Or.inr (Or.inr ⟨q1, Or.inr (Or.inl ⟨by omega, c, rfl, rfl, rfl⟩)⟩)
        refine ⟨_, rfl, s2.trans mkI_o, ?_, fun p' l' w' hc => ?_, fun x x1 x2 => ?_⟩
        · rw [mkI_n (hne _ _ _ hcs)]; exact s3
        · rcases hc with ⟨r1, _⟩ | ⟨r1, _⟩ | ⟨r1, ⟨r2, r3, r4, r5, r6⟩ | ⟨r2, r3, r4, r5, r6⟩ | ⟨r2, r3, _⟩⟩
          · omega
          · omega
          · have hi : inS b p (l - (a % 8 + 1)) (w + wrs b p (a / 8) (a % 8 + 1) h) := ⟨k1, by omega, by omega, hrw (by omega)⟩
            rw [r3] at r4
            have hi2 := aft_in hb r4 (show 0 ≤ 100 by omega)
            rw [r5, r6, r3, mkI_n (plc_ne hb hi hi2 (by omega))]
            exact s4 r2 r4
          · rw [r4, r5, r6, mkI_s]; rfl
          · omega
        · rw [mkI_n (x2 _ _ _ hcs)]
          exact s5 x x1 (fun z1 z2 => x2 _ _ _ (Or.inr (Or.inr ⟨q1, Or.inl ⟨z1, rfl, z2, rfl, rfl⟩⟩)))
      · rw [if_pos (nI_le (by omega) (by omega)), nI_1, x_markStart hb hC3 k1 (hrw (by omega)), zb1_s, zb1_s]
        refine ⟨_, rfl, ?_⟩
        by_cases d : p + 1 < b 9 1
        · rw [if_pos d]
          have hcs : sucS b h p l w a (p + 1) (b 3 (p + 1)) (w + wrs b p (a / 8) (a % 8 + 1) h) := Or.inr (Or.inr ⟨q1, Or.inr (Or.inr ⟨by omega, c, rfl, d, rfl, rfl⟩)⟩)
          refine ⟨s2.trans mkI_o, ?_, fun p' l' w' hc => ?_, fun x x1 x2 => ?_⟩
          · rw [mkI_n (hne _ _ _ hcs)]; exact s3
          · rcases hc with ⟨r1, _⟩ | ⟨r1, _⟩ | ⟨r1, ⟨r2, r3, r4, r5, r6⟩ | ⟨r2, r3, _⟩ | ⟨r2, r3, r4, r5, r6, r7⟩⟩
            · omega
            · omega
            · rw [r5, r6, r3]
              by_cases z : plc (p + 1) (b 3 (p + 1)) 0 = plc (p + 1) (b 3 (p + 1)) (w + wrs b p (a / 8) (a % 8 + 1) h)
              · rw [z, mkI_s]
              · rw [mkI_n z]; exact s4 r2 d
            · omega
            · rw [r6, r7, r4, mkI_s]
          · rw [mkI_n (x2 _ _ _ hcs)]
            exact s5 x x1 (fun z1 z2 => x2 _ _ _ (Or.inr (Or.inr ⟨q1, Or.inl ⟨z1, rfl, z2, rfl, rfl⟩⟩)))
        · rw [if_neg d]
          refine ⟨s2, s3, fun p' l' w' hc => ?_, fun x x1 x2 => s5 x x1 (fun z1 z2 => x2 _ _ _ (Or.inr (Or.inr ⟨q1, Or.inl ⟨z1, rfl, z2, rfl, rfl⟩⟩)))⟩
          rcases hc with ⟨r1, _⟩ | ⟨r1, _⟩ | ⟨r1, ⟨r2, r3, r4, r5, r6⟩ | ⟨r2, r3, _⟩ | ⟨r2, r3, r4, r5, r6, r7⟩⟩ <;> omega
/-- a state ahead of the place on the way -/
abbrev bfW (P L W p l w : Nat) : Prop := p < P ∨ (p = P ∧ (L < l ∨ (l = L ∧ W ≤ w)))
/-- the walk, at a place of the way -/
def wS (b : zB) (h : Nat) (A : Nat → Nat → Nat → Nat) (p0 l0 w0 : Nat) (I : zI) (P L W : Nat) : Prop := ¬ I 73 (plc p0 l0 w0) = -1 ∧ (∀ p l w, inS b p l w → ¬ I 73 (plc p l w) = -1 → Rch b h A p0 l0 w0 p l w) ∧ ∀ p l w, inS b p l w → ¬ I 73 (plc p l w) = -1 → bfW P L W p l w → I 73 (plc p l w) = nI (A p l w) ∧ ∀ p' l' w', sucS b h p l w (A p l w) p' l' w' → ¬ I 73 (plc p' l' w') = -1
theorem wS.go (hb : bOk b) {h : Nat} {A : Nat → Nat → Nat → Nat} {p0 l0 w0 : Nat} {I I2 : zI} {P L W : Nat} (hA : ∀ p l w, inS b p l w → canS b l w (A p l w)) (h0 : inS b p0 l0 w0) (hs : inS b P L W) (r : wS b h A p0 l0 w0 I P L (W + 1)) (hm : ¬ I 73 (plc P L W) = -1) (st : stW b h I I2 P L W (A P L W)) : wS b h A p0 l0 w0 I2 P L W := by
  obtain ⟨r1, r2, r3⟩ := r
  obtain ⟨t1, t2, t3, t4⟩ := st
  have ha := hA P L W hs
  have ha50 := canS_lt ha
  have nm : ∀ p l w, inS b p l w → ¬ I 73 (plc p l w) = -1 → ¬ I2 73 (plc p l w) = -1 := by
    intro p l w hs' hm'
    by_cases c : plc p l w = plc P L W
    · rw [c, t2]; exact m1_ne (by omega)
    · by_cases d : ∀ p' l' w', sucS b h P L W (A P L W) p' l' w' → plc p l w ≠ plc p' l' w'
      · rw [t4 _ c d]; exact hm'
      · obtain ⟨p', d⟩ := Classical.not_forall.mp d
        obtain ⟨l', d⟩ := Classical.not_forall.mp d
        obtain ⟨w', d⟩ := Classical.not_forall.mp d
        obtain ⟨d1, d2⟩ := Classical.not_imp.mp d
        rw [Classical.not_not.mp d2, t3 _ _ _ d1]; decide
  refine ⟨nm _ _ _ h0 r1, fun p l w hs' hm' => ?_, fun p l w hs' hm' hf => ?_⟩
  · by_cases c : p = P ∧ l = L ∧ w = W
    · rw [c.1, c.2.1, c.2.2]; exact r2 _ _ _ hs hm
    · by_cases d : ∀ p' l' w', sucS b h P L W (A P L W) p' l' w' → plc p l w ≠ plc p' l' w'
      · rw [t4 _ (plc_ne hb hs hs' c) d] at hm'
        exact r2 _ _ _ hs' hm'
      · obtain ⟨p', d⟩ := Classical.not_forall.mp d
        obtain ⟨l', d⟩ := Classical.not_forall.mp d
        obtain ⟨w', d⟩ := Classical.not_forall.mp d
        obtain ⟨d1, d2⟩ := Classical.not_imp.mp d
        have hi := suc_in hb hs d1
        have e : p = p' ∧ l = l' ∧ w = w' := by
          by_cases z : p = p' ∧ l = l' ∧ w = w'
          · exact z
          · exact absurd (Classical.not_not.mp d2) (plc_ne hb hi hs' z)
        rw [e.1, e.2.1, e.2.2]
        exact Rch_s hs (r2 _ _ _ hs hm) d1
  · by_cases c : p = P ∧ l = L ∧ w = W
    · obtain ⟨c1, c2, c3⟩ := c
      subst c1 c2 c3
      refine ⟨t2, fun p' l' w' hc => ?_⟩
      rw [t3 _ _ _ hc]; decide
    · have hne : ∀ p' l' w', sucS b h P L W (A P L W) p' l' w' → plc p l w ≠ plc p' l' w' := by
        intro p' l' w' hc
        have hl := suc_later hs.2.1 ha hc
        exact plc_ne hb (suc_in hb hs hc) hs' (by omega)
      have e := t4 _ (plc_ne hb hs hs' c) hne
      rw [e] at hm' ⊢
      obtain ⟨q1, q2⟩ := r3 p l w hs' hm' (by omega)
      exact ⟨q1, fun p' l' w' hc => nm _ _ _ (suc_in hb hs' hc) (q2 _ _ _ hc)⟩
theorem wS.skip {h : Nat} {A : Nat → Nat → Nat → Nat} {p0 l0 w0 : Nat} {I : zI} {P L W : Nat} (r : wS b h A p0 l0 w0 I P L (W + 1)) (hm : I 73 (plc P L W) = -1) : wS b h A p0 l0 w0 I P L W := by
  obtain ⟨r1, r2, r3⟩ := r
  refine ⟨r1, r2, fun p l w hs' hm' hf => r3 p l w hs' hm' ?_⟩
  by_cases c : p = P ∧ l = L ∧ w = W
  · rw [c.1, c.2.1, c.2.2] at hm'; exact absurd hm hm'
  · omega
theorem wS.to {h : Nat} {A : Nat → Nat → Nat → Nat} {p0 l0 w0 : Nat} {I : zI} {P L W Q M N : Nat} (r : wS b h A p0 l0 w0 I P L W) (e : ∀ p l w, inS b p l w → bfW Q M N p l w → bfW P L W p l w) : wS b h A p0 l0 w0 I Q M N := ⟨r.1, r.2.1, fun p l w hs' hm' hf => r.2.2 p l w hs' hm' (e p l w hs' hf)⟩
theorem x_spread91 (hb : bOk b) {h : Nat} {A : Nat → Nat → Nat → Nat} {p0 l0 w0 : Nat} {I : zI} (hh : h < b 9 2) (hC : rC b I 4) (h5 : I 37 5 = nI h) (hA : ∀ p l w, inS b p l w → canS b l w (A p l w)) (h0 : inS b p0 l0 w0) (hch : ∀ I2 : zI, oW I I2 → ∀ p l w, inS b p l w → f_X2_choose I2 J (I 37 3) (I 37 4) (nI p) (nI l) (nI w) = some (nI (A p l w))) {P L : Nat} (hp : P < b 9 1) (hl : 1 ≤ L ∧ L ≤ b 3 P) (r : wS b h A p0 l0 w0 I P L 101) : ∃ I2 : zI, zl (fun v : (Int32 × zI) => f_X10_spread_L91 J (nI P) (nI L) v.1 v.2) zF (100, I) = some I2 ∧ (oW I I2 ∧ wS b h A p0 l0 w0 I2 P L 0) := by
  refine zl_inv (fun n v => v.1 = nI (101 - n) - 1 ∧ oW I v.2 ∧ wS b h A p0 l0 w0 v.2 P L (101 - n)) _ 101 0 _ ⟨rfl, fun _ _ => rfl, r⟩ ?_ ?_ zF (by unfold zF; omega)
  · intro n v _ hn hv
    obtain ⟨x22, I6⟩ := v
    obtain ⟨g1, g2, g3⟩ := hv
    obtain ⟨w, hw⟩ : ∃ w, 101 - n = w + 1 := ⟨101 - n - 1, by omega⟩
    replace g1 : x22 = nI (101 - n) - 1 := g1
    replace g2 : oW I I6 := g2
    replace g3 : wS b h A p0 l0 w0 I6 P L (101 - n) := g3
    rw [hw] at g1 g3
    rw [nI_pred] at g1
    subst g1
    have hs : inS b P L w := ⟨hp, hl.1, hl.2, by omega⟩
    have hC6 : rC b I6 4 := hC.eq (fun k hk => g2 _ (by omega))
    show ∃ v', f_X10_spread_L91 J (nI P) (nI L) (nI w) I6 = some (.inl v') ∧ _
    unfold f_X10_spread_L91
    rw [if_neg (nI_pos (by omega)), x_actAt hb hs, zb1_s]
    have e : nI w + -1 = nI (101 - (n + 1)) - 1 := by
      rw [show 101 - (n + 1) = w by omega]; exact (Int32.sub_eq_add_neg _ _).symm
    by_cases c : I6 73 (plc P L w) = -1
    · rw [if_pos (show I6 (71 + 2) (plc P L w) = -1 from c), zn_e, e]
      refine ⟨_, rfl, rfl, g2, ?_⟩
      show wS b h A p0 l0 w0 I6 P L (101 - (n + 1))
      rw [show 101 - (n + 1) = w by omega]
      exact g3.skip c
    · have e37 : I6 37 = I 37 := g2 37 (by omega)
      obtain ⟨I7, s1, s2⟩ := x_step (J := J) hb hh hC6 (by rw [e37]; exact h5) hs (hA _ _ _ hs) (by rw [e37]; exact hch I6 g2 P L w hs)
      rw [if_neg (show ¬ I6 (71 + 2) (plc P L w) = -1 from c), s1, zb1_s, zn_e, e]
      refine ⟨_, rfl, rfl, g2.trans s2.1, ?_⟩
      show wS b h A p0 l0 w0 I7 P L (101 - (n + 1))
      rw [show 101 - (n + 1) = w by omega]
      exact g3.go hb hA h0 hs c s2
  · intro v hv
    obtain ⟨x22, I6⟩ := v
    obtain ⟨g1, g2, g3⟩ := hv
    replace g1 : x22 = nI 0 - 1 := g1
    subst g1
    exact ⟨I6, if_pos (show nI 0 - 1 < 0 by decide), g2, g3⟩
theorem x_spread81 (hb : bOk b) {h : Nat} {A : Nat → Nat → Nat → Nat} {p0 l0 w0 : Nat} {I : zI} (hh : h < b 9 2) (hC : rC b I 4) (h5 : I 37 5 = nI h) (hA : ∀ p l w, inS b p l w → canS b l w (A p l w)) (h0 : inS b p0 l0 w0) (hch : ∀ I2 : zI, oW I I2 → ∀ p l w, inS b p l w → f_X2_choose I2 J (I 37 3) (I 37 4) (nI p) (nI l) (nI w) = some (nI (A p l w))) {P : Nat} (hp : P < b 9 1) (r : wS b h A p0 l0 w0 I P (b 3 P) 101) : ∃ I2 : zI, zl (fun v : (Int32 × zI) => f_X10_spread_L81 J (nI P) v.1 v.2) zF (nI (b 3 P), I) = some I2 ∧ (oW I I2 ∧ wS b h A p0 l0 w0 I2 P 0 101) := by
  have hd3 := (hb.2.2.2.2.2.2.1 P hp).2.1
  refine zl_inv (fun n v => v.1 = nI (b 3 P - n) ∧ oW I v.2 ∧ wS b h A p0 l0 w0 v.2 P (b 3 P - n) 101) _ (b 3 P) 0 _ ⟨rfl, fun _ _ => rfl, r⟩ ?_ ?_ zF (by unfold zF; omega)
  · intro n v _ hn hv
    obtain ⟨x18, I6⟩ := v
    obtain ⟨g1, g2, g3⟩ := hv
    obtain ⟨l, hl⟩ : ∃ l, b 3 P - n = l + 1 := ⟨b 3 P - n - 1, by omega⟩
    replace g1 : x18 = nI (b 3 P - n) := g1
    replace g2 : oW I I6 := g2
    replace g3 : wS b h A p0 l0 w0 I6 P (b 3 P - n) 101 := g3
    rw [hl] at g1 g3
    subst g1
    have hC6 : rC b I6 4 := hC.eq (fun k hk => g2 _ (by omega))
    have e37 : I6 37 = I 37 := g2 37 (by omega)
    obtain ⟨I7, s1, s2, s3⟩ := x_spread91 (J := J) hb hh hC6 (by rw [e37]; exact h5) hA h0 (fun I2 z p l w hs => by rw [e37]; exact hch I2 (g2.trans z) p l w hs) hp (show 1 ≤ l + 1 ∧ l + 1 ≤ b 3 P by omega) g3
    show ∃ v', f_X10_spread_L81 J (nI P) (nI (l + 1)) I6 = some (.inl v') ∧ _
    unfold f_X10_spread_L81
    rw [if_neg (show ¬ nI (l + 1) < 1 from nI_nlt (b := 1) (by omega) (by omega)), s1, zb1_s, zn_e]
    refine ⟨_, rfl, ?_, g2.trans s2, ?_⟩
    · show nI (l + 1) + -1 = nI (b 3 P - (n + 1))
      rw [show b 3 P - (n + 1) = l by omega, ← Int32.sub_eq_add_neg, nI_pred]
    · show wS b h A p0 l0 w0 I7 P (b 3 P - (n + 1)) 101
      rw [show b 3 P - (n + 1) = l by omega]
      exact s3.to (fun p' l' w' hs' hf => by have := hs'.2.2.2; omega)
  · intro v hv
    obtain ⟨x18, I6⟩ := v
    obtain ⟨g1, g2, g3⟩ := hv
    replace g1 : x18 = nI (b 3 P - (0 + b 3 P)) := g1
    replace g3 : wS b h A p0 l0 w0 I6 P (b 3 P - (0 + b 3 P)) 101 := g3
    rw [show b 3 P - (0 + b 3 P) = 0 by omega] at g1 g3
    subst g1
    exact ⟨I6, if_pos (show nI 0 < 1 by decide), g2, g3⟩
theorem x_spread58 (hb : bOk b) {h : Nat} {A : Nat → Nat → Nat → Nat} {p0 l0 w0 : Nat} {I : zI} (hh : h < b 9 2) (hC : rC b I 4) (h5 : I 37 5 = nI h) (hA : ∀ p l w, inS b p l w → canS b l w (A p l w)) (h0 : inS b p0 l0 w0) (hch : ∀ I2 : zI, oW I I2 → ∀ p l w, inS b p l w → f_X2_choose I2 J (I 37 3) (I 37 4) (nI p) (nI l) (nI w) = some (nI (A p l w))) (r : wS b h A p0 l0 w0 I p0 (b 3 p0) 101) : ∃ I2 : zI, zl (fun v : (Int32 × zI) => f_X10_spread_L58 J v.1 v.2) zF (nI p0, I) = some I2 ∧ (oW I I2 ∧ wS b h A p0 l0 w0 I2 (b 9 1) 0 101) := by
  have h8 := bP hb
  have hp0 := h0.1
  refine zl_inv (fun n v => v.1 = nI (p0 + n) ∧ oW I v.2 ∧ wS b h A p0 l0 w0 v.2 (p0 + n) (b 3 (p0 + n)) 101) _ (b 9 1 - p0) 0 _ ⟨rfl, fun _ _ => rfl, r⟩ ?_ ?_ zF (by unfold zF; omega)
  · intro n v _ hn hv
    obtain ⟨x12, I6⟩ := v
    obtain ⟨g1, g2, g3⟩ := hv
    replace g1 : x12 = nI (p0 + n) := g1
    replace g2 : oW I I6 := g2
    replace g3 : wS b h A p0 l0 w0 I6 (p0 + n) (b 3 (p0 + n)) 101 := g3
    subst g1
    have hp : p0 + n < b 9 1 := by omega
    have hC6 : rC b I6 4 := hC.eq (fun k hk => g2 _ (by omega))
    have e37 : I6 37 = I 37 := g2 37 (by omega)
    obtain ⟨I7, s1, s2, s3⟩ := x_spread81 (J := J) hb hh hC6 (by rw [e37]; exact h5) hA h0 (fun I2 z p l w hs => by rw [e37]; exact hch I2 (g2.trans z) p l w hs) hp g3
    show ∃ v', f_X10_spread_L58 J (nI (p0 + n)) I6 = some (.inl v') ∧ _
    unfold f_X10_spread_L58
    rw [(bk_e b I6 4 hC6).2.1, if_neg (nI_ge hp (by omega)), x_stepsOf hb hC6 hp, zb1_s, s1, zb1_s, zn_e, nI_1]
    refine ⟨_, rfl, rfl, g2.trans s2, ?_⟩
    show wS b h A p0 l0 w0 I7 (p0 + (n + 1)) (b 3 (p0 + (n + 1))) 101
    refine s3.to (fun p' l' w' hs' hf => ?_)
    have h1 := hs'.2.1
    have h2 := hs'.2.2.1
    have h3 := hs'.2.2.2
    by_cases d : p' = p0 + (n + 1)
    · rw [d] at h2; omega
    · omega
  · intro v hv
    obtain ⟨x12, I6⟩ := v
    obtain ⟨g1, g2, g3⟩ := hv
    replace g1 : x12 = nI (p0 + (0 + (b 9 1 - p0))) := g1
    replace g2 : oW I I6 := g2
    replace g3 : wS b h A p0 l0 w0 I6 (p0 + (0 + (b 9 1 - p0))) (b 3 (p0 + (0 + (b 9 1 - p0)))) 101 := g3
    rw [show p0 + (0 + (b 9 1 - p0)) = b 9 1 by omega] at g1 g3
    subst g1
    have hC6 : rC b I6 4 := hC.eq (fun k hk => g2 _ (by omega))
    refine ⟨I6, ?_, g2, g3.to (fun p' l' w' hs' hf => by have := hs'.1; omega)⟩
    show f_X10_spread_L58 J (nI (b 9 1)) I6 = _
    unfold f_X10_spread_L58
    rw [(bk_e b I6 4 hC6).2.1, if_pos (nI_le (Nat.le_refl _) (by omega))]
/-- the walk when it is spread: every state to which one comes has its act, all others none -/
def wD (b : zB) (h : Nat) (A : Nat → Nat → Nat → Nat) (p0 l0 w0 : Nat) (I : zI) : Prop := ∀ p l w, inS b p l w → (Rch b h A p0 l0 w0 p l w → I 73 (plc p l w) = nI (A p l w)) ∧ (¬ Rch b h A p0 l0 w0 p l w → I 73 (plc p l w) = -1)
theorem x_spread (hb : bOk b) {k g h : Nat} {A : Nat → Nat → Nat → Nat} {p0 l0 w0 : Nat} {I : zI} (hh : h < b 9 2) (hC : rC b I 4) (hA : ∀ p l w, inS b p l w → canS b l w (A p l w)) (h0 : inS b p0 l0 w0) (hch : ∀ I2 : zI, (∀ r, r < 71 → r ≠ 37 → I2 r = I r) → ∀ p l w, inS b p l w → f_X2_choose I2 J (nI k) (nI g) (nI p) (nI l) (nI w) = some (nI (A p l w))) : ∃ I2 : zI, f_X10_spread I J (nI k) (nI g) (nI h) (nI p0) (nI l0) (nI w0) = some I2 ∧ (∀ r, r ≠ 37 → r ≠ 71 → r ≠ 73 → I2 r = I r) ∧ (I2 37 5 = nI h ∧ I2 37 6 = nI p0 ∧ I2 37 7 = nI l0 ∧ I2 37 8 = nI w0) ∧ wD b h A p0 l0 w0 I2 := by
  unfold f_X10_spread
  simp only [zn_e, up_s]
  generalize hI6 : va_up (va_up (va_up (va_up (va_up (va_up I 37 (va_up (I 37) 3 (nI k))) 37 (va_up (va_up (I 37) 3 (nI k)) 4 (nI g))) 37 (va_up (va_up (va_up (I 37) 3 (nI k)) 4 (nI g)) 5 (nI h))) 37 (va_up (va_up (va_up (va_up (I 37) 3 (nI k)) 4 (nI g)) 5 (nI h)) 6 (nI p0))) 37 (va_up (va_up (va_up (va_up (va_up (I 37) 3 (nI k)) 4 (nI g)) 5 (nI h)) 6 (nI p0)) 7 (nI l0))) 37 (va_up (va_up (va_up (va_up (va_up (va_up (I 37) 3 (nI k)) 4 (nI g)) 5 (nI h)) 6 (nI p0)) 7 (nI l0)) 8 (nI w0)) = I6
  have o6 : ∀ r, r ≠ 37 → I6 r = I r := by
    intro r hr
    rw [← hI6]
    simp only [up_n hr]
  have e6 : I6 37 3 = nI k ∧ I6 37 4 = nI g ∧ I6 37 5 = nI h ∧ I6 37 6 = nI p0 ∧ I6 37 7 = nI l0 ∧ I6 37 8 = nI w0 := by
    rw [← hI6, up_s]
    refine ⟨?_, ?_, ?_, ?_, ?_, ?_⟩ <;> rfl
  obtain ⟨I7, a1, a2, a3, a4, a5⟩ := x_clearP (I := I6) (J := J) (o := 71)
  have o7 : ∀ r, r ≠ 37 → r ≠ 71 → r ≠ 73 → I7 r = I r := fun r h1 h2 h3 => by rw [a2 r h2 h3, o6 r h1]
  have e37 : I7 37 = I6 37 := a2 37 (by omega) (by omega)
  have o8 : oW I7 (mkI I7 (plc p0 l0 w0) 0) := mkI_o
  have hC8 : rC b (mkI I7 (plc p0 l0 w0) 0) 4 := hC.eq (fun r hr => by rw [o8 _ (by omega), o7 _ (by omega) (by omega) (by omega)])
  have e38 : (mkI I7 (plc p0 l0 w0) 0) 37 = I6 37 := by rw [o8 37 (by omega), e37]
  have w0' : wS b h A p0 l0 w0 (mkI I7 (plc p0 l0 w0) 0) p0 (b 3 p0) 101 := by
    refine ⟨by rw [mkI_s]; decide, fun p l w hs hm => ?_, fun p l w hs hm hf => ?_⟩
    · by_cases c : p = p0 ∧ l = l0 ∧ w = w0
      · rw [c.1, c.2.1, c.2.2]; exact Rch_0
      · rw [mkI_n (plc_ne hb h0 hs c), a5 _ (plc_lt hb hs)] at hm; exact absurd rfl hm
    · by_cases c : p = p0 ∧ l = l0 ∧ w = w0
      · have h1 := hs.2.2.1
        have h2 := hs.2.2.2
        rw [c.1] at h1
        omega
      · rw [mkI_n (plc_ne hb h0 hs c), a5 _ (plc_lt hb hs)] at hm; exact absurd rfl hm
  obtain ⟨I9, s1, s2, s3⟩ := x_spread58 (J := J) hb hh hC8 (by rw [e38]; exact e6.2.2.1) hA h0 (fun I2 z p l w hs => by
    rw [e38, e6.1, e6.2.1]
    exact hch I2 (fun r hr1 hr2 => by rw [z r (by omega), o8 r (by omega), o7 r hr2 (by omega) (by omega)]) p l w hs) w0'
  rw [a1, zb1_s, show (0 : Int32) = nI 0 from rfl, x_setAct hb h0 (by omega), zb1_s, show nI 0 = (0 : Int32) from rfl, s1, zb1_s]
  refine ⟨I9, rfl, fun r h1 h2 h3 => by rw [s2 r h3, o8 r h3, o7 r h1 h2 h3], ?_, fun p l w hs => ?_⟩
  · rw [s2 37 (by omega), e38]
    exact e6.2.2
  · obtain ⟨r1, r2, r3⟩ := s3
    refine ⟨fun z => ?_, fun z => ?_⟩
    · have hm : ¬ I9 73 (plc p l w) = -1 := by
        refine (z (fun p l w => inS b p l w ∧ ¬ I9 73 (plc p l w) = -1) ⟨h0, r1⟩ (fun p l w p' l' w' hs hm hc => ⟨suc_in hb hs hc, ?_⟩)).2
        exact (r3 p l w hs hm.2 (Or.inl hs.1)).2 _ _ _ hc
      exact (r3 p l w hs hm (Or.inl hs.1)).1
    · by_cases c : I9 73 (plc p l w) = -1
      · exact c
      · exact absurd (r2 p l w hs c) z
end WK
