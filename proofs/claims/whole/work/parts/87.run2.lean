/-! the reference's run, and both side by side -/
def rnT (J : zJ) (x12 x71 x72 x73 x74 x75 x76 : Int32) (I77 : zI) : Option ((Int32 × Int32 × Int32 × Int32 × zI) ⊕ zI) := zb2 ((if x75 = 0 then some ((x72, I77)) else zg (¬ ((0 : Int32) < 0 ∨ 4 ≤ (0 : Int32).toNatClampNeg)) (zg (¬ ((0 : Int32) < 0 ∨ 10 ≤ (0 : Int32).toNatClampNeg)) (zg (¬ ((0 : Int32) < 0 ∨ 4 ≤ (0 : Int32).toNatClampNeg)) (zn (va_up I77 24 (upd (I77 24) (0 : Int32).toNatClampNeg ((I77 24 (0 : Int32).toNatClampNeg) + (100 * (I77 11 (0 : Int32).toNatClampNeg))))) (fun I83 => zg (¬ ((1 : Int32) < 0 ∨ 4 ≤ (1 : Int32).toNatClampNeg)) (zg (¬ ((1 : Int32) < 0 ∨ 4 ≤ (1 : Int32).toNatClampNeg)) (zn (va_up I83 24 (upd (I83 24) (1 : Int32).toNatClampNeg ((I83 24 (1 : Int32).toNatClampNeg) + 1))) (fun I86 => some ((0, I86)))))))))) : Option (Int32 × zI)) (fun x88 I89 => (if x74 = 0 then some (.inl (x12, x71, x88, x73, I89)) else zg (¬ ((2 : Int32) < 0 ∨ 4 ≤ (2 : Int32).toNatClampNeg)) (zg (¬ ((2 : Int32) < 0 ∨ 4 ≤ (2 : Int32).toNatClampNeg)) (zn (va_up I89 24 (upd (I89 24) (2 : Int32).toNatClampNeg ((I89 24 (2 : Int32).toNatClampNeg) + (1 - x76)))) (fun I92 => zg (¬ ((3 : Int32) < 0 ∨ 4 ≤ (3 : Int32).toNatClampNeg)) (zg (¬ ((3 : Int32) < 0 ∨ 4 ≤ (3 : Int32).toNatClampNeg)) (zn (va_up I92 24 (upd (I92 24) (3 : Int32).toNatClampNeg ((I92 24 (3 : Int32).toNatClampNeg) + x76))) (fun I95 => zn (x12 + 1) (fun y97 => zg (¬ ((0 : Int32) < 0 ∨ 2 ≤ (0 : Int32).toNatClampNeg)) ((if (I95 5 (0 : Int32).toNatClampNeg) ≤ y97 then some (.inl (y97, 0, x88, x73, I95)) else zb1 (f_X12_steps I95 J y97) (fun x100 => some (.inl (y97, x100, x88, x73, I95))))))))))))))
def rnF (J : zJ) (p1 p2 x12 x13 x14 x15 y22 x26 x30 x34 : Int32) (I16 : zI) : Option (Int32 × Int32 × Int32 × Int32 × Int32 × Int32 × zI) := ((if 48 ≤ y22 then some ((x13, x14, x15, x26, x30, x34, I16)) else zn (((y22 - y22 / 8 * 8) + 1)) (fun y38 => zb1 (f_X12_wears I16 J x12 (y22 / 8) y38 p1) (fun x39 => zn ((x14 + x39)) (fun y41 => zb1 ((if 100 < y41 then some (1) else zb1 (f_X12_draw I16 J p2 x15) (fun x45 => zb1 (f_X12_breaksAt I16 J x14) (fun x47 => (if x47 ≤ x45 then some (0) else some (1))))) : Option Int32) (fun x50 => zn (x15 + 1) (fun y51 => zg (¬ ((0 : Int32) < 0 ∨ 4 ≤ (0 : Int32).toNatClampNeg)) (zb1 (f_X12_minutes I16 J x12 (y22 / 8)) (fun x53 => zg (¬ ((0 : Int32) < 0 ∨ 4 ≤ (0 : Int32).toNatClampNeg)) (zn (va_up I16 24 (upd (I16 24) (0 : Int32).toNatClampNeg ((I16 24 (0 : Int32).toNatClampNeg) + x53))) (fun I55 => zb1 ((if x50 = 0 then (if y38 = x13 then some (1) else some (0)) else some (1)) : Option Int32) (fun x61 => zb1 ((if x50 = 0 then (if y38 = x13 then zg (¬ (((4 * x12) + 2) < 0 ∨ 64 ≤ ((4 * x12) + 2).toNatClampNeg)) ((if x14 ≤ (I55 6 ((4 * x12) + 2).toNatClampNeg) then some (0) else some (1))) else some (0)) else some (1)) : Option Int32) (fun x68 => zn ((x13 - y38)) (fun y69 => (if x50 = 0 then some ((y69, y41, y51, x61, x50, x68, I55)) else some ((y69, 0, y51, x61, x50, x68, I55)))))))))))))))) : Option (Int32 × Int32 × Int32 × Int32 × Int32 × Int32 × zI))
theorem runs_e (J : zJ) (p1 p2 x12 x13 x14 x15 : Int32) (I16 : zI) : f_X12_runs_L35 J p1 p2 x12 x13 x14 x15 I16 = zg (¬ ((0 : Int32) < 0 ∨ 2 ≤ (0 : Int32).toNatClampNeg)) ((if (I16 5 (0 : Int32).toNatClampNeg) ≤ x12 then some (.inr I16) else zb1 (f_X12_cell I16 J x12 x13 x14) (fun x19 => zg (¬ (x19 < 0 ∨ 7272 ≤ x19.toNatClampNeg)) (zn ((I16 15 x19.toNatClampNeg)) (fun y22 => zb1 ((if y22 = 49 then some (1) else some (0)) : Option Int32) (fun x26 => zb1 ((if y22 = 48 then some (1) else some (0)) : Option Int32) (fun x30 => zb1 ((if x26 = 0 then some (0) else some (1)) : Option Int32) (fun x34 => zb7 (rnF J p1 p2 x12 x13 x14 x15 y22 x26 x30 x34 I16) (rnT J x12))))))))) := rfl
theorem zb7_s {α β δ ε ζ η θ γ : Type} {a : α} {b : β} {c : δ} {d : ε} {e : ζ} {g : η} {k : θ} {f : α → β → δ → ε → ζ → η → θ → Option γ} : zb7 (some (a, b, c, d, e, g, k)) f = f a b c d e g k := rfl
abbrev oY (I I2 : zI) : Prop := ∀ k, k ≠ 24 → I2 k = I k
section RM
variable {b : zB} {J : zJ}
theorem rnT_e (hb : bOk b) {I : zI} (hM : rM b I) {p m ch dn sp : Nat} (hp : p < b 9 1) (h0 : I 24 0 = nI m) (h1 : I 24 1 = nI ch) (h2 : I 24 2 = nI dn) (h3 : I 24 3 = nI sp) (x71 x72 x73 : Int32) (o c s : Prop) [Decidable o] [Decidable c] [Decidable s] (hso : s → o) : ∃ (xl : Int32) (I2 : zI), rnT J (nI p) x71 x72 x73 (zi o) (zi c) (zi s) I = some (.inl (nI (if o then p + 1 else p), xl, (if c then 0 else x72), x73, I2)) ∧ (o → p + 1 < b 9 1 → xl = nI (b 3 (p + 1))) ∧ (¬ o → xl = x71) ∧ oY I I2 ∧ I2 24 0 = nI (m + if c then 100 * b 9 3 else 0) ∧ I2 24 1 = nI (ch + if c then 1 else 0) ∧ I2 24 2 = nI (dn + if o ∧ ¬ s then 1 else 0) ∧ I2 24 3 = nI (sp + if s then 1 else 0) := by
  have h8 := bP hb
  unfold rnT
  simp only [zg_t (show ¬ ((0 : Int32) < 0 ∨ 4 ≤ (0 : Int32).toNatClampNeg) by decide), zg_t (show ¬ ((0 : Int32) < 0 ∨ 10 ≤ (0 : Int32).toNatClampNeg) by decide), zg_t (show ¬ ((1 : Int32) < 0 ∨ 4 ≤ (1 : Int32).toNatClampNeg) by decide), zg_t (show ¬ ((2 : Int32) < 0 ∨ 4 ≤ (2 : Int32).toNatClampNeg) by decide), zg_t (show ¬ ((3 : Int32) < 0 ∨ 4 ≤ (3 : Int32).toNatClampNeg) by decide), zg_t (show ¬ ((0 : Int32) < 0 ∨ 2 ≤ (0 : Int32).toNatClampNeg) by decide), zn_e]
  simp only [sp_0, sp_1, show (2 : Int32).toNatClampNeg = 2 from rfl, show (3 : Int32).toNatClampNeg = 3 from rfl]
  -- the change
  have hch : ∃ I2 : zI, (if zi c = 0 then some (x72, I) else some ((0 : Int32), va_up (va_up I 24 (upd (I 24) 0 (I 24 0 + 100 * I 11 0))) 24 (upd (va_up I 24 (upd (I 24) 0 (I 24 0 + 100 * I 11 0)) 24) 1 (va_up I 24 (upd (I 24) 0 (I 24 0 + 100 * I 11 0)) 24 1 + 1)))) = some ((if c then 0 else x72), I2) ∧ oY I I2 ∧ I2 24 0 = nI (m + if c then 100 * b 9 3 else 0) ∧ I2 24 1 = nI (ch + if c then 1 else 0) ∧ I2 24 2 = nI dn ∧ I2 24 3 = nI sp := by
    rw [zif]
    by_cases d : c
    · rw [if_pos d, if_pos d, if_pos d, if_pos d]
      have e11 : I 11 0 = nI (b 9 3) := hM.2.1 0 (by omega)
      refine ⟨_, rfl, fun k hk => by rw [up_n hk, up_n hk], ?_, ?_, ?_, ?_⟩
      · rw [up_s, ud_n (by omega), up_s, ud_s, h0, e11, show (100 : Int32) = nI 100 from rfl, nI_mul, nI_add]
      · rw [up_s, ud_s, up_s, ud_n (by omega), h1, nI_1]
      · rw [up_s, ud_n (by omega), up_s, ud_n (by omega), h2]
      · rw [up_s, ud_n (by omega), up_s, ud_n (by omega), h3]
    · rw [if_neg d, if_neg d, if_neg d, if_neg d]
      exact ⟨I, rfl, fun _ _ => rfl, h0, h1, h2, h3⟩
  obtain ⟨I2, e1, e2, e3, e4, e5, e6⟩ := hch
  rw [e1, zb2_s, zif]
  by_cases d : o
  case neg =>
    have no1 : ¬ (o ∧ ¬ s) := fun z => d z.1
    have no2 : ¬ s := fun z => d (hso z)
    rw [if_neg d, if_neg d, if_neg no1, if_neg no2]
    exact ⟨x71, I2, rfl, fun z => absurd z d, fun _ => rfl, e2, e3, e4, e5, e6⟩
  rw [if_pos d, if_pos d]
  generalize hI92 : va_up I2 24 (upd (I2 24) 2 (I2 24 2 + (1 - zi s))) = I92
  generalize hI95 : va_up I92 24 (upd (I92 24) 3 (I92 24 3 + zi s)) = I95
  have o95 : oY I I95 := fun k hk => by rw [← hI95, up_n hk, ← hI92, up_n hk, e2 k hk]
  have c0 : I95 24 0 = I2 24 0 := by rw [← hI95, up_s, ud_n (by omega), ← hI92, up_s, ud_n (by omega)]
  have c1 : I95 24 1 = I2 24 1 := by rw [← hI95, up_s, ud_n (by omega), ← hI92, up_s, ud_n (by omega)]
  have c2 : I95 24 2 = I2 24 2 + (1 - zi s) := by rw [← hI95, up_s, ud_n (by omega), ← hI92, up_s, ud_s]
  have c3 : I95 24 3 = I2 24 3 + zi s := by
    have e : I92 24 3 = I2 24 3 := by rw [← hI92, up_s, ud_n (by omega)]
    rw [← hI95, up_s, ud_s, e]
  have hM95 : rM b I95 := hM.eq (fun k _ _ => o95 k (by omega))
  have d2 : I95 24 2 = nI (dn + if o ∧ ¬ s then 1 else 0) := by
    rw [c2, e5]
    by_cases f : s
    · rw [zi, if_pos f, if_neg (fun z => z.2 f), show (1 : Int32) - 1 = nI 0 from rfl, nI_add]
    · rw [zi, if_neg f, if_pos ⟨d, f⟩, show (1 : Int32) - 0 = nI 1 from rfl, nI_add]
  have d3 : I95 24 3 = nI (sp + if s then 1 else 0) := by
    rw [c3, e6]
    by_cases f : s
    · rw [zi, if_pos f, if_pos f, show (1 : Int32) = nI 1 from rfl, nI_add]
    · rw [zi, if_neg f, if_neg f, show (0 : Int32) = nI 0 from rfl, nI_add]
  rw [nI_1, hM95.1.2.1]
  by_cases g : p + 1 < b 9 1
  · rw [if_neg (nI_ge g (by omega)), m_steps hb hM95 g, zb1_s]
    exact ⟨_, I95, rfl, fun _ _ => rfl, fun z => absurd d z, o95, by rw [c0]; exact e3, by rw [c1]; exact e4, d2, d3⟩
  · rw [if_pos (nI_le (by omega) (by omega))]
    exact ⟨_, I95, rfl, fun _ z => absurd z g, fun z => absurd d z, o95, by rw [c0]; exact e3, by rw [c1]; exact e4, d2, d3⟩
theorem m_runStep (hb : bOk b) {I : zI} (hM : rM b I) {h z a : Nat} {v : zT} (hh : h < b 9 2) (hz : z ≤ 9999) (r : mR I v) (hs : inS b v.1 v.2.1 v.2.2.1) (ha : canS b v.2.1 v.2.2.1 a) (hI : I 15 (clM v.1 v.2.1 v.2.2.1) = nI a) (ht : v.2.2.2.1 ≤ 1000) : ∃ (xl : Int32) (I2 : zI), f_X12_runs_L35 J (nI h) (nI z) (nI v.1) (nI v.2.1) (nI v.2.2.1) (nI v.2.2.2.1) I = some (.inl (nI (stp b h z a v).1, xl, nI (stp b h z a v).2.2.1, nI (stp b h z a v).2.2.2.1, I2)) ∧ ((stp b h z a v).1 < b 9 1 → xl = nI (stp b h z a v).2.1) ∧ oY I I2 ∧ mR I2 (stp b h z a v) := by
  obtain ⟨p, l, w, t, m, d, s, c⟩ := v
  obtain ⟨r1, r2, r3, r4⟩ := r
  have hs0 := hs
  obtain ⟨k1, k2, k3, k4⟩ := hs
  dsimp only at r1 r2 r3 r4 k1 k2 k3 k4 ht hI ha hs0 ⊢
  have h8 := bP hb
  have hd3 := (hb.2.2.2.2.2.2.1 p k1).2.1
  have hf := (hb.2.2.2.2.2.2.1 p k1).2.2.1
  have hlt := clM_lt hb hs0
  have ha50 := canS_lt ha
  rw [runs_e, zg_t (by decide), sp_0, hM.1.2.1, if_neg (nI_ge k1 (by omega)), m_cell, zb1_s, zg_t (nI_in hlt (by omega)), nI_clamp (by omega), hI, zn_e]
  have e26 : (if nI a = 49 then some (1 : Int32) else some 0) = some (zi (a = 49)) := by
    by_cases q : a = 49
    · rw [if_pos (by rw [q]; rfl), zi, if_pos q]
    · rw [if_neg (show ¬ nI a = 49 from nI_eqF (c := 49) q (by omega) (by omega)), zi, if_neg q]
  have e30 : (if nI a = 48 then some (1 : Int32) else some 0) = some (zi (a = 48)) := by
    by_cases q : a = 48
    · rw [if_pos (by rw [q]; rfl), zi, if_pos q]
    · rw [if_neg (show ¬ nI a = 48 from nI_eqF (c := 48) q (by omega) (by omega)), zi, if_neg q]
  have e34 : (if zi (a = 49) = 0 then some (0 : Int32) else some 1) = some (zi (a = 49)) := by
    rw [zif]
    by_cases q : a = 49
    · rw [if_pos q, zi, if_pos q]
    · rw [if_neg q, zi, if_neg q]
  rw [e26, zb1_s, e30, zb1_s, e34, zb1_s]
  by_cases q48 : 48 ≤ a
  · have eF : rnF J (nI h) (nI z) (nI p) (nI l) (nI w) (nI t) (nI a) (zi (a = 49)) (zi (a = 48)) (zi (a = 49)) I = some (nI l, nI w, nI t, zi (a = 49), zi (a = 48), zi (a = 49), I) := by
      unfold rnF
      rw [if_pos (show (48 : Int32) ≤ nI a from nI_le (a := 48) q48 (by omega))]
    rw [eF, zb7_s]
    obtain ⟨xl, I2, f1, f2, f3, f4, f5, f6, f7, f8⟩ := rnT_e (J := J) hb hM k1 r1 r2 r3 r4 (nI l) (nI w) (nI t) (a = 49) (a = 48) (a = 49) id
    rw [f1]
    have q := ha
    rcases q with q | q | q
    · subst q
      rw [if_pos rfl, if_neg (by omega)]
      rw [if_neg (by omega)] at f5 f6
      rw [if_neg (by omega)] at f7
      rw [if_pos rfl] at f8
      exact ⟨xl, I2, rfl, fun z => f2 rfl z, f4, f5, f6, f7, f8⟩
    · obtain ⟨q, qw⟩ := q
      subst q
      rw [if_neg (by omega), if_pos rfl]
      rw [if_pos rfl] at f5 f6
      rw [if_neg (by omega)] at f7 f8
      refine ⟨xl, I2, rfl, fun _ => f3 (by omega), f4, f5, f6, f7, f8⟩
    · omega
  · have q : a < 48 ∧ a / 8 < b 9 0 ∧ a % 8 < l ∧ mayb b (a / 8) (a % 8 + 1) := by
      rcases ha with q | q | q
      · omega
      · omega
      · exact q
    obtain ⟨q1, q2, q3, q4⟩ := q
    have hw8 := wrs_b hb k1 q2 hh (show a % 8 + 1 ≤ 8 by omega)
    have hr0 := rsk_le hb (p := p) (i := a / 8) (d := a % 8 + 1) (h := h) k4
    have hdl := drw_lt z t
    have hbk := hb.2.2.2.2.2.2.2.2 w k4
    generalize hI55 : va_up I 24 (upd (I 24) 0 (nI (m + mins b p (a / 8)))) = I55
    have o55 : oY I I55 := fun k hk => by rw [← hI55, up_n hk]
    have hM55 : rM b I55 := hM.eq (fun k _ _ => o55 k (by omega))
    have eF : rnF J (nI h) (nI z) (nI p) (nI l) (nI w) (nI t) (nI a) (zi (a = 49)) (zi (a = 48)) (zi (a = 49)) I = some (nI l - nI (a % 8 + 1), (if drw z t < rsk b p w (a / 8) (a % 8 + 1) h then 0 else nI (w + wrs b p (a / 8) (a % 8 + 1) h)), nI (t + 1), zi (drw z t < rsk b p w (a / 8) (a % 8 + 1) h ∨ a % 8 + 1 = l), zi (drw z t < rsk b p w (a / 8) (a % 8 + 1) h), zi (drw z t < rsk b p w (a / 8) (a % 8 + 1) h ∨ (a % 8 + 1 = l ∧ b 4 p < w)), I55) := by
      unfold rnF
      rw [if_neg (show ¬ (48 : Int32) ≤ nI a from nI_ge (b := 48) (by omega) (by omega)), show (nI a - nI a / 8 * 8) + 1 = nI (a % 8 + 1) from by rw [show (8 : Int32) = nI 8 from rfl, nI_mod (by omega) (by omega), nI_1], show nI a / 8 = nI (a / 8) from nI_div (b := 8) (by omega) (by omega), zn_e, m_wears hb hM k1 q2 hh (by omega), zb1_s, nI_add, zn_e, m_drw hz ht, m_breaksAt hM k4, zb1_s, zb1_s]
      have e50 : (if 100 < nI (w + wrs b p (a / 8) (a % 8 + 1) h) then some (1 : Int32) else if nI (b 8 w) ≤ nI (drw z t) then some 0 else some 1) = some (zi (drw z t < rsk b p w (a / 8) (a % 8 + 1) h)) := by
        unfold rsk
        by_cases y : 100 < w + wrs b p (a / 8) (a % 8 + 1) h
        · rw [if_pos (show (100 : Int32) < nI (w + wrs b p (a / 8) (a % 8 + 1) h) from nI_ltT (a := 100) y (by omega)), if_pos y, zi, if_pos (by omega)]
        · rw [if_neg (show ¬ (100 : Int32) < nI (w + wrs b p (a / 8) (a % 8 + 1) h) from nI_ltF (a := 100) (by omega) (by omega)), if_neg y]
          by_cases x : drw z t < b 8 w
          · rw [if_neg (nI_ge x (by omega)), zi, if_pos x]
          · rw [if_pos (nI_le (by omega) (by omega)), zi, if_neg x]
      rw [e50, zb1_s, nI_1, zn_e, zg_t (by decide), m_minutes hb hM k1 q2, zb1_s, zg_t (by decide), sp_0, r1, nI_add, hI55, zn_e]
      simp only [zif]
      have e61 : (if drw z t < rsk b p w (a / 8) (a % 8 + 1) h then some (1 : Int32) else if nI (a % 8 + 1) = nI l then some 1 else some 0) = some (zi (drw z t < rsk b p w (a / 8) (a % 8 + 1) h ∨ a % 8 + 1 = l)) := by
        by_cases x : drw z t < rsk b p w (a / 8) (a % 8 + 1) h
        · rw [if_pos x, zi, if_pos (Or.inl x)]
        · rw [if_neg x]
          by_cases y : a % 8 + 1 = l
          · rw [if_pos (by rw [y]), zi, if_pos (Or.inr y)]
          · rw [if_neg (nI_eqF y (by omega) (by omega)), zi, if_neg (by omega)]
      have e68 : (if drw z t < rsk b p w (a / 8) (a % 8 + 1) h then some (1 : Int32) else if nI (a % 8 + 1) = nI l then zg (¬ (((4 * nI p) + 2) < 0 ∨ 64 ≤ ((4 * nI p) + 2).toNatClampNeg)) ((if nI w ≤ (I55 6 ((4 * nI p) + 2).toNatClampNeg) then some (0) else some (1))) else some 0) = some (zi (drw z t < rsk b p w (a / 8) (a % 8 + 1) h ∨ (a % 8 + 1 = l ∧ b 4 p < w))) := by
        by_cases x : drw z t < rsk b p w (a / 8) (a % 8 + 1) h
        · rw [if_pos x, zi, if_pos (Or.inl x)]
        · rw [if_neg x]
          by_cases y : a % 8 + 1 = l
          · rw [if_pos (by rw [y]), show (2 : Int32) = nI 2 from rfl, m_4i, nI_add, zg_t (nI_in (by omega) (by omega)), nI_clamp (by omega), (hM55.2.2.2.1 p k1).2.2.1]
            by_cases x2 : b 4 p < w
            · rw [if_neg (nI_ge x2 (by omega)), zi, if_pos (Or.inr ⟨y, x2⟩)]
            · rw [if_pos (nI_le (by omega) (by omega)), zi, if_neg (by omega)]
          · rw [if_neg (nI_eqF y (by omega) (by omega)), zi, if_neg (by omega)]
      rw [e61, zb1_s, e68, zb1_s, zn_e]
      by_cases x : drw z t < rsk b p w (a / 8) (a % 8 + 1) h
      · simp only [if_pos x]
      · simp only [if_neg x]
    rw [eF, zb7_s]
    obtain ⟨xl, I2, f1, f2, f3, f4, f5, f6, f7, f8⟩ := rnT_e (J := J) (m := m + mins b p (a / 8)) (ch := c) (dn := d) (sp := s) hb hM55 k1 (by rw [← hI55, up_s, ud_s]) (by rw [← hI55, up_s, ud_n (by omega)]; exact r2) (by rw [← hI55, up_s, ud_n (by omega)]; exact r3) (by rw [← hI55, up_s, ud_n (by omega)]; exact r4) (nI l - nI (a % 8 + 1)) (if drw z t < rsk b p w (a / 8) (a % 8 + 1) h then 0 else nI (w + wrs b p (a / 8) (a % 8 + 1) h)) (nI (t + 1)) (drw z t < rsk b p w (a / 8) (a % 8 + 1) h ∨ a % 8 + 1 = l) (drw z t < rsk b p w (a / 8) (a % 8 + 1) h) (drw z t < rsk b p w (a / 8) (a % 8 + 1) h ∨ (a % 8 + 1 = l ∧ b 4 p < w)) (fun y => by rcases y with y | y; exact Or.inl y; exact Or.inr y.1)
    rw [f1]
    have f4 : oY I I2 := fun k hk => by rw [f4 k hk, o55 k hk]
    by_cases x : drw z t < rsk b p w (a / 8) (a % 8 + 1) h
    · have e : stp b h z a (p, l, w, t, m, d, s, c) = (p + 1, b 3 (p + 1), 0, t + 1, m + mins b p (a / 8) + 100 * b 9 3, d, s + 1, c + 1) := by
        unfold stp; rw [if_neg (by omega), if_neg (by omega), if_pos x]
      rw [e, if_pos (Or.inl x), if_pos x]
      rw [if_pos x] at f5 f6
      rw [if_neg (fun y => y.2 (Or.inl x))] at f7
      rw [if_pos (Or.inl x)] at f8
      exact ⟨xl, I2, rfl, fun y => f2 (Or.inl x) y, f4, f5, f6, f7, f8⟩
    · rw [if_neg x] at f5 f6
      rw [if_neg x, if_neg x]
      by_cases y : a % 8 + 1 = l
      · by_cases x2 : b 4 p < w
        · have e : stp b h z a (p, l, w, t, m, d, s, c) = (p + 1, b 3 (p + 1), w + wrs b p (a / 8) (a % 8 + 1) h, t + 1, m + mins b p (a / 8), d, s + 1, c) := by
            unfold stp; rw [if_neg (by omega), if_neg (by omega), if_neg x, if_pos y, if_pos x2]
          rw [e, if_pos (Or.inr y)]
          rw [if_neg (fun u => u.2 (Or.inr ⟨y, x2⟩))] at f7
          rw [if_pos (Or.inr ⟨y, x2⟩)] at f8
          exact ⟨xl, I2, rfl, fun u => f2 (Or.inr y) u, f4, f5, f6, f7, f8⟩
        · have e : stp b h z a (p, l, w, t, m, d, s, c) = (p + 1, b 3 (p + 1), w + wrs b p (a / 8) (a % 8 + 1) h, t + 1, m + mins b p (a / 8), d + 1, s, c) := by
            unfold stp; rw [if_neg (by omega), if_neg (by omega), if_neg x, if_pos y, if_neg x2]
          rw [e, if_pos (Or.inr y)]
          rw [if_pos ⟨Or.inr y, by omega⟩] at f7
          rw [if_neg (by omega)] at f8
          exact ⟨xl, I2, rfl, fun u => f2 (Or.inr y) u, f4, f5, f6, f7, f8⟩
      · have e : stp b h z a (p, l, w, t, m, d, s, c) = (p, l - (a % 8 + 1), w + wrs b p (a / 8) (a % 8 + 1) h, t + 1, m + mins b p (a / 8), d, s, c) := by
          unfold stp; rw [if_neg (by omega), if_neg (by omega), if_neg x, if_neg y]
        have no : ¬ (drw z t < rsk b p w (a / 8) (a % 8 + 1) h ∨ a % 8 + 1 = l) := by omega
        rw [e, if_neg no]
        rw [if_neg (fun u => no u.1)] at f7
        rw [if_neg (by omega)] at f8
        refine ⟨xl, I2, rfl, fun _ => ?_, f4, f5, f6, f7, f8⟩
        rw [f3 no]
        exact nI_sub (by omega)
theorem x_runStep (hb : bOk b) {I : zI} (hC : rC b I 4) {k g h z a n : Nat} {v : zT} (hh : h < b 9 2) (hz : z ≤ 9999) (r : cR b I v) (hs : inS b v.1 v.2.1 v.2.2.1) (ha : canS b v.2.1 v.2.2.1 a) (hch : f_X2_choose I J (nI k) (nI h) (nI v.1) (nI v.2.1) (nI v.2.2.1) = some (nI a)) (ht : v.2.2.2.1 ≤ 1000) (hn : n < 1000) : ∃ I2 : zI, f_X9_go_L7 J (nI k) (nI h) (nI z) (nI n) I = some (.inl (nI (n + 1), I2)) ∧ oT I I2 ∧ cR b I2 (stp b h z a v) := by
  have ha50 := canS_lt ha
  have k1 := hs.1
  have h8 := bP hb
  obtain ⟨⟨r1, r2, r3⟩, r4, r5, r6, r7, r8⟩ := id r
  have r2 := r2 k1
  unfold f_X9_go_L7
  rw [if_neg (show ¬ (1000 : Int32) ≤ nI n from nI_ge (b := 1000) hn (by omega)), r1, x_hasPiece hb hC, zb1_s, zif, nI_toInt (by omega), if_pos (by omega), r2, r3, hch, zb1_s, nI_1]
  rcases ha with q | q | q
  · subst q
    obtain ⟨I2, u1, u2, u3, u4, u5, u6⟩ := x_spoil (J := J) hb hC k1 r1 r7
    have e : stp b h z 49 v = (v.1 + 1, b 3 (v.1 + 1), v.2.2.1, v.2.2.2.1, v.2.2.2.2.1, v.2.2.2.2.2.1, v.2.2.2.2.2.2.1 + 1, v.2.2.2.2.2.2.2) := by
      unfold stp; rw [if_neg (by omega), if_pos rfl]
    rw [if_neg (show ¬ nI 49 = 48 by decide), if_pos (show nI 49 = 49 from rfl), u1, zb1_s, zn_e, e]
    refine ⟨I2, rfl, u2, ⟨u3, u4, ?_⟩, ?_, ?_, ?_, u5, ?_⟩
    · rw [u6 4 (by omega) (by omega) (by omega)]; exact r3
    · rw [u6 5 (by omega) (by omega) (by omega)]; exact r4
    · rw [u6 6 (by omega) (by omega) (by omega)]; exact r5
    · rw [u6 7 (by omega) (by omega) (by omega)]; exact r6
    · rw [u6 9 (by omega) (by omega) (by omega)]; exact r8
  · obtain ⟨q, qw⟩ := q
    subst q
    obtain ⟨I2, s1, s2, s3, s4, s5, s6⟩ := x_change (J := J) hb hC r8 r5
    have e : stp b h z 48 v = (v.1, v.2.1, 0, v.2.2.2.1, v.2.2.2.2.1 + 100 * b 9 3, v.2.2.2.2.2.1, v.2.2.2.2.2.2.1, v.2.2.2.2.2.2.2 + 1) := by
      unfold stp; rw [if_pos rfl]
    rw [if_pos (show nI 48 = 48 from rfl), s1, zb1_s, zn_e, e]
    refine ⟨I2, rfl, s2, ⟨?_, fun _ => ?_, s3⟩, ?_, s5, ?_, ?_, s4⟩
    · rw [s6 2 (by omega) (by omega) (by omega)]; exact r1
    · rw [s6 3 (by omega) (by omega) (by omega)]; exact r2
    · rw [s6 5 (by omega) (by omega) (by omega)]; exact r4
    · rw [s6 7 (by omega) (by omega) (by omega)]; exact r6
    · rw [s6 8 (by omega) (by omega) (by omega)]; exact r7
  · obtain ⟨q1, q2, q3, q4⟩ := q
    obtain ⟨I2, u1, u2, u3⟩ := x_cut (J := J) hb hC hh hz r hs q1 q2 q3 ht
    rw [if_neg (show ¬ nI a = 48 from nI_eqF (c := 48) (by omega) (by omega) (by omega)), if_neg (show ¬ nI a = 49 from nI_eqF (c := 49) (by omega) (by omega) (by omega)), u1, zb1_s, zn_e]
    exact ⟨I2, rfl, u2, u3⟩
/-- a step goes on along the way -/
theorem stp_in (hb : bOk b) {h z a : Nat} {v : zT} (hs : inS b v.1 v.2.1 v.2.2.1) (ha : canS b v.2.1 v.2.2.1 a) : ((stp b h z a v).1 < b 9 1 → inS b (stp b h z a v).1 (stp b h z a v).2.1 (stp b h z a v).2.2.1 ∧ rk b (stp b h z a v).1 (stp b h z a v).2.1 (stp b h z a v).2.2.1 < rk b v.1 v.2.1 v.2.2.1) ∧ (stp b h z a v).1 ≤ b 9 1 ∧ (stp b h z a v).2.2.2.1 ≤ v.2.2.2.1 + 1 ∧ (stp b h z a v).2.2.2.2.1 ≤ v.2.2.2.2.1 + 20000 ∧ (stp b h z a v).2.2.2.2.2.2.2 ≤ v.2.2.2.2.2.2.2 + 1 ∧ (stp b h z a v).2.2.2.2.2.1 ≤ v.2.2.2.2.2.1 + 1 ∧ (stp b h z a v).2.2.2.2.2.2.1 ≤ v.2.2.2.2.2.2.1 + 1 := by
  obtain ⟨p, l, w, t, m, d, s, c⟩ := v
  obtain ⟨k1, k2, k3, k4⟩ := hs
  dsimp only at k1 k2 k3 k4 ha ⊢
  have hcm := hb.2.2.2.1.1
  have hd3 := (hb.2.2.2.2.2.2.1 p k1).2.1
  have nx : ∀ x, x ≤ 100 → p + 1 < b 9 1 → inS b (p + 1) (b 3 (p + 1)) x ∧ rk b (p + 1) (b 3 (p + 1)) x < rk b p l w := by
    intro x hx hp
    have hd2 := (hb.2.2.2.2.2.2.1 (p + 1) hp).2.1
    refine ⟨aft_in hb hp hx, ?_⟩
    unfold rk; split <;> split <;> omega
  unfold stp
  dsimp only
  rcases ha with q | q | q
  · rw [if_neg (by omega), if_pos q]
    exact ⟨fun y => nx w k4 y, by show p + 1 ≤ _; omega, by show t ≤ _; omega, by show m ≤ _; omega, by show c ≤ _; omega, by show d ≤ _; omega, by show s + 1 ≤ _; omega⟩
  · rw [if_pos q.1]
    refine ⟨fun y => ⟨⟨k1, k2, k3, by show 0 ≤ 100; omega⟩, ?_⟩, by show p ≤ _; omega, by show t ≤ _; omega, by show m + 100 * b 9 3 ≤ _; omega, by show c + 1 ≤ _; omega, by show d ≤ _; omega, by show s ≤ _; omega⟩
    show rk b p l 0 < rk b p l w
    unfold rk; rw [if_pos rfl, if_neg (by omega)]; omega
  · obtain ⟨q1, q2, q3, q4⟩ := q
    have hmm := (mins_le hb k1 q2).2
    have hr0 := rsk_le hb (p := p) (i := a / 8) (d := a % 8 + 1) (h := h) k4
    have hdl := drw_lt z t
    rw [if_neg (by omega), if_neg (by omega)]
    by_cases x : drw z t < rsk b p w (a / 8) (a % 8 + 1) h
    · rw [if_pos x]
      exact ⟨fun y => nx 0 (by omega) y, by show p + 1 ≤ _; omega, by show t + 1 ≤ _; omega, by show m + mins b p (a / 8) + 100 * b 9 3 ≤ _; omega, by show c + 1 ≤ _; omega, by show d ≤ _; omega, by show s + 1 ≤ _; omega⟩
    · rw [if_neg x]
      have hww : w + wrs b p (a / 8) (a % 8 + 1) h ≤ 100 := by
        by_cases y : 100 < w + wrs b p (a / 8) (a % 8 + 1) h
        · have : rsk b p w (a / 8) (a % 8 + 1) h = 100 := by unfold rsk; rw [if_pos y]
          omega
        · omega
      by_cases y : a % 8 + 1 = l
      · rw [if_pos y]
        by_cases x2 : b 4 p < w
        · rw [if_pos x2]
          exact ⟨fun y => nx _ hww y, by show p + 1 ≤ _; omega, by show t + 1 ≤ _; omega, by show m + mins b p (a / 8) ≤ _; omega, by show c ≤ _; omega, by show d ≤ _; omega, by show s + 1 ≤ _; omega⟩
        · rw [if_neg x2]
          exact ⟨fun y => nx _ hww y, by show p + 1 ≤ _; omega, by show t + 1 ≤ _; omega, by show m + mins b p (a / 8) ≤ _; omega, by show c ≤ _; omega, by show d + 1 ≤ _; omega, by show s ≤ _; omega⟩
      · rw [if_neg y]
        refine ⟨fun y => ⟨⟨k1, by show 1 ≤ l - (a % 8 + 1); omega, by show l - (a % 8 + 1) ≤ b 3 p; omega, hww⟩, ?_⟩, by show p ≤ _; omega, by show t + 1 ≤ _; omega, by show m + mins b p (a / 8) ≤ _; omega, by show c ≤ _; omega, by show d ≤ _; omega, by show s ≤ _; omega⟩
        show rk b p (l - (a % 8 + 1)) (w + wrs b p (a / 8) (a % 8 + 1) h) < rk b p l w
        unfold rk; split <;> split <;> omega
/-- both runs come to the same end -/
theorem run_both (hb : bOk b) {JM : zJ} {k h z : Nat} {A : Nat → Nat → Nat → Nat} {I0 M0 : zI} (hh : h < b 9 2) (hz : z ≤ 9999) (hC : rC b I0 4) (hM : rM b M0) (hA : ∀ p l w, inS b p l w → canS b l w (A p l w)) (hch : ∀ I2 : zI, oT I0 I2 → ∀ p l w, inS b p l w → f_X2_choose I2 J (nI k) (nI h) (nI p) (nI l) (nI w) = some (nI (A p l w))) (hI : ∀ p l w, inS b p l w → M0 15 (clM p l w) = nI (A p l w)) : ∀ (r n : Nat) (v : zT) (I M : zI) (xl : Int32), (v.1 < b 9 1 → inS b v.1 v.2.1 v.2.2.1 ∧ rk b v.1 v.2.1 v.2.2.1 < r) → v.1 ≤ b 9 1 → n + r ≤ 900 → v.2.2.2.1 ≤ n → v.2.2.2.2.1 ≤ 20000 * n → v.2.2.2.2.2.2.2 ≤ n → v.2.2.2.2.2.1 ≤ n → v.2.2.2.2.2.2.1 ≤ n → oT I0 I → oY M0 M → cR b I v → mR M v → (v.1 < b 9 1 → xl = nI v.2.1) → ∀ f1 f2, r < f1 → r < f2 → ∃ (I2 M2 : zI) (v2 : zT), zl (fun u : (Int32 × zI) => f_X9_go_L7 J (nI k) (nI h) (nI z) u.1 u.2) f1 (nI n, I) = some I2 ∧ zl (fun u : (Int32 × Int32 × Int32 × Int32 × zI) => f_X12_runs_L35 JM (nI h) (nI z) u.1 u.2.1 u.2.2.1 u.2.2.2.1 u.2.2.2.2) f2 (nI v.1, xl, nI v.2.2.1, nI v.2.2.2.1, M) = some M2 ∧ oT I0 I2 ∧ oY M0 M2 ∧ cR b I2 v2 ∧ mR M2 v2 ∧ v2.2.2.2.2.1 ≤ 20000 * 900 ∧ v2.2.2.2.2.2.2.2 ≤ 900 ∧ v2.2.2.2.2.2.1 ≤ 900 ∧ v2.2.2.2.2.2.2.1 ≤ 900 := by
  have h8 := bP hb
  intro r
  induction r with
  | zero =>
    intro n v I M xl h1 h2 h3 h4 h5 h6 h7 h7b h9 h10 h11 h12 h13 f1 f2 g1 g2
    have hv : ¬ v.1 < b 9 1 := fun y => by have := (h1 y).2; omega
    obtain ⟨f1, rfl⟩ : ∃ f, f1 = f + 1 := ⟨f1 - 1, by omega⟩
    obtain ⟨f2, rfl⟩ : ∃ f, f2 = f + 1 := ⟨f2 - 1, by omega⟩
    refine ⟨I, M, v, zl_r ?_, zl_r ?_, h9, h10, h11, h12, by omega, by omega, by omega, by omega⟩
    · show f_X9_go_L7 J (nI k) (nI h) (nI z) (nI n) I = _
      have hC6 : rC b I 4 := hC.eq (fun r hr => h9 _ (by omega))
      unfold f_X9_go_L7
      rw [if_neg (show ¬ (1000 : Int32) ≤ nI n from nI_ge (b := 1000) (by omega) (by omega)), h11.1.1, x_hasPiece hb hC6, zb1_s, zif, nI_toInt (by omega), if_neg (by omega)]
    · show f_X12_runs_L35 JM (nI h) (nI z) (nI v.1) xl (nI v.2.2.1) (nI v.2.2.2.1) M = _
      have hM6 : rM b M := hM.eq (fun r _ _ => h10 _ (by omega))
      rw [runs_e, zg_t (by decide), sp_0, hM6.1.2.1, if_pos (nI_le (by omega) (by omega))]
  | succ r ih =>
    intro n v I M xl h1 h2 h3 h4 h5 h6 h7 h7b h9 h10 h11 h12 h13 f1 f2 g1 g2
    obtain ⟨f1, rfl⟩ : ∃ f, f1 = f + 1 := ⟨f1 - 1, by omega⟩
    obtain ⟨f2, rfl⟩ : ∃ f, f2 = f + 1 := ⟨f2 - 1, by omega⟩
    have hC6 : rC b I 4 := hC.eq (fun r hr => h9 _ (by omega))
    have hM6 : rM b M := hM.eq (fun r _ _ => h10 _ (by omega))
    by_cases hv : v.1 < b 9 1
    case neg =>
      refine ⟨I, M, v, zl_r ?_, zl_r ?_, h9, h10, h11, h12, by omega, by omega, by omega, by omega⟩
      · show f_X9_go_L7 J (nI k) (nI h) (nI z) (nI n) I = _
        unfold f_X9_go_L7
        rw [if_neg (show ¬ (1000 : Int32) ≤ nI n from nI_ge (b := 1000) (by omega) (by omega)), h11.1.1, x_hasPiece hb hC6, zb1_s, zif, nI_toInt (by omega), if_neg (by omega)]
      · show f_X12_runs_L35 JM (nI h) (nI z) (nI v.1) xl (nI v.2.2.1) (nI v.2.2.2.1) M = _
        rw [runs_e, zg_t (by decide), sp_0, hM6.1.2.1, if_pos (nI_le (by omega) (by omega))]
    obtain ⟨hs, hr⟩ := h1 hv
    have ha := hA _ _ _ hs
    rw [h13 hv]
    obtain ⟨I2, a1, a2, a3⟩ := x_runStep (J := J) (g := 0) (n := n) hb hC6 hh hz h11 hs ha (hch I h9 _ _ _ hs) (by omega) (by omega)
    obtain ⟨yl, M2, b1, b2, b3, b4⟩ := m_runStep (J := JM) hb hM6 hh hz h12 hs ha (by rw [h10 15 (by omega)]; exact hI _ _ _ hs) (by omega)
    obtain ⟨s1, s2, s3, s4, s5, s6, s7⟩ := stp_in (h := h) (z := z) hb hs ha
    rw [zl_l a1, zl_l b1]
    exact ih (n + 1) _ I2 M2 yl (fun y => ⟨(s1 y).1, by have := (s1 y).2; omega⟩) s2 (by omega) (by omega) (by omega) (by omega) (by omega) (by omega) (fun y hy => by rw [a2 y hy, h9 y hy]) (fun y hy => by rw [b3 y hy, h10 y hy]) a3 b4 b2 f1 f2 (by omega) (by omega)
end RM
