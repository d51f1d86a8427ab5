/-! a bench while it is told: the class's at o, the reference's second -/
def dS1 (o ns : Nat) (I IM : zI) : Prop := ∀ i, i < ns → (I (o + 1) i = IM 4 (12 + 2 * i) ∧ I (o + 2) i = IM 4 (12 + 2 * i + 1)) ∧ isN (I (o + 1) i) 1 99 ∧ isN (I (o + 2) i) 0 999
def dP1 (o np : Nat) (I IM : zI) : Prop := ∀ p, p < np → (I (o + 3) p = IM 6 (32 + 4 * p) ∧ I (o + 4) p = IM 6 (32 + 4 * p + 1) ∧ I (o + 5) p = IM 6 (32 + 4 * p + 2) ∧ I (o + 6) p = IM 6 (32 + 4 * p + 3)) ∧ isN (I (o + 3) p) 1 99 ∧ isN (I (o + 4) p) 1 8 ∧ isN (I (o + 5) p) 0 100 ∧ isN (I (o + 6) p) 0 999
def dT1 (o nt : Nat) (I IM : zI) : Prop := ∀ t, t < nt → (I (o + 7) t = IM 10 (8 + 2 * t) ∧ I (o + 8) t = IM 10 (8 + 2 * t + 1)) ∧ isN (I (o + 7) t) 1 400 ∧ isN (I (o + 8) t) 0 10
def dK1 (o nc : Nat) (ck cb : Nat → Nat) (I IM : zI) : Prop := (∀ k, ck k ≤ 100 ∧ cb k ≤ 100) ∧ (∀ k, k < nc → IM 8 (200 + 2 * k) = nI (ck k) ∧ IM 8 (200 + 2 * k + 1) = nI (cb k)) ∧ ∀ w, w ≤ 100 → I (o + 9) w = rwI ck cb nc w
def dN1 (o : Nat) (I IM : zI) : Prop := (∀ j, j < 5 → I o (12 + j) = IM 11 (5 + j)) ∧ (isN (I o 12) 0 99 ∧ isN (I o 13) 0 99 ∧ isN (I o 14) 0 999) ∧ isN (I o 15) 1 8 ∧ isN (I o 16) 1 999
def dQ1 (o ns np nt nc : Nat) (I IM : zI) : Prop := (ns ≤ 6 ∧ np ≤ 8 ∧ nt ≤ 4 ∧ nc ≤ 100) ∧ (I o 9 = nI ns ∧ I o 10 = nI np ∧ I o 11 = nI nt) ∧ IM 3 1 = nI ns ∧ IM 5 1 = nI np ∧ IM 9 1 = nI nt ∧ IM 7 1 = nI nc
def dR (o ns np nt nc : Nat) (ck cb : Nat → Nat) (I IM : zI) : Prop := dQ1 o ns np nt nc I IM ∧ dN1 o I IM ∧ dS1 o ns I IM ∧ dP1 o np I IM ∧ dT1 o nt I IM ∧ dK1 o nc ck cb I IM
section DR
variable {o ns np nt nc : Nat} {ck cb : Nat → Nat} {I I2 IM IM2 : zI}
theorem dS1.eq (h : dS1 o ns I IM) (e1 : I2 (o + 1) = I (o + 1)) (e2 : I2 (o + 2) = I (o + 2)) (e3 : IM2 4 = IM 4) : dS1 o ns I2 IM2 := by
  unfold dS1 at h ⊢
  rw [e1, e2, e3]; exact h
theorem dP1.eq (h : dP1 o np I IM) (e1 : ∀ k, 3 ≤ k → k ≤ 6 → I2 (o + k) = I (o + k)) (e3 : IM2 6 = IM 6) : dP1 o np I2 IM2 := by
  unfold dP1 at h ⊢
  rw [e1 3 (by omega) (by omega), e1 4 (by omega) (by omega), e1 5 (by omega) (by omega), e1 6 (by omega) (by omega), e3]; exact h
theorem dT1.eq (h : dT1 o nt I IM) (e1 : I2 (o + 7) = I (o + 7)) (e2 : I2 (o + 8) = I (o + 8)) (e3 : IM2 10 = IM 10) : dT1 o nt I2 IM2 := by
  unfold dT1 at h ⊢
  rw [e1, e2, e3]; exact h
theorem dK1.eq (h : dK1 o nc ck cb I IM) (e1 : I2 (o + 9) = I (o + 9)) (e3 : IM2 8 = IM 8) : dK1 o nc ck cb I2 IM2 := by
  unfold dK1 at h ⊢
  rw [e1, e3]; exact h
theorem dN1.eq (h : dN1 o I IM) (e1 : ∀ j, 12 ≤ j → j ≤ 16 → I2 o j = I o j) (e3 : IM2 11 = IM 11) : dN1 o I2 IM2 := by
  unfold dN1 at h ⊢
  rw [e1 12 (by omega) (by omega), e1 13 (by omega) (by omega), e1 14 (by omega) (by omega), e1 15 (by omega) (by omega), e1 16 (by omega) (by omega), e3]
  exact ⟨fun j hj => by rw [e1 (12 + j) (by omega) (by omega)]; exact h.1 j hj, h.2⟩
theorem lsE_upN {a w : Nat} : ∀ k, k ≤ nc → lsE (upN ck nc a) w k = lsE ck w k := by
  intro k
  induction k with
  | zero => intro _; rfl
  | succ k ih =>
    intro h
    unfold lsE
    rw [ih (by omega), upN_n (show k ≠ nc by omega)]
theorem rwI_upN {a v w : Nat} : rwI (upN ck nc a) (upN cb nc v) (nc + 1) w = if a = w then nI v else rwI ck cb nc w := by
  unfold rwI
  have e : lsE (upN ck nc a) w (nc + 1) = if a = w then some nc else lsE ck w nc := by
    conv => lhs; unfold lsE
    rw [upN_s, lsE_upN nc (Nat.le_refl _)]
  rw [e]
  by_cases c : a = w
  · rw [if_pos c, if_pos c]
    show nI (upN cb nc v nc) = _
    rw [upN_s]
  · rw [if_neg c, if_neg c]
    cases g : lsE ck w nc with
    | none => rfl
    | some k =>
      have hk : k < nc := by
        clear e
        have key : ∀ n k, lsE ck w n = some k → k < n := by
          intro n
          induction n with
          | zero => intro k h; cases h
          | succ n ih =>
            intro k h
            unfold lsE at h
            by_cases d : ck n = w
            · rw [if_pos d] at h; cases h; omega
            · rw [if_neg d] at h; have := ih k h; omega
        exact key nc k g
      show nI (upN cb nc v k) = nI (cb k)
      rw [upN_n (by omega)]
end DR
section TK
variable {o : Nat} {I : zI} {J : zJ}
theorem at3 (k : Nat) (h : k < 4) : f_X11_at I J 3 4 (nI k) = some (I 3 k) := e_at h (by omega)
theorem take_118 : f_X0_take I J o (nI 118) 3 = zb2 (f_X0_takeSpeed I J o (I 3 0) (I 3 1)) (fun x48 I49 => zg (x48 = 0 ∨ x48 = 1) (some (x48, I49))) := by
  unfold f_X0_take
  rw [show f_X11_at I J 3 4 0 = some (I 3 0) from at3 0 (by omega), zb1_s, show f_X11_at I J 3 4 1 = some (I 3 1) from at3 1 (by omega), zb1_s]
  rfl
theorem take_112 : f_X0_take I J o (nI 112) 3 = zb2 (f_X0_takePiece I J o (I 3 0) (I 3 1) (I 3 2) (I 3 3)) (fun x48 I49 => zg (x48 = 0 ∨ x48 = 1) (some (x48, I49))) := by
  unfold f_X0_take
  rw [show f_X11_at I J 3 4 0 = some (I 3 0) from at3 0 (by omega), zb1_s, show f_X11_at I J 3 4 1 = some (I 3 1) from at3 1 (by omega), zb1_s, show f_X11_at I J 3 4 2 = some (I 3 2) from at3 2 (by omega), zb1_s, show f_X11_at I J 3 4 3 = some (I 3 3) from at3 3 (by omega), zb1_s]
  rfl
theorem take_98 : f_X0_take I J o (nI 98) 3 = zb2 (f_X0_takeBreak I J o (I 3 0) (I 3 1)) (fun x48 I49 => zg (x48 = 0 ∨ x48 = 1) (some (x48, I49))) := by
  unfold f_X0_take
  rw [show f_X11_at I J 3 4 0 = some (I 3 0) from at3 0 (by omega), zb1_s, show f_X11_at I J 3 4 1 = some (I 3 1) from at3 1 (by omega), zb1_s]
  rfl
theorem take_116 : f_X0_take I J o (nI 116) 3 = zb2 (f_X0_takeSteel I J o (I 3 0) (I 3 1)) (fun x48 I49 => zg (x48 = 0 ∨ x48 = 1) (some (x48, I49))) := by
  unfold f_X0_take
  rw [show f_X11_at I J 3 4 0 = some (I 3 0) from at3 0 (by omega), zb1_s, show f_X11_at I J 3 4 1 = some (I 3 1) from at3 1 (by omega), zb1_s]
  rfl
theorem take_99 : f_X0_take I J o (nI 99) 3 = zb2 (f_X0_takeChange I J o (I 3 0) (I 3 1)) (fun x48 I49 => zg (x48 = 0 ∨ x48 = 1) (some (x48, I49))) := by
  unfold f_X0_take
  rw [show f_X11_at I J 3 4 0 = some (I 3 0) from at3 0 (by omega), zb1_s, show f_X11_at I J 3 4 1 = some (I 3 1) from at3 1 (by omega), zb1_s]
  rfl
theorem take_104 : f_X0_take I J o (nI 104) 3 = zb2 (f_X0_takeHour I J o (I 3 0)) (fun x48 I49 => zg (x48 = 0 ∨ x48 = 1) (some (x48, I49))) := by
  unfold f_X0_take
  rw [show f_X11_at I J 3 4 0 = some (I 3 0) from at3 0 (by omega), zb1_s, show f_X11_at I J 3 4 1 = some (I 3 1) from at3 1 (by omega), zb1_s]
  rfl
theorem take_107 : f_X0_take I J o (nI 107) 3 = zb2 (f_X0_takeMost I J o (I 3 0) (I 3 1)) (fun x48 I49 => zg (x48 = 0 ∨ x48 = 1) (some (x48, I49))) := by
  unfold f_X0_take
  rw [show f_X11_at I J 3 4 0 = some (I 3 0) from at3 0 (by omega), zb1_s, show f_X11_at I J 3 4 1 = some (I 3 1) from at3 1 (by omega), zb1_s]
  rfl
end TK
/-- no room for another -/
def fulL (l ns np nt : Nat) : Prop := (l = 118 ∧ ns = 6) ∨ (l = 112 ∧ np = 8) ∨ (l = 116 ∧ nt = 4)
/-- what the reference's puts do -/
def ptS (l ns np nc nt : Nat) (I I2 : zI) : Prop := (∀ r, r ≠ rowL l → r ≠ 3 → r ≠ 5 → r ≠ 7 → r ≠ 9 → I2 r = I r) ∧ (∀ k, k < nmO l → I2 (rowL l) (basL l ns np nc nt + k) = I 2 k) ∧ (∀ y, y < basL l ns np nc nt ∨ basL l ns np nc nt + nmO l ≤ y → I2 (rowL l) y = I (rowL l) y) ∧ (I2 3 1 = nI (ns + if l = 118 then 1 else 0) ∧ I2 5 1 = nI (np + if l = 112 then 1 else 0) ∧ I2 7 1 = nI (nc + if l = 98 then 1 else 0) ∧ I2 9 1 = nI (nt + if l = 116 then 1 else 0)) ∧ I2 3 0 = I 3 0 ∧ I2 5 0 = I 5 0 ∧ I2 7 0 = I 7 0 ∧ I2 9 0 = I 9 0
theorem nI_r {v lo hi : Nat} (h : v < 2 ^ 31) : ((lo : Int) ≤ (nI v).toInt ∧ (nI v).toInt ≤ (hi : Int)) ↔ (lo ≤ v ∧ v ≤ hi) := by
  rw [nI_toInt h]; omega
theorem take_step {o l ns np nt nc : Nat} {ck cb f : Nat → Nat} {I IM IM2 : zI} {J : zJ} (hm : 1 ≤ nmO l) (hd : dR o ns np nt nc ck cb I IM) (ht : ∀ j, j < nmO l → I 3 j = nI (f j)) (hg : ∀ j, j < nmO l → IM 2 j = nI (f j)) (hr : ∀ j, j < nmO l → loS l j ≤ f j ∧ f j ≤ hiS l j) (hf : ¬ fulL l ns np nt) (h100 : l = 98 → nc < 100) (hp : ptS l ns np nc nt IM IM2) : ∃ (I2 : zI) (ns' np' nt' : Nat) (ck' cb' : Nat → Nat), f_X0_take I J o (nI l) 3 = some (1, I2) ∧ dR o ns' np' nt' (nc + if l = 98 then 1 else 0) ck' cb' I2 IM2 ∧ ∀ r, r < o ∨ o + 9 < r → I2 r = I r := by
  obtain ⟨⟨q1, q2, q3⟩, d1, d2, d3, d4, d5⟩ := hd
  obtain ⟨p1, p2, p3, ⟨p4, p5, p6, p7⟩, p8⟩ := hp
  have hl := nmO_7 hm
  rcases hl with rfl | rfl | rfl | rfl | rfl | rfl | rfl
  · -- a speed
    have t0 := ht 0 (by decide)
    have t1 := ht 1 (by decide)
    have g0 := hg 0 (by decide)
    have g1 := hg 1 (by decide)
    have r0 : 1 ≤ f 0 ∧ f 0 ≤ 99 := hr 0 (by decide)
    have r1 : 0 ≤ f 1 ∧ f 1 ≤ 999 := hr 1 (by decide)
    have hns : ns < 6 := by unfold fulL at hf; omega
    have w0 : IM2 4 (12 + 2 * ns) = IM 2 0 := p2 0 (by decide)
    have w1 : IM2 4 (12 + 2 * ns + 1) = IM 2 1 := p2 1 (by decide)
    have w2 : ∀ y, y < 12 + 2 * ns → IM2 4 y = IM 4 y := fun y hy => p3 y (Or.inl hy)
    rcases x_takeSpeed (J := J) q1.1 q2.1 (I 3 0) (I 3 1) with ⟨_, I2, e1, e2, e3, e4, e5, e6, e7⟩ | ⟨c, _⟩
    · refine ⟨I2, ns + 1, np, nt, ck, cb, ?_, ⟨⟨⟨by omega, q1.2.1, q1.2.2.1, by rw [if_neg (by omega)]; exact q1.2.2.2⟩, ⟨e3, by rw [e4 10 (by omega)]; exact q2.2.1, by rw [e4 11 (by omega)]; exact q2.2.2⟩, p4, p5, p7, p6⟩, d1.eq (fun j h1 h2 => e4 j (by omega)) (p1 11 (by decide) (by omega) (by omega) (by omega) (by omega)), fun i hi => ?_, d3.eq (fun k h1 h2 => e2 _ (by omega) (by omega) (by omega)) (p1 6 (by decide) (by omega) (by omega) (by omega) (by omega)), d4.eq (e2 _ (by omega) (by omega) (by omega)) (e2 _ (by omega) (by omega) (by omega)) (p1 10 (by decide) (by omega) (by omega) (by omega) (by omega)), d5.eq (e2 _ (by omega) (by omega) (by omega)) (p1 8 (by decide) (by omega) (by omega) (by omega) (by omega))⟩, fun r hr => e2 r (by omega) (by omega) (by omega)⟩
      · rw [take_118, e1, zb2_s, zg_t (Or.inr rfl)]
      · by_cases d : i = ns
        · subst d
          rw [e5, e6, w0, w1, t0, t1, g0, g1]
          exact ⟨⟨rfl, rfl⟩, isN_n r0.1 r0.2 (by omega), isN_n r1.1 r1.2 (by omega)⟩
        · rw [(e7 i d).1, (e7 i d).2, w2 _ (by omega), w2 _ (by omega)]
          exact d2 i (by omega)
    · exfalso
      apply c
      rw [t0, t1, nI_toInt (by omega), nI_toInt (by omega)]
      omega
  · -- a piece
    have t0 := ht 0 (by decide)
    have t1 := ht 1 (by decide)
    have t2 := ht 2 (by decide)
    have t3 := ht 3 (by decide)
    have g0 := hg 0 (by decide)
    have g1 := hg 1 (by decide)
    have g2 := hg 2 (by decide)
    have g3 := hg 3 (by decide)
    have r0 : 1 ≤ f 0 ∧ f 0 ≤ 99 := hr 0 (by decide)
    have r1 : 1 ≤ f 1 ∧ f 1 ≤ 8 := hr 1 (by decide)
    have r2 : 0 ≤ f 2 ∧ f 2 ≤ 100 := hr 2 (by decide)
    have r3 : 0 ≤ f 3 ∧ f 3 ≤ 999 := hr 3 (by decide)
    have hns : np < 8 := by unfold fulL at hf; omega
    have w0 : IM2 6 (32 + 4 * np) = IM 2 0 := p2 0 (by decide)
    have w1 : IM2 6 (32 + 4 * np + 1) = IM 2 1 := p2 1 (by decide)
    have w3 : IM2 6 (32 + 4 * np + 2) = IM 2 2 := p2 2 (by decide)
    have w4 : IM2 6 (32 + 4 * np + 3) = IM 2 3 := p2 3 (by decide)
    have w2 : ∀ y, y < 32 + 4 * np → IM2 6 y = IM 6 y := fun y hy => p3 y (Or.inl hy)
    rcases x_takePiece (J := J) q1.2.1 q2.2.1 (I 3 0) (I 3 1) (I 3 2) (I 3 3) with ⟨_, I2, e1, e2, e3, e4, e5, e6⟩ | ⟨c, _⟩
    · refine ⟨I2, ns, np + 1, nt, ck, cb, ?_, ⟨⟨⟨q1.1, by omega, q1.2.2.1, by rw [if_neg (by omega)]; exact q1.2.2.2⟩, ⟨by rw [e4 9 (by omega)]; exact q2.1, e3, by rw [e4 11 (by omega)]; exact q2.2.2⟩, p4, p5, p7, p6⟩, d1.eq (fun j h1 h2 => e4 j (by omega)) (p1 11 (by decide) (by omega) (by omega) (by omega) (by omega)), d2.eq (e2 _ (by omega) (by omega) (by omega) (by omega) (by omega)) (e2 _ (by omega) (by omega) (by omega) (by omega) (by omega)) (p1 4 (by decide) (by omega) (by omega) (by omega) (by omega)), fun p hp => ?_, d4.eq (e2 _ (by omega) (by omega) (by omega) (by omega) (by omega)) (e2 _ (by omega) (by omega) (by omega) (by omega) (by omega)) (p1 10 (by decide) (by omega) (by omega) (by omega) (by omega)), d5.eq (e2 _ (by omega) (by omega) (by omega) (by omega) (by omega)) (p1 8 (by decide) (by omega) (by omega) (by omega) (by omega))⟩, fun r hr => e2 r (by omega) (by omega) (by omega) (by omega) (by omega)⟩
      · rw [take_112, e1, zb2_s, zg_t (Or.inr rfl)]
      · by_cases d : p = np
        · subst d
          rw [e5.1, e5.2.1, e5.2.2.1, e5.2.2.2, w0, w1, w3, w4, t0, t1, t2, t3, g0, g1, g2, g3]
          exact ⟨⟨rfl, rfl, rfl, rfl⟩, isN_n r0.1 r0.2 (by omega), isN_n r1.1 r1.2 (by omega), isN_n r2.1 r2.2 (by omega), isN_n r3.1 r3.2 (by omega)⟩
        · obtain ⟨z1, z2, z3, z4⟩ := e6 p d
          rw [z1, z2, z3, z4, w2 _ (by omega), w2 _ (by omega), w2 _ (by omega), w2 _ (by omega)]
          exact d3 p (by omega)
    · exfalso
      apply c
      rw [t0, t1, t2, t3, nI_toInt (by omega), nI_toInt (by omega), nI_toInt (by omega), nI_toInt (by omega)]
      omega
  · -- a chance
    have t0 := ht 0 (by decide)
    have t1 := ht 1 (by decide)
    have g0 := hg 0 (by decide)
    have g1 := hg 1 (by decide)
    have r0 : 0 ≤ f 0 ∧ f 0 ≤ 100 := hr 0 (by decide)
    have r1 : 0 ≤ f 1 ∧ f 1 ≤ 100 := hr 1 (by decide)
    have hnc := h100 rfl
    have w0 : IM2 8 (200 + 2 * nc) = IM 2 0 := p2 0 (by decide)
    have w1 : IM2 8 (200 + 2 * nc + 1) = IM 2 1 := p2 1 (by decide)
    have w2 : ∀ y, y < 200 + 2 * nc → IM2 8 y = IM 8 y := fun y hy => p3 y (Or.inl hy)
    rcases x_takeBreak (J := J) (I := I) (o := o) (I 3 0) (I 3 1) with ⟨_, I2, e1, e2, e3, e4⟩ | ⟨c, _⟩
    · refine ⟨I2, ns, np, nt, upN ck nc (f 0), upN cb nc (f 1), ?_, ⟨⟨⟨q1.1, q1.2.1, q1.2.2.1, by rw [if_pos rfl]; omega⟩, ⟨by rw [e2 o (by omega)]; exact q2.1, by rw [e2 o (by omega)]; exact q2.2.1, by rw [e2 o (by omega)]; exact q2.2.2⟩, p4, p5, p7, p6⟩, d1.eq (fun j h1 h2 => by rw [e2 o (by omega)]) (p1 11 (by decide) (by omega) (by omega) (by omega) (by omega)), d2.eq (e2 _ (by omega)) (e2 _ (by omega)) (p1 4 (by decide) (by omega) (by omega) (by omega) (by omega)), d3.eq (fun k h1 h2 => e2 _ (by omega)) (p1 6 (by decide) (by omega) (by omega) (by omega) (by omega)), d4.eq (e2 _ (by omega)) (e2 _ (by omega)) (p1 10 (by decide) (by omega) (by omega) (by omega) (by omega)), ⟨fun k => ?_, fun k hk => ?_, fun w hw => ?_⟩⟩, fun r hr => e2 r (by omega)⟩
      · rw [take_98, e1, zb2_s, zg_t (Or.inr rfl)]
      · by_cases d : k = nc
        · rw [d, upN_s, upN_s]; omega
        · rw [upN_n d, upN_n d]; exact d5.1 k
      · rw [if_pos rfl] at hk
        by_cases d : k = nc
        · rw [d, upN_s, upN_s, w0, w1, g0, g1]; exact ⟨rfl, rfl⟩
        · rw [upN_n d, upN_n d, w2 _ (by omega), w2 _ (by omega)]; exact d5.2.1 k (by omega)
      · rw [if_pos rfl, rwI_upN]
        have ea : (I 3 0).toInt.toNat = f 0 := by rw [t0, nI_toInt (by omega)]; rfl
        rw [ea] at e3 e4
        by_cases d : f 0 = w
        · rw [if_pos d, ← d, e3, t1]
        · rw [if_neg d, e4 w (fun z => d z.symm)]; exact d5.2.2 w hw
    · exfalso
      apply c
      rw [t0, t1, nI_toInt (by omega), nI_toInt (by omega)]
      omega
  · -- a steel
    have t0 := ht 0 (by decide)
    have t1 := ht 1 (by decide)
    have g0 := hg 0 (by decide)
    have g1 := hg 1 (by decide)
    have r0 : 1 ≤ f 0 ∧ f 0 ≤ 400 := hr 0 (by decide)
    have r1 : 0 ≤ f 1 ∧ f 1 ≤ 10 := hr 1 (by decide)
    have hns : nt < 4 := by unfold fulL at hf; omega
    have w0 : IM2 10 (8 + 2 * nt) = IM 2 0 := p2 0 (by decide)
    have w1 : IM2 10 (8 + 2 * nt + 1) = IM 2 1 := p2 1 (by decide)
    have w2 : ∀ y, y < 8 + 2 * nt → IM2 10 y = IM 10 y := fun y hy => p3 y (Or.inl hy)
    rcases x_takeSteel (J := J) q1.2.2.1 q2.2.2 (I 3 0) (I 3 1) with ⟨_, I2, e1, e2, e3, e4, e5, e6, e7⟩ | ⟨c, _⟩
    · refine ⟨I2, ns, np, nt + 1, ck, cb, ?_, ⟨⟨⟨q1.1, q1.2.1, by omega, by rw [if_neg (by omega)]; exact q1.2.2.2⟩, ⟨by rw [e4 9 (by omega)]; exact q2.1, by rw [e4 10 (by omega)]; exact q2.2.1, e3⟩, p4, p5, p7, p6⟩, d1.eq (fun j h1 h2 => e4 j (by omega)) (p1 11 (by decide) (by omega) (by omega) (by omega) (by omega)), d2.eq (e2 _ (by omega) (by omega) (by omega)) (e2 _ (by omega) (by omega) (by omega)) (p1 4 (by decide) (by omega) (by omega) (by omega) (by omega)), d3.eq (fun k h1 h2 => e2 _ (by omega) (by omega) (by omega)) (p1 6 (by decide) (by omega) (by omega) (by omega) (by omega)), fun i hi => ?_, d5.eq (e2 _ (by omega) (by omega) (by omega)) (p1 8 (by decide) (by omega) (by omega) (by omega) (by omega))⟩, fun r hr => e2 r (by omega) (by omega) (by omega)⟩
      · rw [take_116, e1, zb2_s, zg_t (Or.inr rfl)]
      · by_cases d : i = nt
        · subst d
          rw [e5, e6, w0, w1, t0, t1, g0, g1]
          exact ⟨⟨rfl, rfl⟩, isN_n r0.1 r0.2 (by omega), isN_n r1.1 r1.2 (by omega)⟩
        · rw [(e7 i d).1, (e7 i d).2, w2 _ (by omega), w2 _ (by omega)]
          exact d4 i (by omega)
    · exfalso
      apply c
      rw [t0, t1, nI_toInt (by omega), nI_toInt (by omega)]
      omega
  · -- a change
    have t0 := ht 0 (by decide)
    have t1 := ht 1 (by decide)
    have g0 := hg 0 (by decide)
    have g1 := hg 1 (by decide)
    have r0 : 0 ≤ f 0 ∧ f 0 ≤ 99 := hr 0 (by decide)
    have r1 : 0 ≤ f 1 ∧ f 1 ≤ 99 := hr 1 (by decide)
    have w0 : IM2 11 5 = IM 2 0 := p2 0 (by decide)
    have w1 : IM2 11 6 = IM 2 1 := p2 1 (by decide)
    have w2 : ∀ y, 7 ≤ y → IM2 11 y = IM 11 y := fun y hy => p3 y (Or.inr hy)
    rcases x_takeChange (J := J) (I := I) (o := o) (I 3 0) (I 3 1) with ⟨_, I2, e1, e2, e3, e4, e5⟩ | ⟨c, _⟩
    · refine ⟨I2, ns, np, nt, ck, cb, ?_, ⟨⟨⟨q1.1, q1.2.1, q1.2.2.1, by rw [if_neg (by omega)]; exact q1.2.2.2⟩, ⟨by rw [e5 9 (by omega) (by omega)]; exact q2.1, by rw [e5 10 (by omega) (by omega)]; exact q2.2.1, by rw [e5 11 (by omega) (by omega)]; exact q2.2.2⟩, p4, p5, p7, p6⟩, ⟨fun j hj => ?_, ⟨?_, ?_, ?_⟩, ?_, ?_⟩, d2.eq (e2 _ (by omega)) (e2 _ (by omega)) (p1 4 (by decide) (by omega) (by omega) (by omega) (by omega)), d3.eq (fun k h1 h2 => e2 _ (by omega)) (p1 6 (by decide) (by omega) (by omega) (by omega) (by omega)), d4.eq (e2 _ (by omega)) (e2 _ (by omega)) (p1 10 (by decide) (by omega) (by omega) (by omega) (by omega)), d5.eq (e2 _ (by omega)) (p1 8 (by decide) (by omega) (by omega) (by omega) (by omega))⟩, fun r hr => e2 r (by omega)⟩
      · rw [take_99, e1, zb2_s, zg_t (Or.inr rfl)]
      · have hj5 : j = 0 ∨ j = 1 ∨ 2 ≤ j := by omega
        rcases hj5 with rfl | rfl | hj2
        · rw [e3, w0, t0, g0]
        · rw [e4, w1, t1, g1]
        · rw [e5 _ (by omega) (by omega), w2 _ (by omega)]; exact d1.1 j hj
      · rw [e3, t0]; exact isN_n r0.1 r0.2 (by omega)
      · rw [e4, t1]; exact isN_n r1.1 r1.2 (by omega)
      · rw [e5 14 (by omega) (by omega)]; exact d1.2.1.2.2
      · rw [e5 15 (by omega) (by omega)]; exact d1.2.2.1
      · rw [e5 16 (by omega) (by omega)]; exact d1.2.2.2
    · exfalso
      apply c
      rw [t0, t1, nI_toInt (by omega), nI_toInt (by omega)]
      omega
  · -- an hour
    have t0 := ht 0 (by decide)
    have g0 := hg 0 (by decide)
    have r0 : 0 ≤ f 0 ∧ f 0 ≤ 999 := hr 0 (by decide)
    have w0 : IM2 11 7 = IM 2 0 := p2 0 (by decide)
    have w2 : ∀ y, y < 7 ∨ 8 ≤ y → IM2 11 y = IM 11 y := fun y hy => p3 y hy
    rcases x_takeHour (J := J) (I := I) (o := o) (I 3 0) with ⟨_, I2, e1, e2, e3, e5⟩ | ⟨c, _⟩
    · refine ⟨I2, ns, np, nt, ck, cb, ?_, ⟨⟨⟨q1.1, q1.2.1, q1.2.2.1, by rw [if_neg (by omega)]; exact q1.2.2.2⟩, ⟨by rw [e5 9 (by omega)]; exact q2.1, by rw [e5 10 (by omega)]; exact q2.2.1, by rw [e5 11 (by omega)]; exact q2.2.2⟩, p4, p5, p7, p6⟩, ⟨fun j hj => ?_, ⟨?_, ?_, ?_⟩, ?_, ?_⟩, d2.eq (e2 _ (by omega)) (e2 _ (by omega)) (p1 4 (by decide) (by omega) (by omega) (by omega) (by omega)), d3.eq (fun k h1 h2 => e2 _ (by omega)) (p1 6 (by decide) (by omega) (by omega) (by omega) (by omega)), d4.eq (e2 _ (by omega)) (e2 _ (by omega)) (p1 10 (by decide) (by omega) (by omega) (by omega) (by omega)), d5.eq (e2 _ (by omega)) (p1 8 (by decide) (by omega) (by omega) (by omega) (by omega))⟩, fun r hr => e2 r (by omega)⟩
      · rw [take_104, e1, zb2_s, zg_t (Or.inr rfl)]
      · by_cases d : j = 2
        · rw [d, e3, w0, t0, g0]
        · rw [e5 _ (by omega), w2 _ (by omega)]; exact d1.1 j hj
      · rw [e5 12 (by omega)]; exact d1.2.1.1
      · rw [e5 13 (by omega)]; exact d1.2.1.2.1
      · rw [e3, t0]; exact isN_n r0.1 r0.2 (by omega)
      · rw [e5 15 (by omega)]; exact d1.2.2.1
      · rw [e5 16 (by omega)]; exact d1.2.2.2
    · exfalso
      apply c
      rw [t0, nI_toInt (by omega)]
      omega
  · -- the most
    have t0 := ht 0 (by decide)
    have t1 := ht 1 (by decide)
    have g0 := hg 0 (by decide)
    have g1 := hg 1 (by decide)
    have r0 : 1 ≤ f 0 ∧ f 0 ≤ 8 := hr 0 (by decide)
    have r1 : 1 ≤ f 1 ∧ f 1 ≤ 999 := hr 1 (by decide)
    have w0 : IM2 11 8 = IM 2 0 := p2 0 (by decide)
    have w1 : IM2 11 9 = IM 2 1 := p2 1 (by decide)
    have w2 : ∀ y, y < 8 → IM2 11 y = IM 11 y := fun y hy => p3 y (Or.inl hy)
    rcases x_takeMost (J := J) (I := I) (o := o) (I 3 0) (I 3 1) with ⟨_, I2, e1, e2, e3, e4, e5⟩ | ⟨c, _⟩
    · refine ⟨I2, ns, np, nt, ck, cb, ?_, ⟨⟨⟨q1.1, q1.2.1, q1.2.2.1, by rw [if_neg (by omega)]; exact q1.2.2.2⟩, ⟨by rw [e5 9 (by omega) (by omega)]; exact q2.1, by rw [e5 10 (by omega) (by omega)]; exact q2.2.1, by rw [e5 11 (by omega) (by omega)]; exact q2.2.2⟩, p4, p5, p7, p6⟩, ⟨fun j hj => ?_, ⟨?_, ?_, ?_⟩, ?_, ?_⟩, d2.eq (e2 _ (by omega)) (e2 _ (by omega)) (p1 4 (by decide) (by omega) (by omega) (by omega) (by omega)), d3.eq (fun k h1 h2 => e2 _ (by omega)) (p1 6 (by decide) (by omega) (by omega) (by omega) (by omega)), d4.eq (e2 _ (by omega)) (e2 _ (by omega)) (p1 10 (by decide) (by omega) (by omega) (by omega) (by omega)), d5.eq (e2 _ (by omega)) (p1 8 (by decide) (by omega) (by omega) (by omega) (by omega))⟩, fun r hr => e2 r (by omega)⟩
      · rw [take_107, e1, zb2_s, zg_t (Or.inr rfl)]
      · have hj5 : j = 3 ∨ j = 4 ∨ j < 3 := by omega
        rcases hj5 with rfl | rfl | hj2
        · rw [e3, w0, t0, g0]
        · rw [e4, w1, t1, g1]
        · rw [e5 _ (by omega) (by omega), w2 _ (by omega)]; exact d1.1 j hj
      · rw [e5 12 (by omega) (by omega)]; exact d1.2.1.1
      · rw [e5 13 (by omega) (by omega)]; exact d1.2.1.2.1
      · rw [e5 14 (by omega) (by omega)]; exact d1.2.1.2.2
      · rw [e3, t0]; exact isN_n r0.1 r0.2 (by omega)
      · rw [e4, t1]; exact isN_n r1.1 r1.2 (by omega)
    · exfalso
      apply c
      rw [t0, t1, nI_toInt (by omega), nI_toInt (by omega)]
      omega
theorem take_fail {o l ns np nt nc : Nat} {f : Nat → Nat} {I IM : zI} {J : zJ} (hm : 1 ≤ nmO l) (hq : dQ1 o ns np nt nc I IM) (ht : ∀ j, j < nmO l → I 3 j = nI (f j) ∧ f j < 10000) (hf : ¬ ((∀ j, j < nmO l → loS l j ≤ f j ∧ f j ≤ hiS l j) ∧ ¬ fulL l ns np nt)) : f_X0_take I J o (nI l) 3 = some (0, I) := by
  obtain ⟨q1, q2, q3⟩ := hq
  rcases nmO_7 hm with rfl | rfl | rfl | rfl | rfl | rfl | rfl
  · obtain ⟨t0, u0⟩ := ht 0 (by decide)
    obtain ⟨t1, u1⟩ := ht 1 (by decide)
    rcases x_takeSpeed (J := J) q1.1 q2.1 (I 3 0) (I 3 1) with ⟨c, _⟩ | ⟨_, e⟩
    · exfalso
      apply hf
      rw [t0, t1, nI_toInt (by omega), nI_toInt (by omega)] at c
      refine ⟨fun j hj => ?_, by unfold fulL; omega⟩
      have hj2 : j < 2 := hj
      have : j = 0 ∨ j = 1 := by omega
      rcases this with rfl | rfl
      · show 1 ≤ f 0 ∧ f 0 ≤ 99; omega
      · show 0 ≤ f 1 ∧ f 1 ≤ 999; omega
    · rw [take_118, e, zb2_s, zg_t (Or.inl rfl)]
  · obtain ⟨t0, u0⟩ := ht 0 (by decide)
    obtain ⟨t1, u1⟩ := ht 1 (by decide)
    obtain ⟨t2, u2⟩ := ht 2 (by decide)
    obtain ⟨t3, u3⟩ := ht 3 (by decide)
    rcases x_takePiece (J := J) q1.2.1 q2.2.1 (I 3 0) (I 3 1) (I 3 2) (I 3 3) with ⟨c, _⟩ | ⟨_, e⟩
    · exfalso
      apply hf
      rw [t0, t1, t2, t3, nI_toInt (by omega), nI_toInt (by omega), nI_toInt (by omega), nI_toInt (by omega)] at c
      refine ⟨fun j hj => ?_, by unfold fulL; omega⟩
      have hj2 : j < 4 := hj
      have : j = 0 ∨ j = 1 ∨ j = 2 ∨ j = 3 := by omega
      rcases this with rfl | rfl | rfl | rfl
      · show 1 ≤ f 0 ∧ f 0 ≤ 99; omega
      · show 1 ≤ f 1 ∧ f 1 ≤ 8; omega
      · show 0 ≤ f 2 ∧ f 2 ≤ 100; omega
      · show 0 ≤ f 3 ∧ f 3 ≤ 999; omega
    · rw [take_112, e, zb2_s, zg_t (Or.inl rfl)]
  · obtain ⟨t0, u0⟩ := ht 0 (by decide)
    obtain ⟨t1, u1⟩ := ht 1 (by decide)
    rcases x_takeBreak (J := J) (I := I) (o := o) (I 3 0) (I 3 1) with ⟨c, _⟩ | ⟨_, e⟩
    · exfalso
      apply hf
      rw [t0, t1, nI_toInt (by omega), nI_toInt (by omega)] at c
      refine ⟨fun j hj => ?_, by unfold fulL; omega⟩
      have hj2 : j < 2 := hj
      have : j = 0 ∨ j = 1 := by omega
      rcases this with rfl | rfl
      · show 0 ≤ f 0 ∧ f 0 ≤ 100; omega
      · show 0 ≤ f 1 ∧ f 1 ≤ 100; omega
    · rw [take_98, e, zb2_s, zg_t (Or.inl rfl)]
  · obtain ⟨t0, u0⟩ := ht 0 (by decide)
    obtain ⟨t1, u1⟩ := ht 1 (by decide)
    rcases x_takeSteel (J := J) q1.2.2.1 q2.2.2 (I 3 0) (I 3 1) with ⟨c, _⟩ | ⟨_, e⟩
    · exfalso
      apply hf
      rw [t0, t1, nI_toInt (by omega), nI_toInt (by omega)] at c
      refine ⟨fun j hj => ?_, by unfold fulL; omega⟩
      have hj2 : j < 2 := hj
      have : j = 0 ∨ j = 1 := by omega
      rcases this with rfl | rfl
      · show 1 ≤ f 0 ∧ f 0 ≤ 400; omega
      · show 0 ≤ f 1 ∧ f 1 ≤ 10; omega
    · rw [take_116, e, zb2_s, zg_t (Or.inl rfl)]
  · obtain ⟨t0, u0⟩ := ht 0 (by decide)
    obtain ⟨t1, u1⟩ := ht 1 (by decide)
    rcases x_takeChange (J := J) (I := I) (o := o) (I 3 0) (I 3 1) with ⟨c, _⟩ | ⟨_, e⟩
    · exfalso
      apply hf
      rw [t0, t1, nI_toInt (by omega), nI_toInt (by omega)] at c
      refine ⟨fun j hj => ?_, by unfold fulL; omega⟩
      have hj2 : j < 2 := hj
      have : j = 0 ∨ j = 1 := by omega
      rcases this with rfl | rfl
      · show 0 ≤ f 0 ∧ f 0 ≤ 99; omega
      · show 0 ≤ f 1 ∧ f 1 ≤ 99; omega
    · rw [take_99, e, zb2_s, zg_t (Or.inl rfl)]
  · obtain ⟨t0, u0⟩ := ht 0 (by decide)
    rcases x_takeHour (J := J) (I := I) (o := o) (I 3 0) with ⟨c, _⟩ | ⟨_, e⟩
    · exfalso
      apply hf
      rw [t0, nI_toInt (by omega)] at c
      refine ⟨fun j hj => ?_, by unfold fulL; omega⟩
      have hj2 : j < 1 := hj
      have : j = 0 := by omega
      rcases this with rfl
      show 0 ≤ f 0 ∧ f 0 ≤ 999; omega
    · rw [take_104, e, zb2_s, zg_t (Or.inl rfl)]
  · obtain ⟨t0, u0⟩ := ht 0 (by decide)
    obtain ⟨t1, u1⟩ := ht 1 (by decide)
    rcases x_takeMost (J := J) (I := I) (o := o) (I 3 0) (I 3 1) with ⟨c, _⟩ | ⟨_, e⟩
    · exfalso
      apply hf
      rw [t0, t1, nI_toInt (by omega), nI_toInt (by omega)] at c
      refine ⟨fun j hj => ?_, by unfold fulL; omega⟩
      have hj2 : j < 2 := hj
      have : j = 0 ∨ j = 1 := by omega
      rcases this with rfl | rfl
      · show 1 ≤ f 0 ∧ f 0 ≤ 8; omega
      · show 1 ≤ f 1 ∧ f 1 ≤ 999; omega
    · rw [take_107, e, zb2_s, zg_t (Or.inl rfl)]
