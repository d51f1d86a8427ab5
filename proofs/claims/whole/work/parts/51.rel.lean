/-! THE RELATION of the two states -/
abbrev zB : Type := Nat → Nat → Nat
/-- a bench: rows 0..8 its arrays (inches wearing lengths depths fines worths hardness tenths breaking), row 9 its numbers (speeds pieces steels changeMinutes changePence hourPence mostSteps mostWork) -/
def bOk (b : zB) : Prop := (1 ≤ b 9 0 ∧ b 9 0 ≤ 6) ∧ (1 ≤ b 9 1 ∧ b 9 1 ≤ 8) ∧ (1 ≤ b 9 2 ∧ b 9 2 ≤ 4) ∧ (b 9 3 ≤ 99 ∧ b 9 4 ≤ 99 ∧ b 9 5 ≤ 999) ∧ ((1 ≤ b 9 6 ∧ b 9 6 ≤ 8) ∧ 1 ≤ b 9 7 ∧ b 9 7 ≤ 999) ∧ (∀ i, i < b 9 0 → 1 ≤ b 0 i ∧ b 0 i ≤ 99 ∧ b 1 i ≤ 999) ∧ (∀ p, p < b 9 1 → (1 ≤ b 2 p ∧ b 2 p ≤ 99) ∧ (1 ≤ b 3 p ∧ b 3 p ≤ 8) ∧ b 4 p ≤ 100 ∧ b 5 p ≤ 999) ∧ (∀ h, h < b 9 2 → (1 ≤ b 6 h ∧ b 6 h ≤ 400) ∧ b 7 h ≤ 10) ∧ ∀ w, w ≤ 100 → b 8 w ≤ 100
/-- how many of a bench's array are told -/
def bCt (b : zB) (k : Nat) : Nat := if k < 2 then b 9 0 else if k < 6 then b 9 1 else if k < 8 then b 9 2 else 101
/-- the class's bench at o -/
def rC (b : zB) (I : zI) (o : Nat) : Prop := (∀ j, j < 8 → I o (9 + j) = nI (b 9 j)) ∧ ∀ k, k < 9 → ∀ i, i < bCt b k → I (o + 1 + k) i = nI (b k i)
/-- the hundredths of several pairs: the greatest A not above the wear, the last of these -/
def ckOk (ck : Nat → Nat) (o : Option Nat) (n : Nat) : Bool := match o with
  | none => true
  | some k => decide (ck k ≤ ck n)
def ckAt (ck : Nat → Nat) (w : Nat) : Nat → Option Nat
  | 0 => none
  | n + 1 => if ck n ≤ w ∧ ckOk ck (ckAt ck w n) n = true then some n else ckAt ck w n
def ckB (ck cb : Nat → Nat) (w n : Nat) : Nat := match ckAt ck w n with
  | none => 0
  | some k => cb k
/-- the reference's bench (what is laid) -/
def rM (b : zB) (IM : zI) : Prop := (IM 3 0 = nI (b 9 0) ∧ IM 5 0 = nI (b 9 1) ∧ IM 9 0 = nI (b 9 2)) ∧ (∀ j, j < 5 → IM 11 j = nI (b 9 (3 + j))) ∧ (∀ i, i < b 9 0 → IM 4 (2 * i) = nI (b 0 i) ∧ IM 4 (2 * i + 1) = nI (b 1 i)) ∧ (∀ p, p < b 9 1 → IM 6 (4 * p) = nI (b 2 p) ∧ IM 6 (4 * p + 1) = nI (b 3 p) ∧ IM 6 (4 * p + 2) = nI (b 4 p) ∧ IM 6 (4 * p + 3) = nI (b 5 p)) ∧ (∀ h, h < b 9 2 → IM 10 (2 * h) = nI (b 6 h) ∧ IM 10 (2 * h + 1) = nI (b 7 h)) ∧ ∃ (n : Nat) (ck cb : Nat → Nat), n ≤ 100 ∧ IM 7 0 = nI n ∧ (∀ k, k < n → IM 8 (2 * k) = nI (ck k) ∧ IM 8 (2 * k + 1) = nI (cb k) ∧ ck k ≤ 100 ∧ cb k ≤ 100) ∧ ∀ w, w ≤ 100 → b 8 w = ckB ck cb w n
/-- the text -/
def rT (I IM : zI) : Prop := ∃ n, n ≤ 500 ∧ I 1 2 = nI n ∧ IM 0 0 = nI n ∧ ∀ k, k < n → I 2 k = IM 1 k ∧ -128 ≤ (I 2 k).toInt ∧ (I 2 k).toInt ≤ 127
/-- the numbers of the hands, and the log: the class's at o, the reference's j-th -/
def rHb (ns o j : Nat) (I IM : zI) : Prop := ∃ sp li ev n : Nat, sp < ns ∧ li ≤ 100 ∧ (1 ≤ ev ∧ ev ≤ 8) ∧ n ≤ 20 ∧ (I o 3 = nI sp ∧ I o 4 = nI li ∧ I o 5 = nI ev ∧ I o 2 = nI n) ∧ (IM 12 (3 * j) = nI sp ∧ IM 12 (3 * j + 1) = nI li ∧ IM 12 (3 * j + 2) = nI ev ∧ IM 13 j = nI n) ∧ ∀ k, k < n → I (o + 1) k = IM 14 (40 * j + 2 * k) ∧ I (o + 2) k = IM 14 (40 * j + 2 * k + 1)
def rK (ns : Nat) (I IM : zI) : Prop := ∃ n, n ≤ 2 ∧ I 0 5 = nI n ∧ IM 0 13 = nI n ∧ ∀ j, j < n → rHb ns (27 + 3 * j) (j + 1) I IM
-- rows by rows
theorem rC.eq {b : zB} {I I2 : zI} {o : Nat} (h : rC b I o) (e : ∀ k, k < 10 → I2 (o + k) = I (o + k)) : rC b I2 o := by
  refine ⟨fun j hj => ?_, fun k hk i hi => ?_⟩
  · rw [show I2 o = I o from e 0 (by omega)]; exact h.1 j hj
  · rw [show I2 (o + 1 + k) = I (o + 1 + k) by rw [Nat.add_assoc]; exact e (1 + k) (by omega)]; exact h.2 k hk i hi
theorem rM.eq {b : zB} {I I2 : zI} (h : rM b I) (e : ∀ k, 3 ≤ k → k < 12 → I2 k = I k) : rM b I2 := by
  unfold rM at h ⊢
  rw [e 3 (by omega) (by omega), e 4 (by omega) (by omega), e 5 (by omega) (by omega), e 6 (by omega) (by omega), e 7 (by omega) (by omega), e 8 (by omega) (by omega), e 9 (by omega) (by omega), e 10 (by omega) (by omega), e 11 (by omega) (by omega)]
  exact h
theorem rT.eq {I IM I2 IM2 : zI} (h : rT I IM) (e1 : I2 1 2 = I 1 2) (e2 : I2 2 = I 2) (e3 : IM2 0 0 = IM 0 0) (e4 : IM2 1 = IM 1) : rT I2 IM2 := by
  unfold rT at h ⊢
  rw [e1, e2, e3, e4]; exact h
theorem rHb.eq {ns o j : Nat} {I IM I2 IM2 : zI} (h : rHb ns o j I IM) (e0 : ∀ k, k < 3 → I2 (o + k) = I (o + k)) (e1 : ∀ k, k < 3 → IM2 12 (3 * j + k) = IM 12 (3 * j + k)) (e2 : IM2 13 j = IM 13 j) (e3 : ∀ k, k < 40 → IM2 14 (40 * j + k) = IM 14 (40 * j + k)) : rHb ns o j I2 IM2 := by
  obtain ⟨sp, li, ev, n, h1, h2, h3, h4, h5, h6, h7⟩ := h
  refine ⟨sp, li, ev, n, h1, h2, h3, h4, ?_, ?_, fun k hk => ?_⟩
  · rw [show I2 o = I o from e0 0 (by omega)]; exact h5
  · rw [show IM2 12 (3 * j) = IM 12 (3 * j) from e1 0 (by omega), e1 1 (by omega), e1 2 (by omega), e2]; exact h6
  · rw [e0 1 (by omega), e0 2 (by omega), show IM2 14 (40 * j + 2 * k) = IM 14 (40 * j + 2 * k) from e3 (2 * k) (by omega), show IM2 14 (40 * j + 2 * k + 1) = IM 14 (40 * j + 2 * k + 1) by rw [Nat.add_assoc]; exact e3 (2 * k + 1) (by omega)]
    exact h7 k hk
-- what a plan is
def mins (b : zB) (p i : Nat) : Nat := (100 * b 2 p + b 0 i - 1) / b 0 i
def wrs (b : zB) (p i d h : Nat) : Nat := b 2 p * b 1 i * d * b 6 h / 10000
def mayb (b : zB) (i d : Nat) : Prop := d ≤ b 9 6 ∧ b 0 i * d ≤ b 9 7
/-- a measure: what a minute's hundredth, a change, a piece done (below 0: its worth), one spoilt count -/
abbrev zMu : Type := Int × Int × Int × Int
def muC (b : zB) (c : Nat) : zMu := if c = 0 then ((b 9 5 : Int), (100 * b 9 3 * b 9 5 + 6000 * b 9 4 : Nat), -1, 0) else if c = 1 then (1, (100 * b 9 3 : Nat), 100000, 0) else if c = 2 then (0, 0, 0, 1000000) else (1, (100 * b 9 3 : Nat), 0, 0)
def aft (b : zB) (V : Nat → Nat → Nat → Int) (p w : Nat) : Int := if p + 1 = b 9 1 then 0 else V (p + 1) (b 3 (p + 1)) w
def dnS (b : zB) (u : zMu) (p : Nat) : Int := if u.2.2.1 < 0 then 6000 * (b 5 p : Int) else u.2.2.1
def rsk (b : zB) (p w i d h : Nat) : Nat := if 100 < w + wrs b p i d h then 100 else b 8 w
def whl (b : zB) (u : zMu) (h : Nat) (V : Nat → Nat → Nat → Int) (p l w a : Nat) : Int := if 100 < w + wrs b p (a / 8) (a % 8 + 1) h then 0 else if a % 8 + 1 < l then V p (l - (a % 8 + 1)) (w + wrs b p (a / 8) (a % 8 + 1) h) else (if b 4 p < w then u.2.2.2 else dnS b u p) + aft b V p (w + wrs b p (a / 8) (a % 8 + 1) h)
def brk (b : zB) (u : zMu) (V : Nat → Nat → Nat → Int) (p : Nat) : Int := u.2.2.2 + aft b V p 0 - u.2.1
/-- what comes of doing a in a state -/
def gG (b : zB) (u : zMu) (h : Nat) (V : Nat → Nat → Nat → Int) (p l w a : Nat) : Int := if a = 48 then V p l 0 - u.2.1 else if a = 49 then u.2.2.2 + aft b V p w else ((100 - (rsk b p w (a / 8) (a % 8 + 1) h : Int)) * whl b u h V p l w a + (rsk b p w (a / 8) (a % 8 + 1) h : Int) * brk b u V p).tdiv 100 - u.1 * (mins b p (a / 8) : Int)
def canS (b : zB) (l w a : Nat) : Prop := a = 49 ∨ (a = 48 ∧ 0 < w) ∨ (a < 48 ∧ a / 8 < b 9 0 ∧ a % 8 < l ∧ mayb b (a / 8) (a % 8 + 1))
def inS (b : zB) (p l w : Nat) : Prop := p < b 9 1 ∧ 1 ≤ l ∧ l ≤ b 3 p ∧ w ≤ 100
/-- in each state the best: the greatest, of several the lowest number -/
def solS (b : zB) (u : zMu) (h : Nat) (A : Nat → Nat → Nat → Nat) (V : Nat → Nat → Nat → Int) : Prop := ∀ p l w, inS b p l w → canS b l w (A p l w) ∧ V p l w = gG b u h V p l w (A p l w) ∧ ∀ a, canS b l w a → gG b u h V p l w a ≤ V p l w ∧ (gG b u h V p l w a = V p l w → A p l w ≤ a)
/-- what comes of what is done -/
def folS (b : zB) (u : zMu) (h : Nat) (A : Nat → Nat → Nat → Nat) (V : Nat → Nat → Nat → Int) : Prop := ∀ p l w, inS b p l w → V p l w = gG b u h V p l w (A p l w)
def plc (p l w : Nat) : Nat := (p * 8 + l - 1) * 101 + w
/-- the class's plan at o is solved for a measure in a steel -/
def rPl (b : zB) (c h o : Nat) (I : zI) (J : zJ) : Prop := I o 6 = 0 ∨ (I o 6 = 1 ∧ h < b 9 2 ∧ I o 3 = nI c ∧ I o 4 = nI h ∧ (J o 5).toInt = -(muC b c).2.1 ∧ ∃ (A : Nat → Nat → Nat → Nat) (V : Nat → Nat → Nat → Int), solS b (muC b c) h A V ∧ ∀ p l w, inS b p l w → I (o + 2) (plc p l w) = nI (A p l w) ∧ (J (o + 1) (plc p l w)).toInt = V p l w)
def rP (b : zB) (I : zI) (J : zJ) : Prop := ∀ h, h < 4 → rPl b 0 h (47 + 3 * h) I J ∧ rPl b 1 h (59 + 3 * h) I J
theorem rPl.eq {b : zB} {c h o : Nat} {I I2 : zI} {J J2 : zJ} (r : rPl b c h o I J) (e : ∀ k, k < 3 → I2 (o + k) = I (o + k)) (f : ∀ k, k < 3 → J2 (o + k) = J (o + k)) : rPl b c h o I2 J2 := by
  unfold rPl at r ⊢
  rw [show I2 o = I o from e 0 (by omega), show J2 o = J o from f 0 (by omega), e 2 (by omega), f 1 (by omega)]
  exact r
theorem rP.eq {b : zB} {I I2 : zI} {J J2 : zJ} (r : rP b I J) (e : ∀ k, 47 ≤ k → k < 71 → I2 k = I k) (f : ∀ k, 47 ≤ k → k < 71 → J2 k = J k) : rP b I2 J2 := fun h hh => ⟨(r h hh).1.eq (fun k hk => e _ (by omega) (by omega)) (fun k hk => f _ (by omega) (by omega)), (r h hh).2.eq (fun k hk => e _ (by omega) (by omega)) (fun k hk => f _ (by omega) (by omega))⟩
/-- THE RELATION -/
def zRel (I : zI) (J : zJ) (IM : zI) (_ : zJ) : Prop := ∃ b : zB, bOk b ∧ rC b I 4 ∧ rM b IM ∧ rT I IM ∧ rHb (b 9 0) 24 0 I IM ∧ rK (b 9 0) I IM ∧ rP b I J
