abbrev zBn (o : Nat) : Prop := o = 4 ∨ o = 14
abbrev zHn (o : Nat) : Prop := 24 ≤ o ∧ o < 33 ∧ (o - 24) % 3 = 0
abbrev zPn (o : Nat) : Prop := 47 ≤ o ∧ o < 74 ∧ (o - 47) % 3 = 0
def FX0 (ad : Nat → Nat) (o : Nat) (i : Nat → Int32) (j : Nat → Int64) : List Value := [.ref (ad (o + 1)), .ref (ad (o + 2)), .ref (ad (o + 3)), .ref (ad (o + 4)), .ref (ad (o + 5)), .ref (ad (o + 6)), .ref (ad (o + 7)), .ref (ad (o + 8)), .ref (ad (o + 9)), .int (i 9), .int (i 10), .int (i 11), .int (i 12), .int (i 13), .int (i 14), .int (i 15), .int (i 16)]
def FX1 (ad : Nat → Nat) (o : Nat) (i : Nat → Int32) (j : Nat → Int64) : List Value := [.ref (ad (o + 1)), .ref (ad (o + 2)), .int (i 2), .int (i 3), .int (i 4), .int (i 5)]
def FX2 (ad : Nat → Nat) (i : Nat → Int32) (j : Nat → Int64) : List Value := [.ref (ad 4), .ref (ad 24), .ref (ad 35), .ref (ad 36)]
def FX3 (ad : Nat → Nat) (i : Nat → Int32) (j : Nat → Int64) : List Value := [.ref (ad 44), .ref (ad 45), .int (i 2), .int (i 3), .int (i 4)]
def FX5 (ad : Nat → Nat) (i : Nat → Int32) (j : Nat → Int64) : List Value := [.ref (ad 4), .ref (ad 40), .ref (ad 41), .ref (ad 42)]
def FX6 (ad : Nat → Nat) (a0 : Nat → Nat) (o : Nat) (i : Nat → Int32) (j : Nat → Int64) : List Value := [.ref (ad 4), .ref (ad (o + 1)), .ref (ad (o + 2)), .ref (a0 (i 3).toNatClampNeg), .int (i 4), .long (j 5), .int (i 6)]
def FX7 (ad : Nat → Nat) (i : Nat → Int32) (j : Nat → Int64) : List Value := [.ref (ad 4)]
def FX8 (ad : Nat → Nat) (i : Nat → Int32) (j : Nat → Int64) : List Value := [.ref (ad 2), .ref (ad 3), .int (i 2), .int (i 3)]
def FX9 (ad : Nat → Nat) (i : Nat → Int32) (j : Nat → Int64) : List Value := [.ref (ad 4), .ref (ad 34), .int (i 2), .int (i 3), .int (i 4), .int (i 5), .int (i 6), .int (i 7), .int (i 8), .int (i 9)]
def FX10 (ad : Nat → Nat) (i : Nat → Int32) (j : Nat → Int64) : List Value := [.ref (ad 4), .ref (ad 34), .ref (ad 71), .int (i 3), .int (i 4), .int (i 5), .int (i 6), .int (i 7), .int (i 8)]
def FX11 (ad : Nat → Nat) (i : Nat → Int32) (j : Nat → Int64) : List Value := [.ref (ad 1), .ref (ad 4), .ref (ad 14), .ref (ad 24), .ref (ad 33), .int (i 5), .ref (ad 34), .ref (ad 37), .ref (ad 38), .ref (ad 39), .ref (ad 43), .ref (ad 46)]
def FX12 (ad : Nat → Nat) (i : Nat → Int32) (j : Nat → Int64) : List Value := [.int (i 0), .ref (ad 1), .int (i 2), .ref (ad 2), .ref (ad 3), .ref (ad 4), .ref (ad 5), .ref (ad 6), .ref (ad 7), .ref (ad 8), .ref (ad 9), .ref (ad 10), .ref (ad 11), .int (i 13), .ref (ad 12), .ref (ad 13), .ref (ad 14), .ref (ad 15), .ref (ad 16), .ref (ad 17), .ref (ad 18), .long (j 21), .long (j 22), .long (j 23), .long (j 24), .ref (ad 19), .ref (ad 20), .ref (ad 21), .ref (ad 22), .ref (ad 23), .ref (ad 24)]
def kC0 (cy : Nat → ClassId) (ad : Nat → Nat) : zK := fun k i j => match k with
  | 0 => .inr (10, FX11 ad i j)
  | 1 => .inr (7, FX8 ad i j)
  | 2 => .inl (cy 0, 500, .inl i)
  | 3 => .inl (cy 1, 4, .inl i)
  | 4 => .inr (0, FX0 ad 4 i j)
  | 5 => .inl (cy 1, 6, .inl i)
  | 6 => .inl (cy 1, 6, .inl i)
  | 7 => .inl (cy 1, 8, .inl i)
  | 8 => .inl (cy 1, 8, .inl i)
  | 9 => .inl (cy 1, 8, .inl i)
  | 10 => .inl (cy 1, 8, .inl i)
  | 11 => .inl (cy 1, 4, .inl i)
  | 12 => .inl (cy 1, 4, .inl i)
  | 13 => .inl (cy 1, 101, .inl i)
  | 14 => .inr (0, FX0 ad 14 i j)
  | 15 => .inl (cy 1, 6, .inl i)
  | 16 => .inl (cy 1, 6, .inl i)
  | 17 => .inl (cy 1, 8, .inl i)
  | 18 => .inl (cy 1, 8, .inl i)
  | 19 => .inl (cy 1, 8, .inl i)
  | 20 => .inl (cy 1, 8, .inl i)
  | 21 => .inl (cy 1, 4, .inl i)
  | 22 => .inl (cy 1, 4, .inl i)
  | 23 => .inl (cy 1, 101, .inl i)
  | 24 => .inr (1, FX1 ad 24 i j)
  | 25 => .inl (cy 1, 20, .inl i)
  | 26 => .inl (cy 1, 20, .inl i)
  | 27 => .inr (1, FX1 ad 27 i j)
  | 28 => .inl (cy 1, 20, .inl i)
  | 29 => .inl (cy 1, 20, .inl i)
  | 30 => .inr (1, FX1 ad 30 i j)
  | 31 => .inl (cy 1, 20, .inl i)
  | 32 => .inl (cy 1, 20, .inl i)
  | 33 => .inl (cy 4, 2, .inr (.inr (.inr (.inr (fun n => some (ad (27 + 3 * n)))))))
  | 34 => .inr (2, FX2 ad i j)
  | 35 => .inl (cy 5, 4, .inr (.inr (.inr (.inr (fun n => some (ad (47 + 3 * n)))))))
  | 36 => .inl (cy 5, 4, .inr (.inr (.inr (.inr (fun n => some (ad (59 + 3 * n)))))))
  | 37 => .inr (9, FX10 ad i j)
  | 38 => .inr (8, FX9 ad i j)
  | 39 => .inr (4, FX5 ad i j)
  | 40 => .inl (cy 2, 909, .inr (.inl j))
  | 41 => .inl (cy 1, 909, .inl i)
  | 42 => .inl (cy 1, 909, .inl i)
  | 43 => .inr (3, FX3 ad i j)
  | 44 => .inl (cy 1, 256, .inl i)
  | 45 => .inl (cy 1, 256, .inl i)
  | _ => .inr (6, FX7 ad i j)
def kC (cy : Nat → ClassId) (ad a0 : Nat → Nat) : zK := fun k i j => if k < 47 then kC0 cy ad k i j else if (k - 47) % 3 = 0 then .inr (5, FX6 ad a0 k i j) else if (k - 47) % 3 = 1 then .inl (cy 2, 6464, .inr (.inl j)) else .inl (cy 0, 6464, .inl i)
def kM (cy : Nat → ClassId) (ad : Nat → Nat) : zK := fun k i j => match k with
  | 0 => .inr (11, FX12 ad i j)
  | 1 => .inl (cy 0, 500, .inl i)
  | 2 => .inl (cy 1, 4, .inl i)
  | 3 => .inl (cy 1, 2, .inl i)
  | 4 => .inl (cy 1, 24, .inl i)
  | 5 => .inl (cy 1, 2, .inl i)
  | 6 => .inl (cy 1, 64, .inl i)
  | 7 => .inl (cy 1, 2, .inl i)
  | 8 => .inl (cy 1, 400, .inl i)
  | 9 => .inl (cy 1, 2, .inl i)
  | 10 => .inl (cy 1, 16, .inl i)
  | 11 => .inl (cy 1, 10, .inl i)
  | 12 => .inl (cy 1, 9, .inl i)
  | 13 => .inl (cy 1, 3, .inl i)
  | 14 => .inl (cy 1, 120, .inl i)
  | 15 => .inl (cy 1, 7272, .inl i)
  | 16 => .inl (cy 2, 7272, .inr (.inl j))
  | 17 => .inl (cy 1, 7272, .inl i)
  | 18 => .inl (cy 3, 7272, .inl i)
  | 19 => .inl (cy 1, 909, .inl i)
  | 20 => .inl (cy 1, 909, .inl i)
  | 21 => .inl (cy 1, 909, .inl i)
  | 22 => .inl (cy 1, 130, .inl i)
  | 23 => .inl (cy 1, 130, .inl i)
  | _ => .inl (cy 1, 4, .inl i)
theorem zNmw_0 {s : State} (h : zNs s) : va_Nw (.methodLinkNest RX0 105 yX11_within "EdgeAndSpeed") s := h.1 (RX0, 105, yX11_within, "EdgeAndSpeed") (List.mem_of_getElem? (i := 0) rfl)
theorem zNmw_1 {s : State} (h : zNs s) : va_Nw (.methodLinkNest RX0 85 yX11_at "EdgeAndSpeed") s := h.1 (RX0, 85, yX11_at, "EdgeAndSpeed") (List.mem_of_getElem? (i := 1) rfl)
theorem zNmw_2 {s : State} (h : zNs s) : va_Nw (.methodLinkNest RX8 53 yX11_within "EdgeAndSpeed") s := h.1 (RX8, 53, yX11_within, "EdgeAndSpeed") (List.mem_of_getElem? (i := 2) rfl)
theorem zNmw_3 {s : State} (h : zNs s) : va_Nw (.methodLinkNest RX2 54 yX11_within "EdgeAndSpeed") s := h.1 (RX2, 54, yX11_within, "EdgeAndSpeed") (List.mem_of_getElem? (i := 3) rfl)
theorem zNmw_4 {s : State} (h : zNs s) : va_Nw (.methodLinkNest RX0 119 yX11_depthOf "EdgeAndSpeed") s := h.1 (RX0, 119, yX11_depthOf, "EdgeAndSpeed") (List.mem_of_getElem? (i := 4) rfl)
theorem zNmw_5 {s : State} (h : zNs s) : va_Nw (.methodLinkNest RX0 122 yX11_speedOf "EdgeAndSpeed") s := h.1 (RX0, 122, yX11_speedOf, "EdgeAndSpeed") (List.mem_of_getElem? (i := 5) rfl)
theorem zNmw_6 {s : State} (h : zNs s) : va_Nw (.methodLinkNest RX6 87 yX11_depthOf "EdgeAndSpeed") s := h.1 (RX6, 87, yX11_depthOf, "EdgeAndSpeed") (List.mem_of_getElem? (i := 6) rfl)
theorem zNmw_7 {s : State} (h : zNs s) : va_Nw (.methodLinkNest RX6 90 yX11_speedOf "EdgeAndSpeed") s := h.1 (RX6, 90, yX11_speedOf, "EdgeAndSpeed") (List.mem_of_getElem? (i := 7) rfl)
theorem zNmw_8 {s : State} (h : zNs s) : va_Nw (.methodLinkNest RX10 84 yX11_depthOf "EdgeAndSpeed") s := h.1 (RX10, 84, yX11_depthOf, "EdgeAndSpeed") (List.mem_of_getElem? (i := 8) rfl)
theorem zNmw_9 {s : State} (h : zNs s) : va_Nw (.methodLinkNest RX10 87 yX11_speedOf "EdgeAndSpeed") s := h.1 (RX10, 87, yX11_speedOf, "EdgeAndSpeed") (List.mem_of_getElem? (i := 9) rfl)
theorem zNmw_10 {s : State} (h : zNs s) : va_Nw (.methodLinkNest RX5 46 yX11_depthOf "EdgeAndSpeed") s := h.1 (RX5, 46, yX11_depthOf, "EdgeAndSpeed") (List.mem_of_getElem? (i := 10) rfl)
theorem zNmw_11 {s : State} (h : zNs s) : va_Nw (.methodLinkNest RX5 49 yX11_speedOf "EdgeAndSpeed") s := h.1 (RX5, 49, yX11_speedOf, "EdgeAndSpeed") (List.mem_of_getElem? (i := 11) rfl)
theorem zNmw_12 {s : State} (h : zNs s) : va_Nw (.methodLinkNest RX5 79 yX11_within "EdgeAndSpeed") s := h.1 (RX5, 79, yX11_within, "EdgeAndSpeed") (List.mem_of_getElem? (i := 12) rfl)
theorem zNmw_13 {s : State} (h : zNs s) : va_Nw (.methodLinkNest RX3 33 yX11_within "EdgeAndSpeed") s := h.1 (RX3, 33, yX11_within, "EdgeAndSpeed") (List.mem_of_getElem? (i := 13) rfl)
theorem zNmw_14 {s : State} (h : zNs s) : va_Nw (.methodLinkNest RX1 37 yX11_within "EdgeAndSpeed") s := h.1 (RX1, 37, yX11_within, "EdgeAndSpeed") (List.mem_of_getElem? (i := 14) rfl)
theorem zNmw_15 {s : State} (h : zNs s) : va_Nw (.methodLinkNest RX9 80 yX11_depthOf "EdgeAndSpeed") s := h.1 (RX9, 80, yX11_depthOf, "EdgeAndSpeed") (List.mem_of_getElem? (i := 15) rfl)
theorem zNmw_16 {s : State} (h : zNs s) : va_Nw (.methodLinkNest RX9 83 yX11_speedOf "EdgeAndSpeed") s := h.1 (RX9, 83, yX11_speedOf, "EdgeAndSpeed") (List.mem_of_getElem? (i := 16) rfl)
theorem zNfw_0 {s : State} {args : Array Value} (h : zNs s) : (Cond.fieldLinkNest RX11 96 "EdgeAndSpeed$Text" "length" "I" "EdgeAndSpeed").before args s = true := va_Nw.use rfl (h.2 (RX11, 96, "EdgeAndSpeed$Text", "length", "I", "EdgeAndSpeed") (List.mem_of_getElem? (i := 0) rfl))
theorem zNfw_1 {s : State} {args : Array Value} (h : zNs s) : (Cond.fieldLinkNest RX11 141 "EdgeAndSpeed$Bench" "breaking" "[I" "EdgeAndSpeed").before args s = true := va_Nw.use rfl (h.2 (RX11, 141, "EdgeAndSpeed$Bench", "breaking", "[I", "EdgeAndSpeed") (List.mem_of_getElem? (i := 1) rfl))
theorem zNfw_2 {s : State} {args : Array Value} (h : zNs s) : (Cond.fieldLinkNest RX11 104 "EdgeAndSpeed$Bench" "speeds" "I" "EdgeAndSpeed").before args s = true := va_Nw.use rfl (h.2 (RX11, 104, "EdgeAndSpeed$Bench", "speeds", "I", "EdgeAndSpeed") (List.mem_of_getElem? (i := 2) rfl))
theorem zNfw_3 {s : State} {args : Array Value} (h : zNs s) : (Cond.fieldLinkNest RX7 65 "EdgeAndSpeed$Bench" "speeds" "I" "EdgeAndSpeed").before args s = true := va_Nw.use rfl (h.2 (RX7, 65, "EdgeAndSpeed$Bench", "speeds", "I", "EdgeAndSpeed") (List.mem_of_getElem? (i := 3) rfl))
theorem zNfw_4 {s : State} {args : Array Value} (h : zNs s) : (Cond.fieldLinkNest RX10 54 "EdgeAndSpeed$Bench" "pieces" "I" "EdgeAndSpeed").before args s = true := va_Nw.use rfl (h.2 (RX10, 54, "EdgeAndSpeed$Bench", "pieces", "I", "EdgeAndSpeed") (List.mem_of_getElem? (i := 4) rfl))
theorem zNfw_5 {s : State} {args : Array Value} (h : zNs s) : (Cond.fieldLinkNest RX11 107 "EdgeAndSpeed$Bench" "pieces" "I" "EdgeAndSpeed").before args s = true := va_Nw.use rfl (h.2 (RX11, 107, "EdgeAndSpeed$Bench", "pieces", "I", "EdgeAndSpeed") (List.mem_of_getElem? (i := 5) rfl))
theorem zNfw_6 {s : State} {args : Array Value} (h : zNs s) : (Cond.fieldLinkNest RX6 139 "EdgeAndSpeed$Bench" "pieces" "I" "EdgeAndSpeed").before args s = true := va_Nw.use rfl (h.2 (RX6, 139, "EdgeAndSpeed$Bench", "pieces", "I", "EdgeAndSpeed") (List.mem_of_getElem? (i := 6) rfl))
theorem zNfw_7 {s : State} {args : Array Value} (h : zNs s) : (Cond.fieldLinkNest RX11 211 "EdgeAndSpeed$Bench" "steels" "I" "EdgeAndSpeed").before args s = true := va_Nw.use rfl (h.2 (RX11, 211, "EdgeAndSpeed$Bench", "steels", "I", "EdgeAndSpeed") (List.mem_of_getElem? (i := 7) rfl))
theorem zNfw_8 {s : State} {args : Array Value} (h : zNs s) : (Cond.fieldLinkNest RX7 36 "EdgeAndSpeed$Bench" "changeMinutes" "I" "EdgeAndSpeed").before args s = true := va_Nw.use rfl (h.2 (RX7, 36, "EdgeAndSpeed$Bench", "changeMinutes", "I", "EdgeAndSpeed") (List.mem_of_getElem? (i := 8) rfl))
theorem zNfw_9 {s : State} {args : Array Value} (h : zNs s) : (Cond.fieldLinkNest RX7 44 "EdgeAndSpeed$Bench" "changePence" "I" "EdgeAndSpeed").before args s = true := va_Nw.use rfl (h.2 (RX7, 44, "EdgeAndSpeed$Bench", "changePence", "I", "EdgeAndSpeed") (List.mem_of_getElem? (i := 9) rfl))
theorem zNfw_10 {s : State} {args : Array Value} (h : zNs s) : (Cond.fieldLinkNest RX9 111 "EdgeAndSpeed$Bench" "changePence" "I" "EdgeAndSpeed").before args s = true := va_Nw.use rfl (h.2 (RX9, 111, "EdgeAndSpeed$Bench", "changePence", "I", "EdgeAndSpeed") (List.mem_of_getElem? (i := 10) rfl))
theorem zNfw_11 {s : State} {args : Array Value} (h : zNs s) : (Cond.fieldLinkNest RX7 62 "EdgeAndSpeed$Bench" "hourPence" "I" "EdgeAndSpeed").before args s = true := va_Nw.use rfl (h.2 (RX7, 62, "EdgeAndSpeed$Bench", "hourPence", "I", "EdgeAndSpeed") (List.mem_of_getElem? (i := 11) rfl))
theorem zNfw_12 {s : State} {args : Array Value} (h : zNs s) : (Cond.fieldLinkNest RX11 271 "EdgeAndSpeed$Habits" "rows" "I" "EdgeAndSpeed").before args s = true := va_Nw.use rfl (h.2 (RX11, 271, "EdgeAndSpeed$Habits", "rows", "I", "EdgeAndSpeed") (List.mem_of_getElem? (i := 12) rfl))
theorem zNfw_13 {s : State} {args : Array Value} (h : zNs s) : (Cond.fieldLinkNest RX2 58 "EdgeAndSpeed$Habits" "speed" "I" "EdgeAndSpeed").before args s = true := va_Nw.use rfl (h.2 (RX2, 58, "EdgeAndSpeed$Habits", "speed", "I", "EdgeAndSpeed") (List.mem_of_getElem? (i := 13) rfl))
theorem zNfw_14 {s : State} {args : Array Value} (h : zNs s) : (Cond.fieldLinkNest RX2 85 "EdgeAndSpeed$Habits" "limit" "I" "EdgeAndSpeed").before args s = true := va_Nw.use rfl (h.2 (RX2, 85, "EdgeAndSpeed$Habits", "limit", "I", "EdgeAndSpeed") (List.mem_of_getElem? (i := 14) rfl))
theorem zNfw_15 {s : State} {args : Array Value} (h : zNs s) : (Cond.fieldLinkNest RX2 102 "EdgeAndSpeed$Habits" "every" "I" "EdgeAndSpeed").before args s = true := va_Nw.use rfl (h.2 (RX2, 102, "EdgeAndSpeed$Habits", "every", "I", "EdgeAndSpeed") (List.mem_of_getElem? (i := 15) rfl))
theorem zNfw_16 {s : State} {args : Array Value} (h : zNs s) : (Cond.fieldLinkNest RX6 80 "EdgeAndSpeed$Measure" "bySpoilt" "J" "EdgeAndSpeed").before args s = true := va_Nw.use rfl (h.2 (RX6, 80, "EdgeAndSpeed$Measure", "bySpoilt", "J", "EdgeAndSpeed") (List.mem_of_getElem? (i := 16) rfl))
section ZL
variable {cy : Nat → ClassId} {ad a0 : Nat → Nat} {o : Nat}
theorem oX2_at : zO 74 (kC cy ad a0) 34 2 (FX2 ad) := ⟨by decide, fun _ _ => rfl⟩
theorem oX3_at : zO 74 (kC cy ad a0) 43 3 (FX3 ad) := ⟨by decide, fun _ _ => rfl⟩
theorem aX3_0 : zIA 74 (kC cy ad a0) (cy 1) 44 256 := ⟨by decide, fun _ _ => rfl⟩
theorem aX3_1 : zIA 74 (kC cy ad a0) (cy 1) 45 256 := ⟨by decide, fun _ _ => rfl⟩
theorem oX5_at : zO 74 (kC cy ad a0) 39 4 (FX5 ad) := ⟨by decide, fun _ _ => rfl⟩
theorem aX5_1 : zLA 74 (kC cy ad a0) (cy 2) 40 909 := ⟨by decide, fun _ _ => rfl⟩
theorem aX5_2 : zIA 74 (kC cy ad a0) (cy 1) 41 909 := ⟨by decide, fun _ _ => rfl⟩
theorem aX5_3 : zIA 74 (kC cy ad a0) (cy 1) 42 909 := ⟨by decide, fun _ _ => rfl⟩
theorem oX7_at : zO 74 (kC cy ad a0) 46 6 (FX7 ad) := ⟨by decide, fun _ _ => rfl⟩
theorem oX8_at : zO 74 (kC cy ad a0) 1 7 (FX8 ad) := ⟨by decide, fun _ _ => rfl⟩
theorem aX8_0 : zIA 74 (kC cy ad a0) (cy 0) 2 500 := ⟨by decide, fun _ _ => rfl⟩
theorem aX8_1 : zIA 74 (kC cy ad a0) (cy 1) 3 4 := ⟨by decide, fun _ _ => rfl⟩
theorem oX9_at : zO 74 (kC cy ad a0) 38 8 (FX9 ad) := ⟨by decide, fun _ _ => rfl⟩
theorem oX10_at : zO 74 (kC cy ad a0) 37 9 (FX10 ad) := ⟨by decide, fun _ _ => rfl⟩
theorem oX11_at : zO 74 (kC cy ad a0) 0 10 (FX11 ad) := ⟨by decide, fun _ _ => rfl⟩
theorem aX11_4 : zRA 74 (kC cy ad a0) (cy 4) 33 2 (fun n => some (ad (27 + 3 * n))) := ⟨by decide, fun _ _ => rfl⟩
theorem aX2_2 : zRA 74 (kC cy ad a0) (cy 5) 35 4 (fun n => some (ad (47 + 3 * n))) := ⟨by decide, fun _ _ => rfl⟩
theorem aX2_3 : zRA 74 (kC cy ad a0) (cy 5) 36 4 (fun n => some (ad (59 + 3 * n))) := ⟨by decide, fun _ _ => rfl⟩
/-- a bench lies at o -/
def zBat (N : Nat) (K : zK) (cy : Nat → ClassId) (ad : Nat → Nat) (o : Nat) : Prop := zO N K o 0 (FX0 ad o) ∧ zIA N K (cy 1) (o + 1) 6 ∧ zIA N K (cy 1) (o + 2) 6 ∧ zIA N K (cy 1) (o + 3) 8 ∧ zIA N K (cy 1) (o + 4) 8 ∧ zIA N K (cy 1) (o + 5) 8 ∧ zIA N K (cy 1) (o + 6) 8 ∧ zIA N K (cy 1) (o + 7) 4 ∧ zIA N K (cy 1) (o + 8) 4 ∧ zIA N K (cy 1) (o + 9) 101
theorem zBat_o {N : Nat} {K : zK} (h : zBat N K cy ad o) : zO N K o 0 (FX0 ad o) := h.1
theorem zBat_0 {N : Nat} {K : zK} (h : zBat N K cy ad o) : zIA N K (cy 1) (o + 1) 6 := h.2.1
theorem zBat_1 {N : Nat} {K : zK} (h : zBat N K cy ad o) : zIA N K (cy 1) (o + 2) 6 := h.2.2.1
theorem zBat_2 {N : Nat} {K : zK} (h : zBat N K cy ad o) : zIA N K (cy 1) (o + 3) 8 := h.2.2.2.1
theorem zBat_3 {N : Nat} {K : zK} (h : zBat N K cy ad o) : zIA N K (cy 1) (o + 4) 8 := h.2.2.2.2.1
theorem zBat_4 {N : Nat} {K : zK} (h : zBat N K cy ad o) : zIA N K (cy 1) (o + 5) 8 := h.2.2.2.2.2.1
theorem zBat_5 {N : Nat} {K : zK} (h : zBat N K cy ad o) : zIA N K (cy 1) (o + 6) 8 := h.2.2.2.2.2.2.1
theorem zBat_6 {N : Nat} {K : zK} (h : zBat N K cy ad o) : zIA N K (cy 1) (o + 7) 4 := h.2.2.2.2.2.2.2.1
theorem zBat_7 {N : Nat} {K : zK} (h : zBat N K cy ad o) : zIA N K (cy 1) (o + 8) 4 := h.2.2.2.2.2.2.2.2.1
theorem zBat_8 {N : Nat} {K : zK} (h : zBat N K cy ad o) : zIA N K (cy 1) (o + 9) 101 := h.2.2.2.2.2.2.2.2.2
theorem oX0_at (h : zBn o) : zO 74 (kC cy ad a0) o 0 (FX0 ad o) := by rcases h with rfl | rfl <;> exact ⟨by decide, fun _ _ => rfl⟩
theorem aX0_0 (h : zBn o) : zIA 74 (kC cy ad a0) (cy 1) (o + 1) 6 := by rcases h with rfl | rfl <;> exact ⟨by decide, fun _ _ => rfl⟩
theorem aX0_1 (h : zBn o) : zIA 74 (kC cy ad a0) (cy 1) (o + 2) 6 := by rcases h with rfl | rfl <;> exact ⟨by decide, fun _ _ => rfl⟩
theorem aX0_2 (h : zBn o) : zIA 74 (kC cy ad a0) (cy 1) (o + 3) 8 := by rcases h with rfl | rfl <;> exact ⟨by decide, fun _ _ => rfl⟩
theorem aX0_3 (h : zBn o) : zIA 74 (kC cy ad a0) (cy 1) (o + 4) 8 := by rcases h with rfl | rfl <;> exact ⟨by decide, fun _ _ => rfl⟩
theorem aX0_4 (h : zBn o) : zIA 74 (kC cy ad a0) (cy 1) (o + 5) 8 := by rcases h with rfl | rfl <;> exact ⟨by decide, fun _ _ => rfl⟩
theorem aX0_5 (h : zBn o) : zIA 74 (kC cy ad a0) (cy 1) (o + 6) 8 := by rcases h with rfl | rfl <;> exact ⟨by decide, fun _ _ => rfl⟩
theorem aX0_6 (h : zBn o) : zIA 74 (kC cy ad a0) (cy 1) (o + 7) 4 := by rcases h with rfl | rfl <;> exact ⟨by decide, fun _ _ => rfl⟩
theorem aX0_7 (h : zBn o) : zIA 74 (kC cy ad a0) (cy 1) (o + 8) 4 := by rcases h with rfl | rfl <;> exact ⟨by decide, fun _ _ => rfl⟩
theorem aX0_8 (h : zBn o) : zIA 74 (kC cy ad a0) (cy 1) (o + 9) 101 := by rcases h with rfl | rfl <;> exact ⟨by decide, fun _ _ => rfl⟩
theorem zBat_C (h : zBn o) : zBat 74 (kC cy ad a0) cy ad o := ⟨oX0_at h, aX0_0 h, aX0_1 h, aX0_2 h, aX0_3 h, aX0_4 h, aX0_5 h, aX0_6 h, aX0_7 h, aX0_8 h⟩
theorem zHn_3 (h : zHn o) : o = 24 ∨ o = 27 ∨ o = 30 := by omega
theorem oX1_at (h : zHn o) : zO 74 (kC cy ad a0) o 1 (FX1 ad o) := by rcases zHn_3 h with rfl | rfl | rfl <;> exact ⟨by decide, fun _ _ => rfl⟩
theorem aX1_0 (h : zHn o) : zIA 74 (kC cy ad a0) (cy 1) (o + 1) 20 := by rcases zHn_3 h with rfl | rfl | rfl <;> exact ⟨by decide, fun _ _ => rfl⟩
theorem aX1_1 (h : zHn o) : zIA 74 (kC cy ad a0) (cy 1) (o + 2) 20 := by rcases zHn_3 h with rfl | rfl | rfl <;> exact ⟨by decide, fun _ _ => rfl⟩
theorem oX6_at (h : zPn o) : zO 74 (kC cy ad a0) o 5 (FX6 ad a0 o) := ⟨h.2.1, fun i j => by unfold kC; rw [if_neg (by omega), if_pos h.2.2]⟩
theorem aX6_1 (h : zPn o) : zLA 74 (kC cy ad a0) (cy 2) (o + 1) 6464 := ⟨by omega, fun i j => by unfold kC; rw [if_neg (by omega), if_neg (by omega), if_pos (by omega)]⟩
theorem aX6_2 (h : zPn o) : zIA 74 (kC cy ad a0) (cy 0) (o + 2) 6464 := ⟨by omega, fun i j => by unfold kC; rw [if_neg (by omega), if_neg (by omega), if_neg (by omega)]⟩
theorem oX12_at : zO 25 (kM cy ad) 0 11 (FX12 ad) := ⟨by decide, fun _ _ => rfl⟩
theorem aX12_1 : zIA 25 (kM cy ad) (cy 0) 1 500 := ⟨by decide, fun _ _ => rfl⟩
theorem aX12_3 : zIA 25 (kM cy ad) (cy 1) 2 4 := ⟨by decide, fun _ _ => rfl⟩
theorem aX12_4 : zIA 25 (kM cy ad) (cy 1) 3 2 := ⟨by decide, fun _ _ => rfl⟩
theorem aX12_5 : zIA 25 (kM cy ad) (cy 1) 4 24 := ⟨by decide, fun _ _ => rfl⟩
theorem aX12_6 : zIA 25 (kM cy ad) (cy 1) 5 2 := ⟨by decide, fun _ _ => rfl⟩
theorem aX12_7 : zIA 25 (kM cy ad) (cy 1) 6 64 := ⟨by decide, fun _ _ => rfl⟩
theorem aX12_8 : zIA 25 (kM cy ad) (cy 1) 7 2 := ⟨by decide, fun _ _ => rfl⟩
theorem aX12_9 : zIA 25 (kM cy ad) (cy 1) 8 400 := ⟨by decide, fun _ _ => rfl⟩
theorem aX12_10 : zIA 25 (kM cy ad) (cy 1) 9 2 := ⟨by decide, fun _ _ => rfl⟩
theorem aX12_11 : zIA 25 (kM cy ad) (cy 1) 10 16 := ⟨by decide, fun _ _ => rfl⟩
theorem aX12_12 : zIA 25 (kM cy ad) (cy 1) 11 10 := ⟨by decide, fun _ _ => rfl⟩
theorem aX12_14 : zIA 25 (kM cy ad) (cy 1) 12 9 := ⟨by decide, fun _ _ => rfl⟩
theorem aX12_15 : zIA 25 (kM cy ad) (cy 1) 13 3 := ⟨by decide, fun _ _ => rfl⟩
theorem aX12_16 : zIA 25 (kM cy ad) (cy 1) 14 120 := ⟨by decide, fun _ _ => rfl⟩
theorem aX12_17 : zIA 25 (kM cy ad) (cy 1) 15 7272 := ⟨by decide, fun _ _ => rfl⟩
theorem aX12_18 : zLA 25 (kM cy ad) (cy 2) 16 7272 := ⟨by decide, fun _ _ => rfl⟩
theorem aX12_19 : zIA 25 (kM cy ad) (cy 1) 17 7272 := ⟨by decide, fun _ _ => rfl⟩
theorem aX12_20 : zIA 25 (kM cy ad) (cy 3) 18 7272 := ⟨by decide, fun _ _ => rfl⟩
theorem aX12_25 : zIA 25 (kM cy ad) (cy 1) 19 909 := ⟨by decide, fun _ _ => rfl⟩
theorem aX12_26 : zIA 25 (kM cy ad) (cy 1) 20 909 := ⟨by decide, fun _ _ => rfl⟩
theorem aX12_27 : zIA 25 (kM cy ad) (cy 1) 21 909 := ⟨by decide, fun _ _ => rfl⟩
theorem aX12_28 : zIA 25 (kM cy ad) (cy 1) 22 130 := ⟨by decide, fun _ _ => rfl⟩
theorem aX12_29 : zIA 25 (kM cy ad) (cy 1) 23 130 := ⟨by decide, fun _ _ => rfl⟩
theorem aX12_30 : zIA 25 (kM cy ad) (cy 1) 24 4 := ⟨by decide, fun _ _ => rfl⟩
theorem zin_lt {i : Int32} {n : Nat} (h : ¬ (i < 0 ∨ n ≤ i.toNatClampNeg)) : i.toNatClampNeg < n := Nat.not_le.mp (fun q => h (Or.inr q))
theorem zHn_k {i : Int32} (h : ¬ (i < 0 ∨ 2 ≤ i.toNatClampNeg)) : zHn (27 + 3 * i.toNatClampNeg) := by have := zin_lt h; omega
theorem zPn_k {i : Int32} (h : ¬ (i < 0 ∨ 4 ≤ i.toNatClampNeg)) : zPn (47 + 3 * i.toNatClampNeg) := by have := zin_lt h; omega
theorem zPn_q {i : Int32} (h : ¬ (i < 0 ∨ 4 ≤ i.toNatClampNeg)) : zPn (59 + 3 * i.toNatClampNeg) := by have := zin_lt h; omega
theorem zby_set {i : Nat → Int32} {j : Nat → Int64} {n : Nat} (h : n < 4) : FX6 ad a0 o (va_up i 3 (nI n)) j = (FX6 ad a0 o i j).set 3 (.ref (a0 n)) := by
  have e : (nI n).toNatClampNeg = n := nI_clamp (by omega)
  have e1 : va_up i 3 (nI n) 3 = nI n := if_pos rfl
  have e2 : ∀ k, k ≠ 3 → va_up i 3 (nI n) k = i k := fun k hk => if_neg hk
  simp [FX6, e, e1, e2]
theorem zTab {x : Int32} {lo hi : Int} (h : ∀ v : Int, lo ≤ v → v ≤ hi → x.toInt = v → False) : x.toInt < lo ∨ hi < x.toInt := by
  by_cases h1 : x.toInt < lo
  · exact Or.inl h1
  · by_cases h2 : hi < x.toInt
    · exact Or.inr h2
    · exact (h x.toInt (by omega) (by omega) rfl).elim
theorem zNe {x y : Int32} (h : ¬ x = y) : ¬ x.toInt = y.toInt := fun q => h (Int32.toInt_inj.mp q)
end ZL
section ZR
variable {p : Program} {l : Launch} {e : Env} {R : Room} {s : State} {m : MethodId} {args : Array Value} {below : List Frame} {meth : Method} {c : Code} {H H0 : Heap} {locs : List Loc} {cells slots : Nat} {Q : State → Prop} {pc : Nat} {ls : Array Slot} {cc : ByteArray} {D : va_G} {a0 : Nat → Nat} {A : Nat → Prop} {cy : Nat → ClassId} {ad : Nat → Nat} {rest : List Value} {N k n : Nat} {K : zK} {I I2 : zI} {J J2 : zJ} {i x : Int32} {u : Int64} {a : Nat} {ws w' : va_W} {tys : List (ClassId × FieldType)} {cl : List vw_C}
theorem zast_i (hexec : p.tables.exec = Jvm.exec) (hb : c.code = cc) (hK : va_K D vwCl (zTy cy) s) (hP : va_P D vwCl (zw N K ad I J) H) (hD : va_D A (zw N K ad I J)) (hS : va_S A H0 H locs) (h : zIA N K (cy 1) k n) (hin : ¬ (i < 0 ∨ n ≤ i.toNatClampNeg)) (hdg : decode cc pc = .ok (.iastore, 1)) (e2 : I2 = va_up I k (upd (I k) i.toNatClampNeg x)) (kk : ∀ (H1 : Heap) (locs1 : List Loc), va_P D vwCl (zw N K ad I2 J) H1 → va_S A H0 H1 locs1 → W p l e R s m args below meth c H1 locs1 cells slots Q (F0 m (pc + 1) ls rest)) : W p l e R s m args below meth c H locs cells slots Q (F0 m pc ls (.int x :: .int i :: .ref (ad k) :: rest)) :=
  va_iast hexec hb hK hP hD hS k 1 h.get rfl hin hdg (fun H1 l1 hP1 _ hS1 => kk H1 l1 (by rw [h.set e2] at hP1; exact hP1) hS1)
theorem zast_b (hexec : p.tables.exec = Jvm.exec) (hb : c.code = cc) (hK : va_K D vwCl (zTy cy) s) (hP : va_P D vwCl (zw N K ad I J) H) (hD : va_D A (zw N K ad I J)) (hS : va_S A H0 H locs) (h : zIA N K (cy 0) k n) (hin : ¬ (i < 0 ∨ n ≤ i.toNatClampNeg)) (hdg : decode cc pc = .ok (.bastore, 1)) (e2 : I2 = va_up I k (upd (I k) i.toNatClampNeg (vp_nar .byte x))) (kk : ∀ (H1 : Heap) (locs1 : List Loc), va_P D vwCl (zw N K ad I2 J) H1 → va_S A H0 H1 locs1 → W p l e R s m args below meth c H1 locs1 cells slots Q (F0 m (pc + 1) ls rest)) : W p l e R s m args below meth c H locs cells slots Q (F0 m pc ls (.int x :: .int i :: .ref (ad k) :: rest)) :=
  va_bast hexec hb hK hP hD hS k 0 h.get rfl hin hdg (fun H1 l1 hP1 _ hS1 => kk H1 l1 (by rw [h.set e2] at hP1; exact hP1) hS1)
theorem zast_z (hexec : p.tables.exec = Jvm.exec) (hb : c.code = cc) (hK : va_K D vwCl (zTy cy) s) (hP : va_P D vwCl (zw N K ad I J) H) (hD : va_D A (zw N K ad I J)) (hS : va_S A H0 H locs) (h : zIA N K (cy 3) k n) (hin : ¬ (i < 0 ∨ n ≤ i.toNatClampNeg)) (hdg : decode cc pc = .ok (.bastore, 1)) (e2 : I2 = va_up I k (upd (I k) i.toNatClampNeg (vp_nar .boolean x))) (kk : ∀ (H1 : Heap) (locs1 : List Loc), va_P D vwCl (zw N K ad I2 J) H1 → va_S A H0 H1 locs1 → W p l e R s m args below meth c H1 locs1 cells slots Q (F0 m (pc + 1) ls rest)) : W p l e R s m args below meth c H locs cells slots Q (F0 m pc ls (.int x :: .int i :: .ref (ad k) :: rest)) :=
  va_zast hexec hb hK hP hD hS k 3 h.get rfl hin hdg (fun H1 l1 hP1 _ hS1 => kk H1 l1 (by rw [h.set e2] at hP1; exact hP1) hS1)
theorem zast_l (hexec : p.tables.exec = Jvm.exec) (hb : c.code = cc) (hK : va_K D vwCl (zTy cy) s) (hP : va_P D vwCl (zw N K ad I J) H) (hD : va_D A (zw N K ad I J)) (hS : va_S A H0 H locs) (h : zLA N K (cy 2) k n) (hin : ¬ (i < 0 ∨ n ≤ i.toNatClampNeg)) (hdg : decode cc pc = .ok (.lastore, 1)) (e2 : J2 = va_up J k (vp_updL (J k) i.toNatClampNeg u)) (kk : ∀ (H1 : Heap) (locs1 : List Loc), va_P D vwCl (zw N K ad I J2) H1 → va_S A H0 H1 locs1 → W p l e R s m args below meth c H1 locs1 cells slots Q (F0 m (pc + 1) ls rest)) : W p l e R s m args below meth c H locs cells slots Q (F0 m pc ls (.long u :: .int i :: .ref (ad k) :: rest)) :=
  va_last hexec hb hK hP hD hS k 2 h.get rfl hin hdg (fun H1 l1 hP1 _ hS1 => kk H1 l1 (by rw [h.set e2] at hP1; exact hP1) hS1)
theorem zcopy {k0 k1 : Nat} {own : String} {index : Nat} (hexec : p.tables.exec = Jvm.exec) (hb : c.code = cc) (hml : c.maxLocals = ls.size) (hown : s.vm.findClass own = some m.cls) (hlink : (Cond.methodLink own index arraycopyName).before args s = true) (hnat : (Cond.native arraycopyName).before args s = true) (hstat : (Cond.static arraycopyName).before args s = true) (hini : (Cond.initialized "java/lang/System").before args s = true) (hK : va_K D vwCl (zTy cy) s) (hP : va_P D vwCl (zw N K ad I J) H) (hD : va_D A (zw N K ad I J)) (hS : va_S A H0 H locs) (h0 : zIA N K (cy 1) k0 20) (h1 : zIA N K (cy 1) k1 20) (hframes : 1 ≤ R.frames) (hlocals : (rest.map fun v => v.category).sum + (nativeFrameWords "java/lang/System" "arraycopy" 5 + 11) ≤ R.locals) (hdg : decode cc pc = .ok (.invokestatic index, 3)) (e2 : I2 = va_up I k1 (va_cpy (I k0) (I k1) 0 0 20)) (kk : ∀ (H1 : Heap) (locs1 : List Loc), va_P D vwCl (zw N K ad I2 J) H1 → va_S A H0 H1 locs1 → W p l e R s m args below meth c H1 locs1 cells slots Q (F0 m (pc + 3) ls rest)) : W p l e R s m args below meth c H locs cells slots Q (F0 m pc ls (.int 20 :: .int 0 :: .ref (ad k1) :: .int 0 :: .ref (ad k0) :: rest)) :=
  va_copyi hexec hb hml hown hlink hnat hstat hini hK hP hD hS k0 k1 1 1 h0.get h1.get rfl rfl rfl (by decide) (by decide) (by decide) (by decide) (by decide) (fun _ _ => rfl) hframes hlocals hdg (fun H1 l1 hP1 _ hS1 => kk H1 l1 (by
    have hP2 : va_P D vwCl ((zw N K ad I J).set k1 (ad k1, .inl (cy 1, 20, .inl (va_cpy (I k0) (I k1) 0 0 20)))) H1 := hP1
    rw [h1.set e2] at hP2
    exact hP2) hS1)
theorem zput (hexec : p.tables.exec = Jvm.exec) (hb : c.code = cc) {own ref C : String} {T : u_T} {N ci index : Nat} {Ts : List Cond} (hts : ∀ w ∈ Ts, w.before args s = true) (hin : ∀ w ∈ u_ws C T N, w ∈ Ts) (ty0 : Nat → FieldType) (hty : ∀ k, k < N → parseFieldDescriptor (T k).2.2.1 = some (ty0 k)) (hnm : ∀ a, a < N → ∀ b, b < N → a ≠ b → (T a).2.1 ≠ (T b).2.1) (hown : s.vm.findClass own = some m.cls) (hK : va_K D cl tys s) (hP : va_P D cl ws H) (hD : va_D A ws) (hS0 : va_S A H0 H locs) (q0 : Nat) {fs : List Value} (he : ws[q0]? = some (a, .inr (ci, fs))) (hc : cl[ci]? = some (C, T, N)) (k : Nat) (hk : k < N) (hlink : (Cond.fieldLink own index ref (T k).2.1 (T k).2.2.1).before args s = true) (hsame : ∀ x, s.fieldFound? (T k).1 (T k).2.1 (T k).2.2.1 = some x → s.fieldFound? ref (T k).2.1 (T k).2.2.1 = some x) (hfin : (T k).2.2.2 = false) {ty : FieldType} {v : Value} (hd : parseFieldDescriptor (T k).2.2.1 = some ty) (hn : narrow ty v = v) (hfit : fits ty v = true) (hl : k < fs.length) (hdg : decode cc pc = .ok (.putfield index, 3)) (hset : ws.set q0 (a, .inr (ci, fs.set k v)) = w') (kk : ∀ (H1 : Heap) (locs1 : List Loc), va_P D cl w' H1 → va_S A H0 H1 locs1 → W p l e R s m args below meth c H1 locs1 cells slots Q (F0 m (pc + 3) ls rest)) : W p l e R s m args below meth c H locs cells slots Q (F0 m pc ls (v :: .ref a :: rest)) :=
  va_put hexec hb hts hin ty0 hty hnm hown hK hP hD hS0 q0 he hc k hk hlink hsame hfin hd hn hfit hl hdg (fun H1 l1 hP1 _ hS1 => kk H1 l1 (by rw [hset] at hP1; exact hP1) hS1)
theorem zputN (hexec : p.tables.exec = Jvm.exec) (hb : c.code = cc) {own ref C host : String} {T : u_T} {N ci index : Nat} {Ts : List Cond} (hts : ∀ w ∈ Ts, w.before args s = true) (hin : ∀ w ∈ u_ws C T N, w ∈ Ts) (ty0 : Nat → FieldType) (hty : ∀ k, k < N → parseFieldDescriptor (T k).2.2.1 = some (ty0 k)) (hnm : ∀ a, a < N → ∀ b, b < N → a ≠ b → (T a).2.1 ≠ (T b).2.1) (hown : s.vm.findClass own = some m.cls) (hK : va_K D cl tys s) (hP : va_P D cl ws H) (hD : va_D A ws) (hS0 : va_S A H0 H locs) (q0 : Nat) {fs : List Value} (he : ws[q0]? = some (a, .inr (ci, fs))) (hc : cl[ci]? = some (C, T, N)) (k : Nat) (hk : k < N) (hlink : (Cond.fieldLinkNest own index ref (T k).2.1 (T k).2.2.1 host).before args s = true) (hsame : ∀ x, s.fieldFound? (T k).1 (T k).2.1 (T k).2.2.1 = some x → s.fieldFound? ref (T k).2.1 (T k).2.2.1 = some x) (hfin : (T k).2.2.2 = false) {ty : FieldType} {v : Value} (hd : parseFieldDescriptor (T k).2.2.1 = some ty) (hn : narrow ty v = v) (hfit : fits ty v = true) (hl : k < fs.length) (hdg : decode cc pc = .ok (.putfield index, 3)) (hset : ws.set q0 (a, .inr (ci, fs.set k v)) = w') (kk : ∀ (H1 : Heap) (locs1 : List Loc), va_P D cl w' H1 → va_S A H0 H1 locs1 → W p l e R s m args below meth c H1 locs1 cells slots Q (F0 m (pc + 3) ls rest)) : W p l e R s m args below meth c H locs cells slots Q (F0 m pc ls (v :: .ref a :: rest)) :=
  va_putN hexec hb hts hin ty0 hty hnm hown hK hP hD hS0 q0 he hc k hk hlink hsame hfin hd hn hfit hl hdg (fun H1 l1 hP1 _ hS1 => kk H1 l1 (by rw [hset] at hP1; exact hP1) hS1)
theorem zgetfN (hexec : p.tables.exec = Jvm.exec) (hb : c.code = cc) {o n d own ref host : String} {index q : Nat} {v : Value} (hE : va_OF o n d v q A s s.heap) (hS : va_S A s.heap H locs) (hown : s.vm.findClass own = some m.cls) (hlink : (Cond.fieldLinkNest own index ref n d host).before args s = true) (hsame : ∀ x, s.fieldFound? o n d = some x → s.fieldFound? ref n d = some x) (hdg : decode cc pc = .ok (.getfield index, 3))
    (kk : W p l e R s m args below meth c H locs cells slots Q (F0 m (pc + 3) ls (v :: rest))) : W p l e R s m args below meth c H locs cells slots Q (F0 m pc ls (.ref q :: rest)) := by
  obtain ⟨cf, k, fi, f, cell, h1, h2, h3, h4, h5, h6⟩ := hE.kept hS.2.1
  exact va_Wgetf hexec hb hown hlink (hsame _ h1) h2 h3 h4 (v := v) h5 (g := F0 m pc ls (.ref q :: rest)) rfl rfl hdg kk
theorem zMrecv {t : Nat} (h : va_Z "EdgeAndSpeed$Measure" (zMn n) "LEdgeAndSpeed$Measure;" (.ref t) A s s.heap ∧ va_O "EdgeAndSpeed$Measure" t A s s.heap ∧ ∀ f, f < 5 → va_OF "EdgeAndSpeed$Measure" (zMf f) "J" (.long (zMv n f)) t A s s.heap) (hS : va_S A s.heap H locs) : ∃ cell : Cell, H[t]? = some cell ∧ cell.vm.isStatics = false ∧ s.vm.findClass "EdgeAndSpeed$Measure" = some cell.cls := by
  obtain ⟨cell, h1, h2, h3, -⟩ := h.2.1.kept hS.2.1
  exact ⟨cell, h1, h2, h3⟩
theorem zht {t : State} {w : va_W} (ht : t.heap = H) (hP : va_P D vwCl w H) : va_P D vwCl w t.heap := by rw [ht]; exact hP
end ZR
