/-- the two objects as they are made -/
def op_init (Rel : zI → zJ → zI → zJ → Prop) : Prop := ∃ (rI I1 I2 I3 I4 I5 I6 I7 I8 I9 I10 I11 : zI), f_X0_layFirst (fun _ _ => 0) (fun _ _ => 0) 0 = some rI ∧ f_X12_begins (fun _ _ => 0) (fun _ _ => 0) 0 = some I1 ∧ I2 = va_up I1 3 (upd (I1 3) (0 : Int32).toNatClampNeg 1) ∧ I3 = va_up I2 4 (upd (I2 4) (0 : Int32).toNatClampNeg 10) ∧ I4 = va_up I3 4 (upd (I3 4) (1 : Int32).toNatClampNeg 10) ∧ I5 = va_up I4 5 (upd (I4 5) (0 : Int32).toNatClampNeg 1) ∧ I6 = va_up I5 6 (upd (I5 6) (0 : Int32).toNatClampNeg 10) ∧ I7 = va_up I6 6 (upd (I6 6) (1 : Int32).toNatClampNeg 1) ∧ I8 = va_up I7 6 (upd (I7 6) (2 : Int32).toNatClampNeg 100) ∧ I9 = va_up I8 6 (upd (I8 6) (3 : Int32).toNatClampNeg 10) ∧ f_X12_ends I9 (fun _ _ => 0) 0 = some I10 ∧ f_X12_handsBegin I10 (fun _ _ => 0) = some I11 ∧ Rel (zI0C rI) (fun _ _ => 0) I11 (fun _ _ => 0)
set_option maxHeartbeats 8000000 in
set_option maxRecDepth 100000 in
theorem zsur {s : State} {b : Nat} (hts : ∀ w ∈ lw_tbl, w.before #[Value.ref b] s = true) (hgv : (Jvm.Cond.and given_1 narrow_1).before #[Value.ref b] s = true) : ∃ (D : va_G) (a0 : Nat → Nat) (cy : Nat → ClassId), zEA D a0 (fun q : Nat => s.heap.size ≤ q) cy s := by
  have hfl := flat_of_before _ hgv
  have hold : ∀ a : Nat, a < s.heap.size → ¬ (fun q : Nat => s.heap.size ≤ q) a := fun a h => Nat.not_le.mpr h
  obtain ⟨c0, iS0, hKn0⟩ := u_known (C := RX0) (T := TX0) (N := 17) (n := 17) hts wsLP_49 (hts (.instantiable RX0 17) (wsTP_in _ (pk2_mem (P := wsTP) (q := (1, 49)) rfl)))
  obtain ⟨c1, iS1, hKn1⟩ := u_known (C := RX1) (T := TX1) (N := 6) (n := 6) hts wsLP_50 (hts (.instantiable RX1 6) (wsTP_in _ (pk2_mem (P := wsTP) (q := (1, 118)) rfl)))
  obtain ⟨c2, iS2, hKn2⟩ := u_known (C := RX2) (T := TX2) (N := 4) (n := 4) hts wsLP_51 (hts (.instantiable RX2 4) (wsTP_in _ (pk2_mem (P := wsTP) (q := (1, 207)) rfl)))
  obtain ⟨c3, iS3, hKn3⟩ := u_known (C := RX3) (T := TX3) (N := 5) (n := 5) hts wsLP_52 (hts (.instantiable RX3 5) (wsTP_in _ (pk2_mem (P := wsTP) (q := (1, 148)) rfl)))
  obtain ⟨c4, iS4, hKn4⟩ := u_known (C := RX5) (T := TX5) (N := 4) (n := 4) hts wsLP_53 (hts (.instantiable RX5 4) (wsTP_in _ (pk2_mem (P := wsTP) (q := (2, 91)) rfl)))
  obtain ⟨c5, iS5, hKn5⟩ := u_known (C := RX6) (T := TX6) (N := 7) (n := 7) hts wsLP_54 (hts (.instantiable RX6 7) (wsTP_in _ (pk2_mem (P := wsTP) (q := (1, 214)) rfl)))
  obtain ⟨c6, iS6, hKn6⟩ := u_known (C := RX7) (T := TX7) (N := 1) (n := 1) hts wsLP_55 (hts (.instantiable RX7 1) (wsTP_in _ (pk2_mem (P := wsTP) (q := (2, 110)) rfl)))
  obtain ⟨c7, iS7, hKn7⟩ := u_known (C := RX8) (T := TX8) (N := 4) (n := 4) hts wsLP_56 (hts (.instantiable RX8 4) (wsTP_in _ (pk2_mem (P := wsTP) (q := (1, 27)) rfl)))
  obtain ⟨c8, iS8, hKn8⟩ := u_known (C := RX9) (T := TX9) (N := 10) (n := 10) hts wsLP_57 (hts (.instantiable RX9 10) (wsTP_in _ (pk2_mem (P := wsTP) (q := (2, 54)) rfl)))
  obtain ⟨c9, iS9, hKn9⟩ := u_known (C := RX10) (T := TX10) (N := 9) (n := 9) hts wsLP_58 (hts (.instantiable RX10 9) (wsTP_in _ (pk2_mem (P := wsTP) (q := (2, 18)) rfl)))
  obtain ⟨c10, iS10, hKn10⟩ := u_known (C := RX11) (T := TX11) (N := 12) (n := 12) hts wsLP_59 (hts (.instantiable RX11 12) (wsTP_in _ (pk2_mem (P := wsTP) (q := (1, 19)) rfl)))
  obtain ⟨c11, iS11, hKn11⟩ := u_known (C := RX12) (T := TX12) (N := 31) (n := 31) hts wsLP_60 (hts (.instantiable RX12 31) (wsTP_in _ (pk2_mem (P := wsTP) (q := (5, 61)) rfl)))
  obtain ⟨dC, dI, hKc⟩ : ∃ (dC : Nat → ClassId) (dI : Nat → Nat → Nat), ∀ (k : Nat) (q : vw_C), vwCl[k]? = some q → u_Kn s q.1 q.2.1 q.2.2 (dC k) (dI k) := by
    refine ⟨fun k => if k = 0 then c0 else if k = 1 then c1 else if k = 2 then c2 else if k = 3 then c3 else if k = 4 then c4 else if k = 5 then c5 else if k = 6 then c6 else if k = 7 then c7 else if k = 8 then c8 else if k = 9 then c9 else if k = 10 then c10 else c11, fun k => if k = 0 then iS0 else if k = 1 then iS1 else if k = 2 then iS2 else if k = 3 then iS3 else if k = 4 then iS4 else if k = 5 then iS5 else if k = 6 then iS6 else if k = 7 then iS7 else if k = 8 then iS8 else if k = 9 then iS9 else if k = 10 then iS10 else iS11, ?_⟩
    intro k q hq
    match k, hq with
    | 0, hq => cases hq; exact hKn0
    | 1, hq => cases hq; exact hKn1
    | 2, hq => cases hq; exact hKn2
    | 3, hq => cases hq; exact hKn3
    | 4, hq => cases hq; exact hKn4
    | 5, hq => cases hq; exact hKn5
    | 6, hq => cases hq; exact hKn6
    | 7, hq => cases hq; exact hKn7
    | 8, hq => cases hq; exact hKn8
    | 9, hq => cases hq; exact hKn9
    | 10, hq => cases hq; exact hKn10
    | 11, hq => cases hq; exact hKn11
    | k + 12, hq => simp [vwCl] at hq
  obtain ⟨y0, kA0, cm0, hf0, hk0, hd0⟩ := Cond.arrayClass_spec (hts (.arrayClass .byte) (wsTP_in _ (pk2_mem (P := wsTP) (q := (1, 46)) rfl)))
  obtain ⟨y1, kA1, cm1, hf1, hk1, hd1⟩ := Cond.arrayClass_spec (hts (.arrayClass .int) (wsTP_in _ (pk2_mem (P := wsTP) (q := (1, 47)) rfl)))
  obtain ⟨y2, kA2, cm2, hf2, hk2, hd2⟩ := Cond.arrayClass_spec (hts (.arrayClass .long) (wsTP_in _ (pk2_mem (P := wsTP) (q := (2, 3)) rfl)))
  obtain ⟨y3, kA3, cm3, hf3, hk3, hd3⟩ := Cond.arrayClass_spec (hts (.arrayClass .boolean) (wsTP_in _ (pk2_mem (P := wsTP) (q := (5, 172)) rfl)))
  have hao4 := hts (.arrayOver (.object "EdgeAndSpeed$Habits")) (wsTP_in _ (pk2_mem (P := wsTP) (q := (1, 146)) rfl))
  obtain ⟨cm4, y4, kA4, hc4, -, hk4, hd4, hf4⟩ := Cond.arrayOver_spec hao4
  have hao5 := hts (.arrayOver (.object "EdgeAndSpeed$Plan")) (wsTP_in _ (pk2_mem (P := wsTP) (q := (1, 213)) rfl))
  obtain ⟨cm5, y5, kA5, hc5, -, hk5, hd5, hf5⟩ := Cond.arrayOver_spec hao5
  obtain ⟨cy, hcy⟩ : ∃ cy : Nat → ClassId, cy = fun k => if k = 0 then y0 else if k = 1 then y1 else if k = 2 then y2 else if k = 3 then y3 else if k = 4 then y4 else y5 := ⟨_, rfl⟩
  have hK : va_K (dC, dI) vwCl (zTy cy) s := by
    refine ⟨hKc, fun k q h => ?_⟩
    subst hcy
    match k, h with
    | 0, h => cases h; exact ⟨fun n z => ⟨fun k h => (by cases h), kA0, hk0, cm0, hd0⟩, hf0⟩
    | 1, h => cases h; exact ⟨fun n z => ⟨fun k h => (by cases h), kA1, hk1, cm1, hd1⟩, hf1⟩
    | 2, h => cases h; exact ⟨fun n z => ⟨fun k h => (by cases h), kA2, hk2, cm2, hd2⟩, hf2⟩
    | 3, h => cases h; exact ⟨fun n z => ⟨fun k h => (by cases h), kA3, hk3, cm3, hd3⟩, hf3⟩
    | 4, h => cases h; exact ⟨fun n z => ⟨fun k h => (by cases h), kA4, hk4, cm4, hd4⟩, kA4, cm4, hk4, hd4, hc4, hf4⟩
    | 5, h => cases h; exact ⟨fun n z => ⟨fun k h => (by cases h), kA5, hk5, cm5, hd5⟩, kA5, cm5, hk5, hd5, hc5, hf5⟩
    | k + 6, h => simp [zTy] at h
  have hex0 : (Cond.exactly (.static "EdgeAndSpeed$Measure" "VALUE" "LEdgeAndSpeed$Measure;") "EdgeAndSpeed$Measure").before #[Value.ref b] s = true := hfl _ (by decide +kernel)
  obtain ⟨a0, -, -, -, ha0, -⟩ := Cond.exactly_spec (args := #[Value.ref b]) (first := s) (o := none) (s := s) (idx := []) hex0
  have hfe0_0 : (Cond.eq (.field (.static "EdgeAndSpeed$Measure" "VALUE" "LEdgeAndSpeed$Measure;") "EdgeAndSpeed$Measure" "byPenny" "J") (.long 6000)).before #[Value.ref b] s = true := hfl _ (by decide +kernel)
  have hfe0_1 : (Cond.eq (.field (.static "EdgeAndSpeed$Measure" "VALUE" "LEdgeAndSpeed$Measure;") "EdgeAndSpeed$Measure" "byDone" "J") (.long 0)).before #[Value.ref b] s = true := hfl _ (by decide +kernel)
  have hfe0_2 : (Cond.eq (.field (.static "EdgeAndSpeed$Measure" "VALUE" "LEdgeAndSpeed$Measure;") "EdgeAndSpeed$Measure" "bySpoilt" "J") (.long 0)).before #[Value.ref b] s = true := hfl _ (by decide +kernel)
  have hfe0_3 : (Cond.eq (.field (.static "EdgeAndSpeed$Measure" "VALUE" "LEdgeAndSpeed$Measure;") "EdgeAndSpeed$Measure" "byMinutes" "J") (.long 0)).before #[Value.ref b] s = true := hfl _ (by decide +kernel)
  have hfe0_4 : (Cond.eq (.field (.static "EdgeAndSpeed$Measure" "VALUE" "LEdgeAndSpeed$Measure;") "EdgeAndSpeed$Measure" "byCost" "J") (.long (-1))).before #[Value.ref b] s = true := hfl _ (by decide +kernel)
  have hex1 : (Cond.exactly (.static "EdgeAndSpeed$Measure" "HASTE" "LEdgeAndSpeed$Measure;") "EdgeAndSpeed$Measure").before #[Value.ref b] s = true := hfl _ (by decide +kernel)
  obtain ⟨a1, -, -, -, ha1, -⟩ := Cond.exactly_spec (args := #[Value.ref b]) (first := s) (o := none) (s := s) (idx := []) hex1
  have hfe1_0 : (Cond.eq (.field (.static "EdgeAndSpeed$Measure" "HASTE" "LEdgeAndSpeed$Measure;") "EdgeAndSpeed$Measure" "byPenny" "J") (.long 0)).before #[Value.ref b] s = true := hfl _ (by decide +kernel)
  have hfe1_1 : (Cond.eq (.field (.static "EdgeAndSpeed$Measure" "HASTE" "LEdgeAndSpeed$Measure;") "EdgeAndSpeed$Measure" "byDone" "J") (.long 100000)).before #[Value.ref b] s = true := hfl _ (by decide +kernel)
  have hfe1_2 : (Cond.eq (.field (.static "EdgeAndSpeed$Measure" "HASTE" "LEdgeAndSpeed$Measure;") "EdgeAndSpeed$Measure" "bySpoilt" "J") (.long 0)).before #[Value.ref b] s = true := hfl _ (by decide +kernel)
  have hfe1_3 : (Cond.eq (.field (.static "EdgeAndSpeed$Measure" "HASTE" "LEdgeAndSpeed$Measure;") "EdgeAndSpeed$Measure" "byMinutes" "J") (.long (-1))).before #[Value.ref b] s = true := hfl _ (by decide +kernel)
  have hfe1_4 : (Cond.eq (.field (.static "EdgeAndSpeed$Measure" "HASTE" "LEdgeAndSpeed$Measure;") "EdgeAndSpeed$Measure" "byCost" "J") (.long 0)).before #[Value.ref b] s = true := hfl _ (by decide +kernel)
  have hex2 : (Cond.exactly (.static "EdgeAndSpeed$Measure" "MINUTES" "LEdgeAndSpeed$Measure;") "EdgeAndSpeed$Measure").before #[Value.ref b] s = true := hfl _ (by decide +kernel)
  obtain ⟨a2, -, -, -, ha2, -⟩ := Cond.exactly_spec (args := #[Value.ref b]) (first := s) (o := none) (s := s) (idx := []) hex2
  have hfe2_0 : (Cond.eq (.field (.static "EdgeAndSpeed$Measure" "MINUTES" "LEdgeAndSpeed$Measure;") "EdgeAndSpeed$Measure" "byPenny" "J") (.long 0)).before #[Value.ref b] s = true := hfl _ (by decide +kernel)
  have hfe2_1 : (Cond.eq (.field (.static "EdgeAndSpeed$Measure" "MINUTES" "LEdgeAndSpeed$Measure;") "EdgeAndSpeed$Measure" "byDone" "J") (.long 0)).before #[Value.ref b] s = true := hfl _ (by decide +kernel)
  have hfe2_2 : (Cond.eq (.field (.static "EdgeAndSpeed$Measure" "MINUTES" "LEdgeAndSpeed$Measure;") "EdgeAndSpeed$Measure" "bySpoilt" "J") (.long 0)).before #[Value.ref b] s = true := hfl _ (by decide +kernel)
  have hfe2_3 : (Cond.eq (.field (.static "EdgeAndSpeed$Measure" "MINUTES" "LEdgeAndSpeed$Measure;") "EdgeAndSpeed$Measure" "byMinutes" "J") (.long 1)).before #[Value.ref b] s = true := hfl _ (by decide +kernel)
  have hfe2_4 : (Cond.eq (.field (.static "EdgeAndSpeed$Measure" "MINUTES" "LEdgeAndSpeed$Measure;") "EdgeAndSpeed$Measure" "byCost" "J") (.long 0)).before #[Value.ref b] s = true := hfl _ (by decide +kernel)
  have hex3 : (Cond.exactly (.static "EdgeAndSpeed$Measure" "SPOILT" "LEdgeAndSpeed$Measure;") "EdgeAndSpeed$Measure").before #[Value.ref b] s = true := hfl _ (by decide +kernel)
  obtain ⟨a3, -, -, -, ha3, -⟩ := Cond.exactly_spec (args := #[Value.ref b]) (first := s) (o := none) (s := s) (idx := []) hex3
  have hfe3_0 : (Cond.eq (.field (.static "EdgeAndSpeed$Measure" "SPOILT" "LEdgeAndSpeed$Measure;") "EdgeAndSpeed$Measure" "byPenny" "J") (.long 0)).before #[Value.ref b] s = true := hfl _ (by decide +kernel)
  have hfe3_1 : (Cond.eq (.field (.static "EdgeAndSpeed$Measure" "SPOILT" "LEdgeAndSpeed$Measure;") "EdgeAndSpeed$Measure" "byDone" "J") (.long 0)).before #[Value.ref b] s = true := hfl _ (by decide +kernel)
  have hfe3_2 : (Cond.eq (.field (.static "EdgeAndSpeed$Measure" "SPOILT" "LEdgeAndSpeed$Measure;") "EdgeAndSpeed$Measure" "bySpoilt" "J") (.long 1000000)).before #[Value.ref b] s = true := hfl _ (by decide +kernel)
  have hfe3_3 : (Cond.eq (.field (.static "EdgeAndSpeed$Measure" "SPOILT" "LEdgeAndSpeed$Measure;") "EdgeAndSpeed$Measure" "byMinutes" "J") (.long 0)).before #[Value.ref b] s = true := hfl _ (by decide +kernel)
  have hfe3_4 : (Cond.eq (.field (.static "EdgeAndSpeed$Measure" "SPOILT" "LEdgeAndSpeed$Measure;") "EdgeAndSpeed$Measure" "byCost" "J") (.long 0)).before #[Value.ref b] s = true := hfl _ (by decide +kernel)
  obtain ⟨aa, haa⟩ : ∃ aa : Nat → Nat, aa = fun k => if k = 0 then a0 else if k = 1 then a1 else if k = 2 then a2 else a3 := ⟨_, rfl⟩
  have hM : zM aa (fun q : Nat => s.heap.size ≤ q) s := by
    intro c hc
    subst haa
    rcases (show c = 0 ∨ c = 1 ∨ c = 2 ∨ c = 3 by omega) with rfl | rfl | rfl | rfl
    · refine ⟨va_Zof (hts (.laysStatic "EdgeAndSpeed$Measure" "VALUE" "LEdgeAndSpeed$Measure;") (wsTP_in _ (pk2_mem (P := wsTP) (q := (1, 220)) rfl))) (hts (.initialized "EdgeAndSpeed$Measure") (wsTP_in _ (pk2_mem (P := wsTP) (q := (1, 10)) rfl))) ha0 hold, va_Oof hex0 ha0 hold, fun f hf => ?_⟩
      rcases (show f = 0 ∨ f = 1 ∨ f = 2 ∨ f = 3 ∨ f = 4 by omega) with rfl | rfl | rfl | rfl | rfl
      · exact vk_OFof ha0 (va_eqv hfe0_0 rfl) hold
      · exact vk_OFof ha0 (va_eqv hfe0_1 rfl) hold
      · exact vk_OFof ha0 (va_eqv hfe0_2 rfl) hold
      · exact vk_OFof ha0 (va_eqv hfe0_3 rfl) hold
      · exact vk_OFof ha0 (va_eqv hfe0_4 rfl) hold
    · refine ⟨va_Zof (hts (.laysStatic "EdgeAndSpeed$Measure" "HASTE" "LEdgeAndSpeed$Measure;") (wsTP_in _ (pk2_mem (P := wsTP) (q := (3, 176)) rfl))) (hts (.initialized "EdgeAndSpeed$Measure") (wsTP_in _ (pk2_mem (P := wsTP) (q := (1, 10)) rfl))) ha1 hold, va_Oof hex1 ha1 hold, fun f hf => ?_⟩
      rcases (show f = 0 ∨ f = 1 ∨ f = 2 ∨ f = 3 ∨ f = 4 by omega) with rfl | rfl | rfl | rfl | rfl
      · exact vk_OFof ha1 (va_eqv hfe1_0 rfl) hold
      · exact vk_OFof ha1 (va_eqv hfe1_1 rfl) hold
      · exact vk_OFof ha1 (va_eqv hfe1_2 rfl) hold
      · exact vk_OFof ha1 (va_eqv hfe1_3 rfl) hold
      · exact vk_OFof ha1 (va_eqv hfe1_4 rfl) hold
    · refine ⟨va_Zof (hts (.laysStatic "EdgeAndSpeed$Measure" "MINUTES" "LEdgeAndSpeed$Measure;") (wsTP_in _ (pk2_mem (P := wsTP) (q := (4, 28)) rfl))) (hts (.initialized "EdgeAndSpeed$Measure") (wsTP_in _ (pk2_mem (P := wsTP) (q := (1, 10)) rfl))) ha2 hold, va_Oof hex2 ha2 hold, fun f hf => ?_⟩
      rcases (show f = 0 ∨ f = 1 ∨ f = 2 ∨ f = 3 ∨ f = 4 by omega) with rfl | rfl | rfl | rfl | rfl
      · exact vk_OFof ha2 (va_eqv hfe2_0 rfl) hold
      · exact vk_OFof ha2 (va_eqv hfe2_1 rfl) hold
      · exact vk_OFof ha2 (va_eqv hfe2_2 rfl) hold
      · exact vk_OFof ha2 (va_eqv hfe2_3 rfl) hold
      · exact vk_OFof ha2 (va_eqv hfe2_4 rfl) hold
    · refine ⟨va_Zof (hts (.laysStatic "EdgeAndSpeed$Measure" "SPOILT" "LEdgeAndSpeed$Measure;") (wsTP_in _ (pk2_mem (P := wsTP) (q := (4, 30)) rfl))) (hts (.initialized "EdgeAndSpeed$Measure") (wsTP_in _ (pk2_mem (P := wsTP) (q := (1, 10)) rfl))) ha3 hold, va_Oof hex3 ha3 hold, fun f hf => ?_⟩
      rcases (show f = 0 ∨ f = 1 ∨ f = 2 ∨ f = 3 ∨ f = 4 by omega) with rfl | rfl | rfl | rfl | rfl
      · exact vk_OFof ha3 (va_eqv hfe3_0 rfl) hold
      · exact vk_OFof ha3 (va_eqv hfe3_1 rfl) hold
      · exact vk_OFof ha3 (va_eqv hfe3_2 rfl) hold
      · exact vk_OFof ha3 (va_eqv hfe3_3 rfl) hold
      · exact vk_OFof ha3 (va_eqv hfe3_4 rfl) hold
  have hN : zNs s := by
    refine ⟨fun q hq => ?_, fun q hq => ?_⟩
    · simp only [zNm, List.mem_cons, List.not_mem_nil, or_false] at hq
      rcases hq with rfl | rfl | rfl | rfl | rfl | rfl | rfl | rfl | rfl | rfl | rfl | rfl | rfl | rfl | rfl | rfl | rfl
      · exact va_Nw.of rfl (hts _ (wsTP_in _ (pk2_mem (P := wsTP) (q := (1, 184)) rfl)))
      · exact va_Nw.of rfl (hts _ (wsTP_in _ (pk2_mem (P := wsTP) (q := (1, 203)) rfl)))
      · exact va_Nw.of rfl (hts _ (wsTP_in _ (pk2_mem (P := wsTP) (q := (2, 193)) rfl)))
      · exact va_Nw.of rfl (hts _ (wsTP_in _ (pk2_mem (P := wsTP) (q := (3, 67)) rfl)))
      · exact va_Nw.of rfl (hts _ (wsTP_in _ (pk2_mem (P := wsTP) (q := (3, 105)) rfl)))
      · exact va_Nw.of rfl (hts _ (wsTP_in _ (pk2_mem (P := wsTP) (q := (3, 108)) rfl)))
      · exact va_Nw.of rfl (hts _ (wsTP_in _ (pk2_mem (P := wsTP) (q := (3, 113)) rfl)))
      · exact va_Nw.of rfl (hts _ (wsTP_in _ (pk2_mem (P := wsTP) (q := (3, 114)) rfl)))
      · exact va_Nw.of rfl (hts _ (wsTP_in _ (pk2_mem (P := wsTP) (q := (4, 3)) rfl)))
      · exact va_Nw.of rfl (hts _ (wsTP_in _ (pk2_mem (P := wsTP) (q := (4, 4)) rfl)))
      · exact va_Nw.of rfl (hts _ (wsTP_in _ (pk2_mem (P := wsTP) (q := (4, 60)) rfl)))
      · exact va_Nw.of rfl (hts _ (wsTP_in _ (pk2_mem (P := wsTP) (q := (4, 61)) rfl)))
      · exact va_Nw.of rfl (hts _ (wsTP_in _ (pk2_mem (P := wsTP) (q := (4, 74)) rfl)))
      · exact va_Nw.of rfl (hts _ (wsTP_in _ (pk2_mem (P := wsTP) (q := (4, 111)) rfl)))
      · exact va_Nw.of rfl (hts _ (wsTP_in _ (pk2_mem (P := wsTP) (q := (4, 204)) rfl)))
      · exact va_Nw.of rfl (hts _ (wsTP_in _ (pk2_mem (P := wsTP) (q := (5, 23)) rfl)))
      · exact va_Nw.of rfl (hts _ (wsTP_in _ (pk2_mem (P := wsTP) (q := (5, 24)) rfl)))
    · simp only [zNf, List.mem_cons, List.not_mem_nil, or_false] at hq
      rcases hq with rfl | rfl | rfl | rfl | rfl | rfl | rfl | rfl | rfl | rfl | rfl | rfl | rfl | rfl | rfl | rfl | rfl
      · exact va_Nw.of rfl (hts _ (wsTP_in _ (pk2_mem (P := wsTP) (q := (1, 35)) rfl)))
      · exact va_Nw.of rfl (hts _ (wsTP_in _ (pk2_mem (P := wsTP) (q := (1, 63)) rfl)))
      · exact va_Nw.of rfl (hts _ (wsTP_in _ (pk2_mem (P := wsTP) (q := (1, 65)) rfl)))
      · exact va_Nw.of rfl (hts _ (wsTP_in _ (pk2_mem (P := wsTP) (q := (1, 66)) rfl)))
      · exact va_Nw.of rfl (hts _ (wsTP_in _ (pk2_mem (P := wsTP) (q := (1, 67)) rfl)))
      · exact va_Nw.of rfl (hts _ (wsTP_in _ (pk2_mem (P := wsTP) (q := (1, 69)) rfl)))
      · exact va_Nw.of rfl (hts _ (wsTP_in _ (pk2_mem (P := wsTP) (q := (1, 70)) rfl)))
      · exact va_Nw.of rfl (hts _ (wsTP_in _ (pk2_mem (P := wsTP) (q := (1, 72)) rfl)))
      · exact va_Nw.of rfl (hts _ (wsTP_in _ (pk2_mem (P := wsTP) (q := (1, 74)) rfl)))
      · exact va_Nw.of rfl (hts _ (wsTP_in _ (pk2_mem (P := wsTP) (q := (1, 76)) rfl)))
      · exact va_Nw.of rfl (hts _ (wsTP_in _ (pk2_mem (P := wsTP) (q := (1, 77)) rfl)))
      · exact va_Nw.of rfl (hts _ (wsTP_in _ (pk2_mem (P := wsTP) (q := (1, 79)) rfl)))
      · exact va_Nw.of rfl (hts _ (wsTP_in _ (pk2_mem (P := wsTP) (q := (1, 126)) rfl)))
      · exact va_Nw.of rfl (hts _ (wsTP_in _ (pk2_mem (P := wsTP) (q := (1, 128)) rfl)))
      · exact va_Nw.of rfl (hts _ (wsTP_in _ (pk2_mem (P := wsTP) (q := (1, 130)) rfl)))
      · exact va_Nw.of rfl (hts _ (wsTP_in _ (pk2_mem (P := wsTP) (q := (1, 132)) rfl)))
      · exact va_Nw.of rfl (hts _ (wsTP_in _ (pk2_mem (P := wsTP) (q := (6, 237)) rfl)))
  exact ⟨(dC, dI), aa, cy, ⟨hK, hM, hN⟩, va_AO.of hao4, va_AO.of hao5⟩
set_option maxHeartbeats 8000000 in
set_option maxRecDepth 100000 in
/-- THE LAW from its entry, given what each call does -/
theorem zstart {Rel : zI → zJ → zI → zJ → Prop} (hops : op_all Rel) (hinit : op_init Rel) {p : Program} {e : Env} {s : State} {m : MethodId} {below : List Frame} {meth : Method} {c : Code} (l : Launch) {b L : Nat} {xs : Nat → Int32} (hL : L ≤ 448) (C0 : lw_At p s m meth c b L xs) : W p l e room_1 s m #[Value.ref b] below meth c s.heap [] 0 0 (lw_Z below #[Value.ref b] s) (entryFrame m ([Value.ref b] : List Value).toArray 4) := by
  obtain ⟨hx, hb, hr, hml, hown, hts, hX, hbl, hlocks, hgv⟩ := id C0
  obtain ⟨rI, I1, I2, I3, I4, I5, I6, I7, I8, I9, I10, I11, hrI, e1, e2, e3, e4, e5, e6, e7, e8, e9, e10, e11, hR⟩ := hinit
  obtain ⟨D, a0, cy, E⟩ := zsur hts hgv
  have hA : ∀ q : Nat, s.heap.size ≤ q → (fun q : Nat => s.heap.size ≤ q) q := fun _ h => h
  have hS : va_S (fun q : Nat => s.heap.size ≤ q) s.heap s.heap [] := va_S.rf
  have hP : va_P D vwCl [] s.heap := fun k q h => by simp at h
  have hD : va_D (fun q : Nat => s.heap.size ≤ q) [] := ⟨fun i j p q h => by simp at h, fun k q h => by simp at h⟩
  have htsF : ∀ w ∈ wsLF, w.before #[Value.ref b] s = true := fun w h => hts w (wsLF_in w h)
  have S : CallFix p m c code 4 s #[Value.ref b] wsLF RL := ⟨hx, hb, hml, hown, htsF⟩
  have hl := lv_entry ([.ref b]) (n := 4) (Nat.le_of_ble_eq_true rfl)
  rw [lg_entry_eq]
  generalize (lg_sl ([.ref b]) ++ List.replicate (4 - (lg_sl ([.ref b])).length) Slot.unset).toArray = ls at hl ⊢
  have hl : lv_has ls 4 [(0, .ref b)] := hl
  refine va_new (ci := 10) (fs := [.null, .null, .null, .null, .null, .int 0, .null, .null, .null, .null, .null, .null]) (C := RX11) (T := TX11) (N := 12) hx hb hts wsLP_59 tyX11 tyX11_ok hown (hts (.classLink RL 7 RX11) (wsTP_in _ (pk2_mem (P := wsTP) (q := (1, 18)) rfl))) (hts (.instantiable RX11 12) (wsTP_in _ (pk2_mem (P := wsTP) (q := (1, 19)) rfl))) (hts (.initialized RX11) (wsTP_in _ (pk2_mem (P := wsTP) (q := (1, 1)) rfl))) E.1.1 hP hD hS hA rfl (fun j hj => by rcases (show j = 0 ∨ j = 1 ∨ j = 2 ∨ j = 3 ∨ j = 4 ∨ j = 5 ∨ j = 6 ∨ j = 7 ∨ j = 8 ∨ j = 9 ∨ j = 10 ∨ j = 11 by omega) with rfl | rfl | rfl | rfl | rfl | rfl | rfl | rfl | rfl | rfl | rfl | rfl <;> rfl) (Nat.le_of_ble_eq_true rfl) (Nat.le_of_ble_eq_true rfl) dL_law_0 (fun q0 H hP hD hS => ?_)
  have hP : va_P D vwCl [(q0, .inr (10, [.null, .null, .null, .null, .null, .int 0, .null, .null, .null, .null, .null, .null]))] H := hP
  have hD : va_D (fun q : Nat => s.heap.size ≤ q) [(q0, .inr (10, [.null, .null, .null, .null, .null, .int 0, .null, .null, .null, .null, .null, .null]))] := hD
  refine lv_dup hx hb dL_law_3 rfl ?_
  refine zcallI (As := []) (rest := [.ref q0]) (wc := [(q0, .inr (10, [.null, .null, .null, .null, .null, .int 0, .null, .null, .null, .null, .null, .null]))]) (wr := []) S (c_X11_init l hrI q0 H.size) (cwI 0 htsF ggF_X11_init rfl rfl rfl (hts (.initialized RX11) (wsTP_in _ (pk2_mem (P := wsTP) (q := (1, 1)) rfl))) (hts (.methodLink RL 9 yX11_init) (wsTP_in _ (pk2_mem (P := wsTP) (q := (1, 20)) rfl))) (hts (.instanceMethod yX11_init) (wsTP_in _ (pk2_mem (P := wsTP) (q := (1, 21)) rfl))) rfl (by decide +kernel) ⟨Nat.le_of_ble_eq_true rfl, Nat.le_of_ble_eq_true rfl⟩) E hP hD hS hA hl.1 rfl rfl (Nat.le_of_ble_eq_true rfl) dL_law_4 [0] [] rfl rfl (by decide) (by decide) (by decide) ⟨Nat.le_of_ble_eq_true rfl, Nat.le_of_ble_eq_true rfl⟩ (fun ad H2 locs2 hu hP2 hD2 hS2 => ?_)
  clear hP hD hS
  subst hu
  have hS := hS2
  have hP : va_P D vwCl (zw 74 (kC cy ad a0) ad (zI0C rI) (fun _ _ => 0)) H2 := hP2
  have hD : va_D (fun q : Nat => s.heap.size ≤ q) (zw 74 (kC cy ad a0) ad (zI0C rI) (fun _ _ => 0)) := hD2
  clear hP2 hD2 hS2
  refine lv_astore_n (lv' := [(1, .ref (ad 0)), (0, .ref b)]) hx hb dL_law_7 rfl hl (by decide) rfl (fun ls hl => ?_)
  refine va_new (ci := 11) (fs := [.int 0, .null, .int 0, .null, .null, .null, .null, .null, .null, .null, .null, .null, .null, .int 0, .null, .null, .null, .null, .null, .null, .null, .long 0, .long 0, .long 0, .long 0, .null, .null, .null, .null, .null, .null]) (C := RX12) (T := TX12) (N := 31) hx hb hts wsLP_60 tyX12 tyX12_ok hown (hts (.classLink RL 10 RX12) (wsTP_in _ (pk2_mem (P := wsTP) (q := (5, 60)) rfl))) (hts (.instantiable RX12 31) (wsTP_in _ (pk2_mem (P := wsTP) (q := (5, 61)) rfl))) (hts (.initialized RX12) (wsTP_in _ (pk2_mem (P := wsTP) (q := (1, 15)) rfl))) E.1.1 hP hD hS hA rfl (fun j hj => by rcases (show j = 0 ∨ j = 1 ∨ j = 2 ∨ j = 3 ∨ j = 4 ∨ j = 5 ∨ j = 6 ∨ j = 7 ∨ j = 8 ∨ j = 9 ∨ j = 10 ∨ j = 11 ∨ j = 12 ∨ j = 13 ∨ j = 14 ∨ j = 15 ∨ j = 16 ∨ j = 17 ∨ j = 18 ∨ j = 19 ∨ j = 20 ∨ j = 21 ∨ j = 22 ∨ j = 23 ∨ j = 24 ∨ j = 25 ∨ j = 26 ∨ j = 27 ∨ j = 28 ∨ j = 29 ∨ j = 30 by omega) with rfl | rfl | rfl | rfl | rfl | rfl | rfl | rfl | rfl | rfl | rfl | rfl | rfl | rfl | rfl | rfl | rfl | rfl | rfl | rfl | rfl | rfl | rfl | rfl | rfl | rfl | rfl | rfl | rfl | rfl | rfl <;> rfl) (Nat.le_of_ble_eq_true rfl) (Nat.le_of_ble_eq_true rfl) dL_law_8 (fun q1 H hP hD hS => ?_)
  refine lv_dup hx hb dL_law_11 rfl ?_
  refine zcallI (As := []) (rest := [.ref q1]) (wc := [(q1, .inr (11, [.int 0, .null, .int 0, .null, .null, .null, .null, .null, .null, .null, .null, .null, .null, .int 0, .null, .null, .null, .null, .null, .null, .null, .long 0, .long 0, .long 0, .long 0, .null, .null, .null, .null, .null, .null]))]) (wr := zw 74 (kC cy ad a0) ad (zI0C rI) (fun _ _ => 0)) S (c_X12_init l e1 e2 e3 e4 e5 e6 e7 e8 e9 e10 e11 q1 H.size) (cwI 0 htsF ggF_X12_init rfl rfl rfl (hts (.initialized RX12) (wsTP_in _ (pk2_mem (P := wsTP) (q := (1, 15)) rfl))) (hts (.methodLink RL 12 yX12_init) (wsTP_in _ (pk2_mem (P := wsTP) (q := (5, 62)) rfl))) (hts (.instanceMethod yX12_init) (wsTP_in _ (pk2_mem (P := wsTP) (q := (5, 63)) rfl))) rfl (by decide +kernel) ⟨Nat.le_of_ble_eq_true rfl, Nat.le_of_ble_eq_true rfl⟩) E hP hD hS hA hl.1 rfl rfl (Nat.le_of_ble_eq_true rfl) dL_law_12 ((List.range 1).map (fun i => 74 + i)) (List.range 74) (zC_right zw_len rfl) (zC_left zw_len) (by decide) (by decide) (by intro i h1 h2; simp at h1 h2; omega) ⟨Nat.le_of_ble_eq_true rfl, Nat.le_of_ble_eq_true rfl⟩ (fun adM H3 locs3 hu hP3 hD3 hS3 => ?_)
  clear hP hD hS
  subst hu
  refine lv_astore_n (lv' := [(2, .ref (adM 0)), (1, .ref (ad 0)), (0, .ref b)]) hx hb dL_law_15 rfl hl (by decide) rfl (fun ls hl => ?_)
  refine lv_iconst (v := 0) hx hb dL_law_16 (by decide) ?_
  refine lv_istore_n (lv' := [(3, .int 0), (2, .ref (adM 0)), (1, .ref (ad 0)), (0, .ref b)]) hx hb dL_law_17 rfl hl (by decide) rfl (fun ls hl => ?_)
  refine W.widen (k := 600000) (n := 7302249) (Nat.le_of_ble_eq_true rfl) (Nat.le_of_ble_eq_true rfl) ?_
  exact law_loop hops hL C0 E.1 (L + 1) 0 0 (Nat.zero_le L) (by omega) nI_0.symm _ _ _ _ hR _ _ hP3 hD3 hS3 ls (lv_sub hl [3, 2, 1, 0] rfl)
