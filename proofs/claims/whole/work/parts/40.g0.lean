def pk2 (P : List (List Cond)) (q : Nat × Nat) : Option Cond := match P[q.1]? with
  | some l => l[q.2]?
  | none => none
theorem pk2_mem {P : List (List Cond)} {q : Nat × Nat} {w : Cond} (h : pk2 P q = some w) : w ∈ P.flatten := by
  unfold pk2 at h
  cases h1 : P[q.1]? with
  | none => rw [h1] at h; cases h
  | some l => rw [h1] at h; exact List.mem_flatten.mpr ⟨l, List.mem_of_getElem? h1, List.mem_of_getElem? h⟩
theorem goodIn_r2 {P : List (List Cond)} (ws : List Cond) (ps : List (Nat × Nat)) (hp : ws = ps.filterMap (pk2 P)) (h : ws.all goodWord = true) : GoodIn P.flatten ws := by
  intro w hw
  have h1 := List.all_eq_true.mp h w hw
  rw [hp] at hw
  obtain ⟨i, -, hi⟩ := List.mem_filterMap.mp hw
  exact ⟨pk2_mem hi, good_of_word h1⟩
theorem mem_r2 {P : List (List Cond)} (ws : List Cond) (ps : List (Nat × Nat)) (hp : ws = ps.filterMap (pk2 P)) : ∀ w ∈ ws, w ∈ P.flatten := by
  intro w hw
  rw [hp] at hw
  obtain ⟨i, -, hi⟩ := List.mem_filterMap.mp hw
  exact pk2_mem hi
def wsLP : List (List Cond) := [wsL_law_r1, wsL_law_r2, wsL_law_r3, wsL_law_r4, wsL_law_r5, wsL_law_r6, wsL_law_r7, wsL_law_r8, wsL_law_r9, wsL_law_r10, wsL_law_r11, wsL_law_r12, wsL_law_r13, wsL_law_r14, wsL_law_r15, wsL_law_r16, wsL_law_r17, wsL_law_r18, wsL_law_r19, wsL_law_r20, wsL_law_r21, wsL_law_r22, wsL_law_r23, wsL_law_r24, wsL_law_r25, wsL_law_r26, wsL_law_r27, wsL_law_r28, wsL_law_r29, wsL_law_r30, wsL_law_r31, wsL_law_r32, wsL_law_r33, wsL_law_r34, wsL_law_r35, wsL_law_r36, wsL_law_r37, wsL_law_r38, wsL_law_r39, wsL_law_r40, wsL_law_r41, wsL_law_r42, wsL_law_r43, wsL_law_r44, wsL_law_r45, wsL_law_r46, wsL_law_r47, wsL_law_r48, wsL_law_r49, wsX00, wsX10, wsX20, wsX30, wsX50, wsX60, wsX70, wsX80, wsX90, wsX100, wsX110, wsX120]
def wsTP : List (List Cond) := [k2_sels lw_privs, tables_1_1, tables_1_2, tables_1_3, tables_1_4, tables_1_5, tables_1_6]
theorem wsTP_in : ∀ w ∈ wsTP.flatten, w ∈ lw_tbl := by
  intro w h
  obtain ⟨l, hl, hw⟩ := List.mem_flatten.mp h
  have hl : l ∈ [k2_sels lw_privs, tables_1_1, tables_1_2, tables_1_3, tables_1_4, tables_1_5, tables_1_6] := hl
  show w ∈ k2_sels lw_privs ++ (tables_1_1 ++ (tables_1_2 ++ (tables_1_3 ++ (tables_1_4 ++ (tables_1_5 ++ tables_1_6)))))
  simp only [List.mem_cons, List.not_mem_nil, or_false] at hl
  simp only [List.mem_append]
  rcases hl with rfl | rfl | rfl | rfl | rfl | rfl | rfl <;> simp [hw]
set_option maxRecDepth 100000 in
theorem wsLP_0 : ∀ w ∈ wsL_law_r1, w ∈ lw_tbl := fun w h => wsTP_in w (mem_r2 (P := wsTP) wsL_law_r1 [(1, 18), (1, 19), (1, 1), (5, 60), (5, 61), (1, 15), (6, 234), (1, 20), (1, 21), (1, 22), (1, 23), (1, 24), (1, 25), (1, 26), (1, 27), (1, 2), (2, 119), (1, 48), (1, 49), (1, 3), (2, 120), (2, 121), (1, 117), (1, 118)] rfl w h)
set_option maxRecDepth 100000 in
theorem wsLP_1 : ∀ w ∈ wsL_law_r2, w ∈ lw_tbl := fun w h => wsTP_in w (mem_r2 (P := wsTP) wsL_law_r2 [(1, 4), (2, 122), (2, 123), (1, 147), (1, 148), (1, 5), (2, 129), (1, 206), (1, 207), (1, 7), (2, 125), (2, 17), (2, 18), (1, 11), (2, 126), (2, 53), (2, 54), (1, 12), (2, 127), (2, 90), (2, 91), (1, 13), (2, 128), (2, 109)] rfl w h)
set_option maxRecDepth 100000 in
theorem wsLP_2 : ∀ w ∈ wsL_law_r3, w ∈ lw_tbl := fun w h => wsTP_in w (mem_r2 (P := wsTP) wsL_law_r3 [(2, 110), (1, 14), (2, 130), (1, 28), (1, 29), (1, 30), (1, 31), (1, 46), (1, 32), (1, 47), (1, 33), (1, 50), (1, 51), (1, 52), (1, 53), (1, 54), (1, 55), (1, 56), (1, 57), (1, 58), (1, 59), (1, 60), (1, 61), (1, 62)] rfl w h)
set_option maxRecDepth 100000 in
theorem wsLP_3 : ∀ w ∈ wsL_law_r4, w ∈ lw_tbl := fun w h => wsTP_in w (mem_r2 (P := wsTP) wsL_law_r4 [(1, 119), (1, 120), (1, 121), (1, 122), (1, 123), (1, 124), (1, 129), (1, 131), (1, 149), (1, 150), (1, 151), (1, 152), (1, 153), (1, 154), (1, 169), (1, 170), (1, 171), (1, 172), (1, 173), (1, 174), (1, 175), (1, 176), (1, 64), (1, 68)] rfl w h)
set_option maxRecDepth 100000 in
theorem wsLP_4 : ∀ w ∈ wsL_law_r5, w ∈ lw_tbl := fun w h => wsTP_in w (mem_r2 (P := wsTP) wsL_law_r5 [(1, 71), (1, 73), (1, 75), (1, 78), (1, 80), (1, 81), (1, 177), (1, 178), (1, 6), (1, 179), (1, 180), (1, 182), (0, 0), (1, 183), (1, 185), (1, 186), (1, 187), (1, 189), (0, 1), (1, 190), (1, 191), (1, 192), (1, 193), (1, 194)] rfl w h)
set_option maxRecDepth 100000 in
theorem wsLP_5 : ∀ w ∈ wsL_law_r6, w ∈ lw_tbl := fun w h => wsTP_in w (mem_r2 (P := wsTP) wsL_law_r6 [(1, 195), (1, 197), (0, 2), (1, 198), (1, 199), (1, 200), (1, 201), (1, 202), (1, 204), (1, 205), (1, 208), (1, 209), (1, 210), (1, 211), (1, 212), (2, 6), (2, 7), (2, 4), (2, 5), (1, 214), (1, 8), (1, 215), (1, 216), (1, 217)] rfl w h)
set_option maxRecDepth 100000 in
theorem wsLP_6 : ∀ w ∈ wsL_law_r7, w ∈ lw_tbl := fun w h => wsTP_in w (mem_r2 (P := wsTP) wsL_law_r7 [(1, 218), (2, 3), (1, 222), (1, 223), (1, 219), (1, 224), (1, 221), (2, 19), (2, 20), (2, 21), (2, 22), (2, 25), (2, 26), (2, 23), (2, 27), (2, 24), (2, 55), (2, 56), (2, 57), (2, 58), (2, 59), (2, 60), (2, 92), (2, 93)] rfl w h)
set_option maxRecDepth 100000 in
theorem wsLP_7 : ∀ w ∈ wsL_law_r8, w ∈ lw_tbl := fun w h => wsTP_in w (mem_r2 (P := wsTP) wsL_law_r8 [(2, 94), (2, 95), (2, 97), (2, 98), (2, 99), (2, 96), (2, 111), (2, 112), (2, 113), (2, 114), (2, 115), (5, 62), (5, 63), (5, 64), (5, 65), (5, 79), (5, 81), (5, 82), (5, 83), (5, 84), (5, 85), (5, 86), (5, 87), (5, 88)] rfl w h)
set_option maxRecDepth 100000 in
theorem wsLP_8 : ∀ w ∈ wsL_law_r9, w ∈ lw_tbl := fun w h => wsTP_in w (mem_r2 (P := wsTP) wsL_law_r9 [(5, 89), (5, 90), (5, 92), (5, 93), (5, 94), (5, 95), (5, 96), (5, 97), (5, 172), (5, 98), (5, 103), (5, 104), (5, 105), (5, 106), (5, 107), (5, 108), (5, 66), (5, 68), (0, 40), (5, 69), (5, 70), (5, 72), (0, 41), (5, 73)] rfl w h)
set_option maxRecDepth 100000 in
theorem wsLP_9 : ∀ w ∈ wsL_law_r10, w ∈ lw_tbl := fun w h => wsTP_in w (mem_r2 (P := wsTP) wsL_law_r10 [(5, 74), (5, 76), (0, 42), (5, 77), (5, 91), (2, 156), (2, 157), (2, 158), (2, 159), (2, 160), (2, 161), (2, 162), (2, 163), (2, 164), (1, 34), (5, 173), (5, 174), (5, 175), (5, 176), (5, 177), (5, 78), (5, 178), (5, 179), (5, 180)] rfl w h)
set_option maxRecDepth 100000 in
theorem wsLP_10 : ∀ w ∈ wsL_law_r11, w ∈ lw_tbl := fun w h => wsTP_in w (mem_r2 (P := wsTP) wsL_law_r11 [(2, 165), (2, 166), (2, 167), (2, 168), (5, 181), (5, 182), (5, 183), (5, 184), (2, 169), (2, 170), (2, 171), (2, 172), (2, 173), (2, 174), (2, 175), (2, 176), (1, 36), (2, 177), (2, 178), (2, 180), (0, 3), (2, 181), (2, 182), (2, 183)] rfl w h)
set_option maxRecDepth 100000 in
theorem wsLP_11 : ∀ w ∈ wsL_law_r12, w ∈ lw_tbl := fun w h => wsTP_in w (mem_r2 (P := wsTP) wsL_law_r12 [(2, 184), (2, 185), (2, 187), (0, 4), (2, 188), (2, 189), (2, 191), (0, 5), (2, 192), (2, 194), (2, 195), (2, 196), (2, 197), (2, 198), (2, 200), (0, 6), (2, 201), (2, 202), (2, 204), (0, 7), (2, 205), (2, 206), (2, 208), (0, 8)] rfl w h)
set_option maxRecDepth 100000 in
theorem wsLP_12 : ∀ w ∈ wsL_law_r13, w ∈ lw_tbl := fun w h => wsTP_in w (mem_r2 (P := wsTP) wsL_law_r13 [(2, 209), (2, 210), (2, 212), (0, 9), (2, 213), (2, 214), (5, 185), (5, 186), (5, 187), (5, 188), (5, 80), (5, 189), (5, 191), (0, 43), (5, 192), (5, 193), (5, 194), (5, 195), (5, 196), (5, 197), (5, 198), (5, 199), (5, 201), (0, 44)] rfl w h)
set_option maxRecDepth 100000 in
theorem wsLP_13 : ∀ w ∈ wsL_law_r14, w ∈ lw_tbl := fun w h => wsTP_in w (mem_r2 (P := wsTP) wsL_law_r14 [(5, 202), (5, 203), (5, 204), (5, 205), (5, 206), (5, 208), (0, 45), (5, 209), (2, 215), (2, 216), (2, 217), (2, 218), (2, 124), (2, 219), (2, 220), (2, 221), (2, 222), (2, 223), (2, 224), (2, 225), (2, 226), (1, 227), (2, 227), (2, 228)] rfl w h)
set_option maxRecDepth 100000 in
theorem wsLP_14 : ∀ w ∈ wsL_law_r15, w ∈ lw_tbl := fun w h => wsTP_in w (mem_r2 (P := wsTP) wsL_law_r15 [(2, 229), (2, 230), (2, 231), (2, 232), (2, 233), (1, 125), (1, 127), (5, 210), (5, 211), (5, 212), (5, 213), (5, 214), (2, 234), (2, 235), (2, 236), (2, 237), (2, 238), (2, 239), (3, 0), (3, 1), (3, 2), (3, 3), (3, 4), (3, 5)] rfl w h)
set_option maxRecDepth 100000 in
theorem wsLP_15 : ∀ w ∈ wsL_law_r16, w ∈ lw_tbl := fun w h => wsTP_in w (mem_r2 (P := wsTP) wsL_law_r16 [(3, 6), (3, 7), (3, 8), (3, 9), (3, 10), (3, 11), (3, 12), (3, 13), (3, 14), (3, 15), (3, 16), (3, 17), (3, 18), (3, 19), (3, 20), (3, 21), (5, 215), (5, 216), (5, 217), (5, 218), (5, 231), (5, 219), (5, 221), (0, 46)] rfl w h)
set_option maxRecDepth 100000 in
theorem wsLP_16 : ∀ w ∈ wsL_law_r17, w ∈ lw_tbl := fun w h => wsTP_in w (mem_r2 (P := wsTP) wsL_law_r17 [(5, 222), (5, 223), (5, 225), (0, 47), (5, 226), (5, 227), (5, 229), (0, 48), (5, 230), (5, 232), (5, 234), (0, 49), (5, 235), (5, 236), (5, 238), (0, 50), (5, 239), (6, 0), (6, 1), (6, 3), (0, 51), (6, 4), (3, 22), (3, 23)] rfl w h)
set_option maxRecDepth 100000 in
theorem wsLP_17 : ∀ w ∈ wsL_law_r18, w ∈ lw_tbl := fun w h => wsTP_in w (mem_r2 (P := wsTP) wsL_law_r18 [(3, 24), (3, 25), (6, 5), (6, 6), (6, 7), (6, 8), (6, 9), (6, 10), (6, 12), (0, 52), (6, 13), (3, 26), (3, 27), (3, 28), (3, 29), (3, 30), (3, 31), (3, 32), (3, 33), (3, 34), (3, 35), (3, 36), (3, 37), (3, 38)] rfl w h)
set_option maxRecDepth 100000 in
theorem wsLP_18 : ∀ w ∈ wsL_law_r19, w ∈ lw_tbl := fun w h => wsTP_in w (mem_r2 (P := wsTP) wsL_law_r19 [(3, 39), (3, 40), (3, 41), (6, 14), (6, 15), (6, 16), (6, 17), (3, 42), (3, 43), (3, 44), (3, 45), (3, 46), (3, 48), (0, 10), (3, 49), (3, 50), (3, 51), (3, 52), (3, 53), (3, 54), (3, 55), (3, 56), (3, 57), (3, 58)] rfl w h)
set_option maxRecDepth 100000 in
theorem wsLP_19 : ∀ w ∈ wsL_law_r20, w ∈ lw_tbl := fun w h => wsTP_in w (mem_r2 (P := wsTP) wsL_law_r20 [(3, 59), (3, 60), (3, 61), (3, 62), (3, 68), (3, 175), (3, 63), (3, 64), (3, 65), (3, 66), (3, 69), (3, 70), (3, 71), (3, 72), (3, 73), (3, 74), (3, 75), (3, 76), (3, 77), (1, 225), (1, 226), (3, 78), (3, 79), (3, 80)] rfl w h)
set_option maxRecDepth 100000 in
theorem wsLP_20 : ∀ w ∈ wsL_law_r21, w ∈ lw_tbl := fun w h => wsTP_in w (mem_r2 (P := wsTP) wsL_law_r21 [(3, 81), (3, 82), (3, 83), (3, 84), (3, 85), (3, 86), (3, 87), (3, 88), (3, 89), (3, 90), (3, 91), (3, 92), (3, 93), (3, 94), (1, 10), (3, 95), (6, 235), (6, 236), (3, 96), (3, 97), (3, 99), (0, 11), (3, 100), (3, 101)] rfl w h)
set_option maxRecDepth 100000 in
theorem wsLP_21 : ∀ w ∈ wsL_law_r22, w ∈ lw_tbl := fun w h => wsTP_in w (mem_r2 (P := wsTP) wsL_law_r22 [(3, 102), (3, 103), (3, 104), (3, 106), (3, 107), (3, 109), (3, 110), (3, 111), (3, 112), (3, 115), (3, 116), (3, 118), (0, 12), (3, 119), (3, 120), (3, 121), (3, 122), (3, 124), (0, 13), (3, 125), (3, 126), (3, 127), (3, 128), (3, 129)] rfl w h)
set_option maxRecDepth 100000 in
theorem wsLP_22 : ∀ w ∈ wsL_law_r23, w ∈ lw_tbl := fun w h => wsTP_in w (mem_r2 (P := wsTP) wsL_law_r23 [(3, 130), (3, 131), (3, 132), (3, 133), (3, 134), (3, 135), (3, 136), (3, 137), (3, 138), (3, 140), (0, 14), (3, 141), (3, 162), (3, 142), (3, 143), (3, 144), (3, 145), (3, 146), (3, 148), (0, 15), (3, 149), (3, 150), (3, 151), (3, 152)] rfl w h)
set_option maxRecDepth 100000 in
theorem wsLP_23 : ∀ w ∈ wsL_law_r24, w ∈ lw_tbl := fun w h => wsTP_in w (mem_r2 (P := wsTP) wsL_law_r24 [(3, 153), (3, 154), (3, 155), (3, 156), (3, 157), (3, 158), (3, 159), (3, 160), (3, 161), (6, 238), (6, 239), (3, 163), (3, 165), (0, 16), (3, 166), (3, 167), (3, 169), (0, 17), (3, 170), (3, 171), (3, 173), (0, 18), (3, 174), (3, 177)] rfl w h)
set_option maxRecDepth 100000 in
theorem wsLP_24 : ∀ w ∈ wsL_law_r25, w ∈ lw_tbl := fun w h => wsTP_in w (mem_r2 (P := wsTP) wsL_law_r25 [(3, 178), (3, 179), (3, 180), (3, 181), (3, 183), (0, 19), (3, 184), (3, 185), (3, 186), (3, 187), (3, 188), (3, 189), (3, 190), (1, 16), (3, 191), (3, 192), (3, 193), (3, 194), (3, 195), (3, 196), (3, 198), (0, 20), (3, 199), (3, 200)] rfl w h)
set_option maxRecDepth 100000 in
theorem wsLP_25 : ∀ w ∈ wsL_law_r26, w ∈ lw_tbl := fun w h => wsTP_in w (mem_r2 (P := wsTP) wsL_law_r26 [(3, 201), (3, 203), (0, 21), (3, 204), (3, 205), (3, 206), (3, 207), (3, 208), (3, 209), (3, 210), (3, 211), (3, 212), (6, 18), (6, 19), (6, 20), (6, 21), (6, 22), (6, 24), (0, 53), (6, 25), (6, 26), (6, 27), (6, 29), (0, 54)] rfl w h)
set_option maxRecDepth 100000 in
theorem wsLP_26 : ∀ w ∈ wsL_law_r27, w ∈ lw_tbl := fun w h => wsTP_in w (mem_r2 (P := wsTP) wsL_law_r27 [(6, 30), (6, 31), (6, 33), (0, 55), (6, 34), (6, 35), (6, 37), (0, 56), (6, 38), (6, 39), (6, 41), (0, 57), (6, 42), (5, 99), (6, 43), (5, 100), (6, 44), (6, 45), (5, 101), (6, 46), (5, 102), (6, 47), (6, 49), (0, 58)] rfl w h)
set_option maxRecDepth 100000 in
theorem wsLP_27 : ∀ w ∈ wsL_law_r28, w ∈ lw_tbl := fun w h => wsTP_in w (mem_r2 (P := wsTP) wsL_law_r28 [(6, 50), (6, 51), (6, 52), (6, 53), (6, 54), (6, 56), (0, 59), (6, 57), (6, 58), (6, 60), (0, 60), (6, 61), (6, 62), (6, 64), (0, 61), (6, 65), (6, 66), (6, 68), (0, 62), (6, 69), (6, 70), (6, 72), (0, 63), (6, 73)] rfl w h)
set_option maxRecDepth 100000 in
theorem wsLP_28 : ∀ w ∈ wsL_law_r29, w ∈ lw_tbl := fun w h => wsTP_in w (mem_r2 (P := wsTP) wsL_law_r29 [(6, 74), (6, 76), (0, 64), (6, 77), (3, 213), (3, 214), (3, 215), (3, 216), (3, 217), (4, 7), (3, 218), (3, 219), (3, 220), (3, 221), (2, 28), (2, 29), (2, 30), (2, 31), (2, 32), (2, 33), (3, 222), (3, 223), (3, 224), (3, 225)] rfl w h)
set_option maxRecDepth 100000 in
theorem wsLP_29 : ∀ w ∈ wsL_law_r30, w ∈ lw_tbl := fun w h => wsTP_in w (mem_r2 (P := wsTP) wsL_law_r30 [(3, 226), (3, 227), (3, 228), (3, 229), (3, 231), (0, 22), (3, 232), (3, 233), (3, 234), (3, 236), (0, 23), (3, 237), (3, 238), (3, 239), (4, 1), (0, 24), (4, 2), (4, 5), (4, 6), (4, 8), (4, 9), (4, 10), (4, 11), (4, 12)] rfl w h)
set_option maxRecDepth 100000 in
theorem wsLP_30 : ∀ w ∈ wsL_law_r31, w ∈ lw_tbl := fun w h => wsTP_in w (mem_r2 (P := wsTP) wsL_law_r31 [(4, 13), (4, 14), (4, 15), (4, 16), (4, 17), (4, 18), (4, 19), (4, 20), (4, 21), (6, 78), (6, 79), (6, 80), (6, 81), (6, 82), (6, 83), (6, 85), (0, 65), (6, 86), (4, 22), (4, 23), (4, 24), (4, 25), (4, 26), (4, 27)] rfl w h)
set_option maxRecDepth 100000 in
theorem wsLP_31 : ∀ w ∈ wsL_law_r32, w ∈ lw_tbl := fun w h => wsTP_in w (mem_r2 (P := wsTP) wsL_law_r32 [(4, 29), (6, 87), (6, 88), (6, 89), (6, 90), (4, 31), (4, 32), (4, 33), (4, 34), (4, 35), (4, 36), (4, 37), (4, 38), (4, 39), (4, 40), (4, 41), (4, 43), (0, 25), (4, 44), (6, 91), (6, 92), (6, 93), (6, 94), (6, 95)] rfl w h)
set_option maxRecDepth 100000 in
theorem wsLP_32 : ∀ w ∈ wsL_law_r33, w ∈ lw_tbl := fun w h => wsTP_in w (mem_r2 (P := wsTP) wsL_law_r33 [(6, 97), (0, 66), (6, 98), (6, 99), (6, 101), (0, 67), (6, 102), (6, 103), (6, 105), (0, 68), (6, 106), (4, 45), (4, 46), (4, 47), (4, 48), (4, 49), (4, 50), (4, 51), (4, 52), (4, 53), (4, 54), (4, 55), (4, 56), (4, 58)] rfl w h)
set_option maxRecDepth 100000 in
theorem wsLP_33 : ∀ w ∈ wsL_law_r34, w ∈ lw_tbl := fun w h => wsTP_in w (mem_r2 (P := wsTP) wsL_law_r34 [(0, 26), (4, 59), (4, 66), (4, 62), (4, 63), (4, 64), (4, 65), (4, 67), (4, 68), (4, 69), (4, 70), (4, 72), (0, 27), (4, 73), (4, 75), (4, 76), (4, 77), (4, 78), (4, 79), (6, 107), (6, 108), (6, 109), (6, 110), (6, 115)] rfl w h)
set_option maxRecDepth 100000 in
theorem wsLP_34 : ∀ w ∈ wsL_law_r35, w ∈ lw_tbl := fun w h => wsTP_in w (mem_r2 (P := wsTP) wsL_law_r35 [(6, 116), (6, 111), (6, 113), (0, 69), (6, 114), (4, 80), (4, 81), (4, 82), (4, 83), (6, 117), (6, 118), (6, 119), (6, 120), (6, 121), (6, 123), (0, 70), (6, 124), (4, 84), (4, 85), (4, 86), (4, 87), (4, 88), (4, 90), (0, 28)] rfl w h)
set_option maxRecDepth 100000 in
theorem wsLP_35 : ∀ w ∈ wsL_law_r36, w ∈ lw_tbl := fun w h => wsTP_in w (mem_r2 (P := wsTP) wsL_law_r36 [(4, 91), (4, 92), (4, 93), (4, 95), (0, 29), (4, 96), (4, 97), (6, 125), (6, 126), (6, 127), (6, 128), (6, 129), (6, 131), (0, 71), (6, 132), (4, 98), (4, 99), (4, 100), (4, 101), (4, 102), (4, 103), (4, 104), (4, 105), (4, 112)] rfl w h)
set_option maxRecDepth 100000 in
theorem wsLP_36 : ∀ w ∈ wsL_law_r37, w ∈ lw_tbl := fun w h => wsTP_in w (mem_r2 (P := wsTP) wsL_law_r37 [(4, 113), (4, 114), (4, 115), (4, 106), (4, 107), (4, 109), (0, 30), (4, 110), (1, 155), (1, 156), (1, 157), (4, 116), (4, 117), (4, 118), (4, 119), (6, 133), (6, 134), (6, 135), (6, 136), (6, 137), (6, 138), (4, 120), (4, 121), (4, 122)] rfl w h)
set_option maxRecDepth 100000 in
theorem wsLP_37 : ∀ w ∈ wsL_law_r38, w ∈ lw_tbl := fun w h => wsTP_in w (mem_r2 (P := wsTP) wsL_law_r38 [(4, 123), (4, 151), (4, 124), (4, 125), (4, 126), (4, 127), (4, 128), (4, 129), (4, 130), (4, 131), (4, 132), (4, 133), (4, 134), (4, 140), (4, 147), (4, 135), (4, 137), (0, 31), (4, 138), (4, 139), (4, 141), (4, 142), (4, 144), (0, 32)] rfl w h)
set_option maxRecDepth 100000 in
theorem wsLP_38 : ∀ w ∈ wsL_law_r39, w ∈ lw_tbl := fun w h => wsTP_in w (mem_r2 (P := wsTP) wsL_law_r39 [(4, 145), (4, 146), (4, 148), (4, 149), (4, 150), (6, 139), (6, 140), (6, 141), (6, 142), (6, 143), (6, 157), (6, 144), (6, 146), (0, 72), (6, 147), (6, 148), (6, 150), (0, 73), (6, 151), (6, 156), (6, 152), (6, 154), (0, 74), (6, 155)] rfl w h)
set_option maxRecDepth 100000 in
theorem wsLP_39 : ∀ w ∈ wsL_law_r40, w ∈ lw_tbl := fun w h => wsTP_in w (mem_r2 (P := wsTP) wsL_law_r40 [(4, 152), (4, 153), (4, 154), (4, 155), (4, 156), (4, 157), (4, 158), (4, 159), (4, 160), (4, 161), (6, 158), (6, 159), (6, 160), (6, 161), (4, 162), (4, 163), (4, 164), (4, 165), (4, 178), (4, 179), (4, 166), (4, 167), (4, 168), (4, 169)] rfl w h)
set_option maxRecDepth 100000 in
theorem wsLP_40 : ∀ w ∈ wsL_law_r41, w ∈ lw_tbl := fun w h => wsTP_in w (mem_r2 (P := wsTP) wsL_law_r41 [(4, 170), (4, 172), (0, 33), (4, 173), (4, 174), (4, 175), (4, 176), (4, 177), (4, 180), (4, 181), (4, 182), (4, 183), (6, 162), (6, 163), (6, 164), (6, 165), (6, 177), (6, 166), (6, 167), (6, 168), (6, 169), (6, 171), (0, 75), (6, 172)] rfl w h)
set_option maxRecDepth 100000 in
theorem wsLP_41 : ∀ w ∈ wsL_law_r42, w ∈ lw_tbl := fun w h => wsTP_in w (mem_r2 (P := wsTP) wsL_law_r42 [(6, 173), (6, 175), (0, 76), (6, 176), (4, 184), (4, 185), (4, 186), (4, 187), (4, 188), (4, 189), (4, 190), (4, 191), (4, 192), (4, 193), (6, 178), (6, 179), (6, 180), (6, 181), (4, 194), (4, 195), (4, 196), (4, 197), (4, 198), (4, 199)] rfl w h)
set_option maxRecDepth 100000 in
theorem wsLP_42 : ∀ w ∈ wsL_law_r43, w ∈ lw_tbl := fun w h => wsTP_in w (mem_r2 (P := wsTP) wsL_law_r43 [(4, 200), (4, 201), (4, 202), (4, 203), (6, 182), (6, 183), (6, 184), (6, 185), (6, 186), (4, 205), (4, 206), (4, 207), (4, 208), (6, 187), (6, 188), (6, 189), (6, 190), (4, 209), (4, 210), (4, 211), (4, 212), (4, 213), (4, 214), (4, 215)] rfl w h)
set_option maxRecDepth 100000 in
theorem wsLP_43 : ∀ w ∈ wsL_law_r44, w ∈ lw_tbl := fun w h => wsTP_in w (mem_r2 (P := wsTP) wsL_law_r44 [(4, 216), (6, 191), (6, 192), (6, 193), (6, 194), (6, 195), (6, 197), (0, 77), (6, 198), (4, 217), (4, 218), (4, 219), (4, 220), (4, 221), (4, 222), (4, 223), (4, 224), (4, 230), (4, 225), (4, 227), (0, 34), (4, 228), (4, 229), (6, 199)] rfl w h)
set_option maxRecDepth 100000 in
theorem wsLP_44 : ∀ w ∈ wsL_law_r45, w ∈ lw_tbl := fun w h => wsTP_in w (mem_r2 (P := wsTP) wsL_law_r45 [(6, 200), (6, 201), (6, 202), (4, 231), (4, 232), (4, 233), (4, 234), (4, 235), (4, 236), (4, 237), (4, 238), (2, 61), (2, 62), (2, 63), (4, 239), (5, 1), (0, 35), (5, 2), (2, 64), (2, 65), (2, 66), (2, 67), (2, 68), (5, 3)] rfl w h)
set_option maxRecDepth 100000 in
theorem wsLP_45 : ∀ w ∈ wsL_law_r46, w ∈ lw_tbl := fun w h => wsTP_in w (mem_r2 (P := wsTP) wsL_law_r46 [(5, 4), (5, 5), (5, 6), (5, 8), (0, 36), (5, 9), (5, 10), (5, 11), (5, 13), (0, 37), (5, 14), (5, 15), (5, 17), (0, 38), (5, 18), (5, 19), (5, 21), (0, 39), (5, 22), (5, 25), (5, 26), (5, 27), (5, 28), (5, 29)] rfl w h)
set_option maxRecDepth 100000 in
theorem wsLP_46 : ∀ w ∈ wsL_law_r47, w ∈ lw_tbl := fun w h => wsTP_in w (mem_r2 (P := wsTP) wsL_law_r47 [(5, 30), (5, 31), (5, 32), (5, 33), (5, 34), (5, 35), (5, 36), (5, 37), (5, 38), (5, 39), (5, 40), (6, 203), (6, 204), (6, 205), (6, 206), (6, 207), (6, 208), (6, 210), (0, 78), (6, 211), (6, 212), (6, 213), (6, 214), (6, 215)] rfl w h)
set_option maxRecDepth 100000 in
theorem wsLP_47 : ∀ w ∈ wsL_law_r48, w ∈ lw_tbl := fun w h => wsTP_in w (mem_r2 (P := wsTP) wsL_law_r48 [(6, 216), (6, 217), (5, 41), (5, 42), (5, 43), (5, 44), (5, 45), (5, 46), (5, 47), (5, 48), (5, 49), (5, 51), (5, 50), (1, 17), (6, 218), (6, 219), (6, 220), (6, 221), (6, 222), (6, 224), (0, 79), (6, 225), (5, 52), (5, 53)] rfl w h)
set_option maxRecDepth 100000 in
theorem wsLP_48 : ∀ w ∈ wsL_law_r49, w ∈ lw_tbl := fun w h => wsTP_in w (mem_r2 (P := wsTP) wsL_law_r49 [(5, 54), (5, 55), (6, 226), (6, 227), (6, 228), (6, 229), (5, 56), (5, 57), (5, 58), (5, 59), (6, 230), (6, 231), (6, 232), (6, 233)] rfl w h)
set_option maxRecDepth 100000 in
theorem wsLP_49 : ∀ w ∈ wsX00, w ∈ lw_tbl := fun w h => wsTP_in w (mem_r2 (P := wsTP) wsX00 [(1, 82), (1, 84), (1, 86), (1, 88), (1, 90), (1, 92), (1, 94), (1, 96), (1, 98), (1, 100), (1, 102), (1, 104), (1, 106), (1, 108), (1, 110), (1, 112), (1, 114)] rfl w h)
set_option maxRecDepth 100000 in
theorem wsLP_50 : ∀ w ∈ wsX10, w ∈ lw_tbl := fun w h => wsTP_in w (mem_r2 (P := wsTP) wsX10 [(1, 133), (1, 135), (1, 137), (1, 139), (1, 141), (1, 143)] rfl w h)
set_option maxRecDepth 100000 in
theorem wsLP_51 : ∀ w ∈ wsX20, w ∈ lw_tbl := fun w h => wsTP_in w (mem_r2 (P := wsTP) wsX20 [(2, 8), (2, 10), (2, 12), (2, 14)] rfl w h)
set_option maxRecDepth 100000 in
theorem wsLP_52 : ∀ w ∈ wsX30, w ∈ lw_tbl := fun w h => wsTP_in w (mem_r2 (P := wsTP) wsX30 [(1, 158), (1, 160), (1, 162), (1, 164), (1, 166)] rfl w h)
set_option maxRecDepth 100000 in
theorem wsLP_53 : ∀ w ∈ wsX50, w ∈ lw_tbl := fun w h => wsTP_in w (mem_r2 (P := wsTP) wsX50 [(2, 100), (2, 102), (2, 104), (2, 106)] rfl w h)
set_option maxRecDepth 100000 in
theorem wsLP_54 : ∀ w ∈ wsX60, w ∈ lw_tbl := fun w h => wsTP_in w (mem_r2 (P := wsTP) wsX60 [(1, 228), (1, 230), (1, 232), (1, 234), (1, 236), (1, 238), (2, 0)] rfl w h)
set_option maxRecDepth 100000 in
theorem wsLP_55 : ∀ w ∈ wsX70, w ∈ lw_tbl := fun w h => wsTP_in w (mem_r2 (P := wsTP) wsX70 [(2, 116)] rfl w h)
set_option maxRecDepth 100000 in
theorem wsLP_56 : ∀ w ∈ wsX80, w ∈ lw_tbl := fun w h => wsTP_in w (mem_r2 (P := wsTP) wsX80 [(1, 37), (1, 39), (1, 41), (1, 43)] rfl w h)
set_option maxRecDepth 100000 in
theorem wsLP_57 : ∀ w ∈ wsX90, w ∈ lw_tbl := fun w h => wsTP_in w (mem_r2 (P := wsTP) wsX90 [(2, 69), (2, 71), (2, 73), (2, 75), (2, 77), (2, 79), (2, 81), (2, 83), (2, 85), (2, 87)] rfl w h)
set_option maxRecDepth 100000 in
theorem wsLP_58 : ∀ w ∈ wsX100, w ∈ lw_tbl := fun w h => wsTP_in w (mem_r2 (P := wsTP) wsX100 [(2, 34), (2, 36), (2, 38), (2, 40), (2, 42), (2, 44), (2, 46), (2, 48), (2, 50)] rfl w h)
set_option maxRecDepth 100000 in
theorem wsLP_59 : ∀ w ∈ wsX110, w ∈ lw_tbl := fun w h => wsTP_in w (mem_r2 (P := wsTP) wsX110 [(2, 131), (2, 133), (2, 135), (2, 137), (2, 139), (2, 141), (2, 143), (2, 145), (2, 147), (2, 149), (2, 151), (2, 153)] rfl w h)
set_option maxRecDepth 100000 in
theorem wsLP_60 : ∀ w ∈ wsX120, w ∈ lw_tbl := fun w h => wsTP_in w (mem_r2 (P := wsTP) wsX120 [(5, 109), (5, 111), (5, 113), (5, 115), (5, 117), (5, 119), (5, 121), (5, 123), (5, 125), (5, 127), (5, 129), (5, 131), (5, 133), (5, 135), (5, 137), (5, 139), (5, 141), (5, 143), (5, 145), (5, 147), (5, 149), (5, 151), (5, 153), (5, 155), (5, 157), (5, 159), (5, 161), (5, 163), (5, 165), (5, 167), (5, 169)] rfl w h)
abbrev wsLF : List Cond := wsLP.flatten
theorem wsLF_in : ∀ w ∈ wsLF, w ∈ lw_tbl := by
  intro w h
  obtain ⟨l, hl, hw⟩ := List.mem_flatten.mp h
  have hl : l ∈ [wsL_law_r1, wsL_law_r2, wsL_law_r3, wsL_law_r4, wsL_law_r5, wsL_law_r6, wsL_law_r7, wsL_law_r8, wsL_law_r9, wsL_law_r10, wsL_law_r11, wsL_law_r12, wsL_law_r13, wsL_law_r14, wsL_law_r15, wsL_law_r16, wsL_law_r17, wsL_law_r18, wsL_law_r19, wsL_law_r20, wsL_law_r21, wsL_law_r22, wsL_law_r23, wsL_law_r24, wsL_law_r25, wsL_law_r26, wsL_law_r27, wsL_law_r28, wsL_law_r29, wsL_law_r30, wsL_law_r31, wsL_law_r32, wsL_law_r33, wsL_law_r34, wsL_law_r35, wsL_law_r36, wsL_law_r37, wsL_law_r38, wsL_law_r39, wsL_law_r40, wsL_law_r41, wsL_law_r42, wsL_law_r43, wsL_law_r44, wsL_law_r45, wsL_law_r46, wsL_law_r47, wsL_law_r48, wsL_law_r49, wsX00, wsX10, wsX20, wsX30, wsX50, wsX60, wsX70, wsX80, wsX90, wsX100, wsX110, wsX120] := hl
  simp only [List.mem_cons, List.not_mem_nil, or_false] at hl
  rcases hl with rfl | rfl | rfl | rfl | rfl | rfl | rfl | rfl | rfl | rfl | rfl | rfl | rfl | rfl | rfl | rfl | rfl | rfl | rfl | rfl | rfl | rfl | rfl | rfl | rfl | rfl | rfl | rfl | rfl | rfl | rfl | rfl | rfl | rfl | rfl | rfl | rfl | rfl | rfl | rfl | rfl | rfl | rfl | rfl | rfl | rfl | rfl | rfl | rfl | rfl | rfl | rfl | rfl | rfl | rfl | rfl | rfl | rfl | rfl | rfl | rfl
  · exact wsLP_0 w hw
  · exact wsLP_1 w hw
  · exact wsLP_2 w hw
  · exact wsLP_3 w hw
  · exact wsLP_4 w hw
  · exact wsLP_5 w hw
  · exact wsLP_6 w hw
  · exact wsLP_7 w hw
  · exact wsLP_8 w hw
  · exact wsLP_9 w hw
  · exact wsLP_10 w hw
  · exact wsLP_11 w hw
  · exact wsLP_12 w hw
  · exact wsLP_13 w hw
  · exact wsLP_14 w hw
  · exact wsLP_15 w hw
  · exact wsLP_16 w hw
  · exact wsLP_17 w hw
  · exact wsLP_18 w hw
  · exact wsLP_19 w hw
  · exact wsLP_20 w hw
  · exact wsLP_21 w hw
  · exact wsLP_22 w hw
  · exact wsLP_23 w hw
  · exact wsLP_24 w hw
  · exact wsLP_25 w hw
  · exact wsLP_26 w hw
  · exact wsLP_27 w hw
  · exact wsLP_28 w hw
  · exact wsLP_29 w hw
  · exact wsLP_30 w hw
  · exact wsLP_31 w hw
  · exact wsLP_32 w hw
  · exact wsLP_33 w hw
  · exact wsLP_34 w hw
  · exact wsLP_35 w hw
  · exact wsLP_36 w hw
  · exact wsLP_37 w hw
  · exact wsLP_38 w hw
  · exact wsLP_39 w hw
  · exact wsLP_40 w hw
  · exact wsLP_41 w hw
  · exact wsLP_42 w hw
  · exact wsLP_43 w hw
  · exact wsLP_44 w hw
  · exact wsLP_45 w hw
  · exact wsLP_46 w hw
  · exact wsLP_47 w hw
  · exact wsLP_48 w hw
  · exact wsLP_49 w hw
  · exact wsLP_50 w hw
  · exact wsLP_51 w hw
  · exact wsLP_52 w hw
  · exact wsLP_53 w hw
  · exact wsLP_54 w hw
  · exact wsLP_55 w hw
  · exact wsLP_56 w hw
  · exact wsLP_57 w hw
  · exact wsLP_58 w hw
  · exact wsLP_59 w hw
  · exact wsLP_60 w hw
