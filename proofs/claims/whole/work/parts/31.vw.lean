/-! A CALL OVER AN INDEX WORLD that lies among other cells -/
def zAd (N : Nat) (ad : Nat → Nat) : Nat → Prop := fun q => ∃ i, i < N ∧ q = ad i
def zInj (N : Nat) (ad : Nat → Nat) : Prop := ∀ i j, i < N → j < N → ad i = ad j → i = j
theorem zInj.D {N : Nat} {ad : Nat → Nat} (h : zInj N ad) : zD (zAd N ad) N ad := ⟨h, fun i hi => ⟨i, hi, rfl⟩⟩
theorem zw_at {N : Nat} {K : zK} {ad : Nat → Nat} {I : zI} {J : zJ} {k : Nat} {q : Nat × va_E} (h : (zw N K ad I J)[k]? = some q) : k < N ∧ q.1 = ad k := by
  by_cases hl : k < N
  · rw [zw_get hl] at h
    cases h
    exact ⟨hl, rfl⟩
  · simp [zw, hl] at h
theorem zInj_of {N : Nat} {K : zK} {ad : Nat → Nat} {I : zI} {J : zJ} {A : Nat → Prop} (h : va_D A (zw N K ad I J)) : zInj N ad := fun i j hi hj e => h.1 i j _ _ (zw_get hi) (zw_get hj) e
theorem zAd_in {N : Nat} {K : zK} {ad : Nat → Nat} {I : zI} {J : zJ} {q sz : Nat} (h : zAd N ad q) : va_A (zw N K ad I J) sz q := by
  obtain ⟨i, hi, rfl⟩ := h
  exact Or.inl ⟨i, _, zw_get hi⟩
theorem zC_left {a b : va_W} {n : Nat} (h : a.length = n) : (List.range n).map (fun i => (a ++ b)[i]?) = a.map some := by
  subst h
  apply List.ext_getElem?
  intro k
  by_cases hk : k < a.length
  · simp [List.getElem?_append_left hk, hk]
  · simp [hk]
theorem zC_right {a b : va_W} {n k : Nat} (h : a.length = n) (hb : b.length = k) : ((List.range k).map (fun i => n + i)).map (fun i => (a ++ b)[i]?) = b.map some := by
  subst h; subst hb
  apply List.ext_getElem?
  intro j
  by_cases hj : j < b.length
  · simp [List.getElem?_append_right, hj]
  · simp [hj]
theorem zw_len {N : Nat} {K : zK} {ad : Nat → Nat} {I : zI} {J : zJ} : (zw N K ad I J).length = N := by simp [zw]
section ZV
variable {p : Program} {l : Launch} {e : Env} {R : Room} {s : State} {m : MethodId} {args : Array Value} {below : List Frame} {meth : Method} {c : Code} {H H0 : Heap} {locs : List Loc} {cells slots : Nat} {Q : State → Prop} {pc : Nat} {ls : Array Slot} {cc : ByteArray} {nL : Nat} {Ts : List Cond} {own : String} {D : va_G} {a0 : Nat → Nat} {A : Nat → Prop} {cy : Nat → ClassId} {rest st : List Value} {y : MethodName} {wsy : List Cond} {rm : Room} {bytes : ByteArray} {maxL index n : Nat} {ret : Option FieldType} {C : String} {b : Nat} {As : List Value} {ws wr : va_W} {N : Nat} {K : zK} {ad : Nat → Nat} {I I2 : zI} {J J2 : zJ}
theorem zPreW (E : zE D a0 A cy s) (hP : va_P D vwCl ws H) (hS : va_S A s.heap H locs) (hin : ∀ q, zAd N ad q → A q) (isC : List Nat) (hC : isC.map (fun i => ws[i]?) = (zw N K ad I J).map some) (hr : ∃ cell : Cell, H[b]? = some cell ∧ cell.vm.isStatics = false ∧ s.vm.findClass C = some cell.cls) : PreV s H C b (zPc D a0 (zAd N ad) cy (.ref b :: As) (zw N K ad I J)) As := by
  have hsub : va_P D vwCl (zw N K ad I J) H := by
    intro k q hq
    have h1 : (isC.map (fun i => ws[i]?))[k]? = some (some q) := by rw [hC, List.getElem?_map, hq]; rfl
    rw [List.getElem?_map] at h1
    cases hi : isC[k]? with
    | none => rw [hi] at h1; cases h1
    | some i => rw [hi] at h1; exact hP i q (Option.some.inj h1)
  refine ⟨zBlind, hr, fun U hU hW => ⟨rfl, by rw [hU]; exact hsub, va_K.moved hW.alike E.1, ?_, zNs.warm hW E.2.2⟩⟩
  exact (zM.moved hW.alike (fun a h1 h2 => by rw [hU]; exact hS.2.1 a h1 h2) E.2.1).narrow hin
theorem zjoinW (hP : va_P D vwCl ws H) (hD : va_D A ws) (hin : ∀ q, zAd N ad q → A q) (isC isR : List Nat) (hC : isC.map (fun i => ws[i]?) = (zw N K ad I J).map some) (hR : isR.map (fun i => ws[i]?) = wr.map some) (hnR : va_nd isR = true) (hdis : ∀ i ∈ isR, i ∉ isC) (hF : ∀ q, va_A (zw N K ad I J) H.size q → A q) {H1 : Heap} (hk : ∀ q : Nat, q < H.size → ¬ zAd N ad q → H1[q]? = H[q]?) (hP1 : va_P D vwCl (zw N K ad I2 J2) H1) (hi : zInj N ad) : va_P D vwCl (wr ++ zw N K ad I2 J2) H1 ∧ va_D A (wr ++ zw N K ad I2 J2) :=
  va_join (wr := wr) hP hD isC isR hC hR hnR hdis (fun q h1 h2 => hk q h1 (fun h => h2 (zAd_in h))) hF hP1 ((zInj.D hi).D.weaken (fun _ _ _ h => zAd_in h))
theorem zcallW_i {x : Int32} (S : CallFix p m c cc nL s args Ts own) (hM : Met l y wsy rm (zPc D a0 (zAd N ad) cy (.ref b :: As) (zw N K ad I J)) (zQi D (zAd N ad) x (zw N K ad I2 J2)) 0 0 (zAd N ad)) (cw : CallW R s args own C index y bytes maxL ret wsy rm 0 0 n) (hr : ∃ cell : Cell, H[b]? = some cell ∧ cell.vm.isStatics = false ∧ s.vm.findClass C = some cell.cls) (E : zE D a0 A cy s) (hP : va_P D vwCl ws H) (hD : va_D A ws) (hS : va_S A s.heap H locs) (hA : ∀ q, s.heap.size ≤ q → A q) (hi : zInj N ad) (isC isR : List Nat) (hC : isC.map (fun i => ws[i]?) = (zw N K ad I J).map some) (hR : isR.map (fun i => ws[i]?) = wr.map some) (hnR : va_nd isR = true) (hdis : ∀ i ∈ isR, i ∉ isC) (hsz : ls.size = nL) (hn : As.length = n) (hst : st = As.reverse ++ .ref b :: rest) (hW : (rest.map fun v => v.category).sum ≤ 8) (hdg : decode cc pc = .ok (.invokevirtual index, 3)) (hf : cells ≤ R.cells ∧ slots ≤ R.slots)
    (kk : ∀ (H1 : Heap) (locs1 : List Loc), va_P D vwCl (wr ++ zw N K ad I2 J2) H1 → va_D A (wr ++ zw N K ad I2 J2) → va_S A s.heap H1 locs1 → W p l e R s m args below meth c H1 locs1 cells slots Q (F0 m (pc + 3) ls (.int x :: rest))) : W p l e R s m args below meth c H locs cells slots Q (F0 m pc ls st) := by
  have hF := va_free (wc := zw N K ad I J) hD hS hA isC hC
  have hin : ∀ q, zAd N ad q → A q := fun q h => hF q (zAd_in h)
  refine va_calli (va_runV (g := F0 m pc ls st) S hM cw (zPreW E hP hS hin isC hC hr) rfl hn hsz hst (lv_room hW) hdg hf) hS (fun q _ h => hin q h) hin (fun r u t H1 locs1 ht _ hp hb _ hk1 hS1 => ?_)
  subst hp
  have hb1 : va_P D vwCl (zw N K ad I2 J2) H1 := by rw [← ht]; exact hb
  obtain ⟨hP2, hD2⟩ := zjoinW hP hD hin isC isR hC hR hnR hdis hF hk1 hb1 hi
  exact kk H1 locs1 hP2 hD2 hS1
theorem zcallW_l {x : Int64} (S : CallFix p m c cc nL s args Ts own) (hM : Met l y wsy rm (zPc D a0 (zAd N ad) cy (.ref b :: As) (zw N K ad I J)) (zQl D (zAd N ad) x (zw N K ad I2 J2)) 0 0 (zAd N ad)) (cw : CallW R s args own C index y bytes maxL ret wsy rm 0 0 n) (hr : ∃ cell : Cell, H[b]? = some cell ∧ cell.vm.isStatics = false ∧ s.vm.findClass C = some cell.cls) (E : zE D a0 A cy s) (hP : va_P D vwCl ws H) (hD : va_D A ws) (hS : va_S A s.heap H locs) (hA : ∀ q, s.heap.size ≤ q → A q) (hi : zInj N ad) (isC isR : List Nat) (hC : isC.map (fun i => ws[i]?) = (zw N K ad I J).map some) (hR : isR.map (fun i => ws[i]?) = wr.map some) (hnR : va_nd isR = true) (hdis : ∀ i ∈ isR, i ∉ isC) (hsz : ls.size = nL) (hn : As.length = n) (hst : st = As.reverse ++ .ref b :: rest) (hW : (rest.map fun v => v.category).sum ≤ 8) (hdg : decode cc pc = .ok (.invokevirtual index, 3)) (hf : cells ≤ R.cells ∧ slots ≤ R.slots)
    (kk : ∀ (H1 : Heap) (locs1 : List Loc), va_P D vwCl (wr ++ zw N K ad I2 J2) H1 → va_D A (wr ++ zw N K ad I2 J2) → va_S A s.heap H1 locs1 → W p l e R s m args below meth c H1 locs1 cells slots Q (F0 m (pc + 3) ls (.long x :: rest))) : W p l e R s m args below meth c H locs cells slots Q (F0 m pc ls st) := by
  have hF := va_free (wc := zw N K ad I J) hD hS hA isC hC
  have hin : ∀ q, zAd N ad q → A q := fun q h => hF q (zAd_in h)
  refine va_calll (va_runV (g := F0 m pc ls st) S hM cw (zPreW E hP hS hin isC hC hr) rfl hn hsz hst (lv_room hW) hdg hf) hS (fun q _ h => hin q h) hin (fun r u t H1 locs1 ht _ hp hb _ hk1 hS1 => ?_)
  subst hp
  have hb1 : va_P D vwCl (zw N K ad I2 J2) H1 := by rw [← ht]; exact hb
  obtain ⟨hP2, hD2⟩ := zjoinW hP hD hin isC isR hC hR hnR hdis hF hk1 hb1 hi
  exact kk H1 locs1 hP2 hD2 hS1
theorem zcallW_v (S : CallFix p m c cc nL s args Ts own) (hM : Met l y wsy rm (zPc D a0 (zAd N ad) cy (.ref b :: As) (zw N K ad I J)) (zQv D (zAd N ad) (zw N K ad I2 J2)) 0 0 (zAd N ad)) (cw : CallW R s args own C index y bytes maxL ret wsy rm 0 0 n) (hr : ∃ cell : Cell, H[b]? = some cell ∧ cell.vm.isStatics = false ∧ s.vm.findClass C = some cell.cls) (E : zE D a0 A cy s) (hP : va_P D vwCl ws H) (hD : va_D A ws) (hS : va_S A s.heap H locs) (hA : ∀ q, s.heap.size ≤ q → A q) (hi : zInj N ad) (isC isR : List Nat) (hC : isC.map (fun i => ws[i]?) = (zw N K ad I J).map some) (hR : isR.map (fun i => ws[i]?) = wr.map some) (hnR : va_nd isR = true) (hdis : ∀ i ∈ isR, i ∉ isC) (hsz : ls.size = nL) (hn : As.length = n) (hst : st = As.reverse ++ .ref b :: rest) (hW : (rest.map fun v => v.category).sum ≤ 8) (hdg : decode cc pc = .ok (.invokevirtual index, 3)) (hf : cells ≤ R.cells ∧ slots ≤ R.slots)
    (kk : ∀ (H1 : Heap) (locs1 : List Loc), va_P D vwCl (wr ++ zw N K ad I2 J2) H1 → va_D A (wr ++ zw N K ad I2 J2) → va_S A s.heap H1 locs1 → W p l e R s m args below meth c H1 locs1 cells slots Q (F0 m (pc + 3) ls rest)) : W p l e R s m args below meth c H locs cells slots Q (F0 m pc ls st) := by
  have hF := va_free (wc := zw N K ad I J) hD hS hA isC hC
  have hin : ∀ q, zAd N ad q → A q := fun q h => hF q (zAd_in h)
  refine va_callv (va_runV (g := F0 m pc ls st) S hM cw (zPreW E hP hS hin isC hC hr) rfl hn hsz hst (lv_room hW) hdg hf) hS (fun q _ h => hin q h) hin (fun u t H1 locs1 ht _ _ hb _ hk1 hS1 => ?_)
  have hb1 : va_P D vwCl (zw N K ad I2 J2) H1 := by rw [← ht]; exact hb
  obtain ⟨hP2, hD2⟩ := zjoinW hP hD hin isC isR hC hR hnR hdis hF hk1 hb1 hi
  exact kk H1 locs1 hP2 hD2 hS1
end ZV
