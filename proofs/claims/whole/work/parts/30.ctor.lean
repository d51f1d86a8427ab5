/-! CONSTRUCTORS: over explicit worlds that grow -/
theorem zRAinj {U : State} {c1 c2 : ClassId} {ty : FieldType} (h1 : va_RA U c1 ty) (h2 : va_RA U c2 ty) : c1 = c2 := by
  cases ty with
  | object C =>
    obtain ⟨_, _, _, _, _, h⟩ := h1
    obtain ⟨_, _, _, _, _, g⟩ := h2
    exact Option.some.inj (h.symm.trans g)
  | _ => exact Option.some.inj (h1.symm.trans h2)
def zEA (D : va_G) (a0 : Nat → Nat) (A : Nat → Prop) (cy : Nat → ClassId) (s : State) : Prop := zE D a0 A cy s ∧ va_AO "EdgeAndSpeed$Habits" s ∧ va_AO "EdgeAndSpeed$Plan" s
def zPcI (D : va_G) (a0 : Nat → Nat) (cy : Nat → ClassId) (av : List Value) (ws : va_W) (sz : Nat) : Array Value → State → Prop := va_Pc av (fun U => U.heap.size = sz ∧ va_P D vwCl ws U.heap ∧ va_D (fun _ => True) ws ∧ zEA D a0 (va_A ws sz) cy U)
def zQvI {T : Type} (D : va_G) (px : T → Prop) (ws : va_W) (sz : Nat) (wo : T → va_W) : Array Value → State → Outcome → State → Prop := va_Qv (fun (u : T) => px u) (fun u t => va_P D vwCl (wo u) t.heap ∧ va_D (va_A ws sz) (wo u)) (va_A ws sz)
theorem zM.narrow {a0 : Nat → Nat} {A B : Nat → Prop} {U : State} (h : zM a0 A U) (hAB : ∀ q, B q → A q) : zM a0 B U := fun c hc => ⟨(h c hc).1.narrow hAB, (h c hc).2.1.narrow hAB, fun f hf => ((h c hc).2.2 f hf).narrow hAB⟩
theorem zBlindI {D : va_G} {a0 : Nat → Nat} {cy : Nat → ClassId} {av : List Value} {ws : va_W} {sz : Nat} : FrameBlind (zPcI D a0 cy av ws sz) := by
  intro a U g mk h
  obtain ⟨h0, hs, h1, hd, ⟨h2, h3, h4⟩, h5, h6⟩ := h
  exact ⟨h0, hs, h1, hd, ⟨va_K.moved (u := U) (U := U.calling g mk a) (Vm.Alike.refl U.vm) h2, zM.moved (u := U) (U := U.calling g mk a) (Vm.Alike.refl U.vm) (fun _ _ _ => rfl) h3, fun q hq => va_Nw.same rfl (rfl : U.vm = (U.calling g mk a).vm) (h4.1 q hq), fun q hq => va_Nw.same rfl (rfl : U.vm = (U.calling g mk a).vm) (h4.2 q hq)⟩, va_AO.moved (u := U) (U := U.calling g mk a) (Vm.Alike.refl U.vm) h5, va_AO.moved (u := U) (U := U.calling g mk a) (Vm.Alike.refl U.vm) h6⟩
section ZC
variable {p : Program} {l : Launch} {e : Env} {R : Room} {s : State} {m : MethodId} {args : Array Value} {below : List Frame} {meth : Method} {c : Code} {H H0 : Heap} {locs : List Loc} {cells slots : Nat} {Q : State → Prop} {pc : Nat} {ls : Array Slot} {cc : ByteArray} {nL : Nat} {Ts : List Cond} {own : String} {D : va_G} {a0 : Nat → Nat} {A : Nat → Prop} {cy : Nat → ClassId} {rest st : List Value} {y : MethodName} {wsy : List Cond} {rm : Room} {bytes : ByteArray} {maxL index n mc ms : Nat} {b : Nat} {As : List Value} {ws wc wr : va_W}
theorem zPreI (E : zEA D a0 A cy s) (hP : va_P D vwCl ws H) (hD : va_D A ws) (hS : va_S A s.heap H locs) (hA : ∀ q, s.heap.size ≤ q → A q) (isC : List Nat) (hC : isC.map (fun i => ws[i]?) = wc.map some) (hn : va_nd isC = true) : PreS s H (zPcI D a0 cy (.ref b :: As) wc H.size) (.ref b :: As) := by
  have hF := va_free (wc := wc) hD hS hA isC hC
  have hsub : va_P D vwCl wc H := by
    intro k q hq
    have h1 : (isC.map (fun i => ws[i]?))[k]? = some (some q) := by rw [hC, List.getElem?_map, hq]; rfl
    rw [List.getElem?_map] at h1
    cases hi : isC[k]? with
    | none => rw [hi] at h1; cases h1
    | some i => rw [hi] at h1; exact hP i q (Option.some.inj h1)
  refine ⟨zBlindI, fun U hU hW => ⟨rfl, by rw [hU], by rw [hU]; exact hsub, (hD.sub isC hn hC).weaken (fun _ _ _ _ => trivial), ⟨va_K.moved hW.alike E.1.1, ?_, zNs.warm hW E.1.2.2⟩, va_AO.moved hW.alike E.2.1, va_AO.moved hW.alike E.2.2⟩⟩
  exact (zM.moved hW.alike (fun a h1 h2 => by rw [hU]; exact hS.2.1 a h1 h2) E.1.2.1).narrow hF
/-- a constructor's call: the new object's cells come back beside the rest -/
theorem zcallI {T : Type} {px : T → Prop} {wo : T → va_W} (S : CallFix p m c cc nL s args Ts own) (hM : Met l y wsy rm (zPcI D a0 cy (.ref b :: As) wc H.size) (zQvI D px wc H.size wo) mc ms (va_A wc H.size)) (cw : CallB R s args own index y bytes maxL none wsy rm mc ms n ∧ y.name = "<init>" ∧ (Cond.instanceMethod y).before args s = true) (E : zEA D a0 A cy s) (hP : va_P D vwCl ws H) (hD : va_D A ws) (hS : va_S A s.heap H locs) (hA : ∀ q, s.heap.size ≤ q → A q) (hsz : ls.size = nL) (hn : As.length = n) (hst : st = As.reverse ++ .ref b :: rest) (hW : (rest.map fun v => v.category).sum ≤ 8) (hdg : decode cc pc = .ok (.invokespecial index, 3)) (isC isR : List Nat) (hC : isC.map (fun i => ws[i]?) = wc.map some) (hR : isR.map (fun i => ws[i]?) = wr.map some) (hnC : va_nd isC = true) (hnR : va_nd isR = true) (hdis : ∀ i ∈ isR, i ∉ isC) (hf : cells + mc ≤ R.cells ∧ slots + ms ≤ R.slots)
    (kk : ∀ (u : T) (H1 : Heap) (locs1 : List Loc), px u → va_P D vwCl (wr ++ wo u) H1 → va_D A (wr ++ wo u) → va_S A s.heap H1 locs1 → W p l e R s m args below meth c H1 locs1 (cells + mc) (slots + ms) Q (F0 m (pc + 3) ls rest)) : W p l e R s m args below meth c H locs cells slots Q (F0 m pc ls st) := by
  have hFc := va_free (wc := wc) hD hS hA isC hC
  refine va_callv (va_runI (g := F0 m pc ls st) S hM cw (zPreI E hP hD hS hA isC hC hnC) rfl hn hsz hst (lv_room hW) hdg hf) hS (fun q _ h => hFc q h) hFc (fun u t H1 locs1 ht hvm hw hB hz1 hk1 hS1 => ?_)
  obtain ⟨hP1, hD1⟩ := hB
  rw [ht] at hP1
  obtain ⟨hP2, hD2⟩ := va_join (wr := wr) (w1 := wo u) hP hD isC isR hC hR hnR hdis hk1 hFc hP1 hD1
  exact kk u H1 locs1 hw hP2 hD2 hS1
theorem znewa (hexec : p.tables.exec = Jvm.exec) (hb : c.code = cc) {atype : ArrayType} (harr : (Cond.arrayClass (newarray.typeOf atype)).before args s = true) {ty : FieldType} (hty : newarray.typeOf atype = ty) (hK : va_K D vwCl (zTy cy) s) {k : Nat} {cA : ClassId} (hk : (zTy cy)[k]? = some (cA, ty)) (hP : va_P D vwCl ws H) (hD : va_D A ws) (hS : va_S A H0 H locs) (hA : ∀ q, H0.size ≤ q → A q)
    {n : Int32} {N' : Nat} {x0 : vp_A} (ha : ∀ cA : ClassId, vp_cell cA x0 = arrV cA N' (fun _ => defaultValue ty)) (hn : ¬ n < 0) (hN : n.toNatClampNeg = N') (hbytes : N' * componentBytes ty ≤ 536870912) (hcells : cells + 1 ≤ R.cells) (hslots : slots + N' ≤ R.slots) (hdg : decode cc pc = .ok (.newarray atype, 2))
    (kk : ∀ (q : Nat) (H1 : Heap), va_P D vwCl (ws ++ [(q, .inl (cA, x0))]) H1 → va_D A (ws ++ [(q, .inl (cA, x0))]) → va_S A H0 H1 locs →
      W p l e R s m args below meth c H1 locs (cells + 1) (slots + N') Q (F0 m (pc + 2) ls (.ref q :: rest))) : W p l e R s m args below meth c H locs cells slots Q (F0 m pc ls (.int n :: rest)) :=
  va_newa hexec hb harr hty hK hP hD hS hA ha hn hN hbytes hcells hslots hdg (fun q cB H1 hK2 hP1 hD1 hS1 => by
    have e1 : (zTy cy ++ [(cB, ty)])[(zTy cy).length]? = some (cB, ty) := by simp
    have e2 : cB = cA := zRAinj (hK2.2 _ _ e1).2 (hK.2 _ _ hk).2
    subst e2
    exact kk q H1 hP1 hD1 hS1)
theorem znewq (hexec : p.tables.exec = Jvm.exec) (hb : c.code = cc) {C : String} (hown : s.vm.findClass own = some m.cls) (hclink : (Cond.classLink own index C).before args s = true) (hover : va_AO C s) (hK : va_K D vwCl (zTy cy) s) {k : Nat} {cA : ClassId} (hk : (zTy cy)[k]? = some (cA, .object C)) (hP : va_P D vwCl ws H) (hD : va_D A ws) (hS : va_S A H0 H locs) (hA : ∀ q, H0.size ≤ q → A q)
    {n : Int32} {N' : Nat} (hn : ¬ n < 0) (hN : n.toNatClampNeg = N') (hbytes : N' * 4 ≤ 536870912) (hcells : cells + 1 ≤ R.cells) (hslots : slots + N' ≤ R.slots) (hdg : decode cc pc = .ok (.anewarray index, 3))
    (kk : ∀ (q : Nat) (H1 : Heap), va_P D vwCl (ws ++ [(q, .inl (cA, N', .inr (.inr (.inr (.inr (fun _ => none))))))]) H1 → va_D A (ws ++ [(q, .inl (cA, N', .inr (.inr (.inr (.inr (fun _ => none))))))]) → va_S A H0 H1 locs →
      W p l e R s m args below meth c H1 locs (cells + 1) (slots + N') Q (F0 m (pc + 3) ls (.ref q :: rest))) : W p l e R s m args below meth c H locs cells slots Q (F0 m pc ls (.int n :: rest)) :=
  va_newq hexec hb hown hclink hover hK hP hD hS hA hn hN hbytes hcells hslots hdg (fun q cB H1 hK2 hP1 hD1 hS1 => by
    have e1 : (zTy cy ++ [(cB, .object C)])[(zTy cy).length]? = some (cB, .object C) := by simp
    have e2 : cB = cA := zRAinj (hK2.2 _ _ e1).2 (hK.2 _ _ hk).2
    subst e2
    exact kk q H1 hP1 hD1 hS1)
end ZC
/-- a constructor's contract -/
theorem zmetI {l : Launch} {y : MethodName} {wsy ws' : List Cond} {cc : ByteArray} {maxL : Nat} {D : va_G} {a0 : Nat → Nat} {cy : Nat → ClassId} {ws : va_W} {av : List Value} {fr lo mc ms sz : Nat} {T : Type} {px : T → Prop} {wo : T → va_W} (own : String) (hy : plainName y.cls = true) (hw : wsy = Cond.code y cc maxL none :: ws') (ho : y.cls = own) (hyn : y.name = "<init>") (hlen : (lg_sl av).length ≤ maxL)
    (body : ∀ p e R s m below meth c (Q : State → Prop), fr ≤ R.frames → lo ≤ R.locals → mc ≤ R.cells → ms ≤ R.slots → sz = s.heap.size → meth.name = "<init>" → ∀ ls, CallFix p m c cc maxL s av.toArray wsy own → zEA D a0 (va_A ws s.heap.size) cy s → va_P D vwCl ws s.heap → va_D (va_A ws s.heap.size) ws → lv_has ls maxL (lv_args 0 av) → (∀ (H : Heap) (locs : List Loc) (ls : Array Slot) (pc : Nat) (u : T), px u → va_P D vwCl (wo u) H → va_D (va_A ws s.heap.size) (wo u) → va_S (va_A ws s.heap.size) s.heap H locs → decode cc pc = .ok (.return_, 1) → W p l e R s m av.toArray below meth c H locs mc ms Q (F0 m pc ls [])) → W p l e R s m av.toArray below meth c s.heap [] 0 0 Q (F0 m 0 ls [])) :
    Met l y wsy { frames := fr, cells := mc, slots := ms, locals := lo } (zPcI D a0 cy av ws sz) (zQvI D px ws sz wo) mc ms (va_A ws sz) := by
  refine Met.ofW (cc := cc) (maxL := maxL) (ret := none) hy hw ?_
  intro p e s m args below meth c s₁ B hml hv
  obtain ⟨rfl, hsz, hP, hD, hE⟩ := hv
  have hts := atoms_spec (ws := wsy) B.pre
  have hown : s.vm.findClass own = some m.cls := ho ▸ findClass_of_methodNamed B.named
  have hl := lv_entry av hlen
  rw [lg_entry_eq]
  subst hsz
  refine body p e _ s m below meth c _ (Nat.le_refl _) (Nat.le_refl _) (Nat.le_refl _) (Nat.le_refl _) rfl ((name_of_methodNamed B.named B.method).1.trans hyn) _ ⟨B.exec, B.bytes, hml, hown, hts⟩ hE hP hD.self hl ?_
  intro H locs ls pc u hpx hP hD hS hd
  exact W.vret B.exec B.bytes B.returns (fun t ht hW => ⟨⟨u, rfl, hpx, by rw [ht]; exact hP, hD⟩, hS.F ht⟩) hS.2.2 hd B.notSynchronized
