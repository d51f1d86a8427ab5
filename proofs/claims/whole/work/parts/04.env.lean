abbrev vwCl : List vw_C := [(RX0, TX0, 17), (RX1, TX1, 6), (RX2, TX2, 4), (RX3, TX3, 5), (RX5, TX5, 4), (RX6, TX6, 7), (RX7, TX7, 1), (RX8, TX8, 4), (RX9, TX9, 10), (RX10, TX10, 9), (RX11, TX11, 12), (RX12, TX12, 31)]
def zNm : List (String × Nat × MethodName × String) := [(RX0, 105, yX11_within, "EdgeAndSpeed"), (RX0, 85, yX11_at, "EdgeAndSpeed"), (RX8, 53, yX11_within, "EdgeAndSpeed"), (RX2, 54, yX11_within, "EdgeAndSpeed"), (RX0, 119, yX11_depthOf, "EdgeAndSpeed"), (RX0, 122, yX11_speedOf, "EdgeAndSpeed"), (RX6, 87, yX11_depthOf, "EdgeAndSpeed"), (RX6, 90, yX11_speedOf, "EdgeAndSpeed"), (RX10, 84, yX11_depthOf, "EdgeAndSpeed"), (RX10, 87, yX11_speedOf, "EdgeAndSpeed"), (RX5, 46, yX11_depthOf, "EdgeAndSpeed"), (RX5, 49, yX11_speedOf, "EdgeAndSpeed"), (RX5, 79, yX11_within, "EdgeAndSpeed"), (RX3, 33, yX11_within, "EdgeAndSpeed"), (RX1, 37, yX11_within, "EdgeAndSpeed"), (RX9, 80, yX11_depthOf, "EdgeAndSpeed"), (RX9, 83, yX11_speedOf, "EdgeAndSpeed")]
def zNf : List (String × Nat × String × String × String × String) := [(RX11, 96, "EdgeAndSpeed$Text", "length", "I", "EdgeAndSpeed"), (RX11, 141, "EdgeAndSpeed$Bench", "breaking", "[I", "EdgeAndSpeed"), (RX11, 104, "EdgeAndSpeed$Bench", "speeds", "I", "EdgeAndSpeed"), (RX7, 65, "EdgeAndSpeed$Bench", "speeds", "I", "EdgeAndSpeed"), (RX10, 54, "EdgeAndSpeed$Bench", "pieces", "I", "EdgeAndSpeed"), (RX11, 107, "EdgeAndSpeed$Bench", "pieces", "I", "EdgeAndSpeed"), (RX6, 139, "EdgeAndSpeed$Bench", "pieces", "I", "EdgeAndSpeed"), (RX11, 211, "EdgeAndSpeed$Bench", "steels", "I", "EdgeAndSpeed"), (RX7, 36, "EdgeAndSpeed$Bench", "changeMinutes", "I", "EdgeAndSpeed"), (RX7, 44, "EdgeAndSpeed$Bench", "changePence", "I", "EdgeAndSpeed"), (RX9, 111, "EdgeAndSpeed$Bench", "changePence", "I", "EdgeAndSpeed"), (RX7, 62, "EdgeAndSpeed$Bench", "hourPence", "I", "EdgeAndSpeed"), (RX11, 271, "EdgeAndSpeed$Habits", "rows", "I", "EdgeAndSpeed"), (RX2, 58, "EdgeAndSpeed$Habits", "speed", "I", "EdgeAndSpeed"), (RX2, 85, "EdgeAndSpeed$Habits", "limit", "I", "EdgeAndSpeed"), (RX2, 102, "EdgeAndSpeed$Habits", "every", "I", "EdgeAndSpeed"), (RX6, 80, "EdgeAndSpeed$Measure", "bySpoilt", "J", "EdgeAndSpeed")]
/-! THE SURROUNDINGS: what holds at each method's start beside its world; calls and contracts over one world -/
def zTy (cy : Nat → ClassId) : List (ClassId × FieldType) := [(cy 0, .byte), (cy 1, .int), (cy 2, .long), (cy 3, .boolean), (cy 4, .object "EdgeAndSpeed$Habits"), (cy 5, .object "EdgeAndSpeed$Plan")]
def zMn (c : Nat) : String := if c = 0 then "VALUE" else if c = 1 then "HASTE" else if c = 2 then "MINUTES" else "SPOILT"
def zMf (f : Nat) : String := if f = 0 then "byPenny" else if f = 1 then "byDone" else if f = 2 then "bySpoilt" else if f = 3 then "byMinutes" else "byCost"
/-- the numbers of the measures: by the constant, by the field -/
def zMv (c f : Nat) : Int64 := if f = 0 then (if c = 0 then 6000 else 0) else if f = 1 then (if c = 1 then 100000 else 0) else if f = 2 then (if c = 3 then 1000000 else 0) else if f = 3 then (if c = 1 then -1 else if c = 2 then 1 else 0) else (if c = 0 then -1 else 0)
def zM (a0 : Nat → Nat) (A : Nat → Prop) (U : State) : Prop := ∀ c, c < 4 → va_Z "EdgeAndSpeed$Measure" (zMn c) "LEdgeAndSpeed$Measure;" (.ref (a0 c)) A U U.heap ∧ va_O "EdgeAndSpeed$Measure" (a0 c) A U U.heap ∧ ∀ f, f < 5 → va_OF "EdgeAndSpeed$Measure" (zMf f) "J" (.long (zMv c f)) (a0 c) A U U.heap
def zNs (U : State) : Prop := (∀ q ∈ zNm, va_Nw (.methodLinkNest q.1 q.2.1 q.2.2.1 q.2.2.2) U) ∧ ∀ q ∈ zNf, va_Nw (.fieldLinkNest q.1 q.2.1 q.2.2.1 q.2.2.2.1 q.2.2.2.2.1 q.2.2.2.2.2) U
def zIn (D : va_G) (a0 : Nat → Nat) (A : Nat → Prop) (cy : Nat → ClassId) (w : va_W) (U : State) : Prop := va_P D vwCl w U.heap ∧ va_K D vwCl (zTy cy) U ∧ zM a0 A U ∧ zNs U
def zE (D : va_G) (a0 : Nat → Nat) (A : Nat → Prop) (cy : Nat → ClassId) (s : State) : Prop := va_K D vwCl (zTy cy) s ∧ zM a0 A s ∧ zNs s
def zPc (D : va_G) (a0 : Nat → Nat) (A : Nat → Prop) (cy : Nat → ClassId) (av : List Value) (w : va_W) : Array Value → State → Prop := va_Pc av (zIn D a0 A cy w)
def zQi (D : va_G) (A : Nat → Prop) (x : Int32) (w : va_W) : Array Value → State → Outcome → State → Prop := va_Qi (fun r (_ : Unit) => r = x) (fun _ t => va_P D vwCl w t.heap) A
def zQl (D : va_G) (A : Nat → Prop) (x : Int64) (w : va_W) : Array Value → State → Outcome → State → Prop := va_Ql (fun r (_ : Unit) => r = x) (fun _ t => va_P D vwCl w t.heap) A
def zQv (D : va_G) (A : Nat → Prop) (w : va_W) : Array Value → State → Outcome → State → Prop := va_Qv (fun (_ : Unit) => True) (fun _ t => va_P D vwCl w t.heap) A
def zQr (D : va_G) (A : Nat → Prop) (a : Nat) (w : va_W) : Array Value → State → Outcome → State → Prop := va_Qr (fun (_ : Unit) => True) (fun _ b t => b = a ∧ va_P D vwCl w t.heap) A
def zD (A : Nat → Prop) (N : Nat) (ad : Nat → Nat) : Prop := (∀ i j, i < N → j < N → ad i = ad j → i = j) ∧ ∀ i, i < N → A (ad i)
theorem zD.D {A : Nat → Prop} {N : Nat} {ad : Nat → Nat} (h : zD A N ad) {K : zK} {I : zI} {J : zJ} : va_D A (zw N K ad I J) := by
  have g : ∀ (k : Nat) (q : Nat × va_E), (zw N K ad I J)[k]? = some q → k < N ∧ q.1 = ad k := by
    intro k q hk
    by_cases hl : k < N
    · rw [zw_get hl] at hk
      cases hk
      exact ⟨hl, rfl⟩
    · simp [zw, hl] at hk
  refine ⟨fun i j p q hi hj e => ?_, fun k q hk => ?_⟩
  · obtain ⟨h1, e1⟩ := g i p hi
    obtain ⟨h2, e2⟩ := g j q hj
    exact h.1 i j h1 h2 (by rw [← e1, ← e2, e])
  · obtain ⟨h1, e1⟩ := g k q hk
    rw [e1]; exact h.2 k h1
theorem zM.moved {a0 : Nat → Nat} {A : Nat → Prop} {u U : State} (hvm : u.vm.Alike U.vm) (hq : ∀ a : Nat, a < u.heap.size → ¬ A a → U.heap[a]? = u.heap[a]?) (h : zM a0 A u) : zM a0 A U := fun c hc => ⟨va_Z.moved hvm ((h c hc).1.kept hq), va_O.moved hvm ((h c hc).2.1.kept hq), fun f hf => va_OF.moved hvm (((h c hc).2.2 f hf).kept hq)⟩
theorem zNs.warm {u U : State} (hW : u.WarmedH U.vm) (h : zNs u) : zNs U := ⟨fun q hq => va_Nw.warmM hW (h.1 q hq), fun q hq => va_Nw.warmF hW (h.2 q hq)⟩
theorem zBlind {D : va_G} {a0 : Nat → Nat} {A : Nat → Prop} {cy : Nat → ClassId} {av : List Value} {w : va_W} : FrameBlind (zPc D a0 A cy av w) := by
  intro a U g mk h
  obtain ⟨h0, h1, h2, h3, h4⟩ := h
  exact ⟨h0, h1, va_K.moved (u := U) (U := U.calling g mk a) (Vm.Alike.refl U.vm) h2, zM.moved (u := U) (U := U.calling g mk a) (Vm.Alike.refl U.vm) (fun _ _ _ => rfl) h3, fun q hq => va_Nw.same rfl (rfl : U.vm = (U.calling g mk a).vm) (h4.1 q hq), fun q hq => va_Nw.same rfl (rfl : U.vm = (U.calling g mk a).vm) (h4.2 q hq)⟩
section ZX
variable {p : Program} {l : Launch} {e : Env} {R : Room} {s : State} {m : MethodId} {args : Array Value} {below : List Frame} {meth : Method} {c : Code} {H : Heap} {locs : List Loc} {Q : State → Prop} {pc : Nat} {ls : Array Slot} {cc : ByteArray} {nL : Nat} {Ts : List Cond} {own : String} {D : va_G} {a0 : Nat → Nat} {A : Nat → Prop} {cy : Nat → ClassId} {rest st : List Value} {w w' : va_W} {y : MethodName} {ws : List Cond} {rm : Room} {bytes : ByteArray} {maxL index n : Nat} {ret : Option FieldType} {C host : String} {b : Nat} {As : List Value}
theorem zIn_of (E : zE D a0 A cy s) (hS : va_S A s.heap H locs) (hP : va_P D vwCl w H) {U : State} (hU : U.heap = H) (hW : s.WarmedH U.vm) : zIn D a0 A cy w U :=
  ⟨by rw [hU]; exact hP, va_K.moved hW.alike E.1, zM.moved hW.alike (fun a h1 h2 => by rw [hU]; exact hS.2.1 a h1 h2) E.2.1, zNs.warm hW E.2.2⟩
theorem zPreV (E : zE D a0 A cy s) (hS : va_S A s.heap H locs) (hP : va_P D vwCl w H) (hr : ∃ cell : Cell, H[b]? = some cell ∧ cell.vm.isStatics = false ∧ s.vm.findClass C = some cell.cls) : PreV s H C b (zPc D a0 A cy (.ref b :: As) w) As :=
  ⟨zBlind, hr, fun _ hU hW => ⟨rfl, zIn_of E hS hP hU hW⟩⟩
theorem zPreS (E : zE D a0 A cy s) (hS : va_S A s.heap H locs) (hP : va_P D vwCl w H) : PreS s H (zPc D a0 A cy As w) As :=
  ⟨zBlind, fun _ hU hW => ⟨rfl, zIn_of E hS hP hU hW⟩⟩
theorem zgo_i {x : Int32} {a : Array Value} (hr : va_Run p l e R s m args below meth c H locs 0 0 0 0 (F0 m pc ls st) rest (zQi D A x w' a) A) (hS : va_S A s.heap H locs) (kk : ∀ (H1 : Heap) (locs1 : List Loc), va_P D vwCl w' H1 → va_S A s.heap H1 locs1 → W p l e R s m args below meth c H1 locs1 0 0 Q (F0 m (pc + 3) ls (.int x :: rest))) : W p l e R s m args below meth c H locs 0 0 Q (F0 m pc ls st) :=
  va_calli hr hS (fun _ _ h => h) (fun _ h => h) (fun r u t H1 locs1 ht _ hp hb _ _ hS1 => by subst hp; subst ht; exact kk _ _ hb hS1)
theorem zgo_l {x : Int64} {a : Array Value} (hr : va_Run p l e R s m args below meth c H locs 0 0 0 0 (F0 m pc ls st) rest (zQl D A x w' a) A) (hS : va_S A s.heap H locs) (kk : ∀ (H1 : Heap) (locs1 : List Loc), va_P D vwCl w' H1 → va_S A s.heap H1 locs1 → W p l e R s m args below meth c H1 locs1 0 0 Q (F0 m (pc + 3) ls (.long x :: rest))) : W p l e R s m args below meth c H locs 0 0 Q (F0 m pc ls st) :=
  va_calll hr hS (fun _ _ h => h) (fun _ h => h) (fun r u t H1 locs1 ht _ hp hb _ _ hS1 => by subst hp; subst ht; exact kk _ _ hb hS1)
theorem zgo_v {a : Array Value} (hr : va_Run p l e R s m args below meth c H locs 0 0 0 0 (F0 m pc ls st) rest (zQv D A w' a) A) (hS : va_S A s.heap H locs) (kk : ∀ (H1 : Heap) (locs1 : List Loc), va_P D vwCl w' H1 → va_S A s.heap H1 locs1 → W p l e R s m args below meth c H1 locs1 0 0 Q (F0 m (pc + 3) ls rest)) : W p l e R s m args below meth c H locs 0 0 Q (F0 m pc ls st) :=
  va_callv hr hS (fun _ _ h => h) (fun _ h => h) (fun u t H1 locs1 ht _ _ hb _ _ hS1 => by subst ht; exact kk _ _ hb hS1)
theorem zgo_r {x : Nat} {a : Array Value} (hr : va_Run p l e R s m args below meth c H locs 0 0 0 0 (F0 m pc ls st) rest (zQr D A x w' a) A) (hS : va_S A s.heap H locs) (kk : ∀ (H1 : Heap) (locs1 : List Loc), va_P D vwCl w' H1 → va_S A s.heap H1 locs1 → W p l e R s m args below meth c H1 locs1 0 0 Q (F0 m (pc + 3) ls (.ref x :: rest))) : W p l e R s m args below meth c H locs 0 0 Q (F0 m pc ls st) :=
  va_callr hr hS (fun _ _ h => h) (fun _ h => h) (fun u q t H1 locs1 ht _ _ hb _ _ hS1 => by obtain ⟨e1, hb⟩ := hb; subst e1; subst ht; exact kk _ _ hb hS1)
/-- a virtual call, ready to go -/
theorem zrunV {Qc : Array Value → State → Outcome → State → Prop} (S : CallFix p m c cc nL s args Ts own) (hM : Met l y ws rm (zPc D a0 A cy (.ref b :: As) w) Qc 0 0 A) (cw : CallW R s args own C index y bytes maxL ret ws rm 0 0 n) (hr : ∃ cell : Cell, H[b]? = some cell ∧ cell.vm.isStatics = false ∧ s.vm.findClass C = some cell.cls) (E : zE D a0 A cy s) (hP : va_P D vwCl w H) (hS : va_S A s.heap H locs) (hsz : ls.size = nL) (hn : As.length = n) (hst : st = As.reverse ++ .ref b :: rest) (hW : (rest.map fun v => v.category).sum ≤ 8) (hdg : decode cc pc = .ok (.invokevirtual index, 3)) : va_Run p l e R s m args below meth c H locs 0 0 0 0 (F0 m pc ls st) rest (Qc (Value.ref b :: As).toArray) A :=
  va_runV (g := F0 m pc ls st) S hM cw (zPreV E hS hP hr) rfl hn hsz hst (lv_room hW) hdg ⟨Nat.zero_le _, Nat.zero_le _⟩
theorem zrunS {Qc : Array Value → State → Outcome → State → Prop} (S : CallFix p m c cc nL s args Ts own) (hM : Met l y ws rm (zPc D a0 A cy As w) Qc 0 0 A) (cw : CallB R s args own index y bytes maxL ret ws rm 0 0 n ∧ (Cond.static y).before args s = true) (E : zE D a0 A cy s) (hP : va_P D vwCl w H) (hS : va_S A s.heap H locs) (hsz : ls.size = nL) (hn : As.length = n) (hst : st = As.reverse ++ rest) (hW : (rest.map fun v => v.category).sum ≤ 8) (hdg : decode cc pc = .ok (.invokestatic index, 3)) : va_Run p l e R s m args below meth c H locs 0 0 0 0 (F0 m pc ls st) rest (Qc As.toArray) A :=
  va_runS (g := F0 m pc ls st) S hM cw (zPreS E hS hP) rfl hn hsz hst (lv_room hW) hdg ⟨Nat.zero_le _, Nat.zero_le _⟩
theorem zrunSN {Qc : Array Value → State → Outcome → State → Prop} (S : CallFix p m c cc nL s args Ts own) (hM : Met l y ws rm (zPc D a0 A cy As w) Qc 0 0 A) (cw : va_CN R s args own index y host bytes maxL ret ws rm 0 0 n ∧ (Cond.static y).before args s = true ∧ True) (E : zE D a0 A cy s) (hP : va_P D vwCl w H) (hS : va_S A s.heap H locs) (hsz : ls.size = nL) (hn : As.length = n) (hst : st = As.reverse ++ rest) (hW : (rest.map fun v => v.category).sum ≤ 8) (hdg : decode cc pc = .ok (.invokestatic index, 3)) : va_Run p l e R s m args below meth c H locs 0 0 0 0 (F0 m pc ls st) rest (Qc As.toArray) A :=
  va_runSN (g := F0 m pc ls st) S hM cw (zPreS E hS hP) rfl hn hsz hst (lv_room hW) hdg ⟨Nat.zero_le _, Nat.zero_le _⟩
end ZX
/-- what a walk needs at its start -/
def zSt (p : Program) (m : MethodId) (c : Code) (cc : ByteArray) (nL : Nat) (s : State) (args : Array Value) (Ts : List Cond) (own : String) (D : va_G) (a0 : Nat → Nat) (A : Nat → Prop) (cy : Nat → ClassId) (w : va_W) (av : List Value) (ls : Array Slot) : Prop := CallFix p m c cc nL s args Ts own ∧ zE D a0 A cy s ∧ va_P D vwCl w s.heap ∧ lv_has ls nL (lv_args 0 av)
section ZM
variable {l : Launch} {y : MethodName} {ws ws' : List Cond} {cc : ByteArray} {maxL : Nat} {ret : Option FieldType} {D : va_G} {a0 : Nat → Nat} {A : Nat → Prop} {cy : Nat → ClassId} {w w' : va_W} {av : List Value} {fr lo : Nat}
theorem zmet (own : String) {Qc : Array Value → State → Outcome → State → Prop} (hy : plainName y.cls = true) (hw : ws = Cond.code y cc maxL ret :: ws') (ho : y.cls = own) (hlen : (lg_sl av).length ≤ maxL)
    (body : ∀ p e R s m below meth c (Q : State → Prop), fr ≤ R.frames → lo ≤ R.locals → ∀ ls, zSt p m c cc maxL s av.toArray ws own D a0 A cy w av ls → (∀ (H : Heap) (locs : List Loc) (g : JFrame), va_S A s.heap H locs → (p.tables.exec = Jvm.exec → c.code = cc → meth.sig.returnType = ret → meth.locks = false → (∀ q ∈ locs, A q.base) → W p l e R s m av.toArray below meth c H locs 0 0 (MQ below Qc av.toArray s 0 0 A) g) → W p l e R s m av.toArray below meth c H locs 0 0 Q g) → W p l e R s m av.toArray below meth c s.heap [] 0 0 Q (F0 m 0 ls [])) :
    Met l y ws { frames := fr, cells := 0, slots := 0, locals := lo } (zPc D a0 A cy av w) Qc 0 0 A := by
  refine Met.ofW (cc := cc) (maxL := maxL) (ret := ret) hy hw ?_
  intro p e s m args below meth c s₁ B hml hv
  obtain ⟨rfl, hP, hE⟩ := hv
  have hts := atoms_spec (ws := ws) B.pre
  have hown : s.vm.findClass own = some m.cls := ho ▸ findClass_of_methodNamed B.named
  have hl := lv_entry av hlen
  rw [lg_entry_eq]
  refine body p e _ s m below meth c _ (Nat.le_refl _) (Nat.le_refl _) _ ⟨⟨B.exec, B.bytes, hml, hown, hts⟩, hE, hP, hl⟩ ?_
  intro H locs g hS k
  exact k B.exec B.bytes B.returns B.notSynchronized hS.2.2
end ZM
