/-! the law's own methods: rows -/
theorem Met.ofWH {l : Launch} {y : MethodName} {ws ws' : List Cond} {rm : Room} {Pc : Array Value → State → Prop} {Qc : Array Value → State → Outcome → State → Prop} {mc ms : Nat} {free : Addr → Prop} {cc : ByteArray} {maxL : Nat} {ret : Option FieldType} {hh : List (Nat × Nat × Nat × Nat)}
    (hy : plainName y.cls = true) (hw : ws = Cond.codeWith y cc maxL ret hh :: ws')
    (body : ∀ p e s m args below meth c s₁, BodyLoose p l y (headSpec ws rm) cc maxL ret e s m args below meth c s₁ → c.maxLocals = maxL → Pc args s →
      W p l e (headSpec ws rm).room s m args below meth c s.heap [] 0 0 (MQ below Qc args s mc ms free) (entryFrame m args maxL)) : Met l y ws rm Pc Qc mc ms free := by
  refine MetFree.of_bodyS (code := cc) (maxLocals := maxL) (ret := ret) hy ?_ ?_
  · intro args s m h hn
    obtain ⟨m9, meth, c, hn9, h1, h2, h3, h4, -, h5, h6, -⟩ := Cond.codeWith_spec (atoms_spec (ws := ws) h _ (by rw [hw]; exact List.mem_cons_self))
    cases hn.symm.trans hn9
    exact ⟨meth, c, h1, h2, h3, h4, h5, h6⟩
  · intro p e s m args below meth c s₁ B hml hP _
    have hh0 : s₁.heap = s.heap := by rw [B.state]; rfl
    obtain ⟨t, a1, o, b1, b2, b3⟩ := body p e s m args below meth c s₁ B hml hP s₁ hh0 (Stand.of_body B)
    exact ⟨t, o, a1, b1, b2, ⟨b3.1, b3.2⟩⟩
def LwI (l : Launch) (y : MethodName) (b : ByteArray) (n : Nat) (hh : List (Nat × Nat × Nat × Nat)) (rm : Room) (D : va_G) (T : Nat → ClassId) (sz : Nat) (ws ws1 : va_W) (as : List Value) (r : Int32) : Prop :=
  Met l y (.codeWith y b n (some .int) hh :: aw) rm (va_Pc as (ThP D T ws sz)) (va_Qi (fun x (_ : Unit) => x = r) (fun _ t => va_P D kC ws1 t.heap) (va_A ws sz)) rm.cells rm.slots (va_A ws sz)
section LAWR
variable {p : Program} {l : Launch} {e : Env} {R : Room} {s : State} {m : MethodId} {args : Array Value} {below : List Frame} {meth : Method} {c : Code} {H : Heap} {locs : List Loc} {cells slots : Nat} {Q : State → Prop} {pc : Nat} {ls : Array Slot} {rest st : List Value}
variable {D : va_G} {T : Nat → ClassId} {ws wc wc1 ws1 : va_W} {cc b : ByteArray} {nL n k idx mc ms : Nat} {own : String} {y : MethodName} {ty : FieldType} {ret : Option FieldType} {rm : Room} {as : List Value} {r : Int32} {A : Nat → Prop} {H0 : Heap} {hh : List (Nat × Nat × Nat × Nat)} {ex : Nat}
def LwRet (p : Program) (l : Launch) (e : Env) (R : Room) (s : State) (m : MethodId) (args : Array Value) (below : List Frame) (meth : Method) (c : Code) (Q : State → Prop) (cc : ByteArray) (D : va_G) (A : Nat → Prop) (ws1 : va_W) (r : Int32) : Prop :=
  ∀ (H : Heap) (locs : List Loc) (cells slots pc : Nat) (ls : Array Slot) (v : Int32), cells ≤ R.cells → slots ≤ R.slots → decode cc pc = .ok (.ireturn, 1) → v = r → va_P D kC ws1 H → va_S A s.heap H locs → W p l e R s m args below meth c H locs cells slots Q (F0 m pc ls [.int v])
theorem lwMet {sz : Nat} (hnt : l.stackTraces = false) (hy : plainName y.cls = true) (hw : Cond.codeWith y b n (some .int) hh ∈ aw) (hlen : Nat.ble (lg_sl as).length n = true) (body : ∀ (p : Program) (e : Env) (s : State) (m : MethodId) (args : Array Value) (below : List Frame) (meth : Method) (c : Code) (Q : State → Prop) (A : Nat → Prop), CallFix p m c b n s args aw y.cls → c.exceptionTable.toList = tableOf hh → eK D T s → (∀ q, s.heap.size ≤ q → A q) → eX l A s → va_P D kC ws s.heap → va_D A ws → va_S A s.heap s.heap [] → LwRet p l e rm s m args below meth c Q b D A ws1 r → ∀ ls : Array Slot, lv_has ls n (lv_args 0 as) → W p l e rm s m args below meth c s.heap [] 0 0 Q (F0 m 0 ls [])) : LwI l y b n hh rm D T sz ws ws1 as r := by
  refine Met.ofWH (cc := b) (maxL := n) (ret := some .int) (hh := hh) hy rfl ?_
  intro p e s m args below meth c s₁ B hml hv
  obtain ⟨rfl, ⟨hsz, hP, hE, hD0⟩, hz1, hz2⟩ := hv
  subst hsz
  have hts : ∀ w ∈ (Cond.codeWith y b n (some .int) hh :: aw), w.before as.toArray s = true := atoms_spec (ws := .codeWith y b n (some .int) hh :: aw) B.pre
  have hr := B.returns
  have hlocks := B.notSynchronized
  have hl := lv_entry as (n := n) (Nat.le_of_ble_eq_true hlen)
  rw [lg_entry_eq]
  exact body p e s m _ below meth c _ (va_A ws s.heap.size) ⟨B.exec, B.bytes, hml, findClass_of_methodNamed B.named, fun w hw => hts w (List.mem_cons_of_mem _ hw)⟩ (vx_table (x := y) B (hts _ (List.mem_cons_self ..))) hE (fun q h => Or.inr h) ⟨hnt, hz1, hz2⟩ hP hD0.self va_S.rf (fun H locs cells slots pc ls v hc hs hd hw hP1 hS => W.widen hc hs (W.iret B.exec B.bytes hr (fun t ht _ => ⟨⟨v, (), rfl, hw, by show va_P D kC ws1 t.heap; rw [ht]; exact hP1⟩, hS.F ht⟩) hS.2.2 hd hlocks)) _ hl
theorem lwS (C : CallFix p m c cc nL s args aw own) (hE : eK D T s) (hZ : eX l A s) (hP : va_P D kC ws H) (hD : va_D A ws) (hS : va_S A s.heap H locs) (hA : ∀ q, s.heap.size ≤ q → A q) (hM : LwI l y b n hh rm D T H.size wc wc1 as r) (hm : MLw y b n hh k) (hl : Cond.methodLink own idx y ∈ aw) (isC isR : List Nat) (hn : va_nd isC = true) (hC : isC.map (fun i => ws[i]?) = wc.map some) (hC1 : isC.map (fun i => ws1[i]?) = wc1.map some) (hR1 : isR.map (fun i => ws1[i]?) = getW ws isR) (hcov : (List.range ws1.length).all (fun i => isC.contains i || isR.contains i) = true) (ha : ws1.map Prod.fst = fstW ws)
    (hR : rm.frames + 1 ≤ R.frames ∧ 8 + (n + 11) + rm.locals ≤ R.locals) (hk : as.length = k) (hsz : ls.size = nL) (hst : st = as.reverse ++ rest) (hW : (rest.map fun v => v.category).sum ≤ 8) (hd : decode cc pc = .ok (.invokestatic idx, 3)) (hf : cells + rm.cells ≤ R.cells ∧ slots + rm.slots ≤ R.slots)
    (kk : ∀ (H1 : Heap) (locs1 : List Loc), va_P D kC ws1 H1 → va_D A ws1 → va_S A s.heap H1 locs1 → W p l e R s m args below meth c H1 locs1 (cells + rm.cells) (slots + rm.slots) Q (F0 m (pc + 3) ls (.int r :: rest))) : W p l e R s m args below meth c H locs cells slots Q (F0 m pc ls st) :=
  va_calli (vx_runSW C hM (vx_cwSW k C.2.2.2.2 (aw_goodIn (fun w hw => by
      rcases List.mem_append.mp hw with h | h
      · simp only [List.mem_cons, List.not_mem_nil, or_false] at h
        rcases h with rfl | rfl | rfl
        · exact hl
        · exact hm.2.2.2.2
        · exact hm.1
      · rcases List.mem_cons.mp h with rfl | h
        · exact hm.2.1
        · exact h)) rfl rfl rfl ⟨hm.2.2.1.1, hm.2.2.1.2, hm.2.2.2.1⟩ hR) ⟨ThP.blind, fun U hU hW => ⟨rfl, ⟨by rw [hU], by rw [hU]; exact subOf hP hC, hE.moved hW, subD hD hn hC⟩, zq_call hZ.2.1 hS hD hA hC hU hW, zq_call hZ.2.2.1 hS hD hA hC hU hW, eS_call hZ.2.2.2 hS hD hA hC hU hW⟩⟩ rfl hk hsz hst (lv_room hW) hd hf) hS (fun q _ h => freeOf hD hS hA hC q h) (freeOf hD hS hA hC)
    (fun x u t H1 locs1 ht hvm hw hB hz1 hk1 hS1 => by rw [hw]; exact kk H1 locs1 (put_P hP hD hk1 (by rw [← ht]; exact hB) hC hC1 (hR1.trans (getW_eq ws isR)) hcov) (addr_D hD (ha.trans (fstW_eq ws))) hS1)
/-- a handler takes the exception -/
theorem lcatch {E : String} {ce : Cell} {q : Addr} (C : CallFix p m c cc nL s args aw own) (hE : eK D T s) (hT : c.exceptionTable.toList = tableOf hh) (pre : List (Nat × Nat × Nat × Nat)) (x : Nat × Nat × Nat × Nat) (suf : List (Nat × Nat × Nat × Nat)) (hsplit : hh = pre ++ x :: suf)
    (hpass : ∀ z ∈ pre, z.2.2.2 ≠ 0 ∧ ∃ nm : String, Cond.classLink own z.2.2.2 nm ∈ aw ∧ (E, nm) ∈ kNc) (hx : covers ⟨x.1, x.2.1, x.2.2.1, x.2.2.2⟩ pc = true) (h0 : x.2.2.2 ≠ 0) (hlink : Cond.classLink own x.2.2.2 E ∈ aw) (hcast : (E, E) ∈ kCa) (hcell : H[q]? = some ce) (hv : ce.vm = .none) (hcl : s.vm.findClass E = some ce.cls)
    (kk : W p l e R s m args below meth c H locs cells slots Q (F0 m x.2.2.1 ls [.ref q])) : vx_W p l e R s m args below meth c H locs cells slots Q (F0 m pc ls rest) q := by
  refine vx_catch (own := own) (name := E) (E := E) (ce := ce) C.2.2.2.1 (tableOf pre) ⟨x.1, x.2.1, x.2.2.1, x.2.2.2⟩ (tableOf suf) (by rw [hT, hsplit]; simp [tableOf]) (fun z hz => ?_) hx h0 (C.2.2.2.2 _ hlink) (va_Nw.use rfl (hE.2.2.2.1 _ hcast)) hcell hv hcl kk
  obtain ⟨z0, hz0, rfl⟩ := List.mem_map.mp hz
  obtain ⟨h1, nm, h2, h3⟩ := hpass z0 hz0
  exact Or.inr ⟨h1, nm, C.2.2.2.2 _ h2, hE.2.2.2.2.1 _ h3⟩
end LAWR
section LNR
variable {p : Program} {l : Launch} {e : Env} {R : Room} {s : State} {m : MethodId} {args : Array Value} {below : List Frame} {meth : Method} {c : Code} {H : Heap} {locs : List Loc} {cells slots : Nat} {Q : State → Prop} {pc : Nat} {ls : Array Slot} {rest st : List Value}
variable {D : va_G} {T : Nat → ClassId} {ws wc wc1 wr ws1 : va_W} {cc b : ByteArray} {nL n k idx mc ms : Nat} {own : String} {y : MethodName} {ty : FieldType} {ret : Option FieldType} {rm : Room} {as : List Value} {r : Int32} {A : Nat → Prop} {H0 : Heap} {Wo : (Nat → Nat) → va_W} {an : (Nat → Nat) → Nat} {J : State → Prop} {Cx : String} {Po : (Nat → Nat) → State → Prop}
/-- premises of a state that a call hands on -/
def Jb (J : State → Prop) : Prop := ∀ (U : State) (g : JFrame) (mk : MethodId) (a : Array Value), J U → J (U.calling g mk a)
theorem Jb.tt : Jb (fun _ => True) := fun _ _ _ _ _ => trivial
def JnP (J : State → Prop) (D : va_G) (T : Nat → ClassId) (ws : va_W) (sz : Nat) (U : State) : Prop := ThP D T ws sz U ∧ J U
theorem JnP.blind {sz : Nat} (hJ : Jb J) : FrameBlind (va_Pc as (JnP J D T ws sz)) := fun a U g mk h => ⟨h.1, (ThP.blind (as := as) (D := D) (T := T) (ws := ws) (sz := sz) a U g mk ⟨h.1, h.2.1⟩).2, hJ _ _ _ _ h.2.2⟩
/-- a method of the law, that answers r -/
def LnI (J : State → Prop) (l : Launch) (y : MethodName) (b : ByteArray) (n : Nat) (ty : FieldType) (rm : Room) (D : va_G) (T : Nat → ClassId) (sz : Nat) (ws ws1 : va_W) (as : List Value) (r : Int32) : Prop :=
  Met l y (.code y b n (some ty) :: aw) rm (va_Pc as (JnP J D T ws sz)) (va_Qi (fun x (_ : Unit) => x = r) (fun _ t => va_P D kC ws1 t.heap) (va_A ws sz)) rm.cells rm.slots (va_A ws sz)
/-- one that answers nothing -/
def LnV (J : State → Prop) (l : Launch) (y : MethodName) (b : ByteArray) (n : Nat) (rm : Room) (D : va_G) (T : Nat → ClassId) (sz : Nat) (ws ws1 : va_W) (as : List Value) : Prop :=
  Met l y (.code y b n none :: aw) rm (va_Pc as (JnP J D T ws sz)) (va_Qv (fun (_ : Unit) => True) (fun _ t => va_P D kC ws1 t.heap) (va_A ws sz)) rm.cells rm.slots (va_A ws sz)
/-- one that answers a cell; what it makes comes at addresses q -/
def LnR (J : State → Prop) (l : Launch) (y : MethodName) (b : ByteArray) (n : Nat) (ty : FieldType) (rm : Room) (D : va_G) (T : Nat → ClassId) (sz : Nat) (ws : va_W) (Wo : (Nat → Nat) → va_W) (as : List Value) (an : (Nat → Nat) → Nat) : Prop :=
  Met l y (.code y b n (some ty) :: aw) rm (va_Pc as (JnP J D T ws sz)) (va_Qr (fun _ : Nat → Nat => True) (fun q a t => a = an q ∧ va_P D kC (Wo q) t.heap ∧ va_D (va_A ws sz) (Wo q)) (va_A ws sz)) rm.cells rm.slots (va_A ws sz)
/-- a constructor with the premise -/
def LnC (J : State → Prop) (l : Launch) (y : MethodName) (b : ByteArray) (n : Nat) (rm : Room) (D : va_G) (T : Nat → ClassId) (sz : Nat) (ws : va_W) (Wo : (Nat → Nat) → va_W) (as : List Value) : Prop :=
  Met l y (.code y b n none :: aw) rm (va_Pc as (JnP J D T ws sz)) (va_Qv (fun _ : Nat → Nat => True) (fun q t => va_P D kC (Wo q) t.heap ∧ va_D (va_A ws sz) (Wo q)) (va_A ws sz)) rm.cells rm.slots (va_A ws sz)
def LnRet (p : Program) (l : Launch) (e : Env) (R : Room) (s : State) (m : MethodId) (args : Array Value) (below : List Frame) (meth : Method) (c : Code) (Q : State → Prop) (cc : ByteArray) (ty : FieldType) (D : va_G) (A : Nat → Prop) (ws1 : va_W) (r : Int32) : Prop :=
  ∀ (H : Heap) (locs : List Loc) (cells slots pc : Nat) (ls : Array Slot) (v w : Int32), cells ≤ R.cells → slots ≤ R.slots → decode cc pc = .ok (.ireturn, 1) → narrow ty (.int v) = .int w → w = r → va_P D kC ws1 H → va_S A s.heap H locs → W p l e R s m args below meth c H locs cells slots Q (F0 m pc ls [.int v])
def LnRetV (p : Program) (l : Launch) (e : Env) (R : Room) (s : State) (m : MethodId) (args : Array Value) (below : List Frame) (meth : Method) (c : Code) (Q : State → Prop) (cc : ByteArray) (D : va_G) (A : Nat → Prop) (ws1 : va_W) : Prop :=
  ∀ (H : Heap) (locs : List Loc) (cells slots pc : Nat) (ls : Array Slot), cells ≤ R.cells → slots ≤ R.slots → decode cc pc = .ok (.return_, 1) → va_P D kC ws1 H → va_S A s.heap H locs → W p l e R s m args below meth c H locs cells slots Q (F0 m pc ls [])
def LnRetR (p : Program) (l : Launch) (e : Env) (R : Room) (s : State) (m : MethodId) (args : Array Value) (below : List Frame) (meth : Method) (c : Code) (Q : State → Prop) (cc : ByteArray) (D : va_G) (A : Nat → Prop) (Wo : (Nat → Nat) → va_W) (an : (Nat → Nat) → Nat) : Prop :=
  ∀ (H : Heap) (locs : List Loc) (cells slots pc : Nat) (ls : Array Slot) (q : Nat → Nat), cells ≤ R.cells → slots ≤ R.slots → decode cc pc = .ok (.areturn, 1) → va_P D kC (Wo q) H → va_D A (Wo q) → va_S A s.heap H locs → W p l e R s m args below meth c H locs cells slots Q (F0 m pc ls [.ref (an q)])
def LnRetX (p : Program) (l : Launch) (e : Env) (R : Room) (s : State) (m : MethodId) (args : Array Value) (below : List Frame) (meth : Method) (c : Code) (Q : State → Prop) (cc : ByteArray) (D : va_G) (A : Nat → Prop) (ws1 : va_W) (a : Nat) : Prop :=
  ∀ (H : Heap) (locs : List Loc) (cells slots pc : Nat) (ls : Array Slot), cells ≤ R.cells → slots ≤ R.slots → decode cc pc = .ok (.areturn, 1) → va_P D kC ws1 H → va_D A ws1 → va_S A s.heap H locs → W p l e R s m args below meth c H locs cells slots Q (F0 m pc ls [.ref a])
def LnRetC (p : Program) (l : Launch) (e : Env) (R : Room) (s : State) (m : MethodId) (args : Array Value) (below : List Frame) (meth : Method) (c : Code) (Q : State → Prop) (cc : ByteArray) (D : va_G) (A : Nat → Prop) (Wo : (Nat → Nat) → va_W) : Prop :=
  ∀ (H : Heap) (locs : List Loc) (cells slots pc : Nat) (ls : Array Slot) (q : Nat → Nat), cells ≤ R.cells → slots ≤ R.slots → decode cc pc = .ok (.return_, 1) → va_P D kC (Wo q) H → va_D A (Wo q) → va_S A s.heap H locs → W p l e R s m args below meth c H locs cells slots Q (F0 m pc ls [])
theorem lnMet {sz : Nat} (hnt : l.stackTraces = false) (hy : plainName y.cls = true) (hlen : Nat.ble (lg_sl as).length n = true) (body : ∀ (p : Program) (e : Env) (s : State) (m : MethodId) (args : Array Value) (below : List Frame) (meth : Method) (c : Code) (Q : State → Prop) (A : Nat → Prop), A = va_A ws s.heap.size → CallFix p m c b n s args aw y.cls → eK D T s → (∀ q, s.heap.size ≤ q → A q) → eX l A s → J s → va_P D kC ws s.heap → va_D A ws → va_S A s.heap s.heap [] → LnRet p l e rm s m args below meth c Q b ty D A ws1 r → ∀ ls : Array Slot, lv_has ls n (lv_args 0 as) → W p l e rm s m args below meth c s.heap [] 0 0 Q (F0 m 0 ls [])) : LnI J l y b n ty rm D T sz ws ws1 as r := by
  refine Met.ofW (cc := b) (maxL := n) (ret := some ty) hy rfl ?_
  intro p e s m args below meth c s₁ B hml hv
  obtain ⟨rfl, ⟨⟨hsz, hP, hE, hD0⟩, hz1, hz2⟩, hJ⟩ := hv
  subst hsz
  have hts : ∀ w ∈ (Cond.code y b n (some ty) :: aw), w.before as.toArray s = true := atoms_spec (ws := .code y b n (some ty) :: aw) B.pre
  have hr := B.returns
  have hlocks := B.notSynchronized
  have hl := lv_entry as (n := n) (Nat.le_of_ble_eq_true hlen)
  rw [lg_entry_eq]
  exact body p e s m _ below meth c _ (va_A ws s.heap.size) rfl ⟨B.exec, B.bytes, hml, findClass_of_methodNamed B.named, fun w hw => hts w (List.mem_cons_of_mem _ hw)⟩ hE (fun q h => Or.inr h) ⟨hnt, hz1, hz2⟩ hJ hP hD0.self va_S.rf (fun H locs cells slots pc ls v w hc hs hd hn hw hP1 hS => W.widen hc hs (W.nret B.exec B.bytes hr hn (fun t ht _ => ⟨⟨w, (), rfl, hw, by show va_P D kC ws1 t.heap; rw [ht]; exact hP1⟩, hS.F ht⟩) hS.2.2 hd hlocks)) _ hl
theorem lnMetV {sz : Nat} (hnt : l.stackTraces = false) (hy : plainName y.cls = true) (hlen : Nat.ble (lg_sl as).length n = true) (body : ∀ (p : Program) (e : Env) (s : State) (m : MethodId) (args : Array Value) (below : List Frame) (meth : Method) (c : Code) (Q : State → Prop) (A : Nat → Prop), A = va_A ws s.heap.size → CallFix p m c b n s args aw y.cls → eK D T s → (∀ q, s.heap.size ≤ q → A q) → eX l A s → J s → va_P D kC ws s.heap → va_D A ws → va_S A s.heap s.heap [] → LnRetV p l e rm s m args below meth c Q b D A ws1 → ∀ ls : Array Slot, lv_has ls n (lv_args 0 as) → W p l e rm s m args below meth c s.heap [] 0 0 Q (F0 m 0 ls [])) : LnV J l y b n rm D T sz ws ws1 as := by
  refine Met.ofW (cc := b) (maxL := n) (ret := none) hy rfl ?_
  intro p e s m args below meth c s₁ B hml hv
  obtain ⟨rfl, ⟨⟨hsz, hP, hE, hD0⟩, hz1, hz2⟩, hJ⟩ := hv
  subst hsz
  have hts : ∀ w ∈ (Cond.code y b n none :: aw), w.before as.toArray s = true := atoms_spec (ws := .code y b n none :: aw) B.pre
  have hr := B.returns
  have hlocks := B.notSynchronized
  have hl := lv_entry as (n := n) (Nat.le_of_ble_eq_true hlen)
  rw [lg_entry_eq]
  exact body p e s m _ below meth c _ (va_A ws s.heap.size) rfl ⟨B.exec, B.bytes, hml, findClass_of_methodNamed B.named, fun w hw => hts w (List.mem_cons_of_mem _ hw)⟩ hE (fun q h => Or.inr h) ⟨hnt, hz1, hz2⟩ hJ hP hD0.self va_S.rf (fun H locs cells slots pc ls hc hs hd hP1 hS => W.widen hc hs (W.vret B.exec B.bytes hr (fun t ht _ => ⟨⟨(), rfl, trivial, by show va_P D kC ws1 t.heap; rw [ht]; exact hP1⟩, hS.F ht⟩) hS.2.2 hd hlocks)) _ hl
theorem lnMetR {sz : Nat} (hnt : l.stackTraces = false) (hy : plainName y.cls = true) (hrt : (∃ n, ty = .object n) ∨ ∃ t, ty = .array t) (hlen : Nat.ble (lg_sl as).length n = true) (body : ∀ (p : Program) (e : Env) (s : State) (m : MethodId) (args : Array Value) (below : List Frame) (meth : Method) (c : Code) (Q : State → Prop) (A : Nat → Prop), A = va_A ws s.heap.size → CallFix p m c b n s args aw y.cls → eK D T s → (∀ q, s.heap.size ≤ q → A q) → eX l A s → J s → va_P D kC ws s.heap → va_D A ws → va_S A s.heap s.heap [] → LnRetR p l e rm s m args below meth c Q b D A Wo an → ∀ ls : Array Slot, lv_has ls n (lv_args 0 as) → W p l e rm s m args below meth c s.heap [] 0 0 Q (F0 m 0 ls [])) : LnR J l y b n ty rm D T sz ws Wo as an := by
  refine Met.ofW (cc := b) (maxL := n) (ret := some ty) hy rfl ?_
  intro p e s m args below meth c s₁ B hml hv
  obtain ⟨rfl, ⟨⟨hsz, hP, hE, hD0⟩, hz1, hz2⟩, hJ⟩ := hv
  subst hsz
  have hts : ∀ w ∈ (Cond.code y b n (some ty) :: aw), w.before as.toArray s = true := atoms_spec (ws := .code y b n (some ty) :: aw) B.pre
  have hr := B.returns
  have hlocks := B.notSynchronized
  have hl := lv_entry as (n := n) (Nat.le_of_ble_eq_true hlen)
  rw [lg_entry_eq]
  exact body p e s m _ below meth c _ (va_A ws s.heap.size) rfl ⟨B.exec, B.bytes, hml, findClass_of_methodNamed B.named, fun w hw => hts w (List.mem_cons_of_mem _ hw)⟩ hE (fun q h => Or.inr h) ⟨hnt, hz1, hz2⟩ hJ hP hD0.self va_S.rf (fun H locs cells slots pc ls q hc hs hd hP1 hD1 hS => W.widen hc hs (W.aret B.exec B.bytes hr hrt (Or.inr ⟨an q, rfl⟩) (fun t ht _ => ⟨⟨q, an q, rfl, trivial, rfl, by rw [ht]; exact hP1, hD1⟩, hS.F ht⟩) hS.2.2 hd)) _ hl
theorem lnMetC {sz : Nat} (hnt : l.stackTraces = false) (hy : plainName y.cls = true) (hn : y.name = "<init>") (hlen : Nat.ble (lg_sl as).length n = true) (body : ∀ (p : Program) (e : Env) (s : State) (m : MethodId) (args : Array Value) (below : List Frame) (meth : Method) (c : Code) (Q : State → Prop) (A : Nat → Prop), A = va_A ws s.heap.size → CallFix p m c b n s args aw y.cls → eK D T s → (∀ q, s.heap.size ≤ q → A q) → eX l A s → J s → meth.name = "<init>" → va_P D kC ws s.heap → va_D A ws → va_S A s.heap s.heap [] → LnRetC p l e rm s m args below meth c Q b D A Wo → ∀ ls : Array Slot, lv_has ls n (lv_args 0 as) → W p l e rm s m args below meth c s.heap [] 0 0 Q (F0 m 0 ls [])) : LnC J l y b n rm D T sz ws Wo as := by
  refine Met.ofW (cc := b) (maxL := n) (ret := none) hy rfl ?_
  intro p e s m args below meth c s₁ B hml hv
  obtain ⟨rfl, ⟨⟨hsz, hP, hE, hD0⟩, hz1, hz2⟩, hJ⟩ := hv
  subst hsz
  have hts : ∀ w ∈ (Cond.code y b n none :: aw), w.before as.toArray s = true := atoms_spec (ws := .code y b n none :: aw) B.pre
  have hr := B.returns
  have hlocks := B.notSynchronized
  have hin : meth.name = "<init>" := (name_of_methodNamed B.named B.method).1.trans hn
  have hl := lv_entry as (n := n) (Nat.le_of_ble_eq_true hlen)
  rw [lg_entry_eq]
  exact body p e s m _ below meth c _ (va_A ws s.heap.size) rfl ⟨B.exec, B.bytes, hml, findClass_of_methodNamed B.named, fun w hw => hts w (List.mem_cons_of_mem _ hw)⟩ hE (fun q h => Or.inr h) ⟨hnt, hz1, hz2⟩ hJ hin hP hD0.self va_S.rf (fun H locs cells slots pc ls q hc hs hd hP1 hD1 hS => W.widen hc hs (W.vret B.exec B.bytes hr (fun t ht _ => ⟨⟨q, rfl, trivial, by rw [ht]; exact hP1, hD1⟩, hS.F ht⟩) hS.2.2 hd hlocks)) _ hl
theorem lnS (C : CallFix p m c cc nL s args aw own) (hE : eK D T s) (hZ : eX l A s) (hP : va_P D kC ws H) (hD : va_D A ws) (hS : va_S A s.heap H locs) (hA : ∀ q, s.heap.size ≤ q → A q) (hB : Jb J) (hJ : ∀ U : State, U.heap = H → s.WarmedH U.vm → J U) (hM : LnI J l y b n ty rm D T H.size wc wc1 as r) (hm : MS y b n (some ty) k) (hl : Cond.methodLink own idx y ∈ aw) (isC isR : List Nat) (hn : va_nd isC = true) (hC : isC.map (fun i => ws[i]?) = wc.map some) (hC1 : isC.map (fun i => ws1[i]?) = wc1.map some) (hR1 : isR.map (fun i => ws1[i]?) = getW ws isR) (hcov : (List.range ws1.length).all (fun i => isC.contains i || isR.contains i) = true) (ha : ws1.map Prod.fst = fstW ws)
    (hR : rm.frames + 1 ≤ R.frames ∧ 8 + (n + 11) + rm.locals ≤ R.locals) (hk : as.length = k) (hsz : ls.size = nL) (hst : st = as.reverse ++ rest) (hW : (rest.map fun v => v.category).sum ≤ 8) (hd : decode cc pc = .ok (.invokestatic idx, 3)) (hf : cells + rm.cells ≤ R.cells ∧ slots + rm.slots ≤ R.slots) (kk : ∀ (H1 : Heap) (locs1 : List Loc), va_P D kC ws1 H1 → va_D A ws1 → va_S A s.heap H1 locs1 → W p l e R s m args below meth c H1 locs1 (cells + rm.cells) (slots + rm.slots) Q (F0 m (pc + 3) ls (.int r :: rest))) : W p l e R s m args below meth c H locs cells slots Q (F0 m pc ls st) :=
  va_calli (va_runS C hM (cwS2 C.2.2.2.2 hl hm rfl rfl hR) ⟨JnP.blind hB, fun U hU hW => ⟨rfl, ⟨⟨by rw [hU], by rw [hU]; exact subOf hP hC, hE.moved hW, subD hD hn hC⟩, zq_call hZ.2.1 hS hD hA hC hU hW, zq_call hZ.2.2.1 hS hD hA hC hU hW, eS_call hZ.2.2.2 hS hD hA hC hU hW⟩, hJ U hU hW⟩⟩ rfl hk hsz hst (lv_room hW) hd hf) hS (fun q _ h => freeOf hD hS hA hC q h) (freeOf hD hS hA hC)
    (fun x u t H1 locs1 ht hvm hw hB1 hz1 hk1 hS1 => by rw [hw]; exact kk H1 locs1 (put_P hP hD hk1 (by rw [← ht]; exact hB1) hC hC1 (hR1.trans (getW_eq ws isR)) hcov) (addr_D hD (ha.trans (fstW_eq ws))) hS1)
theorem lnSv (C : CallFix p m c cc nL s args aw own) (hE : eK D T s) (hZ : eX l A s) (hP : va_P D kC ws H) (hD : va_D A ws) (hS : va_S A s.heap H locs) (hA : ∀ q, s.heap.size ≤ q → A q) (hB : Jb J) (hJ : ∀ U : State, U.heap = H → s.WarmedH U.vm → J U) (hM : LnV J l y b n rm D T H.size wc wc1 as) (hm : MS y b n none k) (hl : Cond.methodLink own idx y ∈ aw) (isC isR : List Nat) (hn : va_nd isC = true) (hC : isC.map (fun i => ws[i]?) = wc.map some) (hC1 : isC.map (fun i => ws1[i]?) = wc1.map some) (hR1 : isR.map (fun i => ws1[i]?) = getW ws isR) (hcov : (List.range ws1.length).all (fun i => isC.contains i || isR.contains i) = true) (ha : ws1.map Prod.fst = fstW ws)
    (hR : rm.frames + 1 ≤ R.frames ∧ 8 + (n + 11) + rm.locals ≤ R.locals) (hk : as.length = k) (hsz : ls.size = nL) (hst : st = as.reverse ++ rest) (hW : (rest.map fun v => v.category).sum ≤ 8) (hd : decode cc pc = .ok (.invokestatic idx, 3)) (hf : cells + rm.cells ≤ R.cells ∧ slots + rm.slots ≤ R.slots) (kk : ∀ (H1 : Heap) (locs1 : List Loc), va_P D kC ws1 H1 → va_D A ws1 → va_S A s.heap H1 locs1 → W p l e R s m args below meth c H1 locs1 (cells + rm.cells) (slots + rm.slots) Q (F0 m (pc + 3) ls (rest))) : W p l e R s m args below meth c H locs cells slots Q (F0 m pc ls st) :=
  va_callv (va_runS C hM (cwS2 C.2.2.2.2 hl hm rfl rfl hR) ⟨JnP.blind hB, fun U hU hW => ⟨rfl, ⟨⟨by rw [hU], by rw [hU]; exact subOf hP hC, hE.moved hW, subD hD hn hC⟩, zq_call hZ.2.1 hS hD hA hC hU hW, zq_call hZ.2.2.1 hS hD hA hC hU hW, eS_call hZ.2.2.2 hS hD hA hC hU hW⟩, hJ U hU hW⟩⟩ rfl hk hsz hst (lv_room hW) hd hf) hS (fun q _ h => freeOf hD hS hA hC q h) (freeOf hD hS hA hC)
    (fun u t H1 locs1 ht hvm hw hB1 hz1 hk1 hS1 => kk H1 locs1 (put_P hP hD hk1 (by rw [← ht]; exact hB1) hC hC1 (hR1.trans (getW_eq ws isR)) hcov) (addr_D hD (ha.trans (fstW_eq ws))) hS1)
theorem lnSr (C : CallFix p m c cc nL s args aw own) (hE : eK D T s) (hZ : eX l A s) (hP : va_P D kC ws H) (hD : va_D A ws) (hS : va_S A s.heap H locs) (hA : ∀ q, s.heap.size ≤ q → A q) (hB : Jb J) (hJ : ∀ U : State, U.heap = H → s.WarmedH U.vm → J U) (hM : LnR J l y b n ty rm D T H.size wc Wo as an) (hm : MS y b n (some ty) k) (hl : Cond.methodLink own idx y ∈ aw) (isC isR : List Nat) (hn : va_nd isC = true) (hnR : va_nd isR = true) (hC : isC.map (fun i => ws[i]?) = wc.map some) (hR1 : isR.map (fun i => ws[i]?) = wr.map some) (hdis : (isR.all fun i => !isC.contains i) = true)
    (hR : rm.frames + 1 ≤ R.frames ∧ 8 + (n + 11) + rm.locals ≤ R.locals) (hk : as.length = k) (hsz : ls.size = nL) (hst : st = as.reverse ++ rest) (hW : (rest.map fun v => v.category).sum ≤ 8) (hd : decode cc pc = .ok (.invokestatic idx, 3)) (hf : cells + rm.cells ≤ R.cells ∧ slots + rm.slots ≤ R.slots) (kk : ∀ (q : Nat → Nat) (H1 : Heap) (locs1 : List Loc), va_P D kC (wr ++ Wo q) H1 → va_D A (wr ++ Wo q) → va_S A s.heap H1 locs1 → W p l e R s m args below meth c H1 locs1 (cells + rm.cells) (slots + rm.slots) Q (F0 m (pc + 3) ls (.ref (an q) :: rest))) : W p l e R s m args below meth c H locs cells slots Q (F0 m pc ls st) := by
  have hF := va_free hD hS hA isC hC
  refine va_callr (va_runS C hM (cwS2 C.2.2.2.2 hl hm rfl rfl hR) ⟨JnP.blind hB, fun U hU hW => ⟨rfl, ⟨⟨by rw [hU], by rw [hU]; exact subOf hP hC, hE.moved hW, subD hD hn hC⟩, zq_call hZ.2.1 hS hD hA hC hU hW, zq_call hZ.2.2.1 hS hD hA hC hU hW, eS_call hZ.2.2.2 hS hD hA hC hU hW⟩, hJ U hU hW⟩⟩ rfl hk hsz hst (lv_room hW) hd hf) hS (fun q _ h => hF q h) hF (fun u ra t H1 locs1 ht hvm hw hB1 hz1 hk1 hS1 => ?_)
  obtain ⟨hra, hP1, hD1⟩ := hB1
  rw [ht] at hP1
  subst hra
  have hdis' : ∀ i ∈ isR, i ∉ isC := fun i hi h => by
    have := List.all_eq_true.mp hdis i hi
    simp [h] at this
  obtain ⟨hP2, hD2⟩ := va_join hP hD isC isR hC hR1 hnR hdis' hk1 hF hP1 hD1
  exact kk u H1 locs1 hP2 hD2 hS1
def MW (y : MethodName) (b : ByteArray) (n : Nat) (ret : Option FieldType) (k : Nat) : Prop := MB y b n ret k ∧ Cond.instanceMethod y ∈ aw
theorem recvC {q0 ci a : Nat} {fs : List Value} {q : vw_C} (hE : eK D T s) (hP : va_P D kC ws H) (he : ws[q0]? = some (a, .inr (ci, fs))) (hc : kC[ci]? = some q) (hq : q.1 = Cx) : ∃ cell : Cell, H[a]? = some cell ∧ cell.vm.isStatics = false ∧ s.vm.findClass Cx = some cell.cls := by
  rw [← hq]
  exact va_recv hE.1 hP hc he
/-- a private method that is inherited -/
theorem selPriv {y0 : MethodName} (h0 : (Cond.selects Cx y0 y0).before args s = true) (hc0 : y0.cls = y.cls) (hy : y.cls ≠ "java/lang/invoke/MethodHandle" ∧ y.cls ≠ "java/lang/invoke/VarHandle") (hpriv : (Cond.privateMethod y).before args s = true) (hinst : (Cond.instanceMethod y).before args s = true) : (Cond.selects Cx y y).before args s = true := by
  obtain ⟨c, r, m0, hc, -, hm0, -, kP, hkP, hni⟩ := Cond.selects_spec h0
  obtain ⟨mk, methM, hnamed, hmethM, -, -⟩ := Cond.instanceMethod_spec hinst
  have hfound : s.methodFound? y.cls y.name y.desc = some mk := State.methodFound?_of_named hnamed hy
  have e1 := findClass_of_methodNamed hm0
  have e2 := findClass_of_methodNamed hnamed
  rw [hc0] at e1
  have hcls : mk.cls = m0.cls := Option.some.inj (e2.symm.trans e1)
  have hsel : selectMethod {} s.vm c mk = .method mk := selectMethod_private hmethM (Cond.privateMethod_at hpriv mk methM hnamed hmethM)
  simp only [Cond.before, Cond.holds, Cond.value, hc, hfound, hnamed, hsel, hcls, hkP]
  simp; exact hni
theorem lnVi (C : CallFix p m c cc nL s args aw own) (hE : eK D T s) (hZ : eX l A s) (hP : va_P D kC ws H) (hD : va_D A ws) (hS : va_S A s.heap H locs) (hA : ∀ q, s.heap.size ≤ q → A q) (hB : Jb J) (hJ : ∀ U : State, U.heap = H → s.WarmedH U.vm → J U) {a : Nat} (hrc : ∃ cell : Cell, H[a]? = some cell ∧ cell.vm.isStatics = false ∧ s.vm.findClass Cx = some cell.cls) (hM : LnI J l y b n ty rm D T H.size wc wc1 (.ref a :: as) r) (hm : MW y b n (some ty) k) (hsel : (Cond.selects Cx y y).before args s = true) (hl : Cond.methodLink own idx y ∈ aw) (isC isR : List Nat) (hn : va_nd isC = true) (hC : isC.map (fun i => ws[i]?) = wc.map some) (hC1 : isC.map (fun i => ws1[i]?) = wc1.map some) (hR1 : isR.map (fun i => ws1[i]?) = getW ws isR) (hcov : (List.range ws1.length).all (fun i => isC.contains i || isR.contains i) = true) (ha : ws1.map Prod.fst = fstW ws)
    (hR : rm.frames + 1 ≤ R.frames ∧ 8 + (n + 11) + rm.locals ≤ R.locals) (hk : as.length = k) (hsz : ls.size = nL) (hst : st = as.reverse ++ .ref a :: rest) (hW : (rest.map fun v => v.category).sum ≤ 8) (hd : decode cc pc = .ok (.invokevirtual idx, 3)) (hf : cells + rm.cells ≤ R.cells ∧ slots + rm.slots ≤ R.slots) (kk : ∀ (H1 : Heap) (locs1 : List Loc), va_P D kC ws1 H1 → va_D A ws1 → va_S A s.heap H1 locs1 → W p l e R s m args below meth c H1 locs1 (cells + rm.cells) (slots + rm.slots) Q (F0 m (pc + 3) ls (.int r :: rest))) : W p l e R s m args below meth c H locs cells slots Q (F0 m pc ls st) :=
  va_calli (va_runV C hM (C := Cx) ⟨cwB C.2.2.2.2 hl hm.1 rfl rfl hR, C.2.2.2.2 _ hm.2, hsel⟩ ⟨JnP.blind hB, hrc, fun U hU hW => ⟨rfl, ⟨⟨by rw [hU], by rw [hU]; exact subOf hP hC, hE.moved hW, subD hD hn hC⟩, zq_call hZ.2.1 hS hD hA hC hU hW, zq_call hZ.2.2.1 hS hD hA hC hU hW, eS_call hZ.2.2.2 hS hD hA hC hU hW⟩, hJ U hU hW⟩⟩ rfl hk hsz hst (lv_room hW) hd hf) hS (fun q _ h => freeOf hD hS hA hC q h) (freeOf hD hS hA hC)
    (fun x u t H1 locs1 ht hvm hw hB1 hz1 hk1 hS1 => by rw [hw]; exact kk H1 locs1 (put_P hP hD hk1 (by rw [← ht]; exact hB1) hC hC1 (hR1.trans (getW_eq ws isR)) hcov) (addr_D hD (ha.trans (fstW_eq ws))) hS1)
theorem lnVv (C : CallFix p m c cc nL s args aw own) (hE : eK D T s) (hZ : eX l A s) (hP : va_P D kC ws H) (hD : va_D A ws) (hS : va_S A s.heap H locs) (hA : ∀ q, s.heap.size ≤ q → A q) (hB : Jb J) (hJ : ∀ U : State, U.heap = H → s.WarmedH U.vm → J U) {a : Nat} (hrc : ∃ cell : Cell, H[a]? = some cell ∧ cell.vm.isStatics = false ∧ s.vm.findClass Cx = some cell.cls) (hM : LnV J l y b n rm D T H.size wc wc1 (.ref a :: as)) (hm : MW y b n none k) (hsel : (Cond.selects Cx y y).before args s = true) (hl : Cond.methodLink own idx y ∈ aw) (isC isR : List Nat) (hn : va_nd isC = true) (hC : isC.map (fun i => ws[i]?) = wc.map some) (hC1 : isC.map (fun i => ws1[i]?) = wc1.map some) (hR1 : isR.map (fun i => ws1[i]?) = getW ws isR) (hcov : (List.range ws1.length).all (fun i => isC.contains i || isR.contains i) = true) (ha : ws1.map Prod.fst = fstW ws)
    (hR : rm.frames + 1 ≤ R.frames ∧ 8 + (n + 11) + rm.locals ≤ R.locals) (hk : as.length = k) (hsz : ls.size = nL) (hst : st = as.reverse ++ .ref a :: rest) (hW : (rest.map fun v => v.category).sum ≤ 8) (hd : decode cc pc = .ok (.invokevirtual idx, 3)) (hf : cells + rm.cells ≤ R.cells ∧ slots + rm.slots ≤ R.slots) (kk : ∀ (H1 : Heap) (locs1 : List Loc), va_P D kC ws1 H1 → va_D A ws1 → va_S A s.heap H1 locs1 → W p l e R s m args below meth c H1 locs1 (cells + rm.cells) (slots + rm.slots) Q (F0 m (pc + 3) ls (rest))) : W p l e R s m args below meth c H locs cells slots Q (F0 m pc ls st) :=
  va_callv (va_runV C hM (C := Cx) ⟨cwB C.2.2.2.2 hl hm.1 rfl rfl hR, C.2.2.2.2 _ hm.2, hsel⟩ ⟨JnP.blind hB, hrc, fun U hU hW => ⟨rfl, ⟨⟨by rw [hU], by rw [hU]; exact subOf hP hC, hE.moved hW, subD hD hn hC⟩, zq_call hZ.2.1 hS hD hA hC hU hW, zq_call hZ.2.2.1 hS hD hA hC hU hW, eS_call hZ.2.2.2 hS hD hA hC hU hW⟩, hJ U hU hW⟩⟩ rfl hk hsz hst (lv_room hW) hd hf) hS (fun q _ h => freeOf hD hS hA hC q h) (freeOf hD hS hA hC)
    (fun u t H1 locs1 ht hvm hw hB1 hz1 hk1 hS1 => kk H1 locs1 (put_P hP hD hk1 (by rw [← ht]; exact hB1) hC hC1 (hR1.trans (getW_eq ws isR)) hcov) (addr_D hD (ha.trans (fstW_eq ws))) hS1)
theorem lnVr (C : CallFix p m c cc nL s args aw own) (hE : eK D T s) (hZ : eX l A s) (hP : va_P D kC ws H) (hD : va_D A ws) (hS : va_S A s.heap H locs) (hA : ∀ q, s.heap.size ≤ q → A q) (hB : Jb J) (hJ : ∀ U : State, U.heap = H → s.WarmedH U.vm → J U) {a : Nat} (hrc : ∃ cell : Cell, H[a]? = some cell ∧ cell.vm.isStatics = false ∧ s.vm.findClass Cx = some cell.cls) (hM : LnR J l y b n ty rm D T H.size wc Wo (.ref a :: as) an) (hm : MW y b n (some ty) k) (hsel : (Cond.selects Cx y y).before args s = true) (hl : Cond.methodLink own idx y ∈ aw) (isC isR : List Nat) (hn : va_nd isC = true) (hnR : va_nd isR = true) (hC : isC.map (fun i => ws[i]?) = wc.map some) (hR1 : isR.map (fun i => ws[i]?) = wr.map some) (hdis : (isR.all fun i => !isC.contains i) = true)
    (hR : rm.frames + 1 ≤ R.frames ∧ 8 + (n + 11) + rm.locals ≤ R.locals) (hk : as.length = k) (hsz : ls.size = nL) (hst : st = as.reverse ++ .ref a :: rest) (hW : (rest.map fun v => v.category).sum ≤ 8) (hd : decode cc pc = .ok (.invokevirtual idx, 3)) (hf : cells + rm.cells ≤ R.cells ∧ slots + rm.slots ≤ R.slots) (kk : ∀ (q : Nat → Nat) (H1 : Heap) (locs1 : List Loc), va_P D kC (wr ++ Wo q) H1 → va_D A (wr ++ Wo q) → va_S A s.heap H1 locs1 → W p l e R s m args below meth c H1 locs1 (cells + rm.cells) (slots + rm.slots) Q (F0 m (pc + 3) ls (.ref (an q) :: rest))) : W p l e R s m args below meth c H locs cells slots Q (F0 m pc ls st) := by
  have hF := va_free hD hS hA isC hC
  refine va_callr (va_runV C hM (C := Cx) ⟨cwB C.2.2.2.2 hl hm.1 rfl rfl hR, C.2.2.2.2 _ hm.2, hsel⟩ ⟨JnP.blind hB, hrc, fun U hU hW => ⟨rfl, ⟨⟨by rw [hU], by rw [hU]; exact subOf hP hC, hE.moved hW, subD hD hn hC⟩, zq_call hZ.2.1 hS hD hA hC hU hW, zq_call hZ.2.2.1 hS hD hA hC hU hW, eS_call hZ.2.2.2 hS hD hA hC hU hW⟩, hJ U hU hW⟩⟩ rfl hk hsz hst (lv_room hW) hd hf) hS (fun q _ h => hF q h) hF (fun u ra t H1 locs1 ht hvm hw hB1 hz1 hk1 hS1 => ?_)
  obtain ⟨hra, hP1, hD1⟩ := hB1
  rw [ht] at hP1
  subst hra
  have hdis' : ∀ i ∈ isR, i ∉ isC := fun i hi h => by
    have := List.all_eq_true.mp hdis i hi
    simp [h] at this
  obtain ⟨hP2, hD2⟩ := va_join hP hD isC isR hC hR1 hnR hdis' hk1 hF hP1 hD1
  exact kk u H1 locs1 hP2 hD2 hS1
theorem lnUr {a : Nat} (C : CallFix p m c cc nL s args aw own) (hE : eK D T s) (hZ : eX l A s) (hP : va_P D kC ws H) (hD : va_D A ws) (hS : va_S A s.heap H locs) (hA : ∀ q, s.heap.size ≤ q → A q) (hB : Jb J) (hJ : ∀ U : State, U.heap = H → s.WarmedH U.vm → J U) {cC : ClassId} (hat : ClassAt s Cx cC) (hrc : ∃ cell : Cell, H[a]? = some cell ∧ cell.vm.isStatics = false ∧ s.vm.findClass Cx = some cell.cls) (hM : LnR J l y b n ty rm D T H.size wc Wo (.ref a :: as) an) (hm : MW y b n (some ty) k) (hy : y.name ≠ "<init>") (hl : Cond.methodLink own idx y ∈ aw) (hsm : Cond.sameMethod y.cls y.cls y.name y.desc ∈ aw) (hsu : Cond.superclass own y.cls ∈ aw) (isC isR : List Nat) (hn : va_nd isC = true) (hnR : va_nd isR = true) (hC : isC.map (fun i => ws[i]?) = wc.map some) (hR1 : isR.map (fun i => ws[i]?) = wr.map some) (hdis : (isR.all fun i => !isC.contains i) = true)
    (hR : rm.frames + 1 ≤ R.frames ∧ 8 + (n + 11) + rm.locals ≤ R.locals) (hk : as.length = k) (hsz : ls.size = nL) (hst : st = as.reverse ++ .ref a :: rest) (hW : (rest.map fun v => v.category).sum ≤ 8) (hd : decode cc pc = .ok (.invokespecial idx, 3)) (hf : cells + rm.cells ≤ R.cells ∧ slots + rm.slots ≤ R.slots) (kk : ∀ (q : Nat → Nat) (H1 : Heap) (locs1 : List Loc), va_P D kC (wr ++ Wo q) H1 → va_D A (wr ++ Wo q) → va_S A s.heap H1 locs1 → W p l e R s m args below meth c H1 locs1 (cells + rm.cells) (slots + rm.slots) Q (F0 m (pc + 3) ls (.ref (an q) :: rest))) : W p l e R s m args below meth c H locs cells slots Q (F0 m pc ls st) := by
  have hF := va_free hD hS hA isC hC
  refine va_callr (va_runSU (C := Cx) hat C hM (va_cwSU k C.2.2.2.2 (aw_goodIn (fun w hw => by
      rcases List.mem_append.mp hw with h | h
      · simp only [List.mem_cons, List.not_mem_nil, or_false] at h
        rcases h with rfl | rfl | rfl | rfl | rfl
        · exact hl
        · exact hsm
        · exact hsu
        · exact hm.2
        · exact hm.1.1
      · rcases List.mem_cons.mp h with rfl | h
        · exact hm.1.2.1
        · exact h)) rfl rfl rfl ⟨hy, hm.1.2.2.2⟩ hR) ⟨JnP.blind hB, hrc, fun U hU hW => ⟨rfl, ⟨⟨by rw [hU], by rw [hU]; exact subOf hP hC, hE.moved hW, subD hD hn hC⟩, zq_call hZ.2.1 hS hD hA hC hU hW, zq_call hZ.2.2.1 hS hD hA hC hU hW, eS_call hZ.2.2.2 hS hD hA hC hU hW⟩, hJ U hU hW⟩⟩ rfl hk hsz hst (lv_room hW) hd hf) hS (fun q _ h => hF q h) hF (fun u ra t H1 locs1 ht hvm hw hB1 hz1 hk1 hS1 => ?_)
  obtain ⟨hra, hP1, hD1⟩ := hB1
  rw [ht] at hP1
  subst hra
  have hdis' : ∀ i ∈ isR, i ∉ isC := fun i hi h => by
    have := List.all_eq_true.mp hdis i hi
    simp [h] at this
  obtain ⟨hP2, hD2⟩ := va_join hP hD isC isR hC hR1 hnR hdis' hk1 hF hP1 hD1
  exact kk u H1 locs1 hP2 hD2 hS1
theorem lnUi {a : Nat} (C : CallFix p m c cc nL s args aw own) (hE : eK D T s) (hZ : eX l A s) (hP : va_P D kC ws H) (hD : va_D A ws) (hS : va_S A s.heap H locs) (hA : ∀ q, s.heap.size ≤ q → A q) (hB : Jb J) (hJ : ∀ U : State, U.heap = H → s.WarmedH U.vm → J U) {cC : ClassId} (hat : ClassAt s Cx cC) (hrc : ∃ cell : Cell, H[a]? = some cell ∧ cell.vm.isStatics = false ∧ s.vm.findClass Cx = some cell.cls) (hM : LnI J l y b n ty rm D T H.size wc wc1 (.ref a :: as) r) (hm : MW y b n (some ty) k) (hy : y.name ≠ "<init>") (hl : Cond.methodLink own idx y ∈ aw) (hsm : Cond.sameMethod y.cls y.cls y.name y.desc ∈ aw) (hsu : Cond.superclass own y.cls ∈ aw) (isC isR : List Nat) (hn : va_nd isC = true) (hC : isC.map (fun i => ws[i]?) = wc.map some) (hC1 : isC.map (fun i => ws1[i]?) = wc1.map some) (hR1 : isR.map (fun i => ws1[i]?) = getW ws isR) (hcov : (List.range ws1.length).all (fun i => isC.contains i || isR.contains i) = true) (ha : ws1.map Prod.fst = fstW ws)
    (hR : rm.frames + 1 ≤ R.frames ∧ 8 + (n + 11) + rm.locals ≤ R.locals) (hk : as.length = k) (hsz : ls.size = nL) (hst : st = as.reverse ++ .ref a :: rest) (hW : (rest.map fun v => v.category).sum ≤ 8) (hd : decode cc pc = .ok (.invokespecial idx, 3)) (hf : cells + rm.cells ≤ R.cells ∧ slots + rm.slots ≤ R.slots) (kk : ∀ (H1 : Heap) (locs1 : List Loc), va_P D kC ws1 H1 → va_D A ws1 → va_S A s.heap H1 locs1 → W p l e R s m args below meth c H1 locs1 (cells + rm.cells) (slots + rm.slots) Q (F0 m (pc + 3) ls (.int r :: rest))) : W p l e R s m args below meth c H locs cells slots Q (F0 m pc ls st) :=
  va_calli (va_runSU (C := Cx) hat C hM (va_cwSU k C.2.2.2.2 (aw_goodIn (fun w hw => by
      rcases List.mem_append.mp hw with h | h
      · simp only [List.mem_cons, List.not_mem_nil, or_false] at h
        rcases h with rfl | rfl | rfl | rfl | rfl
        · exact hl
        · exact hsm
        · exact hsu
        · exact hm.2
        · exact hm.1.1
      · rcases List.mem_cons.mp h with rfl | h
        · exact hm.1.2.1
        · exact h)) rfl rfl rfl ⟨hy, hm.1.2.2.2⟩ hR) ⟨JnP.blind hB, hrc, fun U hU hW => ⟨rfl, ⟨⟨by rw [hU], by rw [hU]; exact subOf hP hC, hE.moved hW, subD hD hn hC⟩, zq_call hZ.2.1 hS hD hA hC hU hW, zq_call hZ.2.2.1 hS hD hA hC hU hW, eS_call hZ.2.2.2 hS hD hA hC hU hW⟩, hJ U hU hW⟩⟩ rfl hk hsz hst (lv_room hW) hd hf) hS (fun q _ h => freeOf hD hS hA hC q h) (freeOf hD hS hA hC)
    (fun x u t H1 locs1 ht hvm hw hB1 hz1 hk1 hS1 => by rw [hw]; exact kk H1 locs1 (put_P hP hD hk1 (by rw [← ht]; exact hB1) hC hC1 (hR1.trans (getW_eq ws isR)) hcov) (addr_D hD (ha.trans (fstW_eq ws))) hS1)
/-- a method that overrides the one that is named -/
theorem lnOi {a : Nat} {x : MethodName} {b0 : ByteArray} {m0 : Nat} {r0 : Option FieldType} (C : CallFix p m c cc nL s args aw own) (hE : eK D T s) (hZ : eX l A s) (hP : va_P D kC ws H) (hD : va_D A ws) (hS : va_S A s.heap H locs) (hA : ∀ q, s.heap.size ≤ q → A q) (hB : Jb J) (hJ : ∀ U : State, U.heap = H → s.WarmedH U.vm → J U) (hrc : ∃ cell : Cell, H[a]? = some cell ∧ cell.vm.isStatics = false ∧ s.vm.findClass Cx = some cell.cls) (hM : LnI J l y b n ty rm D T H.size wc wc1 (.ref a :: as) r) (hm : MW y b n (some ty) k) (hx : MW x b0 m0 r0 k) (hl : Cond.methodLink own idx x ∈ aw) (hsm : Cond.sameMethod x.cls x.cls x.name x.desc ∈ aw) (hse : Cond.selects Cx x y ∈ aw) (isC isR : List Nat) (hn : va_nd isC = true) (hC : isC.map (fun i => ws[i]?) = wc.map some) (hC1 : isC.map (fun i => ws1[i]?) = wc1.map some) (hR1 : isR.map (fun i => ws1[i]?) = getW ws isR) (hcov : (List.range ws1.length).all (fun i => isC.contains i || isR.contains i) = true) (ha : ws1.map Prod.fst = fstW ws)
    (hR : rm.frames + 1 ≤ R.frames ∧ 8 + (n + 11) + rm.locals ≤ R.locals) (hk : as.length = k) (hsz : ls.size = nL) (hst : st = as.reverse ++ .ref a :: rest) (hW : (rest.map fun v => v.category).sum ≤ 8) (hd : decode cc pc = .ok (.invokevirtual idx, 3)) (hf : cells + rm.cells ≤ R.cells ∧ slots + rm.slots ≤ R.slots) (kk : ∀ (H1 : Heap) (locs1 : List Loc), va_P D kC ws1 H1 → va_D A ws1 → va_S A s.heap H1 locs1 → W p l e R s m args below meth c H1 locs1 (cells + rm.cells) (slots + rm.slots) Q (F0 m (pc + 3) ls (.int r :: rest))) : W p l e R s m args below meth c H locs cells slots Q (F0 m pc ls st) :=
  va_calli (va_runU C hM (va_cwO (C := Cx) (owner := x.cls) k C.2.2.2.2 (aw_goodIn (fun w hw => by
      rcases List.mem_append.mp hw with h | h
      · simp only [List.mem_cons, List.not_mem_nil, or_false] at h
        rcases h with rfl | rfl | rfl | rfl | rfl | rfl
        · exact hl
        · exact hsm
        · exact hx.2
        · exact hse
        · exact hm.2
        · exact hm.1.1
      · rcases List.mem_cons.mp h with rfl | h
        · exact hm.1.2.1
        · exact h)) rfl rfl rfl (h0 := hx.1.2.1) ⟨hx.1.2.2.1.1, hx.1.2.2.1.2, hx.1.2.2.2⟩ hR) ⟨JnP.blind hB, hrc, fun U hU hW => ⟨rfl, ⟨⟨by rw [hU], by rw [hU]; exact subOf hP hC, hE.moved hW, subD hD hn hC⟩, zq_call hZ.2.1 hS hD hA hC hU hW, zq_call hZ.2.2.1 hS hD hA hC hU hW, eS_call hZ.2.2.2 hS hD hA hC hU hW⟩, hJ U hU hW⟩⟩ rfl hk hsz hst (lv_room hW) hd hf) hS (fun q _ h => freeOf hD hS hA hC q h) (freeOf hD hS hA hC)
    (fun x u t H1 locs1 ht hvm hw hB1 hz1 hk1 hS1 => by rw [hw]; exact kk H1 locs1 (put_P hP hD hk1 (by rw [← ht]; exact hB1) hC hC1 (hR1.trans (getW_eq ws isR)) hcov) (addr_D hD (ha.trans (fstW_eq ws))) hS1)
theorem lnIc {a : Nat} (C : CallFix p m c cc nL s args aw own) (hE : eK D T s) (hZ : eX l A s) (hP : va_P D kC ws H) (hD : va_D A ws) (hS : va_S A s.heap H locs) (hA : ∀ q, s.heap.size ≤ q → A q) (hB : Jb J) (hJ : ∀ U : State, U.heap = H → s.WarmedH U.vm → J U) (hM : LnC J l y b n rm D T H.size wc Wo (.ref a :: as)) (hm : MI y b n k) (hl : Cond.methodLink own idx y ∈ aw) (isC isR : List Nat) (hn : va_nd isC = true) (hnR : va_nd isR = true) (hC : isC.map (fun i => ws[i]?) = wc.map some) (hR1 : isR.map (fun i => ws[i]?) = wr.map some) (hdis : (isR.all fun i => !isC.contains i) = true)
    (hR : rm.frames + 1 ≤ R.frames ∧ 8 + (n + 11) + rm.locals ≤ R.locals) (hk : as.length = k) (hsz : ls.size = nL) (hst : st = as.reverse ++ .ref a :: rest) (hW : (rest.map fun v => v.category).sum ≤ 8) (hd : decode cc pc = .ok (.invokespecial idx, 3)) (hf : cells + rm.cells ≤ R.cells ∧ slots + rm.slots ≤ R.slots) (kk : ∀ (q : Nat → Nat) (H1 : Heap) (locs1 : List Loc), va_P D kC (wr ++ Wo q) H1 → va_D A (wr ++ Wo q) → va_S A s.heap H1 locs1 → W p l e R s m args below meth c H1 locs1 (cells + rm.cells) (slots + rm.slots) Q (F0 m (pc + 3) ls (rest))) : W p l e R s m args below meth c H locs cells slots Q (F0 m pc ls st) := by
  have hF := va_free hD hS hA isC hC
  refine va_callv (va_runI C hM (cwI k C.2.2.2.2 hm.1.good rfl rfl rfl (C.2.2.2.2 _ hm.1.1) (C.2.2.2.2 _ hl) (C.2.2.2.2 _ hm.2.2) hm.2.1 ⟨hm.1.2.2.1.1, hm.1.2.2.1.2, hm.1.2.2.2⟩ hR) ⟨JnP.blind hB, fun U hU hW => ⟨rfl, ⟨⟨by rw [hU], by rw [hU]; exact subOf hP hC, hE.moved hW, subD hD hn hC⟩, zq_call hZ.2.1 hS hD hA hC hU hW, zq_call hZ.2.2.1 hS hD hA hC hU hW, eS_call hZ.2.2.2 hS hD hA hC hU hW⟩, hJ U hU hW⟩⟩ rfl hk hsz hst (lv_room hW) hd hf) hS (fun q _ h => hF q h) hF (fun u t H1 locs1 ht hvm hw hB1 hz1 hk1 hS1 => ?_)
  obtain ⟨hP1, hD1⟩ := hB1
  rw [ht] at hP1
  have hdis' : ∀ i ∈ isR, i ∉ isC := fun i hi h => by
    have := List.all_eq_true.mp hdis i hi
    simp [h] at this
  obtain ⟨hP2, hD2⟩ := va_join hP hD isC isR hC hR1 hnR hdis' hk1 hF hP1 hD1
  exact kk u H1 locs1 hP2 hD2 hS1
/-- the script's cell, that is no cell of the world -/
def XP (b L : Nat) (xs : Nat → Int32) (U : State) : Prop := va_X b L xs U U.heap ∧ L ≤ 260
theorem XP.bl {b L : Nat} {xs : Nat → Int32} : Jb (XP b L xs) := fun U g mk a h => ⟨va_X.moved (u := U) (U := U.calling g mk a) (Vm.Alike.refl U.vm) h.1, h.2⟩
theorem XP.blind {b L : Nat} {xs : Nat → Int32} : FrameBlind (va_Pc as (XP b L xs)) := fun q U g mk h => ⟨h.1, XP.bl _ _ _ _ h.2⟩
theorem XP.lt {b L : Nat} {xs : Nat → Int32} (h : XP b L xs s) : b < s.heap.size := by
  obtain ⟨⟨scr, h1, -⟩, -⟩ := h
  exact (Array.getElem?_eq_some_iff.mp h1).1
theorem XP.use {b L : Nat} {xs : Nat → Int32} (h : XP b L xs s) (hbA : ¬ A b) (hS : va_S A s.heap H locs) {U : State} (hU : U.heap = H) (hW : s.WarmedH U.vm) : XP b L xs U := by
  refine ⟨?_, h.2⟩
  rw [hU]
  exact (va_X.kept h.1 (hS.2.1 b h.lt hbA)).moved hW.alike
/-- and it is none of the callee's either -/
def XQ (b L : Nat) (xs : Nat → Int32) (ws : va_W) (U : State) : Prop := XP b L xs U ∧ ¬ va_A ws U.heap.size b
theorem XQ.bl {b L : Nat} {xs : Nat → Int32} {ws : va_W} : Jb (XQ b L xs ws) := fun U g mk a h => ⟨XP.bl _ _ _ _ h.1, h.2⟩
theorem XQ.use {b L : Nat} {xs : Nat → Int32} (h : XP b L xs s) (hbA : ¬ A b) (hD : va_D A ws) (hS : va_S A s.heap H locs) (hA : ∀ q, s.heap.size ≤ q → A q) {isC : List Nat} (hC : isC.map (fun i => ws[i]?) = wc.map some) {U : State} (hU : U.heap = H) (hW : s.WarmedH U.vm) : XQ b L xs wc U :=
  ⟨h.use hbA hS hU hW, fun q => hbA (freeOf hD hS hA hC _ (by rw [← hU]; exact q))⟩
/-- the letters of a builder -/
def lF : List Int32 → Nat → Int32
  | [], _ => 0
  | b :: _, 0 => b
  | _ :: l, j + 1 => lF l j
def dgO (j : Nat) : Int32 := Int32.ofNat (48 + j % 10)
def dgT (j : Nat) : Int32 := Int32.ofNat (48 + j / 10)
/-- the digits of the JDK's -/
def zD (A : Nat → Prop) (U : State) (H : Heap) : Prop :=
  (∃ t, va_Z "java/lang/Integer" "DigitOnes" "[B" (.ref t) A U H ∧ va_T .byte t 100 (fun j => .int (dgO j)) A U H) ∧ ∃ t, va_Z "java/lang/Integer" "DigitTens" "[B" (.ref t) A U H ∧ va_T .byte t 100 (fun j => .int (dgT j)) A U H
def kPv : List MethodName := [yJ5_ensureCapacityInternal_d00df, yJ5_putStringAt_47b60, yJ5_inflateIfNeededFor_a7421]
/-- a builder's private methods -/
def pV (U : State) : Prop := ∀ y ∈ kPv, (Cond.selects "java/lang/StringBuilder" y y).before #[] U = true
def J9 (A : Nat → Prop) (a v : Nat) (bs : List Int32) (U : State) : Prop := JP A a v bs U U.heap ∧ zD A U U.heap ∧ pV U
def JS (ws : va_W) (a v : Nat) (bs : List Int32) (U : State) : Prop := J9 (va_A ws U.heap.size) a v bs U
theorem zD.moved {u U : State} {H : Heap} (hvm : u.vm.Alike U.vm) (h : zD A u H) : zD A U H := by
  obtain ⟨⟨t, h1, h2⟩, t', h3, h4⟩ := h
  exact ⟨⟨t, h1.moved hvm, h2.moved hvm⟩, t', h3.moved hvm, h4.moved hvm⟩
theorem zD.kept {U : State} {H H1 : Heap} (h : zD A U H) (hq : ∀ a : Nat, a < H.size → ¬ A a → H1[a]? = H[a]?) : zD A U H1 := by
  obtain ⟨⟨t, h1, h2⟩, t', h3, h4⟩ := h
  exact ⟨⟨t, h1.kept hq, h2.kept hq⟩, t', h3.kept hq, h4.kept hq⟩
theorem zD.narrow {B : Nat → Prop} {U : State} {H : Heap} (h : zD A U H) (hAB : ∀ q, B q → A q) : zD B U H := by
  obtain ⟨⟨t, h1, h2⟩, t', h3, h4⟩ := h
  exact ⟨⟨t, h1.narrow hAB, h2.narrow hAB⟩, t', h3.narrow hAB, h4.narrow hAB⟩
theorem pV.warm {U : State} (hW : s.WarmedH U.vm) (h : pV s) : pV U := fun y hy => word_at hW (Or.inl rfl) (h y hy)
theorem pV.same {u U : State} (hv : u.vm = U.vm) (h : pV u) : pV U := fun y hy => va_tabs rfl hv (h y hy)
theorem JS.bl {a v : Nat} {bs : List Int32} : Jb (JS ws a v bs) := fun U g mk q h => ⟨JP.mv (u := U) (U := U.calling g mk q) (Vm.Alike.refl U.vm) h.1, zD.moved (u := U) (U := U.calling g mk q) (Vm.Alike.refl U.vm) h.2.1, pV.same (u := U) (U := U.calling g mk q) rfl h.2.2⟩
theorem J9.use {a v : Nat} {bs : List Int32} (h : J9 A a v bs s) (hD : va_D A ws) (hS : va_S A s.heap H locs) (hA : ∀ q, s.heap.size ≤ q → A q) (isC : List Nat) (hC : isC.map (fun i => ws[i]?) = wc.map some) {U : State} (hU : U.heap = H) (hW : s.WarmedH U.vm) : JS wc a v bs U := by
  have hF := freeOf hD hS hA hC
  rw [JS, hU]
  refine ⟨?_, ?_, h.2.2.warm hW⟩
  · rw [hU]; exact ((h.1.kept hS.2.1).narrow hF).mv hW.alike
  · rw [hU]; exact ((h.2.1.kept hS.2.1).narrow hF).moved hW.alike
end LNR
