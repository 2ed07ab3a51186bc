
theorem nzB {x : Int32} (h : x &&& 1 = x) : narrow .boolean (.int x) = .int x := congrArg Value.int h
theorem fzB {x : Int32} (h : x &&& 1 = x) : fits .boolean (.int x) = true := by
  obtain ⟨j, hj, e⟩ := pk_andE x (m := 1) 1 (by decide)
  rw [h] at e
  rcases (show j = 0 ∨ j = 1 by omega) with rfl | rfl
  · rw [e]; rfl
  · rw [e]; rfl
theorem tI {x k : Int32} (a : Int) (hk : k.toInt = a) (h : ¬ x = k) : x.toInt ≠ a := lv_neT h hk
/-- the exceptions by number -/
def exN : Nat → String
  | 1 => "java/lang/IllegalArgumentException"
  | 2 => "java/lang/UnsupportedOperationException"
  | 3 => "java/lang/IndexOutOfBoundsException"
  | 4 => "java/util/NoSuchElementException"
  | 5 => "java/lang/ArithmeticException"
  | _ => "java/lang/IllegalStateException"
def kB : List Cond := kD.map Cond.declares ++ kCa.map (fun q => Cond.castable q.1 q.2)
def ThrA (own : String) (ik ic ex : Nat) (names : List String) : Prop := Bundle.fit (exN ex) = true ∧ (∀ n ∈ names, Bundle.fit n = true) ∧ Cond.classLink own ik (exN ex) ∈ aw ∧ Cond.initialized (exN ex) ∈ aw ∧ (∀ w ∈ (vx_atS own ic (exN ex) names).filter goodWord, w ∈ aw) ∧ (∀ w ∈ (vx_atS own ic (exN ex) names).filter (fun w => !goodWord w), w ∈ kB) ∧ (∀ w ∈ vx_atS own ic (exN ex) names, vx_ot w = true)
def ThrB (own : String) (ik ic ex : Nat) (sup : String) (names : List String) : Prop := (Bundle.fit (exN ex) = true ∧ Bundle.fit sup = true) ∧ (∀ n ∈ names, Bundle.fit n = true) ∧ Cond.classLink own ik (exN ex) ∈ aw ∧ Cond.initialized (exN ex) ∈ aw ∧ (∀ w ∈ (nsAt own ic (exN ex) sup names).filter goodWord, w ∈ aw) ∧ (∀ w ∈ (nsAt own ic (exN ex) sup names).filter (fun w => !goodWord w), w ∈ kB) ∧ (∀ w ∈ nsAt own ic (exN ex) sup names, vx_ot w = true)
/-- a throw site, of either kind of constructor -/
def ThrOK (own : String) (ik ic ex : Nat) (names : List String) : Prop := ThrA own ik ic ex names ∨ ∃ (sup : String) (n2 : List String), names = sup :: n2 ∧ ThrB own ik ic ex sup n2
section ROWS2
variable {p : Program} {l : Launch} {e : Env} {R : Room} {s : State} {m : MethodId} {args : Array Value} {below : List Frame} {meth : Method} {c : Code} {H : Heap} {locs : List Loc} {cells slots : Nat} {Q : State → Prop} {pc : Nat} {ls : Array Slot} {rest st : List Value}
variable {D : va_G} {T : Nat → ClassId} {ws wc wc1 ws1 : va_W} {cc b : ByteArray} {nL n k idx mc ms ex : Nat} {own : String} {y : MethodName} {ty : FieldType} {ret : Option FieldType} {rm : Room} {as : List Value} {r : Int32} {A : Nat → Prop} {H0 : Heap}
theorem cpyI {a a0 q0 q1 N : Nat} {f g : Nat → Int32} {n9 : Int32} (C : CallFix p m c cc nL s args aw own) (hE : eK D T s) (hP : va_P D kC ws H) (hD : va_D A ws) (hS : va_S A H0 H locs) (hl : Cond.methodLink own idx arraycopyName ∈ aw) (ha0 : ws[q0]? = some (a0, .inl (T 0, N, .inl f))) (ha1 : ws[q1]? = some (a, .inl (T 0, N, .inl g))) (h3 : ¬ n9 < 0) (h4 : n9.toNatClampNeg = N) (hq : q0 ≠ q1) (hw1 : ws.set q1 (a, .inl (T 0, N, .inl (va_cpy f g 0 0 N))) = ws1)
    (hframes : 1 ≤ R.frames) (hlocals : (rest.map fun v => v.category).sum + (nativeFrameWords "java/lang/System" "arraycopy" 5 + 11) ≤ R.locals) (hsz : ls.size = nL) (hd : decode cc pc = .ok (.invokestatic idx, 3))
    (kk : ∀ (H1 : Heap) (locs1 : List Loc), va_P D kC ws1 H1 → va_D A ws1 → va_S A H0 H1 locs1 → W p l e R s m args below meth c H1 locs1 cells slots Q (F0 m (pc + 3) ls rest)) : W p l e R s m args below meth c H locs cells slots Q (F0 m pc ls (.int n9 :: .int 0 :: .ref a :: .int 0 :: .ref a0 :: rest)) := by
  subst hw1
  refine va_copyi C.1 C.2.1 (C.2.2.1.trans hsz.symm) C.2.2.2.1 (C.2.2.2.2 _ hl) (C.2.2.2.2 _ qNat) (C.2.2.2.2 _ qSta) (C.2.2.2.2 _ qSys) hE.1 hP hD hS q0 q1 0 0 ha0 ha1 rfl rfl rfl (by decide) (by decide) h3 (by rw [h4]; exact Nat.le_of_eq (Nat.zero_add _)) (by rw [h4]; exact Nat.le_of_eq (Nat.zero_add _)) (fun _ _ => rfl) hframes hlocals hd ?_
  rw [h4]
  exact kk
/-- what a method that throws is told besides -/
def eX (l : Launch) (A : Nat → Prop) (s : State) : Prop := l.stackTraces = false ∧ vx_Zq Bundle.tN "UNASSIGNED_STACK" Bundle.steD A s s.heap ∧ vx_Zq Bundle.tN "SUPPRESSED_SENTINEL" Bundle.listD A s s.heap ∧ eS A s s.heap
def zP (ws : va_W) (sz : Nat) (U : State) : Prop := vx_Zq Bundle.tN "UNASSIGNED_STACK" Bundle.steD (va_A ws sz) U U.heap ∧ vx_Zq Bundle.tN "SUPPRESSED_SENTINEL" Bundle.listD (va_A ws sz) U U.heap ∧ eS (va_A ws sz) U U.heap
def ThP (D : va_G) (T : Nat → ClassId) (ws : va_W) (sz : Nat) (U : State) : Prop := WrP D T ws sz U ∧ zP ws sz U
theorem ThP.blind {sz : Nat} : FrameBlind (va_Pc as (ThP D T ws sz)) := fun a U g mk h => ⟨h.1, ⟨h.2.1.1, h.2.1.2.1, h.2.1.2.2.1.calling g mk a, h.2.1.2.2.2⟩, vx_Zq.moved (u := U) (U := U.calling g mk a) (Vm.Alike.refl U.vm) h.2.2.1, vx_Zq.moved (u := U) (U := U.calling g mk a) (Vm.Alike.refl U.vm) h.2.2.2.1, eS_calling h.2.2.2.2⟩
theorem eS_at {own tx : String} {k : Nat} {bs : List Int32} {l : Launch} {A : Nat → Prop} {s : State} (hZ : eX l A s) (i : Nat) (h : kL[i]? = some (own, k, tx, bs)) : ∃ a v, vk_R own k tx a s ∧ JP A a v bs s s.heap := hZ.2.2.2 _ (List.mem_of_getElem? h)
def ThI (l : Launch) (y : MethodName) (b : ByteArray) (n : Nat) (ty : FieldType) (rm : Room) (D : va_G) (T : Nat → ClassId) (sz : Nat) (ws ws1 : va_W) (as : List Value) (ex : Nat) (r : Int32) : Prop :=
  vx_Met l y (.code y b n (some ty) :: aw) rm (va_Pc as (ThP D T ws sz)) (va_Qi (fun x (_ : Unit) => ex = 0 ∧ x = r) (fun _ t => va_P D kC ws1 t.heap) (va_A ws sz)) (vx_X (fun _ : Unit => 0 < ex) (fun E _ t => E = exN ex ∧ va_P D kC ws1 t.heap) (va_A ws sz)) rm.cells rm.slots (va_A ws sz)
def ThV (l : Launch) (y : MethodName) (b : ByteArray) (n : Nat) (rm : Room) (D : va_G) (T : Nat → ClassId) (sz : Nat) (ws ws1 : va_W) (as : List Value) (ex : Nat) : Prop :=
  vx_Met l y (.code y b n none :: aw) rm (va_Pc as (ThP D T ws sz)) (va_Qv (fun (_ : Unit) => ex = 0) (fun _ t => va_P D kC ws1 t.heap) (va_A ws sz)) (vx_X (fun _ : Unit => 0 < ex) (fun E _ t => E = exN ex ∧ va_P D kC ws1 t.heap) (va_A ws sz)) rm.cells rm.slots (va_A ws sz)
theorem zq_call {C9 n9 d9 : String} {isC : List Nat} {U : State} (hZ : vx_Zq C9 n9 d9 A s s.heap) (hS : va_S A s.heap H locs) (hD : va_D A ws) (hA : ∀ q, s.heap.size ≤ q → A q) (hC : isC.map (fun i => ws[i]?) = wc.map some) (hU : U.heap = H) (hW : s.WarmedH U.vm) : vx_Zq C9 n9 d9 (va_A wc H.size) U U.heap := by
  rw [hU]
  exact vx_Zq.moved hW.alike ((hZ.kept hS.2.1).narrow (freeOf hD hS hA hC))
theorem thVi {a : Nat} (C : CallFix p m c cc nL s args aw own) (hE : eK D T s) (hZ : eX l A s) (hP : va_P D kC ws H) (hD : va_D A ws) (hS : va_S A s.heap H locs) (hA : ∀ q, s.heap.size ≤ q → A q) (hM : ThI l y b n ty rm D T H.size wc wc1 (.ref a :: as) ex r) (hm : MV y b n (some ty) k) (hl : Cond.methodLink own idx y ∈ aw) (isC isR : List Nat) (q0 : Nat) {ci : Nat} {fs : List Value} {q : vw_C} (hn : va_nd isC = true) (hC : isC.map (fun i => ws[i]?) = wc.map some) (hC1 : isC.map (fun i => ws1[i]?) = wc1.map some) (hR1 : isR.map (fun i => ws1[i]?) = getW ws isR) (hcov : (List.range ws1.length).all (fun i => isC.contains i || isR.contains i) = true) (ha : ws1.map Prod.fst = fstW ws) (he : ws[q0]? = some (a, .inr (ci, fs))) (hc : kC[ci]? = some q) (hq : q.1 = y.cls)
    (hR : rm.frames + 1 ≤ R.frames ∧ 8 + (n + 11) + rm.locals ≤ R.locals) (hk : as.length = k) (hsz : ls.size = nL) (hst : st = as.reverse ++ .ref a :: rest) (hW : (rest.map fun v => v.category).sum ≤ 8) (hd : decode cc pc = .ok (.invokevirtual idx, 3)) (hf : cells + rm.cells ≤ R.cells ∧ slots + rm.slots ≤ R.slots)
    (kx : 0 < ex → ∀ (H1 : Heap) (locs1 : List Loc) (ce : Cell) (q9 : Addr), va_P D kC ws1 H1 → va_D A ws1 → va_S A s.heap H1 locs1 → H1[q9]? = some ce → ce.vm = .none → s.vm.findClass (exN ex) = some ce.cls → vx_W p l e R s m args below meth c H1 locs1 (cells + rm.cells) (slots + rm.slots) Q (F0 m pc ls rest) q9)
    (kk : ex = 0 → ∀ (H1 : Heap) (locs1 : List Loc), va_P D kC ws1 H1 → va_D A ws1 → va_S A s.heap H1 locs1 → W p l e R s m args below meth c H1 locs1 (cells + rm.cells) (slots + rm.slots) Q (F0 m (pc + 3) ls (.int r :: rest))) : W p l e R s m args below meth c H locs cells slots Q (F0 m pc ls st) :=
  vx_calli (vx_runV C hM (cwV2 C.2.2.2.2 hl hm rfl rfl hR) ⟨ThP.blind, recvOf hE hP he hc hq, fun U hU hW => ⟨rfl, ⟨by rw [hU], by rw [hU]; exact subOf hP hC, hE.moved hW, subD hD hn hC⟩, zq_call hZ.2.1 hS hD hA hC hU hW, zq_call hZ.2.2.1 hS hD hA hC hU hW, eS_call hZ.2.2.2 hS hD hA hC hU hW⟩⟩ rfl hk hsz hst (lv_room hW) hd hf) hS (fun q _ h => freeOf hD hS hA hC q h) (freeOf hD hS hA hC) (fun q _ h => freeOf hD hS hA hC q h)
    (fun E ce q9 u t H1 locs1 ht hvm hp hB hz1 hk1 hS1 g1 g2 g3 => kx hp H1 locs1 ce q9 (put_P hP hD hk1 (by rw [← ht]; exact hB.2) hC hC1 (hR1.trans (getW_eq ws isR)) hcov) (addr_D hD (ha.trans (fstW_eq ws))) hS1 g1 g2 (by rw [← hB.1]; exact g3))
    (fun x u t H1 locs1 ht hvm hw hB hz1 hk1 hS1 => by rw [hw.2]; exact kk hw.1 H1 locs1 (put_P hP hD hk1 (by rw [← ht]; exact hB) hC hC1 (hR1.trans (getW_eq ws isR)) hcov) (addr_D hD (ha.trans (fstW_eq ws))) hS1)
theorem thVv {a : Nat} (C : CallFix p m c cc nL s args aw own) (hE : eK D T s) (hZ : eX l A s) (hP : va_P D kC ws H) (hD : va_D A ws) (hS : va_S A s.heap H locs) (hA : ∀ q, s.heap.size ≤ q → A q) (hM : ThV l y b n rm D T H.size wc wc1 (.ref a :: as) ex) (hm : MV y b n none k) (hl : Cond.methodLink own idx y ∈ aw) (isC isR : List Nat) (q0 : Nat) {ci : Nat} {fs : List Value} {q : vw_C} (hn : va_nd isC = true) (hC : isC.map (fun i => ws[i]?) = wc.map some) (hC1 : isC.map (fun i => ws1[i]?) = wc1.map some) (hR1 : isR.map (fun i => ws1[i]?) = getW ws isR) (hcov : (List.range ws1.length).all (fun i => isC.contains i || isR.contains i) = true) (ha : ws1.map Prod.fst = fstW ws) (he : ws[q0]? = some (a, .inr (ci, fs))) (hc : kC[ci]? = some q) (hq : q.1 = y.cls)
    (hR : rm.frames + 1 ≤ R.frames ∧ 8 + (n + 11) + rm.locals ≤ R.locals) (hk : as.length = k) (hsz : ls.size = nL) (hst : st = as.reverse ++ .ref a :: rest) (hW : (rest.map fun v => v.category).sum ≤ 8) (hd : decode cc pc = .ok (.invokevirtual idx, 3)) (hf : cells + rm.cells ≤ R.cells ∧ slots + rm.slots ≤ R.slots)
    (kx : 0 < ex → ∀ (H1 : Heap) (locs1 : List Loc) (ce : Cell) (q9 : Addr), va_P D kC ws1 H1 → va_D A ws1 → va_S A s.heap H1 locs1 → H1[q9]? = some ce → ce.vm = .none → s.vm.findClass (exN ex) = some ce.cls → vx_W p l e R s m args below meth c H1 locs1 (cells + rm.cells) (slots + rm.slots) Q (F0 m pc ls rest) q9)
    (kk : ex = 0 → ∀ (H1 : Heap) (locs1 : List Loc), va_P D kC ws1 H1 → va_D A ws1 → va_S A s.heap H1 locs1 → W p l e R s m args below meth c H1 locs1 (cells + rm.cells) (slots + rm.slots) Q (F0 m (pc + 3) ls rest)) : W p l e R s m args below meth c H locs cells slots Q (F0 m pc ls st) :=
  vx_callv (vx_runV C hM (cwV2 C.2.2.2.2 hl hm rfl rfl hR) ⟨ThP.blind, recvOf hE hP he hc hq, fun U hU hW => ⟨rfl, ⟨by rw [hU], by rw [hU]; exact subOf hP hC, hE.moved hW, subD hD hn hC⟩, zq_call hZ.2.1 hS hD hA hC hU hW, zq_call hZ.2.2.1 hS hD hA hC hU hW, eS_call hZ.2.2.2 hS hD hA hC hU hW⟩⟩ rfl hk hsz hst (lv_room hW) hd hf) hS (fun q _ h => freeOf hD hS hA hC q h) (freeOf hD hS hA hC) (fun q _ h => freeOf hD hS hA hC q h)
    (fun E ce q9 u t H1 locs1 ht hvm hp hB hz1 hk1 hS1 g1 g2 g3 => kx hp H1 locs1 ce q9 (put_P hP hD hk1 (by rw [← ht]; exact hB.2) hC hC1 (hR1.trans (getW_eq ws isR)) hcov) (addr_D hD (ha.trans (fstW_eq ws))) hS1 g1 g2 (by rw [← hB.1]; exact g3))
    (fun u t H1 locs1 ht hvm hw hB hz1 hk1 hS1 => kk hw H1 locs1 (put_P hP hD hk1 (by rw [← ht]; exact hB) hC hC1 (hR1.trans (getW_eq ws isR)) hcov) (addr_D hD (ha.trans (fstW_eq ws))) hS1)
def ThRetI (p : Program) (l : Launch) (e : Env) (R : Room) (s : State) (m : MethodId) (args : Array Value) (below : List Frame) (meth : Method) (c : Code) (Q : State → Prop) (cc : ByteArray) (ty : FieldType) (D : va_G) (A : Nat → Prop) (ws1 : va_W) (ex : Nat) (r : Int32) : Prop :=
  ∀ (H : Heap) (locs : List Loc) (cells slots pc : Nat) (ls : Array Slot) (v w : Int32), cells ≤ R.cells → slots ≤ R.slots → decode cc pc = .ok (.ireturn, 1) → narrow ty (.int v) = .int w → ex = 0 → w = r → va_P D kC ws1 H → va_S A s.heap H locs → W p l e R s m args below meth c H locs cells slots Q (F0 m pc ls [.int v])
def ThRetV (p : Program) (l : Launch) (e : Env) (R : Room) (s : State) (m : MethodId) (args : Array Value) (below : List Frame) (meth : Method) (c : Code) (Q : State → Prop) (cc : ByteArray) (D : va_G) (A : Nat → Prop) (ws1 : va_W) (ex : Nat) : Prop :=
  ∀ (H : Heap) (locs : List Loc) (cells slots pc : Nat) (ls : Array Slot), cells ≤ R.cells → slots ≤ R.slots → decode cc pc = .ok (.return_, 1) → ex = 0 → va_P D kC ws1 H → va_S A s.heap H locs → W p l e R s m args below meth c H locs cells slots Q (F0 m pc ls [])
def ThOut (p : Program) (l : Launch) (e : Env) (R : Room) (s : State) (m : MethodId) (args : Array Value) (below : List Frame) (meth : Method) (c : Code) (Q : State → Prop) (D : va_G) (A : Nat → Prop) (ws1 : va_W) (ex : Nat) : Prop :=
  ∀ (H : Heap) (locs : List Loc) (cells slots pc : Nat) (ls : Array Slot) (rest : List Value) (q : Addr) (ce : Cell), cells ≤ R.cells → slots ≤ R.slots → 0 < ex → va_P D kC ws1 H → va_S A s.heap H locs → H[q]? = some ce → ce.vm = .none → s.vm.findClass (exN ex) = some ce.cls → vx_W p l e R s m args below meth c H locs cells slots Q (F0 m pc ls rest) q
def ThThr (p : Program) (l : Launch) (e : Env) (R : Room) (s : State) (m : MethodId) (args : Array Value) (below : List Frame) (meth : Method) (c : Code) (Q : State → Prop) (cc : ByteArray) (own : String) (D : va_G) (A : Nat → Prop) (ws1 : va_W) (ex : Nat) : Prop :=
  ∀ (H : Heap) (locs : List Loc) (cells slots pc : Nat) (ls : Array Slot) (rest : List Value) (ik ic is : Nat) (names : List String) (text : String), ThrOK own ik ic ex names → (own, is, text) ∈ kS → decode cc pc = .ok (.new ik, 3) → decode cc (pc + 3) = .ok (.dup, 1) → ((decode cc (pc + 4) = .ok (.ldc is, 2) ∧ decode cc (pc + 6) = .ok (.invokespecial ic, 3) ∧ decode cc (pc + 9) = .ok (.athrow, 1)) ∨ (decode cc (pc + 4) = .ok (.ldc_w is, 3) ∧ decode cc (pc + 7) = .ok (.invokespecial ic, 3) ∧ decode cc (pc + 10) = .ok (.athrow, 1))) →
    names.length + 3 < R.frames → (rest.map fun v => v.category).sum + (13 * (names.length + 1) + 43) ≤ R.locals → cells + 1 ≤ R.cells → slots + 6 ≤ R.slots → ls.size = c.maxLocals → 0 < ex → va_P D kC ws1 H → va_S A s.heap H locs → W p l e R s m args below meth c H locs cells slots Q (F0 m pc ls rest)
theorem xc_of {Q1 : String → State → State → Prop} {E : String} {t : State} (hQ : Q1 = vx_X (fun _ : Unit => 0 < ex) (fun E _ t => E = exN ex ∧ va_P D kC ws1 t.heap) A) (h0 : 0 < ex) (hEx : E = exN ex) (hP : va_P D kC ws1 t.heap) (hF : va_F A s t) : Q1 E s t := by
  rw [hQ]
  exact ⟨(), h0, ⟨hEx, hP⟩, hF⟩
theorem thOut_of {Qc : Array Value → State → Outcome → State → Prop} {free : Addr → Prop} (hnt : ∀ x ∈ c.exceptionTable.toList, False) (hlocks : meth.locks = false) (hfree : ∀ q, A q → free q) : ThOut p l e R s m args below meth c (vx_MQ below Qc (vx_X (fun _ : Unit => 0 < ex) (fun E _ t => E = exN ex ∧ va_P D kC ws1 t.heap) A) args s R.cells R.slots free) D A ws1 ex :=
  fun H locs cells slots pc ls rest q ce hc hs h0 hP hS g1 g2 g3 => vx_out (fun x hx => (hnt x hx).elim) hlocks g1 g2 g3 (fun t ht _ => xc_of rfl h0 rfl (by rw [ht]; exact hP) (hS.F ht)) (fun z hz => hfree _ (hS.2.2 z hz)) hc hs
theorem thThr_of {Qc : Array Value → State → Outcome → State → Prop} {free : Addr → Prop} (C : CallFix p m c cc nL s args aw own) (hE : eK D T s) (hZ : eX l A s) (hnt : ∀ x ∈ c.exceptionTable.toList, False) (hlocks : meth.locks = false) (hfree : ∀ q, A q → free q) : ThThr p l e R s m args below meth c (vx_MQ below Qc (vx_X (fun _ : Unit => 0 < ex) (fun E _ t => E = exN ex ∧ va_P D kC ws1 t.heap) A) args s R.cells R.slots free) cc own D A ws1 ex := by
  intro H locs cells slots pc ls rest ik ic is names text hT hs d0 d3 dd hfr hlo hc hsl hsz h0 hP hS
  obtain ⟨sa, hsa⟩ := hE.2.2.2.2.2 _ hs
  have hx : ∀ t : State, s.vm.Alike t.vm → H.size ≤ t.heap.size → (∀ q : Nat, q < H.size → t.heap[q]? = H[q]?) → vx_X (fun _ : Unit => 0 < ex) (fun E _ t => E = exN ex ∧ va_P D kC ws1 t.heap) A (exN ex) s t := fun t _ hz hk =>
    xc_of rfl h0 rfl (hP.kept (fun k q hkq => hk q.1 ((hP k q hkq).lt))) ⟨Nat.le_trans hS.1 hz, fun q h1 h2 => by rw [hk q (Nat.lt_of_lt_of_le h1 hS.1)]; exact hS.2.1 q h1 h2⟩
  have hB : ∀ w ∈ kB, w.before args s = true := fun w hw => by
    rcases List.mem_append.mp hw with h | h
    · obtain ⟨z, hz, rfl⟩ := List.mem_map.mp h
      exact va_Nw.use rfl (hE.2.2.1 z hz)
    · obtain ⟨z, hz, rfl⟩ := List.mem_map.mp h
      exact va_Nw.use rfl (hE.2.2.2.1 z hz)
  have good : ∀ L : List Cond, (∀ w ∈ L, vx_ot w = true) → ∀ w ∈ Cond.classLink own ik (exN ex) :: Cond.initialized (exN ex) :: L, vx_ot w = true := by
    intro L hL w hw
    rcases List.mem_cons.mp hw with rfl | hw
    · rfl
    · rcases List.mem_cons.mp hw with rfl | hw
      · rfl
      · exact hL w hw
  rcases hT with ⟨f1, f2, f3, f4, f5, f6, f7⟩ | ⟨sup, n2, rfl, ⟨f1, f1s⟩, f2, f3, f4, f5, f6, f7⟩
  · have hat : ∀ w ∈ vx_atS own ic (exN ex) names, w.before args s = true := vx_hat (fun w hw => C.2.2.2.2 w (f5 w hw)) f6 hB
    rcases dd with ⟨d4, d6, d9⟩ | ⟨d4, d6, d9⟩
    · exact vx_throwS C.1 C.2.1 hZ.1 C.2.2.2.1 f1 f2 (C.2.2.2.2 _ f3) (C.2.2.2.2 _ f4) hsa hat (good _ f7) hZ.2.1 hZ.2.2.1 hS hsz d0 d3 d4 d6 d9 (fun x hx => (hnt x hx).elim) hfr hlo hc hsl hlocks hx (fun z hz => hfree _ (hS.2.2 z hz)) hc hsl
    · exact vx_throwSW C.1 C.2.1 hZ.1 C.2.2.2.1 f1 f2 (C.2.2.2.2 _ f3) (C.2.2.2.2 _ f4) hsa hat (good _ f7) hZ.2.1 hZ.2.2.1 hS hsz d0 d3 d4 d6 d9 (fun x hx => (hnt x hx).elim) hfr hlo hc hsl hlocks hx (fun z hz => hfree _ (hS.2.2 z hz)) hc hsl
  · have hat : ∀ w ∈ nsAt own ic (exN ex) sup n2, w.before args s = true := vx_hat (fun w hw => C.2.2.2.2 w (f5 w hw)) f6 hB
    rcases dd with ⟨d4, d6, d9⟩ | ⟨d4, d6, d9⟩
    · exact nsThrow (o := 6) C.1 C.2.1 hZ.1 C.2.2.2.1 f1 f1s f2 (C.2.2.2.2 _ f3) (C.2.2.2.2 _ f4) hsa hat (good _ f7) hZ.2.1 hZ.2.2.1 hS hsz d0 d3 (Or.inl ⟨d4, rfl⟩) d6 d9 (fun x hx => (hnt x hx).elim) hfr hlo hc hsl hlocks hx (fun z hz => hfree _ (hS.2.2 z hz)) hc hsl
    · exact nsThrow (o := 7) C.1 C.2.1 hZ.1 C.2.2.2.1 f1 f1s f2 (C.2.2.2.2 _ f3) (C.2.2.2.2 _ f4) hsa hat (good _ f7) hZ.2.1 hZ.2.2.1 hS hsz d0 d3 (Or.inr ⟨d4, rfl⟩) d6 d9 (fun x hx => (hnt x hx).elim) hfr hlo hc hsl hlocks hx (fun z hz => hfree _ (hS.2.2 z hz)) hc hsl
theorem thMetI {sz : Nat} (hnt : l.stackTraces = false) (hy : plainName y.cls = true) (hlen : Nat.ble (lg_sl as).length n = true) (body : ∀ (p : Program) (e : Env) (s : State) (m : MethodId) (args : Array Value) (below : List Frame) (meth : Method) (c : Code) (Q : State → Prop) (A : Nat → Prop), CallFix p m c b n s args aw y.cls → eK D T s → (∀ q, s.heap.size ≤ q → A q) → eX l A s → va_P D kC ws s.heap → va_D A ws → va_S A s.heap s.heap [] → ThRetI p l e rm s m args below meth c Q b ty D A ws1 ex r ∧ ThOut p l e rm s m args below meth c Q D A ws1 ex ∧ ThThr p l e rm s m args below meth c Q b y.cls D A ws1 ex → ∀ ls : Array Slot, lv_has ls n (lv_args 0 as) → W p l e rm s m args below meth c s.heap [] 0 0 Q (F0 m 0 ls [])) : ThI l y b n ty rm D T sz ws ws1 as ex r := by
  refine vx_ofW (cc := b) (maxL := n) (ret := some ty) hy rfl ?_
  intro p e s m args below meth c s₁ B hml htab hv
  obtain ⟨rfl, ⟨hsz, hP, hE, hD0⟩, hz1, hz2⟩ := hv
  subst hsz
  have hts : ∀ w ∈ (Cond.code y b n (some ty) :: aw), w.before as.toArray s = true := atoms_spec (ws := .code y b n (some ty) :: aw) B.pre
  have hr := B.returns
  have hlocks := B.notSynchronized
  have hl := lv_entry as (n := n) (Nat.le_of_ble_eq_true hlen)
  have C : CallFix p m c b n s as.toArray aw y.cls := ⟨B.exec, B.bytes, hml, findClass_of_methodNamed B.named, fun w hw => hts w (List.mem_cons_of_mem _ hw)⟩
  have hZ : eX l (va_A ws s.heap.size) s := ⟨hnt, hz1, hz2⟩
  rw [lg_entry_eq]
  exact body p e s m _ below meth c _ (va_A ws s.heap.size) C hE (fun q h => Or.inr h) hZ hP hD0.self va_S.rf ⟨fun H locs cells slots pc ls v w hc hs hd hn h0 hw hP1 hS => W.widen hc hs (vx_ret (W.nret B.exec B.bytes hr hn (fun t ht _ => ⟨⟨w, (), rfl, ⟨h0, hw⟩, by show va_P D kC ws1 t.heap; rw [ht]; exact hP1⟩, hS.F ht⟩) hS.2.2 hd hlocks)), thOut_of (R := rm) htab hlocks (fun _ h => h), thThr_of (R := rm) C hE hZ htab hlocks (fun _ h => h)⟩ _ hl
theorem thMetV {sz : Nat} (hnt : l.stackTraces = false) (hy : plainName y.cls = true) (hlen : Nat.ble (lg_sl as).length n = true) (body : ∀ (p : Program) (e : Env) (s : State) (m : MethodId) (args : Array Value) (below : List Frame) (meth : Method) (c : Code) (Q : State → Prop) (A : Nat → Prop), CallFix p m c b n s args aw y.cls → eK D T s → (∀ q, s.heap.size ≤ q → A q) → eX l A s → va_P D kC ws s.heap → va_D A ws → va_S A s.heap s.heap [] → ThRetV p l e rm s m args below meth c Q b D A ws1 ex ∧ ThOut p l e rm s m args below meth c Q D A ws1 ex ∧ ThThr p l e rm s m args below meth c Q b y.cls D A ws1 ex → ∀ ls : Array Slot, lv_has ls n (lv_args 0 as) → W p l e rm s m args below meth c s.heap [] 0 0 Q (F0 m 0 ls [])) : ThV l y b n rm D T sz ws ws1 as ex := by
  refine vx_ofW (cc := b) (maxL := n) (ret := none) hy rfl ?_
  intro p e s m args below meth c s₁ B hml htab hv
  obtain ⟨rfl, ⟨hsz, hP, hE, hD0⟩, hz1, hz2⟩ := hv
  subst hsz
  have hts : ∀ w ∈ (Cond.code y b n none :: aw), w.before as.toArray s = true := atoms_spec (ws := .code y b n none :: aw) B.pre
  have hr := B.returns
  have hlocks := B.notSynchronized
  have hl := lv_entry as (n := n) (Nat.le_of_ble_eq_true hlen)
  have C : CallFix p m c b n s as.toArray aw y.cls := ⟨B.exec, B.bytes, hml, findClass_of_methodNamed B.named, fun w hw => hts w (List.mem_cons_of_mem _ hw)⟩
  have hZ : eX l (va_A ws s.heap.size) s := ⟨hnt, hz1, hz2⟩
  rw [lg_entry_eq]
  exact body p e s m _ below meth c _ (va_A ws s.heap.size) C hE (fun q h => Or.inr h) hZ hP hD0.self va_S.rf ⟨fun H locs cells slots pc ls hc hs hd h0 hP1 hS => W.widen hc hs (vx_ret (W.vret B.exec B.bytes hr (fun t ht _ => ⟨⟨(), rfl, h0, by show va_P D kC ws1 t.heap; rw [ht]; exact hP1⟩, hS.F ht⟩) hS.2.2 hd hlocks)), thOut_of (R := rm) htab hlocks (fun _ h => h), thThr_of (R := rm) C hE hZ htab hlocks (fun _ h => h)⟩ _ hl
end ROWS2
