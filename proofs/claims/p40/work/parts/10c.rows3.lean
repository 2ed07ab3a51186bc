/-! methods that answer a double, a float, a reference -/
section ROWSD
variable {p : Program} {l : Launch} {e : Env} {R : Room} {s : State} {m : MethodId} {args : Array Value} {below : List Frame} {meth : Method} {c : Code} {H : Heap} {locs : List Loc} {cells slots : Nat} {Q : State → Prop} {pc : Nat} {ls : Array Slot} {rest st : List Value}
variable {D : va_G} {T : Nat → ClassId} {ws wc wc1 ws1 : va_W} {cc b : ByteArray} {nL n k idx mc ms ex : Nat} {own : String} {y : MethodName} {ty : FieldType} {ret : Option FieldType} {rm : Room} {as : List Value} {rd : UInt64} {A : Nat → Prop} {H0 : Heap}
def WrD (l : Launch) (y : MethodName) (b : ByteArray) (n : Nat)  (rm : Room) (D : va_G) (T : Nat → ClassId) (sz : Nat) (ws ws1 : va_W) (as : List Value) (rd : UInt64) : Prop :=
  Met l y (.code y b n (some .double) :: aw) rm (va_Pc as (WrP D T ws sz)) (va_Qd (fun x (_ : Unit) => x = rd) (fun _ t => va_P D kC ws1 t.heap) (va_A ws sz)) 0 0 (va_A ws sz)
theorem wrVd {a : Nat} (C : CallFix p m c cc nL s args aw own) (hE : eK D T s) (hP : va_P D kC ws H) (hD : va_D A ws) (hS : va_S A H0 H locs) (hA : ∀ q, H0.size ≤ q → A q) (hM : WrD l y b n rm D T H.size wc wc1 (.ref a :: as) rd) (hm : MV y b n (some .double) k) (hl : Cond.methodLink own idx y ∈ aw) (isC isR : List Nat) (q0 : Nat) {ci : Nat} {fs : List Value} {q : vw_C} (hn : va_nd isC = true) (hC : isC.map (fun i => ws[i]?) = wc.map some) (hC1 : isC.map (fun i => ws1[i]?) = wc1.map some) (hR1 : isR.map (fun i => ws1[i]?) = getW ws isR) (hcov : (List.range ws1.length).all (fun i => isC.contains i || isR.contains i) = true) (ha : ws1.map Prod.fst = fstW ws) (he : ws[q0]? = some (a, .inr (ci, fs))) (hc : kC[ci]? = some q) (hq : q.1 = y.cls)
    (hrm : rm.cells = 0 ∧ rm.slots = 0) (hR : rm.frames + 1 ≤ R.frames ∧ 8 + (n + 11) + rm.locals ≤ R.locals) (hk : as.length = k) (hsz : ls.size = nL) (hst : st = as.reverse ++ .ref a :: rest) (hW : (rest.map fun v => v.category).sum ≤ 8) (hd : decode cc pc = .ok (.invokevirtual idx, 3)) (hf : cells ≤ R.cells ∧ slots ≤ R.slots)
    (kk : ∀ (H1 : Heap) (locs1 : List Loc), va_P D kC ws1 H1 → va_D A ws1 → va_S A H0 H1 locs1 → W p l e R s m args below meth c H1 locs1 cells slots Q (F0 m (pc + 3) ls (.double rd :: rest))) : W p l e R s m args below meth c H locs cells slots Q (F0 m pc ls st) :=
  va_calld (va_runV C hM (cwV2 C.2.2.2.2 hl hm hrm.1 hrm.2 hR) ⟨WrP.blind, recvOf hE hP he hc hq, fun U hU hW => ⟨rfl, by rw [hU], by rw [hU]; exact subOf hP hC, hE.moved hW, subD hD hn hC⟩⟩ rfl hk hsz hst (lv_room hW) hd hf) hS (fun q _ h => freeOf hD hS hA hC q h) (freeOf hD hS hA hC)
    (fun x u t H1 locs1 ht hvm hw hB hz1 hk1 hS1 => by rw [hw]; exact kk H1 locs1 (put_P hP hD hk1 (by rw [← ht]; exact hB) hC hC1 (hR1.trans (getW_eq ws isR)) hcov) (addr_D hD (ha.trans (fstW_eq ws))) hS1)
def WrRetD (p : Program) (l : Launch) (e : Env) (R : Room) (s : State) (m : MethodId) (args : Array Value) (below : List Frame) (meth : Method) (c : Code) (Q : State → Prop) (cc : ByteArray) (D : va_G) (A : Nat → Prop) (ws1 : va_W) (rd : UInt64) : Prop :=
  ∀ (H : Heap) (locs : List Loc) (pc : Nat) (ls : Array Slot) (v : UInt64), decode cc pc = .ok (.dreturn, 1) → v = rd → va_P D kC ws1 H → va_S A s.heap H locs → W p l e R s m args below meth c H locs 0 0 Q (F0 m pc ls [.double v])
theorem wrMetD {sz : Nat} (hy : plainName y.cls = true) (hlen : Nat.ble (lg_sl as).length n = true) (body : ∀ (p : Program) (e : Env) (s : State) (m : MethodId) (args : Array Value) (below : List Frame) (meth : Method) (c : Code) (Q : State → Prop) (A : Nat → Prop), CallFix p m c b n s args aw y.cls → eK D T s → (∀ q, s.heap.size ≤ q → A q) → va_P D kC ws s.heap → va_D A ws → va_S A s.heap s.heap [] → WrRetD p l e rm s m args below meth c Q b D A ws1 rd → ∀ ls : Array Slot, lv_has ls n (lv_args 0 as) → W p l e rm s m args below meth c s.heap [] 0 0 Q (F0 m 0 ls [])) : WrD l y b n rm D T sz ws ws1 as rd := by
  refine Met.ofW (cc := b) (maxL := n) (ret := some .double) hy rfl ?_
  intro p e s m args below meth c s₁ B hml hv
  obtain ⟨rfl, hsz, hP, hE, hD0⟩ := hv
  subst hsz
  have hts : ∀ w ∈ (Cond.code y b n (some .double) :: aw), w.before as.toArray s = true := atoms_spec (ws := .code y b n (some .double) :: aw) B.pre
  have hr := B.returns
  have hlocks := B.notSynchronized
  have hl := lv_entry as (n := n) (Nat.le_of_ble_eq_true hlen)
  rw [lg_entry_eq]
  exact body p e s m _ below meth c _ (va_A ws s.heap.size) ⟨B.exec, B.bytes, hml, findClass_of_methodNamed B.named, fun w hw => hts w (List.mem_cons_of_mem _ hw)⟩ hE (fun q h => Or.inr h) hP hD0.self va_S.rf (fun H locs pc ls v hd hw hP1 hS => W.dret B.exec B.bytes hr (fun t ht _ => ⟨⟨v, (), rfl, hw, by show va_P D kC ws1 t.heap; rw [ht]; exact hP1⟩, hS.F ht⟩) hS.2.2 hd hlocks) _ hl
def ThD (l : Launch) (y : MethodName) (b : ByteArray) (n : Nat)  (rm : Room) (D : va_G) (T : Nat → ClassId) (sz : Nat) (ws ws1 : va_W) (as : List Value) (ex : Nat) (rd : UInt64) : Prop :=
  vx_Met l y (.code y b n (some .double) :: aw) rm (va_Pc as (ThP D T ws sz)) (va_Qd (fun x (_ : Unit) => ex = 0 ∧ x = rd) (fun _ t => va_P D kC ws1 t.heap) (va_A ws sz)) (vx_X (fun _ : Unit => 0 < ex) (fun E _ t => E = exN ex ∧ va_P D kC ws1 t.heap) (va_A ws sz)) rm.cells rm.slots (va_A ws sz)
theorem thVd {a : Nat} (C : CallFix p m c cc nL s args aw own) (hE : eK D T s) (hZ : eX l A s) (hP : va_P D kC ws H) (hD : va_D A ws) (hS : va_S A s.heap H locs) (hA : ∀ q, s.heap.size ≤ q → A q) (hM : ThD l y b n rm D T H.size wc wc1 (.ref a :: as) ex rd) (hm : MV y b n (some .double) k) (hl : Cond.methodLink own idx y ∈ aw) (isC isR : List Nat) (q0 : Nat) {ci : Nat} {fs : List Value} {q : vw_C} (hn : va_nd isC = true) (hC : isC.map (fun i => ws[i]?) = wc.map some) (hC1 : isC.map (fun i => ws1[i]?) = wc1.map some) (hR1 : isR.map (fun i => ws1[i]?) = getW ws isR) (hcov : (List.range ws1.length).all (fun i => isC.contains i || isR.contains i) = true) (ha : ws1.map Prod.fst = fstW ws) (he : ws[q0]? = some (a, .inr (ci, fs))) (hc : kC[ci]? = some q) (hq : q.1 = y.cls)
    (hR : rm.frames + 1 ≤ R.frames ∧ 8 + (n + 11) + rm.locals ≤ R.locals) (hk : as.length = k) (hsz : ls.size = nL) (hst : st = as.reverse ++ .ref a :: rest) (hW : (rest.map fun v => v.category).sum ≤ 8) (hd : decode cc pc = .ok (.invokevirtual idx, 3)) (hf : cells + rm.cells ≤ R.cells ∧ slots + rm.slots ≤ R.slots)
    (kx : 0 < ex → ∀ (H1 : Heap) (locs1 : List Loc) (ce : Cell) (q9 : Addr), va_P D kC ws1 H1 → va_D A ws1 → va_S A s.heap H1 locs1 → H1[q9]? = some ce → ce.vm = .none → s.vm.findClass (exN ex) = some ce.cls → vx_W p l e R s m args below meth c H1 locs1 (cells + rm.cells) (slots + rm.slots) Q (F0 m pc ls rest) q9)
    (kk : ex = 0 → ∀ (H1 : Heap) (locs1 : List Loc), va_P D kC ws1 H1 → va_D A ws1 → va_S A s.heap H1 locs1 → W p l e R s m args below meth c H1 locs1 (cells + rm.cells) (slots + rm.slots) Q (F0 m (pc + 3) ls (.double rd :: rest))) : W p l e R s m args below meth c H locs cells slots Q (F0 m pc ls st) :=
  vx_calld (vx_runV C hM (cwV2 C.2.2.2.2 hl hm rfl rfl hR) ⟨ThP.blind, recvOf hE hP he hc hq, fun U hU hW => ⟨rfl, ⟨by rw [hU], by rw [hU]; exact subOf hP hC, hE.moved hW, subD hD hn hC⟩, zq_call hZ.2.1 hS hD hA hC hU hW, zq_call hZ.2.2.1 hS hD hA hC hU hW, eS_call hZ.2.2.2 hS hD hA hC hU hW⟩⟩ rfl hk hsz hst (lv_room hW) hd hf) hS (fun q _ h => freeOf hD hS hA hC q h) (freeOf hD hS hA hC) (fun q _ h => freeOf hD hS hA hC q h)
    (fun E ce q9 u t H1 locs1 ht hvm hp hB hz1 hk1 hS1 g1 g2 g3 => kx hp H1 locs1 ce q9 (put_P hP hD hk1 (by rw [← ht]; exact hB.2) hC hC1 (hR1.trans (getW_eq ws isR)) hcov) (addr_D hD (ha.trans (fstW_eq ws))) hS1 g1 g2 (by rw [← hB.1]; exact g3))
    (fun x u t H1 locs1 ht hvm hw hB hz1 hk1 hS1 => by rw [hw.2]; exact kk hw.1 H1 locs1 (put_P hP hD hk1 (by rw [← ht]; exact hB) hC hC1 (hR1.trans (getW_eq ws isR)) hcov) (addr_D hD (ha.trans (fstW_eq ws))) hS1)
def ThRetD (p : Program) (l : Launch) (e : Env) (R : Room) (s : State) (m : MethodId) (args : Array Value) (below : List Frame) (meth : Method) (c : Code) (Q : State → Prop) (cc : ByteArray) (D : va_G) (A : Nat → Prop) (ws1 : va_W) (ex : Nat) (rd : UInt64) : Prop :=
  ∀ (H : Heap) (locs : List Loc) (cells slots pc : Nat) (ls : Array Slot) (v : UInt64), cells ≤ R.cells → slots ≤ R.slots → decode cc pc = .ok (.dreturn, 1) → ex = 0 → v = rd → va_P D kC ws1 H → va_S A s.heap H locs → W p l e R s m args below meth c H locs cells slots Q (F0 m pc ls [.double v])
theorem thMetD {sz : Nat} (hnt : l.stackTraces = false) (hy : plainName y.cls = true) (hlen : Nat.ble (lg_sl as).length n = true) (body : ∀ (p : Program) (e : Env) (s : State) (m : MethodId) (args : Array Value) (below : List Frame) (meth : Method) (c : Code) (Q : State → Prop) (A : Nat → Prop), CallFix p m c b n s args aw y.cls → eK D T s → (∀ q, s.heap.size ≤ q → A q) → eX l A s → va_P D kC ws s.heap → va_D A ws → va_S A s.heap s.heap [] → ThRetD p l e rm s m args below meth c Q b D A ws1 ex rd ∧ ThOut p l e rm s m args below meth c Q D A ws1 ex ∧ ThThr p l e rm s m args below meth c Q b y.cls D A ws1 ex → ∀ ls : Array Slot, lv_has ls n (lv_args 0 as) → W p l e rm s m args below meth c s.heap [] 0 0 Q (F0 m 0 ls [])) : ThD l y b n rm D T sz ws ws1 as ex rd := by
  refine vx_ofW (cc := b) (maxL := n) (ret := some .double) hy rfl ?_
  intro p e s m args below meth c s₁ B hml htab hv
  obtain ⟨rfl, ⟨hsz, hP, hE, hD0⟩, hz1, hz2⟩ := hv
  subst hsz
  have hts : ∀ w ∈ (Cond.code y b n (some .double) :: aw), w.before as.toArray s = true := atoms_spec (ws := .code y b n (some .double) :: aw) B.pre
  have hr := B.returns
  have hlocks := B.notSynchronized
  have hl := lv_entry as (n := n) (Nat.le_of_ble_eq_true hlen)
  have C : CallFix p m c b n s as.toArray aw y.cls := ⟨B.exec, B.bytes, hml, findClass_of_methodNamed B.named, fun w hw => hts w (List.mem_cons_of_mem _ hw)⟩
  have hZ : eX l (va_A ws s.heap.size) s := ⟨hnt, hz1, hz2⟩
  rw [lg_entry_eq]
  exact body p e s m _ below meth c _ (va_A ws s.heap.size) C hE (fun q h => Or.inr h) hZ hP hD0.self va_S.rf ⟨fun H locs cells slots pc ls v hc hs hd h0 hw hP1 hS => W.widen hc hs (vx_ret (W.dret B.exec B.bytes hr (fun t ht _ => ⟨⟨v, (), rfl, ⟨h0, hw⟩, by show va_P D kC ws1 t.heap; rw [ht]; exact hP1⟩, hS.F ht⟩) hS.2.2 hd hlocks)), thOut_of (R := rm) htab hlocks (fun _ h => h), thThr_of (R := rm) C hE hZ htab hlocks (fun _ h => h)⟩ _ hl
end ROWSD
section ROWSF
variable {p : Program} {l : Launch} {e : Env} {R : Room} {s : State} {m : MethodId} {args : Array Value} {below : List Frame} {meth : Method} {c : Code} {H : Heap} {locs : List Loc} {cells slots : Nat} {Q : State → Prop} {pc : Nat} {ls : Array Slot} {rest st : List Value}
variable {D : va_G} {T : Nat → ClassId} {ws wc wc1 ws1 : va_W} {cc b : ByteArray} {nL n k idx mc ms ex : Nat} {own : String} {y : MethodName} {ty : FieldType} {ret : Option FieldType} {rm : Room} {as : List Value} {rd : UInt32} {A : Nat → Prop} {H0 : Heap}
def WrF (l : Launch) (y : MethodName) (b : ByteArray) (n : Nat)  (rm : Room) (D : va_G) (T : Nat → ClassId) (sz : Nat) (ws ws1 : va_W) (as : List Value) (rd : UInt32) : Prop :=
  Met l y (.code y b n (some .float) :: aw) rm (va_Pc as (WrP D T ws sz)) (va_Qf (fun x (_ : Unit) => x = rd) (fun _ t => va_P D kC ws1 t.heap) (va_A ws sz)) 0 0 (va_A ws sz)
theorem wrVf {a : Nat} (C : CallFix p m c cc nL s args aw own) (hE : eK D T s) (hP : va_P D kC ws H) (hD : va_D A ws) (hS : va_S A H0 H locs) (hA : ∀ q, H0.size ≤ q → A q) (hM : WrF l y b n rm D T H.size wc wc1 (.ref a :: as) rd) (hm : MV y b n (some .float) k) (hl : Cond.methodLink own idx y ∈ aw) (isC isR : List Nat) (q0 : Nat) {ci : Nat} {fs : List Value} {q : vw_C} (hn : va_nd isC = true) (hC : isC.map (fun i => ws[i]?) = wc.map some) (hC1 : isC.map (fun i => ws1[i]?) = wc1.map some) (hR1 : isR.map (fun i => ws1[i]?) = getW ws isR) (hcov : (List.range ws1.length).all (fun i => isC.contains i || isR.contains i) = true) (ha : ws1.map Prod.fst = fstW ws) (he : ws[q0]? = some (a, .inr (ci, fs))) (hc : kC[ci]? = some q) (hq : q.1 = y.cls)
    (hrm : rm.cells = 0 ∧ rm.slots = 0) (hR : rm.frames + 1 ≤ R.frames ∧ 8 + (n + 11) + rm.locals ≤ R.locals) (hk : as.length = k) (hsz : ls.size = nL) (hst : st = as.reverse ++ .ref a :: rest) (hW : (rest.map fun v => v.category).sum ≤ 8) (hd : decode cc pc = .ok (.invokevirtual idx, 3)) (hf : cells ≤ R.cells ∧ slots ≤ R.slots)
    (kk : ∀ (H1 : Heap) (locs1 : List Loc), va_P D kC ws1 H1 → va_D A ws1 → va_S A H0 H1 locs1 → W p l e R s m args below meth c H1 locs1 cells slots Q (F0 m (pc + 3) ls (.float rd :: rest))) : W p l e R s m args below meth c H locs cells slots Q (F0 m pc ls st) :=
  va_callf (va_runV C hM (cwV2 C.2.2.2.2 hl hm hrm.1 hrm.2 hR) ⟨WrP.blind, recvOf hE hP he hc hq, fun U hU hW => ⟨rfl, by rw [hU], by rw [hU]; exact subOf hP hC, hE.moved hW, subD hD hn hC⟩⟩ rfl hk hsz hst (lv_room hW) hd hf) hS (fun q _ h => freeOf hD hS hA hC q h) (freeOf hD hS hA hC)
    (fun x u t H1 locs1 ht hvm hw hB hz1 hk1 hS1 => by rw [hw]; exact kk H1 locs1 (put_P hP hD hk1 (by rw [← ht]; exact hB) hC hC1 (hR1.trans (getW_eq ws isR)) hcov) (addr_D hD (ha.trans (fstW_eq ws))) hS1)
def WrRetF (p : Program) (l : Launch) (e : Env) (R : Room) (s : State) (m : MethodId) (args : Array Value) (below : List Frame) (meth : Method) (c : Code) (Q : State → Prop) (cc : ByteArray) (D : va_G) (A : Nat → Prop) (ws1 : va_W) (rd : UInt32) : Prop :=
  ∀ (H : Heap) (locs : List Loc) (pc : Nat) (ls : Array Slot) (v : UInt32), decode cc pc = .ok (.freturn, 1) → v = rd → va_P D kC ws1 H → va_S A s.heap H locs → W p l e R s m args below meth c H locs 0 0 Q (F0 m pc ls [.float v])
theorem wrMetF {sz : Nat} (hy : plainName y.cls = true) (hlen : Nat.ble (lg_sl as).length n = true) (body : ∀ (p : Program) (e : Env) (s : State) (m : MethodId) (args : Array Value) (below : List Frame) (meth : Method) (c : Code) (Q : State → Prop) (A : Nat → Prop), CallFix p m c b n s args aw y.cls → eK D T s → (∀ q, s.heap.size ≤ q → A q) → va_P D kC ws s.heap → va_D A ws → va_S A s.heap s.heap [] → WrRetF p l e rm s m args below meth c Q b D A ws1 rd → ∀ ls : Array Slot, lv_has ls n (lv_args 0 as) → W p l e rm s m args below meth c s.heap [] 0 0 Q (F0 m 0 ls [])) : WrF l y b n rm D T sz ws ws1 as rd := by
  refine Met.ofW (cc := b) (maxL := n) (ret := some .float) hy rfl ?_
  intro p e s m args below meth c s₁ B hml hv
  obtain ⟨rfl, hsz, hP, hE, hD0⟩ := hv
  subst hsz
  have hts : ∀ w ∈ (Cond.code y b n (some .float) :: aw), w.before as.toArray s = true := atoms_spec (ws := .code y b n (some .float) :: aw) B.pre
  have hr := B.returns
  have hlocks := B.notSynchronized
  have hl := lv_entry as (n := n) (Nat.le_of_ble_eq_true hlen)
  rw [lg_entry_eq]
  exact body p e s m _ below meth c _ (va_A ws s.heap.size) ⟨B.exec, B.bytes, hml, findClass_of_methodNamed B.named, fun w hw => hts w (List.mem_cons_of_mem _ hw)⟩ hE (fun q h => Or.inr h) hP hD0.self va_S.rf (fun H locs pc ls v hd hw hP1 hS => W.fret B.exec B.bytes hr (fun t ht _ => ⟨⟨v, (), rfl, hw, by show va_P D kC ws1 t.heap; rw [ht]; exact hP1⟩, hS.F ht⟩) hS.2.2 hd hlocks) _ hl
def ThF (l : Launch) (y : MethodName) (b : ByteArray) (n : Nat)  (rm : Room) (D : va_G) (T : Nat → ClassId) (sz : Nat) (ws ws1 : va_W) (as : List Value) (ex : Nat) (rd : UInt32) : Prop :=
  vx_Met l y (.code y b n (some .float) :: aw) rm (va_Pc as (ThP D T ws sz)) (va_Qf (fun x (_ : Unit) => ex = 0 ∧ x = rd) (fun _ t => va_P D kC ws1 t.heap) (va_A ws sz)) (vx_X (fun _ : Unit => 0 < ex) (fun E _ t => E = exN ex ∧ va_P D kC ws1 t.heap) (va_A ws sz)) rm.cells rm.slots (va_A ws sz)
theorem thVf {a : Nat} (C : CallFix p m c cc nL s args aw own) (hE : eK D T s) (hZ : eX l A s) (hP : va_P D kC ws H) (hD : va_D A ws) (hS : va_S A s.heap H locs) (hA : ∀ q, s.heap.size ≤ q → A q) (hM : ThF l y b n rm D T H.size wc wc1 (.ref a :: as) ex rd) (hm : MV y b n (some .float) k) (hl : Cond.methodLink own idx y ∈ aw) (isC isR : List Nat) (q0 : Nat) {ci : Nat} {fs : List Value} {q : vw_C} (hn : va_nd isC = true) (hC : isC.map (fun i => ws[i]?) = wc.map some) (hC1 : isC.map (fun i => ws1[i]?) = wc1.map some) (hR1 : isR.map (fun i => ws1[i]?) = getW ws isR) (hcov : (List.range ws1.length).all (fun i => isC.contains i || isR.contains i) = true) (ha : ws1.map Prod.fst = fstW ws) (he : ws[q0]? = some (a, .inr (ci, fs))) (hc : kC[ci]? = some q) (hq : q.1 = y.cls)
    (hR : rm.frames + 1 ≤ R.frames ∧ 8 + (n + 11) + rm.locals ≤ R.locals) (hk : as.length = k) (hsz : ls.size = nL) (hst : st = as.reverse ++ .ref a :: rest) (hW : (rest.map fun v => v.category).sum ≤ 8) (hd : decode cc pc = .ok (.invokevirtual idx, 3)) (hf : cells + rm.cells ≤ R.cells ∧ slots + rm.slots ≤ R.slots)
    (kx : 0 < ex → ∀ (H1 : Heap) (locs1 : List Loc) (ce : Cell) (q9 : Addr), va_P D kC ws1 H1 → va_D A ws1 → va_S A s.heap H1 locs1 → H1[q9]? = some ce → ce.vm = .none → s.vm.findClass (exN ex) = some ce.cls → vx_W p l e R s m args below meth c H1 locs1 (cells + rm.cells) (slots + rm.slots) Q (F0 m pc ls rest) q9)
    (kk : ex = 0 → ∀ (H1 : Heap) (locs1 : List Loc), va_P D kC ws1 H1 → va_D A ws1 → va_S A s.heap H1 locs1 → W p l e R s m args below meth c H1 locs1 (cells + rm.cells) (slots + rm.slots) Q (F0 m (pc + 3) ls (.float rd :: rest))) : W p l e R s m args below meth c H locs cells slots Q (F0 m pc ls st) :=
  vx_callf (vx_runV C hM (cwV2 C.2.2.2.2 hl hm rfl rfl hR) ⟨ThP.blind, recvOf hE hP he hc hq, fun U hU hW => ⟨rfl, ⟨by rw [hU], by rw [hU]; exact subOf hP hC, hE.moved hW, subD hD hn hC⟩, zq_call hZ.2.1 hS hD hA hC hU hW, zq_call hZ.2.2.1 hS hD hA hC hU hW, eS_call hZ.2.2.2 hS hD hA hC hU hW⟩⟩ rfl hk hsz hst (lv_room hW) hd hf) hS (fun q _ h => freeOf hD hS hA hC q h) (freeOf hD hS hA hC) (fun q _ h => freeOf hD hS hA hC q h)
    (fun E ce q9 u t H1 locs1 ht hvm hp hB hz1 hk1 hS1 g1 g2 g3 => kx hp H1 locs1 ce q9 (put_P hP hD hk1 (by rw [← ht]; exact hB.2) hC hC1 (hR1.trans (getW_eq ws isR)) hcov) (addr_D hD (ha.trans (fstW_eq ws))) hS1 g1 g2 (by rw [← hB.1]; exact g3))
    (fun x u t H1 locs1 ht hvm hw hB hz1 hk1 hS1 => by rw [hw.2]; exact kk hw.1 H1 locs1 (put_P hP hD hk1 (by rw [← ht]; exact hB) hC hC1 (hR1.trans (getW_eq ws isR)) hcov) (addr_D hD (ha.trans (fstW_eq ws))) hS1)
def ThRetF (p : Program) (l : Launch) (e : Env) (R : Room) (s : State) (m : MethodId) (args : Array Value) (below : List Frame) (meth : Method) (c : Code) (Q : State → Prop) (cc : ByteArray) (D : va_G) (A : Nat → Prop) (ws1 : va_W) (ex : Nat) (rd : UInt32) : Prop :=
  ∀ (H : Heap) (locs : List Loc) (cells slots pc : Nat) (ls : Array Slot) (v : UInt32), cells ≤ R.cells → slots ≤ R.slots → decode cc pc = .ok (.freturn, 1) → ex = 0 → v = rd → va_P D kC ws1 H → va_S A s.heap H locs → W p l e R s m args below meth c H locs cells slots Q (F0 m pc ls [.float v])
theorem thMetF {sz : Nat} (hnt : l.stackTraces = false) (hy : plainName y.cls = true) (hlen : Nat.ble (lg_sl as).length n = true) (body : ∀ (p : Program) (e : Env) (s : State) (m : MethodId) (args : Array Value) (below : List Frame) (meth : Method) (c : Code) (Q : State → Prop) (A : Nat → Prop), CallFix p m c b n s args aw y.cls → eK D T s → (∀ q, s.heap.size ≤ q → A q) → eX l A s → va_P D kC ws s.heap → va_D A ws → va_S A s.heap s.heap [] → ThRetF p l e rm s m args below meth c Q b D A ws1 ex rd ∧ ThOut p l e rm s m args below meth c Q D A ws1 ex ∧ ThThr p l e rm s m args below meth c Q b y.cls D A ws1 ex → ∀ ls : Array Slot, lv_has ls n (lv_args 0 as) → W p l e rm s m args below meth c s.heap [] 0 0 Q (F0 m 0 ls [])) : ThF l y b n rm D T sz ws ws1 as ex rd := by
  refine vx_ofW (cc := b) (maxL := n) (ret := some .float) hy rfl ?_
  intro p e s m args below meth c s₁ B hml htab hv
  obtain ⟨rfl, ⟨hsz, hP, hE, hD0⟩, hz1, hz2⟩ := hv
  subst hsz
  have hts : ∀ w ∈ (Cond.code y b n (some .float) :: aw), w.before as.toArray s = true := atoms_spec (ws := .code y b n (some .float) :: aw) B.pre
  have hr := B.returns
  have hlocks := B.notSynchronized
  have hl := lv_entry as (n := n) (Nat.le_of_ble_eq_true hlen)
  have C : CallFix p m c b n s as.toArray aw y.cls := ⟨B.exec, B.bytes, hml, findClass_of_methodNamed B.named, fun w hw => hts w (List.mem_cons_of_mem _ hw)⟩
  have hZ : eX l (va_A ws s.heap.size) s := ⟨hnt, hz1, hz2⟩
  rw [lg_entry_eq]
  exact body p e s m _ below meth c _ (va_A ws s.heap.size) C hE (fun q h => Or.inr h) hZ hP hD0.self va_S.rf ⟨fun H locs cells slots pc ls v hc hs hd h0 hw hP1 hS => W.widen hc hs (vx_ret (W.fret B.exec B.bytes hr (fun t ht _ => ⟨⟨v, (), rfl, ⟨h0, hw⟩, by show va_P D kC ws1 t.heap; rw [ht]; exact hP1⟩, hS.F ht⟩) hS.2.2 hd hlocks)), thOut_of (R := rm) htab hlocks (fun _ h => h), thThr_of (R := rm) C hE hZ htab hlocks (fun _ h => h)⟩ _ hl
end ROWSF
def nn64 (x : UInt64) : Bool := decide (x &&& 0x7fffffffffffffff ≤ 0x7ff0000000000000)
def nn32 (x : UInt32) : Bool := decide (x &&& 0x7fffffff ≤ 0x7f800000)
theorem nn64_of {x : UInt64} (h : nn64 x = true) : vf_n64 x := of_decide_eq_true (p := x &&& 0x7fffffffffffffff ≤ 0x7ff0000000000000) h
theorem nn32_of {x : UInt32} (h : nn32 x = true) : vf_n32 x := of_decide_eq_true (p := x &&& 0x7fffffff ≤ 0x7f800000) h
/-- the six games of the history, by place -/
def hpF (a0 a1 a2 a3 a4 a5 : Nat) : Nat → Option Nat
  | 0 => some a0
  | 1 => some a1
  | 2 => some a2
  | 3 => some a3
  | 4 => some a4
  | 5 => some a5
  | _ => none
section ROWSR
variable {p : Program} {l : Launch} {e : Env} {R : Room} {s : State} {m : MethodId} {args : Array Value} {below : List Frame} {meth : Method} {c : Code} {H : Heap} {locs : List Loc} {cells slots : Nat} {Q : State → Prop} {pc : Nat} {ls : Array Slot} {rest st : List Value}
variable {D : va_G} {T : Nat → ClassId} {ws wc wc1 ws1 : va_W} {cc b : ByteArray} {nL n k idx mc ms ex : Nat} {own : String} {y : MethodName} {ty : FieldType} {ret : Option FieldType} {rm : Room} {as : List Value} {a : Nat} {A : Nat → Prop} {H0 : Heap}

/-- a reader that answers the cell a -/
def RdR (l : Launch) (y : MethodName) (b : ByteArray) (n : Nat) (ty : FieldType) (rm : Room) (D : va_G) (T : Nat → ClassId) (ws : va_W) (as : List Value) (a : Nat) : Prop :=
  Met l y (.code y b n (some ty) :: aw) rm (va_Pc as (RdP D T ws)) (va_Sr (fun x => x = a) (fun x => .ref x)) 0 0 (fun _ => False)
def RdRetR (p : Program) (l : Launch) (e : Env) (R : Room) (s : State) (m : MethodId) (args : Array Value) (below : List Frame) (meth : Method) (c : Code) (Q : State → Prop) (cc : ByteArray) (a : Nat) : Prop :=
  ∀ (pc : Nat) (ls : Array Slot) (x : Nat), decode cc pc = .ok (.areturn, 1) → x = a → W p l e R s m args below meth c s.heap [] 0 0 Q (F0 m pc ls [.ref x])
theorem rdMetR (hrt : (∃ n, ty = .object n) ∨ ∃ t, ty = .array t) (hy : plainName y.cls = true) (hlen : Nat.ble (lg_sl as).length n = true) (body : ∀ (p : Program) (e : Env) (s : State) (m : MethodId) (args : Array Value) (below : List Frame) (meth : Method) (c : Code) (Q : State → Prop), CallFix p m c b n s args aw y.cls → eK D T s → va_P D kC ws s.heap → RdRetR p l e rm s m args below meth c Q b a → ∀ ls : Array Slot, lv_has ls n (lv_args 0 as) → W p l e rm s m args below meth c s.heap [] 0 0 Q (F0 m 0 ls [])) : RdR l y b n ty rm D T ws as a := by
  refine Met.ofW (cc := b) (maxL := n) (ret := some ty) hy rfl ?_
  intro p e s m args below meth c s₁ B hml hv
  obtain ⟨rfl, hP, hE⟩ := hv
  have hts : ∀ w ∈ (Cond.code y b n (some ty) :: aw), w.before as.toArray s = true := atoms_spec (ws := .code y b n (some ty) :: aw) B.pre
  have hr := B.returns
  have hlocks := B.notSynchronized
  have hl := lv_entry as (n := n) (Nat.le_of_ble_eq_true hlen)
  rw [lg_entry_eq]
  exact body p e s m _ below meth c _ ⟨B.exec, B.bytes, hml, findClass_of_methodNamed B.named, fun w hw => hts w (List.mem_cons_of_mem _ hw)⟩ hE hP (fun pc ls x hd hw => W.aret B.exec B.bytes hr hrt (Or.inr ⟨x, rfl⟩) (fun t ht _ => ⟨x, rfl, hw, ht⟩) (fun _ h => nomatch h) hd) _ hl
theorem rdVr {a0 : Nat} (C : CallFix p m c cc nL s args aw own) (hE : eK D T s) (hP : va_P D kC ws H) (hM : RdR l y b n ty rm D T wc (.ref a0 :: as) a) (hm : MV y b n (some ty) k) (hl : Cond.methodLink own idx y ∈ aw) (is : List Nat) (q0 : Nat) {ci : Nat} {fs : List Value} {q : vw_C} (hC : is.map (fun i => ws[i]?) = wc.map some) (he : ws[q0]? = some (a0, .inr (ci, fs))) (hc : kC[ci]? = some q) (hq : q.1 = y.cls)
    (hrm : rm.cells = 0 ∧ rm.slots = 0) (hR : rm.frames + 1 ≤ R.frames ∧ 8 + (n + 11) + rm.locals ≤ R.locals) (hk : as.length = k) (hsz : ls.size = nL) (hst : st = as.reverse ++ .ref a0 :: rest) (hW : (rest.map fun v => v.category).sum ≤ 8) (hd : decode cc pc = .ok (.invokevirtual idx, 3)) (hf : cells ≤ R.cells ∧ slots ≤ R.slots)
    (kk : W p l e R s m args below meth c H locs cells slots Q (F0 m (pc + 3) ls (.ref a :: rest))) : W p l e R s m args below meth c H locs cells slots Q (F0 m pc ls st) :=
  va_csr (W.runV C hM (cwV2 C.2.2.2.2 hl hm hrm.1 hrm.2 hR) ⟨RdP.blind, recvOf hE hP he hc hq, fun U hU hW => ⟨rfl, by rw [hU]; exact subOf hP hC, hE.moved hW⟩⟩ rfl hk hsz hst (lv_room hW) hd hf) (fun _ e => by rw [e]; exact kk)
theorem aldQ {a0 q0 N : Nat} {f : Nat → Option Nat} {i : Int32} (C : CallFix p m c cc nL s args aw own) (hE : eK D T s) (hP : va_P D kC ws H) (ha : ws[q0]? = some (a0, .inl (T 3, N, .inr (.inr (.inr (.inr f)))))) (hin : vin i N = true) (hv : f i.toNatClampNeg = some a) (hd : decode cc pc = .ok (.aaload, 1))
    (kk : W p l e R s m args below meth c H locs cells slots Q (F0 m (pc + 1) ls (.ref a :: rest))) : W p l e R s m args below meth c H locs cells slots Q (F0 m pc ls (.int i :: .ref a0 :: rest)) := by
  refine va_aldq C.1 C.2.1 hE.1 hP q0 3 ha rfl (vin_in hin) hd ?_
  rw [hv]
  exact kk
end ROWSR
set_option maxHeartbeats 4000000 in
set_option maxRecDepth 100000 in
theorem kX2_slotOf_0 (l : Launch) (D : va_G) (T : Nat → ClassId) (a_h a_hp a_h0 a_h1 a_h2 a_h3 a_h4 a_h5 : Nat) (h_old h_siz p0 : Int32) (h : (h_old + p0) - (h_old + p0) / 6 * 6 = 0) : RdR l yX2_slotOf cX2_slotOf 3 (.object RX1) ({ frames := 0, cells := 0, slots := 0, locals := 0 } : Room) D T [(a_h, .inr (2, [.ref a_hp, .int h_old, .int h_siz])), (a_hp, .inl (T 3, 6, .inr (.inr (.inr (.inr (hpF a_h0 a_h1 a_h2 a_h3 a_h4 a_h5))))))] [.ref a_h, .int p0] a_h0 := by
  refine rdMetR (Or.inl ⟨_, rfl⟩) (by decide +kernel) rfl (fun p e s m args below meth c Q C hE hP hret ls hl => ?_)
  have hx := C.1
  have hb := C.2.1
  have hl : lv_has ls 3 [(0, .ref a_h), (1, .int p0)] := hl
  refine lv_aload_n hx hb dX2_slotOf_0 rfl (lv_at hl 0 rfl) ?_
  refine getF (q0 := 0) (k0 := 1) (v := .int h_old) C hE hP inA2 rfl rfl (by decide) qFX2_17 rfl rfl dX2_slotOf_1 ?_
  refine lv_iload_n hx hb dX2_slotOf_4 rfl (lv_at hl 1 rfl) ?_
  refine lv_iadd hx hb dX2_slotOf_5 ?_
  refine lv_bipush (v := 6) hx hb dX2_slotOf_6 (by decide) ?_
  refine lv_irem hx hb dX2_slotOf_8 (by decide) ?_
  rw [h]
  refine lv_istore_n (lv' := [(2, .int 0), (0, .ref a_h), (1, .int p0)]) hx hb dX2_slotOf_9 rfl hl (by decide) rfl (fun ls hl => ?_)
  refine lv_iload_n hx hb dX2_slotOf_10 rfl (lv_at hl 0 rfl) ?_
  refine lv_if_lt (tgt := 32) hx hb dX2_slotOf_11 (by decide) (fun c1 => absurd c1 (by decide)) (fun c1 => ?_)
  refine lv_iload_n hx hb dX2_slotOf_14 rfl (lv_at hl 0 rfl) ?_
  refine lv_aload_n hx hb dX2_slotOf_15 rfl (lv_at hl 1 rfl) ?_
  refine getF (q0 := 0) (k0 := 0) (v := .ref a_hp) C hE hP inA2 rfl rfl (by decide) qFX2_11 rfl rfl dX2_slotOf_16 ?_
  refine alen (q0 := 1) (t0 := 3) (v := 6) C hE hP rfl rfl (by decide) dX2_slotOf_19 ?_
  refine lv_icmp_ge (tgt := 32) hx hb dX2_slotOf_20 (by decide) (fun c1 => absurd c1 (by decide)) (fun c1 => ?_)
  refine lv_aload_n hx hb dX2_slotOf_23 rfl (lv_at hl 1 rfl) ?_
  refine getF (q0 := 0) (k0 := 0) (v := .ref a_hp) C hE hP inA2 rfl rfl (by decide) qFX2_11 rfl rfl dX2_slotOf_24 ?_
  refine lv_iload_n hx hb dX2_slotOf_27 rfl (lv_at hl 0 rfl) ?_
  refine aldQ (q0 := 1) C hE hP rfl (by decide) rfl dX2_slotOf_28 ?_
  refine lv_goto (tgt := 33) hx hb dX2_slotOf_29 (by decide) ?_
  exact hret _ _ _ dX2_slotOf_33 rfl
set_option maxHeartbeats 4000000 in
set_option maxRecDepth 100000 in
theorem kX2_slotOf_1 (l : Launch) (D : va_G) (T : Nat → ClassId) (a_h a_hp a_h0 a_h1 a_h2 a_h3 a_h4 a_h5 : Nat) (h_old h_siz p0 : Int32) (h : (h_old + p0) - (h_old + p0) / 6 * 6 = 1) : RdR l yX2_slotOf cX2_slotOf 3 (.object RX1) ({ frames := 0, cells := 0, slots := 0, locals := 0 } : Room) D T [(a_h, .inr (2, [.ref a_hp, .int h_old, .int h_siz])), (a_hp, .inl (T 3, 6, .inr (.inr (.inr (.inr (hpF a_h0 a_h1 a_h2 a_h3 a_h4 a_h5))))))] [.ref a_h, .int p0] a_h1 := by
  refine rdMetR (Or.inl ⟨_, rfl⟩) (by decide +kernel) rfl (fun p e s m args below meth c Q C hE hP hret ls hl => ?_)
  have hx := C.1
  have hb := C.2.1
  have hl : lv_has ls 3 [(0, .ref a_h), (1, .int p0)] := hl
  refine lv_aload_n hx hb dX2_slotOf_0 rfl (lv_at hl 0 rfl) ?_
  refine getF (q0 := 0) (k0 := 1) (v := .int h_old) C hE hP inA2 rfl rfl (by decide) qFX2_17 rfl rfl dX2_slotOf_1 ?_
  refine lv_iload_n hx hb dX2_slotOf_4 rfl (lv_at hl 1 rfl) ?_
  refine lv_iadd hx hb dX2_slotOf_5 ?_
  refine lv_bipush (v := 6) hx hb dX2_slotOf_6 (by decide) ?_
  refine lv_irem hx hb dX2_slotOf_8 (by decide) ?_
  rw [h]
  refine lv_istore_n (lv' := [(2, .int 1), (0, .ref a_h), (1, .int p0)]) hx hb dX2_slotOf_9 rfl hl (by decide) rfl (fun ls hl => ?_)
  refine lv_iload_n hx hb dX2_slotOf_10 rfl (lv_at hl 0 rfl) ?_
  refine lv_if_lt (tgt := 32) hx hb dX2_slotOf_11 (by decide) (fun c1 => absurd c1 (by decide)) (fun c1 => ?_)
  refine lv_iload_n hx hb dX2_slotOf_14 rfl (lv_at hl 0 rfl) ?_
  refine lv_aload_n hx hb dX2_slotOf_15 rfl (lv_at hl 1 rfl) ?_
  refine getF (q0 := 0) (k0 := 0) (v := .ref a_hp) C hE hP inA2 rfl rfl (by decide) qFX2_11 rfl rfl dX2_slotOf_16 ?_
  refine alen (q0 := 1) (t0 := 3) (v := 6) C hE hP rfl rfl (by decide) dX2_slotOf_19 ?_
  refine lv_icmp_ge (tgt := 32) hx hb dX2_slotOf_20 (by decide) (fun c1 => absurd c1 (by decide)) (fun c1 => ?_)
  refine lv_aload_n hx hb dX2_slotOf_23 rfl (lv_at hl 1 rfl) ?_
  refine getF (q0 := 0) (k0 := 0) (v := .ref a_hp) C hE hP inA2 rfl rfl (by decide) qFX2_11 rfl rfl dX2_slotOf_24 ?_
  refine lv_iload_n hx hb dX2_slotOf_27 rfl (lv_at hl 0 rfl) ?_
  refine aldQ (q0 := 1) C hE hP rfl (by decide) rfl dX2_slotOf_28 ?_
  refine lv_goto (tgt := 33) hx hb dX2_slotOf_29 (by decide) ?_
  exact hret _ _ _ dX2_slotOf_33 rfl
set_option maxHeartbeats 4000000 in
set_option maxRecDepth 100000 in
theorem kX2_slotOf_2 (l : Launch) (D : va_G) (T : Nat → ClassId) (a_h a_hp a_h0 a_h1 a_h2 a_h3 a_h4 a_h5 : Nat) (h_old h_siz p0 : Int32) (h : (h_old + p0) - (h_old + p0) / 6 * 6 = 2) : RdR l yX2_slotOf cX2_slotOf 3 (.object RX1) ({ frames := 0, cells := 0, slots := 0, locals := 0 } : Room) D T [(a_h, .inr (2, [.ref a_hp, .int h_old, .int h_siz])), (a_hp, .inl (T 3, 6, .inr (.inr (.inr (.inr (hpF a_h0 a_h1 a_h2 a_h3 a_h4 a_h5))))))] [.ref a_h, .int p0] a_h2 := by
  refine rdMetR (Or.inl ⟨_, rfl⟩) (by decide +kernel) rfl (fun p e s m args below meth c Q C hE hP hret ls hl => ?_)
  have hx := C.1
  have hb := C.2.1
  have hl : lv_has ls 3 [(0, .ref a_h), (1, .int p0)] := hl
  refine lv_aload_n hx hb dX2_slotOf_0 rfl (lv_at hl 0 rfl) ?_
  refine getF (q0 := 0) (k0 := 1) (v := .int h_old) C hE hP inA2 rfl rfl (by decide) qFX2_17 rfl rfl dX2_slotOf_1 ?_
  refine lv_iload_n hx hb dX2_slotOf_4 rfl (lv_at hl 1 rfl) ?_
  refine lv_iadd hx hb dX2_slotOf_5 ?_
  refine lv_bipush (v := 6) hx hb dX2_slotOf_6 (by decide) ?_
  refine lv_irem hx hb dX2_slotOf_8 (by decide) ?_
  rw [h]
  refine lv_istore_n (lv' := [(2, .int 2), (0, .ref a_h), (1, .int p0)]) hx hb dX2_slotOf_9 rfl hl (by decide) rfl (fun ls hl => ?_)
  refine lv_iload_n hx hb dX2_slotOf_10 rfl (lv_at hl 0 rfl) ?_
  refine lv_if_lt (tgt := 32) hx hb dX2_slotOf_11 (by decide) (fun c1 => absurd c1 (by decide)) (fun c1 => ?_)
  refine lv_iload_n hx hb dX2_slotOf_14 rfl (lv_at hl 0 rfl) ?_
  refine lv_aload_n hx hb dX2_slotOf_15 rfl (lv_at hl 1 rfl) ?_
  refine getF (q0 := 0) (k0 := 0) (v := .ref a_hp) C hE hP inA2 rfl rfl (by decide) qFX2_11 rfl rfl dX2_slotOf_16 ?_
  refine alen (q0 := 1) (t0 := 3) (v := 6) C hE hP rfl rfl (by decide) dX2_slotOf_19 ?_
  refine lv_icmp_ge (tgt := 32) hx hb dX2_slotOf_20 (by decide) (fun c1 => absurd c1 (by decide)) (fun c1 => ?_)
  refine lv_aload_n hx hb dX2_slotOf_23 rfl (lv_at hl 1 rfl) ?_
  refine getF (q0 := 0) (k0 := 0) (v := .ref a_hp) C hE hP inA2 rfl rfl (by decide) qFX2_11 rfl rfl dX2_slotOf_24 ?_
  refine lv_iload_n hx hb dX2_slotOf_27 rfl (lv_at hl 0 rfl) ?_
  refine aldQ (q0 := 1) C hE hP rfl (by decide) rfl dX2_slotOf_28 ?_
  refine lv_goto (tgt := 33) hx hb dX2_slotOf_29 (by decide) ?_
  exact hret _ _ _ dX2_slotOf_33 rfl
set_option maxHeartbeats 4000000 in
set_option maxRecDepth 100000 in
theorem kX2_slotOf_3 (l : Launch) (D : va_G) (T : Nat → ClassId) (a_h a_hp a_h0 a_h1 a_h2 a_h3 a_h4 a_h5 : Nat) (h_old h_siz p0 : Int32) (h : (h_old + p0) - (h_old + p0) / 6 * 6 = 3) : RdR l yX2_slotOf cX2_slotOf 3 (.object RX1) ({ frames := 0, cells := 0, slots := 0, locals := 0 } : Room) D T [(a_h, .inr (2, [.ref a_hp, .int h_old, .int h_siz])), (a_hp, .inl (T 3, 6, .inr (.inr (.inr (.inr (hpF a_h0 a_h1 a_h2 a_h3 a_h4 a_h5))))))] [.ref a_h, .int p0] a_h3 := by
  refine rdMetR (Or.inl ⟨_, rfl⟩) (by decide +kernel) rfl (fun p e s m args below meth c Q C hE hP hret ls hl => ?_)
  have hx := C.1
  have hb := C.2.1
  have hl : lv_has ls 3 [(0, .ref a_h), (1, .int p0)] := hl
  refine lv_aload_n hx hb dX2_slotOf_0 rfl (lv_at hl 0 rfl) ?_
  refine getF (q0 := 0) (k0 := 1) (v := .int h_old) C hE hP inA2 rfl rfl (by decide) qFX2_17 rfl rfl dX2_slotOf_1 ?_
  refine lv_iload_n hx hb dX2_slotOf_4 rfl (lv_at hl 1 rfl) ?_
  refine lv_iadd hx hb dX2_slotOf_5 ?_
  refine lv_bipush (v := 6) hx hb dX2_slotOf_6 (by decide) ?_
  refine lv_irem hx hb dX2_slotOf_8 (by decide) ?_
  rw [h]
  refine lv_istore_n (lv' := [(2, .int 3), (0, .ref a_h), (1, .int p0)]) hx hb dX2_slotOf_9 rfl hl (by decide) rfl (fun ls hl => ?_)
  refine lv_iload_n hx hb dX2_slotOf_10 rfl (lv_at hl 0 rfl) ?_
  refine lv_if_lt (tgt := 32) hx hb dX2_slotOf_11 (by decide) (fun c1 => absurd c1 (by decide)) (fun c1 => ?_)
  refine lv_iload_n hx hb dX2_slotOf_14 rfl (lv_at hl 0 rfl) ?_
  refine lv_aload_n hx hb dX2_slotOf_15 rfl (lv_at hl 1 rfl) ?_
  refine getF (q0 := 0) (k0 := 0) (v := .ref a_hp) C hE hP inA2 rfl rfl (by decide) qFX2_11 rfl rfl dX2_slotOf_16 ?_
  refine alen (q0 := 1) (t0 := 3) (v := 6) C hE hP rfl rfl (by decide) dX2_slotOf_19 ?_
  refine lv_icmp_ge (tgt := 32) hx hb dX2_slotOf_20 (by decide) (fun c1 => absurd c1 (by decide)) (fun c1 => ?_)
  refine lv_aload_n hx hb dX2_slotOf_23 rfl (lv_at hl 1 rfl) ?_
  refine getF (q0 := 0) (k0 := 0) (v := .ref a_hp) C hE hP inA2 rfl rfl (by decide) qFX2_11 rfl rfl dX2_slotOf_24 ?_
  refine lv_iload_n hx hb dX2_slotOf_27 rfl (lv_at hl 0 rfl) ?_
  refine aldQ (q0 := 1) C hE hP rfl (by decide) rfl dX2_slotOf_28 ?_
  refine lv_goto (tgt := 33) hx hb dX2_slotOf_29 (by decide) ?_
  exact hret _ _ _ dX2_slotOf_33 rfl
set_option maxHeartbeats 4000000 in
set_option maxRecDepth 100000 in
theorem kX2_slotOf_4 (l : Launch) (D : va_G) (T : Nat → ClassId) (a_h a_hp a_h0 a_h1 a_h2 a_h3 a_h4 a_h5 : Nat) (h_old h_siz p0 : Int32) (h : (h_old + p0) - (h_old + p0) / 6 * 6 = 4) : RdR l yX2_slotOf cX2_slotOf 3 (.object RX1) ({ frames := 0, cells := 0, slots := 0, locals := 0 } : Room) D T [(a_h, .inr (2, [.ref a_hp, .int h_old, .int h_siz])), (a_hp, .inl (T 3, 6, .inr (.inr (.inr (.inr (hpF a_h0 a_h1 a_h2 a_h3 a_h4 a_h5))))))] [.ref a_h, .int p0] a_h4 := by
  refine rdMetR (Or.inl ⟨_, rfl⟩) (by decide +kernel) rfl (fun p e s m args below meth c Q C hE hP hret ls hl => ?_)
  have hx := C.1
  have hb := C.2.1
  have hl : lv_has ls 3 [(0, .ref a_h), (1, .int p0)] := hl
  refine lv_aload_n hx hb dX2_slotOf_0 rfl (lv_at hl 0 rfl) ?_
  refine getF (q0 := 0) (k0 := 1) (v := .int h_old) C hE hP inA2 rfl rfl (by decide) qFX2_17 rfl rfl dX2_slotOf_1 ?_
  refine lv_iload_n hx hb dX2_slotOf_4 rfl (lv_at hl 1 rfl) ?_
  refine lv_iadd hx hb dX2_slotOf_5 ?_
  refine lv_bipush (v := 6) hx hb dX2_slotOf_6 (by decide) ?_
  refine lv_irem hx hb dX2_slotOf_8 (by decide) ?_
  rw [h]
  refine lv_istore_n (lv' := [(2, .int 4), (0, .ref a_h), (1, .int p0)]) hx hb dX2_slotOf_9 rfl hl (by decide) rfl (fun ls hl => ?_)
  refine lv_iload_n hx hb dX2_slotOf_10 rfl (lv_at hl 0 rfl) ?_
  refine lv_if_lt (tgt := 32) hx hb dX2_slotOf_11 (by decide) (fun c1 => absurd c1 (by decide)) (fun c1 => ?_)
  refine lv_iload_n hx hb dX2_slotOf_14 rfl (lv_at hl 0 rfl) ?_
  refine lv_aload_n hx hb dX2_slotOf_15 rfl (lv_at hl 1 rfl) ?_
  refine getF (q0 := 0) (k0 := 0) (v := .ref a_hp) C hE hP inA2 rfl rfl (by decide) qFX2_11 rfl rfl dX2_slotOf_16 ?_
  refine alen (q0 := 1) (t0 := 3) (v := 6) C hE hP rfl rfl (by decide) dX2_slotOf_19 ?_
  refine lv_icmp_ge (tgt := 32) hx hb dX2_slotOf_20 (by decide) (fun c1 => absurd c1 (by decide)) (fun c1 => ?_)
  refine lv_aload_n hx hb dX2_slotOf_23 rfl (lv_at hl 1 rfl) ?_
  refine getF (q0 := 0) (k0 := 0) (v := .ref a_hp) C hE hP inA2 rfl rfl (by decide) qFX2_11 rfl rfl dX2_slotOf_24 ?_
  refine lv_iload_n hx hb dX2_slotOf_27 rfl (lv_at hl 0 rfl) ?_
  refine aldQ (q0 := 1) C hE hP rfl (by decide) rfl dX2_slotOf_28 ?_
  refine lv_goto (tgt := 33) hx hb dX2_slotOf_29 (by decide) ?_
  exact hret _ _ _ dX2_slotOf_33 rfl
set_option maxHeartbeats 4000000 in
set_option maxRecDepth 100000 in
theorem kX2_slotOf_5 (l : Launch) (D : va_G) (T : Nat → ClassId) (a_h a_hp a_h0 a_h1 a_h2 a_h3 a_h4 a_h5 : Nat) (h_old h_siz p0 : Int32) (h : (h_old + p0) - (h_old + p0) / 6 * 6 = 5) : RdR l yX2_slotOf cX2_slotOf 3 (.object RX1) ({ frames := 0, cells := 0, slots := 0, locals := 0 } : Room) D T [(a_h, .inr (2, [.ref a_hp, .int h_old, .int h_siz])), (a_hp, .inl (T 3, 6, .inr (.inr (.inr (.inr (hpF a_h0 a_h1 a_h2 a_h3 a_h4 a_h5))))))] [.ref a_h, .int p0] a_h5 := by
  refine rdMetR (Or.inl ⟨_, rfl⟩) (by decide +kernel) rfl (fun p e s m args below meth c Q C hE hP hret ls hl => ?_)
  have hx := C.1
  have hb := C.2.1
  have hl : lv_has ls 3 [(0, .ref a_h), (1, .int p0)] := hl
  refine lv_aload_n hx hb dX2_slotOf_0 rfl (lv_at hl 0 rfl) ?_
  refine getF (q0 := 0) (k0 := 1) (v := .int h_old) C hE hP inA2 rfl rfl (by decide) qFX2_17 rfl rfl dX2_slotOf_1 ?_
  refine lv_iload_n hx hb dX2_slotOf_4 rfl (lv_at hl 1 rfl) ?_
  refine lv_iadd hx hb dX2_slotOf_5 ?_
  refine lv_bipush (v := 6) hx hb dX2_slotOf_6 (by decide) ?_
  refine lv_irem hx hb dX2_slotOf_8 (by decide) ?_
  rw [h]
  refine lv_istore_n (lv' := [(2, .int 5), (0, .ref a_h), (1, .int p0)]) hx hb dX2_slotOf_9 rfl hl (by decide) rfl (fun ls hl => ?_)
  refine lv_iload_n hx hb dX2_slotOf_10 rfl (lv_at hl 0 rfl) ?_
  refine lv_if_lt (tgt := 32) hx hb dX2_slotOf_11 (by decide) (fun c1 => absurd c1 (by decide)) (fun c1 => ?_)
  refine lv_iload_n hx hb dX2_slotOf_14 rfl (lv_at hl 0 rfl) ?_
  refine lv_aload_n hx hb dX2_slotOf_15 rfl (lv_at hl 1 rfl) ?_
  refine getF (q0 := 0) (k0 := 0) (v := .ref a_hp) C hE hP inA2 rfl rfl (by decide) qFX2_11 rfl rfl dX2_slotOf_16 ?_
  refine alen (q0 := 1) (t0 := 3) (v := 6) C hE hP rfl rfl (by decide) dX2_slotOf_19 ?_
  refine lv_icmp_ge (tgt := 32) hx hb dX2_slotOf_20 (by decide) (fun c1 => absurd c1 (by decide)) (fun c1 => ?_)
  refine lv_aload_n hx hb dX2_slotOf_23 rfl (lv_at hl 1 rfl) ?_
  refine getF (q0 := 0) (k0 := 0) (v := .ref a_hp) C hE hP inA2 rfl rfl (by decide) qFX2_11 rfl rfl dX2_slotOf_24 ?_
  refine lv_iload_n hx hb dX2_slotOf_27 rfl (lv_at hl 0 rfl) ?_
  refine aldQ (q0 := 1) C hE hP rfl (by decide) rfl dX2_slotOf_28 ?_
  refine lv_goto (tgt := 33) hx hb dX2_slotOf_29 (by decide) ?_
  exact hret _ _ _ dX2_slotOf_33 rfl
