/-! the law's own methods: rows -/
theorem Met.ofWH {l : Launch} {y : MethodName} {ws ws' : List Cond} {rm : Room} {Pc : Array Value → State → Prop} {Qc : Array Value → State → Outcome → State → Prop} {mc ms : Nat} {free : Addr → Prop} {cc : ByteArray} {maxL : Nat} {ret : Option FieldType} {hh : List (Nat × Nat × Nat × Nat)}
    (hy : plainName y.cls = true) (hw : ws = Cond.codeWith y cc maxL ret hh :: ws')
    (body : ∀ p e s m args below meth c s₁, BodyLoose p l y (headSpec ws rm) cc maxL ret e s m args below meth c s₁ → c.maxLocals = maxL → Pc args s →
      W p l e (headSpec ws rm).room s m args below meth c s.heap [] 0 0 (MQ below Qc args s mc ms free) (entryFrame m args maxL)) : Met l y ws rm Pc Qc mc ms free := by
  refine MetFree.of_bodyS (code := cc) (maxLocals := maxL) (ret := ret) hy ?_ ?_
  · intro args s m h hn
    obtain ⟨m9, meth, c, hn9, h1, h2, h3, h4, -, h5, h6, -⟩ := Cond.codeWith_spec (atoms_spec (ws := ws) h _ (by rw [hw]; exact List.mem_cons_self))
    cases hn.symm.trans hn9
    exact ⟨meth, c, h1, h2, h3, h4, h5, h6⟩
  · intro p e s m args below meth c s₁ B hml hP _
    have hh0 : s₁.heap = s.heap := by rw [B.state]; rfl
    obtain ⟨t, a1, o, b1, b2, b3⟩ := body p e s m args below meth c s₁ B hml hP s₁ hh0 (Stand.of_body B)
    exact ⟨t, o, a1, b1, b2, ⟨b3.1, b3.2⟩⟩
def LwI (l : Launch) (y : MethodName) (b : ByteArray) (n : Nat) (hh : List (Nat × Nat × Nat × Nat)) (rm : Room) (D : va_G) (T : Nat → ClassId) (sz : Nat) (ws ws1 : va_W) (as : List Value) (r : Int32) : Prop :=
  Met l y (.codeWith y b n (some .int) hh :: aw) rm (va_Pc as (ThP D T ws sz)) (va_Qi (fun x (_ : Unit) => x = r) (fun _ t => va_P D kC ws1 t.heap) (va_A ws sz)) rm.cells rm.slots (va_A ws sz)
def lcF (ex : Nat) : List Nat → Nat → Int32
  | [], _ => 0
  | x :: l, k => if ex = x then Int32.ofNat k else lcF ex l (k + 1)
/-- what a wrapper answers of an exception: its place in the list, from 1 on; 0 of none -/
def lcode (l : List Nat) (ex : Nat) : Int32 := lcF ex l 1
def lout (f : Nat → Int64) (ex : Nat) (r : Int32) : Nat → Int64 := if ex = 0 then vp_updL f 0 r.toInt64 else f
def loutZ (f : Nat → Int64) (ex : Nat) (r : Int32) : Nat → Int64 := if ex = 0 then vp_updL f 0 (if r = 0 then 0 else 1) else f
def loutD (f : Nat → UInt64) (ex : Nat) (r : UInt64) : Nat → UInt64 := if ex = 0 then vf_upd f 0 r else f
section LAWR
variable {p : Program} {l : Launch} {e : Env} {R : Room} {s : State} {m : MethodId} {args : Array Value} {below : List Frame} {meth : Method} {c : Code} {H : Heap} {locs : List Loc} {cells slots : Nat} {Q : State → Prop} {pc : Nat} {ls : Array Slot} {rest st : List Value}
variable {D : va_G} {T : Nat → ClassId} {ws wc wc1 ws1 : va_W} {cc b : ByteArray} {nL n k idx mc ms : Nat} {own : String} {y : MethodName} {ty : FieldType} {ret : Option FieldType} {rm : Room} {as : List Value} {r : Int32} {A : Nat → Prop} {H0 : Heap} {hh : List (Nat × Nat × Nat × Nat)} {ex : Nat}
def LwRet (p : Program) (l : Launch) (e : Env) (R : Room) (s : State) (m : MethodId) (args : Array Value) (below : List Frame) (meth : Method) (c : Code) (Q : State → Prop) (cc : ByteArray) (D : va_G) (A : Nat → Prop) (ws1 : va_W) (r : Int32) : Prop :=
  ∀ (H : Heap) (locs : List Loc) (cells slots pc : Nat) (ls : Array Slot) (v : Int32), cells ≤ R.cells → slots ≤ R.slots → decode cc pc = .ok (.ireturn, 1) → v = r → va_P D kC ws1 H → va_S A s.heap H locs → W p l e R s m args below meth c H locs cells slots Q (F0 m pc ls [.int v])
theorem lwMet {sz : Nat} (hnt : l.stackTraces = false) (hy : plainName y.cls = true) (hw : Cond.codeWith y b n (some .int) hh ∈ aw) (hlen : Nat.ble (lg_sl as).length n = true) (body : ∀ (p : Program) (e : Env) (s : State) (m : MethodId) (args : Array Value) (below : List Frame) (meth : Method) (c : Code) (Q : State → Prop) (A : Nat → Prop), CallFix p m c b n s args aw y.cls → c.exceptionTable.toList = tableOf hh → eK D T s → (∀ q, s.heap.size ≤ q → A q) → eX l A s → va_P D kC ws s.heap → va_D A ws → va_S A s.heap s.heap [] → LwRet p l e rm s m args below meth c Q b D A ws1 r → ∀ ls : Array Slot, lv_has ls n (lv_args 0 as) → W p l e rm s m args below meth c s.heap [] 0 0 Q (F0 m 0 ls [])) : LwI l y b n hh rm D T sz ws ws1 as r := by
  refine Met.ofWH (cc := b) (maxL := n) (ret := some .int) (hh := hh) hy rfl ?_
  intro p e s m args below meth c s₁ B hml hv
  obtain ⟨rfl, ⟨hsz, hP, hE, hD0⟩, hz1, hz2⟩ := hv
  subst hsz
  have hts : ∀ w ∈ (Cond.codeWith y b n (some .int) hh :: aw), w.before as.toArray s = true := atoms_spec (ws := .codeWith y b n (some .int) hh :: aw) B.pre
  have hr := B.returns
  have hlocks := B.notSynchronized
  have hl := lv_entry as (n := n) (Nat.le_of_ble_eq_true hlen)
  rw [lg_entry_eq]
  exact body p e s m _ below meth c _ (va_A ws s.heap.size) ⟨B.exec, B.bytes, hml, findClass_of_methodNamed B.named, fun w hw => hts w (List.mem_cons_of_mem _ hw)⟩ (vx_table (x := y) B (hts _ (List.mem_cons_self ..))) hE (fun q h => Or.inr h) ⟨hnt, hz1, hz2⟩ hP hD0.self va_S.rf (fun H locs cells slots pc ls v hc hs hd hw hP1 hS => W.widen hc hs (W.iret B.exec B.bytes hr (fun t ht _ => ⟨⟨v, (), rfl, hw, by show va_P D kC ws1 t.heap; rw [ht]; exact hP1⟩, hS.F ht⟩) hS.2.2 hd hlocks)) _ hl
theorem lwS (C : CallFix p m c cc nL s args aw own) (hE : eK D T s) (hZ : eX l A s) (hP : va_P D kC ws H) (hD : va_D A ws) (hS : va_S A s.heap H locs) (hA : ∀ q, s.heap.size ≤ q → A q) (hM : LwI l y b n hh rm D T H.size wc wc1 as r) (hm : MLw y b n hh k) (hl : Cond.methodLink own idx y ∈ aw) (isC isR : List Nat) (hn : va_nd isC = true) (hC : isC.map (fun i => ws[i]?) = wc.map some) (hC1 : isC.map (fun i => ws1[i]?) = wc1.map some) (hR1 : isR.map (fun i => ws1[i]?) = getW ws isR) (hcov : (List.range ws1.length).all (fun i => isC.contains i || isR.contains i) = true) (ha : ws1.map Prod.fst = fstW ws)
    (hR : rm.frames + 1 ≤ R.frames ∧ 8 + (n + 11) + rm.locals ≤ R.locals) (hk : as.length = k) (hsz : ls.size = nL) (hst : st = as.reverse ++ rest) (hW : (rest.map fun v => v.category).sum ≤ 8) (hd : decode cc pc = .ok (.invokestatic idx, 3)) (hf : cells + rm.cells ≤ R.cells ∧ slots + rm.slots ≤ R.slots)
    (kk : ∀ (H1 : Heap) (locs1 : List Loc), va_P D kC ws1 H1 → va_D A ws1 → va_S A s.heap H1 locs1 → W p l e R s m args below meth c H1 locs1 (cells + rm.cells) (slots + rm.slots) Q (F0 m (pc + 3) ls (.int r :: rest))) : W p l e R s m args below meth c H locs cells slots Q (F0 m pc ls st) :=
  va_calli (vx_runSW C hM (vx_cwSW k C.2.2.2.2 (aw_goodIn (fun w hw => by
      rcases List.mem_append.mp hw with h | h
      · simp only [List.mem_cons, List.not_mem_nil, or_false] at h
        rcases h with rfl | rfl | rfl
        · exact hl
        · exact hm.2.2.2.2
        · exact hm.1
      · rcases List.mem_cons.mp h with rfl | h
        · exact hm.2.1
        · exact h)) rfl rfl rfl ⟨hm.2.2.1.1, hm.2.2.1.2, hm.2.2.2.1⟩ hR) ⟨ThP.blind, fun U hU hW => ⟨rfl, ⟨by rw [hU], by rw [hU]; exact subOf hP hC, hE.moved hW, subD hD hn hC⟩, zq_call hZ.2.1 hS hD hA hC hU hW, zq_call hZ.2.2.1 hS hD hA hC hU hW, eS_call hZ.2.2.2 hS hD hA hC hU hW⟩⟩ rfl hk hsz hst (lv_room hW) hd hf) hS (fun q _ h => freeOf hD hS hA hC q h) (freeOf hD hS hA hC)
    (fun x u t H1 locs1 ht hvm hw hB hz1 hk1 hS1 => by rw [hw]; exact kk H1 locs1 (put_P hP hD hk1 (by rw [← ht]; exact hB) hC hC1 (hR1.trans (getW_eq ws isR)) hcov) (addr_D hD (ha.trans (fstW_eq ws))) hS1)
theorem lstJ {a q0 N : Nat} {f : Nat → Int64} {i : Int32} {x : Int64} (C : CallFix p m c cc nL s args aw own) (hE : eK D T s) (hP : va_P D kC ws H) (hD : va_D A ws) (hS : va_S A H0 H locs) (ha : ws[q0]? = some (a, .inl (T 4, N, .inr (.inl f)))) (hin : vin i N = true) (hw1 : ws.set q0 (a, .inl (T 4, N, .inr (.inl (vp_updL f i.toNatClampNeg x)))) = ws1) (hd : decode cc pc = .ok (.lastore, 1))
    (kk : ∀ (H1 : Heap) (locs1 : List Loc), va_P D kC ws1 H1 → va_D A ws1 → va_S A H0 H1 locs1 → W p l e R s m args below meth c H1 locs1 cells slots Q (F0 m (pc + 1) ls rest)) : W p l e R s m args below meth c H locs cells slots Q (F0 m pc ls (.long x :: .int i :: .ref a :: rest)) := by
  subst hw1
  exact va_last C.1 C.2.1 hE.1 hP hD hS q0 4 ha rfl (vin_in hin) hd kk
theorem lstD {a q0 N : Nat} {f : Nat → UInt64} {i : Int32} {x : UInt64} (C : CallFix p m c cc nL s args aw own) (hE : eK D T s) (hP : va_P D kC ws H) (hD : va_D A ws) (hS : va_S A H0 H locs) (ha : ws[q0]? = some (a, .inl (T 5, N, .inr (.inr (.inr (.inl f)))))) (hin : vin i N = true) (hw1 : ws.set q0 (a, .inl (T 5, N, .inr (.inr (.inr (.inl (vf_upd f i.toNatClampNeg x)))))) = ws1) (hd : decode cc pc = .ok (.dastore, 1))
    (kk : ∀ (H1 : Heap) (locs1 : List Loc), va_P D kC ws1 H1 → va_D A ws1 → va_S A H0 H1 locs1 → W p l e R s m args below meth c H1 locs1 cells slots Q (F0 m (pc + 1) ls rest)) : W p l e R s m args below meth c H locs cells slots Q (F0 m pc ls (.double x :: .int i :: .ref a :: rest)) := by
  subst hw1
  exact va_dast C.1 C.2.1 hE.1 hP hD hS q0 5 ha rfl (vin_in hin) hd kk
/-- a handler takes the exception -/
theorem lcatch {E : String} {ce : Cell} {q : Addr} (C : CallFix p m c cc nL s args aw own) (hE : eK D T s) (hT : c.exceptionTable.toList = tableOf hh) (pre : List (Nat × Nat × Nat × Nat)) (x : Nat × Nat × Nat × Nat) (suf : List (Nat × Nat × Nat × Nat)) (hsplit : hh = pre ++ x :: suf)
    (hpass : ∀ z ∈ pre, z.2.2.2 ≠ 0 ∧ ∃ nm : String, Cond.classLink own z.2.2.2 nm ∈ aw ∧ (E, nm) ∈ kNc) (hx : covers ⟨x.1, x.2.1, x.2.2.1, x.2.2.2⟩ pc = true) (h0 : x.2.2.2 ≠ 0) (hlink : Cond.classLink own x.2.2.2 E ∈ aw) (hcast : (E, E) ∈ kCa) (hcell : H[q]? = some ce) (hv : ce.vm = .none) (hcl : s.vm.findClass E = some ce.cls)
    (kk : W p l e R s m args below meth c H locs cells slots Q (F0 m x.2.2.1 ls [.ref q])) : vx_W p l e R s m args below meth c H locs cells slots Q (F0 m pc ls rest) q := by
  refine vx_catch (own := own) (name := E) (E := E) (ce := ce) C.2.2.2.1 (tableOf pre) ⟨x.1, x.2.1, x.2.2.1, x.2.2.2⟩ (tableOf suf) (by rw [hT, hsplit]; simp [tableOf]) (fun z hz => ?_) hx h0 (C.2.2.2.2 _ hlink) (va_Nw.use rfl (hE.2.2.2.1 _ hcast)) hcell hv hcl kk
  obtain ⟨z0, hz0, rfl⟩ := List.mem_map.mp hz
  obtain ⟨h1, nm, h2, h3⟩ := hpass z0 hz0
  exact Or.inr ⟨h1, nm, C.2.2.2.2 _ h2, hE.2.2.2.2.1 _ h3⟩
end LAWR
