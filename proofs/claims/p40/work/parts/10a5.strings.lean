/-! literals of strings, and the methods of String that are called on them -/
def kL : List (String × Nat × String × List Int32) := [(RX5, 46, "wmkobd", [119, 109, 107, 111, 98, 100]), (RX5, 72, "000", [48, 48, 48]), (RX5, 74, "0@0", [48, 64, 48]), (RX5, 76, "0n0", [48, 110, 48]), (RX5, 78, "0", [48]), (RX5, 80, "00", [48, 48]), (RX5, 82, "", []), (RX5, 84, "nesw", [110, 101, 115, 119]), (RL, 141, "m", [109]), (RL, 149, "@", [64]), (RL, 151, ";k", [59, 107]), (RL, 153, "nesw", [110, 101, 115, 119]), (RL, 162, ";o", [59, 111]), (RL, 164, ";d", [59, 100]), (RL, 166, ";b", [59, 98])]
def nA : Nat → Prop := fun _ => False
def fmtC : String := "jdk/internal/util/Preconditions"
def fmtD : String := "Ljava/util/function/BiFunction;"
/-- a string of the letters bs at a, its bytes at v -/
def JP (A : Nat → Prop) (a v : Nat) (bs : List Int32) (U : State) (H : Heap) : Prop :=
  va_Z "java/lang/String" "COMPACT_STRINGS" "Z" (.int 1) A U H ∧ va_Zq fmtC "SIOOBE_FORMATTER" fmtD A U H ∧ va_O "java/lang/String" a A U H ∧ va_OF "java/lang/String" "coder" "B" (.int 0) a A U H ∧ va_OF "java/lang/String" "value" "[B" (.ref v) a A U H ∧ va_T .byte v bs.length (fun j => .int (bs.getD j 0)) A U H
/-- all literals stand -/
def eS (A : Nat → Prop) (s : State) (H : Heap) : Prop := ∀ q ∈ kL, ∃ a v, vk_R q.1 q.2.1 q.2.2.1 a s ∧ JP A a v q.2.2.2 s H
def shr0 (n : Nat) : Bool := decide (Int32.ofNat n >>> ((0 : Int32) &&& 31) = Int32.ofNat n)
def okB (bs : List Int32) : Bool := shr0 bs.length && bs.all (fun b => decide (0 ≤ b) && decide (b ≤ 127)) && decide (bs.length < 100)
def okC (bs : List Int32) (i r : Int32) : Bool := vin i bs.length && decide (bs.getD i.toNatClampNeg 0 = r) && decide (((r &&& 255).toUInt32 % 65536).toInt32 = r) && decide (r.toUInt32.toUInt16.toUInt32.toInt32 = r) && decide (0 ≤ i) && decide (i < Int32.ofNat bs.length)
def sIxF (c : Int32) : List Int32 → Nat → Int32
  | [], _ => -1
  | b :: l, k => if b = c then Int32.ofNat k else sIxF c l (k + 1)
/-- indexOf -/
def sIx (bs : List Int32) (c : Int32) : Int32 := sIxF c bs 0
theorem okB_len {bs : List Int32} (h : okB bs = true) : Int32.ofNat bs.length >>> ((0 : Int32) &&& 31) = Int32.ofNat bs.length := by
  simp only [okB, shr0, Bool.and_eq_true, decide_eq_true_eq] at h
  exact h.1.1
theorem okB_lt {bs : List Int32} (h : okB bs = true) : bs.length < 100 := by
  simp only [okB, shr0, Bool.and_eq_true, decide_eq_true_eq] at h
  exact h.2
theorem okB_all {bs : List Int32} (h : okB bs = true) : ∀ b ∈ bs, 0 ≤ b ∧ b ≤ 127 := by
  simp only [okB, shr0, Bool.and_eq_true, decide_eq_true_eq, List.all_eq_true] at h
  exact h.1.2
theorem okC_u {bs : List Int32} {i r : Int32} (h : okC bs i r = true) : vp_in i bs.length ∧ bs.getD i.toNatClampNeg 0 = r ∧ ((r &&& 255).toUInt32 % 65536).toInt32 = r ∧ r.toUInt32.toUInt16.toUInt32.toInt32 = r ∧ 0 ≤ i ∧ i < Int32.ofNat bs.length := by
  simp only [okC, Bool.and_eq_true, decide_eq_true_eq] at h
  exact ⟨vin_in h.1.1.1.1.1, h.1.1.1.1.2, h.1.1.1.2, h.1.1.2, h.1.2, h.2⟩
theorem tI0 {x k : Int32} (a : Int) (hk : k.toInt = a) (h : ¬ x = k) : x.toInt ≠ a := lv_neT h hk
section STRS
variable {p : Program} {l : Launch} {e : Env} {R : Room} {s : State} {m : MethodId} {args : Array Value} {below : List Frame} {meth : Method} {c : Code} {H : Heap} {locs : List Loc} {cells slots : Nat} {Q : State → Prop} {pc : Nat} {ls : Array Slot} {rest st : List Value}
variable {D : va_G} {T : Nat → ClassId} {ws wc : va_W} {cc b : ByteArray} {nL n k idx mc ms : Nat} {own : String} {y : MethodName} {ty : FieldType} {ret : Option FieldType} {rm : Room} {as : List Value} {r : Int32} {A B : Nat → Prop} {H0 : Heap} {P : State → Prop} {a v : Nat} {bs : List Int32}
theorem JP.mv {u U : State} {H : Heap} (hvm : u.vm.Alike U.vm) (h : JP A a v bs u H) : JP A a v bs U H := by
  refine ⟨h.1.moved hvm, ?_, ?_, h.2.2.2.1.moved hvm, h.2.2.2.2.1.moved hvm, h.2.2.2.2.2.moved hvm⟩
  · rcases h.2.1 with q | ⟨t, q⟩
    · exact Or.inl (q.moved hvm)
    · exact Or.inr ⟨t, q.moved hvm⟩
  · exact va_O.moved hvm h.2.2.1
theorem JP.kept {U : State} {H H1 : Heap} (h : JP A a v bs U H) (hq : ∀ a : Nat, a < H.size → ¬ A a → H1[a]? = H[a]?) : JP A a v bs U H1 := by
  refine ⟨h.1.kept hq, ?_, h.2.2.1.kept hq, h.2.2.2.1.kept hq, h.2.2.2.2.1.kept hq, h.2.2.2.2.2.kept hq⟩
  rcases h.2.1 with q | ⟨t, q⟩
  · exact Or.inl (q.kept hq)
  · exact Or.inr ⟨t, q.kept hq⟩
theorem JP.narrow {U : State} {H : Heap} (h : JP A a v bs U H) (hAB : ∀ q, B q → A q) : JP B a v bs U H := by
  refine ⟨h.1.narrow hAB, ?_, h.2.2.1.narrow hAB, h.2.2.2.1.narrow hAB, h.2.2.2.2.1.narrow hAB, h.2.2.2.2.2.narrow hAB⟩
  rcases h.2.1 with q | ⟨t, q⟩
  · exact Or.inl (q.narrow hAB)
  · exact Or.inr ⟨t, q.narrow hAB⟩
theorem JP.blind : FrameBlind (va_Pc as (fun U => JP nA a v bs U U.heap)) := fun q U g mk h => ⟨h.1, JP.mv (u := U) (U := U.calling g mk q) (Vm.Alike.refl U.vm) h.2⟩
theorem JP.recv (h : JP A a v bs s s.heap) (hS : va_S A s.heap H locs) : ∃ cell : Cell, H[a]? = some cell ∧ cell.vm.isStatics = false ∧ s.vm.findClass "java/lang/String" = some cell.cls := by
  obtain ⟨cell, h1, h2, h3, -⟩ := h.2.2.1.kept hS.2.1
  exact ⟨cell, h1, h2, h3⟩
theorem JP.use (h : JP A a v bs s s.heap) (hS : va_S A s.heap H locs) {U : State} (hU : U.heap = H) (hW : s.WarmedH U.vm) : JP nA a v bs U U.heap := by
  rw [hU]
  exact ((h.kept hS.2.1).narrow (fun _ h => h.elim)).mv hW.alike
theorem eS_call {isC : List Nat} {U : State} (h : eS A s s.heap) (hS : va_S A s.heap H locs) (hD : va_D A ws) (hA : ∀ q, s.heap.size ≤ q → A q) (hC : isC.map (fun i => ws[i]?) = wc.map some) (hU : U.heap = H) (hW : s.WarmedH U.vm) : eS (va_A wc H.size) U U.heap := by
  intro q hq
  obtain ⟨a, v, h1, h2⟩ := h q hq
  refine ⟨a, v, h1.warm hW, ?_⟩
  rw [hU]
  exact ((h2.kept hS.2.1).narrow (freeOf hD hS hA hC)).mv hW.alike
theorem eS_calling {U : State} {g : JFrame} {mk : MethodId} {q : Array Value} (h : eS A U U.heap) : eS A (U.calling g mk q) (U.calling g mk q).heap := by
  intro z hz
  obtain ⟨a, v, h1, h2⟩ := h z hz
  exact ⟨a, v, vk_R.same rfl h1, JP.mv (u := U) (U := U.calling g mk q) (Vm.Alike.refl U.vm) h2⟩
/-- a reader whose start says P -/
def PrI (l : Launch) (y : MethodName) (b : ByteArray) (n : Nat) (ty : FieldType) (rm : Room) (P : State → Prop) (as : List Value) (r : Int32) : Prop :=
  Met l y (.code y b n (some ty) :: aw) rm (va_Pc as P) (vp_Si (fun x => x = r)) 0 0 (fun _ => False)
def PrSv : Array Value → State → Outcome → State → Prop := fun _ st oc t => oc = .returned none ∧ t.heap = st.heap
def PrV (l : Launch) (y : MethodName) (b : ByteArray) (n : Nat) (rm : Room) (P : State → Prop) (as : List Value) : Prop :=
  Met l y (.code y b n none :: aw) rm (va_Pc as P) PrSv 0 0 (fun _ => False)
def PrR (l : Launch) (y : MethodName) (b : ByteArray) (n : Nat) (ty : FieldType) (rm : Room) (P : State → Prop) (as : List Value) (a : Nat) : Prop :=
  Met l y (.code y b n (some ty) :: aw) rm (va_Pc as P) (va_Sr (fun x => x = a) (fun x => .ref x)) 0 0 (fun _ => False)
theorem prMet (hy : plainName y.cls = true) (hlen : Nat.ble (lg_sl as).length n = true) (body : ∀ (p : Program) (e : Env) (s : State) (m : MethodId) (args : Array Value) (below : List Frame) (meth : Method) (c : Code) (Q : State → Prop), CallFix p m c b n s args aw y.cls → P s → RdRet p l e rm s m args below meth c Q b ty r → ∀ ls : Array Slot, lv_has ls n (lv_args 0 as) → W p l e rm s m args below meth c s.heap [] 0 0 Q (F0 m 0 ls [])) : PrI l y b n ty rm P as r := by
  refine Met.ofW (cc := b) (maxL := n) (ret := some ty) hy rfl ?_
  intro p e s m args below meth c s₁ B hml hv
  obtain ⟨rfl, hP⟩ := hv
  have hts : ∀ w ∈ (Cond.code y b n (some ty) :: aw), w.before as.toArray s = true := atoms_spec (ws := .code y b n (some ty) :: aw) B.pre
  have hr := B.returns
  have hlocks := B.notSynchronized
  have hl := lv_entry as (n := n) (Nat.le_of_ble_eq_true hlen)
  rw [lg_entry_eq]
  exact body p e s m _ below meth c _ ⟨B.exec, B.bytes, hml, findClass_of_methodNamed B.named, fun w hw => hts w (List.mem_cons_of_mem _ hw)⟩ hP (fun pc ls v w hd hn hw => W.nret B.exec B.bytes hr hn (fun t ht _ => ⟨w, rfl, hw, ht⟩) (fun _ h => nomatch h) hd hlocks) _ hl
theorem prMetV (hy : plainName y.cls = true) (hlen : Nat.ble (lg_sl as).length n = true) (body : ∀ (p : Program) (e : Env) (s : State) (m : MethodId) (args : Array Value) (below : List Frame) (meth : Method) (c : Code) (Q : State → Prop), CallFix p m c b n s args aw y.cls → P s → (∀ (pc : Nat) (ls : Array Slot), decode b pc = .ok (.return_, 1) → W p l e rm s m args below meth c s.heap [] 0 0 Q (F0 m pc ls [])) → ∀ ls : Array Slot, lv_has ls n (lv_args 0 as) → W p l e rm s m args below meth c s.heap [] 0 0 Q (F0 m 0 ls [])) : PrV l y b n rm P as := by
  refine Met.ofW (cc := b) (maxL := n) (ret := none) hy rfl ?_
  intro p e s m args below meth c s₁ B hml hv
  obtain ⟨rfl, hP⟩ := hv
  have hts : ∀ w ∈ (Cond.code y b n none :: aw), w.before as.toArray s = true := atoms_spec (ws := .code y b n none :: aw) B.pre
  have hr := B.returns
  have hlocks := B.notSynchronized
  have hl := lv_entry as (n := n) (Nat.le_of_ble_eq_true hlen)
  rw [lg_entry_eq]
  exact body p e s m _ below meth c _ ⟨B.exec, B.bytes, hml, findClass_of_methodNamed B.named, fun w hw => hts w (List.mem_cons_of_mem _ hw)⟩ hP (fun pc ls hd => W.vret B.exec B.bytes hr (fun t ht _ => ⟨rfl, ht⟩) (fun _ h => nomatch h) hd hlocks) _ hl
theorem prMetR (hrt : (∃ n, ty = .object n) ∨ ∃ t, ty = .array t) (hy : plainName y.cls = true) (hlen : Nat.ble (lg_sl as).length n = true) (body : ∀ (p : Program) (e : Env) (s : State) (m : MethodId) (args : Array Value) (below : List Frame) (meth : Method) (c : Code) (Q : State → Prop), CallFix p m c b n s args aw y.cls → P s → (∀ (pc : Nat) (ls : Array Slot) (x : Nat), decode b pc = .ok (.areturn, 1) → x = a → W p l e rm s m args below meth c s.heap [] 0 0 Q (F0 m pc ls [.ref x])) → ∀ ls : Array Slot, lv_has ls n (lv_args 0 as) → W p l e rm s m args below meth c s.heap [] 0 0 Q (F0 m 0 ls [])) : PrR l y b n ty rm P as a := by
  refine Met.ofW (cc := b) (maxL := n) (ret := some ty) hy rfl ?_
  intro p e s m args below meth c s₁ B hml hv
  obtain ⟨rfl, hP⟩ := hv
  have hts : ∀ w ∈ (Cond.code y b n (some ty) :: aw), w.before as.toArray s = true := atoms_spec (ws := .code y b n (some ty) :: aw) B.pre
  have hr := B.returns
  have hlocks := B.notSynchronized
  have hl := lv_entry as (n := n) (Nat.le_of_ble_eq_true hlen)
  rw [lg_entry_eq]
  exact body p e s m _ below meth c _ ⟨B.exec, B.bytes, hml, findClass_of_methodNamed B.named, fun w hw => hts w (List.mem_cons_of_mem _ hw)⟩ hP (fun pc ls x hd hw => W.aret B.exec B.bytes hr hrt (Or.inr ⟨x, rfl⟩) (fun t ht _ => ⟨x, rfl, hw, ht⟩) (fun _ h => nomatch h) hd) _ hl
theorem prV {a : Nat} (C : CallFix p m c cc nL s args aw own) (hB : FrameBlind (va_Pc (.ref a :: as) P)) (hrc : ∃ cell : Cell, H[a]? = some cell ∧ cell.vm.isStatics = false ∧ s.vm.findClass y.cls = some cell.cls) (hU : ∀ U : State, U.heap = H → s.WarmedH U.vm → P U) (hM : PrI l y b n ty rm P (.ref a :: as) r) (hm : MV y b n (some ty) k) (hl : Cond.methodLink own idx y ∈ aw)
    (hrm : rm.cells = 0 ∧ rm.slots = 0) (hR : rm.frames + 1 ≤ R.frames ∧ 8 + (n + 11) + rm.locals ≤ R.locals) (hk : as.length = k) (hsz : ls.size = nL) (hst : st = as.reverse ++ .ref a :: rest) (hW : (rest.map fun v => v.category).sum ≤ 8) (hd : decode cc pc = .ok (.invokevirtual idx, 3)) (hf : cells ≤ R.cells ∧ slots ≤ R.slots)
    (kk : W p l e R s m args below meth c H locs cells slots Q (F0 m (pc + 3) ls (.int r :: rest))) : W p l e R s m args below meth c H locs cells slots Q (F0 m pc ls st) :=
  vp_callSi (W.runV C hM (cwV2 C.2.2.2.2 hl hm hrm.1 hrm.2 hR) ⟨hB, hrc, fun U hU1 hW1 => ⟨rfl, hU U hU1 hW1⟩⟩ rfl hk hsz hst (lv_room hW) hd hf) (fun _ e => by rw [e]; exact kk)
theorem prS (C : CallFix p m c cc nL s args aw own) (hB : FrameBlind (va_Pc as P)) (hU : ∀ U : State, U.heap = H → s.WarmedH U.vm → P U) (hM : PrI l y b n ty rm P as r) (hm : MS y b n (some ty) k) (hl : Cond.methodLink own idx y ∈ aw)
    (hrm : rm.cells = 0 ∧ rm.slots = 0) (hR : rm.frames + 1 ≤ R.frames ∧ 8 + (n + 11) + rm.locals ≤ R.locals) (hk : as.length = k) (hsz : ls.size = nL) (hst : st = as.reverse ++ rest) (hW : (rest.map fun v => v.category).sum ≤ 8) (hd : decode cc pc = .ok (.invokestatic idx, 3)) (hf : cells ≤ R.cells ∧ slots ≤ R.slots)
    (kk : W p l e R s m args below meth c H locs cells slots Q (F0 m (pc + 3) ls (.int r :: rest))) : W p l e R s m args below meth c H locs cells slots Q (F0 m pc ls st) :=
  vp_callSi (W.runS C hM (cwS2 C.2.2.2.2 hl hm hrm.1 hrm.2 hR) ⟨hB, fun U hU1 hW1 => ⟨rfl, hU U hU1 hW1⟩⟩ rfl hk hsz hst (lv_room hW) hd hf) (fun _ e => by rw [e]; exact kk)
theorem prSR (C : CallFix p m c cc nL s args aw own) (hB : FrameBlind (va_Pc as P)) (hU : ∀ U : State, U.heap = H → s.WarmedH U.vm → P U) (hM : PrR l y b n ty rm P as a) (hm : MS y b n (some ty) k) (hl : Cond.methodLink own idx y ∈ aw)
    (hrm : rm.cells = 0 ∧ rm.slots = 0) (hR : rm.frames + 1 ≤ R.frames ∧ 8 + (n + 11) + rm.locals ≤ R.locals) (hk : as.length = k) (hsz : ls.size = nL) (hst : st = as.reverse ++ rest) (hW : (rest.map fun v => v.category).sum ≤ 8) (hd : decode cc pc = .ok (.invokestatic idx, 3)) (hf : cells ≤ R.cells ∧ slots ≤ R.slots)
    (kk : W p l e R s m args below meth c H locs cells slots Q (F0 m (pc + 3) ls (.ref a :: rest))) : W p l e R s m args below meth c H locs cells slots Q (F0 m pc ls st) :=
  va_csr (W.runS C hM (cwS2 C.2.2.2.2 hl hm hrm.1 hrm.2 hR) ⟨hB, fun U hU1 hW1 => ⟨rfl, hU U hU1 hW1⟩⟩ rfl hk hsz hst (lv_room hW) hd hf) (fun _ e => by rw [e]; exact kk)
theorem pr_callSv {a : Array Value} {st0 : List Value} (hr : CallRun p l e R s m args below meth c H locs cells slots 0 0 (F0 m pc ls st0) rest (PrSv a) (fun _ => False)) (kk : W p l e R s m args below meth c H locs cells slots Q (F0 m (pc + 3) ls rest)) : W p l e R s m args below meth c H locs cells slots Q (F0 m pc ls st0) := by
  intro T hT X
  obtain ⟨v, st₀, t, T', L, h0, X', hL, e1, ⟨hv, hh⟩, st⟩ := hr T hT X
  cases hv
  obtain ⟨t2, a1, b1⟩ := kk T' (by rw [e1, hh, h0]) (Stand.forget X' (fun q h => (hL q h).elim))
  exact ⟨t2, st t2 a1, b1⟩
theorem prSV (C : CallFix p m c cc nL s args aw own) (hB : FrameBlind (va_Pc as P)) (hU : ∀ U : State, U.heap = H → s.WarmedH U.vm → P U) (hM : PrV l y b n rm P as) (hm : MS y b n none k) (hl : Cond.methodLink own idx y ∈ aw)
    (hrm : rm.cells = 0 ∧ rm.slots = 0) (hR : rm.frames + 1 ≤ R.frames ∧ 8 + (n + 11) + rm.locals ≤ R.locals) (hk : as.length = k) (hsz : ls.size = nL) (hst : st = as.reverse ++ rest) (hW : (rest.map fun v => v.category).sum ≤ 8) (hd : decode cc pc = .ok (.invokestatic idx, 3)) (hf : cells ≤ R.cells ∧ slots ≤ R.slots)
    (kk : W p l e R s m args below meth c H locs cells slots Q (F0 m (pc + 3) ls rest)) : W p l e R s m args below meth c H locs cells slots Q (F0 m pc ls st) :=
  pr_callSv (W.runS C hM (cwS2 C.2.2.2.2 hl hm hrm.1 hrm.2 hR) ⟨hB, fun U hU1 hW1 => ⟨rfl, hU U hU1 hW1⟩⟩ rfl hk hsz hst (lv_room hW) hd hf) kk
end STRS
set_option maxHeartbeats 4000000 in
set_option maxRecDepth 100000 in
theorem kJ0_coder_7d493 (l : Launch) (a v : Nat) (bs : List Int32) : PrI l yJ0_coder_7d493 cJ0_coder_7d493 1 .byte ({ frames := 0, cells := 0, slots := 0, locals := 0 } : Room) (fun U => JP nA a v bs U U.heap) [.ref a] 0 := by
  refine prMet (by decide +kernel) rfl (fun p e s m args below meth c Q C hJ hret ls hl => ?_)
  have hx := C.1
  have hb := C.2.1
  have hS : va_S nA s.heap s.heap [] := va_S.rf
  have hl : lv_has ls 1 [(0, .ref a)] := hl
  refine va_gets hx hb hJ.1 hS C.2.2.2.1 (C.2.2.2.2 _ qFJ0_38) (fun _ h => h) dJ0_coder_7d493_0 ?_
  refine lv_if_eq (tgt := 13) hx hb dJ0_coder_7d493_3 (by decide) (fun c1 => absurd c1 (by decide)) (fun c1 => ?_)
  refine lv_aload_n hx hb dJ0_coder_7d493_6 rfl (lv_at hl 0 rfl) ?_
  refine vk_getf hx hb hJ.2.2.2.1 hS C.2.2.2.1 (C.2.2.2.2 _ qFJ0_15) (fun _ h => h) dJ0_coder_7d493_7 ?_
  refine lv_goto (tgt := 14) hx hb dJ0_coder_7d493_10 (by decide) ?_
  exact hret _ _ _ _ dJ0_coder_7d493_14 rfl rfl
set_option maxHeartbeats 4000000 in
set_option maxRecDepth 100000 in
theorem kJ0_isLatin1_aae02 (l : Launch) (a v : Nat) (bs : List Int32) : PrI l yJ0_isLatin1_aae02 cJ0_isLatin1_aae02 1 .boolean ({ frames := 0, cells := 0, slots := 0, locals := 0 } : Room) (fun U => JP nA a v bs U U.heap) [.ref a] 1 := by
  refine prMet (by decide +kernel) rfl (fun p e s m args below meth c Q C hJ hret ls hl => ?_)
  have hx := C.1
  have hb := C.2.1
  have hS : va_S nA s.heap s.heap [] := va_S.rf
  have hl : lv_has ls 1 [(0, .ref a)] := hl
  refine va_gets hx hb hJ.1 hS C.2.2.2.1 (C.2.2.2.2 _ qFJ0_38) (fun _ h => h) dJ0_isLatin1_aae02_0 ?_
  refine lv_if_eq (tgt := 17) hx hb dJ0_isLatin1_aae02_3 (by decide) (fun c1 => absurd c1 (by decide)) (fun c1 => ?_)
  refine lv_aload_n hx hb dJ0_isLatin1_aae02_6 rfl (lv_at hl 0 rfl) ?_
  refine vk_getf hx hb hJ.2.2.2.1 hS C.2.2.2.1 (C.2.2.2.2 _ qFJ0_15) (fun _ h => h) dJ0_isLatin1_aae02_7 ?_
  refine lv_if_ne (tgt := 17) hx hb dJ0_isLatin1_aae02_10 (by decide) (fun c1 => absurd rfl c1) (fun c1 => ?_)
  refine lv_iconst (v := 1) hx hb dJ0_isLatin1_aae02_13 (by decide) ?_
  refine lv_goto (tgt := 18) hx hb dJ0_isLatin1_aae02_14 (by decide) ?_
  exact hret _ _ _ _ dJ0_isLatin1_aae02_18 rfl rfl
set_option maxHeartbeats 4000000 in
set_option maxRecDepth 100000 in
theorem kJ0_length_8abf5 (l : Launch) (a v : Nat) (bs : List Int32) (ok : okB bs = true) : PrI l yJ0_length_8abf5 cJ0_length_8abf5 1 .int ({ frames := 1, cells := 0, slots := 0, locals := 20 } : Room) (fun U => JP nA a v bs U U.heap) [.ref a] (Int32.ofNat bs.length) := by
  refine prMet (by decide +kernel) rfl (fun p e s m args below meth c Q C hJ hret ls hl => ?_)
  have hx := C.1
  have hb := C.2.1
  have hS : va_S nA s.heap s.heap [] := va_S.rf
  have hl : lv_has ls 1 [(0, .ref a)] := hl
  refine lv_aload_n hx hb dJ0_length_8abf5_0 rfl (lv_at hl 0 rfl) ?_
  refine vk_getf hx hb hJ.2.2.2.2.1 hS C.2.2.2.1 (C.2.2.2.2 _ qFJ0_9) (fun _ h => h) dJ0_length_8abf5_1 ?_
  refine va_tlen hx hb hJ.2.2.2.2.2 hS rfl dJ0_length_8abf5_4 ?_
  refine lv_aload_n hx hb dJ0_length_8abf5_5 rfl (lv_at hl 0 rfl) ?_
  refine prV C JP.blind (JP.recv hJ hS) (fun U hU hW => JP.use hJ hS hU hW) (kJ0_coder_7d493 l a v bs) mJ0_coder_7d493 qLJ0_335 ⟨rfl, rfl⟩ ⟨Nat.le_of_ble_eq_true rfl, Nat.le_of_ble_eq_true rfl⟩ rfl hl.1 rfl (Nat.le_of_ble_eq_true rfl) dJ0_length_8abf5_6 ⟨Nat.le_of_ble_eq_true rfl, Nat.le_of_ble_eq_true rfl⟩ ?_
  refine lv_ishr hx hb dJ0_length_8abf5_9 ?_
  rw [okB_len ok]
  exact hret _ _ _ _ dJ0_length_8abf5_10 rfl rfl
set_option maxHeartbeats 4000000 in
set_option maxRecDepth 100000 in
theorem kJ3_checkIndex_8e157_n (l : Launch) (i n : Int32) (h0 : 0 ≤ i) (h1 : i < n) : PrI l yJ3_checkIndex_8e157 cJ3_checkIndex_8e157 3 .int ({ frames := 0, cells := 0, slots := 0, locals := 0 } : Room) (fun _ => True) [.int i, .int n, .null] i := by
  refine prMet (by decide +kernel) rfl (fun p e s m args below meth c Q C hJ hret ls hl => ?_)
  have hx := C.1
  have hb := C.2.1
  have hl : lv_has ls 3 [(0, .int i), (1, .int n), (2, .null)] := hl
  refine lv_iload_n hx hb dJ3_checkIndex_8e157_0 rfl (lv_at hl 0 rfl) ?_
  refine lv_if_lt (tgt := 9) hx hb dJ3_checkIndex_8e157_1 (by decide) (fun c1 => absurd h0 (Int32.not_le.mpr c1)) (fun c1 => ?_)
  refine lv_iload_n hx hb dJ3_checkIndex_8e157_4 rfl (lv_at hl 0 rfl) ?_
  refine lv_iload_n hx hb dJ3_checkIndex_8e157_5 rfl (lv_at hl 1 rfl) ?_
  refine lv_icmp_lt (tgt := 16) hx hb dJ3_checkIndex_8e157_6 (by decide) (fun c1 => ?_) (fun c1 => absurd h1 c1)
  refine lv_iload_n hx hb dJ3_checkIndex_8e157_16 rfl (lv_at hl 0 rfl) ?_
  exact hret _ _ _ _ dJ3_checkIndex_8e157_17 rfl rfl
set_option maxHeartbeats 4000000 in
set_option maxRecDepth 100000 in
theorem kJ3_checkIndex_8e157_r (l : Launch) (t : Nat) (i n : Int32) (h0 : 0 ≤ i) (h1 : i < n) : PrI l yJ3_checkIndex_8e157 cJ3_checkIndex_8e157 3 .int ({ frames := 0, cells := 0, slots := 0, locals := 0 } : Room) (fun _ => True) [.int i, .int n, .ref t] i := by
  refine prMet (by decide +kernel) rfl (fun p e s m args below meth c Q C hJ hret ls hl => ?_)
  have hx := C.1
  have hb := C.2.1
  have hl : lv_has ls 3 [(0, .int i), (1, .int n), (2, .ref t)] := hl
  refine lv_iload_n hx hb dJ3_checkIndex_8e157_0 rfl (lv_at hl 0 rfl) ?_
  refine lv_if_lt (tgt := 9) hx hb dJ3_checkIndex_8e157_1 (by decide) (fun c1 => absurd h0 (Int32.not_le.mpr c1)) (fun c1 => ?_)
  refine lv_iload_n hx hb dJ3_checkIndex_8e157_4 rfl (lv_at hl 0 rfl) ?_
  refine lv_iload_n hx hb dJ3_checkIndex_8e157_5 rfl (lv_at hl 1 rfl) ?_
  refine lv_icmp_lt (tgt := 16) hx hb dJ3_checkIndex_8e157_6 (by decide) (fun c1 => ?_) (fun c1 => absurd h1 c1)
  refine lv_iload_n hx hb dJ3_checkIndex_8e157_16 rfl (lv_at hl 0 rfl) ?_
  exact hret _ _ _ _ dJ3_checkIndex_8e157_17 rfl rfl
theorem tt_blind {as : List Value} : FrameBlind (va_Pc as (fun _ => True)) := fun q U g mk h => ⟨h.1, trivial⟩
set_option maxHeartbeats 4000000 in
set_option maxRecDepth 100000 in
theorem kJ0_checkIndex_df160 (l : Launch) (a v : Nat) (bs : List Int32) (i n : Int32) (h0 : 0 ≤ i) (h1 : i < n) : PrV l yJ0_checkIndex_df160 cJ0_checkIndex_df160 2 ({ frames := 1, cells := 0, slots := 0, locals := 22 } : Room) (fun U => JP nA a v bs U U.heap) [.int i, .int n] := by
  refine prMetV (by decide +kernel) rfl (fun p e s m args below meth c Q C hJ hret ls hl => ?_)
  have hx := C.1
  have hb := C.2.1
  have hS : va_S nA s.heap s.heap [] := va_S.rf
  have hl : lv_has ls 2 [(0, .int i), (1, .int n)] := hl
  refine lv_iload_n hx hb dJ0_checkIndex_df160_0 rfl (lv_at hl 0 rfl) ?_
  refine lv_iload_n hx hb dJ0_checkIndex_df160_1 rfl (lv_at hl 1 rfl) ?_
  rcases hJ.2.1 with q | ⟨t, q⟩
  · refine va_gets hx hb q hS C.2.2.2.1 (C.2.2.2.2 _ qFJ0_1053) (fun _ h => h) dJ0_checkIndex_df160_2 ?_
    refine prS C tt_blind (fun U hU hW => trivial) (kJ3_checkIndex_8e157_n l i n h0 h1) mJ3_checkIndex_8e157 qLJ0_1059 ⟨rfl, rfl⟩ ⟨Nat.le_of_ble_eq_true rfl, Nat.le_of_ble_eq_true rfl⟩ rfl hl.1 rfl (Nat.le_of_ble_eq_true rfl) dJ0_checkIndex_df160_5 ⟨Nat.le_of_ble_eq_true rfl, Nat.le_of_ble_eq_true rfl⟩ ?_
    refine lv_pop hx hb dJ0_checkIndex_df160_8 rfl ?_
    exact hret _ _ dJ0_checkIndex_df160_9
  · refine va_gets hx hb q hS C.2.2.2.1 (C.2.2.2.2 _ qFJ0_1053) (fun _ h => h) dJ0_checkIndex_df160_2 ?_
    refine prS C tt_blind (fun U hU hW => trivial) (kJ3_checkIndex_8e157_r l t i n h0 h1) mJ3_checkIndex_8e157 qLJ0_1059 ⟨rfl, rfl⟩ ⟨Nat.le_of_ble_eq_true rfl, Nat.le_of_ble_eq_true rfl⟩ rfl hl.1 rfl (Nat.le_of_ble_eq_true rfl) dJ0_checkIndex_df160_5 ⟨Nat.le_of_ble_eq_true rfl, Nat.le_of_ble_eq_true rfl⟩ ?_
    refine lv_pop hx hb dJ0_checkIndex_df160_8 rfl ?_
    exact hret _ _ dJ0_checkIndex_df160_9
set_option maxHeartbeats 4000000 in
set_option maxRecDepth 100000 in
theorem kJ1_charAt_3b067 (l : Launch) (a v : Nat) (bs : List Int32) (i r : Int32) (ok : okC bs i r = true) : PrI l yJ1_charAt_3b067 cJ1_charAt_3b067 2 .char ({ frames := 2, cells := 0, slots := 0, locals := 43 } : Room) (fun U => JP nA a v bs U U.heap) [.ref v, .int i] r := by
  refine prMet (by decide +kernel) rfl (fun p e s m args below meth c Q C hJ hret ls hl => ?_)
  have hx := C.1
  have hb := C.2.1
  have hS : va_S nA s.heap s.heap [] := va_S.rf
  have hl : lv_has ls 2 [(0, .ref v), (1, .int i)] := hl
  obtain ⟨o1, o2, o3, o4, o5, o6⟩ := okC_u ok
  refine lv_iload_n hx hb dJ1_charAt_3b067_0 rfl (lv_at hl 1 rfl) ?_
  refine lv_aload_n hx hb dJ1_charAt_3b067_1 rfl (lv_at hl 0 rfl) ?_
  refine va_tlen hx hb hJ.2.2.2.2.2 hS rfl dJ1_charAt_3b067_2 ?_
  refine prSV C JP.blind (fun U hU hW => JP.use hJ hS hU hW) (kJ0_checkIndex_df160 l a v bs i _ o5 o6) mJ0_checkIndex_df160 qLJ1_9 ⟨rfl, rfl⟩ ⟨Nat.le_of_ble_eq_true rfl, Nat.le_of_ble_eq_true rfl⟩ rfl hl.1 rfl (Nat.le_of_ble_eq_true rfl) dJ1_charAt_3b067_3 ⟨Nat.le_of_ble_eq_true rfl, Nat.le_of_ble_eq_true rfl⟩ ?_
  refine lv_aload_n hx hb dJ1_charAt_3b067_6 rfl (lv_at hl 0 rfl) ?_
  refine lv_iload_n hx hb dJ1_charAt_3b067_7 rfl (lv_at hl 1 rfl) ?_
  refine va_tb hx hb hJ.2.2.2.2.2 hS o1 (v := .int r) (by rw [o2]) dJ1_charAt_3b067_8 ?_
  refine lv_sipush (v := 255) hx hb dJ1_charAt_3b067_9 (by decide) ?_
  refine lv_iand hx hb dJ1_charAt_3b067_12 ?_
  refine lv_i2c hx hb dJ1_charAt_3b067_13 o3 ?_
  exact hret _ _ _ _ dJ1_charAt_3b067_14 (by show Value.int _ = _; rw [o4]) rfl
set_option maxHeartbeats 4000000 in
set_option maxRecDepth 100000 in
theorem kJ0_charAt_5068e (l : Launch) (a v : Nat) (bs : List Int32) (i r : Int32) (ok : okC bs i r = true) : PrI l yJ0_charAt_5068e cJ0_charAt_5068e 2 .char ({ frames := 3, cells := 0, slots := 0, locals := 64 } : Room) (fun U => JP nA a v bs U U.heap) [.ref a, .int i] r := by
  refine prMet (by decide +kernel) rfl (fun p e s m args below meth c Q C hJ hret ls hl => ?_)
  have hx := C.1
  have hb := C.2.1
  have hS : va_S nA s.heap s.heap [] := va_S.rf
  have hl : lv_has ls 2 [(0, .ref a), (1, .int i)] := hl
  obtain ⟨o1, o2, o3, o4, o5, o6⟩ := okC_u ok
  refine lv_aload_n hx hb dJ0_charAt_5068e_0 rfl (lv_at hl 0 rfl) ?_
  refine prV C JP.blind (JP.recv hJ hS) (fun U hU hW => JP.use hJ hS hU hW) (kJ0_isLatin1_aae02 l a v bs) mJ0_isLatin1_aae02 qLJ0_492 ⟨rfl, rfl⟩ ⟨Nat.le_of_ble_eq_true rfl, Nat.le_of_ble_eq_true rfl⟩ rfl hl.1 rfl (Nat.le_of_ble_eq_true rfl) dJ0_charAt_5068e_1 ⟨Nat.le_of_ble_eq_true rfl, Nat.le_of_ble_eq_true rfl⟩ ?_
  refine lv_if_eq (tgt := 16) hx hb dJ0_charAt_5068e_4 (by decide) (fun c1 => absurd c1 (by decide)) (fun c1 => ?_)
  refine lv_aload_n hx hb dJ0_charAt_5068e_7 rfl (lv_at hl 0 rfl) ?_
  refine vk_getf hx hb hJ.2.2.2.2.1 hS C.2.2.2.1 (C.2.2.2.2 _ qFJ0_9) (fun _ h => h) dJ0_charAt_5068e_8 ?_
  refine lv_iload_n hx hb dJ0_charAt_5068e_11 rfl (lv_at hl 1 rfl) ?_
  refine prS C JP.blind (fun U hU hW => JP.use hJ hS hU hW) (kJ1_charAt_3b067 l a v bs i r ok) mJ1_charAt_3b067 qLJ0_495 ⟨rfl, rfl⟩ ⟨Nat.le_of_ble_eq_true rfl, Nat.le_of_ble_eq_true rfl⟩ rfl hl.1 rfl (Nat.le_of_ble_eq_true rfl) dJ0_charAt_5068e_12 ⟨Nat.le_of_ble_eq_true rfl, Nat.le_of_ble_eq_true rfl⟩ ?_
  exact hret _ _ _ _ dJ0_charAt_5068e_15 (by show Value.int _ = _; rw [o4]) rfl
set_option maxHeartbeats 4000000 in
set_option maxRecDepth 100000 in
theorem sby_a : ∀ n, n < 256 → (Int32.ofNat n).toInt8.toInt32 = if n < 128 then Int32.ofNat n else Int32.ofNat n - 256 := by decide +kernel
theorem sby {x b : Int32} (h0 : ¬ x < 0) (h1 : ¬ 255 < x) (hb0 : 0 ≤ b) (hb1 : b ≤ 127) : b = x.toInt8.toInt32 ↔ b = x := by
  obtain ⟨n, hn, rfl⟩ := nI_of h0
  have h256 : n < 256 := by
    rcases Nat.lt_or_ge n 256 with q | q
    · exact q
    · exact absurd (nI_lt (a := 255) (b := n) (by omega) hn) h1
  have e : (nI n).toInt8.toInt32 = if n < 128 then Int32.ofNat n else Int32.ofNat n - 256 := sby_a n h256
  by_cases c : n < 128
  · rw [e, if_pos c]
    exact Iff.rfl
  · rw [e, if_neg c]
    have h1 : (nI n).toInt = n := Int32.toInt_ofNat_of_lt (by omega)
    have h2 : (Int32.ofNat n - 256).toInt = (n : Int) - 256 := by
      rw [Int32.toInt_sub]
      have : (Int32.ofNat n).toInt = n := Int32.toInt_ofNat_of_lt (by omega)
      rw [this]
      show ((n : Int) - 256).bmod (2 ^ 32) = _
      rw [Int.bmod_eq_of_le] <;> omega
    have h3 : 0 ≤ b.toInt := by simpa using Int32.le_iff_toInt_le.mp hb0
    have h4 : b.toInt ≤ 127 := by simpa using Int32.le_iff_toInt_le.mp hb1
    constructor
    · intro q
      rw [q, h2] at h3
      omega
    · intro q
      rw [q, h1] at h4
      omega
set_option maxHeartbeats 4000000 in
set_option maxRecDepth 100000 in
theorem kJ1_canEncode_9a6ad (l : Launch) (x : Int32) : PrI l yJ1_canEncode_9a6ad cJ1_canEncode_9a6ad 1 .boolean ({ frames := 0, cells := 0, slots := 0, locals := 0 } : Room) (fun _ => True) [.int x] (if x < 0 then 0 else if 255 < x then 0 else 1) := by
  refine prMet (by decide +kernel) rfl (fun p e s m args below meth c Q C hJ hret ls hl => ?_)
  have hx := C.1
  have hb := C.2.1
  have hS : va_S nA s.heap s.heap [] := va_S.rf
  have hl : lv_has ls 1 [(0, .int x)] := hl
  refine lv_iload_n hx hb dJ1_canEncode_9a6ad_0 rfl (lv_at hl 0 rfl) ?_
  refine lv_if_lt (tgt := 15) hx hb dJ1_canEncode_9a6ad_1 (by decide) (fun c1 => ?_) (fun c1 => ?_)
  · refine lv_iconst (v := 0) hx hb dJ1_canEncode_9a6ad_15 (by decide) ?_
    exact hret _ _ _ _ dJ1_canEncode_9a6ad_16 rfl (by rw [if_pos c1]; rfl)
  · refine lv_iload_n hx hb dJ1_canEncode_9a6ad_4 rfl (lv_at hl 0 rfl) ?_
    refine lv_sipush (v := 255) hx hb dJ1_canEncode_9a6ad_5 (by decide) ?_
    refine lv_icmp_gt (tgt := 15) hx hb dJ1_canEncode_9a6ad_8 (by decide) (fun c2 => ?_) (fun c2 => ?_)
    · refine lv_iconst (v := 0) hx hb dJ1_canEncode_9a6ad_15 (by decide) ?_
      exact hret _ _ _ _ dJ1_canEncode_9a6ad_16 rfl (by rw [if_neg c1, if_pos c2]; rfl)
    · refine lv_iconst (v := 1) hx hb dJ1_canEncode_9a6ad_11 (by decide) ?_
      refine lv_goto (tgt := 16) hx hb dJ1_canEncode_9a6ad_12 (by decide) ?_
      exact hret _ _ _ _ dJ1_canEncode_9a6ad_16 rfl (by rw [if_neg c1, if_neg c2]; rfl)
set_option maxHeartbeats 4000000 in
set_option maxRecDepth 100000 in
theorem kJ1_indexOfChar_4cfef (l : Launch) (a v : Nat) (bs : List Int32) (x : Int32) (ok : okB bs = true) (h0 : ¬ x < 0) (h1 : ¬ 255 < x) : PrI l yJ1_indexOfChar_4cfef cJ1_indexOfChar_4cfef 6 .int ({ frames := 0, cells := 0, slots := 0, locals := 0 } : Room) (fun U => JP nA a v bs U U.heap) [.ref v, .int x, .int 0, .int (Int32.ofNat bs.length)] (sIx bs x) := by
  refine prMet (by decide +kernel) rfl (fun p e s m args below meth c Q C hJ hret ls hl => ?_)
  have hx := C.1
  have hb := C.2.1
  have hS : va_S nA s.heap s.heap [] := va_S.rf
  have hl : lv_has ls 6 [(0, .ref v), (1, .int x), (2, .int 0), (3, .int (Int32.ofNat bs.length))] := hl
  have hlt := okB_lt ok
  have loop : ∀ (l2 : List Int32) (k : Nat), k ≤ bs.length → bs.drop k = l2 → sIxF x l2 k = sIx bs x → ∀ ls : Array Slot, lv_has ls 6 [(5, .int (Int32.ofNat k)), (4, .int x.toInt8.toInt32), (0, .ref v), (1, .int x), (2, .int 0), (3, .int (Int32.ofNat bs.length))] → W p l e ({ frames := 0, cells := 0, slots := 0, locals := 0 } : Room) s m args below meth c s.heap [] 0 0 Q (F0 m 7 ls []) := by
    intro l2
    induction l2 with
    | nil =>
      intro k hk hd hr ls hl
      have q : bs.length ≤ k := List.drop_eq_nil_iff.mp hd
      have e : k = bs.length := by omega
      subst e
      refine lv_iload hx hb dJ1_indexOfChar_4cfef_7 (lv_at hl 0 rfl) ?_
      refine lv_iload_n hx hb dJ1_indexOfChar_4cfef_9 rfl (lv_at hl 5 rfl) ?_
      refine lv_icmp_ge (tgt := 31) hx hb dJ1_indexOfChar_4cfef_10 (by decide) (fun c1 => ?_) (fun c1 => absurd (Int32.le_refl _) c1)
      refine lv_iconst (v := -1) hx hb dJ1_indexOfChar_4cfef_31 (by decide) ?_
      exact hret _ _ _ _ dJ1_indexOfChar_4cfef_32 rfl hr
    | cons b0 l2 ih =>
      intro k hk hd hr ls hl
      have hk2 : k < bs.length := by
        rcases Nat.lt_or_ge k bs.length with q | q
        · exact q
        · rw [List.drop_eq_nil_iff.mpr q] at hd
          cases hd
      have hg : bs[k]? = some b0 := by
        have := congrArg (fun z => z[0]?) hd
        simpa using this
      have hgd : bs.getD k 0 = b0 := by rw [List.getD_eq_getElem?_getD, hg]; rfl
      have hmem : b0 ∈ bs := List.mem_of_getElem? hg
      have hd2 : bs.drop (k + 1) = l2 := by
        have := congrArg List.tail hd
        simpa using this
      have hcl : (Int32.ofNat k).toNatClampNeg = k := nI_clamp (by omega)
      refine lv_iload hx hb dJ1_indexOfChar_4cfef_7 (lv_at hl 0 rfl) ?_
      refine lv_iload_n hx hb dJ1_indexOfChar_4cfef_9 rfl (lv_at hl 5 rfl) ?_
      refine lv_icmp_ge (tgt := 31) hx hb dJ1_indexOfChar_4cfef_10 (by decide) (fun c1 => absurd (nI_lt (a := k) (b := bs.length) hk2 (by omega)) (Int32.not_lt.mpr c1)) (fun c1 => ?_)
      refine lv_aload_n hx hb dJ1_indexOfChar_4cfef_13 rfl (lv_at hl 2 rfl) ?_
      refine lv_iload hx hb dJ1_indexOfChar_4cfef_14 (lv_at hl 0 rfl) ?_
      refine va_tb hx hb hJ.2.2.2.2.2 hS (vp_in_nI hk2 (by omega)) (v := .int b0) (by rw [hcl, hgd]) dJ1_indexOfChar_4cfef_16 ?_
      refine lv_iload hx hb dJ1_indexOfChar_4cfef_17 (lv_at hl 1 rfl) ?_
      rw [sIxF] at hr
      refine lv_icmp_ne (tgt := 25) hx hb dJ1_indexOfChar_4cfef_19 (by decide) (fun c2 => ?_) (fun c2 => ?_)
      · have c3 : ¬ b0 = x := fun q => c2 ((sby h0 h1 (okB_all ok _ hmem).1 (okB_all ok _ hmem).2).mpr q)
        rw [if_neg c3] at hr
        refine lv_iinc (v := Int32.ofNat k + 1) (lv' := [(5, .int (Int32.ofNat k + 1)), (4, .int x.toInt8.toInt32), (0, .ref v), (1, .int x), (2, .int 0), (3, .int (Int32.ofNat bs.length))]) hx hb dJ1_indexOfChar_4cfef_25 hl (k := 0) rfl rfl (by decide) rfl (fun ls hl => ?_)
        refine lv_goto (tgt := 7) hx hb dJ1_indexOfChar_4cfef_28 (by decide) ?_
        have e : Int32.ofNat k + 1 = Int32.ofNat (k + 1) := (nI_succ k).symm
        rw [e] at hl
        exact ih (k + 1) hk2 hd2 hr ls hl
      · have c3 : b0 = x := (sby h0 h1 (okB_all ok _ hmem).1 (okB_all ok _ hmem).2).mp c2
        rw [if_pos c3] at hr
        refine lv_iload hx hb dJ1_indexOfChar_4cfef_22 (lv_at hl 0 rfl) ?_
        exact hret _ _ _ _ dJ1_indexOfChar_4cfef_24 rfl hr
  refine lv_iload_n hx hb dJ1_indexOfChar_4cfef_0 rfl (lv_at hl 1 rfl) ?_
  refine lv_i2b hx hb dJ1_indexOfChar_4cfef_1 rfl ?_
  refine lv_istore (lv' := [(4, .int x.toInt8.toInt32), (0, .ref v), (1, .int x), (2, .int 0), (3, .int (Int32.ofNat bs.length))]) hx hb dJ1_indexOfChar_4cfef_2 hl (by decide) rfl (fun ls hl => ?_)
  refine lv_iload_n hx hb dJ1_indexOfChar_4cfef_4 rfl (lv_at hl 3 rfl) ?_
  refine lv_istore (lv' := [(5, .int (Int32.ofNat 0)), (4, .int x.toInt8.toInt32), (0, .ref v), (1, .int x), (2, .int 0), (3, .int (Int32.ofNat bs.length))]) hx hb dJ1_indexOfChar_4cfef_5 hl (by decide) rfl (fun ls hl => ?_)
  exact loop bs 0 (Nat.zero_le _) rfl rfl ls hl
set_option maxHeartbeats 4000000 in
set_option maxRecDepth 100000 in
theorem kJ1_indexOf_4cfef (l : Launch) (a v : Nat) (bs : List Int32) (x : Int32) (ok : okB bs = true) : PrI l yJ1_indexOf_4cfef cJ1_indexOf_4cfef 4 .int ({ frames := 1, cells := 0, slots := 0, locals := 40 } : Room) (fun U => JP nA a v bs U U.heap) [.ref v, .int x, .int 0, .int (Int32.ofNat bs.length)] (sIx bs x) := by
  refine prMet (by decide +kernel) rfl (fun p e s m args below meth c Q C hJ hret ls hl => ?_)
  have hx := C.1
  have hb := C.2.1
  have hS : va_S nA s.heap s.heap [] := va_S.rf
  have hl : lv_has ls 4 [(0, .ref v), (1, .int x), (2, .int 0), (3, .int (Int32.ofNat bs.length))] := hl
  have hlt := okB_lt ok
  have out : (x < 0 ∨ 255 < x) → ∀ (l2 : List Int32) (k : Nat), (∀ b ∈ l2, 0 ≤ b ∧ b ≤ 127) → sIxF x l2 k = -1 := by
    intro hx9 l2
    induction l2 with
    | nil => intro k _; rfl
    | cons b0 l2 ih =>
      intro k hb0
      rw [sIxF, if_neg ?_]
      · exact ih _ (fun b hb => hb0 b (List.mem_cons_of_mem _ hb))
      · intro q
        have h1 := (hb0 b0 (List.mem_cons_self ..)).1
        have h2 := (hb0 b0 (List.mem_cons_self ..)).2
        rw [q] at h1 h2
        rcases hx9 with z | z
        · exact absurd h1 (Int32.not_le.mpr z)
        · exact absurd (Int32.lt_of_lt_of_le (show (127 : Int32) < 255 by decide) (Int32.le_trans (Int32.le_of_lt z) h2)) (by decide)
  refine lv_iload_n hx hb dJ1_indexOf_4cfef_0 rfl (lv_at hl 1 rfl) ?_
  refine prS C tt_blind (fun U hU hW => trivial) (kJ1_canEncode_9a6ad l x) mJ1_canEncode_9a6ad qLJ1_88 ⟨rfl, rfl⟩ ⟨Nat.le_of_ble_eq_true rfl, Nat.le_of_ble_eq_true rfl⟩ rfl hl.1 rfl (Nat.le_of_ble_eq_true rfl) dJ1_indexOf_4cfef_1 ⟨Nat.le_of_ble_eq_true rfl, Nat.le_of_ble_eq_true rfl⟩ ?_
  refine lv_if_ne (tgt := 9) hx hb dJ1_indexOf_4cfef_4 (by decide) (fun c1 => ?_) (fun c1 => ?_)
  · have h0 : ¬ x < 0 := fun q => c1 (by rw [if_pos q])
    have h1 : ¬ 255 < x := fun q => c1 (by rw [if_neg h0, if_pos q])
    refine lv_iload_n hx hb dJ1_indexOf_4cfef_9 rfl (lv_at hl 2 rfl) ?_
    refine lv_iconst (v := 0) hx hb dJ1_indexOf_4cfef_10 (by decide) ?_
    refine va_mmax hx hb (C.2.2.1.trans hl.1.symm) C.2.2.2.1 (C.2.2.2.2 _ qLJ1_92) (C.2.2.2.2 _ qMs_max) (C.2.2.2.2 _ qMi) (C.2.2.2.2 _ qMc_max) (Nat.le_of_ble_eq_true rfl) (Nat.le_of_ble_eq_true rfl) (Nat.le_of_ble_eq_true rfl) (Nat.le_of_ble_eq_true rfl) dJ1_indexOf_4cfef_11 ?_
    refine lv_istore_n (lv' := [(2, .int 0), (0, .ref v), (1, .int x), (3, .int (Int32.ofNat bs.length))]) hx hb dJ1_indexOf_4cfef_14 rfl hl (by decide) rfl (fun ls hl => ?_)
    refine lv_iload_n hx hb dJ1_indexOf_4cfef_15 rfl (lv_at hl 3 rfl) ?_
    refine lv_aload_n hx hb dJ1_indexOf_4cfef_16 rfl (lv_at hl 1 rfl) ?_
    refine va_tlen hx hb hJ.2.2.2.2.2 hS rfl dJ1_indexOf_4cfef_17 ?_
    refine va_mmin hx hb (C.2.2.1.trans hl.1.symm) C.2.2.2.1 (C.2.2.2.2 _ qLJ1_38) (C.2.2.2.2 _ qMs_min) (C.2.2.2.2 _ qMi) (C.2.2.2.2 _ qMc_min) (Nat.le_of_ble_eq_true rfl) (Nat.le_of_ble_eq_true rfl) (Nat.le_of_ble_eq_true rfl) (Nat.le_of_ble_eq_true rfl) dJ1_indexOf_4cfef_18 ?_
    rw [ite_self]
    refine lv_istore_n (lv' := [(3, .int (Int32.ofNat bs.length)), (2, .int 0), (0, .ref v), (1, .int x)]) hx hb dJ1_indexOf_4cfef_21 rfl hl (by decide) rfl (fun ls hl => ?_)
    refine lv_iload_n hx hb dJ1_indexOf_4cfef_22 rfl (lv_at hl 1 rfl) ?_
    refine lv_iload_n hx hb dJ1_indexOf_4cfef_23 rfl (lv_at hl 0 rfl) ?_
    refine lv_icmp_lt (tgt := 29) hx hb dJ1_indexOf_4cfef_24 (by decide) (fun c2 => ?_) (fun c2 => ?_)
    · refine lv_aload_n hx hb dJ1_indexOf_4cfef_29 rfl (lv_at hl 2 rfl) ?_
      refine lv_iload_n hx hb dJ1_indexOf_4cfef_30 rfl (lv_at hl 3 rfl) ?_
      refine lv_iload_n hx hb dJ1_indexOf_4cfef_31 rfl (lv_at hl 1 rfl) ?_
      refine lv_iload_n hx hb dJ1_indexOf_4cfef_32 rfl (lv_at hl 0 rfl) ?_
      refine prS C JP.blind (fun U hU hW => JP.use hJ hS hU hW) (kJ1_indexOfChar_4cfef l a v bs x ok h0 h1) mJ1_indexOfChar_4cfef qLJ1_95 ⟨rfl, rfl⟩ ⟨Nat.le_of_ble_eq_true rfl, Nat.le_of_ble_eq_true rfl⟩ rfl hl.1 rfl (Nat.le_of_ble_eq_true rfl) dJ1_indexOf_4cfef_33 ⟨Nat.le_of_ble_eq_true rfl, Nat.le_of_ble_eq_true rfl⟩ ?_
      exact hret _ _ _ _ dJ1_indexOf_4cfef_36 rfl rfl
    · refine lv_iconst (v := -1) hx hb dJ1_indexOf_4cfef_27 (by decide) ?_
      have e : bs = [] := by
        cases bs with
        | nil => rfl
        | cons b0 l2 => exact absurd (nI_lt (a := 0) (b := (b0 :: l2).length) (Nat.succ_pos _) (by omega)) c2
      subst e
      exact hret _ _ _ _ dJ1_indexOf_4cfef_28 rfl rfl
  · have q : x < 0 ∨ 255 < x := by
      by_cases z : x < 0
      · exact Or.inl z
      · by_cases z2 : 255 < x
        · exact Or.inr z2
        · rw [if_neg z, if_neg z2] at c1
          exact absurd c1 (by decide)
    refine lv_iconst (v := -1) hx hb dJ1_indexOf_4cfef_7 (by decide) ?_
    exact hret _ _ _ _ dJ1_indexOf_4cfef_8 rfl (out q bs 0 (okB_all ok)).symm
set_option maxHeartbeats 4000000 in
set_option maxRecDepth 100000 in
theorem kJ0_indexOf_7cf53 (l : Launch) (a v : Nat) (bs : List Int32) (x : Int32) (ok : okB bs = true) : PrI l yJ0_indexOf_7cf53 cJ0_indexOf_7cf53 3 .int ({ frames := 2, cells := 0, slots := 0, locals := 63 } : Room) (fun U => JP nA a v bs U U.heap) [.ref a, .int x, .int 0] (sIx bs x) := by
  refine prMet (by decide +kernel) rfl (fun p e s m args below meth c Q C hJ hret ls hl => ?_)
  have hx := C.1
  have hb := C.2.1
  have hS : va_S nA s.heap s.heap [] := va_S.rf
  have hl : lv_has ls 3 [(0, .ref a), (1, .int x), (2, .int 0)] := hl
  refine lv_aload_n hx hb dJ0_indexOf_7cf53_0 rfl (lv_at hl 0 rfl) ?_
  refine prV C JP.blind (JP.recv hJ hS) (fun U hU hW => JP.use hJ hS hU hW) (kJ0_isLatin1_aae02 l a v bs) mJ0_isLatin1_aae02 qLJ0_492 ⟨rfl, rfl⟩ ⟨Nat.le_of_ble_eq_true rfl, Nat.le_of_ble_eq_true rfl⟩ rfl hl.1 rfl (Nat.le_of_ble_eq_true rfl) dJ0_indexOf_7cf53_1 ⟨Nat.le_of_ble_eq_true rfl, Nat.le_of_ble_eq_true rfl⟩ ?_
  refine lv_if_eq (tgt := 23) hx hb dJ0_indexOf_7cf53_4 (by decide) (fun c1 => absurd c1 (by decide)) (fun c1 => ?_)
  refine lv_aload_n hx hb dJ0_indexOf_7cf53_7 rfl (lv_at hl 0 rfl) ?_
  refine vk_getf hx hb hJ.2.2.2.2.1 hS C.2.2.2.1 (C.2.2.2.2 _ qFJ0_9) (fun _ h => h) dJ0_indexOf_7cf53_8 ?_
  refine lv_iload_n hx hb dJ0_indexOf_7cf53_11 rfl (lv_at hl 1 rfl) ?_
  refine lv_iload_n hx hb dJ0_indexOf_7cf53_12 rfl (lv_at hl 2 rfl) ?_
  refine lv_aload_n hx hb dJ0_indexOf_7cf53_13 rfl (lv_at hl 0 rfl) ?_
  refine prV C JP.blind (JP.recv hJ hS) (fun U hU hW => JP.use hJ hS hU hW) (kJ0_length_8abf5 l a v bs ok) mJ0_length_8abf5 qLJ0_505 ⟨rfl, rfl⟩ ⟨Nat.le_of_ble_eq_true rfl, Nat.le_of_ble_eq_true rfl⟩ rfl hl.1 rfl (Nat.le_of_ble_eq_true rfl) dJ0_indexOf_7cf53_14 ⟨Nat.le_of_ble_eq_true rfl, Nat.le_of_ble_eq_true rfl⟩ ?_
  refine prS C JP.blind (fun U hU hW => JP.use hJ hS hU hW) (kJ1_indexOf_4cfef l a v bs x ok) mJ1_indexOf_4cfef qLJ0_637 ⟨rfl, rfl⟩ ⟨Nat.le_of_ble_eq_true rfl, Nat.le_of_ble_eq_true rfl⟩ rfl hl.1 rfl (Nat.le_of_ble_eq_true rfl) dJ0_indexOf_7cf53_17 ⟨Nat.le_of_ble_eq_true rfl, Nat.le_of_ble_eq_true rfl⟩ ?_
  refine lv_goto (tgt := 36) hx hb dJ0_indexOf_7cf53_20 (by decide) ?_
  exact hret _ _ _ _ dJ0_indexOf_7cf53_36 rfl rfl
set_option maxHeartbeats 4000000 in
set_option maxRecDepth 100000 in
theorem kJ0_indexOf_0f7a4 (l : Launch) (a v : Nat) (bs : List Int32) (x : Int32) (ok : okB bs = true) : PrI l yJ0_indexOf_0f7a4 cJ0_indexOf_0f7a4 2 .int ({ frames := 3, cells := 0, slots := 0, locals := 85 } : Room) (fun U => JP nA a v bs U U.heap) [.ref a, .int x] (sIx bs x) := by
  refine prMet (by decide +kernel) rfl (fun p e s m args below meth c Q C hJ hret ls hl => ?_)
  have hx := C.1
  have hb := C.2.1
  have hS : va_S nA s.heap s.heap [] := va_S.rf
  have hl : lv_has ls 2 [(0, .ref a), (1, .int x)] := hl
  refine lv_aload_n hx hb dJ0_indexOf_0f7a4_0 rfl (lv_at hl 0 rfl) ?_
  refine lv_iload_n hx hb dJ0_indexOf_0f7a4_1 rfl (lv_at hl 1 rfl) ?_
  refine lv_iconst (v := 0) hx hb dJ0_indexOf_0f7a4_2 (by decide) ?_
  refine prV C JP.blind (JP.recv hJ hS) (fun U hU hW => JP.use hJ hS hU hW) (kJ0_indexOf_7cf53 l a v bs x ok) mJ0_indexOf_7cf53 qLJ0_633 ⟨rfl, rfl⟩ ⟨Nat.le_of_ble_eq_true rfl, Nat.le_of_ble_eq_true rfl⟩ rfl hl.1 rfl (Nat.le_of_ble_eq_true rfl) dJ0_indexOf_0f7a4_3 ⟨Nat.le_of_ble_eq_true rfl, Nat.le_of_ble_eq_true rfl⟩ ?_
  exact hret _ _ _ _ dJ0_indexOf_0f7a4_6 rfl rfl
set_option maxHeartbeats 4000000 in
set_option maxRecDepth 100000 in
theorem kX5_signsOf_0 (l : Launch) (a : Nat) (p0 : Int32) (h : p0 = 0) : PrR l yX5_signsOf cX5_signsOf 1 (.object "java/lang/String") ({ frames := 0, cells := 0, slots := 0, locals := 0 } : Room) (vk_R RX5 72 "000" a) [.int p0] a := by
  refine prMetR (Or.inl ⟨_, rfl⟩) (by decide +kernel) rfl (fun p e s m args below meth c Q C hJ hret ls hl => ?_)
  have hx := C.1
  have hb := C.2.1
  have hl : lv_has ls 1 [(0, .int p0)] := hl
  refine lv_iload_n hx hb dX5_signsOf_0 rfl (lv_at hl 0 rfl) ?_
  subst h
  refine lv_tableIn (tgt := 36) hx hb dX5_signsOf_1 (by decide) (by decide) rfl (by decide) ?_
  refine va_ldcS hx hb C.2.2.2.1 hJ dX5_signsOf_36 ?_
  exact hret _ _ _ dX5_signsOf_38 rfl
set_option maxHeartbeats 4000000 in
set_option maxRecDepth 100000 in
theorem kX5_signsOf_1 (l : Launch) (a : Nat) (p0 : Int32) (h : p0 = 1) : PrR l yX5_signsOf cX5_signsOf 1 (.object "java/lang/String") ({ frames := 0, cells := 0, slots := 0, locals := 0 } : Room) (vk_R RX5 74 "0@0" a) [.int p0] a := by
  refine prMetR (Or.inl ⟨_, rfl⟩) (by decide +kernel) rfl (fun p e s m args below meth c Q C hJ hret ls hl => ?_)
  have hx := C.1
  have hb := C.2.1
  have hl : lv_has ls 1 [(0, .int p0)] := hl
  refine lv_iload_n hx hb dX5_signsOf_0 rfl (lv_at hl 0 rfl) ?_
  subst h
  refine lv_tableIn (tgt := 39) hx hb dX5_signsOf_1 (by decide) (by decide) rfl (by decide) ?_
  refine va_ldcS hx hb C.2.2.2.1 hJ dX5_signsOf_39 ?_
  exact hret _ _ _ dX5_signsOf_41 rfl
set_option maxHeartbeats 4000000 in
set_option maxRecDepth 100000 in
theorem kX5_signsOf_2 (l : Launch) (a : Nat) (p0 : Int32) (h : p0 = 2) : PrR l yX5_signsOf cX5_signsOf 1 (.object "java/lang/String") ({ frames := 0, cells := 0, slots := 0, locals := 0 } : Room) (vk_R RX5 76 "0n0" a) [.int p0] a := by
  refine prMetR (Or.inl ⟨_, rfl⟩) (by decide +kernel) rfl (fun p e s m args below meth c Q C hJ hret ls hl => ?_)
  have hx := C.1
  have hb := C.2.1
  have hl : lv_has ls 1 [(0, .int p0)] := hl
  refine lv_iload_n hx hb dX5_signsOf_0 rfl (lv_at hl 0 rfl) ?_
  subst h
  refine lv_tableIn (tgt := 42) hx hb dX5_signsOf_1 (by decide) (by decide) rfl (by decide) ?_
  refine va_ldcS hx hb C.2.2.2.1 hJ dX5_signsOf_42 ?_
  exact hret _ _ _ dX5_signsOf_44 rfl
set_option maxHeartbeats 4000000 in
set_option maxRecDepth 100000 in
theorem kX5_signsOf_3 (l : Launch) (a : Nat) (p0 : Int32) (h : p0 = 3) : PrR l yX5_signsOf cX5_signsOf 1 (.object "java/lang/String") ({ frames := 0, cells := 0, slots := 0, locals := 0 } : Room) (vk_R RX5 78 "0" a) [.int p0] a := by
  refine prMetR (Or.inl ⟨_, rfl⟩) (by decide +kernel) rfl (fun p e s m args below meth c Q C hJ hret ls hl => ?_)
  have hx := C.1
  have hb := C.2.1
  have hl : lv_has ls 1 [(0, .int p0)] := hl
  refine lv_iload_n hx hb dX5_signsOf_0 rfl (lv_at hl 0 rfl) ?_
  subst h
  refine lv_tableIn (tgt := 45) hx hb dX5_signsOf_1 (by decide) (by decide) rfl (by decide) ?_
  refine va_ldcS hx hb C.2.2.2.1 hJ dX5_signsOf_45 ?_
  exact hret _ _ _ dX5_signsOf_47 rfl
set_option maxHeartbeats 4000000 in
set_option maxRecDepth 100000 in
theorem kX5_signsOf_4 (l : Launch) (a : Nat) (p0 : Int32) (h : p0 = 4) : PrR l yX5_signsOf cX5_signsOf 1 (.object "java/lang/String") ({ frames := 0, cells := 0, slots := 0, locals := 0 } : Room) (vk_R RX5 80 "00" a) [.int p0] a := by
  refine prMetR (Or.inl ⟨_, rfl⟩) (by decide +kernel) rfl (fun p e s m args below meth c Q C hJ hret ls hl => ?_)
  have hx := C.1
  have hb := C.2.1
  have hl : lv_has ls 1 [(0, .int p0)] := hl
  refine lv_iload_n hx hb dX5_signsOf_0 rfl (lv_at hl 0 rfl) ?_
  subst h
  refine lv_tableIn (tgt := 48) hx hb dX5_signsOf_1 (by decide) (by decide) rfl (by decide) ?_
  refine va_ldcS hx hb C.2.2.2.1 hJ dX5_signsOf_48 ?_
  exact hret _ _ _ dX5_signsOf_50 rfl
set_option maxHeartbeats 4000000 in
set_option maxRecDepth 100000 in
theorem kX5_signsOf_5 (l : Launch) (a : Nat) (p0 : Int32) (h0 : ¬ p0 = 0) (h1 : ¬ p0 = 1) (h2 : ¬ p0 = 2) (h3 : ¬ p0 = 3) (h4 : ¬ p0 = 4) : PrR l yX5_signsOf cX5_signsOf 1 (.object "java/lang/String") ({ frames := 0, cells := 0, slots := 0, locals := 0 } : Room) (vk_R RX5 82 "" a) [.int p0] a := by
  refine prMetR (Or.inl ⟨_, rfl⟩) (by decide +kernel) rfl (fun p e s m args below meth c Q C hJ hret ls hl => ?_)
  have hx := C.1
  have hb := C.2.1
  have hl : lv_has ls 1 [(0, .int p0)] := hl
  refine lv_iload_n hx hb dX5_signsOf_0 rfl (lv_at hl 0 rfl) ?_
  refine lv_tableOut (tgt := 51) hx hb dX5_signsOf_1 (by have t0 := tI0 (0 : Int) rfl h0; have t1 := tI0 1 rfl h1; have t2 := tI0 2 rfl h2; have t3 := tI0 3 rfl h3; have t4 := tI0 4 rfl h4; omega) (by decide) ?_
  refine va_ldcS hx hb C.2.2.2.1 hJ dX5_signsOf_51 ?_
  exact hret _ _ _ dX5_signsOf_53 rfl
theorem vkR_blind {own tx : String} {k a : Nat} {as : List Value} : FrameBlind (va_Pc as (vk_R own k tx a)) := fun q U g mk h => ⟨h.1, vk_R.same rfl h.2⟩
