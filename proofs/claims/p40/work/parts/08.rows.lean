/-! the super rows: calls and ends over this claim's worlds -/
abbrev kC : List vw_C := [(RX0, TX0, 2), (RX1, TX1, 2), (RX2, TX2, 3), (RX3, TX3, 2), (RX4, TX4, 4), (RX5, TX5, 7), (RX6, TX6, 3), (RX7, TX7, 14), (RJ4, TJ4, 4), (RJ0, TJ0, 4)]
abbrev kT (T : Nat → ClassId) : List (ClassId × FieldType) := [(T 0, .int), (T 1, .boolean), (T 2, .char), (T 3, .object RX1), (T 4, .byte)]
/-- links between nest mates -/
def kN : List (String × Nat × MethodName) := [(RX7, 56, yX5_init), (RX7, 63, yX3_init), (RX1, 40, yX7_isEdge), (RX1, 44, yX7_tideByDividing), (RX4, 26, yX7_isCell), (RX4, 45, yX7_nextCell), (RX0, 33, yX7_nextCell), (RX0, 37, yX7_isCell), (RX0, 40, yX7_isGoalEnd), (RX0, 44, yX7_goalAt), (RX1, 56, yX7_between), (RX0, 53, yX7_cellsAhead), (RX0, 67, yX7_stride), (RX6, 23, yX7_isTeam), (RX6, 65, yX7_isCell), (RX6, 74, yX7_tideByDividing), (RX6, 89, yX7_isWay), (RX6, 92, yX7_isForce), (RX6, 98, yX7_between)]
theorem ite_t {c : Prop} {i : Decidable c} {α : Sort _} {a b r : α} (hc : c) (h : @ite α c i a b = r) : a = r := by rw [if_pos hc] at h; exact h
theorem ite_f {c : Prop} {i : Decidable c} {α : Sort _} {a b r : α} (hc : ¬ c) (h : @ite α c i a b = r) : b = r := by rw [if_neg hc] at h; exact h
theorem gd {c : Prop} {i : Decidable c} {α : Type} {a : Option α} {r : α} (h : @ite (Option α) c i a none = some r) : c ∧ a = some r := by
  by_cases hc : c
  · rw [if_pos hc] at h; exact ⟨hc, h⟩
  · rw [if_neg hc] at h; cases h
theorem bnd {α β : Type} {x : Option α} {f : α → Option β} {r : β} (h : x.bind f = some r) : ∃ q, x = some q ∧ f q = some r := by
  cases x with
  | none => cases h
  | some q => exact ⟨q, rfl, h⟩
theorem map_filt {α : Type} {f : Nat → Option α} : ∀ {is : List Nat} {l : List α}, is.map f = l.map some → is.filterMap f = l
  | [], [], _ => rfl
  | [], _ :: _, h => by simp at h
  | _ :: _, [], h => by simp at h
  | i :: is, a :: l, h => by
    simp only [List.map_cons, List.cons.injEq] at h
    rw [List.filterMap_cons, h.1, map_filt h.2]
def kD : List MethodName := [⟨"java/lang/RuntimeException", "<init>", "()V"⟩, ⟨"java/lang/RuntimeException", "<init>", "(Ljava/lang/String;)V"⟩, ⟨"java/lang/Exception", "<init>", "()V"⟩, ⟨"java/lang/Exception", "<init>", "(Ljava/lang/String;)V"⟩, ⟨"java/lang/Throwable", "<init>", "()V"⟩, ⟨"java/lang/Throwable", "<init>", "(Ljava/lang/String;)V"⟩, ⟨"java/lang/IndexOutOfBoundsException", "<init>", "()V"⟩, ⟨"java/lang/IndexOutOfBoundsException", "<init>", "(Ljava/lang/String;)V"⟩]
def kCa : List (String × String) := [("java/lang/IllegalArgumentException", "java/lang/IllegalArgumentException"), ("java/lang/UnsupportedOperationException", "java/lang/UnsupportedOperationException"), ("java/lang/IndexOutOfBoundsException", "java/lang/IndexOutOfBoundsException"), ("java/util/NoSuchElementException", "java/util/NoSuchElementException"), ("java/lang/IllegalStateException", "java/lang/IllegalStateException")]
def kNc : List (String × String) := [("java/lang/IllegalArgumentException", "java/lang/UnsupportedOperationException"), ("java/lang/IllegalArgumentException", "java/lang/IndexOutOfBoundsException"), ("java/lang/IllegalArgumentException", "java/util/NoSuchElementException"), ("java/lang/IllegalArgumentException", "java/lang/IllegalStateException"), ("java/lang/UnsupportedOperationException", "java/lang/IllegalArgumentException"), ("java/lang/UnsupportedOperationException", "java/lang/IndexOutOfBoundsException"), ("java/lang/UnsupportedOperationException", "java/util/NoSuchElementException"), ("java/lang/UnsupportedOperationException", "java/lang/IllegalStateException"), ("java/lang/IndexOutOfBoundsException", "java/lang/IllegalArgumentException"), ("java/lang/IndexOutOfBoundsException", "java/lang/UnsupportedOperationException"), ("java/lang/IndexOutOfBoundsException", "java/util/NoSuchElementException"), ("java/lang/IndexOutOfBoundsException", "java/lang/IllegalStateException"), ("java/util/NoSuchElementException", "java/lang/IllegalArgumentException"), ("java/util/NoSuchElementException", "java/lang/UnsupportedOperationException"), ("java/util/NoSuchElementException", "java/lang/IndexOutOfBoundsException"), ("java/util/NoSuchElementException", "java/lang/IllegalStateException"), ("java/lang/IllegalStateException", "java/lang/IllegalArgumentException"), ("java/lang/IllegalStateException", "java/lang/UnsupportedOperationException"), ("java/lang/IllegalStateException", "java/lang/IndexOutOfBoundsException"), ("java/lang/IllegalStateException", "java/util/NoSuchElementException")]
def kS : List (String × Nat × String) := [(RX7, 378, "a number is out of range"), (RX7, 380, "refused"), (RX7, 376, "no such whale or cell"), (RX7, 387, "no such whale"), (RX7, 143, "no such number of a whale"), (RX7, 392, "no such cell"), (RX7, 394, "the clock is out of range"), (RX7, 175, "this cell is never dry"), (RX7, 407, "no such way or force"), (RX7, 230, "no strike is good for its team"), (RX7, 399, "no such team"), (RX7, 241, "no such order"), (RX7, 246, "no such place"), (RX7, 251, "no calf on the bench"), (RX7, 267, "no such row"), (RX7, 303, "no such account"), (RX7, 312, "no character for the input"), (RX7, 316, "the input is full"), (RX7, 326, "the input is malformed"), (RX7, 382, "a command tells what there is not"), (RX7, 357, "a command is refused"), (RX7, 366, "no change is remembered"), (RX7, 371, "nothing was saved")]
theorem nc_moved {C T : String} {u U : State} (hvm : u.vm.Alike U.vm) (h : va_Nc C T u) : va_Nc C T U := by
  obtain ⟨c, t, h1, h2, h3⟩ := h
  exact ⟨c, t, by rw [hvm.findClass]; exact h1, by rw [hvm.findClass]; exact h2, by rw [hvm.assignable]; exact h3⟩
/-- what every method is told of the tables -/
def eK (D : va_G) (T : Nat → ClassId) (U : State) : Prop := va_K D kC (kT T) U ∧ (∀ q ∈ kN, va_Nw (.methodLinkNest q.1 q.2.1 q.2.2 RX7) U) ∧ (∀ q ∈ kD, va_Nw (.declares q) U) ∧ (∀ q ∈ kCa, va_Nw (.castable q.1 q.2) U) ∧ (∀ q ∈ kNc, va_Nc q.1 q.2 U) ∧ ∀ q ∈ kS, ∃ a, vk_R q.1 q.2.1 q.2.2 a U
theorem eK.moved {D : va_G} {T : Nat → ClassId} {u U : State} (hW : u.WarmedH U.vm) (h : eK D T u) : eK D T U :=
  ⟨va_K.moved hW.alike h.1, fun q hq => va_Nw.warmM hW (h.2.1 q hq), fun q hq => va_Nw.warmD hW (h.2.2.1 q hq), fun q hq => va_Nw.warmC hW (h.2.2.2.1 q hq), fun q hq => nc_moved hW.alike (h.2.2.2.2.1 q hq), fun q hq => (h.2.2.2.2.2 q hq).elim fun a ha => ⟨a, vk_R.warm hW ha⟩⟩
theorem eK.calling {D : va_G} {T : Nat → ClassId} {U : State} (g : JFrame) (mk : MethodId) (a : Array Value) (h : eK D T U) : eK D T (U.calling g mk a) :=
  ⟨va_K.moved (u := U) (U := U.calling g mk a) (Vm.Alike.refl U.vm) h.1, fun q hq => va_Nw.same rfl (rfl : U.vm = (U.calling g mk a).vm) (h.2.1 q hq), fun q hq => va_Nw.same rfl (rfl : U.vm = (U.calling g mk a).vm) (h.2.2.1 q hq), fun q hq => va_Nw.same rfl (rfl : U.vm = (U.calling g mk a).vm) (h.2.2.2.1 q hq), fun q hq => nc_moved (u := U) (U := U.calling g mk a) (Vm.Alike.refl U.vm) (h.2.2.2.2.1 q hq), fun q hq => (h.2.2.2.2.2 q hq).elim fun b hb => ⟨b, vk_R.same (rfl : (U.calling g mk a).vm = U.vm) hb⟩⟩
def RdP (D : va_G) (T : Nat → ClassId) (ws : va_W) (U : State) : Prop := va_P D kC ws U.heap ∧ eK D T U
theorem RdP.blind {as : List Value} {D : va_G} {T : Nat → ClassId} {ws : va_W} : FrameBlind (va_Pc as (RdP D T ws)) := fun a U g mk h => ⟨h.1, h.2.1, h.2.2.calling g mk a⟩
/-- a method that reads alone, and answers r -/
def RdI (l : Launch) (y : MethodName) (b : ByteArray) (n : Nat) (ty : FieldType) (rm : Room) (D : va_G) (T : Nat → ClassId) (ws : va_W) (as : List Value) (r : Int32) : Prop :=
  Met l y (.code y b n (some ty) :: aw) rm (va_Pc as (RdP D T ws)) (vp_Si (fun x => x = r)) 0 0 (fun _ => False)
/-- what a call needs of its callee's tables -/
def MB (y : MethodName) (b : ByteArray) (n : Nat) (ret : Option FieldType) (k : Nat) : Prop := Cond.initialized y.cls ∈ aw ∧ Cond.code y b n ret ∈ aw ∧ (y.cls ≠ "java/lang/invoke/MethodHandle" ∧ y.cls ≠ "java/lang/invoke/VarHandle") ∧ (parseMethodDescriptor y.desc).map (fun d => d.parameters.length) = some k
def MV (y : MethodName) (b : ByteArray) (n : Nat) (ret : Option FieldType) (k : Nat) : Prop := MB y b n ret k ∧ Cond.instanceMethod y ∈ aw ∧ Cond.selects y.cls y y ∈ aw
def MS (y : MethodName) (b : ByteArray) (n : Nat) (ret : Option FieldType) (k : Nat) : Prop := MB y b n ret k ∧ Cond.static y ∈ aw
theorem MB.good {y : MethodName} {b : ByteArray} {n : Nat} {ret : Option FieldType} {k : Nat} (h : MB y b n ret k) : GoodIn aw (.code y b n ret :: aw) := aw_goodIn (fun w hw => (List.mem_cons.mp hw).elim (fun e => e ▸ h.2.1) id)
/-- both facts of a world at once -/
def va_PD (D : va_G) (A : Nat → Prop) (ws : va_W) (H : Heap) : Prop := va_P D kC ws H ∧ va_D A ws
def nthW {α : Type} : List α → Nat → Option α
  | [], _ => none
  | a :: _, 0 => some a
  | _ :: l, n + 1 => nthW l n
theorem nthW_eq {α : Type} : ∀ (l : List α) (i : Nat), nthW l i = l[i]?
  | [], _ => rfl
  | _ :: _, 0 => rfl
  | _ :: l, n + 1 => nthW_eq l n
/-- the cells at places: written so that a look at two worlds never compares them whole -/
def getW {α : Type} (ws : List α) : List Nat → List (Option α)
  | [] => []
  | i :: t => nthW ws i :: getW ws t
theorem getW_eq {α : Type} (ws : List α) : ∀ is : List Nat, getW ws is = is.map (fun i => ws[i]?)
  | [] => rfl
  | i :: t => by rw [getW, nthW_eq, getW_eq ws t]; rfl
def fstW {α β : Type} : List (α × β) → List α
  | [] => []
  | q :: t => q.1 :: fstW t
theorem fstW_eq {α β : Type} : ∀ ws : List (α × β), fstW ws = ws.map Prod.fst
  | [] => rfl
  | q :: t => by rw [fstW, fstW_eq t]; rfl
section ROWS
variable {p : Program} {l : Launch} {e : Env} {R : Room} {s : State} {m : MethodId} {args : Array Value} {below : List Frame} {meth : Method} {c : Code} {H : Heap} {locs : List Loc} {cells slots : Nat} {Q : State → Prop} {pc : Nat} {ls : Array Slot} {rest st : List Value}
variable {D : va_G} {T : Nat → ClassId} {ws wc wc1 ws1 : va_W} {cc b : ByteArray} {nL n k idx mc ms : Nat} {own : String} {y : MethodName} {ty : FieldType} {ret : Option FieldType} {rm : Room} {as : List Value} {r : Int32} {A : Nat → Prop} {H0 : Heap}
theorem cwB (ht : ∀ w ∈ aw, w.before args s = true) (hl : Cond.methodLink own idx y ∈ aw) (hm : MB y b n ret k) (hrc : rm.cells = mc) (hrs : rm.slots = ms) (hR : rm.frames + 1 ≤ R.frames ∧ 8 + (n + 11) + rm.locals ≤ R.locals) : CallB R s args own idx y b n ret (.code y b n ret :: aw) rm mc ms k :=
  callB_of k ht hm.good rfl hrc hrs (ht _ hm.1) (ht _ hl) ⟨hm.2.2.1.1, hm.2.2.1.2, hm.2.2.2⟩ hR
theorem cwV2 (ht : ∀ w ∈ aw, w.before args s = true) (hl : Cond.methodLink own idx y ∈ aw) (hm : MV y b n ret k) (hrc : rm.cells = mc) (hrs : rm.slots = ms) (hR : rm.frames + 1 ≤ R.frames ∧ 8 + (n + 11) + rm.locals ≤ R.locals) : CallW R s args own y.cls idx y b n ret (.code y b n ret :: aw) rm mc ms k :=
  ⟨cwB ht hl hm.1 hrc hrs hR, ht _ hm.2.1, ht _ hm.2.2⟩
theorem cwS2 (ht : ∀ w ∈ aw, w.before args s = true) (hl : Cond.methodLink own idx y ∈ aw) (hm : MS y b n ret k) (hrc : rm.cells = mc) (hrs : rm.slots = ms) (hR : rm.frames + 1 ≤ R.frames ∧ 8 + (n + 11) + rm.locals ≤ R.locals) : CallB R s args own idx y b n ret (.code y b n ret :: aw) rm mc ms k ∧ (Cond.static y).before args s = true :=
  ⟨cwB ht hl hm.1 hrc hrs hR, ht _ hm.2⟩
theorem cwSN2 (ht : ∀ w ∈ aw, w.before args s = true) (hE : eK D T s) (hl : (own, idx, y) ∈ kN) (hm : MS y b n ret k) (hrc : rm.cells = mc) (hrs : rm.slots = ms) (hR : rm.frames + 1 ≤ R.frames ∧ 8 + (n + 11) + rm.locals ≤ R.locals) : va_CN R s args own idx y RX7 b n ret (.code y b n ret :: aw) rm mc ms k ∧ (Cond.static y).before args s = true ∧ True :=
  ⟨va_cnB k ht hm.1.good rfl hrc hrs (hE.2.1 _ hl) (ht _ hm.1.1) ⟨hm.1.2.2.1.1, hm.1.2.2.1.2, hm.1.2.2.2⟩ hR, ht _ hm.2, trivial⟩
theorem run_weak {g : JFrame} {Qa : State → Outcome → State → Prop} {free : Addr → Prop} (h : va_Run p l e R s m args below meth c H locs cells slots mc ms g rest Qa free) : CallRun p l e R s m args below meth c H locs cells slots mc ms g rest Qa free := fun T hT X => by
  obtain ⟨v, st₀, t, T', L, h0, X', hL, e1, e2, hq, g⟩ := h T hT X
  exact ⟨v, st₀, t, T', L, h0, X', hL, e1, hq, g⟩
theorem recvOf {q0 ci a : Nat} {fs : List Value} {q : vw_C} (hE : eK D T s) (hP : va_P D kC ws H) (he : ws[q0]? = some (a, .inr (ci, fs))) (hc : kC[ci]? = some q) (hq : q.1 = y.cls) : ∃ cell : Cell, H[a]? = some cell ∧ cell.vm.isStatics = false ∧ s.vm.findClass y.cls = some cell.cls := by
  rw [← hq]
  exact va_recv hE.1 hP hc he
theorem subOf {is : List Nat} (hP : va_P D kC ws H) (hC : is.map (fun i => ws[i]?) = wc.map some) : va_P D kC wc H := hP.sub is (map_filt hC)
/-- a virtual call of a reader -/
theorem rdV {a : Nat} (C : CallFix p m c cc nL s args aw own) (hE : eK D T s) (hP : va_P D kC ws H) (hM : RdI l y b n ty rm D T wc (.ref a :: as) r) (hm : MV y b n (some ty) k) (hl : Cond.methodLink own idx y ∈ aw) (is : List Nat) (q0 : Nat) {ci : Nat} {fs : List Value} {q : vw_C} (hC : is.map (fun i => ws[i]?) = wc.map some) (he : ws[q0]? = some (a, .inr (ci, fs))) (hc : kC[ci]? = some q) (hq : q.1 = y.cls)
    (hrm : rm.cells = 0 ∧ rm.slots = 0) (hR : rm.frames + 1 ≤ R.frames ∧ 8 + (n + 11) + rm.locals ≤ R.locals) (hk : as.length = k) (hsz : ls.size = nL) (hst : st = as.reverse ++ .ref a :: rest) (hW : (rest.map fun v => v.category).sum ≤ 8) (hd : decode cc pc = .ok (.invokevirtual idx, 3)) (hf : cells ≤ R.cells ∧ slots ≤ R.slots)
    (kk : W p l e R s m args below meth c H locs cells slots Q (F0 m (pc + 3) ls (.int r :: rest))) : W p l e R s m args below meth c H locs cells slots Q (F0 m pc ls st) :=
  vp_callSi (W.runV C hM (cwV2 C.2.2.2.2 hl hm hrm.1 hrm.2 hR) ⟨RdP.blind, recvOf hE hP he hc hq, fun U hU hW => ⟨rfl, by rw [hU]; exact subOf hP hC, hE.moved hW⟩⟩ rfl hk hsz hst (lv_room hW) hd hf) (fun _ e => by rw [e]; exact kk)
/-- a static call of a reader -/
theorem rdS (C : CallFix p m c cc nL s args aw own) (hE : eK D T s) (hP : va_P D kC ws H) (hM : RdI l y b n ty rm D T wc as r) (hm : MS y b n (some ty) k) (hl : Cond.methodLink own idx y ∈ aw) (is : List Nat) (hC : is.map (fun i => ws[i]?) = wc.map some)
    (hrm : rm.cells = 0 ∧ rm.slots = 0) (hR : rm.frames + 1 ≤ R.frames ∧ 8 + (n + 11) + rm.locals ≤ R.locals) (hk : as.length = k) (hsz : ls.size = nL) (hst : st = as.reverse ++ rest) (hW : (rest.map fun v => v.category).sum ≤ 8) (hd : decode cc pc = .ok (.invokestatic idx, 3)) (hf : cells ≤ R.cells ∧ slots ≤ R.slots)
    (kk : W p l e R s m args below meth c H locs cells slots Q (F0 m (pc + 3) ls (.int r :: rest))) : W p l e R s m args below meth c H locs cells slots Q (F0 m pc ls st) :=
  vp_callSi (W.runS C hM (cwS2 C.2.2.2.2 hl hm hrm.1 hrm.2 hR) ⟨RdP.blind, fun U hU hW => ⟨rfl, by rw [hU]; exact subOf hP hC, hE.moved hW⟩⟩ rfl hk hsz hst (lv_room hW) hd hf) (fun _ e => by rw [e]; exact kk)
/-- a static call of a nest mate's reader -/
theorem rdSN (C : CallFix p m c cc nL s args aw own) (hE : eK D T s) (hP : va_P D kC ws H) (hM : RdI l y b n ty rm D T wc as r) (hm : MS y b n (some ty) k) (hl : (own, idx, y) ∈ kN) (is : List Nat) (hC : is.map (fun i => ws[i]?) = wc.map some)
    (hrm : rm.cells = 0 ∧ rm.slots = 0) (hR : rm.frames + 1 ≤ R.frames ∧ 8 + (n + 11) + rm.locals ≤ R.locals) (hk : as.length = k) (hsz : ls.size = nL) (hst : st = as.reverse ++ rest) (hW : (rest.map fun v => v.category).sum ≤ 8) (hd : decode cc pc = .ok (.invokestatic idx, 3)) (hf : cells ≤ R.cells ∧ slots ≤ R.slots)
    (kk : W p l e R s m args below meth c H locs cells slots Q (F0 m (pc + 3) ls (.int r :: rest))) : W p l e R s m args below meth c H locs cells slots Q (F0 m pc ls st) :=
  vp_callSi (run_weak (va_runSN C hM (cwSN2 C.2.2.2.2 hE hl hm hrm.1 hrm.2 hR) ⟨RdP.blind, fun U hU hW => ⟨rfl, by rw [hU]; exact subOf hP hC, hE.moved hW⟩⟩ rfl hk hsz hst (lv_room hW) hd hf)) (fun _ e => by rw [e]; exact kk)
/-- the end of a method whose answer is narrowed -/
theorem W.nret {Qc : Array Value → State → Outcome → State → Prop} {free : Addr → Prop} {v w : Int32} (hexec : p.tables.exec = Jvm.exec) (hb : c.code = cc) (hr : meth.sig.returnType = some ty) (hn : narrow ty (.int v) = .int w)
    (hq : ∀ t : State, t.heap = H → s.WarmedH t.vm → Qc args s (.returned (some (.int w))) t) (hf : ∀ q ∈ locs, free q.base)
    (hdg : decode cc pc = .ok (.ireturn, 1)) (hlocks : meth.locks = false) : W p l e R s m args below meth c H locs cells slots (MQ below Qc args s cells slots free) (F0 m pc ls [.int v]) := by
  intro T hT X
  have hlocks : meth.locks = false := hlocks
  obtain ⟨fs, hret, hrun, hended, hW, hframe⟩ := X.leave (v := some (.int w)) (fun h => by rw [hr] at h; cases h)
  have hmeth' : T.vm.method? m = some meth := X.method'
  refine ⟨T.setFrames fs, ?_, .returned (some (.int w)), hrun, hended, hq _ hT hW, locs, ⟨⟨_, rfl⟩, hW, hframe⟩, hf⟩
  jvm_step X.here [X.here.top, hexec, hb, hdg, hmeth', hr, hn]
  (try refine ⟨rfl, ?_⟩); (try refine ⟨rfl, ?_⟩)
  first | (intro acts; rw [hret _ acts rfl rfl rfl]) | rw [hret _ _ rfl rfl rfl]
  exact Steps.refl _
def RdRet (p : Program) (l : Launch) (e : Env) (R : Room) (s : State) (m : MethodId) (args : Array Value) (below : List Frame) (meth : Method) (c : Code) (Q : State → Prop) (cc : ByteArray) (ty : FieldType) (r : Int32) : Prop :=
  ∀ (pc : Nat) (ls : Array Slot) (v w : Int32), decode cc pc = .ok (.ireturn, 1) → narrow ty (.int v) = .int w → w = r → W p l e R s m args below meth c s.heap [] 0 0 Q (F0 m pc ls [.int v])
theorem rdMet (hy : plainName y.cls = true) (hlen : Nat.ble (lg_sl as).length n = true) (body : ∀ (p : Program) (e : Env) (s : State) (m : MethodId) (args : Array Value) (below : List Frame) (meth : Method) (c : Code) (Q : State → Prop), CallFix p m c b n s args aw y.cls → eK D T s → va_P D kC ws s.heap → RdRet p l e rm s m args below meth c Q b ty r → ∀ ls : Array Slot, lv_has ls n (lv_args 0 as) → W p l e rm s m args below meth c s.heap [] 0 0 Q (F0 m 0 ls [])) : RdI l y b n ty rm D T ws as r := by
  refine Met.ofW (cc := b) (maxL := n) (ret := some ty) hy rfl ?_
  intro p e s m args below meth c s₁ B hml hv
  obtain ⟨rfl, hP, hE⟩ := hv
  have hts : ∀ w ∈ (Cond.code y b n (some ty) :: aw), w.before as.toArray s = true := atoms_spec (ws := .code y b n (some ty) :: aw) B.pre
  have hr := B.returns
  have hlocks := B.notSynchronized
  have hl := lv_entry as (n := n) (Nat.le_of_ble_eq_true hlen)
  rw [lg_entry_eq]
  exact body p e s m _ below meth c _ ⟨B.exec, B.bytes, hml, findClass_of_methodNamed B.named, fun w hw => hts w (List.mem_cons_of_mem _ hw)⟩ hE hP (fun pc ls v w hd hn hw => W.nret B.exec B.bytes hr hn (fun t ht _ => ⟨w, rfl, hw, ht⟩) (fun _ h => nomatch h) hd hlocks) _ hl
/-! ## methods that write -/
theorem addr_D (hD : va_D A ws) (ha : ws1.map Prod.fst = ws.map Prod.fst) : va_D A ws1 := by
  have at' : ∀ (i : Nat) (q : Nat × va_E), ws1[i]? = some q → ∃ e, ws[i]? = some (q.1, e) := by
    intro i q hq
    have h1 : (ws1.map Prod.fst)[i]? = some q.1 := by rw [List.getElem?_map, hq]; rfl
    rw [ha, List.getElem?_map] at h1
    cases hw : ws[i]? with
    | none => rw [hw] at h1; cases h1
    | some z =>
      rw [hw] at h1
      obtain ⟨z1, z2⟩ := z
      cases h1
      exact ⟨z2, rfl⟩
  refine ⟨fun i j x z hx hz hxz => ?_, fun i q hq => ?_⟩
  · obtain ⟨e1, h1⟩ := at' i x hx
    obtain ⟨e2, h2⟩ := at' j z hz
    exact hD.1 i j _ _ h1 h2 hxz
  · obtain ⟨e1, h1⟩ := at' i q hq
    have h2 := hD.2 i (q.1, e1) h1
    exact h2
theorem put_P {H1 : Heap} (hP : va_P D kC ws H) (hD : va_D A ws) (hk : ∀ q : Nat, q < H.size → ¬ va_A wc H.size q → H1[q]? = H[q]?) (hP1 : va_P D kC wc1 H1) {isC isR : List Nat} (hC : isC.map (fun i => ws[i]?) = wc.map some) (hC1 : isC.map (fun i => ws1[i]?) = wc1.map some) (hR1 : isR.map (fun i => ws1[i]?) = isR.map (fun i => ws[i]?)) (hcov : (List.range ws1.length).all (fun i => isC.contains i || isR.contains i) = true) : va_P D kC ws1 H1 := by
  intro i q hq
  have hi : i < ws1.length := (List.getElem?_eq_some_iff.mp hq).1
  have hc := List.all_eq_true.mp hcov i (List.mem_range.mpr hi)
  by_cases hiC : i ∈ isC
  · obtain ⟨j, hj⟩ := List.getElem?_of_mem hiC
    have h1 : (isC.map (fun i => ws1[i]?))[j]? = some (some q) := by rw [List.getElem?_map, hj]; exact congrArg some hq
    rw [hC1, List.getElem?_map] at h1
    cases hw : wc1[j]? with
    | none => rw [hw] at h1; cases h1
    | some z =>
      rw [hw] at h1
      have hz : z = q := Option.some.inj (Option.some.inj h1)
      exact hP1 j q (by rw [hw, hz])
  · have hiR : i ∈ isR := by
      simp only [Bool.or_eq_true, List.contains_iff_mem] at hc
      exact hc.resolve_left hiC
    obtain ⟨j, hj⟩ := List.getElem?_of_mem hiR
    have h1 : (isR.map (fun i => ws1[i]?))[j]? = some (some q) := by rw [List.getElem?_map, hj]; exact congrArg some hq
    rw [hR1, List.getElem?_map, hj] at h1
    have h2 : ws[i]? = some q := Option.some.inj h1
    have hl := (hP i q h2).lt
    refine (hP i q h2).kept (hk q.1 hl ?_)
    rintro (⟨k, e, h⟩ | h)
    · have h3 : (isC.map (fun i => ws[i]?))[k]? = some (some (q.1, e)) := by rw [hC, List.getElem?_map, h]; rfl
      rw [List.getElem?_map] at h3
      cases hw : isC[k]? with
      | none => rw [hw] at h3; cases h3
      | some i2 =>
        rw [hw] at h3
        have h4 : ws[i2]? = some (q.1, e) := Option.some.inj h3
        have h5 : i = i2 := hD.1 i i2 _ _ h2 h4 rfl
        exact hiC (by rw [h5]; exact List.mem_of_getElem? hw)
    · omega
def WrP (D : va_G) (T : Nat → ClassId) (ws : va_W) (sz : Nat) (U : State) : Prop := U.heap.size = sz ∧ va_P D kC ws U.heap ∧ eK D T U ∧ va_D (fun _ => True) ws
theorem WrP.blind {sz : Nat} : FrameBlind (va_Pc as (WrP D T ws sz)) := fun a U g mk h => ⟨h.1, h.2.1, h.2.2.1, h.2.2.2.1.calling g mk a, h.2.2.2.2⟩
/-- a method that writes to its cells and answers r -/
def WrI (l : Launch) (y : MethodName) (b : ByteArray) (n : Nat) (ty : FieldType) (rm : Room) (D : va_G) (T : Nat → ClassId) (sz : Nat) (ws ws1 : va_W) (as : List Value) (r : Int32) : Prop :=
  Met l y (.code y b n (some ty) :: aw) rm (va_Pc as (WrP D T ws sz)) (va_Qi (fun x (_ : Unit) => x = r) (fun _ t => va_P D kC ws1 t.heap) (va_A ws sz)) 0 0 (va_A ws sz)
def WrV (l : Launch) (y : MethodName) (b : ByteArray) (n : Nat) (rm : Room) (D : va_G) (T : Nat → ClassId) (sz : Nat) (ws ws1 : va_W) (as : List Value) : Prop :=
  Met l y (.code y b n none :: aw) rm (va_Pc as (WrP D T ws sz)) (va_Qv (fun (_ : Unit) => True) (fun _ t => va_P D kC ws1 t.heap) (va_A ws sz)) 0 0 (va_A ws sz)
theorem freeOf {isC : List Nat} (hD : va_D A ws) (hS : va_S A H0 H locs) (hA : ∀ q, H0.size ≤ q → A q) (hC : isC.map (fun i => ws[i]?) = wc.map some) : ∀ q, va_A wc H.size q → A q := va_free hD hS hA isC hC
theorem subD {isC : List Nat} (hD : va_D A ws) (hn : va_nd isC = true) (hC : isC.map (fun i => ws[i]?) = wc.map some) : va_D (fun _ => True) wc := (hD.sub isC hn hC).weaken (fun _ _ _ _ => trivial)
theorem wrVi {a : Nat} (C : CallFix p m c cc nL s args aw own) (hE : eK D T s) (hP : va_P D kC ws H) (hD : va_D A ws) (hS : va_S A H0 H locs) (hA : ∀ q, H0.size ≤ q → A q) (hM : WrI l y b n ty rm D T H.size wc wc1 (.ref a :: as) r) (hm : MV y b n (some ty) k) (hl : Cond.methodLink own idx y ∈ aw) (isC isR : List Nat) (q0 : Nat) {ci : Nat} {fs : List Value} {q : vw_C} (hn : va_nd isC = true) (hC : isC.map (fun i => ws[i]?) = wc.map some) (hC1 : isC.map (fun i => ws1[i]?) = wc1.map some) (hR1 : isR.map (fun i => ws1[i]?) = getW ws isR) (hcov : (List.range ws1.length).all (fun i => isC.contains i || isR.contains i) = true) (ha : ws1.map Prod.fst = fstW ws) (he : ws[q0]? = some (a, .inr (ci, fs))) (hc : kC[ci]? = some q) (hq : q.1 = y.cls)
    (hrm : rm.cells = 0 ∧ rm.slots = 0) (hR : rm.frames + 1 ≤ R.frames ∧ 8 + (n + 11) + rm.locals ≤ R.locals) (hk : as.length = k) (hsz : ls.size = nL) (hst : st = as.reverse ++ .ref a :: rest) (hW : (rest.map fun v => v.category).sum ≤ 8) (hd : decode cc pc = .ok (.invokevirtual idx, 3)) (hf : cells ≤ R.cells ∧ slots ≤ R.slots)
    (kk : ∀ (H1 : Heap) (locs1 : List Loc), va_P D kC ws1 H1 → va_D A ws1 → va_S A H0 H1 locs1 → W p l e R s m args below meth c H1 locs1 cells slots Q (F0 m (pc + 3) ls (.int r :: rest))) : W p l e R s m args below meth c H locs cells slots Q (F0 m pc ls st) :=
  va_calli (va_runV C hM (cwV2 C.2.2.2.2 hl hm hrm.1 hrm.2 hR) ⟨WrP.blind, recvOf hE hP he hc hq, fun U hU hW => ⟨rfl, by rw [hU], by rw [hU]; exact subOf hP hC, hE.moved hW, subD hD hn hC⟩⟩ rfl hk hsz hst (lv_room hW) hd hf) hS (fun q _ h => freeOf hD hS hA hC q h) (freeOf hD hS hA hC)
    (fun x u t H1 locs1 ht hvm hw hB hz1 hk1 hS1 => by rw [hw]; exact kk H1 locs1 (put_P hP hD hk1 (by rw [← ht]; exact hB) hC hC1 (hR1.trans (getW_eq ws isR)) hcov) (addr_D hD (ha.trans (fstW_eq ws))) hS1)
theorem wrVv {a : Nat} (C : CallFix p m c cc nL s args aw own) (hE : eK D T s) (hP : va_P D kC ws H) (hD : va_D A ws) (hS : va_S A H0 H locs) (hA : ∀ q, H0.size ≤ q → A q) (hM : WrV l y b n rm D T H.size wc wc1 (.ref a :: as)) (hm : MV y b n none k) (hl : Cond.methodLink own idx y ∈ aw) (isC isR : List Nat) (q0 : Nat) {ci : Nat} {fs : List Value} {q : vw_C} (hn : va_nd isC = true) (hC : isC.map (fun i => ws[i]?) = wc.map some) (hC1 : isC.map (fun i => ws1[i]?) = wc1.map some) (hR1 : isR.map (fun i => ws1[i]?) = getW ws isR) (hcov : (List.range ws1.length).all (fun i => isC.contains i || isR.contains i) = true) (ha : ws1.map Prod.fst = fstW ws) (he : ws[q0]? = some (a, .inr (ci, fs))) (hc : kC[ci]? = some q) (hq : q.1 = y.cls)
    (hrm : rm.cells = 0 ∧ rm.slots = 0) (hR : rm.frames + 1 ≤ R.frames ∧ 8 + (n + 11) + rm.locals ≤ R.locals) (hk : as.length = k) (hsz : ls.size = nL) (hst : st = as.reverse ++ .ref a :: rest) (hW : (rest.map fun v => v.category).sum ≤ 8) (hd : decode cc pc = .ok (.invokevirtual idx, 3)) (hf : cells ≤ R.cells ∧ slots ≤ R.slots)
    (kk : ∀ (H1 : Heap) (locs1 : List Loc), va_P D kC ws1 H1 → va_D A ws1 → va_S A H0 H1 locs1 → W p l e R s m args below meth c H1 locs1 cells slots Q (F0 m (pc + 3) ls rest)) : W p l e R s m args below meth c H locs cells slots Q (F0 m pc ls st) :=
  va_callv (va_runV C hM (cwV2 C.2.2.2.2 hl hm hrm.1 hrm.2 hR) ⟨WrP.blind, recvOf hE hP he hc hq, fun U hU hW => ⟨rfl, by rw [hU], by rw [hU]; exact subOf hP hC, hE.moved hW, subD hD hn hC⟩⟩ rfl hk hsz hst (lv_room hW) hd hf) hS (fun q _ h => freeOf hD hS hA hC q h) (freeOf hD hS hA hC)
    (fun u t H1 locs1 ht hvm hw hB hz1 hk1 hS1 => kk H1 locs1 (put_P hP hD hk1 (by rw [← ht]; exact hB) hC hC1 (hR1.trans (getW_eq ws isR)) hcov) (addr_D hD (ha.trans (fstW_eq ws))) hS1)
theorem wrSv (C : CallFix p m c cc nL s args aw own) (hE : eK D T s) (hP : va_P D kC ws H) (hD : va_D A ws) (hS : va_S A H0 H locs) (hA : ∀ q, H0.size ≤ q → A q) (hM : WrV l y b n rm D T H.size wc wc1 as) (hm : MS y b n none k) (hl : Cond.methodLink own idx y ∈ aw) (isC isR : List Nat) (hn : va_nd isC = true) (hC : isC.map (fun i => ws[i]?) = wc.map some) (hC1 : isC.map (fun i => ws1[i]?) = wc1.map some) (hR1 : isR.map (fun i => ws1[i]?) = getW ws isR) (hcov : (List.range ws1.length).all (fun i => isC.contains i || isR.contains i) = true) (ha : ws1.map Prod.fst = fstW ws)
    (hrm : rm.cells = 0 ∧ rm.slots = 0) (hR : rm.frames + 1 ≤ R.frames ∧ 8 + (n + 11) + rm.locals ≤ R.locals) (hk : as.length = k) (hsz : ls.size = nL) (hst : st = as.reverse ++ rest) (hW : (rest.map fun v => v.category).sum ≤ 8) (hd : decode cc pc = .ok (.invokestatic idx, 3)) (hf : cells ≤ R.cells ∧ slots ≤ R.slots)
    (kk : ∀ (H1 : Heap) (locs1 : List Loc), va_P D kC ws1 H1 → va_D A ws1 → va_S A H0 H1 locs1 → W p l e R s m args below meth c H1 locs1 cells slots Q (F0 m (pc + 3) ls rest)) : W p l e R s m args below meth c H locs cells slots Q (F0 m pc ls st) :=
  va_callv (va_runS C hM (cwS2 C.2.2.2.2 hl hm hrm.1 hrm.2 hR) ⟨WrP.blind, fun U hU hW => ⟨rfl, by rw [hU], by rw [hU]; exact subOf hP hC, hE.moved hW, subD hD hn hC⟩⟩ rfl hk hsz hst (lv_room hW) hd hf) hS (fun q _ h => freeOf hD hS hA hC q h) (freeOf hD hS hA hC)
    (fun u t H1 locs1 ht hvm hw hB hz1 hk1 hS1 => kk H1 locs1 (put_P hP hD hk1 (by rw [← ht]; exact hB) hC hC1 (hR1.trans (getW_eq ws isR)) hcov) (addr_D hD (ha.trans (fstW_eq ws))) hS1)
def WrRet (p : Program) (l : Launch) (e : Env) (R : Room) (s : State) (m : MethodId) (args : Array Value) (below : List Frame) (meth : Method) (c : Code) (Q : State → Prop) (cc : ByteArray) (ty : FieldType) (D : va_G) (A : Nat → Prop) (ws1 : va_W) (r : Int32) : Prop :=
  ∀ (H : Heap) (locs : List Loc) (pc : Nat) (ls : Array Slot) (v w : Int32), decode cc pc = .ok (.ireturn, 1) → narrow ty (.int v) = .int w → w = r → va_P D kC ws1 H → va_S A s.heap H locs → W p l e R s m args below meth c H locs 0 0 Q (F0 m pc ls [.int v])
def WrRetV (p : Program) (l : Launch) (e : Env) (R : Room) (s : State) (m : MethodId) (args : Array Value) (below : List Frame) (meth : Method) (c : Code) (Q : State → Prop) (cc : ByteArray) (D : va_G) (A : Nat → Prop) (ws1 : va_W) : Prop :=
  ∀ (H : Heap) (locs : List Loc) (pc : Nat) (ls : Array Slot), decode cc pc = .ok (.return_, 1) → va_P D kC ws1 H → va_S A s.heap H locs → W p l e R s m args below meth c H locs 0 0 Q (F0 m pc ls [])
theorem wrMet {sz : Nat} (hy : plainName y.cls = true) (hlen : Nat.ble (lg_sl as).length n = true) (body : ∀ (p : Program) (e : Env) (s : State) (m : MethodId) (args : Array Value) (below : List Frame) (meth : Method) (c : Code) (Q : State → Prop) (A : Nat → Prop), CallFix p m c b n s args aw y.cls → eK D T s → (∀ q, s.heap.size ≤ q → A q) → va_P D kC ws s.heap → va_D A ws → va_S A s.heap s.heap [] → WrRet p l e rm s m args below meth c Q b ty D A ws1 r → ∀ ls : Array Slot, lv_has ls n (lv_args 0 as) → W p l e rm s m args below meth c s.heap [] 0 0 Q (F0 m 0 ls [])) : WrI l y b n ty rm D T sz ws ws1 as r := by
  refine Met.ofW (cc := b) (maxL := n) (ret := some ty) hy rfl ?_
  intro p e s m args below meth c s₁ B hml hv
  obtain ⟨rfl, hsz, hP, hE, hD0⟩ := hv
  subst hsz
  have hts : ∀ w ∈ (Cond.code y b n (some ty) :: aw), w.before as.toArray s = true := atoms_spec (ws := .code y b n (some ty) :: aw) B.pre
  have hr := B.returns
  have hlocks := B.notSynchronized
  have hl := lv_entry as (n := n) (Nat.le_of_ble_eq_true hlen)
  rw [lg_entry_eq]
  exact body p e s m _ below meth c _ (va_A ws s.heap.size) ⟨B.exec, B.bytes, hml, findClass_of_methodNamed B.named, fun w hw => hts w (List.mem_cons_of_mem _ hw)⟩ hE (fun q h => Or.inr h) hP hD0.self va_S.rf (fun H locs pc ls v w hd hn hw hP1 hS => W.nret B.exec B.bytes hr hn (fun t ht _ => ⟨⟨w, (), rfl, hw, by show va_P D kC ws1 t.heap; rw [ht]; exact hP1⟩, hS.F ht⟩) hS.2.2 hd hlocks) _ hl
theorem wrMetV {sz : Nat} (hy : plainName y.cls = true) (hlen : Nat.ble (lg_sl as).length n = true) (body : ∀ (p : Program) (e : Env) (s : State) (m : MethodId) (args : Array Value) (below : List Frame) (meth : Method) (c : Code) (Q : State → Prop) (A : Nat → Prop), CallFix p m c b n s args aw y.cls → eK D T s → (∀ q, s.heap.size ≤ q → A q) → va_P D kC ws s.heap → va_D A ws → va_S A s.heap s.heap [] → WrRetV p l e rm s m args below meth c Q b D A ws1 → ∀ ls : Array Slot, lv_has ls n (lv_args 0 as) → W p l e rm s m args below meth c s.heap [] 0 0 Q (F0 m 0 ls [])) : WrV l y b n rm D T sz ws ws1 as := by
  refine Met.ofW (cc := b) (maxL := n) (ret := none) hy rfl ?_
  intro p e s m args below meth c s₁ B hml hv
  obtain ⟨rfl, hsz, hP, hE, hD0⟩ := hv
  subst hsz
  have hts : ∀ w ∈ (Cond.code y b n none :: aw), w.before as.toArray s = true := atoms_spec (ws := .code y b n none :: aw) B.pre
  have hr := B.returns
  have hlocks := B.notSynchronized
  have hl := lv_entry as (n := n) (Nat.le_of_ble_eq_true hlen)
  rw [lg_entry_eq]
  exact body p e s m _ below meth c _ (va_A ws s.heap.size) ⟨B.exec, B.bytes, hml, findClass_of_methodNamed B.named, fun w hw => hts w (List.mem_cons_of_mem _ hw)⟩ hE (fun q h => Or.inr h) hP hD0.self va_S.rf (fun H locs pc ls hd hP1 hS => W.vret B.exec B.bytes hr (fun t ht _ => ⟨⟨(), rfl, trivial, by show va_P D kC ws1 t.heap; rw [ht]; exact hP1⟩, hS.F ht⟩) hS.2.2 hd hlocks) _ hl
/-! ## fields and arrays -/
def vin (i : Int32) (n : Nat) : Bool := decide (¬ (i < 0 ∨ n ≤ i.toNatClampNeg))
theorem vin_in {i : Int32} {n : Nat} (h : vin i n = true) : vp_in i n := of_decide_eq_true (p := ¬ (i < 0 ∨ n ≤ i.toNatClampNeg)) h
theorem getF {a q0 k0 ci N : Nat} {fs : List Value} {v : Value} {Cn ref : String} {Tn : u_T} (C : CallFix p m c cc nL s args aw own) (hE : eK D T s) (hP : va_P D kC ws H) (hin : ∀ w ∈ u_ws Cn Tn N, w ∈ aw) (he : ws[q0]? = some (a, .inr (ci, fs))) (hc : kC[ci]? = some (Cn, Tn, N)) (hk : k0 < N) (hl : Cond.fieldLink own idx ref (Tn k0).2.1 (Tn k0).2.2.1 ∈ aw) (href : (Tn k0).1 = ref) (hv : fs[k0]? = some v) (hd : decode cc pc = .ok (.getfield idx, 3))
    (kk : W p l e R s m args below meth c H locs cells slots Q (F0 m (pc + 3) ls (v :: rest))) : W p l e R s m args below meth c H locs cells slots Q (F0 m pc ls (.ref a :: rest)) :=
  va_get C.1 C.2.1 C.2.2.2.2 hin C.2.2.2.1 hE.1 hP q0 he hc k0 hk (C.2.2.2.2 _ hl) (fun x h => by rw [← href]; exact h) hv hd kk
theorem putF {a q0 k0 ci N : Nat} {fs : List Value} {v : Value} {Cn ref : String} {Tn : u_T} {tyN : Nat → FieldType} (C : CallFix p m c cc nL s args aw own) (hE : eK D T s) (hP : va_P D kC ws H) (hD : va_D A ws) (hS : va_S A H0 H locs) (hin : ∀ w ∈ u_ws Cn Tn N, w ∈ aw) (hty : ∀ k, k < N → parseFieldDescriptor (Tn k).2.2.1 = some (tyN k)) (hnm : ∀ a, a < N → ∀ b, b < N → a ≠ b → (Tn a).2.1 ≠ (Tn b).2.1) (he : ws[q0]? = some (a, .inr (ci, fs))) (hc : kC[ci]? = some (Cn, Tn, N)) (hk : k0 < N) (hl : Cond.fieldLink own idx ref (Tn k0).2.1 (Tn k0).2.2.1 ∈ aw) (href : (Tn k0).1 = ref) (hfin : (Tn k0).2.2.2 = false) (hn : narrow (tyN k0) v = v) (hfit : fits (tyN k0) v = true) (hlen : k0 < fs.length) (hw1 : ws.set q0 (a, .inr (ci, fs.set k0 v)) = ws1) (hd : decode cc pc = .ok (.putfield idx, 3))
    (kk : ∀ (H1 : Heap) (locs1 : List Loc), va_P D kC ws1 H1 → va_D A ws1 → va_S A H0 H1 locs1 → W p l e R s m args below meth c H1 locs1 cells slots Q (F0 m (pc + 3) ls rest)) : W p l e R s m args below meth c H locs cells slots Q (F0 m pc ls (v :: .ref a :: rest)) := by
  subst hw1
  exact va_put C.1 C.2.1 C.2.2.2.2 hin tyN hty hnm C.2.2.2.1 hE.1 hP hD hS q0 he hc k0 hk (C.2.2.2.2 _ hl) (fun x h => by rw [← href]; exact h) hfin (hty k0 hk) hn hfit hlen hd kk
theorem astI {a q0 N : Nat} {f : Nat → Int32} {i x : Int32} (C : CallFix p m c cc nL s args aw own) (hE : eK D T s) (hP : va_P D kC ws H) (hD : va_D A ws) (hS : va_S A H0 H locs) (ha : ws[q0]? = some (a, .inl (T 0, N, .inl f))) (hin : vin i N = true) (hw1 : ws.set q0 (a, .inl (T 0, N, .inl (upd f i.toNatClampNeg x))) = ws1) (hd : decode cc pc = .ok (.iastore, 1))
    (kk : ∀ (H1 : Heap) (locs1 : List Loc), va_P D kC ws1 H1 → va_D A ws1 → va_S A H0 H1 locs1 → W p l e R s m args below meth c H1 locs1 cells slots Q (F0 m (pc + 1) ls rest)) : W p l e R s m args below meth c H locs cells slots Q (F0 m pc ls (.int x :: .int i :: .ref a :: rest)) := by
  subst hw1
  exact va_iast C.1 C.2.1 hE.1 hP hD hS q0 0 ha rfl (vin_in hin) hd kk
theorem astZ {a q0 N : Nat} {f : Nat → Int32} {i x : Int32} (C : CallFix p m c cc nL s args aw own) (hE : eK D T s) (hP : va_P D kC ws H) (hD : va_D A ws) (hS : va_S A H0 H locs) (ha : ws[q0]? = some (a, .inl (T 1, N, .inl f))) (hin : vin i N = true) (hw1 : ws.set q0 (a, .inl (T 1, N, .inl (upd f i.toNatClampNeg (x &&& 1)))) = ws1) (hd : decode cc pc = .ok (.bastore, 1))
    (kk : ∀ (H1 : Heap) (locs1 : List Loc), va_P D kC ws1 H1 → va_D A ws1 → va_S A H0 H1 locs1 → W p l e R s m args below meth c H1 locs1 cells slots Q (F0 m (pc + 1) ls rest)) : W p l e R s m args below meth c H locs cells slots Q (F0 m pc ls (.int x :: .int i :: .ref a :: rest)) := by
  subst hw1
  exact va_zast C.1 C.2.1 hE.1 hP hD hS q0 1 ha rfl (vin_in hin) hd kk
theorem astC {a q0 N : Nat} {f : Nat → Int32} {i x : Int32} (C : CallFix p m c cc nL s args aw own) (hE : eK D T s) (hP : va_P D kC ws H) (hD : va_D A ws) (hS : va_S A H0 H locs) (ha : ws[q0]? = some (a, .inl (T 2, N, .inl f))) (hin : vin i N = true) (hw1 : ws.set q0 (a, .inl (T 2, N, .inl (upd f i.toNatClampNeg (x.toUInt32.toUInt16.toUInt32.toInt32)))) = ws1) (hd : decode cc pc = .ok (.castore, 1))
    (kk : ∀ (H1 : Heap) (locs1 : List Loc), va_P D kC ws1 H1 → va_D A ws1 → va_S A H0 H1 locs1 → W p l e R s m args below meth c H1 locs1 cells slots Q (F0 m (pc + 1) ls rest)) : W p l e R s m args below meth c H locs cells slots Q (F0 m pc ls (.int x :: .int i :: .ref a :: rest)) := by
  subst hw1
  exact va_cast C.1 C.2.1 hE.1 hP hD hS q0 2 ha rfl (vin_in hin) hd kk
theorem aldI {a q0 N : Nat} {f : Nat → Int32} {i : Int32} (C : CallFix p m c cc nL s args aw own) (hE : eK D T s) (hP : va_P D kC ws H) (ha : ws[q0]? = some (a, .inl (T 0, N, .inl f))) (hin : vin i N = true) (hd : decode cc pc = .ok (.iaload, 1))
    (kk : W p l e R s m args below meth c H locs cells slots Q (F0 m (pc + 1) ls (.int (f i.toNatClampNeg) :: rest))) : W p l e R s m args below meth c H locs cells slots Q (F0 m pc ls (.int i :: .ref a :: rest)) := va_iald C.1 C.2.1 hE.1 hP q0 0 ha rfl (vin_in hin) hd kk
theorem aldZ {a q0 N : Nat} {f : Nat → Int32} {i : Int32} (C : CallFix p m c cc nL s args aw own) (hE : eK D T s) (hP : va_P D kC ws H) (ha : ws[q0]? = some (a, .inl (T 1, N, .inl f))) (hin : vin i N = true) (hd : decode cc pc = .ok (.baload, 1))
    (kk : W p l e R s m args below meth c H locs cells slots Q (F0 m (pc + 1) ls (.int (f i.toNatClampNeg) :: rest))) : W p l e R s m args below meth c H locs cells slots Q (F0 m pc ls (.int i :: .ref a :: rest)) := va_zald C.1 C.2.1 hE.1 hP q0 1 ha rfl (vin_in hin) hd kk
theorem aldC {a q0 N : Nat} {f : Nat → Int32} {i : Int32} (C : CallFix p m c cc nL s args aw own) (hE : eK D T s) (hP : va_P D kC ws H) (ha : ws[q0]? = some (a, .inl (T 2, N, .inl f))) (hin : vin i N = true) (hd : decode cc pc = .ok (.caload, 1))
    (kk : W p l e R s m args below meth c H locs cells slots Q (F0 m (pc + 1) ls (.int (f i.toNatClampNeg) :: rest))) : W p l e R s m args below meth c H locs cells slots Q (F0 m pc ls (.int i :: .ref a :: rest)) := va_cald C.1 C.2.1 hE.1 hP q0 2 ha rfl (vin_in hin) hd kk
theorem alen {a q0 t0 N : Nat} {cA : ClassId} {x : (Nat → Int32) ⊕ (Nat → Int64) ⊕ (Nat → UInt32) ⊕ (Nat → UInt64) ⊕ (Nat → Option Nat)} {fty : FieldType} {v : Int32} (C : CallFix p m c cc nL s args aw own) (hE : eK D T s) (hP : va_P D kC ws H) (ha : ws[q0]? = some (a, .inl (cA, N, x))) (ht : (kT T)[t0]? = some (cA, fty)) (hv : Int32.ofNat N = v) (hd : decode cc pc = .ok (.arraylength, 1))
    (kk : W p l e R s m args below meth c H locs cells slots Q (F0 m (pc + 1) ls (.int v :: rest))) : W p l e R s m args below meth c H locs cells slots Q (F0 m pc ls (.ref a :: rest)) := va_alen C.1 C.2.1 hE.1 hP q0 t0 ha ht hv hd kk
end ROWS
