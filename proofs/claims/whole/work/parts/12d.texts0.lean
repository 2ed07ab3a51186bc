def fX5_takeSign_35 (t_len : Int32) (v_ti : Nat → Int32) (x1 : Int32) (x2 : Int32) (l2 : Int32) (t_cur : Int32) (t_tol : Int32) (v_tn : Nat → Int32) : Option (Nat × Int32 × Int32 × Int32 × (Nat → Int32)) :=
  some (0, (l2 &&& 1), (x1 + x2), t_tol, v_tn)
def fX5_takeSign_20 (t_len : Int32) (v_ti : Nat → Int32) (x0 : Int32) (t_cur : Int32) (t_tol : Int32) (v_tn : Nat → Int32) : Option (Nat × Int32 × Int32 × Int32 × (Nat → Int32)) :=
  fX5_takeSign_35 t_len v_ti t_cur (if x0 = 0 then 0 else 1) x0 t_cur t_tol v_tn
def fX5_takeSign_109 (t_len : Int32) (v_ti : Nat → Int32) (t_cur : Int32) (t_tol : Int32) (v_tn : Nat → Int32) : Option (Nat × Int32 × Int32 × Int32 × (Nat → Int32)) :=
  some (0, 1, (t_cur + 1), t_tol, v_tn)
def fX5_takeSign_63 (t_len : Int32) (v_ti : Nat → Int32) (x0 : Int32) (t_cur : Int32) (t_tol : Int32) (v_tn : Nat → Int32) : Option (Nat × Int32 × Int32 × Int32 × (Nat → Int32)) :=
  if 0 ≤ x0 then
    if t_tol < 0 then
      fX5_takeSign_109 t_len v_ti t_cur t_tol v_tn
    else
      if 3 ≤ t_tol then
        fX5_takeSign_109 t_len v_ti t_cur t_tol v_tn
      else
        if vin t_tol 3 = true then
        fX5_takeSign_109 t_len v_ti t_cur (t_tol + 1) (upd v_tn t_tol.toNatClampNeg x0)
        else none
  else
    some (0, 0, t_cur, t_tol, v_tn)
def fX5_takeSign (t_len : Int32) (t_cur : Int32) (t_tol : Int32) (v_ti : Nat → Int32) (v_tn : Nat → Int32) (p0 : Int32) : Option (Nat × Int32 × Int32 × Int32 × (Nat → Int32)) :=
  if p0 = 64 then
    (fX5_here t_len t_cur v_ti).bind fun q8 =>
    fX5_takeSign_20 t_len v_ti (if q8 = 64 then 1 else 0) t_cur t_tol v_tn
  else
    if p0 = 110 then
      (fX5_here t_len t_cur v_ti).bind fun q6 =>
      fX5_takeSign_63 t_len v_ti (sIx [110, 101, 115, 119] q6) t_cur t_tol v_tn
    else
      (fX5_digitHere t_len t_cur v_ti).bind fun q3 =>
      fX5_takeSign_63 t_len v_ti q3 t_cur t_tol v_tn
set_option maxHeartbeats 4000000 in
set_option maxRecDepth 100000 in
theorem lX5_takeSign_35 {p : Program} {l : Launch} {e : Env} {s : State} {m : MethodId} {args : Array Value} {below : List Frame} {meth : Method} {c : Code} {Q : State → Prop} {D : va_G} {T : Nat → ClassId} {a_t a_ti a_tn : Nat} {t_len : Int32} {t_kin : Int32} {t_don : Int32} {v_ti : Nat → Int32} {A : Nat → Prop} {r : Nat × Int32 × Int32 × Int32 × (Nat → Int32)} (C : CallFix p m c cX5_takeSign 3 s args aw RX5) (hE : eK D T s) (hA : ∀ q : Nat, s.heap.size ≤ q → A q) (hZ : eX l A s) (hret : ThRetI p l e ({ frames := 4, cells := 0, slots := 0, locals := 106 } : Room) s m args below meth c Q cX5_takeSign .boolean D A [(a_t, .inr (5, [.ref a_ti, .ref a_tn, .int t_len, .int r.2.2.1, .int t_kin, .int r.2.2.2.1, .int t_don])), (a_ti, .inl (T 2, 60, .inl v_ti)), (a_tn, .inl (T 0, 3, .inl r.2.2.2.2))] r.1 r.2.1 ∧ ThOut p l e ({ frames := 4, cells := 0, slots := 0, locals := 106 } : Room) s m args below meth c Q D A [(a_t, .inr (5, [.ref a_ti, .ref a_tn, .int t_len, .int r.2.2.1, .int t_kin, .int r.2.2.2.1, .int t_don])), (a_ti, .inl (T 2, 60, .inl v_ti)), (a_tn, .inl (T 0, 3, .inl r.2.2.2.2))] r.1 ∧ ThThr p l e ({ frames := 4, cells := 0, slots := 0, locals := 106 } : Room) s m args below meth c Q cX5_takeSign RX5 D A [(a_t, .inr (5, [.ref a_ti, .ref a_tn, .int t_len, .int r.2.2.1, .int t_kin, .int r.2.2.2.1, .int t_don])), (a_ti, .inl (T 2, 60, .inl v_ti)), (a_tn, .inl (T 0, 3, .inl r.2.2.2.2))] r.1) (x1 : Int32) (x2 : Int32) (l2 : Int32) (t_cur : Int32) (t_tol : Int32) (v_tn : Nat → Int32) {H : Heap} {locs : List Loc} (hP : va_P D kC [(a_t, .inr (5, [.ref a_ti, .ref a_tn, .int t_len, .int t_cur, .int t_kin, .int t_tol, .int t_don])), (a_ti, .inl (T 2, 60, .inl v_ti)), (a_tn, .inl (T 0, 3, .inl v_tn))] H) (hD : va_D A [(a_t, .inr (5, [.ref a_ti, .ref a_tn, .int t_len, .int t_cur, .int t_kin, .int t_tol, .int t_don])), (a_ti, .inl (T 2, 60, .inl v_ti)), (a_tn, .inl (T 0, 3, .inl v_tn))]) (hS : va_S A s.heap H locs) (ls : Array Slot) (hl : lv_has ls 3 [(2, .int l2)]) (h : fX5_takeSign_35 t_len v_ti x1 x2 l2 t_cur t_tol v_tn = some r) : W p l e ({ frames := 4, cells := 0, slots := 0, locals := 106 } : Room) s m args below meth c H locs 0 0 Q (F0 m 35 ls [.int x2, .int x1, .ref a_t]) := by
  have hx := C.1
  have hb := C.2.1
  unfold fX5_takeSign_35 at h
  refine lv_iadd hx hb dX5_takeSign_35 ?_
  refine putF (q0 := 0) (k0 := 3) (ws1 := [(a_t, .inr (5, [.ref a_ti, .ref a_tn, .int t_len, .int (x1 + x2), .int t_kin, .int t_tol, .int t_don])), (a_ti, .inl (T 2, 60, .inl v_ti)), (a_tn, .inl (T 0, 3, .inl v_tn))]) C hE hP hD hS inA5 tyX5_ok nmX5 rfl rfl (by decide) qFX5_23 rfl rfl rfl rfl (Nat.le_of_ble_eq_true rfl) rfl dX5_takeSign_36 (fun H locs hP hD hS => ?_)
  refine lv_iload_n hx hb dX5_takeSign_39 rfl (lv_at hl 0 rfl) ?_
  have h := Option.some.inj h
  exact hret.1 _ _ _ _ _ _ _ _ (Nat.le_of_ble_eq_true rfl) (Nat.le_of_ble_eq_true rfl) dX5_takeSign_40 rfl (by rw [← h]) (by rw [← h] <;> rfl) (by rw [← h]; exact hP) hS
set_option maxHeartbeats 4000000 in
set_option maxRecDepth 100000 in
theorem lX5_takeSign_20 {p : Program} {l : Launch} {e : Env} {s : State} {m : MethodId} {args : Array Value} {below : List Frame} {meth : Method} {c : Code} {Q : State → Prop} {D : va_G} {T : Nat → ClassId} {a_t a_ti a_tn : Nat} {t_len : Int32} {t_kin : Int32} {t_don : Int32} {v_ti : Nat → Int32} {A : Nat → Prop} {r : Nat × Int32 × Int32 × Int32 × (Nat → Int32)} (C : CallFix p m c cX5_takeSign 3 s args aw RX5) (hE : eK D T s) (hA : ∀ q : Nat, s.heap.size ≤ q → A q) (hZ : eX l A s) (hret : ThRetI p l e ({ frames := 4, cells := 0, slots := 0, locals := 106 } : Room) s m args below meth c Q cX5_takeSign .boolean D A [(a_t, .inr (5, [.ref a_ti, .ref a_tn, .int t_len, .int r.2.2.1, .int t_kin, .int r.2.2.2.1, .int t_don])), (a_ti, .inl (T 2, 60, .inl v_ti)), (a_tn, .inl (T 0, 3, .inl r.2.2.2.2))] r.1 r.2.1 ∧ ThOut p l e ({ frames := 4, cells := 0, slots := 0, locals := 106 } : Room) s m args below meth c Q D A [(a_t, .inr (5, [.ref a_ti, .ref a_tn, .int t_len, .int r.2.2.1, .int t_kin, .int r.2.2.2.1, .int t_don])), (a_ti, .inl (T 2, 60, .inl v_ti)), (a_tn, .inl (T 0, 3, .inl r.2.2.2.2))] r.1 ∧ ThThr p l e ({ frames := 4, cells := 0, slots := 0, locals := 106 } : Room) s m args below meth c Q cX5_takeSign RX5 D A [(a_t, .inr (5, [.ref a_ti, .ref a_tn, .int t_len, .int r.2.2.1, .int t_kin, .int r.2.2.2.1, .int t_don])), (a_ti, .inl (T 2, 60, .inl v_ti)), (a_tn, .inl (T 0, 3, .inl r.2.2.2.2))] r.1) (x0 : Int32) (t_cur : Int32) (t_tol : Int32) (v_tn : Nat → Int32) {H : Heap} {locs : List Loc} (hP : va_P D kC [(a_t, .inr (5, [.ref a_ti, .ref a_tn, .int t_len, .int t_cur, .int t_kin, .int t_tol, .int t_don])), (a_ti, .inl (T 2, 60, .inl v_ti)), (a_tn, .inl (T 0, 3, .inl v_tn))] H) (hD : va_D A [(a_t, .inr (5, [.ref a_ti, .ref a_tn, .int t_len, .int t_cur, .int t_kin, .int t_tol, .int t_don])), (a_ti, .inl (T 2, 60, .inl v_ti)), (a_tn, .inl (T 0, 3, .inl v_tn))]) (hS : va_S A s.heap H locs) (ls : Array Slot) (hl : lv_has ls 3 [(0, .ref a_t)]) (h : fX5_takeSign_20 t_len v_ti x0 t_cur t_tol v_tn = some r) : W p l e ({ frames := 4, cells := 0, slots := 0, locals := 106 } : Room) s m args below meth c H locs 0 0 Q (F0 m 20 ls [.int x0]) := by
  have hx := C.1
  have hb := C.2.1
  unfold fX5_takeSign_20 at h
  refine lv_istore_n (lv' := [(2, .int x0), (0, .ref a_t)]) hx hb dX5_takeSign_20 rfl hl (by decide) rfl (fun ls hl => ?_)
  refine lv_aload_n hx hb dX5_takeSign_21 rfl (lv_at hl 1 rfl) ?_
  refine lv_dup hx hb dX5_takeSign_22 rfl ?_
  refine getF (q0 := 0) (k0 := 3) (v := .int t_cur) C hE hP inA5 rfl rfl (by decide) qFX5_23 rfl rfl dX5_takeSign_23 ?_
  refine lv_iload_n hx hb dX5_takeSign_26 rfl (lv_at hl 0 rfl) ?_
  refine lv_if_eq (tgt := 34) hx hb dX5_takeSign_27 (by decide) (fun c11 => ?_) (fun c11 => ?_)
  · rw [if_pos c11] at h
    refine lv_iconst (v := 0) hx hb dX5_takeSign_34 (by decide) ?_
    exact lX5_takeSign_35 C hE hA hZ hret t_cur 0 x0 t_cur t_tol v_tn hP hD hS _ (lv_sub hl [0] rfl) h
  · rw [if_neg c11] at h
    refine lv_iconst (v := 1) hx hb dX5_takeSign_30 (by decide) ?_
    refine lv_goto (tgt := 35) hx hb dX5_takeSign_31 (by decide) ?_
    exact lX5_takeSign_35 C hE hA hZ hret t_cur 1 x0 t_cur t_tol v_tn hP hD hS _ (lv_sub hl [0] rfl) h
set_option maxHeartbeats 4000000 in
set_option maxRecDepth 100000 in
theorem lX5_takeSign_109 {p : Program} {l : Launch} {e : Env} {s : State} {m : MethodId} {args : Array Value} {below : List Frame} {meth : Method} {c : Code} {Q : State → Prop} {D : va_G} {T : Nat → ClassId} {a_t a_ti a_tn : Nat} {t_len : Int32} {t_kin : Int32} {t_don : Int32} {v_ti : Nat → Int32} {A : Nat → Prop} {r : Nat × Int32 × Int32 × Int32 × (Nat → Int32)} (C : CallFix p m c cX5_takeSign 3 s args aw RX5) (hE : eK D T s) (hA : ∀ q : Nat, s.heap.size ≤ q → A q) (hZ : eX l A s) (hret : ThRetI p l e ({ frames := 4, cells := 0, slots := 0, locals := 106 } : Room) s m args below meth c Q cX5_takeSign .boolean D A [(a_t, .inr (5, [.ref a_ti, .ref a_tn, .int t_len, .int r.2.2.1, .int t_kin, .int r.2.2.2.1, .int t_don])), (a_ti, .inl (T 2, 60, .inl v_ti)), (a_tn, .inl (T 0, 3, .inl r.2.2.2.2))] r.1 r.2.1 ∧ ThOut p l e ({ frames := 4, cells := 0, slots := 0, locals := 106 } : Room) s m args below meth c Q D A [(a_t, .inr (5, [.ref a_ti, .ref a_tn, .int t_len, .int r.2.2.1, .int t_kin, .int r.2.2.2.1, .int t_don])), (a_ti, .inl (T 2, 60, .inl v_ti)), (a_tn, .inl (T 0, 3, .inl r.2.2.2.2))] r.1 ∧ ThThr p l e ({ frames := 4, cells := 0, slots := 0, locals := 106 } : Room) s m args below meth c Q cX5_takeSign RX5 D A [(a_t, .inr (5, [.ref a_ti, .ref a_tn, .int t_len, .int r.2.2.1, .int t_kin, .int r.2.2.2.1, .int t_don])), (a_ti, .inl (T 2, 60, .inl v_ti)), (a_tn, .inl (T 0, 3, .inl r.2.2.2.2))] r.1) (t_cur : Int32) (t_tol : Int32) (v_tn : Nat → Int32) {H : Heap} {locs : List Loc} (hP : va_P D kC [(a_t, .inr (5, [.ref a_ti, .ref a_tn, .int t_len, .int t_cur, .int t_kin, .int t_tol, .int t_don])), (a_ti, .inl (T 2, 60, .inl v_ti)), (a_tn, .inl (T 0, 3, .inl v_tn))] H) (hD : va_D A [(a_t, .inr (5, [.ref a_ti, .ref a_tn, .int t_len, .int t_cur, .int t_kin, .int t_tol, .int t_don])), (a_ti, .inl (T 2, 60, .inl v_ti)), (a_tn, .inl (T 0, 3, .inl v_tn))]) (hS : va_S A s.heap H locs) (ls : Array Slot) (hl : lv_has ls 3 [(0, .ref a_t)]) (h : fX5_takeSign_109 t_len v_ti t_cur t_tol v_tn = some r) : W p l e ({ frames := 4, cells := 0, slots := 0, locals := 106 } : Room) s m args below meth c H locs 0 0 Q (F0 m 109 ls []) := by
  have hx := C.1
  have hb := C.2.1
  unfold fX5_takeSign_109 at h
  refine lv_aload_n hx hb dX5_takeSign_109 rfl (lv_at hl 0 rfl) ?_
  refine lv_dup hx hb dX5_takeSign_110 rfl ?_
  refine getF (q0 := 0) (k0 := 3) (v := .int t_cur) C hE hP inA5 rfl rfl (by decide) qFX5_23 rfl rfl dX5_takeSign_111 ?_
  refine lv_iconst (v := 1) hx hb dX5_takeSign_114 (by decide) ?_
  refine lv_iadd hx hb dX5_takeSign_115 ?_
  refine putF (q0 := 0) (k0 := 3) (ws1 := [(a_t, .inr (5, [.ref a_ti, .ref a_tn, .int t_len, .int (t_cur + 1), .int t_kin, .int t_tol, .int t_don])), (a_ti, .inl (T 2, 60, .inl v_ti)), (a_tn, .inl (T 0, 3, .inl v_tn))]) C hE hP hD hS inA5 tyX5_ok nmX5 rfl rfl (by decide) qFX5_23 rfl rfl rfl rfl (Nat.le_of_ble_eq_true rfl) rfl dX5_takeSign_116 (fun H locs hP hD hS => ?_)
  refine lv_iconst (v := 1) hx hb dX5_takeSign_119 (by decide) ?_
  have h := Option.some.inj h
  exact hret.1 _ _ _ _ _ _ _ _ (Nat.le_of_ble_eq_true rfl) (Nat.le_of_ble_eq_true rfl) dX5_takeSign_120 rfl (by rw [← h]) (by rw [← h] <;> rfl) (by rw [← h]; exact hP) hS
set_option maxHeartbeats 4000000 in
set_option maxRecDepth 100000 in
theorem lX5_takeSign_63 {p : Program} {l : Launch} {e : Env} {s : State} {m : MethodId} {args : Array Value} {below : List Frame} {meth : Method} {c : Code} {Q : State → Prop} {D : va_G} {T : Nat → ClassId} {a_t a_ti a_tn : Nat} {t_len : Int32} {t_kin : Int32} {t_don : Int32} {v_ti : Nat → Int32} {A : Nat → Prop} {r : Nat × Int32 × Int32 × Int32 × (Nat → Int32)} (C : CallFix p m c cX5_takeSign 3 s args aw RX5) (hE : eK D T s) (hA : ∀ q : Nat, s.heap.size ≤ q → A q) (hZ : eX l A s) (hret : ThRetI p l e ({ frames := 4, cells := 0, slots := 0, locals := 106 } : Room) s m args below meth c Q cX5_takeSign .boolean D A [(a_t, .inr (5, [.ref a_ti, .ref a_tn, .int t_len, .int r.2.2.1, .int t_kin, .int r.2.2.2.1, .int t_don])), (a_ti, .inl (T 2, 60, .inl v_ti)), (a_tn, .inl (T 0, 3, .inl r.2.2.2.2))] r.1 r.2.1 ∧ ThOut p l e ({ frames := 4, cells := 0, slots := 0, locals := 106 } : Room) s m args below meth c Q D A [(a_t, .inr (5, [.ref a_ti, .ref a_tn, .int t_len, .int r.2.2.1, .int t_kin, .int r.2.2.2.1, .int t_don])), (a_ti, .inl (T 2, 60, .inl v_ti)), (a_tn, .inl (T 0, 3, .inl r.2.2.2.2))] r.1 ∧ ThThr p l e ({ frames := 4, cells := 0, slots := 0, locals := 106 } : Room) s m args below meth c Q cX5_takeSign RX5 D A [(a_t, .inr (5, [.ref a_ti, .ref a_tn, .int t_len, .int r.2.2.1, .int t_kin, .int r.2.2.2.1, .int t_don])), (a_ti, .inl (T 2, 60, .inl v_ti)), (a_tn, .inl (T 0, 3, .inl r.2.2.2.2))] r.1) (x0 : Int32) (t_cur : Int32) (t_tol : Int32) (v_tn : Nat → Int32) {H : Heap} {locs : List Loc} (hP : va_P D kC [(a_t, .inr (5, [.ref a_ti, .ref a_tn, .int t_len, .int t_cur, .int t_kin, .int t_tol, .int t_don])), (a_ti, .inl (T 2, 60, .inl v_ti)), (a_tn, .inl (T 0, 3, .inl v_tn))] H) (hD : va_D A [(a_t, .inr (5, [.ref a_ti, .ref a_tn, .int t_len, .int t_cur, .int t_kin, .int t_tol, .int t_don])), (a_ti, .inl (T 2, 60, .inl v_ti)), (a_tn, .inl (T 0, 3, .inl v_tn))]) (hS : va_S A s.heap H locs) (ls : Array Slot) (hl : lv_has ls 3 [(0, .ref a_t)]) (h : fX5_takeSign_63 t_len v_ti x0 t_cur t_tol v_tn = some r) : W p l e ({ frames := 4, cells := 0, slots := 0, locals := 106 } : Room) s m args below meth c H locs 0 0 Q (F0 m 63 ls [.int x0]) := by
  have hx := C.1
  have hb := C.2.1
  unfold fX5_takeSign_63 at h
  refine lv_istore_n (lv' := [(2, .int x0), (0, .ref a_t)]) hx hb dX5_takeSign_63 rfl hl (by decide) rfl (fun ls hl => ?_)
  refine lv_iload_n hx hb dX5_takeSign_64 rfl (lv_at hl 0 rfl) ?_
  refine lv_if_ge (tgt := 70) hx hb dX5_takeSign_65 (by decide) (fun c12 => ?_) (fun c12 => ?_)
  · have h := ite_t c12 h
    refine lv_aload_n hx hb dX5_takeSign_70 rfl (lv_at hl 1 rfl) ?_
    refine getF (q0 := 0) (k0 := 5) (v := .int t_tol) C hE hP inA5 rfl rfl (by decide) qFX5_29 rfl rfl dX5_takeSign_71 ?_
    refine lv_if_lt (tgt := 109) hx hb dX5_takeSign_74 (by decide) (fun c13 => ?_) (fun c13 => ?_)
    · have h := ite_t c13 h
      exact lX5_takeSign_109 C hE hA hZ hret t_cur t_tol v_tn hP hD hS _ (lv_sub hl [1] rfl) h
    · have h := ite_f c13 h
      refine lv_aload_n hx hb dX5_takeSign_77 rfl (lv_at hl 1 rfl) ?_
      refine getF (q0 := 0) (k0 := 5) (v := .int t_tol) C hE hP inA5 rfl rfl (by decide) qFX5_29 rfl rfl dX5_takeSign_78 ?_
      refine lv_aload_n hx hb dX5_takeSign_81 rfl (lv_at hl 1 rfl) ?_
      refine getF (q0 := 0) (k0 := 1) (v := .ref a_tn) C hE hP inA5 rfl rfl (by decide) qFX5_15 rfl rfl dX5_takeSign_82 ?_
      refine alen (q0 := 2) (t0 := 0) (v := 3) C hE hP rfl rfl (by decide) dX5_takeSign_85 ?_
      refine lv_icmp_ge (tgt := 109) hx hb dX5_takeSign_86 (by decide) (fun c14 => ?_) (fun c14 => ?_)
      · have h := ite_t c14 h
        exact lX5_takeSign_109 C hE hA hZ hret t_cur t_tol v_tn hP hD hS _ (lv_sub hl [1] rfl) h
      · have h := ite_f c14 h
        refine lv_aload_n hx hb dX5_takeSign_89 rfl (lv_at hl 1 rfl) ?_
        refine getF (q0 := 0) (k0 := 1) (v := .ref a_tn) C hE hP inA5 rfl rfl (by decide) qFX5_15 rfl rfl dX5_takeSign_90 ?_
        refine lv_aload_n hx hb dX5_takeSign_93 rfl (lv_at hl 1 rfl) ?_
        refine getF (q0 := 0) (k0 := 5) (v := .int t_tol) C hE hP inA5 rfl rfl (by decide) qFX5_29 rfl rfl dX5_takeSign_94 ?_
        refine lv_iload_n hx hb dX5_takeSign_97 rfl (lv_at hl 0 rfl) ?_
        obtain ⟨g15, h⟩ := gd h
        refine astI (q0 := 2) (ws1 := [(a_t, .inr (5, [.ref a_ti, .ref a_tn, .int t_len, .int t_cur, .int t_kin, .int t_tol, .int t_don])), (a_ti, .inl (T 2, 60, .inl v_ti)), (a_tn, .inl (T 0, 3, .inl (upd v_tn t_tol.toNatClampNeg x0)))]) C hE hP hD hS rfl g15 rfl dX5_takeSign_98 (fun H locs hP hD hS => ?_)
        refine lv_aload_n hx hb dX5_takeSign_99 rfl (lv_at hl 1 rfl) ?_
        refine lv_dup hx hb dX5_takeSign_100 rfl ?_
        refine getF (q0 := 0) (k0 := 5) (v := .int t_tol) C hE hP inA5 rfl rfl (by decide) qFX5_29 rfl rfl dX5_takeSign_101 ?_
        refine lv_iconst (v := 1) hx hb dX5_takeSign_104 (by decide) ?_
        refine lv_iadd hx hb dX5_takeSign_105 ?_
        refine putF (q0 := 0) (k0 := 5) (ws1 := [(a_t, .inr (5, [.ref a_ti, .ref a_tn, .int t_len, .int t_cur, .int t_kin, .int (t_tol + 1), .int t_don])), (a_ti, .inl (T 2, 60, .inl v_ti)), (a_tn, .inl (T 0, 3, .inl (upd v_tn t_tol.toNatClampNeg x0)))]) C hE hP hD hS inA5 tyX5_ok nmX5 rfl rfl (by decide) qFX5_29 rfl rfl rfl rfl (Nat.le_of_ble_eq_true rfl) rfl dX5_takeSign_106 (fun H locs hP hD hS => ?_)
        exact lX5_takeSign_109 C hE hA hZ hret t_cur (t_tol + 1) (upd v_tn t_tol.toNatClampNeg x0) hP hD hS _ (lv_sub hl [1] rfl) h
  · have h := ite_f c12 h
    refine lv_iconst (v := 0) hx hb dX5_takeSign_68 (by decide) ?_
    have h := Option.some.inj h
    exact hret.1 _ _ _ _ _ _ _ _ (Nat.le_of_ble_eq_true rfl) (Nat.le_of_ble_eq_true rfl) dX5_takeSign_69 rfl (by rw [← h]) (by rw [← h] <;> rfl) (by rw [← h]; exact hP) hS
set_option maxHeartbeats 4000000 in
set_option maxRecDepth 100000 in
theorem kX5_takeSign (l : Launch) (hnt : l.stackTraces = false) (D : va_G) (T : Nat → ClassId) (a_t a_ti a_tn : Nat) (t_len : Int32) (t_cur : Int32) (t_kin : Int32) (t_tol : Int32) (t_don : Int32) (v_ti : Nat → Int32) (v_tn : Nat → Int32) (p0 : Int32) (sz : Nat) (r : Nat × Int32 × Int32 × Int32 × (Nat → Int32)) (h : fX5_takeSign t_len t_cur t_tol v_ti v_tn p0 = some r) : ThI l yX5_takeSign cX5_takeSign 3 .boolean ({ frames := 4, cells := 0, slots := 0, locals := 106 } : Room) D T sz [(a_t, .inr (5, [.ref a_ti, .ref a_tn, .int t_len, .int t_cur, .int t_kin, .int t_tol, .int t_don])), (a_ti, .inl (T 2, 60, .inl v_ti)), (a_tn, .inl (T 0, 3, .inl v_tn))] [(a_t, .inr (5, [.ref a_ti, .ref a_tn, .int t_len, .int r.2.2.1, .int t_kin, .int r.2.2.2.1, .int t_don])), (a_ti, .inl (T 2, 60, .inl v_ti)), (a_tn, .inl (T 0, 3, .inl r.2.2.2.2))] [.ref a_t, .int p0] r.1 r.2.1 := by
  unfold fX5_takeSign at h
  refine thMetI hnt (by decide +kernel) rfl (fun p e s m args below meth c Q A C hE hA hZ hP hD hS hret ls hl => ?_)
  have hx := C.1
  have hb := C.2.1
  have hl : lv_has ls 3 [(0, .ref a_t), (1, .int p0)] := hl
  refine lv_iload_n hx hb dX5_takeSign_0 rfl (lv_at hl 1 rfl) ?_
  refine lv_bipush (v := 64) hx hb dX5_takeSign_1 (by decide) ?_
  refine lv_icmp_ne (tgt := 41) hx hb dX5_takeSign_3 (by decide) (fun c1 => ?_) (fun c1 => ?_)
  · have h := ite_f c1 h
    refine lv_iload_n hx hb dX5_takeSign_41 rfl (lv_at hl 1 rfl) ?_
    refine lv_bipush (v := 110) hx hb dX5_takeSign_42 (by decide) ?_
    refine lv_icmp_ne (tgt := 59) hx hb dX5_takeSign_44 (by decide) (fun c2 => ?_) (fun c2 => ?_)
    · have h := ite_f c2 h
      refine lv_aload_n hx hb dX5_takeSign_59 rfl (lv_at hl 0 rfl) ?_
      obtain ⟨q3, e4, h⟩ := bnd h
      refine rdV C hE hP (kX5_digitHere l D T a_t a_ti a_tn t_len t_cur t_kin t_tol t_don v_ti q3 e4) mX5_digitHere qLX5_86 [0, 1] 0 rfl rfl rfl rfl ⟨rfl, rfl⟩ ⟨Nat.le_of_ble_eq_true rfl, Nat.le_of_ble_eq_true rfl⟩ rfl hl.1 rfl (Nat.le_of_ble_eq_true rfl) dX5_takeSign_60 ⟨Nat.le_of_ble_eq_true rfl, Nat.le_of_ble_eq_true rfl⟩ ?_
      exact lX5_takeSign_63 C hE hA hZ hret q3 t_cur t_tol v_tn hP hD hS _ (lv_sub hl [0] rfl) h
    · have h := ite_t c2 h
      obtain ⟨as5, vs5, hrs5, hjs5⟩ := eS_at (own := RX5) (k := 84) (tx := "nesw") (bs := [110, 101, 115, 119]) hZ 7 rfl
      refine va_ldcS hx hb C.2.2.2.1 hrs5 dX5_takeSign_47 ?_
      refine lv_aload_n hx hb dX5_takeSign_49 rfl (lv_at hl 0 rfl) ?_
      obtain ⟨q6, e7, h⟩ := bnd h
      refine rdV C hE hP (kX5_here l D T a_t a_ti a_tn t_len t_cur t_kin t_tol t_don v_ti q6 e7) mX5_here qLX5_42 [0, 1] 0 rfl rfl rfl rfl ⟨rfl, rfl⟩ ⟨Nat.le_of_ble_eq_true rfl, Nat.le_of_ble_eq_true rfl⟩ rfl hl.1 rfl (Nat.le_of_ble_eq_true rfl) dX5_takeSign_50 ⟨Nat.le_of_ble_eq_true rfl, Nat.le_of_ble_eq_true rfl⟩ ?_
      refine prV (r := (sIx [110, 101, 115, 119] q6)) C JP.blind (JP.recv hjs5 hS) (fun U hU hW => JP.use hjs5 hS hU hW) (kJ0_indexOf_0f7a4 l as5 vs5 [110, 101, 115, 119] q6 (by decide)) mJ0_indexOf_0f7a4 qLX5_48 ⟨rfl, rfl⟩ ⟨Nat.le_of_ble_eq_true rfl, Nat.le_of_ble_eq_true rfl⟩ rfl hl.1 rfl (Nat.le_of_ble_eq_true rfl) dX5_takeSign_53 ⟨Nat.le_of_ble_eq_true rfl, Nat.le_of_ble_eq_true rfl⟩ ?_
      refine lv_goto (tgt := 63) hx hb dX5_takeSign_56 (by decide) ?_
      exact lX5_takeSign_63 C hE hA hZ hret (sIx [110, 101, 115, 119] q6) t_cur t_tol v_tn hP hD hS _ (lv_sub hl [0] rfl) h
  · have h := ite_t c1 h
    refine lv_aload_n hx hb dX5_takeSign_6 rfl (lv_at hl 0 rfl) ?_
    obtain ⟨q8, e9, h⟩ := bnd h
    refine rdV C hE hP (kX5_here l D T a_t a_ti a_tn t_len t_cur t_kin t_tol t_don v_ti q8 e9) mX5_here qLX5_42 [0, 1] 0 rfl rfl rfl rfl ⟨rfl, rfl⟩ ⟨Nat.le_of_ble_eq_true rfl, Nat.le_of_ble_eq_true rfl⟩ rfl hl.1 rfl (Nat.le_of_ble_eq_true rfl) dX5_takeSign_7 ⟨Nat.le_of_ble_eq_true rfl, Nat.le_of_ble_eq_true rfl⟩ ?_
    refine lv_bipush (v := 64) hx hb dX5_takeSign_10 (by decide) ?_
    refine lv_icmp_ne (tgt := 19) hx hb dX5_takeSign_12 (by decide) (fun c10 => ?_) (fun c10 => ?_)
    · rw [if_neg c10] at h
      refine lv_iconst (v := 0) hx hb dX5_takeSign_19 (by decide) ?_
      exact lX5_takeSign_20 C hE hA hZ hret 0 t_cur t_tol v_tn hP hD hS _ (lv_sub hl [0] rfl) h
    · rw [if_pos c10] at h
      refine lv_iconst (v := 1) hx hb dX5_takeSign_15 (by decide) ?_
      refine lv_goto (tgt := 20) hx hb dX5_takeSign_16 (by decide) ?_
      exact lX5_takeSign_20 C hE hA hZ hret 1 t_cur t_tol v_tn hP hD hS _ (lv_sub hl [0] rfl) h

def fX5_takeCommand (t_len : Int32) (t_cur : Int32) (t_kin : Int32) (t_tol : Int32) (v_ti : Nat → Int32) (v_tn : Nat → Int32) : Option (Nat × Int32 × Int32 × Int32 × Int32 × (Nat → Int32)) :=
  (fX5_here t_len t_cur v_ti).bind fun q2 =>
  if (sIx [119, 109, 107, 111, 98, 100] q2) = (-1) then
    some (0, 0, t_cur, (sIx [119, 109, 107, 111, 98, 100] q2), 0, v_tn)
  else
    if (sIx [119, 109, 107, 111, 98, 100] q2) = 0 then
      (fX5_takeSign t_len (t_cur + 1) 0 v_ti v_tn 48).bind fun q8 =>
      if q8.1 = 0 then
        if q8.2.1 = 0 then
          some (0, 0, q8.2.2.1, (sIx [119, 109, 107, 111, 98, 100] q2), q8.2.2.2.1, q8.2.2.2.2)
        else
          (fX5_takeSign t_len q8.2.2.1 q8.2.2.2.1 v_ti q8.2.2.2.2 48).bind fun q12 =>
          if q12.1 = 0 then
            if q12.2.1 = 0 then
              some (0, 0, q12.2.2.1, (sIx [119, 109, 107, 111, 98, 100] q2), q12.2.2.2.1, q12.2.2.2.2)
            else
              (fX5_takeSign t_len q12.2.2.1 q12.2.2.2.1 v_ti q12.2.2.2.2 48).bind fun q16 =>
              if q16.1 = 0 then
                if q16.2.1 = 0 then
                  some (0, 0, q16.2.2.1, (sIx [119, 109, 107, 111, 98, 100] q2), q16.2.2.2.1, q16.2.2.2.2)
                else
                  if (sIx [119, 109, 107, 111, 98, 100] q2) = 1 then
                    (fX5_takeSecondDigit t_len q16.2.2.1 q16.2.2.2.1 v_ti q16.2.2.2.2).bind fun q21 =>
                    some (0, 1, q21.1, (sIx [119, 109, 107, 111, 98, 100] q2), q16.2.2.2.1, q21.2)
                  else
                    some (0, 1, q16.2.2.1, (sIx [119, 109, 107, 111, 98, 100] q2), q16.2.2.2.1, q16.2.2.2.2)
              else
                some (q16.1, 0, q16.2.2.1, (sIx [119, 109, 107, 111, 98, 100] q2), q16.2.2.2.1, q16.2.2.2.2)
          else
            some (q12.1, 0, q12.2.2.1, (sIx [119, 109, 107, 111, 98, 100] q2), q12.2.2.2.1, q12.2.2.2.2)
      else
        some (q8.1, 0, q8.2.2.1, (sIx [119, 109, 107, 111, 98, 100] q2), q8.2.2.2.1, q8.2.2.2.2)
    else
      if (sIx [119, 109, 107, 111, 98, 100] q2) = 1 then
        (fX5_takeSign t_len (t_cur + 1) 0 v_ti v_tn 48).bind fun q26 =>
        if q26.1 = 0 then
          if q26.2.1 = 0 then
            some (0, 0, q26.2.2.1, (sIx [119, 109, 107, 111, 98, 100] q2), q26.2.2.2.1, q26.2.2.2.2)
          else
            (fX5_takeSign t_len q26.2.2.1 q26.2.2.2.1 v_ti q26.2.2.2.2 64).bind fun q30 =>
            if q30.1 = 0 then
              if q30.2.1 = 0 then
                some (0, 0, q30.2.2.1, (sIx [119, 109, 107, 111, 98, 100] q2), q30.2.2.2.1, q30.2.2.2.2)
              else
                (fX5_takeSign t_len q30.2.2.1 q30.2.2.2.1 v_ti q30.2.2.2.2 48).bind fun q34 =>
                if q34.1 = 0 then
                  if q34.2.1 = 0 then
                    some (0, 0, q34.2.2.1, (sIx [119, 109, 107, 111, 98, 100] q2), q34.2.2.2.1, q34.2.2.2.2)
                  else
                    if (sIx [119, 109, 107, 111, 98, 100] q2) = 1 then
                      (fX5_takeSecondDigit t_len q34.2.2.1 q34.2.2.2.1 v_ti q34.2.2.2.2).bind fun q39 =>
                      some (0, 1, q39.1, (sIx [119, 109, 107, 111, 98, 100] q2), q34.2.2.2.1, q39.2)
                    else
                      some (0, 1, q34.2.2.1, (sIx [119, 109, 107, 111, 98, 100] q2), q34.2.2.2.1, q34.2.2.2.2)
                else
                  some (q34.1, 0, q34.2.2.1, (sIx [119, 109, 107, 111, 98, 100] q2), q34.2.2.2.1, q34.2.2.2.2)
            else
              some (q30.1, 0, q30.2.2.1, (sIx [119, 109, 107, 111, 98, 100] q2), q30.2.2.2.1, q30.2.2.2.2)
        else
          some (q26.1, 0, q26.2.2.1, (sIx [119, 109, 107, 111, 98, 100] q2), q26.2.2.2.1, q26.2.2.2.2)
      else
        if (sIx [119, 109, 107, 111, 98, 100] q2) = 2 then
          (fX5_takeSign t_len (t_cur + 1) 0 v_ti v_tn 48).bind fun q44 =>
          if q44.1 = 0 then
            if q44.2.1 = 0 then
              some (0, 0, q44.2.2.1, (sIx [119, 109, 107, 111, 98, 100] q2), q44.2.2.2.1, q44.2.2.2.2)
            else
              (fX5_takeSign t_len q44.2.2.1 q44.2.2.2.1 v_ti q44.2.2.2.2 110).bind fun q48 =>
              if q48.1 = 0 then
                if q48.2.1 = 0 then
                  some (0, 0, q48.2.2.1, (sIx [119, 109, 107, 111, 98, 100] q2), q48.2.2.2.1, q48.2.2.2.2)
                else
                  (fX5_takeSign t_len q48.2.2.1 q48.2.2.2.1 v_ti q48.2.2.2.2 48).bind fun q52 =>
                  if q52.1 = 0 then
                    if q52.2.1 = 0 then
                      some (0, 0, q52.2.2.1, (sIx [119, 109, 107, 111, 98, 100] q2), q52.2.2.2.1, q52.2.2.2.2)
                    else
                      if (sIx [119, 109, 107, 111, 98, 100] q2) = 1 then
                        (fX5_takeSecondDigit t_len q52.2.2.1 q52.2.2.2.1 v_ti q52.2.2.2.2).bind fun q57 =>
                        some (0, 1, q57.1, (sIx [119, 109, 107, 111, 98, 100] q2), q52.2.2.2.1, q57.2)
                      else
                        some (0, 1, q52.2.2.1, (sIx [119, 109, 107, 111, 98, 100] q2), q52.2.2.2.1, q52.2.2.2.2)
                  else
                    some (q52.1, 0, q52.2.2.1, (sIx [119, 109, 107, 111, 98, 100] q2), q52.2.2.2.1, q52.2.2.2.2)
              else
                some (q48.1, 0, q48.2.2.1, (sIx [119, 109, 107, 111, 98, 100] q2), q48.2.2.2.1, q48.2.2.2.2)
          else
            some (q44.1, 0, q44.2.2.1, (sIx [119, 109, 107, 111, 98, 100] q2), q44.2.2.2.1, q44.2.2.2.2)
        else
          if (sIx [119, 109, 107, 111, 98, 100] q2) = 3 then
            (fX5_takeSign t_len (t_cur + 1) 0 v_ti v_tn 48).bind fun q62 =>
            if q62.1 = 0 then
              if q62.2.1 = 0 then
                some (0, 0, q62.2.2.1, (sIx [119, 109, 107, 111, 98, 100] q2), q62.2.2.2.1, q62.2.2.2.2)
              else
                if (sIx [119, 109, 107, 111, 98, 100] q2) = 1 then
                  (fX5_takeSecondDigit t_len q62.2.2.1 q62.2.2.2.1 v_ti q62.2.2.2.2).bind fun q67 =>
                  some (0, 1, q67.1, (sIx [119, 109, 107, 111, 98, 100] q2), q62.2.2.2.1, q67.2)
                else
                  some (0, 1, q62.2.2.1, (sIx [119, 109, 107, 111, 98, 100] q2), q62.2.2.2.1, q62.2.2.2.2)
            else
              some (q62.1, 0, q62.2.2.1, (sIx [119, 109, 107, 111, 98, 100] q2), q62.2.2.2.1, q62.2.2.2.2)
          else
            if (sIx [119, 109, 107, 111, 98, 100] q2) = 4 then
              (fX5_takeSign t_len (t_cur + 1) 0 v_ti v_tn 48).bind fun q72 =>
              if q72.1 = 0 then
                if q72.2.1 = 0 then
                  some (0, 0, q72.2.2.1, (sIx [119, 109, 107, 111, 98, 100] q2), q72.2.2.2.1, q72.2.2.2.2)
                else
                  (fX5_takeSign t_len q72.2.2.1 q72.2.2.2.1 v_ti q72.2.2.2.2 48).bind fun q76 =>
                  if q76.1 = 0 then
                    if q76.2.1 = 0 then
                      some (0, 0, q76.2.2.1, (sIx [119, 109, 107, 111, 98, 100] q2), q76.2.2.2.1, q76.2.2.2.2)
                    else
                      if (sIx [119, 109, 107, 111, 98, 100] q2) = 1 then
                        (fX5_takeSecondDigit t_len q76.2.2.1 q76.2.2.2.1 v_ti q76.2.2.2.2).bind fun q81 =>
                        some (0, 1, q81.1, (sIx [119, 109, 107, 111, 98, 100] q2), q76.2.2.2.1, q81.2)
                      else
                        some (0, 1, q76.2.2.1, (sIx [119, 109, 107, 111, 98, 100] q2), q76.2.2.2.1, q76.2.2.2.2)
                  else
                    some (q76.1, 0, q76.2.2.1, (sIx [119, 109, 107, 111, 98, 100] q2), q76.2.2.2.1, q76.2.2.2.2)
              else
                some (q72.1, 0, q72.2.2.1, (sIx [119, 109, 107, 111, 98, 100] q2), q72.2.2.2.1, q72.2.2.2.2)
            else
              if (sIx [119, 109, 107, 111, 98, 100] q2) = 1 then
                (fX5_takeSecondDigit t_len (t_cur + 1) 0 v_ti v_tn).bind fun q87 =>
                some (0, 1, q87.1, (sIx [119, 109, 107, 111, 98, 100] q2), 0, q87.2)
              else
                some (0, 1, (t_cur + 1), (sIx [119, 109, 107, 111, 98, 100] q2), 0, v_tn)
set_option maxHeartbeats 4000000 in
set_option maxRecDepth 100000 in
theorem kX5_takeCommand (l : Launch) (hnt : l.stackTraces = false) (D : va_G) (T : Nat → ClassId) (a_t a_ti a_tn : Nat) (t_len : Int32) (t_cur : Int32) (t_kin : Int32) (t_tol : Int32) (t_don : Int32) (v_ti : Nat → Int32) (v_tn : Nat → Int32) (sz : Nat) (r : Nat × Int32 × Int32 × Int32 × Int32 × (Nat → Int32)) (h : fX5_takeCommand t_len t_cur t_kin t_tol v_ti v_tn = some r) : ThI l yX5_takeCommand cX5_takeCommand 3 .boolean ({ frames := 5, cells := 0, slots := 0, locals := 128 } : Room) D T sz [(a_t, .inr (5, [.ref a_ti, .ref a_tn, .int t_len, .int t_cur, .int t_kin, .int t_tol, .int t_don])), (a_ti, .inl (T 2, 60, .inl v_ti)), (a_tn, .inl (T 0, 3, .inl v_tn))] [(a_t, .inr (5, [.ref a_ti, .ref a_tn, .int t_len, .int r.2.2.1, .int r.2.2.2.1, .int r.2.2.2.2.1, .int t_don])), (a_ti, .inl (T 2, 60, .inl v_ti)), (a_tn, .inl (T 0, 3, .inl r.2.2.2.2.2))] [.ref a_t] r.1 r.2.1 := by
  unfold fX5_takeCommand at h
  refine thMetI hnt (by decide +kernel) rfl (fun p e s m args below meth c Q A C hE hA hZ hP hD hS hret ls hl => ?_)
  have hx := C.1
  have hb := C.2.1
  have hl : lv_has ls 3 [(0, .ref a_t)] := hl
  refine lv_aload_n hx hb dX5_takeCommand_0 rfl (lv_at hl 0 rfl) ?_
  obtain ⟨as1, vs1, hrs1, hjs1⟩ := eS_at (own := RX5) (k := 46) (tx := "wmkobd") (bs := [119, 109, 107, 111, 98, 100]) hZ 0 rfl
  refine va_ldcS hx hb C.2.2.2.1 hrs1 dX5_takeCommand_1 ?_
  refine lv_aload_n hx hb dX5_takeCommand_3 rfl (lv_at hl 0 rfl) ?_
  obtain ⟨q2, e3, h⟩ := bnd h
  refine rdV C hE hP (kX5_here l D T a_t a_ti a_tn t_len t_cur t_kin t_tol t_don v_ti q2 e3) mX5_here qLX5_42 [0, 1] 0 rfl rfl rfl rfl ⟨rfl, rfl⟩ ⟨Nat.le_of_ble_eq_true rfl, Nat.le_of_ble_eq_true rfl⟩ rfl hl.1 rfl (Nat.le_of_ble_eq_true rfl) dX5_takeCommand_4 ⟨Nat.le_of_ble_eq_true rfl, Nat.le_of_ble_eq_true rfl⟩ ?_
  refine prV (r := (sIx [119, 109, 107, 111, 98, 100] q2)) C JP.blind (JP.recv hjs1 hS) (fun U hU hW => JP.use hjs1 hS hU hW) (kJ0_indexOf_0f7a4 l as1 vs1 [119, 109, 107, 111, 98, 100] q2 (by decide)) mJ0_indexOf_0f7a4 qLX5_48 ⟨rfl, rfl⟩ ⟨Nat.le_of_ble_eq_true rfl, Nat.le_of_ble_eq_true rfl⟩ rfl hl.1 rfl (Nat.le_of_ble_eq_true rfl) dX5_takeCommand_7 ⟨Nat.le_of_ble_eq_true rfl, Nat.le_of_ble_eq_true rfl⟩ ?_
  refine putF (q0 := 0) (k0 := 4) (ws1 := [(a_t, .inr (5, [.ref a_ti, .ref a_tn, .int t_len, .int t_cur, .int (sIx [119, 109, 107, 111, 98, 100] q2), .int t_tol, .int t_don])), (a_ti, .inl (T 2, 60, .inl v_ti)), (a_tn, .inl (T 0, 3, .inl v_tn))]) C hE hP hD hS inA5 tyX5_ok nmX5 rfl rfl (by decide) qFX5_26 rfl rfl rfl rfl (Nat.le_of_ble_eq_true rfl) rfl dX5_takeCommand_10 (fun H locs hP hD hS => ?_)
  refine lv_aload_n hx hb dX5_takeCommand_13 rfl (lv_at hl 0 rfl) ?_
  refine lv_iconst (v := 0) hx hb dX5_takeCommand_14 (by decide) ?_
  refine putF (q0 := 0) (k0 := 5) (ws1 := [(a_t, .inr (5, [.ref a_ti, .ref a_tn, .int t_len, .int t_cur, .int (sIx [119, 109, 107, 111, 98, 100] q2), .int 0, .int t_don])), (a_ti, .inl (T 2, 60, .inl v_ti)), (a_tn, .inl (T 0, 3, .inl v_tn))]) C hE hP hD hS inA5 tyX5_ok nmX5 rfl rfl (by decide) qFX5_29 rfl rfl rfl rfl (Nat.le_of_ble_eq_true rfl) rfl dX5_takeCommand_15 (fun H locs hP hD hS => ?_)
  refine lv_aload_n hx hb dX5_takeCommand_18 rfl (lv_at hl 0 rfl) ?_
  refine getF (q0 := 0) (k0 := 4) (v := .int (sIx [119, 109, 107, 111, 98, 100] q2)) C hE hP inA5 rfl rfl (by decide) qFX5_26 rfl rfl dX5_takeCommand_19 ?_
  refine lv_iconst (v := (-1)) hx hb dX5_takeCommand_22 (by decide) ?_
  refine lv_icmp_ne (tgt := 28) hx hb dX5_takeCommand_23 (by decide) (fun c4 => ?_) (fun c4 => ?_)
  · have h := ite_f c4 h
    refine lv_aload_n hx hb dX5_takeCommand_28 rfl (lv_at hl 0 rfl) ?_
    refine lv_dup hx hb dX5_takeCommand_29 rfl ?_
    refine getF (q0 := 0) (k0 := 3) (v := .int t_cur) C hE hP inA5 rfl rfl (by decide) qFX5_23 rfl rfl dX5_takeCommand_30 ?_
    refine lv_iconst (v := 1) hx hb dX5_takeCommand_33 (by decide) ?_
    refine lv_iadd hx hb dX5_takeCommand_34 ?_
    refine putF (q0 := 0) (k0 := 3) (ws1 := [(a_t, .inr (5, [.ref a_ti, .ref a_tn, .int t_len, .int (t_cur + 1), .int (sIx [119, 109, 107, 111, 98, 100] q2), .int 0, .int t_don])), (a_ti, .inl (T 2, 60, .inl v_ti)), (a_tn, .inl (T 0, 3, .inl v_tn))]) C hE hP hD hS inA5 tyX5_ok nmX5 rfl rfl (by decide) qFX5_23 rfl rfl rfl rfl (Nat.le_of_ble_eq_true rfl) rfl dX5_takeCommand_35 (fun H locs hP hD hS => ?_)
    refine lv_aload_n hx hb dX5_takeCommand_38 rfl (lv_at hl 0 rfl) ?_
    refine getF (q0 := 0) (k0 := 4) (v := .int (sIx [119, 109, 107, 111, 98, 100] q2)) C hE hP inA5 rfl rfl (by decide) qFX5_26 rfl rfl dX5_takeCommand_39 ?_
    by_cases c6 : (sIx [119, 109, 107, 111, 98, 100] q2) = 0
    · have h := ite_t c6 h
      obtain ⟨as5, vs5, hrs5, hjs5⟩ := eS_at (own := RX5) (k := 72) (tx := "000") (bs := [48, 48, 48]) hZ 1 rfl
      refine prSR C vkR_blind (fun U hU hW => hrs5.warm hW) (kX5_signsOf_0 l as5 (sIx [119, 109, 107, 111, 98, 100] q2) c6) mX5_signsOf qLX5_54 ⟨rfl, rfl⟩ ⟨Nat.le_of_ble_eq_true rfl, Nat.le_of_ble_eq_true rfl⟩ rfl hl.1 rfl (Nat.le_of_ble_eq_true rfl) dX5_takeCommand_42 ⟨Nat.le_of_ble_eq_true rfl, Nat.le_of_ble_eq_true rfl⟩ ?_
      refine lv_astore_n (lv' := [(1, .ref as5), (0, .ref a_t)]) hx hb dX5_takeCommand_45 rfl hl (by decide) rfl (fun ls hl => ?_)
      refine lv_iconst (v := 0) hx hb dX5_takeCommand_46 (by decide) ?_
      refine lv_istore_n (lv' := [(2, .int 0), (1, .ref as5), (0, .ref a_t)]) hx hb dX5_takeCommand_47 rfl hl (by decide) rfl (fun ls hl => ?_)
      refine lv_iload_n hx hb dX5_takeCommand_48 rfl (lv_at hl 0 rfl) ?_
      refine lv_aload_n hx hb dX5_takeCommand_49 rfl (lv_at hl 1 rfl) ?_
      refine prV (r := 3) C JP.blind (JP.recv hjs5 hS) (fun U hU hW => JP.use hjs5 hS hU hW) (kJ0_length_8abf5 l as5 vs5 [48, 48, 48] (by decide)) mJ0_length_8abf5 qLX5_58 ⟨rfl, rfl⟩ ⟨Nat.le_of_ble_eq_true rfl, Nat.le_of_ble_eq_true rfl⟩ rfl hl.1 rfl (Nat.le_of_ble_eq_true rfl) dX5_takeCommand_50 ⟨Nat.le_of_ble_eq_true rfl, Nat.le_of_ble_eq_true rfl⟩ ?_
      refine lv_icmp_ge (tgt := 76) hx hb dX5_takeCommand_53 (by decide) (fun c7 => absurd c7 (by decide)) (fun c7 => ?_)
      refine lv_aload_n hx hb dX5_takeCommand_56 rfl (lv_at hl 2 rfl) ?_
      refine lv_aload_n hx hb dX5_takeCommand_57 rfl (lv_at hl 1 rfl) ?_
      refine lv_iload_n hx hb dX5_takeCommand_58 rfl (lv_at hl 0 rfl) ?_
      refine prV (r := 48) C JP.blind (JP.recv hjs5 hS) (fun U hU hW => JP.use hjs5 hS hU hW) (kJ0_charAt_5068e l as5 vs5 [48, 48, 48] 0 48 (by decide)) mJ0_charAt_5068e qLX5_61 ⟨rfl, rfl⟩ ⟨Nat.le_of_ble_eq_true rfl, Nat.le_of_ble_eq_true rfl⟩ rfl hl.1 rfl (Nat.le_of_ble_eq_true rfl) dX5_takeCommand_59 ⟨Nat.le_of_ble_eq_true rfl, Nat.le_of_ble_eq_true rfl⟩ ?_
      obtain ⟨q8, e9, h⟩ := bnd h
      refine thVi (ws1 := [(a_t, .inr (5, [.ref a_ti, .ref a_tn, .int t_len, .int q8.2.2.1, .int (sIx [119, 109, 107, 111, 98, 100] q2), .int q8.2.2.2.1, .int t_don])), (a_ti, .inl (T 2, 60, .inl v_ti)), (a_tn, .inl (T 0, 3, .inl q8.2.2.2.2))]) C hE hZ hP hD hS hA (kX5_takeSign l hZ.1 D T a_t a_ti a_tn t_len (t_cur + 1) (sIx [119, 109, 107, 111, 98, 100] q2) 0 t_don v_ti v_tn 48 _ q8 e9) mX5_takeSign qLX5_65 [0, 1, 2] [] 0 rfl rfl rfl rfl rfl rfl rfl rfl rfl ⟨Nat.le_of_ble_eq_true rfl, Nat.le_of_ble_eq_true rfl⟩ rfl hl.1 rfl (Nat.le_of_ble_eq_true rfl) dX5_takeCommand_62 ⟨Nat.le_of_ble_eq_true rfl, Nat.le_of_ble_eq_true rfl⟩ (fun hx0 H locs ce q9 hP hD hS g1 g2 g3 => ?_) (fun hx0 H locs hP hD hS => ?_)
      · have h := ite_f (Nat.ne_of_gt hx0) h
        have h := Option.some.inj h
        exact hret.2.1 _ _ _ _ _ _ _ _ _ (Nat.le_of_ble_eq_true rfl) (Nat.le_of_ble_eq_true rfl) (by rw [← h]; exact hx0) (by rw [← h]; exact hP) hS g1 g2 (by rw [← h]; exact g3)
      · have h := ite_t hx0 h
        refine lv_if_ne (tgt := 70) hx hb dX5_takeCommand_65 (by decide) (fun c10 => ?_) (fun c10 => ?_)
        · have h := ite_f c10 h
          refine lv_iinc (v := 1) (lv' := [(2, .int 1), (1, .ref as5), (0, .ref a_t)]) hx hb dX5_takeCommand_70 hl (k := 0) rfl rfl (by decide) rfl (fun ls hl => ?_)
          refine lv_goto (tgt := 48) hx hb dX5_takeCommand_73 (by decide) ?_
          refine lv_iload_n hx hb dX5_takeCommand_48 rfl (lv_at hl 0 rfl) ?_
          refine lv_aload_n hx hb dX5_takeCommand_49 rfl (lv_at hl 1 rfl) ?_
          refine prV (r := 3) C JP.blind (JP.recv hjs5 hS) (fun U hU hW => JP.use hjs5 hS hU hW) (kJ0_length_8abf5 l as5 vs5 [48, 48, 48] (by decide)) mJ0_length_8abf5 qLX5_58 ⟨rfl, rfl⟩ ⟨Nat.le_of_ble_eq_true rfl, Nat.le_of_ble_eq_true rfl⟩ rfl hl.1 rfl (Nat.le_of_ble_eq_true rfl) dX5_takeCommand_50 ⟨Nat.le_of_ble_eq_true rfl, Nat.le_of_ble_eq_true rfl⟩ ?_
          refine lv_icmp_ge (tgt := 76) hx hb dX5_takeCommand_53 (by decide) (fun c11 => absurd c11 (by decide)) (fun c11 => ?_)
          refine lv_aload_n hx hb dX5_takeCommand_56 rfl (lv_at hl 2 rfl) ?_
          refine lv_aload_n hx hb dX5_takeCommand_57 rfl (lv_at hl 1 rfl) ?_
          refine lv_iload_n hx hb dX5_takeCommand_58 rfl (lv_at hl 0 rfl) ?_
          refine prV (r := 48) C JP.blind (JP.recv hjs5 hS) (fun U hU hW => JP.use hjs5 hS hU hW) (kJ0_charAt_5068e l as5 vs5 [48, 48, 48] 1 48 (by decide)) mJ0_charAt_5068e qLX5_61 ⟨rfl, rfl⟩ ⟨Nat.le_of_ble_eq_true rfl, Nat.le_of_ble_eq_true rfl⟩ rfl hl.1 rfl (Nat.le_of_ble_eq_true rfl) dX5_takeCommand_59 ⟨Nat.le_of_ble_eq_true rfl, Nat.le_of_ble_eq_true rfl⟩ ?_
          obtain ⟨q12, e13, h⟩ := bnd h
          refine thVi (ws1 := [(a_t, .inr (5, [.ref a_ti, .ref a_tn, .int t_len, .int q12.2.2.1, .int (sIx [119, 109, 107, 111, 98, 100] q2), .int q12.2.2.2.1, .int t_don])), (a_ti, .inl (T 2, 60, .inl v_ti)), (a_tn, .inl (T 0, 3, .inl q12.2.2.2.2))]) C hE hZ hP hD hS hA (kX5_takeSign l hZ.1 D T a_t a_ti a_tn t_len q8.2.2.1 (sIx [119, 109, 107, 111, 98, 100] q2) q8.2.2.2.1 t_don v_ti q8.2.2.2.2 48 _ q12 e13) mX5_takeSign qLX5_65 [0, 1, 2] [] 0 rfl rfl rfl rfl rfl rfl rfl rfl rfl ⟨Nat.le_of_ble_eq_true rfl, Nat.le_of_ble_eq_true rfl⟩ rfl hl.1 rfl (Nat.le_of_ble_eq_true rfl) dX5_takeCommand_62 ⟨Nat.le_of_ble_eq_true rfl, Nat.le_of_ble_eq_true rfl⟩ (fun hx0 H locs ce q9 hP hD hS g1 g2 g3 => ?_) (fun hx0 H locs hP hD hS => ?_)
          · have h := ite_f (Nat.ne_of_gt hx0) h
            have h := Option.some.inj h
            exact hret.2.1 _ _ _ _ _ _ _ _ _ (Nat.le_of_ble_eq_true rfl) (Nat.le_of_ble_eq_true rfl) (by rw [← h]; exact hx0) (by rw [← h]; exact hP) hS g1 g2 (by rw [← h]; exact g3)
          · have h := ite_t hx0 h
            refine lv_if_ne (tgt := 70) hx hb dX5_takeCommand_65 (by decide) (fun c14 => ?_) (fun c14 => ?_)
            · have h := ite_f c14 h
              refine lv_iinc (v := 2) (lv' := [(2, .int 2), (1, .ref as5), (0, .ref a_t)]) hx hb dX5_takeCommand_70 hl (k := 0) rfl rfl (by decide) rfl (fun ls hl => ?_)
              refine lv_goto (tgt := 48) hx hb dX5_takeCommand_73 (by decide) ?_
              refine lv_iload_n hx hb dX5_takeCommand_48 rfl (lv_at hl 0 rfl) ?_
              refine lv_aload_n hx hb dX5_takeCommand_49 rfl (lv_at hl 1 rfl) ?_
              refine prV (r := 3) C JP.blind (JP.recv hjs5 hS) (fun U hU hW => JP.use hjs5 hS hU hW) (kJ0_length_8abf5 l as5 vs5 [48, 48, 48] (by decide)) mJ0_length_8abf5 qLX5_58 ⟨rfl, rfl⟩ ⟨Nat.le_of_ble_eq_true rfl, Nat.le_of_ble_eq_true rfl⟩ rfl hl.1 rfl (Nat.le_of_ble_eq_true rfl) dX5_takeCommand_50 ⟨Nat.le_of_ble_eq_true rfl, Nat.le_of_ble_eq_true rfl⟩ ?_
              refine lv_icmp_ge (tgt := 76) hx hb dX5_takeCommand_53 (by decide) (fun c15 => absurd c15 (by decide)) (fun c15 => ?_)
              refine lv_aload_n hx hb dX5_takeCommand_56 rfl (lv_at hl 2 rfl) ?_
              refine lv_aload_n hx hb dX5_takeCommand_57 rfl (lv_at hl 1 rfl) ?_
              refine lv_iload_n hx hb dX5_takeCommand_58 rfl (lv_at hl 0 rfl) ?_
              refine prV (r := 48) C JP.blind (JP.recv hjs5 hS) (fun U hU hW => JP.use hjs5 hS hU hW) (kJ0_charAt_5068e l as5 vs5 [48, 48, 48] 2 48 (by decide)) mJ0_charAt_5068e qLX5_61 ⟨rfl, rfl⟩ ⟨Nat.le_of_ble_eq_true rfl, Nat.le_of_ble_eq_true rfl⟩ rfl hl.1 rfl (Nat.le_of_ble_eq_true rfl) dX5_takeCommand_59 ⟨Nat.le_of_ble_eq_true rfl, Nat.le_of_ble_eq_true rfl⟩ ?_
              obtain ⟨q16, e17, h⟩ := bnd h
              refine thVi (ws1 := [(a_t, .inr (5, [.ref a_ti, .ref a_tn, .int t_len, .int q16.2.2.1, .int (sIx [119, 109, 107, 111, 98, 100] q2), .int q16.2.2.2.1, .int t_don])), (a_ti, .inl (T 2, 60, .inl v_ti)), (a_tn, .inl (T 0, 3, .inl q16.2.2.2.2))]) C hE hZ hP hD hS hA (kX5_takeSign l hZ.1 D T a_t a_ti a_tn t_len q12.2.2.1 (sIx [119, 109, 107, 111, 98, 100] q2) q12.2.2.2.1 t_don v_ti q12.2.2.2.2 48 _ q16 e17) mX5_takeSign qLX5_65 [0, 1, 2] [] 0 rfl rfl rfl rfl rfl rfl rfl rfl rfl ⟨Nat.le_of_ble_eq_true rfl, Nat.le_of_ble_eq_true rfl⟩ rfl hl.1 rfl (Nat.le_of_ble_eq_true rfl) dX5_takeCommand_62 ⟨Nat.le_of_ble_eq_true rfl, Nat.le_of_ble_eq_true rfl⟩ (fun hx0 H locs ce q9 hP hD hS g1 g2 g3 => ?_) (fun hx0 H locs hP hD hS => ?_)
              · have h := ite_f (Nat.ne_of_gt hx0) h
                have h := Option.some.inj h
                exact hret.2.1 _ _ _ _ _ _ _ _ _ (Nat.le_of_ble_eq_true rfl) (Nat.le_of_ble_eq_true rfl) (by rw [← h]; exact hx0) (by rw [← h]; exact hP) hS g1 g2 (by rw [← h]; exact g3)
              · have h := ite_t hx0 h
                refine lv_if_ne (tgt := 70) hx hb dX5_takeCommand_65 (by decide) (fun c18 => ?_) (fun c18 => ?_)
                · have h := ite_f c18 h
                  refine lv_iinc (v := 3) (lv' := [(2, .int 3), (1, .ref as5), (0, .ref a_t)]) hx hb dX5_takeCommand_70 hl (k := 0) rfl rfl (by decide) rfl (fun ls hl => ?_)
                  refine lv_goto (tgt := 48) hx hb dX5_takeCommand_73 (by decide) ?_
                  refine lv_iload_n hx hb dX5_takeCommand_48 rfl (lv_at hl 0 rfl) ?_
                  refine lv_aload_n hx hb dX5_takeCommand_49 rfl (lv_at hl 1 rfl) ?_
                  refine prV (r := 3) C JP.blind (JP.recv hjs5 hS) (fun U hU hW => JP.use hjs5 hS hU hW) (kJ0_length_8abf5 l as5 vs5 [48, 48, 48] (by decide)) mJ0_length_8abf5 qLX5_58 ⟨rfl, rfl⟩ ⟨Nat.le_of_ble_eq_true rfl, Nat.le_of_ble_eq_true rfl⟩ rfl hl.1 rfl (Nat.le_of_ble_eq_true rfl) dX5_takeCommand_50 ⟨Nat.le_of_ble_eq_true rfl, Nat.le_of_ble_eq_true rfl⟩ ?_
                  refine lv_icmp_ge (tgt := 76) hx hb dX5_takeCommand_53 (by decide) (fun c19 => ?_) (fun c19 => absurd c19 (by decide))
                  refine lv_aload_n hx hb dX5_takeCommand_76 rfl (lv_at hl 2 rfl) ?_
                  refine getF (q0 := 0) (k0 := 4) (v := .int (sIx [119, 109, 107, 111, 98, 100] q2)) C hE hP inA5 rfl rfl (by decide) qFX5_26 rfl rfl dX5_takeCommand_77 ?_
                  refine lv_iconst (v := 1) hx hb dX5_takeCommand_80 (by decide) ?_
                  refine lv_icmp_ne (tgt := 88) hx hb dX5_takeCommand_81 (by decide) (fun c20 => ?_) (fun c20 => ?_)
                  · have h := ite_f c20 h
                    refine lv_iconst (v := 1) hx hb dX5_takeCommand_88 (by decide) ?_
                    have h := Option.some.inj h
                    exact hret.1 _ _ _ _ _ _ _ _ (Nat.le_of_ble_eq_true rfl) (Nat.le_of_ble_eq_true rfl) dX5_takeCommand_89 rfl (by rw [← h]) (by rw [← h] <;> rfl) (by rw [← h]; exact hP) hS
                  · have h := ite_t c20 h
                    refine lv_aload_n hx hb dX5_takeCommand_84 rfl (lv_at hl 2 rfl) ?_
                    obtain ⟨q21, e22, h⟩ := bnd h
                    refine wrVv (ws1 := [(a_t, .inr (5, [.ref a_ti, .ref a_tn, .int t_len, .int q21.1, .int (sIx [119, 109, 107, 111, 98, 100] q2), .int q16.2.2.2.1, .int t_don])), (a_ti, .inl (T 2, 60, .inl v_ti)), (a_tn, .inl (T 0, 3, .inl q21.2))]) C hE hP hD hS hA (kX5_takeSecondDigit l D T a_t a_ti a_tn t_len q16.2.2.1 (sIx [119, 109, 107, 111, 98, 100] q2) q16.2.2.2.1 t_don v_ti q16.2.2.2.2 _ q21 e22) mX5_takeSecondDigit qLX5_69 [0, 1, 2] [] 0 rfl rfl rfl rfl rfl rfl rfl rfl rfl ⟨rfl, rfl⟩ ⟨Nat.le_of_ble_eq_true rfl, Nat.le_of_ble_eq_true rfl⟩ rfl hl.1 rfl (Nat.le_of_ble_eq_true rfl) dX5_takeCommand_85 ⟨Nat.le_of_ble_eq_true rfl, Nat.le_of_ble_eq_true rfl⟩ (fun H locs hP hD hS => ?_)
                    refine lv_iconst (v := 1) hx hb dX5_takeCommand_88 (by decide) ?_
                    have h := Option.some.inj h
                    exact hret.1 _ _ _ _ _ _ _ _ (Nat.le_of_ble_eq_true rfl) (Nat.le_of_ble_eq_true rfl) dX5_takeCommand_89 rfl (by rw [← h]) (by rw [← h] <;> rfl) (by rw [← h]; exact hP) hS
                · have h := ite_t c18 h
                  refine lv_iconst (v := 0) hx hb dX5_takeCommand_68 (by decide) ?_
                  have h := Option.some.inj h
                  exact hret.1 _ _ _ _ _ _ _ _ (Nat.le_of_ble_eq_true rfl) (Nat.le_of_ble_eq_true rfl) dX5_takeCommand_69 rfl (by rw [← h]) (by rw [← h] <;> rfl) (by rw [← h]; exact hP) hS
            · have h := ite_t c14 h
              refine lv_iconst (v := 0) hx hb dX5_takeCommand_68 (by decide) ?_
              have h := Option.some.inj h
              exact hret.1 _ _ _ _ _ _ _ _ (Nat.le_of_ble_eq_true rfl) (Nat.le_of_ble_eq_true rfl) dX5_takeCommand_69 rfl (by rw [← h]) (by rw [← h] <;> rfl) (by rw [← h]; exact hP) hS
        · have h := ite_t c10 h
          refine lv_iconst (v := 0) hx hb dX5_takeCommand_68 (by decide) ?_
          have h := Option.some.inj h
          exact hret.1 _ _ _ _ _ _ _ _ (Nat.le_of_ble_eq_true rfl) (Nat.le_of_ble_eq_true rfl) dX5_takeCommand_69 rfl (by rw [← h]) (by rw [← h] <;> rfl) (by rw [← h]; exact hP) hS
    · have h := ite_f c6 h
      by_cases c24 : (sIx [119, 109, 107, 111, 98, 100] q2) = 1
      · have h := ite_t c24 h
        obtain ⟨as23, vs23, hrs23, hjs23⟩ := eS_at (own := RX5) (k := 74) (tx := "0@0") (bs := [48, 64, 48]) hZ 2 rfl
        refine prSR C vkR_blind (fun U hU hW => hrs23.warm hW) (kX5_signsOf_1 l as23 (sIx [119, 109, 107, 111, 98, 100] q2) c24) mX5_signsOf qLX5_54 ⟨rfl, rfl⟩ ⟨Nat.le_of_ble_eq_true rfl, Nat.le_of_ble_eq_true rfl⟩ rfl hl.1 rfl (Nat.le_of_ble_eq_true rfl) dX5_takeCommand_42 ⟨Nat.le_of_ble_eq_true rfl, Nat.le_of_ble_eq_true rfl⟩ ?_
        refine lv_astore_n (lv' := [(1, .ref as23), (0, .ref a_t)]) hx hb dX5_takeCommand_45 rfl hl (by decide) rfl (fun ls hl => ?_)
        refine lv_iconst (v := 0) hx hb dX5_takeCommand_46 (by decide) ?_
        refine lv_istore_n (lv' := [(2, .int 0), (1, .ref as23), (0, .ref a_t)]) hx hb dX5_takeCommand_47 rfl hl (by decide) rfl (fun ls hl => ?_)
        refine lv_iload_n hx hb dX5_takeCommand_48 rfl (lv_at hl 0 rfl) ?_
        refine lv_aload_n hx hb dX5_takeCommand_49 rfl (lv_at hl 1 rfl) ?_
        refine prV (r := 3) C JP.blind (JP.recv hjs23 hS) (fun U hU hW => JP.use hjs23 hS hU hW) (kJ0_length_8abf5 l as23 vs23 [48, 64, 48] (by decide)) mJ0_length_8abf5 qLX5_58 ⟨rfl, rfl⟩ ⟨Nat.le_of_ble_eq_true rfl, Nat.le_of_ble_eq_true rfl⟩ rfl hl.1 rfl (Nat.le_of_ble_eq_true rfl) dX5_takeCommand_50 ⟨Nat.le_of_ble_eq_true rfl, Nat.le_of_ble_eq_true rfl⟩ ?_
        refine lv_icmp_ge (tgt := 76) hx hb dX5_takeCommand_53 (by decide) (fun c25 => absurd c25 (by decide)) (fun c25 => ?_)
        refine lv_aload_n hx hb dX5_takeCommand_56 rfl (lv_at hl 2 rfl) ?_
        refine lv_aload_n hx hb dX5_takeCommand_57 rfl (lv_at hl 1 rfl) ?_
        refine lv_iload_n hx hb dX5_takeCommand_58 rfl (lv_at hl 0 rfl) ?_
        refine prV (r := 48) C JP.blind (JP.recv hjs23 hS) (fun U hU hW => JP.use hjs23 hS hU hW) (kJ0_charAt_5068e l as23 vs23 [48, 64, 48] 0 48 (by decide)) mJ0_charAt_5068e qLX5_61 ⟨rfl, rfl⟩ ⟨Nat.le_of_ble_eq_true rfl, Nat.le_of_ble_eq_true rfl⟩ rfl hl.1 rfl (Nat.le_of_ble_eq_true rfl) dX5_takeCommand_59 ⟨Nat.le_of_ble_eq_true rfl, Nat.le_of_ble_eq_true rfl⟩ ?_
        obtain ⟨q26, e27, h⟩ := bnd h
        refine thVi (ws1 := [(a_t, .inr (5, [.ref a_ti, .ref a_tn, .int t_len, .int q26.2.2.1, .int (sIx [119, 109, 107, 111, 98, 100] q2), .int q26.2.2.2.1, .int t_don])), (a_ti, .inl (T 2, 60, .inl v_ti)), (a_tn, .inl (T 0, 3, .inl q26.2.2.2.2))]) C hE hZ hP hD hS hA (kX5_takeSign l hZ.1 D T a_t a_ti a_tn t_len (t_cur + 1) (sIx [119, 109, 107, 111, 98, 100] q2) 0 t_don v_ti v_tn 48 _ q26 e27) mX5_takeSign qLX5_65 [0, 1, 2] [] 0 rfl rfl rfl rfl rfl rfl rfl rfl rfl ⟨Nat.le_of_ble_eq_true rfl, Nat.le_of_ble_eq_true rfl⟩ rfl hl.1 rfl (Nat.le_of_ble_eq_true rfl) dX5_takeCommand_62 ⟨Nat.le_of_ble_eq_true rfl, Nat.le_of_ble_eq_true rfl⟩ (fun hx0 H locs ce q9 hP hD hS g1 g2 g3 => ?_) (fun hx0 H locs hP hD hS => ?_)
        · have h := ite_f (Nat.ne_of_gt hx0) h
          have h := Option.some.inj h
          exact hret.2.1 _ _ _ _ _ _ _ _ _ (Nat.le_of_ble_eq_true rfl) (Nat.le_of_ble_eq_true rfl) (by rw [← h]; exact hx0) (by rw [← h]; exact hP) hS g1 g2 (by rw [← h]; exact g3)
        · have h := ite_t hx0 h
          refine lv_if_ne (tgt := 70) hx hb dX5_takeCommand_65 (by decide) (fun c28 => ?_) (fun c28 => ?_)
          · have h := ite_f c28 h
            refine lv_iinc (v := 1) (lv' := [(2, .int 1), (1, .ref as23), (0, .ref a_t)]) hx hb dX5_takeCommand_70 hl (k := 0) rfl rfl (by decide) rfl (fun ls hl => ?_)
            refine lv_goto (tgt := 48) hx hb dX5_takeCommand_73 (by decide) ?_
            refine lv_iload_n hx hb dX5_takeCommand_48 rfl (lv_at hl 0 rfl) ?_
            refine lv_aload_n hx hb dX5_takeCommand_49 rfl (lv_at hl 1 rfl) ?_
            refine prV (r := 3) C JP.blind (JP.recv hjs23 hS) (fun U hU hW => JP.use hjs23 hS hU hW) (kJ0_length_8abf5 l as23 vs23 [48, 64, 48] (by decide)) mJ0_length_8abf5 qLX5_58 ⟨rfl, rfl⟩ ⟨Nat.le_of_ble_eq_true rfl, Nat.le_of_ble_eq_true rfl⟩ rfl hl.1 rfl (Nat.le_of_ble_eq_true rfl) dX5_takeCommand_50 ⟨Nat.le_of_ble_eq_true rfl, Nat.le_of_ble_eq_true rfl⟩ ?_
            refine lv_icmp_ge (tgt := 76) hx hb dX5_takeCommand_53 (by decide) (fun c29 => absurd c29 (by decide)) (fun c29 => ?_)
            refine lv_aload_n hx hb dX5_takeCommand_56 rfl (lv_at hl 2 rfl) ?_
            refine lv_aload_n hx hb dX5_takeCommand_57 rfl (lv_at hl 1 rfl) ?_
            refine lv_iload_n hx hb dX5_takeCommand_58 rfl (lv_at hl 0 rfl) ?_
            refine prV (r := 64) C JP.blind (JP.recv hjs23 hS) (fun U hU hW => JP.use hjs23 hS hU hW) (kJ0_charAt_5068e l as23 vs23 [48, 64, 48] 1 64 (by decide)) mJ0_charAt_5068e qLX5_61 ⟨rfl, rfl⟩ ⟨Nat.le_of_ble_eq_true rfl, Nat.le_of_ble_eq_true rfl⟩ rfl hl.1 rfl (Nat.le_of_ble_eq_true rfl) dX5_takeCommand_59 ⟨Nat.le_of_ble_eq_true rfl, Nat.le_of_ble_eq_true rfl⟩ ?_
            obtain ⟨q30, e31, h⟩ := bnd h
            refine thVi (ws1 := [(a_t, .inr (5, [.ref a_ti, .ref a_tn, .int t_len, .int q30.2.2.1, .int (sIx [119, 109, 107, 111, 98, 100] q2), .int q30.2.2.2.1, .int t_don])), (a_ti, .inl (T 2, 60, .inl v_ti)), (a_tn, .inl (T 0, 3, .inl q30.2.2.2.2))]) C hE hZ hP hD hS hA (kX5_takeSign l hZ.1 D T a_t a_ti a_tn t_len q26.2.2.1 (sIx [119, 109, 107, 111, 98, 100] q2) q26.2.2.2.1 t_don v_ti q26.2.2.2.2 64 _ q30 e31) mX5_takeSign qLX5_65 [0, 1, 2] [] 0 rfl rfl rfl rfl rfl rfl rfl rfl rfl ⟨Nat.le_of_ble_eq_true rfl, Nat.le_of_ble_eq_true rfl⟩ rfl hl.1 rfl (Nat.le_of_ble_eq_true rfl) dX5_takeCommand_62 ⟨Nat.le_of_ble_eq_true rfl, Nat.le_of_ble_eq_true rfl⟩ (fun hx0 H locs ce q9 hP hD hS g1 g2 g3 => ?_) (fun hx0 H locs hP hD hS => ?_)
            · have h := ite_f (Nat.ne_of_gt hx0) h
              have h := Option.some.inj h
              exact hret.2.1 _ _ _ _ _ _ _ _ _ (Nat.le_of_ble_eq_true rfl) (Nat.le_of_ble_eq_true rfl) (by rw [← h]; exact hx0) (by rw [← h]; exact hP) hS g1 g2 (by rw [← h]; exact g3)
            · have h := ite_t hx0 h
              refine lv_if_ne (tgt := 70) hx hb dX5_takeCommand_65 (by decide) (fun c32 => ?_) (fun c32 => ?_)
              · have h := ite_f c32 h
                refine lv_iinc (v := 2) (lv' := [(2, .int 2), (1, .ref as23), (0, .ref a_t)]) hx hb dX5_takeCommand_70 hl (k := 0) rfl rfl (by decide) rfl (fun ls hl => ?_)
                refine lv_goto (tgt := 48) hx hb dX5_takeCommand_73 (by decide) ?_
                refine lv_iload_n hx hb dX5_takeCommand_48 rfl (lv_at hl 0 rfl) ?_
                refine lv_aload_n hx hb dX5_takeCommand_49 rfl (lv_at hl 1 rfl) ?_
                refine prV (r := 3) C JP.blind (JP.recv hjs23 hS) (fun U hU hW => JP.use hjs23 hS hU hW) (kJ0_length_8abf5 l as23 vs23 [48, 64, 48] (by decide)) mJ0_length_8abf5 qLX5_58 ⟨rfl, rfl⟩ ⟨Nat.le_of_ble_eq_true rfl, Nat.le_of_ble_eq_true rfl⟩ rfl hl.1 rfl (Nat.le_of_ble_eq_true rfl) dX5_takeCommand_50 ⟨Nat.le_of_ble_eq_true rfl, Nat.le_of_ble_eq_true rfl⟩ ?_
                refine lv_icmp_ge (tgt := 76) hx hb dX5_takeCommand_53 (by decide) (fun c33 => absurd c33 (by decide)) (fun c33 => ?_)
                refine lv_aload_n hx hb dX5_takeCommand_56 rfl (lv_at hl 2 rfl) ?_
                refine lv_aload_n hx hb dX5_takeCommand_57 rfl (lv_at hl 1 rfl) ?_
                refine lv_iload_n hx hb dX5_takeCommand_58 rfl (lv_at hl 0 rfl) ?_
                refine prV (r := 48) C JP.blind (JP.recv hjs23 hS) (fun U hU hW => JP.use hjs23 hS hU hW) (kJ0_charAt_5068e l as23 vs23 [48, 64, 48] 2 48 (by decide)) mJ0_charAt_5068e qLX5_61 ⟨rfl, rfl⟩ ⟨Nat.le_of_ble_eq_true rfl, Nat.le_of_ble_eq_true rfl⟩ rfl hl.1 rfl (Nat.le_of_ble_eq_true rfl) dX5_takeCommand_59 ⟨Nat.le_of_ble_eq_true rfl, Nat.le_of_ble_eq_true rfl⟩ ?_
                obtain ⟨q34, e35, h⟩ := bnd h
                refine thVi (ws1 := [(a_t, .inr (5, [.ref a_ti, .ref a_tn, .int t_len, .int q34.2.2.1, .int (sIx [119, 109, 107, 111, 98, 100] q2), .int q34.2.2.2.1, .int t_don])), (a_ti, .inl (T 2, 60, .inl v_ti)), (a_tn, .inl (T 0, 3, .inl q34.2.2.2.2))]) C hE hZ hP hD hS hA (kX5_takeSign l hZ.1 D T a_t a_ti a_tn t_len q30.2.2.1 (sIx [119, 109, 107, 111, 98, 100] q2) q30.2.2.2.1 t_don v_ti q30.2.2.2.2 48 _ q34 e35) mX5_takeSign qLX5_65 [0, 1, 2] [] 0 rfl rfl rfl rfl rfl rfl rfl rfl rfl ⟨Nat.le_of_ble_eq_true rfl, Nat.le_of_ble_eq_true rfl⟩ rfl hl.1 rfl (Nat.le_of_ble_eq_true rfl) dX5_takeCommand_62 ⟨Nat.le_of_ble_eq_true rfl, Nat.le_of_ble_eq_true rfl⟩ (fun hx0 H locs ce q9 hP hD hS g1 g2 g3 => ?_) (fun hx0 H locs hP hD hS => ?_)
                · have h := ite_f (Nat.ne_of_gt hx0) h
                  have h := Option.some.inj h
                  exact hret.2.1 _ _ _ _ _ _ _ _ _ (Nat.le_of_ble_eq_true rfl) (Nat.le_of_ble_eq_true rfl) (by rw [← h]; exact hx0) (by rw [← h]; exact hP) hS g1 g2 (by rw [← h]; exact g3)
                · have h := ite_t hx0 h
                  refine lv_if_ne (tgt := 70) hx hb dX5_takeCommand_65 (by decide) (fun c36 => ?_) (fun c36 => ?_)
                  · have h := ite_f c36 h
                    refine lv_iinc (v := 3) (lv' := [(2, .int 3), (1, .ref as23), (0, .ref a_t)]) hx hb dX5_takeCommand_70 hl (k := 0) rfl rfl (by decide) rfl (fun ls hl => ?_)
                    refine lv_goto (tgt := 48) hx hb dX5_takeCommand_73 (by decide) ?_
                    refine lv_iload_n hx hb dX5_takeCommand_48 rfl (lv_at hl 0 rfl) ?_
                    refine lv_aload_n hx hb dX5_takeCommand_49 rfl (lv_at hl 1 rfl) ?_
                    refine prV (r := 3) C JP.blind (JP.recv hjs23 hS) (fun U hU hW => JP.use hjs23 hS hU hW) (kJ0_length_8abf5 l as23 vs23 [48, 64, 48] (by decide)) mJ0_length_8abf5 qLX5_58 ⟨rfl, rfl⟩ ⟨Nat.le_of_ble_eq_true rfl, Nat.le_of_ble_eq_true rfl⟩ rfl hl.1 rfl (Nat.le_of_ble_eq_true rfl) dX5_takeCommand_50 ⟨Nat.le_of_ble_eq_true rfl, Nat.le_of_ble_eq_true rfl⟩ ?_
                    refine lv_icmp_ge (tgt := 76) hx hb dX5_takeCommand_53 (by decide) (fun c37 => ?_) (fun c37 => absurd c37 (by decide))
                    refine lv_aload_n hx hb dX5_takeCommand_76 rfl (lv_at hl 2 rfl) ?_
                    refine getF (q0 := 0) (k0 := 4) (v := .int (sIx [119, 109, 107, 111, 98, 100] q2)) C hE hP inA5 rfl rfl (by decide) qFX5_26 rfl rfl dX5_takeCommand_77 ?_
                    refine lv_iconst (v := 1) hx hb dX5_takeCommand_80 (by decide) ?_
                    refine lv_icmp_ne (tgt := 88) hx hb dX5_takeCommand_81 (by decide) (fun c38 => ?_) (fun c38 => ?_)
                    · have h := ite_f c38 h
                      refine lv_iconst (v := 1) hx hb dX5_takeCommand_88 (by decide) ?_
                      have h := Option.some.inj h
                      exact hret.1 _ _ _ _ _ _ _ _ (Nat.le_of_ble_eq_true rfl) (Nat.le_of_ble_eq_true rfl) dX5_takeCommand_89 rfl (by rw [← h]) (by rw [← h] <;> rfl) (by rw [← h]; exact hP) hS
                    · have h := ite_t c38 h
                      refine lv_aload_n hx hb dX5_takeCommand_84 rfl (lv_at hl 2 rfl) ?_
                      obtain ⟨q39, e40, h⟩ := bnd h
                      refine wrVv (ws1 := [(a_t, .inr (5, [.ref a_ti, .ref a_tn, .int t_len, .int q39.1, .int (sIx [119, 109, 107, 111, 98, 100] q2), .int q34.2.2.2.1, .int t_don])), (a_ti, .inl (T 2, 60, .inl v_ti)), (a_tn, .inl (T 0, 3, .inl q39.2))]) C hE hP hD hS hA (kX5_takeSecondDigit l D T a_t a_ti a_tn t_len q34.2.2.1 (sIx [119, 109, 107, 111, 98, 100] q2) q34.2.2.2.1 t_don v_ti q34.2.2.2.2 _ q39 e40) mX5_takeSecondDigit qLX5_69 [0, 1, 2] [] 0 rfl rfl rfl rfl rfl rfl rfl rfl rfl ⟨rfl, rfl⟩ ⟨Nat.le_of_ble_eq_true rfl, Nat.le_of_ble_eq_true rfl⟩ rfl hl.1 rfl (Nat.le_of_ble_eq_true rfl) dX5_takeCommand_85 ⟨Nat.le_of_ble_eq_true rfl, Nat.le_of_ble_eq_true rfl⟩ (fun H locs hP hD hS => ?_)
                      refine lv_iconst (v := 1) hx hb dX5_takeCommand_88 (by decide) ?_
                      have h := Option.some.inj h
                      exact hret.1 _ _ _ _ _ _ _ _ (Nat.le_of_ble_eq_true rfl) (Nat.le_of_ble_eq_true rfl) dX5_takeCommand_89 rfl (by rw [← h]) (by rw [← h] <;> rfl) (by rw [← h]; exact hP) hS
                  · have h := ite_t c36 h
                    refine lv_iconst (v := 0) hx hb dX5_takeCommand_68 (by decide) ?_
                    have h := Option.some.inj h
                    exact hret.1 _ _ _ _ _ _ _ _ (Nat.le_of_ble_eq_true rfl) (Nat.le_of_ble_eq_true rfl) dX5_takeCommand_69 rfl (by rw [← h]) (by rw [← h] <;> rfl) (by rw [← h]; exact hP) hS
              · have h := ite_t c32 h
                refine lv_iconst (v := 0) hx hb dX5_takeCommand_68 (by decide) ?_
                have h := Option.some.inj h
                exact hret.1 _ _ _ _ _ _ _ _ (Nat.le_of_ble_eq_true rfl) (Nat.le_of_ble_eq_true rfl) dX5_takeCommand_69 rfl (by rw [← h]) (by rw [← h] <;> rfl) (by rw [← h]; exact hP) hS
          · have h := ite_t c28 h
            refine lv_iconst (v := 0) hx hb dX5_takeCommand_68 (by decide) ?_
            have h := Option.some.inj h
            exact hret.1 _ _ _ _ _ _ _ _ (Nat.le_of_ble_eq_true rfl) (Nat.le_of_ble_eq_true rfl) dX5_takeCommand_69 rfl (by rw [← h]) (by rw [← h] <;> rfl) (by rw [← h]; exact hP) hS
      · have h := ite_f c24 h
        by_cases c42 : (sIx [119, 109, 107, 111, 98, 100] q2) = 2
        · have h := ite_t c42 h
          obtain ⟨as41, vs41, hrs41, hjs41⟩ := eS_at (own := RX5) (k := 76) (tx := "0n0") (bs := [48, 110, 48]) hZ 3 rfl
          refine prSR C vkR_blind (fun U hU hW => hrs41.warm hW) (kX5_signsOf_2 l as41 (sIx [119, 109, 107, 111, 98, 100] q2) c42) mX5_signsOf qLX5_54 ⟨rfl, rfl⟩ ⟨Nat.le_of_ble_eq_true rfl, Nat.le_of_ble_eq_true rfl⟩ rfl hl.1 rfl (Nat.le_of_ble_eq_true rfl) dX5_takeCommand_42 ⟨Nat.le_of_ble_eq_true rfl, Nat.le_of_ble_eq_true rfl⟩ ?_
          refine lv_astore_n (lv' := [(1, .ref as41), (0, .ref a_t)]) hx hb dX5_takeCommand_45 rfl hl (by decide) rfl (fun ls hl => ?_)
          refine lv_iconst (v := 0) hx hb dX5_takeCommand_46 (by decide) ?_
          refine lv_istore_n (lv' := [(2, .int 0), (1, .ref as41), (0, .ref a_t)]) hx hb dX5_takeCommand_47 rfl hl (by decide) rfl (fun ls hl => ?_)
          refine lv_iload_n hx hb dX5_takeCommand_48 rfl (lv_at hl 0 rfl) ?_
          refine lv_aload_n hx hb dX5_takeCommand_49 rfl (lv_at hl 1 rfl) ?_
          refine prV (r := 3) C JP.blind (JP.recv hjs41 hS) (fun U hU hW => JP.use hjs41 hS hU hW) (kJ0_length_8abf5 l as41 vs41 [48, 110, 48] (by decide)) mJ0_length_8abf5 qLX5_58 ⟨rfl, rfl⟩ ⟨Nat.le_of_ble_eq_true rfl, Nat.le_of_ble_eq_true rfl⟩ rfl hl.1 rfl (Nat.le_of_ble_eq_true rfl) dX5_takeCommand_50 ⟨Nat.le_of_ble_eq_true rfl, Nat.le_of_ble_eq_true rfl⟩ ?_
          refine lv_icmp_ge (tgt := 76) hx hb dX5_takeCommand_53 (by decide) (fun c43 => absurd c43 (by decide)) (fun c43 => ?_)
          refine lv_aload_n hx hb dX5_takeCommand_56 rfl (lv_at hl 2 rfl) ?_
          refine lv_aload_n hx hb dX5_takeCommand_57 rfl (lv_at hl 1 rfl) ?_
          refine lv_iload_n hx hb dX5_takeCommand_58 rfl (lv_at hl 0 rfl) ?_
          refine prV (r := 48) C JP.blind (JP.recv hjs41 hS) (fun U hU hW => JP.use hjs41 hS hU hW) (kJ0_charAt_5068e l as41 vs41 [48, 110, 48] 0 48 (by decide)) mJ0_charAt_5068e qLX5_61 ⟨rfl, rfl⟩ ⟨Nat.le_of_ble_eq_true rfl, Nat.le_of_ble_eq_true rfl⟩ rfl hl.1 rfl (Nat.le_of_ble_eq_true rfl) dX5_takeCommand_59 ⟨Nat.le_of_ble_eq_true rfl, Nat.le_of_ble_eq_true rfl⟩ ?_
          obtain ⟨q44, e45, h⟩ := bnd h
          refine thVi (ws1 := [(a_t, .inr (5, [.ref a_ti, .ref a_tn, .int t_len, .int q44.2.2.1, .int (sIx [119, 109, 107, 111, 98, 100] q2), .int q44.2.2.2.1, .int t_don])), (a_ti, .inl (T 2, 60, .inl v_ti)), (a_tn, .inl (T 0, 3, .inl q44.2.2.2.2))]) C hE hZ hP hD hS hA (kX5_takeSign l hZ.1 D T a_t a_ti a_tn t_len (t_cur + 1) (sIx [119, 109, 107, 111, 98, 100] q2) 0 t_don v_ti v_tn 48 _ q44 e45) mX5_takeSign qLX5_65 [0, 1, 2] [] 0 rfl rfl rfl rfl rfl rfl rfl rfl rfl ⟨Nat.le_of_ble_eq_true rfl, Nat.le_of_ble_eq_true rfl⟩ rfl hl.1 rfl (Nat.le_of_ble_eq_true rfl) dX5_takeCommand_62 ⟨Nat.le_of_ble_eq_true rfl, Nat.le_of_ble_eq_true rfl⟩ (fun hx0 H locs ce q9 hP hD hS g1 g2 g3 => ?_) (fun hx0 H locs hP hD hS => ?_)
          · have h := ite_f (Nat.ne_of_gt hx0) h
            have h := Option.some.inj h
            exact hret.2.1 _ _ _ _ _ _ _ _ _ (Nat.le_of_ble_eq_true rfl) (Nat.le_of_ble_eq_true rfl) (by rw [← h]; exact hx0) (by rw [← h]; exact hP) hS g1 g2 (by rw [← h]; exact g3)
          · have h := ite_t hx0 h
            refine lv_if_ne (tgt := 70) hx hb dX5_takeCommand_65 (by decide) (fun c46 => ?_) (fun c46 => ?_)
            · have h := ite_f c46 h
              refine lv_iinc (v := 1) (lv' := [(2, .int 1), (1, .ref as41), (0, .ref a_t)]) hx hb dX5_takeCommand_70 hl (k := 0) rfl rfl (by decide) rfl (fun ls hl => ?_)
              refine lv_goto (tgt := 48) hx hb dX5_takeCommand_73 (by decide) ?_
              refine lv_iload_n hx hb dX5_takeCommand_48 rfl (lv_at hl 0 rfl) ?_
              refine lv_aload_n hx hb dX5_takeCommand_49 rfl (lv_at hl 1 rfl) ?_
              refine prV (r := 3) C JP.blind (JP.recv hjs41 hS) (fun U hU hW => JP.use hjs41 hS hU hW) (kJ0_length_8abf5 l as41 vs41 [48, 110, 48] (by decide)) mJ0_length_8abf5 qLX5_58 ⟨rfl, rfl⟩ ⟨Nat.le_of_ble_eq_true rfl, Nat.le_of_ble_eq_true rfl⟩ rfl hl.1 rfl (Nat.le_of_ble_eq_true rfl) dX5_takeCommand_50 ⟨Nat.le_of_ble_eq_true rfl, Nat.le_of_ble_eq_true rfl⟩ ?_
              refine lv_icmp_ge (tgt := 76) hx hb dX5_takeCommand_53 (by decide) (fun c47 => absurd c47 (by decide)) (fun c47 => ?_)
              refine lv_aload_n hx hb dX5_takeCommand_56 rfl (lv_at hl 2 rfl) ?_
              refine lv_aload_n hx hb dX5_takeCommand_57 rfl (lv_at hl 1 rfl) ?_
              refine lv_iload_n hx hb dX5_takeCommand_58 rfl (lv_at hl 0 rfl) ?_
              refine prV (r := 110) C JP.blind (JP.recv hjs41 hS) (fun U hU hW => JP.use hjs41 hS hU hW) (kJ0_charAt_5068e l as41 vs41 [48, 110, 48] 1 110 (by decide)) mJ0_charAt_5068e qLX5_61 ⟨rfl, rfl⟩ ⟨Nat.le_of_ble_eq_true rfl, Nat.le_of_ble_eq_true rfl⟩ rfl hl.1 rfl (Nat.le_of_ble_eq_true rfl) dX5_takeCommand_59 ⟨Nat.le_of_ble_eq_true rfl, Nat.le_of_ble_eq_true rfl⟩ ?_
              obtain ⟨q48, e49, h⟩ := bnd h
              refine thVi (ws1 := [(a_t, .inr (5, [.ref a_ti, .ref a_tn, .int t_len, .int q48.2.2.1, .int (sIx [119, 109, 107, 111, 98, 100] q2), .int q48.2.2.2.1, .int t_don])), (a_ti, .inl (T 2, 60, .inl v_ti)), (a_tn, .inl (T 0, 3, .inl q48.2.2.2.2))]) C hE hZ hP hD hS hA (kX5_takeSign l hZ.1 D T a_t a_ti a_tn t_len q44.2.2.1 (sIx [119, 109, 107, 111, 98, 100] q2) q44.2.2.2.1 t_don v_ti q44.2.2.2.2 110 _ q48 e49) mX5_takeSign qLX5_65 [0, 1, 2] [] 0 rfl rfl rfl rfl rfl rfl rfl rfl rfl ⟨Nat.le_of_ble_eq_true rfl, Nat.le_of_ble_eq_true rfl⟩ rfl hl.1 rfl (Nat.le_of_ble_eq_true rfl) dX5_takeCommand_62 ⟨Nat.le_of_ble_eq_true rfl, Nat.le_of_ble_eq_true rfl⟩ (fun hx0 H locs ce q9 hP hD hS g1 g2 g3 => ?_) (fun hx0 H locs hP hD hS => ?_)
              · have h := ite_f (Nat.ne_of_gt hx0) h
                have h := Option.some.inj h
                exact hret.2.1 _ _ _ _ _ _ _ _ _ (Nat.le_of_ble_eq_true rfl) (Nat.le_of_ble_eq_true rfl) (by rw [← h]; exact hx0) (by rw [← h]; exact hP) hS g1 g2 (by rw [← h]; exact g3)
              · have h := ite_t hx0 h
                refine lv_if_ne (tgt := 70) hx hb dX5_takeCommand_65 (by decide) (fun c50 => ?_) (fun c50 => ?_)
                · have h := ite_f c50 h
                  refine lv_iinc (v := 2) (lv' := [(2, .int 2), (1, .ref as41), (0, .ref a_t)]) hx hb dX5_takeCommand_70 hl (k := 0) rfl rfl (by decide) rfl (fun ls hl => ?_)
                  refine lv_goto (tgt := 48) hx hb dX5_takeCommand_73 (by decide) ?_
                  refine lv_iload_n hx hb dX5_takeCommand_48 rfl (lv_at hl 0 rfl) ?_
                  refine lv_aload_n hx hb dX5_takeCommand_49 rfl (lv_at hl 1 rfl) ?_
                  refine prV (r := 3) C JP.blind (JP.recv hjs41 hS) (fun U hU hW => JP.use hjs41 hS hU hW) (kJ0_length_8abf5 l as41 vs41 [48, 110, 48] (by decide)) mJ0_length_8abf5 qLX5_58 ⟨rfl, rfl⟩ ⟨Nat.le_of_ble_eq_true rfl, Nat.le_of_ble_eq_true rfl⟩ rfl hl.1 rfl (Nat.le_of_ble_eq_true rfl) dX5_takeCommand_50 ⟨Nat.le_of_ble_eq_true rfl, Nat.le_of_ble_eq_true rfl⟩ ?_
                  refine lv_icmp_ge (tgt := 76) hx hb dX5_takeCommand_53 (by decide) (fun c51 => absurd c51 (by decide)) (fun c51 => ?_)
                  refine lv_aload_n hx hb dX5_takeCommand_56 rfl (lv_at hl 2 rfl) ?_
                  refine lv_aload_n hx hb dX5_takeCommand_57 rfl (lv_at hl 1 rfl) ?_
                  refine lv_iload_n hx hb dX5_takeCommand_58 rfl (lv_at hl 0 rfl) ?_
                  refine prV (r := 48) C JP.blind (JP.recv hjs41 hS) (fun U hU hW => JP.use hjs41 hS hU hW) (kJ0_charAt_5068e l as41 vs41 [48, 110, 48] 2 48 (by decide)) mJ0_charAt_5068e qLX5_61 ⟨rfl, rfl⟩ ⟨Nat.le_of_ble_eq_true rfl, Nat.le_of_ble_eq_true rfl⟩ rfl hl.1 rfl (Nat.le_of_ble_eq_true rfl) dX5_takeCommand_59 ⟨Nat.le_of_ble_eq_true rfl, Nat.le_of_ble_eq_true rfl⟩ ?_
                  obtain ⟨q52, e53, h⟩ := bnd h
                  refine thVi (ws1 := [(a_t, .inr (5, [.ref a_ti, .ref a_tn, .int t_len, .int q52.2.2.1, .int (sIx [119, 109, 107, 111, 98, 100] q2), .int q52.2.2.2.1, .int t_don])), (a_ti, .inl (T 2, 60, .inl v_ti)), (a_tn, .inl (T 0, 3, .inl q52.2.2.2.2))]) C hE hZ hP hD hS hA (kX5_takeSign l hZ.1 D T a_t a_ti a_tn t_len q48.2.2.1 (sIx [119, 109, 107, 111, 98, 100] q2) q48.2.2.2.1 t_don v_ti q48.2.2.2.2 48 _ q52 e53) mX5_takeSign qLX5_65 [0, 1, 2] [] 0 rfl rfl rfl rfl rfl rfl rfl rfl rfl ⟨Nat.le_of_ble_eq_true rfl, Nat.le_of_ble_eq_true rfl⟩ rfl hl.1 rfl (Nat.le_of_ble_eq_true rfl) dX5_takeCommand_62 ⟨Nat.le_of_ble_eq_true rfl, Nat.le_of_ble_eq_true rfl⟩ (fun hx0 H locs ce q9 hP hD hS g1 g2 g3 => ?_) (fun hx0 H locs hP hD hS => ?_)
                  · have h := ite_f (Nat.ne_of_gt hx0) h
                    have h := Option.some.inj h
                    exact hret.2.1 _ _ _ _ _ _ _ _ _ (Nat.le_of_ble_eq_true rfl) (Nat.le_of_ble_eq_true rfl) (by rw [← h]; exact hx0) (by rw [← h]; exact hP) hS g1 g2 (by rw [← h]; exact g3)
                  · have h := ite_t hx0 h
                    refine lv_if_ne (tgt := 70) hx hb dX5_takeCommand_65 (by decide) (fun c54 => ?_) (fun c54 => ?_)
                    · have h := ite_f c54 h
                      refine lv_iinc (v := 3) (lv' := [(2, .int 3), (1, .ref as41), (0, .ref a_t)]) hx hb dX5_takeCommand_70 hl (k := 0) rfl rfl (by decide) rfl (fun ls hl => ?_)
                      refine lv_goto (tgt := 48) hx hb dX5_takeCommand_73 (by decide) ?_
                      refine lv_iload_n hx hb dX5_takeCommand_48 rfl (lv_at hl 0 rfl) ?_
                      refine lv_aload_n hx hb dX5_takeCommand_49 rfl (lv_at hl 1 rfl) ?_
                      refine prV (r := 3) C JP.blind (JP.recv hjs41 hS) (fun U hU hW => JP.use hjs41 hS hU hW) (kJ0_length_8abf5 l as41 vs41 [48, 110, 48] (by decide)) mJ0_length_8abf5 qLX5_58 ⟨rfl, rfl⟩ ⟨Nat.le_of_ble_eq_true rfl, Nat.le_of_ble_eq_true rfl⟩ rfl hl.1 rfl (Nat.le_of_ble_eq_true rfl) dX5_takeCommand_50 ⟨Nat.le_of_ble_eq_true rfl, Nat.le_of_ble_eq_true rfl⟩ ?_
                      refine lv_icmp_ge (tgt := 76) hx hb dX5_takeCommand_53 (by decide) (fun c55 => ?_) (fun c55 => absurd c55 (by decide))
                      refine lv_aload_n hx hb dX5_takeCommand_76 rfl (lv_at hl 2 rfl) ?_
                      refine getF (q0 := 0) (k0 := 4) (v := .int (sIx [119, 109, 107, 111, 98, 100] q2)) C hE hP inA5 rfl rfl (by decide) qFX5_26 rfl rfl dX5_takeCommand_77 ?_
                      refine lv_iconst (v := 1) hx hb dX5_takeCommand_80 (by decide) ?_
                      refine lv_icmp_ne (tgt := 88) hx hb dX5_takeCommand_81 (by decide) (fun c56 => ?_) (fun c56 => ?_)
                      · have h := ite_f c56 h
                        refine lv_iconst (v := 1) hx hb dX5_takeCommand_88 (by decide) ?_
                        have h := Option.some.inj h
                        exact hret.1 _ _ _ _ _ _ _ _ (Nat.le_of_ble_eq_true rfl) (Nat.le_of_ble_eq_true rfl) dX5_takeCommand_89 rfl (by rw [← h]) (by rw [← h] <;> rfl) (by rw [← h]; exact hP) hS
                      · have h := ite_t c56 h
                        refine lv_aload_n hx hb dX5_takeCommand_84 rfl (lv_at hl 2 rfl) ?_
                        obtain ⟨q57, e58, h⟩ := bnd h
                        refine wrVv (ws1 := [(a_t, .inr (5, [.ref a_ti, .ref a_tn, .int t_len, .int q57.1, .int (sIx [119, 109, 107, 111, 98, 100] q2), .int q52.2.2.2.1, .int t_don])), (a_ti, .inl (T 2, 60, .inl v_ti)), (a_tn, .inl (T 0, 3, .inl q57.2))]) C hE hP hD hS hA (kX5_takeSecondDigit l D T a_t a_ti a_tn t_len q52.2.2.1 (sIx [119, 109, 107, 111, 98, 100] q2) q52.2.2.2.1 t_don v_ti q52.2.2.2.2 _ q57 e58) mX5_takeSecondDigit qLX5_69 [0, 1, 2] [] 0 rfl rfl rfl rfl rfl rfl rfl rfl rfl ⟨rfl, rfl⟩ ⟨Nat.le_of_ble_eq_true rfl, Nat.le_of_ble_eq_true rfl⟩ rfl hl.1 rfl (Nat.le_of_ble_eq_true rfl) dX5_takeCommand_85 ⟨Nat.le_of_ble_eq_true rfl, Nat.le_of_ble_eq_true rfl⟩ (fun H locs hP hD hS => ?_)
                        refine lv_iconst (v := 1) hx hb dX5_takeCommand_88 (by decide) ?_
                        have h := Option.some.inj h
                        exact hret.1 _ _ _ _ _ _ _ _ (Nat.le_of_ble_eq_true rfl) (Nat.le_of_ble_eq_true rfl) dX5_takeCommand_89 rfl (by rw [← h]) (by rw [← h] <;> rfl) (by rw [← h]; exact hP) hS
                    · have h := ite_t c54 h
                      refine lv_iconst (v := 0) hx hb dX5_takeCommand_68 (by decide) ?_
                      have h := Option.some.inj h
                      exact hret.1 _ _ _ _ _ _ _ _ (Nat.le_of_ble_eq_true rfl) (Nat.le_of_ble_eq_true rfl) dX5_takeCommand_69 rfl (by rw [← h]) (by rw [← h] <;> rfl) (by rw [← h]; exact hP) hS
                · have h := ite_t c50 h
                  refine lv_iconst (v := 0) hx hb dX5_takeCommand_68 (by decide) ?_
                  have h := Option.some.inj h
                  exact hret.1 _ _ _ _ _ _ _ _ (Nat.le_of_ble_eq_true rfl) (Nat.le_of_ble_eq_true rfl) dX5_takeCommand_69 rfl (by rw [← h]) (by rw [← h] <;> rfl) (by rw [← h]; exact hP) hS
            · have h := ite_t c46 h
              refine lv_iconst (v := 0) hx hb dX5_takeCommand_68 (by decide) ?_
              have h := Option.some.inj h
              exact hret.1 _ _ _ _ _ _ _ _ (Nat.le_of_ble_eq_true rfl) (Nat.le_of_ble_eq_true rfl) dX5_takeCommand_69 rfl (by rw [← h]) (by rw [← h] <;> rfl) (by rw [← h]; exact hP) hS
        · have h := ite_f c42 h
          by_cases c60 : (sIx [119, 109, 107, 111, 98, 100] q2) = 3
          · have h := ite_t c60 h
            obtain ⟨as59, vs59, hrs59, hjs59⟩ := eS_at (own := RX5) (k := 78) (tx := "0") (bs := [48]) hZ 4 rfl
            refine prSR C vkR_blind (fun U hU hW => hrs59.warm hW) (kX5_signsOf_3 l as59 (sIx [119, 109, 107, 111, 98, 100] q2) c60) mX5_signsOf qLX5_54 ⟨rfl, rfl⟩ ⟨Nat.le_of_ble_eq_true rfl, Nat.le_of_ble_eq_true rfl⟩ rfl hl.1 rfl (Nat.le_of_ble_eq_true rfl) dX5_takeCommand_42 ⟨Nat.le_of_ble_eq_true rfl, Nat.le_of_ble_eq_true rfl⟩ ?_
            refine lv_astore_n (lv' := [(1, .ref as59), (0, .ref a_t)]) hx hb dX5_takeCommand_45 rfl hl (by decide) rfl (fun ls hl => ?_)
            refine lv_iconst (v := 0) hx hb dX5_takeCommand_46 (by decide) ?_
            refine lv_istore_n (lv' := [(2, .int 0), (1, .ref as59), (0, .ref a_t)]) hx hb dX5_takeCommand_47 rfl hl (by decide) rfl (fun ls hl => ?_)
            refine lv_iload_n hx hb dX5_takeCommand_48 rfl (lv_at hl 0 rfl) ?_
            refine lv_aload_n hx hb dX5_takeCommand_49 rfl (lv_at hl 1 rfl) ?_
            refine prV (r := 1) C JP.blind (JP.recv hjs59 hS) (fun U hU hW => JP.use hjs59 hS hU hW) (kJ0_length_8abf5 l as59 vs59 [48] (by decide)) mJ0_length_8abf5 qLX5_58 ⟨rfl, rfl⟩ ⟨Nat.le_of_ble_eq_true rfl, Nat.le_of_ble_eq_true rfl⟩ rfl hl.1 rfl (Nat.le_of_ble_eq_true rfl) dX5_takeCommand_50 ⟨Nat.le_of_ble_eq_true rfl, Nat.le_of_ble_eq_true rfl⟩ ?_
            refine lv_icmp_ge (tgt := 76) hx hb dX5_takeCommand_53 (by decide) (fun c61 => absurd c61 (by decide)) (fun c61 => ?_)
            refine lv_aload_n hx hb dX5_takeCommand_56 rfl (lv_at hl 2 rfl) ?_
            refine lv_aload_n hx hb dX5_takeCommand_57 rfl (lv_at hl 1 rfl) ?_
            refine lv_iload_n hx hb dX5_takeCommand_58 rfl (lv_at hl 0 rfl) ?_
            refine prV (r := 48) C JP.blind (JP.recv hjs59 hS) (fun U hU hW => JP.use hjs59 hS hU hW) (kJ0_charAt_5068e l as59 vs59 [48] 0 48 (by decide)) mJ0_charAt_5068e qLX5_61 ⟨rfl, rfl⟩ ⟨Nat.le_of_ble_eq_true rfl, Nat.le_of_ble_eq_true rfl⟩ rfl hl.1 rfl (Nat.le_of_ble_eq_true rfl) dX5_takeCommand_59 ⟨Nat.le_of_ble_eq_true rfl, Nat.le_of_ble_eq_true rfl⟩ ?_
            obtain ⟨q62, e63, h⟩ := bnd h
            refine thVi (ws1 := [(a_t, .inr (5, [.ref a_ti, .ref a_tn, .int t_len, .int q62.2.2.1, .int (sIx [119, 109, 107, 111, 98, 100] q2), .int q62.2.2.2.1, .int t_don])), (a_ti, .inl (T 2, 60, .inl v_ti)), (a_tn, .inl (T 0, 3, .inl q62.2.2.2.2))]) C hE hZ hP hD hS hA (kX5_takeSign l hZ.1 D T a_t a_ti a_tn t_len (t_cur + 1) (sIx [119, 109, 107, 111, 98, 100] q2) 0 t_don v_ti v_tn 48 _ q62 e63) mX5_takeSign qLX5_65 [0, 1, 2] [] 0 rfl rfl rfl rfl rfl rfl rfl rfl rfl ⟨Nat.le_of_ble_eq_true rfl, Nat.le_of_ble_eq_true rfl⟩ rfl hl.1 rfl (Nat.le_of_ble_eq_true rfl) dX5_takeCommand_62 ⟨Nat.le_of_ble_eq_true rfl, Nat.le_of_ble_eq_true rfl⟩ (fun hx0 H locs ce q9 hP hD hS g1 g2 g3 => ?_) (fun hx0 H locs hP hD hS => ?_)
            · have h := ite_f (Nat.ne_of_gt hx0) h
              have h := Option.some.inj h
              exact hret.2.1 _ _ _ _ _ _ _ _ _ (Nat.le_of_ble_eq_true rfl) (Nat.le_of_ble_eq_true rfl) (by rw [← h]; exact hx0) (by rw [← h]; exact hP) hS g1 g2 (by rw [← h]; exact g3)
            · have h := ite_t hx0 h
              refine lv_if_ne (tgt := 70) hx hb dX5_takeCommand_65 (by decide) (fun c64 => ?_) (fun c64 => ?_)
              · have h := ite_f c64 h
                refine lv_iinc (v := 1) (lv' := [(2, .int 1), (1, .ref as59), (0, .ref a_t)]) hx hb dX5_takeCommand_70 hl (k := 0) rfl rfl (by decide) rfl (fun ls hl => ?_)
                refine lv_goto (tgt := 48) hx hb dX5_takeCommand_73 (by decide) ?_
                refine lv_iload_n hx hb dX5_takeCommand_48 rfl (lv_at hl 0 rfl) ?_
                refine lv_aload_n hx hb dX5_takeCommand_49 rfl (lv_at hl 1 rfl) ?_
                refine prV (r := 1) C JP.blind (JP.recv hjs59 hS) (fun U hU hW => JP.use hjs59 hS hU hW) (kJ0_length_8abf5 l as59 vs59 [48] (by decide)) mJ0_length_8abf5 qLX5_58 ⟨rfl, rfl⟩ ⟨Nat.le_of_ble_eq_true rfl, Nat.le_of_ble_eq_true rfl⟩ rfl hl.1 rfl (Nat.le_of_ble_eq_true rfl) dX5_takeCommand_50 ⟨Nat.le_of_ble_eq_true rfl, Nat.le_of_ble_eq_true rfl⟩ ?_
                refine lv_icmp_ge (tgt := 76) hx hb dX5_takeCommand_53 (by decide) (fun c65 => ?_) (fun c65 => absurd c65 (by decide))
                refine lv_aload_n hx hb dX5_takeCommand_76 rfl (lv_at hl 2 rfl) ?_
                refine getF (q0 := 0) (k0 := 4) (v := .int (sIx [119, 109, 107, 111, 98, 100] q2)) C hE hP inA5 rfl rfl (by decide) qFX5_26 rfl rfl dX5_takeCommand_77 ?_
                refine lv_iconst (v := 1) hx hb dX5_takeCommand_80 (by decide) ?_
                refine lv_icmp_ne (tgt := 88) hx hb dX5_takeCommand_81 (by decide) (fun c66 => ?_) (fun c66 => ?_)
                · have h := ite_f c66 h
                  refine lv_iconst (v := 1) hx hb dX5_takeCommand_88 (by decide) ?_
                  have h := Option.some.inj h
                  exact hret.1 _ _ _ _ _ _ _ _ (Nat.le_of_ble_eq_true rfl) (Nat.le_of_ble_eq_true rfl) dX5_takeCommand_89 rfl (by rw [← h]) (by rw [← h] <;> rfl) (by rw [← h]; exact hP) hS
                · have h := ite_t c66 h
                  refine lv_aload_n hx hb dX5_takeCommand_84 rfl (lv_at hl 2 rfl) ?_
                  obtain ⟨q67, e68, h⟩ := bnd h
                  refine wrVv (ws1 := [(a_t, .inr (5, [.ref a_ti, .ref a_tn, .int t_len, .int q67.1, .int (sIx [119, 109, 107, 111, 98, 100] q2), .int q62.2.2.2.1, .int t_don])), (a_ti, .inl (T 2, 60, .inl v_ti)), (a_tn, .inl (T 0, 3, .inl q67.2))]) C hE hP hD hS hA (kX5_takeSecondDigit l D T a_t a_ti a_tn t_len q62.2.2.1 (sIx [119, 109, 107, 111, 98, 100] q2) q62.2.2.2.1 t_don v_ti q62.2.2.2.2 _ q67 e68) mX5_takeSecondDigit qLX5_69 [0, 1, 2] [] 0 rfl rfl rfl rfl rfl rfl rfl rfl rfl ⟨rfl, rfl⟩ ⟨Nat.le_of_ble_eq_true rfl, Nat.le_of_ble_eq_true rfl⟩ rfl hl.1 rfl (Nat.le_of_ble_eq_true rfl) dX5_takeCommand_85 ⟨Nat.le_of_ble_eq_true rfl, Nat.le_of_ble_eq_true rfl⟩ (fun H locs hP hD hS => ?_)
                  refine lv_iconst (v := 1) hx hb dX5_takeCommand_88 (by decide) ?_
                  have h := Option.some.inj h
                  exact hret.1 _ _ _ _ _ _ _ _ (Nat.le_of_ble_eq_true rfl) (Nat.le_of_ble_eq_true rfl) dX5_takeCommand_89 rfl (by rw [← h]) (by rw [← h] <;> rfl) (by rw [← h]; exact hP) hS
              · have h := ite_t c64 h
                refine lv_iconst (v := 0) hx hb dX5_takeCommand_68 (by decide) ?_
                have h := Option.some.inj h
                exact hret.1 _ _ _ _ _ _ _ _ (Nat.le_of_ble_eq_true rfl) (Nat.le_of_ble_eq_true rfl) dX5_takeCommand_69 rfl (by rw [← h]) (by rw [← h] <;> rfl) (by rw [← h]; exact hP) hS
          · have h := ite_f c60 h
            by_cases c70 : (sIx [119, 109, 107, 111, 98, 100] q2) = 4
            · have h := ite_t c70 h
              obtain ⟨as69, vs69, hrs69, hjs69⟩ := eS_at (own := RX5) (k := 80) (tx := "00") (bs := [48, 48]) hZ 5 rfl
              refine prSR C vkR_blind (fun U hU hW => hrs69.warm hW) (kX5_signsOf_4 l as69 (sIx [119, 109, 107, 111, 98, 100] q2) c70) mX5_signsOf qLX5_54 ⟨rfl, rfl⟩ ⟨Nat.le_of_ble_eq_true rfl, Nat.le_of_ble_eq_true rfl⟩ rfl hl.1 rfl (Nat.le_of_ble_eq_true rfl) dX5_takeCommand_42 ⟨Nat.le_of_ble_eq_true rfl, Nat.le_of_ble_eq_true rfl⟩ ?_
              refine lv_astore_n (lv' := [(1, .ref as69), (0, .ref a_t)]) hx hb dX5_takeCommand_45 rfl hl (by decide) rfl (fun ls hl => ?_)
              refine lv_iconst (v := 0) hx hb dX5_takeCommand_46 (by decide) ?_
              refine lv_istore_n (lv' := [(2, .int 0), (1, .ref as69), (0, .ref a_t)]) hx hb dX5_takeCommand_47 rfl hl (by decide) rfl (fun ls hl => ?_)
              refine lv_iload_n hx hb dX5_takeCommand_48 rfl (lv_at hl 0 rfl) ?_
              refine lv_aload_n hx hb dX5_takeCommand_49 rfl (lv_at hl 1 rfl) ?_
              refine prV (r := 2) C JP.blind (JP.recv hjs69 hS) (fun U hU hW => JP.use hjs69 hS hU hW) (kJ0_length_8abf5 l as69 vs69 [48, 48] (by decide)) mJ0_length_8abf5 qLX5_58 ⟨rfl, rfl⟩ ⟨Nat.le_of_ble_eq_true rfl, Nat.le_of_ble_eq_true rfl⟩ rfl hl.1 rfl (Nat.le_of_ble_eq_true rfl) dX5_takeCommand_50 ⟨Nat.le_of_ble_eq_true rfl, Nat.le_of_ble_eq_true rfl⟩ ?_
              refine lv_icmp_ge (tgt := 76) hx hb dX5_takeCommand_53 (by decide) (fun c71 => absurd c71 (by decide)) (fun c71 => ?_)
              refine lv_aload_n hx hb dX5_takeCommand_56 rfl (lv_at hl 2 rfl) ?_
              refine lv_aload_n hx hb dX5_takeCommand_57 rfl (lv_at hl 1 rfl) ?_
              refine lv_iload_n hx hb dX5_takeCommand_58 rfl (lv_at hl 0 rfl) ?_
              refine prV (r := 48) C JP.blind (JP.recv hjs69 hS) (fun U hU hW => JP.use hjs69 hS hU hW) (kJ0_charAt_5068e l as69 vs69 [48, 48] 0 48 (by decide)) mJ0_charAt_5068e qLX5_61 ⟨rfl, rfl⟩ ⟨Nat.le_of_ble_eq_true rfl, Nat.le_of_ble_eq_true rfl⟩ rfl hl.1 rfl (Nat.le_of_ble_eq_true rfl) dX5_takeCommand_59 ⟨Nat.le_of_ble_eq_true rfl, Nat.le_of_ble_eq_true rfl⟩ ?_
              obtain ⟨q72, e73, h⟩ := bnd h
              refine thVi (ws1 := [(a_t, .inr (5, [.ref a_ti, .ref a_tn, .int t_len, .int q72.2.2.1, .int (sIx [119, 109, 107, 111, 98, 100] q2), .int q72.2.2.2.1, .int t_don])), (a_ti, .inl (T 2, 60, .inl v_ti)), (a_tn, .inl (T 0, 3, .inl q72.2.2.2.2))]) C hE hZ hP hD hS hA (kX5_takeSign l hZ.1 D T a_t a_ti a_tn t_len (t_cur + 1) (sIx [119, 109, 107, 111, 98, 100] q2) 0 t_don v_ti v_tn 48 _ q72 e73) mX5_takeSign qLX5_65 [0, 1, 2] [] 0 rfl rfl rfl rfl rfl rfl rfl rfl rfl ⟨Nat.le_of_ble_eq_true rfl, Nat.le_of_ble_eq_true rfl⟩ rfl hl.1 rfl (Nat.le_of_ble_eq_true rfl) dX5_takeCommand_62 ⟨Nat.le_of_ble_eq_true rfl, Nat.le_of_ble_eq_true rfl⟩ (fun hx0 H locs ce q9 hP hD hS g1 g2 g3 => ?_) (fun hx0 H locs hP hD hS => ?_)
              · have h := ite_f (Nat.ne_of_gt hx0) h
                have h := Option.some.inj h
                exact hret.2.1 _ _ _ _ _ _ _ _ _ (Nat.le_of_ble_eq_true rfl) (Nat.le_of_ble_eq_true rfl) (by rw [← h]; exact hx0) (by rw [← h]; exact hP) hS g1 g2 (by rw [← h]; exact g3)
              · have h := ite_t hx0 h
                refine lv_if_ne (tgt := 70) hx hb dX5_takeCommand_65 (by decide) (fun c74 => ?_) (fun c74 => ?_)
                · have h := ite_f c74 h
                  refine lv_iinc (v := 1) (lv' := [(2, .int 1), (1, .ref as69), (0, .ref a_t)]) hx hb dX5_takeCommand_70 hl (k := 0) rfl rfl (by decide) rfl (fun ls hl => ?_)
                  refine lv_goto (tgt := 48) hx hb dX5_takeCommand_73 (by decide) ?_
                  refine lv_iload_n hx hb dX5_takeCommand_48 rfl (lv_at hl 0 rfl) ?_
                  refine lv_aload_n hx hb dX5_takeCommand_49 rfl (lv_at hl 1 rfl) ?_
                  refine prV (r := 2) C JP.blind (JP.recv hjs69 hS) (fun U hU hW => JP.use hjs69 hS hU hW) (kJ0_length_8abf5 l as69 vs69 [48, 48] (by decide)) mJ0_length_8abf5 qLX5_58 ⟨rfl, rfl⟩ ⟨Nat.le_of_ble_eq_true rfl, Nat.le_of_ble_eq_true rfl⟩ rfl hl.1 rfl (Nat.le_of_ble_eq_true rfl) dX5_takeCommand_50 ⟨Nat.le_of_ble_eq_true rfl, Nat.le_of_ble_eq_true rfl⟩ ?_
                  refine lv_icmp_ge (tgt := 76) hx hb dX5_takeCommand_53 (by decide) (fun c75 => absurd c75 (by decide)) (fun c75 => ?_)
                  refine lv_aload_n hx hb dX5_takeCommand_56 rfl (lv_at hl 2 rfl) ?_
                  refine lv_aload_n hx hb dX5_takeCommand_57 rfl (lv_at hl 1 rfl) ?_
                  refine lv_iload_n hx hb dX5_takeCommand_58 rfl (lv_at hl 0 rfl) ?_
                  refine prV (r := 48) C JP.blind (JP.recv hjs69 hS) (fun U hU hW => JP.use hjs69 hS hU hW) (kJ0_charAt_5068e l as69 vs69 [48, 48] 1 48 (by decide)) mJ0_charAt_5068e qLX5_61 ⟨rfl, rfl⟩ ⟨Nat.le_of_ble_eq_true rfl, Nat.le_of_ble_eq_true rfl⟩ rfl hl.1 rfl (Nat.le_of_ble_eq_true rfl) dX5_takeCommand_59 ⟨Nat.le_of_ble_eq_true rfl, Nat.le_of_ble_eq_true rfl⟩ ?_
                  obtain ⟨q76, e77, h⟩ := bnd h
                  refine thVi (ws1 := [(a_t, .inr (5, [.ref a_ti, .ref a_tn, .int t_len, .int q76.2.2.1, .int (sIx [119, 109, 107, 111, 98, 100] q2), .int q76.2.2.2.1, .int t_don])), (a_ti, .inl (T 2, 60, .inl v_ti)), (a_tn, .inl (T 0, 3, .inl q76.2.2.2.2))]) C hE hZ hP hD hS hA (kX5_takeSign l hZ.1 D T a_t a_ti a_tn t_len q72.2.2.1 (sIx [119, 109, 107, 111, 98, 100] q2) q72.2.2.2.1 t_don v_ti q72.2.2.2.2 48 _ q76 e77) mX5_takeSign qLX5_65 [0, 1, 2] [] 0 rfl rfl rfl rfl rfl rfl rfl rfl rfl ⟨Nat.le_of_ble_eq_true rfl, Nat.le_of_ble_eq_true rfl⟩ rfl hl.1 rfl (Nat.le_of_ble_eq_true rfl) dX5_takeCommand_62 ⟨Nat.le_of_ble_eq_true rfl, Nat.le_of_ble_eq_true rfl⟩ (fun hx0 H locs ce q9 hP hD hS g1 g2 g3 => ?_) (fun hx0 H locs hP hD hS => ?_)
                  · have h := ite_f (Nat.ne_of_gt hx0) h
                    have h := Option.some.inj h
                    exact hret.2.1 _ _ _ _ _ _ _ _ _ (Nat.le_of_ble_eq_true rfl) (Nat.le_of_ble_eq_true rfl) (by rw [← h]; exact hx0) (by rw [← h]; exact hP) hS g1 g2 (by rw [← h]; exact g3)
                  · have h := ite_t hx0 h
                    refine lv_if_ne (tgt := 70) hx hb dX5_takeCommand_65 (by decide) (fun c78 => ?_) (fun c78 => ?_)
                    · have h := ite_f c78 h
                      refine lv_iinc (v := 2) (lv' := [(2, .int 2), (1, .ref as69), (0, .ref a_t)]) hx hb dX5_takeCommand_70 hl (k := 0) rfl rfl (by decide) rfl (fun ls hl => ?_)
                      refine lv_goto (tgt := 48) hx hb dX5_takeCommand_73 (by decide) ?_
                      refine lv_iload_n hx hb dX5_takeCommand_48 rfl (lv_at hl 0 rfl) ?_
                      refine lv_aload_n hx hb dX5_takeCommand_49 rfl (lv_at hl 1 rfl) ?_
                      refine prV (r := 2) C JP.blind (JP.recv hjs69 hS) (fun U hU hW => JP.use hjs69 hS hU hW) (kJ0_length_8abf5 l as69 vs69 [48, 48] (by decide)) mJ0_length_8abf5 qLX5_58 ⟨rfl, rfl⟩ ⟨Nat.le_of_ble_eq_true rfl, Nat.le_of_ble_eq_true rfl⟩ rfl hl.1 rfl (Nat.le_of_ble_eq_true rfl) dX5_takeCommand_50 ⟨Nat.le_of_ble_eq_true rfl, Nat.le_of_ble_eq_true rfl⟩ ?_
                      refine lv_icmp_ge (tgt := 76) hx hb dX5_takeCommand_53 (by decide) (fun c79 => ?_) (fun c79 => absurd c79 (by decide))
                      refine lv_aload_n hx hb dX5_takeCommand_76 rfl (lv_at hl 2 rfl) ?_
                      refine getF (q0 := 0) (k0 := 4) (v := .int (sIx [119, 109, 107, 111, 98, 100] q2)) C hE hP inA5 rfl rfl (by decide) qFX5_26 rfl rfl dX5_takeCommand_77 ?_
                      refine lv_iconst (v := 1) hx hb dX5_takeCommand_80 (by decide) ?_
                      refine lv_icmp_ne (tgt := 88) hx hb dX5_takeCommand_81 (by decide) (fun c80 => ?_) (fun c80 => ?_)
                      · have h := ite_f c80 h
                        refine lv_iconst (v := 1) hx hb dX5_takeCommand_88 (by decide) ?_
                        have h := Option.some.inj h
                        exact hret.1 _ _ _ _ _ _ _ _ (Nat.le_of_ble_eq_true rfl) (Nat.le_of_ble_eq_true rfl) dX5_takeCommand_89 rfl (by rw [← h]) (by rw [← h] <;> rfl) (by rw [← h]; exact hP) hS
                      · have h := ite_t c80 h
                        refine lv_aload_n hx hb dX5_takeCommand_84 rfl (lv_at hl 2 rfl) ?_
                        obtain ⟨q81, e82, h⟩ := bnd h
                        refine wrVv (ws1 := [(a_t, .inr (5, [.ref a_ti, .ref a_tn, .int t_len, .int q81.1, .int (sIx [119, 109, 107, 111, 98, 100] q2), .int q76.2.2.2.1, .int t_don])), (a_ti, .inl (T 2, 60, .inl v_ti)), (a_tn, .inl (T 0, 3, .inl q81.2))]) C hE hP hD hS hA (kX5_takeSecondDigit l D T a_t a_ti a_tn t_len q76.2.2.1 (sIx [119, 109, 107, 111, 98, 100] q2) q76.2.2.2.1 t_don v_ti q76.2.2.2.2 _ q81 e82) mX5_takeSecondDigit qLX5_69 [0, 1, 2] [] 0 rfl rfl rfl rfl rfl rfl rfl rfl rfl ⟨rfl, rfl⟩ ⟨Nat.le_of_ble_eq_true rfl, Nat.le_of_ble_eq_true rfl⟩ rfl hl.1 rfl (Nat.le_of_ble_eq_true rfl) dX5_takeCommand_85 ⟨Nat.le_of_ble_eq_true rfl, Nat.le_of_ble_eq_true rfl⟩ (fun H locs hP hD hS => ?_)
                        refine lv_iconst (v := 1) hx hb dX5_takeCommand_88 (by decide) ?_
                        have h := Option.some.inj h
                        exact hret.1 _ _ _ _ _ _ _ _ (Nat.le_of_ble_eq_true rfl) (Nat.le_of_ble_eq_true rfl) dX5_takeCommand_89 rfl (by rw [← h]) (by rw [← h] <;> rfl) (by rw [← h]; exact hP) hS
                    · have h := ite_t c78 h
                      refine lv_iconst (v := 0) hx hb dX5_takeCommand_68 (by decide) ?_
                      have h := Option.some.inj h
                      exact hret.1 _ _ _ _ _ _ _ _ (Nat.le_of_ble_eq_true rfl) (Nat.le_of_ble_eq_true rfl) dX5_takeCommand_69 rfl (by rw [← h]) (by rw [← h] <;> rfl) (by rw [← h]; exact hP) hS
                · have h := ite_t c74 h
                  refine lv_iconst (v := 0) hx hb dX5_takeCommand_68 (by decide) ?_
                  have h := Option.some.inj h
                  exact hret.1 _ _ _ _ _ _ _ _ (Nat.le_of_ble_eq_true rfl) (Nat.le_of_ble_eq_true rfl) dX5_takeCommand_69 rfl (by rw [← h]) (by rw [← h] <;> rfl) (by rw [← h]; exact hP) hS
            · have h := ite_f c70 h
              obtain ⟨as83, vs83, hrs83, hjs83⟩ := eS_at (own := RX5) (k := 82) (tx := "") (bs := []) hZ 6 rfl
              refine prSR C vkR_blind (fun U hU hW => hrs83.warm hW) (kX5_signsOf_5 l as83 (sIx [119, 109, 107, 111, 98, 100] q2) c6 c24 c42 c60 c70) mX5_signsOf qLX5_54 ⟨rfl, rfl⟩ ⟨Nat.le_of_ble_eq_true rfl, Nat.le_of_ble_eq_true rfl⟩ rfl hl.1 rfl (Nat.le_of_ble_eq_true rfl) dX5_takeCommand_42 ⟨Nat.le_of_ble_eq_true rfl, Nat.le_of_ble_eq_true rfl⟩ ?_
              refine lv_astore_n (lv' := [(1, .ref as83), (0, .ref a_t)]) hx hb dX5_takeCommand_45 rfl hl (by decide) rfl (fun ls hl => ?_)
              refine lv_iconst (v := 0) hx hb dX5_takeCommand_46 (by decide) ?_
              refine lv_istore_n (lv' := [(2, .int 0), (1, .ref as83), (0, .ref a_t)]) hx hb dX5_takeCommand_47 rfl hl (by decide) rfl (fun ls hl => ?_)
              refine lv_iload_n hx hb dX5_takeCommand_48 rfl (lv_at hl 0 rfl) ?_
              refine lv_aload_n hx hb dX5_takeCommand_49 rfl (lv_at hl 1 rfl) ?_
              refine prV (r := 0) C JP.blind (JP.recv hjs83 hS) (fun U hU hW => JP.use hjs83 hS hU hW) (kJ0_length_8abf5 l as83 vs83 [] (by decide)) mJ0_length_8abf5 qLX5_58 ⟨rfl, rfl⟩ ⟨Nat.le_of_ble_eq_true rfl, Nat.le_of_ble_eq_true rfl⟩ rfl hl.1 rfl (Nat.le_of_ble_eq_true rfl) dX5_takeCommand_50 ⟨Nat.le_of_ble_eq_true rfl, Nat.le_of_ble_eq_true rfl⟩ ?_
              refine lv_icmp_ge (tgt := 76) hx hb dX5_takeCommand_53 (by decide) (fun c85 => ?_) (fun c85 => absurd c85 (by decide))
              refine lv_aload_n hx hb dX5_takeCommand_76 rfl (lv_at hl 2 rfl) ?_
              refine getF (q0 := 0) (k0 := 4) (v := .int (sIx [119, 109, 107, 111, 98, 100] q2)) C hE hP inA5 rfl rfl (by decide) qFX5_26 rfl rfl dX5_takeCommand_77 ?_
              refine lv_iconst (v := 1) hx hb dX5_takeCommand_80 (by decide) ?_
              refine lv_icmp_ne (tgt := 88) hx hb dX5_takeCommand_81 (by decide) (fun c86 => ?_) (fun c86 => ?_)
              · have h := ite_f c86 h
                refine lv_iconst (v := 1) hx hb dX5_takeCommand_88 (by decide) ?_
                have h := Option.some.inj h
                exact hret.1 _ _ _ _ _ _ _ _ (Nat.le_of_ble_eq_true rfl) (Nat.le_of_ble_eq_true rfl) dX5_takeCommand_89 rfl (by rw [← h]) (by rw [← h] <;> rfl) (by rw [← h]; exact hP) hS
              · have h := ite_t c86 h
                refine lv_aload_n hx hb dX5_takeCommand_84 rfl (lv_at hl 2 rfl) ?_
                obtain ⟨q87, e88, h⟩ := bnd h
                refine wrVv (ws1 := [(a_t, .inr (5, [.ref a_ti, .ref a_tn, .int t_len, .int q87.1, .int (sIx [119, 109, 107, 111, 98, 100] q2), .int 0, .int t_don])), (a_ti, .inl (T 2, 60, .inl v_ti)), (a_tn, .inl (T 0, 3, .inl q87.2))]) C hE hP hD hS hA (kX5_takeSecondDigit l D T a_t a_ti a_tn t_len (t_cur + 1) (sIx [119, 109, 107, 111, 98, 100] q2) 0 t_don v_ti v_tn _ q87 e88) mX5_takeSecondDigit qLX5_69 [0, 1, 2] [] 0 rfl rfl rfl rfl rfl rfl rfl rfl rfl ⟨rfl, rfl⟩ ⟨Nat.le_of_ble_eq_true rfl, Nat.le_of_ble_eq_true rfl⟩ rfl hl.1 rfl (Nat.le_of_ble_eq_true rfl) dX5_takeCommand_85 ⟨Nat.le_of_ble_eq_true rfl, Nat.le_of_ble_eq_true rfl⟩ (fun H locs hP hD hS => ?_)
                refine lv_iconst (v := 1) hx hb dX5_takeCommand_88 (by decide) ?_
                have h := Option.some.inj h
                exact hret.1 _ _ _ _ _ _ _ _ (Nat.le_of_ble_eq_true rfl) (Nat.le_of_ble_eq_true rfl) dX5_takeCommand_89 rfl (by rw [← h]) (by rw [← h] <;> rfl) (by rw [← h]; exact hP) hS
  · have h := ite_t c4 h
    refine lv_iconst (v := 0) hx hb dX5_takeCommand_26 (by decide) ?_
    have h := Option.some.inj h
    exact hret.1 _ _ _ _ _ _ _ _ (Nat.le_of_ble_eq_true rfl) (Nat.le_of_ble_eq_true rfl) dX5_takeCommand_27 rfl (by rw [← h]) (by rw [← h] <;> rfl) (by rw [← h]; exact hP) hS

def fX5_errorAt_6 (t_len : Int32) (v_ti : Nat → Int32) : Nat → Int32 → Int32 → Int32 → Int32 → Int32 → (Nat → Int32) → Option (Nat × Int32 × Int32 × Int32 × Int32 × Int32 × (Nat → Int32))
  | 0, _, _, _, _, _, _ => none
  | k + 1, l1, t_cur, t_kin, t_tol, t_don, v_tn =>
    if 60 < l1 then
      some (0, t_cur, t_cur, t_kin, t_tol, t_don, v_tn)
    else
      (fX5_takeCommand t_len t_cur t_kin t_tol v_ti v_tn).bind fun q4 =>
      if q4.1 = 0 then
        if q4.2.1 = 0 then
          some (0, q4.2.2.1, q4.2.2.1, q4.2.2.2.1, q4.2.2.2.2.1, t_don, q4.2.2.2.2.2)
        else
          if q4.2.2.1 < t_len then
            (fX5_here t_len q4.2.2.1 v_ti).bind fun q8 =>
            if q8 = 59 then
              fX5_errorAt_6 t_len v_ti k (l1 + 1) (q4.2.2.1 + 1) q4.2.2.2.1 q4.2.2.2.2.1 t_don q4.2.2.2.2.2
            else
              some (0, q4.2.2.1, q4.2.2.1, q4.2.2.2.1, q4.2.2.2.2.1, t_don, q4.2.2.2.2.2)
          else
            some (0, (-1), q4.2.2.1, q4.2.2.2.1, q4.2.2.2.2.1, t_don, q4.2.2.2.2.2)
      else
        some (q4.1, 0, q4.2.2.1, q4.2.2.2.1, q4.2.2.2.2.1, t_don, q4.2.2.2.2.2)
def fX5_errorAt (t_len : Int32) (t_cur : Int32) (t_kin : Int32) (t_tol : Int32) (t_don : Int32) (v_ti : Nat → Int32) (v_tn : Nat → Int32) : Option (Nat × Int32 × Int32 × Int32 × Int32 × Int32 × (Nat → Int32)) :=
  (fX5_rewind t_cur t_don).bind fun q1 =>
  fX5_errorAt_6 t_len v_ti 64 0 q1.1 t_kin t_tol q1.2 v_tn
set_option maxHeartbeats 4000000 in
set_option maxRecDepth 100000 in
theorem lX5_errorAt_6 {p : Program} {l : Launch} {e : Env} {s : State} {m : MethodId} {args : Array Value} {below : List Frame} {meth : Method} {c : Code} {Q : State → Prop} {D : va_G} {T : Nat → ClassId} {a_t a_ti a_tn : Nat} {t_len : Int32} {v_ti : Nat → Int32} {A : Nat → Prop} {r : Nat × Int32 × Int32 × Int32 × Int32 × Int32 × (Nat → Int32)} (C : CallFix p m c cX5_errorAt 2 s args aw RX5) (hE : eK D T s) (hA : ∀ q : Nat, s.heap.size ≤ q → A q) (hZ : eX l A s) (hret : ThRetI p l e ({ frames := 6, cells := 0, slots := 0, locals := 150 } : Room) s m args below meth c Q cX5_errorAt .int D A [(a_t, .inr (5, [.ref a_ti, .ref a_tn, .int t_len, .int r.2.2.1, .int r.2.2.2.1, .int r.2.2.2.2.1, .int r.2.2.2.2.2.1])), (a_ti, .inl (T 2, 60, .inl v_ti)), (a_tn, .inl (T 0, 3, .inl r.2.2.2.2.2.2))] r.1 r.2.1 ∧ ThOut p l e ({ frames := 6, cells := 0, slots := 0, locals := 150 } : Room) s m args below meth c Q D A [(a_t, .inr (5, [.ref a_ti, .ref a_tn, .int t_len, .int r.2.2.1, .int r.2.2.2.1, .int r.2.2.2.2.1, .int r.2.2.2.2.2.1])), (a_ti, .inl (T 2, 60, .inl v_ti)), (a_tn, .inl (T 0, 3, .inl r.2.2.2.2.2.2))] r.1 ∧ ThThr p l e ({ frames := 6, cells := 0, slots := 0, locals := 150 } : Room) s m args below meth c Q cX5_errorAt RX5 D A [(a_t, .inr (5, [.ref a_ti, .ref a_tn, .int t_len, .int r.2.2.1, .int r.2.2.2.1, .int r.2.2.2.2.1, .int r.2.2.2.2.2.1])), (a_ti, .inl (T 2, 60, .inl v_ti)), (a_tn, .inl (T 0, 3, .inl r.2.2.2.2.2.2))] r.1) : ∀ (k : Nat) (l1 : Int32) (t_cur : Int32) (t_kin : Int32) (t_tol : Int32) (t_don : Int32) (v_tn : Nat → Int32) {H : Heap} {locs : List Loc} (hP : va_P D kC [(a_t, .inr (5, [.ref a_ti, .ref a_tn, .int t_len, .int t_cur, .int t_kin, .int t_tol, .int t_don])), (a_ti, .inl (T 2, 60, .inl v_ti)), (a_tn, .inl (T 0, 3, .inl v_tn))] H) (hD : va_D A [(a_t, .inr (5, [.ref a_ti, .ref a_tn, .int t_len, .int t_cur, .int t_kin, .int t_tol, .int t_don])), (a_ti, .inl (T 2, 60, .inl v_ti)), (a_tn, .inl (T 0, 3, .inl v_tn))]) (hS : va_S A s.heap H locs) (ls : Array Slot) (hl : lv_has ls 2 [(0, .ref a_t), (1, .int l1)]) (h : fX5_errorAt_6 t_len v_ti k l1 t_cur t_kin t_tol t_don v_tn = some r), W p l e ({ frames := 6, cells := 0, slots := 0, locals := 150 } : Room) s m args below meth c H locs 0 0 Q (F0 m 6 ls []) := by
  have hx := C.1
  have hb := C.2.1
  intro k
  induction k with
  | zero =>
    intro l1 t_cur t_kin t_tol t_don v_tn H locs hP hD hS ls hl h
    exact nomatch (show (none : Option (Nat × Int32 × Int32 × Int32 × Int32 × Int32 × (Nat → Int32))) = some r from h)
  | succ k ih =>
    intro l1 t_cur t_kin t_tol t_don v_tn H locs hP hD hS ls hl h
    rw [fX5_errorAt_6] at h
    refine lv_iload_n hx hb dX5_errorAt_6 rfl (lv_at hl 1 rfl) ?_
    refine lv_bipush (v := 60) hx hb dX5_errorAt_7 (by decide) ?_
    refine lv_icmp_gt (tgt := 67) hx hb dX5_errorAt_9 (by decide) (fun c3 => ?_) (fun c3 => ?_)
    · have h := ite_t c3 h
      refine lv_aload_n hx hb dX5_errorAt_67 rfl (lv_at hl 0 rfl) ?_
      refine getF (q0 := 0) (k0 := 3) (v := .int t_cur) C hE hP inA5 rfl rfl (by decide) qFX5_23 rfl rfl dX5_errorAt_68 ?_
      have h := Option.some.inj h
      exact hret.1 _ _ _ _ _ _ _ _ (Nat.le_of_ble_eq_true rfl) (Nat.le_of_ble_eq_true rfl) dX5_errorAt_71 rfl (by rw [← h]) (by rw [← h] <;> rfl) (by rw [← h]; exact hP) hS
    · have h := ite_f c3 h
      refine lv_aload_n hx hb dX5_errorAt_12 rfl (lv_at hl 0 rfl) ?_
      obtain ⟨q4, e5, h⟩ := bnd h
      refine thVi (ws1 := [(a_t, .inr (5, [.ref a_ti, .ref a_tn, .int t_len, .int q4.2.2.1, .int q4.2.2.2.1, .int q4.2.2.2.2.1, .int t_don])), (a_ti, .inl (T 2, 60, .inl v_ti)), (a_tn, .inl (T 0, 3, .inl q4.2.2.2.2.2))]) C hE hZ hP hD hS hA (kX5_takeCommand l hZ.1 D T a_t a_ti a_tn t_len t_cur t_kin t_tol t_don v_ti v_tn _ q4 e5) mX5_takeCommand qLX5_38 [0, 1, 2] [] 0 rfl rfl rfl rfl rfl rfl rfl rfl rfl ⟨Nat.le_of_ble_eq_true rfl, Nat.le_of_ble_eq_true rfl⟩ rfl hl.1 rfl (Nat.le_of_ble_eq_true rfl) dX5_errorAt_13 ⟨Nat.le_of_ble_eq_true rfl, Nat.le_of_ble_eq_true rfl⟩ (fun hx0 H locs ce q9 hP hD hS g1 g2 g3 => ?_) (fun hx0 H locs hP hD hS => ?_)
      · have h := ite_f (Nat.ne_of_gt hx0) h
        have h := Option.some.inj h
        exact hret.2.1 _ _ _ _ _ _ _ _ _ (Nat.le_of_ble_eq_true rfl) (Nat.le_of_ble_eq_true rfl) (by rw [← h]; exact hx0) (by rw [← h]; exact hP) hS g1 g2 (by rw [← h]; exact g3)
      · have h := ite_t hx0 h
        refine lv_if_ne (tgt := 24) hx hb dX5_errorAt_16 (by decide) (fun c6 => ?_) (fun c6 => ?_)
        · have h := ite_f c6 h
          refine lv_aload_n hx hb dX5_errorAt_24 rfl (lv_at hl 0 rfl) ?_
          refine getF (q0 := 0) (k0 := 3) (v := .int q4.2.2.1) C hE hP inA5 rfl rfl (by decide) qFX5_23 rfl rfl dX5_errorAt_25 ?_
          refine lv_aload_n hx hb dX5_errorAt_28 rfl (lv_at hl 0 rfl) ?_
          refine getF (q0 := 0) (k0 := 2) (v := .int t_len) C hE hP inA5 rfl rfl (by decide) qFX5_19 rfl rfl dX5_errorAt_29 ?_
          refine lv_icmp_lt (tgt := 37) hx hb dX5_errorAt_32 (by decide) (fun c7 => ?_) (fun c7 => ?_)
          · have h := ite_t c7 h
            refine lv_aload_n hx hb dX5_errorAt_37 rfl (lv_at hl 0 rfl) ?_
            obtain ⟨q8, e9, h⟩ := bnd h
            refine rdV C hE hP (kX5_here l D T a_t a_ti a_tn t_len q4.2.2.1 q4.2.2.2.1 q4.2.2.2.2.1 t_don v_ti q8 e9) mX5_here qLX5_42 [0, 1] 0 rfl rfl rfl rfl ⟨rfl, rfl⟩ ⟨Nat.le_of_ble_eq_true rfl, Nat.le_of_ble_eq_true rfl⟩ rfl hl.1 rfl (Nat.le_of_ble_eq_true rfl) dX5_errorAt_38 ⟨Nat.le_of_ble_eq_true rfl, Nat.le_of_ble_eq_true rfl⟩ ?_
            refine lv_bipush (v := 59) hx hb dX5_errorAt_41 (by decide) ?_
            refine lv_icmp_eq (tgt := 51) hx hb dX5_errorAt_43 (by decide) (fun c10 => ?_) (fun c10 => ?_)
            · have h := ite_t c10 h
              refine lv_aload_n hx hb dX5_errorAt_51 rfl (lv_at hl 0 rfl) ?_
              refine lv_dup hx hb dX5_errorAt_52 rfl ?_
              refine getF (q0 := 0) (k0 := 3) (v := .int q4.2.2.1) C hE hP inA5 rfl rfl (by decide) qFX5_23 rfl rfl dX5_errorAt_53 ?_
              refine lv_iconst (v := 1) hx hb dX5_errorAt_56 (by decide) ?_
              refine lv_iadd hx hb dX5_errorAt_57 ?_
              refine putF (q0 := 0) (k0 := 3) (ws1 := [(a_t, .inr (5, [.ref a_ti, .ref a_tn, .int t_len, .int (q4.2.2.1 + 1), .int q4.2.2.2.1, .int q4.2.2.2.2.1, .int t_don])), (a_ti, .inl (T 2, 60, .inl v_ti)), (a_tn, .inl (T 0, 3, .inl q4.2.2.2.2.2))]) C hE hP hD hS inA5 tyX5_ok nmX5 rfl rfl (by decide) qFX5_23 rfl rfl rfl rfl (Nat.le_of_ble_eq_true rfl) rfl dX5_errorAt_58 (fun H locs hP hD hS => ?_)
              refine lv_iinc (v := (l1 + 1)) (lv' := [(1, .int (l1 + 1)), (0, .ref a_t)]) hx hb dX5_errorAt_61 hl (k := 1) rfl rfl (by decide) rfl (fun ls hl => ?_)
              refine lv_goto (tgt := 6) hx hb dX5_errorAt_64 (by decide) ?_
              exact ih (l1 + 1) (q4.2.2.1 + 1) q4.2.2.2.1 q4.2.2.2.2.1 t_don q4.2.2.2.2.2 hP hD hS _ (lv_sub hl [1, 0] rfl) h
            · have h := ite_f c10 h
              refine lv_aload_n hx hb dX5_errorAt_46 rfl (lv_at hl 0 rfl) ?_
              refine getF (q0 := 0) (k0 := 3) (v := .int q4.2.2.1) C hE hP inA5 rfl rfl (by decide) qFX5_23 rfl rfl dX5_errorAt_47 ?_
              have h := Option.some.inj h
              exact hret.1 _ _ _ _ _ _ _ _ (Nat.le_of_ble_eq_true rfl) (Nat.le_of_ble_eq_true rfl) dX5_errorAt_50 rfl (by rw [← h]) (by rw [← h] <;> rfl) (by rw [← h]; exact hP) hS
          · have h := ite_f c7 h
            refine lv_iconst (v := (-1)) hx hb dX5_errorAt_35 (by decide) ?_
            have h := Option.some.inj h
            exact hret.1 _ _ _ _ _ _ _ _ (Nat.le_of_ble_eq_true rfl) (Nat.le_of_ble_eq_true rfl) dX5_errorAt_36 rfl (by rw [← h]) (by rw [← h] <;> rfl) (by rw [← h]; exact hP) hS
        · have h := ite_t c6 h
          refine lv_aload_n hx hb dX5_errorAt_19 rfl (lv_at hl 0 rfl) ?_
          refine getF (q0 := 0) (k0 := 3) (v := .int q4.2.2.1) C hE hP inA5 rfl rfl (by decide) qFX5_23 rfl rfl dX5_errorAt_20 ?_
          have h := Option.some.inj h
          exact hret.1 _ _ _ _ _ _ _ _ (Nat.le_of_ble_eq_true rfl) (Nat.le_of_ble_eq_true rfl) dX5_errorAt_23 rfl (by rw [← h]) (by rw [← h] <;> rfl) (by rw [← h]; exact hP) hS
set_option maxHeartbeats 4000000 in
set_option maxRecDepth 100000 in
theorem kX5_errorAt (l : Launch) (hnt : l.stackTraces = false) (D : va_G) (T : Nat → ClassId) (a_t a_ti a_tn : Nat) (t_len : Int32) (t_cur : Int32) (t_kin : Int32) (t_tol : Int32) (t_don : Int32) (v_ti : Nat → Int32) (v_tn : Nat → Int32) (sz : Nat) (r : Nat × Int32 × Int32 × Int32 × Int32 × Int32 × (Nat → Int32)) (h : fX5_errorAt t_len t_cur t_kin t_tol t_don v_ti v_tn = some r) : ThI l yX5_errorAt cX5_errorAt 2 .int ({ frames := 6, cells := 0, slots := 0, locals := 150 } : Room) D T sz [(a_t, .inr (5, [.ref a_ti, .ref a_tn, .int t_len, .int t_cur, .int t_kin, .int t_tol, .int t_don])), (a_ti, .inl (T 2, 60, .inl v_ti)), (a_tn, .inl (T 0, 3, .inl v_tn))] [(a_t, .inr (5, [.ref a_ti, .ref a_tn, .int t_len, .int r.2.2.1, .int r.2.2.2.1, .int r.2.2.2.2.1, .int r.2.2.2.2.2.1])), (a_ti, .inl (T 2, 60, .inl v_ti)), (a_tn, .inl (T 0, 3, .inl r.2.2.2.2.2.2))] [.ref a_t] r.1 r.2.1 := by
  unfold fX5_errorAt at h
  refine thMetI hnt (by decide +kernel) rfl (fun p e s m args below meth c Q A C hE hA hZ hP hD hS hret ls hl => ?_)
  have hx := C.1
  have hb := C.2.1
  have hl : lv_has ls 2 [(0, .ref a_t)] := hl
  refine lv_aload_n hx hb dX5_errorAt_0 rfl (lv_at hl 0 rfl) ?_
  obtain ⟨q1, e2, h⟩ := bnd h
  refine wrVv (ws1 := [(a_t, .inr (5, [.ref a_ti, .ref a_tn, .int t_len, .int q1.1, .int t_kin, .int t_tol, .int q1.2])), (a_ti, .inl (T 2, 60, .inl v_ti)), (a_tn, .inl (T 0, 3, .inl v_tn))]) C hE hP hD hS hA (kX5_rewind l D T a_t a_ti a_tn t_len t_cur t_kin t_tol t_don _ q1 e2) mX5_rewind qLX5_35 [0] [1, 2] 0 rfl rfl rfl rfl rfl rfl rfl rfl rfl ⟨rfl, rfl⟩ ⟨Nat.le_of_ble_eq_true rfl, Nat.le_of_ble_eq_true rfl⟩ rfl hl.1 rfl (Nat.le_of_ble_eq_true rfl) dX5_errorAt_1 ⟨Nat.le_of_ble_eq_true rfl, Nat.le_of_ble_eq_true rfl⟩ (fun H locs hP hD hS => ?_)
  refine lv_iconst (v := 0) hx hb dX5_errorAt_4 (by decide) ?_
  refine lv_istore_n (lv' := [(1, .int 0), (0, .ref a_t)]) hx hb dX5_errorAt_5 rfl hl (by decide) rfl (fun ls hl => ?_)
  exact lX5_errorAt_6 C hE hA hZ hret 64 0 q1.1 t_kin t_tol q1.2 v_tn hP hD hS _ (lv_sub hl [1, 0] rfl) h

def fX5_takeNext_32 (t_len : Int32) (v_ti : Nat → Int32) (t_cur : Int32) (t_kin : Int32) (t_tol : Int32) (v_tn : Nat → Int32) : Option (Nat × Int32 × Int32 × Int32 × Int32 × (Nat → Int32)) :=
  (fX5_takeCommand t_len t_cur t_kin t_tol v_ti v_tn).bind fun q5 =>
  if q5.1 = 0 then
    some (0, (q5.2.1 &&& 1), q5.2.2.1, q5.2.2.2.1, q5.2.2.2.2.1, q5.2.2.2.2.2)
  else
    some (q5.1, 0, q5.2.2.1, q5.2.2.2.1, q5.2.2.2.2.1, q5.2.2.2.2.2)
def fX5_takeNext (t_len : Int32) (t_cur : Int32) (t_kin : Int32) (t_tol : Int32) (v_ti : Nat → Int32) (v_tn : Nat → Int32) : Option (Nat × Int32 × Int32 × Int32 × Int32 × (Nat → Int32)) :=
  if t_cur < t_len then
    (fX5_here t_len t_cur v_ti).bind fun q2 =>
    fX5_takeNext_32 t_len v_ti (if q2 = 59 then (t_cur + 1) else t_cur) t_kin t_tol v_tn
  else
    some (0, 0, t_cur, t_kin, t_tol, v_tn)
set_option maxHeartbeats 4000000 in
set_option maxRecDepth 100000 in
theorem lX5_takeNext_32 {p : Program} {l : Launch} {e : Env} {s : State} {m : MethodId} {args : Array Value} {below : List Frame} {meth : Method} {c : Code} {Q : State → Prop} {D : va_G} {T : Nat → ClassId} {a_t a_ti a_tn : Nat} {t_len : Int32} {t_don : Int32} {v_ti : Nat → Int32} {A : Nat → Prop} {r : Nat × Int32 × Int32 × Int32 × Int32 × (Nat → Int32)} (C : CallFix p m c cX5_takeNext 1 s args aw RX5) (hE : eK D T s) (hA : ∀ q : Nat, s.heap.size ≤ q → A q) (hZ : eX l A s) (hret : ThRetI p l e ({ frames := 6, cells := 0, slots := 0, locals := 150 } : Room) s m args below meth c Q cX5_takeNext .boolean D A [(a_t, .inr (5, [.ref a_ti, .ref a_tn, .int t_len, .int r.2.2.1, .int r.2.2.2.1, .int r.2.2.2.2.1, .int t_don])), (a_ti, .inl (T 2, 60, .inl v_ti)), (a_tn, .inl (T 0, 3, .inl r.2.2.2.2.2))] r.1 r.2.1 ∧ ThOut p l e ({ frames := 6, cells := 0, slots := 0, locals := 150 } : Room) s m args below meth c Q D A [(a_t, .inr (5, [.ref a_ti, .ref a_tn, .int t_len, .int r.2.2.1, .int r.2.2.2.1, .int r.2.2.2.2.1, .int t_don])), (a_ti, .inl (T 2, 60, .inl v_ti)), (a_tn, .inl (T 0, 3, .inl r.2.2.2.2.2))] r.1 ∧ ThThr p l e ({ frames := 6, cells := 0, slots := 0, locals := 150 } : Room) s m args below meth c Q cX5_takeNext RX5 D A [(a_t, .inr (5, [.ref a_ti, .ref a_tn, .int t_len, .int r.2.2.1, .int r.2.2.2.1, .int r.2.2.2.2.1, .int t_don])), (a_ti, .inl (T 2, 60, .inl v_ti)), (a_tn, .inl (T 0, 3, .inl r.2.2.2.2.2))] r.1) (t_cur : Int32) (t_kin : Int32) (t_tol : Int32) (v_tn : Nat → Int32) {H : Heap} {locs : List Loc} (hP : va_P D kC [(a_t, .inr (5, [.ref a_ti, .ref a_tn, .int t_len, .int t_cur, .int t_kin, .int t_tol, .int t_don])), (a_ti, .inl (T 2, 60, .inl v_ti)), (a_tn, .inl (T 0, 3, .inl v_tn))] H) (hD : va_D A [(a_t, .inr (5, [.ref a_ti, .ref a_tn, .int t_len, .int t_cur, .int t_kin, .int t_tol, .int t_don])), (a_ti, .inl (T 2, 60, .inl v_ti)), (a_tn, .inl (T 0, 3, .inl v_tn))]) (hS : va_S A s.heap H locs) (ls : Array Slot) (hl : lv_has ls 1 [(0, .ref a_t)]) (h : fX5_takeNext_32 t_len v_ti t_cur t_kin t_tol v_tn = some r) : W p l e ({ frames := 6, cells := 0, slots := 0, locals := 150 } : Room) s m args below meth c H locs 0 0 Q (F0 m 32 ls []) := by
  have hx := C.1
  have hb := C.2.1
  unfold fX5_takeNext_32 at h
  refine lv_aload_n hx hb dX5_takeNext_32 rfl (lv_at hl 0 rfl) ?_
  obtain ⟨q5, e6, h⟩ := bnd h
  refine thVi (ws1 := [(a_t, .inr (5, [.ref a_ti, .ref a_tn, .int t_len, .int q5.2.2.1, .int q5.2.2.2.1, .int q5.2.2.2.2.1, .int t_don])), (a_ti, .inl (T 2, 60, .inl v_ti)), (a_tn, .inl (T 0, 3, .inl q5.2.2.2.2.2))]) C hE hZ hP hD hS hA (kX5_takeCommand l hZ.1 D T a_t a_ti a_tn t_len t_cur t_kin t_tol t_don v_ti v_tn _ q5 e6) mX5_takeCommand qLX5_38 [0, 1, 2] [] 0 rfl rfl rfl rfl rfl rfl rfl rfl rfl ⟨Nat.le_of_ble_eq_true rfl, Nat.le_of_ble_eq_true rfl⟩ rfl hl.1 rfl (Nat.le_of_ble_eq_true rfl) dX5_takeNext_33 ⟨Nat.le_of_ble_eq_true rfl, Nat.le_of_ble_eq_true rfl⟩ (fun hx0 H locs ce q9 hP hD hS g1 g2 g3 => ?_) (fun hx0 H locs hP hD hS => ?_)
  · have h := ite_f (Nat.ne_of_gt hx0) h
    have h := Option.some.inj h
    exact hret.2.1 _ _ _ _ _ _ _ _ _ (Nat.le_of_ble_eq_true rfl) (Nat.le_of_ble_eq_true rfl) (by rw [← h]; exact hx0) (by rw [← h]; exact hP) hS g1 g2 (by rw [← h]; exact g3)
  · have h := ite_t hx0 h
    have h := Option.some.inj h
    exact hret.1 _ _ _ _ _ _ _ _ (Nat.le_of_ble_eq_true rfl) (Nat.le_of_ble_eq_true rfl) dX5_takeNext_36 rfl (by rw [← h]) (by rw [← h] <;> rfl) (by rw [← h]; exact hP) hS
set_option maxHeartbeats 4000000 in
set_option maxRecDepth 100000 in
theorem kX5_takeNext (l : Launch) (hnt : l.stackTraces = false) (D : va_G) (T : Nat → ClassId) (a_t a_ti a_tn : Nat) (t_len : Int32) (t_cur : Int32) (t_kin : Int32) (t_tol : Int32) (t_don : Int32) (v_ti : Nat → Int32) (v_tn : Nat → Int32) (sz : Nat) (r : Nat × Int32 × Int32 × Int32 × Int32 × (Nat → Int32)) (h : fX5_takeNext t_len t_cur t_kin t_tol v_ti v_tn = some r) : ThI l yX5_takeNext cX5_takeNext 1 .boolean ({ frames := 6, cells := 0, slots := 0, locals := 150 } : Room) D T sz [(a_t, .inr (5, [.ref a_ti, .ref a_tn, .int t_len, .int t_cur, .int t_kin, .int t_tol, .int t_don])), (a_ti, .inl (T 2, 60, .inl v_ti)), (a_tn, .inl (T 0, 3, .inl v_tn))] [(a_t, .inr (5, [.ref a_ti, .ref a_tn, .int t_len, .int r.2.2.1, .int r.2.2.2.1, .int r.2.2.2.2.1, .int t_don])), (a_ti, .inl (T 2, 60, .inl v_ti)), (a_tn, .inl (T 0, 3, .inl r.2.2.2.2.2))] [.ref a_t] r.1 r.2.1 := by
  unfold fX5_takeNext at h
  refine thMetI hnt (by decide +kernel) rfl (fun p e s m args below meth c Q A C hE hA hZ hP hD hS hret ls hl => ?_)
  have hx := C.1
  have hb := C.2.1
  have hl : lv_has ls 1 [(0, .ref a_t)] := hl
  refine lv_aload_n hx hb dX5_takeNext_0 rfl (lv_at hl 0 rfl) ?_
  refine getF (q0 := 0) (k0 := 3) (v := .int t_cur) C hE hP inA5 rfl rfl (by decide) qFX5_23 rfl rfl dX5_takeNext_1 ?_
  refine lv_aload_n hx hb dX5_takeNext_4 rfl (lv_at hl 0 rfl) ?_
  refine getF (q0 := 0) (k0 := 2) (v := .int t_len) C hE hP inA5 rfl rfl (by decide) qFX5_19 rfl rfl dX5_takeNext_5 ?_
  refine lv_icmp_lt (tgt := 13) hx hb dX5_takeNext_8 (by decide) (fun c1 => ?_) (fun c1 => ?_)
  · have h := ite_t c1 h
    refine lv_aload_n hx hb dX5_takeNext_13 rfl (lv_at hl 0 rfl) ?_
    obtain ⟨q2, e3, h⟩ := bnd h
    refine rdV C hE hP (kX5_here l D T a_t a_ti a_tn t_len t_cur t_kin t_tol t_don v_ti q2 e3) mX5_here qLX5_42 [0, 1] 0 rfl rfl rfl rfl ⟨rfl, rfl⟩ ⟨Nat.le_of_ble_eq_true rfl, Nat.le_of_ble_eq_true rfl⟩ rfl hl.1 rfl (Nat.le_of_ble_eq_true rfl) dX5_takeNext_14 ⟨Nat.le_of_ble_eq_true rfl, Nat.le_of_ble_eq_true rfl⟩ ?_
    refine lv_bipush (v := 59) hx hb dX5_takeNext_17 (by decide) ?_
    refine lv_icmp_ne (tgt := 32) hx hb dX5_takeNext_19 (by decide) (fun c4 => ?_) (fun c4 => ?_)
    · rw [if_neg c4] at h
      exact lX5_takeNext_32 C hE hA hZ hret t_cur t_kin t_tol v_tn hP hD hS _ (lv_sub hl [0] rfl) h
    · rw [if_pos c4] at h
      refine lv_aload_n hx hb dX5_takeNext_22 rfl (lv_at hl 0 rfl) ?_
      refine lv_dup hx hb dX5_takeNext_23 rfl ?_
      refine getF (q0 := 0) (k0 := 3) (v := .int t_cur) C hE hP inA5 rfl rfl (by decide) qFX5_23 rfl rfl dX5_takeNext_24 ?_
      refine lv_iconst (v := 1) hx hb dX5_takeNext_27 (by decide) ?_
      refine lv_iadd hx hb dX5_takeNext_28 ?_
      refine putF (q0 := 0) (k0 := 3) (ws1 := [(a_t, .inr (5, [.ref a_ti, .ref a_tn, .int t_len, .int (t_cur + 1), .int t_kin, .int t_tol, .int t_don])), (a_ti, .inl (T 2, 60, .inl v_ti)), (a_tn, .inl (T 0, 3, .inl v_tn))]) C hE hP hD hS inA5 tyX5_ok nmX5 rfl rfl (by decide) qFX5_23 rfl rfl rfl rfl (Nat.le_of_ble_eq_true rfl) rfl dX5_takeNext_29 (fun H locs hP hD hS => ?_)
      exact lX5_takeNext_32 C hE hA hZ hret (t_cur + 1) t_kin t_tol v_tn hP hD hS _ (lv_sub hl [0] rfl) h
  · have h := ite_f c1 h
    refine lv_iconst (v := 0) hx hb dX5_takeNext_11 (by decide) ?_
    have h := Option.some.inj h
    exact hret.1 _ _ _ _ _ _ _ _ (Nat.le_of_ble_eq_true rfl) (Nat.le_of_ble_eq_true rfl) dX5_takeNext_12 rfl (by rw [← h]) (by rw [← h] <;> rfl) (by rw [← h]; exact hP) hS

def fX7_whale (u_det : Int32) (h_old : Int32) (h_siz : Int32) (x_rea : Int32) (x_det : Int32) (x_com : Int32) (v_gw : Nat → Int32) (v_gk : Nat → Int32) (v_h0w : Nat → Int32) (v_h0k : Nat → Int32) (v_h1w : Nat → Int32) (v_h1k : Nat → Int32) (v_h2w : Nat → Int32) (v_h2k : Nat → Int32) (v_h3w : Nat → Int32) (v_h3k : Nat → Int32) (v_h4w : Nat → Int32) (v_h4k : Nat → Int32) (v_h5w : Nat → Int32) (v_h5k : Nat → Int32) (p0 : Int32) (p1 : Int32) (p2 : Int32) : Option (Nat × Int32 × Int32 × Int32 × Int32 × Int32 × Int32 × Int32 × (Nat → Int32) × (Nat → Int32) × (Nat → Int32) × (Nat → Int32) × (Nat → Int32) × (Nat → Int32) × (Nat → Int32) × (Nat → Int32) × (Nat → Int32) × (Nat → Int32) × (Nat → Int32) × (Nat → Int32) × (Nat → Int32) × (Nat → Int32)) :=
  (fX6_comeFault u_det v_gw v_gk p0 p1 p2).bind fun q1 =>
  (fX7_demandRange q1.1).bind fun q3 =>
  if q3 = 0 then
    (fX7_demandAllowed q1.2 x_rea x_det x_com q1.1).bind fun q5 =>
    if q5.1 = 0 then
      (fX2_remember h_old h_siz v_gw v_gk v_h0w v_h0k v_h1w v_h1k v_h2w v_h2k v_h3w v_h3k v_h4w v_h4k v_h5w v_h5k).bind fun q7 =>
      (fX1_addWhale v_gw v_gk p0 p1 p2).bind fun q9 =>
      some (0, q9.1, q1.2, q7.1, q7.2.1, q5.2.1, q5.2.2.1, q5.2.2.2, q9.2.1, q9.2.2, q7.2.2.1, q7.2.2.2.1, q7.2.2.2.2.1, q7.2.2.2.2.2.1, q7.2.2.2.2.2.2.1, q7.2.2.2.2.2.2.2.1, q7.2.2.2.2.2.2.2.2.1, q7.2.2.2.2.2.2.2.2.2.1, q7.2.2.2.2.2.2.2.2.2.2.1, q7.2.2.2.2.2.2.2.2.2.2.2.1, q7.2.2.2.2.2.2.2.2.2.2.2.2.1, q7.2.2.2.2.2.2.2.2.2.2.2.2.2)
    else
      some (q5.1, 0, q1.2, h_old, h_siz, q5.2.1, q5.2.2.1, q5.2.2.2, v_gw, v_gk, v_h0w, v_h0k, v_h1w, v_h1k, v_h2w, v_h2k, v_h3w, v_h3k, v_h4w, v_h4k, v_h5w, v_h5k)
  else
    some (q3, 0, q1.2, h_old, h_siz, x_rea, x_det, x_com, v_gw, v_gk, v_h0w, v_h0k, v_h1w, v_h1k, v_h2w, v_h2k, v_h3w, v_h3k, v_h4w, v_h4k, v_h5w, v_h5k)
set_option maxHeartbeats 4000000 in
set_option maxRecDepth 100000 in
theorem kX7_whale (l : Launch) (hnt : l.stackTraces = false) (D : va_G) (T : Nat → ClassId) (a_g a_gw a_gk a_h0 a_h0w a_h0k a_h1 a_h1w a_h1k a_h2 a_h2w a_h2k a_h3 a_h3w a_h3k a_h4 a_h4w a_h4k a_h5 a_h5w a_h5k a_u a_r a_h a_hp a_x a_b a_v a_f a_t a_n : Nat) (u_det : Int32) (h_old : Int32) (h_siz : Int32) (x_sav : Int32) (x_err : Int32) (x_rea : Int32) (x_det : Int32) (x_com : Int32) (v_gw : Nat → Int32) (v_gk : Nat → Int32) (v_h0w : Nat → Int32) (v_h0k : Nat → Int32) (v_h1w : Nat → Int32) (v_h1k : Nat → Int32) (v_h2w : Nat → Int32) (v_h2k : Nat → Int32) (v_h3w : Nat → Int32) (v_h3k : Nat → Int32) (v_h4w : Nat → Int32) (v_h4k : Nat → Int32) (v_h5w : Nat → Int32) (v_h5k : Nat → Int32) (p0 : Int32) (p1 : Int32) (p2 : Int32) (sz : Nat) (r : Nat × Int32 × Int32 × Int32 × Int32 × Int32 × Int32 × Int32 × (Nat → Int32) × (Nat → Int32) × (Nat → Int32) × (Nat → Int32) × (Nat → Int32) × (Nat → Int32) × (Nat → Int32) × (Nat → Int32) × (Nat → Int32) × (Nat → Int32) × (Nat → Int32) × (Nat → Int32) × (Nat → Int32) × (Nat → Int32)) (h : fX7_whale u_det h_old h_siz x_rea x_det x_com v_gw v_gk v_h0w v_h0k v_h1w v_h1k v_h2w v_h2k v_h3w v_h3k v_h4w v_h4k v_h5w v_h5k p0 p1 p2 = some r) : ThI l yX7_whale cX7_whale 5 .int ({ frames := 7, cells := 2, slots := 12, locals := 143 } : Room) D T sz [(a_g, .inr (1, [.ref a_gw, .ref a_gk])), (a_h0, .inr (1, [.ref a_h0w, .ref a_h0k])), (a_h1, .inr (1, [.ref a_h1w, .ref a_h1k])), (a_h2, .inr (1, [.ref a_h2w, .ref a_h2k])), (a_h3, .inr (1, [.ref a_h3w, .ref a_h3k])), (a_h4, .inr (1, [.ref a_h4w, .ref a_h4k])), (a_h5, .inr (1, [.ref a_h5w, .ref a_h5k])), (a_u, .inr (6, [.ref a_g, .ref a_r, .int u_det])), (a_h, .inr (2, [.ref a_hp, .int h_old, .int h_siz])), (a_x, .inr (7, [.ref a_g, .ref a_b, .ref a_v, .ref a_h, .ref a_r, .ref a_f, .ref a_u, .ref a_t, .ref a_n, .int x_sav, .int x_err, .int x_rea, .int x_det, .int x_com])), (a_gw, .inl (T 0, 90, .inl v_gw)), (a_gk, .inl (T 0, 18, .inl v_gk)), (a_h0w, .inl (T 0, 90, .inl v_h0w)), (a_h0k, .inl (T 0, 18, .inl v_h0k)), (a_h1w, .inl (T 0, 90, .inl v_h1w)), (a_h1k, .inl (T 0, 18, .inl v_h1k)), (a_h2w, .inl (T 0, 90, .inl v_h2w)), (a_h2k, .inl (T 0, 18, .inl v_h2k)), (a_h3w, .inl (T 0, 90, .inl v_h3w)), (a_h3k, .inl (T 0, 18, .inl v_h3k)), (a_h4w, .inl (T 0, 90, .inl v_h4w)), (a_h4k, .inl (T 0, 18, .inl v_h4k)), (a_h5w, .inl (T 0, 90, .inl v_h5w)), (a_h5k, .inl (T 0, 18, .inl v_h5k)), (a_hp, .inl (T 3, 6, .inr (.inr (.inr (.inr (hpF a_h0 a_h1 a_h2 a_h3 a_h4 a_h5))))))] [(a_g, .inr (1, [.ref a_gw, .ref a_gk])), (a_h0, .inr (1, [.ref a_h0w, .ref a_h0k])), (a_h1, .inr (1, [.ref a_h1w, .ref a_h1k])), (a_h2, .inr (1, [.ref a_h2w, .ref a_h2k])), (a_h3, .inr (1, [.ref a_h3w, .ref a_h3k])), (a_h4, .inr (1, [.ref a_h4w, .ref a_h4k])), (a_h5, .inr (1, [.ref a_h5w, .ref a_h5k])), (a_u, .inr (6, [.ref a_g, .ref a_r, .int r.2.2.1])), (a_h, .inr (2, [.ref a_hp, .int r.2.2.2.1, .int r.2.2.2.2.1])), (a_x, .inr (7, [.ref a_g, .ref a_b, .ref a_v, .ref a_h, .ref a_r, .ref a_f, .ref a_u, .ref a_t, .ref a_n, .int x_sav, .int x_err, .int r.2.2.2.2.2.1, .int r.2.2.2.2.2.2.1, .int r.2.2.2.2.2.2.2.1])), (a_gw, .inl (T 0, 90, .inl r.2.2.2.2.2.2.2.2.1)), (a_gk, .inl (T 0, 18, .inl r.2.2.2.2.2.2.2.2.2.1)), (a_h0w, .inl (T 0, 90, .inl r.2.2.2.2.2.2.2.2.2.2.1)), (a_h0k, .inl (T 0, 18, .inl r.2.2.2.2.2.2.2.2.2.2.2.1)), (a_h1w, .inl (T 0, 90, .inl r.2.2.2.2.2.2.2.2.2.2.2.2.1)), (a_h1k, .inl (T 0, 18, .inl r.2.2.2.2.2.2.2.2.2.2.2.2.2.1)), (a_h2w, .inl (T 0, 90, .inl r.2.2.2.2.2.2.2.2.2.2.2.2.2.2.1)), (a_h2k, .inl (T 0, 18, .inl r.2.2.2.2.2.2.2.2.2.2.2.2.2.2.2.1)), (a_h3w, .inl (T 0, 90, .inl r.2.2.2.2.2.2.2.2.2.2.2.2.2.2.2.2.1)), (a_h3k, .inl (T 0, 18, .inl r.2.2.2.2.2.2.2.2.2.2.2.2.2.2.2.2.2.1)), (a_h4w, .inl (T 0, 90, .inl r.2.2.2.2.2.2.2.2.2.2.2.2.2.2.2.2.2.2.1)), (a_h4k, .inl (T 0, 18, .inl r.2.2.2.2.2.2.2.2.2.2.2.2.2.2.2.2.2.2.2.1)), (a_h5w, .inl (T 0, 90, .inl r.2.2.2.2.2.2.2.2.2.2.2.2.2.2.2.2.2.2.2.2.1)), (a_h5k, .inl (T 0, 18, .inl r.2.2.2.2.2.2.2.2.2.2.2.2.2.2.2.2.2.2.2.2.2)), (a_hp, .inl (T 3, 6, .inr (.inr (.inr (.inr (hpF a_h0 a_h1 a_h2 a_h3 a_h4 a_h5))))))] [.ref a_x, .int p0, .int p1, .int p2] r.1 r.2.1 := by
  unfold fX7_whale at h
  refine thMetI hnt (by decide +kernel) rfl (fun p e s m args below meth c Q A C hE hA hZ hP hD hS hret ls hl => ?_)
  have hx := C.1
  have hb := C.2.1
  have hl : lv_has ls 5 [(0, .ref a_x), (1, .int p0), (2, .int p1), (3, .int p2)] := hl
  refine lv_aload_n hx hb dX7_whale_0 rfl (lv_at hl 0 rfl) ?_
  refine getF (q0 := 9) (k0 := 6) (v := .ref a_u) C hE hP inA7 rfl rfl (by decide) qFX7_50 rfl rfl dX7_whale_1 ?_
  refine lv_iload_n hx hb dX7_whale_4 rfl (lv_at hl 1 rfl) ?_
  refine lv_iload_n hx hb dX7_whale_5 rfl (lv_at hl 2 rfl) ?_
  refine lv_iload_n hx hb dX7_whale_6 rfl (lv_at hl 3 rfl) ?_
  obtain ⟨q1, e2, h⟩ := bnd h
  refine wrVi (ws1 := [(a_g, .inr (1, [.ref a_gw, .ref a_gk])), (a_h0, .inr (1, [.ref a_h0w, .ref a_h0k])), (a_h1, .inr (1, [.ref a_h1w, .ref a_h1k])), (a_h2, .inr (1, [.ref a_h2w, .ref a_h2k])), (a_h3, .inr (1, [.ref a_h3w, .ref a_h3k])), (a_h4, .inr (1, [.ref a_h4w, .ref a_h4k])), (a_h5, .inr (1, [.ref a_h5w, .ref a_h5k])), (a_u, .inr (6, [.ref a_g, .ref a_r, .int q1.2])), (a_h, .inr (2, [.ref a_hp, .int h_old, .int h_siz])), (a_x, .inr (7, [.ref a_g, .ref a_b, .ref a_v, .ref a_h, .ref a_r, .ref a_f, .ref a_u, .ref a_t, .ref a_n, .int x_sav, .int x_err, .int x_rea, .int x_det, .int x_com])), (a_gw, .inl (T 0, 90, .inl v_gw)), (a_gk, .inl (T 0, 18, .inl v_gk)), (a_h0w, .inl (T 0, 90, .inl v_h0w)), (a_h0k, .inl (T 0, 18, .inl v_h0k)), (a_h1w, .inl (T 0, 90, .inl v_h1w)), (a_h1k, .inl (T 0, 18, .inl v_h1k)), (a_h2w, .inl (T 0, 90, .inl v_h2w)), (a_h2k, .inl (T 0, 18, .inl v_h2k)), (a_h3w, .inl (T 0, 90, .inl v_h3w)), (a_h3k, .inl (T 0, 18, .inl v_h3k)), (a_h4w, .inl (T 0, 90, .inl v_h4w)), (a_h4k, .inl (T 0, 18, .inl v_h4k)), (a_h5w, .inl (T 0, 90, .inl v_h5w)), (a_h5k, .inl (T 0, 18, .inl v_h5k)), (a_hp, .inl (T 3, 6, .inr (.inr (.inr (.inr (hpF a_h0 a_h1 a_h2 a_h3 a_h4 a_h5))))))]) C hE hP hD hS hA (kX6_comeFault l D T a_g a_gw a_gk a_u a_r u_det v_gw v_gk p0 p1 p2 _ q1 e2) mX6_comeFault qLX7_85 [0, 7, 10, 11] [1, 2, 3, 4, 5, 6, 8, 9, 12, 13, 14, 15, 16, 17, 18, 19, 20, 21, 22, 23, 24] 7 rfl rfl rfl rfl rfl rfl rfl rfl rfl ⟨rfl, rfl⟩ ⟨Nat.le_of_ble_eq_true rfl, Nat.le_of_ble_eq_true rfl⟩ rfl hl.1 rfl (Nat.le_of_ble_eq_true rfl) dX7_whale_7 ⟨Nat.le_of_ble_eq_true rfl, Nat.le_of_ble_eq_true rfl⟩ (fun H locs hP hD hS => ?_)
  refine lv_istore (lv' := [(4, .int q1.1), (0, .ref a_x), (1, .int p0), (2, .int p1), (3, .int p2)]) hx hb dX7_whale_10 hl (by decide) rfl (fun ls hl => ?_)
  refine lv_aload_n hx hb dX7_whale_12 rfl (lv_at hl 1 rfl) ?_
  refine lv_iload hx hb dX7_whale_13 (lv_at hl 0 rfl) ?_
  obtain ⟨q3, e4, h⟩ := bnd h
  refine thVv (ws1 := [(a_g, .inr (1, [.ref a_gw, .ref a_gk])), (a_h0, .inr (1, [.ref a_h0w, .ref a_h0k])), (a_h1, .inr (1, [.ref a_h1w, .ref a_h1k])), (a_h2, .inr (1, [.ref a_h2w, .ref a_h2k])), (a_h3, .inr (1, [.ref a_h3w, .ref a_h3k])), (a_h4, .inr (1, [.ref a_h4w, .ref a_h4k])), (a_h5, .inr (1, [.ref a_h5w, .ref a_h5k])), (a_u, .inr (6, [.ref a_g, .ref a_r, .int q1.2])), (a_h, .inr (2, [.ref a_hp, .int h_old, .int h_siz])), (a_x, .inr (7, [.ref a_g, .ref a_b, .ref a_v, .ref a_h, .ref a_r, .ref a_f, .ref a_u, .ref a_t, .ref a_n, .int x_sav, .int x_err, .int x_rea, .int x_det, .int x_com])), (a_gw, .inl (T 0, 90, .inl v_gw)), (a_gk, .inl (T 0, 18, .inl v_gk)), (a_h0w, .inl (T 0, 90, .inl v_h0w)), (a_h0k, .inl (T 0, 18, .inl v_h0k)), (a_h1w, .inl (T 0, 90, .inl v_h1w)), (a_h1k, .inl (T 0, 18, .inl v_h1k)), (a_h2w, .inl (T 0, 90, .inl v_h2w)), (a_h2k, .inl (T 0, 18, .inl v_h2k)), (a_h3w, .inl (T 0, 90, .inl v_h3w)), (a_h3k, .inl (T 0, 18, .inl v_h3k)), (a_h4w, .inl (T 0, 90, .inl v_h4w)), (a_h4k, .inl (T 0, 18, .inl v_h4k)), (a_h5w, .inl (T 0, 90, .inl v_h5w)), (a_h5k, .inl (T 0, 18, .inl v_h5k)), (a_hp, .inl (T 3, 6, .inr (.inr (.inr (.inr (hpF a_h0 a_h1 a_h2 a_h3 a_h4 a_h5))))))]) C hE hZ hP hD hS hA (kX7_demandRange l hZ.1 D T a_x q1.1 _ q3 e4) mX7_demandRange qLX7_89 [] [0, 1, 2, 3, 4, 5, 6, 7, 8, 9, 10, 11, 12, 13, 14, 15, 16, 17, 18, 19, 20, 21, 22, 23, 24] 9 rfl rfl rfl rfl rfl rfl rfl rfl rfl ⟨Nat.le_of_ble_eq_true rfl, Nat.le_of_ble_eq_true rfl⟩ rfl hl.1 rfl (Nat.le_of_ble_eq_true rfl) dX7_whale_15 ⟨Nat.le_of_ble_eq_true rfl, Nat.le_of_ble_eq_true rfl⟩ (fun hx0 H locs ce q9 hP hD hS g1 g2 g3 => ?_) (fun hx0 H locs hP hD hS => ?_)
  · have h := ite_f (Nat.ne_of_gt hx0) h
    have h := Option.some.inj h
    exact hret.2.1 _ _ _ _ _ _ _ _ _ (Nat.le_of_ble_eq_true rfl) (Nat.le_of_ble_eq_true rfl) (by rw [← h]; exact hx0) (by rw [← h]; exact hP) hS g1 g2 (by rw [← h]; exact g3)
  · have h := ite_t hx0 h
    refine lv_aload_n hx hb dX7_whale_18 rfl (lv_at hl 1 rfl) ?_
    refine lv_iload hx hb dX7_whale_19 (lv_at hl 0 rfl) ?_
    obtain ⟨q5, e6, h⟩ := bnd h
    refine thVv (ws1 := [(a_g, .inr (1, [.ref a_gw, .ref a_gk])), (a_h0, .inr (1, [.ref a_h0w, .ref a_h0k])), (a_h1, .inr (1, [.ref a_h1w, .ref a_h1k])), (a_h2, .inr (1, [.ref a_h2w, .ref a_h2k])), (a_h3, .inr (1, [.ref a_h3w, .ref a_h3k])), (a_h4, .inr (1, [.ref a_h4w, .ref a_h4k])), (a_h5, .inr (1, [.ref a_h5w, .ref a_h5k])), (a_u, .inr (6, [.ref a_g, .ref a_r, .int q1.2])), (a_h, .inr (2, [.ref a_hp, .int h_old, .int h_siz])), (a_x, .inr (7, [.ref a_g, .ref a_b, .ref a_v, .ref a_h, .ref a_r, .ref a_f, .ref a_u, .ref a_t, .ref a_n, .int x_sav, .int x_err, .int q5.2.1, .int q5.2.2.1, .int q5.2.2.2])), (a_gw, .inl (T 0, 90, .inl v_gw)), (a_gk, .inl (T 0, 18, .inl v_gk)), (a_h0w, .inl (T 0, 90, .inl v_h0w)), (a_h0k, .inl (T 0, 18, .inl v_h0k)), (a_h1w, .inl (T 0, 90, .inl v_h1w)), (a_h1k, .inl (T 0, 18, .inl v_h1k)), (a_h2w, .inl (T 0, 90, .inl v_h2w)), (a_h2k, .inl (T 0, 18, .inl v_h2k)), (a_h3w, .inl (T 0, 90, .inl v_h3w)), (a_h3k, .inl (T 0, 18, .inl v_h3k)), (a_h4w, .inl (T 0, 90, .inl v_h4w)), (a_h4k, .inl (T 0, 18, .inl v_h4k)), (a_h5w, .inl (T 0, 90, .inl v_h5w)), (a_h5k, .inl (T 0, 18, .inl v_h5k)), (a_hp, .inl (T 3, 6, .inr (.inr (.inr (.inr (hpF a_h0 a_h1 a_h2 a_h3 a_h4 a_h5))))))]) C hE hZ hP hD hS hA (kX7_demandAllowed l hZ.1 D T a_u a_g a_r a_x a_b a_v a_h a_f a_t a_n q1.2 x_sav x_err x_rea x_det x_com q1.1 _ q5 e6) mX7_demandAllowed qLX7_93 [7, 9] [0, 1, 2, 3, 4, 5, 6, 8, 10, 11, 12, 13, 14, 15, 16, 17, 18, 19, 20, 21, 22, 23, 24] 9 rfl rfl rfl rfl rfl rfl rfl rfl rfl ⟨Nat.le_of_ble_eq_true rfl, Nat.le_of_ble_eq_true rfl⟩ rfl hl.1 rfl (Nat.le_of_ble_eq_true rfl) dX7_whale_21 ⟨Nat.le_of_ble_eq_true rfl, Nat.le_of_ble_eq_true rfl⟩ (fun hx0 H locs ce q9 hP hD hS g1 g2 g3 => ?_) (fun hx0 H locs hP hD hS => ?_)
    · have h := ite_f (Nat.ne_of_gt hx0) h
      have h := Option.some.inj h
      exact hret.2.1 _ _ _ _ _ _ _ _ _ (Nat.le_of_ble_eq_true rfl) (Nat.le_of_ble_eq_true rfl) (by rw [← h]; exact hx0) (by rw [← h]; exact hP) hS g1 g2 (by rw [← h]; exact g3)
    · have h := ite_t hx0 h
      refine lv_aload_n hx hb dX7_whale_24 rfl (lv_at hl 1 rfl) ?_
      refine getF (q0 := 9) (k0 := 3) (v := .ref a_h) C hE hP inA7 rfl rfl (by decide) qFX7_25 rfl rfl dX7_whale_25 ?_
      refine lv_aload_n hx hb dX7_whale_28 rfl (lv_at hl 1 rfl) ?_
      refine getF (q0 := 9) (k0 := 0) (v := .ref a_g) C hE hP inA7 rfl rfl (by decide) qFX7_10 rfl rfl dX7_whale_29 ?_
      obtain ⟨q7, e8, h⟩ := bnd h
      refine wrVv (ws1 := [(a_g, .inr (1, [.ref a_gw, .ref a_gk])), (a_h0, .inr (1, [.ref a_h0w, .ref a_h0k])), (a_h1, .inr (1, [.ref a_h1w, .ref a_h1k])), (a_h2, .inr (1, [.ref a_h2w, .ref a_h2k])), (a_h3, .inr (1, [.ref a_h3w, .ref a_h3k])), (a_h4, .inr (1, [.ref a_h4w, .ref a_h4k])), (a_h5, .inr (1, [.ref a_h5w, .ref a_h5k])), (a_u, .inr (6, [.ref a_g, .ref a_r, .int q1.2])), (a_h, .inr (2, [.ref a_hp, .int q7.1, .int q7.2.1])), (a_x, .inr (7, [.ref a_g, .ref a_b, .ref a_v, .ref a_h, .ref a_r, .ref a_f, .ref a_u, .ref a_t, .ref a_n, .int x_sav, .int x_err, .int q5.2.1, .int q5.2.2.1, .int q5.2.2.2])), (a_gw, .inl (T 0, 90, .inl v_gw)), (a_gk, .inl (T 0, 18, .inl v_gk)), (a_h0w, .inl (T 0, 90, .inl q7.2.2.1)), (a_h0k, .inl (T 0, 18, .inl q7.2.2.2.1)), (a_h1w, .inl (T 0, 90, .inl q7.2.2.2.2.1)), (a_h1k, .inl (T 0, 18, .inl q7.2.2.2.2.2.1)), (a_h2w, .inl (T 0, 90, .inl q7.2.2.2.2.2.2.1)), (a_h2k, .inl (T 0, 18, .inl q7.2.2.2.2.2.2.2.1)), (a_h3w, .inl (T 0, 90, .inl q7.2.2.2.2.2.2.2.2.1)), (a_h3k, .inl (T 0, 18, .inl q7.2.2.2.2.2.2.2.2.2.1)), (a_h4w, .inl (T 0, 90, .inl q7.2.2.2.2.2.2.2.2.2.2.1)), (a_h4k, .inl (T 0, 18, .inl q7.2.2.2.2.2.2.2.2.2.2.2.1)), (a_h5w, .inl (T 0, 90, .inl q7.2.2.2.2.2.2.2.2.2.2.2.2.1)), (a_h5k, .inl (T 0, 18, .inl q7.2.2.2.2.2.2.2.2.2.2.2.2.2)), (a_hp, .inl (T 3, 6, .inr (.inr (.inr (.inr (hpF a_h0 a_h1 a_h2 a_h3 a_h4 a_h5))))))]) C hE hP hD hS hA (kX2_remember l D T a_g a_gw a_gk a_h0 a_h0w a_h0k a_h1 a_h1w a_h1k a_h2 a_h2w a_h2k a_h3 a_h3w a_h3k a_h4 a_h4w a_h4k a_h5 a_h5w a_h5k a_h a_hp h_old h_siz v_gw v_gk v_h0w v_h0k v_h1w v_h1k v_h2w v_h2k v_h3w v_h3k v_h4w v_h4k v_h5w v_h5k _ q7 e8) mX2_remember qLX7_96 [0, 1, 2, 3, 4, 5, 6, 8, 10, 11, 12, 13, 14, 15, 16, 17, 18, 19, 20, 21, 22, 23, 24] [7, 9] 8 rfl rfl rfl rfl rfl rfl rfl rfl rfl ⟨rfl, rfl⟩ ⟨Nat.le_of_ble_eq_true rfl, Nat.le_of_ble_eq_true rfl⟩ rfl hl.1 rfl (Nat.le_of_ble_eq_true rfl) dX7_whale_32 ⟨Nat.le_of_ble_eq_true rfl, Nat.le_of_ble_eq_true rfl⟩ (fun H locs hP hD hS => ?_)
      refine lv_aload_n hx hb dX7_whale_35 rfl (lv_at hl 1 rfl) ?_
      refine getF (q0 := 9) (k0 := 0) (v := .ref a_g) C hE hP inA7 rfl rfl (by decide) qFX7_10 rfl rfl dX7_whale_36 ?_
      refine lv_iload_n hx hb dX7_whale_39 rfl (lv_at hl 2 rfl) ?_
      refine lv_iload_n hx hb dX7_whale_40 rfl (lv_at hl 3 rfl) ?_
      refine lv_iload_n hx hb dX7_whale_41 rfl (lv_at hl 4 rfl) ?_
      obtain ⟨q9, e10, h⟩ := bnd h
      refine wrVi (ws1 := [(a_g, .inr (1, [.ref a_gw, .ref a_gk])), (a_h0, .inr (1, [.ref a_h0w, .ref a_h0k])), (a_h1, .inr (1, [.ref a_h1w, .ref a_h1k])), (a_h2, .inr (1, [.ref a_h2w, .ref a_h2k])), (a_h3, .inr (1, [.ref a_h3w, .ref a_h3k])), (a_h4, .inr (1, [.ref a_h4w, .ref a_h4k])), (a_h5, .inr (1, [.ref a_h5w, .ref a_h5k])), (a_u, .inr (6, [.ref a_g, .ref a_r, .int q1.2])), (a_h, .inr (2, [.ref a_hp, .int q7.1, .int q7.2.1])), (a_x, .inr (7, [.ref a_g, .ref a_b, .ref a_v, .ref a_h, .ref a_r, .ref a_f, .ref a_u, .ref a_t, .ref a_n, .int x_sav, .int x_err, .int q5.2.1, .int q5.2.2.1, .int q5.2.2.2])), (a_gw, .inl (T 0, 90, .inl q9.2.1)), (a_gk, .inl (T 0, 18, .inl q9.2.2)), (a_h0w, .inl (T 0, 90, .inl q7.2.2.1)), (a_h0k, .inl (T 0, 18, .inl q7.2.2.2.1)), (a_h1w, .inl (T 0, 90, .inl q7.2.2.2.2.1)), (a_h1k, .inl (T 0, 18, .inl q7.2.2.2.2.2.1)), (a_h2w, .inl (T 0, 90, .inl q7.2.2.2.2.2.2.1)), (a_h2k, .inl (T 0, 18, .inl q7.2.2.2.2.2.2.2.1)), (a_h3w, .inl (T 0, 90, .inl q7.2.2.2.2.2.2.2.2.1)), (a_h3k, .inl (T 0, 18, .inl q7.2.2.2.2.2.2.2.2.2.1)), (a_h4w, .inl (T 0, 90, .inl q7.2.2.2.2.2.2.2.2.2.2.1)), (a_h4k, .inl (T 0, 18, .inl q7.2.2.2.2.2.2.2.2.2.2.2.1)), (a_h5w, .inl (T 0, 90, .inl q7.2.2.2.2.2.2.2.2.2.2.2.2.1)), (a_h5k, .inl (T 0, 18, .inl q7.2.2.2.2.2.2.2.2.2.2.2.2.2)), (a_hp, .inl (T 3, 6, .inr (.inr (.inr (.inr (hpF a_h0 a_h1 a_h2 a_h3 a_h4 a_h5))))))]) C hE hP hD hS hA (kX1_addWhale l D T a_g a_gw a_gk v_gw v_gk p0 p1 p2 _ q9 e10) mX1_addWhale qLX7_99 [0, 10, 11] [1, 2, 3, 4, 5, 6, 7, 8, 9, 12, 13, 14, 15, 16, 17, 18, 19, 20, 21, 22, 23, 24] 0 rfl rfl rfl rfl rfl rfl rfl rfl rfl ⟨rfl, rfl⟩ ⟨Nat.le_of_ble_eq_true rfl, Nat.le_of_ble_eq_true rfl⟩ rfl hl.1 rfl (Nat.le_of_ble_eq_true rfl) dX7_whale_42 ⟨Nat.le_of_ble_eq_true rfl, Nat.le_of_ble_eq_true rfl⟩ (fun H locs hP hD hS => ?_)
      have h := Option.some.inj h
      exact hret.1 _ _ _ _ _ _ _ _ (Nat.le_of_ble_eq_true rfl) (Nat.le_of_ble_eq_true rfl) dX7_whale_45 rfl (by rw [← h]) (by rw [← h] <;> rfl) (by rw [← h]; exact hP) hS

def fX7_swap (u_det : Int32) (h_old : Int32) (h_siz : Int32) (x_rea : Int32) (x_det : Int32) (x_com : Int32) (v_gw : Nat → Int32) (v_gk : Nat → Int32) (v_h0w : Nat → Int32) (v_h0k : Nat → Int32) (v_h1w : Nat → Int32) (v_h1k : Nat → Int32) (v_h2w : Nat → Int32) (v_h2k : Nat → Int32) (v_h3w : Nat → Int32) (v_h3k : Nat → Int32) (v_h4w : Nat → Int32) (v_h4k : Nat → Int32) (v_h5w : Nat → Int32) (v_h5k : Nat → Int32) (p0 : Int32) (p1 : Int32) : Option (Nat × Int32 × Int32 × Int32 × Int32 × Int32 × Int32 × Int32 × (Nat → Int32) × (Nat → Int32) × (Nat → Int32) × (Nat → Int32) × (Nat → Int32) × (Nat → Int32) × (Nat → Int32) × (Nat → Int32) × (Nat → Int32) × (Nat → Int32) × (Nat → Int32) × (Nat → Int32) × (Nat → Int32) × (Nat → Int32)) :=
  (fX6_substituteFault u_det v_gw v_gk p0 p1).bind fun q1 =>
  (fX7_demandThere q1.1).bind fun q3 =>
  if q3 = 0 then
    (fX7_demandAllowed q1.2 x_rea x_det x_com q1.1).bind fun q5 =>
    if q5.1 = 0 then
      (fX2_remember h_old h_siz v_gw v_gk v_h0w v_h0k v_h1w v_h1k v_h2w v_h2k v_h3w v_h3k v_h4w v_h4k v_h5w v_h5k).bind fun q7 =>
      (fX1_substitute v_gw v_gk p0 p1).bind fun q9 =>
      some (0, q9.1, q1.2, q7.1, q7.2.1, q5.2.1, q5.2.2.1, q5.2.2.2, q9.2.1, q9.2.2, q7.2.2.1, q7.2.2.2.1, q7.2.2.2.2.1, q7.2.2.2.2.2.1, q7.2.2.2.2.2.2.1, q7.2.2.2.2.2.2.2.1, q7.2.2.2.2.2.2.2.2.1, q7.2.2.2.2.2.2.2.2.2.1, q7.2.2.2.2.2.2.2.2.2.2.1, q7.2.2.2.2.2.2.2.2.2.2.2.1, q7.2.2.2.2.2.2.2.2.2.2.2.2.1, q7.2.2.2.2.2.2.2.2.2.2.2.2.2)
    else
      some (q5.1, 0, q1.2, h_old, h_siz, q5.2.1, q5.2.2.1, q5.2.2.2, v_gw, v_gk, v_h0w, v_h0k, v_h1w, v_h1k, v_h2w, v_h2k, v_h3w, v_h3k, v_h4w, v_h4k, v_h5w, v_h5k)
  else
    some (q3, 0, q1.2, h_old, h_siz, x_rea, x_det, x_com, v_gw, v_gk, v_h0w, v_h0k, v_h1w, v_h1k, v_h2w, v_h2k, v_h3w, v_h3k, v_h4w, v_h4k, v_h5w, v_h5k)
set_option maxHeartbeats 4000000 in
set_option maxRecDepth 100000 in
theorem kX7_swap (l : Launch) (hnt : l.stackTraces = false) (D : va_G) (T : Nat → ClassId) (a_g a_gw a_gk a_h0 a_h0w a_h0k a_h1 a_h1w a_h1k a_h2 a_h2w a_h2k a_h3 a_h3w a_h3k a_h4 a_h4w a_h4k a_h5 a_h5w a_h5k a_u a_r a_h a_hp a_x a_b a_v a_f a_t a_n : Nat) (u_det : Int32) (h_old : Int32) (h_siz : Int32) (x_sav : Int32) (x_err : Int32) (x_rea : Int32) (x_det : Int32) (x_com : Int32) (v_gw : Nat → Int32) (v_gk : Nat → Int32) (v_h0w : Nat → Int32) (v_h0k : Nat → Int32) (v_h1w : Nat → Int32) (v_h1k : Nat → Int32) (v_h2w : Nat → Int32) (v_h2k : Nat → Int32) (v_h3w : Nat → Int32) (v_h3k : Nat → Int32) (v_h4w : Nat → Int32) (v_h4k : Nat → Int32) (v_h5w : Nat → Int32) (v_h5k : Nat → Int32) (p0 : Int32) (p1 : Int32) (sz : Nat) (r : Nat × Int32 × Int32 × Int32 × Int32 × Int32 × Int32 × Int32 × (Nat → Int32) × (Nat → Int32) × (Nat → Int32) × (Nat → Int32) × (Nat → Int32) × (Nat → Int32) × (Nat → Int32) × (Nat → Int32) × (Nat → Int32) × (Nat → Int32) × (Nat → Int32) × (Nat → Int32) × (Nat → Int32) × (Nat → Int32)) (h : fX7_swap u_det h_old h_siz x_rea x_det x_com v_gw v_gk v_h0w v_h0k v_h1w v_h1k v_h2w v_h2k v_h3w v_h3k v_h4w v_h4k v_h5w v_h5k p0 p1 = some r) : ThI l yX7_swap cX7_swap 4 .int ({ frames := 7, cells := 2, slots := 12, locals := 143 } : Room) D T sz [(a_g, .inr (1, [.ref a_gw, .ref a_gk])), (a_h0, .inr (1, [.ref a_h0w, .ref a_h0k])), (a_h1, .inr (1, [.ref a_h1w, .ref a_h1k])), (a_h2, .inr (1, [.ref a_h2w, .ref a_h2k])), (a_h3, .inr (1, [.ref a_h3w, .ref a_h3k])), (a_h4, .inr (1, [.ref a_h4w, .ref a_h4k])), (a_h5, .inr (1, [.ref a_h5w, .ref a_h5k])), (a_u, .inr (6, [.ref a_g, .ref a_r, .int u_det])), (a_h, .inr (2, [.ref a_hp, .int h_old, .int h_siz])), (a_x, .inr (7, [.ref a_g, .ref a_b, .ref a_v, .ref a_h, .ref a_r, .ref a_f, .ref a_u, .ref a_t, .ref a_n, .int x_sav, .int x_err, .int x_rea, .int x_det, .int x_com])), (a_gw, .inl (T 0, 90, .inl v_gw)), (a_gk, .inl (T 0, 18, .inl v_gk)), (a_h0w, .inl (T 0, 90, .inl v_h0w)), (a_h0k, .inl (T 0, 18, .inl v_h0k)), (a_h1w, .inl (T 0, 90, .inl v_h1w)), (a_h1k, .inl (T 0, 18, .inl v_h1k)), (a_h2w, .inl (T 0, 90, .inl v_h2w)), (a_h2k, .inl (T 0, 18, .inl v_h2k)), (a_h3w, .inl (T 0, 90, .inl v_h3w)), (a_h3k, .inl (T 0, 18, .inl v_h3k)), (a_h4w, .inl (T 0, 90, .inl v_h4w)), (a_h4k, .inl (T 0, 18, .inl v_h4k)), (a_h5w, .inl (T 0, 90, .inl v_h5w)), (a_h5k, .inl (T 0, 18, .inl v_h5k)), (a_hp, .inl (T 3, 6, .inr (.inr (.inr (.inr (hpF a_h0 a_h1 a_h2 a_h3 a_h4 a_h5))))))] [(a_g, .inr (1, [.ref a_gw, .ref a_gk])), (a_h0, .inr (1, [.ref a_h0w, .ref a_h0k])), (a_h1, .inr (1, [.ref a_h1w, .ref a_h1k])), (a_h2, .inr (1, [.ref a_h2w, .ref a_h2k])), (a_h3, .inr (1, [.ref a_h3w, .ref a_h3k])), (a_h4, .inr (1, [.ref a_h4w, .ref a_h4k])), (a_h5, .inr (1, [.ref a_h5w, .ref a_h5k])), (a_u, .inr (6, [.ref a_g, .ref a_r, .int r.2.2.1])), (a_h, .inr (2, [.ref a_hp, .int r.2.2.2.1, .int r.2.2.2.2.1])), (a_x, .inr (7, [.ref a_g, .ref a_b, .ref a_v, .ref a_h, .ref a_r, .ref a_f, .ref a_u, .ref a_t, .ref a_n, .int x_sav, .int x_err, .int r.2.2.2.2.2.1, .int r.2.2.2.2.2.2.1, .int r.2.2.2.2.2.2.2.1])), (a_gw, .inl (T 0, 90, .inl r.2.2.2.2.2.2.2.2.1)), (a_gk, .inl (T 0, 18, .inl r.2.2.2.2.2.2.2.2.2.1)), (a_h0w, .inl (T 0, 90, .inl r.2.2.2.2.2.2.2.2.2.2.1)), (a_h0k, .inl (T 0, 18, .inl r.2.2.2.2.2.2.2.2.2.2.2.1)), (a_h1w, .inl (T 0, 90, .inl r.2.2.2.2.2.2.2.2.2.2.2.2.1)), (a_h1k, .inl (T 0, 18, .inl r.2.2.2.2.2.2.2.2.2.2.2.2.2.1)), (a_h2w, .inl (T 0, 90, .inl r.2.2.2.2.2.2.2.2.2.2.2.2.2.2.1)), (a_h2k, .inl (T 0, 18, .inl r.2.2.2.2.2.2.2.2.2.2.2.2.2.2.2.1)), (a_h3w, .inl (T 0, 90, .inl r.2.2.2.2.2.2.2.2.2.2.2.2.2.2.2.2.1)), (a_h3k, .inl (T 0, 18, .inl r.2.2.2.2.2.2.2.2.2.2.2.2.2.2.2.2.2.1)), (a_h4w, .inl (T 0, 90, .inl r.2.2.2.2.2.2.2.2.2.2.2.2.2.2.2.2.2.2.1)), (a_h4k, .inl (T 0, 18, .inl r.2.2.2.2.2.2.2.2.2.2.2.2.2.2.2.2.2.2.2.1)), (a_h5w, .inl (T 0, 90, .inl r.2.2.2.2.2.2.2.2.2.2.2.2.2.2.2.2.2.2.2.2.1)), (a_h5k, .inl (T 0, 18, .inl r.2.2.2.2.2.2.2.2.2.2.2.2.2.2.2.2.2.2.2.2.2)), (a_hp, .inl (T 3, 6, .inr (.inr (.inr (.inr (hpF a_h0 a_h1 a_h2 a_h3 a_h4 a_h5))))))] [.ref a_x, .int p0, .int p1] r.1 r.2.1 := by
  unfold fX7_swap at h
  refine thMetI hnt (by decide +kernel) rfl (fun p e s m args below meth c Q A C hE hA hZ hP hD hS hret ls hl => ?_)
  have hx := C.1
  have hb := C.2.1
  have hl : lv_has ls 4 [(0, .ref a_x), (1, .int p0), (2, .int p1)] := hl
  refine lv_aload_n hx hb dX7_swap_0 rfl (lv_at hl 0 rfl) ?_
  refine getF (q0 := 9) (k0 := 6) (v := .ref a_u) C hE hP inA7 rfl rfl (by decide) qFX7_50 rfl rfl dX7_swap_1 ?_
  refine lv_iload_n hx hb dX7_swap_4 rfl (lv_at hl 1 rfl) ?_
  refine lv_iload_n hx hb dX7_swap_5 rfl (lv_at hl 2 rfl) ?_
  obtain ⟨q1, e2, h⟩ := bnd h
  refine wrVi (ws1 := [(a_g, .inr (1, [.ref a_gw, .ref a_gk])), (a_h0, .inr (1, [.ref a_h0w, .ref a_h0k])), (a_h1, .inr (1, [.ref a_h1w, .ref a_h1k])), (a_h2, .inr (1, [.ref a_h2w, .ref a_h2k])), (a_h3, .inr (1, [.ref a_h3w, .ref a_h3k])), (a_h4, .inr (1, [.ref a_h4w, .ref a_h4k])), (a_h5, .inr (1, [.ref a_h5w, .ref a_h5k])), (a_u, .inr (6, [.ref a_g, .ref a_r, .int q1.2])), (a_h, .inr (2, [.ref a_hp, .int h_old, .int h_siz])), (a_x, .inr (7, [.ref a_g, .ref a_b, .ref a_v, .ref a_h, .ref a_r, .ref a_f, .ref a_u, .ref a_t, .ref a_n, .int x_sav, .int x_err, .int x_rea, .int x_det, .int x_com])), (a_gw, .inl (T 0, 90, .inl v_gw)), (a_gk, .inl (T 0, 18, .inl v_gk)), (a_h0w, .inl (T 0, 90, .inl v_h0w)), (a_h0k, .inl (T 0, 18, .inl v_h0k)), (a_h1w, .inl (T 0, 90, .inl v_h1w)), (a_h1k, .inl (T 0, 18, .inl v_h1k)), (a_h2w, .inl (T 0, 90, .inl v_h2w)), (a_h2k, .inl (T 0, 18, .inl v_h2k)), (a_h3w, .inl (T 0, 90, .inl v_h3w)), (a_h3k, .inl (T 0, 18, .inl v_h3k)), (a_h4w, .inl (T 0, 90, .inl v_h4w)), (a_h4k, .inl (T 0, 18, .inl v_h4k)), (a_h5w, .inl (T 0, 90, .inl v_h5w)), (a_h5k, .inl (T 0, 18, .inl v_h5k)), (a_hp, .inl (T 3, 6, .inr (.inr (.inr (.inr (hpF a_h0 a_h1 a_h2 a_h3 a_h4 a_h5))))))]) C hE hP hD hS hA (kX6_substituteFault l D T a_g a_gw a_gk a_u a_r u_det v_gw v_gk p0 p1 _ q1 e2) mX6_substituteFault qLX7_102 [0, 7, 10, 11] [1, 2, 3, 4, 5, 6, 8, 9, 12, 13, 14, 15, 16, 17, 18, 19, 20, 21, 22, 23, 24] 7 rfl rfl rfl rfl rfl rfl rfl rfl rfl ⟨rfl, rfl⟩ ⟨Nat.le_of_ble_eq_true rfl, Nat.le_of_ble_eq_true rfl⟩ rfl hl.1 rfl (Nat.le_of_ble_eq_true rfl) dX7_swap_6 ⟨Nat.le_of_ble_eq_true rfl, Nat.le_of_ble_eq_true rfl⟩ (fun H locs hP hD hS => ?_)
  refine lv_istore_n (lv' := [(3, .int q1.1), (0, .ref a_x), (1, .int p0), (2, .int p1)]) hx hb dX7_swap_9 rfl hl (by decide) rfl (fun ls hl => ?_)
  refine lv_aload_n hx hb dX7_swap_10 rfl (lv_at hl 1 rfl) ?_
  refine lv_iload_n hx hb dX7_swap_11 rfl (lv_at hl 0 rfl) ?_
  obtain ⟨q3, e4, h⟩ := bnd h
  refine thVv (ws1 := [(a_g, .inr (1, [.ref a_gw, .ref a_gk])), (a_h0, .inr (1, [.ref a_h0w, .ref a_h0k])), (a_h1, .inr (1, [.ref a_h1w, .ref a_h1k])), (a_h2, .inr (1, [.ref a_h2w, .ref a_h2k])), (a_h3, .inr (1, [.ref a_h3w, .ref a_h3k])), (a_h4, .inr (1, [.ref a_h4w, .ref a_h4k])), (a_h5, .inr (1, [.ref a_h5w, .ref a_h5k])), (a_u, .inr (6, [.ref a_g, .ref a_r, .int q1.2])), (a_h, .inr (2, [.ref a_hp, .int h_old, .int h_siz])), (a_x, .inr (7, [.ref a_g, .ref a_b, .ref a_v, .ref a_h, .ref a_r, .ref a_f, .ref a_u, .ref a_t, .ref a_n, .int x_sav, .int x_err, .int x_rea, .int x_det, .int x_com])), (a_gw, .inl (T 0, 90, .inl v_gw)), (a_gk, .inl (T 0, 18, .inl v_gk)), (a_h0w, .inl (T 0, 90, .inl v_h0w)), (a_h0k, .inl (T 0, 18, .inl v_h0k)), (a_h1w, .inl (T 0, 90, .inl v_h1w)), (a_h1k, .inl (T 0, 18, .inl v_h1k)), (a_h2w, .inl (T 0, 90, .inl v_h2w)), (a_h2k, .inl (T 0, 18, .inl v_h2k)), (a_h3w, .inl (T 0, 90, .inl v_h3w)), (a_h3k, .inl (T 0, 18, .inl v_h3k)), (a_h4w, .inl (T 0, 90, .inl v_h4w)), (a_h4k, .inl (T 0, 18, .inl v_h4k)), (a_h5w, .inl (T 0, 90, .inl v_h5w)), (a_h5k, .inl (T 0, 18, .inl v_h5k)), (a_hp, .inl (T 3, 6, .inr (.inr (.inr (.inr (hpF a_h0 a_h1 a_h2 a_h3 a_h4 a_h5))))))]) C hE hZ hP hD hS hA (kX7_demandThere l hZ.1 D T a_x q1.1 _ q3 e4) mX7_demandThere qLX7_106 [] [0, 1, 2, 3, 4, 5, 6, 7, 8, 9, 10, 11, 12, 13, 14, 15, 16, 17, 18, 19, 20, 21, 22, 23, 24] 9 rfl rfl rfl rfl rfl rfl rfl rfl rfl ⟨Nat.le_of_ble_eq_true rfl, Nat.le_of_ble_eq_true rfl⟩ rfl hl.1 rfl (Nat.le_of_ble_eq_true rfl) dX7_swap_12 ⟨Nat.le_of_ble_eq_true rfl, Nat.le_of_ble_eq_true rfl⟩ (fun hx0 H locs ce q9 hP hD hS g1 g2 g3 => ?_) (fun hx0 H locs hP hD hS => ?_)
  · have h := ite_f (Nat.ne_of_gt hx0) h
    have h := Option.some.inj h
    exact hret.2.1 _ _ _ _ _ _ _ _ _ (Nat.le_of_ble_eq_true rfl) (Nat.le_of_ble_eq_true rfl) (by rw [← h]; exact hx0) (by rw [← h]; exact hP) hS g1 g2 (by rw [← h]; exact g3)
  · have h := ite_t hx0 h
    refine lv_aload_n hx hb dX7_swap_15 rfl (lv_at hl 1 rfl) ?_
    refine lv_iload_n hx hb dX7_swap_16 rfl (lv_at hl 0 rfl) ?_
    obtain ⟨q5, e6, h⟩ := bnd h
    refine thVv (ws1 := [(a_g, .inr (1, [.ref a_gw, .ref a_gk])), (a_h0, .inr (1, [.ref a_h0w, .ref a_h0k])), (a_h1, .inr (1, [.ref a_h1w, .ref a_h1k])), (a_h2, .inr (1, [.ref a_h2w, .ref a_h2k])), (a_h3, .inr (1, [.ref a_h3w, .ref a_h3k])), (a_h4, .inr (1, [.ref a_h4w, .ref a_h4k])), (a_h5, .inr (1, [.ref a_h5w, .ref a_h5k])), (a_u, .inr (6, [.ref a_g, .ref a_r, .int q1.2])), (a_h, .inr (2, [.ref a_hp, .int h_old, .int h_siz])), (a_x, .inr (7, [.ref a_g, .ref a_b, .ref a_v, .ref a_h, .ref a_r, .ref a_f, .ref a_u, .ref a_t, .ref a_n, .int x_sav, .int x_err, .int q5.2.1, .int q5.2.2.1, .int q5.2.2.2])), (a_gw, .inl (T 0, 90, .inl v_gw)), (a_gk, .inl (T 0, 18, .inl v_gk)), (a_h0w, .inl (T 0, 90, .inl v_h0w)), (a_h0k, .inl (T 0, 18, .inl v_h0k)), (a_h1w, .inl (T 0, 90, .inl v_h1w)), (a_h1k, .inl (T 0, 18, .inl v_h1k)), (a_h2w, .inl (T 0, 90, .inl v_h2w)), (a_h2k, .inl (T 0, 18, .inl v_h2k)), (a_h3w, .inl (T 0, 90, .inl v_h3w)), (a_h3k, .inl (T 0, 18, .inl v_h3k)), (a_h4w, .inl (T 0, 90, .inl v_h4w)), (a_h4k, .inl (T 0, 18, .inl v_h4k)), (a_h5w, .inl (T 0, 90, .inl v_h5w)), (a_h5k, .inl (T 0, 18, .inl v_h5k)), (a_hp, .inl (T 3, 6, .inr (.inr (.inr (.inr (hpF a_h0 a_h1 a_h2 a_h3 a_h4 a_h5))))))]) C hE hZ hP hD hS hA (kX7_demandAllowed l hZ.1 D T a_u a_g a_r a_x a_b a_v a_h a_f a_t a_n q1.2 x_sav x_err x_rea x_det x_com q1.1 _ q5 e6) mX7_demandAllowed qLX7_93 [7, 9] [0, 1, 2, 3, 4, 5, 6, 8, 10, 11, 12, 13, 14, 15, 16, 17, 18, 19, 20, 21, 22, 23, 24] 9 rfl rfl rfl rfl rfl rfl rfl rfl rfl ⟨Nat.le_of_ble_eq_true rfl, Nat.le_of_ble_eq_true rfl⟩ rfl hl.1 rfl (Nat.le_of_ble_eq_true rfl) dX7_swap_17 ⟨Nat.le_of_ble_eq_true rfl, Nat.le_of_ble_eq_true rfl⟩ (fun hx0 H locs ce q9 hP hD hS g1 g2 g3 => ?_) (fun hx0 H locs hP hD hS => ?_)
    · have h := ite_f (Nat.ne_of_gt hx0) h
      have h := Option.some.inj h
      exact hret.2.1 _ _ _ _ _ _ _ _ _ (Nat.le_of_ble_eq_true rfl) (Nat.le_of_ble_eq_true rfl) (by rw [← h]; exact hx0) (by rw [← h]; exact hP) hS g1 g2 (by rw [← h]; exact g3)
    · have h := ite_t hx0 h
      refine lv_aload_n hx hb dX7_swap_20 rfl (lv_at hl 1 rfl) ?_
      refine getF (q0 := 9) (k0 := 3) (v := .ref a_h) C hE hP inA7 rfl rfl (by decide) qFX7_25 rfl rfl dX7_swap_21 ?_
      refine lv_aload_n hx hb dX7_swap_24 rfl (lv_at hl 1 rfl) ?_
      refine getF (q0 := 9) (k0 := 0) (v := .ref a_g) C hE hP inA7 rfl rfl (by decide) qFX7_10 rfl rfl dX7_swap_25 ?_
      obtain ⟨q7, e8, h⟩ := bnd h
      refine wrVv (ws1 := [(a_g, .inr (1, [.ref a_gw, .ref a_gk])), (a_h0, .inr (1, [.ref a_h0w, .ref a_h0k])), (a_h1, .inr (1, [.ref a_h1w, .ref a_h1k])), (a_h2, .inr (1, [.ref a_h2w, .ref a_h2k])), (a_h3, .inr (1, [.ref a_h3w, .ref a_h3k])), (a_h4, .inr (1, [.ref a_h4w, .ref a_h4k])), (a_h5, .inr (1, [.ref a_h5w, .ref a_h5k])), (a_u, .inr (6, [.ref a_g, .ref a_r, .int q1.2])), (a_h, .inr (2, [.ref a_hp, .int q7.1, .int q7.2.1])), (a_x, .inr (7, [.ref a_g, .ref a_b, .ref a_v, .ref a_h, .ref a_r, .ref a_f, .ref a_u, .ref a_t, .ref a_n, .int x_sav, .int x_err, .int q5.2.1, .int q5.2.2.1, .int q5.2.2.2])), (a_gw, .inl (T 0, 90, .inl v_gw)), (a_gk, .inl (T 0, 18, .inl v_gk)), (a_h0w, .inl (T 0, 90, .inl q7.2.2.1)), (a_h0k, .inl (T 0, 18, .inl q7.2.2.2.1)), (a_h1w, .inl (T 0, 90, .inl q7.2.2.2.2.1)), (a_h1k, .inl (T 0, 18, .inl q7.2.2.2.2.2.1)), (a_h2w, .inl (T 0, 90, .inl q7.2.2.2.2.2.2.1)), (a_h2k, .inl (T 0, 18, .inl q7.2.2.2.2.2.2.2.1)), (a_h3w, .inl (T 0, 90, .inl q7.2.2.2.2.2.2.2.2.1)), (a_h3k, .inl (T 0, 18, .inl q7.2.2.2.2.2.2.2.2.2.1)), (a_h4w, .inl (T 0, 90, .inl q7.2.2.2.2.2.2.2.2.2.2.1)), (a_h4k, .inl (T 0, 18, .inl q7.2.2.2.2.2.2.2.2.2.2.2.1)), (a_h5w, .inl (T 0, 90, .inl q7.2.2.2.2.2.2.2.2.2.2.2.2.1)), (a_h5k, .inl (T 0, 18, .inl q7.2.2.2.2.2.2.2.2.2.2.2.2.2)), (a_hp, .inl (T 3, 6, .inr (.inr (.inr (.inr (hpF a_h0 a_h1 a_h2 a_h3 a_h4 a_h5))))))]) C hE hP hD hS hA (kX2_remember l D T a_g a_gw a_gk a_h0 a_h0w a_h0k a_h1 a_h1w a_h1k a_h2 a_h2w a_h2k a_h3 a_h3w a_h3k a_h4 a_h4w a_h4k a_h5 a_h5w a_h5k a_h a_hp h_old h_siz v_gw v_gk v_h0w v_h0k v_h1w v_h1k v_h2w v_h2k v_h3w v_h3k v_h4w v_h4k v_h5w v_h5k _ q7 e8) mX2_remember qLX7_96 [0, 1, 2, 3, 4, 5, 6, 8, 10, 11, 12, 13, 14, 15, 16, 17, 18, 19, 20, 21, 22, 23, 24] [7, 9] 8 rfl rfl rfl rfl rfl rfl rfl rfl rfl ⟨rfl, rfl⟩ ⟨Nat.le_of_ble_eq_true rfl, Nat.le_of_ble_eq_true rfl⟩ rfl hl.1 rfl (Nat.le_of_ble_eq_true rfl) dX7_swap_28 ⟨Nat.le_of_ble_eq_true rfl, Nat.le_of_ble_eq_true rfl⟩ (fun H locs hP hD hS => ?_)
      refine lv_aload_n hx hb dX7_swap_31 rfl (lv_at hl 1 rfl) ?_
      refine getF (q0 := 9) (k0 := 0) (v := .ref a_g) C hE hP inA7 rfl rfl (by decide) qFX7_10 rfl rfl dX7_swap_32 ?_
      refine lv_iload_n hx hb dX7_swap_35 rfl (lv_at hl 2 rfl) ?_
      refine lv_iload_n hx hb dX7_swap_36 rfl (lv_at hl 3 rfl) ?_
      obtain ⟨q9, e10, h⟩ := bnd h
      refine wrVi (ws1 := [(a_g, .inr (1, [.ref a_gw, .ref a_gk])), (a_h0, .inr (1, [.ref a_h0w, .ref a_h0k])), (a_h1, .inr (1, [.ref a_h1w, .ref a_h1k])), (a_h2, .inr (1, [.ref a_h2w, .ref a_h2k])), (a_h3, .inr (1, [.ref a_h3w, .ref a_h3k])), (a_h4, .inr (1, [.ref a_h4w, .ref a_h4k])), (a_h5, .inr (1, [.ref a_h5w, .ref a_h5k])), (a_u, .inr (6, [.ref a_g, .ref a_r, .int q1.2])), (a_h, .inr (2, [.ref a_hp, .int q7.1, .int q7.2.1])), (a_x, .inr (7, [.ref a_g, .ref a_b, .ref a_v, .ref a_h, .ref a_r, .ref a_f, .ref a_u, .ref a_t, .ref a_n, .int x_sav, .int x_err, .int q5.2.1, .int q5.2.2.1, .int q5.2.2.2])), (a_gw, .inl (T 0, 90, .inl q9.2.1)), (a_gk, .inl (T 0, 18, .inl q9.2.2)), (a_h0w, .inl (T 0, 90, .inl q7.2.2.1)), (a_h0k, .inl (T 0, 18, .inl q7.2.2.2.1)), (a_h1w, .inl (T 0, 90, .inl q7.2.2.2.2.1)), (a_h1k, .inl (T 0, 18, .inl q7.2.2.2.2.2.1)), (a_h2w, .inl (T 0, 90, .inl q7.2.2.2.2.2.2.1)), (a_h2k, .inl (T 0, 18, .inl q7.2.2.2.2.2.2.2.1)), (a_h3w, .inl (T 0, 90, .inl q7.2.2.2.2.2.2.2.2.1)), (a_h3k, .inl (T 0, 18, .inl q7.2.2.2.2.2.2.2.2.2.1)), (a_h4w, .inl (T 0, 90, .inl q7.2.2.2.2.2.2.2.2.2.2.1)), (a_h4k, .inl (T 0, 18, .inl q7.2.2.2.2.2.2.2.2.2.2.2.1)), (a_h5w, .inl (T 0, 90, .inl q7.2.2.2.2.2.2.2.2.2.2.2.2.1)), (a_h5k, .inl (T 0, 18, .inl q7.2.2.2.2.2.2.2.2.2.2.2.2.2)), (a_hp, .inl (T 3, 6, .inr (.inr (.inr (.inr (hpF a_h0 a_h1 a_h2 a_h3 a_h4 a_h5))))))]) C hE hP hD hS hA (kX1_substitute l D T a_g a_gw a_gk v_gw v_gk p0 p1 _ q9 e10) mX1_substitute qLX7_109 [0, 10, 11] [1, 2, 3, 4, 5, 6, 7, 8, 9, 12, 13, 14, 15, 16, 17, 18, 19, 20, 21, 22, 23, 24] 0 rfl rfl rfl rfl rfl rfl rfl rfl rfl ⟨rfl, rfl⟩ ⟨Nat.le_of_ble_eq_true rfl, Nat.le_of_ble_eq_true rfl⟩ rfl hl.1 rfl (Nat.le_of_ble_eq_true rfl) dX7_swap_37 ⟨Nat.le_of_ble_eq_true rfl, Nat.le_of_ble_eq_true rfl⟩ (fun H locs hP hD hS => ?_)
      have h := Option.some.inj h
      exact hret.1 _ _ _ _ _ _ _ _ (Nat.le_of_ble_eq_true rfl) (Nat.le_of_ble_eq_true rfl) dX7_swap_40 rfl (by rw [← h]) (by rw [← h] <;> rfl) (by rw [← h]; exact hP) hS

def fX7_swim (u_det : Int32) (h_old : Int32) (h_siz : Int32) (x_rea : Int32) (x_det : Int32) (x_com : Int32) (v_gw : Nat → Int32) (v_gk : Nat → Int32) (v_h0w : Nat → Int32) (v_h0k : Nat → Int32) (v_h1w : Nat → Int32) (v_h1k : Nat → Int32) (v_h2w : Nat → Int32) (v_h2k : Nat → Int32) (v_h3w : Nat → Int32) (v_h3k : Nat → Int32) (v_h4w : Nat → Int32) (v_h4k : Nat → Int32) (v_h5w : Nat → Int32) (v_h5k : Nat → Int32) (v_rs : Nat → Int32) (v_ro : Nat → Int32) (p0 : Int32) (p1 : Int32) : Option (Nat × Int32 × Int32 × Int32 × Int32 × Int32 × Int32 × Int32 × (Nat → Int32) × (Nat → Int32) × (Nat → Int32) × (Nat → Int32) × (Nat → Int32) × (Nat → Int32) × (Nat → Int32) × (Nat → Int32) × (Nat → Int32) × (Nat → Int32) × (Nat → Int32) × (Nat → Int32) × (Nat → Int32) × (Nat → Int32) × (Nat → Int32) × (Nat → Int32)) :=
  (fX6_moveFault u_det v_gw v_gk v_rs v_ro p0 p1).bind fun q1 =>
  (fX7_demandThere q1.1).bind fun q3 =>
  if q3 = 0 then
    (fX7_demandAllowed q1.2.1 x_rea x_det x_com q1.1).bind fun q5 =>
    if q5.1 = 0 then
      (fX2_remember h_old h_siz v_gw v_gk v_h0w v_h0k v_h1w v_h1k v_h2w v_h2k v_h3w v_h3k v_h4w v_h4k v_h5w v_h5k).bind fun q7 =>
      (fX7_moveWhale v_gw v_gk q1.2.2.1 q1.2.2.2 p0 p1).bind fun q9 =>
      some (0, q9.1, q1.2.1, q7.1, q7.2.1, q5.2.1, q5.2.2.1, q5.2.2.2, q9.2.1, q9.2.2.1, q7.2.2.1, q7.2.2.2.1, q7.2.2.2.2.1, q7.2.2.2.2.2.1, q7.2.2.2.2.2.2.1, q7.2.2.2.2.2.2.2.1, q7.2.2.2.2.2.2.2.2.1, q7.2.2.2.2.2.2.2.2.2.1, q7.2.2.2.2.2.2.2.2.2.2.1, q7.2.2.2.2.2.2.2.2.2.2.2.1, q7.2.2.2.2.2.2.2.2.2.2.2.2.1, q7.2.2.2.2.2.2.2.2.2.2.2.2.2, q9.2.2.2.1, q9.2.2.2.2)
    else
      some (q5.1, 0, q1.2.1, h_old, h_siz, q5.2.1, q5.2.2.1, q5.2.2.2, v_gw, v_gk, v_h0w, v_h0k, v_h1w, v_h1k, v_h2w, v_h2k, v_h3w, v_h3k, v_h4w, v_h4k, v_h5w, v_h5k, q1.2.2.1, q1.2.2.2)
  else
    some (q3, 0, q1.2.1, h_old, h_siz, x_rea, x_det, x_com, v_gw, v_gk, v_h0w, v_h0k, v_h1w, v_h1k, v_h2w, v_h2k, v_h3w, v_h3k, v_h4w, v_h4k, v_h5w, v_h5k, q1.2.2.1, q1.2.2.2)
set_option maxHeartbeats 4000000 in
set_option maxRecDepth 100000 in
theorem kX7_swim (l : Launch) (hnt : l.stackTraces = false) (D : va_G) (T : Nat → ClassId) (a_g a_gw a_gk a_h0 a_h0w a_h0k a_h1 a_h1w a_h1k a_h2 a_h2w a_h2k a_h3 a_h3w a_h3k a_h4 a_h4w a_h4k a_h5 a_h5w a_h5k a_r a_rs a_rl a_ro a_u a_h a_hp a_x a_b a_v a_f a_t a_n : Nat) (u_det : Int32) (h_old : Int32) (h_siz : Int32) (x_sav : Int32) (x_err : Int32) (x_rea : Int32) (x_det : Int32) (x_com : Int32) (v_gw : Nat → Int32) (v_gk : Nat → Int32) (v_h0w : Nat → Int32) (v_h0k : Nat → Int32) (v_h1w : Nat → Int32) (v_h1k : Nat → Int32) (v_h2w : Nat → Int32) (v_h2k : Nat → Int32) (v_h3w : Nat → Int32) (v_h3k : Nat → Int32) (v_h4w : Nat → Int32) (v_h4k : Nat → Int32) (v_h5w : Nat → Int32) (v_h5k : Nat → Int32) (v_rs : Nat → Int32) (v_ro : Nat → Int32) (p0 : Int32) (p1 : Int32) (sz : Nat) (r : Nat × Int32 × Int32 × Int32 × Int32 × Int32 × Int32 × Int32 × (Nat → Int32) × (Nat → Int32) × (Nat → Int32) × (Nat → Int32) × (Nat → Int32) × (Nat → Int32) × (Nat → Int32) × (Nat → Int32) × (Nat → Int32) × (Nat → Int32) × (Nat → Int32) × (Nat → Int32) × (Nat → Int32) × (Nat → Int32) × (Nat → Int32) × (Nat → Int32)) (h : fX7_swim u_det h_old h_siz x_rea x_det x_com v_gw v_gk v_h0w v_h0k v_h1w v_h1k v_h2w v_h2k v_h3w v_h3k v_h4w v_h4k v_h5w v_h5k v_rs v_ro p0 p1 = some r) : ThI l yX7_swim cX7_swim 4 .int ({ frames := 7, cells := 2, slots := 12, locals := 143 } : Room) D T sz [(a_g, .inr (1, [.ref a_gw, .ref a_gk])), (a_h0, .inr (1, [.ref a_h0w, .ref a_h0k])), (a_h1, .inr (1, [.ref a_h1w, .ref a_h1k])), (a_h2, .inr (1, [.ref a_h2w, .ref a_h2k])), (a_h3, .inr (1, [.ref a_h3w, .ref a_h3k])), (a_h4, .inr (1, [.ref a_h4w, .ref a_h4k])), (a_h5, .inr (1, [.ref a_h5w, .ref a_h5k])), (a_r, .inr (4, [.ref a_g, .ref a_rs, .ref a_rl, .ref a_ro])), (a_u, .inr (6, [.ref a_g, .ref a_r, .int u_det])), (a_h, .inr (2, [.ref a_hp, .int h_old, .int h_siz])), (a_x, .inr (7, [.ref a_g, .ref a_b, .ref a_v, .ref a_h, .ref a_r, .ref a_f, .ref a_u, .ref a_t, .ref a_n, .int x_sav, .int x_err, .int x_rea, .int x_det, .int x_com])), (a_gw, .inl (T 0, 90, .inl v_gw)), (a_gk, .inl (T 0, 18, .inl v_gk)), (a_h0w, .inl (T 0, 90, .inl v_h0w)), (a_h0k, .inl (T 0, 18, .inl v_h0k)), (a_h1w, .inl (T 0, 90, .inl v_h1w)), (a_h1k, .inl (T 0, 18, .inl v_h1k)), (a_h2w, .inl (T 0, 90, .inl v_h2w)), (a_h2k, .inl (T 0, 18, .inl v_h2k)), (a_h3w, .inl (T 0, 90, .inl v_h3w)), (a_h3k, .inl (T 0, 18, .inl v_h3k)), (a_h4w, .inl (T 0, 90, .inl v_h4w)), (a_h4k, .inl (T 0, 18, .inl v_h4k)), (a_h5w, .inl (T 0, 90, .inl v_h5w)), (a_h5k, .inl (T 0, 18, .inl v_h5k)), (a_rs, .inl (T 0, 45, .inl v_rs)), (a_ro, .inl (T 1, 45, .inl v_ro)), (a_hp, .inl (T 3, 6, .inr (.inr (.inr (.inr (hpF a_h0 a_h1 a_h2 a_h3 a_h4 a_h5))))))] [(a_g, .inr (1, [.ref a_gw, .ref a_gk])), (a_h0, .inr (1, [.ref a_h0w, .ref a_h0k])), (a_h1, .inr (1, [.ref a_h1w, .ref a_h1k])), (a_h2, .inr (1, [.ref a_h2w, .ref a_h2k])), (a_h3, .inr (1, [.ref a_h3w, .ref a_h3k])), (a_h4, .inr (1, [.ref a_h4w, .ref a_h4k])), (a_h5, .inr (1, [.ref a_h5w, .ref a_h5k])), (a_r, .inr (4, [.ref a_g, .ref a_rs, .ref a_rl, .ref a_ro])), (a_u, .inr (6, [.ref a_g, .ref a_r, .int r.2.2.1])), (a_h, .inr (2, [.ref a_hp, .int r.2.2.2.1, .int r.2.2.2.2.1])), (a_x, .inr (7, [.ref a_g, .ref a_b, .ref a_v, .ref a_h, .ref a_r, .ref a_f, .ref a_u, .ref a_t, .ref a_n, .int x_sav, .int x_err, .int r.2.2.2.2.2.1, .int r.2.2.2.2.2.2.1, .int r.2.2.2.2.2.2.2.1])), (a_gw, .inl (T 0, 90, .inl r.2.2.2.2.2.2.2.2.1)), (a_gk, .inl (T 0, 18, .inl r.2.2.2.2.2.2.2.2.2.1)), (a_h0w, .inl (T 0, 90, .inl r.2.2.2.2.2.2.2.2.2.2.1)), (a_h0k, .inl (T 0, 18, .inl r.2.2.2.2.2.2.2.2.2.2.2.1)), (a_h1w, .inl (T 0, 90, .inl r.2.2.2.2.2.2.2.2.2.2.2.2.1)), (a_h1k, .inl (T 0, 18, .inl r.2.2.2.2.2.2.2.2.2.2.2.2.2.1)), (a_h2w, .inl (T 0, 90, .inl r.2.2.2.2.2.2.2.2.2.2.2.2.2.2.1)), (a_h2k, .inl (T 0, 18, .inl r.2.2.2.2.2.2.2.2.2.2.2.2.2.2.2.1)), (a_h3w, .inl (T 0, 90, .inl r.2.2.2.2.2.2.2.2.2.2.2.2.2.2.2.2.1)), (a_h3k, .inl (T 0, 18, .inl r.2.2.2.2.2.2.2.2.2.2.2.2.2.2.2.2.2.1)), (a_h4w, .inl (T 0, 90, .inl r.2.2.2.2.2.2.2.2.2.2.2.2.2.2.2.2.2.2.1)), (a_h4k, .inl (T 0, 18, .inl r.2.2.2.2.2.2.2.2.2.2.2.2.2.2.2.2.2.2.2.1)), (a_h5w, .inl (T 0, 90, .inl r.2.2.2.2.2.2.2.2.2.2.2.2.2.2.2.2.2.2.2.2.1)), (a_h5k, .inl (T 0, 18, .inl r.2.2.2.2.2.2.2.2.2.2.2.2.2.2.2.2.2.2.2.2.2.1)), (a_rs, .inl (T 0, 45, .inl r.2.2.2.2.2.2.2.2.2.2.2.2.2.2.2.2.2.2.2.2.2.2.1)), (a_ro, .inl (T 1, 45, .inl r.2.2.2.2.2.2.2.2.2.2.2.2.2.2.2.2.2.2.2.2.2.2.2)), (a_hp, .inl (T 3, 6, .inr (.inr (.inr (.inr (hpF a_h0 a_h1 a_h2 a_h3 a_h4 a_h5))))))] [.ref a_x, .int p0, .int p1] r.1 r.2.1 := by
  unfold fX7_swim at h
  refine thMetI hnt (by decide +kernel) rfl (fun p e s m args below meth c Q A C hE hA hZ hP hD hS hret ls hl => ?_)
  have hx := C.1
  have hb := C.2.1
  have hl : lv_has ls 4 [(0, .ref a_x), (1, .int p0), (2, .int p1)] := hl
  refine lv_aload_n hx hb dX7_swim_0 rfl (lv_at hl 0 rfl) ?_
  refine getF (q0 := 10) (k0 := 6) (v := .ref a_u) C hE hP inA7 rfl rfl (by decide) qFX7_50 rfl rfl dX7_swim_1 ?_
  refine lv_iload_n hx hb dX7_swim_4 rfl (lv_at hl 1 rfl) ?_
  refine lv_iload_n hx hb dX7_swim_5 rfl (lv_at hl 2 rfl) ?_
  obtain ⟨q1, e2, h⟩ := bnd h
  refine wrVi (ws1 := [(a_g, .inr (1, [.ref a_gw, .ref a_gk])), (a_h0, .inr (1, [.ref a_h0w, .ref a_h0k])), (a_h1, .inr (1, [.ref a_h1w, .ref a_h1k])), (a_h2, .inr (1, [.ref a_h2w, .ref a_h2k])), (a_h3, .inr (1, [.ref a_h3w, .ref a_h3k])), (a_h4, .inr (1, [.ref a_h4w, .ref a_h4k])), (a_h5, .inr (1, [.ref a_h5w, .ref a_h5k])), (a_r, .inr (4, [.ref a_g, .ref a_rs, .ref a_rl, .ref a_ro])), (a_u, .inr (6, [.ref a_g, .ref a_r, .int q1.2.1])), (a_h, .inr (2, [.ref a_hp, .int h_old, .int h_siz])), (a_x, .inr (7, [.ref a_g, .ref a_b, .ref a_v, .ref a_h, .ref a_r, .ref a_f, .ref a_u, .ref a_t, .ref a_n, .int x_sav, .int x_err, .int x_rea, .int x_det, .int x_com])), (a_gw, .inl (T 0, 90, .inl v_gw)), (a_gk, .inl (T 0, 18, .inl v_gk)), (a_h0w, .inl (T 0, 90, .inl v_h0w)), (a_h0k, .inl (T 0, 18, .inl v_h0k)), (a_h1w, .inl (T 0, 90, .inl v_h1w)), (a_h1k, .inl (T 0, 18, .inl v_h1k)), (a_h2w, .inl (T 0, 90, .inl v_h2w)), (a_h2k, .inl (T 0, 18, .inl v_h2k)), (a_h3w, .inl (T 0, 90, .inl v_h3w)), (a_h3k, .inl (T 0, 18, .inl v_h3k)), (a_h4w, .inl (T 0, 90, .inl v_h4w)), (a_h4k, .inl (T 0, 18, .inl v_h4k)), (a_h5w, .inl (T 0, 90, .inl v_h5w)), (a_h5k, .inl (T 0, 18, .inl v_h5k)), (a_rs, .inl (T 0, 45, .inl q1.2.2.1)), (a_ro, .inl (T 1, 45, .inl q1.2.2.2)), (a_hp, .inl (T 3, 6, .inr (.inr (.inr (.inr (hpF a_h0 a_h1 a_h2 a_h3 a_h4 a_h5))))))]) C hE hP hD hS hA (kX6_moveFault l D T a_g a_gw a_gk a_r a_rs a_rl a_ro a_u u_det v_gw v_gk v_rs v_ro p0 p1 _ q1 e2) mX6_moveFault qLX7_112 [0, 7, 8, 11, 12, 25, 26] [1, 2, 3, 4, 5, 6, 9, 10, 13, 14, 15, 16, 17, 18, 19, 20, 21, 22, 23, 24, 27] 8 rfl rfl rfl rfl rfl rfl rfl rfl rfl ⟨rfl, rfl⟩ ⟨Nat.le_of_ble_eq_true rfl, Nat.le_of_ble_eq_true rfl⟩ rfl hl.1 rfl (Nat.le_of_ble_eq_true rfl) dX7_swim_6 ⟨Nat.le_of_ble_eq_true rfl, Nat.le_of_ble_eq_true rfl⟩ (fun H locs hP hD hS => ?_)
  refine lv_istore_n (lv' := [(3, .int q1.1), (0, .ref a_x), (1, .int p0), (2, .int p1)]) hx hb dX7_swim_9 rfl hl (by decide) rfl (fun ls hl => ?_)
  refine lv_aload_n hx hb dX7_swim_10 rfl (lv_at hl 1 rfl) ?_
  refine lv_iload_n hx hb dX7_swim_11 rfl (lv_at hl 0 rfl) ?_
  obtain ⟨q3, e4, h⟩ := bnd h
  refine thVv (ws1 := [(a_g, .inr (1, [.ref a_gw, .ref a_gk])), (a_h0, .inr (1, [.ref a_h0w, .ref a_h0k])), (a_h1, .inr (1, [.ref a_h1w, .ref a_h1k])), (a_h2, .inr (1, [.ref a_h2w, .ref a_h2k])), (a_h3, .inr (1, [.ref a_h3w, .ref a_h3k])), (a_h4, .inr (1, [.ref a_h4w, .ref a_h4k])), (a_h5, .inr (1, [.ref a_h5w, .ref a_h5k])), (a_r, .inr (4, [.ref a_g, .ref a_rs, .ref a_rl, .ref a_ro])), (a_u, .inr (6, [.ref a_g, .ref a_r, .int q1.2.1])), (a_h, .inr (2, [.ref a_hp, .int h_old, .int h_siz])), (a_x, .inr (7, [.ref a_g, .ref a_b, .ref a_v, .ref a_h, .ref a_r, .ref a_f, .ref a_u, .ref a_t, .ref a_n, .int x_sav, .int x_err, .int x_rea, .int x_det, .int x_com])), (a_gw, .inl (T 0, 90, .inl v_gw)), (a_gk, .inl (T 0, 18, .inl v_gk)), (a_h0w, .inl (T 0, 90, .inl v_h0w)), (a_h0k, .inl (T 0, 18, .inl v_h0k)), (a_h1w, .inl (T 0, 90, .inl v_h1w)), (a_h1k, .inl (T 0, 18, .inl v_h1k)), (a_h2w, .inl (T 0, 90, .inl v_h2w)), (a_h2k, .inl (T 0, 18, .inl v_h2k)), (a_h3w, .inl (T 0, 90, .inl v_h3w)), (a_h3k, .inl (T 0, 18, .inl v_h3k)), (a_h4w, .inl (T 0, 90, .inl v_h4w)), (a_h4k, .inl (T 0, 18, .inl v_h4k)), (a_h5w, .inl (T 0, 90, .inl v_h5w)), (a_h5k, .inl (T 0, 18, .inl v_h5k)), (a_rs, .inl (T 0, 45, .inl q1.2.2.1)), (a_ro, .inl (T 1, 45, .inl q1.2.2.2)), (a_hp, .inl (T 3, 6, .inr (.inr (.inr (.inr (hpF a_h0 a_h1 a_h2 a_h3 a_h4 a_h5))))))]) C hE hZ hP hD hS hA (kX7_demandThere l hZ.1 D T a_x q1.1 _ q3 e4) mX7_demandThere qLX7_106 [] [0, 1, 2, 3, 4, 5, 6, 7, 8, 9, 10, 11, 12, 13, 14, 15, 16, 17, 18, 19, 20, 21, 22, 23, 24, 25, 26, 27] 10 rfl rfl rfl rfl rfl rfl rfl rfl rfl ⟨Nat.le_of_ble_eq_true rfl, Nat.le_of_ble_eq_true rfl⟩ rfl hl.1 rfl (Nat.le_of_ble_eq_true rfl) dX7_swim_12 ⟨Nat.le_of_ble_eq_true rfl, Nat.le_of_ble_eq_true rfl⟩ (fun hx0 H locs ce q9 hP hD hS g1 g2 g3 => ?_) (fun hx0 H locs hP hD hS => ?_)
  · have h := ite_f (Nat.ne_of_gt hx0) h
    have h := Option.some.inj h
    exact hret.2.1 _ _ _ _ _ _ _ _ _ (Nat.le_of_ble_eq_true rfl) (Nat.le_of_ble_eq_true rfl) (by rw [← h]; exact hx0) (by rw [← h]; exact hP) hS g1 g2 (by rw [← h]; exact g3)
  · have h := ite_t hx0 h
    refine lv_aload_n hx hb dX7_swim_15 rfl (lv_at hl 1 rfl) ?_
    refine lv_iload_n hx hb dX7_swim_16 rfl (lv_at hl 0 rfl) ?_
    obtain ⟨q5, e6, h⟩ := bnd h
    refine thVv (ws1 := [(a_g, .inr (1, [.ref a_gw, .ref a_gk])), (a_h0, .inr (1, [.ref a_h0w, .ref a_h0k])), (a_h1, .inr (1, [.ref a_h1w, .ref a_h1k])), (a_h2, .inr (1, [.ref a_h2w, .ref a_h2k])), (a_h3, .inr (1, [.ref a_h3w, .ref a_h3k])), (a_h4, .inr (1, [.ref a_h4w, .ref a_h4k])), (a_h5, .inr (1, [.ref a_h5w, .ref a_h5k])), (a_r, .inr (4, [.ref a_g, .ref a_rs, .ref a_rl, .ref a_ro])), (a_u, .inr (6, [.ref a_g, .ref a_r, .int q1.2.1])), (a_h, .inr (2, [.ref a_hp, .int h_old, .int h_siz])), (a_x, .inr (7, [.ref a_g, .ref a_b, .ref a_v, .ref a_h, .ref a_r, .ref a_f, .ref a_u, .ref a_t, .ref a_n, .int x_sav, .int x_err, .int q5.2.1, .int q5.2.2.1, .int q5.2.2.2])), (a_gw, .inl (T 0, 90, .inl v_gw)), (a_gk, .inl (T 0, 18, .inl v_gk)), (a_h0w, .inl (T 0, 90, .inl v_h0w)), (a_h0k, .inl (T 0, 18, .inl v_h0k)), (a_h1w, .inl (T 0, 90, .inl v_h1w)), (a_h1k, .inl (T 0, 18, .inl v_h1k)), (a_h2w, .inl (T 0, 90, .inl v_h2w)), (a_h2k, .inl (T 0, 18, .inl v_h2k)), (a_h3w, .inl (T 0, 90, .inl v_h3w)), (a_h3k, .inl (T 0, 18, .inl v_h3k)), (a_h4w, .inl (T 0, 90, .inl v_h4w)), (a_h4k, .inl (T 0, 18, .inl v_h4k)), (a_h5w, .inl (T 0, 90, .inl v_h5w)), (a_h5k, .inl (T 0, 18, .inl v_h5k)), (a_rs, .inl (T 0, 45, .inl q1.2.2.1)), (a_ro, .inl (T 1, 45, .inl q1.2.2.2)), (a_hp, .inl (T 3, 6, .inr (.inr (.inr (.inr (hpF a_h0 a_h1 a_h2 a_h3 a_h4 a_h5))))))]) C hE hZ hP hD hS hA (kX7_demandAllowed l hZ.1 D T a_u a_g a_r a_x a_b a_v a_h a_f a_t a_n q1.2.1 x_sav x_err x_rea x_det x_com q1.1 _ q5 e6) mX7_demandAllowed qLX7_93 [8, 10] [0, 1, 2, 3, 4, 5, 6, 7, 9, 11, 12, 13, 14, 15, 16, 17, 18, 19, 20, 21, 22, 23, 24, 25, 26, 27] 10 rfl rfl rfl rfl rfl rfl rfl rfl rfl ⟨Nat.le_of_ble_eq_true rfl, Nat.le_of_ble_eq_true rfl⟩ rfl hl.1 rfl (Nat.le_of_ble_eq_true rfl) dX7_swim_17 ⟨Nat.le_of_ble_eq_true rfl, Nat.le_of_ble_eq_true rfl⟩ (fun hx0 H locs ce q9 hP hD hS g1 g2 g3 => ?_) (fun hx0 H locs hP hD hS => ?_)
    · have h := ite_f (Nat.ne_of_gt hx0) h
      have h := Option.some.inj h
      exact hret.2.1 _ _ _ _ _ _ _ _ _ (Nat.le_of_ble_eq_true rfl) (Nat.le_of_ble_eq_true rfl) (by rw [← h]; exact hx0) (by rw [← h]; exact hP) hS g1 g2 (by rw [← h]; exact g3)
    · have h := ite_t hx0 h
      refine lv_aload_n hx hb dX7_swim_20 rfl (lv_at hl 1 rfl) ?_
      refine getF (q0 := 10) (k0 := 3) (v := .ref a_h) C hE hP inA7 rfl rfl (by decide) qFX7_25 rfl rfl dX7_swim_21 ?_
      refine lv_aload_n hx hb dX7_swim_24 rfl (lv_at hl 1 rfl) ?_
      refine getF (q0 := 10) (k0 := 0) (v := .ref a_g) C hE hP inA7 rfl rfl (by decide) qFX7_10 rfl rfl dX7_swim_25 ?_
      obtain ⟨q7, e8, h⟩ := bnd h
      refine wrVv (ws1 := [(a_g, .inr (1, [.ref a_gw, .ref a_gk])), (a_h0, .inr (1, [.ref a_h0w, .ref a_h0k])), (a_h1, .inr (1, [.ref a_h1w, .ref a_h1k])), (a_h2, .inr (1, [.ref a_h2w, .ref a_h2k])), (a_h3, .inr (1, [.ref a_h3w, .ref a_h3k])), (a_h4, .inr (1, [.ref a_h4w, .ref a_h4k])), (a_h5, .inr (1, [.ref a_h5w, .ref a_h5k])), (a_r, .inr (4, [.ref a_g, .ref a_rs, .ref a_rl, .ref a_ro])), (a_u, .inr (6, [.ref a_g, .ref a_r, .int q1.2.1])), (a_h, .inr (2, [.ref a_hp, .int q7.1, .int q7.2.1])), (a_x, .inr (7, [.ref a_g, .ref a_b, .ref a_v, .ref a_h, .ref a_r, .ref a_f, .ref a_u, .ref a_t, .ref a_n, .int x_sav, .int x_err, .int q5.2.1, .int q5.2.2.1, .int q5.2.2.2])), (a_gw, .inl (T 0, 90, .inl v_gw)), (a_gk, .inl (T 0, 18, .inl v_gk)), (a_h0w, .inl (T 0, 90, .inl q7.2.2.1)), (a_h0k, .inl (T 0, 18, .inl q7.2.2.2.1)), (a_h1w, .inl (T 0, 90, .inl q7.2.2.2.2.1)), (a_h1k, .inl (T 0, 18, .inl q7.2.2.2.2.2.1)), (a_h2w, .inl (T 0, 90, .inl q7.2.2.2.2.2.2.1)), (a_h2k, .inl (T 0, 18, .inl q7.2.2.2.2.2.2.2.1)), (a_h3w, .inl (T 0, 90, .inl q7.2.2.2.2.2.2.2.2.1)), (a_h3k, .inl (T 0, 18, .inl q7.2.2.2.2.2.2.2.2.2.1)), (a_h4w, .inl (T 0, 90, .inl q7.2.2.2.2.2.2.2.2.2.2.1)), (a_h4k, .inl (T 0, 18, .inl q7.2.2.2.2.2.2.2.2.2.2.2.1)), (a_h5w, .inl (T 0, 90, .inl q7.2.2.2.2.2.2.2.2.2.2.2.2.1)), (a_h5k, .inl (T 0, 18, .inl q7.2.2.2.2.2.2.2.2.2.2.2.2.2)), (a_rs, .inl (T 0, 45, .inl q1.2.2.1)), (a_ro, .inl (T 1, 45, .inl q1.2.2.2)), (a_hp, .inl (T 3, 6, .inr (.inr (.inr (.inr (hpF a_h0 a_h1 a_h2 a_h3 a_h4 a_h5))))))]) C hE hP hD hS hA (kX2_remember l D T a_g a_gw a_gk a_h0 a_h0w a_h0k a_h1 a_h1w a_h1k a_h2 a_h2w a_h2k a_h3 a_h3w a_h3k a_h4 a_h4w a_h4k a_h5 a_h5w a_h5k a_h a_hp h_old h_siz v_gw v_gk v_h0w v_h0k v_h1w v_h1k v_h2w v_h2k v_h3w v_h3k v_h4w v_h4k v_h5w v_h5k _ q7 e8) mX2_remember qLX7_96 [0, 1, 2, 3, 4, 5, 6, 9, 11, 12, 13, 14, 15, 16, 17, 18, 19, 20, 21, 22, 23, 24, 27] [7, 8, 10, 25, 26] 9 rfl rfl rfl rfl rfl rfl rfl rfl rfl ⟨rfl, rfl⟩ ⟨Nat.le_of_ble_eq_true rfl, Nat.le_of_ble_eq_true rfl⟩ rfl hl.1 rfl (Nat.le_of_ble_eq_true rfl) dX7_swim_28 ⟨Nat.le_of_ble_eq_true rfl, Nat.le_of_ble_eq_true rfl⟩ (fun H locs hP hD hS => ?_)
      refine lv_aload_n hx hb dX7_swim_31 rfl (lv_at hl 1 rfl) ?_
      refine lv_iload_n hx hb dX7_swim_32 rfl (lv_at hl 2 rfl) ?_
      refine lv_iload_n hx hb dX7_swim_33 rfl (lv_at hl 3 rfl) ?_
      obtain ⟨q9, e10, h⟩ := bnd h
      refine wrVi (ws1 := [(a_g, .inr (1, [.ref a_gw, .ref a_gk])), (a_h0, .inr (1, [.ref a_h0w, .ref a_h0k])), (a_h1, .inr (1, [.ref a_h1w, .ref a_h1k])), (a_h2, .inr (1, [.ref a_h2w, .ref a_h2k])), (a_h3, .inr (1, [.ref a_h3w, .ref a_h3k])), (a_h4, .inr (1, [.ref a_h4w, .ref a_h4k])), (a_h5, .inr (1, [.ref a_h5w, .ref a_h5k])), (a_r, .inr (4, [.ref a_g, .ref a_rs, .ref a_rl, .ref a_ro])), (a_u, .inr (6, [.ref a_g, .ref a_r, .int q1.2.1])), (a_h, .inr (2, [.ref a_hp, .int q7.1, .int q7.2.1])), (a_x, .inr (7, [.ref a_g, .ref a_b, .ref a_v, .ref a_h, .ref a_r, .ref a_f, .ref a_u, .ref a_t, .ref a_n, .int x_sav, .int x_err, .int q5.2.1, .int q5.2.2.1, .int q5.2.2.2])), (a_gw, .inl (T 0, 90, .inl q9.2.1)), (a_gk, .inl (T 0, 18, .inl q9.2.2.1)), (a_h0w, .inl (T 0, 90, .inl q7.2.2.1)), (a_h0k, .inl (T 0, 18, .inl q7.2.2.2.1)), (a_h1w, .inl (T 0, 90, .inl q7.2.2.2.2.1)), (a_h1k, .inl (T 0, 18, .inl q7.2.2.2.2.2.1)), (a_h2w, .inl (T 0, 90, .inl q7.2.2.2.2.2.2.1)), (a_h2k, .inl (T 0, 18, .inl q7.2.2.2.2.2.2.2.1)), (a_h3w, .inl (T 0, 90, .inl q7.2.2.2.2.2.2.2.2.1)), (a_h3k, .inl (T 0, 18, .inl q7.2.2.2.2.2.2.2.2.2.1)), (a_h4w, .inl (T 0, 90, .inl q7.2.2.2.2.2.2.2.2.2.2.1)), (a_h4k, .inl (T 0, 18, .inl q7.2.2.2.2.2.2.2.2.2.2.2.1)), (a_h5w, .inl (T 0, 90, .inl q7.2.2.2.2.2.2.2.2.2.2.2.2.1)), (a_h5k, .inl (T 0, 18, .inl q7.2.2.2.2.2.2.2.2.2.2.2.2.2)), (a_rs, .inl (T 0, 45, .inl q9.2.2.2.1)), (a_ro, .inl (T 1, 45, .inl q9.2.2.2.2)), (a_hp, .inl (T 3, 6, .inr (.inr (.inr (.inr (hpF a_h0 a_h1 a_h2 a_h3 a_h4 a_h5))))))]) C hE hP hD hS hA (kX7_moveWhale l D T a_g a_gw a_gk a_r a_rs a_rl a_ro a_x a_b a_v a_h a_f a_u a_t a_n x_sav x_err q5.2.1 q5.2.2.1 q5.2.2.2 v_gw v_gk q1.2.2.1 q1.2.2.2 p0 p1 _ q9 e10) mX7_moveWhale qLX7_115 [0, 7, 10, 11, 12, 25, 26] [1, 2, 3, 4, 5, 6, 8, 9, 13, 14, 15, 16, 17, 18, 19, 20, 21, 22, 23, 24, 27] 10 rfl rfl rfl rfl rfl rfl rfl rfl rfl ⟨rfl, rfl⟩ ⟨Nat.le_of_ble_eq_true rfl, Nat.le_of_ble_eq_true rfl⟩ rfl hl.1 rfl (Nat.le_of_ble_eq_true rfl) dX7_swim_34 ⟨Nat.le_of_ble_eq_true rfl, Nat.le_of_ble_eq_true rfl⟩ (fun H locs hP hD hS => ?_)
      have h := Option.some.inj h
      exact hret.1 _ _ _ _ _ _ _ _ (Nat.le_of_ble_eq_true rfl) (Nat.le_of_ble_eq_true rfl) dX7_swim_37 rfl (by rw [← h]) (by rw [← h] <;> rfl) (by rw [← h]; exact hP) hS

def fX7_strike (f_net : Int32) (u_det : Int32) (h_old : Int32) (h_siz : Int32) (x_rea : Int32) (x_det : Int32) (x_com : Int32) (v_gw : Nat → Int32) (v_gk : Nat → Int32) (v_h0w : Nat → Int32) (v_h0k : Nat → Int32) (v_h1w : Nat → Int32) (v_h1k : Nat → Int32) (v_h2w : Nat → Int32) (v_h2k : Nat → Int32) (v_h3w : Nat → Int32) (v_h3k : Nat → Int32) (v_h4w : Nat → Int32) (v_h4k : Nat → Int32) (v_h5w : Nat → Int32) (v_h5k : Nat → Int32) (p0 : Int32) (p1 : Int32) (p2 : Int32) : Option (Nat × Int32 × Int32 × Int32 × Int32 × Int32 × Int32 × Int32 × Int32 × (Nat → Int32) × (Nat → Int32) × (Nat → Int32) × (Nat → Int32) × (Nat → Int32) × (Nat → Int32) × (Nat → Int32) × (Nat → Int32) × (Nat → Int32) × (Nat → Int32) × (Nat → Int32) × (Nat → Int32) × (Nat → Int32) × (Nat → Int32)) :=
  (fX6_hitFault u_det v_gw v_gk p0 p1 p2).bind fun q1 =>
  (fX7_demandThere q1.1).bind fun q3 =>
  if q3 = 0 then
    (fX7_demandRange q1.1).bind fun q5 =>
    if q5 = 0 then
      (fX7_demandAllowed q1.2 x_rea x_det x_com q1.1).bind fun q7 =>
      if q7.1 = 0 then
        (fX2_remember h_old h_siz v_gw v_gk v_h0w v_h0k v_h1w v_h1k v_h2w v_h2k v_h3w v_h3k v_h4w v_h4k v_h5w v_h5k).bind fun q9 =>
        (fX7_hitBuoy f_net v_gw v_gk p0 p1 p2).bind fun q11 =>
        some (0, q11.1, q11.2.1, q1.2, q9.1, q9.2.1, q7.2.1, q7.2.2.1, q7.2.2.2, q11.2.2.1, q11.2.2.2, q9.2.2.1, q9.2.2.2.1, q9.2.2.2.2.1, q9.2.2.2.2.2.1, q9.2.2.2.2.2.2.1, q9.2.2.2.2.2.2.2.1, q9.2.2.2.2.2.2.2.2.1, q9.2.2.2.2.2.2.2.2.2.1, q9.2.2.2.2.2.2.2.2.2.2.1, q9.2.2.2.2.2.2.2.2.2.2.2.1, q9.2.2.2.2.2.2.2.2.2.2.2.2.1, q9.2.2.2.2.2.2.2.2.2.2.2.2.2)
      else
        some (q7.1, 0, f_net, q1.2, h_old, h_siz, q7.2.1, q7.2.2.1, q7.2.2.2, v_gw, v_gk, v_h0w, v_h0k, v_h1w, v_h1k, v_h2w, v_h2k, v_h3w, v_h3k, v_h4w, v_h4k, v_h5w, v_h5k)
    else
      some (q5, 0, f_net, q1.2, h_old, h_siz, x_rea, x_det, x_com, v_gw, v_gk, v_h0w, v_h0k, v_h1w, v_h1k, v_h2w, v_h2k, v_h3w, v_h3k, v_h4w, v_h4k, v_h5w, v_h5k)
  else
    some (q3, 0, f_net, q1.2, h_old, h_siz, x_rea, x_det, x_com, v_gw, v_gk, v_h0w, v_h0k, v_h1w, v_h1k, v_h2w, v_h2k, v_h3w, v_h3k, v_h4w, v_h4k, v_h5w, v_h5k)
set_option maxHeartbeats 4000000 in
set_option maxRecDepth 100000 in
theorem kX7_strike (l : Launch) (hnt : l.stackTraces = false) (D : va_G) (T : Nat → ClassId) (a_g a_gw a_gk a_h0 a_h0w a_h0k a_h1 a_h1w a_h1k a_h2 a_h2w a_h2k a_h3 a_h3w a_h3k a_h4 a_h4w a_h4k a_h5 a_h5w a_h5k a_f a_u a_r a_h a_hp a_x a_b a_v a_t a_n : Nat) (f_net : Int32) (u_det : Int32) (h_old : Int32) (h_siz : Int32) (x_sav : Int32) (x_err : Int32) (x_rea : Int32) (x_det : Int32) (x_com : Int32) (v_gw : Nat → Int32) (v_gk : Nat → Int32) (v_h0w : Nat → Int32) (v_h0k : Nat → Int32) (v_h1w : Nat → Int32) (v_h1k : Nat → Int32) (v_h2w : Nat → Int32) (v_h2k : Nat → Int32) (v_h3w : Nat → Int32) (v_h3k : Nat → Int32) (v_h4w : Nat → Int32) (v_h4k : Nat → Int32) (v_h5w : Nat → Int32) (v_h5k : Nat → Int32) (p0 : Int32) (p1 : Int32) (p2 : Int32) (sz : Nat) (r : Nat × Int32 × Int32 × Int32 × Int32 × Int32 × Int32 × Int32 × Int32 × (Nat → Int32) × (Nat → Int32) × (Nat → Int32) × (Nat → Int32) × (Nat → Int32) × (Nat → Int32) × (Nat → Int32) × (Nat → Int32) × (Nat → Int32) × (Nat → Int32) × (Nat → Int32) × (Nat → Int32) × (Nat → Int32) × (Nat → Int32)) (h : fX7_strike f_net u_det h_old h_siz x_rea x_det x_com v_gw v_gk v_h0w v_h0k v_h1w v_h1k v_h2w v_h2k v_h3w v_h3k v_h4w v_h4k v_h5w v_h5k p0 p1 p2 = some r) : ThI l yX7_strike cX7_strike 5 .int ({ frames := 7, cells := 3, slots := 18, locals := 143 } : Room) D T sz [(a_g, .inr (1, [.ref a_gw, .ref a_gk])), (a_h0, .inr (1, [.ref a_h0w, .ref a_h0k])), (a_h1, .inr (1, [.ref a_h1w, .ref a_h1k])), (a_h2, .inr (1, [.ref a_h2w, .ref a_h2k])), (a_h3, .inr (1, [.ref a_h3w, .ref a_h3k])), (a_h4, .inr (1, [.ref a_h4w, .ref a_h4k])), (a_h5, .inr (1, [.ref a_h5w, .ref a_h5k])), (a_f, .inr (0, [.ref a_g, .int f_net])), (a_u, .inr (6, [.ref a_g, .ref a_r, .int u_det])), (a_h, .inr (2, [.ref a_hp, .int h_old, .int h_siz])), (a_x, .inr (7, [.ref a_g, .ref a_b, .ref a_v, .ref a_h, .ref a_r, .ref a_f, .ref a_u, .ref a_t, .ref a_n, .int x_sav, .int x_err, .int x_rea, .int x_det, .int x_com])), (a_gw, .inl (T 0, 90, .inl v_gw)), (a_gk, .inl (T 0, 18, .inl v_gk)), (a_h0w, .inl (T 0, 90, .inl v_h0w)), (a_h0k, .inl (T 0, 18, .inl v_h0k)), (a_h1w, .inl (T 0, 90, .inl v_h1w)), (a_h1k, .inl (T 0, 18, .inl v_h1k)), (a_h2w, .inl (T 0, 90, .inl v_h2w)), (a_h2k, .inl (T 0, 18, .inl v_h2k)), (a_h3w, .inl (T 0, 90, .inl v_h3w)), (a_h3k, .inl (T 0, 18, .inl v_h3k)), (a_h4w, .inl (T 0, 90, .inl v_h4w)), (a_h4k, .inl (T 0, 18, .inl v_h4k)), (a_h5w, .inl (T 0, 90, .inl v_h5w)), (a_h5k, .inl (T 0, 18, .inl v_h5k)), (a_hp, .inl (T 3, 6, .inr (.inr (.inr (.inr (hpF a_h0 a_h1 a_h2 a_h3 a_h4 a_h5))))))] [(a_g, .inr (1, [.ref a_gw, .ref a_gk])), (a_h0, .inr (1, [.ref a_h0w, .ref a_h0k])), (a_h1, .inr (1, [.ref a_h1w, .ref a_h1k])), (a_h2, .inr (1, [.ref a_h2w, .ref a_h2k])), (a_h3, .inr (1, [.ref a_h3w, .ref a_h3k])), (a_h4, .inr (1, [.ref a_h4w, .ref a_h4k])), (a_h5, .inr (1, [.ref a_h5w, .ref a_h5k])), (a_f, .inr (0, [.ref a_g, .int r.2.2.1])), (a_u, .inr (6, [.ref a_g, .ref a_r, .int r.2.2.2.1])), (a_h, .inr (2, [.ref a_hp, .int r.2.2.2.2.1, .int r.2.2.2.2.2.1])), (a_x, .inr (7, [.ref a_g, .ref a_b, .ref a_v, .ref a_h, .ref a_r, .ref a_f, .ref a_u, .ref a_t, .ref a_n, .int x_sav, .int x_err, .int r.2.2.2.2.2.2.1, .int r.2.2.2.2.2.2.2.1, .int r.2.2.2.2.2.2.2.2.1])), (a_gw, .inl (T 0, 90, .inl r.2.2.2.2.2.2.2.2.2.1)), (a_gk, .inl (T 0, 18, .inl r.2.2.2.2.2.2.2.2.2.2.1)), (a_h0w, .inl (T 0, 90, .inl r.2.2.2.2.2.2.2.2.2.2.2.1)), (a_h0k, .inl (T 0, 18, .inl r.2.2.2.2.2.2.2.2.2.2.2.2.1)), (a_h1w, .inl (T 0, 90, .inl r.2.2.2.2.2.2.2.2.2.2.2.2.2.1)), (a_h1k, .inl (T 0, 18, .inl r.2.2.2.2.2.2.2.2.2.2.2.2.2.2.1)), (a_h2w, .inl (T 0, 90, .inl r.2.2.2.2.2.2.2.2.2.2.2.2.2.2.2.1)), (a_h2k, .inl (T 0, 18, .inl r.2.2.2.2.2.2.2.2.2.2.2.2.2.2.2.2.1)), (a_h3w, .inl (T 0, 90, .inl r.2.2.2.2.2.2.2.2.2.2.2.2.2.2.2.2.2.1)), (a_h3k, .inl (T 0, 18, .inl r.2.2.2.2.2.2.2.2.2.2.2.2.2.2.2.2.2.2.1)), (a_h4w, .inl (T 0, 90, .inl r.2.2.2.2.2.2.2.2.2.2.2.2.2.2.2.2.2.2.2.1)), (a_h4k, .inl (T 0, 18, .inl r.2.2.2.2.2.2.2.2.2.2.2.2.2.2.2.2.2.2.2.2.1)), (a_h5w, .inl (T 0, 90, .inl r.2.2.2.2.2.2.2.2.2.2.2.2.2.2.2.2.2.2.2.2.2.1)), (a_h5k, .inl (T 0, 18, .inl r.2.2.2.2.2.2.2.2.2.2.2.2.2.2.2.2.2.2.2.2.2.2)), (a_hp, .inl (T 3, 6, .inr (.inr (.inr (.inr (hpF a_h0 a_h1 a_h2 a_h3 a_h4 a_h5))))))] [.ref a_x, .int p0, .int p1, .int p2] r.1 r.2.1 := by
  unfold fX7_strike at h
  refine thMetI hnt (by decide +kernel) rfl (fun p e s m args below meth c Q A C hE hA hZ hP hD hS hret ls hl => ?_)
  have hx := C.1
  have hb := C.2.1
  have hl : lv_has ls 5 [(0, .ref a_x), (1, .int p0), (2, .int p1), (3, .int p2)] := hl
  refine lv_aload_n hx hb dX7_strike_0 rfl (lv_at hl 0 rfl) ?_
  refine getF (q0 := 10) (k0 := 6) (v := .ref a_u) C hE hP inA7 rfl rfl (by decide) qFX7_50 rfl rfl dX7_strike_1 ?_
  refine lv_iload_n hx hb dX7_strike_4 rfl (lv_at hl 1 rfl) ?_
  refine lv_iload_n hx hb dX7_strike_5 rfl (lv_at hl 2 rfl) ?_
  refine lv_iload_n hx hb dX7_strike_6 rfl (lv_at hl 3 rfl) ?_
  obtain ⟨q1, e2, h⟩ := bnd h
  refine wrVi (ws1 := [(a_g, .inr (1, [.ref a_gw, .ref a_gk])), (a_h0, .inr (1, [.ref a_h0w, .ref a_h0k])), (a_h1, .inr (1, [.ref a_h1w, .ref a_h1k])), (a_h2, .inr (1, [.ref a_h2w, .ref a_h2k])), (a_h3, .inr (1, [.ref a_h3w, .ref a_h3k])), (a_h4, .inr (1, [.ref a_h4w, .ref a_h4k])), (a_h5, .inr (1, [.ref a_h5w, .ref a_h5k])), (a_f, .inr (0, [.ref a_g, .int f_net])), (a_u, .inr (6, [.ref a_g, .ref a_r, .int q1.2])), (a_h, .inr (2, [.ref a_hp, .int h_old, .int h_siz])), (a_x, .inr (7, [.ref a_g, .ref a_b, .ref a_v, .ref a_h, .ref a_r, .ref a_f, .ref a_u, .ref a_t, .ref a_n, .int x_sav, .int x_err, .int x_rea, .int x_det, .int x_com])), (a_gw, .inl (T 0, 90, .inl v_gw)), (a_gk, .inl (T 0, 18, .inl v_gk)), (a_h0w, .inl (T 0, 90, .inl v_h0w)), (a_h0k, .inl (T 0, 18, .inl v_h0k)), (a_h1w, .inl (T 0, 90, .inl v_h1w)), (a_h1k, .inl (T 0, 18, .inl v_h1k)), (a_h2w, .inl (T 0, 90, .inl v_h2w)), (a_h2k, .inl (T 0, 18, .inl v_h2k)), (a_h3w, .inl (T 0, 90, .inl v_h3w)), (a_h3k, .inl (T 0, 18, .inl v_h3k)), (a_h4w, .inl (T 0, 90, .inl v_h4w)), (a_h4k, .inl (T 0, 18, .inl v_h4k)), (a_h5w, .inl (T 0, 90, .inl v_h5w)), (a_h5k, .inl (T 0, 18, .inl v_h5k)), (a_hp, .inl (T 3, 6, .inr (.inr (.inr (.inr (hpF a_h0 a_h1 a_h2 a_h3 a_h4 a_h5))))))]) C hE hP hD hS hA (kX6_hitFault l D T a_g a_gw a_gk a_u a_r u_det v_gw v_gk p0 p1 p2 _ q1 e2) mX6_hitFault qLX7_118 [0, 8, 11, 12] [1, 2, 3, 4, 5, 6, 7, 9, 10, 13, 14, 15, 16, 17, 18, 19, 20, 21, 22, 23, 24, 25] 8 rfl rfl rfl rfl rfl rfl rfl rfl rfl ⟨rfl, rfl⟩ ⟨Nat.le_of_ble_eq_true rfl, Nat.le_of_ble_eq_true rfl⟩ rfl hl.1 rfl (Nat.le_of_ble_eq_true rfl) dX7_strike_7 ⟨Nat.le_of_ble_eq_true rfl, Nat.le_of_ble_eq_true rfl⟩ (fun H locs hP hD hS => ?_)
  refine lv_istore (lv' := [(4, .int q1.1), (0, .ref a_x), (1, .int p0), (2, .int p1), (3, .int p2)]) hx hb dX7_strike_10 hl (by decide) rfl (fun ls hl => ?_)
  refine lv_aload_n hx hb dX7_strike_12 rfl (lv_at hl 1 rfl) ?_
  refine lv_iload hx hb dX7_strike_13 (lv_at hl 0 rfl) ?_
  obtain ⟨q3, e4, h⟩ := bnd h
  refine thVv (ws1 := [(a_g, .inr (1, [.ref a_gw, .ref a_gk])), (a_h0, .inr (1, [.ref a_h0w, .ref a_h0k])), (a_h1, .inr (1, [.ref a_h1w, .ref a_h1k])), (a_h2, .inr (1, [.ref a_h2w, .ref a_h2k])), (a_h3, .inr (1, [.ref a_h3w, .ref a_h3k])), (a_h4, .inr (1, [.ref a_h4w, .ref a_h4k])), (a_h5, .inr (1, [.ref a_h5w, .ref a_h5k])), (a_f, .inr (0, [.ref a_g, .int f_net])), (a_u, .inr (6, [.ref a_g, .ref a_r, .int q1.2])), (a_h, .inr (2, [.ref a_hp, .int h_old, .int h_siz])), (a_x, .inr (7, [.ref a_g, .ref a_b, .ref a_v, .ref a_h, .ref a_r, .ref a_f, .ref a_u, .ref a_t, .ref a_n, .int x_sav, .int x_err, .int x_rea, .int x_det, .int x_com])), (a_gw, .inl (T 0, 90, .inl v_gw)), (a_gk, .inl (T 0, 18, .inl v_gk)), (a_h0w, .inl (T 0, 90, .inl v_h0w)), (a_h0k, .inl (T 0, 18, .inl v_h0k)), (a_h1w, .inl (T 0, 90, .inl v_h1w)), (a_h1k, .inl (T 0, 18, .inl v_h1k)), (a_h2w, .inl (T 0, 90, .inl v_h2w)), (a_h2k, .inl (T 0, 18, .inl v_h2k)), (a_h3w, .inl (T 0, 90, .inl v_h3w)), (a_h3k, .inl (T 0, 18, .inl v_h3k)), (a_h4w, .inl (T 0, 90, .inl v_h4w)), (a_h4k, .inl (T 0, 18, .inl v_h4k)), (a_h5w, .inl (T 0, 90, .inl v_h5w)), (a_h5k, .inl (T 0, 18, .inl v_h5k)), (a_hp, .inl (T 3, 6, .inr (.inr (.inr (.inr (hpF a_h0 a_h1 a_h2 a_h3 a_h4 a_h5))))))]) C hE hZ hP hD hS hA (kX7_demandThere l hZ.1 D T a_x q1.1 _ q3 e4) mX7_demandThere qLX7_106 [] [0, 1, 2, 3, 4, 5, 6, 7, 8, 9, 10, 11, 12, 13, 14, 15, 16, 17, 18, 19, 20, 21, 22, 23, 24, 25] 10 rfl rfl rfl rfl rfl rfl rfl rfl rfl ⟨Nat.le_of_ble_eq_true rfl, Nat.le_of_ble_eq_true rfl⟩ rfl hl.1 rfl (Nat.le_of_ble_eq_true rfl) dX7_strike_15 ⟨Nat.le_of_ble_eq_true rfl, Nat.le_of_ble_eq_true rfl⟩ (fun hx0 H locs ce q9 hP hD hS g1 g2 g3 => ?_) (fun hx0 H locs hP hD hS => ?_)
  · have h := ite_f (Nat.ne_of_gt hx0) h
    have h := Option.some.inj h
    exact hret.2.1 _ _ _ _ _ _ _ _ _ (Nat.le_of_ble_eq_true rfl) (Nat.le_of_ble_eq_true rfl) (by rw [← h]; exact hx0) (by rw [← h]; exact hP) hS g1 g2 (by rw [← h]; exact g3)
  · have h := ite_t hx0 h
    refine lv_aload_n hx hb dX7_strike_18 rfl (lv_at hl 1 rfl) ?_
    refine lv_iload hx hb dX7_strike_19 (lv_at hl 0 rfl) ?_
    obtain ⟨q5, e6, h⟩ := bnd h
    refine thVv (ws1 := [(a_g, .inr (1, [.ref a_gw, .ref a_gk])), (a_h0, .inr (1, [.ref a_h0w, .ref a_h0k])), (a_h1, .inr (1, [.ref a_h1w, .ref a_h1k])), (a_h2, .inr (1, [.ref a_h2w, .ref a_h2k])), (a_h3, .inr (1, [.ref a_h3w, .ref a_h3k])), (a_h4, .inr (1, [.ref a_h4w, .ref a_h4k])), (a_h5, .inr (1, [.ref a_h5w, .ref a_h5k])), (a_f, .inr (0, [.ref a_g, .int f_net])), (a_u, .inr (6, [.ref a_g, .ref a_r, .int q1.2])), (a_h, .inr (2, [.ref a_hp, .int h_old, .int h_siz])), (a_x, .inr (7, [.ref a_g, .ref a_b, .ref a_v, .ref a_h, .ref a_r, .ref a_f, .ref a_u, .ref a_t, .ref a_n, .int x_sav, .int x_err, .int x_rea, .int x_det, .int x_com])), (a_gw, .inl (T 0, 90, .inl v_gw)), (a_gk, .inl (T 0, 18, .inl v_gk)), (a_h0w, .inl (T 0, 90, .inl v_h0w)), (a_h0k, .inl (T 0, 18, .inl v_h0k)), (a_h1w, .inl (T 0, 90, .inl v_h1w)), (a_h1k, .inl (T 0, 18, .inl v_h1k)), (a_h2w, .inl (T 0, 90, .inl v_h2w)), (a_h2k, .inl (T 0, 18, .inl v_h2k)), (a_h3w, .inl (T 0, 90, .inl v_h3w)), (a_h3k, .inl (T 0, 18, .inl v_h3k)), (a_h4w, .inl (T 0, 90, .inl v_h4w)), (a_h4k, .inl (T 0, 18, .inl v_h4k)), (a_h5w, .inl (T 0, 90, .inl v_h5w)), (a_h5k, .inl (T 0, 18, .inl v_h5k)), (a_hp, .inl (T 3, 6, .inr (.inr (.inr (.inr (hpF a_h0 a_h1 a_h2 a_h3 a_h4 a_h5))))))]) C hE hZ hP hD hS hA (kX7_demandRange l hZ.1 D T a_x q1.1 _ q5 e6) mX7_demandRange qLX7_89 [] [0, 1, 2, 3, 4, 5, 6, 7, 8, 9, 10, 11, 12, 13, 14, 15, 16, 17, 18, 19, 20, 21, 22, 23, 24, 25] 10 rfl rfl rfl rfl rfl rfl rfl rfl rfl ⟨Nat.le_of_ble_eq_true rfl, Nat.le_of_ble_eq_true rfl⟩ rfl hl.1 rfl (Nat.le_of_ble_eq_true rfl) dX7_strike_21 ⟨Nat.le_of_ble_eq_true rfl, Nat.le_of_ble_eq_true rfl⟩ (fun hx0 H locs ce q9 hP hD hS g1 g2 g3 => ?_) (fun hx0 H locs hP hD hS => ?_)
    · have h := ite_f (Nat.ne_of_gt hx0) h
      have h := Option.some.inj h
      exact hret.2.1 _ _ _ _ _ _ _ _ _ (Nat.le_of_ble_eq_true rfl) (Nat.le_of_ble_eq_true rfl) (by rw [← h]; exact hx0) (by rw [← h]; exact hP) hS g1 g2 (by rw [← h]; exact g3)
    · have h := ite_t hx0 h
      refine lv_aload_n hx hb dX7_strike_24 rfl (lv_at hl 1 rfl) ?_
      refine lv_iload hx hb dX7_strike_25 (lv_at hl 0 rfl) ?_
      obtain ⟨q7, e8, h⟩ := bnd h
      refine thVv (ws1 := [(a_g, .inr (1, [.ref a_gw, .ref a_gk])), (a_h0, .inr (1, [.ref a_h0w, .ref a_h0k])), (a_h1, .inr (1, [.ref a_h1w, .ref a_h1k])), (a_h2, .inr (1, [.ref a_h2w, .ref a_h2k])), (a_h3, .inr (1, [.ref a_h3w, .ref a_h3k])), (a_h4, .inr (1, [.ref a_h4w, .ref a_h4k])), (a_h5, .inr (1, [.ref a_h5w, .ref a_h5k])), (a_f, .inr (0, [.ref a_g, .int f_net])), (a_u, .inr (6, [.ref a_g, .ref a_r, .int q1.2])), (a_h, .inr (2, [.ref a_hp, .int h_old, .int h_siz])), (a_x, .inr (7, [.ref a_g, .ref a_b, .ref a_v, .ref a_h, .ref a_r, .ref a_f, .ref a_u, .ref a_t, .ref a_n, .int x_sav, .int x_err, .int q7.2.1, .int q7.2.2.1, .int q7.2.2.2])), (a_gw, .inl (T 0, 90, .inl v_gw)), (a_gk, .inl (T 0, 18, .inl v_gk)), (a_h0w, .inl (T 0, 90, .inl v_h0w)), (a_h0k, .inl (T 0, 18, .inl v_h0k)), (a_h1w, .inl (T 0, 90, .inl v_h1w)), (a_h1k, .inl (T 0, 18, .inl v_h1k)), (a_h2w, .inl (T 0, 90, .inl v_h2w)), (a_h2k, .inl (T 0, 18, .inl v_h2k)), (a_h3w, .inl (T 0, 90, .inl v_h3w)), (a_h3k, .inl (T 0, 18, .inl v_h3k)), (a_h4w, .inl (T 0, 90, .inl v_h4w)), (a_h4k, .inl (T 0, 18, .inl v_h4k)), (a_h5w, .inl (T 0, 90, .inl v_h5w)), (a_h5k, .inl (T 0, 18, .inl v_h5k)), (a_hp, .inl (T 3, 6, .inr (.inr (.inr (.inr (hpF a_h0 a_h1 a_h2 a_h3 a_h4 a_h5))))))]) C hE hZ hP hD hS hA (kX7_demandAllowed l hZ.1 D T a_u a_g a_r a_x a_b a_v a_h a_f a_t a_n q1.2 x_sav x_err x_rea x_det x_com q1.1 _ q7 e8) mX7_demandAllowed qLX7_93 [8, 10] [0, 1, 2, 3, 4, 5, 6, 7, 9, 11, 12, 13, 14, 15, 16, 17, 18, 19, 20, 21, 22, 23, 24, 25] 10 rfl rfl rfl rfl rfl rfl rfl rfl rfl ⟨Nat.le_of_ble_eq_true rfl, Nat.le_of_ble_eq_true rfl⟩ rfl hl.1 rfl (Nat.le_of_ble_eq_true rfl) dX7_strike_27 ⟨Nat.le_of_ble_eq_true rfl, Nat.le_of_ble_eq_true rfl⟩ (fun hx0 H locs ce q9 hP hD hS g1 g2 g3 => ?_) (fun hx0 H locs hP hD hS => ?_)
      · have h := ite_f (Nat.ne_of_gt hx0) h
        have h := Option.some.inj h
        exact hret.2.1 _ _ _ _ _ _ _ _ _ (Nat.le_of_ble_eq_true rfl) (Nat.le_of_ble_eq_true rfl) (by rw [← h]; exact hx0) (by rw [← h]; exact hP) hS g1 g2 (by rw [← h]; exact g3)
      · have h := ite_t hx0 h
        refine lv_aload_n hx hb dX7_strike_30 rfl (lv_at hl 1 rfl) ?_
        refine getF (q0 := 10) (k0 := 3) (v := .ref a_h) C hE hP inA7 rfl rfl (by decide) qFX7_25 rfl rfl dX7_strike_31 ?_
        refine lv_aload_n hx hb dX7_strike_34 rfl (lv_at hl 1 rfl) ?_
        refine getF (q0 := 10) (k0 := 0) (v := .ref a_g) C hE hP inA7 rfl rfl (by decide) qFX7_10 rfl rfl dX7_strike_35 ?_
        obtain ⟨q9, e10, h⟩ := bnd h
        refine wrVv (ws1 := [(a_g, .inr (1, [.ref a_gw, .ref a_gk])), (a_h0, .inr (1, [.ref a_h0w, .ref a_h0k])), (a_h1, .inr (1, [.ref a_h1w, .ref a_h1k])), (a_h2, .inr (1, [.ref a_h2w, .ref a_h2k])), (a_h3, .inr (1, [.ref a_h3w, .ref a_h3k])), (a_h4, .inr (1, [.ref a_h4w, .ref a_h4k])), (a_h5, .inr (1, [.ref a_h5w, .ref a_h5k])), (a_f, .inr (0, [.ref a_g, .int f_net])), (a_u, .inr (6, [.ref a_g, .ref a_r, .int q1.2])), (a_h, .inr (2, [.ref a_hp, .int q9.1, .int q9.2.1])), (a_x, .inr (7, [.ref a_g, .ref a_b, .ref a_v, .ref a_h, .ref a_r, .ref a_f, .ref a_u, .ref a_t, .ref a_n, .int x_sav, .int x_err, .int q7.2.1, .int q7.2.2.1, .int q7.2.2.2])), (a_gw, .inl (T 0, 90, .inl v_gw)), (a_gk, .inl (T 0, 18, .inl v_gk)), (a_h0w, .inl (T 0, 90, .inl q9.2.2.1)), (a_h0k, .inl (T 0, 18, .inl q9.2.2.2.1)), (a_h1w, .inl (T 0, 90, .inl q9.2.2.2.2.1)), (a_h1k, .inl (T 0, 18, .inl q9.2.2.2.2.2.1)), (a_h2w, .inl (T 0, 90, .inl q9.2.2.2.2.2.2.1)), (a_h2k, .inl (T 0, 18, .inl q9.2.2.2.2.2.2.2.1)), (a_h3w, .inl (T 0, 90, .inl q9.2.2.2.2.2.2.2.2.1)), (a_h3k, .inl (T 0, 18, .inl q9.2.2.2.2.2.2.2.2.2.1)), (a_h4w, .inl (T 0, 90, .inl q9.2.2.2.2.2.2.2.2.2.2.1)), (a_h4k, .inl (T 0, 18, .inl q9.2.2.2.2.2.2.2.2.2.2.2.1)), (a_h5w, .inl (T 0, 90, .inl q9.2.2.2.2.2.2.2.2.2.2.2.2.1)), (a_h5k, .inl (T 0, 18, .inl q9.2.2.2.2.2.2.2.2.2.2.2.2.2)), (a_hp, .inl (T 3, 6, .inr (.inr (.inr (.inr (hpF a_h0 a_h1 a_h2 a_h3 a_h4 a_h5))))))]) C hE hP hD hS hA (kX2_remember l D T a_g a_gw a_gk a_h0 a_h0w a_h0k a_h1 a_h1w a_h1k a_h2 a_h2w a_h2k a_h3 a_h3w a_h3k a_h4 a_h4w a_h4k a_h5 a_h5w a_h5k a_h a_hp h_old h_siz v_gw v_gk v_h0w v_h0k v_h1w v_h1k v_h2w v_h2k v_h3w v_h3k v_h4w v_h4k v_h5w v_h5k _ q9 e10) mX2_remember qLX7_96 [0, 1, 2, 3, 4, 5, 6, 9, 11, 12, 13, 14, 15, 16, 17, 18, 19, 20, 21, 22, 23, 24, 25] [7, 8, 10] 9 rfl rfl rfl rfl rfl rfl rfl rfl rfl ⟨rfl, rfl⟩ ⟨Nat.le_of_ble_eq_true rfl, Nat.le_of_ble_eq_true rfl⟩ rfl hl.1 rfl (Nat.le_of_ble_eq_true rfl) dX7_strike_38 ⟨Nat.le_of_ble_eq_true rfl, Nat.le_of_ble_eq_true rfl⟩ (fun H locs hP hD hS => ?_)
        refine lv_aload_n hx hb dX7_strike_41 rfl (lv_at hl 1 rfl) ?_
        refine lv_iload_n hx hb dX7_strike_42 rfl (lv_at hl 2 rfl) ?_
        refine lv_iload_n hx hb dX7_strike_43 rfl (lv_at hl 3 rfl) ?_
        refine lv_iload_n hx hb dX7_strike_44 rfl (lv_at hl 4 rfl) ?_
        obtain ⟨q11, e12, h⟩ := bnd h
        refine wrVi (ws1 := [(a_g, .inr (1, [.ref a_gw, .ref a_gk])), (a_h0, .inr (1, [.ref a_h0w, .ref a_h0k])), (a_h1, .inr (1, [.ref a_h1w, .ref a_h1k])), (a_h2, .inr (1, [.ref a_h2w, .ref a_h2k])), (a_h3, .inr (1, [.ref a_h3w, .ref a_h3k])), (a_h4, .inr (1, [.ref a_h4w, .ref a_h4k])), (a_h5, .inr (1, [.ref a_h5w, .ref a_h5k])), (a_f, .inr (0, [.ref a_g, .int q11.2.1])), (a_u, .inr (6, [.ref a_g, .ref a_r, .int q1.2])), (a_h, .inr (2, [.ref a_hp, .int q9.1, .int q9.2.1])), (a_x, .inr (7, [.ref a_g, .ref a_b, .ref a_v, .ref a_h, .ref a_r, .ref a_f, .ref a_u, .ref a_t, .ref a_n, .int x_sav, .int x_err, .int q7.2.1, .int q7.2.2.1, .int q7.2.2.2])), (a_gw, .inl (T 0, 90, .inl q11.2.2.1)), (a_gk, .inl (T 0, 18, .inl q11.2.2.2)), (a_h0w, .inl (T 0, 90, .inl q9.2.2.1)), (a_h0k, .inl (T 0, 18, .inl q9.2.2.2.1)), (a_h1w, .inl (T 0, 90, .inl q9.2.2.2.2.1)), (a_h1k, .inl (T 0, 18, .inl q9.2.2.2.2.2.1)), (a_h2w, .inl (T 0, 90, .inl q9.2.2.2.2.2.2.1)), (a_h2k, .inl (T 0, 18, .inl q9.2.2.2.2.2.2.2.1)), (a_h3w, .inl (T 0, 90, .inl q9.2.2.2.2.2.2.2.2.1)), (a_h3k, .inl (T 0, 18, .inl q9.2.2.2.2.2.2.2.2.2.1)), (a_h4w, .inl (T 0, 90, .inl q9.2.2.2.2.2.2.2.2.2.2.1)), (a_h4k, .inl (T 0, 18, .inl q9.2.2.2.2.2.2.2.2.2.2.2.1)), (a_h5w, .inl (T 0, 90, .inl q9.2.2.2.2.2.2.2.2.2.2.2.2.1)), (a_h5k, .inl (T 0, 18, .inl q9.2.2.2.2.2.2.2.2.2.2.2.2.2)), (a_hp, .inl (T 3, 6, .inr (.inr (.inr (.inr (hpF a_h0 a_h1 a_h2 a_h3 a_h4 a_h5))))))]) C hE hP hD hS hA (kX7_hitBuoy l D T a_g a_gw a_gk a_f a_x a_b a_v a_h a_r a_u a_t a_n f_net x_sav x_err q7.2.1 q7.2.2.1 q7.2.2.2 v_gw v_gk p0 p1 p2 _ q11 e12) mX7_hitBuoy qLX7_121 [0, 7, 10, 11, 12] [1, 2, 3, 4, 5, 6, 8, 9, 13, 14, 15, 16, 17, 18, 19, 20, 21, 22, 23, 24, 25] 10 rfl rfl rfl rfl rfl rfl rfl rfl rfl ⟨rfl, rfl⟩ ⟨Nat.le_of_ble_eq_true rfl, Nat.le_of_ble_eq_true rfl⟩ rfl hl.1 rfl (Nat.le_of_ble_eq_true rfl) dX7_strike_45 ⟨Nat.le_of_ble_eq_true rfl, Nat.le_of_ble_eq_true rfl⟩ (fun H locs hP hD hS => ?_)
        have h := Option.some.inj h
        exact hret.1 _ _ _ _ _ _ _ _ (Nat.le_of_ble_eq_true rfl) (Nat.le_of_ble_eq_true rfl) dX7_strike_48 rfl (by rw [← h]) (by rw [← h] <;> rfl) (by rw [← h]; exact hP) hS

def fX7_sing (u_det : Int32) (h_old : Int32) (h_siz : Int32) (x_rea : Int32) (x_det : Int32) (x_com : Int32) (v_gw : Nat → Int32) (v_gk : Nat → Int32) (v_h0w : Nat → Int32) (v_h0k : Nat → Int32) (v_h1w : Nat → Int32) (v_h1k : Nat → Int32) (v_h2w : Nat → Int32) (v_h2k : Nat → Int32) (v_h3w : Nat → Int32) (v_h3k : Nat → Int32) (v_h4w : Nat → Int32) (v_h4k : Nat → Int32) (v_h5w : Nat → Int32) (v_h5k : Nat → Int32) (p0 : Int32) : Option (Nat × Int32 × Int32 × Int32 × Int32 × Int32 × Int32 × Int32 × (Nat → Int32) × (Nat → Int32) × (Nat → Int32) × (Nat → Int32) × (Nat → Int32) × (Nat → Int32) × (Nat → Int32) × (Nat → Int32) × (Nat → Int32) × (Nat → Int32) × (Nat → Int32) × (Nat → Int32) × (Nat → Int32) × (Nat → Int32)) :=
  (fX6_songFault u_det v_gw v_gk p0).bind fun q1 =>
  (fX7_demandThere q1.1).bind fun q3 =>
  if q3 = 0 then
    (fX7_demandAllowed q1.2 x_rea x_det x_com q1.1).bind fun q5 =>
    if q5.1 = 0 then
      (fX2_remember h_old h_siz v_gw v_gk v_h0w v_h0k v_h1w v_h1k v_h2w v_h2k v_h3w v_h3k v_h4w v_h4k v_h5w v_h5k).bind fun q7 =>
      (fX1_startSong v_gw v_gk p0).bind fun q9 =>
      some (0, q9.1, q1.2, q7.1, q7.2.1, q5.2.1, q5.2.2.1, q5.2.2.2, q9.2.1, q9.2.2, q7.2.2.1, q7.2.2.2.1, q7.2.2.2.2.1, q7.2.2.2.2.2.1, q7.2.2.2.2.2.2.1, q7.2.2.2.2.2.2.2.1, q7.2.2.2.2.2.2.2.2.1, q7.2.2.2.2.2.2.2.2.2.1, q7.2.2.2.2.2.2.2.2.2.2.1, q7.2.2.2.2.2.2.2.2.2.2.2.1, q7.2.2.2.2.2.2.2.2.2.2.2.2.1, q7.2.2.2.2.2.2.2.2.2.2.2.2.2)
    else
      some (q5.1, 0, q1.2, h_old, h_siz, q5.2.1, q5.2.2.1, q5.2.2.2, v_gw, v_gk, v_h0w, v_h0k, v_h1w, v_h1k, v_h2w, v_h2k, v_h3w, v_h3k, v_h4w, v_h4k, v_h5w, v_h5k)
  else
    some (q3, 0, q1.2, h_old, h_siz, x_rea, x_det, x_com, v_gw, v_gk, v_h0w, v_h0k, v_h1w, v_h1k, v_h2w, v_h2k, v_h3w, v_h3k, v_h4w, v_h4k, v_h5w, v_h5k)
set_option maxHeartbeats 4000000 in
set_option maxRecDepth 100000 in
theorem kX7_sing (l : Launch) (hnt : l.stackTraces = false) (D : va_G) (T : Nat → ClassId) (a_g a_gw a_gk a_h0 a_h0w a_h0k a_h1 a_h1w a_h1k a_h2 a_h2w a_h2k a_h3 a_h3w a_h3k a_h4 a_h4w a_h4k a_h5 a_h5w a_h5k a_u a_r a_h a_hp a_x a_b a_v a_f a_t a_n : Nat) (u_det : Int32) (h_old : Int32) (h_siz : Int32) (x_sav : Int32) (x_err : Int32) (x_rea : Int32) (x_det : Int32) (x_com : Int32) (v_gw : Nat → Int32) (v_gk : Nat → Int32) (v_h0w : Nat → Int32) (v_h0k : Nat → Int32) (v_h1w : Nat → Int32) (v_h1k : Nat → Int32) (v_h2w : Nat → Int32) (v_h2k : Nat → Int32) (v_h3w : Nat → Int32) (v_h3k : Nat → Int32) (v_h4w : Nat → Int32) (v_h4k : Nat → Int32) (v_h5w : Nat → Int32) (v_h5k : Nat → Int32) (p0 : Int32) (sz : Nat) (r : Nat × Int32 × Int32 × Int32 × Int32 × Int32 × Int32 × Int32 × (Nat → Int32) × (Nat → Int32) × (Nat → Int32) × (Nat → Int32) × (Nat → Int32) × (Nat → Int32) × (Nat → Int32) × (Nat → Int32) × (Nat → Int32) × (Nat → Int32) × (Nat → Int32) × (Nat → Int32) × (Nat → Int32) × (Nat → Int32)) (h : fX7_sing u_det h_old h_siz x_rea x_det x_com v_gw v_gk v_h0w v_h0k v_h1w v_h1k v_h2w v_h2k v_h3w v_h3k v_h4w v_h4k v_h5w v_h5k p0 = some r) : ThI l yX7_sing cX7_sing 3 .int ({ frames := 7, cells := 2, slots := 12, locals := 143 } : Room) D T sz [(a_g, .inr (1, [.ref a_gw, .ref a_gk])), (a_h0, .inr (1, [.ref a_h0w, .ref a_h0k])), (a_h1, .inr (1, [.ref a_h1w, .ref a_h1k])), (a_h2, .inr (1, [.ref a_h2w, .ref a_h2k])), (a_h3, .inr (1, [.ref a_h3w, .ref a_h3k])), (a_h4, .inr (1, [.ref a_h4w, .ref a_h4k])), (a_h5, .inr (1, [.ref a_h5w, .ref a_h5k])), (a_u, .inr (6, [.ref a_g, .ref a_r, .int u_det])), (a_h, .inr (2, [.ref a_hp, .int h_old, .int h_siz])), (a_x, .inr (7, [.ref a_g, .ref a_b, .ref a_v, .ref a_h, .ref a_r, .ref a_f, .ref a_u, .ref a_t, .ref a_n, .int x_sav, .int x_err, .int x_rea, .int x_det, .int x_com])), (a_gw, .inl (T 0, 90, .inl v_gw)), (a_gk, .inl (T 0, 18, .inl v_gk)), (a_h0w, .inl (T 0, 90, .inl v_h0w)), (a_h0k, .inl (T 0, 18, .inl v_h0k)), (a_h1w, .inl (T 0, 90, .inl v_h1w)), (a_h1k, .inl (T 0, 18, .inl v_h1k)), (a_h2w, .inl (T 0, 90, .inl v_h2w)), (a_h2k, .inl (T 0, 18, .inl v_h2k)), (a_h3w, .inl (T 0, 90, .inl v_h3w)), (a_h3k, .inl (T 0, 18, .inl v_h3k)), (a_h4w, .inl (T 0, 90, .inl v_h4w)), (a_h4k, .inl (T 0, 18, .inl v_h4k)), (a_h5w, .inl (T 0, 90, .inl v_h5w)), (a_h5k, .inl (T 0, 18, .inl v_h5k)), (a_hp, .inl (T 3, 6, .inr (.inr (.inr (.inr (hpF a_h0 a_h1 a_h2 a_h3 a_h4 a_h5))))))] [(a_g, .inr (1, [.ref a_gw, .ref a_gk])), (a_h0, .inr (1, [.ref a_h0w, .ref a_h0k])), (a_h1, .inr (1, [.ref a_h1w, .ref a_h1k])), (a_h2, .inr (1, [.ref a_h2w, .ref a_h2k])), (a_h3, .inr (1, [.ref a_h3w, .ref a_h3k])), (a_h4, .inr (1, [.ref a_h4w, .ref a_h4k])), (a_h5, .inr (1, [.ref a_h5w, .ref a_h5k])), (a_u, .inr (6, [.ref a_g, .ref a_r, .int r.2.2.1])), (a_h, .inr (2, [.ref a_hp, .int r.2.2.2.1, .int r.2.2.2.2.1])), (a_x, .inr (7, [.ref a_g, .ref a_b, .ref a_v, .ref a_h, .ref a_r, .ref a_f, .ref a_u, .ref a_t, .ref a_n, .int x_sav, .int x_err, .int r.2.2.2.2.2.1, .int r.2.2.2.2.2.2.1, .int r.2.2.2.2.2.2.2.1])), (a_gw, .inl (T 0, 90, .inl r.2.2.2.2.2.2.2.2.1)), (a_gk, .inl (T 0, 18, .inl r.2.2.2.2.2.2.2.2.2.1)), (a_h0w, .inl (T 0, 90, .inl r.2.2.2.2.2.2.2.2.2.2.1)), (a_h0k, .inl (T 0, 18, .inl r.2.2.2.2.2.2.2.2.2.2.2.1)), (a_h1w, .inl (T 0, 90, .inl r.2.2.2.2.2.2.2.2.2.2.2.2.1)), (a_h1k, .inl (T 0, 18, .inl r.2.2.2.2.2.2.2.2.2.2.2.2.2.1)), (a_h2w, .inl (T 0, 90, .inl r.2.2.2.2.2.2.2.2.2.2.2.2.2.2.1)), (a_h2k, .inl (T 0, 18, .inl r.2.2.2.2.2.2.2.2.2.2.2.2.2.2.2.1)), (a_h3w, .inl (T 0, 90, .inl r.2.2.2.2.2.2.2.2.2.2.2.2.2.2.2.2.1)), (a_h3k, .inl (T 0, 18, .inl r.2.2.2.2.2.2.2.2.2.2.2.2.2.2.2.2.2.1)), (a_h4w, .inl (T 0, 90, .inl r.2.2.2.2.2.2.2.2.2.2.2.2.2.2.2.2.2.2.1)), (a_h4k, .inl (T 0, 18, .inl r.2.2.2.2.2.2.2.2.2.2.2.2.2.2.2.2.2.2.2.1)), (a_h5w, .inl (T 0, 90, .inl r.2.2.2.2.2.2.2.2.2.2.2.2.2.2.2.2.2.2.2.2.1)), (a_h5k, .inl (T 0, 18, .inl r.2.2.2.2.2.2.2.2.2.2.2.2.2.2.2.2.2.2.2.2.2)), (a_hp, .inl (T 3, 6, .inr (.inr (.inr (.inr (hpF a_h0 a_h1 a_h2 a_h3 a_h4 a_h5))))))] [.ref a_x, .int p0] r.1 r.2.1 := by
  unfold fX7_sing at h
  refine thMetI hnt (by decide +kernel) rfl (fun p e s m args below meth c Q A C hE hA hZ hP hD hS hret ls hl => ?_)
  have hx := C.1
  have hb := C.2.1
  have hl : lv_has ls 3 [(0, .ref a_x), (1, .int p0)] := hl
  refine lv_aload_n hx hb dX7_sing_0 rfl (lv_at hl 0 rfl) ?_
  refine getF (q0 := 9) (k0 := 6) (v := .ref a_u) C hE hP inA7 rfl rfl (by decide) qFX7_50 rfl rfl dX7_sing_1 ?_
  refine lv_iload_n hx hb dX7_sing_4 rfl (lv_at hl 1 rfl) ?_
  obtain ⟨q1, e2, h⟩ := bnd h
  refine wrVi (ws1 := [(a_g, .inr (1, [.ref a_gw, .ref a_gk])), (a_h0, .inr (1, [.ref a_h0w, .ref a_h0k])), (a_h1, .inr (1, [.ref a_h1w, .ref a_h1k])), (a_h2, .inr (1, [.ref a_h2w, .ref a_h2k])), (a_h3, .inr (1, [.ref a_h3w, .ref a_h3k])), (a_h4, .inr (1, [.ref a_h4w, .ref a_h4k])), (a_h5, .inr (1, [.ref a_h5w, .ref a_h5k])), (a_u, .inr (6, [.ref a_g, .ref a_r, .int q1.2])), (a_h, .inr (2, [.ref a_hp, .int h_old, .int h_siz])), (a_x, .inr (7, [.ref a_g, .ref a_b, .ref a_v, .ref a_h, .ref a_r, .ref a_f, .ref a_u, .ref a_t, .ref a_n, .int x_sav, .int x_err, .int x_rea, .int x_det, .int x_com])), (a_gw, .inl (T 0, 90, .inl v_gw)), (a_gk, .inl (T 0, 18, .inl v_gk)), (a_h0w, .inl (T 0, 90, .inl v_h0w)), (a_h0k, .inl (T 0, 18, .inl v_h0k)), (a_h1w, .inl (T 0, 90, .inl v_h1w)), (a_h1k, .inl (T 0, 18, .inl v_h1k)), (a_h2w, .inl (T 0, 90, .inl v_h2w)), (a_h2k, .inl (T 0, 18, .inl v_h2k)), (a_h3w, .inl (T 0, 90, .inl v_h3w)), (a_h3k, .inl (T 0, 18, .inl v_h3k)), (a_h4w, .inl (T 0, 90, .inl v_h4w)), (a_h4k, .inl (T 0, 18, .inl v_h4k)), (a_h5w, .inl (T 0, 90, .inl v_h5w)), (a_h5k, .inl (T 0, 18, .inl v_h5k)), (a_hp, .inl (T 3, 6, .inr (.inr (.inr (.inr (hpF a_h0 a_h1 a_h2 a_h3 a_h4 a_h5))))))]) C hE hP hD hS hA (kX6_songFault l D T a_g a_gw a_gk a_u a_r u_det v_gw v_gk p0 _ q1 e2) mX6_songFault qLX7_124 [0, 7, 10, 11] [1, 2, 3, 4, 5, 6, 8, 9, 12, 13, 14, 15, 16, 17, 18, 19, 20, 21, 22, 23, 24] 7 rfl rfl rfl rfl rfl rfl rfl rfl rfl ⟨rfl, rfl⟩ ⟨Nat.le_of_ble_eq_true rfl, Nat.le_of_ble_eq_true rfl⟩ rfl hl.1 rfl (Nat.le_of_ble_eq_true rfl) dX7_sing_5 ⟨Nat.le_of_ble_eq_true rfl, Nat.le_of_ble_eq_true rfl⟩ (fun H locs hP hD hS => ?_)
  refine lv_istore_n (lv' := [(2, .int q1.1), (0, .ref a_x), (1, .int p0)]) hx hb dX7_sing_8 rfl hl (by decide) rfl (fun ls hl => ?_)
  refine lv_aload_n hx hb dX7_sing_9 rfl (lv_at hl 1 rfl) ?_
  refine lv_iload_n hx hb dX7_sing_10 rfl (lv_at hl 0 rfl) ?_
  obtain ⟨q3, e4, h⟩ := bnd h
  refine thVv (ws1 := [(a_g, .inr (1, [.ref a_gw, .ref a_gk])), (a_h0, .inr (1, [.ref a_h0w, .ref a_h0k])), (a_h1, .inr (1, [.ref a_h1w, .ref a_h1k])), (a_h2, .inr (1, [.ref a_h2w, .ref a_h2k])), (a_h3, .inr (1, [.ref a_h3w, .ref a_h3k])), (a_h4, .inr (1, [.ref a_h4w, .ref a_h4k])), (a_h5, .inr (1, [.ref a_h5w, .ref a_h5k])), (a_u, .inr (6, [.ref a_g, .ref a_r, .int q1.2])), (a_h, .inr (2, [.ref a_hp, .int h_old, .int h_siz])), (a_x, .inr (7, [.ref a_g, .ref a_b, .ref a_v, .ref a_h, .ref a_r, .ref a_f, .ref a_u, .ref a_t, .ref a_n, .int x_sav, .int x_err, .int x_rea, .int x_det, .int x_com])), (a_gw, .inl (T 0, 90, .inl v_gw)), (a_gk, .inl (T 0, 18, .inl v_gk)), (a_h0w, .inl (T 0, 90, .inl v_h0w)), (a_h0k, .inl (T 0, 18, .inl v_h0k)), (a_h1w, .inl (T 0, 90, .inl v_h1w)), (a_h1k, .inl (T 0, 18, .inl v_h1k)), (a_h2w, .inl (T 0, 90, .inl v_h2w)), (a_h2k, .inl (T 0, 18, .inl v_h2k)), (a_h3w, .inl (T 0, 90, .inl v_h3w)), (a_h3k, .inl (T 0, 18, .inl v_h3k)), (a_h4w, .inl (T 0, 90, .inl v_h4w)), (a_h4k, .inl (T 0, 18, .inl v_h4k)), (a_h5w, .inl (T 0, 90, .inl v_h5w)), (a_h5k, .inl (T 0, 18, .inl v_h5k)), (a_hp, .inl (T 3, 6, .inr (.inr (.inr (.inr (hpF a_h0 a_h1 a_h2 a_h3 a_h4 a_h5))))))]) C hE hZ hP hD hS hA (kX7_demandThere l hZ.1 D T a_x q1.1 _ q3 e4) mX7_demandThere qLX7_106 [] [0, 1, 2, 3, 4, 5, 6, 7, 8, 9, 10, 11, 12, 13, 14, 15, 16, 17, 18, 19, 20, 21, 22, 23, 24] 9 rfl rfl rfl rfl rfl rfl rfl rfl rfl ⟨Nat.le_of_ble_eq_true rfl, Nat.le_of_ble_eq_true rfl⟩ rfl hl.1 rfl (Nat.le_of_ble_eq_true rfl) dX7_sing_11 ⟨Nat.le_of_ble_eq_true rfl, Nat.le_of_ble_eq_true rfl⟩ (fun hx0 H locs ce q9 hP hD hS g1 g2 g3 => ?_) (fun hx0 H locs hP hD hS => ?_)
  · have h := ite_f (Nat.ne_of_gt hx0) h
    have h := Option.some.inj h
    exact hret.2.1 _ _ _ _ _ _ _ _ _ (Nat.le_of_ble_eq_true rfl) (Nat.le_of_ble_eq_true rfl) (by rw [← h]; exact hx0) (by rw [← h]; exact hP) hS g1 g2 (by rw [← h]; exact g3)
  · have h := ite_t hx0 h
    refine lv_aload_n hx hb dX7_sing_14 rfl (lv_at hl 1 rfl) ?_
    refine lv_iload_n hx hb dX7_sing_15 rfl (lv_at hl 0 rfl) ?_
    obtain ⟨q5, e6, h⟩ := bnd h
    refine thVv (ws1 := [(a_g, .inr (1, [.ref a_gw, .ref a_gk])), (a_h0, .inr (1, [.ref a_h0w, .ref a_h0k])), (a_h1, .inr (1, [.ref a_h1w, .ref a_h1k])), (a_h2, .inr (1, [.ref a_h2w, .ref a_h2k])), (a_h3, .inr (1, [.ref a_h3w, .ref a_h3k])), (a_h4, .inr (1, [.ref a_h4w, .ref a_h4k])), (a_h5, .inr (1, [.ref a_h5w, .ref a_h5k])), (a_u, .inr (6, [.ref a_g, .ref a_r, .int q1.2])), (a_h, .inr (2, [.ref a_hp, .int h_old, .int h_siz])), (a_x, .inr (7, [.ref a_g, .ref a_b, .ref a_v, .ref a_h, .ref a_r, .ref a_f, .ref a_u, .ref a_t, .ref a_n, .int x_sav, .int x_err, .int q5.2.1, .int q5.2.2.1, .int q5.2.2.2])), (a_gw, .inl (T 0, 90, .inl v_gw)), (a_gk, .inl (T 0, 18, .inl v_gk)), (a_h0w, .inl (T 0, 90, .inl v_h0w)), (a_h0k, .inl (T 0, 18, .inl v_h0k)), (a_h1w, .inl (T 0, 90, .inl v_h1w)), (a_h1k, .inl (T 0, 18, .inl v_h1k)), (a_h2w, .inl (T 0, 90, .inl v_h2w)), (a_h2k, .inl (T 0, 18, .inl v_h2k)), (a_h3w, .inl (T 0, 90, .inl v_h3w)), (a_h3k, .inl (T 0, 18, .inl v_h3k)), (a_h4w, .inl (T 0, 90, .inl v_h4w)), (a_h4k, .inl (T 0, 18, .inl v_h4k)), (a_h5w, .inl (T 0, 90, .inl v_h5w)), (a_h5k, .inl (T 0, 18, .inl v_h5k)), (a_hp, .inl (T 3, 6, .inr (.inr (.inr (.inr (hpF a_h0 a_h1 a_h2 a_h3 a_h4 a_h5))))))]) C hE hZ hP hD hS hA (kX7_demandAllowed l hZ.1 D T a_u a_g a_r a_x a_b a_v a_h a_f a_t a_n q1.2 x_sav x_err x_rea x_det x_com q1.1 _ q5 e6) mX7_demandAllowed qLX7_93 [7, 9] [0, 1, 2, 3, 4, 5, 6, 8, 10, 11, 12, 13, 14, 15, 16, 17, 18, 19, 20, 21, 22, 23, 24] 9 rfl rfl rfl rfl rfl rfl rfl rfl rfl ⟨Nat.le_of_ble_eq_true rfl, Nat.le_of_ble_eq_true rfl⟩ rfl hl.1 rfl (Nat.le_of_ble_eq_true rfl) dX7_sing_16 ⟨Nat.le_of_ble_eq_true rfl, Nat.le_of_ble_eq_true rfl⟩ (fun hx0 H locs ce q9 hP hD hS g1 g2 g3 => ?_) (fun hx0 H locs hP hD hS => ?_)
    · have h := ite_f (Nat.ne_of_gt hx0) h
      have h := Option.some.inj h
      exact hret.2.1 _ _ _ _ _ _ _ _ _ (Nat.le_of_ble_eq_true rfl) (Nat.le_of_ble_eq_true rfl) (by rw [← h]; exact hx0) (by rw [← h]; exact hP) hS g1 g2 (by rw [← h]; exact g3)
    · have h := ite_t hx0 h
      refine lv_aload_n hx hb dX7_sing_19 rfl (lv_at hl 1 rfl) ?_
      refine getF (q0 := 9) (k0 := 3) (v := .ref a_h) C hE hP inA7 rfl rfl (by decide) qFX7_25 rfl rfl dX7_sing_20 ?_
      refine lv_aload_n hx hb dX7_sing_23 rfl (lv_at hl 1 rfl) ?_
      refine getF (q0 := 9) (k0 := 0) (v := .ref a_g) C hE hP inA7 rfl rfl (by decide) qFX7_10 rfl rfl dX7_sing_24 ?_
      obtain ⟨q7, e8, h⟩ := bnd h
      refine wrVv (ws1 := [(a_g, .inr (1, [.ref a_gw, .ref a_gk])), (a_h0, .inr (1, [.ref a_h0w, .ref a_h0k])), (a_h1, .inr (1, [.ref a_h1w, .ref a_h1k])), (a_h2, .inr (1, [.ref a_h2w, .ref a_h2k])), (a_h3, .inr (1, [.ref a_h3w, .ref a_h3k])), (a_h4, .inr (1, [.ref a_h4w, .ref a_h4k])), (a_h5, .inr (1, [.ref a_h5w, .ref a_h5k])), (a_u, .inr (6, [.ref a_g, .ref a_r, .int q1.2])), (a_h, .inr (2, [.ref a_hp, .int q7.1, .int q7.2.1])), (a_x, .inr (7, [.ref a_g, .ref a_b, .ref a_v, .ref a_h, .ref a_r, .ref a_f, .ref a_u, .ref a_t, .ref a_n, .int x_sav, .int x_err, .int q5.2.1, .int q5.2.2.1, .int q5.2.2.2])), (a_gw, .inl (T 0, 90, .inl v_gw)), (a_gk, .inl (T 0, 18, .inl v_gk)), (a_h0w, .inl (T 0, 90, .inl q7.2.2.1)), (a_h0k, .inl (T 0, 18, .inl q7.2.2.2.1)), (a_h1w, .inl (T 0, 90, .inl q7.2.2.2.2.1)), (a_h1k, .inl (T 0, 18, .inl q7.2.2.2.2.2.1)), (a_h2w, .inl (T 0, 90, .inl q7.2.2.2.2.2.2.1)), (a_h2k, .inl (T 0, 18, .inl q7.2.2.2.2.2.2.2.1)), (a_h3w, .inl (T 0, 90, .inl q7.2.2.2.2.2.2.2.2.1)), (a_h3k, .inl (T 0, 18, .inl q7.2.2.2.2.2.2.2.2.2.1)), (a_h4w, .inl (T 0, 90, .inl q7.2.2.2.2.2.2.2.2.2.2.1)), (a_h4k, .inl (T 0, 18, .inl q7.2.2.2.2.2.2.2.2.2.2.2.1)), (a_h5w, .inl (T 0, 90, .inl q7.2.2.2.2.2.2.2.2.2.2.2.2.1)), (a_h5k, .inl (T 0, 18, .inl q7.2.2.2.2.2.2.2.2.2.2.2.2.2)), (a_hp, .inl (T 3, 6, .inr (.inr (.inr (.inr (hpF a_h0 a_h1 a_h2 a_h3 a_h4 a_h5))))))]) C hE hP hD hS hA (kX2_remember l D T a_g a_gw a_gk a_h0 a_h0w a_h0k a_h1 a_h1w a_h1k a_h2 a_h2w a_h2k a_h3 a_h3w a_h3k a_h4 a_h4w a_h4k a_h5 a_h5w a_h5k a_h a_hp h_old h_siz v_gw v_gk v_h0w v_h0k v_h1w v_h1k v_h2w v_h2k v_h3w v_h3k v_h4w v_h4k v_h5w v_h5k _ q7 e8) mX2_remember qLX7_96 [0, 1, 2, 3, 4, 5, 6, 8, 10, 11, 12, 13, 14, 15, 16, 17, 18, 19, 20, 21, 22, 23, 24] [7, 9] 8 rfl rfl rfl rfl rfl rfl rfl rfl rfl ⟨rfl, rfl⟩ ⟨Nat.le_of_ble_eq_true rfl, Nat.le_of_ble_eq_true rfl⟩ rfl hl.1 rfl (Nat.le_of_ble_eq_true rfl) dX7_sing_27 ⟨Nat.le_of_ble_eq_true rfl, Nat.le_of_ble_eq_true rfl⟩ (fun H locs hP hD hS => ?_)
      refine lv_aload_n hx hb dX7_sing_30 rfl (lv_at hl 1 rfl) ?_
      refine getF (q0 := 9) (k0 := 0) (v := .ref a_g) C hE hP inA7 rfl rfl (by decide) qFX7_10 rfl rfl dX7_sing_31 ?_
      refine lv_iload_n hx hb dX7_sing_34 rfl (lv_at hl 2 rfl) ?_
      obtain ⟨q9, e10, h⟩ := bnd h
      refine wrVi (ws1 := [(a_g, .inr (1, [.ref a_gw, .ref a_gk])), (a_h0, .inr (1, [.ref a_h0w, .ref a_h0k])), (a_h1, .inr (1, [.ref a_h1w, .ref a_h1k])), (a_h2, .inr (1, [.ref a_h2w, .ref a_h2k])), (a_h3, .inr (1, [.ref a_h3w, .ref a_h3k])), (a_h4, .inr (1, [.ref a_h4w, .ref a_h4k])), (a_h5, .inr (1, [.ref a_h5w, .ref a_h5k])), (a_u, .inr (6, [.ref a_g, .ref a_r, .int q1.2])), (a_h, .inr (2, [.ref a_hp, .int q7.1, .int q7.2.1])), (a_x, .inr (7, [.ref a_g, .ref a_b, .ref a_v, .ref a_h, .ref a_r, .ref a_f, .ref a_u, .ref a_t, .ref a_n, .int x_sav, .int x_err, .int q5.2.1, .int q5.2.2.1, .int q5.2.2.2])), (a_gw, .inl (T 0, 90, .inl q9.2.1)), (a_gk, .inl (T 0, 18, .inl q9.2.2)), (a_h0w, .inl (T 0, 90, .inl q7.2.2.1)), (a_h0k, .inl (T 0, 18, .inl q7.2.2.2.1)), (a_h1w, .inl (T 0, 90, .inl q7.2.2.2.2.1)), (a_h1k, .inl (T 0, 18, .inl q7.2.2.2.2.2.1)), (a_h2w, .inl (T 0, 90, .inl q7.2.2.2.2.2.2.1)), (a_h2k, .inl (T 0, 18, .inl q7.2.2.2.2.2.2.2.1)), (a_h3w, .inl (T 0, 90, .inl q7.2.2.2.2.2.2.2.2.1)), (a_h3k, .inl (T 0, 18, .inl q7.2.2.2.2.2.2.2.2.2.1)), (a_h4w, .inl (T 0, 90, .inl q7.2.2.2.2.2.2.2.2.2.2.1)), (a_h4k, .inl (T 0, 18, .inl q7.2.2.2.2.2.2.2.2.2.2.2.1)), (a_h5w, .inl (T 0, 90, .inl q7.2.2.2.2.2.2.2.2.2.2.2.2.1)), (a_h5k, .inl (T 0, 18, .inl q7.2.2.2.2.2.2.2.2.2.2.2.2.2)), (a_hp, .inl (T 3, 6, .inr (.inr (.inr (.inr (hpF a_h0 a_h1 a_h2 a_h3 a_h4 a_h5))))))]) C hE hP hD hS hA (kX1_startSong l D T a_g a_gw a_gk v_gw v_gk p0 _ q9 e10) mX1_startSong qLX7_128 [0, 10, 11] [1, 2, 3, 4, 5, 6, 7, 8, 9, 12, 13, 14, 15, 16, 17, 18, 19, 20, 21, 22, 23, 24] 0 rfl rfl rfl rfl rfl rfl rfl rfl rfl ⟨rfl, rfl⟩ ⟨Nat.le_of_ble_eq_true rfl, Nat.le_of_ble_eq_true rfl⟩ rfl hl.1 rfl (Nat.le_of_ble_eq_true rfl) dX7_sing_35 ⟨Nat.le_of_ble_eq_true rfl, Nat.le_of_ble_eq_true rfl⟩ (fun H locs hP hD hS => ?_)
      have h := Option.some.inj h
      exact hret.1 _ _ _ _ _ _ _ _ (Nat.le_of_ble_eq_true rfl) (Nat.le_of_ble_eq_true rfl) dX7_sing_38 rfl (by rw [← h]) (by rw [← h] <;> rfl) (by rw [← h]; exact hP) hS

def fX7_drift (u_det : Int32) (h_old : Int32) (h_siz : Int32) (x_rea : Int32) (x_det : Int32) (x_com : Int32) (v_gw : Nat → Int32) (v_gk : Nat → Int32) (v_h0w : Nat → Int32) (v_h0k : Nat → Int32) (v_h1w : Nat → Int32) (v_h1k : Nat → Int32) (v_h2w : Nat → Int32) (v_h2k : Nat → Int32) (v_h3w : Nat → Int32) (v_h3k : Nat → Int32) (v_h4w : Nat → Int32) (v_h4k : Nat → Int32) (v_h5w : Nat → Int32) (v_h5k : Nat → Int32) : Option (Nat × Int32 × Int32 × Int32 × Int32 × Int32 × Int32 × Int32 × (Nat → Int32) × (Nat → Int32) × (Nat → Int32) × (Nat → Int32) × (Nat → Int32) × (Nat → Int32) × (Nat → Int32) × (Nat → Int32) × (Nat → Int32) × (Nat → Int32) × (Nat → Int32) × (Nat → Int32) × (Nat → Int32) × (Nat → Int32)) :=
  (fX6_passFault u_det v_gk).bind fun q1 =>
  (fX7_demandAllowed q1.2 x_rea x_det x_com q1.1).bind fun q3 =>
  if q3.1 = 0 then
    (fX2_remember h_old h_siz v_gw v_gk v_h0w v_h0k v_h1w v_h1k v_h2w v_h2k v_h3w v_h3k v_h4w v_h4k v_h5w v_h5k).bind fun q5 =>
    (fX1_endStroke v_gw v_gk).bind fun q7 =>
    some (0, q7.1, q1.2, q5.1, q5.2.1, q3.2.1, q3.2.2.1, q3.2.2.2, q7.2.1, q7.2.2, q5.2.2.1, q5.2.2.2.1, q5.2.2.2.2.1, q5.2.2.2.2.2.1, q5.2.2.2.2.2.2.1, q5.2.2.2.2.2.2.2.1, q5.2.2.2.2.2.2.2.2.1, q5.2.2.2.2.2.2.2.2.2.1, q5.2.2.2.2.2.2.2.2.2.2.1, q5.2.2.2.2.2.2.2.2.2.2.2.1, q5.2.2.2.2.2.2.2.2.2.2.2.2.1, q5.2.2.2.2.2.2.2.2.2.2.2.2.2)
  else
    some (q3.1, 0, q1.2, h_old, h_siz, q3.2.1, q3.2.2.1, q3.2.2.2, v_gw, v_gk, v_h0w, v_h0k, v_h1w, v_h1k, v_h2w, v_h2k, v_h3w, v_h3k, v_h4w, v_h4k, v_h5w, v_h5k)
set_option maxHeartbeats 4000000 in
set_option maxRecDepth 100000 in
theorem kX7_drift (l : Launch) (hnt : l.stackTraces = false) (D : va_G) (T : Nat → ClassId) (a_g a_gw a_gk a_h0 a_h0w a_h0k a_h1 a_h1w a_h1k a_h2 a_h2w a_h2k a_h3 a_h3w a_h3k a_h4 a_h4w a_h4k a_h5 a_h5w a_h5k a_u a_r a_h a_hp a_x a_b a_v a_f a_t a_n : Nat) (u_det : Int32) (h_old : Int32) (h_siz : Int32) (x_sav : Int32) (x_err : Int32) (x_rea : Int32) (x_det : Int32) (x_com : Int32) (v_gw : Nat → Int32) (v_gk : Nat → Int32) (v_h0w : Nat → Int32) (v_h0k : Nat → Int32) (v_h1w : Nat → Int32) (v_h1k : Nat → Int32) (v_h2w : Nat → Int32) (v_h2k : Nat → Int32) (v_h3w : Nat → Int32) (v_h3k : Nat → Int32) (v_h4w : Nat → Int32) (v_h4k : Nat → Int32) (v_h5w : Nat → Int32) (v_h5k : Nat → Int32) (sz : Nat) (r : Nat × Int32 × Int32 × Int32 × Int32 × Int32 × Int32 × Int32 × (Nat → Int32) × (Nat → Int32) × (Nat → Int32) × (Nat → Int32) × (Nat → Int32) × (Nat → Int32) × (Nat → Int32) × (Nat → Int32) × (Nat → Int32) × (Nat → Int32) × (Nat → Int32) × (Nat → Int32) × (Nat → Int32) × (Nat → Int32)) (h : fX7_drift u_det h_old h_siz x_rea x_det x_com v_gw v_gk v_h0w v_h0k v_h1w v_h1k v_h2w v_h2k v_h3w v_h3k v_h4w v_h4k v_h5w v_h5k = some r) : ThI l yX7_drift cX7_drift 2 .int ({ frames := 7, cells := 1, slots := 6, locals := 143 } : Room) D T sz [(a_g, .inr (1, [.ref a_gw, .ref a_gk])), (a_h0, .inr (1, [.ref a_h0w, .ref a_h0k])), (a_h1, .inr (1, [.ref a_h1w, .ref a_h1k])), (a_h2, .inr (1, [.ref a_h2w, .ref a_h2k])), (a_h3, .inr (1, [.ref a_h3w, .ref a_h3k])), (a_h4, .inr (1, [.ref a_h4w, .ref a_h4k])), (a_h5, .inr (1, [.ref a_h5w, .ref a_h5k])), (a_u, .inr (6, [.ref a_g, .ref a_r, .int u_det])), (a_h, .inr (2, [.ref a_hp, .int h_old, .int h_siz])), (a_x, .inr (7, [.ref a_g, .ref a_b, .ref a_v, .ref a_h, .ref a_r, .ref a_f, .ref a_u, .ref a_t, .ref a_n, .int x_sav, .int x_err, .int x_rea, .int x_det, .int x_com])), (a_gw, .inl (T 0, 90, .inl v_gw)), (a_gk, .inl (T 0, 18, .inl v_gk)), (a_h0w, .inl (T 0, 90, .inl v_h0w)), (a_h0k, .inl (T 0, 18, .inl v_h0k)), (a_h1w, .inl (T 0, 90, .inl v_h1w)), (a_h1k, .inl (T 0, 18, .inl v_h1k)), (a_h2w, .inl (T 0, 90, .inl v_h2w)), (a_h2k, .inl (T 0, 18, .inl v_h2k)), (a_h3w, .inl (T 0, 90, .inl v_h3w)), (a_h3k, .inl (T 0, 18, .inl v_h3k)), (a_h4w, .inl (T 0, 90, .inl v_h4w)), (a_h4k, .inl (T 0, 18, .inl v_h4k)), (a_h5w, .inl (T 0, 90, .inl v_h5w)), (a_h5k, .inl (T 0, 18, .inl v_h5k)), (a_hp, .inl (T 3, 6, .inr (.inr (.inr (.inr (hpF a_h0 a_h1 a_h2 a_h3 a_h4 a_h5))))))] [(a_g, .inr (1, [.ref a_gw, .ref a_gk])), (a_h0, .inr (1, [.ref a_h0w, .ref a_h0k])), (a_h1, .inr (1, [.ref a_h1w, .ref a_h1k])), (a_h2, .inr (1, [.ref a_h2w, .ref a_h2k])), (a_h3, .inr (1, [.ref a_h3w, .ref a_h3k])), (a_h4, .inr (1, [.ref a_h4w, .ref a_h4k])), (a_h5, .inr (1, [.ref a_h5w, .ref a_h5k])), (a_u, .inr (6, [.ref a_g, .ref a_r, .int r.2.2.1])), (a_h, .inr (2, [.ref a_hp, .int r.2.2.2.1, .int r.2.2.2.2.1])), (a_x, .inr (7, [.ref a_g, .ref a_b, .ref a_v, .ref a_h, .ref a_r, .ref a_f, .ref a_u, .ref a_t, .ref a_n, .int x_sav, .int x_err, .int r.2.2.2.2.2.1, .int r.2.2.2.2.2.2.1, .int r.2.2.2.2.2.2.2.1])), (a_gw, .inl (T 0, 90, .inl r.2.2.2.2.2.2.2.2.1)), (a_gk, .inl (T 0, 18, .inl r.2.2.2.2.2.2.2.2.2.1)), (a_h0w, .inl (T 0, 90, .inl r.2.2.2.2.2.2.2.2.2.2.1)), (a_h0k, .inl (T 0, 18, .inl r.2.2.2.2.2.2.2.2.2.2.2.1)), (a_h1w, .inl (T 0, 90, .inl r.2.2.2.2.2.2.2.2.2.2.2.2.1)), (a_h1k, .inl (T 0, 18, .inl r.2.2.2.2.2.2.2.2.2.2.2.2.2.1)), (a_h2w, .inl (T 0, 90, .inl r.2.2.2.2.2.2.2.2.2.2.2.2.2.2.1)), (a_h2k, .inl (T 0, 18, .inl r.2.2.2.2.2.2.2.2.2.2.2.2.2.2.2.1)), (a_h3w, .inl (T 0, 90, .inl r.2.2.2.2.2.2.2.2.2.2.2.2.2.2.2.2.1)), (a_h3k, .inl (T 0, 18, .inl r.2.2.2.2.2.2.2.2.2.2.2.2.2.2.2.2.2.1)), (a_h4w, .inl (T 0, 90, .inl r.2.2.2.2.2.2.2.2.2.2.2.2.2.2.2.2.2.2.1)), (a_h4k, .inl (T 0, 18, .inl r.2.2.2.2.2.2.2.2.2.2.2.2.2.2.2.2.2.2.2.1)), (a_h5w, .inl (T 0, 90, .inl r.2.2.2.2.2.2.2.2.2.2.2.2.2.2.2.2.2.2.2.2.1)), (a_h5k, .inl (T 0, 18, .inl r.2.2.2.2.2.2.2.2.2.2.2.2.2.2.2.2.2.2.2.2.2)), (a_hp, .inl (T 3, 6, .inr (.inr (.inr (.inr (hpF a_h0 a_h1 a_h2 a_h3 a_h4 a_h5))))))] [.ref a_x] r.1 r.2.1 := by
  unfold fX7_drift at h
  refine thMetI hnt (by decide +kernel) rfl (fun p e s m args below meth c Q A C hE hA hZ hP hD hS hret ls hl => ?_)
  have hx := C.1
  have hb := C.2.1
  have hl : lv_has ls 2 [(0, .ref a_x)] := hl
  refine lv_aload_n hx hb dX7_drift_0 rfl (lv_at hl 0 rfl) ?_
  refine getF (q0 := 9) (k0 := 6) (v := .ref a_u) C hE hP inA7 rfl rfl (by decide) qFX7_50 rfl rfl dX7_drift_1 ?_
  obtain ⟨q1, e2, h⟩ := bnd h
  refine wrVi (ws1 := [(a_g, .inr (1, [.ref a_gw, .ref a_gk])), (a_h0, .inr (1, [.ref a_h0w, .ref a_h0k])), (a_h1, .inr (1, [.ref a_h1w, .ref a_h1k])), (a_h2, .inr (1, [.ref a_h2w, .ref a_h2k])), (a_h3, .inr (1, [.ref a_h3w, .ref a_h3k])), (a_h4, .inr (1, [.ref a_h4w, .ref a_h4k])), (a_h5, .inr (1, [.ref a_h5w, .ref a_h5k])), (a_u, .inr (6, [.ref a_g, .ref a_r, .int q1.2])), (a_h, .inr (2, [.ref a_hp, .int h_old, .int h_siz])), (a_x, .inr (7, [.ref a_g, .ref a_b, .ref a_v, .ref a_h, .ref a_r, .ref a_f, .ref a_u, .ref a_t, .ref a_n, .int x_sav, .int x_err, .int x_rea, .int x_det, .int x_com])), (a_gw, .inl (T 0, 90, .inl v_gw)), (a_gk, .inl (T 0, 18, .inl v_gk)), (a_h0w, .inl (T 0, 90, .inl v_h0w)), (a_h0k, .inl (T 0, 18, .inl v_h0k)), (a_h1w, .inl (T 0, 90, .inl v_h1w)), (a_h1k, .inl (T 0, 18, .inl v_h1k)), (a_h2w, .inl (T 0, 90, .inl v_h2w)), (a_h2k, .inl (T 0, 18, .inl v_h2k)), (a_h3w, .inl (T 0, 90, .inl v_h3w)), (a_h3k, .inl (T 0, 18, .inl v_h3k)), (a_h4w, .inl (T 0, 90, .inl v_h4w)), (a_h4k, .inl (T 0, 18, .inl v_h4k)), (a_h5w, .inl (T 0, 90, .inl v_h5w)), (a_h5k, .inl (T 0, 18, .inl v_h5k)), (a_hp, .inl (T 3, 6, .inr (.inr (.inr (.inr (hpF a_h0 a_h1 a_h2 a_h3 a_h4 a_h5))))))]) C hE hP hD hS hA (kX6_passFault l D T a_g a_gw a_gk a_u a_r u_det v_gk _ q1 e2) mX6_passFault qLX7_131 [0, 7, 11] [1, 2, 3, 4, 5, 6, 8, 9, 10, 12, 13, 14, 15, 16, 17, 18, 19, 20, 21, 22, 23, 24] 7 rfl rfl rfl rfl rfl rfl rfl rfl rfl ⟨rfl, rfl⟩ ⟨Nat.le_of_ble_eq_true rfl, Nat.le_of_ble_eq_true rfl⟩ rfl hl.1 rfl (Nat.le_of_ble_eq_true rfl) dX7_drift_4 ⟨Nat.le_of_ble_eq_true rfl, Nat.le_of_ble_eq_true rfl⟩ (fun H locs hP hD hS => ?_)
  refine lv_istore_n (lv' := [(1, .int q1.1), (0, .ref a_x)]) hx hb dX7_drift_7 rfl hl (by decide) rfl (fun ls hl => ?_)
  refine lv_aload_n hx hb dX7_drift_8 rfl (lv_at hl 1 rfl) ?_
  refine lv_iload_n hx hb dX7_drift_9 rfl (lv_at hl 0 rfl) ?_
  obtain ⟨q3, e4, h⟩ := bnd h
  refine thVv (ws1 := [(a_g, .inr (1, [.ref a_gw, .ref a_gk])), (a_h0, .inr (1, [.ref a_h0w, .ref a_h0k])), (a_h1, .inr (1, [.ref a_h1w, .ref a_h1k])), (a_h2, .inr (1, [.ref a_h2w, .ref a_h2k])), (a_h3, .inr (1, [.ref a_h3w, .ref a_h3k])), (a_h4, .inr (1, [.ref a_h4w, .ref a_h4k])), (a_h5, .inr (1, [.ref a_h5w, .ref a_h5k])), (a_u, .inr (6, [.ref a_g, .ref a_r, .int q1.2])), (a_h, .inr (2, [.ref a_hp, .int h_old, .int h_siz])), (a_x, .inr (7, [.ref a_g, .ref a_b, .ref a_v, .ref a_h, .ref a_r, .ref a_f, .ref a_u, .ref a_t, .ref a_n, .int x_sav, .int x_err, .int q3.2.1, .int q3.2.2.1, .int q3.2.2.2])), (a_gw, .inl (T 0, 90, .inl v_gw)), (a_gk, .inl (T 0, 18, .inl v_gk)), (a_h0w, .inl (T 0, 90, .inl v_h0w)), (a_h0k, .inl (T 0, 18, .inl v_h0k)), (a_h1w, .inl (T 0, 90, .inl v_h1w)), (a_h1k, .inl (T 0, 18, .inl v_h1k)), (a_h2w, .inl (T 0, 90, .inl v_h2w)), (a_h2k, .inl (T 0, 18, .inl v_h2k)), (a_h3w, .inl (T 0, 90, .inl v_h3w)), (a_h3k, .inl (T 0, 18, .inl v_h3k)), (a_h4w, .inl (T 0, 90, .inl v_h4w)), (a_h4k, .inl (T 0, 18, .inl v_h4k)), (a_h5w, .inl (T 0, 90, .inl v_h5w)), (a_h5k, .inl (T 0, 18, .inl v_h5k)), (a_hp, .inl (T 3, 6, .inr (.inr (.inr (.inr (hpF a_h0 a_h1 a_h2 a_h3 a_h4 a_h5))))))]) C hE hZ hP hD hS hA (kX7_demandAllowed l hZ.1 D T a_u a_g a_r a_x a_b a_v a_h a_f a_t a_n q1.2 x_sav x_err x_rea x_det x_com q1.1 _ q3 e4) mX7_demandAllowed qLX7_93 [7, 9] [0, 1, 2, 3, 4, 5, 6, 8, 10, 11, 12, 13, 14, 15, 16, 17, 18, 19, 20, 21, 22, 23, 24] 9 rfl rfl rfl rfl rfl rfl rfl rfl rfl ⟨Nat.le_of_ble_eq_true rfl, Nat.le_of_ble_eq_true rfl⟩ rfl hl.1 rfl (Nat.le_of_ble_eq_true rfl) dX7_drift_10 ⟨Nat.le_of_ble_eq_true rfl, Nat.le_of_ble_eq_true rfl⟩ (fun hx0 H locs ce q9 hP hD hS g1 g2 g3 => ?_) (fun hx0 H locs hP hD hS => ?_)
  · have h := ite_f (Nat.ne_of_gt hx0) h
    have h := Option.some.inj h
    exact hret.2.1 _ _ _ _ _ _ _ _ _ (Nat.le_of_ble_eq_true rfl) (Nat.le_of_ble_eq_true rfl) (by rw [← h]; exact hx0) (by rw [← h]; exact hP) hS g1 g2 (by rw [← h]; exact g3)
  · have h := ite_t hx0 h
    refine lv_aload_n hx hb dX7_drift_13 rfl (lv_at hl 1 rfl) ?_
    refine getF (q0 := 9) (k0 := 3) (v := .ref a_h) C hE hP inA7 rfl rfl (by decide) qFX7_25 rfl rfl dX7_drift_14 ?_
    refine lv_aload_n hx hb dX7_drift_17 rfl (lv_at hl 1 rfl) ?_
    refine getF (q0 := 9) (k0 := 0) (v := .ref a_g) C hE hP inA7 rfl rfl (by decide) qFX7_10 rfl rfl dX7_drift_18 ?_
    obtain ⟨q5, e6, h⟩ := bnd h
    refine wrVv (ws1 := [(a_g, .inr (1, [.ref a_gw, .ref a_gk])), (a_h0, .inr (1, [.ref a_h0w, .ref a_h0k])), (a_h1, .inr (1, [.ref a_h1w, .ref a_h1k])), (a_h2, .inr (1, [.ref a_h2w, .ref a_h2k])), (a_h3, .inr (1, [.ref a_h3w, .ref a_h3k])), (a_h4, .inr (1, [.ref a_h4w, .ref a_h4k])), (a_h5, .inr (1, [.ref a_h5w, .ref a_h5k])), (a_u, .inr (6, [.ref a_g, .ref a_r, .int q1.2])), (a_h, .inr (2, [.ref a_hp, .int q5.1, .int q5.2.1])), (a_x, .inr (7, [.ref a_g, .ref a_b, .ref a_v, .ref a_h, .ref a_r, .ref a_f, .ref a_u, .ref a_t, .ref a_n, .int x_sav, .int x_err, .int q3.2.1, .int q3.2.2.1, .int q3.2.2.2])), (a_gw, .inl (T 0, 90, .inl v_gw)), (a_gk, .inl (T 0, 18, .inl v_gk)), (a_h0w, .inl (T 0, 90, .inl q5.2.2.1)), (a_h0k, .inl (T 0, 18, .inl q5.2.2.2.1)), (a_h1w, .inl (T 0, 90, .inl q5.2.2.2.2.1)), (a_h1k, .inl (T 0, 18, .inl q5.2.2.2.2.2.1)), (a_h2w, .inl (T 0, 90, .inl q5.2.2.2.2.2.2.1)), (a_h2k, .inl (T 0, 18, .inl q5.2.2.2.2.2.2.2.1)), (a_h3w, .inl (T 0, 90, .inl q5.2.2.2.2.2.2.2.2.1)), (a_h3k, .inl (T 0, 18, .inl q5.2.2.2.2.2.2.2.2.2.1)), (a_h4w, .inl (T 0, 90, .inl q5.2.2.2.2.2.2.2.2.2.2.1)), (a_h4k, .inl (T 0, 18, .inl q5.2.2.2.2.2.2.2.2.2.2.2.1)), (a_h5w, .inl (T 0, 90, .inl q5.2.2.2.2.2.2.2.2.2.2.2.2.1)), (a_h5k, .inl (T 0, 18, .inl q5.2.2.2.2.2.2.2.2.2.2.2.2.2)), (a_hp, .inl (T 3, 6, .inr (.inr (.inr (.inr (hpF a_h0 a_h1 a_h2 a_h3 a_h4 a_h5))))))]) C hE hP hD hS hA (kX2_remember l D T a_g a_gw a_gk a_h0 a_h0w a_h0k a_h1 a_h1w a_h1k a_h2 a_h2w a_h2k a_h3 a_h3w a_h3k a_h4 a_h4w a_h4k a_h5 a_h5w a_h5k a_h a_hp h_old h_siz v_gw v_gk v_h0w v_h0k v_h1w v_h1k v_h2w v_h2k v_h3w v_h3k v_h4w v_h4k v_h5w v_h5k _ q5 e6) mX2_remember qLX7_96 [0, 1, 2, 3, 4, 5, 6, 8, 10, 11, 12, 13, 14, 15, 16, 17, 18, 19, 20, 21, 22, 23, 24] [7, 9] 8 rfl rfl rfl rfl rfl rfl rfl rfl rfl ⟨rfl, rfl⟩ ⟨Nat.le_of_ble_eq_true rfl, Nat.le_of_ble_eq_true rfl⟩ rfl hl.1 rfl (Nat.le_of_ble_eq_true rfl) dX7_drift_21 ⟨Nat.le_of_ble_eq_true rfl, Nat.le_of_ble_eq_true rfl⟩ (fun H locs hP hD hS => ?_)
    refine lv_aload_n hx hb dX7_drift_24 rfl (lv_at hl 1 rfl) ?_
    refine getF (q0 := 9) (k0 := 0) (v := .ref a_g) C hE hP inA7 rfl rfl (by decide) qFX7_10 rfl rfl dX7_drift_25 ?_
    obtain ⟨q7, e8, h⟩ := bnd h
    refine wrVi (ws1 := [(a_g, .inr (1, [.ref a_gw, .ref a_gk])), (a_h0, .inr (1, [.ref a_h0w, .ref a_h0k])), (a_h1, .inr (1, [.ref a_h1w, .ref a_h1k])), (a_h2, .inr (1, [.ref a_h2w, .ref a_h2k])), (a_h3, .inr (1, [.ref a_h3w, .ref a_h3k])), (a_h4, .inr (1, [.ref a_h4w, .ref a_h4k])), (a_h5, .inr (1, [.ref a_h5w, .ref a_h5k])), (a_u, .inr (6, [.ref a_g, .ref a_r, .int q1.2])), (a_h, .inr (2, [.ref a_hp, .int q5.1, .int q5.2.1])), (a_x, .inr (7, [.ref a_g, .ref a_b, .ref a_v, .ref a_h, .ref a_r, .ref a_f, .ref a_u, .ref a_t, .ref a_n, .int x_sav, .int x_err, .int q3.2.1, .int q3.2.2.1, .int q3.2.2.2])), (a_gw, .inl (T 0, 90, .inl q7.2.1)), (a_gk, .inl (T 0, 18, .inl q7.2.2)), (a_h0w, .inl (T 0, 90, .inl q5.2.2.1)), (a_h0k, .inl (T 0, 18, .inl q5.2.2.2.1)), (a_h1w, .inl (T 0, 90, .inl q5.2.2.2.2.1)), (a_h1k, .inl (T 0, 18, .inl q5.2.2.2.2.2.1)), (a_h2w, .inl (T 0, 90, .inl q5.2.2.2.2.2.2.1)), (a_h2k, .inl (T 0, 18, .inl q5.2.2.2.2.2.2.2.1)), (a_h3w, .inl (T 0, 90, .inl q5.2.2.2.2.2.2.2.2.1)), (a_h3k, .inl (T 0, 18, .inl q5.2.2.2.2.2.2.2.2.2.1)), (a_h4w, .inl (T 0, 90, .inl q5.2.2.2.2.2.2.2.2.2.2.1)), (a_h4k, .inl (T 0, 18, .inl q5.2.2.2.2.2.2.2.2.2.2.2.1)), (a_h5w, .inl (T 0, 90, .inl q5.2.2.2.2.2.2.2.2.2.2.2.2.1)), (a_h5k, .inl (T 0, 18, .inl q5.2.2.2.2.2.2.2.2.2.2.2.2.2)), (a_hp, .inl (T 3, 6, .inr (.inr (.inr (.inr (hpF a_h0 a_h1 a_h2 a_h3 a_h4 a_h5))))))]) C hE hP hD hS hA (kX1_endStroke l D T a_g a_gw a_gk v_gw v_gk _ q7 e8) mX1_endStroke qLX7_135 [0, 10, 11] [1, 2, 3, 4, 5, 6, 7, 8, 9, 12, 13, 14, 15, 16, 17, 18, 19, 20, 21, 22, 23, 24] 0 rfl rfl rfl rfl rfl rfl rfl rfl rfl ⟨rfl, rfl⟩ ⟨Nat.le_of_ble_eq_true rfl, Nat.le_of_ble_eq_true rfl⟩ rfl hl.1 rfl (Nat.le_of_ble_eq_true rfl) dX7_drift_28 ⟨Nat.le_of_ble_eq_true rfl, Nat.le_of_ble_eq_true rfl⟩ (fun H locs hP hD hS => ?_)
    have h := Option.some.inj h
    exact hret.1 _ _ _ _ _ _ _ _ (Nat.le_of_ble_eq_true rfl) (Nat.le_of_ble_eq_true rfl) dX7_drift_31 rfl (by rw [← h]) (by rw [← h] <;> rfl) (by rw [← h]; exact hP) hS

def fX7_read_98 (v_ti : Nat → Int32) (rec58 : Int32 → Int32 → Int32 → Int32 → Int32 → Int32 → Int32 → Int32 → Int32 → Int32 → Int32 → Int32 → Int32 → Int32 → Int32 → (Nat → Int32) → (Nat → Int32) → (Nat → Int32) → (Nat → Int32) → (Nat → Int32) → (Nat → Int32) → (Nat → Int32) → (Nat → Int32) → (Nat → Int32) → (Nat → Int32) → (Nat → Int32) → (Nat → Int32) → (Nat → Int32) → (Nat → Int32) → (Nat → Int32) → (Nat → Int32) → (Nat → Int32) → (Nat → Int32) → (Nat → Int32) → Option (Nat × Int32 × Int32 × Int32 × Int32 × Int32 × Int32 × Int32 × Int32 × Int32 × Int32 × Int32 × Int32 × Int32 × Int32 × (Nat → Int32) × (Nat → Int32) × (Nat → Int32) × (Nat → Int32) × (Nat → Int32) × (Nat → Int32) × (Nat → Int32) × (Nat → Int32) × (Nat → Int32) × (Nat → Int32) × (Nat → Int32) × (Nat → Int32) × (Nat → Int32) × (Nat → Int32) × (Nat → Int32) × (Nat → Int32) × (Nat → Int32) × (Nat → Int32) × (Nat → Int32))) (l2 : Int32) (l3 : Int32) (f_net : Int32) (u_det : Int32) (t_len : Int32) (t_cur : Int32) (t_kin : Int32) (t_tol : Int32) (t_don : Int32) (h_old : Int32) (h_siz : Int32) (x_err : Int32) (x_rea : Int32) (x_det : Int32) (x_com : Int32) (v_gw : Nat → Int32) (v_gk : Nat → Int32) (v_bw : Nat → Int32) (v_bk : Nat → Int32) (v_h0w : Nat → Int32) (v_h0k : Nat → Int32) (v_h1w : Nat → Int32) (v_h1k : Nat → Int32) (v_h2w : Nat → Int32) (v_h2k : Nat → Int32) (v_h3w : Nat → Int32) (v_h3k : Nat → Int32) (v_h4w : Nat → Int32) (v_h4k : Nat → Int32) (v_h5w : Nat → Int32) (v_h5k : Nat → Int32) (v_rs : Nat → Int32) (v_ro : Nat → Int32) (v_tn : Nat → Int32) : Option (Nat × Int32 × Int32 × Int32 × Int32 × Int32 × Int32 × Int32 × Int32 × Int32 × Int32 × Int32 × Int32 × Int32 × Int32 × (Nat → Int32) × (Nat → Int32) × (Nat → Int32) × (Nat → Int32) × (Nat → Int32) × (Nat → Int32) × (Nat → Int32) × (Nat → Int32) × (Nat → Int32) × (Nat → Int32) × (Nat → Int32) × (Nat → Int32) × (Nat → Int32) × (Nat → Int32) × (Nat → Int32) × (Nat → Int32) × (Nat → Int32) × (Nat → Int32) × (Nat → Int32)) :=
  rec58 l2 (l3 + 1) f_net u_det t_len t_cur t_kin t_tol t_don h_old h_siz x_err x_rea x_det x_com v_gw v_gk v_bw v_bk v_h0w v_h0k v_h1w v_h1k v_h2w v_h2k v_h3w v_h3k v_h4w v_h4k v_h5w v_h5k v_rs v_ro v_tn
def fX7_read_104 (v_ti : Nat → Int32) (l2 : Int32) (f_net : Int32) (u_det : Int32) (t_len : Int32) (t_cur : Int32) (t_kin : Int32) (t_tol : Int32) (t_don : Int32) (h_old : Int32) (h_siz : Int32) (x_err : Int32) (x_rea : Int32) (x_det : Int32) (x_com : Int32) (v_gw : Nat → Int32) (v_gk : Nat → Int32) (v_bw : Nat → Int32) (v_bk : Nat → Int32) (v_h0w : Nat → Int32) (v_h0k : Nat → Int32) (v_h1w : Nat → Int32) (v_h1k : Nat → Int32) (v_h2w : Nat → Int32) (v_h2k : Nat → Int32) (v_h3w : Nat → Int32) (v_h3k : Nat → Int32) (v_h4w : Nat → Int32) (v_h4k : Nat → Int32) (v_h5w : Nat → Int32) (v_h5k : Nat → Int32) (v_rs : Nat → Int32) (v_ro : Nat → Int32) (v_tn : Nat → Int32) : Option (Nat × Int32 × Int32 × Int32 × Int32 × Int32 × Int32 × Int32 × Int32 × Int32 × Int32 × Int32 × Int32 × Int32 × Int32 × (Nat → Int32) × (Nat → Int32) × (Nat → Int32) × (Nat → Int32) × (Nat → Int32) × (Nat → Int32) × (Nat → Int32) × (Nat → Int32) × (Nat → Int32) × (Nat → Int32) × (Nat → Int32) × (Nat → Int32) × (Nat → Int32) × (Nat → Int32) × (Nat → Int32) × (Nat → Int32) × (Nat → Int32) × (Nat → Int32) × (Nat → Int32)) :=
  (fX5_clear t_len).bind fun q22 =>
  if l2 = 0 then
    (fX2_remember h_old h_siz v_bw v_bk v_h0w v_h0k v_h1w v_h1k v_h2w v_h2k v_h3w v_h3k v_h4w v_h4k v_h5w v_h5k).bind fun q25 =>
    some (0, (fX5_doneCommands t_don), f_net, u_det, q22, t_cur, t_kin, t_tol, t_don, q25.1, q25.2.1, x_err, x_rea, x_det, x_com, v_gw, v_gk, v_bw, v_bk, q25.2.2.1, q25.2.2.2.1, q25.2.2.2.2.1, q25.2.2.2.2.2.1, q25.2.2.2.2.2.2.1, q25.2.2.2.2.2.2.2.1, q25.2.2.2.2.2.2.2.2.1, q25.2.2.2.2.2.2.2.2.2.1, q25.2.2.2.2.2.2.2.2.2.2.1, q25.2.2.2.2.2.2.2.2.2.2.2.1, q25.2.2.2.2.2.2.2.2.2.2.2.2.1, q25.2.2.2.2.2.2.2.2.2.2.2.2.2, v_rs, v_ro, v_tn)
  else
    (fX1_copyFrom v_gw v_gk v_bw v_bk).bind fun q27 =>
    (fX7_demandKnown l2).bind fun q29 =>
    if q29 = 0 then
      (fX7_keepReason u_det x_rea x_det x_com l2 (fX5_doneCommands t_don)).bind fun q31 =>
      some (2, 0, f_net, u_det, q22, t_cur, t_kin, t_tol, t_don, h_old, h_siz, x_err, q31.1, q31.2.1, q31.2.2, q27.1, q27.2, v_bw, v_bk, v_h0w, v_h0k, v_h1w, v_h1k, v_h2w, v_h2k, v_h3w, v_h3k, v_h4w, v_h4k, v_h5w, v_h5k, v_rs, v_ro, v_tn)
    else
      some (q29, 0, f_net, u_det, q22, t_cur, t_kin, t_tol, t_don, h_old, h_siz, x_err, x_rea, x_det, x_com, q27.1, q27.2, v_bw, v_bk, v_h0w, v_h0k, v_h1w, v_h1k, v_h2w, v_h2k, v_h3w, v_h3k, v_h4w, v_h4k, v_h5w, v_h5k, v_rs, v_ro, v_tn)
def fX7_read_58 (v_ti : Nat → Int32) : Nat → Int32 → Int32 → Int32 → Int32 → Int32 → Int32 → Int32 → Int32 → Int32 → Int32 → Int32 → Int32 → Int32 → Int32 → Int32 → (Nat → Int32) → (Nat → Int32) → (Nat → Int32) → (Nat → Int32) → (Nat → Int32) → (Nat → Int32) → (Nat → Int32) → (Nat → Int32) → (Nat → Int32) → (Nat → Int32) → (Nat → Int32) → (Nat → Int32) → (Nat → Int32) → (Nat → Int32) → (Nat → Int32) → (Nat → Int32) → (Nat → Int32) → (Nat → Int32) → (Nat → Int32) → Option (Nat × Int32 × Int32 × Int32 × Int32 × Int32 × Int32 × Int32 × Int32 × Int32 × Int32 × Int32 × Int32 × Int32 × Int32 × (Nat → Int32) × (Nat → Int32) × (Nat → Int32) × (Nat → Int32) × (Nat → Int32) × (Nat → Int32) × (Nat → Int32) × (Nat → Int32) × (Nat → Int32) × (Nat → Int32) × (Nat → Int32) × (Nat → Int32) × (Nat → Int32) × (Nat → Int32) × (Nat → Int32) × (Nat → Int32) × (Nat → Int32) × (Nat → Int32) × (Nat → Int32))
  | 0, _, _, _, _, _, _, _, _, _, _, _, _, _, _, _, _, _, _, _, _, _, _, _, _, _, _, _, _, _, _, _, _, _, _ => none
  | k + 1, l2, l3, f_net, u_det, t_len, t_cur, t_kin, t_tol, t_don, h_old, h_siz, x_err, x_rea, x_det, x_com, v_gw, v_gk, v_bw, v_bk, v_h0w, v_h0k, v_h1w, v_h1k, v_h2w, v_h2k, v_h3w, v_h3k, v_h4w, v_h4k, v_h5w, v_h5k, v_rs, v_ro, v_tn =>
    if 60 ≤ l3 then
      fX7_read_104 v_ti l2 f_net u_det t_len t_cur t_kin t_tol t_don h_old h_siz x_err x_rea x_det x_com v_gw v_gk v_bw v_bk v_h0w v_h0k v_h1w v_h1k v_h2w v_h2k v_h3w v_h3k v_h4w v_h4k v_h5w v_h5k v_rs v_ro v_tn
    else
      if l2 = 0 then
        (fX5_takeNext t_len t_cur t_kin t_tol v_ti v_tn).bind fun q12 =>
        if q12.1 = 0 then
          if q12.2.1 = 0 then
            fX7_read_104 v_ti l2 f_net u_det t_len q12.2.2.1 q12.2.2.2.1 q12.2.2.2.2.1 t_don h_old h_siz x_err x_rea x_det x_com v_gw v_gk v_bw v_bk v_h0w v_h0k v_h1w v_h1k v_h2w v_h2k v_h3w v_h3k v_h4w v_h4k v_h5w v_h5k v_rs v_ro q12.2.2.2.2.2
          else
            (fX7_faultOfCommand u_det q12.2.2.2.1 v_gw v_gk v_rs v_ro q12.2.2.2.2.2).bind fun q15 =>
            if q15.1 = 0 then
              (fX7_performCommand f_net q12.2.2.2.1 v_gw v_gk q15.2.2.1 q15.2.2.2 q12.2.2.2.2.2).bind fun q18 =>
              (fX5_countDone t_don).bind fun q20 =>
              fX7_read_98 v_ti (fX7_read_58 v_ti k) q15.1 l3 q18.1 q15.2.1 t_len q12.2.2.1 q12.2.2.2.1 q12.2.2.2.2.1 q20 h_old h_siz x_err x_rea x_det x_com q18.2.1 q18.2.2.1 v_bw v_bk v_h0w v_h0k v_h1w v_h1k v_h2w v_h2k v_h3w v_h3k v_h4w v_h4k v_h5w v_h5k q18.2.2.2.1 q18.2.2.2.2 q12.2.2.2.2.2
            else
              fX7_read_98 v_ti (fX7_read_58 v_ti k) q15.1 l3 f_net q15.2.1 t_len q12.2.2.1 q12.2.2.2.1 q12.2.2.2.2.1 t_don h_old h_siz x_err x_rea x_det x_com v_gw v_gk v_bw v_bk v_h0w v_h0k v_h1w v_h1k v_h2w v_h2k v_h3w v_h3k v_h4w v_h4k v_h5w v_h5k q15.2.2.1 q15.2.2.2 q12.2.2.2.2.2
        else
          some (q12.1, 0, f_net, u_det, t_len, q12.2.2.1, q12.2.2.2.1, q12.2.2.2.2.1, t_don, h_old, h_siz, x_err, x_rea, x_det, x_com, v_gw, v_gk, v_bw, v_bk, v_h0w, v_h0k, v_h1w, v_h1k, v_h2w, v_h2k, v_h3w, v_h3k, v_h4w, v_h4k, v_h5w, v_h5k, v_rs, v_ro, q12.2.2.2.2.2)
      else
        fX7_read_104 v_ti l2 f_net u_det t_len t_cur t_kin t_tol t_don h_old h_siz x_err x_rea x_det x_com v_gw v_gk v_bw v_bk v_h0w v_h0k v_h1w v_h1k v_h2w v_h2k v_h3w v_h3k v_h4w v_h4k v_h5w v_h5k v_rs v_ro v_tn
def fX7_read (f_net : Int32) (u_det : Int32) (t_len : Int32) (t_cur : Int32) (t_kin : Int32) (t_tol : Int32) (t_don : Int32) (h_old : Int32) (h_siz : Int32) (x_err : Int32) (x_rea : Int32) (x_det : Int32) (x_com : Int32) (v_gw : Nat → Int32) (v_gk : Nat → Int32) (v_bw : Nat → Int32) (v_bk : Nat → Int32) (v_h0w : Nat → Int32) (v_h0k : Nat → Int32) (v_h1w : Nat → Int32) (v_h1k : Nat → Int32) (v_h2w : Nat → Int32) (v_h2k : Nat → Int32) (v_h3w : Nat → Int32) (v_h3k : Nat → Int32) (v_h4w : Nat → Int32) (v_h4k : Nat → Int32) (v_h5w : Nat → Int32) (v_h5k : Nat → Int32) (v_rs : Nat → Int32) (v_ro : Nat → Int32) (v_ti : Nat → Int32) (v_tn : Nat → Int32) : Option (Nat × Int32 × Int32 × Int32 × Int32 × Int32 × Int32 × Int32 × Int32 × Int32 × Int32 × Int32 × Int32 × Int32 × Int32 × (Nat → Int32) × (Nat → Int32) × (Nat → Int32) × (Nat → Int32) × (Nat → Int32) × (Nat → Int32) × (Nat → Int32) × (Nat → Int32) × (Nat → Int32) × (Nat → Int32) × (Nat → Int32) × (Nat → Int32) × (Nat → Int32) × (Nat → Int32) × (Nat → Int32) × (Nat → Int32) × (Nat → Int32) × (Nat → Int32) × (Nat → Int32)) :=
  (fX5_errorAt t_len t_cur t_kin t_tol t_don v_ti v_tn).bind fun q1 =>
  if q1.1 = 0 then
    if q1.2.1 = (-1) then
      (fX1_copyFrom v_bw v_bk v_gw v_gk).bind fun q4 =>
      (fX5_rewind q1.2.2.1 q1.2.2.2.2.2.1).bind fun q6 =>
      fX7_read_58 v_ti 64 0 0 f_net u_det t_len q6.1 q1.2.2.2.1 q1.2.2.2.2.1 q6.2 h_old h_siz x_err x_rea x_det x_com v_gw v_gk q4.1 q4.2 v_h0w v_h0k v_h1w v_h1k v_h2w v_h2k v_h3w v_h3k v_h4w v_h4k v_h5w v_h5k v_rs v_ro q1.2.2.2.2.2.2
    else
      (fX5_clear t_len).bind fun q8 =>
      some (1, 0, f_net, u_det, q8, q1.2.2.1, q1.2.2.2.1, q1.2.2.2.2.1, q1.2.2.2.2.2.1, h_old, h_siz, q1.2.1, x_rea, x_det, x_com, v_gw, v_gk, v_bw, v_bk, v_h0w, v_h0k, v_h1w, v_h1k, v_h2w, v_h2k, v_h3w, v_h3k, v_h4w, v_h4k, v_h5w, v_h5k, v_rs, v_ro, q1.2.2.2.2.2.2)
  else
    some (q1.1, 0, f_net, u_det, t_len, q1.2.2.1, q1.2.2.2.1, q1.2.2.2.2.1, q1.2.2.2.2.2.1, h_old, h_siz, x_err, x_rea, x_det, x_com, v_gw, v_gk, v_bw, v_bk, v_h0w, v_h0k, v_h1w, v_h1k, v_h2w, v_h2k, v_h3w, v_h3k, v_h4w, v_h4k, v_h5w, v_h5k, v_rs, v_ro, q1.2.2.2.2.2.2)
set_option maxHeartbeats 4000000 in
set_option maxRecDepth 100000 in
theorem lX7_read_98 {p : Program} {l : Launch} {e : Env} {s : State} {m : MethodId} {args : Array Value} {below : List Frame} {meth : Method} {c : Code} {Q : State → Prop} {D : va_G} {T : Nat → ClassId} {a_g a_gw a_gk a_b a_bw a_bk a_h0 a_h0w a_h0k a_h1 a_h1w a_h1k a_h2 a_h2w a_h2k a_h3 a_h3w a_h3k a_h4 a_h4w a_h4k a_h5 a_h5w a_h5k a_r a_rs a_rl a_ro a_f a_u a_t a_ti a_tn a_h a_hp a_x a_v a_n : Nat} {x_sav : Int32} {v_ti : Nat → Int32} {A : Nat → Prop} {r : Nat × Int32 × Int32 × Int32 × Int32 × Int32 × Int32 × Int32 × Int32 × Int32 × Int32 × Int32 × Int32 × Int32 × Int32 × (Nat → Int32) × (Nat → Int32) × (Nat → Int32) × (Nat → Int32) × (Nat → Int32) × (Nat → Int32) × (Nat → Int32) × (Nat → Int32) × (Nat → Int32) × (Nat → Int32) × (Nat → Int32) × (Nat → Int32) × (Nat → Int32) × (Nat → Int32) × (Nat → Int32) × (Nat → Int32) × (Nat → Int32) × (Nat → Int32) × (Nat → Int32)} (C : CallFix p m c cX7_read 4 s args aw RX7) (hE : eK D T s) (hA : ∀ q : Nat, s.heap.size ≤ q → A q) (hZ : eX l A s) (hret : ThRetI p l e ({ frames := 7, cells := 2, slots := 12, locals := 171 } : Room) s m args below meth c Q cX7_read .int D A [(a_g, .inr (1, [.ref a_gw, .ref a_gk])), (a_b, .inr (1, [.ref a_bw, .ref a_bk])), (a_h0, .inr (1, [.ref a_h0w, .ref a_h0k])), (a_h1, .inr (1, [.ref a_h1w, .ref a_h1k])), (a_h2, .inr (1, [.ref a_h2w, .ref a_h2k])), (a_h3, .inr (1, [.ref a_h3w, .ref a_h3k])), (a_h4, .inr (1, [.ref a_h4w, .ref a_h4k])), (a_h5, .inr (1, [.ref a_h5w, .ref a_h5k])), (a_r, .inr (4, [.ref a_g, .ref a_rs, .ref a_rl, .ref a_ro])), (a_f, .inr (0, [.ref a_g, .int r.2.2.1])), (a_u, .inr (6, [.ref a_g, .ref a_r, .int r.2.2.2.1])), (a_t, .inr (5, [.ref a_ti, .ref a_tn, .int r.2.2.2.2.1, .int r.2.2.2.2.2.1, .int r.2.2.2.2.2.2.1, .int r.2.2.2.2.2.2.2.1, .int r.2.2.2.2.2.2.2.2.1])), (a_h, .inr (2, [.ref a_hp, .int r.2.2.2.2.2.2.2.2.2.1, .int r.2.2.2.2.2.2.2.2.2.2.1])), (a_x, .inr (7, [.ref a_g, .ref a_b, .ref a_v, .ref a_h, .ref a_r, .ref a_f, .ref a_u, .ref a_t, .ref a_n, .int x_sav, .int r.2.2.2.2.2.2.2.2.2.2.2.1, .int r.2.2.2.2.2.2.2.2.2.2.2.2.1, .int r.2.2.2.2.2.2.2.2.2.2.2.2.2.1, .int r.2.2.2.2.2.2.2.2.2.2.2.2.2.2.1])), (a_gw, .inl (T 0, 90, .inl r.2.2.2.2.2.2.2.2.2.2.2.2.2.2.2.1)), (a_gk, .inl (T 0, 18, .inl r.2.2.2.2.2.2.2.2.2.2.2.2.2.2.2.2.1)), (a_bw, .inl (T 0, 90, .inl r.2.2.2.2.2.2.2.2.2.2.2.2.2.2.2.2.2.1)), (a_bk, .inl (T 0, 18, .inl r.2.2.2.2.2.2.2.2.2.2.2.2.2.2.2.2.2.2.1)), (a_h0w, .inl (T 0, 90, .inl r.2.2.2.2.2.2.2.2.2.2.2.2.2.2.2.2.2.2.2.1)), (a_h0k, .inl (T 0, 18, .inl r.2.2.2.2.2.2.2.2.2.2.2.2.2.2.2.2.2.2.2.2.1)), (a_h1w, .inl (T 0, 90, .inl r.2.2.2.2.2.2.2.2.2.2.2.2.2.2.2.2.2.2.2.2.2.1)), (a_h1k, .inl (T 0, 18, .inl r.2.2.2.2.2.2.2.2.2.2.2.2.2.2.2.2.2.2.2.2.2.2.1)), (a_h2w, .inl (T 0, 90, .inl r.2.2.2.2.2.2.2.2.2.2.2.2.2.2.2.2.2.2.2.2.2.2.2.1)), (a_h2k, .inl (T 0, 18, .inl r.2.2.2.2.2.2.2.2.2.2.2.2.2.2.2.2.2.2.2.2.2.2.2.2.1)), (a_h3w, .inl (T 0, 90, .inl r.2.2.2.2.2.2.2.2.2.2.2.2.2.2.2.2.2.2.2.2.2.2.2.2.2.1)), (a_h3k, .inl (T 0, 18, .inl r.2.2.2.2.2.2.2.2.2.2.2.2.2.2.2.2.2.2.2.2.2.2.2.2.2.2.1)), (a_h4w, .inl (T 0, 90, .inl r.2.2.2.2.2.2.2.2.2.2.2.2.2.2.2.2.2.2.2.2.2.2.2.2.2.2.2.1)), (a_h4k, .inl (T 0, 18, .inl r.2.2.2.2.2.2.2.2.2.2.2.2.2.2.2.2.2.2.2.2.2.2.2.2.2.2.2.2.1)), (a_h5w, .inl (T 0, 90, .inl r.2.2.2.2.2.2.2.2.2.2.2.2.2.2.2.2.2.2.2.2.2.2.2.2.2.2.2.2.2.1)), (a_h5k, .inl (T 0, 18, .inl r.2.2.2.2.2.2.2.2.2.2.2.2.2.2.2.2.2.2.2.2.2.2.2.2.2.2.2.2.2.2.1)), (a_rs, .inl (T 0, 45, .inl r.2.2.2.2.2.2.2.2.2.2.2.2.2.2.2.2.2.2.2.2.2.2.2.2.2.2.2.2.2.2.2.1)), (a_ro, .inl (T 1, 45, .inl r.2.2.2.2.2.2.2.2.2.2.2.2.2.2.2.2.2.2.2.2.2.2.2.2.2.2.2.2.2.2.2.2.1)), (a_ti, .inl (T 2, 60, .inl v_ti)), (a_tn, .inl (T 0, 3, .inl r.2.2.2.2.2.2.2.2.2.2.2.2.2.2.2.2.2.2.2.2.2.2.2.2.2.2.2.2.2.2.2.2.2)), (a_hp, .inl (T 3, 6, .inr (.inr (.inr (.inr (hpF a_h0 a_h1 a_h2 a_h3 a_h4 a_h5))))))] r.1 r.2.1 ∧ ThOut p l e ({ frames := 7, cells := 2, slots := 12, locals := 171 } : Room) s m args below meth c Q D A [(a_g, .inr (1, [.ref a_gw, .ref a_gk])), (a_b, .inr (1, [.ref a_bw, .ref a_bk])), (a_h0, .inr (1, [.ref a_h0w, .ref a_h0k])), (a_h1, .inr (1, [.ref a_h1w, .ref a_h1k])), (a_h2, .inr (1, [.ref a_h2w, .ref a_h2k])), (a_h3, .inr (1, [.ref a_h3w, .ref a_h3k])), (a_h4, .inr (1, [.ref a_h4w, .ref a_h4k])), (a_h5, .inr (1, [.ref a_h5w, .ref a_h5k])), (a_r, .inr (4, [.ref a_g, .ref a_rs, .ref a_rl, .ref a_ro])), (a_f, .inr (0, [.ref a_g, .int r.2.2.1])), (a_u, .inr (6, [.ref a_g, .ref a_r, .int r.2.2.2.1])), (a_t, .inr (5, [.ref a_ti, .ref a_tn, .int r.2.2.2.2.1, .int r.2.2.2.2.2.1, .int r.2.2.2.2.2.2.1, .int r.2.2.2.2.2.2.2.1, .int r.2.2.2.2.2.2.2.2.1])), (a_h, .inr (2, [.ref a_hp, .int r.2.2.2.2.2.2.2.2.2.1, .int r.2.2.2.2.2.2.2.2.2.2.1])), (a_x, .inr (7, [.ref a_g, .ref a_b, .ref a_v, .ref a_h, .ref a_r, .ref a_f, .ref a_u, .ref a_t, .ref a_n, .int x_sav, .int r.2.2.2.2.2.2.2.2.2.2.2.1, .int r.2.2.2.2.2.2.2.2.2.2.2.2.1, .int r.2.2.2.2.2.2.2.2.2.2.2.2.2.1, .int r.2.2.2.2.2.2.2.2.2.2.2.2.2.2.1])), (a_gw, .inl (T 0, 90, .inl r.2.2.2.2.2.2.2.2.2.2.2.2.2.2.2.1)), (a_gk, .inl (T 0, 18, .inl r.2.2.2.2.2.2.2.2.2.2.2.2.2.2.2.2.1)), (a_bw, .inl (T 0, 90, .inl r.2.2.2.2.2.2.2.2.2.2.2.2.2.2.2.2.2.1)), (a_bk, .inl (T 0, 18, .inl r.2.2.2.2.2.2.2.2.2.2.2.2.2.2.2.2.2.2.1)), (a_h0w, .inl (T 0, 90, .inl r.2.2.2.2.2.2.2.2.2.2.2.2.2.2.2.2.2.2.2.1)), (a_h0k, .inl (T 0, 18, .inl r.2.2.2.2.2.2.2.2.2.2.2.2.2.2.2.2.2.2.2.2.1)), (a_h1w, .inl (T 0, 90, .inl r.2.2.2.2.2.2.2.2.2.2.2.2.2.2.2.2.2.2.2.2.2.1)), (a_h1k, .inl (T 0, 18, .inl r.2.2.2.2.2.2.2.2.2.2.2.2.2.2.2.2.2.2.2.2.2.2.1)), (a_h2w, .inl (T 0, 90, .inl r.2.2.2.2.2.2.2.2.2.2.2.2.2.2.2.2.2.2.2.2.2.2.2.1)), (a_h2k, .inl (T 0, 18, .inl r.2.2.2.2.2.2.2.2.2.2.2.2.2.2.2.2.2.2.2.2.2.2.2.2.1)), (a_h3w, .inl (T 0, 90, .inl r.2.2.2.2.2.2.2.2.2.2.2.2.2.2.2.2.2.2.2.2.2.2.2.2.2.1)), (a_h3k, .inl (T 0, 18, .inl r.2.2.2.2.2.2.2.2.2.2.2.2.2.2.2.2.2.2.2.2.2.2.2.2.2.2.1)), (a_h4w, .inl (T 0, 90, .inl r.2.2.2.2.2.2.2.2.2.2.2.2.2.2.2.2.2.2.2.2.2.2.2.2.2.2.2.1)), (a_h4k, .inl (T 0, 18, .inl r.2.2.2.2.2.2.2.2.2.2.2.2.2.2.2.2.2.2.2.2.2.2.2.2.2.2.2.2.1)), (a_h5w, .inl (T 0, 90, .inl r.2.2.2.2.2.2.2.2.2.2.2.2.2.2.2.2.2.2.2.2.2.2.2.2.2.2.2.2.2.1)), (a_h5k, .inl (T 0, 18, .inl r.2.2.2.2.2.2.2.2.2.2.2.2.2.2.2.2.2.2.2.2.2.2.2.2.2.2.2.2.2.2.1)), (a_rs, .inl (T 0, 45, .inl r.2.2.2.2.2.2.2.2.2.2.2.2.2.2.2.2.2.2.2.2.2.2.2.2.2.2.2.2.2.2.2.1)), (a_ro, .inl (T 1, 45, .inl r.2.2.2.2.2.2.2.2.2.2.2.2.2.2.2.2.2.2.2.2.2.2.2.2.2.2.2.2.2.2.2.2.1)), (a_ti, .inl (T 2, 60, .inl v_ti)), (a_tn, .inl (T 0, 3, .inl r.2.2.2.2.2.2.2.2.2.2.2.2.2.2.2.2.2.2.2.2.2.2.2.2.2.2.2.2.2.2.2.2.2)), (a_hp, .inl (T 3, 6, .inr (.inr (.inr (.inr (hpF a_h0 a_h1 a_h2 a_h3 a_h4 a_h5))))))] r.1 ∧ ThThr p l e ({ frames := 7, cells := 2, slots := 12, locals := 171 } : Room) s m args below meth c Q cX7_read RX7 D A [(a_g, .inr (1, [.ref a_gw, .ref a_gk])), (a_b, .inr (1, [.ref a_bw, .ref a_bk])), (a_h0, .inr (1, [.ref a_h0w, .ref a_h0k])), (a_h1, .inr (1, [.ref a_h1w, .ref a_h1k])), (a_h2, .inr (1, [.ref a_h2w, .ref a_h2k])), (a_h3, .inr (1, [.ref a_h3w, .ref a_h3k])), (a_h4, .inr (1, [.ref a_h4w, .ref a_h4k])), (a_h5, .inr (1, [.ref a_h5w, .ref a_h5k])), (a_r, .inr (4, [.ref a_g, .ref a_rs, .ref a_rl, .ref a_ro])), (a_f, .inr (0, [.ref a_g, .int r.2.2.1])), (a_u, .inr (6, [.ref a_g, .ref a_r, .int r.2.2.2.1])), (a_t, .inr (5, [.ref a_ti, .ref a_tn, .int r.2.2.2.2.1, .int r.2.2.2.2.2.1, .int r.2.2.2.2.2.2.1, .int r.2.2.2.2.2.2.2.1, .int r.2.2.2.2.2.2.2.2.1])), (a_h, .inr (2, [.ref a_hp, .int r.2.2.2.2.2.2.2.2.2.1, .int r.2.2.2.2.2.2.2.2.2.2.1])), (a_x, .inr (7, [.ref a_g, .ref a_b, .ref a_v, .ref a_h, .ref a_r, .ref a_f, .ref a_u, .ref a_t, .ref a_n, .int x_sav, .int r.2.2.2.2.2.2.2.2.2.2.2.1, .int r.2.2.2.2.2.2.2.2.2.2.2.2.1, .int r.2.2.2.2.2.2.2.2.2.2.2.2.2.1, .int r.2.2.2.2.2.2.2.2.2.2.2.2.2.2.1])), (a_gw, .inl (T 0, 90, .inl r.2.2.2.2.2.2.2.2.2.2.2.2.2.2.2.1)), (a_gk, .inl (T 0, 18, .inl r.2.2.2.2.2.2.2.2.2.2.2.2.2.2.2.2.1)), (a_bw, .inl (T 0, 90, .inl r.2.2.2.2.2.2.2.2.2.2.2.2.2.2.2.2.2.1)), (a_bk, .inl (T 0, 18, .inl r.2.2.2.2.2.2.2.2.2.2.2.2.2.2.2.2.2.2.1)), (a_h0w, .inl (T 0, 90, .inl r.2.2.2.2.2.2.2.2.2.2.2.2.2.2.2.2.2.2.2.1)), (a_h0k, .inl (T 0, 18, .inl r.2.2.2.2.2.2.2.2.2.2.2.2.2.2.2.2.2.2.2.2.1)), (a_h1w, .inl (T 0, 90, .inl r.2.2.2.2.2.2.2.2.2.2.2.2.2.2.2.2.2.2.2.2.2.1)), (a_h1k, .inl (T 0, 18, .inl r.2.2.2.2.2.2.2.2.2.2.2.2.2.2.2.2.2.2.2.2.2.2.1)), (a_h2w, .inl (T 0, 90, .inl r.2.2.2.2.2.2.2.2.2.2.2.2.2.2.2.2.2.2.2.2.2.2.2.1)), (a_h2k, .inl (T 0, 18, .inl r.2.2.2.2.2.2.2.2.2.2.2.2.2.2.2.2.2.2.2.2.2.2.2.2.1)), (a_h3w, .inl (T 0, 90, .inl r.2.2.2.2.2.2.2.2.2.2.2.2.2.2.2.2.2.2.2.2.2.2.2.2.2.1)), (a_h3k, .inl (T 0, 18, .inl r.2.2.2.2.2.2.2.2.2.2.2.2.2.2.2.2.2.2.2.2.2.2.2.2.2.2.1)), (a_h4w, .inl (T 0, 90, .inl r.2.2.2.2.2.2.2.2.2.2.2.2.2.2.2.2.2.2.2.2.2.2.2.2.2.2.2.1)), (a_h4k, .inl (T 0, 18, .inl r.2.2.2.2.2.2.2.2.2.2.2.2.2.2.2.2.2.2.2.2.2.2.2.2.2.2.2.2.1)), (a_h5w, .inl (T 0, 90, .inl r.2.2.2.2.2.2.2.2.2.2.2.2.2.2.2.2.2.2.2.2.2.2.2.2.2.2.2.2.2.1)), (a_h5k, .inl (T 0, 18, .inl r.2.2.2.2.2.2.2.2.2.2.2.2.2.2.2.2.2.2.2.2.2.2.2.2.2.2.2.2.2.2.1)), (a_rs, .inl (T 0, 45, .inl r.2.2.2.2.2.2.2.2.2.2.2.2.2.2.2.2.2.2.2.2.2.2.2.2.2.2.2.2.2.2.2.1)), (a_ro, .inl (T 1, 45, .inl r.2.2.2.2.2.2.2.2.2.2.2.2.2.2.2.2.2.2.2.2.2.2.2.2.2.2.2.2.2.2.2.2.1)), (a_ti, .inl (T 2, 60, .inl v_ti)), (a_tn, .inl (T 0, 3, .inl r.2.2.2.2.2.2.2.2.2.2.2.2.2.2.2.2.2.2.2.2.2.2.2.2.2.2.2.2.2.2.2.2.2)), (a_hp, .inl (T 3, 6, .inr (.inr (.inr (.inr (hpF a_h0 a_h1 a_h2 a_h3 a_h4 a_h5))))))] r.1) {rec58 : Int32 → Int32 → Int32 → Int32 → Int32 → Int32 → Int32 → Int32 → Int32 → Int32 → Int32 → Int32 → Int32 → Int32 → Int32 → (Nat → Int32) → (Nat → Int32) → (Nat → Int32) → (Nat → Int32) → (Nat → Int32) → (Nat → Int32) → (Nat → Int32) → (Nat → Int32) → (Nat → Int32) → (Nat → Int32) → (Nat → Int32) → (Nat → Int32) → (Nat → Int32) → (Nat → Int32) → (Nat → Int32) → (Nat → Int32) → (Nat → Int32) → (Nat → Int32) → (Nat → Int32) → Option (Nat × Int32 × Int32 × Int32 × Int32 × Int32 × Int32 × Int32 × Int32 × Int32 × Int32 × Int32 × Int32 × Int32 × Int32 × (Nat → Int32) × (Nat → Int32) × (Nat → Int32) × (Nat → Int32) × (Nat → Int32) × (Nat → Int32) × (Nat → Int32) × (Nat → Int32) × (Nat → Int32) × (Nat → Int32) × (Nat → Int32) × (Nat → Int32) × (Nat → Int32) × (Nat → Int32) × (Nat → Int32) × (Nat → Int32) × (Nat → Int32) × (Nat → Int32) × (Nat → Int32))} (hrec58 : ∀ (l2 : Int32) (l3 : Int32) (f_net : Int32) (u_det : Int32) (t_len : Int32) (t_cur : Int32) (t_kin : Int32) (t_tol : Int32) (t_don : Int32) (h_old : Int32) (h_siz : Int32) (x_err : Int32) (x_rea : Int32) (x_det : Int32) (x_com : Int32) (v_gw : Nat → Int32) (v_gk : Nat → Int32) (v_bw : Nat → Int32) (v_bk : Nat → Int32) (v_h0w : Nat → Int32) (v_h0k : Nat → Int32) (v_h1w : Nat → Int32) (v_h1k : Nat → Int32) (v_h2w : Nat → Int32) (v_h2k : Nat → Int32) (v_h3w : Nat → Int32) (v_h3k : Nat → Int32) (v_h4w : Nat → Int32) (v_h4k : Nat → Int32) (v_h5w : Nat → Int32) (v_h5k : Nat → Int32) (v_rs : Nat → Int32) (v_ro : Nat → Int32) (v_tn : Nat → Int32) {H : Heap} {locs : List Loc} (hP : va_P D kC [(a_g, .inr (1, [.ref a_gw, .ref a_gk])), (a_b, .inr (1, [.ref a_bw, .ref a_bk])), (a_h0, .inr (1, [.ref a_h0w, .ref a_h0k])), (a_h1, .inr (1, [.ref a_h1w, .ref a_h1k])), (a_h2, .inr (1, [.ref a_h2w, .ref a_h2k])), (a_h3, .inr (1, [.ref a_h3w, .ref a_h3k])), (a_h4, .inr (1, [.ref a_h4w, .ref a_h4k])), (a_h5, .inr (1, [.ref a_h5w, .ref a_h5k])), (a_r, .inr (4, [.ref a_g, .ref a_rs, .ref a_rl, .ref a_ro])), (a_f, .inr (0, [.ref a_g, .int f_net])), (a_u, .inr (6, [.ref a_g, .ref a_r, .int u_det])), (a_t, .inr (5, [.ref a_ti, .ref a_tn, .int t_len, .int t_cur, .int t_kin, .int t_tol, .int t_don])), (a_h, .inr (2, [.ref a_hp, .int h_old, .int h_siz])), (a_x, .inr (7, [.ref a_g, .ref a_b, .ref a_v, .ref a_h, .ref a_r, .ref a_f, .ref a_u, .ref a_t, .ref a_n, .int x_sav, .int x_err, .int x_rea, .int x_det, .int x_com])), (a_gw, .inl (T 0, 90, .inl v_gw)), (a_gk, .inl (T 0, 18, .inl v_gk)), (a_bw, .inl (T 0, 90, .inl v_bw)), (a_bk, .inl (T 0, 18, .inl v_bk)), (a_h0w, .inl (T 0, 90, .inl v_h0w)), (a_h0k, .inl (T 0, 18, .inl v_h0k)), (a_h1w, .inl (T 0, 90, .inl v_h1w)), (a_h1k, .inl (T 0, 18, .inl v_h1k)), (a_h2w, .inl (T 0, 90, .inl v_h2w)), (a_h2k, .inl (T 0, 18, .inl v_h2k)), (a_h3w, .inl (T 0, 90, .inl v_h3w)), (a_h3k, .inl (T 0, 18, .inl v_h3k)), (a_h4w, .inl (T 0, 90, .inl v_h4w)), (a_h4k, .inl (T 0, 18, .inl v_h4k)), (a_h5w, .inl (T 0, 90, .inl v_h5w)), (a_h5k, .inl (T 0, 18, .inl v_h5k)), (a_rs, .inl (T 0, 45, .inl v_rs)), (a_ro, .inl (T 1, 45, .inl v_ro)), (a_ti, .inl (T 2, 60, .inl v_ti)), (a_tn, .inl (T 0, 3, .inl v_tn)), (a_hp, .inl (T 3, 6, .inr (.inr (.inr (.inr (hpF a_h0 a_h1 a_h2 a_h3 a_h4 a_h5))))))] H) (hD : va_D A [(a_g, .inr (1, [.ref a_gw, .ref a_gk])), (a_b, .inr (1, [.ref a_bw, .ref a_bk])), (a_h0, .inr (1, [.ref a_h0w, .ref a_h0k])), (a_h1, .inr (1, [.ref a_h1w, .ref a_h1k])), (a_h2, .inr (1, [.ref a_h2w, .ref a_h2k])), (a_h3, .inr (1, [.ref a_h3w, .ref a_h3k])), (a_h4, .inr (1, [.ref a_h4w, .ref a_h4k])), (a_h5, .inr (1, [.ref a_h5w, .ref a_h5k])), (a_r, .inr (4, [.ref a_g, .ref a_rs, .ref a_rl, .ref a_ro])), (a_f, .inr (0, [.ref a_g, .int f_net])), (a_u, .inr (6, [.ref a_g, .ref a_r, .int u_det])), (a_t, .inr (5, [.ref a_ti, .ref a_tn, .int t_len, .int t_cur, .int t_kin, .int t_tol, .int t_don])), (a_h, .inr (2, [.ref a_hp, .int h_old, .int h_siz])), (a_x, .inr (7, [.ref a_g, .ref a_b, .ref a_v, .ref a_h, .ref a_r, .ref a_f, .ref a_u, .ref a_t, .ref a_n, .int x_sav, .int x_err, .int x_rea, .int x_det, .int x_com])), (a_gw, .inl (T 0, 90, .inl v_gw)), (a_gk, .inl (T 0, 18, .inl v_gk)), (a_bw, .inl (T 0, 90, .inl v_bw)), (a_bk, .inl (T 0, 18, .inl v_bk)), (a_h0w, .inl (T 0, 90, .inl v_h0w)), (a_h0k, .inl (T 0, 18, .inl v_h0k)), (a_h1w, .inl (T 0, 90, .inl v_h1w)), (a_h1k, .inl (T 0, 18, .inl v_h1k)), (a_h2w, .inl (T 0, 90, .inl v_h2w)), (a_h2k, .inl (T 0, 18, .inl v_h2k)), (a_h3w, .inl (T 0, 90, .inl v_h3w)), (a_h3k, .inl (T 0, 18, .inl v_h3k)), (a_h4w, .inl (T 0, 90, .inl v_h4w)), (a_h4k, .inl (T 0, 18, .inl v_h4k)), (a_h5w, .inl (T 0, 90, .inl v_h5w)), (a_h5k, .inl (T 0, 18, .inl v_h5k)), (a_rs, .inl (T 0, 45, .inl v_rs)), (a_ro, .inl (T 1, 45, .inl v_ro)), (a_ti, .inl (T 2, 60, .inl v_ti)), (a_tn, .inl (T 0, 3, .inl v_tn)), (a_hp, .inl (T 3, 6, .inr (.inr (.inr (.inr (hpF a_h0 a_h1 a_h2 a_h3 a_h4 a_h5))))))]) (hS : va_S A s.heap H locs) (ls : Array Slot) (hl : lv_has ls 4 [(0, .ref a_x), (2, .int l2), (3, .int l3)]) (h : rec58 l2 l3 f_net u_det t_len t_cur t_kin t_tol t_don h_old h_siz x_err x_rea x_det x_com v_gw v_gk v_bw v_bk v_h0w v_h0k v_h1w v_h1k v_h2w v_h2k v_h3w v_h3k v_h4w v_h4k v_h5w v_h5k v_rs v_ro v_tn = some r), W p l e ({ frames := 7, cells := 2, slots := 12, locals := 171 } : Room) s m args below meth c H locs 0 0 Q (F0 m 58 ls [])) (l2 : Int32) (l3 : Int32) (f_net : Int32) (u_det : Int32) (t_len : Int32) (t_cur : Int32) (t_kin : Int32) (t_tol : Int32) (t_don : Int32) (h_old : Int32) (h_siz : Int32) (x_err : Int32) (x_rea : Int32) (x_det : Int32) (x_com : Int32) (v_gw : Nat → Int32) (v_gk : Nat → Int32) (v_bw : Nat → Int32) (v_bk : Nat → Int32) (v_h0w : Nat → Int32) (v_h0k : Nat → Int32) (v_h1w : Nat → Int32) (v_h1k : Nat → Int32) (v_h2w : Nat → Int32) (v_h2k : Nat → Int32) (v_h3w : Nat → Int32) (v_h3k : Nat → Int32) (v_h4w : Nat → Int32) (v_h4k : Nat → Int32) (v_h5w : Nat → Int32) (v_h5k : Nat → Int32) (v_rs : Nat → Int32) (v_ro : Nat → Int32) (v_tn : Nat → Int32) {H : Heap} {locs : List Loc} (hP : va_P D kC [(a_g, .inr (1, [.ref a_gw, .ref a_gk])), (a_b, .inr (1, [.ref a_bw, .ref a_bk])), (a_h0, .inr (1, [.ref a_h0w, .ref a_h0k])), (a_h1, .inr (1, [.ref a_h1w, .ref a_h1k])), (a_h2, .inr (1, [.ref a_h2w, .ref a_h2k])), (a_h3, .inr (1, [.ref a_h3w, .ref a_h3k])), (a_h4, .inr (1, [.ref a_h4w, .ref a_h4k])), (a_h5, .inr (1, [.ref a_h5w, .ref a_h5k])), (a_r, .inr (4, [.ref a_g, .ref a_rs, .ref a_rl, .ref a_ro])), (a_f, .inr (0, [.ref a_g, .int f_net])), (a_u, .inr (6, [.ref a_g, .ref a_r, .int u_det])), (a_t, .inr (5, [.ref a_ti, .ref a_tn, .int t_len, .int t_cur, .int t_kin, .int t_tol, .int t_don])), (a_h, .inr (2, [.ref a_hp, .int h_old, .int h_siz])), (a_x, .inr (7, [.ref a_g, .ref a_b, .ref a_v, .ref a_h, .ref a_r, .ref a_f, .ref a_u, .ref a_t, .ref a_n, .int x_sav, .int x_err, .int x_rea, .int x_det, .int x_com])), (a_gw, .inl (T 0, 90, .inl v_gw)), (a_gk, .inl (T 0, 18, .inl v_gk)), (a_bw, .inl (T 0, 90, .inl v_bw)), (a_bk, .inl (T 0, 18, .inl v_bk)), (a_h0w, .inl (T 0, 90, .inl v_h0w)), (a_h0k, .inl (T 0, 18, .inl v_h0k)), (a_h1w, .inl (T 0, 90, .inl v_h1w)), (a_h1k, .inl (T 0, 18, .inl v_h1k)), (a_h2w, .inl (T 0, 90, .inl v_h2w)), (a_h2k, .inl (T 0, 18, .inl v_h2k)), (a_h3w, .inl (T 0, 90, .inl v_h3w)), (a_h3k, .inl (T 0, 18, .inl v_h3k)), (a_h4w, .inl (T 0, 90, .inl v_h4w)), (a_h4k, .inl (T 0, 18, .inl v_h4k)), (a_h5w, .inl (T 0, 90, .inl v_h5w)), (a_h5k, .inl (T 0, 18, .inl v_h5k)), (a_rs, .inl (T 0, 45, .inl v_rs)), (a_ro, .inl (T 1, 45, .inl v_ro)), (a_ti, .inl (T 2, 60, .inl v_ti)), (a_tn, .inl (T 0, 3, .inl v_tn)), (a_hp, .inl (T 3, 6, .inr (.inr (.inr (.inr (hpF a_h0 a_h1 a_h2 a_h3 a_h4 a_h5))))))] H) (hD : va_D A [(a_g, .inr (1, [.ref a_gw, .ref a_gk])), (a_b, .inr (1, [.ref a_bw, .ref a_bk])), (a_h0, .inr (1, [.ref a_h0w, .ref a_h0k])), (a_h1, .inr (1, [.ref a_h1w, .ref a_h1k])), (a_h2, .inr (1, [.ref a_h2w, .ref a_h2k])), (a_h3, .inr (1, [.ref a_h3w, .ref a_h3k])), (a_h4, .inr (1, [.ref a_h4w, .ref a_h4k])), (a_h5, .inr (1, [.ref a_h5w, .ref a_h5k])), (a_r, .inr (4, [.ref a_g, .ref a_rs, .ref a_rl, .ref a_ro])), (a_f, .inr (0, [.ref a_g, .int f_net])), (a_u, .inr (6, [.ref a_g, .ref a_r, .int u_det])), (a_t, .inr (5, [.ref a_ti, .ref a_tn, .int t_len, .int t_cur, .int t_kin, .int t_tol, .int t_don])), (a_h, .inr (2, [.ref a_hp, .int h_old, .int h_siz])), (a_x, .inr (7, [.ref a_g, .ref a_b, .ref a_v, .ref a_h, .ref a_r, .ref a_f, .ref a_u, .ref a_t, .ref a_n, .int x_sav, .int x_err, .int x_rea, .int x_det, .int x_com])), (a_gw, .inl (T 0, 90, .inl v_gw)), (a_gk, .inl (T 0, 18, .inl v_gk)), (a_bw, .inl (T 0, 90, .inl v_bw)), (a_bk, .inl (T 0, 18, .inl v_bk)), (a_h0w, .inl (T 0, 90, .inl v_h0w)), (a_h0k, .inl (T 0, 18, .inl v_h0k)), (a_h1w, .inl (T 0, 90, .inl v_h1w)), (a_h1k, .inl (T 0, 18, .inl v_h1k)), (a_h2w, .inl (T 0, 90, .inl v_h2w)), (a_h2k, .inl (T 0, 18, .inl v_h2k)), (a_h3w, .inl (T 0, 90, .inl v_h3w)), (a_h3k, .inl (T 0, 18, .inl v_h3k)), (a_h4w, .inl (T 0, 90, .inl v_h4w)), (a_h4k, .inl (T 0, 18, .inl v_h4k)), (a_h5w, .inl (T 0, 90, .inl v_h5w)), (a_h5k, .inl (T 0, 18, .inl v_h5k)), (a_rs, .inl (T 0, 45, .inl v_rs)), (a_ro, .inl (T 1, 45, .inl v_ro)), (a_ti, .inl (T 2, 60, .inl v_ti)), (a_tn, .inl (T 0, 3, .inl v_tn)), (a_hp, .inl (T 3, 6, .inr (.inr (.inr (.inr (hpF a_h0 a_h1 a_h2 a_h3 a_h4 a_h5))))))]) (hS : va_S A s.heap H locs) (ls : Array Slot) (hl : lv_has ls 4 [(0, .ref a_x), (2, .int l2), (3, .int l3)]) (h : fX7_read_98 v_ti rec58 l2 l3 f_net u_det t_len t_cur t_kin t_tol t_don h_old h_siz x_err x_rea x_det x_com v_gw v_gk v_bw v_bk v_h0w v_h0k v_h1w v_h1k v_h2w v_h2k v_h3w v_h3k v_h4w v_h4k v_h5w v_h5k v_rs v_ro v_tn = some r) : W p l e ({ frames := 7, cells := 2, slots := 12, locals := 171 } : Room) s m args below meth c H locs 0 0 Q (F0 m 98 ls []) := by
  have hx := C.1
  have hb := C.2.1
  unfold fX7_read_98 at h
  refine lv_iinc (v := (l3 + 1)) (lv' := [(3, .int (l3 + 1)), (0, .ref a_x), (2, .int l2)]) hx hb dX7_read_98 hl (k := 2) rfl rfl (by decide) rfl (fun ls hl => ?_)
  refine lv_goto (tgt := 58) hx hb dX7_read_101 (by decide) ?_
  exact hrec58 l2 (l3 + 1) f_net u_det t_len t_cur t_kin t_tol t_don h_old h_siz x_err x_rea x_det x_com v_gw v_gk v_bw v_bk v_h0w v_h0k v_h1w v_h1k v_h2w v_h2k v_h3w v_h3k v_h4w v_h4k v_h5w v_h5k v_rs v_ro v_tn hP hD hS _ (lv_sub hl [1, 2, 0] rfl) h
set_option maxHeartbeats 4000000 in
set_option maxRecDepth 100000 in
theorem lX7_read_104 {p : Program} {l : Launch} {e : Env} {s : State} {m : MethodId} {args : Array Value} {below : List Frame} {meth : Method} {c : Code} {Q : State → Prop} {D : va_G} {T : Nat → ClassId} {a_g a_gw a_gk a_b a_bw a_bk a_h0 a_h0w a_h0k a_h1 a_h1w a_h1k a_h2 a_h2w a_h2k a_h3 a_h3w a_h3k a_h4 a_h4w a_h4k a_h5 a_h5w a_h5k a_r a_rs a_rl a_ro a_f a_u a_t a_ti a_tn a_h a_hp a_x a_v a_n : Nat} {x_sav : Int32} {v_ti : Nat → Int32} {A : Nat → Prop} {r : Nat × Int32 × Int32 × Int32 × Int32 × Int32 × Int32 × Int32 × Int32 × Int32 × Int32 × Int32 × Int32 × Int32 × Int32 × (Nat → Int32) × (Nat → Int32) × (Nat → Int32) × (Nat → Int32) × (Nat → Int32) × (Nat → Int32) × (Nat → Int32) × (Nat → Int32) × (Nat → Int32) × (Nat → Int32) × (Nat → Int32) × (Nat → Int32) × (Nat → Int32) × (Nat → Int32) × (Nat → Int32) × (Nat → Int32) × (Nat → Int32) × (Nat → Int32) × (Nat → Int32)} (C : CallFix p m c cX7_read 4 s args aw RX7) (hE : eK D T s) (hA : ∀ q : Nat, s.heap.size ≤ q → A q) (hZ : eX l A s) (hret : ThRetI p l e ({ frames := 7, cells := 2, slots := 12, locals := 171 } : Room) s m args below meth c Q cX7_read .int D A [(a_g, .inr (1, [.ref a_gw, .ref a_gk])), (a_b, .inr (1, [.ref a_bw, .ref a_bk])), (a_h0, .inr (1, [.ref a_h0w, .ref a_h0k])), (a_h1, .inr (1, [.ref a_h1w, .ref a_h1k])), (a_h2, .inr (1, [.ref a_h2w, .ref a_h2k])), (a_h3, .inr (1, [.ref a_h3w, .ref a_h3k])), (a_h4, .inr (1, [.ref a_h4w, .ref a_h4k])), (a_h5, .inr (1, [.ref a_h5w, .ref a_h5k])), (a_r, .inr (4, [.ref a_g, .ref a_rs, .ref a_rl, .ref a_ro])), (a_f, .inr (0, [.ref a_g, .int r.2.2.1])), (a_u, .inr (6, [.ref a_g, .ref a_r, .int r.2.2.2.1])), (a_t, .inr (5, [.ref a_ti, .ref a_tn, .int r.2.2.2.2.1, .int r.2.2.2.2.2.1, .int r.2.2.2.2.2.2.1, .int r.2.2.2.2.2.2.2.1, .int r.2.2.2.2.2.2.2.2.1])), (a_h, .inr (2, [.ref a_hp, .int r.2.2.2.2.2.2.2.2.2.1, .int r.2.2.2.2.2.2.2.2.2.2.1])), (a_x, .inr (7, [.ref a_g, .ref a_b, .ref a_v, .ref a_h, .ref a_r, .ref a_f, .ref a_u, .ref a_t, .ref a_n, .int x_sav, .int r.2.2.2.2.2.2.2.2.2.2.2.1, .int r.2.2.2.2.2.2.2.2.2.2.2.2.1, .int r.2.2.2.2.2.2.2.2.2.2.2.2.2.1, .int r.2.2.2.2.2.2.2.2.2.2.2.2.2.2.1])), (a_gw, .inl (T 0, 90, .inl r.2.2.2.2.2.2.2.2.2.2.2.2.2.2.2.1)), (a_gk, .inl (T 0, 18, .inl r.2.2.2.2.2.2.2.2.2.2.2.2.2.2.2.2.1)), (a_bw, .inl (T 0, 90, .inl r.2.2.2.2.2.2.2.2.2.2.2.2.2.2.2.2.2.1)), (a_bk, .inl (T 0, 18, .inl r.2.2.2.2.2.2.2.2.2.2.2.2.2.2.2.2.2.2.1)), (a_h0w, .inl (T 0, 90, .inl r.2.2.2.2.2.2.2.2.2.2.2.2.2.2.2.2.2.2.2.1)), (a_h0k, .inl (T 0, 18, .inl r.2.2.2.2.2.2.2.2.2.2.2.2.2.2.2.2.2.2.2.2.1)), (a_h1w, .inl (T 0, 90, .inl r.2.2.2.2.2.2.2.2.2.2.2.2.2.2.2.2.2.2.2.2.2.1)), (a_h1k, .inl (T 0, 18, .inl r.2.2.2.2.2.2.2.2.2.2.2.2.2.2.2.2.2.2.2.2.2.2.1)), (a_h2w, .inl (T 0, 90, .inl r.2.2.2.2.2.2.2.2.2.2.2.2.2.2.2.2.2.2.2.2.2.2.2.1)), (a_h2k, .inl (T 0, 18, .inl r.2.2.2.2.2.2.2.2.2.2.2.2.2.2.2.2.2.2.2.2.2.2.2.2.1)), (a_h3w, .inl (T 0, 90, .inl r.2.2.2.2.2.2.2.2.2.2.2.2.2.2.2.2.2.2.2.2.2.2.2.2.2.1)), (a_h3k, .inl (T 0, 18, .inl r.2.2.2.2.2.2.2.2.2.2.2.2.2.2.2.2.2.2.2.2.2.2.2.2.2.2.1)), (a_h4w, .inl (T 0, 90, .inl r.2.2.2.2.2.2.2.2.2.2.2.2.2.2.2.2.2.2.2.2.2.2.2.2.2.2.2.1)), (a_h4k, .inl (T 0, 18, .inl r.2.2.2.2.2.2.2.2.2.2.2.2.2.2.2.2.2.2.2.2.2.2.2.2.2.2.2.2.1)), (a_h5w, .inl (T 0, 90, .inl r.2.2.2.2.2.2.2.2.2.2.2.2.2.2.2.2.2.2.2.2.2.2.2.2.2.2.2.2.2.1)), (a_h5k, .inl (T 0, 18, .inl r.2.2.2.2.2.2.2.2.2.2.2.2.2.2.2.2.2.2.2.2.2.2.2.2.2.2.2.2.2.2.1)), (a_rs, .inl (T 0, 45, .inl r.2.2.2.2.2.2.2.2.2.2.2.2.2.2.2.2.2.2.2.2.2.2.2.2.2.2.2.2.2.2.2.1)), (a_ro, .inl (T 1, 45, .inl r.2.2.2.2.2.2.2.2.2.2.2.2.2.2.2.2.2.2.2.2.2.2.2.2.2.2.2.2.2.2.2.2.1)), (a_ti, .inl (T 2, 60, .inl v_ti)), (a_tn, .inl (T 0, 3, .inl r.2.2.2.2.2.2.2.2.2.2.2.2.2.2.2.2.2.2.2.2.2.2.2.2.2.2.2.2.2.2.2.2.2)), (a_hp, .inl (T 3, 6, .inr (.inr (.inr (.inr (hpF a_h0 a_h1 a_h2 a_h3 a_h4 a_h5))))))] r.1 r.2.1 ∧ ThOut p l e ({ frames := 7, cells := 2, slots := 12, locals := 171 } : Room) s m args below meth c Q D A [(a_g, .inr (1, [.ref a_gw, .ref a_gk])), (a_b, .inr (1, [.ref a_bw, .ref a_bk])), (a_h0, .inr (1, [.ref a_h0w, .ref a_h0k])), (a_h1, .inr (1, [.ref a_h1w, .ref a_h1k])), (a_h2, .inr (1, [.ref a_h2w, .ref a_h2k])), (a_h3, .inr (1, [.ref a_h3w, .ref a_h3k])), (a_h4, .inr (1, [.ref a_h4w, .ref a_h4k])), (a_h5, .inr (1, [.ref a_h5w, .ref a_h5k])), (a_r, .inr (4, [.ref a_g, .ref a_rs, .ref a_rl, .ref a_ro])), (a_f, .inr (0, [.ref a_g, .int r.2.2.1])), (a_u, .inr (6, [.ref a_g, .ref a_r, .int r.2.2.2.1])), (a_t, .inr (5, [.ref a_ti, .ref a_tn, .int r.2.2.2.2.1, .int r.2.2.2.2.2.1, .int r.2.2.2.2.2.2.1, .int r.2.2.2.2.2.2.2.1, .int r.2.2.2.2.2.2.2.2.1])), (a_h, .inr (2, [.ref a_hp, .int r.2.2.2.2.2.2.2.2.2.1, .int r.2.2.2.2.2.2.2.2.2.2.1])), (a_x, .inr (7, [.ref a_g, .ref a_b, .ref a_v, .ref a_h, .ref a_r, .ref a_f, .ref a_u, .ref a_t, .ref a_n, .int x_sav, .int r.2.2.2.2.2.2.2.2.2.2.2.1, .int r.2.2.2.2.2.2.2.2.2.2.2.2.1, .int r.2.2.2.2.2.2.2.2.2.2.2.2.2.1, .int r.2.2.2.2.2.2.2.2.2.2.2.2.2.2.1])), (a_gw, .inl (T 0, 90, .inl r.2.2.2.2.2.2.2.2.2.2.2.2.2.2.2.1)), (a_gk, .inl (T 0, 18, .inl r.2.2.2.2.2.2.2.2.2.2.2.2.2.2.2.2.1)), (a_bw, .inl (T 0, 90, .inl r.2.2.2.2.2.2.2.2.2.2.2.2.2.2.2.2.2.1)), (a_bk, .inl (T 0, 18, .inl r.2.2.2.2.2.2.2.2.2.2.2.2.2.2.2.2.2.2.1)), (a_h0w, .inl (T 0, 90, .inl r.2.2.2.2.2.2.2.2.2.2.2.2.2.2.2.2.2.2.2.1)), (a_h0k, .inl (T 0, 18, .inl r.2.2.2.2.2.2.2.2.2.2.2.2.2.2.2.2.2.2.2.2.1)), (a_h1w, .inl (T 0, 90, .inl r.2.2.2.2.2.2.2.2.2.2.2.2.2.2.2.2.2.2.2.2.2.1)), (a_h1k, .inl (T 0, 18, .inl r.2.2.2.2.2.2.2.2.2.2.2.2.2.2.2.2.2.2.2.2.2.2.1)), (a_h2w, .inl (T 0, 90, .inl r.2.2.2.2.2.2.2.2.2.2.2.2.2.2.2.2.2.2.2.2.2.2.2.1)), (a_h2k, .inl (T 0, 18, .inl r.2.2.2.2.2.2.2.2.2.2.2.2.2.2.2.2.2.2.2.2.2.2.2.2.1)), (a_h3w, .inl (T 0, 90, .inl r.2.2.2.2.2.2.2.2.2.2.2.2.2.2.2.2.2.2.2.2.2.2.2.2.2.1)), (a_h3k, .inl (T 0, 18, .inl r.2.2.2.2.2.2.2.2.2.2.2.2.2.2.2.2.2.2.2.2.2.2.2.2.2.2.1)), (a_h4w, .inl (T 0, 90, .inl r.2.2.2.2.2.2.2.2.2.2.2.2.2.2.2.2.2.2.2.2.2.2.2.2.2.2.2.1)), (a_h4k, .inl (T 0, 18, .inl r.2.2.2.2.2.2.2.2.2.2.2.2.2.2.2.2.2.2.2.2.2.2.2.2.2.2.2.2.1)), (a_h5w, .inl (T 0, 90, .inl r.2.2.2.2.2.2.2.2.2.2.2.2.2.2.2.2.2.2.2.2.2.2.2.2.2.2.2.2.2.1)), (a_h5k, .inl (T 0, 18, .inl r.2.2.2.2.2.2.2.2.2.2.2.2.2.2.2.2.2.2.2.2.2.2.2.2.2.2.2.2.2.2.1)), (a_rs, .inl (T 0, 45, .inl r.2.2.2.2.2.2.2.2.2.2.2.2.2.2.2.2.2.2.2.2.2.2.2.2.2.2.2.2.2.2.2.1)), (a_ro, .inl (T 1, 45, .inl r.2.2.2.2.2.2.2.2.2.2.2.2.2.2.2.2.2.2.2.2.2.2.2.2.2.2.2.2.2.2.2.2.1)), (a_ti, .inl (T 2, 60, .inl v_ti)), (a_tn, .inl (T 0, 3, .inl r.2.2.2.2.2.2.2.2.2.2.2.2.2.2.2.2.2.2.2.2.2.2.2.2.2.2.2.2.2.2.2.2.2)), (a_hp, .inl (T 3, 6, .inr (.inr (.inr (.inr (hpF a_h0 a_h1 a_h2 a_h3 a_h4 a_h5))))))] r.1 ∧ ThThr p l e ({ frames := 7, cells := 2, slots := 12, locals := 171 } : Room) s m args below meth c Q cX7_read RX7 D A [(a_g, .inr (1, [.ref a_gw, .ref a_gk])), (a_b, .inr (1, [.ref a_bw, .ref a_bk])), (a_h0, .inr (1, [.ref a_h0w, .ref a_h0k])), (a_h1, .inr (1, [.ref a_h1w, .ref a_h1k])), (a_h2, .inr (1, [.ref a_h2w, .ref a_h2k])), (a_h3, .inr (1, [.ref a_h3w, .ref a_h3k])), (a_h4, .inr (1, [.ref a_h4w, .ref a_h4k])), (a_h5, .inr (1, [.ref a_h5w, .ref a_h5k])), (a_r, .inr (4, [.ref a_g, .ref a_rs, .ref a_rl, .ref a_ro])), (a_f, .inr (0, [.ref a_g, .int r.2.2.1])), (a_u, .inr (6, [.ref a_g, .ref a_r, .int r.2.2.2.1])), (a_t, .inr (5, [.ref a_ti, .ref a_tn, .int r.2.2.2.2.1, .int r.2.2.2.2.2.1, .int r.2.2.2.2.2.2.1, .int r.2.2.2.2.2.2.2.1, .int r.2.2.2.2.2.2.2.2.1])), (a_h, .inr (2, [.ref a_hp, .int r.2.2.2.2.2.2.2.2.2.1, .int r.2.2.2.2.2.2.2.2.2.2.1])), (a_x, .inr (7, [.ref a_g, .ref a_b, .ref a_v, .ref a_h, .ref a_r, .ref a_f, .ref a_u, .ref a_t, .ref a_n, .int x_sav, .int r.2.2.2.2.2.2.2.2.2.2.2.1, .int r.2.2.2.2.2.2.2.2.2.2.2.2.1, .int r.2.2.2.2.2.2.2.2.2.2.2.2.2.1, .int r.2.2.2.2.2.2.2.2.2.2.2.2.2.2.1])), (a_gw, .inl (T 0, 90, .inl r.2.2.2.2.2.2.2.2.2.2.2.2.2.2.2.1)), (a_gk, .inl (T 0, 18, .inl r.2.2.2.2.2.2.2.2.2.2.2.2.2.2.2.2.1)), (a_bw, .inl (T 0, 90, .inl r.2.2.2.2.2.2.2.2.2.2.2.2.2.2.2.2.2.1)), (a_bk, .inl (T 0, 18, .inl r.2.2.2.2.2.2.2.2.2.2.2.2.2.2.2.2.2.2.1)), (a_h0w, .inl (T 0, 90, .inl r.2.2.2.2.2.2.2.2.2.2.2.2.2.2.2.2.2.2.2.1)), (a_h0k, .inl (T 0, 18, .inl r.2.2.2.2.2.2.2.2.2.2.2.2.2.2.2.2.2.2.2.2.1)), (a_h1w, .inl (T 0, 90, .inl r.2.2.2.2.2.2.2.2.2.2.2.2.2.2.2.2.2.2.2.2.2.1)), (a_h1k, .inl (T 0, 18, .inl r.2.2.2.2.2.2.2.2.2.2.2.2.2.2.2.2.2.2.2.2.2.2.1)), (a_h2w, .inl (T 0, 90, .inl r.2.2.2.2.2.2.2.2.2.2.2.2.2.2.2.2.2.2.2.2.2.2.2.1)), (a_h2k, .inl (T 0, 18, .inl r.2.2.2.2.2.2.2.2.2.2.2.2.2.2.2.2.2.2.2.2.2.2.2.2.1)), (a_h3w, .inl (T 0, 90, .inl r.2.2.2.2.2.2.2.2.2.2.2.2.2.2.2.2.2.2.2.2.2.2.2.2.2.1)), (a_h3k, .inl (T 0, 18, .inl r.2.2.2.2.2.2.2.2.2.2.2.2.2.2.2.2.2.2.2.2.2.2.2.2.2.2.1)), (a_h4w, .inl (T 0, 90, .inl r.2.2.2.2.2.2.2.2.2.2.2.2.2.2.2.2.2.2.2.2.2.2.2.2.2.2.2.1)), (a_h4k, .inl (T 0, 18, .inl r.2.2.2.2.2.2.2.2.2.2.2.2.2.2.2.2.2.2.2.2.2.2.2.2.2.2.2.2.1)), (a_h5w, .inl (T 0, 90, .inl r.2.2.2.2.2.2.2.2.2.2.2.2.2.2.2.2.2.2.2.2.2.2.2.2.2.2.2.2.2.1)), (a_h5k, .inl (T 0, 18, .inl r.2.2.2.2.2.2.2.2.2.2.2.2.2.2.2.2.2.2.2.2.2.2.2.2.2.2.2.2.2.2.1)), (a_rs, .inl (T 0, 45, .inl r.2.2.2.2.2.2.2.2.2.2.2.2.2.2.2.2.2.2.2.2.2.2.2.2.2.2.2.2.2.2.2.1)), (a_ro, .inl (T 1, 45, .inl r.2.2.2.2.2.2.2.2.2.2.2.2.2.2.2.2.2.2.2.2.2.2.2.2.2.2.2.2.2.2.2.2.1)), (a_ti, .inl (T 2, 60, .inl v_ti)), (a_tn, .inl (T 0, 3, .inl r.2.2.2.2.2.2.2.2.2.2.2.2.2.2.2.2.2.2.2.2.2.2.2.2.2.2.2.2.2.2.2.2.2)), (a_hp, .inl (T 3, 6, .inr (.inr (.inr (.inr (hpF a_h0 a_h1 a_h2 a_h3 a_h4 a_h5))))))] r.1) (l2 : Int32) (f_net : Int32) (u_det : Int32) (t_len : Int32) (t_cur : Int32) (t_kin : Int32) (t_tol : Int32) (t_don : Int32) (h_old : Int32) (h_siz : Int32) (x_err : Int32) (x_rea : Int32) (x_det : Int32) (x_com : Int32) (v_gw : Nat → Int32) (v_gk : Nat → Int32) (v_bw : Nat → Int32) (v_bk : Nat → Int32) (v_h0w : Nat → Int32) (v_h0k : Nat → Int32) (v_h1w : Nat → Int32) (v_h1k : Nat → Int32) (v_h2w : Nat → Int32) (v_h2k : Nat → Int32) (v_h3w : Nat → Int32) (v_h3k : Nat → Int32) (v_h4w : Nat → Int32) (v_h4k : Nat → Int32) (v_h5w : Nat → Int32) (v_h5k : Nat → Int32) (v_rs : Nat → Int32) (v_ro : Nat → Int32) (v_tn : Nat → Int32) {H : Heap} {locs : List Loc} (hP : va_P D kC [(a_g, .inr (1, [.ref a_gw, .ref a_gk])), (a_b, .inr (1, [.ref a_bw, .ref a_bk])), (a_h0, .inr (1, [.ref a_h0w, .ref a_h0k])), (a_h1, .inr (1, [.ref a_h1w, .ref a_h1k])), (a_h2, .inr (1, [.ref a_h2w, .ref a_h2k])), (a_h3, .inr (1, [.ref a_h3w, .ref a_h3k])), (a_h4, .inr (1, [.ref a_h4w, .ref a_h4k])), (a_h5, .inr (1, [.ref a_h5w, .ref a_h5k])), (a_r, .inr (4, [.ref a_g, .ref a_rs, .ref a_rl, .ref a_ro])), (a_f, .inr (0, [.ref a_g, .int f_net])), (a_u, .inr (6, [.ref a_g, .ref a_r, .int u_det])), (a_t, .inr (5, [.ref a_ti, .ref a_tn, .int t_len, .int t_cur, .int t_kin, .int t_tol, .int t_don])), (a_h, .inr (2, [.ref a_hp, .int h_old, .int h_siz])), (a_x, .inr (7, [.ref a_g, .ref a_b, .ref a_v, .ref a_h, .ref a_r, .ref a_f, .ref a_u, .ref a_t, .ref a_n, .int x_sav, .int x_err, .int x_rea, .int x_det, .int x_com])), (a_gw, .inl (T 0, 90, .inl v_gw)), (a_gk, .inl (T 0, 18, .inl v_gk)), (a_bw, .inl (T 0, 90, .inl v_bw)), (a_bk, .inl (T 0, 18, .inl v_bk)), (a_h0w, .inl (T 0, 90, .inl v_h0w)), (a_h0k, .inl (T 0, 18, .inl v_h0k)), (a_h1w, .inl (T 0, 90, .inl v_h1w)), (a_h1k, .inl (T 0, 18, .inl v_h1k)), (a_h2w, .inl (T 0, 90, .inl v_h2w)), (a_h2k, .inl (T 0, 18, .inl v_h2k)), (a_h3w, .inl (T 0, 90, .inl v_h3w)), (a_h3k, .inl (T 0, 18, .inl v_h3k)), (a_h4w, .inl (T 0, 90, .inl v_h4w)), (a_h4k, .inl (T 0, 18, .inl v_h4k)), (a_h5w, .inl (T 0, 90, .inl v_h5w)), (a_h5k, .inl (T 0, 18, .inl v_h5k)), (a_rs, .inl (T 0, 45, .inl v_rs)), (a_ro, .inl (T 1, 45, .inl v_ro)), (a_ti, .inl (T 2, 60, .inl v_ti)), (a_tn, .inl (T 0, 3, .inl v_tn)), (a_hp, .inl (T 3, 6, .inr (.inr (.inr (.inr (hpF a_h0 a_h1 a_h2 a_h3 a_h4 a_h5))))))] H) (hD : va_D A [(a_g, .inr (1, [.ref a_gw, .ref a_gk])), (a_b, .inr (1, [.ref a_bw, .ref a_bk])), (a_h0, .inr (1, [.ref a_h0w, .ref a_h0k])), (a_h1, .inr (1, [.ref a_h1w, .ref a_h1k])), (a_h2, .inr (1, [.ref a_h2w, .ref a_h2k])), (a_h3, .inr (1, [.ref a_h3w, .ref a_h3k])), (a_h4, .inr (1, [.ref a_h4w, .ref a_h4k])), (a_h5, .inr (1, [.ref a_h5w, .ref a_h5k])), (a_r, .inr (4, [.ref a_g, .ref a_rs, .ref a_rl, .ref a_ro])), (a_f, .inr (0, [.ref a_g, .int f_net])), (a_u, .inr (6, [.ref a_g, .ref a_r, .int u_det])), (a_t, .inr (5, [.ref a_ti, .ref a_tn, .int t_len, .int t_cur, .int t_kin, .int t_tol, .int t_don])), (a_h, .inr (2, [.ref a_hp, .int h_old, .int h_siz])), (a_x, .inr (7, [.ref a_g, .ref a_b, .ref a_v, .ref a_h, .ref a_r, .ref a_f, .ref a_u, .ref a_t, .ref a_n, .int x_sav, .int x_err, .int x_rea, .int x_det, .int x_com])), (a_gw, .inl (T 0, 90, .inl v_gw)), (a_gk, .inl (T 0, 18, .inl v_gk)), (a_bw, .inl (T 0, 90, .inl v_bw)), (a_bk, .inl (T 0, 18, .inl v_bk)), (a_h0w, .inl (T 0, 90, .inl v_h0w)), (a_h0k, .inl (T 0, 18, .inl v_h0k)), (a_h1w, .inl (T 0, 90, .inl v_h1w)), (a_h1k, .inl (T 0, 18, .inl v_h1k)), (a_h2w, .inl (T 0, 90, .inl v_h2w)), (a_h2k, .inl (T 0, 18, .inl v_h2k)), (a_h3w, .inl (T 0, 90, .inl v_h3w)), (a_h3k, .inl (T 0, 18, .inl v_h3k)), (a_h4w, .inl (T 0, 90, .inl v_h4w)), (a_h4k, .inl (T 0, 18, .inl v_h4k)), (a_h5w, .inl (T 0, 90, .inl v_h5w)), (a_h5k, .inl (T 0, 18, .inl v_h5k)), (a_rs, .inl (T 0, 45, .inl v_rs)), (a_ro, .inl (T 1, 45, .inl v_ro)), (a_ti, .inl (T 2, 60, .inl v_ti)), (a_tn, .inl (T 0, 3, .inl v_tn)), (a_hp, .inl (T 3, 6, .inr (.inr (.inr (.inr (hpF a_h0 a_h1 a_h2 a_h3 a_h4 a_h5))))))]) (hS : va_S A s.heap H locs) (ls : Array Slot) (hl : lv_has ls 4 [(0, .ref a_x), (2, .int l2)]) (h : fX7_read_104 v_ti l2 f_net u_det t_len t_cur t_kin t_tol t_don h_old h_siz x_err x_rea x_det x_com v_gw v_gk v_bw v_bk v_h0w v_h0k v_h1w v_h1k v_h2w v_h2k v_h3w v_h3k v_h4w v_h4k v_h5w v_h5k v_rs v_ro v_tn = some r) : W p l e ({ frames := 7, cells := 2, slots := 12, locals := 171 } : Room) s m args below meth c H locs 0 0 Q (F0 m 104 ls []) := by
  have hx := C.1
  have hb := C.2.1
  unfold fX7_read_104 at h
  refine lv_aload_n hx hb dX7_read_104 rfl (lv_at hl 0 rfl) ?_
  refine getF (q0 := 13) (k0 := 7) (v := .ref a_t) C hE hP inA7 rfl rfl (by decide) qFX7_57 rfl rfl dX7_read_105 ?_
  obtain ⟨q22, e23, h⟩ := bnd h
  refine wrVv (ws1 := [(a_g, .inr (1, [.ref a_gw, .ref a_gk])), (a_b, .inr (1, [.ref a_bw, .ref a_bk])), (a_h0, .inr (1, [.ref a_h0w, .ref a_h0k])), (a_h1, .inr (1, [.ref a_h1w, .ref a_h1k])), (a_h2, .inr (1, [.ref a_h2w, .ref a_h2k])), (a_h3, .inr (1, [.ref a_h3w, .ref a_h3k])), (a_h4, .inr (1, [.ref a_h4w, .ref a_h4k])), (a_h5, .inr (1, [.ref a_h5w, .ref a_h5k])), (a_r, .inr (4, [.ref a_g, .ref a_rs, .ref a_rl, .ref a_ro])), (a_f, .inr (0, [.ref a_g, .int f_net])), (a_u, .inr (6, [.ref a_g, .ref a_r, .int u_det])), (a_t, .inr (5, [.ref a_ti, .ref a_tn, .int q22, .int t_cur, .int t_kin, .int t_tol, .int t_don])), (a_h, .inr (2, [.ref a_hp, .int h_old, .int h_siz])), (a_x, .inr (7, [.ref a_g, .ref a_b, .ref a_v, .ref a_h, .ref a_r, .ref a_f, .ref a_u, .ref a_t, .ref a_n, .int x_sav, .int x_err, .int x_rea, .int x_det, .int x_com])), (a_gw, .inl (T 0, 90, .inl v_gw)), (a_gk, .inl (T 0, 18, .inl v_gk)), (a_bw, .inl (T 0, 90, .inl v_bw)), (a_bk, .inl (T 0, 18, .inl v_bk)), (a_h0w, .inl (T 0, 90, .inl v_h0w)), (a_h0k, .inl (T 0, 18, .inl v_h0k)), (a_h1w, .inl (T 0, 90, .inl v_h1w)), (a_h1k, .inl (T 0, 18, .inl v_h1k)), (a_h2w, .inl (T 0, 90, .inl v_h2w)), (a_h2k, .inl (T 0, 18, .inl v_h2k)), (a_h3w, .inl (T 0, 90, .inl v_h3w)), (a_h3k, .inl (T 0, 18, .inl v_h3k)), (a_h4w, .inl (T 0, 90, .inl v_h4w)), (a_h4k, .inl (T 0, 18, .inl v_h4k)), (a_h5w, .inl (T 0, 90, .inl v_h5w)), (a_h5k, .inl (T 0, 18, .inl v_h5k)), (a_rs, .inl (T 0, 45, .inl v_rs)), (a_ro, .inl (T 1, 45, .inl v_ro)), (a_ti, .inl (T 2, 60, .inl v_ti)), (a_tn, .inl (T 0, 3, .inl v_tn)), (a_hp, .inl (T 3, 6, .inr (.inr (.inr (.inr (hpF a_h0 a_h1 a_h2 a_h3 a_h4 a_h5))))))]) C hE hP hD hS hA (kX5_clear l D T a_t a_ti a_tn t_len t_cur t_kin t_tol t_don _ q22 e23) mX5_clear qLX7_325 [11] [0, 1, 2, 3, 4, 5, 6, 7, 8, 9, 10, 12, 13, 14, 15, 16, 17, 18, 19, 20, 21, 22, 23, 24, 25, 26, 27, 28, 29, 30, 31, 32, 33, 34] 11 rfl rfl rfl rfl rfl rfl rfl rfl rfl ⟨rfl, rfl⟩ ⟨Nat.le_of_ble_eq_true rfl, Nat.le_of_ble_eq_true rfl⟩ rfl hl.1 rfl (Nat.le_of_ble_eq_true rfl) dX7_read_108 ⟨Nat.le_of_ble_eq_true rfl, Nat.le_of_ble_eq_true rfl⟩ (fun H locs hP hD hS => ?_)
  refine lv_iload_n hx hb dX7_read_111 rfl (lv_at hl 1 rfl) ?_
  refine lv_if_eq (tgt := 154) hx hb dX7_read_112 (by decide) (fun c24 => ?_) (fun c24 => ?_)
  · have h := ite_t c24 h
    refine lv_aload_n hx hb dX7_read_154 rfl (lv_at hl 0 rfl) ?_
    refine getF (q0 := 13) (k0 := 3) (v := .ref a_h) C hE hP inA7 rfl rfl (by decide) qFX7_25 rfl rfl dX7_read_155 ?_
    refine lv_aload_n hx hb dX7_read_158 rfl (lv_at hl 0 rfl) ?_
    refine getF (q0 := 13) (k0 := 1) (v := .ref a_b) C hE hP inA7 rfl rfl (by decide) qFX7_16 rfl rfl dX7_read_159 ?_
    obtain ⟨q25, e26, h⟩ := bnd h
    refine wrVv (ws1 := [(a_g, .inr (1, [.ref a_gw, .ref a_gk])), (a_b, .inr (1, [.ref a_bw, .ref a_bk])), (a_h0, .inr (1, [.ref a_h0w, .ref a_h0k])), (a_h1, .inr (1, [.ref a_h1w, .ref a_h1k])), (a_h2, .inr (1, [.ref a_h2w, .ref a_h2k])), (a_h3, .inr (1, [.ref a_h3w, .ref a_h3k])), (a_h4, .inr (1, [.ref a_h4w, .ref a_h4k])), (a_h5, .inr (1, [.ref a_h5w, .ref a_h5k])), (a_r, .inr (4, [.ref a_g, .ref a_rs, .ref a_rl, .ref a_ro])), (a_f, .inr (0, [.ref a_g, .int f_net])), (a_u, .inr (6, [.ref a_g, .ref a_r, .int u_det])), (a_t, .inr (5, [.ref a_ti, .ref a_tn, .int q22, .int t_cur, .int t_kin, .int t_tol, .int t_don])), (a_h, .inr (2, [.ref a_hp, .int q25.1, .int q25.2.1])), (a_x, .inr (7, [.ref a_g, .ref a_b, .ref a_v, .ref a_h, .ref a_r, .ref a_f, .ref a_u, .ref a_t, .ref a_n, .int x_sav, .int x_err, .int x_rea, .int x_det, .int x_com])), (a_gw, .inl (T 0, 90, .inl v_gw)), (a_gk, .inl (T 0, 18, .inl v_gk)), (a_bw, .inl (T 0, 90, .inl v_bw)), (a_bk, .inl (T 0, 18, .inl v_bk)), (a_h0w, .inl (T 0, 90, .inl q25.2.2.1)), (a_h0k, .inl (T 0, 18, .inl q25.2.2.2.1)), (a_h1w, .inl (T 0, 90, .inl q25.2.2.2.2.1)), (a_h1k, .inl (T 0, 18, .inl q25.2.2.2.2.2.1)), (a_h2w, .inl (T 0, 90, .inl q25.2.2.2.2.2.2.1)), (a_h2k, .inl (T 0, 18, .inl q25.2.2.2.2.2.2.2.1)), (a_h3w, .inl (T 0, 90, .inl q25.2.2.2.2.2.2.2.2.1)), (a_h3k, .inl (T 0, 18, .inl q25.2.2.2.2.2.2.2.2.2.1)), (a_h4w, .inl (T 0, 90, .inl q25.2.2.2.2.2.2.2.2.2.2.1)), (a_h4k, .inl (T 0, 18, .inl q25.2.2.2.2.2.2.2.2.2.2.2.1)), (a_h5w, .inl (T 0, 90, .inl q25.2.2.2.2.2.2.2.2.2.2.2.2.1)), (a_h5k, .inl (T 0, 18, .inl q25.2.2.2.2.2.2.2.2.2.2.2.2.2)), (a_rs, .inl (T 0, 45, .inl v_rs)), (a_ro, .inl (T 1, 45, .inl v_ro)), (a_ti, .inl (T 2, 60, .inl v_ti)), (a_tn, .inl (T 0, 3, .inl v_tn)), (a_hp, .inl (T 3, 6, .inr (.inr (.inr (.inr (hpF a_h0 a_h1 a_h2 a_h3 a_h4 a_h5))))))]) C hE hP hD hS hA (kX2_remember l D T a_b a_bw a_bk a_h0 a_h0w a_h0k a_h1 a_h1w a_h1k a_h2 a_h2w a_h2k a_h3 a_h3w a_h3k a_h4 a_h4w a_h4k a_h5 a_h5w a_h5k a_h a_hp h_old h_siz v_bw v_bk v_h0w v_h0k v_h1w v_h1k v_h2w v_h2k v_h3w v_h3k v_h4w v_h4k v_h5w v_h5k _ q25 e26) mX2_remember qLX7_96 [1, 2, 3, 4, 5, 6, 7, 12, 16, 17, 18, 19, 20, 21, 22, 23, 24, 25, 26, 27, 28, 29, 34] [0, 8, 9, 10, 11, 13, 14, 15, 30, 31, 32, 33] 12 rfl rfl rfl rfl rfl rfl rfl rfl rfl ⟨rfl, rfl⟩ ⟨Nat.le_of_ble_eq_true rfl, Nat.le_of_ble_eq_true rfl⟩ rfl hl.1 rfl (Nat.le_of_ble_eq_true rfl) dX7_read_162 ⟨Nat.le_of_ble_eq_true rfl, Nat.le_of_ble_eq_true rfl⟩ (fun H locs hP hD hS => ?_)
    refine lv_aload_n hx hb dX7_read_165 rfl (lv_at hl 0 rfl) ?_
    refine getF (q0 := 13) (k0 := 7) (v := .ref a_t) C hE hP inA7 rfl rfl (by decide) qFX7_57 rfl rfl dX7_read_166 ?_
    refine rdV C hE hP (kX5_doneCommands l D T a_t a_ti a_tn q22 t_cur t_kin t_tol t_don) mX5_doneCommands qLX7_349 [11] 11 rfl rfl rfl rfl ⟨rfl, rfl⟩ ⟨Nat.le_of_ble_eq_true rfl, Nat.le_of_ble_eq_true rfl⟩ rfl hl.1 rfl (Nat.le_of_ble_eq_true rfl) dX7_read_169 ⟨Nat.le_of_ble_eq_true rfl, Nat.le_of_ble_eq_true rfl⟩ ?_
    have h := Option.some.inj h
    exact hret.1 _ _ _ _ _ _ _ _ (Nat.le_of_ble_eq_true rfl) (Nat.le_of_ble_eq_true rfl) dX7_read_172 rfl (by rw [← h]) (by rw [← h] <;> rfl) (by rw [← h]; exact hP) hS
  · have h := ite_f c24 h
    refine lv_aload_n hx hb dX7_read_115 rfl (lv_at hl 0 rfl) ?_
    refine getF (q0 := 13) (k0 := 0) (v := .ref a_g) C hE hP inA7 rfl rfl (by decide) qFX7_10 rfl rfl dX7_read_116 ?_
    refine lv_aload_n hx hb dX7_read_119 rfl (lv_at hl 0 rfl) ?_
    refine getF (q0 := 13) (k0 := 1) (v := .ref a_b) C hE hP inA7 rfl rfl (by decide) qFX7_16 rfl rfl dX7_read_120 ?_
    obtain ⟨q27, e28, h⟩ := bnd h
    refine wrVv (ws1 := [(a_g, .inr (1, [.ref a_gw, .ref a_gk])), (a_b, .inr (1, [.ref a_bw, .ref a_bk])), (a_h0, .inr (1, [.ref a_h0w, .ref a_h0k])), (a_h1, .inr (1, [.ref a_h1w, .ref a_h1k])), (a_h2, .inr (1, [.ref a_h2w, .ref a_h2k])), (a_h3, .inr (1, [.ref a_h3w, .ref a_h3k])), (a_h4, .inr (1, [.ref a_h4w, .ref a_h4k])), (a_h5, .inr (1, [.ref a_h5w, .ref a_h5k])), (a_r, .inr (4, [.ref a_g, .ref a_rs, .ref a_rl, .ref a_ro])), (a_f, .inr (0, [.ref a_g, .int f_net])), (a_u, .inr (6, [.ref a_g, .ref a_r, .int u_det])), (a_t, .inr (5, [.ref a_ti, .ref a_tn, .int q22, .int t_cur, .int t_kin, .int t_tol, .int t_don])), (a_h, .inr (2, [.ref a_hp, .int h_old, .int h_siz])), (a_x, .inr (7, [.ref a_g, .ref a_b, .ref a_v, .ref a_h, .ref a_r, .ref a_f, .ref a_u, .ref a_t, .ref a_n, .int x_sav, .int x_err, .int x_rea, .int x_det, .int x_com])), (a_gw, .inl (T 0, 90, .inl q27.1)), (a_gk, .inl (T 0, 18, .inl q27.2)), (a_bw, .inl (T 0, 90, .inl v_bw)), (a_bk, .inl (T 0, 18, .inl v_bk)), (a_h0w, .inl (T 0, 90, .inl v_h0w)), (a_h0k, .inl (T 0, 18, .inl v_h0k)), (a_h1w, .inl (T 0, 90, .inl v_h1w)), (a_h1k, .inl (T 0, 18, .inl v_h1k)), (a_h2w, .inl (T 0, 90, .inl v_h2w)), (a_h2k, .inl (T 0, 18, .inl v_h2k)), (a_h3w, .inl (T 0, 90, .inl v_h3w)), (a_h3k, .inl (T 0, 18, .inl v_h3k)), (a_h4w, .inl (T 0, 90, .inl v_h4w)), (a_h4k, .inl (T 0, 18, .inl v_h4k)), (a_h5w, .inl (T 0, 90, .inl v_h5w)), (a_h5k, .inl (T 0, 18, .inl v_h5k)), (a_rs, .inl (T 0, 45, .inl v_rs)), (a_ro, .inl (T 1, 45, .inl v_ro)), (a_ti, .inl (T 2, 60, .inl v_ti)), (a_tn, .inl (T 0, 3, .inl v_tn)), (a_hp, .inl (T 3, 6, .inr (.inr (.inr (.inr (hpF a_h0 a_h1 a_h2 a_h3 a_h4 a_h5))))))]) C hE hP hD hS hA (kX1_copyFrom l D T a_g a_gw a_gk a_b a_bw a_bk v_gw v_gk v_bw v_bk _ q27 e28) mX1_copyFrom qLX7_328 [0, 1, 14, 15, 16, 17] [2, 3, 4, 5, 6, 7, 8, 9, 10, 11, 12, 13, 18, 19, 20, 21, 22, 23, 24, 25, 26, 27, 28, 29, 30, 31, 32, 33, 34] 0 rfl rfl rfl rfl rfl rfl rfl rfl rfl ⟨rfl, rfl⟩ ⟨Nat.le_of_ble_eq_true rfl, Nat.le_of_ble_eq_true rfl⟩ rfl hl.1 rfl (Nat.le_of_ble_eq_true rfl) dX7_read_123 ⟨Nat.le_of_ble_eq_true rfl, Nat.le_of_ble_eq_true rfl⟩ (fun H locs hP hD hS => ?_)
    refine lv_aload_n hx hb dX7_read_126 rfl (lv_at hl 0 rfl) ?_
    refine lv_iload_n hx hb dX7_read_127 rfl (lv_at hl 1 rfl) ?_
    obtain ⟨q29, e30, h⟩ := bnd h
    refine thVv (ws1 := [(a_g, .inr (1, [.ref a_gw, .ref a_gk])), (a_b, .inr (1, [.ref a_bw, .ref a_bk])), (a_h0, .inr (1, [.ref a_h0w, .ref a_h0k])), (a_h1, .inr (1, [.ref a_h1w, .ref a_h1k])), (a_h2, .inr (1, [.ref a_h2w, .ref a_h2k])), (a_h3, .inr (1, [.ref a_h3w, .ref a_h3k])), (a_h4, .inr (1, [.ref a_h4w, .ref a_h4k])), (a_h5, .inr (1, [.ref a_h5w, .ref a_h5k])), (a_r, .inr (4, [.ref a_g, .ref a_rs, .ref a_rl, .ref a_ro])), (a_f, .inr (0, [.ref a_g, .int f_net])), (a_u, .inr (6, [.ref a_g, .ref a_r, .int u_det])), (a_t, .inr (5, [.ref a_ti, .ref a_tn, .int q22, .int t_cur, .int t_kin, .int t_tol, .int t_don])), (a_h, .inr (2, [.ref a_hp, .int h_old, .int h_siz])), (a_x, .inr (7, [.ref a_g, .ref a_b, .ref a_v, .ref a_h, .ref a_r, .ref a_f, .ref a_u, .ref a_t, .ref a_n, .int x_sav, .int x_err, .int x_rea, .int x_det, .int x_com])), (a_gw, .inl (T 0, 90, .inl q27.1)), (a_gk, .inl (T 0, 18, .inl q27.2)), (a_bw, .inl (T 0, 90, .inl v_bw)), (a_bk, .inl (T 0, 18, .inl v_bk)), (a_h0w, .inl (T 0, 90, .inl v_h0w)), (a_h0k, .inl (T 0, 18, .inl v_h0k)), (a_h1w, .inl (T 0, 90, .inl v_h1w)), (a_h1k, .inl (T 0, 18, .inl v_h1k)), (a_h2w, .inl (T 0, 90, .inl v_h2w)), (a_h2k, .inl (T 0, 18, .inl v_h2k)), (a_h3w, .inl (T 0, 90, .inl v_h3w)), (a_h3k, .inl (T 0, 18, .inl v_h3k)), (a_h4w, .inl (T 0, 90, .inl v_h4w)), (a_h4k, .inl (T 0, 18, .inl v_h4k)), (a_h5w, .inl (T 0, 90, .inl v_h5w)), (a_h5k, .inl (T 0, 18, .inl v_h5k)), (a_rs, .inl (T 0, 45, .inl v_rs)), (a_ro, .inl (T 1, 45, .inl v_ro)), (a_ti, .inl (T 2, 60, .inl v_ti)), (a_tn, .inl (T 0, 3, .inl v_tn)), (a_hp, .inl (T 3, 6, .inr (.inr (.inr (.inr (hpF a_h0 a_h1 a_h2 a_h3 a_h4 a_h5))))))]) C hE hZ hP hD hS hA (kX7_demandKnown l hZ.1 D T a_x l2 _ q29 e30) mX7_demandKnown qLX7_346 [] [0, 1, 2, 3, 4, 5, 6, 7, 8, 9, 10, 11, 12, 13, 14, 15, 16, 17, 18, 19, 20, 21, 22, 23, 24, 25, 26, 27, 28, 29, 30, 31, 32, 33, 34] 13 rfl rfl rfl rfl rfl rfl rfl rfl rfl ⟨Nat.le_of_ble_eq_true rfl, Nat.le_of_ble_eq_true rfl⟩ rfl hl.1 rfl (Nat.le_of_ble_eq_true rfl) dX7_read_128 ⟨Nat.le_of_ble_eq_true rfl, Nat.le_of_ble_eq_true rfl⟩ (fun hx0 H locs ce q9 hP hD hS g1 g2 g3 => ?_) (fun hx0 H locs hP hD hS => ?_)
    · have h := ite_f (Nat.ne_of_gt hx0) h
      have h := Option.some.inj h
      exact hret.2.1 _ _ _ _ _ _ _ _ _ (Nat.le_of_ble_eq_true rfl) (Nat.le_of_ble_eq_true rfl) (by rw [← h]; exact hx0) (by rw [← h]; exact hP) hS g1 g2 (by rw [← h]; exact g3)
    · have h := ite_t hx0 h
      refine lv_aload_n hx hb dX7_read_131 rfl (lv_at hl 0 rfl) ?_
      refine lv_iload_n hx hb dX7_read_132 rfl (lv_at hl 1 rfl) ?_
      refine lv_aload_n hx hb dX7_read_133 rfl (lv_at hl 0 rfl) ?_
      refine getF (q0 := 13) (k0 := 7) (v := .ref a_t) C hE hP inA7 rfl rfl (by decide) qFX7_57 rfl rfl dX7_read_134 ?_
      refine rdV C hE hP (kX5_doneCommands l D T a_t a_ti a_tn q22 t_cur t_kin t_tol t_don) mX5_doneCommands qLX7_349 [11] 11 rfl rfl rfl rfl ⟨rfl, rfl⟩ ⟨Nat.le_of_ble_eq_true rfl, Nat.le_of_ble_eq_true rfl⟩ rfl hl.1 rfl (Nat.le_of_ble_eq_true rfl) dX7_read_137 ⟨Nat.le_of_ble_eq_true rfl, Nat.le_of_ble_eq_true rfl⟩ ?_
      obtain ⟨q31, e32, h⟩ := bnd h
      refine wrVv (ws1 := [(a_g, .inr (1, [.ref a_gw, .ref a_gk])), (a_b, .inr (1, [.ref a_bw, .ref a_bk])), (a_h0, .inr (1, [.ref a_h0w, .ref a_h0k])), (a_h1, .inr (1, [.ref a_h1w, .ref a_h1k])), (a_h2, .inr (1, [.ref a_h2w, .ref a_h2k])), (a_h3, .inr (1, [.ref a_h3w, .ref a_h3k])), (a_h4, .inr (1, [.ref a_h4w, .ref a_h4k])), (a_h5, .inr (1, [.ref a_h5w, .ref a_h5k])), (a_r, .inr (4, [.ref a_g, .ref a_rs, .ref a_rl, .ref a_ro])), (a_f, .inr (0, [.ref a_g, .int f_net])), (a_u, .inr (6, [.ref a_g, .ref a_r, .int u_det])), (a_t, .inr (5, [.ref a_ti, .ref a_tn, .int q22, .int t_cur, .int t_kin, .int t_tol, .int t_don])), (a_h, .inr (2, [.ref a_hp, .int h_old, .int h_siz])), (a_x, .inr (7, [.ref a_g, .ref a_b, .ref a_v, .ref a_h, .ref a_r, .ref a_f, .ref a_u, .ref a_t, .ref a_n, .int x_sav, .int x_err, .int q31.1, .int q31.2.1, .int q31.2.2])), (a_gw, .inl (T 0, 90, .inl q27.1)), (a_gk, .inl (T 0, 18, .inl q27.2)), (a_bw, .inl (T 0, 90, .inl v_bw)), (a_bk, .inl (T 0, 18, .inl v_bk)), (a_h0w, .inl (T 0, 90, .inl v_h0w)), (a_h0k, .inl (T 0, 18, .inl v_h0k)), (a_h1w, .inl (T 0, 90, .inl v_h1w)), (a_h1k, .inl (T 0, 18, .inl v_h1k)), (a_h2w, .inl (T 0, 90, .inl v_h2w)), (a_h2k, .inl (T 0, 18, .inl v_h2k)), (a_h3w, .inl (T 0, 90, .inl v_h3w)), (a_h3k, .inl (T 0, 18, .inl v_h3k)), (a_h4w, .inl (T 0, 90, .inl v_h4w)), (a_h4k, .inl (T 0, 18, .inl v_h4k)), (a_h5w, .inl (T 0, 90, .inl v_h5w)), (a_h5k, .inl (T 0, 18, .inl v_h5k)), (a_rs, .inl (T 0, 45, .inl v_rs)), (a_ro, .inl (T 1, 45, .inl v_ro)), (a_ti, .inl (T 2, 60, .inl v_ti)), (a_tn, .inl (T 0, 3, .inl v_tn)), (a_hp, .inl (T 3, 6, .inr (.inr (.inr (.inr (hpF a_h0 a_h1 a_h2 a_h3 a_h4 a_h5))))))]) C hE hP hD hS hA (kX7_keepReason l D T a_u a_g a_r a_x a_b a_v a_h a_f a_t a_n u_det x_sav x_err x_rea x_det x_com l2 (fX5_doneCommands t_don) _ q31 e32) mX7_keepReason qLX7_352 [10, 13] [0, 1, 2, 3, 4, 5, 6, 7, 8, 9, 11, 12, 14, 15, 16, 17, 18, 19, 20, 21, 22, 23, 24, 25, 26, 27, 28, 29, 30, 31, 32, 33, 34] 13 rfl rfl rfl rfl rfl rfl rfl rfl rfl ⟨rfl, rfl⟩ ⟨Nat.le_of_ble_eq_true rfl, Nat.le_of_ble_eq_true rfl⟩ rfl hl.1 rfl (Nat.le_of_ble_eq_true rfl) dX7_read_140 ⟨Nat.le_of_ble_eq_true rfl, Nat.le_of_ble_eq_true rfl⟩ (fun H locs hP hD hS => ?_)
      have h := Option.some.inj h
      exact hret.2.2 _ _ _ _ _ _ _ 355 359 357 _ "a command is refused" (by rw [← h]; exact thrX7_355_359_2) (by decide +kernel) dX7_read_143 dX7_read_146 (Or.inr ⟨dX7_read_147, dX7_read_150, dX7_read_153⟩) (Nat.le_of_ble_eq_true rfl) (Nat.le_of_ble_eq_true rfl) (Nat.le_of_ble_eq_true rfl) (Nat.le_of_ble_eq_true rfl) (hl.1.trans C.2.2.1.symm) (by rw [← h]; exact (Nat.le_of_ble_eq_true rfl)) (by rw [← h]; exact hP) hS
set_option maxHeartbeats 4000000 in
set_option maxRecDepth 100000 in
theorem lX7_read_58 {p : Program} {l : Launch} {e : Env} {s : State} {m : MethodId} {args : Array Value} {below : List Frame} {meth : Method} {c : Code} {Q : State → Prop} {D : va_G} {T : Nat → ClassId} {a_g a_gw a_gk a_b a_bw a_bk a_h0 a_h0w a_h0k a_h1 a_h1w a_h1k a_h2 a_h2w a_h2k a_h3 a_h3w a_h3k a_h4 a_h4w a_h4k a_h5 a_h5w a_h5k a_r a_rs a_rl a_ro a_f a_u a_t a_ti a_tn a_h a_hp a_x a_v a_n : Nat} {x_sav : Int32} {v_ti : Nat → Int32} {A : Nat → Prop} {r : Nat × Int32 × Int32 × Int32 × Int32 × Int32 × Int32 × Int32 × Int32 × Int32 × Int32 × Int32 × Int32 × Int32 × Int32 × (Nat → Int32) × (Nat → Int32) × (Nat → Int32) × (Nat → Int32) × (Nat → Int32) × (Nat → Int32) × (Nat → Int32) × (Nat → Int32) × (Nat → Int32) × (Nat → Int32) × (Nat → Int32) × (Nat → Int32) × (Nat → Int32) × (Nat → Int32) × (Nat → Int32) × (Nat → Int32) × (Nat → Int32) × (Nat → Int32) × (Nat → Int32)} (C : CallFix p m c cX7_read 4 s args aw RX7) (hE : eK D T s) (hA : ∀ q : Nat, s.heap.size ≤ q → A q) (hZ : eX l A s) (hret : ThRetI p l e ({ frames := 7, cells := 2, slots := 12, locals := 171 } : Room) s m args below meth c Q cX7_read .int D A [(a_g, .inr (1, [.ref a_gw, .ref a_gk])), (a_b, .inr (1, [.ref a_bw, .ref a_bk])), (a_h0, .inr (1, [.ref a_h0w, .ref a_h0k])), (a_h1, .inr (1, [.ref a_h1w, .ref a_h1k])), (a_h2, .inr (1, [.ref a_h2w, .ref a_h2k])), (a_h3, .inr (1, [.ref a_h3w, .ref a_h3k])), (a_h4, .inr (1, [.ref a_h4w, .ref a_h4k])), (a_h5, .inr (1, [.ref a_h5w, .ref a_h5k])), (a_r, .inr (4, [.ref a_g, .ref a_rs, .ref a_rl, .ref a_ro])), (a_f, .inr (0, [.ref a_g, .int r.2.2.1])), (a_u, .inr (6, [.ref a_g, .ref a_r, .int r.2.2.2.1])), (a_t, .inr (5, [.ref a_ti, .ref a_tn, .int r.2.2.2.2.1, .int r.2.2.2.2.2.1, .int r.2.2.2.2.2.2.1, .int r.2.2.2.2.2.2.2.1, .int r.2.2.2.2.2.2.2.2.1])), (a_h, .inr (2, [.ref a_hp, .int r.2.2.2.2.2.2.2.2.2.1, .int r.2.2.2.2.2.2.2.2.2.2.1])), (a_x, .inr (7, [.ref a_g, .ref a_b, .ref a_v, .ref a_h, .ref a_r, .ref a_f, .ref a_u, .ref a_t, .ref a_n, .int x_sav, .int r.2.2.2.2.2.2.2.2.2.2.2.1, .int r.2.2.2.2.2.2.2.2.2.2.2.2.1, .int r.2.2.2.2.2.2.2.2.2.2.2.2.2.1, .int r.2.2.2.2.2.2.2.2.2.2.2.2.2.2.1])), (a_gw, .inl (T 0, 90, .inl r.2.2.2.2.2.2.2.2.2.2.2.2.2.2.2.1)), (a_gk, .inl (T 0, 18, .inl r.2.2.2.2.2.2.2.2.2.2.2.2.2.2.2.2.1)), (a_bw, .inl (T 0, 90, .inl r.2.2.2.2.2.2.2.2.2.2.2.2.2.2.2.2.2.1)), (a_bk, .inl (T 0, 18, .inl r.2.2.2.2.2.2.2.2.2.2.2.2.2.2.2.2.2.2.1)), (a_h0w, .inl (T 0, 90, .inl r.2.2.2.2.2.2.2.2.2.2.2.2.2.2.2.2.2.2.2.1)), (a_h0k, .inl (T 0, 18, .inl r.2.2.2.2.2.2.2.2.2.2.2.2.2.2.2.2.2.2.2.2.1)), (a_h1w, .inl (T 0, 90, .inl r.2.2.2.2.2.2.2.2.2.2.2.2.2.2.2.2.2.2.2.2.2.1)), (a_h1k, .inl (T 0, 18, .inl r.2.2.2.2.2.2.2.2.2.2.2.2.2.2.2.2.2.2.2.2.2.2.1)), (a_h2w, .inl (T 0, 90, .inl r.2.2.2.2.2.2.2.2.2.2.2.2.2.2.2.2.2.2.2.2.2.2.2.1)), (a_h2k, .inl (T 0, 18, .inl r.2.2.2.2.2.2.2.2.2.2.2.2.2.2.2.2.2.2.2.2.2.2.2.2.1)), (a_h3w, .inl (T 0, 90, .inl r.2.2.2.2.2.2.2.2.2.2.2.2.2.2.2.2.2.2.2.2.2.2.2.2.2.1)), (a_h3k, .inl (T 0, 18, .inl r.2.2.2.2.2.2.2.2.2.2.2.2.2.2.2.2.2.2.2.2.2.2.2.2.2.2.1)), (a_h4w, .inl (T 0, 90, .inl r.2.2.2.2.2.2.2.2.2.2.2.2.2.2.2.2.2.2.2.2.2.2.2.2.2.2.2.1)), (a_h4k, .inl (T 0, 18, .inl r.2.2.2.2.2.2.2.2.2.2.2.2.2.2.2.2.2.2.2.2.2.2.2.2.2.2.2.2.1)), (a_h5w, .inl (T 0, 90, .inl r.2.2.2.2.2.2.2.2.2.2.2.2.2.2.2.2.2.2.2.2.2.2.2.2.2.2.2.2.2.1)), (a_h5k, .inl (T 0, 18, .inl r.2.2.2.2.2.2.2.2.2.2.2.2.2.2.2.2.2.2.2.2.2.2.2.2.2.2.2.2.2.2.1)), (a_rs, .inl (T 0, 45, .inl r.2.2.2.2.2.2.2.2.2.2.2.2.2.2.2.2.2.2.2.2.2.2.2.2.2.2.2.2.2.2.2.1)), (a_ro, .inl (T 1, 45, .inl r.2.2.2.2.2.2.2.2.2.2.2.2.2.2.2.2.2.2.2.2.2.2.2.2.2.2.2.2.2.2.2.2.1)), (a_ti, .inl (T 2, 60, .inl v_ti)), (a_tn, .inl (T 0, 3, .inl r.2.2.2.2.2.2.2.2.2.2.2.2.2.2.2.2.2.2.2.2.2.2.2.2.2.2.2.2.2.2.2.2.2)), (a_hp, .inl (T 3, 6, .inr (.inr (.inr (.inr (hpF a_h0 a_h1 a_h2 a_h3 a_h4 a_h5))))))] r.1 r.2.1 ∧ ThOut p l e ({ frames := 7, cells := 2, slots := 12, locals := 171 } : Room) s m args below meth c Q D A [(a_g, .inr (1, [.ref a_gw, .ref a_gk])), (a_b, .inr (1, [.ref a_bw, .ref a_bk])), (a_h0, .inr (1, [.ref a_h0w, .ref a_h0k])), (a_h1, .inr (1, [.ref a_h1w, .ref a_h1k])), (a_h2, .inr (1, [.ref a_h2w, .ref a_h2k])), (a_h3, .inr (1, [.ref a_h3w, .ref a_h3k])), (a_h4, .inr (1, [.ref a_h4w, .ref a_h4k])), (a_h5, .inr (1, [.ref a_h5w, .ref a_h5k])), (a_r, .inr (4, [.ref a_g, .ref a_rs, .ref a_rl, .ref a_ro])), (a_f, .inr (0, [.ref a_g, .int r.2.2.1])), (a_u, .inr (6, [.ref a_g, .ref a_r, .int r.2.2.2.1])), (a_t, .inr (5, [.ref a_ti, .ref a_tn, .int r.2.2.2.2.1, .int r.2.2.2.2.2.1, .int r.2.2.2.2.2.2.1, .int r.2.2.2.2.2.2.2.1, .int r.2.2.2.2.2.2.2.2.1])), (a_h, .inr (2, [.ref a_hp, .int r.2.2.2.2.2.2.2.2.2.1, .int r.2.2.2.2.2.2.2.2.2.2.1])), (a_x, .inr (7, [.ref a_g, .ref a_b, .ref a_v, .ref a_h, .ref a_r, .ref a_f, .ref a_u, .ref a_t, .ref a_n, .int x_sav, .int r.2.2.2.2.2.2.2.2.2.2.2.1, .int r.2.2.2.2.2.2.2.2.2.2.2.2.1, .int r.2.2.2.2.2.2.2.2.2.2.2.2.2.1, .int r.2.2.2.2.2.2.2.2.2.2.2.2.2.2.1])), (a_gw, .inl (T 0, 90, .inl r.2.2.2.2.2.2.2.2.2.2.2.2.2.2.2.1)), (a_gk, .inl (T 0, 18, .inl r.2.2.2.2.2.2.2.2.2.2.2.2.2.2.2.2.1)), (a_bw, .inl (T 0, 90, .inl r.2.2.2.2.2.2.2.2.2.2.2.2.2.2.2.2.2.1)), (a_bk, .inl (T 0, 18, .inl r.2.2.2.2.2.2.2.2.2.2.2.2.2.2.2.2.2.2.1)), (a_h0w, .inl (T 0, 90, .inl r.2.2.2.2.2.2.2.2.2.2.2.2.2.2.2.2.2.2.2.1)), (a_h0k, .inl (T 0, 18, .inl r.2.2.2.2.2.2.2.2.2.2.2.2.2.2.2.2.2.2.2.2.1)), (a_h1w, .inl (T 0, 90, .inl r.2.2.2.2.2.2.2.2.2.2.2.2.2.2.2.2.2.2.2.2.2.1)), (a_h1k, .inl (T 0, 18, .inl r.2.2.2.2.2.2.2.2.2.2.2.2.2.2.2.2.2.2.2.2.2.2.1)), (a_h2w, .inl (T 0, 90, .inl r.2.2.2.2.2.2.2.2.2.2.2.2.2.2.2.2.2.2.2.2.2.2.2.1)), (a_h2k, .inl (T 0, 18, .inl r.2.2.2.2.2.2.2.2.2.2.2.2.2.2.2.2.2.2.2.2.2.2.2.2.1)), (a_h3w, .inl (T 0, 90, .inl r.2.2.2.2.2.2.2.2.2.2.2.2.2.2.2.2.2.2.2.2.2.2.2.2.2.1)), (a_h3k, .inl (T 0, 18, .inl r.2.2.2.2.2.2.2.2.2.2.2.2.2.2.2.2.2.2.2.2.2.2.2.2.2.2.1)), (a_h4w, .inl (T 0, 90, .inl r.2.2.2.2.2.2.2.2.2.2.2.2.2.2.2.2.2.2.2.2.2.2.2.2.2.2.2.1)), (a_h4k, .inl (T 0, 18, .inl r.2.2.2.2.2.2.2.2.2.2.2.2.2.2.2.2.2.2.2.2.2.2.2.2.2.2.2.2.1)), (a_h5w, .inl (T 0, 90, .inl r.2.2.2.2.2.2.2.2.2.2.2.2.2.2.2.2.2.2.2.2.2.2.2.2.2.2.2.2.2.1)), (a_h5k, .inl (T 0, 18, .inl r.2.2.2.2.2.2.2.2.2.2.2.2.2.2.2.2.2.2.2.2.2.2.2.2.2.2.2.2.2.2.1)), (a_rs, .inl (T 0, 45, .inl r.2.2.2.2.2.2.2.2.2.2.2.2.2.2.2.2.2.2.2.2.2.2.2.2.2.2.2.2.2.2.2.1)), (a_ro, .inl (T 1, 45, .inl r.2.2.2.2.2.2.2.2.2.2.2.2.2.2.2.2.2.2.2.2.2.2.2.2.2.2.2.2.2.2.2.2.1)), (a_ti, .inl (T 2, 60, .inl v_ti)), (a_tn, .inl (T 0, 3, .inl r.2.2.2.2.2.2.2.2.2.2.2.2.2.2.2.2.2.2.2.2.2.2.2.2.2.2.2.2.2.2.2.2.2)), (a_hp, .inl (T 3, 6, .inr (.inr (.inr (.inr (hpF a_h0 a_h1 a_h2 a_h3 a_h4 a_h5))))))] r.1 ∧ ThThr p l e ({ frames := 7, cells := 2, slots := 12, locals := 171 } : Room) s m args below meth c Q cX7_read RX7 D A [(a_g, .inr (1, [.ref a_gw, .ref a_gk])), (a_b, .inr (1, [.ref a_bw, .ref a_bk])), (a_h0, .inr (1, [.ref a_h0w, .ref a_h0k])), (a_h1, .inr (1, [.ref a_h1w, .ref a_h1k])), (a_h2, .inr (1, [.ref a_h2w, .ref a_h2k])), (a_h3, .inr (1, [.ref a_h3w, .ref a_h3k])), (a_h4, .inr (1, [.ref a_h4w, .ref a_h4k])), (a_h5, .inr (1, [.ref a_h5w, .ref a_h5k])), (a_r, .inr (4, [.ref a_g, .ref a_rs, .ref a_rl, .ref a_ro])), (a_f, .inr (0, [.ref a_g, .int r.2.2.1])), (a_u, .inr (6, [.ref a_g, .ref a_r, .int r.2.2.2.1])), (a_t, .inr (5, [.ref a_ti, .ref a_tn, .int r.2.2.2.2.1, .int r.2.2.2.2.2.1, .int r.2.2.2.2.2.2.1, .int r.2.2.2.2.2.2.2.1, .int r.2.2.2.2.2.2.2.2.1])), (a_h, .inr (2, [.ref a_hp, .int r.2.2.2.2.2.2.2.2.2.1, .int r.2.2.2.2.2.2.2.2.2.2.1])), (a_x, .inr (7, [.ref a_g, .ref a_b, .ref a_v, .ref a_h, .ref a_r, .ref a_f, .ref a_u, .ref a_t, .ref a_n, .int x_sav, .int r.2.2.2.2.2.2.2.2.2.2.2.1, .int r.2.2.2.2.2.2.2.2.2.2.2.2.1, .int r.2.2.2.2.2.2.2.2.2.2.2.2.2.1, .int r.2.2.2.2.2.2.2.2.2.2.2.2.2.2.1])), (a_gw, .inl (T 0, 90, .inl r.2.2.2.2.2.2.2.2.2.2.2.2.2.2.2.1)), (a_gk, .inl (T 0, 18, .inl r.2.2.2.2.2.2.2.2.2.2.2.2.2.2.2.2.1)), (a_bw, .inl (T 0, 90, .inl r.2.2.2.2.2.2.2.2.2.2.2.2.2.2.2.2.2.1)), (a_bk, .inl (T 0, 18, .inl r.2.2.2.2.2.2.2.2.2.2.2.2.2.2.2.2.2.2.1)), (a_h0w, .inl (T 0, 90, .inl r.2.2.2.2.2.2.2.2.2.2.2.2.2.2.2.2.2.2.2.1)), (a_h0k, .inl (T 0, 18, .inl r.2.2.2.2.2.2.2.2.2.2.2.2.2.2.2.2.2.2.2.2.1)), (a_h1w, .inl (T 0, 90, .inl r.2.2.2.2.2.2.2.2.2.2.2.2.2.2.2.2.2.2.2.2.2.1)), (a_h1k, .inl (T 0, 18, .inl r.2.2.2.2.2.2.2.2.2.2.2.2.2.2.2.2.2.2.2.2.2.2.1)), (a_h2w, .inl (T 0, 90, .inl r.2.2.2.2.2.2.2.2.2.2.2.2.2.2.2.2.2.2.2.2.2.2.2.1)), (a_h2k, .inl (T 0, 18, .inl r.2.2.2.2.2.2.2.2.2.2.2.2.2.2.2.2.2.2.2.2.2.2.2.2.1)), (a_h3w, .inl (T 0, 90, .inl r.2.2.2.2.2.2.2.2.2.2.2.2.2.2.2.2.2.2.2.2.2.2.2.2.2.1)), (a_h3k, .inl (T 0, 18, .inl r.2.2.2.2.2.2.2.2.2.2.2.2.2.2.2.2.2.2.2.2.2.2.2.2.2.2.1)), (a_h4w, .inl (T 0, 90, .inl r.2.2.2.2.2.2.2.2.2.2.2.2.2.2.2.2.2.2.2.2.2.2.2.2.2.2.2.1)), (a_h4k, .inl (T 0, 18, .inl r.2.2.2.2.2.2.2.2.2.2.2.2.2.2.2.2.2.2.2.2.2.2.2.2.2.2.2.2.1)), (a_h5w, .inl (T 0, 90, .inl r.2.2.2.2.2.2.2.2.2.2.2.2.2.2.2.2.2.2.2.2.2.2.2.2.2.2.2.2.2.1)), (a_h5k, .inl (T 0, 18, .inl r.2.2.2.2.2.2.2.2.2.2.2.2.2.2.2.2.2.2.2.2.2.2.2.2.2.2.2.2.2.2.1)), (a_rs, .inl (T 0, 45, .inl r.2.2.2.2.2.2.2.2.2.2.2.2.2.2.2.2.2.2.2.2.2.2.2.2.2.2.2.2.2.2.2.1)), (a_ro, .inl (T 1, 45, .inl r.2.2.2.2.2.2.2.2.2.2.2.2.2.2.2.2.2.2.2.2.2.2.2.2.2.2.2.2.2.2.2.2.1)), (a_ti, .inl (T 2, 60, .inl v_ti)), (a_tn, .inl (T 0, 3, .inl r.2.2.2.2.2.2.2.2.2.2.2.2.2.2.2.2.2.2.2.2.2.2.2.2.2.2.2.2.2.2.2.2.2)), (a_hp, .inl (T 3, 6, .inr (.inr (.inr (.inr (hpF a_h0 a_h1 a_h2 a_h3 a_h4 a_h5))))))] r.1) : ∀ (k : Nat) (l2 : Int32) (l3 : Int32) (f_net : Int32) (u_det : Int32) (t_len : Int32) (t_cur : Int32) (t_kin : Int32) (t_tol : Int32) (t_don : Int32) (h_old : Int32) (h_siz : Int32) (x_err : Int32) (x_rea : Int32) (x_det : Int32) (x_com : Int32) (v_gw : Nat → Int32) (v_gk : Nat → Int32) (v_bw : Nat → Int32) (v_bk : Nat → Int32) (v_h0w : Nat → Int32) (v_h0k : Nat → Int32) (v_h1w : Nat → Int32) (v_h1k : Nat → Int32) (v_h2w : Nat → Int32) (v_h2k : Nat → Int32) (v_h3w : Nat → Int32) (v_h3k : Nat → Int32) (v_h4w : Nat → Int32) (v_h4k : Nat → Int32) (v_h5w : Nat → Int32) (v_h5k : Nat → Int32) (v_rs : Nat → Int32) (v_ro : Nat → Int32) (v_tn : Nat → Int32) {H : Heap} {locs : List Loc} (hP : va_P D kC [(a_g, .inr (1, [.ref a_gw, .ref a_gk])), (a_b, .inr (1, [.ref a_bw, .ref a_bk])), (a_h0, .inr (1, [.ref a_h0w, .ref a_h0k])), (a_h1, .inr (1, [.ref a_h1w, .ref a_h1k])), (a_h2, .inr (1, [.ref a_h2w, .ref a_h2k])), (a_h3, .inr (1, [.ref a_h3w, .ref a_h3k])), (a_h4, .inr (1, [.ref a_h4w, .ref a_h4k])), (a_h5, .inr (1, [.ref a_h5w, .ref a_h5k])), (a_r, .inr (4, [.ref a_g, .ref a_rs, .ref a_rl, .ref a_ro])), (a_f, .inr (0, [.ref a_g, .int f_net])), (a_u, .inr (6, [.ref a_g, .ref a_r, .int u_det])), (a_t, .inr (5, [.ref a_ti, .ref a_tn, .int t_len, .int t_cur, .int t_kin, .int t_tol, .int t_don])), (a_h, .inr (2, [.ref a_hp, .int h_old, .int h_siz])), (a_x, .inr (7, [.ref a_g, .ref a_b, .ref a_v, .ref a_h, .ref a_r, .ref a_f, .ref a_u, .ref a_t, .ref a_n, .int x_sav, .int x_err, .int x_rea, .int x_det, .int x_com])), (a_gw, .inl (T 0, 90, .inl v_gw)), (a_gk, .inl (T 0, 18, .inl v_gk)), (a_bw, .inl (T 0, 90, .inl v_bw)), (a_bk, .inl (T 0, 18, .inl v_bk)), (a_h0w, .inl (T 0, 90, .inl v_h0w)), (a_h0k, .inl (T 0, 18, .inl v_h0k)), (a_h1w, .inl (T 0, 90, .inl v_h1w)), (a_h1k, .inl (T 0, 18, .inl v_h1k)), (a_h2w, .inl (T 0, 90, .inl v_h2w)), (a_h2k, .inl (T 0, 18, .inl v_h2k)), (a_h3w, .inl (T 0, 90, .inl v_h3w)), (a_h3k, .inl (T 0, 18, .inl v_h3k)), (a_h4w, .inl (T 0, 90, .inl v_h4w)), (a_h4k, .inl (T 0, 18, .inl v_h4k)), (a_h5w, .inl (T 0, 90, .inl v_h5w)), (a_h5k, .inl (T 0, 18, .inl v_h5k)), (a_rs, .inl (T 0, 45, .inl v_rs)), (a_ro, .inl (T 1, 45, .inl v_ro)), (a_ti, .inl (T 2, 60, .inl v_ti)), (a_tn, .inl (T 0, 3, .inl v_tn)), (a_hp, .inl (T 3, 6, .inr (.inr (.inr (.inr (hpF a_h0 a_h1 a_h2 a_h3 a_h4 a_h5))))))] H) (hD : va_D A [(a_g, .inr (1, [.ref a_gw, .ref a_gk])), (a_b, .inr (1, [.ref a_bw, .ref a_bk])), (a_h0, .inr (1, [.ref a_h0w, .ref a_h0k])), (a_h1, .inr (1, [.ref a_h1w, .ref a_h1k])), (a_h2, .inr (1, [.ref a_h2w, .ref a_h2k])), (a_h3, .inr (1, [.ref a_h3w, .ref a_h3k])), (a_h4, .inr (1, [.ref a_h4w, .ref a_h4k])), (a_h5, .inr (1, [.ref a_h5w, .ref a_h5k])), (a_r, .inr (4, [.ref a_g, .ref a_rs, .ref a_rl, .ref a_ro])), (a_f, .inr (0, [.ref a_g, .int f_net])), (a_u, .inr (6, [.ref a_g, .ref a_r, .int u_det])), (a_t, .inr (5, [.ref a_ti, .ref a_tn, .int t_len, .int t_cur, .int t_kin, .int t_tol, .int t_don])), (a_h, .inr (2, [.ref a_hp, .int h_old, .int h_siz])), (a_x, .inr (7, [.ref a_g, .ref a_b, .ref a_v, .ref a_h, .ref a_r, .ref a_f, .ref a_u, .ref a_t, .ref a_n, .int x_sav, .int x_err, .int x_rea, .int x_det, .int x_com])), (a_gw, .inl (T 0, 90, .inl v_gw)), (a_gk, .inl (T 0, 18, .inl v_gk)), (a_bw, .inl (T 0, 90, .inl v_bw)), (a_bk, .inl (T 0, 18, .inl v_bk)), (a_h0w, .inl (T 0, 90, .inl v_h0w)), (a_h0k, .inl (T 0, 18, .inl v_h0k)), (a_h1w, .inl (T 0, 90, .inl v_h1w)), (a_h1k, .inl (T 0, 18, .inl v_h1k)), (a_h2w, .inl (T 0, 90, .inl v_h2w)), (a_h2k, .inl (T 0, 18, .inl v_h2k)), (a_h3w, .inl (T 0, 90, .inl v_h3w)), (a_h3k, .inl (T 0, 18, .inl v_h3k)), (a_h4w, .inl (T 0, 90, .inl v_h4w)), (a_h4k, .inl (T 0, 18, .inl v_h4k)), (a_h5w, .inl (T 0, 90, .inl v_h5w)), (a_h5k, .inl (T 0, 18, .inl v_h5k)), (a_rs, .inl (T 0, 45, .inl v_rs)), (a_ro, .inl (T 1, 45, .inl v_ro)), (a_ti, .inl (T 2, 60, .inl v_ti)), (a_tn, .inl (T 0, 3, .inl v_tn)), (a_hp, .inl (T 3, 6, .inr (.inr (.inr (.inr (hpF a_h0 a_h1 a_h2 a_h3 a_h4 a_h5))))))]) (hS : va_S A s.heap H locs) (ls : Array Slot) (hl : lv_has ls 4 [(0, .ref a_x), (2, .int l2), (3, .int l3)]) (h : fX7_read_58 v_ti k l2 l3 f_net u_det t_len t_cur t_kin t_tol t_don h_old h_siz x_err x_rea x_det x_com v_gw v_gk v_bw v_bk v_h0w v_h0k v_h1w v_h1k v_h2w v_h2k v_h3w v_h3k v_h4w v_h4k v_h5w v_h5k v_rs v_ro v_tn = some r), W p l e ({ frames := 7, cells := 2, slots := 12, locals := 171 } : Room) s m args below meth c H locs 0 0 Q (F0 m 58 ls []) := by
  have hx := C.1
  have hb := C.2.1
  intro k
  induction k with
  | zero =>
    intro l2 l3 f_net u_det t_len t_cur t_kin t_tol t_don h_old h_siz x_err x_rea x_det x_com v_gw v_gk v_bw v_bk v_h0w v_h0k v_h1w v_h1k v_h2w v_h2k v_h3w v_h3k v_h4w v_h4k v_h5w v_h5k v_rs v_ro v_tn H locs hP hD hS ls hl h
    exact nomatch (show (none : Option (Nat × Int32 × Int32 × Int32 × Int32 × Int32 × Int32 × Int32 × Int32 × Int32 × Int32 × Int32 × Int32 × Int32 × Int32 × (Nat → Int32) × (Nat → Int32) × (Nat → Int32) × (Nat → Int32) × (Nat → Int32) × (Nat → Int32) × (Nat → Int32) × (Nat → Int32) × (Nat → Int32) × (Nat → Int32) × (Nat → Int32) × (Nat → Int32) × (Nat → Int32) × (Nat → Int32) × (Nat → Int32) × (Nat → Int32) × (Nat → Int32) × (Nat → Int32) × (Nat → Int32))) = some r from h)
  | succ k ih =>
    intro l2 l3 f_net u_det t_len t_cur t_kin t_tol t_don h_old h_siz x_err x_rea x_det x_com v_gw v_gk v_bw v_bk v_h0w v_h0k v_h1w v_h1k v_h2w v_h2k v_h3w v_h3k v_h4w v_h4k v_h5w v_h5k v_rs v_ro v_tn H locs hP hD hS ls hl h
    rw [fX7_read_58] at h
    refine lv_iload_n hx hb dX7_read_58 rfl (lv_at hl 2 rfl) ?_
    refine lv_bipush (v := 60) hx hb dX7_read_59 (by decide) ?_
    refine lv_icmp_ge (tgt := 104) hx hb dX7_read_61 (by decide) (fun c10 => ?_) (fun c10 => ?_)
    · have h := ite_t c10 h
      exact lX7_read_104 C hE hA hZ hret l2 f_net u_det t_len t_cur t_kin t_tol t_don h_old h_siz x_err x_rea x_det x_com v_gw v_gk v_bw v_bk v_h0w v_h0k v_h1w v_h1k v_h2w v_h2k v_h3w v_h3k v_h4w v_h4k v_h5w v_h5k v_rs v_ro v_tn hP hD hS _ (lv_sub hl [0, 1] rfl) h
    · have h := ite_f c10 h
      refine lv_iload_n hx hb dX7_read_64 rfl (lv_at hl 1 rfl) ?_
      refine lv_if_ne (tgt := 104) hx hb dX7_read_65 (by decide) (fun c11 => ?_) (fun c11 => ?_)
      · have h := ite_f c11 h
        exact lX7_read_104 C hE hA hZ hret l2 f_net u_det t_len t_cur t_kin t_tol t_don h_old h_siz x_err x_rea x_det x_com v_gw v_gk v_bw v_bk v_h0w v_h0k v_h1w v_h1k v_h2w v_h2k v_h3w v_h3k v_h4w v_h4k v_h5w v_h5k v_rs v_ro v_tn hP hD hS _ (lv_sub hl [0, 1] rfl) h
      · have h := ite_t c11 h
        refine lv_aload_n hx hb dX7_read_68 rfl (lv_at hl 0 rfl) ?_
        refine getF (q0 := 13) (k0 := 7) (v := .ref a_t) C hE hP inA7 rfl rfl (by decide) qFX7_57 rfl rfl dX7_read_69 ?_
        obtain ⟨q12, e13, h⟩ := bnd h
        refine thVi (ws1 := [(a_g, .inr (1, [.ref a_gw, .ref a_gk])), (a_b, .inr (1, [.ref a_bw, .ref a_bk])), (a_h0, .inr (1, [.ref a_h0w, .ref a_h0k])), (a_h1, .inr (1, [.ref a_h1w, .ref a_h1k])), (a_h2, .inr (1, [.ref a_h2w, .ref a_h2k])), (a_h3, .inr (1, [.ref a_h3w, .ref a_h3k])), (a_h4, .inr (1, [.ref a_h4w, .ref a_h4k])), (a_h5, .inr (1, [.ref a_h5w, .ref a_h5k])), (a_r, .inr (4, [.ref a_g, .ref a_rs, .ref a_rl, .ref a_ro])), (a_f, .inr (0, [.ref a_g, .int f_net])), (a_u, .inr (6, [.ref a_g, .ref a_r, .int u_det])), (a_t, .inr (5, [.ref a_ti, .ref a_tn, .int t_len, .int q12.2.2.1, .int q12.2.2.2.1, .int q12.2.2.2.2.1, .int t_don])), (a_h, .inr (2, [.ref a_hp, .int h_old, .int h_siz])), (a_x, .inr (7, [.ref a_g, .ref a_b, .ref a_v, .ref a_h, .ref a_r, .ref a_f, .ref a_u, .ref a_t, .ref a_n, .int x_sav, .int x_err, .int x_rea, .int x_det, .int x_com])), (a_gw, .inl (T 0, 90, .inl v_gw)), (a_gk, .inl (T 0, 18, .inl v_gk)), (a_bw, .inl (T 0, 90, .inl v_bw)), (a_bk, .inl (T 0, 18, .inl v_bk)), (a_h0w, .inl (T 0, 90, .inl v_h0w)), (a_h0k, .inl (T 0, 18, .inl v_h0k)), (a_h1w, .inl (T 0, 90, .inl v_h1w)), (a_h1k, .inl (T 0, 18, .inl v_h1k)), (a_h2w, .inl (T 0, 90, .inl v_h2w)), (a_h2k, .inl (T 0, 18, .inl v_h2k)), (a_h3w, .inl (T 0, 90, .inl v_h3w)), (a_h3k, .inl (T 0, 18, .inl v_h3k)), (a_h4w, .inl (T 0, 90, .inl v_h4w)), (a_h4k, .inl (T 0, 18, .inl v_h4k)), (a_h5w, .inl (T 0, 90, .inl v_h5w)), (a_h5k, .inl (T 0, 18, .inl v_h5k)), (a_rs, .inl (T 0, 45, .inl v_rs)), (a_ro, .inl (T 1, 45, .inl v_ro)), (a_ti, .inl (T 2, 60, .inl v_ti)), (a_tn, .inl (T 0, 3, .inl q12.2.2.2.2.2)), (a_hp, .inl (T 3, 6, .inr (.inr (.inr (.inr (hpF a_h0 a_h1 a_h2 a_h3 a_h4 a_h5))))))]) C hE hZ hP hD hS hA (kX5_takeNext l hZ.1 D T a_t a_ti a_tn t_len t_cur t_kin t_tol t_don v_ti v_tn _ q12 e13) mX5_takeNext qLX7_334 [11, 32, 33] [0, 1, 2, 3, 4, 5, 6, 7, 8, 9, 10, 12, 13, 14, 15, 16, 17, 18, 19, 20, 21, 22, 23, 24, 25, 26, 27, 28, 29, 30, 31, 34] 11 rfl rfl rfl rfl rfl rfl rfl rfl rfl ⟨Nat.le_of_ble_eq_true rfl, Nat.le_of_ble_eq_true rfl⟩ rfl hl.1 rfl (Nat.le_of_ble_eq_true rfl) dX7_read_72 ⟨Nat.le_of_ble_eq_true rfl, Nat.le_of_ble_eq_true rfl⟩ (fun hx0 H locs ce q9 hP hD hS g1 g2 g3 => ?_) (fun hx0 H locs hP hD hS => ?_)
        · have h := ite_f (Nat.ne_of_gt hx0) h
          have h := Option.some.inj h
          exact hret.2.1 _ _ _ _ _ _ _ _ _ (Nat.le_of_ble_eq_true rfl) (Nat.le_of_ble_eq_true rfl) (by rw [← h]; exact hx0) (by rw [← h]; exact hP) hS g1 g2 (by rw [← h]; exact g3)
        · have h := ite_t hx0 h
          refine lv_if_eq (tgt := 104) hx hb dX7_read_75 (by decide) (fun c14 => ?_) (fun c14 => ?_)
          · have h := ite_t c14 h
            exact lX7_read_104 C hE hA hZ hret l2 f_net u_det t_len q12.2.2.1 q12.2.2.2.1 q12.2.2.2.2.1 t_don h_old h_siz x_err x_rea x_det x_com v_gw v_gk v_bw v_bk v_h0w v_h0k v_h1w v_h1k v_h2w v_h2k v_h3w v_h3k v_h4w v_h4k v_h5w v_h5k v_rs v_ro q12.2.2.2.2.2 hP hD hS _ (lv_sub hl [0, 1] rfl) h
          · have h := ite_f c14 h
            refine lv_aload_n hx hb dX7_read_78 rfl (lv_at hl 0 rfl) ?_
            obtain ⟨q15, e16, h⟩ := bnd h
            refine wrVi (ws1 := [(a_g, .inr (1, [.ref a_gw, .ref a_gk])), (a_b, .inr (1, [.ref a_bw, .ref a_bk])), (a_h0, .inr (1, [.ref a_h0w, .ref a_h0k])), (a_h1, .inr (1, [.ref a_h1w, .ref a_h1k])), (a_h2, .inr (1, [.ref a_h2w, .ref a_h2k])), (a_h3, .inr (1, [.ref a_h3w, .ref a_h3k])), (a_h4, .inr (1, [.ref a_h4w, .ref a_h4k])), (a_h5, .inr (1, [.ref a_h5w, .ref a_h5k])), (a_r, .inr (4, [.ref a_g, .ref a_rs, .ref a_rl, .ref a_ro])), (a_f, .inr (0, [.ref a_g, .int f_net])), (a_u, .inr (6, [.ref a_g, .ref a_r, .int q15.2.1])), (a_t, .inr (5, [.ref a_ti, .ref a_tn, .int t_len, .int q12.2.2.1, .int q12.2.2.2.1, .int q12.2.2.2.2.1, .int t_don])), (a_h, .inr (2, [.ref a_hp, .int h_old, .int h_siz])), (a_x, .inr (7, [.ref a_g, .ref a_b, .ref a_v, .ref a_h, .ref a_r, .ref a_f, .ref a_u, .ref a_t, .ref a_n, .int x_sav, .int x_err, .int x_rea, .int x_det, .int x_com])), (a_gw, .inl (T 0, 90, .inl v_gw)), (a_gk, .inl (T 0, 18, .inl v_gk)), (a_bw, .inl (T 0, 90, .inl v_bw)), (a_bk, .inl (T 0, 18, .inl v_bk)), (a_h0w, .inl (T 0, 90, .inl v_h0w)), (a_h0k, .inl (T 0, 18, .inl v_h0k)), (a_h1w, .inl (T 0, 90, .inl v_h1w)), (a_h1k, .inl (T 0, 18, .inl v_h1k)), (a_h2w, .inl (T 0, 90, .inl v_h2w)), (a_h2k, .inl (T 0, 18, .inl v_h2k)), (a_h3w, .inl (T 0, 90, .inl v_h3w)), (a_h3k, .inl (T 0, 18, .inl v_h3k)), (a_h4w, .inl (T 0, 90, .inl v_h4w)), (a_h4k, .inl (T 0, 18, .inl v_h4k)), (a_h5w, .inl (T 0, 90, .inl v_h5w)), (a_h5k, .inl (T 0, 18, .inl v_h5k)), (a_rs, .inl (T 0, 45, .inl q15.2.2.1)), (a_ro, .inl (T 1, 45, .inl q15.2.2.2)), (a_ti, .inl (T 2, 60, .inl v_ti)), (a_tn, .inl (T 0, 3, .inl q12.2.2.2.2.2)), (a_hp, .inl (T 3, 6, .inr (.inr (.inr (.inr (hpF a_h0 a_h1 a_h2 a_h3 a_h4 a_h5))))))]) C hE hP hD hS hA (kX7_faultOfCommand l D T a_g a_gw a_gk a_r a_rs a_rl a_ro a_u a_t a_ti a_tn a_x a_b a_v a_h a_f a_n u_det t_len q12.2.2.1 q12.2.2.2.1 q12.2.2.2.2.1 t_don x_sav x_err x_rea x_det x_com v_gw v_gk v_rs v_ro q12.2.2.2.2.2 _ q15 e16) mX7_faultOfCommand qLX7_337 [0, 8, 10, 11, 13, 14, 15, 30, 31, 33] [1, 2, 3, 4, 5, 6, 7, 9, 12, 16, 17, 18, 19, 20, 21, 22, 23, 24, 25, 26, 27, 28, 29, 32, 34] 13 rfl rfl rfl rfl rfl rfl rfl rfl rfl ⟨rfl, rfl⟩ ⟨Nat.le_of_ble_eq_true rfl, Nat.le_of_ble_eq_true rfl⟩ rfl hl.1 rfl (Nat.le_of_ble_eq_true rfl) dX7_read_79 ⟨Nat.le_of_ble_eq_true rfl, Nat.le_of_ble_eq_true rfl⟩ (fun H locs hP hD hS => ?_)
            refine lv_istore_n (lv' := [(2, .int q15.1), (0, .ref a_x), (3, .int l3)]) hx hb dX7_read_82 rfl hl (by decide) rfl (fun ls hl => ?_)
            refine lv_iload_n hx hb dX7_read_83 rfl (lv_at hl 0 rfl) ?_
            refine lv_if_ne (tgt := 98) hx hb dX7_read_84 (by decide) (fun c17 => ?_) (fun c17 => ?_)
            · have h := ite_f c17 h
              exact lX7_read_98 C hE hA hZ hret ih q15.1 l3 f_net q15.2.1 t_len q12.2.2.1 q12.2.2.2.1 q12.2.2.2.2.1 t_don h_old h_siz x_err x_rea x_det x_com v_gw v_gk v_bw v_bk v_h0w v_h0k v_h1w v_h1k v_h2w v_h2k v_h3w v_h3k v_h4w v_h4k v_h5w v_h5k q15.2.2.1 q15.2.2.2 q12.2.2.2.2.2 hP hD hS _ (lv_sub hl [1, 0, 2] rfl) h
            · have h := ite_t c17 h
              refine lv_aload_n hx hb dX7_read_87 rfl (lv_at hl 1 rfl) ?_
              obtain ⟨q18, e19, h⟩ := bnd h
              refine wrVv (ws1 := [(a_g, .inr (1, [.ref a_gw, .ref a_gk])), (a_b, .inr (1, [.ref a_bw, .ref a_bk])), (a_h0, .inr (1, [.ref a_h0w, .ref a_h0k])), (a_h1, .inr (1, [.ref a_h1w, .ref a_h1k])), (a_h2, .inr (1, [.ref a_h2w, .ref a_h2k])), (a_h3, .inr (1, [.ref a_h3w, .ref a_h3k])), (a_h4, .inr (1, [.ref a_h4w, .ref a_h4k])), (a_h5, .inr (1, [.ref a_h5w, .ref a_h5k])), (a_r, .inr (4, [.ref a_g, .ref a_rs, .ref a_rl, .ref a_ro])), (a_f, .inr (0, [.ref a_g, .int q18.1])), (a_u, .inr (6, [.ref a_g, .ref a_r, .int q15.2.1])), (a_t, .inr (5, [.ref a_ti, .ref a_tn, .int t_len, .int q12.2.2.1, .int q12.2.2.2.1, .int q12.2.2.2.2.1, .int t_don])), (a_h, .inr (2, [.ref a_hp, .int h_old, .int h_siz])), (a_x, .inr (7, [.ref a_g, .ref a_b, .ref a_v, .ref a_h, .ref a_r, .ref a_f, .ref a_u, .ref a_t, .ref a_n, .int x_sav, .int x_err, .int x_rea, .int x_det, .int x_com])), (a_gw, .inl (T 0, 90, .inl q18.2.1)), (a_gk, .inl (T 0, 18, .inl q18.2.2.1)), (a_bw, .inl (T 0, 90, .inl v_bw)), (a_bk, .inl (T 0, 18, .inl v_bk)), (a_h0w, .inl (T 0, 90, .inl v_h0w)), (a_h0k, .inl (T 0, 18, .inl v_h0k)), (a_h1w, .inl (T 0, 90, .inl v_h1w)), (a_h1k, .inl (T 0, 18, .inl v_h1k)), (a_h2w, .inl (T 0, 90, .inl v_h2w)), (a_h2k, .inl (T 0, 18, .inl v_h2k)), (a_h3w, .inl (T 0, 90, .inl v_h3w)), (a_h3k, .inl (T 0, 18, .inl v_h3k)), (a_h4w, .inl (T 0, 90, .inl v_h4w)), (a_h4k, .inl (T 0, 18, .inl v_h4k)), (a_h5w, .inl (T 0, 90, .inl v_h5w)), (a_h5k, .inl (T 0, 18, .inl v_h5k)), (a_rs, .inl (T 0, 45, .inl q18.2.2.2.1)), (a_ro, .inl (T 1, 45, .inl q18.2.2.2.2)), (a_ti, .inl (T 2, 60, .inl v_ti)), (a_tn, .inl (T 0, 3, .inl q12.2.2.2.2.2)), (a_hp, .inl (T 3, 6, .inr (.inr (.inr (.inr (hpF a_h0 a_h1 a_h2 a_h3 a_h4 a_h5))))))]) C hE hP hD hS hA (kX7_performCommand l D T a_g a_gw a_gk a_r a_rs a_rl a_ro a_f a_t a_ti a_tn a_x a_b a_v a_h a_u a_n f_net t_len q12.2.2.1 q12.2.2.2.1 q12.2.2.2.2.1 t_don x_sav x_err x_rea x_det x_com v_gw v_gk q15.2.2.1 q15.2.2.2 q12.2.2.2.2.2 _ q18 e19) mX7_performCommand qLX7_340 [0, 8, 9, 11, 13, 14, 15, 30, 31, 33] [1, 2, 3, 4, 5, 6, 7, 10, 12, 16, 17, 18, 19, 20, 21, 22, 23, 24, 25, 26, 27, 28, 29, 32, 34] 13 rfl rfl rfl rfl rfl rfl rfl rfl rfl ⟨rfl, rfl⟩ ⟨Nat.le_of_ble_eq_true rfl, Nat.le_of_ble_eq_true rfl⟩ rfl hl.1 rfl (Nat.le_of_ble_eq_true rfl) dX7_read_88 ⟨Nat.le_of_ble_eq_true rfl, Nat.le_of_ble_eq_true rfl⟩ (fun H locs hP hD hS => ?_)
              refine lv_aload_n hx hb dX7_read_91 rfl (lv_at hl 1 rfl) ?_
              refine getF (q0 := 13) (k0 := 7) (v := .ref a_t) C hE hP inA7 rfl rfl (by decide) qFX7_57 rfl rfl dX7_read_92 ?_
              obtain ⟨q20, e21, h⟩ := bnd h
              refine wrVv (ws1 := [(a_g, .inr (1, [.ref a_gw, .ref a_gk])), (a_b, .inr (1, [.ref a_bw, .ref a_bk])), (a_h0, .inr (1, [.ref a_h0w, .ref a_h0k])), (a_h1, .inr (1, [.ref a_h1w, .ref a_h1k])), (a_h2, .inr (1, [.ref a_h2w, .ref a_h2k])), (a_h3, .inr (1, [.ref a_h3w, .ref a_h3k])), (a_h4, .inr (1, [.ref a_h4w, .ref a_h4k])), (a_h5, .inr (1, [.ref a_h5w, .ref a_h5k])), (a_r, .inr (4, [.ref a_g, .ref a_rs, .ref a_rl, .ref a_ro])), (a_f, .inr (0, [.ref a_g, .int q18.1])), (a_u, .inr (6, [.ref a_g, .ref a_r, .int q15.2.1])), (a_t, .inr (5, [.ref a_ti, .ref a_tn, .int t_len, .int q12.2.2.1, .int q12.2.2.2.1, .int q12.2.2.2.2.1, .int q20])), (a_h, .inr (2, [.ref a_hp, .int h_old, .int h_siz])), (a_x, .inr (7, [.ref a_g, .ref a_b, .ref a_v, .ref a_h, .ref a_r, .ref a_f, .ref a_u, .ref a_t, .ref a_n, .int x_sav, .int x_err, .int x_rea, .int x_det, .int x_com])), (a_gw, .inl (T 0, 90, .inl q18.2.1)), (a_gk, .inl (T 0, 18, .inl q18.2.2.1)), (a_bw, .inl (T 0, 90, .inl v_bw)), (a_bk, .inl (T 0, 18, .inl v_bk)), (a_h0w, .inl (T 0, 90, .inl v_h0w)), (a_h0k, .inl (T 0, 18, .inl v_h0k)), (a_h1w, .inl (T 0, 90, .inl v_h1w)), (a_h1k, .inl (T 0, 18, .inl v_h1k)), (a_h2w, .inl (T 0, 90, .inl v_h2w)), (a_h2k, .inl (T 0, 18, .inl v_h2k)), (a_h3w, .inl (T 0, 90, .inl v_h3w)), (a_h3k, .inl (T 0, 18, .inl v_h3k)), (a_h4w, .inl (T 0, 90, .inl v_h4w)), (a_h4k, .inl (T 0, 18, .inl v_h4k)), (a_h5w, .inl (T 0, 90, .inl v_h5w)), (a_h5k, .inl (T 0, 18, .inl v_h5k)), (a_rs, .inl (T 0, 45, .inl q18.2.2.2.1)), (a_ro, .inl (T 1, 45, .inl q18.2.2.2.2)), (a_ti, .inl (T 2, 60, .inl v_ti)), (a_tn, .inl (T 0, 3, .inl q12.2.2.2.2.2)), (a_hp, .inl (T 3, 6, .inr (.inr (.inr (.inr (hpF a_h0 a_h1 a_h2 a_h3 a_h4 a_h5))))))]) C hE hP hD hS hA (kX5_countDone l D T a_t a_ti a_tn t_len q12.2.2.1 q12.2.2.2.1 q12.2.2.2.2.1 t_don _ q20 e21) mX5_countDone qLX7_343 [11] [0, 1, 2, 3, 4, 5, 6, 7, 8, 9, 10, 12, 13, 14, 15, 16, 17, 18, 19, 20, 21, 22, 23, 24, 25, 26, 27, 28, 29, 30, 31, 32, 33, 34] 11 rfl rfl rfl rfl rfl rfl rfl rfl rfl ⟨rfl, rfl⟩ ⟨Nat.le_of_ble_eq_true rfl, Nat.le_of_ble_eq_true rfl⟩ rfl hl.1 rfl (Nat.le_of_ble_eq_true rfl) dX7_read_95 ⟨Nat.le_of_ble_eq_true rfl, Nat.le_of_ble_eq_true rfl⟩ (fun H locs hP hD hS => ?_)
              exact lX7_read_98 C hE hA hZ hret ih q15.1 l3 q18.1 q15.2.1 t_len q12.2.2.1 q12.2.2.2.1 q12.2.2.2.2.1 q20 h_old h_siz x_err x_rea x_det x_com q18.2.1 q18.2.2.1 v_bw v_bk v_h0w v_h0k v_h1w v_h1k v_h2w v_h2k v_h3w v_h3k v_h4w v_h4k v_h5w v_h5k q18.2.2.2.1 q18.2.2.2.2 q12.2.2.2.2.2 hP hD hS _ (lv_sub hl [1, 0, 2] rfl) h
set_option maxHeartbeats 4000000 in
set_option maxRecDepth 100000 in
theorem kX7_read (l : Launch) (hnt : l.stackTraces = false) (D : va_G) (T : Nat → ClassId) (a_g a_gw a_gk a_b a_bw a_bk a_h0 a_h0w a_h0k a_h1 a_h1w a_h1k a_h2 a_h2w a_h2k a_h3 a_h3w a_h3k a_h4 a_h4w a_h4k a_h5 a_h5w a_h5k a_r a_rs a_rl a_ro a_f a_u a_t a_ti a_tn a_h a_hp a_x a_v a_n : Nat) (f_net : Int32) (u_det : Int32) (t_len : Int32) (t_cur : Int32) (t_kin : Int32) (t_tol : Int32) (t_don : Int32) (h_old : Int32) (h_siz : Int32) (x_sav : Int32) (x_err : Int32) (x_rea : Int32) (x_det : Int32) (x_com : Int32) (v_gw : Nat → Int32) (v_gk : Nat → Int32) (v_bw : Nat → Int32) (v_bk : Nat → Int32) (v_h0w : Nat → Int32) (v_h0k : Nat → Int32) (v_h1w : Nat → Int32) (v_h1k : Nat → Int32) (v_h2w : Nat → Int32) (v_h2k : Nat → Int32) (v_h3w : Nat → Int32) (v_h3k : Nat → Int32) (v_h4w : Nat → Int32) (v_h4k : Nat → Int32) (v_h5w : Nat → Int32) (v_h5k : Nat → Int32) (v_rs : Nat → Int32) (v_ro : Nat → Int32) (v_ti : Nat → Int32) (v_tn : Nat → Int32) (sz : Nat) (r : Nat × Int32 × Int32 × Int32 × Int32 × Int32 × Int32 × Int32 × Int32 × Int32 × Int32 × Int32 × Int32 × Int32 × Int32 × (Nat → Int32) × (Nat → Int32) × (Nat → Int32) × (Nat → Int32) × (Nat → Int32) × (Nat → Int32) × (Nat → Int32) × (Nat → Int32) × (Nat → Int32) × (Nat → Int32) × (Nat → Int32) × (Nat → Int32) × (Nat → Int32) × (Nat → Int32) × (Nat → Int32) × (Nat → Int32) × (Nat → Int32) × (Nat → Int32) × (Nat → Int32)) (h : fX7_read f_net u_det t_len t_cur t_kin t_tol t_don h_old h_siz x_err x_rea x_det x_com v_gw v_gk v_bw v_bk v_h0w v_h0k v_h1w v_h1k v_h2w v_h2k v_h3w v_h3k v_h4w v_h4k v_h5w v_h5k v_rs v_ro v_ti v_tn = some r) : ThI l yX7_read cX7_read 4 .int ({ frames := 7, cells := 2, slots := 12, locals := 171 } : Room) D T sz [(a_g, .inr (1, [.ref a_gw, .ref a_gk])), (a_b, .inr (1, [.ref a_bw, .ref a_bk])), (a_h0, .inr (1, [.ref a_h0w, .ref a_h0k])), (a_h1, .inr (1, [.ref a_h1w, .ref a_h1k])), (a_h2, .inr (1, [.ref a_h2w, .ref a_h2k])), (a_h3, .inr (1, [.ref a_h3w, .ref a_h3k])), (a_h4, .inr (1, [.ref a_h4w, .ref a_h4k])), (a_h5, .inr (1, [.ref a_h5w, .ref a_h5k])), (a_r, .inr (4, [.ref a_g, .ref a_rs, .ref a_rl, .ref a_ro])), (a_f, .inr (0, [.ref a_g, .int f_net])), (a_u, .inr (6, [.ref a_g, .ref a_r, .int u_det])), (a_t, .inr (5, [.ref a_ti, .ref a_tn, .int t_len, .int t_cur, .int t_kin, .int t_tol, .int t_don])), (a_h, .inr (2, [.ref a_hp, .int h_old, .int h_siz])), (a_x, .inr (7, [.ref a_g, .ref a_b, .ref a_v, .ref a_h, .ref a_r, .ref a_f, .ref a_u, .ref a_t, .ref a_n, .int x_sav, .int x_err, .int x_rea, .int x_det, .int x_com])), (a_gw, .inl (T 0, 90, .inl v_gw)), (a_gk, .inl (T 0, 18, .inl v_gk)), (a_bw, .inl (T 0, 90, .inl v_bw)), (a_bk, .inl (T 0, 18, .inl v_bk)), (a_h0w, .inl (T 0, 90, .inl v_h0w)), (a_h0k, .inl (T 0, 18, .inl v_h0k)), (a_h1w, .inl (T 0, 90, .inl v_h1w)), (a_h1k, .inl (T 0, 18, .inl v_h1k)), (a_h2w, .inl (T 0, 90, .inl v_h2w)), (a_h2k, .inl (T 0, 18, .inl v_h2k)), (a_h3w, .inl (T 0, 90, .inl v_h3w)), (a_h3k, .inl (T 0, 18, .inl v_h3k)), (a_h4w, .inl (T 0, 90, .inl v_h4w)), (a_h4k, .inl (T 0, 18, .inl v_h4k)), (a_h5w, .inl (T 0, 90, .inl v_h5w)), (a_h5k, .inl (T 0, 18, .inl v_h5k)), (a_rs, .inl (T 0, 45, .inl v_rs)), (a_ro, .inl (T 1, 45, .inl v_ro)), (a_ti, .inl (T 2, 60, .inl v_ti)), (a_tn, .inl (T 0, 3, .inl v_tn)), (a_hp, .inl (T 3, 6, .inr (.inr (.inr (.inr (hpF a_h0 a_h1 a_h2 a_h3 a_h4 a_h5))))))] [(a_g, .inr (1, [.ref a_gw, .ref a_gk])), (a_b, .inr (1, [.ref a_bw, .ref a_bk])), (a_h0, .inr (1, [.ref a_h0w, .ref a_h0k])), (a_h1, .inr (1, [.ref a_h1w, .ref a_h1k])), (a_h2, .inr (1, [.ref a_h2w, .ref a_h2k])), (a_h3, .inr (1, [.ref a_h3w, .ref a_h3k])), (a_h4, .inr (1, [.ref a_h4w, .ref a_h4k])), (a_h5, .inr (1, [.ref a_h5w, .ref a_h5k])), (a_r, .inr (4, [.ref a_g, .ref a_rs, .ref a_rl, .ref a_ro])), (a_f, .inr (0, [.ref a_g, .int r.2.2.1])), (a_u, .inr (6, [.ref a_g, .ref a_r, .int r.2.2.2.1])), (a_t, .inr (5, [.ref a_ti, .ref a_tn, .int r.2.2.2.2.1, .int r.2.2.2.2.2.1, .int r.2.2.2.2.2.2.1, .int r.2.2.2.2.2.2.2.1, .int r.2.2.2.2.2.2.2.2.1])), (a_h, .inr (2, [.ref a_hp, .int r.2.2.2.2.2.2.2.2.2.1, .int r.2.2.2.2.2.2.2.2.2.2.1])), (a_x, .inr (7, [.ref a_g, .ref a_b, .ref a_v, .ref a_h, .ref a_r, .ref a_f, .ref a_u, .ref a_t, .ref a_n, .int x_sav, .int r.2.2.2.2.2.2.2.2.2.2.2.1, .int r.2.2.2.2.2.2.2.2.2.2.2.2.1, .int r.2.2.2.2.2.2.2.2.2.2.2.2.2.1, .int r.2.2.2.2.2.2.2.2.2.2.2.2.2.2.1])), (a_gw, .inl (T 0, 90, .inl r.2.2.2.2.2.2.2.2.2.2.2.2.2.2.2.1)), (a_gk, .inl (T 0, 18, .inl r.2.2.2.2.2.2.2.2.2.2.2.2.2.2.2.2.1)), (a_bw, .inl (T 0, 90, .inl r.2.2.2.2.2.2.2.2.2.2.2.2.2.2.2.2.2.1)), (a_bk, .inl (T 0, 18, .inl r.2.2.2.2.2.2.2.2.2.2.2.2.2.2.2.2.2.2.1)), (a_h0w, .inl (T 0, 90, .inl r.2.2.2.2.2.2.2.2.2.2.2.2.2.2.2.2.2.2.2.1)), (a_h0k, .inl (T 0, 18, .inl r.2.2.2.2.2.2.2.2.2.2.2.2.2.2.2.2.2.2.2.2.1)), (a_h1w, .inl (T 0, 90, .inl r.2.2.2.2.2.2.2.2.2.2.2.2.2.2.2.2.2.2.2.2.2.1)), (a_h1k, .inl (T 0, 18, .inl r.2.2.2.2.2.2.2.2.2.2.2.2.2.2.2.2.2.2.2.2.2.2.1)), (a_h2w, .inl (T 0, 90, .inl r.2.2.2.2.2.2.2.2.2.2.2.2.2.2.2.2.2.2.2.2.2.2.2.1)), (a_h2k, .inl (T 0, 18, .inl r.2.2.2.2.2.2.2.2.2.2.2.2.2.2.2.2.2.2.2.2.2.2.2.2.1)), (a_h3w, .inl (T 0, 90, .inl r.2.2.2.2.2.2.2.2.2.2.2.2.2.2.2.2.2.2.2.2.2.2.2.2.2.1)), (a_h3k, .inl (T 0, 18, .inl r.2.2.2.2.2.2.2.2.2.2.2.2.2.2.2.2.2.2.2.2.2.2.2.2.2.2.1)), (a_h4w, .inl (T 0, 90, .inl r.2.2.2.2.2.2.2.2.2.2.2.2.2.2.2.2.2.2.2.2.2.2.2.2.2.2.2.1)), (a_h4k, .inl (T 0, 18, .inl r.2.2.2.2.2.2.2.2.2.2.2.2.2.2.2.2.2.2.2.2.2.2.2.2.2.2.2.2.1)), (a_h5w, .inl (T 0, 90, .inl r.2.2.2.2.2.2.2.2.2.2.2.2.2.2.2.2.2.2.2.2.2.2.2.2.2.2.2.2.2.1)), (a_h5k, .inl (T 0, 18, .inl r.2.2.2.2.2.2.2.2.2.2.2.2.2.2.2.2.2.2.2.2.2.2.2.2.2.2.2.2.2.2.1)), (a_rs, .inl (T 0, 45, .inl r.2.2.2.2.2.2.2.2.2.2.2.2.2.2.2.2.2.2.2.2.2.2.2.2.2.2.2.2.2.2.2.1)), (a_ro, .inl (T 1, 45, .inl r.2.2.2.2.2.2.2.2.2.2.2.2.2.2.2.2.2.2.2.2.2.2.2.2.2.2.2.2.2.2.2.2.1)), (a_ti, .inl (T 2, 60, .inl v_ti)), (a_tn, .inl (T 0, 3, .inl r.2.2.2.2.2.2.2.2.2.2.2.2.2.2.2.2.2.2.2.2.2.2.2.2.2.2.2.2.2.2.2.2.2)), (a_hp, .inl (T 3, 6, .inr (.inr (.inr (.inr (hpF a_h0 a_h1 a_h2 a_h3 a_h4 a_h5))))))] [.ref a_x] r.1 r.2.1 := by
  unfold fX7_read at h
  refine thMetI hnt (by decide +kernel) rfl (fun p e s m args below meth c Q A C hE hA hZ hP hD hS hret ls hl => ?_)
  have hx := C.1
  have hb := C.2.1
  have hl : lv_has ls 4 [(0, .ref a_x)] := hl
  refine lv_aload_n hx hb dX7_read_0 rfl (lv_at hl 0 rfl) ?_
  refine getF (q0 := 13) (k0 := 7) (v := .ref a_t) C hE hP inA7 rfl rfl (by decide) qFX7_57 rfl rfl dX7_read_1 ?_
  obtain ⟨q1, e2, h⟩ := bnd h
  refine thVi (ws1 := [(a_g, .inr (1, [.ref a_gw, .ref a_gk])), (a_b, .inr (1, [.ref a_bw, .ref a_bk])), (a_h0, .inr (1, [.ref a_h0w, .ref a_h0k])), (a_h1, .inr (1, [.ref a_h1w, .ref a_h1k])), (a_h2, .inr (1, [.ref a_h2w, .ref a_h2k])), (a_h3, .inr (1, [.ref a_h3w, .ref a_h3k])), (a_h4, .inr (1, [.ref a_h4w, .ref a_h4k])), (a_h5, .inr (1, [.ref a_h5w, .ref a_h5k])), (a_r, .inr (4, [.ref a_g, .ref a_rs, .ref a_rl, .ref a_ro])), (a_f, .inr (0, [.ref a_g, .int f_net])), (a_u, .inr (6, [.ref a_g, .ref a_r, .int u_det])), (a_t, .inr (5, [.ref a_ti, .ref a_tn, .int t_len, .int q1.2.2.1, .int q1.2.2.2.1, .int q1.2.2.2.2.1, .int q1.2.2.2.2.2.1])), (a_h, .inr (2, [.ref a_hp, .int h_old, .int h_siz])), (a_x, .inr (7, [.ref a_g, .ref a_b, .ref a_v, .ref a_h, .ref a_r, .ref a_f, .ref a_u, .ref a_t, .ref a_n, .int x_sav, .int x_err, .int x_rea, .int x_det, .int x_com])), (a_gw, .inl (T 0, 90, .inl v_gw)), (a_gk, .inl (T 0, 18, .inl v_gk)), (a_bw, .inl (T 0, 90, .inl v_bw)), (a_bk, .inl (T 0, 18, .inl v_bk)), (a_h0w, .inl (T 0, 90, .inl v_h0w)), (a_h0k, .inl (T 0, 18, .inl v_h0k)), (a_h1w, .inl (T 0, 90, .inl v_h1w)), (a_h1k, .inl (T 0, 18, .inl v_h1k)), (a_h2w, .inl (T 0, 90, .inl v_h2w)), (a_h2k, .inl (T 0, 18, .inl v_h2k)), (a_h3w, .inl (T 0, 90, .inl v_h3w)), (a_h3k, .inl (T 0, 18, .inl v_h3k)), (a_h4w, .inl (T 0, 90, .inl v_h4w)), (a_h4k, .inl (T 0, 18, .inl v_h4k)), (a_h5w, .inl (T 0, 90, .inl v_h5w)), (a_h5k, .inl (T 0, 18, .inl v_h5k)), (a_rs, .inl (T 0, 45, .inl v_rs)), (a_ro, .inl (T 1, 45, .inl v_ro)), (a_ti, .inl (T 2, 60, .inl v_ti)), (a_tn, .inl (T 0, 3, .inl q1.2.2.2.2.2.2)), (a_hp, .inl (T 3, 6, .inr (.inr (.inr (.inr (hpF a_h0 a_h1 a_h2 a_h3 a_h4 a_h5))))))]) C hE hZ hP hD hS hA (kX5_errorAt l hZ.1 D T a_t a_ti a_tn t_len t_cur t_kin t_tol t_don v_ti v_tn _ q1 e2) mX5_errorAt qLX7_322 [11, 32, 33] [0, 1, 2, 3, 4, 5, 6, 7, 8, 9, 10, 12, 13, 14, 15, 16, 17, 18, 19, 20, 21, 22, 23, 24, 25, 26, 27, 28, 29, 30, 31, 34] 11 rfl rfl rfl rfl rfl rfl rfl rfl rfl ⟨Nat.le_of_ble_eq_true rfl, Nat.le_of_ble_eq_true rfl⟩ rfl hl.1 rfl (Nat.le_of_ble_eq_true rfl) dX7_read_4 ⟨Nat.le_of_ble_eq_true rfl, Nat.le_of_ble_eq_true rfl⟩ (fun hx0 H locs ce q9 hP hD hS g1 g2 g3 => ?_) (fun hx0 H locs hP hD hS => ?_)
  · have h := ite_f (Nat.ne_of_gt hx0) h
    have h := Option.some.inj h
    exact hret.2.1 _ _ _ _ _ _ _ _ _ (Nat.le_of_ble_eq_true rfl) (Nat.le_of_ble_eq_true rfl) (by rw [← h]; exact hx0) (by rw [← h]; exact hP) hS g1 g2 (by rw [← h]; exact g3)
  · have h := ite_t hx0 h
    refine lv_istore_n (lv' := [(1, .int q1.2.1), (0, .ref a_x)]) hx hb dX7_read_7 rfl hl (by decide) rfl (fun ls hl => ?_)
    refine lv_iload_n hx hb dX7_read_8 rfl (lv_at hl 0 rfl) ?_
    refine lv_iconst (v := (-1)) hx hb dX7_read_9 (by decide) ?_
    refine lv_icmp_eq (tgt := 36) hx hb dX7_read_10 (by decide) (fun c3 => ?_) (fun c3 => ?_)
    · have h := ite_t c3 h
      refine lv_aload_n hx hb dX7_read_36 rfl (lv_at hl 1 rfl) ?_
      refine getF (q0 := 13) (k0 := 1) (v := .ref a_b) C hE hP inA7 rfl rfl (by decide) qFX7_16 rfl rfl dX7_read_37 ?_
      refine lv_aload_n hx hb dX7_read_40 rfl (lv_at hl 1 rfl) ?_
      refine getF (q0 := 13) (k0 := 0) (v := .ref a_g) C hE hP inA7 rfl rfl (by decide) qFX7_10 rfl rfl dX7_read_41 ?_
      obtain ⟨q4, e5, h⟩ := bnd h
      refine wrVv (ws1 := [(a_g, .inr (1, [.ref a_gw, .ref a_gk])), (a_b, .inr (1, [.ref a_bw, .ref a_bk])), (a_h0, .inr (1, [.ref a_h0w, .ref a_h0k])), (a_h1, .inr (1, [.ref a_h1w, .ref a_h1k])), (a_h2, .inr (1, [.ref a_h2w, .ref a_h2k])), (a_h3, .inr (1, [.ref a_h3w, .ref a_h3k])), (a_h4, .inr (1, [.ref a_h4w, .ref a_h4k])), (a_h5, .inr (1, [.ref a_h5w, .ref a_h5k])), (a_r, .inr (4, [.ref a_g, .ref a_rs, .ref a_rl, .ref a_ro])), (a_f, .inr (0, [.ref a_g, .int f_net])), (a_u, .inr (6, [.ref a_g, .ref a_r, .int u_det])), (a_t, .inr (5, [.ref a_ti, .ref a_tn, .int t_len, .int q1.2.2.1, .int q1.2.2.2.1, .int q1.2.2.2.2.1, .int q1.2.2.2.2.2.1])), (a_h, .inr (2, [.ref a_hp, .int h_old, .int h_siz])), (a_x, .inr (7, [.ref a_g, .ref a_b, .ref a_v, .ref a_h, .ref a_r, .ref a_f, .ref a_u, .ref a_t, .ref a_n, .int x_sav, .int x_err, .int x_rea, .int x_det, .int x_com])), (a_gw, .inl (T 0, 90, .inl v_gw)), (a_gk, .inl (T 0, 18, .inl v_gk)), (a_bw, .inl (T 0, 90, .inl q4.1)), (a_bk, .inl (T 0, 18, .inl q4.2)), (a_h0w, .inl (T 0, 90, .inl v_h0w)), (a_h0k, .inl (T 0, 18, .inl v_h0k)), (a_h1w, .inl (T 0, 90, .inl v_h1w)), (a_h1k, .inl (T 0, 18, .inl v_h1k)), (a_h2w, .inl (T 0, 90, .inl v_h2w)), (a_h2k, .inl (T 0, 18, .inl v_h2k)), (a_h3w, .inl (T 0, 90, .inl v_h3w)), (a_h3k, .inl (T 0, 18, .inl v_h3k)), (a_h4w, .inl (T 0, 90, .inl v_h4w)), (a_h4k, .inl (T 0, 18, .inl v_h4k)), (a_h5w, .inl (T 0, 90, .inl v_h5w)), (a_h5k, .inl (T 0, 18, .inl v_h5k)), (a_rs, .inl (T 0, 45, .inl v_rs)), (a_ro, .inl (T 1, 45, .inl v_ro)), (a_ti, .inl (T 2, 60, .inl v_ti)), (a_tn, .inl (T 0, 3, .inl q1.2.2.2.2.2.2)), (a_hp, .inl (T 3, 6, .inr (.inr (.inr (.inr (hpF a_h0 a_h1 a_h2 a_h3 a_h4 a_h5))))))]) C hE hP hD hS hA (kX1_copyFrom l D T a_b a_bw a_bk a_g a_gw a_gk v_bw v_bk v_gw v_gk _ q4 e5) mX1_copyFrom qLX7_328 [1, 0, 16, 17, 14, 15] [2, 3, 4, 5, 6, 7, 8, 9, 10, 11, 12, 13, 18, 19, 20, 21, 22, 23, 24, 25, 26, 27, 28, 29, 30, 31, 32, 33, 34] 1 rfl rfl rfl rfl rfl rfl rfl rfl rfl ⟨rfl, rfl⟩ ⟨Nat.le_of_ble_eq_true rfl, Nat.le_of_ble_eq_true rfl⟩ rfl hl.1 rfl (Nat.le_of_ble_eq_true rfl) dX7_read_44 ⟨Nat.le_of_ble_eq_true rfl, Nat.le_of_ble_eq_true rfl⟩ (fun H locs hP hD hS => ?_)
      refine lv_iconst (v := 0) hx hb dX7_read_47 (by decide) ?_
      refine lv_istore_n (lv' := [(2, .int 0), (1, .int q1.2.1), (0, .ref a_x)]) hx hb dX7_read_48 rfl hl (by decide) rfl (fun ls hl => ?_)
      refine lv_aload_n hx hb dX7_read_49 rfl (lv_at hl 2 rfl) ?_
      refine getF (q0 := 13) (k0 := 7) (v := .ref a_t) C hE hP inA7 rfl rfl (by decide) qFX7_57 rfl rfl dX7_read_50 ?_
      obtain ⟨q6, e7, h⟩ := bnd h
      refine wrVv (ws1 := [(a_g, .inr (1, [.ref a_gw, .ref a_gk])), (a_b, .inr (1, [.ref a_bw, .ref a_bk])), (a_h0, .inr (1, [.ref a_h0w, .ref a_h0k])), (a_h1, .inr (1, [.ref a_h1w, .ref a_h1k])), (a_h2, .inr (1, [.ref a_h2w, .ref a_h2k])), (a_h3, .inr (1, [.ref a_h3w, .ref a_h3k])), (a_h4, .inr (1, [.ref a_h4w, .ref a_h4k])), (a_h5, .inr (1, [.ref a_h5w, .ref a_h5k])), (a_r, .inr (4, [.ref a_g, .ref a_rs, .ref a_rl, .ref a_ro])), (a_f, .inr (0, [.ref a_g, .int f_net])), (a_u, .inr (6, [.ref a_g, .ref a_r, .int u_det])), (a_t, .inr (5, [.ref a_ti, .ref a_tn, .int t_len, .int q6.1, .int q1.2.2.2.1, .int q1.2.2.2.2.1, .int q6.2])), (a_h, .inr (2, [.ref a_hp, .int h_old, .int h_siz])), (a_x, .inr (7, [.ref a_g, .ref a_b, .ref a_v, .ref a_h, .ref a_r, .ref a_f, .ref a_u, .ref a_t, .ref a_n, .int x_sav, .int x_err, .int x_rea, .int x_det, .int x_com])), (a_gw, .inl (T 0, 90, .inl v_gw)), (a_gk, .inl (T 0, 18, .inl v_gk)), (a_bw, .inl (T 0, 90, .inl q4.1)), (a_bk, .inl (T 0, 18, .inl q4.2)), (a_h0w, .inl (T 0, 90, .inl v_h0w)), (a_h0k, .inl (T 0, 18, .inl v_h0k)), (a_h1w, .inl (T 0, 90, .inl v_h1w)), (a_h1k, .inl (T 0, 18, .inl v_h1k)), (a_h2w, .inl (T 0, 90, .inl v_h2w)), (a_h2k, .inl (T 0, 18, .inl v_h2k)), (a_h3w, .inl (T 0, 90, .inl v_h3w)), (a_h3k, .inl (T 0, 18, .inl v_h3k)), (a_h4w, .inl (T 0, 90, .inl v_h4w)), (a_h4k, .inl (T 0, 18, .inl v_h4k)), (a_h5w, .inl (T 0, 90, .inl v_h5w)), (a_h5k, .inl (T 0, 18, .inl v_h5k)), (a_rs, .inl (T 0, 45, .inl v_rs)), (a_ro, .inl (T 1, 45, .inl v_ro)), (a_ti, .inl (T 2, 60, .inl v_ti)), (a_tn, .inl (T 0, 3, .inl q1.2.2.2.2.2.2)), (a_hp, .inl (T 3, 6, .inr (.inr (.inr (.inr (hpF a_h0 a_h1 a_h2 a_h3 a_h4 a_h5))))))]) C hE hP hD hS hA (kX5_rewind l D T a_t a_ti a_tn t_len q1.2.2.1 q1.2.2.2.1 q1.2.2.2.2.1 q1.2.2.2.2.2.1 _ q6 e7) mX5_rewind qLX7_331 [11] [0, 1, 2, 3, 4, 5, 6, 7, 8, 9, 10, 12, 13, 14, 15, 16, 17, 18, 19, 20, 21, 22, 23, 24, 25, 26, 27, 28, 29, 30, 31, 32, 33, 34] 11 rfl rfl rfl rfl rfl rfl rfl rfl rfl ⟨rfl, rfl⟩ ⟨Nat.le_of_ble_eq_true rfl, Nat.le_of_ble_eq_true rfl⟩ rfl hl.1 rfl (Nat.le_of_ble_eq_true rfl) dX7_read_53 ⟨Nat.le_of_ble_eq_true rfl, Nat.le_of_ble_eq_true rfl⟩ (fun H locs hP hD hS => ?_)
      refine lv_iconst (v := 0) hx hb dX7_read_56 (by decide) ?_
      refine lv_istore_n (lv' := [(3, .int 0), (2, .int 0), (1, .int q1.2.1), (0, .ref a_x)]) hx hb dX7_read_57 rfl hl (by decide) rfl (fun ls hl => ?_)
      exact lX7_read_58 C hE hA hZ hret 64 0 0 f_net u_det t_len q6.1 q1.2.2.2.1 q1.2.2.2.2.1 q6.2 h_old h_siz x_err x_rea x_det x_com v_gw v_gk q4.1 q4.2 v_h0w v_h0k v_h1w v_h1k v_h2w v_h2k v_h3w v_h3k v_h4w v_h4k v_h5w v_h5k v_rs v_ro q1.2.2.2.2.2.2 hP hD hS _ (lv_sub hl [3, 1, 0] rfl) h
    · have h := ite_f c3 h
      refine lv_aload_n hx hb dX7_read_13 rfl (lv_at hl 1 rfl) ?_
      refine getF (q0 := 13) (k0 := 7) (v := .ref a_t) C hE hP inA7 rfl rfl (by decide) qFX7_57 rfl rfl dX7_read_14 ?_
      obtain ⟨q8, e9, h⟩ := bnd h
      refine wrVv (ws1 := [(a_g, .inr (1, [.ref a_gw, .ref a_gk])), (a_b, .inr (1, [.ref a_bw, .ref a_bk])), (a_h0, .inr (1, [.ref a_h0w, .ref a_h0k])), (a_h1, .inr (1, [.ref a_h1w, .ref a_h1k])), (a_h2, .inr (1, [.ref a_h2w, .ref a_h2k])), (a_h3, .inr (1, [.ref a_h3w, .ref a_h3k])), (a_h4, .inr (1, [.ref a_h4w, .ref a_h4k])), (a_h5, .inr (1, [.ref a_h5w, .ref a_h5k])), (a_r, .inr (4, [.ref a_g, .ref a_rs, .ref a_rl, .ref a_ro])), (a_f, .inr (0, [.ref a_g, .int f_net])), (a_u, .inr (6, [.ref a_g, .ref a_r, .int u_det])), (a_t, .inr (5, [.ref a_ti, .ref a_tn, .int q8, .int q1.2.2.1, .int q1.2.2.2.1, .int q1.2.2.2.2.1, .int q1.2.2.2.2.2.1])), (a_h, .inr (2, [.ref a_hp, .int h_old, .int h_siz])), (a_x, .inr (7, [.ref a_g, .ref a_b, .ref a_v, .ref a_h, .ref a_r, .ref a_f, .ref a_u, .ref a_t, .ref a_n, .int x_sav, .int x_err, .int x_rea, .int x_det, .int x_com])), (a_gw, .inl (T 0, 90, .inl v_gw)), (a_gk, .inl (T 0, 18, .inl v_gk)), (a_bw, .inl (T 0, 90, .inl v_bw)), (a_bk, .inl (T 0, 18, .inl v_bk)), (a_h0w, .inl (T 0, 90, .inl v_h0w)), (a_h0k, .inl (T 0, 18, .inl v_h0k)), (a_h1w, .inl (T 0, 90, .inl v_h1w)), (a_h1k, .inl (T 0, 18, .inl v_h1k)), (a_h2w, .inl (T 0, 90, .inl v_h2w)), (a_h2k, .inl (T 0, 18, .inl v_h2k)), (a_h3w, .inl (T 0, 90, .inl v_h3w)), (a_h3k, .inl (T 0, 18, .inl v_h3k)), (a_h4w, .inl (T 0, 90, .inl v_h4w)), (a_h4k, .inl (T 0, 18, .inl v_h4k)), (a_h5w, .inl (T 0, 90, .inl v_h5w)), (a_h5k, .inl (T 0, 18, .inl v_h5k)), (a_rs, .inl (T 0, 45, .inl v_rs)), (a_ro, .inl (T 1, 45, .inl v_ro)), (a_ti, .inl (T 2, 60, .inl v_ti)), (a_tn, .inl (T 0, 3, .inl q1.2.2.2.2.2.2)), (a_hp, .inl (T 3, 6, .inr (.inr (.inr (.inr (hpF a_h0 a_h1 a_h2 a_h3 a_h4 a_h5))))))]) C hE hP hD hS hA (kX5_clear l D T a_t a_ti a_tn t_len q1.2.2.1 q1.2.2.2.1 q1.2.2.2.2.1 q1.2.2.2.2.2.1 _ q8 e9) mX5_clear qLX7_325 [11] [0, 1, 2, 3, 4, 5, 6, 7, 8, 9, 10, 12, 13, 14, 15, 16, 17, 18, 19, 20, 21, 22, 23, 24, 25, 26, 27, 28, 29, 30, 31, 32, 33, 34] 11 rfl rfl rfl rfl rfl rfl rfl rfl rfl ⟨rfl, rfl⟩ ⟨Nat.le_of_ble_eq_true rfl, Nat.le_of_ble_eq_true rfl⟩ rfl hl.1 rfl (Nat.le_of_ble_eq_true rfl) dX7_read_17 ⟨Nat.le_of_ble_eq_true rfl, Nat.le_of_ble_eq_true rfl⟩ (fun H locs hP hD hS => ?_)
      refine lv_aload_n hx hb dX7_read_20 rfl (lv_at hl 1 rfl) ?_
      refine lv_iload_n hx hb dX7_read_21 rfl (lv_at hl 0 rfl) ?_
      refine putF (q0 := 13) (k0 := 10) (ws1 := [(a_g, .inr (1, [.ref a_gw, .ref a_gk])), (a_b, .inr (1, [.ref a_bw, .ref a_bk])), (a_h0, .inr (1, [.ref a_h0w, .ref a_h0k])), (a_h1, .inr (1, [.ref a_h1w, .ref a_h1k])), (a_h2, .inr (1, [.ref a_h2w, .ref a_h2k])), (a_h3, .inr (1, [.ref a_h3w, .ref a_h3k])), (a_h4, .inr (1, [.ref a_h4w, .ref a_h4k])), (a_h5, .inr (1, [.ref a_h5w, .ref a_h5k])), (a_r, .inr (4, [.ref a_g, .ref a_rs, .ref a_rl, .ref a_ro])), (a_f, .inr (0, [.ref a_g, .int f_net])), (a_u, .inr (6, [.ref a_g, .ref a_r, .int u_det])), (a_t, .inr (5, [.ref a_ti, .ref a_tn, .int q8, .int q1.2.2.1, .int q1.2.2.2.1, .int q1.2.2.2.2.1, .int q1.2.2.2.2.2.1])), (a_h, .inr (2, [.ref a_hp, .int h_old, .int h_siz])), (a_x, .inr (7, [.ref a_g, .ref a_b, .ref a_v, .ref a_h, .ref a_r, .ref a_f, .ref a_u, .ref a_t, .ref a_n, .int x_sav, .int q1.2.1, .int x_rea, .int x_det, .int x_com])), (a_gw, .inl (T 0, 90, .inl v_gw)), (a_gk, .inl (T 0, 18, .inl v_gk)), (a_bw, .inl (T 0, 90, .inl v_bw)), (a_bk, .inl (T 0, 18, .inl v_bk)), (a_h0w, .inl (T 0, 90, .inl v_h0w)), (a_h0k, .inl (T 0, 18, .inl v_h0k)), (a_h1w, .inl (T 0, 90, .inl v_h1w)), (a_h1k, .inl (T 0, 18, .inl v_h1k)), (a_h2w, .inl (T 0, 90, .inl v_h2w)), (a_h2k, .inl (T 0, 18, .inl v_h2k)), (a_h3w, .inl (T 0, 90, .inl v_h3w)), (a_h3k, .inl (T 0, 18, .inl v_h3k)), (a_h4w, .inl (T 0, 90, .inl v_h4w)), (a_h4k, .inl (T 0, 18, .inl v_h4k)), (a_h5w, .inl (T 0, 90, .inl v_h5w)), (a_h5k, .inl (T 0, 18, .inl v_h5k)), (a_rs, .inl (T 0, 45, .inl v_rs)), (a_ro, .inl (T 1, 45, .inl v_ro)), (a_ti, .inl (T 2, 60, .inl v_ti)), (a_tn, .inl (T 0, 3, .inl q1.2.2.2.2.2.2)), (a_hp, .inl (T 3, 6, .inr (.inr (.inr (.inr (hpF a_h0 a_h1 a_h2 a_h3 a_h4 a_h5))))))]) C hE hP hD hS inA7 tyX7_ok nmX7 rfl rfl (by decide) qFX7_72 rfl rfl rfl rfl (Nat.le_of_ble_eq_true rfl) rfl dX7_read_22 (fun H locs hP hD hS => ?_)
      have h := Option.some.inj h
      exact hret.2.2 _ _ _ _ _ _ _ 141 145 326 _ "the input is malformed" (by rw [← h]; exact thrX7_141_145_1) (by decide +kernel) dX7_read_25 dX7_read_28 (Or.inr ⟨dX7_read_29, dX7_read_32, dX7_read_35⟩) (Nat.le_of_ble_eq_true rfl) (Nat.le_of_ble_eq_true rfl) (Nat.le_of_ble_eq_true rfl) (Nat.le_of_ble_eq_true rfl) (hl.1.trans C.2.2.1.symm) (by rw [← h]; exact (Nat.le_of_ble_eq_true rfl)) (by rw [← h]; exact hP) hS

def fX7_undo (h_old : Int32) (h_siz : Int32) (v_gw : Nat → Int32) (v_gk : Nat → Int32) (v_h0w : Nat → Int32) (v_h0k : Nat → Int32) (v_h1w : Nat → Int32) (v_h1k : Nat → Int32) (v_h2w : Nat → Int32) (v_h2k : Nat → Int32) (v_h3w : Nat → Int32) (v_h3k : Nat → Int32) (v_h4w : Nat → Int32) (v_h4k : Nat → Int32) (v_h5w : Nat → Int32) (v_h5k : Nat → Int32) : Option (Nat × Int32 × Int32 × (Nat → Int32) × (Nat → Int32)) :=
  if (fX2_size h_siz) = 0 then
    some (4, 0, h_siz, v_gw, v_gk)
  else
    (fX2_takeBack h_old h_siz v_gw v_gk v_h0w v_h0k v_h1w v_h1k v_h2w v_h2k v_h3w v_h3k v_h4w v_h4k v_h5w v_h5k).bind fun q2 =>
    some (0, (fX2_size q2.1), q2.1, q2.2.1, q2.2.2)
set_option maxHeartbeats 4000000 in
set_option maxRecDepth 100000 in
theorem kX7_undo (l : Launch) (hnt : l.stackTraces = false) (D : va_G) (T : Nat → ClassId) (a_g a_gw a_gk a_h0 a_h0w a_h0k a_h1 a_h1w a_h1k a_h2 a_h2w a_h2k a_h3 a_h3w a_h3k a_h4 a_h4w a_h4k a_h5 a_h5w a_h5k a_h a_hp a_x a_b a_v a_r a_f a_u a_t a_n : Nat) (h_old : Int32) (h_siz : Int32) (x_sav : Int32) (x_err : Int32) (x_rea : Int32) (x_det : Int32) (x_com : Int32) (v_gw : Nat → Int32) (v_gk : Nat → Int32) (v_h0w : Nat → Int32) (v_h0k : Nat → Int32) (v_h1w : Nat → Int32) (v_h1k : Nat → Int32) (v_h2w : Nat → Int32) (v_h2k : Nat → Int32) (v_h3w : Nat → Int32) (v_h3k : Nat → Int32) (v_h4w : Nat → Int32) (v_h4k : Nat → Int32) (v_h5w : Nat → Int32) (v_h5k : Nat → Int32) (sz : Nat) (r : Nat × Int32 × Int32 × (Nat → Int32) × (Nat → Int32)) (h : fX7_undo h_old h_siz v_gw v_gk v_h0w v_h0k v_h1w v_h1k v_h2w v_h2k v_h3w v_h3k v_h4w v_h4k v_h5w v_h5k = some r) : ThI l yX7_undo cX7_undo 1 .int ({ frames := 6, cells := 1, slots := 6, locals := 142 } : Room) D T sz [(a_g, .inr (1, [.ref a_gw, .ref a_gk])), (a_h0, .inr (1, [.ref a_h0w, .ref a_h0k])), (a_h1, .inr (1, [.ref a_h1w, .ref a_h1k])), (a_h2, .inr (1, [.ref a_h2w, .ref a_h2k])), (a_h3, .inr (1, [.ref a_h3w, .ref a_h3k])), (a_h4, .inr (1, [.ref a_h4w, .ref a_h4k])), (a_h5, .inr (1, [.ref a_h5w, .ref a_h5k])), (a_h, .inr (2, [.ref a_hp, .int h_old, .int h_siz])), (a_x, .inr (7, [.ref a_g, .ref a_b, .ref a_v, .ref a_h, .ref a_r, .ref a_f, .ref a_u, .ref a_t, .ref a_n, .int x_sav, .int x_err, .int x_rea, .int x_det, .int x_com])), (a_gw, .inl (T 0, 90, .inl v_gw)), (a_gk, .inl (T 0, 18, .inl v_gk)), (a_h0w, .inl (T 0, 90, .inl v_h0w)), (a_h0k, .inl (T 0, 18, .inl v_h0k)), (a_h1w, .inl (T 0, 90, .inl v_h1w)), (a_h1k, .inl (T 0, 18, .inl v_h1k)), (a_h2w, .inl (T 0, 90, .inl v_h2w)), (a_h2k, .inl (T 0, 18, .inl v_h2k)), (a_h3w, .inl (T 0, 90, .inl v_h3w)), (a_h3k, .inl (T 0, 18, .inl v_h3k)), (a_h4w, .inl (T 0, 90, .inl v_h4w)), (a_h4k, .inl (T 0, 18, .inl v_h4k)), (a_h5w, .inl (T 0, 90, .inl v_h5w)), (a_h5k, .inl (T 0, 18, .inl v_h5k)), (a_hp, .inl (T 3, 6, .inr (.inr (.inr (.inr (hpF a_h0 a_h1 a_h2 a_h3 a_h4 a_h5))))))] [(a_g, .inr (1, [.ref a_gw, .ref a_gk])), (a_h0, .inr (1, [.ref a_h0w, .ref a_h0k])), (a_h1, .inr (1, [.ref a_h1w, .ref a_h1k])), (a_h2, .inr (1, [.ref a_h2w, .ref a_h2k])), (a_h3, .inr (1, [.ref a_h3w, .ref a_h3k])), (a_h4, .inr (1, [.ref a_h4w, .ref a_h4k])), (a_h5, .inr (1, [.ref a_h5w, .ref a_h5k])), (a_h, .inr (2, [.ref a_hp, .int h_old, .int r.2.2.1])), (a_x, .inr (7, [.ref a_g, .ref a_b, .ref a_v, .ref a_h, .ref a_r, .ref a_f, .ref a_u, .ref a_t, .ref a_n, .int x_sav, .int x_err, .int x_rea, .int x_det, .int x_com])), (a_gw, .inl (T 0, 90, .inl r.2.2.2.1)), (a_gk, .inl (T 0, 18, .inl r.2.2.2.2)), (a_h0w, .inl (T 0, 90, .inl v_h0w)), (a_h0k, .inl (T 0, 18, .inl v_h0k)), (a_h1w, .inl (T 0, 90, .inl v_h1w)), (a_h1k, .inl (T 0, 18, .inl v_h1k)), (a_h2w, .inl (T 0, 90, .inl v_h2w)), (a_h2k, .inl (T 0, 18, .inl v_h2k)), (a_h3w, .inl (T 0, 90, .inl v_h3w)), (a_h3k, .inl (T 0, 18, .inl v_h3k)), (a_h4w, .inl (T 0, 90, .inl v_h4w)), (a_h4k, .inl (T 0, 18, .inl v_h4k)), (a_h5w, .inl (T 0, 90, .inl v_h5w)), (a_h5k, .inl (T 0, 18, .inl v_h5k)), (a_hp, .inl (T 3, 6, .inr (.inr (.inr (.inr (hpF a_h0 a_h1 a_h2 a_h3 a_h4 a_h5))))))] [.ref a_x] r.1 r.2.1 := by
  unfold fX7_undo at h
  refine thMetI hnt (by decide +kernel) rfl (fun p e s m args below meth c Q A C hE hA hZ hP hD hS hret ls hl => ?_)
  have hx := C.1
  have hb := C.2.1
  have hl : lv_has ls 1 [(0, .ref a_x)] := hl
  refine lv_aload_n hx hb dX7_undo_0 rfl (lv_at hl 0 rfl) ?_
  refine getF (q0 := 8) (k0 := 3) (v := .ref a_h) C hE hP inA7 rfl rfl (by decide) qFX7_25 rfl rfl dX7_undo_1 ?_
  refine rdV C hE hP (kX2_size l D T a_h a_hp h_old h_siz) mX2_size qLX7_309 [7] 7 rfl rfl rfl rfl ⟨rfl, rfl⟩ ⟨Nat.le_of_ble_eq_true rfl, Nat.le_of_ble_eq_true rfl⟩ rfl hl.1 rfl (Nat.le_of_ble_eq_true rfl) dX7_undo_4 ⟨Nat.le_of_ble_eq_true rfl, Nat.le_of_ble_eq_true rfl⟩ ?_
  refine lv_if_ne (tgt := 21) hx hb dX7_undo_7 (by decide) (fun c1 => ?_) (fun c1 => ?_)
  · have h := ite_f c1 h
    refine lv_aload_n hx hb dX7_undo_21 rfl (lv_at hl 0 rfl) ?_
    refine getF (q0 := 8) (k0 := 3) (v := .ref a_h) C hE hP inA7 rfl rfl (by decide) qFX7_25 rfl rfl dX7_undo_22 ?_
    refine lv_aload_n hx hb dX7_undo_25 rfl (lv_at hl 0 rfl) ?_
    refine getF (q0 := 8) (k0 := 0) (v := .ref a_g) C hE hP inA7 rfl rfl (by decide) qFX7_10 rfl rfl dX7_undo_26 ?_
    obtain ⟨q2, e3, h⟩ := bnd h
    refine wrVv (ws1 := [(a_g, .inr (1, [.ref a_gw, .ref a_gk])), (a_h0, .inr (1, [.ref a_h0w, .ref a_h0k])), (a_h1, .inr (1, [.ref a_h1w, .ref a_h1k])), (a_h2, .inr (1, [.ref a_h2w, .ref a_h2k])), (a_h3, .inr (1, [.ref a_h3w, .ref a_h3k])), (a_h4, .inr (1, [.ref a_h4w, .ref a_h4k])), (a_h5, .inr (1, [.ref a_h5w, .ref a_h5k])), (a_h, .inr (2, [.ref a_hp, .int h_old, .int q2.1])), (a_x, .inr (7, [.ref a_g, .ref a_b, .ref a_v, .ref a_h, .ref a_r, .ref a_f, .ref a_u, .ref a_t, .ref a_n, .int x_sav, .int x_err, .int x_rea, .int x_det, .int x_com])), (a_gw, .inl (T 0, 90, .inl q2.2.1)), (a_gk, .inl (T 0, 18, .inl q2.2.2)), (a_h0w, .inl (T 0, 90, .inl v_h0w)), (a_h0k, .inl (T 0, 18, .inl v_h0k)), (a_h1w, .inl (T 0, 90, .inl v_h1w)), (a_h1k, .inl (T 0, 18, .inl v_h1k)), (a_h2w, .inl (T 0, 90, .inl v_h2w)), (a_h2k, .inl (T 0, 18, .inl v_h2k)), (a_h3w, .inl (T 0, 90, .inl v_h3w)), (a_h3k, .inl (T 0, 18, .inl v_h3k)), (a_h4w, .inl (T 0, 90, .inl v_h4w)), (a_h4k, .inl (T 0, 18, .inl v_h4k)), (a_h5w, .inl (T 0, 90, .inl v_h5w)), (a_h5k, .inl (T 0, 18, .inl v_h5k)), (a_hp, .inl (T 3, 6, .inr (.inr (.inr (.inr (hpF a_h0 a_h1 a_h2 a_h3 a_h4 a_h5))))))]) C hE hP hD hS hA (kX2_takeBack l D T a_g a_gw a_gk a_h0 a_h0w a_h0k a_h1 a_h1w a_h1k a_h2 a_h2w a_h2k a_h3 a_h3w a_h3k a_h4 a_h4w a_h4k a_h5 a_h5w a_h5k a_h a_hp h_old h_siz v_gw v_gk v_h0w v_h0k v_h1w v_h1k v_h2w v_h2k v_h3w v_h3k v_h4w v_h4k v_h5w v_h5k _ q2 e3) mX2_takeBack qLX7_368 [0, 1, 2, 3, 4, 5, 6, 7, 9, 10, 11, 12, 13, 14, 15, 16, 17, 18, 19, 20, 21, 22, 23] [8] 7 rfl rfl rfl rfl rfl rfl rfl rfl rfl ⟨rfl, rfl⟩ ⟨Nat.le_of_ble_eq_true rfl, Nat.le_of_ble_eq_true rfl⟩ rfl hl.1 rfl (Nat.le_of_ble_eq_true rfl) dX7_undo_29 ⟨Nat.le_of_ble_eq_true rfl, Nat.le_of_ble_eq_true rfl⟩ (fun H locs hP hD hS => ?_)
    refine lv_aload_n hx hb dX7_undo_32 rfl (lv_at hl 0 rfl) ?_
    refine getF (q0 := 8) (k0 := 3) (v := .ref a_h) C hE hP inA7 rfl rfl (by decide) qFX7_25 rfl rfl dX7_undo_33 ?_
    refine rdV C hE hP (kX2_size l D T a_h a_hp h_old q2.1) mX2_size qLX7_309 [7] 7 rfl rfl rfl rfl ⟨rfl, rfl⟩ ⟨Nat.le_of_ble_eq_true rfl, Nat.le_of_ble_eq_true rfl⟩ rfl hl.1 rfl (Nat.le_of_ble_eq_true rfl) dX7_undo_36 ⟨Nat.le_of_ble_eq_true rfl, Nat.le_of_ble_eq_true rfl⟩ ?_
    have h := Option.some.inj h
    exact hret.1 _ _ _ _ _ _ _ _ (Nat.le_of_ble_eq_true rfl) (Nat.le_of_ble_eq_true rfl) dX7_undo_39 rfl (by rw [← h]) (by rw [← h] <;> rfl) (by rw [← h]; exact hP) hS
  · have h := ite_t c1 h
    have h := Option.some.inj h
    exact hret.2.2 _ _ _ _ _ _ _ 173 177 366 _ "no change is remembered" (by rw [← h]; exact thrX7_173_177_4) (by decide +kernel) dX7_undo_10 dX7_undo_13 (Or.inr ⟨dX7_undo_14, dX7_undo_17, dX7_undo_20⟩) (Nat.le_of_ble_eq_true rfl) (Nat.le_of_ble_eq_true rfl) (Nat.le_of_ble_eq_true rfl) (Nat.le_of_ble_eq_true rfl) (hl.1.trans C.2.2.1.symm) (by rw [← h]; exact (Nat.le_of_ble_eq_true rfl)) (by rw [← h]; exact hP) hS

def fX8_isWay (m_tap : Int32) (m_her : Int32) (v_mt : Nat → Int32) (v_mc : Nat → Int32) (p0 : Int32) : Option (Nat × Int32 × Int32 × (Nat → Int32)) :=
  (fX8_isSign m_tap m_her v_mt 110).bind fun q3 =>
  if q3.1 = 0 then
    (fX8_isSign m_tap q3.2 v_mt 101).bind fun q8 =>
    if q8.1 = 0 then
      (fX8_isSign m_tap q8.2 v_mt 115).bind fun q13 =>
      if q13.1 = 0 then
        (fX8_isSign m_tap q13.2 v_mt 119).bind fun q18 =>
        if q18.1 = 0 then
          some (0, 0, q18.2, v_mc)
        else
          if vin p0 124 = true then
          some (0, 1, q18.2, (upd v_mc p0.toNatClampNeg 3))
          else none
      else
        if vin p0 124 = true then
        some (0, 1, q13.2, (upd v_mc p0.toNatClampNeg 2))
        else none
    else
      if vin p0 124 = true then
      some (0, 1, q8.2, (upd v_mc p0.toNatClampNeg 1))
      else none
  else
    if vin p0 124 = true then
    some (0, 1, q3.2, (upd v_mc p0.toNatClampNeg 0))
    else none
set_option maxHeartbeats 4000000 in
set_option maxRecDepth 100000 in
theorem kX8_isWay (l : Launch) (hnt : l.stackTraces = false) (D : va_G) (T : Nat → ClassId) (a_m a_ms a_mw a_mv a_mp a_mf a_ml a_mt a_mc : Nat) (m_chg : Int32) (m_thr : Int32) (m_rea : Int32) (m_det : Int32) (m_ref : Int32) (m_err : Int32) (m_ans : Int32) (m_sav : Int32) (m_net : Int32) (m_lin : Int32) (m_tap : Int32) (m_her : Int32) (m_cmd : Int32) (v_mt : Nat → Int32) (v_mc : Nat → Int32) (p0 : Int32) (sz : Nat) (r : Nat × Int32 × Int32 × (Nat → Int32)) (h : fX8_isWay m_tap m_her v_mt v_mc p0 = some r) : ThI l yX8_isWay cX8_isWay 3 .boolean ({ frames := 4, cells := 0, slots := 0, locals := 85 } : Room) D T sz [(a_m, .inr (8, [.ref a_ms, .ref a_mw, .ref a_mv, .ref a_mp, .ref a_mf, .int m_chg, .int m_thr, .int m_rea, .int m_det, .int m_ref, .int m_err, .int m_ans, .int m_sav, .int m_net, .ref a_ml, .int m_lin, .ref a_mt, .ref a_mc, .int m_tap, .int m_her, .int m_cmd])), (a_mt, .inl (T 0, 60, .inl v_mt)), (a_mc, .inl (T 0, 124, .inl v_mc))] [(a_m, .inr (8, [.ref a_ms, .ref a_mw, .ref a_mv, .ref a_mp, .ref a_mf, .int m_chg, .int m_thr, .int m_rea, .int m_det, .int m_ref, .int m_err, .int m_ans, .int m_sav, .int m_net, .ref a_ml, .int m_lin, .ref a_mt, .ref a_mc, .int m_tap, .int r.2.2.1, .int m_cmd])), (a_mt, .inl (T 0, 60, .inl v_mt)), (a_mc, .inl (T 0, 124, .inl r.2.2.2))] [.ref a_m, .int p0] r.1 r.2.1 := by
  unfold fX8_isWay at h
  refine thMetI hnt (by decide +kernel) rfl (fun p e s m args below meth c Q A C hE hA hZ hP hD hS hret ls hl => ?_)
  have hx := C.1
  have hb := C.2.1
  have hl : lv_has ls 3 [(0, .ref a_m), (1, .int p0)] := hl
  refine lv_iconst (v := 0) hx hb dX8_isWay_0 (by decide) ?_
  refine lv_istore_n (lv' := [(2, .int 0), (0, .ref a_m), (1, .int p0)]) hx hb dX8_isWay_1 rfl hl (by decide) rfl (fun ls hl => ?_)
  refine lv_iload_n hx hb dX8_isWay_2 rfl (lv_at hl 0 rfl) ?_
  refine lv_iconst (v := 4) hx hb dX8_isWay_3 (by decide) ?_
  refine lv_icmp_ge (tgt := 35) hx hb dX8_isWay_4 (by decide) (fun c1 => absurd c1 (by decide)) (fun c1 => ?_)
  refine lv_aload_n hx hb dX8_isWay_7 rfl (lv_at hl 1 rfl) ?_
  obtain ⟨as2, vs2, hrs2, hjs2⟩ := eS_at (own := RX8) (k := 217) (tx := "nesw") (bs := [110, 101, 115, 119]) hZ 8 rfl
  refine va_ldcS hx hb C.2.2.2.1 hrs2 dX8_isWay_8 ?_
  refine lv_iload_n hx hb dX8_isWay_10 rfl (lv_at hl 0 rfl) ?_
  refine prV (r := 110) C JP.blind (JP.recv hjs2 hS) (fun U hU hW => JP.use hjs2 hS hU hW) (kJ0_charAt_5068e l as2 vs2 [110, 101, 115, 119] 0 110 (by decide)) mJ0_charAt_5068e qLX8_219 ⟨rfl, rfl⟩ ⟨Nat.le_of_ble_eq_true rfl, Nat.le_of_ble_eq_true rfl⟩ rfl hl.1 rfl (Nat.le_of_ble_eq_true rfl) dX8_isWay_11 ⟨Nat.le_of_ble_eq_true rfl, Nat.le_of_ble_eq_true rfl⟩ ?_
  obtain ⟨q3, e4, h⟩ := bnd h
  refine wrVi (ws1 := [(a_m, .inr (8, [.ref a_ms, .ref a_mw, .ref a_mv, .ref a_mp, .ref a_mf, .int m_chg, .int m_thr, .int m_rea, .int m_det, .int m_ref, .int m_err, .int m_ans, .int m_sav, .int m_net, .ref a_ml, .int m_lin, .ref a_mt, .ref a_mc, .int m_tap, .int q3.2, .int m_cmd])), (a_mt, .inl (T 0, 60, .inl v_mt)), (a_mc, .inl (T 0, 124, .inl v_mc))]) C hE hP hD hS hA (kX8_isSign l D T a_m a_ms a_mw a_mv a_mp a_mf a_ml a_mt a_mc m_chg m_thr m_rea m_det m_ref m_err m_ans m_sav m_net m_lin m_tap m_her m_cmd v_mt 110 _ q3 e4) mX8_isSign qLX8_225 [0, 1] [2] 0 rfl rfl rfl rfl rfl rfl rfl rfl rfl ⟨rfl, rfl⟩ ⟨Nat.le_of_ble_eq_true rfl, Nat.le_of_ble_eq_true rfl⟩ rfl hl.1 rfl (Nat.le_of_ble_eq_true rfl) dX8_isWay_14 ⟨Nat.le_of_ble_eq_true rfl, Nat.le_of_ble_eq_true rfl⟩ (fun H locs hP hD hS => ?_)
  refine lv_if_eq (tgt := 29) hx hb dX8_isWay_17 (by decide) (fun c5 => ?_) (fun c5 => ?_)
  · have h := ite_t c5 h
    refine lv_iinc (v := 1) (lv' := [(2, .int 1), (0, .ref a_m), (1, .int p0)]) hx hb dX8_isWay_29 hl (k := 0) rfl rfl (by decide) rfl (fun ls hl => ?_)
    refine lv_goto (tgt := 2) hx hb dX8_isWay_32 (by decide) ?_
    refine lv_iload_n hx hb dX8_isWay_2 rfl (lv_at hl 0 rfl) ?_
    refine lv_iconst (v := 4) hx hb dX8_isWay_3 (by decide) ?_
    refine lv_icmp_ge (tgt := 35) hx hb dX8_isWay_4 (by decide) (fun c6 => absurd c6 (by decide)) (fun c6 => ?_)
    refine lv_aload_n hx hb dX8_isWay_7 rfl (lv_at hl 1 rfl) ?_
    obtain ⟨as7, vs7, hrs7, hjs7⟩ := eS_at (own := RX8) (k := 217) (tx := "nesw") (bs := [110, 101, 115, 119]) hZ 8 rfl
    refine va_ldcS hx hb C.2.2.2.1 hrs7 dX8_isWay_8 ?_
    refine lv_iload_n hx hb dX8_isWay_10 rfl (lv_at hl 0 rfl) ?_
    refine prV (r := 101) C JP.blind (JP.recv hjs7 hS) (fun U hU hW => JP.use hjs7 hS hU hW) (kJ0_charAt_5068e l as7 vs7 [110, 101, 115, 119] 1 101 (by decide)) mJ0_charAt_5068e qLX8_219 ⟨rfl, rfl⟩ ⟨Nat.le_of_ble_eq_true rfl, Nat.le_of_ble_eq_true rfl⟩ rfl hl.1 rfl (Nat.le_of_ble_eq_true rfl) dX8_isWay_11 ⟨Nat.le_of_ble_eq_true rfl, Nat.le_of_ble_eq_true rfl⟩ ?_
    obtain ⟨q8, e9, h⟩ := bnd h
    refine wrVi (ws1 := [(a_m, .inr (8, [.ref a_ms, .ref a_mw, .ref a_mv, .ref a_mp, .ref a_mf, .int m_chg, .int m_thr, .int m_rea, .int m_det, .int m_ref, .int m_err, .int m_ans, .int m_sav, .int m_net, .ref a_ml, .int m_lin, .ref a_mt, .ref a_mc, .int m_tap, .int q8.2, .int m_cmd])), (a_mt, .inl (T 0, 60, .inl v_mt)), (a_mc, .inl (T 0, 124, .inl v_mc))]) C hE hP hD hS hA (kX8_isSign l D T a_m a_ms a_mw a_mv a_mp a_mf a_ml a_mt a_mc m_chg m_thr m_rea m_det m_ref m_err m_ans m_sav m_net m_lin m_tap q3.2 m_cmd v_mt 101 _ q8 e9) mX8_isSign qLX8_225 [0, 1] [2] 0 rfl rfl rfl rfl rfl rfl rfl rfl rfl ⟨rfl, rfl⟩ ⟨Nat.le_of_ble_eq_true rfl, Nat.le_of_ble_eq_true rfl⟩ rfl hl.1 rfl (Nat.le_of_ble_eq_true rfl) dX8_isWay_14 ⟨Nat.le_of_ble_eq_true rfl, Nat.le_of_ble_eq_true rfl⟩ (fun H locs hP hD hS => ?_)
    refine lv_if_eq (tgt := 29) hx hb dX8_isWay_17 (by decide) (fun c10 => ?_) (fun c10 => ?_)
    · have h := ite_t c10 h
      refine lv_iinc (v := 2) (lv' := [(2, .int 2), (0, .ref a_m), (1, .int p0)]) hx hb dX8_isWay_29 hl (k := 0) rfl rfl (by decide) rfl (fun ls hl => ?_)
      refine lv_goto (tgt := 2) hx hb dX8_isWay_32 (by decide) ?_
      refine lv_iload_n hx hb dX8_isWay_2 rfl (lv_at hl 0 rfl) ?_
      refine lv_iconst (v := 4) hx hb dX8_isWay_3 (by decide) ?_
      refine lv_icmp_ge (tgt := 35) hx hb dX8_isWay_4 (by decide) (fun c11 => absurd c11 (by decide)) (fun c11 => ?_)
      refine lv_aload_n hx hb dX8_isWay_7 rfl (lv_at hl 1 rfl) ?_
      obtain ⟨as12, vs12, hrs12, hjs12⟩ := eS_at (own := RX8) (k := 217) (tx := "nesw") (bs := [110, 101, 115, 119]) hZ 8 rfl
      refine va_ldcS hx hb C.2.2.2.1 hrs12 dX8_isWay_8 ?_
      refine lv_iload_n hx hb dX8_isWay_10 rfl (lv_at hl 0 rfl) ?_
      refine prV (r := 115) C JP.blind (JP.recv hjs12 hS) (fun U hU hW => JP.use hjs12 hS hU hW) (kJ0_charAt_5068e l as12 vs12 [110, 101, 115, 119] 2 115 (by decide)) mJ0_charAt_5068e qLX8_219 ⟨rfl, rfl⟩ ⟨Nat.le_of_ble_eq_true rfl, Nat.le_of_ble_eq_true rfl⟩ rfl hl.1 rfl (Nat.le_of_ble_eq_true rfl) dX8_isWay_11 ⟨Nat.le_of_ble_eq_true rfl, Nat.le_of_ble_eq_true rfl⟩ ?_
      obtain ⟨q13, e14, h⟩ := bnd h
      refine wrVi (ws1 := [(a_m, .inr (8, [.ref a_ms, .ref a_mw, .ref a_mv, .ref a_mp, .ref a_mf, .int m_chg, .int m_thr, .int m_rea, .int m_det, .int m_ref, .int m_err, .int m_ans, .int m_sav, .int m_net, .ref a_ml, .int m_lin, .ref a_mt, .ref a_mc, .int m_tap, .int q13.2, .int m_cmd])), (a_mt, .inl (T 0, 60, .inl v_mt)), (a_mc, .inl (T 0, 124, .inl v_mc))]) C hE hP hD hS hA (kX8_isSign l D T a_m a_ms a_mw a_mv a_mp a_mf a_ml a_mt a_mc m_chg m_thr m_rea m_det m_ref m_err m_ans m_sav m_net m_lin m_tap q8.2 m_cmd v_mt 115 _ q13 e14) mX8_isSign qLX8_225 [0, 1] [2] 0 rfl rfl rfl rfl rfl rfl rfl rfl rfl ⟨rfl, rfl⟩ ⟨Nat.le_of_ble_eq_true rfl, Nat.le_of_ble_eq_true rfl⟩ rfl hl.1 rfl (Nat.le_of_ble_eq_true rfl) dX8_isWay_14 ⟨Nat.le_of_ble_eq_true rfl, Nat.le_of_ble_eq_true rfl⟩ (fun H locs hP hD hS => ?_)
      refine lv_if_eq (tgt := 29) hx hb dX8_isWay_17 (by decide) (fun c15 => ?_) (fun c15 => ?_)
      · have h := ite_t c15 h
        refine lv_iinc (v := 3) (lv' := [(2, .int 3), (0, .ref a_m), (1, .int p0)]) hx hb dX8_isWay_29 hl (k := 0) rfl rfl (by decide) rfl (fun ls hl => ?_)
        refine lv_goto (tgt := 2) hx hb dX8_isWay_32 (by decide) ?_
        refine lv_iload_n hx hb dX8_isWay_2 rfl (lv_at hl 0 rfl) ?_
        refine lv_iconst (v := 4) hx hb dX8_isWay_3 (by decide) ?_
        refine lv_icmp_ge (tgt := 35) hx hb dX8_isWay_4 (by decide) (fun c16 => absurd c16 (by decide)) (fun c16 => ?_)
        refine lv_aload_n hx hb dX8_isWay_7 rfl (lv_at hl 1 rfl) ?_
        obtain ⟨as17, vs17, hrs17, hjs17⟩ := eS_at (own := RX8) (k := 217) (tx := "nesw") (bs := [110, 101, 115, 119]) hZ 8 rfl
        refine va_ldcS hx hb C.2.2.2.1 hrs17 dX8_isWay_8 ?_
        refine lv_iload_n hx hb dX8_isWay_10 rfl (lv_at hl 0 rfl) ?_
        refine prV (r := 119) C JP.blind (JP.recv hjs17 hS) (fun U hU hW => JP.use hjs17 hS hU hW) (kJ0_charAt_5068e l as17 vs17 [110, 101, 115, 119] 3 119 (by decide)) mJ0_charAt_5068e qLX8_219 ⟨rfl, rfl⟩ ⟨Nat.le_of_ble_eq_true rfl, Nat.le_of_ble_eq_true rfl⟩ rfl hl.1 rfl (Nat.le_of_ble_eq_true rfl) dX8_isWay_11 ⟨Nat.le_of_ble_eq_true rfl, Nat.le_of_ble_eq_true rfl⟩ ?_
        obtain ⟨q18, e19, h⟩ := bnd h
        refine wrVi (ws1 := [(a_m, .inr (8, [.ref a_ms, .ref a_mw, .ref a_mv, .ref a_mp, .ref a_mf, .int m_chg, .int m_thr, .int m_rea, .int m_det, .int m_ref, .int m_err, .int m_ans, .int m_sav, .int m_net, .ref a_ml, .int m_lin, .ref a_mt, .ref a_mc, .int m_tap, .int q18.2, .int m_cmd])), (a_mt, .inl (T 0, 60, .inl v_mt)), (a_mc, .inl (T 0, 124, .inl v_mc))]) C hE hP hD hS hA (kX8_isSign l D T a_m a_ms a_mw a_mv a_mp a_mf a_ml a_mt a_mc m_chg m_thr m_rea m_det m_ref m_err m_ans m_sav m_net m_lin m_tap q13.2 m_cmd v_mt 119 _ q18 e19) mX8_isSign qLX8_225 [0, 1] [2] 0 rfl rfl rfl rfl rfl rfl rfl rfl rfl ⟨rfl, rfl⟩ ⟨Nat.le_of_ble_eq_true rfl, Nat.le_of_ble_eq_true rfl⟩ rfl hl.1 rfl (Nat.le_of_ble_eq_true rfl) dX8_isWay_14 ⟨Nat.le_of_ble_eq_true rfl, Nat.le_of_ble_eq_true rfl⟩ (fun H locs hP hD hS => ?_)
        refine lv_if_eq (tgt := 29) hx hb dX8_isWay_17 (by decide) (fun c20 => ?_) (fun c20 => ?_)
        · have h := ite_t c20 h
          refine lv_iinc (v := 4) (lv' := [(2, .int 4), (0, .ref a_m), (1, .int p0)]) hx hb dX8_isWay_29 hl (k := 0) rfl rfl (by decide) rfl (fun ls hl => ?_)
          refine lv_goto (tgt := 2) hx hb dX8_isWay_32 (by decide) ?_
          refine lv_iload_n hx hb dX8_isWay_2 rfl (lv_at hl 0 rfl) ?_
          refine lv_iconst (v := 4) hx hb dX8_isWay_3 (by decide) ?_
          refine lv_icmp_ge (tgt := 35) hx hb dX8_isWay_4 (by decide) (fun c21 => ?_) (fun c21 => absurd c21 (by decide))
          refine lv_iconst (v := 0) hx hb dX8_isWay_35 (by decide) ?_
          have h := Option.some.inj h
          exact hret.1 _ _ _ _ _ _ _ _ (Nat.le_of_ble_eq_true rfl) (Nat.le_of_ble_eq_true rfl) dX8_isWay_36 rfl (by rw [← h]) (by rw [← h] <;> rfl) (by rw [← h]; exact hP) hS
        · have h := ite_f c20 h
          refine lv_aload_n hx hb dX8_isWay_20 rfl (lv_at hl 1 rfl) ?_
          refine getF (q0 := 0) (k0 := 17) (v := .ref a_mc) C hE hP inA8 rfl rfl (by decide) qFX8_38 rfl rfl dX8_isWay_21 ?_
          refine lv_iload_n hx hb dX8_isWay_24 rfl (lv_at hl 2 rfl) ?_
          refine lv_iload_n hx hb dX8_isWay_25 rfl (lv_at hl 0 rfl) ?_
          obtain ⟨g22, h⟩ := gd h
          refine astI (q0 := 2) (ws1 := [(a_m, .inr (8, [.ref a_ms, .ref a_mw, .ref a_mv, .ref a_mp, .ref a_mf, .int m_chg, .int m_thr, .int m_rea, .int m_det, .int m_ref, .int m_err, .int m_ans, .int m_sav, .int m_net, .ref a_ml, .int m_lin, .ref a_mt, .ref a_mc, .int m_tap, .int q18.2, .int m_cmd])), (a_mt, .inl (T 0, 60, .inl v_mt)), (a_mc, .inl (T 0, 124, .inl (upd v_mc p0.toNatClampNeg 3)))]) C hE hP hD hS rfl g22 rfl dX8_isWay_26 (fun H locs hP hD hS => ?_)
          refine lv_iconst (v := 1) hx hb dX8_isWay_27 (by decide) ?_
          have h := Option.some.inj h
          exact hret.1 _ _ _ _ _ _ _ _ (Nat.le_of_ble_eq_true rfl) (Nat.le_of_ble_eq_true rfl) dX8_isWay_28 rfl (by rw [← h]) (by rw [← h] <;> rfl) (by rw [← h]; exact hP) hS
      · have h := ite_f c15 h
        refine lv_aload_n hx hb dX8_isWay_20 rfl (lv_at hl 1 rfl) ?_
        refine getF (q0 := 0) (k0 := 17) (v := .ref a_mc) C hE hP inA8 rfl rfl (by decide) qFX8_38 rfl rfl dX8_isWay_21 ?_
        refine lv_iload_n hx hb dX8_isWay_24 rfl (lv_at hl 2 rfl) ?_
        refine lv_iload_n hx hb dX8_isWay_25 rfl (lv_at hl 0 rfl) ?_
        obtain ⟨g23, h⟩ := gd h
        refine astI (q0 := 2) (ws1 := [(a_m, .inr (8, [.ref a_ms, .ref a_mw, .ref a_mv, .ref a_mp, .ref a_mf, .int m_chg, .int m_thr, .int m_rea, .int m_det, .int m_ref, .int m_err, .int m_ans, .int m_sav, .int m_net, .ref a_ml, .int m_lin, .ref a_mt, .ref a_mc, .int m_tap, .int q13.2, .int m_cmd])), (a_mt, .inl (T 0, 60, .inl v_mt)), (a_mc, .inl (T 0, 124, .inl (upd v_mc p0.toNatClampNeg 2)))]) C hE hP hD hS rfl g23 rfl dX8_isWay_26 (fun H locs hP hD hS => ?_)
        refine lv_iconst (v := 1) hx hb dX8_isWay_27 (by decide) ?_
        have h := Option.some.inj h
        exact hret.1 _ _ _ _ _ _ _ _ (Nat.le_of_ble_eq_true rfl) (Nat.le_of_ble_eq_true rfl) dX8_isWay_28 rfl (by rw [← h]) (by rw [← h] <;> rfl) (by rw [← h]; exact hP) hS
    · have h := ite_f c10 h
      refine lv_aload_n hx hb dX8_isWay_20 rfl (lv_at hl 1 rfl) ?_
      refine getF (q0 := 0) (k0 := 17) (v := .ref a_mc) C hE hP inA8 rfl rfl (by decide) qFX8_38 rfl rfl dX8_isWay_21 ?_
      refine lv_iload_n hx hb dX8_isWay_24 rfl (lv_at hl 2 rfl) ?_
      refine lv_iload_n hx hb dX8_isWay_25 rfl (lv_at hl 0 rfl) ?_
      obtain ⟨g24, h⟩ := gd h
      refine astI (q0 := 2) (ws1 := [(a_m, .inr (8, [.ref a_ms, .ref a_mw, .ref a_mv, .ref a_mp, .ref a_mf, .int m_chg, .int m_thr, .int m_rea, .int m_det, .int m_ref, .int m_err, .int m_ans, .int m_sav, .int m_net, .ref a_ml, .int m_lin, .ref a_mt, .ref a_mc, .int m_tap, .int q8.2, .int m_cmd])), (a_mt, .inl (T 0, 60, .inl v_mt)), (a_mc, .inl (T 0, 124, .inl (upd v_mc p0.toNatClampNeg 1)))]) C hE hP hD hS rfl g24 rfl dX8_isWay_26 (fun H locs hP hD hS => ?_)
      refine lv_iconst (v := 1) hx hb dX8_isWay_27 (by decide) ?_
      have h := Option.some.inj h
      exact hret.1 _ _ _ _ _ _ _ _ (Nat.le_of_ble_eq_true rfl) (Nat.le_of_ble_eq_true rfl) dX8_isWay_28 rfl (by rw [← h]) (by rw [← h] <;> rfl) (by rw [← h]; exact hP) hS
  · have h := ite_f c5 h
    refine lv_aload_n hx hb dX8_isWay_20 rfl (lv_at hl 1 rfl) ?_
    refine getF (q0 := 0) (k0 := 17) (v := .ref a_mc) C hE hP inA8 rfl rfl (by decide) qFX8_38 rfl rfl dX8_isWay_21 ?_
    refine lv_iload_n hx hb dX8_isWay_24 rfl (lv_at hl 2 rfl) ?_
    refine lv_iload_n hx hb dX8_isWay_25 rfl (lv_at hl 0 rfl) ?_
    obtain ⟨g25, h⟩ := gd h
    refine astI (q0 := 2) (ws1 := [(a_m, .inr (8, [.ref a_ms, .ref a_mw, .ref a_mv, .ref a_mp, .ref a_mf, .int m_chg, .int m_thr, .int m_rea, .int m_det, .int m_ref, .int m_err, .int m_ans, .int m_sav, .int m_net, .ref a_ml, .int m_lin, .ref a_mt, .ref a_mc, .int m_tap, .int q3.2, .int m_cmd])), (a_mt, .inl (T 0, 60, .inl v_mt)), (a_mc, .inl (T 0, 124, .inl (upd v_mc p0.toNatClampNeg 0)))]) C hE hP hD hS rfl g25 rfl dX8_isWay_26 (fun H locs hP hD hS => ?_)
    refine lv_iconst (v := 1) hx hb dX8_isWay_27 (by decide) ?_
    have h := Option.some.inj h
    exact hret.1 _ _ _ _ _ _ _ _ (Nat.le_of_ble_eq_true rfl) (Nat.le_of_ble_eq_true rfl) dX8_isWay_28 rfl (by rw [← h]) (by rw [← h] <;> rfl) (by rw [← h]; exact hP) hS

def fX8_readsCommand (m_tap : Int32) (m_her : Int32) (m_cmd : Int32) (v_mt : Nat → Int32) (v_mc : Nat → Int32) : Option (Nat × Int32 × Int32 × Int32 × (Nat → Int32)) :=
  (fX8_sign m_tap m_her v_mt).bind fun q1 =>
  if (fX8_isKind q1) = 0 then
    some (0, 0, m_her, m_cmd, v_mc)
  else
    if vin (4 * m_cmd) 124 = true then
    if q1 = 98 then
      (fX8_isNumber m_tap (m_her + 1) v_mt (upd v_mc (4 * m_cmd).toNatClampNeg q1) 1 ((4 * m_cmd) + 1)).bind fun q6 =>
      if q6.1 = 0 then
        some (0, 0, q6.2.1, (m_cmd + 1), q6.2.2)
      else
        (fX8_isNumber m_tap q6.2.1 v_mt q6.2.2 1 ((4 * m_cmd) + 2)).bind fun q9 =>
        if q9.1 = 0 then
          some (0, 0, q9.2.1, (m_cmd + 1), q9.2.2)
        else
          some (0, 1, q9.2.1, (m_cmd + 1), q9.2.2)
    else
      if q1 = 107 then
        (fX8_isNumber m_tap (m_her + 1) v_mt (upd v_mc (4 * m_cmd).toNatClampNeg q1) 1 ((4 * m_cmd) + 1)).bind fun q13 =>
        if q13.1 = 0 then
          some (0, 0, q13.2.1, (m_cmd + 1), q13.2.2)
        else
          (fX8_isWay m_tap q13.2.1 v_mt q13.2.2 ((4 * m_cmd) + 2)).bind fun q16 =>
          if q16.1 = 0 then
            if q16.2.1 = 0 then
              some (0, 0, q16.2.2.1, (m_cmd + 1), q16.2.2.2)
            else
              (fX8_isNumber m_tap q16.2.2.1 v_mt q16.2.2.2 1 ((4 * m_cmd) + 3)).bind fun q19 =>
              if q19.1 = 0 then
                some (0, 0, q19.2.1, (m_cmd + 1), q19.2.2)
              else
                some (0, 1, q19.2.1, (m_cmd + 1), q19.2.2)
          else
            some (q16.1, 0, q16.2.2.1, (m_cmd + 1), q16.2.2.2)
      else
        if q1 = 109 then
          (fX8_isNumber m_tap (m_her + 1) v_mt (upd v_mc (4 * m_cmd).toNatClampNeg q1) 1 ((4 * m_cmd) + 1)).bind fun q23 =>
          if q23.1 = 0 then
            some (0, 0, q23.2.1, (m_cmd + 1), q23.2.2)
          else
            (fX8_isSign m_tap q23.2.1 v_mt 64).bind fun q26 =>
            if q26.1 = 0 then
              some (0, 0, q26.2, (m_cmd + 1), q23.2.2)
            else
              (fX8_isNumber m_tap q26.2 v_mt q23.2.2 2 ((4 * m_cmd) + 2)).bind fun q29 =>
              if q29.1 = 0 then
                some (0, 0, q29.2.1, (m_cmd + 1), q29.2.2)
              else
                some (0, 1, q29.2.1, (m_cmd + 1), q29.2.2)
        else
          if q1 = 111 then
            (fX8_isNumber m_tap (m_her + 1) v_mt (upd v_mc (4 * m_cmd).toNatClampNeg q1) 1 ((4 * m_cmd) + 1)).bind fun q33 =>
            some (0, (q33.1 &&& 1), q33.2.1, (m_cmd + 1), q33.2.2)
          else
            if q1 = 119 then
              (fX8_isNumber m_tap (m_her + 1) v_mt (upd v_mc (4 * m_cmd).toNatClampNeg q1) 1 ((4 * m_cmd) + 1)).bind fun q36 =>
              if q36.1 = 0 then
                some (0, 0, q36.2.1, (m_cmd + 1), q36.2.2)
              else
                (fX8_isNumber m_tap q36.2.1 v_mt q36.2.2 1 ((4 * m_cmd) + 2)).bind fun q39 =>
                if q39.1 = 0 then
                  some (0, 0, q39.2.1, (m_cmd + 1), q39.2.2)
                else
                  (fX8_isNumber m_tap q39.2.1 v_mt q39.2.2 1 ((4 * m_cmd) + 3)).bind fun q42 =>
                  if q42.1 = 0 then
                    some (0, 0, q42.2.1, (m_cmd + 1), q42.2.2)
                  else
                    some (0, 1, q42.2.1, (m_cmd + 1), q42.2.2)
            else
              some (0, 1, (m_her + 1), (m_cmd + 1), (upd v_mc (4 * m_cmd).toNatClampNeg q1))
    else none
set_option maxHeartbeats 4000000 in
set_option maxRecDepth 100000 in
theorem kX8_readsCommand (l : Launch) (hnt : l.stackTraces = false) (D : va_G) (T : Nat → ClassId) (a_m a_ms a_mw a_mv a_mp a_mf a_ml a_mt a_mc : Nat) (m_chg : Int32) (m_thr : Int32) (m_rea : Int32) (m_det : Int32) (m_ref : Int32) (m_err : Int32) (m_ans : Int32) (m_sav : Int32) (m_net : Int32) (m_lin : Int32) (m_tap : Int32) (m_her : Int32) (m_cmd : Int32) (v_mt : Nat → Int32) (v_mc : Nat → Int32) (sz : Nat) (r : Nat × Int32 × Int32 × Int32 × (Nat → Int32)) (h : fX8_readsCommand m_tap m_her m_cmd v_mt v_mc = some r) : ThI l yX8_readsCommand cX8_readsCommand 3 .boolean ({ frames := 5, cells := 0, slots := 0, locals := 107 } : Room) D T sz [(a_m, .inr (8, [.ref a_ms, .ref a_mw, .ref a_mv, .ref a_mp, .ref a_mf, .int m_chg, .int m_thr, .int m_rea, .int m_det, .int m_ref, .int m_err, .int m_ans, .int m_sav, .int m_net, .ref a_ml, .int m_lin, .ref a_mt, .ref a_mc, .int m_tap, .int m_her, .int m_cmd])), (a_mt, .inl (T 0, 60, .inl v_mt)), (a_mc, .inl (T 0, 124, .inl v_mc))] [(a_m, .inr (8, [.ref a_ms, .ref a_mw, .ref a_mv, .ref a_mp, .ref a_mf, .int m_chg, .int m_thr, .int m_rea, .int m_det, .int m_ref, .int m_err, .int m_ans, .int m_sav, .int m_net, .ref a_ml, .int m_lin, .ref a_mt, .ref a_mc, .int m_tap, .int r.2.2.1, .int r.2.2.2.1])), (a_mt, .inl (T 0, 60, .inl v_mt)), (a_mc, .inl (T 0, 124, .inl r.2.2.2.2))] [.ref a_m] r.1 r.2.1 := by
  unfold fX8_readsCommand at h
  refine thMetI hnt (by decide +kernel) rfl (fun p e s m args below meth c Q A C hE hA hZ hP hD hS hret ls hl => ?_)
  have hx := C.1
  have hb := C.2.1
  have hl : lv_has ls 3 [(0, .ref a_m)] := hl
  refine lv_iconst (v := 4) hx hb dX8_readsCommand_0 (by decide) ?_
  refine lv_aload_n hx hb dX8_readsCommand_1 rfl (lv_at hl 0 rfl) ?_
  refine getF (q0 := 0) (k0 := 20) (v := .int m_cmd) C hE hP inA8 rfl rfl (by decide) qFX8_228 rfl rfl dX8_readsCommand_2 ?_
  refine lv_imul hx hb dX8_readsCommand_5 ?_
  refine lv_istore_n (lv' := [(1, .int (4 * m_cmd)), (0, .ref a_m)]) hx hb dX8_readsCommand_6 rfl hl (by decide) rfl (fun ls hl => ?_)
  refine lv_aload_n hx hb dX8_readsCommand_7 rfl (lv_at hl 1 rfl) ?_
  obtain ⟨q1, e2, h⟩ := bnd h
  refine rdV C hE hP (kX8_sign l D T a_m a_ms a_mw a_mv a_mp a_mf a_ml a_mt a_mc m_chg m_thr m_rea m_det m_ref m_err m_ans m_sav m_net m_lin m_tap m_her m_cmd v_mt q1 e2) mX8_sign qLX8_214 [0, 1] 0 rfl rfl rfl rfl ⟨rfl, rfl⟩ ⟨Nat.le_of_ble_eq_true rfl, Nat.le_of_ble_eq_true rfl⟩ rfl hl.1 rfl (Nat.le_of_ble_eq_true rfl) dX8_readsCommand_8 ⟨Nat.le_of_ble_eq_true rfl, Nat.le_of_ble_eq_true rfl⟩ ?_
  refine lv_istore_n (lv' := [(2, .int q1), (1, .int (4 * m_cmd)), (0, .ref a_m)]) hx hb dX8_readsCommand_11 rfl hl (by decide) rfl (fun ls hl => ?_)
  refine lv_iload_n hx hb dX8_readsCommand_12 rfl (lv_at hl 0 rfl) ?_
  refine rdS C hE hP (kX8_isKind l D T q1) mX8_isKind qLX8_231 [] rfl ⟨rfl, rfl⟩ ⟨Nat.le_of_ble_eq_true rfl, Nat.le_of_ble_eq_true rfl⟩ rfl hl.1 rfl (Nat.le_of_ble_eq_true rfl) dX8_readsCommand_13 ⟨Nat.le_of_ble_eq_true rfl, Nat.le_of_ble_eq_true rfl⟩ ?_
  refine lv_if_ne (tgt := 21) hx hb dX8_readsCommand_16 (by decide) (fun c3 => ?_) (fun c3 => ?_)
  · have h := ite_f c3 h
    refine lv_aload_n hx hb dX8_readsCommand_21 rfl (lv_at hl 2 rfl) ?_
    refine getF (q0 := 0) (k0 := 17) (v := .ref a_mc) C hE hP inA8 rfl rfl (by decide) qFX8_38 rfl rfl dX8_readsCommand_22 ?_
    refine lv_iload_n hx hb dX8_readsCommand_25 rfl (lv_at hl 1 rfl) ?_
    refine lv_iload_n hx hb dX8_readsCommand_26 rfl (lv_at hl 0 rfl) ?_
    obtain ⟨g4, h⟩ := gd h
    refine astI (q0 := 2) (ws1 := [(a_m, .inr (8, [.ref a_ms, .ref a_mw, .ref a_mv, .ref a_mp, .ref a_mf, .int m_chg, .int m_thr, .int m_rea, .int m_det, .int m_ref, .int m_err, .int m_ans, .int m_sav, .int m_net, .ref a_ml, .int m_lin, .ref a_mt, .ref a_mc, .int m_tap, .int m_her, .int m_cmd])), (a_mt, .inl (T 0, 60, .inl v_mt)), (a_mc, .inl (T 0, 124, .inl (upd v_mc (4 * m_cmd).toNatClampNeg q1)))]) C hE hP hD hS rfl g4 rfl dX8_readsCommand_27 (fun H locs hP hD hS => ?_)
    refine lv_aload_n hx hb dX8_readsCommand_28 rfl (lv_at hl 2 rfl) ?_
    refine lv_dup hx hb dX8_readsCommand_29 rfl ?_
    refine getF (q0 := 0) (k0 := 19) (v := .int m_her) C hE hP inA8 rfl rfl (by decide) qFX8_211 rfl rfl dX8_readsCommand_30 ?_
    refine lv_iconst (v := 1) hx hb dX8_readsCommand_33 (by decide) ?_
    refine lv_iadd hx hb dX8_readsCommand_34 ?_
    refine putF (q0 := 0) (k0 := 19) (ws1 := [(a_m, .inr (8, [.ref a_ms, .ref a_mw, .ref a_mv, .ref a_mp, .ref a_mf, .int m_chg, .int m_thr, .int m_rea, .int m_det, .int m_ref, .int m_err, .int m_ans, .int m_sav, .int m_net, .ref a_ml, .int m_lin, .ref a_mt, .ref a_mc, .int m_tap, .int (m_her + 1), .int m_cmd])), (a_mt, .inl (T 0, 60, .inl v_mt)), (a_mc, .inl (T 0, 124, .inl (upd v_mc (4 * m_cmd).toNatClampNeg q1)))]) C hE hP hD hS inA8 tyX8_ok nmX8 rfl rfl (by decide) qFX8_211 rfl rfl rfl rfl (Nat.le_of_ble_eq_true rfl) rfl dX8_readsCommand_35 (fun H locs hP hD hS => ?_)
    refine lv_aload_n hx hb dX8_readsCommand_38 rfl (lv_at hl 2 rfl) ?_
    refine lv_dup hx hb dX8_readsCommand_39 rfl ?_
    refine getF (q0 := 0) (k0 := 20) (v := .int m_cmd) C hE hP inA8 rfl rfl (by decide) qFX8_228 rfl rfl dX8_readsCommand_40 ?_
    refine lv_iconst (v := 1) hx hb dX8_readsCommand_43 (by decide) ?_
    refine lv_iadd hx hb dX8_readsCommand_44 ?_
    refine putF (q0 := 0) (k0 := 20) (ws1 := [(a_m, .inr (8, [.ref a_ms, .ref a_mw, .ref a_mv, .ref a_mp, .ref a_mf, .int m_chg, .int m_thr, .int m_rea, .int m_det, .int m_ref, .int m_err, .int m_ans, .int m_sav, .int m_net, .ref a_ml, .int m_lin, .ref a_mt, .ref a_mc, .int m_tap, .int (m_her + 1), .int (m_cmd + 1)])), (a_mt, .inl (T 0, 60, .inl v_mt)), (a_mc, .inl (T 0, 124, .inl (upd v_mc (4 * m_cmd).toNatClampNeg q1)))]) C hE hP hD hS inA8 tyX8_ok nmX8 rfl rfl (by decide) qFX8_228 rfl rfl rfl rfl (Nat.le_of_ble_eq_true rfl) rfl dX8_readsCommand_45 (fun H locs hP hD hS => ?_)
    refine lv_iload_n hx hb dX8_readsCommand_48 rfl (lv_at hl 0 rfl) ?_
    by_cases c5 : q1 = 98
    · have h := ite_t c5 h
      refine lv_lookup (off := 174) (tgt := 223) hx hb dX8_readsCommand_49 (by decide) (by rw [c5] <;> rfl) (by decide) ?_
      refine lv_aload_n hx hb dX8_readsCommand_223 rfl (lv_at hl 2 rfl) ?_
      refine lv_iconst (v := 1) hx hb dX8_readsCommand_224 (by decide) ?_
      refine lv_iload_n hx hb dX8_readsCommand_225 rfl (lv_at hl 1 rfl) ?_
      refine lv_iconst (v := 1) hx hb dX8_readsCommand_226 (by decide) ?_
      refine lv_iadd hx hb dX8_readsCommand_227 ?_
      obtain ⟨q6, e7, h⟩ := bnd h
      refine wrVi (ws1 := [(a_m, .inr (8, [.ref a_ms, .ref a_mw, .ref a_mv, .ref a_mp, .ref a_mf, .int m_chg, .int m_thr, .int m_rea, .int m_det, .int m_ref, .int m_err, .int m_ans, .int m_sav, .int m_net, .ref a_ml, .int m_lin, .ref a_mt, .ref a_mc, .int m_tap, .int q6.2.1, .int (m_cmd + 1)])), (a_mt, .inl (T 0, 60, .inl v_mt)), (a_mc, .inl (T 0, 124, .inl q6.2.2))]) C hE hP hD hS hA (kX8_isNumber l D T a_m a_ms a_mw a_mv a_mp a_mf a_ml a_mt a_mc m_chg m_thr m_rea m_det m_ref m_err m_ans m_sav m_net m_lin m_tap (m_her + 1) (m_cmd + 1) v_mt (upd v_mc (4 * m_cmd).toNatClampNeg q1) 1 ((4 * m_cmd) + 1) _ q6 e7) mX8_isNumber qLX8_234 [0, 1, 2] [] 0 rfl rfl rfl rfl rfl rfl rfl rfl rfl ⟨rfl, rfl⟩ ⟨Nat.le_of_ble_eq_true rfl, Nat.le_of_ble_eq_true rfl⟩ rfl hl.1 rfl (Nat.le_of_ble_eq_true rfl) dX8_readsCommand_228 ⟨Nat.le_of_ble_eq_true rfl, Nat.le_of_ble_eq_true rfl⟩ (fun H locs hP hD hS => ?_)
      refine lv_if_eq (tgt := 249) hx hb dX8_readsCommand_231 (by decide) (fun c8 => ?_) (fun c8 => ?_)
      · have h := ite_t c8 h
        refine lv_iconst (v := 0) hx hb dX8_readsCommand_249 (by decide) ?_
        have h := Option.some.inj h
        exact hret.1 _ _ _ _ _ _ _ _ (Nat.le_of_ble_eq_true rfl) (Nat.le_of_ble_eq_true rfl) dX8_readsCommand_250 rfl (by rw [← h]) (by rw [← h] <;> rfl) (by rw [← h]; exact hP) hS
      · have h := ite_f c8 h
        refine lv_aload_n hx hb dX8_readsCommand_234 rfl (lv_at hl 2 rfl) ?_
        refine lv_iconst (v := 1) hx hb dX8_readsCommand_235 (by decide) ?_
        refine lv_iload_n hx hb dX8_readsCommand_236 rfl (lv_at hl 1 rfl) ?_
        refine lv_iconst (v := 2) hx hb dX8_readsCommand_237 (by decide) ?_
        refine lv_iadd hx hb dX8_readsCommand_238 ?_
        obtain ⟨q9, e10, h⟩ := bnd h
        refine wrVi (ws1 := [(a_m, .inr (8, [.ref a_ms, .ref a_mw, .ref a_mv, .ref a_mp, .ref a_mf, .int m_chg, .int m_thr, .int m_rea, .int m_det, .int m_ref, .int m_err, .int m_ans, .int m_sav, .int m_net, .ref a_ml, .int m_lin, .ref a_mt, .ref a_mc, .int m_tap, .int q9.2.1, .int (m_cmd + 1)])), (a_mt, .inl (T 0, 60, .inl v_mt)), (a_mc, .inl (T 0, 124, .inl q9.2.2))]) C hE hP hD hS hA (kX8_isNumber l D T a_m a_ms a_mw a_mv a_mp a_mf a_ml a_mt a_mc m_chg m_thr m_rea m_det m_ref m_err m_ans m_sav m_net m_lin m_tap q6.2.1 (m_cmd + 1) v_mt q6.2.2 1 ((4 * m_cmd) + 2) _ q9 e10) mX8_isNumber qLX8_234 [0, 1, 2] [] 0 rfl rfl rfl rfl rfl rfl rfl rfl rfl ⟨rfl, rfl⟩ ⟨Nat.le_of_ble_eq_true rfl, Nat.le_of_ble_eq_true rfl⟩ rfl hl.1 rfl (Nat.le_of_ble_eq_true rfl) dX8_readsCommand_239 ⟨Nat.le_of_ble_eq_true rfl, Nat.le_of_ble_eq_true rfl⟩ (fun H locs hP hD hS => ?_)
        refine lv_if_eq (tgt := 249) hx hb dX8_readsCommand_242 (by decide) (fun c11 => ?_) (fun c11 => ?_)
        · have h := ite_t c11 h
          refine lv_iconst (v := 0) hx hb dX8_readsCommand_249 (by decide) ?_
          have h := Option.some.inj h
          exact hret.1 _ _ _ _ _ _ _ _ (Nat.le_of_ble_eq_true rfl) (Nat.le_of_ble_eq_true rfl) dX8_readsCommand_250 rfl (by rw [← h]) (by rw [← h] <;> rfl) (by rw [← h]; exact hP) hS
        · have h := ite_f c11 h
          refine lv_iconst (v := 1) hx hb dX8_readsCommand_245 (by decide) ?_
          refine lv_goto (tgt := 250) hx hb dX8_readsCommand_246 (by decide) ?_
          have h := Option.some.inj h
          exact hret.1 _ _ _ _ _ _ _ _ (Nat.le_of_ble_eq_true rfl) (Nat.le_of_ble_eq_true rfl) dX8_readsCommand_250 rfl (by rw [← h]) (by rw [← h] <;> rfl) (by rw [← h]; exact hP) hS
    · have h := ite_f c5 h
      by_cases c12 : q1 = 107
      · have h := ite_t c12 h
        refine lv_lookup (off := 127) (tgt := 176) hx hb dX8_readsCommand_49 (by decide) (by rw [c12] <;> rfl) (by decide) ?_
        refine lv_aload_n hx hb dX8_readsCommand_176 rfl (lv_at hl 2 rfl) ?_
        refine lv_iconst (v := 1) hx hb dX8_readsCommand_177 (by decide) ?_
        refine lv_iload_n hx hb dX8_readsCommand_178 rfl (lv_at hl 1 rfl) ?_
        refine lv_iconst (v := 1) hx hb dX8_readsCommand_179 (by decide) ?_
        refine lv_iadd hx hb dX8_readsCommand_180 ?_
        obtain ⟨q13, e14, h⟩ := bnd h
        refine wrVi (ws1 := [(a_m, .inr (8, [.ref a_ms, .ref a_mw, .ref a_mv, .ref a_mp, .ref a_mf, .int m_chg, .int m_thr, .int m_rea, .int m_det, .int m_ref, .int m_err, .int m_ans, .int m_sav, .int m_net, .ref a_ml, .int m_lin, .ref a_mt, .ref a_mc, .int m_tap, .int q13.2.1, .int (m_cmd + 1)])), (a_mt, .inl (T 0, 60, .inl v_mt)), (a_mc, .inl (T 0, 124, .inl q13.2.2))]) C hE hP hD hS hA (kX8_isNumber l D T a_m a_ms a_mw a_mv a_mp a_mf a_ml a_mt a_mc m_chg m_thr m_rea m_det m_ref m_err m_ans m_sav m_net m_lin m_tap (m_her + 1) (m_cmd + 1) v_mt (upd v_mc (4 * m_cmd).toNatClampNeg q1) 1 ((4 * m_cmd) + 1) _ q13 e14) mX8_isNumber qLX8_234 [0, 1, 2] [] 0 rfl rfl rfl rfl rfl rfl rfl rfl rfl ⟨rfl, rfl⟩ ⟨Nat.le_of_ble_eq_true rfl, Nat.le_of_ble_eq_true rfl⟩ rfl hl.1 rfl (Nat.le_of_ble_eq_true rfl) dX8_readsCommand_181 ⟨Nat.le_of_ble_eq_true rfl, Nat.le_of_ble_eq_true rfl⟩ (fun H locs hP hD hS => ?_)
        refine lv_if_eq (tgt := 212) hx hb dX8_readsCommand_184 (by decide) (fun c15 => ?_) (fun c15 => ?_)
        · have h := ite_t c15 h
          refine lv_iconst (v := 0) hx hb dX8_readsCommand_212 (by decide) ?_
          have h := Option.some.inj h
          exact hret.1 _ _ _ _ _ _ _ _ (Nat.le_of_ble_eq_true rfl) (Nat.le_of_ble_eq_true rfl) dX8_readsCommand_213 rfl (by rw [← h]) (by rw [← h] <;> rfl) (by rw [← h]; exact hP) hS
        · have h := ite_f c15 h
          refine lv_aload_n hx hb dX8_readsCommand_187 rfl (lv_at hl 2 rfl) ?_
          refine lv_iload_n hx hb dX8_readsCommand_188 rfl (lv_at hl 1 rfl) ?_
          refine lv_iconst (v := 2) hx hb dX8_readsCommand_189 (by decide) ?_
          refine lv_iadd hx hb dX8_readsCommand_190 ?_
          obtain ⟨q16, e17, h⟩ := bnd h
          refine thVi (ws1 := [(a_m, .inr (8, [.ref a_ms, .ref a_mw, .ref a_mv, .ref a_mp, .ref a_mf, .int m_chg, .int m_thr, .int m_rea, .int m_det, .int m_ref, .int m_err, .int m_ans, .int m_sav, .int m_net, .ref a_ml, .int m_lin, .ref a_mt, .ref a_mc, .int m_tap, .int q16.2.2.1, .int (m_cmd + 1)])), (a_mt, .inl (T 0, 60, .inl v_mt)), (a_mc, .inl (T 0, 124, .inl q16.2.2.2))]) C hE hZ hP hD hS hA (kX8_isWay l hZ.1 D T a_m a_ms a_mw a_mv a_mp a_mf a_ml a_mt a_mc m_chg m_thr m_rea m_det m_ref m_err m_ans m_sav m_net m_lin m_tap q13.2.1 (m_cmd + 1) v_mt q13.2.2 ((4 * m_cmd) + 2) _ q16 e17) mX8_isWay qLX8_237 [0, 1, 2] [] 0 rfl rfl rfl rfl rfl rfl rfl rfl rfl ⟨Nat.le_of_ble_eq_true rfl, Nat.le_of_ble_eq_true rfl⟩ rfl hl.1 rfl (Nat.le_of_ble_eq_true rfl) dX8_readsCommand_191 ⟨Nat.le_of_ble_eq_true rfl, Nat.le_of_ble_eq_true rfl⟩ (fun hx0 H locs ce q9 hP hD hS g1 g2 g3 => ?_) (fun hx0 H locs hP hD hS => ?_)
          · have h := ite_f (Nat.ne_of_gt hx0) h
            have h := Option.some.inj h
            exact hret.2.1 _ _ _ _ _ _ _ _ _ (Nat.le_of_ble_eq_true rfl) (Nat.le_of_ble_eq_true rfl) (by rw [← h]; exact hx0) (by rw [← h]; exact hP) hS g1 g2 (by rw [← h]; exact g3)
          · have h := ite_t hx0 h
            refine lv_if_eq (tgt := 212) hx hb dX8_readsCommand_194 (by decide) (fun c18 => ?_) (fun c18 => ?_)
            · have h := ite_t c18 h
              refine lv_iconst (v := 0) hx hb dX8_readsCommand_212 (by decide) ?_
              have h := Option.some.inj h
              exact hret.1 _ _ _ _ _ _ _ _ (Nat.le_of_ble_eq_true rfl) (Nat.le_of_ble_eq_true rfl) dX8_readsCommand_213 rfl (by rw [← h]) (by rw [← h] <;> rfl) (by rw [← h]; exact hP) hS
            · have h := ite_f c18 h
              refine lv_aload_n hx hb dX8_readsCommand_197 rfl (lv_at hl 2 rfl) ?_
              refine lv_iconst (v := 1) hx hb dX8_readsCommand_198 (by decide) ?_
              refine lv_iload_n hx hb dX8_readsCommand_199 rfl (lv_at hl 1 rfl) ?_
              refine lv_iconst (v := 3) hx hb dX8_readsCommand_200 (by decide) ?_
              refine lv_iadd hx hb dX8_readsCommand_201 ?_
              obtain ⟨q19, e20, h⟩ := bnd h
              refine wrVi (ws1 := [(a_m, .inr (8, [.ref a_ms, .ref a_mw, .ref a_mv, .ref a_mp, .ref a_mf, .int m_chg, .int m_thr, .int m_rea, .int m_det, .int m_ref, .int m_err, .int m_ans, .int m_sav, .int m_net, .ref a_ml, .int m_lin, .ref a_mt, .ref a_mc, .int m_tap, .int q19.2.1, .int (m_cmd + 1)])), (a_mt, .inl (T 0, 60, .inl v_mt)), (a_mc, .inl (T 0, 124, .inl q19.2.2))]) C hE hP hD hS hA (kX8_isNumber l D T a_m a_ms a_mw a_mv a_mp a_mf a_ml a_mt a_mc m_chg m_thr m_rea m_det m_ref m_err m_ans m_sav m_net m_lin m_tap q16.2.2.1 (m_cmd + 1) v_mt q16.2.2.2 1 ((4 * m_cmd) + 3) _ q19 e20) mX8_isNumber qLX8_234 [0, 1, 2] [] 0 rfl rfl rfl rfl rfl rfl rfl rfl rfl ⟨rfl, rfl⟩ ⟨Nat.le_of_ble_eq_true rfl, Nat.le_of_ble_eq_true rfl⟩ rfl hl.1 rfl (Nat.le_of_ble_eq_true rfl) dX8_readsCommand_202 ⟨Nat.le_of_ble_eq_true rfl, Nat.le_of_ble_eq_true rfl⟩ (fun H locs hP hD hS => ?_)
              refine lv_if_eq (tgt := 212) hx hb dX8_readsCommand_205 (by decide) (fun c21 => ?_) (fun c21 => ?_)
              · have h := ite_t c21 h
                refine lv_iconst (v := 0) hx hb dX8_readsCommand_212 (by decide) ?_
                have h := Option.some.inj h
                exact hret.1 _ _ _ _ _ _ _ _ (Nat.le_of_ble_eq_true rfl) (Nat.le_of_ble_eq_true rfl) dX8_readsCommand_213 rfl (by rw [← h]) (by rw [← h] <;> rfl) (by rw [← h]; exact hP) hS
              · have h := ite_f c21 h
                refine lv_iconst (v := 1) hx hb dX8_readsCommand_208 (by decide) ?_
                refine lv_goto (tgt := 213) hx hb dX8_readsCommand_209 (by decide) ?_
                have h := Option.some.inj h
                exact hret.1 _ _ _ _ _ _ _ _ (Nat.le_of_ble_eq_true rfl) (Nat.le_of_ble_eq_true rfl) dX8_readsCommand_213 rfl (by rw [← h]) (by rw [← h] <;> rfl) (by rw [← h]; exact hP) hS
      · have h := ite_f c12 h
        by_cases c22 : q1 = 109
        · have h := ite_t c22 h
          refine lv_lookup (off := 90) (tgt := 139) hx hb dX8_readsCommand_49 (by decide) (by rw [c22] <;> rfl) (by decide) ?_
          refine lv_aload_n hx hb dX8_readsCommand_139 rfl (lv_at hl 2 rfl) ?_
          refine lv_iconst (v := 1) hx hb dX8_readsCommand_140 (by decide) ?_
          refine lv_iload_n hx hb dX8_readsCommand_141 rfl (lv_at hl 1 rfl) ?_
          refine lv_iconst (v := 1) hx hb dX8_readsCommand_142 (by decide) ?_
          refine lv_iadd hx hb dX8_readsCommand_143 ?_
          obtain ⟨q23, e24, h⟩ := bnd h
          refine wrVi (ws1 := [(a_m, .inr (8, [.ref a_ms, .ref a_mw, .ref a_mv, .ref a_mp, .ref a_mf, .int m_chg, .int m_thr, .int m_rea, .int m_det, .int m_ref, .int m_err, .int m_ans, .int m_sav, .int m_net, .ref a_ml, .int m_lin, .ref a_mt, .ref a_mc, .int m_tap, .int q23.2.1, .int (m_cmd + 1)])), (a_mt, .inl (T 0, 60, .inl v_mt)), (a_mc, .inl (T 0, 124, .inl q23.2.2))]) C hE hP hD hS hA (kX8_isNumber l D T a_m a_ms a_mw a_mv a_mp a_mf a_ml a_mt a_mc m_chg m_thr m_rea m_det m_ref m_err m_ans m_sav m_net m_lin m_tap (m_her + 1) (m_cmd + 1) v_mt (upd v_mc (4 * m_cmd).toNatClampNeg q1) 1 ((4 * m_cmd) + 1) _ q23 e24) mX8_isNumber qLX8_234 [0, 1, 2] [] 0 rfl rfl rfl rfl rfl rfl rfl rfl rfl ⟨rfl, rfl⟩ ⟨Nat.le_of_ble_eq_true rfl, Nat.le_of_ble_eq_true rfl⟩ rfl hl.1 rfl (Nat.le_of_ble_eq_true rfl) dX8_readsCommand_144 ⟨Nat.le_of_ble_eq_true rfl, Nat.le_of_ble_eq_true rfl⟩ (fun H locs hP hD hS => ?_)
          refine lv_if_eq (tgt := 174) hx hb dX8_readsCommand_147 (by decide) (fun c25 => ?_) (fun c25 => ?_)
          · have h := ite_t c25 h
            refine lv_iconst (v := 0) hx hb dX8_readsCommand_174 (by decide) ?_
            have h := Option.some.inj h
            exact hret.1 _ _ _ _ _ _ _ _ (Nat.le_of_ble_eq_true rfl) (Nat.le_of_ble_eq_true rfl) dX8_readsCommand_175 rfl (by rw [← h]) (by rw [← h] <;> rfl) (by rw [← h]; exact hP) hS
          · have h := ite_f c25 h
            refine lv_aload_n hx hb dX8_readsCommand_150 rfl (lv_at hl 2 rfl) ?_
            refine lv_bipush (v := 64) hx hb dX8_readsCommand_151 (by decide) ?_
            obtain ⟨q26, e27, h⟩ := bnd h
            refine wrVi (ws1 := [(a_m, .inr (8, [.ref a_ms, .ref a_mw, .ref a_mv, .ref a_mp, .ref a_mf, .int m_chg, .int m_thr, .int m_rea, .int m_det, .int m_ref, .int m_err, .int m_ans, .int m_sav, .int m_net, .ref a_ml, .int m_lin, .ref a_mt, .ref a_mc, .int m_tap, .int q26.2, .int (m_cmd + 1)])), (a_mt, .inl (T 0, 60, .inl v_mt)), (a_mc, .inl (T 0, 124, .inl q23.2.2))]) C hE hP hD hS hA (kX8_isSign l D T a_m a_ms a_mw a_mv a_mp a_mf a_ml a_mt a_mc m_chg m_thr m_rea m_det m_ref m_err m_ans m_sav m_net m_lin m_tap q23.2.1 (m_cmd + 1) v_mt 64 _ q26 e27) mX8_isSign qLX8_225 [0, 1] [2] 0 rfl rfl rfl rfl rfl rfl rfl rfl rfl ⟨rfl, rfl⟩ ⟨Nat.le_of_ble_eq_true rfl, Nat.le_of_ble_eq_true rfl⟩ rfl hl.1 rfl (Nat.le_of_ble_eq_true rfl) dX8_readsCommand_153 ⟨Nat.le_of_ble_eq_true rfl, Nat.le_of_ble_eq_true rfl⟩ (fun H locs hP hD hS => ?_)
            refine lv_if_eq (tgt := 174) hx hb dX8_readsCommand_156 (by decide) (fun c28 => ?_) (fun c28 => ?_)
            · have h := ite_t c28 h
              refine lv_iconst (v := 0) hx hb dX8_readsCommand_174 (by decide) ?_
              have h := Option.some.inj h
              exact hret.1 _ _ _ _ _ _ _ _ (Nat.le_of_ble_eq_true rfl) (Nat.le_of_ble_eq_true rfl) dX8_readsCommand_175 rfl (by rw [← h]) (by rw [← h] <;> rfl) (by rw [← h]; exact hP) hS
            · have h := ite_f c28 h
              refine lv_aload_n hx hb dX8_readsCommand_159 rfl (lv_at hl 2 rfl) ?_
              refine lv_iconst (v := 2) hx hb dX8_readsCommand_160 (by decide) ?_
              refine lv_iload_n hx hb dX8_readsCommand_161 rfl (lv_at hl 1 rfl) ?_
              refine lv_iconst (v := 2) hx hb dX8_readsCommand_162 (by decide) ?_
              refine lv_iadd hx hb dX8_readsCommand_163 ?_
              obtain ⟨q29, e30, h⟩ := bnd h
              refine wrVi (ws1 := [(a_m, .inr (8, [.ref a_ms, .ref a_mw, .ref a_mv, .ref a_mp, .ref a_mf, .int m_chg, .int m_thr, .int m_rea, .int m_det, .int m_ref, .int m_err, .int m_ans, .int m_sav, .int m_net, .ref a_ml, .int m_lin, .ref a_mt, .ref a_mc, .int m_tap, .int q29.2.1, .int (m_cmd + 1)])), (a_mt, .inl (T 0, 60, .inl v_mt)), (a_mc, .inl (T 0, 124, .inl q29.2.2))]) C hE hP hD hS hA (kX8_isNumber l D T a_m a_ms a_mw a_mv a_mp a_mf a_ml a_mt a_mc m_chg m_thr m_rea m_det m_ref m_err m_ans m_sav m_net m_lin m_tap q26.2 (m_cmd + 1) v_mt q23.2.2 2 ((4 * m_cmd) + 2) _ q29 e30) mX8_isNumber qLX8_234 [0, 1, 2] [] 0 rfl rfl rfl rfl rfl rfl rfl rfl rfl ⟨rfl, rfl⟩ ⟨Nat.le_of_ble_eq_true rfl, Nat.le_of_ble_eq_true rfl⟩ rfl hl.1 rfl (Nat.le_of_ble_eq_true rfl) dX8_readsCommand_164 ⟨Nat.le_of_ble_eq_true rfl, Nat.le_of_ble_eq_true rfl⟩ (fun H locs hP hD hS => ?_)
              refine lv_if_eq (tgt := 174) hx hb dX8_readsCommand_167 (by decide) (fun c31 => ?_) (fun c31 => ?_)
              · have h := ite_t c31 h
                refine lv_iconst (v := 0) hx hb dX8_readsCommand_174 (by decide) ?_
                have h := Option.some.inj h
                exact hret.1 _ _ _ _ _ _ _ _ (Nat.le_of_ble_eq_true rfl) (Nat.le_of_ble_eq_true rfl) dX8_readsCommand_175 rfl (by rw [← h]) (by rw [← h] <;> rfl) (by rw [← h]; exact hP) hS
              · have h := ite_f c31 h
                refine lv_iconst (v := 1) hx hb dX8_readsCommand_170 (by decide) ?_
                refine lv_goto (tgt := 175) hx hb dX8_readsCommand_171 (by decide) ?_
                have h := Option.some.inj h
                exact hret.1 _ _ _ _ _ _ _ _ (Nat.le_of_ble_eq_true rfl) (Nat.le_of_ble_eq_true rfl) dX8_readsCommand_175 rfl (by rw [← h]) (by rw [← h] <;> rfl) (by rw [← h]; exact hP) hS
        · have h := ite_f c22 h
          by_cases c32 : q1 = 111
          · have h := ite_t c32 h
            refine lv_lookup (off := 165) (tgt := 214) hx hb dX8_readsCommand_49 (by decide) (by rw [c32] <;> rfl) (by decide) ?_
            refine lv_aload_n hx hb dX8_readsCommand_214 rfl (lv_at hl 2 rfl) ?_
            refine lv_iconst (v := 1) hx hb dX8_readsCommand_215 (by decide) ?_
            refine lv_iload_n hx hb dX8_readsCommand_216 rfl (lv_at hl 1 rfl) ?_
            refine lv_iconst (v := 1) hx hb dX8_readsCommand_217 (by decide) ?_
            refine lv_iadd hx hb dX8_readsCommand_218 ?_
            obtain ⟨q33, e34, h⟩ := bnd h
            refine wrVi (ws1 := [(a_m, .inr (8, [.ref a_ms, .ref a_mw, .ref a_mv, .ref a_mp, .ref a_mf, .int m_chg, .int m_thr, .int m_rea, .int m_det, .int m_ref, .int m_err, .int m_ans, .int m_sav, .int m_net, .ref a_ml, .int m_lin, .ref a_mt, .ref a_mc, .int m_tap, .int q33.2.1, .int (m_cmd + 1)])), (a_mt, .inl (T 0, 60, .inl v_mt)), (a_mc, .inl (T 0, 124, .inl q33.2.2))]) C hE hP hD hS hA (kX8_isNumber l D T a_m a_ms a_mw a_mv a_mp a_mf a_ml a_mt a_mc m_chg m_thr m_rea m_det m_ref m_err m_ans m_sav m_net m_lin m_tap (m_her + 1) (m_cmd + 1) v_mt (upd v_mc (4 * m_cmd).toNatClampNeg q1) 1 ((4 * m_cmd) + 1) _ q33 e34) mX8_isNumber qLX8_234 [0, 1, 2] [] 0 rfl rfl rfl rfl rfl rfl rfl rfl rfl ⟨rfl, rfl⟩ ⟨Nat.le_of_ble_eq_true rfl, Nat.le_of_ble_eq_true rfl⟩ rfl hl.1 rfl (Nat.le_of_ble_eq_true rfl) dX8_readsCommand_219 ⟨Nat.le_of_ble_eq_true rfl, Nat.le_of_ble_eq_true rfl⟩ (fun H locs hP hD hS => ?_)
            have h := Option.some.inj h
            exact hret.1 _ _ _ _ _ _ _ _ (Nat.le_of_ble_eq_true rfl) (Nat.le_of_ble_eq_true rfl) dX8_readsCommand_222 rfl (by rw [← h]) (by rw [← h] <;> rfl) (by rw [← h]; exact hP) hS
          · have h := ite_f c32 h
            by_cases c35 : q1 = 119
            · have h := ite_t c35 h
              refine lv_lookup (off := 51) (tgt := 100) hx hb dX8_readsCommand_49 (by decide) (by rw [c35] <;> rfl) (by decide) ?_
              refine lv_aload_n hx hb dX8_readsCommand_100 rfl (lv_at hl 2 rfl) ?_
              refine lv_iconst (v := 1) hx hb dX8_readsCommand_101 (by decide) ?_
              refine lv_iload_n hx hb dX8_readsCommand_102 rfl (lv_at hl 1 rfl) ?_
              refine lv_iconst (v := 1) hx hb dX8_readsCommand_103 (by decide) ?_
              refine lv_iadd hx hb dX8_readsCommand_104 ?_
              obtain ⟨q36, e37, h⟩ := bnd h
              refine wrVi (ws1 := [(a_m, .inr (8, [.ref a_ms, .ref a_mw, .ref a_mv, .ref a_mp, .ref a_mf, .int m_chg, .int m_thr, .int m_rea, .int m_det, .int m_ref, .int m_err, .int m_ans, .int m_sav, .int m_net, .ref a_ml, .int m_lin, .ref a_mt, .ref a_mc, .int m_tap, .int q36.2.1, .int (m_cmd + 1)])), (a_mt, .inl (T 0, 60, .inl v_mt)), (a_mc, .inl (T 0, 124, .inl q36.2.2))]) C hE hP hD hS hA (kX8_isNumber l D T a_m a_ms a_mw a_mv a_mp a_mf a_ml a_mt a_mc m_chg m_thr m_rea m_det m_ref m_err m_ans m_sav m_net m_lin m_tap (m_her + 1) (m_cmd + 1) v_mt (upd v_mc (4 * m_cmd).toNatClampNeg q1) 1 ((4 * m_cmd) + 1) _ q36 e37) mX8_isNumber qLX8_234 [0, 1, 2] [] 0 rfl rfl rfl rfl rfl rfl rfl rfl rfl ⟨rfl, rfl⟩ ⟨Nat.le_of_ble_eq_true rfl, Nat.le_of_ble_eq_true rfl⟩ rfl hl.1 rfl (Nat.le_of_ble_eq_true rfl) dX8_readsCommand_105 ⟨Nat.le_of_ble_eq_true rfl, Nat.le_of_ble_eq_true rfl⟩ (fun H locs hP hD hS => ?_)
              refine lv_if_eq (tgt := 137) hx hb dX8_readsCommand_108 (by decide) (fun c38 => ?_) (fun c38 => ?_)
              · have h := ite_t c38 h
                refine lv_iconst (v := 0) hx hb dX8_readsCommand_137 (by decide) ?_
                have h := Option.some.inj h
                exact hret.1 _ _ _ _ _ _ _ _ (Nat.le_of_ble_eq_true rfl) (Nat.le_of_ble_eq_true rfl) dX8_readsCommand_138 rfl (by rw [← h]) (by rw [← h] <;> rfl) (by rw [← h]; exact hP) hS
              · have h := ite_f c38 h
                refine lv_aload_n hx hb dX8_readsCommand_111 rfl (lv_at hl 2 rfl) ?_
                refine lv_iconst (v := 1) hx hb dX8_readsCommand_112 (by decide) ?_
                refine lv_iload_n hx hb dX8_readsCommand_113 rfl (lv_at hl 1 rfl) ?_
                refine lv_iconst (v := 2) hx hb dX8_readsCommand_114 (by decide) ?_
                refine lv_iadd hx hb dX8_readsCommand_115 ?_
                obtain ⟨q39, e40, h⟩ := bnd h
                refine wrVi (ws1 := [(a_m, .inr (8, [.ref a_ms, .ref a_mw, .ref a_mv, .ref a_mp, .ref a_mf, .int m_chg, .int m_thr, .int m_rea, .int m_det, .int m_ref, .int m_err, .int m_ans, .int m_sav, .int m_net, .ref a_ml, .int m_lin, .ref a_mt, .ref a_mc, .int m_tap, .int q39.2.1, .int (m_cmd + 1)])), (a_mt, .inl (T 0, 60, .inl v_mt)), (a_mc, .inl (T 0, 124, .inl q39.2.2))]) C hE hP hD hS hA (kX8_isNumber l D T a_m a_ms a_mw a_mv a_mp a_mf a_ml a_mt a_mc m_chg m_thr m_rea m_det m_ref m_err m_ans m_sav m_net m_lin m_tap q36.2.1 (m_cmd + 1) v_mt q36.2.2 1 ((4 * m_cmd) + 2) _ q39 e40) mX8_isNumber qLX8_234 [0, 1, 2] [] 0 rfl rfl rfl rfl rfl rfl rfl rfl rfl ⟨rfl, rfl⟩ ⟨Nat.le_of_ble_eq_true rfl, Nat.le_of_ble_eq_true rfl⟩ rfl hl.1 rfl (Nat.le_of_ble_eq_true rfl) dX8_readsCommand_116 ⟨Nat.le_of_ble_eq_true rfl, Nat.le_of_ble_eq_true rfl⟩ (fun H locs hP hD hS => ?_)
                refine lv_if_eq (tgt := 137) hx hb dX8_readsCommand_119 (by decide) (fun c41 => ?_) (fun c41 => ?_)
                · have h := ite_t c41 h
                  refine lv_iconst (v := 0) hx hb dX8_readsCommand_137 (by decide) ?_
                  have h := Option.some.inj h
                  exact hret.1 _ _ _ _ _ _ _ _ (Nat.le_of_ble_eq_true rfl) (Nat.le_of_ble_eq_true rfl) dX8_readsCommand_138 rfl (by rw [← h]) (by rw [← h] <;> rfl) (by rw [← h]; exact hP) hS
                · have h := ite_f c41 h
                  refine lv_aload_n hx hb dX8_readsCommand_122 rfl (lv_at hl 2 rfl) ?_
                  refine lv_iconst (v := 1) hx hb dX8_readsCommand_123 (by decide) ?_
                  refine lv_iload_n hx hb dX8_readsCommand_124 rfl (lv_at hl 1 rfl) ?_
                  refine lv_iconst (v := 3) hx hb dX8_readsCommand_125 (by decide) ?_
                  refine lv_iadd hx hb dX8_readsCommand_126 ?_
                  obtain ⟨q42, e43, h⟩ := bnd h
                  refine wrVi (ws1 := [(a_m, .inr (8, [.ref a_ms, .ref a_mw, .ref a_mv, .ref a_mp, .ref a_mf, .int m_chg, .int m_thr, .int m_rea, .int m_det, .int m_ref, .int m_err, .int m_ans, .int m_sav, .int m_net, .ref a_ml, .int m_lin, .ref a_mt, .ref a_mc, .int m_tap, .int q42.2.1, .int (m_cmd + 1)])), (a_mt, .inl (T 0, 60, .inl v_mt)), (a_mc, .inl (T 0, 124, .inl q42.2.2))]) C hE hP hD hS hA (kX8_isNumber l D T a_m a_ms a_mw a_mv a_mp a_mf a_ml a_mt a_mc m_chg m_thr m_rea m_det m_ref m_err m_ans m_sav m_net m_lin m_tap q39.2.1 (m_cmd + 1) v_mt q39.2.2 1 ((4 * m_cmd) + 3) _ q42 e43) mX8_isNumber qLX8_234 [0, 1, 2] [] 0 rfl rfl rfl rfl rfl rfl rfl rfl rfl ⟨rfl, rfl⟩ ⟨Nat.le_of_ble_eq_true rfl, Nat.le_of_ble_eq_true rfl⟩ rfl hl.1 rfl (Nat.le_of_ble_eq_true rfl) dX8_readsCommand_127 ⟨Nat.le_of_ble_eq_true rfl, Nat.le_of_ble_eq_true rfl⟩ (fun H locs hP hD hS => ?_)
                  refine lv_if_eq (tgt := 137) hx hb dX8_readsCommand_130 (by decide) (fun c44 => ?_) (fun c44 => ?_)
                  · have h := ite_t c44 h
                    refine lv_iconst (v := 0) hx hb dX8_readsCommand_137 (by decide) ?_
                    have h := Option.some.inj h
                    exact hret.1 _ _ _ _ _ _ _ _ (Nat.le_of_ble_eq_true rfl) (Nat.le_of_ble_eq_true rfl) dX8_readsCommand_138 rfl (by rw [← h]) (by rw [← h] <;> rfl) (by rw [← h]; exact hP) hS
                  · have h := ite_f c44 h
                    refine lv_iconst (v := 1) hx hb dX8_readsCommand_133 (by decide) ?_
                    refine lv_goto (tgt := 138) hx hb dX8_readsCommand_134 (by decide) ?_
                    have h := Option.some.inj h
                    exact hret.1 _ _ _ _ _ _ _ _ (Nat.le_of_ble_eq_true rfl) (Nat.le_of_ble_eq_true rfl) dX8_readsCommand_138 rfl (by rw [← h]) (by rw [← h] <;> rfl) (by rw [← h]; exact hP) hS
            · have h := ite_f c35 h
              refine lv_lookup (off := 202) (tgt := 251) hx hb dX8_readsCommand_49 (by decide) (by show Op.lookupswitch.offset [(98, 174), (107, 127), (109, 90), (111, 165), (119, 51)] 202 _ = _; rw [lv_osw (a := 98) c5 rfl, lv_osw (a := 107) c12 rfl, lv_osw (a := 109) c22 rfl, lv_osw (a := 111) c32 rfl, lv_osw (a := 119) c35 rfl] <;> rfl) (by decide) ?_
              refine lv_iconst (v := 1) hx hb dX8_readsCommand_251 (by decide) ?_
              have h := Option.some.inj h
              exact hret.1 _ _ _ _ _ _ _ _ (Nat.le_of_ble_eq_true rfl) (Nat.le_of_ble_eq_true rfl) dX8_readsCommand_252 rfl (by rw [← h]) (by rw [← h] <;> rfl) (by rw [← h]; exact hP) hS
  · have h := ite_t c3 h
    refine lv_iconst (v := 0) hx hb dX8_readsCommand_19 (by decide) ?_
    have h := Option.some.inj h
    exact hret.1 _ _ _ _ _ _ _ _ (Nat.le_of_ble_eq_true rfl) (Nat.le_of_ble_eq_true rfl) dX8_readsCommand_20 rfl (by rw [← h]) (by rw [← h] <;> rfl) (by rw [← h]; exact hP) hS

def fX8_isText_36 (m_tap : Int32) (v_mt : Nat → Int32) (l1 : Int32) (m_her : Int32) (m_cmd : Int32) (v_mc : Nat → Int32) : Option (Nat × Int32 × Int32 × Int32 × (Nat → Int32)) :=
  if l1 = 0 then
    some (0, 0, m_her, m_cmd, v_mc)
  else
    if m_her = m_tap then
      some (0, 1, m_her, m_cmd, v_mc)
    else
      some (0, 0, m_her, m_cmd, v_mc)
def fX8_isText_15 (m_tap : Int32) (v_mt : Nat → Int32) : Nat → Int32 → Int32 → Int32 → (Nat → Int32) → Option (Nat × Int32 × Int32 × Int32 × (Nat → Int32))
  | 0, _, _, _, _ => none
  | k + 1, l1, m_her, m_cmd, v_mc =>
    if l1 = 0 then
      fX8_isText_36 m_tap v_mt l1 m_her m_cmd v_mc
    else
      (fX8_isSign m_tap m_her v_mt 59).bind fun q4 =>
      if q4.1 = 0 then
        fX8_isText_36 m_tap v_mt l1 q4.2 m_cmd v_mc
      else
        (fX8_readsCommand m_tap q4.2 m_cmd v_mt v_mc).bind fun q7 =>
        if q7.1 = 0 then
          fX8_isText_15 m_tap v_mt k q7.2.1 q7.2.2.1 q7.2.2.2.1 q7.2.2.2.2
        else
          some (q7.1, 0, q7.2.2.1, q7.2.2.2.1, q7.2.2.2.2)
def fX8_isText (m_tap : Int32) (m_her : Int32) (m_cmd : Int32) (v_mt : Nat → Int32) (v_mc : Nat → Int32) : Option (Nat × Int32 × Int32 × Int32 × (Nat → Int32)) :=
  (fX8_readsCommand m_tap 0 0 v_mt v_mc).bind fun q1 =>
  if q1.1 = 0 then
    fX8_isText_15 m_tap v_mt 64 q1.2.1 q1.2.2.1 q1.2.2.2.1 q1.2.2.2.2
  else
    some (q1.1, 0, q1.2.2.1, q1.2.2.2.1, q1.2.2.2.2)
set_option maxHeartbeats 4000000 in
set_option maxRecDepth 100000 in
theorem lX8_isText_36 {p : Program} {l : Launch} {e : Env} {s : State} {m : MethodId} {args : Array Value} {below : List Frame} {meth : Method} {c : Code} {Q : State → Prop} {D : va_G} {T : Nat → ClassId} {a_m a_ms a_mw a_mv a_mp a_mf a_ml a_mt a_mc : Nat} {m_chg : Int32} {m_thr : Int32} {m_rea : Int32} {m_det : Int32} {m_ref : Int32} {m_err : Int32} {m_ans : Int32} {m_sav : Int32} {m_net : Int32} {m_lin : Int32} {m_tap : Int32} {v_mt : Nat → Int32} {A : Nat → Prop} {r : Nat × Int32 × Int32 × Int32 × (Nat → Int32)} (C : CallFix p m c cX8_isText 2 s args aw RX8) (hE : eK D T s) (hA : ∀ q : Nat, s.heap.size ≤ q → A q) (hZ : eX l A s) (hret : ThRetI p l e ({ frames := 6, cells := 0, slots := 0, locals := 129 } : Room) s m args below meth c Q cX8_isText .boolean D A [(a_m, .inr (8, [.ref a_ms, .ref a_mw, .ref a_mv, .ref a_mp, .ref a_mf, .int m_chg, .int m_thr, .int m_rea, .int m_det, .int m_ref, .int m_err, .int m_ans, .int m_sav, .int m_net, .ref a_ml, .int m_lin, .ref a_mt, .ref a_mc, .int m_tap, .int r.2.2.1, .int r.2.2.2.1])), (a_mt, .inl (T 0, 60, .inl v_mt)), (a_mc, .inl (T 0, 124, .inl r.2.2.2.2))] r.1 r.2.1 ∧ ThOut p l e ({ frames := 6, cells := 0, slots := 0, locals := 129 } : Room) s m args below meth c Q D A [(a_m, .inr (8, [.ref a_ms, .ref a_mw, .ref a_mv, .ref a_mp, .ref a_mf, .int m_chg, .int m_thr, .int m_rea, .int m_det, .int m_ref, .int m_err, .int m_ans, .int m_sav, .int m_net, .ref a_ml, .int m_lin, .ref a_mt, .ref a_mc, .int m_tap, .int r.2.2.1, .int r.2.2.2.1])), (a_mt, .inl (T 0, 60, .inl v_mt)), (a_mc, .inl (T 0, 124, .inl r.2.2.2.2))] r.1 ∧ ThThr p l e ({ frames := 6, cells := 0, slots := 0, locals := 129 } : Room) s m args below meth c Q cX8_isText RX8 D A [(a_m, .inr (8, [.ref a_ms, .ref a_mw, .ref a_mv, .ref a_mp, .ref a_mf, .int m_chg, .int m_thr, .int m_rea, .int m_det, .int m_ref, .int m_err, .int m_ans, .int m_sav, .int m_net, .ref a_ml, .int m_lin, .ref a_mt, .ref a_mc, .int m_tap, .int r.2.2.1, .int r.2.2.2.1])), (a_mt, .inl (T 0, 60, .inl v_mt)), (a_mc, .inl (T 0, 124, .inl r.2.2.2.2))] r.1) (l1 : Int32) (m_her : Int32) (m_cmd : Int32) (v_mc : Nat → Int32) {H : Heap} {locs : List Loc} (hP : va_P D kC [(a_m, .inr (8, [.ref a_ms, .ref a_mw, .ref a_mv, .ref a_mp, .ref a_mf, .int m_chg, .int m_thr, .int m_rea, .int m_det, .int m_ref, .int m_err, .int m_ans, .int m_sav, .int m_net, .ref a_ml, .int m_lin, .ref a_mt, .ref a_mc, .int m_tap, .int m_her, .int m_cmd])), (a_mt, .inl (T 0, 60, .inl v_mt)), (a_mc, .inl (T 0, 124, .inl v_mc))] H) (hD : va_D A [(a_m, .inr (8, [.ref a_ms, .ref a_mw, .ref a_mv, .ref a_mp, .ref a_mf, .int m_chg, .int m_thr, .int m_rea, .int m_det, .int m_ref, .int m_err, .int m_ans, .int m_sav, .int m_net, .ref a_ml, .int m_lin, .ref a_mt, .ref a_mc, .int m_tap, .int m_her, .int m_cmd])), (a_mt, .inl (T 0, 60, .inl v_mt)), (a_mc, .inl (T 0, 124, .inl v_mc))]) (hS : va_S A s.heap H locs) (ls : Array Slot) (hl : lv_has ls 2 [(0, .ref a_m), (1, .int l1)]) (h : fX8_isText_36 m_tap v_mt l1 m_her m_cmd v_mc = some r) : W p l e ({ frames := 6, cells := 0, slots := 0, locals := 129 } : Room) s m args below meth c H locs 0 0 Q (F0 m 36 ls []) := by
  have hx := C.1
  have hb := C.2.1
  unfold fX8_isText_36 at h
  refine lv_iload_n hx hb dX8_isText_36 rfl (lv_at hl 1 rfl) ?_
  refine lv_if_eq (tgt := 55) hx hb dX8_isText_37 (by decide) (fun c9 => ?_) (fun c9 => ?_)
  · have h := ite_t c9 h
    refine lv_iconst (v := 0) hx hb dX8_isText_55 (by decide) ?_
    have h := Option.some.inj h
    exact hret.1 _ _ _ _ _ _ _ _ (Nat.le_of_ble_eq_true rfl) (Nat.le_of_ble_eq_true rfl) dX8_isText_56 rfl (by rw [← h]) (by rw [← h] <;> rfl) (by rw [← h]; exact hP) hS
  · have h := ite_f c9 h
    refine lv_aload_n hx hb dX8_isText_40 rfl (lv_at hl 0 rfl) ?_
    refine getF (q0 := 0) (k0 := 19) (v := .int m_her) C hE hP inA8 rfl rfl (by decide) qFX8_211 rfl rfl dX8_isText_41 ?_
    refine lv_aload_n hx hb dX8_isText_44 rfl (lv_at hl 0 rfl) ?_
    refine getF (q0 := 0) (k0 := 18) (v := .int m_tap) C hE hP inA8 rfl rfl (by decide) qFX8_208 rfl rfl dX8_isText_45 ?_
    refine lv_icmp_ne (tgt := 55) hx hb dX8_isText_48 (by decide) (fun c10 => ?_) (fun c10 => ?_)
    · have h := ite_f c10 h
      refine lv_iconst (v := 0) hx hb dX8_isText_55 (by decide) ?_
      have h := Option.some.inj h
      exact hret.1 _ _ _ _ _ _ _ _ (Nat.le_of_ble_eq_true rfl) (Nat.le_of_ble_eq_true rfl) dX8_isText_56 rfl (by rw [← h]) (by rw [← h] <;> rfl) (by rw [← h]; exact hP) hS
    · have h := ite_t c10 h
      refine lv_iconst (v := 1) hx hb dX8_isText_51 (by decide) ?_
      refine lv_goto (tgt := 56) hx hb dX8_isText_52 (by decide) ?_
      have h := Option.some.inj h
      exact hret.1 _ _ _ _ _ _ _ _ (Nat.le_of_ble_eq_true rfl) (Nat.le_of_ble_eq_true rfl) dX8_isText_56 rfl (by rw [← h]) (by rw [← h] <;> rfl) (by rw [← h]; exact hP) hS
set_option maxHeartbeats 4000000 in
set_option maxRecDepth 100000 in
theorem lX8_isText_15 {p : Program} {l : Launch} {e : Env} {s : State} {m : MethodId} {args : Array Value} {below : List Frame} {meth : Method} {c : Code} {Q : State → Prop} {D : va_G} {T : Nat → ClassId} {a_m a_ms a_mw a_mv a_mp a_mf a_ml a_mt a_mc : Nat} {m_chg : Int32} {m_thr : Int32} {m_rea : Int32} {m_det : Int32} {m_ref : Int32} {m_err : Int32} {m_ans : Int32} {m_sav : Int32} {m_net : Int32} {m_lin : Int32} {m_tap : Int32} {v_mt : Nat → Int32} {A : Nat → Prop} {r : Nat × Int32 × Int32 × Int32 × (Nat → Int32)} (C : CallFix p m c cX8_isText 2 s args aw RX8) (hE : eK D T s) (hA : ∀ q : Nat, s.heap.size ≤ q → A q) (hZ : eX l A s) (hret : ThRetI p l e ({ frames := 6, cells := 0, slots := 0, locals := 129 } : Room) s m args below meth c Q cX8_isText .boolean D A [(a_m, .inr (8, [.ref a_ms, .ref a_mw, .ref a_mv, .ref a_mp, .ref a_mf, .int m_chg, .int m_thr, .int m_rea, .int m_det, .int m_ref, .int m_err, .int m_ans, .int m_sav, .int m_net, .ref a_ml, .int m_lin, .ref a_mt, .ref a_mc, .int m_tap, .int r.2.2.1, .int r.2.2.2.1])), (a_mt, .inl (T 0, 60, .inl v_mt)), (a_mc, .inl (T 0, 124, .inl r.2.2.2.2))] r.1 r.2.1 ∧ ThOut p l e ({ frames := 6, cells := 0, slots := 0, locals := 129 } : Room) s m args below meth c Q D A [(a_m, .inr (8, [.ref a_ms, .ref a_mw, .ref a_mv, .ref a_mp, .ref a_mf, .int m_chg, .int m_thr, .int m_rea, .int m_det, .int m_ref, .int m_err, .int m_ans, .int m_sav, .int m_net, .ref a_ml, .int m_lin, .ref a_mt, .ref a_mc, .int m_tap, .int r.2.2.1, .int r.2.2.2.1])), (a_mt, .inl (T 0, 60, .inl v_mt)), (a_mc, .inl (T 0, 124, .inl r.2.2.2.2))] r.1 ∧ ThThr p l e ({ frames := 6, cells := 0, slots := 0, locals := 129 } : Room) s m args below meth c Q cX8_isText RX8 D A [(a_m, .inr (8, [.ref a_ms, .ref a_mw, .ref a_mv, .ref a_mp, .ref a_mf, .int m_chg, .int m_thr, .int m_rea, .int m_det, .int m_ref, .int m_err, .int m_ans, .int m_sav, .int m_net, .ref a_ml, .int m_lin, .ref a_mt, .ref a_mc, .int m_tap, .int r.2.2.1, .int r.2.2.2.1])), (a_mt, .inl (T 0, 60, .inl v_mt)), (a_mc, .inl (T 0, 124, .inl r.2.2.2.2))] r.1) : ∀ (k : Nat) (l1 : Int32) (m_her : Int32) (m_cmd : Int32) (v_mc : Nat → Int32) {H : Heap} {locs : List Loc} (hP : va_P D kC [(a_m, .inr (8, [.ref a_ms, .ref a_mw, .ref a_mv, .ref a_mp, .ref a_mf, .int m_chg, .int m_thr, .int m_rea, .int m_det, .int m_ref, .int m_err, .int m_ans, .int m_sav, .int m_net, .ref a_ml, .int m_lin, .ref a_mt, .ref a_mc, .int m_tap, .int m_her, .int m_cmd])), (a_mt, .inl (T 0, 60, .inl v_mt)), (a_mc, .inl (T 0, 124, .inl v_mc))] H) (hD : va_D A [(a_m, .inr (8, [.ref a_ms, .ref a_mw, .ref a_mv, .ref a_mp, .ref a_mf, .int m_chg, .int m_thr, .int m_rea, .int m_det, .int m_ref, .int m_err, .int m_ans, .int m_sav, .int m_net, .ref a_ml, .int m_lin, .ref a_mt, .ref a_mc, .int m_tap, .int m_her, .int m_cmd])), (a_mt, .inl (T 0, 60, .inl v_mt)), (a_mc, .inl (T 0, 124, .inl v_mc))]) (hS : va_S A s.heap H locs) (ls : Array Slot) (hl : lv_has ls 2 [(0, .ref a_m), (1, .int l1)]) (h : fX8_isText_15 m_tap v_mt k l1 m_her m_cmd v_mc = some r), W p l e ({ frames := 6, cells := 0, slots := 0, locals := 129 } : Room) s m args below meth c H locs 0 0 Q (F0 m 15 ls []) := by
  have hx := C.1
  have hb := C.2.1
  intro k
  induction k with
  | zero =>
    intro l1 m_her m_cmd v_mc H locs hP hD hS ls hl h
    exact nomatch (show (none : Option (Nat × Int32 × Int32 × Int32 × (Nat → Int32))) = some r from h)
  | succ k ih =>
    intro l1 m_her m_cmd v_mc H locs hP hD hS ls hl h
    rw [fX8_isText_15] at h
    refine lv_iload_n hx hb dX8_isText_15 rfl (lv_at hl 1 rfl) ?_
    refine lv_if_eq (tgt := 36) hx hb dX8_isText_16 (by decide) (fun c3 => ?_) (fun c3 => ?_)
    · have h := ite_t c3 h
      exact lX8_isText_36 C hE hA hZ hret l1 m_her m_cmd v_mc hP hD hS _ (lv_sub hl [0, 1] rfl) h
    · have h := ite_f c3 h
      refine lv_aload_n hx hb dX8_isText_19 rfl (lv_at hl 0 rfl) ?_
      refine lv_bipush (v := 59) hx hb dX8_isText_20 (by decide) ?_
      obtain ⟨q4, e5, h⟩ := bnd h
      refine wrVi (ws1 := [(a_m, .inr (8, [.ref a_ms, .ref a_mw, .ref a_mv, .ref a_mp, .ref a_mf, .int m_chg, .int m_thr, .int m_rea, .int m_det, .int m_ref, .int m_err, .int m_ans, .int m_sav, .int m_net, .ref a_ml, .int m_lin, .ref a_mt, .ref a_mc, .int m_tap, .int q4.2, .int m_cmd])), (a_mt, .inl (T 0, 60, .inl v_mt)), (a_mc, .inl (T 0, 124, .inl v_mc))]) C hE hP hD hS hA (kX8_isSign l D T a_m a_ms a_mw a_mv a_mp a_mf a_ml a_mt a_mc m_chg m_thr m_rea m_det m_ref m_err m_ans m_sav m_net m_lin m_tap m_her m_cmd v_mt 59 _ q4 e5) mX8_isSign qLX8_225 [0, 1] [2] 0 rfl rfl rfl rfl rfl rfl rfl rfl rfl ⟨rfl, rfl⟩ ⟨Nat.le_of_ble_eq_true rfl, Nat.le_of_ble_eq_true rfl⟩ rfl hl.1 rfl (Nat.le_of_ble_eq_true rfl) dX8_isText_22 ⟨Nat.le_of_ble_eq_true rfl, Nat.le_of_ble_eq_true rfl⟩ (fun H locs hP hD hS => ?_)
      refine lv_if_eq (tgt := 36) hx hb dX8_isText_25 (by decide) (fun c6 => ?_) (fun c6 => ?_)
      · have h := ite_t c6 h
        exact lX8_isText_36 C hE hA hZ hret l1 q4.2 m_cmd v_mc hP hD hS _ (lv_sub hl [0, 1] rfl) h
      · have h := ite_f c6 h
        refine lv_aload_n hx hb dX8_isText_28 rfl (lv_at hl 0 rfl) ?_
        obtain ⟨q7, e8, h⟩ := bnd h
        refine thVi (ws1 := [(a_m, .inr (8, [.ref a_ms, .ref a_mw, .ref a_mv, .ref a_mp, .ref a_mf, .int m_chg, .int m_thr, .int m_rea, .int m_det, .int m_ref, .int m_err, .int m_ans, .int m_sav, .int m_net, .ref a_ml, .int m_lin, .ref a_mt, .ref a_mc, .int m_tap, .int q7.2.2.1, .int q7.2.2.2.1])), (a_mt, .inl (T 0, 60, .inl v_mt)), (a_mc, .inl (T 0, 124, .inl q7.2.2.2.2))]) C hE hZ hP hD hS hA (kX8_readsCommand l hZ.1 D T a_m a_ms a_mw a_mv a_mp a_mf a_ml a_mt a_mc m_chg m_thr m_rea m_det m_ref m_err m_ans m_sav m_net m_lin m_tap q4.2 m_cmd v_mt v_mc _ q7 e8) mX8_readsCommand qLX8_240 [0, 1, 2] [] 0 rfl rfl rfl rfl rfl rfl rfl rfl rfl ⟨Nat.le_of_ble_eq_true rfl, Nat.le_of_ble_eq_true rfl⟩ rfl hl.1 rfl (Nat.le_of_ble_eq_true rfl) dX8_isText_29 ⟨Nat.le_of_ble_eq_true rfl, Nat.le_of_ble_eq_true rfl⟩ (fun hx0 H locs ce q9 hP hD hS g1 g2 g3 => ?_) (fun hx0 H locs hP hD hS => ?_)
        · have h := ite_f (Nat.ne_of_gt hx0) h
          have h := Option.some.inj h
          exact hret.2.1 _ _ _ _ _ _ _ _ _ (Nat.le_of_ble_eq_true rfl) (Nat.le_of_ble_eq_true rfl) (by rw [← h]; exact hx0) (by rw [← h]; exact hP) hS g1 g2 (by rw [← h]; exact g3)
        · have h := ite_t hx0 h
          refine lv_istore_n (lv' := [(1, .int q7.2.1), (0, .ref a_m)]) hx hb dX8_isText_32 rfl hl (by decide) rfl (fun ls hl => ?_)
          refine lv_goto (tgt := 15) hx hb dX8_isText_33 (by decide) ?_
          exact ih q7.2.1 q7.2.2.1 q7.2.2.2.1 q7.2.2.2.2 hP hD hS _ (lv_sub hl [1, 0] rfl) h
set_option maxHeartbeats 4000000 in
set_option maxRecDepth 100000 in
theorem kX8_isText (l : Launch) (hnt : l.stackTraces = false) (D : va_G) (T : Nat → ClassId) (a_m a_ms a_mw a_mv a_mp a_mf a_ml a_mt a_mc : Nat) (m_chg : Int32) (m_thr : Int32) (m_rea : Int32) (m_det : Int32) (m_ref : Int32) (m_err : Int32) (m_ans : Int32) (m_sav : Int32) (m_net : Int32) (m_lin : Int32) (m_tap : Int32) (m_her : Int32) (m_cmd : Int32) (v_mt : Nat → Int32) (v_mc : Nat → Int32) (sz : Nat) (r : Nat × Int32 × Int32 × Int32 × (Nat → Int32)) (h : fX8_isText m_tap m_her m_cmd v_mt v_mc = some r) : ThI l yX8_isText cX8_isText 2 .boolean ({ frames := 6, cells := 0, slots := 0, locals := 129 } : Room) D T sz [(a_m, .inr (8, [.ref a_ms, .ref a_mw, .ref a_mv, .ref a_mp, .ref a_mf, .int m_chg, .int m_thr, .int m_rea, .int m_det, .int m_ref, .int m_err, .int m_ans, .int m_sav, .int m_net, .ref a_ml, .int m_lin, .ref a_mt, .ref a_mc, .int m_tap, .int m_her, .int m_cmd])), (a_mt, .inl (T 0, 60, .inl v_mt)), (a_mc, .inl (T 0, 124, .inl v_mc))] [(a_m, .inr (8, [.ref a_ms, .ref a_mw, .ref a_mv, .ref a_mp, .ref a_mf, .int m_chg, .int m_thr, .int m_rea, .int m_det, .int m_ref, .int m_err, .int m_ans, .int m_sav, .int m_net, .ref a_ml, .int m_lin, .ref a_mt, .ref a_mc, .int m_tap, .int r.2.2.1, .int r.2.2.2.1])), (a_mt, .inl (T 0, 60, .inl v_mt)), (a_mc, .inl (T 0, 124, .inl r.2.2.2.2))] [.ref a_m] r.1 r.2.1 := by
  unfold fX8_isText at h
  refine thMetI hnt (by decide +kernel) rfl (fun p e s m args below meth c Q A C hE hA hZ hP hD hS hret ls hl => ?_)
  have hx := C.1
  have hb := C.2.1
  have hl : lv_has ls 2 [(0, .ref a_m)] := hl
  refine lv_aload_n hx hb dX8_isText_0 rfl (lv_at hl 0 rfl) ?_
  refine lv_iconst (v := 0) hx hb dX8_isText_1 (by decide) ?_
  refine putF (q0 := 0) (k0 := 19) (ws1 := [(a_m, .inr (8, [.ref a_ms, .ref a_mw, .ref a_mv, .ref a_mp, .ref a_mf, .int m_chg, .int m_thr, .int m_rea, .int m_det, .int m_ref, .int m_err, .int m_ans, .int m_sav, .int m_net, .ref a_ml, .int m_lin, .ref a_mt, .ref a_mc, .int m_tap, .int 0, .int m_cmd])), (a_mt, .inl (T 0, 60, .inl v_mt)), (a_mc, .inl (T 0, 124, .inl v_mc))]) C hE hP hD hS inA8 tyX8_ok nmX8 rfl rfl (by decide) qFX8_211 rfl rfl rfl rfl (Nat.le_of_ble_eq_true rfl) rfl dX8_isText_2 (fun H locs hP hD hS => ?_)
  refine lv_aload_n hx hb dX8_isText_5 rfl (lv_at hl 0 rfl) ?_
  refine lv_iconst (v := 0) hx hb dX8_isText_6 (by decide) ?_
  refine putF (q0 := 0) (k0 := 20) (ws1 := [(a_m, .inr (8, [.ref a_ms, .ref a_mw, .ref a_mv, .ref a_mp, .ref a_mf, .int m_chg, .int m_thr, .int m_rea, .int m_det, .int m_ref, .int m_err, .int m_ans, .int m_sav, .int m_net, .ref a_ml, .int m_lin, .ref a_mt, .ref a_mc, .int m_tap, .int 0, .int 0])), (a_mt, .inl (T 0, 60, .inl v_mt)), (a_mc, .inl (T 0, 124, .inl v_mc))]) C hE hP hD hS inA8 tyX8_ok nmX8 rfl rfl (by decide) qFX8_228 rfl rfl rfl rfl (Nat.le_of_ble_eq_true rfl) rfl dX8_isText_7 (fun H locs hP hD hS => ?_)
  refine lv_aload_n hx hb dX8_isText_10 rfl (lv_at hl 0 rfl) ?_
  obtain ⟨q1, e2, h⟩ := bnd h
  refine thVi (ws1 := [(a_m, .inr (8, [.ref a_ms, .ref a_mw, .ref a_mv, .ref a_mp, .ref a_mf, .int m_chg, .int m_thr, .int m_rea, .int m_det, .int m_ref, .int m_err, .int m_ans, .int m_sav, .int m_net, .ref a_ml, .int m_lin, .ref a_mt, .ref a_mc, .int m_tap, .int q1.2.2.1, .int q1.2.2.2.1])), (a_mt, .inl (T 0, 60, .inl v_mt)), (a_mc, .inl (T 0, 124, .inl q1.2.2.2.2))]) C hE hZ hP hD hS hA (kX8_readsCommand l hZ.1 D T a_m a_ms a_mw a_mv a_mp a_mf a_ml a_mt a_mc m_chg m_thr m_rea m_det m_ref m_err m_ans m_sav m_net m_lin m_tap 0 0 v_mt v_mc _ q1 e2) mX8_readsCommand qLX8_240 [0, 1, 2] [] 0 rfl rfl rfl rfl rfl rfl rfl rfl rfl ⟨Nat.le_of_ble_eq_true rfl, Nat.le_of_ble_eq_true rfl⟩ rfl hl.1 rfl (Nat.le_of_ble_eq_true rfl) dX8_isText_11 ⟨Nat.le_of_ble_eq_true rfl, Nat.le_of_ble_eq_true rfl⟩ (fun hx0 H locs ce q9 hP hD hS g1 g2 g3 => ?_) (fun hx0 H locs hP hD hS => ?_)
  · have h := ite_f (Nat.ne_of_gt hx0) h
    have h := Option.some.inj h
    exact hret.2.1 _ _ _ _ _ _ _ _ _ (Nat.le_of_ble_eq_true rfl) (Nat.le_of_ble_eq_true rfl) (by rw [← h]; exact hx0) (by rw [← h]; exact hP) hS g1 g2 (by rw [← h]; exact g3)
  · have h := ite_t hx0 h
    refine lv_istore_n (lv' := [(1, .int q1.2.1), (0, .ref a_m)]) hx hb dX8_isText_14 rfl hl (by decide) rfl (fun ls hl => ?_)
    exact lX8_isText_15 C hE hA hZ hret 64 q1.2.1 q1.2.2.1 q1.2.2.2.1 q1.2.2.2.2 hP hD hS _ (lv_sub hl [1, 0] rfl) h

def fX8_read_123 (v_mt : Nat → Int32) (x1 : Int32) (m_chg : Int32) (m_thr : Int32) (m_rea : Int32) (m_det : Int32) (m_ref : Int32) (m_err : Int32) (m_ans : Int32) (m_net : Int32) (m_tap : Int32) (m_her : Int32) (m_cmd : Int32) (v_ms : Nat → Int32) (v_mw : Nat → Int32) (v_mp : Nat → Int32) (v_mf : Nat → Int32) (v_mc : Nat → Int32) : Option (Nat × Int32 × Int32 × Int32 × Int32 × Int32 × Int32 × Int32 × Int32 × Int32 × Int32 × Int32 × Int32 × (Nat → Int32) × (Nat → Int32) × (Nat → Int32) × (Nat → Int32) × (Nat → Int32)) :=
  some (0, 0, m_chg, x1, m_rea, m_det, m_ref, m_err, m_ans, m_net, m_tap, m_her, m_cmd, v_ms, v_mw, v_mp, v_mf, v_mc)
def fX8_read_105 (v_mt : Nat → Int32) (x1 : Int32) (m_chg : Int32) (m_thr : Int32) (m_rea : Int32) (m_det : Int32) (m_ref : Int32) (m_err : Int32) (m_ans : Int32) (m_net : Int32) (m_tap : Int32) (m_her : Int32) (m_cmd : Int32) (v_ms : Nat → Int32) (v_mw : Nat → Int32) (v_mp : Nat → Int32) (v_mf : Nat → Int32) (v_mc : Nat → Int32) : Option (Nat × Int32 × Int32 × Int32 × Int32 × Int32 × Int32 × Int32 × Int32 × Int32 × Int32 × Int32 × Int32 × (Nat → Int32) × (Nat → Int32) × (Nat → Int32) × (Nat → Int32) × (Nat → Int32)) :=
  fX8_read_123 v_mt (if m_thr = 9 then 3 else 2) m_chg m_thr m_rea m_det x1 m_err m_ans m_net m_tap m_her m_cmd v_ms v_mw v_mp v_mf v_mc
def fX8_read_43 (v_mt : Nat → Int32) : Nat → Int32 → Int32 → Int32 → Int32 → Int32 → Int32 → Int32 → Int32 → Int32 → Int32 → Int32 → Int32 → (Nat → Int32) → (Nat → Int32) → (Nat → Int32) → (Nat → Int32) → (Nat → Int32) → Option (Nat × Int32 × Int32 × Int32 × Int32 × Int32 × Int32 × Int32 × Int32 × Int32 × Int32 × Int32 × Int32 × (Nat → Int32) × (Nat → Int32) × (Nat → Int32) × (Nat → Int32) × (Nat → Int32))
  | 0, _, _, _, _, _, _, _, _, _, _, _, _, _, _, _, _, _ => none
  | k + 1, l2, m_chg, m_thr, m_rea, m_det, m_ref, m_err, m_ans, m_net, m_tap, m_her, m_cmd, v_ms, v_mw, v_mp, v_mf, v_mc =>
    if m_cmd ≤ l2 then
      (fX8_ends m_chg m_thr v_mw v_mp m_cmd 3).bind fun q10 =>
      some (0, q10.1, q10.2.1, q10.2.2.1, m_rea, m_det, m_ref, m_err, m_ans, m_net, m_tap, m_her, m_cmd, v_ms, v_mw, q10.2.2.2, v_mf, v_mc)
    else
      (fX8_does 0 m_rea m_det m_ref m_net v_ms v_mf v_mc (4 * l2)).bind fun q12 =>
      if q12.2.1 = 0 then
        fX8_read_43 v_mt k (l2 + 1) m_chg q12.2.1 q12.2.2.1 q12.2.2.2.1 q12.2.2.2.2.1 m_err q12.1 q12.2.2.2.2.2.1 m_tap m_her m_cmd q12.2.2.2.2.2.2.1 v_mw v_mp q12.2.2.2.2.2.2.2 v_mc
      else
        (fX8_copies 103 v_mw 103 q12.2.2.2.2.2.2.1 0 0).bind fun q15 =>
        fX8_read_105 v_mt (if q12.2.1 = 9 then l2 else q12.2.2.2.2.1) m_chg q12.2.1 q12.2.2.1 q12.2.2.2.1 q12.2.2.2.2.1 m_err q12.1 q12.2.2.2.2.2.1 m_tap m_her m_cmd q15 v_mw v_mp q12.2.2.2.2.2.2.2 v_mc
def fX8_read_20 (v_mt : Nat → Int32) (x1 : Int32) (m_chg : Int32) (m_thr : Int32) (m_rea : Int32) (m_det : Int32) (m_ref : Int32) (m_err : Int32) (m_ans : Int32) (m_net : Int32) (m_tap : Int32) (m_her : Int32) (m_cmd : Int32) (v_ms : Nat → Int32) (v_mw : Nat → Int32) (v_mp : Nat → Int32) (v_mf : Nat → Int32) (v_mc : Nat → Int32) : Option (Nat × Int32 × Int32 × Int32 × Int32 × Int32 × Int32 × Int32 × Int32 × Int32 × Int32 × Int32 × Int32 × (Nat → Int32) × (Nat → Int32) × (Nat → Int32) × (Nat → Int32) × (Nat → Int32)) :=
  (fX8_isThrown m_thr x1 1).bind fun q4 =>
  if q4.1 = 0 then
    (fX8_keeps q4.2 v_ms v_mw).bind fun q7 =>
    fX8_read_43 v_mt 64 0 m_chg q7.1 m_rea m_det m_ref m_err m_ans m_net m_tap m_her m_cmd v_ms q7.2 v_mp v_mf v_mc
  else
    some (0, 0, m_chg, q4.2, m_rea, m_det, m_ref, m_her, m_ans, m_net, m_tap, m_her, m_cmd, v_ms, v_mw, v_mp, v_mf, v_mc)
def fX8_read (m_chg : Int32) (m_thr : Int32) (m_rea : Int32) (m_det : Int32) (m_ref : Int32) (m_err : Int32) (m_ans : Int32) (m_net : Int32) (m_tap : Int32) (m_her : Int32) (m_cmd : Int32) (v_ms : Nat → Int32) (v_mw : Nat → Int32) (v_mp : Nat → Int32) (v_mf : Nat → Int32) (v_mt : Nat → Int32) (v_mc : Nat → Int32) : Option (Nat × Int32 × Int32 × Int32 × Int32 × Int32 × Int32 × Int32 × Int32 × Int32 × Int32 × Int32 × Int32 × (Nat → Int32) × (Nat → Int32) × (Nat → Int32) × (Nat → Int32) × (Nat → Int32)) :=
  (fX8_isText m_tap m_her m_cmd v_mt v_mc).bind fun q1 =>
  if q1.1 = 0 then
    fX8_read_20 v_mt (if q1.2.1 = 0 then 1 else 0) m_chg m_thr m_rea m_det m_ref m_err m_ans m_net 0 q1.2.2.1 q1.2.2.2.1 v_ms v_mw v_mp v_mf q1.2.2.2.2
  else
    some (q1.1, 0, m_chg, m_thr, m_rea, m_det, m_ref, m_err, m_ans, m_net, m_tap, q1.2.2.1, q1.2.2.2.1, v_ms, v_mw, v_mp, v_mf, q1.2.2.2.2)
set_option maxHeartbeats 4000000 in
set_option maxRecDepth 100000 in
theorem lX8_read_123 {p : Program} {l : Launch} {e : Env} {s : State} {m : MethodId} {args : Array Value} {below : List Frame} {meth : Method} {c : Code} {Q : State → Prop} {D : va_G} {T : Nat → ClassId} {a_m a_ms a_mw a_mv a_mp a_mf a_ml a_mt a_mc : Nat} {m_sav : Int32} {m_lin : Int32} {v_mt : Nat → Int32} {A : Nat → Prop} {r : Nat × Int32 × Int32 × Int32 × Int32 × Int32 × Int32 × Int32 × Int32 × Int32 × Int32 × Int32 × Int32 × (Nat → Int32) × (Nat → Int32) × (Nat → Int32) × (Nat → Int32) × (Nat → Int32)} (C : CallFix p m c cX8_read 3 s args aw RX8) (hE : eK D T s) (hA : ∀ q : Nat, s.heap.size ≤ q → A q) (hZ : eX l A s) (hret : ThRetI p l e ({ frames := 7, cells := 0, slots := 0, locals := 165 } : Room) s m args below meth c Q cX8_read .int D A [(a_m, .inr (8, [.ref a_ms, .ref a_mw, .ref a_mv, .ref a_mp, .ref a_mf, .int r.2.2.1, .int r.2.2.2.1, .int r.2.2.2.2.1, .int r.2.2.2.2.2.1, .int r.2.2.2.2.2.2.1, .int r.2.2.2.2.2.2.2.1, .int r.2.2.2.2.2.2.2.2.1, .int m_sav, .int r.2.2.2.2.2.2.2.2.2.1, .ref a_ml, .int m_lin, .ref a_mt, .ref a_mc, .int r.2.2.2.2.2.2.2.2.2.2.1, .int r.2.2.2.2.2.2.2.2.2.2.2.1, .int r.2.2.2.2.2.2.2.2.2.2.2.2.1])), (a_ms, .inl (T 0, 103, .inl r.2.2.2.2.2.2.2.2.2.2.2.2.2.1)), (a_mw, .inl (T 0, 103, .inl r.2.2.2.2.2.2.2.2.2.2.2.2.2.2.1)), (a_mp, .inl (T 0, 618, .inl r.2.2.2.2.2.2.2.2.2.2.2.2.2.2.2.1)), (a_mf, .inl (T 0, 45, .inl r.2.2.2.2.2.2.2.2.2.2.2.2.2.2.2.2.1)), (a_mt, .inl (T 0, 60, .inl v_mt)), (a_mc, .inl (T 0, 124, .inl r.2.2.2.2.2.2.2.2.2.2.2.2.2.2.2.2.2))] r.1 r.2.1 ∧ ThOut p l e ({ frames := 7, cells := 0, slots := 0, locals := 165 } : Room) s m args below meth c Q D A [(a_m, .inr (8, [.ref a_ms, .ref a_mw, .ref a_mv, .ref a_mp, .ref a_mf, .int r.2.2.1, .int r.2.2.2.1, .int r.2.2.2.2.1, .int r.2.2.2.2.2.1, .int r.2.2.2.2.2.2.1, .int r.2.2.2.2.2.2.2.1, .int r.2.2.2.2.2.2.2.2.1, .int m_sav, .int r.2.2.2.2.2.2.2.2.2.1, .ref a_ml, .int m_lin, .ref a_mt, .ref a_mc, .int r.2.2.2.2.2.2.2.2.2.2.1, .int r.2.2.2.2.2.2.2.2.2.2.2.1, .int r.2.2.2.2.2.2.2.2.2.2.2.2.1])), (a_ms, .inl (T 0, 103, .inl r.2.2.2.2.2.2.2.2.2.2.2.2.2.1)), (a_mw, .inl (T 0, 103, .inl r.2.2.2.2.2.2.2.2.2.2.2.2.2.2.1)), (a_mp, .inl (T 0, 618, .inl r.2.2.2.2.2.2.2.2.2.2.2.2.2.2.2.1)), (a_mf, .inl (T 0, 45, .inl r.2.2.2.2.2.2.2.2.2.2.2.2.2.2.2.2.1)), (a_mt, .inl (T 0, 60, .inl v_mt)), (a_mc, .inl (T 0, 124, .inl r.2.2.2.2.2.2.2.2.2.2.2.2.2.2.2.2.2))] r.1 ∧ ThThr p l e ({ frames := 7, cells := 0, slots := 0, locals := 165 } : Room) s m args below meth c Q cX8_read RX8 D A [(a_m, .inr (8, [.ref a_ms, .ref a_mw, .ref a_mv, .ref a_mp, .ref a_mf, .int r.2.2.1, .int r.2.2.2.1, .int r.2.2.2.2.1, .int r.2.2.2.2.2.1, .int r.2.2.2.2.2.2.1, .int r.2.2.2.2.2.2.2.1, .int r.2.2.2.2.2.2.2.2.1, .int m_sav, .int r.2.2.2.2.2.2.2.2.2.1, .ref a_ml, .int m_lin, .ref a_mt, .ref a_mc, .int r.2.2.2.2.2.2.2.2.2.2.1, .int r.2.2.2.2.2.2.2.2.2.2.2.1, .int r.2.2.2.2.2.2.2.2.2.2.2.2.1])), (a_ms, .inl (T 0, 103, .inl r.2.2.2.2.2.2.2.2.2.2.2.2.2.1)), (a_mw, .inl (T 0, 103, .inl r.2.2.2.2.2.2.2.2.2.2.2.2.2.2.1)), (a_mp, .inl (T 0, 618, .inl r.2.2.2.2.2.2.2.2.2.2.2.2.2.2.2.1)), (a_mf, .inl (T 0, 45, .inl r.2.2.2.2.2.2.2.2.2.2.2.2.2.2.2.2.1)), (a_mt, .inl (T 0, 60, .inl v_mt)), (a_mc, .inl (T 0, 124, .inl r.2.2.2.2.2.2.2.2.2.2.2.2.2.2.2.2.2))] r.1) (x1 : Int32) (m_chg : Int32) (m_thr : Int32) (m_rea : Int32) (m_det : Int32) (m_ref : Int32) (m_err : Int32) (m_ans : Int32) (m_net : Int32) (m_tap : Int32) (m_her : Int32) (m_cmd : Int32) (v_ms : Nat → Int32) (v_mw : Nat → Int32) (v_mp : Nat → Int32) (v_mf : Nat → Int32) (v_mc : Nat → Int32) {H : Heap} {locs : List Loc} (hP : va_P D kC [(a_m, .inr (8, [.ref a_ms, .ref a_mw, .ref a_mv, .ref a_mp, .ref a_mf, .int m_chg, .int m_thr, .int m_rea, .int m_det, .int m_ref, .int m_err, .int m_ans, .int m_sav, .int m_net, .ref a_ml, .int m_lin, .ref a_mt, .ref a_mc, .int m_tap, .int m_her, .int m_cmd])), (a_ms, .inl (T 0, 103, .inl v_ms)), (a_mw, .inl (T 0, 103, .inl v_mw)), (a_mp, .inl (T 0, 618, .inl v_mp)), (a_mf, .inl (T 0, 45, .inl v_mf)), (a_mt, .inl (T 0, 60, .inl v_mt)), (a_mc, .inl (T 0, 124, .inl v_mc))] H) (hD : va_D A [(a_m, .inr (8, [.ref a_ms, .ref a_mw, .ref a_mv, .ref a_mp, .ref a_mf, .int m_chg, .int m_thr, .int m_rea, .int m_det, .int m_ref, .int m_err, .int m_ans, .int m_sav, .int m_net, .ref a_ml, .int m_lin, .ref a_mt, .ref a_mc, .int m_tap, .int m_her, .int m_cmd])), (a_ms, .inl (T 0, 103, .inl v_ms)), (a_mw, .inl (T 0, 103, .inl v_mw)), (a_mp, .inl (T 0, 618, .inl v_mp)), (a_mf, .inl (T 0, 45, .inl v_mf)), (a_mt, .inl (T 0, 60, .inl v_mt)), (a_mc, .inl (T 0, 124, .inl v_mc))]) (hS : va_S A s.heap H locs) (ls : Array Slot) (hl : lv_has ls 3 []) (h : fX8_read_123 v_mt x1 m_chg m_thr m_rea m_det m_ref m_err m_ans m_net m_tap m_her m_cmd v_ms v_mw v_mp v_mf v_mc = some r) : W p l e ({ frames := 7, cells := 0, slots := 0, locals := 165 } : Room) s m args below meth c H locs 0 0 Q (F0 m 123 ls [.int x1, .ref a_m]) := by
  have hx := C.1
  have hb := C.2.1
  unfold fX8_read_123 at h
  refine putF (q0 := 0) (k0 := 6) (ws1 := [(a_m, .inr (8, [.ref a_ms, .ref a_mw, .ref a_mv, .ref a_mp, .ref a_mf, .int m_chg, .int x1, .int m_rea, .int m_det, .int m_ref, .int m_err, .int m_ans, .int m_sav, .int m_net, .ref a_ml, .int m_lin, .ref a_mt, .ref a_mc, .int m_tap, .int m_her, .int m_cmd])), (a_ms, .inl (T 0, 103, .inl v_ms)), (a_mw, .inl (T 0, 103, .inl v_mw)), (a_mp, .inl (T 0, 618, .inl v_mp)), (a_mf, .inl (T 0, 45, .inl v_mf)), (a_mt, .inl (T 0, 60, .inl v_mt)), (a_mc, .inl (T 0, 124, .inl v_mc))]) C hE hP hD hS inA8 tyX8_ok nmX8 rfl rfl (by decide) qFX8_41 rfl rfl rfl rfl (Nat.le_of_ble_eq_true rfl) rfl dX8_read_123 (fun H locs hP hD hS => ?_)
  refine lv_iconst (v := 0) hx hb dX8_read_126 (by decide) ?_
  have h := Option.some.inj h
  exact hret.1 _ _ _ _ _ _ _ _ (Nat.le_of_ble_eq_true rfl) (Nat.le_of_ble_eq_true rfl) dX8_read_127 rfl (by rw [← h]) (by rw [← h] <;> rfl) (by rw [← h]; exact hP) hS
set_option maxHeartbeats 4000000 in
set_option maxRecDepth 100000 in
theorem lX8_read_105 {p : Program} {l : Launch} {e : Env} {s : State} {m : MethodId} {args : Array Value} {below : List Frame} {meth : Method} {c : Code} {Q : State → Prop} {D : va_G} {T : Nat → ClassId} {a_m a_ms a_mw a_mv a_mp a_mf a_ml a_mt a_mc : Nat} {m_sav : Int32} {m_lin : Int32} {v_mt : Nat → Int32} {A : Nat → Prop} {r : Nat × Int32 × Int32 × Int32 × Int32 × Int32 × Int32 × Int32 × Int32 × Int32 × Int32 × Int32 × Int32 × (Nat → Int32) × (Nat → Int32) × (Nat → Int32) × (Nat → Int32) × (Nat → Int32)} (C : CallFix p m c cX8_read 3 s args aw RX8) (hE : eK D T s) (hA : ∀ q : Nat, s.heap.size ≤ q → A q) (hZ : eX l A s) (hret : ThRetI p l e ({ frames := 7, cells := 0, slots := 0, locals := 165 } : Room) s m args below meth c Q cX8_read .int D A [(a_m, .inr (8, [.ref a_ms, .ref a_mw, .ref a_mv, .ref a_mp, .ref a_mf, .int r.2.2.1, .int r.2.2.2.1, .int r.2.2.2.2.1, .int r.2.2.2.2.2.1, .int r.2.2.2.2.2.2.1, .int r.2.2.2.2.2.2.2.1, .int r.2.2.2.2.2.2.2.2.1, .int m_sav, .int r.2.2.2.2.2.2.2.2.2.1, .ref a_ml, .int m_lin, .ref a_mt, .ref a_mc, .int r.2.2.2.2.2.2.2.2.2.2.1, .int r.2.2.2.2.2.2.2.2.2.2.2.1, .int r.2.2.2.2.2.2.2.2.2.2.2.2.1])), (a_ms, .inl (T 0, 103, .inl r.2.2.2.2.2.2.2.2.2.2.2.2.2.1)), (a_mw, .inl (T 0, 103, .inl r.2.2.2.2.2.2.2.2.2.2.2.2.2.2.1)), (a_mp, .inl (T 0, 618, .inl r.2.2.2.2.2.2.2.2.2.2.2.2.2.2.2.1)), (a_mf, .inl (T 0, 45, .inl r.2.2.2.2.2.2.2.2.2.2.2.2.2.2.2.2.1)), (a_mt, .inl (T 0, 60, .inl v_mt)), (a_mc, .inl (T 0, 124, .inl r.2.2.2.2.2.2.2.2.2.2.2.2.2.2.2.2.2))] r.1 r.2.1 ∧ ThOut p l e ({ frames := 7, cells := 0, slots := 0, locals := 165 } : Room) s m args below meth c Q D A [(a_m, .inr (8, [.ref a_ms, .ref a_mw, .ref a_mv, .ref a_mp, .ref a_mf, .int r.2.2.1, .int r.2.2.2.1, .int r.2.2.2.2.1, .int r.2.2.2.2.2.1, .int r.2.2.2.2.2.2.1, .int r.2.2.2.2.2.2.2.1, .int r.2.2.2.2.2.2.2.2.1, .int m_sav, .int r.2.2.2.2.2.2.2.2.2.1, .ref a_ml, .int m_lin, .ref a_mt, .ref a_mc, .int r.2.2.2.2.2.2.2.2.2.2.1, .int r.2.2.2.2.2.2.2.2.2.2.2.1, .int r.2.2.2.2.2.2.2.2.2.2.2.2.1])), (a_ms, .inl (T 0, 103, .inl r.2.2.2.2.2.2.2.2.2.2.2.2.2.1)), (a_mw, .inl (T 0, 103, .inl r.2.2.2.2.2.2.2.2.2.2.2.2.2.2.1)), (a_mp, .inl (T 0, 618, .inl r.2.2.2.2.2.2.2.2.2.2.2.2.2.2.2.1)), (a_mf, .inl (T 0, 45, .inl r.2.2.2.2.2.2.2.2.2.2.2.2.2.2.2.2.1)), (a_mt, .inl (T 0, 60, .inl v_mt)), (a_mc, .inl (T 0, 124, .inl r.2.2.2.2.2.2.2.2.2.2.2.2.2.2.2.2.2))] r.1 ∧ ThThr p l e ({ frames := 7, cells := 0, slots := 0, locals := 165 } : Room) s m args below meth c Q cX8_read RX8 D A [(a_m, .inr (8, [.ref a_ms, .ref a_mw, .ref a_mv, .ref a_mp, .ref a_mf, .int r.2.2.1, .int r.2.2.2.1, .int r.2.2.2.2.1, .int r.2.2.2.2.2.1, .int r.2.2.2.2.2.2.1, .int r.2.2.2.2.2.2.2.1, .int r.2.2.2.2.2.2.2.2.1, .int m_sav, .int r.2.2.2.2.2.2.2.2.2.1, .ref a_ml, .int m_lin, .ref a_mt, .ref a_mc, .int r.2.2.2.2.2.2.2.2.2.2.1, .int r.2.2.2.2.2.2.2.2.2.2.2.1, .int r.2.2.2.2.2.2.2.2.2.2.2.2.1])), (a_ms, .inl (T 0, 103, .inl r.2.2.2.2.2.2.2.2.2.2.2.2.2.1)), (a_mw, .inl (T 0, 103, .inl r.2.2.2.2.2.2.2.2.2.2.2.2.2.2.1)), (a_mp, .inl (T 0, 618, .inl r.2.2.2.2.2.2.2.2.2.2.2.2.2.2.2.1)), (a_mf, .inl (T 0, 45, .inl r.2.2.2.2.2.2.2.2.2.2.2.2.2.2.2.2.1)), (a_mt, .inl (T 0, 60, .inl v_mt)), (a_mc, .inl (T 0, 124, .inl r.2.2.2.2.2.2.2.2.2.2.2.2.2.2.2.2.2))] r.1) (x1 : Int32) (m_chg : Int32) (m_thr : Int32) (m_rea : Int32) (m_det : Int32) (m_ref : Int32) (m_err : Int32) (m_ans : Int32) (m_net : Int32) (m_tap : Int32) (m_her : Int32) (m_cmd : Int32) (v_ms : Nat → Int32) (v_mw : Nat → Int32) (v_mp : Nat → Int32) (v_mf : Nat → Int32) (v_mc : Nat → Int32) {H : Heap} {locs : List Loc} (hP : va_P D kC [(a_m, .inr (8, [.ref a_ms, .ref a_mw, .ref a_mv, .ref a_mp, .ref a_mf, .int m_chg, .int m_thr, .int m_rea, .int m_det, .int m_ref, .int m_err, .int m_ans, .int m_sav, .int m_net, .ref a_ml, .int m_lin, .ref a_mt, .ref a_mc, .int m_tap, .int m_her, .int m_cmd])), (a_ms, .inl (T 0, 103, .inl v_ms)), (a_mw, .inl (T 0, 103, .inl v_mw)), (a_mp, .inl (T 0, 618, .inl v_mp)), (a_mf, .inl (T 0, 45, .inl v_mf)), (a_mt, .inl (T 0, 60, .inl v_mt)), (a_mc, .inl (T 0, 124, .inl v_mc))] H) (hD : va_D A [(a_m, .inr (8, [.ref a_ms, .ref a_mw, .ref a_mv, .ref a_mp, .ref a_mf, .int m_chg, .int m_thr, .int m_rea, .int m_det, .int m_ref, .int m_err, .int m_ans, .int m_sav, .int m_net, .ref a_ml, .int m_lin, .ref a_mt, .ref a_mc, .int m_tap, .int m_her, .int m_cmd])), (a_ms, .inl (T 0, 103, .inl v_ms)), (a_mw, .inl (T 0, 103, .inl v_mw)), (a_mp, .inl (T 0, 618, .inl v_mp)), (a_mf, .inl (T 0, 45, .inl v_mf)), (a_mt, .inl (T 0, 60, .inl v_mt)), (a_mc, .inl (T 0, 124, .inl v_mc))]) (hS : va_S A s.heap H locs) (ls : Array Slot) (hl : lv_has ls 3 [(0, .ref a_m)]) (h : fX8_read_105 v_mt x1 m_chg m_thr m_rea m_det m_ref m_err m_ans m_net m_tap m_her m_cmd v_ms v_mw v_mp v_mf v_mc = some r) : W p l e ({ frames := 7, cells := 0, slots := 0, locals := 165 } : Room) s m args below meth c H locs 0 0 Q (F0 m 105 ls [.int x1, .ref a_m]) := by
  have hx := C.1
  have hb := C.2.1
  unfold fX8_read_105 at h
  refine putF (q0 := 0) (k0 := 9) (ws1 := [(a_m, .inr (8, [.ref a_ms, .ref a_mw, .ref a_mv, .ref a_mp, .ref a_mf, .int m_chg, .int m_thr, .int m_rea, .int m_det, .int x1, .int m_err, .int m_ans, .int m_sav, .int m_net, .ref a_ml, .int m_lin, .ref a_mt, .ref a_mc, .int m_tap, .int m_her, .int m_cmd])), (a_ms, .inl (T 0, 103, .inl v_ms)), (a_mw, .inl (T 0, 103, .inl v_mw)), (a_mp, .inl (T 0, 618, .inl v_mp)), (a_mf, .inl (T 0, 45, .inl v_mf)), (a_mt, .inl (T 0, 60, .inl v_mt)), (a_mc, .inl (T 0, 124, .inl v_mc))]) C hE hP hD hS inA8 tyX8_ok nmX8 rfl rfl (by decide) qFX8_25 rfl rfl rfl rfl (Nat.le_of_ble_eq_true rfl) rfl dX8_read_105 (fun H locs hP hD hS => ?_)
  refine lv_aload_n hx hb dX8_read_108 rfl (lv_at hl 0 rfl) ?_
  refine lv_aload_n hx hb dX8_read_109 rfl (lv_at hl 0 rfl) ?_
  refine getF (q0 := 0) (k0 := 6) (v := .int m_thr) C hE hP inA8 rfl rfl (by decide) qFX8_41 rfl rfl dX8_read_110 ?_
  refine lv_bipush (v := 9) hx hb dX8_read_113 (by decide) ?_
  refine lv_icmp_ne (tgt := 122) hx hb dX8_read_115 (by decide) (fun c18 => ?_) (fun c18 => ?_)
  · rw [if_neg c18] at h
    refine lv_iconst (v := 2) hx hb dX8_read_122 (by decide) ?_
    exact lX8_read_123 C hE hA hZ hret 2 m_chg m_thr m_rea m_det x1 m_err m_ans m_net m_tap m_her m_cmd v_ms v_mw v_mp v_mf v_mc hP hD hS _ (lv_sub hl [] rfl) h
  · rw [if_pos c18] at h
    refine lv_iconst (v := 3) hx hb dX8_read_118 (by decide) ?_
    refine lv_goto (tgt := 123) hx hb dX8_read_119 (by decide) ?_
    exact lX8_read_123 C hE hA hZ hret 3 m_chg m_thr m_rea m_det x1 m_err m_ans m_net m_tap m_her m_cmd v_ms v_mw v_mp v_mf v_mc hP hD hS _ (lv_sub hl [] rfl) h
set_option maxHeartbeats 4000000 in
set_option maxRecDepth 100000 in
theorem lX8_read_43 {p : Program} {l : Launch} {e : Env} {s : State} {m : MethodId} {args : Array Value} {below : List Frame} {meth : Method} {c : Code} {Q : State → Prop} {D : va_G} {T : Nat → ClassId} {a_m a_ms a_mw a_mv a_mp a_mf a_ml a_mt a_mc : Nat} {m_sav : Int32} {m_lin : Int32} {v_mt : Nat → Int32} {A : Nat → Prop} {r : Nat × Int32 × Int32 × Int32 × Int32 × Int32 × Int32 × Int32 × Int32 × Int32 × Int32 × Int32 × Int32 × (Nat → Int32) × (Nat → Int32) × (Nat → Int32) × (Nat → Int32) × (Nat → Int32)} (C : CallFix p m c cX8_read 3 s args aw RX8) (hE : eK D T s) (hA : ∀ q : Nat, s.heap.size ≤ q → A q) (hZ : eX l A s) (hret : ThRetI p l e ({ frames := 7, cells := 0, slots := 0, locals := 165 } : Room) s m args below meth c Q cX8_read .int D A [(a_m, .inr (8, [.ref a_ms, .ref a_mw, .ref a_mv, .ref a_mp, .ref a_mf, .int r.2.2.1, .int r.2.2.2.1, .int r.2.2.2.2.1, .int r.2.2.2.2.2.1, .int r.2.2.2.2.2.2.1, .int r.2.2.2.2.2.2.2.1, .int r.2.2.2.2.2.2.2.2.1, .int m_sav, .int r.2.2.2.2.2.2.2.2.2.1, .ref a_ml, .int m_lin, .ref a_mt, .ref a_mc, .int r.2.2.2.2.2.2.2.2.2.2.1, .int r.2.2.2.2.2.2.2.2.2.2.2.1, .int r.2.2.2.2.2.2.2.2.2.2.2.2.1])), (a_ms, .inl (T 0, 103, .inl r.2.2.2.2.2.2.2.2.2.2.2.2.2.1)), (a_mw, .inl (T 0, 103, .inl r.2.2.2.2.2.2.2.2.2.2.2.2.2.2.1)), (a_mp, .inl (T 0, 618, .inl r.2.2.2.2.2.2.2.2.2.2.2.2.2.2.2.1)), (a_mf, .inl (T 0, 45, .inl r.2.2.2.2.2.2.2.2.2.2.2.2.2.2.2.2.1)), (a_mt, .inl (T 0, 60, .inl v_mt)), (a_mc, .inl (T 0, 124, .inl r.2.2.2.2.2.2.2.2.2.2.2.2.2.2.2.2.2))] r.1 r.2.1 ∧ ThOut p l e ({ frames := 7, cells := 0, slots := 0, locals := 165 } : Room) s m args below meth c Q D A [(a_m, .inr (8, [.ref a_ms, .ref a_mw, .ref a_mv, .ref a_mp, .ref a_mf, .int r.2.2.1, .int r.2.2.2.1, .int r.2.2.2.2.1, .int r.2.2.2.2.2.1, .int r.2.2.2.2.2.2.1, .int r.2.2.2.2.2.2.2.1, .int r.2.2.2.2.2.2.2.2.1, .int m_sav, .int r.2.2.2.2.2.2.2.2.2.1, .ref a_ml, .int m_lin, .ref a_mt, .ref a_mc, .int r.2.2.2.2.2.2.2.2.2.2.1, .int r.2.2.2.2.2.2.2.2.2.2.2.1, .int r.2.2.2.2.2.2.2.2.2.2.2.2.1])), (a_ms, .inl (T 0, 103, .inl r.2.2.2.2.2.2.2.2.2.2.2.2.2.1)), (a_mw, .inl (T 0, 103, .inl r.2.2.2.2.2.2.2.2.2.2.2.2.2.2.1)), (a_mp, .inl (T 0, 618, .inl r.2.2.2.2.2.2.2.2.2.2.2.2.2.2.2.1)), (a_mf, .inl (T 0, 45, .inl r.2.2.2.2.2.2.2.2.2.2.2.2.2.2.2.2.1)), (a_mt, .inl (T 0, 60, .inl v_mt)), (a_mc, .inl (T 0, 124, .inl r.2.2.2.2.2.2.2.2.2.2.2.2.2.2.2.2.2))] r.1 ∧ ThThr p l e ({ frames := 7, cells := 0, slots := 0, locals := 165 } : Room) s m args below meth c Q cX8_read RX8 D A [(a_m, .inr (8, [.ref a_ms, .ref a_mw, .ref a_mv, .ref a_mp, .ref a_mf, .int r.2.2.1, .int r.2.2.2.1, .int r.2.2.2.2.1, .int r.2.2.2.2.2.1, .int r.2.2.2.2.2.2.1, .int r.2.2.2.2.2.2.2.1, .int r.2.2.2.2.2.2.2.2.1, .int m_sav, .int r.2.2.2.2.2.2.2.2.2.1, .ref a_ml, .int m_lin, .ref a_mt, .ref a_mc, .int r.2.2.2.2.2.2.2.2.2.2.1, .int r.2.2.2.2.2.2.2.2.2.2.2.1, .int r.2.2.2.2.2.2.2.2.2.2.2.2.1])), (a_ms, .inl (T 0, 103, .inl r.2.2.2.2.2.2.2.2.2.2.2.2.2.1)), (a_mw, .inl (T 0, 103, .inl r.2.2.2.2.2.2.2.2.2.2.2.2.2.2.1)), (a_mp, .inl (T 0, 618, .inl r.2.2.2.2.2.2.2.2.2.2.2.2.2.2.2.1)), (a_mf, .inl (T 0, 45, .inl r.2.2.2.2.2.2.2.2.2.2.2.2.2.2.2.2.1)), (a_mt, .inl (T 0, 60, .inl v_mt)), (a_mc, .inl (T 0, 124, .inl r.2.2.2.2.2.2.2.2.2.2.2.2.2.2.2.2.2))] r.1) : ∀ (k : Nat) (l2 : Int32) (m_chg : Int32) (m_thr : Int32) (m_rea : Int32) (m_det : Int32) (m_ref : Int32) (m_err : Int32) (m_ans : Int32) (m_net : Int32) (m_tap : Int32) (m_her : Int32) (m_cmd : Int32) (v_ms : Nat → Int32) (v_mw : Nat → Int32) (v_mp : Nat → Int32) (v_mf : Nat → Int32) (v_mc : Nat → Int32) {H : Heap} {locs : List Loc} (hP : va_P D kC [(a_m, .inr (8, [.ref a_ms, .ref a_mw, .ref a_mv, .ref a_mp, .ref a_mf, .int m_chg, .int m_thr, .int m_rea, .int m_det, .int m_ref, .int m_err, .int m_ans, .int m_sav, .int m_net, .ref a_ml, .int m_lin, .ref a_mt, .ref a_mc, .int m_tap, .int m_her, .int m_cmd])), (a_ms, .inl (T 0, 103, .inl v_ms)), (a_mw, .inl (T 0, 103, .inl v_mw)), (a_mp, .inl (T 0, 618, .inl v_mp)), (a_mf, .inl (T 0, 45, .inl v_mf)), (a_mt, .inl (T 0, 60, .inl v_mt)), (a_mc, .inl (T 0, 124, .inl v_mc))] H) (hD : va_D A [(a_m, .inr (8, [.ref a_ms, .ref a_mw, .ref a_mv, .ref a_mp, .ref a_mf, .int m_chg, .int m_thr, .int m_rea, .int m_det, .int m_ref, .int m_err, .int m_ans, .int m_sav, .int m_net, .ref a_ml, .int m_lin, .ref a_mt, .ref a_mc, .int m_tap, .int m_her, .int m_cmd])), (a_ms, .inl (T 0, 103, .inl v_ms)), (a_mw, .inl (T 0, 103, .inl v_mw)), (a_mp, .inl (T 0, 618, .inl v_mp)), (a_mf, .inl (T 0, 45, .inl v_mf)), (a_mt, .inl (T 0, 60, .inl v_mt)), (a_mc, .inl (T 0, 124, .inl v_mc))]) (hS : va_S A s.heap H locs) (ls : Array Slot) (hl : lv_has ls 3 [(0, .ref a_m), (2, .int l2)]) (h : fX8_read_43 v_mt k l2 m_chg m_thr m_rea m_det m_ref m_err m_ans m_net m_tap m_her m_cmd v_ms v_mw v_mp v_mf v_mc = some r), W p l e ({ frames := 7, cells := 0, slots := 0, locals := 165 } : Room) s m args below meth c H locs 0 0 Q (F0 m 43 ls []) := by
  have hx := C.1
  have hb := C.2.1
  intro k
  induction k with
  | zero =>
    intro l2 m_chg m_thr m_rea m_det m_ref m_err m_ans m_net m_tap m_her m_cmd v_ms v_mw v_mp v_mf v_mc H locs hP hD hS ls hl h
    exact nomatch (show (none : Option (Nat × Int32 × Int32 × Int32 × Int32 × Int32 × Int32 × Int32 × Int32 × Int32 × Int32 × Int32 × Int32 × (Nat → Int32) × (Nat → Int32) × (Nat → Int32) × (Nat → Int32) × (Nat → Int32))) = some r from h)
  | succ k ih =>
    intro l2 m_chg m_thr m_rea m_det m_ref m_err m_ans m_net m_tap m_her m_cmd v_ms v_mw v_mp v_mf v_mc H locs hP hD hS ls hl h
    rw [fX8_read_43] at h
    refine lv_iload_n hx hb dX8_read_43 rfl (lv_at hl 1 rfl) ?_
    refine lv_aload_n hx hb dX8_read_44 rfl (lv_at hl 0 rfl) ?_
    refine getF (q0 := 0) (k0 := 20) (v := .int m_cmd) C hE hP inA8 rfl rfl (by decide) qFX8_228 rfl rfl dX8_read_45 ?_
    refine lv_icmp_ge (tgt := 134) hx hb dX8_read_48 (by decide) (fun c9 => ?_) (fun c9 => ?_)
    · have h := ite_t c9 h
      refine lv_aload_n hx hb dX8_read_134 rfl (lv_at hl 0 rfl) ?_
      refine lv_aload_n hx hb dX8_read_135 rfl (lv_at hl 0 rfl) ?_
      refine getF (q0 := 0) (k0 := 20) (v := .int m_cmd) C hE hP inA8 rfl rfl (by decide) qFX8_228 rfl rfl dX8_read_136 ?_
      refine lv_iconst (v := 3) hx hb dX8_read_139 (by decide) ?_
      obtain ⟨q10, e11, h⟩ := bnd h
      refine wrVi (ws1 := [(a_m, .inr (8, [.ref a_ms, .ref a_mw, .ref a_mv, .ref a_mp, .ref a_mf, .int q10.2.1, .int q10.2.2.1, .int m_rea, .int m_det, .int m_ref, .int m_err, .int m_ans, .int m_sav, .int m_net, .ref a_ml, .int m_lin, .ref a_mt, .ref a_mc, .int m_tap, .int m_her, .int m_cmd])), (a_ms, .inl (T 0, 103, .inl v_ms)), (a_mw, .inl (T 0, 103, .inl v_mw)), (a_mp, .inl (T 0, 618, .inl q10.2.2.2)), (a_mf, .inl (T 0, 45, .inl v_mf)), (a_mt, .inl (T 0, 60, .inl v_mt)), (a_mc, .inl (T 0, 124, .inl v_mc))]) C hE hP hD hS hA (kX8_ends l D T a_m a_ms a_mw a_mv a_mp a_mf a_ml a_mt a_mc m_chg m_thr m_rea m_det m_ref m_err m_ans m_sav m_net m_lin m_tap m_her m_cmd v_mw v_mp m_cmd 3 _ q10 e11) mX8_ends qLX8_114 [0, 2, 3] [1, 4, 5, 6] 0 rfl rfl rfl rfl rfl rfl rfl rfl rfl ⟨rfl, rfl⟩ ⟨Nat.le_of_ble_eq_true rfl, Nat.le_of_ble_eq_true rfl⟩ rfl hl.1 rfl (Nat.le_of_ble_eq_true rfl) dX8_read_140 ⟨Nat.le_of_ble_eq_true rfl, Nat.le_of_ble_eq_true rfl⟩ (fun H locs hP hD hS => ?_)
      have h := Option.some.inj h
      exact hret.1 _ _ _ _ _ _ _ _ (Nat.le_of_ble_eq_true rfl) (Nat.le_of_ble_eq_true rfl) dX8_read_143 rfl (by rw [← h]) (by rw [← h] <;> rfl) (by rw [← h]; exact hP) hS
    · have h := ite_f c9 h
      refine lv_aload_n hx hb dX8_read_51 rfl (lv_at hl 0 rfl) ?_
      refine lv_iconst (v := 0) hx hb dX8_read_52 (by decide) ?_
      refine putF (q0 := 0) (k0 := 6) (ws1 := [(a_m, .inr (8, [.ref a_ms, .ref a_mw, .ref a_mv, .ref a_mp, .ref a_mf, .int m_chg, .int 0, .int m_rea, .int m_det, .int m_ref, .int m_err, .int m_ans, .int m_sav, .int m_net, .ref a_ml, .int m_lin, .ref a_mt, .ref a_mc, .int m_tap, .int m_her, .int m_cmd])), (a_ms, .inl (T 0, 103, .inl v_ms)), (a_mw, .inl (T 0, 103, .inl v_mw)), (a_mp, .inl (T 0, 618, .inl v_mp)), (a_mf, .inl (T 0, 45, .inl v_mf)), (a_mt, .inl (T 0, 60, .inl v_mt)), (a_mc, .inl (T 0, 124, .inl v_mc))]) C hE hP hD hS inA8 tyX8_ok nmX8 rfl rfl (by decide) qFX8_41 rfl rfl rfl rfl (Nat.le_of_ble_eq_true rfl) rfl dX8_read_53 (fun H locs hP hD hS => ?_)
      refine lv_aload_n hx hb dX8_read_56 rfl (lv_at hl 0 rfl) ?_
      refine lv_aload_n hx hb dX8_read_57 rfl (lv_at hl 0 rfl) ?_
      refine lv_iconst (v := 4) hx hb dX8_read_58 (by decide) ?_
      refine lv_iload_n hx hb dX8_read_59 rfl (lv_at hl 1 rfl) ?_
      refine lv_imul hx hb dX8_read_60 ?_
      obtain ⟨q12, e13, h⟩ := bnd h
      refine wrVi (ws1 := [(a_m, .inr (8, [.ref a_ms, .ref a_mw, .ref a_mv, .ref a_mp, .ref a_mf, .int m_chg, .int q12.2.1, .int q12.2.2.1, .int q12.2.2.2.1, .int q12.2.2.2.2.1, .int m_err, .int m_ans, .int m_sav, .int q12.2.2.2.2.2.1, .ref a_ml, .int m_lin, .ref a_mt, .ref a_mc, .int m_tap, .int m_her, .int m_cmd])), (a_ms, .inl (T 0, 103, .inl q12.2.2.2.2.2.2.1)), (a_mw, .inl (T 0, 103, .inl v_mw)), (a_mp, .inl (T 0, 618, .inl v_mp)), (a_mf, .inl (T 0, 45, .inl q12.2.2.2.2.2.2.2)), (a_mt, .inl (T 0, 60, .inl v_mt)), (a_mc, .inl (T 0, 124, .inl v_mc))]) C hE hP hD hS hA (kX8_does l D T a_m a_ms a_mw a_mv a_mp a_mf a_ml a_mt a_mc m_chg 0 m_rea m_det m_ref m_err m_ans m_sav m_net m_lin m_tap m_her m_cmd v_ms v_mf v_mc (4 * l2) _ q12 e13) mX8_does qLX8_246 [0, 1, 4, 6] [2, 3, 5] 0 rfl rfl rfl rfl rfl rfl rfl rfl rfl ⟨rfl, rfl⟩ ⟨Nat.le_of_ble_eq_true rfl, Nat.le_of_ble_eq_true rfl⟩ rfl hl.1 rfl (Nat.le_of_ble_eq_true rfl) dX8_read_61 ⟨Nat.le_of_ble_eq_true rfl, Nat.le_of_ble_eq_true rfl⟩ (fun H locs hP hD hS => ?_)
      refine putF (q0 := 0) (k0 := 11) (ws1 := [(a_m, .inr (8, [.ref a_ms, .ref a_mw, .ref a_mv, .ref a_mp, .ref a_mf, .int m_chg, .int q12.2.1, .int q12.2.2.1, .int q12.2.2.2.1, .int q12.2.2.2.2.1, .int m_err, .int q12.1, .int m_sav, .int q12.2.2.2.2.2.1, .ref a_ml, .int m_lin, .ref a_mt, .ref a_mc, .int m_tap, .int m_her, .int m_cmd])), (a_ms, .inl (T 0, 103, .inl q12.2.2.2.2.2.2.1)), (a_mw, .inl (T 0, 103, .inl v_mw)), (a_mp, .inl (T 0, 618, .inl v_mp)), (a_mf, .inl (T 0, 45, .inl q12.2.2.2.2.2.2.2)), (a_mt, .inl (T 0, 60, .inl v_mt)), (a_mc, .inl (T 0, 124, .inl v_mc))]) C hE hP hD hS inA8 tyX8_ok nmX8 rfl rfl (by decide) qFX8_249 rfl rfl rfl rfl (Nat.le_of_ble_eq_true rfl) rfl dX8_read_64 (fun H locs hP hD hS => ?_)
      refine lv_aload_n hx hb dX8_read_67 rfl (lv_at hl 0 rfl) ?_
      refine getF (q0 := 0) (k0 := 6) (v := .int q12.2.1) C hE hP inA8 rfl rfl (by decide) qFX8_41 rfl rfl dX8_read_68 ?_
      refine lv_if_eq (tgt := 128) hx hb dX8_read_71 (by decide) (fun c14 => ?_) (fun c14 => ?_)
      · have h := ite_t c14 h
        refine lv_iinc (v := (l2 + 1)) (lv' := [(2, .int (l2 + 1)), (0, .ref a_m)]) hx hb dX8_read_128 hl (k := 1) rfl rfl (by decide) rfl (fun ls hl => ?_)
        refine lv_goto (tgt := 43) hx hb dX8_read_131 (by decide) ?_
        exact ih (l2 + 1) m_chg q12.2.1 q12.2.2.1 q12.2.2.2.1 q12.2.2.2.2.1 m_err q12.1 q12.2.2.2.2.2.1 m_tap m_her m_cmd q12.2.2.2.2.2.2.1 v_mw v_mp q12.2.2.2.2.2.2.2 v_mc hP hD hS _ (lv_sub hl [1, 0] rfl) h
      · have h := ite_f c14 h
        refine lv_aload_n hx hb dX8_read_74 rfl (lv_at hl 0 rfl) ?_
        refine getF (q0 := 0) (k0 := 1) (v := .ref a_mw) C hE hP inA8 rfl rfl (by decide) qFX8_13 rfl rfl dX8_read_75 ?_
        refine lv_iconst (v := 0) hx hb dX8_read_78 (by decide) ?_
        refine lv_aload_n hx hb dX8_read_79 rfl (lv_at hl 0 rfl) ?_
        refine getF (q0 := 0) (k0 := 0) (v := .ref a_ms) C hE hP inA8 rfl rfl (by decide) qFX8_9 rfl rfl dX8_read_80 ?_
        refine lv_iconst (v := 0) hx hb dX8_read_83 (by decide) ?_
        obtain ⟨q15, e16, h⟩ := bnd h
        refine wrSv (ws1 := [(a_m, .inr (8, [.ref a_ms, .ref a_mw, .ref a_mv, .ref a_mp, .ref a_mf, .int m_chg, .int q12.2.1, .int q12.2.2.1, .int q12.2.2.2.1, .int q12.2.2.2.2.1, .int m_err, .int q12.1, .int m_sav, .int q12.2.2.2.2.2.1, .ref a_ml, .int m_lin, .ref a_mt, .ref a_mc, .int m_tap, .int m_her, .int m_cmd])), (a_ms, .inl (T 0, 103, .inl q15)), (a_mw, .inl (T 0, 103, .inl v_mw)), (a_mp, .inl (T 0, 618, .inl v_mp)), (a_mf, .inl (T 0, 45, .inl q12.2.2.2.2.2.2.2)), (a_mt, .inl (T 0, 60, .inl v_mt)), (a_mc, .inl (T 0, 124, .inl v_mc))]) C hE hP hD hS hA (kX8_copies l D T a_mw a_ms 103 v_mw 103 q12.2.2.2.2.2.2.1 0 0 _ q15 e16) mX8_copies qLX8_44 [2, 1] [0, 3, 4, 5, 6] rfl rfl rfl rfl rfl rfl ⟨rfl, rfl⟩ ⟨Nat.le_of_ble_eq_true rfl, Nat.le_of_ble_eq_true rfl⟩ rfl hl.1 rfl (Nat.le_of_ble_eq_true rfl) dX8_read_84 ⟨Nat.le_of_ble_eq_true rfl, Nat.le_of_ble_eq_true rfl⟩ (fun H locs hP hD hS => ?_)
        refine lv_aload_n hx hb dX8_read_87 rfl (lv_at hl 0 rfl) ?_
        refine lv_aload_n hx hb dX8_read_88 rfl (lv_at hl 0 rfl) ?_
        refine getF (q0 := 0) (k0 := 6) (v := .int q12.2.1) C hE hP inA8 rfl rfl (by decide) qFX8_41 rfl rfl dX8_read_89 ?_
        refine lv_bipush (v := 9) hx hb dX8_read_92 (by decide) ?_
        refine lv_icmp_ne (tgt := 101) hx hb dX8_read_94 (by decide) (fun c17 => ?_) (fun c17 => ?_)
        · rw [if_neg c17] at h
          refine lv_aload_n hx hb dX8_read_101 rfl (lv_at hl 0 rfl) ?_
          refine getF (q0 := 0) (k0 := 9) (v := .int q12.2.2.2.2.1) C hE hP inA8 rfl rfl (by decide) qFX8_25 rfl rfl dX8_read_102 ?_
          exact lX8_read_105 C hE hA hZ hret q12.2.2.2.2.1 m_chg q12.2.1 q12.2.2.1 q12.2.2.2.1 q12.2.2.2.2.1 m_err q12.1 q12.2.2.2.2.2.1 m_tap m_her m_cmd q15 v_mw v_mp q12.2.2.2.2.2.2.2 v_mc hP hD hS _ (lv_sub hl [0] rfl) h
        · rw [if_pos c17] at h
          refine lv_iload_n hx hb dX8_read_97 rfl (lv_at hl 1 rfl) ?_
          refine lv_goto (tgt := 105) hx hb dX8_read_98 (by decide) ?_
          exact lX8_read_105 C hE hA hZ hret l2 m_chg q12.2.1 q12.2.2.1 q12.2.2.2.1 q12.2.2.2.2.1 m_err q12.1 q12.2.2.2.2.2.1 m_tap m_her m_cmd q15 v_mw v_mp q12.2.2.2.2.2.2.2 v_mc hP hD hS _ (lv_sub hl [0] rfl) h
set_option maxHeartbeats 4000000 in
set_option maxRecDepth 100000 in
theorem lX8_read_20 {p : Program} {l : Launch} {e : Env} {s : State} {m : MethodId} {args : Array Value} {below : List Frame} {meth : Method} {c : Code} {Q : State → Prop} {D : va_G} {T : Nat → ClassId} {a_m a_ms a_mw a_mv a_mp a_mf a_ml a_mt a_mc : Nat} {m_sav : Int32} {m_lin : Int32} {v_mt : Nat → Int32} {A : Nat → Prop} {r : Nat × Int32 × Int32 × Int32 × Int32 × Int32 × Int32 × Int32 × Int32 × Int32 × Int32 × Int32 × Int32 × (Nat → Int32) × (Nat → Int32) × (Nat → Int32) × (Nat → Int32) × (Nat → Int32)} (C : CallFix p m c cX8_read 3 s args aw RX8) (hE : eK D T s) (hA : ∀ q : Nat, s.heap.size ≤ q → A q) (hZ : eX l A s) (hret : ThRetI p l e ({ frames := 7, cells := 0, slots := 0, locals := 165 } : Room) s m args below meth c Q cX8_read .int D A [(a_m, .inr (8, [.ref a_ms, .ref a_mw, .ref a_mv, .ref a_mp, .ref a_mf, .int r.2.2.1, .int r.2.2.2.1, .int r.2.2.2.2.1, .int r.2.2.2.2.2.1, .int r.2.2.2.2.2.2.1, .int r.2.2.2.2.2.2.2.1, .int r.2.2.2.2.2.2.2.2.1, .int m_sav, .int r.2.2.2.2.2.2.2.2.2.1, .ref a_ml, .int m_lin, .ref a_mt, .ref a_mc, .int r.2.2.2.2.2.2.2.2.2.2.1, .int r.2.2.2.2.2.2.2.2.2.2.2.1, .int r.2.2.2.2.2.2.2.2.2.2.2.2.1])), (a_ms, .inl (T 0, 103, .inl r.2.2.2.2.2.2.2.2.2.2.2.2.2.1)), (a_mw, .inl (T 0, 103, .inl r.2.2.2.2.2.2.2.2.2.2.2.2.2.2.1)), (a_mp, .inl (T 0, 618, .inl r.2.2.2.2.2.2.2.2.2.2.2.2.2.2.2.1)), (a_mf, .inl (T 0, 45, .inl r.2.2.2.2.2.2.2.2.2.2.2.2.2.2.2.2.1)), (a_mt, .inl (T 0, 60, .inl v_mt)), (a_mc, .inl (T 0, 124, .inl r.2.2.2.2.2.2.2.2.2.2.2.2.2.2.2.2.2))] r.1 r.2.1 ∧ ThOut p l e ({ frames := 7, cells := 0, slots := 0, locals := 165 } : Room) s m args below meth c Q D A [(a_m, .inr (8, [.ref a_ms, .ref a_mw, .ref a_mv, .ref a_mp, .ref a_mf, .int r.2.2.1, .int r.2.2.2.1, .int r.2.2.2.2.1, .int r.2.2.2.2.2.1, .int r.2.2.2.2.2.2.1, .int r.2.2.2.2.2.2.2.1, .int r.2.2.2.2.2.2.2.2.1, .int m_sav, .int r.2.2.2.2.2.2.2.2.2.1, .ref a_ml, .int m_lin, .ref a_mt, .ref a_mc, .int r.2.2.2.2.2.2.2.2.2.2.1, .int r.2.2.2.2.2.2.2.2.2.2.2.1, .int r.2.2.2.2.2.2.2.2.2.2.2.2.1])), (a_ms, .inl (T 0, 103, .inl r.2.2.2.2.2.2.2.2.2.2.2.2.2.1)), (a_mw, .inl (T 0, 103, .inl r.2.2.2.2.2.2.2.2.2.2.2.2.2.2.1)), (a_mp, .inl (T 0, 618, .inl r.2.2.2.2.2.2.2.2.2.2.2.2.2.2.2.1)), (a_mf, .inl (T 0, 45, .inl r.2.2.2.2.2.2.2.2.2.2.2.2.2.2.2.2.1)), (a_mt, .inl (T 0, 60, .inl v_mt)), (a_mc, .inl (T 0, 124, .inl r.2.2.2.2.2.2.2.2.2.2.2.2.2.2.2.2.2))] r.1 ∧ ThThr p l e ({ frames := 7, cells := 0, slots := 0, locals := 165 } : Room) s m args below meth c Q cX8_read RX8 D A [(a_m, .inr (8, [.ref a_ms, .ref a_mw, .ref a_mv, .ref a_mp, .ref a_mf, .int r.2.2.1, .int r.2.2.2.1, .int r.2.2.2.2.1, .int r.2.2.2.2.2.1, .int r.2.2.2.2.2.2.1, .int r.2.2.2.2.2.2.2.1, .int r.2.2.2.2.2.2.2.2.1, .int m_sav, .int r.2.2.2.2.2.2.2.2.2.1, .ref a_ml, .int m_lin, .ref a_mt, .ref a_mc, .int r.2.2.2.2.2.2.2.2.2.2.1, .int r.2.2.2.2.2.2.2.2.2.2.2.1, .int r.2.2.2.2.2.2.2.2.2.2.2.2.1])), (a_ms, .inl (T 0, 103, .inl r.2.2.2.2.2.2.2.2.2.2.2.2.2.1)), (a_mw, .inl (T 0, 103, .inl r.2.2.2.2.2.2.2.2.2.2.2.2.2.2.1)), (a_mp, .inl (T 0, 618, .inl r.2.2.2.2.2.2.2.2.2.2.2.2.2.2.2.1)), (a_mf, .inl (T 0, 45, .inl r.2.2.2.2.2.2.2.2.2.2.2.2.2.2.2.2.1)), (a_mt, .inl (T 0, 60, .inl v_mt)), (a_mc, .inl (T 0, 124, .inl r.2.2.2.2.2.2.2.2.2.2.2.2.2.2.2.2.2))] r.1) (x1 : Int32) (m_chg : Int32) (m_thr : Int32) (m_rea : Int32) (m_det : Int32) (m_ref : Int32) (m_err : Int32) (m_ans : Int32) (m_net : Int32) (m_tap : Int32) (m_her : Int32) (m_cmd : Int32) (v_ms : Nat → Int32) (v_mw : Nat → Int32) (v_mp : Nat → Int32) (v_mf : Nat → Int32) (v_mc : Nat → Int32) {H : Heap} {locs : List Loc} (hP : va_P D kC [(a_m, .inr (8, [.ref a_ms, .ref a_mw, .ref a_mv, .ref a_mp, .ref a_mf, .int m_chg, .int m_thr, .int m_rea, .int m_det, .int m_ref, .int m_err, .int m_ans, .int m_sav, .int m_net, .ref a_ml, .int m_lin, .ref a_mt, .ref a_mc, .int m_tap, .int m_her, .int m_cmd])), (a_ms, .inl (T 0, 103, .inl v_ms)), (a_mw, .inl (T 0, 103, .inl v_mw)), (a_mp, .inl (T 0, 618, .inl v_mp)), (a_mf, .inl (T 0, 45, .inl v_mf)), (a_mt, .inl (T 0, 60, .inl v_mt)), (a_mc, .inl (T 0, 124, .inl v_mc))] H) (hD : va_D A [(a_m, .inr (8, [.ref a_ms, .ref a_mw, .ref a_mv, .ref a_mp, .ref a_mf, .int m_chg, .int m_thr, .int m_rea, .int m_det, .int m_ref, .int m_err, .int m_ans, .int m_sav, .int m_net, .ref a_ml, .int m_lin, .ref a_mt, .ref a_mc, .int m_tap, .int m_her, .int m_cmd])), (a_ms, .inl (T 0, 103, .inl v_ms)), (a_mw, .inl (T 0, 103, .inl v_mw)), (a_mp, .inl (T 0, 618, .inl v_mp)), (a_mf, .inl (T 0, 45, .inl v_mf)), (a_mt, .inl (T 0, 60, .inl v_mt)), (a_mc, .inl (T 0, 124, .inl v_mc))]) (hS : va_S A s.heap H locs) (ls : Array Slot) (hl : lv_has ls 3 [(0, .ref a_m)]) (h : fX8_read_20 v_mt x1 m_chg m_thr m_rea m_det m_ref m_err m_ans m_net m_tap m_her m_cmd v_ms v_mw v_mp v_mf v_mc = some r) : W p l e ({ frames := 7, cells := 0, slots := 0, locals := 165 } : Room) s m args below meth c H locs 0 0 Q (F0 m 20 ls [.int x1, .ref a_m]) := by
  have hx := C.1
  have hb := C.2.1
  unfold fX8_read_20 at h
  refine lv_iconst (v := 1) hx hb dX8_read_20 (by decide) ?_
  obtain ⟨q4, e5, h⟩ := bnd h
  refine wrVi (ws1 := [(a_m, .inr (8, [.ref a_ms, .ref a_mw, .ref a_mv, .ref a_mp, .ref a_mf, .int m_chg, .int q4.2, .int m_rea, .int m_det, .int m_ref, .int m_err, .int m_ans, .int m_sav, .int m_net, .ref a_ml, .int m_lin, .ref a_mt, .ref a_mc, .int m_tap, .int m_her, .int m_cmd])), (a_ms, .inl (T 0, 103, .inl v_ms)), (a_mw, .inl (T 0, 103, .inl v_mw)), (a_mp, .inl (T 0, 618, .inl v_mp)), (a_mf, .inl (T 0, 45, .inl v_mf)), (a_mt, .inl (T 0, 60, .inl v_mt)), (a_mc, .inl (T 0, 124, .inl v_mc))]) C hE hP hD hS hA (kX8_isThrown l D T a_m a_ms a_mw a_mv a_mp a_mf a_ml a_mt a_mc m_chg m_thr m_rea m_det m_ref m_err m_ans m_sav m_net m_lin m_tap m_her m_cmd x1 1 _ q4 e5) mX8_isThrown qLX8_80 [0] [1, 2, 3, 4, 5, 6] 0 rfl rfl rfl rfl rfl rfl rfl rfl rfl ⟨rfl, rfl⟩ ⟨Nat.le_of_ble_eq_true rfl, Nat.le_of_ble_eq_true rfl⟩ rfl hl.1 rfl (Nat.le_of_ble_eq_true rfl) dX8_read_21 ⟨Nat.le_of_ble_eq_true rfl, Nat.le_of_ble_eq_true rfl⟩ (fun H locs hP hD hS => ?_)
  refine lv_if_eq (tgt := 37) hx hb dX8_read_24 (by decide) (fun c6 => ?_) (fun c6 => ?_)
  · have h := ite_t c6 h
    refine lv_aload_n hx hb dX8_read_37 rfl (lv_at hl 0 rfl) ?_
    obtain ⟨q7, e8, h⟩ := bnd h
    refine wrVv (ws1 := [(a_m, .inr (8, [.ref a_ms, .ref a_mw, .ref a_mv, .ref a_mp, .ref a_mf, .int m_chg, .int q7.1, .int m_rea, .int m_det, .int m_ref, .int m_err, .int m_ans, .int m_sav, .int m_net, .ref a_ml, .int m_lin, .ref a_mt, .ref a_mc, .int m_tap, .int m_her, .int m_cmd])), (a_ms, .inl (T 0, 103, .inl v_ms)), (a_mw, .inl (T 0, 103, .inl q7.2)), (a_mp, .inl (T 0, 618, .inl v_mp)), (a_mf, .inl (T 0, 45, .inl v_mf)), (a_mt, .inl (T 0, 60, .inl v_mt)), (a_mc, .inl (T 0, 124, .inl v_mc))]) C hE hP hD hS hA (kX8_keeps l D T a_m a_ms a_mw a_mv a_mp a_mf a_ml a_mt a_mc m_chg q4.2 m_rea m_det m_ref m_err m_ans m_sav m_net m_lin m_tap m_her m_cmd v_ms v_mw _ q7 e8) mX8_keeps qLX8_107 [0, 1, 2] [3, 4, 5, 6] 0 rfl rfl rfl rfl rfl rfl rfl rfl rfl ⟨rfl, rfl⟩ ⟨Nat.le_of_ble_eq_true rfl, Nat.le_of_ble_eq_true rfl⟩ rfl hl.1 rfl (Nat.le_of_ble_eq_true rfl) dX8_read_38 ⟨Nat.le_of_ble_eq_true rfl, Nat.le_of_ble_eq_true rfl⟩ (fun H locs hP hD hS => ?_)
    refine lv_iconst (v := 0) hx hb dX8_read_41 (by decide) ?_
    refine lv_istore_n (lv' := [(2, .int 0), (0, .ref a_m)]) hx hb dX8_read_42 rfl hl (by decide) rfl (fun ls hl => ?_)
    exact lX8_read_43 C hE hA hZ hret 64 0 m_chg q7.1 m_rea m_det m_ref m_err m_ans m_net m_tap m_her m_cmd v_ms q7.2 v_mp v_mf v_mc hP hD hS _ (lv_sub hl [1, 0] rfl) h
  · have h := ite_f c6 h
    refine lv_aload_n hx hb dX8_read_27 rfl (lv_at hl 0 rfl) ?_
    refine lv_aload_n hx hb dX8_read_28 rfl (lv_at hl 0 rfl) ?_
    refine getF (q0 := 0) (k0 := 19) (v := .int m_her) C hE hP inA8 rfl rfl (by decide) qFX8_211 rfl rfl dX8_read_29 ?_
    refine putF (q0 := 0) (k0 := 10) (ws1 := [(a_m, .inr (8, [.ref a_ms, .ref a_mw, .ref a_mv, .ref a_mp, .ref a_mf, .int m_chg, .int q4.2, .int m_rea, .int m_det, .int m_ref, .int m_her, .int m_ans, .int m_sav, .int m_net, .ref a_ml, .int m_lin, .ref a_mt, .ref a_mc, .int m_tap, .int m_her, .int m_cmd])), (a_ms, .inl (T 0, 103, .inl v_ms)), (a_mw, .inl (T 0, 103, .inl v_mw)), (a_mp, .inl (T 0, 618, .inl v_mp)), (a_mf, .inl (T 0, 45, .inl v_mf)), (a_mt, .inl (T 0, 60, .inl v_mt)), (a_mc, .inl (T 0, 124, .inl v_mc))]) C hE hP hD hS inA8 tyX8_ok nmX8 rfl rfl (by decide) qFX8_29 rfl rfl rfl rfl (Nat.le_of_ble_eq_true rfl) rfl dX8_read_32 (fun H locs hP hD hS => ?_)
    refine lv_iconst (v := 0) hx hb dX8_read_35 (by decide) ?_
    have h := Option.some.inj h
    exact hret.1 _ _ _ _ _ _ _ _ (Nat.le_of_ble_eq_true rfl) (Nat.le_of_ble_eq_true rfl) dX8_read_36 rfl (by rw [← h]) (by rw [← h] <;> rfl) (by rw [← h]; exact hP) hS
set_option maxHeartbeats 4000000 in
set_option maxRecDepth 100000 in
theorem kX8_read (l : Launch) (hnt : l.stackTraces = false) (D : va_G) (T : Nat → ClassId) (a_m a_ms a_mw a_mv a_mp a_mf a_ml a_mt a_mc : Nat) (m_chg : Int32) (m_thr : Int32) (m_rea : Int32) (m_det : Int32) (m_ref : Int32) (m_err : Int32) (m_ans : Int32) (m_sav : Int32) (m_net : Int32) (m_lin : Int32) (m_tap : Int32) (m_her : Int32) (m_cmd : Int32) (v_ms : Nat → Int32) (v_mw : Nat → Int32) (v_mp : Nat → Int32) (v_mf : Nat → Int32) (v_mt : Nat → Int32) (v_mc : Nat → Int32) (sz : Nat) (r : Nat × Int32 × Int32 × Int32 × Int32 × Int32 × Int32 × Int32 × Int32 × Int32 × Int32 × Int32 × Int32 × (Nat → Int32) × (Nat → Int32) × (Nat → Int32) × (Nat → Int32) × (Nat → Int32)) (h : fX8_read m_chg m_thr m_rea m_det m_ref m_err m_ans m_net m_tap m_her m_cmd v_ms v_mw v_mp v_mf v_mt v_mc = some r) : ThI l yX8_read cX8_read 3 .int ({ frames := 7, cells := 0, slots := 0, locals := 165 } : Room) D T sz [(a_m, .inr (8, [.ref a_ms, .ref a_mw, .ref a_mv, .ref a_mp, .ref a_mf, .int m_chg, .int m_thr, .int m_rea, .int m_det, .int m_ref, .int m_err, .int m_ans, .int m_sav, .int m_net, .ref a_ml, .int m_lin, .ref a_mt, .ref a_mc, .int m_tap, .int m_her, .int m_cmd])), (a_ms, .inl (T 0, 103, .inl v_ms)), (a_mw, .inl (T 0, 103, .inl v_mw)), (a_mp, .inl (T 0, 618, .inl v_mp)), (a_mf, .inl (T 0, 45, .inl v_mf)), (a_mt, .inl (T 0, 60, .inl v_mt)), (a_mc, .inl (T 0, 124, .inl v_mc))] [(a_m, .inr (8, [.ref a_ms, .ref a_mw, .ref a_mv, .ref a_mp, .ref a_mf, .int r.2.2.1, .int r.2.2.2.1, .int r.2.2.2.2.1, .int r.2.2.2.2.2.1, .int r.2.2.2.2.2.2.1, .int r.2.2.2.2.2.2.2.1, .int r.2.2.2.2.2.2.2.2.1, .int m_sav, .int r.2.2.2.2.2.2.2.2.2.1, .ref a_ml, .int m_lin, .ref a_mt, .ref a_mc, .int r.2.2.2.2.2.2.2.2.2.2.1, .int r.2.2.2.2.2.2.2.2.2.2.2.1, .int r.2.2.2.2.2.2.2.2.2.2.2.2.1])), (a_ms, .inl (T 0, 103, .inl r.2.2.2.2.2.2.2.2.2.2.2.2.2.1)), (a_mw, .inl (T 0, 103, .inl r.2.2.2.2.2.2.2.2.2.2.2.2.2.2.1)), (a_mp, .inl (T 0, 618, .inl r.2.2.2.2.2.2.2.2.2.2.2.2.2.2.2.1)), (a_mf, .inl (T 0, 45, .inl r.2.2.2.2.2.2.2.2.2.2.2.2.2.2.2.2.1)), (a_mt, .inl (T 0, 60, .inl v_mt)), (a_mc, .inl (T 0, 124, .inl r.2.2.2.2.2.2.2.2.2.2.2.2.2.2.2.2.2))] [.ref a_m] r.1 r.2.1 := by
  unfold fX8_read at h
  refine thMetI hnt (by decide +kernel) rfl (fun p e s m args below meth c Q A C hE hA hZ hP hD hS hret ls hl => ?_)
  have hx := C.1
  have hb := C.2.1
  have hl : lv_has ls 3 [(0, .ref a_m)] := hl
  refine lv_aload_n hx hb dX8_read_0 rfl (lv_at hl 0 rfl) ?_
  obtain ⟨q1, e2, h⟩ := bnd h
  refine thVi (ws1 := [(a_m, .inr (8, [.ref a_ms, .ref a_mw, .ref a_mv, .ref a_mp, .ref a_mf, .int m_chg, .int m_thr, .int m_rea, .int m_det, .int m_ref, .int m_err, .int m_ans, .int m_sav, .int m_net, .ref a_ml, .int m_lin, .ref a_mt, .ref a_mc, .int m_tap, .int q1.2.2.1, .int q1.2.2.2.1])), (a_ms, .inl (T 0, 103, .inl v_ms)), (a_mw, .inl (T 0, 103, .inl v_mw)), (a_mp, .inl (T 0, 618, .inl v_mp)), (a_mf, .inl (T 0, 45, .inl v_mf)), (a_mt, .inl (T 0, 60, .inl v_mt)), (a_mc, .inl (T 0, 124, .inl q1.2.2.2.2))]) C hE hZ hP hD hS hA (kX8_isText l hZ.1 D T a_m a_ms a_mw a_mv a_mp a_mf a_ml a_mt a_mc m_chg m_thr m_rea m_det m_ref m_err m_ans m_sav m_net m_lin m_tap m_her m_cmd v_mt v_mc _ q1 e2) mX8_isText qLX8_243 [0, 5, 6] [1, 2, 3, 4] 0 rfl rfl rfl rfl rfl rfl rfl rfl rfl ⟨Nat.le_of_ble_eq_true rfl, Nat.le_of_ble_eq_true rfl⟩ rfl hl.1 rfl (Nat.le_of_ble_eq_true rfl) dX8_read_1 ⟨Nat.le_of_ble_eq_true rfl, Nat.le_of_ble_eq_true rfl⟩ (fun hx0 H locs ce q9 hP hD hS g1 g2 g3 => ?_) (fun hx0 H locs hP hD hS => ?_)
  · have h := ite_f (Nat.ne_of_gt hx0) h
    have h := Option.some.inj h
    exact hret.2.1 _ _ _ _ _ _ _ _ _ (Nat.le_of_ble_eq_true rfl) (Nat.le_of_ble_eq_true rfl) (by rw [← h]; exact hx0) (by rw [← h]; exact hP) hS g1 g2 (by rw [← h]; exact g3)
  · have h := ite_t hx0 h
    refine lv_istore_n (lv' := [(1, .int q1.2.1), (0, .ref a_m)]) hx hb dX8_read_4 rfl hl (by decide) rfl (fun ls hl => ?_)
    refine lv_aload_n hx hb dX8_read_5 rfl (lv_at hl 1 rfl) ?_
    refine lv_iconst (v := 0) hx hb dX8_read_6 (by decide) ?_
    refine putF (q0 := 0) (k0 := 18) (ws1 := [(a_m, .inr (8, [.ref a_ms, .ref a_mw, .ref a_mv, .ref a_mp, .ref a_mf, .int m_chg, .int m_thr, .int m_rea, .int m_det, .int m_ref, .int m_err, .int m_ans, .int m_sav, .int m_net, .ref a_ml, .int m_lin, .ref a_mt, .ref a_mc, .int 0, .int q1.2.2.1, .int q1.2.2.2.1])), (a_ms, .inl (T 0, 103, .inl v_ms)), (a_mw, .inl (T 0, 103, .inl v_mw)), (a_mp, .inl (T 0, 618, .inl v_mp)), (a_mf, .inl (T 0, 45, .inl v_mf)), (a_mt, .inl (T 0, 60, .inl v_mt)), (a_mc, .inl (T 0, 124, .inl q1.2.2.2.2))]) C hE hP hD hS inA8 tyX8_ok nmX8 rfl rfl (by decide) qFX8_208 rfl rfl rfl rfl (Nat.le_of_ble_eq_true rfl) rfl dX8_read_7 (fun H locs hP hD hS => ?_)
    refine lv_aload_n hx hb dX8_read_10 rfl (lv_at hl 1 rfl) ?_
    refine lv_iload_n hx hb dX8_read_11 rfl (lv_at hl 0 rfl) ?_
    refine lv_if_ne (tgt := 19) hx hb dX8_read_12 (by decide) (fun c3 => ?_) (fun c3 => ?_)
    · rw [if_neg c3] at h
      refine lv_iconst (v := 0) hx hb dX8_read_19 (by decide) ?_
      exact lX8_read_20 C hE hA hZ hret 0 m_chg m_thr m_rea m_det m_ref m_err m_ans m_net 0 q1.2.2.1 q1.2.2.2.1 v_ms v_mw v_mp v_mf q1.2.2.2.2 hP hD hS _ (lv_sub hl [1] rfl) h
    · rw [if_pos c3] at h
      refine lv_iconst (v := 1) hx hb dX8_read_15 (by decide) ?_
      refine lv_goto (tgt := 20) hx hb dX8_read_16 (by decide) ?_
      exact lX8_read_20 C hE hA hZ hret 1 m_chg m_thr m_rea m_det m_ref m_err m_ans m_net 0 q1.2.2.1 q1.2.2.2.1 v_ms v_mw v_mp v_mf q1.2.2.2.2 hP hD hS _ (lv_sub hl [1] rfl) h
