def fX5_takeSign_35 (t_len : Int32) (v_ti : Nat → Int32) (x1 : Int32) (x2 : Int32) (l2 : Int32) (t_cur : Int32) (t_tol : Int32) (v_tn : Nat → Int32) : Option (Nat × Int32 × Int32 × Int32 × (Nat → Int32)) :=
  some (0, (l2 &&& 1), (x1 + x2), t_tol, v_tn)
def fX5_takeSign_20 (t_len : Int32) (v_ti : Nat → Int32) (x0 : Int32) (t_cur : Int32) (t_tol : Int32) (v_tn : Nat → Int32) : Option (Nat × Int32 × Int32 × Int32 × (Nat → Int32)) :=
  fX5_takeSign_35 t_len v_ti t_cur (if x0 = 0 then 0 else 1) x0 t_cur t_tol v_tn
def fX5_takeSign_109 (t_len : Int32) (v_ti : Nat → Int32) (t_cur : Int32) (t_tol : Int32) (v_tn : Nat → Int32) : Option (Nat × Int32 × Int32 × Int32 × (Nat → Int32)) :=
  some (0, 1, (t_cur + 1), t_tol, v_tn)
def fX5_takeSign_63 (t_len : Int32) (v_ti : Nat → Int32) (x0 : Int32) (t_cur : Int32) (t_tol : Int32) (v_tn : Nat → Int32) : Option (Nat × Int32 × Int32 × Int32 × (Nat → Int32)) :=
  if 0 ≤ x0 then
    if t_tol < 0 then
      fX5_takeSign_109 t_len v_ti t_cur t_tol v_tn
    else
      if 3 ≤ t_tol then
        fX5_takeSign_109 t_len v_ti t_cur t_tol v_tn
      else
        if vin t_tol 3 = true then
        fX5_takeSign_109 t_len v_ti t_cur (t_tol + 1) (upd v_tn t_tol.toNatClampNeg x0)
        else none
  else
    some (0, 0, t_cur, t_tol, v_tn)
def fX5_takeSign (t_len : Int32) (t_cur : Int32) (t_tol : Int32) (v_ti : Nat → Int32) (v_tn : Nat → Int32) (p0 : Int32) : Option (Nat × Int32 × Int32 × Int32 × (Nat → Int32)) :=
  if p0 = 64 then
    (fX5_here t_len t_cur v_ti).bind fun q8 =>
    fX5_takeSign_20 t_len v_ti (if q8 = 64 then 1 else 0) t_cur t_tol v_tn
  else
    if p0 = 110 then
      (fX5_here t_len t_cur v_ti).bind fun q6 =>
      fX5_takeSign_63 t_len v_ti (sIx [110, 101, 115, 119] q6) t_cur t_tol v_tn
    else
      (fX5_digitHere t_len t_cur v_ti).bind fun q3 =>
      fX5_takeSign_63 t_len v_ti q3 t_cur t_tol v_tn
set_option maxHeartbeats 4000000 in
set_option maxRecDepth 100000 in
theorem lX5_takeSign_35 {p : Program} {l : Launch} {e : Env} {s : State} {m : MethodId} {args : Array Value} {below : List Frame} {meth : Method} {c : Code} {Q : State → Prop} {D : va_G} {T : Nat → ClassId} {a_t a_ti a_tn : Nat} {t_len : Int32} {t_kin : Int32} {t_don : Int32} {v_ti : Nat → Int32} {A : Nat → Prop} {r : Nat × Int32 × Int32 × Int32 × (Nat → Int32)} (C : CallFix p m c cX5_takeSign 3 s args aw RX5) (hE : eK D T s) (hA : ∀ q : Nat, s.heap.size ≤ q → A q) (hZ : eX l A s) (hret : ThRetI p l e ({ frames := 4, cells := 0, slots := 0, locals := 106 } : Room) s m args below meth c Q cX5_takeSign .boolean D A [(a_t, .inr (5, [.ref a_ti, .ref a_tn, .int t_len, .int r.2.2.1, .int t_kin, .int r.2.2.2.1, .int t_don])), (a_ti, .inl (T 2, 60, .inl v_ti)), (a_tn, .inl (T 0, 3, .inl r.2.2.2.2))] r.1 r.2.1 ∧ ThOut p l e ({ frames := 4, cells := 0, slots := 0, locals := 106 } : Room) s m args below meth c Q D A [(a_t, .inr (5, [.ref a_ti, .ref a_tn, .int t_len, .int r.2.2.1, .int t_kin, .int r.2.2.2.1, .int t_don])), (a_ti, .inl (T 2, 60, .inl v_ti)), (a_tn, .inl (T 0, 3, .inl r.2.2.2.2))] r.1 ∧ ThThr p l e ({ frames := 4, cells := 0, slots := 0, locals := 106 } : Room) s m args below meth c Q cX5_takeSign RX5 D A [(a_t, .inr (5, [.ref a_ti, .ref a_tn, .int t_len, .int r.2.2.1, .int t_kin, .int r.2.2.2.1, .int t_don])), (a_ti, .inl (T 2, 60, .inl v_ti)), (a_tn, .inl (T 0, 3, .inl r.2.2.2.2))] r.1) (x1 : Int32) (x2 : Int32) (l2 : Int32) (t_cur : Int32) (t_tol : Int32) (v_tn : Nat → Int32) {H : Heap} {locs : List Loc} (hPD : va_PD D A [(a_t, .inr (5, [.ref a_ti, .ref a_tn, .int t_len, .int t_cur, .int t_kin, .int t_tol, .int t_don])), (a_ti, .inl (T 2, 60, .inl v_ti)), (a_tn, .inl (T 0, 3, .inl v_tn))] H) (hS : va_S A s.heap H locs) (ls : Array Slot) (hl : lv_has ls 3 [(2, .int l2)]) (h : fX5_takeSign_35 t_len v_ti x1 x2 l2 t_cur t_tol v_tn = some r) : W p l e ({ frames := 4, cells := 0, slots := 0, locals := 106 } : Room) s m args below meth c H locs 0 0 Q (F0 m 35 ls [.int x2, .int x1, .ref a_t]) := by
  have hx := C.1
  have hb := C.2.1
  obtain ⟨hP, hD⟩ := hPD
  unfold fX5_takeSign_35 at h
  refine lv_iadd hx hb dX5_takeSign_35 ?_
  refine putF (q0 := 0) (k0 := 3) (ws1 := [(a_t, .inr (5, [.ref a_ti, .ref a_tn, .int t_len, .int (x1 + x2), .int t_kin, .int t_tol, .int t_don])), (a_ti, .inl (T 2, 60, .inl v_ti)), (a_tn, .inl (T 0, 3, .inl v_tn))]) C hE hP hD hS inA5 tyX5_ok nmX5 rfl rfl (by decide) qFX5_23 rfl rfl rfl rfl (Nat.le_of_ble_eq_true rfl) rfl dX5_takeSign_36 ?_; clear hP hD hS; intro H locs hP hD hS
  refine lv_iload_n hx hb dX5_takeSign_39 rfl (lv_at hl 0 rfl) ?_
  replace h := Option.some.inj h
  exact hret.1 _ _ _ _ _ _ _ _ (Nat.le_of_ble_eq_true rfl) (Nat.le_of_ble_eq_true rfl) dX5_takeSign_40 rfl (by rw [← h]) (by rw [← h] <;> rfl) (by rw [← h]; exact hP) hS
set_option maxHeartbeats 4000000 in
set_option maxRecDepth 100000 in
theorem lX5_takeSign_20 {p : Program} {l : Launch} {e : Env} {s : State} {m : MethodId} {args : Array Value} {below : List Frame} {meth : Method} {c : Code} {Q : State → Prop} {D : va_G} {T : Nat → ClassId} {a_t a_ti a_tn : Nat} {t_len : Int32} {t_kin : Int32} {t_don : Int32} {v_ti : Nat → Int32} {A : Nat → Prop} {r : Nat × Int32 × Int32 × Int32 × (Nat → Int32)} (C : CallFix p m c cX5_takeSign 3 s args aw RX5) (hE : eK D T s) (hA : ∀ q : Nat, s.heap.size ≤ q → A q) (hZ : eX l A s) (hret : ThRetI p l e ({ frames := 4, cells := 0, slots := 0, locals := 106 } : Room) s m args below meth c Q cX5_takeSign .boolean D A [(a_t, .inr (5, [.ref a_ti, .ref a_tn, .int t_len, .int r.2.2.1, .int t_kin, .int r.2.2.2.1, .int t_don])), (a_ti, .inl (T 2, 60, .inl v_ti)), (a_tn, .inl (T 0, 3, .inl r.2.2.2.2))] r.1 r.2.1 ∧ ThOut p l e ({ frames := 4, cells := 0, slots := 0, locals := 106 } : Room) s m args below meth c Q D A [(a_t, .inr (5, [.ref a_ti, .ref a_tn, .int t_len, .int r.2.2.1, .int t_kin, .int r.2.2.2.1, .int t_don])), (a_ti, .inl (T 2, 60, .inl v_ti)), (a_tn, .inl (T 0, 3, .inl r.2.2.2.2))] r.1 ∧ ThThr p l e ({ frames := 4, cells := 0, slots := 0, locals := 106 } : Room) s m args below meth c Q cX5_takeSign RX5 D A [(a_t, .inr (5, [.ref a_ti, .ref a_tn, .int t_len, .int r.2.2.1, .int t_kin, .int r.2.2.2.1, .int t_don])), (a_ti, .inl (T 2, 60, .inl v_ti)), (a_tn, .inl (T 0, 3, .inl r.2.2.2.2))] r.1) (x0 : Int32) (t_cur : Int32) (t_tol : Int32) (v_tn : Nat → Int32) {H : Heap} {locs : List Loc} (hPD : va_PD D A [(a_t, .inr (5, [.ref a_ti, .ref a_tn, .int t_len, .int t_cur, .int t_kin, .int t_tol, .int t_don])), (a_ti, .inl (T 2, 60, .inl v_ti)), (a_tn, .inl (T 0, 3, .inl v_tn))] H) (hS : va_S A s.heap H locs) (ls : Array Slot) (hl : lv_has ls 3 [(0, .ref a_t)]) (h : fX5_takeSign_20 t_len v_ti x0 t_cur t_tol v_tn = some r) : W p l e ({ frames := 4, cells := 0, slots := 0, locals := 106 } : Room) s m args below meth c H locs 0 0 Q (F0 m 20 ls [.int x0]) := by
  have hx := C.1
  have hb := C.2.1
  obtain ⟨hP, hD⟩ := hPD
  unfold fX5_takeSign_20 at h
  refine lv_istore_n (lv' := [(2, .int x0), (0, .ref a_t)]) hx hb dX5_takeSign_20 rfl hl (by decide) rfl (fun ls hl => ?_)
  refine lv_aload_n hx hb dX5_takeSign_21 rfl (lv_at hl 1 rfl) ?_
  refine lv_dup hx hb dX5_takeSign_22 rfl ?_
  refine getF (q0 := 0) (k0 := 3) (v := .int t_cur) C hE hP inA5 rfl rfl (by decide) qFX5_23 rfl rfl dX5_takeSign_23 ?_
  refine lv_iload_n hx hb dX5_takeSign_26 rfl (lv_at hl 0 rfl) ?_
  refine lv_if_eq (tgt := 34) hx hb dX5_takeSign_27 (by decide) (fun c11 => ?_) (fun c11 => ?_)
  · rw [if_pos c11] at h
    refine lv_iconst (v := 0) hx hb dX5_takeSign_34 (by decide) ?_
    exact lX5_takeSign_35 C hE hA hZ hret t_cur 0 x0 t_cur t_tol v_tn ⟨hP, hD⟩ hS _ (lv_sub hl [0] rfl) h
  · rw [if_neg c11] at h
    refine lv_iconst (v := 1) hx hb dX5_takeSign_30 (by decide) ?_
    refine lv_goto (tgt := 35) hx hb dX5_takeSign_31 (by decide) ?_
    exact lX5_takeSign_35 C hE hA hZ hret t_cur 1 x0 t_cur t_tol v_tn ⟨hP, hD⟩ hS _ (lv_sub hl [0] rfl) h
set_option maxHeartbeats 4000000 in
set_option maxRecDepth 100000 in
theorem lX5_takeSign_109 {p : Program} {l : Launch} {e : Env} {s : State} {m : MethodId} {args : Array Value} {below : List Frame} {meth : Method} {c : Code} {Q : State → Prop} {D : va_G} {T : Nat → ClassId} {a_t a_ti a_tn : Nat} {t_len : Int32} {t_kin : Int32} {t_don : Int32} {v_ti : Nat → Int32} {A : Nat → Prop} {r : Nat × Int32 × Int32 × Int32 × (Nat → Int32)} (C : CallFix p m c cX5_takeSign 3 s args aw RX5) (hE : eK D T s) (hA : ∀ q : Nat, s.heap.size ≤ q → A q) (hZ : eX l A s) (hret : ThRetI p l e ({ frames := 4, cells := 0, slots := 0, locals := 106 } : Room) s m args below meth c Q cX5_takeSign .boolean D A [(a_t, .inr (5, [.ref a_ti, .ref a_tn, .int t_len, .int r.2.2.1, .int t_kin, .int r.2.2.2.1, .int t_don])), (a_ti, .inl (T 2, 60, .inl v_ti)), (a_tn, .inl (T 0, 3, .inl r.2.2.2.2))] r.1 r.2.1 ∧ ThOut p l e ({ frames := 4, cells := 0, slots := 0, locals := 106 } : Room) s m args below meth c Q D A [(a_t, .inr (5, [.ref a_ti, .ref a_tn, .int t_len, .int r.2.2.1, .int t_kin, .int r.2.2.2.1, .int t_don])), (a_ti, .inl (T 2, 60, .inl v_ti)), (a_tn, .inl (T 0, 3, .inl r.2.2.2.2))] r.1 ∧ ThThr p l e ({ frames := 4, cells := 0, slots := 0, locals := 106 } : Room) s m args below meth c Q cX5_takeSign RX5 D A [(a_t, .inr (5, [.ref a_ti, .ref a_tn, .int t_len, .int r.2.2.1, .int t_kin, .int r.2.2.2.1, .int t_don])), (a_ti, .inl (T 2, 60, .inl v_ti)), (a_tn, .inl (T 0, 3, .inl r.2.2.2.2))] r.1) (t_cur : Int32) (t_tol : Int32) (v_tn : Nat → Int32) {H : Heap} {locs : List Loc} (hPD : va_PD D A [(a_t, .inr (5, [.ref a_ti, .ref a_tn, .int t_len, .int t_cur, .int t_kin, .int t_tol, .int t_don])), (a_ti, .inl (T 2, 60, .inl v_ti)), (a_tn, .inl (T 0, 3, .inl v_tn))] H) (hS : va_S A s.heap H locs) (ls : Array Slot) (hl : lv_has ls 3 [(0, .ref a_t)]) (h : fX5_takeSign_109 t_len v_ti t_cur t_tol v_tn = some r) : W p l e ({ frames := 4, cells := 0, slots := 0, locals := 106 } : Room) s m args below meth c H locs 0 0 Q (F0 m 109 ls []) := by
  have hx := C.1
  have hb := C.2.1
  obtain ⟨hP, hD⟩ := hPD
  unfold fX5_takeSign_109 at h
  refine lv_aload_n hx hb dX5_takeSign_109 rfl (lv_at hl 0 rfl) ?_
  refine lv_dup hx hb dX5_takeSign_110 rfl ?_
  refine getF (q0 := 0) (k0 := 3) (v := .int t_cur) C hE hP inA5 rfl rfl (by decide) qFX5_23 rfl rfl dX5_takeSign_111 ?_
  refine lv_iconst (v := 1) hx hb dX5_takeSign_114 (by decide) ?_
  refine lv_iadd hx hb dX5_takeSign_115 ?_
  refine putF (q0 := 0) (k0 := 3) (ws1 := [(a_t, .inr (5, [.ref a_ti, .ref a_tn, .int t_len, .int (t_cur + 1), .int t_kin, .int t_tol, .int t_don])), (a_ti, .inl (T 2, 60, .inl v_ti)), (a_tn, .inl (T 0, 3, .inl v_tn))]) C hE hP hD hS inA5 tyX5_ok nmX5 rfl rfl (by decide) qFX5_23 rfl rfl rfl rfl (Nat.le_of_ble_eq_true rfl) rfl dX5_takeSign_116 ?_; clear hP hD hS; intro H locs hP hD hS
  refine lv_iconst (v := 1) hx hb dX5_takeSign_119 (by decide) ?_
  replace h := Option.some.inj h
  exact hret.1 _ _ _ _ _ _ _ _ (Nat.le_of_ble_eq_true rfl) (Nat.le_of_ble_eq_true rfl) dX5_takeSign_120 rfl (by rw [← h]) (by rw [← h] <;> rfl) (by rw [← h]; exact hP) hS
set_option maxHeartbeats 4000000 in
set_option maxRecDepth 100000 in
theorem lX5_takeSign_63 {p : Program} {l : Launch} {e : Env} {s : State} {m : MethodId} {args : Array Value} {below : List Frame} {meth : Method} {c : Code} {Q : State → Prop} {D : va_G} {T : Nat → ClassId} {a_t a_ti a_tn : Nat} {t_len : Int32} {t_kin : Int32} {t_don : Int32} {v_ti : Nat → Int32} {A : Nat → Prop} {r : Nat × Int32 × Int32 × Int32 × (Nat → Int32)} (C : CallFix p m c cX5_takeSign 3 s args aw RX5) (hE : eK D T s) (hA : ∀ q : Nat, s.heap.size ≤ q → A q) (hZ : eX l A s) (hret : ThRetI p l e ({ frames := 4, cells := 0, slots := 0, locals := 106 } : Room) s m args below meth c Q cX5_takeSign .boolean D A [(a_t, .inr (5, [.ref a_ti, .ref a_tn, .int t_len, .int r.2.2.1, .int t_kin, .int r.2.2.2.1, .int t_don])), (a_ti, .inl (T 2, 60, .inl v_ti)), (a_tn, .inl (T 0, 3, .inl r.2.2.2.2))] r.1 r.2.1 ∧ ThOut p l e ({ frames := 4, cells := 0, slots := 0, locals := 106 } : Room) s m args below meth c Q D A [(a_t, .inr (5, [.ref a_ti, .ref a_tn, .int t_len, .int r.2.2.1, .int t_kin, .int r.2.2.2.1, .int t_don])), (a_ti, .inl (T 2, 60, .inl v_ti)), (a_tn, .inl (T 0, 3, .inl r.2.2.2.2))] r.1 ∧ ThThr p l e ({ frames := 4, cells := 0, slots := 0, locals := 106 } : Room) s m args below meth c Q cX5_takeSign RX5 D A [(a_t, .inr (5, [.ref a_ti, .ref a_tn, .int t_len, .int r.2.2.1, .int t_kin, .int r.2.2.2.1, .int t_don])), (a_ti, .inl (T 2, 60, .inl v_ti)), (a_tn, .inl (T 0, 3, .inl r.2.2.2.2))] r.1) (x0 : Int32) (t_cur : Int32) (t_tol : Int32) (v_tn : Nat → Int32) {H : Heap} {locs : List Loc} (hPD : va_PD D A [(a_t, .inr (5, [.ref a_ti, .ref a_tn, .int t_len, .int t_cur, .int t_kin, .int t_tol, .int t_don])), (a_ti, .inl (T 2, 60, .inl v_ti)), (a_tn, .inl (T 0, 3, .inl v_tn))] H) (hS : va_S A s.heap H locs) (ls : Array Slot) (hl : lv_has ls 3 [(0, .ref a_t)]) (h : fX5_takeSign_63 t_len v_ti x0 t_cur t_tol v_tn = some r) : W p l e ({ frames := 4, cells := 0, slots := 0, locals := 106 } : Room) s m args below meth c H locs 0 0 Q (F0 m 63 ls [.int x0]) := by
  have hx := C.1
  have hb := C.2.1
  obtain ⟨hP, hD⟩ := hPD
  unfold fX5_takeSign_63 at h
  refine lv_istore_n (lv' := [(2, .int x0), (0, .ref a_t)]) hx hb dX5_takeSign_63 rfl hl (by decide) rfl (fun ls hl => ?_)
  refine lv_iload_n hx hb dX5_takeSign_64 rfl (lv_at hl 0 rfl) ?_
  refine lv_if_ge (tgt := 70) hx hb dX5_takeSign_65 (by decide) (fun c12 => ?_) (fun c12 => ?_)
  · replace h := ite_t c12 h
    refine lv_aload_n hx hb dX5_takeSign_70 rfl (lv_at hl 1 rfl) ?_
    refine getF (q0 := 0) (k0 := 5) (v := .int t_tol) C hE hP inA5 rfl rfl (by decide) qFX5_29 rfl rfl dX5_takeSign_71 ?_
    refine lv_if_lt (tgt := 109) hx hb dX5_takeSign_74 (by decide) (fun c13 => ?_) (fun c13 => ?_)
    · replace h := ite_t c13 h
      exact lX5_takeSign_109 C hE hA hZ hret t_cur t_tol v_tn ⟨hP, hD⟩ hS _ (lv_sub hl [1] rfl) h
    · replace h := ite_f c13 h
      refine lv_aload_n hx hb dX5_takeSign_77 rfl (lv_at hl 1 rfl) ?_
      refine getF (q0 := 0) (k0 := 5) (v := .int t_tol) C hE hP inA5 rfl rfl (by decide) qFX5_29 rfl rfl dX5_takeSign_78 ?_
      refine lv_aload_n hx hb dX5_takeSign_81 rfl (lv_at hl 1 rfl) ?_
      refine getF (q0 := 0) (k0 := 1) (v := .ref a_tn) C hE hP inA5 rfl rfl (by decide) qFX5_15 rfl rfl dX5_takeSign_82 ?_
      refine alen (q0 := 2) (t0 := 0) (v := 3) C hE hP rfl rfl (by decide) dX5_takeSign_85 ?_
      refine lv_icmp_ge (tgt := 109) hx hb dX5_takeSign_86 (by decide) (fun c14 => ?_) (fun c14 => ?_)
      · replace h := ite_t c14 h
        exact lX5_takeSign_109 C hE hA hZ hret t_cur t_tol v_tn ⟨hP, hD⟩ hS _ (lv_sub hl [1] rfl) h
      · replace h := ite_f c14 h
        refine lv_aload_n hx hb dX5_takeSign_89 rfl (lv_at hl 1 rfl) ?_
        refine getF (q0 := 0) (k0 := 1) (v := .ref a_tn) C hE hP inA5 rfl rfl (by decide) qFX5_15 rfl rfl dX5_takeSign_90 ?_
        refine lv_aload_n hx hb dX5_takeSign_93 rfl (lv_at hl 1 rfl) ?_
        refine getF (q0 := 0) (k0 := 5) (v := .int t_tol) C hE hP inA5 rfl rfl (by decide) qFX5_29 rfl rfl dX5_takeSign_94 ?_
        refine lv_iload_n hx hb dX5_takeSign_97 rfl (lv_at hl 0 rfl) ?_
        replace h := gd h; obtain ⟨g15, h⟩ := h
        refine astI (q0 := 2) (ws1 := [(a_t, .inr (5, [.ref a_ti, .ref a_tn, .int t_len, .int t_cur, .int t_kin, .int t_tol, .int t_don])), (a_ti, .inl (T 2, 60, .inl v_ti)), (a_tn, .inl (T 0, 3, .inl (upd v_tn t_tol.toNatClampNeg x0)))]) C hE hP hD hS rfl g15 rfl dX5_takeSign_98 ?_; clear hP hD hS; intro H locs hP hD hS
        refine lv_aload_n hx hb dX5_takeSign_99 rfl (lv_at hl 1 rfl) ?_
        refine lv_dup hx hb dX5_takeSign_100 rfl ?_
        refine getF (q0 := 0) (k0 := 5) (v := .int t_tol) C hE hP inA5 rfl rfl (by decide) qFX5_29 rfl rfl dX5_takeSign_101 ?_
        refine lv_iconst (v := 1) hx hb dX5_takeSign_104 (by decide) ?_
        refine lv_iadd hx hb dX5_takeSign_105 ?_
        refine putF (q0 := 0) (k0 := 5) (ws1 := [(a_t, .inr (5, [.ref a_ti, .ref a_tn, .int t_len, .int t_cur, .int t_kin, .int (t_tol + 1), .int t_don])), (a_ti, .inl (T 2, 60, .inl v_ti)), (a_tn, .inl (T 0, 3, .inl (upd v_tn t_tol.toNatClampNeg x0)))]) C hE hP hD hS inA5 tyX5_ok nmX5 rfl rfl (by decide) qFX5_29 rfl rfl rfl rfl (Nat.le_of_ble_eq_true rfl) rfl dX5_takeSign_106 ?_; clear hP hD hS; intro H locs hP hD hS
        exact lX5_takeSign_109 C hE hA hZ hret t_cur (t_tol + 1) (upd v_tn t_tol.toNatClampNeg x0) ⟨hP, hD⟩ hS _ (lv_sub hl [1] rfl) h
  · replace h := ite_f c12 h
    refine lv_iconst (v := 0) hx hb dX5_takeSign_68 (by decide) ?_
    replace h := Option.some.inj h
    exact hret.1 _ _ _ _ _ _ _ _ (Nat.le_of_ble_eq_true rfl) (Nat.le_of_ble_eq_true rfl) dX5_takeSign_69 rfl (by rw [← h]) (by rw [← h] <;> rfl) (by rw [← h]; exact hP) hS
set_option maxHeartbeats 4000000 in
set_option maxRecDepth 100000 in
theorem kX5_takeSign (l : Launch) (hnt : l.stackTraces = false) (D : va_G) (T : Nat → ClassId) (a_t a_ti a_tn : Nat) (t_len : Int32) (t_cur : Int32) (t_kin : Int32) (t_tol : Int32) (t_don : Int32) (v_ti : Nat → Int32) (v_tn : Nat → Int32) (p0 : Int32) (sz : Nat) (r : Nat × Int32 × Int32 × Int32 × (Nat → Int32)) (h : fX5_takeSign t_len t_cur t_tol v_ti v_tn p0 = some r) : ThI l yX5_takeSign cX5_takeSign 3 .boolean ({ frames := 4, cells := 0, slots := 0, locals := 106 } : Room) D T sz [(a_t, .inr (5, [.ref a_ti, .ref a_tn, .int t_len, .int t_cur, .int t_kin, .int t_tol, .int t_don])), (a_ti, .inl (T 2, 60, .inl v_ti)), (a_tn, .inl (T 0, 3, .inl v_tn))] [(a_t, .inr (5, [.ref a_ti, .ref a_tn, .int t_len, .int r.2.2.1, .int t_kin, .int r.2.2.2.1, .int t_don])), (a_ti, .inl (T 2, 60, .inl v_ti)), (a_tn, .inl (T 0, 3, .inl r.2.2.2.2))] [.ref a_t, .int p0] r.1 r.2.1 := by
  unfold fX5_takeSign at h
  refine thMetI hnt (by decide +kernel) rfl (fun p e s m args below meth c Q A C hE hA hZ hP hD hS hret ls hl => ?_)
  have hx := C.1
  have hb := C.2.1
  have hl : lv_has ls 3 [(0, .ref a_t), (1, .int p0)] := hl
  refine lv_iload_n hx hb dX5_takeSign_0 rfl (lv_at hl 1 rfl) ?_
  refine lv_bipush (v := 64) hx hb dX5_takeSign_1 (by decide) ?_
  refine lv_icmp_ne (tgt := 41) hx hb dX5_takeSign_3 (by decide) (fun c1 => ?_) (fun c1 => ?_)
  · replace h := ite_f c1 h
    refine lv_iload_n hx hb dX5_takeSign_41 rfl (lv_at hl 1 rfl) ?_
    refine lv_bipush (v := 110) hx hb dX5_takeSign_42 (by decide) ?_
    refine lv_icmp_ne (tgt := 59) hx hb dX5_takeSign_44 (by decide) (fun c2 => ?_) (fun c2 => ?_)
    · replace h := ite_f c2 h
      refine lv_aload_n hx hb dX5_takeSign_59 rfl (lv_at hl 0 rfl) ?_
      replace h := bnd h; obtain ⟨q3, e4, h⟩ := h
      refine rdV C hE hP (kX5_digitHere l D T a_t a_ti a_tn t_len t_cur t_kin t_tol t_don v_ti q3 e4) mX5_digitHere qLX5_86 [0, 1] 0 rfl rfl rfl rfl ⟨rfl, rfl⟩ ⟨Nat.le_of_ble_eq_true rfl, Nat.le_of_ble_eq_true rfl⟩ rfl hl.1 rfl (Nat.le_of_ble_eq_true rfl) dX5_takeSign_60 ⟨Nat.le_of_ble_eq_true rfl, Nat.le_of_ble_eq_true rfl⟩ ?_
      exact lX5_takeSign_63 C hE hA hZ hret q3 t_cur t_tol v_tn ⟨hP, hD⟩ hS _ (lv_sub hl [0] rfl) h
    · replace h := ite_t c2 h
      obtain ⟨as5, vs5, hrs5, hjs5⟩ := eS_at (own := RX5) (k := 84) (tx := "nesw") (bs := [110, 101, 115, 119]) hZ 7 rfl
      refine va_ldcS hx hb C.2.2.2.1 hrs5 dX5_takeSign_47 ?_
      refine lv_aload_n hx hb dX5_takeSign_49 rfl (lv_at hl 0 rfl) ?_
      replace h := bnd h; obtain ⟨q6, e7, h⟩ := h
      refine rdV C hE hP (kX5_here l D T a_t a_ti a_tn t_len t_cur t_kin t_tol t_don v_ti q6 e7) mX5_here qLX5_42 [0, 1] 0 rfl rfl rfl rfl ⟨rfl, rfl⟩ ⟨Nat.le_of_ble_eq_true rfl, Nat.le_of_ble_eq_true rfl⟩ rfl hl.1 rfl (Nat.le_of_ble_eq_true rfl) dX5_takeSign_50 ⟨Nat.le_of_ble_eq_true rfl, Nat.le_of_ble_eq_true rfl⟩ ?_
      refine prV (r := (sIx [110, 101, 115, 119] q6)) C JP.blind (JP.recv hjs5 hS) (fun U hU hW => JP.use hjs5 hS hU hW) (kJ0_indexOf_0f7a4 l as5 vs5 [110, 101, 115, 119] q6 (by decide)) mJ0_indexOf_0f7a4 qLX5_48 ⟨rfl, rfl⟩ ⟨Nat.le_of_ble_eq_true rfl, Nat.le_of_ble_eq_true rfl⟩ rfl hl.1 rfl (Nat.le_of_ble_eq_true rfl) dX5_takeSign_53 ⟨Nat.le_of_ble_eq_true rfl, Nat.le_of_ble_eq_true rfl⟩ ?_
      refine lv_goto (tgt := 63) hx hb dX5_takeSign_56 (by decide) ?_
      exact lX5_takeSign_63 C hE hA hZ hret (sIx [110, 101, 115, 119] q6) t_cur t_tol v_tn ⟨hP, hD⟩ hS _ (lv_sub hl [0] rfl) h
  · replace h := ite_t c1 h
    refine lv_aload_n hx hb dX5_takeSign_6 rfl (lv_at hl 0 rfl) ?_
    replace h := bnd h; obtain ⟨q8, e9, h⟩ := h
    refine rdV C hE hP (kX5_here l D T a_t a_ti a_tn t_len t_cur t_kin t_tol t_don v_ti q8 e9) mX5_here qLX5_42 [0, 1] 0 rfl rfl rfl rfl ⟨rfl, rfl⟩ ⟨Nat.le_of_ble_eq_true rfl, Nat.le_of_ble_eq_true rfl⟩ rfl hl.1 rfl (Nat.le_of_ble_eq_true rfl) dX5_takeSign_7 ⟨Nat.le_of_ble_eq_true rfl, Nat.le_of_ble_eq_true rfl⟩ ?_
    refine lv_bipush (v := 64) hx hb dX5_takeSign_10 (by decide) ?_
    refine lv_icmp_ne (tgt := 19) hx hb dX5_takeSign_12 (by decide) (fun c10 => ?_) (fun c10 => ?_)
    · rw [if_neg c10] at h
      refine lv_iconst (v := 0) hx hb dX5_takeSign_19 (by decide) ?_
      exact lX5_takeSign_20 C hE hA hZ hret 0 t_cur t_tol v_tn ⟨hP, hD⟩ hS _ (lv_sub hl [0] rfl) h
    · rw [if_pos c10] at h
      refine lv_iconst (v := 1) hx hb dX5_takeSign_15 (by decide) ?_
      refine lv_goto (tgt := 20) hx hb dX5_takeSign_16 (by decide) ?_
      exact lX5_takeSign_20 C hE hA hZ hret 1 t_cur t_tol v_tn ⟨hP, hD⟩ hS _ (lv_sub hl [0] rfl) h
