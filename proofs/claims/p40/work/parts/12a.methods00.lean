def fX7_isTeam (p0 : Int32) : Int32 :=
  if p0 < 0 then
    0
  else
    if 2 ≤ p0 then
      0
    else
      1
set_option maxHeartbeats 4000000 in
set_option maxRecDepth 100000 in
theorem kX7_isTeam (l : Launch) (D : va_G) (T : Nat → ClassId) (p0 : Int32) : RdI l yX7_isTeam cX7_isTeam 1 .boolean ({ frames := 0, cells := 0, slots := 0, locals := 0 } : Room) D T [] [.int p0] (fX7_isTeam p0) := by
  obtain ⟨r, h⟩ : ∃ r, fX7_isTeam p0 = r := ⟨_, rfl⟩
  rw [h]
  unfold fX7_isTeam at h
  refine rdMet (by decide +kernel) rfl (fun p e s m args below meth c Q C hE hP hret ls hl => ?_)
  have hx := C.1
  have hb := C.2.1
  have hl : lv_has ls 1 [(0, .int p0)] := hl
  refine lv_iload_n hx hb dX7_isTeam_0 rfl (lv_at hl 0 rfl) ?_
  refine lv_if_lt (tgt := 13) hx hb dX7_isTeam_1 (by decide) (fun c1 => ?_) (fun c1 => ?_)
  · replace h := ite_t c1 h
    refine lv_iconst (v := 0) hx hb dX7_isTeam_13 (by decide) ?_
    exact hret _ _ _ _ dX7_isTeam_14 rfl h
  · replace h := ite_f c1 h
    refine lv_iload_n hx hb dX7_isTeam_4 rfl (lv_at hl 0 rfl) ?_
    refine lv_iconst (v := 2) hx hb dX7_isTeam_5 (by decide) ?_
    refine lv_icmp_ge (tgt := 13) hx hb dX7_isTeam_6 (by decide) (fun c2 => ?_) (fun c2 => ?_)
    · replace h := ite_t c2 h
      refine lv_iconst (v := 0) hx hb dX7_isTeam_13 (by decide) ?_
      exact hret _ _ _ _ dX7_isTeam_14 rfl h
    · replace h := ite_f c2 h
      refine lv_iconst (v := 1) hx hb dX7_isTeam_9 (by decide) ?_
      refine lv_goto (tgt := 14) hx hb dX7_isTeam_10 (by decide) ?_
      exact hret _ _ _ _ dX7_isTeam_14 rfl h

def fX1_count (v_gk : Nat → Int32) (p0 : Int32) : Option Int32 :=
  if p0 < 0 then
    some 0
  else
    if 18 ≤ p0 then
      some 0
    else
      if vin p0 18 = true then
      some (v_gk p0.toNatClampNeg)
      else none
set_option maxHeartbeats 4000000 in
set_option maxRecDepth 100000 in
theorem kX1_count (l : Launch) (D : va_G) (T : Nat → ClassId) (a_g a_gw a_gk : Nat) (v_gk : Nat → Int32) (p0 : Int32) (r : Int32) (h : fX1_count v_gk p0 = some r) : RdI l yX1_count cX1_count 2 .int ({ frames := 0, cells := 0, slots := 0, locals := 0 } : Room) D T [(a_g, .inr (1, [.ref a_gw, .ref a_gk])), (a_gk, .inl (T 0, 18, .inl v_gk))] [.ref a_g, .int p0] r := by
  unfold fX1_count at h
  refine rdMet (by decide +kernel) rfl (fun p e s m args below meth c Q C hE hP hret ls hl => ?_)
  have hx := C.1
  have hb := C.2.1
  have hl : lv_has ls 2 [(0, .ref a_g), (1, .int p0)] := hl
  refine lv_iload_n hx hb dX1_count_0 rfl (lv_at hl 1 rfl) ?_
  refine lv_if_lt (tgt := 22) hx hb dX1_count_1 (by decide) (fun c1 => ?_) (fun c1 => ?_)
  · replace h := ite_t c1 h
    refine lv_iconst (v := 0) hx hb dX1_count_22 (by decide) ?_
    exact hret _ _ _ _ dX1_count_23 rfl (Option.some.inj h)
  · replace h := ite_f c1 h
    refine lv_iload_n hx hb dX1_count_4 rfl (lv_at hl 1 rfl) ?_
    refine lv_aload_n hx hb dX1_count_5 rfl (lv_at hl 0 rfl) ?_
    refine getF (q0 := 0) (k0 := 1) (v := .ref a_gk) C hE hP inA1 rfl rfl (by decide) qFX1_15 rfl rfl dX1_count_6 ?_
    refine alen (q0 := 1) (t0 := 0) (v := 18) C hE hP rfl rfl (by decide) dX1_count_9 ?_
    refine lv_icmp_ge (tgt := 22) hx hb dX1_count_10 (by decide) (fun c2 => ?_) (fun c2 => ?_)
    · replace h := ite_t c2 h
      refine lv_iconst (v := 0) hx hb dX1_count_22 (by decide) ?_
      exact hret _ _ _ _ dX1_count_23 rfl (Option.some.inj h)
    · replace h := ite_f c2 h
      refine lv_aload_n hx hb dX1_count_13 rfl (lv_at hl 0 rfl) ?_
      refine getF (q0 := 0) (k0 := 1) (v := .ref a_gk) C hE hP inA1 rfl rfl (by decide) qFX1_15 rfl rfl dX1_count_14 ?_
      refine lv_iload_n hx hb dX1_count_17 rfl (lv_at hl 1 rfl) ?_
      replace h := gd h; obtain ⟨g3, h⟩ := h
      refine aldI (q0 := 1) C hE hP rfl g3 dX1_count_18 ?_
      refine lv_goto (tgt := 23) hx hb dX1_count_19 (by decide) ?_
      exact hret _ _ _ _ dX1_count_23 rfl (Option.some.inj h)

def fX1_of (v_gw : Nat → Int32) (p0 : Int32) (p1 : Int32) : Option Int32 :=
  if ((p0 * 9) + p1) < 0 then
    some 0
  else
    if 90 ≤ ((p0 * 9) + p1) then
      some 0
    else
      if vin ((p0 * 9) + p1) 90 = true then
      some (v_gw ((p0 * 9) + p1).toNatClampNeg)
      else none
set_option maxHeartbeats 4000000 in
set_option maxRecDepth 100000 in
theorem kX1_of (l : Launch) (D : va_G) (T : Nat → ClassId) (a_g a_gw a_gk : Nat) (v_gw : Nat → Int32) (p0 : Int32) (p1 : Int32) (r : Int32) (h : fX1_of v_gw p0 p1 = some r) : RdI l yX1_of cX1_of 4 .int ({ frames := 0, cells := 0, slots := 0, locals := 0 } : Room) D T [(a_g, .inr (1, [.ref a_gw, .ref a_gk])), (a_gw, .inl (T 0, 90, .inl v_gw))] [.ref a_g, .int p0, .int p1] r := by
  unfold fX1_of at h
  refine rdMet (by decide +kernel) rfl (fun p e s m args below meth c Q C hE hP hret ls hl => ?_)
  have hx := C.1
  have hb := C.2.1
  have hl : lv_has ls 4 [(0, .ref a_g), (1, .int p0), (2, .int p1)] := hl
  refine lv_iload_n hx hb dX1_of_0 rfl (lv_at hl 1 rfl) ?_
  refine lv_bipush (v := 9) hx hb dX1_of_1 (by decide) ?_
  refine lv_imul hx hb dX1_of_3 ?_
  refine lv_iload_n hx hb dX1_of_4 rfl (lv_at hl 2 rfl) ?_
  refine lv_iadd hx hb dX1_of_5 ?_
  refine lv_istore_n (lv' := [(3, .int ((p0 * 9) + p1)), (0, .ref a_g), (1, .int p0), (2, .int p1)]) hx hb dX1_of_6 rfl hl (by decide) rfl (fun ls hl => ?_)
  refine lv_iload_n hx hb dX1_of_7 rfl (lv_at hl 0 rfl) ?_
  refine lv_if_lt (tgt := 29) hx hb dX1_of_8 (by decide) (fun c1 => ?_) (fun c1 => ?_)
  · replace h := ite_t c1 h
    refine lv_iconst (v := 0) hx hb dX1_of_29 (by decide) ?_
    exact hret _ _ _ _ dX1_of_30 rfl (Option.some.inj h)
  · replace h := ite_f c1 h
    refine lv_iload_n hx hb dX1_of_11 rfl (lv_at hl 0 rfl) ?_
    refine lv_aload_n hx hb dX1_of_12 rfl (lv_at hl 1 rfl) ?_
    refine getF (q0 := 0) (k0 := 0) (v := .ref a_gw) C hE hP inA1 rfl rfl (by decide) qFX1_9 rfl rfl dX1_of_13 ?_
    refine alen (q0 := 1) (t0 := 0) (v := 90) C hE hP rfl rfl (by decide) dX1_of_16 ?_
    refine lv_icmp_ge (tgt := 29) hx hb dX1_of_17 (by decide) (fun c2 => ?_) (fun c2 => ?_)
    · replace h := ite_t c2 h
      refine lv_iconst (v := 0) hx hb dX1_of_29 (by decide) ?_
      exact hret _ _ _ _ dX1_of_30 rfl (Option.some.inj h)
    · replace h := ite_f c2 h
      refine lv_aload_n hx hb dX1_of_20 rfl (lv_at hl 1 rfl) ?_
      refine getF (q0 := 0) (k0 := 0) (v := .ref a_gw) C hE hP inA1 rfl rfl (by decide) qFX1_9 rfl rfl dX1_of_21 ?_
      refine lv_iload_n hx hb dX1_of_24 rfl (lv_at hl 0 rfl) ?_
      replace h := gd h; obtain ⟨g3, h⟩ := h
      refine aldI (q0 := 1) C hE hP rfl g3 dX1_of_25 ?_
      refine lv_goto (tgt := 30) hx hb dX1_of_26 (by decide) ?_
      exact hret _ _ _ _ dX1_of_30 rfl (Option.some.inj h)

def fX1_countOf_29 (v_gw : Nat → Int32) (v_gk : Nat → Int32) (rec4 : Int32 → Int32 → Int32 → Option Int32) (x0 : Int32) (x1 : Int32) (l1 : Int32) (l3 : Int32) : Option Int32 :=
  rec4 l1 (x0 + x1) (l3 + 1)
def fX1_countOf_4 (v_gw : Nat → Int32) (v_gk : Nat → Int32) : Nat → Int32 → Int32 → Int32 → Option Int32
  | 0, _, _, _ => none
  | k + 1, l1, l2, l3 =>
    (fX1_count v_gk 0).bind fun q1 =>
    if q1 ≤ l3 then
      some l2
    else
      (fX1_of v_gw l3 0).bind fun q4 =>
      fX1_countOf_29 v_gw v_gk (fX1_countOf_4 v_gw v_gk k) l2 (if q4 = l1 then 1 else 0) l1 l3
def fX1_countOf (v_gw : Nat → Int32) (v_gk : Nat → Int32) (p0 : Int32) : Option Int32 :=
  fX1_countOf_4 v_gw v_gk 64 p0 0 0
set_option maxHeartbeats 4000000 in
set_option maxRecDepth 100000 in
theorem lX1_countOf_29 {p : Program} {l : Launch} {e : Env} {s : State} {m : MethodId} {args : Array Value} {below : List Frame} {meth : Method} {c : Code} {Q : State → Prop} {D : va_G} {T : Nat → ClassId} {a_g a_gw a_gk : Nat} {v_gw : Nat → Int32} {v_gk : Nat → Int32} {r : Int32} (C : CallFix p m c cX1_countOf 4 s args aw RX1) (hE : eK D T s) (hP : va_P D kC [(a_g, .inr (1, [.ref a_gw, .ref a_gk])), (a_gw, .inl (T 0, 90, .inl v_gw)), (a_gk, .inl (T 0, 18, .inl v_gk))] s.heap) (hret : RdRet p l e ({ frames := 1, cells := 0, slots := 0, locals := 23 } : Room) s m args below meth c Q cX1_countOf .int r) {rec4 : Int32 → Int32 → Int32 → Option Int32} (hrec4 : ∀ (l1 : Int32) (l2 : Int32) (l3 : Int32) (ls : Array Slot) (hl : lv_has ls 4 [(0, .ref a_g), (1, .int l1), (2, .int l2), (3, .int l3)]) (h : rec4 l1 l2 l3 = some r), W p l e ({ frames := 1, cells := 0, slots := 0, locals := 23 } : Room) s m args below meth c s.heap [] 0 0 Q (F0 m 4 ls [])) (x0 : Int32) (x1 : Int32) (l1 : Int32) (l3 : Int32) (ls : Array Slot) (hl : lv_has ls 4 [(0, .ref a_g), (1, .int l1), (3, .int l3)]) (h : fX1_countOf_29 v_gw v_gk rec4 x0 x1 l1 l3 = some r) : W p l e ({ frames := 1, cells := 0, slots := 0, locals := 23 } : Room) s m args below meth c s.heap [] 0 0 Q (F0 m 29 ls [.int x1, .int x0]) := by
  have hx := C.1
  have hb := C.2.1
  unfold fX1_countOf_29 at h
  refine lv_iadd hx hb dX1_countOf_29 ?_
  refine lv_istore_n (lv' := [(2, .int (x0 + x1)), (0, .ref a_g), (1, .int l1), (3, .int l3)]) hx hb dX1_countOf_30 rfl hl (by decide) rfl (fun ls hl => ?_)
  refine lv_iinc (v := (l3 + 1)) (lv' := [(3, .int (l3 + 1)), (2, .int (x0 + x1)), (0, .ref a_g), (1, .int l1)]) hx hb dX1_countOf_31 hl (k := 3) rfl rfl (by decide) rfl (fun ls hl => ?_)
  refine lv_goto (tgt := 4) hx hb dX1_countOf_34 (by decide) ?_
  exact hrec4 l1 (x0 + x1) (l3 + 1) _ (lv_sub hl [2, 3, 1, 0] rfl) h
set_option maxHeartbeats 4000000 in
set_option maxRecDepth 100000 in
theorem lX1_countOf_4 {p : Program} {l : Launch} {e : Env} {s : State} {m : MethodId} {args : Array Value} {below : List Frame} {meth : Method} {c : Code} {Q : State → Prop} {D : va_G} {T : Nat → ClassId} {a_g a_gw a_gk : Nat} {v_gw : Nat → Int32} {v_gk : Nat → Int32} {r : Int32} (C : CallFix p m c cX1_countOf 4 s args aw RX1) (hE : eK D T s) (hP : va_P D kC [(a_g, .inr (1, [.ref a_gw, .ref a_gk])), (a_gw, .inl (T 0, 90, .inl v_gw)), (a_gk, .inl (T 0, 18, .inl v_gk))] s.heap) (hret : RdRet p l e ({ frames := 1, cells := 0, slots := 0, locals := 23 } : Room) s m args below meth c Q cX1_countOf .int r) : ∀ (k : Nat) (l1 : Int32) (l2 : Int32) (l3 : Int32) (ls : Array Slot) (hl : lv_has ls 4 [(0, .ref a_g), (1, .int l1), (2, .int l2), (3, .int l3)]) (h : fX1_countOf_4 v_gw v_gk k l1 l2 l3 = some r), W p l e ({ frames := 1, cells := 0, slots := 0, locals := 23 } : Room) s m args below meth c s.heap [] 0 0 Q (F0 m 4 ls []) := by
  have hx := C.1
  have hb := C.2.1
  intro k
  induction k with
  | zero =>
    intro l1 l2 l3  ls hl h
    exact nomatch (show (none : Option Int32) = some r from h)
  | succ k ih =>
    intro l1 l2 l3  ls hl h
    rw [fX1_countOf_4] at h
    refine lv_iload_n hx hb dX1_countOf_4 rfl (lv_at hl 3 rfl) ?_
    refine lv_aload_n hx hb dX1_countOf_5 rfl (lv_at hl 0 rfl) ?_
    refine lv_iconst (v := 0) hx hb dX1_countOf_6 (by decide) ?_
    replace h := bnd h; obtain ⟨q1, e2, h⟩ := h
    refine rdV C hE hP (kX1_count l D T a_g a_gw a_gk v_gk 0 q1 e2) mX1_count qLX1_28 [0, 2] 0 rfl rfl rfl rfl ⟨rfl, rfl⟩ ⟨Nat.le_of_ble_eq_true rfl, Nat.le_of_ble_eq_true rfl⟩ rfl hl.1 rfl (Nat.le_of_ble_eq_true rfl) dX1_countOf_7 ⟨Nat.le_of_ble_eq_true rfl, Nat.le_of_ble_eq_true rfl⟩ ?_
    refine lv_icmp_ge (tgt := 37) hx hb dX1_countOf_10 (by decide) (fun c3 => ?_) (fun c3 => ?_)
    · replace h := ite_t c3 h
      refine lv_iload_n hx hb dX1_countOf_37 rfl (lv_at hl 2 rfl) ?_
      exact hret _ _ _ _ dX1_countOf_38 rfl (Option.some.inj h)
    · replace h := ite_f c3 h
      refine lv_iload_n hx hb dX1_countOf_13 rfl (lv_at hl 2 rfl) ?_
      refine lv_aload_n hx hb dX1_countOf_14 rfl (lv_at hl 0 rfl) ?_
      refine lv_iload_n hx hb dX1_countOf_15 rfl (lv_at hl 3 rfl) ?_
      refine lv_iconst (v := 0) hx hb dX1_countOf_16 (by decide) ?_
      replace h := bnd h; obtain ⟨q4, e5, h⟩ := h
      refine rdV C hE hP (kX1_of l D T a_g a_gw a_gk v_gw l3 0 q4 e5) mX1_of qLX1_32 [0, 1] 0 rfl rfl rfl rfl ⟨rfl, rfl⟩ ⟨Nat.le_of_ble_eq_true rfl, Nat.le_of_ble_eq_true rfl⟩ rfl hl.1 rfl (Nat.le_of_ble_eq_true rfl) dX1_countOf_17 ⟨Nat.le_of_ble_eq_true rfl, Nat.le_of_ble_eq_true rfl⟩ ?_
      refine lv_iload_n hx hb dX1_countOf_20 rfl (lv_at hl 1 rfl) ?_
      refine lv_icmp_ne (tgt := 28) hx hb dX1_countOf_21 (by decide) (fun c6 => ?_) (fun c6 => ?_)
      · rw [if_neg c6] at h
        refine lv_iconst (v := 0) hx hb dX1_countOf_28 (by decide) ?_
        exact lX1_countOf_29 C hE hP hret ih l2 0 l1 l3 _ (lv_sub hl [0, 1, 3] rfl) h
      · rw [if_pos c6] at h
        refine lv_iconst (v := 1) hx hb dX1_countOf_24 (by decide) ?_
        refine lv_goto (tgt := 29) hx hb dX1_countOf_25 (by decide) ?_
        exact lX1_countOf_29 C hE hP hret ih l2 1 l1 l3 _ (lv_sub hl [0, 1, 3] rfl) h
set_option maxHeartbeats 4000000 in
set_option maxRecDepth 100000 in
theorem kX1_countOf (l : Launch) (D : va_G) (T : Nat → ClassId) (a_g a_gw a_gk : Nat) (v_gw : Nat → Int32) (v_gk : Nat → Int32) (p0 : Int32) (r : Int32) (h : fX1_countOf v_gw v_gk p0 = some r) : RdI l yX1_countOf cX1_countOf 4 .int ({ frames := 1, cells := 0, slots := 0, locals := 23 } : Room) D T [(a_g, .inr (1, [.ref a_gw, .ref a_gk])), (a_gw, .inl (T 0, 90, .inl v_gw)), (a_gk, .inl (T 0, 18, .inl v_gk))] [.ref a_g, .int p0] r := by
  unfold fX1_countOf at h
  refine rdMet (by decide +kernel) rfl (fun p e s m args below meth c Q C hE hP hret ls hl => ?_)
  have hx := C.1
  have hb := C.2.1
  have hl : lv_has ls 4 [(0, .ref a_g), (1, .int p0)] := hl
  refine lv_iconst (v := 0) hx hb dX1_countOf_0 (by decide) ?_
  refine lv_istore_n (lv' := [(2, .int 0), (0, .ref a_g), (1, .int p0)]) hx hb dX1_countOf_1 rfl hl (by decide) rfl (fun ls hl => ?_)
  refine lv_iconst (v := 0) hx hb dX1_countOf_2 (by decide) ?_
  refine lv_istore_n (lv' := [(3, .int 0), (2, .int 0), (0, .ref a_g), (1, .int p0)]) hx hb dX1_countOf_3 rfl hl (by decide) rfl (fun ls hl => ?_)
  exact lX1_countOf_4 C hE hP hret 64 p0 0 0 _ (lv_sub hl [2, 3, 1, 0] rfl) h

def fX1_firstCell_24 (v_gw : Nat → Int32) (v_gk : Nat → Int32) (x0 : Int32) (l2 : Int32) : Option Int32 :=
  some (x0 + (l2 * 9))
def fX1_firstCell (v_gw : Nat → Int32) (v_gk : Nat → Int32) (p0 : Int32) : Option Int32 :=
  (fX1_countOf v_gw v_gk p0).bind fun q1 =>
  if q1 < 3 then
    fX1_firstCell_24 v_gw v_gk (if p0 = 0 then 10 else 16) q1
  else
    some (-1)
set_option maxHeartbeats 4000000 in
set_option maxRecDepth 100000 in
theorem lX1_firstCell_24 {p : Program} {l : Launch} {e : Env} {s : State} {m : MethodId} {args : Array Value} {below : List Frame} {meth : Method} {c : Code} {Q : State → Prop} {D : va_G} {T : Nat → ClassId} {a_g a_gw a_gk : Nat} {v_gw : Nat → Int32} {v_gk : Nat → Int32} {r : Int32} (C : CallFix p m c cX1_firstCell 4 s args aw RX1) (hE : eK D T s) (hP : va_P D kC [(a_g, .inr (1, [.ref a_gw, .ref a_gk])), (a_gw, .inl (T 0, 90, .inl v_gw)), (a_gk, .inl (T 0, 18, .inl v_gk))] s.heap) (hret : RdRet p l e ({ frames := 2, cells := 0, slots := 0, locals := 46 } : Room) s m args below meth c Q cX1_firstCell .int r) (x0 : Int32) (l2 : Int32) (ls : Array Slot) (hl : lv_has ls 4 [(2, .int l2)]) (h : fX1_firstCell_24 v_gw v_gk x0 l2 = some r) : W p l e ({ frames := 2, cells := 0, slots := 0, locals := 46 } : Room) s m args below meth c s.heap [] 0 0 Q (F0 m 24 ls [.int x0]) := by
  have hx := C.1
  have hb := C.2.1
  unfold fX1_firstCell_24 at h
  refine lv_istore_n (lv' := [(3, .int x0), (2, .int l2)]) hx hb dX1_firstCell_24 rfl hl (by decide) rfl (fun ls hl => ?_)
  refine lv_iload_n hx hb dX1_firstCell_25 rfl (lv_at hl 0 rfl) ?_
  refine lv_iload_n hx hb dX1_firstCell_26 rfl (lv_at hl 1 rfl) ?_
  refine lv_bipush (v := 9) hx hb dX1_firstCell_27 (by decide) ?_
  refine lv_imul hx hb dX1_firstCell_29 ?_
  refine lv_iadd hx hb dX1_firstCell_30 ?_
  exact hret _ _ _ _ dX1_firstCell_31 rfl (Option.some.inj h)
set_option maxHeartbeats 4000000 in
set_option maxRecDepth 100000 in
theorem kX1_firstCell (l : Launch) (D : va_G) (T : Nat → ClassId) (a_g a_gw a_gk : Nat) (v_gw : Nat → Int32) (v_gk : Nat → Int32) (p0 : Int32) (r : Int32) (h : fX1_firstCell v_gw v_gk p0 = some r) : RdI l yX1_firstCell cX1_firstCell 4 .int ({ frames := 2, cells := 0, slots := 0, locals := 46 } : Room) D T [(a_g, .inr (1, [.ref a_gw, .ref a_gk])), (a_gw, .inl (T 0, 90, .inl v_gw)), (a_gk, .inl (T 0, 18, .inl v_gk))] [.ref a_g, .int p0] r := by
  unfold fX1_firstCell at h
  refine rdMet (by decide +kernel) rfl (fun p e s m args below meth c Q C hE hP hret ls hl => ?_)
  have hx := C.1
  have hb := C.2.1
  have hl : lv_has ls 4 [(0, .ref a_g), (1, .int p0)] := hl
  refine lv_aload_n hx hb dX1_firstCell_0 rfl (lv_at hl 0 rfl) ?_
  refine lv_iload_n hx hb dX1_firstCell_1 rfl (lv_at hl 1 rfl) ?_
  replace h := bnd h; obtain ⟨q1, e2, h⟩ := h
  refine rdV C hE hP (kX1_countOf l D T a_g a_gw a_gk v_gw v_gk p0 q1 e2) mX1_countOf qLX1_53 [0, 1, 2] 0 rfl rfl rfl rfl ⟨rfl, rfl⟩ ⟨Nat.le_of_ble_eq_true rfl, Nat.le_of_ble_eq_true rfl⟩ rfl hl.1 rfl (Nat.le_of_ble_eq_true rfl) dX1_firstCell_2 ⟨Nat.le_of_ble_eq_true rfl, Nat.le_of_ble_eq_true rfl⟩ ?_
  refine lv_istore_n (lv' := [(2, .int q1), (0, .ref a_g), (1, .int p0)]) hx hb dX1_firstCell_5 rfl hl (by decide) rfl (fun ls hl => ?_)
  refine lv_iload_n hx hb dX1_firstCell_6 rfl (lv_at hl 0 rfl) ?_
  refine lv_iconst (v := 3) hx hb dX1_firstCell_7 (by decide) ?_
  refine lv_icmp_lt (tgt := 13) hx hb dX1_firstCell_8 (by decide) (fun c3 => ?_) (fun c3 => ?_)
  · replace h := ite_t c3 h
    refine lv_iload_n hx hb dX1_firstCell_13 rfl (lv_at hl 2 rfl) ?_
    refine lv_if_ne (tgt := 22) hx hb dX1_firstCell_14 (by decide) (fun c4 => ?_) (fun c4 => ?_)
    · rw [if_neg c4] at h
      refine lv_bipush (v := 16) hx hb dX1_firstCell_22 (by decide) ?_
      exact lX1_firstCell_24 C hE hP hret 16 q1 _ (lv_sub hl [0] rfl) h
    · rw [if_pos c4] at h
      refine lv_bipush (v := 10) hx hb dX1_firstCell_17 (by decide) ?_
      refine lv_goto (tgt := 24) hx hb dX1_firstCell_19 (by decide) ?_
      exact lX1_firstCell_24 C hE hP hret 10 q1 _ (lv_sub hl [0] rfl) h
  · replace h := ite_f c3 h
    refine lv_iconst (v := (-1)) hx hb dX1_firstCell_11 (by decide) ?_
    exact hret _ _ _ _ dX1_firstCell_12 rfl (Option.some.inj h)

def fX1_whaleOn_2 (v_gw : Nat → Int32) (v_gk : Nat → Int32) : Nat → Int32 → Int32 → Option Int32
  | 0, _, _ => none
  | k + 1, l1, l2 =>
    (fX1_count v_gk 0).bind fun q1 =>
    if q1 ≤ l2 then
      some (-1)
    else
      (fX1_of v_gw l2 4).bind fun q4 =>
      if q4 = l1 then
        some l2
      else
        fX1_whaleOn_2 v_gw v_gk k l1 (l2 + 1)
def fX1_whaleOn (v_gw : Nat → Int32) (v_gk : Nat → Int32) (p0 : Int32) : Option Int32 :=
  fX1_whaleOn_2 v_gw v_gk 64 p0 0
set_option maxHeartbeats 4000000 in
set_option maxRecDepth 100000 in
theorem lX1_whaleOn_2 {p : Program} {l : Launch} {e : Env} {s : State} {m : MethodId} {args : Array Value} {below : List Frame} {meth : Method} {c : Code} {Q : State → Prop} {D : va_G} {T : Nat → ClassId} {a_g a_gw a_gk : Nat} {v_gw : Nat → Int32} {v_gk : Nat → Int32} {r : Int32} (C : CallFix p m c cX1_whaleOn 3 s args aw RX1) (hE : eK D T s) (hP : va_P D kC [(a_g, .inr (1, [.ref a_gw, .ref a_gk])), (a_gw, .inl (T 0, 90, .inl v_gw)), (a_gk, .inl (T 0, 18, .inl v_gk))] s.heap) (hret : RdRet p l e ({ frames := 1, cells := 0, slots := 0, locals := 23 } : Room) s m args below meth c Q cX1_whaleOn .int r) : ∀ (k : Nat) (l1 : Int32) (l2 : Int32) (ls : Array Slot) (hl : lv_has ls 3 [(0, .ref a_g), (1, .int l1), (2, .int l2)]) (h : fX1_whaleOn_2 v_gw v_gk k l1 l2 = some r), W p l e ({ frames := 1, cells := 0, slots := 0, locals := 23 } : Room) s m args below meth c s.heap [] 0 0 Q (F0 m 2 ls []) := by
  have hx := C.1
  have hb := C.2.1
  intro k
  induction k with
  | zero =>
    intro l1 l2  ls hl h
    exact nomatch (show (none : Option Int32) = some r from h)
  | succ k ih =>
    intro l1 l2  ls hl h
    rw [fX1_whaleOn_2] at h
    refine lv_iload_n hx hb dX1_whaleOn_2 rfl (lv_at hl 2 rfl) ?_
    refine lv_aload_n hx hb dX1_whaleOn_3 rfl (lv_at hl 0 rfl) ?_
    refine lv_iconst (v := 0) hx hb dX1_whaleOn_4 (by decide) ?_
    replace h := bnd h; obtain ⟨q1, e2, h⟩ := h
    refine rdV C hE hP (kX1_count l D T a_g a_gw a_gk v_gk 0 q1 e2) mX1_count qLX1_28 [0, 2] 0 rfl rfl rfl rfl ⟨rfl, rfl⟩ ⟨Nat.le_of_ble_eq_true rfl, Nat.le_of_ble_eq_true rfl⟩ rfl hl.1 rfl (Nat.le_of_ble_eq_true rfl) dX1_whaleOn_5 ⟨Nat.le_of_ble_eq_true rfl, Nat.le_of_ble_eq_true rfl⟩ ?_
    refine lv_icmp_ge (tgt := 29) hx hb dX1_whaleOn_8 (by decide) (fun c3 => ?_) (fun c3 => ?_)
    · replace h := ite_t c3 h
      refine lv_iconst (v := (-1)) hx hb dX1_whaleOn_29 (by decide) ?_
      exact hret _ _ _ _ dX1_whaleOn_30 rfl (Option.some.inj h)
    · replace h := ite_f c3 h
      refine lv_aload_n hx hb dX1_whaleOn_11 rfl (lv_at hl 0 rfl) ?_
      refine lv_iload_n hx hb dX1_whaleOn_12 rfl (lv_at hl 2 rfl) ?_
      refine lv_iconst (v := 4) hx hb dX1_whaleOn_13 (by decide) ?_
      replace h := bnd h; obtain ⟨q4, e5, h⟩ := h
      refine rdV C hE hP (kX1_of l D T a_g a_gw a_gk v_gw l2 4 q4 e5) mX1_of qLX1_32 [0, 1] 0 rfl rfl rfl rfl ⟨rfl, rfl⟩ ⟨Nat.le_of_ble_eq_true rfl, Nat.le_of_ble_eq_true rfl⟩ rfl hl.1 rfl (Nat.le_of_ble_eq_true rfl) dX1_whaleOn_14 ⟨Nat.le_of_ble_eq_true rfl, Nat.le_of_ble_eq_true rfl⟩ ?_
      refine lv_iload_n hx hb dX1_whaleOn_17 rfl (lv_at hl 1 rfl) ?_
      refine lv_icmp_ne (tgt := 23) hx hb dX1_whaleOn_18 (by decide) (fun c6 => ?_) (fun c6 => ?_)
      · replace h := ite_f c6 h
        refine lv_iinc (v := (l2 + 1)) (lv' := [(2, .int (l2 + 1)), (0, .ref a_g), (1, .int l1)]) hx hb dX1_whaleOn_23 hl (k := 2) rfl rfl (by decide) rfl (fun ls hl => ?_)
        refine lv_goto (tgt := 2) hx hb dX1_whaleOn_26 (by decide) ?_
        exact ih l1 (l2 + 1) _ (lv_sub hl [1, 2, 0] rfl) h
      · replace h := ite_t c6 h
        refine lv_iload_n hx hb dX1_whaleOn_21 rfl (lv_at hl 2 rfl) ?_
        exact hret _ _ _ _ dX1_whaleOn_22 rfl (Option.some.inj h)
set_option maxHeartbeats 4000000 in
set_option maxRecDepth 100000 in
theorem kX1_whaleOn (l : Launch) (D : va_G) (T : Nat → ClassId) (a_g a_gw a_gk : Nat) (v_gw : Nat → Int32) (v_gk : Nat → Int32) (p0 : Int32) (r : Int32) (h : fX1_whaleOn v_gw v_gk p0 = some r) : RdI l yX1_whaleOn cX1_whaleOn 3 .int ({ frames := 1, cells := 0, slots := 0, locals := 23 } : Room) D T [(a_g, .inr (1, [.ref a_gw, .ref a_gk])), (a_gw, .inl (T 0, 90, .inl v_gw)), (a_gk, .inl (T 0, 18, .inl v_gk))] [.ref a_g, .int p0] r := by
  unfold fX1_whaleOn at h
  refine rdMet (by decide +kernel) rfl (fun p e s m args below meth c Q C hE hP hret ls hl => ?_)
  have hx := C.1
  have hb := C.2.1
  have hl : lv_has ls 3 [(0, .ref a_g), (1, .int p0)] := hl
  refine lv_iconst (v := 0) hx hb dX1_whaleOn_0 (by decide) ?_
  refine lv_istore_n (lv' := [(2, .int 0), (0, .ref a_g), (1, .int p0)]) hx hb dX1_whaleOn_1 rfl hl (by decide) rfl (fun ls hl => ?_)
  exact lX1_whaleOn_2 C hE hP hret 64 p0 0 _ (lv_sub hl [1, 2, 0] rfl) h

def fX6_refuse (u_det : Int32) (p0 : Int32) (p1 : Int32) : Option (Int32 × Int32) :=
  some (p0, p1)
set_option maxHeartbeats 4000000 in
set_option maxRecDepth 100000 in
theorem kX6_refuse (l : Launch) (D : va_G) (T : Nat → ClassId) (a_u a_g a_r : Nat) (u_det : Int32) (p0 : Int32) (p1 : Int32) (sz : Nat) (r : Int32 × Int32) (h : fX6_refuse u_det p0 p1 = some r) : WrI l yX6_refuse cX6_refuse 3 .int ({ frames := 0, cells := 0, slots := 0, locals := 0 } : Room) D T sz [(a_u, .inr (6, [.ref a_g, .ref a_r, .int u_det]))] [(a_u, .inr (6, [.ref a_g, .ref a_r, .int r.2]))] [.ref a_u, .int p0, .int p1] r.1 := by
  unfold fX6_refuse at h
  refine wrMet (by decide +kernel) rfl (fun p e s m args below meth c Q A C hE hA hP hD hS hret ls hl => ?_)
  have hx := C.1
  have hb := C.2.1
  have hl : lv_has ls 3 [(0, .ref a_u), (1, .int p0), (2, .int p1)] := hl
  refine lv_aload_n hx hb dX6_refuse_0 rfl (lv_at hl 0 rfl) ?_
  refine lv_iload_n hx hb dX6_refuse_1 rfl (lv_at hl 2 rfl) ?_
  refine putF (q0 := 0) (k0 := 2) (ws1 := [(a_u, .inr (6, [.ref a_g, .ref a_r, .int p1]))]) C hE hP hD hS inA6 tyX6_ok nmX6 rfl rfl (by decide) qFX6_9 rfl rfl rfl rfl (Nat.le_of_ble_eq_true rfl) rfl dX6_refuse_2 ?_; clear hP hD hS; intro H locs hP hD hS
  refine lv_iload_n hx hb dX6_refuse_5 rfl (lv_at hl 1 rfl) ?_
  replace h := Option.some.inj h
  exact hret _ _ _ _ _ _ dX6_refuse_6 rfl (by rw [← h] <;> rfl) (by rw [← h]; exact hP) hS

def fX6_comeFault_102 (v_gw : Nat → Int32) (v_gk : Nat → Int32) (x0 : Int32) (u_det : Int32) : Option (Int32 × Int32) :=
  if x0 = (-1) then
    some (0, u_det)
  else
    (fX6_refuse u_det 7 x0).bind fun q19 =>
    some (q19.1, q19.2)
def fX6_comeFault_32 (v_gw : Nat → Int32) (v_gk : Nat → Int32) (x0 : Int32) (l1 : Int32) (l4 : Int32) (u_det : Int32) : Option (Int32 × Int32) :=
  if (fX7_isTeam l1) = 0 then
    some ((-2), u_det)
  else
    if l4 = 0 then
      some ((-2), u_det)
    else
      if x0 = 0 then
        some ((-2), u_det)
      else
        (fX1_countOf v_gw v_gk l1).bind fun q8 =>
        if q8 < 5 then
          (fX1_firstCell v_gw v_gk l1).bind fun q11 =>
          if q11 = (-1) then
            fX6_comeFault_102 v_gw v_gk (-1) u_det
          else
            (fX1_whaleOn v_gw v_gk q11).bind fun q14 =>
            fX6_comeFault_102 v_gw v_gk q14 u_det
        else
          (fX6_refuse u_det 1 5).bind fun q16 =>
          some (q16.1, q16.2)
def fX6_comeFault_15 (v_gw : Nat → Int32) (v_gk : Nat → Int32) (x0 : Int32) (l1 : Int32) (l3 : Int32) (u_det : Int32) : Option (Int32 × Int32) :=
  fX6_comeFault_32 v_gw v_gk (if l3 < 1 then 0 else (if 4 < l3 then 0 else 1)) l1 x0 u_det
def fX6_comeFault (u_det : Int32) (v_gw : Nat → Int32) (v_gk : Nat → Int32) (p0 : Int32) (p1 : Int32) (p2 : Int32) : Option (Int32 × Int32) :=
  fX6_comeFault_15 v_gw v_gk (if p1 < 1 then 0 else (if 5 < p1 then 0 else 1)) p0 p2 u_det
set_option maxHeartbeats 4000000 in
set_option maxRecDepth 100000 in
theorem lX6_comeFault_102 {p : Program} {l : Launch} {e : Env} {s : State} {m : MethodId} {args : Array Value} {below : List Frame} {meth : Method} {c : Code} {Q : State → Prop} {D : va_G} {T : Nat → ClassId} {a_g a_gw a_gk a_u a_r : Nat} {v_gw : Nat → Int32} {v_gk : Nat → Int32} {A : Nat → Prop} {r : Int32 × Int32} (C : CallFix p m c cX6_comeFault 8 s args aw RX6) (hE : eK D T s) (hA : ∀ q : Nat, s.heap.size ≤ q → A q) (hret : WrRet p l e ({ frames := 3, cells := 0, slots := 0, locals := 69 } : Room) s m args below meth c Q cX6_comeFault .int D A [(a_g, .inr (1, [.ref a_gw, .ref a_gk])), (a_u, .inr (6, [.ref a_g, .ref a_r, .int r.2])), (a_gw, .inl (T 0, 90, .inl v_gw)), (a_gk, .inl (T 0, 18, .inl v_gk))] r.1) (x0 : Int32) (u_det : Int32) {H : Heap} {locs : List Loc} (hPD : va_PD D A [(a_g, .inr (1, [.ref a_gw, .ref a_gk])), (a_u, .inr (6, [.ref a_g, .ref a_r, .int u_det])), (a_gw, .inl (T 0, 90, .inl v_gw)), (a_gk, .inl (T 0, 18, .inl v_gk))] H) (hS : va_S A s.heap H locs) (ls : Array Slot) (hl : lv_has ls 8 [(0, .ref a_u)]) (h : fX6_comeFault_102 v_gw v_gk x0 u_det = some r) : W p l e ({ frames := 3, cells := 0, slots := 0, locals := 69 } : Room) s m args below meth c H locs 0 0 Q (F0 m 102 ls [.int x0]) := by
  have hx := C.1
  have hb := C.2.1
  obtain ⟨hP, hD⟩ := hPD
  unfold fX6_comeFault_102 at h
  refine lv_istore (lv' := [(7, .int x0), (0, .ref a_u)]) hx hb dX6_comeFault_102 hl (by decide) rfl (fun ls hl => ?_)
  refine lv_iload hx hb dX6_comeFault_104 (lv_at hl 0 rfl) ?_
  refine lv_iconst (v := (-1)) hx hb dX6_comeFault_106 (by decide) ?_
  refine lv_icmp_ne (tgt := 114) hx hb dX6_comeFault_107 (by decide) (fun c18 => ?_) (fun c18 => ?_)
  · replace h := ite_f c18 h
    refine lv_aload_n hx hb dX6_comeFault_114 rfl (lv_at hl 1 rfl) ?_
    refine lv_bipush (v := 7) hx hb dX6_comeFault_115 (by decide) ?_
    refine lv_iload hx hb dX6_comeFault_117 (lv_at hl 0 rfl) ?_
    replace h := bnd h; obtain ⟨q19, e20, h⟩ := h
    refine wrVi (ws1 := [(a_g, .inr (1, [.ref a_gw, .ref a_gk])), (a_u, .inr (6, [.ref a_g, .ref a_r, .int q19.2])), (a_gw, .inl (T 0, 90, .inl v_gw)), (a_gk, .inl (T 0, 18, .inl v_gk))]) C hE hP hD hS hA (kX6_refuse l D T a_u a_g a_r u_det 7 x0 _ q19 e20) mX6_refuse qLX6_33 [1] [0, 2, 3] 1 rfl rfl rfl rfl rfl rfl rfl rfl rfl ⟨rfl, rfl⟩ ⟨Nat.le_of_ble_eq_true rfl, Nat.le_of_ble_eq_true rfl⟩ rfl hl.1 rfl (Nat.le_of_ble_eq_true rfl) dX6_comeFault_119 ⟨Nat.le_of_ble_eq_true rfl, Nat.le_of_ble_eq_true rfl⟩ ?_; clear hP hD hS; intro H locs hP hD hS
    replace h := Option.some.inj h
    exact hret _ _ _ _ _ _ dX6_comeFault_122 rfl (by rw [← h] <;> rfl) (by rw [← h]; exact hP) hS
  · replace h := ite_t c18 h
    refine lv_iconst (v := 0) hx hb dX6_comeFault_110 (by decide) ?_
    refine lv_goto (tgt := 122) hx hb dX6_comeFault_111 (by decide) ?_
    replace h := Option.some.inj h
    exact hret _ _ _ _ _ _ dX6_comeFault_122 rfl (by rw [← h] <;> rfl) (by rw [← h]; exact hP) hS
set_option maxHeartbeats 4000000 in
set_option maxRecDepth 100000 in
theorem lX6_comeFault_32 {p : Program} {l : Launch} {e : Env} {s : State} {m : MethodId} {args : Array Value} {below : List Frame} {meth : Method} {c : Code} {Q : State → Prop} {D : va_G} {T : Nat → ClassId} {a_g a_gw a_gk a_u a_r : Nat} {v_gw : Nat → Int32} {v_gk : Nat → Int32} {A : Nat → Prop} {r : Int32 × Int32} (C : CallFix p m c cX6_comeFault 8 s args aw RX6) (hE : eK D T s) (hA : ∀ q : Nat, s.heap.size ≤ q → A q) (hret : WrRet p l e ({ frames := 3, cells := 0, slots := 0, locals := 69 } : Room) s m args below meth c Q cX6_comeFault .int D A [(a_g, .inr (1, [.ref a_gw, .ref a_gk])), (a_u, .inr (6, [.ref a_g, .ref a_r, .int r.2])), (a_gw, .inl (T 0, 90, .inl v_gw)), (a_gk, .inl (T 0, 18, .inl v_gk))] r.1) (x0 : Int32) (l1 : Int32) (l4 : Int32) (u_det : Int32) {H : Heap} {locs : List Loc} (hPD : va_PD D A [(a_g, .inr (1, [.ref a_gw, .ref a_gk])), (a_u, .inr (6, [.ref a_g, .ref a_r, .int u_det])), (a_gw, .inl (T 0, 90, .inl v_gw)), (a_gk, .inl (T 0, 18, .inl v_gk))] H) (hS : va_S A s.heap H locs) (ls : Array Slot) (hl : lv_has ls 8 [(0, .ref a_u), (1, .int l1), (4, .int l4)]) (h : fX6_comeFault_32 v_gw v_gk x0 l1 l4 u_det = some r) : W p l e ({ frames := 3, cells := 0, slots := 0, locals := 69 } : Room) s m args below meth c H locs 0 0 Q (F0 m 32 ls [.int x0]) := by
  have hx := C.1
  have hb := C.2.1
  obtain ⟨hP, hD⟩ := hPD
  unfold fX6_comeFault_32 at h
  refine lv_istore (lv' := [(5, .int x0), (0, .ref a_u), (1, .int l1), (4, .int l4)]) hx hb dX6_comeFault_32 hl (by decide) rfl (fun ls hl => ?_)
  refine lv_iload_n hx hb dX6_comeFault_34 rfl (lv_at hl 2 rfl) ?_
  refine rdSN C hE hP (kX7_isTeam l D T l1) mX7_isTeam (by decide +kernel) [] rfl ⟨rfl, rfl⟩ ⟨Nat.le_of_ble_eq_true rfl, Nat.le_of_ble_eq_true rfl⟩ rfl hl.1 rfl (Nat.le_of_ble_eq_true rfl) dX6_comeFault_35 ⟨Nat.le_of_ble_eq_true rfl, Nat.le_of_ble_eq_true rfl⟩ ?_
  refine lv_if_eq (tgt := 51) hx hb dX6_comeFault_38 (by decide) (fun c5 => ?_) (fun c5 => ?_)
  · replace h := ite_t c5 h
    refine lv_bipush (v := (-2)) hx hb dX6_comeFault_51 (by decide) ?_
    replace h := Option.some.inj h
    exact hret _ _ _ _ _ _ dX6_comeFault_53 rfl (by rw [← h] <;> rfl) (by rw [← h]; exact hP) hS
  · replace h := ite_f c5 h
    refine lv_iload hx hb dX6_comeFault_41 (lv_at hl 3 rfl) ?_
    refine lv_if_eq (tgt := 51) hx hb dX6_comeFault_43 (by decide) (fun c6 => ?_) (fun c6 => ?_)
    · replace h := ite_t c6 h
      refine lv_bipush (v := (-2)) hx hb dX6_comeFault_51 (by decide) ?_
      replace h := Option.some.inj h
      exact hret _ _ _ _ _ _ dX6_comeFault_53 rfl (by rw [← h] <;> rfl) (by rw [← h]; exact hP) hS
    · replace h := ite_f c6 h
      refine lv_iload hx hb dX6_comeFault_46 (lv_at hl 0 rfl) ?_
      refine lv_if_ne (tgt := 54) hx hb dX6_comeFault_48 (by decide) (fun c7 => ?_) (fun c7 => ?_)
      · replace h := ite_f c7 h
        refine lv_aload_n hx hb dX6_comeFault_54 rfl (lv_at hl 1 rfl) ?_
        refine getF (q0 := 1) (k0 := 0) (v := .ref a_g) C hE hP inA6 rfl rfl (by decide) qFX6_15 rfl rfl dX6_comeFault_55 ?_
        refine lv_iload_n hx hb dX6_comeFault_58 rfl (lv_at hl 2 rfl) ?_
        replace h := bnd h; obtain ⟨q8, e9, h⟩ := h
        refine rdV C hE hP (kX1_countOf l D T a_g a_gw a_gk v_gw v_gk l1 q8 e9) mX1_countOf qLX6_27 [0, 2, 3] 0 rfl rfl rfl rfl ⟨rfl, rfl⟩ ⟨Nat.le_of_ble_eq_true rfl, Nat.le_of_ble_eq_true rfl⟩ rfl hl.1 rfl (Nat.le_of_ble_eq_true rfl) dX6_comeFault_59 ⟨Nat.le_of_ble_eq_true rfl, Nat.le_of_ble_eq_true rfl⟩ ?_
        refine lv_iconst (v := 5) hx hb dX6_comeFault_62 (by decide) ?_
        refine lv_icmp_lt (tgt := 73) hx hb dX6_comeFault_63 (by decide) (fun c10 => ?_) (fun c10 => ?_)
        · replace h := ite_t c10 h
          refine lv_aload_n hx hb dX6_comeFault_73 rfl (lv_at hl 1 rfl) ?_
          refine getF (q0 := 1) (k0 := 0) (v := .ref a_g) C hE hP inA6 rfl rfl (by decide) qFX6_15 rfl rfl dX6_comeFault_74 ?_
          refine lv_iload_n hx hb dX6_comeFault_77 rfl (lv_at hl 2 rfl) ?_
          replace h := bnd h; obtain ⟨q11, e12, h⟩ := h
          refine rdV C hE hP (kX1_firstCell l D T a_g a_gw a_gk v_gw v_gk l1 q11 e12) mX1_firstCell qLX6_37 [0, 2, 3] 0 rfl rfl rfl rfl ⟨rfl, rfl⟩ ⟨Nat.le_of_ble_eq_true rfl, Nat.le_of_ble_eq_true rfl⟩ rfl hl.1 rfl (Nat.le_of_ble_eq_true rfl) dX6_comeFault_78 ⟨Nat.le_of_ble_eq_true rfl, Nat.le_of_ble_eq_true rfl⟩ ?_
          refine lv_istore (lv' := [(6, .int q11), (5, .int x0), (0, .ref a_u), (1, .int l1), (4, .int l4)]) hx hb dX6_comeFault_81 hl (by decide) rfl (fun ls hl => ?_)
          refine lv_iload hx hb dX6_comeFault_83 (lv_at hl 0 rfl) ?_
          refine lv_iconst (v := (-1)) hx hb dX6_comeFault_85 (by decide) ?_
          refine lv_icmp_ne (tgt := 93) hx hb dX6_comeFault_86 (by decide) (fun c13 => ?_) (fun c13 => ?_)
          · replace h := ite_f c13 h
            refine lv_aload_n hx hb dX6_comeFault_93 rfl (lv_at hl 2 rfl) ?_
            refine getF (q0 := 1) (k0 := 0) (v := .ref a_g) C hE hP inA6 rfl rfl (by decide) qFX6_15 rfl rfl dX6_comeFault_94 ?_
            refine lv_iload hx hb dX6_comeFault_97 (lv_at hl 0 rfl) ?_
            replace h := bnd h; obtain ⟨q14, e15, h⟩ := h
            refine rdV C hE hP (kX1_whaleOn l D T a_g a_gw a_gk v_gw v_gk q11 q14 e15) mX1_whaleOn qLX6_40 [0, 2, 3] 0 rfl rfl rfl rfl ⟨rfl, rfl⟩ ⟨Nat.le_of_ble_eq_true rfl, Nat.le_of_ble_eq_true rfl⟩ rfl hl.1 rfl (Nat.le_of_ble_eq_true rfl) dX6_comeFault_99 ⟨Nat.le_of_ble_eq_true rfl, Nat.le_of_ble_eq_true rfl⟩ ?_
            exact lX6_comeFault_102 C hE hA hret q14 u_det ⟨hP, hD⟩ hS _ (lv_sub hl [2] rfl) h
          · replace h := ite_t c13 h
            refine lv_iconst (v := (-1)) hx hb dX6_comeFault_89 (by decide) ?_
            refine lv_goto (tgt := 102) hx hb dX6_comeFault_90 (by decide) ?_
            exact lX6_comeFault_102 C hE hA hret (-1) u_det ⟨hP, hD⟩ hS _ (lv_sub hl [2] rfl) h
        · replace h := ite_f c10 h
          refine lv_aload_n hx hb dX6_comeFault_66 rfl (lv_at hl 1 rfl) ?_
          refine lv_iconst (v := 1) hx hb dX6_comeFault_67 (by decide) ?_
          refine lv_iconst (v := 5) hx hb dX6_comeFault_68 (by decide) ?_
          replace h := bnd h; obtain ⟨q16, e17, h⟩ := h
          refine wrVi (ws1 := [(a_g, .inr (1, [.ref a_gw, .ref a_gk])), (a_u, .inr (6, [.ref a_g, .ref a_r, .int q16.2])), (a_gw, .inl (T 0, 90, .inl v_gw)), (a_gk, .inl (T 0, 18, .inl v_gk))]) C hE hP hD hS hA (kX6_refuse l D T a_u a_g a_r u_det 1 5 _ q16 e17) mX6_refuse qLX6_33 [1] [0, 2, 3] 1 rfl rfl rfl rfl rfl rfl rfl rfl rfl ⟨rfl, rfl⟩ ⟨Nat.le_of_ble_eq_true rfl, Nat.le_of_ble_eq_true rfl⟩ rfl hl.1 rfl (Nat.le_of_ble_eq_true rfl) dX6_comeFault_69 ⟨Nat.le_of_ble_eq_true rfl, Nat.le_of_ble_eq_true rfl⟩ ?_; clear hP hD hS; intro H locs hP hD hS
          replace h := Option.some.inj h
          exact hret _ _ _ _ _ _ dX6_comeFault_72 rfl (by rw [← h] <;> rfl) (by rw [← h]; exact hP) hS
      · replace h := ite_t c7 h
        refine lv_bipush (v := (-2)) hx hb dX6_comeFault_51 (by decide) ?_
        replace h := Option.some.inj h
        exact hret _ _ _ _ _ _ dX6_comeFault_53 rfl (by rw [← h] <;> rfl) (by rw [← h]; exact hP) hS
set_option maxHeartbeats 4000000 in
set_option maxRecDepth 100000 in
theorem lX6_comeFault_15 {p : Program} {l : Launch} {e : Env} {s : State} {m : MethodId} {args : Array Value} {below : List Frame} {meth : Method} {c : Code} {Q : State → Prop} {D : va_G} {T : Nat → ClassId} {a_g a_gw a_gk a_u a_r : Nat} {v_gw : Nat → Int32} {v_gk : Nat → Int32} {A : Nat → Prop} {r : Int32 × Int32} (C : CallFix p m c cX6_comeFault 8 s args aw RX6) (hE : eK D T s) (hA : ∀ q : Nat, s.heap.size ≤ q → A q) (hret : WrRet p l e ({ frames := 3, cells := 0, slots := 0, locals := 69 } : Room) s m args below meth c Q cX6_comeFault .int D A [(a_g, .inr (1, [.ref a_gw, .ref a_gk])), (a_u, .inr (6, [.ref a_g, .ref a_r, .int r.2])), (a_gw, .inl (T 0, 90, .inl v_gw)), (a_gk, .inl (T 0, 18, .inl v_gk))] r.1) (x0 : Int32) (l1 : Int32) (l3 : Int32) (u_det : Int32) {H : Heap} {locs : List Loc} (hPD : va_PD D A [(a_g, .inr (1, [.ref a_gw, .ref a_gk])), (a_u, .inr (6, [.ref a_g, .ref a_r, .int u_det])), (a_gw, .inl (T 0, 90, .inl v_gw)), (a_gk, .inl (T 0, 18, .inl v_gk))] H) (hS : va_S A s.heap H locs) (ls : Array Slot) (hl : lv_has ls 8 [(0, .ref a_u), (1, .int l1), (3, .int l3)]) (h : fX6_comeFault_15 v_gw v_gk x0 l1 l3 u_det = some r) : W p l e ({ frames := 3, cells := 0, slots := 0, locals := 69 } : Room) s m args below meth c H locs 0 0 Q (F0 m 15 ls [.int x0]) := by
  have hx := C.1
  have hb := C.2.1
  obtain ⟨hP, hD⟩ := hPD
  unfold fX6_comeFault_15 at h
  refine lv_istore (lv' := [(4, .int x0), (0, .ref a_u), (1, .int l1), (3, .int l3)]) hx hb dX6_comeFault_15 hl (by decide) rfl (fun ls hl => ?_)
  refine lv_iload_n hx hb dX6_comeFault_17 rfl (lv_at hl 3 rfl) ?_
  refine lv_iconst (v := 1) hx hb dX6_comeFault_18 (by decide) ?_
  refine lv_icmp_lt (tgt := 31) hx hb dX6_comeFault_19 (by decide) (fun c3 => ?_) (fun c3 => ?_)
  · rw [if_pos c3] at h
    refine lv_iconst (v := 0) hx hb dX6_comeFault_31 (by decide) ?_
    exact lX6_comeFault_32 C hE hA hret 0 l1 x0 u_det ⟨hP, hD⟩ hS _ (lv_sub hl [1, 2, 0] rfl) h
  · rw [if_neg c3] at h
    refine lv_iload_n hx hb dX6_comeFault_22 rfl (lv_at hl 3 rfl) ?_
    refine lv_iconst (v := 4) hx hb dX6_comeFault_23 (by decide) ?_
    refine lv_icmp_gt (tgt := 31) hx hb dX6_comeFault_24 (by decide) (fun c4 => ?_) (fun c4 => ?_)
    · rw [if_pos c4] at h
      refine lv_iconst (v := 0) hx hb dX6_comeFault_31 (by decide) ?_
      exact lX6_comeFault_32 C hE hA hret 0 l1 x0 u_det ⟨hP, hD⟩ hS _ (lv_sub hl [1, 2, 0] rfl) h
    · rw [if_neg c4] at h
      refine lv_iconst (v := 1) hx hb dX6_comeFault_27 (by decide) ?_
      refine lv_goto (tgt := 32) hx hb dX6_comeFault_28 (by decide) ?_
      exact lX6_comeFault_32 C hE hA hret 1 l1 x0 u_det ⟨hP, hD⟩ hS _ (lv_sub hl [1, 2, 0] rfl) h
set_option maxHeartbeats 4000000 in
set_option maxRecDepth 100000 in
theorem kX6_comeFault (l : Launch) (D : va_G) (T : Nat → ClassId) (a_g a_gw a_gk a_u a_r : Nat) (u_det : Int32) (v_gw : Nat → Int32) (v_gk : Nat → Int32) (p0 : Int32) (p1 : Int32) (p2 : Int32) (sz : Nat) (r : Int32 × Int32) (h : fX6_comeFault u_det v_gw v_gk p0 p1 p2 = some r) : WrI l yX6_comeFault cX6_comeFault 8 .int ({ frames := 3, cells := 0, slots := 0, locals := 69 } : Room) D T sz [(a_g, .inr (1, [.ref a_gw, .ref a_gk])), (a_u, .inr (6, [.ref a_g, .ref a_r, .int u_det])), (a_gw, .inl (T 0, 90, .inl v_gw)), (a_gk, .inl (T 0, 18, .inl v_gk))] [(a_g, .inr (1, [.ref a_gw, .ref a_gk])), (a_u, .inr (6, [.ref a_g, .ref a_r, .int r.2])), (a_gw, .inl (T 0, 90, .inl v_gw)), (a_gk, .inl (T 0, 18, .inl v_gk))] [.ref a_u, .int p0, .int p1, .int p2] r.1 := by
  unfold fX6_comeFault at h
  refine wrMet (by decide +kernel) rfl (fun p e s m args below meth c Q A C hE hA hP hD hS hret ls hl => ?_)
  have hx := C.1
  have hb := C.2.1
  have hl : lv_has ls 8 [(0, .ref a_u), (1, .int p0), (2, .int p1), (3, .int p2)] := hl
  refine lv_iload_n hx hb dX6_comeFault_0 rfl (lv_at hl 2 rfl) ?_
  refine lv_iconst (v := 1) hx hb dX6_comeFault_1 (by decide) ?_
  refine lv_icmp_lt (tgt := 14) hx hb dX6_comeFault_2 (by decide) (fun c1 => ?_) (fun c1 => ?_)
  · rw [if_pos c1] at h
    refine lv_iconst (v := 0) hx hb dX6_comeFault_14 (by decide) ?_
    exact lX6_comeFault_15 C hE hA hret 0 p0 p2 u_det ⟨hP, hD⟩ hS _ (lv_sub hl [0, 1, 3] rfl) h
  · rw [if_neg c1] at h
    refine lv_iload_n hx hb dX6_comeFault_5 rfl (lv_at hl 2 rfl) ?_
    refine lv_iconst (v := 5) hx hb dX6_comeFault_6 (by decide) ?_
    refine lv_icmp_gt (tgt := 14) hx hb dX6_comeFault_7 (by decide) (fun c2 => ?_) (fun c2 => ?_)
    · rw [if_pos c2] at h
      refine lv_iconst (v := 0) hx hb dX6_comeFault_14 (by decide) ?_
      exact lX6_comeFault_15 C hE hA hret 0 p0 p2 u_det ⟨hP, hD⟩ hS _ (lv_sub hl [0, 1, 3] rfl) h
    · rw [if_neg c2] at h
      refine lv_iconst (v := 1) hx hb dX6_comeFault_10 (by decide) ?_
      refine lv_goto (tgt := 15) hx hb dX6_comeFault_11 (by decide) ?_
      exact lX6_comeFault_15 C hE hA hret 1 p0 p2 u_det ⟨hP, hD⟩ hS _ (lv_sub hl [0, 1, 3] rfl) h

def fX7_demandRange (p0 : Int32) : Option Nat :=
  if p0 = (-2) then
    some 1
  else
    some 0
set_option maxHeartbeats 4000000 in
set_option maxRecDepth 100000 in
theorem kX7_demandRange (l : Launch) (hnt : l.stackTraces = false) (D : va_G) (T : Nat → ClassId) (a_x : Nat) (p0 : Int32) (sz : Nat) (r : Nat) (h : fX7_demandRange p0 = some r) : ThV l yX7_demandRange cX7_demandRange 2 ({ frames := 6, cells := 1, slots := 6, locals := 90 } : Room) D T sz [] [] [.ref a_x, .int p0] r := by
  unfold fX7_demandRange at h
  refine thMetV hnt (by decide +kernel) rfl (fun p e s m args below meth c Q A C hE hA hZ hP hD hS hret ls hl => ?_)
  have hx := C.1
  have hb := C.2.1
  have hl : lv_has ls 2 [(0, .ref a_x), (1, .int p0)] := hl
  refine lv_iload_n hx hb dX7_demandRange_0 rfl (lv_at hl 1 rfl) ?_
  refine lv_bipush (v := (-2)) hx hb dX7_demandRange_1 (by decide) ?_
  refine lv_icmp_ne (tgt := 17) hx hb dX7_demandRange_3 (by decide) (fun c1 => ?_) (fun c1 => ?_)
  · replace h := ite_f c1 h
    replace h := Option.some.inj h
    exact hret.1 _ _ _ _ _ _ (Nat.le_of_ble_eq_true rfl) (Nat.le_of_ble_eq_true rfl) dX7_demandRange_17 (by rw [← h]) hP hS
  · replace h := ite_t c1 h
    replace h := Option.some.inj h
    exact hret.2.2 _ _ _ _ _ _ _ 141 145 378 _ "a number is out of range" (by rw [← h]; exact thrX7_141_145_1) (by decide +kernel) dX7_demandRange_6 dX7_demandRange_9 (Or.inr ⟨dX7_demandRange_10, dX7_demandRange_13, dX7_demandRange_16⟩) (Nat.le_of_ble_eq_true rfl) (Nat.le_of_ble_eq_true rfl) (Nat.le_of_ble_eq_true rfl) (Nat.le_of_ble_eq_true rfl) (hl.1.trans C.2.2.1.symm) (by rw [← h]; exact (Nat.le_of_ble_eq_true rfl)) hP hS

def fX6_detail (u_det : Int32) : Int32 :=
  u_det
set_option maxHeartbeats 4000000 in
set_option maxRecDepth 100000 in
theorem kX6_detail (l : Launch) (D : va_G) (T : Nat → ClassId) (a_u a_g a_r : Nat) (u_det : Int32) : RdI l yX6_detail cX6_detail 1 .int ({ frames := 0, cells := 0, slots := 0, locals := 0 } : Room) D T [(a_u, .inr (6, [.ref a_g, .ref a_r, .int u_det]))] [.ref a_u] (fX6_detail u_det) := by
  obtain ⟨r, h⟩ : ∃ r, fX6_detail u_det = r := ⟨_, rfl⟩
  rw [h]
  unfold fX6_detail at h
  refine rdMet (by decide +kernel) rfl (fun p e s m args below meth c Q C hE hP hret ls hl => ?_)
  have hx := C.1
  have hb := C.2.1
  have hl : lv_has ls 1 [(0, .ref a_u)] := hl
  refine lv_aload_n hx hb dX6_detail_0 rfl (lv_at hl 0 rfl) ?_
  refine getF (q0 := 0) (k0 := 2) (v := .int u_det) C hE hP inA6 rfl rfl (by decide) qFX6_9 rfl rfl dX6_detail_1 ?_
  exact hret _ _ _ _ dX6_detail_4 rfl h

def fX7_keepReason (u_det : Int32) (x_rea : Int32) (x_det : Int32) (x_com : Int32) (p0 : Int32) (p1 : Int32) : Option (Int32 × Int32 × Int32) :=
  some (p0, (fX6_detail u_det), p1)
set_option maxHeartbeats 4000000 in
set_option maxRecDepth 100000 in
theorem kX7_keepReason (l : Launch) (D : va_G) (T : Nat → ClassId) (a_u a_g a_r a_x a_b a_v a_h a_f a_t a_n : Nat) (u_det : Int32) (x_sav : Int32) (x_err : Int32) (x_rea : Int32) (x_det : Int32) (x_com : Int32) (p0 : Int32) (p1 : Int32) (sz : Nat) (r : Int32 × Int32 × Int32) (h : fX7_keepReason u_det x_rea x_det x_com p0 p1 = some r) : WrV l yX7_keepReason cX7_keepReason 3 ({ frames := 1, cells := 0, slots := 0, locals := 20 } : Room) D T sz [(a_u, .inr (6, [.ref a_g, .ref a_r, .int u_det])), (a_x, .inr (7, [.ref a_g, .ref a_b, .ref a_v, .ref a_h, .ref a_r, .ref a_f, .ref a_u, .ref a_t, .ref a_n, .int x_sav, .int x_err, .int x_rea, .int x_det, .int x_com]))] [(a_u, .inr (6, [.ref a_g, .ref a_r, .int u_det])), (a_x, .inr (7, [.ref a_g, .ref a_b, .ref a_v, .ref a_h, .ref a_r, .ref a_f, .ref a_u, .ref a_t, .ref a_n, .int x_sav, .int x_err, .int r.1, .int r.2.1, .int r.2.2]))] [.ref a_x, .int p0, .int p1] := by
  unfold fX7_keepReason at h
  refine wrMetV (by decide +kernel) rfl (fun p e s m args below meth c Q A C hE hA hP hD hS hret ls hl => ?_)
  have hx := C.1
  have hb := C.2.1
  have hl : lv_has ls 3 [(0, .ref a_x), (1, .int p0), (2, .int p1)] := hl
  refine lv_aload_n hx hb dX7_keepReason_0 rfl (lv_at hl 0 rfl) ?_
  refine lv_iload_n hx hb dX7_keepReason_1 rfl (lv_at hl 1 rfl) ?_
  refine putF (q0 := 1) (k0 := 11) (ws1 := [(a_u, .inr (6, [.ref a_g, .ref a_r, .int u_det])), (a_x, .inr (7, [.ref a_g, .ref a_b, .ref a_v, .ref a_h, .ref a_r, .ref a_f, .ref a_u, .ref a_t, .ref a_n, .int x_sav, .int x_err, .int p0, .int x_det, .int x_com]))]) C hE hP hD hS inA7 tyX7_ok nmX7 rfl rfl (by decide) qFX7_76 rfl rfl rfl rfl (Nat.le_of_ble_eq_true rfl) rfl dX7_keepReason_2 ?_; clear hP hD hS; intro H locs hP hD hS
  refine lv_aload_n hx hb dX7_keepReason_5 rfl (lv_at hl 0 rfl) ?_
  refine lv_aload_n hx hb dX7_keepReason_6 rfl (lv_at hl 0 rfl) ?_
  refine getF (q0 := 1) (k0 := 6) (v := .ref a_u) C hE hP inA7 rfl rfl (by decide) qFX7_50 rfl rfl dX7_keepReason_7 ?_
  refine rdV C hE hP (kX6_detail l D T a_u a_g a_r u_det) mX6_detail qLX7_411 [0] 0 rfl rfl rfl rfl ⟨rfl, rfl⟩ ⟨Nat.le_of_ble_eq_true rfl, Nat.le_of_ble_eq_true rfl⟩ rfl hl.1 rfl (Nat.le_of_ble_eq_true rfl) dX7_keepReason_10 ⟨Nat.le_of_ble_eq_true rfl, Nat.le_of_ble_eq_true rfl⟩ ?_
  refine putF (q0 := 1) (k0 := 12) (ws1 := [(a_u, .inr (6, [.ref a_g, .ref a_r, .int u_det])), (a_x, .inr (7, [.ref a_g, .ref a_b, .ref a_v, .ref a_h, .ref a_r, .ref a_f, .ref a_u, .ref a_t, .ref a_n, .int x_sav, .int x_err, .int p0, .int (fX6_detail u_det), .int x_com]))]) C hE hP hD hS inA7 tyX7_ok nmX7 rfl rfl (by decide) qFX7_79 rfl rfl rfl rfl (Nat.le_of_ble_eq_true rfl) rfl dX7_keepReason_13 ?_; clear hP hD hS; intro H locs hP hD hS
  refine lv_aload_n hx hb dX7_keepReason_16 rfl (lv_at hl 0 rfl) ?_
  refine lv_iload_n hx hb dX7_keepReason_17 rfl (lv_at hl 2 rfl) ?_
  refine putF (q0 := 1) (k0 := 13) (ws1 := [(a_u, .inr (6, [.ref a_g, .ref a_r, .int u_det])), (a_x, .inr (7, [.ref a_g, .ref a_b, .ref a_v, .ref a_h, .ref a_r, .ref a_f, .ref a_u, .ref a_t, .ref a_n, .int x_sav, .int x_err, .int p0, .int (fX6_detail u_det), .int p1]))]) C hE hP hD hS inA7 tyX7_ok nmX7 rfl rfl (by decide) qFX7_82 rfl rfl rfl rfl (Nat.le_of_ble_eq_true rfl) rfl dX7_keepReason_18 ?_; clear hP hD hS; intro H locs hP hD hS
  replace h := Option.some.inj h
  exact hret _ _ _ _ dX7_keepReason_21 (by rw [← h]; exact hP) hS

def fX7_demandAllowed (u_det : Int32) (x_rea : Int32) (x_det : Int32) (x_com : Int32) (p0 : Int32) : Option (Nat × Int32 × Int32 × Int32) :=
  if p0 ≤ 0 then
    some (0, x_rea, x_det, x_com)
  else
    (fX7_keepReason u_det x_rea x_det x_com p0 (-1)).bind fun q2 =>
    some (2, q2.1, q2.2.1, q2.2.2)
set_option maxHeartbeats 4000000 in
set_option maxRecDepth 100000 in
theorem kX7_demandAllowed (l : Launch) (hnt : l.stackTraces = false) (D : va_G) (T : Nat → ClassId) (a_u a_g a_r a_x a_b a_v a_h a_f a_t a_n : Nat) (u_det : Int32) (x_sav : Int32) (x_err : Int32) (x_rea : Int32) (x_det : Int32) (x_com : Int32) (p0 : Int32) (sz : Nat) (r : Nat × Int32 × Int32 × Int32) (h : fX7_demandAllowed u_det x_rea x_det x_com p0 = some r) : ThV l yX7_demandAllowed cX7_demandAllowed 2 ({ frames := 6, cells := 1, slots := 6, locals := 90 } : Room) D T sz [(a_u, .inr (6, [.ref a_g, .ref a_r, .int u_det])), (a_x, .inr (7, [.ref a_g, .ref a_b, .ref a_v, .ref a_h, .ref a_r, .ref a_f, .ref a_u, .ref a_t, .ref a_n, .int x_sav, .int x_err, .int x_rea, .int x_det, .int x_com]))] [(a_u, .inr (6, [.ref a_g, .ref a_r, .int u_det])), (a_x, .inr (7, [.ref a_g, .ref a_b, .ref a_v, .ref a_h, .ref a_r, .ref a_f, .ref a_u, .ref a_t, .ref a_n, .int x_sav, .int x_err, .int r.2.1, .int r.2.2.1, .int r.2.2.2]))] [.ref a_x, .int p0] r.1 := by
  unfold fX7_demandAllowed at h
  refine thMetV hnt (by decide +kernel) rfl (fun p e s m args below meth c Q A C hE hA hZ hP hD hS hret ls hl => ?_)
  have hx := C.1
  have hb := C.2.1
  have hl : lv_has ls 2 [(0, .ref a_x), (1, .int p0)] := hl
  refine lv_iload_n hx hb dX7_demandAllowed_0 rfl (lv_at hl 1 rfl) ?_
  refine lv_if_le (tgt := 21) hx hb dX7_demandAllowed_1 (by decide) (fun c1 => ?_) (fun c1 => ?_)
  · replace h := ite_t c1 h
    replace h := Option.some.inj h
    exact hret.1 _ _ _ _ _ _ (Nat.le_of_ble_eq_true rfl) (Nat.le_of_ble_eq_true rfl) dX7_demandAllowed_21 (by rw [← h]) (by rw [← h]; exact hP) hS
  · replace h := ite_f c1 h
    refine lv_aload_n hx hb dX7_demandAllowed_4 rfl (lv_at hl 0 rfl) ?_
    refine lv_iload_n hx hb dX7_demandAllowed_5 rfl (lv_at hl 1 rfl) ?_
    refine lv_iconst (v := (-1)) hx hb dX7_demandAllowed_6 (by decide) ?_
    replace h := bnd h; obtain ⟨q2, e3, h⟩ := h
    refine wrVv (ws1 := [(a_u, .inr (6, [.ref a_g, .ref a_r, .int u_det])), (a_x, .inr (7, [.ref a_g, .ref a_b, .ref a_v, .ref a_h, .ref a_r, .ref a_f, .ref a_u, .ref a_t, .ref a_n, .int x_sav, .int x_err, .int q2.1, .int q2.2.1, .int q2.2.2]))]) C hE hP hD hS hA (kX7_keepReason l D T a_u a_g a_r a_x a_b a_v a_h a_f a_t a_n u_det x_sav x_err x_rea x_det x_com p0 (-1) _ q2 e3) mX7_keepReason qLX7_352 [0, 1] [] 1 rfl rfl rfl rfl rfl rfl rfl rfl rfl ⟨rfl, rfl⟩ ⟨Nat.le_of_ble_eq_true rfl, Nat.le_of_ble_eq_true rfl⟩ rfl hl.1 rfl (Nat.le_of_ble_eq_true rfl) dX7_demandAllowed_7 ⟨Nat.le_of_ble_eq_true rfl, Nat.le_of_ble_eq_true rfl⟩ ?_; clear hP hD hS; intro H locs hP hD hS
    replace h := Option.some.inj h
    exact hret.2.2 _ _ _ _ _ _ _ 355 359 380 _ "refused" (by rw [← h]; exact thrX7_355_359_2) (by decide +kernel) dX7_demandAllowed_10 dX7_demandAllowed_13 (Or.inr ⟨dX7_demandAllowed_14, dX7_demandAllowed_17, dX7_demandAllowed_20⟩) (Nat.le_of_ble_eq_true rfl) (Nat.le_of_ble_eq_true rfl) (Nat.le_of_ble_eq_true rfl) (Nat.le_of_ble_eq_true rfl) (hl.1.trans C.2.2.1.symm) (by rw [← h]; exact (Nat.le_of_ble_eq_true rfl)) (by rw [← h]; exact hP) hS

def fX1_copyFrom (v_gw : Nat → Int32) (v_gk : Nat → Int32) (v_ow : Nat → Int32) (v_ok : Nat → Int32) : Option ((Nat → Int32) × (Nat → Int32)) :=
  some ((va_cpy v_ow v_gw 0 0 90), (va_cpy v_ok v_gk 0 0 18))
set_option maxHeartbeats 4000000 in
set_option maxRecDepth 100000 in
theorem kX1_copyFrom (l : Launch) (D : va_G) (T : Nat → ClassId) (a_g a_gw a_gk a_o a_ow a_ok : Nat) (v_gw : Nat → Int32) (v_gk : Nat → Int32) (v_ow : Nat → Int32) (v_ok : Nat → Int32) (sz : Nat) (r : (Nat → Int32) × (Nat → Int32)) (h : fX1_copyFrom v_gw v_gk v_ow v_ok = some r) : WrV l yX1_copyFrom cX1_copyFrom 2 ({ frames := 1, cells := 0, slots := 0, locals := 100 } : Room) D T sz [(a_g, .inr (1, [.ref a_gw, .ref a_gk])), (a_o, .inr (1, [.ref a_ow, .ref a_ok])), (a_gw, .inl (T 0, 90, .inl v_gw)), (a_gk, .inl (T 0, 18, .inl v_gk)), (a_ow, .inl (T 0, 90, .inl v_ow)), (a_ok, .inl (T 0, 18, .inl v_ok))] [(a_g, .inr (1, [.ref a_gw, .ref a_gk])), (a_o, .inr (1, [.ref a_ow, .ref a_ok])), (a_gw, .inl (T 0, 90, .inl r.1)), (a_gk, .inl (T 0, 18, .inl r.2)), (a_ow, .inl (T 0, 90, .inl v_ow)), (a_ok, .inl (T 0, 18, .inl v_ok))] [.ref a_g, .ref a_o] := by
  unfold fX1_copyFrom at h
  refine wrMetV (by decide +kernel) rfl (fun p e s m args below meth c Q A C hE hA hP hD hS hret ls hl => ?_)
  have hx := C.1
  have hb := C.2.1
  have hl : lv_has ls 2 [(0, .ref a_g), (1, .ref a_o)] := hl
  refine lv_aload_n hx hb dX1_copyFrom_0 rfl (lv_at hl 1 rfl) ?_
  refine lv_ifnull hx hb dX1_copyFrom_1 ?_
  refine lv_aload_n hx hb dX1_copyFrom_4 rfl (lv_at hl 1 rfl) ?_
  refine getF (q0 := 1) (k0 := 0) (v := .ref a_ow) C hE hP inA1 rfl rfl (by decide) qFX1_9 rfl rfl dX1_copyFrom_5 ?_
  refine lv_iconst (v := 0) hx hb dX1_copyFrom_8 (by decide) ?_
  refine lv_aload_n hx hb dX1_copyFrom_9 rfl (lv_at hl 0 rfl) ?_
  refine getF (q0 := 0) (k0 := 0) (v := .ref a_gw) C hE hP inA1 rfl rfl (by decide) qFX1_9 rfl rfl dX1_copyFrom_10 ?_
  refine lv_iconst (v := 0) hx hb dX1_copyFrom_13 (by decide) ?_
  refine lv_aload_n hx hb dX1_copyFrom_14 rfl (lv_at hl 0 rfl) ?_
  refine getF (q0 := 0) (k0 := 0) (v := .ref a_gw) C hE hP inA1 rfl rfl (by decide) qFX1_9 rfl rfl dX1_copyFrom_15 ?_
  refine alen (q0 := 2) (t0 := 0) (v := 90) C hE hP rfl rfl (by decide) dX1_copyFrom_18 ?_
  refine cpyI (q0 := 4) (q1 := 2) (ws1 := [(a_g, .inr (1, [.ref a_gw, .ref a_gk])), (a_o, .inr (1, [.ref a_ow, .ref a_ok])), (a_gw, .inl (T 0, 90, .inl (va_cpy v_ow v_gw 0 0 90))), (a_gk, .inl (T 0, 18, .inl v_gk)), (a_ow, .inl (T 0, 90, .inl v_ow)), (a_ok, .inl (T 0, 18, .inl v_ok))]) C hE hP hD hS qLX1_22 rfl rfl (by decide) (by decide) (by decide) rfl (Nat.le_of_ble_eq_true rfl) (by decide +kernel) hl.1 dX1_copyFrom_19 ?_; clear hP hD hS; intro H locs hP hD hS
  refine lv_aload_n hx hb dX1_copyFrom_22 rfl (lv_at hl 1 rfl) ?_
  refine getF (q0 := 1) (k0 := 1) (v := .ref a_ok) C hE hP inA1 rfl rfl (by decide) qFX1_15 rfl rfl dX1_copyFrom_23 ?_
  refine lv_iconst (v := 0) hx hb dX1_copyFrom_26 (by decide) ?_
  refine lv_aload_n hx hb dX1_copyFrom_27 rfl (lv_at hl 0 rfl) ?_
  refine getF (q0 := 0) (k0 := 1) (v := .ref a_gk) C hE hP inA1 rfl rfl (by decide) qFX1_15 rfl rfl dX1_copyFrom_28 ?_
  refine lv_iconst (v := 0) hx hb dX1_copyFrom_31 (by decide) ?_
  refine lv_aload_n hx hb dX1_copyFrom_32 rfl (lv_at hl 0 rfl) ?_
  refine getF (q0 := 0) (k0 := 1) (v := .ref a_gk) C hE hP inA1 rfl rfl (by decide) qFX1_15 rfl rfl dX1_copyFrom_33 ?_
  refine alen (q0 := 3) (t0 := 0) (v := 18) C hE hP rfl rfl (by decide) dX1_copyFrom_36 ?_
  refine cpyI (q0 := 5) (q1 := 3) (ws1 := [(a_g, .inr (1, [.ref a_gw, .ref a_gk])), (a_o, .inr (1, [.ref a_ow, .ref a_ok])), (a_gw, .inl (T 0, 90, .inl (va_cpy v_ow v_gw 0 0 90))), (a_gk, .inl (T 0, 18, .inl (va_cpy v_ok v_gk 0 0 18))), (a_ow, .inl (T 0, 90, .inl v_ow)), (a_ok, .inl (T 0, 18, .inl v_ok))]) C hE hP hD hS qLX1_22 rfl rfl (by decide) (by decide) (by decide) rfl (Nat.le_of_ble_eq_true rfl) (by decide +kernel) hl.1 dX1_copyFrom_37 ?_; clear hP hD hS; intro H locs hP hD hS
  replace h := Option.some.inj h
  exact hret _ _ _ _ dX1_copyFrom_40 (by rw [← h]; exact hP) hS

def fX1_set (v_gw : Nat → Int32) (p0 : Int32) (p1 : Int32) (p2 : Int32) : Option ((Nat → Int32)) :=
  if ((p0 * 9) + p1) < 0 then
    some v_gw
  else
    if 90 ≤ ((p0 * 9) + p1) then
      some v_gw
    else
      if vin ((p0 * 9) + p1) 90 = true then
      some (upd v_gw ((p0 * 9) + p1).toNatClampNeg p2)
      else none
set_option maxHeartbeats 4000000 in
set_option maxRecDepth 100000 in
theorem kX1_set (l : Launch) (D : va_G) (T : Nat → ClassId) (a_g a_gw a_gk : Nat) (v_gw : Nat → Int32) (p0 : Int32) (p1 : Int32) (p2 : Int32) (sz : Nat) (r : (Nat → Int32)) (h : fX1_set v_gw p0 p1 p2 = some r) : WrV l yX1_set cX1_set 5 ({ frames := 0, cells := 0, slots := 0, locals := 0 } : Room) D T sz [(a_g, .inr (1, [.ref a_gw, .ref a_gk])), (a_gw, .inl (T 0, 90, .inl v_gw))] [(a_g, .inr (1, [.ref a_gw, .ref a_gk])), (a_gw, .inl (T 0, 90, .inl r))] [.ref a_g, .int p0, .int p1, .int p2] := by
  unfold fX1_set at h
  refine wrMetV (by decide +kernel) rfl (fun p e s m args below meth c Q A C hE hA hP hD hS hret ls hl => ?_)
  have hx := C.1
  have hb := C.2.1
  have hl : lv_has ls 5 [(0, .ref a_g), (1, .int p0), (2, .int p1), (3, .int p2)] := hl
  refine lv_iload_n hx hb dX1_set_0 rfl (lv_at hl 1 rfl) ?_
  refine lv_bipush (v := 9) hx hb dX1_set_1 (by decide) ?_
  refine lv_imul hx hb dX1_set_3 ?_
  refine lv_iload_n hx hb dX1_set_4 rfl (lv_at hl 2 rfl) ?_
  refine lv_iadd hx hb dX1_set_5 ?_
  refine lv_istore (lv' := [(4, .int ((p0 * 9) + p1)), (0, .ref a_g), (1, .int p0), (2, .int p1), (3, .int p2)]) hx hb dX1_set_6 hl (by decide) rfl (fun ls hl => ?_)
  refine lv_iload hx hb dX1_set_8 (lv_at hl 0 rfl) ?_
  refine lv_if_lt (tgt := 31) hx hb dX1_set_10 (by decide) (fun c1 => ?_) (fun c1 => ?_)
  · replace h := ite_t c1 h
    replace h := Option.some.inj h
    exact hret _ _ _ _ dX1_set_31 (by rw [← h]; exact hP) hS
  · replace h := ite_f c1 h
    refine lv_iload hx hb dX1_set_13 (lv_at hl 0 rfl) ?_
    refine lv_aload_n hx hb dX1_set_15 rfl (lv_at hl 1 rfl) ?_
    refine getF (q0 := 0) (k0 := 0) (v := .ref a_gw) C hE hP inA1 rfl rfl (by decide) qFX1_9 rfl rfl dX1_set_16 ?_
    refine alen (q0 := 1) (t0 := 0) (v := 90) C hE hP rfl rfl (by decide) dX1_set_19 ?_
    refine lv_icmp_ge (tgt := 31) hx hb dX1_set_20 (by decide) (fun c2 => ?_) (fun c2 => ?_)
    · replace h := ite_t c2 h
      replace h := Option.some.inj h
      exact hret _ _ _ _ dX1_set_31 (by rw [← h]; exact hP) hS
    · replace h := ite_f c2 h
      refine lv_aload_n hx hb dX1_set_23 rfl (lv_at hl 1 rfl) ?_
      refine getF (q0 := 0) (k0 := 0) (v := .ref a_gw) C hE hP inA1 rfl rfl (by decide) qFX1_9 rfl rfl dX1_set_24 ?_
      refine lv_iload hx hb dX1_set_27 (lv_at hl 0 rfl) ?_
      refine lv_iload_n hx hb dX1_set_29 rfl (lv_at hl 4 rfl) ?_
      replace h := gd h; obtain ⟨g3, h⟩ := h
      refine astI (q0 := 1) (ws1 := [(a_g, .inr (1, [.ref a_gw, .ref a_gk])), (a_gw, .inl (T 0, 90, .inl (upd v_gw ((p0 * 9) + p1).toNatClampNeg p2)))]) C hE hP hD hS rfl g3 rfl dX1_set_30 ?_; clear hP hD hS; intro H locs hP hD hS
      replace h := Option.some.inj h
      exact hret _ _ _ _ dX1_set_31 (by rw [← h]; exact hP) hS

def fX1_setCount (v_gk : Nat → Int32) (p0 : Int32) (p1 : Int32) : Option ((Nat → Int32)) :=
  if p0 < 0 then
    some v_gk
  else
    if 18 ≤ p0 then
      some v_gk
    else
      if vin p0 18 = true then
      some (upd v_gk p0.toNatClampNeg p1)
      else none
set_option maxHeartbeats 4000000 in
set_option maxRecDepth 100000 in
theorem kX1_setCount (l : Launch) (D : va_G) (T : Nat → ClassId) (a_g a_gw a_gk : Nat) (v_gk : Nat → Int32) (p0 : Int32) (p1 : Int32) (sz : Nat) (r : (Nat → Int32)) (h : fX1_setCount v_gk p0 p1 = some r) : WrV l yX1_setCount cX1_setCount 3 ({ frames := 0, cells := 0, slots := 0, locals := 0 } : Room) D T sz [(a_g, .inr (1, [.ref a_gw, .ref a_gk])), (a_gk, .inl (T 0, 18, .inl v_gk))] [(a_g, .inr (1, [.ref a_gw, .ref a_gk])), (a_gk, .inl (T 0, 18, .inl r))] [.ref a_g, .int p0, .int p1] := by
  unfold fX1_setCount at h
  refine wrMetV (by decide +kernel) rfl (fun p e s m args below meth c Q A C hE hA hP hD hS hret ls hl => ?_)
  have hx := C.1
  have hb := C.2.1
  have hl : lv_has ls 3 [(0, .ref a_g), (1, .int p0), (2, .int p1)] := hl
  refine lv_iload_n hx hb dX1_setCount_0 rfl (lv_at hl 1 rfl) ?_
  refine lv_if_lt (tgt := 20) hx hb dX1_setCount_1 (by decide) (fun c1 => ?_) (fun c1 => ?_)
  · replace h := ite_t c1 h
    replace h := Option.some.inj h
    exact hret _ _ _ _ dX1_setCount_20 (by rw [← h]; exact hP) hS
  · replace h := ite_f c1 h
    refine lv_iload_n hx hb dX1_setCount_4 rfl (lv_at hl 1 rfl) ?_
    refine lv_aload_n hx hb dX1_setCount_5 rfl (lv_at hl 0 rfl) ?_
    refine getF (q0 := 0) (k0 := 1) (v := .ref a_gk) C hE hP inA1 rfl rfl (by decide) qFX1_15 rfl rfl dX1_setCount_6 ?_
    refine alen (q0 := 1) (t0 := 0) (v := 18) C hE hP rfl rfl (by decide) dX1_setCount_9 ?_
    refine lv_icmp_ge (tgt := 20) hx hb dX1_setCount_10 (by decide) (fun c2 => ?_) (fun c2 => ?_)
    · replace h := ite_t c2 h
      replace h := Option.some.inj h
      exact hret _ _ _ _ dX1_setCount_20 (by rw [← h]; exact hP) hS
    · replace h := ite_f c2 h
      refine lv_aload_n hx hb dX1_setCount_13 rfl (lv_at hl 0 rfl) ?_
      refine getF (q0 := 0) (k0 := 1) (v := .ref a_gk) C hE hP inA1 rfl rfl (by decide) qFX1_15 rfl rfl dX1_setCount_14 ?_
      refine lv_iload_n hx hb dX1_setCount_17 rfl (lv_at hl 1 rfl) ?_
      refine lv_iload_n hx hb dX1_setCount_18 rfl (lv_at hl 2 rfl) ?_
      replace h := gd h; obtain ⟨g3, h⟩ := h
      refine astI (q0 := 1) (ws1 := [(a_g, .inr (1, [.ref a_gw, .ref a_gk])), (a_gk, .inl (T 0, 18, .inl (upd v_gk p0.toNatClampNeg p1)))]) C hE hP hD hS rfl g3 rfl dX1_setCount_19 ?_; clear hP hD hS; intro H locs hP hD hS
      replace h := Option.some.inj h
      exact hret _ _ _ _ dX1_setCount_20 (by rw [← h]; exact hP) hS

def fX1_addCount (v_gk : Nat → Int32) (p0 : Int32) (p1 : Int32) : Option ((Nat → Int32)) :=
  (fX1_count v_gk p0).bind fun q1 =>
  (fX1_setCount v_gk p0 (q1 + p1)).bind fun q3 =>
  some q3
set_option maxHeartbeats 4000000 in
set_option maxRecDepth 100000 in
theorem kX1_addCount (l : Launch) (D : va_G) (T : Nat → ClassId) (a_g a_gw a_gk : Nat) (v_gk : Nat → Int32) (p0 : Int32) (p1 : Int32) (sz : Nat) (r : (Nat → Int32)) (h : fX1_addCount v_gk p0 p1 = some r) : WrV l yX1_addCount cX1_addCount 3 ({ frames := 1, cells := 0, slots := 0, locals := 22 } : Room) D T sz [(a_g, .inr (1, [.ref a_gw, .ref a_gk])), (a_gk, .inl (T 0, 18, .inl v_gk))] [(a_g, .inr (1, [.ref a_gw, .ref a_gk])), (a_gk, .inl (T 0, 18, .inl r))] [.ref a_g, .int p0, .int p1] := by
  unfold fX1_addCount at h
  refine wrMetV (by decide +kernel) rfl (fun p e s m args below meth c Q A C hE hA hP hD hS hret ls hl => ?_)
  have hx := C.1
  have hb := C.2.1
  have hl : lv_has ls 3 [(0, .ref a_g), (1, .int p0), (2, .int p1)] := hl
  refine lv_aload_n hx hb dX1_addCount_0 rfl (lv_at hl 0 rfl) ?_
  refine lv_iload_n hx hb dX1_addCount_1 rfl (lv_at hl 1 rfl) ?_
  refine lv_aload_n hx hb dX1_addCount_2 rfl (lv_at hl 0 rfl) ?_
  refine lv_iload_n hx hb dX1_addCount_3 rfl (lv_at hl 1 rfl) ?_
  replace h := bnd h; obtain ⟨q1, e2, h⟩ := h
  refine rdV C hE hP (kX1_count l D T a_g a_gw a_gk v_gk p0 q1 e2) mX1_count qLX1_28 [0, 1] 0 rfl rfl rfl rfl ⟨rfl, rfl⟩ ⟨Nat.le_of_ble_eq_true rfl, Nat.le_of_ble_eq_true rfl⟩ rfl hl.1 rfl (Nat.le_of_ble_eq_true rfl) dX1_addCount_4 ⟨Nat.le_of_ble_eq_true rfl, Nat.le_of_ble_eq_true rfl⟩ ?_
  refine lv_iload_n hx hb dX1_addCount_7 rfl (lv_at hl 2 rfl) ?_
  refine lv_iadd hx hb dX1_addCount_8 ?_
  replace h := bnd h; obtain ⟨q3, e4, h⟩ := h
  refine wrVv (ws1 := [(a_g, .inr (1, [.ref a_gw, .ref a_gk])), (a_gk, .inl (T 0, 18, .inl q3))]) C hE hP hD hS hA (kX1_setCount l D T a_g a_gw a_gk v_gk p0 (q1 + p1) _ q3 e4) mX1_setCount qLX1_18 [0, 1] [] 0 rfl rfl rfl rfl rfl rfl rfl rfl rfl ⟨rfl, rfl⟩ ⟨Nat.le_of_ble_eq_true rfl, Nat.le_of_ble_eq_true rfl⟩ rfl hl.1 rfl (Nat.le_of_ble_eq_true rfl) dX1_addCount_9 ⟨Nat.le_of_ble_eq_true rfl, Nat.le_of_ble_eq_true rfl⟩ ?_; clear hP hD hS; intro H locs hP hD hS
  replace h := Option.some.inj h
  exact hret _ _ _ _ dX1_addCount_12 (by rw [← h]; exact hP) hS

def fX1_addWhale (v_gw : Nat → Int32) (v_gk : Nat → Int32) (p0 : Int32) (p1 : Int32) (p2 : Int32) : Option (Int32 × (Nat → Int32) × (Nat → Int32)) :=
  (fX1_count v_gk 0).bind fun q1 =>
  (fX1_firstCell v_gw v_gk p0).bind fun q3 =>
  (fX1_set v_gw q1 4 q3).bind fun q5 =>
  (fX1_set q5 q1 0 p0).bind fun q7 =>
  (fX1_set q7 q1 1 p1).bind fun q9 =>
  (fX1_set q9 q1 2 p2).bind fun q11 =>
  (fX1_set q11 q1 3 20).bind fun q13 =>
  (fX1_addCount v_gk 0 1).bind fun q15 =>
  some (q1, q13, q15)
set_option maxHeartbeats 4000000 in
set_option maxRecDepth 100000 in
theorem kX1_addWhale (l : Launch) (D : va_G) (T : Nat → ClassId) (a_g a_gw a_gk : Nat) (v_gw : Nat → Int32) (v_gk : Nat → Int32) (p0 : Int32) (p1 : Int32) (p2 : Int32) (sz : Nat) (r : Int32 × (Nat → Int32) × (Nat → Int32)) (h : fX1_addWhale v_gw v_gk p0 p1 p2 = some r) : WrI l yX1_addWhale cX1_addWhale 5 .int ({ frames := 3, cells := 0, slots := 0, locals := 69 } : Room) D T sz [(a_g, .inr (1, [.ref a_gw, .ref a_gk])), (a_gw, .inl (T 0, 90, .inl v_gw)), (a_gk, .inl (T 0, 18, .inl v_gk))] [(a_g, .inr (1, [.ref a_gw, .ref a_gk])), (a_gw, .inl (T 0, 90, .inl r.2.1)), (a_gk, .inl (T 0, 18, .inl r.2.2))] [.ref a_g, .int p0, .int p1, .int p2] r.1 := by
  unfold fX1_addWhale at h
  refine wrMet (by decide +kernel) rfl (fun p e s m args below meth c Q A C hE hA hP hD hS hret ls hl => ?_)
  have hx := C.1
  have hb := C.2.1
  have hl : lv_has ls 5 [(0, .ref a_g), (1, .int p0), (2, .int p1), (3, .int p2)] := hl
  refine lv_aload_n hx hb dX1_addWhale_0 rfl (lv_at hl 0 rfl) ?_
  refine lv_iconst (v := 0) hx hb dX1_addWhale_1 (by decide) ?_
  replace h := bnd h; obtain ⟨q1, e2, h⟩ := h
  refine rdV C hE hP (kX1_count l D T a_g a_gw a_gk v_gk 0 q1 e2) mX1_count qLX1_28 [0, 2] 0 rfl rfl rfl rfl ⟨rfl, rfl⟩ ⟨Nat.le_of_ble_eq_true rfl, Nat.le_of_ble_eq_true rfl⟩ rfl hl.1 rfl (Nat.le_of_ble_eq_true rfl) dX1_addWhale_2 ⟨Nat.le_of_ble_eq_true rfl, Nat.le_of_ble_eq_true rfl⟩ ?_
  refine lv_istore (lv' := [(4, .int q1), (0, .ref a_g), (1, .int p0), (2, .int p1), (3, .int p2)]) hx hb dX1_addWhale_5 hl (by decide) rfl (fun ls hl => ?_)
  refine lv_aload_n hx hb dX1_addWhale_7 rfl (lv_at hl 1 rfl) ?_
  refine lv_iload hx hb dX1_addWhale_8 (lv_at hl 0 rfl) ?_
  refine lv_iconst (v := 4) hx hb dX1_addWhale_10 (by decide) ?_
  refine lv_aload_n hx hb dX1_addWhale_11 rfl (lv_at hl 1 rfl) ?_
  refine lv_iload_n hx hb dX1_addWhale_12 rfl (lv_at hl 2 rfl) ?_
  replace h := bnd h; obtain ⟨q3, e4, h⟩ := h
  refine rdV C hE hP (kX1_firstCell l D T a_g a_gw a_gk v_gw v_gk p0 q3 e4) mX1_firstCell qLX1_62 [0, 1, 2] 0 rfl rfl rfl rfl ⟨rfl, rfl⟩ ⟨Nat.le_of_ble_eq_true rfl, Nat.le_of_ble_eq_true rfl⟩ rfl hl.1 rfl (Nat.le_of_ble_eq_true rfl) dX1_addWhale_13 ⟨Nat.le_of_ble_eq_true rfl, Nat.le_of_ble_eq_true rfl⟩ ?_
  replace h := bnd h; obtain ⟨q5, e6, h⟩ := h
  refine wrVv (ws1 := [(a_g, .inr (1, [.ref a_gw, .ref a_gk])), (a_gw, .inl (T 0, 90, .inl q5)), (a_gk, .inl (T 0, 18, .inl v_gk))]) C hE hP hD hS hA (kX1_set l D T a_g a_gw a_gk v_gw q1 4 q3 _ q5 e6) mX1_set qLX1_36 [0, 1] [2] 0 rfl rfl rfl rfl rfl rfl rfl rfl rfl ⟨rfl, rfl⟩ ⟨Nat.le_of_ble_eq_true rfl, Nat.le_of_ble_eq_true rfl⟩ rfl hl.1 rfl (Nat.le_of_ble_eq_true rfl) dX1_addWhale_16 ⟨Nat.le_of_ble_eq_true rfl, Nat.le_of_ble_eq_true rfl⟩ ?_; clear hP hD hS; intro H locs hP hD hS
  refine lv_aload_n hx hb dX1_addWhale_19 rfl (lv_at hl 1 rfl) ?_
  refine lv_iload hx hb dX1_addWhale_20 (lv_at hl 0 rfl) ?_
  refine lv_iconst (v := 0) hx hb dX1_addWhale_22 (by decide) ?_
  refine lv_iload_n hx hb dX1_addWhale_23 rfl (lv_at hl 2 rfl) ?_
  replace h := bnd h; obtain ⟨q7, e8, h⟩ := h
  refine wrVv (ws1 := [(a_g, .inr (1, [.ref a_gw, .ref a_gk])), (a_gw, .inl (T 0, 90, .inl q7)), (a_gk, .inl (T 0, 18, .inl v_gk))]) C hE hP hD hS hA (kX1_set l D T a_g a_gw a_gk q5 q1 0 p0 _ q7 e8) mX1_set qLX1_36 [0, 1] [2] 0 rfl rfl rfl rfl rfl rfl rfl rfl rfl ⟨rfl, rfl⟩ ⟨Nat.le_of_ble_eq_true rfl, Nat.le_of_ble_eq_true rfl⟩ rfl hl.1 rfl (Nat.le_of_ble_eq_true rfl) dX1_addWhale_24 ⟨Nat.le_of_ble_eq_true rfl, Nat.le_of_ble_eq_true rfl⟩ ?_; clear hP hD hS; intro H locs hP hD hS
  refine lv_aload_n hx hb dX1_addWhale_27 rfl (lv_at hl 1 rfl) ?_
  refine lv_iload hx hb dX1_addWhale_28 (lv_at hl 0 rfl) ?_
  refine lv_iconst (v := 1) hx hb dX1_addWhale_30 (by decide) ?_
  refine lv_iload_n hx hb dX1_addWhale_31 rfl (lv_at hl 3 rfl) ?_
  replace h := bnd h; obtain ⟨q9, e10, h⟩ := h
  refine wrVv (ws1 := [(a_g, .inr (1, [.ref a_gw, .ref a_gk])), (a_gw, .inl (T 0, 90, .inl q9)), (a_gk, .inl (T 0, 18, .inl v_gk))]) C hE hP hD hS hA (kX1_set l D T a_g a_gw a_gk q7 q1 1 p1 _ q9 e10) mX1_set qLX1_36 [0, 1] [2] 0 rfl rfl rfl rfl rfl rfl rfl rfl rfl ⟨rfl, rfl⟩ ⟨Nat.le_of_ble_eq_true rfl, Nat.le_of_ble_eq_true rfl⟩ rfl hl.1 rfl (Nat.le_of_ble_eq_true rfl) dX1_addWhale_32 ⟨Nat.le_of_ble_eq_true rfl, Nat.le_of_ble_eq_true rfl⟩ ?_; clear hP hD hS; intro H locs hP hD hS
  refine lv_aload_n hx hb dX1_addWhale_35 rfl (lv_at hl 1 rfl) ?_
  refine lv_iload hx hb dX1_addWhale_36 (lv_at hl 0 rfl) ?_
  refine lv_iconst (v := 2) hx hb dX1_addWhale_38 (by decide) ?_
  refine lv_iload_n hx hb dX1_addWhale_39 rfl (lv_at hl 4 rfl) ?_
  replace h := bnd h; obtain ⟨q11, e12, h⟩ := h
  refine wrVv (ws1 := [(a_g, .inr (1, [.ref a_gw, .ref a_gk])), (a_gw, .inl (T 0, 90, .inl q11)), (a_gk, .inl (T 0, 18, .inl v_gk))]) C hE hP hD hS hA (kX1_set l D T a_g a_gw a_gk q9 q1 2 p2 _ q11 e12) mX1_set qLX1_36 [0, 1] [2] 0 rfl rfl rfl rfl rfl rfl rfl rfl rfl ⟨rfl, rfl⟩ ⟨Nat.le_of_ble_eq_true rfl, Nat.le_of_ble_eq_true rfl⟩ rfl hl.1 rfl (Nat.le_of_ble_eq_true rfl) dX1_addWhale_40 ⟨Nat.le_of_ble_eq_true rfl, Nat.le_of_ble_eq_true rfl⟩ ?_; clear hP hD hS; intro H locs hP hD hS
  refine lv_aload_n hx hb dX1_addWhale_43 rfl (lv_at hl 1 rfl) ?_
  refine lv_iload hx hb dX1_addWhale_44 (lv_at hl 0 rfl) ?_
  refine lv_iconst (v := 3) hx hb dX1_addWhale_46 (by decide) ?_
  refine lv_bipush (v := 20) hx hb dX1_addWhale_47 (by decide) ?_
  replace h := bnd h; obtain ⟨q13, e14, h⟩ := h
  refine wrVv (ws1 := [(a_g, .inr (1, [.ref a_gw, .ref a_gk])), (a_gw, .inl (T 0, 90, .inl q13)), (a_gk, .inl (T 0, 18, .inl v_gk))]) C hE hP hD hS hA (kX1_set l D T a_g a_gw a_gk q11 q1 3 20 _ q13 e14) mX1_set qLX1_36 [0, 1] [2] 0 rfl rfl rfl rfl rfl rfl rfl rfl rfl ⟨rfl, rfl⟩ ⟨Nat.le_of_ble_eq_true rfl, Nat.le_of_ble_eq_true rfl⟩ rfl hl.1 rfl (Nat.le_of_ble_eq_true rfl) dX1_addWhale_49 ⟨Nat.le_of_ble_eq_true rfl, Nat.le_of_ble_eq_true rfl⟩ ?_; clear hP hD hS; intro H locs hP hD hS
  refine lv_aload_n hx hb dX1_addWhale_52 rfl (lv_at hl 1 rfl) ?_
  refine lv_iconst (v := 0) hx hb dX1_addWhale_53 (by decide) ?_
  refine lv_iconst (v := 1) hx hb dX1_addWhale_54 (by decide) ?_
  replace h := bnd h; obtain ⟨q15, e16, h⟩ := h
  refine wrVv (ws1 := [(a_g, .inr (1, [.ref a_gw, .ref a_gk])), (a_gw, .inl (T 0, 90, .inl q13)), (a_gk, .inl (T 0, 18, .inl q15))]) C hE hP hD hS hA (kX1_addCount l D T a_g a_gw a_gk v_gk 0 1 _ q15 e16) mX1_addCount qLX1_65 [0, 2] [1] 0 rfl rfl rfl rfl rfl rfl rfl rfl rfl ⟨rfl, rfl⟩ ⟨Nat.le_of_ble_eq_true rfl, Nat.le_of_ble_eq_true rfl⟩ rfl hl.1 rfl (Nat.le_of_ble_eq_true rfl) dX1_addWhale_55 ⟨Nat.le_of_ble_eq_true rfl, Nat.le_of_ble_eq_true rfl⟩ ?_; clear hP hD hS; intro H locs hP hD hS
  refine lv_iload hx hb dX1_addWhale_58 (lv_at hl 0 rfl) ?_
  replace h := Option.some.inj h
  exact hret _ _ _ _ _ _ dX1_addWhale_60 rfl (by rw [← h] <;> rfl) (by rw [← h]; exact hP) hS

def fX1_has (v_gk : Nat → Int32) (p0 : Int32) : Option Int32 :=
  if p0 < 0 then
    some 0
  else
    (fX1_count v_gk 0).bind fun q2 =>
    if q2 ≤ p0 then
      some 0
    else
      some 1
set_option maxHeartbeats 4000000 in
set_option maxRecDepth 100000 in
theorem kX1_has (l : Launch) (D : va_G) (T : Nat → ClassId) (a_g a_gw a_gk : Nat) (v_gk : Nat → Int32) (p0 : Int32) (r : Int32) (h : fX1_has v_gk p0 = some r) : RdI l yX1_has cX1_has 2 .boolean ({ frames := 1, cells := 0, slots := 0, locals := 21 } : Room) D T [(a_g, .inr (1, [.ref a_gw, .ref a_gk])), (a_gk, .inl (T 0, 18, .inl v_gk))] [.ref a_g, .int p0] r := by
  unfold fX1_has at h
  refine rdMet (by decide +kernel) rfl (fun p e s m args below meth c Q C hE hP hret ls hl => ?_)
  have hx := C.1
  have hb := C.2.1
  have hl : lv_has ls 2 [(0, .ref a_g), (1, .int p0)] := hl
  refine lv_iload_n hx hb dX1_has_0 rfl (lv_at hl 1 rfl) ?_
  refine lv_if_lt (tgt := 17) hx hb dX1_has_1 (by decide) (fun c1 => ?_) (fun c1 => ?_)
  · replace h := ite_t c1 h
    refine lv_iconst (v := 0) hx hb dX1_has_17 (by decide) ?_
    exact hret _ _ _ _ dX1_has_18 rfl (Option.some.inj h)
  · replace h := ite_f c1 h
    refine lv_iload_n hx hb dX1_has_4 rfl (lv_at hl 1 rfl) ?_
    refine lv_aload_n hx hb dX1_has_5 rfl (lv_at hl 0 rfl) ?_
    refine lv_iconst (v := 0) hx hb dX1_has_6 (by decide) ?_
    replace h := bnd h; obtain ⟨q2, e3, h⟩ := h
    refine rdV C hE hP (kX1_count l D T a_g a_gw a_gk v_gk 0 q2 e3) mX1_count qLX1_28 [0, 1] 0 rfl rfl rfl rfl ⟨rfl, rfl⟩ ⟨Nat.le_of_ble_eq_true rfl, Nat.le_of_ble_eq_true rfl⟩ rfl hl.1 rfl (Nat.le_of_ble_eq_true rfl) dX1_has_7 ⟨Nat.le_of_ble_eq_true rfl, Nat.le_of_ble_eq_true rfl⟩ ?_
    refine lv_icmp_ge (tgt := 17) hx hb dX1_has_10 (by decide) (fun c4 => ?_) (fun c4 => ?_)
    · replace h := ite_t c4 h
      refine lv_iconst (v := 0) hx hb dX1_has_17 (by decide) ?_
      exact hret _ _ _ _ dX1_has_18 rfl (Option.some.inj h)
    · replace h := ite_f c4 h
      refine lv_iconst (v := 1) hx hb dX1_has_13 (by decide) ?_
      refine lv_goto (tgt := 18) hx hb dX1_has_14 (by decide) ?_
      exact hret _ _ _ _ dX1_has_18 rfl (Option.some.inj h)

def fX1_isOver (v_gk : Nat → Int32) : Option Int32 :=
  (fX1_count v_gk 1).bind fun q1 =>
  if q1 < 48 then
    some 0
  else
    some 1
set_option maxHeartbeats 4000000 in
set_option maxRecDepth 100000 in
theorem kX1_isOver (l : Launch) (D : va_G) (T : Nat → ClassId) (a_g a_gw a_gk : Nat) (v_gk : Nat → Int32) (r : Int32) (h : fX1_isOver v_gk = some r) : RdI l yX1_isOver cX1_isOver 1 .boolean ({ frames := 1, cells := 0, slots := 0, locals := 21 } : Room) D T [(a_g, .inr (1, [.ref a_gw, .ref a_gk])), (a_gk, .inl (T 0, 18, .inl v_gk))] [.ref a_g] r := by
  unfold fX1_isOver at h
  refine rdMet (by decide +kernel) rfl (fun p e s m args below meth c Q C hE hP hret ls hl => ?_)
  have hx := C.1
  have hb := C.2.1
  have hl : lv_has ls 1 [(0, .ref a_g)] := hl
  refine lv_aload_n hx hb dX1_isOver_0 rfl (lv_at hl 0 rfl) ?_
  refine lv_iconst (v := 1) hx hb dX1_isOver_1 (by decide) ?_
  replace h := bnd h; obtain ⟨q1, e2, h⟩ := h
  refine rdV C hE hP (kX1_count l D T a_g a_gw a_gk v_gk 1 q1 e2) mX1_count qLX1_28 [0, 1] 0 rfl rfl rfl rfl ⟨rfl, rfl⟩ ⟨Nat.le_of_ble_eq_true rfl, Nat.le_of_ble_eq_true rfl⟩ rfl hl.1 rfl (Nat.le_of_ble_eq_true rfl) dX1_isOver_2 ⟨Nat.le_of_ble_eq_true rfl, Nat.le_of_ble_eq_true rfl⟩ ?_
  refine lv_bipush (v := 48) hx hb dX1_isOver_5 (by decide) ?_
  refine lv_icmp_lt (tgt := 14) hx hb dX1_isOver_7 (by decide) (fun c3 => ?_) (fun c3 => ?_)
  · replace h := ite_t c3 h
    refine lv_iconst (v := 0) hx hb dX1_isOver_14 (by decide) ?_
    exact hret _ _ _ _ dX1_isOver_15 rfl (Option.some.inj h)
  · replace h := ite_f c3 h
    refine lv_iconst (v := 1) hx hb dX1_isOver_10 (by decide) ?_
    refine lv_goto (tgt := 15) hx hb dX1_isOver_11 (by decide) ?_
    exact hret _ _ _ _ dX1_isOver_15 rfl (Option.some.inj h)

def fX1_isPlaying (v_gw : Nat → Int32) (p0 : Int32) : Option Int32 :=
  (fX1_of v_gw p0 4).bind fun q1 =>
  if q1 = (-1) then
    some 0
  else
    some 1
set_option maxHeartbeats 4000000 in
set_option maxRecDepth 100000 in
theorem kX1_isPlaying (l : Launch) (D : va_G) (T : Nat → ClassId) (a_g a_gw a_gk : Nat) (v_gw : Nat → Int32) (p0 : Int32) (r : Int32) (h : fX1_isPlaying v_gw p0 = some r) : RdI l yX1_isPlaying cX1_isPlaying 2 .boolean ({ frames := 1, cells := 0, slots := 0, locals := 23 } : Room) D T [(a_g, .inr (1, [.ref a_gw, .ref a_gk])), (a_gw, .inl (T 0, 90, .inl v_gw))] [.ref a_g, .int p0] r := by
  unfold fX1_isPlaying at h
  refine rdMet (by decide +kernel) rfl (fun p e s m args below meth c Q C hE hP hret ls hl => ?_)
  have hx := C.1
  have hb := C.2.1
  have hl : lv_has ls 2 [(0, .ref a_g), (1, .int p0)] := hl
  refine lv_aload_n hx hb dX1_isPlaying_0 rfl (lv_at hl 0 rfl) ?_
  refine lv_iload_n hx hb dX1_isPlaying_1 rfl (lv_at hl 1 rfl) ?_
  refine lv_iconst (v := 4) hx hb dX1_isPlaying_2 (by decide) ?_
  replace h := bnd h; obtain ⟨q1, e2, h⟩ := h
  refine rdV C hE hP (kX1_of l D T a_g a_gw a_gk v_gw p0 4 q1 e2) mX1_of qLX1_32 [0, 1] 0 rfl rfl rfl rfl ⟨rfl, rfl⟩ ⟨Nat.le_of_ble_eq_true rfl, Nat.le_of_ble_eq_true rfl⟩ rfl hl.1 rfl (Nat.le_of_ble_eq_true rfl) dX1_isPlaying_3 ⟨Nat.le_of_ble_eq_true rfl, Nat.le_of_ble_eq_true rfl⟩ ?_
  refine lv_iconst (v := (-1)) hx hb dX1_isPlaying_6 (by decide) ?_
  refine lv_icmp_eq (tgt := 14) hx hb dX1_isPlaying_7 (by decide) (fun c3 => ?_) (fun c3 => ?_)
  · replace h := ite_t c3 h
    refine lv_iconst (v := 0) hx hb dX1_isPlaying_14 (by decide) ?_
    exact hret _ _ _ _ dX1_isPlaying_15 rfl (Option.some.inj h)
  · replace h := ite_f c3 h
    refine lv_iconst (v := 1) hx hb dX1_isPlaying_10 (by decide) ?_
    refine lv_goto (tgt := 15) hx hb dX1_isPlaying_11 (by decide) ?_
    exact hret _ _ _ _ dX1_isPlaying_15 rfl (Option.some.inj h)

def fX6_playFault (u_det : Int32) (v_gw : Nat → Int32) (v_gk : Nat → Int32) (p0 : Int32) : Option (Int32 × Int32) :=
  (fX1_has v_gk p0).bind fun q1 =>
  if q1 = 0 then
    some ((-1), u_det)
  else
    (fX1_isOver v_gk).bind fun q4 =>
    if q4 = 0 then
      (fX1_isPlaying v_gw p0).bind fun q7 =>
      if q7 = 0 then
        (fX6_refuse u_det 3 p0).bind fun q10 =>
        some (q10.1, q10.2)
      else
        some (0, u_det)
    else
      (fX1_count v_gk 1).bind fun q12 =>
      (fX6_refuse u_det 2 q12).bind fun q14 =>
      some (q14.1, q14.2)
set_option maxHeartbeats 4000000 in
set_option maxRecDepth 100000 in
theorem kX6_playFault (l : Launch) (D : va_G) (T : Nat → ClassId) (a_g a_gw a_gk a_u a_r : Nat) (u_det : Int32) (v_gw : Nat → Int32) (v_gk : Nat → Int32) (p0 : Int32) (sz : Nat) (r : Int32 × Int32) (h : fX6_playFault u_det v_gw v_gk p0 = some r) : WrI l yX6_playFault cX6_playFault 2 .int ({ frames := 2, cells := 0, slots := 0, locals := 44 } : Room) D T sz [(a_g, .inr (1, [.ref a_gw, .ref a_gk])), (a_u, .inr (6, [.ref a_g, .ref a_r, .int u_det])), (a_gw, .inl (T 0, 90, .inl v_gw)), (a_gk, .inl (T 0, 18, .inl v_gk))] [(a_g, .inr (1, [.ref a_gw, .ref a_gk])), (a_u, .inr (6, [.ref a_g, .ref a_r, .int r.2])), (a_gw, .inl (T 0, 90, .inl v_gw)), (a_gk, .inl (T 0, 18, .inl v_gk))] [.ref a_u, .int p0] r.1 := by
  unfold fX6_playFault at h
  refine wrMet (by decide +kernel) rfl (fun p e s m args below meth c Q A C hE hA hP hD hS hret ls hl => ?_)
  have hx := C.1
  have hb := C.2.1
  have hl : lv_has ls 2 [(0, .ref a_u), (1, .int p0)] := hl
  refine lv_aload_n hx hb dX6_playFault_0 rfl (lv_at hl 0 rfl) ?_
  refine getF (q0 := 1) (k0 := 0) (v := .ref a_g) C hE hP inA6 rfl rfl (by decide) qFX6_15 rfl rfl dX6_playFault_1 ?_
  refine lv_iload_n hx hb dX6_playFault_4 rfl (lv_at hl 1 rfl) ?_
  replace h := bnd h; obtain ⟨q1, e2, h⟩ := h
  refine rdV C hE hP (kX1_has l D T a_g a_gw a_gk v_gk p0 q1 e2) mX1_has qLX6_50 [0, 3] 0 rfl rfl rfl rfl ⟨rfl, rfl⟩ ⟨Nat.le_of_ble_eq_true rfl, Nat.le_of_ble_eq_true rfl⟩ rfl hl.1 rfl (Nat.le_of_ble_eq_true rfl) dX6_playFault_5 ⟨Nat.le_of_ble_eq_true rfl, Nat.le_of_ble_eq_true rfl⟩ ?_
  refine lv_if_ne (tgt := 13) hx hb dX6_playFault_8 (by decide) (fun c3 => ?_) (fun c3 => ?_)
  · replace h := ite_f c3 h
    refine lv_aload_n hx hb dX6_playFault_13 rfl (lv_at hl 0 rfl) ?_
    refine getF (q0 := 1) (k0 := 0) (v := .ref a_g) C hE hP inA6 rfl rfl (by decide) qFX6_15 rfl rfl dX6_playFault_14 ?_
    replace h := bnd h; obtain ⟨q4, e5, h⟩ := h
    refine rdV C hE hP (kX1_isOver l D T a_g a_gw a_gk v_gk q4 e5) mX1_isOver qLX6_43 [0, 3] 0 rfl rfl rfl rfl ⟨rfl, rfl⟩ ⟨Nat.le_of_ble_eq_true rfl, Nat.le_of_ble_eq_true rfl⟩ rfl hl.1 rfl (Nat.le_of_ble_eq_true rfl) dX6_playFault_17 ⟨Nat.le_of_ble_eq_true rfl, Nat.le_of_ble_eq_true rfl⟩ ?_
    refine lv_if_eq (tgt := 37) hx hb dX6_playFault_20 (by decide) (fun c6 => ?_) (fun c6 => ?_)
    · replace h := ite_t c6 h
      refine lv_aload_n hx hb dX6_playFault_37 rfl (lv_at hl 0 rfl) ?_
      refine getF (q0 := 1) (k0 := 0) (v := .ref a_g) C hE hP inA6 rfl rfl (by decide) qFX6_15 rfl rfl dX6_playFault_38 ?_
      refine lv_iload_n hx hb dX6_playFault_41 rfl (lv_at hl 1 rfl) ?_
      replace h := bnd h; obtain ⟨q7, e8, h⟩ := h
      refine rdV C hE hP (kX1_isPlaying l D T a_g a_gw a_gk v_gw p0 q7 e8) mX1_isPlaying qLX6_53 [0, 2] 0 rfl rfl rfl rfl ⟨rfl, rfl⟩ ⟨Nat.le_of_ble_eq_true rfl, Nat.le_of_ble_eq_true rfl⟩ rfl hl.1 rfl (Nat.le_of_ble_eq_true rfl) dX6_playFault_42 ⟨Nat.le_of_ble_eq_true rfl, Nat.le_of_ble_eq_true rfl⟩ ?_
      refine lv_if_eq (tgt := 52) hx hb dX6_playFault_45 (by decide) (fun c9 => ?_) (fun c9 => ?_)
      · replace h := ite_t c9 h
        refine lv_aload_n hx hb dX6_playFault_52 rfl (lv_at hl 0 rfl) ?_
        refine lv_iconst (v := 3) hx hb dX6_playFault_53 (by decide) ?_
        refine lv_iload_n hx hb dX6_playFault_54 rfl (lv_at hl 1 rfl) ?_
        replace h := bnd h; obtain ⟨q10, e11, h⟩ := h
        refine wrVi (ws1 := [(a_g, .inr (1, [.ref a_gw, .ref a_gk])), (a_u, .inr (6, [.ref a_g, .ref a_r, .int q10.2])), (a_gw, .inl (T 0, 90, .inl v_gw)), (a_gk, .inl (T 0, 18, .inl v_gk))]) C hE hP hD hS hA (kX6_refuse l D T a_u a_g a_r u_det 3 p0 _ q10 e11) mX6_refuse qLX6_33 [1] [0, 2, 3] 1 rfl rfl rfl rfl rfl rfl rfl rfl rfl ⟨rfl, rfl⟩ ⟨Nat.le_of_ble_eq_true rfl, Nat.le_of_ble_eq_true rfl⟩ rfl hl.1 rfl (Nat.le_of_ble_eq_true rfl) dX6_playFault_55 ⟨Nat.le_of_ble_eq_true rfl, Nat.le_of_ble_eq_true rfl⟩ ?_; clear hP hD hS; intro H locs hP hD hS
        replace h := Option.some.inj h
        exact hret _ _ _ _ _ _ dX6_playFault_58 rfl (by rw [← h] <;> rfl) (by rw [← h]; exact hP) hS
      · replace h := ite_f c9 h
        refine lv_iconst (v := 0) hx hb dX6_playFault_48 (by decide) ?_
        refine lv_goto (tgt := 58) hx hb dX6_playFault_49 (by decide) ?_
        replace h := Option.some.inj h
        exact hret _ _ _ _ _ _ dX6_playFault_58 rfl (by rw [← h] <;> rfl) (by rw [← h]; exact hP) hS
    · replace h := ite_f c6 h
      refine lv_aload_n hx hb dX6_playFault_23 rfl (lv_at hl 0 rfl) ?_
      refine lv_iconst (v := 2) hx hb dX6_playFault_24 (by decide) ?_
      refine lv_aload_n hx hb dX6_playFault_25 rfl (lv_at hl 0 rfl) ?_
      refine getF (q0 := 1) (k0 := 0) (v := .ref a_g) C hE hP inA6 rfl rfl (by decide) qFX6_15 rfl rfl dX6_playFault_26 ?_
      refine lv_iconst (v := 1) hx hb dX6_playFault_29 (by decide) ?_
      replace h := bnd h; obtain ⟨q12, e13, h⟩ := h
      refine rdV C hE hP (kX1_count l D T a_g a_gw a_gk v_gk 1 q12 e13) mX1_count qLX6_47 [0, 3] 0 rfl rfl rfl rfl ⟨rfl, rfl⟩ ⟨Nat.le_of_ble_eq_true rfl, Nat.le_of_ble_eq_true rfl⟩ rfl hl.1 rfl (Nat.le_of_ble_eq_true rfl) dX6_playFault_30 ⟨Nat.le_of_ble_eq_true rfl, Nat.le_of_ble_eq_true rfl⟩ ?_
      replace h := bnd h; obtain ⟨q14, e15, h⟩ := h
      refine wrVi (ws1 := [(a_g, .inr (1, [.ref a_gw, .ref a_gk])), (a_u, .inr (6, [.ref a_g, .ref a_r, .int q14.2])), (a_gw, .inl (T 0, 90, .inl v_gw)), (a_gk, .inl (T 0, 18, .inl v_gk))]) C hE hP hD hS hA (kX6_refuse l D T a_u a_g a_r u_det 2 q12 _ q14 e15) mX6_refuse qLX6_33 [1] [0, 2, 3] 1 rfl rfl rfl rfl rfl rfl rfl rfl rfl ⟨rfl, rfl⟩ ⟨Nat.le_of_ble_eq_true rfl, Nat.le_of_ble_eq_true rfl⟩ rfl hl.1 rfl (Nat.le_of_ble_eq_true rfl) dX6_playFault_33 ⟨Nat.le_of_ble_eq_true rfl, Nat.le_of_ble_eq_true rfl⟩ ?_; clear hP hD hS; intro H locs hP hD hS
      replace h := Option.some.inj h
      exact hret _ _ _ _ _ _ dX6_playFault_36 rfl (by rw [← h] <;> rfl) (by rw [← h]; exact hP) hS
  · replace h := ite_t c3 h
    refine lv_iconst (v := (-1)) hx hb dX6_playFault_11 (by decide) ?_
    replace h := Option.some.inj h
    exact hret _ _ _ _ _ _ dX6_playFault_12 rfl (by rw [← h] <;> rfl) (by rw [← h]; exact hP) hS

def fX6_substituteFault (u_det : Int32) (v_gw : Nat → Int32) (v_gk : Nat → Int32) (p0 : Int32) (p1 : Int32) : Option (Int32 × Int32) :=
  (fX1_has v_gk p1).bind fun q1 =>
  if q1 = 0 then
    some ((-1), u_det)
  else
    (fX6_playFault u_det v_gw v_gk p0).bind fun q4 =>
    if q4.1 = 0 then
      (fX1_of v_gw p1 0).bind fun q7 =>
      (fX1_of v_gw p0 0).bind fun q9 =>
      if q9 = q7 then
        (fX1_isPlaying v_gw p1).bind fun q12 =>
        if q12 = 0 then
          (fX1_count v_gk (16 + q7)).bind fun q15 =>
          if q15 < 2 then
            some (0, q4.2)
          else
            (fX1_count v_gk (14 + q7)).bind fun q18 =>
            (fX6_refuse q4.2 14 q18).bind fun q20 =>
            some (q20.1, q20.2)
        else
          (fX1_of v_gw p1 4).bind fun q22 =>
          (fX6_refuse q4.2 13 q22).bind fun q24 =>
          some (q24.1, q24.2)
      else
        (fX6_refuse q4.2 12 q7).bind fun q26 =>
        some (q26.1, q26.2)
    else
      some (q4.1, q4.2)
set_option maxHeartbeats 4000000 in
set_option maxRecDepth 100000 in
theorem kX6_substituteFault (l : Launch) (D : va_G) (T : Nat → ClassId) (a_g a_gw a_gk a_u a_r : Nat) (u_det : Int32) (v_gw : Nat → Int32) (v_gk : Nat → Int32) (p0 : Int32) (p1 : Int32) (sz : Nat) (r : Int32 × Int32) (h : fX6_substituteFault u_det v_gw v_gk p0 p1 = some r) : WrI l yX6_substituteFault cX6_substituteFault 5 .int ({ frames := 3, cells := 0, slots := 0, locals := 65 } : Room) D T sz [(a_g, .inr (1, [.ref a_gw, .ref a_gk])), (a_u, .inr (6, [.ref a_g, .ref a_r, .int u_det])), (a_gw, .inl (T 0, 90, .inl v_gw)), (a_gk, .inl (T 0, 18, .inl v_gk))] [(a_g, .inr (1, [.ref a_gw, .ref a_gk])), (a_u, .inr (6, [.ref a_g, .ref a_r, .int r.2])), (a_gw, .inl (T 0, 90, .inl v_gw)), (a_gk, .inl (T 0, 18, .inl v_gk))] [.ref a_u, .int p0, .int p1] r.1 := by
  unfold fX6_substituteFault at h
  refine wrMet (by decide +kernel) rfl (fun p e s m args below meth c Q A C hE hA hP hD hS hret ls hl => ?_)
  have hx := C.1
  have hb := C.2.1
  have hl : lv_has ls 5 [(0, .ref a_u), (1, .int p0), (2, .int p1)] := hl
  refine lv_aload_n hx hb dX6_substituteFault_0 rfl (lv_at hl 0 rfl) ?_
  refine getF (q0 := 1) (k0 := 0) (v := .ref a_g) C hE hP inA6 rfl rfl (by decide) qFX6_15 rfl rfl dX6_substituteFault_1 ?_
  refine lv_iload_n hx hb dX6_substituteFault_4 rfl (lv_at hl 2 rfl) ?_
  replace h := bnd h; obtain ⟨q1, e2, h⟩ := h
  refine rdV C hE hP (kX1_has l D T a_g a_gw a_gk v_gk p1 q1 e2) mX1_has qLX6_50 [0, 3] 0 rfl rfl rfl rfl ⟨rfl, rfl⟩ ⟨Nat.le_of_ble_eq_true rfl, Nat.le_of_ble_eq_true rfl⟩ rfl hl.1 rfl (Nat.le_of_ble_eq_true rfl) dX6_substituteFault_5 ⟨Nat.le_of_ble_eq_true rfl, Nat.le_of_ble_eq_true rfl⟩ ?_
  refine lv_if_ne (tgt := 13) hx hb dX6_substituteFault_8 (by decide) (fun c3 => ?_) (fun c3 => ?_)
  · replace h := ite_f c3 h
    refine lv_aload_n hx hb dX6_substituteFault_13 rfl (lv_at hl 0 rfl) ?_
    refine lv_iload_n hx hb dX6_substituteFault_14 rfl (lv_at hl 1 rfl) ?_
    replace h := bnd h; obtain ⟨q4, e5, h⟩ := h
    refine wrVi (ws1 := [(a_g, .inr (1, [.ref a_gw, .ref a_gk])), (a_u, .inr (6, [.ref a_g, .ref a_r, .int q4.2])), (a_gw, .inl (T 0, 90, .inl v_gw)), (a_gk, .inl (T 0, 18, .inl v_gk))]) C hE hP hD hS hA (kX6_playFault l D T a_g a_gw a_gk a_u a_r u_det v_gw v_gk p0 _ q4 e5) mX6_playFault qLX6_56 [0, 1, 2, 3] [] 1 rfl rfl rfl rfl rfl rfl rfl rfl rfl ⟨rfl, rfl⟩ ⟨Nat.le_of_ble_eq_true rfl, Nat.le_of_ble_eq_true rfl⟩ rfl hl.1 rfl (Nat.le_of_ble_eq_true rfl) dX6_substituteFault_15 ⟨Nat.le_of_ble_eq_true rfl, Nat.le_of_ble_eq_true rfl⟩ ?_; clear hP hD hS; intro H locs hP hD hS
    refine lv_istore_n (lv' := [(3, .int q4.1), (0, .ref a_u), (1, .int p0), (2, .int p1)]) hx hb dX6_substituteFault_18 rfl hl (by decide) rfl (fun ls hl => ?_)
    refine lv_iload_n hx hb dX6_substituteFault_19 rfl (lv_at hl 0 rfl) ?_
    refine lv_if_eq (tgt := 25) hx hb dX6_substituteFault_20 (by decide) (fun c6 => ?_) (fun c6 => ?_)
    · replace h := ite_t c6 h
      refine lv_aload_n hx hb dX6_substituteFault_25 rfl (lv_at hl 1 rfl) ?_
      refine getF (q0 := 1) (k0 := 0) (v := .ref a_g) C hE hP inA6 rfl rfl (by decide) qFX6_15 rfl rfl dX6_substituteFault_26 ?_
      refine lv_iload_n hx hb dX6_substituteFault_29 rfl (lv_at hl 3 rfl) ?_
      refine lv_iconst (v := 0) hx hb dX6_substituteFault_30 (by decide) ?_
      replace h := bnd h; obtain ⟨q7, e8, h⟩ := h
      refine rdV C hE hP (kX1_of l D T a_g a_gw a_gk v_gw p1 0 q7 e8) mX1_of qLX6_62 [0, 2] 0 rfl rfl rfl rfl ⟨rfl, rfl⟩ ⟨Nat.le_of_ble_eq_true rfl, Nat.le_of_ble_eq_true rfl⟩ rfl hl.1 rfl (Nat.le_of_ble_eq_true rfl) dX6_substituteFault_31 ⟨Nat.le_of_ble_eq_true rfl, Nat.le_of_ble_eq_true rfl⟩ ?_
      refine lv_istore (lv' := [(4, .int q7), (3, .int q4.1), (0, .ref a_u), (1, .int p0), (2, .int p1)]) hx hb dX6_substituteFault_34 hl (by decide) rfl (fun ls hl => ?_)
      refine lv_aload_n hx hb dX6_substituteFault_36 rfl (lv_at hl 2 rfl) ?_
      refine getF (q0 := 1) (k0 := 0) (v := .ref a_g) C hE hP inA6 rfl rfl (by decide) qFX6_15 rfl rfl dX6_substituteFault_37 ?_
      refine lv_iload_n hx hb dX6_substituteFault_40 rfl (lv_at hl 3 rfl) ?_
      refine lv_iconst (v := 0) hx hb dX6_substituteFault_41 (by decide) ?_
      replace h := bnd h; obtain ⟨q9, e10, h⟩ := h
      refine rdV C hE hP (kX1_of l D T a_g a_gw a_gk v_gw p0 0 q9 e10) mX1_of qLX6_62 [0, 2] 0 rfl rfl rfl rfl ⟨rfl, rfl⟩ ⟨Nat.le_of_ble_eq_true rfl, Nat.le_of_ble_eq_true rfl⟩ rfl hl.1 rfl (Nat.le_of_ble_eq_true rfl) dX6_substituteFault_42 ⟨Nat.le_of_ble_eq_true rfl, Nat.le_of_ble_eq_true rfl⟩ ?_
      refine lv_iload hx hb dX6_substituteFault_45 (lv_at hl 0 rfl) ?_
      refine lv_icmp_eq (tgt := 59) hx hb dX6_substituteFault_47 (by decide) (fun c11 => ?_) (fun c11 => ?_)
      · replace h := ite_t c11 h
        refine lv_aload_n hx hb dX6_substituteFault_59 rfl (lv_at hl 2 rfl) ?_
        refine getF (q0 := 1) (k0 := 0) (v := .ref a_g) C hE hP inA6 rfl rfl (by decide) qFX6_15 rfl rfl dX6_substituteFault_60 ?_
        refine lv_iload_n hx hb dX6_substituteFault_63 rfl (lv_at hl 4 rfl) ?_
        replace h := bnd h; obtain ⟨q12, e13, h⟩ := h
        refine rdV C hE hP (kX1_isPlaying l D T a_g a_gw a_gk v_gw p1 q12 e13) mX1_isPlaying qLX6_53 [0, 2] 0 rfl rfl rfl rfl ⟨rfl, rfl⟩ ⟨Nat.le_of_ble_eq_true rfl, Nat.le_of_ble_eq_true rfl⟩ rfl hl.1 rfl (Nat.le_of_ble_eq_true rfl) dX6_substituteFault_64 ⟨Nat.le_of_ble_eq_true rfl, Nat.le_of_ble_eq_true rfl⟩ ?_
        refine lv_if_eq (tgt := 86) hx hb dX6_substituteFault_67 (by decide) (fun c14 => ?_) (fun c14 => ?_)
        · replace h := ite_t c14 h
          refine lv_aload_n hx hb dX6_substituteFault_86 rfl (lv_at hl 2 rfl) ?_
          refine getF (q0 := 1) (k0 := 0) (v := .ref a_g) C hE hP inA6 rfl rfl (by decide) qFX6_15 rfl rfl dX6_substituteFault_87 ?_
          refine lv_bipush (v := 16) hx hb dX6_substituteFault_90 (by decide) ?_
          refine lv_iload hx hb dX6_substituteFault_92 (lv_at hl 0 rfl) ?_
          refine lv_iadd hx hb dX6_substituteFault_94 ?_
          replace h := bnd h; obtain ⟨q15, e16, h⟩ := h
          refine rdV C hE hP (kX1_count l D T a_g a_gw a_gk v_gk (16 + q7) q15 e16) mX1_count qLX6_47 [0, 3] 0 rfl rfl rfl rfl ⟨rfl, rfl⟩ ⟨Nat.le_of_ble_eq_true rfl, Nat.le_of_ble_eq_true rfl⟩ rfl hl.1 rfl (Nat.le_of_ble_eq_true rfl) dX6_substituteFault_95 ⟨Nat.le_of_ble_eq_true rfl, Nat.le_of_ble_eq_true rfl⟩ ?_
          refine lv_iconst (v := 2) hx hb dX6_substituteFault_98 (by decide) ?_
          refine lv_icmp_lt (tgt := 121) hx hb dX6_substituteFault_99 (by decide) (fun c17 => ?_) (fun c17 => ?_)
          · replace h := ite_t c17 h
            refine lv_iconst (v := 0) hx hb dX6_substituteFault_121 (by decide) ?_
            replace h := Option.some.inj h
            exact hret _ _ _ _ _ _ dX6_substituteFault_122 rfl (by rw [← h] <;> rfl) (by rw [← h]; exact hP) hS
          · replace h := ite_f c17 h
            refine lv_aload_n hx hb dX6_substituteFault_102 rfl (lv_at hl 2 rfl) ?_
            refine lv_bipush (v := 14) hx hb dX6_substituteFault_103 (by decide) ?_
            refine lv_aload_n hx hb dX6_substituteFault_105 rfl (lv_at hl 2 rfl) ?_
            refine getF (q0 := 1) (k0 := 0) (v := .ref a_g) C hE hP inA6 rfl rfl (by decide) qFX6_15 rfl rfl dX6_substituteFault_106 ?_
            refine lv_bipush (v := 14) hx hb dX6_substituteFault_109 (by decide) ?_
            refine lv_iload hx hb dX6_substituteFault_111 (lv_at hl 0 rfl) ?_
            refine lv_iadd hx hb dX6_substituteFault_113 ?_
            replace h := bnd h; obtain ⟨q18, e19, h⟩ := h
            refine rdV C hE hP (kX1_count l D T a_g a_gw a_gk v_gk (14 + q7) q18 e19) mX1_count qLX6_47 [0, 3] 0 rfl rfl rfl rfl ⟨rfl, rfl⟩ ⟨Nat.le_of_ble_eq_true rfl, Nat.le_of_ble_eq_true rfl⟩ rfl hl.1 rfl (Nat.le_of_ble_eq_true rfl) dX6_substituteFault_114 ⟨Nat.le_of_ble_eq_true rfl, Nat.le_of_ble_eq_true rfl⟩ ?_
            replace h := bnd h; obtain ⟨q20, e21, h⟩ := h
            refine wrVi (ws1 := [(a_g, .inr (1, [.ref a_gw, .ref a_gk])), (a_u, .inr (6, [.ref a_g, .ref a_r, .int q20.2])), (a_gw, .inl (T 0, 90, .inl v_gw)), (a_gk, .inl (T 0, 18, .inl v_gk))]) C hE hP hD hS hA (kX6_refuse l D T a_u a_g a_r q4.2 14 q18 _ q20 e21) mX6_refuse qLX6_33 [1] [0, 2, 3] 1 rfl rfl rfl rfl rfl rfl rfl rfl rfl ⟨rfl, rfl⟩ ⟨Nat.le_of_ble_eq_true rfl, Nat.le_of_ble_eq_true rfl⟩ rfl hl.1 rfl (Nat.le_of_ble_eq_true rfl) dX6_substituteFault_117 ⟨Nat.le_of_ble_eq_true rfl, Nat.le_of_ble_eq_true rfl⟩ ?_; clear hP hD hS; intro H locs hP hD hS
            replace h := Option.some.inj h
            exact hret _ _ _ _ _ _ dX6_substituteFault_120 rfl (by rw [← h] <;> rfl) (by rw [← h]; exact hP) hS
        · replace h := ite_f c14 h
          refine lv_aload_n hx hb dX6_substituteFault_70 rfl (lv_at hl 2 rfl) ?_
          refine lv_bipush (v := 13) hx hb dX6_substituteFault_71 (by decide) ?_
          refine lv_aload_n hx hb dX6_substituteFault_73 rfl (lv_at hl 2 rfl) ?_
          refine getF (q0 := 1) (k0 := 0) (v := .ref a_g) C hE hP inA6 rfl rfl (by decide) qFX6_15 rfl rfl dX6_substituteFault_74 ?_
          refine lv_iload_n hx hb dX6_substituteFault_77 rfl (lv_at hl 4 rfl) ?_
          refine lv_iconst (v := 4) hx hb dX6_substituteFault_78 (by decide) ?_
          replace h := bnd h; obtain ⟨q22, e23, h⟩ := h
          refine rdV C hE hP (kX1_of l D T a_g a_gw a_gk v_gw p1 4 q22 e23) mX1_of qLX6_62 [0, 2] 0 rfl rfl rfl rfl ⟨rfl, rfl⟩ ⟨Nat.le_of_ble_eq_true rfl, Nat.le_of_ble_eq_true rfl⟩ rfl hl.1 rfl (Nat.le_of_ble_eq_true rfl) dX6_substituteFault_79 ⟨Nat.le_of_ble_eq_true rfl, Nat.le_of_ble_eq_true rfl⟩ ?_
          replace h := bnd h; obtain ⟨q24, e25, h⟩ := h
          refine wrVi (ws1 := [(a_g, .inr (1, [.ref a_gw, .ref a_gk])), (a_u, .inr (6, [.ref a_g, .ref a_r, .int q24.2])), (a_gw, .inl (T 0, 90, .inl v_gw)), (a_gk, .inl (T 0, 18, .inl v_gk))]) C hE hP hD hS hA (kX6_refuse l D T a_u a_g a_r q4.2 13 q22 _ q24 e25) mX6_refuse qLX6_33 [1] [0, 2, 3] 1 rfl rfl rfl rfl rfl rfl rfl rfl rfl ⟨rfl, rfl⟩ ⟨Nat.le_of_ble_eq_true rfl, Nat.le_of_ble_eq_true rfl⟩ rfl hl.1 rfl (Nat.le_of_ble_eq_true rfl) dX6_substituteFault_82 ⟨Nat.le_of_ble_eq_true rfl, Nat.le_of_ble_eq_true rfl⟩ ?_; clear hP hD hS; intro H locs hP hD hS
          replace h := Option.some.inj h
          exact hret _ _ _ _ _ _ dX6_substituteFault_85 rfl (by rw [← h] <;> rfl) (by rw [← h]; exact hP) hS
      · replace h := ite_f c11 h
        refine lv_aload_n hx hb dX6_substituteFault_50 rfl (lv_at hl 2 rfl) ?_
        refine lv_bipush (v := 12) hx hb dX6_substituteFault_51 (by decide) ?_
        refine lv_iload hx hb dX6_substituteFault_53 (lv_at hl 0 rfl) ?_
        replace h := bnd h; obtain ⟨q26, e27, h⟩ := h
        refine wrVi (ws1 := [(a_g, .inr (1, [.ref a_gw, .ref a_gk])), (a_u, .inr (6, [.ref a_g, .ref a_r, .int q26.2])), (a_gw, .inl (T 0, 90, .inl v_gw)), (a_gk, .inl (T 0, 18, .inl v_gk))]) C hE hP hD hS hA (kX6_refuse l D T a_u a_g a_r q4.2 12 q7 _ q26 e27) mX6_refuse qLX6_33 [1] [0, 2, 3] 1 rfl rfl rfl rfl rfl rfl rfl rfl rfl ⟨rfl, rfl⟩ ⟨Nat.le_of_ble_eq_true rfl, Nat.le_of_ble_eq_true rfl⟩ rfl hl.1 rfl (Nat.le_of_ble_eq_true rfl) dX6_substituteFault_55 ⟨Nat.le_of_ble_eq_true rfl, Nat.le_of_ble_eq_true rfl⟩ ?_; clear hP hD hS; intro H locs hP hD hS
        replace h := Option.some.inj h
        exact hret _ _ _ _ _ _ dX6_substituteFault_58 rfl (by rw [← h] <;> rfl) (by rw [← h]; exact hP) hS
    · replace h := ite_f c6 h
      refine lv_iload_n hx hb dX6_substituteFault_23 rfl (lv_at hl 0 rfl) ?_
      replace h := Option.some.inj h
      exact hret _ _ _ _ _ _ dX6_substituteFault_24 rfl (by rw [← h] <;> rfl) (by rw [← h]; exact hP) hS
  · replace h := ite_t c3 h
    refine lv_iconst (v := (-1)) hx hb dX6_substituteFault_11 (by decide) ?_
    replace h := Option.some.inj h
    exact hret _ _ _ _ _ _ dX6_substituteFault_12 rfl (by rw [← h] <;> rfl) (by rw [← h]; exact hP) hS

def fX7_demandThere (p0 : Int32) : Option Nat :=
  if p0 = (-1) then
    some 3
  else
    some 0
set_option maxHeartbeats 4000000 in
set_option maxRecDepth 100000 in
theorem kX7_demandThere (l : Launch) (hnt : l.stackTraces = false) (D : va_G) (T : Nat → ClassId) (a_x : Nat) (p0 : Int32) (sz : Nat) (r : Nat) (h : fX7_demandThere p0 = some r) : ThV l yX7_demandThere cX7_demandThere 2 ({ frames := 6, cells := 1, slots := 6, locals := 90 } : Room) D T sz [] [] [.ref a_x, .int p0] r := by
  unfold fX7_demandThere at h
  refine thMetV hnt (by decide +kernel) rfl (fun p e s m args below meth c Q A C hE hA hZ hP hD hS hret ls hl => ?_)
  have hx := C.1
  have hb := C.2.1
  have hl : lv_has ls 2 [(0, .ref a_x), (1, .int p0)] := hl
  refine lv_iload_n hx hb dX7_demandThere_0 rfl (lv_at hl 1 rfl) ?_
  refine lv_iconst (v := (-1)) hx hb dX7_demandThere_1 (by decide) ?_
  refine lv_icmp_ne (tgt := 16) hx hb dX7_demandThere_2 (by decide) (fun c1 => ?_) (fun c1 => ?_)
  · replace h := ite_f c1 h
    replace h := Option.some.inj h
    exact hret.1 _ _ _ _ _ _ (Nat.le_of_ble_eq_true rfl) (Nat.le_of_ble_eq_true rfl) dX7_demandThere_16 (by rw [← h]) hP hS
  · replace h := ite_t c1 h
    replace h := Option.some.inj h
    exact hret.2.2 _ _ _ _ _ _ _ 265 269 376 _ "no such whale or cell" (by rw [← h]; exact thrX7_265_269_3) (by decide +kernel) dX7_demandThere_5 dX7_demandThere_8 (Or.inr ⟨dX7_demandThere_9, dX7_demandThere_12, dX7_demandThere_15⟩) (Nat.le_of_ble_eq_true rfl) (Nat.le_of_ble_eq_true rfl) (Nat.le_of_ble_eq_true rfl) (Nat.le_of_ble_eq_true rfl) (hl.1.trans C.2.2.1.symm) (by rw [← h]; exact (Nat.le_of_ble_eq_true rfl)) hP hS

def fX1_endChukka_30 : Nat → Int32 → (Nat → Int32) → (Nat → Int32) → Option ((Nat → Int32) × (Nat → Int32))
  | 0, _, _, _ => none
  | k + 1, l1, v_gw, v_gk =>
    (fX1_count v_gk 0).bind fun q9 =>
    if q9 ≤ l1 then
      some (v_gw, v_gk)
    else
      (fX1_set v_gw l1 5 0).bind fun q12 =>
      (fX1_of q12 l1 3).bind fun q14 =>
      (fX1_set q12 l1 3 (if 20 < (q14 + 5) then 20 else (q14 + 5))).bind fun q16 =>
      fX1_endChukka_30 k (l1 + 1) q16 v_gk
def fX1_endChukka (v_gw : Nat → Int32) (v_gk : Nat → Int32) : Option ((Nat → Int32) × (Nat → Int32)) :=
  (fX1_setCount v_gk 5 22).bind fun q1 =>
  (fX1_setCount q1 6 (-1)).bind fun q3 =>
  (fX1_setCount q3 16 0).bind fun q5 =>
  (fX1_setCount q5 17 0).bind fun q7 =>
  fX1_endChukka_30 64 0 v_gw q7
set_option maxHeartbeats 4000000 in
set_option maxRecDepth 100000 in
theorem lX1_endChukka_30 {p : Program} {l : Launch} {e : Env} {s : State} {m : MethodId} {args : Array Value} {below : List Frame} {meth : Method} {c : Code} {Q : State → Prop} {D : va_G} {T : Nat → ClassId} {a_g a_gw a_gk : Nat} {A : Nat → Prop} {r : (Nat → Int32) × (Nat → Int32)} (C : CallFix p m c cX1_endChukka 2 s args aw RX1) (hE : eK D T s) (hA : ∀ q : Nat, s.heap.size ≤ q → A q) (hret : WrRetV p l e ({ frames := 1, cells := 0, slots := 0, locals := 24 } : Room) s m args below meth c Q cX1_endChukka D A [(a_g, .inr (1, [.ref a_gw, .ref a_gk])), (a_gw, .inl (T 0, 90, .inl r.1)), (a_gk, .inl (T 0, 18, .inl r.2))]) : ∀ (k : Nat) (l1 : Int32) (v_gw : Nat → Int32) (v_gk : Nat → Int32) {H : Heap} {locs : List Loc} (hPD : va_PD D A [(a_g, .inr (1, [.ref a_gw, .ref a_gk])), (a_gw, .inl (T 0, 90, .inl v_gw)), (a_gk, .inl (T 0, 18, .inl v_gk))] H) (hS : va_S A s.heap H locs) (ls : Array Slot) (hl : lv_has ls 2 [(0, .ref a_g), (1, .int l1)]) (h : fX1_endChukka_30 k l1 v_gw v_gk = some r), W p l e ({ frames := 1, cells := 0, slots := 0, locals := 24 } : Room) s m args below meth c H locs 0 0 Q (F0 m 30 ls []) := by
  have hx := C.1
  have hb := C.2.1
  intro k
  induction k with
  | zero =>
    intro l1 v_gw v_gk H locs hPD hS ls hl h
    exact nomatch (show (none : Option ((Nat → Int32) × (Nat → Int32))) = some r from h)
  | succ k ih =>
    intro l1 v_gw v_gk H locs hPD hS ls hl h
    obtain ⟨hP, hD⟩ := hPD
    rw [fX1_endChukka_30] at h
    refine lv_iload_n hx hb dX1_endChukka_30 rfl (lv_at hl 1 rfl) ?_
    refine lv_aload_n hx hb dX1_endChukka_31 rfl (lv_at hl 0 rfl) ?_
    refine lv_iconst (v := 0) hx hb dX1_endChukka_32 (by decide) ?_
    replace h := bnd h; obtain ⟨q9, e10, h⟩ := h
    refine rdV C hE hP (kX1_count l D T a_g a_gw a_gk v_gk 0 q9 e10) mX1_count qLX1_28 [0, 2] 0 rfl rfl rfl rfl ⟨rfl, rfl⟩ ⟨Nat.le_of_ble_eq_true rfl, Nat.le_of_ble_eq_true rfl⟩ rfl hl.1 rfl (Nat.le_of_ble_eq_true rfl) dX1_endChukka_33 ⟨Nat.le_of_ble_eq_true rfl, Nat.le_of_ble_eq_true rfl⟩ ?_
    refine lv_icmp_ge (tgt := 71) hx hb dX1_endChukka_36 (by decide) (fun c11 => ?_) (fun c11 => ?_)
    · replace h := ite_t c11 h
      replace h := Option.some.inj h
      exact hret _ _ _ _ dX1_endChukka_71 (by rw [← h]; exact hP) hS
    · replace h := ite_f c11 h
      refine lv_aload_n hx hb dX1_endChukka_39 rfl (lv_at hl 0 rfl) ?_
      refine lv_iload_n hx hb dX1_endChukka_40 rfl (lv_at hl 1 rfl) ?_
      refine lv_iconst (v := 5) hx hb dX1_endChukka_41 (by decide) ?_
      refine lv_iconst (v := 0) hx hb dX1_endChukka_42 (by decide) ?_
      replace h := bnd h; obtain ⟨q12, e13, h⟩ := h
      refine wrVv (ws1 := [(a_g, .inr (1, [.ref a_gw, .ref a_gk])), (a_gw, .inl (T 0, 90, .inl q12)), (a_gk, .inl (T 0, 18, .inl v_gk))]) C hE hP hD hS hA (kX1_set l D T a_g a_gw a_gk v_gw l1 5 0 _ q12 e13) mX1_set qLX1_36 [0, 1] [2] 0 rfl rfl rfl rfl rfl rfl rfl rfl rfl ⟨rfl, rfl⟩ ⟨Nat.le_of_ble_eq_true rfl, Nat.le_of_ble_eq_true rfl⟩ rfl hl.1 rfl (Nat.le_of_ble_eq_true rfl) dX1_endChukka_43 ⟨Nat.le_of_ble_eq_true rfl, Nat.le_of_ble_eq_true rfl⟩ ?_; clear hP hD hS; intro H locs hP hD hS
      refine lv_aload_n hx hb dX1_endChukka_46 rfl (lv_at hl 0 rfl) ?_
      refine lv_iload_n hx hb dX1_endChukka_47 rfl (lv_at hl 1 rfl) ?_
      refine lv_iconst (v := 3) hx hb dX1_endChukka_48 (by decide) ?_
      refine lv_aload_n hx hb dX1_endChukka_49 rfl (lv_at hl 0 rfl) ?_
      refine lv_iload_n hx hb dX1_endChukka_50 rfl (lv_at hl 1 rfl) ?_
      refine lv_iconst (v := 3) hx hb dX1_endChukka_51 (by decide) ?_
      replace h := bnd h; obtain ⟨q14, e15, h⟩ := h
      refine rdV C hE hP (kX1_of l D T a_g a_gw a_gk q12 l1 3 q14 e15) mX1_of qLX1_32 [0, 1] 0 rfl rfl rfl rfl ⟨rfl, rfl⟩ ⟨Nat.le_of_ble_eq_true rfl, Nat.le_of_ble_eq_true rfl⟩ rfl hl.1 rfl (Nat.le_of_ble_eq_true rfl) dX1_endChukka_52 ⟨Nat.le_of_ble_eq_true rfl, Nat.le_of_ble_eq_true rfl⟩ ?_
      refine lv_iconst (v := 5) hx hb dX1_endChukka_55 (by decide) ?_
      refine lv_iadd hx hb dX1_endChukka_56 ?_
      refine lv_bipush (v := 20) hx hb dX1_endChukka_57 (by decide) ?_
      refine va_mmin hx hb (C.2.2.1.trans hl.1.symm) C.2.2.2.1 (C.2.2.2.2 _ qLX1_85) (C.2.2.2.2 _ qMs_min) (C.2.2.2.2 _ qMi) (C.2.2.2.2 _ qMc_min) (Nat.le_of_ble_eq_true rfl) (Nat.le_of_ble_eq_true rfl) (Nat.le_of_ble_eq_true rfl) (Nat.le_of_ble_eq_true rfl) dX1_endChukka_59 ?_
      replace h := bnd h; obtain ⟨q16, e17, h⟩ := h
      refine wrVv (ws1 := [(a_g, .inr (1, [.ref a_gw, .ref a_gk])), (a_gw, .inl (T 0, 90, .inl q16)), (a_gk, .inl (T 0, 18, .inl v_gk))]) C hE hP hD hS hA (kX1_set l D T a_g a_gw a_gk q12 l1 3 (if 20 < (q14 + 5) then 20 else (q14 + 5)) _ q16 e17) mX1_set qLX1_36 [0, 1] [2] 0 rfl rfl rfl rfl rfl rfl rfl rfl rfl ⟨rfl, rfl⟩ ⟨Nat.le_of_ble_eq_true rfl, Nat.le_of_ble_eq_true rfl⟩ rfl hl.1 rfl (Nat.le_of_ble_eq_true rfl) dX1_endChukka_62 ⟨Nat.le_of_ble_eq_true rfl, Nat.le_of_ble_eq_true rfl⟩ ?_; clear hP hD hS; intro H locs hP hD hS
      refine lv_iinc (v := (l1 + 1)) (lv' := [(1, .int (l1 + 1)), (0, .ref a_g)]) hx hb dX1_endChukka_65 hl (k := 1) rfl rfl (by decide) rfl (fun ls hl => ?_)
      refine lv_goto (tgt := 30) hx hb dX1_endChukka_68 (by decide) ?_
      exact ih (l1 + 1) q16 v_gk ⟨hP, hD⟩ hS _ (lv_sub hl [1, 0] rfl) h
set_option maxHeartbeats 4000000 in
set_option maxRecDepth 100000 in
theorem kX1_endChukka (l : Launch) (D : va_G) (T : Nat → ClassId) (a_g a_gw a_gk : Nat) (v_gw : Nat → Int32) (v_gk : Nat → Int32) (sz : Nat) (r : (Nat → Int32) × (Nat → Int32)) (h : fX1_endChukka v_gw v_gk = some r) : WrV l yX1_endChukka cX1_endChukka 2 ({ frames := 1, cells := 0, slots := 0, locals := 24 } : Room) D T sz [(a_g, .inr (1, [.ref a_gw, .ref a_gk])), (a_gw, .inl (T 0, 90, .inl v_gw)), (a_gk, .inl (T 0, 18, .inl v_gk))] [(a_g, .inr (1, [.ref a_gw, .ref a_gk])), (a_gw, .inl (T 0, 90, .inl r.1)), (a_gk, .inl (T 0, 18, .inl r.2))] [.ref a_g] := by
  unfold fX1_endChukka at h
  refine wrMetV (by decide +kernel) rfl (fun p e s m args below meth c Q A C hE hA hP hD hS hret ls hl => ?_)
  have hx := C.1
  have hb := C.2.1
  have hl : lv_has ls 2 [(0, .ref a_g)] := hl
  refine lv_aload_n hx hb dX1_endChukka_0 rfl (lv_at hl 0 rfl) ?_
  refine lv_iconst (v := 5) hx hb dX1_endChukka_1 (by decide) ?_
  refine lv_bipush (v := 22) hx hb dX1_endChukka_2 (by decide) ?_
  replace h := bnd h; obtain ⟨q1, e2, h⟩ := h
  refine wrVv (ws1 := [(a_g, .inr (1, [.ref a_gw, .ref a_gk])), (a_gw, .inl (T 0, 90, .inl v_gw)), (a_gk, .inl (T 0, 18, .inl q1))]) C hE hP hD hS hA (kX1_setCount l D T a_g a_gw a_gk v_gk 5 22 _ q1 e2) mX1_setCount qLX1_18 [0, 2] [1] 0 rfl rfl rfl rfl rfl rfl rfl rfl rfl ⟨rfl, rfl⟩ ⟨Nat.le_of_ble_eq_true rfl, Nat.le_of_ble_eq_true rfl⟩ rfl hl.1 rfl (Nat.le_of_ble_eq_true rfl) dX1_endChukka_4 ⟨Nat.le_of_ble_eq_true rfl, Nat.le_of_ble_eq_true rfl⟩ ?_; clear hP hD hS; intro H locs hP hD hS
  refine lv_aload_n hx hb dX1_endChukka_7 rfl (lv_at hl 0 rfl) ?_
  refine lv_bipush (v := 6) hx hb dX1_endChukka_8 (by decide) ?_
  refine lv_iconst (v := (-1)) hx hb dX1_endChukka_10 (by decide) ?_
  replace h := bnd h; obtain ⟨q3, e4, h⟩ := h
  refine wrVv (ws1 := [(a_g, .inr (1, [.ref a_gw, .ref a_gk])), (a_gw, .inl (T 0, 90, .inl v_gw)), (a_gk, .inl (T 0, 18, .inl q3))]) C hE hP hD hS hA (kX1_setCount l D T a_g a_gw a_gk q1 6 (-1) _ q3 e4) mX1_setCount qLX1_18 [0, 2] [1] 0 rfl rfl rfl rfl rfl rfl rfl rfl rfl ⟨rfl, rfl⟩ ⟨Nat.le_of_ble_eq_true rfl, Nat.le_of_ble_eq_true rfl⟩ rfl hl.1 rfl (Nat.le_of_ble_eq_true rfl) dX1_endChukka_11 ⟨Nat.le_of_ble_eq_true rfl, Nat.le_of_ble_eq_true rfl⟩ ?_; clear hP hD hS; intro H locs hP hD hS
  refine lv_aload_n hx hb dX1_endChukka_14 rfl (lv_at hl 0 rfl) ?_
  refine lv_bipush (v := 16) hx hb dX1_endChukka_15 (by decide) ?_
  refine lv_iconst (v := 0) hx hb dX1_endChukka_17 (by decide) ?_
  replace h := bnd h; obtain ⟨q5, e6, h⟩ := h
  refine wrVv (ws1 := [(a_g, .inr (1, [.ref a_gw, .ref a_gk])), (a_gw, .inl (T 0, 90, .inl v_gw)), (a_gk, .inl (T 0, 18, .inl q5))]) C hE hP hD hS hA (kX1_setCount l D T a_g a_gw a_gk q3 16 0 _ q5 e6) mX1_setCount qLX1_18 [0, 2] [1] 0 rfl rfl rfl rfl rfl rfl rfl rfl rfl ⟨rfl, rfl⟩ ⟨Nat.le_of_ble_eq_true rfl, Nat.le_of_ble_eq_true rfl⟩ rfl hl.1 rfl (Nat.le_of_ble_eq_true rfl) dX1_endChukka_18 ⟨Nat.le_of_ble_eq_true rfl, Nat.le_of_ble_eq_true rfl⟩ ?_; clear hP hD hS; intro H locs hP hD hS
  refine lv_aload_n hx hb dX1_endChukka_21 rfl (lv_at hl 0 rfl) ?_
  refine lv_bipush (v := 17) hx hb dX1_endChukka_22 (by decide) ?_
  refine lv_iconst (v := 0) hx hb dX1_endChukka_24 (by decide) ?_
  replace h := bnd h; obtain ⟨q7, e8, h⟩ := h
  refine wrVv (ws1 := [(a_g, .inr (1, [.ref a_gw, .ref a_gk])), (a_gw, .inl (T 0, 90, .inl v_gw)), (a_gk, .inl (T 0, 18, .inl q7))]) C hE hP hD hS hA (kX1_setCount l D T a_g a_gw a_gk q5 17 0 _ q7 e8) mX1_setCount qLX1_18 [0, 2] [1] 0 rfl rfl rfl rfl rfl rfl rfl rfl rfl ⟨rfl, rfl⟩ ⟨Nat.le_of_ble_eq_true rfl, Nat.le_of_ble_eq_true rfl⟩ rfl hl.1 rfl (Nat.le_of_ble_eq_true rfl) dX1_endChukka_25 ⟨Nat.le_of_ble_eq_true rfl, Nat.le_of_ble_eq_true rfl⟩ ?_; clear hP hD hS; intro H locs hP hD hS
  refine lv_iconst (v := 0) hx hb dX1_endChukka_28 (by decide) ?_
  refine lv_istore_n (lv' := [(1, .int 0), (0, .ref a_g)]) hx hb dX1_endChukka_29 rfl hl (by decide) rfl (fun ls hl => ?_)
  exact lX1_endChukka_30 C hE hA hret 64 0 v_gw q7 ⟨hP, hD⟩ hS _ (lv_sub hl [1, 0] rfl) h

def fX1_endStroke (v_gw : Nat → Int32) (v_gk : Nat → Int32) : Option (Int32 × (Nat → Int32) × (Nat → Int32)) :=
  (fX1_addCount v_gk 1 1).bind fun q1 =>
  (fX1_count q1 1).bind fun q3 =>
  if (q3 - q3 / 12 * 12) = 0 then
    (fX1_endChukka v_gw q1).bind fun q6 =>
    some (q3, q6.1, q6.2)
  else
    some (q3, v_gw, q1)
set_option maxHeartbeats 4000000 in
set_option maxRecDepth 100000 in
theorem kX1_endStroke (l : Launch) (D : va_G) (T : Nat → ClassId) (a_g a_gw a_gk : Nat) (v_gw : Nat → Int32) (v_gk : Nat → Int32) (sz : Nat) (r : Int32 × (Nat → Int32) × (Nat → Int32)) (h : fX1_endStroke v_gw v_gk = some r) : WrI l yX1_endStroke cX1_endStroke 2 .int ({ frames := 2, cells := 0, slots := 0, locals := 45 } : Room) D T sz [(a_g, .inr (1, [.ref a_gw, .ref a_gk])), (a_gw, .inl (T 0, 90, .inl v_gw)), (a_gk, .inl (T 0, 18, .inl v_gk))] [(a_g, .inr (1, [.ref a_gw, .ref a_gk])), (a_gw, .inl (T 0, 90, .inl r.2.1)), (a_gk, .inl (T 0, 18, .inl r.2.2))] [.ref a_g] r.1 := by
  unfold fX1_endStroke at h
  refine wrMet (by decide +kernel) rfl (fun p e s m args below meth c Q A C hE hA hP hD hS hret ls hl => ?_)
  have hx := C.1
  have hb := C.2.1
  have hl : lv_has ls 2 [(0, .ref a_g)] := hl
  refine lv_aload_n hx hb dX1_endStroke_0 rfl (lv_at hl 0 rfl) ?_
  refine lv_iconst (v := 1) hx hb dX1_endStroke_1 (by decide) ?_
  refine lv_iconst (v := 1) hx hb dX1_endStroke_2 (by decide) ?_
  replace h := bnd h; obtain ⟨q1, e2, h⟩ := h
  refine wrVv (ws1 := [(a_g, .inr (1, [.ref a_gw, .ref a_gk])), (a_gw, .inl (T 0, 90, .inl v_gw)), (a_gk, .inl (T 0, 18, .inl q1))]) C hE hP hD hS hA (kX1_addCount l D T a_g a_gw a_gk v_gk 1 1 _ q1 e2) mX1_addCount qLX1_65 [0, 2] [1] 0 rfl rfl rfl rfl rfl rfl rfl rfl rfl ⟨rfl, rfl⟩ ⟨Nat.le_of_ble_eq_true rfl, Nat.le_of_ble_eq_true rfl⟩ rfl hl.1 rfl (Nat.le_of_ble_eq_true rfl) dX1_endStroke_3 ⟨Nat.le_of_ble_eq_true rfl, Nat.le_of_ble_eq_true rfl⟩ ?_; clear hP hD hS; intro H locs hP hD hS
  refine lv_aload_n hx hb dX1_endStroke_6 rfl (lv_at hl 0 rfl) ?_
  refine lv_iconst (v := 1) hx hb dX1_endStroke_7 (by decide) ?_
  replace h := bnd h; obtain ⟨q3, e4, h⟩ := h
  refine rdV C hE hP (kX1_count l D T a_g a_gw a_gk q1 1 q3 e4) mX1_count qLX1_28 [0, 2] 0 rfl rfl rfl rfl ⟨rfl, rfl⟩ ⟨Nat.le_of_ble_eq_true rfl, Nat.le_of_ble_eq_true rfl⟩ rfl hl.1 rfl (Nat.le_of_ble_eq_true rfl) dX1_endStroke_8 ⟨Nat.le_of_ble_eq_true rfl, Nat.le_of_ble_eq_true rfl⟩ ?_
  refine lv_istore_n (lv' := [(1, .int q3), (0, .ref a_g)]) hx hb dX1_endStroke_11 rfl hl (by decide) rfl (fun ls hl => ?_)
  refine lv_iload_n hx hb dX1_endStroke_12 rfl (lv_at hl 0 rfl) ?_
  refine lv_bipush (v := 12) hx hb dX1_endStroke_13 (by decide) ?_
  refine lv_irem hx hb dX1_endStroke_15 (by decide) ?_
  refine lv_if_ne (tgt := 23) hx hb dX1_endStroke_16 (by decide) (fun c5 => ?_) (fun c5 => ?_)
  · replace h := ite_f c5 h
    refine lv_iload_n hx hb dX1_endStroke_23 rfl (lv_at hl 0 rfl) ?_
    replace h := Option.some.inj h
    exact hret _ _ _ _ _ _ dX1_endStroke_24 rfl (by rw [← h] <;> rfl) (by rw [← h]; exact hP) hS
  · replace h := ite_t c5 h
    refine lv_aload_n hx hb dX1_endStroke_19 rfl (lv_at hl 1 rfl) ?_
    replace h := bnd h; obtain ⟨q6, e7, h⟩ := h
    refine wrVv (ws1 := [(a_g, .inr (1, [.ref a_gw, .ref a_gk])), (a_gw, .inl (T 0, 90, .inl q6.1)), (a_gk, .inl (T 0, 18, .inl q6.2))]) C hE hP hD hS hA (kX1_endChukka l D T a_g a_gw a_gk v_gw q1 _ q6 e7) mX1_endChukka qLX1_82 [0, 1, 2] [] 0 rfl rfl rfl rfl rfl rfl rfl rfl rfl ⟨rfl, rfl⟩ ⟨Nat.le_of_ble_eq_true rfl, Nat.le_of_ble_eq_true rfl⟩ rfl hl.1 rfl (Nat.le_of_ble_eq_true rfl) dX1_endStroke_20 ⟨Nat.le_of_ble_eq_true rfl, Nat.le_of_ble_eq_true rfl⟩ ?_; clear hP hD hS; intro H locs hP hD hS
    refine lv_iload_n hx hb dX1_endStroke_23 rfl (lv_at hl 0 rfl) ?_
    replace h := Option.some.inj h
    exact hret _ _ _ _ _ _ dX1_endStroke_24 rfl (by rw [← h] <;> rfl) (by rw [← h]; exact hP) hS

def fX1_substitute (v_gw : Nat → Int32) (v_gk : Nat → Int32) (p0 : Int32) (p1 : Int32) : Option (Int32 × (Nat → Int32) × (Nat → Int32)) :=
  (fX1_of v_gw p0 0).bind fun q1 =>
  (fX1_of v_gw p0 4).bind fun q3 =>
  (fX1_set v_gw p1 4 q3).bind fun q5 =>
  (fX1_set q5 p0 4 (-1)).bind fun q7 =>
  (fX1_set q7 p0 5 0).bind fun q9 =>
  (fX1_addCount v_gk 9 1).bind fun q11 =>
  (fX1_addCount q11 (14 + q1) 1).bind fun q13 =>
  (fX1_addCount q13 (16 + q1) 1).bind fun q15 =>
  (fX1_count q15 (16 + q1)).bind fun q17 =>
  (fX1_endStroke q9 q15).bind fun q19 =>
  some ((2 - q17), q19.2.1, q19.2.2)
set_option maxHeartbeats 4000000 in
set_option maxRecDepth 100000 in
theorem kX1_substitute (l : Launch) (D : va_G) (T : Nat → ClassId) (a_g a_gw a_gk : Nat) (v_gw : Nat → Int32) (v_gk : Nat → Int32) (p0 : Int32) (p1 : Int32) (sz : Nat) (r : Int32 × (Nat → Int32) × (Nat → Int32)) (h : fX1_substitute v_gw v_gk p0 p1 = some r) : WrI l yX1_substitute cX1_substitute 5 .int ({ frames := 3, cells := 0, slots := 0, locals := 66 } : Room) D T sz [(a_g, .inr (1, [.ref a_gw, .ref a_gk])), (a_gw, .inl (T 0, 90, .inl v_gw)), (a_gk, .inl (T 0, 18, .inl v_gk))] [(a_g, .inr (1, [.ref a_gw, .ref a_gk])), (a_gw, .inl (T 0, 90, .inl r.2.1)), (a_gk, .inl (T 0, 18, .inl r.2.2))] [.ref a_g, .int p0, .int p1] r.1 := by
  unfold fX1_substitute at h
  refine wrMet (by decide +kernel) rfl (fun p e s m args below meth c Q A C hE hA hP hD hS hret ls hl => ?_)
  have hx := C.1
  have hb := C.2.1
  have hl : lv_has ls 5 [(0, .ref a_g), (1, .int p0), (2, .int p1)] := hl
  refine lv_aload_n hx hb dX1_substitute_0 rfl (lv_at hl 0 rfl) ?_
  refine lv_iload_n hx hb dX1_substitute_1 rfl (lv_at hl 1 rfl) ?_
  refine lv_iconst (v := 0) hx hb dX1_substitute_2 (by decide) ?_
  replace h := bnd h; obtain ⟨q1, e2, h⟩ := h
  refine rdV C hE hP (kX1_of l D T a_g a_gw a_gk v_gw p0 0 q1 e2) mX1_of qLX1_32 [0, 1] 0 rfl rfl rfl rfl ⟨rfl, rfl⟩ ⟨Nat.le_of_ble_eq_true rfl, Nat.le_of_ble_eq_true rfl⟩ rfl hl.1 rfl (Nat.le_of_ble_eq_true rfl) dX1_substitute_3 ⟨Nat.le_of_ble_eq_true rfl, Nat.le_of_ble_eq_true rfl⟩ ?_
  refine lv_istore_n (lv' := [(3, .int q1), (0, .ref a_g), (1, .int p0), (2, .int p1)]) hx hb dX1_substitute_6 rfl hl (by decide) rfl (fun ls hl => ?_)
  refine lv_aload_n hx hb dX1_substitute_7 rfl (lv_at hl 1 rfl) ?_
  refine lv_iload_n hx hb dX1_substitute_8 rfl (lv_at hl 3 rfl) ?_
  refine lv_iconst (v := 4) hx hb dX1_substitute_9 (by decide) ?_
  refine lv_aload_n hx hb dX1_substitute_10 rfl (lv_at hl 1 rfl) ?_
  refine lv_iload_n hx hb dX1_substitute_11 rfl (lv_at hl 2 rfl) ?_
  refine lv_iconst (v := 4) hx hb dX1_substitute_12 (by decide) ?_
  replace h := bnd h; obtain ⟨q3, e4, h⟩ := h
  refine rdV C hE hP (kX1_of l D T a_g a_gw a_gk v_gw p0 4 q3 e4) mX1_of qLX1_32 [0, 1] 0 rfl rfl rfl rfl ⟨rfl, rfl⟩ ⟨Nat.le_of_ble_eq_true rfl, Nat.le_of_ble_eq_true rfl⟩ rfl hl.1 rfl (Nat.le_of_ble_eq_true rfl) dX1_substitute_13 ⟨Nat.le_of_ble_eq_true rfl, Nat.le_of_ble_eq_true rfl⟩ ?_
  replace h := bnd h; obtain ⟨q5, e6, h⟩ := h
  refine wrVv (ws1 := [(a_g, .inr (1, [.ref a_gw, .ref a_gk])), (a_gw, .inl (T 0, 90, .inl q5)), (a_gk, .inl (T 0, 18, .inl v_gk))]) C hE hP hD hS hA (kX1_set l D T a_g a_gw a_gk v_gw p1 4 q3 _ q5 e6) mX1_set qLX1_36 [0, 1] [2] 0 rfl rfl rfl rfl rfl rfl rfl rfl rfl ⟨rfl, rfl⟩ ⟨Nat.le_of_ble_eq_true rfl, Nat.le_of_ble_eq_true rfl⟩ rfl hl.1 rfl (Nat.le_of_ble_eq_true rfl) dX1_substitute_16 ⟨Nat.le_of_ble_eq_true rfl, Nat.le_of_ble_eq_true rfl⟩ ?_; clear hP hD hS; intro H locs hP hD hS
  refine lv_aload_n hx hb dX1_substitute_19 rfl (lv_at hl 1 rfl) ?_
  refine lv_iload_n hx hb dX1_substitute_20 rfl (lv_at hl 2 rfl) ?_
  refine lv_iconst (v := 4) hx hb dX1_substitute_21 (by decide) ?_
  refine lv_iconst (v := (-1)) hx hb dX1_substitute_22 (by decide) ?_
  replace h := bnd h; obtain ⟨q7, e8, h⟩ := h
  refine wrVv (ws1 := [(a_g, .inr (1, [.ref a_gw, .ref a_gk])), (a_gw, .inl (T 0, 90, .inl q7)), (a_gk, .inl (T 0, 18, .inl v_gk))]) C hE hP hD hS hA (kX1_set l D T a_g a_gw a_gk q5 p0 4 (-1) _ q7 e8) mX1_set qLX1_36 [0, 1] [2] 0 rfl rfl rfl rfl rfl rfl rfl rfl rfl ⟨rfl, rfl⟩ ⟨Nat.le_of_ble_eq_true rfl, Nat.le_of_ble_eq_true rfl⟩ rfl hl.1 rfl (Nat.le_of_ble_eq_true rfl) dX1_substitute_23 ⟨Nat.le_of_ble_eq_true rfl, Nat.le_of_ble_eq_true rfl⟩ ?_; clear hP hD hS; intro H locs hP hD hS
  refine lv_aload_n hx hb dX1_substitute_26 rfl (lv_at hl 1 rfl) ?_
  refine lv_iload_n hx hb dX1_substitute_27 rfl (lv_at hl 2 rfl) ?_
  refine lv_iconst (v := 5) hx hb dX1_substitute_28 (by decide) ?_
  refine lv_iconst (v := 0) hx hb dX1_substitute_29 (by decide) ?_
  replace h := bnd h; obtain ⟨q9, e10, h⟩ := h
  refine wrVv (ws1 := [(a_g, .inr (1, [.ref a_gw, .ref a_gk])), (a_gw, .inl (T 0, 90, .inl q9)), (a_gk, .inl (T 0, 18, .inl v_gk))]) C hE hP hD hS hA (kX1_set l D T a_g a_gw a_gk q7 p0 5 0 _ q9 e10) mX1_set qLX1_36 [0, 1] [2] 0 rfl rfl rfl rfl rfl rfl rfl rfl rfl ⟨rfl, rfl⟩ ⟨Nat.le_of_ble_eq_true rfl, Nat.le_of_ble_eq_true rfl⟩ rfl hl.1 rfl (Nat.le_of_ble_eq_true rfl) dX1_substitute_30 ⟨Nat.le_of_ble_eq_true rfl, Nat.le_of_ble_eq_true rfl⟩ ?_; clear hP hD hS; intro H locs hP hD hS
  refine lv_aload_n hx hb dX1_substitute_33 rfl (lv_at hl 1 rfl) ?_
  refine lv_bipush (v := 9) hx hb dX1_substitute_34 (by decide) ?_
  refine lv_iconst (v := 1) hx hb dX1_substitute_36 (by decide) ?_
  replace h := bnd h; obtain ⟨q11, e12, h⟩ := h
  refine wrVv (ws1 := [(a_g, .inr (1, [.ref a_gw, .ref a_gk])), (a_gw, .inl (T 0, 90, .inl q9)), (a_gk, .inl (T 0, 18, .inl q11))]) C hE hP hD hS hA (kX1_addCount l D T a_g a_gw a_gk v_gk 9 1 _ q11 e12) mX1_addCount qLX1_65 [0, 2] [1] 0 rfl rfl rfl rfl rfl rfl rfl rfl rfl ⟨rfl, rfl⟩ ⟨Nat.le_of_ble_eq_true rfl, Nat.le_of_ble_eq_true rfl⟩ rfl hl.1 rfl (Nat.le_of_ble_eq_true rfl) dX1_substitute_37 ⟨Nat.le_of_ble_eq_true rfl, Nat.le_of_ble_eq_true rfl⟩ ?_; clear hP hD hS; intro H locs hP hD hS
  refine lv_aload_n hx hb dX1_substitute_40 rfl (lv_at hl 1 rfl) ?_
  refine lv_bipush (v := 14) hx hb dX1_substitute_41 (by decide) ?_
  refine lv_iload_n hx hb dX1_substitute_43 rfl (lv_at hl 0 rfl) ?_
  refine lv_iadd hx hb dX1_substitute_44 ?_
  refine lv_iconst (v := 1) hx hb dX1_substitute_45 (by decide) ?_
  replace h := bnd h; obtain ⟨q13, e14, h⟩ := h
  refine wrVv (ws1 := [(a_g, .inr (1, [.ref a_gw, .ref a_gk])), (a_gw, .inl (T 0, 90, .inl q9)), (a_gk, .inl (T 0, 18, .inl q13))]) C hE hP hD hS hA (kX1_addCount l D T a_g a_gw a_gk q11 (14 + q1) 1 _ q13 e14) mX1_addCount qLX1_65 [0, 2] [1] 0 rfl rfl rfl rfl rfl rfl rfl rfl rfl ⟨rfl, rfl⟩ ⟨Nat.le_of_ble_eq_true rfl, Nat.le_of_ble_eq_true rfl⟩ rfl hl.1 rfl (Nat.le_of_ble_eq_true rfl) dX1_substitute_46 ⟨Nat.le_of_ble_eq_true rfl, Nat.le_of_ble_eq_true rfl⟩ ?_; clear hP hD hS; intro H locs hP hD hS
  refine lv_aload_n hx hb dX1_substitute_49 rfl (lv_at hl 1 rfl) ?_
  refine lv_bipush (v := 16) hx hb dX1_substitute_50 (by decide) ?_
  refine lv_iload_n hx hb dX1_substitute_52 rfl (lv_at hl 0 rfl) ?_
  refine lv_iadd hx hb dX1_substitute_53 ?_
  refine lv_iconst (v := 1) hx hb dX1_substitute_54 (by decide) ?_
  replace h := bnd h; obtain ⟨q15, e16, h⟩ := h
  refine wrVv (ws1 := [(a_g, .inr (1, [.ref a_gw, .ref a_gk])), (a_gw, .inl (T 0, 90, .inl q9)), (a_gk, .inl (T 0, 18, .inl q15))]) C hE hP hD hS hA (kX1_addCount l D T a_g a_gw a_gk q13 (16 + q1) 1 _ q15 e16) mX1_addCount qLX1_65 [0, 2] [1] 0 rfl rfl rfl rfl rfl rfl rfl rfl rfl ⟨rfl, rfl⟩ ⟨Nat.le_of_ble_eq_true rfl, Nat.le_of_ble_eq_true rfl⟩ rfl hl.1 rfl (Nat.le_of_ble_eq_true rfl) dX1_substitute_55 ⟨Nat.le_of_ble_eq_true rfl, Nat.le_of_ble_eq_true rfl⟩ ?_; clear hP hD hS; intro H locs hP hD hS
  refine lv_iconst (v := 2) hx hb dX1_substitute_58 (by decide) ?_
  refine lv_aload_n hx hb dX1_substitute_59 rfl (lv_at hl 1 rfl) ?_
  refine lv_bipush (v := 16) hx hb dX1_substitute_60 (by decide) ?_
  refine lv_iload_n hx hb dX1_substitute_62 rfl (lv_at hl 0 rfl) ?_
  refine lv_iadd hx hb dX1_substitute_63 ?_
  replace h := bnd h; obtain ⟨q17, e18, h⟩ := h
  refine rdV C hE hP (kX1_count l D T a_g a_gw a_gk q15 (16 + q1) q17 e18) mX1_count qLX1_28 [0, 2] 0 rfl rfl rfl rfl ⟨rfl, rfl⟩ ⟨Nat.le_of_ble_eq_true rfl, Nat.le_of_ble_eq_true rfl⟩ rfl hl.1 rfl (Nat.le_of_ble_eq_true rfl) dX1_substitute_64 ⟨Nat.le_of_ble_eq_true rfl, Nat.le_of_ble_eq_true rfl⟩ ?_
  refine lv_isub hx hb dX1_substitute_67 ?_
  refine lv_istore (lv' := [(4, .int (2 - q17)), (3, .int q1), (0, .ref a_g), (1, .int p0), (2, .int p1)]) hx hb dX1_substitute_68 hl (by decide) rfl (fun ls hl => ?_)
  refine lv_aload_n hx hb dX1_substitute_70 rfl (lv_at hl 2 rfl) ?_
  replace h := bnd h; obtain ⟨q19, e20, h⟩ := h
  refine wrVi (ws1 := [(a_g, .inr (1, [.ref a_gw, .ref a_gk])), (a_gw, .inl (T 0, 90, .inl q19.2.1)), (a_gk, .inl (T 0, 18, .inl q19.2.2))]) C hE hP hD hS hA (kX1_endStroke l D T a_g a_gw a_gk q9 q15 _ q19 e20) mX1_endStroke qLX1_68 [0, 1, 2] [] 0 rfl rfl rfl rfl rfl rfl rfl rfl rfl ⟨rfl, rfl⟩ ⟨Nat.le_of_ble_eq_true rfl, Nat.le_of_ble_eq_true rfl⟩ rfl hl.1 rfl (Nat.le_of_ble_eq_true rfl) dX1_substitute_71 ⟨Nat.le_of_ble_eq_true rfl, Nat.le_of_ble_eq_true rfl⟩ ?_; clear hP hD hS; intro H locs hP hD hS
  refine lv_pop hx hb dX1_substitute_74 rfl ?_
  refine lv_iload hx hb dX1_substitute_75 (lv_at hl 0 rfl) ?_
  replace h := Option.some.inj h
  exact hret _ _ _ _ _ _ dX1_substitute_77 rfl (by rw [← h] <;> rfl) (by rw [← h]; exact hP) hS

def fX7_isCell (p0 : Int32) : Int32 :=
  if p0 < 0 then
    0
  else
    if 45 ≤ p0 then
      0
    else
      1
set_option maxHeartbeats 4000000 in
set_option maxRecDepth 100000 in
theorem kX7_isCell (l : Launch) (D : va_G) (T : Nat → ClassId) (p0 : Int32) : RdI l yX7_isCell cX7_isCell 1 .boolean ({ frames := 0, cells := 0, slots := 0, locals := 0 } : Room) D T [] [.int p0] (fX7_isCell p0) := by
  obtain ⟨r, h⟩ : ∃ r, fX7_isCell p0 = r := ⟨_, rfl⟩
  rw [h]
  unfold fX7_isCell at h
  refine rdMet (by decide +kernel) rfl (fun p e s m args below meth c Q C hE hP hret ls hl => ?_)
  have hx := C.1
  have hb := C.2.1
  have hl : lv_has ls 1 [(0, .int p0)] := hl
  refine lv_iload_n hx hb dX7_isCell_0 rfl (lv_at hl 0 rfl) ?_
  refine lv_if_lt (tgt := 14) hx hb dX7_isCell_1 (by decide) (fun c1 => ?_) (fun c1 => ?_)
  · replace h := ite_t c1 h
    refine lv_iconst (v := 0) hx hb dX7_isCell_14 (by decide) ?_
    exact hret _ _ _ _ dX7_isCell_15 rfl h
  · replace h := ite_f c1 h
    refine lv_iload_n hx hb dX7_isCell_4 rfl (lv_at hl 0 rfl) ?_
    refine lv_bipush (v := 45) hx hb dX7_isCell_5 (by decide) ?_
    refine lv_icmp_ge (tgt := 14) hx hb dX7_isCell_7 (by decide) (fun c2 => ?_) (fun c2 => ?_)
    · replace h := ite_t c2 h
      refine lv_iconst (v := 0) hx hb dX7_isCell_14 (by decide) ?_
      exact hret _ _ _ _ dX7_isCell_15 rfl h
    · replace h := ite_f c2 h
      refine lv_iconst (v := 1) hx hb dX7_isCell_10 (by decide) ?_
      refine lv_goto (tgt := 15) hx hb dX7_isCell_11 (by decide) ?_
      exact hret _ _ _ _ dX7_isCell_15 rfl h

def fX7_isEdge (p0 : Int32) : Int32 :=
  if (p0 / 9) = 0 then
    1
  else
    if (p0 / 9) = 4 then
      1
    else
      0
set_option maxHeartbeats 4000000 in
set_option maxRecDepth 100000 in
theorem kX7_isEdge (l : Launch) (D : va_G) (T : Nat → ClassId) (p0 : Int32) : RdI l yX7_isEdge cX7_isEdge 2 .boolean ({ frames := 0, cells := 0, slots := 0, locals := 0 } : Room) D T [] [.int p0] (fX7_isEdge p0) := by
  obtain ⟨r, h⟩ : ∃ r, fX7_isEdge p0 = r := ⟨_, rfl⟩
  rw [h]
  unfold fX7_isEdge at h
  refine rdMet (by decide +kernel) rfl (fun p e s m args below meth c Q C hE hP hret ls hl => ?_)
  have hx := C.1
  have hb := C.2.1
  have hl : lv_has ls 2 [(0, .int p0)] := hl
  refine lv_iload_n hx hb dX7_isEdge_0 rfl (lv_at hl 0 rfl) ?_
  refine lv_bipush (v := 9) hx hb dX7_isEdge_1 (by decide) ?_
  refine lv_idiv hx hb dX7_isEdge_3 (by decide) ?_
  refine lv_istore_n (lv' := [(1, .int (p0 / 9)), (0, .int p0)]) hx hb dX7_isEdge_4 rfl hl (by decide) rfl (fun ls hl => ?_)
  refine lv_iload_n hx hb dX7_isEdge_5 rfl (lv_at hl 0 rfl) ?_
  refine lv_if_eq (tgt := 14) hx hb dX7_isEdge_6 (by decide) (fun c1 => ?_) (fun c1 => ?_)
  · replace h := ite_t c1 h
    refine lv_iconst (v := 1) hx hb dX7_isEdge_14 (by decide) ?_
    refine lv_goto (tgt := 19) hx hb dX7_isEdge_15 (by decide) ?_
    exact hret _ _ _ _ dX7_isEdge_19 rfl h
  · replace h := ite_f c1 h
    refine lv_iload_n hx hb dX7_isEdge_9 rfl (lv_at hl 0 rfl) ?_
    refine lv_iconst (v := 4) hx hb dX7_isEdge_10 (by decide) ?_
    refine lv_icmp_ne (tgt := 18) hx hb dX7_isEdge_11 (by decide) (fun c2 => ?_) (fun c2 => ?_)
    · replace h := ite_f c2 h
      refine lv_iconst (v := 0) hx hb dX7_isEdge_18 (by decide) ?_
      exact hret _ _ _ _ dX7_isEdge_19 rfl h
    · replace h := ite_t c2 h
      refine lv_iconst (v := 1) hx hb dX7_isEdge_14 (by decide) ?_
      refine lv_goto (tgt := 19) hx hb dX7_isEdge_15 (by decide) ?_
      exact hret _ _ _ _ dX7_isEdge_19 rfl h

def fX7_tideByDividing (p0 : Int32) : Int32 :=
  if 8 < (p0 - p0 / 16 * 16) then
    ((p0 - p0 / 16 * 16) - 8)
  else
    (8 - (p0 - p0 / 16 * 16))
set_option maxHeartbeats 4000000 in
set_option maxRecDepth 100000 in
theorem kX7_tideByDividing (l : Launch) (D : va_G) (T : Nat → ClassId) (p0 : Int32) : RdI l yX7_tideByDividing cX7_tideByDividing 2 .int ({ frames := 0, cells := 0, slots := 0, locals := 0 } : Room) D T [] [.int p0] (fX7_tideByDividing p0) := by
  obtain ⟨r, h⟩ : ∃ r, fX7_tideByDividing p0 = r := ⟨_, rfl⟩
  rw [h]
  unfold fX7_tideByDividing at h
  refine rdMet (by decide +kernel) rfl (fun p e s m args below meth c Q C hE hP hret ls hl => ?_)
  have hx := C.1
  have hb := C.2.1
  have hl : lv_has ls 2 [(0, .int p0)] := hl
  refine lv_iload_n hx hb dX7_tideByDividing_0 rfl (lv_at hl 0 rfl) ?_
  refine lv_bipush (v := 16) hx hb dX7_tideByDividing_1 (by decide) ?_
  refine lv_irem hx hb dX7_tideByDividing_3 (by decide) ?_
  refine lv_istore_n (lv' := [(1, .int (p0 - p0 / 16 * 16)), (0, .int p0)]) hx hb dX7_tideByDividing_4 rfl hl (by decide) rfl (fun ls hl => ?_)
  refine lv_iload_n hx hb dX7_tideByDividing_5 rfl (lv_at hl 0 rfl) ?_
  refine lv_bipush (v := 8) hx hb dX7_tideByDividing_6 (by decide) ?_
  refine lv_icmp_gt (tgt := 18) hx hb dX7_tideByDividing_8 (by decide) (fun c1 => ?_) (fun c1 => ?_)
  · replace h := ite_t c1 h
    refine lv_iload_n hx hb dX7_tideByDividing_18 rfl (lv_at hl 0 rfl) ?_
    refine lv_bipush (v := 8) hx hb dX7_tideByDividing_19 (by decide) ?_
    refine lv_isub hx hb dX7_tideByDividing_21 ?_
    exact hret _ _ _ _ dX7_tideByDividing_22 rfl h
  · replace h := ite_f c1 h
    refine lv_bipush (v := 8) hx hb dX7_tideByDividing_11 (by decide) ?_
    refine lv_iload_n hx hb dX7_tideByDividing_13 rfl (lv_at hl 0 rfl) ?_
    refine lv_isub hx hb dX7_tideByDividing_14 ?_
    refine lv_goto (tgt := 22) hx hb dX7_tideByDividing_15 (by decide) ?_
    exact hret _ _ _ _ dX7_tideByDividing_22 rfl h

def fX1_isDryNow (v_gk : Nat → Int32) (p0 : Int32) : Option Int32 :=
  if (fX7_isEdge p0) = 0 then
    some 0
  else
    (fX1_count v_gk 1).bind fun q2 =>
    if 2 < (fX7_tideByDividing q2) then
      some 0
    else
      some 1
set_option maxHeartbeats 4000000 in
set_option maxRecDepth 100000 in
theorem kX1_isDryNow (l : Launch) (D : va_G) (T : Nat → ClassId) (a_g a_gw a_gk : Nat) (v_gk : Nat → Int32) (p0 : Int32) (r : Int32) (h : fX1_isDryNow v_gk p0 = some r) : RdI l yX1_isDryNow cX1_isDryNow 2 .boolean ({ frames := 1, cells := 0, slots := 0, locals := 21 } : Room) D T [(a_g, .inr (1, [.ref a_gw, .ref a_gk])), (a_gk, .inl (T 0, 18, .inl v_gk))] [.ref a_g, .int p0] r := by
  unfold fX1_isDryNow at h
  refine rdMet (by decide +kernel) rfl (fun p e s m args below meth c Q C hE hP hret ls hl => ?_)
  have hx := C.1
  have hb := C.2.1
  have hl : lv_has ls 2 [(0, .ref a_g), (1, .int p0)] := hl
  refine lv_iload_n hx hb dX1_isDryNow_0 rfl (lv_at hl 1 rfl) ?_
  refine rdSN C hE hP (kX7_isEdge l D T p0) mX7_isEdge (by decide +kernel) [] rfl ⟨rfl, rfl⟩ ⟨Nat.le_of_ble_eq_true rfl, Nat.le_of_ble_eq_true rfl⟩ rfl hl.1 rfl (Nat.le_of_ble_eq_true rfl) dX1_isDryNow_1 ⟨Nat.le_of_ble_eq_true rfl, Nat.le_of_ble_eq_true rfl⟩ ?_
  refine lv_if_eq (tgt := 23) hx hb dX1_isDryNow_4 (by decide) (fun c1 => ?_) (fun c1 => ?_)
  · replace h := ite_t c1 h
    refine lv_iconst (v := 0) hx hb dX1_isDryNow_23 (by decide) ?_
    exact hret _ _ _ _ dX1_isDryNow_24 rfl (Option.some.inj h)
  · replace h := ite_f c1 h
    refine lv_aload_n hx hb dX1_isDryNow_7 rfl (lv_at hl 0 rfl) ?_
    refine lv_iconst (v := 1) hx hb dX1_isDryNow_8 (by decide) ?_
    replace h := bnd h; obtain ⟨q2, e3, h⟩ := h
    refine rdV C hE hP (kX1_count l D T a_g a_gw a_gk v_gk 1 q2 e3) mX1_count qLX1_28 [0, 1] 0 rfl rfl rfl rfl ⟨rfl, rfl⟩ ⟨Nat.le_of_ble_eq_true rfl, Nat.le_of_ble_eq_true rfl⟩ rfl hl.1 rfl (Nat.le_of_ble_eq_true rfl) dX1_isDryNow_9 ⟨Nat.le_of_ble_eq_true rfl, Nat.le_of_ble_eq_true rfl⟩ ?_
    refine rdSN C hE hP (kX7_tideByDividing l D T q2) mX7_tideByDividing (by decide +kernel) [] rfl ⟨rfl, rfl⟩ ⟨Nat.le_of_ble_eq_true rfl, Nat.le_of_ble_eq_true rfl⟩ rfl hl.1 rfl (Nat.le_of_ble_eq_true rfl) dX1_isDryNow_12 ⟨Nat.le_of_ble_eq_true rfl, Nat.le_of_ble_eq_true rfl⟩ ?_
    refine lv_iconst (v := 2) hx hb dX1_isDryNow_15 (by decide) ?_
    refine lv_icmp_gt (tgt := 23) hx hb dX1_isDryNow_16 (by decide) (fun c4 => ?_) (fun c4 => ?_)
    · replace h := ite_t c4 h
      refine lv_iconst (v := 0) hx hb dX1_isDryNow_23 (by decide) ?_
      exact hret _ _ _ _ dX1_isDryNow_24 rfl (Option.some.inj h)
    · replace h := ite_f c4 h
      refine lv_iconst (v := 1) hx hb dX1_isDryNow_19 (by decide) ?_
      refine lv_goto (tgt := 24) hx hb dX1_isDryNow_20 (by decide) ?_
      exact hret _ _ _ _ dX1_isDryNow_24 rfl (Option.some.inj h)

def fX1_isStranded (v_gw : Nat → Int32) (v_gk : Nat → Int32) (p0 : Int32) : Option Int32 :=
  (fX1_of v_gw p0 4).bind fun q1 =>
  if q1 = (-1) then
    some 0
  else
    (fX1_isDryNow v_gk q1).bind fun q4 =>
    if q4 = 0 then
      some 0
    else
      some 1
set_option maxHeartbeats 4000000 in
set_option maxRecDepth 100000 in
theorem kX1_isStranded (l : Launch) (D : va_G) (T : Nat → ClassId) (a_g a_gw a_gk : Nat) (v_gw : Nat → Int32) (v_gk : Nat → Int32) (p0 : Int32) (r : Int32) (h : fX1_isStranded v_gw v_gk p0 = some r) : RdI l yX1_isStranded cX1_isStranded 3 .boolean ({ frames := 2, cells := 0, slots := 0, locals := 42 } : Room) D T [(a_g, .inr (1, [.ref a_gw, .ref a_gk])), (a_gw, .inl (T 0, 90, .inl v_gw)), (a_gk, .inl (T 0, 18, .inl v_gk))] [.ref a_g, .int p0] r := by
  unfold fX1_isStranded at h
  refine rdMet (by decide +kernel) rfl (fun p e s m args below meth c Q C hE hP hret ls hl => ?_)
  have hx := C.1
  have hb := C.2.1
  have hl : lv_has ls 3 [(0, .ref a_g), (1, .int p0)] := hl
  refine lv_aload_n hx hb dX1_isStranded_0 rfl (lv_at hl 0 rfl) ?_
  refine lv_iload_n hx hb dX1_isStranded_1 rfl (lv_at hl 1 rfl) ?_
  refine lv_iconst (v := 4) hx hb dX1_isStranded_2 (by decide) ?_
  replace h := bnd h; obtain ⟨q1, e2, h⟩ := h
  refine rdV C hE hP (kX1_of l D T a_g a_gw a_gk v_gw p0 4 q1 e2) mX1_of qLX1_32 [0, 1] 0 rfl rfl rfl rfl ⟨rfl, rfl⟩ ⟨Nat.le_of_ble_eq_true rfl, Nat.le_of_ble_eq_true rfl⟩ rfl hl.1 rfl (Nat.le_of_ble_eq_true rfl) dX1_isStranded_3 ⟨Nat.le_of_ble_eq_true rfl, Nat.le_of_ble_eq_true rfl⟩ ?_
  refine lv_istore_n (lv' := [(2, .int q1), (0, .ref a_g), (1, .int p0)]) hx hb dX1_isStranded_6 rfl hl (by decide) rfl (fun ls hl => ?_)
  refine lv_iload_n hx hb dX1_isStranded_7 rfl (lv_at hl 0 rfl) ?_
  refine lv_iconst (v := (-1)) hx hb dX1_isStranded_8 (by decide) ?_
  refine lv_icmp_eq (tgt := 24) hx hb dX1_isStranded_9 (by decide) (fun c3 => ?_) (fun c3 => ?_)
  · replace h := ite_t c3 h
    refine lv_iconst (v := 0) hx hb dX1_isStranded_24 (by decide) ?_
    exact hret _ _ _ _ dX1_isStranded_25 rfl (Option.some.inj h)
  · replace h := ite_f c3 h
    refine lv_aload_n hx hb dX1_isStranded_12 rfl (lv_at hl 1 rfl) ?_
    refine lv_iload_n hx hb dX1_isStranded_13 rfl (lv_at hl 0 rfl) ?_
    replace h := bnd h; obtain ⟨q4, e5, h⟩ := h
    refine rdV C hE hP (kX1_isDryNow l D T a_g a_gw a_gk v_gk q1 q4 e5) mX1_isDryNow qLX1_47 [0, 2] 0 rfl rfl rfl rfl ⟨rfl, rfl⟩ ⟨Nat.le_of_ble_eq_true rfl, Nat.le_of_ble_eq_true rfl⟩ rfl hl.1 rfl (Nat.le_of_ble_eq_true rfl) dX1_isStranded_14 ⟨Nat.le_of_ble_eq_true rfl, Nat.le_of_ble_eq_true rfl⟩ ?_
    refine lv_if_eq (tgt := 24) hx hb dX1_isStranded_17 (by decide) (fun c6 => ?_) (fun c6 => ?_)
    · replace h := ite_t c6 h
      refine lv_iconst (v := 0) hx hb dX1_isStranded_24 (by decide) ?_
      exact hret _ _ _ _ dX1_isStranded_25 rfl (Option.some.inj h)
    · replace h := ite_f c6 h
      refine lv_iconst (v := 1) hx hb dX1_isStranded_20 (by decide) ?_
      refine lv_goto (tgt := 25) hx hb dX1_isStranded_21 (by decide) ?_
      exact hret _ _ _ _ dX1_isStranded_25 rfl (Option.some.inj h)

def fX6_freeFault (u_det : Int32) (v_gw : Nat → Int32) (v_gk : Nat → Int32) (p0 : Int32) : Option (Int32 × Int32) :=
  (fX6_playFault u_det v_gw v_gk p0).bind fun q1 =>
  if q1.1 = 0 then
    (fX1_isStranded v_gw v_gk p0).bind fun q4 =>
    if q4 = 0 then
      some (0, q1.2)
    else
      (fX1_of v_gw p0 4).bind fun q7 =>
      (fX6_refuse q1.2 4 q7).bind fun q9 =>
      some (q9.1, q9.2)
  else
    some (q1.1, q1.2)
set_option maxHeartbeats 4000000 in
set_option maxRecDepth 100000 in
theorem kX6_freeFault (l : Launch) (D : va_G) (T : Nat → ClassId) (a_g a_gw a_gk a_u a_r : Nat) (u_det : Int32) (v_gw : Nat → Int32) (v_gk : Nat → Int32) (p0 : Int32) (sz : Nat) (r : Int32 × Int32) (h : fX6_freeFault u_det v_gw v_gk p0 = some r) : WrI l yX6_freeFault cX6_freeFault 3 .int ({ frames := 3, cells := 0, slots := 0, locals := 65 } : Room) D T sz [(a_g, .inr (1, [.ref a_gw, .ref a_gk])), (a_u, .inr (6, [.ref a_g, .ref a_r, .int u_det])), (a_gw, .inl (T 0, 90, .inl v_gw)), (a_gk, .inl (T 0, 18, .inl v_gk))] [(a_g, .inr (1, [.ref a_gw, .ref a_gk])), (a_u, .inr (6, [.ref a_g, .ref a_r, .int r.2])), (a_gw, .inl (T 0, 90, .inl v_gw)), (a_gk, .inl (T 0, 18, .inl v_gk))] [.ref a_u, .int p0] r.1 := by
  unfold fX6_freeFault at h
  refine wrMet (by decide +kernel) rfl (fun p e s m args below meth c Q A C hE hA hP hD hS hret ls hl => ?_)
  have hx := C.1
  have hb := C.2.1
  have hl : lv_has ls 3 [(0, .ref a_u), (1, .int p0)] := hl
  refine lv_aload_n hx hb dX6_freeFault_0 rfl (lv_at hl 0 rfl) ?_
  refine lv_iload_n hx hb dX6_freeFault_1 rfl (lv_at hl 1 rfl) ?_
  replace h := bnd h; obtain ⟨q1, e2, h⟩ := h
  refine wrVi (ws1 := [(a_g, .inr (1, [.ref a_gw, .ref a_gk])), (a_u, .inr (6, [.ref a_g, .ref a_r, .int q1.2])), (a_gw, .inl (T 0, 90, .inl v_gw)), (a_gk, .inl (T 0, 18, .inl v_gk))]) C hE hP hD hS hA (kX6_playFault l D T a_g a_gw a_gk a_u a_r u_det v_gw v_gk p0 _ q1 e2) mX6_playFault qLX6_56 [0, 1, 2, 3] [] 1 rfl rfl rfl rfl rfl rfl rfl rfl rfl ⟨rfl, rfl⟩ ⟨Nat.le_of_ble_eq_true rfl, Nat.le_of_ble_eq_true rfl⟩ rfl hl.1 rfl (Nat.le_of_ble_eq_true rfl) dX6_freeFault_2 ⟨Nat.le_of_ble_eq_true rfl, Nat.le_of_ble_eq_true rfl⟩ ?_; clear hP hD hS; intro H locs hP hD hS
  refine lv_istore_n (lv' := [(2, .int q1.1), (0, .ref a_u), (1, .int p0)]) hx hb dX6_freeFault_5 rfl hl (by decide) rfl (fun ls hl => ?_)
  refine lv_iload_n hx hb dX6_freeFault_6 rfl (lv_at hl 0 rfl) ?_
  refine lv_if_eq (tgt := 12) hx hb dX6_freeFault_7 (by decide) (fun c3 => ?_) (fun c3 => ?_)
  · replace h := ite_t c3 h
    refine lv_aload_n hx hb dX6_freeFault_12 rfl (lv_at hl 1 rfl) ?_
    refine getF (q0 := 1) (k0 := 0) (v := .ref a_g) C hE hP inA6 rfl rfl (by decide) qFX6_15 rfl rfl dX6_freeFault_13 ?_
    refine lv_iload_n hx hb dX6_freeFault_16 rfl (lv_at hl 2 rfl) ?_
    replace h := bnd h; obtain ⟨q4, e5, h⟩ := h
    refine rdV C hE hP (kX1_isStranded l D T a_g a_gw a_gk v_gw v_gk p0 q4 e5) mX1_isStranded qLX6_59 [0, 2, 3] 0 rfl rfl rfl rfl ⟨rfl, rfl⟩ ⟨Nat.le_of_ble_eq_true rfl, Nat.le_of_ble_eq_true rfl⟩ rfl hl.1 rfl (Nat.le_of_ble_eq_true rfl) dX6_freeFault_17 ⟨Nat.le_of_ble_eq_true rfl, Nat.le_of_ble_eq_true rfl⟩ ?_
    refine lv_if_eq (tgt := 40) hx hb dX6_freeFault_20 (by decide) (fun c6 => ?_) (fun c6 => ?_)
    · replace h := ite_t c6 h
      refine lv_iconst (v := 0) hx hb dX6_freeFault_40 (by decide) ?_
      replace h := Option.some.inj h
      exact hret _ _ _ _ _ _ dX6_freeFault_41 rfl (by rw [← h] <;> rfl) (by rw [← h]; exact hP) hS
    · replace h := ite_f c6 h
      refine lv_aload_n hx hb dX6_freeFault_23 rfl (lv_at hl 1 rfl) ?_
      refine lv_iconst (v := 4) hx hb dX6_freeFault_24 (by decide) ?_
      refine lv_aload_n hx hb dX6_freeFault_25 rfl (lv_at hl 1 rfl) ?_
      refine getF (q0 := 1) (k0 := 0) (v := .ref a_g) C hE hP inA6 rfl rfl (by decide) qFX6_15 rfl rfl dX6_freeFault_26 ?_
      refine lv_iload_n hx hb dX6_freeFault_29 rfl (lv_at hl 2 rfl) ?_
      refine lv_iconst (v := 4) hx hb dX6_freeFault_30 (by decide) ?_
      replace h := bnd h; obtain ⟨q7, e8, h⟩ := h
      refine rdV C hE hP (kX1_of l D T a_g a_gw a_gk v_gw p0 4 q7 e8) mX1_of qLX6_62 [0, 2] 0 rfl rfl rfl rfl ⟨rfl, rfl⟩ ⟨Nat.le_of_ble_eq_true rfl, Nat.le_of_ble_eq_true rfl⟩ rfl hl.1 rfl (Nat.le_of_ble_eq_true rfl) dX6_freeFault_31 ⟨Nat.le_of_ble_eq_true rfl, Nat.le_of_ble_eq_true rfl⟩ ?_
      replace h := bnd h; obtain ⟨q9, e10, h⟩ := h
      refine wrVi (ws1 := [(a_g, .inr (1, [.ref a_gw, .ref a_gk])), (a_u, .inr (6, [.ref a_g, .ref a_r, .int q9.2])), (a_gw, .inl (T 0, 90, .inl v_gw)), (a_gk, .inl (T 0, 18, .inl v_gk))]) C hE hP hD hS hA (kX6_refuse l D T a_u a_g a_r q1.2 4 q7 _ q9 e10) mX6_refuse qLX6_33 [1] [0, 2, 3] 1 rfl rfl rfl rfl rfl rfl rfl rfl rfl ⟨rfl, rfl⟩ ⟨Nat.le_of_ble_eq_true rfl, Nat.le_of_ble_eq_true rfl⟩ rfl hl.1 rfl (Nat.le_of_ble_eq_true rfl) dX6_freeFault_34 ⟨Nat.le_of_ble_eq_true rfl, Nat.le_of_ble_eq_true rfl⟩ ?_; clear hP hD hS; intro H locs hP hD hS
      refine lv_goto (tgt := 41) hx hb dX6_freeFault_37 (by decide) ?_
      replace h := Option.some.inj h
      exact hret _ _ _ _ _ _ dX6_freeFault_41 rfl (by rw [← h] <;> rfl) (by rw [← h]; exact hP) hS
  · replace h := ite_f c3 h
    refine lv_iload_n hx hb dX6_freeFault_10 rfl (lv_at hl 0 rfl) ?_
    replace h := Option.some.inj h
    exact hret _ _ _ _ _ _ dX6_freeFault_11 rfl (by rw [← h] <;> rfl) (by rw [← h]; exact hP) hS

def fX4_begin_32 (v_gw : Nat → Int32) (v_gk : Nat → Int32) (n_c0 : Nat) (rec2 : Int32 → Int32 → (Nat → Int32) → (Nat → Int32) → Option ((Nat → Int32) × (Nat → Int32))) (x1 : Int32) (x2 : Int32) (l2 : Int32) (l3 : Int32) (v_ro : Nat → Int32) (v_c0 : Nat → Int32) : Option ((Nat → Int32) × (Nat → Int32)) :=
  if vin x1 45 = true then
  rec2 l2 (l3 + 1) (upd v_ro x1.toNatClampNeg (x2 &&& 1)) v_c0
  else none
def fX4_begin_80 (v_gw : Nat → Int32) (v_gk : Nat → Int32) (n_c0 : Nat) (rec41 : Int32 → Int32 → (Nat → Int32) → (Nat → Int32) → Option ((Nat → Int32) × (Nat → Int32))) (l2 : Int32) (l3 : Int32) (v_ro : Nat → Int32) (v_c0 : Nat → Int32) : Option ((Nat → Int32) × (Nat → Int32)) :=
  rec41 l2 (l3 + 1) v_ro v_c0
def fX4_begin_88 (v_gw : Nat → Int32) (v_gk : Nat → Int32) (n_c0 : Nat) : Nat → Int32 → Int32 → (Nat → Int32) → (Nat → Int32) → Option ((Nat → Int32) × (Nat → Int32))
  | 0, _, _, _, _ => none
  | k + 1, l2, l3, v_ro, v_c0 =>
    if (Int32.ofNat n_c0) ≤ l3 then
      (fX1_of v_gw l2 4).bind fun q14 =>
      if q14 < 0 then
        some (v_ro, v_c0)
      else
        if (Int32.ofNat n_c0) ≤ q14 then
          some (v_ro, v_c0)
        else
          if vin q14 n_c0 = true then
          some (v_ro, (upd v_c0 q14.toNatClampNeg 0))
          else none
    else
      if vin l3 n_c0 = true then
      fX4_begin_88 v_gw v_gk n_c0 k l2 (l3 + 1) v_ro (upd v_c0 l3.toNatClampNeg 1000)
      else none
def fX4_begin_41 (v_gw : Nat → Int32) (v_gk : Nat → Int32) (n_c0 : Nat) : Nat → Int32 → Int32 → (Nat → Int32) → (Nat → Int32) → Option ((Nat → Int32) × (Nat → Int32))
  | 0, _, _, _, _ => none
  | k + 1, l2, l3, v_ro, v_c0 =>
    (fX1_count v_gk 0).bind fun q6 =>
    if q6 ≤ l3 then
      fX4_begin_88 v_gw v_gk n_c0 64 l2 0 v_ro v_c0
    else
      (fX1_of v_gw l3 4).bind fun q9 =>
      if (fX7_isCell q9) = 0 then
        fX4_begin_80 v_gw v_gk n_c0 (fX4_begin_41 v_gw v_gk n_c0 k) l2 l3 v_ro v_c0
      else
        if vin q9 45 = true then
        fX4_begin_80 v_gw v_gk n_c0 (fX4_begin_41 v_gw v_gk n_c0 k) l2 l3 (upd v_ro q9.toNatClampNeg (0 &&& 1)) v_c0
        else none
def fX4_begin_2 (v_gw : Nat → Int32) (v_gk : Nat → Int32) (n_c0 : Nat) : Nat → Int32 → Int32 → (Nat → Int32) → (Nat → Int32) → Option ((Nat → Int32) × (Nat → Int32))
  | 0, _, _, _, _ => none
  | k + 1, l2, l3, v_ro, v_c0 =>
    if 45 ≤ l3 then
      fX4_begin_41 v_gw v_gk n_c0 64 l2 0 v_ro v_c0
    else
      (fX1_isDryNow v_gk l3).bind fun q2 =>
      fX4_begin_32 v_gw v_gk n_c0 (fX4_begin_2 v_gw v_gk n_c0 k) l3 (if q2 = 0 then 1 else 0) l2 l3 v_ro v_c0
def fX4_begin (v_gw : Nat → Int32) (v_gk : Nat → Int32) (v_ro : Nat → Int32) (n_c0 : Nat) (v_c0 : Nat → Int32) (p0 : Int32) : Option ((Nat → Int32) × (Nat → Int32)) :=
  fX4_begin_2 v_gw v_gk n_c0 64 p0 0 v_ro v_c0
set_option maxHeartbeats 4000000 in
set_option maxRecDepth 100000 in
theorem lX4_begin_32 {p : Program} {l : Launch} {e : Env} {s : State} {m : MethodId} {args : Array Value} {below : List Frame} {meth : Method} {c : Code} {Q : State → Prop} {D : va_G} {T : Nat → ClassId} {a_g a_gw a_gk a_r a_rs a_rl a_ro a_c0 : Nat} {v_gw : Nat → Int32} {v_gk : Nat → Int32} {n_c0 : Nat} {A : Nat → Prop} {r : (Nat → Int32) × (Nat → Int32)} (C : CallFix p m c cX4_begin 5 s args aw RX4) (hE : eK D T s) (hA : ∀ q : Nat, s.heap.size ≤ q → A q) (hret : WrRetV p l e ({ frames := 2, cells := 0, slots := 0, locals := 42 } : Room) s m args below meth c Q cX4_begin D A [(a_g, .inr (1, [.ref a_gw, .ref a_gk])), (a_r, .inr (4, [.ref a_g, .ref a_rs, .ref a_rl, .ref a_ro])), (a_gw, .inl (T 0, 90, .inl v_gw)), (a_gk, .inl (T 0, 18, .inl v_gk)), (a_ro, .inl (T 1, 45, .inl r.1)), (a_c0, .inl (T 0, n_c0, .inl r.2))]) {rec2 : Int32 → Int32 → (Nat → Int32) → (Nat → Int32) → Option ((Nat → Int32) × (Nat → Int32))} (hrec2 : ∀ (l2 : Int32) (l3 : Int32) (v_ro : Nat → Int32) (v_c0 : Nat → Int32) {H : Heap} {locs : List Loc} (hPD : va_PD D A [(a_g, .inr (1, [.ref a_gw, .ref a_gk])), (a_r, .inr (4, [.ref a_g, .ref a_rs, .ref a_rl, .ref a_ro])), (a_gw, .inl (T 0, 90, .inl v_gw)), (a_gk, .inl (T 0, 18, .inl v_gk)), (a_ro, .inl (T 1, 45, .inl v_ro)), (a_c0, .inl (T 0, n_c0, .inl v_c0))] H) (hS : va_S A s.heap H locs) (ls : Array Slot) (hl : lv_has ls 5 [(0, .ref a_r), (1, .ref a_c0), (2, .int l2), (3, .int l3)]) (h : rec2 l2 l3 v_ro v_c0 = some r), W p l e ({ frames := 2, cells := 0, slots := 0, locals := 42 } : Room) s m args below meth c H locs 0 0 Q (F0 m 2 ls [])) (x1 : Int32) (x2 : Int32) (l2 : Int32) (l3 : Int32) (v_ro : Nat → Int32) (v_c0 : Nat → Int32) {H : Heap} {locs : List Loc} (hPD : va_PD D A [(a_g, .inr (1, [.ref a_gw, .ref a_gk])), (a_r, .inr (4, [.ref a_g, .ref a_rs, .ref a_rl, .ref a_ro])), (a_gw, .inl (T 0, 90, .inl v_gw)), (a_gk, .inl (T 0, 18, .inl v_gk)), (a_ro, .inl (T 1, 45, .inl v_ro)), (a_c0, .inl (T 0, n_c0, .inl v_c0))] H) (hS : va_S A s.heap H locs) (ls : Array Slot) (hl : lv_has ls 5 [(0, .ref a_r), (1, .ref a_c0), (2, .int l2), (3, .int l3)]) (h : fX4_begin_32 v_gw v_gk n_c0 rec2 x1 x2 l2 l3 v_ro v_c0 = some r) : W p l e ({ frames := 2, cells := 0, slots := 0, locals := 42 } : Room) s m args below meth c H locs 0 0 Q (F0 m 32 ls [.int x2, .int x1, .ref a_ro]) := by
  have hx := C.1
  have hb := C.2.1
  obtain ⟨hP, hD⟩ := hPD
  unfold fX4_begin_32 at h
  replace h := gd h; obtain ⟨g5, h⟩ := h
  refine astZ (q0 := 4) (ws1 := [(a_g, .inr (1, [.ref a_gw, .ref a_gk])), (a_r, .inr (4, [.ref a_g, .ref a_rs, .ref a_rl, .ref a_ro])), (a_gw, .inl (T 0, 90, .inl v_gw)), (a_gk, .inl (T 0, 18, .inl v_gk)), (a_ro, .inl (T 1, 45, .inl (upd v_ro x1.toNatClampNeg (x2 &&& 1)))), (a_c0, .inl (T 0, n_c0, .inl v_c0))]) C hE hP hD hS rfl g5 rfl dX4_begin_32 ?_; clear hP hD hS; intro H locs hP hD hS
  refine lv_iinc (v := (l3 + 1)) (lv' := [(3, .int (l3 + 1)), (0, .ref a_r), (1, .ref a_c0), (2, .int l2)]) hx hb dX4_begin_33 hl (k := 3) rfl rfl (by decide) rfl (fun ls hl => ?_)
  refine lv_goto (tgt := 2) hx hb dX4_begin_36 (by decide) ?_
  exact hrec2 l2 (l3 + 1) (upd v_ro x1.toNatClampNeg (x2 &&& 1)) v_c0 ⟨hP, hD⟩ hS _ (lv_sub hl [1, 2, 3, 0] rfl) h
set_option maxHeartbeats 4000000 in
set_option maxRecDepth 100000 in
theorem lX4_begin_80 {p : Program} {l : Launch} {e : Env} {s : State} {m : MethodId} {args : Array Value} {below : List Frame} {meth : Method} {c : Code} {Q : State → Prop} {D : va_G} {T : Nat → ClassId} {a_g a_gw a_gk a_r a_rs a_rl a_ro a_c0 : Nat} {v_gw : Nat → Int32} {v_gk : Nat → Int32} {n_c0 : Nat} {A : Nat → Prop} {r : (Nat → Int32) × (Nat → Int32)} (C : CallFix p m c cX4_begin 5 s args aw RX4) (hE : eK D T s) (hA : ∀ q : Nat, s.heap.size ≤ q → A q) (hret : WrRetV p l e ({ frames := 2, cells := 0, slots := 0, locals := 42 } : Room) s m args below meth c Q cX4_begin D A [(a_g, .inr (1, [.ref a_gw, .ref a_gk])), (a_r, .inr (4, [.ref a_g, .ref a_rs, .ref a_rl, .ref a_ro])), (a_gw, .inl (T 0, 90, .inl v_gw)), (a_gk, .inl (T 0, 18, .inl v_gk)), (a_ro, .inl (T 1, 45, .inl r.1)), (a_c0, .inl (T 0, n_c0, .inl r.2))]) {rec41 : Int32 → Int32 → (Nat → Int32) → (Nat → Int32) → Option ((Nat → Int32) × (Nat → Int32))} (hrec41 : ∀ (l2 : Int32) (l3 : Int32) (v_ro : Nat → Int32) (v_c0 : Nat → Int32) {H : Heap} {locs : List Loc} (hPD : va_PD D A [(a_g, .inr (1, [.ref a_gw, .ref a_gk])), (a_r, .inr (4, [.ref a_g, .ref a_rs, .ref a_rl, .ref a_ro])), (a_gw, .inl (T 0, 90, .inl v_gw)), (a_gk, .inl (T 0, 18, .inl v_gk)), (a_ro, .inl (T 1, 45, .inl v_ro)), (a_c0, .inl (T 0, n_c0, .inl v_c0))] H) (hS : va_S A s.heap H locs) (ls : Array Slot) (hl : lv_has ls 5 [(0, .ref a_r), (1, .ref a_c0), (2, .int l2), (3, .int l3)]) (h : rec41 l2 l3 v_ro v_c0 = some r), W p l e ({ frames := 2, cells := 0, slots := 0, locals := 42 } : Room) s m args below meth c H locs 0 0 Q (F0 m 41 ls [])) (l2 : Int32) (l3 : Int32) (v_ro : Nat → Int32) (v_c0 : Nat → Int32) {H : Heap} {locs : List Loc} (hPD : va_PD D A [(a_g, .inr (1, [.ref a_gw, .ref a_gk])), (a_r, .inr (4, [.ref a_g, .ref a_rs, .ref a_rl, .ref a_ro])), (a_gw, .inl (T 0, 90, .inl v_gw)), (a_gk, .inl (T 0, 18, .inl v_gk)), (a_ro, .inl (T 1, 45, .inl v_ro)), (a_c0, .inl (T 0, n_c0, .inl v_c0))] H) (hS : va_S A s.heap H locs) (ls : Array Slot) (hl : lv_has ls 5 [(0, .ref a_r), (1, .ref a_c0), (2, .int l2), (3, .int l3)]) (h : fX4_begin_80 v_gw v_gk n_c0 rec41 l2 l3 v_ro v_c0 = some r) : W p l e ({ frames := 2, cells := 0, slots := 0, locals := 42 } : Room) s m args below meth c H locs 0 0 Q (F0 m 80 ls []) := by
  have hx := C.1
  have hb := C.2.1
  obtain ⟨hP, hD⟩ := hPD
  unfold fX4_begin_80 at h
  refine lv_iinc (v := (l3 + 1)) (lv' := [(3, .int (l3 + 1)), (0, .ref a_r), (1, .ref a_c0), (2, .int l2)]) hx hb dX4_begin_80 hl (k := 3) rfl rfl (by decide) rfl (fun ls hl => ?_)
  refine lv_goto (tgt := 41) hx hb dX4_begin_83 (by decide) ?_
  exact hrec41 l2 (l3 + 1) v_ro v_c0 ⟨hP, hD⟩ hS _ (lv_sub hl [1, 2, 3, 0] rfl) h
set_option maxHeartbeats 4000000 in
set_option maxRecDepth 100000 in
theorem lX4_begin_88 {p : Program} {l : Launch} {e : Env} {s : State} {m : MethodId} {args : Array Value} {below : List Frame} {meth : Method} {c : Code} {Q : State → Prop} {D : va_G} {T : Nat → ClassId} {a_g a_gw a_gk a_r a_rs a_rl a_ro a_c0 : Nat} {v_gw : Nat → Int32} {v_gk : Nat → Int32} {n_c0 : Nat} {A : Nat → Prop} {r : (Nat → Int32) × (Nat → Int32)} (C : CallFix p m c cX4_begin 5 s args aw RX4) (hE : eK D T s) (hA : ∀ q : Nat, s.heap.size ≤ q → A q) (hret : WrRetV p l e ({ frames := 2, cells := 0, slots := 0, locals := 42 } : Room) s m args below meth c Q cX4_begin D A [(a_g, .inr (1, [.ref a_gw, .ref a_gk])), (a_r, .inr (4, [.ref a_g, .ref a_rs, .ref a_rl, .ref a_ro])), (a_gw, .inl (T 0, 90, .inl v_gw)), (a_gk, .inl (T 0, 18, .inl v_gk)), (a_ro, .inl (T 1, 45, .inl r.1)), (a_c0, .inl (T 0, n_c0, .inl r.2))]) : ∀ (k : Nat) (l2 : Int32) (l3 : Int32) (v_ro : Nat → Int32) (v_c0 : Nat → Int32) {H : Heap} {locs : List Loc} (hPD : va_PD D A [(a_g, .inr (1, [.ref a_gw, .ref a_gk])), (a_r, .inr (4, [.ref a_g, .ref a_rs, .ref a_rl, .ref a_ro])), (a_gw, .inl (T 0, 90, .inl v_gw)), (a_gk, .inl (T 0, 18, .inl v_gk)), (a_ro, .inl (T 1, 45, .inl v_ro)), (a_c0, .inl (T 0, n_c0, .inl v_c0))] H) (hS : va_S A s.heap H locs) (ls : Array Slot) (hl : lv_has ls 5 [(0, .ref a_r), (1, .ref a_c0), (2, .int l2), (3, .int l3)]) (h : fX4_begin_88 v_gw v_gk n_c0 k l2 l3 v_ro v_c0 = some r), W p l e ({ frames := 2, cells := 0, slots := 0, locals := 42 } : Room) s m args below meth c H locs 0 0 Q (F0 m 88 ls []) := by
  have hx := C.1
  have hb := C.2.1
  intro k
  induction k with
  | zero =>
    intro l2 l3 v_ro v_c0 H locs hPD hS ls hl h
    exact nomatch (show (none : Option ((Nat → Int32) × (Nat → Int32))) = some r from h)
  | succ k ih =>
    intro l2 l3 v_ro v_c0 H locs hPD hS ls hl h
    obtain ⟨hP, hD⟩ := hPD
    rw [fX4_begin_88] at h
    refine lv_iload_n hx hb dX4_begin_88 rfl (lv_at hl 3 rfl) ?_
    refine lv_aload_n hx hb dX4_begin_89 rfl (lv_at hl 1 rfl) ?_
    refine alen (q0 := 5) (t0 := 0) (v := Int32.ofNat n_c0) C hE hP rfl rfl rfl dX4_begin_90 ?_
    refine lv_icmp_ge (tgt := 106) hx hb dX4_begin_91 (by decide) (fun c13 => ?_) (fun c13 => ?_)
    · replace h := ite_t c13 h
      refine lv_aload_n hx hb dX4_begin_106 rfl (lv_at hl 0 rfl) ?_
      refine getF (q0 := 1) (k0 := 0) (v := .ref a_g) C hE hP inA4 rfl rfl (by decide) qFX4_22 rfl rfl dX4_begin_107 ?_
      refine lv_iload_n hx hb dX4_begin_110 rfl (lv_at hl 2 rfl) ?_
      refine lv_iconst (v := 4) hx hb dX4_begin_111 (by decide) ?_
      replace h := bnd h; obtain ⟨q14, e15, h⟩ := h
      refine rdV C hE hP (kX1_of l D T a_g a_gw a_gk v_gw l2 4 q14 e15) mX1_of qLX4_60 [0, 2] 0 rfl rfl rfl rfl ⟨rfl, rfl⟩ ⟨Nat.le_of_ble_eq_true rfl, Nat.le_of_ble_eq_true rfl⟩ rfl hl.1 rfl (Nat.le_of_ble_eq_true rfl) dX4_begin_112 ⟨Nat.le_of_ble_eq_true rfl, Nat.le_of_ble_eq_true rfl⟩ ?_
      refine lv_istore_n (lv' := [(3, .int q14), (0, .ref a_r), (1, .ref a_c0), (2, .int l2)]) hx hb dX4_begin_115 rfl hl (by decide) rfl (fun ls hl => ?_)
      refine lv_iload_n hx hb dX4_begin_116 rfl (lv_at hl 0 rfl) ?_
      refine lv_if_lt (tgt := 130) hx hb dX4_begin_117 (by decide) (fun c16 => ?_) (fun c16 => ?_)
      · replace h := ite_t c16 h
        replace h := Option.some.inj h
        exact hret _ _ _ _ dX4_begin_130 (by rw [← h]; exact hP) hS
      · replace h := ite_f c16 h
        refine lv_iload_n hx hb dX4_begin_120 rfl (lv_at hl 0 rfl) ?_
        refine lv_aload_n hx hb dX4_begin_121 rfl (lv_at hl 2 rfl) ?_
        refine alen (q0 := 5) (t0 := 0) (v := Int32.ofNat n_c0) C hE hP rfl rfl rfl dX4_begin_122 ?_
        refine lv_icmp_ge (tgt := 130) hx hb dX4_begin_123 (by decide) (fun c17 => ?_) (fun c17 => ?_)
        · replace h := ite_t c17 h
          replace h := Option.some.inj h
          exact hret _ _ _ _ dX4_begin_130 (by rw [← h]; exact hP) hS
        · replace h := ite_f c17 h
          refine lv_aload_n hx hb dX4_begin_126 rfl (lv_at hl 2 rfl) ?_
          refine lv_iload_n hx hb dX4_begin_127 rfl (lv_at hl 0 rfl) ?_
          refine lv_iconst (v := 0) hx hb dX4_begin_128 (by decide) ?_
          replace h := gd h; obtain ⟨g18, h⟩ := h
          refine astI (q0 := 5) (ws1 := [(a_g, .inr (1, [.ref a_gw, .ref a_gk])), (a_r, .inr (4, [.ref a_g, .ref a_rs, .ref a_rl, .ref a_ro])), (a_gw, .inl (T 0, 90, .inl v_gw)), (a_gk, .inl (T 0, 18, .inl v_gk)), (a_ro, .inl (T 1, 45, .inl v_ro)), (a_c0, .inl (T 0, n_c0, .inl (upd v_c0 q14.toNatClampNeg 0)))]) C hE hP hD hS rfl g18 rfl dX4_begin_129 ?_; clear hP hD hS; intro H locs hP hD hS
          replace h := Option.some.inj h
          exact hret _ _ _ _ dX4_begin_130 (by rw [← h]; exact hP) hS
    · replace h := ite_f c13 h
      refine lv_aload_n hx hb dX4_begin_94 rfl (lv_at hl 1 rfl) ?_
      refine lv_iload_n hx hb dX4_begin_95 rfl (lv_at hl 3 rfl) ?_
      refine lv_sipush (v := 1000) hx hb dX4_begin_96 (by decide) ?_
      replace h := gd h; obtain ⟨g19, h⟩ := h
      refine astI (q0 := 5) (ws1 := [(a_g, .inr (1, [.ref a_gw, .ref a_gk])), (a_r, .inr (4, [.ref a_g, .ref a_rs, .ref a_rl, .ref a_ro])), (a_gw, .inl (T 0, 90, .inl v_gw)), (a_gk, .inl (T 0, 18, .inl v_gk)), (a_ro, .inl (T 1, 45, .inl v_ro)), (a_c0, .inl (T 0, n_c0, .inl (upd v_c0 l3.toNatClampNeg 1000)))]) C hE hP hD hS rfl g19 rfl dX4_begin_99 ?_; clear hP hD hS; intro H locs hP hD hS
      refine lv_iinc (v := (l3 + 1)) (lv' := [(3, .int (l3 + 1)), (0, .ref a_r), (1, .ref a_c0), (2, .int l2)]) hx hb dX4_begin_100 hl (k := 3) rfl rfl (by decide) rfl (fun ls hl => ?_)
      refine lv_goto (tgt := 88) hx hb dX4_begin_103 (by decide) ?_
      exact ih l2 (l3 + 1) v_ro (upd v_c0 l3.toNatClampNeg 1000) ⟨hP, hD⟩ hS _ (lv_sub hl [1, 2, 3, 0] rfl) h
set_option maxHeartbeats 4000000 in
set_option maxRecDepth 100000 in
theorem lX4_begin_41 {p : Program} {l : Launch} {e : Env} {s : State} {m : MethodId} {args : Array Value} {below : List Frame} {meth : Method} {c : Code} {Q : State → Prop} {D : va_G} {T : Nat → ClassId} {a_g a_gw a_gk a_r a_rs a_rl a_ro a_c0 : Nat} {v_gw : Nat → Int32} {v_gk : Nat → Int32} {n_c0 : Nat} {A : Nat → Prop} {r : (Nat → Int32) × (Nat → Int32)} (C : CallFix p m c cX4_begin 5 s args aw RX4) (hE : eK D T s) (hA : ∀ q : Nat, s.heap.size ≤ q → A q) (hret : WrRetV p l e ({ frames := 2, cells := 0, slots := 0, locals := 42 } : Room) s m args below meth c Q cX4_begin D A [(a_g, .inr (1, [.ref a_gw, .ref a_gk])), (a_r, .inr (4, [.ref a_g, .ref a_rs, .ref a_rl, .ref a_ro])), (a_gw, .inl (T 0, 90, .inl v_gw)), (a_gk, .inl (T 0, 18, .inl v_gk)), (a_ro, .inl (T 1, 45, .inl r.1)), (a_c0, .inl (T 0, n_c0, .inl r.2))]) : ∀ (k : Nat) (l2 : Int32) (l3 : Int32) (v_ro : Nat → Int32) (v_c0 : Nat → Int32) {H : Heap} {locs : List Loc} (hPD : va_PD D A [(a_g, .inr (1, [.ref a_gw, .ref a_gk])), (a_r, .inr (4, [.ref a_g, .ref a_rs, .ref a_rl, .ref a_ro])), (a_gw, .inl (T 0, 90, .inl v_gw)), (a_gk, .inl (T 0, 18, .inl v_gk)), (a_ro, .inl (T 1, 45, .inl v_ro)), (a_c0, .inl (T 0, n_c0, .inl v_c0))] H) (hS : va_S A s.heap H locs) (ls : Array Slot) (hl : lv_has ls 5 [(0, .ref a_r), (1, .ref a_c0), (2, .int l2), (3, .int l3)]) (h : fX4_begin_41 v_gw v_gk n_c0 k l2 l3 v_ro v_c0 = some r), W p l e ({ frames := 2, cells := 0, slots := 0, locals := 42 } : Room) s m args below meth c H locs 0 0 Q (F0 m 41 ls []) := by
  have hx := C.1
  have hb := C.2.1
  intro k
  induction k with
  | zero =>
    intro l2 l3 v_ro v_c0 H locs hPD hS ls hl h
    exact nomatch (show (none : Option ((Nat → Int32) × (Nat → Int32))) = some r from h)
  | succ k ih =>
    intro l2 l3 v_ro v_c0 H locs hPD hS ls hl h
    obtain ⟨hP, hD⟩ := hPD
    rw [fX4_begin_41] at h
    refine lv_iload_n hx hb dX4_begin_41 rfl (lv_at hl 3 rfl) ?_
    refine lv_aload_n hx hb dX4_begin_42 rfl (lv_at hl 0 rfl) ?_
    refine getF (q0 := 1) (k0 := 0) (v := .ref a_g) C hE hP inA4 rfl rfl (by decide) qFX4_22 rfl rfl dX4_begin_43 ?_
    refine lv_iconst (v := 0) hx hb dX4_begin_46 (by decide) ?_
    replace h := bnd h; obtain ⟨q6, e7, h⟩ := h
    refine rdV C hE hP (kX1_count l D T a_g a_gw a_gk v_gk 0 q6 e7) mX1_count qLX4_57 [0, 3] 0 rfl rfl rfl rfl ⟨rfl, rfl⟩ ⟨Nat.le_of_ble_eq_true rfl, Nat.le_of_ble_eq_true rfl⟩ rfl hl.1 rfl (Nat.le_of_ble_eq_true rfl) dX4_begin_47 ⟨Nat.le_of_ble_eq_true rfl, Nat.le_of_ble_eq_true rfl⟩ ?_
    refine lv_icmp_ge (tgt := 86) hx hb dX4_begin_50 (by decide) (fun c8 => ?_) (fun c8 => ?_)
    · replace h := ite_t c8 h
      refine lv_iconst (v := 0) hx hb dX4_begin_86 (by decide) ?_
      refine lv_istore_n (lv' := [(3, .int 0), (0, .ref a_r), (1, .ref a_c0), (2, .int l2)]) hx hb dX4_begin_87 rfl hl (by decide) rfl (fun ls hl => ?_)
      exact lX4_begin_88 C hE hA hret 64 l2 0 v_ro v_c0 ⟨hP, hD⟩ hS _ (lv_sub hl [1, 2, 3, 0] rfl) h
    · replace h := ite_f c8 h
      refine lv_aload_n hx hb dX4_begin_53 rfl (lv_at hl 0 rfl) ?_
      refine getF (q0 := 1) (k0 := 0) (v := .ref a_g) C hE hP inA4 rfl rfl (by decide) qFX4_22 rfl rfl dX4_begin_54 ?_
      refine lv_iload_n hx hb dX4_begin_57 rfl (lv_at hl 3 rfl) ?_
      refine lv_iconst (v := 4) hx hb dX4_begin_58 (by decide) ?_
      replace h := bnd h; obtain ⟨q9, e10, h⟩ := h
      refine rdV C hE hP (kX1_of l D T a_g a_gw a_gk v_gw l3 4 q9 e10) mX1_of qLX4_60 [0, 2] 0 rfl rfl rfl rfl ⟨rfl, rfl⟩ ⟨Nat.le_of_ble_eq_true rfl, Nat.le_of_ble_eq_true rfl⟩ rfl hl.1 rfl (Nat.le_of_ble_eq_true rfl) dX4_begin_59 ⟨Nat.le_of_ble_eq_true rfl, Nat.le_of_ble_eq_true rfl⟩ ?_
      refine lv_istore (lv' := [(4, .int q9), (0, .ref a_r), (1, .ref a_c0), (2, .int l2), (3, .int l3)]) hx hb dX4_begin_62 hl (by decide) rfl (fun ls hl => ?_)
      refine lv_iload hx hb dX4_begin_64 (lv_at hl 0 rfl) ?_
      refine rdSN C hE hP (kX7_isCell l D T q9) mX7_isCell (by decide +kernel) [] rfl ⟨rfl, rfl⟩ ⟨Nat.le_of_ble_eq_true rfl, Nat.le_of_ble_eq_true rfl⟩ rfl hl.1 rfl (Nat.le_of_ble_eq_true rfl) dX4_begin_66 ⟨Nat.le_of_ble_eq_true rfl, Nat.le_of_ble_eq_true rfl⟩ ?_
      refine lv_if_eq (tgt := 80) hx hb dX4_begin_69 (by decide) (fun c11 => ?_) (fun c11 => ?_)
      · replace h := ite_t c11 h
        exact lX4_begin_80 C hE hA hret ih l2 l3 v_ro v_c0 ⟨hP, hD⟩ hS _ (lv_sub hl [1, 2, 3, 4] rfl) h
      · replace h := ite_f c11 h
        refine lv_aload_n hx hb dX4_begin_72 rfl (lv_at hl 1 rfl) ?_
        refine getF (q0 := 1) (k0 := 3) (v := .ref a_ro) C hE hP inA4 rfl rfl (by decide) qFX4_18 rfl rfl dX4_begin_73 ?_
        refine lv_iload hx hb dX4_begin_76 (lv_at hl 0 rfl) ?_
        refine lv_iconst (v := 0) hx hb dX4_begin_78 (by decide) ?_
        replace h := gd h; obtain ⟨g12, h⟩ := h
        refine astZ (q0 := 4) (ws1 := [(a_g, .inr (1, [.ref a_gw, .ref a_gk])), (a_r, .inr (4, [.ref a_g, .ref a_rs, .ref a_rl, .ref a_ro])), (a_gw, .inl (T 0, 90, .inl v_gw)), (a_gk, .inl (T 0, 18, .inl v_gk)), (a_ro, .inl (T 1, 45, .inl (upd v_ro q9.toNatClampNeg (0 &&& 1)))), (a_c0, .inl (T 0, n_c0, .inl v_c0))]) C hE hP hD hS rfl g12 rfl dX4_begin_79 ?_; clear hP hD hS; intro H locs hP hD hS
        exact lX4_begin_80 C hE hA hret ih l2 l3 (upd v_ro q9.toNatClampNeg (0 &&& 1)) v_c0 ⟨hP, hD⟩ hS _ (lv_sub hl [1, 2, 3, 4] rfl) h
set_option maxHeartbeats 4000000 in
set_option maxRecDepth 100000 in
theorem lX4_begin_2 {p : Program} {l : Launch} {e : Env} {s : State} {m : MethodId} {args : Array Value} {below : List Frame} {meth : Method} {c : Code} {Q : State → Prop} {D : va_G} {T : Nat → ClassId} {a_g a_gw a_gk a_r a_rs a_rl a_ro a_c0 : Nat} {v_gw : Nat → Int32} {v_gk : Nat → Int32} {n_c0 : Nat} {A : Nat → Prop} {r : (Nat → Int32) × (Nat → Int32)} (C : CallFix p m c cX4_begin 5 s args aw RX4) (hE : eK D T s) (hA : ∀ q : Nat, s.heap.size ≤ q → A q) (hret : WrRetV p l e ({ frames := 2, cells := 0, slots := 0, locals := 42 } : Room) s m args below meth c Q cX4_begin D A [(a_g, .inr (1, [.ref a_gw, .ref a_gk])), (a_r, .inr (4, [.ref a_g, .ref a_rs, .ref a_rl, .ref a_ro])), (a_gw, .inl (T 0, 90, .inl v_gw)), (a_gk, .inl (T 0, 18, .inl v_gk)), (a_ro, .inl (T 1, 45, .inl r.1)), (a_c0, .inl (T 0, n_c0, .inl r.2))]) : ∀ (k : Nat) (l2 : Int32) (l3 : Int32) (v_ro : Nat → Int32) (v_c0 : Nat → Int32) {H : Heap} {locs : List Loc} (hPD : va_PD D A [(a_g, .inr (1, [.ref a_gw, .ref a_gk])), (a_r, .inr (4, [.ref a_g, .ref a_rs, .ref a_rl, .ref a_ro])), (a_gw, .inl (T 0, 90, .inl v_gw)), (a_gk, .inl (T 0, 18, .inl v_gk)), (a_ro, .inl (T 1, 45, .inl v_ro)), (a_c0, .inl (T 0, n_c0, .inl v_c0))] H) (hS : va_S A s.heap H locs) (ls : Array Slot) (hl : lv_has ls 5 [(0, .ref a_r), (1, .ref a_c0), (2, .int l2), (3, .int l3)]) (h : fX4_begin_2 v_gw v_gk n_c0 k l2 l3 v_ro v_c0 = some r), W p l e ({ frames := 2, cells := 0, slots := 0, locals := 42 } : Room) s m args below meth c H locs 0 0 Q (F0 m 2 ls []) := by
  have hx := C.1
  have hb := C.2.1
  intro k
  induction k with
  | zero =>
    intro l2 l3 v_ro v_c0 H locs hPD hS ls hl h
    exact nomatch (show (none : Option ((Nat → Int32) × (Nat → Int32))) = some r from h)
  | succ k ih =>
    intro l2 l3 v_ro v_c0 H locs hPD hS ls hl h
    obtain ⟨hP, hD⟩ := hPD
    rw [fX4_begin_2] at h
    refine lv_iload_n hx hb dX4_begin_2 rfl (lv_at hl 3 rfl) ?_
    refine lv_aload_n hx hb dX4_begin_3 rfl (lv_at hl 0 rfl) ?_
    refine getF (q0 := 1) (k0 := 3) (v := .ref a_ro) C hE hP inA4 rfl rfl (by decide) qFX4_18 rfl rfl dX4_begin_4 ?_
    refine alen (q0 := 4) (t0 := 1) (v := 45) C hE hP rfl rfl (by decide) dX4_begin_7 ?_
    refine lv_icmp_ge (tgt := 39) hx hb dX4_begin_8 (by decide) (fun c1 => ?_) (fun c1 => ?_)
    · replace h := ite_t c1 h
      refine lv_iconst (v := 0) hx hb dX4_begin_39 (by decide) ?_
      refine lv_istore_n (lv' := [(3, .int 0), (0, .ref a_r), (1, .ref a_c0), (2, .int l2)]) hx hb dX4_begin_40 rfl hl (by decide) rfl (fun ls hl => ?_)
      exact lX4_begin_41 C hE hA hret 64 l2 0 v_ro v_c0 ⟨hP, hD⟩ hS _ (lv_sub hl [1, 2, 3, 0] rfl) h
    · replace h := ite_f c1 h
      refine lv_aload_n hx hb dX4_begin_11 rfl (lv_at hl 0 rfl) ?_
      refine getF (q0 := 1) (k0 := 3) (v := .ref a_ro) C hE hP inA4 rfl rfl (by decide) qFX4_18 rfl rfl dX4_begin_12 ?_
      refine lv_iload_n hx hb dX4_begin_15 rfl (lv_at hl 3 rfl) ?_
      refine lv_aload_n hx hb dX4_begin_16 rfl (lv_at hl 0 rfl) ?_
      refine getF (q0 := 1) (k0 := 0) (v := .ref a_g) C hE hP inA4 rfl rfl (by decide) qFX4_22 rfl rfl dX4_begin_17 ?_
      refine lv_iload_n hx hb dX4_begin_20 rfl (lv_at hl 3 rfl) ?_
      replace h := bnd h; obtain ⟨q2, e3, h⟩ := h
      refine rdV C hE hP (kX1_isDryNow l D T a_g a_gw a_gk v_gk l3 q2 e3) mX1_isDryNow qLX4_52 [0, 3] 0 rfl rfl rfl rfl ⟨rfl, rfl⟩ ⟨Nat.le_of_ble_eq_true rfl, Nat.le_of_ble_eq_true rfl⟩ rfl hl.1 rfl (Nat.le_of_ble_eq_true rfl) dX4_begin_21 ⟨Nat.le_of_ble_eq_true rfl, Nat.le_of_ble_eq_true rfl⟩ ?_
      refine lv_if_ne (tgt := 31) hx hb dX4_begin_24 (by decide) (fun c4 => ?_) (fun c4 => ?_)
      · rw [if_neg c4] at h
        refine lv_iconst (v := 0) hx hb dX4_begin_31 (by decide) ?_
        exact lX4_begin_32 C hE hA hret ih l3 0 l2 l3 v_ro v_c0 ⟨hP, hD⟩ hS _ (lv_sub hl [0, 1, 2, 3] rfl) h
      · rw [if_pos c4] at h
        refine lv_iconst (v := 1) hx hb dX4_begin_27 (by decide) ?_
        refine lv_goto (tgt := 32) hx hb dX4_begin_28 (by decide) ?_
        exact lX4_begin_32 C hE hA hret ih l3 1 l2 l3 v_ro v_c0 ⟨hP, hD⟩ hS _ (lv_sub hl [0, 1, 2, 3] rfl) h
set_option maxHeartbeats 4000000 in
set_option maxRecDepth 100000 in
theorem kX4_begin (l : Launch) (D : va_G) (T : Nat → ClassId) (a_g a_gw a_gk a_r a_rs a_rl a_ro a_c0 : Nat) (v_gw : Nat → Int32) (v_gk : Nat → Int32) (v_ro : Nat → Int32) (n_c0 : Nat) (v_c0 : Nat → Int32) (p0 : Int32) (sz : Nat) (r : (Nat → Int32) × (Nat → Int32)) (h : fX4_begin v_gw v_gk v_ro n_c0 v_c0 p0 = some r) : WrV l yX4_begin cX4_begin 5 ({ frames := 2, cells := 0, slots := 0, locals := 42 } : Room) D T sz [(a_g, .inr (1, [.ref a_gw, .ref a_gk])), (a_r, .inr (4, [.ref a_g, .ref a_rs, .ref a_rl, .ref a_ro])), (a_gw, .inl (T 0, 90, .inl v_gw)), (a_gk, .inl (T 0, 18, .inl v_gk)), (a_ro, .inl (T 1, 45, .inl v_ro)), (a_c0, .inl (T 0, n_c0, .inl v_c0))] [(a_g, .inr (1, [.ref a_gw, .ref a_gk])), (a_r, .inr (4, [.ref a_g, .ref a_rs, .ref a_rl, .ref a_ro])), (a_gw, .inl (T 0, 90, .inl v_gw)), (a_gk, .inl (T 0, 18, .inl v_gk)), (a_ro, .inl (T 1, 45, .inl r.1)), (a_c0, .inl (T 0, n_c0, .inl r.2))] [.ref a_r, .ref a_c0, .int p0] := by
  unfold fX4_begin at h
  refine wrMetV (by decide +kernel) rfl (fun p e s m args below meth c Q A C hE hA hP hD hS hret ls hl => ?_)
  have hx := C.1
  have hb := C.2.1
  have hl : lv_has ls 5 [(0, .ref a_r), (1, .ref a_c0), (2, .int p0)] := hl
  refine lv_iconst (v := 0) hx hb dX4_begin_0 (by decide) ?_
  refine lv_istore_n (lv' := [(3, .int 0), (0, .ref a_r), (1, .ref a_c0), (2, .int p0)]) hx hb dX4_begin_1 rfl hl (by decide) rfl (fun ls hl => ?_)
  exact lX4_begin_2 C hE hA hret 64 p0 0 v_ro v_c0 ⟨hP, hD⟩ hS _ (lv_sub hl [1, 2, 3, 0] rfl) h

def fX7_cellsAhead (p0 : Int32) (p1 : Int32) : Int32 :=
  if p1 = 0 then
    (p0 / 9)
  else
    if p1 = 1 then
      (8 - (p0 - p0 / 9 * 9))
    else
      if p1 = 2 then
        (4 - (p0 / 9))
      else
        (p0 - p0 / 9 * 9)
set_option maxHeartbeats 4000000 in
set_option maxRecDepth 100000 in
theorem kX7_cellsAhead (l : Launch) (D : va_G) (T : Nat → ClassId) (p0 : Int32) (p1 : Int32) : RdI l yX7_cellsAhead cX7_cellsAhead 4 .int ({ frames := 0, cells := 0, slots := 0, locals := 0 } : Room) D T [] [.int p0, .int p1] (fX7_cellsAhead p0 p1) := by
  obtain ⟨r, h⟩ : ∃ r, fX7_cellsAhead p0 p1 = r := ⟨_, rfl⟩
  rw [h]
  unfold fX7_cellsAhead at h
  refine rdMet (by decide +kernel) rfl (fun p e s m args below meth c Q C hE hP hret ls hl => ?_)
  have hx := C.1
  have hb := C.2.1
  have hl : lv_has ls 4 [(0, .int p0), (1, .int p1)] := hl
  refine lv_iload_n hx hb dX7_cellsAhead_0 rfl (lv_at hl 0 rfl) ?_
  refine lv_bipush (v := 9) hx hb dX7_cellsAhead_1 (by decide) ?_
  refine lv_idiv hx hb dX7_cellsAhead_3 (by decide) ?_
  refine lv_istore_n (lv' := [(2, .int (p0 / 9)), (0, .int p0), (1, .int p1)]) hx hb dX7_cellsAhead_4 rfl hl (by decide) rfl (fun ls hl => ?_)
  refine lv_iload_n hx hb dX7_cellsAhead_5 rfl (lv_at hl 1 rfl) ?_
  refine lv_bipush (v := 9) hx hb dX7_cellsAhead_6 (by decide) ?_
  refine lv_irem hx hb dX7_cellsAhead_8 (by decide) ?_
  refine lv_istore_n (lv' := [(3, .int (p0 - p0 / 9 * 9)), (2, .int (p0 / 9)), (0, .int p0), (1, .int p1)]) hx hb dX7_cellsAhead_9 rfl hl (by decide) rfl (fun ls hl => ?_)
  refine lv_iload_n hx hb dX7_cellsAhead_10 rfl (lv_at hl 3 rfl) ?_
  refine lv_if_ne (tgt := 16) hx hb dX7_cellsAhead_11 (by decide) (fun c1 => ?_) (fun c1 => ?_)
  · replace h := ite_f c1 h
    refine lv_iload_n hx hb dX7_cellsAhead_16 rfl (lv_at hl 3 rfl) ?_
    refine lv_iconst (v := 1) hx hb dX7_cellsAhead_17 (by decide) ?_
    refine lv_icmp_ne (tgt := 26) hx hb dX7_cellsAhead_18 (by decide) (fun c2 => ?_) (fun c2 => ?_)
    · replace h := ite_f c2 h
      refine lv_iload_n hx hb dX7_cellsAhead_26 rfl (lv_at hl 3 rfl) ?_
      refine lv_iconst (v := 2) hx hb dX7_cellsAhead_27 (by decide) ?_
      refine lv_icmp_ne (tgt := 37) hx hb dX7_cellsAhead_28 (by decide) (fun c3 => ?_) (fun c3 => ?_)
      · replace h := ite_f c3 h
        refine lv_iload_n hx hb dX7_cellsAhead_37 rfl (lv_at hl 0 rfl) ?_
        exact hret _ _ _ _ dX7_cellsAhead_38 rfl h
      · replace h := ite_t c3 h
        refine lv_iconst (v := 4) hx hb dX7_cellsAhead_31 (by decide) ?_
        refine lv_iload_n hx hb dX7_cellsAhead_32 rfl (lv_at hl 1 rfl) ?_
        refine lv_isub hx hb dX7_cellsAhead_33 ?_
        refine lv_goto (tgt := 38) hx hb dX7_cellsAhead_34 (by decide) ?_
        exact hret _ _ _ _ dX7_cellsAhead_38 rfl h
    · replace h := ite_t c2 h
      refine lv_bipush (v := 8) hx hb dX7_cellsAhead_21 (by decide) ?_
      refine lv_iload_n hx hb dX7_cellsAhead_23 rfl (lv_at hl 0 rfl) ?_
      refine lv_isub hx hb dX7_cellsAhead_24 ?_
      exact hret _ _ _ _ dX7_cellsAhead_25 rfl h
  · replace h := ite_t c1 h
    refine lv_iload_n hx hb dX7_cellsAhead_14 rfl (lv_at hl 1 rfl) ?_
    exact hret _ _ _ _ dX7_cellsAhead_15 rfl h

def fX7_stride (p0 : Int32) : Int32 :=
  if p0 = 0 then
    (-9)
  else
    if p0 = 1 then
      1
    else
      if p0 = 2 then
        9
      else
        (-1)
set_option maxHeartbeats 4000000 in
set_option maxRecDepth 100000 in
theorem kX7_stride (l : Launch) (D : va_G) (T : Nat → ClassId) (p0 : Int32) : RdI l yX7_stride cX7_stride 1 .int ({ frames := 0, cells := 0, slots := 0, locals := 0 } : Room) D T [] [.int p0] (fX7_stride p0) := by
  obtain ⟨r, h⟩ : ∃ r, fX7_stride p0 = r := ⟨_, rfl⟩
  rw [h]
  unfold fX7_stride at h
  refine rdMet (by decide +kernel) rfl (fun p e s m args below meth c Q C hE hP hret ls hl => ?_)
  have hx := C.1
  have hb := C.2.1
  have hl : lv_has ls 1 [(0, .int p0)] := hl
  refine lv_iload_n hx hb dX7_stride_0 rfl (lv_at hl 0 rfl) ?_
  refine lv_if_ne (tgt := 7) hx hb dX7_stride_1 (by decide) (fun c1 => ?_) (fun c1 => ?_)
  · replace h := ite_f c1 h
    refine lv_iload_n hx hb dX7_stride_7 rfl (lv_at hl 0 rfl) ?_
    refine lv_iconst (v := 1) hx hb dX7_stride_8 (by decide) ?_
    refine lv_icmp_ne (tgt := 14) hx hb dX7_stride_9 (by decide) (fun c2 => ?_) (fun c2 => ?_)
    · replace h := ite_f c2 h
      refine lv_iload_n hx hb dX7_stride_14 rfl (lv_at hl 0 rfl) ?_
      refine lv_iconst (v := 2) hx hb dX7_stride_15 (by decide) ?_
      refine lv_icmp_ne (tgt := 24) hx hb dX7_stride_16 (by decide) (fun c3 => ?_) (fun c3 => ?_)
      · replace h := ite_f c3 h
        refine lv_iconst (v := (-1)) hx hb dX7_stride_24 (by decide) ?_
        exact hret _ _ _ _ dX7_stride_25 rfl h
      · replace h := ite_t c3 h
        refine lv_bipush (v := 9) hx hb dX7_stride_19 (by decide) ?_
        refine lv_goto (tgt := 25) hx hb dX7_stride_21 (by decide) ?_
        exact hret _ _ _ _ dX7_stride_25 rfl h
    · replace h := ite_t c2 h
      refine lv_iconst (v := 1) hx hb dX7_stride_12 (by decide) ?_
      exact hret _ _ _ _ dX7_stride_13 rfl h
  · replace h := ite_t c1 h
    refine lv_bipush (v := (-9)) hx hb dX7_stride_4 (by decide) ?_
    exact hret _ _ _ _ dX7_stride_6 rfl h

def fX7_nextCell (p0 : Int32) (p1 : Int32) : Int32 :=
  if (fX7_cellsAhead p0 p1) ≤ 0 then
    (-1)
  else
    (p0 + (fX7_stride p1))
set_option maxHeartbeats 4000000 in
set_option maxRecDepth 100000 in
theorem kX7_nextCell (l : Launch) (D : va_G) (T : Nat → ClassId) (p0 : Int32) (p1 : Int32) : RdI l yX7_nextCell cX7_nextCell 2 .int ({ frames := 1, cells := 0, slots := 0, locals := 23 } : Room) D T [] [.int p0, .int p1] (fX7_nextCell p0 p1) := by
  obtain ⟨r, h⟩ : ∃ r, fX7_nextCell p0 p1 = r := ⟨_, rfl⟩
  rw [h]
  unfold fX7_nextCell at h
  refine rdMet (by decide +kernel) rfl (fun p e s m args below meth c Q C hE hP hret ls hl => ?_)
  have hx := C.1
  have hb := C.2.1
  have hl : lv_has ls 2 [(0, .int p0), (1, .int p1)] := hl
  refine lv_iload_n hx hb dX7_nextCell_0 rfl (lv_at hl 0 rfl) ?_
  refine lv_iload_n hx hb dX7_nextCell_1 rfl (lv_at hl 1 rfl) ?_
  refine rdS C hE hP (kX7_cellsAhead l D T p0 p1) mX7_cellsAhead qLX7_446 [] rfl ⟨rfl, rfl⟩ ⟨Nat.le_of_ble_eq_true rfl, Nat.le_of_ble_eq_true rfl⟩ rfl hl.1 rfl (Nat.le_of_ble_eq_true rfl) dX7_nextCell_2 ⟨Nat.le_of_ble_eq_true rfl, Nat.le_of_ble_eq_true rfl⟩ ?_
  refine lv_if_le (tgt := 17) hx hb dX7_nextCell_5 (by decide) (fun c1 => ?_) (fun c1 => ?_)
  · replace h := ite_t c1 h
    refine lv_iconst (v := (-1)) hx hb dX7_nextCell_17 (by decide) ?_
    exact hret _ _ _ _ dX7_nextCell_18 rfl h
  · replace h := ite_f c1 h
    refine lv_iload_n hx hb dX7_nextCell_8 rfl (lv_at hl 0 rfl) ?_
    refine lv_iload_n hx hb dX7_nextCell_9 rfl (lv_at hl 1 rfl) ?_
    refine rdS C hE hP (kX7_stride l D T p1) mX7_stride qLX7_449 [] rfl ⟨rfl, rfl⟩ ⟨Nat.le_of_ble_eq_true rfl, Nat.le_of_ble_eq_true rfl⟩ rfl hl.1 rfl (Nat.le_of_ble_eq_true rfl) dX7_nextCell_10 ⟨Nat.le_of_ble_eq_true rfl, Nat.le_of_ble_eq_true rfl⟩ ?_
    refine lv_iadd hx hb dX7_nextCell_13 ?_
    refine lv_goto (tgt := 18) hx hb dX7_nextCell_14 (by decide) ?_
    exact hret _ _ _ _ dX7_nextCell_18 rfl h

def fX4_spreadFrom_60 (v_ro : Nat → Int32) (rec5 : Int32 → Int32 → Int32 → Int32 → (Nat → Int32) → Option (Int32 × (Nat → Int32))) (l1 : Int32) (l2 : Int32) (l3 : Int32) (l4 : Int32) (v_rs : Nat → Int32) : Option (Int32 × (Nat → Int32)) :=
  rec5 l1 l2 l3 (l4 + 1) v_rs
def fX4_spreadFrom_5 (v_ro : Nat → Int32) : Nat → Int32 → Int32 → Int32 → Int32 → (Nat → Int32) → Option (Int32 × (Nat → Int32))
  | 0, _, _, _, _, _ => none
  | k + 1, l1, l2, l3, l4, v_rs =>
    if 4 ≤ l4 then
      some ((l3 &&& 1), v_rs)
    else
      if (fX7_isCell (fX7_nextCell l1 l4)) = 0 then
        fX4_spreadFrom_60 v_ro (fX4_spreadFrom_5 v_ro k) l1 l2 l3 l4 v_rs
      else
        if vin (fX7_nextCell l1 l4) 45 = true then
        if (v_ro (fX7_nextCell l1 l4).toNatClampNeg) = 0 then
          fX4_spreadFrom_60 v_ro (fX4_spreadFrom_5 v_ro k) l1 l2 l3 l4 v_rs
        else
          if vin (fX7_nextCell l1 l4) 45 = true then
          if (v_rs (fX7_nextCell l1 l4).toNatClampNeg) = 1000 then
            if vin (fX7_nextCell l1 l4) 45 = true then
            fX4_spreadFrom_60 v_ro (fX4_spreadFrom_5 v_ro k) l1 l2 1 l4 (upd v_rs (fX7_nextCell l1 l4).toNatClampNeg l2)
            else none
          else
            fX4_spreadFrom_60 v_ro (fX4_spreadFrom_5 v_ro k) l1 l2 l3 l4 v_rs
          else none
        else none
def fX4_spreadFrom (v_rs : Nat → Int32) (v_ro : Nat → Int32) (p0 : Int32) (p1 : Int32) : Option (Int32 × (Nat → Int32)) :=
  fX4_spreadFrom_5 v_ro 64 p0 p1 0 0 v_rs
set_option maxHeartbeats 4000000 in
set_option maxRecDepth 100000 in
theorem lX4_spreadFrom_60 {p : Program} {l : Launch} {e : Env} {s : State} {m : MethodId} {args : Array Value} {below : List Frame} {meth : Method} {c : Code} {Q : State → Prop} {D : va_G} {T : Nat → ClassId} {a_r a_g a_rs a_rl a_ro : Nat} {v_ro : Nat → Int32} {A : Nat → Prop} {r : Int32 × (Nat → Int32)} (C : CallFix p m c cX4_spreadFrom 6 s args aw RX4) (hE : eK D T s) (hA : ∀ q : Nat, s.heap.size ≤ q → A q) (hret : WrRet p l e ({ frames := 2, cells := 0, slots := 0, locals := 44 } : Room) s m args below meth c Q cX4_spreadFrom .boolean D A [(a_r, .inr (4, [.ref a_g, .ref a_rs, .ref a_rl, .ref a_ro])), (a_rs, .inl (T 0, 45, .inl r.2)), (a_ro, .inl (T 1, 45, .inl v_ro))] r.1) {rec5 : Int32 → Int32 → Int32 → Int32 → (Nat → Int32) → Option (Int32 × (Nat → Int32))} (hrec5 : ∀ (l1 : Int32) (l2 : Int32) (l3 : Int32) (l4 : Int32) (v_rs : Nat → Int32) {H : Heap} {locs : List Loc} (hPD : va_PD D A [(a_r, .inr (4, [.ref a_g, .ref a_rs, .ref a_rl, .ref a_ro])), (a_rs, .inl (T 0, 45, .inl v_rs)), (a_ro, .inl (T 1, 45, .inl v_ro))] H) (hS : va_S A s.heap H locs) (ls : Array Slot) (hl : lv_has ls 6 [(0, .ref a_r), (1, .int l1), (2, .int l2), (3, .int l3), (4, .int l4)]) (h : rec5 l1 l2 l3 l4 v_rs = some r), W p l e ({ frames := 2, cells := 0, slots := 0, locals := 44 } : Room) s m args below meth c H locs 0 0 Q (F0 m 5 ls [])) (l1 : Int32) (l2 : Int32) (l3 : Int32) (l4 : Int32) (v_rs : Nat → Int32) {H : Heap} {locs : List Loc} (hPD : va_PD D A [(a_r, .inr (4, [.ref a_g, .ref a_rs, .ref a_rl, .ref a_ro])), (a_rs, .inl (T 0, 45, .inl v_rs)), (a_ro, .inl (T 1, 45, .inl v_ro))] H) (hS : va_S A s.heap H locs) (ls : Array Slot) (hl : lv_has ls 6 [(0, .ref a_r), (1, .int l1), (2, .int l2), (3, .int l3), (4, .int l4)]) (h : fX4_spreadFrom_60 v_ro rec5 l1 l2 l3 l4 v_rs = some r) : W p l e ({ frames := 2, cells := 0, slots := 0, locals := 44 } : Room) s m args below meth c H locs 0 0 Q (F0 m 60 ls []) := by
  have hx := C.1
  have hb := C.2.1
  obtain ⟨hP, hD⟩ := hPD
  unfold fX4_spreadFrom_60 at h
  refine lv_iinc (v := (l4 + 1)) (lv' := [(4, .int (l4 + 1)), (0, .ref a_r), (1, .int l1), (2, .int l2), (3, .int l3)]) hx hb dX4_spreadFrom_60 hl (k := 4) rfl rfl (by decide) rfl (fun ls hl => ?_)
  refine lv_goto (tgt := 5) hx hb dX4_spreadFrom_63 (by decide) ?_
  exact hrec5 l1 l2 l3 (l4 + 1) v_rs ⟨hP, hD⟩ hS _ (lv_sub hl [1, 2, 3, 4, 0] rfl) h
set_option maxHeartbeats 4000000 in
set_option maxRecDepth 100000 in
theorem lX4_spreadFrom_5 {p : Program} {l : Launch} {e : Env} {s : State} {m : MethodId} {args : Array Value} {below : List Frame} {meth : Method} {c : Code} {Q : State → Prop} {D : va_G} {T : Nat → ClassId} {a_r a_g a_rs a_rl a_ro : Nat} {v_ro : Nat → Int32} {A : Nat → Prop} {r : Int32 × (Nat → Int32)} (C : CallFix p m c cX4_spreadFrom 6 s args aw RX4) (hE : eK D T s) (hA : ∀ q : Nat, s.heap.size ≤ q → A q) (hret : WrRet p l e ({ frames := 2, cells := 0, slots := 0, locals := 44 } : Room) s m args below meth c Q cX4_spreadFrom .boolean D A [(a_r, .inr (4, [.ref a_g, .ref a_rs, .ref a_rl, .ref a_ro])), (a_rs, .inl (T 0, 45, .inl r.2)), (a_ro, .inl (T 1, 45, .inl v_ro))] r.1) : ∀ (k : Nat) (l1 : Int32) (l2 : Int32) (l3 : Int32) (l4 : Int32) (v_rs : Nat → Int32) {H : Heap} {locs : List Loc} (hPD : va_PD D A [(a_r, .inr (4, [.ref a_g, .ref a_rs, .ref a_rl, .ref a_ro])), (a_rs, .inl (T 0, 45, .inl v_rs)), (a_ro, .inl (T 1, 45, .inl v_ro))] H) (hS : va_S A s.heap H locs) (ls : Array Slot) (hl : lv_has ls 6 [(0, .ref a_r), (1, .int l1), (2, .int l2), (3, .int l3), (4, .int l4)]) (h : fX4_spreadFrom_5 v_ro k l1 l2 l3 l4 v_rs = some r), W p l e ({ frames := 2, cells := 0, slots := 0, locals := 44 } : Room) s m args below meth c H locs 0 0 Q (F0 m 5 ls []) := by
  have hx := C.1
  have hb := C.2.1
  intro k
  induction k with
  | zero =>
    intro l1 l2 l3 l4 v_rs H locs hPD hS ls hl h
    exact nomatch (show (none : Option (Int32 × (Nat → Int32))) = some r from h)
  | succ k ih =>
    intro l1 l2 l3 l4 v_rs H locs hPD hS ls hl h
    obtain ⟨hP, hD⟩ := hPD
    rw [fX4_spreadFrom_5] at h
    refine lv_iload hx hb dX4_spreadFrom_5 (lv_at hl 4 rfl) ?_
    refine lv_iconst (v := 4) hx hb dX4_spreadFrom_7 (by decide) ?_
    refine lv_icmp_ge (tgt := 66) hx hb dX4_spreadFrom_8 (by decide) (fun c1 => ?_) (fun c1 => ?_)
    · replace h := ite_t c1 h
      refine lv_iload_n hx hb dX4_spreadFrom_66 rfl (lv_at hl 3 rfl) ?_
      replace h := Option.some.inj h
      exact hret _ _ _ _ _ _ dX4_spreadFrom_67 rfl (by rw [← h] <;> rfl) (by rw [← h]; exact hP) hS
    · replace h := ite_f c1 h
      refine lv_iload_n hx hb dX4_spreadFrom_11 rfl (lv_at hl 1 rfl) ?_
      refine lv_iload hx hb dX4_spreadFrom_12 (lv_at hl 4 rfl) ?_
      refine rdSN C hE hP (kX7_nextCell l D T l1 l4) mX7_nextCell (by decide +kernel) [] rfl ⟨rfl, rfl⟩ ⟨Nat.le_of_ble_eq_true rfl, Nat.le_of_ble_eq_true rfl⟩ rfl hl.1 rfl (Nat.le_of_ble_eq_true rfl) dX4_spreadFrom_14 ⟨Nat.le_of_ble_eq_true rfl, Nat.le_of_ble_eq_true rfl⟩ ?_
      refine lv_istore (lv' := [(5, .int (fX7_nextCell l1 l4)), (0, .ref a_r), (1, .int l1), (2, .int l2), (3, .int l3), (4, .int l4)]) hx hb dX4_spreadFrom_17 hl (by decide) rfl (fun ls hl => ?_)
      refine lv_iload hx hb dX4_spreadFrom_19 (lv_at hl 0 rfl) ?_
      refine rdSN C hE hP (kX7_isCell l D T (fX7_nextCell l1 l4)) mX7_isCell (by decide +kernel) [] rfl ⟨rfl, rfl⟩ ⟨Nat.le_of_ble_eq_true rfl, Nat.le_of_ble_eq_true rfl⟩ rfl hl.1 rfl (Nat.le_of_ble_eq_true rfl) dX4_spreadFrom_21 ⟨Nat.le_of_ble_eq_true rfl, Nat.le_of_ble_eq_true rfl⟩ ?_
      refine lv_if_eq (tgt := 60) hx hb dX4_spreadFrom_24 (by decide) (fun c2 => ?_) (fun c2 => ?_)
      · replace h := ite_t c2 h
        exact lX4_spreadFrom_60 C hE hA hret ih l1 l2 l3 l4 v_rs ⟨hP, hD⟩ hS _ (lv_sub hl [1, 2, 3, 4, 5] rfl) h
      · replace h := ite_f c2 h
        refine lv_aload_n hx hb dX4_spreadFrom_27 rfl (lv_at hl 1 rfl) ?_
        refine getF (q0 := 0) (k0 := 3) (v := .ref a_ro) C hE hP inA4 rfl rfl (by decide) qFX4_18 rfl rfl dX4_spreadFrom_28 ?_
        refine lv_iload hx hb dX4_spreadFrom_31 (lv_at hl 0 rfl) ?_
        replace h := gd h; obtain ⟨g3, h⟩ := h
        refine aldZ (q0 := 2) C hE hP rfl g3 dX4_spreadFrom_33 ?_
        refine lv_if_eq (tgt := 60) hx hb dX4_spreadFrom_34 (by decide) (fun c4 => ?_) (fun c4 => ?_)
        · replace h := ite_t c4 h
          exact lX4_spreadFrom_60 C hE hA hret ih l1 l2 l3 l4 v_rs ⟨hP, hD⟩ hS _ (lv_sub hl [1, 2, 3, 4, 5] rfl) h
        · replace h := ite_f c4 h
          refine lv_aload_n hx hb dX4_spreadFrom_37 rfl (lv_at hl 1 rfl) ?_
          refine getF (q0 := 0) (k0 := 1) (v := .ref a_rs) C hE hP inA4 rfl rfl (by decide) qFX4_9 rfl rfl dX4_spreadFrom_38 ?_
          refine lv_iload hx hb dX4_spreadFrom_41 (lv_at hl 0 rfl) ?_
          replace h := gd h; obtain ⟨g5, h⟩ := h
          refine aldI (q0 := 1) C hE hP rfl g5 dX4_spreadFrom_43 ?_
          refine lv_sipush (v := 1000) hx hb dX4_spreadFrom_44 (by decide) ?_
          refine lv_icmp_ne (tgt := 60) hx hb dX4_spreadFrom_47 (by decide) (fun c6 => ?_) (fun c6 => ?_)
          · replace h := ite_f c6 h
            exact lX4_spreadFrom_60 C hE hA hret ih l1 l2 l3 l4 v_rs ⟨hP, hD⟩ hS _ (lv_sub hl [1, 2, 3, 4, 5] rfl) h
          · replace h := ite_t c6 h
            refine lv_aload_n hx hb dX4_spreadFrom_50 rfl (lv_at hl 1 rfl) ?_
            refine getF (q0 := 0) (k0 := 1) (v := .ref a_rs) C hE hP inA4 rfl rfl (by decide) qFX4_9 rfl rfl dX4_spreadFrom_51 ?_
            refine lv_iload hx hb dX4_spreadFrom_54 (lv_at hl 0 rfl) ?_
            refine lv_iload_n hx hb dX4_spreadFrom_56 rfl (lv_at hl 3 rfl) ?_
            replace h := gd h; obtain ⟨g7, h⟩ := h
            refine astI (q0 := 1) (ws1 := [(a_r, .inr (4, [.ref a_g, .ref a_rs, .ref a_rl, .ref a_ro])), (a_rs, .inl (T 0, 45, .inl (upd v_rs (fX7_nextCell l1 l4).toNatClampNeg l2))), (a_ro, .inl (T 1, 45, .inl v_ro))]) C hE hP hD hS rfl g7 rfl dX4_spreadFrom_57 ?_; clear hP hD hS; intro H locs hP hD hS
            refine lv_iconst (v := 1) hx hb dX4_spreadFrom_58 (by decide) ?_
            refine lv_istore_n (lv' := [(3, .int 1), (5, .int (fX7_nextCell l1 l4)), (0, .ref a_r), (1, .int l1), (2, .int l2), (4, .int l4)]) hx hb dX4_spreadFrom_59 rfl hl (by decide) rfl (fun ls hl => ?_)
            exact lX4_spreadFrom_60 C hE hA hret ih l1 l2 1 l4 (upd v_rs (fX7_nextCell l1 l4).toNatClampNeg l2) ⟨hP, hD⟩ hS _ (lv_sub hl [2, 3, 4, 0, 5] rfl) h
set_option maxHeartbeats 4000000 in
set_option maxRecDepth 100000 in
theorem kX4_spreadFrom (l : Launch) (D : va_G) (T : Nat → ClassId) (a_r a_g a_rs a_rl a_ro : Nat) (v_rs : Nat → Int32) (v_ro : Nat → Int32) (p0 : Int32) (p1 : Int32) (sz : Nat) (r : Int32 × (Nat → Int32)) (h : fX4_spreadFrom v_rs v_ro p0 p1 = some r) : WrI l yX4_spreadFrom cX4_spreadFrom 6 .boolean ({ frames := 2, cells := 0, slots := 0, locals := 44 } : Room) D T sz [(a_r, .inr (4, [.ref a_g, .ref a_rs, .ref a_rl, .ref a_ro])), (a_rs, .inl (T 0, 45, .inl v_rs)), (a_ro, .inl (T 1, 45, .inl v_ro))] [(a_r, .inr (4, [.ref a_g, .ref a_rs, .ref a_rl, .ref a_ro])), (a_rs, .inl (T 0, 45, .inl r.2)), (a_ro, .inl (T 1, 45, .inl v_ro))] [.ref a_r, .int p0, .int p1] r.1 := by
  unfold fX4_spreadFrom at h
  refine wrMet (by decide +kernel) rfl (fun p e s m args below meth c Q A C hE hA hP hD hS hret ls hl => ?_)
  have hx := C.1
  have hb := C.2.1
  have hl : lv_has ls 6 [(0, .ref a_r), (1, .int p0), (2, .int p1)] := hl
  refine lv_iconst (v := 0) hx hb dX4_spreadFrom_0 (by decide) ?_
  refine lv_istore_n (lv' := [(3, .int 0), (0, .ref a_r), (1, .int p0), (2, .int p1)]) hx hb dX4_spreadFrom_1 rfl hl (by decide) rfl (fun ls hl => ?_)
  refine lv_iconst (v := 0) hx hb dX4_spreadFrom_2 (by decide) ?_
  refine lv_istore (lv' := [(4, .int 0), (3, .int 0), (0, .ref a_r), (1, .int p0), (2, .int p1)]) hx hb dX4_spreadFrom_3 hl (by decide) rfl (fun ls hl => ?_)
  exact lX4_spreadFrom_5 C hE hA hret 64 p0 p1 0 0 v_rs ⟨hP, hD⟩ hS _ (lv_sub hl [2, 3, 4, 1, 0] rfl) h

def fX4_findBySpreading_63 (v_gw : Nat → Int32) (v_gk : Nat → Int32) (rec13 : Int32 → Int32 → (Nat → Int32) → (Nat → Int32) → Option ((Nat → Int32) × (Nat → Int32))) (rec28 : Int32 → Int32 → Int32 → (Nat → Int32) → (Nat → Int32) → Option ((Nat → Int32) × (Nat → Int32))) (l2 : Int32) (l3 : Int32) (l4 : Int32) (v_rs : Nat → Int32) (v_ro : Nat → Int32) : Option ((Nat → Int32) × (Nat → Int32)) :=
  rec28 l2 l3 (l4 + 1) v_rs v_ro
def fX4_findBySpreading_28 (v_gw : Nat → Int32) (v_gk : Nat → Int32) (rec13 : Int32 → Int32 → (Nat → Int32) → (Nat → Int32) → Option ((Nat → Int32) × (Nat → Int32))) : Nat → Int32 → Int32 → Int32 → (Nat → Int32) → (Nat → Int32) → Option ((Nat → Int32) × (Nat → Int32))
  | 0, _, _, _, _, _ => none
  | k + 1, l2, l3, l4, v_rs, v_ro =>
    if 45 ≤ l4 then
      rec13 l2 (l3 + 1) v_rs v_ro
    else
      if vin l4 45 = true then
      if (v_rs l4.toNatClampNeg) = l3 then
        (fX4_spreadFrom v_rs v_ro l4 (l3 + 1)).bind fun q8 =>
        fX4_findBySpreading_63 v_gw v_gk rec13 (fX4_findBySpreading_28 v_gw v_gk rec13 k) (if q8.1 = 0 then l2 else 1) l3 l4 q8.2 v_ro
      else
        fX4_findBySpreading_63 v_gw v_gk rec13 (fX4_findBySpreading_28 v_gw v_gk rec13 k) l2 l3 l4 v_rs v_ro
      else none
def fX4_findBySpreading_13 (v_gw : Nat → Int32) (v_gk : Nat → Int32) : Nat → Int32 → Int32 → (Nat → Int32) → (Nat → Int32) → Option ((Nat → Int32) × (Nat → Int32))
  | 0, _, _, _, _ => none
  | k + 1, l2, l3, v_rs, v_ro =>
    if 45 ≤ l3 then
      some (v_rs, v_ro)
    else
      if l2 = 0 then
        some (v_rs, v_ro)
      else
        fX4_findBySpreading_28 v_gw v_gk (fX4_findBySpreading_13 v_gw v_gk k) 64 0 l3 0 v_rs v_ro
def fX4_findBySpreading (v_gw : Nat → Int32) (v_gk : Nat → Int32) (v_rs : Nat → Int32) (v_ro : Nat → Int32) (p0 : Int32) : Option ((Nat → Int32) × (Nat → Int32)) :=
  (fX4_begin v_gw v_gk v_ro 45 v_rs p0).bind fun q1 =>
  fX4_findBySpreading_13 v_gw v_gk 64 1 0 q1.2 q1.1
set_option maxHeartbeats 4000000 in
set_option maxRecDepth 100000 in
theorem lX4_findBySpreading_63 {p : Program} {l : Launch} {e : Env} {s : State} {m : MethodId} {args : Array Value} {below : List Frame} {meth : Method} {c : Code} {Q : State → Prop} {D : va_G} {T : Nat → ClassId} {a_g a_gw a_gk a_r a_rs a_rl a_ro : Nat} {v_gw : Nat → Int32} {v_gk : Nat → Int32} {A : Nat → Prop} {r : (Nat → Int32) × (Nat → Int32)} (C : CallFix p m c cX4_findBySpreading 5 s args aw RX4) (hE : eK D T s) (hA : ∀ q : Nat, s.heap.size ≤ q → A q) (hret : WrRetV p l e ({ frames := 3, cells := 0, slots := 0, locals := 69 } : Room) s m args below meth c Q cX4_findBySpreading D A [(a_g, .inr (1, [.ref a_gw, .ref a_gk])), (a_r, .inr (4, [.ref a_g, .ref a_rs, .ref a_rl, .ref a_ro])), (a_gw, .inl (T 0, 90, .inl v_gw)), (a_gk, .inl (T 0, 18, .inl v_gk)), (a_rs, .inl (T 0, 45, .inl r.1)), (a_ro, .inl (T 1, 45, .inl r.2))]) {rec13 : Int32 → Int32 → (Nat → Int32) → (Nat → Int32) → Option ((Nat → Int32) × (Nat → Int32))} (hrec13 : ∀ (l2 : Int32) (l3 : Int32) (v_rs : Nat → Int32) (v_ro : Nat → Int32) {H : Heap} {locs : List Loc} (hPD : va_PD D A [(a_g, .inr (1, [.ref a_gw, .ref a_gk])), (a_r, .inr (4, [.ref a_g, .ref a_rs, .ref a_rl, .ref a_ro])), (a_gw, .inl (T 0, 90, .inl v_gw)), (a_gk, .inl (T 0, 18, .inl v_gk)), (a_rs, .inl (T 0, 45, .inl v_rs)), (a_ro, .inl (T 1, 45, .inl v_ro))] H) (hS : va_S A s.heap H locs) (ls : Array Slot) (hl : lv_has ls 5 [(0, .ref a_r), (2, .int l2), (3, .int l3)]) (h : rec13 l2 l3 v_rs v_ro = some r), W p l e ({ frames := 3, cells := 0, slots := 0, locals := 69 } : Room) s m args below meth c H locs 0 0 Q (F0 m 13 ls [])) {rec28 : Int32 → Int32 → Int32 → (Nat → Int32) → (Nat → Int32) → Option ((Nat → Int32) × (Nat → Int32))} (hrec28 : ∀ (l2 : Int32) (l3 : Int32) (l4 : Int32) (v_rs : Nat → Int32) (v_ro : Nat → Int32) {H : Heap} {locs : List Loc} (hPD : va_PD D A [(a_g, .inr (1, [.ref a_gw, .ref a_gk])), (a_r, .inr (4, [.ref a_g, .ref a_rs, .ref a_rl, .ref a_ro])), (a_gw, .inl (T 0, 90, .inl v_gw)), (a_gk, .inl (T 0, 18, .inl v_gk)), (a_rs, .inl (T 0, 45, .inl v_rs)), (a_ro, .inl (T 1, 45, .inl v_ro))] H) (hS : va_S A s.heap H locs) (ls : Array Slot) (hl : lv_has ls 5 [(0, .ref a_r), (2, .int l2), (3, .int l3), (4, .int l4)]) (h : rec28 l2 l3 l4 v_rs v_ro = some r), W p l e ({ frames := 3, cells := 0, slots := 0, locals := 69 } : Room) s m args below meth c H locs 0 0 Q (F0 m 28 ls [])) (l2 : Int32) (l3 : Int32) (l4 : Int32) (v_rs : Nat → Int32) (v_ro : Nat → Int32) {H : Heap} {locs : List Loc} (hPD : va_PD D A [(a_g, .inr (1, [.ref a_gw, .ref a_gk])), (a_r, .inr (4, [.ref a_g, .ref a_rs, .ref a_rl, .ref a_ro])), (a_gw, .inl (T 0, 90, .inl v_gw)), (a_gk, .inl (T 0, 18, .inl v_gk)), (a_rs, .inl (T 0, 45, .inl v_rs)), (a_ro, .inl (T 1, 45, .inl v_ro))] H) (hS : va_S A s.heap H locs) (ls : Array Slot) (hl : lv_has ls 5 [(0, .ref a_r), (2, .int l2), (3, .int l3), (4, .int l4)]) (h : fX4_findBySpreading_63 v_gw v_gk rec13 rec28 l2 l3 l4 v_rs v_ro = some r) : W p l e ({ frames := 3, cells := 0, slots := 0, locals := 69 } : Room) s m args below meth c H locs 0 0 Q (F0 m 63 ls []) := by
  have hx := C.1
  have hb := C.2.1
  obtain ⟨hP, hD⟩ := hPD
  unfold fX4_findBySpreading_63 at h
  refine lv_iinc (v := (l4 + 1)) (lv' := [(4, .int (l4 + 1)), (0, .ref a_r), (2, .int l2), (3, .int l3)]) hx hb dX4_findBySpreading_63 hl (k := 3) rfl rfl (by decide) rfl (fun ls hl => ?_)
  refine lv_goto (tgt := 28) hx hb dX4_findBySpreading_66 (by decide) ?_
  exact hrec28 l2 l3 (l4 + 1) v_rs v_ro ⟨hP, hD⟩ hS _ (lv_sub hl [1, 2, 3, 0] rfl) h
set_option maxHeartbeats 4000000 in
set_option maxRecDepth 100000 in
theorem lX4_findBySpreading_28 {p : Program} {l : Launch} {e : Env} {s : State} {m : MethodId} {args : Array Value} {below : List Frame} {meth : Method} {c : Code} {Q : State → Prop} {D : va_G} {T : Nat → ClassId} {a_g a_gw a_gk a_r a_rs a_rl a_ro : Nat} {v_gw : Nat → Int32} {v_gk : Nat → Int32} {A : Nat → Prop} {r : (Nat → Int32) × (Nat → Int32)} (C : CallFix p m c cX4_findBySpreading 5 s args aw RX4) (hE : eK D T s) (hA : ∀ q : Nat, s.heap.size ≤ q → A q) (hret : WrRetV p l e ({ frames := 3, cells := 0, slots := 0, locals := 69 } : Room) s m args below meth c Q cX4_findBySpreading D A [(a_g, .inr (1, [.ref a_gw, .ref a_gk])), (a_r, .inr (4, [.ref a_g, .ref a_rs, .ref a_rl, .ref a_ro])), (a_gw, .inl (T 0, 90, .inl v_gw)), (a_gk, .inl (T 0, 18, .inl v_gk)), (a_rs, .inl (T 0, 45, .inl r.1)), (a_ro, .inl (T 1, 45, .inl r.2))]) {rec13 : Int32 → Int32 → (Nat → Int32) → (Nat → Int32) → Option ((Nat → Int32) × (Nat → Int32))} (hrec13 : ∀ (l2 : Int32) (l3 : Int32) (v_rs : Nat → Int32) (v_ro : Nat → Int32) {H : Heap} {locs : List Loc} (hPD : va_PD D A [(a_g, .inr (1, [.ref a_gw, .ref a_gk])), (a_r, .inr (4, [.ref a_g, .ref a_rs, .ref a_rl, .ref a_ro])), (a_gw, .inl (T 0, 90, .inl v_gw)), (a_gk, .inl (T 0, 18, .inl v_gk)), (a_rs, .inl (T 0, 45, .inl v_rs)), (a_ro, .inl (T 1, 45, .inl v_ro))] H) (hS : va_S A s.heap H locs) (ls : Array Slot) (hl : lv_has ls 5 [(0, .ref a_r), (2, .int l2), (3, .int l3)]) (h : rec13 l2 l3 v_rs v_ro = some r), W p l e ({ frames := 3, cells := 0, slots := 0, locals := 69 } : Room) s m args below meth c H locs 0 0 Q (F0 m 13 ls [])) : ∀ (k : Nat) (l2 : Int32) (l3 : Int32) (l4 : Int32) (v_rs : Nat → Int32) (v_ro : Nat → Int32) {H : Heap} {locs : List Loc} (hPD : va_PD D A [(a_g, .inr (1, [.ref a_gw, .ref a_gk])), (a_r, .inr (4, [.ref a_g, .ref a_rs, .ref a_rl, .ref a_ro])), (a_gw, .inl (T 0, 90, .inl v_gw)), (a_gk, .inl (T 0, 18, .inl v_gk)), (a_rs, .inl (T 0, 45, .inl v_rs)), (a_ro, .inl (T 1, 45, .inl v_ro))] H) (hS : va_S A s.heap H locs) (ls : Array Slot) (hl : lv_has ls 5 [(0, .ref a_r), (2, .int l2), (3, .int l3), (4, .int l4)]) (h : fX4_findBySpreading_28 v_gw v_gk rec13 k l2 l3 l4 v_rs v_ro = some r), W p l e ({ frames := 3, cells := 0, slots := 0, locals := 69 } : Room) s m args below meth c H locs 0 0 Q (F0 m 28 ls []) := by
  have hx := C.1
  have hb := C.2.1
  intro k
  induction k with
  | zero =>
    intro l2 l3 l4 v_rs v_ro H locs hPD hS ls hl h
    exact nomatch (show (none : Option ((Nat → Int32) × (Nat → Int32))) = some r from h)
  | succ k ih =>
    intro l2 l3 l4 v_rs v_ro H locs hPD hS ls hl h
    obtain ⟨hP, hD⟩ := hPD
    rw [fX4_findBySpreading_28] at h
    refine lv_iload hx hb dX4_findBySpreading_28 (lv_at hl 3 rfl) ?_
    refine lv_aload_n hx hb dX4_findBySpreading_30 rfl (lv_at hl 0 rfl) ?_
    refine getF (q0 := 1) (k0 := 1) (v := .ref a_rs) C hE hP inA4 rfl rfl (by decide) qFX4_9 rfl rfl dX4_findBySpreading_31 ?_
    refine alen (q0 := 4) (t0 := 0) (v := 45) C hE hP rfl rfl (by decide) dX4_findBySpreading_34 ?_
    refine lv_icmp_ge (tgt := 69) hx hb dX4_findBySpreading_35 (by decide) (fun c5 => ?_) (fun c5 => ?_)
    · replace h := ite_t c5 h
      refine lv_iinc (v := (l3 + 1)) (lv' := [(3, .int (l3 + 1)), (0, .ref a_r), (2, .int l2), (4, .int l4)]) hx hb dX4_findBySpreading_69 hl (k := 2) rfl rfl (by decide) rfl (fun ls hl => ?_)
      refine lv_goto (tgt := 13) hx hb dX4_findBySpreading_72 (by decide) ?_
      exact hrec13 l2 (l3 + 1) v_rs v_ro ⟨hP, hD⟩ hS _ (lv_sub hl [1, 2, 0] rfl) h
    · replace h := ite_f c5 h
      refine lv_aload_n hx hb dX4_findBySpreading_38 rfl (lv_at hl 0 rfl) ?_
      refine getF (q0 := 1) (k0 := 1) (v := .ref a_rs) C hE hP inA4 rfl rfl (by decide) qFX4_9 rfl rfl dX4_findBySpreading_39 ?_
      refine lv_iload hx hb dX4_findBySpreading_42 (lv_at hl 3 rfl) ?_
      replace h := gd h; obtain ⟨g6, h⟩ := h
      refine aldI (q0 := 4) C hE hP rfl g6 dX4_findBySpreading_44 ?_
      refine lv_iload_n hx hb dX4_findBySpreading_45 rfl (lv_at hl 2 rfl) ?_
      refine lv_icmp_ne (tgt := 63) hx hb dX4_findBySpreading_46 (by decide) (fun c7 => ?_) (fun c7 => ?_)
      · replace h := ite_f c7 h
        exact lX4_findBySpreading_63 C hE hA hret hrec13 ih l2 l3 l4 v_rs v_ro ⟨hP, hD⟩ hS _ (lv_sub hl [0, 1, 2, 3] rfl) h
      · replace h := ite_t c7 h
        refine lv_aload_n hx hb dX4_findBySpreading_49 rfl (lv_at hl 0 rfl) ?_
        refine lv_iload hx hb dX4_findBySpreading_50 (lv_at hl 3 rfl) ?_
        refine lv_iload_n hx hb dX4_findBySpreading_52 rfl (lv_at hl 2 rfl) ?_
        refine lv_iconst (v := 1) hx hb dX4_findBySpreading_53 (by decide) ?_
        refine lv_iadd hx hb dX4_findBySpreading_54 ?_
        replace h := bnd h; obtain ⟨q8, e9, h⟩ := h
        refine wrVi (ws1 := [(a_g, .inr (1, [.ref a_gw, .ref a_gk])), (a_r, .inr (4, [.ref a_g, .ref a_rs, .ref a_rl, .ref a_ro])), (a_gw, .inl (T 0, 90, .inl v_gw)), (a_gk, .inl (T 0, 18, .inl v_gk)), (a_rs, .inl (T 0, 45, .inl q8.2)), (a_ro, .inl (T 1, 45, .inl v_ro))]) C hE hP hD hS hA (kX4_spreadFrom l D T a_r a_g a_rs a_rl a_ro v_rs v_ro l4 (l3 + 1) _ q8 e9) mX4_spreadFrom qLX4_41 [1, 4, 5] [0, 2, 3] 1 rfl rfl rfl rfl rfl rfl rfl rfl rfl ⟨rfl, rfl⟩ ⟨Nat.le_of_ble_eq_true rfl, Nat.le_of_ble_eq_true rfl⟩ rfl hl.1 rfl (Nat.le_of_ble_eq_true rfl) dX4_findBySpreading_55 ⟨Nat.le_of_ble_eq_true rfl, Nat.le_of_ble_eq_true rfl⟩ ?_; clear hP hD hS; intro H locs hP hD hS
        refine lv_if_eq (tgt := 63) hx hb dX4_findBySpreading_58 (by decide) (fun c10 => ?_) (fun c10 => ?_)
        · rw [if_pos c10] at h
          exact lX4_findBySpreading_63 C hE hA hret hrec13 ih l2 l3 l4 q8.2 v_ro ⟨hP, hD⟩ hS _ (lv_sub hl [0, 1, 2, 3] rfl) h
        · rw [if_neg c10] at h
          refine lv_iconst (v := 1) hx hb dX4_findBySpreading_61 (by decide) ?_
          refine lv_istore_n (lv' := [(2, .int 1), (0, .ref a_r), (3, .int l3), (4, .int l4)]) hx hb dX4_findBySpreading_62 rfl hl (by decide) rfl (fun ls hl => ?_)
          exact lX4_findBySpreading_63 C hE hA hret hrec13 ih 1 l3 l4 q8.2 v_ro ⟨hP, hD⟩ hS _ (lv_sub hl [1, 0, 2, 3] rfl) h
set_option maxHeartbeats 4000000 in
set_option maxRecDepth 100000 in
theorem lX4_findBySpreading_13 {p : Program} {l : Launch} {e : Env} {s : State} {m : MethodId} {args : Array Value} {below : List Frame} {meth : Method} {c : Code} {Q : State → Prop} {D : va_G} {T : Nat → ClassId} {a_g a_gw a_gk a_r a_rs a_rl a_ro : Nat} {v_gw : Nat → Int32} {v_gk : Nat → Int32} {A : Nat → Prop} {r : (Nat → Int32) × (Nat → Int32)} (C : CallFix p m c cX4_findBySpreading 5 s args aw RX4) (hE : eK D T s) (hA : ∀ q : Nat, s.heap.size ≤ q → A q) (hret : WrRetV p l e ({ frames := 3, cells := 0, slots := 0, locals := 69 } : Room) s m args below meth c Q cX4_findBySpreading D A [(a_g, .inr (1, [.ref a_gw, .ref a_gk])), (a_r, .inr (4, [.ref a_g, .ref a_rs, .ref a_rl, .ref a_ro])), (a_gw, .inl (T 0, 90, .inl v_gw)), (a_gk, .inl (T 0, 18, .inl v_gk)), (a_rs, .inl (T 0, 45, .inl r.1)), (a_ro, .inl (T 1, 45, .inl r.2))]) : ∀ (k : Nat) (l2 : Int32) (l3 : Int32) (v_rs : Nat → Int32) (v_ro : Nat → Int32) {H : Heap} {locs : List Loc} (hPD : va_PD D A [(a_g, .inr (1, [.ref a_gw, .ref a_gk])), (a_r, .inr (4, [.ref a_g, .ref a_rs, .ref a_rl, .ref a_ro])), (a_gw, .inl (T 0, 90, .inl v_gw)), (a_gk, .inl (T 0, 18, .inl v_gk)), (a_rs, .inl (T 0, 45, .inl v_rs)), (a_ro, .inl (T 1, 45, .inl v_ro))] H) (hS : va_S A s.heap H locs) (ls : Array Slot) (hl : lv_has ls 5 [(0, .ref a_r), (2, .int l2), (3, .int l3)]) (h : fX4_findBySpreading_13 v_gw v_gk k l2 l3 v_rs v_ro = some r), W p l e ({ frames := 3, cells := 0, slots := 0, locals := 69 } : Room) s m args below meth c H locs 0 0 Q (F0 m 13 ls []) := by
  have hx := C.1
  have hb := C.2.1
  intro k
  induction k with
  | zero =>
    intro l2 l3 v_rs v_ro H locs hPD hS ls hl h
    exact nomatch (show (none : Option ((Nat → Int32) × (Nat → Int32))) = some r from h)
  | succ k ih =>
    intro l2 l3 v_rs v_ro H locs hPD hS ls hl h
    obtain ⟨hP, hD⟩ := hPD
    rw [fX4_findBySpreading_13] at h
    refine lv_iload_n hx hb dX4_findBySpreading_13 rfl (lv_at hl 2 rfl) ?_
    refine lv_bipush (v := 45) hx hb dX4_findBySpreading_14 (by decide) ?_
    refine lv_icmp_ge (tgt := 75) hx hb dX4_findBySpreading_16 (by decide) (fun c3 => ?_) (fun c3 => ?_)
    · replace h := ite_t c3 h
      replace h := Option.some.inj h
      exact hret _ _ _ _ dX4_findBySpreading_75 (by rw [← h]; exact hP) hS
    · replace h := ite_f c3 h
      refine lv_iload_n hx hb dX4_findBySpreading_19 rfl (lv_at hl 1 rfl) ?_
      refine lv_if_eq (tgt := 75) hx hb dX4_findBySpreading_20 (by decide) (fun c4 => ?_) (fun c4 => ?_)
      · replace h := ite_t c4 h
        replace h := Option.some.inj h
        exact hret _ _ _ _ dX4_findBySpreading_75 (by rw [← h]; exact hP) hS
      · replace h := ite_f c4 h
        refine lv_iconst (v := 0) hx hb dX4_findBySpreading_23 (by decide) ?_
        refine lv_istore_n (lv' := [(2, .int 0), (0, .ref a_r), (3, .int l3)]) hx hb dX4_findBySpreading_24 rfl hl (by decide) rfl (fun ls hl => ?_)
        refine lv_iconst (v := 0) hx hb dX4_findBySpreading_25 (by decide) ?_
        refine lv_istore (lv' := [(4, .int 0), (2, .int 0), (0, .ref a_r), (3, .int l3)]) hx hb dX4_findBySpreading_26 hl (by decide) rfl (fun ls hl => ?_)
        exact lX4_findBySpreading_28 C hE hA hret ih 64 0 l3 0 v_rs v_ro ⟨hP, hD⟩ hS _ (lv_sub hl [2, 1, 3, 0] rfl) h
set_option maxHeartbeats 4000000 in
set_option maxRecDepth 100000 in
theorem kX4_findBySpreading (l : Launch) (D : va_G) (T : Nat → ClassId) (a_g a_gw a_gk a_r a_rs a_rl a_ro : Nat) (v_gw : Nat → Int32) (v_gk : Nat → Int32) (v_rs : Nat → Int32) (v_ro : Nat → Int32) (p0 : Int32) (sz : Nat) (r : (Nat → Int32) × (Nat → Int32)) (h : fX4_findBySpreading v_gw v_gk v_rs v_ro p0 = some r) : WrV l yX4_findBySpreading cX4_findBySpreading 5 ({ frames := 3, cells := 0, slots := 0, locals := 69 } : Room) D T sz [(a_g, .inr (1, [.ref a_gw, .ref a_gk])), (a_r, .inr (4, [.ref a_g, .ref a_rs, .ref a_rl, .ref a_ro])), (a_gw, .inl (T 0, 90, .inl v_gw)), (a_gk, .inl (T 0, 18, .inl v_gk)), (a_rs, .inl (T 0, 45, .inl v_rs)), (a_ro, .inl (T 1, 45, .inl v_ro))] [(a_g, .inr (1, [.ref a_gw, .ref a_gk])), (a_r, .inr (4, [.ref a_g, .ref a_rs, .ref a_rl, .ref a_ro])), (a_gw, .inl (T 0, 90, .inl v_gw)), (a_gk, .inl (T 0, 18, .inl v_gk)), (a_rs, .inl (T 0, 45, .inl r.1)), (a_ro, .inl (T 1, 45, .inl r.2))] [.ref a_r, .int p0] := by
  unfold fX4_findBySpreading at h
  refine wrMetV (by decide +kernel) rfl (fun p e s m args below meth c Q A C hE hA hP hD hS hret ls hl => ?_)
  have hx := C.1
  have hb := C.2.1
  have hl : lv_has ls 5 [(0, .ref a_r), (1, .int p0)] := hl
  refine lv_aload_n hx hb dX4_findBySpreading_0 rfl (lv_at hl 0 rfl) ?_
  refine lv_aload_n hx hb dX4_findBySpreading_1 rfl (lv_at hl 0 rfl) ?_
  refine getF (q0 := 1) (k0 := 1) (v := .ref a_rs) C hE hP inA4 rfl rfl (by decide) qFX4_9 rfl rfl dX4_findBySpreading_2 ?_
  refine lv_iload_n hx hb dX4_findBySpreading_5 rfl (lv_at hl 1 rfl) ?_
  replace h := bnd h; obtain ⟨q1, e2, h⟩ := h
  refine wrVv (ws1 := [(a_g, .inr (1, [.ref a_gw, .ref a_gk])), (a_r, .inr (4, [.ref a_g, .ref a_rs, .ref a_rl, .ref a_ro])), (a_gw, .inl (T 0, 90, .inl v_gw)), (a_gk, .inl (T 0, 18, .inl v_gk)), (a_rs, .inl (T 0, 45, .inl q1.2)), (a_ro, .inl (T 1, 45, .inl q1.1))]) C hE hP hD hS hA (kX4_begin l D T a_g a_gw a_gk a_r a_rs a_rl a_ro a_rs v_gw v_gk v_ro 45 v_rs p0 _ q1 e2) mX4_begin qLX4_37 [0, 1, 2, 3, 5, 4] [] 1 rfl rfl rfl rfl rfl rfl rfl rfl rfl ⟨rfl, rfl⟩ ⟨Nat.le_of_ble_eq_true rfl, Nat.le_of_ble_eq_true rfl⟩ rfl hl.1 rfl (Nat.le_of_ble_eq_true rfl) dX4_findBySpreading_6 ⟨Nat.le_of_ble_eq_true rfl, Nat.le_of_ble_eq_true rfl⟩ ?_; clear hP hD hS; intro H locs hP hD hS
  refine lv_iconst (v := 1) hx hb dX4_findBySpreading_9 (by decide) ?_
  refine lv_istore_n (lv' := [(2, .int 1), (0, .ref a_r), (1, .int p0)]) hx hb dX4_findBySpreading_10 rfl hl (by decide) rfl (fun ls hl => ?_)
  refine lv_iconst (v := 0) hx hb dX4_findBySpreading_11 (by decide) ?_
  refine lv_istore_n (lv' := [(3, .int 0), (2, .int 1), (0, .ref a_r), (1, .int p0)]) hx hb dX4_findBySpreading_12 rfl hl (by decide) rfl (fun ls hl => ?_)
  exact lX4_findBySpreading_13 C hE hA hret 64 1 0 q1.2 q1.1 ⟨hP, hD⟩ hS _ (lv_sub hl [2, 1, 0] rfl) h

def fX4_spreadTo (v_rs : Nat → Int32) (p0 : Int32) : Option Int32 :=
  if (fX7_isCell p0) = 0 then
    some (-1)
  else
    if vin p0 45 = true then
    if 1000 ≤ (v_rs p0.toNatClampNeg) then
      some (-1)
    else
      if vin p0 45 = true then
      some (v_rs p0.toNatClampNeg)
      else none
    else none
set_option maxHeartbeats 4000000 in
set_option maxRecDepth 100000 in
theorem kX4_spreadTo (l : Launch) (D : va_G) (T : Nat → ClassId) (a_r a_g a_rs a_rl a_ro : Nat) (v_rs : Nat → Int32) (p0 : Int32) (r : Int32) (h : fX4_spreadTo v_rs p0 = some r) : RdI l yX4_spreadTo cX4_spreadTo 2 .int ({ frames := 1, cells := 0, slots := 0, locals := 20 } : Room) D T [(a_r, .inr (4, [.ref a_g, .ref a_rs, .ref a_rl, .ref a_ro])), (a_rs, .inl (T 0, 45, .inl v_rs))] [.ref a_r, .int p0] r := by
  unfold fX4_spreadTo at h
  refine rdMet (by decide +kernel) rfl (fun p e s m args below meth c Q C hE hP hret ls hl => ?_)
  have hx := C.1
  have hb := C.2.1
  have hl : lv_has ls 2 [(0, .ref a_r), (1, .int p0)] := hl
  refine lv_iload_n hx hb dX4_spreadTo_0 rfl (lv_at hl 1 rfl) ?_
  refine rdSN C hE hP (kX7_isCell l D T p0) mX7_isCell (by decide +kernel) [] rfl ⟨rfl, rfl⟩ ⟨Nat.le_of_ble_eq_true rfl, Nat.le_of_ble_eq_true rfl⟩ rfl hl.1 rfl (Nat.le_of_ble_eq_true rfl) dX4_spreadTo_1 ⟨Nat.le_of_ble_eq_true rfl, Nat.le_of_ble_eq_true rfl⟩ ?_
  refine lv_if_eq (tgt := 28) hx hb dX4_spreadTo_4 (by decide) (fun c1 => ?_) (fun c1 => ?_)
  · replace h := ite_t c1 h
    refine lv_iconst (v := (-1)) hx hb dX4_spreadTo_28 (by decide) ?_
    exact hret _ _ _ _ dX4_spreadTo_29 rfl (Option.some.inj h)
  · replace h := ite_f c1 h
    refine lv_aload_n hx hb dX4_spreadTo_7 rfl (lv_at hl 0 rfl) ?_
    refine getF (q0 := 0) (k0 := 1) (v := .ref a_rs) C hE hP inA4 rfl rfl (by decide) qFX4_9 rfl rfl dX4_spreadTo_8 ?_
    refine lv_iload_n hx hb dX4_spreadTo_11 rfl (lv_at hl 1 rfl) ?_
    replace h := gd h; obtain ⟨g2, h⟩ := h
    refine aldI (q0 := 1) C hE hP rfl g2 dX4_spreadTo_12 ?_
    refine lv_sipush (v := 1000) hx hb dX4_spreadTo_13 (by decide) ?_
    refine lv_icmp_ge (tgt := 28) hx hb dX4_spreadTo_16 (by decide) (fun c3 => ?_) (fun c3 => ?_)
    · replace h := ite_t c3 h
      refine lv_iconst (v := (-1)) hx hb dX4_spreadTo_28 (by decide) ?_
      exact hret _ _ _ _ dX4_spreadTo_29 rfl (Option.some.inj h)
    · replace h := ite_f c3 h
      refine lv_aload_n hx hb dX4_spreadTo_19 rfl (lv_at hl 0 rfl) ?_
      refine getF (q0 := 0) (k0 := 1) (v := .ref a_rs) C hE hP inA4 rfl rfl (by decide) qFX4_9 rfl rfl dX4_spreadTo_20 ?_
      refine lv_iload_n hx hb dX4_spreadTo_23 rfl (lv_at hl 1 rfl) ?_
      replace h := gd h; obtain ⟨g4, h⟩ := h
      refine aldI (q0 := 1) C hE hP rfl g4 dX4_spreadTo_24 ?_
      refine lv_goto (tgt := 29) hx hb dX4_spreadTo_25 (by decide) ?_
      exact hret _ _ _ _ dX4_spreadTo_29 rfl (Option.some.inj h)

def fX6_breathFault (u_det : Int32) (v_gw : Nat → Int32) (p0 : Int32) (p1 : Int32) : Option (Int32 × Int32) :=
  (fX1_of v_gw p0 3).bind fun q1 =>
  if p1 ≤ q1 then
    some (0, u_det)
  else
    (fX6_refuse u_det 6 q1).bind fun q4 =>
    some (q4.1, q4.2)
set_option maxHeartbeats 4000000 in
set_option maxRecDepth 100000 in
theorem kX6_breathFault (l : Launch) (D : va_G) (T : Nat → ClassId) (a_g a_gw a_gk a_u a_r : Nat) (u_det : Int32) (v_gw : Nat → Int32) (p0 : Int32) (p1 : Int32) (sz : Nat) (r : Int32 × Int32) (h : fX6_breathFault u_det v_gw p0 p1 = some r) : WrI l yX6_breathFault cX6_breathFault 4 .int ({ frames := 1, cells := 0, slots := 0, locals := 23 } : Room) D T sz [(a_g, .inr (1, [.ref a_gw, .ref a_gk])), (a_u, .inr (6, [.ref a_g, .ref a_r, .int u_det])), (a_gw, .inl (T 0, 90, .inl v_gw))] [(a_g, .inr (1, [.ref a_gw, .ref a_gk])), (a_u, .inr (6, [.ref a_g, .ref a_r, .int r.2])), (a_gw, .inl (T 0, 90, .inl v_gw))] [.ref a_u, .int p0, .int p1] r.1 := by
  unfold fX6_breathFault at h
  refine wrMet (by decide +kernel) rfl (fun p e s m args below meth c Q A C hE hA hP hD hS hret ls hl => ?_)
  have hx := C.1
  have hb := C.2.1
  have hl : lv_has ls 4 [(0, .ref a_u), (1, .int p0), (2, .int p1)] := hl
  refine lv_aload_n hx hb dX6_breathFault_0 rfl (lv_at hl 0 rfl) ?_
  refine getF (q0 := 1) (k0 := 0) (v := .ref a_g) C hE hP inA6 rfl rfl (by decide) qFX6_15 rfl rfl dX6_breathFault_1 ?_
  refine lv_iload_n hx hb dX6_breathFault_4 rfl (lv_at hl 1 rfl) ?_
  refine lv_iconst (v := 3) hx hb dX6_breathFault_5 (by decide) ?_
  replace h := bnd h; obtain ⟨q1, e2, h⟩ := h
  refine rdV C hE hP (kX1_of l D T a_g a_gw a_gk v_gw p0 3 q1 e2) mX1_of qLX6_62 [0, 2] 0 rfl rfl rfl rfl ⟨rfl, rfl⟩ ⟨Nat.le_of_ble_eq_true rfl, Nat.le_of_ble_eq_true rfl⟩ rfl hl.1 rfl (Nat.le_of_ble_eq_true rfl) dX6_breathFault_6 ⟨Nat.le_of_ble_eq_true rfl, Nat.le_of_ble_eq_true rfl⟩ ?_
  refine lv_istore_n (lv' := [(3, .int q1), (0, .ref a_u), (1, .int p0), (2, .int p1)]) hx hb dX6_breathFault_9 rfl hl (by decide) rfl (fun ls hl => ?_)
  refine lv_iload_n hx hb dX6_breathFault_10 rfl (lv_at hl 0 rfl) ?_
  refine lv_iload_n hx hb dX6_breathFault_11 rfl (lv_at hl 3 rfl) ?_
  refine lv_icmp_ge (tgt := 25) hx hb dX6_breathFault_12 (by decide) (fun c3 => ?_) (fun c3 => ?_)
  · replace h := ite_t c3 h
    refine lv_iconst (v := 0) hx hb dX6_breathFault_25 (by decide) ?_
    replace h := Option.some.inj h
    exact hret _ _ _ _ _ _ dX6_breathFault_26 rfl (by rw [← h] <;> rfl) (by rw [← h]; exact hP) hS
  · replace h := ite_f c3 h
    refine lv_aload_n hx hb dX6_breathFault_15 rfl (lv_at hl 1 rfl) ?_
    refine lv_bipush (v := 6) hx hb dX6_breathFault_16 (by decide) ?_
    refine lv_iload_n hx hb dX6_breathFault_18 rfl (lv_at hl 0 rfl) ?_
    replace h := bnd h; obtain ⟨q4, e5, h⟩ := h
    refine wrVi (ws1 := [(a_g, .inr (1, [.ref a_gw, .ref a_gk])), (a_u, .inr (6, [.ref a_g, .ref a_r, .int q4.2])), (a_gw, .inl (T 0, 90, .inl v_gw))]) C hE hP hD hS hA (kX6_refuse l D T a_u a_g a_r u_det 6 q1 _ q4 e5) mX6_refuse qLX6_33 [1] [0, 2] 1 rfl rfl rfl rfl rfl rfl rfl rfl rfl ⟨rfl, rfl⟩ ⟨Nat.le_of_ble_eq_true rfl, Nat.le_of_ble_eq_true rfl⟩ rfl hl.1 rfl (Nat.le_of_ble_eq_true rfl) dX6_breathFault_19 ⟨Nat.le_of_ble_eq_true rfl, Nat.le_of_ble_eq_true rfl⟩ ?_; clear hP hD hS; intro H locs hP hD hS
    refine lv_goto (tgt := 26) hx hb dX6_breathFault_22 (by decide) ?_
    replace h := Option.some.inj h
    exact hret _ _ _ _ _ _ dX6_breathFault_26 rfl (by rw [← h] <;> rfl) (by rw [← h]; exact hP) hS

def fX6_moveFault_113 (v_gw : Nat → Int32) (v_gk : Nat → Int32) (l5 : Int32) (u_det : Int32) (v_rs : Nat → Int32) (v_ro : Nat → Int32) : Option (Int32 × Int32 × (Nat → Int32) × (Nat → Int32)) :=
  (fX6_refuse u_det 5 l5).bind fun q27 =>
  some (q27.1, q27.2, v_rs, v_ro)
def fX6_moveFault (u_det : Int32) (v_gw : Nat → Int32) (v_gk : Nat → Int32) (v_rs : Nat → Int32) (v_ro : Nat → Int32) (p0 : Int32) (p1 : Int32) : Option (Int32 × Int32 × (Nat → Int32) × (Nat → Int32)) :=
  if (fX7_isCell p1) = 0 then
    some ((-1), u_det, v_rs, v_ro)
  else
    (fX6_freeFault u_det v_gw v_gk p0).bind fun q2 =>
    if q2.1 = 0 then
      (fX1_whaleOn v_gw v_gk p1).bind fun q5 =>
      if q5 = (-1) then
        (fX1_isDryNow v_gk p1).bind fun q8 =>
        if q8 = 0 then
          (fX4_findBySpreading v_gw v_gk v_rs v_ro p0).bind fun q11 =>
          (fX4_spreadTo q11.1 p1).bind fun q13 =>
          if q13 = (-1) then
            fX6_moveFault_113 v_gw v_gk q13 q2.2 q11.1 q11.2
          else
            (fX1_of v_gw p0 2).bind fun q16 =>
            if q13 ≤ q16 then
              (fX6_breathFault q2.2 v_gw p0 q13).bind fun q19 =>
              some (q19.1, q19.2, q11.1, q11.2)
            else
              fX6_moveFault_113 v_gw v_gk q13 q2.2 q11.1 q11.2
        else
          (fX1_count v_gk 1).bind fun q21 =>
          (fX6_refuse q2.2 8 (fX7_tideByDividing q21)).bind fun q23 =>
          some (q23.1, q23.2, v_rs, v_ro)
      else
        (fX6_refuse q2.2 7 q5).bind fun q25 =>
        some (q25.1, q25.2, v_rs, v_ro)
    else
      some (q2.1, q2.2, v_rs, v_ro)
set_option maxHeartbeats 4000000 in
set_option maxRecDepth 100000 in
theorem lX6_moveFault_113 {p : Program} {l : Launch} {e : Env} {s : State} {m : MethodId} {args : Array Value} {below : List Frame} {meth : Method} {c : Code} {Q : State → Prop} {D : va_G} {T : Nat → ClassId} {a_g a_gw a_gk a_r a_rs a_rl a_ro a_u : Nat} {v_gw : Nat → Int32} {v_gk : Nat → Int32} {A : Nat → Prop} {r : Int32 × Int32 × (Nat → Int32) × (Nat → Int32)} (C : CallFix p m c cX6_moveFault 6 s args aw RX6) (hE : eK D T s) (hA : ∀ q : Nat, s.heap.size ≤ q → A q) (hret : WrRet p l e ({ frames := 4, cells := 0, slots := 0, locals := 93 } : Room) s m args below meth c Q cX6_moveFault .int D A [(a_g, .inr (1, [.ref a_gw, .ref a_gk])), (a_r, .inr (4, [.ref a_g, .ref a_rs, .ref a_rl, .ref a_ro])), (a_u, .inr (6, [.ref a_g, .ref a_r, .int r.2.1])), (a_gw, .inl (T 0, 90, .inl v_gw)), (a_gk, .inl (T 0, 18, .inl v_gk)), (a_rs, .inl (T 0, 45, .inl r.2.2.1)), (a_ro, .inl (T 1, 45, .inl r.2.2.2))] r.1) (l5 : Int32) (u_det : Int32) (v_rs : Nat → Int32) (v_ro : Nat → Int32) {H : Heap} {locs : List Loc} (hPD : va_PD D A [(a_g, .inr (1, [.ref a_gw, .ref a_gk])), (a_r, .inr (4, [.ref a_g, .ref a_rs, .ref a_rl, .ref a_ro])), (a_u, .inr (6, [.ref a_g, .ref a_r, .int u_det])), (a_gw, .inl (T 0, 90, .inl v_gw)), (a_gk, .inl (T 0, 18, .inl v_gk)), (a_rs, .inl (T 0, 45, .inl v_rs)), (a_ro, .inl (T 1, 45, .inl v_ro))] H) (hS : va_S A s.heap H locs) (ls : Array Slot) (hl : lv_has ls 6 [(0, .ref a_u), (5, .int l5)]) (h : fX6_moveFault_113 v_gw v_gk l5 u_det v_rs v_ro = some r) : W p l e ({ frames := 4, cells := 0, slots := 0, locals := 93 } : Room) s m args below meth c H locs 0 0 Q (F0 m 113 ls []) := by
  have hx := C.1
  have hb := C.2.1
  obtain ⟨hP, hD⟩ := hPD
  unfold fX6_moveFault_113 at h
  refine lv_aload_n hx hb dX6_moveFault_113 rfl (lv_at hl 0 rfl) ?_
  refine lv_iconst (v := 5) hx hb dX6_moveFault_114 (by decide) ?_
  refine lv_iload hx hb dX6_moveFault_115 (lv_at hl 1 rfl) ?_
  replace h := bnd h; obtain ⟨q27, e28, h⟩ := h
  refine wrVi (ws1 := [(a_g, .inr (1, [.ref a_gw, .ref a_gk])), (a_r, .inr (4, [.ref a_g, .ref a_rs, .ref a_rl, .ref a_ro])), (a_u, .inr (6, [.ref a_g, .ref a_r, .int q27.2])), (a_gw, .inl (T 0, 90, .inl v_gw)), (a_gk, .inl (T 0, 18, .inl v_gk)), (a_rs, .inl (T 0, 45, .inl v_rs)), (a_ro, .inl (T 1, 45, .inl v_ro))]) C hE hP hD hS hA (kX6_refuse l D T a_u a_g a_r u_det 5 l5 _ q27 e28) mX6_refuse qLX6_33 [2] [0, 1, 3, 4, 5, 6] 2 rfl rfl rfl rfl rfl rfl rfl rfl rfl ⟨rfl, rfl⟩ ⟨Nat.le_of_ble_eq_true rfl, Nat.le_of_ble_eq_true rfl⟩ rfl hl.1 rfl (Nat.le_of_ble_eq_true rfl) dX6_moveFault_117 ⟨Nat.le_of_ble_eq_true rfl, Nat.le_of_ble_eq_true rfl⟩ ?_; clear hP hD hS; intro H locs hP hD hS
  replace h := Option.some.inj h
  exact hret _ _ _ _ _ _ dX6_moveFault_120 rfl (by rw [← h] <;> rfl) (by rw [← h]; exact hP) hS
set_option maxHeartbeats 4000000 in
set_option maxRecDepth 100000 in
theorem kX6_moveFault (l : Launch) (D : va_G) (T : Nat → ClassId) (a_g a_gw a_gk a_r a_rs a_rl a_ro a_u : Nat) (u_det : Int32) (v_gw : Nat → Int32) (v_gk : Nat → Int32) (v_rs : Nat → Int32) (v_ro : Nat → Int32) (p0 : Int32) (p1 : Int32) (sz : Nat) (r : Int32 × Int32 × (Nat → Int32) × (Nat → Int32)) (h : fX6_moveFault u_det v_gw v_gk v_rs v_ro p0 p1 = some r) : WrI l yX6_moveFault cX6_moveFault 6 .int ({ frames := 4, cells := 0, slots := 0, locals := 93 } : Room) D T sz [(a_g, .inr (1, [.ref a_gw, .ref a_gk])), (a_r, .inr (4, [.ref a_g, .ref a_rs, .ref a_rl, .ref a_ro])), (a_u, .inr (6, [.ref a_g, .ref a_r, .int u_det])), (a_gw, .inl (T 0, 90, .inl v_gw)), (a_gk, .inl (T 0, 18, .inl v_gk)), (a_rs, .inl (T 0, 45, .inl v_rs)), (a_ro, .inl (T 1, 45, .inl v_ro))] [(a_g, .inr (1, [.ref a_gw, .ref a_gk])), (a_r, .inr (4, [.ref a_g, .ref a_rs, .ref a_rl, .ref a_ro])), (a_u, .inr (6, [.ref a_g, .ref a_r, .int r.2.1])), (a_gw, .inl (T 0, 90, .inl v_gw)), (a_gk, .inl (T 0, 18, .inl v_gk)), (a_rs, .inl (T 0, 45, .inl r.2.2.1)), (a_ro, .inl (T 1, 45, .inl r.2.2.2))] [.ref a_u, .int p0, .int p1] r.1 := by
  unfold fX6_moveFault at h
  refine wrMet (by decide +kernel) rfl (fun p e s m args below meth c Q A C hE hA hP hD hS hret ls hl => ?_)
  have hx := C.1
  have hb := C.2.1
  have hl : lv_has ls 6 [(0, .ref a_u), (1, .int p0), (2, .int p1)] := hl
  refine lv_iload_n hx hb dX6_moveFault_0 rfl (lv_at hl 2 rfl) ?_
  refine rdSN C hE hP (kX7_isCell l D T p1) mX7_isCell (by decide +kernel) [] rfl ⟨rfl, rfl⟩ ⟨Nat.le_of_ble_eq_true rfl, Nat.le_of_ble_eq_true rfl⟩ rfl hl.1 rfl (Nat.le_of_ble_eq_true rfl) dX6_moveFault_1 ⟨Nat.le_of_ble_eq_true rfl, Nat.le_of_ble_eq_true rfl⟩ ?_
  refine lv_if_ne (tgt := 9) hx hb dX6_moveFault_4 (by decide) (fun c1 => ?_) (fun c1 => ?_)
  · replace h := ite_f c1 h
    refine lv_aload_n hx hb dX6_moveFault_9 rfl (lv_at hl 0 rfl) ?_
    refine lv_iload_n hx hb dX6_moveFault_10 rfl (lv_at hl 1 rfl) ?_
    replace h := bnd h; obtain ⟨q2, e3, h⟩ := h
    refine wrVi (ws1 := [(a_g, .inr (1, [.ref a_gw, .ref a_gk])), (a_r, .inr (4, [.ref a_g, .ref a_rs, .ref a_rl, .ref a_ro])), (a_u, .inr (6, [.ref a_g, .ref a_r, .int q2.2])), (a_gw, .inl (T 0, 90, .inl v_gw)), (a_gk, .inl (T 0, 18, .inl v_gk)), (a_rs, .inl (T 0, 45, .inl v_rs)), (a_ro, .inl (T 1, 45, .inl v_ro))]) C hE hP hD hS hA (kX6_freeFault l D T a_g a_gw a_gk a_u a_r u_det v_gw v_gk p0 _ q2 e3) mX6_freeFault qLX6_68 [0, 2, 3, 4] [1, 5, 6] 2 rfl rfl rfl rfl rfl rfl rfl rfl rfl ⟨rfl, rfl⟩ ⟨Nat.le_of_ble_eq_true rfl, Nat.le_of_ble_eq_true rfl⟩ rfl hl.1 rfl (Nat.le_of_ble_eq_true rfl) dX6_moveFault_11 ⟨Nat.le_of_ble_eq_true rfl, Nat.le_of_ble_eq_true rfl⟩ ?_; clear hP hD hS; intro H locs hP hD hS
    refine lv_istore_n (lv' := [(3, .int q2.1), (0, .ref a_u), (1, .int p0), (2, .int p1)]) hx hb dX6_moveFault_14 rfl hl (by decide) rfl (fun ls hl => ?_)
    refine lv_iload_n hx hb dX6_moveFault_15 rfl (lv_at hl 0 rfl) ?_
    refine lv_if_eq (tgt := 21) hx hb dX6_moveFault_16 (by decide) (fun c4 => ?_) (fun c4 => ?_)
    · replace h := ite_t c4 h
      refine lv_aload_n hx hb dX6_moveFault_21 rfl (lv_at hl 1 rfl) ?_
      refine getF (q0 := 2) (k0 := 0) (v := .ref a_g) C hE hP inA6 rfl rfl (by decide) qFX6_15 rfl rfl dX6_moveFault_22 ?_
      refine lv_iload_n hx hb dX6_moveFault_25 rfl (lv_at hl 3 rfl) ?_
      replace h := bnd h; obtain ⟨q5, e6, h⟩ := h
      refine rdV C hE hP (kX1_whaleOn l D T a_g a_gw a_gk v_gw v_gk p1 q5 e6) mX1_whaleOn qLX6_40 [0, 3, 4] 0 rfl rfl rfl rfl ⟨rfl, rfl⟩ ⟨Nat.le_of_ble_eq_true rfl, Nat.le_of_ble_eq_true rfl⟩ rfl hl.1 rfl (Nat.le_of_ble_eq_true rfl) dX6_moveFault_26 ⟨Nat.le_of_ble_eq_true rfl, Nat.le_of_ble_eq_true rfl⟩ ?_
      refine lv_istore (lv' := [(4, .int q5), (3, .int q2.1), (0, .ref a_u), (1, .int p0), (2, .int p1)]) hx hb dX6_moveFault_29 hl (by decide) rfl (fun ls hl => ?_)
      refine lv_iload hx hb dX6_moveFault_31 (lv_at hl 0 rfl) ?_
      refine lv_iconst (v := (-1)) hx hb dX6_moveFault_33 (by decide) ?_
      refine lv_icmp_eq (tgt := 46) hx hb dX6_moveFault_34 (by decide) (fun c7 => ?_) (fun c7 => ?_)
      · replace h := ite_t c7 h
        refine lv_aload_n hx hb dX6_moveFault_46 rfl (lv_at hl 2 rfl) ?_
        refine getF (q0 := 2) (k0 := 0) (v := .ref a_g) C hE hP inA6 rfl rfl (by decide) qFX6_15 rfl rfl dX6_moveFault_47 ?_
        refine lv_iload_n hx hb dX6_moveFault_50 rfl (lv_at hl 4 rfl) ?_
        replace h := bnd h; obtain ⟨q8, e9, h⟩ := h
        refine rdV C hE hP (kX1_isDryNow l D T a_g a_gw a_gk v_gk p1 q8 e9) mX1_isDryNow qLX6_71 [0, 4] 0 rfl rfl rfl rfl ⟨rfl, rfl⟩ ⟨Nat.le_of_ble_eq_true rfl, Nat.le_of_ble_eq_true rfl⟩ rfl hl.1 rfl (Nat.le_of_ble_eq_true rfl) dX6_moveFault_51 ⟨Nat.le_of_ble_eq_true rfl, Nat.le_of_ble_eq_true rfl⟩ ?_
        refine lv_if_eq (tgt := 75) hx hb dX6_moveFault_54 (by decide) (fun c10 => ?_) (fun c10 => ?_)
        · replace h := ite_t c10 h
          refine lv_aload_n hx hb dX6_moveFault_75 rfl (lv_at hl 2 rfl) ?_
          refine getF (q0 := 2) (k0 := 1) (v := .ref a_r) C hE hP inA6 rfl rfl (by decide) qFX6_19 rfl rfl dX6_moveFault_76 ?_
          refine lv_iload_n hx hb dX6_moveFault_79 rfl (lv_at hl 3 rfl) ?_
          replace h := bnd h; obtain ⟨q11, e12, h⟩ := h
          refine wrVv (ws1 := [(a_g, .inr (1, [.ref a_gw, .ref a_gk])), (a_r, .inr (4, [.ref a_g, .ref a_rs, .ref a_rl, .ref a_ro])), (a_u, .inr (6, [.ref a_g, .ref a_r, .int q2.2])), (a_gw, .inl (T 0, 90, .inl v_gw)), (a_gk, .inl (T 0, 18, .inl v_gk)), (a_rs, .inl (T 0, 45, .inl q11.1)), (a_ro, .inl (T 1, 45, .inl q11.2))]) C hE hP hD hS hA (kX4_findBySpreading l D T a_g a_gw a_gk a_r a_rs a_rl a_ro v_gw v_gk v_rs v_ro p0 _ q11 e12) mX4_findBySpreading qLX6_77 [0, 1, 3, 4, 5, 6] [2] 1 rfl rfl rfl rfl rfl rfl rfl rfl rfl ⟨rfl, rfl⟩ ⟨Nat.le_of_ble_eq_true rfl, Nat.le_of_ble_eq_true rfl⟩ rfl hl.1 rfl (Nat.le_of_ble_eq_true rfl) dX6_moveFault_80 ⟨Nat.le_of_ble_eq_true rfl, Nat.le_of_ble_eq_true rfl⟩ ?_; clear hP hD hS; intro H locs hP hD hS
          refine lv_aload_n hx hb dX6_moveFault_83 rfl (lv_at hl 2 rfl) ?_
          refine getF (q0 := 2) (k0 := 1) (v := .ref a_r) C hE hP inA6 rfl rfl (by decide) qFX6_19 rfl rfl dX6_moveFault_84 ?_
          refine lv_iload_n hx hb dX6_moveFault_87 rfl (lv_at hl 4 rfl) ?_
          replace h := bnd h; obtain ⟨q13, e14, h⟩ := h
          refine rdV C hE hP (kX4_spreadTo l D T a_r a_g a_rs a_rl a_ro q11.1 p1 q13 e14) mX4_spreadTo qLX6_83 [1, 5] 1 rfl rfl rfl rfl ⟨rfl, rfl⟩ ⟨Nat.le_of_ble_eq_true rfl, Nat.le_of_ble_eq_true rfl⟩ rfl hl.1 rfl (Nat.le_of_ble_eq_true rfl) dX6_moveFault_88 ⟨Nat.le_of_ble_eq_true rfl, Nat.le_of_ble_eq_true rfl⟩ ?_
          refine lv_istore (lv' := [(5, .int q13), (4, .int q5), (3, .int q2.1), (0, .ref a_u), (1, .int p0), (2, .int p1)]) hx hb dX6_moveFault_91 hl (by decide) rfl (fun ls hl => ?_)
          refine lv_iload hx hb dX6_moveFault_93 (lv_at hl 0 rfl) ?_
          refine lv_iconst (v := (-1)) hx hb dX6_moveFault_95 (by decide) ?_
          refine lv_icmp_eq (tgt := 113) hx hb dX6_moveFault_96 (by decide) (fun c15 => ?_) (fun c15 => ?_)
          · replace h := ite_t c15 h
            exact lX6_moveFault_113 C hE hA hret q13 q2.2 q11.1 q11.2 ⟨hP, hD⟩ hS _ (lv_sub hl [3, 0] rfl) h
          · replace h := ite_f c15 h
            refine lv_iload hx hb dX6_moveFault_99 (lv_at hl 0 rfl) ?_
            refine lv_aload_n hx hb dX6_moveFault_101 rfl (lv_at hl 3 rfl) ?_
            refine getF (q0 := 2) (k0 := 0) (v := .ref a_g) C hE hP inA6 rfl rfl (by decide) qFX6_15 rfl rfl dX6_moveFault_102 ?_
            refine lv_iload_n hx hb dX6_moveFault_105 rfl (lv_at hl 4 rfl) ?_
            refine lv_iconst (v := 2) hx hb dX6_moveFault_106 (by decide) ?_
            replace h := bnd h; obtain ⟨q16, e17, h⟩ := h
            refine rdV C hE hP (kX1_of l D T a_g a_gw a_gk v_gw p0 2 q16 e17) mX1_of qLX6_62 [0, 3] 0 rfl rfl rfl rfl ⟨rfl, rfl⟩ ⟨Nat.le_of_ble_eq_true rfl, Nat.le_of_ble_eq_true rfl⟩ rfl hl.1 rfl (Nat.le_of_ble_eq_true rfl) dX6_moveFault_107 ⟨Nat.le_of_ble_eq_true rfl, Nat.le_of_ble_eq_true rfl⟩ ?_
            refine lv_icmp_le (tgt := 121) hx hb dX6_moveFault_110 (by decide) (fun c18 => ?_) (fun c18 => ?_)
            · replace h := ite_t c18 h
              refine lv_aload_n hx hb dX6_moveFault_121 rfl (lv_at hl 3 rfl) ?_
              refine lv_iload_n hx hb dX6_moveFault_122 rfl (lv_at hl 4 rfl) ?_
              refine lv_iload hx hb dX6_moveFault_123 (lv_at hl 0 rfl) ?_
              replace h := bnd h; obtain ⟨q19, e20, h⟩ := h
              refine wrVi (ws1 := [(a_g, .inr (1, [.ref a_gw, .ref a_gk])), (a_r, .inr (4, [.ref a_g, .ref a_rs, .ref a_rl, .ref a_ro])), (a_u, .inr (6, [.ref a_g, .ref a_r, .int q19.2])), (a_gw, .inl (T 0, 90, .inl v_gw)), (a_gk, .inl (T 0, 18, .inl v_gk)), (a_rs, .inl (T 0, 45, .inl q11.1)), (a_ro, .inl (T 1, 45, .inl q11.2))]) C hE hP hD hS hA (kX6_breathFault l D T a_g a_gw a_gk a_u a_r q2.2 v_gw p0 q13 _ q19 e20) mX6_breathFault qLX6_86 [0, 2, 3] [1, 4, 5, 6] 2 rfl rfl rfl rfl rfl rfl rfl rfl rfl ⟨rfl, rfl⟩ ⟨Nat.le_of_ble_eq_true rfl, Nat.le_of_ble_eq_true rfl⟩ rfl hl.1 rfl (Nat.le_of_ble_eq_true rfl) dX6_moveFault_125 ⟨Nat.le_of_ble_eq_true rfl, Nat.le_of_ble_eq_true rfl⟩ ?_; clear hP hD hS; intro H locs hP hD hS
              replace h := Option.some.inj h
              exact hret _ _ _ _ _ _ dX6_moveFault_128 rfl (by rw [← h] <;> rfl) (by rw [← h]; exact hP) hS
            · replace h := ite_f c18 h
              exact lX6_moveFault_113 C hE hA hret q13 q2.2 q11.1 q11.2 ⟨hP, hD⟩ hS _ (lv_sub hl [3, 0] rfl) h
        · replace h := ite_f c10 h
          refine lv_aload_n hx hb dX6_moveFault_57 rfl (lv_at hl 2 rfl) ?_
          refine lv_bipush (v := 8) hx hb dX6_moveFault_58 (by decide) ?_
          refine lv_aload_n hx hb dX6_moveFault_60 rfl (lv_at hl 2 rfl) ?_
          refine getF (q0 := 2) (k0 := 0) (v := .ref a_g) C hE hP inA6 rfl rfl (by decide) qFX6_15 rfl rfl dX6_moveFault_61 ?_
          refine lv_iconst (v := 1) hx hb dX6_moveFault_64 (by decide) ?_
          replace h := bnd h; obtain ⟨q21, e22, h⟩ := h
          refine rdV C hE hP (kX1_count l D T a_g a_gw a_gk v_gk 1 q21 e22) mX1_count qLX6_47 [0, 4] 0 rfl rfl rfl rfl ⟨rfl, rfl⟩ ⟨Nat.le_of_ble_eq_true rfl, Nat.le_of_ble_eq_true rfl⟩ rfl hl.1 rfl (Nat.le_of_ble_eq_true rfl) dX6_moveFault_65 ⟨Nat.le_of_ble_eq_true rfl, Nat.le_of_ble_eq_true rfl⟩ ?_
          refine rdSN C hE hP (kX7_tideByDividing l D T q21) mX7_tideByDividing (by decide +kernel) [] rfl ⟨rfl, rfl⟩ ⟨Nat.le_of_ble_eq_true rfl, Nat.le_of_ble_eq_true rfl⟩ rfl hl.1 rfl (Nat.le_of_ble_eq_true rfl) dX6_moveFault_68 ⟨Nat.le_of_ble_eq_true rfl, Nat.le_of_ble_eq_true rfl⟩ ?_
          replace h := bnd h; obtain ⟨q23, e24, h⟩ := h
          refine wrVi (ws1 := [(a_g, .inr (1, [.ref a_gw, .ref a_gk])), (a_r, .inr (4, [.ref a_g, .ref a_rs, .ref a_rl, .ref a_ro])), (a_u, .inr (6, [.ref a_g, .ref a_r, .int q23.2])), (a_gw, .inl (T 0, 90, .inl v_gw)), (a_gk, .inl (T 0, 18, .inl v_gk)), (a_rs, .inl (T 0, 45, .inl v_rs)), (a_ro, .inl (T 1, 45, .inl v_ro))]) C hE hP hD hS hA (kX6_refuse l D T a_u a_g a_r q2.2 8 (fX7_tideByDividing q21) _ q23 e24) mX6_refuse qLX6_33 [2] [0, 1, 3, 4, 5, 6] 2 rfl rfl rfl rfl rfl rfl rfl rfl rfl ⟨rfl, rfl⟩ ⟨Nat.le_of_ble_eq_true rfl, Nat.le_of_ble_eq_true rfl⟩ rfl hl.1 rfl (Nat.le_of_ble_eq_true rfl) dX6_moveFault_71 ⟨Nat.le_of_ble_eq_true rfl, Nat.le_of_ble_eq_true rfl⟩ ?_; clear hP hD hS; intro H locs hP hD hS
          replace h := Option.some.inj h
          exact hret _ _ _ _ _ _ dX6_moveFault_74 rfl (by rw [← h] <;> rfl) (by rw [← h]; exact hP) hS
      · replace h := ite_f c7 h
        refine lv_aload_n hx hb dX6_moveFault_37 rfl (lv_at hl 2 rfl) ?_
        refine lv_bipush (v := 7) hx hb dX6_moveFault_38 (by decide) ?_
        refine lv_iload hx hb dX6_moveFault_40 (lv_at hl 0 rfl) ?_
        replace h := bnd h; obtain ⟨q25, e26, h⟩ := h
        refine wrVi (ws1 := [(a_g, .inr (1, [.ref a_gw, .ref a_gk])), (a_r, .inr (4, [.ref a_g, .ref a_rs, .ref a_rl, .ref a_ro])), (a_u, .inr (6, [.ref a_g, .ref a_r, .int q25.2])), (a_gw, .inl (T 0, 90, .inl v_gw)), (a_gk, .inl (T 0, 18, .inl v_gk)), (a_rs, .inl (T 0, 45, .inl v_rs)), (a_ro, .inl (T 1, 45, .inl v_ro))]) C hE hP hD hS hA (kX6_refuse l D T a_u a_g a_r q2.2 7 q5 _ q25 e26) mX6_refuse qLX6_33 [2] [0, 1, 3, 4, 5, 6] 2 rfl rfl rfl rfl rfl rfl rfl rfl rfl ⟨rfl, rfl⟩ ⟨Nat.le_of_ble_eq_true rfl, Nat.le_of_ble_eq_true rfl⟩ rfl hl.1 rfl (Nat.le_of_ble_eq_true rfl) dX6_moveFault_42 ⟨Nat.le_of_ble_eq_true rfl, Nat.le_of_ble_eq_true rfl⟩ ?_; clear hP hD hS; intro H locs hP hD hS
        replace h := Option.some.inj h
        exact hret _ _ _ _ _ _ dX6_moveFault_45 rfl (by rw [← h] <;> rfl) (by rw [← h]; exact hP) hS
    · replace h := ite_f c4 h
      refine lv_iload_n hx hb dX6_moveFault_19 rfl (lv_at hl 0 rfl) ?_
      replace h := Option.some.inj h
      exact hret _ _ _ _ _ _ dX6_moveFault_20 rfl (by rw [← h] <;> rfl) (by rw [← h]; exact hP) hS
  · replace h := ite_t c1 h
    refine lv_iconst (v := (-1)) hx hb dX6_moveFault_7 (by decide) ?_
    replace h := Option.some.inj h
    exact hret _ _ _ _ _ _ dX6_moveFault_8 rfl (by rw [← h] <;> rfl) (by rw [← h]; exact hP) hS
