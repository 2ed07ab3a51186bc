def fX1_count (v_gk : Nat → Int32) (p0 : Int32) : Option Int32 :=
  if p0 < 0 then
    some 0
  else
    if 18 ≤ p0 then
      some 0
    else
      if vin p0 18 = true then
      some (v_gk p0.toNatClampNeg)
      else none
set_option maxHeartbeats 4000000 in
set_option maxRecDepth 100000 in
theorem kX1_count (l : Launch) (D : va_G) (T : Nat → ClassId) (a_g a_gw a_gk : Nat) (v_gk : Nat → Int32) (p0 : Int32) (r : Int32) (h : fX1_count v_gk p0 = some r) : RdI l yX1_count cX1_count 2 .int ({ frames := 0, cells := 0, slots := 0, locals := 0 } : Room) D T [(a_g, .inr (1, [.ref a_gw, .ref a_gk])), (a_gk, .inl (T 0, 18, .inl v_gk))] [.ref a_g, .int p0] r := by
  unfold fX1_count at h
  refine rdMet (by decide +kernel) rfl (fun p e s m args below meth c Q C hE hP hret ls hl => ?_)
  have hx := C.1
  have hb := C.2.1
  have hl : lv_has ls 2 [(0, .ref a_g), (1, .int p0)] := hl
  refine lv_iload_n hx hb dX1_count_0 rfl (lv_at hl 1 rfl) ?_
  refine lv_if_lt (tgt := 22) hx hb dX1_count_1 (by decide) (fun c1 => ?_) (fun c1 => ?_)
  · have h := ite_t c1 h
    refine lv_iconst (v := 0) hx hb dX1_count_22 (by decide) ?_
    exact hret _ _ _ _ dX1_count_23 rfl (Option.some.inj h)
  · have h := ite_f c1 h
    refine lv_iload_n hx hb dX1_count_4 rfl (lv_at hl 1 rfl) ?_
    refine lv_aload_n hx hb dX1_count_5 rfl (lv_at hl 0 rfl) ?_
    refine getF (q0 := 0) (k0 := 1) (v := .ref a_gk) C hE hP inA1 rfl rfl (by decide) qFX1_15 rfl rfl dX1_count_6 ?_
    refine alen (q0 := 1) (t0 := 0) (v := 18) C hE hP rfl rfl (by decide) dX1_count_9 ?_
    refine lv_icmp_ge (tgt := 22) hx hb dX1_count_10 (by decide) (fun c2 => ?_) (fun c2 => ?_)
    · have h := ite_t c2 h
      refine lv_iconst (v := 0) hx hb dX1_count_22 (by decide) ?_
      exact hret _ _ _ _ dX1_count_23 rfl (Option.some.inj h)
    · have h := ite_f c2 h
      refine lv_aload_n hx hb dX1_count_13 rfl (lv_at hl 0 rfl) ?_
      refine getF (q0 := 0) (k0 := 1) (v := .ref a_gk) C hE hP inA1 rfl rfl (by decide) qFX1_15 rfl rfl dX1_count_14 ?_
      refine lv_iload_n hx hb dX1_count_17 rfl (lv_at hl 1 rfl) ?_
      obtain ⟨g3, h⟩ := gd h
      refine aldI (q0 := 1) C hE hP rfl g3 dX1_count_18 ?_
      refine lv_goto (tgt := 23) hx hb dX1_count_19 (by decide) ?_
      exact hret _ _ _ _ dX1_count_23 rfl (Option.some.inj h)

def fX1_of (v_gw : Nat → Int32) (p0 : Int32) (p1 : Int32) : Option Int32 :=
  if ((p0 * 9) + p1) < 0 then
    some 0
  else
    if 90 ≤ ((p0 * 9) + p1) then
      some 0
    else
      if vin ((p0 * 9) + p1) 90 = true then
      some (v_gw ((p0 * 9) + p1).toNatClampNeg)
      else none
set_option maxHeartbeats 4000000 in
set_option maxRecDepth 100000 in
theorem kX1_of (l : Launch) (D : va_G) (T : Nat → ClassId) (a_g a_gw a_gk : Nat) (v_gw : Nat → Int32) (p0 : Int32) (p1 : Int32) (r : Int32) (h : fX1_of v_gw p0 p1 = some r) : RdI l yX1_of cX1_of 4 .int ({ frames := 0, cells := 0, slots := 0, locals := 0 } : Room) D T [(a_g, .inr (1, [.ref a_gw, .ref a_gk])), (a_gw, .inl (T 0, 90, .inl v_gw))] [.ref a_g, .int p0, .int p1] r := by
  unfold fX1_of at h
  refine rdMet (by decide +kernel) rfl (fun p e s m args below meth c Q C hE hP hret ls hl => ?_)
  have hx := C.1
  have hb := C.2.1
  have hl : lv_has ls 4 [(0, .ref a_g), (1, .int p0), (2, .int p1)] := hl
  refine lv_iload_n hx hb dX1_of_0 rfl (lv_at hl 1 rfl) ?_
  refine lv_bipush (v := 9) hx hb dX1_of_1 (by decide) ?_
  refine lv_imul hx hb dX1_of_3 ?_
  refine lv_iload_n hx hb dX1_of_4 rfl (lv_at hl 2 rfl) ?_
  refine lv_iadd hx hb dX1_of_5 ?_
  refine lv_istore_n (lv' := [(3, .int ((p0 * 9) + p1)), (0, .ref a_g), (1, .int p0), (2, .int p1)]) hx hb dX1_of_6 rfl hl (by decide) rfl (fun ls hl => ?_)
  refine lv_iload_n hx hb dX1_of_7 rfl (lv_at hl 0 rfl) ?_
  refine lv_if_lt (tgt := 29) hx hb dX1_of_8 (by decide) (fun c1 => ?_) (fun c1 => ?_)
  · have h := ite_t c1 h
    refine lv_iconst (v := 0) hx hb dX1_of_29 (by decide) ?_
    exact hret _ _ _ _ dX1_of_30 rfl (Option.some.inj h)
  · have h := ite_f c1 h
    refine lv_iload_n hx hb dX1_of_11 rfl (lv_at hl 0 rfl) ?_
    refine lv_aload_n hx hb dX1_of_12 rfl (lv_at hl 1 rfl) ?_
    refine getF (q0 := 0) (k0 := 0) (v := .ref a_gw) C hE hP inA1 rfl rfl (by decide) qFX1_9 rfl rfl dX1_of_13 ?_
    refine alen (q0 := 1) (t0 := 0) (v := 90) C hE hP rfl rfl (by decide) dX1_of_16 ?_
    refine lv_icmp_ge (tgt := 29) hx hb dX1_of_17 (by decide) (fun c2 => ?_) (fun c2 => ?_)
    · have h := ite_t c2 h
      refine lv_iconst (v := 0) hx hb dX1_of_29 (by decide) ?_
      exact hret _ _ _ _ dX1_of_30 rfl (Option.some.inj h)
    · have h := ite_f c2 h
      refine lv_aload_n hx hb dX1_of_20 rfl (lv_at hl 1 rfl) ?_
      refine getF (q0 := 0) (k0 := 0) (v := .ref a_gw) C hE hP inA1 rfl rfl (by decide) qFX1_9 rfl rfl dX1_of_21 ?_
      refine lv_iload_n hx hb dX1_of_24 rfl (lv_at hl 0 rfl) ?_
      obtain ⟨g3, h⟩ := gd h
      refine aldI (q0 := 1) C hE hP rfl g3 dX1_of_25 ?_
      refine lv_goto (tgt := 30) hx hb dX1_of_26 (by decide) ?_
      exact hret _ _ _ _ dX1_of_30 rfl (Option.some.inj h)

def fX7_isEdge (p0 : Int32) : Int32 :=
  if (p0 / 9) = 0 then
    1
  else
    if (p0 / 9) = 4 then
      1
    else
      0
set_option maxHeartbeats 4000000 in
set_option maxRecDepth 100000 in
theorem kX7_isEdge (l : Launch) (D : va_G) (T : Nat → ClassId) (p0 : Int32) : RdI l yX7_isEdge cX7_isEdge 2 .boolean ({ frames := 0, cells := 0, slots := 0, locals := 0 } : Room) D T [] [.int p0] (fX7_isEdge p0) := by
  obtain ⟨r, h⟩ : ∃ r, fX7_isEdge p0 = r := ⟨_, rfl⟩
  rw [h]
  unfold fX7_isEdge at h
  refine rdMet (by decide +kernel) rfl (fun p e s m args below meth c Q C hE hP hret ls hl => ?_)
  have hx := C.1
  have hb := C.2.1
  have hl : lv_has ls 2 [(0, .int p0)] := hl
  refine lv_iload_n hx hb dX7_isEdge_0 rfl (lv_at hl 0 rfl) ?_
  refine lv_bipush (v := 9) hx hb dX7_isEdge_1 (by decide) ?_
  refine lv_idiv hx hb dX7_isEdge_3 (by decide) ?_
  refine lv_istore_n (lv' := [(1, .int (p0 / 9)), (0, .int p0)]) hx hb dX7_isEdge_4 rfl hl (by decide) rfl (fun ls hl => ?_)
  refine lv_iload_n hx hb dX7_isEdge_5 rfl (lv_at hl 0 rfl) ?_
  refine lv_if_eq (tgt := 14) hx hb dX7_isEdge_6 (by decide) (fun c1 => ?_) (fun c1 => ?_)
  · have h := ite_t c1 h
    refine lv_iconst (v := 1) hx hb dX7_isEdge_14 (by decide) ?_
    refine lv_goto (tgt := 19) hx hb dX7_isEdge_15 (by decide) ?_
    exact hret _ _ _ _ dX7_isEdge_19 rfl h
  · have h := ite_f c1 h
    refine lv_iload_n hx hb dX7_isEdge_9 rfl (lv_at hl 0 rfl) ?_
    refine lv_iconst (v := 4) hx hb dX7_isEdge_10 (by decide) ?_
    refine lv_icmp_ne (tgt := 18) hx hb dX7_isEdge_11 (by decide) (fun c2 => ?_) (fun c2 => ?_)
    · have h := ite_f c2 h
      refine lv_iconst (v := 0) hx hb dX7_isEdge_18 (by decide) ?_
      exact hret _ _ _ _ dX7_isEdge_19 rfl h
    · have h := ite_t c2 h
      refine lv_iconst (v := 1) hx hb dX7_isEdge_14 (by decide) ?_
      refine lv_goto (tgt := 19) hx hb dX7_isEdge_15 (by decide) ?_
      exact hret _ _ _ _ dX7_isEdge_19 rfl h

def fX7_tideByDividing (p0 : Int32) : Int32 :=
  if 8 < (p0 - p0 / 16 * 16) then
    ((p0 - p0 / 16 * 16) - 8)
  else
    (8 - (p0 - p0 / 16 * 16))
set_option maxHeartbeats 4000000 in
set_option maxRecDepth 100000 in
theorem kX7_tideByDividing (l : Launch) (D : va_G) (T : Nat → ClassId) (p0 : Int32) : RdI l yX7_tideByDividing cX7_tideByDividing 2 .int ({ frames := 0, cells := 0, slots := 0, locals := 0 } : Room) D T [] [.int p0] (fX7_tideByDividing p0) := by
  obtain ⟨r, h⟩ : ∃ r, fX7_tideByDividing p0 = r := ⟨_, rfl⟩
  rw [h]
  unfold fX7_tideByDividing at h
  refine rdMet (by decide +kernel) rfl (fun p e s m args below meth c Q C hE hP hret ls hl => ?_)
  have hx := C.1
  have hb := C.2.1
  have hl : lv_has ls 2 [(0, .int p0)] := hl
  refine lv_iload_n hx hb dX7_tideByDividing_0 rfl (lv_at hl 0 rfl) ?_
  refine lv_bipush (v := 16) hx hb dX7_tideByDividing_1 (by decide) ?_
  refine lv_irem hx hb dX7_tideByDividing_3 (by decide) ?_
  refine lv_istore_n (lv' := [(1, .int (p0 - p0 / 16 * 16)), (0, .int p0)]) hx hb dX7_tideByDividing_4 rfl hl (by decide) rfl (fun ls hl => ?_)
  refine lv_iload_n hx hb dX7_tideByDividing_5 rfl (lv_at hl 0 rfl) ?_
  refine lv_bipush (v := 8) hx hb dX7_tideByDividing_6 (by decide) ?_
  refine lv_icmp_gt (tgt := 18) hx hb dX7_tideByDividing_8 (by decide) (fun c1 => ?_) (fun c1 => ?_)
  · have h := ite_t c1 h
    refine lv_iload_n hx hb dX7_tideByDividing_18 rfl (lv_at hl 0 rfl) ?_
    refine lv_bipush (v := 8) hx hb dX7_tideByDividing_19 (by decide) ?_
    refine lv_isub hx hb dX7_tideByDividing_21 ?_
    exact hret _ _ _ _ dX7_tideByDividing_22 rfl h
  · have h := ite_f c1 h
    refine lv_bipush (v := 8) hx hb dX7_tideByDividing_11 (by decide) ?_
    refine lv_iload_n hx hb dX7_tideByDividing_13 rfl (lv_at hl 0 rfl) ?_
    refine lv_isub hx hb dX7_tideByDividing_14 ?_
    refine lv_goto (tgt := 22) hx hb dX7_tideByDividing_15 (by decide) ?_
    exact hret _ _ _ _ dX7_tideByDividing_22 rfl h

def fX1_isDryNow (v_gk : Nat → Int32) (p0 : Int32) : Option Int32 :=
  if (fX7_isEdge p0) = 0 then
    some 0
  else
    (fX1_count v_gk 1).bind fun q2 =>
    if 2 < (fX7_tideByDividing q2) then
      some 0
    else
      some 1
set_option maxHeartbeats 4000000 in
set_option maxRecDepth 100000 in
theorem kX1_isDryNow (l : Launch) (D : va_G) (T : Nat → ClassId) (a_g a_gw a_gk : Nat) (v_gk : Nat → Int32) (p0 : Int32) (r : Int32) (h : fX1_isDryNow v_gk p0 = some r) : RdI l yX1_isDryNow cX1_isDryNow 2 .boolean ({ frames := 1, cells := 0, slots := 0, locals := 21 } : Room) D T [(a_g, .inr (1, [.ref a_gw, .ref a_gk])), (a_gk, .inl (T 0, 18, .inl v_gk))] [.ref a_g, .int p0] r := by
  unfold fX1_isDryNow at h
  refine rdMet (by decide +kernel) rfl (fun p e s m args below meth c Q C hE hP hret ls hl => ?_)
  have hx := C.1
  have hb := C.2.1
  have hl : lv_has ls 2 [(0, .ref a_g), (1, .int p0)] := hl
  refine lv_iload_n hx hb dX1_isDryNow_0 rfl (lv_at hl 1 rfl) ?_
  refine rdSN C hE hP (kX7_isEdge l D T p0) mX7_isEdge (by decide +kernel) [] rfl ⟨rfl, rfl⟩ ⟨Nat.le_of_ble_eq_true rfl, Nat.le_of_ble_eq_true rfl⟩ rfl hl.1 rfl (Nat.le_of_ble_eq_true rfl) dX1_isDryNow_1 ⟨Nat.le_of_ble_eq_true rfl, Nat.le_of_ble_eq_true rfl⟩ ?_
  refine lv_if_eq (tgt := 23) hx hb dX1_isDryNow_4 (by decide) (fun c1 => ?_) (fun c1 => ?_)
  · have h := ite_t c1 h
    refine lv_iconst (v := 0) hx hb dX1_isDryNow_23 (by decide) ?_
    exact hret _ _ _ _ dX1_isDryNow_24 rfl (Option.some.inj h)
  · have h := ite_f c1 h
    refine lv_aload_n hx hb dX1_isDryNow_7 rfl (lv_at hl 0 rfl) ?_
    refine lv_iconst (v := 1) hx hb dX1_isDryNow_8 (by decide) ?_
    obtain ⟨q2, e3, h⟩ := bnd h
    refine rdV C hE hP (kX1_count l D T a_g a_gw a_gk v_gk 1 q2 e3) mX1_count qLX1_28 [0, 1] 0 rfl rfl rfl rfl ⟨rfl, rfl⟩ ⟨Nat.le_of_ble_eq_true rfl, Nat.le_of_ble_eq_true rfl⟩ rfl hl.1 rfl (Nat.le_of_ble_eq_true rfl) dX1_isDryNow_9 ⟨Nat.le_of_ble_eq_true rfl, Nat.le_of_ble_eq_true rfl⟩ ?_
    refine rdSN C hE hP (kX7_tideByDividing l D T q2) mX7_tideByDividing (by decide +kernel) [] rfl ⟨rfl, rfl⟩ ⟨Nat.le_of_ble_eq_true rfl, Nat.le_of_ble_eq_true rfl⟩ rfl hl.1 rfl (Nat.le_of_ble_eq_true rfl) dX1_isDryNow_12 ⟨Nat.le_of_ble_eq_true rfl, Nat.le_of_ble_eq_true rfl⟩ ?_
    refine lv_iconst (v := 2) hx hb dX1_isDryNow_15 (by decide) ?_
    refine lv_icmp_gt (tgt := 23) hx hb dX1_isDryNow_16 (by decide) (fun c4 => ?_) (fun c4 => ?_)
    · have h := ite_t c4 h
      refine lv_iconst (v := 0) hx hb dX1_isDryNow_23 (by decide) ?_
      exact hret _ _ _ _ dX1_isDryNow_24 rfl (Option.some.inj h)
    · have h := ite_f c4 h
      refine lv_iconst (v := 1) hx hb dX1_isDryNow_19 (by decide) ?_
      refine lv_goto (tgt := 24) hx hb dX1_isDryNow_20 (by decide) ?_
      exact hret _ _ _ _ dX1_isDryNow_24 rfl (Option.some.inj h)

def fX1_whaleOn_2 (v_gw : Nat → Int32) (v_gk : Nat → Int32) : Nat → Int32 → Int32 → Option Int32
  | 0, _, _ => none
  | k + 1, l1, l2 =>
    (fX1_count v_gk 0).bind fun q1 =>
    if q1 ≤ l2 then
      some (-1)
    else
      (fX1_of v_gw l2 4).bind fun q4 =>
      if q4 = l1 then
        some l2
      else
        fX1_whaleOn_2 v_gw v_gk k l1 (l2 + 1)
def fX1_whaleOn (v_gw : Nat → Int32) (v_gk : Nat → Int32) (p0 : Int32) : Option Int32 :=
  fX1_whaleOn_2 v_gw v_gk 64 p0 0
set_option maxHeartbeats 4000000 in
set_option maxRecDepth 100000 in
theorem lX1_whaleOn_2 {p : Program} {l : Launch} {e : Env} {s : State} {m : MethodId} {args : Array Value} {below : List Frame} {meth : Method} {c : Code} {Q : State → Prop} {D : va_G} {T : Nat → ClassId} {a_g a_gw a_gk : Nat} {v_gw : Nat → Int32} {v_gk : Nat → Int32} {r : Int32} (C : CallFix p m c cX1_whaleOn 3 s args aw RX1) (hE : eK D T s) (hP : va_P D kC [(a_g, .inr (1, [.ref a_gw, .ref a_gk])), (a_gw, .inl (T 0, 90, .inl v_gw)), (a_gk, .inl (T 0, 18, .inl v_gk))] s.heap) (hret : RdRet p l e ({ frames := 1, cells := 0, slots := 0, locals := 23 } : Room) s m args below meth c Q cX1_whaleOn .int r) : ∀ (k : Nat) (l1 : Int32) (l2 : Int32) (ls : Array Slot) (hl : lv_has ls 3 [(0, .ref a_g), (1, .int l1), (2, .int l2)]) (h : fX1_whaleOn_2 v_gw v_gk k l1 l2 = some r), W p l e ({ frames := 1, cells := 0, slots := 0, locals := 23 } : Room) s m args below meth c s.heap [] 0 0 Q (F0 m 2 ls []) := by
  have hx := C.1
  have hb := C.2.1
  intro k
  induction k with
  | zero =>
    intro l1 l2  ls hl h
    exact nomatch (show (none : Option Int32) = some r from h)
  | succ k ih =>
    intro l1 l2  ls hl h
    rw [fX1_whaleOn_2] at h
    refine lv_iload_n hx hb dX1_whaleOn_2 rfl (lv_at hl 2 rfl) ?_
    refine lv_aload_n hx hb dX1_whaleOn_3 rfl (lv_at hl 0 rfl) ?_
    refine lv_iconst (v := 0) hx hb dX1_whaleOn_4 (by decide) ?_
    obtain ⟨q1, e2, h⟩ := bnd h
    refine rdV C hE hP (kX1_count l D T a_g a_gw a_gk v_gk 0 q1 e2) mX1_count qLX1_28 [0, 2] 0 rfl rfl rfl rfl ⟨rfl, rfl⟩ ⟨Nat.le_of_ble_eq_true rfl, Nat.le_of_ble_eq_true rfl⟩ rfl hl.1 rfl (Nat.le_of_ble_eq_true rfl) dX1_whaleOn_5 ⟨Nat.le_of_ble_eq_true rfl, Nat.le_of_ble_eq_true rfl⟩ ?_
    refine lv_icmp_ge (tgt := 29) hx hb dX1_whaleOn_8 (by decide) (fun c3 => ?_) (fun c3 => ?_)
    · have h := ite_t c3 h
      refine lv_iconst (v := (-1)) hx hb dX1_whaleOn_29 (by decide) ?_
      exact hret _ _ _ _ dX1_whaleOn_30 rfl (Option.some.inj h)
    · have h := ite_f c3 h
      refine lv_aload_n hx hb dX1_whaleOn_11 rfl (lv_at hl 0 rfl) ?_
      refine lv_iload_n hx hb dX1_whaleOn_12 rfl (lv_at hl 2 rfl) ?_
      refine lv_iconst (v := 4) hx hb dX1_whaleOn_13 (by decide) ?_
      obtain ⟨q4, e5, h⟩ := bnd h
      refine rdV C hE hP (kX1_of l D T a_g a_gw a_gk v_gw l2 4 q4 e5) mX1_of qLX1_32 [0, 1] 0 rfl rfl rfl rfl ⟨rfl, rfl⟩ ⟨Nat.le_of_ble_eq_true rfl, Nat.le_of_ble_eq_true rfl⟩ rfl hl.1 rfl (Nat.le_of_ble_eq_true rfl) dX1_whaleOn_14 ⟨Nat.le_of_ble_eq_true rfl, Nat.le_of_ble_eq_true rfl⟩ ?_
      refine lv_iload_n hx hb dX1_whaleOn_17 rfl (lv_at hl 1 rfl) ?_
      refine lv_icmp_ne (tgt := 23) hx hb dX1_whaleOn_18 (by decide) (fun c6 => ?_) (fun c6 => ?_)
      · have h := ite_f c6 h
        refine lv_iinc (v := (l2 + 1)) (lv' := [(2, .int (l2 + 1)), (0, .ref a_g), (1, .int l1)]) hx hb dX1_whaleOn_23 hl (k := 2) rfl rfl (by decide) rfl (fun ls hl => ?_)
        refine lv_goto (tgt := 2) hx hb dX1_whaleOn_26 (by decide) ?_
        exact ih l1 (l2 + 1) _ (lv_sub hl [1, 2, 0] rfl) h
      · have h := ite_t c6 h
        refine lv_iload_n hx hb dX1_whaleOn_21 rfl (lv_at hl 2 rfl) ?_
        exact hret _ _ _ _ dX1_whaleOn_22 rfl (Option.some.inj h)
set_option maxHeartbeats 4000000 in
set_option maxRecDepth 100000 in
theorem kX1_whaleOn (l : Launch) (D : va_G) (T : Nat → ClassId) (a_g a_gw a_gk : Nat) (v_gw : Nat → Int32) (v_gk : Nat → Int32) (p0 : Int32) (r : Int32) (h : fX1_whaleOn v_gw v_gk p0 = some r) : RdI l yX1_whaleOn cX1_whaleOn 3 .int ({ frames := 1, cells := 0, slots := 0, locals := 23 } : Room) D T [(a_g, .inr (1, [.ref a_gw, .ref a_gk])), (a_gw, .inl (T 0, 90, .inl v_gw)), (a_gk, .inl (T 0, 18, .inl v_gk))] [.ref a_g, .int p0] r := by
  unfold fX1_whaleOn at h
  refine rdMet (by decide +kernel) rfl (fun p e s m args below meth c Q C hE hP hret ls hl => ?_)
  have hx := C.1
  have hb := C.2.1
  have hl : lv_has ls 3 [(0, .ref a_g), (1, .int p0)] := hl
  refine lv_iconst (v := 0) hx hb dX1_whaleOn_0 (by decide) ?_
  refine lv_istore_n (lv' := [(2, .int 0), (0, .ref a_g), (1, .int p0)]) hx hb dX1_whaleOn_1 rfl hl (by decide) rfl (fun ls hl => ?_)
  exact lX1_whaleOn_2 C hE hP hret 64 p0 0 _ (lv_sub hl [1, 2, 0] rfl) h

def fX1_countOf_29 (v_gw : Nat → Int32) (v_gk : Nat → Int32) (rec4 : Int32 → Int32 → Int32 → Option Int32) (x0 : Int32) (x1 : Int32) (l1 : Int32) (l3 : Int32) : Option Int32 :=
  rec4 l1 (x0 + x1) (l3 + 1)
def fX1_countOf_4 (v_gw : Nat → Int32) (v_gk : Nat → Int32) : Nat → Int32 → Int32 → Int32 → Option Int32
  | 0, _, _, _ => none
  | k + 1, l1, l2, l3 =>
    (fX1_count v_gk 0).bind fun q1 =>
    if q1 ≤ l3 then
      some l2
    else
      (fX1_of v_gw l3 0).bind fun q4 =>
      fX1_countOf_29 v_gw v_gk (fX1_countOf_4 v_gw v_gk k) l2 (if q4 = l1 then 1 else 0) l1 l3
def fX1_countOf (v_gw : Nat → Int32) (v_gk : Nat → Int32) (p0 : Int32) : Option Int32 :=
  fX1_countOf_4 v_gw v_gk 64 p0 0 0
set_option maxHeartbeats 4000000 in
set_option maxRecDepth 100000 in
theorem lX1_countOf_29 {p : Program} {l : Launch} {e : Env} {s : State} {m : MethodId} {args : Array Value} {below : List Frame} {meth : Method} {c : Code} {Q : State → Prop} {D : va_G} {T : Nat → ClassId} {a_g a_gw a_gk : Nat} {v_gw : Nat → Int32} {v_gk : Nat → Int32} {r : Int32} (C : CallFix p m c cX1_countOf 4 s args aw RX1) (hE : eK D T s) (hP : va_P D kC [(a_g, .inr (1, [.ref a_gw, .ref a_gk])), (a_gw, .inl (T 0, 90, .inl v_gw)), (a_gk, .inl (T 0, 18, .inl v_gk))] s.heap) (hret : RdRet p l e ({ frames := 1, cells := 0, slots := 0, locals := 23 } : Room) s m args below meth c Q cX1_countOf .int r) {rec4 : Int32 → Int32 → Int32 → Option Int32} (hrec4 : ∀ (l1 : Int32) (l2 : Int32) (l3 : Int32) (ls : Array Slot) (hl : lv_has ls 4 [(0, .ref a_g), (1, .int l1), (2, .int l2), (3, .int l3)]) (h : rec4 l1 l2 l3 = some r), W p l e ({ frames := 1, cells := 0, slots := 0, locals := 23 } : Room) s m args below meth c s.heap [] 0 0 Q (F0 m 4 ls [])) (x0 : Int32) (x1 : Int32) (l1 : Int32) (l3 : Int32) (ls : Array Slot) (hl : lv_has ls 4 [(0, .ref a_g), (1, .int l1), (3, .int l3)]) (h : fX1_countOf_29 v_gw v_gk rec4 x0 x1 l1 l3 = some r) : W p l e ({ frames := 1, cells := 0, slots := 0, locals := 23 } : Room) s m args below meth c s.heap [] 0 0 Q (F0 m 29 ls [.int x1, .int x0]) := by
  have hx := C.1
  have hb := C.2.1
  unfold fX1_countOf_29 at h
  refine lv_iadd hx hb dX1_countOf_29 ?_
  refine lv_istore_n (lv' := [(2, .int (x0 + x1)), (0, .ref a_g), (1, .int l1), (3, .int l3)]) hx hb dX1_countOf_30 rfl hl (by decide) rfl (fun ls hl => ?_)
  refine lv_iinc (v := (l3 + 1)) (lv' := [(3, .int (l3 + 1)), (2, .int (x0 + x1)), (0, .ref a_g), (1, .int l1)]) hx hb dX1_countOf_31 hl (k := 3) rfl rfl (by decide) rfl (fun ls hl => ?_)
  refine lv_goto (tgt := 4) hx hb dX1_countOf_34 (by decide) ?_
  exact hrec4 l1 (x0 + x1) (l3 + 1) _ (lv_sub hl [2, 3, 1, 0] rfl) h
set_option maxHeartbeats 4000000 in
set_option maxRecDepth 100000 in
theorem lX1_countOf_4 {p : Program} {l : Launch} {e : Env} {s : State} {m : MethodId} {args : Array Value} {below : List Frame} {meth : Method} {c : Code} {Q : State → Prop} {D : va_G} {T : Nat → ClassId} {a_g a_gw a_gk : Nat} {v_gw : Nat → Int32} {v_gk : Nat → Int32} {r : Int32} (C : CallFix p m c cX1_countOf 4 s args aw RX1) (hE : eK D T s) (hP : va_P D kC [(a_g, .inr (1, [.ref a_gw, .ref a_gk])), (a_gw, .inl (T 0, 90, .inl v_gw)), (a_gk, .inl (T 0, 18, .inl v_gk))] s.heap) (hret : RdRet p l e ({ frames := 1, cells := 0, slots := 0, locals := 23 } : Room) s m args below meth c Q cX1_countOf .int r) : ∀ (k : Nat) (l1 : Int32) (l2 : Int32) (l3 : Int32) (ls : Array Slot) (hl : lv_has ls 4 [(0, .ref a_g), (1, .int l1), (2, .int l2), (3, .int l3)]) (h : fX1_countOf_4 v_gw v_gk k l1 l2 l3 = some r), W p l e ({ frames := 1, cells := 0, slots := 0, locals := 23 } : Room) s m args below meth c s.heap [] 0 0 Q (F0 m 4 ls []) := by
  have hx := C.1
  have hb := C.2.1
  intro k
  induction k with
  | zero =>
    intro l1 l2 l3  ls hl h
    exact nomatch (show (none : Option Int32) = some r from h)
  | succ k ih =>
    intro l1 l2 l3  ls hl h
    rw [fX1_countOf_4] at h
    refine lv_iload_n hx hb dX1_countOf_4 rfl (lv_at hl 3 rfl) ?_
    refine lv_aload_n hx hb dX1_countOf_5 rfl (lv_at hl 0 rfl) ?_
    refine lv_iconst (v := 0) hx hb dX1_countOf_6 (by decide) ?_
    obtain ⟨q1, e2, h⟩ := bnd h
    refine rdV C hE hP (kX1_count l D T a_g a_gw a_gk v_gk 0 q1 e2) mX1_count qLX1_28 [0, 2] 0 rfl rfl rfl rfl ⟨rfl, rfl⟩ ⟨Nat.le_of_ble_eq_true rfl, Nat.le_of_ble_eq_true rfl⟩ rfl hl.1 rfl (Nat.le_of_ble_eq_true rfl) dX1_countOf_7 ⟨Nat.le_of_ble_eq_true rfl, Nat.le_of_ble_eq_true rfl⟩ ?_
    refine lv_icmp_ge (tgt := 37) hx hb dX1_countOf_10 (by decide) (fun c3 => ?_) (fun c3 => ?_)
    · have h := ite_t c3 h
      refine lv_iload_n hx hb dX1_countOf_37 rfl (lv_at hl 2 rfl) ?_
      exact hret _ _ _ _ dX1_countOf_38 rfl (Option.some.inj h)
    · have h := ite_f c3 h
      refine lv_iload_n hx hb dX1_countOf_13 rfl (lv_at hl 2 rfl) ?_
      refine lv_aload_n hx hb dX1_countOf_14 rfl (lv_at hl 0 rfl) ?_
      refine lv_iload_n hx hb dX1_countOf_15 rfl (lv_at hl 3 rfl) ?_
      refine lv_iconst (v := 0) hx hb dX1_countOf_16 (by decide) ?_
      obtain ⟨q4, e5, h⟩ := bnd h
      refine rdV C hE hP (kX1_of l D T a_g a_gw a_gk v_gw l3 0 q4 e5) mX1_of qLX1_32 [0, 1] 0 rfl rfl rfl rfl ⟨rfl, rfl⟩ ⟨Nat.le_of_ble_eq_true rfl, Nat.le_of_ble_eq_true rfl⟩ rfl hl.1 rfl (Nat.le_of_ble_eq_true rfl) dX1_countOf_17 ⟨Nat.le_of_ble_eq_true rfl, Nat.le_of_ble_eq_true rfl⟩ ?_
      refine lv_iload_n hx hb dX1_countOf_20 rfl (lv_at hl 1 rfl) ?_
      refine lv_icmp_ne (tgt := 28) hx hb dX1_countOf_21 (by decide) (fun c6 => ?_) (fun c6 => ?_)
      · rw [if_neg c6] at h
        refine lv_iconst (v := 0) hx hb dX1_countOf_28 (by decide) ?_
        exact lX1_countOf_29 C hE hP hret ih l2 0 l1 l3 _ (lv_sub hl [0, 1, 3] rfl) h
      · rw [if_pos c6] at h
        refine lv_iconst (v := 1) hx hb dX1_countOf_24 (by decide) ?_
        refine lv_goto (tgt := 29) hx hb dX1_countOf_25 (by decide) ?_
        exact lX1_countOf_29 C hE hP hret ih l2 1 l1 l3 _ (lv_sub hl [0, 1, 3] rfl) h
set_option maxHeartbeats 4000000 in
set_option maxRecDepth 100000 in
theorem kX1_countOf (l : Launch) (D : va_G) (T : Nat → ClassId) (a_g a_gw a_gk : Nat) (v_gw : Nat → Int32) (v_gk : Nat → Int32) (p0 : Int32) (r : Int32) (h : fX1_countOf v_gw v_gk p0 = some r) : RdI l yX1_countOf cX1_countOf 4 .int ({ frames := 1, cells := 0, slots := 0, locals := 23 } : Room) D T [(a_g, .inr (1, [.ref a_gw, .ref a_gk])), (a_gw, .inl (T 0, 90, .inl v_gw)), (a_gk, .inl (T 0, 18, .inl v_gk))] [.ref a_g, .int p0] r := by
  unfold fX1_countOf at h
  refine rdMet (by decide +kernel) rfl (fun p e s m args below meth c Q C hE hP hret ls hl => ?_)
  have hx := C.1
  have hb := C.2.1
  have hl : lv_has ls 4 [(0, .ref a_g), (1, .int p0)] := hl
  refine lv_iconst (v := 0) hx hb dX1_countOf_0 (by decide) ?_
  refine lv_istore_n (lv' := [(2, .int 0), (0, .ref a_g), (1, .int p0)]) hx hb dX1_countOf_1 rfl hl (by decide) rfl (fun ls hl => ?_)
  refine lv_iconst (v := 0) hx hb dX1_countOf_2 (by decide) ?_
  refine lv_istore_n (lv' := [(3, .int 0), (2, .int 0), (0, .ref a_g), (1, .int p0)]) hx hb dX1_countOf_3 rfl hl (by decide) rfl (fun ls hl => ?_)
  exact lX1_countOf_4 C hE hP hret 64 p0 0 0 _ (lv_sub hl [2, 3, 1, 0] rfl) h

def fX1_firstCell_24 (v_gw : Nat → Int32) (v_gk : Nat → Int32) (x0 : Int32) (l2 : Int32) : Option Int32 :=
  some (x0 + (l2 * 9))
def fX1_firstCell (v_gw : Nat → Int32) (v_gk : Nat → Int32) (p0 : Int32) : Option Int32 :=
  (fX1_countOf v_gw v_gk p0).bind fun q1 =>
  if q1 < 3 then
    fX1_firstCell_24 v_gw v_gk (if p0 = 0 then 10 else 16) q1
  else
    some (-1)
set_option maxHeartbeats 4000000 in
set_option maxRecDepth 100000 in
theorem lX1_firstCell_24 {p : Program} {l : Launch} {e : Env} {s : State} {m : MethodId} {args : Array Value} {below : List Frame} {meth : Method} {c : Code} {Q : State → Prop} {D : va_G} {T : Nat → ClassId} {a_g a_gw a_gk : Nat} {v_gw : Nat → Int32} {v_gk : Nat → Int32} {r : Int32} (C : CallFix p m c cX1_firstCell 4 s args aw RX1) (hE : eK D T s) (hP : va_P D kC [(a_g, .inr (1, [.ref a_gw, .ref a_gk])), (a_gw, .inl (T 0, 90, .inl v_gw)), (a_gk, .inl (T 0, 18, .inl v_gk))] s.heap) (hret : RdRet p l e ({ frames := 2, cells := 0, slots := 0, locals := 46 } : Room) s m args below meth c Q cX1_firstCell .int r) (x0 : Int32) (l2 : Int32) (ls : Array Slot) (hl : lv_has ls 4 [(2, .int l2)]) (h : fX1_firstCell_24 v_gw v_gk x0 l2 = some r) : W p l e ({ frames := 2, cells := 0, slots := 0, locals := 46 } : Room) s m args below meth c s.heap [] 0 0 Q (F0 m 24 ls [.int x0]) := by
  have hx := C.1
  have hb := C.2.1
  unfold fX1_firstCell_24 at h
  refine lv_istore_n (lv' := [(3, .int x0), (2, .int l2)]) hx hb dX1_firstCell_24 rfl hl (by decide) rfl (fun ls hl => ?_)
  refine lv_iload_n hx hb dX1_firstCell_25 rfl (lv_at hl 0 rfl) ?_
  refine lv_iload_n hx hb dX1_firstCell_26 rfl (lv_at hl 1 rfl) ?_
  refine lv_bipush (v := 9) hx hb dX1_firstCell_27 (by decide) ?_
  refine lv_imul hx hb dX1_firstCell_29 ?_
  refine lv_iadd hx hb dX1_firstCell_30 ?_
  exact hret _ _ _ _ dX1_firstCell_31 rfl (Option.some.inj h)
set_option maxHeartbeats 4000000 in
set_option maxRecDepth 100000 in
theorem kX1_firstCell (l : Launch) (D : va_G) (T : Nat → ClassId) (a_g a_gw a_gk : Nat) (v_gw : Nat → Int32) (v_gk : Nat → Int32) (p0 : Int32) (r : Int32) (h : fX1_firstCell v_gw v_gk p0 = some r) : RdI l yX1_firstCell cX1_firstCell 4 .int ({ frames := 2, cells := 0, slots := 0, locals := 46 } : Room) D T [(a_g, .inr (1, [.ref a_gw, .ref a_gk])), (a_gw, .inl (T 0, 90, .inl v_gw)), (a_gk, .inl (T 0, 18, .inl v_gk))] [.ref a_g, .int p0] r := by
  unfold fX1_firstCell at h
  refine rdMet (by decide +kernel) rfl (fun p e s m args below meth c Q C hE hP hret ls hl => ?_)
  have hx := C.1
  have hb := C.2.1
  have hl : lv_has ls 4 [(0, .ref a_g), (1, .int p0)] := hl
  refine lv_aload_n hx hb dX1_firstCell_0 rfl (lv_at hl 0 rfl) ?_
  refine lv_iload_n hx hb dX1_firstCell_1 rfl (lv_at hl 1 rfl) ?_
  obtain ⟨q1, e2, h⟩ := bnd h
  refine rdV C hE hP (kX1_countOf l D T a_g a_gw a_gk v_gw v_gk p0 q1 e2) mX1_countOf qLX1_53 [0, 1, 2] 0 rfl rfl rfl rfl ⟨rfl, rfl⟩ ⟨Nat.le_of_ble_eq_true rfl, Nat.le_of_ble_eq_true rfl⟩ rfl hl.1 rfl (Nat.le_of_ble_eq_true rfl) dX1_firstCell_2 ⟨Nat.le_of_ble_eq_true rfl, Nat.le_of_ble_eq_true rfl⟩ ?_
  refine lv_istore_n (lv' := [(2, .int q1), (0, .ref a_g), (1, .int p0)]) hx hb dX1_firstCell_5 rfl hl (by decide) rfl (fun ls hl => ?_)
  refine lv_iload_n hx hb dX1_firstCell_6 rfl (lv_at hl 0 rfl) ?_
  refine lv_iconst (v := 3) hx hb dX1_firstCell_7 (by decide) ?_
  refine lv_icmp_lt (tgt := 13) hx hb dX1_firstCell_8 (by decide) (fun c3 => ?_) (fun c3 => ?_)
  · have h := ite_t c3 h
    refine lv_iload_n hx hb dX1_firstCell_13 rfl (lv_at hl 2 rfl) ?_
    refine lv_if_ne (tgt := 22) hx hb dX1_firstCell_14 (by decide) (fun c4 => ?_) (fun c4 => ?_)
    · rw [if_neg c4] at h
      refine lv_bipush (v := 16) hx hb dX1_firstCell_22 (by decide) ?_
      exact lX1_firstCell_24 C hE hP hret 16 q1 _ (lv_sub hl [0] rfl) h
    · rw [if_pos c4] at h
      refine lv_bipush (v := 10) hx hb dX1_firstCell_17 (by decide) ?_
      refine lv_goto (tgt := 24) hx hb dX1_firstCell_19 (by decide) ?_
      exact lX1_firstCell_24 C hE hP hret 10 q1 _ (lv_sub hl [0] rfl) h
  · have h := ite_f c3 h
    refine lv_iconst (v := (-1)) hx hb dX1_firstCell_11 (by decide) ?_
    exact hret _ _ _ _ dX1_firstCell_12 rfl (Option.some.inj h)

def fX1_setCount (v_gk : Nat → Int32) (p0 : Int32) (p1 : Int32) : Option ((Nat → Int32)) :=
  if p0 < 0 then
    some v_gk
  else
    if 18 ≤ p0 then
      some v_gk
    else
      if vin p0 18 = true then
      some (upd v_gk p0.toNatClampNeg p1)
      else none
set_option maxHeartbeats 4000000 in
set_option maxRecDepth 100000 in
theorem kX1_setCount (l : Launch) (D : va_G) (T : Nat → ClassId) (a_g a_gw a_gk : Nat) (v_gk : Nat → Int32) (p0 : Int32) (p1 : Int32) (sz : Nat) (r : (Nat → Int32)) (h : fX1_setCount v_gk p0 p1 = some r) : WrV l yX1_setCount cX1_setCount 3 ({ frames := 0, cells := 0, slots := 0, locals := 0 } : Room) D T sz [(a_g, .inr (1, [.ref a_gw, .ref a_gk])), (a_gk, .inl (T 0, 18, .inl v_gk))] [(a_g, .inr (1, [.ref a_gw, .ref a_gk])), (a_gk, .inl (T 0, 18, .inl r))] [.ref a_g, .int p0, .int p1] := by
  unfold fX1_setCount at h
  refine wrMetV (by decide +kernel) rfl (fun p e s m args below meth c Q A C hE hA hP hD hS hret ls hl => ?_)
  have hx := C.1
  have hb := C.2.1
  have hl : lv_has ls 3 [(0, .ref a_g), (1, .int p0), (2, .int p1)] := hl
  refine lv_iload_n hx hb dX1_setCount_0 rfl (lv_at hl 1 rfl) ?_
  refine lv_if_lt (tgt := 20) hx hb dX1_setCount_1 (by decide) (fun c1 => ?_) (fun c1 => ?_)
  · have h := ite_t c1 h
    have h := Option.some.inj h
    exact hret _ _ _ _ dX1_setCount_20 (by rw [← h]; exact hP) hS
  · have h := ite_f c1 h
    refine lv_iload_n hx hb dX1_setCount_4 rfl (lv_at hl 1 rfl) ?_
    refine lv_aload_n hx hb dX1_setCount_5 rfl (lv_at hl 0 rfl) ?_
    refine getF (q0 := 0) (k0 := 1) (v := .ref a_gk) C hE hP inA1 rfl rfl (by decide) qFX1_15 rfl rfl dX1_setCount_6 ?_
    refine alen (q0 := 1) (t0 := 0) (v := 18) C hE hP rfl rfl (by decide) dX1_setCount_9 ?_
    refine lv_icmp_ge (tgt := 20) hx hb dX1_setCount_10 (by decide) (fun c2 => ?_) (fun c2 => ?_)
    · have h := ite_t c2 h
      have h := Option.some.inj h
      exact hret _ _ _ _ dX1_setCount_20 (by rw [← h]; exact hP) hS
    · have h := ite_f c2 h
      refine lv_aload_n hx hb dX1_setCount_13 rfl (lv_at hl 0 rfl) ?_
      refine getF (q0 := 0) (k0 := 1) (v := .ref a_gk) C hE hP inA1 rfl rfl (by decide) qFX1_15 rfl rfl dX1_setCount_14 ?_
      refine lv_iload_n hx hb dX1_setCount_17 rfl (lv_at hl 1 rfl) ?_
      refine lv_iload_n hx hb dX1_setCount_18 rfl (lv_at hl 2 rfl) ?_
      obtain ⟨g3, h⟩ := gd h
      refine astI (q0 := 1) (ws1 := [(a_g, .inr (1, [.ref a_gw, .ref a_gk])), (a_gk, .inl (T 0, 18, .inl (upd v_gk p0.toNatClampNeg p1)))]) C hE hP hD hS rfl g3 rfl dX1_setCount_19 (fun H locs hP hD hS => ?_)
      have h := Option.some.inj h
      exact hret _ _ _ _ dX1_setCount_20 (by rw [← h]; exact hP) hS

def fX1_addCount (v_gk : Nat → Int32) (p0 : Int32) (p1 : Int32) : Option ((Nat → Int32)) :=
  (fX1_count v_gk p0).bind fun q1 =>
  (fX1_setCount v_gk p0 (q1 + p1)).bind fun q3 =>
  some q3
set_option maxHeartbeats 4000000 in
set_option maxRecDepth 100000 in
theorem kX1_addCount (l : Launch) (D : va_G) (T : Nat → ClassId) (a_g a_gw a_gk : Nat) (v_gk : Nat → Int32) (p0 : Int32) (p1 : Int32) (sz : Nat) (r : (Nat → Int32)) (h : fX1_addCount v_gk p0 p1 = some r) : WrV l yX1_addCount cX1_addCount 3 ({ frames := 1, cells := 0, slots := 0, locals := 22 } : Room) D T sz [(a_g, .inr (1, [.ref a_gw, .ref a_gk])), (a_gk, .inl (T 0, 18, .inl v_gk))] [(a_g, .inr (1, [.ref a_gw, .ref a_gk])), (a_gk, .inl (T 0, 18, .inl r))] [.ref a_g, .int p0, .int p1] := by
  unfold fX1_addCount at h
  refine wrMetV (by decide +kernel) rfl (fun p e s m args below meth c Q A C hE hA hP hD hS hret ls hl => ?_)
  have hx := C.1
  have hb := C.2.1
  have hl : lv_has ls 3 [(0, .ref a_g), (1, .int p0), (2, .int p1)] := hl
  refine lv_aload_n hx hb dX1_addCount_0 rfl (lv_at hl 0 rfl) ?_
  refine lv_iload_n hx hb dX1_addCount_1 rfl (lv_at hl 1 rfl) ?_
  refine lv_aload_n hx hb dX1_addCount_2 rfl (lv_at hl 0 rfl) ?_
  refine lv_iload_n hx hb dX1_addCount_3 rfl (lv_at hl 1 rfl) ?_
  obtain ⟨q1, e2, h⟩ := bnd h
  refine rdV C hE hP (kX1_count l D T a_g a_gw a_gk v_gk p0 q1 e2) mX1_count qLX1_28 [0, 1] 0 rfl rfl rfl rfl ⟨rfl, rfl⟩ ⟨Nat.le_of_ble_eq_true rfl, Nat.le_of_ble_eq_true rfl⟩ rfl hl.1 rfl (Nat.le_of_ble_eq_true rfl) dX1_addCount_4 ⟨Nat.le_of_ble_eq_true rfl, Nat.le_of_ble_eq_true rfl⟩ ?_
  refine lv_iload_n hx hb dX1_addCount_7 rfl (lv_at hl 2 rfl) ?_
  refine lv_iadd hx hb dX1_addCount_8 ?_
  obtain ⟨q3, e4, h⟩ := bnd h
  refine wrVv (ws1 := [(a_g, .inr (1, [.ref a_gw, .ref a_gk])), (a_gk, .inl (T 0, 18, .inl q3))]) C hE hP hD hS hA (kX1_setCount l D T a_g a_gw a_gk v_gk p0 (q1 + p1) _ q3 e4) mX1_setCount qLX1_18 [0, 1] [] 0 rfl rfl rfl rfl rfl rfl rfl rfl rfl ⟨rfl, rfl⟩ ⟨Nat.le_of_ble_eq_true rfl, Nat.le_of_ble_eq_true rfl⟩ rfl hl.1 rfl (Nat.le_of_ble_eq_true rfl) dX1_addCount_9 ⟨Nat.le_of_ble_eq_true rfl, Nat.le_of_ble_eq_true rfl⟩ (fun H locs hP hD hS => ?_)
  have h := Option.some.inj h
  exact hret _ _ _ _ dX1_addCount_12 (by rw [← h]; exact hP) hS

def fX1_set (v_gw : Nat → Int32) (p0 : Int32) (p1 : Int32) (p2 : Int32) : Option ((Nat → Int32)) :=
  if ((p0 * 9) + p1) < 0 then
    some v_gw
  else
    if 90 ≤ ((p0 * 9) + p1) then
      some v_gw
    else
      if vin ((p0 * 9) + p1) 90 = true then
      some (upd v_gw ((p0 * 9) + p1).toNatClampNeg p2)
      else none
set_option maxHeartbeats 4000000 in
set_option maxRecDepth 100000 in
theorem kX1_set (l : Launch) (D : va_G) (T : Nat → ClassId) (a_g a_gw a_gk : Nat) (v_gw : Nat → Int32) (p0 : Int32) (p1 : Int32) (p2 : Int32) (sz : Nat) (r : (Nat → Int32)) (h : fX1_set v_gw p0 p1 p2 = some r) : WrV l yX1_set cX1_set 5 ({ frames := 0, cells := 0, slots := 0, locals := 0 } : Room) D T sz [(a_g, .inr (1, [.ref a_gw, .ref a_gk])), (a_gw, .inl (T 0, 90, .inl v_gw))] [(a_g, .inr (1, [.ref a_gw, .ref a_gk])), (a_gw, .inl (T 0, 90, .inl r))] [.ref a_g, .int p0, .int p1, .int p2] := by
  unfold fX1_set at h
  refine wrMetV (by decide +kernel) rfl (fun p e s m args below meth c Q A C hE hA hP hD hS hret ls hl => ?_)
  have hx := C.1
  have hb := C.2.1
  have hl : lv_has ls 5 [(0, .ref a_g), (1, .int p0), (2, .int p1), (3, .int p2)] := hl
  refine lv_iload_n hx hb dX1_set_0 rfl (lv_at hl 1 rfl) ?_
  refine lv_bipush (v := 9) hx hb dX1_set_1 (by decide) ?_
  refine lv_imul hx hb dX1_set_3 ?_
  refine lv_iload_n hx hb dX1_set_4 rfl (lv_at hl 2 rfl) ?_
  refine lv_iadd hx hb dX1_set_5 ?_
  refine lv_istore (lv' := [(4, .int ((p0 * 9) + p1)), (0, .ref a_g), (1, .int p0), (2, .int p1), (3, .int p2)]) hx hb dX1_set_6 hl (by decide) rfl (fun ls hl => ?_)
  refine lv_iload hx hb dX1_set_8 (lv_at hl 0 rfl) ?_
  refine lv_if_lt (tgt := 31) hx hb dX1_set_10 (by decide) (fun c1 => ?_) (fun c1 => ?_)
  · have h := ite_t c1 h
    have h := Option.some.inj h
    exact hret _ _ _ _ dX1_set_31 (by rw [← h]; exact hP) hS
  · have h := ite_f c1 h
    refine lv_iload hx hb dX1_set_13 (lv_at hl 0 rfl) ?_
    refine lv_aload_n hx hb dX1_set_15 rfl (lv_at hl 1 rfl) ?_
    refine getF (q0 := 0) (k0 := 0) (v := .ref a_gw) C hE hP inA1 rfl rfl (by decide) qFX1_9 rfl rfl dX1_set_16 ?_
    refine alen (q0 := 1) (t0 := 0) (v := 90) C hE hP rfl rfl (by decide) dX1_set_19 ?_
    refine lv_icmp_ge (tgt := 31) hx hb dX1_set_20 (by decide) (fun c2 => ?_) (fun c2 => ?_)
    · have h := ite_t c2 h
      have h := Option.some.inj h
      exact hret _ _ _ _ dX1_set_31 (by rw [← h]; exact hP) hS
    · have h := ite_f c2 h
      refine lv_aload_n hx hb dX1_set_23 rfl (lv_at hl 1 rfl) ?_
      refine getF (q0 := 0) (k0 := 0) (v := .ref a_gw) C hE hP inA1 rfl rfl (by decide) qFX1_9 rfl rfl dX1_set_24 ?_
      refine lv_iload hx hb dX1_set_27 (lv_at hl 0 rfl) ?_
      refine lv_iload_n hx hb dX1_set_29 rfl (lv_at hl 4 rfl) ?_
      obtain ⟨g3, h⟩ := gd h
      refine astI (q0 := 1) (ws1 := [(a_g, .inr (1, [.ref a_gw, .ref a_gk])), (a_gw, .inl (T 0, 90, .inl (upd v_gw ((p0 * 9) + p1).toNatClampNeg p2)))]) C hE hP hD hS rfl g3 rfl dX1_set_30 (fun H locs hP hD hS => ?_)
      have h := Option.some.inj h
      exact hret _ _ _ _ dX1_set_31 (by rw [← h]; exact hP) hS

def fX1_add (v_gw : Nat → Int32) (p0 : Int32) (p1 : Int32) (p2 : Int32) : Option ((Nat → Int32)) :=
  (fX1_of v_gw p0 p1).bind fun q1 =>
  (fX1_set v_gw p0 p1 (q1 + p2)).bind fun q3 =>
  some q3
set_option maxHeartbeats 4000000 in
set_option maxRecDepth 100000 in
theorem kX1_add (l : Launch) (D : va_G) (T : Nat → ClassId) (a_g a_gw a_gk : Nat) (v_gw : Nat → Int32) (p0 : Int32) (p1 : Int32) (p2 : Int32) (sz : Nat) (r : (Nat → Int32)) (h : fX1_add v_gw p0 p1 p2 = some r) : WrV l yX1_add cX1_add 4 ({ frames := 1, cells := 0, slots := 0, locals := 24 } : Room) D T sz [(a_g, .inr (1, [.ref a_gw, .ref a_gk])), (a_gw, .inl (T 0, 90, .inl v_gw))] [(a_g, .inr (1, [.ref a_gw, .ref a_gk])), (a_gw, .inl (T 0, 90, .inl r))] [.ref a_g, .int p0, .int p1, .int p2] := by
  unfold fX1_add at h
  refine wrMetV (by decide +kernel) rfl (fun p e s m args below meth c Q A C hE hA hP hD hS hret ls hl => ?_)
  have hx := C.1
  have hb := C.2.1
  have hl : lv_has ls 4 [(0, .ref a_g), (1, .int p0), (2, .int p1), (3, .int p2)] := hl
  refine lv_aload_n hx hb dX1_add_0 rfl (lv_at hl 0 rfl) ?_
  refine lv_iload_n hx hb dX1_add_1 rfl (lv_at hl 1 rfl) ?_
  refine lv_iload_n hx hb dX1_add_2 rfl (lv_at hl 2 rfl) ?_
  refine lv_aload_n hx hb dX1_add_3 rfl (lv_at hl 0 rfl) ?_
  refine lv_iload_n hx hb dX1_add_4 rfl (lv_at hl 1 rfl) ?_
  refine lv_iload_n hx hb dX1_add_5 rfl (lv_at hl 2 rfl) ?_
  obtain ⟨q1, e2, h⟩ := bnd h
  refine rdV C hE hP (kX1_of l D T a_g a_gw a_gk v_gw p0 p1 q1 e2) mX1_of qLX1_32 [0, 1] 0 rfl rfl rfl rfl ⟨rfl, rfl⟩ ⟨Nat.le_of_ble_eq_true rfl, Nat.le_of_ble_eq_true rfl⟩ rfl hl.1 rfl (Nat.le_of_ble_eq_true rfl) dX1_add_6 ⟨Nat.le_of_ble_eq_true rfl, Nat.le_of_ble_eq_true rfl⟩ ?_
  refine lv_iload_n hx hb dX1_add_9 rfl (lv_at hl 3 rfl) ?_
  refine lv_iadd hx hb dX1_add_10 ?_
  obtain ⟨q3, e4, h⟩ := bnd h
  refine wrVv (ws1 := [(a_g, .inr (1, [.ref a_gw, .ref a_gk])), (a_gw, .inl (T 0, 90, .inl q3))]) C hE hP hD hS hA (kX1_set l D T a_g a_gw a_gk v_gw p0 p1 (q1 + p2) _ q3 e4) mX1_set qLX1_36 [0, 1] [] 0 rfl rfl rfl rfl rfl rfl rfl rfl rfl ⟨rfl, rfl⟩ ⟨Nat.le_of_ble_eq_true rfl, Nat.le_of_ble_eq_true rfl⟩ rfl hl.1 rfl (Nat.le_of_ble_eq_true rfl) dX1_add_11 ⟨Nat.le_of_ble_eq_true rfl, Nat.le_of_ble_eq_true rfl⟩ (fun H locs hP hD hS => ?_)
  have h := Option.some.inj h
  exact hret _ _ _ _ dX1_add_14 (by rw [← h]; exact hP) hS

def fX1_addWhale (v_gw : Nat → Int32) (v_gk : Nat → Int32) (p0 : Int32) (p1 : Int32) (p2 : Int32) : Option (Int32 × (Nat → Int32) × (Nat → Int32)) :=
  (fX1_count v_gk 0).bind fun q1 =>
  (fX1_firstCell v_gw v_gk p0).bind fun q3 =>
  (fX1_set v_gw q1 4 q3).bind fun q5 =>
  (fX1_set q5 q1 0 p0).bind fun q7 =>
  (fX1_set q7 q1 1 p1).bind fun q9 =>
  (fX1_set q9 q1 2 p2).bind fun q11 =>
  (fX1_set q11 q1 3 20).bind fun q13 =>
  (fX1_addCount v_gk 0 1).bind fun q15 =>
  some (q1, q13, q15)
set_option maxHeartbeats 4000000 in
set_option maxRecDepth 100000 in
theorem kX1_addWhale (l : Launch) (D : va_G) (T : Nat → ClassId) (a_g a_gw a_gk : Nat) (v_gw : Nat → Int32) (v_gk : Nat → Int32) (p0 : Int32) (p1 : Int32) (p2 : Int32) (sz : Nat) (r : Int32 × (Nat → Int32) × (Nat → Int32)) (h : fX1_addWhale v_gw v_gk p0 p1 p2 = some r) : WrI l yX1_addWhale cX1_addWhale 5 .int ({ frames := 3, cells := 0, slots := 0, locals := 69 } : Room) D T sz [(a_g, .inr (1, [.ref a_gw, .ref a_gk])), (a_gw, .inl (T 0, 90, .inl v_gw)), (a_gk, .inl (T 0, 18, .inl v_gk))] [(a_g, .inr (1, [.ref a_gw, .ref a_gk])), (a_gw, .inl (T 0, 90, .inl r.2.1)), (a_gk, .inl (T 0, 18, .inl r.2.2))] [.ref a_g, .int p0, .int p1, .int p2] r.1 := by
  unfold fX1_addWhale at h
  refine wrMet (by decide +kernel) rfl (fun p e s m args below meth c Q A C hE hA hP hD hS hret ls hl => ?_)
  have hx := C.1
  have hb := C.2.1
  have hl : lv_has ls 5 [(0, .ref a_g), (1, .int p0), (2, .int p1), (3, .int p2)] := hl
  refine lv_aload_n hx hb dX1_addWhale_0 rfl (lv_at hl 0 rfl) ?_
  refine lv_iconst (v := 0) hx hb dX1_addWhale_1 (by decide) ?_
  obtain ⟨q1, e2, h⟩ := bnd h
  refine rdV C hE hP (kX1_count l D T a_g a_gw a_gk v_gk 0 q1 e2) mX1_count qLX1_28 [0, 2] 0 rfl rfl rfl rfl ⟨rfl, rfl⟩ ⟨Nat.le_of_ble_eq_true rfl, Nat.le_of_ble_eq_true rfl⟩ rfl hl.1 rfl (Nat.le_of_ble_eq_true rfl) dX1_addWhale_2 ⟨Nat.le_of_ble_eq_true rfl, Nat.le_of_ble_eq_true rfl⟩ ?_
  refine lv_istore (lv' := [(4, .int q1), (0, .ref a_g), (1, .int p0), (2, .int p1), (3, .int p2)]) hx hb dX1_addWhale_5 hl (by decide) rfl (fun ls hl => ?_)
  refine lv_aload_n hx hb dX1_addWhale_7 rfl (lv_at hl 1 rfl) ?_
  refine lv_iload hx hb dX1_addWhale_8 (lv_at hl 0 rfl) ?_
  refine lv_iconst (v := 4) hx hb dX1_addWhale_10 (by decide) ?_
  refine lv_aload_n hx hb dX1_addWhale_11 rfl (lv_at hl 1 rfl) ?_
  refine lv_iload_n hx hb dX1_addWhale_12 rfl (lv_at hl 2 rfl) ?_
  obtain ⟨q3, e4, h⟩ := bnd h
  refine rdV C hE hP (kX1_firstCell l D T a_g a_gw a_gk v_gw v_gk p0 q3 e4) mX1_firstCell qLX1_62 [0, 1, 2] 0 rfl rfl rfl rfl ⟨rfl, rfl⟩ ⟨Nat.le_of_ble_eq_true rfl, Nat.le_of_ble_eq_true rfl⟩ rfl hl.1 rfl (Nat.le_of_ble_eq_true rfl) dX1_addWhale_13 ⟨Nat.le_of_ble_eq_true rfl, Nat.le_of_ble_eq_true rfl⟩ ?_
  obtain ⟨q5, e6, h⟩ := bnd h
  refine wrVv (ws1 := [(a_g, .inr (1, [.ref a_gw, .ref a_gk])), (a_gw, .inl (T 0, 90, .inl q5)), (a_gk, .inl (T 0, 18, .inl v_gk))]) C hE hP hD hS hA (kX1_set l D T a_g a_gw a_gk v_gw q1 4 q3 _ q5 e6) mX1_set qLX1_36 [0, 1] [2] 0 rfl rfl rfl rfl rfl rfl rfl rfl rfl ⟨rfl, rfl⟩ ⟨Nat.le_of_ble_eq_true rfl, Nat.le_of_ble_eq_true rfl⟩ rfl hl.1 rfl (Nat.le_of_ble_eq_true rfl) dX1_addWhale_16 ⟨Nat.le_of_ble_eq_true rfl, Nat.le_of_ble_eq_true rfl⟩ (fun H locs hP hD hS => ?_)
  refine lv_aload_n hx hb dX1_addWhale_19 rfl (lv_at hl 1 rfl) ?_
  refine lv_iload hx hb dX1_addWhale_20 (lv_at hl 0 rfl) ?_
  refine lv_iconst (v := 0) hx hb dX1_addWhale_22 (by decide) ?_
  refine lv_iload_n hx hb dX1_addWhale_23 rfl (lv_at hl 2 rfl) ?_
  obtain ⟨q7, e8, h⟩ := bnd h
  refine wrVv (ws1 := [(a_g, .inr (1, [.ref a_gw, .ref a_gk])), (a_gw, .inl (T 0, 90, .inl q7)), (a_gk, .inl (T 0, 18, .inl v_gk))]) C hE hP hD hS hA (kX1_set l D T a_g a_gw a_gk q5 q1 0 p0 _ q7 e8) mX1_set qLX1_36 [0, 1] [2] 0 rfl rfl rfl rfl rfl rfl rfl rfl rfl ⟨rfl, rfl⟩ ⟨Nat.le_of_ble_eq_true rfl, Nat.le_of_ble_eq_true rfl⟩ rfl hl.1 rfl (Nat.le_of_ble_eq_true rfl) dX1_addWhale_24 ⟨Nat.le_of_ble_eq_true rfl, Nat.le_of_ble_eq_true rfl⟩ (fun H locs hP hD hS => ?_)
  refine lv_aload_n hx hb dX1_addWhale_27 rfl (lv_at hl 1 rfl) ?_
  refine lv_iload hx hb dX1_addWhale_28 (lv_at hl 0 rfl) ?_
  refine lv_iconst (v := 1) hx hb dX1_addWhale_30 (by decide) ?_
  refine lv_iload_n hx hb dX1_addWhale_31 rfl (lv_at hl 3 rfl) ?_
  obtain ⟨q9, e10, h⟩ := bnd h
  refine wrVv (ws1 := [(a_g, .inr (1, [.ref a_gw, .ref a_gk])), (a_gw, .inl (T 0, 90, .inl q9)), (a_gk, .inl (T 0, 18, .inl v_gk))]) C hE hP hD hS hA (kX1_set l D T a_g a_gw a_gk q7 q1 1 p1 _ q9 e10) mX1_set qLX1_36 [0, 1] [2] 0 rfl rfl rfl rfl rfl rfl rfl rfl rfl ⟨rfl, rfl⟩ ⟨Nat.le_of_ble_eq_true rfl, Nat.le_of_ble_eq_true rfl⟩ rfl hl.1 rfl (Nat.le_of_ble_eq_true rfl) dX1_addWhale_32 ⟨Nat.le_of_ble_eq_true rfl, Nat.le_of_ble_eq_true rfl⟩ (fun H locs hP hD hS => ?_)
  refine lv_aload_n hx hb dX1_addWhale_35 rfl (lv_at hl 1 rfl) ?_
  refine lv_iload hx hb dX1_addWhale_36 (lv_at hl 0 rfl) ?_
  refine lv_iconst (v := 2) hx hb dX1_addWhale_38 (by decide) ?_
  refine lv_iload_n hx hb dX1_addWhale_39 rfl (lv_at hl 4 rfl) ?_
  obtain ⟨q11, e12, h⟩ := bnd h
  refine wrVv (ws1 := [(a_g, .inr (1, [.ref a_gw, .ref a_gk])), (a_gw, .inl (T 0, 90, .inl q11)), (a_gk, .inl (T 0, 18, .inl v_gk))]) C hE hP hD hS hA (kX1_set l D T a_g a_gw a_gk q9 q1 2 p2 _ q11 e12) mX1_set qLX1_36 [0, 1] [2] 0 rfl rfl rfl rfl rfl rfl rfl rfl rfl ⟨rfl, rfl⟩ ⟨Nat.le_of_ble_eq_true rfl, Nat.le_of_ble_eq_true rfl⟩ rfl hl.1 rfl (Nat.le_of_ble_eq_true rfl) dX1_addWhale_40 ⟨Nat.le_of_ble_eq_true rfl, Nat.le_of_ble_eq_true rfl⟩ (fun H locs hP hD hS => ?_)
  refine lv_aload_n hx hb dX1_addWhale_43 rfl (lv_at hl 1 rfl) ?_
  refine lv_iload hx hb dX1_addWhale_44 (lv_at hl 0 rfl) ?_
  refine lv_iconst (v := 3) hx hb dX1_addWhale_46 (by decide) ?_
  refine lv_bipush (v := 20) hx hb dX1_addWhale_47 (by decide) ?_
  obtain ⟨q13, e14, h⟩ := bnd h
  refine wrVv (ws1 := [(a_g, .inr (1, [.ref a_gw, .ref a_gk])), (a_gw, .inl (T 0, 90, .inl q13)), (a_gk, .inl (T 0, 18, .inl v_gk))]) C hE hP hD hS hA (kX1_set l D T a_g a_gw a_gk q11 q1 3 20 _ q13 e14) mX1_set qLX1_36 [0, 1] [2] 0 rfl rfl rfl rfl rfl rfl rfl rfl rfl ⟨rfl, rfl⟩ ⟨Nat.le_of_ble_eq_true rfl, Nat.le_of_ble_eq_true rfl⟩ rfl hl.1 rfl (Nat.le_of_ble_eq_true rfl) dX1_addWhale_49 ⟨Nat.le_of_ble_eq_true rfl, Nat.le_of_ble_eq_true rfl⟩ (fun H locs hP hD hS => ?_)
  refine lv_aload_n hx hb dX1_addWhale_52 rfl (lv_at hl 1 rfl) ?_
  refine lv_iconst (v := 0) hx hb dX1_addWhale_53 (by decide) ?_
  refine lv_iconst (v := 1) hx hb dX1_addWhale_54 (by decide) ?_
  obtain ⟨q15, e16, h⟩ := bnd h
  refine wrVv (ws1 := [(a_g, .inr (1, [.ref a_gw, .ref a_gk])), (a_gw, .inl (T 0, 90, .inl q13)), (a_gk, .inl (T 0, 18, .inl q15))]) C hE hP hD hS hA (kX1_addCount l D T a_g a_gw a_gk v_gk 0 1 _ q15 e16) mX1_addCount qLX1_65 [0, 2] [1] 0 rfl rfl rfl rfl rfl rfl rfl rfl rfl ⟨rfl, rfl⟩ ⟨Nat.le_of_ble_eq_true rfl, Nat.le_of_ble_eq_true rfl⟩ rfl hl.1 rfl (Nat.le_of_ble_eq_true rfl) dX1_addWhale_55 ⟨Nat.le_of_ble_eq_true rfl, Nat.le_of_ble_eq_true rfl⟩ (fun H locs hP hD hS => ?_)
  refine lv_iload hx hb dX1_addWhale_58 (lv_at hl 0 rfl) ?_
  have h := Option.some.inj h
  exact hret _ _ _ _ _ _ dX1_addWhale_60 rfl (by rw [← h]) (by rw [← h]; exact hP) hS

def fX1_endChukka_30 : Nat → Int32 → (Nat → Int32) → (Nat → Int32) → Option ((Nat → Int32) × (Nat → Int32))
  | 0, _, _, _ => none
  | k + 1, l1, v_gw, v_gk =>
    (fX1_count v_gk 0).bind fun q9 =>
    if q9 ≤ l1 then
      some (v_gw, v_gk)
    else
      (fX1_set v_gw l1 5 0).bind fun q12 =>
      (fX1_of q12 l1 3).bind fun q14 =>
      (fX1_set q12 l1 3 (if 20 < (q14 + 5) then 20 else (q14 + 5))).bind fun q16 =>
      fX1_endChukka_30 k (l1 + 1) q16 v_gk
def fX1_endChukka (v_gw : Nat → Int32) (v_gk : Nat → Int32) : Option ((Nat → Int32) × (Nat → Int32)) :=
  (fX1_setCount v_gk 5 22).bind fun q1 =>
  (fX1_setCount q1 6 (-1)).bind fun q3 =>
  (fX1_setCount q3 16 0).bind fun q5 =>
  (fX1_setCount q5 17 0).bind fun q7 =>
  fX1_endChukka_30 64 0 v_gw q7
set_option maxHeartbeats 4000000 in
set_option maxRecDepth 100000 in
theorem lX1_endChukka_30 {p : Program} {l : Launch} {e : Env} {s : State} {m : MethodId} {args : Array Value} {below : List Frame} {meth : Method} {c : Code} {Q : State → Prop} {D : va_G} {T : Nat → ClassId} {a_g a_gw a_gk : Nat} {A : Nat → Prop} {r : (Nat → Int32) × (Nat → Int32)} (C : CallFix p m c cX1_endChukka 2 s args aw RX1) (hE : eK D T s) (hA : ∀ q : Nat, s.heap.size ≤ q → A q) (hret : WrRetV p l e ({ frames := 1, cells := 0, slots := 0, locals := 24 } : Room) s m args below meth c Q cX1_endChukka D A [(a_g, .inr (1, [.ref a_gw, .ref a_gk])), (a_gw, .inl (T 0, 90, .inl r.1)), (a_gk, .inl (T 0, 18, .inl r.2))]) : ∀ (k : Nat) (l1 : Int32) (v_gw : Nat → Int32) (v_gk : Nat → Int32) {H : Heap} {locs : List Loc} (hP : va_P D kC [(a_g, .inr (1, [.ref a_gw, .ref a_gk])), (a_gw, .inl (T 0, 90, .inl v_gw)), (a_gk, .inl (T 0, 18, .inl v_gk))] H) (hD : va_D A [(a_g, .inr (1, [.ref a_gw, .ref a_gk])), (a_gw, .inl (T 0, 90, .inl v_gw)), (a_gk, .inl (T 0, 18, .inl v_gk))]) (hS : va_S A s.heap H locs) (ls : Array Slot) (hl : lv_has ls 2 [(0, .ref a_g), (1, .int l1)]) (h : fX1_endChukka_30 k l1 v_gw v_gk = some r), W p l e ({ frames := 1, cells := 0, slots := 0, locals := 24 } : Room) s m args below meth c H locs 0 0 Q (F0 m 30 ls []) := by
  have hx := C.1
  have hb := C.2.1
  intro k
  induction k with
  | zero =>
    intro l1 v_gw v_gk H locs hP hD hS ls hl h
    exact nomatch (show (none : Option ((Nat → Int32) × (Nat → Int32))) = some r from h)
  | succ k ih =>
    intro l1 v_gw v_gk H locs hP hD hS ls hl h
    rw [fX1_endChukka_30] at h
    refine lv_iload_n hx hb dX1_endChukka_30 rfl (lv_at hl 1 rfl) ?_
    refine lv_aload_n hx hb dX1_endChukka_31 rfl (lv_at hl 0 rfl) ?_
    refine lv_iconst (v := 0) hx hb dX1_endChukka_32 (by decide) ?_
    obtain ⟨q9, e10, h⟩ := bnd h
    refine rdV C hE hP (kX1_count l D T a_g a_gw a_gk v_gk 0 q9 e10) mX1_count qLX1_28 [0, 2] 0 rfl rfl rfl rfl ⟨rfl, rfl⟩ ⟨Nat.le_of_ble_eq_true rfl, Nat.le_of_ble_eq_true rfl⟩ rfl hl.1 rfl (Nat.le_of_ble_eq_true rfl) dX1_endChukka_33 ⟨Nat.le_of_ble_eq_true rfl, Nat.le_of_ble_eq_true rfl⟩ ?_
    refine lv_icmp_ge (tgt := 71) hx hb dX1_endChukka_36 (by decide) (fun c11 => ?_) (fun c11 => ?_)
    · have h := ite_t c11 h
      have h := Option.some.inj h
      exact hret _ _ _ _ dX1_endChukka_71 (by rw [← h]; exact hP) hS
    · have h := ite_f c11 h
      refine lv_aload_n hx hb dX1_endChukka_39 rfl (lv_at hl 0 rfl) ?_
      refine lv_iload_n hx hb dX1_endChukka_40 rfl (lv_at hl 1 rfl) ?_
      refine lv_iconst (v := 5) hx hb dX1_endChukka_41 (by decide) ?_
      refine lv_iconst (v := 0) hx hb dX1_endChukka_42 (by decide) ?_
      obtain ⟨q12, e13, h⟩ := bnd h
      refine wrVv (ws1 := [(a_g, .inr (1, [.ref a_gw, .ref a_gk])), (a_gw, .inl (T 0, 90, .inl q12)), (a_gk, .inl (T 0, 18, .inl v_gk))]) C hE hP hD hS hA (kX1_set l D T a_g a_gw a_gk v_gw l1 5 0 _ q12 e13) mX1_set qLX1_36 [0, 1] [2] 0 rfl rfl rfl rfl rfl rfl rfl rfl rfl ⟨rfl, rfl⟩ ⟨Nat.le_of_ble_eq_true rfl, Nat.le_of_ble_eq_true rfl⟩ rfl hl.1 rfl (Nat.le_of_ble_eq_true rfl) dX1_endChukka_43 ⟨Nat.le_of_ble_eq_true rfl, Nat.le_of_ble_eq_true rfl⟩ (fun H locs hP hD hS => ?_)
      refine lv_aload_n hx hb dX1_endChukka_46 rfl (lv_at hl 0 rfl) ?_
      refine lv_iload_n hx hb dX1_endChukka_47 rfl (lv_at hl 1 rfl) ?_
      refine lv_iconst (v := 3) hx hb dX1_endChukka_48 (by decide) ?_
      refine lv_aload_n hx hb dX1_endChukka_49 rfl (lv_at hl 0 rfl) ?_
      refine lv_iload_n hx hb dX1_endChukka_50 rfl (lv_at hl 1 rfl) ?_
      refine lv_iconst (v := 3) hx hb dX1_endChukka_51 (by decide) ?_
      obtain ⟨q14, e15, h⟩ := bnd h
      refine rdV C hE hP (kX1_of l D T a_g a_gw a_gk q12 l1 3 q14 e15) mX1_of qLX1_32 [0, 1] 0 rfl rfl rfl rfl ⟨rfl, rfl⟩ ⟨Nat.le_of_ble_eq_true rfl, Nat.le_of_ble_eq_true rfl⟩ rfl hl.1 rfl (Nat.le_of_ble_eq_true rfl) dX1_endChukka_52 ⟨Nat.le_of_ble_eq_true rfl, Nat.le_of_ble_eq_true rfl⟩ ?_
      refine lv_iconst (v := 5) hx hb dX1_endChukka_55 (by decide) ?_
      refine lv_iadd hx hb dX1_endChukka_56 ?_
      refine lv_bipush (v := 20) hx hb dX1_endChukka_57 (by decide) ?_
      refine va_mmin hx hb (C.2.2.1.trans hl.1.symm) C.2.2.2.1 (C.2.2.2.2 _ qLX1_85) (C.2.2.2.2 _ qMs_min) (C.2.2.2.2 _ qMi) (C.2.2.2.2 _ qMc_min) (Nat.le_of_ble_eq_true rfl) (Nat.le_of_ble_eq_true rfl) (Nat.le_of_ble_eq_true rfl) (Nat.le_of_ble_eq_true rfl) dX1_endChukka_59 ?_
      obtain ⟨q16, e17, h⟩ := bnd h
      refine wrVv (ws1 := [(a_g, .inr (1, [.ref a_gw, .ref a_gk])), (a_gw, .inl (T 0, 90, .inl q16)), (a_gk, .inl (T 0, 18, .inl v_gk))]) C hE hP hD hS hA (kX1_set l D T a_g a_gw a_gk q12 l1 3 (if 20 < (q14 + 5) then 20 else (q14 + 5)) _ q16 e17) mX1_set qLX1_36 [0, 1] [2] 0 rfl rfl rfl rfl rfl rfl rfl rfl rfl ⟨rfl, rfl⟩ ⟨Nat.le_of_ble_eq_true rfl, Nat.le_of_ble_eq_true rfl⟩ rfl hl.1 rfl (Nat.le_of_ble_eq_true rfl) dX1_endChukka_62 ⟨Nat.le_of_ble_eq_true rfl, Nat.le_of_ble_eq_true rfl⟩ (fun H locs hP hD hS => ?_)
      refine lv_iinc (v := (l1 + 1)) (lv' := [(1, .int (l1 + 1)), (0, .ref a_g)]) hx hb dX1_endChukka_65 hl (k := 1) rfl rfl (by decide) rfl (fun ls hl => ?_)
      refine lv_goto (tgt := 30) hx hb dX1_endChukka_68 (by decide) ?_
      exact ih (l1 + 1) q16 v_gk hP hD hS _ (lv_sub hl [1, 0] rfl) h
set_option maxHeartbeats 4000000 in
set_option maxRecDepth 100000 in
theorem kX1_endChukka (l : Launch) (D : va_G) (T : Nat → ClassId) (a_g a_gw a_gk : Nat) (v_gw : Nat → Int32) (v_gk : Nat → Int32) (sz : Nat) (r : (Nat → Int32) × (Nat → Int32)) (h : fX1_endChukka v_gw v_gk = some r) : WrV l yX1_endChukka cX1_endChukka 2 ({ frames := 1, cells := 0, slots := 0, locals := 24 } : Room) D T sz [(a_g, .inr (1, [.ref a_gw, .ref a_gk])), (a_gw, .inl (T 0, 90, .inl v_gw)), (a_gk, .inl (T 0, 18, .inl v_gk))] [(a_g, .inr (1, [.ref a_gw, .ref a_gk])), (a_gw, .inl (T 0, 90, .inl r.1)), (a_gk, .inl (T 0, 18, .inl r.2))] [.ref a_g] := by
  unfold fX1_endChukka at h
  refine wrMetV (by decide +kernel) rfl (fun p e s m args below meth c Q A C hE hA hP hD hS hret ls hl => ?_)
  have hx := C.1
  have hb := C.2.1
  have hl : lv_has ls 2 [(0, .ref a_g)] := hl
  refine lv_aload_n hx hb dX1_endChukka_0 rfl (lv_at hl 0 rfl) ?_
  refine lv_iconst (v := 5) hx hb dX1_endChukka_1 (by decide) ?_
  refine lv_bipush (v := 22) hx hb dX1_endChukka_2 (by decide) ?_
  obtain ⟨q1, e2, h⟩ := bnd h
  refine wrVv (ws1 := [(a_g, .inr (1, [.ref a_gw, .ref a_gk])), (a_gw, .inl (T 0, 90, .inl v_gw)), (a_gk, .inl (T 0, 18, .inl q1))]) C hE hP hD hS hA (kX1_setCount l D T a_g a_gw a_gk v_gk 5 22 _ q1 e2) mX1_setCount qLX1_18 [0, 2] [1] 0 rfl rfl rfl rfl rfl rfl rfl rfl rfl ⟨rfl, rfl⟩ ⟨Nat.le_of_ble_eq_true rfl, Nat.le_of_ble_eq_true rfl⟩ rfl hl.1 rfl (Nat.le_of_ble_eq_true rfl) dX1_endChukka_4 ⟨Nat.le_of_ble_eq_true rfl, Nat.le_of_ble_eq_true rfl⟩ (fun H locs hP hD hS => ?_)
  refine lv_aload_n hx hb dX1_endChukka_7 rfl (lv_at hl 0 rfl) ?_
  refine lv_bipush (v := 6) hx hb dX1_endChukka_8 (by decide) ?_
  refine lv_iconst (v := (-1)) hx hb dX1_endChukka_10 (by decide) ?_
  obtain ⟨q3, e4, h⟩ := bnd h
  refine wrVv (ws1 := [(a_g, .inr (1, [.ref a_gw, .ref a_gk])), (a_gw, .inl (T 0, 90, .inl v_gw)), (a_gk, .inl (T 0, 18, .inl q3))]) C hE hP hD hS hA (kX1_setCount l D T a_g a_gw a_gk q1 6 (-1) _ q3 e4) mX1_setCount qLX1_18 [0, 2] [1] 0 rfl rfl rfl rfl rfl rfl rfl rfl rfl ⟨rfl, rfl⟩ ⟨Nat.le_of_ble_eq_true rfl, Nat.le_of_ble_eq_true rfl⟩ rfl hl.1 rfl (Nat.le_of_ble_eq_true rfl) dX1_endChukka_11 ⟨Nat.le_of_ble_eq_true rfl, Nat.le_of_ble_eq_true rfl⟩ (fun H locs hP hD hS => ?_)
  refine lv_aload_n hx hb dX1_endChukka_14 rfl (lv_at hl 0 rfl) ?_
  refine lv_bipush (v := 16) hx hb dX1_endChukka_15 (by decide) ?_
  refine lv_iconst (v := 0) hx hb dX1_endChukka_17 (by decide) ?_
  obtain ⟨q5, e6, h⟩ := bnd h
  refine wrVv (ws1 := [(a_g, .inr (1, [.ref a_gw, .ref a_gk])), (a_gw, .inl (T 0, 90, .inl v_gw)), (a_gk, .inl (T 0, 18, .inl q5))]) C hE hP hD hS hA (kX1_setCount l D T a_g a_gw a_gk q3 16 0 _ q5 e6) mX1_setCount qLX1_18 [0, 2] [1] 0 rfl rfl rfl rfl rfl rfl rfl rfl rfl ⟨rfl, rfl⟩ ⟨Nat.le_of_ble_eq_true rfl, Nat.le_of_ble_eq_true rfl⟩ rfl hl.1 rfl (Nat.le_of_ble_eq_true rfl) dX1_endChukka_18 ⟨Nat.le_of_ble_eq_true rfl, Nat.le_of_ble_eq_true rfl⟩ (fun H locs hP hD hS => ?_)
  refine lv_aload_n hx hb dX1_endChukka_21 rfl (lv_at hl 0 rfl) ?_
  refine lv_bipush (v := 17) hx hb dX1_endChukka_22 (by decide) ?_
  refine lv_iconst (v := 0) hx hb dX1_endChukka_24 (by decide) ?_
  obtain ⟨q7, e8, h⟩ := bnd h
  refine wrVv (ws1 := [(a_g, .inr (1, [.ref a_gw, .ref a_gk])), (a_gw, .inl (T 0, 90, .inl v_gw)), (a_gk, .inl (T 0, 18, .inl q7))]) C hE hP hD hS hA (kX1_setCount l D T a_g a_gw a_gk q5 17 0 _ q7 e8) mX1_setCount qLX1_18 [0, 2] [1] 0 rfl rfl rfl rfl rfl rfl rfl rfl rfl ⟨rfl, rfl⟩ ⟨Nat.le_of_ble_eq_true rfl, Nat.le_of_ble_eq_true rfl⟩ rfl hl.1 rfl (Nat.le_of_ble_eq_true rfl) dX1_endChukka_25 ⟨Nat.le_of_ble_eq_true rfl, Nat.le_of_ble_eq_true rfl⟩ (fun H locs hP hD hS => ?_)
  refine lv_iconst (v := 0) hx hb dX1_endChukka_28 (by decide) ?_
  refine lv_istore_n (lv' := [(1, .int 0), (0, .ref a_g)]) hx hb dX1_endChukka_29 rfl hl (by decide) rfl (fun ls hl => ?_)
  exact lX1_endChukka_30 C hE hA hret 64 0 v_gw q7 hP hD hS _ (lv_sub hl [1, 0] rfl) h

def fX1_strokesToTurn_43 (v_gk : Nat → Int32) (rec22 : Int32 → Int32 → Int32 → Option Int32) (x0 : Int32) (l1 : Int32) (l2 : Int32) (l3 : Int32) : Option Int32 :=
  if x0 = l2 then
    rec22 l1 l2 (l3 + 1)
  else
    some l3
def fX1_strokesToTurn_22 (v_gk : Nat → Int32) : Nat → Int32 → Int32 → Int32 → Option Int32
  | 0, _, _, _ => none
  | k + 1, l1, l2, l3 =>
    if 16 ≤ l3 then
      some l3
    else
      fX1_strokesToTurn_43 v_gk (fX1_strokesToTurn_22 v_gk k) (if 2 < (fX7_tideByDividing (l1 + l3)) then 0 else 1) l1 l2 l3
def fX1_strokesToTurn_19 (v_gk : Nat → Int32) (x0 : Int32) (l1 : Int32) : Option Int32 :=
  fX1_strokesToTurn_22 v_gk 64 l1 x0 1
def fX1_strokesToTurn (v_gk : Nat → Int32) : Option Int32 :=
  (fX1_count v_gk 1).bind fun q1 =>
  fX1_strokesToTurn_19 v_gk (if 2 < (fX7_tideByDividing q1) then 0 else 1) q1
set_option maxHeartbeats 4000000 in
set_option maxRecDepth 100000 in
theorem lX1_strokesToTurn_43 {p : Program} {l : Launch} {e : Env} {s : State} {m : MethodId} {args : Array Value} {below : List Frame} {meth : Method} {c : Code} {Q : State → Prop} {D : va_G} {T : Nat → ClassId} {a_g a_gw a_gk : Nat} {v_gk : Nat → Int32} {r : Int32} (C : CallFix p m c cX1_strokesToTurn 4 s args aw RX1) (hE : eK D T s) (hP : va_P D kC [(a_g, .inr (1, [.ref a_gw, .ref a_gk])), (a_gk, .inl (T 0, 18, .inl v_gk))] s.heap) (hret : RdRet p l e ({ frames := 1, cells := 0, slots := 0, locals := 21 } : Room) s m args below meth c Q cX1_strokesToTurn .int r) {rec22 : Int32 → Int32 → Int32 → Option Int32} (hrec22 : ∀ (l1 : Int32) (l2 : Int32) (l3 : Int32) (ls : Array Slot) (hl : lv_has ls 4 [(1, .int l1), (2, .int l2), (3, .int l3)]) (h : rec22 l1 l2 l3 = some r), W p l e ({ frames := 1, cells := 0, slots := 0, locals := 21 } : Room) s m args below meth c s.heap [] 0 0 Q (F0 m 22 ls [])) (x0 : Int32) (l1 : Int32) (l2 : Int32) (l3 : Int32) (ls : Array Slot) (hl : lv_has ls 4 [(1, .int l1), (2, .int l2), (3, .int l3)]) (h : fX1_strokesToTurn_43 v_gk rec22 x0 l1 l2 l3 = some r) : W p l e ({ frames := 1, cells := 0, slots := 0, locals := 21 } : Room) s m args below meth c s.heap [] 0 0 Q (F0 m 43 ls [.int x0]) := by
  have hx := C.1
  have hb := C.2.1
  unfold fX1_strokesToTurn_43 at h
  refine lv_iload_n hx hb dX1_strokesToTurn_43 rfl (lv_at hl 1 rfl) ?_
  refine lv_icmp_ne (tgt := 53) hx hb dX1_strokesToTurn_44 (by decide) (fun c6 => ?_) (fun c6 => ?_)
  · have h := ite_f c6 h
    refine lv_iload_n hx hb dX1_strokesToTurn_53 rfl (lv_at hl 2 rfl) ?_
    exact hret _ _ _ _ dX1_strokesToTurn_54 rfl (Option.some.inj h)
  · have h := ite_t c6 h
    refine lv_iinc (v := (l3 + 1)) (lv' := [(3, .int (l3 + 1)), (1, .int l1), (2, .int l2)]) hx hb dX1_strokesToTurn_47 hl (k := 2) rfl rfl (by decide) rfl (fun ls hl => ?_)
    refine lv_goto (tgt := 22) hx hb dX1_strokesToTurn_50 (by decide) ?_
    exact hrec22 l1 l2 (l3 + 1) _ (lv_sub hl [1, 2, 0] rfl) h
set_option maxHeartbeats 4000000 in
set_option maxRecDepth 100000 in
theorem lX1_strokesToTurn_22 {p : Program} {l : Launch} {e : Env} {s : State} {m : MethodId} {args : Array Value} {below : List Frame} {meth : Method} {c : Code} {Q : State → Prop} {D : va_G} {T : Nat → ClassId} {a_g a_gw a_gk : Nat} {v_gk : Nat → Int32} {r : Int32} (C : CallFix p m c cX1_strokesToTurn 4 s args aw RX1) (hE : eK D T s) (hP : va_P D kC [(a_g, .inr (1, [.ref a_gw, .ref a_gk])), (a_gk, .inl (T 0, 18, .inl v_gk))] s.heap) (hret : RdRet p l e ({ frames := 1, cells := 0, slots := 0, locals := 21 } : Room) s m args below meth c Q cX1_strokesToTurn .int r) : ∀ (k : Nat) (l1 : Int32) (l2 : Int32) (l3 : Int32) (ls : Array Slot) (hl : lv_has ls 4 [(1, .int l1), (2, .int l2), (3, .int l3)]) (h : fX1_strokesToTurn_22 v_gk k l1 l2 l3 = some r), W p l e ({ frames := 1, cells := 0, slots := 0, locals := 21 } : Room) s m args below meth c s.heap [] 0 0 Q (F0 m 22 ls []) := by
  have hx := C.1
  have hb := C.2.1
  intro k
  induction k with
  | zero =>
    intro l1 l2 l3  ls hl h
    exact nomatch (show (none : Option Int32) = some r from h)
  | succ k ih =>
    intro l1 l2 l3  ls hl h
    rw [fX1_strokesToTurn_22] at h
    refine lv_iload_n hx hb dX1_strokesToTurn_22 rfl (lv_at hl 2 rfl) ?_
    refine lv_bipush (v := 16) hx hb dX1_strokesToTurn_23 (by decide) ?_
    refine lv_icmp_ge (tgt := 53) hx hb dX1_strokesToTurn_25 (by decide) (fun c4 => ?_) (fun c4 => ?_)
    · have h := ite_t c4 h
      refine lv_iload_n hx hb dX1_strokesToTurn_53 rfl (lv_at hl 2 rfl) ?_
      exact hret _ _ _ _ dX1_strokesToTurn_54 rfl (Option.some.inj h)
    · have h := ite_f c4 h
      refine lv_iload_n hx hb dX1_strokesToTurn_28 rfl (lv_at hl 0 rfl) ?_
      refine lv_iload_n hx hb dX1_strokesToTurn_29 rfl (lv_at hl 2 rfl) ?_
      refine lv_iadd hx hb dX1_strokesToTurn_30 ?_
      refine rdSN C hE hP (kX7_tideByDividing l D T (l1 + l3)) mX7_tideByDividing (by decide +kernel) [] rfl ⟨rfl, rfl⟩ ⟨Nat.le_of_ble_eq_true rfl, Nat.le_of_ble_eq_true rfl⟩ rfl hl.1 rfl (Nat.le_of_ble_eq_true rfl) dX1_strokesToTurn_31 ⟨Nat.le_of_ble_eq_true rfl, Nat.le_of_ble_eq_true rfl⟩ ?_
      refine lv_iconst (v := 2) hx hb dX1_strokesToTurn_34 (by decide) ?_
      refine lv_icmp_gt (tgt := 42) hx hb dX1_strokesToTurn_35 (by decide) (fun c5 => ?_) (fun c5 => ?_)
      · rw [if_pos c5] at h
        refine lv_iconst (v := 0) hx hb dX1_strokesToTurn_42 (by decide) ?_
        exact lX1_strokesToTurn_43 C hE hP hret ih 0 l1 l2 l3 _ (lv_sub hl [0, 1, 2] rfl) h
      · rw [if_neg c5] at h
        refine lv_iconst (v := 1) hx hb dX1_strokesToTurn_38 (by decide) ?_
        refine lv_goto (tgt := 43) hx hb dX1_strokesToTurn_39 (by decide) ?_
        exact lX1_strokesToTurn_43 C hE hP hret ih 1 l1 l2 l3 _ (lv_sub hl [0, 1, 2] rfl) h
set_option maxHeartbeats 4000000 in
set_option maxRecDepth 100000 in
theorem lX1_strokesToTurn_19 {p : Program} {l : Launch} {e : Env} {s : State} {m : MethodId} {args : Array Value} {below : List Frame} {meth : Method} {c : Code} {Q : State → Prop} {D : va_G} {T : Nat → ClassId} {a_g a_gw a_gk : Nat} {v_gk : Nat → Int32} {r : Int32} (C : CallFix p m c cX1_strokesToTurn 4 s args aw RX1) (hE : eK D T s) (hP : va_P D kC [(a_g, .inr (1, [.ref a_gw, .ref a_gk])), (a_gk, .inl (T 0, 18, .inl v_gk))] s.heap) (hret : RdRet p l e ({ frames := 1, cells := 0, slots := 0, locals := 21 } : Room) s m args below meth c Q cX1_strokesToTurn .int r) (x0 : Int32) (l1 : Int32) (ls : Array Slot) (hl : lv_has ls 4 [(1, .int l1)]) (h : fX1_strokesToTurn_19 v_gk x0 l1 = some r) : W p l e ({ frames := 1, cells := 0, slots := 0, locals := 21 } : Room) s m args below meth c s.heap [] 0 0 Q (F0 m 19 ls [.int x0]) := by
  have hx := C.1
  have hb := C.2.1
  unfold fX1_strokesToTurn_19 at h
  refine lv_istore_n (lv' := [(2, .int x0), (1, .int l1)]) hx hb dX1_strokesToTurn_19 rfl hl (by decide) rfl (fun ls hl => ?_)
  refine lv_iconst (v := 1) hx hb dX1_strokesToTurn_20 (by decide) ?_
  refine lv_istore_n (lv' := [(3, .int 1), (2, .int x0), (1, .int l1)]) hx hb dX1_strokesToTurn_21 rfl hl (by decide) rfl (fun ls hl => ?_)
  exact lX1_strokesToTurn_22 C hE hP hret 64 l1 x0 1 _ (lv_sub hl [2, 1, 0] rfl) h
set_option maxHeartbeats 4000000 in
set_option maxRecDepth 100000 in
theorem kX1_strokesToTurn (l : Launch) (D : va_G) (T : Nat → ClassId) (a_g a_gw a_gk : Nat) (v_gk : Nat → Int32) (r : Int32) (h : fX1_strokesToTurn v_gk = some r) : RdI l yX1_strokesToTurn cX1_strokesToTurn 4 .int ({ frames := 1, cells := 0, slots := 0, locals := 21 } : Room) D T [(a_g, .inr (1, [.ref a_gw, .ref a_gk])), (a_gk, .inl (T 0, 18, .inl v_gk))] [.ref a_g] r := by
  unfold fX1_strokesToTurn at h
  refine rdMet (by decide +kernel) rfl (fun p e s m args below meth c Q C hE hP hret ls hl => ?_)
  have hx := C.1
  have hb := C.2.1
  have hl : lv_has ls 4 [(0, .ref a_g)] := hl
  refine lv_aload_n hx hb dX1_strokesToTurn_0 rfl (lv_at hl 0 rfl) ?_
  refine lv_iconst (v := 1) hx hb dX1_strokesToTurn_1 (by decide) ?_
  obtain ⟨q1, e2, h⟩ := bnd h
  refine rdV C hE hP (kX1_count l D T a_g a_gw a_gk v_gk 1 q1 e2) mX1_count qLX1_28 [0, 1] 0 rfl rfl rfl rfl ⟨rfl, rfl⟩ ⟨Nat.le_of_ble_eq_true rfl, Nat.le_of_ble_eq_true rfl⟩ rfl hl.1 rfl (Nat.le_of_ble_eq_true rfl) dX1_strokesToTurn_2 ⟨Nat.le_of_ble_eq_true rfl, Nat.le_of_ble_eq_true rfl⟩ ?_
  refine lv_istore_n (lv' := [(1, .int q1), (0, .ref a_g)]) hx hb dX1_strokesToTurn_5 rfl hl (by decide) rfl (fun ls hl => ?_)
  refine lv_iload_n hx hb dX1_strokesToTurn_6 rfl (lv_at hl 0 rfl) ?_
  refine rdSN C hE hP (kX7_tideByDividing l D T q1) mX7_tideByDividing (by decide +kernel) [] rfl ⟨rfl, rfl⟩ ⟨Nat.le_of_ble_eq_true rfl, Nat.le_of_ble_eq_true rfl⟩ rfl hl.1 rfl (Nat.le_of_ble_eq_true rfl) dX1_strokesToTurn_7 ⟨Nat.le_of_ble_eq_true rfl, Nat.le_of_ble_eq_true rfl⟩ ?_
  refine lv_iconst (v := 2) hx hb dX1_strokesToTurn_10 (by decide) ?_
  refine lv_icmp_gt (tgt := 18) hx hb dX1_strokesToTurn_11 (by decide) (fun c3 => ?_) (fun c3 => ?_)
  · rw [if_pos c3] at h
    refine lv_iconst (v := 0) hx hb dX1_strokesToTurn_18 (by decide) ?_
    exact lX1_strokesToTurn_19 C hE hP hret 0 q1 _ (lv_sub hl [0] rfl) h
  · rw [if_neg c3] at h
    refine lv_iconst (v := 1) hx hb dX1_strokesToTurn_14 (by decide) ?_
    refine lv_goto (tgt := 19) hx hb dX1_strokesToTurn_15 (by decide) ?_
    exact lX1_strokesToTurn_19 C hE hP hret 1 q1 _ (lv_sub hl [0] rfl) h

def fX7_between (p0 : Int32) (p1 : Int32) : Int32 :=
  ((if 0 ≤ ((p0 / 9) - (p1 / 9)) then ((p0 / 9) - (p1 / 9)) else 0 - ((p0 / 9) - (p1 / 9))) + (if 0 ≤ ((p0 - p0 / 9 * 9) - (p1 - p1 / 9 * 9)) then ((p0 - p0 / 9 * 9) - (p1 - p1 / 9 * 9)) else 0 - ((p0 - p0 / 9 * 9) - (p1 - p1 / 9 * 9))))
set_option maxHeartbeats 4000000 in
set_option maxRecDepth 100000 in
theorem kX7_between (l : Launch) (D : va_G) (T : Nat → ClassId) (p0 : Int32) (p1 : Int32) : RdI l yX7_between cX7_between 4 .int ({ frames := 1, cells := 0, slots := 0, locals := 21 } : Room) D T [] [.int p0, .int p1] (fX7_between p0 p1) := by
  obtain ⟨r, h⟩ : ∃ r, fX7_between p0 p1 = r := ⟨_, rfl⟩
  rw [h]
  unfold fX7_between at h
  refine rdMet (by decide +kernel) rfl (fun p e s m args below meth c Q C hE hP hret ls hl => ?_)
  have hx := C.1
  have hb := C.2.1
  have hl : lv_has ls 4 [(0, .int p0), (1, .int p1)] := hl
  refine lv_iload_n hx hb dX7_between_0 rfl (lv_at hl 0 rfl) ?_
  refine lv_bipush (v := 9) hx hb dX7_between_1 (by decide) ?_
  refine lv_idiv hx hb dX7_between_3 (by decide) ?_
  refine lv_iload_n hx hb dX7_between_4 rfl (lv_at hl 1 rfl) ?_
  refine lv_bipush (v := 9) hx hb dX7_between_5 (by decide) ?_
  refine lv_idiv hx hb dX7_between_7 (by decide) ?_
  refine lv_isub hx hb dX7_between_8 ?_
  refine va_mabs hx hb (C.2.2.1.trans hl.1.symm) C.2.2.2.1 (C.2.2.2.2 _ qLX7_452) (C.2.2.2.2 _ qMs_abs) (C.2.2.2.2 _ qMi) (C.2.2.2.2 _ qMc_abs) (Nat.le_of_ble_eq_true rfl) (Nat.le_of_ble_eq_true rfl) (Nat.le_of_ble_eq_true rfl) (Nat.le_of_ble_eq_true rfl) dX7_between_9 ?_
  refine lv_istore_n (lv' := [(2, .int (if 0 ≤ ((p0 / 9) - (p1 / 9)) then ((p0 / 9) - (p1 / 9)) else 0 - ((p0 / 9) - (p1 / 9)))), (0, .int p0), (1, .int p1)]) hx hb dX7_between_12 rfl hl (by decide) rfl (fun ls hl => ?_)
  refine lv_iload_n hx hb dX7_between_13 rfl (lv_at hl 1 rfl) ?_
  refine lv_bipush (v := 9) hx hb dX7_between_14 (by decide) ?_
  refine lv_irem hx hb dX7_between_16 (by decide) ?_
  refine lv_iload_n hx hb dX7_between_17 rfl (lv_at hl 2 rfl) ?_
  refine lv_bipush (v := 9) hx hb dX7_between_18 (by decide) ?_
  refine lv_irem hx hb dX7_between_20 (by decide) ?_
  refine lv_isub hx hb dX7_between_21 ?_
  refine va_mabs hx hb (C.2.2.1.trans hl.1.symm) C.2.2.2.1 (C.2.2.2.2 _ qLX7_452) (C.2.2.2.2 _ qMs_abs) (C.2.2.2.2 _ qMi) (C.2.2.2.2 _ qMc_abs) (Nat.le_of_ble_eq_true rfl) (Nat.le_of_ble_eq_true rfl) (Nat.le_of_ble_eq_true rfl) (Nat.le_of_ble_eq_true rfl) dX7_between_22 ?_
  refine lv_istore_n (lv' := [(3, .int (if 0 ≤ ((p0 - p0 / 9 * 9) - (p1 - p1 / 9 * 9)) then ((p0 - p0 / 9 * 9) - (p1 - p1 / 9 * 9)) else 0 - ((p0 - p0 / 9 * 9) - (p1 - p1 / 9 * 9)))), (2, .int (if 0 ≤ ((p0 / 9) - (p1 / 9)) then ((p0 / 9) - (p1 / 9)) else 0 - ((p0 / 9) - (p1 / 9)))), (0, .int p0), (1, .int p1)]) hx hb dX7_between_25 rfl hl (by decide) rfl (fun ls hl => ?_)
  refine lv_iload_n hx hb dX7_between_26 rfl (lv_at hl 1 rfl) ?_
  refine lv_iload_n hx hb dX7_between_27 rfl (lv_at hl 0 rfl) ?_
  refine lv_iadd hx hb dX7_between_28 ?_
  exact hret _ _ _ _ dX7_between_29 rfl h

def fX1_isNearBuoy (v_gw : Nat → Int32) (v_gk : Nat → Int32) (p0 : Int32) : Option Int32 :=
  (fX1_of v_gw p0 4).bind fun q1 =>
  if q1 = (-1) then
    some 0
  else
    (fX1_count v_gk 5).bind fun q4 =>
    if 1 < (fX7_between q1 q4) then
      some 0
    else
      some 1
set_option maxHeartbeats 4000000 in
set_option maxRecDepth 100000 in
theorem kX1_isNearBuoy (l : Launch) (D : va_G) (T : Nat → ClassId) (a_g a_gw a_gk : Nat) (v_gw : Nat → Int32) (v_gk : Nat → Int32) (p0 : Int32) (r : Int32) (h : fX1_isNearBuoy v_gw v_gk p0 = some r) : RdI l yX1_isNearBuoy cX1_isNearBuoy 3 .boolean ({ frames := 2, cells := 0, slots := 0, locals := 44 } : Room) D T [(a_g, .inr (1, [.ref a_gw, .ref a_gk])), (a_gw, .inl (T 0, 90, .inl v_gw)), (a_gk, .inl (T 0, 18, .inl v_gk))] [.ref a_g, .int p0] r := by
  unfold fX1_isNearBuoy at h
  refine rdMet (by decide +kernel) rfl (fun p e s m args below meth c Q C hE hP hret ls hl => ?_)
  have hx := C.1
  have hb := C.2.1
  have hl : lv_has ls 3 [(0, .ref a_g), (1, .int p0)] := hl
  refine lv_aload_n hx hb dX1_isNearBuoy_0 rfl (lv_at hl 0 rfl) ?_
  refine lv_iload_n hx hb dX1_isNearBuoy_1 rfl (lv_at hl 1 rfl) ?_
  refine lv_iconst (v := 4) hx hb dX1_isNearBuoy_2 (by decide) ?_
  obtain ⟨q1, e2, h⟩ := bnd h
  refine rdV C hE hP (kX1_of l D T a_g a_gw a_gk v_gw p0 4 q1 e2) mX1_of qLX1_32 [0, 1] 0 rfl rfl rfl rfl ⟨rfl, rfl⟩ ⟨Nat.le_of_ble_eq_true rfl, Nat.le_of_ble_eq_true rfl⟩ rfl hl.1 rfl (Nat.le_of_ble_eq_true rfl) dX1_isNearBuoy_3 ⟨Nat.le_of_ble_eq_true rfl, Nat.le_of_ble_eq_true rfl⟩ ?_
  refine lv_istore_n (lv' := [(2, .int q1), (0, .ref a_g), (1, .int p0)]) hx hb dX1_isNearBuoy_6 rfl hl (by decide) rfl (fun ls hl => ?_)
  refine lv_iload_n hx hb dX1_isNearBuoy_7 rfl (lv_at hl 0 rfl) ?_
  refine lv_iconst (v := (-1)) hx hb dX1_isNearBuoy_8 (by decide) ?_
  refine lv_icmp_eq (tgt := 29) hx hb dX1_isNearBuoy_9 (by decide) (fun c3 => ?_) (fun c3 => ?_)
  · have h := ite_t c3 h
    refine lv_iconst (v := 0) hx hb dX1_isNearBuoy_29 (by decide) ?_
    exact hret _ _ _ _ dX1_isNearBuoy_30 rfl (Option.some.inj h)
  · have h := ite_f c3 h
    refine lv_iload_n hx hb dX1_isNearBuoy_12 rfl (lv_at hl 0 rfl) ?_
    refine lv_aload_n hx hb dX1_isNearBuoy_13 rfl (lv_at hl 1 rfl) ?_
    refine lv_iconst (v := 5) hx hb dX1_isNearBuoy_14 (by decide) ?_
    obtain ⟨q4, e5, h⟩ := bnd h
    refine rdV C hE hP (kX1_count l D T a_g a_gw a_gk v_gk 5 q4 e5) mX1_count qLX1_28 [0, 2] 0 rfl rfl rfl rfl ⟨rfl, rfl⟩ ⟨Nat.le_of_ble_eq_true rfl, Nat.le_of_ble_eq_true rfl⟩ rfl hl.1 rfl (Nat.le_of_ble_eq_true rfl) dX1_isNearBuoy_15 ⟨Nat.le_of_ble_eq_true rfl, Nat.le_of_ble_eq_true rfl⟩ ?_
    refine rdSN C hE hP (kX7_between l D T q1 q4) mX7_between (by decide +kernel) [] rfl ⟨rfl, rfl⟩ ⟨Nat.le_of_ble_eq_true rfl, Nat.le_of_ble_eq_true rfl⟩ rfl hl.1 rfl (Nat.le_of_ble_eq_true rfl) dX1_isNearBuoy_18 ⟨Nat.le_of_ble_eq_true rfl, Nat.le_of_ble_eq_true rfl⟩ ?_
    refine lv_iconst (v := 1) hx hb dX1_isNearBuoy_21 (by decide) ?_
    refine lv_icmp_gt (tgt := 29) hx hb dX1_isNearBuoy_22 (by decide) (fun c6 => ?_) (fun c6 => ?_)
    · have h := ite_t c6 h
      refine lv_iconst (v := 0) hx hb dX1_isNearBuoy_29 (by decide) ?_
      exact hret _ _ _ _ dX1_isNearBuoy_30 rfl (Option.some.inj h)
    · have h := ite_f c6 h
      refine lv_iconst (v := 1) hx hb dX1_isNearBuoy_25 (by decide) ?_
      refine lv_goto (tgt := 30) hx hb dX1_isNearBuoy_26 (by decide) ?_
      exact hret _ _ _ _ dX1_isNearBuoy_30 rfl (Option.some.inj h)

def fX1_isFoulBy_65 (v_gw : Nat → Int32) (v_gk : Nat → Int32) (rec26 : Int32 → Int32 → Option Int32) (l2 : Int32) (l3 : Int32) : Option Int32 :=
  rec26 l2 (l3 + 1)
def fX1_isFoulBy_26 (v_gw : Nat → Int32) (v_gk : Nat → Int32) : Nat → Int32 → Int32 → Option Int32
  | 0, _, _ => none
  | k + 1, l2, l3 =>
    (fX1_count v_gk 0).bind fun q7 =>
    if q7 ≤ l3 then
      some 0
    else
      (fX1_of v_gw l3 0).bind fun q10 =>
      if q10 = l2 then
        (fX1_of v_gw l3 5).bind fun q13 =>
        if q13 = 1 then
          (fX1_isNearBuoy v_gw v_gk l3).bind fun q16 =>
          if q16 = 0 then
            fX1_isFoulBy_65 v_gw v_gk (fX1_isFoulBy_26 v_gw v_gk k) l2 l3
          else
            some 1
        else
          fX1_isFoulBy_65 v_gw v_gk (fX1_isFoulBy_26 v_gw v_gk k) l2 l3
      else
        fX1_isFoulBy_65 v_gw v_gk (fX1_isFoulBy_26 v_gw v_gk k) l2 l3
def fX1_isFoulBy (v_gw : Nat → Int32) (v_gk : Nat → Int32) (p0 : Int32) : Option Int32 :=
  (fX1_count v_gk 6).bind fun q1 =>
  if q1 = (-1) then
    some 0
  else
    (fX1_of v_gw p0 0).bind fun q4 =>
    if q1 = q4 then
      some 0
    else
      fX1_isFoulBy_26 v_gw v_gk 64 q1 0
set_option maxHeartbeats 4000000 in
set_option maxRecDepth 100000 in
theorem lX1_isFoulBy_65 {p : Program} {l : Launch} {e : Env} {s : State} {m : MethodId} {args : Array Value} {below : List Frame} {meth : Method} {c : Code} {Q : State → Prop} {D : va_G} {T : Nat → ClassId} {a_g a_gw a_gk : Nat} {v_gw : Nat → Int32} {v_gk : Nat → Int32} {r : Int32} (C : CallFix p m c cX1_isFoulBy 4 s args aw RX1) (hE : eK D T s) (hP : va_P D kC [(a_g, .inr (1, [.ref a_gw, .ref a_gk])), (a_gw, .inl (T 0, 90, .inl v_gw)), (a_gk, .inl (T 0, 18, .inl v_gk))] s.heap) (hret : RdRet p l e ({ frames := 3, cells := 0, slots := 0, locals := 66 } : Room) s m args below meth c Q cX1_isFoulBy .boolean r) {rec26 : Int32 → Int32 → Option Int32} (hrec26 : ∀ (l2 : Int32) (l3 : Int32) (ls : Array Slot) (hl : lv_has ls 4 [(0, .ref a_g), (2, .int l2), (3, .int l3)]) (h : rec26 l2 l3 = some r), W p l e ({ frames := 3, cells := 0, slots := 0, locals := 66 } : Room) s m args below meth c s.heap [] 0 0 Q (F0 m 26 ls [])) (l2 : Int32) (l3 : Int32) (ls : Array Slot) (hl : lv_has ls 4 [(0, .ref a_g), (2, .int l2), (3, .int l3)]) (h : fX1_isFoulBy_65 v_gw v_gk rec26 l2 l3 = some r) : W p l e ({ frames := 3, cells := 0, slots := 0, locals := 66 } : Room) s m args below meth c s.heap [] 0 0 Q (F0 m 65 ls []) := by
  have hx := C.1
  have hb := C.2.1
  unfold fX1_isFoulBy_65 at h
  refine lv_iinc (v := (l3 + 1)) (lv' := [(3, .int (l3 + 1)), (0, .ref a_g), (2, .int l2)]) hx hb dX1_isFoulBy_65 hl (k := 2) rfl rfl (by decide) rfl (fun ls hl => ?_)
  refine lv_goto (tgt := 26) hx hb dX1_isFoulBy_68 (by decide) ?_
  exact hrec26 l2 (l3 + 1) _ (lv_sub hl [1, 2, 0] rfl) h
set_option maxHeartbeats 4000000 in
set_option maxRecDepth 100000 in
theorem lX1_isFoulBy_26 {p : Program} {l : Launch} {e : Env} {s : State} {m : MethodId} {args : Array Value} {below : List Frame} {meth : Method} {c : Code} {Q : State → Prop} {D : va_G} {T : Nat → ClassId} {a_g a_gw a_gk : Nat} {v_gw : Nat → Int32} {v_gk : Nat → Int32} {r : Int32} (C : CallFix p m c cX1_isFoulBy 4 s args aw RX1) (hE : eK D T s) (hP : va_P D kC [(a_g, .inr (1, [.ref a_gw, .ref a_gk])), (a_gw, .inl (T 0, 90, .inl v_gw)), (a_gk, .inl (T 0, 18, .inl v_gk))] s.heap) (hret : RdRet p l e ({ frames := 3, cells := 0, slots := 0, locals := 66 } : Room) s m args below meth c Q cX1_isFoulBy .boolean r) : ∀ (k : Nat) (l2 : Int32) (l3 : Int32) (ls : Array Slot) (hl : lv_has ls 4 [(0, .ref a_g), (2, .int l2), (3, .int l3)]) (h : fX1_isFoulBy_26 v_gw v_gk k l2 l3 = some r), W p l e ({ frames := 3, cells := 0, slots := 0, locals := 66 } : Room) s m args below meth c s.heap [] 0 0 Q (F0 m 26 ls []) := by
  have hx := C.1
  have hb := C.2.1
  intro k
  induction k with
  | zero =>
    intro l2 l3  ls hl h
    exact nomatch (show (none : Option Int32) = some r from h)
  | succ k ih =>
    intro l2 l3  ls hl h
    rw [fX1_isFoulBy_26] at h
    refine lv_iload_n hx hb dX1_isFoulBy_26 rfl (lv_at hl 2 rfl) ?_
    refine lv_aload_n hx hb dX1_isFoulBy_27 rfl (lv_at hl 0 rfl) ?_
    refine lv_iconst (v := 0) hx hb dX1_isFoulBy_28 (by decide) ?_
    obtain ⟨q7, e8, h⟩ := bnd h
    refine rdV C hE hP (kX1_count l D T a_g a_gw a_gk v_gk 0 q7 e8) mX1_count qLX1_28 [0, 2] 0 rfl rfl rfl rfl ⟨rfl, rfl⟩ ⟨Nat.le_of_ble_eq_true rfl, Nat.le_of_ble_eq_true rfl⟩ rfl hl.1 rfl (Nat.le_of_ble_eq_true rfl) dX1_isFoulBy_29 ⟨Nat.le_of_ble_eq_true rfl, Nat.le_of_ble_eq_true rfl⟩ ?_
    refine lv_icmp_ge (tgt := 71) hx hb dX1_isFoulBy_32 (by decide) (fun c9 => ?_) (fun c9 => ?_)
    · have h := ite_t c9 h
      refine lv_iconst (v := 0) hx hb dX1_isFoulBy_71 (by decide) ?_
      exact hret _ _ _ _ dX1_isFoulBy_72 rfl (Option.some.inj h)
    · have h := ite_f c9 h
      refine lv_aload_n hx hb dX1_isFoulBy_35 rfl (lv_at hl 0 rfl) ?_
      refine lv_iload_n hx hb dX1_isFoulBy_36 rfl (lv_at hl 2 rfl) ?_
      refine lv_iconst (v := 0) hx hb dX1_isFoulBy_37 (by decide) ?_
      obtain ⟨q10, e11, h⟩ := bnd h
      refine rdV C hE hP (kX1_of l D T a_g a_gw a_gk v_gw l3 0 q10 e11) mX1_of qLX1_32 [0, 1] 0 rfl rfl rfl rfl ⟨rfl, rfl⟩ ⟨Nat.le_of_ble_eq_true rfl, Nat.le_of_ble_eq_true rfl⟩ rfl hl.1 rfl (Nat.le_of_ble_eq_true rfl) dX1_isFoulBy_38 ⟨Nat.le_of_ble_eq_true rfl, Nat.le_of_ble_eq_true rfl⟩ ?_
      refine lv_iload_n hx hb dX1_isFoulBy_41 rfl (lv_at hl 1 rfl) ?_
      refine lv_icmp_ne (tgt := 65) hx hb dX1_isFoulBy_42 (by decide) (fun c12 => ?_) (fun c12 => ?_)
      · have h := ite_f c12 h
        exact lX1_isFoulBy_65 C hE hP hret ih l2 l3 _ (lv_sub hl [0, 1, 2] rfl) h
      · have h := ite_t c12 h
        refine lv_aload_n hx hb dX1_isFoulBy_45 rfl (lv_at hl 0 rfl) ?_
        refine lv_iload_n hx hb dX1_isFoulBy_46 rfl (lv_at hl 2 rfl) ?_
        refine lv_iconst (v := 5) hx hb dX1_isFoulBy_47 (by decide) ?_
        obtain ⟨q13, e14, h⟩ := bnd h
        refine rdV C hE hP (kX1_of l D T a_g a_gw a_gk v_gw l3 5 q13 e14) mX1_of qLX1_32 [0, 1] 0 rfl rfl rfl rfl ⟨rfl, rfl⟩ ⟨Nat.le_of_ble_eq_true rfl, Nat.le_of_ble_eq_true rfl⟩ rfl hl.1 rfl (Nat.le_of_ble_eq_true rfl) dX1_isFoulBy_48 ⟨Nat.le_of_ble_eq_true rfl, Nat.le_of_ble_eq_true rfl⟩ ?_
        refine lv_iconst (v := 1) hx hb dX1_isFoulBy_51 (by decide) ?_
        refine lv_icmp_ne (tgt := 65) hx hb dX1_isFoulBy_52 (by decide) (fun c15 => ?_) (fun c15 => ?_)
        · have h := ite_f c15 h
          exact lX1_isFoulBy_65 C hE hP hret ih l2 l3 _ (lv_sub hl [0, 1, 2] rfl) h
        · have h := ite_t c15 h
          refine lv_aload_n hx hb dX1_isFoulBy_55 rfl (lv_at hl 0 rfl) ?_
          refine lv_iload_n hx hb dX1_isFoulBy_56 rfl (lv_at hl 2 rfl) ?_
          obtain ⟨q16, e17, h⟩ := bnd h
          refine rdV C hE hP (kX1_isNearBuoy l D T a_g a_gw a_gk v_gw v_gk l3 q16 e17) mX1_isNearBuoy qLX1_59 [0, 1, 2] 0 rfl rfl rfl rfl ⟨rfl, rfl⟩ ⟨Nat.le_of_ble_eq_true rfl, Nat.le_of_ble_eq_true rfl⟩ rfl hl.1 rfl (Nat.le_of_ble_eq_true rfl) dX1_isFoulBy_57 ⟨Nat.le_of_ble_eq_true rfl, Nat.le_of_ble_eq_true rfl⟩ ?_
          refine lv_if_eq (tgt := 65) hx hb dX1_isFoulBy_60 (by decide) (fun c18 => ?_) (fun c18 => ?_)
          · have h := ite_t c18 h
            exact lX1_isFoulBy_65 C hE hP hret ih l2 l3 _ (lv_sub hl [0, 1, 2] rfl) h
          · have h := ite_f c18 h
            refine lv_iconst (v := 1) hx hb dX1_isFoulBy_63 (by decide) ?_
            exact hret _ _ _ _ dX1_isFoulBy_64 rfl (Option.some.inj h)
set_option maxHeartbeats 4000000 in
set_option maxRecDepth 100000 in
theorem kX1_isFoulBy (l : Launch) (D : va_G) (T : Nat → ClassId) (a_g a_gw a_gk : Nat) (v_gw : Nat → Int32) (v_gk : Nat → Int32) (p0 : Int32) (r : Int32) (h : fX1_isFoulBy v_gw v_gk p0 = some r) : RdI l yX1_isFoulBy cX1_isFoulBy 4 .boolean ({ frames := 3, cells := 0, slots := 0, locals := 66 } : Room) D T [(a_g, .inr (1, [.ref a_gw, .ref a_gk])), (a_gw, .inl (T 0, 90, .inl v_gw)), (a_gk, .inl (T 0, 18, .inl v_gk))] [.ref a_g, .int p0] r := by
  unfold fX1_isFoulBy at h
  refine rdMet (by decide +kernel) rfl (fun p e s m args below meth c Q C hE hP hret ls hl => ?_)
  have hx := C.1
  have hb := C.2.1
  have hl : lv_has ls 4 [(0, .ref a_g), (1, .int p0)] := hl
  refine lv_aload_n hx hb dX1_isFoulBy_0 rfl (lv_at hl 0 rfl) ?_
  refine lv_bipush (v := 6) hx hb dX1_isFoulBy_1 (by decide) ?_
  obtain ⟨q1, e2, h⟩ := bnd h
  refine rdV C hE hP (kX1_count l D T a_g a_gw a_gk v_gk 6 q1 e2) mX1_count qLX1_28 [0, 2] 0 rfl rfl rfl rfl ⟨rfl, rfl⟩ ⟨Nat.le_of_ble_eq_true rfl, Nat.le_of_ble_eq_true rfl⟩ rfl hl.1 rfl (Nat.le_of_ble_eq_true rfl) dX1_isFoulBy_3 ⟨Nat.le_of_ble_eq_true rfl, Nat.le_of_ble_eq_true rfl⟩ ?_
  refine lv_istore_n (lv' := [(2, .int q1), (0, .ref a_g), (1, .int p0)]) hx hb dX1_isFoulBy_6 rfl hl (by decide) rfl (fun ls hl => ?_)
  refine lv_iload_n hx hb dX1_isFoulBy_7 rfl (lv_at hl 0 rfl) ?_
  refine lv_iconst (v := (-1)) hx hb dX1_isFoulBy_8 (by decide) ?_
  refine lv_icmp_eq (tgt := 22) hx hb dX1_isFoulBy_9 (by decide) (fun c3 => ?_) (fun c3 => ?_)
  · have h := ite_t c3 h
    refine lv_iconst (v := 0) hx hb dX1_isFoulBy_22 (by decide) ?_
    exact hret _ _ _ _ dX1_isFoulBy_23 rfl (Option.some.inj h)
  · have h := ite_f c3 h
    refine lv_iload_n hx hb dX1_isFoulBy_12 rfl (lv_at hl 0 rfl) ?_
    refine lv_aload_n hx hb dX1_isFoulBy_13 rfl (lv_at hl 1 rfl) ?_
    refine lv_iload_n hx hb dX1_isFoulBy_14 rfl (lv_at hl 2 rfl) ?_
    refine lv_iconst (v := 0) hx hb dX1_isFoulBy_15 (by decide) ?_
    obtain ⟨q4, e5, h⟩ := bnd h
    refine rdV C hE hP (kX1_of l D T a_g a_gw a_gk v_gw p0 0 q4 e5) mX1_of qLX1_32 [0, 1] 0 rfl rfl rfl rfl ⟨rfl, rfl⟩ ⟨Nat.le_of_ble_eq_true rfl, Nat.le_of_ble_eq_true rfl⟩ rfl hl.1 rfl (Nat.le_of_ble_eq_true rfl) dX1_isFoulBy_16 ⟨Nat.le_of_ble_eq_true rfl, Nat.le_of_ble_eq_true rfl⟩ ?_
    refine lv_icmp_ne (tgt := 24) hx hb dX1_isFoulBy_19 (by decide) (fun c6 => ?_) (fun c6 => ?_)
    · have h := ite_f c6 h
      refine lv_iconst (v := 0) hx hb dX1_isFoulBy_24 (by decide) ?_
      refine lv_istore_n (lv' := [(3, .int 0), (2, .int q1), (0, .ref a_g), (1, .int p0)]) hx hb dX1_isFoulBy_25 rfl hl (by decide) rfl (fun ls hl => ?_)
      exact lX1_isFoulBy_26 C hE hP hret 64 q1 0 _ (lv_sub hl [2, 1, 0] rfl) h
    · have h := ite_t c6 h
      refine lv_iconst (v := 0) hx hb dX1_isFoulBy_22 (by decide) ?_
      exact hret _ _ _ _ dX1_isFoulBy_23 rfl (Option.some.inj h)
