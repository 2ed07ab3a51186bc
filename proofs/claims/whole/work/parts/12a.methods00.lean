def fX0_isNetted (f_net : Int32) : Int32 :=
  (f_net &&& 1)
set_option maxHeartbeats 4000000 in
set_option maxRecDepth 100000 in
theorem kX0_isNetted (l : Launch) (D : va_G) (T : Nat → ClassId) (a_f a_g : Nat) (f_net : Int32) : RdI l yX0_isNetted cX0_isNetted 1 .boolean ({ frames := 0, cells := 0, slots := 0, locals := 0 } : Room) D T [(a_f, .inr (0, [.ref a_g, .int f_net]))] [.ref a_f] (fX0_isNetted f_net) := by
  obtain ⟨r, h⟩ : ∃ r, fX0_isNetted f_net = r := ⟨_, rfl⟩
  rw [h]
  unfold fX0_isNetted at h
  refine rdMet (by decide +kernel) rfl (fun p e s m args below meth c Q C hE hP hret ls hl => ?_)
  have hx := C.1
  have hb := C.2.1
  have hl : lv_has ls 1 [(0, .ref a_f)] := hl
  refine lv_aload_n hx hb dX0_isNetted_0 rfl (lv_at hl 0 rfl) ?_
  refine getF (q0 := 0) (k0 := 1) (v := .int f_net) C hE hP inA0 rfl rfl (by decide) qFX0_9 rfl rfl dX0_isNetted_1 ?_
  exact hret _ _ _ _ dX0_isNetted_4 rfl h

def fX1_count (v_gk : Nat → Int32) (p0 : Int32) : Option Int32 :=
  if p0 < 0 then
    some 0
  else
    if 18 ≤ p0 then
      some 0
    else
      if vin p0 18 = true then
      some (v_gk p0.toNatClampNeg)
      else none
set_option maxHeartbeats 4000000 in
set_option maxRecDepth 100000 in
theorem kX1_count (l : Launch) (D : va_G) (T : Nat → ClassId) (a_g a_gw a_gk : Nat) (v_gk : Nat → Int32) (p0 : Int32) (r : Int32) (h : fX1_count v_gk p0 = some r) : RdI l yX1_count cX1_count 2 .int ({ frames := 0, cells := 0, slots := 0, locals := 0 } : Room) D T [(a_g, .inr (1, [.ref a_gw, .ref a_gk])), (a_gk, .inl (T 0, 18, .inl v_gk))] [.ref a_g, .int p0] r := by
  unfold fX1_count at h
  refine rdMet (by decide +kernel) rfl (fun p e s m args below meth c Q C hE hP hret ls hl => ?_)
  have hx := C.1
  have hb := C.2.1
  have hl : lv_has ls 2 [(0, .ref a_g), (1, .int p0)] := hl
  refine lv_iload_n hx hb dX1_count_0 rfl (lv_at hl 1 rfl) ?_
  refine lv_if_lt (tgt := 22) hx hb dX1_count_1 (by decide) (fun c1 => ?_) (fun c1 => ?_)
  · replace h := ite_t c1 h
    refine lv_iconst (v := 0) hx hb dX1_count_22 (by decide) ?_
    exact hret _ _ _ _ dX1_count_23 rfl (Option.some.inj h)
  · replace h := ite_f c1 h
    refine lv_iload_n hx hb dX1_count_4 rfl (lv_at hl 1 rfl) ?_
    refine lv_aload_n hx hb dX1_count_5 rfl (lv_at hl 0 rfl) ?_
    refine getF (q0 := 0) (k0 := 1) (v := .ref a_gk) C hE hP inA1 rfl rfl (by decide) qFX1_15 rfl rfl dX1_count_6 ?_
    refine alen (q0 := 1) (t0 := 0) (v := 18) C hE hP rfl rfl (by decide) dX1_count_9 ?_
    refine lv_icmp_ge (tgt := 22) hx hb dX1_count_10 (by decide) (fun c2 => ?_) (fun c2 => ?_)
    · replace h := ite_t c2 h
      refine lv_iconst (v := 0) hx hb dX1_count_22 (by decide) ?_
      exact hret _ _ _ _ dX1_count_23 rfl (Option.some.inj h)
    · replace h := ite_f c2 h
      refine lv_aload_n hx hb dX1_count_13 rfl (lv_at hl 0 rfl) ?_
      refine getF (q0 := 0) (k0 := 1) (v := .ref a_gk) C hE hP inA1 rfl rfl (by decide) qFX1_15 rfl rfl dX1_count_14 ?_
      refine lv_iload_n hx hb dX1_count_17 rfl (lv_at hl 1 rfl) ?_
      replace h := gd h; obtain ⟨g3, h⟩ := h
      refine aldI (q0 := 1) C hE hP rfl g3 dX1_count_18 ?_
      refine lv_goto (tgt := 23) hx hb dX1_count_19 (by decide) ?_
      exact hret _ _ _ _ dX1_count_23 rfl (Option.some.inj h)

def fX7_cellsAhead (p0 : Int32) (p1 : Int32) : Int32 :=
  if p1 = 0 then
    (p0 / 9)
  else
    if p1 = 1 then
      (8 - (p0 - p0 / 9 * 9))
    else
      if p1 = 2 then
        (4 - (p0 / 9))
      else
        (p0 - p0 / 9 * 9)
set_option maxHeartbeats 4000000 in
set_option maxRecDepth 100000 in
theorem kX7_cellsAhead (l : Launch) (D : va_G) (T : Nat → ClassId) (p0 : Int32) (p1 : Int32) : RdI l yX7_cellsAhead cX7_cellsAhead 4 .int ({ frames := 0, cells := 0, slots := 0, locals := 0 } : Room) D T [] [.int p0, .int p1] (fX7_cellsAhead p0 p1) := by
  obtain ⟨r, h⟩ : ∃ r, fX7_cellsAhead p0 p1 = r := ⟨_, rfl⟩
  rw [h]
  unfold fX7_cellsAhead at h
  refine rdMet (by decide +kernel) rfl (fun p e s m args below meth c Q C hE hP hret ls hl => ?_)
  have hx := C.1
  have hb := C.2.1
  have hl : lv_has ls 4 [(0, .int p0), (1, .int p1)] := hl
  refine lv_iload_n hx hb dX7_cellsAhead_0 rfl (lv_at hl 0 rfl) ?_
  refine lv_bipush (v := 9) hx hb dX7_cellsAhead_1 (by decide) ?_
  refine lv_idiv hx hb dX7_cellsAhead_3 (by decide) ?_
  refine lv_istore_n (lv' := [(2, .int (p0 / 9)), (0, .int p0), (1, .int p1)]) hx hb dX7_cellsAhead_4 rfl hl (by decide) rfl (fun ls hl => ?_)
  refine lv_iload_n hx hb dX7_cellsAhead_5 rfl (lv_at hl 1 rfl) ?_
  refine lv_bipush (v := 9) hx hb dX7_cellsAhead_6 (by decide) ?_
  refine lv_irem hx hb dX7_cellsAhead_8 (by decide) ?_
  refine lv_istore_n (lv' := [(3, .int (p0 - p0 / 9 * 9)), (2, .int (p0 / 9)), (0, .int p0), (1, .int p1)]) hx hb dX7_cellsAhead_9 rfl hl (by decide) rfl (fun ls hl => ?_)
  refine lv_iload_n hx hb dX7_cellsAhead_10 rfl (lv_at hl 3 rfl) ?_
  refine lv_if_ne (tgt := 16) hx hb dX7_cellsAhead_11 (by decide) (fun c1 => ?_) (fun c1 => ?_)
  · replace h := ite_f c1 h
    refine lv_iload_n hx hb dX7_cellsAhead_16 rfl (lv_at hl 3 rfl) ?_
    refine lv_iconst (v := 1) hx hb dX7_cellsAhead_17 (by decide) ?_
    refine lv_icmp_ne (tgt := 26) hx hb dX7_cellsAhead_18 (by decide) (fun c2 => ?_) (fun c2 => ?_)
    · replace h := ite_f c2 h
      refine lv_iload_n hx hb dX7_cellsAhead_26 rfl (lv_at hl 3 rfl) ?_
      refine lv_iconst (v := 2) hx hb dX7_cellsAhead_27 (by decide) ?_
      refine lv_icmp_ne (tgt := 37) hx hb dX7_cellsAhead_28 (by decide) (fun c3 => ?_) (fun c3 => ?_)
      · replace h := ite_f c3 h
        refine lv_iload_n hx hb dX7_cellsAhead_37 rfl (lv_at hl 0 rfl) ?_
        exact hret _ _ _ _ dX7_cellsAhead_38 rfl h
      · replace h := ite_t c3 h
        refine lv_iconst (v := 4) hx hb dX7_cellsAhead_31 (by decide) ?_
        refine lv_iload_n hx hb dX7_cellsAhead_32 rfl (lv_at hl 1 rfl) ?_
        refine lv_isub hx hb dX7_cellsAhead_33 ?_
        refine lv_goto (tgt := 38) hx hb dX7_cellsAhead_34 (by decide) ?_
        exact hret _ _ _ _ dX7_cellsAhead_38 rfl h
    · replace h := ite_t c2 h
      refine lv_bipush (v := 8) hx hb dX7_cellsAhead_21 (by decide) ?_
      refine lv_iload_n hx hb dX7_cellsAhead_23 rfl (lv_at hl 0 rfl) ?_
      refine lv_isub hx hb dX7_cellsAhead_24 ?_
      exact hret _ _ _ _ dX7_cellsAhead_25 rfl h
  · replace h := ite_t c1 h
    refine lv_iload_n hx hb dX7_cellsAhead_14 rfl (lv_at hl 1 rfl) ?_
    exact hret _ _ _ _ dX7_cellsAhead_15 rfl h

def fX7_stride (p0 : Int32) : Int32 :=
  if p0 = 0 then
    (-9)
  else
    if p0 = 1 then
      1
    else
      if p0 = 2 then
        9
      else
        (-1)
set_option maxHeartbeats 4000000 in
set_option maxRecDepth 100000 in
theorem kX7_stride (l : Launch) (D : va_G) (T : Nat → ClassId) (p0 : Int32) : RdI l yX7_stride cX7_stride 1 .int ({ frames := 0, cells := 0, slots := 0, locals := 0 } : Room) D T [] [.int p0] (fX7_stride p0) := by
  obtain ⟨r, h⟩ : ∃ r, fX7_stride p0 = r := ⟨_, rfl⟩
  rw [h]
  unfold fX7_stride at h
  refine rdMet (by decide +kernel) rfl (fun p e s m args below meth c Q C hE hP hret ls hl => ?_)
  have hx := C.1
  have hb := C.2.1
  have hl : lv_has ls 1 [(0, .int p0)] := hl
  refine lv_iload_n hx hb dX7_stride_0 rfl (lv_at hl 0 rfl) ?_
  refine lv_if_ne (tgt := 7) hx hb dX7_stride_1 (by decide) (fun c1 => ?_) (fun c1 => ?_)
  · replace h := ite_f c1 h
    refine lv_iload_n hx hb dX7_stride_7 rfl (lv_at hl 0 rfl) ?_
    refine lv_iconst (v := 1) hx hb dX7_stride_8 (by decide) ?_
    refine lv_icmp_ne (tgt := 14) hx hb dX7_stride_9 (by decide) (fun c2 => ?_) (fun c2 => ?_)
    · replace h := ite_f c2 h
      refine lv_iload_n hx hb dX7_stride_14 rfl (lv_at hl 0 rfl) ?_
      refine lv_iconst (v := 2) hx hb dX7_stride_15 (by decide) ?_
      refine lv_icmp_ne (tgt := 24) hx hb dX7_stride_16 (by decide) (fun c3 => ?_) (fun c3 => ?_)
      · replace h := ite_f c3 h
        refine lv_iconst (v := (-1)) hx hb dX7_stride_24 (by decide) ?_
        exact hret _ _ _ _ dX7_stride_25 rfl h
      · replace h := ite_t c3 h
        refine lv_bipush (v := 9) hx hb dX7_stride_19 (by decide) ?_
        refine lv_goto (tgt := 25) hx hb dX7_stride_21 (by decide) ?_
        exact hret _ _ _ _ dX7_stride_25 rfl h
    · replace h := ite_t c2 h
      refine lv_iconst (v := 1) hx hb dX7_stride_12 (by decide) ?_
      exact hret _ _ _ _ dX7_stride_13 rfl h
  · replace h := ite_t c1 h
    refine lv_bipush (v := (-9)) hx hb dX7_stride_4 (by decide) ?_
    exact hret _ _ _ _ dX7_stride_6 rfl h

def fX7_nextCell (p0 : Int32) (p1 : Int32) : Int32 :=
  if (fX7_cellsAhead p0 p1) ≤ 0 then
    (-1)
  else
    (p0 + (fX7_stride p1))
set_option maxHeartbeats 4000000 in
set_option maxRecDepth 100000 in
theorem kX7_nextCell (l : Launch) (D : va_G) (T : Nat → ClassId) (p0 : Int32) (p1 : Int32) : RdI l yX7_nextCell cX7_nextCell 2 .int ({ frames := 1, cells := 0, slots := 0, locals := 23 } : Room) D T [] [.int p0, .int p1] (fX7_nextCell p0 p1) := by
  obtain ⟨r, h⟩ : ∃ r, fX7_nextCell p0 p1 = r := ⟨_, rfl⟩
  rw [h]
  unfold fX7_nextCell at h
  refine rdMet (by decide +kernel) rfl (fun p e s m args below meth c Q C hE hP hret ls hl => ?_)
  have hx := C.1
  have hb := C.2.1
  have hl : lv_has ls 2 [(0, .int p0), (1, .int p1)] := hl
  refine lv_iload_n hx hb dX7_nextCell_0 rfl (lv_at hl 0 rfl) ?_
  refine lv_iload_n hx hb dX7_nextCell_1 rfl (lv_at hl 1 rfl) ?_
  refine rdS C hE hP (kX7_cellsAhead l D T p0 p1) mX7_cellsAhead qLX7_446 [] rfl ⟨rfl, rfl⟩ ⟨Nat.le_of_ble_eq_true rfl, Nat.le_of_ble_eq_true rfl⟩ rfl hl.1 rfl (Nat.le_of_ble_eq_true rfl) dX7_nextCell_2 ⟨Nat.le_of_ble_eq_true rfl, Nat.le_of_ble_eq_true rfl⟩ ?_
  refine lv_if_le (tgt := 17) hx hb dX7_nextCell_5 (by decide) (fun c1 => ?_) (fun c1 => ?_)
  · replace h := ite_t c1 h
    refine lv_iconst (v := (-1)) hx hb dX7_nextCell_17 (by decide) ?_
    exact hret _ _ _ _ dX7_nextCell_18 rfl h
  · replace h := ite_f c1 h
    refine lv_iload_n hx hb dX7_nextCell_8 rfl (lv_at hl 0 rfl) ?_
    refine lv_iload_n hx hb dX7_nextCell_9 rfl (lv_at hl 1 rfl) ?_
    refine rdS C hE hP (kX7_stride l D T p1) mX7_stride qLX7_449 [] rfl ⟨rfl, rfl⟩ ⟨Nat.le_of_ble_eq_true rfl, Nat.le_of_ble_eq_true rfl⟩ rfl hl.1 rfl (Nat.le_of_ble_eq_true rfl) dX7_nextCell_10 ⟨Nat.le_of_ble_eq_true rfl, Nat.le_of_ble_eq_true rfl⟩ ?_
    refine lv_iadd hx hb dX7_nextCell_13 ?_
    refine lv_goto (tgt := 18) hx hb dX7_nextCell_14 (by decide) ?_
    exact hret _ _ _ _ dX7_nextCell_18 rfl h

def fX7_isCell (p0 : Int32) : Int32 :=
  if p0 < 0 then
    0
  else
    if 45 ≤ p0 then
      0
    else
      1
set_option maxHeartbeats 4000000 in
set_option maxRecDepth 100000 in
theorem kX7_isCell (l : Launch) (D : va_G) (T : Nat → ClassId) (p0 : Int32) : RdI l yX7_isCell cX7_isCell 1 .boolean ({ frames := 0, cells := 0, slots := 0, locals := 0 } : Room) D T [] [.int p0] (fX7_isCell p0) := by
  obtain ⟨r, h⟩ : ∃ r, fX7_isCell p0 = r := ⟨_, rfl⟩
  rw [h]
  unfold fX7_isCell at h
  refine rdMet (by decide +kernel) rfl (fun p e s m args below meth c Q C hE hP hret ls hl => ?_)
  have hx := C.1
  have hb := C.2.1
  have hl : lv_has ls 1 [(0, .int p0)] := hl
  refine lv_iload_n hx hb dX7_isCell_0 rfl (lv_at hl 0 rfl) ?_
  refine lv_if_lt (tgt := 14) hx hb dX7_isCell_1 (by decide) (fun c1 => ?_) (fun c1 => ?_)
  · replace h := ite_t c1 h
    refine lv_iconst (v := 0) hx hb dX7_isCell_14 (by decide) ?_
    exact hret _ _ _ _ dX7_isCell_15 rfl h
  · replace h := ite_f c1 h
    refine lv_iload_n hx hb dX7_isCell_4 rfl (lv_at hl 0 rfl) ?_
    refine lv_bipush (v := 45) hx hb dX7_isCell_5 (by decide) ?_
    refine lv_icmp_ge (tgt := 14) hx hb dX7_isCell_7 (by decide) (fun c2 => ?_) (fun c2 => ?_)
    · replace h := ite_t c2 h
      refine lv_iconst (v := 0) hx hb dX7_isCell_14 (by decide) ?_
      exact hret _ _ _ _ dX7_isCell_15 rfl h
    · replace h := ite_f c2 h
      refine lv_iconst (v := 1) hx hb dX7_isCell_10 (by decide) ?_
      refine lv_goto (tgt := 15) hx hb dX7_isCell_11 (by decide) ?_
      exact hret _ _ _ _ dX7_isCell_15 rfl h

def fX1_of (v_gw : Nat → Int32) (p0 : Int32) (p1 : Int32) : Option Int32 :=
  if ((p0 * 9) + p1) < 0 then
    some 0
  else
    if 90 ≤ ((p0 * 9) + p1) then
      some 0
    else
      if vin ((p0 * 9) + p1) 90 = true then
      some (v_gw ((p0 * 9) + p1).toNatClampNeg)
      else none
set_option maxHeartbeats 4000000 in
set_option maxRecDepth 100000 in
theorem kX1_of (l : Launch) (D : va_G) (T : Nat → ClassId) (a_g a_gw a_gk : Nat) (v_gw : Nat → Int32) (p0 : Int32) (p1 : Int32) (r : Int32) (h : fX1_of v_gw p0 p1 = some r) : RdI l yX1_of cX1_of 4 .int ({ frames := 0, cells := 0, slots := 0, locals := 0 } : Room) D T [(a_g, .inr (1, [.ref a_gw, .ref a_gk])), (a_gw, .inl (T 0, 90, .inl v_gw))] [.ref a_g, .int p0, .int p1] r := by
  unfold fX1_of at h
  refine rdMet (by decide +kernel) rfl (fun p e s m args below meth c Q C hE hP hret ls hl => ?_)
  have hx := C.1
  have hb := C.2.1
  have hl : lv_has ls 4 [(0, .ref a_g), (1, .int p0), (2, .int p1)] := hl
  refine lv_iload_n hx hb dX1_of_0 rfl (lv_at hl 1 rfl) ?_
  refine lv_bipush (v := 9) hx hb dX1_of_1 (by decide) ?_
  refine lv_imul hx hb dX1_of_3 ?_
  refine lv_iload_n hx hb dX1_of_4 rfl (lv_at hl 2 rfl) ?_
  refine lv_iadd hx hb dX1_of_5 ?_
  refine lv_istore_n (lv' := [(3, .int ((p0 * 9) + p1)), (0, .ref a_g), (1, .int p0), (2, .int p1)]) hx hb dX1_of_6 rfl hl (by decide) rfl (fun ls hl => ?_)
  refine lv_iload_n hx hb dX1_of_7 rfl (lv_at hl 0 rfl) ?_
  refine lv_if_lt (tgt := 29) hx hb dX1_of_8 (by decide) (fun c1 => ?_) (fun c1 => ?_)
  · replace h := ite_t c1 h
    refine lv_iconst (v := 0) hx hb dX1_of_29 (by decide) ?_
    exact hret _ _ _ _ dX1_of_30 rfl (Option.some.inj h)
  · replace h := ite_f c1 h
    refine lv_iload_n hx hb dX1_of_11 rfl (lv_at hl 0 rfl) ?_
    refine lv_aload_n hx hb dX1_of_12 rfl (lv_at hl 1 rfl) ?_
    refine getF (q0 := 0) (k0 := 0) (v := .ref a_gw) C hE hP inA1 rfl rfl (by decide) qFX1_9 rfl rfl dX1_of_13 ?_
    refine alen (q0 := 1) (t0 := 0) (v := 90) C hE hP rfl rfl (by decide) dX1_of_16 ?_
    refine lv_icmp_ge (tgt := 29) hx hb dX1_of_17 (by decide) (fun c2 => ?_) (fun c2 => ?_)
    · replace h := ite_t c2 h
      refine lv_iconst (v := 0) hx hb dX1_of_29 (by decide) ?_
      exact hret _ _ _ _ dX1_of_30 rfl (Option.some.inj h)
    · replace h := ite_f c2 h
      refine lv_aload_n hx hb dX1_of_20 rfl (lv_at hl 1 rfl) ?_
      refine getF (q0 := 0) (k0 := 0) (v := .ref a_gw) C hE hP inA1 rfl rfl (by decide) qFX1_9 rfl rfl dX1_of_21 ?_
      refine lv_iload_n hx hb dX1_of_24 rfl (lv_at hl 0 rfl) ?_
      replace h := gd h; obtain ⟨g3, h⟩ := h
      refine aldI (q0 := 1) C hE hP rfl g3 dX1_of_25 ?_
      refine lv_goto (tgt := 30) hx hb dX1_of_26 (by decide) ?_
      exact hret _ _ _ _ dX1_of_30 rfl (Option.some.inj h)

def fX1_whaleOn_2 (v_gw : Nat → Int32) (v_gk : Nat → Int32) : Nat → Int32 → Int32 → Option Int32
  | 0, _, _ => none
  | k + 1, l1, l2 =>
    (fX1_count v_gk 0).bind fun q1 =>
    if q1 ≤ l2 then
      some (-1)
    else
      (fX1_of v_gw l2 4).bind fun q4 =>
      if q4 = l1 then
        some l2
      else
        fX1_whaleOn_2 v_gw v_gk k l1 (l2 + 1)
def fX1_whaleOn (v_gw : Nat → Int32) (v_gk : Nat → Int32) (p0 : Int32) : Option Int32 :=
  fX1_whaleOn_2 v_gw v_gk 64 p0 0
set_option maxHeartbeats 4000000 in
set_option maxRecDepth 100000 in
theorem lX1_whaleOn_2 {p : Program} {l : Launch} {e : Env} {s : State} {m : MethodId} {args : Array Value} {below : List Frame} {meth : Method} {c : Code} {Q : State → Prop} {D : va_G} {T : Nat → ClassId} {a_g a_gw a_gk : Nat} {v_gw : Nat → Int32} {v_gk : Nat → Int32} {r : Int32} (C : CallFix p m c cX1_whaleOn 3 s args aw RX1) (hE : eK D T s) (hP : va_P D kC [(a_g, .inr (1, [.ref a_gw, .ref a_gk])), (a_gw, .inl (T 0, 90, .inl v_gw)), (a_gk, .inl (T 0, 18, .inl v_gk))] s.heap) (hret : RdRet p l e ({ frames := 1, cells := 0, slots := 0, locals := 23 } : Room) s m args below meth c Q cX1_whaleOn .int r) : ∀ (k : Nat) (l1 : Int32) (l2 : Int32) (ls : Array Slot) (hl : lv_has ls 3 [(0, .ref a_g), (1, .int l1), (2, .int l2)]) (h : fX1_whaleOn_2 v_gw v_gk k l1 l2 = some r), W p l e ({ frames := 1, cells := 0, slots := 0, locals := 23 } : Room) s m args below meth c s.heap [] 0 0 Q (F0 m 2 ls []) := by
  have hx := C.1
  have hb := C.2.1
  intro k
  induction k with
  | zero =>
    intro l1 l2  ls hl h
    exact nomatch (show (none : Option Int32) = some r from h)
  | succ k ih =>
    intro l1 l2  ls hl h
    rw [fX1_whaleOn_2] at h
    refine lv_iload_n hx hb dX1_whaleOn_2 rfl (lv_at hl 2 rfl) ?_
    refine lv_aload_n hx hb dX1_whaleOn_3 rfl (lv_at hl 0 rfl) ?_
    refine lv_iconst (v := 0) hx hb dX1_whaleOn_4 (by decide) ?_
    replace h := bnd h; obtain ⟨q1, e2, h⟩ := h
    refine rdV C hE hP (kX1_count l D T a_g a_gw a_gk v_gk 0 q1 e2) mX1_count qLX1_28 [0, 2] 0 rfl rfl rfl rfl ⟨rfl, rfl⟩ ⟨Nat.le_of_ble_eq_true rfl, Nat.le_of_ble_eq_true rfl⟩ rfl hl.1 rfl (Nat.le_of_ble_eq_true rfl) dX1_whaleOn_5 ⟨Nat.le_of_ble_eq_true rfl, Nat.le_of_ble_eq_true rfl⟩ ?_
    refine lv_icmp_ge (tgt := 29) hx hb dX1_whaleOn_8 (by decide) (fun c3 => ?_) (fun c3 => ?_)
    · replace h := ite_t c3 h
      refine lv_iconst (v := (-1)) hx hb dX1_whaleOn_29 (by decide) ?_
      exact hret _ _ _ _ dX1_whaleOn_30 rfl (Option.some.inj h)
    · replace h := ite_f c3 h
      refine lv_aload_n hx hb dX1_whaleOn_11 rfl (lv_at hl 0 rfl) ?_
      refine lv_iload_n hx hb dX1_whaleOn_12 rfl (lv_at hl 2 rfl) ?_
      refine lv_iconst (v := 4) hx hb dX1_whaleOn_13 (by decide) ?_
      replace h := bnd h; obtain ⟨q4, e5, h⟩ := h
      refine rdV C hE hP (kX1_of l D T a_g a_gw a_gk v_gw l2 4 q4 e5) mX1_of qLX1_32 [0, 1] 0 rfl rfl rfl rfl ⟨rfl, rfl⟩ ⟨Nat.le_of_ble_eq_true rfl, Nat.le_of_ble_eq_true rfl⟩ rfl hl.1 rfl (Nat.le_of_ble_eq_true rfl) dX1_whaleOn_14 ⟨Nat.le_of_ble_eq_true rfl, Nat.le_of_ble_eq_true rfl⟩ ?_
      refine lv_iload_n hx hb dX1_whaleOn_17 rfl (lv_at hl 1 rfl) ?_
      refine lv_icmp_ne (tgt := 23) hx hb dX1_whaleOn_18 (by decide) (fun c6 => ?_) (fun c6 => ?_)
      · replace h := ite_f c6 h
        refine lv_iinc (v := (l2 + 1)) (lv' := [(2, .int (l2 + 1)), (0, .ref a_g), (1, .int l1)]) hx hb dX1_whaleOn_23 hl (k := 2) rfl rfl (by decide) rfl (fun ls hl => ?_)
        refine lv_goto (tgt := 2) hx hb dX1_whaleOn_26 (by decide) ?_
        exact ih l1 (l2 + 1) _ (lv_sub hl [1, 2, 0] rfl) h
      · replace h := ite_t c6 h
        refine lv_iload_n hx hb dX1_whaleOn_21 rfl (lv_at hl 2 rfl) ?_
        exact hret _ _ _ _ dX1_whaleOn_22 rfl (Option.some.inj h)
set_option maxHeartbeats 4000000 in
set_option maxRecDepth 100000 in
theorem kX1_whaleOn (l : Launch) (D : va_G) (T : Nat → ClassId) (a_g a_gw a_gk : Nat) (v_gw : Nat → Int32) (v_gk : Nat → Int32) (p0 : Int32) (r : Int32) (h : fX1_whaleOn v_gw v_gk p0 = some r) : RdI l yX1_whaleOn cX1_whaleOn 3 .int ({ frames := 1, cells := 0, slots := 0, locals := 23 } : Room) D T [(a_g, .inr (1, [.ref a_gw, .ref a_gk])), (a_gw, .inl (T 0, 90, .inl v_gw)), (a_gk, .inl (T 0, 18, .inl v_gk))] [.ref a_g, .int p0] r := by
  unfold fX1_whaleOn at h
  refine rdMet (by decide +kernel) rfl (fun p e s m args below meth c Q C hE hP hret ls hl => ?_)
  have hx := C.1
  have hb := C.2.1
  have hl : lv_has ls 3 [(0, .ref a_g), (1, .int p0)] := hl
  refine lv_iconst (v := 0) hx hb dX1_whaleOn_0 (by decide) ?_
  refine lv_istore_n (lv' := [(2, .int 0), (0, .ref a_g), (1, .int p0)]) hx hb dX1_whaleOn_1 rfl hl (by decide) rfl (fun ls hl => ?_)
  exact lX1_whaleOn_2 C hE hP hret 64 p0 0 _ (lv_sub hl [1, 2, 0] rfl) h

def fX7_isEdge (p0 : Int32) : Int32 :=
  if (p0 / 9) = 0 then
    1
  else
    if (p0 / 9) = 4 then
      1
    else
      0
set_option maxHeartbeats 4000000 in
set_option maxRecDepth 100000 in
theorem kX7_isEdge (l : Launch) (D : va_G) (T : Nat → ClassId) (p0 : Int32) : RdI l yX7_isEdge cX7_isEdge 2 .boolean ({ frames := 0, cells := 0, slots := 0, locals := 0 } : Room) D T [] [.int p0] (fX7_isEdge p0) := by
  obtain ⟨r, h⟩ : ∃ r, fX7_isEdge p0 = r := ⟨_, rfl⟩
  rw [h]
  unfold fX7_isEdge at h
  refine rdMet (by decide +kernel) rfl (fun p e s m args below meth c Q C hE hP hret ls hl => ?_)
  have hx := C.1
  have hb := C.2.1
  have hl : lv_has ls 2 [(0, .int p0)] := hl
  refine lv_iload_n hx hb dX7_isEdge_0 rfl (lv_at hl 0 rfl) ?_
  refine lv_bipush (v := 9) hx hb dX7_isEdge_1 (by decide) ?_
  refine lv_idiv hx hb dX7_isEdge_3 (by decide) ?_
  refine lv_istore_n (lv' := [(1, .int (p0 / 9)), (0, .int p0)]) hx hb dX7_isEdge_4 rfl hl (by decide) rfl (fun ls hl => ?_)
  refine lv_iload_n hx hb dX7_isEdge_5 rfl (lv_at hl 0 rfl) ?_
  refine lv_if_eq (tgt := 14) hx hb dX7_isEdge_6 (by decide) (fun c1 => ?_) (fun c1 => ?_)
  · replace h := ite_t c1 h
    refine lv_iconst (v := 1) hx hb dX7_isEdge_14 (by decide) ?_
    refine lv_goto (tgt := 19) hx hb dX7_isEdge_15 (by decide) ?_
    exact hret _ _ _ _ dX7_isEdge_19 rfl h
  · replace h := ite_f c1 h
    refine lv_iload_n hx hb dX7_isEdge_9 rfl (lv_at hl 0 rfl) ?_
    refine lv_iconst (v := 4) hx hb dX7_isEdge_10 (by decide) ?_
    refine lv_icmp_ne (tgt := 18) hx hb dX7_isEdge_11 (by decide) (fun c2 => ?_) (fun c2 => ?_)
    · replace h := ite_f c2 h
      refine lv_iconst (v := 0) hx hb dX7_isEdge_18 (by decide) ?_
      exact hret _ _ _ _ dX7_isEdge_19 rfl h
    · replace h := ite_t c2 h
      refine lv_iconst (v := 1) hx hb dX7_isEdge_14 (by decide) ?_
      refine lv_goto (tgt := 19) hx hb dX7_isEdge_15 (by decide) ?_
      exact hret _ _ _ _ dX7_isEdge_19 rfl h

def fX7_isGoalEnd_10 (l0 : Int32) : Int32 :=
  if (fX7_isEdge l0) = 0 then
    1
  else
    0
def fX7_isGoalEnd (p0 : Int32) (p1 : Int32) : Int32 :=
  if p1 = 1 then
    fX7_isGoalEnd_10 p0
  else
    if p1 = 3 then
      fX7_isGoalEnd_10 p0
    else
      0
set_option maxHeartbeats 4000000 in
set_option maxRecDepth 100000 in
theorem lX7_isGoalEnd_10 {p : Program} {l : Launch} {e : Env} {s : State} {m : MethodId} {args : Array Value} {below : List Frame} {meth : Method} {c : Code} {Q : State → Prop} {D : va_G} {T : Nat → ClassId} {r : Int32} (C : CallFix p m c cX7_isGoalEnd 2 s args aw RX7) (hE : eK D T s) (hP : va_P D kC [] s.heap) (hret : RdRet p l e ({ frames := 1, cells := 0, slots := 0, locals := 21 } : Room) s m args below meth c Q cX7_isGoalEnd .boolean r) (l0 : Int32) (ls : Array Slot) (hl : lv_has ls 2 [(0, .int l0)]) (h : fX7_isGoalEnd_10 l0 = r) : W p l e ({ frames := 1, cells := 0, slots := 0, locals := 21 } : Room) s m args below meth c s.heap [] 0 0 Q (F0 m 10 ls []) := by
  have hx := C.1
  have hb := C.2.1
  unfold fX7_isGoalEnd_10 at h
  refine lv_iload_n hx hb dX7_isGoalEnd_10 rfl (lv_at hl 0 rfl) ?_
  refine rdS C hE hP (kX7_isEdge l D T l0) mX7_isEdge qLX7_170 [] rfl ⟨rfl, rfl⟩ ⟨Nat.le_of_ble_eq_true rfl, Nat.le_of_ble_eq_true rfl⟩ rfl hl.1 rfl (Nat.le_of_ble_eq_true rfl) dX7_isGoalEnd_11 ⟨Nat.le_of_ble_eq_true rfl, Nat.le_of_ble_eq_true rfl⟩ ?_
  refine lv_if_ne (tgt := 21) hx hb dX7_isGoalEnd_14 (by decide) (fun c3 => ?_) (fun c3 => ?_)
  · replace h := ite_f c3 h
    refine lv_iconst (v := 0) hx hb dX7_isGoalEnd_21 (by decide) ?_
    exact hret _ _ _ _ dX7_isGoalEnd_22 rfl h
  · replace h := ite_t c3 h
    refine lv_iconst (v := 1) hx hb dX7_isGoalEnd_17 (by decide) ?_
    refine lv_goto (tgt := 22) hx hb dX7_isGoalEnd_18 (by decide) ?_
    exact hret _ _ _ _ dX7_isGoalEnd_22 rfl h
set_option maxHeartbeats 4000000 in
set_option maxRecDepth 100000 in
theorem kX7_isGoalEnd (l : Launch) (D : va_G) (T : Nat → ClassId) (p0 : Int32) (p1 : Int32) : RdI l yX7_isGoalEnd cX7_isGoalEnd 2 .boolean ({ frames := 1, cells := 0, slots := 0, locals := 21 } : Room) D T [] [.int p0, .int p1] (fX7_isGoalEnd p0 p1) := by
  obtain ⟨r, h⟩ : ∃ r, fX7_isGoalEnd p0 p1 = r := ⟨_, rfl⟩
  rw [h]
  unfold fX7_isGoalEnd at h
  refine rdMet (by decide +kernel) rfl (fun p e s m args below meth c Q C hE hP hret ls hl => ?_)
  have hx := C.1
  have hb := C.2.1
  have hl : lv_has ls 2 [(0, .int p0), (1, .int p1)] := hl
  refine lv_iload_n hx hb dX7_isGoalEnd_0 rfl (lv_at hl 1 rfl) ?_
  refine lv_iconst (v := 1) hx hb dX7_isGoalEnd_1 (by decide) ?_
  refine lv_icmp_eq (tgt := 10) hx hb dX7_isGoalEnd_2 (by decide) (fun c1 => ?_) (fun c1 => ?_)
  · replace h := ite_t c1 h
    exact lX7_isGoalEnd_10 C hE hP hret p0 _ (lv_sub hl [0] rfl) h
  · replace h := ite_f c1 h
    refine lv_iload_n hx hb dX7_isGoalEnd_5 rfl (lv_at hl 1 rfl) ?_
    refine lv_iconst (v := 3) hx hb dX7_isGoalEnd_6 (by decide) ?_
    refine lv_icmp_ne (tgt := 21) hx hb dX7_isGoalEnd_7 (by decide) (fun c2 => ?_) (fun c2 => ?_)
    · replace h := ite_f c2 h
      refine lv_iconst (v := 0) hx hb dX7_isGoalEnd_21 (by decide) ?_
      exact hret _ _ _ _ dX7_isGoalEnd_22 rfl h
    · replace h := ite_t c2 h
      exact lX7_isGoalEnd_10 C hE hP hret p0 _ (lv_sub hl [0] rfl) h

def fX7_goalAt (p0 : Int32) : Int32 :=
  if p0 = 1 then
    45
  else
    46
set_option maxHeartbeats 4000000 in
set_option maxRecDepth 100000 in
theorem kX7_goalAt (l : Launch) (D : va_G) (T : Nat → ClassId) (p0 : Int32) : RdI l yX7_goalAt cX7_goalAt 1 .int ({ frames := 0, cells := 0, slots := 0, locals := 0 } : Room) D T [] [.int p0] (fX7_goalAt p0) := by
  obtain ⟨r, h⟩ : ∃ r, fX7_goalAt p0 = r := ⟨_, rfl⟩
  rw [h]
  unfold fX7_goalAt at h
  refine rdMet (by decide +kernel) rfl (fun p e s m args below meth c Q C hE hP hret ls hl => ?_)
  have hx := C.1
  have hb := C.2.1
  have hl : lv_has ls 1 [(0, .int p0)] := hl
  refine lv_iload_n hx hb dX7_goalAt_0 rfl (lv_at hl 0 rfl) ?_
  refine lv_iconst (v := 1) hx hb dX7_goalAt_1 (by decide) ?_
  refine lv_icmp_ne (tgt := 10) hx hb dX7_goalAt_2 (by decide) (fun c1 => ?_) (fun c1 => ?_)
  · replace h := ite_f c1 h
    refine lv_bipush (v := 46) hx hb dX7_goalAt_10 (by decide) ?_
    exact hret _ _ _ _ dX7_goalAt_12 rfl h
  · replace h := ite_t c1 h
    refine lv_bipush (v := 45) hx hb dX7_goalAt_5 (by decide) ?_
    refine lv_goto (tgt := 12) hx hb dX7_goalAt_7 (by decide) ?_
    exact hret _ _ _ _ dX7_goalAt_12 rfl h

def fX7_tideByDividing (p0 : Int32) : Int32 :=
  if 8 < (p0 - p0 / 16 * 16) then
    ((p0 - p0 / 16 * 16) - 8)
  else
    (8 - (p0 - p0 / 16 * 16))
set_option maxHeartbeats 4000000 in
set_option maxRecDepth 100000 in
theorem kX7_tideByDividing (l : Launch) (D : va_G) (T : Nat → ClassId) (p0 : Int32) : RdI l yX7_tideByDividing cX7_tideByDividing 2 .int ({ frames := 0, cells := 0, slots := 0, locals := 0 } : Room) D T [] [.int p0] (fX7_tideByDividing p0) := by
  obtain ⟨r, h⟩ : ∃ r, fX7_tideByDividing p0 = r := ⟨_, rfl⟩
  rw [h]
  unfold fX7_tideByDividing at h
  refine rdMet (by decide +kernel) rfl (fun p e s m args below meth c Q C hE hP hret ls hl => ?_)
  have hx := C.1
  have hb := C.2.1
  have hl : lv_has ls 2 [(0, .int p0)] := hl
  refine lv_iload_n hx hb dX7_tideByDividing_0 rfl (lv_at hl 0 rfl) ?_
  refine lv_bipush (v := 16) hx hb dX7_tideByDividing_1 (by decide) ?_
  refine lv_irem hx hb dX7_tideByDividing_3 (by decide) ?_
  refine lv_istore_n (lv' := [(1, .int (p0 - p0 / 16 * 16)), (0, .int p0)]) hx hb dX7_tideByDividing_4 rfl hl (by decide) rfl (fun ls hl => ?_)
  refine lv_iload_n hx hb dX7_tideByDividing_5 rfl (lv_at hl 0 rfl) ?_
  refine lv_bipush (v := 8) hx hb dX7_tideByDividing_6 (by decide) ?_
  refine lv_icmp_gt (tgt := 18) hx hb dX7_tideByDividing_8 (by decide) (fun c1 => ?_) (fun c1 => ?_)
  · replace h := ite_t c1 h
    refine lv_iload_n hx hb dX7_tideByDividing_18 rfl (lv_at hl 0 rfl) ?_
    refine lv_bipush (v := 8) hx hb dX7_tideByDividing_19 (by decide) ?_
    refine lv_isub hx hb dX7_tideByDividing_21 ?_
    exact hret _ _ _ _ dX7_tideByDividing_22 rfl h
  · replace h := ite_f c1 h
    refine lv_bipush (v := 8) hx hb dX7_tideByDividing_11 (by decide) ?_
    refine lv_iload_n hx hb dX7_tideByDividing_13 rfl (lv_at hl 0 rfl) ?_
    refine lv_isub hx hb dX7_tideByDividing_14 ?_
    refine lv_goto (tgt := 22) hx hb dX7_tideByDividing_15 (by decide) ?_
    exact hret _ _ _ _ dX7_tideByDividing_22 rfl h

def fX1_isDryNow (v_gk : Nat → Int32) (p0 : Int32) : Option Int32 :=
  if (fX7_isEdge p0) = 0 then
    some 0
  else
    (fX1_count v_gk 1).bind fun q2 =>
    if 2 < (fX7_tideByDividing q2) then
      some 0
    else
      some 1
set_option maxHeartbeats 4000000 in
set_option maxRecDepth 100000 in
theorem kX1_isDryNow (l : Launch) (D : va_G) (T : Nat → ClassId) (a_g a_gw a_gk : Nat) (v_gk : Nat → Int32) (p0 : Int32) (r : Int32) (h : fX1_isDryNow v_gk p0 = some r) : RdI l yX1_isDryNow cX1_isDryNow 2 .boolean ({ frames := 1, cells := 0, slots := 0, locals := 21 } : Room) D T [(a_g, .inr (1, [.ref a_gw, .ref a_gk])), (a_gk, .inl (T 0, 18, .inl v_gk))] [.ref a_g, .int p0] r := by
  unfold fX1_isDryNow at h
  refine rdMet (by decide +kernel) rfl (fun p e s m args below meth c Q C hE hP hret ls hl => ?_)
  have hx := C.1
  have hb := C.2.1
  have hl : lv_has ls 2 [(0, .ref a_g), (1, .int p0)] := hl
  refine lv_iload_n hx hb dX1_isDryNow_0 rfl (lv_at hl 1 rfl) ?_
  refine rdSN C hE hP (kX7_isEdge l D T p0) mX7_isEdge (by decide +kernel) [] rfl ⟨rfl, rfl⟩ ⟨Nat.le_of_ble_eq_true rfl, Nat.le_of_ble_eq_true rfl⟩ rfl hl.1 rfl (Nat.le_of_ble_eq_true rfl) dX1_isDryNow_1 ⟨Nat.le_of_ble_eq_true rfl, Nat.le_of_ble_eq_true rfl⟩ ?_
  refine lv_if_eq (tgt := 23) hx hb dX1_isDryNow_4 (by decide) (fun c1 => ?_) (fun c1 => ?_)
  · replace h := ite_t c1 h
    refine lv_iconst (v := 0) hx hb dX1_isDryNow_23 (by decide) ?_
    exact hret _ _ _ _ dX1_isDryNow_24 rfl (Option.some.inj h)
  · replace h := ite_f c1 h
    refine lv_aload_n hx hb dX1_isDryNow_7 rfl (lv_at hl 0 rfl) ?_
    refine lv_iconst (v := 1) hx hb dX1_isDryNow_8 (by decide) ?_
    replace h := bnd h; obtain ⟨q2, e3, h⟩ := h
    refine rdV C hE hP (kX1_count l D T a_g a_gw a_gk v_gk 1 q2 e3) mX1_count qLX1_28 [0, 1] 0 rfl rfl rfl rfl ⟨rfl, rfl⟩ ⟨Nat.le_of_ble_eq_true rfl, Nat.le_of_ble_eq_true rfl⟩ rfl hl.1 rfl (Nat.le_of_ble_eq_true rfl) dX1_isDryNow_9 ⟨Nat.le_of_ble_eq_true rfl, Nat.le_of_ble_eq_true rfl⟩ ?_
    refine rdSN C hE hP (kX7_tideByDividing l D T q2) mX7_tideByDividing (by decide +kernel) [] rfl ⟨rfl, rfl⟩ ⟨Nat.le_of_ble_eq_true rfl, Nat.le_of_ble_eq_true rfl⟩ rfl hl.1 rfl (Nat.le_of_ble_eq_true rfl) dX1_isDryNow_12 ⟨Nat.le_of_ble_eq_true rfl, Nat.le_of_ble_eq_true rfl⟩ ?_
    refine lv_iconst (v := 2) hx hb dX1_isDryNow_15 (by decide) ?_
    refine lv_icmp_gt (tgt := 23) hx hb dX1_isDryNow_16 (by decide) (fun c4 => ?_) (fun c4 => ?_)
    · replace h := ite_t c4 h
      refine lv_iconst (v := 0) hx hb dX1_isDryNow_23 (by decide) ?_
      exact hret _ _ _ _ dX1_isDryNow_24 rfl (Option.some.inj h)
    · replace h := ite_f c4 h
      refine lv_iconst (v := 1) hx hb dX1_isDryNow_19 (by decide) ?_
      refine lv_goto (tgt := 24) hx hb dX1_isDryNow_20 (by decide) ?_
      exact hret _ _ _ _ dX1_isDryNow_24 rfl (Option.some.inj h)

def fX0_goByCells_55 (v_gw : Nat → Int32) (v_gk : Nat → Int32) (x1 : Int32) (l2 : Int32) (l4 : Int32) (f_net : Int32) : Option (Int32 × Int32) :=
  if x1 = 0 then
    some ((fX7_goalAt l2), x1)
  else
    some (l4, x1)
def fX0_goByCells_101 (v_gw : Nat → Int32) (v_gk : Nat → Int32) (rec18 : Int32 → Int32 → Int32 → Int32 → Int32 → Int32 → Option (Int32 × Int32)) (l1 : Int32) (l2 : Int32) (l3 : Int32) (l4 : Int32) (l5 : Int32) (l6 : Int32) (f_net : Int32) : Option (Int32 × Int32) :=
  (fX1_isDryNow v_gk l6).bind fun q11 =>
  if q11 = 0 then
    rec18 l1 l2 l3 l6 (l5 + 1) f_net
  else
    some (l4, 1)
def fX0_goByCells_18 (v_gw : Nat → Int32) (v_gk : Nat → Int32) : Nat → Int32 → Int32 → Int32 → Int32 → Int32 → Int32 → Option (Int32 × Int32)
  | 0, _, _, _, _, _, _ => none
  | k + 1, l1, l2, l3, l4, l5, f_net =>
    if l3 ≤ l5 then
      some (l4, f_net)
    else
      if (fX7_isCell (fX7_nextCell l4 l2)) = 0 then
        fX0_goByCells_55 v_gw v_gk (if (fX7_isGoalEnd l4 l2) = 0 then 1 else 0) l2 l4 f_net
      else
        (fX1_whaleOn v_gw v_gk (fX7_nextCell l4 l2)).bind fun q5 =>
        if q5 = (-1) then
          fX0_goByCells_101 v_gw v_gk (fX0_goByCells_18 v_gw v_gk k) l1 l2 l3 l4 l5 (fX7_nextCell l4 l2) f_net
        else
          if q5 = l1 then
            fX0_goByCells_101 v_gw v_gk (fX0_goByCells_18 v_gw v_gk k) l1 l2 l3 l4 l5 (fX7_nextCell l4 l2) f_net
          else
            some (l4, f_net)
def fX0_goByCells (f_net : Int32) (v_gw : Nat → Int32) (v_gk : Nat → Int32) (p0 : Int32) (p1 : Int32) (p2 : Int32) : Option (Int32 × Int32) :=
  (fX1_count v_gk 5).bind fun q1 =>
  fX0_goByCells_18 v_gw v_gk 64 p0 p1 p2 q1 0 0
set_option maxHeartbeats 4000000 in
set_option maxRecDepth 100000 in
theorem lX0_goByCells_55 {p : Program} {l : Launch} {e : Env} {s : State} {m : MethodId} {args : Array Value} {below : List Frame} {meth : Method} {c : Code} {Q : State → Prop} {D : va_G} {T : Nat → ClassId} {a_g a_gw a_gk a_f : Nat} {v_gw : Nat → Int32} {v_gk : Nat → Int32} {A : Nat → Prop} {r : Int32 × Int32} (C : CallFix p m c cX0_goByCells 8 s args aw RX0) (hE : eK D T s) (hA : ∀ q : Nat, s.heap.size ≤ q → A q) (hret : WrRet p l e ({ frames := 2, cells := 0, slots := 0, locals := 45 } : Room) s m args below meth c Q cX0_goByCells .int D A [(a_g, .inr (1, [.ref a_gw, .ref a_gk])), (a_f, .inr (0, [.ref a_g, .int r.2])), (a_gw, .inl (T 0, 90, .inl v_gw)), (a_gk, .inl (T 0, 18, .inl v_gk))] r.1) (x1 : Int32) (l2 : Int32) (l4 : Int32) (f_net : Int32) (hb_x1 : x1 &&& 1 = x1) {H : Heap} {locs : List Loc} (hPD : va_PD D A [(a_g, .inr (1, [.ref a_gw, .ref a_gk])), (a_f, .inr (0, [.ref a_g, .int f_net])), (a_gw, .inl (T 0, 90, .inl v_gw)), (a_gk, .inl (T 0, 18, .inl v_gk))] H) (hS : va_S A s.heap H locs) (ls : Array Slot) (hl : lv_has ls 8 [(0, .ref a_f), (2, .int l2), (4, .int l4)]) (h : fX0_goByCells_55 v_gw v_gk x1 l2 l4 f_net = some r) : W p l e ({ frames := 2, cells := 0, slots := 0, locals := 45 } : Room) s m args below meth c H locs 0 0 Q (F0 m 55 ls [.int x1, .ref a_f]) := by
  have hx := C.1
  have hb := C.2.1
  obtain ⟨hP, hD⟩ := hPD
  unfold fX0_goByCells_55 at h
  refine putF (q0 := 1) (k0 := 1) (ws1 := [(a_g, .inr (1, [.ref a_gw, .ref a_gk])), (a_f, .inr (0, [.ref a_g, .int x1])), (a_gw, .inl (T 0, 90, .inl v_gw)), (a_gk, .inl (T 0, 18, .inl v_gk))]) C hE hP hD hS inA0 tyX0_ok nmX0 rfl rfl (by decide) qFX0_9 rfl rfl (nzB hb_x1) (fzB hb_x1) (Nat.le_of_ble_eq_true rfl) rfl dX0_goByCells_55 ?_; clear hP hD hS; intro H locs hP hD hS
  refine lv_aload_n hx hb dX0_goByCells_58 rfl (lv_at hl 0 rfl) ?_
  refine getF (q0 := 1) (k0 := 1) (v := .int x1) C hE hP inA0 rfl rfl (by decide) qFX0_9 rfl rfl dX0_goByCells_59 ?_
  refine lv_if_eq (tgt := 70) hx hb dX0_goByCells_62 (by decide) (fun c10 => ?_) (fun c10 => ?_)
  · replace h := ite_t c10 h
    refine lv_iload_n hx hb dX0_goByCells_70 rfl (lv_at hl 1 rfl) ?_
    refine rdSN C hE hP (kX7_goalAt l D T l2) mX7_goalAt (by decide +kernel) [] rfl ⟨rfl, rfl⟩ ⟨Nat.le_of_ble_eq_true rfl, Nat.le_of_ble_eq_true rfl⟩ rfl hl.1 rfl (Nat.le_of_ble_eq_true rfl) dX0_goByCells_71 ⟨Nat.le_of_ble_eq_true rfl, Nat.le_of_ble_eq_true rfl⟩ ?_
    replace h := Option.some.inj h
    exact hret _ _ _ _ _ _ dX0_goByCells_74 rfl (by rw [← h] <;> rfl) (by rw [← h]; exact hP) hS
  · replace h := ite_f c10 h
    refine lv_iload hx hb dX0_goByCells_65 (lv_at hl 2 rfl) ?_
    refine lv_goto (tgt := 74) hx hb dX0_goByCells_67 (by decide) ?_
    replace h := Option.some.inj h
    exact hret _ _ _ _ _ _ dX0_goByCells_74 rfl (by rw [← h] <;> rfl) (by rw [← h]; exact hP) hS
set_option maxHeartbeats 4000000 in
set_option maxRecDepth 100000 in
theorem lX0_goByCells_101 {p : Program} {l : Launch} {e : Env} {s : State} {m : MethodId} {args : Array Value} {below : List Frame} {meth : Method} {c : Code} {Q : State → Prop} {D : va_G} {T : Nat → ClassId} {a_g a_gw a_gk a_f : Nat} {v_gw : Nat → Int32} {v_gk : Nat → Int32} {A : Nat → Prop} {r : Int32 × Int32} (C : CallFix p m c cX0_goByCells 8 s args aw RX0) (hE : eK D T s) (hA : ∀ q : Nat, s.heap.size ≤ q → A q) (hret : WrRet p l e ({ frames := 2, cells := 0, slots := 0, locals := 45 } : Room) s m args below meth c Q cX0_goByCells .int D A [(a_g, .inr (1, [.ref a_gw, .ref a_gk])), (a_f, .inr (0, [.ref a_g, .int r.2])), (a_gw, .inl (T 0, 90, .inl v_gw)), (a_gk, .inl (T 0, 18, .inl v_gk))] r.1) {rec18 : Int32 → Int32 → Int32 → Int32 → Int32 → Int32 → Option (Int32 × Int32)} (hrec18 : ∀ (l1 : Int32) (l2 : Int32) (l3 : Int32) (l4 : Int32) (l5 : Int32) (f_net : Int32) {H : Heap} {locs : List Loc} (hPD : va_PD D A [(a_g, .inr (1, [.ref a_gw, .ref a_gk])), (a_f, .inr (0, [.ref a_g, .int f_net])), (a_gw, .inl (T 0, 90, .inl v_gw)), (a_gk, .inl (T 0, 18, .inl v_gk))] H) (hS : va_S A s.heap H locs) (ls : Array Slot) (hl : lv_has ls 8 [(0, .ref a_f), (1, .int l1), (2, .int l2), (3, .int l3), (4, .int l4), (5, .int l5)]) (h : rec18 l1 l2 l3 l4 l5 f_net = some r), W p l e ({ frames := 2, cells := 0, slots := 0, locals := 45 } : Room) s m args below meth c H locs 0 0 Q (F0 m 18 ls [])) (l1 : Int32) (l2 : Int32) (l3 : Int32) (l4 : Int32) (l5 : Int32) (l6 : Int32) (f_net : Int32) {H : Heap} {locs : List Loc} (hPD : va_PD D A [(a_g, .inr (1, [.ref a_gw, .ref a_gk])), (a_f, .inr (0, [.ref a_g, .int f_net])), (a_gw, .inl (T 0, 90, .inl v_gw)), (a_gk, .inl (T 0, 18, .inl v_gk))] H) (hS : va_S A s.heap H locs) (ls : Array Slot) (hl : lv_has ls 8 [(0, .ref a_f), (1, .int l1), (2, .int l2), (3, .int l3), (4, .int l4), (5, .int l5), (6, .int l6)]) (h : fX0_goByCells_101 v_gw v_gk rec18 l1 l2 l3 l4 l5 l6 f_net = some r) : W p l e ({ frames := 2, cells := 0, slots := 0, locals := 45 } : Room) s m args below meth c H locs 0 0 Q (F0 m 101 ls []) := by
  have hx := C.1
  have hb := C.2.1
  obtain ⟨hP, hD⟩ := hPD
  unfold fX0_goByCells_101 at h
  refine lv_aload_n hx hb dX0_goByCells_101 rfl (lv_at hl 0 rfl) ?_
  refine getF (q0 := 1) (k0 := 0) (v := .ref a_g) C hE hP inA0 rfl rfl (by decide) qFX0_15 rfl rfl dX0_goByCells_102 ?_
  refine lv_iload hx hb dX0_goByCells_105 (lv_at hl 6 rfl) ?_
  replace h := bnd h; obtain ⟨q11, e12, h⟩ := h
  refine rdV C hE hP (kX1_isDryNow l D T a_g a_gw a_gk v_gk l6 q11 e12) mX1_isDryNow qLX0_50 [0, 3] 0 rfl rfl rfl rfl ⟨rfl, rfl⟩ ⟨Nat.le_of_ble_eq_true rfl, Nat.le_of_ble_eq_true rfl⟩ rfl hl.1 rfl (Nat.le_of_ble_eq_true rfl) dX0_goByCells_107 ⟨Nat.le_of_ble_eq_true rfl, Nat.le_of_ble_eq_true rfl⟩ ?_
  refine lv_if_eq (tgt := 121) hx hb dX0_goByCells_110 (by decide) (fun c13 => ?_) (fun c13 => ?_)
  · replace h := ite_t c13 h
    refine lv_iload hx hb dX0_goByCells_121 (lv_at hl 6 rfl) ?_
    refine lv_istore (lv' := [(4, .int l6), (0, .ref a_f), (1, .int l1), (2, .int l2), (3, .int l3), (5, .int l5), (6, .int l6)]) hx hb dX0_goByCells_123 hl (by decide) rfl (fun ls hl => ?_)
    refine lv_iinc (v := (l5 + 1)) (lv' := [(5, .int (l5 + 1)), (4, .int l6), (0, .ref a_f), (1, .int l1), (2, .int l2), (3, .int l3), (6, .int l6)]) hx hb dX0_goByCells_125 hl (k := 5) rfl rfl (by decide) rfl (fun ls hl => ?_)
    refine lv_goto (tgt := 18) hx hb dX0_goByCells_128 (by decide) ?_
    exact hrec18 l1 l2 l3 l6 (l5 + 1) f_net ⟨hP, hD⟩ hS _ (lv_sub hl [2, 3, 4, 5, 1, 0] rfl) h
  · replace h := ite_f c13 h
    refine lv_aload_n hx hb dX0_goByCells_113 rfl (lv_at hl 0 rfl) ?_
    refine lv_iconst (v := 1) hx hb dX0_goByCells_114 (by decide) ?_
    refine putF (q0 := 1) (k0 := 1) (ws1 := [(a_g, .inr (1, [.ref a_gw, .ref a_gk])), (a_f, .inr (0, [.ref a_g, .int 1])), (a_gw, .inl (T 0, 90, .inl v_gw)), (a_gk, .inl (T 0, 18, .inl v_gk))]) C hE hP hD hS inA0 tyX0_ok nmX0 rfl rfl (by decide) qFX0_9 rfl rfl rfl rfl (Nat.le_of_ble_eq_true rfl) rfl dX0_goByCells_115 ?_; clear hP hD hS; intro H locs hP hD hS
    refine lv_iload hx hb dX0_goByCells_118 (lv_at hl 4 rfl) ?_
    replace h := Option.some.inj h
    exact hret _ _ _ _ _ _ dX0_goByCells_120 rfl (by rw [← h] <;> rfl) (by rw [← h]; exact hP) hS
set_option maxHeartbeats 4000000 in
set_option maxRecDepth 100000 in
theorem lX0_goByCells_18 {p : Program} {l : Launch} {e : Env} {s : State} {m : MethodId} {args : Array Value} {below : List Frame} {meth : Method} {c : Code} {Q : State → Prop} {D : va_G} {T : Nat → ClassId} {a_g a_gw a_gk a_f : Nat} {v_gw : Nat → Int32} {v_gk : Nat → Int32} {A : Nat → Prop} {r : Int32 × Int32} (C : CallFix p m c cX0_goByCells 8 s args aw RX0) (hE : eK D T s) (hA : ∀ q : Nat, s.heap.size ≤ q → A q) (hret : WrRet p l e ({ frames := 2, cells := 0, slots := 0, locals := 45 } : Room) s m args below meth c Q cX0_goByCells .int D A [(a_g, .inr (1, [.ref a_gw, .ref a_gk])), (a_f, .inr (0, [.ref a_g, .int r.2])), (a_gw, .inl (T 0, 90, .inl v_gw)), (a_gk, .inl (T 0, 18, .inl v_gk))] r.1) : ∀ (k : Nat) (l1 : Int32) (l2 : Int32) (l3 : Int32) (l4 : Int32) (l5 : Int32) (f_net : Int32) {H : Heap} {locs : List Loc} (hPD : va_PD D A [(a_g, .inr (1, [.ref a_gw, .ref a_gk])), (a_f, .inr (0, [.ref a_g, .int f_net])), (a_gw, .inl (T 0, 90, .inl v_gw)), (a_gk, .inl (T 0, 18, .inl v_gk))] H) (hS : va_S A s.heap H locs) (ls : Array Slot) (hl : lv_has ls 8 [(0, .ref a_f), (1, .int l1), (2, .int l2), (3, .int l3), (4, .int l4), (5, .int l5)]) (h : fX0_goByCells_18 v_gw v_gk k l1 l2 l3 l4 l5 f_net = some r), W p l e ({ frames := 2, cells := 0, slots := 0, locals := 45 } : Room) s m args below meth c H locs 0 0 Q (F0 m 18 ls []) := by
  have hx := C.1
  have hb := C.2.1
  intro k
  induction k with
  | zero =>
    intro l1 l2 l3 l4 l5 f_net H locs hPD hS ls hl h
    exact nomatch (show (none : Option (Int32 × Int32)) = some r from h)
  | succ k ih =>
    intro l1 l2 l3 l4 l5 f_net H locs hPD hS ls hl h
    obtain ⟨hP, hD⟩ := hPD
    rw [fX0_goByCells_18] at h
    refine lv_iload hx hb dX0_goByCells_18 (lv_at hl 5 rfl) ?_
    refine lv_iload_n hx hb dX0_goByCells_20 rfl (lv_at hl 3 rfl) ?_
    refine lv_icmp_ge (tgt := 131) hx hb dX0_goByCells_21 (by decide) (fun c3 => ?_) (fun c3 => ?_)
    · replace h := ite_t c3 h
      refine lv_iload hx hb dX0_goByCells_131 (lv_at hl 4 rfl) ?_
      replace h := Option.some.inj h
      exact hret _ _ _ _ _ _ dX0_goByCells_133 rfl (by rw [← h] <;> rfl) (by rw [← h]; exact hP) hS
    · replace h := ite_f c3 h
      refine lv_iload hx hb dX0_goByCells_24 (lv_at hl 4 rfl) ?_
      refine lv_iload_n hx hb dX0_goByCells_26 rfl (lv_at hl 2 rfl) ?_
      refine rdSN C hE hP (kX7_nextCell l D T l4 l2) mX7_nextCell (by decide +kernel) [] rfl ⟨rfl, rfl⟩ ⟨Nat.le_of_ble_eq_true rfl, Nat.le_of_ble_eq_true rfl⟩ rfl hl.1 rfl (Nat.le_of_ble_eq_true rfl) dX0_goByCells_27 ⟨Nat.le_of_ble_eq_true rfl, Nat.le_of_ble_eq_true rfl⟩ ?_
      refine lv_istore (lv' := [(6, .int (fX7_nextCell l4 l2)), (0, .ref a_f), (1, .int l1), (2, .int l2), (3, .int l3), (4, .int l4), (5, .int l5)]) hx hb dX0_goByCells_30 hl (by decide) rfl (fun ls hl => ?_)
      refine lv_iload hx hb dX0_goByCells_32 (lv_at hl 0 rfl) ?_
      refine rdSN C hE hP (kX7_isCell l D T (fX7_nextCell l4 l2)) mX7_isCell (by decide +kernel) [] rfl ⟨rfl, rfl⟩ ⟨Nat.le_of_ble_eq_true rfl, Nat.le_of_ble_eq_true rfl⟩ rfl hl.1 rfl (Nat.le_of_ble_eq_true rfl) dX0_goByCells_34 ⟨Nat.le_of_ble_eq_true rfl, Nat.le_of_ble_eq_true rfl⟩ ?_
      refine lv_if_ne (tgt := 75) hx hb dX0_goByCells_37 (by decide) (fun c4 => ?_) (fun c4 => ?_)
      · replace h := ite_f c4 h
        refine lv_aload_n hx hb dX0_goByCells_75 rfl (lv_at hl 1 rfl) ?_
        refine getF (q0 := 1) (k0 := 0) (v := .ref a_g) C hE hP inA0 rfl rfl (by decide) qFX0_15 rfl rfl dX0_goByCells_76 ?_
        refine lv_iload hx hb dX0_goByCells_79 (lv_at hl 0 rfl) ?_
        replace h := bnd h; obtain ⟨q5, e6, h⟩ := h
        refine rdV C hE hP (kX1_whaleOn l D T a_g a_gw a_gk v_gw v_gk (fX7_nextCell l4 l2) q5 e6) mX1_whaleOn qLX0_47 [0, 2, 3] 0 rfl rfl rfl rfl ⟨rfl, rfl⟩ ⟨Nat.le_of_ble_eq_true rfl, Nat.le_of_ble_eq_true rfl⟩ rfl hl.1 rfl (Nat.le_of_ble_eq_true rfl) dX0_goByCells_81 ⟨Nat.le_of_ble_eq_true rfl, Nat.le_of_ble_eq_true rfl⟩ ?_
        refine lv_istore (lv' := [(7, .int q5), (6, .int (fX7_nextCell l4 l2)), (0, .ref a_f), (1, .int l1), (2, .int l2), (3, .int l3), (4, .int l4), (5, .int l5)]) hx hb dX0_goByCells_84 hl (by decide) rfl (fun ls hl => ?_)
        refine lv_iload hx hb dX0_goByCells_86 (lv_at hl 0 rfl) ?_
        refine lv_iconst (v := (-1)) hx hb dX0_goByCells_88 (by decide) ?_
        refine lv_icmp_eq (tgt := 101) hx hb dX0_goByCells_89 (by decide) (fun c7 => ?_) (fun c7 => ?_)
        · replace h := ite_t c7 h
          exact lX0_goByCells_101 C hE hA hret ih l1 l2 l3 l4 l5 (fX7_nextCell l4 l2) f_net ⟨hP, hD⟩ hS _ (lv_sub hl [2, 3, 4, 5, 6, 7, 1] rfl) h
        · replace h := ite_f c7 h
          refine lv_iload hx hb dX0_goByCells_92 (lv_at hl 0 rfl) ?_
          refine lv_iload_n hx hb dX0_goByCells_94 rfl (lv_at hl 3 rfl) ?_
          refine lv_icmp_eq (tgt := 101) hx hb dX0_goByCells_95 (by decide) (fun c8 => ?_) (fun c8 => ?_)
          · replace h := ite_t c8 h
            exact lX0_goByCells_101 C hE hA hret ih l1 l2 l3 l4 l5 (fX7_nextCell l4 l2) f_net ⟨hP, hD⟩ hS _ (lv_sub hl [2, 3, 4, 5, 6, 7, 1] rfl) h
          · replace h := ite_f c8 h
            refine lv_iload hx hb dX0_goByCells_98 (lv_at hl 6 rfl) ?_
            replace h := Option.some.inj h
            exact hret _ _ _ _ _ _ dX0_goByCells_100 rfl (by rw [← h] <;> rfl) (by rw [← h]; exact hP) hS
      · replace h := ite_t c4 h
        refine lv_aload_n hx hb dX0_goByCells_40 rfl (lv_at hl 1 rfl) ?_
        refine lv_iload hx hb dX0_goByCells_41 (lv_at hl 5 rfl) ?_
        refine lv_iload_n hx hb dX0_goByCells_43 rfl (lv_at hl 3 rfl) ?_
        refine rdSN C hE hP (kX7_isGoalEnd l D T l4 l2) mX7_isGoalEnd (by decide +kernel) [] rfl ⟨rfl, rfl⟩ ⟨Nat.le_of_ble_eq_true rfl, Nat.le_of_ble_eq_true rfl⟩ rfl hl.1 rfl (Nat.le_of_ble_eq_true rfl) dX0_goByCells_44 ⟨Nat.le_of_ble_eq_true rfl, Nat.le_of_ble_eq_true rfl⟩ ?_
        refine lv_if_ne (tgt := 54) hx hb dX0_goByCells_47 (by decide) (fun c9 => ?_) (fun c9 => ?_)
        · rw [if_neg c9] at h
          refine lv_iconst (v := 0) hx hb dX0_goByCells_54 (by decide) ?_
          exact lX0_goByCells_55 C hE hA hret 0 l2 l4 f_net rfl ⟨hP, hD⟩ hS _ (lv_sub hl [1, 3, 5] rfl) h
        · rw [if_pos c9] at h
          refine lv_iconst (v := 1) hx hb dX0_goByCells_50 (by decide) ?_
          refine lv_goto (tgt := 55) hx hb dX0_goByCells_51 (by decide) ?_
          exact lX0_goByCells_55 C hE hA hret 1 l2 l4 f_net rfl ⟨hP, hD⟩ hS _ (lv_sub hl [1, 3, 5] rfl) h
set_option maxHeartbeats 4000000 in
set_option maxRecDepth 100000 in
theorem kX0_goByCells (l : Launch) (D : va_G) (T : Nat → ClassId) (a_g a_gw a_gk a_f : Nat) (f_net : Int32) (v_gw : Nat → Int32) (v_gk : Nat → Int32) (p0 : Int32) (p1 : Int32) (p2 : Int32) (sz : Nat) (r : Int32 × Int32) (h : fX0_goByCells f_net v_gw v_gk p0 p1 p2 = some r) : WrI l yX0_goByCells cX0_goByCells 8 .int ({ frames := 2, cells := 0, slots := 0, locals := 45 } : Room) D T sz [(a_g, .inr (1, [.ref a_gw, .ref a_gk])), (a_f, .inr (0, [.ref a_g, .int f_net])), (a_gw, .inl (T 0, 90, .inl v_gw)), (a_gk, .inl (T 0, 18, .inl v_gk))] [(a_g, .inr (1, [.ref a_gw, .ref a_gk])), (a_f, .inr (0, [.ref a_g, .int r.2])), (a_gw, .inl (T 0, 90, .inl v_gw)), (a_gk, .inl (T 0, 18, .inl v_gk))] [.ref a_f, .int p0, .int p1, .int p2] r.1 := by
  unfold fX0_goByCells at h
  refine wrMet (by decide +kernel) rfl (fun p e s m args below meth c Q A C hE hA hP hD hS hret ls hl => ?_)
  have hx := C.1
  have hb := C.2.1
  have hl : lv_has ls 8 [(0, .ref a_f), (1, .int p0), (2, .int p1), (3, .int p2)] := hl
  refine lv_aload_n hx hb dX0_goByCells_0 rfl (lv_at hl 0 rfl) ?_
  refine lv_iconst (v := 0) hx hb dX0_goByCells_1 (by decide) ?_
  refine putF (q0 := 1) (k0 := 1) (ws1 := [(a_g, .inr (1, [.ref a_gw, .ref a_gk])), (a_f, .inr (0, [.ref a_g, .int 0])), (a_gw, .inl (T 0, 90, .inl v_gw)), (a_gk, .inl (T 0, 18, .inl v_gk))]) C hE hP hD hS inA0 tyX0_ok nmX0 rfl rfl (by decide) qFX0_9 rfl rfl rfl rfl (Nat.le_of_ble_eq_true rfl) rfl dX0_goByCells_2 ?_; clear hP hD hS; intro H locs hP hD hS
  refine lv_aload_n hx hb dX0_goByCells_5 rfl (lv_at hl 0 rfl) ?_
  refine getF (q0 := 1) (k0 := 0) (v := .ref a_g) C hE hP inA0 rfl rfl (by decide) qFX0_15 rfl rfl dX0_goByCells_6 ?_
  refine lv_iconst (v := 5) hx hb dX0_goByCells_9 (by decide) ?_
  replace h := bnd h; obtain ⟨q1, e2, h⟩ := h
  refine rdV C hE hP (kX1_count l D T a_g a_gw a_gk v_gk 5 q1 e2) mX1_count qLX0_29 [0, 3] 0 rfl rfl rfl rfl ⟨rfl, rfl⟩ ⟨Nat.le_of_ble_eq_true rfl, Nat.le_of_ble_eq_true rfl⟩ rfl hl.1 rfl (Nat.le_of_ble_eq_true rfl) dX0_goByCells_10 ⟨Nat.le_of_ble_eq_true rfl, Nat.le_of_ble_eq_true rfl⟩ ?_
  refine lv_istore (lv' := [(4, .int q1), (0, .ref a_f), (1, .int p0), (2, .int p1), (3, .int p2)]) hx hb dX0_goByCells_13 hl (by decide) rfl (fun ls hl => ?_)
  refine lv_iconst (v := 0) hx hb dX0_goByCells_15 (by decide) ?_
  refine lv_istore (lv' := [(5, .int 0), (4, .int q1), (0, .ref a_f), (1, .int p0), (2, .int p1), (3, .int p2)]) hx hb dX0_goByCells_16 hl (by decide) rfl (fun ls hl => ?_)
  exact lX0_goByCells_18 C hE hA hret 64 p0 p1 p2 q1 0 0 ⟨hP, hD⟩ hS _ (lv_sub hl [2, 3, 4, 5, 1, 0] rfl) h

def fX7_between (p0 : Int32) (p1 : Int32) : Int32 :=
  ((if 0 ≤ ((p0 / 9) - (p1 / 9)) then ((p0 / 9) - (p1 / 9)) else 0 - ((p0 / 9) - (p1 / 9))) + (if 0 ≤ ((p0 - p0 / 9 * 9) - (p1 - p1 / 9 * 9)) then ((p0 - p0 / 9 * 9) - (p1 - p1 / 9 * 9)) else 0 - ((p0 - p0 / 9 * 9) - (p1 - p1 / 9 * 9))))
set_option maxHeartbeats 4000000 in
set_option maxRecDepth 100000 in
theorem kX7_between (l : Launch) (D : va_G) (T : Nat → ClassId) (p0 : Int32) (p1 : Int32) : RdI l yX7_between cX7_between 4 .int ({ frames := 1, cells := 0, slots := 0, locals := 21 } : Room) D T [] [.int p0, .int p1] (fX7_between p0 p1) := by
  obtain ⟨r, h⟩ : ∃ r, fX7_between p0 p1 = r := ⟨_, rfl⟩
  rw [h]
  unfold fX7_between at h
  refine rdMet (by decide +kernel) rfl (fun p e s m args below meth c Q C hE hP hret ls hl => ?_)
  have hx := C.1
  have hb := C.2.1
  have hl : lv_has ls 4 [(0, .int p0), (1, .int p1)] := hl
  refine lv_iload_n hx hb dX7_between_0 rfl (lv_at hl 0 rfl) ?_
  refine lv_bipush (v := 9) hx hb dX7_between_1 (by decide) ?_
  refine lv_idiv hx hb dX7_between_3 (by decide) ?_
  refine lv_iload_n hx hb dX7_between_4 rfl (lv_at hl 1 rfl) ?_
  refine lv_bipush (v := 9) hx hb dX7_between_5 (by decide) ?_
  refine lv_idiv hx hb dX7_between_7 (by decide) ?_
  refine lv_isub hx hb dX7_between_8 ?_
  refine va_mabs hx hb (C.2.2.1.trans hl.1.symm) C.2.2.2.1 (C.2.2.2.2 _ qLX7_452) (C.2.2.2.2 _ qMs_abs) (C.2.2.2.2 _ qMi) (C.2.2.2.2 _ qMc_abs) (Nat.le_of_ble_eq_true rfl) (Nat.le_of_ble_eq_true rfl) (Nat.le_of_ble_eq_true rfl) (Nat.le_of_ble_eq_true rfl) dX7_between_9 ?_
  refine lv_istore_n (lv' := [(2, .int (if 0 ≤ ((p0 / 9) - (p1 / 9)) then ((p0 / 9) - (p1 / 9)) else 0 - ((p0 / 9) - (p1 / 9)))), (0, .int p0), (1, .int p1)]) hx hb dX7_between_12 rfl hl (by decide) rfl (fun ls hl => ?_)
  refine lv_iload_n hx hb dX7_between_13 rfl (lv_at hl 1 rfl) ?_
  refine lv_bipush (v := 9) hx hb dX7_between_14 (by decide) ?_
  refine lv_irem hx hb dX7_between_16 (by decide) ?_
  refine lv_iload_n hx hb dX7_between_17 rfl (lv_at hl 2 rfl) ?_
  refine lv_bipush (v := 9) hx hb dX7_between_18 (by decide) ?_
  refine lv_irem hx hb dX7_between_20 (by decide) ?_
  refine lv_isub hx hb dX7_between_21 ?_
  refine va_mabs hx hb (C.2.2.1.trans hl.1.symm) C.2.2.2.1 (C.2.2.2.2 _ qLX7_452) (C.2.2.2.2 _ qMs_abs) (C.2.2.2.2 _ qMi) (C.2.2.2.2 _ qMc_abs) (Nat.le_of_ble_eq_true rfl) (Nat.le_of_ble_eq_true rfl) (Nat.le_of_ble_eq_true rfl) (Nat.le_of_ble_eq_true rfl) dX7_between_22 ?_
  refine lv_istore_n (lv' := [(3, .int (if 0 ≤ ((p0 - p0 / 9 * 9) - (p1 - p1 / 9 * 9)) then ((p0 - p0 / 9 * 9) - (p1 - p1 / 9 * 9)) else 0 - ((p0 - p0 / 9 * 9) - (p1 - p1 / 9 * 9)))), (2, .int (if 0 ≤ ((p0 / 9) - (p1 / 9)) then ((p0 / 9) - (p1 / 9)) else 0 - ((p0 / 9) - (p1 / 9)))), (0, .int p0), (1, .int p1)]) hx hb dX7_between_25 rfl hl (by decide) rfl (fun ls hl => ?_)
  refine lv_iload_n hx hb dX7_between_26 rfl (lv_at hl 1 rfl) ?_
  refine lv_iload_n hx hb dX7_between_27 rfl (lv_at hl 0 rfl) ?_
  refine lv_iadd hx hb dX7_between_28 ?_
  exact hret _ _ _ _ dX7_between_29 rfl h

def fX1_isNearBuoy (v_gw : Nat → Int32) (v_gk : Nat → Int32) (p0 : Int32) : Option Int32 :=
  (fX1_of v_gw p0 4).bind fun q1 =>
  if q1 = (-1) then
    some 0
  else
    (fX1_count v_gk 5).bind fun q4 =>
    if 1 < (fX7_between q1 q4) then
      some 0
    else
      some 1
set_option maxHeartbeats 4000000 in
set_option maxRecDepth 100000 in
theorem kX1_isNearBuoy (l : Launch) (D : va_G) (T : Nat → ClassId) (a_g a_gw a_gk : Nat) (v_gw : Nat → Int32) (v_gk : Nat → Int32) (p0 : Int32) (r : Int32) (h : fX1_isNearBuoy v_gw v_gk p0 = some r) : RdI l yX1_isNearBuoy cX1_isNearBuoy 3 .boolean ({ frames := 2, cells := 0, slots := 0, locals := 44 } : Room) D T [(a_g, .inr (1, [.ref a_gw, .ref a_gk])), (a_gw, .inl (T 0, 90, .inl v_gw)), (a_gk, .inl (T 0, 18, .inl v_gk))] [.ref a_g, .int p0] r := by
  unfold fX1_isNearBuoy at h
  refine rdMet (by decide +kernel) rfl (fun p e s m args below meth c Q C hE hP hret ls hl => ?_)
  have hx := C.1
  have hb := C.2.1
  have hl : lv_has ls 3 [(0, .ref a_g), (1, .int p0)] := hl
  refine lv_aload_n hx hb dX1_isNearBuoy_0 rfl (lv_at hl 0 rfl) ?_
  refine lv_iload_n hx hb dX1_isNearBuoy_1 rfl (lv_at hl 1 rfl) ?_
  refine lv_iconst (v := 4) hx hb dX1_isNearBuoy_2 (by decide) ?_
  replace h := bnd h; obtain ⟨q1, e2, h⟩ := h
  refine rdV C hE hP (kX1_of l D T a_g a_gw a_gk v_gw p0 4 q1 e2) mX1_of qLX1_32 [0, 1] 0 rfl rfl rfl rfl ⟨rfl, rfl⟩ ⟨Nat.le_of_ble_eq_true rfl, Nat.le_of_ble_eq_true rfl⟩ rfl hl.1 rfl (Nat.le_of_ble_eq_true rfl) dX1_isNearBuoy_3 ⟨Nat.le_of_ble_eq_true rfl, Nat.le_of_ble_eq_true rfl⟩ ?_
  refine lv_istore_n (lv' := [(2, .int q1), (0, .ref a_g), (1, .int p0)]) hx hb dX1_isNearBuoy_6 rfl hl (by decide) rfl (fun ls hl => ?_)
  refine lv_iload_n hx hb dX1_isNearBuoy_7 rfl (lv_at hl 0 rfl) ?_
  refine lv_iconst (v := (-1)) hx hb dX1_isNearBuoy_8 (by decide) ?_
  refine lv_icmp_eq (tgt := 29) hx hb dX1_isNearBuoy_9 (by decide) (fun c3 => ?_) (fun c3 => ?_)
  · replace h := ite_t c3 h
    refine lv_iconst (v := 0) hx hb dX1_isNearBuoy_29 (by decide) ?_
    exact hret _ _ _ _ dX1_isNearBuoy_30 rfl (Option.some.inj h)
  · replace h := ite_f c3 h
    refine lv_iload_n hx hb dX1_isNearBuoy_12 rfl (lv_at hl 0 rfl) ?_
    refine lv_aload_n hx hb dX1_isNearBuoy_13 rfl (lv_at hl 1 rfl) ?_
    refine lv_iconst (v := 5) hx hb dX1_isNearBuoy_14 (by decide) ?_
    replace h := bnd h; obtain ⟨q4, e5, h⟩ := h
    refine rdV C hE hP (kX1_count l D T a_g a_gw a_gk v_gk 5 q4 e5) mX1_count qLX1_28 [0, 2] 0 rfl rfl rfl rfl ⟨rfl, rfl⟩ ⟨Nat.le_of_ble_eq_true rfl, Nat.le_of_ble_eq_true rfl⟩ rfl hl.1 rfl (Nat.le_of_ble_eq_true rfl) dX1_isNearBuoy_15 ⟨Nat.le_of_ble_eq_true rfl, Nat.le_of_ble_eq_true rfl⟩ ?_
    refine rdSN C hE hP (kX7_between l D T q1 q4) mX7_between (by decide +kernel) [] rfl ⟨rfl, rfl⟩ ⟨Nat.le_of_ble_eq_true rfl, Nat.le_of_ble_eq_true rfl⟩ rfl hl.1 rfl (Nat.le_of_ble_eq_true rfl) dX1_isNearBuoy_18 ⟨Nat.le_of_ble_eq_true rfl, Nat.le_of_ble_eq_true rfl⟩ ?_
    refine lv_iconst (v := 1) hx hb dX1_isNearBuoy_21 (by decide) ?_
    refine lv_icmp_gt (tgt := 29) hx hb dX1_isNearBuoy_22 (by decide) (fun c6 => ?_) (fun c6 => ?_)
    · replace h := ite_t c6 h
      refine lv_iconst (v := 0) hx hb dX1_isNearBuoy_29 (by decide) ?_
      exact hret _ _ _ _ dX1_isNearBuoy_30 rfl (Option.some.inj h)
    · replace h := ite_f c6 h
      refine lv_iconst (v := 1) hx hb dX1_isNearBuoy_25 (by decide) ?_
      refine lv_goto (tgt := 30) hx hb dX1_isNearBuoy_26 (by decide) ?_
      exact hret _ _ _ _ dX1_isNearBuoy_30 rfl (Option.some.inj h)

def fX1_isFoulBy_65 (v_gw : Nat → Int32) (v_gk : Nat → Int32) (rec26 : Int32 → Int32 → Option Int32) (l2 : Int32) (l3 : Int32) : Option Int32 :=
  rec26 l2 (l3 + 1)
def fX1_isFoulBy_26 (v_gw : Nat → Int32) (v_gk : Nat → Int32) : Nat → Int32 → Int32 → Option Int32
  | 0, _, _ => none
  | k + 1, l2, l3 =>
    (fX1_count v_gk 0).bind fun q7 =>
    if q7 ≤ l3 then
      some 0
    else
      (fX1_of v_gw l3 0).bind fun q10 =>
      if q10 = l2 then
        (fX1_of v_gw l3 5).bind fun q13 =>
        if q13 = 1 then
          (fX1_isNearBuoy v_gw v_gk l3).bind fun q16 =>
          if q16 = 0 then
            fX1_isFoulBy_65 v_gw v_gk (fX1_isFoulBy_26 v_gw v_gk k) l2 l3
          else
            some 1
        else
          fX1_isFoulBy_65 v_gw v_gk (fX1_isFoulBy_26 v_gw v_gk k) l2 l3
      else
        fX1_isFoulBy_65 v_gw v_gk (fX1_isFoulBy_26 v_gw v_gk k) l2 l3
def fX1_isFoulBy (v_gw : Nat → Int32) (v_gk : Nat → Int32) (p0 : Int32) : Option Int32 :=
  (fX1_count v_gk 6).bind fun q1 =>
  if q1 = (-1) then
    some 0
  else
    (fX1_of v_gw p0 0).bind fun q4 =>
    if q1 = q4 then
      some 0
    else
      fX1_isFoulBy_26 v_gw v_gk 64 q1 0
set_option maxHeartbeats 4000000 in
set_option maxRecDepth 100000 in
theorem lX1_isFoulBy_65 {p : Program} {l : Launch} {e : Env} {s : State} {m : MethodId} {args : Array Value} {below : List Frame} {meth : Method} {c : Code} {Q : State → Prop} {D : va_G} {T : Nat → ClassId} {a_g a_gw a_gk : Nat} {v_gw : Nat → Int32} {v_gk : Nat → Int32} {r : Int32} (C : CallFix p m c cX1_isFoulBy 4 s args aw RX1) (hE : eK D T s) (hP : va_P D kC [(a_g, .inr (1, [.ref a_gw, .ref a_gk])), (a_gw, .inl (T 0, 90, .inl v_gw)), (a_gk, .inl (T 0, 18, .inl v_gk))] s.heap) (hret : RdRet p l e ({ frames := 3, cells := 0, slots := 0, locals := 66 } : Room) s m args below meth c Q cX1_isFoulBy .boolean r) {rec26 : Int32 → Int32 → Option Int32} (hrec26 : ∀ (l2 : Int32) (l3 : Int32) (ls : Array Slot) (hl : lv_has ls 4 [(0, .ref a_g), (2, .int l2), (3, .int l3)]) (h : rec26 l2 l3 = some r), W p l e ({ frames := 3, cells := 0, slots := 0, locals := 66 } : Room) s m args below meth c s.heap [] 0 0 Q (F0 m 26 ls [])) (l2 : Int32) (l3 : Int32) (ls : Array Slot) (hl : lv_has ls 4 [(0, .ref a_g), (2, .int l2), (3, .int l3)]) (h : fX1_isFoulBy_65 v_gw v_gk rec26 l2 l3 = some r) : W p l e ({ frames := 3, cells := 0, slots := 0, locals := 66 } : Room) s m args below meth c s.heap [] 0 0 Q (F0 m 65 ls []) := by
  have hx := C.1
  have hb := C.2.1
  unfold fX1_isFoulBy_65 at h
  refine lv_iinc (v := (l3 + 1)) (lv' := [(3, .int (l3 + 1)), (0, .ref a_g), (2, .int l2)]) hx hb dX1_isFoulBy_65 hl (k := 2) rfl rfl (by decide) rfl (fun ls hl => ?_)
  refine lv_goto (tgt := 26) hx hb dX1_isFoulBy_68 (by decide) ?_
  exact hrec26 l2 (l3 + 1) _ (lv_sub hl [1, 2, 0] rfl) h
set_option maxHeartbeats 4000000 in
set_option maxRecDepth 100000 in
theorem lX1_isFoulBy_26 {p : Program} {l : Launch} {e : Env} {s : State} {m : MethodId} {args : Array Value} {below : List Frame} {meth : Method} {c : Code} {Q : State → Prop} {D : va_G} {T : Nat → ClassId} {a_g a_gw a_gk : Nat} {v_gw : Nat → Int32} {v_gk : Nat → Int32} {r : Int32} (C : CallFix p m c cX1_isFoulBy 4 s args aw RX1) (hE : eK D T s) (hP : va_P D kC [(a_g, .inr (1, [.ref a_gw, .ref a_gk])), (a_gw, .inl (T 0, 90, .inl v_gw)), (a_gk, .inl (T 0, 18, .inl v_gk))] s.heap) (hret : RdRet p l e ({ frames := 3, cells := 0, slots := 0, locals := 66 } : Room) s m args below meth c Q cX1_isFoulBy .boolean r) : ∀ (k : Nat) (l2 : Int32) (l3 : Int32) (ls : Array Slot) (hl : lv_has ls 4 [(0, .ref a_g), (2, .int l2), (3, .int l3)]) (h : fX1_isFoulBy_26 v_gw v_gk k l2 l3 = some r), W p l e ({ frames := 3, cells := 0, slots := 0, locals := 66 } : Room) s m args below meth c s.heap [] 0 0 Q (F0 m 26 ls []) := by
  have hx := C.1
  have hb := C.2.1
  intro k
  induction k with
  | zero =>
    intro l2 l3  ls hl h
    exact nomatch (show (none : Option Int32) = some r from h)
  | succ k ih =>
    intro l2 l3  ls hl h
    rw [fX1_isFoulBy_26] at h
    refine lv_iload_n hx hb dX1_isFoulBy_26 rfl (lv_at hl 2 rfl) ?_
    refine lv_aload_n hx hb dX1_isFoulBy_27 rfl (lv_at hl 0 rfl) ?_
    refine lv_iconst (v := 0) hx hb dX1_isFoulBy_28 (by decide) ?_
    replace h := bnd h; obtain ⟨q7, e8, h⟩ := h
    refine rdV C hE hP (kX1_count l D T a_g a_gw a_gk v_gk 0 q7 e8) mX1_count qLX1_28 [0, 2] 0 rfl rfl rfl rfl ⟨rfl, rfl⟩ ⟨Nat.le_of_ble_eq_true rfl, Nat.le_of_ble_eq_true rfl⟩ rfl hl.1 rfl (Nat.le_of_ble_eq_true rfl) dX1_isFoulBy_29 ⟨Nat.le_of_ble_eq_true rfl, Nat.le_of_ble_eq_true rfl⟩ ?_
    refine lv_icmp_ge (tgt := 71) hx hb dX1_isFoulBy_32 (by decide) (fun c9 => ?_) (fun c9 => ?_)
    · replace h := ite_t c9 h
      refine lv_iconst (v := 0) hx hb dX1_isFoulBy_71 (by decide) ?_
      exact hret _ _ _ _ dX1_isFoulBy_72 rfl (Option.some.inj h)
    · replace h := ite_f c9 h
      refine lv_aload_n hx hb dX1_isFoulBy_35 rfl (lv_at hl 0 rfl) ?_
      refine lv_iload_n hx hb dX1_isFoulBy_36 rfl (lv_at hl 2 rfl) ?_
      refine lv_iconst (v := 0) hx hb dX1_isFoulBy_37 (by decide) ?_
      replace h := bnd h; obtain ⟨q10, e11, h⟩ := h
      refine rdV C hE hP (kX1_of l D T a_g a_gw a_gk v_gw l3 0 q10 e11) mX1_of qLX1_32 [0, 1] 0 rfl rfl rfl rfl ⟨rfl, rfl⟩ ⟨Nat.le_of_ble_eq_true rfl, Nat.le_of_ble_eq_true rfl⟩ rfl hl.1 rfl (Nat.le_of_ble_eq_true rfl) dX1_isFoulBy_38 ⟨Nat.le_of_ble_eq_true rfl, Nat.le_of_ble_eq_true rfl⟩ ?_
      refine lv_iload_n hx hb dX1_isFoulBy_41 rfl (lv_at hl 1 rfl) ?_
      refine lv_icmp_ne (tgt := 65) hx hb dX1_isFoulBy_42 (by decide) (fun c12 => ?_) (fun c12 => ?_)
      · replace h := ite_f c12 h
        exact lX1_isFoulBy_65 C hE hP hret ih l2 l3 _ (lv_sub hl [0, 1, 2] rfl) h
      · replace h := ite_t c12 h
        refine lv_aload_n hx hb dX1_isFoulBy_45 rfl (lv_at hl 0 rfl) ?_
        refine lv_iload_n hx hb dX1_isFoulBy_46 rfl (lv_at hl 2 rfl) ?_
        refine lv_iconst (v := 5) hx hb dX1_isFoulBy_47 (by decide) ?_
        replace h := bnd h; obtain ⟨q13, e14, h⟩ := h
        refine rdV C hE hP (kX1_of l D T a_g a_gw a_gk v_gw l3 5 q13 e14) mX1_of qLX1_32 [0, 1] 0 rfl rfl rfl rfl ⟨rfl, rfl⟩ ⟨Nat.le_of_ble_eq_true rfl, Nat.le_of_ble_eq_true rfl⟩ rfl hl.1 rfl (Nat.le_of_ble_eq_true rfl) dX1_isFoulBy_48 ⟨Nat.le_of_ble_eq_true rfl, Nat.le_of_ble_eq_true rfl⟩ ?_
        refine lv_iconst (v := 1) hx hb dX1_isFoulBy_51 (by decide) ?_
        refine lv_icmp_ne (tgt := 65) hx hb dX1_isFoulBy_52 (by decide) (fun c15 => ?_) (fun c15 => ?_)
        · replace h := ite_f c15 h
          exact lX1_isFoulBy_65 C hE hP hret ih l2 l3 _ (lv_sub hl [0, 1, 2] rfl) h
        · replace h := ite_t c15 h
          refine lv_aload_n hx hb dX1_isFoulBy_55 rfl (lv_at hl 0 rfl) ?_
          refine lv_iload_n hx hb dX1_isFoulBy_56 rfl (lv_at hl 2 rfl) ?_
          replace h := bnd h; obtain ⟨q16, e17, h⟩ := h
          refine rdV C hE hP (kX1_isNearBuoy l D T a_g a_gw a_gk v_gw v_gk l3 q16 e17) mX1_isNearBuoy qLX1_59 [0, 1, 2] 0 rfl rfl rfl rfl ⟨rfl, rfl⟩ ⟨Nat.le_of_ble_eq_true rfl, Nat.le_of_ble_eq_true rfl⟩ rfl hl.1 rfl (Nat.le_of_ble_eq_true rfl) dX1_isFoulBy_57 ⟨Nat.le_of_ble_eq_true rfl, Nat.le_of_ble_eq_true rfl⟩ ?_
          refine lv_if_eq (tgt := 65) hx hb dX1_isFoulBy_60 (by decide) (fun c18 => ?_) (fun c18 => ?_)
          · replace h := ite_t c18 h
            exact lX1_isFoulBy_65 C hE hP hret ih l2 l3 _ (lv_sub hl [0, 1, 2] rfl) h
          · replace h := ite_f c18 h
            refine lv_iconst (v := 1) hx hb dX1_isFoulBy_63 (by decide) ?_
            exact hret _ _ _ _ dX1_isFoulBy_64 rfl (Option.some.inj h)
set_option maxHeartbeats 4000000 in
set_option maxRecDepth 100000 in
theorem kX1_isFoulBy (l : Launch) (D : va_G) (T : Nat → ClassId) (a_g a_gw a_gk : Nat) (v_gw : Nat → Int32) (v_gk : Nat → Int32) (p0 : Int32) (r : Int32) (h : fX1_isFoulBy v_gw v_gk p0 = some r) : RdI l yX1_isFoulBy cX1_isFoulBy 4 .boolean ({ frames := 3, cells := 0, slots := 0, locals := 66 } : Room) D T [(a_g, .inr (1, [.ref a_gw, .ref a_gk])), (a_gw, .inl (T 0, 90, .inl v_gw)), (a_gk, .inl (T 0, 18, .inl v_gk))] [.ref a_g, .int p0] r := by
  unfold fX1_isFoulBy at h
  refine rdMet (by decide +kernel) rfl (fun p e s m args below meth c Q C hE hP hret ls hl => ?_)
  have hx := C.1
  have hb := C.2.1
  have hl : lv_has ls 4 [(0, .ref a_g), (1, .int p0)] := hl
  refine lv_aload_n hx hb dX1_isFoulBy_0 rfl (lv_at hl 0 rfl) ?_
  refine lv_bipush (v := 6) hx hb dX1_isFoulBy_1 (by decide) ?_
  replace h := bnd h; obtain ⟨q1, e2, h⟩ := h
  refine rdV C hE hP (kX1_count l D T a_g a_gw a_gk v_gk 6 q1 e2) mX1_count qLX1_28 [0, 2] 0 rfl rfl rfl rfl ⟨rfl, rfl⟩ ⟨Nat.le_of_ble_eq_true rfl, Nat.le_of_ble_eq_true rfl⟩ rfl hl.1 rfl (Nat.le_of_ble_eq_true rfl) dX1_isFoulBy_3 ⟨Nat.le_of_ble_eq_true rfl, Nat.le_of_ble_eq_true rfl⟩ ?_
  refine lv_istore_n (lv' := [(2, .int q1), (0, .ref a_g), (1, .int p0)]) hx hb dX1_isFoulBy_6 rfl hl (by decide) rfl (fun ls hl => ?_)
  refine lv_iload_n hx hb dX1_isFoulBy_7 rfl (lv_at hl 0 rfl) ?_
  refine lv_iconst (v := (-1)) hx hb dX1_isFoulBy_8 (by decide) ?_
  refine lv_icmp_eq (tgt := 22) hx hb dX1_isFoulBy_9 (by decide) (fun c3 => ?_) (fun c3 => ?_)
  · replace h := ite_t c3 h
    refine lv_iconst (v := 0) hx hb dX1_isFoulBy_22 (by decide) ?_
    exact hret _ _ _ _ dX1_isFoulBy_23 rfl (Option.some.inj h)
  · replace h := ite_f c3 h
    refine lv_iload_n hx hb dX1_isFoulBy_12 rfl (lv_at hl 0 rfl) ?_
    refine lv_aload_n hx hb dX1_isFoulBy_13 rfl (lv_at hl 1 rfl) ?_
    refine lv_iload_n hx hb dX1_isFoulBy_14 rfl (lv_at hl 2 rfl) ?_
    refine lv_iconst (v := 0) hx hb dX1_isFoulBy_15 (by decide) ?_
    replace h := bnd h; obtain ⟨q4, e5, h⟩ := h
    refine rdV C hE hP (kX1_of l D T a_g a_gw a_gk v_gw p0 0 q4 e5) mX1_of qLX1_32 [0, 1] 0 rfl rfl rfl rfl ⟨rfl, rfl⟩ ⟨Nat.le_of_ble_eq_true rfl, Nat.le_of_ble_eq_true rfl⟩ rfl hl.1 rfl (Nat.le_of_ble_eq_true rfl) dX1_isFoulBy_16 ⟨Nat.le_of_ble_eq_true rfl, Nat.le_of_ble_eq_true rfl⟩ ?_
    refine lv_icmp_ne (tgt := 24) hx hb dX1_isFoulBy_19 (by decide) (fun c6 => ?_) (fun c6 => ?_)
    · replace h := ite_f c6 h
      refine lv_iconst (v := 0) hx hb dX1_isFoulBy_24 (by decide) ?_
      refine lv_istore_n (lv' := [(3, .int 0), (2, .int q1), (0, .ref a_g), (1, .int p0)]) hx hb dX1_isFoulBy_25 rfl hl (by decide) rfl (fun ls hl => ?_)
      exact lX1_isFoulBy_26 C hE hP hret 64 q1 0 _ (lv_sub hl [2, 1, 0] rfl) h
    · replace h := ite_t c6 h
      refine lv_iconst (v := 0) hx hb dX1_isFoulBy_22 (by decide) ?_
      exact hret _ _ _ _ dX1_isFoulBy_23 rfl (Option.some.inj h)

def fX0_endByCells (f_net : Int32) (v_gw : Nat → Int32) (v_gk : Nat → Int32) (p0 : Int32) (p1 : Int32) (p2 : Int32) : Option (Int32 × Int32) :=
  (fX0_goByCells f_net v_gw v_gk p0 p1 p2).bind fun q1 =>
  if q1.1 < 45 then
    some (q1.1, q1.2)
  else
    (fX1_isFoulBy v_gw v_gk p0).bind fun q4 =>
    if q4 = 0 then
      some (q1.1, q1.2)
    else
      some (22, q1.2)
set_option maxHeartbeats 4000000 in
set_option maxRecDepth 100000 in
theorem kX0_endByCells (l : Launch) (D : va_G) (T : Nat → ClassId) (a_g a_gw a_gk a_f : Nat) (f_net : Int32) (v_gw : Nat → Int32) (v_gk : Nat → Int32) (p0 : Int32) (p1 : Int32) (p2 : Int32) (sz : Nat) (r : Int32 × Int32) (h : fX0_endByCells f_net v_gw v_gk p0 p1 p2 = some r) : WrI l yX0_endByCells cX0_endByCells 5 .int ({ frames := 4, cells := 0, slots := 0, locals := 89 } : Room) D T sz [(a_g, .inr (1, [.ref a_gw, .ref a_gk])), (a_f, .inr (0, [.ref a_g, .int f_net])), (a_gw, .inl (T 0, 90, .inl v_gw)), (a_gk, .inl (T 0, 18, .inl v_gk))] [(a_g, .inr (1, [.ref a_gw, .ref a_gk])), (a_f, .inr (0, [.ref a_g, .int r.2])), (a_gw, .inl (T 0, 90, .inl v_gw)), (a_gk, .inl (T 0, 18, .inl v_gk))] [.ref a_f, .int p0, .int p1, .int p2] r.1 := by
  unfold fX0_endByCells at h
  refine wrMet (by decide +kernel) rfl (fun p e s m args below meth c Q A C hE hA hP hD hS hret ls hl => ?_)
  have hx := C.1
  have hb := C.2.1
  have hl : lv_has ls 5 [(0, .ref a_f), (1, .int p0), (2, .int p1), (3, .int p2)] := hl
  refine lv_aload_n hx hb dX0_endByCells_0 rfl (lv_at hl 0 rfl) ?_
  refine lv_iload_n hx hb dX0_endByCells_1 rfl (lv_at hl 1 rfl) ?_
  refine lv_iload_n hx hb dX0_endByCells_2 rfl (lv_at hl 2 rfl) ?_
  refine lv_iload_n hx hb dX0_endByCells_3 rfl (lv_at hl 3 rfl) ?_
  replace h := bnd h; obtain ⟨q1, e2, h⟩ := h
  refine wrVi (ws1 := [(a_g, .inr (1, [.ref a_gw, .ref a_gk])), (a_f, .inr (0, [.ref a_g, .int q1.2])), (a_gw, .inl (T 0, 90, .inl v_gw)), (a_gk, .inl (T 0, 18, .inl v_gk))]) C hE hP hD hS hA (kX0_goByCells l D T a_g a_gw a_gk a_f f_net v_gw v_gk p0 p1 p2 _ q1 e2) mX0_goByCells qLX0_19 [0, 1, 2, 3] [] 1 rfl rfl rfl rfl rfl rfl rfl rfl rfl ⟨rfl, rfl⟩ ⟨Nat.le_of_ble_eq_true rfl, Nat.le_of_ble_eq_true rfl⟩ rfl hl.1 rfl (Nat.le_of_ble_eq_true rfl) dX0_endByCells_4 ⟨Nat.le_of_ble_eq_true rfl, Nat.le_of_ble_eq_true rfl⟩ ?_; clear hP hD hS; intro H locs hP hD hS
  refine lv_istore (lv' := [(4, .int q1.1), (0, .ref a_f), (1, .int p0), (2, .int p1), (3, .int p2)]) hx hb dX0_endByCells_7 hl (by decide) rfl (fun ls hl => ?_)
  refine lv_iload hx hb dX0_endByCells_9 (lv_at hl 0 rfl) ?_
  refine lv_bipush (v := 45) hx hb dX0_endByCells_11 (by decide) ?_
  refine lv_icmp_lt (tgt := 32) hx hb dX0_endByCells_13 (by decide) (fun c3 => ?_) (fun c3 => ?_)
  · replace h := ite_t c3 h
    refine lv_iload hx hb dX0_endByCells_32 (lv_at hl 0 rfl) ?_
    replace h := Option.some.inj h
    exact hret _ _ _ _ _ _ dX0_endByCells_34 rfl (by rw [← h] <;> rfl) (by rw [← h]; exact hP) hS
  · replace h := ite_f c3 h
    refine lv_aload_n hx hb dX0_endByCells_16 rfl (lv_at hl 1 rfl) ?_
    refine getF (q0 := 1) (k0 := 0) (v := .ref a_g) C hE hP inA0 rfl rfl (by decide) qFX0_15 rfl rfl dX0_endByCells_17 ?_
    refine lv_iload_n hx hb dX0_endByCells_20 rfl (lv_at hl 2 rfl) ?_
    replace h := bnd h; obtain ⟨q4, e5, h⟩ := h
    refine rdV C hE hP (kX1_isFoulBy l D T a_g a_gw a_gk v_gw v_gk p0 q4 e5) mX1_isFoulBy qLX0_23 [0, 2, 3] 0 rfl rfl rfl rfl ⟨rfl, rfl⟩ ⟨Nat.le_of_ble_eq_true rfl, Nat.le_of_ble_eq_true rfl⟩ rfl hl.1 rfl (Nat.le_of_ble_eq_true rfl) dX0_endByCells_21 ⟨Nat.le_of_ble_eq_true rfl, Nat.le_of_ble_eq_true rfl⟩ ?_
    refine lv_if_eq (tgt := 32) hx hb dX0_endByCells_24 (by decide) (fun c6 => ?_) (fun c6 => ?_)
    · replace h := ite_t c6 h
      refine lv_iload hx hb dX0_endByCells_32 (lv_at hl 0 rfl) ?_
      replace h := Option.some.inj h
      exact hret _ _ _ _ _ _ dX0_endByCells_34 rfl (by rw [← h] <;> rfl) (by rw [← h]; exact hP) hS
    · replace h := ite_f c6 h
      refine lv_bipush (v := 22) hx hb dX0_endByCells_27 (by decide) ?_
      refine lv_goto (tgt := 34) hx hb dX0_endByCells_29 (by decide) ?_
      replace h := Option.some.inj h
      exact hret _ _ _ _ _ _ dX0_endByCells_34 rfl (by rw [← h] <;> rfl) (by rw [← h]; exact hP) hS

def fX1_isPlaying (v_gw : Nat → Int32) (p0 : Int32) : Option Int32 :=
  (fX1_of v_gw p0 4).bind fun q1 =>
  if q1 = (-1) then
    some 0
  else
    some 1
set_option maxHeartbeats 4000000 in
set_option maxRecDepth 100000 in
theorem kX1_isPlaying (l : Launch) (D : va_G) (T : Nat → ClassId) (a_g a_gw a_gk : Nat) (v_gw : Nat → Int32) (p0 : Int32) (r : Int32) (h : fX1_isPlaying v_gw p0 = some r) : RdI l yX1_isPlaying cX1_isPlaying 2 .boolean ({ frames := 1, cells := 0, slots := 0, locals := 23 } : Room) D T [(a_g, .inr (1, [.ref a_gw, .ref a_gk])), (a_gw, .inl (T 0, 90, .inl v_gw))] [.ref a_g, .int p0] r := by
  unfold fX1_isPlaying at h
  refine rdMet (by decide +kernel) rfl (fun p e s m args below meth c Q C hE hP hret ls hl => ?_)
  have hx := C.1
  have hb := C.2.1
  have hl : lv_has ls 2 [(0, .ref a_g), (1, .int p0)] := hl
  refine lv_aload_n hx hb dX1_isPlaying_0 rfl (lv_at hl 0 rfl) ?_
  refine lv_iload_n hx hb dX1_isPlaying_1 rfl (lv_at hl 1 rfl) ?_
  refine lv_iconst (v := 4) hx hb dX1_isPlaying_2 (by decide) ?_
  replace h := bnd h; obtain ⟨q1, e2, h⟩ := h
  refine rdV C hE hP (kX1_of l D T a_g a_gw a_gk v_gw p0 4 q1 e2) mX1_of qLX1_32 [0, 1] 0 rfl rfl rfl rfl ⟨rfl, rfl⟩ ⟨Nat.le_of_ble_eq_true rfl, Nat.le_of_ble_eq_true rfl⟩ rfl hl.1 rfl (Nat.le_of_ble_eq_true rfl) dX1_isPlaying_3 ⟨Nat.le_of_ble_eq_true rfl, Nat.le_of_ble_eq_true rfl⟩ ?_
  refine lv_iconst (v := (-1)) hx hb dX1_isPlaying_6 (by decide) ?_
  refine lv_icmp_eq (tgt := 14) hx hb dX1_isPlaying_7 (by decide) (fun c3 => ?_) (fun c3 => ?_)
  · replace h := ite_t c3 h
    refine lv_iconst (v := 0) hx hb dX1_isPlaying_14 (by decide) ?_
    exact hret _ _ _ _ dX1_isPlaying_15 rfl (Option.some.inj h)
  · replace h := ite_f c3 h
    refine lv_iconst (v := 1) hx hb dX1_isPlaying_10 (by decide) ?_
    refine lv_goto (tgt := 15) hx hb dX1_isPlaying_11 (by decide) ?_
    exact hret _ _ _ _ dX1_isPlaying_15 rfl (Option.some.inj h)

def fX0_howFarAhead_98 (v_gk : Nat → Int32) (x0 : Int32) : Option Int32 :=
  some (if x0 < 0 then 0 else x0)
def fX0_howFarAhead_78 (v_gk : Nat → Int32) (x0 : Int32) (l2 : Int32) : Option Int32 :=
  fX0_howFarAhead_98 v_gk (if l2 = 1 then x0 else (if l2 = 2 then x0 else (-x0)))
def fX0_howFarAhead_62 (v_gk : Nat → Int32) (x0 : Int32) (l2 : Int32) (l3 : Int32) (l4 : Int32) (l5 : Int32) : Option Int32 :=
  if x0 = 0 then
    fX0_howFarAhead_78 v_gk (if l5 = 0 then l4 else l3) l2
  else
    some 0
def fX0_howFarAhead_49 (v_gk : Nat → Int32) (x0 : Int32) (l2 : Int32) (l3 : Int32) (l4 : Int32) : Option Int32 :=
  fX0_howFarAhead_62 v_gk (if x0 = 0 then l3 else l4) l2 l3 l4 x0
def fX0_howFarAhead (v_gk : Nat → Int32) (p0 : Int32) (p1 : Int32) : Option Int32 :=
  (fX1_count v_gk 5).bind fun q1 =>
  (fX1_count v_gk 5).bind fun q3 =>
  fX0_howFarAhead_49 v_gk (if p1 = 0 then 1 else (if p1 = 2 then 1 else 0)) p1 ((p0 / 9) - (q1 / 9)) ((p0 - p0 / 9 * 9) - (q3 - q3 / 9 * 9))
set_option maxHeartbeats 4000000 in
set_option maxRecDepth 100000 in
theorem lX0_howFarAhead_98 {p : Program} {l : Launch} {e : Env} {s : State} {m : MethodId} {args : Array Value} {below : List Frame} {meth : Method} {c : Code} {Q : State → Prop} {D : va_G} {T : Nat → ClassId} {a_g a_gw a_gk a_f : Nat} {f_net : Int32} {v_gk : Nat → Int32} {r : Int32} (C : CallFix p m c cX0_howFarAhead 7 s args aw RX0) (hE : eK D T s) (hP : va_P D kC [(a_g, .inr (1, [.ref a_gw, .ref a_gk])), (a_f, .inr (0, [.ref a_g, .int f_net])), (a_gk, .inl (T 0, 18, .inl v_gk))] s.heap) (hret : RdRet p l e ({ frames := 1, cells := 0, slots := 0, locals := 21 } : Room) s m args below meth c Q cX0_howFarAhead .int r) (x0 : Int32) (ls : Array Slot) (hl : lv_has ls 7 []) (h : fX0_howFarAhead_98 v_gk x0 = some r) : W p l e ({ frames := 1, cells := 0, slots := 0, locals := 21 } : Room) s m args below meth c s.heap [] 0 0 Q (F0 m 98 ls [.int x0]) := by
  have hx := C.1
  have hb := C.2.1
  unfold fX0_howFarAhead_98 at h
  refine lv_iconst (v := 0) hx hb dX0_howFarAhead_98 (by decide) ?_
  refine va_mmax hx hb (C.2.2.1.trans hl.1.symm) C.2.2.2.1 (C.2.2.2.2 _ qLX0_79) (C.2.2.2.2 _ qMs_max) (C.2.2.2.2 _ qMi) (C.2.2.2.2 _ qMc_max) (Nat.le_of_ble_eq_true rfl) (Nat.le_of_ble_eq_true rfl) (Nat.le_of_ble_eq_true rfl) (Nat.le_of_ble_eq_true rfl) dX0_howFarAhead_99 ?_
  exact hret _ _ _ _ dX0_howFarAhead_102 rfl (Option.some.inj h)
set_option maxHeartbeats 4000000 in
set_option maxRecDepth 100000 in
theorem lX0_howFarAhead_78 {p : Program} {l : Launch} {e : Env} {s : State} {m : MethodId} {args : Array Value} {below : List Frame} {meth : Method} {c : Code} {Q : State → Prop} {D : va_G} {T : Nat → ClassId} {a_g a_gw a_gk a_f : Nat} {f_net : Int32} {v_gk : Nat → Int32} {r : Int32} (C : CallFix p m c cX0_howFarAhead 7 s args aw RX0) (hE : eK D T s) (hP : va_P D kC [(a_g, .inr (1, [.ref a_gw, .ref a_gk])), (a_f, .inr (0, [.ref a_g, .int f_net])), (a_gk, .inl (T 0, 18, .inl v_gk))] s.heap) (hret : RdRet p l e ({ frames := 1, cells := 0, slots := 0, locals := 21 } : Room) s m args below meth c Q cX0_howFarAhead .int r) (x0 : Int32) (l2 : Int32) (ls : Array Slot) (hl : lv_has ls 7 [(2, .int l2)]) (h : fX0_howFarAhead_78 v_gk x0 l2 = some r) : W p l e ({ frames := 1, cells := 0, slots := 0, locals := 21 } : Room) s m args below meth c s.heap [] 0 0 Q (F0 m 78 ls [.int x0]) := by
  have hx := C.1
  have hb := C.2.1
  unfold fX0_howFarAhead_78 at h
  refine lv_istore (lv' := [(6, .int x0), (2, .int l2)]) hx hb dX0_howFarAhead_78 hl (by decide) rfl (fun ls hl => ?_)
  refine lv_iload_n hx hb dX0_howFarAhead_80 rfl (lv_at hl 1 rfl) ?_
  refine lv_iconst (v := 1) hx hb dX0_howFarAhead_81 (by decide) ?_
  refine lv_icmp_eq (tgt := 90) hx hb dX0_howFarAhead_82 (by decide) (fun c10 => ?_) (fun c10 => ?_)
  · rw [if_pos c10] at h
    refine lv_iload hx hb dX0_howFarAhead_90 (lv_at hl 0 rfl) ?_
    refine lv_goto (tgt := 98) hx hb dX0_howFarAhead_92 (by decide) ?_
    exact lX0_howFarAhead_98 C hE hP hret x0 _ (lv_sub hl [] rfl) h
  · rw [if_neg c10] at h
    refine lv_iload_n hx hb dX0_howFarAhead_85 rfl (lv_at hl 1 rfl) ?_
    refine lv_iconst (v := 2) hx hb dX0_howFarAhead_86 (by decide) ?_
    refine lv_icmp_ne (tgt := 95) hx hb dX0_howFarAhead_87 (by decide) (fun c11 => ?_) (fun c11 => ?_)
    · rw [if_neg c11] at h
      refine lv_iload hx hb dX0_howFarAhead_95 (lv_at hl 0 rfl) ?_
      refine lv_ineg hx hb dX0_howFarAhead_97 ?_
      exact lX0_howFarAhead_98 C hE hP hret (-x0) _ (lv_sub hl [] rfl) h
    · rw [if_pos c11] at h
      refine lv_iload hx hb dX0_howFarAhead_90 (lv_at hl 0 rfl) ?_
      refine lv_goto (tgt := 98) hx hb dX0_howFarAhead_92 (by decide) ?_
      exact lX0_howFarAhead_98 C hE hP hret x0 _ (lv_sub hl [] rfl) h
set_option maxHeartbeats 4000000 in
set_option maxRecDepth 100000 in
theorem lX0_howFarAhead_62 {p : Program} {l : Launch} {e : Env} {s : State} {m : MethodId} {args : Array Value} {below : List Frame} {meth : Method} {c : Code} {Q : State → Prop} {D : va_G} {T : Nat → ClassId} {a_g a_gw a_gk a_f : Nat} {f_net : Int32} {v_gk : Nat → Int32} {r : Int32} (C : CallFix p m c cX0_howFarAhead 7 s args aw RX0) (hE : eK D T s) (hP : va_P D kC [(a_g, .inr (1, [.ref a_gw, .ref a_gk])), (a_f, .inr (0, [.ref a_g, .int f_net])), (a_gk, .inl (T 0, 18, .inl v_gk))] s.heap) (hret : RdRet p l e ({ frames := 1, cells := 0, slots := 0, locals := 21 } : Room) s m args below meth c Q cX0_howFarAhead .int r) (x0 : Int32) (l2 : Int32) (l3 : Int32) (l4 : Int32) (l5 : Int32) (ls : Array Slot) (hl : lv_has ls 7 [(2, .int l2), (3, .int l3), (4, .int l4), (5, .int l5)]) (h : fX0_howFarAhead_62 v_gk x0 l2 l3 l4 l5 = some r) : W p l e ({ frames := 1, cells := 0, slots := 0, locals := 21 } : Room) s m args below meth c s.heap [] 0 0 Q (F0 m 62 ls [.int x0]) := by
  have hx := C.1
  have hb := C.2.1
  unfold fX0_howFarAhead_62 at h
  refine lv_if_eq (tgt := 67) hx hb dX0_howFarAhead_62 (by decide) (fun c8 => ?_) (fun c8 => ?_)
  · replace h := ite_t c8 h
    refine lv_iload hx hb dX0_howFarAhead_67 (lv_at hl 3 rfl) ?_
    refine lv_if_eq (tgt := 76) hx hb dX0_howFarAhead_69 (by decide) (fun c9 => ?_) (fun c9 => ?_)
    · rw [if_pos c9] at h
      refine lv_iload hx hb dX0_howFarAhead_76 (lv_at hl 2 rfl) ?_
      exact lX0_howFarAhead_78 C hE hP hret l4 l2 _ (lv_sub hl [0] rfl) h
    · rw [if_neg c9] at h
      refine lv_iload_n hx hb dX0_howFarAhead_72 rfl (lv_at hl 1 rfl) ?_
      refine lv_goto (tgt := 78) hx hb dX0_howFarAhead_73 (by decide) ?_
      exact lX0_howFarAhead_78 C hE hP hret l3 l2 _ (lv_sub hl [0] rfl) h
  · replace h := ite_f c8 h
    refine lv_iconst (v := 0) hx hb dX0_howFarAhead_65 (by decide) ?_
    exact hret _ _ _ _ dX0_howFarAhead_66 rfl (Option.some.inj h)
set_option maxHeartbeats 4000000 in
set_option maxRecDepth 100000 in
theorem lX0_howFarAhead_49 {p : Program} {l : Launch} {e : Env} {s : State} {m : MethodId} {args : Array Value} {below : List Frame} {meth : Method} {c : Code} {Q : State → Prop} {D : va_G} {T : Nat → ClassId} {a_g a_gw a_gk a_f : Nat} {f_net : Int32} {v_gk : Nat → Int32} {r : Int32} (C : CallFix p m c cX0_howFarAhead 7 s args aw RX0) (hE : eK D T s) (hP : va_P D kC [(a_g, .inr (1, [.ref a_gw, .ref a_gk])), (a_f, .inr (0, [.ref a_g, .int f_net])), (a_gk, .inl (T 0, 18, .inl v_gk))] s.heap) (hret : RdRet p l e ({ frames := 1, cells := 0, slots := 0, locals := 21 } : Room) s m args below meth c Q cX0_howFarAhead .int r) (x0 : Int32) (l2 : Int32) (l3 : Int32) (l4 : Int32) (ls : Array Slot) (hl : lv_has ls 7 [(2, .int l2), (3, .int l3), (4, .int l4)]) (h : fX0_howFarAhead_49 v_gk x0 l2 l3 l4 = some r) : W p l e ({ frames := 1, cells := 0, slots := 0, locals := 21 } : Room) s m args below meth c s.heap [] 0 0 Q (F0 m 49 ls [.int x0]) := by
  have hx := C.1
  have hb := C.2.1
  unfold fX0_howFarAhead_49 at h
  refine lv_istore (lv' := [(5, .int x0), (2, .int l2), (3, .int l3), (4, .int l4)]) hx hb dX0_howFarAhead_49 hl (by decide) rfl (fun ls hl => ?_)
  refine lv_iload hx hb dX0_howFarAhead_51 (lv_at hl 0 rfl) ?_
  refine lv_if_eq (tgt := 61) hx hb dX0_howFarAhead_53 (by decide) (fun c7 => ?_) (fun c7 => ?_)
  · rw [if_pos c7] at h
    refine lv_iload_n hx hb dX0_howFarAhead_61 rfl (lv_at hl 2 rfl) ?_
    exact lX0_howFarAhead_62 C hE hP hret l3 l2 l3 l4 x0 _ (lv_sub hl [1, 2, 3, 0] rfl) h
  · rw [if_neg c7] at h
    refine lv_iload hx hb dX0_howFarAhead_56 (lv_at hl 3 rfl) ?_
    refine lv_goto (tgt := 62) hx hb dX0_howFarAhead_58 (by decide) ?_
    exact lX0_howFarAhead_62 C hE hP hret l4 l2 l3 l4 x0 _ (lv_sub hl [1, 2, 3, 0] rfl) h
set_option maxHeartbeats 4000000 in
set_option maxRecDepth 100000 in
theorem kX0_howFarAhead (l : Launch) (D : va_G) (T : Nat → ClassId) (a_g a_gw a_gk a_f : Nat) (f_net : Int32) (v_gk : Nat → Int32) (p0 : Int32) (p1 : Int32) (r : Int32) (h : fX0_howFarAhead v_gk p0 p1 = some r) : RdI l yX0_howFarAhead cX0_howFarAhead 7 .int ({ frames := 1, cells := 0, slots := 0, locals := 21 } : Room) D T [(a_g, .inr (1, [.ref a_gw, .ref a_gk])), (a_f, .inr (0, [.ref a_g, .int f_net])), (a_gk, .inl (T 0, 18, .inl v_gk))] [.ref a_f, .int p0, .int p1] r := by
  unfold fX0_howFarAhead at h
  refine rdMet (by decide +kernel) rfl (fun p e s m args below meth c Q C hE hP hret ls hl => ?_)
  have hx := C.1
  have hb := C.2.1
  have hl : lv_has ls 7 [(0, .ref a_f), (1, .int p0), (2, .int p1)] := hl
  refine lv_iload_n hx hb dX0_howFarAhead_0 rfl (lv_at hl 1 rfl) ?_
  refine lv_bipush (v := 9) hx hb dX0_howFarAhead_1 (by decide) ?_
  refine lv_idiv hx hb dX0_howFarAhead_3 (by decide) ?_
  refine lv_aload_n hx hb dX0_howFarAhead_4 rfl (lv_at hl 0 rfl) ?_
  refine getF (q0 := 1) (k0 := 0) (v := .ref a_g) C hE hP inA0 rfl rfl (by decide) qFX0_15 rfl rfl dX0_howFarAhead_5 ?_
  refine lv_iconst (v := 5) hx hb dX0_howFarAhead_8 (by decide) ?_
  replace h := bnd h; obtain ⟨q1, e2, h⟩ := h
  refine rdV C hE hP (kX1_count l D T a_g a_gw a_gk v_gk 5 q1 e2) mX1_count qLX0_29 [0, 2] 0 rfl rfl rfl rfl ⟨rfl, rfl⟩ ⟨Nat.le_of_ble_eq_true rfl, Nat.le_of_ble_eq_true rfl⟩ rfl hl.1 rfl (Nat.le_of_ble_eq_true rfl) dX0_howFarAhead_9 ⟨Nat.le_of_ble_eq_true rfl, Nat.le_of_ble_eq_true rfl⟩ ?_
  refine lv_bipush (v := 9) hx hb dX0_howFarAhead_12 (by decide) ?_
  refine lv_idiv hx hb dX0_howFarAhead_14 (by decide) ?_
  refine lv_isub hx hb dX0_howFarAhead_15 ?_
  refine lv_istore_n (lv' := [(3, .int ((p0 / 9) - (q1 / 9))), (0, .ref a_f), (1, .int p0), (2, .int p1)]) hx hb dX0_howFarAhead_16 rfl hl (by decide) rfl (fun ls hl => ?_)
  refine lv_iload_n hx hb dX0_howFarAhead_17 rfl (lv_at hl 2 rfl) ?_
  refine lv_bipush (v := 9) hx hb dX0_howFarAhead_18 (by decide) ?_
  refine lv_irem hx hb dX0_howFarAhead_20 (by decide) ?_
  refine lv_aload_n hx hb dX0_howFarAhead_21 rfl (lv_at hl 1 rfl) ?_
  refine getF (q0 := 1) (k0 := 0) (v := .ref a_g) C hE hP inA0 rfl rfl (by decide) qFX0_15 rfl rfl dX0_howFarAhead_22 ?_
  refine lv_iconst (v := 5) hx hb dX0_howFarAhead_25 (by decide) ?_
  replace h := bnd h; obtain ⟨q3, e4, h⟩ := h
  refine rdV C hE hP (kX1_count l D T a_g a_gw a_gk v_gk 5 q3 e4) mX1_count qLX0_29 [0, 2] 0 rfl rfl rfl rfl ⟨rfl, rfl⟩ ⟨Nat.le_of_ble_eq_true rfl, Nat.le_of_ble_eq_true rfl⟩ rfl hl.1 rfl (Nat.le_of_ble_eq_true rfl) dX0_howFarAhead_26 ⟨Nat.le_of_ble_eq_true rfl, Nat.le_of_ble_eq_true rfl⟩ ?_
  refine lv_bipush (v := 9) hx hb dX0_howFarAhead_29 (by decide) ?_
  refine lv_irem hx hb dX0_howFarAhead_31 (by decide) ?_
  refine lv_isub hx hb dX0_howFarAhead_32 ?_
  refine lv_istore (lv' := [(4, .int ((p0 - p0 / 9 * 9) - (q3 - q3 / 9 * 9))), (3, .int ((p0 / 9) - (q1 / 9))), (0, .ref a_f), (1, .int p0), (2, .int p1)]) hx hb dX0_howFarAhead_33 hl (by decide) rfl (fun ls hl => ?_)
  refine lv_iload_n hx hb dX0_howFarAhead_35 rfl (lv_at hl 4 rfl) ?_
  refine lv_if_eq (tgt := 44) hx hb dX0_howFarAhead_36 (by decide) (fun c5 => ?_) (fun c5 => ?_)
  · rw [if_pos c5] at h
    refine lv_iconst (v := 1) hx hb dX0_howFarAhead_44 (by decide) ?_
    refine lv_goto (tgt := 49) hx hb dX0_howFarAhead_45 (by decide) ?_
    exact lX0_howFarAhead_49 C hE hP hret 1 p1 ((p0 / 9) - (q1 / 9)) ((p0 - p0 / 9 * 9) - (q3 - q3 / 9 * 9)) _ (lv_sub hl [4, 1, 0] rfl) h
  · rw [if_neg c5] at h
    refine lv_iload_n hx hb dX0_howFarAhead_39 rfl (lv_at hl 4 rfl) ?_
    refine lv_iconst (v := 2) hx hb dX0_howFarAhead_40 (by decide) ?_
    refine lv_icmp_ne (tgt := 48) hx hb dX0_howFarAhead_41 (by decide) (fun c6 => ?_) (fun c6 => ?_)
    · rw [if_neg c6] at h
      refine lv_iconst (v := 0) hx hb dX0_howFarAhead_48 (by decide) ?_
      exact lX0_howFarAhead_49 C hE hP hret 0 p1 ((p0 / 9) - (q1 / 9)) ((p0 - p0 / 9 * 9) - (q3 - q3 / 9 * 9)) _ (lv_sub hl [4, 1, 0] rfl) h
    · rw [if_pos c6] at h
      refine lv_iconst (v := 1) hx hb dX0_howFarAhead_44 (by decide) ?_
      refine lv_goto (tgt := 49) hx hb dX0_howFarAhead_45 (by decide) ?_
      exact lX0_howFarAhead_49 C hE hP hret 1 p1 ((p0 / 9) - (q1 / 9)) ((p0 - p0 / 9 * 9) - (q3 - q3 / 9 * 9)) _ (lv_sub hl [4, 1, 0] rfl) h

def fX0_cellsToWhale_72 (v_gw : Nat → Int32) (v_gk : Nat → Int32) (rec6 : Int32 → Int32 → Int32 → Int32 → Option Int32) (l1 : Int32) (l2 : Int32) (l3 : Int32) (l4 : Int32) : Option Int32 :=
  rec6 l1 l2 l3 (l4 + 1)
def fX0_cellsToWhale_71 (v_gw : Nat → Int32) (v_gk : Nat → Int32) (rec6 : Int32 → Int32 → Int32 → Int32 → Option Int32) (x0 : Int32) (l1 : Int32) (l2 : Int32) (l4 : Int32) : Option Int32 :=
  fX0_cellsToWhale_72 v_gw v_gk rec6 l1 l2 x0 l4
def fX0_cellsToWhale_6 (v_gw : Nat → Int32) (v_gk : Nat → Int32) : Nat → Int32 → Int32 → Int32 → Int32 → Option Int32
  | 0, _, _, _, _ => none
  | k + 1, l1, l2, l3, l4 =>
    (fX1_count v_gk 0).bind fun q1 =>
    if q1 ≤ l4 then
      some l3
    else
      if l4 = l1 then
        fX0_cellsToWhale_72 v_gw v_gk (fX0_cellsToWhale_6 v_gw v_gk k) l1 l2 l3 l4
      else
        (fX1_isPlaying v_gw l4).bind fun q5 =>
        if q5 = 0 then
          fX0_cellsToWhale_72 v_gw v_gk (fX0_cellsToWhale_6 v_gw v_gk k) l1 l2 l3 l4
        else
          (fX1_of v_gw l4 4).bind fun q8 =>
          (fX0_howFarAhead v_gk q8 l2).bind fun q10 =>
          fX0_cellsToWhale_71 v_gw v_gk (fX0_cellsToWhale_6 v_gw v_gk k) (if q10 ≤ 0 then l3 else (if (q10 - 1) < l3 then (q10 - 1) else l3)) l1 l2 l4
def fX0_cellsToWhale (v_gw : Nat → Int32) (v_gk : Nat → Int32) (p0 : Int32) (p1 : Int32) : Option Int32 :=
  fX0_cellsToWhale_6 v_gw v_gk 64 p0 p1 45 0
set_option maxHeartbeats 4000000 in
set_option maxRecDepth 100000 in
theorem lX0_cellsToWhale_72 {p : Program} {l : Launch} {e : Env} {s : State} {m : MethodId} {args : Array Value} {below : List Frame} {meth : Method} {c : Code} {Q : State → Prop} {D : va_G} {T : Nat → ClassId} {a_g a_gw a_gk a_f : Nat} {f_net : Int32} {v_gw : Nat → Int32} {v_gk : Nat → Int32} {r : Int32} (C : CallFix p m c cX0_cellsToWhale 6 s args aw RX0) (hE : eK D T s) (hP : va_P D kC [(a_g, .inr (1, [.ref a_gw, .ref a_gk])), (a_f, .inr (0, [.ref a_g, .int f_net])), (a_gw, .inl (T 0, 90, .inl v_gw)), (a_gk, .inl (T 0, 18, .inl v_gk))] s.heap) (hret : RdRet p l e ({ frames := 2, cells := 0, slots := 0, locals := 47 } : Room) s m args below meth c Q cX0_cellsToWhale .int r) {rec6 : Int32 → Int32 → Int32 → Int32 → Option Int32} (hrec6 : ∀ (l1 : Int32) (l2 : Int32) (l3 : Int32) (l4 : Int32) (ls : Array Slot) (hl : lv_has ls 6 [(0, .ref a_f), (1, .int l1), (2, .int l2), (3, .int l3), (4, .int l4)]) (h : rec6 l1 l2 l3 l4 = some r), W p l e ({ frames := 2, cells := 0, slots := 0, locals := 47 } : Room) s m args below meth c s.heap [] 0 0 Q (F0 m 6 ls [])) (l1 : Int32) (l2 : Int32) (l3 : Int32) (l4 : Int32) (ls : Array Slot) (hl : lv_has ls 6 [(0, .ref a_f), (1, .int l1), (2, .int l2), (3, .int l3), (4, .int l4)]) (h : fX0_cellsToWhale_72 v_gw v_gk rec6 l1 l2 l3 l4 = some r) : W p l e ({ frames := 2, cells := 0, slots := 0, locals := 47 } : Room) s m args below meth c s.heap [] 0 0 Q (F0 m 72 ls []) := by
  have hx := C.1
  have hb := C.2.1
  unfold fX0_cellsToWhale_72 at h
  refine lv_iinc (v := (l4 + 1)) (lv' := [(4, .int (l4 + 1)), (0, .ref a_f), (1, .int l1), (2, .int l2), (3, .int l3)]) hx hb dX0_cellsToWhale_72 hl (k := 4) rfl rfl (by decide) rfl (fun ls hl => ?_)
  refine lv_goto (tgt := 6) hx hb dX0_cellsToWhale_75 (by decide) ?_
  exact hrec6 l1 l2 l3 (l4 + 1) _ (lv_sub hl [1, 2, 3, 4, 0] rfl) h
set_option maxHeartbeats 4000000 in
set_option maxRecDepth 100000 in
theorem lX0_cellsToWhale_71 {p : Program} {l : Launch} {e : Env} {s : State} {m : MethodId} {args : Array Value} {below : List Frame} {meth : Method} {c : Code} {Q : State → Prop} {D : va_G} {T : Nat → ClassId} {a_g a_gw a_gk a_f : Nat} {f_net : Int32} {v_gw : Nat → Int32} {v_gk : Nat → Int32} {r : Int32} (C : CallFix p m c cX0_cellsToWhale 6 s args aw RX0) (hE : eK D T s) (hP : va_P D kC [(a_g, .inr (1, [.ref a_gw, .ref a_gk])), (a_f, .inr (0, [.ref a_g, .int f_net])), (a_gw, .inl (T 0, 90, .inl v_gw)), (a_gk, .inl (T 0, 18, .inl v_gk))] s.heap) (hret : RdRet p l e ({ frames := 2, cells := 0, slots := 0, locals := 47 } : Room) s m args below meth c Q cX0_cellsToWhale .int r) {rec6 : Int32 → Int32 → Int32 → Int32 → Option Int32} (hrec6 : ∀ (l1 : Int32) (l2 : Int32) (l3 : Int32) (l4 : Int32) (ls : Array Slot) (hl : lv_has ls 6 [(0, .ref a_f), (1, .int l1), (2, .int l2), (3, .int l3), (4, .int l4)]) (h : rec6 l1 l2 l3 l4 = some r), W p l e ({ frames := 2, cells := 0, slots := 0, locals := 47 } : Room) s m args below meth c s.heap [] 0 0 Q (F0 m 6 ls [])) (x0 : Int32) (l1 : Int32) (l2 : Int32) (l4 : Int32) (ls : Array Slot) (hl : lv_has ls 6 [(0, .ref a_f), (1, .int l1), (2, .int l2), (4, .int l4)]) (h : fX0_cellsToWhale_71 v_gw v_gk rec6 x0 l1 l2 l4 = some r) : W p l e ({ frames := 2, cells := 0, slots := 0, locals := 47 } : Room) s m args below meth c s.heap [] 0 0 Q (F0 m 71 ls [.int x0]) := by
  have hx := C.1
  have hb := C.2.1
  unfold fX0_cellsToWhale_71 at h
  refine lv_istore_n (lv' := [(3, .int x0), (0, .ref a_f), (1, .int l1), (2, .int l2), (4, .int l4)]) hx hb dX0_cellsToWhale_71 rfl hl (by decide) rfl (fun ls hl => ?_)
  exact lX0_cellsToWhale_72 C hE hP hret hrec6 l1 l2 x0 l4 _ (lv_sub hl [1, 2, 3, 0, 4] rfl) h
set_option maxHeartbeats 4000000 in
set_option maxRecDepth 100000 in
theorem lX0_cellsToWhale_6 {p : Program} {l : Launch} {e : Env} {s : State} {m : MethodId} {args : Array Value} {below : List Frame} {meth : Method} {c : Code} {Q : State → Prop} {D : va_G} {T : Nat → ClassId} {a_g a_gw a_gk a_f : Nat} {f_net : Int32} {v_gw : Nat → Int32} {v_gk : Nat → Int32} {r : Int32} (C : CallFix p m c cX0_cellsToWhale 6 s args aw RX0) (hE : eK D T s) (hP : va_P D kC [(a_g, .inr (1, [.ref a_gw, .ref a_gk])), (a_f, .inr (0, [.ref a_g, .int f_net])), (a_gw, .inl (T 0, 90, .inl v_gw)), (a_gk, .inl (T 0, 18, .inl v_gk))] s.heap) (hret : RdRet p l e ({ frames := 2, cells := 0, slots := 0, locals := 47 } : Room) s m args below meth c Q cX0_cellsToWhale .int r) : ∀ (k : Nat) (l1 : Int32) (l2 : Int32) (l3 : Int32) (l4 : Int32) (ls : Array Slot) (hl : lv_has ls 6 [(0, .ref a_f), (1, .int l1), (2, .int l2), (3, .int l3), (4, .int l4)]) (h : fX0_cellsToWhale_6 v_gw v_gk k l1 l2 l3 l4 = some r), W p l e ({ frames := 2, cells := 0, slots := 0, locals := 47 } : Room) s m args below meth c s.heap [] 0 0 Q (F0 m 6 ls []) := by
  have hx := C.1
  have hb := C.2.1
  intro k
  induction k with
  | zero =>
    intro l1 l2 l3 l4  ls hl h
    exact nomatch (show (none : Option Int32) = some r from h)
  | succ k ih =>
    intro l1 l2 l3 l4  ls hl h
    rw [fX0_cellsToWhale_6] at h
    refine lv_iload hx hb dX0_cellsToWhale_6 (lv_at hl 4 rfl) ?_
    refine lv_aload_n hx hb dX0_cellsToWhale_8 rfl (lv_at hl 0 rfl) ?_
    refine getF (q0 := 1) (k0 := 0) (v := .ref a_g) C hE hP inA0 rfl rfl (by decide) qFX0_15 rfl rfl dX0_cellsToWhale_9 ?_
    refine lv_iconst (v := 0) hx hb dX0_cellsToWhale_12 (by decide) ?_
    replace h := bnd h; obtain ⟨q1, e2, h⟩ := h
    refine rdV C hE hP (kX1_count l D T a_g a_gw a_gk v_gk 0 q1 e2) mX1_count qLX0_29 [0, 3] 0 rfl rfl rfl rfl ⟨rfl, rfl⟩ ⟨Nat.le_of_ble_eq_true rfl, Nat.le_of_ble_eq_true rfl⟩ rfl hl.1 rfl (Nat.le_of_ble_eq_true rfl) dX0_cellsToWhale_13 ⟨Nat.le_of_ble_eq_true rfl, Nat.le_of_ble_eq_true rfl⟩ ?_
    refine lv_icmp_ge (tgt := 78) hx hb dX0_cellsToWhale_16 (by decide) (fun c3 => ?_) (fun c3 => ?_)
    · replace h := ite_t c3 h
      refine lv_iload_n hx hb dX0_cellsToWhale_78 rfl (lv_at hl 3 rfl) ?_
      exact hret _ _ _ _ dX0_cellsToWhale_79 rfl (Option.some.inj h)
    · replace h := ite_f c3 h
      refine lv_iload hx hb dX0_cellsToWhale_19 (lv_at hl 4 rfl) ?_
      refine lv_iload_n hx hb dX0_cellsToWhale_21 rfl (lv_at hl 1 rfl) ?_
      refine lv_icmp_eq (tgt := 72) hx hb dX0_cellsToWhale_22 (by decide) (fun c4 => ?_) (fun c4 => ?_)
      · replace h := ite_t c4 h
        exact lX0_cellsToWhale_72 C hE hP hret ih l1 l2 l3 l4 _ (lv_sub hl [0, 1, 2, 3, 4] rfl) h
      · replace h := ite_f c4 h
        refine lv_aload_n hx hb dX0_cellsToWhale_25 rfl (lv_at hl 0 rfl) ?_
        refine getF (q0 := 1) (k0 := 0) (v := .ref a_g) C hE hP inA0 rfl rfl (by decide) qFX0_15 rfl rfl dX0_cellsToWhale_26 ?_
        refine lv_iload hx hb dX0_cellsToWhale_29 (lv_at hl 4 rfl) ?_
        replace h := bnd h; obtain ⟨q5, e6, h⟩ := h
        refine rdV C hE hP (kX1_isPlaying l D T a_g a_gw a_gk v_gw l4 q5 e6) mX1_isPlaying qLX0_70 [0, 2] 0 rfl rfl rfl rfl ⟨rfl, rfl⟩ ⟨Nat.le_of_ble_eq_true rfl, Nat.le_of_ble_eq_true rfl⟩ rfl hl.1 rfl (Nat.le_of_ble_eq_true rfl) dX0_cellsToWhale_31 ⟨Nat.le_of_ble_eq_true rfl, Nat.le_of_ble_eq_true rfl⟩ ?_
        refine lv_if_eq (tgt := 72) hx hb dX0_cellsToWhale_34 (by decide) (fun c7 => ?_) (fun c7 => ?_)
        · replace h := ite_t c7 h
          exact lX0_cellsToWhale_72 C hE hP hret ih l1 l2 l3 l4 _ (lv_sub hl [0, 1, 2, 3, 4] rfl) h
        · replace h := ite_f c7 h
          refine lv_aload_n hx hb dX0_cellsToWhale_37 rfl (lv_at hl 0 rfl) ?_
          refine lv_aload_n hx hb dX0_cellsToWhale_38 rfl (lv_at hl 0 rfl) ?_
          refine getF (q0 := 1) (k0 := 0) (v := .ref a_g) C hE hP inA0 rfl rfl (by decide) qFX0_15 rfl rfl dX0_cellsToWhale_39 ?_
          refine lv_iload hx hb dX0_cellsToWhale_42 (lv_at hl 4 rfl) ?_
          refine lv_iconst (v := 4) hx hb dX0_cellsToWhale_44 (by decide) ?_
          replace h := bnd h; obtain ⟨q8, e9, h⟩ := h
          refine rdV C hE hP (kX1_of l D T a_g a_gw a_gk v_gw l4 4 q8 e9) mX1_of qLX0_73 [0, 2] 0 rfl rfl rfl rfl ⟨rfl, rfl⟩ ⟨Nat.le_of_ble_eq_true rfl, Nat.le_of_ble_eq_true rfl⟩ rfl hl.1 rfl (Nat.le_of_ble_eq_true rfl) dX0_cellsToWhale_45 ⟨Nat.le_of_ble_eq_true rfl, Nat.le_of_ble_eq_true rfl⟩ ?_
          refine lv_iload_n hx hb dX0_cellsToWhale_48 rfl (lv_at hl 2 rfl) ?_
          replace h := bnd h; obtain ⟨q10, e11, h⟩ := h
          refine rdV C hE hP (kX0_howFarAhead l D T a_g a_gw a_gk a_f f_net v_gk q8 l2 q10 e11) mX0_howFarAhead qLX0_76 [0, 1, 3] 1 rfl rfl rfl rfl ⟨rfl, rfl⟩ ⟨Nat.le_of_ble_eq_true rfl, Nat.le_of_ble_eq_true rfl⟩ rfl hl.1 rfl (Nat.le_of_ble_eq_true rfl) dX0_cellsToWhale_49 ⟨Nat.le_of_ble_eq_true rfl, Nat.le_of_ble_eq_true rfl⟩ ?_
          refine lv_istore (lv' := [(5, .int q10), (0, .ref a_f), (1, .int l1), (2, .int l2), (3, .int l3), (4, .int l4)]) hx hb dX0_cellsToWhale_52 hl (by decide) rfl (fun ls hl => ?_)
          refine lv_iload hx hb dX0_cellsToWhale_54 (lv_at hl 0 rfl) ?_
          refine lv_if_le (tgt := 70) hx hb dX0_cellsToWhale_56 (by decide) (fun c12 => ?_) (fun c12 => ?_)
          · rw [if_pos c12] at h
            refine lv_iload_n hx hb dX0_cellsToWhale_70 rfl (lv_at hl 4 rfl) ?_
            exact lX0_cellsToWhale_71 C hE hP hret ih l3 l1 l2 l4 _ (lv_sub hl [1, 2, 3, 5] rfl) h
          · rw [if_neg c12] at h
            refine lv_iload_n hx hb dX0_cellsToWhale_59 rfl (lv_at hl 4 rfl) ?_
            refine lv_iload hx hb dX0_cellsToWhale_60 (lv_at hl 0 rfl) ?_
            refine lv_iconst (v := 1) hx hb dX0_cellsToWhale_62 (by decide) ?_
            refine lv_isub hx hb dX0_cellsToWhale_63 ?_
            refine va_mmin hx hb (C.2.2.1.trans hl.1.symm) C.2.2.2.1 (C.2.2.2.2 _ qLX0_62) (C.2.2.2.2 _ qMs_min) (C.2.2.2.2 _ qMi) (C.2.2.2.2 _ qMc_min) (Nat.le_of_ble_eq_true rfl) (Nat.le_of_ble_eq_true rfl) (Nat.le_of_ble_eq_true rfl) (Nat.le_of_ble_eq_true rfl) dX0_cellsToWhale_64 ?_
            refine lv_goto (tgt := 71) hx hb dX0_cellsToWhale_67 (by decide) ?_
            exact lX0_cellsToWhale_71 C hE hP hret ih (if (q10 - 1) < l3 then (q10 - 1) else l3) l1 l2 l4 _ (lv_sub hl [1, 2, 3, 5] rfl) h
set_option maxHeartbeats 4000000 in
set_option maxRecDepth 100000 in
theorem kX0_cellsToWhale (l : Launch) (D : va_G) (T : Nat → ClassId) (a_g a_gw a_gk a_f : Nat) (f_net : Int32) (v_gw : Nat → Int32) (v_gk : Nat → Int32) (p0 : Int32) (p1 : Int32) (r : Int32) (h : fX0_cellsToWhale v_gw v_gk p0 p1 = some r) : RdI l yX0_cellsToWhale cX0_cellsToWhale 6 .int ({ frames := 2, cells := 0, slots := 0, locals := 47 } : Room) D T [(a_g, .inr (1, [.ref a_gw, .ref a_gk])), (a_f, .inr (0, [.ref a_g, .int f_net])), (a_gw, .inl (T 0, 90, .inl v_gw)), (a_gk, .inl (T 0, 18, .inl v_gk))] [.ref a_f, .int p0, .int p1] r := by
  unfold fX0_cellsToWhale at h
  refine rdMet (by decide +kernel) rfl (fun p e s m args below meth c Q C hE hP hret ls hl => ?_)
  have hx := C.1
  have hb := C.2.1
  have hl : lv_has ls 6 [(0, .ref a_f), (1, .int p0), (2, .int p1)] := hl
  refine lv_bipush (v := 45) hx hb dX0_cellsToWhale_0 (by decide) ?_
  refine lv_istore_n (lv' := [(3, .int 45), (0, .ref a_f), (1, .int p0), (2, .int p1)]) hx hb dX0_cellsToWhale_2 rfl hl (by decide) rfl (fun ls hl => ?_)
  refine lv_iconst (v := 0) hx hb dX0_cellsToWhale_3 (by decide) ?_
  refine lv_istore (lv' := [(4, .int 0), (3, .int 45), (0, .ref a_f), (1, .int p0), (2, .int p1)]) hx hb dX0_cellsToWhale_4 hl (by decide) rfl (fun ls hl => ?_)
  exact lX0_cellsToWhale_6 C hE hP hret 64 p0 p1 45 0 _ (lv_sub hl [2, 3, 4, 1, 0] rfl) h

def fX0_cellsToDry_19 (v_gk : Nat → Int32) (l2 : Int32) : Option Int32 :=
  (fX1_isDryNow v_gk l2).bind fun q9 =>
  if q9 = 0 then
    some 45
  else
    some 0
def fX0_cellsToDry_70 (v_gk : Nat → Int32) (x0 : Int32) (l3 : Int32) : Option Int32 :=
  if x0 = 0 then
    some 45
  else
    some (l3 - 1)
def fX0_cellsToDry (v_gk : Nat → Int32) (p0 : Int32) : Option Int32 :=
  (fX1_count v_gk 5).bind fun q1 =>
  if p0 = 1 then
    fX0_cellsToDry_19 v_gk q1
  else
    if p0 = 3 then
      fX0_cellsToDry_19 v_gk q1
    else
      if (fX7_cellsAhead q1 p0) ≤ 0 then
        fX0_cellsToDry_70 v_gk 0 (fX7_cellsAhead q1 p0)
      else
        (fX1_isDryNow v_gk (q1 + ((fX7_cellsAhead q1 p0) * (fX7_stride p0)))).bind fun q6 =>
        fX0_cellsToDry_70 v_gk (if q6 = 0 then 0 else 1) (fX7_cellsAhead q1 p0)
set_option maxHeartbeats 4000000 in
set_option maxRecDepth 100000 in
theorem lX0_cellsToDry_19 {p : Program} {l : Launch} {e : Env} {s : State} {m : MethodId} {args : Array Value} {below : List Frame} {meth : Method} {c : Code} {Q : State → Prop} {D : va_G} {T : Nat → ClassId} {a_g a_gw a_gk a_f : Nat} {f_net : Int32} {v_gk : Nat → Int32} {r : Int32} (C : CallFix p m c cX0_cellsToDry 5 s args aw RX0) (hE : eK D T s) (hP : va_P D kC [(a_g, .inr (1, [.ref a_gw, .ref a_gk])), (a_f, .inr (0, [.ref a_g, .int f_net])), (a_gk, .inl (T 0, 18, .inl v_gk))] s.heap) (hret : RdRet p l e ({ frames := 2, cells := 0, slots := 0, locals := 42 } : Room) s m args below meth c Q cX0_cellsToDry .int r) (l2 : Int32) (ls : Array Slot) (hl : lv_has ls 5 [(0, .ref a_f), (2, .int l2)]) (h : fX0_cellsToDry_19 v_gk l2 = some r) : W p l e ({ frames := 2, cells := 0, slots := 0, locals := 42 } : Room) s m args below meth c s.heap [] 0 0 Q (F0 m 19 ls []) := by
  have hx := C.1
  have hb := C.2.1
  unfold fX0_cellsToDry_19 at h
  refine lv_aload_n hx hb dX0_cellsToDry_19 rfl (lv_at hl 0 rfl) ?_
  refine getF (q0 := 1) (k0 := 0) (v := .ref a_g) C hE hP inA0 rfl rfl (by decide) qFX0_15 rfl rfl dX0_cellsToDry_20 ?_
  refine lv_iload_n hx hb dX0_cellsToDry_23 rfl (lv_at hl 1 rfl) ?_
  replace h := bnd h; obtain ⟨q9, e10, h⟩ := h
  refine rdV C hE hP (kX1_isDryNow l D T a_g a_gw a_gk v_gk l2 q9 e10) mX1_isDryNow qLX0_50 [0, 2] 0 rfl rfl rfl rfl ⟨rfl, rfl⟩ ⟨Nat.le_of_ble_eq_true rfl, Nat.le_of_ble_eq_true rfl⟩ rfl hl.1 rfl (Nat.le_of_ble_eq_true rfl) dX0_cellsToDry_24 ⟨Nat.le_of_ble_eq_true rfl, Nat.le_of_ble_eq_true rfl⟩ ?_
  refine lv_if_eq (tgt := 34) hx hb dX0_cellsToDry_27 (by decide) (fun c11 => ?_) (fun c11 => ?_)
  · replace h := ite_t c11 h
    refine lv_bipush (v := 45) hx hb dX0_cellsToDry_34 (by decide) ?_
    exact hret _ _ _ _ dX0_cellsToDry_36 rfl (Option.some.inj h)
  · replace h := ite_f c11 h
    refine lv_iconst (v := 0) hx hb dX0_cellsToDry_30 (by decide) ?_
    refine lv_goto (tgt := 36) hx hb dX0_cellsToDry_31 (by decide) ?_
    exact hret _ _ _ _ dX0_cellsToDry_36 rfl (Option.some.inj h)
set_option maxHeartbeats 4000000 in
set_option maxRecDepth 100000 in
theorem lX0_cellsToDry_70 {p : Program} {l : Launch} {e : Env} {s : State} {m : MethodId} {args : Array Value} {below : List Frame} {meth : Method} {c : Code} {Q : State → Prop} {D : va_G} {T : Nat → ClassId} {a_g a_gw a_gk a_f : Nat} {f_net : Int32} {v_gk : Nat → Int32} {r : Int32} (C : CallFix p m c cX0_cellsToDry 5 s args aw RX0) (hE : eK D T s) (hP : va_P D kC [(a_g, .inr (1, [.ref a_gw, .ref a_gk])), (a_f, .inr (0, [.ref a_g, .int f_net])), (a_gk, .inl (T 0, 18, .inl v_gk))] s.heap) (hret : RdRet p l e ({ frames := 2, cells := 0, slots := 0, locals := 42 } : Room) s m args below meth c Q cX0_cellsToDry .int r) (x0 : Int32) (l3 : Int32) (ls : Array Slot) (hl : lv_has ls 5 [(3, .int l3)]) (h : fX0_cellsToDry_70 v_gk x0 l3 = some r) : W p l e ({ frames := 2, cells := 0, slots := 0, locals := 42 } : Room) s m args below meth c s.heap [] 0 0 Q (F0 m 70 ls [.int x0]) := by
  have hx := C.1
  have hb := C.2.1
  unfold fX0_cellsToDry_70 at h
  refine lv_istore (lv' := [(4, .int x0), (3, .int l3)]) hx hb dX0_cellsToDry_70 hl (by decide) rfl (fun ls hl => ?_)
  refine lv_iload hx hb dX0_cellsToDry_72 (lv_at hl 0 rfl) ?_
  refine lv_if_eq (tgt := 83) hx hb dX0_cellsToDry_74 (by decide) (fun c12 => ?_) (fun c12 => ?_)
  · replace h := ite_t c12 h
    refine lv_bipush (v := 45) hx hb dX0_cellsToDry_83 (by decide) ?_
    exact hret _ _ _ _ dX0_cellsToDry_85 rfl (Option.some.inj h)
  · replace h := ite_f c12 h
    refine lv_iload_n hx hb dX0_cellsToDry_77 rfl (lv_at hl 1 rfl) ?_
    refine lv_iconst (v := 1) hx hb dX0_cellsToDry_78 (by decide) ?_
    refine lv_isub hx hb dX0_cellsToDry_79 ?_
    refine lv_goto (tgt := 85) hx hb dX0_cellsToDry_80 (by decide) ?_
    exact hret _ _ _ _ dX0_cellsToDry_85 rfl (Option.some.inj h)
set_option maxHeartbeats 4000000 in
set_option maxRecDepth 100000 in
theorem kX0_cellsToDry (l : Launch) (D : va_G) (T : Nat → ClassId) (a_g a_gw a_gk a_f : Nat) (f_net : Int32) (v_gk : Nat → Int32) (p0 : Int32) (r : Int32) (h : fX0_cellsToDry v_gk p0 = some r) : RdI l yX0_cellsToDry cX0_cellsToDry 5 .int ({ frames := 2, cells := 0, slots := 0, locals := 42 } : Room) D T [(a_g, .inr (1, [.ref a_gw, .ref a_gk])), (a_f, .inr (0, [.ref a_g, .int f_net])), (a_gk, .inl (T 0, 18, .inl v_gk))] [.ref a_f, .int p0] r := by
  unfold fX0_cellsToDry at h
  refine rdMet (by decide +kernel) rfl (fun p e s m args below meth c Q C hE hP hret ls hl => ?_)
  have hx := C.1
  have hb := C.2.1
  have hl : lv_has ls 5 [(0, .ref a_f), (1, .int p0)] := hl
  refine lv_aload_n hx hb dX0_cellsToDry_0 rfl (lv_at hl 0 rfl) ?_
  refine getF (q0 := 1) (k0 := 0) (v := .ref a_g) C hE hP inA0 rfl rfl (by decide) qFX0_15 rfl rfl dX0_cellsToDry_1 ?_
  refine lv_iconst (v := 5) hx hb dX0_cellsToDry_4 (by decide) ?_
  replace h := bnd h; obtain ⟨q1, e2, h⟩ := h
  refine rdV C hE hP (kX1_count l D T a_g a_gw a_gk v_gk 5 q1 e2) mX1_count qLX0_29 [0, 2] 0 rfl rfl rfl rfl ⟨rfl, rfl⟩ ⟨Nat.le_of_ble_eq_true rfl, Nat.le_of_ble_eq_true rfl⟩ rfl hl.1 rfl (Nat.le_of_ble_eq_true rfl) dX0_cellsToDry_5 ⟨Nat.le_of_ble_eq_true rfl, Nat.le_of_ble_eq_true rfl⟩ ?_
  refine lv_istore_n (lv' := [(2, .int q1), (0, .ref a_f), (1, .int p0)]) hx hb dX0_cellsToDry_8 rfl hl (by decide) rfl (fun ls hl => ?_)
  refine lv_iload_n hx hb dX0_cellsToDry_9 rfl (lv_at hl 2 rfl) ?_
  refine lv_iconst (v := 1) hx hb dX0_cellsToDry_10 (by decide) ?_
  refine lv_icmp_eq (tgt := 19) hx hb dX0_cellsToDry_11 (by decide) (fun c3 => ?_) (fun c3 => ?_)
  · replace h := ite_t c3 h
    exact lX0_cellsToDry_19 C hE hP hret q1 _ (lv_sub hl [1, 0] rfl) h
  · replace h := ite_f c3 h
    refine lv_iload_n hx hb dX0_cellsToDry_14 rfl (lv_at hl 2 rfl) ?_
    refine lv_iconst (v := 3) hx hb dX0_cellsToDry_15 (by decide) ?_
    refine lv_icmp_ne (tgt := 37) hx hb dX0_cellsToDry_16 (by decide) (fun c4 => ?_) (fun c4 => ?_)
    · replace h := ite_f c4 h
      refine lv_iload_n hx hb dX0_cellsToDry_37 rfl (lv_at hl 0 rfl) ?_
      refine lv_iload_n hx hb dX0_cellsToDry_38 rfl (lv_at hl 2 rfl) ?_
      refine rdSN C hE hP (kX7_cellsAhead l D T q1 p0) mX7_cellsAhead (by decide +kernel) [] rfl ⟨rfl, rfl⟩ ⟨Nat.le_of_ble_eq_true rfl, Nat.le_of_ble_eq_true rfl⟩ rfl hl.1 rfl (Nat.le_of_ble_eq_true rfl) dX0_cellsToDry_39 ⟨Nat.le_of_ble_eq_true rfl, Nat.le_of_ble_eq_true rfl⟩ ?_
      refine lv_istore_n (lv' := [(3, .int (fX7_cellsAhead q1 p0)), (2, .int q1), (0, .ref a_f), (1, .int p0)]) hx hb dX0_cellsToDry_42 rfl hl (by decide) rfl (fun ls hl => ?_)
      refine lv_iload_n hx hb dX0_cellsToDry_43 rfl (lv_at hl 0 rfl) ?_
      refine lv_if_le (tgt := 69) hx hb dX0_cellsToDry_44 (by decide) (fun c5 => ?_) (fun c5 => ?_)
      · replace h := ite_t c5 h
        refine lv_iconst (v := 0) hx hb dX0_cellsToDry_69 (by decide) ?_
        exact lX0_cellsToDry_70 C hE hP hret 0 (fX7_cellsAhead q1 p0) _ (lv_sub hl [0] rfl) h
      · replace h := ite_f c5 h
        refine lv_aload_n hx hb dX0_cellsToDry_47 rfl (lv_at hl 2 rfl) ?_
        refine getF (q0 := 1) (k0 := 0) (v := .ref a_g) C hE hP inA0 rfl rfl (by decide) qFX0_15 rfl rfl dX0_cellsToDry_48 ?_
        refine lv_iload_n hx hb dX0_cellsToDry_51 rfl (lv_at hl 1 rfl) ?_
        refine lv_iload_n hx hb dX0_cellsToDry_52 rfl (lv_at hl 0 rfl) ?_
        refine lv_iload_n hx hb dX0_cellsToDry_53 rfl (lv_at hl 3 rfl) ?_
        refine rdSN C hE hP (kX7_stride l D T p0) mX7_stride (by decide +kernel) [] rfl ⟨rfl, rfl⟩ ⟨Nat.le_of_ble_eq_true rfl, Nat.le_of_ble_eq_true rfl⟩ rfl hl.1 rfl (Nat.le_of_ble_eq_true rfl) dX0_cellsToDry_54 ⟨Nat.le_of_ble_eq_true rfl, Nat.le_of_ble_eq_true rfl⟩ ?_
        refine lv_imul hx hb dX0_cellsToDry_57 ?_
        refine lv_iadd hx hb dX0_cellsToDry_58 ?_
        replace h := bnd h; obtain ⟨q6, e7, h⟩ := h
        refine rdV C hE hP (kX1_isDryNow l D T a_g a_gw a_gk v_gk (q1 + ((fX7_cellsAhead q1 p0) * (fX7_stride p0))) q6 e7) mX1_isDryNow qLX0_50 [0, 2] 0 rfl rfl rfl rfl ⟨rfl, rfl⟩ ⟨Nat.le_of_ble_eq_true rfl, Nat.le_of_ble_eq_true rfl⟩ rfl hl.1 rfl (Nat.le_of_ble_eq_true rfl) dX0_cellsToDry_59 ⟨Nat.le_of_ble_eq_true rfl, Nat.le_of_ble_eq_true rfl⟩ ?_
        refine lv_if_eq (tgt := 69) hx hb dX0_cellsToDry_62 (by decide) (fun c8 => ?_) (fun c8 => ?_)
        · rw [if_pos c8] at h
          refine lv_iconst (v := 0) hx hb dX0_cellsToDry_69 (by decide) ?_
          exact lX0_cellsToDry_70 C hE hP hret 0 (fX7_cellsAhead q1 p0) _ (lv_sub hl [0] rfl) h
        · rw [if_neg c8] at h
          refine lv_iconst (v := 1) hx hb dX0_cellsToDry_65 (by decide) ?_
          refine lv_goto (tgt := 70) hx hb dX0_cellsToDry_66 (by decide) ?_
          exact lX0_cellsToDry_70 C hE hP hret 1 (fX7_cellsAhead q1 p0) _ (lv_sub hl [0] rfl) h
    · replace h := ite_t c4 h
      exact lX0_cellsToDry_19 C hE hP hret q1 _ (lv_sub hl [1, 0] rfl) h

def fX0_endByStops_82 (v_gw : Nat → Int32) (v_gk : Nat → Int32) (l2 : Int32) (l3 : Int32) (l4 : Int32) (l6 : Int32) : Option Int32 :=
  some (l4 + ((if l6 < l3 then l6 else l3) * (fX7_stride l2)))
def fX0_endByStops (v_gw : Nat → Int32) (v_gk : Nat → Int32) (p0 : Int32) (p1 : Int32) (p2 : Int32) : Option Int32 :=
  (fX1_count v_gk 5).bind fun q1 =>
  (fX0_cellsToWhale v_gw v_gk p0 p1).bind fun q3 =>
  (fX0_cellsToDry v_gk p1).bind fun q5 =>
  if p2 ≤ (fX7_cellsAhead q1 p1) then
    fX0_endByStops_82 v_gw v_gk p1 p2 q1 (if (if q5 < q3 then q5 else q3) < (fX7_cellsAhead q1 p1) then (if q5 < q3 then q5 else q3) else (fX7_cellsAhead q1 p1))
  else
    if (if (if q5 < q3 then q5 else q3) < (fX7_cellsAhead q1 p1) then (if q5 < q3 then q5 else q3) else (fX7_cellsAhead q1 p1)) = (fX7_cellsAhead q1 p1) then
      if (fX7_isGoalEnd q1 p1) = 0 then
        fX0_endByStops_82 v_gw v_gk p1 p2 q1 (if (if q5 < q3 then q5 else q3) < (fX7_cellsAhead q1 p1) then (if q5 < q3 then q5 else q3) else (fX7_cellsAhead q1 p1))
      else
        (fX1_isFoulBy v_gw v_gk p0).bind fun q10 =>
        if q10 = 0 then
          some (fX7_goalAt p1)
        else
          some 22
    else
      fX0_endByStops_82 v_gw v_gk p1 p2 q1 (if (if q5 < q3 then q5 else q3) < (fX7_cellsAhead q1 p1) then (if q5 < q3 then q5 else q3) else (fX7_cellsAhead q1 p1))
set_option maxHeartbeats 4000000 in
set_option maxRecDepth 100000 in
theorem lX0_endByStops_82 {p : Program} {l : Launch} {e : Env} {s : State} {m : MethodId} {args : Array Value} {below : List Frame} {meth : Method} {c : Code} {Q : State → Prop} {D : va_G} {T : Nat → ClassId} {a_g a_gw a_gk a_f : Nat} {f_net : Int32} {v_gw : Nat → Int32} {v_gk : Nat → Int32} {r : Int32} (C : CallFix p m c cX0_endByStops 7 s args aw RX0) (hE : eK D T s) (hP : va_P D kC [(a_g, .inr (1, [.ref a_gw, .ref a_gk])), (a_f, .inr (0, [.ref a_g, .int f_net])), (a_gw, .inl (T 0, 90, .inl v_gw)), (a_gk, .inl (T 0, 18, .inl v_gk))] s.heap) (hret : RdRet p l e ({ frames := 4, cells := 0, slots := 0, locals := 89 } : Room) s m args below meth c Q cX0_endByStops .int r) (l2 : Int32) (l3 : Int32) (l4 : Int32) (l6 : Int32) (ls : Array Slot) (hl : lv_has ls 7 [(2, .int l2), (3, .int l3), (4, .int l4), (6, .int l6)]) (h : fX0_endByStops_82 v_gw v_gk l2 l3 l4 l6 = some r) : W p l e ({ frames := 4, cells := 0, slots := 0, locals := 89 } : Room) s m args below meth c s.heap [] 0 0 Q (F0 m 82 ls []) := by
  have hx := C.1
  have hb := C.2.1
  unfold fX0_endByStops_82 at h
  refine lv_iload hx hb dX0_endByStops_82 (lv_at hl 2 rfl) ?_
  refine lv_iload_n hx hb dX0_endByStops_84 rfl (lv_at hl 1 rfl) ?_
  refine lv_iload hx hb dX0_endByStops_85 (lv_at hl 3 rfl) ?_
  refine va_mmin hx hb (C.2.2.1.trans hl.1.symm) C.2.2.2.1 (C.2.2.2.2 _ qLX0_62) (C.2.2.2.2 _ qMs_min) (C.2.2.2.2 _ qMi) (C.2.2.2.2 _ qMc_min) (Nat.le_of_ble_eq_true rfl) (Nat.le_of_ble_eq_true rfl) (Nat.le_of_ble_eq_true rfl) (Nat.le_of_ble_eq_true rfl) dX0_endByStops_87 ?_
  refine lv_iload_n hx hb dX0_endByStops_90 rfl (lv_at hl 0 rfl) ?_
  refine rdSN C hE hP (kX7_stride l D T l2) mX7_stride (by decide +kernel) [] rfl ⟨rfl, rfl⟩ ⟨Nat.le_of_ble_eq_true rfl, Nat.le_of_ble_eq_true rfl⟩ rfl hl.1 rfl (Nat.le_of_ble_eq_true rfl) dX0_endByStops_91 ⟨Nat.le_of_ble_eq_true rfl, Nat.le_of_ble_eq_true rfl⟩ ?_
  refine lv_imul hx hb dX0_endByStops_94 ?_
  refine lv_iadd hx hb dX0_endByStops_95 ?_
  exact hret _ _ _ _ dX0_endByStops_96 rfl (Option.some.inj h)
set_option maxHeartbeats 4000000 in
set_option maxRecDepth 100000 in
theorem kX0_endByStops (l : Launch) (D : va_G) (T : Nat → ClassId) (a_g a_gw a_gk a_f : Nat) (f_net : Int32) (v_gw : Nat → Int32) (v_gk : Nat → Int32) (p0 : Int32) (p1 : Int32) (p2 : Int32) (r : Int32) (h : fX0_endByStops v_gw v_gk p0 p1 p2 = some r) : RdI l yX0_endByStops cX0_endByStops 7 .int ({ frames := 4, cells := 0, slots := 0, locals := 89 } : Room) D T [(a_g, .inr (1, [.ref a_gw, .ref a_gk])), (a_f, .inr (0, [.ref a_g, .int f_net])), (a_gw, .inl (T 0, 90, .inl v_gw)), (a_gk, .inl (T 0, 18, .inl v_gk))] [.ref a_f, .int p0, .int p1, .int p2] r := by
  unfold fX0_endByStops at h
  refine rdMet (by decide +kernel) rfl (fun p e s m args below meth c Q C hE hP hret ls hl => ?_)
  have hx := C.1
  have hb := C.2.1
  have hl : lv_has ls 7 [(0, .ref a_f), (1, .int p0), (2, .int p1), (3, .int p2)] := hl
  refine lv_aload_n hx hb dX0_endByStops_0 rfl (lv_at hl 0 rfl) ?_
  refine getF (q0 := 1) (k0 := 0) (v := .ref a_g) C hE hP inA0 rfl rfl (by decide) qFX0_15 rfl rfl dX0_endByStops_1 ?_
  refine lv_iconst (v := 5) hx hb dX0_endByStops_4 (by decide) ?_
  replace h := bnd h; obtain ⟨q1, e2, h⟩ := h
  refine rdV C hE hP (kX1_count l D T a_g a_gw a_gk v_gk 5 q1 e2) mX1_count qLX0_29 [0, 3] 0 rfl rfl rfl rfl ⟨rfl, rfl⟩ ⟨Nat.le_of_ble_eq_true rfl, Nat.le_of_ble_eq_true rfl⟩ rfl hl.1 rfl (Nat.le_of_ble_eq_true rfl) dX0_endByStops_5 ⟨Nat.le_of_ble_eq_true rfl, Nat.le_of_ble_eq_true rfl⟩ ?_
  refine lv_istore (lv' := [(4, .int q1), (0, .ref a_f), (1, .int p0), (2, .int p1), (3, .int p2)]) hx hb dX0_endByStops_8 hl (by decide) rfl (fun ls hl => ?_)
  refine lv_iload hx hb dX0_endByStops_10 (lv_at hl 0 rfl) ?_
  refine lv_iload_n hx hb dX0_endByStops_12 rfl (lv_at hl 3 rfl) ?_
  refine rdSN C hE hP (kX7_cellsAhead l D T q1 p1) mX7_cellsAhead (by decide +kernel) [] rfl ⟨rfl, rfl⟩ ⟨Nat.le_of_ble_eq_true rfl, Nat.le_of_ble_eq_true rfl⟩ rfl hl.1 rfl (Nat.le_of_ble_eq_true rfl) dX0_endByStops_13 ⟨Nat.le_of_ble_eq_true rfl, Nat.le_of_ble_eq_true rfl⟩ ?_
  refine lv_istore (lv' := [(5, .int (fX7_cellsAhead q1 p1)), (4, .int q1), (0, .ref a_f), (1, .int p0), (2, .int p1), (3, .int p2)]) hx hb dX0_endByStops_16 hl (by decide) rfl (fun ls hl => ?_)
  refine lv_iload hx hb dX0_endByStops_18 (lv_at hl 0 rfl) ?_
  refine lv_aload_n hx hb dX0_endByStops_20 rfl (lv_at hl 2 rfl) ?_
  refine lv_iload_n hx hb dX0_endByStops_21 rfl (lv_at hl 3 rfl) ?_
  refine lv_iload_n hx hb dX0_endByStops_22 rfl (lv_at hl 4 rfl) ?_
  replace h := bnd h; obtain ⟨q3, e4, h⟩ := h
  refine rdV C hE hP (kX0_cellsToWhale l D T a_g a_gw a_gk a_f f_net v_gw v_gk p0 p1 q3 e4) mX0_cellsToWhale qLX0_56 [0, 1, 2, 3] 1 rfl rfl rfl rfl ⟨rfl, rfl⟩ ⟨Nat.le_of_ble_eq_true rfl, Nat.le_of_ble_eq_true rfl⟩ rfl hl.1 rfl (Nat.le_of_ble_eq_true rfl) dX0_endByStops_23 ⟨Nat.le_of_ble_eq_true rfl, Nat.le_of_ble_eq_true rfl⟩ ?_
  refine lv_aload_n hx hb dX0_endByStops_26 rfl (lv_at hl 2 rfl) ?_
  refine lv_iload_n hx hb dX0_endByStops_27 rfl (lv_at hl 4 rfl) ?_
  replace h := bnd h; obtain ⟨q5, e6, h⟩ := h
  refine rdV C hE hP (kX0_cellsToDry l D T a_g a_gw a_gk a_f f_net v_gk p1 q5 e6) mX0_cellsToDry qLX0_59 [0, 1, 3] 1 rfl rfl rfl rfl ⟨rfl, rfl⟩ ⟨Nat.le_of_ble_eq_true rfl, Nat.le_of_ble_eq_true rfl⟩ rfl hl.1 rfl (Nat.le_of_ble_eq_true rfl) dX0_endByStops_28 ⟨Nat.le_of_ble_eq_true rfl, Nat.le_of_ble_eq_true rfl⟩ ?_
  refine va_mmin hx hb (C.2.2.1.trans hl.1.symm) C.2.2.2.1 (C.2.2.2.2 _ qLX0_62) (C.2.2.2.2 _ qMs_min) (C.2.2.2.2 _ qMi) (C.2.2.2.2 _ qMc_min) (Nat.le_of_ble_eq_true rfl) (Nat.le_of_ble_eq_true rfl) (Nat.le_of_ble_eq_true rfl) (Nat.le_of_ble_eq_true rfl) dX0_endByStops_31 ?_
  refine va_mmin hx hb (C.2.2.1.trans hl.1.symm) C.2.2.2.1 (C.2.2.2.2 _ qLX0_62) (C.2.2.2.2 _ qMs_min) (C.2.2.2.2 _ qMi) (C.2.2.2.2 _ qMc_min) (Nat.le_of_ble_eq_true rfl) (Nat.le_of_ble_eq_true rfl) (Nat.le_of_ble_eq_true rfl) (Nat.le_of_ble_eq_true rfl) dX0_endByStops_34 ?_
  refine lv_istore (lv' := [(6, .int (if (if q5 < q3 then q5 else q3) < (fX7_cellsAhead q1 p1) then (if q5 < q3 then q5 else q3) else (fX7_cellsAhead q1 p1))), (5, .int (fX7_cellsAhead q1 p1)), (4, .int q1), (0, .ref a_f), (1, .int p0), (2, .int p1), (3, .int p2)]) hx hb dX0_endByStops_37 hl (by decide) rfl (fun ls hl => ?_)
  refine lv_iload_n hx hb dX0_endByStops_39 rfl (lv_at hl 6 rfl) ?_
  refine lv_iload hx hb dX0_endByStops_40 (lv_at hl 1 rfl) ?_
  refine lv_icmp_le (tgt := 82) hx hb dX0_endByStops_42 (by decide) (fun c7 => ?_) (fun c7 => ?_)
  · replace h := ite_t c7 h
    exact lX0_endByStops_82 C hE hP hret p1 p2 q1 (if (if q5 < q3 then q5 else q3) < (fX7_cellsAhead q1 p1) then (if q5 < q3 then q5 else q3) else (fX7_cellsAhead q1 p1)) _ (lv_sub hl [5, 6, 2, 0] rfl) h
  · replace h := ite_f c7 h
    refine lv_iload hx hb dX0_endByStops_45 (lv_at hl 0 rfl) ?_
    refine lv_iload hx hb dX0_endByStops_47 (lv_at hl 1 rfl) ?_
    refine lv_icmp_ne (tgt := 82) hx hb dX0_endByStops_49 (by decide) (fun c8 => ?_) (fun c8 => ?_)
    · replace h := ite_f c8 h
      exact lX0_endByStops_82 C hE hP hret p1 p2 q1 (if (if q5 < q3 then q5 else q3) < (fX7_cellsAhead q1 p1) then (if q5 < q3 then q5 else q3) else (fX7_cellsAhead q1 p1)) _ (lv_sub hl [5, 6, 2, 0] rfl) h
    · replace h := ite_t c8 h
      refine lv_iload hx hb dX0_endByStops_52 (lv_at hl 2 rfl) ?_
      refine lv_iload_n hx hb dX0_endByStops_54 rfl (lv_at hl 5 rfl) ?_
      refine rdSN C hE hP (kX7_isGoalEnd l D T q1 p1) mX7_isGoalEnd (by decide +kernel) [] rfl ⟨rfl, rfl⟩ ⟨Nat.le_of_ble_eq_true rfl, Nat.le_of_ble_eq_true rfl⟩ rfl hl.1 rfl (Nat.le_of_ble_eq_true rfl) dX0_endByStops_55 ⟨Nat.le_of_ble_eq_true rfl, Nat.le_of_ble_eq_true rfl⟩ ?_
      refine lv_if_eq (tgt := 82) hx hb dX0_endByStops_58 (by decide) (fun c9 => ?_) (fun c9 => ?_)
      · replace h := ite_t c9 h
        exact lX0_endByStops_82 C hE hP hret p1 p2 q1 (if (if q5 < q3 then q5 else q3) < (fX7_cellsAhead q1 p1) then (if q5 < q3 then q5 else q3) else (fX7_cellsAhead q1 p1)) _ (lv_sub hl [5, 6, 2, 0] rfl) h
      · replace h := ite_f c9 h
        refine lv_aload_n hx hb dX0_endByStops_61 rfl (lv_at hl 3 rfl) ?_
        refine getF (q0 := 1) (k0 := 0) (v := .ref a_g) C hE hP inA0 rfl rfl (by decide) qFX0_15 rfl rfl dX0_endByStops_62 ?_
        refine lv_iload_n hx hb dX0_endByStops_65 rfl (lv_at hl 4 rfl) ?_
        replace h := bnd h; obtain ⟨q10, e11, h⟩ := h
        refine rdV C hE hP (kX1_isFoulBy l D T a_g a_gw a_gk v_gw v_gk p0 q10 e11) mX1_isFoulBy qLX0_23 [0, 2, 3] 0 rfl rfl rfl rfl ⟨rfl, rfl⟩ ⟨Nat.le_of_ble_eq_true rfl, Nat.le_of_ble_eq_true rfl⟩ rfl hl.1 rfl (Nat.le_of_ble_eq_true rfl) dX0_endByStops_66 ⟨Nat.le_of_ble_eq_true rfl, Nat.le_of_ble_eq_true rfl⟩ ?_
        refine lv_if_eq (tgt := 77) hx hb dX0_endByStops_69 (by decide) (fun c12 => ?_) (fun c12 => ?_)
        · replace h := ite_t c12 h
          refine lv_iload_n hx hb dX0_endByStops_77 rfl (lv_at hl 5 rfl) ?_
          refine rdSN C hE hP (kX7_goalAt l D T p1) mX7_goalAt (by decide +kernel) [] rfl ⟨rfl, rfl⟩ ⟨Nat.le_of_ble_eq_true rfl, Nat.le_of_ble_eq_true rfl⟩ rfl hl.1 rfl (Nat.le_of_ble_eq_true rfl) dX0_endByStops_78 ⟨Nat.le_of_ble_eq_true rfl, Nat.le_of_ble_eq_true rfl⟩ ?_
          exact hret _ _ _ _ dX0_endByStops_81 rfl (Option.some.inj h)
        · replace h := ite_f c12 h
          refine lv_bipush (v := 22) hx hb dX0_endByStops_72 (by decide) ?_
          refine lv_goto (tgt := 81) hx hb dX0_endByStops_74 (by decide) ?_
          exact hret _ _ _ _ dX0_endByStops_81 rfl (Option.some.inj h)

def fX1_copyFrom (v_gw : Nat → Int32) (v_gk : Nat → Int32) (v_ow : Nat → Int32) (v_ok : Nat → Int32) : Option ((Nat → Int32) × (Nat → Int32)) :=
  some ((va_cpy v_ow v_gw 0 0 90), (va_cpy v_ok v_gk 0 0 18))
set_option maxHeartbeats 4000000 in
set_option maxRecDepth 100000 in
theorem kX1_copyFrom (l : Launch) (D : va_G) (T : Nat → ClassId) (a_g a_gw a_gk a_o a_ow a_ok : Nat) (v_gw : Nat → Int32) (v_gk : Nat → Int32) (v_ow : Nat → Int32) (v_ok : Nat → Int32) (sz : Nat) (r : (Nat → Int32) × (Nat → Int32)) (h : fX1_copyFrom v_gw v_gk v_ow v_ok = some r) : WrV l yX1_copyFrom cX1_copyFrom 2 ({ frames := 1, cells := 0, slots := 0, locals := 100 } : Room) D T sz [(a_g, .inr (1, [.ref a_gw, .ref a_gk])), (a_o, .inr (1, [.ref a_ow, .ref a_ok])), (a_gw, .inl (T 0, 90, .inl v_gw)), (a_gk, .inl (T 0, 18, .inl v_gk)), (a_ow, .inl (T 0, 90, .inl v_ow)), (a_ok, .inl (T 0, 18, .inl v_ok))] [(a_g, .inr (1, [.ref a_gw, .ref a_gk])), (a_o, .inr (1, [.ref a_ow, .ref a_ok])), (a_gw, .inl (T 0, 90, .inl r.1)), (a_gk, .inl (T 0, 18, .inl r.2)), (a_ow, .inl (T 0, 90, .inl v_ow)), (a_ok, .inl (T 0, 18, .inl v_ok))] [.ref a_g, .ref a_o] := by
  unfold fX1_copyFrom at h
  refine wrMetV (by decide +kernel) rfl (fun p e s m args below meth c Q A C hE hA hP hD hS hret ls hl => ?_)
  have hx := C.1
  have hb := C.2.1
  have hl : lv_has ls 2 [(0, .ref a_g), (1, .ref a_o)] := hl
  refine lv_aload_n hx hb dX1_copyFrom_0 rfl (lv_at hl 1 rfl) ?_
  refine lv_ifnull hx hb dX1_copyFrom_1 ?_
  refine lv_aload_n hx hb dX1_copyFrom_4 rfl (lv_at hl 1 rfl) ?_
  refine getF (q0 := 1) (k0 := 0) (v := .ref a_ow) C hE hP inA1 rfl rfl (by decide) qFX1_9 rfl rfl dX1_copyFrom_5 ?_
  refine lv_iconst (v := 0) hx hb dX1_copyFrom_8 (by decide) ?_
  refine lv_aload_n hx hb dX1_copyFrom_9 rfl (lv_at hl 0 rfl) ?_
  refine getF (q0 := 0) (k0 := 0) (v := .ref a_gw) C hE hP inA1 rfl rfl (by decide) qFX1_9 rfl rfl dX1_copyFrom_10 ?_
  refine lv_iconst (v := 0) hx hb dX1_copyFrom_13 (by decide) ?_
  refine lv_aload_n hx hb dX1_copyFrom_14 rfl (lv_at hl 0 rfl) ?_
  refine getF (q0 := 0) (k0 := 0) (v := .ref a_gw) C hE hP inA1 rfl rfl (by decide) qFX1_9 rfl rfl dX1_copyFrom_15 ?_
  refine alen (q0 := 2) (t0 := 0) (v := 90) C hE hP rfl rfl (by decide) dX1_copyFrom_18 ?_
  refine cpyI (q0 := 4) (q1 := 2) (ws1 := [(a_g, .inr (1, [.ref a_gw, .ref a_gk])), (a_o, .inr (1, [.ref a_ow, .ref a_ok])), (a_gw, .inl (T 0, 90, .inl (va_cpy v_ow v_gw 0 0 90))), (a_gk, .inl (T 0, 18, .inl v_gk)), (a_ow, .inl (T 0, 90, .inl v_ow)), (a_ok, .inl (T 0, 18, .inl v_ok))]) C hE hP hD hS qLX1_22 rfl rfl (by decide) (by decide) (by decide) rfl (Nat.le_of_ble_eq_true rfl) (by decide +kernel) hl.1 dX1_copyFrom_19 ?_; clear hP hD hS; intro H locs hP hD hS
  refine lv_aload_n hx hb dX1_copyFrom_22 rfl (lv_at hl 1 rfl) ?_
  refine getF (q0 := 1) (k0 := 1) (v := .ref a_ok) C hE hP inA1 rfl rfl (by decide) qFX1_15 rfl rfl dX1_copyFrom_23 ?_
  refine lv_iconst (v := 0) hx hb dX1_copyFrom_26 (by decide) ?_
  refine lv_aload_n hx hb dX1_copyFrom_27 rfl (lv_at hl 0 rfl) ?_
  refine getF (q0 := 0) (k0 := 1) (v := .ref a_gk) C hE hP inA1 rfl rfl (by decide) qFX1_15 rfl rfl dX1_copyFrom_28 ?_
  refine lv_iconst (v := 0) hx hb dX1_copyFrom_31 (by decide) ?_
  refine lv_aload_n hx hb dX1_copyFrom_32 rfl (lv_at hl 0 rfl) ?_
  refine getF (q0 := 0) (k0 := 1) (v := .ref a_gk) C hE hP inA1 rfl rfl (by decide) qFX1_15 rfl rfl dX1_copyFrom_33 ?_
  refine alen (q0 := 3) (t0 := 0) (v := 18) C hE hP rfl rfl (by decide) dX1_copyFrom_36 ?_
  refine cpyI (q0 := 5) (q1 := 3) (ws1 := [(a_g, .inr (1, [.ref a_gw, .ref a_gk])), (a_o, .inr (1, [.ref a_ow, .ref a_ok])), (a_gw, .inl (T 0, 90, .inl (va_cpy v_ow v_gw 0 0 90))), (a_gk, .inl (T 0, 18, .inl (va_cpy v_ok v_gk 0 0 18))), (a_ow, .inl (T 0, 90, .inl v_ow)), (a_ok, .inl (T 0, 18, .inl v_ok))]) C hE hP hD hS qLX1_22 rfl rfl (by decide) (by decide) (by decide) rfl (Nat.le_of_ble_eq_true rfl) (by decide +kernel) hl.1 dX1_copyFrom_37 ?_; clear hP hD hS; intro H locs hP hD hS
  replace h := Option.some.inj h
  exact hret _ _ _ _ dX1_copyFrom_40 (by rw [← h]; exact hP) hS

def fX1_setCount (v_gk : Nat → Int32) (p0 : Int32) (p1 : Int32) : Option ((Nat → Int32)) :=
  if p0 < 0 then
    some v_gk
  else
    if 18 ≤ p0 then
      some v_gk
    else
      if vin p0 18 = true then
      some (upd v_gk p0.toNatClampNeg p1)
      else none
set_option maxHeartbeats 4000000 in
set_option maxRecDepth 100000 in
theorem kX1_setCount (l : Launch) (D : va_G) (T : Nat → ClassId) (a_g a_gw a_gk : Nat) (v_gk : Nat → Int32) (p0 : Int32) (p1 : Int32) (sz : Nat) (r : (Nat → Int32)) (h : fX1_setCount v_gk p0 p1 = some r) : WrV l yX1_setCount cX1_setCount 3 ({ frames := 0, cells := 0, slots := 0, locals := 0 } : Room) D T sz [(a_g, .inr (1, [.ref a_gw, .ref a_gk])), (a_gk, .inl (T 0, 18, .inl v_gk))] [(a_g, .inr (1, [.ref a_gw, .ref a_gk])), (a_gk, .inl (T 0, 18, .inl r))] [.ref a_g, .int p0, .int p1] := by
  unfold fX1_setCount at h
  refine wrMetV (by decide +kernel) rfl (fun p e s m args below meth c Q A C hE hA hP hD hS hret ls hl => ?_)
  have hx := C.1
  have hb := C.2.1
  have hl : lv_has ls 3 [(0, .ref a_g), (1, .int p0), (2, .int p1)] := hl
  refine lv_iload_n hx hb dX1_setCount_0 rfl (lv_at hl 1 rfl) ?_
  refine lv_if_lt (tgt := 20) hx hb dX1_setCount_1 (by decide) (fun c1 => ?_) (fun c1 => ?_)
  · replace h := ite_t c1 h
    replace h := Option.some.inj h
    exact hret _ _ _ _ dX1_setCount_20 (by rw [← h]; exact hP) hS
  · replace h := ite_f c1 h
    refine lv_iload_n hx hb dX1_setCount_4 rfl (lv_at hl 1 rfl) ?_
    refine lv_aload_n hx hb dX1_setCount_5 rfl (lv_at hl 0 rfl) ?_
    refine getF (q0 := 0) (k0 := 1) (v := .ref a_gk) C hE hP inA1 rfl rfl (by decide) qFX1_15 rfl rfl dX1_setCount_6 ?_
    refine alen (q0 := 1) (t0 := 0) (v := 18) C hE hP rfl rfl (by decide) dX1_setCount_9 ?_
    refine lv_icmp_ge (tgt := 20) hx hb dX1_setCount_10 (by decide) (fun c2 => ?_) (fun c2 => ?_)
    · replace h := ite_t c2 h
      replace h := Option.some.inj h
      exact hret _ _ _ _ dX1_setCount_20 (by rw [← h]; exact hP) hS
    · replace h := ite_f c2 h
      refine lv_aload_n hx hb dX1_setCount_13 rfl (lv_at hl 0 rfl) ?_
      refine getF (q0 := 0) (k0 := 1) (v := .ref a_gk) C hE hP inA1 rfl rfl (by decide) qFX1_15 rfl rfl dX1_setCount_14 ?_
      refine lv_iload_n hx hb dX1_setCount_17 rfl (lv_at hl 1 rfl) ?_
      refine lv_iload_n hx hb dX1_setCount_18 rfl (lv_at hl 2 rfl) ?_
      replace h := gd h; obtain ⟨g3, h⟩ := h
      refine astI (q0 := 1) (ws1 := [(a_g, .inr (1, [.ref a_gw, .ref a_gk])), (a_gk, .inl (T 0, 18, .inl (upd v_gk p0.toNatClampNeg p1)))]) C hE hP hD hS rfl g3 rfl dX1_setCount_19 ?_; clear hP hD hS; intro H locs hP hD hS
      replace h := Option.some.inj h
      exact hret _ _ _ _ dX1_setCount_20 (by rw [← h]; exact hP) hS

def fX1_addCount (v_gk : Nat → Int32) (p0 : Int32) (p1 : Int32) : Option ((Nat → Int32)) :=
  (fX1_count v_gk p0).bind fun q1 =>
  (fX1_setCount v_gk p0 (q1 + p1)).bind fun q3 =>
  some q3
set_option maxHeartbeats 4000000 in
set_option maxRecDepth 100000 in
theorem kX1_addCount (l : Launch) (D : va_G) (T : Nat → ClassId) (a_g a_gw a_gk : Nat) (v_gk : Nat → Int32) (p0 : Int32) (p1 : Int32) (sz : Nat) (r : (Nat → Int32)) (h : fX1_addCount v_gk p0 p1 = some r) : WrV l yX1_addCount cX1_addCount 3 ({ frames := 1, cells := 0, slots := 0, locals := 22 } : Room) D T sz [(a_g, .inr (1, [.ref a_gw, .ref a_gk])), (a_gk, .inl (T 0, 18, .inl v_gk))] [(a_g, .inr (1, [.ref a_gw, .ref a_gk])), (a_gk, .inl (T 0, 18, .inl r))] [.ref a_g, .int p0, .int p1] := by
  unfold fX1_addCount at h
  refine wrMetV (by decide +kernel) rfl (fun p e s m args below meth c Q A C hE hA hP hD hS hret ls hl => ?_)
  have hx := C.1
  have hb := C.2.1
  have hl : lv_has ls 3 [(0, .ref a_g), (1, .int p0), (2, .int p1)] := hl
  refine lv_aload_n hx hb dX1_addCount_0 rfl (lv_at hl 0 rfl) ?_
  refine lv_iload_n hx hb dX1_addCount_1 rfl (lv_at hl 1 rfl) ?_
  refine lv_aload_n hx hb dX1_addCount_2 rfl (lv_at hl 0 rfl) ?_
  refine lv_iload_n hx hb dX1_addCount_3 rfl (lv_at hl 1 rfl) ?_
  replace h := bnd h; obtain ⟨q1, e2, h⟩ := h
  refine rdV C hE hP (kX1_count l D T a_g a_gw a_gk v_gk p0 q1 e2) mX1_count qLX1_28 [0, 1] 0 rfl rfl rfl rfl ⟨rfl, rfl⟩ ⟨Nat.le_of_ble_eq_true rfl, Nat.le_of_ble_eq_true rfl⟩ rfl hl.1 rfl (Nat.le_of_ble_eq_true rfl) dX1_addCount_4 ⟨Nat.le_of_ble_eq_true rfl, Nat.le_of_ble_eq_true rfl⟩ ?_
  refine lv_iload_n hx hb dX1_addCount_7 rfl (lv_at hl 2 rfl) ?_
  refine lv_iadd hx hb dX1_addCount_8 ?_
  replace h := bnd h; obtain ⟨q3, e4, h⟩ := h
  refine wrVv (ws1 := [(a_g, .inr (1, [.ref a_gw, .ref a_gk])), (a_gk, .inl (T 0, 18, .inl q3))]) C hE hP hD hS hA (kX1_setCount l D T a_g a_gw a_gk v_gk p0 (q1 + p1) _ q3 e4) mX1_setCount qLX1_18 [0, 1] [] 0 rfl rfl rfl rfl rfl rfl rfl rfl rfl ⟨rfl, rfl⟩ ⟨Nat.le_of_ble_eq_true rfl, Nat.le_of_ble_eq_true rfl⟩ rfl hl.1 rfl (Nat.le_of_ble_eq_true rfl) dX1_addCount_9 ⟨Nat.le_of_ble_eq_true rfl, Nat.le_of_ble_eq_true rfl⟩ ?_; clear hP hD hS; intro H locs hP hD hS
  replace h := Option.some.inj h
  exact hret _ _ _ _ dX1_addCount_12 (by rw [← h]; exact hP) hS

def fX1_set (v_gw : Nat → Int32) (p0 : Int32) (p1 : Int32) (p2 : Int32) : Option ((Nat → Int32)) :=
  if ((p0 * 9) + p1) < 0 then
    some v_gw
  else
    if 90 ≤ ((p0 * 9) + p1) then
      some v_gw
    else
      if vin ((p0 * 9) + p1) 90 = true then
      some (upd v_gw ((p0 * 9) + p1).toNatClampNeg p2)
      else none
set_option maxHeartbeats 4000000 in
set_option maxRecDepth 100000 in
theorem kX1_set (l : Launch) (D : va_G) (T : Nat → ClassId) (a_g a_gw a_gk : Nat) (v_gw : Nat → Int32) (p0 : Int32) (p1 : Int32) (p2 : Int32) (sz : Nat) (r : (Nat → Int32)) (h : fX1_set v_gw p0 p1 p2 = some r) : WrV l yX1_set cX1_set 5 ({ frames := 0, cells := 0, slots := 0, locals := 0 } : Room) D T sz [(a_g, .inr (1, [.ref a_gw, .ref a_gk])), (a_gw, .inl (T 0, 90, .inl v_gw))] [(a_g, .inr (1, [.ref a_gw, .ref a_gk])), (a_gw, .inl (T 0, 90, .inl r))] [.ref a_g, .int p0, .int p1, .int p2] := by
  unfold fX1_set at h
  refine wrMetV (by decide +kernel) rfl (fun p e s m args below meth c Q A C hE hA hP hD hS hret ls hl => ?_)
  have hx := C.1
  have hb := C.2.1
  have hl : lv_has ls 5 [(0, .ref a_g), (1, .int p0), (2, .int p1), (3, .int p2)] := hl
  refine lv_iload_n hx hb dX1_set_0 rfl (lv_at hl 1 rfl) ?_
  refine lv_bipush (v := 9) hx hb dX1_set_1 (by decide) ?_
  refine lv_imul hx hb dX1_set_3 ?_
  refine lv_iload_n hx hb dX1_set_4 rfl (lv_at hl 2 rfl) ?_
  refine lv_iadd hx hb dX1_set_5 ?_
  refine lv_istore (lv' := [(4, .int ((p0 * 9) + p1)), (0, .ref a_g), (1, .int p0), (2, .int p1), (3, .int p2)]) hx hb dX1_set_6 hl (by decide) rfl (fun ls hl => ?_)
  refine lv_iload hx hb dX1_set_8 (lv_at hl 0 rfl) ?_
  refine lv_if_lt (tgt := 31) hx hb dX1_set_10 (by decide) (fun c1 => ?_) (fun c1 => ?_)
  · replace h := ite_t c1 h
    replace h := Option.some.inj h
    exact hret _ _ _ _ dX1_set_31 (by rw [← h]; exact hP) hS
  · replace h := ite_f c1 h
    refine lv_iload hx hb dX1_set_13 (lv_at hl 0 rfl) ?_
    refine lv_aload_n hx hb dX1_set_15 rfl (lv_at hl 1 rfl) ?_
    refine getF (q0 := 0) (k0 := 0) (v := .ref a_gw) C hE hP inA1 rfl rfl (by decide) qFX1_9 rfl rfl dX1_set_16 ?_
    refine alen (q0 := 1) (t0 := 0) (v := 90) C hE hP rfl rfl (by decide) dX1_set_19 ?_
    refine lv_icmp_ge (tgt := 31) hx hb dX1_set_20 (by decide) (fun c2 => ?_) (fun c2 => ?_)
    · replace h := ite_t c2 h
      replace h := Option.some.inj h
      exact hret _ _ _ _ dX1_set_31 (by rw [← h]; exact hP) hS
    · replace h := ite_f c2 h
      refine lv_aload_n hx hb dX1_set_23 rfl (lv_at hl 1 rfl) ?_
      refine getF (q0 := 0) (k0 := 0) (v := .ref a_gw) C hE hP inA1 rfl rfl (by decide) qFX1_9 rfl rfl dX1_set_24 ?_
      refine lv_iload hx hb dX1_set_27 (lv_at hl 0 rfl) ?_
      refine lv_iload_n hx hb dX1_set_29 rfl (lv_at hl 4 rfl) ?_
      replace h := gd h; obtain ⟨g3, h⟩ := h
      refine astI (q0 := 1) (ws1 := [(a_g, .inr (1, [.ref a_gw, .ref a_gk])), (a_gw, .inl (T 0, 90, .inl (upd v_gw ((p0 * 9) + p1).toNatClampNeg p2)))]) C hE hP hD hS rfl g3 rfl dX1_set_30 ?_; clear hP hD hS; intro H locs hP hD hS
      replace h := Option.some.inj h
      exact hret _ _ _ _ dX1_set_31 (by rw [← h]; exact hP) hS

def fX1_add (v_gw : Nat → Int32) (p0 : Int32) (p1 : Int32) (p2 : Int32) : Option ((Nat → Int32)) :=
  (fX1_of v_gw p0 p1).bind fun q1 =>
  (fX1_set v_gw p0 p1 (q1 + p2)).bind fun q3 =>
  some q3
set_option maxHeartbeats 4000000 in
set_option maxRecDepth 100000 in
theorem kX1_add (l : Launch) (D : va_G) (T : Nat → ClassId) (a_g a_gw a_gk : Nat) (v_gw : Nat → Int32) (p0 : Int32) (p1 : Int32) (p2 : Int32) (sz : Nat) (r : (Nat → Int32)) (h : fX1_add v_gw p0 p1 p2 = some r) : WrV l yX1_add cX1_add 4 ({ frames := 1, cells := 0, slots := 0, locals := 24 } : Room) D T sz [(a_g, .inr (1, [.ref a_gw, .ref a_gk])), (a_gw, .inl (T 0, 90, .inl v_gw))] [(a_g, .inr (1, [.ref a_gw, .ref a_gk])), (a_gw, .inl (T 0, 90, .inl r))] [.ref a_g, .int p0, .int p1, .int p2] := by
  unfold fX1_add at h
  refine wrMetV (by decide +kernel) rfl (fun p e s m args below meth c Q A C hE hA hP hD hS hret ls hl => ?_)
  have hx := C.1
  have hb := C.2.1
  have hl : lv_has ls 4 [(0, .ref a_g), (1, .int p0), (2, .int p1), (3, .int p2)] := hl
  refine lv_aload_n hx hb dX1_add_0 rfl (lv_at hl 0 rfl) ?_
  refine lv_iload_n hx hb dX1_add_1 rfl (lv_at hl 1 rfl) ?_
  refine lv_iload_n hx hb dX1_add_2 rfl (lv_at hl 2 rfl) ?_
  refine lv_aload_n hx hb dX1_add_3 rfl (lv_at hl 0 rfl) ?_
  refine lv_iload_n hx hb dX1_add_4 rfl (lv_at hl 1 rfl) ?_
  refine lv_iload_n hx hb dX1_add_5 rfl (lv_at hl 2 rfl) ?_
  replace h := bnd h; obtain ⟨q1, e2, h⟩ := h
  refine rdV C hE hP (kX1_of l D T a_g a_gw a_gk v_gw p0 p1 q1 e2) mX1_of qLX1_32 [0, 1] 0 rfl rfl rfl rfl ⟨rfl, rfl⟩ ⟨Nat.le_of_ble_eq_true rfl, Nat.le_of_ble_eq_true rfl⟩ rfl hl.1 rfl (Nat.le_of_ble_eq_true rfl) dX1_add_6 ⟨Nat.le_of_ble_eq_true rfl, Nat.le_of_ble_eq_true rfl⟩ ?_
  refine lv_iload_n hx hb dX1_add_9 rfl (lv_at hl 3 rfl) ?_
  refine lv_iadd hx hb dX1_add_10 ?_
  replace h := bnd h; obtain ⟨q3, e4, h⟩ := h
  refine wrVv (ws1 := [(a_g, .inr (1, [.ref a_gw, .ref a_gk])), (a_gw, .inl (T 0, 90, .inl q3))]) C hE hP hD hS hA (kX1_set l D T a_g a_gw a_gk v_gw p0 p1 (q1 + p2) _ q3 e4) mX1_set qLX1_36 [0, 1] [] 0 rfl rfl rfl rfl rfl rfl rfl rfl rfl ⟨rfl, rfl⟩ ⟨Nat.le_of_ble_eq_true rfl, Nat.le_of_ble_eq_true rfl⟩ rfl hl.1 rfl (Nat.le_of_ble_eq_true rfl) dX1_add_11 ⟨Nat.le_of_ble_eq_true rfl, Nat.le_of_ble_eq_true rfl⟩ ?_; clear hP hD hS; intro H locs hP hD hS
  replace h := Option.some.inj h
  exact hret _ _ _ _ dX1_add_14 (by rw [← h]; exact hP) hS

def fX1_has (v_gk : Nat → Int32) (p0 : Int32) : Option Int32 :=
  if p0 < 0 then
    some 0
  else
    (fX1_count v_gk 0).bind fun q2 =>
    if q2 ≤ p0 then
      some 0
    else
      some 1
set_option maxHeartbeats 4000000 in
set_option maxRecDepth 100000 in
theorem kX1_has (l : Launch) (D : va_G) (T : Nat → ClassId) (a_g a_gw a_gk : Nat) (v_gk : Nat → Int32) (p0 : Int32) (r : Int32) (h : fX1_has v_gk p0 = some r) : RdI l yX1_has cX1_has 2 .boolean ({ frames := 1, cells := 0, slots := 0, locals := 21 } : Room) D T [(a_g, .inr (1, [.ref a_gw, .ref a_gk])), (a_gk, .inl (T 0, 18, .inl v_gk))] [.ref a_g, .int p0] r := by
  unfold fX1_has at h
  refine rdMet (by decide +kernel) rfl (fun p e s m args below meth c Q C hE hP hret ls hl => ?_)
  have hx := C.1
  have hb := C.2.1
  have hl : lv_has ls 2 [(0, .ref a_g), (1, .int p0)] := hl
  refine lv_iload_n hx hb dX1_has_0 rfl (lv_at hl 1 rfl) ?_
  refine lv_if_lt (tgt := 17) hx hb dX1_has_1 (by decide) (fun c1 => ?_) (fun c1 => ?_)
  · replace h := ite_t c1 h
    refine lv_iconst (v := 0) hx hb dX1_has_17 (by decide) ?_
    exact hret _ _ _ _ dX1_has_18 rfl (Option.some.inj h)
  · replace h := ite_f c1 h
    refine lv_iload_n hx hb dX1_has_4 rfl (lv_at hl 1 rfl) ?_
    refine lv_aload_n hx hb dX1_has_5 rfl (lv_at hl 0 rfl) ?_
    refine lv_iconst (v := 0) hx hb dX1_has_6 (by decide) ?_
    replace h := bnd h; obtain ⟨q2, e3, h⟩ := h
    refine rdV C hE hP (kX1_count l D T a_g a_gw a_gk v_gk 0 q2 e3) mX1_count qLX1_28 [0, 1] 0 rfl rfl rfl rfl ⟨rfl, rfl⟩ ⟨Nat.le_of_ble_eq_true rfl, Nat.le_of_ble_eq_true rfl⟩ rfl hl.1 rfl (Nat.le_of_ble_eq_true rfl) dX1_has_7 ⟨Nat.le_of_ble_eq_true rfl, Nat.le_of_ble_eq_true rfl⟩ ?_
    refine lv_icmp_ge (tgt := 17) hx hb dX1_has_10 (by decide) (fun c4 => ?_) (fun c4 => ?_)
    · replace h := ite_t c4 h
      refine lv_iconst (v := 0) hx hb dX1_has_17 (by decide) ?_
      exact hret _ _ _ _ dX1_has_18 rfl (Option.some.inj h)
    · replace h := ite_f c4 h
      refine lv_iconst (v := 1) hx hb dX1_has_13 (by decide) ?_
      refine lv_goto (tgt := 18) hx hb dX1_has_14 (by decide) ?_
      exact hret _ _ _ _ dX1_has_18 rfl (Option.some.inj h)

def fX1_isOver (v_gk : Nat → Int32) : Option Int32 :=
  (fX1_count v_gk 1).bind fun q1 =>
  if q1 < 48 then
    some 0
  else
    some 1
set_option maxHeartbeats 4000000 in
set_option maxRecDepth 100000 in
theorem kX1_isOver (l : Launch) (D : va_G) (T : Nat → ClassId) (a_g a_gw a_gk : Nat) (v_gk : Nat → Int32) (r : Int32) (h : fX1_isOver v_gk = some r) : RdI l yX1_isOver cX1_isOver 1 .boolean ({ frames := 1, cells := 0, slots := 0, locals := 21 } : Room) D T [(a_g, .inr (1, [.ref a_gw, .ref a_gk])), (a_gk, .inl (T 0, 18, .inl v_gk))] [.ref a_g] r := by
  unfold fX1_isOver at h
  refine rdMet (by decide +kernel) rfl (fun p e s m args below meth c Q C hE hP hret ls hl => ?_)
  have hx := C.1
  have hb := C.2.1
  have hl : lv_has ls 1 [(0, .ref a_g)] := hl
  refine lv_aload_n hx hb dX1_isOver_0 rfl (lv_at hl 0 rfl) ?_
  refine lv_iconst (v := 1) hx hb dX1_isOver_1 (by decide) ?_
  replace h := bnd h; obtain ⟨q1, e2, h⟩ := h
  refine rdV C hE hP (kX1_count l D T a_g a_gw a_gk v_gk 1 q1 e2) mX1_count qLX1_28 [0, 1] 0 rfl rfl rfl rfl ⟨rfl, rfl⟩ ⟨Nat.le_of_ble_eq_true rfl, Nat.le_of_ble_eq_true rfl⟩ rfl hl.1 rfl (Nat.le_of_ble_eq_true rfl) dX1_isOver_2 ⟨Nat.le_of_ble_eq_true rfl, Nat.le_of_ble_eq_true rfl⟩ ?_
  refine lv_bipush (v := 48) hx hb dX1_isOver_5 (by decide) ?_
  refine lv_icmp_lt (tgt := 14) hx hb dX1_isOver_7 (by decide) (fun c3 => ?_) (fun c3 => ?_)
  · replace h := ite_t c3 h
    refine lv_iconst (v := 0) hx hb dX1_isOver_14 (by decide) ?_
    exact hret _ _ _ _ dX1_isOver_15 rfl (Option.some.inj h)
  · replace h := ite_f c3 h
    refine lv_iconst (v := 1) hx hb dX1_isOver_10 (by decide) ?_
    refine lv_goto (tgt := 15) hx hb dX1_isOver_11 (by decide) ?_
    exact hret _ _ _ _ dX1_isOver_15 rfl (Option.some.inj h)

def fX1_strokesToTurn_43 (v_gk : Nat → Int32) (rec22 : Int32 → Int32 → Int32 → Option Int32) (x0 : Int32) (l1 : Int32) (l2 : Int32) (l3 : Int32) : Option Int32 :=
  if x0 = l2 then
    rec22 l1 l2 (l3 + 1)
  else
    some l3
def fX1_strokesToTurn_22 (v_gk : Nat → Int32) : Nat → Int32 → Int32 → Int32 → Option Int32
  | 0, _, _, _ => none
  | k + 1, l1, l2, l3 =>
    if 16 ≤ l3 then
      some l3
    else
      fX1_strokesToTurn_43 v_gk (fX1_strokesToTurn_22 v_gk k) (if 2 < (fX7_tideByDividing (l1 + l3)) then 0 else 1) l1 l2 l3
def fX1_strokesToTurn_19 (v_gk : Nat → Int32) (x0 : Int32) (l1 : Int32) : Option Int32 :=
  fX1_strokesToTurn_22 v_gk 64 l1 x0 1
def fX1_strokesToTurn (v_gk : Nat → Int32) : Option Int32 :=
  (fX1_count v_gk 1).bind fun q1 =>
  fX1_strokesToTurn_19 v_gk (if 2 < (fX7_tideByDividing q1) then 0 else 1) q1
set_option maxHeartbeats 4000000 in
set_option maxRecDepth 100000 in
theorem lX1_strokesToTurn_43 {p : Program} {l : Launch} {e : Env} {s : State} {m : MethodId} {args : Array Value} {below : List Frame} {meth : Method} {c : Code} {Q : State → Prop} {D : va_G} {T : Nat → ClassId} {a_g a_gw a_gk : Nat} {v_gk : Nat → Int32} {r : Int32} (C : CallFix p m c cX1_strokesToTurn 4 s args aw RX1) (hE : eK D T s) (hP : va_P D kC [(a_g, .inr (1, [.ref a_gw, .ref a_gk])), (a_gk, .inl (T 0, 18, .inl v_gk))] s.heap) (hret : RdRet p l e ({ frames := 1, cells := 0, slots := 0, locals := 21 } : Room) s m args below meth c Q cX1_strokesToTurn .int r) {rec22 : Int32 → Int32 → Int32 → Option Int32} (hrec22 : ∀ (l1 : Int32) (l2 : Int32) (l3 : Int32) (ls : Array Slot) (hl : lv_has ls 4 [(1, .int l1), (2, .int l2), (3, .int l3)]) (h : rec22 l1 l2 l3 = some r), W p l e ({ frames := 1, cells := 0, slots := 0, locals := 21 } : Room) s m args below meth c s.heap [] 0 0 Q (F0 m 22 ls [])) (x0 : Int32) (l1 : Int32) (l2 : Int32) (l3 : Int32) (ls : Array Slot) (hl : lv_has ls 4 [(1, .int l1), (2, .int l2), (3, .int l3)]) (h : fX1_strokesToTurn_43 v_gk rec22 x0 l1 l2 l3 = some r) : W p l e ({ frames := 1, cells := 0, slots := 0, locals := 21 } : Room) s m args below meth c s.heap [] 0 0 Q (F0 m 43 ls [.int x0]) := by
  have hx := C.1
  have hb := C.2.1
  unfold fX1_strokesToTurn_43 at h
  refine lv_iload_n hx hb dX1_strokesToTurn_43 rfl (lv_at hl 1 rfl) ?_
  refine lv_icmp_ne (tgt := 53) hx hb dX1_strokesToTurn_44 (by decide) (fun c6 => ?_) (fun c6 => ?_)
  · replace h := ite_f c6 h
    refine lv_iload_n hx hb dX1_strokesToTurn_53 rfl (lv_at hl 2 rfl) ?_
    exact hret _ _ _ _ dX1_strokesToTurn_54 rfl (Option.some.inj h)
  · replace h := ite_t c6 h
    refine lv_iinc (v := (l3 + 1)) (lv' := [(3, .int (l3 + 1)), (1, .int l1), (2, .int l2)]) hx hb dX1_strokesToTurn_47 hl (k := 2) rfl rfl (by decide) rfl (fun ls hl => ?_)
    refine lv_goto (tgt := 22) hx hb dX1_strokesToTurn_50 (by decide) ?_
    exact hrec22 l1 l2 (l3 + 1) _ (lv_sub hl [1, 2, 0] rfl) h
set_option maxHeartbeats 4000000 in
set_option maxRecDepth 100000 in
theorem lX1_strokesToTurn_22 {p : Program} {l : Launch} {e : Env} {s : State} {m : MethodId} {args : Array Value} {below : List Frame} {meth : Method} {c : Code} {Q : State → Prop} {D : va_G} {T : Nat → ClassId} {a_g a_gw a_gk : Nat} {v_gk : Nat → Int32} {r : Int32} (C : CallFix p m c cX1_strokesToTurn 4 s args aw RX1) (hE : eK D T s) (hP : va_P D kC [(a_g, .inr (1, [.ref a_gw, .ref a_gk])), (a_gk, .inl (T 0, 18, .inl v_gk))] s.heap) (hret : RdRet p l e ({ frames := 1, cells := 0, slots := 0, locals := 21 } : Room) s m args below meth c Q cX1_strokesToTurn .int r) : ∀ (k : Nat) (l1 : Int32) (l2 : Int32) (l3 : Int32) (ls : Array Slot) (hl : lv_has ls 4 [(1, .int l1), (2, .int l2), (3, .int l3)]) (h : fX1_strokesToTurn_22 v_gk k l1 l2 l3 = some r), W p l e ({ frames := 1, cells := 0, slots := 0, locals := 21 } : Room) s m args below meth c s.heap [] 0 0 Q (F0 m 22 ls []) := by
  have hx := C.1
  have hb := C.2.1
  intro k
  induction k with
  | zero =>
    intro l1 l2 l3  ls hl h
    exact nomatch (show (none : Option Int32) = some r from h)
  | succ k ih =>
    intro l1 l2 l3  ls hl h
    rw [fX1_strokesToTurn_22] at h
    refine lv_iload_n hx hb dX1_strokesToTurn_22 rfl (lv_at hl 2 rfl) ?_
    refine lv_bipush (v := 16) hx hb dX1_strokesToTurn_23 (by decide) ?_
    refine lv_icmp_ge (tgt := 53) hx hb dX1_strokesToTurn_25 (by decide) (fun c4 => ?_) (fun c4 => ?_)
    · replace h := ite_t c4 h
      refine lv_iload_n hx hb dX1_strokesToTurn_53 rfl (lv_at hl 2 rfl) ?_
      exact hret _ _ _ _ dX1_strokesToTurn_54 rfl (Option.some.inj h)
    · replace h := ite_f c4 h
      refine lv_iload_n hx hb dX1_strokesToTurn_28 rfl (lv_at hl 0 rfl) ?_
      refine lv_iload_n hx hb dX1_strokesToTurn_29 rfl (lv_at hl 2 rfl) ?_
      refine lv_iadd hx hb dX1_strokesToTurn_30 ?_
      refine rdSN C hE hP (kX7_tideByDividing l D T (l1 + l3)) mX7_tideByDividing (by decide +kernel) [] rfl ⟨rfl, rfl⟩ ⟨Nat.le_of_ble_eq_true rfl, Nat.le_of_ble_eq_true rfl⟩ rfl hl.1 rfl (Nat.le_of_ble_eq_true rfl) dX1_strokesToTurn_31 ⟨Nat.le_of_ble_eq_true rfl, Nat.le_of_ble_eq_true rfl⟩ ?_
      refine lv_iconst (v := 2) hx hb dX1_strokesToTurn_34 (by decide) ?_
      refine lv_icmp_gt (tgt := 42) hx hb dX1_strokesToTurn_35 (by decide) (fun c5 => ?_) (fun c5 => ?_)
      · rw [if_pos c5] at h
        refine lv_iconst (v := 0) hx hb dX1_strokesToTurn_42 (by decide) ?_
        exact lX1_strokesToTurn_43 C hE hP hret ih 0 l1 l2 l3 _ (lv_sub hl [0, 1, 2] rfl) h
      · rw [if_neg c5] at h
        refine lv_iconst (v := 1) hx hb dX1_strokesToTurn_38 (by decide) ?_
        refine lv_goto (tgt := 43) hx hb dX1_strokesToTurn_39 (by decide) ?_
        exact lX1_strokesToTurn_43 C hE hP hret ih 1 l1 l2 l3 _ (lv_sub hl [0, 1, 2] rfl) h
set_option maxHeartbeats 4000000 in
set_option maxRecDepth 100000 in
theorem lX1_strokesToTurn_19 {p : Program} {l : Launch} {e : Env} {s : State} {m : MethodId} {args : Array Value} {below : List Frame} {meth : Method} {c : Code} {Q : State → Prop} {D : va_G} {T : Nat → ClassId} {a_g a_gw a_gk : Nat} {v_gk : Nat → Int32} {r : Int32} (C : CallFix p m c cX1_strokesToTurn 4 s args aw RX1) (hE : eK D T s) (hP : va_P D kC [(a_g, .inr (1, [.ref a_gw, .ref a_gk])), (a_gk, .inl (T 0, 18, .inl v_gk))] s.heap) (hret : RdRet p l e ({ frames := 1, cells := 0, slots := 0, locals := 21 } : Room) s m args below meth c Q cX1_strokesToTurn .int r) (x0 : Int32) (l1 : Int32) (ls : Array Slot) (hl : lv_has ls 4 [(1, .int l1)]) (h : fX1_strokesToTurn_19 v_gk x0 l1 = some r) : W p l e ({ frames := 1, cells := 0, slots := 0, locals := 21 } : Room) s m args below meth c s.heap [] 0 0 Q (F0 m 19 ls [.int x0]) := by
  have hx := C.1
  have hb := C.2.1
  unfold fX1_strokesToTurn_19 at h
  refine lv_istore_n (lv' := [(2, .int x0), (1, .int l1)]) hx hb dX1_strokesToTurn_19 rfl hl (by decide) rfl (fun ls hl => ?_)
  refine lv_iconst (v := 1) hx hb dX1_strokesToTurn_20 (by decide) ?_
  refine lv_istore_n (lv' := [(3, .int 1), (2, .int x0), (1, .int l1)]) hx hb dX1_strokesToTurn_21 rfl hl (by decide) rfl (fun ls hl => ?_)
  exact lX1_strokesToTurn_22 C hE hP hret 64 l1 x0 1 _ (lv_sub hl [2, 1, 0] rfl) h
set_option maxHeartbeats 4000000 in
set_option maxRecDepth 100000 in
theorem kX1_strokesToTurn (l : Launch) (D : va_G) (T : Nat → ClassId) (a_g a_gw a_gk : Nat) (v_gk : Nat → Int32) (r : Int32) (h : fX1_strokesToTurn v_gk = some r) : RdI l yX1_strokesToTurn cX1_strokesToTurn 4 .int ({ frames := 1, cells := 0, slots := 0, locals := 21 } : Room) D T [(a_g, .inr (1, [.ref a_gw, .ref a_gk])), (a_gk, .inl (T 0, 18, .inl v_gk))] [.ref a_g] r := by
  unfold fX1_strokesToTurn at h
  refine rdMet (by decide +kernel) rfl (fun p e s m args below meth c Q C hE hP hret ls hl => ?_)
  have hx := C.1
  have hb := C.2.1
  have hl : lv_has ls 4 [(0, .ref a_g)] := hl
  refine lv_aload_n hx hb dX1_strokesToTurn_0 rfl (lv_at hl 0 rfl) ?_
  refine lv_iconst (v := 1) hx hb dX1_strokesToTurn_1 (by decide) ?_
  replace h := bnd h; obtain ⟨q1, e2, h⟩ := h
  refine rdV C hE hP (kX1_count l D T a_g a_gw a_gk v_gk 1 q1 e2) mX1_count qLX1_28 [0, 1] 0 rfl rfl rfl rfl ⟨rfl, rfl⟩ ⟨Nat.le_of_ble_eq_true rfl, Nat.le_of_ble_eq_true rfl⟩ rfl hl.1 rfl (Nat.le_of_ble_eq_true rfl) dX1_strokesToTurn_2 ⟨Nat.le_of_ble_eq_true rfl, Nat.le_of_ble_eq_true rfl⟩ ?_
  refine lv_istore_n (lv' := [(1, .int q1), (0, .ref a_g)]) hx hb dX1_strokesToTurn_5 rfl hl (by decide) rfl (fun ls hl => ?_)
  refine lv_iload_n hx hb dX1_strokesToTurn_6 rfl (lv_at hl 0 rfl) ?_
  refine rdSN C hE hP (kX7_tideByDividing l D T q1) mX7_tideByDividing (by decide +kernel) [] rfl ⟨rfl, rfl⟩ ⟨Nat.le_of_ble_eq_true rfl, Nat.le_of_ble_eq_true rfl⟩ rfl hl.1 rfl (Nat.le_of_ble_eq_true rfl) dX1_strokesToTurn_7 ⟨Nat.le_of_ble_eq_true rfl, Nat.le_of_ble_eq_true rfl⟩ ?_
  refine lv_iconst (v := 2) hx hb dX1_strokesToTurn_10 (by decide) ?_
  refine lv_icmp_gt (tgt := 18) hx hb dX1_strokesToTurn_11 (by decide) (fun c3 => ?_) (fun c3 => ?_)
  · rw [if_pos c3] at h
    refine lv_iconst (v := 0) hx hb dX1_strokesToTurn_18 (by decide) ?_
    exact lX1_strokesToTurn_19 C hE hP hret 0 q1 _ (lv_sub hl [0] rfl) h
  · rw [if_neg c3] at h
    refine lv_iconst (v := 1) hx hb dX1_strokesToTurn_14 (by decide) ?_
    refine lv_goto (tgt := 19) hx hb dX1_strokesToTurn_15 (by decide) ?_
    exact lX1_strokesToTurn_19 C hE hP hret 1 q1 _ (lv_sub hl [0] rfl) h

def fX1_isStranded (v_gw : Nat → Int32) (v_gk : Nat → Int32) (p0 : Int32) : Option Int32 :=
  (fX1_of v_gw p0 4).bind fun q1 =>
  if q1 = (-1) then
    some 0
  else
    (fX1_isDryNow v_gk q1).bind fun q4 =>
    if q4 = 0 then
      some 0
    else
      some 1
set_option maxHeartbeats 4000000 in
set_option maxRecDepth 100000 in
theorem kX1_isStranded (l : Launch) (D : va_G) (T : Nat → ClassId) (a_g a_gw a_gk : Nat) (v_gw : Nat → Int32) (v_gk : Nat → Int32) (p0 : Int32) (r : Int32) (h : fX1_isStranded v_gw v_gk p0 = some r) : RdI l yX1_isStranded cX1_isStranded 3 .boolean ({ frames := 2, cells := 0, slots := 0, locals := 42 } : Room) D T [(a_g, .inr (1, [.ref a_gw, .ref a_gk])), (a_gw, .inl (T 0, 90, .inl v_gw)), (a_gk, .inl (T 0, 18, .inl v_gk))] [.ref a_g, .int p0] r := by
  unfold fX1_isStranded at h
  refine rdMet (by decide +kernel) rfl (fun p e s m args below meth c Q C hE hP hret ls hl => ?_)
  have hx := C.1
  have hb := C.2.1
  have hl : lv_has ls 3 [(0, .ref a_g), (1, .int p0)] := hl
  refine lv_aload_n hx hb dX1_isStranded_0 rfl (lv_at hl 0 rfl) ?_
  refine lv_iload_n hx hb dX1_isStranded_1 rfl (lv_at hl 1 rfl) ?_
  refine lv_iconst (v := 4) hx hb dX1_isStranded_2 (by decide) ?_
  replace h := bnd h; obtain ⟨q1, e2, h⟩ := h
  refine rdV C hE hP (kX1_of l D T a_g a_gw a_gk v_gw p0 4 q1 e2) mX1_of qLX1_32 [0, 1] 0 rfl rfl rfl rfl ⟨rfl, rfl⟩ ⟨Nat.le_of_ble_eq_true rfl, Nat.le_of_ble_eq_true rfl⟩ rfl hl.1 rfl (Nat.le_of_ble_eq_true rfl) dX1_isStranded_3 ⟨Nat.le_of_ble_eq_true rfl, Nat.le_of_ble_eq_true rfl⟩ ?_
  refine lv_istore_n (lv' := [(2, .int q1), (0, .ref a_g), (1, .int p0)]) hx hb dX1_isStranded_6 rfl hl (by decide) rfl (fun ls hl => ?_)
  refine lv_iload_n hx hb dX1_isStranded_7 rfl (lv_at hl 0 rfl) ?_
  refine lv_iconst (v := (-1)) hx hb dX1_isStranded_8 (by decide) ?_
  refine lv_icmp_eq (tgt := 24) hx hb dX1_isStranded_9 (by decide) (fun c3 => ?_) (fun c3 => ?_)
  · replace h := ite_t c3 h
    refine lv_iconst (v := 0) hx hb dX1_isStranded_24 (by decide) ?_
    exact hret _ _ _ _ dX1_isStranded_25 rfl (Option.some.inj h)
  · replace h := ite_f c3 h
    refine lv_aload_n hx hb dX1_isStranded_12 rfl (lv_at hl 1 rfl) ?_
    refine lv_iload_n hx hb dX1_isStranded_13 rfl (lv_at hl 0 rfl) ?_
    replace h := bnd h; obtain ⟨q4, e5, h⟩ := h
    refine rdV C hE hP (kX1_isDryNow l D T a_g a_gw a_gk v_gk q1 q4 e5) mX1_isDryNow qLX1_47 [0, 2] 0 rfl rfl rfl rfl ⟨rfl, rfl⟩ ⟨Nat.le_of_ble_eq_true rfl, Nat.le_of_ble_eq_true rfl⟩ rfl hl.1 rfl (Nat.le_of_ble_eq_true rfl) dX1_isStranded_14 ⟨Nat.le_of_ble_eq_true rfl, Nat.le_of_ble_eq_true rfl⟩ ?_
    refine lv_if_eq (tgt := 24) hx hb dX1_isStranded_17 (by decide) (fun c6 => ?_) (fun c6 => ?_)
    · replace h := ite_t c6 h
      refine lv_iconst (v := 0) hx hb dX1_isStranded_24 (by decide) ?_
      exact hret _ _ _ _ dX1_isStranded_25 rfl (Option.some.inj h)
    · replace h := ite_f c6 h
      refine lv_iconst (v := 1) hx hb dX1_isStranded_20 (by decide) ?_
      refine lv_goto (tgt := 25) hx hb dX1_isStranded_21 (by decide) ?_
      exact hret _ _ _ _ dX1_isStranded_25 rfl (Option.some.inj h)

def fX1_countOf_29 (v_gw : Nat → Int32) (v_gk : Nat → Int32) (rec4 : Int32 → Int32 → Int32 → Option Int32) (x0 : Int32) (x1 : Int32) (l1 : Int32) (l3 : Int32) : Option Int32 :=
  rec4 l1 (x0 + x1) (l3 + 1)
def fX1_countOf_4 (v_gw : Nat → Int32) (v_gk : Nat → Int32) : Nat → Int32 → Int32 → Int32 → Option Int32
  | 0, _, _, _ => none
  | k + 1, l1, l2, l3 =>
    (fX1_count v_gk 0).bind fun q1 =>
    if q1 ≤ l3 then
      some l2
    else
      (fX1_of v_gw l3 0).bind fun q4 =>
      fX1_countOf_29 v_gw v_gk (fX1_countOf_4 v_gw v_gk k) l2 (if q4 = l1 then 1 else 0) l1 l3
def fX1_countOf (v_gw : Nat → Int32) (v_gk : Nat → Int32) (p0 : Int32) : Option Int32 :=
  fX1_countOf_4 v_gw v_gk 64 p0 0 0
set_option maxHeartbeats 4000000 in
set_option maxRecDepth 100000 in
theorem lX1_countOf_29 {p : Program} {l : Launch} {e : Env} {s : State} {m : MethodId} {args : Array Value} {below : List Frame} {meth : Method} {c : Code} {Q : State → Prop} {D : va_G} {T : Nat → ClassId} {a_g a_gw a_gk : Nat} {v_gw : Nat → Int32} {v_gk : Nat → Int32} {r : Int32} (C : CallFix p m c cX1_countOf 4 s args aw RX1) (hE : eK D T s) (hP : va_P D kC [(a_g, .inr (1, [.ref a_gw, .ref a_gk])), (a_gw, .inl (T 0, 90, .inl v_gw)), (a_gk, .inl (T 0, 18, .inl v_gk))] s.heap) (hret : RdRet p l e ({ frames := 1, cells := 0, slots := 0, locals := 23 } : Room) s m args below meth c Q cX1_countOf .int r) {rec4 : Int32 → Int32 → Int32 → Option Int32} (hrec4 : ∀ (l1 : Int32) (l2 : Int32) (l3 : Int32) (ls : Array Slot) (hl : lv_has ls 4 [(0, .ref a_g), (1, .int l1), (2, .int l2), (3, .int l3)]) (h : rec4 l1 l2 l3 = some r), W p l e ({ frames := 1, cells := 0, slots := 0, locals := 23 } : Room) s m args below meth c s.heap [] 0 0 Q (F0 m 4 ls [])) (x0 : Int32) (x1 : Int32) (l1 : Int32) (l3 : Int32) (ls : Array Slot) (hl : lv_has ls 4 [(0, .ref a_g), (1, .int l1), (3, .int l3)]) (h : fX1_countOf_29 v_gw v_gk rec4 x0 x1 l1 l3 = some r) : W p l e ({ frames := 1, cells := 0, slots := 0, locals := 23 } : Room) s m args below meth c s.heap [] 0 0 Q (F0 m 29 ls [.int x1, .int x0]) := by
  have hx := C.1
  have hb := C.2.1
  unfold fX1_countOf_29 at h
  refine lv_iadd hx hb dX1_countOf_29 ?_
  refine lv_istore_n (lv' := [(2, .int (x0 + x1)), (0, .ref a_g), (1, .int l1), (3, .int l3)]) hx hb dX1_countOf_30 rfl hl (by decide) rfl (fun ls hl => ?_)
  refine lv_iinc (v := (l3 + 1)) (lv' := [(3, .int (l3 + 1)), (2, .int (x0 + x1)), (0, .ref a_g), (1, .int l1)]) hx hb dX1_countOf_31 hl (k := 3) rfl rfl (by decide) rfl (fun ls hl => ?_)
  refine lv_goto (tgt := 4) hx hb dX1_countOf_34 (by decide) ?_
  exact hrec4 l1 (x0 + x1) (l3 + 1) _ (lv_sub hl [2, 3, 1, 0] rfl) h
set_option maxHeartbeats 4000000 in
set_option maxRecDepth 100000 in
theorem lX1_countOf_4 {p : Program} {l : Launch} {e : Env} {s : State} {m : MethodId} {args : Array Value} {below : List Frame} {meth : Method} {c : Code} {Q : State → Prop} {D : va_G} {T : Nat → ClassId} {a_g a_gw a_gk : Nat} {v_gw : Nat → Int32} {v_gk : Nat → Int32} {r : Int32} (C : CallFix p m c cX1_countOf 4 s args aw RX1) (hE : eK D T s) (hP : va_P D kC [(a_g, .inr (1, [.ref a_gw, .ref a_gk])), (a_gw, .inl (T 0, 90, .inl v_gw)), (a_gk, .inl (T 0, 18, .inl v_gk))] s.heap) (hret : RdRet p l e ({ frames := 1, cells := 0, slots := 0, locals := 23 } : Room) s m args below meth c Q cX1_countOf .int r) : ∀ (k : Nat) (l1 : Int32) (l2 : Int32) (l3 : Int32) (ls : Array Slot) (hl : lv_has ls 4 [(0, .ref a_g), (1, .int l1), (2, .int l2), (3, .int l3)]) (h : fX1_countOf_4 v_gw v_gk k l1 l2 l3 = some r), W p l e ({ frames := 1, cells := 0, slots := 0, locals := 23 } : Room) s m args below meth c s.heap [] 0 0 Q (F0 m 4 ls []) := by
  have hx := C.1
  have hb := C.2.1
  intro k
  induction k with
  | zero =>
    intro l1 l2 l3  ls hl h
    exact nomatch (show (none : Option Int32) = some r from h)
  | succ k ih =>
    intro l1 l2 l3  ls hl h
    rw [fX1_countOf_4] at h
    refine lv_iload_n hx hb dX1_countOf_4 rfl (lv_at hl 3 rfl) ?_
    refine lv_aload_n hx hb dX1_countOf_5 rfl (lv_at hl 0 rfl) ?_
    refine lv_iconst (v := 0) hx hb dX1_countOf_6 (by decide) ?_
    replace h := bnd h; obtain ⟨q1, e2, h⟩ := h
    refine rdV C hE hP (kX1_count l D T a_g a_gw a_gk v_gk 0 q1 e2) mX1_count qLX1_28 [0, 2] 0 rfl rfl rfl rfl ⟨rfl, rfl⟩ ⟨Nat.le_of_ble_eq_true rfl, Nat.le_of_ble_eq_true rfl⟩ rfl hl.1 rfl (Nat.le_of_ble_eq_true rfl) dX1_countOf_7 ⟨Nat.le_of_ble_eq_true rfl, Nat.le_of_ble_eq_true rfl⟩ ?_
    refine lv_icmp_ge (tgt := 37) hx hb dX1_countOf_10 (by decide) (fun c3 => ?_) (fun c3 => ?_)
    · replace h := ite_t c3 h
      refine lv_iload_n hx hb dX1_countOf_37 rfl (lv_at hl 2 rfl) ?_
      exact hret _ _ _ _ dX1_countOf_38 rfl (Option.some.inj h)
    · replace h := ite_f c3 h
      refine lv_iload_n hx hb dX1_countOf_13 rfl (lv_at hl 2 rfl) ?_
      refine lv_aload_n hx hb dX1_countOf_14 rfl (lv_at hl 0 rfl) ?_
      refine lv_iload_n hx hb dX1_countOf_15 rfl (lv_at hl 3 rfl) ?_
      refine lv_iconst (v := 0) hx hb dX1_countOf_16 (by decide) ?_
      replace h := bnd h; obtain ⟨q4, e5, h⟩ := h
      refine rdV C hE hP (kX1_of l D T a_g a_gw a_gk v_gw l3 0 q4 e5) mX1_of qLX1_32 [0, 1] 0 rfl rfl rfl rfl ⟨rfl, rfl⟩ ⟨Nat.le_of_ble_eq_true rfl, Nat.le_of_ble_eq_true rfl⟩ rfl hl.1 rfl (Nat.le_of_ble_eq_true rfl) dX1_countOf_17 ⟨Nat.le_of_ble_eq_true rfl, Nat.le_of_ble_eq_true rfl⟩ ?_
      refine lv_iload_n hx hb dX1_countOf_20 rfl (lv_at hl 1 rfl) ?_
      refine lv_icmp_ne (tgt := 28) hx hb dX1_countOf_21 (by decide) (fun c6 => ?_) (fun c6 => ?_)
      · rw [if_neg c6] at h
        refine lv_iconst (v := 0) hx hb dX1_countOf_28 (by decide) ?_
        exact lX1_countOf_29 C hE hP hret ih l2 0 l1 l3 _ (lv_sub hl [0, 1, 3] rfl) h
      · rw [if_pos c6] at h
        refine lv_iconst (v := 1) hx hb dX1_countOf_24 (by decide) ?_
        refine lv_goto (tgt := 29) hx hb dX1_countOf_25 (by decide) ?_
        exact lX1_countOf_29 C hE hP hret ih l2 1 l1 l3 _ (lv_sub hl [0, 1, 3] rfl) h
set_option maxHeartbeats 4000000 in
set_option maxRecDepth 100000 in
theorem kX1_countOf (l : Launch) (D : va_G) (T : Nat → ClassId) (a_g a_gw a_gk : Nat) (v_gw : Nat → Int32) (v_gk : Nat → Int32) (p0 : Int32) (r : Int32) (h : fX1_countOf v_gw v_gk p0 = some r) : RdI l yX1_countOf cX1_countOf 4 .int ({ frames := 1, cells := 0, slots := 0, locals := 23 } : Room) D T [(a_g, .inr (1, [.ref a_gw, .ref a_gk])), (a_gw, .inl (T 0, 90, .inl v_gw)), (a_gk, .inl (T 0, 18, .inl v_gk))] [.ref a_g, .int p0] r := by
  unfold fX1_countOf at h
  refine rdMet (by decide +kernel) rfl (fun p e s m args below meth c Q C hE hP hret ls hl => ?_)
  have hx := C.1
  have hb := C.2.1
  have hl : lv_has ls 4 [(0, .ref a_g), (1, .int p0)] := hl
  refine lv_iconst (v := 0) hx hb dX1_countOf_0 (by decide) ?_
  refine lv_istore_n (lv' := [(2, .int 0), (0, .ref a_g), (1, .int p0)]) hx hb dX1_countOf_1 rfl hl (by decide) rfl (fun ls hl => ?_)
  refine lv_iconst (v := 0) hx hb dX1_countOf_2 (by decide) ?_
  refine lv_istore_n (lv' := [(3, .int 0), (2, .int 0), (0, .ref a_g), (1, .int p0)]) hx hb dX1_countOf_3 rfl hl (by decide) rfl (fun ls hl => ?_)
  exact lX1_countOf_4 C hE hP hret 64 p0 0 0 _ (lv_sub hl [2, 3, 1, 0] rfl) h

def fX1_countPlaying_37 (v_gw : Nat → Int32) (v_gk : Nat → Int32) (rec4 : Int32 → Int32 → Int32 → Option Int32) (x0 : Int32) (x1 : Int32) (l1 : Int32) (l3 : Int32) : Option Int32 :=
  rec4 l1 (x0 + x1) (l3 + 1)
def fX1_countPlaying_4 (v_gw : Nat → Int32) (v_gk : Nat → Int32) : Nat → Int32 → Int32 → Int32 → Option Int32
  | 0, _, _, _ => none
  | k + 1, l1, l2, l3 =>
    (fX1_count v_gk 0).bind fun q1 =>
    if q1 ≤ l3 then
      some l2
    else
      (fX1_of v_gw l3 0).bind fun q4 =>
      if q4 = l1 then
        (fX1_isPlaying v_gw l3).bind fun q7 =>
        fX1_countPlaying_37 v_gw v_gk (fX1_countPlaying_4 v_gw v_gk k) l2 (if q7 = 0 then 0 else 1) l1 l3
      else
        fX1_countPlaying_37 v_gw v_gk (fX1_countPlaying_4 v_gw v_gk k) l2 0 l1 l3
def fX1_countPlaying (v_gw : Nat → Int32) (v_gk : Nat → Int32) (p0 : Int32) : Option Int32 :=
  fX1_countPlaying_4 v_gw v_gk 64 p0 0 0
set_option maxHeartbeats 4000000 in
set_option maxRecDepth 100000 in
theorem lX1_countPlaying_37 {p : Program} {l : Launch} {e : Env} {s : State} {m : MethodId} {args : Array Value} {below : List Frame} {meth : Method} {c : Code} {Q : State → Prop} {D : va_G} {T : Nat → ClassId} {a_g a_gw a_gk : Nat} {v_gw : Nat → Int32} {v_gk : Nat → Int32} {r : Int32} (C : CallFix p m c cX1_countPlaying 4 s args aw RX1) (hE : eK D T s) (hP : va_P D kC [(a_g, .inr (1, [.ref a_gw, .ref a_gk])), (a_gw, .inl (T 0, 90, .inl v_gw)), (a_gk, .inl (T 0, 18, .inl v_gk))] s.heap) (hret : RdRet p l e ({ frames := 2, cells := 0, slots := 0, locals := 44 } : Room) s m args below meth c Q cX1_countPlaying .int r) {rec4 : Int32 → Int32 → Int32 → Option Int32} (hrec4 : ∀ (l1 : Int32) (l2 : Int32) (l3 : Int32) (ls : Array Slot) (hl : lv_has ls 4 [(0, .ref a_g), (1, .int l1), (2, .int l2), (3, .int l3)]) (h : rec4 l1 l2 l3 = some r), W p l e ({ frames := 2, cells := 0, slots := 0, locals := 44 } : Room) s m args below meth c s.heap [] 0 0 Q (F0 m 4 ls [])) (x0 : Int32) (x1 : Int32) (l1 : Int32) (l3 : Int32) (ls : Array Slot) (hl : lv_has ls 4 [(0, .ref a_g), (1, .int l1), (3, .int l3)]) (h : fX1_countPlaying_37 v_gw v_gk rec4 x0 x1 l1 l3 = some r) : W p l e ({ frames := 2, cells := 0, slots := 0, locals := 44 } : Room) s m args below meth c s.heap [] 0 0 Q (F0 m 37 ls [.int x1, .int x0]) := by
  have hx := C.1
  have hb := C.2.1
  unfold fX1_countPlaying_37 at h
  refine lv_iadd hx hb dX1_countPlaying_37 ?_
  refine lv_istore_n (lv' := [(2, .int (x0 + x1)), (0, .ref a_g), (1, .int l1), (3, .int l3)]) hx hb dX1_countPlaying_38 rfl hl (by decide) rfl (fun ls hl => ?_)
  refine lv_iinc (v := (l3 + 1)) (lv' := [(3, .int (l3 + 1)), (2, .int (x0 + x1)), (0, .ref a_g), (1, .int l1)]) hx hb dX1_countPlaying_39 hl (k := 3) rfl rfl (by decide) rfl (fun ls hl => ?_)
  refine lv_goto (tgt := 4) hx hb dX1_countPlaying_42 (by decide) ?_
  exact hrec4 l1 (x0 + x1) (l3 + 1) _ (lv_sub hl [2, 3, 1, 0] rfl) h
set_option maxHeartbeats 4000000 in
set_option maxRecDepth 100000 in
theorem lX1_countPlaying_4 {p : Program} {l : Launch} {e : Env} {s : State} {m : MethodId} {args : Array Value} {below : List Frame} {meth : Method} {c : Code} {Q : State → Prop} {D : va_G} {T : Nat → ClassId} {a_g a_gw a_gk : Nat} {v_gw : Nat → Int32} {v_gk : Nat → Int32} {r : Int32} (C : CallFix p m c cX1_countPlaying 4 s args aw RX1) (hE : eK D T s) (hP : va_P D kC [(a_g, .inr (1, [.ref a_gw, .ref a_gk])), (a_gw, .inl (T 0, 90, .inl v_gw)), (a_gk, .inl (T 0, 18, .inl v_gk))] s.heap) (hret : RdRet p l e ({ frames := 2, cells := 0, slots := 0, locals := 44 } : Room) s m args below meth c Q cX1_countPlaying .int r) : ∀ (k : Nat) (l1 : Int32) (l2 : Int32) (l3 : Int32) (ls : Array Slot) (hl : lv_has ls 4 [(0, .ref a_g), (1, .int l1), (2, .int l2), (3, .int l3)]) (h : fX1_countPlaying_4 v_gw v_gk k l1 l2 l3 = some r), W p l e ({ frames := 2, cells := 0, slots := 0, locals := 44 } : Room) s m args below meth c s.heap [] 0 0 Q (F0 m 4 ls []) := by
  have hx := C.1
  have hb := C.2.1
  intro k
  induction k with
  | zero =>
    intro l1 l2 l3  ls hl h
    exact nomatch (show (none : Option Int32) = some r from h)
  | succ k ih =>
    intro l1 l2 l3  ls hl h
    rw [fX1_countPlaying_4] at h
    refine lv_iload_n hx hb dX1_countPlaying_4 rfl (lv_at hl 3 rfl) ?_
    refine lv_aload_n hx hb dX1_countPlaying_5 rfl (lv_at hl 0 rfl) ?_
    refine lv_iconst (v := 0) hx hb dX1_countPlaying_6 (by decide) ?_
    replace h := bnd h; obtain ⟨q1, e2, h⟩ := h
    refine rdV C hE hP (kX1_count l D T a_g a_gw a_gk v_gk 0 q1 e2) mX1_count qLX1_28 [0, 2] 0 rfl rfl rfl rfl ⟨rfl, rfl⟩ ⟨Nat.le_of_ble_eq_true rfl, Nat.le_of_ble_eq_true rfl⟩ rfl hl.1 rfl (Nat.le_of_ble_eq_true rfl) dX1_countPlaying_7 ⟨Nat.le_of_ble_eq_true rfl, Nat.le_of_ble_eq_true rfl⟩ ?_
    refine lv_icmp_ge (tgt := 45) hx hb dX1_countPlaying_10 (by decide) (fun c3 => ?_) (fun c3 => ?_)
    · replace h := ite_t c3 h
      refine lv_iload_n hx hb dX1_countPlaying_45 rfl (lv_at hl 2 rfl) ?_
      exact hret _ _ _ _ dX1_countPlaying_46 rfl (Option.some.inj h)
    · replace h := ite_f c3 h
      refine lv_iload_n hx hb dX1_countPlaying_13 rfl (lv_at hl 2 rfl) ?_
      refine lv_aload_n hx hb dX1_countPlaying_14 rfl (lv_at hl 0 rfl) ?_
      refine lv_iload_n hx hb dX1_countPlaying_15 rfl (lv_at hl 3 rfl) ?_
      refine lv_iconst (v := 0) hx hb dX1_countPlaying_16 (by decide) ?_
      replace h := bnd h; obtain ⟨q4, e5, h⟩ := h
      refine rdV C hE hP (kX1_of l D T a_g a_gw a_gk v_gw l3 0 q4 e5) mX1_of qLX1_32 [0, 1] 0 rfl rfl rfl rfl ⟨rfl, rfl⟩ ⟨Nat.le_of_ble_eq_true rfl, Nat.le_of_ble_eq_true rfl⟩ rfl hl.1 rfl (Nat.le_of_ble_eq_true rfl) dX1_countPlaying_17 ⟨Nat.le_of_ble_eq_true rfl, Nat.le_of_ble_eq_true rfl⟩ ?_
      refine lv_iload_n hx hb dX1_countPlaying_20 rfl (lv_at hl 1 rfl) ?_
      refine lv_icmp_ne (tgt := 36) hx hb dX1_countPlaying_21 (by decide) (fun c6 => ?_) (fun c6 => ?_)
      · replace h := ite_f c6 h
        refine lv_iconst (v := 0) hx hb dX1_countPlaying_36 (by decide) ?_
        exact lX1_countPlaying_37 C hE hP hret ih l2 0 l1 l3 _ (lv_sub hl [0, 1, 3] rfl) h
      · replace h := ite_t c6 h
        refine lv_aload_n hx hb dX1_countPlaying_24 rfl (lv_at hl 0 rfl) ?_
        refine lv_iload_n hx hb dX1_countPlaying_25 rfl (lv_at hl 3 rfl) ?_
        replace h := bnd h; obtain ⟨q7, e8, h⟩ := h
        refine rdV C hE hP (kX1_isPlaying l D T a_g a_gw a_gk v_gw l3 q7 e8) mX1_isPlaying qLX1_50 [0, 1] 0 rfl rfl rfl rfl ⟨rfl, rfl⟩ ⟨Nat.le_of_ble_eq_true rfl, Nat.le_of_ble_eq_true rfl⟩ rfl hl.1 rfl (Nat.le_of_ble_eq_true rfl) dX1_countPlaying_26 ⟨Nat.le_of_ble_eq_true rfl, Nat.le_of_ble_eq_true rfl⟩ ?_
        refine lv_if_eq (tgt := 36) hx hb dX1_countPlaying_29 (by decide) (fun c9 => ?_) (fun c9 => ?_)
        · rw [if_pos c9] at h
          refine lv_iconst (v := 0) hx hb dX1_countPlaying_36 (by decide) ?_
          exact lX1_countPlaying_37 C hE hP hret ih l2 0 l1 l3 _ (lv_sub hl [0, 1, 3] rfl) h
        · rw [if_neg c9] at h
          refine lv_iconst (v := 1) hx hb dX1_countPlaying_32 (by decide) ?_
          refine lv_goto (tgt := 37) hx hb dX1_countPlaying_33 (by decide) ?_
          exact lX1_countPlaying_37 C hE hP hret ih l2 1 l1 l3 _ (lv_sub hl [0, 1, 3] rfl) h
set_option maxHeartbeats 4000000 in
set_option maxRecDepth 100000 in
theorem kX1_countPlaying (l : Launch) (D : va_G) (T : Nat → ClassId) (a_g a_gw a_gk : Nat) (v_gw : Nat → Int32) (v_gk : Nat → Int32) (p0 : Int32) (r : Int32) (h : fX1_countPlaying v_gw v_gk p0 = some r) : RdI l yX1_countPlaying cX1_countPlaying 4 .int ({ frames := 2, cells := 0, slots := 0, locals := 44 } : Room) D T [(a_g, .inr (1, [.ref a_gw, .ref a_gk])), (a_gw, .inl (T 0, 90, .inl v_gw)), (a_gk, .inl (T 0, 18, .inl v_gk))] [.ref a_g, .int p0] r := by
  unfold fX1_countPlaying at h
  refine rdMet (by decide +kernel) rfl (fun p e s m args below meth c Q C hE hP hret ls hl => ?_)
  have hx := C.1
  have hb := C.2.1
  have hl : lv_has ls 4 [(0, .ref a_g), (1, .int p0)] := hl
  refine lv_iconst (v := 0) hx hb dX1_countPlaying_0 (by decide) ?_
  refine lv_istore_n (lv' := [(2, .int 0), (0, .ref a_g), (1, .int p0)]) hx hb dX1_countPlaying_1 rfl hl (by decide) rfl (fun ls hl => ?_)
  refine lv_iconst (v := 0) hx hb dX1_countPlaying_2 (by decide) ?_
  refine lv_istore_n (lv' := [(3, .int 0), (2, .int 0), (0, .ref a_g), (1, .int p0)]) hx hb dX1_countPlaying_3 rfl hl (by decide) rfl (fun ls hl => ?_)
  exact lX1_countPlaying_4 C hE hP hret 64 p0 0 0 _ (lv_sub hl [2, 3, 1, 0] rfl) h

def fX1_firstCell_24 (v_gw : Nat → Int32) (v_gk : Nat → Int32) (x0 : Int32) (l2 : Int32) : Option Int32 :=
  some (x0 + (l2 * 9))
def fX1_firstCell (v_gw : Nat → Int32) (v_gk : Nat → Int32) (p0 : Int32) : Option Int32 :=
  (fX1_countOf v_gw v_gk p0).bind fun q1 =>
  if q1 < 3 then
    fX1_firstCell_24 v_gw v_gk (if p0 = 0 then 10 else 16) q1
  else
    some (-1)
set_option maxHeartbeats 4000000 in
set_option maxRecDepth 100000 in
theorem lX1_firstCell_24 {p : Program} {l : Launch} {e : Env} {s : State} {m : MethodId} {args : Array Value} {below : List Frame} {meth : Method} {c : Code} {Q : State → Prop} {D : va_G} {T : Nat → ClassId} {a_g a_gw a_gk : Nat} {v_gw : Nat → Int32} {v_gk : Nat → Int32} {r : Int32} (C : CallFix p m c cX1_firstCell 4 s args aw RX1) (hE : eK D T s) (hP : va_P D kC [(a_g, .inr (1, [.ref a_gw, .ref a_gk])), (a_gw, .inl (T 0, 90, .inl v_gw)), (a_gk, .inl (T 0, 18, .inl v_gk))] s.heap) (hret : RdRet p l e ({ frames := 2, cells := 0, slots := 0, locals := 46 } : Room) s m args below meth c Q cX1_firstCell .int r) (x0 : Int32) (l2 : Int32) (ls : Array Slot) (hl : lv_has ls 4 [(2, .int l2)]) (h : fX1_firstCell_24 v_gw v_gk x0 l2 = some r) : W p l e ({ frames := 2, cells := 0, slots := 0, locals := 46 } : Room) s m args below meth c s.heap [] 0 0 Q (F0 m 24 ls [.int x0]) := by
  have hx := C.1
  have hb := C.2.1
  unfold fX1_firstCell_24 at h
  refine lv_istore_n (lv' := [(3, .int x0), (2, .int l2)]) hx hb dX1_firstCell_24 rfl hl (by decide) rfl (fun ls hl => ?_)
  refine lv_iload_n hx hb dX1_firstCell_25 rfl (lv_at hl 0 rfl) ?_
  refine lv_iload_n hx hb dX1_firstCell_26 rfl (lv_at hl 1 rfl) ?_
  refine lv_bipush (v := 9) hx hb dX1_firstCell_27 (by decide) ?_
  refine lv_imul hx hb dX1_firstCell_29 ?_
  refine lv_iadd hx hb dX1_firstCell_30 ?_
  exact hret _ _ _ _ dX1_firstCell_31 rfl (Option.some.inj h)
set_option maxHeartbeats 4000000 in
set_option maxRecDepth 100000 in
theorem kX1_firstCell (l : Launch) (D : va_G) (T : Nat → ClassId) (a_g a_gw a_gk : Nat) (v_gw : Nat → Int32) (v_gk : Nat → Int32) (p0 : Int32) (r : Int32) (h : fX1_firstCell v_gw v_gk p0 = some r) : RdI l yX1_firstCell cX1_firstCell 4 .int ({ frames := 2, cells := 0, slots := 0, locals := 46 } : Room) D T [(a_g, .inr (1, [.ref a_gw, .ref a_gk])), (a_gw, .inl (T 0, 90, .inl v_gw)), (a_gk, .inl (T 0, 18, .inl v_gk))] [.ref a_g, .int p0] r := by
  unfold fX1_firstCell at h
  refine rdMet (by decide +kernel) rfl (fun p e s m args below meth c Q C hE hP hret ls hl => ?_)
  have hx := C.1
  have hb := C.2.1
  have hl : lv_has ls 4 [(0, .ref a_g), (1, .int p0)] := hl
  refine lv_aload_n hx hb dX1_firstCell_0 rfl (lv_at hl 0 rfl) ?_
  refine lv_iload_n hx hb dX1_firstCell_1 rfl (lv_at hl 1 rfl) ?_
  replace h := bnd h; obtain ⟨q1, e2, h⟩ := h
  refine rdV C hE hP (kX1_countOf l D T a_g a_gw a_gk v_gw v_gk p0 q1 e2) mX1_countOf qLX1_53 [0, 1, 2] 0 rfl rfl rfl rfl ⟨rfl, rfl⟩ ⟨Nat.le_of_ble_eq_true rfl, Nat.le_of_ble_eq_true rfl⟩ rfl hl.1 rfl (Nat.le_of_ble_eq_true rfl) dX1_firstCell_2 ⟨Nat.le_of_ble_eq_true rfl, Nat.le_of_ble_eq_true rfl⟩ ?_
  refine lv_istore_n (lv' := [(2, .int q1), (0, .ref a_g), (1, .int p0)]) hx hb dX1_firstCell_5 rfl hl (by decide) rfl (fun ls hl => ?_)
  refine lv_iload_n hx hb dX1_firstCell_6 rfl (lv_at hl 0 rfl) ?_
  refine lv_iconst (v := 3) hx hb dX1_firstCell_7 (by decide) ?_
  refine lv_icmp_lt (tgt := 13) hx hb dX1_firstCell_8 (by decide) (fun c3 => ?_) (fun c3 => ?_)
  · replace h := ite_t c3 h
    refine lv_iload_n hx hb dX1_firstCell_13 rfl (lv_at hl 2 rfl) ?_
    refine lv_if_ne (tgt := 22) hx hb dX1_firstCell_14 (by decide) (fun c4 => ?_) (fun c4 => ?_)
    · rw [if_neg c4] at h
      refine lv_bipush (v := 16) hx hb dX1_firstCell_22 (by decide) ?_
      exact lX1_firstCell_24 C hE hP hret 16 q1 _ (lv_sub hl [0] rfl) h
    · rw [if_pos c4] at h
      refine lv_bipush (v := 10) hx hb dX1_firstCell_17 (by decide) ?_
      refine lv_goto (tgt := 24) hx hb dX1_firstCell_19 (by decide) ?_
      exact lX1_firstCell_24 C hE hP hret 10 q1 _ (lv_sub hl [0] rfl) h
  · replace h := ite_f c3 h
    refine lv_iconst (v := (-1)) hx hb dX1_firstCell_11 (by decide) ?_
    exact hret _ _ _ _ dX1_firstCell_12 rfl (Option.some.inj h)

def fX1_addWhale (v_gw : Nat → Int32) (v_gk : Nat → Int32) (p0 : Int32) (p1 : Int32) (p2 : Int32) : Option (Int32 × (Nat → Int32) × (Nat → Int32)) :=
  (fX1_count v_gk 0).bind fun q1 =>
  (fX1_firstCell v_gw v_gk p0).bind fun q3 =>
  (fX1_set v_gw q1 4 q3).bind fun q5 =>
  (fX1_set q5 q1 0 p0).bind fun q7 =>
  (fX1_set q7 q1 1 p1).bind fun q9 =>
  (fX1_set q9 q1 2 p2).bind fun q11 =>
  (fX1_set q11 q1 3 20).bind fun q13 =>
  (fX1_addCount v_gk 0 1).bind fun q15 =>
  some (q1, q13, q15)
set_option maxHeartbeats 4000000 in
set_option maxRecDepth 100000 in
theorem kX1_addWhale (l : Launch) (D : va_G) (T : Nat → ClassId) (a_g a_gw a_gk : Nat) (v_gw : Nat → Int32) (v_gk : Nat → Int32) (p0 : Int32) (p1 : Int32) (p2 : Int32) (sz : Nat) (r : Int32 × (Nat → Int32) × (Nat → Int32)) (h : fX1_addWhale v_gw v_gk p0 p1 p2 = some r) : WrI l yX1_addWhale cX1_addWhale 5 .int ({ frames := 3, cells := 0, slots := 0, locals := 69 } : Room) D T sz [(a_g, .inr (1, [.ref a_gw, .ref a_gk])), (a_gw, .inl (T 0, 90, .inl v_gw)), (a_gk, .inl (T 0, 18, .inl v_gk))] [(a_g, .inr (1, [.ref a_gw, .ref a_gk])), (a_gw, .inl (T 0, 90, .inl r.2.1)), (a_gk, .inl (T 0, 18, .inl r.2.2))] [.ref a_g, .int p0, .int p1, .int p2] r.1 := by
  unfold fX1_addWhale at h
  refine wrMet (by decide +kernel) rfl (fun p e s m args below meth c Q A C hE hA hP hD hS hret ls hl => ?_)
  have hx := C.1
  have hb := C.2.1
  have hl : lv_has ls 5 [(0, .ref a_g), (1, .int p0), (2, .int p1), (3, .int p2)] := hl
  refine lv_aload_n hx hb dX1_addWhale_0 rfl (lv_at hl 0 rfl) ?_
  refine lv_iconst (v := 0) hx hb dX1_addWhale_1 (by decide) ?_
  replace h := bnd h; obtain ⟨q1, e2, h⟩ := h
  refine rdV C hE hP (kX1_count l D T a_g a_gw a_gk v_gk 0 q1 e2) mX1_count qLX1_28 [0, 2] 0 rfl rfl rfl rfl ⟨rfl, rfl⟩ ⟨Nat.le_of_ble_eq_true rfl, Nat.le_of_ble_eq_true rfl⟩ rfl hl.1 rfl (Nat.le_of_ble_eq_true rfl) dX1_addWhale_2 ⟨Nat.le_of_ble_eq_true rfl, Nat.le_of_ble_eq_true rfl⟩ ?_
  refine lv_istore (lv' := [(4, .int q1), (0, .ref a_g), (1, .int p0), (2, .int p1), (3, .int p2)]) hx hb dX1_addWhale_5 hl (by decide) rfl (fun ls hl => ?_)
  refine lv_aload_n hx hb dX1_addWhale_7 rfl (lv_at hl 1 rfl) ?_
  refine lv_iload hx hb dX1_addWhale_8 (lv_at hl 0 rfl) ?_
  refine lv_iconst (v := 4) hx hb dX1_addWhale_10 (by decide) ?_
  refine lv_aload_n hx hb dX1_addWhale_11 rfl (lv_at hl 1 rfl) ?_
  refine lv_iload_n hx hb dX1_addWhale_12 rfl (lv_at hl 2 rfl) ?_
  replace h := bnd h; obtain ⟨q3, e4, h⟩ := h
  refine rdV C hE hP (kX1_firstCell l D T a_g a_gw a_gk v_gw v_gk p0 q3 e4) mX1_firstCell qLX1_62 [0, 1, 2] 0 rfl rfl rfl rfl ⟨rfl, rfl⟩ ⟨Nat.le_of_ble_eq_true rfl, Nat.le_of_ble_eq_true rfl⟩ rfl hl.1 rfl (Nat.le_of_ble_eq_true rfl) dX1_addWhale_13 ⟨Nat.le_of_ble_eq_true rfl, Nat.le_of_ble_eq_true rfl⟩ ?_
  replace h := bnd h; obtain ⟨q5, e6, h⟩ := h
  refine wrVv (ws1 := [(a_g, .inr (1, [.ref a_gw, .ref a_gk])), (a_gw, .inl (T 0, 90, .inl q5)), (a_gk, .inl (T 0, 18, .inl v_gk))]) C hE hP hD hS hA (kX1_set l D T a_g a_gw a_gk v_gw q1 4 q3 _ q5 e6) mX1_set qLX1_36 [0, 1] [2] 0 rfl rfl rfl rfl rfl rfl rfl rfl rfl ⟨rfl, rfl⟩ ⟨Nat.le_of_ble_eq_true rfl, Nat.le_of_ble_eq_true rfl⟩ rfl hl.1 rfl (Nat.le_of_ble_eq_true rfl) dX1_addWhale_16 ⟨Nat.le_of_ble_eq_true rfl, Nat.le_of_ble_eq_true rfl⟩ ?_; clear hP hD hS; intro H locs hP hD hS
  refine lv_aload_n hx hb dX1_addWhale_19 rfl (lv_at hl 1 rfl) ?_
  refine lv_iload hx hb dX1_addWhale_20 (lv_at hl 0 rfl) ?_
  refine lv_iconst (v := 0) hx hb dX1_addWhale_22 (by decide) ?_
  refine lv_iload_n hx hb dX1_addWhale_23 rfl (lv_at hl 2 rfl) ?_
  replace h := bnd h; obtain ⟨q7, e8, h⟩ := h
  refine wrVv (ws1 := [(a_g, .inr (1, [.ref a_gw, .ref a_gk])), (a_gw, .inl (T 0, 90, .inl q7)), (a_gk, .inl (T 0, 18, .inl v_gk))]) C hE hP hD hS hA (kX1_set l D T a_g a_gw a_gk q5 q1 0 p0 _ q7 e8) mX1_set qLX1_36 [0, 1] [2] 0 rfl rfl rfl rfl rfl rfl rfl rfl rfl ⟨rfl, rfl⟩ ⟨Nat.le_of_ble_eq_true rfl, Nat.le_of_ble_eq_true rfl⟩ rfl hl.1 rfl (Nat.le_of_ble_eq_true rfl) dX1_addWhale_24 ⟨Nat.le_of_ble_eq_true rfl, Nat.le_of_ble_eq_true rfl⟩ ?_; clear hP hD hS; intro H locs hP hD hS
  refine lv_aload_n hx hb dX1_addWhale_27 rfl (lv_at hl 1 rfl) ?_
  refine lv_iload hx hb dX1_addWhale_28 (lv_at hl 0 rfl) ?_
  refine lv_iconst (v := 1) hx hb dX1_addWhale_30 (by decide) ?_
  refine lv_iload_n hx hb dX1_addWhale_31 rfl (lv_at hl 3 rfl) ?_
  replace h := bnd h; obtain ⟨q9, e10, h⟩ := h
  refine wrVv (ws1 := [(a_g, .inr (1, [.ref a_gw, .ref a_gk])), (a_gw, .inl (T 0, 90, .inl q9)), (a_gk, .inl (T 0, 18, .inl v_gk))]) C hE hP hD hS hA (kX1_set l D T a_g a_gw a_gk q7 q1 1 p1 _ q9 e10) mX1_set qLX1_36 [0, 1] [2] 0 rfl rfl rfl rfl rfl rfl rfl rfl rfl ⟨rfl, rfl⟩ ⟨Nat.le_of_ble_eq_true rfl, Nat.le_of_ble_eq_true rfl⟩ rfl hl.1 rfl (Nat.le_of_ble_eq_true rfl) dX1_addWhale_32 ⟨Nat.le_of_ble_eq_true rfl, Nat.le_of_ble_eq_true rfl⟩ ?_; clear hP hD hS; intro H locs hP hD hS
  refine lv_aload_n hx hb dX1_addWhale_35 rfl (lv_at hl 1 rfl) ?_
  refine lv_iload hx hb dX1_addWhale_36 (lv_at hl 0 rfl) ?_
  refine lv_iconst (v := 2) hx hb dX1_addWhale_38 (by decide) ?_
  refine lv_iload_n hx hb dX1_addWhale_39 rfl (lv_at hl 4 rfl) ?_
  replace h := bnd h; obtain ⟨q11, e12, h⟩ := h
  refine wrVv (ws1 := [(a_g, .inr (1, [.ref a_gw, .ref a_gk])), (a_gw, .inl (T 0, 90, .inl q11)), (a_gk, .inl (T 0, 18, .inl v_gk))]) C hE hP hD hS hA (kX1_set l D T a_g a_gw a_gk q9 q1 2 p2 _ q11 e12) mX1_set qLX1_36 [0, 1] [2] 0 rfl rfl rfl rfl rfl rfl rfl rfl rfl ⟨rfl, rfl⟩ ⟨Nat.le_of_ble_eq_true rfl, Nat.le_of_ble_eq_true rfl⟩ rfl hl.1 rfl (Nat.le_of_ble_eq_true rfl) dX1_addWhale_40 ⟨Nat.le_of_ble_eq_true rfl, Nat.le_of_ble_eq_true rfl⟩ ?_; clear hP hD hS; intro H locs hP hD hS
  refine lv_aload_n hx hb dX1_addWhale_43 rfl (lv_at hl 1 rfl) ?_
  refine lv_iload hx hb dX1_addWhale_44 (lv_at hl 0 rfl) ?_
  refine lv_iconst (v := 3) hx hb dX1_addWhale_46 (by decide) ?_
  refine lv_bipush (v := 20) hx hb dX1_addWhale_47 (by decide) ?_
  replace h := bnd h; obtain ⟨q13, e14, h⟩ := h
  refine wrVv (ws1 := [(a_g, .inr (1, [.ref a_gw, .ref a_gk])), (a_gw, .inl (T 0, 90, .inl q13)), (a_gk, .inl (T 0, 18, .inl v_gk))]) C hE hP hD hS hA (kX1_set l D T a_g a_gw a_gk q11 q1 3 20 _ q13 e14) mX1_set qLX1_36 [0, 1] [2] 0 rfl rfl rfl rfl rfl rfl rfl rfl rfl ⟨rfl, rfl⟩ ⟨Nat.le_of_ble_eq_true rfl, Nat.le_of_ble_eq_true rfl⟩ rfl hl.1 rfl (Nat.le_of_ble_eq_true rfl) dX1_addWhale_49 ⟨Nat.le_of_ble_eq_true rfl, Nat.le_of_ble_eq_true rfl⟩ ?_; clear hP hD hS; intro H locs hP hD hS
  refine lv_aload_n hx hb dX1_addWhale_52 rfl (lv_at hl 1 rfl) ?_
  refine lv_iconst (v := 0) hx hb dX1_addWhale_53 (by decide) ?_
  refine lv_iconst (v := 1) hx hb dX1_addWhale_54 (by decide) ?_
  replace h := bnd h; obtain ⟨q15, e16, h⟩ := h
  refine wrVv (ws1 := [(a_g, .inr (1, [.ref a_gw, .ref a_gk])), (a_gw, .inl (T 0, 90, .inl q13)), (a_gk, .inl (T 0, 18, .inl q15))]) C hE hP hD hS hA (kX1_addCount l D T a_g a_gw a_gk v_gk 0 1 _ q15 e16) mX1_addCount qLX1_65 [0, 2] [1] 0 rfl rfl rfl rfl rfl rfl rfl rfl rfl ⟨rfl, rfl⟩ ⟨Nat.le_of_ble_eq_true rfl, Nat.le_of_ble_eq_true rfl⟩ rfl hl.1 rfl (Nat.le_of_ble_eq_true rfl) dX1_addWhale_55 ⟨Nat.le_of_ble_eq_true rfl, Nat.le_of_ble_eq_true rfl⟩ ?_; clear hP hD hS; intro H locs hP hD hS
  refine lv_iload hx hb dX1_addWhale_58 (lv_at hl 0 rfl) ?_
  replace h := Option.some.inj h
  exact hret _ _ _ _ _ _ dX1_addWhale_60 rfl (by rw [← h] <;> rfl) (by rw [← h]; exact hP) hS

def fX1_endChukka_30 : Nat → Int32 → (Nat → Int32) → (Nat → Int32) → Option ((Nat → Int32) × (Nat → Int32))
  | 0, _, _, _ => none
  | k + 1, l1, v_gw, v_gk =>
    (fX1_count v_gk 0).bind fun q9 =>
    if q9 ≤ l1 then
      some (v_gw, v_gk)
    else
      (fX1_set v_gw l1 5 0).bind fun q12 =>
      (fX1_of q12 l1 3).bind fun q14 =>
      (fX1_set q12 l1 3 (if 20 < (q14 + 5) then 20 else (q14 + 5))).bind fun q16 =>
      fX1_endChukka_30 k (l1 + 1) q16 v_gk
def fX1_endChukka (v_gw : Nat → Int32) (v_gk : Nat → Int32) : Option ((Nat → Int32) × (Nat → Int32)) :=
  (fX1_setCount v_gk 5 22).bind fun q1 =>
  (fX1_setCount q1 6 (-1)).bind fun q3 =>
  (fX1_setCount q3 16 0).bind fun q5 =>
  (fX1_setCount q5 17 0).bind fun q7 =>
  fX1_endChukka_30 64 0 v_gw q7
set_option maxHeartbeats 4000000 in
set_option maxRecDepth 100000 in
theorem lX1_endChukka_30 {p : Program} {l : Launch} {e : Env} {s : State} {m : MethodId} {args : Array Value} {below : List Frame} {meth : Method} {c : Code} {Q : State → Prop} {D : va_G} {T : Nat → ClassId} {a_g a_gw a_gk : Nat} {A : Nat → Prop} {r : (Nat → Int32) × (Nat → Int32)} (C : CallFix p m c cX1_endChukka 2 s args aw RX1) (hE : eK D T s) (hA : ∀ q : Nat, s.heap.size ≤ q → A q) (hret : WrRetV p l e ({ frames := 1, cells := 0, slots := 0, locals := 24 } : Room) s m args below meth c Q cX1_endChukka D A [(a_g, .inr (1, [.ref a_gw, .ref a_gk])), (a_gw, .inl (T 0, 90, .inl r.1)), (a_gk, .inl (T 0, 18, .inl r.2))]) : ∀ (k : Nat) (l1 : Int32) (v_gw : Nat → Int32) (v_gk : Nat → Int32) {H : Heap} {locs : List Loc} (hPD : va_PD D A [(a_g, .inr (1, [.ref a_gw, .ref a_gk])), (a_gw, .inl (T 0, 90, .inl v_gw)), (a_gk, .inl (T 0, 18, .inl v_gk))] H) (hS : va_S A s.heap H locs) (ls : Array Slot) (hl : lv_has ls 2 [(0, .ref a_g), (1, .int l1)]) (h : fX1_endChukka_30 k l1 v_gw v_gk = some r), W p l e ({ frames := 1, cells := 0, slots := 0, locals := 24 } : Room) s m args below meth c H locs 0 0 Q (F0 m 30 ls []) := by
  have hx := C.1
  have hb := C.2.1
  intro k
  induction k with
  | zero =>
    intro l1 v_gw v_gk H locs hPD hS ls hl h
    exact nomatch (show (none : Option ((Nat → Int32) × (Nat → Int32))) = some r from h)
  | succ k ih =>
    intro l1 v_gw v_gk H locs hPD hS ls hl h
    obtain ⟨hP, hD⟩ := hPD
    rw [fX1_endChukka_30] at h
    refine lv_iload_n hx hb dX1_endChukka_30 rfl (lv_at hl 1 rfl) ?_
    refine lv_aload_n hx hb dX1_endChukka_31 rfl (lv_at hl 0 rfl) ?_
    refine lv_iconst (v := 0) hx hb dX1_endChukka_32 (by decide) ?_
    replace h := bnd h; obtain ⟨q9, e10, h⟩ := h
    refine rdV C hE hP (kX1_count l D T a_g a_gw a_gk v_gk 0 q9 e10) mX1_count qLX1_28 [0, 2] 0 rfl rfl rfl rfl ⟨rfl, rfl⟩ ⟨Nat.le_of_ble_eq_true rfl, Nat.le_of_ble_eq_true rfl⟩ rfl hl.1 rfl (Nat.le_of_ble_eq_true rfl) dX1_endChukka_33 ⟨Nat.le_of_ble_eq_true rfl, Nat.le_of_ble_eq_true rfl⟩ ?_
    refine lv_icmp_ge (tgt := 71) hx hb dX1_endChukka_36 (by decide) (fun c11 => ?_) (fun c11 => ?_)
    · replace h := ite_t c11 h
      replace h := Option.some.inj h
      exact hret _ _ _ _ dX1_endChukka_71 (by rw [← h]; exact hP) hS
    · replace h := ite_f c11 h
      refine lv_aload_n hx hb dX1_endChukka_39 rfl (lv_at hl 0 rfl) ?_
      refine lv_iload_n hx hb dX1_endChukka_40 rfl (lv_at hl 1 rfl) ?_
      refine lv_iconst (v := 5) hx hb dX1_endChukka_41 (by decide) ?_
      refine lv_iconst (v := 0) hx hb dX1_endChukka_42 (by decide) ?_
      replace h := bnd h; obtain ⟨q12, e13, h⟩ := h
      refine wrVv (ws1 := [(a_g, .inr (1, [.ref a_gw, .ref a_gk])), (a_gw, .inl (T 0, 90, .inl q12)), (a_gk, .inl (T 0, 18, .inl v_gk))]) C hE hP hD hS hA (kX1_set l D T a_g a_gw a_gk v_gw l1 5 0 _ q12 e13) mX1_set qLX1_36 [0, 1] [2] 0 rfl rfl rfl rfl rfl rfl rfl rfl rfl ⟨rfl, rfl⟩ ⟨Nat.le_of_ble_eq_true rfl, Nat.le_of_ble_eq_true rfl⟩ rfl hl.1 rfl (Nat.le_of_ble_eq_true rfl) dX1_endChukka_43 ⟨Nat.le_of_ble_eq_true rfl, Nat.le_of_ble_eq_true rfl⟩ ?_; clear hP hD hS; intro H locs hP hD hS
      refine lv_aload_n hx hb dX1_endChukka_46 rfl (lv_at hl 0 rfl) ?_
      refine lv_iload_n hx hb dX1_endChukka_47 rfl (lv_at hl 1 rfl) ?_
      refine lv_iconst (v := 3) hx hb dX1_endChukka_48 (by decide) ?_
      refine lv_aload_n hx hb dX1_endChukka_49 rfl (lv_at hl 0 rfl) ?_
      refine lv_iload_n hx hb dX1_endChukka_50 rfl (lv_at hl 1 rfl) ?_
      refine lv_iconst (v := 3) hx hb dX1_endChukka_51 (by decide) ?_
      replace h := bnd h; obtain ⟨q14, e15, h⟩ := h
      refine rdV C hE hP (kX1_of l D T a_g a_gw a_gk q12 l1 3 q14 e15) mX1_of qLX1_32 [0, 1] 0 rfl rfl rfl rfl ⟨rfl, rfl⟩ ⟨Nat.le_of_ble_eq_true rfl, Nat.le_of_ble_eq_true rfl⟩ rfl hl.1 rfl (Nat.le_of_ble_eq_true rfl) dX1_endChukka_52 ⟨Nat.le_of_ble_eq_true rfl, Nat.le_of_ble_eq_true rfl⟩ ?_
      refine lv_iconst (v := 5) hx hb dX1_endChukka_55 (by decide) ?_
      refine lv_iadd hx hb dX1_endChukka_56 ?_
      refine lv_bipush (v := 20) hx hb dX1_endChukka_57 (by decide) ?_
      refine va_mmin hx hb (C.2.2.1.trans hl.1.symm) C.2.2.2.1 (C.2.2.2.2 _ qLX1_85) (C.2.2.2.2 _ qMs_min) (C.2.2.2.2 _ qMi) (C.2.2.2.2 _ qMc_min) (Nat.le_of_ble_eq_true rfl) (Nat.le_of_ble_eq_true rfl) (Nat.le_of_ble_eq_true rfl) (Nat.le_of_ble_eq_true rfl) dX1_endChukka_59 ?_
      replace h := bnd h; obtain ⟨q16, e17, h⟩ := h
      refine wrVv (ws1 := [(a_g, .inr (1, [.ref a_gw, .ref a_gk])), (a_gw, .inl (T 0, 90, .inl q16)), (a_gk, .inl (T 0, 18, .inl v_gk))]) C hE hP hD hS hA (kX1_set l D T a_g a_gw a_gk q12 l1 3 (if 20 < (q14 + 5) then 20 else (q14 + 5)) _ q16 e17) mX1_set qLX1_36 [0, 1] [2] 0 rfl rfl rfl rfl rfl rfl rfl rfl rfl ⟨rfl, rfl⟩ ⟨Nat.le_of_ble_eq_true rfl, Nat.le_of_ble_eq_true rfl⟩ rfl hl.1 rfl (Nat.le_of_ble_eq_true rfl) dX1_endChukka_62 ⟨Nat.le_of_ble_eq_true rfl, Nat.le_of_ble_eq_true rfl⟩ ?_; clear hP hD hS; intro H locs hP hD hS
      refine lv_iinc (v := (l1 + 1)) (lv' := [(1, .int (l1 + 1)), (0, .ref a_g)]) hx hb dX1_endChukka_65 hl (k := 1) rfl rfl (by decide) rfl (fun ls hl => ?_)
      refine lv_goto (tgt := 30) hx hb dX1_endChukka_68 (by decide) ?_
      exact ih (l1 + 1) q16 v_gk ⟨hP, hD⟩ hS _ (lv_sub hl [1, 0] rfl) h
set_option maxHeartbeats 4000000 in
set_option maxRecDepth 100000 in
theorem kX1_endChukka (l : Launch) (D : va_G) (T : Nat → ClassId) (a_g a_gw a_gk : Nat) (v_gw : Nat → Int32) (v_gk : Nat → Int32) (sz : Nat) (r : (Nat → Int32) × (Nat → Int32)) (h : fX1_endChukka v_gw v_gk = some r) : WrV l yX1_endChukka cX1_endChukka 2 ({ frames := 1, cells := 0, slots := 0, locals := 24 } : Room) D T sz [(a_g, .inr (1, [.ref a_gw, .ref a_gk])), (a_gw, .inl (T 0, 90, .inl v_gw)), (a_gk, .inl (T 0, 18, .inl v_gk))] [(a_g, .inr (1, [.ref a_gw, .ref a_gk])), (a_gw, .inl (T 0, 90, .inl r.1)), (a_gk, .inl (T 0, 18, .inl r.2))] [.ref a_g] := by
  unfold fX1_endChukka at h
  refine wrMetV (by decide +kernel) rfl (fun p e s m args below meth c Q A C hE hA hP hD hS hret ls hl => ?_)
  have hx := C.1
  have hb := C.2.1
  have hl : lv_has ls 2 [(0, .ref a_g)] := hl
  refine lv_aload_n hx hb dX1_endChukka_0 rfl (lv_at hl 0 rfl) ?_
  refine lv_iconst (v := 5) hx hb dX1_endChukka_1 (by decide) ?_
  refine lv_bipush (v := 22) hx hb dX1_endChukka_2 (by decide) ?_
  replace h := bnd h; obtain ⟨q1, e2, h⟩ := h
  refine wrVv (ws1 := [(a_g, .inr (1, [.ref a_gw, .ref a_gk])), (a_gw, .inl (T 0, 90, .inl v_gw)), (a_gk, .inl (T 0, 18, .inl q1))]) C hE hP hD hS hA (kX1_setCount l D T a_g a_gw a_gk v_gk 5 22 _ q1 e2) mX1_setCount qLX1_18 [0, 2] [1] 0 rfl rfl rfl rfl rfl rfl rfl rfl rfl ⟨rfl, rfl⟩ ⟨Nat.le_of_ble_eq_true rfl, Nat.le_of_ble_eq_true rfl⟩ rfl hl.1 rfl (Nat.le_of_ble_eq_true rfl) dX1_endChukka_4 ⟨Nat.le_of_ble_eq_true rfl, Nat.le_of_ble_eq_true rfl⟩ ?_; clear hP hD hS; intro H locs hP hD hS
  refine lv_aload_n hx hb dX1_endChukka_7 rfl (lv_at hl 0 rfl) ?_
  refine lv_bipush (v := 6) hx hb dX1_endChukka_8 (by decide) ?_
  refine lv_iconst (v := (-1)) hx hb dX1_endChukka_10 (by decide) ?_
  replace h := bnd h; obtain ⟨q3, e4, h⟩ := h
  refine wrVv (ws1 := [(a_g, .inr (1, [.ref a_gw, .ref a_gk])), (a_gw, .inl (T 0, 90, .inl v_gw)), (a_gk, .inl (T 0, 18, .inl q3))]) C hE hP hD hS hA (kX1_setCount l D T a_g a_gw a_gk q1 6 (-1) _ q3 e4) mX1_setCount qLX1_18 [0, 2] [1] 0 rfl rfl rfl rfl rfl rfl rfl rfl rfl ⟨rfl, rfl⟩ ⟨Nat.le_of_ble_eq_true rfl, Nat.le_of_ble_eq_true rfl⟩ rfl hl.1 rfl (Nat.le_of_ble_eq_true rfl) dX1_endChukka_11 ⟨Nat.le_of_ble_eq_true rfl, Nat.le_of_ble_eq_true rfl⟩ ?_; clear hP hD hS; intro H locs hP hD hS
  refine lv_aload_n hx hb dX1_endChukka_14 rfl (lv_at hl 0 rfl) ?_
  refine lv_bipush (v := 16) hx hb dX1_endChukka_15 (by decide) ?_
  refine lv_iconst (v := 0) hx hb dX1_endChukka_17 (by decide) ?_
  replace h := bnd h; obtain ⟨q5, e6, h⟩ := h
  refine wrVv (ws1 := [(a_g, .inr (1, [.ref a_gw, .ref a_gk])), (a_gw, .inl (T 0, 90, .inl v_gw)), (a_gk, .inl (T 0, 18, .inl q5))]) C hE hP hD hS hA (kX1_setCount l D T a_g a_gw a_gk q3 16 0 _ q5 e6) mX1_setCount qLX1_18 [0, 2] [1] 0 rfl rfl rfl rfl rfl rfl rfl rfl rfl ⟨rfl, rfl⟩ ⟨Nat.le_of_ble_eq_true rfl, Nat.le_of_ble_eq_true rfl⟩ rfl hl.1 rfl (Nat.le_of_ble_eq_true rfl) dX1_endChukka_18 ⟨Nat.le_of_ble_eq_true rfl, Nat.le_of_ble_eq_true rfl⟩ ?_; clear hP hD hS; intro H locs hP hD hS
  refine lv_aload_n hx hb dX1_endChukka_21 rfl (lv_at hl 0 rfl) ?_
  refine lv_bipush (v := 17) hx hb dX1_endChukka_22 (by decide) ?_
  refine lv_iconst (v := 0) hx hb dX1_endChukka_24 (by decide) ?_
  replace h := bnd h; obtain ⟨q7, e8, h⟩ := h
  refine wrVv (ws1 := [(a_g, .inr (1, [.ref a_gw, .ref a_gk])), (a_gw, .inl (T 0, 90, .inl v_gw)), (a_gk, .inl (T 0, 18, .inl q7))]) C hE hP hD hS hA (kX1_setCount l D T a_g a_gw a_gk q5 17 0 _ q7 e8) mX1_setCount qLX1_18 [0, 2] [1] 0 rfl rfl rfl rfl rfl rfl rfl rfl rfl ⟨rfl, rfl⟩ ⟨Nat.le_of_ble_eq_true rfl, Nat.le_of_ble_eq_true rfl⟩ rfl hl.1 rfl (Nat.le_of_ble_eq_true rfl) dX1_endChukka_25 ⟨Nat.le_of_ble_eq_true rfl, Nat.le_of_ble_eq_true rfl⟩ ?_; clear hP hD hS; intro H locs hP hD hS
  refine lv_iconst (v := 0) hx hb dX1_endChukka_28 (by decide) ?_
  refine lv_istore_n (lv' := [(1, .int 0), (0, .ref a_g)]) hx hb dX1_endChukka_29 rfl hl (by decide) rfl (fun ls hl => ?_)
  exact lX1_endChukka_30 C hE hA hret 64 0 v_gw q7 ⟨hP, hD⟩ hS _ (lv_sub hl [1, 0] rfl) h

def fX1_endStroke (v_gw : Nat → Int32) (v_gk : Nat → Int32) : Option (Int32 × (Nat → Int32) × (Nat → Int32)) :=
  (fX1_addCount v_gk 1 1).bind fun q1 =>
  (fX1_count q1 1).bind fun q3 =>
  if (q3 - q3 / 12 * 12) = 0 then
    (fX1_endChukka v_gw q1).bind fun q6 =>
    some (q3, q6.1, q6.2)
  else
    some (q3, v_gw, q1)
set_option maxHeartbeats 4000000 in
set_option maxRecDepth 100000 in
theorem kX1_endStroke (l : Launch) (D : va_G) (T : Nat → ClassId) (a_g a_gw a_gk : Nat) (v_gw : Nat → Int32) (v_gk : Nat → Int32) (sz : Nat) (r : Int32 × (Nat → Int32) × (Nat → Int32)) (h : fX1_endStroke v_gw v_gk = some r) : WrI l yX1_endStroke cX1_endStroke 2 .int ({ frames := 2, cells := 0, slots := 0, locals := 45 } : Room) D T sz [(a_g, .inr (1, [.ref a_gw, .ref a_gk])), (a_gw, .inl (T 0, 90, .inl v_gw)), (a_gk, .inl (T 0, 18, .inl v_gk))] [(a_g, .inr (1, [.ref a_gw, .ref a_gk])), (a_gw, .inl (T 0, 90, .inl r.2.1)), (a_gk, .inl (T 0, 18, .inl r.2.2))] [.ref a_g] r.1 := by
  unfold fX1_endStroke at h
  refine wrMet (by decide +kernel) rfl (fun p e s m args below meth c Q A C hE hA hP hD hS hret ls hl => ?_)
  have hx := C.1
  have hb := C.2.1
  have hl : lv_has ls 2 [(0, .ref a_g)] := hl
  refine lv_aload_n hx hb dX1_endStroke_0 rfl (lv_at hl 0 rfl) ?_
  refine lv_iconst (v := 1) hx hb dX1_endStroke_1 (by decide) ?_
  refine lv_iconst (v := 1) hx hb dX1_endStroke_2 (by decide) ?_
  replace h := bnd h; obtain ⟨q1, e2, h⟩ := h
  refine wrVv (ws1 := [(a_g, .inr (1, [.ref a_gw, .ref a_gk])), (a_gw, .inl (T 0, 90, .inl v_gw)), (a_gk, .inl (T 0, 18, .inl q1))]) C hE hP hD hS hA (kX1_addCount l D T a_g a_gw a_gk v_gk 1 1 _ q1 e2) mX1_addCount qLX1_65 [0, 2] [1] 0 rfl rfl rfl rfl rfl rfl rfl rfl rfl ⟨rfl, rfl⟩ ⟨Nat.le_of_ble_eq_true rfl, Nat.le_of_ble_eq_true rfl⟩ rfl hl.1 rfl (Nat.le_of_ble_eq_true rfl) dX1_endStroke_3 ⟨Nat.le_of_ble_eq_true rfl, Nat.le_of_ble_eq_true rfl⟩ ?_; clear hP hD hS; intro H locs hP hD hS
  refine lv_aload_n hx hb dX1_endStroke_6 rfl (lv_at hl 0 rfl) ?_
  refine lv_iconst (v := 1) hx hb dX1_endStroke_7 (by decide) ?_
  replace h := bnd h; obtain ⟨q3, e4, h⟩ := h
  refine rdV C hE hP (kX1_count l D T a_g a_gw a_gk q1 1 q3 e4) mX1_count qLX1_28 [0, 2] 0 rfl rfl rfl rfl ⟨rfl, rfl⟩ ⟨Nat.le_of_ble_eq_true rfl, Nat.le_of_ble_eq_true rfl⟩ rfl hl.1 rfl (Nat.le_of_ble_eq_true rfl) dX1_endStroke_8 ⟨Nat.le_of_ble_eq_true rfl, Nat.le_of_ble_eq_true rfl⟩ ?_
  refine lv_istore_n (lv' := [(1, .int q3), (0, .ref a_g)]) hx hb dX1_endStroke_11 rfl hl (by decide) rfl (fun ls hl => ?_)
  refine lv_iload_n hx hb dX1_endStroke_12 rfl (lv_at hl 0 rfl) ?_
  refine lv_bipush (v := 12) hx hb dX1_endStroke_13 (by decide) ?_
  refine lv_irem hx hb dX1_endStroke_15 (by decide) ?_
  refine lv_if_ne (tgt := 23) hx hb dX1_endStroke_16 (by decide) (fun c5 => ?_) (fun c5 => ?_)
  · replace h := ite_f c5 h
    refine lv_iload_n hx hb dX1_endStroke_23 rfl (lv_at hl 0 rfl) ?_
    replace h := Option.some.inj h
    exact hret _ _ _ _ _ _ dX1_endStroke_24 rfl (by rw [← h] <;> rfl) (by rw [← h]; exact hP) hS
  · replace h := ite_t c5 h
    refine lv_aload_n hx hb dX1_endStroke_19 rfl (lv_at hl 1 rfl) ?_
    replace h := bnd h; obtain ⟨q6, e7, h⟩ := h
    refine wrVv (ws1 := [(a_g, .inr (1, [.ref a_gw, .ref a_gk])), (a_gw, .inl (T 0, 90, .inl q6.1)), (a_gk, .inl (T 0, 18, .inl q6.2))]) C hE hP hD hS hA (kX1_endChukka l D T a_g a_gw a_gk v_gw q1 _ q6 e7) mX1_endChukka qLX1_82 [0, 1, 2] [] 0 rfl rfl rfl rfl rfl rfl rfl rfl rfl ⟨rfl, rfl⟩ ⟨Nat.le_of_ble_eq_true rfl, Nat.le_of_ble_eq_true rfl⟩ rfl hl.1 rfl (Nat.le_of_ble_eq_true rfl) dX1_endStroke_20 ⟨Nat.le_of_ble_eq_true rfl, Nat.le_of_ble_eq_true rfl⟩ ?_; clear hP hD hS; intro H locs hP hD hS
    refine lv_iload_n hx hb dX1_endStroke_23 rfl (lv_at hl 0 rfl) ?_
    replace h := Option.some.inj h
    exact hret _ _ _ _ _ _ dX1_endStroke_24 rfl (by rw [← h] <;> rfl) (by rw [← h]; exact hP) hS

def fX1_substitute (v_gw : Nat → Int32) (v_gk : Nat → Int32) (p0 : Int32) (p1 : Int32) : Option (Int32 × (Nat → Int32) × (Nat → Int32)) :=
  (fX1_of v_gw p0 0).bind fun q1 =>
  (fX1_of v_gw p0 4).bind fun q3 =>
  (fX1_set v_gw p1 4 q3).bind fun q5 =>
  (fX1_set q5 p0 4 (-1)).bind fun q7 =>
  (fX1_set q7 p0 5 0).bind fun q9 =>
  (fX1_addCount v_gk 9 1).bind fun q11 =>
  (fX1_addCount q11 (14 + q1) 1).bind fun q13 =>
  (fX1_addCount q13 (16 + q1) 1).bind fun q15 =>
  (fX1_count q15 (16 + q1)).bind fun q17 =>
  (fX1_endStroke q9 q15).bind fun q19 =>
  some ((2 - q17), q19.2.1, q19.2.2)
set_option maxHeartbeats 4000000 in
set_option maxRecDepth 100000 in
theorem kX1_substitute (l : Launch) (D : va_G) (T : Nat → ClassId) (a_g a_gw a_gk : Nat) (v_gw : Nat → Int32) (v_gk : Nat → Int32) (p0 : Int32) (p1 : Int32) (sz : Nat) (r : Int32 × (Nat → Int32) × (Nat → Int32)) (h : fX1_substitute v_gw v_gk p0 p1 = some r) : WrI l yX1_substitute cX1_substitute 5 .int ({ frames := 3, cells := 0, slots := 0, locals := 66 } : Room) D T sz [(a_g, .inr (1, [.ref a_gw, .ref a_gk])), (a_gw, .inl (T 0, 90, .inl v_gw)), (a_gk, .inl (T 0, 18, .inl v_gk))] [(a_g, .inr (1, [.ref a_gw, .ref a_gk])), (a_gw, .inl (T 0, 90, .inl r.2.1)), (a_gk, .inl (T 0, 18, .inl r.2.2))] [.ref a_g, .int p0, .int p1] r.1 := by
  unfold fX1_substitute at h
  refine wrMet (by decide +kernel) rfl (fun p e s m args below meth c Q A C hE hA hP hD hS hret ls hl => ?_)
  have hx := C.1
  have hb := C.2.1
  have hl : lv_has ls 5 [(0, .ref a_g), (1, .int p0), (2, .int p1)] := hl
  refine lv_aload_n hx hb dX1_substitute_0 rfl (lv_at hl 0 rfl) ?_
  refine lv_iload_n hx hb dX1_substitute_1 rfl (lv_at hl 1 rfl) ?_
  refine lv_iconst (v := 0) hx hb dX1_substitute_2 (by decide) ?_
  replace h := bnd h; obtain ⟨q1, e2, h⟩ := h
  refine rdV C hE hP (kX1_of l D T a_g a_gw a_gk v_gw p0 0 q1 e2) mX1_of qLX1_32 [0, 1] 0 rfl rfl rfl rfl ⟨rfl, rfl⟩ ⟨Nat.le_of_ble_eq_true rfl, Nat.le_of_ble_eq_true rfl⟩ rfl hl.1 rfl (Nat.le_of_ble_eq_true rfl) dX1_substitute_3 ⟨Nat.le_of_ble_eq_true rfl, Nat.le_of_ble_eq_true rfl⟩ ?_
  refine lv_istore_n (lv' := [(3, .int q1), (0, .ref a_g), (1, .int p0), (2, .int p1)]) hx hb dX1_substitute_6 rfl hl (by decide) rfl (fun ls hl => ?_)
  refine lv_aload_n hx hb dX1_substitute_7 rfl (lv_at hl 1 rfl) ?_
  refine lv_iload_n hx hb dX1_substitute_8 rfl (lv_at hl 3 rfl) ?_
  refine lv_iconst (v := 4) hx hb dX1_substitute_9 (by decide) ?_
  refine lv_aload_n hx hb dX1_substitute_10 rfl (lv_at hl 1 rfl) ?_
  refine lv_iload_n hx hb dX1_substitute_11 rfl (lv_at hl 2 rfl) ?_
  refine lv_iconst (v := 4) hx hb dX1_substitute_12 (by decide) ?_
  replace h := bnd h; obtain ⟨q3, e4, h⟩ := h
  refine rdV C hE hP (kX1_of l D T a_g a_gw a_gk v_gw p0 4 q3 e4) mX1_of qLX1_32 [0, 1] 0 rfl rfl rfl rfl ⟨rfl, rfl⟩ ⟨Nat.le_of_ble_eq_true rfl, Nat.le_of_ble_eq_true rfl⟩ rfl hl.1 rfl (Nat.le_of_ble_eq_true rfl) dX1_substitute_13 ⟨Nat.le_of_ble_eq_true rfl, Nat.le_of_ble_eq_true rfl⟩ ?_
  replace h := bnd h; obtain ⟨q5, e6, h⟩ := h
  refine wrVv (ws1 := [(a_g, .inr (1, [.ref a_gw, .ref a_gk])), (a_gw, .inl (T 0, 90, .inl q5)), (a_gk, .inl (T 0, 18, .inl v_gk))]) C hE hP hD hS hA (kX1_set l D T a_g a_gw a_gk v_gw p1 4 q3 _ q5 e6) mX1_set qLX1_36 [0, 1] [2] 0 rfl rfl rfl rfl rfl rfl rfl rfl rfl ⟨rfl, rfl⟩ ⟨Nat.le_of_ble_eq_true rfl, Nat.le_of_ble_eq_true rfl⟩ rfl hl.1 rfl (Nat.le_of_ble_eq_true rfl) dX1_substitute_16 ⟨Nat.le_of_ble_eq_true rfl, Nat.le_of_ble_eq_true rfl⟩ ?_; clear hP hD hS; intro H locs hP hD hS
  refine lv_aload_n hx hb dX1_substitute_19 rfl (lv_at hl 1 rfl) ?_
  refine lv_iload_n hx hb dX1_substitute_20 rfl (lv_at hl 2 rfl) ?_
  refine lv_iconst (v := 4) hx hb dX1_substitute_21 (by decide) ?_
  refine lv_iconst (v := (-1)) hx hb dX1_substitute_22 (by decide) ?_
  replace h := bnd h; obtain ⟨q7, e8, h⟩ := h
  refine wrVv (ws1 := [(a_g, .inr (1, [.ref a_gw, .ref a_gk])), (a_gw, .inl (T 0, 90, .inl q7)), (a_gk, .inl (T 0, 18, .inl v_gk))]) C hE hP hD hS hA (kX1_set l D T a_g a_gw a_gk q5 p0 4 (-1) _ q7 e8) mX1_set qLX1_36 [0, 1] [2] 0 rfl rfl rfl rfl rfl rfl rfl rfl rfl ⟨rfl, rfl⟩ ⟨Nat.le_of_ble_eq_true rfl, Nat.le_of_ble_eq_true rfl⟩ rfl hl.1 rfl (Nat.le_of_ble_eq_true rfl) dX1_substitute_23 ⟨Nat.le_of_ble_eq_true rfl, Nat.le_of_ble_eq_true rfl⟩ ?_; clear hP hD hS; intro H locs hP hD hS
  refine lv_aload_n hx hb dX1_substitute_26 rfl (lv_at hl 1 rfl) ?_
  refine lv_iload_n hx hb dX1_substitute_27 rfl (lv_at hl 2 rfl) ?_
  refine lv_iconst (v := 5) hx hb dX1_substitute_28 (by decide) ?_
  refine lv_iconst (v := 0) hx hb dX1_substitute_29 (by decide) ?_
  replace h := bnd h; obtain ⟨q9, e10, h⟩ := h
  refine wrVv (ws1 := [(a_g, .inr (1, [.ref a_gw, .ref a_gk])), (a_gw, .inl (T 0, 90, .inl q9)), (a_gk, .inl (T 0, 18, .inl v_gk))]) C hE hP hD hS hA (kX1_set l D T a_g a_gw a_gk q7 p0 5 0 _ q9 e10) mX1_set qLX1_36 [0, 1] [2] 0 rfl rfl rfl rfl rfl rfl rfl rfl rfl ⟨rfl, rfl⟩ ⟨Nat.le_of_ble_eq_true rfl, Nat.le_of_ble_eq_true rfl⟩ rfl hl.1 rfl (Nat.le_of_ble_eq_true rfl) dX1_substitute_30 ⟨Nat.le_of_ble_eq_true rfl, Nat.le_of_ble_eq_true rfl⟩ ?_; clear hP hD hS; intro H locs hP hD hS
  refine lv_aload_n hx hb dX1_substitute_33 rfl (lv_at hl 1 rfl) ?_
  refine lv_bipush (v := 9) hx hb dX1_substitute_34 (by decide) ?_
  refine lv_iconst (v := 1) hx hb dX1_substitute_36 (by decide) ?_
  replace h := bnd h; obtain ⟨q11, e12, h⟩ := h
  refine wrVv (ws1 := [(a_g, .inr (1, [.ref a_gw, .ref a_gk])), (a_gw, .inl (T 0, 90, .inl q9)), (a_gk, .inl (T 0, 18, .inl q11))]) C hE hP hD hS hA (kX1_addCount l D T a_g a_gw a_gk v_gk 9 1 _ q11 e12) mX1_addCount qLX1_65 [0, 2] [1] 0 rfl rfl rfl rfl rfl rfl rfl rfl rfl ⟨rfl, rfl⟩ ⟨Nat.le_of_ble_eq_true rfl, Nat.le_of_ble_eq_true rfl⟩ rfl hl.1 rfl (Nat.le_of_ble_eq_true rfl) dX1_substitute_37 ⟨Nat.le_of_ble_eq_true rfl, Nat.le_of_ble_eq_true rfl⟩ ?_; clear hP hD hS; intro H locs hP hD hS
  refine lv_aload_n hx hb dX1_substitute_40 rfl (lv_at hl 1 rfl) ?_
  refine lv_bipush (v := 14) hx hb dX1_substitute_41 (by decide) ?_
  refine lv_iload_n hx hb dX1_substitute_43 rfl (lv_at hl 0 rfl) ?_
  refine lv_iadd hx hb dX1_substitute_44 ?_
  refine lv_iconst (v := 1) hx hb dX1_substitute_45 (by decide) ?_
  replace h := bnd h; obtain ⟨q13, e14, h⟩ := h
  refine wrVv (ws1 := [(a_g, .inr (1, [.ref a_gw, .ref a_gk])), (a_gw, .inl (T 0, 90, .inl q9)), (a_gk, .inl (T 0, 18, .inl q13))]) C hE hP hD hS hA (kX1_addCount l D T a_g a_gw a_gk q11 (14 + q1) 1 _ q13 e14) mX1_addCount qLX1_65 [0, 2] [1] 0 rfl rfl rfl rfl rfl rfl rfl rfl rfl ⟨rfl, rfl⟩ ⟨Nat.le_of_ble_eq_true rfl, Nat.le_of_ble_eq_true rfl⟩ rfl hl.1 rfl (Nat.le_of_ble_eq_true rfl) dX1_substitute_46 ⟨Nat.le_of_ble_eq_true rfl, Nat.le_of_ble_eq_true rfl⟩ ?_; clear hP hD hS; intro H locs hP hD hS
  refine lv_aload_n hx hb dX1_substitute_49 rfl (lv_at hl 1 rfl) ?_
  refine lv_bipush (v := 16) hx hb dX1_substitute_50 (by decide) ?_
  refine lv_iload_n hx hb dX1_substitute_52 rfl (lv_at hl 0 rfl) ?_
  refine lv_iadd hx hb dX1_substitute_53 ?_
  refine lv_iconst (v := 1) hx hb dX1_substitute_54 (by decide) ?_
  replace h := bnd h; obtain ⟨q15, e16, h⟩ := h
  refine wrVv (ws1 := [(a_g, .inr (1, [.ref a_gw, .ref a_gk])), (a_gw, .inl (T 0, 90, .inl q9)), (a_gk, .inl (T 0, 18, .inl q15))]) C hE hP hD hS hA (kX1_addCount l D T a_g a_gw a_gk q13 (16 + q1) 1 _ q15 e16) mX1_addCount qLX1_65 [0, 2] [1] 0 rfl rfl rfl rfl rfl rfl rfl rfl rfl ⟨rfl, rfl⟩ ⟨Nat.le_of_ble_eq_true rfl, Nat.le_of_ble_eq_true rfl⟩ rfl hl.1 rfl (Nat.le_of_ble_eq_true rfl) dX1_substitute_55 ⟨Nat.le_of_ble_eq_true rfl, Nat.le_of_ble_eq_true rfl⟩ ?_; clear hP hD hS; intro H locs hP hD hS
  refine lv_iconst (v := 2) hx hb dX1_substitute_58 (by decide) ?_
  refine lv_aload_n hx hb dX1_substitute_59 rfl (lv_at hl 1 rfl) ?_
  refine lv_bipush (v := 16) hx hb dX1_substitute_60 (by decide) ?_
  refine lv_iload_n hx hb dX1_substitute_62 rfl (lv_at hl 0 rfl) ?_
  refine lv_iadd hx hb dX1_substitute_63 ?_
  replace h := bnd h; obtain ⟨q17, e18, h⟩ := h
  refine rdV C hE hP (kX1_count l D T a_g a_gw a_gk q15 (16 + q1) q17 e18) mX1_count qLX1_28 [0, 2] 0 rfl rfl rfl rfl ⟨rfl, rfl⟩ ⟨Nat.le_of_ble_eq_true rfl, Nat.le_of_ble_eq_true rfl⟩ rfl hl.1 rfl (Nat.le_of_ble_eq_true rfl) dX1_substitute_64 ⟨Nat.le_of_ble_eq_true rfl, Nat.le_of_ble_eq_true rfl⟩ ?_
  refine lv_isub hx hb dX1_substitute_67 ?_
  refine lv_istore (lv' := [(4, .int (2 - q17)), (3, .int q1), (0, .ref a_g), (1, .int p0), (2, .int p1)]) hx hb dX1_substitute_68 hl (by decide) rfl (fun ls hl => ?_)
  refine lv_aload_n hx hb dX1_substitute_70 rfl (lv_at hl 2 rfl) ?_
  replace h := bnd h; obtain ⟨q19, e20, h⟩ := h
  refine wrVi (ws1 := [(a_g, .inr (1, [.ref a_gw, .ref a_gk])), (a_gw, .inl (T 0, 90, .inl q19.2.1)), (a_gk, .inl (T 0, 18, .inl q19.2.2))]) C hE hP hD hS hA (kX1_endStroke l D T a_g a_gw a_gk q9 q15 _ q19 e20) mX1_endStroke qLX1_68 [0, 1, 2] [] 0 rfl rfl rfl rfl rfl rfl rfl rfl rfl ⟨rfl, rfl⟩ ⟨Nat.le_of_ble_eq_true rfl, Nat.le_of_ble_eq_true rfl⟩ rfl hl.1 rfl (Nat.le_of_ble_eq_true rfl) dX1_substitute_71 ⟨Nat.le_of_ble_eq_true rfl, Nat.le_of_ble_eq_true rfl⟩ ?_; clear hP hD hS; intro H locs hP hD hS
  refine lv_pop hx hb dX1_substitute_74 rfl ?_
  refine lv_iload hx hb dX1_substitute_75 (lv_at hl 0 rfl) ?_
  replace h := Option.some.inj h
  exact hret _ _ _ _ _ _ dX1_substitute_77 rfl (by rw [← h] <;> rfl) (by rw [← h]; exact hP) hS

def fX1_move (v_gw : Nat → Int32) (v_gk : Nat → Int32) (p0 : Int32) (p1 : Int32) (p2 : Int32) : Option (Int32 × (Nat → Int32) × (Nat → Int32)) :=
  (fX1_set v_gw p0 4 p1).bind fun q1 =>
  (fX1_add q1 p0 3 (-p2)).bind fun q3 =>
  (fX1_set q3 p0 5 0).bind fun q5 =>
  (fX1_endStroke q5 v_gk).bind fun q7 =>
  some (p2, q7.2.1, q7.2.2)
set_option maxHeartbeats 4000000 in
set_option maxRecDepth 100000 in
theorem kX1_move (l : Launch) (D : va_G) (T : Nat → ClassId) (a_g a_gw a_gk : Nat) (v_gw : Nat → Int32) (v_gk : Nat → Int32) (p0 : Int32) (p1 : Int32) (p2 : Int32) (sz : Nat) (r : Int32 × (Nat → Int32) × (Nat → Int32)) (h : fX1_move v_gw v_gk p0 p1 p2 = some r) : WrI l yX1_move cX1_move 4 .int ({ frames := 3, cells := 0, slots := 0, locals := 66 } : Room) D T sz [(a_g, .inr (1, [.ref a_gw, .ref a_gk])), (a_gw, .inl (T 0, 90, .inl v_gw)), (a_gk, .inl (T 0, 18, .inl v_gk))] [(a_g, .inr (1, [.ref a_gw, .ref a_gk])), (a_gw, .inl (T 0, 90, .inl r.2.1)), (a_gk, .inl (T 0, 18, .inl r.2.2))] [.ref a_g, .int p0, .int p1, .int p2] r.1 := by
  unfold fX1_move at h
  refine wrMet (by decide +kernel) rfl (fun p e s m args below meth c Q A C hE hA hP hD hS hret ls hl => ?_)
  have hx := C.1
  have hb := C.2.1
  have hl : lv_has ls 4 [(0, .ref a_g), (1, .int p0), (2, .int p1), (3, .int p2)] := hl
  refine lv_aload_n hx hb dX1_move_0 rfl (lv_at hl 0 rfl) ?_
  refine lv_iload_n hx hb dX1_move_1 rfl (lv_at hl 1 rfl) ?_
  refine lv_iconst (v := 4) hx hb dX1_move_2 (by decide) ?_
  refine lv_iload_n hx hb dX1_move_3 rfl (lv_at hl 2 rfl) ?_
  replace h := bnd h; obtain ⟨q1, e2, h⟩ := h
  refine wrVv (ws1 := [(a_g, .inr (1, [.ref a_gw, .ref a_gk])), (a_gw, .inl (T 0, 90, .inl q1)), (a_gk, .inl (T 0, 18, .inl v_gk))]) C hE hP hD hS hA (kX1_set l D T a_g a_gw a_gk v_gw p0 4 p1 _ q1 e2) mX1_set qLX1_36 [0, 1] [2] 0 rfl rfl rfl rfl rfl rfl rfl rfl rfl ⟨rfl, rfl⟩ ⟨Nat.le_of_ble_eq_true rfl, Nat.le_of_ble_eq_true rfl⟩ rfl hl.1 rfl (Nat.le_of_ble_eq_true rfl) dX1_move_4 ⟨Nat.le_of_ble_eq_true rfl, Nat.le_of_ble_eq_true rfl⟩ ?_; clear hP hD hS; intro H locs hP hD hS
  refine lv_aload_n hx hb dX1_move_7 rfl (lv_at hl 0 rfl) ?_
  refine lv_iload_n hx hb dX1_move_8 rfl (lv_at hl 1 rfl) ?_
  refine lv_iconst (v := 3) hx hb dX1_move_9 (by decide) ?_
  refine lv_iload_n hx hb dX1_move_10 rfl (lv_at hl 3 rfl) ?_
  refine lv_ineg hx hb dX1_move_11 ?_
  replace h := bnd h; obtain ⟨q3, e4, h⟩ := h
  refine wrVv (ws1 := [(a_g, .inr (1, [.ref a_gw, .ref a_gk])), (a_gw, .inl (T 0, 90, .inl q3)), (a_gk, .inl (T 0, 18, .inl v_gk))]) C hE hP hD hS hA (kX1_add l D T a_g a_gw a_gk q1 p0 3 (-p2) _ q3 e4) mX1_add qLX1_72 [0, 1] [2] 0 rfl rfl rfl rfl rfl rfl rfl rfl rfl ⟨rfl, rfl⟩ ⟨Nat.le_of_ble_eq_true rfl, Nat.le_of_ble_eq_true rfl⟩ rfl hl.1 rfl (Nat.le_of_ble_eq_true rfl) dX1_move_12 ⟨Nat.le_of_ble_eq_true rfl, Nat.le_of_ble_eq_true rfl⟩ ?_; clear hP hD hS; intro H locs hP hD hS
  refine lv_aload_n hx hb dX1_move_15 rfl (lv_at hl 0 rfl) ?_
  refine lv_iload_n hx hb dX1_move_16 rfl (lv_at hl 1 rfl) ?_
  refine lv_iconst (v := 5) hx hb dX1_move_17 (by decide) ?_
  refine lv_iconst (v := 0) hx hb dX1_move_18 (by decide) ?_
  replace h := bnd h; obtain ⟨q5, e6, h⟩ := h
  refine wrVv (ws1 := [(a_g, .inr (1, [.ref a_gw, .ref a_gk])), (a_gw, .inl (T 0, 90, .inl q5)), (a_gk, .inl (T 0, 18, .inl v_gk))]) C hE hP hD hS hA (kX1_set l D T a_g a_gw a_gk q3 p0 5 0 _ q5 e6) mX1_set qLX1_36 [0, 1] [2] 0 rfl rfl rfl rfl rfl rfl rfl rfl rfl ⟨rfl, rfl⟩ ⟨Nat.le_of_ble_eq_true rfl, Nat.le_of_ble_eq_true rfl⟩ rfl hl.1 rfl (Nat.le_of_ble_eq_true rfl) dX1_move_19 ⟨Nat.le_of_ble_eq_true rfl, Nat.le_of_ble_eq_true rfl⟩ ?_; clear hP hD hS; intro H locs hP hD hS
  refine lv_aload_n hx hb dX1_move_22 rfl (lv_at hl 0 rfl) ?_
  replace h := bnd h; obtain ⟨q7, e8, h⟩ := h
  refine wrVi (ws1 := [(a_g, .inr (1, [.ref a_gw, .ref a_gk])), (a_gw, .inl (T 0, 90, .inl q7.2.1)), (a_gk, .inl (T 0, 18, .inl q7.2.2))]) C hE hP hD hS hA (kX1_endStroke l D T a_g a_gw a_gk q5 v_gk _ q7 e8) mX1_endStroke qLX1_68 [0, 1, 2] [] 0 rfl rfl rfl rfl rfl rfl rfl rfl rfl ⟨rfl, rfl⟩ ⟨Nat.le_of_ble_eq_true rfl, Nat.le_of_ble_eq_true rfl⟩ rfl hl.1 rfl (Nat.le_of_ble_eq_true rfl) dX1_move_23 ⟨Nat.le_of_ble_eq_true rfl, Nat.le_of_ble_eq_true rfl⟩ ?_; clear hP hD hS; intro H locs hP hD hS
  refine lv_pop hx hb dX1_move_26 rfl ?_
  refine lv_iload_n hx hb dX1_move_27 rfl (lv_at hl 3 rfl) ?_
  replace h := Option.some.inj h
  exact hret _ _ _ _ _ _ dX1_move_28 rfl (by rw [← h] <;> rfl) (by rw [← h]; exact hP) hS

def fX1_countStrike (v_gw : Nat → Int32) (v_gk : Nat → Int32) (p0 : Int32) (p1 : Int32) : Option ((Nat → Int32) × (Nat → Int32)) :=
  (fX1_add v_gw p0 3 (-1)).bind fun q1 =>
  (fX1_add q1 p0 8 1).bind fun q3 =>
  (fX1_addCount v_gk 7 1).bind fun q5 =>
  if p1 = 0 then
    some (q3, q5)
  else
    (fX1_add q3 p0 7 1).bind fun q8 =>
    (fX1_addCount q5 8 1).bind fun q10 =>
    some (q8, q10)
set_option maxHeartbeats 4000000 in
set_option maxRecDepth 100000 in
theorem kX1_countStrike (l : Launch) (D : va_G) (T : Nat → ClassId) (a_g a_gw a_gk : Nat) (v_gw : Nat → Int32) (v_gk : Nat → Int32) (p0 : Int32) (p1 : Int32) (sz : Nat) (r : (Nat → Int32) × (Nat → Int32)) (h : fX1_countStrike v_gw v_gk p0 p1 = some r) : WrV l yX1_countStrike cX1_countStrike 3 ({ frames := 2, cells := 0, slots := 0, locals := 47 } : Room) D T sz [(a_g, .inr (1, [.ref a_gw, .ref a_gk])), (a_gw, .inl (T 0, 90, .inl v_gw)), (a_gk, .inl (T 0, 18, .inl v_gk))] [(a_g, .inr (1, [.ref a_gw, .ref a_gk])), (a_gw, .inl (T 0, 90, .inl r.1)), (a_gk, .inl (T 0, 18, .inl r.2))] [.ref a_g, .int p0, .int p1] := by
  unfold fX1_countStrike at h
  refine wrMetV (by decide +kernel) rfl (fun p e s m args below meth c Q A C hE hA hP hD hS hret ls hl => ?_)
  have hx := C.1
  have hb := C.2.1
  have hl : lv_has ls 3 [(0, .ref a_g), (1, .int p0), (2, .int p1)] := hl
  refine lv_aload_n hx hb dX1_countStrike_0 rfl (lv_at hl 0 rfl) ?_
  refine lv_iload_n hx hb dX1_countStrike_1 rfl (lv_at hl 1 rfl) ?_
  refine lv_iconst (v := 3) hx hb dX1_countStrike_2 (by decide) ?_
  refine lv_iconst (v := (-1)) hx hb dX1_countStrike_3 (by decide) ?_
  replace h := bnd h; obtain ⟨q1, e2, h⟩ := h
  refine wrVv (ws1 := [(a_g, .inr (1, [.ref a_gw, .ref a_gk])), (a_gw, .inl (T 0, 90, .inl q1)), (a_gk, .inl (T 0, 18, .inl v_gk))]) C hE hP hD hS hA (kX1_add l D T a_g a_gw a_gk v_gw p0 3 (-1) _ q1 e2) mX1_add qLX1_72 [0, 1] [2] 0 rfl rfl rfl rfl rfl rfl rfl rfl rfl ⟨rfl, rfl⟩ ⟨Nat.le_of_ble_eq_true rfl, Nat.le_of_ble_eq_true rfl⟩ rfl hl.1 rfl (Nat.le_of_ble_eq_true rfl) dX1_countStrike_4 ⟨Nat.le_of_ble_eq_true rfl, Nat.le_of_ble_eq_true rfl⟩ ?_; clear hP hD hS; intro H locs hP hD hS
  refine lv_aload_n hx hb dX1_countStrike_7 rfl (lv_at hl 0 rfl) ?_
  refine lv_iload_n hx hb dX1_countStrike_8 rfl (lv_at hl 1 rfl) ?_
  refine lv_bipush (v := 8) hx hb dX1_countStrike_9 (by decide) ?_
  refine lv_iconst (v := 1) hx hb dX1_countStrike_11 (by decide) ?_
  replace h := bnd h; obtain ⟨q3, e4, h⟩ := h
  refine wrVv (ws1 := [(a_g, .inr (1, [.ref a_gw, .ref a_gk])), (a_gw, .inl (T 0, 90, .inl q3)), (a_gk, .inl (T 0, 18, .inl v_gk))]) C hE hP hD hS hA (kX1_add l D T a_g a_gw a_gk q1 p0 8 1 _ q3 e4) mX1_add qLX1_72 [0, 1] [2] 0 rfl rfl rfl rfl rfl rfl rfl rfl rfl ⟨rfl, rfl⟩ ⟨Nat.le_of_ble_eq_true rfl, Nat.le_of_ble_eq_true rfl⟩ rfl hl.1 rfl (Nat.le_of_ble_eq_true rfl) dX1_countStrike_12 ⟨Nat.le_of_ble_eq_true rfl, Nat.le_of_ble_eq_true rfl⟩ ?_; clear hP hD hS; intro H locs hP hD hS
  refine lv_aload_n hx hb dX1_countStrike_15 rfl (lv_at hl 0 rfl) ?_
  refine lv_bipush (v := 7) hx hb dX1_countStrike_16 (by decide) ?_
  refine lv_iconst (v := 1) hx hb dX1_countStrike_18 (by decide) ?_
  replace h := bnd h; obtain ⟨q5, e6, h⟩ := h
  refine wrVv (ws1 := [(a_g, .inr (1, [.ref a_gw, .ref a_gk])), (a_gw, .inl (T 0, 90, .inl q3)), (a_gk, .inl (T 0, 18, .inl q5))]) C hE hP hD hS hA (kX1_addCount l D T a_g a_gw a_gk v_gk 7 1 _ q5 e6) mX1_addCount qLX1_65 [0, 2] [1] 0 rfl rfl rfl rfl rfl rfl rfl rfl rfl ⟨rfl, rfl⟩ ⟨Nat.le_of_ble_eq_true rfl, Nat.le_of_ble_eq_true rfl⟩ rfl hl.1 rfl (Nat.le_of_ble_eq_true rfl) dX1_countStrike_19 ⟨Nat.le_of_ble_eq_true rfl, Nat.le_of_ble_eq_true rfl⟩ ?_; clear hP hD hS; intro H locs hP hD hS
  refine lv_iload_n hx hb dX1_countStrike_22 rfl (lv_at hl 2 rfl) ?_
  refine lv_if_eq (tgt := 41) hx hb dX1_countStrike_23 (by decide) (fun c7 => ?_) (fun c7 => ?_)
  · replace h := ite_t c7 h
    replace h := Option.some.inj h
    exact hret _ _ _ _ dX1_countStrike_41 (by rw [← h]; exact hP) hS
  · replace h := ite_f c7 h
    refine lv_aload_n hx hb dX1_countStrike_26 rfl (lv_at hl 0 rfl) ?_
    refine lv_iload_n hx hb dX1_countStrike_27 rfl (lv_at hl 1 rfl) ?_
    refine lv_bipush (v := 7) hx hb dX1_countStrike_28 (by decide) ?_
    refine lv_iconst (v := 1) hx hb dX1_countStrike_30 (by decide) ?_
    replace h := bnd h; obtain ⟨q8, e9, h⟩ := h
    refine wrVv (ws1 := [(a_g, .inr (1, [.ref a_gw, .ref a_gk])), (a_gw, .inl (T 0, 90, .inl q8)), (a_gk, .inl (T 0, 18, .inl q5))]) C hE hP hD hS hA (kX1_add l D T a_g a_gw a_gk q3 p0 7 1 _ q8 e9) mX1_add qLX1_72 [0, 1] [2] 0 rfl rfl rfl rfl rfl rfl rfl rfl rfl ⟨rfl, rfl⟩ ⟨Nat.le_of_ble_eq_true rfl, Nat.le_of_ble_eq_true rfl⟩ rfl hl.1 rfl (Nat.le_of_ble_eq_true rfl) dX1_countStrike_31 ⟨Nat.le_of_ble_eq_true rfl, Nat.le_of_ble_eq_true rfl⟩ ?_; clear hP hD hS; intro H locs hP hD hS
    refine lv_aload_n hx hb dX1_countStrike_34 rfl (lv_at hl 0 rfl) ?_
    refine lv_bipush (v := 8) hx hb dX1_countStrike_35 (by decide) ?_
    refine lv_iconst (v := 1) hx hb dX1_countStrike_37 (by decide) ?_
    replace h := bnd h; obtain ⟨q10, e11, h⟩ := h
    refine wrVv (ws1 := [(a_g, .inr (1, [.ref a_gw, .ref a_gk])), (a_gw, .inl (T 0, 90, .inl q8)), (a_gk, .inl (T 0, 18, .inl q10))]) C hE hP hD hS hA (kX1_addCount l D T a_g a_gw a_gk q5 8 1 _ q10 e11) mX1_addCount qLX1_65 [0, 2] [1] 0 rfl rfl rfl rfl rfl rfl rfl rfl rfl ⟨rfl, rfl⟩ ⟨Nat.le_of_ble_eq_true rfl, Nat.le_of_ble_eq_true rfl⟩ rfl hl.1 rfl (Nat.le_of_ble_eq_true rfl) dX1_countStrike_38 ⟨Nat.le_of_ble_eq_true rfl, Nat.le_of_ble_eq_true rfl⟩ ?_; clear hP hD hS; intro H locs hP hD hS
    replace h := Option.some.inj h
    exact hret _ _ _ _ dX1_countStrike_41 (by rw [← h]; exact hP) hS

def fX1_countGoal (v_gw : Nat → Int32) (v_gk : Nat → Int32) (p0 : Int32) (p1 : Int32) : Option ((Nat → Int32) × (Nat → Int32)) :=
  (fX1_addCount v_gk (3 + p1) 1).bind fun q1 =>
  (fX1_of v_gw p0 0).bind fun q3 =>
  if q3 = p1 then
    (fX1_add v_gw p0 6 1).bind fun q6 =>
    some (q6, q1)
  else
    some (v_gw, q1)
set_option maxHeartbeats 4000000 in
set_option maxRecDepth 100000 in
theorem kX1_countGoal (l : Launch) (D : va_G) (T : Nat → ClassId) (a_g a_gw a_gk : Nat) (v_gw : Nat → Int32) (v_gk : Nat → Int32) (p0 : Int32) (p1 : Int32) (sz : Nat) (r : (Nat → Int32) × (Nat → Int32)) (h : fX1_countGoal v_gw v_gk p0 p1 = some r) : WrV l yX1_countGoal cX1_countGoal 3 ({ frames := 2, cells := 0, slots := 0, locals := 47 } : Room) D T sz [(a_g, .inr (1, [.ref a_gw, .ref a_gk])), (a_gw, .inl (T 0, 90, .inl v_gw)), (a_gk, .inl (T 0, 18, .inl v_gk))] [(a_g, .inr (1, [.ref a_gw, .ref a_gk])), (a_gw, .inl (T 0, 90, .inl r.1)), (a_gk, .inl (T 0, 18, .inl r.2))] [.ref a_g, .int p0, .int p1] := by
  unfold fX1_countGoal at h
  refine wrMetV (by decide +kernel) rfl (fun p e s m args below meth c Q A C hE hA hP hD hS hret ls hl => ?_)
  have hx := C.1
  have hb := C.2.1
  have hl : lv_has ls 3 [(0, .ref a_g), (1, .int p0), (2, .int p1)] := hl
  refine lv_aload_n hx hb dX1_countGoal_0 rfl (lv_at hl 0 rfl) ?_
  refine lv_iconst (v := 3) hx hb dX1_countGoal_1 (by decide) ?_
  refine lv_iload_n hx hb dX1_countGoal_2 rfl (lv_at hl 2 rfl) ?_
  refine lv_iadd hx hb dX1_countGoal_3 ?_
  refine lv_iconst (v := 1) hx hb dX1_countGoal_4 (by decide) ?_
  replace h := bnd h; obtain ⟨q1, e2, h⟩ := h
  refine wrVv (ws1 := [(a_g, .inr (1, [.ref a_gw, .ref a_gk])), (a_gw, .inl (T 0, 90, .inl v_gw)), (a_gk, .inl (T 0, 18, .inl q1))]) C hE hP hD hS hA (kX1_addCount l D T a_g a_gw a_gk v_gk (3 + p1) 1 _ q1 e2) mX1_addCount qLX1_65 [0, 2] [1] 0 rfl rfl rfl rfl rfl rfl rfl rfl rfl ⟨rfl, rfl⟩ ⟨Nat.le_of_ble_eq_true rfl, Nat.le_of_ble_eq_true rfl⟩ rfl hl.1 rfl (Nat.le_of_ble_eq_true rfl) dX1_countGoal_5 ⟨Nat.le_of_ble_eq_true rfl, Nat.le_of_ble_eq_true rfl⟩ ?_; clear hP hD hS; intro H locs hP hD hS
  refine lv_aload_n hx hb dX1_countGoal_8 rfl (lv_at hl 0 rfl) ?_
  refine lv_iload_n hx hb dX1_countGoal_9 rfl (lv_at hl 1 rfl) ?_
  refine lv_iconst (v := 0) hx hb dX1_countGoal_10 (by decide) ?_
  replace h := bnd h; obtain ⟨q3, e4, h⟩ := h
  refine rdV C hE hP (kX1_of l D T a_g a_gw a_gk v_gw p0 0 q3 e4) mX1_of qLX1_32 [0, 1] 0 rfl rfl rfl rfl ⟨rfl, rfl⟩ ⟨Nat.le_of_ble_eq_true rfl, Nat.le_of_ble_eq_true rfl⟩ rfl hl.1 rfl (Nat.le_of_ble_eq_true rfl) dX1_countGoal_11 ⟨Nat.le_of_ble_eq_true rfl, Nat.le_of_ble_eq_true rfl⟩ ?_
  refine lv_iload_n hx hb dX1_countGoal_14 rfl (lv_at hl 2 rfl) ?_
  refine lv_icmp_ne (tgt := 26) hx hb dX1_countGoal_15 (by decide) (fun c5 => ?_) (fun c5 => ?_)
  · replace h := ite_f c5 h
    replace h := Option.some.inj h
    exact hret _ _ _ _ dX1_countGoal_26 (by rw [← h]; exact hP) hS
  · replace h := ite_t c5 h
    refine lv_aload_n hx hb dX1_countGoal_18 rfl (lv_at hl 0 rfl) ?_
    refine lv_iload_n hx hb dX1_countGoal_19 rfl (lv_at hl 1 rfl) ?_
    refine lv_bipush (v := 6) hx hb dX1_countGoal_20 (by decide) ?_
    refine lv_iconst (v := 1) hx hb dX1_countGoal_22 (by decide) ?_
    replace h := bnd h; obtain ⟨q6, e7, h⟩ := h
    refine wrVv (ws1 := [(a_g, .inr (1, [.ref a_gw, .ref a_gk])), (a_gw, .inl (T 0, 90, .inl q6)), (a_gk, .inl (T 0, 18, .inl q1))]) C hE hP hD hS hA (kX1_add l D T a_g a_gw a_gk v_gw p0 6 1 _ q6 e7) mX1_add qLX1_72 [0, 1] [2] 0 rfl rfl rfl rfl rfl rfl rfl rfl rfl ⟨rfl, rfl⟩ ⟨Nat.le_of_ble_eq_true rfl, Nat.le_of_ble_eq_true rfl⟩ rfl hl.1 rfl (Nat.le_of_ble_eq_true rfl) dX1_countGoal_23 ⟨Nat.le_of_ble_eq_true rfl, Nat.le_of_ble_eq_true rfl⟩ ?_; clear hP hD hS; intro H locs hP hD hS
    replace h := Option.some.inj h
    exact hret _ _ _ _ dX1_countGoal_26 (by rw [← h]; exact hP) hS

def fX1_hit_138 (x0 : Int32) (v_gw : Nat → Int32) (v_gk : Nat → Int32) : Option (Int32 × (Nat → Int32) × (Nat → Int32)) :=
  (fX1_endStroke v_gw v_gk).bind fun q26 =>
  some (x0, q26.2.1, q26.2.2)
def fX1_hit_124 (l2 : Int32) (l6 : Int32) (v_gw : Nat → Int32) (v_gk : Nat → Int32) : Option (Int32 × (Nat → Int32) × (Nat → Int32)) :=
  if l6 = 0 then
    (fX1_count v_gk 5).bind fun q24 =>
    fX1_hit_138 q24 v_gw v_gk
  else
    fX1_hit_138 l2 v_gw v_gk
def fX1_hit_121 (x1 : Int32) (x2 : Int32) (l2 : Int32) (l6 : Int32) (v_gw : Nat → Int32) (v_gk : Nat → Int32) : Option (Int32 × (Nat → Int32) × (Nat → Int32)) :=
  (fX1_setCount v_gk x1 x2).bind fun q21 =>
  fX1_hit_124 l2 l6 v_gw q21
def fX1_hit_73 (x1 : Int32) (x2 : Int32) (l1 : Int32) (l2 : Int32) (l3 : Int32) (l4 : Int32) (l6 : Int32) (l7 : Int32) (v_gw : Nat → Int32) (v_gk : Nat → Int32) : Option (Int32 × (Nat → Int32) × (Nat → Int32)) :=
  (fX1_setCount v_gk x1 x2).bind fun q12 =>
  if l6 = 0 then
    if l4 = 0 then
      fX1_hit_121 6 (if l3 = 0 then l7 else (1 - l7)) l2 l6 v_gw q12
    else
      fX1_hit_124 l2 l6 v_gw q12
  else
    (fX1_countGoal v_gw q12 l1 (l2 - 45)).bind fun q17 =>
    (fX1_setCount q17.2 6 (-1)).bind fun q19 =>
    fX1_hit_124 l2 l6 q17.1 q19
def fX1_hit_57 (x1 : Int32) (x2 : Int32) (l1 : Int32) (l2 : Int32) (l3 : Int32) (l4 : Int32) (l5 : Int32) (l6 : Int32) (l7 : Int32) (v_gw : Nat → Int32) (v_gk : Nat → Int32) : Option (Int32 × (Nat → Int32) × (Nat → Int32)) :=
  (fX1_addCount v_gk x1 x2).bind fun q9 =>
  fX1_hit_73 5 (if l5 = 0 then l2 else 22) l1 l2 l3 l4 l6 l7 v_gw q9
def fX1_hit_28 (x0 : Int32) (l1 : Int32) (l2 : Int32) (l3 : Int32) (l4 : Int32) (l5 : Int32) (v_gw : Nat → Int32) (v_gk : Nat → Int32) : Option (Int32 × (Nat → Int32) × (Nat → Int32)) :=
  (fX1_of v_gw l1 0).bind fun q4 =>
  (fX1_countStrike v_gw v_gk l1 l4).bind fun q6 =>
  fX1_hit_57 11 (if l3 = 0 then 0 else 1) l1 l2 l3 l4 l5 x0 q4 q6.1 q6.2
def fX1_hit_11 (x0 : Int32) (l1 : Int32) (l2 : Int32) (l3 : Int32) (l4 : Int32) (v_gw : Nat → Int32) (v_gk : Nat → Int32) : Option (Int32 × (Nat → Int32) × (Nat → Int32)) :=
  fX1_hit_28 (if x0 = 0 then 0 else (if l4 = 0 then 1 else 0)) l1 l2 l3 l4 x0 v_gw v_gk
def fX1_hit (v_gw : Nat → Int32) (v_gk : Nat → Int32) (p0 : Int32) (p1 : Int32) (p2 : Int32) (p3 : Int32) : Option (Int32 × (Nat → Int32) × (Nat → Int32)) :=
  fX1_hit_11 (if p1 < 45 then 0 else 1) p0 p1 p2 p3 v_gw v_gk
set_option maxHeartbeats 4000000 in
set_option maxRecDepth 100000 in
theorem lX1_hit_138 {p : Program} {l : Launch} {e : Env} {s : State} {m : MethodId} {args : Array Value} {below : List Frame} {meth : Method} {c : Code} {Q : State → Prop} {D : va_G} {T : Nat → ClassId} {a_g a_gw a_gk : Nat} {A : Nat → Prop} {r : Int32 × (Nat → Int32) × (Nat → Int32)} (C : CallFix p m c cX1_hit 9 s args aw RX1) (hE : eK D T s) (hA : ∀ q : Nat, s.heap.size ≤ q → A q) (hret : WrRet p l e ({ frames := 3, cells := 0, slots := 0, locals := 69 } : Room) s m args below meth c Q cX1_hit .int D A [(a_g, .inr (1, [.ref a_gw, .ref a_gk])), (a_gw, .inl (T 0, 90, .inl r.2.1)), (a_gk, .inl (T 0, 18, .inl r.2.2))] r.1) (x0 : Int32) (v_gw : Nat → Int32) (v_gk : Nat → Int32) {H : Heap} {locs : List Loc} (hPD : va_PD D A [(a_g, .inr (1, [.ref a_gw, .ref a_gk])), (a_gw, .inl (T 0, 90, .inl v_gw)), (a_gk, .inl (T 0, 18, .inl v_gk))] H) (hS : va_S A s.heap H locs) (ls : Array Slot) (hl : lv_has ls 9 [(0, .ref a_g)]) (h : fX1_hit_138 x0 v_gw v_gk = some r) : W p l e ({ frames := 3, cells := 0, slots := 0, locals := 69 } : Room) s m args below meth c H locs 0 0 Q (F0 m 138 ls [.int x0]) := by
  have hx := C.1
  have hb := C.2.1
  obtain ⟨hP, hD⟩ := hPD
  unfold fX1_hit_138 at h
  refine lv_istore (lv' := [(8, .int x0), (0, .ref a_g)]) hx hb dX1_hit_138 hl (by decide) rfl (fun ls hl => ?_)
  refine lv_aload_n hx hb dX1_hit_140 rfl (lv_at hl 1 rfl) ?_
  replace h := bnd h; obtain ⟨q26, e27, h⟩ := h
  refine wrVi (ws1 := [(a_g, .inr (1, [.ref a_gw, .ref a_gk])), (a_gw, .inl (T 0, 90, .inl q26.2.1)), (a_gk, .inl (T 0, 18, .inl q26.2.2))]) C hE hP hD hS hA (kX1_endStroke l D T a_g a_gw a_gk v_gw v_gk _ q26 e27) mX1_endStroke qLX1_68 [0, 1, 2] [] 0 rfl rfl rfl rfl rfl rfl rfl rfl rfl ⟨rfl, rfl⟩ ⟨Nat.le_of_ble_eq_true rfl, Nat.le_of_ble_eq_true rfl⟩ rfl hl.1 rfl (Nat.le_of_ble_eq_true rfl) dX1_hit_141 ⟨Nat.le_of_ble_eq_true rfl, Nat.le_of_ble_eq_true rfl⟩ ?_; clear hP hD hS; intro H locs hP hD hS
  refine lv_pop hx hb dX1_hit_144 rfl ?_
  refine lv_iload hx hb dX1_hit_145 (lv_at hl 0 rfl) ?_
  replace h := Option.some.inj h
  exact hret _ _ _ _ _ _ dX1_hit_147 rfl (by rw [← h] <;> rfl) (by rw [← h]; exact hP) hS
set_option maxHeartbeats 4000000 in
set_option maxRecDepth 100000 in
theorem lX1_hit_124 {p : Program} {l : Launch} {e : Env} {s : State} {m : MethodId} {args : Array Value} {below : List Frame} {meth : Method} {c : Code} {Q : State → Prop} {D : va_G} {T : Nat → ClassId} {a_g a_gw a_gk : Nat} {A : Nat → Prop} {r : Int32 × (Nat → Int32) × (Nat → Int32)} (C : CallFix p m c cX1_hit 9 s args aw RX1) (hE : eK D T s) (hA : ∀ q : Nat, s.heap.size ≤ q → A q) (hret : WrRet p l e ({ frames := 3, cells := 0, slots := 0, locals := 69 } : Room) s m args below meth c Q cX1_hit .int D A [(a_g, .inr (1, [.ref a_gw, .ref a_gk])), (a_gw, .inl (T 0, 90, .inl r.2.1)), (a_gk, .inl (T 0, 18, .inl r.2.2))] r.1) (l2 : Int32) (l6 : Int32) (v_gw : Nat → Int32) (v_gk : Nat → Int32) {H : Heap} {locs : List Loc} (hPD : va_PD D A [(a_g, .inr (1, [.ref a_gw, .ref a_gk])), (a_gw, .inl (T 0, 90, .inl v_gw)), (a_gk, .inl (T 0, 18, .inl v_gk))] H) (hS : va_S A s.heap H locs) (ls : Array Slot) (hl : lv_has ls 9 [(0, .ref a_g), (2, .int l2), (6, .int l6)]) (h : fX1_hit_124 l2 l6 v_gw v_gk = some r) : W p l e ({ frames := 3, cells := 0, slots := 0, locals := 69 } : Room) s m args below meth c H locs 0 0 Q (F0 m 124 ls []) := by
  have hx := C.1
  have hb := C.2.1
  obtain ⟨hP, hD⟩ := hPD
  unfold fX1_hit_124 at h
  refine lv_iload hx hb dX1_hit_124 (lv_at hl 2 rfl) ?_
  refine lv_if_eq (tgt := 133) hx hb dX1_hit_126 (by decide) (fun c23 => ?_) (fun c23 => ?_)
  · replace h := ite_t c23 h
    refine lv_aload_n hx hb dX1_hit_133 rfl (lv_at hl 0 rfl) ?_
    refine lv_iconst (v := 5) hx hb dX1_hit_134 (by decide) ?_
    replace h := bnd h; obtain ⟨q24, e25, h⟩ := h
    refine rdV C hE hP (kX1_count l D T a_g a_gw a_gk v_gk 5 q24 e25) mX1_count qLX1_28 [0, 2] 0 rfl rfl rfl rfl ⟨rfl, rfl⟩ ⟨Nat.le_of_ble_eq_true rfl, Nat.le_of_ble_eq_true rfl⟩ rfl hl.1 rfl (Nat.le_of_ble_eq_true rfl) dX1_hit_135 ⟨Nat.le_of_ble_eq_true rfl, Nat.le_of_ble_eq_true rfl⟩ ?_
    exact lX1_hit_138 C hE hA hret q24 v_gw v_gk ⟨hP, hD⟩ hS _ (lv_sub hl [0] rfl) h
  · replace h := ite_f c23 h
    refine lv_iload_n hx hb dX1_hit_129 rfl (lv_at hl 1 rfl) ?_
    refine lv_goto (tgt := 138) hx hb dX1_hit_130 (by decide) ?_
    exact lX1_hit_138 C hE hA hret l2 v_gw v_gk ⟨hP, hD⟩ hS _ (lv_sub hl [0] rfl) h
set_option maxHeartbeats 4000000 in
set_option maxRecDepth 100000 in
theorem lX1_hit_121 {p : Program} {l : Launch} {e : Env} {s : State} {m : MethodId} {args : Array Value} {below : List Frame} {meth : Method} {c : Code} {Q : State → Prop} {D : va_G} {T : Nat → ClassId} {a_g a_gw a_gk : Nat} {A : Nat → Prop} {r : Int32 × (Nat → Int32) × (Nat → Int32)} (C : CallFix p m c cX1_hit 9 s args aw RX1) (hE : eK D T s) (hA : ∀ q : Nat, s.heap.size ≤ q → A q) (hret : WrRet p l e ({ frames := 3, cells := 0, slots := 0, locals := 69 } : Room) s m args below meth c Q cX1_hit .int D A [(a_g, .inr (1, [.ref a_gw, .ref a_gk])), (a_gw, .inl (T 0, 90, .inl r.2.1)), (a_gk, .inl (T 0, 18, .inl r.2.2))] r.1) (x1 : Int32) (x2 : Int32) (l2 : Int32) (l6 : Int32) (v_gw : Nat → Int32) (v_gk : Nat → Int32) {H : Heap} {locs : List Loc} (hPD : va_PD D A [(a_g, .inr (1, [.ref a_gw, .ref a_gk])), (a_gw, .inl (T 0, 90, .inl v_gw)), (a_gk, .inl (T 0, 18, .inl v_gk))] H) (hS : va_S A s.heap H locs) (ls : Array Slot) (hl : lv_has ls 9 [(0, .ref a_g), (2, .int l2), (6, .int l6)]) (h : fX1_hit_121 x1 x2 l2 l6 v_gw v_gk = some r) : W p l e ({ frames := 3, cells := 0, slots := 0, locals := 69 } : Room) s m args below meth c H locs 0 0 Q (F0 m 121 ls [.int x2, .int x1, .ref a_g]) := by
  have hx := C.1
  have hb := C.2.1
  obtain ⟨hP, hD⟩ := hPD
  unfold fX1_hit_121 at h
  replace h := bnd h; obtain ⟨q21, e22, h⟩ := h
  refine wrVv (ws1 := [(a_g, .inr (1, [.ref a_gw, .ref a_gk])), (a_gw, .inl (T 0, 90, .inl v_gw)), (a_gk, .inl (T 0, 18, .inl q21))]) C hE hP hD hS hA (kX1_setCount l D T a_g a_gw a_gk v_gk x1 x2 _ q21 e22) mX1_setCount qLX1_18 [0, 2] [1] 0 rfl rfl rfl rfl rfl rfl rfl rfl rfl ⟨rfl, rfl⟩ ⟨Nat.le_of_ble_eq_true rfl, Nat.le_of_ble_eq_true rfl⟩ rfl hl.1 rfl (Nat.le_of_ble_eq_true rfl) dX1_hit_121 ⟨Nat.le_of_ble_eq_true rfl, Nat.le_of_ble_eq_true rfl⟩ ?_; clear hP hD hS; intro H locs hP hD hS
  exact lX1_hit_124 C hE hA hret l2 l6 v_gw q21 ⟨hP, hD⟩ hS _ (lv_sub hl [0, 1, 2] rfl) h
set_option maxHeartbeats 4000000 in
set_option maxRecDepth 100000 in
theorem lX1_hit_73 {p : Program} {l : Launch} {e : Env} {s : State} {m : MethodId} {args : Array Value} {below : List Frame} {meth : Method} {c : Code} {Q : State → Prop} {D : va_G} {T : Nat → ClassId} {a_g a_gw a_gk : Nat} {A : Nat → Prop} {r : Int32 × (Nat → Int32) × (Nat → Int32)} (C : CallFix p m c cX1_hit 9 s args aw RX1) (hE : eK D T s) (hA : ∀ q : Nat, s.heap.size ≤ q → A q) (hret : WrRet p l e ({ frames := 3, cells := 0, slots := 0, locals := 69 } : Room) s m args below meth c Q cX1_hit .int D A [(a_g, .inr (1, [.ref a_gw, .ref a_gk])), (a_gw, .inl (T 0, 90, .inl r.2.1)), (a_gk, .inl (T 0, 18, .inl r.2.2))] r.1) (x1 : Int32) (x2 : Int32) (l1 : Int32) (l2 : Int32) (l3 : Int32) (l4 : Int32) (l6 : Int32) (l7 : Int32) (v_gw : Nat → Int32) (v_gk : Nat → Int32) {H : Heap} {locs : List Loc} (hPD : va_PD D A [(a_g, .inr (1, [.ref a_gw, .ref a_gk])), (a_gw, .inl (T 0, 90, .inl v_gw)), (a_gk, .inl (T 0, 18, .inl v_gk))] H) (hS : va_S A s.heap H locs) (ls : Array Slot) (hl : lv_has ls 9 [(0, .ref a_g), (1, .int l1), (2, .int l2), (3, .int l3), (4, .int l4), (6, .int l6), (7, .int l7)]) (h : fX1_hit_73 x1 x2 l1 l2 l3 l4 l6 l7 v_gw v_gk = some r) : W p l e ({ frames := 3, cells := 0, slots := 0, locals := 69 } : Room) s m args below meth c H locs 0 0 Q (F0 m 73 ls [.int x2, .int x1, .ref a_g]) := by
  have hx := C.1
  have hb := C.2.1
  obtain ⟨hP, hD⟩ := hPD
  unfold fX1_hit_73 at h
  replace h := bnd h; obtain ⟨q12, e13, h⟩ := h
  refine wrVv (ws1 := [(a_g, .inr (1, [.ref a_gw, .ref a_gk])), (a_gw, .inl (T 0, 90, .inl v_gw)), (a_gk, .inl (T 0, 18, .inl q12))]) C hE hP hD hS hA (kX1_setCount l D T a_g a_gw a_gk v_gk x1 x2 _ q12 e13) mX1_setCount qLX1_18 [0, 2] [1] 0 rfl rfl rfl rfl rfl rfl rfl rfl rfl ⟨rfl, rfl⟩ ⟨Nat.le_of_ble_eq_true rfl, Nat.le_of_ble_eq_true rfl⟩ rfl hl.1 rfl (Nat.le_of_ble_eq_true rfl) dX1_hit_73 ⟨Nat.le_of_ble_eq_true rfl, Nat.le_of_ble_eq_true rfl⟩ ?_; clear hP hD hS; intro H locs hP hD hS
  refine lv_iload hx hb dX1_hit_76 (lv_at hl 5 rfl) ?_
  refine lv_if_eq (tgt := 100) hx hb dX1_hit_78 (by decide) (fun c14 => ?_) (fun c14 => ?_)
  · replace h := ite_t c14 h
    refine lv_iload hx hb dX1_hit_100 (lv_at hl 4 rfl) ?_
    refine lv_if_ne (tgt := 124) hx hb dX1_hit_102 (by decide) (fun c15 => ?_) (fun c15 => ?_)
    · replace h := ite_f c15 h
      exact lX1_hit_124 C hE hA hret l2 l6 v_gw q12 ⟨hP, hD⟩ hS _ (lv_sub hl [0, 2, 5] rfl) h
    · replace h := ite_t c15 h
      refine lv_aload_n hx hb dX1_hit_105 rfl (lv_at hl 0 rfl) ?_
      refine lv_bipush (v := 6) hx hb dX1_hit_106 (by decide) ?_
      refine lv_iload_n hx hb dX1_hit_108 rfl (lv_at hl 3 rfl) ?_
      refine lv_if_eq (tgt := 119) hx hb dX1_hit_109 (by decide) (fun c16 => ?_) (fun c16 => ?_)
      · rw [if_pos c16] at h
        refine lv_iload hx hb dX1_hit_119 (lv_at hl 6 rfl) ?_
        exact lX1_hit_121 C hE hA hret 6 l7 l2 l6 v_gw q12 ⟨hP, hD⟩ hS _ (lv_sub hl [0, 2, 5] rfl) h
      · rw [if_neg c16] at h
        refine lv_iconst (v := 1) hx hb dX1_hit_112 (by decide) ?_
        refine lv_iload hx hb dX1_hit_113 (lv_at hl 6 rfl) ?_
        refine lv_isub hx hb dX1_hit_115 ?_
        refine lv_goto (tgt := 121) hx hb dX1_hit_116 (by decide) ?_
        exact lX1_hit_121 C hE hA hret 6 (1 - l7) l2 l6 v_gw q12 ⟨hP, hD⟩ hS _ (lv_sub hl [0, 2, 5] rfl) h
  · replace h := ite_f c14 h
    refine lv_aload_n hx hb dX1_hit_81 rfl (lv_at hl 0 rfl) ?_
    refine lv_iload_n hx hb dX1_hit_82 rfl (lv_at hl 1 rfl) ?_
    refine lv_iload_n hx hb dX1_hit_83 rfl (lv_at hl 2 rfl) ?_
    refine lv_bipush (v := 45) hx hb dX1_hit_84 (by decide) ?_
    refine lv_isub hx hb dX1_hit_86 ?_
    replace h := bnd h; obtain ⟨q17, e18, h⟩ := h
    refine wrVv (ws1 := [(a_g, .inr (1, [.ref a_gw, .ref a_gk])), (a_gw, .inl (T 0, 90, .inl q17.1)), (a_gk, .inl (T 0, 18, .inl q17.2))]) C hE hP hD hS hA (kX1_countGoal l D T a_g a_gw a_gk v_gw q12 l1 (l2 - 45) _ q17 e18) mX1_countGoal qLX1_79 [0, 1, 2] [] 0 rfl rfl rfl rfl rfl rfl rfl rfl rfl ⟨rfl, rfl⟩ ⟨Nat.le_of_ble_eq_true rfl, Nat.le_of_ble_eq_true rfl⟩ rfl hl.1 rfl (Nat.le_of_ble_eq_true rfl) dX1_hit_87 ⟨Nat.le_of_ble_eq_true rfl, Nat.le_of_ble_eq_true rfl⟩ ?_; clear hP hD hS; intro H locs hP hD hS
    refine lv_aload_n hx hb dX1_hit_90 rfl (lv_at hl 0 rfl) ?_
    refine lv_bipush (v := 6) hx hb dX1_hit_91 (by decide) ?_
    refine lv_iconst (v := (-1)) hx hb dX1_hit_93 (by decide) ?_
    replace h := bnd h; obtain ⟨q19, e20, h⟩ := h
    refine wrVv (ws1 := [(a_g, .inr (1, [.ref a_gw, .ref a_gk])), (a_gw, .inl (T 0, 90, .inl q17.1)), (a_gk, .inl (T 0, 18, .inl q19))]) C hE hP hD hS hA (kX1_setCount l D T a_g a_gw a_gk q17.2 6 (-1) _ q19 e20) mX1_setCount qLX1_18 [0, 2] [1] 0 rfl rfl rfl rfl rfl rfl rfl rfl rfl ⟨rfl, rfl⟩ ⟨Nat.le_of_ble_eq_true rfl, Nat.le_of_ble_eq_true rfl⟩ rfl hl.1 rfl (Nat.le_of_ble_eq_true rfl) dX1_hit_94 ⟨Nat.le_of_ble_eq_true rfl, Nat.le_of_ble_eq_true rfl⟩ ?_; clear hP hD hS; intro H locs hP hD hS
    refine lv_goto (tgt := 124) hx hb dX1_hit_97 (by decide) ?_
    exact lX1_hit_124 C hE hA hret l2 l6 q17.1 q19 ⟨hP, hD⟩ hS _ (lv_sub hl [0, 2, 5] rfl) h
set_option maxHeartbeats 4000000 in
set_option maxRecDepth 100000 in
theorem lX1_hit_57 {p : Program} {l : Launch} {e : Env} {s : State} {m : MethodId} {args : Array Value} {below : List Frame} {meth : Method} {c : Code} {Q : State → Prop} {D : va_G} {T : Nat → ClassId} {a_g a_gw a_gk : Nat} {A : Nat → Prop} {r : Int32 × (Nat → Int32) × (Nat → Int32)} (C : CallFix p m c cX1_hit 9 s args aw RX1) (hE : eK D T s) (hA : ∀ q : Nat, s.heap.size ≤ q → A q) (hret : WrRet p l e ({ frames := 3, cells := 0, slots := 0, locals := 69 } : Room) s m args below meth c Q cX1_hit .int D A [(a_g, .inr (1, [.ref a_gw, .ref a_gk])), (a_gw, .inl (T 0, 90, .inl r.2.1)), (a_gk, .inl (T 0, 18, .inl r.2.2))] r.1) (x1 : Int32) (x2 : Int32) (l1 : Int32) (l2 : Int32) (l3 : Int32) (l4 : Int32) (l5 : Int32) (l6 : Int32) (l7 : Int32) (v_gw : Nat → Int32) (v_gk : Nat → Int32) {H : Heap} {locs : List Loc} (hPD : va_PD D A [(a_g, .inr (1, [.ref a_gw, .ref a_gk])), (a_gw, .inl (T 0, 90, .inl v_gw)), (a_gk, .inl (T 0, 18, .inl v_gk))] H) (hS : va_S A s.heap H locs) (ls : Array Slot) (hl : lv_has ls 9 [(0, .ref a_g), (1, .int l1), (2, .int l2), (3, .int l3), (4, .int l4), (5, .int l5), (6, .int l6), (7, .int l7)]) (h : fX1_hit_57 x1 x2 l1 l2 l3 l4 l5 l6 l7 v_gw v_gk = some r) : W p l e ({ frames := 3, cells := 0, slots := 0, locals := 69 } : Room) s m args below meth c H locs 0 0 Q (F0 m 57 ls [.int x2, .int x1, .ref a_g]) := by
  have hx := C.1
  have hb := C.2.1
  obtain ⟨hP, hD⟩ := hPD
  unfold fX1_hit_57 at h
  replace h := bnd h; obtain ⟨q9, e10, h⟩ := h
  refine wrVv (ws1 := [(a_g, .inr (1, [.ref a_gw, .ref a_gk])), (a_gw, .inl (T 0, 90, .inl v_gw)), (a_gk, .inl (T 0, 18, .inl q9))]) C hE hP hD hS hA (kX1_addCount l D T a_g a_gw a_gk v_gk x1 x2 _ q9 e10) mX1_addCount qLX1_65 [0, 2] [1] 0 rfl rfl rfl rfl rfl rfl rfl rfl rfl ⟨rfl, rfl⟩ ⟨Nat.le_of_ble_eq_true rfl, Nat.le_of_ble_eq_true rfl⟩ rfl hl.1 rfl (Nat.le_of_ble_eq_true rfl) dX1_hit_57 ⟨Nat.le_of_ble_eq_true rfl, Nat.le_of_ble_eq_true rfl⟩ ?_; clear hP hD hS; intro H locs hP hD hS
  refine lv_aload_n hx hb dX1_hit_60 rfl (lv_at hl 0 rfl) ?_
  refine lv_iconst (v := 5) hx hb dX1_hit_61 (by decide) ?_
  refine lv_iload hx hb dX1_hit_62 (lv_at hl 5 rfl) ?_
  refine lv_if_eq (tgt := 72) hx hb dX1_hit_64 (by decide) (fun c11 => ?_) (fun c11 => ?_)
  · rw [if_pos c11] at h
    refine lv_iload_n hx hb dX1_hit_72 rfl (lv_at hl 2 rfl) ?_
    exact lX1_hit_73 C hE hA hret 5 l2 l1 l2 l3 l4 l6 l7 v_gw q9 ⟨hP, hD⟩ hS _ (lv_sub hl [0, 1, 2, 3, 4, 6, 7] rfl) h
  · rw [if_neg c11] at h
    refine lv_bipush (v := 22) hx hb dX1_hit_67 (by decide) ?_
    refine lv_goto (tgt := 73) hx hb dX1_hit_69 (by decide) ?_
    exact lX1_hit_73 C hE hA hret 5 22 l1 l2 l3 l4 l6 l7 v_gw q9 ⟨hP, hD⟩ hS _ (lv_sub hl [0, 1, 2, 3, 4, 6, 7] rfl) h
set_option maxHeartbeats 4000000 in
set_option maxRecDepth 100000 in
theorem lX1_hit_28 {p : Program} {l : Launch} {e : Env} {s : State} {m : MethodId} {args : Array Value} {below : List Frame} {meth : Method} {c : Code} {Q : State → Prop} {D : va_G} {T : Nat → ClassId} {a_g a_gw a_gk : Nat} {A : Nat → Prop} {r : Int32 × (Nat → Int32) × (Nat → Int32)} (C : CallFix p m c cX1_hit 9 s args aw RX1) (hE : eK D T s) (hA : ∀ q : Nat, s.heap.size ≤ q → A q) (hret : WrRet p l e ({ frames := 3, cells := 0, slots := 0, locals := 69 } : Room) s m args below meth c Q cX1_hit .int D A [(a_g, .inr (1, [.ref a_gw, .ref a_gk])), (a_gw, .inl (T 0, 90, .inl r.2.1)), (a_gk, .inl (T 0, 18, .inl r.2.2))] r.1) (x0 : Int32) (l1 : Int32) (l2 : Int32) (l3 : Int32) (l4 : Int32) (l5 : Int32) (v_gw : Nat → Int32) (v_gk : Nat → Int32) {H : Heap} {locs : List Loc} (hPD : va_PD D A [(a_g, .inr (1, [.ref a_gw, .ref a_gk])), (a_gw, .inl (T 0, 90, .inl v_gw)), (a_gk, .inl (T 0, 18, .inl v_gk))] H) (hS : va_S A s.heap H locs) (ls : Array Slot) (hl : lv_has ls 9 [(0, .ref a_g), (1, .int l1), (2, .int l2), (3, .int l3), (4, .int l4), (5, .int l5)]) (h : fX1_hit_28 x0 l1 l2 l3 l4 l5 v_gw v_gk = some r) : W p l e ({ frames := 3, cells := 0, slots := 0, locals := 69 } : Room) s m args below meth c H locs 0 0 Q (F0 m 28 ls [.int x0]) := by
  have hx := C.1
  have hb := C.2.1
  obtain ⟨hP, hD⟩ := hPD
  unfold fX1_hit_28 at h
  refine lv_istore (lv' := [(6, .int x0), (0, .ref a_g), (1, .int l1), (2, .int l2), (3, .int l3), (4, .int l4), (5, .int l5)]) hx hb dX1_hit_28 hl (by decide) rfl (fun ls hl => ?_)
  refine lv_aload_n hx hb dX1_hit_30 rfl (lv_at hl 1 rfl) ?_
  refine lv_iload_n hx hb dX1_hit_31 rfl (lv_at hl 2 rfl) ?_
  refine lv_iconst (v := 0) hx hb dX1_hit_32 (by decide) ?_
  replace h := bnd h; obtain ⟨q4, e5, h⟩ := h
  refine rdV C hE hP (kX1_of l D T a_g a_gw a_gk v_gw l1 0 q4 e5) mX1_of qLX1_32 [0, 1] 0 rfl rfl rfl rfl ⟨rfl, rfl⟩ ⟨Nat.le_of_ble_eq_true rfl, Nat.le_of_ble_eq_true rfl⟩ rfl hl.1 rfl (Nat.le_of_ble_eq_true rfl) dX1_hit_33 ⟨Nat.le_of_ble_eq_true rfl, Nat.le_of_ble_eq_true rfl⟩ ?_
  refine lv_istore (lv' := [(7, .int q4), (6, .int x0), (0, .ref a_g), (1, .int l1), (2, .int l2), (3, .int l3), (4, .int l4), (5, .int l5)]) hx hb dX1_hit_36 hl (by decide) rfl (fun ls hl => ?_)
  refine lv_aload_n hx hb dX1_hit_38 rfl (lv_at hl 2 rfl) ?_
  refine lv_iload_n hx hb dX1_hit_39 rfl (lv_at hl 3 rfl) ?_
  refine lv_iload hx hb dX1_hit_40 (lv_at hl 6 rfl) ?_
  replace h := bnd h; obtain ⟨q6, e7, h⟩ := h
  refine wrVv (ws1 := [(a_g, .inr (1, [.ref a_gw, .ref a_gk])), (a_gw, .inl (T 0, 90, .inl q6.1)), (a_gk, .inl (T 0, 18, .inl q6.2))]) C hE hP hD hS hA (kX1_countStrike l D T a_g a_gw a_gk v_gw v_gk l1 l4 _ q6 e7) mX1_countStrike qLX1_75 [0, 1, 2] [] 0 rfl rfl rfl rfl rfl rfl rfl rfl rfl ⟨rfl, rfl⟩ ⟨Nat.le_of_ble_eq_true rfl, Nat.le_of_ble_eq_true rfl⟩ rfl hl.1 rfl (Nat.le_of_ble_eq_true rfl) dX1_hit_42 ⟨Nat.le_of_ble_eq_true rfl, Nat.le_of_ble_eq_true rfl⟩ ?_; clear hP hD hS; intro H locs hP hD hS
  refine lv_aload_n hx hb dX1_hit_45 rfl (lv_at hl 2 rfl) ?_
  refine lv_bipush (v := 11) hx hb dX1_hit_46 (by decide) ?_
  refine lv_iload_n hx hb dX1_hit_48 rfl (lv_at hl 5 rfl) ?_
  refine lv_if_eq (tgt := 56) hx hb dX1_hit_49 (by decide) (fun c8 => ?_) (fun c8 => ?_)
  · rw [if_pos c8] at h
    refine lv_iconst (v := 0) hx hb dX1_hit_56 (by decide) ?_
    exact lX1_hit_57 C hE hA hret 11 0 l1 l2 l3 l4 l5 x0 q4 q6.1 q6.2 ⟨hP, hD⟩ hS _ (lv_sub hl [2, 3, 4, 5, 6, 7, 1, 0] rfl) h
  · rw [if_neg c8] at h
    refine lv_iconst (v := 1) hx hb dX1_hit_52 (by decide) ?_
    refine lv_goto (tgt := 57) hx hb dX1_hit_53 (by decide) ?_
    exact lX1_hit_57 C hE hA hret 11 1 l1 l2 l3 l4 l5 x0 q4 q6.1 q6.2 ⟨hP, hD⟩ hS _ (lv_sub hl [2, 3, 4, 5, 6, 7, 1, 0] rfl) h
set_option maxHeartbeats 4000000 in
set_option maxRecDepth 100000 in
theorem lX1_hit_11 {p : Program} {l : Launch} {e : Env} {s : State} {m : MethodId} {args : Array Value} {below : List Frame} {meth : Method} {c : Code} {Q : State → Prop} {D : va_G} {T : Nat → ClassId} {a_g a_gw a_gk : Nat} {A : Nat → Prop} {r : Int32 × (Nat → Int32) × (Nat → Int32)} (C : CallFix p m c cX1_hit 9 s args aw RX1) (hE : eK D T s) (hA : ∀ q : Nat, s.heap.size ≤ q → A q) (hret : WrRet p l e ({ frames := 3, cells := 0, slots := 0, locals := 69 } : Room) s m args below meth c Q cX1_hit .int D A [(a_g, .inr (1, [.ref a_gw, .ref a_gk])), (a_gw, .inl (T 0, 90, .inl r.2.1)), (a_gk, .inl (T 0, 18, .inl r.2.2))] r.1) (x0 : Int32) (l1 : Int32) (l2 : Int32) (l3 : Int32) (l4 : Int32) (v_gw : Nat → Int32) (v_gk : Nat → Int32) {H : Heap} {locs : List Loc} (hPD : va_PD D A [(a_g, .inr (1, [.ref a_gw, .ref a_gk])), (a_gw, .inl (T 0, 90, .inl v_gw)), (a_gk, .inl (T 0, 18, .inl v_gk))] H) (hS : va_S A s.heap H locs) (ls : Array Slot) (hl : lv_has ls 9 [(0, .ref a_g), (1, .int l1), (2, .int l2), (3, .int l3), (4, .int l4)]) (h : fX1_hit_11 x0 l1 l2 l3 l4 v_gw v_gk = some r) : W p l e ({ frames := 3, cells := 0, slots := 0, locals := 69 } : Room) s m args below meth c H locs 0 0 Q (F0 m 11 ls [.int x0]) := by
  have hx := C.1
  have hb := C.2.1
  obtain ⟨hP, hD⟩ := hPD
  unfold fX1_hit_11 at h
  refine lv_istore (lv' := [(5, .int x0), (0, .ref a_g), (1, .int l1), (2, .int l2), (3, .int l3), (4, .int l4)]) hx hb dX1_hit_11 hl (by decide) rfl (fun ls hl => ?_)
  refine lv_iload hx hb dX1_hit_13 (lv_at hl 0 rfl) ?_
  refine lv_if_eq (tgt := 27) hx hb dX1_hit_15 (by decide) (fun c2 => ?_) (fun c2 => ?_)
  · rw [if_pos c2] at h
    refine lv_iconst (v := 0) hx hb dX1_hit_27 (by decide) ?_
    exact lX1_hit_28 C hE hA hret 0 l1 l2 l3 l4 x0 v_gw v_gk ⟨hP, hD⟩ hS _ (lv_sub hl [1, 2, 3, 4, 5, 0] rfl) h
  · rw [if_neg c2] at h
    refine lv_iload hx hb dX1_hit_18 (lv_at hl 5 rfl) ?_
    refine lv_if_ne (tgt := 27) hx hb dX1_hit_20 (by decide) (fun c3 => ?_) (fun c3 => ?_)
    · rw [if_neg c3] at h
      refine lv_iconst (v := 0) hx hb dX1_hit_27 (by decide) ?_
      exact lX1_hit_28 C hE hA hret 0 l1 l2 l3 l4 x0 v_gw v_gk ⟨hP, hD⟩ hS _ (lv_sub hl [1, 2, 3, 4, 5, 0] rfl) h
    · rw [if_pos c3] at h
      refine lv_iconst (v := 1) hx hb dX1_hit_23 (by decide) ?_
      refine lv_goto (tgt := 28) hx hb dX1_hit_24 (by decide) ?_
      exact lX1_hit_28 C hE hA hret 1 l1 l2 l3 l4 x0 v_gw v_gk ⟨hP, hD⟩ hS _ (lv_sub hl [1, 2, 3, 4, 5, 0] rfl) h
set_option maxHeartbeats 4000000 in
set_option maxRecDepth 100000 in
theorem kX1_hit (l : Launch) (D : va_G) (T : Nat → ClassId) (a_g a_gw a_gk : Nat) (v_gw : Nat → Int32) (v_gk : Nat → Int32) (p0 : Int32) (p1 : Int32) (p2 : Int32) (p3 : Int32) (sz : Nat) (r : Int32 × (Nat → Int32) × (Nat → Int32)) (h : fX1_hit v_gw v_gk p0 p1 p2 p3 = some r) : WrI l yX1_hit cX1_hit 9 .int ({ frames := 3, cells := 0, slots := 0, locals := 69 } : Room) D T sz [(a_g, .inr (1, [.ref a_gw, .ref a_gk])), (a_gw, .inl (T 0, 90, .inl v_gw)), (a_gk, .inl (T 0, 18, .inl v_gk))] [(a_g, .inr (1, [.ref a_gw, .ref a_gk])), (a_gw, .inl (T 0, 90, .inl r.2.1)), (a_gk, .inl (T 0, 18, .inl r.2.2))] [.ref a_g, .int p0, .int p1, .int p2, .int p3] r.1 := by
  unfold fX1_hit at h
  refine wrMet (by decide +kernel) rfl (fun p e s m args below meth c Q A C hE hA hP hD hS hret ls hl => ?_)
  have hx := C.1
  have hb := C.2.1
  have hl : lv_has ls 9 [(0, .ref a_g), (1, .int p0), (2, .int p1), (3, .int p2), (4, .int p3)] := hl
  refine lv_iload_n hx hb dX1_hit_0 rfl (lv_at hl 2 rfl) ?_
  refine lv_bipush (v := 45) hx hb dX1_hit_1 (by decide) ?_
  refine lv_icmp_lt (tgt := 10) hx hb dX1_hit_3 (by decide) (fun c1 => ?_) (fun c1 => ?_)
  · rw [if_pos c1] at h
    refine lv_iconst (v := 0) hx hb dX1_hit_10 (by decide) ?_
    exact lX1_hit_11 C hE hA hret 0 p0 p1 p2 p3 v_gw v_gk ⟨hP, hD⟩ hS _ (lv_sub hl [0, 1, 2, 3, 4] rfl) h
  · rw [if_neg c1] at h
    refine lv_iconst (v := 1) hx hb dX1_hit_6 (by decide) ?_
    refine lv_goto (tgt := 11) hx hb dX1_hit_7 (by decide) ?_
    exact lX1_hit_11 C hE hA hret 1 p0 p1 p2 p3 v_gw v_gk ⟨hP, hD⟩ hS _ (lv_sub hl [0, 1, 2, 3, 4] rfl) h

def fX1_startSong (v_gw : Nat → Int32) (v_gk : Nat → Int32) (p0 : Int32) : Option (Int32 × (Nat → Int32) × (Nat → Int32)) :=
  (fX1_add v_gw p0 3 (-1)).bind fun q1 =>
  (fX1_set q1 p0 5 1).bind fun q3 =>
  (fX1_of q3 p0 3).bind fun q5 =>
  (fX1_endStroke q3 v_gk).bind fun q7 =>
  some (q5, q7.2.1, q7.2.2)
set_option maxHeartbeats 4000000 in
set_option maxRecDepth 100000 in
theorem kX1_startSong (l : Launch) (D : va_G) (T : Nat → ClassId) (a_g a_gw a_gk : Nat) (v_gw : Nat → Int32) (v_gk : Nat → Int32) (p0 : Int32) (sz : Nat) (r : Int32 × (Nat → Int32) × (Nat → Int32)) (h : fX1_startSong v_gw v_gk p0 = some r) : WrI l yX1_startSong cX1_startSong 3 .int ({ frames := 3, cells := 0, slots := 0, locals := 66 } : Room) D T sz [(a_g, .inr (1, [.ref a_gw, .ref a_gk])), (a_gw, .inl (T 0, 90, .inl v_gw)), (a_gk, .inl (T 0, 18, .inl v_gk))] [(a_g, .inr (1, [.ref a_gw, .ref a_gk])), (a_gw, .inl (T 0, 90, .inl r.2.1)), (a_gk, .inl (T 0, 18, .inl r.2.2))] [.ref a_g, .int p0] r.1 := by
  unfold fX1_startSong at h
  refine wrMet (by decide +kernel) rfl (fun p e s m args below meth c Q A C hE hA hP hD hS hret ls hl => ?_)
  have hx := C.1
  have hb := C.2.1
  have hl : lv_has ls 3 [(0, .ref a_g), (1, .int p0)] := hl
  refine lv_aload_n hx hb dX1_startSong_0 rfl (lv_at hl 0 rfl) ?_
  refine lv_iload_n hx hb dX1_startSong_1 rfl (lv_at hl 1 rfl) ?_
  refine lv_iconst (v := 3) hx hb dX1_startSong_2 (by decide) ?_
  refine lv_iconst (v := (-1)) hx hb dX1_startSong_3 (by decide) ?_
  replace h := bnd h; obtain ⟨q1, e2, h⟩ := h
  refine wrVv (ws1 := [(a_g, .inr (1, [.ref a_gw, .ref a_gk])), (a_gw, .inl (T 0, 90, .inl q1)), (a_gk, .inl (T 0, 18, .inl v_gk))]) C hE hP hD hS hA (kX1_add l D T a_g a_gw a_gk v_gw p0 3 (-1) _ q1 e2) mX1_add qLX1_72 [0, 1] [2] 0 rfl rfl rfl rfl rfl rfl rfl rfl rfl ⟨rfl, rfl⟩ ⟨Nat.le_of_ble_eq_true rfl, Nat.le_of_ble_eq_true rfl⟩ rfl hl.1 rfl (Nat.le_of_ble_eq_true rfl) dX1_startSong_4 ⟨Nat.le_of_ble_eq_true rfl, Nat.le_of_ble_eq_true rfl⟩ ?_; clear hP hD hS; intro H locs hP hD hS
  refine lv_aload_n hx hb dX1_startSong_7 rfl (lv_at hl 0 rfl) ?_
  refine lv_iload_n hx hb dX1_startSong_8 rfl (lv_at hl 1 rfl) ?_
  refine lv_iconst (v := 5) hx hb dX1_startSong_9 (by decide) ?_
  refine lv_iconst (v := 1) hx hb dX1_startSong_10 (by decide) ?_
  replace h := bnd h; obtain ⟨q3, e4, h⟩ := h
  refine wrVv (ws1 := [(a_g, .inr (1, [.ref a_gw, .ref a_gk])), (a_gw, .inl (T 0, 90, .inl q3)), (a_gk, .inl (T 0, 18, .inl v_gk))]) C hE hP hD hS hA (kX1_set l D T a_g a_gw a_gk q1 p0 5 1 _ q3 e4) mX1_set qLX1_36 [0, 1] [2] 0 rfl rfl rfl rfl rfl rfl rfl rfl rfl ⟨rfl, rfl⟩ ⟨Nat.le_of_ble_eq_true rfl, Nat.le_of_ble_eq_true rfl⟩ rfl hl.1 rfl (Nat.le_of_ble_eq_true rfl) dX1_startSong_11 ⟨Nat.le_of_ble_eq_true rfl, Nat.le_of_ble_eq_true rfl⟩ ?_; clear hP hD hS; intro H locs hP hD hS
  refine lv_aload_n hx hb dX1_startSong_14 rfl (lv_at hl 0 rfl) ?_
  refine lv_iload_n hx hb dX1_startSong_15 rfl (lv_at hl 1 rfl) ?_
  refine lv_iconst (v := 3) hx hb dX1_startSong_16 (by decide) ?_
  replace h := bnd h; obtain ⟨q5, e6, h⟩ := h
  refine rdV C hE hP (kX1_of l D T a_g a_gw a_gk q3 p0 3 q5 e6) mX1_of qLX1_32 [0, 1] 0 rfl rfl rfl rfl ⟨rfl, rfl⟩ ⟨Nat.le_of_ble_eq_true rfl, Nat.le_of_ble_eq_true rfl⟩ rfl hl.1 rfl (Nat.le_of_ble_eq_true rfl) dX1_startSong_17 ⟨Nat.le_of_ble_eq_true rfl, Nat.le_of_ble_eq_true rfl⟩ ?_
  refine lv_istore_n (lv' := [(2, .int q5), (0, .ref a_g), (1, .int p0)]) hx hb dX1_startSong_20 rfl hl (by decide) rfl (fun ls hl => ?_)
  refine lv_aload_n hx hb dX1_startSong_21 rfl (lv_at hl 1 rfl) ?_
  replace h := bnd h; obtain ⟨q7, e8, h⟩ := h
  refine wrVi (ws1 := [(a_g, .inr (1, [.ref a_gw, .ref a_gk])), (a_gw, .inl (T 0, 90, .inl q7.2.1)), (a_gk, .inl (T 0, 18, .inl q7.2.2))]) C hE hP hD hS hA (kX1_endStroke l D T a_g a_gw a_gk q3 v_gk _ q7 e8) mX1_endStroke qLX1_68 [0, 1, 2] [] 0 rfl rfl rfl rfl rfl rfl rfl rfl rfl ⟨rfl, rfl⟩ ⟨Nat.le_of_ble_eq_true rfl, Nat.le_of_ble_eq_true rfl⟩ rfl hl.1 rfl (Nat.le_of_ble_eq_true rfl) dX1_startSong_22 ⟨Nat.le_of_ble_eq_true rfl, Nat.le_of_ble_eq_true rfl⟩ ?_; clear hP hD hS; intro H locs hP hD hS
  refine lv_pop hx hb dX1_startSong_25 rfl ?_
  refine lv_iload_n hx hb dX1_startSong_26 rfl (lv_at hl 0 rfl) ?_
  replace h := Option.some.inj h
  exact hret _ _ _ _ _ _ dX1_startSong_27 rfl (by rw [← h] <;> rfl) (by rw [← h]; exact hP) hS

def fX2_size (h_siz : Int32) : Int32 :=
  h_siz
set_option maxHeartbeats 4000000 in
set_option maxRecDepth 100000 in
theorem kX2_size (l : Launch) (D : va_G) (T : Nat → ClassId) (a_h a_hp : Nat) (h_old : Int32) (h_siz : Int32) : RdI l yX2_size cX2_size 1 .int ({ frames := 0, cells := 0, slots := 0, locals := 0 } : Room) D T [(a_h, .inr (2, [.ref a_hp, .int h_old, .int h_siz]))] [.ref a_h] (fX2_size h_siz) := by
  obtain ⟨r, h⟩ : ∃ r, fX2_size h_siz = r := ⟨_, rfl⟩
  rw [h]
  unfold fX2_size at h
  refine rdMet (by decide +kernel) rfl (fun p e s m args below meth c Q C hE hP hret ls hl => ?_)
  have hx := C.1
  have hb := C.2.1
  have hl : lv_has ls 1 [(0, .ref a_h)] := hl
  refine lv_aload_n hx hb dX2_size_0 rfl (lv_at hl 0 rfl) ?_
  refine getF (q0 := 0) (k0 := 2) (v := .int h_siz) C hE hP inA2 rfl rfl (by decide) qFX2_21 rfl rfl dX2_size_1 ?_
  exact hret _ _ _ _ dX2_size_4 rfl h

def fX2_forgetAll (h_siz : Int32) : Option Int32 :=
  some 0
set_option maxHeartbeats 4000000 in
set_option maxRecDepth 100000 in
theorem kX2_forgetAll (l : Launch) (D : va_G) (T : Nat → ClassId) (a_h a_hp : Nat) (h_old : Int32) (h_siz : Int32) (sz : Nat) (r : Int32) (h : fX2_forgetAll h_siz = some r) : WrV l yX2_forgetAll cX2_forgetAll 1 ({ frames := 0, cells := 0, slots := 0, locals := 0 } : Room) D T sz [(a_h, .inr (2, [.ref a_hp, .int h_old, .int h_siz]))] [(a_h, .inr (2, [.ref a_hp, .int h_old, .int r]))] [.ref a_h] := by
  unfold fX2_forgetAll at h
  refine wrMetV (by decide +kernel) rfl (fun p e s m args below meth c Q A C hE hA hP hD hS hret ls hl => ?_)
  have hx := C.1
  have hb := C.2.1
  have hl : lv_has ls 1 [(0, .ref a_h)] := hl
  refine lv_aload_n hx hb dX2_forgetAll_0 rfl (lv_at hl 0 rfl) ?_
  refine lv_iconst (v := 0) hx hb dX2_forgetAll_1 (by decide) ?_
  refine putF (q0 := 0) (k0 := 2) (ws1 := [(a_h, .inr (2, [.ref a_hp, .int h_old, .int 0]))]) C hE hP hD hS inA2 tyX2_ok nmX2 rfl rfl (by decide) qFX2_21 rfl rfl rfl rfl (Nat.le_of_ble_eq_true rfl) rfl dX2_forgetAll_2 ?_; clear hP hD hS; intro H locs hP hD hS
  replace h := Option.some.inj h
  exact hret _ _ _ _ dX2_forgetAll_5 (by rw [← h]; exact hP) hS

def fX3_length (n_len : Int32) : Int32 :=
  n_len
set_option maxHeartbeats 4000000 in
set_option maxRecDepth 100000 in
theorem kX3_length (l : Launch) (D : va_G) (T : Nat → ClassId) (a_n a_ns : Nat) (n_len : Int32) : RdI l yX3_length cX3_length 1 .int ({ frames := 0, cells := 0, slots := 0, locals := 0 } : Room) D T [(a_n, .inr (3, [.ref a_ns, .int n_len]))] [.ref a_n] (fX3_length n_len) := by
  obtain ⟨r, h⟩ : ∃ r, fX3_length n_len = r := ⟨_, rfl⟩
  rw [h]
  unfold fX3_length at h
  refine rdMet (by decide +kernel) rfl (fun p e s m args below meth c Q C hE hP hret ls hl => ?_)
  have hx := C.1
  have hb := C.2.1
  have hl : lv_has ls 1 [(0, .ref a_n)] := hl
  refine lv_aload_n hx hb dX3_length_0 rfl (lv_at hl 0 rfl) ?_
  refine getF (q0 := 0) (k0 := 1) (v := .int n_len) C hE hP inA3 rfl rfl (by decide) qFX3_15 rfl rfl dX3_length_1 ?_
  exact hret _ _ _ _ dX3_length_4 rfl h

def fX3_signAt (v_ns : Nat → Int32) (p0 : Int32) : Option Int32 :=
  if p0 < 0 then
    some ((32 : Int32).toUInt32.toUInt16.toUInt32.toInt32)
  else
    if 32 ≤ p0 then
      some ((32 : Int32).toUInt32.toUInt16.toUInt32.toInt32)
    else
      if vin p0 32 = true then
      some ((v_ns p0.toNatClampNeg).toUInt32.toUInt16.toUInt32.toInt32)
      else none
set_option maxHeartbeats 4000000 in
set_option maxRecDepth 100000 in
theorem kX3_signAt (l : Launch) (D : va_G) (T : Nat → ClassId) (a_n a_ns : Nat) (n_len : Int32) (v_ns : Nat → Int32) (p0 : Int32) (r : Int32) (h : fX3_signAt v_ns p0 = some r) : RdI l yX3_signAt cX3_signAt 2 .char ({ frames := 0, cells := 0, slots := 0, locals := 0 } : Room) D T [(a_n, .inr (3, [.ref a_ns, .int n_len])), (a_ns, .inl (T 2, 32, .inl v_ns))] [.ref a_n, .int p0] r := by
  unfold fX3_signAt at h
  refine rdMet (by decide +kernel) rfl (fun p e s m args below meth c Q C hE hP hret ls hl => ?_)
  have hx := C.1
  have hb := C.2.1
  have hl : lv_has ls 2 [(0, .ref a_n), (1, .int p0)] := hl
  refine lv_iload_n hx hb dX3_signAt_0 rfl (lv_at hl 1 rfl) ?_
  refine lv_if_lt (tgt := 22) hx hb dX3_signAt_1 (by decide) (fun c1 => ?_) (fun c1 => ?_)
  · replace h := ite_t c1 h
    refine lv_bipush (v := 32) hx hb dX3_signAt_22 (by decide) ?_
    exact hret _ _ _ _ dX3_signAt_24 rfl (Option.some.inj h)
  · replace h := ite_f c1 h
    refine lv_iload_n hx hb dX3_signAt_4 rfl (lv_at hl 1 rfl) ?_
    refine lv_aload_n hx hb dX3_signAt_5 rfl (lv_at hl 0 rfl) ?_
    refine getF (q0 := 0) (k0 := 0) (v := .ref a_ns) C hE hP inA3 rfl rfl (by decide) qFX3_9 rfl rfl dX3_signAt_6 ?_
    refine alen (q0 := 1) (t0 := 2) (v := 32) C hE hP rfl rfl (by decide) dX3_signAt_9 ?_
    refine lv_icmp_ge (tgt := 22) hx hb dX3_signAt_10 (by decide) (fun c2 => ?_) (fun c2 => ?_)
    · replace h := ite_t c2 h
      refine lv_bipush (v := 32) hx hb dX3_signAt_22 (by decide) ?_
      exact hret _ _ _ _ dX3_signAt_24 rfl (Option.some.inj h)
    · replace h := ite_f c2 h
      refine lv_aload_n hx hb dX3_signAt_13 rfl (lv_at hl 0 rfl) ?_
      refine getF (q0 := 0) (k0 := 0) (v := .ref a_ns) C hE hP inA3 rfl rfl (by decide) qFX3_9 rfl rfl dX3_signAt_14 ?_
      refine lv_iload_n hx hb dX3_signAt_17 rfl (lv_at hl 1 rfl) ?_
      replace h := gd h; obtain ⟨g3, h⟩ := h
      refine aldC (q0 := 1) C hE hP rfl g3 dX3_signAt_18 ?_
      refine lv_goto (tgt := 24) hx hb dX3_signAt_19 (by decide) ?_
      exact hret _ _ _ _ dX3_signAt_24 rfl (Option.some.inj h)

def fX3_clear (n_len : Int32) : Option Int32 :=
  some 0
set_option maxHeartbeats 4000000 in
set_option maxRecDepth 100000 in
theorem kX3_clear (l : Launch) (D : va_G) (T : Nat → ClassId) (a_n a_ns : Nat) (n_len : Int32) (sz : Nat) (r : Int32) (h : fX3_clear n_len = some r) : WrV l yX3_clear cX3_clear 1 ({ frames := 0, cells := 0, slots := 0, locals := 0 } : Room) D T sz [(a_n, .inr (3, [.ref a_ns, .int n_len]))] [(a_n, .inr (3, [.ref a_ns, .int r]))] [.ref a_n] := by
  unfold fX3_clear at h
  refine wrMetV (by decide +kernel) rfl (fun p e s m args below meth c Q A C hE hA hP hD hS hret ls hl => ?_)
  have hx := C.1
  have hb := C.2.1
  have hl : lv_has ls 1 [(0, .ref a_n)] := hl
  refine lv_aload_n hx hb dX3_clear_0 rfl (lv_at hl 0 rfl) ?_
  refine lv_iconst (v := 0) hx hb dX3_clear_1 (by decide) ?_
  refine putF (q0 := 0) (k0 := 1) (ws1 := [(a_n, .inr (3, [.ref a_ns, .int 0]))]) C hE hP hD hS inA3 tyX3_ok nmX3 rfl rfl (by decide) qFX3_15 rfl rfl rfl rfl (Nat.le_of_ble_eq_true rfl) rfl dX3_clear_2 ?_; clear hP hD hS; intro H locs hP hD hS
  replace h := Option.some.inj h
  exact hret _ _ _ _ dX3_clear_5 (by rw [← h]; exact hP) hS

def fX3_add (n_len : Int32) (v_ns : Nat → Int32) (p0 : Int32) : Option (Int32 × (Nat → Int32)) :=
  if n_len < 0 then
    some (n_len, v_ns)
  else
    if 32 ≤ n_len then
      some (n_len, v_ns)
    else
      if vin n_len 32 = true then
      some ((n_len + 1), (upd v_ns n_len.toNatClampNeg p0.toUInt32.toUInt16.toUInt32.toInt32))
      else none
set_option maxHeartbeats 4000000 in
set_option maxRecDepth 100000 in
theorem kX3_add (l : Launch) (D : va_G) (T : Nat → ClassId) (a_n a_ns : Nat) (n_len : Int32) (v_ns : Nat → Int32) (p0 : Int32) (sz : Nat) (r : Int32 × (Nat → Int32)) (h : fX3_add n_len v_ns p0 = some r) : WrV l yX3_add cX3_add 2 ({ frames := 0, cells := 0, slots := 0, locals := 0 } : Room) D T sz [(a_n, .inr (3, [.ref a_ns, .int n_len])), (a_ns, .inl (T 2, 32, .inl v_ns))] [(a_n, .inr (3, [.ref a_ns, .int r.1])), (a_ns, .inl (T 2, 32, .inl r.2))] [.ref a_n, .int p0] := by
  unfold fX3_add at h
  refine wrMetV (by decide +kernel) rfl (fun p e s m args below meth c Q A C hE hA hP hD hS hret ls hl => ?_)
  have hx := C.1
  have hb := C.2.1
  have hl : lv_has ls 2 [(0, .ref a_n), (1, .int p0)] := hl
  refine lv_aload_n hx hb dX3_add_0 rfl (lv_at hl 0 rfl) ?_
  refine getF (q0 := 0) (k0 := 1) (v := .int n_len) C hE hP inA3 rfl rfl (by decide) qFX3_15 rfl rfl dX3_add_1 ?_
  refine lv_if_lt (tgt := 39) hx hb dX3_add_4 (by decide) (fun c1 => ?_) (fun c1 => ?_)
  · replace h := ite_t c1 h
    replace h := Option.some.inj h
    exact hret _ _ _ _ dX3_add_39 (by rw [← h]; exact hP) hS
  · replace h := ite_f c1 h
    refine lv_aload_n hx hb dX3_add_7 rfl (lv_at hl 0 rfl) ?_
    refine getF (q0 := 0) (k0 := 1) (v := .int n_len) C hE hP inA3 rfl rfl (by decide) qFX3_15 rfl rfl dX3_add_8 ?_
    refine lv_aload_n hx hb dX3_add_11 rfl (lv_at hl 0 rfl) ?_
    refine getF (q0 := 0) (k0 := 0) (v := .ref a_ns) C hE hP inA3 rfl rfl (by decide) qFX3_9 rfl rfl dX3_add_12 ?_
    refine alen (q0 := 1) (t0 := 2) (v := 32) C hE hP rfl rfl (by decide) dX3_add_15 ?_
    refine lv_icmp_ge (tgt := 39) hx hb dX3_add_16 (by decide) (fun c2 => ?_) (fun c2 => ?_)
    · replace h := ite_t c2 h
      replace h := Option.some.inj h
      exact hret _ _ _ _ dX3_add_39 (by rw [← h]; exact hP) hS
    · replace h := ite_f c2 h
      refine lv_aload_n hx hb dX3_add_19 rfl (lv_at hl 0 rfl) ?_
      refine getF (q0 := 0) (k0 := 0) (v := .ref a_ns) C hE hP inA3 rfl rfl (by decide) qFX3_9 rfl rfl dX3_add_20 ?_
      refine lv_aload_n hx hb dX3_add_23 rfl (lv_at hl 0 rfl) ?_
      refine getF (q0 := 0) (k0 := 1) (v := .int n_len) C hE hP inA3 rfl rfl (by decide) qFX3_15 rfl rfl dX3_add_24 ?_
      refine lv_iload_n hx hb dX3_add_27 rfl (lv_at hl 1 rfl) ?_
      replace h := gd h; obtain ⟨g3, h⟩ := h
      refine astC (q0 := 1) (ws1 := [(a_n, .inr (3, [.ref a_ns, .int n_len])), (a_ns, .inl (T 2, 32, .inl (upd v_ns n_len.toNatClampNeg p0.toUInt32.toUInt16.toUInt32.toInt32)))]) C hE hP hD hS rfl g3 rfl dX3_add_28 ?_; clear hP hD hS; intro H locs hP hD hS
      refine lv_aload_n hx hb dX3_add_29 rfl (lv_at hl 0 rfl) ?_
      refine lv_dup hx hb dX3_add_30 rfl ?_
      refine getF (q0 := 0) (k0 := 1) (v := .int n_len) C hE hP inA3 rfl rfl (by decide) qFX3_15 rfl rfl dX3_add_31 ?_
      refine lv_iconst (v := 1) hx hb dX3_add_34 (by decide) ?_
      refine lv_iadd hx hb dX3_add_35 ?_
      refine putF (q0 := 0) (k0 := 1) (ws1 := [(a_n, .inr (3, [.ref a_ns, .int (n_len + 1)])), (a_ns, .inl (T 2, 32, .inl (upd v_ns n_len.toNatClampNeg p0.toUInt32.toUInt16.toUInt32.toInt32)))]) C hE hP hD hS inA3 tyX3_ok nmX3 rfl rfl (by decide) qFX3_15 rfl rfl rfl rfl (Nat.le_of_ble_eq_true rfl) rfl dX3_add_36 ?_; clear hP hD hS; intro H locs hP hD hS
      replace h := Option.some.inj h
      exact hret _ _ _ _ dX3_add_39 (by rw [← h]; exact hP) hS

def fX3_addNumber_18 (l1 : Int32) (n_len : Int32) (v_ns : Nat → Int32) : Option (Int32 × (Nat → Int32)) :=
  (fX3_add n_len v_ns ((((48 + (l1 - l1 / 10 * 10))).toUInt32 % 65536).toInt32)).bind fun q4 =>
  some (q4.1, q4.2)
def fX3_addNumber (n_len : Int32) (v_ns : Nat → Int32) (p0 : Int32) : Option (Int32 × (Nat → Int32)) :=
  if p0 < 10 then
    fX3_addNumber_18 p0 n_len v_ns
  else
    (fX3_add n_len v_ns ((((48 + (p0 / 10))).toUInt32 % 65536).toInt32)).bind fun q2 =>
    fX3_addNumber_18 p0 q2.1 q2.2
set_option maxHeartbeats 4000000 in
set_option maxRecDepth 100000 in
theorem lX3_addNumber_18 {p : Program} {l : Launch} {e : Env} {s : State} {m : MethodId} {args : Array Value} {below : List Frame} {meth : Method} {c : Code} {Q : State → Prop} {D : va_G} {T : Nat → ClassId} {a_n a_ns : Nat} {A : Nat → Prop} {r : Int32 × (Nat → Int32)} (C : CallFix p m c cX3_addNumber 2 s args aw RX3) (hE : eK D T s) (hA : ∀ q : Nat, s.heap.size ≤ q → A q) (hret : WrRetV p l e ({ frames := 1, cells := 0, slots := 0, locals := 21 } : Room) s m args below meth c Q cX3_addNumber D A [(a_n, .inr (3, [.ref a_ns, .int r.1])), (a_ns, .inl (T 2, 32, .inl r.2))]) (l1 : Int32) (n_len : Int32) (v_ns : Nat → Int32) {H : Heap} {locs : List Loc} (hPD : va_PD D A [(a_n, .inr (3, [.ref a_ns, .int n_len])), (a_ns, .inl (T 2, 32, .inl v_ns))] H) (hS : va_S A s.heap H locs) (ls : Array Slot) (hl : lv_has ls 2 [(0, .ref a_n), (1, .int l1)]) (h : fX3_addNumber_18 l1 n_len v_ns = some r) : W p l e ({ frames := 1, cells := 0, slots := 0, locals := 21 } : Room) s m args below meth c H locs 0 0 Q (F0 m 18 ls []) := by
  have hx := C.1
  have hb := C.2.1
  obtain ⟨hP, hD⟩ := hPD
  unfold fX3_addNumber_18 at h
  refine lv_aload_n hx hb dX3_addNumber_18 rfl (lv_at hl 0 rfl) ?_
  refine lv_bipush (v := 48) hx hb dX3_addNumber_19 (by decide) ?_
  refine lv_iload_n hx hb dX3_addNumber_21 rfl (lv_at hl 1 rfl) ?_
  refine lv_bipush (v := 10) hx hb dX3_addNumber_22 (by decide) ?_
  refine lv_irem hx hb dX3_addNumber_24 (by decide) ?_
  refine lv_iadd hx hb dX3_addNumber_25 ?_
  refine lv_i2c hx hb dX3_addNumber_26 rfl ?_
  replace h := bnd h; obtain ⟨q4, e5, h⟩ := h
  refine wrVv (ws1 := [(a_n, .inr (3, [.ref a_ns, .int q4.1])), (a_ns, .inl (T 2, 32, .inl q4.2))]) C hE hP hD hS hA (kX3_add l D T a_n a_ns n_len v_ns ((((48 + (l1 - l1 / 10 * 10))).toUInt32 % 65536).toInt32) _ q4 e5) mX3_add qLX3_19 [0, 1] [] 0 rfl rfl rfl rfl rfl rfl rfl rfl rfl ⟨rfl, rfl⟩ ⟨Nat.le_of_ble_eq_true rfl, Nat.le_of_ble_eq_true rfl⟩ rfl hl.1 rfl (Nat.le_of_ble_eq_true rfl) dX3_addNumber_27 ⟨Nat.le_of_ble_eq_true rfl, Nat.le_of_ble_eq_true rfl⟩ ?_; clear hP hD hS; intro H locs hP hD hS
  replace h := Option.some.inj h
  exact hret _ _ _ _ dX3_addNumber_30 (by rw [← h]; exact hP) hS
set_option maxHeartbeats 4000000 in
set_option maxRecDepth 100000 in
theorem kX3_addNumber (l : Launch) (D : va_G) (T : Nat → ClassId) (a_n a_ns : Nat) (n_len : Int32) (v_ns : Nat → Int32) (p0 : Int32) (sz : Nat) (r : Int32 × (Nat → Int32)) (h : fX3_addNumber n_len v_ns p0 = some r) : WrV l yX3_addNumber cX3_addNumber 2 ({ frames := 1, cells := 0, slots := 0, locals := 21 } : Room) D T sz [(a_n, .inr (3, [.ref a_ns, .int n_len])), (a_ns, .inl (T 2, 32, .inl v_ns))] [(a_n, .inr (3, [.ref a_ns, .int r.1])), (a_ns, .inl (T 2, 32, .inl r.2))] [.ref a_n, .int p0] := by
  unfold fX3_addNumber at h
  refine wrMetV (by decide +kernel) rfl (fun p e s m args below meth c Q A C hE hA hP hD hS hret ls hl => ?_)
  have hx := C.1
  have hb := C.2.1
  have hl : lv_has ls 2 [(0, .ref a_n), (1, .int p0)] := hl
  refine lv_iload_n hx hb dX3_addNumber_0 rfl (lv_at hl 1 rfl) ?_
  refine lv_bipush (v := 10) hx hb dX3_addNumber_1 (by decide) ?_
  refine lv_icmp_lt (tgt := 18) hx hb dX3_addNumber_3 (by decide) (fun c1 => ?_) (fun c1 => ?_)
  · replace h := ite_t c1 h
    exact lX3_addNumber_18 C hE hA hret p0 n_len v_ns ⟨hP, hD⟩ hS _ (lv_sub hl [0, 1] rfl) h
  · replace h := ite_f c1 h
    refine lv_aload_n hx hb dX3_addNumber_6 rfl (lv_at hl 0 rfl) ?_
    refine lv_bipush (v := 48) hx hb dX3_addNumber_7 (by decide) ?_
    refine lv_iload_n hx hb dX3_addNumber_9 rfl (lv_at hl 1 rfl) ?_
    refine lv_bipush (v := 10) hx hb dX3_addNumber_10 (by decide) ?_
    refine lv_idiv hx hb dX3_addNumber_12 (by decide) ?_
    refine lv_iadd hx hb dX3_addNumber_13 ?_
    refine lv_i2c hx hb dX3_addNumber_14 rfl ?_
    replace h := bnd h; obtain ⟨q2, e3, h⟩ := h
    refine wrVv (ws1 := [(a_n, .inr (3, [.ref a_ns, .int q2.1])), (a_ns, .inl (T 2, 32, .inl q2.2))]) C hE hP hD hS hA (kX3_add l D T a_n a_ns n_len v_ns ((((48 + (p0 / 10))).toUInt32 % 65536).toInt32) _ q2 e3) mX3_add qLX3_19 [0, 1] [] 0 rfl rfl rfl rfl rfl rfl rfl rfl rfl ⟨rfl, rfl⟩ ⟨Nat.le_of_ble_eq_true rfl, Nat.le_of_ble_eq_true rfl⟩ rfl hl.1 rfl (Nat.le_of_ble_eq_true rfl) dX3_addNumber_15 ⟨Nat.le_of_ble_eq_true rfl, Nat.le_of_ble_eq_true rfl⟩ ?_; clear hP hD hS; intro H locs hP hD hS
    exact lX3_addNumber_18 C hE hA hret p0 q2.1 q2.2 ⟨hP, hD⟩ hS _ (lv_sub hl [0, 1] rfl) h

def fX3_addSigned (n_len : Int32) (v_ns : Nat → Int32) (p0 : Int32) (p1 : Int32) : Option (Int32 × (Nat → Int32)) :=
  (fX3_add n_len v_ns p0).bind fun q1 =>
  (fX3_addNumber q1.1 q1.2 p1).bind fun q3 =>
  some (q3.1, q3.2)
set_option maxHeartbeats 4000000 in
set_option maxRecDepth 100000 in
theorem kX3_addSigned (l : Launch) (D : va_G) (T : Nat → ClassId) (a_n a_ns : Nat) (n_len : Int32) (v_ns : Nat → Int32) (p0 : Int32) (p1 : Int32) (sz : Nat) (r : Int32 × (Nat → Int32)) (h : fX3_addSigned n_len v_ns p0 p1 = some r) : WrV l yX3_addSigned cX3_addSigned 3 ({ frames := 2, cells := 0, slots := 0, locals := 42 } : Room) D T sz [(a_n, .inr (3, [.ref a_ns, .int n_len])), (a_ns, .inl (T 2, 32, .inl v_ns))] [(a_n, .inr (3, [.ref a_ns, .int r.1])), (a_ns, .inl (T 2, 32, .inl r.2))] [.ref a_n, .int p0, .int p1] := by
  unfold fX3_addSigned at h
  refine wrMetV (by decide +kernel) rfl (fun p e s m args below meth c Q A C hE hA hP hD hS hret ls hl => ?_)
  have hx := C.1
  have hb := C.2.1
  have hl : lv_has ls 3 [(0, .ref a_n), (1, .int p0), (2, .int p1)] := hl
  refine lv_aload_n hx hb dX3_addSigned_0 rfl (lv_at hl 0 rfl) ?_
  refine lv_iload_n hx hb dX3_addSigned_1 rfl (lv_at hl 1 rfl) ?_
  replace h := bnd h; obtain ⟨q1, e2, h⟩ := h
  refine wrVv (ws1 := [(a_n, .inr (3, [.ref a_ns, .int q1.1])), (a_ns, .inl (T 2, 32, .inl q1.2))]) C hE hP hD hS hA (kX3_add l D T a_n a_ns n_len v_ns p0 _ q1 e2) mX3_add qLX3_19 [0, 1] [] 0 rfl rfl rfl rfl rfl rfl rfl rfl rfl ⟨rfl, rfl⟩ ⟨Nat.le_of_ble_eq_true rfl, Nat.le_of_ble_eq_true rfl⟩ rfl hl.1 rfl (Nat.le_of_ble_eq_true rfl) dX3_addSigned_2 ⟨Nat.le_of_ble_eq_true rfl, Nat.le_of_ble_eq_true rfl⟩ ?_; clear hP hD hS; intro H locs hP hD hS
  refine lv_aload_n hx hb dX3_addSigned_5 rfl (lv_at hl 0 rfl) ?_
  refine lv_iload_n hx hb dX3_addSigned_6 rfl (lv_at hl 2 rfl) ?_
  replace h := bnd h; obtain ⟨q3, e4, h⟩ := h
  refine wrVv (ws1 := [(a_n, .inr (3, [.ref a_ns, .int q3.1])), (a_ns, .inl (T 2, 32, .inl q3.2))]) C hE hP hD hS hA (kX3_addNumber l D T a_n a_ns q1.1 q1.2 p1 _ q3 e4) mX3_addNumber qLX3_23 [0, 1] [] 0 rfl rfl rfl rfl rfl rfl rfl rfl rfl ⟨rfl, rfl⟩ ⟨Nat.le_of_ble_eq_true rfl, Nat.le_of_ble_eq_true rfl⟩ rfl hl.1 rfl (Nat.le_of_ble_eq_true rfl) dX3_addSigned_7 ⟨Nat.le_of_ble_eq_true rfl, Nat.le_of_ble_eq_true rfl⟩ ?_; clear hP hD hS; intro H locs hP hD hS
  replace h := Option.some.inj h
  exact hret _ _ _ _ dX3_addSigned_10 (by rw [← h]; exact hP) hS

def fX4_spreadTo (v_rs : Nat → Int32) (p0 : Int32) : Option Int32 :=
  if (fX7_isCell p0) = 0 then
    some (-1)
  else
    if vin p0 45 = true then
    if 1000 ≤ (v_rs p0.toNatClampNeg) then
      some (-1)
    else
      if vin p0 45 = true then
      some (v_rs p0.toNatClampNeg)
      else none
    else none
set_option maxHeartbeats 4000000 in
set_option maxRecDepth 100000 in
theorem kX4_spreadTo (l : Launch) (D : va_G) (T : Nat → ClassId) (a_r a_g a_rs a_rl a_ro : Nat) (v_rs : Nat → Int32) (p0 : Int32) (r : Int32) (h : fX4_spreadTo v_rs p0 = some r) : RdI l yX4_spreadTo cX4_spreadTo 2 .int ({ frames := 1, cells := 0, slots := 0, locals := 20 } : Room) D T [(a_r, .inr (4, [.ref a_g, .ref a_rs, .ref a_rl, .ref a_ro])), (a_rs, .inl (T 0, 45, .inl v_rs))] [.ref a_r, .int p0] r := by
  unfold fX4_spreadTo at h
  refine rdMet (by decide +kernel) rfl (fun p e s m args below meth c Q C hE hP hret ls hl => ?_)
  have hx := C.1
  have hb := C.2.1
  have hl : lv_has ls 2 [(0, .ref a_r), (1, .int p0)] := hl
  refine lv_iload_n hx hb dX4_spreadTo_0 rfl (lv_at hl 1 rfl) ?_
  refine rdSN C hE hP (kX7_isCell l D T p0) mX7_isCell (by decide +kernel) [] rfl ⟨rfl, rfl⟩ ⟨Nat.le_of_ble_eq_true rfl, Nat.le_of_ble_eq_true rfl⟩ rfl hl.1 rfl (Nat.le_of_ble_eq_true rfl) dX4_spreadTo_1 ⟨Nat.le_of_ble_eq_true rfl, Nat.le_of_ble_eq_true rfl⟩ ?_
  refine lv_if_eq (tgt := 28) hx hb dX4_spreadTo_4 (by decide) (fun c1 => ?_) (fun c1 => ?_)
  · replace h := ite_t c1 h
    refine lv_iconst (v := (-1)) hx hb dX4_spreadTo_28 (by decide) ?_
    exact hret _ _ _ _ dX4_spreadTo_29 rfl (Option.some.inj h)
  · replace h := ite_f c1 h
    refine lv_aload_n hx hb dX4_spreadTo_7 rfl (lv_at hl 0 rfl) ?_
    refine getF (q0 := 0) (k0 := 1) (v := .ref a_rs) C hE hP inA4 rfl rfl (by decide) qFX4_9 rfl rfl dX4_spreadTo_8 ?_
    refine lv_iload_n hx hb dX4_spreadTo_11 rfl (lv_at hl 1 rfl) ?_
    replace h := gd h; obtain ⟨g2, h⟩ := h
    refine aldI (q0 := 1) C hE hP rfl g2 dX4_spreadTo_12 ?_
    refine lv_sipush (v := 1000) hx hb dX4_spreadTo_13 (by decide) ?_
    refine lv_icmp_ge (tgt := 28) hx hb dX4_spreadTo_16 (by decide) (fun c3 => ?_) (fun c3 => ?_)
    · replace h := ite_t c3 h
      refine lv_iconst (v := (-1)) hx hb dX4_spreadTo_28 (by decide) ?_
      exact hret _ _ _ _ dX4_spreadTo_29 rfl (Option.some.inj h)
    · replace h := ite_f c3 h
      refine lv_aload_n hx hb dX4_spreadTo_19 rfl (lv_at hl 0 rfl) ?_
      refine getF (q0 := 0) (k0 := 1) (v := .ref a_rs) C hE hP inA4 rfl rfl (by decide) qFX4_9 rfl rfl dX4_spreadTo_20 ?_
      refine lv_iload_n hx hb dX4_spreadTo_23 rfl (lv_at hl 1 rfl) ?_
      replace h := gd h; obtain ⟨g4, h⟩ := h
      refine aldI (q0 := 1) C hE hP rfl g4 dX4_spreadTo_24 ?_
      refine lv_goto (tgt := 29) hx hb dX4_spreadTo_25 (by decide) ?_
      exact hret _ _ _ _ dX4_spreadTo_29 rfl (Option.some.inj h)

def fX4_loweredTo (v_rl : Nat → Int32) (p0 : Int32) : Option Int32 :=
  if (fX7_isCell p0) = 0 then
    some (-1)
  else
    if vin p0 45 = true then
    if 1000 ≤ (v_rl p0.toNatClampNeg) then
      some (-1)
    else
      if vin p0 45 = true then
      some (v_rl p0.toNatClampNeg)
      else none
    else none
set_option maxHeartbeats 4000000 in
set_option maxRecDepth 100000 in
theorem kX4_loweredTo (l : Launch) (D : va_G) (T : Nat → ClassId) (a_r a_g a_rs a_rl a_ro : Nat) (v_rl : Nat → Int32) (p0 : Int32) (r : Int32) (h : fX4_loweredTo v_rl p0 = some r) : RdI l yX4_loweredTo cX4_loweredTo 2 .int ({ frames := 1, cells := 0, slots := 0, locals := 20 } : Room) D T [(a_r, .inr (4, [.ref a_g, .ref a_rs, .ref a_rl, .ref a_ro])), (a_rl, .inl (T 0, 45, .inl v_rl))] [.ref a_r, .int p0] r := by
  unfold fX4_loweredTo at h
  refine rdMet (by decide +kernel) rfl (fun p e s m args below meth c Q C hE hP hret ls hl => ?_)
  have hx := C.1
  have hb := C.2.1
  have hl : lv_has ls 2 [(0, .ref a_r), (1, .int p0)] := hl
  refine lv_iload_n hx hb dX4_loweredTo_0 rfl (lv_at hl 1 rfl) ?_
  refine rdSN C hE hP (kX7_isCell l D T p0) mX7_isCell (by decide +kernel) [] rfl ⟨rfl, rfl⟩ ⟨Nat.le_of_ble_eq_true rfl, Nat.le_of_ble_eq_true rfl⟩ rfl hl.1 rfl (Nat.le_of_ble_eq_true rfl) dX4_loweredTo_1 ⟨Nat.le_of_ble_eq_true rfl, Nat.le_of_ble_eq_true rfl⟩ ?_
  refine lv_if_eq (tgt := 28) hx hb dX4_loweredTo_4 (by decide) (fun c1 => ?_) (fun c1 => ?_)
  · replace h := ite_t c1 h
    refine lv_iconst (v := (-1)) hx hb dX4_loweredTo_28 (by decide) ?_
    exact hret _ _ _ _ dX4_loweredTo_29 rfl (Option.some.inj h)
  · replace h := ite_f c1 h
    refine lv_aload_n hx hb dX4_loweredTo_7 rfl (lv_at hl 0 rfl) ?_
    refine getF (q0 := 0) (k0 := 2) (v := .ref a_rl) C hE hP inA4 rfl rfl (by decide) qFX4_15 rfl rfl dX4_loweredTo_8 ?_
    refine lv_iload_n hx hb dX4_loweredTo_11 rfl (lv_at hl 1 rfl) ?_
    replace h := gd h; obtain ⟨g2, h⟩ := h
    refine aldI (q0 := 1) C hE hP rfl g2 dX4_loweredTo_12 ?_
    refine lv_sipush (v := 1000) hx hb dX4_loweredTo_13 (by decide) ?_
    refine lv_icmp_ge (tgt := 28) hx hb dX4_loweredTo_16 (by decide) (fun c3 => ?_) (fun c3 => ?_)
    · replace h := ite_t c3 h
      refine lv_iconst (v := (-1)) hx hb dX4_loweredTo_28 (by decide) ?_
      exact hret _ _ _ _ dX4_loweredTo_29 rfl (Option.some.inj h)
    · replace h := ite_f c3 h
      refine lv_aload_n hx hb dX4_loweredTo_19 rfl (lv_at hl 0 rfl) ?_
      refine getF (q0 := 0) (k0 := 2) (v := .ref a_rl) C hE hP inA4 rfl rfl (by decide) qFX4_15 rfl rfl dX4_loweredTo_20 ?_
      refine lv_iload_n hx hb dX4_loweredTo_23 rfl (lv_at hl 1 rfl) ?_
      replace h := gd h; obtain ⟨g4, h⟩ := h
      refine aldI (q0 := 1) C hE hP rfl g4 dX4_loweredTo_24 ?_
      refine lv_goto (tgt := 29) hx hb dX4_loweredTo_25 (by decide) ?_
      exact hret _ _ _ _ dX4_loweredTo_29 rfl (Option.some.inj h)

def fX4_areAlike_2 (v_rs : Nat → Int32) (v_rl : Nat → Int32) : Nat → Int32 → Option Int32
  | 0, _ => none
  | k + 1, l1 =>
    if 45 ≤ l1 then
      some 1
    else
      (fX4_spreadTo v_rs l1).bind fun q2 =>
      (fX4_loweredTo v_rl l1).bind fun q4 =>
      if q2 = q4 then
        fX4_areAlike_2 v_rs v_rl k (l1 + 1)
      else
        some 0
def fX4_areAlike (v_rs : Nat → Int32) (v_rl : Nat → Int32) : Option Int32 :=
  fX4_areAlike_2 v_rs v_rl 64 0
set_option maxHeartbeats 4000000 in
set_option maxRecDepth 100000 in
theorem lX4_areAlike_2 {p : Program} {l : Launch} {e : Env} {s : State} {m : MethodId} {args : Array Value} {below : List Frame} {meth : Method} {c : Code} {Q : State → Prop} {D : va_G} {T : Nat → ClassId} {a_r a_g a_rs a_rl a_ro : Nat} {v_rs : Nat → Int32} {v_rl : Nat → Int32} {r : Int32} (C : CallFix p m c cX4_areAlike 2 s args aw RX4) (hE : eK D T s) (hP : va_P D kC [(a_r, .inr (4, [.ref a_g, .ref a_rs, .ref a_rl, .ref a_ro])), (a_rs, .inl (T 0, 45, .inl v_rs)), (a_rl, .inl (T 0, 45, .inl v_rl))] s.heap) (hret : RdRet p l e ({ frames := 2, cells := 0, slots := 0, locals := 41 } : Room) s m args below meth c Q cX4_areAlike .boolean r) : ∀ (k : Nat) (l1 : Int32) (ls : Array Slot) (hl : lv_has ls 2 [(0, .ref a_r), (1, .int l1)]) (h : fX4_areAlike_2 v_rs v_rl k l1 = some r), W p l e ({ frames := 2, cells := 0, slots := 0, locals := 41 } : Room) s m args below meth c s.heap [] 0 0 Q (F0 m 2 ls []) := by
  have hx := C.1
  have hb := C.2.1
  intro k
  induction k with
  | zero =>
    intro l1  ls hl h
    exact nomatch (show (none : Option Int32) = some r from h)
  | succ k ih =>
    intro l1  ls hl h
    rw [fX4_areAlike_2] at h
    refine lv_iload_n hx hb dX4_areAlike_2 rfl (lv_at hl 1 rfl) ?_
    refine lv_bipush (v := 45) hx hb dX4_areAlike_3 (by decide) ?_
    refine lv_icmp_ge (tgt := 29) hx hb dX4_areAlike_5 (by decide) (fun c1 => ?_) (fun c1 => ?_)
    · replace h := ite_t c1 h
      refine lv_iconst (v := 1) hx hb dX4_areAlike_29 (by decide) ?_
      exact hret _ _ _ _ dX4_areAlike_30 rfl (Option.some.inj h)
    · replace h := ite_f c1 h
      refine lv_aload_n hx hb dX4_areAlike_8 rfl (lv_at hl 0 rfl) ?_
      refine lv_iload_n hx hb dX4_areAlike_9 rfl (lv_at hl 1 rfl) ?_
      replace h := bnd h; obtain ⟨q2, e3, h⟩ := h
      refine rdV C hE hP (kX4_spreadTo l D T a_r a_g a_rs a_rl a_ro v_rs l1 q2 e3) mX4_spreadTo qLX4_30 [0, 1] 0 rfl rfl rfl rfl ⟨rfl, rfl⟩ ⟨Nat.le_of_ble_eq_true rfl, Nat.le_of_ble_eq_true rfl⟩ rfl hl.1 rfl (Nat.le_of_ble_eq_true rfl) dX4_areAlike_10 ⟨Nat.le_of_ble_eq_true rfl, Nat.le_of_ble_eq_true rfl⟩ ?_
      refine lv_aload_n hx hb dX4_areAlike_13 rfl (lv_at hl 0 rfl) ?_
      refine lv_iload_n hx hb dX4_areAlike_14 rfl (lv_at hl 1 rfl) ?_
      replace h := bnd h; obtain ⟨q4, e5, h⟩ := h
      refine rdV C hE hP (kX4_loweredTo l D T a_r a_g a_rs a_rl a_ro v_rl l1 q4 e5) mX4_loweredTo qLX4_34 [0, 2] 0 rfl rfl rfl rfl ⟨rfl, rfl⟩ ⟨Nat.le_of_ble_eq_true rfl, Nat.le_of_ble_eq_true rfl⟩ rfl hl.1 rfl (Nat.le_of_ble_eq_true rfl) dX4_areAlike_15 ⟨Nat.le_of_ble_eq_true rfl, Nat.le_of_ble_eq_true rfl⟩ ?_
      refine lv_icmp_eq (tgt := 23) hx hb dX4_areAlike_18 (by decide) (fun c6 => ?_) (fun c6 => ?_)
      · replace h := ite_t c6 h
        refine lv_iinc (v := (l1 + 1)) (lv' := [(1, .int (l1 + 1)), (0, .ref a_r)]) hx hb dX4_areAlike_23 hl (k := 1) rfl rfl (by decide) rfl (fun ls hl => ?_)
        refine lv_goto (tgt := 2) hx hb dX4_areAlike_26 (by decide) ?_
        exact ih (l1 + 1) _ (lv_sub hl [1, 0] rfl) h
      · replace h := ite_f c6 h
        refine lv_iconst (v := 0) hx hb dX4_areAlike_21 (by decide) ?_
        exact hret _ _ _ _ dX4_areAlike_22 rfl (Option.some.inj h)
set_option maxHeartbeats 4000000 in
set_option maxRecDepth 100000 in
theorem kX4_areAlike (l : Launch) (D : va_G) (T : Nat → ClassId) (a_r a_g a_rs a_rl a_ro : Nat) (v_rs : Nat → Int32) (v_rl : Nat → Int32) (r : Int32) (h : fX4_areAlike v_rs v_rl = some r) : RdI l yX4_areAlike cX4_areAlike 2 .boolean ({ frames := 2, cells := 0, slots := 0, locals := 41 } : Room) D T [(a_r, .inr (4, [.ref a_g, .ref a_rs, .ref a_rl, .ref a_ro])), (a_rs, .inl (T 0, 45, .inl v_rs)), (a_rl, .inl (T 0, 45, .inl v_rl))] [.ref a_r] r := by
  unfold fX4_areAlike at h
  refine rdMet (by decide +kernel) rfl (fun p e s m args below meth c Q C hE hP hret ls hl => ?_)
  have hx := C.1
  have hb := C.2.1
  have hl : lv_has ls 2 [(0, .ref a_r)] := hl
  refine lv_iconst (v := 0) hx hb dX4_areAlike_0 (by decide) ?_
  refine lv_istore_n (lv' := [(1, .int 0), (0, .ref a_r)]) hx hb dX4_areAlike_1 rfl hl (by decide) rfl (fun ls hl => ?_)
  exact lX4_areAlike_2 C hE hP hret 64 0 _ (lv_sub hl [1, 0] rfl) h

def fX4_countWithin_38 (v_rs : Nat → Int32) (rec4 : Int32 → Int32 → Int32 → Option Int32) (x0 : Int32) (x1 : Int32) (l1 : Int32) (l3 : Int32) : Option Int32 :=
  rec4 l1 (x0 + x1) (l3 + 1)
def fX4_countWithin_4 (v_rs : Nat → Int32) : Nat → Int32 → Int32 → Int32 → Option Int32
  | 0, _, _, _ => none
  | k + 1, l1, l2, l3 =>
    if 45 ≤ l3 then
      some l2
    else
      if vin l3 45 = true then
      if (v_rs l3.toNatClampNeg) ≤ 0 then
        fX4_countWithin_38 v_rs (fX4_countWithin_4 v_rs k) l2 0 l1 l3
      else
        if vin l3 45 = true then
        fX4_countWithin_38 v_rs (fX4_countWithin_4 v_rs k) l2 (if l1 < (v_rs l3.toNatClampNeg) then 0 else 1) l1 l3
        else none
      else none
def fX4_countWithin (v_rs : Nat → Int32) (p0 : Int32) : Option Int32 :=
  fX4_countWithin_4 v_rs 64 p0 0 0
set_option maxHeartbeats 4000000 in
set_option maxRecDepth 100000 in
theorem lX4_countWithin_38 {p : Program} {l : Launch} {e : Env} {s : State} {m : MethodId} {args : Array Value} {below : List Frame} {meth : Method} {c : Code} {Q : State → Prop} {D : va_G} {T : Nat → ClassId} {a_r a_g a_rs a_rl a_ro : Nat} {v_rs : Nat → Int32} {r : Int32} (C : CallFix p m c cX4_countWithin 4 s args aw RX4) (hE : eK D T s) (hP : va_P D kC [(a_r, .inr (4, [.ref a_g, .ref a_rs, .ref a_rl, .ref a_ro])), (a_rs, .inl (T 0, 45, .inl v_rs))] s.heap) (hret : RdRet p l e ({ frames := 0, cells := 0, slots := 0, locals := 0 } : Room) s m args below meth c Q cX4_countWithin .int r) {rec4 : Int32 → Int32 → Int32 → Option Int32} (hrec4 : ∀ (l1 : Int32) (l2 : Int32) (l3 : Int32) (ls : Array Slot) (hl : lv_has ls 4 [(0, .ref a_r), (1, .int l1), (2, .int l2), (3, .int l3)]) (h : rec4 l1 l2 l3 = some r), W p l e ({ frames := 0, cells := 0, slots := 0, locals := 0 } : Room) s m args below meth c s.heap [] 0 0 Q (F0 m 4 ls [])) (x0 : Int32) (x1 : Int32) (l1 : Int32) (l3 : Int32) (ls : Array Slot) (hl : lv_has ls 4 [(0, .ref a_r), (1, .int l1), (3, .int l3)]) (h : fX4_countWithin_38 v_rs rec4 x0 x1 l1 l3 = some r) : W p l e ({ frames := 0, cells := 0, slots := 0, locals := 0 } : Room) s m args below meth c s.heap [] 0 0 Q (F0 m 38 ls [.int x1, .int x0]) := by
  have hx := C.1
  have hb := C.2.1
  unfold fX4_countWithin_38 at h
  refine lv_iadd hx hb dX4_countWithin_38 ?_
  refine lv_istore_n (lv' := [(2, .int (x0 + x1)), (0, .ref a_r), (1, .int l1), (3, .int l3)]) hx hb dX4_countWithin_39 rfl hl (by decide) rfl (fun ls hl => ?_)
  refine lv_iinc (v := (l3 + 1)) (lv' := [(3, .int (l3 + 1)), (2, .int (x0 + x1)), (0, .ref a_r), (1, .int l1)]) hx hb dX4_countWithin_40 hl (k := 3) rfl rfl (by decide) rfl (fun ls hl => ?_)
  refine lv_goto (tgt := 4) hx hb dX4_countWithin_43 (by decide) ?_
  exact hrec4 l1 (x0 + x1) (l3 + 1) _ (lv_sub hl [2, 3, 1, 0] rfl) h
set_option maxHeartbeats 4000000 in
set_option maxRecDepth 100000 in
theorem lX4_countWithin_4 {p : Program} {l : Launch} {e : Env} {s : State} {m : MethodId} {args : Array Value} {below : List Frame} {meth : Method} {c : Code} {Q : State → Prop} {D : va_G} {T : Nat → ClassId} {a_r a_g a_rs a_rl a_ro : Nat} {v_rs : Nat → Int32} {r : Int32} (C : CallFix p m c cX4_countWithin 4 s args aw RX4) (hE : eK D T s) (hP : va_P D kC [(a_r, .inr (4, [.ref a_g, .ref a_rs, .ref a_rl, .ref a_ro])), (a_rs, .inl (T 0, 45, .inl v_rs))] s.heap) (hret : RdRet p l e ({ frames := 0, cells := 0, slots := 0, locals := 0 } : Room) s m args below meth c Q cX4_countWithin .int r) : ∀ (k : Nat) (l1 : Int32) (l2 : Int32) (l3 : Int32) (ls : Array Slot) (hl : lv_has ls 4 [(0, .ref a_r), (1, .int l1), (2, .int l2), (3, .int l3)]) (h : fX4_countWithin_4 v_rs k l1 l2 l3 = some r), W p l e ({ frames := 0, cells := 0, slots := 0, locals := 0 } : Room) s m args below meth c s.heap [] 0 0 Q (F0 m 4 ls []) := by
  have hx := C.1
  have hb := C.2.1
  intro k
  induction k with
  | zero =>
    intro l1 l2 l3  ls hl h
    exact nomatch (show (none : Option Int32) = some r from h)
  | succ k ih =>
    intro l1 l2 l3  ls hl h
    rw [fX4_countWithin_4] at h
    refine lv_iload_n hx hb dX4_countWithin_4 rfl (lv_at hl 3 rfl) ?_
    refine lv_aload_n hx hb dX4_countWithin_5 rfl (lv_at hl 0 rfl) ?_
    refine getF (q0 := 0) (k0 := 1) (v := .ref a_rs) C hE hP inA4 rfl rfl (by decide) qFX4_9 rfl rfl dX4_countWithin_6 ?_
    refine alen (q0 := 1) (t0 := 0) (v := 45) C hE hP rfl rfl (by decide) dX4_countWithin_9 ?_
    refine lv_icmp_ge (tgt := 46) hx hb dX4_countWithin_10 (by decide) (fun c1 => ?_) (fun c1 => ?_)
    · replace h := ite_t c1 h
      refine lv_iload_n hx hb dX4_countWithin_46 rfl (lv_at hl 2 rfl) ?_
      exact hret _ _ _ _ dX4_countWithin_47 rfl (Option.some.inj h)
    · replace h := ite_f c1 h
      refine lv_iload_n hx hb dX4_countWithin_13 rfl (lv_at hl 2 rfl) ?_
      refine lv_aload_n hx hb dX4_countWithin_14 rfl (lv_at hl 0 rfl) ?_
      refine getF (q0 := 0) (k0 := 1) (v := .ref a_rs) C hE hP inA4 rfl rfl (by decide) qFX4_9 rfl rfl dX4_countWithin_15 ?_
      refine lv_iload_n hx hb dX4_countWithin_18 rfl (lv_at hl 3 rfl) ?_
      replace h := gd h; obtain ⟨g2, h⟩ := h
      refine aldI (q0 := 1) C hE hP rfl g2 dX4_countWithin_19 ?_
      refine lv_if_le (tgt := 37) hx hb dX4_countWithin_20 (by decide) (fun c3 => ?_) (fun c3 => ?_)
      · replace h := ite_t c3 h
        refine lv_iconst (v := 0) hx hb dX4_countWithin_37 (by decide) ?_
        exact lX4_countWithin_38 C hE hP hret ih l2 0 l1 l3 _ (lv_sub hl [0, 1, 3] rfl) h
      · replace h := ite_f c3 h
        refine lv_aload_n hx hb dX4_countWithin_23 rfl (lv_at hl 0 rfl) ?_
        refine getF (q0 := 0) (k0 := 1) (v := .ref a_rs) C hE hP inA4 rfl rfl (by decide) qFX4_9 rfl rfl dX4_countWithin_24 ?_
        refine lv_iload_n hx hb dX4_countWithin_27 rfl (lv_at hl 3 rfl) ?_
        replace h := gd h; obtain ⟨g4, h⟩ := h
        refine aldI (q0 := 1) C hE hP rfl g4 dX4_countWithin_28 ?_
        refine lv_iload_n hx hb dX4_countWithin_29 rfl (lv_at hl 1 rfl) ?_
        refine lv_icmp_gt (tgt := 37) hx hb dX4_countWithin_30 (by decide) (fun c5 => ?_) (fun c5 => ?_)
        · rw [if_pos c5] at h
          refine lv_iconst (v := 0) hx hb dX4_countWithin_37 (by decide) ?_
          exact lX4_countWithin_38 C hE hP hret ih l2 0 l1 l3 _ (lv_sub hl [0, 1, 3] rfl) h
        · rw [if_neg c5] at h
          refine lv_iconst (v := 1) hx hb dX4_countWithin_33 (by decide) ?_
          refine lv_goto (tgt := 38) hx hb dX4_countWithin_34 (by decide) ?_
          exact lX4_countWithin_38 C hE hP hret ih l2 1 l1 l3 _ (lv_sub hl [0, 1, 3] rfl) h
set_option maxHeartbeats 4000000 in
set_option maxRecDepth 100000 in
theorem kX4_countWithin (l : Launch) (D : va_G) (T : Nat → ClassId) (a_r a_g a_rs a_rl a_ro : Nat) (v_rs : Nat → Int32) (p0 : Int32) (r : Int32) (h : fX4_countWithin v_rs p0 = some r) : RdI l yX4_countWithin cX4_countWithin 4 .int ({ frames := 0, cells := 0, slots := 0, locals := 0 } : Room) D T [(a_r, .inr (4, [.ref a_g, .ref a_rs, .ref a_rl, .ref a_ro])), (a_rs, .inl (T 0, 45, .inl v_rs))] [.ref a_r, .int p0] r := by
  unfold fX4_countWithin at h
  refine rdMet (by decide +kernel) rfl (fun p e s m args below meth c Q C hE hP hret ls hl => ?_)
  have hx := C.1
  have hb := C.2.1
  have hl : lv_has ls 4 [(0, .ref a_r), (1, .int p0)] := hl
  refine lv_iconst (v := 0) hx hb dX4_countWithin_0 (by decide) ?_
  refine lv_istore_n (lv' := [(2, .int 0), (0, .ref a_r), (1, .int p0)]) hx hb dX4_countWithin_1 rfl hl (by decide) rfl (fun ls hl => ?_)
  refine lv_iconst (v := 0) hx hb dX4_countWithin_2 (by decide) ?_
  refine lv_istore_n (lv' := [(3, .int 0), (2, .int 0), (0, .ref a_r), (1, .int p0)]) hx hb dX4_countWithin_3 rfl hl (by decide) rfl (fun ls hl => ?_)
  exact lX4_countWithin_4 C hE hP hret 64 p0 0 0 _ (lv_sub hl [2, 3, 1, 0] rfl) h

def fX4_begin_32 (v_gw : Nat → Int32) (v_gk : Nat → Int32) (n_c0 : Nat) (rec2 : Int32 → Int32 → (Nat → Int32) → (Nat → Int32) → Option ((Nat → Int32) × (Nat → Int32))) (x1 : Int32) (x2 : Int32) (l2 : Int32) (l3 : Int32) (v_ro : Nat → Int32) (v_c0 : Nat → Int32) : Option ((Nat → Int32) × (Nat → Int32)) :=
  if vin x1 45 = true then
  rec2 l2 (l3 + 1) (upd v_ro x1.toNatClampNeg (x2 &&& 1)) v_c0
  else none
def fX4_begin_80 (v_gw : Nat → Int32) (v_gk : Nat → Int32) (n_c0 : Nat) (rec41 : Int32 → Int32 → (Nat → Int32) → (Nat → Int32) → Option ((Nat → Int32) × (Nat → Int32))) (l2 : Int32) (l3 : Int32) (v_ro : Nat → Int32) (v_c0 : Nat → Int32) : Option ((Nat → Int32) × (Nat → Int32)) :=
  rec41 l2 (l3 + 1) v_ro v_c0
def fX4_begin_88 (v_gw : Nat → Int32) (v_gk : Nat → Int32) (n_c0 : Nat) : Nat → Int32 → Int32 → (Nat → Int32) → (Nat → Int32) → Option ((Nat → Int32) × (Nat → Int32))
  | 0, _, _, _, _ => none
  | k + 1, l2, l3, v_ro, v_c0 =>
    if (Int32.ofNat n_c0) ≤ l3 then
      (fX1_of v_gw l2 4).bind fun q14 =>
      if q14 < 0 then
        some (v_ro, v_c0)
      else
        if (Int32.ofNat n_c0) ≤ q14 then
          some (v_ro, v_c0)
        else
          if vin q14 n_c0 = true then
          some (v_ro, (upd v_c0 q14.toNatClampNeg 0))
          else none
    else
      if vin l3 n_c0 = true then
      fX4_begin_88 v_gw v_gk n_c0 k l2 (l3 + 1) v_ro (upd v_c0 l3.toNatClampNeg 1000)
      else none
def fX4_begin_41 (v_gw : Nat → Int32) (v_gk : Nat → Int32) (n_c0 : Nat) : Nat → Int32 → Int32 → (Nat → Int32) → (Nat → Int32) → Option ((Nat → Int32) × (Nat → Int32))
  | 0, _, _, _, _ => none
  | k + 1, l2, l3, v_ro, v_c0 =>
    (fX1_count v_gk 0).bind fun q6 =>
    if q6 ≤ l3 then
      fX4_begin_88 v_gw v_gk n_c0 64 l2 0 v_ro v_c0
    else
      (fX1_of v_gw l3 4).bind fun q9 =>
      if (fX7_isCell q9) = 0 then
        fX4_begin_80 v_gw v_gk n_c0 (fX4_begin_41 v_gw v_gk n_c0 k) l2 l3 v_ro v_c0
      else
        if vin q9 45 = true then
        fX4_begin_80 v_gw v_gk n_c0 (fX4_begin_41 v_gw v_gk n_c0 k) l2 l3 (upd v_ro q9.toNatClampNeg (0 &&& 1)) v_c0
        else none
def fX4_begin_2 (v_gw : Nat → Int32) (v_gk : Nat → Int32) (n_c0 : Nat) : Nat → Int32 → Int32 → (Nat → Int32) → (Nat → Int32) → Option ((Nat → Int32) × (Nat → Int32))
  | 0, _, _, _, _ => none
  | k + 1, l2, l3, v_ro, v_c0 =>
    if 45 ≤ l3 then
      fX4_begin_41 v_gw v_gk n_c0 64 l2 0 v_ro v_c0
    else
      (fX1_isDryNow v_gk l3).bind fun q2 =>
      fX4_begin_32 v_gw v_gk n_c0 (fX4_begin_2 v_gw v_gk n_c0 k) l3 (if q2 = 0 then 1 else 0) l2 l3 v_ro v_c0
def fX4_begin (v_gw : Nat → Int32) (v_gk : Nat → Int32) (v_ro : Nat → Int32) (n_c0 : Nat) (v_c0 : Nat → Int32) (p0 : Int32) : Option ((Nat → Int32) × (Nat → Int32)) :=
  fX4_begin_2 v_gw v_gk n_c0 64 p0 0 v_ro v_c0
set_option maxHeartbeats 4000000 in
set_option maxRecDepth 100000 in
theorem lX4_begin_32 {p : Program} {l : Launch} {e : Env} {s : State} {m : MethodId} {args : Array Value} {below : List Frame} {meth : Method} {c : Code} {Q : State → Prop} {D : va_G} {T : Nat → ClassId} {a_g a_gw a_gk a_r a_rs a_rl a_ro a_c0 : Nat} {v_gw : Nat → Int32} {v_gk : Nat → Int32} {n_c0 : Nat} {A : Nat → Prop} {r : (Nat → Int32) × (Nat → Int32)} (C : CallFix p m c cX4_begin 5 s args aw RX4) (hE : eK D T s) (hA : ∀ q : Nat, s.heap.size ≤ q → A q) (hret : WrRetV p l e ({ frames := 2, cells := 0, slots := 0, locals := 42 } : Room) s m args below meth c Q cX4_begin D A [(a_g, .inr (1, [.ref a_gw, .ref a_gk])), (a_r, .inr (4, [.ref a_g, .ref a_rs, .ref a_rl, .ref a_ro])), (a_gw, .inl (T 0, 90, .inl v_gw)), (a_gk, .inl (T 0, 18, .inl v_gk)), (a_ro, .inl (T 1, 45, .inl r.1)), (a_c0, .inl (T 0, n_c0, .inl r.2))]) {rec2 : Int32 → Int32 → (Nat → Int32) → (Nat → Int32) → Option ((Nat → Int32) × (Nat → Int32))} (hrec2 : ∀ (l2 : Int32) (l3 : Int32) (v_ro : Nat → Int32) (v_c0 : Nat → Int32) {H : Heap} {locs : List Loc} (hPD : va_PD D A [(a_g, .inr (1, [.ref a_gw, .ref a_gk])), (a_r, .inr (4, [.ref a_g, .ref a_rs, .ref a_rl, .ref a_ro])), (a_gw, .inl (T 0, 90, .inl v_gw)), (a_gk, .inl (T 0, 18, .inl v_gk)), (a_ro, .inl (T 1, 45, .inl v_ro)), (a_c0, .inl (T 0, n_c0, .inl v_c0))] H) (hS : va_S A s.heap H locs) (ls : Array Slot) (hl : lv_has ls 5 [(0, .ref a_r), (1, .ref a_c0), (2, .int l2), (3, .int l3)]) (h : rec2 l2 l3 v_ro v_c0 = some r), W p l e ({ frames := 2, cells := 0, slots := 0, locals := 42 } : Room) s m args below meth c H locs 0 0 Q (F0 m 2 ls [])) (x1 : Int32) (x2 : Int32) (l2 : Int32) (l3 : Int32) (v_ro : Nat → Int32) (v_c0 : Nat → Int32) {H : Heap} {locs : List Loc} (hPD : va_PD D A [(a_g, .inr (1, [.ref a_gw, .ref a_gk])), (a_r, .inr (4, [.ref a_g, .ref a_rs, .ref a_rl, .ref a_ro])), (a_gw, .inl (T 0, 90, .inl v_gw)), (a_gk, .inl (T 0, 18, .inl v_gk)), (a_ro, .inl (T 1, 45, .inl v_ro)), (a_c0, .inl (T 0, n_c0, .inl v_c0))] H) (hS : va_S A s.heap H locs) (ls : Array Slot) (hl : lv_has ls 5 [(0, .ref a_r), (1, .ref a_c0), (2, .int l2), (3, .int l3)]) (h : fX4_begin_32 v_gw v_gk n_c0 rec2 x1 x2 l2 l3 v_ro v_c0 = some r) : W p l e ({ frames := 2, cells := 0, slots := 0, locals := 42 } : Room) s m args below meth c H locs 0 0 Q (F0 m 32 ls [.int x2, .int x1, .ref a_ro]) := by
  have hx := C.1
  have hb := C.2.1
  obtain ⟨hP, hD⟩ := hPD
  unfold fX4_begin_32 at h
  replace h := gd h; obtain ⟨g5, h⟩ := h
  refine astZ (q0 := 4) (ws1 := [(a_g, .inr (1, [.ref a_gw, .ref a_gk])), (a_r, .inr (4, [.ref a_g, .ref a_rs, .ref a_rl, .ref a_ro])), (a_gw, .inl (T 0, 90, .inl v_gw)), (a_gk, .inl (T 0, 18, .inl v_gk)), (a_ro, .inl (T 1, 45, .inl (upd v_ro x1.toNatClampNeg (x2 &&& 1)))), (a_c0, .inl (T 0, n_c0, .inl v_c0))]) C hE hP hD hS rfl g5 rfl dX4_begin_32 ?_; clear hP hD hS; intro H locs hP hD hS
  refine lv_iinc (v := (l3 + 1)) (lv' := [(3, .int (l3 + 1)), (0, .ref a_r), (1, .ref a_c0), (2, .int l2)]) hx hb dX4_begin_33 hl (k := 3) rfl rfl (by decide) rfl (fun ls hl => ?_)
  refine lv_goto (tgt := 2) hx hb dX4_begin_36 (by decide) ?_
  exact hrec2 l2 (l3 + 1) (upd v_ro x1.toNatClampNeg (x2 &&& 1)) v_c0 ⟨hP, hD⟩ hS _ (lv_sub hl [1, 2, 3, 0] rfl) h
set_option maxHeartbeats 4000000 in
set_option maxRecDepth 100000 in
theorem lX4_begin_80 {p : Program} {l : Launch} {e : Env} {s : State} {m : MethodId} {args : Array Value} {below : List Frame} {meth : Method} {c : Code} {Q : State → Prop} {D : va_G} {T : Nat → ClassId} {a_g a_gw a_gk a_r a_rs a_rl a_ro a_c0 : Nat} {v_gw : Nat → Int32} {v_gk : Nat → Int32} {n_c0 : Nat} {A : Nat → Prop} {r : (Nat → Int32) × (Nat → Int32)} (C : CallFix p m c cX4_begin 5 s args aw RX4) (hE : eK D T s) (hA : ∀ q : Nat, s.heap.size ≤ q → A q) (hret : WrRetV p l e ({ frames := 2, cells := 0, slots := 0, locals := 42 } : Room) s m args below meth c Q cX4_begin D A [(a_g, .inr (1, [.ref a_gw, .ref a_gk])), (a_r, .inr (4, [.ref a_g, .ref a_rs, .ref a_rl, .ref a_ro])), (a_gw, .inl (T 0, 90, .inl v_gw)), (a_gk, .inl (T 0, 18, .inl v_gk)), (a_ro, .inl (T 1, 45, .inl r.1)), (a_c0, .inl (T 0, n_c0, .inl r.2))]) {rec41 : Int32 → Int32 → (Nat → Int32) → (Nat → Int32) → Option ((Nat → Int32) × (Nat → Int32))} (hrec41 : ∀ (l2 : Int32) (l3 : Int32) (v_ro : Nat → Int32) (v_c0 : Nat → Int32) {H : Heap} {locs : List Loc} (hPD : va_PD D A [(a_g, .inr (1, [.ref a_gw, .ref a_gk])), (a_r, .inr (4, [.ref a_g, .ref a_rs, .ref a_rl, .ref a_ro])), (a_gw, .inl (T 0, 90, .inl v_gw)), (a_gk, .inl (T 0, 18, .inl v_gk)), (a_ro, .inl (T 1, 45, .inl v_ro)), (a_c0, .inl (T 0, n_c0, .inl v_c0))] H) (hS : va_S A s.heap H locs) (ls : Array Slot) (hl : lv_has ls 5 [(0, .ref a_r), (1, .ref a_c0), (2, .int l2), (3, .int l3)]) (h : rec41 l2 l3 v_ro v_c0 = some r), W p l e ({ frames := 2, cells := 0, slots := 0, locals := 42 } : Room) s m args below meth c H locs 0 0 Q (F0 m 41 ls [])) (l2 : Int32) (l3 : Int32) (v_ro : Nat → Int32) (v_c0 : Nat → Int32) {H : Heap} {locs : List Loc} (hPD : va_PD D A [(a_g, .inr (1, [.ref a_gw, .ref a_gk])), (a_r, .inr (4, [.ref a_g, .ref a_rs, .ref a_rl, .ref a_ro])), (a_gw, .inl (T 0, 90, .inl v_gw)), (a_gk, .inl (T 0, 18, .inl v_gk)), (a_ro, .inl (T 1, 45, .inl v_ro)), (a_c0, .inl (T 0, n_c0, .inl v_c0))] H) (hS : va_S A s.heap H locs) (ls : Array Slot) (hl : lv_has ls 5 [(0, .ref a_r), (1, .ref a_c0), (2, .int l2), (3, .int l3)]) (h : fX4_begin_80 v_gw v_gk n_c0 rec41 l2 l3 v_ro v_c0 = some r) : W p l e ({ frames := 2, cells := 0, slots := 0, locals := 42 } : Room) s m args below meth c H locs 0 0 Q (F0 m 80 ls []) := by
  have hx := C.1
  have hb := C.2.1
  obtain ⟨hP, hD⟩ := hPD
  unfold fX4_begin_80 at h
  refine lv_iinc (v := (l3 + 1)) (lv' := [(3, .int (l3 + 1)), (0, .ref a_r), (1, .ref a_c0), (2, .int l2)]) hx hb dX4_begin_80 hl (k := 3) rfl rfl (by decide) rfl (fun ls hl => ?_)
  refine lv_goto (tgt := 41) hx hb dX4_begin_83 (by decide) ?_
  exact hrec41 l2 (l3 + 1) v_ro v_c0 ⟨hP, hD⟩ hS _ (lv_sub hl [1, 2, 3, 0] rfl) h
set_option maxHeartbeats 4000000 in
set_option maxRecDepth 100000 in
theorem lX4_begin_88 {p : Program} {l : Launch} {e : Env} {s : State} {m : MethodId} {args : Array Value} {below : List Frame} {meth : Method} {c : Code} {Q : State → Prop} {D : va_G} {T : Nat → ClassId} {a_g a_gw a_gk a_r a_rs a_rl a_ro a_c0 : Nat} {v_gw : Nat → Int32} {v_gk : Nat → Int32} {n_c0 : Nat} {A : Nat → Prop} {r : (Nat → Int32) × (Nat → Int32)} (C : CallFix p m c cX4_begin 5 s args aw RX4) (hE : eK D T s) (hA : ∀ q : Nat, s.heap.size ≤ q → A q) (hret : WrRetV p l e ({ frames := 2, cells := 0, slots := 0, locals := 42 } : Room) s m args below meth c Q cX4_begin D A [(a_g, .inr (1, [.ref a_gw, .ref a_gk])), (a_r, .inr (4, [.ref a_g, .ref a_rs, .ref a_rl, .ref a_ro])), (a_gw, .inl (T 0, 90, .inl v_gw)), (a_gk, .inl (T 0, 18, .inl v_gk)), (a_ro, .inl (T 1, 45, .inl r.1)), (a_c0, .inl (T 0, n_c0, .inl r.2))]) : ∀ (k : Nat) (l2 : Int32) (l3 : Int32) (v_ro : Nat → Int32) (v_c0 : Nat → Int32) {H : Heap} {locs : List Loc} (hPD : va_PD D A [(a_g, .inr (1, [.ref a_gw, .ref a_gk])), (a_r, .inr (4, [.ref a_g, .ref a_rs, .ref a_rl, .ref a_ro])), (a_gw, .inl (T 0, 90, .inl v_gw)), (a_gk, .inl (T 0, 18, .inl v_gk)), (a_ro, .inl (T 1, 45, .inl v_ro)), (a_c0, .inl (T 0, n_c0, .inl v_c0))] H) (hS : va_S A s.heap H locs) (ls : Array Slot) (hl : lv_has ls 5 [(0, .ref a_r), (1, .ref a_c0), (2, .int l2), (3, .int l3)]) (h : fX4_begin_88 v_gw v_gk n_c0 k l2 l3 v_ro v_c0 = some r), W p l e ({ frames := 2, cells := 0, slots := 0, locals := 42 } : Room) s m args below meth c H locs 0 0 Q (F0 m 88 ls []) := by
  have hx := C.1
  have hb := C.2.1
  intro k
  induction k with
  | zero =>
    intro l2 l3 v_ro v_c0 H locs hPD hS ls hl h
    exact nomatch (show (none : Option ((Nat → Int32) × (Nat → Int32))) = some r from h)
  | succ k ih =>
    intro l2 l3 v_ro v_c0 H locs hPD hS ls hl h
    obtain ⟨hP, hD⟩ := hPD
    rw [fX4_begin_88] at h
    refine lv_iload_n hx hb dX4_begin_88 rfl (lv_at hl 3 rfl) ?_
    refine lv_aload_n hx hb dX4_begin_89 rfl (lv_at hl 1 rfl) ?_
    refine alen (q0 := 5) (t0 := 0) (v := Int32.ofNat n_c0) C hE hP rfl rfl rfl dX4_begin_90 ?_
    refine lv_icmp_ge (tgt := 106) hx hb dX4_begin_91 (by decide) (fun c13 => ?_) (fun c13 => ?_)
    · replace h := ite_t c13 h
      refine lv_aload_n hx hb dX4_begin_106 rfl (lv_at hl 0 rfl) ?_
      refine getF (q0 := 1) (k0 := 0) (v := .ref a_g) C hE hP inA4 rfl rfl (by decide) qFX4_22 rfl rfl dX4_begin_107 ?_
      refine lv_iload_n hx hb dX4_begin_110 rfl (lv_at hl 2 rfl) ?_
      refine lv_iconst (v := 4) hx hb dX4_begin_111 (by decide) ?_
      replace h := bnd h; obtain ⟨q14, e15, h⟩ := h
      refine rdV C hE hP (kX1_of l D T a_g a_gw a_gk v_gw l2 4 q14 e15) mX1_of qLX4_60 [0, 2] 0 rfl rfl rfl rfl ⟨rfl, rfl⟩ ⟨Nat.le_of_ble_eq_true rfl, Nat.le_of_ble_eq_true rfl⟩ rfl hl.1 rfl (Nat.le_of_ble_eq_true rfl) dX4_begin_112 ⟨Nat.le_of_ble_eq_true rfl, Nat.le_of_ble_eq_true rfl⟩ ?_
      refine lv_istore_n (lv' := [(3, .int q14), (0, .ref a_r), (1, .ref a_c0), (2, .int l2)]) hx hb dX4_begin_115 rfl hl (by decide) rfl (fun ls hl => ?_)
      refine lv_iload_n hx hb dX4_begin_116 rfl (lv_at hl 0 rfl) ?_
      refine lv_if_lt (tgt := 130) hx hb dX4_begin_117 (by decide) (fun c16 => ?_) (fun c16 => ?_)
      · replace h := ite_t c16 h
        replace h := Option.some.inj h
        exact hret _ _ _ _ dX4_begin_130 (by rw [← h]; exact hP) hS
      · replace h := ite_f c16 h
        refine lv_iload_n hx hb dX4_begin_120 rfl (lv_at hl 0 rfl) ?_
        refine lv_aload_n hx hb dX4_begin_121 rfl (lv_at hl 2 rfl) ?_
        refine alen (q0 := 5) (t0 := 0) (v := Int32.ofNat n_c0) C hE hP rfl rfl rfl dX4_begin_122 ?_
        refine lv_icmp_ge (tgt := 130) hx hb dX4_begin_123 (by decide) (fun c17 => ?_) (fun c17 => ?_)
        · replace h := ite_t c17 h
          replace h := Option.some.inj h
          exact hret _ _ _ _ dX4_begin_130 (by rw [← h]; exact hP) hS
        · replace h := ite_f c17 h
          refine lv_aload_n hx hb dX4_begin_126 rfl (lv_at hl 2 rfl) ?_
          refine lv_iload_n hx hb dX4_begin_127 rfl (lv_at hl 0 rfl) ?_
          refine lv_iconst (v := 0) hx hb dX4_begin_128 (by decide) ?_
          replace h := gd h; obtain ⟨g18, h⟩ := h
          refine astI (q0 := 5) (ws1 := [(a_g, .inr (1, [.ref a_gw, .ref a_gk])), (a_r, .inr (4, [.ref a_g, .ref a_rs, .ref a_rl, .ref a_ro])), (a_gw, .inl (T 0, 90, .inl v_gw)), (a_gk, .inl (T 0, 18, .inl v_gk)), (a_ro, .inl (T 1, 45, .inl v_ro)), (a_c0, .inl (T 0, n_c0, .inl (upd v_c0 q14.toNatClampNeg 0)))]) C hE hP hD hS rfl g18 rfl dX4_begin_129 ?_; clear hP hD hS; intro H locs hP hD hS
          replace h := Option.some.inj h
          exact hret _ _ _ _ dX4_begin_130 (by rw [← h]; exact hP) hS
    · replace h := ite_f c13 h
      refine lv_aload_n hx hb dX4_begin_94 rfl (lv_at hl 1 rfl) ?_
      refine lv_iload_n hx hb dX4_begin_95 rfl (lv_at hl 3 rfl) ?_
      refine lv_sipush (v := 1000) hx hb dX4_begin_96 (by decide) ?_
      replace h := gd h; obtain ⟨g19, h⟩ := h
      refine astI (q0 := 5) (ws1 := [(a_g, .inr (1, [.ref a_gw, .ref a_gk])), (a_r, .inr (4, [.ref a_g, .ref a_rs, .ref a_rl, .ref a_ro])), (a_gw, .inl (T 0, 90, .inl v_gw)), (a_gk, .inl (T 0, 18, .inl v_gk)), (a_ro, .inl (T 1, 45, .inl v_ro)), (a_c0, .inl (T 0, n_c0, .inl (upd v_c0 l3.toNatClampNeg 1000)))]) C hE hP hD hS rfl g19 rfl dX4_begin_99 ?_; clear hP hD hS; intro H locs hP hD hS
      refine lv_iinc (v := (l3 + 1)) (lv' := [(3, .int (l3 + 1)), (0, .ref a_r), (1, .ref a_c0), (2, .int l2)]) hx hb dX4_begin_100 hl (k := 3) rfl rfl (by decide) rfl (fun ls hl => ?_)
      refine lv_goto (tgt := 88) hx hb dX4_begin_103 (by decide) ?_
      exact ih l2 (l3 + 1) v_ro (upd v_c0 l3.toNatClampNeg 1000) ⟨hP, hD⟩ hS _ (lv_sub hl [1, 2, 3, 0] rfl) h
set_option maxHeartbeats 4000000 in
set_option maxRecDepth 100000 in
theorem lX4_begin_41 {p : Program} {l : Launch} {e : Env} {s : State} {m : MethodId} {args : Array Value} {below : List Frame} {meth : Method} {c : Code} {Q : State → Prop} {D : va_G} {T : Nat → ClassId} {a_g a_gw a_gk a_r a_rs a_rl a_ro a_c0 : Nat} {v_gw : Nat → Int32} {v_gk : Nat → Int32} {n_c0 : Nat} {A : Nat → Prop} {r : (Nat → Int32) × (Nat → Int32)} (C : CallFix p m c cX4_begin 5 s args aw RX4) (hE : eK D T s) (hA : ∀ q : Nat, s.heap.size ≤ q → A q) (hret : WrRetV p l e ({ frames := 2, cells := 0, slots := 0, locals := 42 } : Room) s m args below meth c Q cX4_begin D A [(a_g, .inr (1, [.ref a_gw, .ref a_gk])), (a_r, .inr (4, [.ref a_g, .ref a_rs, .ref a_rl, .ref a_ro])), (a_gw, .inl (T 0, 90, .inl v_gw)), (a_gk, .inl (T 0, 18, .inl v_gk)), (a_ro, .inl (T 1, 45, .inl r.1)), (a_c0, .inl (T 0, n_c0, .inl r.2))]) : ∀ (k : Nat) (l2 : Int32) (l3 : Int32) (v_ro : Nat → Int32) (v_c0 : Nat → Int32) {H : Heap} {locs : List Loc} (hPD : va_PD D A [(a_g, .inr (1, [.ref a_gw, .ref a_gk])), (a_r, .inr (4, [.ref a_g, .ref a_rs, .ref a_rl, .ref a_ro])), (a_gw, .inl (T 0, 90, .inl v_gw)), (a_gk, .inl (T 0, 18, .inl v_gk)), (a_ro, .inl (T 1, 45, .inl v_ro)), (a_c0, .inl (T 0, n_c0, .inl v_c0))] H) (hS : va_S A s.heap H locs) (ls : Array Slot) (hl : lv_has ls 5 [(0, .ref a_r), (1, .ref a_c0), (2, .int l2), (3, .int l3)]) (h : fX4_begin_41 v_gw v_gk n_c0 k l2 l3 v_ro v_c0 = some r), W p l e ({ frames := 2, cells := 0, slots := 0, locals := 42 } : Room) s m args below meth c H locs 0 0 Q (F0 m 41 ls []) := by
  have hx := C.1
  have hb := C.2.1
  intro k
  induction k with
  | zero =>
    intro l2 l3 v_ro v_c0 H locs hPD hS ls hl h
    exact nomatch (show (none : Option ((Nat → Int32) × (Nat → Int32))) = some r from h)
  | succ k ih =>
    intro l2 l3 v_ro v_c0 H locs hPD hS ls hl h
    obtain ⟨hP, hD⟩ := hPD
    rw [fX4_begin_41] at h
    refine lv_iload_n hx hb dX4_begin_41 rfl (lv_at hl 3 rfl) ?_
    refine lv_aload_n hx hb dX4_begin_42 rfl (lv_at hl 0 rfl) ?_
    refine getF (q0 := 1) (k0 := 0) (v := .ref a_g) C hE hP inA4 rfl rfl (by decide) qFX4_22 rfl rfl dX4_begin_43 ?_
    refine lv_iconst (v := 0) hx hb dX4_begin_46 (by decide) ?_
    replace h := bnd h; obtain ⟨q6, e7, h⟩ := h
    refine rdV C hE hP (kX1_count l D T a_g a_gw a_gk v_gk 0 q6 e7) mX1_count qLX4_57 [0, 3] 0 rfl rfl rfl rfl ⟨rfl, rfl⟩ ⟨Nat.le_of_ble_eq_true rfl, Nat.le_of_ble_eq_true rfl⟩ rfl hl.1 rfl (Nat.le_of_ble_eq_true rfl) dX4_begin_47 ⟨Nat.le_of_ble_eq_true rfl, Nat.le_of_ble_eq_true rfl⟩ ?_
    refine lv_icmp_ge (tgt := 86) hx hb dX4_begin_50 (by decide) (fun c8 => ?_) (fun c8 => ?_)
    · replace h := ite_t c8 h
      refine lv_iconst (v := 0) hx hb dX4_begin_86 (by decide) ?_
      refine lv_istore_n (lv' := [(3, .int 0), (0, .ref a_r), (1, .ref a_c0), (2, .int l2)]) hx hb dX4_begin_87 rfl hl (by decide) rfl (fun ls hl => ?_)
      exact lX4_begin_88 C hE hA hret 64 l2 0 v_ro v_c0 ⟨hP, hD⟩ hS _ (lv_sub hl [1, 2, 3, 0] rfl) h
    · replace h := ite_f c8 h
      refine lv_aload_n hx hb dX4_begin_53 rfl (lv_at hl 0 rfl) ?_
      refine getF (q0 := 1) (k0 := 0) (v := .ref a_g) C hE hP inA4 rfl rfl (by decide) qFX4_22 rfl rfl dX4_begin_54 ?_
      refine lv_iload_n hx hb dX4_begin_57 rfl (lv_at hl 3 rfl) ?_
      refine lv_iconst (v := 4) hx hb dX4_begin_58 (by decide) ?_
      replace h := bnd h; obtain ⟨q9, e10, h⟩ := h
      refine rdV C hE hP (kX1_of l D T a_g a_gw a_gk v_gw l3 4 q9 e10) mX1_of qLX4_60 [0, 2] 0 rfl rfl rfl rfl ⟨rfl, rfl⟩ ⟨Nat.le_of_ble_eq_true rfl, Nat.le_of_ble_eq_true rfl⟩ rfl hl.1 rfl (Nat.le_of_ble_eq_true rfl) dX4_begin_59 ⟨Nat.le_of_ble_eq_true rfl, Nat.le_of_ble_eq_true rfl⟩ ?_
      refine lv_istore (lv' := [(4, .int q9), (0, .ref a_r), (1, .ref a_c0), (2, .int l2), (3, .int l3)]) hx hb dX4_begin_62 hl (by decide) rfl (fun ls hl => ?_)
      refine lv_iload hx hb dX4_begin_64 (lv_at hl 0 rfl) ?_
      refine rdSN C hE hP (kX7_isCell l D T q9) mX7_isCell (by decide +kernel) [] rfl ⟨rfl, rfl⟩ ⟨Nat.le_of_ble_eq_true rfl, Nat.le_of_ble_eq_true rfl⟩ rfl hl.1 rfl (Nat.le_of_ble_eq_true rfl) dX4_begin_66 ⟨Nat.le_of_ble_eq_true rfl, Nat.le_of_ble_eq_true rfl⟩ ?_
      refine lv_if_eq (tgt := 80) hx hb dX4_begin_69 (by decide) (fun c11 => ?_) (fun c11 => ?_)
      · replace h := ite_t c11 h
        exact lX4_begin_80 C hE hA hret ih l2 l3 v_ro v_c0 ⟨hP, hD⟩ hS _ (lv_sub hl [1, 2, 3, 4] rfl) h
      · replace h := ite_f c11 h
        refine lv_aload_n hx hb dX4_begin_72 rfl (lv_at hl 1 rfl) ?_
        refine getF (q0 := 1) (k0 := 3) (v := .ref a_ro) C hE hP inA4 rfl rfl (by decide) qFX4_18 rfl rfl dX4_begin_73 ?_
        refine lv_iload hx hb dX4_begin_76 (lv_at hl 0 rfl) ?_
        refine lv_iconst (v := 0) hx hb dX4_begin_78 (by decide) ?_
        replace h := gd h; obtain ⟨g12, h⟩ := h
        refine astZ (q0 := 4) (ws1 := [(a_g, .inr (1, [.ref a_gw, .ref a_gk])), (a_r, .inr (4, [.ref a_g, .ref a_rs, .ref a_rl, .ref a_ro])), (a_gw, .inl (T 0, 90, .inl v_gw)), (a_gk, .inl (T 0, 18, .inl v_gk)), (a_ro, .inl (T 1, 45, .inl (upd v_ro q9.toNatClampNeg (0 &&& 1)))), (a_c0, .inl (T 0, n_c0, .inl v_c0))]) C hE hP hD hS rfl g12 rfl dX4_begin_79 ?_; clear hP hD hS; intro H locs hP hD hS
        exact lX4_begin_80 C hE hA hret ih l2 l3 (upd v_ro q9.toNatClampNeg (0 &&& 1)) v_c0 ⟨hP, hD⟩ hS _ (lv_sub hl [1, 2, 3, 4] rfl) h
set_option maxHeartbeats 4000000 in
set_option maxRecDepth 100000 in
theorem lX4_begin_2 {p : Program} {l : Launch} {e : Env} {s : State} {m : MethodId} {args : Array Value} {below : List Frame} {meth : Method} {c : Code} {Q : State → Prop} {D : va_G} {T : Nat → ClassId} {a_g a_gw a_gk a_r a_rs a_rl a_ro a_c0 : Nat} {v_gw : Nat → Int32} {v_gk : Nat → Int32} {n_c0 : Nat} {A : Nat → Prop} {r : (Nat → Int32) × (Nat → Int32)} (C : CallFix p m c cX4_begin 5 s args aw RX4) (hE : eK D T s) (hA : ∀ q : Nat, s.heap.size ≤ q → A q) (hret : WrRetV p l e ({ frames := 2, cells := 0, slots := 0, locals := 42 } : Room) s m args below meth c Q cX4_begin D A [(a_g, .inr (1, [.ref a_gw, .ref a_gk])), (a_r, .inr (4, [.ref a_g, .ref a_rs, .ref a_rl, .ref a_ro])), (a_gw, .inl (T 0, 90, .inl v_gw)), (a_gk, .inl (T 0, 18, .inl v_gk)), (a_ro, .inl (T 1, 45, .inl r.1)), (a_c0, .inl (T 0, n_c0, .inl r.2))]) : ∀ (k : Nat) (l2 : Int32) (l3 : Int32) (v_ro : Nat → Int32) (v_c0 : Nat → Int32) {H : Heap} {locs : List Loc} (hPD : va_PD D A [(a_g, .inr (1, [.ref a_gw, .ref a_gk])), (a_r, .inr (4, [.ref a_g, .ref a_rs, .ref a_rl, .ref a_ro])), (a_gw, .inl (T 0, 90, .inl v_gw)), (a_gk, .inl (T 0, 18, .inl v_gk)), (a_ro, .inl (T 1, 45, .inl v_ro)), (a_c0, .inl (T 0, n_c0, .inl v_c0))] H) (hS : va_S A s.heap H locs) (ls : Array Slot) (hl : lv_has ls 5 [(0, .ref a_r), (1, .ref a_c0), (2, .int l2), (3, .int l3)]) (h : fX4_begin_2 v_gw v_gk n_c0 k l2 l3 v_ro v_c0 = some r), W p l e ({ frames := 2, cells := 0, slots := 0, locals := 42 } : Room) s m args below meth c H locs 0 0 Q (F0 m 2 ls []) := by
  have hx := C.1
  have hb := C.2.1
  intro k
  induction k with
  | zero =>
    intro l2 l3 v_ro v_c0 H locs hPD hS ls hl h
    exact nomatch (show (none : Option ((Nat → Int32) × (Nat → Int32))) = some r from h)
  | succ k ih =>
    intro l2 l3 v_ro v_c0 H locs hPD hS ls hl h
    obtain ⟨hP, hD⟩ := hPD
    rw [fX4_begin_2] at h
    refine lv_iload_n hx hb dX4_begin_2 rfl (lv_at hl 3 rfl) ?_
    refine lv_aload_n hx hb dX4_begin_3 rfl (lv_at hl 0 rfl) ?_
    refine getF (q0 := 1) (k0 := 3) (v := .ref a_ro) C hE hP inA4 rfl rfl (by decide) qFX4_18 rfl rfl dX4_begin_4 ?_
    refine alen (q0 := 4) (t0 := 1) (v := 45) C hE hP rfl rfl (by decide) dX4_begin_7 ?_
    refine lv_icmp_ge (tgt := 39) hx hb dX4_begin_8 (by decide) (fun c1 => ?_) (fun c1 => ?_)
    · replace h := ite_t c1 h
      refine lv_iconst (v := 0) hx hb dX4_begin_39 (by decide) ?_
      refine lv_istore_n (lv' := [(3, .int 0), (0, .ref a_r), (1, .ref a_c0), (2, .int l2)]) hx hb dX4_begin_40 rfl hl (by decide) rfl (fun ls hl => ?_)
      exact lX4_begin_41 C hE hA hret 64 l2 0 v_ro v_c0 ⟨hP, hD⟩ hS _ (lv_sub hl [1, 2, 3, 0] rfl) h
    · replace h := ite_f c1 h
      refine lv_aload_n hx hb dX4_begin_11 rfl (lv_at hl 0 rfl) ?_
      refine getF (q0 := 1) (k0 := 3) (v := .ref a_ro) C hE hP inA4 rfl rfl (by decide) qFX4_18 rfl rfl dX4_begin_12 ?_
      refine lv_iload_n hx hb dX4_begin_15 rfl (lv_at hl 3 rfl) ?_
      refine lv_aload_n hx hb dX4_begin_16 rfl (lv_at hl 0 rfl) ?_
      refine getF (q0 := 1) (k0 := 0) (v := .ref a_g) C hE hP inA4 rfl rfl (by decide) qFX4_22 rfl rfl dX4_begin_17 ?_
      refine lv_iload_n hx hb dX4_begin_20 rfl (lv_at hl 3 rfl) ?_
      replace h := bnd h; obtain ⟨q2, e3, h⟩ := h
      refine rdV C hE hP (kX1_isDryNow l D T a_g a_gw a_gk v_gk l3 q2 e3) mX1_isDryNow qLX4_52 [0, 3] 0 rfl rfl rfl rfl ⟨rfl, rfl⟩ ⟨Nat.le_of_ble_eq_true rfl, Nat.le_of_ble_eq_true rfl⟩ rfl hl.1 rfl (Nat.le_of_ble_eq_true rfl) dX4_begin_21 ⟨Nat.le_of_ble_eq_true rfl, Nat.le_of_ble_eq_true rfl⟩ ?_
      refine lv_if_ne (tgt := 31) hx hb dX4_begin_24 (by decide) (fun c4 => ?_) (fun c4 => ?_)
      · rw [if_neg c4] at h
        refine lv_iconst (v := 0) hx hb dX4_begin_31 (by decide) ?_
        exact lX4_begin_32 C hE hA hret ih l3 0 l2 l3 v_ro v_c0 ⟨hP, hD⟩ hS _ (lv_sub hl [0, 1, 2, 3] rfl) h
      · rw [if_pos c4] at h
        refine lv_iconst (v := 1) hx hb dX4_begin_27 (by decide) ?_
        refine lv_goto (tgt := 32) hx hb dX4_begin_28 (by decide) ?_
        exact lX4_begin_32 C hE hA hret ih l3 1 l2 l3 v_ro v_c0 ⟨hP, hD⟩ hS _ (lv_sub hl [0, 1, 2, 3] rfl) h
set_option maxHeartbeats 4000000 in
set_option maxRecDepth 100000 in
theorem kX4_begin (l : Launch) (D : va_G) (T : Nat → ClassId) (a_g a_gw a_gk a_r a_rs a_rl a_ro a_c0 : Nat) (v_gw : Nat → Int32) (v_gk : Nat → Int32) (v_ro : Nat → Int32) (n_c0 : Nat) (v_c0 : Nat → Int32) (p0 : Int32) (sz : Nat) (r : (Nat → Int32) × (Nat → Int32)) (h : fX4_begin v_gw v_gk v_ro n_c0 v_c0 p0 = some r) : WrV l yX4_begin cX4_begin 5 ({ frames := 2, cells := 0, slots := 0, locals := 42 } : Room) D T sz [(a_g, .inr (1, [.ref a_gw, .ref a_gk])), (a_r, .inr (4, [.ref a_g, .ref a_rs, .ref a_rl, .ref a_ro])), (a_gw, .inl (T 0, 90, .inl v_gw)), (a_gk, .inl (T 0, 18, .inl v_gk)), (a_ro, .inl (T 1, 45, .inl v_ro)), (a_c0, .inl (T 0, n_c0, .inl v_c0))] [(a_g, .inr (1, [.ref a_gw, .ref a_gk])), (a_r, .inr (4, [.ref a_g, .ref a_rs, .ref a_rl, .ref a_ro])), (a_gw, .inl (T 0, 90, .inl v_gw)), (a_gk, .inl (T 0, 18, .inl v_gk)), (a_ro, .inl (T 1, 45, .inl r.1)), (a_c0, .inl (T 0, n_c0, .inl r.2))] [.ref a_r, .ref a_c0, .int p0] := by
  unfold fX4_begin at h
  refine wrMetV (by decide +kernel) rfl (fun p e s m args below meth c Q A C hE hA hP hD hS hret ls hl => ?_)
  have hx := C.1
  have hb := C.2.1
  have hl : lv_has ls 5 [(0, .ref a_r), (1, .ref a_c0), (2, .int p0)] := hl
  refine lv_iconst (v := 0) hx hb dX4_begin_0 (by decide) ?_
  refine lv_istore_n (lv' := [(3, .int 0), (0, .ref a_r), (1, .ref a_c0), (2, .int p0)]) hx hb dX4_begin_1 rfl hl (by decide) rfl (fun ls hl => ?_)
  exact lX4_begin_2 C hE hA hret 64 p0 0 v_ro v_c0 ⟨hP, hD⟩ hS _ (lv_sub hl [1, 2, 3, 0] rfl) h
