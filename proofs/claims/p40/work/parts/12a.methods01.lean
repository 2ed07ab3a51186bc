def fX1_add (v_gw : Nat → Int32) (p0 : Int32) (p1 : Int32) (p2 : Int32) : Option ((Nat → Int32)) :=
  (fX1_of v_gw p0 p1).bind fun q1 =>
  (fX1_set v_gw p0 p1 (q1 + p2)).bind fun q3 =>
  some q3
set_option maxHeartbeats 4000000 in
set_option maxRecDepth 100000 in
theorem kX1_add (l : Launch) (D : va_G) (T : Nat → ClassId) (a_g a_gw a_gk : Nat) (v_gw : Nat → Int32) (p0 : Int32) (p1 : Int32) (p2 : Int32) (sz : Nat) (r : (Nat → Int32)) (h : fX1_add v_gw p0 p1 p2 = some r) : WrV l yX1_add cX1_add 4 ({ frames := 1, cells := 0, slots := 0, locals := 24 } : Room) D T sz [(a_g, .inr (1, [.ref a_gw, .ref a_gk])), (a_gw, .inl (T 0, 90, .inl v_gw))] [(a_g, .inr (1, [.ref a_gw, .ref a_gk])), (a_gw, .inl (T 0, 90, .inl r))] [.ref a_g, .int p0, .int p1, .int p2] := by
  unfold fX1_add at h
  refine wrMetV (by decide +kernel) rfl (fun p e s m args below meth c Q A C hE hA hP hD hS hret ls hl => ?_)
  have hx := C.1
  have hb := C.2.1
  have hl : lv_has ls 4 [(0, .ref a_g), (1, .int p0), (2, .int p1), (3, .int p2)] := hl
  refine lv_aload_n hx hb dX1_add_0 rfl (lv_at hl 0 rfl) ?_
  refine lv_iload_n hx hb dX1_add_1 rfl (lv_at hl 1 rfl) ?_
  refine lv_iload_n hx hb dX1_add_2 rfl (lv_at hl 2 rfl) ?_
  refine lv_aload_n hx hb dX1_add_3 rfl (lv_at hl 0 rfl) ?_
  refine lv_iload_n hx hb dX1_add_4 rfl (lv_at hl 1 rfl) ?_
  refine lv_iload_n hx hb dX1_add_5 rfl (lv_at hl 2 rfl) ?_
  replace h := bnd h; obtain ⟨q1, e2, h⟩ := h
  refine rdV C hE hP (kX1_of l D T a_g a_gw a_gk v_gw p0 p1 q1 e2) mX1_of qLX1_32 [0, 1] 0 rfl rfl rfl rfl ⟨rfl, rfl⟩ ⟨Nat.le_of_ble_eq_true rfl, Nat.le_of_ble_eq_true rfl⟩ rfl hl.1 rfl (Nat.le_of_ble_eq_true rfl) dX1_add_6 ⟨Nat.le_of_ble_eq_true rfl, Nat.le_of_ble_eq_true rfl⟩ ?_
  refine lv_iload_n hx hb dX1_add_9 rfl (lv_at hl 3 rfl) ?_
  refine lv_iadd hx hb dX1_add_10 ?_
  replace h := bnd h; obtain ⟨q3, e4, h⟩ := h
  refine wrVv (ws1 := [(a_g, .inr (1, [.ref a_gw, .ref a_gk])), (a_gw, .inl (T 0, 90, .inl q3))]) C hE hP hD hS hA (kX1_set l D T a_g a_gw a_gk v_gw p0 p1 (q1 + p2) _ q3 e4) mX1_set qLX1_36 [0, 1] [] 0 rfl rfl rfl rfl rfl rfl rfl rfl rfl ⟨rfl, rfl⟩ ⟨Nat.le_of_ble_eq_true rfl, Nat.le_of_ble_eq_true rfl⟩ rfl hl.1 rfl (Nat.le_of_ble_eq_true rfl) dX1_add_11 ⟨Nat.le_of_ble_eq_true rfl, Nat.le_of_ble_eq_true rfl⟩ ?_; clear hP hD hS; intro H locs hP hD hS
  replace h := Option.some.inj h
  exact hret _ _ _ _ dX1_add_14 (by rw [← h]; exact hP) hS

def fX1_move (v_gw : Nat → Int32) (v_gk : Nat → Int32) (p0 : Int32) (p1 : Int32) (p2 : Int32) : Option (Int32 × (Nat → Int32) × (Nat → Int32)) :=
  (fX1_set v_gw p0 4 p1).bind fun q1 =>
  (fX1_add q1 p0 3 (-p2)).bind fun q3 =>
  (fX1_set q3 p0 5 0).bind fun q5 =>
  (fX1_endStroke q5 v_gk).bind fun q7 =>
  some (p2, q7.2.1, q7.2.2)
set_option maxHeartbeats 4000000 in
set_option maxRecDepth 100000 in
theorem kX1_move (l : Launch) (D : va_G) (T : Nat → ClassId) (a_g a_gw a_gk : Nat) (v_gw : Nat → Int32) (v_gk : Nat → Int32) (p0 : Int32) (p1 : Int32) (p2 : Int32) (sz : Nat) (r : Int32 × (Nat → Int32) × (Nat → Int32)) (h : fX1_move v_gw v_gk p0 p1 p2 = some r) : WrI l yX1_move cX1_move 4 .int ({ frames := 3, cells := 0, slots := 0, locals := 66 } : Room) D T sz [(a_g, .inr (1, [.ref a_gw, .ref a_gk])), (a_gw, .inl (T 0, 90, .inl v_gw)), (a_gk, .inl (T 0, 18, .inl v_gk))] [(a_g, .inr (1, [.ref a_gw, .ref a_gk])), (a_gw, .inl (T 0, 90, .inl r.2.1)), (a_gk, .inl (T 0, 18, .inl r.2.2))] [.ref a_g, .int p0, .int p1, .int p2] r.1 := by
  unfold fX1_move at h
  refine wrMet (by decide +kernel) rfl (fun p e s m args below meth c Q A C hE hA hP hD hS hret ls hl => ?_)
  have hx := C.1
  have hb := C.2.1
  have hl : lv_has ls 4 [(0, .ref a_g), (1, .int p0), (2, .int p1), (3, .int p2)] := hl
  refine lv_aload_n hx hb dX1_move_0 rfl (lv_at hl 0 rfl) ?_
  refine lv_iload_n hx hb dX1_move_1 rfl (lv_at hl 1 rfl) ?_
  refine lv_iconst (v := 4) hx hb dX1_move_2 (by decide) ?_
  refine lv_iload_n hx hb dX1_move_3 rfl (lv_at hl 2 rfl) ?_
  replace h := bnd h; obtain ⟨q1, e2, h⟩ := h
  refine wrVv (ws1 := [(a_g, .inr (1, [.ref a_gw, .ref a_gk])), (a_gw, .inl (T 0, 90, .inl q1)), (a_gk, .inl (T 0, 18, .inl v_gk))]) C hE hP hD hS hA (kX1_set l D T a_g a_gw a_gk v_gw p0 4 p1 _ q1 e2) mX1_set qLX1_36 [0, 1] [2] 0 rfl rfl rfl rfl rfl rfl rfl rfl rfl ⟨rfl, rfl⟩ ⟨Nat.le_of_ble_eq_true rfl, Nat.le_of_ble_eq_true rfl⟩ rfl hl.1 rfl (Nat.le_of_ble_eq_true rfl) dX1_move_4 ⟨Nat.le_of_ble_eq_true rfl, Nat.le_of_ble_eq_true rfl⟩ ?_; clear hP hD hS; intro H locs hP hD hS
  refine lv_aload_n hx hb dX1_move_7 rfl (lv_at hl 0 rfl) ?_
  refine lv_iload_n hx hb dX1_move_8 rfl (lv_at hl 1 rfl) ?_
  refine lv_iconst (v := 3) hx hb dX1_move_9 (by decide) ?_
  refine lv_iload_n hx hb dX1_move_10 rfl (lv_at hl 3 rfl) ?_
  refine lv_ineg hx hb dX1_move_11 ?_
  replace h := bnd h; obtain ⟨q3, e4, h⟩ := h
  refine wrVv (ws1 := [(a_g, .inr (1, [.ref a_gw, .ref a_gk])), (a_gw, .inl (T 0, 90, .inl q3)), (a_gk, .inl (T 0, 18, .inl v_gk))]) C hE hP hD hS hA (kX1_add l D T a_g a_gw a_gk q1 p0 3 (-p2) _ q3 e4) mX1_add qLX1_72 [0, 1] [2] 0 rfl rfl rfl rfl rfl rfl rfl rfl rfl ⟨rfl, rfl⟩ ⟨Nat.le_of_ble_eq_true rfl, Nat.le_of_ble_eq_true rfl⟩ rfl hl.1 rfl (Nat.le_of_ble_eq_true rfl) dX1_move_12 ⟨Nat.le_of_ble_eq_true rfl, Nat.le_of_ble_eq_true rfl⟩ ?_; clear hP hD hS; intro H locs hP hD hS
  refine lv_aload_n hx hb dX1_move_15 rfl (lv_at hl 0 rfl) ?_
  refine lv_iload_n hx hb dX1_move_16 rfl (lv_at hl 1 rfl) ?_
  refine lv_iconst (v := 5) hx hb dX1_move_17 (by decide) ?_
  refine lv_iconst (v := 0) hx hb dX1_move_18 (by decide) ?_
  replace h := bnd h; obtain ⟨q5, e6, h⟩ := h
  refine wrVv (ws1 := [(a_g, .inr (1, [.ref a_gw, .ref a_gk])), (a_gw, .inl (T 0, 90, .inl q5)), (a_gk, .inl (T 0, 18, .inl v_gk))]) C hE hP hD hS hA (kX1_set l D T a_g a_gw a_gk q3 p0 5 0 _ q5 e6) mX1_set qLX1_36 [0, 1] [2] 0 rfl rfl rfl rfl rfl rfl rfl rfl rfl ⟨rfl, rfl⟩ ⟨Nat.le_of_ble_eq_true rfl, Nat.le_of_ble_eq_true rfl⟩ rfl hl.1 rfl (Nat.le_of_ble_eq_true rfl) dX1_move_19 ⟨Nat.le_of_ble_eq_true rfl, Nat.le_of_ble_eq_true rfl⟩ ?_; clear hP hD hS; intro H locs hP hD hS
  refine lv_aload_n hx hb dX1_move_22 rfl (lv_at hl 0 rfl) ?_
  replace h := bnd h; obtain ⟨q7, e8, h⟩ := h
  refine wrVi (ws1 := [(a_g, .inr (1, [.ref a_gw, .ref a_gk])), (a_gw, .inl (T 0, 90, .inl q7.2.1)), (a_gk, .inl (T 0, 18, .inl q7.2.2))]) C hE hP hD hS hA (kX1_endStroke l D T a_g a_gw a_gk q5 v_gk _ q7 e8) mX1_endStroke qLX1_68 [0, 1, 2] [] 0 rfl rfl rfl rfl rfl rfl rfl rfl rfl ⟨rfl, rfl⟩ ⟨Nat.le_of_ble_eq_true rfl, Nat.le_of_ble_eq_true rfl⟩ rfl hl.1 rfl (Nat.le_of_ble_eq_true rfl) dX1_move_23 ⟨Nat.le_of_ble_eq_true rfl, Nat.le_of_ble_eq_true rfl⟩ ?_; clear hP hD hS; intro H locs hP hD hS
  refine lv_pop hx hb dX1_move_26 rfl ?_
  refine lv_iload_n hx hb dX1_move_27 rfl (lv_at hl 3 rfl) ?_
  replace h := Option.some.inj h
  exact hret _ _ _ _ _ _ dX1_move_28 rfl (by rw [← h] <;> rfl) (by rw [← h]; exact hP) hS

def fX7_moveWhale (v_gw : Nat → Int32) (v_gk : Nat → Int32) (v_rs : Nat → Int32) (v_ro : Nat → Int32) (p0 : Int32) (p1 : Int32) : Option (Int32 × (Nat → Int32) × (Nat → Int32) × (Nat → Int32) × (Nat → Int32)) :=
  (fX4_findBySpreading v_gw v_gk v_rs v_ro p0).bind fun q1 =>
  (fX4_spreadTo q1.1 p1).bind fun q3 =>
  (fX1_move v_gw v_gk p0 p1 q3).bind fun q5 =>
  some (q5.1, q5.2.1, q5.2.2, q1.1, q1.2)
set_option maxHeartbeats 4000000 in
set_option maxRecDepth 100000 in
theorem kX7_moveWhale (l : Launch) (D : va_G) (T : Nat → ClassId) (a_g a_gw a_gk a_r a_rs a_rl a_ro a_x a_b a_v a_h a_f a_u a_t a_n : Nat) (x_sav : Int32) (x_err : Int32) (x_rea : Int32) (x_det : Int32) (x_com : Int32) (v_gw : Nat → Int32) (v_gk : Nat → Int32) (v_rs : Nat → Int32) (v_ro : Nat → Int32) (p0 : Int32) (p1 : Int32) (sz : Nat) (r : Int32 × (Nat → Int32) × (Nat → Int32) × (Nat → Int32) × (Nat → Int32)) (h : fX7_moveWhale v_gw v_gk v_rs v_ro p0 p1 = some r) : WrI l yX7_moveWhale cX7_moveWhale 3 .int ({ frames := 4, cells := 0, slots := 0, locals := 93 } : Room) D T sz [(a_g, .inr (1, [.ref a_gw, .ref a_gk])), (a_r, .inr (4, [.ref a_g, .ref a_rs, .ref a_rl, .ref a_ro])), (a_x, .inr (7, [.ref a_g, .ref a_b, .ref a_v, .ref a_h, .ref a_r, .ref a_f, .ref a_u, .ref a_t, .ref a_n, .int x_sav, .int x_err, .int x_rea, .int x_det, .int x_com])), (a_gw, .inl (T 0, 90, .inl v_gw)), (a_gk, .inl (T 0, 18, .inl v_gk)), (a_rs, .inl (T 0, 45, .inl v_rs)), (a_ro, .inl (T 1, 45, .inl v_ro))] [(a_g, .inr (1, [.ref a_gw, .ref a_gk])), (a_r, .inr (4, [.ref a_g, .ref a_rs, .ref a_rl, .ref a_ro])), (a_x, .inr (7, [.ref a_g, .ref a_b, .ref a_v, .ref a_h, .ref a_r, .ref a_f, .ref a_u, .ref a_t, .ref a_n, .int x_sav, .int x_err, .int x_rea, .int x_det, .int x_com])), (a_gw, .inl (T 0, 90, .inl r.2.1)), (a_gk, .inl (T 0, 18, .inl r.2.2.1)), (a_rs, .inl (T 0, 45, .inl r.2.2.2.1)), (a_ro, .inl (T 1, 45, .inl r.2.2.2.2))] [.ref a_x, .int p0, .int p1] r.1 := by
  unfold fX7_moveWhale at h
  refine wrMet (by decide +kernel) rfl (fun p e s m args below meth c Q A C hE hA hP hD hS hret ls hl => ?_)
  have hx := C.1
  have hb := C.2.1
  have hl : lv_has ls 3 [(0, .ref a_x), (1, .int p0), (2, .int p1)] := hl
  refine lv_aload_n hx hb dX7_moveWhale_0 rfl (lv_at hl 0 rfl) ?_
  refine getF (q0 := 2) (k0 := 4) (v := .ref a_r) C hE hP inA7 rfl rfl (by decide) qFX7_34 rfl rfl dX7_moveWhale_1 ?_
  refine lv_iload_n hx hb dX7_moveWhale_4 rfl (lv_at hl 1 rfl) ?_
  replace h := bnd h; obtain ⟨q1, e2, h⟩ := h
  refine wrVv (ws1 := [(a_g, .inr (1, [.ref a_gw, .ref a_gk])), (a_r, .inr (4, [.ref a_g, .ref a_rs, .ref a_rl, .ref a_ro])), (a_x, .inr (7, [.ref a_g, .ref a_b, .ref a_v, .ref a_h, .ref a_r, .ref a_f, .ref a_u, .ref a_t, .ref a_n, .int x_sav, .int x_err, .int x_rea, .int x_det, .int x_com])), (a_gw, .inl (T 0, 90, .inl v_gw)), (a_gk, .inl (T 0, 18, .inl v_gk)), (a_rs, .inl (T 0, 45, .inl q1.1)), (a_ro, .inl (T 1, 45, .inl q1.2))]) C hE hP hD hS hA (kX4_findBySpreading l D T a_g a_gw a_gk a_r a_rs a_rl a_ro v_gw v_gk v_rs v_ro p0 _ q1 e2) mX4_findBySpreading qLX7_181 [0, 1, 3, 4, 5, 6] [2] 1 rfl rfl rfl rfl rfl rfl rfl rfl rfl ⟨rfl, rfl⟩ ⟨Nat.le_of_ble_eq_true rfl, Nat.le_of_ble_eq_true rfl⟩ rfl hl.1 rfl (Nat.le_of_ble_eq_true rfl) dX7_moveWhale_5 ⟨Nat.le_of_ble_eq_true rfl, Nat.le_of_ble_eq_true rfl⟩ ?_; clear hP hD hS; intro H locs hP hD hS
  refine lv_aload_n hx hb dX7_moveWhale_8 rfl (lv_at hl 0 rfl) ?_
  refine getF (q0 := 2) (k0 := 0) (v := .ref a_g) C hE hP inA7 rfl rfl (by decide) qFX7_10 rfl rfl dX7_moveWhale_9 ?_
  refine lv_iload_n hx hb dX7_moveWhale_12 rfl (lv_at hl 1 rfl) ?_
  refine lv_iload_n hx hb dX7_moveWhale_13 rfl (lv_at hl 2 rfl) ?_
  refine lv_aload_n hx hb dX7_moveWhale_14 rfl (lv_at hl 0 rfl) ?_
  refine getF (q0 := 2) (k0 := 4) (v := .ref a_r) C hE hP inA7 rfl rfl (by decide) qFX7_34 rfl rfl dX7_moveWhale_15 ?_
  refine lv_iload_n hx hb dX7_moveWhale_18 rfl (lv_at hl 2 rfl) ?_
  replace h := bnd h; obtain ⟨q3, e4, h⟩ := h
  refine rdV C hE hP (kX4_spreadTo l D T a_r a_g a_rs a_rl a_ro q1.1 p1 q3 e4) mX4_spreadTo qLX7_184 [1, 5] 1 rfl rfl rfl rfl ⟨rfl, rfl⟩ ⟨Nat.le_of_ble_eq_true rfl, Nat.le_of_ble_eq_true rfl⟩ rfl hl.1 rfl (Nat.le_of_ble_eq_true rfl) dX7_moveWhale_19 ⟨Nat.le_of_ble_eq_true rfl, Nat.le_of_ble_eq_true rfl⟩ ?_
  replace h := bnd h; obtain ⟨q5, e6, h⟩ := h
  refine wrVi (ws1 := [(a_g, .inr (1, [.ref a_gw, .ref a_gk])), (a_r, .inr (4, [.ref a_g, .ref a_rs, .ref a_rl, .ref a_ro])), (a_x, .inr (7, [.ref a_g, .ref a_b, .ref a_v, .ref a_h, .ref a_r, .ref a_f, .ref a_u, .ref a_t, .ref a_n, .int x_sav, .int x_err, .int x_rea, .int x_det, .int x_com])), (a_gw, .inl (T 0, 90, .inl q5.2.1)), (a_gk, .inl (T 0, 18, .inl q5.2.2)), (a_rs, .inl (T 0, 45, .inl q1.1)), (a_ro, .inl (T 1, 45, .inl q1.2))]) C hE hP hD hS hA (kX1_move l D T a_g a_gw a_gk v_gw v_gk p0 p1 q3 _ q5 e6) mX1_move qLX7_414 [0, 3, 4] [1, 2, 5, 6] 0 rfl rfl rfl rfl rfl rfl rfl rfl rfl ⟨rfl, rfl⟩ ⟨Nat.le_of_ble_eq_true rfl, Nat.le_of_ble_eq_true rfl⟩ rfl hl.1 rfl (Nat.le_of_ble_eq_true rfl) dX7_moveWhale_22 ⟨Nat.le_of_ble_eq_true rfl, Nat.le_of_ble_eq_true rfl⟩ ?_; clear hP hD hS; intro H locs hP hD hS
  replace h := Option.some.inj h
  exact hret _ _ _ _ _ _ dX7_moveWhale_25 rfl (by rw [← h] <;> rfl) (by rw [← h]; exact hP) hS

def fX7_isWay (p0 : Int32) : Int32 :=
  if p0 < 0 then
    0
  else
    if 4 ≤ p0 then
      0
    else
      1
set_option maxHeartbeats 4000000 in
set_option maxRecDepth 100000 in
theorem kX7_isWay (l : Launch) (D : va_G) (T : Nat → ClassId) (p0 : Int32) : RdI l yX7_isWay cX7_isWay 1 .boolean ({ frames := 0, cells := 0, slots := 0, locals := 0 } : Room) D T [] [.int p0] (fX7_isWay p0) := by
  obtain ⟨r, h⟩ : ∃ r, fX7_isWay p0 = r := ⟨_, rfl⟩
  rw [h]
  unfold fX7_isWay at h
  refine rdMet (by decide +kernel) rfl (fun p e s m args below meth c Q C hE hP hret ls hl => ?_)
  have hx := C.1
  have hb := C.2.1
  have hl : lv_has ls 1 [(0, .int p0)] := hl
  refine lv_iload_n hx hb dX7_isWay_0 rfl (lv_at hl 0 rfl) ?_
  refine lv_if_lt (tgt := 13) hx hb dX7_isWay_1 (by decide) (fun c1 => ?_) (fun c1 => ?_)
  · replace h := ite_t c1 h
    refine lv_iconst (v := 0) hx hb dX7_isWay_13 (by decide) ?_
    exact hret _ _ _ _ dX7_isWay_14 rfl h
  · replace h := ite_f c1 h
    refine lv_iload_n hx hb dX7_isWay_4 rfl (lv_at hl 0 rfl) ?_
    refine lv_iconst (v := 4) hx hb dX7_isWay_5 (by decide) ?_
    refine lv_icmp_ge (tgt := 13) hx hb dX7_isWay_6 (by decide) (fun c2 => ?_) (fun c2 => ?_)
    · replace h := ite_t c2 h
      refine lv_iconst (v := 0) hx hb dX7_isWay_13 (by decide) ?_
      exact hret _ _ _ _ dX7_isWay_14 rfl h
    · replace h := ite_f c2 h
      refine lv_iconst (v := 1) hx hb dX7_isWay_9 (by decide) ?_
      refine lv_goto (tgt := 14) hx hb dX7_isWay_10 (by decide) ?_
      exact hret _ _ _ _ dX7_isWay_14 rfl h

def fX7_isForce (p0 : Int32) : Int32 :=
  if p0 < 1 then
    0
  else
    if 5 < p0 then
      0
    else
      1
set_option maxHeartbeats 4000000 in
set_option maxRecDepth 100000 in
theorem kX7_isForce (l : Launch) (D : va_G) (T : Nat → ClassId) (p0 : Int32) : RdI l yX7_isForce cX7_isForce 1 .boolean ({ frames := 0, cells := 0, slots := 0, locals := 0 } : Room) D T [] [.int p0] (fX7_isForce p0) := by
  obtain ⟨r, h⟩ : ∃ r, fX7_isForce p0 = r := ⟨_, rfl⟩
  rw [h]
  unfold fX7_isForce at h
  refine rdMet (by decide +kernel) rfl (fun p e s m args below meth c Q C hE hP hret ls hl => ?_)
  have hx := C.1
  have hb := C.2.1
  have hl : lv_has ls 1 [(0, .int p0)] := hl
  refine lv_iload_n hx hb dX7_isForce_0 rfl (lv_at hl 0 rfl) ?_
  refine lv_iconst (v := 1) hx hb dX7_isForce_1 (by decide) ?_
  refine lv_icmp_lt (tgt := 14) hx hb dX7_isForce_2 (by decide) (fun c1 => ?_) (fun c1 => ?_)
  · replace h := ite_t c1 h
    refine lv_iconst (v := 0) hx hb dX7_isForce_14 (by decide) ?_
    exact hret _ _ _ _ dX7_isForce_15 rfl h
  · replace h := ite_f c1 h
    refine lv_iload_n hx hb dX7_isForce_5 rfl (lv_at hl 0 rfl) ?_
    refine lv_iconst (v := 5) hx hb dX7_isForce_6 (by decide) ?_
    refine lv_icmp_gt (tgt := 14) hx hb dX7_isForce_7 (by decide) (fun c2 => ?_) (fun c2 => ?_)
    · replace h := ite_t c2 h
      refine lv_iconst (v := 0) hx hb dX7_isForce_14 (by decide) ?_
      exact hret _ _ _ _ dX7_isForce_15 rfl h
    · replace h := ite_f c2 h
      refine lv_iconst (v := 1) hx hb dX7_isForce_10 (by decide) ?_
      refine lv_goto (tgt := 15) hx hb dX7_isForce_11 (by decide) ?_
      exact hret _ _ _ _ dX7_isForce_15 rfl h

def fX7_between (p0 : Int32) (p1 : Int32) : Int32 :=
  ((if 0 ≤ ((p0 / 9) - (p1 / 9)) then ((p0 / 9) - (p1 / 9)) else 0 - ((p0 / 9) - (p1 / 9))) + (if 0 ≤ ((p0 - p0 / 9 * 9) - (p1 - p1 / 9 * 9)) then ((p0 - p0 / 9 * 9) - (p1 - p1 / 9 * 9)) else 0 - ((p0 - p0 / 9 * 9) - (p1 - p1 / 9 * 9))))
set_option maxHeartbeats 4000000 in
set_option maxRecDepth 100000 in
theorem kX7_between (l : Launch) (D : va_G) (T : Nat → ClassId) (p0 : Int32) (p1 : Int32) : RdI l yX7_between cX7_between 4 .int ({ frames := 1, cells := 0, slots := 0, locals := 21 } : Room) D T [] [.int p0, .int p1] (fX7_between p0 p1) := by
  obtain ⟨r, h⟩ : ∃ r, fX7_between p0 p1 = r := ⟨_, rfl⟩
  rw [h]
  unfold fX7_between at h
  refine rdMet (by decide +kernel) rfl (fun p e s m args below meth c Q C hE hP hret ls hl => ?_)
  have hx := C.1
  have hb := C.2.1
  have hl : lv_has ls 4 [(0, .int p0), (1, .int p1)] := hl
  refine lv_iload_n hx hb dX7_between_0 rfl (lv_at hl 0 rfl) ?_
  refine lv_bipush (v := 9) hx hb dX7_between_1 (by decide) ?_
  refine lv_idiv hx hb dX7_between_3 (by decide) ?_
  refine lv_iload_n hx hb dX7_between_4 rfl (lv_at hl 1 rfl) ?_
  refine lv_bipush (v := 9) hx hb dX7_between_5 (by decide) ?_
  refine lv_idiv hx hb dX7_between_7 (by decide) ?_
  refine lv_isub hx hb dX7_between_8 ?_
  refine va_mabs hx hb (C.2.2.1.trans hl.1.symm) C.2.2.2.1 (C.2.2.2.2 _ qLX7_452) (C.2.2.2.2 _ qMs_abs) (C.2.2.2.2 _ qMi) (C.2.2.2.2 _ qMc_abs) (Nat.le_of_ble_eq_true rfl) (Nat.le_of_ble_eq_true rfl) (Nat.le_of_ble_eq_true rfl) (Nat.le_of_ble_eq_true rfl) dX7_between_9 ?_
  refine lv_istore_n (lv' := [(2, .int (if 0 ≤ ((p0 / 9) - (p1 / 9)) then ((p0 / 9) - (p1 / 9)) else 0 - ((p0 / 9) - (p1 / 9)))), (0, .int p0), (1, .int p1)]) hx hb dX7_between_12 rfl hl (by decide) rfl (fun ls hl => ?_)
  refine lv_iload_n hx hb dX7_between_13 rfl (lv_at hl 1 rfl) ?_
  refine lv_bipush (v := 9) hx hb dX7_between_14 (by decide) ?_
  refine lv_irem hx hb dX7_between_16 (by decide) ?_
  refine lv_iload_n hx hb dX7_between_17 rfl (lv_at hl 2 rfl) ?_
  refine lv_bipush (v := 9) hx hb dX7_between_18 (by decide) ?_
  refine lv_irem hx hb dX7_between_20 (by decide) ?_
  refine lv_isub hx hb dX7_between_21 ?_
  refine va_mabs hx hb (C.2.2.1.trans hl.1.symm) C.2.2.2.1 (C.2.2.2.2 _ qLX7_452) (C.2.2.2.2 _ qMs_abs) (C.2.2.2.2 _ qMi) (C.2.2.2.2 _ qMc_abs) (Nat.le_of_ble_eq_true rfl) (Nat.le_of_ble_eq_true rfl) (Nat.le_of_ble_eq_true rfl) (Nat.le_of_ble_eq_true rfl) dX7_between_22 ?_
  refine lv_istore_n (lv' := [(3, .int (if 0 ≤ ((p0 - p0 / 9 * 9) - (p1 - p1 / 9 * 9)) then ((p0 - p0 / 9 * 9) - (p1 - p1 / 9 * 9)) else 0 - ((p0 - p0 / 9 * 9) - (p1 - p1 / 9 * 9)))), (2, .int (if 0 ≤ ((p0 / 9) - (p1 / 9)) then ((p0 / 9) - (p1 / 9)) else 0 - ((p0 / 9) - (p1 / 9)))), (0, .int p0), (1, .int p1)]) hx hb dX7_between_25 rfl hl (by decide) rfl (fun ls hl => ?_)
  refine lv_iload_n hx hb dX7_between_26 rfl (lv_at hl 1 rfl) ?_
  refine lv_iload_n hx hb dX7_between_27 rfl (lv_at hl 0 rfl) ?_
  refine lv_iadd hx hb dX7_between_28 ?_
  exact hret _ _ _ _ dX7_between_29 rfl h

def fX1_isNearBuoy (v_gw : Nat → Int32) (v_gk : Nat → Int32) (p0 : Int32) : Option Int32 :=
  (fX1_of v_gw p0 4).bind fun q1 =>
  if q1 = (-1) then
    some 0
  else
    (fX1_count v_gk 5).bind fun q4 =>
    if 1 < (fX7_between q1 q4) then
      some 0
    else
      some 1
set_option maxHeartbeats 4000000 in
set_option maxRecDepth 100000 in
theorem kX1_isNearBuoy (l : Launch) (D : va_G) (T : Nat → ClassId) (a_g a_gw a_gk : Nat) (v_gw : Nat → Int32) (v_gk : Nat → Int32) (p0 : Int32) (r : Int32) (h : fX1_isNearBuoy v_gw v_gk p0 = some r) : RdI l yX1_isNearBuoy cX1_isNearBuoy 3 .boolean ({ frames := 2, cells := 0, slots := 0, locals := 44 } : Room) D T [(a_g, .inr (1, [.ref a_gw, .ref a_gk])), (a_gw, .inl (T 0, 90, .inl v_gw)), (a_gk, .inl (T 0, 18, .inl v_gk))] [.ref a_g, .int p0] r := by
  unfold fX1_isNearBuoy at h
  refine rdMet (by decide +kernel) rfl (fun p e s m args below meth c Q C hE hP hret ls hl => ?_)
  have hx := C.1
  have hb := C.2.1
  have hl : lv_has ls 3 [(0, .ref a_g), (1, .int p0)] := hl
  refine lv_aload_n hx hb dX1_isNearBuoy_0 rfl (lv_at hl 0 rfl) ?_
  refine lv_iload_n hx hb dX1_isNearBuoy_1 rfl (lv_at hl 1 rfl) ?_
  refine lv_iconst (v := 4) hx hb dX1_isNearBuoy_2 (by decide) ?_
  replace h := bnd h; obtain ⟨q1, e2, h⟩ := h
  refine rdV C hE hP (kX1_of l D T a_g a_gw a_gk v_gw p0 4 q1 e2) mX1_of qLX1_32 [0, 1] 0 rfl rfl rfl rfl ⟨rfl, rfl⟩ ⟨Nat.le_of_ble_eq_true rfl, Nat.le_of_ble_eq_true rfl⟩ rfl hl.1 rfl (Nat.le_of_ble_eq_true rfl) dX1_isNearBuoy_3 ⟨Nat.le_of_ble_eq_true rfl, Nat.le_of_ble_eq_true rfl⟩ ?_
  refine lv_istore_n (lv' := [(2, .int q1), (0, .ref a_g), (1, .int p0)]) hx hb dX1_isNearBuoy_6 rfl hl (by decide) rfl (fun ls hl => ?_)
  refine lv_iload_n hx hb dX1_isNearBuoy_7 rfl (lv_at hl 0 rfl) ?_
  refine lv_iconst (v := (-1)) hx hb dX1_isNearBuoy_8 (by decide) ?_
  refine lv_icmp_eq (tgt := 29) hx hb dX1_isNearBuoy_9 (by decide) (fun c3 => ?_) (fun c3 => ?_)
  · replace h := ite_t c3 h
    refine lv_iconst (v := 0) hx hb dX1_isNearBuoy_29 (by decide) ?_
    exact hret _ _ _ _ dX1_isNearBuoy_30 rfl (Option.some.inj h)
  · replace h := ite_f c3 h
    refine lv_iload_n hx hb dX1_isNearBuoy_12 rfl (lv_at hl 0 rfl) ?_
    refine lv_aload_n hx hb dX1_isNearBuoy_13 rfl (lv_at hl 1 rfl) ?_
    refine lv_iconst (v := 5) hx hb dX1_isNearBuoy_14 (by decide) ?_
    replace h := bnd h; obtain ⟨q4, e5, h⟩ := h
    refine rdV C hE hP (kX1_count l D T a_g a_gw a_gk v_gk 5 q4 e5) mX1_count qLX1_28 [0, 2] 0 rfl rfl rfl rfl ⟨rfl, rfl⟩ ⟨Nat.le_of_ble_eq_true rfl, Nat.le_of_ble_eq_true rfl⟩ rfl hl.1 rfl (Nat.le_of_ble_eq_true rfl) dX1_isNearBuoy_15 ⟨Nat.le_of_ble_eq_true rfl, Nat.le_of_ble_eq_true rfl⟩ ?_
    refine rdSN C hE hP (kX7_between l D T q1 q4) mX7_between (by decide +kernel) [] rfl ⟨rfl, rfl⟩ ⟨Nat.le_of_ble_eq_true rfl, Nat.le_of_ble_eq_true rfl⟩ rfl hl.1 rfl (Nat.le_of_ble_eq_true rfl) dX1_isNearBuoy_18 ⟨Nat.le_of_ble_eq_true rfl, Nat.le_of_ble_eq_true rfl⟩ ?_
    refine lv_iconst (v := 1) hx hb dX1_isNearBuoy_21 (by decide) ?_
    refine lv_icmp_gt (tgt := 29) hx hb dX1_isNearBuoy_22 (by decide) (fun c6 => ?_) (fun c6 => ?_)
    · replace h := ite_t c6 h
      refine lv_iconst (v := 0) hx hb dX1_isNearBuoy_29 (by decide) ?_
      exact hret _ _ _ _ dX1_isNearBuoy_30 rfl (Option.some.inj h)
    · replace h := ite_f c6 h
      refine lv_iconst (v := 1) hx hb dX1_isNearBuoy_25 (by decide) ?_
      refine lv_goto (tgt := 30) hx hb dX1_isNearBuoy_26 (by decide) ?_
      exact hret _ _ _ _ dX1_isNearBuoy_30 rfl (Option.some.inj h)

def fX6_hitFault (u_det : Int32) (v_gw : Nat → Int32) (v_gk : Nat → Int32) (p0 : Int32) (p1 : Int32) (p2 : Int32) : Option (Int32 × Int32) :=
  (fX1_has v_gk p0).bind fun q1 =>
  if q1 = 0 then
    some ((-1), u_det)
  else
    if (fX7_isWay p1) = 0 then
      some ((-2), u_det)
    else
      if (fX7_isForce p2) = 0 then
        some ((-2), u_det)
      else
        (fX6_freeFault u_det v_gw v_gk p0).bind fun q6 =>
        if q6.1 = 0 then
          (fX1_isNearBuoy v_gw v_gk p0).bind fun q9 =>
          if q9 = 0 then
            (fX1_of v_gw p0 4).bind fun q21 =>
            (fX1_count v_gk 5).bind fun q23 =>
            (fX6_refuse q6.2 9 (fX7_between q21 q23)).bind fun q25 =>
            some (q25.1, q25.2)
          else
            (fX1_of v_gw p0 1).bind fun q12 =>
            if p2 ≤ q12 then
              (fX6_breathFault q6.2 v_gw p0 1).bind fun q15 =>
              some (q15.1, q15.2)
            else
              (fX1_of v_gw p0 1).bind fun q17 =>
              (fX6_refuse q6.2 10 q17).bind fun q19 =>
              some (q19.1, q19.2)
        else
          some (q6.1, q6.2)
set_option maxHeartbeats 4000000 in
set_option maxRecDepth 100000 in
theorem kX6_hitFault (l : Launch) (D : va_G) (T : Nat → ClassId) (a_g a_gw a_gk a_u a_r : Nat) (u_det : Int32) (v_gw : Nat → Int32) (v_gk : Nat → Int32) (p0 : Int32) (p1 : Int32) (p2 : Int32) (sz : Nat) (r : Int32 × Int32) (h : fX6_hitFault u_det v_gw v_gk p0 p1 p2 = some r) : WrI l yX6_hitFault cX6_hitFault 5 .int ({ frames := 4, cells := 0, slots := 0, locals := 87 } : Room) D T sz [(a_g, .inr (1, [.ref a_gw, .ref a_gk])), (a_u, .inr (6, [.ref a_g, .ref a_r, .int u_det])), (a_gw, .inl (T 0, 90, .inl v_gw)), (a_gk, .inl (T 0, 18, .inl v_gk))] [(a_g, .inr (1, [.ref a_gw, .ref a_gk])), (a_u, .inr (6, [.ref a_g, .ref a_r, .int r.2])), (a_gw, .inl (T 0, 90, .inl v_gw)), (a_gk, .inl (T 0, 18, .inl v_gk))] [.ref a_u, .int p0, .int p1, .int p2] r.1 := by
  unfold fX6_hitFault at h
  refine wrMet (by decide +kernel) rfl (fun p e s m args below meth c Q A C hE hA hP hD hS hret ls hl => ?_)
  have hx := C.1
  have hb := C.2.1
  have hl : lv_has ls 5 [(0, .ref a_u), (1, .int p0), (2, .int p1), (3, .int p2)] := hl
  refine lv_aload_n hx hb dX6_hitFault_0 rfl (lv_at hl 0 rfl) ?_
  refine getF (q0 := 1) (k0 := 0) (v := .ref a_g) C hE hP inA6 rfl rfl (by decide) qFX6_15 rfl rfl dX6_hitFault_1 ?_
  refine lv_iload_n hx hb dX6_hitFault_4 rfl (lv_at hl 1 rfl) ?_
  replace h := bnd h; obtain ⟨q1, e2, h⟩ := h
  refine rdV C hE hP (kX1_has l D T a_g a_gw a_gk v_gk p0 q1 e2) mX1_has qLX6_50 [0, 3] 0 rfl rfl rfl rfl ⟨rfl, rfl⟩ ⟨Nat.le_of_ble_eq_true rfl, Nat.le_of_ble_eq_true rfl⟩ rfl hl.1 rfl (Nat.le_of_ble_eq_true rfl) dX6_hitFault_5 ⟨Nat.le_of_ble_eq_true rfl, Nat.le_of_ble_eq_true rfl⟩ ?_
  refine lv_if_ne (tgt := 13) hx hb dX6_hitFault_8 (by decide) (fun c3 => ?_) (fun c3 => ?_)
  · replace h := ite_f c3 h
    refine lv_iload_n hx hb dX6_hitFault_13 rfl (lv_at hl 2 rfl) ?_
    refine rdSN C hE hP (kX7_isWay l D T p1) mX7_isWay (by decide +kernel) [] rfl ⟨rfl, rfl⟩ ⟨Nat.le_of_ble_eq_true rfl, Nat.le_of_ble_eq_true rfl⟩ rfl hl.1 rfl (Nat.le_of_ble_eq_true rfl) dX6_hitFault_14 ⟨Nat.le_of_ble_eq_true rfl, Nat.le_of_ble_eq_true rfl⟩ ?_
    refine lv_if_eq (tgt := 27) hx hb dX6_hitFault_17 (by decide) (fun c4 => ?_) (fun c4 => ?_)
    · replace h := ite_t c4 h
      refine lv_bipush (v := (-2)) hx hb dX6_hitFault_27 (by decide) ?_
      replace h := Option.some.inj h
      exact hret _ _ _ _ _ _ dX6_hitFault_29 rfl (by rw [← h] <;> rfl) (by rw [← h]; exact hP) hS
    · replace h := ite_f c4 h
      refine lv_iload_n hx hb dX6_hitFault_20 rfl (lv_at hl 3 rfl) ?_
      refine rdSN C hE hP (kX7_isForce l D T p2) mX7_isForce (by decide +kernel) [] rfl ⟨rfl, rfl⟩ ⟨Nat.le_of_ble_eq_true rfl, Nat.le_of_ble_eq_true rfl⟩ rfl hl.1 rfl (Nat.le_of_ble_eq_true rfl) dX6_hitFault_21 ⟨Nat.le_of_ble_eq_true rfl, Nat.le_of_ble_eq_true rfl⟩ ?_
      refine lv_if_ne (tgt := 30) hx hb dX6_hitFault_24 (by decide) (fun c5 => ?_) (fun c5 => ?_)
      · replace h := ite_f c5 h
        refine lv_aload_n hx hb dX6_hitFault_30 rfl (lv_at hl 0 rfl) ?_
        refine lv_iload_n hx hb dX6_hitFault_31 rfl (lv_at hl 1 rfl) ?_
        replace h := bnd h; obtain ⟨q6, e7, h⟩ := h
        refine wrVi (ws1 := [(a_g, .inr (1, [.ref a_gw, .ref a_gk])), (a_u, .inr (6, [.ref a_g, .ref a_r, .int q6.2])), (a_gw, .inl (T 0, 90, .inl v_gw)), (a_gk, .inl (T 0, 18, .inl v_gk))]) C hE hP hD hS hA (kX6_freeFault l D T a_g a_gw a_gk a_u a_r u_det v_gw v_gk p0 _ q6 e7) mX6_freeFault qLX6_68 [0, 1, 2, 3] [] 1 rfl rfl rfl rfl rfl rfl rfl rfl rfl ⟨rfl, rfl⟩ ⟨Nat.le_of_ble_eq_true rfl, Nat.le_of_ble_eq_true rfl⟩ rfl hl.1 rfl (Nat.le_of_ble_eq_true rfl) dX6_hitFault_32 ⟨Nat.le_of_ble_eq_true rfl, Nat.le_of_ble_eq_true rfl⟩ ?_; clear hP hD hS; intro H locs hP hD hS
        refine lv_istore (lv' := [(4, .int q6.1), (0, .ref a_u), (1, .int p0), (2, .int p1), (3, .int p2)]) hx hb dX6_hitFault_35 hl (by decide) rfl (fun ls hl => ?_)
        refine lv_iload hx hb dX6_hitFault_37 (lv_at hl 0 rfl) ?_
        refine lv_if_eq (tgt := 45) hx hb dX6_hitFault_39 (by decide) (fun c8 => ?_) (fun c8 => ?_)
        · replace h := ite_t c8 h
          refine lv_aload_n hx hb dX6_hitFault_45 rfl (lv_at hl 1 rfl) ?_
          refine getF (q0 := 1) (k0 := 0) (v := .ref a_g) C hE hP inA6 rfl rfl (by decide) qFX6_15 rfl rfl dX6_hitFault_46 ?_
          refine lv_iload_n hx hb dX6_hitFault_49 rfl (lv_at hl 2 rfl) ?_
          replace h := bnd h; obtain ⟨q9, e10, h⟩ := h
          refine rdV C hE hP (kX1_isNearBuoy l D T a_g a_gw a_gk v_gw v_gk p0 q9 e10) mX1_isNearBuoy qLX6_95 [0, 2, 3] 0 rfl rfl rfl rfl ⟨rfl, rfl⟩ ⟨Nat.le_of_ble_eq_true rfl, Nat.le_of_ble_eq_true rfl⟩ rfl hl.1 rfl (Nat.le_of_ble_eq_true rfl) dX6_hitFault_50 ⟨Nat.le_of_ble_eq_true rfl, Nat.le_of_ble_eq_true rfl⟩ ?_
          refine lv_if_ne (tgt := 83) hx hb dX6_hitFault_53 (by decide) (fun c11 => ?_) (fun c11 => ?_)
          · replace h := ite_f c11 h
            refine lv_iload_n hx hb dX6_hitFault_83 rfl (lv_at hl 4 rfl) ?_
            refine lv_aload_n hx hb dX6_hitFault_84 rfl (lv_at hl 1 rfl) ?_
            refine getF (q0 := 1) (k0 := 0) (v := .ref a_g) C hE hP inA6 rfl rfl (by decide) qFX6_15 rfl rfl dX6_hitFault_85 ?_
            refine lv_iload_n hx hb dX6_hitFault_88 rfl (lv_at hl 2 rfl) ?_
            refine lv_iconst (v := 1) hx hb dX6_hitFault_89 (by decide) ?_
            replace h := bnd h; obtain ⟨q12, e13, h⟩ := h
            refine rdV C hE hP (kX1_of l D T a_g a_gw a_gk v_gw p0 1 q12 e13) mX1_of qLX6_62 [0, 2] 0 rfl rfl rfl rfl ⟨rfl, rfl⟩ ⟨Nat.le_of_ble_eq_true rfl, Nat.le_of_ble_eq_true rfl⟩ rfl hl.1 rfl (Nat.le_of_ble_eq_true rfl) dX6_hitFault_90 ⟨Nat.le_of_ble_eq_true rfl, Nat.le_of_ble_eq_true rfl⟩ ?_
            refine lv_icmp_le (tgt := 112) hx hb dX6_hitFault_93 (by decide) (fun c14 => ?_) (fun c14 => ?_)
            · replace h := ite_t c14 h
              refine lv_aload_n hx hb dX6_hitFault_112 rfl (lv_at hl 1 rfl) ?_
              refine lv_iload_n hx hb dX6_hitFault_113 rfl (lv_at hl 2 rfl) ?_
              refine lv_iconst (v := 1) hx hb dX6_hitFault_114 (by decide) ?_
              replace h := bnd h; obtain ⟨q15, e16, h⟩ := h
              refine wrVi (ws1 := [(a_g, .inr (1, [.ref a_gw, .ref a_gk])), (a_u, .inr (6, [.ref a_g, .ref a_r, .int q15.2])), (a_gw, .inl (T 0, 90, .inl v_gw)), (a_gk, .inl (T 0, 18, .inl v_gk))]) C hE hP hD hS hA (kX6_breathFault l D T a_g a_gw a_gk a_u a_r q6.2 v_gw p0 1 _ q15 e16) mX6_breathFault qLX6_86 [0, 1, 2] [3] 1 rfl rfl rfl rfl rfl rfl rfl rfl rfl ⟨rfl, rfl⟩ ⟨Nat.le_of_ble_eq_true rfl, Nat.le_of_ble_eq_true rfl⟩ rfl hl.1 rfl (Nat.le_of_ble_eq_true rfl) dX6_hitFault_115 ⟨Nat.le_of_ble_eq_true rfl, Nat.le_of_ble_eq_true rfl⟩ ?_; clear hP hD hS; intro H locs hP hD hS
              replace h := Option.some.inj h
              exact hret _ _ _ _ _ _ dX6_hitFault_118 rfl (by rw [← h] <;> rfl) (by rw [← h]; exact hP) hS
            · replace h := ite_f c14 h
              refine lv_aload_n hx hb dX6_hitFault_96 rfl (lv_at hl 1 rfl) ?_
              refine lv_bipush (v := 10) hx hb dX6_hitFault_97 (by decide) ?_
              refine lv_aload_n hx hb dX6_hitFault_99 rfl (lv_at hl 1 rfl) ?_
              refine getF (q0 := 1) (k0 := 0) (v := .ref a_g) C hE hP inA6 rfl rfl (by decide) qFX6_15 rfl rfl dX6_hitFault_100 ?_
              refine lv_iload_n hx hb dX6_hitFault_103 rfl (lv_at hl 2 rfl) ?_
              refine lv_iconst (v := 1) hx hb dX6_hitFault_104 (by decide) ?_
              replace h := bnd h; obtain ⟨q17, e18, h⟩ := h
              refine rdV C hE hP (kX1_of l D T a_g a_gw a_gk v_gw p0 1 q17 e18) mX1_of qLX6_62 [0, 2] 0 rfl rfl rfl rfl ⟨rfl, rfl⟩ ⟨Nat.le_of_ble_eq_true rfl, Nat.le_of_ble_eq_true rfl⟩ rfl hl.1 rfl (Nat.le_of_ble_eq_true rfl) dX6_hitFault_105 ⟨Nat.le_of_ble_eq_true rfl, Nat.le_of_ble_eq_true rfl⟩ ?_
              replace h := bnd h; obtain ⟨q19, e20, h⟩ := h
              refine wrVi (ws1 := [(a_g, .inr (1, [.ref a_gw, .ref a_gk])), (a_u, .inr (6, [.ref a_g, .ref a_r, .int q19.2])), (a_gw, .inl (T 0, 90, .inl v_gw)), (a_gk, .inl (T 0, 18, .inl v_gk))]) C hE hP hD hS hA (kX6_refuse l D T a_u a_g a_r q6.2 10 q17 _ q19 e20) mX6_refuse qLX6_33 [1] [0, 2, 3] 1 rfl rfl rfl rfl rfl rfl rfl rfl rfl ⟨rfl, rfl⟩ ⟨Nat.le_of_ble_eq_true rfl, Nat.le_of_ble_eq_true rfl⟩ rfl hl.1 rfl (Nat.le_of_ble_eq_true rfl) dX6_hitFault_108 ⟨Nat.le_of_ble_eq_true rfl, Nat.le_of_ble_eq_true rfl⟩ ?_; clear hP hD hS; intro H locs hP hD hS
              replace h := Option.some.inj h
              exact hret _ _ _ _ _ _ dX6_hitFault_111 rfl (by rw [← h] <;> rfl) (by rw [← h]; exact hP) hS
          · replace h := ite_t c11 h
            refine lv_aload_n hx hb dX6_hitFault_56 rfl (lv_at hl 1 rfl) ?_
            refine lv_bipush (v := 9) hx hb dX6_hitFault_57 (by decide) ?_
            refine lv_aload_n hx hb dX6_hitFault_59 rfl (lv_at hl 1 rfl) ?_
            refine getF (q0 := 1) (k0 := 0) (v := .ref a_g) C hE hP inA6 rfl rfl (by decide) qFX6_15 rfl rfl dX6_hitFault_60 ?_
            refine lv_iload_n hx hb dX6_hitFault_63 rfl (lv_at hl 2 rfl) ?_
            refine lv_iconst (v := 4) hx hb dX6_hitFault_64 (by decide) ?_
            replace h := bnd h; obtain ⟨q21, e22, h⟩ := h
            refine rdV C hE hP (kX1_of l D T a_g a_gw a_gk v_gw p0 4 q21 e22) mX1_of qLX6_62 [0, 2] 0 rfl rfl rfl rfl ⟨rfl, rfl⟩ ⟨Nat.le_of_ble_eq_true rfl, Nat.le_of_ble_eq_true rfl⟩ rfl hl.1 rfl (Nat.le_of_ble_eq_true rfl) dX6_hitFault_65 ⟨Nat.le_of_ble_eq_true rfl, Nat.le_of_ble_eq_true rfl⟩ ?_
            refine lv_aload_n hx hb dX6_hitFault_68 rfl (lv_at hl 1 rfl) ?_
            refine getF (q0 := 1) (k0 := 0) (v := .ref a_g) C hE hP inA6 rfl rfl (by decide) qFX6_15 rfl rfl dX6_hitFault_69 ?_
            refine lv_iconst (v := 5) hx hb dX6_hitFault_72 (by decide) ?_
            replace h := bnd h; obtain ⟨q23, e24, h⟩ := h
            refine rdV C hE hP (kX1_count l D T a_g a_gw a_gk v_gk 5 q23 e24) mX1_count qLX6_47 [0, 3] 0 rfl rfl rfl rfl ⟨rfl, rfl⟩ ⟨Nat.le_of_ble_eq_true rfl, Nat.le_of_ble_eq_true rfl⟩ rfl hl.1 rfl (Nat.le_of_ble_eq_true rfl) dX6_hitFault_73 ⟨Nat.le_of_ble_eq_true rfl, Nat.le_of_ble_eq_true rfl⟩ ?_
            refine rdSN C hE hP (kX7_between l D T q21 q23) mX7_between (by decide +kernel) [] rfl ⟨rfl, rfl⟩ ⟨Nat.le_of_ble_eq_true rfl, Nat.le_of_ble_eq_true rfl⟩ rfl hl.1 rfl (Nat.le_of_ble_eq_true rfl) dX6_hitFault_76 ⟨Nat.le_of_ble_eq_true rfl, Nat.le_of_ble_eq_true rfl⟩ ?_
            replace h := bnd h; obtain ⟨q25, e26, h⟩ := h
            refine wrVi (ws1 := [(a_g, .inr (1, [.ref a_gw, .ref a_gk])), (a_u, .inr (6, [.ref a_g, .ref a_r, .int q25.2])), (a_gw, .inl (T 0, 90, .inl v_gw)), (a_gk, .inl (T 0, 18, .inl v_gk))]) C hE hP hD hS hA (kX6_refuse l D T a_u a_g a_r q6.2 9 (fX7_between q21 q23) _ q25 e26) mX6_refuse qLX6_33 [1] [0, 2, 3] 1 rfl rfl rfl rfl rfl rfl rfl rfl rfl ⟨rfl, rfl⟩ ⟨Nat.le_of_ble_eq_true rfl, Nat.le_of_ble_eq_true rfl⟩ rfl hl.1 rfl (Nat.le_of_ble_eq_true rfl) dX6_hitFault_79 ⟨Nat.le_of_ble_eq_true rfl, Nat.le_of_ble_eq_true rfl⟩ ?_; clear hP hD hS; intro H locs hP hD hS
            replace h := Option.some.inj h
            exact hret _ _ _ _ _ _ dX6_hitFault_82 rfl (by rw [← h] <;> rfl) (by rw [← h]; exact hP) hS
        · replace h := ite_f c8 h
          refine lv_iload hx hb dX6_hitFault_42 (lv_at hl 0 rfl) ?_
          replace h := Option.some.inj h
          exact hret _ _ _ _ _ _ dX6_hitFault_44 rfl (by rw [← h] <;> rfl) (by rw [← h]; exact hP) hS
      · replace h := ite_t c5 h
        refine lv_bipush (v := (-2)) hx hb dX6_hitFault_27 (by decide) ?_
        replace h := Option.some.inj h
        exact hret _ _ _ _ _ _ dX6_hitFault_29 rfl (by rw [← h] <;> rfl) (by rw [← h]; exact hP) hS
  · replace h := ite_t c3 h
    refine lv_iconst (v := (-1)) hx hb dX6_hitFault_11 (by decide) ?_
    replace h := Option.some.inj h
    exact hret _ _ _ _ _ _ dX6_hitFault_12 rfl (by rw [← h] <;> rfl) (by rw [← h]; exact hP) hS

def fX1_isFoulBy_65 (v_gw : Nat → Int32) (v_gk : Nat → Int32) (rec26 : Int32 → Int32 → Option Int32) (l2 : Int32) (l3 : Int32) : Option Int32 :=
  rec26 l2 (l3 + 1)
def fX1_isFoulBy_26 (v_gw : Nat → Int32) (v_gk : Nat → Int32) : Nat → Int32 → Int32 → Option Int32
  | 0, _, _ => none
  | k + 1, l2, l3 =>
    (fX1_count v_gk 0).bind fun q7 =>
    if q7 ≤ l3 then
      some 0
    else
      (fX1_of v_gw l3 0).bind fun q10 =>
      if q10 = l2 then
        (fX1_of v_gw l3 5).bind fun q13 =>
        if q13 = 1 then
          (fX1_isNearBuoy v_gw v_gk l3).bind fun q16 =>
          if q16 = 0 then
            fX1_isFoulBy_65 v_gw v_gk (fX1_isFoulBy_26 v_gw v_gk k) l2 l3
          else
            some 1
        else
          fX1_isFoulBy_65 v_gw v_gk (fX1_isFoulBy_26 v_gw v_gk k) l2 l3
      else
        fX1_isFoulBy_65 v_gw v_gk (fX1_isFoulBy_26 v_gw v_gk k) l2 l3
def fX1_isFoulBy (v_gw : Nat → Int32) (v_gk : Nat → Int32) (p0 : Int32) : Option Int32 :=
  (fX1_count v_gk 6).bind fun q1 =>
  if q1 = (-1) then
    some 0
  else
    (fX1_of v_gw p0 0).bind fun q4 =>
    if q1 = q4 then
      some 0
    else
      fX1_isFoulBy_26 v_gw v_gk 64 q1 0
set_option maxHeartbeats 4000000 in
set_option maxRecDepth 100000 in
theorem lX1_isFoulBy_65 {p : Program} {l : Launch} {e : Env} {s : State} {m : MethodId} {args : Array Value} {below : List Frame} {meth : Method} {c : Code} {Q : State → Prop} {D : va_G} {T : Nat → ClassId} {a_g a_gw a_gk : Nat} {v_gw : Nat → Int32} {v_gk : Nat → Int32} {r : Int32} (C : CallFix p m c cX1_isFoulBy 4 s args aw RX1) (hE : eK D T s) (hP : va_P D kC [(a_g, .inr (1, [.ref a_gw, .ref a_gk])), (a_gw, .inl (T 0, 90, .inl v_gw)), (a_gk, .inl (T 0, 18, .inl v_gk))] s.heap) (hret : RdRet p l e ({ frames := 3, cells := 0, slots := 0, locals := 66 } : Room) s m args below meth c Q cX1_isFoulBy .boolean r) {rec26 : Int32 → Int32 → Option Int32} (hrec26 : ∀ (l2 : Int32) (l3 : Int32) (ls : Array Slot) (hl : lv_has ls 4 [(0, .ref a_g), (2, .int l2), (3, .int l3)]) (h : rec26 l2 l3 = some r), W p l e ({ frames := 3, cells := 0, slots := 0, locals := 66 } : Room) s m args below meth c s.heap [] 0 0 Q (F0 m 26 ls [])) (l2 : Int32) (l3 : Int32) (ls : Array Slot) (hl : lv_has ls 4 [(0, .ref a_g), (2, .int l2), (3, .int l3)]) (h : fX1_isFoulBy_65 v_gw v_gk rec26 l2 l3 = some r) : W p l e ({ frames := 3, cells := 0, slots := 0, locals := 66 } : Room) s m args below meth c s.heap [] 0 0 Q (F0 m 65 ls []) := by
  have hx := C.1
  have hb := C.2.1
  unfold fX1_isFoulBy_65 at h
  refine lv_iinc (v := (l3 + 1)) (lv' := [(3, .int (l3 + 1)), (0, .ref a_g), (2, .int l2)]) hx hb dX1_isFoulBy_65 hl (k := 2) rfl rfl (by decide) rfl (fun ls hl => ?_)
  refine lv_goto (tgt := 26) hx hb dX1_isFoulBy_68 (by decide) ?_
  exact hrec26 l2 (l3 + 1) _ (lv_sub hl [1, 2, 0] rfl) h
set_option maxHeartbeats 4000000 in
set_option maxRecDepth 100000 in
theorem lX1_isFoulBy_26 {p : Program} {l : Launch} {e : Env} {s : State} {m : MethodId} {args : Array Value} {below : List Frame} {meth : Method} {c : Code} {Q : State → Prop} {D : va_G} {T : Nat → ClassId} {a_g a_gw a_gk : Nat} {v_gw : Nat → Int32} {v_gk : Nat → Int32} {r : Int32} (C : CallFix p m c cX1_isFoulBy 4 s args aw RX1) (hE : eK D T s) (hP : va_P D kC [(a_g, .inr (1, [.ref a_gw, .ref a_gk])), (a_gw, .inl (T 0, 90, .inl v_gw)), (a_gk, .inl (T 0, 18, .inl v_gk))] s.heap) (hret : RdRet p l e ({ frames := 3, cells := 0, slots := 0, locals := 66 } : Room) s m args below meth c Q cX1_isFoulBy .boolean r) : ∀ (k : Nat) (l2 : Int32) (l3 : Int32) (ls : Array Slot) (hl : lv_has ls 4 [(0, .ref a_g), (2, .int l2), (3, .int l3)]) (h : fX1_isFoulBy_26 v_gw v_gk k l2 l3 = some r), W p l e ({ frames := 3, cells := 0, slots := 0, locals := 66 } : Room) s m args below meth c s.heap [] 0 0 Q (F0 m 26 ls []) := by
  have hx := C.1
  have hb := C.2.1
  intro k
  induction k with
  | zero =>
    intro l2 l3  ls hl h
    exact nomatch (show (none : Option Int32) = some r from h)
  | succ k ih =>
    intro l2 l3  ls hl h
    rw [fX1_isFoulBy_26] at h
    refine lv_iload_n hx hb dX1_isFoulBy_26 rfl (lv_at hl 2 rfl) ?_
    refine lv_aload_n hx hb dX1_isFoulBy_27 rfl (lv_at hl 0 rfl) ?_
    refine lv_iconst (v := 0) hx hb dX1_isFoulBy_28 (by decide) ?_
    replace h := bnd h; obtain ⟨q7, e8, h⟩ := h
    refine rdV C hE hP (kX1_count l D T a_g a_gw a_gk v_gk 0 q7 e8) mX1_count qLX1_28 [0, 2] 0 rfl rfl rfl rfl ⟨rfl, rfl⟩ ⟨Nat.le_of_ble_eq_true rfl, Nat.le_of_ble_eq_true rfl⟩ rfl hl.1 rfl (Nat.le_of_ble_eq_true rfl) dX1_isFoulBy_29 ⟨Nat.le_of_ble_eq_true rfl, Nat.le_of_ble_eq_true rfl⟩ ?_
    refine lv_icmp_ge (tgt := 71) hx hb dX1_isFoulBy_32 (by decide) (fun c9 => ?_) (fun c9 => ?_)
    · replace h := ite_t c9 h
      refine lv_iconst (v := 0) hx hb dX1_isFoulBy_71 (by decide) ?_
      exact hret _ _ _ _ dX1_isFoulBy_72 rfl (Option.some.inj h)
    · replace h := ite_f c9 h
      refine lv_aload_n hx hb dX1_isFoulBy_35 rfl (lv_at hl 0 rfl) ?_
      refine lv_iload_n hx hb dX1_isFoulBy_36 rfl (lv_at hl 2 rfl) ?_
      refine lv_iconst (v := 0) hx hb dX1_isFoulBy_37 (by decide) ?_
      replace h := bnd h; obtain ⟨q10, e11, h⟩ := h
      refine rdV C hE hP (kX1_of l D T a_g a_gw a_gk v_gw l3 0 q10 e11) mX1_of qLX1_32 [0, 1] 0 rfl rfl rfl rfl ⟨rfl, rfl⟩ ⟨Nat.le_of_ble_eq_true rfl, Nat.le_of_ble_eq_true rfl⟩ rfl hl.1 rfl (Nat.le_of_ble_eq_true rfl) dX1_isFoulBy_38 ⟨Nat.le_of_ble_eq_true rfl, Nat.le_of_ble_eq_true rfl⟩ ?_
      refine lv_iload_n hx hb dX1_isFoulBy_41 rfl (lv_at hl 1 rfl) ?_
      refine lv_icmp_ne (tgt := 65) hx hb dX1_isFoulBy_42 (by decide) (fun c12 => ?_) (fun c12 => ?_)
      · replace h := ite_f c12 h
        exact lX1_isFoulBy_65 C hE hP hret ih l2 l3 _ (lv_sub hl [0, 1, 2] rfl) h
      · replace h := ite_t c12 h
        refine lv_aload_n hx hb dX1_isFoulBy_45 rfl (lv_at hl 0 rfl) ?_
        refine lv_iload_n hx hb dX1_isFoulBy_46 rfl (lv_at hl 2 rfl) ?_
        refine lv_iconst (v := 5) hx hb dX1_isFoulBy_47 (by decide) ?_
        replace h := bnd h; obtain ⟨q13, e14, h⟩ := h
        refine rdV C hE hP (kX1_of l D T a_g a_gw a_gk v_gw l3 5 q13 e14) mX1_of qLX1_32 [0, 1] 0 rfl rfl rfl rfl ⟨rfl, rfl⟩ ⟨Nat.le_of_ble_eq_true rfl, Nat.le_of_ble_eq_true rfl⟩ rfl hl.1 rfl (Nat.le_of_ble_eq_true rfl) dX1_isFoulBy_48 ⟨Nat.le_of_ble_eq_true rfl, Nat.le_of_ble_eq_true rfl⟩ ?_
        refine lv_iconst (v := 1) hx hb dX1_isFoulBy_51 (by decide) ?_
        refine lv_icmp_ne (tgt := 65) hx hb dX1_isFoulBy_52 (by decide) (fun c15 => ?_) (fun c15 => ?_)
        · replace h := ite_f c15 h
          exact lX1_isFoulBy_65 C hE hP hret ih l2 l3 _ (lv_sub hl [0, 1, 2] rfl) h
        · replace h := ite_t c15 h
          refine lv_aload_n hx hb dX1_isFoulBy_55 rfl (lv_at hl 0 rfl) ?_
          refine lv_iload_n hx hb dX1_isFoulBy_56 rfl (lv_at hl 2 rfl) ?_
          replace h := bnd h; obtain ⟨q16, e17, h⟩ := h
          refine rdV C hE hP (kX1_isNearBuoy l D T a_g a_gw a_gk v_gw v_gk l3 q16 e17) mX1_isNearBuoy qLX1_59 [0, 1, 2] 0 rfl rfl rfl rfl ⟨rfl, rfl⟩ ⟨Nat.le_of_ble_eq_true rfl, Nat.le_of_ble_eq_true rfl⟩ rfl hl.1 rfl (Nat.le_of_ble_eq_true rfl) dX1_isFoulBy_57 ⟨Nat.le_of_ble_eq_true rfl, Nat.le_of_ble_eq_true rfl⟩ ?_
          refine lv_if_eq (tgt := 65) hx hb dX1_isFoulBy_60 (by decide) (fun c18 => ?_) (fun c18 => ?_)
          · replace h := ite_t c18 h
            exact lX1_isFoulBy_65 C hE hP hret ih l2 l3 _ (lv_sub hl [0, 1, 2] rfl) h
          · replace h := ite_f c18 h
            refine lv_iconst (v := 1) hx hb dX1_isFoulBy_63 (by decide) ?_
            exact hret _ _ _ _ dX1_isFoulBy_64 rfl (Option.some.inj h)
set_option maxHeartbeats 4000000 in
set_option maxRecDepth 100000 in
theorem kX1_isFoulBy (l : Launch) (D : va_G) (T : Nat → ClassId) (a_g a_gw a_gk : Nat) (v_gw : Nat → Int32) (v_gk : Nat → Int32) (p0 : Int32) (r : Int32) (h : fX1_isFoulBy v_gw v_gk p0 = some r) : RdI l yX1_isFoulBy cX1_isFoulBy 4 .boolean ({ frames := 3, cells := 0, slots := 0, locals := 66 } : Room) D T [(a_g, .inr (1, [.ref a_gw, .ref a_gk])), (a_gw, .inl (T 0, 90, .inl v_gw)), (a_gk, .inl (T 0, 18, .inl v_gk))] [.ref a_g, .int p0] r := by
  unfold fX1_isFoulBy at h
  refine rdMet (by decide +kernel) rfl (fun p e s m args below meth c Q C hE hP hret ls hl => ?_)
  have hx := C.1
  have hb := C.2.1
  have hl : lv_has ls 4 [(0, .ref a_g), (1, .int p0)] := hl
  refine lv_aload_n hx hb dX1_isFoulBy_0 rfl (lv_at hl 0 rfl) ?_
  refine lv_bipush (v := 6) hx hb dX1_isFoulBy_1 (by decide) ?_
  replace h := bnd h; obtain ⟨q1, e2, h⟩ := h
  refine rdV C hE hP (kX1_count l D T a_g a_gw a_gk v_gk 6 q1 e2) mX1_count qLX1_28 [0, 2] 0 rfl rfl rfl rfl ⟨rfl, rfl⟩ ⟨Nat.le_of_ble_eq_true rfl, Nat.le_of_ble_eq_true rfl⟩ rfl hl.1 rfl (Nat.le_of_ble_eq_true rfl) dX1_isFoulBy_3 ⟨Nat.le_of_ble_eq_true rfl, Nat.le_of_ble_eq_true rfl⟩ ?_
  refine lv_istore_n (lv' := [(2, .int q1), (0, .ref a_g), (1, .int p0)]) hx hb dX1_isFoulBy_6 rfl hl (by decide) rfl (fun ls hl => ?_)
  refine lv_iload_n hx hb dX1_isFoulBy_7 rfl (lv_at hl 0 rfl) ?_
  refine lv_iconst (v := (-1)) hx hb dX1_isFoulBy_8 (by decide) ?_
  refine lv_icmp_eq (tgt := 22) hx hb dX1_isFoulBy_9 (by decide) (fun c3 => ?_) (fun c3 => ?_)
  · replace h := ite_t c3 h
    refine lv_iconst (v := 0) hx hb dX1_isFoulBy_22 (by decide) ?_
    exact hret _ _ _ _ dX1_isFoulBy_23 rfl (Option.some.inj h)
  · replace h := ite_f c3 h
    refine lv_iload_n hx hb dX1_isFoulBy_12 rfl (lv_at hl 0 rfl) ?_
    refine lv_aload_n hx hb dX1_isFoulBy_13 rfl (lv_at hl 1 rfl) ?_
    refine lv_iload_n hx hb dX1_isFoulBy_14 rfl (lv_at hl 2 rfl) ?_
    refine lv_iconst (v := 0) hx hb dX1_isFoulBy_15 (by decide) ?_
    replace h := bnd h; obtain ⟨q4, e5, h⟩ := h
    refine rdV C hE hP (kX1_of l D T a_g a_gw a_gk v_gw p0 0 q4 e5) mX1_of qLX1_32 [0, 1] 0 rfl rfl rfl rfl ⟨rfl, rfl⟩ ⟨Nat.le_of_ble_eq_true rfl, Nat.le_of_ble_eq_true rfl⟩ rfl hl.1 rfl (Nat.le_of_ble_eq_true rfl) dX1_isFoulBy_16 ⟨Nat.le_of_ble_eq_true rfl, Nat.le_of_ble_eq_true rfl⟩ ?_
    refine lv_icmp_ne (tgt := 24) hx hb dX1_isFoulBy_19 (by decide) (fun c6 => ?_) (fun c6 => ?_)
    · replace h := ite_f c6 h
      refine lv_iconst (v := 0) hx hb dX1_isFoulBy_24 (by decide) ?_
      refine lv_istore_n (lv' := [(3, .int 0), (2, .int q1), (0, .ref a_g), (1, .int p0)]) hx hb dX1_isFoulBy_25 rfl hl (by decide) rfl (fun ls hl => ?_)
      exact lX1_isFoulBy_26 C hE hP hret 64 q1 0 _ (lv_sub hl [2, 1, 0] rfl) h
    · replace h := ite_t c6 h
      refine lv_iconst (v := 0) hx hb dX1_isFoulBy_22 (by decide) ?_
      exact hret _ _ _ _ dX1_isFoulBy_23 rfl (Option.some.inj h)

def fX7_isGoalEnd_10 (l0 : Int32) : Int32 :=
  if (fX7_isEdge l0) = 0 then
    1
  else
    0
def fX7_isGoalEnd (p0 : Int32) (p1 : Int32) : Int32 :=
  if p1 = 1 then
    fX7_isGoalEnd_10 p0
  else
    if p1 = 3 then
      fX7_isGoalEnd_10 p0
    else
      0
set_option maxHeartbeats 4000000 in
set_option maxRecDepth 100000 in
theorem lX7_isGoalEnd_10 {p : Program} {l : Launch} {e : Env} {s : State} {m : MethodId} {args : Array Value} {below : List Frame} {meth : Method} {c : Code} {Q : State → Prop} {D : va_G} {T : Nat → ClassId} {r : Int32} (C : CallFix p m c cX7_isGoalEnd 2 s args aw RX7) (hE : eK D T s) (hP : va_P D kC [] s.heap) (hret : RdRet p l e ({ frames := 1, cells := 0, slots := 0, locals := 21 } : Room) s m args below meth c Q cX7_isGoalEnd .boolean r) (l0 : Int32) (ls : Array Slot) (hl : lv_has ls 2 [(0, .int l0)]) (h : fX7_isGoalEnd_10 l0 = r) : W p l e ({ frames := 1, cells := 0, slots := 0, locals := 21 } : Room) s m args below meth c s.heap [] 0 0 Q (F0 m 10 ls []) := by
  have hx := C.1
  have hb := C.2.1
  unfold fX7_isGoalEnd_10 at h
  refine lv_iload_n hx hb dX7_isGoalEnd_10 rfl (lv_at hl 0 rfl) ?_
  refine rdS C hE hP (kX7_isEdge l D T l0) mX7_isEdge qLX7_170 [] rfl ⟨rfl, rfl⟩ ⟨Nat.le_of_ble_eq_true rfl, Nat.le_of_ble_eq_true rfl⟩ rfl hl.1 rfl (Nat.le_of_ble_eq_true rfl) dX7_isGoalEnd_11 ⟨Nat.le_of_ble_eq_true rfl, Nat.le_of_ble_eq_true rfl⟩ ?_
  refine lv_if_ne (tgt := 21) hx hb dX7_isGoalEnd_14 (by decide) (fun c3 => ?_) (fun c3 => ?_)
  · replace h := ite_f c3 h
    refine lv_iconst (v := 0) hx hb dX7_isGoalEnd_21 (by decide) ?_
    exact hret _ _ _ _ dX7_isGoalEnd_22 rfl h
  · replace h := ite_t c3 h
    refine lv_iconst (v := 1) hx hb dX7_isGoalEnd_17 (by decide) ?_
    refine lv_goto (tgt := 22) hx hb dX7_isGoalEnd_18 (by decide) ?_
    exact hret _ _ _ _ dX7_isGoalEnd_22 rfl h
set_option maxHeartbeats 4000000 in
set_option maxRecDepth 100000 in
theorem kX7_isGoalEnd (l : Launch) (D : va_G) (T : Nat → ClassId) (p0 : Int32) (p1 : Int32) : RdI l yX7_isGoalEnd cX7_isGoalEnd 2 .boolean ({ frames := 1, cells := 0, slots := 0, locals := 21 } : Room) D T [] [.int p0, .int p1] (fX7_isGoalEnd p0 p1) := by
  obtain ⟨r, h⟩ : ∃ r, fX7_isGoalEnd p0 p1 = r := ⟨_, rfl⟩
  rw [h]
  unfold fX7_isGoalEnd at h
  refine rdMet (by decide +kernel) rfl (fun p e s m args below meth c Q C hE hP hret ls hl => ?_)
  have hx := C.1
  have hb := C.2.1
  have hl : lv_has ls 2 [(0, .int p0), (1, .int p1)] := hl
  refine lv_iload_n hx hb dX7_isGoalEnd_0 rfl (lv_at hl 1 rfl) ?_
  refine lv_iconst (v := 1) hx hb dX7_isGoalEnd_1 (by decide) ?_
  refine lv_icmp_eq (tgt := 10) hx hb dX7_isGoalEnd_2 (by decide) (fun c1 => ?_) (fun c1 => ?_)
  · replace h := ite_t c1 h
    exact lX7_isGoalEnd_10 C hE hP hret p0 _ (lv_sub hl [0] rfl) h
  · replace h := ite_f c1 h
    refine lv_iload_n hx hb dX7_isGoalEnd_5 rfl (lv_at hl 1 rfl) ?_
    refine lv_iconst (v := 3) hx hb dX7_isGoalEnd_6 (by decide) ?_
    refine lv_icmp_ne (tgt := 21) hx hb dX7_isGoalEnd_7 (by decide) (fun c2 => ?_) (fun c2 => ?_)
    · replace h := ite_f c2 h
      refine lv_iconst (v := 0) hx hb dX7_isGoalEnd_21 (by decide) ?_
      exact hret _ _ _ _ dX7_isGoalEnd_22 rfl h
    · replace h := ite_t c2 h
      exact lX7_isGoalEnd_10 C hE hP hret p0 _ (lv_sub hl [0] rfl) h

def fX7_goalAt (p0 : Int32) : Int32 :=
  if p0 = 1 then
    45
  else
    46
set_option maxHeartbeats 4000000 in
set_option maxRecDepth 100000 in
theorem kX7_goalAt (l : Launch) (D : va_G) (T : Nat → ClassId) (p0 : Int32) : RdI l yX7_goalAt cX7_goalAt 1 .int ({ frames := 0, cells := 0, slots := 0, locals := 0 } : Room) D T [] [.int p0] (fX7_goalAt p0) := by
  obtain ⟨r, h⟩ : ∃ r, fX7_goalAt p0 = r := ⟨_, rfl⟩
  rw [h]
  unfold fX7_goalAt at h
  refine rdMet (by decide +kernel) rfl (fun p e s m args below meth c Q C hE hP hret ls hl => ?_)
  have hx := C.1
  have hb := C.2.1
  have hl : lv_has ls 1 [(0, .int p0)] := hl
  refine lv_iload_n hx hb dX7_goalAt_0 rfl (lv_at hl 0 rfl) ?_
  refine lv_iconst (v := 1) hx hb dX7_goalAt_1 (by decide) ?_
  refine lv_icmp_ne (tgt := 10) hx hb dX7_goalAt_2 (by decide) (fun c1 => ?_) (fun c1 => ?_)
  · replace h := ite_f c1 h
    refine lv_bipush (v := 46) hx hb dX7_goalAt_10 (by decide) ?_
    exact hret _ _ _ _ dX7_goalAt_12 rfl h
  · replace h := ite_t c1 h
    refine lv_bipush (v := 45) hx hb dX7_goalAt_5 (by decide) ?_
    refine lv_goto (tgt := 12) hx hb dX7_goalAt_7 (by decide) ?_
    exact hret _ _ _ _ dX7_goalAt_12 rfl h

def fX0_goByCells_55 (v_gw : Nat → Int32) (v_gk : Nat → Int32) (x1 : Int32) (l2 : Int32) (l4 : Int32) (f_net : Int32) : Option (Int32 × Int32) :=
  if x1 = 0 then
    some ((fX7_goalAt l2), x1)
  else
    some (l4, x1)
def fX0_goByCells_101 (v_gw : Nat → Int32) (v_gk : Nat → Int32) (rec18 : Int32 → Int32 → Int32 → Int32 → Int32 → Int32 → Option (Int32 × Int32)) (l1 : Int32) (l2 : Int32) (l3 : Int32) (l4 : Int32) (l5 : Int32) (l6 : Int32) (f_net : Int32) : Option (Int32 × Int32) :=
  (fX1_isDryNow v_gk l6).bind fun q11 =>
  if q11 = 0 then
    rec18 l1 l2 l3 l6 (l5 + 1) f_net
  else
    some (l4, 1)
def fX0_goByCells_18 (v_gw : Nat → Int32) (v_gk : Nat → Int32) : Nat → Int32 → Int32 → Int32 → Int32 → Int32 → Int32 → Option (Int32 × Int32)
  | 0, _, _, _, _, _, _ => none
  | k + 1, l1, l2, l3, l4, l5, f_net =>
    if l3 ≤ l5 then
      some (l4, f_net)
    else
      if (fX7_isCell (fX7_nextCell l4 l2)) = 0 then
        fX0_goByCells_55 v_gw v_gk (if (fX7_isGoalEnd l4 l2) = 0 then 1 else 0) l2 l4 f_net
      else
        (fX1_whaleOn v_gw v_gk (fX7_nextCell l4 l2)).bind fun q5 =>
        if q5 = (-1) then
          fX0_goByCells_101 v_gw v_gk (fX0_goByCells_18 v_gw v_gk k) l1 l2 l3 l4 l5 (fX7_nextCell l4 l2) f_net
        else
          if q5 = l1 then
            fX0_goByCells_101 v_gw v_gk (fX0_goByCells_18 v_gw v_gk k) l1 l2 l3 l4 l5 (fX7_nextCell l4 l2) f_net
          else
            some (l4, f_net)
def fX0_goByCells (f_net : Int32) (v_gw : Nat → Int32) (v_gk : Nat → Int32) (p0 : Int32) (p1 : Int32) (p2 : Int32) : Option (Int32 × Int32) :=
  (fX1_count v_gk 5).bind fun q1 =>
  fX0_goByCells_18 v_gw v_gk 64 p0 p1 p2 q1 0 0
set_option maxHeartbeats 4000000 in
set_option maxRecDepth 100000 in
theorem lX0_goByCells_55 {p : Program} {l : Launch} {e : Env} {s : State} {m : MethodId} {args : Array Value} {below : List Frame} {meth : Method} {c : Code} {Q : State → Prop} {D : va_G} {T : Nat → ClassId} {a_g a_gw a_gk a_f : Nat} {v_gw : Nat → Int32} {v_gk : Nat → Int32} {A : Nat → Prop} {r : Int32 × Int32} (C : CallFix p m c cX0_goByCells 8 s args aw RX0) (hE : eK D T s) (hA : ∀ q : Nat, s.heap.size ≤ q → A q) (hret : WrRet p l e ({ frames := 2, cells := 0, slots := 0, locals := 45 } : Room) s m args below meth c Q cX0_goByCells .int D A [(a_g, .inr (1, [.ref a_gw, .ref a_gk])), (a_f, .inr (0, [.ref a_g, .int r.2])), (a_gw, .inl (T 0, 90, .inl v_gw)), (a_gk, .inl (T 0, 18, .inl v_gk))] r.1) (x1 : Int32) (l2 : Int32) (l4 : Int32) (f_net : Int32) (hb_x1 : x1 &&& 1 = x1) {H : Heap} {locs : List Loc} (hPD : va_PD D A [(a_g, .inr (1, [.ref a_gw, .ref a_gk])), (a_f, .inr (0, [.ref a_g, .int f_net])), (a_gw, .inl (T 0, 90, .inl v_gw)), (a_gk, .inl (T 0, 18, .inl v_gk))] H) (hS : va_S A s.heap H locs) (ls : Array Slot) (hl : lv_has ls 8 [(0, .ref a_f), (2, .int l2), (4, .int l4)]) (h : fX0_goByCells_55 v_gw v_gk x1 l2 l4 f_net = some r) : W p l e ({ frames := 2, cells := 0, slots := 0, locals := 45 } : Room) s m args below meth c H locs 0 0 Q (F0 m 55 ls [.int x1, .ref a_f]) := by
  have hx := C.1
  have hb := C.2.1
  obtain ⟨hP, hD⟩ := hPD
  unfold fX0_goByCells_55 at h
  refine putF (q0 := 1) (k0 := 1) (ws1 := [(a_g, .inr (1, [.ref a_gw, .ref a_gk])), (a_f, .inr (0, [.ref a_g, .int x1])), (a_gw, .inl (T 0, 90, .inl v_gw)), (a_gk, .inl (T 0, 18, .inl v_gk))]) C hE hP hD hS inA0 tyX0_ok nmX0 rfl rfl (by decide) qFX0_9 rfl rfl (nzB hb_x1) (fzB hb_x1) (Nat.le_of_ble_eq_true rfl) rfl dX0_goByCells_55 ?_; clear hP hD hS; intro H locs hP hD hS
  refine lv_aload_n hx hb dX0_goByCells_58 rfl (lv_at hl 0 rfl) ?_
  refine getF (q0 := 1) (k0 := 1) (v := .int x1) C hE hP inA0 rfl rfl (by decide) qFX0_9 rfl rfl dX0_goByCells_59 ?_
  refine lv_if_eq (tgt := 70) hx hb dX0_goByCells_62 (by decide) (fun c10 => ?_) (fun c10 => ?_)
  · replace h := ite_t c10 h
    refine lv_iload_n hx hb dX0_goByCells_70 rfl (lv_at hl 1 rfl) ?_
    refine rdSN C hE hP (kX7_goalAt l D T l2) mX7_goalAt (by decide +kernel) [] rfl ⟨rfl, rfl⟩ ⟨Nat.le_of_ble_eq_true rfl, Nat.le_of_ble_eq_true rfl⟩ rfl hl.1 rfl (Nat.le_of_ble_eq_true rfl) dX0_goByCells_71 ⟨Nat.le_of_ble_eq_true rfl, Nat.le_of_ble_eq_true rfl⟩ ?_
    replace h := Option.some.inj h
    exact hret _ _ _ _ _ _ dX0_goByCells_74 rfl (by rw [← h] <;> rfl) (by rw [← h]; exact hP) hS
  · replace h := ite_f c10 h
    refine lv_iload hx hb dX0_goByCells_65 (lv_at hl 2 rfl) ?_
    refine lv_goto (tgt := 74) hx hb dX0_goByCells_67 (by decide) ?_
    replace h := Option.some.inj h
    exact hret _ _ _ _ _ _ dX0_goByCells_74 rfl (by rw [← h] <;> rfl) (by rw [← h]; exact hP) hS
set_option maxHeartbeats 4000000 in
set_option maxRecDepth 100000 in
theorem lX0_goByCells_101 {p : Program} {l : Launch} {e : Env} {s : State} {m : MethodId} {args : Array Value} {below : List Frame} {meth : Method} {c : Code} {Q : State → Prop} {D : va_G} {T : Nat → ClassId} {a_g a_gw a_gk a_f : Nat} {v_gw : Nat → Int32} {v_gk : Nat → Int32} {A : Nat → Prop} {r : Int32 × Int32} (C : CallFix p m c cX0_goByCells 8 s args aw RX0) (hE : eK D T s) (hA : ∀ q : Nat, s.heap.size ≤ q → A q) (hret : WrRet p l e ({ frames := 2, cells := 0, slots := 0, locals := 45 } : Room) s m args below meth c Q cX0_goByCells .int D A [(a_g, .inr (1, [.ref a_gw, .ref a_gk])), (a_f, .inr (0, [.ref a_g, .int r.2])), (a_gw, .inl (T 0, 90, .inl v_gw)), (a_gk, .inl (T 0, 18, .inl v_gk))] r.1) {rec18 : Int32 → Int32 → Int32 → Int32 → Int32 → Int32 → Option (Int32 × Int32)} (hrec18 : ∀ (l1 : Int32) (l2 : Int32) (l3 : Int32) (l4 : Int32) (l5 : Int32) (f_net : Int32) {H : Heap} {locs : List Loc} (hPD : va_PD D A [(a_g, .inr (1, [.ref a_gw, .ref a_gk])), (a_f, .inr (0, [.ref a_g, .int f_net])), (a_gw, .inl (T 0, 90, .inl v_gw)), (a_gk, .inl (T 0, 18, .inl v_gk))] H) (hS : va_S A s.heap H locs) (ls : Array Slot) (hl : lv_has ls 8 [(0, .ref a_f), (1, .int l1), (2, .int l2), (3, .int l3), (4, .int l4), (5, .int l5)]) (h : rec18 l1 l2 l3 l4 l5 f_net = some r), W p l e ({ frames := 2, cells := 0, slots := 0, locals := 45 } : Room) s m args below meth c H locs 0 0 Q (F0 m 18 ls [])) (l1 : Int32) (l2 : Int32) (l3 : Int32) (l4 : Int32) (l5 : Int32) (l6 : Int32) (f_net : Int32) {H : Heap} {locs : List Loc} (hPD : va_PD D A [(a_g, .inr (1, [.ref a_gw, .ref a_gk])), (a_f, .inr (0, [.ref a_g, .int f_net])), (a_gw, .inl (T 0, 90, .inl v_gw)), (a_gk, .inl (T 0, 18, .inl v_gk))] H) (hS : va_S A s.heap H locs) (ls : Array Slot) (hl : lv_has ls 8 [(0, .ref a_f), (1, .int l1), (2, .int l2), (3, .int l3), (4, .int l4), (5, .int l5), (6, .int l6)]) (h : fX0_goByCells_101 v_gw v_gk rec18 l1 l2 l3 l4 l5 l6 f_net = some r) : W p l e ({ frames := 2, cells := 0, slots := 0, locals := 45 } : Room) s m args below meth c H locs 0 0 Q (F0 m 101 ls []) := by
  have hx := C.1
  have hb := C.2.1
  obtain ⟨hP, hD⟩ := hPD
  unfold fX0_goByCells_101 at h
  refine lv_aload_n hx hb dX0_goByCells_101 rfl (lv_at hl 0 rfl) ?_
  refine getF (q0 := 1) (k0 := 0) (v := .ref a_g) C hE hP inA0 rfl rfl (by decide) qFX0_15 rfl rfl dX0_goByCells_102 ?_
  refine lv_iload hx hb dX0_goByCells_105 (lv_at hl 6 rfl) ?_
  replace h := bnd h; obtain ⟨q11, e12, h⟩ := h
  refine rdV C hE hP (kX1_isDryNow l D T a_g a_gw a_gk v_gk l6 q11 e12) mX1_isDryNow qLX0_50 [0, 3] 0 rfl rfl rfl rfl ⟨rfl, rfl⟩ ⟨Nat.le_of_ble_eq_true rfl, Nat.le_of_ble_eq_true rfl⟩ rfl hl.1 rfl (Nat.le_of_ble_eq_true rfl) dX0_goByCells_107 ⟨Nat.le_of_ble_eq_true rfl, Nat.le_of_ble_eq_true rfl⟩ ?_
  refine lv_if_eq (tgt := 121) hx hb dX0_goByCells_110 (by decide) (fun c13 => ?_) (fun c13 => ?_)
  · replace h := ite_t c13 h
    refine lv_iload hx hb dX0_goByCells_121 (lv_at hl 6 rfl) ?_
    refine lv_istore (lv' := [(4, .int l6), (0, .ref a_f), (1, .int l1), (2, .int l2), (3, .int l3), (5, .int l5), (6, .int l6)]) hx hb dX0_goByCells_123 hl (by decide) rfl (fun ls hl => ?_)
    refine lv_iinc (v := (l5 + 1)) (lv' := [(5, .int (l5 + 1)), (4, .int l6), (0, .ref a_f), (1, .int l1), (2, .int l2), (3, .int l3), (6, .int l6)]) hx hb dX0_goByCells_125 hl (k := 5) rfl rfl (by decide) rfl (fun ls hl => ?_)
    refine lv_goto (tgt := 18) hx hb dX0_goByCells_128 (by decide) ?_
    exact hrec18 l1 l2 l3 l6 (l5 + 1) f_net ⟨hP, hD⟩ hS _ (lv_sub hl [2, 3, 4, 5, 1, 0] rfl) h
  · replace h := ite_f c13 h
    refine lv_aload_n hx hb dX0_goByCells_113 rfl (lv_at hl 0 rfl) ?_
    refine lv_iconst (v := 1) hx hb dX0_goByCells_114 (by decide) ?_
    refine putF (q0 := 1) (k0 := 1) (ws1 := [(a_g, .inr (1, [.ref a_gw, .ref a_gk])), (a_f, .inr (0, [.ref a_g, .int 1])), (a_gw, .inl (T 0, 90, .inl v_gw)), (a_gk, .inl (T 0, 18, .inl v_gk))]) C hE hP hD hS inA0 tyX0_ok nmX0 rfl rfl (by decide) qFX0_9 rfl rfl rfl rfl (Nat.le_of_ble_eq_true rfl) rfl dX0_goByCells_115 ?_; clear hP hD hS; intro H locs hP hD hS
    refine lv_iload hx hb dX0_goByCells_118 (lv_at hl 4 rfl) ?_
    replace h := Option.some.inj h
    exact hret _ _ _ _ _ _ dX0_goByCells_120 rfl (by rw [← h] <;> rfl) (by rw [← h]; exact hP) hS
set_option maxHeartbeats 4000000 in
set_option maxRecDepth 100000 in
theorem lX0_goByCells_18 {p : Program} {l : Launch} {e : Env} {s : State} {m : MethodId} {args : Array Value} {below : List Frame} {meth : Method} {c : Code} {Q : State → Prop} {D : va_G} {T : Nat → ClassId} {a_g a_gw a_gk a_f : Nat} {v_gw : Nat → Int32} {v_gk : Nat → Int32} {A : Nat → Prop} {r : Int32 × Int32} (C : CallFix p m c cX0_goByCells 8 s args aw RX0) (hE : eK D T s) (hA : ∀ q : Nat, s.heap.size ≤ q → A q) (hret : WrRet p l e ({ frames := 2, cells := 0, slots := 0, locals := 45 } : Room) s m args below meth c Q cX0_goByCells .int D A [(a_g, .inr (1, [.ref a_gw, .ref a_gk])), (a_f, .inr (0, [.ref a_g, .int r.2])), (a_gw, .inl (T 0, 90, .inl v_gw)), (a_gk, .inl (T 0, 18, .inl v_gk))] r.1) : ∀ (k : Nat) (l1 : Int32) (l2 : Int32) (l3 : Int32) (l4 : Int32) (l5 : Int32) (f_net : Int32) {H : Heap} {locs : List Loc} (hPD : va_PD D A [(a_g, .inr (1, [.ref a_gw, .ref a_gk])), (a_f, .inr (0, [.ref a_g, .int f_net])), (a_gw, .inl (T 0, 90, .inl v_gw)), (a_gk, .inl (T 0, 18, .inl v_gk))] H) (hS : va_S A s.heap H locs) (ls : Array Slot) (hl : lv_has ls 8 [(0, .ref a_f), (1, .int l1), (2, .int l2), (3, .int l3), (4, .int l4), (5, .int l5)]) (h : fX0_goByCells_18 v_gw v_gk k l1 l2 l3 l4 l5 f_net = some r), W p l e ({ frames := 2, cells := 0, slots := 0, locals := 45 } : Room) s m args below meth c H locs 0 0 Q (F0 m 18 ls []) := by
  have hx := C.1
  have hb := C.2.1
  intro k
  induction k with
  | zero =>
    intro l1 l2 l3 l4 l5 f_net H locs hPD hS ls hl h
    exact nomatch (show (none : Option (Int32 × Int32)) = some r from h)
  | succ k ih =>
    intro l1 l2 l3 l4 l5 f_net H locs hPD hS ls hl h
    obtain ⟨hP, hD⟩ := hPD
    rw [fX0_goByCells_18] at h
    refine lv_iload hx hb dX0_goByCells_18 (lv_at hl 5 rfl) ?_
    refine lv_iload_n hx hb dX0_goByCells_20 rfl (lv_at hl 3 rfl) ?_
    refine lv_icmp_ge (tgt := 131) hx hb dX0_goByCells_21 (by decide) (fun c3 => ?_) (fun c3 => ?_)
    · replace h := ite_t c3 h
      refine lv_iload hx hb dX0_goByCells_131 (lv_at hl 4 rfl) ?_
      replace h := Option.some.inj h
      exact hret _ _ _ _ _ _ dX0_goByCells_133 rfl (by rw [← h] <;> rfl) (by rw [← h]; exact hP) hS
    · replace h := ite_f c3 h
      refine lv_iload hx hb dX0_goByCells_24 (lv_at hl 4 rfl) ?_
      refine lv_iload_n hx hb dX0_goByCells_26 rfl (lv_at hl 2 rfl) ?_
      refine rdSN C hE hP (kX7_nextCell l D T l4 l2) mX7_nextCell (by decide +kernel) [] rfl ⟨rfl, rfl⟩ ⟨Nat.le_of_ble_eq_true rfl, Nat.le_of_ble_eq_true rfl⟩ rfl hl.1 rfl (Nat.le_of_ble_eq_true rfl) dX0_goByCells_27 ⟨Nat.le_of_ble_eq_true rfl, Nat.le_of_ble_eq_true rfl⟩ ?_
      refine lv_istore (lv' := [(6, .int (fX7_nextCell l4 l2)), (0, .ref a_f), (1, .int l1), (2, .int l2), (3, .int l3), (4, .int l4), (5, .int l5)]) hx hb dX0_goByCells_30 hl (by decide) rfl (fun ls hl => ?_)
      refine lv_iload hx hb dX0_goByCells_32 (lv_at hl 0 rfl) ?_
      refine rdSN C hE hP (kX7_isCell l D T (fX7_nextCell l4 l2)) mX7_isCell (by decide +kernel) [] rfl ⟨rfl, rfl⟩ ⟨Nat.le_of_ble_eq_true rfl, Nat.le_of_ble_eq_true rfl⟩ rfl hl.1 rfl (Nat.le_of_ble_eq_true rfl) dX0_goByCells_34 ⟨Nat.le_of_ble_eq_true rfl, Nat.le_of_ble_eq_true rfl⟩ ?_
      refine lv_if_ne (tgt := 75) hx hb dX0_goByCells_37 (by decide) (fun c4 => ?_) (fun c4 => ?_)
      · replace h := ite_f c4 h
        refine lv_aload_n hx hb dX0_goByCells_75 rfl (lv_at hl 1 rfl) ?_
        refine getF (q0 := 1) (k0 := 0) (v := .ref a_g) C hE hP inA0 rfl rfl (by decide) qFX0_15 rfl rfl dX0_goByCells_76 ?_
        refine lv_iload hx hb dX0_goByCells_79 (lv_at hl 0 rfl) ?_
        replace h := bnd h; obtain ⟨q5, e6, h⟩ := h
        refine rdV C hE hP (kX1_whaleOn l D T a_g a_gw a_gk v_gw v_gk (fX7_nextCell l4 l2) q5 e6) mX1_whaleOn qLX0_47 [0, 2, 3] 0 rfl rfl rfl rfl ⟨rfl, rfl⟩ ⟨Nat.le_of_ble_eq_true rfl, Nat.le_of_ble_eq_true rfl⟩ rfl hl.1 rfl (Nat.le_of_ble_eq_true rfl) dX0_goByCells_81 ⟨Nat.le_of_ble_eq_true rfl, Nat.le_of_ble_eq_true rfl⟩ ?_
        refine lv_istore (lv' := [(7, .int q5), (6, .int (fX7_nextCell l4 l2)), (0, .ref a_f), (1, .int l1), (2, .int l2), (3, .int l3), (4, .int l4), (5, .int l5)]) hx hb dX0_goByCells_84 hl (by decide) rfl (fun ls hl => ?_)
        refine lv_iload hx hb dX0_goByCells_86 (lv_at hl 0 rfl) ?_
        refine lv_iconst (v := (-1)) hx hb dX0_goByCells_88 (by decide) ?_
        refine lv_icmp_eq (tgt := 101) hx hb dX0_goByCells_89 (by decide) (fun c7 => ?_) (fun c7 => ?_)
        · replace h := ite_t c7 h
          exact lX0_goByCells_101 C hE hA hret ih l1 l2 l3 l4 l5 (fX7_nextCell l4 l2) f_net ⟨hP, hD⟩ hS _ (lv_sub hl [2, 3, 4, 5, 6, 7, 1] rfl) h
        · replace h := ite_f c7 h
          refine lv_iload hx hb dX0_goByCells_92 (lv_at hl 0 rfl) ?_
          refine lv_iload_n hx hb dX0_goByCells_94 rfl (lv_at hl 3 rfl) ?_
          refine lv_icmp_eq (tgt := 101) hx hb dX0_goByCells_95 (by decide) (fun c8 => ?_) (fun c8 => ?_)
          · replace h := ite_t c8 h
            exact lX0_goByCells_101 C hE hA hret ih l1 l2 l3 l4 l5 (fX7_nextCell l4 l2) f_net ⟨hP, hD⟩ hS _ (lv_sub hl [2, 3, 4, 5, 6, 7, 1] rfl) h
          · replace h := ite_f c8 h
            refine lv_iload hx hb dX0_goByCells_98 (lv_at hl 6 rfl) ?_
            replace h := Option.some.inj h
            exact hret _ _ _ _ _ _ dX0_goByCells_100 rfl (by rw [← h] <;> rfl) (by rw [← h]; exact hP) hS
      · replace h := ite_t c4 h
        refine lv_aload_n hx hb dX0_goByCells_40 rfl (lv_at hl 1 rfl) ?_
        refine lv_iload hx hb dX0_goByCells_41 (lv_at hl 5 rfl) ?_
        refine lv_iload_n hx hb dX0_goByCells_43 rfl (lv_at hl 3 rfl) ?_
        refine rdSN C hE hP (kX7_isGoalEnd l D T l4 l2) mX7_isGoalEnd (by decide +kernel) [] rfl ⟨rfl, rfl⟩ ⟨Nat.le_of_ble_eq_true rfl, Nat.le_of_ble_eq_true rfl⟩ rfl hl.1 rfl (Nat.le_of_ble_eq_true rfl) dX0_goByCells_44 ⟨Nat.le_of_ble_eq_true rfl, Nat.le_of_ble_eq_true rfl⟩ ?_
        refine lv_if_ne (tgt := 54) hx hb dX0_goByCells_47 (by decide) (fun c9 => ?_) (fun c9 => ?_)
        · rw [if_neg c9] at h
          refine lv_iconst (v := 0) hx hb dX0_goByCells_54 (by decide) ?_
          exact lX0_goByCells_55 C hE hA hret 0 l2 l4 f_net rfl ⟨hP, hD⟩ hS _ (lv_sub hl [1, 3, 5] rfl) h
        · rw [if_pos c9] at h
          refine lv_iconst (v := 1) hx hb dX0_goByCells_50 (by decide) ?_
          refine lv_goto (tgt := 55) hx hb dX0_goByCells_51 (by decide) ?_
          exact lX0_goByCells_55 C hE hA hret 1 l2 l4 f_net rfl ⟨hP, hD⟩ hS _ (lv_sub hl [1, 3, 5] rfl) h
set_option maxHeartbeats 4000000 in
set_option maxRecDepth 100000 in
theorem kX0_goByCells (l : Launch) (D : va_G) (T : Nat → ClassId) (a_g a_gw a_gk a_f : Nat) (f_net : Int32) (v_gw : Nat → Int32) (v_gk : Nat → Int32) (p0 : Int32) (p1 : Int32) (p2 : Int32) (sz : Nat) (r : Int32 × Int32) (h : fX0_goByCells f_net v_gw v_gk p0 p1 p2 = some r) : WrI l yX0_goByCells cX0_goByCells 8 .int ({ frames := 2, cells := 0, slots := 0, locals := 45 } : Room) D T sz [(a_g, .inr (1, [.ref a_gw, .ref a_gk])), (a_f, .inr (0, [.ref a_g, .int f_net])), (a_gw, .inl (T 0, 90, .inl v_gw)), (a_gk, .inl (T 0, 18, .inl v_gk))] [(a_g, .inr (1, [.ref a_gw, .ref a_gk])), (a_f, .inr (0, [.ref a_g, .int r.2])), (a_gw, .inl (T 0, 90, .inl v_gw)), (a_gk, .inl (T 0, 18, .inl v_gk))] [.ref a_f, .int p0, .int p1, .int p2] r.1 := by
  unfold fX0_goByCells at h
  refine wrMet (by decide +kernel) rfl (fun p e s m args below meth c Q A C hE hA hP hD hS hret ls hl => ?_)
  have hx := C.1
  have hb := C.2.1
  have hl : lv_has ls 8 [(0, .ref a_f), (1, .int p0), (2, .int p1), (3, .int p2)] := hl
  refine lv_aload_n hx hb dX0_goByCells_0 rfl (lv_at hl 0 rfl) ?_
  refine lv_iconst (v := 0) hx hb dX0_goByCells_1 (by decide) ?_
  refine putF (q0 := 1) (k0 := 1) (ws1 := [(a_g, .inr (1, [.ref a_gw, .ref a_gk])), (a_f, .inr (0, [.ref a_g, .int 0])), (a_gw, .inl (T 0, 90, .inl v_gw)), (a_gk, .inl (T 0, 18, .inl v_gk))]) C hE hP hD hS inA0 tyX0_ok nmX0 rfl rfl (by decide) qFX0_9 rfl rfl rfl rfl (Nat.le_of_ble_eq_true rfl) rfl dX0_goByCells_2 ?_; clear hP hD hS; intro H locs hP hD hS
  refine lv_aload_n hx hb dX0_goByCells_5 rfl (lv_at hl 0 rfl) ?_
  refine getF (q0 := 1) (k0 := 0) (v := .ref a_g) C hE hP inA0 rfl rfl (by decide) qFX0_15 rfl rfl dX0_goByCells_6 ?_
  refine lv_iconst (v := 5) hx hb dX0_goByCells_9 (by decide) ?_
  replace h := bnd h; obtain ⟨q1, e2, h⟩ := h
  refine rdV C hE hP (kX1_count l D T a_g a_gw a_gk v_gk 5 q1 e2) mX1_count qLX0_29 [0, 3] 0 rfl rfl rfl rfl ⟨rfl, rfl⟩ ⟨Nat.le_of_ble_eq_true rfl, Nat.le_of_ble_eq_true rfl⟩ rfl hl.1 rfl (Nat.le_of_ble_eq_true rfl) dX0_goByCells_10 ⟨Nat.le_of_ble_eq_true rfl, Nat.le_of_ble_eq_true rfl⟩ ?_
  refine lv_istore (lv' := [(4, .int q1), (0, .ref a_f), (1, .int p0), (2, .int p1), (3, .int p2)]) hx hb dX0_goByCells_13 hl (by decide) rfl (fun ls hl => ?_)
  refine lv_iconst (v := 0) hx hb dX0_goByCells_15 (by decide) ?_
  refine lv_istore (lv' := [(5, .int 0), (4, .int q1), (0, .ref a_f), (1, .int p0), (2, .int p1), (3, .int p2)]) hx hb dX0_goByCells_16 hl (by decide) rfl (fun ls hl => ?_)
  exact lX0_goByCells_18 C hE hA hret 64 p0 p1 p2 q1 0 0 ⟨hP, hD⟩ hS _ (lv_sub hl [2, 3, 4, 5, 1, 0] rfl) h

def fX0_isNetted (f_net : Int32) : Int32 :=
  (f_net &&& 1)
set_option maxHeartbeats 4000000 in
set_option maxRecDepth 100000 in
theorem kX0_isNetted (l : Launch) (D : va_G) (T : Nat → ClassId) (a_f a_g : Nat) (f_net : Int32) : RdI l yX0_isNetted cX0_isNetted 1 .boolean ({ frames := 0, cells := 0, slots := 0, locals := 0 } : Room) D T [(a_f, .inr (0, [.ref a_g, .int f_net]))] [.ref a_f] (fX0_isNetted f_net) := by
  obtain ⟨r, h⟩ : ∃ r, fX0_isNetted f_net = r := ⟨_, rfl⟩
  rw [h]
  unfold fX0_isNetted at h
  refine rdMet (by decide +kernel) rfl (fun p e s m args below meth c Q C hE hP hret ls hl => ?_)
  have hx := C.1
  have hb := C.2.1
  have hl : lv_has ls 1 [(0, .ref a_f)] := hl
  refine lv_aload_n hx hb dX0_isNetted_0 rfl (lv_at hl 0 rfl) ?_
  refine getF (q0 := 0) (k0 := 1) (v := .int f_net) C hE hP inA0 rfl rfl (by decide) qFX0_9 rfl rfl dX0_isNetted_1 ?_
  exact hret _ _ _ _ dX0_isNetted_4 rfl h

def fX1_countStrike (v_gw : Nat → Int32) (v_gk : Nat → Int32) (p0 : Int32) (p1 : Int32) : Option ((Nat → Int32) × (Nat → Int32)) :=
  (fX1_add v_gw p0 3 (-1)).bind fun q1 =>
  (fX1_add q1 p0 8 1).bind fun q3 =>
  (fX1_addCount v_gk 7 1).bind fun q5 =>
  if p1 = 0 then
    some (q3, q5)
  else
    (fX1_add q3 p0 7 1).bind fun q8 =>
    (fX1_addCount q5 8 1).bind fun q10 =>
    some (q8, q10)
set_option maxHeartbeats 4000000 in
set_option maxRecDepth 100000 in
theorem kX1_countStrike (l : Launch) (D : va_G) (T : Nat → ClassId) (a_g a_gw a_gk : Nat) (v_gw : Nat → Int32) (v_gk : Nat → Int32) (p0 : Int32) (p1 : Int32) (sz : Nat) (r : (Nat → Int32) × (Nat → Int32)) (h : fX1_countStrike v_gw v_gk p0 p1 = some r) : WrV l yX1_countStrike cX1_countStrike 3 ({ frames := 2, cells := 0, slots := 0, locals := 47 } : Room) D T sz [(a_g, .inr (1, [.ref a_gw, .ref a_gk])), (a_gw, .inl (T 0, 90, .inl v_gw)), (a_gk, .inl (T 0, 18, .inl v_gk))] [(a_g, .inr (1, [.ref a_gw, .ref a_gk])), (a_gw, .inl (T 0, 90, .inl r.1)), (a_gk, .inl (T 0, 18, .inl r.2))] [.ref a_g, .int p0, .int p1] := by
  unfold fX1_countStrike at h
  refine wrMetV (by decide +kernel) rfl (fun p e s m args below meth c Q A C hE hA hP hD hS hret ls hl => ?_)
  have hx := C.1
  have hb := C.2.1
  have hl : lv_has ls 3 [(0, .ref a_g), (1, .int p0), (2, .int p1)] := hl
  refine lv_aload_n hx hb dX1_countStrike_0 rfl (lv_at hl 0 rfl) ?_
  refine lv_iload_n hx hb dX1_countStrike_1 rfl (lv_at hl 1 rfl) ?_
  refine lv_iconst (v := 3) hx hb dX1_countStrike_2 (by decide) ?_
  refine lv_iconst (v := (-1)) hx hb dX1_countStrike_3 (by decide) ?_
  replace h := bnd h; obtain ⟨q1, e2, h⟩ := h
  refine wrVv (ws1 := [(a_g, .inr (1, [.ref a_gw, .ref a_gk])), (a_gw, .inl (T 0, 90, .inl q1)), (a_gk, .inl (T 0, 18, .inl v_gk))]) C hE hP hD hS hA (kX1_add l D T a_g a_gw a_gk v_gw p0 3 (-1) _ q1 e2) mX1_add qLX1_72 [0, 1] [2] 0 rfl rfl rfl rfl rfl rfl rfl rfl rfl ⟨rfl, rfl⟩ ⟨Nat.le_of_ble_eq_true rfl, Nat.le_of_ble_eq_true rfl⟩ rfl hl.1 rfl (Nat.le_of_ble_eq_true rfl) dX1_countStrike_4 ⟨Nat.le_of_ble_eq_true rfl, Nat.le_of_ble_eq_true rfl⟩ ?_; clear hP hD hS; intro H locs hP hD hS
  refine lv_aload_n hx hb dX1_countStrike_7 rfl (lv_at hl 0 rfl) ?_
  refine lv_iload_n hx hb dX1_countStrike_8 rfl (lv_at hl 1 rfl) ?_
  refine lv_bipush (v := 8) hx hb dX1_countStrike_9 (by decide) ?_
  refine lv_iconst (v := 1) hx hb dX1_countStrike_11 (by decide) ?_
  replace h := bnd h; obtain ⟨q3, e4, h⟩ := h
  refine wrVv (ws1 := [(a_g, .inr (1, [.ref a_gw, .ref a_gk])), (a_gw, .inl (T 0, 90, .inl q3)), (a_gk, .inl (T 0, 18, .inl v_gk))]) C hE hP hD hS hA (kX1_add l D T a_g a_gw a_gk q1 p0 8 1 _ q3 e4) mX1_add qLX1_72 [0, 1] [2] 0 rfl rfl rfl rfl rfl rfl rfl rfl rfl ⟨rfl, rfl⟩ ⟨Nat.le_of_ble_eq_true rfl, Nat.le_of_ble_eq_true rfl⟩ rfl hl.1 rfl (Nat.le_of_ble_eq_true rfl) dX1_countStrike_12 ⟨Nat.le_of_ble_eq_true rfl, Nat.le_of_ble_eq_true rfl⟩ ?_; clear hP hD hS; intro H locs hP hD hS
  refine lv_aload_n hx hb dX1_countStrike_15 rfl (lv_at hl 0 rfl) ?_
  refine lv_bipush (v := 7) hx hb dX1_countStrike_16 (by decide) ?_
  refine lv_iconst (v := 1) hx hb dX1_countStrike_18 (by decide) ?_
  replace h := bnd h; obtain ⟨q5, e6, h⟩ := h
  refine wrVv (ws1 := [(a_g, .inr (1, [.ref a_gw, .ref a_gk])), (a_gw, .inl (T 0, 90, .inl q3)), (a_gk, .inl (T 0, 18, .inl q5))]) C hE hP hD hS hA (kX1_addCount l D T a_g a_gw a_gk v_gk 7 1 _ q5 e6) mX1_addCount qLX1_65 [0, 2] [1] 0 rfl rfl rfl rfl rfl rfl rfl rfl rfl ⟨rfl, rfl⟩ ⟨Nat.le_of_ble_eq_true rfl, Nat.le_of_ble_eq_true rfl⟩ rfl hl.1 rfl (Nat.le_of_ble_eq_true rfl) dX1_countStrike_19 ⟨Nat.le_of_ble_eq_true rfl, Nat.le_of_ble_eq_true rfl⟩ ?_; clear hP hD hS; intro H locs hP hD hS
  refine lv_iload_n hx hb dX1_countStrike_22 rfl (lv_at hl 2 rfl) ?_
  refine lv_if_eq (tgt := 41) hx hb dX1_countStrike_23 (by decide) (fun c7 => ?_) (fun c7 => ?_)
  · replace h := ite_t c7 h
    replace h := Option.some.inj h
    exact hret _ _ _ _ dX1_countStrike_41 (by rw [← h]; exact hP) hS
  · replace h := ite_f c7 h
    refine lv_aload_n hx hb dX1_countStrike_26 rfl (lv_at hl 0 rfl) ?_
    refine lv_iload_n hx hb dX1_countStrike_27 rfl (lv_at hl 1 rfl) ?_
    refine lv_bipush (v := 7) hx hb dX1_countStrike_28 (by decide) ?_
    refine lv_iconst (v := 1) hx hb dX1_countStrike_30 (by decide) ?_
    replace h := bnd h; obtain ⟨q8, e9, h⟩ := h
    refine wrVv (ws1 := [(a_g, .inr (1, [.ref a_gw, .ref a_gk])), (a_gw, .inl (T 0, 90, .inl q8)), (a_gk, .inl (T 0, 18, .inl q5))]) C hE hP hD hS hA (kX1_add l D T a_g a_gw a_gk q3 p0 7 1 _ q8 e9) mX1_add qLX1_72 [0, 1] [2] 0 rfl rfl rfl rfl rfl rfl rfl rfl rfl ⟨rfl, rfl⟩ ⟨Nat.le_of_ble_eq_true rfl, Nat.le_of_ble_eq_true rfl⟩ rfl hl.1 rfl (Nat.le_of_ble_eq_true rfl) dX1_countStrike_31 ⟨Nat.le_of_ble_eq_true rfl, Nat.le_of_ble_eq_true rfl⟩ ?_; clear hP hD hS; intro H locs hP hD hS
    refine lv_aload_n hx hb dX1_countStrike_34 rfl (lv_at hl 0 rfl) ?_
    refine lv_bipush (v := 8) hx hb dX1_countStrike_35 (by decide) ?_
    refine lv_iconst (v := 1) hx hb dX1_countStrike_37 (by decide) ?_
    replace h := bnd h; obtain ⟨q10, e11, h⟩ := h
    refine wrVv (ws1 := [(a_g, .inr (1, [.ref a_gw, .ref a_gk])), (a_gw, .inl (T 0, 90, .inl q8)), (a_gk, .inl (T 0, 18, .inl q10))]) C hE hP hD hS hA (kX1_addCount l D T a_g a_gw a_gk q5 8 1 _ q10 e11) mX1_addCount qLX1_65 [0, 2] [1] 0 rfl rfl rfl rfl rfl rfl rfl rfl rfl ⟨rfl, rfl⟩ ⟨Nat.le_of_ble_eq_true rfl, Nat.le_of_ble_eq_true rfl⟩ rfl hl.1 rfl (Nat.le_of_ble_eq_true rfl) dX1_countStrike_38 ⟨Nat.le_of_ble_eq_true rfl, Nat.le_of_ble_eq_true rfl⟩ ?_; clear hP hD hS; intro H locs hP hD hS
    replace h := Option.some.inj h
    exact hret _ _ _ _ dX1_countStrike_41 (by rw [← h]; exact hP) hS

def fX1_countGoal (v_gw : Nat → Int32) (v_gk : Nat → Int32) (p0 : Int32) (p1 : Int32) : Option ((Nat → Int32) × (Nat → Int32)) :=
  (fX1_addCount v_gk (3 + p1) 1).bind fun q1 =>
  (fX1_of v_gw p0 0).bind fun q3 =>
  if q3 = p1 then
    (fX1_add v_gw p0 6 1).bind fun q6 =>
    some (q6, q1)
  else
    some (v_gw, q1)
set_option maxHeartbeats 4000000 in
set_option maxRecDepth 100000 in
theorem kX1_countGoal (l : Launch) (D : va_G) (T : Nat → ClassId) (a_g a_gw a_gk : Nat) (v_gw : Nat → Int32) (v_gk : Nat → Int32) (p0 : Int32) (p1 : Int32) (sz : Nat) (r : (Nat → Int32) × (Nat → Int32)) (h : fX1_countGoal v_gw v_gk p0 p1 = some r) : WrV l yX1_countGoal cX1_countGoal 3 ({ frames := 2, cells := 0, slots := 0, locals := 47 } : Room) D T sz [(a_g, .inr (1, [.ref a_gw, .ref a_gk])), (a_gw, .inl (T 0, 90, .inl v_gw)), (a_gk, .inl (T 0, 18, .inl v_gk))] [(a_g, .inr (1, [.ref a_gw, .ref a_gk])), (a_gw, .inl (T 0, 90, .inl r.1)), (a_gk, .inl (T 0, 18, .inl r.2))] [.ref a_g, .int p0, .int p1] := by
  unfold fX1_countGoal at h
  refine wrMetV (by decide +kernel) rfl (fun p e s m args below meth c Q A C hE hA hP hD hS hret ls hl => ?_)
  have hx := C.1
  have hb := C.2.1
  have hl : lv_has ls 3 [(0, .ref a_g), (1, .int p0), (2, .int p1)] := hl
  refine lv_aload_n hx hb dX1_countGoal_0 rfl (lv_at hl 0 rfl) ?_
  refine lv_iconst (v := 3) hx hb dX1_countGoal_1 (by decide) ?_
  refine lv_iload_n hx hb dX1_countGoal_2 rfl (lv_at hl 2 rfl) ?_
  refine lv_iadd hx hb dX1_countGoal_3 ?_
  refine lv_iconst (v := 1) hx hb dX1_countGoal_4 (by decide) ?_
  replace h := bnd h; obtain ⟨q1, e2, h⟩ := h
  refine wrVv (ws1 := [(a_g, .inr (1, [.ref a_gw, .ref a_gk])), (a_gw, .inl (T 0, 90, .inl v_gw)), (a_gk, .inl (T 0, 18, .inl q1))]) C hE hP hD hS hA (kX1_addCount l D T a_g a_gw a_gk v_gk (3 + p1) 1 _ q1 e2) mX1_addCount qLX1_65 [0, 2] [1] 0 rfl rfl rfl rfl rfl rfl rfl rfl rfl ⟨rfl, rfl⟩ ⟨Nat.le_of_ble_eq_true rfl, Nat.le_of_ble_eq_true rfl⟩ rfl hl.1 rfl (Nat.le_of_ble_eq_true rfl) dX1_countGoal_5 ⟨Nat.le_of_ble_eq_true rfl, Nat.le_of_ble_eq_true rfl⟩ ?_; clear hP hD hS; intro H locs hP hD hS
  refine lv_aload_n hx hb dX1_countGoal_8 rfl (lv_at hl 0 rfl) ?_
  refine lv_iload_n hx hb dX1_countGoal_9 rfl (lv_at hl 1 rfl) ?_
  refine lv_iconst (v := 0) hx hb dX1_countGoal_10 (by decide) ?_
  replace h := bnd h; obtain ⟨q3, e4, h⟩ := h
  refine rdV C hE hP (kX1_of l D T a_g a_gw a_gk v_gw p0 0 q3 e4) mX1_of qLX1_32 [0, 1] 0 rfl rfl rfl rfl ⟨rfl, rfl⟩ ⟨Nat.le_of_ble_eq_true rfl, Nat.le_of_ble_eq_true rfl⟩ rfl hl.1 rfl (Nat.le_of_ble_eq_true rfl) dX1_countGoal_11 ⟨Nat.le_of_ble_eq_true rfl, Nat.le_of_ble_eq_true rfl⟩ ?_
  refine lv_iload_n hx hb dX1_countGoal_14 rfl (lv_at hl 2 rfl) ?_
  refine lv_icmp_ne (tgt := 26) hx hb dX1_countGoal_15 (by decide) (fun c5 => ?_) (fun c5 => ?_)
  · replace h := ite_f c5 h
    replace h := Option.some.inj h
    exact hret _ _ _ _ dX1_countGoal_26 (by rw [← h]; exact hP) hS
  · replace h := ite_t c5 h
    refine lv_aload_n hx hb dX1_countGoal_18 rfl (lv_at hl 0 rfl) ?_
    refine lv_iload_n hx hb dX1_countGoal_19 rfl (lv_at hl 1 rfl) ?_
    refine lv_bipush (v := 6) hx hb dX1_countGoal_20 (by decide) ?_
    refine lv_iconst (v := 1) hx hb dX1_countGoal_22 (by decide) ?_
    replace h := bnd h; obtain ⟨q6, e7, h⟩ := h
    refine wrVv (ws1 := [(a_g, .inr (1, [.ref a_gw, .ref a_gk])), (a_gw, .inl (T 0, 90, .inl q6)), (a_gk, .inl (T 0, 18, .inl q1))]) C hE hP hD hS hA (kX1_add l D T a_g a_gw a_gk v_gw p0 6 1 _ q6 e7) mX1_add qLX1_72 [0, 1] [2] 0 rfl rfl rfl rfl rfl rfl rfl rfl rfl ⟨rfl, rfl⟩ ⟨Nat.le_of_ble_eq_true rfl, Nat.le_of_ble_eq_true rfl⟩ rfl hl.1 rfl (Nat.le_of_ble_eq_true rfl) dX1_countGoal_23 ⟨Nat.le_of_ble_eq_true rfl, Nat.le_of_ble_eq_true rfl⟩ ?_; clear hP hD hS; intro H locs hP hD hS
    replace h := Option.some.inj h
    exact hret _ _ _ _ dX1_countGoal_26 (by rw [← h]; exact hP) hS

def fX1_hit_138 (x0 : Int32) (v_gw : Nat → Int32) (v_gk : Nat → Int32) : Option (Int32 × (Nat → Int32) × (Nat → Int32)) :=
  (fX1_endStroke v_gw v_gk).bind fun q26 =>
  some (x0, q26.2.1, q26.2.2)
def fX1_hit_124 (l2 : Int32) (l6 : Int32) (v_gw : Nat → Int32) (v_gk : Nat → Int32) : Option (Int32 × (Nat → Int32) × (Nat → Int32)) :=
  if l6 = 0 then
    (fX1_count v_gk 5).bind fun q24 =>
    fX1_hit_138 q24 v_gw v_gk
  else
    fX1_hit_138 l2 v_gw v_gk
def fX1_hit_121 (x1 : Int32) (x2 : Int32) (l2 : Int32) (l6 : Int32) (v_gw : Nat → Int32) (v_gk : Nat → Int32) : Option (Int32 × (Nat → Int32) × (Nat → Int32)) :=
  (fX1_setCount v_gk x1 x2).bind fun q21 =>
  fX1_hit_124 l2 l6 v_gw q21
def fX1_hit_73 (x1 : Int32) (x2 : Int32) (l1 : Int32) (l2 : Int32) (l3 : Int32) (l4 : Int32) (l6 : Int32) (l7 : Int32) (v_gw : Nat → Int32) (v_gk : Nat → Int32) : Option (Int32 × (Nat → Int32) × (Nat → Int32)) :=
  (fX1_setCount v_gk x1 x2).bind fun q12 =>
  if l6 = 0 then
    if l4 = 0 then
      fX1_hit_121 6 (if l3 = 0 then l7 else (1 - l7)) l2 l6 v_gw q12
    else
      fX1_hit_124 l2 l6 v_gw q12
  else
    (fX1_countGoal v_gw q12 l1 (l2 - 45)).bind fun q17 =>
    (fX1_setCount q17.2 6 (-1)).bind fun q19 =>
    fX1_hit_124 l2 l6 q17.1 q19
def fX1_hit_57 (x1 : Int32) (x2 : Int32) (l1 : Int32) (l2 : Int32) (l3 : Int32) (l4 : Int32) (l5 : Int32) (l6 : Int32) (l7 : Int32) (v_gw : Nat → Int32) (v_gk : Nat → Int32) : Option (Int32 × (Nat → Int32) × (Nat → Int32)) :=
  (fX1_addCount v_gk x1 x2).bind fun q9 =>
  fX1_hit_73 5 (if l5 = 0 then l2 else 22) l1 l2 l3 l4 l6 l7 v_gw q9
def fX1_hit_28 (x0 : Int32) (l1 : Int32) (l2 : Int32) (l3 : Int32) (l4 : Int32) (l5 : Int32) (v_gw : Nat → Int32) (v_gk : Nat → Int32) : Option (Int32 × (Nat → Int32) × (Nat → Int32)) :=
  (fX1_of v_gw l1 0).bind fun q4 =>
  (fX1_countStrike v_gw v_gk l1 l4).bind fun q6 =>
  fX1_hit_57 11 (if l3 = 0 then 0 else 1) l1 l2 l3 l4 l5 x0 q4 q6.1 q6.2
def fX1_hit_11 (x0 : Int32) (l1 : Int32) (l2 : Int32) (l3 : Int32) (l4 : Int32) (v_gw : Nat → Int32) (v_gk : Nat → Int32) : Option (Int32 × (Nat → Int32) × (Nat → Int32)) :=
  fX1_hit_28 (if x0 = 0 then 0 else (if l4 = 0 then 1 else 0)) l1 l2 l3 l4 x0 v_gw v_gk
def fX1_hit (v_gw : Nat → Int32) (v_gk : Nat → Int32) (p0 : Int32) (p1 : Int32) (p2 : Int32) (p3 : Int32) : Option (Int32 × (Nat → Int32) × (Nat → Int32)) :=
  fX1_hit_11 (if p1 < 45 then 0 else 1) p0 p1 p2 p3 v_gw v_gk
set_option maxHeartbeats 4000000 in
set_option maxRecDepth 100000 in
theorem lX1_hit_138 {p : Program} {l : Launch} {e : Env} {s : State} {m : MethodId} {args : Array Value} {below : List Frame} {meth : Method} {c : Code} {Q : State → Prop} {D : va_G} {T : Nat → ClassId} {a_g a_gw a_gk : Nat} {A : Nat → Prop} {r : Int32 × (Nat → Int32) × (Nat → Int32)} (C : CallFix p m c cX1_hit 9 s args aw RX1) (hE : eK D T s) (hA : ∀ q : Nat, s.heap.size ≤ q → A q) (hret : WrRet p l e ({ frames := 3, cells := 0, slots := 0, locals := 69 } : Room) s m args below meth c Q cX1_hit .int D A [(a_g, .inr (1, [.ref a_gw, .ref a_gk])), (a_gw, .inl (T 0, 90, .inl r.2.1)), (a_gk, .inl (T 0, 18, .inl r.2.2))] r.1) (x0 : Int32) (v_gw : Nat → Int32) (v_gk : Nat → Int32) {H : Heap} {locs : List Loc} (hPD : va_PD D A [(a_g, .inr (1, [.ref a_gw, .ref a_gk])), (a_gw, .inl (T 0, 90, .inl v_gw)), (a_gk, .inl (T 0, 18, .inl v_gk))] H) (hS : va_S A s.heap H locs) (ls : Array Slot) (hl : lv_has ls 9 [(0, .ref a_g)]) (h : fX1_hit_138 x0 v_gw v_gk = some r) : W p l e ({ frames := 3, cells := 0, slots := 0, locals := 69 } : Room) s m args below meth c H locs 0 0 Q (F0 m 138 ls [.int x0]) := by
  have hx := C.1
  have hb := C.2.1
  obtain ⟨hP, hD⟩ := hPD
  unfold fX1_hit_138 at h
  refine lv_istore (lv' := [(8, .int x0), (0, .ref a_g)]) hx hb dX1_hit_138 hl (by decide) rfl (fun ls hl => ?_)
  refine lv_aload_n hx hb dX1_hit_140 rfl (lv_at hl 1 rfl) ?_
  replace h := bnd h; obtain ⟨q26, e27, h⟩ := h
  refine wrVi (ws1 := [(a_g, .inr (1, [.ref a_gw, .ref a_gk])), (a_gw, .inl (T 0, 90, .inl q26.2.1)), (a_gk, .inl (T 0, 18, .inl q26.2.2))]) C hE hP hD hS hA (kX1_endStroke l D T a_g a_gw a_gk v_gw v_gk _ q26 e27) mX1_endStroke qLX1_68 [0, 1, 2] [] 0 rfl rfl rfl rfl rfl rfl rfl rfl rfl ⟨rfl, rfl⟩ ⟨Nat.le_of_ble_eq_true rfl, Nat.le_of_ble_eq_true rfl⟩ rfl hl.1 rfl (Nat.le_of_ble_eq_true rfl) dX1_hit_141 ⟨Nat.le_of_ble_eq_true rfl, Nat.le_of_ble_eq_true rfl⟩ ?_; clear hP hD hS; intro H locs hP hD hS
  refine lv_pop hx hb dX1_hit_144 rfl ?_
  refine lv_iload hx hb dX1_hit_145 (lv_at hl 0 rfl) ?_
  replace h := Option.some.inj h
  exact hret _ _ _ _ _ _ dX1_hit_147 rfl (by rw [← h] <;> rfl) (by rw [← h]; exact hP) hS
set_option maxHeartbeats 4000000 in
set_option maxRecDepth 100000 in
theorem lX1_hit_124 {p : Program} {l : Launch} {e : Env} {s : State} {m : MethodId} {args : Array Value} {below : List Frame} {meth : Method} {c : Code} {Q : State → Prop} {D : va_G} {T : Nat → ClassId} {a_g a_gw a_gk : Nat} {A : Nat → Prop} {r : Int32 × (Nat → Int32) × (Nat → Int32)} (C : CallFix p m c cX1_hit 9 s args aw RX1) (hE : eK D T s) (hA : ∀ q : Nat, s.heap.size ≤ q → A q) (hret : WrRet p l e ({ frames := 3, cells := 0, slots := 0, locals := 69 } : Room) s m args below meth c Q cX1_hit .int D A [(a_g, .inr (1, [.ref a_gw, .ref a_gk])), (a_gw, .inl (T 0, 90, .inl r.2.1)), (a_gk, .inl (T 0, 18, .inl r.2.2))] r.1) (l2 : Int32) (l6 : Int32) (v_gw : Nat → Int32) (v_gk : Nat → Int32) {H : Heap} {locs : List Loc} (hPD : va_PD D A [(a_g, .inr (1, [.ref a_gw, .ref a_gk])), (a_gw, .inl (T 0, 90, .inl v_gw)), (a_gk, .inl (T 0, 18, .inl v_gk))] H) (hS : va_S A s.heap H locs) (ls : Array Slot) (hl : lv_has ls 9 [(0, .ref a_g), (2, .int l2), (6, .int l6)]) (h : fX1_hit_124 l2 l6 v_gw v_gk = some r) : W p l e ({ frames := 3, cells := 0, slots := 0, locals := 69 } : Room) s m args below meth c H locs 0 0 Q (F0 m 124 ls []) := by
  have hx := C.1
  have hb := C.2.1
  obtain ⟨hP, hD⟩ := hPD
  unfold fX1_hit_124 at h
  refine lv_iload hx hb dX1_hit_124 (lv_at hl 2 rfl) ?_
  refine lv_if_eq (tgt := 133) hx hb dX1_hit_126 (by decide) (fun c23 => ?_) (fun c23 => ?_)
  · replace h := ite_t c23 h
    refine lv_aload_n hx hb dX1_hit_133 rfl (lv_at hl 0 rfl) ?_
    refine lv_iconst (v := 5) hx hb dX1_hit_134 (by decide) ?_
    replace h := bnd h; obtain ⟨q24, e25, h⟩ := h
    refine rdV C hE hP (kX1_count l D T a_g a_gw a_gk v_gk 5 q24 e25) mX1_count qLX1_28 [0, 2] 0 rfl rfl rfl rfl ⟨rfl, rfl⟩ ⟨Nat.le_of_ble_eq_true rfl, Nat.le_of_ble_eq_true rfl⟩ rfl hl.1 rfl (Nat.le_of_ble_eq_true rfl) dX1_hit_135 ⟨Nat.le_of_ble_eq_true rfl, Nat.le_of_ble_eq_true rfl⟩ ?_
    exact lX1_hit_138 C hE hA hret q24 v_gw v_gk ⟨hP, hD⟩ hS _ (lv_sub hl [0] rfl) h
  · replace h := ite_f c23 h
    refine lv_iload_n hx hb dX1_hit_129 rfl (lv_at hl 1 rfl) ?_
    refine lv_goto (tgt := 138) hx hb dX1_hit_130 (by decide) ?_
    exact lX1_hit_138 C hE hA hret l2 v_gw v_gk ⟨hP, hD⟩ hS _ (lv_sub hl [0] rfl) h
set_option maxHeartbeats 4000000 in
set_option maxRecDepth 100000 in
theorem lX1_hit_121 {p : Program} {l : Launch} {e : Env} {s : State} {m : MethodId} {args : Array Value} {below : List Frame} {meth : Method} {c : Code} {Q : State → Prop} {D : va_G} {T : Nat → ClassId} {a_g a_gw a_gk : Nat} {A : Nat → Prop} {r : Int32 × (Nat → Int32) × (Nat → Int32)} (C : CallFix p m c cX1_hit 9 s args aw RX1) (hE : eK D T s) (hA : ∀ q : Nat, s.heap.size ≤ q → A q) (hret : WrRet p l e ({ frames := 3, cells := 0, slots := 0, locals := 69 } : Room) s m args below meth c Q cX1_hit .int D A [(a_g, .inr (1, [.ref a_gw, .ref a_gk])), (a_gw, .inl (T 0, 90, .inl r.2.1)), (a_gk, .inl (T 0, 18, .inl r.2.2))] r.1) (x1 : Int32) (x2 : Int32) (l2 : Int32) (l6 : Int32) (v_gw : Nat → Int32) (v_gk : Nat → Int32) {H : Heap} {locs : List Loc} (hPD : va_PD D A [(a_g, .inr (1, [.ref a_gw, .ref a_gk])), (a_gw, .inl (T 0, 90, .inl v_gw)), (a_gk, .inl (T 0, 18, .inl v_gk))] H) (hS : va_S A s.heap H locs) (ls : Array Slot) (hl : lv_has ls 9 [(0, .ref a_g), (2, .int l2), (6, .int l6)]) (h : fX1_hit_121 x1 x2 l2 l6 v_gw v_gk = some r) : W p l e ({ frames := 3, cells := 0, slots := 0, locals := 69 } : Room) s m args below meth c H locs 0 0 Q (F0 m 121 ls [.int x2, .int x1, .ref a_g]) := by
  have hx := C.1
  have hb := C.2.1
  obtain ⟨hP, hD⟩ := hPD
  unfold fX1_hit_121 at h
  replace h := bnd h; obtain ⟨q21, e22, h⟩ := h
  refine wrVv (ws1 := [(a_g, .inr (1, [.ref a_gw, .ref a_gk])), (a_gw, .inl (T 0, 90, .inl v_gw)), (a_gk, .inl (T 0, 18, .inl q21))]) C hE hP hD hS hA (kX1_setCount l D T a_g a_gw a_gk v_gk x1 x2 _ q21 e22) mX1_setCount qLX1_18 [0, 2] [1] 0 rfl rfl rfl rfl rfl rfl rfl rfl rfl ⟨rfl, rfl⟩ ⟨Nat.le_of_ble_eq_true rfl, Nat.le_of_ble_eq_true rfl⟩ rfl hl.1 rfl (Nat.le_of_ble_eq_true rfl) dX1_hit_121 ⟨Nat.le_of_ble_eq_true rfl, Nat.le_of_ble_eq_true rfl⟩ ?_; clear hP hD hS; intro H locs hP hD hS
  exact lX1_hit_124 C hE hA hret l2 l6 v_gw q21 ⟨hP, hD⟩ hS _ (lv_sub hl [0, 1, 2] rfl) h
set_option maxHeartbeats 4000000 in
set_option maxRecDepth 100000 in
theorem lX1_hit_73 {p : Program} {l : Launch} {e : Env} {s : State} {m : MethodId} {args : Array Value} {below : List Frame} {meth : Method} {c : Code} {Q : State → Prop} {D : va_G} {T : Nat → ClassId} {a_g a_gw a_gk : Nat} {A : Nat → Prop} {r : Int32 × (Nat → Int32) × (Nat → Int32)} (C : CallFix p m c cX1_hit 9 s args aw RX1) (hE : eK D T s) (hA : ∀ q : Nat, s.heap.size ≤ q → A q) (hret : WrRet p l e ({ frames := 3, cells := 0, slots := 0, locals := 69 } : Room) s m args below meth c Q cX1_hit .int D A [(a_g, .inr (1, [.ref a_gw, .ref a_gk])), (a_gw, .inl (T 0, 90, .inl r.2.1)), (a_gk, .inl (T 0, 18, .inl r.2.2))] r.1) (x1 : Int32) (x2 : Int32) (l1 : Int32) (l2 : Int32) (l3 : Int32) (l4 : Int32) (l6 : Int32) (l7 : Int32) (v_gw : Nat → Int32) (v_gk : Nat → Int32) {H : Heap} {locs : List Loc} (hPD : va_PD D A [(a_g, .inr (1, [.ref a_gw, .ref a_gk])), (a_gw, .inl (T 0, 90, .inl v_gw)), (a_gk, .inl (T 0, 18, .inl v_gk))] H) (hS : va_S A s.heap H locs) (ls : Array Slot) (hl : lv_has ls 9 [(0, .ref a_g), (1, .int l1), (2, .int l2), (3, .int l3), (4, .int l4), (6, .int l6), (7, .int l7)]) (h : fX1_hit_73 x1 x2 l1 l2 l3 l4 l6 l7 v_gw v_gk = some r) : W p l e ({ frames := 3, cells := 0, slots := 0, locals := 69 } : Room) s m args below meth c H locs 0 0 Q (F0 m 73 ls [.int x2, .int x1, .ref a_g]) := by
  have hx := C.1
  have hb := C.2.1
  obtain ⟨hP, hD⟩ := hPD
  unfold fX1_hit_73 at h
  replace h := bnd h; obtain ⟨q12, e13, h⟩ := h
  refine wrVv (ws1 := [(a_g, .inr (1, [.ref a_gw, .ref a_gk])), (a_gw, .inl (T 0, 90, .inl v_gw)), (a_gk, .inl (T 0, 18, .inl q12))]) C hE hP hD hS hA (kX1_setCount l D T a_g a_gw a_gk v_gk x1 x2 _ q12 e13) mX1_setCount qLX1_18 [0, 2] [1] 0 rfl rfl rfl rfl rfl rfl rfl rfl rfl ⟨rfl, rfl⟩ ⟨Nat.le_of_ble_eq_true rfl, Nat.le_of_ble_eq_true rfl⟩ rfl hl.1 rfl (Nat.le_of_ble_eq_true rfl) dX1_hit_73 ⟨Nat.le_of_ble_eq_true rfl, Nat.le_of_ble_eq_true rfl⟩ ?_; clear hP hD hS; intro H locs hP hD hS
  refine lv_iload hx hb dX1_hit_76 (lv_at hl 5 rfl) ?_
  refine lv_if_eq (tgt := 100) hx hb dX1_hit_78 (by decide) (fun c14 => ?_) (fun c14 => ?_)
  · replace h := ite_t c14 h
    refine lv_iload hx hb dX1_hit_100 (lv_at hl 4 rfl) ?_
    refine lv_if_ne (tgt := 124) hx hb dX1_hit_102 (by decide) (fun c15 => ?_) (fun c15 => ?_)
    · replace h := ite_f c15 h
      exact lX1_hit_124 C hE hA hret l2 l6 v_gw q12 ⟨hP, hD⟩ hS _ (lv_sub hl [0, 2, 5] rfl) h
    · replace h := ite_t c15 h
      refine lv_aload_n hx hb dX1_hit_105 rfl (lv_at hl 0 rfl) ?_
      refine lv_bipush (v := 6) hx hb dX1_hit_106 (by decide) ?_
      refine lv_iload_n hx hb dX1_hit_108 rfl (lv_at hl 3 rfl) ?_
      refine lv_if_eq (tgt := 119) hx hb dX1_hit_109 (by decide) (fun c16 => ?_) (fun c16 => ?_)
      · rw [if_pos c16] at h
        refine lv_iload hx hb dX1_hit_119 (lv_at hl 6 rfl) ?_
        exact lX1_hit_121 C hE hA hret 6 l7 l2 l6 v_gw q12 ⟨hP, hD⟩ hS _ (lv_sub hl [0, 2, 5] rfl) h
      · rw [if_neg c16] at h
        refine lv_iconst (v := 1) hx hb dX1_hit_112 (by decide) ?_
        refine lv_iload hx hb dX1_hit_113 (lv_at hl 6 rfl) ?_
        refine lv_isub hx hb dX1_hit_115 ?_
        refine lv_goto (tgt := 121) hx hb dX1_hit_116 (by decide) ?_
        exact lX1_hit_121 C hE hA hret 6 (1 - l7) l2 l6 v_gw q12 ⟨hP, hD⟩ hS _ (lv_sub hl [0, 2, 5] rfl) h
  · replace h := ite_f c14 h
    refine lv_aload_n hx hb dX1_hit_81 rfl (lv_at hl 0 rfl) ?_
    refine lv_iload_n hx hb dX1_hit_82 rfl (lv_at hl 1 rfl) ?_
    refine lv_iload_n hx hb dX1_hit_83 rfl (lv_at hl 2 rfl) ?_
    refine lv_bipush (v := 45) hx hb dX1_hit_84 (by decide) ?_
    refine lv_isub hx hb dX1_hit_86 ?_
    replace h := bnd h; obtain ⟨q17, e18, h⟩ := h
    refine wrVv (ws1 := [(a_g, .inr (1, [.ref a_gw, .ref a_gk])), (a_gw, .inl (T 0, 90, .inl q17.1)), (a_gk, .inl (T 0, 18, .inl q17.2))]) C hE hP hD hS hA (kX1_countGoal l D T a_g a_gw a_gk v_gw q12 l1 (l2 - 45) _ q17 e18) mX1_countGoal qLX1_79 [0, 1, 2] [] 0 rfl rfl rfl rfl rfl rfl rfl rfl rfl ⟨rfl, rfl⟩ ⟨Nat.le_of_ble_eq_true rfl, Nat.le_of_ble_eq_true rfl⟩ rfl hl.1 rfl (Nat.le_of_ble_eq_true rfl) dX1_hit_87 ⟨Nat.le_of_ble_eq_true rfl, Nat.le_of_ble_eq_true rfl⟩ ?_; clear hP hD hS; intro H locs hP hD hS
    refine lv_aload_n hx hb dX1_hit_90 rfl (lv_at hl 0 rfl) ?_
    refine lv_bipush (v := 6) hx hb dX1_hit_91 (by decide) ?_
    refine lv_iconst (v := (-1)) hx hb dX1_hit_93 (by decide) ?_
    replace h := bnd h; obtain ⟨q19, e20, h⟩ := h
    refine wrVv (ws1 := [(a_g, .inr (1, [.ref a_gw, .ref a_gk])), (a_gw, .inl (T 0, 90, .inl q17.1)), (a_gk, .inl (T 0, 18, .inl q19))]) C hE hP hD hS hA (kX1_setCount l D T a_g a_gw a_gk q17.2 6 (-1) _ q19 e20) mX1_setCount qLX1_18 [0, 2] [1] 0 rfl rfl rfl rfl rfl rfl rfl rfl rfl ⟨rfl, rfl⟩ ⟨Nat.le_of_ble_eq_true rfl, Nat.le_of_ble_eq_true rfl⟩ rfl hl.1 rfl (Nat.le_of_ble_eq_true rfl) dX1_hit_94 ⟨Nat.le_of_ble_eq_true rfl, Nat.le_of_ble_eq_true rfl⟩ ?_; clear hP hD hS; intro H locs hP hD hS
    refine lv_goto (tgt := 124) hx hb dX1_hit_97 (by decide) ?_
    exact lX1_hit_124 C hE hA hret l2 l6 q17.1 q19 ⟨hP, hD⟩ hS _ (lv_sub hl [0, 2, 5] rfl) h
set_option maxHeartbeats 4000000 in
set_option maxRecDepth 100000 in
theorem lX1_hit_57 {p : Program} {l : Launch} {e : Env} {s : State} {m : MethodId} {args : Array Value} {below : List Frame} {meth : Method} {c : Code} {Q : State → Prop} {D : va_G} {T : Nat → ClassId} {a_g a_gw a_gk : Nat} {A : Nat → Prop} {r : Int32 × (Nat → Int32) × (Nat → Int32)} (C : CallFix p m c cX1_hit 9 s args aw RX1) (hE : eK D T s) (hA : ∀ q : Nat, s.heap.size ≤ q → A q) (hret : WrRet p l e ({ frames := 3, cells := 0, slots := 0, locals := 69 } : Room) s m args below meth c Q cX1_hit .int D A [(a_g, .inr (1, [.ref a_gw, .ref a_gk])), (a_gw, .inl (T 0, 90, .inl r.2.1)), (a_gk, .inl (T 0, 18, .inl r.2.2))] r.1) (x1 : Int32) (x2 : Int32) (l1 : Int32) (l2 : Int32) (l3 : Int32) (l4 : Int32) (l5 : Int32) (l6 : Int32) (l7 : Int32) (v_gw : Nat → Int32) (v_gk : Nat → Int32) {H : Heap} {locs : List Loc} (hPD : va_PD D A [(a_g, .inr (1, [.ref a_gw, .ref a_gk])), (a_gw, .inl (T 0, 90, .inl v_gw)), (a_gk, .inl (T 0, 18, .inl v_gk))] H) (hS : va_S A s.heap H locs) (ls : Array Slot) (hl : lv_has ls 9 [(0, .ref a_g), (1, .int l1), (2, .int l2), (3, .int l3), (4, .int l4), (5, .int l5), (6, .int l6), (7, .int l7)]) (h : fX1_hit_57 x1 x2 l1 l2 l3 l4 l5 l6 l7 v_gw v_gk = some r) : W p l e ({ frames := 3, cells := 0, slots := 0, locals := 69 } : Room) s m args below meth c H locs 0 0 Q (F0 m 57 ls [.int x2, .int x1, .ref a_g]) := by
  have hx := C.1
  have hb := C.2.1
  obtain ⟨hP, hD⟩ := hPD
  unfold fX1_hit_57 at h
  replace h := bnd h; obtain ⟨q9, e10, h⟩ := h
  refine wrVv (ws1 := [(a_g, .inr (1, [.ref a_gw, .ref a_gk])), (a_gw, .inl (T 0, 90, .inl v_gw)), (a_gk, .inl (T 0, 18, .inl q9))]) C hE hP hD hS hA (kX1_addCount l D T a_g a_gw a_gk v_gk x1 x2 _ q9 e10) mX1_addCount qLX1_65 [0, 2] [1] 0 rfl rfl rfl rfl rfl rfl rfl rfl rfl ⟨rfl, rfl⟩ ⟨Nat.le_of_ble_eq_true rfl, Nat.le_of_ble_eq_true rfl⟩ rfl hl.1 rfl (Nat.le_of_ble_eq_true rfl) dX1_hit_57 ⟨Nat.le_of_ble_eq_true rfl, Nat.le_of_ble_eq_true rfl⟩ ?_; clear hP hD hS; intro H locs hP hD hS
  refine lv_aload_n hx hb dX1_hit_60 rfl (lv_at hl 0 rfl) ?_
  refine lv_iconst (v := 5) hx hb dX1_hit_61 (by decide) ?_
  refine lv_iload hx hb dX1_hit_62 (lv_at hl 5 rfl) ?_
  refine lv_if_eq (tgt := 72) hx hb dX1_hit_64 (by decide) (fun c11 => ?_) (fun c11 => ?_)
  · rw [if_pos c11] at h
    refine lv_iload_n hx hb dX1_hit_72 rfl (lv_at hl 2 rfl) ?_
    exact lX1_hit_73 C hE hA hret 5 l2 l1 l2 l3 l4 l6 l7 v_gw q9 ⟨hP, hD⟩ hS _ (lv_sub hl [0, 1, 2, 3, 4, 6, 7] rfl) h
  · rw [if_neg c11] at h
    refine lv_bipush (v := 22) hx hb dX1_hit_67 (by decide) ?_
    refine lv_goto (tgt := 73) hx hb dX1_hit_69 (by decide) ?_
    exact lX1_hit_73 C hE hA hret 5 22 l1 l2 l3 l4 l6 l7 v_gw q9 ⟨hP, hD⟩ hS _ (lv_sub hl [0, 1, 2, 3, 4, 6, 7] rfl) h
set_option maxHeartbeats 4000000 in
set_option maxRecDepth 100000 in
theorem lX1_hit_28 {p : Program} {l : Launch} {e : Env} {s : State} {m : MethodId} {args : Array Value} {below : List Frame} {meth : Method} {c : Code} {Q : State → Prop} {D : va_G} {T : Nat → ClassId} {a_g a_gw a_gk : Nat} {A : Nat → Prop} {r : Int32 × (Nat → Int32) × (Nat → Int32)} (C : CallFix p m c cX1_hit 9 s args aw RX1) (hE : eK D T s) (hA : ∀ q : Nat, s.heap.size ≤ q → A q) (hret : WrRet p l e ({ frames := 3, cells := 0, slots := 0, locals := 69 } : Room) s m args below meth c Q cX1_hit .int D A [(a_g, .inr (1, [.ref a_gw, .ref a_gk])), (a_gw, .inl (T 0, 90, .inl r.2.1)), (a_gk, .inl (T 0, 18, .inl r.2.2))] r.1) (x0 : Int32) (l1 : Int32) (l2 : Int32) (l3 : Int32) (l4 : Int32) (l5 : Int32) (v_gw : Nat → Int32) (v_gk : Nat → Int32) {H : Heap} {locs : List Loc} (hPD : va_PD D A [(a_g, .inr (1, [.ref a_gw, .ref a_gk])), (a_gw, .inl (T 0, 90, .inl v_gw)), (a_gk, .inl (T 0, 18, .inl v_gk))] H) (hS : va_S A s.heap H locs) (ls : Array Slot) (hl : lv_has ls 9 [(0, .ref a_g), (1, .int l1), (2, .int l2), (3, .int l3), (4, .int l4), (5, .int l5)]) (h : fX1_hit_28 x0 l1 l2 l3 l4 l5 v_gw v_gk = some r) : W p l e ({ frames := 3, cells := 0, slots := 0, locals := 69 } : Room) s m args below meth c H locs 0 0 Q (F0 m 28 ls [.int x0]) := by
  have hx := C.1
  have hb := C.2.1
  obtain ⟨hP, hD⟩ := hPD
  unfold fX1_hit_28 at h
  refine lv_istore (lv' := [(6, .int x0), (0, .ref a_g), (1, .int l1), (2, .int l2), (3, .int l3), (4, .int l4), (5, .int l5)]) hx hb dX1_hit_28 hl (by decide) rfl (fun ls hl => ?_)
  refine lv_aload_n hx hb dX1_hit_30 rfl (lv_at hl 1 rfl) ?_
  refine lv_iload_n hx hb dX1_hit_31 rfl (lv_at hl 2 rfl) ?_
  refine lv_iconst (v := 0) hx hb dX1_hit_32 (by decide) ?_
  replace h := bnd h; obtain ⟨q4, e5, h⟩ := h
  refine rdV C hE hP (kX1_of l D T a_g a_gw a_gk v_gw l1 0 q4 e5) mX1_of qLX1_32 [0, 1] 0 rfl rfl rfl rfl ⟨rfl, rfl⟩ ⟨Nat.le_of_ble_eq_true rfl, Nat.le_of_ble_eq_true rfl⟩ rfl hl.1 rfl (Nat.le_of_ble_eq_true rfl) dX1_hit_33 ⟨Nat.le_of_ble_eq_true rfl, Nat.le_of_ble_eq_true rfl⟩ ?_
  refine lv_istore (lv' := [(7, .int q4), (6, .int x0), (0, .ref a_g), (1, .int l1), (2, .int l2), (3, .int l3), (4, .int l4), (5, .int l5)]) hx hb dX1_hit_36 hl (by decide) rfl (fun ls hl => ?_)
  refine lv_aload_n hx hb dX1_hit_38 rfl (lv_at hl 2 rfl) ?_
  refine lv_iload_n hx hb dX1_hit_39 rfl (lv_at hl 3 rfl) ?_
  refine lv_iload hx hb dX1_hit_40 (lv_at hl 6 rfl) ?_
  replace h := bnd h; obtain ⟨q6, e7, h⟩ := h
  refine wrVv (ws1 := [(a_g, .inr (1, [.ref a_gw, .ref a_gk])), (a_gw, .inl (T 0, 90, .inl q6.1)), (a_gk, .inl (T 0, 18, .inl q6.2))]) C hE hP hD hS hA (kX1_countStrike l D T a_g a_gw a_gk v_gw v_gk l1 l4 _ q6 e7) mX1_countStrike qLX1_75 [0, 1, 2] [] 0 rfl rfl rfl rfl rfl rfl rfl rfl rfl ⟨rfl, rfl⟩ ⟨Nat.le_of_ble_eq_true rfl, Nat.le_of_ble_eq_true rfl⟩ rfl hl.1 rfl (Nat.le_of_ble_eq_true rfl) dX1_hit_42 ⟨Nat.le_of_ble_eq_true rfl, Nat.le_of_ble_eq_true rfl⟩ ?_; clear hP hD hS; intro H locs hP hD hS
  refine lv_aload_n hx hb dX1_hit_45 rfl (lv_at hl 2 rfl) ?_
  refine lv_bipush (v := 11) hx hb dX1_hit_46 (by decide) ?_
  refine lv_iload_n hx hb dX1_hit_48 rfl (lv_at hl 5 rfl) ?_
  refine lv_if_eq (tgt := 56) hx hb dX1_hit_49 (by decide) (fun c8 => ?_) (fun c8 => ?_)
  · rw [if_pos c8] at h
    refine lv_iconst (v := 0) hx hb dX1_hit_56 (by decide) ?_
    exact lX1_hit_57 C hE hA hret 11 0 l1 l2 l3 l4 l5 x0 q4 q6.1 q6.2 ⟨hP, hD⟩ hS _ (lv_sub hl [2, 3, 4, 5, 6, 7, 1, 0] rfl) h
  · rw [if_neg c8] at h
    refine lv_iconst (v := 1) hx hb dX1_hit_52 (by decide) ?_
    refine lv_goto (tgt := 57) hx hb dX1_hit_53 (by decide) ?_
    exact lX1_hit_57 C hE hA hret 11 1 l1 l2 l3 l4 l5 x0 q4 q6.1 q6.2 ⟨hP, hD⟩ hS _ (lv_sub hl [2, 3, 4, 5, 6, 7, 1, 0] rfl) h
set_option maxHeartbeats 4000000 in
set_option maxRecDepth 100000 in
theorem lX1_hit_11 {p : Program} {l : Launch} {e : Env} {s : State} {m : MethodId} {args : Array Value} {below : List Frame} {meth : Method} {c : Code} {Q : State → Prop} {D : va_G} {T : Nat → ClassId} {a_g a_gw a_gk : Nat} {A : Nat → Prop} {r : Int32 × (Nat → Int32) × (Nat → Int32)} (C : CallFix p m c cX1_hit 9 s args aw RX1) (hE : eK D T s) (hA : ∀ q : Nat, s.heap.size ≤ q → A q) (hret : WrRet p l e ({ frames := 3, cells := 0, slots := 0, locals := 69 } : Room) s m args below meth c Q cX1_hit .int D A [(a_g, .inr (1, [.ref a_gw, .ref a_gk])), (a_gw, .inl (T 0, 90, .inl r.2.1)), (a_gk, .inl (T 0, 18, .inl r.2.2))] r.1) (x0 : Int32) (l1 : Int32) (l2 : Int32) (l3 : Int32) (l4 : Int32) (v_gw : Nat → Int32) (v_gk : Nat → Int32) {H : Heap} {locs : List Loc} (hPD : va_PD D A [(a_g, .inr (1, [.ref a_gw, .ref a_gk])), (a_gw, .inl (T 0, 90, .inl v_gw)), (a_gk, .inl (T 0, 18, .inl v_gk))] H) (hS : va_S A s.heap H locs) (ls : Array Slot) (hl : lv_has ls 9 [(0, .ref a_g), (1, .int l1), (2, .int l2), (3, .int l3), (4, .int l4)]) (h : fX1_hit_11 x0 l1 l2 l3 l4 v_gw v_gk = some r) : W p l e ({ frames := 3, cells := 0, slots := 0, locals := 69 } : Room) s m args below meth c H locs 0 0 Q (F0 m 11 ls [.int x0]) := by
  have hx := C.1
  have hb := C.2.1
  obtain ⟨hP, hD⟩ := hPD
  unfold fX1_hit_11 at h
  refine lv_istore (lv' := [(5, .int x0), (0, .ref a_g), (1, .int l1), (2, .int l2), (3, .int l3), (4, .int l4)]) hx hb dX1_hit_11 hl (by decide) rfl (fun ls hl => ?_)
  refine lv_iload hx hb dX1_hit_13 (lv_at hl 0 rfl) ?_
  refine lv_if_eq (tgt := 27) hx hb dX1_hit_15 (by decide) (fun c2 => ?_) (fun c2 => ?_)
  · rw [if_pos c2] at h
    refine lv_iconst (v := 0) hx hb dX1_hit_27 (by decide) ?_
    exact lX1_hit_28 C hE hA hret 0 l1 l2 l3 l4 x0 v_gw v_gk ⟨hP, hD⟩ hS _ (lv_sub hl [1, 2, 3, 4, 5, 0] rfl) h
  · rw [if_neg c2] at h
    refine lv_iload hx hb dX1_hit_18 (lv_at hl 5 rfl) ?_
    refine lv_if_ne (tgt := 27) hx hb dX1_hit_20 (by decide) (fun c3 => ?_) (fun c3 => ?_)
    · rw [if_neg c3] at h
      refine lv_iconst (v := 0) hx hb dX1_hit_27 (by decide) ?_
      exact lX1_hit_28 C hE hA hret 0 l1 l2 l3 l4 x0 v_gw v_gk ⟨hP, hD⟩ hS _ (lv_sub hl [1, 2, 3, 4, 5, 0] rfl) h
    · rw [if_pos c3] at h
      refine lv_iconst (v := 1) hx hb dX1_hit_23 (by decide) ?_
      refine lv_goto (tgt := 28) hx hb dX1_hit_24 (by decide) ?_
      exact lX1_hit_28 C hE hA hret 1 l1 l2 l3 l4 x0 v_gw v_gk ⟨hP, hD⟩ hS _ (lv_sub hl [1, 2, 3, 4, 5, 0] rfl) h
set_option maxHeartbeats 4000000 in
set_option maxRecDepth 100000 in
theorem kX1_hit (l : Launch) (D : va_G) (T : Nat → ClassId) (a_g a_gw a_gk : Nat) (v_gw : Nat → Int32) (v_gk : Nat → Int32) (p0 : Int32) (p1 : Int32) (p2 : Int32) (p3 : Int32) (sz : Nat) (r : Int32 × (Nat → Int32) × (Nat → Int32)) (h : fX1_hit v_gw v_gk p0 p1 p2 p3 = some r) : WrI l yX1_hit cX1_hit 9 .int ({ frames := 3, cells := 0, slots := 0, locals := 69 } : Room) D T sz [(a_g, .inr (1, [.ref a_gw, .ref a_gk])), (a_gw, .inl (T 0, 90, .inl v_gw)), (a_gk, .inl (T 0, 18, .inl v_gk))] [(a_g, .inr (1, [.ref a_gw, .ref a_gk])), (a_gw, .inl (T 0, 90, .inl r.2.1)), (a_gk, .inl (T 0, 18, .inl r.2.2))] [.ref a_g, .int p0, .int p1, .int p2, .int p3] r.1 := by
  unfold fX1_hit at h
  refine wrMet (by decide +kernel) rfl (fun p e s m args below meth c Q A C hE hA hP hD hS hret ls hl => ?_)
  have hx := C.1
  have hb := C.2.1
  have hl : lv_has ls 9 [(0, .ref a_g), (1, .int p0), (2, .int p1), (3, .int p2), (4, .int p3)] := hl
  refine lv_iload_n hx hb dX1_hit_0 rfl (lv_at hl 2 rfl) ?_
  refine lv_bipush (v := 45) hx hb dX1_hit_1 (by decide) ?_
  refine lv_icmp_lt (tgt := 10) hx hb dX1_hit_3 (by decide) (fun c1 => ?_) (fun c1 => ?_)
  · rw [if_pos c1] at h
    refine lv_iconst (v := 0) hx hb dX1_hit_10 (by decide) ?_
    exact lX1_hit_11 C hE hA hret 0 p0 p1 p2 p3 v_gw v_gk ⟨hP, hD⟩ hS _ (lv_sub hl [0, 1, 2, 3, 4] rfl) h
  · rw [if_neg c1] at h
    refine lv_iconst (v := 1) hx hb dX1_hit_6 (by decide) ?_
    refine lv_goto (tgt := 11) hx hb dX1_hit_7 (by decide) ?_
    exact lX1_hit_11 C hE hA hret 1 p0 p1 p2 p3 v_gw v_gk ⟨hP, hD⟩ hS _ (lv_sub hl [0, 1, 2, 3, 4] rfl) h

def fX7_hitBuoy (f_net : Int32) (v_gw : Nat → Int32) (v_gk : Nat → Int32) (p0 : Int32) (p1 : Int32) (p2 : Int32) : Option (Int32 × Int32 × (Nat → Int32) × (Nat → Int32)) :=
  (fX1_isFoulBy v_gw v_gk p0).bind fun q1 =>
  (fX0_goByCells f_net v_gw v_gk p0 p1 p2).bind fun q3 =>
  (fX1_hit v_gw v_gk p0 q3.1 (fX0_isNetted q3.2) q1).bind fun q5 =>
  some (q5.1, q3.2, q5.2.1, q5.2.2)
set_option maxHeartbeats 4000000 in
set_option maxRecDepth 100000 in
theorem kX7_hitBuoy (l : Launch) (D : va_G) (T : Nat → ClassId) (a_g a_gw a_gk a_f a_x a_b a_v a_h a_r a_u a_t a_n : Nat) (f_net : Int32) (x_sav : Int32) (x_err : Int32) (x_rea : Int32) (x_det : Int32) (x_com : Int32) (v_gw : Nat → Int32) (v_gk : Nat → Int32) (p0 : Int32) (p1 : Int32) (p2 : Int32) (sz : Nat) (r : Int32 × Int32 × (Nat → Int32) × (Nat → Int32)) (h : fX7_hitBuoy f_net v_gw v_gk p0 p1 p2 = some r) : WrI l yX7_hitBuoy cX7_hitBuoy 6 .int ({ frames := 4, cells := 0, slots := 0, locals := 97 } : Room) D T sz [(a_g, .inr (1, [.ref a_gw, .ref a_gk])), (a_f, .inr (0, [.ref a_g, .int f_net])), (a_x, .inr (7, [.ref a_g, .ref a_b, .ref a_v, .ref a_h, .ref a_r, .ref a_f, .ref a_u, .ref a_t, .ref a_n, .int x_sav, .int x_err, .int x_rea, .int x_det, .int x_com])), (a_gw, .inl (T 0, 90, .inl v_gw)), (a_gk, .inl (T 0, 18, .inl v_gk))] [(a_g, .inr (1, [.ref a_gw, .ref a_gk])), (a_f, .inr (0, [.ref a_g, .int r.2.1])), (a_x, .inr (7, [.ref a_g, .ref a_b, .ref a_v, .ref a_h, .ref a_r, .ref a_f, .ref a_u, .ref a_t, .ref a_n, .int x_sav, .int x_err, .int x_rea, .int x_det, .int x_com])), (a_gw, .inl (T 0, 90, .inl r.2.2.1)), (a_gk, .inl (T 0, 18, .inl r.2.2.2))] [.ref a_x, .int p0, .int p1, .int p2] r.1 := by
  unfold fX7_hitBuoy at h
  refine wrMet (by decide +kernel) rfl (fun p e s m args below meth c Q A C hE hA hP hD hS hret ls hl => ?_)
  have hx := C.1
  have hb := C.2.1
  have hl : lv_has ls 6 [(0, .ref a_x), (1, .int p0), (2, .int p1), (3, .int p2)] := hl
  refine lv_aload_n hx hb dX7_hitBuoy_0 rfl (lv_at hl 0 rfl) ?_
  refine getF (q0 := 2) (k0 := 0) (v := .ref a_g) C hE hP inA7 rfl rfl (by decide) qFX7_10 rfl rfl dX7_hitBuoy_1 ?_
  refine lv_iload_n hx hb dX7_hitBuoy_4 rfl (lv_at hl 1 rfl) ?_
  replace h := bnd h; obtain ⟨q1, e2, h⟩ := h
  refine rdV C hE hP (kX1_isFoulBy l D T a_g a_gw a_gk v_gw v_gk p0 q1 e2) mX1_isFoulBy qLX7_224 [0, 3, 4] 0 rfl rfl rfl rfl ⟨rfl, rfl⟩ ⟨Nat.le_of_ble_eq_true rfl, Nat.le_of_ble_eq_true rfl⟩ rfl hl.1 rfl (Nat.le_of_ble_eq_true rfl) dX7_hitBuoy_5 ⟨Nat.le_of_ble_eq_true rfl, Nat.le_of_ble_eq_true rfl⟩ ?_
  refine lv_istore (lv' := [(4, .int q1), (0, .ref a_x), (1, .int p0), (2, .int p1), (3, .int p2)]) hx hb dX7_hitBuoy_8 hl (by decide) rfl (fun ls hl => ?_)
  refine lv_aload_n hx hb dX7_hitBuoy_10 rfl (lv_at hl 1 rfl) ?_
  refine getF (q0 := 2) (k0 := 5) (v := .ref a_f) C hE hP inA7 rfl rfl (by decide) qFX7_41 rfl rfl dX7_hitBuoy_11 ?_
  refine lv_iload_n hx hb dX7_hitBuoy_14 rfl (lv_at hl 2 rfl) ?_
  refine lv_iload_n hx hb dX7_hitBuoy_15 rfl (lv_at hl 3 rfl) ?_
  refine lv_iload_n hx hb dX7_hitBuoy_16 rfl (lv_at hl 4 rfl) ?_
  replace h := bnd h; obtain ⟨q3, e4, h⟩ := h
  refine wrVi (ws1 := [(a_g, .inr (1, [.ref a_gw, .ref a_gk])), (a_f, .inr (0, [.ref a_g, .int q3.2])), (a_x, .inr (7, [.ref a_g, .ref a_b, .ref a_v, .ref a_h, .ref a_r, .ref a_f, .ref a_u, .ref a_t, .ref a_n, .int x_sav, .int x_err, .int x_rea, .int x_det, .int x_com])), (a_gw, .inl (T 0, 90, .inl v_gw)), (a_gk, .inl (T 0, 18, .inl v_gk))]) C hE hP hD hS hA (kX0_goByCells l D T a_g a_gw a_gk a_f f_net v_gw v_gk p0 p1 p2 _ q3 e4) mX0_goByCells qLX7_417 [0, 1, 3, 4] [2] 1 rfl rfl rfl rfl rfl rfl rfl rfl rfl ⟨rfl, rfl⟩ ⟨Nat.le_of_ble_eq_true rfl, Nat.le_of_ble_eq_true rfl⟩ rfl hl.1 rfl (Nat.le_of_ble_eq_true rfl) dX7_hitBuoy_17 ⟨Nat.le_of_ble_eq_true rfl, Nat.le_of_ble_eq_true rfl⟩ ?_; clear hP hD hS; intro H locs hP hD hS
  refine lv_istore (lv' := [(5, .int q3.1), (4, .int q1), (0, .ref a_x), (1, .int p0), (2, .int p1), (3, .int p2)]) hx hb dX7_hitBuoy_20 hl (by decide) rfl (fun ls hl => ?_)
  refine lv_aload_n hx hb dX7_hitBuoy_22 rfl (lv_at hl 2 rfl) ?_
  refine getF (q0 := 2) (k0 := 0) (v := .ref a_g) C hE hP inA7 rfl rfl (by decide) qFX7_10 rfl rfl dX7_hitBuoy_23 ?_
  refine lv_iload_n hx hb dX7_hitBuoy_26 rfl (lv_at hl 3 rfl) ?_
  refine lv_iload hx hb dX7_hitBuoy_27 (lv_at hl 0 rfl) ?_
  refine lv_aload_n hx hb dX7_hitBuoy_29 rfl (lv_at hl 2 rfl) ?_
  refine getF (q0 := 2) (k0 := 5) (v := .ref a_f) C hE hP inA7 rfl rfl (by decide) qFX7_41 rfl rfl dX7_hitBuoy_30 ?_
  refine rdV C hE hP (kX0_isNetted l D T a_f a_g q3.2) mX0_isNetted qLX7_420 [1] 1 rfl rfl rfl rfl ⟨rfl, rfl⟩ ⟨Nat.le_of_ble_eq_true rfl, Nat.le_of_ble_eq_true rfl⟩ rfl hl.1 rfl (Nat.le_of_ble_eq_true rfl) dX7_hitBuoy_33 ⟨Nat.le_of_ble_eq_true rfl, Nat.le_of_ble_eq_true rfl⟩ ?_
  refine lv_iload hx hb dX7_hitBuoy_36 (lv_at hl 1 rfl) ?_
  replace h := bnd h; obtain ⟨q5, e6, h⟩ := h
  refine wrVi (ws1 := [(a_g, .inr (1, [.ref a_gw, .ref a_gk])), (a_f, .inr (0, [.ref a_g, .int q3.2])), (a_x, .inr (7, [.ref a_g, .ref a_b, .ref a_v, .ref a_h, .ref a_r, .ref a_f, .ref a_u, .ref a_t, .ref a_n, .int x_sav, .int x_err, .int x_rea, .int x_det, .int x_com])), (a_gw, .inl (T 0, 90, .inl q5.2.1)), (a_gk, .inl (T 0, 18, .inl q5.2.2))]) C hE hP hD hS hA (kX1_hit l D T a_g a_gw a_gk v_gw v_gk p0 q3.1 (fX0_isNetted q3.2) q1 _ q5 e6) mX1_hit qLX7_423 [0, 3, 4] [1, 2] 0 rfl rfl rfl rfl rfl rfl rfl rfl rfl ⟨rfl, rfl⟩ ⟨Nat.le_of_ble_eq_true rfl, Nat.le_of_ble_eq_true rfl⟩ rfl hl.1 rfl (Nat.le_of_ble_eq_true rfl) dX7_hitBuoy_38 ⟨Nat.le_of_ble_eq_true rfl, Nat.le_of_ble_eq_true rfl⟩ ?_; clear hP hD hS; intro H locs hP hD hS
  replace h := Option.some.inj h
  exact hret _ _ _ _ _ _ dX7_hitBuoy_41 rfl (by rw [← h] <;> rfl) (by rw [← h]; exact hP) hS

def fX6_songFault (u_det : Int32) (v_gw : Nat → Int32) (v_gk : Nat → Int32) (p0 : Int32) : Option (Int32 × Int32) :=
  (fX6_playFault u_det v_gw v_gk p0).bind fun q1 =>
  if q1.1 = 0 then
    (fX1_of v_gw p0 5).bind fun q4 =>
    if q4 = 1 then
      (fX6_refuse q1.2 11 p0).bind fun q9 =>
      some (q9.1, q9.2)
    else
      (fX6_breathFault q1.2 v_gw p0 1).bind fun q7 =>
      some (q7.1, q7.2)
  else
    some (q1.1, q1.2)
set_option maxHeartbeats 4000000 in
set_option maxRecDepth 100000 in
theorem kX6_songFault (l : Launch) (D : va_G) (T : Nat → ClassId) (a_g a_gw a_gk a_u a_r : Nat) (u_det : Int32) (v_gw : Nat → Int32) (v_gk : Nat → Int32) (p0 : Int32) (sz : Nat) (r : Int32 × Int32) (h : fX6_songFault u_det v_gw v_gk p0 = some r) : WrI l yX6_songFault cX6_songFault 3 .int ({ frames := 3, cells := 0, slots := 0, locals := 65 } : Room) D T sz [(a_g, .inr (1, [.ref a_gw, .ref a_gk])), (a_u, .inr (6, [.ref a_g, .ref a_r, .int u_det])), (a_gw, .inl (T 0, 90, .inl v_gw)), (a_gk, .inl (T 0, 18, .inl v_gk))] [(a_g, .inr (1, [.ref a_gw, .ref a_gk])), (a_u, .inr (6, [.ref a_g, .ref a_r, .int r.2])), (a_gw, .inl (T 0, 90, .inl v_gw)), (a_gk, .inl (T 0, 18, .inl v_gk))] [.ref a_u, .int p0] r.1 := by
  unfold fX6_songFault at h
  refine wrMet (by decide +kernel) rfl (fun p e s m args below meth c Q A C hE hA hP hD hS hret ls hl => ?_)
  have hx := C.1
  have hb := C.2.1
  have hl : lv_has ls 3 [(0, .ref a_u), (1, .int p0)] := hl
  refine lv_aload_n hx hb dX6_songFault_0 rfl (lv_at hl 0 rfl) ?_
  refine lv_iload_n hx hb dX6_songFault_1 rfl (lv_at hl 1 rfl) ?_
  replace h := bnd h; obtain ⟨q1, e2, h⟩ := h
  refine wrVi (ws1 := [(a_g, .inr (1, [.ref a_gw, .ref a_gk])), (a_u, .inr (6, [.ref a_g, .ref a_r, .int q1.2])), (a_gw, .inl (T 0, 90, .inl v_gw)), (a_gk, .inl (T 0, 18, .inl v_gk))]) C hE hP hD hS hA (kX6_playFault l D T a_g a_gw a_gk a_u a_r u_det v_gw v_gk p0 _ q1 e2) mX6_playFault qLX6_56 [0, 1, 2, 3] [] 1 rfl rfl rfl rfl rfl rfl rfl rfl rfl ⟨rfl, rfl⟩ ⟨Nat.le_of_ble_eq_true rfl, Nat.le_of_ble_eq_true rfl⟩ rfl hl.1 rfl (Nat.le_of_ble_eq_true rfl) dX6_songFault_2 ⟨Nat.le_of_ble_eq_true rfl, Nat.le_of_ble_eq_true rfl⟩ ?_; clear hP hD hS; intro H locs hP hD hS
  refine lv_istore_n (lv' := [(2, .int q1.1), (0, .ref a_u), (1, .int p0)]) hx hb dX6_songFault_5 rfl hl (by decide) rfl (fun ls hl => ?_)
  refine lv_iload_n hx hb dX6_songFault_6 rfl (lv_at hl 0 rfl) ?_
  refine lv_if_eq (tgt := 12) hx hb dX6_songFault_7 (by decide) (fun c3 => ?_) (fun c3 => ?_)
  · replace h := ite_t c3 h
    refine lv_aload_n hx hb dX6_songFault_12 rfl (lv_at hl 1 rfl) ?_
    refine getF (q0 := 1) (k0 := 0) (v := .ref a_g) C hE hP inA6 rfl rfl (by decide) qFX6_15 rfl rfl dX6_songFault_13 ?_
    refine lv_iload_n hx hb dX6_songFault_16 rfl (lv_at hl 2 rfl) ?_
    refine lv_iconst (v := 5) hx hb dX6_songFault_17 (by decide) ?_
    replace h := bnd h; obtain ⟨q4, e5, h⟩ := h
    refine rdV C hE hP (kX1_of l D T a_g a_gw a_gk v_gw p0 5 q4 e5) mX1_of qLX6_62 [0, 2] 0 rfl rfl rfl rfl ⟨rfl, rfl⟩ ⟨Nat.le_of_ble_eq_true rfl, Nat.le_of_ble_eq_true rfl⟩ rfl hl.1 rfl (Nat.le_of_ble_eq_true rfl) dX6_songFault_18 ⟨Nat.le_of_ble_eq_true rfl, Nat.le_of_ble_eq_true rfl⟩ ?_
    refine lv_iconst (v := 1) hx hb dX6_songFault_21 (by decide) ?_
    refine lv_icmp_ne (tgt := 35) hx hb dX6_songFault_22 (by decide) (fun c6 => ?_) (fun c6 => ?_)
    · replace h := ite_f c6 h
      refine lv_aload_n hx hb dX6_songFault_35 rfl (lv_at hl 1 rfl) ?_
      refine lv_iload_n hx hb dX6_songFault_36 rfl (lv_at hl 2 rfl) ?_
      refine lv_iconst (v := 1) hx hb dX6_songFault_37 (by decide) ?_
      replace h := bnd h; obtain ⟨q7, e8, h⟩ := h
      refine wrVi (ws1 := [(a_g, .inr (1, [.ref a_gw, .ref a_gk])), (a_u, .inr (6, [.ref a_g, .ref a_r, .int q7.2])), (a_gw, .inl (T 0, 90, .inl v_gw)), (a_gk, .inl (T 0, 18, .inl v_gk))]) C hE hP hD hS hA (kX6_breathFault l D T a_g a_gw a_gk a_u a_r q1.2 v_gw p0 1 _ q7 e8) mX6_breathFault qLX6_86 [0, 1, 2] [3] 1 rfl rfl rfl rfl rfl rfl rfl rfl rfl ⟨rfl, rfl⟩ ⟨Nat.le_of_ble_eq_true rfl, Nat.le_of_ble_eq_true rfl⟩ rfl hl.1 rfl (Nat.le_of_ble_eq_true rfl) dX6_songFault_38 ⟨Nat.le_of_ble_eq_true rfl, Nat.le_of_ble_eq_true rfl⟩ ?_; clear hP hD hS; intro H locs hP hD hS
      replace h := Option.some.inj h
      exact hret _ _ _ _ _ _ dX6_songFault_41 rfl (by rw [← h] <;> rfl) (by rw [← h]; exact hP) hS
    · replace h := ite_t c6 h
      refine lv_aload_n hx hb dX6_songFault_25 rfl (lv_at hl 1 rfl) ?_
      refine lv_bipush (v := 11) hx hb dX6_songFault_26 (by decide) ?_
      refine lv_iload_n hx hb dX6_songFault_28 rfl (lv_at hl 2 rfl) ?_
      replace h := bnd h; obtain ⟨q9, e10, h⟩ := h
      refine wrVi (ws1 := [(a_g, .inr (1, [.ref a_gw, .ref a_gk])), (a_u, .inr (6, [.ref a_g, .ref a_r, .int q9.2])), (a_gw, .inl (T 0, 90, .inl v_gw)), (a_gk, .inl (T 0, 18, .inl v_gk))]) C hE hP hD hS hA (kX6_refuse l D T a_u a_g a_r q1.2 11 p0 _ q9 e10) mX6_refuse qLX6_33 [1] [0, 2, 3] 1 rfl rfl rfl rfl rfl rfl rfl rfl rfl ⟨rfl, rfl⟩ ⟨Nat.le_of_ble_eq_true rfl, Nat.le_of_ble_eq_true rfl⟩ rfl hl.1 rfl (Nat.le_of_ble_eq_true rfl) dX6_songFault_29 ⟨Nat.le_of_ble_eq_true rfl, Nat.le_of_ble_eq_true rfl⟩ ?_; clear hP hD hS; intro H locs hP hD hS
      refine lv_goto (tgt := 41) hx hb dX6_songFault_32 (by decide) ?_
      replace h := Option.some.inj h
      exact hret _ _ _ _ _ _ dX6_songFault_41 rfl (by rw [← h] <;> rfl) (by rw [← h]; exact hP) hS
  · replace h := ite_f c3 h
    refine lv_iload_n hx hb dX6_songFault_10 rfl (lv_at hl 0 rfl) ?_
    replace h := Option.some.inj h
    exact hret _ _ _ _ _ _ dX6_songFault_11 rfl (by rw [← h] <;> rfl) (by rw [← h]; exact hP) hS

def fX1_startSong (v_gw : Nat → Int32) (v_gk : Nat → Int32) (p0 : Int32) : Option (Int32 × (Nat → Int32) × (Nat → Int32)) :=
  (fX1_add v_gw p0 3 (-1)).bind fun q1 =>
  (fX1_set q1 p0 5 1).bind fun q3 =>
  (fX1_of q3 p0 3).bind fun q5 =>
  (fX1_endStroke q3 v_gk).bind fun q7 =>
  some (q5, q7.2.1, q7.2.2)
set_option maxHeartbeats 4000000 in
set_option maxRecDepth 100000 in
theorem kX1_startSong (l : Launch) (D : va_G) (T : Nat → ClassId) (a_g a_gw a_gk : Nat) (v_gw : Nat → Int32) (v_gk : Nat → Int32) (p0 : Int32) (sz : Nat) (r : Int32 × (Nat → Int32) × (Nat → Int32)) (h : fX1_startSong v_gw v_gk p0 = some r) : WrI l yX1_startSong cX1_startSong 3 .int ({ frames := 3, cells := 0, slots := 0, locals := 66 } : Room) D T sz [(a_g, .inr (1, [.ref a_gw, .ref a_gk])), (a_gw, .inl (T 0, 90, .inl v_gw)), (a_gk, .inl (T 0, 18, .inl v_gk))] [(a_g, .inr (1, [.ref a_gw, .ref a_gk])), (a_gw, .inl (T 0, 90, .inl r.2.1)), (a_gk, .inl (T 0, 18, .inl r.2.2))] [.ref a_g, .int p0] r.1 := by
  unfold fX1_startSong at h
  refine wrMet (by decide +kernel) rfl (fun p e s m args below meth c Q A C hE hA hP hD hS hret ls hl => ?_)
  have hx := C.1
  have hb := C.2.1
  have hl : lv_has ls 3 [(0, .ref a_g), (1, .int p0)] := hl
  refine lv_aload_n hx hb dX1_startSong_0 rfl (lv_at hl 0 rfl) ?_
  refine lv_iload_n hx hb dX1_startSong_1 rfl (lv_at hl 1 rfl) ?_
  refine lv_iconst (v := 3) hx hb dX1_startSong_2 (by decide) ?_
  refine lv_iconst (v := (-1)) hx hb dX1_startSong_3 (by decide) ?_
  replace h := bnd h; obtain ⟨q1, e2, h⟩ := h
  refine wrVv (ws1 := [(a_g, .inr (1, [.ref a_gw, .ref a_gk])), (a_gw, .inl (T 0, 90, .inl q1)), (a_gk, .inl (T 0, 18, .inl v_gk))]) C hE hP hD hS hA (kX1_add l D T a_g a_gw a_gk v_gw p0 3 (-1) _ q1 e2) mX1_add qLX1_72 [0, 1] [2] 0 rfl rfl rfl rfl rfl rfl rfl rfl rfl ⟨rfl, rfl⟩ ⟨Nat.le_of_ble_eq_true rfl, Nat.le_of_ble_eq_true rfl⟩ rfl hl.1 rfl (Nat.le_of_ble_eq_true rfl) dX1_startSong_4 ⟨Nat.le_of_ble_eq_true rfl, Nat.le_of_ble_eq_true rfl⟩ ?_; clear hP hD hS; intro H locs hP hD hS
  refine lv_aload_n hx hb dX1_startSong_7 rfl (lv_at hl 0 rfl) ?_
  refine lv_iload_n hx hb dX1_startSong_8 rfl (lv_at hl 1 rfl) ?_
  refine lv_iconst (v := 5) hx hb dX1_startSong_9 (by decide) ?_
  refine lv_iconst (v := 1) hx hb dX1_startSong_10 (by decide) ?_
  replace h := bnd h; obtain ⟨q3, e4, h⟩ := h
  refine wrVv (ws1 := [(a_g, .inr (1, [.ref a_gw, .ref a_gk])), (a_gw, .inl (T 0, 90, .inl q3)), (a_gk, .inl (T 0, 18, .inl v_gk))]) C hE hP hD hS hA (kX1_set l D T a_g a_gw a_gk q1 p0 5 1 _ q3 e4) mX1_set qLX1_36 [0, 1] [2] 0 rfl rfl rfl rfl rfl rfl rfl rfl rfl ⟨rfl, rfl⟩ ⟨Nat.le_of_ble_eq_true rfl, Nat.le_of_ble_eq_true rfl⟩ rfl hl.1 rfl (Nat.le_of_ble_eq_true rfl) dX1_startSong_11 ⟨Nat.le_of_ble_eq_true rfl, Nat.le_of_ble_eq_true rfl⟩ ?_; clear hP hD hS; intro H locs hP hD hS
  refine lv_aload_n hx hb dX1_startSong_14 rfl (lv_at hl 0 rfl) ?_
  refine lv_iload_n hx hb dX1_startSong_15 rfl (lv_at hl 1 rfl) ?_
  refine lv_iconst (v := 3) hx hb dX1_startSong_16 (by decide) ?_
  replace h := bnd h; obtain ⟨q5, e6, h⟩ := h
  refine rdV C hE hP (kX1_of l D T a_g a_gw a_gk q3 p0 3 q5 e6) mX1_of qLX1_32 [0, 1] 0 rfl rfl rfl rfl ⟨rfl, rfl⟩ ⟨Nat.le_of_ble_eq_true rfl, Nat.le_of_ble_eq_true rfl⟩ rfl hl.1 rfl (Nat.le_of_ble_eq_true rfl) dX1_startSong_17 ⟨Nat.le_of_ble_eq_true rfl, Nat.le_of_ble_eq_true rfl⟩ ?_
  refine lv_istore_n (lv' := [(2, .int q5), (0, .ref a_g), (1, .int p0)]) hx hb dX1_startSong_20 rfl hl (by decide) rfl (fun ls hl => ?_)
  refine lv_aload_n hx hb dX1_startSong_21 rfl (lv_at hl 1 rfl) ?_
  replace h := bnd h; obtain ⟨q7, e8, h⟩ := h
  refine wrVi (ws1 := [(a_g, .inr (1, [.ref a_gw, .ref a_gk])), (a_gw, .inl (T 0, 90, .inl q7.2.1)), (a_gk, .inl (T 0, 18, .inl q7.2.2))]) C hE hP hD hS hA (kX1_endStroke l D T a_g a_gw a_gk q3 v_gk _ q7 e8) mX1_endStroke qLX1_68 [0, 1, 2] [] 0 rfl rfl rfl rfl rfl rfl rfl rfl rfl ⟨rfl, rfl⟩ ⟨Nat.le_of_ble_eq_true rfl, Nat.le_of_ble_eq_true rfl⟩ rfl hl.1 rfl (Nat.le_of_ble_eq_true rfl) dX1_startSong_22 ⟨Nat.le_of_ble_eq_true rfl, Nat.le_of_ble_eq_true rfl⟩ ?_; clear hP hD hS; intro H locs hP hD hS
  refine lv_pop hx hb dX1_startSong_25 rfl ?_
  refine lv_iload_n hx hb dX1_startSong_26 rfl (lv_at hl 0 rfl) ?_
  replace h := Option.some.inj h
  exact hret _ _ _ _ _ _ dX1_startSong_27 rfl (by rw [← h] <;> rfl) (by rw [← h]; exact hP) hS

def fX6_passFault (u_det : Int32) (v_gk : Nat → Int32) : Option (Int32 × Int32) :=
  (fX1_isOver v_gk).bind fun q1 =>
  if q1 = 0 then
    some (0, u_det)
  else
    (fX1_count v_gk 1).bind fun q4 =>
    (fX6_refuse u_det 2 q4).bind fun q6 =>
    some (q6.1, q6.2)
set_option maxHeartbeats 4000000 in
set_option maxRecDepth 100000 in
theorem kX6_passFault (l : Launch) (D : va_G) (T : Nat → ClassId) (a_g a_gw a_gk a_u a_r : Nat) (u_det : Int32) (v_gk : Nat → Int32) (sz : Nat) (r : Int32 × Int32) (h : fX6_passFault u_det v_gk = some r) : WrI l yX6_passFault cX6_passFault 1 .int ({ frames := 2, cells := 0, slots := 0, locals := 41 } : Room) D T sz [(a_g, .inr (1, [.ref a_gw, .ref a_gk])), (a_u, .inr (6, [.ref a_g, .ref a_r, .int u_det])), (a_gk, .inl (T 0, 18, .inl v_gk))] [(a_g, .inr (1, [.ref a_gw, .ref a_gk])), (a_u, .inr (6, [.ref a_g, .ref a_r, .int r.2])), (a_gk, .inl (T 0, 18, .inl v_gk))] [.ref a_u] r.1 := by
  unfold fX6_passFault at h
  refine wrMet (by decide +kernel) rfl (fun p e s m args below meth c Q A C hE hA hP hD hS hret ls hl => ?_)
  have hx := C.1
  have hb := C.2.1
  have hl : lv_has ls 1 [(0, .ref a_u)] := hl
  refine lv_aload_n hx hb dX6_passFault_0 rfl (lv_at hl 0 rfl) ?_
  refine getF (q0 := 1) (k0 := 0) (v := .ref a_g) C hE hP inA6 rfl rfl (by decide) qFX6_15 rfl rfl dX6_passFault_1 ?_
  replace h := bnd h; obtain ⟨q1, e2, h⟩ := h
  refine rdV C hE hP (kX1_isOver l D T a_g a_gw a_gk v_gk q1 e2) mX1_isOver qLX6_43 [0, 2] 0 rfl rfl rfl rfl ⟨rfl, rfl⟩ ⟨Nat.le_of_ble_eq_true rfl, Nat.le_of_ble_eq_true rfl⟩ rfl hl.1 rfl (Nat.le_of_ble_eq_true rfl) dX6_passFault_4 ⟨Nat.le_of_ble_eq_true rfl, Nat.le_of_ble_eq_true rfl⟩ ?_
  refine lv_if_eq (tgt := 26) hx hb dX6_passFault_7 (by decide) (fun c3 => ?_) (fun c3 => ?_)
  · replace h := ite_t c3 h
    refine lv_iconst (v := 0) hx hb dX6_passFault_26 (by decide) ?_
    replace h := Option.some.inj h
    exact hret _ _ _ _ _ _ dX6_passFault_27 rfl (by rw [← h] <;> rfl) (by rw [← h]; exact hP) hS
  · replace h := ite_f c3 h
    refine lv_aload_n hx hb dX6_passFault_10 rfl (lv_at hl 0 rfl) ?_
    refine lv_iconst (v := 2) hx hb dX6_passFault_11 (by decide) ?_
    refine lv_aload_n hx hb dX6_passFault_12 rfl (lv_at hl 0 rfl) ?_
    refine getF (q0 := 1) (k0 := 0) (v := .ref a_g) C hE hP inA6 rfl rfl (by decide) qFX6_15 rfl rfl dX6_passFault_13 ?_
    refine lv_iconst (v := 1) hx hb dX6_passFault_16 (by decide) ?_
    replace h := bnd h; obtain ⟨q4, e5, h⟩ := h
    refine rdV C hE hP (kX1_count l D T a_g a_gw a_gk v_gk 1 q4 e5) mX1_count qLX6_47 [0, 2] 0 rfl rfl rfl rfl ⟨rfl, rfl⟩ ⟨Nat.le_of_ble_eq_true rfl, Nat.le_of_ble_eq_true rfl⟩ rfl hl.1 rfl (Nat.le_of_ble_eq_true rfl) dX6_passFault_17 ⟨Nat.le_of_ble_eq_true rfl, Nat.le_of_ble_eq_true rfl⟩ ?_
    replace h := bnd h; obtain ⟨q6, e7, h⟩ := h
    refine wrVi (ws1 := [(a_g, .inr (1, [.ref a_gw, .ref a_gk])), (a_u, .inr (6, [.ref a_g, .ref a_r, .int q6.2])), (a_gk, .inl (T 0, 18, .inl v_gk))]) C hE hP hD hS hA (kX6_refuse l D T a_u a_g a_r u_det 2 q4 _ q6 e7) mX6_refuse qLX6_33 [1] [0, 2] 1 rfl rfl rfl rfl rfl rfl rfl rfl rfl ⟨rfl, rfl⟩ ⟨Nat.le_of_ble_eq_true rfl, Nat.le_of_ble_eq_true rfl⟩ rfl hl.1 rfl (Nat.le_of_ble_eq_true rfl) dX6_passFault_20 ⟨Nat.le_of_ble_eq_true rfl, Nat.le_of_ble_eq_true rfl⟩ ?_; clear hP hD hS; intro H locs hP hD hS
    refine lv_goto (tgt := 27) hx hb dX6_passFault_23 (by decide) ?_
    replace h := Option.some.inj h
    exact hret _ _ _ _ _ _ dX6_passFault_27 rfl (by rw [← h] <;> rfl) (by rw [← h]; exact hP) hS

def fX7_demandWhale (v_gk : Nat → Int32) (p0 : Int32) : Option Nat :=
  (fX1_has v_gk p0).bind fun q1 =>
  if q1 = 0 then
    some 3
  else
    some 0
set_option maxHeartbeats 4000000 in
set_option maxRecDepth 100000 in
theorem kX7_demandWhale (l : Launch) (hnt : l.stackTraces = false) (D : va_G) (T : Nat → ClassId) (a_g a_gw a_gk a_x a_b a_v a_h a_r a_f a_u a_t a_n : Nat) (x_sav : Int32) (x_err : Int32) (x_rea : Int32) (x_det : Int32) (x_com : Int32) (v_gk : Nat → Int32) (p0 : Int32) (sz : Nat) (r : Nat) (h : fX7_demandWhale v_gk p0 = some r) : ThV l yX7_demandWhale cX7_demandWhale 2 ({ frames := 6, cells := 1, slots := 6, locals := 90 } : Room) D T sz [(a_g, .inr (1, [.ref a_gw, .ref a_gk])), (a_x, .inr (7, [.ref a_g, .ref a_b, .ref a_v, .ref a_h, .ref a_r, .ref a_f, .ref a_u, .ref a_t, .ref a_n, .int x_sav, .int x_err, .int x_rea, .int x_det, .int x_com])), (a_gk, .inl (T 0, 18, .inl v_gk))] [(a_g, .inr (1, [.ref a_gw, .ref a_gk])), (a_x, .inr (7, [.ref a_g, .ref a_b, .ref a_v, .ref a_h, .ref a_r, .ref a_f, .ref a_u, .ref a_t, .ref a_n, .int x_sav, .int x_err, .int x_rea, .int x_det, .int x_com])), (a_gk, .inl (T 0, 18, .inl v_gk))] [.ref a_x, .int p0] r := by
  unfold fX7_demandWhale at h
  refine thMetV hnt (by decide +kernel) rfl (fun p e s m args below meth c Q A C hE hA hZ hP hD hS hret ls hl => ?_)
  have hx := C.1
  have hb := C.2.1
  have hl : lv_has ls 2 [(0, .ref a_x), (1, .int p0)] := hl
  refine lv_aload_n hx hb dX7_demandWhale_0 rfl (lv_at hl 0 rfl) ?_
  refine getF (q0 := 1) (k0 := 0) (v := .ref a_g) C hE hP inA7 rfl rfl (by decide) qFX7_10 rfl rfl dX7_demandWhale_1 ?_
  refine lv_iload_n hx hb dX7_demandWhale_4 rfl (lv_at hl 1 rfl) ?_
  replace h := bnd h; obtain ⟨q1, e2, h⟩ := h
  refine rdV C hE hP (kX1_has l D T a_g a_gw a_gk v_gk p0 q1 e2) mX1_has qLX7_384 [0, 2] 0 rfl rfl rfl rfl ⟨rfl, rfl⟩ ⟨Nat.le_of_ble_eq_true rfl, Nat.le_of_ble_eq_true rfl⟩ rfl hl.1 rfl (Nat.le_of_ble_eq_true rfl) dX7_demandWhale_5 ⟨Nat.le_of_ble_eq_true rfl, Nat.le_of_ble_eq_true rfl⟩ ?_
  refine lv_if_ne (tgt := 22) hx hb dX7_demandWhale_8 (by decide) (fun c3 => ?_) (fun c3 => ?_)
  · replace h := ite_f c3 h
    replace h := Option.some.inj h
    exact hret.1 _ _ _ _ _ _ (Nat.le_of_ble_eq_true rfl) (Nat.le_of_ble_eq_true rfl) dX7_demandWhale_22 (by rw [← h]) hP hS
  · replace h := ite_t c3 h
    replace h := Option.some.inj h
    exact hret.2.2 _ _ _ _ _ _ _ 265 269 387 _ "no such whale" (by rw [← h]; exact thrX7_265_269_3) (by decide +kernel) dX7_demandWhale_11 dX7_demandWhale_14 (Or.inr ⟨dX7_demandWhale_15, dX7_demandWhale_18, dX7_demandWhale_21⟩) (Nat.le_of_ble_eq_true rfl) (Nat.le_of_ble_eq_true rfl) (Nat.le_of_ble_eq_true rfl) (Nat.le_of_ble_eq_true rfl) (hl.1.trans C.2.2.1.symm) (by rw [← h]; exact (Nat.le_of_ble_eq_true rfl)) hP hS

def fX7_whaleOf_15 (v_gw : Nat → Int32) (v_gk : Nat → Int32) : Option (Nat × Int32) :=
  some (1, 0)
def fX7_whaleOf (v_gw : Nat → Int32) (v_gk : Nat → Int32) (p0 : Int32) (p1 : Int32) : Option (Nat × Int32) :=
  (fX7_demandWhale v_gk p0).bind fun q1 =>
  if q1 = 0 then
    if p1 < 0 then
      fX7_whaleOf_15 v_gw v_gk
    else
      if p1 < 9 then
        (fX1_of v_gw p0 p1).bind fun q5 =>
        some (0, q5)
      else
        fX7_whaleOf_15 v_gw v_gk
  else
    some (q1, 0)
set_option maxHeartbeats 4000000 in
set_option maxRecDepth 100000 in
theorem lX7_whaleOf_15 {p : Program} {l : Launch} {e : Env} {s : State} {m : MethodId} {args : Array Value} {below : List Frame} {meth : Method} {c : Code} {Q : State → Prop} {D : va_G} {T : Nat → ClassId} {a_g a_gw a_gk a_x a_b a_v a_h a_r a_f a_u a_t a_n : Nat} {x_sav : Int32} {x_err : Int32} {x_rea : Int32} {x_det : Int32} {x_com : Int32} {v_gw : Nat → Int32} {v_gk : Nat → Int32} {A : Nat → Prop} {r : Nat × Int32} (C : CallFix p m c cX7_whaleOf 3 s args aw RX7) (hE : eK D T s) (hA : ∀ q : Nat, s.heap.size ≤ q → A q) (hZ : eX l A s) (hret : ThRetI p l e ({ frames := 7, cells := 2, slots := 12, locals := 111 } : Room) s m args below meth c Q cX7_whaleOf .int D A [(a_g, .inr (1, [.ref a_gw, .ref a_gk])), (a_x, .inr (7, [.ref a_g, .ref a_b, .ref a_v, .ref a_h, .ref a_r, .ref a_f, .ref a_u, .ref a_t, .ref a_n, .int x_sav, .int x_err, .int x_rea, .int x_det, .int x_com])), (a_gw, .inl (T 0, 90, .inl v_gw)), (a_gk, .inl (T 0, 18, .inl v_gk))] r.1 r.2 ∧ ThOut p l e ({ frames := 7, cells := 2, slots := 12, locals := 111 } : Room) s m args below meth c Q D A [(a_g, .inr (1, [.ref a_gw, .ref a_gk])), (a_x, .inr (7, [.ref a_g, .ref a_b, .ref a_v, .ref a_h, .ref a_r, .ref a_f, .ref a_u, .ref a_t, .ref a_n, .int x_sav, .int x_err, .int x_rea, .int x_det, .int x_com])), (a_gw, .inl (T 0, 90, .inl v_gw)), (a_gk, .inl (T 0, 18, .inl v_gk))] r.1 ∧ ThThr p l e ({ frames := 7, cells := 2, slots := 12, locals := 111 } : Room) s m args below meth c Q cX7_whaleOf RX7 D A [(a_g, .inr (1, [.ref a_gw, .ref a_gk])), (a_x, .inr (7, [.ref a_g, .ref a_b, .ref a_v, .ref a_h, .ref a_r, .ref a_f, .ref a_u, .ref a_t, .ref a_n, .int x_sav, .int x_err, .int x_rea, .int x_det, .int x_com])), (a_gw, .inl (T 0, 90, .inl v_gw)), (a_gk, .inl (T 0, 18, .inl v_gk))] r.1) {H : Heap} {locs : List Loc} (hPD : va_PD D A [(a_g, .inr (1, [.ref a_gw, .ref a_gk])), (a_x, .inr (7, [.ref a_g, .ref a_b, .ref a_v, .ref a_h, .ref a_r, .ref a_f, .ref a_u, .ref a_t, .ref a_n, .int x_sav, .int x_err, .int x_rea, .int x_det, .int x_com])), (a_gw, .inl (T 0, 90, .inl v_gw)), (a_gk, .inl (T 0, 18, .inl v_gk))] H) (hS : va_S A s.heap H locs) (ls : Array Slot) (hl : lv_has ls 3 []) (h : fX7_whaleOf_15 v_gw v_gk = some r) : W p l e ({ frames := 7, cells := 2, slots := 12, locals := 111 } : Room) s m args below meth c H locs 1 6 Q (F0 m 15 ls []) := by
  have hx := C.1
  have hb := C.2.1
  obtain ⟨hP, hD⟩ := hPD
  unfold fX7_whaleOf_15 at h
  replace h := Option.some.inj h
  exact hret.2.2 _ _ _ _ _ _ _ 141 145 143 _ "no such number of a whale" (by rw [← h]; exact thrX7_141_145_1) (by decide +kernel) dX7_whaleOf_15 dX7_whaleOf_18 (Or.inl ⟨dX7_whaleOf_19, dX7_whaleOf_21, dX7_whaleOf_24⟩) (Nat.le_of_ble_eq_true rfl) (Nat.le_of_ble_eq_true rfl) (Nat.le_of_ble_eq_true rfl) (Nat.le_of_ble_eq_true rfl) (hl.1.trans C.2.2.1.symm) (by rw [← h]; exact (Nat.le_of_ble_eq_true rfl)) hP hS
set_option maxHeartbeats 4000000 in
set_option maxRecDepth 100000 in
theorem kX7_whaleOf (l : Launch) (hnt : l.stackTraces = false) (D : va_G) (T : Nat → ClassId) (a_g a_gw a_gk a_x a_b a_v a_h a_r a_f a_u a_t a_n : Nat) (x_sav : Int32) (x_err : Int32) (x_rea : Int32) (x_det : Int32) (x_com : Int32) (v_gw : Nat → Int32) (v_gk : Nat → Int32) (p0 : Int32) (p1 : Int32) (sz : Nat) (r : Nat × Int32) (h : fX7_whaleOf v_gw v_gk p0 p1 = some r) : ThI l yX7_whaleOf cX7_whaleOf 3 .int ({ frames := 7, cells := 2, slots := 12, locals := 111 } : Room) D T sz [(a_g, .inr (1, [.ref a_gw, .ref a_gk])), (a_x, .inr (7, [.ref a_g, .ref a_b, .ref a_v, .ref a_h, .ref a_r, .ref a_f, .ref a_u, .ref a_t, .ref a_n, .int x_sav, .int x_err, .int x_rea, .int x_det, .int x_com])), (a_gw, .inl (T 0, 90, .inl v_gw)), (a_gk, .inl (T 0, 18, .inl v_gk))] [(a_g, .inr (1, [.ref a_gw, .ref a_gk])), (a_x, .inr (7, [.ref a_g, .ref a_b, .ref a_v, .ref a_h, .ref a_r, .ref a_f, .ref a_u, .ref a_t, .ref a_n, .int x_sav, .int x_err, .int x_rea, .int x_det, .int x_com])), (a_gw, .inl (T 0, 90, .inl v_gw)), (a_gk, .inl (T 0, 18, .inl v_gk))] [.ref a_x, .int p0, .int p1] r.1 r.2 := by
  unfold fX7_whaleOf at h
  refine thMetI hnt (by decide +kernel) rfl (fun p e s m args below meth c Q A C hE hA hZ hP hD hS hret ls hl => ?_)
  have hx := C.1
  have hb := C.2.1
  have hl : lv_has ls 3 [(0, .ref a_x), (1, .int p0), (2, .int p1)] := hl
  refine lv_aload_n hx hb dX7_whaleOf_0 rfl (lv_at hl 0 rfl) ?_
  refine lv_iload_n hx hb dX7_whaleOf_1 rfl (lv_at hl 1 rfl) ?_
  replace h := bnd h; obtain ⟨q1, e2, h⟩ := h
  refine thVv (ws1 := [(a_g, .inr (1, [.ref a_gw, .ref a_gk])), (a_x, .inr (7, [.ref a_g, .ref a_b, .ref a_v, .ref a_h, .ref a_r, .ref a_f, .ref a_u, .ref a_t, .ref a_n, .int x_sav, .int x_err, .int x_rea, .int x_det, .int x_com])), (a_gw, .inl (T 0, 90, .inl v_gw)), (a_gk, .inl (T 0, 18, .inl v_gk))]) C hE hZ hP hD hS hA (kX7_demandWhale l hZ.1 D T a_g a_gw a_gk a_x a_b a_v a_h a_r a_f a_u a_t a_n x_sav x_err x_rea x_det x_com v_gk p0 _ q1 e2) mX7_demandWhale qLX7_138 [0, 1, 3] [2] 1 rfl rfl rfl rfl rfl rfl rfl rfl rfl ⟨Nat.le_of_ble_eq_true rfl, Nat.le_of_ble_eq_true rfl⟩ rfl hl.1 rfl (Nat.le_of_ble_eq_true rfl) dX7_whaleOf_2 ⟨Nat.le_of_ble_eq_true rfl, Nat.le_of_ble_eq_true rfl⟩ ?_ ?_
  · clear hP hD hS; intro hx0 H locs ce q9 hP hD hS g1 g2 g3
    replace h := ite_f (Nat.ne_of_gt hx0) h
    replace h := Option.some.inj h
    exact hret.2.1 _ _ _ _ _ _ _ _ _ (Nat.le_of_ble_eq_true rfl) (Nat.le_of_ble_eq_true rfl) (by rw [← h]; exact hx0) hP hS g1 g2 (by rw [← h]; exact g3)
  · clear hP hD hS; intro hx0 H locs hP hD hS
    replace h := ite_t hx0 h
    refine lv_iload_n hx hb dX7_whaleOf_5 rfl (lv_at hl 2 rfl) ?_
    refine lv_if_lt (tgt := 15) hx hb dX7_whaleOf_6 (by decide) (fun c3 => ?_) (fun c3 => ?_)
    · replace h := ite_t c3 h
      exact lX7_whaleOf_15 C hE hA hZ hret ⟨hP, hD⟩ hS _ (lv_sub hl [] rfl) h
    · replace h := ite_f c3 h
      refine lv_iload_n hx hb dX7_whaleOf_9 rfl (lv_at hl 2 rfl) ?_
      refine lv_bipush (v := 9) hx hb dX7_whaleOf_10 (by decide) ?_
      refine lv_icmp_lt (tgt := 25) hx hb dX7_whaleOf_12 (by decide) (fun c4 => ?_) (fun c4 => ?_)
      · replace h := ite_t c4 h
        refine lv_aload_n hx hb dX7_whaleOf_25 rfl (lv_at hl 0 rfl) ?_
        refine getF (q0 := 1) (k0 := 0) (v := .ref a_g) C hE hP inA7 rfl rfl (by decide) qFX7_10 rfl rfl dX7_whaleOf_26 ?_
        refine lv_iload_n hx hb dX7_whaleOf_29 rfl (lv_at hl 1 rfl) ?_
        refine lv_iload_n hx hb dX7_whaleOf_30 rfl (lv_at hl 2 rfl) ?_
        replace h := bnd h; obtain ⟨q5, e6, h⟩ := h
        refine rdV C hE hP (kX1_of l D T a_g a_gw a_gk v_gw p0 p1 q5 e6) mX1_of qLX7_148 [0, 2] 0 rfl rfl rfl rfl ⟨rfl, rfl⟩ ⟨Nat.le_of_ble_eq_true rfl, Nat.le_of_ble_eq_true rfl⟩ rfl hl.1 rfl (Nat.le_of_ble_eq_true rfl) dX7_whaleOf_31 ⟨Nat.le_of_ble_eq_true rfl, Nat.le_of_ble_eq_true rfl⟩ ?_
        replace h := Option.some.inj h
        exact hret.1 _ _ _ _ _ _ _ _ (Nat.le_of_ble_eq_true rfl) (Nat.le_of_ble_eq_true rfl) dX7_whaleOf_34 rfl (by rw [← h]) (by rw [← h] <;> rfl) hP hS
      · replace h := ite_f c4 h
        exact lX7_whaleOf_15 C hE hA hZ hret ⟨hP, hD⟩ hS _ (lv_sub hl [] rfl) h

def fX7_demandCell (p0 : Int32) : Option Nat :=
  if (fX7_isCell p0) = 0 then
    some 3
  else
    some 0
set_option maxHeartbeats 4000000 in
set_option maxRecDepth 100000 in
theorem kX7_demandCell (l : Launch) (hnt : l.stackTraces = false) (D : va_G) (T : Nat → ClassId) (a_x : Nat) (p0 : Int32) (sz : Nat) (r : Nat) (h : fX7_demandCell p0 = some r) : ThV l yX7_demandCell cX7_demandCell 2 ({ frames := 6, cells := 1, slots := 6, locals := 90 } : Room) D T sz [] [] [.ref a_x, .int p0] r := by
  unfold fX7_demandCell at h
  refine thMetV hnt (by decide +kernel) rfl (fun p e s m args below meth c Q A C hE hA hZ hP hD hS hret ls hl => ?_)
  have hx := C.1
  have hb := C.2.1
  have hl : lv_has ls 2 [(0, .ref a_x), (1, .int p0)] := hl
  refine lv_iload_n hx hb dX7_demandCell_0 rfl (lv_at hl 1 rfl) ?_
  refine rdS C hE hP (kX7_isCell l D T p0) mX7_isCell qLX7_389 [] rfl ⟨rfl, rfl⟩ ⟨Nat.le_of_ble_eq_true rfl, Nat.le_of_ble_eq_true rfl⟩ rfl hl.1 rfl (Nat.le_of_ble_eq_true rfl) dX7_demandCell_1 ⟨Nat.le_of_ble_eq_true rfl, Nat.le_of_ble_eq_true rfl⟩ ?_
  refine lv_if_ne (tgt := 18) hx hb dX7_demandCell_4 (by decide) (fun c1 => ?_) (fun c1 => ?_)
  · replace h := ite_f c1 h
    replace h := Option.some.inj h
    exact hret.1 _ _ _ _ _ _ (Nat.le_of_ble_eq_true rfl) (Nat.le_of_ble_eq_true rfl) dX7_demandCell_18 (by rw [← h]) hP hS
  · replace h := ite_t c1 h
    replace h := Option.some.inj h
    exact hret.2.2 _ _ _ _ _ _ _ 265 269 392 _ "no such cell" (by rw [← h]; exact thrX7_265_269_3) (by decide +kernel) dX7_demandCell_7 dX7_demandCell_10 (Or.inr ⟨dX7_demandCell_11, dX7_demandCell_14, dX7_demandCell_17⟩) (Nat.le_of_ble_eq_true rfl) (Nat.le_of_ble_eq_true rfl) (Nat.le_of_ble_eq_true rfl) (Nat.le_of_ble_eq_true rfl) (hl.1.trans C.2.2.1.symm) (by rw [← h]; exact (Nat.le_of_ble_eq_true rfl)) hP hS

def fX7_at (v_gw : Nat → Int32) (v_gk : Nat → Int32) (p0 : Int32) : Option (Nat × Int32) :=
  (fX7_demandCell p0).bind fun q1 =>
  if q1 = 0 then
    (fX1_whaleOn v_gw v_gk p0).bind fun q3 =>
    some (0, q3)
  else
    some (q1, 0)
set_option maxHeartbeats 4000000 in
set_option maxRecDepth 100000 in
theorem kX7_at (l : Launch) (hnt : l.stackTraces = false) (D : va_G) (T : Nat → ClassId) (a_g a_gw a_gk a_x a_b a_v a_h a_r a_f a_u a_t a_n : Nat) (x_sav : Int32) (x_err : Int32) (x_rea : Int32) (x_det : Int32) (x_com : Int32) (v_gw : Nat → Int32) (v_gk : Nat → Int32) (p0 : Int32) (sz : Nat) (r : Nat × Int32) (h : fX7_at v_gw v_gk p0 = some r) : ThI l yX7_at cX7_at 2 .int ({ frames := 7, cells := 1, slots := 6, locals := 111 } : Room) D T sz [(a_g, .inr (1, [.ref a_gw, .ref a_gk])), (a_x, .inr (7, [.ref a_g, .ref a_b, .ref a_v, .ref a_h, .ref a_r, .ref a_f, .ref a_u, .ref a_t, .ref a_n, .int x_sav, .int x_err, .int x_rea, .int x_det, .int x_com])), (a_gw, .inl (T 0, 90, .inl v_gw)), (a_gk, .inl (T 0, 18, .inl v_gk))] [(a_g, .inr (1, [.ref a_gw, .ref a_gk])), (a_x, .inr (7, [.ref a_g, .ref a_b, .ref a_v, .ref a_h, .ref a_r, .ref a_f, .ref a_u, .ref a_t, .ref a_n, .int x_sav, .int x_err, .int x_rea, .int x_det, .int x_com])), (a_gw, .inl (T 0, 90, .inl v_gw)), (a_gk, .inl (T 0, 18, .inl v_gk))] [.ref a_x, .int p0] r.1 r.2 := by
  unfold fX7_at at h
  refine thMetI hnt (by decide +kernel) rfl (fun p e s m args below meth c Q A C hE hA hZ hP hD hS hret ls hl => ?_)
  have hx := C.1
  have hb := C.2.1
  have hl : lv_has ls 2 [(0, .ref a_x), (1, .int p0)] := hl
  refine lv_aload_n hx hb dX7_at_0 rfl (lv_at hl 0 rfl) ?_
  refine lv_iload_n hx hb dX7_at_1 rfl (lv_at hl 1 rfl) ?_
  replace h := bnd h; obtain ⟨q1, e2, h⟩ := h
  refine thVv (ws1 := [(a_g, .inr (1, [.ref a_gw, .ref a_gk])), (a_x, .inr (7, [.ref a_g, .ref a_b, .ref a_v, .ref a_h, .ref a_r, .ref a_f, .ref a_u, .ref a_t, .ref a_n, .int x_sav, .int x_err, .int x_rea, .int x_det, .int x_com])), (a_gw, .inl (T 0, 90, .inl v_gw)), (a_gk, .inl (T 0, 18, .inl v_gk))]) C hE hZ hP hD hS hA (kX7_demandCell l hZ.1 D T a_x p0 _ q1 e2) mX7_demandCell qLX7_151 [] [0, 1, 2, 3] 1 rfl rfl rfl rfl rfl rfl rfl rfl rfl ⟨Nat.le_of_ble_eq_true rfl, Nat.le_of_ble_eq_true rfl⟩ rfl hl.1 rfl (Nat.le_of_ble_eq_true rfl) dX7_at_2 ⟨Nat.le_of_ble_eq_true rfl, Nat.le_of_ble_eq_true rfl⟩ ?_ ?_
  · clear hP hD hS; intro hx0 H locs ce q9 hP hD hS g1 g2 g3
    replace h := ite_f (Nat.ne_of_gt hx0) h
    replace h := Option.some.inj h
    exact hret.2.1 _ _ _ _ _ _ _ _ _ (Nat.le_of_ble_eq_true rfl) (Nat.le_of_ble_eq_true rfl) (by rw [← h]; exact hx0) hP hS g1 g2 (by rw [← h]; exact g3)
  · clear hP hD hS; intro hx0 H locs hP hD hS
    replace h := ite_t hx0 h
    refine lv_aload_n hx hb dX7_at_5 rfl (lv_at hl 0 rfl) ?_
    refine getF (q0 := 1) (k0 := 0) (v := .ref a_g) C hE hP inA7 rfl rfl (by decide) qFX7_10 rfl rfl dX7_at_6 ?_
    refine lv_iload_n hx hb dX7_at_9 rfl (lv_at hl 1 rfl) ?_
    replace h := bnd h; obtain ⟨q3, e4, h⟩ := h
    refine rdV C hE hP (kX1_whaleOn l D T a_g a_gw a_gk v_gw v_gk p0 q3 e4) mX1_whaleOn qLX7_154 [0, 2, 3] 0 rfl rfl rfl rfl ⟨rfl, rfl⟩ ⟨Nat.le_of_ble_eq_true rfl, Nat.le_of_ble_eq_true rfl⟩ rfl hl.1 rfl (Nat.le_of_ble_eq_true rfl) dX7_at_10 ⟨Nat.le_of_ble_eq_true rfl, Nat.le_of_ble_eq_true rfl⟩ ?_
    replace h := Option.some.inj h
    exact hret.1 _ _ _ _ _ _ _ _ (Nat.le_of_ble_eq_true rfl) (Nat.le_of_ble_eq_true rfl) dX7_at_13 rfl (by rw [← h]) (by rw [← h] <;> rfl) hP hS

def fX7_isDry (v_gk : Nat → Int32) (p0 : Int32) : Option (Nat × Int32) :=
  (fX7_demandCell p0).bind fun q1 =>
  if q1 = 0 then
    (fX1_isDryNow v_gk p0).bind fun q3 =>
    some (0, (q3 &&& 1))
  else
    some (q1, 0)
set_option maxHeartbeats 4000000 in
set_option maxRecDepth 100000 in
theorem kX7_isDry (l : Launch) (hnt : l.stackTraces = false) (D : va_G) (T : Nat → ClassId) (a_g a_gw a_gk a_x a_b a_v a_h a_r a_f a_u a_t a_n : Nat) (x_sav : Int32) (x_err : Int32) (x_rea : Int32) (x_det : Int32) (x_com : Int32) (v_gk : Nat → Int32) (p0 : Int32) (sz : Nat) (r : Nat × Int32) (h : fX7_isDry v_gk p0 = some r) : ThI l yX7_isDry cX7_isDry 2 .boolean ({ frames := 7, cells := 1, slots := 6, locals := 111 } : Room) D T sz [(a_g, .inr (1, [.ref a_gw, .ref a_gk])), (a_x, .inr (7, [.ref a_g, .ref a_b, .ref a_v, .ref a_h, .ref a_r, .ref a_f, .ref a_u, .ref a_t, .ref a_n, .int x_sav, .int x_err, .int x_rea, .int x_det, .int x_com])), (a_gk, .inl (T 0, 18, .inl v_gk))] [(a_g, .inr (1, [.ref a_gw, .ref a_gk])), (a_x, .inr (7, [.ref a_g, .ref a_b, .ref a_v, .ref a_h, .ref a_r, .ref a_f, .ref a_u, .ref a_t, .ref a_n, .int x_sav, .int x_err, .int x_rea, .int x_det, .int x_com])), (a_gk, .inl (T 0, 18, .inl v_gk))] [.ref a_x, .int p0] r.1 r.2 := by
  unfold fX7_isDry at h
  refine thMetI hnt (by decide +kernel) rfl (fun p e s m args below meth c Q A C hE hA hZ hP hD hS hret ls hl => ?_)
  have hx := C.1
  have hb := C.2.1
  have hl : lv_has ls 2 [(0, .ref a_x), (1, .int p0)] := hl
  refine lv_aload_n hx hb dX7_isDry_0 rfl (lv_at hl 0 rfl) ?_
  refine lv_iload_n hx hb dX7_isDry_1 rfl (lv_at hl 1 rfl) ?_
  replace h := bnd h; obtain ⟨q1, e2, h⟩ := h
  refine thVv (ws1 := [(a_g, .inr (1, [.ref a_gw, .ref a_gk])), (a_x, .inr (7, [.ref a_g, .ref a_b, .ref a_v, .ref a_h, .ref a_r, .ref a_f, .ref a_u, .ref a_t, .ref a_n, .int x_sav, .int x_err, .int x_rea, .int x_det, .int x_com])), (a_gk, .inl (T 0, 18, .inl v_gk))]) C hE hZ hP hD hS hA (kX7_demandCell l hZ.1 D T a_x p0 _ q1 e2) mX7_demandCell qLX7_151 [] [0, 1, 2] 1 rfl rfl rfl rfl rfl rfl rfl rfl rfl ⟨Nat.le_of_ble_eq_true rfl, Nat.le_of_ble_eq_true rfl⟩ rfl hl.1 rfl (Nat.le_of_ble_eq_true rfl) dX7_isDry_2 ⟨Nat.le_of_ble_eq_true rfl, Nat.le_of_ble_eq_true rfl⟩ ?_ ?_
  · clear hP hD hS; intro hx0 H locs ce q9 hP hD hS g1 g2 g3
    replace h := ite_f (Nat.ne_of_gt hx0) h
    replace h := Option.some.inj h
    exact hret.2.1 _ _ _ _ _ _ _ _ _ (Nat.le_of_ble_eq_true rfl) (Nat.le_of_ble_eq_true rfl) (by rw [← h]; exact hx0) hP hS g1 g2 (by rw [← h]; exact g3)
  · clear hP hD hS; intro hx0 H locs hP hD hS
    replace h := ite_t hx0 h
    refine lv_aload_n hx hb dX7_isDry_5 rfl (lv_at hl 0 rfl) ?_
    refine getF (q0 := 1) (k0 := 0) (v := .ref a_g) C hE hP inA7 rfl rfl (by decide) qFX7_10 rfl rfl dX7_isDry_6 ?_
    refine lv_iload_n hx hb dX7_isDry_9 rfl (lv_at hl 1 rfl) ?_
    replace h := bnd h; obtain ⟨q3, e4, h⟩ := h
    refine rdV C hE hP (kX1_isDryNow l D T a_g a_gw a_gk v_gk p0 q3 e4) mX1_isDryNow qLX7_157 [0, 2] 0 rfl rfl rfl rfl ⟨rfl, rfl⟩ ⟨Nat.le_of_ble_eq_true rfl, Nat.le_of_ble_eq_true rfl⟩ rfl hl.1 rfl (Nat.le_of_ble_eq_true rfl) dX7_isDry_10 ⟨Nat.le_of_ble_eq_true rfl, Nat.le_of_ble_eq_true rfl⟩ ?_
    replace h := Option.some.inj h
    exact hret.1 _ _ _ _ _ _ _ _ (Nat.le_of_ble_eq_true rfl) (Nat.le_of_ble_eq_true rfl) dX7_isDry_13 rfl (by rw [← h]) (by rw [← h] <;> rfl) hP hS

def fX7_demandClock_11 : Option Nat :=
  some 1
def fX7_demandClock (p0 : Int32) : Option Nat :=
  if p0 < 0 then
    fX7_demandClock_11
  else
    if p0 ≤ 999 then
      some 0
    else
      fX7_demandClock_11
set_option maxHeartbeats 4000000 in
set_option maxRecDepth 100000 in
theorem lX7_demandClock_11 {p : Program} {l : Launch} {e : Env} {s : State} {m : MethodId} {args : Array Value} {below : List Frame} {meth : Method} {c : Code} {Q : State → Prop} {D : va_G} {T : Nat → ClassId} {A : Nat → Prop} {r : Nat} (C : CallFix p m c cX7_demandClock 2 s args aw RX7) (hE : eK D T s) (hA : ∀ q : Nat, s.heap.size ≤ q → A q) (hZ : eX l A s) (hret : ThRetV p l e ({ frames := 6, cells := 1, slots := 6, locals := 90 } : Room) s m args below meth c Q cX7_demandClock D A [] r ∧ ThOut p l e ({ frames := 6, cells := 1, slots := 6, locals := 90 } : Room) s m args below meth c Q D A [] r ∧ ThThr p l e ({ frames := 6, cells := 1, slots := 6, locals := 90 } : Room) s m args below meth c Q cX7_demandClock RX7 D A [] r) {H : Heap} {locs : List Loc} (hPD : va_PD D A [] H) (hS : va_S A s.heap H locs) (ls : Array Slot) (hl : lv_has ls 2 []) (h : fX7_demandClock_11 = some r) : W p l e ({ frames := 6, cells := 1, slots := 6, locals := 90 } : Room) s m args below meth c H locs 0 0 Q (F0 m 11 ls []) := by
  have hx := C.1
  have hb := C.2.1
  obtain ⟨hP, hD⟩ := hPD
  unfold fX7_demandClock_11 at h
  replace h := Option.some.inj h
  exact hret.2.2 _ _ _ _ _ _ _ 141 145 394 _ "the clock is out of range" (by rw [← h]; exact thrX7_141_145_1) (by decide +kernel) dX7_demandClock_11 dX7_demandClock_14 (Or.inr ⟨dX7_demandClock_15, dX7_demandClock_18, dX7_demandClock_21⟩) (Nat.le_of_ble_eq_true rfl) (Nat.le_of_ble_eq_true rfl) (Nat.le_of_ble_eq_true rfl) (Nat.le_of_ble_eq_true rfl) (hl.1.trans C.2.2.1.symm) (by rw [← h]; exact (Nat.le_of_ble_eq_true rfl)) hP hS
set_option maxHeartbeats 4000000 in
set_option maxRecDepth 100000 in
theorem kX7_demandClock (l : Launch) (hnt : l.stackTraces = false) (D : va_G) (T : Nat → ClassId) (a_x : Nat) (p0 : Int32) (sz : Nat) (r : Nat) (h : fX7_demandClock p0 = some r) : ThV l yX7_demandClock cX7_demandClock 2 ({ frames := 6, cells := 1, slots := 6, locals := 90 } : Room) D T sz [] [] [.ref a_x, .int p0] r := by
  unfold fX7_demandClock at h
  refine thMetV hnt (by decide +kernel) rfl (fun p e s m args below meth c Q A C hE hA hZ hP hD hS hret ls hl => ?_)
  have hx := C.1
  have hb := C.2.1
  have hl : lv_has ls 2 [(0, .ref a_x), (1, .int p0)] := hl
  refine lv_iload_n hx hb dX7_demandClock_0 rfl (lv_at hl 1 rfl) ?_
  refine lv_if_lt (tgt := 11) hx hb dX7_demandClock_1 (by decide) (fun c1 => ?_) (fun c1 => ?_)
  · replace h := ite_t c1 h
    exact lX7_demandClock_11 C hE hA hZ hret ⟨hP, hD⟩ hS _ (lv_sub hl [] rfl) h
  · replace h := ite_f c1 h
    refine lv_iload_n hx hb dX7_demandClock_4 rfl (lv_at hl 1 rfl) ?_
    refine lv_sipush (v := 999) hx hb dX7_demandClock_5 (by decide) ?_
    refine lv_icmp_le (tgt := 22) hx hb dX7_demandClock_8 (by decide) (fun c2 => ?_) (fun c2 => ?_)
    · replace h := ite_t c2 h
      replace h := Option.some.inj h
      exact hret.1 _ _ _ _ _ _ (Nat.le_of_ble_eq_true rfl) (Nat.le_of_ble_eq_true rfl) dX7_demandClock_22 (by rw [← h]) hP hS
    · replace h := ite_f c2 h
      exact lX7_demandClock_11 C hE hA hZ hret ⟨hP, hD⟩ hS _ (lv_sub hl [] rfl) h

def fX7_tideByStrokes_46 (rec7 : Int32 → Int32 → Int32 → Int32 → Option Int32) (l0 : Int32) (l1 : Int32) (l2 : Int32) (l3 : Int32) : Option Int32 :=
  rec7 l0 l1 l2 (l3 + 1)
def fX7_tideByStrokes_45 (rec7 : Int32 → Int32 → Int32 → Int32 → Option Int32) (x0 : Int32) (l0 : Int32) (l1 : Int32) (l3 : Int32) : Option Int32 :=
  fX7_tideByStrokes_46 rec7 l0 l1 x0 l3
def fX7_tideByStrokes_34 (rec7 : Int32 → Int32 → Int32 → Int32 → Option Int32) (l0 : Int32) (l1 : Int32) (l3 : Int32) : Option Int32 :=
  fX7_tideByStrokes_45 rec7 (if l1 = 8 then 1 else 0) l0 l1 l3
def fX7_tideByStrokes_22 (rec7 : Int32 → Int32 → Int32 → Int32 → Option Int32) (x0 : Int32) (x1 : Int32) (l0 : Int32) (l2 : Int32) (l3 : Int32) : Option Int32 :=
  if (x0 + x1) = 0 then
    fX7_tideByStrokes_34 rec7 l0 (x0 + x1) l3
  else
    if (x0 + x1) = 8 then
      fX7_tideByStrokes_34 rec7 l0 (x0 + x1) l3
    else
      fX7_tideByStrokes_46 rec7 l0 (x0 + x1) l2 l3
def fX7_tideByStrokes_7 : Nat → Int32 → Int32 → Int32 → Int32 → Option Int32
  | 0, _, _, _, _ => none
  | k + 1, l0, l1, l2, l3 =>
    if l0 ≤ l3 then
      some l1
    else
      fX7_tideByStrokes_22 (fX7_tideByStrokes_7 k) l1 (if l2 = 0 then 1 else (-1)) l0 l2 l3
def fX7_tideByStrokes (p0 : Int32) : Option Int32 :=
  fX7_tideByStrokes_7 1024 p0 8 1 0
set_option maxHeartbeats 4000000 in
set_option maxRecDepth 100000 in
theorem lX7_tideByStrokes_46 {p : Program} {l : Launch} {e : Env} {s : State} {m : MethodId} {args : Array Value} {below : List Frame} {meth : Method} {c : Code} {Q : State → Prop} {D : va_G} {T : Nat → ClassId} {r : Int32} (C : CallFix p m c cX7_tideByStrokes 4 s args aw RX7) (hE : eK D T s) (hP : va_P D kC [] s.heap) (hret : RdRet p l e ({ frames := 0, cells := 0, slots := 0, locals := 0 } : Room) s m args below meth c Q cX7_tideByStrokes .int r) {rec7 : Int32 → Int32 → Int32 → Int32 → Option Int32} (hrec7 : ∀ (l0 : Int32) (l1 : Int32) (l2 : Int32) (l3 : Int32) (ls : Array Slot) (hl : lv_has ls 4 [(0, .int l0), (1, .int l1), (2, .int l2), (3, .int l3)]) (h : rec7 l0 l1 l2 l3 = some r), W p l e ({ frames := 0, cells := 0, slots := 0, locals := 0 } : Room) s m args below meth c s.heap [] 0 0 Q (F0 m 7 ls [])) (l0 : Int32) (l1 : Int32) (l2 : Int32) (l3 : Int32) (ls : Array Slot) (hl : lv_has ls 4 [(0, .int l0), (1, .int l1), (2, .int l2), (3, .int l3)]) (h : fX7_tideByStrokes_46 rec7 l0 l1 l2 l3 = some r) : W p l e ({ frames := 0, cells := 0, slots := 0, locals := 0 } : Room) s m args below meth c s.heap [] 0 0 Q (F0 m 46 ls []) := by
  have hx := C.1
  have hb := C.2.1
  unfold fX7_tideByStrokes_46 at h
  refine lv_iinc (v := (l3 + 1)) (lv' := [(3, .int (l3 + 1)), (0, .int l0), (1, .int l1), (2, .int l2)]) hx hb dX7_tideByStrokes_46 hl (k := 3) rfl rfl (by decide) rfl (fun ls hl => ?_)
  refine lv_goto (tgt := 7) hx hb dX7_tideByStrokes_49 (by decide) ?_
  exact hrec7 l0 l1 l2 (l3 + 1) _ (lv_sub hl [1, 2, 3, 0] rfl) h
set_option maxHeartbeats 4000000 in
set_option maxRecDepth 100000 in
theorem lX7_tideByStrokes_45 {p : Program} {l : Launch} {e : Env} {s : State} {m : MethodId} {args : Array Value} {below : List Frame} {meth : Method} {c : Code} {Q : State → Prop} {D : va_G} {T : Nat → ClassId} {r : Int32} (C : CallFix p m c cX7_tideByStrokes 4 s args aw RX7) (hE : eK D T s) (hP : va_P D kC [] s.heap) (hret : RdRet p l e ({ frames := 0, cells := 0, slots := 0, locals := 0 } : Room) s m args below meth c Q cX7_tideByStrokes .int r) {rec7 : Int32 → Int32 → Int32 → Int32 → Option Int32} (hrec7 : ∀ (l0 : Int32) (l1 : Int32) (l2 : Int32) (l3 : Int32) (ls : Array Slot) (hl : lv_has ls 4 [(0, .int l0), (1, .int l1), (2, .int l2), (3, .int l3)]) (h : rec7 l0 l1 l2 l3 = some r), W p l e ({ frames := 0, cells := 0, slots := 0, locals := 0 } : Room) s m args below meth c s.heap [] 0 0 Q (F0 m 7 ls [])) (x0 : Int32) (l0 : Int32) (l1 : Int32) (l3 : Int32) (ls : Array Slot) (hl : lv_has ls 4 [(0, .int l0), (1, .int l1), (3, .int l3)]) (h : fX7_tideByStrokes_45 rec7 x0 l0 l1 l3 = some r) : W p l e ({ frames := 0, cells := 0, slots := 0, locals := 0 } : Room) s m args below meth c s.heap [] 0 0 Q (F0 m 45 ls [.int x0]) := by
  have hx := C.1
  have hb := C.2.1
  unfold fX7_tideByStrokes_45 at h
  refine lv_istore_n (lv' := [(2, .int x0), (0, .int l0), (1, .int l1), (3, .int l3)]) hx hb dX7_tideByStrokes_45 rfl hl (by decide) rfl (fun ls hl => ?_)
  exact lX7_tideByStrokes_46 C hE hP hret hrec7 l0 l1 x0 l3 _ (lv_sub hl [1, 2, 0, 3] rfl) h
set_option maxHeartbeats 4000000 in
set_option maxRecDepth 100000 in
theorem lX7_tideByStrokes_34 {p : Program} {l : Launch} {e : Env} {s : State} {m : MethodId} {args : Array Value} {below : List Frame} {meth : Method} {c : Code} {Q : State → Prop} {D : va_G} {T : Nat → ClassId} {r : Int32} (C : CallFix p m c cX7_tideByStrokes 4 s args aw RX7) (hE : eK D T s) (hP : va_P D kC [] s.heap) (hret : RdRet p l e ({ frames := 0, cells := 0, slots := 0, locals := 0 } : Room) s m args below meth c Q cX7_tideByStrokes .int r) {rec7 : Int32 → Int32 → Int32 → Int32 → Option Int32} (hrec7 : ∀ (l0 : Int32) (l1 : Int32) (l2 : Int32) (l3 : Int32) (ls : Array Slot) (hl : lv_has ls 4 [(0, .int l0), (1, .int l1), (2, .int l2), (3, .int l3)]) (h : rec7 l0 l1 l2 l3 = some r), W p l e ({ frames := 0, cells := 0, slots := 0, locals := 0 } : Room) s m args below meth c s.heap [] 0 0 Q (F0 m 7 ls [])) (l0 : Int32) (l1 : Int32) (l3 : Int32) (ls : Array Slot) (hl : lv_has ls 4 [(0, .int l0), (1, .int l1), (3, .int l3)]) (h : fX7_tideByStrokes_34 rec7 l0 l1 l3 = some r) : W p l e ({ frames := 0, cells := 0, slots := 0, locals := 0 } : Room) s m args below meth c s.heap [] 0 0 Q (F0 m 34 ls []) := by
  have hx := C.1
  have hb := C.2.1
  unfold fX7_tideByStrokes_34 at h
  refine lv_iload_n hx hb dX7_tideByStrokes_34 rfl (lv_at hl 1 rfl) ?_
  refine lv_bipush (v := 8) hx hb dX7_tideByStrokes_35 (by decide) ?_
  refine lv_icmp_ne (tgt := 44) hx hb dX7_tideByStrokes_37 (by decide) (fun c5 => ?_) (fun c5 => ?_)
  · rw [if_neg c5] at h
    refine lv_iconst (v := 0) hx hb dX7_tideByStrokes_44 (by decide) ?_
    exact lX7_tideByStrokes_45 C hE hP hret hrec7 0 l0 l1 l3 _ (lv_sub hl [0, 1, 2] rfl) h
  · rw [if_pos c5] at h
    refine lv_iconst (v := 1) hx hb dX7_tideByStrokes_40 (by decide) ?_
    refine lv_goto (tgt := 45) hx hb dX7_tideByStrokes_41 (by decide) ?_
    exact lX7_tideByStrokes_45 C hE hP hret hrec7 1 l0 l1 l3 _ (lv_sub hl [0, 1, 2] rfl) h
set_option maxHeartbeats 4000000 in
set_option maxRecDepth 100000 in
theorem lX7_tideByStrokes_22 {p : Program} {l : Launch} {e : Env} {s : State} {m : MethodId} {args : Array Value} {below : List Frame} {meth : Method} {c : Code} {Q : State → Prop} {D : va_G} {T : Nat → ClassId} {r : Int32} (C : CallFix p m c cX7_tideByStrokes 4 s args aw RX7) (hE : eK D T s) (hP : va_P D kC [] s.heap) (hret : RdRet p l e ({ frames := 0, cells := 0, slots := 0, locals := 0 } : Room) s m args below meth c Q cX7_tideByStrokes .int r) {rec7 : Int32 → Int32 → Int32 → Int32 → Option Int32} (hrec7 : ∀ (l0 : Int32) (l1 : Int32) (l2 : Int32) (l3 : Int32) (ls : Array Slot) (hl : lv_has ls 4 [(0, .int l0), (1, .int l1), (2, .int l2), (3, .int l3)]) (h : rec7 l0 l1 l2 l3 = some r), W p l e ({ frames := 0, cells := 0, slots := 0, locals := 0 } : Room) s m args below meth c s.heap [] 0 0 Q (F0 m 7 ls [])) (x0 : Int32) (x1 : Int32) (l0 : Int32) (l2 : Int32) (l3 : Int32) (ls : Array Slot) (hl : lv_has ls 4 [(0, .int l0), (2, .int l2), (3, .int l3)]) (h : fX7_tideByStrokes_22 rec7 x0 x1 l0 l2 l3 = some r) : W p l e ({ frames := 0, cells := 0, slots := 0, locals := 0 } : Room) s m args below meth c s.heap [] 0 0 Q (F0 m 22 ls [.int x1, .int x0]) := by
  have hx := C.1
  have hb := C.2.1
  unfold fX7_tideByStrokes_22 at h
  refine lv_iadd hx hb dX7_tideByStrokes_22 ?_
  refine lv_istore_n (lv' := [(1, .int (x0 + x1)), (0, .int l0), (2, .int l2), (3, .int l3)]) hx hb dX7_tideByStrokes_23 rfl hl (by decide) rfl (fun ls hl => ?_)
  refine lv_iload_n hx hb dX7_tideByStrokes_24 rfl (lv_at hl 0 rfl) ?_
  refine lv_if_eq (tgt := 34) hx hb dX7_tideByStrokes_25 (by decide) (fun c3 => ?_) (fun c3 => ?_)
  · replace h := ite_t c3 h
    exact lX7_tideByStrokes_34 C hE hP hret hrec7 l0 (x0 + x1) l3 _ (lv_sub hl [1, 0, 3] rfl) h
  · replace h := ite_f c3 h
    refine lv_iload_n hx hb dX7_tideByStrokes_28 rfl (lv_at hl 0 rfl) ?_
    refine lv_bipush (v := 8) hx hb dX7_tideByStrokes_29 (by decide) ?_
    refine lv_icmp_ne (tgt := 46) hx hb dX7_tideByStrokes_31 (by decide) (fun c4 => ?_) (fun c4 => ?_)
    · replace h := ite_f c4 h
      exact lX7_tideByStrokes_46 C hE hP hret hrec7 l0 (x0 + x1) l2 l3 _ (lv_sub hl [1, 0, 2, 3] rfl) h
    · replace h := ite_t c4 h
      exact lX7_tideByStrokes_34 C hE hP hret hrec7 l0 (x0 + x1) l3 _ (lv_sub hl [1, 0, 3] rfl) h
set_option maxHeartbeats 4000000 in
set_option maxRecDepth 100000 in
theorem lX7_tideByStrokes_7 {p : Program} {l : Launch} {e : Env} {s : State} {m : MethodId} {args : Array Value} {below : List Frame} {meth : Method} {c : Code} {Q : State → Prop} {D : va_G} {T : Nat → ClassId} {r : Int32} (C : CallFix p m c cX7_tideByStrokes 4 s args aw RX7) (hE : eK D T s) (hP : va_P D kC [] s.heap) (hret : RdRet p l e ({ frames := 0, cells := 0, slots := 0, locals := 0 } : Room) s m args below meth c Q cX7_tideByStrokes .int r) : ∀ (k : Nat) (l0 : Int32) (l1 : Int32) (l2 : Int32) (l3 : Int32) (ls : Array Slot) (hl : lv_has ls 4 [(0, .int l0), (1, .int l1), (2, .int l2), (3, .int l3)]) (h : fX7_tideByStrokes_7 k l0 l1 l2 l3 = some r), W p l e ({ frames := 0, cells := 0, slots := 0, locals := 0 } : Room) s m args below meth c s.heap [] 0 0 Q (F0 m 7 ls []) := by
  have hx := C.1
  have hb := C.2.1
  intro k
  induction k with
  | zero =>
    intro l0 l1 l2 l3  ls hl h
    exact nomatch (show (none : Option Int32) = some r from h)
  | succ k ih =>
    intro l0 l1 l2 l3  ls hl h
    rw [fX7_tideByStrokes_7] at h
    refine lv_iload_n hx hb dX7_tideByStrokes_7 rfl (lv_at hl 3 rfl) ?_
    refine lv_iload_n hx hb dX7_tideByStrokes_8 rfl (lv_at hl 0 rfl) ?_
    refine lv_icmp_ge (tgt := 52) hx hb dX7_tideByStrokes_9 (by decide) (fun c1 => ?_) (fun c1 => ?_)
    · replace h := ite_t c1 h
      refine lv_iload_n hx hb dX7_tideByStrokes_52 rfl (lv_at hl 1 rfl) ?_
      exact hret _ _ _ _ dX7_tideByStrokes_53 rfl (Option.some.inj h)
    · replace h := ite_f c1 h
      refine lv_iload_n hx hb dX7_tideByStrokes_12 rfl (lv_at hl 1 rfl) ?_
      refine lv_iload_n hx hb dX7_tideByStrokes_13 rfl (lv_at hl 2 rfl) ?_
      refine lv_if_eq (tgt := 21) hx hb dX7_tideByStrokes_14 (by decide) (fun c2 => ?_) (fun c2 => ?_)
      · rw [if_pos c2] at h
        refine lv_iconst (v := 1) hx hb dX7_tideByStrokes_21 (by decide) ?_
        exact lX7_tideByStrokes_22 C hE hP hret ih l1 1 l0 l2 l3 _ (lv_sub hl [0, 2, 3] rfl) h
      · rw [if_neg c2] at h
        refine lv_iconst (v := (-1)) hx hb dX7_tideByStrokes_17 (by decide) ?_
        refine lv_goto (tgt := 22) hx hb dX7_tideByStrokes_18 (by decide) ?_
        exact lX7_tideByStrokes_22 C hE hP hret ih l1 (-1) l0 l2 l3 _ (lv_sub hl [0, 2, 3] rfl) h
set_option maxHeartbeats 4000000 in
set_option maxRecDepth 100000 in
theorem kX7_tideByStrokes (l : Launch) (D : va_G) (T : Nat → ClassId) (p0 : Int32) (r : Int32) (h : fX7_tideByStrokes p0 = some r) : RdI l yX7_tideByStrokes cX7_tideByStrokes 4 .int ({ frames := 0, cells := 0, slots := 0, locals := 0 } : Room) D T [] [.int p0] r := by
  unfold fX7_tideByStrokes at h
  refine rdMet (by decide +kernel) rfl (fun p e s m args below meth c Q C hE hP hret ls hl => ?_)
  have hx := C.1
  have hb := C.2.1
  have hl : lv_has ls 4 [(0, .int p0)] := hl
  refine lv_bipush (v := 8) hx hb dX7_tideByStrokes_0 (by decide) ?_
  refine lv_istore_n (lv' := [(1, .int 8), (0, .int p0)]) hx hb dX7_tideByStrokes_2 rfl hl (by decide) rfl (fun ls hl => ?_)
  refine lv_iconst (v := 1) hx hb dX7_tideByStrokes_3 (by decide) ?_
  refine lv_istore_n (lv' := [(2, .int 1), (1, .int 8), (0, .int p0)]) hx hb dX7_tideByStrokes_4 rfl hl (by decide) rfl (fun ls hl => ?_)
  refine lv_iconst (v := 0) hx hb dX7_tideByStrokes_5 (by decide) ?_
  refine lv_istore_n (lv' := [(3, .int 0), (2, .int 1), (1, .int 8), (0, .int p0)]) hx hb dX7_tideByStrokes_6 rfl hl (by decide) rfl (fun ls hl => ?_)
  exact lX7_tideByStrokes_7 C hE hP hret 1024 p0 8 1 0 _ (lv_sub hl [3, 2, 1, 0] rfl) h

def fX7_tide (p0 : Int32) : Option (Nat × Int32) :=
  (fX7_demandClock p0).bind fun q1 =>
  if q1 = 0 then
    (fX7_tideByStrokes p0).bind fun q3 =>
    some (0, q3)
  else
    some (q1, 0)
set_option maxHeartbeats 4000000 in
set_option maxRecDepth 100000 in
theorem kX7_tide (l : Launch) (hnt : l.stackTraces = false) (D : va_G) (T : Nat → ClassId) (a_x a_g a_b a_v a_h a_r a_f a_u a_t a_n : Nat) (x_sav : Int32) (x_err : Int32) (x_rea : Int32) (x_det : Int32) (x_com : Int32) (p0 : Int32) (sz : Nat) (r : Nat × Int32) (h : fX7_tide p0 = some r) : ThI l yX7_tide cX7_tide 2 .int ({ frames := 7, cells := 1, slots := 6, locals := 111 } : Room) D T sz [(a_x, .inr (7, [.ref a_g, .ref a_b, .ref a_v, .ref a_h, .ref a_r, .ref a_f, .ref a_u, .ref a_t, .ref a_n, .int x_sav, .int x_err, .int x_rea, .int x_det, .int x_com]))] [(a_x, .inr (7, [.ref a_g, .ref a_b, .ref a_v, .ref a_h, .ref a_r, .ref a_f, .ref a_u, .ref a_t, .ref a_n, .int x_sav, .int x_err, .int x_rea, .int x_det, .int x_com]))] [.ref a_x, .int p0] r.1 r.2 := by
  unfold fX7_tide at h
  refine thMetI hnt (by decide +kernel) rfl (fun p e s m args below meth c Q A C hE hA hZ hP hD hS hret ls hl => ?_)
  have hx := C.1
  have hb := C.2.1
  have hl : lv_has ls 2 [(0, .ref a_x), (1, .int p0)] := hl
  refine lv_aload_n hx hb dX7_tide_0 rfl (lv_at hl 0 rfl) ?_
  refine lv_iload_n hx hb dX7_tide_1 rfl (lv_at hl 1 rfl) ?_
  replace h := bnd h; obtain ⟨q1, e2, h⟩ := h
  refine thVv (ws1 := [(a_x, .inr (7, [.ref a_g, .ref a_b, .ref a_v, .ref a_h, .ref a_r, .ref a_f, .ref a_u, .ref a_t, .ref a_n, .int x_sav, .int x_err, .int x_rea, .int x_det, .int x_com]))]) C hE hZ hP hD hS hA (kX7_demandClock l hZ.1 D T a_x p0 _ q1 e2) mX7_demandClock qLX7_161 [] [0] 0 rfl rfl rfl rfl rfl rfl rfl rfl rfl ⟨Nat.le_of_ble_eq_true rfl, Nat.le_of_ble_eq_true rfl⟩ rfl hl.1 rfl (Nat.le_of_ble_eq_true rfl) dX7_tide_2 ⟨Nat.le_of_ble_eq_true rfl, Nat.le_of_ble_eq_true rfl⟩ ?_ ?_
  · clear hP hD hS; intro hx0 H locs ce q9 hP hD hS g1 g2 g3
    replace h := ite_f (Nat.ne_of_gt hx0) h
    replace h := Option.some.inj h
    exact hret.2.1 _ _ _ _ _ _ _ _ _ (Nat.le_of_ble_eq_true rfl) (Nat.le_of_ble_eq_true rfl) (by rw [← h]; exact hx0) hP hS g1 g2 (by rw [← h]; exact g3)
  · clear hP hD hS; intro hx0 H locs hP hD hS
    replace h := ite_t hx0 h
    refine lv_iload_n hx hb dX7_tide_5 rfl (lv_at hl 1 rfl) ?_
    replace h := bnd h; obtain ⟨q3, e4, h⟩ := h
    refine rdS C hE hP (kX7_tideByStrokes l D T p0 q3 e4) mX7_tideByStrokes qLX7_164 [] rfl ⟨rfl, rfl⟩ ⟨Nat.le_of_ble_eq_true rfl, Nat.le_of_ble_eq_true rfl⟩ rfl hl.1 rfl (Nat.le_of_ble_eq_true rfl) dX7_tide_6 ⟨Nat.le_of_ble_eq_true rfl, Nat.le_of_ble_eq_true rfl⟩ ?_
    replace h := Option.some.inj h
    exact hret.1 _ _ _ _ _ _ _ _ (Nat.le_of_ble_eq_true rfl) (Nat.le_of_ble_eq_true rfl) dX7_tide_9 rfl (by rw [← h]) (by rw [← h] <;> rfl) hP hS

def fX7_tideAgain (p0 : Int32) : Option (Nat × Int32) :=
  (fX7_demandClock p0).bind fun q1 =>
  if q1 = 0 then
    some (0, (fX7_tideByDividing p0))
  else
    some (q1, 0)
set_option maxHeartbeats 4000000 in
set_option maxRecDepth 100000 in
theorem kX7_tideAgain (l : Launch) (hnt : l.stackTraces = false) (D : va_G) (T : Nat → ClassId) (a_x a_g a_b a_v a_h a_r a_f a_u a_t a_n : Nat) (x_sav : Int32) (x_err : Int32) (x_rea : Int32) (x_det : Int32) (x_com : Int32) (p0 : Int32) (sz : Nat) (r : Nat × Int32) (h : fX7_tideAgain p0 = some r) : ThI l yX7_tideAgain cX7_tideAgain 2 .int ({ frames := 7, cells := 1, slots := 6, locals := 111 } : Room) D T sz [(a_x, .inr (7, [.ref a_g, .ref a_b, .ref a_v, .ref a_h, .ref a_r, .ref a_f, .ref a_u, .ref a_t, .ref a_n, .int x_sav, .int x_err, .int x_rea, .int x_det, .int x_com]))] [(a_x, .inr (7, [.ref a_g, .ref a_b, .ref a_v, .ref a_h, .ref a_r, .ref a_f, .ref a_u, .ref a_t, .ref a_n, .int x_sav, .int x_err, .int x_rea, .int x_det, .int x_com]))] [.ref a_x, .int p0] r.1 r.2 := by
  unfold fX7_tideAgain at h
  refine thMetI hnt (by decide +kernel) rfl (fun p e s m args below meth c Q A C hE hA hZ hP hD hS hret ls hl => ?_)
  have hx := C.1
  have hb := C.2.1
  have hl : lv_has ls 2 [(0, .ref a_x), (1, .int p0)] := hl
  refine lv_aload_n hx hb dX7_tideAgain_0 rfl (lv_at hl 0 rfl) ?_
  refine lv_iload_n hx hb dX7_tideAgain_1 rfl (lv_at hl 1 rfl) ?_
  replace h := bnd h; obtain ⟨q1, e2, h⟩ := h
  refine thVv (ws1 := [(a_x, .inr (7, [.ref a_g, .ref a_b, .ref a_v, .ref a_h, .ref a_r, .ref a_f, .ref a_u, .ref a_t, .ref a_n, .int x_sav, .int x_err, .int x_rea, .int x_det, .int x_com]))]) C hE hZ hP hD hS hA (kX7_demandClock l hZ.1 D T a_x p0 _ q1 e2) mX7_demandClock qLX7_161 [] [0] 0 rfl rfl rfl rfl rfl rfl rfl rfl rfl ⟨Nat.le_of_ble_eq_true rfl, Nat.le_of_ble_eq_true rfl⟩ rfl hl.1 rfl (Nat.le_of_ble_eq_true rfl) dX7_tideAgain_2 ⟨Nat.le_of_ble_eq_true rfl, Nat.le_of_ble_eq_true rfl⟩ ?_ ?_
  · clear hP hD hS; intro hx0 H locs ce q9 hP hD hS g1 g2 g3
    replace h := ite_f (Nat.ne_of_gt hx0) h
    replace h := Option.some.inj h
    exact hret.2.1 _ _ _ _ _ _ _ _ _ (Nat.le_of_ble_eq_true rfl) (Nat.le_of_ble_eq_true rfl) (by rw [← h]; exact hx0) hP hS g1 g2 (by rw [← h]; exact g3)
  · clear hP hD hS; intro hx0 H locs hP hD hS
    replace h := ite_t hx0 h
    refine lv_iload_n hx hb dX7_tideAgain_5 rfl (lv_at hl 1 rfl) ?_
    refine rdS C hE hP (kX7_tideByDividing l D T p0) mX7_tideByDividing qLX7_167 [] rfl ⟨rfl, rfl⟩ ⟨Nat.le_of_ble_eq_true rfl, Nat.le_of_ble_eq_true rfl⟩ rfl hl.1 rfl (Nat.le_of_ble_eq_true rfl) dX7_tideAgain_6 ⟨Nat.le_of_ble_eq_true rfl, Nat.le_of_ble_eq_true rfl⟩ ?_
    replace h := Option.some.inj h
    exact hret.1 _ _ _ _ _ _ _ _ (Nat.le_of_ble_eq_true rfl) (Nat.le_of_ble_eq_true rfl) dX7_tideAgain_9 rfl (by rw [← h]) (by rw [← h] <;> rfl) hP hS

def fX1_strokesToTurn_43 (v_gk : Nat → Int32) (rec22 : Int32 → Int32 → Int32 → Option Int32) (x0 : Int32) (l1 : Int32) (l2 : Int32) (l3 : Int32) : Option Int32 :=
  if x0 = l2 then
    rec22 l1 l2 (l3 + 1)
  else
    some l3
def fX1_strokesToTurn_22 (v_gk : Nat → Int32) : Nat → Int32 → Int32 → Int32 → Option Int32
  | 0, _, _, _ => none
  | k + 1, l1, l2, l3 =>
    if 16 ≤ l3 then
      some l3
    else
      fX1_strokesToTurn_43 v_gk (fX1_strokesToTurn_22 v_gk k) (if 2 < (fX7_tideByDividing (l1 + l3)) then 0 else 1) l1 l2 l3
def fX1_strokesToTurn_19 (v_gk : Nat → Int32) (x0 : Int32) (l1 : Int32) : Option Int32 :=
  fX1_strokesToTurn_22 v_gk 64 l1 x0 1
def fX1_strokesToTurn (v_gk : Nat → Int32) : Option Int32 :=
  (fX1_count v_gk 1).bind fun q1 =>
  fX1_strokesToTurn_19 v_gk (if 2 < (fX7_tideByDividing q1) then 0 else 1) q1
set_option maxHeartbeats 4000000 in
set_option maxRecDepth 100000 in
theorem lX1_strokesToTurn_43 {p : Program} {l : Launch} {e : Env} {s : State} {m : MethodId} {args : Array Value} {below : List Frame} {meth : Method} {c : Code} {Q : State → Prop} {D : va_G} {T : Nat → ClassId} {a_g a_gw a_gk : Nat} {v_gk : Nat → Int32} {r : Int32} (C : CallFix p m c cX1_strokesToTurn 4 s args aw RX1) (hE : eK D T s) (hP : va_P D kC [(a_g, .inr (1, [.ref a_gw, .ref a_gk])), (a_gk, .inl (T 0, 18, .inl v_gk))] s.heap) (hret : RdRet p l e ({ frames := 1, cells := 0, slots := 0, locals := 21 } : Room) s m args below meth c Q cX1_strokesToTurn .int r) {rec22 : Int32 → Int32 → Int32 → Option Int32} (hrec22 : ∀ (l1 : Int32) (l2 : Int32) (l3 : Int32) (ls : Array Slot) (hl : lv_has ls 4 [(1, .int l1), (2, .int l2), (3, .int l3)]) (h : rec22 l1 l2 l3 = some r), W p l e ({ frames := 1, cells := 0, slots := 0, locals := 21 } : Room) s m args below meth c s.heap [] 0 0 Q (F0 m 22 ls [])) (x0 : Int32) (l1 : Int32) (l2 : Int32) (l3 : Int32) (ls : Array Slot) (hl : lv_has ls 4 [(1, .int l1), (2, .int l2), (3, .int l3)]) (h : fX1_strokesToTurn_43 v_gk rec22 x0 l1 l2 l3 = some r) : W p l e ({ frames := 1, cells := 0, slots := 0, locals := 21 } : Room) s m args below meth c s.heap [] 0 0 Q (F0 m 43 ls [.int x0]) := by
  have hx := C.1
  have hb := C.2.1
  unfold fX1_strokesToTurn_43 at h
  refine lv_iload_n hx hb dX1_strokesToTurn_43 rfl (lv_at hl 1 rfl) ?_
  refine lv_icmp_ne (tgt := 53) hx hb dX1_strokesToTurn_44 (by decide) (fun c6 => ?_) (fun c6 => ?_)
  · replace h := ite_f c6 h
    refine lv_iload_n hx hb dX1_strokesToTurn_53 rfl (lv_at hl 2 rfl) ?_
    exact hret _ _ _ _ dX1_strokesToTurn_54 rfl (Option.some.inj h)
  · replace h := ite_t c6 h
    refine lv_iinc (v := (l3 + 1)) (lv' := [(3, .int (l3 + 1)), (1, .int l1), (2, .int l2)]) hx hb dX1_strokesToTurn_47 hl (k := 2) rfl rfl (by decide) rfl (fun ls hl => ?_)
    refine lv_goto (tgt := 22) hx hb dX1_strokesToTurn_50 (by decide) ?_
    exact hrec22 l1 l2 (l3 + 1) _ (lv_sub hl [1, 2, 0] rfl) h
set_option maxHeartbeats 4000000 in
set_option maxRecDepth 100000 in
theorem lX1_strokesToTurn_22 {p : Program} {l : Launch} {e : Env} {s : State} {m : MethodId} {args : Array Value} {below : List Frame} {meth : Method} {c : Code} {Q : State → Prop} {D : va_G} {T : Nat → ClassId} {a_g a_gw a_gk : Nat} {v_gk : Nat → Int32} {r : Int32} (C : CallFix p m c cX1_strokesToTurn 4 s args aw RX1) (hE : eK D T s) (hP : va_P D kC [(a_g, .inr (1, [.ref a_gw, .ref a_gk])), (a_gk, .inl (T 0, 18, .inl v_gk))] s.heap) (hret : RdRet p l e ({ frames := 1, cells := 0, slots := 0, locals := 21 } : Room) s m args below meth c Q cX1_strokesToTurn .int r) : ∀ (k : Nat) (l1 : Int32) (l2 : Int32) (l3 : Int32) (ls : Array Slot) (hl : lv_has ls 4 [(1, .int l1), (2, .int l2), (3, .int l3)]) (h : fX1_strokesToTurn_22 v_gk k l1 l2 l3 = some r), W p l e ({ frames := 1, cells := 0, slots := 0, locals := 21 } : Room) s m args below meth c s.heap [] 0 0 Q (F0 m 22 ls []) := by
  have hx := C.1
  have hb := C.2.1
  intro k
  induction k with
  | zero =>
    intro l1 l2 l3  ls hl h
    exact nomatch (show (none : Option Int32) = some r from h)
  | succ k ih =>
    intro l1 l2 l3  ls hl h
    rw [fX1_strokesToTurn_22] at h
    refine lv_iload_n hx hb dX1_strokesToTurn_22 rfl (lv_at hl 2 rfl) ?_
    refine lv_bipush (v := 16) hx hb dX1_strokesToTurn_23 (by decide) ?_
    refine lv_icmp_ge (tgt := 53) hx hb dX1_strokesToTurn_25 (by decide) (fun c4 => ?_) (fun c4 => ?_)
    · replace h := ite_t c4 h
      refine lv_iload_n hx hb dX1_strokesToTurn_53 rfl (lv_at hl 2 rfl) ?_
      exact hret _ _ _ _ dX1_strokesToTurn_54 rfl (Option.some.inj h)
    · replace h := ite_f c4 h
      refine lv_iload_n hx hb dX1_strokesToTurn_28 rfl (lv_at hl 0 rfl) ?_
      refine lv_iload_n hx hb dX1_strokesToTurn_29 rfl (lv_at hl 2 rfl) ?_
      refine lv_iadd hx hb dX1_strokesToTurn_30 ?_
      refine rdSN C hE hP (kX7_tideByDividing l D T (l1 + l3)) mX7_tideByDividing (by decide +kernel) [] rfl ⟨rfl, rfl⟩ ⟨Nat.le_of_ble_eq_true rfl, Nat.le_of_ble_eq_true rfl⟩ rfl hl.1 rfl (Nat.le_of_ble_eq_true rfl) dX1_strokesToTurn_31 ⟨Nat.le_of_ble_eq_true rfl, Nat.le_of_ble_eq_true rfl⟩ ?_
      refine lv_iconst (v := 2) hx hb dX1_strokesToTurn_34 (by decide) ?_
      refine lv_icmp_gt (tgt := 42) hx hb dX1_strokesToTurn_35 (by decide) (fun c5 => ?_) (fun c5 => ?_)
      · rw [if_pos c5] at h
        refine lv_iconst (v := 0) hx hb dX1_strokesToTurn_42 (by decide) ?_
        exact lX1_strokesToTurn_43 C hE hP hret ih 0 l1 l2 l3 _ (lv_sub hl [0, 1, 2] rfl) h
      · rw [if_neg c5] at h
        refine lv_iconst (v := 1) hx hb dX1_strokesToTurn_38 (by decide) ?_
        refine lv_goto (tgt := 43) hx hb dX1_strokesToTurn_39 (by decide) ?_
        exact lX1_strokesToTurn_43 C hE hP hret ih 1 l1 l2 l3 _ (lv_sub hl [0, 1, 2] rfl) h
set_option maxHeartbeats 4000000 in
set_option maxRecDepth 100000 in
theorem lX1_strokesToTurn_19 {p : Program} {l : Launch} {e : Env} {s : State} {m : MethodId} {args : Array Value} {below : List Frame} {meth : Method} {c : Code} {Q : State → Prop} {D : va_G} {T : Nat → ClassId} {a_g a_gw a_gk : Nat} {v_gk : Nat → Int32} {r : Int32} (C : CallFix p m c cX1_strokesToTurn 4 s args aw RX1) (hE : eK D T s) (hP : va_P D kC [(a_g, .inr (1, [.ref a_gw, .ref a_gk])), (a_gk, .inl (T 0, 18, .inl v_gk))] s.heap) (hret : RdRet p l e ({ frames := 1, cells := 0, slots := 0, locals := 21 } : Room) s m args below meth c Q cX1_strokesToTurn .int r) (x0 : Int32) (l1 : Int32) (ls : Array Slot) (hl : lv_has ls 4 [(1, .int l1)]) (h : fX1_strokesToTurn_19 v_gk x0 l1 = some r) : W p l e ({ frames := 1, cells := 0, slots := 0, locals := 21 } : Room) s m args below meth c s.heap [] 0 0 Q (F0 m 19 ls [.int x0]) := by
  have hx := C.1
  have hb := C.2.1
  unfold fX1_strokesToTurn_19 at h
  refine lv_istore_n (lv' := [(2, .int x0), (1, .int l1)]) hx hb dX1_strokesToTurn_19 rfl hl (by decide) rfl (fun ls hl => ?_)
  refine lv_iconst (v := 1) hx hb dX1_strokesToTurn_20 (by decide) ?_
  refine lv_istore_n (lv' := [(3, .int 1), (2, .int x0), (1, .int l1)]) hx hb dX1_strokesToTurn_21 rfl hl (by decide) rfl (fun ls hl => ?_)
  exact lX1_strokesToTurn_22 C hE hP hret 64 l1 x0 1 _ (lv_sub hl [2, 1, 0] rfl) h
set_option maxHeartbeats 4000000 in
set_option maxRecDepth 100000 in
theorem kX1_strokesToTurn (l : Launch) (D : va_G) (T : Nat → ClassId) (a_g a_gw a_gk : Nat) (v_gk : Nat → Int32) (r : Int32) (h : fX1_strokesToTurn v_gk = some r) : RdI l yX1_strokesToTurn cX1_strokesToTurn 4 .int ({ frames := 1, cells := 0, slots := 0, locals := 21 } : Room) D T [(a_g, .inr (1, [.ref a_gw, .ref a_gk])), (a_gk, .inl (T 0, 18, .inl v_gk))] [.ref a_g] r := by
  unfold fX1_strokesToTurn at h
  refine rdMet (by decide +kernel) rfl (fun p e s m args below meth c Q C hE hP hret ls hl => ?_)
  have hx := C.1
  have hb := C.2.1
  have hl : lv_has ls 4 [(0, .ref a_g)] := hl
  refine lv_aload_n hx hb dX1_strokesToTurn_0 rfl (lv_at hl 0 rfl) ?_
  refine lv_iconst (v := 1) hx hb dX1_strokesToTurn_1 (by decide) ?_
  replace h := bnd h; obtain ⟨q1, e2, h⟩ := h
  refine rdV C hE hP (kX1_count l D T a_g a_gw a_gk v_gk 1 q1 e2) mX1_count qLX1_28 [0, 1] 0 rfl rfl rfl rfl ⟨rfl, rfl⟩ ⟨Nat.le_of_ble_eq_true rfl, Nat.le_of_ble_eq_true rfl⟩ rfl hl.1 rfl (Nat.le_of_ble_eq_true rfl) dX1_strokesToTurn_2 ⟨Nat.le_of_ble_eq_true rfl, Nat.le_of_ble_eq_true rfl⟩ ?_
  refine lv_istore_n (lv' := [(1, .int q1), (0, .ref a_g)]) hx hb dX1_strokesToTurn_5 rfl hl (by decide) rfl (fun ls hl => ?_)
  refine lv_iload_n hx hb dX1_strokesToTurn_6 rfl (lv_at hl 0 rfl) ?_
  refine rdSN C hE hP (kX7_tideByDividing l D T q1) mX7_tideByDividing (by decide +kernel) [] rfl ⟨rfl, rfl⟩ ⟨Nat.le_of_ble_eq_true rfl, Nat.le_of_ble_eq_true rfl⟩ rfl hl.1 rfl (Nat.le_of_ble_eq_true rfl) dX1_strokesToTurn_7 ⟨Nat.le_of_ble_eq_true rfl, Nat.le_of_ble_eq_true rfl⟩ ?_
  refine lv_iconst (v := 2) hx hb dX1_strokesToTurn_10 (by decide) ?_
  refine lv_icmp_gt (tgt := 18) hx hb dX1_strokesToTurn_11 (by decide) (fun c3 => ?_) (fun c3 => ?_)
  · rw [if_pos c3] at h
    refine lv_iconst (v := 0) hx hb dX1_strokesToTurn_18 (by decide) ?_
    exact lX1_strokesToTurn_19 C hE hP hret 0 q1 _ (lv_sub hl [0] rfl) h
  · rw [if_neg c3] at h
    refine lv_iconst (v := 1) hx hb dX1_strokesToTurn_14 (by decide) ?_
    refine lv_goto (tgt := 19) hx hb dX1_strokesToTurn_15 (by decide) ?_
    exact lX1_strokesToTurn_19 C hE hP hret 1 q1 _ (lv_sub hl [0] rfl) h

def fX7_turnsIn (v_gk : Nat → Int32) (p0 : Int32) : Option (Nat × Int32) :=
  (fX7_demandCell p0).bind fun q1 =>
  if q1 = 0 then
    if (fX7_isEdge p0) = 0 then
      some (4, 0)
    else
      (fX1_strokesToTurn v_gk).bind fun q4 =>
      some (0, q4)
  else
    some (q1, 0)
set_option maxHeartbeats 4000000 in
set_option maxRecDepth 100000 in
theorem kX7_turnsIn (l : Launch) (hnt : l.stackTraces = false) (D : va_G) (T : Nat → ClassId) (a_g a_gw a_gk a_x a_b a_v a_h a_r a_f a_u a_t a_n : Nat) (x_sav : Int32) (x_err : Int32) (x_rea : Int32) (x_det : Int32) (x_com : Int32) (v_gk : Nat → Int32) (p0 : Int32) (sz : Nat) (r : Nat × Int32) (h : fX7_turnsIn v_gk p0 = some r) : ThI l yX7_turnsIn cX7_turnsIn 2 .int ({ frames := 7, cells := 2, slots := 12, locals := 111 } : Room) D T sz [(a_g, .inr (1, [.ref a_gw, .ref a_gk])), (a_x, .inr (7, [.ref a_g, .ref a_b, .ref a_v, .ref a_h, .ref a_r, .ref a_f, .ref a_u, .ref a_t, .ref a_n, .int x_sav, .int x_err, .int x_rea, .int x_det, .int x_com])), (a_gk, .inl (T 0, 18, .inl v_gk))] [(a_g, .inr (1, [.ref a_gw, .ref a_gk])), (a_x, .inr (7, [.ref a_g, .ref a_b, .ref a_v, .ref a_h, .ref a_r, .ref a_f, .ref a_u, .ref a_t, .ref a_n, .int x_sav, .int x_err, .int x_rea, .int x_det, .int x_com])), (a_gk, .inl (T 0, 18, .inl v_gk))] [.ref a_x, .int p0] r.1 r.2 := by
  unfold fX7_turnsIn at h
  refine thMetI hnt (by decide +kernel) rfl (fun p e s m args below meth c Q A C hE hA hZ hP hD hS hret ls hl => ?_)
  have hx := C.1
  have hb := C.2.1
  have hl : lv_has ls 2 [(0, .ref a_x), (1, .int p0)] := hl
  refine lv_aload_n hx hb dX7_turnsIn_0 rfl (lv_at hl 0 rfl) ?_
  refine lv_iload_n hx hb dX7_turnsIn_1 rfl (lv_at hl 1 rfl) ?_
  replace h := bnd h; obtain ⟨q1, e2, h⟩ := h
  refine thVv (ws1 := [(a_g, .inr (1, [.ref a_gw, .ref a_gk])), (a_x, .inr (7, [.ref a_g, .ref a_b, .ref a_v, .ref a_h, .ref a_r, .ref a_f, .ref a_u, .ref a_t, .ref a_n, .int x_sav, .int x_err, .int x_rea, .int x_det, .int x_com])), (a_gk, .inl (T 0, 18, .inl v_gk))]) C hE hZ hP hD hS hA (kX7_demandCell l hZ.1 D T a_x p0 _ q1 e2) mX7_demandCell qLX7_151 [] [0, 1, 2] 1 rfl rfl rfl rfl rfl rfl rfl rfl rfl ⟨Nat.le_of_ble_eq_true rfl, Nat.le_of_ble_eq_true rfl⟩ rfl hl.1 rfl (Nat.le_of_ble_eq_true rfl) dX7_turnsIn_2 ⟨Nat.le_of_ble_eq_true rfl, Nat.le_of_ble_eq_true rfl⟩ ?_ ?_
  · clear hP hD hS; intro hx0 H locs ce q9 hP hD hS g1 g2 g3
    replace h := ite_f (Nat.ne_of_gt hx0) h
    replace h := Option.some.inj h
    exact hret.2.1 _ _ _ _ _ _ _ _ _ (Nat.le_of_ble_eq_true rfl) (Nat.le_of_ble_eq_true rfl) (by rw [← h]; exact hx0) hP hS g1 g2 (by rw [← h]; exact g3)
  · clear hP hD hS; intro hx0 H locs hP hD hS
    replace h := ite_t hx0 h
    refine lv_iload_n hx hb dX7_turnsIn_5 rfl (lv_at hl 1 rfl) ?_
    refine rdS C hE hP (kX7_isEdge l D T p0) mX7_isEdge qLX7_170 [] rfl ⟨rfl, rfl⟩ ⟨Nat.le_of_ble_eq_true rfl, Nat.le_of_ble_eq_true rfl⟩ rfl hl.1 rfl (Nat.le_of_ble_eq_true rfl) dX7_turnsIn_6 ⟨Nat.le_of_ble_eq_true rfl, Nat.le_of_ble_eq_true rfl⟩ ?_
    refine lv_if_ne (tgt := 22) hx hb dX7_turnsIn_9 (by decide) (fun c3 => ?_) (fun c3 => ?_)
    · replace h := ite_f c3 h
      refine lv_aload_n hx hb dX7_turnsIn_22 rfl (lv_at hl 0 rfl) ?_
      refine getF (q0 := 1) (k0 := 0) (v := .ref a_g) C hE hP inA7 rfl rfl (by decide) qFX7_10 rfl rfl dX7_turnsIn_23 ?_
      replace h := bnd h; obtain ⟨q4, e5, h⟩ := h
      refine rdV C hE hP (kX1_strokesToTurn l D T a_g a_gw a_gk v_gk q4 e5) mX1_strokesToTurn qLX7_178 [0, 2] 0 rfl rfl rfl rfl ⟨rfl, rfl⟩ ⟨Nat.le_of_ble_eq_true rfl, Nat.le_of_ble_eq_true rfl⟩ rfl hl.1 rfl (Nat.le_of_ble_eq_true rfl) dX7_turnsIn_26 ⟨Nat.le_of_ble_eq_true rfl, Nat.le_of_ble_eq_true rfl⟩ ?_
      replace h := Option.some.inj h
      exact hret.1 _ _ _ _ _ _ _ _ (Nat.le_of_ble_eq_true rfl) (Nat.le_of_ble_eq_true rfl) dX7_turnsIn_29 rfl (by rw [← h]) (by rw [← h] <;> rfl) hP hS
    · replace h := ite_t c3 h
      replace h := Option.some.inj h
      exact hret.2.2 _ _ _ _ _ _ _ 173 177 175 _ "this cell is never dry" (by rw [← h]; exact thrX7_173_177_4) (by decide +kernel) dX7_turnsIn_12 dX7_turnsIn_15 (Or.inl ⟨dX7_turnsIn_16, dX7_turnsIn_18, dX7_turnsIn_21⟩) (Nat.le_of_ble_eq_true rfl) (Nat.le_of_ble_eq_true rfl) (Nat.le_of_ble_eq_true rfl) (Nat.le_of_ble_eq_true rfl) (hl.1.trans C.2.2.1.symm) (by rw [← h]; exact (Nat.le_of_ble_eq_true rfl)) hP hS

def fX4_countWithin_38 (v_rs : Nat → Int32) (rec4 : Int32 → Int32 → Int32 → Option Int32) (x0 : Int32) (x1 : Int32) (l1 : Int32) (l3 : Int32) : Option Int32 :=
  rec4 l1 (x0 + x1) (l3 + 1)
def fX4_countWithin_4 (v_rs : Nat → Int32) : Nat → Int32 → Int32 → Int32 → Option Int32
  | 0, _, _, _ => none
  | k + 1, l1, l2, l3 =>
    if 45 ≤ l3 then
      some l2
    else
      if vin l3 45 = true then
      if (v_rs l3.toNatClampNeg) ≤ 0 then
        fX4_countWithin_38 v_rs (fX4_countWithin_4 v_rs k) l2 0 l1 l3
      else
        if vin l3 45 = true then
        fX4_countWithin_38 v_rs (fX4_countWithin_4 v_rs k) l2 (if l1 < (v_rs l3.toNatClampNeg) then 0 else 1) l1 l3
        else none
      else none
def fX4_countWithin (v_rs : Nat → Int32) (p0 : Int32) : Option Int32 :=
  fX4_countWithin_4 v_rs 64 p0 0 0
set_option maxHeartbeats 4000000 in
set_option maxRecDepth 100000 in
theorem lX4_countWithin_38 {p : Program} {l : Launch} {e : Env} {s : State} {m : MethodId} {args : Array Value} {below : List Frame} {meth : Method} {c : Code} {Q : State → Prop} {D : va_G} {T : Nat → ClassId} {a_r a_g a_rs a_rl a_ro : Nat} {v_rs : Nat → Int32} {r : Int32} (C : CallFix p m c cX4_countWithin 4 s args aw RX4) (hE : eK D T s) (hP : va_P D kC [(a_r, .inr (4, [.ref a_g, .ref a_rs, .ref a_rl, .ref a_ro])), (a_rs, .inl (T 0, 45, .inl v_rs))] s.heap) (hret : RdRet p l e ({ frames := 0, cells := 0, slots := 0, locals := 0 } : Room) s m args below meth c Q cX4_countWithin .int r) {rec4 : Int32 → Int32 → Int32 → Option Int32} (hrec4 : ∀ (l1 : Int32) (l2 : Int32) (l3 : Int32) (ls : Array Slot) (hl : lv_has ls 4 [(0, .ref a_r), (1, .int l1), (2, .int l2), (3, .int l3)]) (h : rec4 l1 l2 l3 = some r), W p l e ({ frames := 0, cells := 0, slots := 0, locals := 0 } : Room) s m args below meth c s.heap [] 0 0 Q (F0 m 4 ls [])) (x0 : Int32) (x1 : Int32) (l1 : Int32) (l3 : Int32) (ls : Array Slot) (hl : lv_has ls 4 [(0, .ref a_r), (1, .int l1), (3, .int l3)]) (h : fX4_countWithin_38 v_rs rec4 x0 x1 l1 l3 = some r) : W p l e ({ frames := 0, cells := 0, slots := 0, locals := 0 } : Room) s m args below meth c s.heap [] 0 0 Q (F0 m 38 ls [.int x1, .int x0]) := by
  have hx := C.1
  have hb := C.2.1
  unfold fX4_countWithin_38 at h
  refine lv_iadd hx hb dX4_countWithin_38 ?_
  refine lv_istore_n (lv' := [(2, .int (x0 + x1)), (0, .ref a_r), (1, .int l1), (3, .int l3)]) hx hb dX4_countWithin_39 rfl hl (by decide) rfl (fun ls hl => ?_)
  refine lv_iinc (v := (l3 + 1)) (lv' := [(3, .int (l3 + 1)), (2, .int (x0 + x1)), (0, .ref a_r), (1, .int l1)]) hx hb dX4_countWithin_40 hl (k := 3) rfl rfl (by decide) rfl (fun ls hl => ?_)
  refine lv_goto (tgt := 4) hx hb dX4_countWithin_43 (by decide) ?_
  exact hrec4 l1 (x0 + x1) (l3 + 1) _ (lv_sub hl [2, 3, 1, 0] rfl) h
set_option maxHeartbeats 4000000 in
set_option maxRecDepth 100000 in
theorem lX4_countWithin_4 {p : Program} {l : Launch} {e : Env} {s : State} {m : MethodId} {args : Array Value} {below : List Frame} {meth : Method} {c : Code} {Q : State → Prop} {D : va_G} {T : Nat → ClassId} {a_r a_g a_rs a_rl a_ro : Nat} {v_rs : Nat → Int32} {r : Int32} (C : CallFix p m c cX4_countWithin 4 s args aw RX4) (hE : eK D T s) (hP : va_P D kC [(a_r, .inr (4, [.ref a_g, .ref a_rs, .ref a_rl, .ref a_ro])), (a_rs, .inl (T 0, 45, .inl v_rs))] s.heap) (hret : RdRet p l e ({ frames := 0, cells := 0, slots := 0, locals := 0 } : Room) s m args below meth c Q cX4_countWithin .int r) : ∀ (k : Nat) (l1 : Int32) (l2 : Int32) (l3 : Int32) (ls : Array Slot) (hl : lv_has ls 4 [(0, .ref a_r), (1, .int l1), (2, .int l2), (3, .int l3)]) (h : fX4_countWithin_4 v_rs k l1 l2 l3 = some r), W p l e ({ frames := 0, cells := 0, slots := 0, locals := 0 } : Room) s m args below meth c s.heap [] 0 0 Q (F0 m 4 ls []) := by
  have hx := C.1
  have hb := C.2.1
  intro k
  induction k with
  | zero =>
    intro l1 l2 l3  ls hl h
    exact nomatch (show (none : Option Int32) = some r from h)
  | succ k ih =>
    intro l1 l2 l3  ls hl h
    rw [fX4_countWithin_4] at h
    refine lv_iload_n hx hb dX4_countWithin_4 rfl (lv_at hl 3 rfl) ?_
    refine lv_aload_n hx hb dX4_countWithin_5 rfl (lv_at hl 0 rfl) ?_
    refine getF (q0 := 0) (k0 := 1) (v := .ref a_rs) C hE hP inA4 rfl rfl (by decide) qFX4_9 rfl rfl dX4_countWithin_6 ?_
    refine alen (q0 := 1) (t0 := 0) (v := 45) C hE hP rfl rfl (by decide) dX4_countWithin_9 ?_
    refine lv_icmp_ge (tgt := 46) hx hb dX4_countWithin_10 (by decide) (fun c1 => ?_) (fun c1 => ?_)
    · replace h := ite_t c1 h
      refine lv_iload_n hx hb dX4_countWithin_46 rfl (lv_at hl 2 rfl) ?_
      exact hret _ _ _ _ dX4_countWithin_47 rfl (Option.some.inj h)
    · replace h := ite_f c1 h
      refine lv_iload_n hx hb dX4_countWithin_13 rfl (lv_at hl 2 rfl) ?_
      refine lv_aload_n hx hb dX4_countWithin_14 rfl (lv_at hl 0 rfl) ?_
      refine getF (q0 := 0) (k0 := 1) (v := .ref a_rs) C hE hP inA4 rfl rfl (by decide) qFX4_9 rfl rfl dX4_countWithin_15 ?_
      refine lv_iload_n hx hb dX4_countWithin_18 rfl (lv_at hl 3 rfl) ?_
      replace h := gd h; obtain ⟨g2, h⟩ := h
      refine aldI (q0 := 1) C hE hP rfl g2 dX4_countWithin_19 ?_
      refine lv_if_le (tgt := 37) hx hb dX4_countWithin_20 (by decide) (fun c3 => ?_) (fun c3 => ?_)
      · replace h := ite_t c3 h
        refine lv_iconst (v := 0) hx hb dX4_countWithin_37 (by decide) ?_
        exact lX4_countWithin_38 C hE hP hret ih l2 0 l1 l3 _ (lv_sub hl [0, 1, 3] rfl) h
      · replace h := ite_f c3 h
        refine lv_aload_n hx hb dX4_countWithin_23 rfl (lv_at hl 0 rfl) ?_
        refine getF (q0 := 0) (k0 := 1) (v := .ref a_rs) C hE hP inA4 rfl rfl (by decide) qFX4_9 rfl rfl dX4_countWithin_24 ?_
        refine lv_iload_n hx hb dX4_countWithin_27 rfl (lv_at hl 3 rfl) ?_
        replace h := gd h; obtain ⟨g4, h⟩ := h
        refine aldI (q0 := 1) C hE hP rfl g4 dX4_countWithin_28 ?_
        refine lv_iload_n hx hb dX4_countWithin_29 rfl (lv_at hl 1 rfl) ?_
        refine lv_icmp_gt (tgt := 37) hx hb dX4_countWithin_30 (by decide) (fun c5 => ?_) (fun c5 => ?_)
        · rw [if_pos c5] at h
          refine lv_iconst (v := 0) hx hb dX4_countWithin_37 (by decide) ?_
          exact lX4_countWithin_38 C hE hP hret ih l2 0 l1 l3 _ (lv_sub hl [0, 1, 3] rfl) h
        · rw [if_neg c5] at h
          refine lv_iconst (v := 1) hx hb dX4_countWithin_33 (by decide) ?_
          refine lv_goto (tgt := 38) hx hb dX4_countWithin_34 (by decide) ?_
          exact lX4_countWithin_38 C hE hP hret ih l2 1 l1 l3 _ (lv_sub hl [0, 1, 3] rfl) h
set_option maxHeartbeats 4000000 in
set_option maxRecDepth 100000 in
theorem kX4_countWithin (l : Launch) (D : va_G) (T : Nat → ClassId) (a_r a_g a_rs a_rl a_ro : Nat) (v_rs : Nat → Int32) (p0 : Int32) (r : Int32) (h : fX4_countWithin v_rs p0 = some r) : RdI l yX4_countWithin cX4_countWithin 4 .int ({ frames := 0, cells := 0, slots := 0, locals := 0 } : Room) D T [(a_r, .inr (4, [.ref a_g, .ref a_rs, .ref a_rl, .ref a_ro])), (a_rs, .inl (T 0, 45, .inl v_rs))] [.ref a_r, .int p0] r := by
  unfold fX4_countWithin at h
  refine rdMet (by decide +kernel) rfl (fun p e s m args below meth c Q C hE hP hret ls hl => ?_)
  have hx := C.1
  have hb := C.2.1
  have hl : lv_has ls 4 [(0, .ref a_r), (1, .int p0)] := hl
  refine lv_iconst (v := 0) hx hb dX4_countWithin_0 (by decide) ?_
  refine lv_istore_n (lv' := [(2, .int 0), (0, .ref a_r), (1, .int p0)]) hx hb dX4_countWithin_1 rfl hl (by decide) rfl (fun ls hl => ?_)
  refine lv_iconst (v := 0) hx hb dX4_countWithin_2 (by decide) ?_
  refine lv_istore_n (lv' := [(3, .int 0), (2, .int 0), (0, .ref a_r), (1, .int p0)]) hx hb dX4_countWithin_3 rfl hl (by decide) rfl (fun ls hl => ?_)
  exact lX4_countWithin_4 C hE hP hret 64 p0 0 0 _ (lv_sub hl [2, 3, 1, 0] rfl) h

def fX7_reach (v_gw : Nat → Int32) (v_gk : Nat → Int32) (v_rs : Nat → Int32) (v_ro : Nat → Int32) (p0 : Int32) : Option (Nat × Int32 × (Nat → Int32) × (Nat → Int32)) :=
  (fX7_demandWhale v_gk p0).bind fun q1 =>
  if q1 = 0 then
    (fX1_isOver v_gk).bind fun q3 =>
    if q3 = 0 then
      (fX1_isPlaying v_gw p0).bind fun q6 =>
      if q6 = 0 then
        some (0, 0, v_rs, v_ro)
      else
        (fX1_isStranded v_gw v_gk p0).bind fun q9 =>
        if q9 = 0 then
          (fX4_findBySpreading v_gw v_gk v_rs v_ro p0).bind fun q12 =>
          (fX1_of v_gw p0 2).bind fun q14 =>
          (fX1_of v_gw p0 3).bind fun q16 =>
          (fX4_countWithin q12.1 (if q16 < q14 then q16 else q14)).bind fun q18 =>
          some (0, q18, q12.1, q12.2)
        else
          some (0, 0, v_rs, v_ro)
    else
      some (0, 0, v_rs, v_ro)
  else
    some (q1, 0, v_rs, v_ro)
set_option maxHeartbeats 4000000 in
set_option maxRecDepth 100000 in
theorem kX7_reach (l : Launch) (hnt : l.stackTraces = false) (D : va_G) (T : Nat → ClassId) (a_g a_gw a_gk a_r a_rs a_rl a_ro a_x a_b a_v a_h a_f a_u a_t a_n : Nat) (x_sav : Int32) (x_err : Int32) (x_rea : Int32) (x_det : Int32) (x_com : Int32) (v_gw : Nat → Int32) (v_gk : Nat → Int32) (v_rs : Nat → Int32) (v_ro : Nat → Int32) (p0 : Int32) (sz : Nat) (r : Nat × Int32 × (Nat → Int32) × (Nat → Int32)) (h : fX7_reach v_gw v_gk v_rs v_ro p0 = some r) : ThI l yX7_reach cX7_reach 2 .int ({ frames := 7, cells := 1, slots := 6, locals := 111 } : Room) D T sz [(a_g, .inr (1, [.ref a_gw, .ref a_gk])), (a_r, .inr (4, [.ref a_g, .ref a_rs, .ref a_rl, .ref a_ro])), (a_x, .inr (7, [.ref a_g, .ref a_b, .ref a_v, .ref a_h, .ref a_r, .ref a_f, .ref a_u, .ref a_t, .ref a_n, .int x_sav, .int x_err, .int x_rea, .int x_det, .int x_com])), (a_gw, .inl (T 0, 90, .inl v_gw)), (a_gk, .inl (T 0, 18, .inl v_gk)), (a_rs, .inl (T 0, 45, .inl v_rs)), (a_ro, .inl (T 1, 45, .inl v_ro))] [(a_g, .inr (1, [.ref a_gw, .ref a_gk])), (a_r, .inr (4, [.ref a_g, .ref a_rs, .ref a_rl, .ref a_ro])), (a_x, .inr (7, [.ref a_g, .ref a_b, .ref a_v, .ref a_h, .ref a_r, .ref a_f, .ref a_u, .ref a_t, .ref a_n, .int x_sav, .int x_err, .int x_rea, .int x_det, .int x_com])), (a_gw, .inl (T 0, 90, .inl v_gw)), (a_gk, .inl (T 0, 18, .inl v_gk)), (a_rs, .inl (T 0, 45, .inl r.2.2.1)), (a_ro, .inl (T 1, 45, .inl r.2.2.2))] [.ref a_x, .int p0] r.1 r.2.1 := by
  unfold fX7_reach at h
  refine thMetI hnt (by decide +kernel) rfl (fun p e s m args below meth c Q A C hE hA hZ hP hD hS hret ls hl => ?_)
  have hx := C.1
  have hb := C.2.1
  have hl : lv_has ls 2 [(0, .ref a_x), (1, .int p0)] := hl
  refine lv_aload_n hx hb dX7_reach_0 rfl (lv_at hl 0 rfl) ?_
  refine lv_iload_n hx hb dX7_reach_1 rfl (lv_at hl 1 rfl) ?_
  replace h := bnd h; obtain ⟨q1, e2, h⟩ := h
  refine thVv (ws1 := [(a_g, .inr (1, [.ref a_gw, .ref a_gk])), (a_r, .inr (4, [.ref a_g, .ref a_rs, .ref a_rl, .ref a_ro])), (a_x, .inr (7, [.ref a_g, .ref a_b, .ref a_v, .ref a_h, .ref a_r, .ref a_f, .ref a_u, .ref a_t, .ref a_n, .int x_sav, .int x_err, .int x_rea, .int x_det, .int x_com])), (a_gw, .inl (T 0, 90, .inl v_gw)), (a_gk, .inl (T 0, 18, .inl v_gk)), (a_rs, .inl (T 0, 45, .inl v_rs)), (a_ro, .inl (T 1, 45, .inl v_ro))]) C hE hZ hP hD hS hA (kX7_demandWhale l hZ.1 D T a_g a_gw a_gk a_x a_b a_v a_h a_r a_f a_u a_t a_n x_sav x_err x_rea x_det x_com v_gk p0 _ q1 e2) mX7_demandWhale qLX7_138 [0, 2, 4] [1, 3, 5, 6] 2 rfl rfl rfl rfl rfl rfl rfl rfl rfl ⟨Nat.le_of_ble_eq_true rfl, Nat.le_of_ble_eq_true rfl⟩ rfl hl.1 rfl (Nat.le_of_ble_eq_true rfl) dX7_reach_2 ⟨Nat.le_of_ble_eq_true rfl, Nat.le_of_ble_eq_true rfl⟩ ?_ ?_
  · clear hP hD hS; intro hx0 H locs ce q9 hP hD hS g1 g2 g3
    replace h := ite_f (Nat.ne_of_gt hx0) h
    replace h := Option.some.inj h
    exact hret.2.1 _ _ _ _ _ _ _ _ _ (Nat.le_of_ble_eq_true rfl) (Nat.le_of_ble_eq_true rfl) (by rw [← h]; exact hx0) (by rw [← h]; exact hP) hS g1 g2 (by rw [← h]; exact g3)
  · clear hP hD hS; intro hx0 H locs hP hD hS
    replace h := ite_t hx0 h
    refine lv_aload_n hx hb dX7_reach_5 rfl (lv_at hl 0 rfl) ?_
    refine getF (q0 := 2) (k0 := 0) (v := .ref a_g) C hE hP inA7 rfl rfl (by decide) qFX7_10 rfl rfl dX7_reach_6 ?_
    replace h := bnd h; obtain ⟨q3, e4, h⟩ := h
    refine rdV C hE hP (kX1_isOver l D T a_g a_gw a_gk v_gk q3 e4) mX1_isOver qLX7_196 [0, 4] 0 rfl rfl rfl rfl ⟨rfl, rfl⟩ ⟨Nat.le_of_ble_eq_true rfl, Nat.le_of_ble_eq_true rfl⟩ rfl hl.1 rfl (Nat.le_of_ble_eq_true rfl) dX7_reach_9 ⟨Nat.le_of_ble_eq_true rfl, Nat.le_of_ble_eq_true rfl⟩ ?_
    refine lv_if_ne (tgt := 37) hx hb dX7_reach_12 (by decide) (fun c5 => ?_) (fun c5 => ?_)
    · replace h := ite_f c5 h
      refine lv_iconst (v := 0) hx hb dX7_reach_37 (by decide) ?_
      replace h := Option.some.inj h
      exact hret.1 _ _ _ _ _ _ _ _ (Nat.le_of_ble_eq_true rfl) (Nat.le_of_ble_eq_true rfl) dX7_reach_38 rfl (by rw [← h]) (by rw [← h] <;> rfl) (by rw [← h]; exact hP) hS
    · replace h := ite_t c5 h
      refine lv_aload_n hx hb dX7_reach_15 rfl (lv_at hl 0 rfl) ?_
      refine getF (q0 := 2) (k0 := 0) (v := .ref a_g) C hE hP inA7 rfl rfl (by decide) qFX7_10 rfl rfl dX7_reach_16 ?_
      refine lv_iload_n hx hb dX7_reach_19 rfl (lv_at hl 1 rfl) ?_
      replace h := bnd h; obtain ⟨q6, e7, h⟩ := h
      refine rdV C hE hP (kX1_isPlaying l D T a_g a_gw a_gk v_gw p0 q6 e7) mX1_isPlaying qLX7_200 [0, 3] 0 rfl rfl rfl rfl ⟨rfl, rfl⟩ ⟨Nat.le_of_ble_eq_true rfl, Nat.le_of_ble_eq_true rfl⟩ rfl hl.1 rfl (Nat.le_of_ble_eq_true rfl) dX7_reach_20 ⟨Nat.le_of_ble_eq_true rfl, Nat.le_of_ble_eq_true rfl⟩ ?_
      refine lv_if_eq (tgt := 37) hx hb dX7_reach_23 (by decide) (fun c8 => ?_) (fun c8 => ?_)
      · replace h := ite_t c8 h
        refine lv_iconst (v := 0) hx hb dX7_reach_37 (by decide) ?_
        replace h := Option.some.inj h
        exact hret.1 _ _ _ _ _ _ _ _ (Nat.le_of_ble_eq_true rfl) (Nat.le_of_ble_eq_true rfl) dX7_reach_38 rfl (by rw [← h]) (by rw [← h] <;> rfl) (by rw [← h]; exact hP) hS
      · replace h := ite_f c8 h
        refine lv_aload_n hx hb dX7_reach_26 rfl (lv_at hl 0 rfl) ?_
        refine getF (q0 := 2) (k0 := 0) (v := .ref a_g) C hE hP inA7 rfl rfl (by decide) qFX7_10 rfl rfl dX7_reach_27 ?_
        refine lv_iload_n hx hb dX7_reach_30 rfl (lv_at hl 1 rfl) ?_
        replace h := bnd h; obtain ⟨q9, e10, h⟩ := h
        refine rdV C hE hP (kX1_isStranded l D T a_g a_gw a_gk v_gw v_gk p0 q9 e10) mX1_isStranded qLX7_203 [0, 3, 4] 0 rfl rfl rfl rfl ⟨rfl, rfl⟩ ⟨Nat.le_of_ble_eq_true rfl, Nat.le_of_ble_eq_true rfl⟩ rfl hl.1 rfl (Nat.le_of_ble_eq_true rfl) dX7_reach_31 ⟨Nat.le_of_ble_eq_true rfl, Nat.le_of_ble_eq_true rfl⟩ ?_
        refine lv_if_eq (tgt := 39) hx hb dX7_reach_34 (by decide) (fun c11 => ?_) (fun c11 => ?_)
        · replace h := ite_t c11 h
          refine lv_aload_n hx hb dX7_reach_39 rfl (lv_at hl 0 rfl) ?_
          refine getF (q0 := 2) (k0 := 4) (v := .ref a_r) C hE hP inA7 rfl rfl (by decide) qFX7_34 rfl rfl dX7_reach_40 ?_
          refine lv_iload_n hx hb dX7_reach_43 rfl (lv_at hl 1 rfl) ?_
          replace h := bnd h; obtain ⟨q12, e13, h⟩ := h
          refine wrVv (ws1 := [(a_g, .inr (1, [.ref a_gw, .ref a_gk])), (a_r, .inr (4, [.ref a_g, .ref a_rs, .ref a_rl, .ref a_ro])), (a_x, .inr (7, [.ref a_g, .ref a_b, .ref a_v, .ref a_h, .ref a_r, .ref a_f, .ref a_u, .ref a_t, .ref a_n, .int x_sav, .int x_err, .int x_rea, .int x_det, .int x_com])), (a_gw, .inl (T 0, 90, .inl v_gw)), (a_gk, .inl (T 0, 18, .inl v_gk)), (a_rs, .inl (T 0, 45, .inl q12.1)), (a_ro, .inl (T 1, 45, .inl q12.2))]) C hE hP hD hS hA (kX4_findBySpreading l D T a_g a_gw a_gk a_r a_rs a_rl a_ro v_gw v_gk v_rs v_ro p0 _ q12 e13) mX4_findBySpreading qLX7_181 [0, 1, 3, 4, 5, 6] [2] 1 rfl rfl rfl rfl rfl rfl rfl rfl rfl ⟨rfl, rfl⟩ ⟨Nat.le_of_ble_eq_true rfl, Nat.le_of_ble_eq_true rfl⟩ rfl hl.1 rfl (Nat.le_of_ble_eq_true rfl) dX7_reach_44 ⟨Nat.le_of_ble_eq_true rfl, Nat.le_of_ble_eq_true rfl⟩ ?_; clear hP hD hS; intro H locs hP hD hS
          refine lv_aload_n hx hb dX7_reach_47 rfl (lv_at hl 0 rfl) ?_
          refine getF (q0 := 2) (k0 := 4) (v := .ref a_r) C hE hP inA7 rfl rfl (by decide) qFX7_34 rfl rfl dX7_reach_48 ?_
          refine lv_aload_n hx hb dX7_reach_51 rfl (lv_at hl 0 rfl) ?_
          refine getF (q0 := 2) (k0 := 0) (v := .ref a_g) C hE hP inA7 rfl rfl (by decide) qFX7_10 rfl rfl dX7_reach_52 ?_
          refine lv_iload_n hx hb dX7_reach_55 rfl (lv_at hl 1 rfl) ?_
          refine lv_iconst (v := 2) hx hb dX7_reach_56 (by decide) ?_
          replace h := bnd h; obtain ⟨q14, e15, h⟩ := h
          refine rdV C hE hP (kX1_of l D T a_g a_gw a_gk v_gw p0 2 q14 e15) mX1_of qLX7_148 [0, 3] 0 rfl rfl rfl rfl ⟨rfl, rfl⟩ ⟨Nat.le_of_ble_eq_true rfl, Nat.le_of_ble_eq_true rfl⟩ rfl hl.1 rfl (Nat.le_of_ble_eq_true rfl) dX7_reach_57 ⟨Nat.le_of_ble_eq_true rfl, Nat.le_of_ble_eq_true rfl⟩ ?_
          refine lv_aload_n hx hb dX7_reach_60 rfl (lv_at hl 0 rfl) ?_
          refine getF (q0 := 2) (k0 := 0) (v := .ref a_g) C hE hP inA7 rfl rfl (by decide) qFX7_10 rfl rfl dX7_reach_61 ?_
          refine lv_iload_n hx hb dX7_reach_64 rfl (lv_at hl 1 rfl) ?_
          refine lv_iconst (v := 3) hx hb dX7_reach_65 (by decide) ?_
          replace h := bnd h; obtain ⟨q16, e17, h⟩ := h
          refine rdV C hE hP (kX1_of l D T a_g a_gw a_gk v_gw p0 3 q16 e17) mX1_of qLX7_148 [0, 3] 0 rfl rfl rfl rfl ⟨rfl, rfl⟩ ⟨Nat.le_of_ble_eq_true rfl, Nat.le_of_ble_eq_true rfl⟩ rfl hl.1 rfl (Nat.le_of_ble_eq_true rfl) dX7_reach_66 ⟨Nat.le_of_ble_eq_true rfl, Nat.le_of_ble_eq_true rfl⟩ ?_
          refine va_mmin hx hb (C.2.2.1.trans hl.1.symm) C.2.2.2.1 (C.2.2.2.2 _ qLX7_206) (C.2.2.2.2 _ qMs_min) (C.2.2.2.2 _ qMi) (C.2.2.2.2 _ qMc_min) (Nat.le_of_ble_eq_true rfl) (Nat.le_of_ble_eq_true rfl) (Nat.le_of_ble_eq_true rfl) (Nat.le_of_ble_eq_true rfl) dX7_reach_69 ?_
          replace h := bnd h; obtain ⟨q18, e19, h⟩ := h
          refine rdV C hE hP (kX4_countWithin l D T a_r a_g a_rs a_rl a_ro q12.1 (if q16 < q14 then q16 else q14) q18 e19) mX4_countWithin qLX7_211 [1, 5] 1 rfl rfl rfl rfl ⟨rfl, rfl⟩ ⟨Nat.le_of_ble_eq_true rfl, Nat.le_of_ble_eq_true rfl⟩ rfl hl.1 rfl (Nat.le_of_ble_eq_true rfl) dX7_reach_72 ⟨Nat.le_of_ble_eq_true rfl, Nat.le_of_ble_eq_true rfl⟩ ?_
          replace h := Option.some.inj h
          exact hret.1 _ _ _ _ _ _ _ _ (Nat.le_of_ble_eq_true rfl) (Nat.le_of_ble_eq_true rfl) dX7_reach_75 rfl (by rw [← h]) (by rw [← h] <;> rfl) (by rw [← h]; exact hP) hS
        · replace h := ite_f c11 h
          refine lv_iconst (v := 0) hx hb dX7_reach_37 (by decide) ?_
          replace h := Option.some.inj h
          exact hret.1 _ _ _ _ _ _ _ _ (Nat.le_of_ble_eq_true rfl) (Nat.le_of_ble_eq_true rfl) dX7_reach_38 rfl (by rw [← h]) (by rw [← h] <;> rfl) (by rw [← h]; exact hP) hS

def fX7_demandStrike_14 : Option Nat :=
  some 1
def fX7_demandStrike (p0 : Int32) (p1 : Int32) : Option Nat :=
  if (fX7_isWay p0) = 0 then
    fX7_demandStrike_14
  else
    if (fX7_isForce p1) = 0 then
      fX7_demandStrike_14
    else
      some 0
set_option maxHeartbeats 4000000 in
set_option maxRecDepth 100000 in
theorem lX7_demandStrike_14 {p : Program} {l : Launch} {e : Env} {s : State} {m : MethodId} {args : Array Value} {below : List Frame} {meth : Method} {c : Code} {Q : State → Prop} {D : va_G} {T : Nat → ClassId} {A : Nat → Prop} {r : Nat} (C : CallFix p m c cX7_demandStrike 3 s args aw RX7) (hE : eK D T s) (hA : ∀ q : Nat, s.heap.size ≤ q → A q) (hZ : eX l A s) (hret : ThRetV p l e ({ frames := 6, cells := 1, slots := 6, locals := 90 } : Room) s m args below meth c Q cX7_demandStrike D A [] r ∧ ThOut p l e ({ frames := 6, cells := 1, slots := 6, locals := 90 } : Room) s m args below meth c Q D A [] r ∧ ThThr p l e ({ frames := 6, cells := 1, slots := 6, locals := 90 } : Room) s m args below meth c Q cX7_demandStrike RX7 D A [] r) {H : Heap} {locs : List Loc} (hPD : va_PD D A [] H) (hS : va_S A s.heap H locs) (ls : Array Slot) (hl : lv_has ls 3 []) (h : fX7_demandStrike_14 = some r) : W p l e ({ frames := 6, cells := 1, slots := 6, locals := 90 } : Room) s m args below meth c H locs 0 0 Q (F0 m 14 ls []) := by
  have hx := C.1
  have hb := C.2.1
  obtain ⟨hP, hD⟩ := hPD
  unfold fX7_demandStrike_14 at h
  replace h := Option.some.inj h
  exact hret.2.2 _ _ _ _ _ _ _ 141 145 407 _ "no such way or force" (by rw [← h]; exact thrX7_141_145_1) (by decide +kernel) dX7_demandStrike_14 dX7_demandStrike_17 (Or.inr ⟨dX7_demandStrike_18, dX7_demandStrike_21, dX7_demandStrike_24⟩) (Nat.le_of_ble_eq_true rfl) (Nat.le_of_ble_eq_true rfl) (Nat.le_of_ble_eq_true rfl) (Nat.le_of_ble_eq_true rfl) (hl.1.trans C.2.2.1.symm) (by rw [← h]; exact (Nat.le_of_ble_eq_true rfl)) hP hS
set_option maxHeartbeats 4000000 in
set_option maxRecDepth 100000 in
theorem kX7_demandStrike (l : Launch) (hnt : l.stackTraces = false) (D : va_G) (T : Nat → ClassId) (a_x : Nat) (p0 : Int32) (p1 : Int32) (sz : Nat) (r : Nat) (h : fX7_demandStrike p0 p1 = some r) : ThV l yX7_demandStrike cX7_demandStrike 3 ({ frames := 6, cells := 1, slots := 6, locals := 90 } : Room) D T sz [] [] [.ref a_x, .int p0, .int p1] r := by
  unfold fX7_demandStrike at h
  refine thMetV hnt (by decide +kernel) rfl (fun p e s m args below meth c Q A C hE hA hZ hP hD hS hret ls hl => ?_)
  have hx := C.1
  have hb := C.2.1
  have hl : lv_has ls 3 [(0, .ref a_x), (1, .int p0), (2, .int p1)] := hl
  refine lv_iload_n hx hb dX7_demandStrike_0 rfl (lv_at hl 1 rfl) ?_
  refine rdS C hE hP (kX7_isWay l D T p0) mX7_isWay qLX7_401 [] rfl ⟨rfl, rfl⟩ ⟨Nat.le_of_ble_eq_true rfl, Nat.le_of_ble_eq_true rfl⟩ rfl hl.1 rfl (Nat.le_of_ble_eq_true rfl) dX7_demandStrike_1 ⟨Nat.le_of_ble_eq_true rfl, Nat.le_of_ble_eq_true rfl⟩ ?_
  refine lv_if_eq (tgt := 14) hx hb dX7_demandStrike_4 (by decide) (fun c1 => ?_) (fun c1 => ?_)
  · replace h := ite_t c1 h
    exact lX7_demandStrike_14 C hE hA hZ hret ⟨hP, hD⟩ hS _ (lv_sub hl [] rfl) h
  · replace h := ite_f c1 h
    refine lv_iload_n hx hb dX7_demandStrike_7 rfl (lv_at hl 2 rfl) ?_
    refine rdS C hE hP (kX7_isForce l D T p1) mX7_isForce qLX7_404 [] rfl ⟨rfl, rfl⟩ ⟨Nat.le_of_ble_eq_true rfl, Nat.le_of_ble_eq_true rfl⟩ rfl hl.1 rfl (Nat.le_of_ble_eq_true rfl) dX7_demandStrike_8 ⟨Nat.le_of_ble_eq_true rfl, Nat.le_of_ble_eq_true rfl⟩ ?_
    refine lv_if_ne (tgt := 25) hx hb dX7_demandStrike_11 (by decide) (fun c2 => ?_) (fun c2 => ?_)
    · replace h := ite_f c2 h
      replace h := Option.some.inj h
      exact hret.1 _ _ _ _ _ _ (Nat.le_of_ble_eq_true rfl) (Nat.le_of_ble_eq_true rfl) dX7_demandStrike_25 (by rw [← h]) hP hS
    · replace h := ite_t c2 h
      exact lX7_demandStrike_14 C hE hA hZ hret ⟨hP, hD⟩ hS _ (lv_sub hl [] rfl) h

def fX0_endByCells (f_net : Int32) (v_gw : Nat → Int32) (v_gk : Nat → Int32) (p0 : Int32) (p1 : Int32) (p2 : Int32) : Option (Int32 × Int32) :=
  (fX0_goByCells f_net v_gw v_gk p0 p1 p2).bind fun q1 =>
  if q1.1 < 45 then
    some (q1.1, q1.2)
  else
    (fX1_isFoulBy v_gw v_gk p0).bind fun q4 =>
    if q4 = 0 then
      some (q1.1, q1.2)
    else
      some (22, q1.2)
set_option maxHeartbeats 4000000 in
set_option maxRecDepth 100000 in
theorem kX0_endByCells (l : Launch) (D : va_G) (T : Nat → ClassId) (a_g a_gw a_gk a_f : Nat) (f_net : Int32) (v_gw : Nat → Int32) (v_gk : Nat → Int32) (p0 : Int32) (p1 : Int32) (p2 : Int32) (sz : Nat) (r : Int32 × Int32) (h : fX0_endByCells f_net v_gw v_gk p0 p1 p2 = some r) : WrI l yX0_endByCells cX0_endByCells 5 .int ({ frames := 4, cells := 0, slots := 0, locals := 89 } : Room) D T sz [(a_g, .inr (1, [.ref a_gw, .ref a_gk])), (a_f, .inr (0, [.ref a_g, .int f_net])), (a_gw, .inl (T 0, 90, .inl v_gw)), (a_gk, .inl (T 0, 18, .inl v_gk))] [(a_g, .inr (1, [.ref a_gw, .ref a_gk])), (a_f, .inr (0, [.ref a_g, .int r.2])), (a_gw, .inl (T 0, 90, .inl v_gw)), (a_gk, .inl (T 0, 18, .inl v_gk))] [.ref a_f, .int p0, .int p1, .int p2] r.1 := by
  unfold fX0_endByCells at h
  refine wrMet (by decide +kernel) rfl (fun p e s m args below meth c Q A C hE hA hP hD hS hret ls hl => ?_)
  have hx := C.1
  have hb := C.2.1
  have hl : lv_has ls 5 [(0, .ref a_f), (1, .int p0), (2, .int p1), (3, .int p2)] := hl
  refine lv_aload_n hx hb dX0_endByCells_0 rfl (lv_at hl 0 rfl) ?_
  refine lv_iload_n hx hb dX0_endByCells_1 rfl (lv_at hl 1 rfl) ?_
  refine lv_iload_n hx hb dX0_endByCells_2 rfl (lv_at hl 2 rfl) ?_
  refine lv_iload_n hx hb dX0_endByCells_3 rfl (lv_at hl 3 rfl) ?_
  replace h := bnd h; obtain ⟨q1, e2, h⟩ := h
  refine wrVi (ws1 := [(a_g, .inr (1, [.ref a_gw, .ref a_gk])), (a_f, .inr (0, [.ref a_g, .int q1.2])), (a_gw, .inl (T 0, 90, .inl v_gw)), (a_gk, .inl (T 0, 18, .inl v_gk))]) C hE hP hD hS hA (kX0_goByCells l D T a_g a_gw a_gk a_f f_net v_gw v_gk p0 p1 p2 _ q1 e2) mX0_goByCells qLX0_19 [0, 1, 2, 3] [] 1 rfl rfl rfl rfl rfl rfl rfl rfl rfl ⟨rfl, rfl⟩ ⟨Nat.le_of_ble_eq_true rfl, Nat.le_of_ble_eq_true rfl⟩ rfl hl.1 rfl (Nat.le_of_ble_eq_true rfl) dX0_endByCells_4 ⟨Nat.le_of_ble_eq_true rfl, Nat.le_of_ble_eq_true rfl⟩ ?_; clear hP hD hS; intro H locs hP hD hS
  refine lv_istore (lv' := [(4, .int q1.1), (0, .ref a_f), (1, .int p0), (2, .int p1), (3, .int p2)]) hx hb dX0_endByCells_7 hl (by decide) rfl (fun ls hl => ?_)
  refine lv_iload hx hb dX0_endByCells_9 (lv_at hl 0 rfl) ?_
  refine lv_bipush (v := 45) hx hb dX0_endByCells_11 (by decide) ?_
  refine lv_icmp_lt (tgt := 32) hx hb dX0_endByCells_13 (by decide) (fun c3 => ?_) (fun c3 => ?_)
  · replace h := ite_t c3 h
    refine lv_iload hx hb dX0_endByCells_32 (lv_at hl 0 rfl) ?_
    replace h := Option.some.inj h
    exact hret _ _ _ _ _ _ dX0_endByCells_34 rfl (by rw [← h] <;> rfl) (by rw [← h]; exact hP) hS
  · replace h := ite_f c3 h
    refine lv_aload_n hx hb dX0_endByCells_16 rfl (lv_at hl 1 rfl) ?_
    refine getF (q0 := 1) (k0 := 0) (v := .ref a_g) C hE hP inA0 rfl rfl (by decide) qFX0_15 rfl rfl dX0_endByCells_17 ?_
    refine lv_iload_n hx hb dX0_endByCells_20 rfl (lv_at hl 2 rfl) ?_
    replace h := bnd h; obtain ⟨q4, e5, h⟩ := h
    refine rdV C hE hP (kX1_isFoulBy l D T a_g a_gw a_gk v_gw v_gk p0 q4 e5) mX1_isFoulBy qLX0_23 [0, 2, 3] 0 rfl rfl rfl rfl ⟨rfl, rfl⟩ ⟨Nat.le_of_ble_eq_true rfl, Nat.le_of_ble_eq_true rfl⟩ rfl hl.1 rfl (Nat.le_of_ble_eq_true rfl) dX0_endByCells_21 ⟨Nat.le_of_ble_eq_true rfl, Nat.le_of_ble_eq_true rfl⟩ ?_
    refine lv_if_eq (tgt := 32) hx hb dX0_endByCells_24 (by decide) (fun c6 => ?_) (fun c6 => ?_)
    · replace h := ite_t c6 h
      refine lv_iload hx hb dX0_endByCells_32 (lv_at hl 0 rfl) ?_
      replace h := Option.some.inj h
      exact hret _ _ _ _ _ _ dX0_endByCells_34 rfl (by rw [← h] <;> rfl) (by rw [← h]; exact hP) hS
    · replace h := ite_f c6 h
      refine lv_bipush (v := 22) hx hb dX0_endByCells_27 (by decide) ?_
      refine lv_goto (tgt := 34) hx hb dX0_endByCells_29 (by decide) ?_
      replace h := Option.some.inj h
      exact hret _ _ _ _ _ _ dX0_endByCells_34 rfl (by rw [← h] <;> rfl) (by rw [← h]; exact hP) hS

def fX7_would (f_net : Int32) (v_gw : Nat → Int32) (v_gk : Nat → Int32) (p0 : Int32) (p1 : Int32) (p2 : Int32) : Option (Nat × Int32 × Int32) :=
  (fX7_demandWhale v_gk p0).bind fun q1 =>
  if q1 = 0 then
    (fX7_demandStrike p1 p2).bind fun q3 =>
    if q3 = 0 then
      (fX0_endByCells f_net v_gw v_gk p0 p1 p2).bind fun q5 =>
      some (0, q5.1, q5.2)
    else
      some (q3, 0, f_net)
  else
    some (q1, 0, f_net)
set_option maxHeartbeats 4000000 in
set_option maxRecDepth 100000 in
theorem kX7_would (l : Launch) (hnt : l.stackTraces = false) (D : va_G) (T : Nat → ClassId) (a_g a_gw a_gk a_f a_x a_b a_v a_h a_r a_u a_t a_n : Nat) (f_net : Int32) (x_sav : Int32) (x_err : Int32) (x_rea : Int32) (x_det : Int32) (x_com : Int32) (v_gw : Nat → Int32) (v_gk : Nat → Int32) (p0 : Int32) (p1 : Int32) (p2 : Int32) (sz : Nat) (r : Nat × Int32 × Int32) (h : fX7_would f_net v_gw v_gk p0 p1 p2 = some r) : ThI l yX7_would cX7_would 4 .int ({ frames := 7, cells := 2, slots := 12, locals := 113 } : Room) D T sz [(a_g, .inr (1, [.ref a_gw, .ref a_gk])), (a_f, .inr (0, [.ref a_g, .int f_net])), (a_x, .inr (7, [.ref a_g, .ref a_b, .ref a_v, .ref a_h, .ref a_r, .ref a_f, .ref a_u, .ref a_t, .ref a_n, .int x_sav, .int x_err, .int x_rea, .int x_det, .int x_com])), (a_gw, .inl (T 0, 90, .inl v_gw)), (a_gk, .inl (T 0, 18, .inl v_gk))] [(a_g, .inr (1, [.ref a_gw, .ref a_gk])), (a_f, .inr (0, [.ref a_g, .int r.2.2])), (a_x, .inr (7, [.ref a_g, .ref a_b, .ref a_v, .ref a_h, .ref a_r, .ref a_f, .ref a_u, .ref a_t, .ref a_n, .int x_sav, .int x_err, .int x_rea, .int x_det, .int x_com])), (a_gw, .inl (T 0, 90, .inl v_gw)), (a_gk, .inl (T 0, 18, .inl v_gk))] [.ref a_x, .int p0, .int p1, .int p2] r.1 r.2.1 := by
  unfold fX7_would at h
  refine thMetI hnt (by decide +kernel) rfl (fun p e s m args below meth c Q A C hE hA hZ hP hD hS hret ls hl => ?_)
  have hx := C.1
  have hb := C.2.1
  have hl : lv_has ls 4 [(0, .ref a_x), (1, .int p0), (2, .int p1), (3, .int p2)] := hl
  refine lv_aload_n hx hb dX7_would_0 rfl (lv_at hl 0 rfl) ?_
  refine lv_iload_n hx hb dX7_would_1 rfl (lv_at hl 1 rfl) ?_
  replace h := bnd h; obtain ⟨q1, e2, h⟩ := h
  refine thVv (ws1 := [(a_g, .inr (1, [.ref a_gw, .ref a_gk])), (a_f, .inr (0, [.ref a_g, .int f_net])), (a_x, .inr (7, [.ref a_g, .ref a_b, .ref a_v, .ref a_h, .ref a_r, .ref a_f, .ref a_u, .ref a_t, .ref a_n, .int x_sav, .int x_err, .int x_rea, .int x_det, .int x_com])), (a_gw, .inl (T 0, 90, .inl v_gw)), (a_gk, .inl (T 0, 18, .inl v_gk))]) C hE hZ hP hD hS hA (kX7_demandWhale l hZ.1 D T a_g a_gw a_gk a_x a_b a_v a_h a_r a_f a_u a_t a_n x_sav x_err x_rea x_det x_com v_gk p0 _ q1 e2) mX7_demandWhale qLX7_138 [0, 2, 4] [1, 3] 2 rfl rfl rfl rfl rfl rfl rfl rfl rfl ⟨Nat.le_of_ble_eq_true rfl, Nat.le_of_ble_eq_true rfl⟩ rfl hl.1 rfl (Nat.le_of_ble_eq_true rfl) dX7_would_2 ⟨Nat.le_of_ble_eq_true rfl, Nat.le_of_ble_eq_true rfl⟩ ?_ ?_
  · clear hP hD hS; intro hx0 H locs ce q9 hP hD hS g1 g2 g3
    replace h := ite_f (Nat.ne_of_gt hx0) h
    replace h := Option.some.inj h
    exact hret.2.1 _ _ _ _ _ _ _ _ _ (Nat.le_of_ble_eq_true rfl) (Nat.le_of_ble_eq_true rfl) (by rw [← h]; exact hx0) (by rw [← h]; exact hP) hS g1 g2 (by rw [← h]; exact g3)
  · clear hP hD hS; intro hx0 H locs hP hD hS
    replace h := ite_t hx0 h
    refine lv_aload_n hx hb dX7_would_5 rfl (lv_at hl 0 rfl) ?_
    refine lv_iload_n hx hb dX7_would_6 rfl (lv_at hl 2 rfl) ?_
    refine lv_iload_n hx hb dX7_would_7 rfl (lv_at hl 3 rfl) ?_
    replace h := bnd h; obtain ⟨q3, e4, h⟩ := h
    refine thVv (ws1 := [(a_g, .inr (1, [.ref a_gw, .ref a_gk])), (a_f, .inr (0, [.ref a_g, .int f_net])), (a_x, .inr (7, [.ref a_g, .ref a_b, .ref a_v, .ref a_h, .ref a_r, .ref a_f, .ref a_u, .ref a_t, .ref a_n, .int x_sav, .int x_err, .int x_rea, .int x_det, .int x_com])), (a_gw, .inl (T 0, 90, .inl v_gw)), (a_gk, .inl (T 0, 18, .inl v_gk))]) C hE hZ hP hD hS hA (kX7_demandStrike l hZ.1 D T a_x p1 p2 _ q3 e4) mX7_demandStrike qLX7_214 [] [0, 1, 2, 3, 4] 2 rfl rfl rfl rfl rfl rfl rfl rfl rfl ⟨Nat.le_of_ble_eq_true rfl, Nat.le_of_ble_eq_true rfl⟩ rfl hl.1 rfl (Nat.le_of_ble_eq_true rfl) dX7_would_8 ⟨Nat.le_of_ble_eq_true rfl, Nat.le_of_ble_eq_true rfl⟩ ?_ ?_
    · clear hP hD hS; intro hx0 H locs ce q9 hP hD hS g1 g2 g3
      replace h := ite_f (Nat.ne_of_gt hx0) h
      replace h := Option.some.inj h
      exact hret.2.1 _ _ _ _ _ _ _ _ _ (Nat.le_of_ble_eq_true rfl) (Nat.le_of_ble_eq_true rfl) (by rw [← h]; exact hx0) (by rw [← h]; exact hP) hS g1 g2 (by rw [← h]; exact g3)
    · clear hP hD hS; intro hx0 H locs hP hD hS
      replace h := ite_t hx0 h
      refine lv_aload_n hx hb dX7_would_11 rfl (lv_at hl 0 rfl) ?_
      refine getF (q0 := 2) (k0 := 5) (v := .ref a_f) C hE hP inA7 rfl rfl (by decide) qFX7_41 rfl rfl dX7_would_12 ?_
      refine lv_iload_n hx hb dX7_would_15 rfl (lv_at hl 1 rfl) ?_
      refine lv_iload_n hx hb dX7_would_16 rfl (lv_at hl 2 rfl) ?_
      refine lv_iload_n hx hb dX7_would_17 rfl (lv_at hl 3 rfl) ?_
      replace h := bnd h; obtain ⟨q5, e6, h⟩ := h
      refine wrVi (ws1 := [(a_g, .inr (1, [.ref a_gw, .ref a_gk])), (a_f, .inr (0, [.ref a_g, .int q5.2])), (a_x, .inr (7, [.ref a_g, .ref a_b, .ref a_v, .ref a_h, .ref a_r, .ref a_f, .ref a_u, .ref a_t, .ref a_n, .int x_sav, .int x_err, .int x_rea, .int x_det, .int x_com])), (a_gw, .inl (T 0, 90, .inl v_gw)), (a_gk, .inl (T 0, 18, .inl v_gk))]) C hE hP hD hS hA (kX0_endByCells l D T a_g a_gw a_gk a_f f_net v_gw v_gk p0 p1 p2 _ q5 e6) mX0_endByCells qLX7_218 [0, 1, 3, 4] [2] 1 rfl rfl rfl rfl rfl rfl rfl rfl rfl ⟨rfl, rfl⟩ ⟨Nat.le_of_ble_eq_true rfl, Nat.le_of_ble_eq_true rfl⟩ rfl hl.1 rfl (Nat.le_of_ble_eq_true rfl) dX7_would_18 ⟨Nat.le_of_ble_eq_true rfl, Nat.le_of_ble_eq_true rfl⟩ ?_; clear hP hD hS; intro H locs hP hD hS
      replace h := Option.some.inj h
      exact hret.1 _ _ _ _ _ _ _ _ (Nat.le_of_ble_eq_true rfl) (Nat.le_of_ble_eq_true rfl) dX7_would_21 rfl (by rw [← h]) (by rw [← h] <;> rfl) (by rw [← h]; exact hP) hS

def fX7_wouldFoul (v_gw : Nat → Int32) (v_gk : Nat → Int32) (p0 : Int32) : Option (Nat × Int32) :=
  (fX7_demandWhale v_gk p0).bind fun q1 =>
  if q1 = 0 then
    (fX1_isFoulBy v_gw v_gk p0).bind fun q3 =>
    some (0, (q3 &&& 1))
  else
    some (q1, 0)
set_option maxHeartbeats 4000000 in
set_option maxRecDepth 100000 in
theorem kX7_wouldFoul (l : Launch) (hnt : l.stackTraces = false) (D : va_G) (T : Nat → ClassId) (a_g a_gw a_gk a_x a_b a_v a_h a_r a_f a_u a_t a_n : Nat) (x_sav : Int32) (x_err : Int32) (x_rea : Int32) (x_det : Int32) (x_com : Int32) (v_gw : Nat → Int32) (v_gk : Nat → Int32) (p0 : Int32) (sz : Nat) (r : Nat × Int32) (h : fX7_wouldFoul v_gw v_gk p0 = some r) : ThI l yX7_wouldFoul cX7_wouldFoul 2 .boolean ({ frames := 7, cells := 1, slots := 6, locals := 111 } : Room) D T sz [(a_g, .inr (1, [.ref a_gw, .ref a_gk])), (a_x, .inr (7, [.ref a_g, .ref a_b, .ref a_v, .ref a_h, .ref a_r, .ref a_f, .ref a_u, .ref a_t, .ref a_n, .int x_sav, .int x_err, .int x_rea, .int x_det, .int x_com])), (a_gw, .inl (T 0, 90, .inl v_gw)), (a_gk, .inl (T 0, 18, .inl v_gk))] [(a_g, .inr (1, [.ref a_gw, .ref a_gk])), (a_x, .inr (7, [.ref a_g, .ref a_b, .ref a_v, .ref a_h, .ref a_r, .ref a_f, .ref a_u, .ref a_t, .ref a_n, .int x_sav, .int x_err, .int x_rea, .int x_det, .int x_com])), (a_gw, .inl (T 0, 90, .inl v_gw)), (a_gk, .inl (T 0, 18, .inl v_gk))] [.ref a_x, .int p0] r.1 r.2 := by
  unfold fX7_wouldFoul at h
  refine thMetI hnt (by decide +kernel) rfl (fun p e s m args below meth c Q A C hE hA hZ hP hD hS hret ls hl => ?_)
  have hx := C.1
  have hb := C.2.1
  have hl : lv_has ls 2 [(0, .ref a_x), (1, .int p0)] := hl
  refine lv_aload_n hx hb dX7_wouldFoul_0 rfl (lv_at hl 0 rfl) ?_
  refine lv_iload_n hx hb dX7_wouldFoul_1 rfl (lv_at hl 1 rfl) ?_
  replace h := bnd h; obtain ⟨q1, e2, h⟩ := h
  refine thVv (ws1 := [(a_g, .inr (1, [.ref a_gw, .ref a_gk])), (a_x, .inr (7, [.ref a_g, .ref a_b, .ref a_v, .ref a_h, .ref a_r, .ref a_f, .ref a_u, .ref a_t, .ref a_n, .int x_sav, .int x_err, .int x_rea, .int x_det, .int x_com])), (a_gw, .inl (T 0, 90, .inl v_gw)), (a_gk, .inl (T 0, 18, .inl v_gk))]) C hE hZ hP hD hS hA (kX7_demandWhale l hZ.1 D T a_g a_gw a_gk a_x a_b a_v a_h a_r a_f a_u a_t a_n x_sav x_err x_rea x_det x_com v_gk p0 _ q1 e2) mX7_demandWhale qLX7_138 [0, 1, 3] [2] 1 rfl rfl rfl rfl rfl rfl rfl rfl rfl ⟨Nat.le_of_ble_eq_true rfl, Nat.le_of_ble_eq_true rfl⟩ rfl hl.1 rfl (Nat.le_of_ble_eq_true rfl) dX7_wouldFoul_2 ⟨Nat.le_of_ble_eq_true rfl, Nat.le_of_ble_eq_true rfl⟩ ?_ ?_
  · clear hP hD hS; intro hx0 H locs ce q9 hP hD hS g1 g2 g3
    replace h := ite_f (Nat.ne_of_gt hx0) h
    replace h := Option.some.inj h
    exact hret.2.1 _ _ _ _ _ _ _ _ _ (Nat.le_of_ble_eq_true rfl) (Nat.le_of_ble_eq_true rfl) (by rw [← h]; exact hx0) hP hS g1 g2 (by rw [← h]; exact g3)
  · clear hP hD hS; intro hx0 H locs hP hD hS
    replace h := ite_t hx0 h
    refine lv_aload_n hx hb dX7_wouldFoul_5 rfl (lv_at hl 0 rfl) ?_
    refine getF (q0 := 1) (k0 := 0) (v := .ref a_g) C hE hP inA7 rfl rfl (by decide) qFX7_10 rfl rfl dX7_wouldFoul_6 ?_
    refine lv_iload_n hx hb dX7_wouldFoul_9 rfl (lv_at hl 1 rfl) ?_
    replace h := bnd h; obtain ⟨q3, e4, h⟩ := h
    refine rdV C hE hP (kX1_isFoulBy l D T a_g a_gw a_gk v_gw v_gk p0 q3 e4) mX1_isFoulBy qLX7_224 [0, 2, 3] 0 rfl rfl rfl rfl ⟨rfl, rfl⟩ ⟨Nat.le_of_ble_eq_true rfl, Nat.le_of_ble_eq_true rfl⟩ rfl hl.1 rfl (Nat.le_of_ble_eq_true rfl) dX7_wouldFoul_10 ⟨Nat.le_of_ble_eq_true rfl, Nat.le_of_ble_eq_true rfl⟩ ?_
    replace h := Option.some.inj h
    exact hret.1 _ _ _ _ _ _ _ _ (Nat.le_of_ble_eq_true rfl) (Nat.le_of_ble_eq_true rfl) dX7_wouldFoul_13 rfl (by rw [← h]) (by rw [← h] <;> rfl) hP hS

def fX7_columnsToGoal (p0 : Int32) (p1 : Int32) : Int32 :=
  if p0 < 45 then
    if p1 = 0 then
      (8 - (p0 - p0 / 9 * 9))
    else
      (p0 - p0 / 9 * 9)
  else
    if p0 = (45 + p1) then
      (-1)
    else
      9
set_option maxHeartbeats 4000000 in
set_option maxRecDepth 100000 in
theorem kX7_columnsToGoal (l : Launch) (D : va_G) (T : Nat → ClassId) (p0 : Int32) (p1 : Int32) : RdI l yX7_columnsToGoal cX7_columnsToGoal 3 .int ({ frames := 0, cells := 0, slots := 0, locals := 0 } : Room) D T [] [.int p0, .int p1] (fX7_columnsToGoal p0 p1) := by
  obtain ⟨r, h⟩ : ∃ r, fX7_columnsToGoal p0 p1 = r := ⟨_, rfl⟩
  rw [h]
  unfold fX7_columnsToGoal at h
  refine rdMet (by decide +kernel) rfl (fun p e s m args below meth c Q C hE hP hret ls hl => ?_)
  have hx := C.1
  have hb := C.2.1
  have hl : lv_has ls 3 [(0, .int p0), (1, .int p1)] := hl
  refine lv_iload_n hx hb dX7_columnsToGoal_0 rfl (lv_at hl 0 rfl) ?_
  refine lv_bipush (v := 45) hx hb dX7_columnsToGoal_1 (by decide) ?_
  refine lv_icmp_lt (tgt := 21) hx hb dX7_columnsToGoal_3 (by decide) (fun c1 => ?_) (fun c1 => ?_)
  · replace h := ite_t c1 h
    refine lv_iload_n hx hb dX7_columnsToGoal_21 rfl (lv_at hl 0 rfl) ?_
    refine lv_bipush (v := 9) hx hb dX7_columnsToGoal_22 (by decide) ?_
    refine lv_irem hx hb dX7_columnsToGoal_24 (by decide) ?_
    refine lv_istore_n (lv' := [(2, .int (p0 - p0 / 9 * 9)), (0, .int p0), (1, .int p1)]) hx hb dX7_columnsToGoal_25 rfl hl (by decide) rfl (fun ls hl => ?_)
    refine lv_iload_n hx hb dX7_columnsToGoal_26 rfl (lv_at hl 2 rfl) ?_
    refine lv_if_ne (tgt := 37) hx hb dX7_columnsToGoal_27 (by decide) (fun c2 => ?_) (fun c2 => ?_)
    · replace h := ite_f c2 h
      refine lv_iload_n hx hb dX7_columnsToGoal_37 rfl (lv_at hl 0 rfl) ?_
      exact hret _ _ _ _ dX7_columnsToGoal_38 rfl h
    · replace h := ite_t c2 h
      refine lv_bipush (v := 8) hx hb dX7_columnsToGoal_30 (by decide) ?_
      refine lv_iload_n hx hb dX7_columnsToGoal_32 rfl (lv_at hl 0 rfl) ?_
      refine lv_isub hx hb dX7_columnsToGoal_33 ?_
      refine lv_goto (tgt := 38) hx hb dX7_columnsToGoal_34 (by decide) ?_
      exact hret _ _ _ _ dX7_columnsToGoal_38 rfl h
  · replace h := ite_f c1 h
    refine lv_iload_n hx hb dX7_columnsToGoal_6 rfl (lv_at hl 0 rfl) ?_
    refine lv_bipush (v := 45) hx hb dX7_columnsToGoal_7 (by decide) ?_
    refine lv_iload_n hx hb dX7_columnsToGoal_9 rfl (lv_at hl 1 rfl) ?_
    refine lv_iadd hx hb dX7_columnsToGoal_10 ?_
    refine lv_icmp_ne (tgt := 18) hx hb dX7_columnsToGoal_11 (by decide) (fun c3 => ?_) (fun c3 => ?_)
    · replace h := ite_f c3 h
      refine lv_bipush (v := 9) hx hb dX7_columnsToGoal_18 (by decide) ?_
      exact hret _ _ _ _ dX7_columnsToGoal_20 rfl h
    · replace h := ite_t c3 h
      refine lv_iconst (v := (-1)) hx hb dX7_columnsToGoal_14 (by decide) ?_
      refine lv_goto (tgt := 20) hx hb dX7_columnsToGoal_15 (by decide) ?_
      exact hret _ _ _ _ dX7_columnsToGoal_20 rfl h

def fX7_bestStrike_80 (v_gw : Nat → Int32) (v_gk : Nat → Int32) (rec19 : Int32 → Int32 → Int32 → Int32 → Int32 → Int32 → Option (Int32 × Int32)) (rec28 : Int32 → Int32 → Int32 → Int32 → Int32 → Int32 → Int32 → Option (Int32 × Int32)) (l1 : Int32) (l2 : Int32) (l3 : Int32) (l4 : Int32) (l5 : Int32) (l6 : Int32) (f_net : Int32) : Option (Int32 × Int32) :=
  rec28 l1 l2 l3 l4 l5 (l6 + 1) f_net
def fX7_bestStrike_28 (v_gw : Nat → Int32) (v_gk : Nat → Int32) (rec19 : Int32 → Int32 → Int32 → Int32 → Int32 → Int32 → Option (Int32 × Int32)) : Nat → Int32 → Int32 → Int32 → Int32 → Int32 → Int32 → Int32 → Option (Int32 × Int32)
  | 0, _, _, _, _, _, _, _ => none
  | k + 1, l1, l2, l3, l4, l5, l6, f_net =>
    (fX1_of v_gw l1 1).bind fun q4 =>
    if q4 < l6 then
      rec19 l1 l2 l3 l4 (l5 + 1) f_net
    else
      (fX0_endByCells f_net v_gw v_gk l1 l5 l6).bind fun q7 =>
      if l4 ≤ (fX7_columnsToGoal q7.1 l2) then
        fX7_bestStrike_80 v_gw v_gk rec19 (fX7_bestStrike_28 v_gw v_gk rec19 k) l1 l2 l3 l4 l5 l6 q7.2
      else
        fX7_bestStrike_80 v_gw v_gk rec19 (fX7_bestStrike_28 v_gw v_gk rec19 k) l1 l2 ((10 * l5) + l6) (fX7_columnsToGoal q7.1 l2) l5 l6 q7.2
def fX7_bestStrike_19 (v_gw : Nat → Int32) (v_gk : Nat → Int32) : Nat → Int32 → Int32 → Int32 → Int32 → Int32 → Int32 → Option (Int32 × Int32)
  | 0, _, _, _, _, _, _ => none
  | k + 1, l1, l2, l3, l4, l5, f_net =>
    if 4 ≤ l5 then
      some (l3, f_net)
    else
      fX7_bestStrike_28 v_gw v_gk (fX7_bestStrike_19 v_gw v_gk k) 64 l1 l2 l3 l4 l5 1 f_net
def fX7_bestStrike (f_net : Int32) (v_gw : Nat → Int32) (v_gk : Nat → Int32) (p0 : Int32) : Option (Int32 × Int32) :=
  (fX1_of v_gw p0 0).bind fun q1 =>
  fX7_bestStrike_19 v_gw v_gk 64 p0 q1 (-1) 9 0 f_net
set_option maxHeartbeats 4000000 in
set_option maxRecDepth 100000 in
theorem lX7_bestStrike_80 {p : Program} {l : Launch} {e : Env} {s : State} {m : MethodId} {args : Array Value} {below : List Frame} {meth : Method} {c : Code} {Q : State → Prop} {D : va_G} {T : Nat → ClassId} {a_g a_gw a_gk a_f a_x a_b a_v a_h a_r a_u a_t a_n : Nat} {x_sav : Int32} {x_err : Int32} {x_rea : Int32} {x_det : Int32} {x_com : Int32} {v_gw : Nat → Int32} {v_gk : Nat → Int32} {A : Nat → Prop} {r : Int32 × Int32} (C : CallFix p m c cX7_bestStrike 8 s args aw RX7) (hE : eK D T s) (hA : ∀ q : Nat, s.heap.size ≤ q → A q) (hret : WrRet p l e ({ frames := 5, cells := 0, slots := 0, locals := 113 } : Room) s m args below meth c Q cX7_bestStrike .int D A [(a_g, .inr (1, [.ref a_gw, .ref a_gk])), (a_f, .inr (0, [.ref a_g, .int r.2])), (a_x, .inr (7, [.ref a_g, .ref a_b, .ref a_v, .ref a_h, .ref a_r, .ref a_f, .ref a_u, .ref a_t, .ref a_n, .int x_sav, .int x_err, .int x_rea, .int x_det, .int x_com])), (a_gw, .inl (T 0, 90, .inl v_gw)), (a_gk, .inl (T 0, 18, .inl v_gk))] r.1) {rec19 : Int32 → Int32 → Int32 → Int32 → Int32 → Int32 → Option (Int32 × Int32)} (hrec19 : ∀ (l1 : Int32) (l2 : Int32) (l3 : Int32) (l4 : Int32) (l5 : Int32) (f_net : Int32) {H : Heap} {locs : List Loc} (hPD : va_PD D A [(a_g, .inr (1, [.ref a_gw, .ref a_gk])), (a_f, .inr (0, [.ref a_g, .int f_net])), (a_x, .inr (7, [.ref a_g, .ref a_b, .ref a_v, .ref a_h, .ref a_r, .ref a_f, .ref a_u, .ref a_t, .ref a_n, .int x_sav, .int x_err, .int x_rea, .int x_det, .int x_com])), (a_gw, .inl (T 0, 90, .inl v_gw)), (a_gk, .inl (T 0, 18, .inl v_gk))] H) (hS : va_S A s.heap H locs) (ls : Array Slot) (hl : lv_has ls 8 [(0, .ref a_x), (1, .int l1), (2, .int l2), (3, .int l3), (4, .int l4), (5, .int l5)]) (h : rec19 l1 l2 l3 l4 l5 f_net = some r), W p l e ({ frames := 5, cells := 0, slots := 0, locals := 113 } : Room) s m args below meth c H locs 0 0 Q (F0 m 19 ls [])) {rec28 : Int32 → Int32 → Int32 → Int32 → Int32 → Int32 → Int32 → Option (Int32 × Int32)} (hrec28 : ∀ (l1 : Int32) (l2 : Int32) (l3 : Int32) (l4 : Int32) (l5 : Int32) (l6 : Int32) (f_net : Int32) {H : Heap} {locs : List Loc} (hPD : va_PD D A [(a_g, .inr (1, [.ref a_gw, .ref a_gk])), (a_f, .inr (0, [.ref a_g, .int f_net])), (a_x, .inr (7, [.ref a_g, .ref a_b, .ref a_v, .ref a_h, .ref a_r, .ref a_f, .ref a_u, .ref a_t, .ref a_n, .int x_sav, .int x_err, .int x_rea, .int x_det, .int x_com])), (a_gw, .inl (T 0, 90, .inl v_gw)), (a_gk, .inl (T 0, 18, .inl v_gk))] H) (hS : va_S A s.heap H locs) (ls : Array Slot) (hl : lv_has ls 8 [(0, .ref a_x), (1, .int l1), (2, .int l2), (3, .int l3), (4, .int l4), (5, .int l5), (6, .int l6)]) (h : rec28 l1 l2 l3 l4 l5 l6 f_net = some r), W p l e ({ frames := 5, cells := 0, slots := 0, locals := 113 } : Room) s m args below meth c H locs 0 0 Q (F0 m 28 ls [])) (l1 : Int32) (l2 : Int32) (l3 : Int32) (l4 : Int32) (l5 : Int32) (l6 : Int32) (f_net : Int32) {H : Heap} {locs : List Loc} (hPD : va_PD D A [(a_g, .inr (1, [.ref a_gw, .ref a_gk])), (a_f, .inr (0, [.ref a_g, .int f_net])), (a_x, .inr (7, [.ref a_g, .ref a_b, .ref a_v, .ref a_h, .ref a_r, .ref a_f, .ref a_u, .ref a_t, .ref a_n, .int x_sav, .int x_err, .int x_rea, .int x_det, .int x_com])), (a_gw, .inl (T 0, 90, .inl v_gw)), (a_gk, .inl (T 0, 18, .inl v_gk))] H) (hS : va_S A s.heap H locs) (ls : Array Slot) (hl : lv_has ls 8 [(0, .ref a_x), (1, .int l1), (2, .int l2), (3, .int l3), (4, .int l4), (5, .int l5), (6, .int l6)]) (h : fX7_bestStrike_80 v_gw v_gk rec19 rec28 l1 l2 l3 l4 l5 l6 f_net = some r) : W p l e ({ frames := 5, cells := 0, slots := 0, locals := 113 } : Room) s m args below meth c H locs 0 0 Q (F0 m 80 ls []) := by
  have hx := C.1
  have hb := C.2.1
  obtain ⟨hP, hD⟩ := hPD
  unfold fX7_bestStrike_80 at h
  refine lv_iinc (v := (l6 + 1)) (lv' := [(6, .int (l6 + 1)), (0, .ref a_x), (1, .int l1), (2, .int l2), (3, .int l3), (4, .int l4), (5, .int l5)]) hx hb dX7_bestStrike_80 hl (k := 6) rfl rfl (by decide) rfl (fun ls hl => ?_)
  refine lv_goto (tgt := 28) hx hb dX7_bestStrike_83 (by decide) ?_
  exact hrec28 l1 l2 l3 l4 l5 (l6 + 1) f_net ⟨hP, hD⟩ hS _ (lv_sub hl [1, 2, 3, 4, 5, 6, 0] rfl) h
set_option maxHeartbeats 4000000 in
set_option maxRecDepth 100000 in
theorem lX7_bestStrike_28 {p : Program} {l : Launch} {e : Env} {s : State} {m : MethodId} {args : Array Value} {below : List Frame} {meth : Method} {c : Code} {Q : State → Prop} {D : va_G} {T : Nat → ClassId} {a_g a_gw a_gk a_f a_x a_b a_v a_h a_r a_u a_t a_n : Nat} {x_sav : Int32} {x_err : Int32} {x_rea : Int32} {x_det : Int32} {x_com : Int32} {v_gw : Nat → Int32} {v_gk : Nat → Int32} {A : Nat → Prop} {r : Int32 × Int32} (C : CallFix p m c cX7_bestStrike 8 s args aw RX7) (hE : eK D T s) (hA : ∀ q : Nat, s.heap.size ≤ q → A q) (hret : WrRet p l e ({ frames := 5, cells := 0, slots := 0, locals := 113 } : Room) s m args below meth c Q cX7_bestStrike .int D A [(a_g, .inr (1, [.ref a_gw, .ref a_gk])), (a_f, .inr (0, [.ref a_g, .int r.2])), (a_x, .inr (7, [.ref a_g, .ref a_b, .ref a_v, .ref a_h, .ref a_r, .ref a_f, .ref a_u, .ref a_t, .ref a_n, .int x_sav, .int x_err, .int x_rea, .int x_det, .int x_com])), (a_gw, .inl (T 0, 90, .inl v_gw)), (a_gk, .inl (T 0, 18, .inl v_gk))] r.1) {rec19 : Int32 → Int32 → Int32 → Int32 → Int32 → Int32 → Option (Int32 × Int32)} (hrec19 : ∀ (l1 : Int32) (l2 : Int32) (l3 : Int32) (l4 : Int32) (l5 : Int32) (f_net : Int32) {H : Heap} {locs : List Loc} (hPD : va_PD D A [(a_g, .inr (1, [.ref a_gw, .ref a_gk])), (a_f, .inr (0, [.ref a_g, .int f_net])), (a_x, .inr (7, [.ref a_g, .ref a_b, .ref a_v, .ref a_h, .ref a_r, .ref a_f, .ref a_u, .ref a_t, .ref a_n, .int x_sav, .int x_err, .int x_rea, .int x_det, .int x_com])), (a_gw, .inl (T 0, 90, .inl v_gw)), (a_gk, .inl (T 0, 18, .inl v_gk))] H) (hS : va_S A s.heap H locs) (ls : Array Slot) (hl : lv_has ls 8 [(0, .ref a_x), (1, .int l1), (2, .int l2), (3, .int l3), (4, .int l4), (5, .int l5)]) (h : rec19 l1 l2 l3 l4 l5 f_net = some r), W p l e ({ frames := 5, cells := 0, slots := 0, locals := 113 } : Room) s m args below meth c H locs 0 0 Q (F0 m 19 ls [])) : ∀ (k : Nat) (l1 : Int32) (l2 : Int32) (l3 : Int32) (l4 : Int32) (l5 : Int32) (l6 : Int32) (f_net : Int32) {H : Heap} {locs : List Loc} (hPD : va_PD D A [(a_g, .inr (1, [.ref a_gw, .ref a_gk])), (a_f, .inr (0, [.ref a_g, .int f_net])), (a_x, .inr (7, [.ref a_g, .ref a_b, .ref a_v, .ref a_h, .ref a_r, .ref a_f, .ref a_u, .ref a_t, .ref a_n, .int x_sav, .int x_err, .int x_rea, .int x_det, .int x_com])), (a_gw, .inl (T 0, 90, .inl v_gw)), (a_gk, .inl (T 0, 18, .inl v_gk))] H) (hS : va_S A s.heap H locs) (ls : Array Slot) (hl : lv_has ls 8 [(0, .ref a_x), (1, .int l1), (2, .int l2), (3, .int l3), (4, .int l4), (5, .int l5), (6, .int l6)]) (h : fX7_bestStrike_28 v_gw v_gk rec19 k l1 l2 l3 l4 l5 l6 f_net = some r), W p l e ({ frames := 5, cells := 0, slots := 0, locals := 113 } : Room) s m args below meth c H locs 0 0 Q (F0 m 28 ls []) := by
  have hx := C.1
  have hb := C.2.1
  intro k
  induction k with
  | zero =>
    intro l1 l2 l3 l4 l5 l6 f_net H locs hPD hS ls hl h
    exact nomatch (show (none : Option (Int32 × Int32)) = some r from h)
  | succ k ih =>
    intro l1 l2 l3 l4 l5 l6 f_net H locs hPD hS ls hl h
    obtain ⟨hP, hD⟩ := hPD
    rw [fX7_bestStrike_28] at h
    refine lv_iload hx hb dX7_bestStrike_28 (lv_at hl 6 rfl) ?_
    refine lv_aload_n hx hb dX7_bestStrike_30 rfl (lv_at hl 0 rfl) ?_
    refine getF (q0 := 2) (k0 := 0) (v := .ref a_g) C hE hP inA7 rfl rfl (by decide) qFX7_10 rfl rfl dX7_bestStrike_31 ?_
    refine lv_iload_n hx hb dX7_bestStrike_34 rfl (lv_at hl 1 rfl) ?_
    refine lv_iconst (v := 1) hx hb dX7_bestStrike_35 (by decide) ?_
    replace h := bnd h; obtain ⟨q4, e5, h⟩ := h
    refine rdV C hE hP (kX1_of l D T a_g a_gw a_gk v_gw l1 1 q4 e5) mX1_of qLX7_148 [0, 3] 0 rfl rfl rfl rfl ⟨rfl, rfl⟩ ⟨Nat.le_of_ble_eq_true rfl, Nat.le_of_ble_eq_true rfl⟩ rfl hl.1 rfl (Nat.le_of_ble_eq_true rfl) dX7_bestStrike_36 ⟨Nat.le_of_ble_eq_true rfl, Nat.le_of_ble_eq_true rfl⟩ ?_
    refine lv_icmp_gt (tgt := 86) hx hb dX7_bestStrike_39 (by decide) (fun c6 => ?_) (fun c6 => ?_)
    · replace h := ite_t c6 h
      refine lv_iinc (v := (l5 + 1)) (lv' := [(5, .int (l5 + 1)), (0, .ref a_x), (1, .int l1), (2, .int l2), (3, .int l3), (4, .int l4), (6, .int l6)]) hx hb dX7_bestStrike_86 hl (k := 5) rfl rfl (by decide) rfl (fun ls hl => ?_)
      refine lv_goto (tgt := 19) hx hb dX7_bestStrike_89 (by decide) ?_
      exact hrec19 l1 l2 l3 l4 (l5 + 1) f_net ⟨hP, hD⟩ hS _ (lv_sub hl [1, 2, 3, 4, 5, 0] rfl) h
    · replace h := ite_f c6 h
      refine lv_aload_n hx hb dX7_bestStrike_42 rfl (lv_at hl 0 rfl) ?_
      refine getF (q0 := 2) (k0 := 5) (v := .ref a_f) C hE hP inA7 rfl rfl (by decide) qFX7_41 rfl rfl dX7_bestStrike_43 ?_
      refine lv_iload_n hx hb dX7_bestStrike_46 rfl (lv_at hl 1 rfl) ?_
      refine lv_iload hx hb dX7_bestStrike_47 (lv_at hl 5 rfl) ?_
      refine lv_iload hx hb dX7_bestStrike_49 (lv_at hl 6 rfl) ?_
      replace h := bnd h; obtain ⟨q7, e8, h⟩ := h
      refine wrVi (ws1 := [(a_g, .inr (1, [.ref a_gw, .ref a_gk])), (a_f, .inr (0, [.ref a_g, .int q7.2])), (a_x, .inr (7, [.ref a_g, .ref a_b, .ref a_v, .ref a_h, .ref a_r, .ref a_f, .ref a_u, .ref a_t, .ref a_n, .int x_sav, .int x_err, .int x_rea, .int x_det, .int x_com])), (a_gw, .inl (T 0, 90, .inl v_gw)), (a_gk, .inl (T 0, 18, .inl v_gk))]) C hE hP hD hS hA (kX0_endByCells l D T a_g a_gw a_gk a_f f_net v_gw v_gk l1 l5 l6 _ q7 e8) mX0_endByCells qLX7_218 [0, 1, 3, 4] [2] 1 rfl rfl rfl rfl rfl rfl rfl rfl rfl ⟨rfl, rfl⟩ ⟨Nat.le_of_ble_eq_true rfl, Nat.le_of_ble_eq_true rfl⟩ rfl hl.1 rfl (Nat.le_of_ble_eq_true rfl) dX7_bestStrike_51 ⟨Nat.le_of_ble_eq_true rfl, Nat.le_of_ble_eq_true rfl⟩ ?_; clear hP hD hS; intro H locs hP hD hS
      refine lv_iload_n hx hb dX7_bestStrike_54 rfl (lv_at hl 2 rfl) ?_
      refine rdS C hE hP (kX7_columnsToGoal l D T q7.1 l2) mX7_columnsToGoal qLX7_433 [] rfl ⟨rfl, rfl⟩ ⟨Nat.le_of_ble_eq_true rfl, Nat.le_of_ble_eq_true rfl⟩ rfl hl.1 rfl (Nat.le_of_ble_eq_true rfl) dX7_bestStrike_55 ⟨Nat.le_of_ble_eq_true rfl, Nat.le_of_ble_eq_true rfl⟩ ?_
      refine lv_istore (lv' := [(7, .int (fX7_columnsToGoal q7.1 l2)), (0, .ref a_x), (1, .int l1), (2, .int l2), (3, .int l3), (4, .int l4), (5, .int l5), (6, .int l6)]) hx hb dX7_bestStrike_58 hl (by decide) rfl (fun ls hl => ?_)
      refine lv_iload hx hb dX7_bestStrike_60 (lv_at hl 0 rfl) ?_
      refine lv_iload hx hb dX7_bestStrike_62 (lv_at hl 5 rfl) ?_
      refine lv_icmp_ge (tgt := 80) hx hb dX7_bestStrike_64 (by decide) (fun c9 => ?_) (fun c9 => ?_)
      · replace h := ite_t c9 h
        exact lX7_bestStrike_80 C hE hA hret hrec19 ih l1 l2 l3 l4 l5 l6 q7.2 ⟨hP, hD⟩ hS _ (lv_sub hl [1, 2, 3, 4, 5, 6, 7] rfl) h
      · replace h := ite_f c9 h
        refine lv_iload hx hb dX7_bestStrike_67 (lv_at hl 0 rfl) ?_
        refine lv_istore (lv' := [(4, .int (fX7_columnsToGoal q7.1 l2)), (7, .int (fX7_columnsToGoal q7.1 l2)), (0, .ref a_x), (1, .int l1), (2, .int l2), (3, .int l3), (5, .int l5), (6, .int l6)]) hx hb dX7_bestStrike_69 hl (by decide) rfl (fun ls hl => ?_)
        refine lv_bipush (v := 10) hx hb dX7_bestStrike_71 (by decide) ?_
        refine lv_iload hx hb dX7_bestStrike_73 (lv_at hl 6 rfl) ?_
        refine lv_imul hx hb dX7_bestStrike_75 ?_
        refine lv_iload hx hb dX7_bestStrike_76 (lv_at hl 7 rfl) ?_
        refine lv_iadd hx hb dX7_bestStrike_78 ?_
        refine lv_istore_n (lv' := [(3, .int ((10 * l5) + l6)), (4, .int (fX7_columnsToGoal q7.1 l2)), (7, .int (fX7_columnsToGoal q7.1 l2)), (0, .ref a_x), (1, .int l1), (2, .int l2), (5, .int l5), (6, .int l6)]) hx hb dX7_bestStrike_79 rfl hl (by decide) rfl (fun ls hl => ?_)
        exact lX7_bestStrike_80 C hE hA hret hrec19 ih l1 l2 ((10 * l5) + l6) (fX7_columnsToGoal q7.1 l2) l5 l6 q7.2 ⟨hP, hD⟩ hS _ (lv_sub hl [3, 4, 5, 0, 1, 6, 7] rfl) h
set_option maxHeartbeats 4000000 in
set_option maxRecDepth 100000 in
theorem lX7_bestStrike_19 {p : Program} {l : Launch} {e : Env} {s : State} {m : MethodId} {args : Array Value} {below : List Frame} {meth : Method} {c : Code} {Q : State → Prop} {D : va_G} {T : Nat → ClassId} {a_g a_gw a_gk a_f a_x a_b a_v a_h a_r a_u a_t a_n : Nat} {x_sav : Int32} {x_err : Int32} {x_rea : Int32} {x_det : Int32} {x_com : Int32} {v_gw : Nat → Int32} {v_gk : Nat → Int32} {A : Nat → Prop} {r : Int32 × Int32} (C : CallFix p m c cX7_bestStrike 8 s args aw RX7) (hE : eK D T s) (hA : ∀ q : Nat, s.heap.size ≤ q → A q) (hret : WrRet p l e ({ frames := 5, cells := 0, slots := 0, locals := 113 } : Room) s m args below meth c Q cX7_bestStrike .int D A [(a_g, .inr (1, [.ref a_gw, .ref a_gk])), (a_f, .inr (0, [.ref a_g, .int r.2])), (a_x, .inr (7, [.ref a_g, .ref a_b, .ref a_v, .ref a_h, .ref a_r, .ref a_f, .ref a_u, .ref a_t, .ref a_n, .int x_sav, .int x_err, .int x_rea, .int x_det, .int x_com])), (a_gw, .inl (T 0, 90, .inl v_gw)), (a_gk, .inl (T 0, 18, .inl v_gk))] r.1) : ∀ (k : Nat) (l1 : Int32) (l2 : Int32) (l3 : Int32) (l4 : Int32) (l5 : Int32) (f_net : Int32) {H : Heap} {locs : List Loc} (hPD : va_PD D A [(a_g, .inr (1, [.ref a_gw, .ref a_gk])), (a_f, .inr (0, [.ref a_g, .int f_net])), (a_x, .inr (7, [.ref a_g, .ref a_b, .ref a_v, .ref a_h, .ref a_r, .ref a_f, .ref a_u, .ref a_t, .ref a_n, .int x_sav, .int x_err, .int x_rea, .int x_det, .int x_com])), (a_gw, .inl (T 0, 90, .inl v_gw)), (a_gk, .inl (T 0, 18, .inl v_gk))] H) (hS : va_S A s.heap H locs) (ls : Array Slot) (hl : lv_has ls 8 [(0, .ref a_x), (1, .int l1), (2, .int l2), (3, .int l3), (4, .int l4), (5, .int l5)]) (h : fX7_bestStrike_19 v_gw v_gk k l1 l2 l3 l4 l5 f_net = some r), W p l e ({ frames := 5, cells := 0, slots := 0, locals := 113 } : Room) s m args below meth c H locs 0 0 Q (F0 m 19 ls []) := by
  have hx := C.1
  have hb := C.2.1
  intro k
  induction k with
  | zero =>
    intro l1 l2 l3 l4 l5 f_net H locs hPD hS ls hl h
    exact nomatch (show (none : Option (Int32 × Int32)) = some r from h)
  | succ k ih =>
    intro l1 l2 l3 l4 l5 f_net H locs hPD hS ls hl h
    obtain ⟨hP, hD⟩ := hPD
    rw [fX7_bestStrike_19] at h
    refine lv_iload hx hb dX7_bestStrike_19 (lv_at hl 5 rfl) ?_
    refine lv_iconst (v := 4) hx hb dX7_bestStrike_21 (by decide) ?_
    refine lv_icmp_ge (tgt := 92) hx hb dX7_bestStrike_22 (by decide) (fun c3 => ?_) (fun c3 => ?_)
    · replace h := ite_t c3 h
      refine lv_iload_n hx hb dX7_bestStrike_92 rfl (lv_at hl 3 rfl) ?_
      replace h := Option.some.inj h
      exact hret _ _ _ _ _ _ dX7_bestStrike_93 rfl (by rw [← h] <;> rfl) (by rw [← h]; exact hP) hS
    · replace h := ite_f c3 h
      refine lv_iconst (v := 1) hx hb dX7_bestStrike_25 (by decide) ?_
      refine lv_istore (lv' := [(6, .int 1), (0, .ref a_x), (1, .int l1), (2, .int l2), (3, .int l3), (4, .int l4), (5, .int l5)]) hx hb dX7_bestStrike_26 hl (by decide) rfl (fun ls hl => ?_)
      exact lX7_bestStrike_28 C hE hA hret ih 64 l1 l2 l3 l4 l5 1 f_net ⟨hP, hD⟩ hS _ (lv_sub hl [1, 2, 3, 4, 5, 6, 0] rfl) h
set_option maxHeartbeats 4000000 in
set_option maxRecDepth 100000 in
theorem kX7_bestStrike (l : Launch) (D : va_G) (T : Nat → ClassId) (a_g a_gw a_gk a_f a_x a_b a_v a_h a_r a_u a_t a_n : Nat) (f_net : Int32) (x_sav : Int32) (x_err : Int32) (x_rea : Int32) (x_det : Int32) (x_com : Int32) (v_gw : Nat → Int32) (v_gk : Nat → Int32) (p0 : Int32) (sz : Nat) (r : Int32 × Int32) (h : fX7_bestStrike f_net v_gw v_gk p0 = some r) : WrI l yX7_bestStrike cX7_bestStrike 8 .int ({ frames := 5, cells := 0, slots := 0, locals := 113 } : Room) D T sz [(a_g, .inr (1, [.ref a_gw, .ref a_gk])), (a_f, .inr (0, [.ref a_g, .int f_net])), (a_x, .inr (7, [.ref a_g, .ref a_b, .ref a_v, .ref a_h, .ref a_r, .ref a_f, .ref a_u, .ref a_t, .ref a_n, .int x_sav, .int x_err, .int x_rea, .int x_det, .int x_com])), (a_gw, .inl (T 0, 90, .inl v_gw)), (a_gk, .inl (T 0, 18, .inl v_gk))] [(a_g, .inr (1, [.ref a_gw, .ref a_gk])), (a_f, .inr (0, [.ref a_g, .int r.2])), (a_x, .inr (7, [.ref a_g, .ref a_b, .ref a_v, .ref a_h, .ref a_r, .ref a_f, .ref a_u, .ref a_t, .ref a_n, .int x_sav, .int x_err, .int x_rea, .int x_det, .int x_com])), (a_gw, .inl (T 0, 90, .inl v_gw)), (a_gk, .inl (T 0, 18, .inl v_gk))] [.ref a_x, .int p0] r.1 := by
  unfold fX7_bestStrike at h
  refine wrMet (by decide +kernel) rfl (fun p e s m args below meth c Q A C hE hA hP hD hS hret ls hl => ?_)
  have hx := C.1
  have hb := C.2.1
  have hl : lv_has ls 8 [(0, .ref a_x), (1, .int p0)] := hl
  refine lv_aload_n hx hb dX7_bestStrike_0 rfl (lv_at hl 0 rfl) ?_
  refine getF (q0 := 2) (k0 := 0) (v := .ref a_g) C hE hP inA7 rfl rfl (by decide) qFX7_10 rfl rfl dX7_bestStrike_1 ?_
  refine lv_iload_n hx hb dX7_bestStrike_4 rfl (lv_at hl 1 rfl) ?_
  refine lv_iconst (v := 0) hx hb dX7_bestStrike_5 (by decide) ?_
  replace h := bnd h; obtain ⟨q1, e2, h⟩ := h
  refine rdV C hE hP (kX1_of l D T a_g a_gw a_gk v_gw p0 0 q1 e2) mX1_of qLX7_148 [0, 3] 0 rfl rfl rfl rfl ⟨rfl, rfl⟩ ⟨Nat.le_of_ble_eq_true rfl, Nat.le_of_ble_eq_true rfl⟩ rfl hl.1 rfl (Nat.le_of_ble_eq_true rfl) dX7_bestStrike_6 ⟨Nat.le_of_ble_eq_true rfl, Nat.le_of_ble_eq_true rfl⟩ ?_
  refine lv_istore_n (lv' := [(2, .int q1), (0, .ref a_x), (1, .int p0)]) hx hb dX7_bestStrike_9 rfl hl (by decide) rfl (fun ls hl => ?_)
  refine lv_iconst (v := (-1)) hx hb dX7_bestStrike_10 (by decide) ?_
  refine lv_istore_n (lv' := [(3, .int (-1)), (2, .int q1), (0, .ref a_x), (1, .int p0)]) hx hb dX7_bestStrike_11 rfl hl (by decide) rfl (fun ls hl => ?_)
  refine lv_bipush (v := 9) hx hb dX7_bestStrike_12 (by decide) ?_
  refine lv_istore (lv' := [(4, .int 9), (3, .int (-1)), (2, .int q1), (0, .ref a_x), (1, .int p0)]) hx hb dX7_bestStrike_14 hl (by decide) rfl (fun ls hl => ?_)
  refine lv_iconst (v := 0) hx hb dX7_bestStrike_16 (by decide) ?_
  refine lv_istore (lv' := [(5, .int 0), (4, .int 9), (3, .int (-1)), (2, .int q1), (0, .ref a_x), (1, .int p0)]) hx hb dX7_bestStrike_17 hl (by decide) rfl (fun ls hl => ?_)
  exact lX7_bestStrike_19 C hE hA hret 64 p0 q1 (-1) 9 0 f_net ⟨hP, hD⟩ hS _ (lv_sub hl [4, 5, 3, 2, 1, 0] rfl) h

def fX7_best_27 (v_gw : Nat → Int32) (v_gk : Nat → Int32) (x0 : Int32) (f_net : Int32) (u_det : Int32) : Option (Nat × Int32 × Int32 × Int32) :=
  if x0 = (-1) then
    some (4, 0, f_net, u_det)
  else
    some (0, x0, f_net, u_det)
def fX7_best (f_net : Int32) (u_det : Int32) (v_gw : Nat → Int32) (v_gk : Nat → Int32) (p0 : Int32) : Option (Nat × Int32 × Int32 × Int32) :=
  (fX7_demandWhale v_gk p0).bind fun q1 =>
  if q1 = 0 then
    (fX6_hitFault u_det v_gw v_gk p0 0 1).bind fun q3 =>
    if q3.1 = 0 then
      (fX7_bestStrike f_net v_gw v_gk p0).bind fun q6 =>
      fX7_best_27 v_gw v_gk q6.1 q6.2 q3.2
    else
      fX7_best_27 v_gw v_gk (-1) f_net q3.2
  else
    some (q1, 0, f_net, u_det)
set_option maxHeartbeats 4000000 in
set_option maxRecDepth 100000 in
theorem lX7_best_27 {p : Program} {l : Launch} {e : Env} {s : State} {m : MethodId} {args : Array Value} {below : List Frame} {meth : Method} {c : Code} {Q : State → Prop} {D : va_G} {T : Nat → ClassId} {a_g a_gw a_gk a_f a_u a_r a_x a_b a_v a_h a_t a_n : Nat} {x_sav : Int32} {x_err : Int32} {x_rea : Int32} {x_det : Int32} {x_com : Int32} {v_gw : Nat → Int32} {v_gk : Nat → Int32} {A : Nat → Prop} {r : Nat × Int32 × Int32 × Int32} (C : CallFix p m c cX7_best 3 s args aw RX7) (hE : eK D T s) (hA : ∀ q : Nat, s.heap.size ≤ q → A q) (hZ : eX l A s) (hret : ThRetI p l e ({ frames := 7, cells := 2, slots := 12, locals := 140 } : Room) s m args below meth c Q cX7_best .int D A [(a_g, .inr (1, [.ref a_gw, .ref a_gk])), (a_f, .inr (0, [.ref a_g, .int r.2.2.1])), (a_u, .inr (6, [.ref a_g, .ref a_r, .int r.2.2.2])), (a_x, .inr (7, [.ref a_g, .ref a_b, .ref a_v, .ref a_h, .ref a_r, .ref a_f, .ref a_u, .ref a_t, .ref a_n, .int x_sav, .int x_err, .int x_rea, .int x_det, .int x_com])), (a_gw, .inl (T 0, 90, .inl v_gw)), (a_gk, .inl (T 0, 18, .inl v_gk))] r.1 r.2.1 ∧ ThOut p l e ({ frames := 7, cells := 2, slots := 12, locals := 140 } : Room) s m args below meth c Q D A [(a_g, .inr (1, [.ref a_gw, .ref a_gk])), (a_f, .inr (0, [.ref a_g, .int r.2.2.1])), (a_u, .inr (6, [.ref a_g, .ref a_r, .int r.2.2.2])), (a_x, .inr (7, [.ref a_g, .ref a_b, .ref a_v, .ref a_h, .ref a_r, .ref a_f, .ref a_u, .ref a_t, .ref a_n, .int x_sav, .int x_err, .int x_rea, .int x_det, .int x_com])), (a_gw, .inl (T 0, 90, .inl v_gw)), (a_gk, .inl (T 0, 18, .inl v_gk))] r.1 ∧ ThThr p l e ({ frames := 7, cells := 2, slots := 12, locals := 140 } : Room) s m args below meth c Q cX7_best RX7 D A [(a_g, .inr (1, [.ref a_gw, .ref a_gk])), (a_f, .inr (0, [.ref a_g, .int r.2.2.1])), (a_u, .inr (6, [.ref a_g, .ref a_r, .int r.2.2.2])), (a_x, .inr (7, [.ref a_g, .ref a_b, .ref a_v, .ref a_h, .ref a_r, .ref a_f, .ref a_u, .ref a_t, .ref a_n, .int x_sav, .int x_err, .int x_rea, .int x_det, .int x_com])), (a_gw, .inl (T 0, 90, .inl v_gw)), (a_gk, .inl (T 0, 18, .inl v_gk))] r.1) (x0 : Int32) (f_net : Int32) (u_det : Int32) {H : Heap} {locs : List Loc} (hPD : va_PD D A [(a_g, .inr (1, [.ref a_gw, .ref a_gk])), (a_f, .inr (0, [.ref a_g, .int f_net])), (a_u, .inr (6, [.ref a_g, .ref a_r, .int u_det])), (a_x, .inr (7, [.ref a_g, .ref a_b, .ref a_v, .ref a_h, .ref a_r, .ref a_f, .ref a_u, .ref a_t, .ref a_n, .int x_sav, .int x_err, .int x_rea, .int x_det, .int x_com])), (a_gw, .inl (T 0, 90, .inl v_gw)), (a_gk, .inl (T 0, 18, .inl v_gk))] H) (hS : va_S A s.heap H locs) (ls : Array Slot) (hl : lv_has ls 3 []) (h : fX7_best_27 v_gw v_gk x0 f_net u_det = some r) : W p l e ({ frames := 7, cells := 2, slots := 12, locals := 140 } : Room) s m args below meth c H locs 1 6 Q (F0 m 27 ls [.int x0]) := by
  have hx := C.1
  have hb := C.2.1
  obtain ⟨hP, hD⟩ := hPD
  unfold fX7_best_27 at h
  refine lv_istore_n (lv' := [(2, .int x0)]) hx hb dX7_best_27 rfl hl (by decide) rfl (fun ls hl => ?_)
  refine lv_iload_n hx hb dX7_best_28 rfl (lv_at hl 0 rfl) ?_
  refine lv_iconst (v := (-1)) hx hb dX7_best_29 (by decide) ?_
  refine lv_icmp_ne (tgt := 43) hx hb dX7_best_30 (by decide) (fun c8 => ?_) (fun c8 => ?_)
  · replace h := ite_f c8 h
    refine lv_iload_n hx hb dX7_best_43 rfl (lv_at hl 0 rfl) ?_
    replace h := Option.some.inj h
    exact hret.1 _ _ _ _ _ _ _ _ (Nat.le_of_ble_eq_true rfl) (Nat.le_of_ble_eq_true rfl) dX7_best_44 rfl (by rw [← h]) (by rw [← h] <;> rfl) (by rw [← h]; exact hP) hS
  · replace h := ite_t c8 h
    replace h := Option.some.inj h
    exact hret.2.2 _ _ _ _ _ _ _ 173 177 230 _ "no strike is good for its team" (by rw [← h]; exact thrX7_173_177_4) (by decide +kernel) dX7_best_33 dX7_best_36 (Or.inl ⟨dX7_best_37, dX7_best_39, dX7_best_42⟩) (Nat.le_of_ble_eq_true rfl) (Nat.le_of_ble_eq_true rfl) (Nat.le_of_ble_eq_true rfl) (Nat.le_of_ble_eq_true rfl) (hl.1.trans C.2.2.1.symm) (by rw [← h]; exact (Nat.le_of_ble_eq_true rfl)) (by rw [← h]; exact hP) hS
set_option maxHeartbeats 4000000 in
set_option maxRecDepth 100000 in
theorem kX7_best (l : Launch) (hnt : l.stackTraces = false) (D : va_G) (T : Nat → ClassId) (a_g a_gw a_gk a_f a_u a_r a_x a_b a_v a_h a_t a_n : Nat) (f_net : Int32) (u_det : Int32) (x_sav : Int32) (x_err : Int32) (x_rea : Int32) (x_det : Int32) (x_com : Int32) (v_gw : Nat → Int32) (v_gk : Nat → Int32) (p0 : Int32) (sz : Nat) (r : Nat × Int32 × Int32 × Int32) (h : fX7_best f_net u_det v_gw v_gk p0 = some r) : ThI l yX7_best cX7_best 3 .int ({ frames := 7, cells := 2, slots := 12, locals := 140 } : Room) D T sz [(a_g, .inr (1, [.ref a_gw, .ref a_gk])), (a_f, .inr (0, [.ref a_g, .int f_net])), (a_u, .inr (6, [.ref a_g, .ref a_r, .int u_det])), (a_x, .inr (7, [.ref a_g, .ref a_b, .ref a_v, .ref a_h, .ref a_r, .ref a_f, .ref a_u, .ref a_t, .ref a_n, .int x_sav, .int x_err, .int x_rea, .int x_det, .int x_com])), (a_gw, .inl (T 0, 90, .inl v_gw)), (a_gk, .inl (T 0, 18, .inl v_gk))] [(a_g, .inr (1, [.ref a_gw, .ref a_gk])), (a_f, .inr (0, [.ref a_g, .int r.2.2.1])), (a_u, .inr (6, [.ref a_g, .ref a_r, .int r.2.2.2])), (a_x, .inr (7, [.ref a_g, .ref a_b, .ref a_v, .ref a_h, .ref a_r, .ref a_f, .ref a_u, .ref a_t, .ref a_n, .int x_sav, .int x_err, .int x_rea, .int x_det, .int x_com])), (a_gw, .inl (T 0, 90, .inl v_gw)), (a_gk, .inl (T 0, 18, .inl v_gk))] [.ref a_x, .int p0] r.1 r.2.1 := by
  unfold fX7_best at h
  refine thMetI hnt (by decide +kernel) rfl (fun p e s m args below meth c Q A C hE hA hZ hP hD hS hret ls hl => ?_)
  have hx := C.1
  have hb := C.2.1
  have hl : lv_has ls 3 [(0, .ref a_x), (1, .int p0)] := hl
  refine lv_aload_n hx hb dX7_best_0 rfl (lv_at hl 0 rfl) ?_
  refine lv_iload_n hx hb dX7_best_1 rfl (lv_at hl 1 rfl) ?_
  replace h := bnd h; obtain ⟨q1, e2, h⟩ := h
  refine thVv (ws1 := [(a_g, .inr (1, [.ref a_gw, .ref a_gk])), (a_f, .inr (0, [.ref a_g, .int f_net])), (a_u, .inr (6, [.ref a_g, .ref a_r, .int u_det])), (a_x, .inr (7, [.ref a_g, .ref a_b, .ref a_v, .ref a_h, .ref a_r, .ref a_f, .ref a_u, .ref a_t, .ref a_n, .int x_sav, .int x_err, .int x_rea, .int x_det, .int x_com])), (a_gw, .inl (T 0, 90, .inl v_gw)), (a_gk, .inl (T 0, 18, .inl v_gk))]) C hE hZ hP hD hS hA (kX7_demandWhale l hZ.1 D T a_g a_gw a_gk a_x a_b a_v a_h a_r a_f a_u a_t a_n x_sav x_err x_rea x_det x_com v_gk p0 _ q1 e2) mX7_demandWhale qLX7_138 [0, 3, 5] [1, 2, 4] 3 rfl rfl rfl rfl rfl rfl rfl rfl rfl ⟨Nat.le_of_ble_eq_true rfl, Nat.le_of_ble_eq_true rfl⟩ rfl hl.1 rfl (Nat.le_of_ble_eq_true rfl) dX7_best_2 ⟨Nat.le_of_ble_eq_true rfl, Nat.le_of_ble_eq_true rfl⟩ ?_ ?_
  · clear hP hD hS; intro hx0 H locs ce q9 hP hD hS g1 g2 g3
    replace h := ite_f (Nat.ne_of_gt hx0) h
    replace h := Option.some.inj h
    exact hret.2.1 _ _ _ _ _ _ _ _ _ (Nat.le_of_ble_eq_true rfl) (Nat.le_of_ble_eq_true rfl) (by rw [← h]; exact hx0) (by rw [← h]; exact hP) hS g1 g2 (by rw [← h]; exact g3)
  · clear hP hD hS; intro hx0 H locs hP hD hS
    replace h := ite_t hx0 h
    refine lv_aload_n hx hb dX7_best_5 rfl (lv_at hl 0 rfl) ?_
    refine getF (q0 := 3) (k0 := 6) (v := .ref a_u) C hE hP inA7 rfl rfl (by decide) qFX7_50 rfl rfl dX7_best_6 ?_
    refine lv_iload_n hx hb dX7_best_9 rfl (lv_at hl 1 rfl) ?_
    refine lv_iconst (v := 0) hx hb dX7_best_10 (by decide) ?_
    refine lv_iconst (v := 1) hx hb dX7_best_11 (by decide) ?_
    replace h := bnd h; obtain ⟨q3, e4, h⟩ := h
    refine wrVi (ws1 := [(a_g, .inr (1, [.ref a_gw, .ref a_gk])), (a_f, .inr (0, [.ref a_g, .int f_net])), (a_u, .inr (6, [.ref a_g, .ref a_r, .int q3.2])), (a_x, .inr (7, [.ref a_g, .ref a_b, .ref a_v, .ref a_h, .ref a_r, .ref a_f, .ref a_u, .ref a_t, .ref a_n, .int x_sav, .int x_err, .int x_rea, .int x_det, .int x_com])), (a_gw, .inl (T 0, 90, .inl v_gw)), (a_gk, .inl (T 0, 18, .inl v_gk))]) C hE hP hD hS hA (kX6_hitFault l D T a_g a_gw a_gk a_u a_r u_det v_gw v_gk p0 0 1 _ q3 e4) mX6_hitFault qLX7_118 [0, 2, 4, 5] [1, 3] 2 rfl rfl rfl rfl rfl rfl rfl rfl rfl ⟨rfl, rfl⟩ ⟨Nat.le_of_ble_eq_true rfl, Nat.le_of_ble_eq_true rfl⟩ rfl hl.1 rfl (Nat.le_of_ble_eq_true rfl) dX7_best_12 ⟨Nat.le_of_ble_eq_true rfl, Nat.le_of_ble_eq_true rfl⟩ ?_; clear hP hD hS; intro H locs hP hD hS
    refine lv_if_ne (tgt := 26) hx hb dX7_best_15 (by decide) (fun c5 => ?_) (fun c5 => ?_)
    · replace h := ite_f c5 h
      refine lv_iconst (v := (-1)) hx hb dX7_best_26 (by decide) ?_
      exact lX7_best_27 C hE hA hZ hret (-1) f_net q3.2 ⟨hP, hD⟩ hS _ (lv_sub hl [] rfl) h
    · replace h := ite_t c5 h
      refine lv_aload_n hx hb dX7_best_18 rfl (lv_at hl 0 rfl) ?_
      refine lv_iload_n hx hb dX7_best_19 rfl (lv_at hl 1 rfl) ?_
      replace h := bnd h; obtain ⟨q6, e7, h⟩ := h
      refine wrVi (ws1 := [(a_g, .inr (1, [.ref a_gw, .ref a_gk])), (a_f, .inr (0, [.ref a_g, .int q6.2])), (a_u, .inr (6, [.ref a_g, .ref a_r, .int q3.2])), (a_x, .inr (7, [.ref a_g, .ref a_b, .ref a_v, .ref a_h, .ref a_r, .ref a_f, .ref a_u, .ref a_t, .ref a_n, .int x_sav, .int x_err, .int x_rea, .int x_det, .int x_com])), (a_gw, .inl (T 0, 90, .inl v_gw)), (a_gk, .inl (T 0, 18, .inl v_gk))]) C hE hP hD hS hA (kX7_bestStrike l D T a_g a_gw a_gk a_f a_x a_b a_v a_h a_r a_u a_t a_n f_net x_sav x_err x_rea x_det x_com v_gw v_gk p0 _ q6 e7) mX7_bestStrike qLX7_227 [0, 1, 3, 4, 5] [2] 3 rfl rfl rfl rfl rfl rfl rfl rfl rfl ⟨rfl, rfl⟩ ⟨Nat.le_of_ble_eq_true rfl, Nat.le_of_ble_eq_true rfl⟩ rfl hl.1 rfl (Nat.le_of_ble_eq_true rfl) dX7_best_20 ⟨Nat.le_of_ble_eq_true rfl, Nat.le_of_ble_eq_true rfl⟩ ?_; clear hP hD hS; intro H locs hP hD hS
      refine lv_goto (tgt := 27) hx hb dX7_best_23 (by decide) ?_
      exact lX7_best_27 C hE hA hZ hret q6.1 q6.2 q3.2 ⟨hP, hD⟩ hS _ (lv_sub hl [] rfl) h

def fX7_demandTeam (p0 : Int32) : Option Nat :=
  if (fX7_isTeam p0) = 0 then
    some 1
  else
    some 0
set_option maxHeartbeats 4000000 in
set_option maxRecDepth 100000 in
theorem kX7_demandTeam (l : Launch) (hnt : l.stackTraces = false) (D : va_G) (T : Nat → ClassId) (a_x : Nat) (p0 : Int32) (sz : Nat) (r : Nat) (h : fX7_demandTeam p0 = some r) : ThV l yX7_demandTeam cX7_demandTeam 2 ({ frames := 6, cells := 1, slots := 6, locals := 90 } : Room) D T sz [] [] [.ref a_x, .int p0] r := by
  unfold fX7_demandTeam at h
  refine thMetV hnt (by decide +kernel) rfl (fun p e s m args below meth c Q A C hE hA hZ hP hD hS hret ls hl => ?_)
  have hx := C.1
  have hb := C.2.1
  have hl : lv_has ls 2 [(0, .ref a_x), (1, .int p0)] := hl
  refine lv_iload_n hx hb dX7_demandTeam_0 rfl (lv_at hl 1 rfl) ?_
  refine rdS C hE hP (kX7_isTeam l D T p0) mX7_isTeam qLX7_396 [] rfl ⟨rfl, rfl⟩ ⟨Nat.le_of_ble_eq_true rfl, Nat.le_of_ble_eq_true rfl⟩ rfl hl.1 rfl (Nat.le_of_ble_eq_true rfl) dX7_demandTeam_1 ⟨Nat.le_of_ble_eq_true rfl, Nat.le_of_ble_eq_true rfl⟩ ?_
  refine lv_if_ne (tgt := 18) hx hb dX7_demandTeam_4 (by decide) (fun c1 => ?_) (fun c1 => ?_)
  · replace h := ite_f c1 h
    replace h := Option.some.inj h
    exact hret.1 _ _ _ _ _ _ (Nat.le_of_ble_eq_true rfl) (Nat.le_of_ble_eq_true rfl) dX7_demandTeam_18 (by rw [← h]) hP hS
  · replace h := ite_t c1 h
    replace h := Option.some.inj h
    exact hret.2.2 _ _ _ _ _ _ _ 141 145 399 _ "no such team" (by rw [← h]; exact thrX7_141_145_1) (by decide +kernel) dX7_demandTeam_7 dX7_demandTeam_10 (Or.inr ⟨dX7_demandTeam_11, dX7_demandTeam_14, dX7_demandTeam_17⟩) (Nat.le_of_ble_eq_true rfl) (Nat.le_of_ble_eq_true rfl) (Nat.le_of_ble_eq_true rfl) (Nat.le_of_ble_eq_true rfl) (hl.1.trans C.2.2.1.symm) (by rw [← h]; exact (Nat.le_of_ble_eq_true rfl)) hP hS

def fX7_beside_48 (v_gw : Nat → Int32) (v_gk : Nat → Int32) (rec9 : Int32 → Int32 → Int32 → Option (Nat × Int32)) (l1 : Int32) (l2 : Int32) (l3 : Int32) : Option (Nat × Int32) :=
  rec9 l1 l2 (l3 + 1)
def fX7_beside_9 (v_gw : Nat → Int32) (v_gk : Nat → Int32) : Nat → Int32 → Int32 → Int32 → Option (Nat × Int32)
  | 0, _, _, _ => none
  | k + 1, l1, l2, l3 =>
    (fX1_count v_gk 0).bind fun q3 =>
    if q3 ≤ l3 then
      some (0, l2)
    else
      (fX1_of v_gw l3 0).bind fun q6 =>
      if q6 = l1 then
        (fX1_isNearBuoy v_gw v_gk l3).bind fun q9 =>
        fX7_beside_48 v_gw v_gk (fX7_beside_9 v_gw v_gk k) l1 (if q9 = 0 then l2 else (l2 + 1)) l3
      else
        fX7_beside_48 v_gw v_gk (fX7_beside_9 v_gw v_gk k) l1 l2 l3
def fX7_beside (v_gw : Nat → Int32) (v_gk : Nat → Int32) (p0 : Int32) : Option (Nat × Int32) :=
  (fX7_demandTeam p0).bind fun q1 =>
  if q1 = 0 then
    fX7_beside_9 v_gw v_gk 64 p0 0 0
  else
    some (q1, 0)
set_option maxHeartbeats 4000000 in
set_option maxRecDepth 100000 in
theorem lX7_beside_48 {p : Program} {l : Launch} {e : Env} {s : State} {m : MethodId} {args : Array Value} {below : List Frame} {meth : Method} {c : Code} {Q : State → Prop} {D : va_G} {T : Nat → ClassId} {a_g a_gw a_gk a_x a_b a_v a_h a_r a_f a_u a_t a_n : Nat} {x_sav : Int32} {x_err : Int32} {x_rea : Int32} {x_det : Int32} {x_com : Int32} {v_gw : Nat → Int32} {v_gk : Nat → Int32} {A : Nat → Prop} {r : Nat × Int32} (C : CallFix p m c cX7_beside 4 s args aw RX7) (hE : eK D T s) (hA : ∀ q : Nat, s.heap.size ≤ q → A q) (hZ : eX l A s) (hret : ThRetI p l e ({ frames := 7, cells := 1, slots := 6, locals := 111 } : Room) s m args below meth c Q cX7_beside .int D A [(a_g, .inr (1, [.ref a_gw, .ref a_gk])), (a_x, .inr (7, [.ref a_g, .ref a_b, .ref a_v, .ref a_h, .ref a_r, .ref a_f, .ref a_u, .ref a_t, .ref a_n, .int x_sav, .int x_err, .int x_rea, .int x_det, .int x_com])), (a_gw, .inl (T 0, 90, .inl v_gw)), (a_gk, .inl (T 0, 18, .inl v_gk))] r.1 r.2 ∧ ThOut p l e ({ frames := 7, cells := 1, slots := 6, locals := 111 } : Room) s m args below meth c Q D A [(a_g, .inr (1, [.ref a_gw, .ref a_gk])), (a_x, .inr (7, [.ref a_g, .ref a_b, .ref a_v, .ref a_h, .ref a_r, .ref a_f, .ref a_u, .ref a_t, .ref a_n, .int x_sav, .int x_err, .int x_rea, .int x_det, .int x_com])), (a_gw, .inl (T 0, 90, .inl v_gw)), (a_gk, .inl (T 0, 18, .inl v_gk))] r.1 ∧ ThThr p l e ({ frames := 7, cells := 1, slots := 6, locals := 111 } : Room) s m args below meth c Q cX7_beside RX7 D A [(a_g, .inr (1, [.ref a_gw, .ref a_gk])), (a_x, .inr (7, [.ref a_g, .ref a_b, .ref a_v, .ref a_h, .ref a_r, .ref a_f, .ref a_u, .ref a_t, .ref a_n, .int x_sav, .int x_err, .int x_rea, .int x_det, .int x_com])), (a_gw, .inl (T 0, 90, .inl v_gw)), (a_gk, .inl (T 0, 18, .inl v_gk))] r.1) {rec9 : Int32 → Int32 → Int32 → Option (Nat × Int32)} (hrec9 : ∀ (l1 : Int32) (l2 : Int32) (l3 : Int32) {H : Heap} {locs : List Loc} (hPD : va_PD D A [(a_g, .inr (1, [.ref a_gw, .ref a_gk])), (a_x, .inr (7, [.ref a_g, .ref a_b, .ref a_v, .ref a_h, .ref a_r, .ref a_f, .ref a_u, .ref a_t, .ref a_n, .int x_sav, .int x_err, .int x_rea, .int x_det, .int x_com])), (a_gw, .inl (T 0, 90, .inl v_gw)), (a_gk, .inl (T 0, 18, .inl v_gk))] H) (hS : va_S A s.heap H locs) (ls : Array Slot) (hl : lv_has ls 4 [(0, .ref a_x), (1, .int l1), (2, .int l2), (3, .int l3)]) (h : rec9 l1 l2 l3 = some r), W p l e ({ frames := 7, cells := 1, slots := 6, locals := 111 } : Room) s m args below meth c H locs 1 6 Q (F0 m 9 ls [])) (l1 : Int32) (l2 : Int32) (l3 : Int32) {H : Heap} {locs : List Loc} (hPD : va_PD D A [(a_g, .inr (1, [.ref a_gw, .ref a_gk])), (a_x, .inr (7, [.ref a_g, .ref a_b, .ref a_v, .ref a_h, .ref a_r, .ref a_f, .ref a_u, .ref a_t, .ref a_n, .int x_sav, .int x_err, .int x_rea, .int x_det, .int x_com])), (a_gw, .inl (T 0, 90, .inl v_gw)), (a_gk, .inl (T 0, 18, .inl v_gk))] H) (hS : va_S A s.heap H locs) (ls : Array Slot) (hl : lv_has ls 4 [(0, .ref a_x), (1, .int l1), (2, .int l2), (3, .int l3)]) (h : fX7_beside_48 v_gw v_gk rec9 l1 l2 l3 = some r) : W p l e ({ frames := 7, cells := 1, slots := 6, locals := 111 } : Room) s m args below meth c H locs 1 6 Q (F0 m 48 ls []) := by
  have hx := C.1
  have hb := C.2.1
  obtain ⟨hP, hD⟩ := hPD
  unfold fX7_beside_48 at h
  refine lv_iinc (v := (l3 + 1)) (lv' := [(3, .int (l3 + 1)), (0, .ref a_x), (1, .int l1), (2, .int l2)]) hx hb dX7_beside_48 hl (k := 3) rfl rfl (by decide) rfl (fun ls hl => ?_)
  refine lv_goto (tgt := 9) hx hb dX7_beside_51 (by decide) ?_
  exact hrec9 l1 l2 (l3 + 1) ⟨hP, hD⟩ hS _ (lv_sub hl [1, 2, 3, 0] rfl) h
set_option maxHeartbeats 4000000 in
set_option maxRecDepth 100000 in
theorem lX7_beside_9 {p : Program} {l : Launch} {e : Env} {s : State} {m : MethodId} {args : Array Value} {below : List Frame} {meth : Method} {c : Code} {Q : State → Prop} {D : va_G} {T : Nat → ClassId} {a_g a_gw a_gk a_x a_b a_v a_h a_r a_f a_u a_t a_n : Nat} {x_sav : Int32} {x_err : Int32} {x_rea : Int32} {x_det : Int32} {x_com : Int32} {v_gw : Nat → Int32} {v_gk : Nat → Int32} {A : Nat → Prop} {r : Nat × Int32} (C : CallFix p m c cX7_beside 4 s args aw RX7) (hE : eK D T s) (hA : ∀ q : Nat, s.heap.size ≤ q → A q) (hZ : eX l A s) (hret : ThRetI p l e ({ frames := 7, cells := 1, slots := 6, locals := 111 } : Room) s m args below meth c Q cX7_beside .int D A [(a_g, .inr (1, [.ref a_gw, .ref a_gk])), (a_x, .inr (7, [.ref a_g, .ref a_b, .ref a_v, .ref a_h, .ref a_r, .ref a_f, .ref a_u, .ref a_t, .ref a_n, .int x_sav, .int x_err, .int x_rea, .int x_det, .int x_com])), (a_gw, .inl (T 0, 90, .inl v_gw)), (a_gk, .inl (T 0, 18, .inl v_gk))] r.1 r.2 ∧ ThOut p l e ({ frames := 7, cells := 1, slots := 6, locals := 111 } : Room) s m args below meth c Q D A [(a_g, .inr (1, [.ref a_gw, .ref a_gk])), (a_x, .inr (7, [.ref a_g, .ref a_b, .ref a_v, .ref a_h, .ref a_r, .ref a_f, .ref a_u, .ref a_t, .ref a_n, .int x_sav, .int x_err, .int x_rea, .int x_det, .int x_com])), (a_gw, .inl (T 0, 90, .inl v_gw)), (a_gk, .inl (T 0, 18, .inl v_gk))] r.1 ∧ ThThr p l e ({ frames := 7, cells := 1, slots := 6, locals := 111 } : Room) s m args below meth c Q cX7_beside RX7 D A [(a_g, .inr (1, [.ref a_gw, .ref a_gk])), (a_x, .inr (7, [.ref a_g, .ref a_b, .ref a_v, .ref a_h, .ref a_r, .ref a_f, .ref a_u, .ref a_t, .ref a_n, .int x_sav, .int x_err, .int x_rea, .int x_det, .int x_com])), (a_gw, .inl (T 0, 90, .inl v_gw)), (a_gk, .inl (T 0, 18, .inl v_gk))] r.1) : ∀ (k : Nat) (l1 : Int32) (l2 : Int32) (l3 : Int32) {H : Heap} {locs : List Loc} (hPD : va_PD D A [(a_g, .inr (1, [.ref a_gw, .ref a_gk])), (a_x, .inr (7, [.ref a_g, .ref a_b, .ref a_v, .ref a_h, .ref a_r, .ref a_f, .ref a_u, .ref a_t, .ref a_n, .int x_sav, .int x_err, .int x_rea, .int x_det, .int x_com])), (a_gw, .inl (T 0, 90, .inl v_gw)), (a_gk, .inl (T 0, 18, .inl v_gk))] H) (hS : va_S A s.heap H locs) (ls : Array Slot) (hl : lv_has ls 4 [(0, .ref a_x), (1, .int l1), (2, .int l2), (3, .int l3)]) (h : fX7_beside_9 v_gw v_gk k l1 l2 l3 = some r), W p l e ({ frames := 7, cells := 1, slots := 6, locals := 111 } : Room) s m args below meth c H locs 1 6 Q (F0 m 9 ls []) := by
  have hx := C.1
  have hb := C.2.1
  intro k
  induction k with
  | zero =>
    intro l1 l2 l3 H locs hPD hS ls hl h
    exact nomatch (show (none : Option (Nat × Int32)) = some r from h)
  | succ k ih =>
    intro l1 l2 l3 H locs hPD hS ls hl h
    obtain ⟨hP, hD⟩ := hPD
    rw [fX7_beside_9] at h
    refine lv_iload_n hx hb dX7_beside_9 rfl (lv_at hl 3 rfl) ?_
    refine lv_aload_n hx hb dX7_beside_10 rfl (lv_at hl 0 rfl) ?_
    refine getF (q0 := 1) (k0 := 0) (v := .ref a_g) C hE hP inA7 rfl rfl (by decide) qFX7_10 rfl rfl dX7_beside_11 ?_
    refine lv_iconst (v := 0) hx hb dX7_beside_14 (by decide) ?_
    replace h := bnd h; obtain ⟨q3, e4, h⟩ := h
    refine rdV C hE hP (kX1_count l D T a_g a_gw a_gk v_gk 0 q3 e4) mX1_count qLX7_235 [0, 3] 0 rfl rfl rfl rfl ⟨rfl, rfl⟩ ⟨Nat.le_of_ble_eq_true rfl, Nat.le_of_ble_eq_true rfl⟩ rfl hl.1 rfl (Nat.le_of_ble_eq_true rfl) dX7_beside_15 ⟨Nat.le_of_ble_eq_true rfl, Nat.le_of_ble_eq_true rfl⟩ ?_
    refine lv_icmp_ge (tgt := 54) hx hb dX7_beside_18 (by decide) (fun c5 => ?_) (fun c5 => ?_)
    · replace h := ite_t c5 h
      refine lv_iload_n hx hb dX7_beside_54 rfl (lv_at hl 2 rfl) ?_
      replace h := Option.some.inj h
      exact hret.1 _ _ _ _ _ _ _ _ (Nat.le_of_ble_eq_true rfl) (Nat.le_of_ble_eq_true rfl) dX7_beside_55 rfl (by rw [← h]) (by rw [← h] <;> rfl) hP hS
    · replace h := ite_f c5 h
      refine lv_aload_n hx hb dX7_beside_21 rfl (lv_at hl 0 rfl) ?_
      refine getF (q0 := 1) (k0 := 0) (v := .ref a_g) C hE hP inA7 rfl rfl (by decide) qFX7_10 rfl rfl dX7_beside_22 ?_
      refine lv_iload_n hx hb dX7_beside_25 rfl (lv_at hl 3 rfl) ?_
      refine lv_iconst (v := 0) hx hb dX7_beside_26 (by decide) ?_
      replace h := bnd h; obtain ⟨q6, e7, h⟩ := h
      refine rdV C hE hP (kX1_of l D T a_g a_gw a_gk v_gw l3 0 q6 e7) mX1_of qLX7_148 [0, 2] 0 rfl rfl rfl rfl ⟨rfl, rfl⟩ ⟨Nat.le_of_ble_eq_true rfl, Nat.le_of_ble_eq_true rfl⟩ rfl hl.1 rfl (Nat.le_of_ble_eq_true rfl) dX7_beside_27 ⟨Nat.le_of_ble_eq_true rfl, Nat.le_of_ble_eq_true rfl⟩ ?_
      refine lv_iload_n hx hb dX7_beside_30 rfl (lv_at hl 1 rfl) ?_
      refine lv_icmp_ne (tgt := 48) hx hb dX7_beside_31 (by decide) (fun c8 => ?_) (fun c8 => ?_)
      · replace h := ite_f c8 h
        exact lX7_beside_48 C hE hA hZ hret ih l1 l2 l3 ⟨hP, hD⟩ hS _ (lv_sub hl [0, 1, 2, 3] rfl) h
      · replace h := ite_t c8 h
        refine lv_aload_n hx hb dX7_beside_34 rfl (lv_at hl 0 rfl) ?_
        refine getF (q0 := 1) (k0 := 0) (v := .ref a_g) C hE hP inA7 rfl rfl (by decide) qFX7_10 rfl rfl dX7_beside_35 ?_
        refine lv_iload_n hx hb dX7_beside_38 rfl (lv_at hl 3 rfl) ?_
        replace h := bnd h; obtain ⟨q9, e10, h⟩ := h
        refine rdV C hE hP (kX1_isNearBuoy l D T a_g a_gw a_gk v_gw v_gk l3 q9 e10) mX1_isNearBuoy qLX7_238 [0, 2, 3] 0 rfl rfl rfl rfl ⟨rfl, rfl⟩ ⟨Nat.le_of_ble_eq_true rfl, Nat.le_of_ble_eq_true rfl⟩ rfl hl.1 rfl (Nat.le_of_ble_eq_true rfl) dX7_beside_39 ⟨Nat.le_of_ble_eq_true rfl, Nat.le_of_ble_eq_true rfl⟩ ?_
        refine lv_if_eq (tgt := 48) hx hb dX7_beside_42 (by decide) (fun c11 => ?_) (fun c11 => ?_)
        · rw [if_pos c11] at h
          exact lX7_beside_48 C hE hA hZ hret ih l1 l2 l3 ⟨hP, hD⟩ hS _ (lv_sub hl [0, 1, 2, 3] rfl) h
        · rw [if_neg c11] at h
          refine lv_iinc (v := (l2 + 1)) (lv' := [(2, .int (l2 + 1)), (0, .ref a_x), (1, .int l1), (3, .int l3)]) hx hb dX7_beside_45 hl (k := 2) rfl rfl (by decide) rfl (fun ls hl => ?_)
          exact lX7_beside_48 C hE hA hZ hret ih l1 (l2 + 1) l3 ⟨hP, hD⟩ hS _ (lv_sub hl [1, 2, 0, 3] rfl) h
set_option maxHeartbeats 4000000 in
set_option maxRecDepth 100000 in
theorem kX7_beside (l : Launch) (hnt : l.stackTraces = false) (D : va_G) (T : Nat → ClassId) (a_g a_gw a_gk a_x a_b a_v a_h a_r a_f a_u a_t a_n : Nat) (x_sav : Int32) (x_err : Int32) (x_rea : Int32) (x_det : Int32) (x_com : Int32) (v_gw : Nat → Int32) (v_gk : Nat → Int32) (p0 : Int32) (sz : Nat) (r : Nat × Int32) (h : fX7_beside v_gw v_gk p0 = some r) : ThI l yX7_beside cX7_beside 4 .int ({ frames := 7, cells := 1, slots := 6, locals := 111 } : Room) D T sz [(a_g, .inr (1, [.ref a_gw, .ref a_gk])), (a_x, .inr (7, [.ref a_g, .ref a_b, .ref a_v, .ref a_h, .ref a_r, .ref a_f, .ref a_u, .ref a_t, .ref a_n, .int x_sav, .int x_err, .int x_rea, .int x_det, .int x_com])), (a_gw, .inl (T 0, 90, .inl v_gw)), (a_gk, .inl (T 0, 18, .inl v_gk))] [(a_g, .inr (1, [.ref a_gw, .ref a_gk])), (a_x, .inr (7, [.ref a_g, .ref a_b, .ref a_v, .ref a_h, .ref a_r, .ref a_f, .ref a_u, .ref a_t, .ref a_n, .int x_sav, .int x_err, .int x_rea, .int x_det, .int x_com])), (a_gw, .inl (T 0, 90, .inl v_gw)), (a_gk, .inl (T 0, 18, .inl v_gk))] [.ref a_x, .int p0] r.1 r.2 := by
  unfold fX7_beside at h
  refine thMetI hnt (by decide +kernel) rfl (fun p e s m args below meth c Q A C hE hA hZ hP hD hS hret ls hl => ?_)
  have hx := C.1
  have hb := C.2.1
  have hl : lv_has ls 4 [(0, .ref a_x), (1, .int p0)] := hl
  refine lv_aload_n hx hb dX7_beside_0 rfl (lv_at hl 0 rfl) ?_
  refine lv_iload_n hx hb dX7_beside_1 rfl (lv_at hl 1 rfl) ?_
  replace h := bnd h; obtain ⟨q1, e2, h⟩ := h
  refine thVv (ws1 := [(a_g, .inr (1, [.ref a_gw, .ref a_gk])), (a_x, .inr (7, [.ref a_g, .ref a_b, .ref a_v, .ref a_h, .ref a_r, .ref a_f, .ref a_u, .ref a_t, .ref a_n, .int x_sav, .int x_err, .int x_rea, .int x_det, .int x_com])), (a_gw, .inl (T 0, 90, .inl v_gw)), (a_gk, .inl (T 0, 18, .inl v_gk))]) C hE hZ hP hD hS hA (kX7_demandTeam l hZ.1 D T a_x p0 _ q1 e2) mX7_demandTeam qLX7_232 [] [0, 1, 2, 3] 1 rfl rfl rfl rfl rfl rfl rfl rfl rfl ⟨Nat.le_of_ble_eq_true rfl, Nat.le_of_ble_eq_true rfl⟩ rfl hl.1 rfl (Nat.le_of_ble_eq_true rfl) dX7_beside_2 ⟨Nat.le_of_ble_eq_true rfl, Nat.le_of_ble_eq_true rfl⟩ ?_ ?_
  · clear hP hD hS; intro hx0 H locs ce q9 hP hD hS g1 g2 g3
    replace h := ite_f (Nat.ne_of_gt hx0) h
    replace h := Option.some.inj h
    exact hret.2.1 _ _ _ _ _ _ _ _ _ (Nat.le_of_ble_eq_true rfl) (Nat.le_of_ble_eq_true rfl) (by rw [← h]; exact hx0) hP hS g1 g2 (by rw [← h]; exact g3)
  · clear hP hD hS; intro hx0 H locs hP hD hS
    replace h := ite_t hx0 h
    refine lv_iconst (v := 0) hx hb dX7_beside_5 (by decide) ?_
    refine lv_istore_n (lv' := [(2, .int 0), (0, .ref a_x), (1, .int p0)]) hx hb dX7_beside_6 rfl hl (by decide) rfl (fun ls hl => ?_)
    refine lv_iconst (v := 0) hx hb dX7_beside_7 (by decide) ?_
    refine lv_istore_n (lv' := [(3, .int 0), (2, .int 0), (0, .ref a_x), (1, .int p0)]) hx hb dX7_beside_8 rfl hl (by decide) rfl (fun ls hl => ?_)
    exact lX7_beside_9 C hE hA hZ hret 64 p0 0 0 ⟨hP, hD⟩ hS _ (lv_sub hl [2, 3, 1, 0] rfl) h
