def fL_apart (p0 : Int32) (p1 : Int32) : Int32 :=
  ((if 0 ≤ ((p0 / 9) - (p1 / 9)) then ((p0 / 9) - (p1 / 9)) else 0 - ((p0 / 9) - (p1 / 9))) + (if 0 ≤ ((p0 - p0 / 9 * 9) - (p1 - p1 / 9 * 9)) then ((p0 - p0 / 9 * 9) - (p1 - p1 / 9 * 9)) else 0 - ((p0 - p0 / 9 * 9) - (p1 - p1 / 9 * 9))))
set_option maxHeartbeats 4000000 in
set_option maxRecDepth 100000 in
theorem kL_apart (l : Launch) (D : va_G) (T : Nat → ClassId) (p0 : Int32) (p1 : Int32) : RdI l yL_apart cL_apart 2 .int ({ frames := 1, cells := 0, slots := 0, locals := 21 } : Room) D T [] [.int p0, .int p1] (fL_apart p0 p1) := by
  obtain ⟨r, h⟩ : ∃ r, fL_apart p0 p1 = r := ⟨_, rfl⟩
  rw [h]
  unfold fL_apart at h
  refine rdMet (by decide +kernel) rfl (fun p e s m args below meth c Q C hE hP hret ls hl => ?_)
  have hx := C.1
  have hb := C.2.1
  have hl : lv_has ls 2 [(0, .int p0), (1, .int p1)] := hl
  refine lv_iload_n hx hb dL_apart_0 rfl (lv_at hl 0 rfl) ?_
  refine lv_bipush (v := 9) hx hb dL_apart_1 (by decide) ?_
  refine lv_idiv hx hb dL_apart_3 (by decide) ?_
  refine lv_iload_n hx hb dL_apart_4 rfl (lv_at hl 1 rfl) ?_
  refine lv_bipush (v := 9) hx hb dL_apart_5 (by decide) ?_
  refine lv_idiv hx hb dL_apart_7 (by decide) ?_
  refine lv_isub hx hb dL_apart_8 ?_
  refine va_mabs hx hb (C.2.2.1.trans hl.1.symm) C.2.2.2.1 (C.2.2.2.2 _ qLL_117) (C.2.2.2.2 _ qMs_abs) (C.2.2.2.2 _ qMi) (C.2.2.2.2 _ qMc_abs) (Nat.le_of_ble_eq_true rfl) (Nat.le_of_ble_eq_true rfl) (Nat.le_of_ble_eq_true rfl) (Nat.le_of_ble_eq_true rfl) dL_apart_9 ?_
  refine lv_iload_n hx hb dL_apart_12 rfl (lv_at hl 0 rfl) ?_
  refine lv_bipush (v := 9) hx hb dL_apart_13 (by decide) ?_
  refine lv_irem hx hb dL_apart_15 (by decide) ?_
  refine lv_iload_n hx hb dL_apart_16 rfl (lv_at hl 1 rfl) ?_
  refine lv_bipush (v := 9) hx hb dL_apart_17 (by decide) ?_
  refine lv_irem hx hb dL_apart_19 (by decide) ?_
  refine lv_isub hx hb dL_apart_20 ?_
  refine va_mabs hx hb (C.2.2.1.trans hl.1.symm) C.2.2.2.1 (C.2.2.2.2 _ qLL_117) (C.2.2.2.2 _ qMs_abs) (C.2.2.2.2 _ qMi) (C.2.2.2.2 _ qMc_abs) (Nat.le_of_ble_eq_true rfl) (Nat.le_of_ble_eq_true rfl) (Nat.le_of_ble_eq_true rfl) (Nat.le_of_ble_eq_true rfl) dL_apart_21 ?_
  refine lv_iadd hx hb dL_apart_24 ?_
  exact hret _ _ _ _ dL_apart_25 rfl h

def fL_far (t_len : Int32) (h_siz : Int32) (v_gw : Nat → Int32) (v_gk : Nat → Int32) (p0 : Int32) : Option Int32 :=
  (fX7_whaleOf_n v_gw v_gk p0 4).bind fun q1 =>
  if 0 ≤ q1 then
    (fX7_whaleOf_n v_gw v_gk p0 4).bind fun q4 =>
    (fX7_account_n t_len h_siz v_gw v_gk 5).bind fun q6 =>
    some (fL_apart q4 q6)
  else
    some 99
set_option maxHeartbeats 4000000 in
set_option maxRecDepth 100000 in
theorem kL_far (l : Launch) (hnt : l.stackTraces = false) (D : va_G) (T : Nat → ClassId) (a_g a_gw a_gk a_t a_ti a_tn a_h a_hp a_x a_b a_v a_r a_f a_u a_n : Nat) (t_len : Int32) (t_cur : Int32) (t_kin : Int32) (t_tol : Int32) (t_don : Int32) (h_old : Int32) (h_siz : Int32) (x_sav : Int32) (x_err : Int32) (x_rea : Int32) (x_det : Int32) (x_com : Int32) (v_gw : Nat → Int32) (v_gk : Nat → Int32) (p0 : Int32) (sz : Nat) (r : Int32) (h : fL_far t_len h_siz v_gw v_gk p0 = some r) : LnI (fun _ => True) l yL_far cL_far 2 .int ({ frames := 4, cells := 0, slots := 0, locals := 88 } : Room) D T sz [(a_g, .inr (1, [.ref a_gw, .ref a_gk])), (a_t, .inr (5, [.ref a_ti, .ref a_tn, .int t_len, .int t_cur, .int t_kin, .int t_tol, .int t_don])), (a_h, .inr (2, [.ref a_hp, .int h_old, .int h_siz])), (a_x, .inr (7, [.ref a_g, .ref a_b, .ref a_v, .ref a_h, .ref a_r, .ref a_f, .ref a_u, .ref a_t, .ref a_n, .int x_sav, .int x_err, .int x_rea, .int x_det, .int x_com])), (a_gw, .inl (T 0, 90, .inl v_gw)), (a_gk, .inl (T 0, 18, .inl v_gk))] [(a_g, .inr (1, [.ref a_gw, .ref a_gk])), (a_t, .inr (5, [.ref a_ti, .ref a_tn, .int t_len, .int t_cur, .int t_kin, .int t_tol, .int t_don])), (a_h, .inr (2, [.ref a_hp, .int h_old, .int h_siz])), (a_x, .inr (7, [.ref a_g, .ref a_b, .ref a_v, .ref a_h, .ref a_r, .ref a_f, .ref a_u, .ref a_t, .ref a_n, .int x_sav, .int x_err, .int x_rea, .int x_det, .int x_com])), (a_gw, .inl (T 0, 90, .inl v_gw)), (a_gk, .inl (T 0, 18, .inl v_gk))] [.ref a_x, .int p0] r := by
  unfold fL_far at h
  refine lnMet hnt (by decide +kernel) rfl (fun p e s m args below meth c Q A _ C hE hA hZ hJ hP hD hS hret ls hl => ?_)
  have hx := C.1
  have hb := C.2.1
  have hl : lv_has ls 2 [(0, .ref a_x), (1, .int p0)] := hl
  refine lv_aload_n hx hb dL_far_0 rfl (lv_at hl 0 rfl) ?_
  refine lv_iload_n hx hb dL_far_1 rfl (lv_at hl 1 rfl) ?_
  refine lv_iconst (v := 4) hx hb dL_far_2 (by decide) ?_
  replace h := bnd h; obtain ⟨q1, e2, h⟩ := h
  refine wrVi (ws1 := [(a_g, .inr (1, [.ref a_gw, .ref a_gk])), (a_t, .inr (5, [.ref a_ti, .ref a_tn, .int t_len, .int t_cur, .int t_kin, .int t_tol, .int t_don])), (a_h, .inr (2, [.ref a_hp, .int h_old, .int h_siz])), (a_x, .inr (7, [.ref a_g, .ref a_b, .ref a_v, .ref a_h, .ref a_r, .ref a_f, .ref a_u, .ref a_t, .ref a_n, .int x_sav, .int x_err, .int x_rea, .int x_det, .int x_com])), (a_gw, .inl (T 0, 90, .inl v_gw)), (a_gk, .inl (T 0, 18, .inl v_gk))]) C hE hP hD hS hA (kX7_whaleOf_n l D T a_g a_gw a_gk a_x a_b a_v a_h a_r a_f a_u a_t a_n x_sav x_err x_rea x_det x_com v_gw v_gk p0 4 _ q1 e2) mX7_whaleOf qLL_120 [0, 3, 4, 5] [1, 2] 3 rfl rfl rfl rfl rfl rfl rfl rfl rfl ⟨rfl, rfl⟩ ⟨Nat.le_of_ble_eq_true rfl, Nat.le_of_ble_eq_true rfl⟩ rfl hl.1 rfl (Nat.le_of_ble_eq_true rfl) dL_far_3 ⟨Nat.le_of_ble_eq_true rfl, Nat.le_of_ble_eq_true rfl⟩ ?_; clear hP hD hS; intro H locs hP hD hS
  refine lv_if_ge (tgt := 14) hx hb dL_far_6 (by decide) (fun c3 => ?_) (fun c3 => ?_)
  · replace h := ite_t c3 h
    refine lv_aload_n hx hb dL_far_14 rfl (lv_at hl 0 rfl) ?_
    refine lv_iload_n hx hb dL_far_15 rfl (lv_at hl 1 rfl) ?_
    refine lv_iconst (v := 4) hx hb dL_far_16 (by decide) ?_
    replace h := bnd h; obtain ⟨q4, e5, h⟩ := h
    refine wrVi (ws1 := [(a_g, .inr (1, [.ref a_gw, .ref a_gk])), (a_t, .inr (5, [.ref a_ti, .ref a_tn, .int t_len, .int t_cur, .int t_kin, .int t_tol, .int t_don])), (a_h, .inr (2, [.ref a_hp, .int h_old, .int h_siz])), (a_x, .inr (7, [.ref a_g, .ref a_b, .ref a_v, .ref a_h, .ref a_r, .ref a_f, .ref a_u, .ref a_t, .ref a_n, .int x_sav, .int x_err, .int x_rea, .int x_det, .int x_com])), (a_gw, .inl (T 0, 90, .inl v_gw)), (a_gk, .inl (T 0, 18, .inl v_gk))]) C hE hP hD hS hA (kX7_whaleOf_n l D T a_g a_gw a_gk a_x a_b a_v a_h a_r a_f a_u a_t a_n x_sav x_err x_rea x_det x_com v_gw v_gk p0 4 _ q4 e5) mX7_whaleOf qLL_120 [0, 3, 4, 5] [1, 2] 3 rfl rfl rfl rfl rfl rfl rfl rfl rfl ⟨rfl, rfl⟩ ⟨Nat.le_of_ble_eq_true rfl, Nat.le_of_ble_eq_true rfl⟩ rfl hl.1 rfl (Nat.le_of_ble_eq_true rfl) dL_far_17 ⟨Nat.le_of_ble_eq_true rfl, Nat.le_of_ble_eq_true rfl⟩ ?_; clear hP hD hS; intro H locs hP hD hS
    refine lv_aload_n hx hb dL_far_20 rfl (lv_at hl 0 rfl) ?_
    refine lv_iconst (v := 5) hx hb dL_far_21 (by decide) ?_
    replace h := bnd h; obtain ⟨q6, e7, h⟩ := h
    refine wrVi (ws1 := [(a_g, .inr (1, [.ref a_gw, .ref a_gk])), (a_t, .inr (5, [.ref a_ti, .ref a_tn, .int t_len, .int t_cur, .int t_kin, .int t_tol, .int t_don])), (a_h, .inr (2, [.ref a_hp, .int h_old, .int h_siz])), (a_x, .inr (7, [.ref a_g, .ref a_b, .ref a_v, .ref a_h, .ref a_r, .ref a_f, .ref a_u, .ref a_t, .ref a_n, .int x_sav, .int x_err, .int x_rea, .int x_det, .int x_com])), (a_gw, .inl (T 0, 90, .inl v_gw)), (a_gk, .inl (T 0, 18, .inl v_gk))]) C hE hP hD hS hA (kX7_account_n l D T a_g a_gw a_gk a_t a_ti a_tn a_h a_hp a_x a_b a_v a_r a_f a_u a_n t_len t_cur t_kin t_tol t_don h_old h_siz x_sav x_err x_rea x_det x_com v_gw v_gk 5 _ q6 e7) mX7_account qLL_105 [0, 1, 2, 3, 4, 5] [] 3 rfl rfl rfl rfl rfl rfl rfl rfl rfl ⟨rfl, rfl⟩ ⟨Nat.le_of_ble_eq_true rfl, Nat.le_of_ble_eq_true rfl⟩ rfl hl.1 rfl (Nat.le_of_ble_eq_true rfl) dL_far_22 ⟨Nat.le_of_ble_eq_true rfl, Nat.le_of_ble_eq_true rfl⟩ ?_; clear hP hD hS; intro H locs hP hD hS
    refine rdS C hE hP (kL_apart l D T q4 q6) mL_apart qLL_123 [] rfl ⟨rfl, rfl⟩ ⟨Nat.le_of_ble_eq_true rfl, Nat.le_of_ble_eq_true rfl⟩ rfl hl.1 rfl (Nat.le_of_ble_eq_true rfl) dL_far_25 ⟨Nat.le_of_ble_eq_true rfl, Nat.le_of_ble_eq_true rfl⟩ ?_
    replace h := Option.some.inj h
    exact hret _ _ _ _ _ _ _ _ (Nat.le_of_ble_eq_true rfl) (Nat.le_of_ble_eq_true rfl) dL_far_28 rfl (by rw [← h] <;> rfl) hP hS
  · replace h := ite_f c3 h
    refine lv_bipush (v := 99) hx hb dL_far_9 (by decide) ?_
    refine lv_goto (tgt := 28) hx hb dL_far_11 (by decide) ?_
    replace h := Option.some.inj h
    exact hret _ _ _ _ _ _ _ _ (Nat.le_of_ble_eq_true rfl) (Nat.le_of_ble_eq_true rfl) dL_far_28 rfl (by rw [← h] <;> rfl) hP hS

def fL_nearest_34 (t_len : Int32) (h_siz : Int32) (v_gw : Nat → Int32) (v_gk : Nat → Int32) (rec7 : Int32 → Int32 → Int32 → Option Int32) (x0 : Int32) (l2 : Int32) (l3 : Int32) (l4 : Int32) : Option Int32 :=
  rec7 x0 (if l4 < l2 then l4 else l2) (l3 + 1)
def fL_nearest_7 (t_len : Int32) (h_siz : Int32) (v_gw : Nat → Int32) (v_gk : Nat → Int32) : Nat → Int32 → Int32 → Int32 → Option Int32
  | 0, _, _, _ => none
  | k + 1, l1, l2, l3 =>
    (fX7_account_n t_len h_siz v_gw v_gk 0).bind fun q1 =>
    if q1 ≤ l3 then
      some l1
    else
      (fL_far t_len h_siz v_gw v_gk l3).bind fun q4 =>
      fL_nearest_34 t_len h_siz v_gw v_gk (fL_nearest_7 t_len h_siz v_gw v_gk k) (if l2 ≤ q4 then l1 else l3) l2 l3 q4
def fL_nearest (t_len : Int32) (h_siz : Int32) (v_gw : Nat → Int32) (v_gk : Nat → Int32) : Option Int32 :=
  fL_nearest_7 t_len h_siz v_gw v_gk 64 (-1) 99 0
set_option maxHeartbeats 4000000 in
set_option maxRecDepth 100000 in
theorem lL_nearest_34 {p : Program} {l : Launch} {e : Env} {s : State} {m : MethodId} {args : Array Value} {below : List Frame} {meth : Method} {c : Code} {Q : State → Prop} {D : va_G} {T : Nat → ClassId} {a_g a_gw a_gk a_t a_ti a_tn a_h a_hp a_x a_b a_v a_r a_f a_u a_n : Nat} {t_len : Int32} {t_cur : Int32} {t_kin : Int32} {t_tol : Int32} {t_don : Int32} {h_old : Int32} {h_siz : Int32} {x_sav : Int32} {x_err : Int32} {x_rea : Int32} {x_det : Int32} {x_com : Int32} {v_gw : Nat → Int32} {v_gk : Nat → Int32} {A : Nat → Prop} {r : Int32} (C : CallFix p m c cL_nearest 5 s args aw RL) (hE : eK D T s) (hA : ∀ q : Nat, s.heap.size ≤ q → A q) (hZ : eX l A s) (hret : LnRet p l e ({ frames := 5, cells := 0, slots := 0, locals := 109 } : Room) s m args below meth c Q cL_nearest .int D A [(a_g, .inr (1, [.ref a_gw, .ref a_gk])), (a_t, .inr (5, [.ref a_ti, .ref a_tn, .int t_len, .int t_cur, .int t_kin, .int t_tol, .int t_don])), (a_h, .inr (2, [.ref a_hp, .int h_old, .int h_siz])), (a_x, .inr (7, [.ref a_g, .ref a_b, .ref a_v, .ref a_h, .ref a_r, .ref a_f, .ref a_u, .ref a_t, .ref a_n, .int x_sav, .int x_err, .int x_rea, .int x_det, .int x_com])), (a_gw, .inl (T 0, 90, .inl v_gw)), (a_gk, .inl (T 0, 18, .inl v_gk))] r) {rec7 : Int32 → Int32 → Int32 → Option Int32} (hrec7 : ∀ (l1 : Int32) (l2 : Int32) (l3 : Int32) {H : Heap} {locs : List Loc} (hPD : va_PD D A [(a_g, .inr (1, [.ref a_gw, .ref a_gk])), (a_t, .inr (5, [.ref a_ti, .ref a_tn, .int t_len, .int t_cur, .int t_kin, .int t_tol, .int t_don])), (a_h, .inr (2, [.ref a_hp, .int h_old, .int h_siz])), (a_x, .inr (7, [.ref a_g, .ref a_b, .ref a_v, .ref a_h, .ref a_r, .ref a_f, .ref a_u, .ref a_t, .ref a_n, .int x_sav, .int x_err, .int x_rea, .int x_det, .int x_com])), (a_gw, .inl (T 0, 90, .inl v_gw)), (a_gk, .inl (T 0, 18, .inl v_gk))] H) (hS : va_S A s.heap H locs) (ls : Array Slot) (hl : lv_has ls 5 [(0, .ref a_x), (1, .int l1), (2, .int l2), (3, .int l3)]) (h : rec7 l1 l2 l3 = some r), W p l e ({ frames := 5, cells := 0, slots := 0, locals := 109 } : Room) s m args below meth c H locs 0 0 Q (F0 m 7 ls [])) (x0 : Int32) (l2 : Int32) (l3 : Int32) (l4 : Int32) {H : Heap} {locs : List Loc} (hPD : va_PD D A [(a_g, .inr (1, [.ref a_gw, .ref a_gk])), (a_t, .inr (5, [.ref a_ti, .ref a_tn, .int t_len, .int t_cur, .int t_kin, .int t_tol, .int t_don])), (a_h, .inr (2, [.ref a_hp, .int h_old, .int h_siz])), (a_x, .inr (7, [.ref a_g, .ref a_b, .ref a_v, .ref a_h, .ref a_r, .ref a_f, .ref a_u, .ref a_t, .ref a_n, .int x_sav, .int x_err, .int x_rea, .int x_det, .int x_com])), (a_gw, .inl (T 0, 90, .inl v_gw)), (a_gk, .inl (T 0, 18, .inl v_gk))] H) (hS : va_S A s.heap H locs) (ls : Array Slot) (hl : lv_has ls 5 [(0, .ref a_x), (2, .int l2), (3, .int l3), (4, .int l4)]) (h : fL_nearest_34 t_len h_siz v_gw v_gk rec7 x0 l2 l3 l4 = some r) : W p l e ({ frames := 5, cells := 0, slots := 0, locals := 109 } : Room) s m args below meth c H locs 0 0 Q (F0 m 34 ls [.int x0]) := by
  have hx := C.1
  have hb := C.2.1
  obtain ⟨hP, hD⟩ := hPD
  unfold fL_nearest_34 at h
  refine lv_istore_n (lv' := [(1, .int x0), (0, .ref a_x), (2, .int l2), (3, .int l3), (4, .int l4)]) hx hb dL_nearest_34 rfl hl (by decide) rfl (fun ls hl => ?_)
  refine lv_iload_n hx hb dL_nearest_35 rfl (lv_at hl 2 rfl) ?_
  refine lv_iload hx hb dL_nearest_36 (lv_at hl 4 rfl) ?_
  refine va_mmin hx hb (C.2.2.1.trans hl.1.symm) C.2.2.2.1 (C.2.2.2.2 _ qLL_112) (C.2.2.2.2 _ qMs_min) (C.2.2.2.2 _ qMi) (C.2.2.2.2 _ qMc_min) (Nat.le_of_ble_eq_true rfl) (Nat.le_of_ble_eq_true rfl) (Nat.le_of_ble_eq_true rfl) (Nat.le_of_ble_eq_true rfl) dL_nearest_38 ?_
  refine lv_istore_n (lv' := [(2, .int (if l4 < l2 then l4 else l2)), (1, .int x0), (0, .ref a_x), (3, .int l3), (4, .int l4)]) hx hb dL_nearest_41 rfl hl (by decide) rfl (fun ls hl => ?_)
  refine lv_iinc (v := (l3 + 1)) (lv' := [(3, .int (l3 + 1)), (2, .int (if l4 < l2 then l4 else l2)), (1, .int x0), (0, .ref a_x), (4, .int l4)]) hx hb dL_nearest_42 hl (k := 3) rfl rfl (by decide) rfl (fun ls hl => ?_)
  refine lv_goto (tgt := 7) hx hb dL_nearest_45 (by decide) ?_
  exact hrec7 x0 (if l4 < l2 then l4 else l2) (l3 + 1) ⟨hP, hD⟩ hS _ (lv_sub hl [3, 2, 1, 0] rfl) h
set_option maxHeartbeats 4000000 in
set_option maxRecDepth 100000 in
theorem lL_nearest_7 {p : Program} {l : Launch} {e : Env} {s : State} {m : MethodId} {args : Array Value} {below : List Frame} {meth : Method} {c : Code} {Q : State → Prop} {D : va_G} {T : Nat → ClassId} {a_g a_gw a_gk a_t a_ti a_tn a_h a_hp a_x a_b a_v a_r a_f a_u a_n : Nat} {t_len : Int32} {t_cur : Int32} {t_kin : Int32} {t_tol : Int32} {t_don : Int32} {h_old : Int32} {h_siz : Int32} {x_sav : Int32} {x_err : Int32} {x_rea : Int32} {x_det : Int32} {x_com : Int32} {v_gw : Nat → Int32} {v_gk : Nat → Int32} {A : Nat → Prop} {r : Int32} (C : CallFix p m c cL_nearest 5 s args aw RL) (hE : eK D T s) (hA : ∀ q : Nat, s.heap.size ≤ q → A q) (hZ : eX l A s) (hret : LnRet p l e ({ frames := 5, cells := 0, slots := 0, locals := 109 } : Room) s m args below meth c Q cL_nearest .int D A [(a_g, .inr (1, [.ref a_gw, .ref a_gk])), (a_t, .inr (5, [.ref a_ti, .ref a_tn, .int t_len, .int t_cur, .int t_kin, .int t_tol, .int t_don])), (a_h, .inr (2, [.ref a_hp, .int h_old, .int h_siz])), (a_x, .inr (7, [.ref a_g, .ref a_b, .ref a_v, .ref a_h, .ref a_r, .ref a_f, .ref a_u, .ref a_t, .ref a_n, .int x_sav, .int x_err, .int x_rea, .int x_det, .int x_com])), (a_gw, .inl (T 0, 90, .inl v_gw)), (a_gk, .inl (T 0, 18, .inl v_gk))] r) : ∀ (k : Nat) (l1 : Int32) (l2 : Int32) (l3 : Int32) {H : Heap} {locs : List Loc} (hPD : va_PD D A [(a_g, .inr (1, [.ref a_gw, .ref a_gk])), (a_t, .inr (5, [.ref a_ti, .ref a_tn, .int t_len, .int t_cur, .int t_kin, .int t_tol, .int t_don])), (a_h, .inr (2, [.ref a_hp, .int h_old, .int h_siz])), (a_x, .inr (7, [.ref a_g, .ref a_b, .ref a_v, .ref a_h, .ref a_r, .ref a_f, .ref a_u, .ref a_t, .ref a_n, .int x_sav, .int x_err, .int x_rea, .int x_det, .int x_com])), (a_gw, .inl (T 0, 90, .inl v_gw)), (a_gk, .inl (T 0, 18, .inl v_gk))] H) (hS : va_S A s.heap H locs) (ls : Array Slot) (hl : lv_has ls 5 [(0, .ref a_x), (1, .int l1), (2, .int l2), (3, .int l3)]) (h : fL_nearest_7 t_len h_siz v_gw v_gk k l1 l2 l3 = some r), W p l e ({ frames := 5, cells := 0, slots := 0, locals := 109 } : Room) s m args below meth c H locs 0 0 Q (F0 m 7 ls []) := by
  have hx := C.1
  have hb := C.2.1
  intro k
  induction k with
  | zero =>
    intro l1 l2 l3 H locs hPD hS ls hl h
    exact nomatch (show (none : Option Int32) = some r from h)
  | succ k ih =>
    intro l1 l2 l3 H locs hPD hS ls hl h
    obtain ⟨hP, hD⟩ := hPD
    rw [fL_nearest_7] at h
    refine lv_iload_n hx hb dL_nearest_7 rfl (lv_at hl 3 rfl) ?_
    refine lv_aload_n hx hb dL_nearest_8 rfl (lv_at hl 0 rfl) ?_
    refine lv_iconst (v := 0) hx hb dL_nearest_9 (by decide) ?_
    replace h := bnd h; obtain ⟨q1, e2, h⟩ := h
    refine wrVi (ws1 := [(a_g, .inr (1, [.ref a_gw, .ref a_gk])), (a_t, .inr (5, [.ref a_ti, .ref a_tn, .int t_len, .int t_cur, .int t_kin, .int t_tol, .int t_don])), (a_h, .inr (2, [.ref a_hp, .int h_old, .int h_siz])), (a_x, .inr (7, [.ref a_g, .ref a_b, .ref a_v, .ref a_h, .ref a_r, .ref a_f, .ref a_u, .ref a_t, .ref a_n, .int x_sav, .int x_err, .int x_rea, .int x_det, .int x_com])), (a_gw, .inl (T 0, 90, .inl v_gw)), (a_gk, .inl (T 0, 18, .inl v_gk))]) C hE hP hD hS hA (kX7_account_n l D T a_g a_gw a_gk a_t a_ti a_tn a_h a_hp a_x a_b a_v a_r a_f a_u a_n t_len t_cur t_kin t_tol t_don h_old h_siz x_sav x_err x_rea x_det x_com v_gw v_gk 0 _ q1 e2) mX7_account qLL_105 [0, 1, 2, 3, 4, 5] [] 3 rfl rfl rfl rfl rfl rfl rfl rfl rfl ⟨rfl, rfl⟩ ⟨Nat.le_of_ble_eq_true rfl, Nat.le_of_ble_eq_true rfl⟩ rfl hl.1 rfl (Nat.le_of_ble_eq_true rfl) dL_nearest_10 ⟨Nat.le_of_ble_eq_true rfl, Nat.le_of_ble_eq_true rfl⟩ ?_; clear hP hD hS; intro H locs hP hD hS
    refine lv_icmp_ge (tgt := 48) hx hb dL_nearest_13 (by decide) (fun c3 => ?_) (fun c3 => ?_)
    · replace h := ite_t c3 h
      refine lv_iload_n hx hb dL_nearest_48 rfl (lv_at hl 1 rfl) ?_
      replace h := Option.some.inj h
      exact hret _ _ _ _ _ _ _ _ (Nat.le_of_ble_eq_true rfl) (Nat.le_of_ble_eq_true rfl) dL_nearest_49 rfl (by rw [← h] <;> rfl) hP hS
    · replace h := ite_f c3 h
      refine lv_aload_n hx hb dL_nearest_16 rfl (lv_at hl 0 rfl) ?_
      refine lv_iload_n hx hb dL_nearest_17 rfl (lv_at hl 3 rfl) ?_
      replace h := bnd h; obtain ⟨q4, e5, h⟩ := h
      refine lnS (ws1 := [(a_g, .inr (1, [.ref a_gw, .ref a_gk])), (a_t, .inr (5, [.ref a_ti, .ref a_tn, .int t_len, .int t_cur, .int t_kin, .int t_tol, .int t_don])), (a_h, .inr (2, [.ref a_hp, .int h_old, .int h_siz])), (a_x, .inr (7, [.ref a_g, .ref a_b, .ref a_v, .ref a_h, .ref a_r, .ref a_f, .ref a_u, .ref a_t, .ref a_n, .int x_sav, .int x_err, .int x_rea, .int x_det, .int x_com])), (a_gw, .inl (T 0, 90, .inl v_gw)), (a_gk, .inl (T 0, 18, .inl v_gk))]) C hE hZ hP hD hS hA Jb.tt (fun U hU hW => trivial) (kL_far l hZ.1 D T a_g a_gw a_gk a_t a_ti a_tn a_h a_hp a_x a_b a_v a_r a_f a_u a_n t_len t_cur t_kin t_tol t_don h_old h_siz x_sav x_err x_rea x_det x_com v_gw v_gk l3 _ q4 e5) mL_far qLL_108 [0, 1, 2, 3, 4, 5] [] rfl rfl rfl rfl rfl rfl ⟨Nat.le_of_ble_eq_true rfl, Nat.le_of_ble_eq_true rfl⟩ rfl hl.1 rfl (Nat.le_of_ble_eq_true rfl) dL_nearest_18 ⟨Nat.le_of_ble_eq_true rfl, Nat.le_of_ble_eq_true rfl⟩ ?_; clear hP hD hS; intro H locs hP hD hS
      refine lv_istore (lv' := [(4, .int q4), (0, .ref a_x), (1, .int l1), (2, .int l2), (3, .int l3)]) hx hb dL_nearest_21 hl (by decide) rfl (fun ls hl => ?_)
      refine lv_iload hx hb dL_nearest_23 (lv_at hl 0 rfl) ?_
      refine lv_iload_n hx hb dL_nearest_25 rfl (lv_at hl 3 rfl) ?_
      refine lv_icmp_ge (tgt := 33) hx hb dL_nearest_26 (by decide) (fun c6 => ?_) (fun c6 => ?_)
      · rw [if_pos c6] at h
        refine lv_iload_n hx hb dL_nearest_33 rfl (lv_at hl 2 rfl) ?_
        exact lL_nearest_34 C hE hA hZ hret ih l1 l2 l3 q4 ⟨hP, hD⟩ hS _ (lv_sub hl [1, 3, 4, 0] rfl) h
      · rw [if_neg c6] at h
        refine lv_iload_n hx hb dL_nearest_29 rfl (lv_at hl 4 rfl) ?_
        refine lv_goto (tgt := 34) hx hb dL_nearest_30 (by decide) ?_
        exact lL_nearest_34 C hE hA hZ hret ih l3 l2 l3 q4 ⟨hP, hD⟩ hS _ (lv_sub hl [1, 3, 4, 0] rfl) h
set_option maxHeartbeats 4000000 in
set_option maxRecDepth 100000 in
theorem kL_nearest (l : Launch) (hnt : l.stackTraces = false) (D : va_G) (T : Nat → ClassId) (a_g a_gw a_gk a_t a_ti a_tn a_h a_hp a_x a_b a_v a_r a_f a_u a_n : Nat) (t_len : Int32) (t_cur : Int32) (t_kin : Int32) (t_tol : Int32) (t_don : Int32) (h_old : Int32) (h_siz : Int32) (x_sav : Int32) (x_err : Int32) (x_rea : Int32) (x_det : Int32) (x_com : Int32) (v_gw : Nat → Int32) (v_gk : Nat → Int32) (sz : Nat) (r : Int32) (h : fL_nearest t_len h_siz v_gw v_gk = some r) : LnI (fun _ => True) l yL_nearest cL_nearest 5 .int ({ frames := 5, cells := 0, slots := 0, locals := 109 } : Room) D T sz [(a_g, .inr (1, [.ref a_gw, .ref a_gk])), (a_t, .inr (5, [.ref a_ti, .ref a_tn, .int t_len, .int t_cur, .int t_kin, .int t_tol, .int t_don])), (a_h, .inr (2, [.ref a_hp, .int h_old, .int h_siz])), (a_x, .inr (7, [.ref a_g, .ref a_b, .ref a_v, .ref a_h, .ref a_r, .ref a_f, .ref a_u, .ref a_t, .ref a_n, .int x_sav, .int x_err, .int x_rea, .int x_det, .int x_com])), (a_gw, .inl (T 0, 90, .inl v_gw)), (a_gk, .inl (T 0, 18, .inl v_gk))] [(a_g, .inr (1, [.ref a_gw, .ref a_gk])), (a_t, .inr (5, [.ref a_ti, .ref a_tn, .int t_len, .int t_cur, .int t_kin, .int t_tol, .int t_don])), (a_h, .inr (2, [.ref a_hp, .int h_old, .int h_siz])), (a_x, .inr (7, [.ref a_g, .ref a_b, .ref a_v, .ref a_h, .ref a_r, .ref a_f, .ref a_u, .ref a_t, .ref a_n, .int x_sav, .int x_err, .int x_rea, .int x_det, .int x_com])), (a_gw, .inl (T 0, 90, .inl v_gw)), (a_gk, .inl (T 0, 18, .inl v_gk))] [.ref a_x] r := by
  unfold fL_nearest at h
  refine lnMet hnt (by decide +kernel) rfl (fun p e s m args below meth c Q A _ C hE hA hZ hJ hP hD hS hret ls hl => ?_)
  have hx := C.1
  have hb := C.2.1
  have hl : lv_has ls 5 [(0, .ref a_x)] := hl
  refine lv_iconst (v := (-1)) hx hb dL_nearest_0 (by decide) ?_
  refine lv_istore_n (lv' := [(1, .int (-1)), (0, .ref a_x)]) hx hb dL_nearest_1 rfl hl (by decide) rfl (fun ls hl => ?_)
  refine lv_bipush (v := 99) hx hb dL_nearest_2 (by decide) ?_
  refine lv_istore_n (lv' := [(2, .int 99), (1, .int (-1)), (0, .ref a_x)]) hx hb dL_nearest_4 rfl hl (by decide) rfl (fun ls hl => ?_)
  refine lv_iconst (v := 0) hx hb dL_nearest_5 (by decide) ?_
  refine lv_istore_n (lv' := [(3, .int 0), (2, .int 99), (1, .int (-1)), (0, .ref a_x)]) hx hb dL_nearest_6 rfl hl (by decide) rfl (fun ls hl => ?_)
  exact lL_nearest_7 C hE hA hZ hret 64 (-1) 99 0 ⟨hP, hD⟩ hS _ (lv_sub hl [3, 2, 1, 0] rfl) h

def fL_seen_40 (t_len : Int32) (h_siz : Int32) (v_gw : Nat → Int32) (v_gk : Nat → Int32) (rec29 : Int32 → (Nat → Int32) → Option ((Nat → Int32))) : Nat → Int32 → Int32 → (Nat → Int32) → Option ((Nat → Int32))
  | 0, _, _, _ => none
  | k + 1, l2, l3, v_pn =>
    if 9 ≤ l3 then
      rec29 (l2 + 1) v_pn
    else
      (fX7_whaleOf_n v_gw v_gk l2 l3).bind fun q9 =>
      if vin ((12 + (9 * l2)) + l3) 110 = true then
      fL_seen_40 t_len h_siz v_gw v_gk rec29 k l2 (l3 + 1) (upd v_pn ((12 + (9 * l2)) + l3).toNatClampNeg q9)
      else none
def fL_seen_29 (t_len : Int32) (h_siz : Int32) (v_gw : Nat → Int32) (v_gk : Nat → Int32) : Nat → Int32 → (Nat → Int32) → Option ((Nat → Int32))
  | 0, _, _ => none
  | k + 1, l2, v_pn =>
    (fX7_account_n t_len h_siz v_gw v_gk 0).bind fun q5 =>
    if q5 ≤ l2 then
      some v_pn
    else
      fL_seen_40 t_len h_siz v_gw v_gk (fL_seen_29 t_len h_siz v_gw v_gk k) 64 l2 0 v_pn
def fL_seen_7 (t_len : Int32) (h_siz : Int32) (v_gw : Nat → Int32) (v_gk : Nat → Int32) : Nat → Int32 → (Nat → Int32) → Option ((Nat → Int32))
  | 0, _, _ => none
  | k + 1, l2, v_pn =>
    if 12 ≤ l2 then
      fL_seen_29 t_len h_siz v_gw v_gk 64 0 v_pn
    else
      (fX7_account_n t_len h_siz v_gw v_gk l2).bind fun q2 =>
      if vin l2 110 = true then
      fL_seen_7 t_len h_siz v_gw v_gk k (l2 + 1) (upd v_pn l2.toNatClampNeg q2)
      else none
def fL_seen (t_len : Int32) (h_siz : Int32) (v_gw : Nat → Int32) (v_gk : Nat → Int32) : Option ((Nat → Int32)) :=
  fL_seen_7 t_len h_siz v_gw v_gk 64 0 (fun _ => 0)
set_option maxHeartbeats 4000000 in
set_option maxRecDepth 100000 in
theorem lL_seen_40 {p : Program} {l : Launch} {e : Env} {s : State} {m : MethodId} {args : Array Value} {below : List Frame} {meth : Method} {c : Code} {Q : State → Prop} {D : va_G} {T : Nat → ClassId} {a_g a_gw a_gk a_t a_ti a_tn a_h a_hp a_x a_b a_v a_r a_f a_u a_n a_pn : Nat} {t_len : Int32} {t_cur : Int32} {t_kin : Int32} {t_tol : Int32} {t_don : Int32} {h_old : Int32} {h_siz : Int32} {x_sav : Int32} {x_err : Int32} {x_rea : Int32} {x_det : Int32} {x_com : Int32} {v_gw : Nat → Int32} {v_gk : Nat → Int32} {A : Nat → Prop} {r : (Nat → Int32)} (C : CallFix p m c cL_seen 4 s args aw RL) (hE : eK D T s) (hA : ∀ q : Nat, s.heap.size ≤ q → A q) (hZ : eX l A s) (hret : LnRetR p l e ({ frames := 4, cells := 1, slots := 110, locals := 88 } : Room) s m args below meth c Q cL_seen D A (fun q => [(a_g, .inr (1, [.ref a_gw, .ref a_gk])), (a_t, .inr (5, [.ref a_ti, .ref a_tn, .int t_len, .int t_cur, .int t_kin, .int t_tol, .int t_don])), (a_h, .inr (2, [.ref a_hp, .int h_old, .int h_siz])), (a_x, .inr (7, [.ref a_g, .ref a_b, .ref a_v, .ref a_h, .ref a_r, .ref a_f, .ref a_u, .ref a_t, .ref a_n, .int x_sav, .int x_err, .int x_rea, .int x_det, .int x_com])), (a_gw, .inl (T 0, 90, .inl v_gw)), (a_gk, .inl (T 0, 18, .inl v_gk)), (q 0, .inl (T 0, 110, .inl r))]) (fun q => q 0)) {rec29 : Int32 → (Nat → Int32) → Option ((Nat → Int32))} (hrec29 : ∀ (l2 : Int32) (v_pn : Nat → Int32) {H : Heap} {locs : List Loc} (hPD : va_PD D A [(a_g, .inr (1, [.ref a_gw, .ref a_gk])), (a_t, .inr (5, [.ref a_ti, .ref a_tn, .int t_len, .int t_cur, .int t_kin, .int t_tol, .int t_don])), (a_h, .inr (2, [.ref a_hp, .int h_old, .int h_siz])), (a_x, .inr (7, [.ref a_g, .ref a_b, .ref a_v, .ref a_h, .ref a_r, .ref a_f, .ref a_u, .ref a_t, .ref a_n, .int x_sav, .int x_err, .int x_rea, .int x_det, .int x_com])), (a_gw, .inl (T 0, 90, .inl v_gw)), (a_gk, .inl (T 0, 18, .inl v_gk)), (a_pn, .inl (T 0, 110, .inl v_pn))] H) (hS : va_S A s.heap H locs) (ls : Array Slot) (hl : lv_has ls 4 [(0, .ref a_x), (1, .ref a_pn), (2, .int l2)]) (h : rec29 l2 v_pn = some r), W p l e ({ frames := 4, cells := 1, slots := 110, locals := 88 } : Room) s m args below meth c H locs 1 110 Q (F0 m 29 ls [])) : ∀ (k : Nat) (l2 : Int32) (l3 : Int32) (v_pn : Nat → Int32) {H : Heap} {locs : List Loc} (hPD : va_PD D A [(a_g, .inr (1, [.ref a_gw, .ref a_gk])), (a_t, .inr (5, [.ref a_ti, .ref a_tn, .int t_len, .int t_cur, .int t_kin, .int t_tol, .int t_don])), (a_h, .inr (2, [.ref a_hp, .int h_old, .int h_siz])), (a_x, .inr (7, [.ref a_g, .ref a_b, .ref a_v, .ref a_h, .ref a_r, .ref a_f, .ref a_u, .ref a_t, .ref a_n, .int x_sav, .int x_err, .int x_rea, .int x_det, .int x_com])), (a_gw, .inl (T 0, 90, .inl v_gw)), (a_gk, .inl (T 0, 18, .inl v_gk)), (a_pn, .inl (T 0, 110, .inl v_pn))] H) (hS : va_S A s.heap H locs) (ls : Array Slot) (hl : lv_has ls 4 [(0, .ref a_x), (1, .ref a_pn), (2, .int l2), (3, .int l3)]) (h : fL_seen_40 t_len h_siz v_gw v_gk rec29 k l2 l3 v_pn = some r), W p l e ({ frames := 4, cells := 1, slots := 110, locals := 88 } : Room) s m args below meth c H locs 1 110 Q (F0 m 40 ls []) := by
  have hx := C.1
  have hb := C.2.1
  intro k
  induction k with
  | zero =>
    intro l2 l3 v_pn H locs hPD hS ls hl h
    exact nomatch (show (none : Option ((Nat → Int32))) = some r from h)
  | succ k ih =>
    intro l2 l3 v_pn H locs hPD hS ls hl h
    obtain ⟨hP, hD⟩ := hPD
    rw [fL_seen_40] at h
    refine lv_iload_n hx hb dL_seen_40 rfl (lv_at hl 3 rfl) ?_
    refine lv_bipush (v := 9) hx hb dL_seen_41 (by decide) ?_
    refine lv_icmp_ge (tgt := 69) hx hb dL_seen_43 (by decide) (fun c8 => ?_) (fun c8 => ?_)
    · replace h := ite_t c8 h
      refine lv_iinc (v := (l2 + 1)) (lv' := [(2, .int (l2 + 1)), (0, .ref a_x), (1, .ref a_pn), (3, .int l3)]) hx hb dL_seen_69 hl (k := 2) rfl rfl (by decide) rfl (fun ls hl => ?_)
      refine lv_goto (tgt := 29) hx hb dL_seen_72 (by decide) ?_
      exact hrec29 (l2 + 1) v_pn ⟨hP, hD⟩ hS _ (lv_sub hl [1, 2, 0] rfl) h
    · replace h := ite_f c8 h
      refine lv_aload_n hx hb dL_seen_46 rfl (lv_at hl 1 rfl) ?_
      refine lv_bipush (v := 12) hx hb dL_seen_47 (by decide) ?_
      refine lv_bipush (v := 9) hx hb dL_seen_49 (by decide) ?_
      refine lv_iload_n hx hb dL_seen_51 rfl (lv_at hl 2 rfl) ?_
      refine lv_imul hx hb dL_seen_52 ?_
      refine lv_iadd hx hb dL_seen_53 ?_
      refine lv_iload_n hx hb dL_seen_54 rfl (lv_at hl 3 rfl) ?_
      refine lv_iadd hx hb dL_seen_55 ?_
      refine lv_aload_n hx hb dL_seen_56 rfl (lv_at hl 0 rfl) ?_
      refine lv_iload_n hx hb dL_seen_57 rfl (lv_at hl 2 rfl) ?_
      refine lv_iload_n hx hb dL_seen_58 rfl (lv_at hl 3 rfl) ?_
      replace h := bnd h; obtain ⟨q9, e10, h⟩ := h
      refine wrVi (ws1 := [(a_g, .inr (1, [.ref a_gw, .ref a_gk])), (a_t, .inr (5, [.ref a_ti, .ref a_tn, .int t_len, .int t_cur, .int t_kin, .int t_tol, .int t_don])), (a_h, .inr (2, [.ref a_hp, .int h_old, .int h_siz])), (a_x, .inr (7, [.ref a_g, .ref a_b, .ref a_v, .ref a_h, .ref a_r, .ref a_f, .ref a_u, .ref a_t, .ref a_n, .int x_sav, .int x_err, .int x_rea, .int x_det, .int x_com])), (a_gw, .inl (T 0, 90, .inl v_gw)), (a_gk, .inl (T 0, 18, .inl v_gk)), (a_pn, .inl (T 0, 110, .inl v_pn))]) C hE hP hD hS hA (kX7_whaleOf_n l D T a_g a_gw a_gk a_x a_b a_v a_h a_r a_f a_u a_t a_n x_sav x_err x_rea x_det x_com v_gw v_gk l2 l3 _ q9 e10) mX7_whaleOf qLL_120 [0, 3, 4, 5] [1, 2, 6] 3 rfl rfl rfl rfl rfl rfl rfl rfl rfl ⟨rfl, rfl⟩ ⟨Nat.le_of_ble_eq_true rfl, Nat.le_of_ble_eq_true rfl⟩ rfl hl.1 rfl (Nat.le_of_ble_eq_true rfl) dL_seen_59 ⟨Nat.le_of_ble_eq_true rfl, Nat.le_of_ble_eq_true rfl⟩ ?_; clear hP hD hS; intro H locs hP hD hS
      replace h := gd h; obtain ⟨g11, h⟩ := h
      refine astI (q0 := 6) (ws1 := [(a_g, .inr (1, [.ref a_gw, .ref a_gk])), (a_t, .inr (5, [.ref a_ti, .ref a_tn, .int t_len, .int t_cur, .int t_kin, .int t_tol, .int t_don])), (a_h, .inr (2, [.ref a_hp, .int h_old, .int h_siz])), (a_x, .inr (7, [.ref a_g, .ref a_b, .ref a_v, .ref a_h, .ref a_r, .ref a_f, .ref a_u, .ref a_t, .ref a_n, .int x_sav, .int x_err, .int x_rea, .int x_det, .int x_com])), (a_gw, .inl (T 0, 90, .inl v_gw)), (a_gk, .inl (T 0, 18, .inl v_gk)), (a_pn, .inl (T 0, 110, .inl (upd v_pn ((12 + (9 * l2)) + l3).toNatClampNeg q9)))]) C hE hP hD hS rfl g11 rfl dL_seen_62 ?_; clear hP hD hS; intro H locs hP hD hS
      refine lv_iinc (v := (l3 + 1)) (lv' := [(3, .int (l3 + 1)), (0, .ref a_x), (1, .ref a_pn), (2, .int l2)]) hx hb dL_seen_63 hl (k := 3) rfl rfl (by decide) rfl (fun ls hl => ?_)
      refine lv_goto (tgt := 40) hx hb dL_seen_66 (by decide) ?_
      exact ih l2 (l3 + 1) (upd v_pn ((12 + (9 * l2)) + l3).toNatClampNeg q9) ⟨hP, hD⟩ hS _ (lv_sub hl [1, 2, 3, 0] rfl) h
set_option maxHeartbeats 4000000 in
set_option maxRecDepth 100000 in
theorem lL_seen_29 {p : Program} {l : Launch} {e : Env} {s : State} {m : MethodId} {args : Array Value} {below : List Frame} {meth : Method} {c : Code} {Q : State → Prop} {D : va_G} {T : Nat → ClassId} {a_g a_gw a_gk a_t a_ti a_tn a_h a_hp a_x a_b a_v a_r a_f a_u a_n a_pn : Nat} {t_len : Int32} {t_cur : Int32} {t_kin : Int32} {t_tol : Int32} {t_don : Int32} {h_old : Int32} {h_siz : Int32} {x_sav : Int32} {x_err : Int32} {x_rea : Int32} {x_det : Int32} {x_com : Int32} {v_gw : Nat → Int32} {v_gk : Nat → Int32} {A : Nat → Prop} {r : (Nat → Int32)} (C : CallFix p m c cL_seen 4 s args aw RL) (hE : eK D T s) (hA : ∀ q : Nat, s.heap.size ≤ q → A q) (hZ : eX l A s) (hret : LnRetR p l e ({ frames := 4, cells := 1, slots := 110, locals := 88 } : Room) s m args below meth c Q cL_seen D A (fun q => [(a_g, .inr (1, [.ref a_gw, .ref a_gk])), (a_t, .inr (5, [.ref a_ti, .ref a_tn, .int t_len, .int t_cur, .int t_kin, .int t_tol, .int t_don])), (a_h, .inr (2, [.ref a_hp, .int h_old, .int h_siz])), (a_x, .inr (7, [.ref a_g, .ref a_b, .ref a_v, .ref a_h, .ref a_r, .ref a_f, .ref a_u, .ref a_t, .ref a_n, .int x_sav, .int x_err, .int x_rea, .int x_det, .int x_com])), (a_gw, .inl (T 0, 90, .inl v_gw)), (a_gk, .inl (T 0, 18, .inl v_gk)), (q 0, .inl (T 0, 110, .inl r))]) (fun q => q 0)) : ∀ (k : Nat) (l2 : Int32) (v_pn : Nat → Int32) {H : Heap} {locs : List Loc} (hPD : va_PD D A [(a_g, .inr (1, [.ref a_gw, .ref a_gk])), (a_t, .inr (5, [.ref a_ti, .ref a_tn, .int t_len, .int t_cur, .int t_kin, .int t_tol, .int t_don])), (a_h, .inr (2, [.ref a_hp, .int h_old, .int h_siz])), (a_x, .inr (7, [.ref a_g, .ref a_b, .ref a_v, .ref a_h, .ref a_r, .ref a_f, .ref a_u, .ref a_t, .ref a_n, .int x_sav, .int x_err, .int x_rea, .int x_det, .int x_com])), (a_gw, .inl (T 0, 90, .inl v_gw)), (a_gk, .inl (T 0, 18, .inl v_gk)), (a_pn, .inl (T 0, 110, .inl v_pn))] H) (hS : va_S A s.heap H locs) (ls : Array Slot) (hl : lv_has ls 4 [(0, .ref a_x), (1, .ref a_pn), (2, .int l2)]) (h : fL_seen_29 t_len h_siz v_gw v_gk k l2 v_pn = some r), W p l e ({ frames := 4, cells := 1, slots := 110, locals := 88 } : Room) s m args below meth c H locs 1 110 Q (F0 m 29 ls []) := by
  have hx := C.1
  have hb := C.2.1
  intro k
  induction k with
  | zero =>
    intro l2 v_pn H locs hPD hS ls hl h
    exact nomatch (show (none : Option ((Nat → Int32))) = some r from h)
  | succ k ih =>
    intro l2 v_pn H locs hPD hS ls hl h
    obtain ⟨hP, hD⟩ := hPD
    rw [fL_seen_29] at h
    refine lv_iload_n hx hb dL_seen_29 rfl (lv_at hl 2 rfl) ?_
    refine lv_aload_n hx hb dL_seen_30 rfl (lv_at hl 0 rfl) ?_
    refine lv_iconst (v := 0) hx hb dL_seen_31 (by decide) ?_
    replace h := bnd h; obtain ⟨q5, e6, h⟩ := h
    refine wrVi (ws1 := [(a_g, .inr (1, [.ref a_gw, .ref a_gk])), (a_t, .inr (5, [.ref a_ti, .ref a_tn, .int t_len, .int t_cur, .int t_kin, .int t_tol, .int t_don])), (a_h, .inr (2, [.ref a_hp, .int h_old, .int h_siz])), (a_x, .inr (7, [.ref a_g, .ref a_b, .ref a_v, .ref a_h, .ref a_r, .ref a_f, .ref a_u, .ref a_t, .ref a_n, .int x_sav, .int x_err, .int x_rea, .int x_det, .int x_com])), (a_gw, .inl (T 0, 90, .inl v_gw)), (a_gk, .inl (T 0, 18, .inl v_gk)), (a_pn, .inl (T 0, 110, .inl v_pn))]) C hE hP hD hS hA (kX7_account_n l D T a_g a_gw a_gk a_t a_ti a_tn a_h a_hp a_x a_b a_v a_r a_f a_u a_n t_len t_cur t_kin t_tol t_don h_old h_siz x_sav x_err x_rea x_det x_com v_gw v_gk 0 _ q5 e6) mX7_account qLL_105 [0, 1, 2, 3, 4, 5] [6] 3 rfl rfl rfl rfl rfl rfl rfl rfl rfl ⟨rfl, rfl⟩ ⟨Nat.le_of_ble_eq_true rfl, Nat.le_of_ble_eq_true rfl⟩ rfl hl.1 rfl (Nat.le_of_ble_eq_true rfl) dL_seen_32 ⟨Nat.le_of_ble_eq_true rfl, Nat.le_of_ble_eq_true rfl⟩ ?_; clear hP hD hS; intro H locs hP hD hS
    refine lv_icmp_ge (tgt := 75) hx hb dL_seen_35 (by decide) (fun c7 => ?_) (fun c7 => ?_)
    · replace h := ite_t c7 h
      refine lv_aload_n hx hb dL_seen_75 rfl (lv_at hl 1 rfl) ?_
      replace h := Option.some.inj h
      exact hret _ _ _ _ _ _ (fun _ => a_pn) (Nat.le_of_ble_eq_true rfl) (Nat.le_of_ble_eq_true rfl) dL_seen_76 (by rw [← h]; exact hP) (by rw [← h]; exact hD) hS
    · replace h := ite_f c7 h
      refine lv_iconst (v := 0) hx hb dL_seen_38 (by decide) ?_
      refine lv_istore_n (lv' := [(3, .int 0), (0, .ref a_x), (1, .ref a_pn), (2, .int l2)]) hx hb dL_seen_39 rfl hl (by decide) rfl (fun ls hl => ?_)
      exact lL_seen_40 C hE hA hZ hret ih 64 l2 0 v_pn ⟨hP, hD⟩ hS _ (lv_sub hl [1, 2, 3, 0] rfl) h
set_option maxHeartbeats 4000000 in
set_option maxRecDepth 100000 in
theorem lL_seen_7 {p : Program} {l : Launch} {e : Env} {s : State} {m : MethodId} {args : Array Value} {below : List Frame} {meth : Method} {c : Code} {Q : State → Prop} {D : va_G} {T : Nat → ClassId} {a_g a_gw a_gk a_t a_ti a_tn a_h a_hp a_x a_b a_v a_r a_f a_u a_n a_pn : Nat} {t_len : Int32} {t_cur : Int32} {t_kin : Int32} {t_tol : Int32} {t_don : Int32} {h_old : Int32} {h_siz : Int32} {x_sav : Int32} {x_err : Int32} {x_rea : Int32} {x_det : Int32} {x_com : Int32} {v_gw : Nat → Int32} {v_gk : Nat → Int32} {A : Nat → Prop} {r : (Nat → Int32)} (C : CallFix p m c cL_seen 4 s args aw RL) (hE : eK D T s) (hA : ∀ q : Nat, s.heap.size ≤ q → A q) (hZ : eX l A s) (hret : LnRetR p l e ({ frames := 4, cells := 1, slots := 110, locals := 88 } : Room) s m args below meth c Q cL_seen D A (fun q => [(a_g, .inr (1, [.ref a_gw, .ref a_gk])), (a_t, .inr (5, [.ref a_ti, .ref a_tn, .int t_len, .int t_cur, .int t_kin, .int t_tol, .int t_don])), (a_h, .inr (2, [.ref a_hp, .int h_old, .int h_siz])), (a_x, .inr (7, [.ref a_g, .ref a_b, .ref a_v, .ref a_h, .ref a_r, .ref a_f, .ref a_u, .ref a_t, .ref a_n, .int x_sav, .int x_err, .int x_rea, .int x_det, .int x_com])), (a_gw, .inl (T 0, 90, .inl v_gw)), (a_gk, .inl (T 0, 18, .inl v_gk)), (q 0, .inl (T 0, 110, .inl r))]) (fun q => q 0)) : ∀ (k : Nat) (l2 : Int32) (v_pn : Nat → Int32) {H : Heap} {locs : List Loc} (hPD : va_PD D A [(a_g, .inr (1, [.ref a_gw, .ref a_gk])), (a_t, .inr (5, [.ref a_ti, .ref a_tn, .int t_len, .int t_cur, .int t_kin, .int t_tol, .int t_don])), (a_h, .inr (2, [.ref a_hp, .int h_old, .int h_siz])), (a_x, .inr (7, [.ref a_g, .ref a_b, .ref a_v, .ref a_h, .ref a_r, .ref a_f, .ref a_u, .ref a_t, .ref a_n, .int x_sav, .int x_err, .int x_rea, .int x_det, .int x_com])), (a_gw, .inl (T 0, 90, .inl v_gw)), (a_gk, .inl (T 0, 18, .inl v_gk)), (a_pn, .inl (T 0, 110, .inl v_pn))] H) (hS : va_S A s.heap H locs) (ls : Array Slot) (hl : lv_has ls 4 [(0, .ref a_x), (1, .ref a_pn), (2, .int l2)]) (h : fL_seen_7 t_len h_siz v_gw v_gk k l2 v_pn = some r), W p l e ({ frames := 4, cells := 1, slots := 110, locals := 88 } : Room) s m args below meth c H locs 1 110 Q (F0 m 7 ls []) := by
  have hx := C.1
  have hb := C.2.1
  intro k
  induction k with
  | zero =>
    intro l2 v_pn H locs hPD hS ls hl h
    exact nomatch (show (none : Option ((Nat → Int32))) = some r from h)
  | succ k ih =>
    intro l2 v_pn H locs hPD hS ls hl h
    obtain ⟨hP, hD⟩ := hPD
    rw [fL_seen_7] at h
    refine lv_iload_n hx hb dL_seen_7 rfl (lv_at hl 2 rfl) ?_
    refine lv_bipush (v := 12) hx hb dL_seen_8 (by decide) ?_
    refine lv_icmp_ge (tgt := 27) hx hb dL_seen_10 (by decide) (fun c1 => ?_) (fun c1 => ?_)
    · replace h := ite_t c1 h
      refine lv_iconst (v := 0) hx hb dL_seen_27 (by decide) ?_
      refine lv_istore_n (lv' := [(2, .int 0), (0, .ref a_x), (1, .ref a_pn)]) hx hb dL_seen_28 rfl hl (by decide) rfl (fun ls hl => ?_)
      exact lL_seen_29 C hE hA hZ hret 64 0 v_pn ⟨hP, hD⟩ hS _ (lv_sub hl [1, 2, 0] rfl) h
    · replace h := ite_f c1 h
      refine lv_aload_n hx hb dL_seen_13 rfl (lv_at hl 1 rfl) ?_
      refine lv_iload_n hx hb dL_seen_14 rfl (lv_at hl 2 rfl) ?_
      refine lv_aload_n hx hb dL_seen_15 rfl (lv_at hl 0 rfl) ?_
      refine lv_iload_n hx hb dL_seen_16 rfl (lv_at hl 2 rfl) ?_
      replace h := bnd h; obtain ⟨q2, e3, h⟩ := h
      refine wrVi (ws1 := [(a_g, .inr (1, [.ref a_gw, .ref a_gk])), (a_t, .inr (5, [.ref a_ti, .ref a_tn, .int t_len, .int t_cur, .int t_kin, .int t_tol, .int t_don])), (a_h, .inr (2, [.ref a_hp, .int h_old, .int h_siz])), (a_x, .inr (7, [.ref a_g, .ref a_b, .ref a_v, .ref a_h, .ref a_r, .ref a_f, .ref a_u, .ref a_t, .ref a_n, .int x_sav, .int x_err, .int x_rea, .int x_det, .int x_com])), (a_gw, .inl (T 0, 90, .inl v_gw)), (a_gk, .inl (T 0, 18, .inl v_gk)), (a_pn, .inl (T 0, 110, .inl v_pn))]) C hE hP hD hS hA (kX7_account_n l D T a_g a_gw a_gk a_t a_ti a_tn a_h a_hp a_x a_b a_v a_r a_f a_u a_n t_len t_cur t_kin t_tol t_don h_old h_siz x_sav x_err x_rea x_det x_com v_gw v_gk l2 _ q2 e3) mX7_account qLL_105 [0, 1, 2, 3, 4, 5] [6] 3 rfl rfl rfl rfl rfl rfl rfl rfl rfl ⟨rfl, rfl⟩ ⟨Nat.le_of_ble_eq_true rfl, Nat.le_of_ble_eq_true rfl⟩ rfl hl.1 rfl (Nat.le_of_ble_eq_true rfl) dL_seen_17 ⟨Nat.le_of_ble_eq_true rfl, Nat.le_of_ble_eq_true rfl⟩ ?_; clear hP hD hS; intro H locs hP hD hS
      replace h := gd h; obtain ⟨g4, h⟩ := h
      refine astI (q0 := 6) (ws1 := [(a_g, .inr (1, [.ref a_gw, .ref a_gk])), (a_t, .inr (5, [.ref a_ti, .ref a_tn, .int t_len, .int t_cur, .int t_kin, .int t_tol, .int t_don])), (a_h, .inr (2, [.ref a_hp, .int h_old, .int h_siz])), (a_x, .inr (7, [.ref a_g, .ref a_b, .ref a_v, .ref a_h, .ref a_r, .ref a_f, .ref a_u, .ref a_t, .ref a_n, .int x_sav, .int x_err, .int x_rea, .int x_det, .int x_com])), (a_gw, .inl (T 0, 90, .inl v_gw)), (a_gk, .inl (T 0, 18, .inl v_gk)), (a_pn, .inl (T 0, 110, .inl (upd v_pn l2.toNatClampNeg q2)))]) C hE hP hD hS rfl g4 rfl dL_seen_20 ?_; clear hP hD hS; intro H locs hP hD hS
      refine lv_iinc (v := (l2 + 1)) (lv' := [(2, .int (l2 + 1)), (0, .ref a_x), (1, .ref a_pn)]) hx hb dL_seen_21 hl (k := 2) rfl rfl (by decide) rfl (fun ls hl => ?_)
      refine lv_goto (tgt := 7) hx hb dL_seen_24 (by decide) ?_
      exact ih (l2 + 1) (upd v_pn l2.toNatClampNeg q2) ⟨hP, hD⟩ hS _ (lv_sub hl [1, 2, 0] rfl) h
set_option maxHeartbeats 4000000 in
set_option maxRecDepth 100000 in
theorem kL_seen (l : Launch) (hnt : l.stackTraces = false) (D : va_G) (T : Nat → ClassId) (a_g a_gw a_gk a_t a_ti a_tn a_h a_hp a_x a_b a_v a_r a_f a_u a_n : Nat) (t_len : Int32) (t_cur : Int32) (t_kin : Int32) (t_tol : Int32) (t_don : Int32) (h_old : Int32) (h_siz : Int32) (x_sav : Int32) (x_err : Int32) (x_rea : Int32) (x_det : Int32) (x_com : Int32) (v_gw : Nat → Int32) (v_gk : Nat → Int32) (sz : Nat) (r : (Nat → Int32)) (h : fL_seen t_len h_siz v_gw v_gk = some r) : LnR (fun _ => True) l yL_seen cL_seen 4 (.array .int) ({ frames := 4, cells := 1, slots := 110, locals := 88 } : Room) D T sz [(a_g, .inr (1, [.ref a_gw, .ref a_gk])), (a_t, .inr (5, [.ref a_ti, .ref a_tn, .int t_len, .int t_cur, .int t_kin, .int t_tol, .int t_don])), (a_h, .inr (2, [.ref a_hp, .int h_old, .int h_siz])), (a_x, .inr (7, [.ref a_g, .ref a_b, .ref a_v, .ref a_h, .ref a_r, .ref a_f, .ref a_u, .ref a_t, .ref a_n, .int x_sav, .int x_err, .int x_rea, .int x_det, .int x_com])), (a_gw, .inl (T 0, 90, .inl v_gw)), (a_gk, .inl (T 0, 18, .inl v_gk))] (fun q => [(a_g, .inr (1, [.ref a_gw, .ref a_gk])), (a_t, .inr (5, [.ref a_ti, .ref a_tn, .int t_len, .int t_cur, .int t_kin, .int t_tol, .int t_don])), (a_h, .inr (2, [.ref a_hp, .int h_old, .int h_siz])), (a_x, .inr (7, [.ref a_g, .ref a_b, .ref a_v, .ref a_h, .ref a_r, .ref a_f, .ref a_u, .ref a_t, .ref a_n, .int x_sav, .int x_err, .int x_rea, .int x_det, .int x_com])), (a_gw, .inl (T 0, 90, .inl v_gw)), (a_gk, .inl (T 0, 18, .inl v_gk)), (q 0, .inl (T 0, 110, .inl r))]) [.ref a_x] (fun q => q 0) := by
  unfold fL_seen at h
  refine lnMetR hnt (by decide +kernel) (Or.inr ⟨_, rfl⟩) rfl (fun p e s m args below meth c Q A _ C hE hA hZ hJ hP hD hS hret ls hl => ?_)
  have hx := C.1
  have hb := C.2.1
  have hl : lv_has ls 4 [(0, .ref a_x)] := hl
  refine lv_bipush (v := 110) hx hb dL_seen_0 (by decide) ?_
  refine newA (N := 110) (atype := .int) 0 (110, .inl (fun _ => 0)) C hE hP hD hS hA qAI rfl rfl (fun _ => rfl) (by decide) (by decide) (Nat.le_of_ble_eq_true rfl) (Nat.le_of_ble_eq_true rfl) (Nat.le_of_ble_eq_true rfl) dL_seen_2 (fun a_pn H hP hD hS => ?_)
  have hP : va_P D kC [(a_g, .inr (1, [.ref a_gw, .ref a_gk])), (a_t, .inr (5, [.ref a_ti, .ref a_tn, .int t_len, .int t_cur, .int t_kin, .int t_tol, .int t_don])), (a_h, .inr (2, [.ref a_hp, .int h_old, .int h_siz])), (a_x, .inr (7, [.ref a_g, .ref a_b, .ref a_v, .ref a_h, .ref a_r, .ref a_f, .ref a_u, .ref a_t, .ref a_n, .int x_sav, .int x_err, .int x_rea, .int x_det, .int x_com])), (a_gw, .inl (T 0, 90, .inl v_gw)), (a_gk, .inl (T 0, 18, .inl v_gk)), (a_pn, .inl (T 0, 110, .inl (fun _ => 0)))] H := hP
  have hD : va_D A [(a_g, .inr (1, [.ref a_gw, .ref a_gk])), (a_t, .inr (5, [.ref a_ti, .ref a_tn, .int t_len, .int t_cur, .int t_kin, .int t_tol, .int t_don])), (a_h, .inr (2, [.ref a_hp, .int h_old, .int h_siz])), (a_x, .inr (7, [.ref a_g, .ref a_b, .ref a_v, .ref a_h, .ref a_r, .ref a_f, .ref a_u, .ref a_t, .ref a_n, .int x_sav, .int x_err, .int x_rea, .int x_det, .int x_com])), (a_gw, .inl (T 0, 90, .inl v_gw)), (a_gk, .inl (T 0, 18, .inl v_gk)), (a_pn, .inl (T 0, 110, .inl (fun _ => 0)))] := hD
  refine W.widen (k := 1) (n := 110) (Nat.le_of_ble_eq_true rfl) (Nat.le_of_ble_eq_true rfl) ?_
  refine lv_astore_n (lv' := [(1, .ref a_pn), (0, .ref a_x)]) hx hb dL_seen_4 rfl hl (by decide) rfl (fun ls hl => ?_)
  refine lv_iconst (v := 0) hx hb dL_seen_5 (by decide) ?_
  refine lv_istore_n (lv' := [(2, .int 0), (1, .ref a_pn), (0, .ref a_x)]) hx hb dL_seen_6 rfl hl (by decide) rfl (fun ls hl => ?_)
  exact lL_seen_7 C hE hA hZ hret 64 0 (fun _ => 0) ⟨hP, hD⟩ hS _ (lv_sub hl [2, 1, 0] rfl) h

def fL_areAlike_2 (n_c0 : Nat) (v_c0 : Nat → Int32) (n_c1 : Nat) (v_c1 : Nat → Int32) : Nat → Int32 → Option Int32
  | 0, _ => none
  | k + 1, l2 =>
    if (Int32.ofNat n_c0) ≤ l2 then
      some 1
    else
      if vin l2 n_c0 = true then
      if vin l2 n_c1 = true then
      if (v_c0 l2.toNatClampNeg) = (v_c1 l2.toNatClampNeg) then
        fL_areAlike_2 n_c0 v_c0 n_c1 v_c1 k (l2 + 1)
      else
        some 0
      else none
      else none
def fL_areAlike (n_c0 : Nat) (v_c0 : Nat → Int32) (n_c1 : Nat) (v_c1 : Nat → Int32) : Option Int32 :=
  fL_areAlike_2 n_c0 v_c0 n_c1 v_c1 64 0
set_option maxHeartbeats 4000000 in
set_option maxRecDepth 100000 in
theorem lL_areAlike_2 {p : Program} {l : Launch} {e : Env} {s : State} {m : MethodId} {args : Array Value} {below : List Frame} {meth : Method} {c : Code} {Q : State → Prop} {D : va_G} {T : Nat → ClassId} {a_c0 a_c1 : Nat} {n_c0 : Nat} {v_c0 : Nat → Int32} {n_c1 : Nat} {v_c1 : Nat → Int32} {r : Int32} (C : CallFix p m c cL_areAlike 3 s args aw RL) (hE : eK D T s) (hP : va_P D kC [(a_c0, .inl (T 0, n_c0, .inl v_c0)), (a_c1, .inl (T 0, n_c1, .inl v_c1))] s.heap) (hret : RdRet p l e ({ frames := 0, cells := 0, slots := 0, locals := 0 } : Room) s m args below meth c Q cL_areAlike .boolean r) : ∀ (k : Nat) (l2 : Int32) (ls : Array Slot) (hl : lv_has ls 3 [(0, .ref a_c0), (1, .ref a_c1), (2, .int l2)]) (h : fL_areAlike_2 n_c0 v_c0 n_c1 v_c1 k l2 = some r), W p l e ({ frames := 0, cells := 0, slots := 0, locals := 0 } : Room) s m args below meth c s.heap [] 0 0 Q (F0 m 2 ls []) := by
  have hx := C.1
  have hb := C.2.1
  intro k
  induction k with
  | zero =>
    intro l2  ls hl h
    exact nomatch (show (none : Option Int32) = some r from h)
  | succ k ih =>
    intro l2  ls hl h
    rw [fL_areAlike_2] at h
    refine lv_iload_n hx hb dL_areAlike_2 rfl (lv_at hl 2 rfl) ?_
    refine lv_aload_n hx hb dL_areAlike_3 rfl (lv_at hl 0 rfl) ?_
    refine alen (q0 := 0) (t0 := 0) (v := Int32.ofNat n_c0) C hE hP rfl rfl rfl dL_areAlike_4 ?_
    refine lv_icmp_ge (tgt := 25) hx hb dL_areAlike_5 (by decide) (fun c1 => ?_) (fun c1 => ?_)
    · replace h := ite_t c1 h
      refine lv_iconst (v := 1) hx hb dL_areAlike_25 (by decide) ?_
      exact hret _ _ _ _ dL_areAlike_26 rfl (Option.some.inj h)
    · replace h := ite_f c1 h
      refine lv_aload_n hx hb dL_areAlike_8 rfl (lv_at hl 0 rfl) ?_
      refine lv_iload_n hx hb dL_areAlike_9 rfl (lv_at hl 2 rfl) ?_
      replace h := gd h; obtain ⟨g2, h⟩ := h
      refine aldI (q0 := 0) C hE hP rfl g2 dL_areAlike_10 ?_
      refine lv_aload_n hx hb dL_areAlike_11 rfl (lv_at hl 1 rfl) ?_
      refine lv_iload_n hx hb dL_areAlike_12 rfl (lv_at hl 2 rfl) ?_
      replace h := gd h; obtain ⟨g3, h⟩ := h
      refine aldI (q0 := 1) C hE hP rfl g3 dL_areAlike_13 ?_
      refine lv_icmp_eq (tgt := 19) hx hb dL_areAlike_14 (by decide) (fun c4 => ?_) (fun c4 => ?_)
      · replace h := ite_t c4 h
        refine lv_iinc (v := (l2 + 1)) (lv' := [(2, .int (l2 + 1)), (0, .ref a_c0), (1, .ref a_c1)]) hx hb dL_areAlike_19 hl (k := 2) rfl rfl (by decide) rfl (fun ls hl => ?_)
        refine lv_goto (tgt := 2) hx hb dL_areAlike_22 (by decide) ?_
        exact ih (l2 + 1) _ (lv_sub hl [1, 2, 0] rfl) h
      · replace h := ite_f c4 h
        refine lv_iconst (v := 0) hx hb dL_areAlike_17 (by decide) ?_
        exact hret _ _ _ _ dL_areAlike_18 rfl (Option.some.inj h)
set_option maxHeartbeats 4000000 in
set_option maxRecDepth 100000 in
theorem kL_areAlike (l : Launch) (D : va_G) (T : Nat → ClassId) (a_c0 a_c1 : Nat) (n_c0 : Nat) (v_c0 : Nat → Int32) (n_c1 : Nat) (v_c1 : Nat → Int32) (r : Int32) (h : fL_areAlike n_c0 v_c0 n_c1 v_c1 = some r) : RdI l yL_areAlike cL_areAlike 3 .boolean ({ frames := 0, cells := 0, slots := 0, locals := 0 } : Room) D T [(a_c0, .inl (T 0, n_c0, .inl v_c0)), (a_c1, .inl (T 0, n_c1, .inl v_c1))] [.ref a_c0, .ref a_c1] r := by
  unfold fL_areAlike at h
  refine rdMet (by decide +kernel) rfl (fun p e s m args below meth c Q C hE hP hret ls hl => ?_)
  have hx := C.1
  have hb := C.2.1
  have hl : lv_has ls 3 [(0, .ref a_c0), (1, .ref a_c1)] := hl
  refine lv_iconst (v := 0) hx hb dL_areAlike_0 (by decide) ?_
  refine lv_istore_n (lv' := [(2, .int 0), (0, .ref a_c0), (1, .ref a_c1)]) hx hb dL_areAlike_1 rfl hl (by decide) rfl (fun ls hl => ?_)
  exact lL_areAlike_2 C hE hP hret 64 0 _ (lv_sub hl [1, 2, 0] rfl) h
