def fX7_append_n_12 (t_len : Int32) (v_ti : Nat → Int32) : Option (Int32 × Int32 × (Nat → Int32)) :=
  none
def fX7_append_n (t_len : Int32) (v_ti : Nat → Int32) (p0 : Int32) : Option (Int32 × Int32 × (Nat → Int32)) :=
  if p0 < 32 then
    fX7_append_n_12 t_len v_ti
  else
    if p0 ≤ 126 then
      if (fX5_length t_len) < 60 then
        (fX5_add t_len v_ti p0).bind fun q4 =>
        some (q4.1, q4.2.1, q4.2.2)
      else
        none
    else
      fX7_append_n_12 t_len v_ti
set_option maxHeartbeats 4000000 in
set_option maxRecDepth 100000 in
theorem lX7_append_n_12 {p : Program} {l : Launch} {e : Env} {s : State} {m : MethodId} {args : Array Value} {below : List Frame} {meth : Method} {c : Code} {Q : State → Prop} {D : va_G} {T : Nat → ClassId} {a_t a_ti a_tn a_x a_g a_b a_v a_h a_r a_f a_u a_n : Nat} {t_cur : Int32} {t_kin : Int32} {t_tol : Int32} {t_don : Int32} {x_sav : Int32} {x_err : Int32} {x_rea : Int32} {x_det : Int32} {x_com : Int32} {A : Nat → Prop} {r : Int32 × Int32 × (Nat → Int32)} (C : CallFix p m c cX7_append 2 s args aw RX7) (hE : eK D T s) (hA : ∀ q : Nat, s.heap.size ≤ q → A q) (hret : WrRet p l e ({ frames := 1, cells := 0, slots := 0, locals := 21 } : Room) s m args below meth c Q cX7_append .int D A [(a_t, .inr (5, [.ref a_ti, .ref a_tn, .int r.2.1, .int t_cur, .int t_kin, .int t_tol, .int t_don])), (a_x, .inr (7, [.ref a_g, .ref a_b, .ref a_v, .ref a_h, .ref a_r, .ref a_f, .ref a_u, .ref a_t, .ref a_n, .int x_sav, .int x_err, .int x_rea, .int x_det, .int x_com])), (a_ti, .inl (T 2, 60, .inl r.2.2))] r.1) (t_len : Int32) (v_ti : Nat → Int32) {H : Heap} {locs : List Loc} (hPD : va_PD D A [(a_t, .inr (5, [.ref a_ti, .ref a_tn, .int t_len, .int t_cur, .int t_kin, .int t_tol, .int t_don])), (a_x, .inr (7, [.ref a_g, .ref a_b, .ref a_v, .ref a_h, .ref a_r, .ref a_f, .ref a_u, .ref a_t, .ref a_n, .int x_sav, .int x_err, .int x_rea, .int x_det, .int x_com])), (a_ti, .inl (T 2, 60, .inl v_ti))] H) (hS : va_S A s.heap H locs) (ls : Array Slot) (hl : lv_has ls 2 []) (h : fX7_append_n_12 t_len v_ti = some r) : W p l e ({ frames := 1, cells := 0, slots := 0, locals := 21 } : Room) s m args below meth c H locs 0 0 Q (F0 m 12 ls []) := by
  have hx := C.1
  have hb := C.2.1
  obtain ⟨hP, hD⟩ := hPD
  unfold fX7_append_n_12 at h
  exact nomatch h
set_option maxHeartbeats 4000000 in
set_option maxRecDepth 100000 in
theorem kX7_append_n (l : Launch) (D : va_G) (T : Nat → ClassId) (a_t a_ti a_tn a_x a_g a_b a_v a_h a_r a_f a_u a_n : Nat) (t_len : Int32) (t_cur : Int32) (t_kin : Int32) (t_tol : Int32) (t_don : Int32) (x_sav : Int32) (x_err : Int32) (x_rea : Int32) (x_det : Int32) (x_com : Int32) (v_ti : Nat → Int32) (p0 : Int32) (sz : Nat) (r : Int32 × Int32 × (Nat → Int32)) (h : fX7_append_n t_len v_ti p0 = some r) : WrI l yX7_append cX7_append 2 .int ({ frames := 1, cells := 0, slots := 0, locals := 21 } : Room) D T sz [(a_t, .inr (5, [.ref a_ti, .ref a_tn, .int t_len, .int t_cur, .int t_kin, .int t_tol, .int t_don])), (a_x, .inr (7, [.ref a_g, .ref a_b, .ref a_v, .ref a_h, .ref a_r, .ref a_f, .ref a_u, .ref a_t, .ref a_n, .int x_sav, .int x_err, .int x_rea, .int x_det, .int x_com])), (a_ti, .inl (T 2, 60, .inl v_ti))] [(a_t, .inr (5, [.ref a_ti, .ref a_tn, .int r.2.1, .int t_cur, .int t_kin, .int t_tol, .int t_don])), (a_x, .inr (7, [.ref a_g, .ref a_b, .ref a_v, .ref a_h, .ref a_r, .ref a_f, .ref a_u, .ref a_t, .ref a_n, .int x_sav, .int x_err, .int x_rea, .int x_det, .int x_com])), (a_ti, .inl (T 2, 60, .inl r.2.2))] [.ref a_x, .int p0] r.1 := by
  unfold fX7_append_n at h
  refine wrMet (by decide +kernel) rfl (fun p e s m args below meth c Q A C hE hA hP hD hS hret ls hl => ?_)
  have hx := C.1
  have hb := C.2.1
  have hl : lv_has ls 2 [(0, .ref a_x), (1, .int p0)] := hl
  refine lv_iload_n hx hb dX7_append_0 rfl (lv_at hl 1 rfl) ?_
  refine lv_bipush (v := 32) hx hb dX7_append_1 (by decide) ?_
  refine lv_icmp_lt (tgt := 12) hx hb dX7_append_3 (by decide) (fun c1 => ?_) (fun c1 => ?_)
  · replace h := ite_t c1 h
    exact lX7_append_n_12 C hE hA hret t_len v_ti ⟨hP, hD⟩ hS _ (lv_sub hl [] rfl) h
  · replace h := ite_f c1 h
    refine lv_iload_n hx hb dX7_append_6 rfl (lv_at hl 1 rfl) ?_
    refine lv_bipush (v := 126) hx hb dX7_append_7 (by decide) ?_
    refine lv_icmp_le (tgt := 23) hx hb dX7_append_9 (by decide) (fun c2 => ?_) (fun c2 => ?_)
    · replace h := ite_t c2 h
      refine lv_aload_n hx hb dX7_append_23 rfl (lv_at hl 0 rfl) ?_
      refine getF (q0 := 1) (k0 := 7) (v := .ref a_t) C hE hP inA7 rfl rfl (by decide) qFX7_57 rfl rfl dX7_append_24 ?_
      refine rdV C hE hP (kX5_length l D T a_t a_ti a_tn t_len t_cur t_kin t_tol t_don) mX5_length qLX7_308 [0] 0 rfl rfl rfl rfl ⟨rfl, rfl⟩ ⟨Nat.le_of_ble_eq_true rfl, Nat.le_of_ble_eq_true rfl⟩ rfl hl.1 rfl (Nat.le_of_ble_eq_true rfl) dX7_append_27 ⟨Nat.le_of_ble_eq_true rfl, Nat.le_of_ble_eq_true rfl⟩ ?_
      refine lv_bipush (v := 60) hx hb dX7_append_30 (by decide) ?_
      refine lv_icmp_lt (tgt := 46) hx hb dX7_append_32 (by decide) (fun c3 => ?_) (fun c3 => ?_)
      · replace h := ite_t c3 h
        refine lv_aload_n hx hb dX7_append_46 rfl (lv_at hl 0 rfl) ?_
        refine getF (q0 := 1) (k0 := 7) (v := .ref a_t) C hE hP inA7 rfl rfl (by decide) qFX7_57 rfl rfl dX7_append_47 ?_
        refine lv_iload_n hx hb dX7_append_50 rfl (lv_at hl 1 rfl) ?_
        replace h := bnd h; obtain ⟨q4, e5, h⟩ := h
        refine wrVi (ws1 := [(a_t, .inr (5, [.ref a_ti, .ref a_tn, .int q4.2.1, .int t_cur, .int t_kin, .int t_tol, .int t_don])), (a_x, .inr (7, [.ref a_g, .ref a_b, .ref a_v, .ref a_h, .ref a_r, .ref a_f, .ref a_u, .ref a_t, .ref a_n, .int x_sav, .int x_err, .int x_rea, .int x_det, .int x_com])), (a_ti, .inl (T 2, 60, .inl q4.2.2))]) C hE hP hD hS hA (kX5_add l D T a_t a_ti a_tn t_len t_cur t_kin t_tol t_don v_ti p0 _ q4 e5) mX5_add qLX7_319 [0, 2] [1] 0 rfl rfl rfl rfl rfl rfl rfl rfl rfl ⟨rfl, rfl⟩ ⟨Nat.le_of_ble_eq_true rfl, Nat.le_of_ble_eq_true rfl⟩ rfl hl.1 rfl (Nat.le_of_ble_eq_true rfl) dX7_append_51 ⟨Nat.le_of_ble_eq_true rfl, Nat.le_of_ble_eq_true rfl⟩ ?_; clear hP hD hS; intro H locs hP hD hS
        replace h := Option.some.inj h
        exact hret _ _ _ _ _ _ dX7_append_54 rfl (by rw [← h] <;> rfl) (by rw [← h]; exact hP) hS
      · replace h := ite_f c3 h
        exact nomatch h
    · replace h := ite_f c2 h
      exact lX7_append_n_12 C hE hA hret t_len v_ti ⟨hP, hD⟩ hS _ (lv_sub hl [] rfl) h

def fX7_row_n_9 (v_gw : Nat → Int32) (v_gk : Nat → Int32) (n_len : Int32) (v_ns : Nat → Int32) : Option (Int32 × Int32 × (Nat → Int32)) :=
  none
def fX7_row_n_29 (v_gw : Nat → Int32) (v_gk : Nat → Int32) : Nat → Int32 → Int32 → Int32 → (Nat → Int32) → Option (Int32 × Int32 × (Nat → Int32))
  | 0, _, _, _, _ => none
  | k + 1, l1, l2, n_len, v_ns =>
    if 9 ≤ l2 then
      some ((fX3_length n_len), n_len, v_ns)
    else
      (fX7_writeCell n_len v_gw v_gk v_ns ((l1 * 9) + l2)).bind fun q6 =>
      fX7_row_n_29 v_gw v_gk k l1 (l2 + 1) q6.1 q6.2
def fX7_row_n (n_len : Int32) (v_gw : Nat → Int32) (v_gk : Nat → Int32) (v_ns : Nat → Int32) (p0 : Int32) : Option (Int32 × Int32 × (Nat → Int32)) :=
  if p0 < 0 then
    fX7_row_n_9 v_gw v_gk n_len v_ns
  else
    if p0 < 5 then
      (fX3_clear n_len).bind fun q3 =>
      fX7_row_n_29 v_gw v_gk 64 p0 0 q3 v_ns
    else
      fX7_row_n_9 v_gw v_gk n_len v_ns
set_option maxHeartbeats 4000000 in
set_option maxRecDepth 100000 in
theorem lX7_row_n_9 {p : Program} {l : Launch} {e : Env} {s : State} {m : MethodId} {args : Array Value} {below : List Frame} {meth : Method} {c : Code} {Q : State → Prop} {D : va_G} {T : Nat → ClassId} {a_g a_gw a_gk a_n a_ns a_x a_b a_v a_h a_r a_f a_u a_t : Nat} {x_sav : Int32} {x_err : Int32} {x_rea : Int32} {x_det : Int32} {x_com : Int32} {v_gw : Nat → Int32} {v_gk : Nat → Int32} {A : Nat → Prop} {r : Int32 × Int32 × (Nat → Int32)} (C : CallFix p m c cX7_row 3 s args aw RX7) (hE : eK D T s) (hA : ∀ q : Nat, s.heap.size ≤ q → A q) (hret : WrRet p l e ({ frames := 3, cells := 0, slots := 0, locals := 67 } : Room) s m args below meth c Q cX7_row .int D A [(a_g, .inr (1, [.ref a_gw, .ref a_gk])), (a_n, .inr (3, [.ref a_ns, .int r.2.1])), (a_x, .inr (7, [.ref a_g, .ref a_b, .ref a_v, .ref a_h, .ref a_r, .ref a_f, .ref a_u, .ref a_t, .ref a_n, .int x_sav, .int x_err, .int x_rea, .int x_det, .int x_com])), (a_gw, .inl (T 0, 90, .inl v_gw)), (a_gk, .inl (T 0, 18, .inl v_gk)), (a_ns, .inl (T 2, 32, .inl r.2.2))] r.1) (n_len : Int32) (v_ns : Nat → Int32) {H : Heap} {locs : List Loc} (hPD : va_PD D A [(a_g, .inr (1, [.ref a_gw, .ref a_gk])), (a_n, .inr (3, [.ref a_ns, .int n_len])), (a_x, .inr (7, [.ref a_g, .ref a_b, .ref a_v, .ref a_h, .ref a_r, .ref a_f, .ref a_u, .ref a_t, .ref a_n, .int x_sav, .int x_err, .int x_rea, .int x_det, .int x_com])), (a_gw, .inl (T 0, 90, .inl v_gw)), (a_gk, .inl (T 0, 18, .inl v_gk)), (a_ns, .inl (T 2, 32, .inl v_ns))] H) (hS : va_S A s.heap H locs) (ls : Array Slot) (hl : lv_has ls 3 []) (h : fX7_row_n_9 v_gw v_gk n_len v_ns = some r) : W p l e ({ frames := 3, cells := 0, slots := 0, locals := 67 } : Room) s m args below meth c H locs 0 0 Q (F0 m 9 ls []) := by
  have hx := C.1
  have hb := C.2.1
  obtain ⟨hP, hD⟩ := hPD
  unfold fX7_row_n_9 at h
  exact nomatch h
set_option maxHeartbeats 4000000 in
set_option maxRecDepth 100000 in
theorem lX7_row_n_29 {p : Program} {l : Launch} {e : Env} {s : State} {m : MethodId} {args : Array Value} {below : List Frame} {meth : Method} {c : Code} {Q : State → Prop} {D : va_G} {T : Nat → ClassId} {a_g a_gw a_gk a_n a_ns a_x a_b a_v a_h a_r a_f a_u a_t : Nat} {x_sav : Int32} {x_err : Int32} {x_rea : Int32} {x_det : Int32} {x_com : Int32} {v_gw : Nat → Int32} {v_gk : Nat → Int32} {A : Nat → Prop} {r : Int32 × Int32 × (Nat → Int32)} (C : CallFix p m c cX7_row 3 s args aw RX7) (hE : eK D T s) (hA : ∀ q : Nat, s.heap.size ≤ q → A q) (hret : WrRet p l e ({ frames := 3, cells := 0, slots := 0, locals := 67 } : Room) s m args below meth c Q cX7_row .int D A [(a_g, .inr (1, [.ref a_gw, .ref a_gk])), (a_n, .inr (3, [.ref a_ns, .int r.2.1])), (a_x, .inr (7, [.ref a_g, .ref a_b, .ref a_v, .ref a_h, .ref a_r, .ref a_f, .ref a_u, .ref a_t, .ref a_n, .int x_sav, .int x_err, .int x_rea, .int x_det, .int x_com])), (a_gw, .inl (T 0, 90, .inl v_gw)), (a_gk, .inl (T 0, 18, .inl v_gk)), (a_ns, .inl (T 2, 32, .inl r.2.2))] r.1) : ∀ (k : Nat) (l1 : Int32) (l2 : Int32) (n_len : Int32) (v_ns : Nat → Int32) {H : Heap} {locs : List Loc} (hPD : va_PD D A [(a_g, .inr (1, [.ref a_gw, .ref a_gk])), (a_n, .inr (3, [.ref a_ns, .int n_len])), (a_x, .inr (7, [.ref a_g, .ref a_b, .ref a_v, .ref a_h, .ref a_r, .ref a_f, .ref a_u, .ref a_t, .ref a_n, .int x_sav, .int x_err, .int x_rea, .int x_det, .int x_com])), (a_gw, .inl (T 0, 90, .inl v_gw)), (a_gk, .inl (T 0, 18, .inl v_gk)), (a_ns, .inl (T 2, 32, .inl v_ns))] H) (hS : va_S A s.heap H locs) (ls : Array Slot) (hl : lv_has ls 3 [(0, .ref a_x), (1, .int l1), (2, .int l2)]) (h : fX7_row_n_29 v_gw v_gk k l1 l2 n_len v_ns = some r), W p l e ({ frames := 3, cells := 0, slots := 0, locals := 67 } : Room) s m args below meth c H locs 0 0 Q (F0 m 29 ls []) := by
  have hx := C.1
  have hb := C.2.1
  intro k
  induction k with
  | zero =>
    intro l1 l2 n_len v_ns H locs hPD hS ls hl h
    exact nomatch (show (none : Option (Int32 × Int32 × (Nat → Int32))) = some r from h)
  | succ k ih =>
    intro l1 l2 n_len v_ns H locs hPD hS ls hl h
    obtain ⟨hP, hD⟩ := hPD
    rw [fX7_row_n_29] at h
    refine lv_iload_n hx hb dX7_row_29 rfl (lv_at hl 2 rfl) ?_
    refine lv_bipush (v := 9) hx hb dX7_row_30 (by decide) ?_
    refine lv_icmp_ge (tgt := 51) hx hb dX7_row_32 (by decide) (fun c5 => ?_) (fun c5 => ?_)
    · replace h := ite_t c5 h
      refine lv_aload_n hx hb dX7_row_51 rfl (lv_at hl 0 rfl) ?_
      refine getF (q0 := 2) (k0 := 8) (v := .ref a_n) C hE hP inA7 rfl rfl (by decide) qFX7_64 rfl rfl dX7_row_52 ?_
      refine rdV C hE hP (kX3_length l D T a_n a_ns n_len) mX3_length qLX7_276 [1] 1 rfl rfl rfl rfl ⟨rfl, rfl⟩ ⟨Nat.le_of_ble_eq_true rfl, Nat.le_of_ble_eq_true rfl⟩ rfl hl.1 rfl (Nat.le_of_ble_eq_true rfl) dX7_row_55 ⟨Nat.le_of_ble_eq_true rfl, Nat.le_of_ble_eq_true rfl⟩ ?_
      replace h := Option.some.inj h
      exact hret _ _ _ _ _ _ dX7_row_58 rfl (by rw [← h] <;> rfl) (by rw [← h]; exact hP) hS
    · replace h := ite_f c5 h
      refine lv_aload_n hx hb dX7_row_35 rfl (lv_at hl 0 rfl) ?_
      refine lv_iload_n hx hb dX7_row_36 rfl (lv_at hl 1 rfl) ?_
      refine lv_bipush (v := 9) hx hb dX7_row_37 (by decide) ?_
      refine lv_imul hx hb dX7_row_39 ?_
      refine lv_iload_n hx hb dX7_row_40 rfl (lv_at hl 2 rfl) ?_
      refine lv_iadd hx hb dX7_row_41 ?_
      replace h := bnd h; obtain ⟨q6, e7, h⟩ := h
      refine wrVv (ws1 := [(a_g, .inr (1, [.ref a_gw, .ref a_gk])), (a_n, .inr (3, [.ref a_ns, .int q6.1])), (a_x, .inr (7, [.ref a_g, .ref a_b, .ref a_v, .ref a_h, .ref a_r, .ref a_f, .ref a_u, .ref a_t, .ref a_n, .int x_sav, .int x_err, .int x_rea, .int x_det, .int x_com])), (a_gw, .inl (T 0, 90, .inl v_gw)), (a_gk, .inl (T 0, 18, .inl v_gk)), (a_ns, .inl (T 2, 32, .inl q6.2))]) C hE hP hD hS hA (kX7_writeCell l D T a_g a_gw a_gk a_n a_ns a_x a_b a_v a_h a_r a_f a_u a_t n_len x_sav x_err x_rea x_det x_com v_gw v_gk v_ns ((l1 * 9) + l2) _ q6 e7) mX7_writeCell qLX7_273 [0, 1, 2, 3, 4, 5] [] 2 rfl rfl rfl rfl rfl rfl rfl rfl rfl ⟨rfl, rfl⟩ ⟨Nat.le_of_ble_eq_true rfl, Nat.le_of_ble_eq_true rfl⟩ rfl hl.1 rfl (Nat.le_of_ble_eq_true rfl) dX7_row_42 ⟨Nat.le_of_ble_eq_true rfl, Nat.le_of_ble_eq_true rfl⟩ ?_; clear hP hD hS; intro H locs hP hD hS
      refine lv_iinc (v := (l2 + 1)) (lv' := [(2, .int (l2 + 1)), (0, .ref a_x), (1, .int l1)]) hx hb dX7_row_45 hl (k := 2) rfl rfl (by decide) rfl (fun ls hl => ?_)
      refine lv_goto (tgt := 29) hx hb dX7_row_48 (by decide) ?_
      exact ih l1 (l2 + 1) q6.1 q6.2 ⟨hP, hD⟩ hS _ (lv_sub hl [1, 2, 0] rfl) h
set_option maxHeartbeats 4000000 in
set_option maxRecDepth 100000 in
theorem kX7_row_n (l : Launch) (D : va_G) (T : Nat → ClassId) (a_g a_gw a_gk a_n a_ns a_x a_b a_v a_h a_r a_f a_u a_t : Nat) (n_len : Int32) (x_sav : Int32) (x_err : Int32) (x_rea : Int32) (x_det : Int32) (x_com : Int32) (v_gw : Nat → Int32) (v_gk : Nat → Int32) (v_ns : Nat → Int32) (p0 : Int32) (sz : Nat) (r : Int32 × Int32 × (Nat → Int32)) (h : fX7_row_n n_len v_gw v_gk v_ns p0 = some r) : WrI l yX7_row cX7_row 3 .int ({ frames := 3, cells := 0, slots := 0, locals := 67 } : Room) D T sz [(a_g, .inr (1, [.ref a_gw, .ref a_gk])), (a_n, .inr (3, [.ref a_ns, .int n_len])), (a_x, .inr (7, [.ref a_g, .ref a_b, .ref a_v, .ref a_h, .ref a_r, .ref a_f, .ref a_u, .ref a_t, .ref a_n, .int x_sav, .int x_err, .int x_rea, .int x_det, .int x_com])), (a_gw, .inl (T 0, 90, .inl v_gw)), (a_gk, .inl (T 0, 18, .inl v_gk)), (a_ns, .inl (T 2, 32, .inl v_ns))] [(a_g, .inr (1, [.ref a_gw, .ref a_gk])), (a_n, .inr (3, [.ref a_ns, .int r.2.1])), (a_x, .inr (7, [.ref a_g, .ref a_b, .ref a_v, .ref a_h, .ref a_r, .ref a_f, .ref a_u, .ref a_t, .ref a_n, .int x_sav, .int x_err, .int x_rea, .int x_det, .int x_com])), (a_gw, .inl (T 0, 90, .inl v_gw)), (a_gk, .inl (T 0, 18, .inl v_gk)), (a_ns, .inl (T 2, 32, .inl r.2.2))] [.ref a_x, .int p0] r.1 := by
  unfold fX7_row_n at h
  refine wrMet (by decide +kernel) rfl (fun p e s m args below meth c Q A C hE hA hP hD hS hret ls hl => ?_)
  have hx := C.1
  have hb := C.2.1
  have hl : lv_has ls 3 [(0, .ref a_x), (1, .int p0)] := hl
  refine lv_iload_n hx hb dX7_row_0 rfl (lv_at hl 1 rfl) ?_
  refine lv_if_lt (tgt := 9) hx hb dX7_row_1 (by decide) (fun c1 => ?_) (fun c1 => ?_)
  · replace h := ite_t c1 h
    exact lX7_row_n_9 C hE hA hret n_len v_ns ⟨hP, hD⟩ hS _ (lv_sub hl [] rfl) h
  · replace h := ite_f c1 h
    refine lv_iload_n hx hb dX7_row_4 rfl (lv_at hl 1 rfl) ?_
    refine lv_iconst (v := 5) hx hb dX7_row_5 (by decide) ?_
    refine lv_icmp_lt (tgt := 20) hx hb dX7_row_6 (by decide) (fun c2 => ?_) (fun c2 => ?_)
    · replace h := ite_t c2 h
      refine lv_aload_n hx hb dX7_row_20 rfl (lv_at hl 0 rfl) ?_
      refine getF (q0 := 2) (k0 := 8) (v := .ref a_n) C hE hP inA7 rfl rfl (by decide) qFX7_64 rfl rfl dX7_row_21 ?_
      replace h := bnd h; obtain ⟨q3, e4, h⟩ := h
      refine wrVv (ws1 := [(a_g, .inr (1, [.ref a_gw, .ref a_gk])), (a_n, .inr (3, [.ref a_ns, .int q3])), (a_x, .inr (7, [.ref a_g, .ref a_b, .ref a_v, .ref a_h, .ref a_r, .ref a_f, .ref a_u, .ref a_t, .ref a_n, .int x_sav, .int x_err, .int x_rea, .int x_det, .int x_com])), (a_gw, .inl (T 0, 90, .inl v_gw)), (a_gk, .inl (T 0, 18, .inl v_gk)), (a_ns, .inl (T 2, 32, .inl v_ns))]) C hE hP hD hS hA (kX3_clear l D T a_n a_ns n_len _ q3 e4) mX3_clear qLX7_270 [1] [0, 2, 3, 4, 5] 1 rfl rfl rfl rfl rfl rfl rfl rfl rfl ⟨rfl, rfl⟩ ⟨Nat.le_of_ble_eq_true rfl, Nat.le_of_ble_eq_true rfl⟩ rfl hl.1 rfl (Nat.le_of_ble_eq_true rfl) dX7_row_24 ⟨Nat.le_of_ble_eq_true rfl, Nat.le_of_ble_eq_true rfl⟩ ?_; clear hP hD hS; intro H locs hP hD hS
      refine lv_iconst (v := 0) hx hb dX7_row_27 (by decide) ?_
      refine lv_istore_n (lv' := [(2, .int 0), (0, .ref a_x), (1, .int p0)]) hx hb dX7_row_28 rfl hl (by decide) rfl (fun ls hl => ?_)
      exact lX7_row_n_29 C hE hA hret 64 p0 0 q3 v_ns ⟨hP, hD⟩ hS _ (lv_sub hl [1, 2, 0] rfl) h
    · replace h := ite_f c2 h
      exact lX7_row_n_9 C hE hA hret n_len v_ns ⟨hP, hD⟩ hS _ (lv_sub hl [] rfl) h

def fX7_demandWhale_n (v_gk : Nat → Int32) (p0 : Int32) : Option Unit :=
  (fX1_has v_gk p0).bind fun q1 =>
  if q1 = 0 then
    none
  else
    some ()
set_option maxHeartbeats 4000000 in
set_option maxRecDepth 100000 in
theorem kX7_demandWhale_n (l : Launch) (D : va_G) (T : Nat → ClassId) (a_g a_gw a_gk a_x a_b a_v a_h a_r a_f a_u a_t a_n : Nat) (x_sav : Int32) (x_err : Int32) (x_rea : Int32) (x_det : Int32) (x_com : Int32) (v_gk : Nat → Int32) (p0 : Int32) (sz : Nat) (r : Unit) (h : fX7_demandWhale_n v_gk p0 = some r) : WrV l yX7_demandWhale cX7_demandWhale 2 ({ frames := 2, cells := 0, slots := 0, locals := 42 } : Room) D T sz [(a_g, .inr (1, [.ref a_gw, .ref a_gk])), (a_x, .inr (7, [.ref a_g, .ref a_b, .ref a_v, .ref a_h, .ref a_r, .ref a_f, .ref a_u, .ref a_t, .ref a_n, .int x_sav, .int x_err, .int x_rea, .int x_det, .int x_com])), (a_gk, .inl (T 0, 18, .inl v_gk))] [(a_g, .inr (1, [.ref a_gw, .ref a_gk])), (a_x, .inr (7, [.ref a_g, .ref a_b, .ref a_v, .ref a_h, .ref a_r, .ref a_f, .ref a_u, .ref a_t, .ref a_n, .int x_sav, .int x_err, .int x_rea, .int x_det, .int x_com])), (a_gk, .inl (T 0, 18, .inl v_gk))] [.ref a_x, .int p0] := by
  unfold fX7_demandWhale_n at h
  refine wrMetV (by decide +kernel) rfl (fun p e s m args below meth c Q A C hE hA hP hD hS hret ls hl => ?_)
  have hx := C.1
  have hb := C.2.1
  have hl : lv_has ls 2 [(0, .ref a_x), (1, .int p0)] := hl
  refine lv_aload_n hx hb dX7_demandWhale_0 rfl (lv_at hl 0 rfl) ?_
  refine getF (q0 := 1) (k0 := 0) (v := .ref a_g) C hE hP inA7 rfl rfl (by decide) qFX7_10 rfl rfl dX7_demandWhale_1 ?_
  refine lv_iload_n hx hb dX7_demandWhale_4 rfl (lv_at hl 1 rfl) ?_
  replace h := bnd h; obtain ⟨q1, e2, h⟩ := h
  refine rdV C hE hP (kX1_has l D T a_g a_gw a_gk v_gk p0 q1 e2) mX1_has qLX7_384 [0, 2] 0 rfl rfl rfl rfl ⟨rfl, rfl⟩ ⟨Nat.le_of_ble_eq_true rfl, Nat.le_of_ble_eq_true rfl⟩ rfl hl.1 rfl (Nat.le_of_ble_eq_true rfl) dX7_demandWhale_5 ⟨Nat.le_of_ble_eq_true rfl, Nat.le_of_ble_eq_true rfl⟩ ?_
  refine lv_if_ne (tgt := 22) hx hb dX7_demandWhale_8 (by decide) (fun c3 => ?_) (fun c3 => ?_)
  · replace h := ite_f c3 h
    replace h := Option.some.inj h
    exact hret _ _ _ _ dX7_demandWhale_22 hP hS
  · replace h := ite_t c3 h
    exact nomatch h

def fX7_tell_n_143 (v_gw : Nat → Int32) (v_gk : Nat → Int32) (n_len : Int32) (v_ns : Nat → Int32) : Option (Int32 × Int32 × (Nat → Int32)) :=
  some ((fX3_length n_len), n_len, v_ns)
def fX7_tell_n_121 (v_gw : Nat → Int32) (v_gk : Nat → Int32) (l1 : Int32) (n_len : Int32) (v_ns : Nat → Int32) : Option (Int32 × Int32 × (Nat → Int32)) :=
  (fX1_of v_gw l1 5).bind fun q30 =>
  if q30 = 1 then
    (fX3_add n_len v_ns 33).bind fun q33 =>
    fX7_tell_n_143 v_gw v_gk q33.1 q33.2
  else
    fX7_tell_n_143 v_gw v_gk n_len v_ns
def fX7_tell_n (n_len : Int32) (v_gw : Nat → Int32) (v_gk : Nat → Int32) (v_ns : Nat → Int32) (p0 : Int32) : Option (Int32 × Int32 × (Nat → Int32)) :=
  (fX7_demandWhale_n v_gk p0).bind fun q1 =>
  (fX3_clear n_len).bind fun q3 =>
  (fX3_addNumber q3 v_ns p0).bind fun q5 =>
  (fX1_of v_gw p0 0).bind fun q7 =>
  (fX3_addSigned q5.1 q5.2 58 q7).bind fun q9 =>
  (fX1_of v_gw p0 1).bind fun q11 =>
  (fX3_addSigned q9.1 q9.2 94 q11).bind fun q13 =>
  (fX1_of v_gw p0 2).bind fun q15 =>
  (fX3_addSigned q13.1 q13.2 47 q15).bind fun q17 =>
  (fX1_of v_gw p0 3).bind fun q19 =>
  (fX3_addSigned q17.1 q17.2 37 q19).bind fun q21 =>
  (fX1_isPlaying v_gw p0).bind fun q23 =>
  if q23 = 0 then
    fX7_tell_n_121 v_gw v_gk p0 q21.1 q21.2
  else
    (fX1_of v_gw p0 4).bind fun q26 =>
    (fX3_addSigned q21.1 q21.2 64 q26).bind fun q28 =>
    fX7_tell_n_121 v_gw v_gk p0 q28.1 q28.2
set_option maxHeartbeats 4000000 in
set_option maxRecDepth 100000 in
theorem lX7_tell_n_143 {p : Program} {l : Launch} {e : Env} {s : State} {m : MethodId} {args : Array Value} {below : List Frame} {meth : Method} {c : Code} {Q : State → Prop} {D : va_G} {T : Nat → ClassId} {a_g a_gw a_gk a_n a_ns a_x a_b a_v a_h a_r a_f a_u a_t : Nat} {x_sav : Int32} {x_err : Int32} {x_rea : Int32} {x_det : Int32} {x_com : Int32} {v_gw : Nat → Int32} {v_gk : Nat → Int32} {A : Nat → Prop} {r : Int32 × Int32 × (Nat → Int32)} (C : CallFix p m c cX7_tell 2 s args aw RX7) (hE : eK D T s) (hA : ∀ q : Nat, s.heap.size ≤ q → A q) (hret : WrRet p l e ({ frames := 3, cells := 0, slots := 0, locals := 64 } : Room) s m args below meth c Q cX7_tell .int D A [(a_g, .inr (1, [.ref a_gw, .ref a_gk])), (a_n, .inr (3, [.ref a_ns, .int r.2.1])), (a_x, .inr (7, [.ref a_g, .ref a_b, .ref a_v, .ref a_h, .ref a_r, .ref a_f, .ref a_u, .ref a_t, .ref a_n, .int x_sav, .int x_err, .int x_rea, .int x_det, .int x_com])), (a_gw, .inl (T 0, 90, .inl v_gw)), (a_gk, .inl (T 0, 18, .inl v_gk)), (a_ns, .inl (T 2, 32, .inl r.2.2))] r.1) (n_len : Int32) (v_ns : Nat → Int32) {H : Heap} {locs : List Loc} (hPD : va_PD D A [(a_g, .inr (1, [.ref a_gw, .ref a_gk])), (a_n, .inr (3, [.ref a_ns, .int n_len])), (a_x, .inr (7, [.ref a_g, .ref a_b, .ref a_v, .ref a_h, .ref a_r, .ref a_f, .ref a_u, .ref a_t, .ref a_n, .int x_sav, .int x_err, .int x_rea, .int x_det, .int x_com])), (a_gw, .inl (T 0, 90, .inl v_gw)), (a_gk, .inl (T 0, 18, .inl v_gk)), (a_ns, .inl (T 2, 32, .inl v_ns))] H) (hS : va_S A s.heap H locs) (ls : Array Slot) (hl : lv_has ls 2 [(0, .ref a_x)]) (h : fX7_tell_n_143 v_gw v_gk n_len v_ns = some r) : W p l e ({ frames := 3, cells := 0, slots := 0, locals := 64 } : Room) s m args below meth c H locs 0 0 Q (F0 m 143 ls []) := by
  have hx := C.1
  have hb := C.2.1
  obtain ⟨hP, hD⟩ := hPD
  unfold fX7_tell_n_143 at h
  refine lv_aload_n hx hb dX7_tell_143 rfl (lv_at hl 0 rfl) ?_
  refine getF (q0 := 2) (k0 := 8) (v := .ref a_n) C hE hP inA7 rfl rfl (by decide) qFX7_64 rfl rfl dX7_tell_144 ?_
  refine rdV C hE hP (kX3_length l D T a_n a_ns n_len) mX3_length qLX7_276 [1] 1 rfl rfl rfl rfl ⟨rfl, rfl⟩ ⟨Nat.le_of_ble_eq_true rfl, Nat.le_of_ble_eq_true rfl⟩ rfl hl.1 rfl (Nat.le_of_ble_eq_true rfl) dX7_tell_147 ⟨Nat.le_of_ble_eq_true rfl, Nat.le_of_ble_eq_true rfl⟩ ?_
  replace h := Option.some.inj h
  exact hret _ _ _ _ _ _ dX7_tell_150 rfl (by rw [← h] <;> rfl) (by rw [← h]; exact hP) hS
set_option maxHeartbeats 4000000 in
set_option maxRecDepth 100000 in
theorem lX7_tell_n_121 {p : Program} {l : Launch} {e : Env} {s : State} {m : MethodId} {args : Array Value} {below : List Frame} {meth : Method} {c : Code} {Q : State → Prop} {D : va_G} {T : Nat → ClassId} {a_g a_gw a_gk a_n a_ns a_x a_b a_v a_h a_r a_f a_u a_t : Nat} {x_sav : Int32} {x_err : Int32} {x_rea : Int32} {x_det : Int32} {x_com : Int32} {v_gw : Nat → Int32} {v_gk : Nat → Int32} {A : Nat → Prop} {r : Int32 × Int32 × (Nat → Int32)} (C : CallFix p m c cX7_tell 2 s args aw RX7) (hE : eK D T s) (hA : ∀ q : Nat, s.heap.size ≤ q → A q) (hret : WrRet p l e ({ frames := 3, cells := 0, slots := 0, locals := 64 } : Room) s m args below meth c Q cX7_tell .int D A [(a_g, .inr (1, [.ref a_gw, .ref a_gk])), (a_n, .inr (3, [.ref a_ns, .int r.2.1])), (a_x, .inr (7, [.ref a_g, .ref a_b, .ref a_v, .ref a_h, .ref a_r, .ref a_f, .ref a_u, .ref a_t, .ref a_n, .int x_sav, .int x_err, .int x_rea, .int x_det, .int x_com])), (a_gw, .inl (T 0, 90, .inl v_gw)), (a_gk, .inl (T 0, 18, .inl v_gk)), (a_ns, .inl (T 2, 32, .inl r.2.2))] r.1) (l1 : Int32) (n_len : Int32) (v_ns : Nat → Int32) {H : Heap} {locs : List Loc} (hPD : va_PD D A [(a_g, .inr (1, [.ref a_gw, .ref a_gk])), (a_n, .inr (3, [.ref a_ns, .int n_len])), (a_x, .inr (7, [.ref a_g, .ref a_b, .ref a_v, .ref a_h, .ref a_r, .ref a_f, .ref a_u, .ref a_t, .ref a_n, .int x_sav, .int x_err, .int x_rea, .int x_det, .int x_com])), (a_gw, .inl (T 0, 90, .inl v_gw)), (a_gk, .inl (T 0, 18, .inl v_gk)), (a_ns, .inl (T 2, 32, .inl v_ns))] H) (hS : va_S A s.heap H locs) (ls : Array Slot) (hl : lv_has ls 2 [(0, .ref a_x), (1, .int l1)]) (h : fX7_tell_n_121 v_gw v_gk l1 n_len v_ns = some r) : W p l e ({ frames := 3, cells := 0, slots := 0, locals := 64 } : Room) s m args below meth c H locs 0 0 Q (F0 m 121 ls []) := by
  have hx := C.1
  have hb := C.2.1
  obtain ⟨hP, hD⟩ := hPD
  unfold fX7_tell_n_121 at h
  refine lv_aload_n hx hb dX7_tell_121 rfl (lv_at hl 0 rfl) ?_
  refine getF (q0 := 2) (k0 := 0) (v := .ref a_g) C hE hP inA7 rfl rfl (by decide) qFX7_10 rfl rfl dX7_tell_122 ?_
  refine lv_iload_n hx hb dX7_tell_125 rfl (lv_at hl 1 rfl) ?_
  refine lv_iconst (v := 5) hx hb dX7_tell_126 (by decide) ?_
  replace h := bnd h; obtain ⟨q30, e31, h⟩ := h
  refine rdV C hE hP (kX1_of l D T a_g a_gw a_gk v_gw l1 5 q30 e31) mX1_of qLX7_148 [0, 3] 0 rfl rfl rfl rfl ⟨rfl, rfl⟩ ⟨Nat.le_of_ble_eq_true rfl, Nat.le_of_ble_eq_true rfl⟩ rfl hl.1 rfl (Nat.le_of_ble_eq_true rfl) dX7_tell_127 ⟨Nat.le_of_ble_eq_true rfl, Nat.le_of_ble_eq_true rfl⟩ ?_
  refine lv_iconst (v := 1) hx hb dX7_tell_130 (by decide) ?_
  refine lv_icmp_ne (tgt := 143) hx hb dX7_tell_131 (by decide) (fun c32 => ?_) (fun c32 => ?_)
  · replace h := ite_f c32 h
    exact lX7_tell_n_143 C hE hA hret n_len v_ns ⟨hP, hD⟩ hS _ (lv_sub hl [0] rfl) h
  · replace h := ite_t c32 h
    refine lv_aload_n hx hb dX7_tell_134 rfl (lv_at hl 0 rfl) ?_
    refine getF (q0 := 2) (k0 := 8) (v := .ref a_n) C hE hP inA7 rfl rfl (by decide) qFX7_64 rfl rfl dX7_tell_135 ?_
    refine lv_bipush (v := 33) hx hb dX7_tell_138 (by decide) ?_
    replace h := bnd h; obtain ⟨q33, e34, h⟩ := h
    refine wrVv (ws1 := [(a_g, .inr (1, [.ref a_gw, .ref a_gk])), (a_n, .inr (3, [.ref a_ns, .int q33.1])), (a_x, .inr (7, [.ref a_g, .ref a_b, .ref a_v, .ref a_h, .ref a_r, .ref a_f, .ref a_u, .ref a_t, .ref a_n, .int x_sav, .int x_err, .int x_rea, .int x_det, .int x_com])), (a_gw, .inl (T 0, 90, .inl v_gw)), (a_gk, .inl (T 0, 18, .inl v_gk)), (a_ns, .inl (T 2, 32, .inl q33.2))]) C hE hP hD hS hA (kX3_add l D T a_n a_ns n_len v_ns 33 _ q33 e34) mX3_add qLX7_286 [1, 5] [0, 2, 3, 4] 1 rfl rfl rfl rfl rfl rfl rfl rfl rfl ⟨rfl, rfl⟩ ⟨Nat.le_of_ble_eq_true rfl, Nat.le_of_ble_eq_true rfl⟩ rfl hl.1 rfl (Nat.le_of_ble_eq_true rfl) dX7_tell_140 ⟨Nat.le_of_ble_eq_true rfl, Nat.le_of_ble_eq_true rfl⟩ ?_; clear hP hD hS; intro H locs hP hD hS
    exact lX7_tell_n_143 C hE hA hret q33.1 q33.2 ⟨hP, hD⟩ hS _ (lv_sub hl [0] rfl) h
set_option maxHeartbeats 4000000 in
set_option maxRecDepth 100000 in
theorem kX7_tell_n (l : Launch) (D : va_G) (T : Nat → ClassId) (a_g a_gw a_gk a_n a_ns a_x a_b a_v a_h a_r a_f a_u a_t : Nat) (n_len : Int32) (x_sav : Int32) (x_err : Int32) (x_rea : Int32) (x_det : Int32) (x_com : Int32) (v_gw : Nat → Int32) (v_gk : Nat → Int32) (v_ns : Nat → Int32) (p0 : Int32) (sz : Nat) (r : Int32 × Int32 × (Nat → Int32)) (h : fX7_tell_n n_len v_gw v_gk v_ns p0 = some r) : WrI l yX7_tell cX7_tell 2 .int ({ frames := 3, cells := 0, slots := 0, locals := 64 } : Room) D T sz [(a_g, .inr (1, [.ref a_gw, .ref a_gk])), (a_n, .inr (3, [.ref a_ns, .int n_len])), (a_x, .inr (7, [.ref a_g, .ref a_b, .ref a_v, .ref a_h, .ref a_r, .ref a_f, .ref a_u, .ref a_t, .ref a_n, .int x_sav, .int x_err, .int x_rea, .int x_det, .int x_com])), (a_gw, .inl (T 0, 90, .inl v_gw)), (a_gk, .inl (T 0, 18, .inl v_gk)), (a_ns, .inl (T 2, 32, .inl v_ns))] [(a_g, .inr (1, [.ref a_gw, .ref a_gk])), (a_n, .inr (3, [.ref a_ns, .int r.2.1])), (a_x, .inr (7, [.ref a_g, .ref a_b, .ref a_v, .ref a_h, .ref a_r, .ref a_f, .ref a_u, .ref a_t, .ref a_n, .int x_sav, .int x_err, .int x_rea, .int x_det, .int x_com])), (a_gw, .inl (T 0, 90, .inl v_gw)), (a_gk, .inl (T 0, 18, .inl v_gk)), (a_ns, .inl (T 2, 32, .inl r.2.2))] [.ref a_x, .int p0] r.1 := by
  unfold fX7_tell_n at h
  refine wrMet (by decide +kernel) rfl (fun p e s m args below meth c Q A C hE hA hP hD hS hret ls hl => ?_)
  have hx := C.1
  have hb := C.2.1
  have hl : lv_has ls 2 [(0, .ref a_x), (1, .int p0)] := hl
  refine lv_aload_n hx hb dX7_tell_0 rfl (lv_at hl 0 rfl) ?_
  refine lv_iload_n hx hb dX7_tell_1 rfl (lv_at hl 1 rfl) ?_
  replace h := bnd h; obtain ⟨q1, e2, h⟩ := h
  refine wrVv (ws1 := [(a_g, .inr (1, [.ref a_gw, .ref a_gk])), (a_n, .inr (3, [.ref a_ns, .int n_len])), (a_x, .inr (7, [.ref a_g, .ref a_b, .ref a_v, .ref a_h, .ref a_r, .ref a_f, .ref a_u, .ref a_t, .ref a_n, .int x_sav, .int x_err, .int x_rea, .int x_det, .int x_com])), (a_gw, .inl (T 0, 90, .inl v_gw)), (a_gk, .inl (T 0, 18, .inl v_gk)), (a_ns, .inl (T 2, 32, .inl v_ns))]) C hE hP hD hS hA (kX7_demandWhale_n l D T a_g a_gw a_gk a_x a_b a_v a_h a_r a_f a_u a_t a_n x_sav x_err x_rea x_det x_com v_gk p0 _ q1 e2) mX7_demandWhale qLX7_138 [0, 2, 4] [1, 3, 5] 2 rfl rfl rfl rfl rfl rfl rfl rfl rfl ⟨rfl, rfl⟩ ⟨Nat.le_of_ble_eq_true rfl, Nat.le_of_ble_eq_true rfl⟩ rfl hl.1 rfl (Nat.le_of_ble_eq_true rfl) dX7_tell_2 ⟨Nat.le_of_ble_eq_true rfl, Nat.le_of_ble_eq_true rfl⟩ ?_; clear hP hD hS; intro H locs hP hD hS
  refine lv_aload_n hx hb dX7_tell_5 rfl (lv_at hl 0 rfl) ?_
  refine getF (q0 := 2) (k0 := 8) (v := .ref a_n) C hE hP inA7 rfl rfl (by decide) qFX7_64 rfl rfl dX7_tell_6 ?_
  replace h := bnd h; obtain ⟨q3, e4, h⟩ := h
  refine wrVv (ws1 := [(a_g, .inr (1, [.ref a_gw, .ref a_gk])), (a_n, .inr (3, [.ref a_ns, .int q3])), (a_x, .inr (7, [.ref a_g, .ref a_b, .ref a_v, .ref a_h, .ref a_r, .ref a_f, .ref a_u, .ref a_t, .ref a_n, .int x_sav, .int x_err, .int x_rea, .int x_det, .int x_com])), (a_gw, .inl (T 0, 90, .inl v_gw)), (a_gk, .inl (T 0, 18, .inl v_gk)), (a_ns, .inl (T 2, 32, .inl v_ns))]) C hE hP hD hS hA (kX3_clear l D T a_n a_ns n_len _ q3 e4) mX3_clear qLX7_270 [1] [0, 2, 3, 4, 5] 1 rfl rfl rfl rfl rfl rfl rfl rfl rfl ⟨rfl, rfl⟩ ⟨Nat.le_of_ble_eq_true rfl, Nat.le_of_ble_eq_true rfl⟩ rfl hl.1 rfl (Nat.le_of_ble_eq_true rfl) dX7_tell_9 ⟨Nat.le_of_ble_eq_true rfl, Nat.le_of_ble_eq_true rfl⟩ ?_; clear hP hD hS; intro H locs hP hD hS
  refine lv_aload_n hx hb dX7_tell_12 rfl (lv_at hl 0 rfl) ?_
  refine getF (q0 := 2) (k0 := 8) (v := .ref a_n) C hE hP inA7 rfl rfl (by decide) qFX7_64 rfl rfl dX7_tell_13 ?_
  refine lv_iload_n hx hb dX7_tell_16 rfl (lv_at hl 1 rfl) ?_
  replace h := bnd h; obtain ⟨q5, e6, h⟩ := h
  refine wrVv (ws1 := [(a_g, .inr (1, [.ref a_gw, .ref a_gk])), (a_n, .inr (3, [.ref a_ns, .int q5.1])), (a_x, .inr (7, [.ref a_g, .ref a_b, .ref a_v, .ref a_h, .ref a_r, .ref a_f, .ref a_u, .ref a_t, .ref a_n, .int x_sav, .int x_err, .int x_rea, .int x_det, .int x_com])), (a_gw, .inl (T 0, 90, .inl v_gw)), (a_gk, .inl (T 0, 18, .inl v_gk)), (a_ns, .inl (T 2, 32, .inl q5.2))]) C hE hP hD hS hA (kX3_addNumber l D T a_n a_ns q3 v_ns p0 _ q5 e6) mX3_addNumber qLX7_279 [1, 5] [0, 2, 3, 4] 1 rfl rfl rfl rfl rfl rfl rfl rfl rfl ⟨rfl, rfl⟩ ⟨Nat.le_of_ble_eq_true rfl, Nat.le_of_ble_eq_true rfl⟩ rfl hl.1 rfl (Nat.le_of_ble_eq_true rfl) dX7_tell_17 ⟨Nat.le_of_ble_eq_true rfl, Nat.le_of_ble_eq_true rfl⟩ ?_; clear hP hD hS; intro H locs hP hD hS
  refine lv_aload_n hx hb dX7_tell_20 rfl (lv_at hl 0 rfl) ?_
  refine getF (q0 := 2) (k0 := 8) (v := .ref a_n) C hE hP inA7 rfl rfl (by decide) qFX7_64 rfl rfl dX7_tell_21 ?_
  refine lv_bipush (v := 58) hx hb dX7_tell_24 (by decide) ?_
  refine lv_aload_n hx hb dX7_tell_26 rfl (lv_at hl 0 rfl) ?_
  refine getF (q0 := 2) (k0 := 0) (v := .ref a_g) C hE hP inA7 rfl rfl (by decide) qFX7_10 rfl rfl dX7_tell_27 ?_
  refine lv_iload_n hx hb dX7_tell_30 rfl (lv_at hl 1 rfl) ?_
  refine lv_iconst (v := 0) hx hb dX7_tell_31 (by decide) ?_
  replace h := bnd h; obtain ⟨q7, e8, h⟩ := h
  refine rdV C hE hP (kX1_of l D T a_g a_gw a_gk v_gw p0 0 q7 e8) mX1_of qLX7_148 [0, 3] 0 rfl rfl rfl rfl ⟨rfl, rfl⟩ ⟨Nat.le_of_ble_eq_true rfl, Nat.le_of_ble_eq_true rfl⟩ rfl hl.1 rfl (Nat.le_of_ble_eq_true rfl) dX7_tell_32 ⟨Nat.le_of_ble_eq_true rfl, Nat.le_of_ble_eq_true rfl⟩ ?_
  replace h := bnd h; obtain ⟨q9, e10, h⟩ := h
  refine wrVv (ws1 := [(a_g, .inr (1, [.ref a_gw, .ref a_gk])), (a_n, .inr (3, [.ref a_ns, .int q9.1])), (a_x, .inr (7, [.ref a_g, .ref a_b, .ref a_v, .ref a_h, .ref a_r, .ref a_f, .ref a_u, .ref a_t, .ref a_n, .int x_sav, .int x_err, .int x_rea, .int x_det, .int x_com])), (a_gw, .inl (T 0, 90, .inl v_gw)), (a_gk, .inl (T 0, 18, .inl v_gk)), (a_ns, .inl (T 2, 32, .inl q9.2))]) C hE hP hD hS hA (kX3_addSigned l D T a_n a_ns q5.1 q5.2 58 q7 _ q9 e10) mX3_addSigned qLX7_282 [1, 5] [0, 2, 3, 4] 1 rfl rfl rfl rfl rfl rfl rfl rfl rfl ⟨rfl, rfl⟩ ⟨Nat.le_of_ble_eq_true rfl, Nat.le_of_ble_eq_true rfl⟩ rfl hl.1 rfl (Nat.le_of_ble_eq_true rfl) dX7_tell_35 ⟨Nat.le_of_ble_eq_true rfl, Nat.le_of_ble_eq_true rfl⟩ ?_; clear hP hD hS; intro H locs hP hD hS
  refine lv_aload_n hx hb dX7_tell_38 rfl (lv_at hl 0 rfl) ?_
  refine getF (q0 := 2) (k0 := 8) (v := .ref a_n) C hE hP inA7 rfl rfl (by decide) qFX7_64 rfl rfl dX7_tell_39 ?_
  refine lv_bipush (v := 94) hx hb dX7_tell_42 (by decide) ?_
  refine lv_aload_n hx hb dX7_tell_44 rfl (lv_at hl 0 rfl) ?_
  refine getF (q0 := 2) (k0 := 0) (v := .ref a_g) C hE hP inA7 rfl rfl (by decide) qFX7_10 rfl rfl dX7_tell_45 ?_
  refine lv_iload_n hx hb dX7_tell_48 rfl (lv_at hl 1 rfl) ?_
  refine lv_iconst (v := 1) hx hb dX7_tell_49 (by decide) ?_
  replace h := bnd h; obtain ⟨q11, e12, h⟩ := h
  refine rdV C hE hP (kX1_of l D T a_g a_gw a_gk v_gw p0 1 q11 e12) mX1_of qLX7_148 [0, 3] 0 rfl rfl rfl rfl ⟨rfl, rfl⟩ ⟨Nat.le_of_ble_eq_true rfl, Nat.le_of_ble_eq_true rfl⟩ rfl hl.1 rfl (Nat.le_of_ble_eq_true rfl) dX7_tell_50 ⟨Nat.le_of_ble_eq_true rfl, Nat.le_of_ble_eq_true rfl⟩ ?_
  replace h := bnd h; obtain ⟨q13, e14, h⟩ := h
  refine wrVv (ws1 := [(a_g, .inr (1, [.ref a_gw, .ref a_gk])), (a_n, .inr (3, [.ref a_ns, .int q13.1])), (a_x, .inr (7, [.ref a_g, .ref a_b, .ref a_v, .ref a_h, .ref a_r, .ref a_f, .ref a_u, .ref a_t, .ref a_n, .int x_sav, .int x_err, .int x_rea, .int x_det, .int x_com])), (a_gw, .inl (T 0, 90, .inl v_gw)), (a_gk, .inl (T 0, 18, .inl v_gk)), (a_ns, .inl (T 2, 32, .inl q13.2))]) C hE hP hD hS hA (kX3_addSigned l D T a_n a_ns q9.1 q9.2 94 q11 _ q13 e14) mX3_addSigned qLX7_282 [1, 5] [0, 2, 3, 4] 1 rfl rfl rfl rfl rfl rfl rfl rfl rfl ⟨rfl, rfl⟩ ⟨Nat.le_of_ble_eq_true rfl, Nat.le_of_ble_eq_true rfl⟩ rfl hl.1 rfl (Nat.le_of_ble_eq_true rfl) dX7_tell_53 ⟨Nat.le_of_ble_eq_true rfl, Nat.le_of_ble_eq_true rfl⟩ ?_; clear hP hD hS; intro H locs hP hD hS
  refine lv_aload_n hx hb dX7_tell_56 rfl (lv_at hl 0 rfl) ?_
  refine getF (q0 := 2) (k0 := 8) (v := .ref a_n) C hE hP inA7 rfl rfl (by decide) qFX7_64 rfl rfl dX7_tell_57 ?_
  refine lv_bipush (v := 47) hx hb dX7_tell_60 (by decide) ?_
  refine lv_aload_n hx hb dX7_tell_62 rfl (lv_at hl 0 rfl) ?_
  refine getF (q0 := 2) (k0 := 0) (v := .ref a_g) C hE hP inA7 rfl rfl (by decide) qFX7_10 rfl rfl dX7_tell_63 ?_
  refine lv_iload_n hx hb dX7_tell_66 rfl (lv_at hl 1 rfl) ?_
  refine lv_iconst (v := 2) hx hb dX7_tell_67 (by decide) ?_
  replace h := bnd h; obtain ⟨q15, e16, h⟩ := h
  refine rdV C hE hP (kX1_of l D T a_g a_gw a_gk v_gw p0 2 q15 e16) mX1_of qLX7_148 [0, 3] 0 rfl rfl rfl rfl ⟨rfl, rfl⟩ ⟨Nat.le_of_ble_eq_true rfl, Nat.le_of_ble_eq_true rfl⟩ rfl hl.1 rfl (Nat.le_of_ble_eq_true rfl) dX7_tell_68 ⟨Nat.le_of_ble_eq_true rfl, Nat.le_of_ble_eq_true rfl⟩ ?_
  replace h := bnd h; obtain ⟨q17, e18, h⟩ := h
  refine wrVv (ws1 := [(a_g, .inr (1, [.ref a_gw, .ref a_gk])), (a_n, .inr (3, [.ref a_ns, .int q17.1])), (a_x, .inr (7, [.ref a_g, .ref a_b, .ref a_v, .ref a_h, .ref a_r, .ref a_f, .ref a_u, .ref a_t, .ref a_n, .int x_sav, .int x_err, .int x_rea, .int x_det, .int x_com])), (a_gw, .inl (T 0, 90, .inl v_gw)), (a_gk, .inl (T 0, 18, .inl v_gk)), (a_ns, .inl (T 2, 32, .inl q17.2))]) C hE hP hD hS hA (kX3_addSigned l D T a_n a_ns q13.1 q13.2 47 q15 _ q17 e18) mX3_addSigned qLX7_282 [1, 5] [0, 2, 3, 4] 1 rfl rfl rfl rfl rfl rfl rfl rfl rfl ⟨rfl, rfl⟩ ⟨Nat.le_of_ble_eq_true rfl, Nat.le_of_ble_eq_true rfl⟩ rfl hl.1 rfl (Nat.le_of_ble_eq_true rfl) dX7_tell_71 ⟨Nat.le_of_ble_eq_true rfl, Nat.le_of_ble_eq_true rfl⟩ ?_; clear hP hD hS; intro H locs hP hD hS
  refine lv_aload_n hx hb dX7_tell_74 rfl (lv_at hl 0 rfl) ?_
  refine getF (q0 := 2) (k0 := 8) (v := .ref a_n) C hE hP inA7 rfl rfl (by decide) qFX7_64 rfl rfl dX7_tell_75 ?_
  refine lv_bipush (v := 37) hx hb dX7_tell_78 (by decide) ?_
  refine lv_aload_n hx hb dX7_tell_80 rfl (lv_at hl 0 rfl) ?_
  refine getF (q0 := 2) (k0 := 0) (v := .ref a_g) C hE hP inA7 rfl rfl (by decide) qFX7_10 rfl rfl dX7_tell_81 ?_
  refine lv_iload_n hx hb dX7_tell_84 rfl (lv_at hl 1 rfl) ?_
  refine lv_iconst (v := 3) hx hb dX7_tell_85 (by decide) ?_
  replace h := bnd h; obtain ⟨q19, e20, h⟩ := h
  refine rdV C hE hP (kX1_of l D T a_g a_gw a_gk v_gw p0 3 q19 e20) mX1_of qLX7_148 [0, 3] 0 rfl rfl rfl rfl ⟨rfl, rfl⟩ ⟨Nat.le_of_ble_eq_true rfl, Nat.le_of_ble_eq_true rfl⟩ rfl hl.1 rfl (Nat.le_of_ble_eq_true rfl) dX7_tell_86 ⟨Nat.le_of_ble_eq_true rfl, Nat.le_of_ble_eq_true rfl⟩ ?_
  replace h := bnd h; obtain ⟨q21, e22, h⟩ := h
  refine wrVv (ws1 := [(a_g, .inr (1, [.ref a_gw, .ref a_gk])), (a_n, .inr (3, [.ref a_ns, .int q21.1])), (a_x, .inr (7, [.ref a_g, .ref a_b, .ref a_v, .ref a_h, .ref a_r, .ref a_f, .ref a_u, .ref a_t, .ref a_n, .int x_sav, .int x_err, .int x_rea, .int x_det, .int x_com])), (a_gw, .inl (T 0, 90, .inl v_gw)), (a_gk, .inl (T 0, 18, .inl v_gk)), (a_ns, .inl (T 2, 32, .inl q21.2))]) C hE hP hD hS hA (kX3_addSigned l D T a_n a_ns q17.1 q17.2 37 q19 _ q21 e22) mX3_addSigned qLX7_282 [1, 5] [0, 2, 3, 4] 1 rfl rfl rfl rfl rfl rfl rfl rfl rfl ⟨rfl, rfl⟩ ⟨Nat.le_of_ble_eq_true rfl, Nat.le_of_ble_eq_true rfl⟩ rfl hl.1 rfl (Nat.le_of_ble_eq_true rfl) dX7_tell_89 ⟨Nat.le_of_ble_eq_true rfl, Nat.le_of_ble_eq_true rfl⟩ ?_; clear hP hD hS; intro H locs hP hD hS
  refine lv_aload_n hx hb dX7_tell_92 rfl (lv_at hl 0 rfl) ?_
  refine getF (q0 := 2) (k0 := 0) (v := .ref a_g) C hE hP inA7 rfl rfl (by decide) qFX7_10 rfl rfl dX7_tell_93 ?_
  refine lv_iload_n hx hb dX7_tell_96 rfl (lv_at hl 1 rfl) ?_
  replace h := bnd h; obtain ⟨q23, e24, h⟩ := h
  refine rdV C hE hP (kX1_isPlaying l D T a_g a_gw a_gk v_gw p0 q23 e24) mX1_isPlaying qLX7_200 [0, 3] 0 rfl rfl rfl rfl ⟨rfl, rfl⟩ ⟨Nat.le_of_ble_eq_true rfl, Nat.le_of_ble_eq_true rfl⟩ rfl hl.1 rfl (Nat.le_of_ble_eq_true rfl) dX7_tell_97 ⟨Nat.le_of_ble_eq_true rfl, Nat.le_of_ble_eq_true rfl⟩ ?_
  refine lv_if_eq (tgt := 121) hx hb dX7_tell_100 (by decide) (fun c25 => ?_) (fun c25 => ?_)
  · replace h := ite_t c25 h
    exact lX7_tell_n_121 C hE hA hret p0 q21.1 q21.2 ⟨hP, hD⟩ hS _ (lv_sub hl [0, 1] rfl) h
  · replace h := ite_f c25 h
    refine lv_aload_n hx hb dX7_tell_103 rfl (lv_at hl 0 rfl) ?_
    refine getF (q0 := 2) (k0 := 8) (v := .ref a_n) C hE hP inA7 rfl rfl (by decide) qFX7_64 rfl rfl dX7_tell_104 ?_
    refine lv_bipush (v := 64) hx hb dX7_tell_107 (by decide) ?_
    refine lv_aload_n hx hb dX7_tell_109 rfl (lv_at hl 0 rfl) ?_
    refine getF (q0 := 2) (k0 := 0) (v := .ref a_g) C hE hP inA7 rfl rfl (by decide) qFX7_10 rfl rfl dX7_tell_110 ?_
    refine lv_iload_n hx hb dX7_tell_113 rfl (lv_at hl 1 rfl) ?_
    refine lv_iconst (v := 4) hx hb dX7_tell_114 (by decide) ?_
    replace h := bnd h; obtain ⟨q26, e27, h⟩ := h
    refine rdV C hE hP (kX1_of l D T a_g a_gw a_gk v_gw p0 4 q26 e27) mX1_of qLX7_148 [0, 3] 0 rfl rfl rfl rfl ⟨rfl, rfl⟩ ⟨Nat.le_of_ble_eq_true rfl, Nat.le_of_ble_eq_true rfl⟩ rfl hl.1 rfl (Nat.le_of_ble_eq_true rfl) dX7_tell_115 ⟨Nat.le_of_ble_eq_true rfl, Nat.le_of_ble_eq_true rfl⟩ ?_
    replace h := bnd h; obtain ⟨q28, e29, h⟩ := h
    refine wrVv (ws1 := [(a_g, .inr (1, [.ref a_gw, .ref a_gk])), (a_n, .inr (3, [.ref a_ns, .int q28.1])), (a_x, .inr (7, [.ref a_g, .ref a_b, .ref a_v, .ref a_h, .ref a_r, .ref a_f, .ref a_u, .ref a_t, .ref a_n, .int x_sav, .int x_err, .int x_rea, .int x_det, .int x_com])), (a_gw, .inl (T 0, 90, .inl v_gw)), (a_gk, .inl (T 0, 18, .inl v_gk)), (a_ns, .inl (T 2, 32, .inl q28.2))]) C hE hP hD hS hA (kX3_addSigned l D T a_n a_ns q21.1 q21.2 64 q26 _ q28 e29) mX3_addSigned qLX7_282 [1, 5] [0, 2, 3, 4] 1 rfl rfl rfl rfl rfl rfl rfl rfl rfl ⟨rfl, rfl⟩ ⟨Nat.le_of_ble_eq_true rfl, Nat.le_of_ble_eq_true rfl⟩ rfl hl.1 rfl (Nat.le_of_ble_eq_true rfl) dX7_tell_118 ⟨Nat.le_of_ble_eq_true rfl, Nat.le_of_ble_eq_true rfl⟩ ?_; clear hP hD hS; intro H locs hP hD hS
    exact lX7_tell_n_121 C hE hA hret p0 q28.1 q28.2 ⟨hP, hD⟩ hS _ (lv_sub hl [0, 1] rfl) h

def fX7_reach_n (v_gw : Nat → Int32) (v_gk : Nat → Int32) (v_rs : Nat → Int32) (v_ro : Nat → Int32) (p0 : Int32) : Option (Int32 × (Nat → Int32) × (Nat → Int32)) :=
  (fX7_demandWhale_n v_gk p0).bind fun q1 =>
  (fX1_isOver v_gk).bind fun q3 =>
  if q3 = 0 then
    (fX1_isPlaying v_gw p0).bind fun q6 =>
    if q6 = 0 then
      some (0, v_rs, v_ro)
    else
      (fX1_isStranded v_gw v_gk p0).bind fun q9 =>
      if q9 = 0 then
        (fX4_findBySpreading v_gw v_gk v_rs v_ro p0).bind fun q12 =>
        (fX1_of v_gw p0 2).bind fun q14 =>
        (fX1_of v_gw p0 3).bind fun q16 =>
        (fX4_countWithin q12.1 (if q16 < q14 then q16 else q14)).bind fun q18 =>
        some (q18, q12.1, q12.2)
      else
        some (0, v_rs, v_ro)
  else
    some (0, v_rs, v_ro)
set_option maxHeartbeats 4000000 in
set_option maxRecDepth 100000 in
theorem kX7_reach_n (l : Launch) (D : va_G) (T : Nat → ClassId) (a_g a_gw a_gk a_r a_rs a_rl a_ro a_x a_b a_v a_h a_f a_u a_t a_n : Nat) (x_sav : Int32) (x_err : Int32) (x_rea : Int32) (x_det : Int32) (x_com : Int32) (v_gw : Nat → Int32) (v_gk : Nat → Int32) (v_rs : Nat → Int32) (v_ro : Nat → Int32) (p0 : Int32) (sz : Nat) (r : Int32 × (Nat → Int32) × (Nat → Int32)) (h : fX7_reach_n v_gw v_gk v_rs v_ro p0 = some r) : WrI l yX7_reach cX7_reach 2 .int ({ frames := 4, cells := 0, slots := 0, locals := 93 } : Room) D T sz [(a_g, .inr (1, [.ref a_gw, .ref a_gk])), (a_r, .inr (4, [.ref a_g, .ref a_rs, .ref a_rl, .ref a_ro])), (a_x, .inr (7, [.ref a_g, .ref a_b, .ref a_v, .ref a_h, .ref a_r, .ref a_f, .ref a_u, .ref a_t, .ref a_n, .int x_sav, .int x_err, .int x_rea, .int x_det, .int x_com])), (a_gw, .inl (T 0, 90, .inl v_gw)), (a_gk, .inl (T 0, 18, .inl v_gk)), (a_rs, .inl (T 0, 45, .inl v_rs)), (a_ro, .inl (T 1, 45, .inl v_ro))] [(a_g, .inr (1, [.ref a_gw, .ref a_gk])), (a_r, .inr (4, [.ref a_g, .ref a_rs, .ref a_rl, .ref a_ro])), (a_x, .inr (7, [.ref a_g, .ref a_b, .ref a_v, .ref a_h, .ref a_r, .ref a_f, .ref a_u, .ref a_t, .ref a_n, .int x_sav, .int x_err, .int x_rea, .int x_det, .int x_com])), (a_gw, .inl (T 0, 90, .inl v_gw)), (a_gk, .inl (T 0, 18, .inl v_gk)), (a_rs, .inl (T 0, 45, .inl r.2.1)), (a_ro, .inl (T 1, 45, .inl r.2.2))] [.ref a_x, .int p0] r.1 := by
  unfold fX7_reach_n at h
  refine wrMet (by decide +kernel) rfl (fun p e s m args below meth c Q A C hE hA hP hD hS hret ls hl => ?_)
  have hx := C.1
  have hb := C.2.1
  have hl : lv_has ls 2 [(0, .ref a_x), (1, .int p0)] := hl
  refine lv_aload_n hx hb dX7_reach_0 rfl (lv_at hl 0 rfl) ?_
  refine lv_iload_n hx hb dX7_reach_1 rfl (lv_at hl 1 rfl) ?_
  replace h := bnd h; obtain ⟨q1, e2, h⟩ := h
  refine wrVv (ws1 := [(a_g, .inr (1, [.ref a_gw, .ref a_gk])), (a_r, .inr (4, [.ref a_g, .ref a_rs, .ref a_rl, .ref a_ro])), (a_x, .inr (7, [.ref a_g, .ref a_b, .ref a_v, .ref a_h, .ref a_r, .ref a_f, .ref a_u, .ref a_t, .ref a_n, .int x_sav, .int x_err, .int x_rea, .int x_det, .int x_com])), (a_gw, .inl (T 0, 90, .inl v_gw)), (a_gk, .inl (T 0, 18, .inl v_gk)), (a_rs, .inl (T 0, 45, .inl v_rs)), (a_ro, .inl (T 1, 45, .inl v_ro))]) C hE hP hD hS hA (kX7_demandWhale_n l D T a_g a_gw a_gk a_x a_b a_v a_h a_r a_f a_u a_t a_n x_sav x_err x_rea x_det x_com v_gk p0 _ q1 e2) mX7_demandWhale qLX7_138 [0, 2, 4] [1, 3, 5, 6] 2 rfl rfl rfl rfl rfl rfl rfl rfl rfl ⟨rfl, rfl⟩ ⟨Nat.le_of_ble_eq_true rfl, Nat.le_of_ble_eq_true rfl⟩ rfl hl.1 rfl (Nat.le_of_ble_eq_true rfl) dX7_reach_2 ⟨Nat.le_of_ble_eq_true rfl, Nat.le_of_ble_eq_true rfl⟩ ?_; clear hP hD hS; intro H locs hP hD hS
  refine lv_aload_n hx hb dX7_reach_5 rfl (lv_at hl 0 rfl) ?_
  refine getF (q0 := 2) (k0 := 0) (v := .ref a_g) C hE hP inA7 rfl rfl (by decide) qFX7_10 rfl rfl dX7_reach_6 ?_
  replace h := bnd h; obtain ⟨q3, e4, h⟩ := h
  refine rdV C hE hP (kX1_isOver l D T a_g a_gw a_gk v_gk q3 e4) mX1_isOver qLX7_196 [0, 4] 0 rfl rfl rfl rfl ⟨rfl, rfl⟩ ⟨Nat.le_of_ble_eq_true rfl, Nat.le_of_ble_eq_true rfl⟩ rfl hl.1 rfl (Nat.le_of_ble_eq_true rfl) dX7_reach_9 ⟨Nat.le_of_ble_eq_true rfl, Nat.le_of_ble_eq_true rfl⟩ ?_
  refine lv_if_ne (tgt := 37) hx hb dX7_reach_12 (by decide) (fun c5 => ?_) (fun c5 => ?_)
  · replace h := ite_f c5 h
    refine lv_iconst (v := 0) hx hb dX7_reach_37 (by decide) ?_
    replace h := Option.some.inj h
    exact hret _ _ _ _ _ _ dX7_reach_38 rfl (by rw [← h] <;> rfl) (by rw [← h]; exact hP) hS
  · replace h := ite_t c5 h
    refine lv_aload_n hx hb dX7_reach_15 rfl (lv_at hl 0 rfl) ?_
    refine getF (q0 := 2) (k0 := 0) (v := .ref a_g) C hE hP inA7 rfl rfl (by decide) qFX7_10 rfl rfl dX7_reach_16 ?_
    refine lv_iload_n hx hb dX7_reach_19 rfl (lv_at hl 1 rfl) ?_
    replace h := bnd h; obtain ⟨q6, e7, h⟩ := h
    refine rdV C hE hP (kX1_isPlaying l D T a_g a_gw a_gk v_gw p0 q6 e7) mX1_isPlaying qLX7_200 [0, 3] 0 rfl rfl rfl rfl ⟨rfl, rfl⟩ ⟨Nat.le_of_ble_eq_true rfl, Nat.le_of_ble_eq_true rfl⟩ rfl hl.1 rfl (Nat.le_of_ble_eq_true rfl) dX7_reach_20 ⟨Nat.le_of_ble_eq_true rfl, Nat.le_of_ble_eq_true rfl⟩ ?_
    refine lv_if_eq (tgt := 37) hx hb dX7_reach_23 (by decide) (fun c8 => ?_) (fun c8 => ?_)
    · replace h := ite_t c8 h
      refine lv_iconst (v := 0) hx hb dX7_reach_37 (by decide) ?_
      replace h := Option.some.inj h
      exact hret _ _ _ _ _ _ dX7_reach_38 rfl (by rw [← h] <;> rfl) (by rw [← h]; exact hP) hS
    · replace h := ite_f c8 h
      refine lv_aload_n hx hb dX7_reach_26 rfl (lv_at hl 0 rfl) ?_
      refine getF (q0 := 2) (k0 := 0) (v := .ref a_g) C hE hP inA7 rfl rfl (by decide) qFX7_10 rfl rfl dX7_reach_27 ?_
      refine lv_iload_n hx hb dX7_reach_30 rfl (lv_at hl 1 rfl) ?_
      replace h := bnd h; obtain ⟨q9, e10, h⟩ := h
      refine rdV C hE hP (kX1_isStranded l D T a_g a_gw a_gk v_gw v_gk p0 q9 e10) mX1_isStranded qLX7_203 [0, 3, 4] 0 rfl rfl rfl rfl ⟨rfl, rfl⟩ ⟨Nat.le_of_ble_eq_true rfl, Nat.le_of_ble_eq_true rfl⟩ rfl hl.1 rfl (Nat.le_of_ble_eq_true rfl) dX7_reach_31 ⟨Nat.le_of_ble_eq_true rfl, Nat.le_of_ble_eq_true rfl⟩ ?_
      refine lv_if_eq (tgt := 39) hx hb dX7_reach_34 (by decide) (fun c11 => ?_) (fun c11 => ?_)
      · replace h := ite_t c11 h
        refine lv_aload_n hx hb dX7_reach_39 rfl (lv_at hl 0 rfl) ?_
        refine getF (q0 := 2) (k0 := 4) (v := .ref a_r) C hE hP inA7 rfl rfl (by decide) qFX7_34 rfl rfl dX7_reach_40 ?_
        refine lv_iload_n hx hb dX7_reach_43 rfl (lv_at hl 1 rfl) ?_
        replace h := bnd h; obtain ⟨q12, e13, h⟩ := h
        refine wrVv (ws1 := [(a_g, .inr (1, [.ref a_gw, .ref a_gk])), (a_r, .inr (4, [.ref a_g, .ref a_rs, .ref a_rl, .ref a_ro])), (a_x, .inr (7, [.ref a_g, .ref a_b, .ref a_v, .ref a_h, .ref a_r, .ref a_f, .ref a_u, .ref a_t, .ref a_n, .int x_sav, .int x_err, .int x_rea, .int x_det, .int x_com])), (a_gw, .inl (T 0, 90, .inl v_gw)), (a_gk, .inl (T 0, 18, .inl v_gk)), (a_rs, .inl (T 0, 45, .inl q12.1)), (a_ro, .inl (T 1, 45, .inl q12.2))]) C hE hP hD hS hA (kX4_findBySpreading l D T a_g a_gw a_gk a_r a_rs a_rl a_ro v_gw v_gk v_rs v_ro p0 _ q12 e13) mX4_findBySpreading qLX7_181 [0, 1, 3, 4, 5, 6] [2] 1 rfl rfl rfl rfl rfl rfl rfl rfl rfl ⟨rfl, rfl⟩ ⟨Nat.le_of_ble_eq_true rfl, Nat.le_of_ble_eq_true rfl⟩ rfl hl.1 rfl (Nat.le_of_ble_eq_true rfl) dX7_reach_44 ⟨Nat.le_of_ble_eq_true rfl, Nat.le_of_ble_eq_true rfl⟩ ?_; clear hP hD hS; intro H locs hP hD hS
        refine lv_aload_n hx hb dX7_reach_47 rfl (lv_at hl 0 rfl) ?_
        refine getF (q0 := 2) (k0 := 4) (v := .ref a_r) C hE hP inA7 rfl rfl (by decide) qFX7_34 rfl rfl dX7_reach_48 ?_
        refine lv_aload_n hx hb dX7_reach_51 rfl (lv_at hl 0 rfl) ?_
        refine getF (q0 := 2) (k0 := 0) (v := .ref a_g) C hE hP inA7 rfl rfl (by decide) qFX7_10 rfl rfl dX7_reach_52 ?_
        refine lv_iload_n hx hb dX7_reach_55 rfl (lv_at hl 1 rfl) ?_
        refine lv_iconst (v := 2) hx hb dX7_reach_56 (by decide) ?_
        replace h := bnd h; obtain ⟨q14, e15, h⟩ := h
        refine rdV C hE hP (kX1_of l D T a_g a_gw a_gk v_gw p0 2 q14 e15) mX1_of qLX7_148 [0, 3] 0 rfl rfl rfl rfl ⟨rfl, rfl⟩ ⟨Nat.le_of_ble_eq_true rfl, Nat.le_of_ble_eq_true rfl⟩ rfl hl.1 rfl (Nat.le_of_ble_eq_true rfl) dX7_reach_57 ⟨Nat.le_of_ble_eq_true rfl, Nat.le_of_ble_eq_true rfl⟩ ?_
        refine lv_aload_n hx hb dX7_reach_60 rfl (lv_at hl 0 rfl) ?_
        refine getF (q0 := 2) (k0 := 0) (v := .ref a_g) C hE hP inA7 rfl rfl (by decide) qFX7_10 rfl rfl dX7_reach_61 ?_
        refine lv_iload_n hx hb dX7_reach_64 rfl (lv_at hl 1 rfl) ?_
        refine lv_iconst (v := 3) hx hb dX7_reach_65 (by decide) ?_
        replace h := bnd h; obtain ⟨q16, e17, h⟩ := h
        refine rdV C hE hP (kX1_of l D T a_g a_gw a_gk v_gw p0 3 q16 e17) mX1_of qLX7_148 [0, 3] 0 rfl rfl rfl rfl ⟨rfl, rfl⟩ ⟨Nat.le_of_ble_eq_true rfl, Nat.le_of_ble_eq_true rfl⟩ rfl hl.1 rfl (Nat.le_of_ble_eq_true rfl) dX7_reach_66 ⟨Nat.le_of_ble_eq_true rfl, Nat.le_of_ble_eq_true rfl⟩ ?_
        refine va_mmin hx hb (C.2.2.1.trans hl.1.symm) C.2.2.2.1 (C.2.2.2.2 _ qLX7_206) (C.2.2.2.2 _ qMs_min) (C.2.2.2.2 _ qMi) (C.2.2.2.2 _ qMc_min) (Nat.le_of_ble_eq_true rfl) (Nat.le_of_ble_eq_true rfl) (Nat.le_of_ble_eq_true rfl) (Nat.le_of_ble_eq_true rfl) dX7_reach_69 ?_
        replace h := bnd h; obtain ⟨q18, e19, h⟩ := h
        refine rdV C hE hP (kX4_countWithin l D T a_r a_g a_rs a_rl a_ro q12.1 (if q16 < q14 then q16 else q14) q18 e19) mX4_countWithin qLX7_211 [1, 5] 1 rfl rfl rfl rfl ⟨rfl, rfl⟩ ⟨Nat.le_of_ble_eq_true rfl, Nat.le_of_ble_eq_true rfl⟩ rfl hl.1 rfl (Nat.le_of_ble_eq_true rfl) dX7_reach_72 ⟨Nat.le_of_ble_eq_true rfl, Nat.le_of_ble_eq_true rfl⟩ ?_
        replace h := Option.some.inj h
        exact hret _ _ _ _ _ _ dX7_reach_75 rfl (by rw [← h] <;> rfl) (by rw [← h]; exact hP) hS
      · replace h := ite_f c11 h
        refine lv_iconst (v := 0) hx hb dX7_reach_37 (by decide) ?_
        replace h := Option.some.inj h
        exact hret _ _ _ _ _ _ dX7_reach_38 rfl (by rw [← h] <;> rfl) (by rw [← h]; exact hP) hS

def fX7_demandStrike_n_14 : Option Unit :=
  none
def fX7_demandStrike_n (p0 : Int32) (p1 : Int32) : Option Unit :=
  if (fX7_isWay p0) = 0 then
    fX7_demandStrike_n_14
  else
    if (fX7_isForce p1) = 0 then
      fX7_demandStrike_n_14
    else
      some ()
set_option maxHeartbeats 4000000 in
set_option maxRecDepth 100000 in
theorem lX7_demandStrike_n_14 {p : Program} {l : Launch} {e : Env} {s : State} {m : MethodId} {args : Array Value} {below : List Frame} {meth : Method} {c : Code} {Q : State → Prop} {D : va_G} {T : Nat → ClassId} {A : Nat → Prop} {r : Unit} (C : CallFix p m c cX7_demandStrike 3 s args aw RX7) (hE : eK D T s) (hA : ∀ q : Nat, s.heap.size ≤ q → A q) (hret : WrRetV p l e ({ frames := 1, cells := 0, slots := 0, locals := 20 } : Room) s m args below meth c Q cX7_demandStrike D A []) {H : Heap} {locs : List Loc} (hPD : va_PD D A [] H) (hS : va_S A s.heap H locs) (ls : Array Slot) (hl : lv_has ls 3 []) (h : fX7_demandStrike_n_14 = some r) : W p l e ({ frames := 1, cells := 0, slots := 0, locals := 20 } : Room) s m args below meth c H locs 0 0 Q (F0 m 14 ls []) := by
  have hx := C.1
  have hb := C.2.1
  obtain ⟨hP, hD⟩ := hPD
  unfold fX7_demandStrike_n_14 at h
  exact nomatch h
set_option maxHeartbeats 4000000 in
set_option maxRecDepth 100000 in
theorem kX7_demandStrike_n (l : Launch) (D : va_G) (T : Nat → ClassId) (a_x : Nat) (p0 : Int32) (p1 : Int32) (sz : Nat) (r : Unit) (h : fX7_demandStrike_n p0 p1 = some r) : WrV l yX7_demandStrike cX7_demandStrike 3 ({ frames := 1, cells := 0, slots := 0, locals := 20 } : Room) D T sz [] [] [.ref a_x, .int p0, .int p1] := by
  unfold fX7_demandStrike_n at h
  refine wrMetV (by decide +kernel) rfl (fun p e s m args below meth c Q A C hE hA hP hD hS hret ls hl => ?_)
  have hx := C.1
  have hb := C.2.1
  have hl : lv_has ls 3 [(0, .ref a_x), (1, .int p0), (2, .int p1)] := hl
  refine lv_iload_n hx hb dX7_demandStrike_0 rfl (lv_at hl 1 rfl) ?_
  refine rdS C hE hP (kX7_isWay l D T p0) mX7_isWay qLX7_401 [] rfl ⟨rfl, rfl⟩ ⟨Nat.le_of_ble_eq_true rfl, Nat.le_of_ble_eq_true rfl⟩ rfl hl.1 rfl (Nat.le_of_ble_eq_true rfl) dX7_demandStrike_1 ⟨Nat.le_of_ble_eq_true rfl, Nat.le_of_ble_eq_true rfl⟩ ?_
  refine lv_if_eq (tgt := 14) hx hb dX7_demandStrike_4 (by decide) (fun c1 => ?_) (fun c1 => ?_)
  · replace h := ite_t c1 h
    exact lX7_demandStrike_n_14 C hE hA hret ⟨hP, hD⟩ hS _ (lv_sub hl [] rfl) h
  · replace h := ite_f c1 h
    refine lv_iload_n hx hb dX7_demandStrike_7 rfl (lv_at hl 2 rfl) ?_
    refine rdS C hE hP (kX7_isForce l D T p1) mX7_isForce qLX7_404 [] rfl ⟨rfl, rfl⟩ ⟨Nat.le_of_ble_eq_true rfl, Nat.le_of_ble_eq_true rfl⟩ rfl hl.1 rfl (Nat.le_of_ble_eq_true rfl) dX7_demandStrike_8 ⟨Nat.le_of_ble_eq_true rfl, Nat.le_of_ble_eq_true rfl⟩ ?_
    refine lv_if_ne (tgt := 25) hx hb dX7_demandStrike_11 (by decide) (fun c2 => ?_) (fun c2 => ?_)
    · replace h := ite_f c2 h
      replace h := Option.some.inj h
      exact hret _ _ _ _ dX7_demandStrike_25 hP hS
    · replace h := ite_t c2 h
      exact lX7_demandStrike_n_14 C hE hA hret ⟨hP, hD⟩ hS _ (lv_sub hl [] rfl) h

def fX7_would_n (f_net : Int32) (v_gw : Nat → Int32) (v_gk : Nat → Int32) (p0 : Int32) (p1 : Int32) (p2 : Int32) : Option (Int32 × Int32) :=
  (fX7_demandWhale_n v_gk p0).bind fun q1 =>
  (fX7_demandStrike_n p1 p2).bind fun q3 =>
  (fX0_endByCells f_net v_gw v_gk p0 p1 p2).bind fun q5 =>
  some (q5.1, q5.2)
set_option maxHeartbeats 4000000 in
set_option maxRecDepth 100000 in
theorem kX7_would_n (l : Launch) (D : va_G) (T : Nat → ClassId) (a_g a_gw a_gk a_f a_x a_b a_v a_h a_r a_u a_t a_n : Nat) (f_net : Int32) (x_sav : Int32) (x_err : Int32) (x_rea : Int32) (x_det : Int32) (x_com : Int32) (v_gw : Nat → Int32) (v_gk : Nat → Int32) (p0 : Int32) (p1 : Int32) (p2 : Int32) (sz : Nat) (r : Int32 × Int32) (h : fX7_would_n f_net v_gw v_gk p0 p1 p2 = some r) : WrI l yX7_would cX7_would 4 .int ({ frames := 5, cells := 0, slots := 0, locals := 113 } : Room) D T sz [(a_g, .inr (1, [.ref a_gw, .ref a_gk])), (a_f, .inr (0, [.ref a_g, .int f_net])), (a_x, .inr (7, [.ref a_g, .ref a_b, .ref a_v, .ref a_h, .ref a_r, .ref a_f, .ref a_u, .ref a_t, .ref a_n, .int x_sav, .int x_err, .int x_rea, .int x_det, .int x_com])), (a_gw, .inl (T 0, 90, .inl v_gw)), (a_gk, .inl (T 0, 18, .inl v_gk))] [(a_g, .inr (1, [.ref a_gw, .ref a_gk])), (a_f, .inr (0, [.ref a_g, .int r.2])), (a_x, .inr (7, [.ref a_g, .ref a_b, .ref a_v, .ref a_h, .ref a_r, .ref a_f, .ref a_u, .ref a_t, .ref a_n, .int x_sav, .int x_err, .int x_rea, .int x_det, .int x_com])), (a_gw, .inl (T 0, 90, .inl v_gw)), (a_gk, .inl (T 0, 18, .inl v_gk))] [.ref a_x, .int p0, .int p1, .int p2] r.1 := by
  unfold fX7_would_n at h
  refine wrMet (by decide +kernel) rfl (fun p e s m args below meth c Q A C hE hA hP hD hS hret ls hl => ?_)
  have hx := C.1
  have hb := C.2.1
  have hl : lv_has ls 4 [(0, .ref a_x), (1, .int p0), (2, .int p1), (3, .int p2)] := hl
  refine lv_aload_n hx hb dX7_would_0 rfl (lv_at hl 0 rfl) ?_
  refine lv_iload_n hx hb dX7_would_1 rfl (lv_at hl 1 rfl) ?_
  replace h := bnd h; obtain ⟨q1, e2, h⟩ := h
  refine wrVv (ws1 := [(a_g, .inr (1, [.ref a_gw, .ref a_gk])), (a_f, .inr (0, [.ref a_g, .int f_net])), (a_x, .inr (7, [.ref a_g, .ref a_b, .ref a_v, .ref a_h, .ref a_r, .ref a_f, .ref a_u, .ref a_t, .ref a_n, .int x_sav, .int x_err, .int x_rea, .int x_det, .int x_com])), (a_gw, .inl (T 0, 90, .inl v_gw)), (a_gk, .inl (T 0, 18, .inl v_gk))]) C hE hP hD hS hA (kX7_demandWhale_n l D T a_g a_gw a_gk a_x a_b a_v a_h a_r a_f a_u a_t a_n x_sav x_err x_rea x_det x_com v_gk p0 _ q1 e2) mX7_demandWhale qLX7_138 [0, 2, 4] [1, 3] 2 rfl rfl rfl rfl rfl rfl rfl rfl rfl ⟨rfl, rfl⟩ ⟨Nat.le_of_ble_eq_true rfl, Nat.le_of_ble_eq_true rfl⟩ rfl hl.1 rfl (Nat.le_of_ble_eq_true rfl) dX7_would_2 ⟨Nat.le_of_ble_eq_true rfl, Nat.le_of_ble_eq_true rfl⟩ ?_; clear hP hD hS; intro H locs hP hD hS
  refine lv_aload_n hx hb dX7_would_5 rfl (lv_at hl 0 rfl) ?_
  refine lv_iload_n hx hb dX7_would_6 rfl (lv_at hl 2 rfl) ?_
  refine lv_iload_n hx hb dX7_would_7 rfl (lv_at hl 3 rfl) ?_
  replace h := bnd h; obtain ⟨q3, e4, h⟩ := h
  refine wrVv (ws1 := [(a_g, .inr (1, [.ref a_gw, .ref a_gk])), (a_f, .inr (0, [.ref a_g, .int f_net])), (a_x, .inr (7, [.ref a_g, .ref a_b, .ref a_v, .ref a_h, .ref a_r, .ref a_f, .ref a_u, .ref a_t, .ref a_n, .int x_sav, .int x_err, .int x_rea, .int x_det, .int x_com])), (a_gw, .inl (T 0, 90, .inl v_gw)), (a_gk, .inl (T 0, 18, .inl v_gk))]) C hE hP hD hS hA (kX7_demandStrike_n l D T a_x p1 p2 _ q3 e4) mX7_demandStrike qLX7_214 [] [0, 1, 2, 3, 4] 2 rfl rfl rfl rfl rfl rfl rfl rfl rfl ⟨rfl, rfl⟩ ⟨Nat.le_of_ble_eq_true rfl, Nat.le_of_ble_eq_true rfl⟩ rfl hl.1 rfl (Nat.le_of_ble_eq_true rfl) dX7_would_8 ⟨Nat.le_of_ble_eq_true rfl, Nat.le_of_ble_eq_true rfl⟩ ?_; clear hP hD hS; intro H locs hP hD hS
  refine lv_aload_n hx hb dX7_would_11 rfl (lv_at hl 0 rfl) ?_
  refine getF (q0 := 2) (k0 := 5) (v := .ref a_f) C hE hP inA7 rfl rfl (by decide) qFX7_41 rfl rfl dX7_would_12 ?_
  refine lv_iload_n hx hb dX7_would_15 rfl (lv_at hl 1 rfl) ?_
  refine lv_iload_n hx hb dX7_would_16 rfl (lv_at hl 2 rfl) ?_
  refine lv_iload_n hx hb dX7_would_17 rfl (lv_at hl 3 rfl) ?_
  replace h := bnd h; obtain ⟨q5, e6, h⟩ := h
  refine wrVi (ws1 := [(a_g, .inr (1, [.ref a_gw, .ref a_gk])), (a_f, .inr (0, [.ref a_g, .int q5.2])), (a_x, .inr (7, [.ref a_g, .ref a_b, .ref a_v, .ref a_h, .ref a_r, .ref a_f, .ref a_u, .ref a_t, .ref a_n, .int x_sav, .int x_err, .int x_rea, .int x_det, .int x_com])), (a_gw, .inl (T 0, 90, .inl v_gw)), (a_gk, .inl (T 0, 18, .inl v_gk))]) C hE hP hD hS hA (kX0_endByCells l D T a_g a_gw a_gk a_f f_net v_gw v_gk p0 p1 p2 _ q5 e6) mX0_endByCells qLX7_218 [0, 1, 3, 4] [2] 1 rfl rfl rfl rfl rfl rfl rfl rfl rfl ⟨rfl, rfl⟩ ⟨Nat.le_of_ble_eq_true rfl, Nat.le_of_ble_eq_true rfl⟩ rfl hl.1 rfl (Nat.le_of_ble_eq_true rfl) dX7_would_18 ⟨Nat.le_of_ble_eq_true rfl, Nat.le_of_ble_eq_true rfl⟩ ?_; clear hP hD hS; intro H locs hP hD hS
  replace h := Option.some.inj h
  exact hret _ _ _ _ _ _ dX7_would_21 rfl (by rw [← h] <;> rfl) (by rw [← h]; exact hP) hS

def fX7_account_n_10 (t_len : Int32) (h_siz : Int32) (v_gw : Nat → Int32) (v_gk : Nat → Int32) : Option Int32 :=
  none
def fX7_account_n (t_len : Int32) (h_siz : Int32) (v_gw : Nat → Int32) (v_gk : Nat → Int32) (p0 : Int32) : Option Int32 :=
  if p0 < 0 then
    fX7_account_n_10 t_len h_siz v_gw v_gk
  else
    if p0 < 14 then
      if p0 = 2 then
        (fX1_count v_gk 1).bind fun q4 =>
        some (q4 / 12)
      else
        if p0 = 10 then
          (fX1_countPlaying v_gw v_gk 0).bind fun q7 =>
          (fX1_countPlaying v_gw v_gk 1).bind fun q9 =>
          some (q7 + q9)
        else
          if p0 = 12 then
            some (fX5_length t_len)
          else
            if p0 = 13 then
              some (fX2_size h_siz)
            else
              (fX1_count v_gk p0).bind fun q13 =>
              some q13
    else
      fX7_account_n_10 t_len h_siz v_gw v_gk
set_option maxHeartbeats 4000000 in
set_option maxRecDepth 100000 in
theorem lX7_account_n_10 {p : Program} {l : Launch} {e : Env} {s : State} {m : MethodId} {args : Array Value} {below : List Frame} {meth : Method} {c : Code} {Q : State → Prop} {D : va_G} {T : Nat → ClassId} {a_g a_gw a_gk a_t a_ti a_tn a_h a_hp a_x a_b a_v a_r a_f a_u a_n : Nat} {t_len : Int32} {t_cur : Int32} {t_kin : Int32} {t_tol : Int32} {t_don : Int32} {h_old : Int32} {h_siz : Int32} {x_sav : Int32} {x_err : Int32} {x_rea : Int32} {x_det : Int32} {x_com : Int32} {v_gw : Nat → Int32} {v_gk : Nat → Int32} {A : Nat → Prop} {r : Int32} (C : CallFix p m c cX7_account 2 s args aw RX7) (hE : eK D T s) (hA : ∀ q : Nat, s.heap.size ≤ q → A q) (hret : WrRet p l e ({ frames := 3, cells := 0, slots := 0, locals := 67 } : Room) s m args below meth c Q cX7_account .int D A [(a_g, .inr (1, [.ref a_gw, .ref a_gk])), (a_t, .inr (5, [.ref a_ti, .ref a_tn, .int t_len, .int t_cur, .int t_kin, .int t_tol, .int t_don])), (a_h, .inr (2, [.ref a_hp, .int h_old, .int h_siz])), (a_x, .inr (7, [.ref a_g, .ref a_b, .ref a_v, .ref a_h, .ref a_r, .ref a_f, .ref a_u, .ref a_t, .ref a_n, .int x_sav, .int x_err, .int x_rea, .int x_det, .int x_com])), (a_gw, .inl (T 0, 90, .inl v_gw)), (a_gk, .inl (T 0, 18, .inl v_gk))] r) {H : Heap} {locs : List Loc} (hPD : va_PD D A [(a_g, .inr (1, [.ref a_gw, .ref a_gk])), (a_t, .inr (5, [.ref a_ti, .ref a_tn, .int t_len, .int t_cur, .int t_kin, .int t_tol, .int t_don])), (a_h, .inr (2, [.ref a_hp, .int h_old, .int h_siz])), (a_x, .inr (7, [.ref a_g, .ref a_b, .ref a_v, .ref a_h, .ref a_r, .ref a_f, .ref a_u, .ref a_t, .ref a_n, .int x_sav, .int x_err, .int x_rea, .int x_det, .int x_com])), (a_gw, .inl (T 0, 90, .inl v_gw)), (a_gk, .inl (T 0, 18, .inl v_gk))] H) (hS : va_S A s.heap H locs) (ls : Array Slot) (hl : lv_has ls 2 []) (h : fX7_account_n_10 t_len h_siz v_gw v_gk = some r) : W p l e ({ frames := 3, cells := 0, slots := 0, locals := 67 } : Room) s m args below meth c H locs 0 0 Q (F0 m 10 ls []) := by
  have hx := C.1
  have hb := C.2.1
  obtain ⟨hP, hD⟩ := hPD
  unfold fX7_account_n_10 at h
  exact nomatch h
set_option maxHeartbeats 4000000 in
set_option maxRecDepth 100000 in
theorem kX7_account_n (l : Launch) (D : va_G) (T : Nat → ClassId) (a_g a_gw a_gk a_t a_ti a_tn a_h a_hp a_x a_b a_v a_r a_f a_u a_n : Nat) (t_len : Int32) (t_cur : Int32) (t_kin : Int32) (t_tol : Int32) (t_don : Int32) (h_old : Int32) (h_siz : Int32) (x_sav : Int32) (x_err : Int32) (x_rea : Int32) (x_det : Int32) (x_com : Int32) (v_gw : Nat → Int32) (v_gk : Nat → Int32) (p0 : Int32) (sz : Nat) (r : Int32) (h : fX7_account_n t_len h_siz v_gw v_gk p0 = some r) : WrI l yX7_account cX7_account 2 .int ({ frames := 3, cells := 0, slots := 0, locals := 67 } : Room) D T sz [(a_g, .inr (1, [.ref a_gw, .ref a_gk])), (a_t, .inr (5, [.ref a_ti, .ref a_tn, .int t_len, .int t_cur, .int t_kin, .int t_tol, .int t_don])), (a_h, .inr (2, [.ref a_hp, .int h_old, .int h_siz])), (a_x, .inr (7, [.ref a_g, .ref a_b, .ref a_v, .ref a_h, .ref a_r, .ref a_f, .ref a_u, .ref a_t, .ref a_n, .int x_sav, .int x_err, .int x_rea, .int x_det, .int x_com])), (a_gw, .inl (T 0, 90, .inl v_gw)), (a_gk, .inl (T 0, 18, .inl v_gk))] [(a_g, .inr (1, [.ref a_gw, .ref a_gk])), (a_t, .inr (5, [.ref a_ti, .ref a_tn, .int t_len, .int t_cur, .int t_kin, .int t_tol, .int t_don])), (a_h, .inr (2, [.ref a_hp, .int h_old, .int h_siz])), (a_x, .inr (7, [.ref a_g, .ref a_b, .ref a_v, .ref a_h, .ref a_r, .ref a_f, .ref a_u, .ref a_t, .ref a_n, .int x_sav, .int x_err, .int x_rea, .int x_det, .int x_com])), (a_gw, .inl (T 0, 90, .inl v_gw)), (a_gk, .inl (T 0, 18, .inl v_gk))] [.ref a_x, .int p0] r := by
  unfold fX7_account_n at h
  refine wrMet (by decide +kernel) rfl (fun p e s m args below meth c Q A C hE hA hP hD hS hret ls hl => ?_)
  have hx := C.1
  have hb := C.2.1
  have hl : lv_has ls 2 [(0, .ref a_x), (1, .int p0)] := hl
  refine lv_iload_n hx hb dX7_account_0 rfl (lv_at hl 1 rfl) ?_
  refine lv_if_lt (tgt := 10) hx hb dX7_account_1 (by decide) (fun c1 => ?_) (fun c1 => ?_)
  · replace h := ite_t c1 h
    exact lX7_account_n_10 C hE hA hret ⟨hP, hD⟩ hS _ (lv_sub hl [] rfl) h
  · replace h := ite_f c1 h
    refine lv_iload_n hx hb dX7_account_4 rfl (lv_at hl 1 rfl) ?_
    refine lv_bipush (v := 14) hx hb dX7_account_5 (by decide) ?_
    refine lv_icmp_lt (tgt := 21) hx hb dX7_account_7 (by decide) (fun c2 => ?_) (fun c2 => ?_)
    · replace h := ite_t c2 h
      refine lv_iload_n hx hb dX7_account_21 rfl (lv_at hl 1 rfl) ?_
      by_cases c3 : p0 = 2
      · replace h := ite_t c3 h
        refine lv_lookup (off := 42) (tgt := 64) hx hb dX7_account_22 (by decide) (by rw [c3] <;> rfl) (by decide) ?_
        refine lv_aload_n hx hb dX7_account_64 rfl (lv_at hl 0 rfl) ?_
        refine getF (q0 := 3) (k0 := 0) (v := .ref a_g) C hE hP inA7 rfl rfl (by decide) qFX7_10 rfl rfl dX7_account_65 ?_
        refine lv_iconst (v := 1) hx hb dX7_account_68 (by decide) ?_
        replace h := bnd h; obtain ⟨q4, e5, h⟩ := h
        refine rdV C hE hP (kX1_count l D T a_g a_gw a_gk v_gk 1 q4 e5) mX1_count qLX7_235 [0, 5] 0 rfl rfl rfl rfl ⟨rfl, rfl⟩ ⟨Nat.le_of_ble_eq_true rfl, Nat.le_of_ble_eq_true rfl⟩ rfl hl.1 rfl (Nat.le_of_ble_eq_true rfl) dX7_account_69 ⟨Nat.le_of_ble_eq_true rfl, Nat.le_of_ble_eq_true rfl⟩ ?_
        refine lv_bipush (v := 12) hx hb dX7_account_72 (by decide) ?_
        refine lv_idiv hx hb dX7_account_74 (by decide) ?_
        replace h := Option.some.inj h
        exact hret _ _ _ _ _ _ dX7_account_75 rfl (by rw [← h] <;> rfl) hP hS
      · replace h := ite_f c3 h
        by_cases c6 : p0 = 10
        · replace h := ite_t c6 h
          refine lv_lookup (off := 54) (tgt := 76) hx hb dX7_account_22 (by decide) (by rw [c6] <;> rfl) (by decide) ?_
          refine lv_aload_n hx hb dX7_account_76 rfl (lv_at hl 0 rfl) ?_
          refine getF (q0 := 3) (k0 := 0) (v := .ref a_g) C hE hP inA7 rfl rfl (by decide) qFX7_10 rfl rfl dX7_account_77 ?_
          refine lv_iconst (v := 0) hx hb dX7_account_80 (by decide) ?_
          replace h := bnd h; obtain ⟨q7, e8, h⟩ := h
          refine rdV C hE hP (kX1_countPlaying l D T a_g a_gw a_gk v_gw v_gk 0 q7 e8) mX1_countPlaying qLX7_305 [0, 4, 5] 0 rfl rfl rfl rfl ⟨rfl, rfl⟩ ⟨Nat.le_of_ble_eq_true rfl, Nat.le_of_ble_eq_true rfl⟩ rfl hl.1 rfl (Nat.le_of_ble_eq_true rfl) dX7_account_81 ⟨Nat.le_of_ble_eq_true rfl, Nat.le_of_ble_eq_true rfl⟩ ?_
          refine lv_aload_n hx hb dX7_account_84 rfl (lv_at hl 0 rfl) ?_
          refine getF (q0 := 3) (k0 := 0) (v := .ref a_g) C hE hP inA7 rfl rfl (by decide) qFX7_10 rfl rfl dX7_account_85 ?_
          refine lv_iconst (v := 1) hx hb dX7_account_88 (by decide) ?_
          replace h := bnd h; obtain ⟨q9, e10, h⟩ := h
          refine rdV C hE hP (kX1_countPlaying l D T a_g a_gw a_gk v_gw v_gk 1 q9 e10) mX1_countPlaying qLX7_305 [0, 4, 5] 0 rfl rfl rfl rfl ⟨rfl, rfl⟩ ⟨Nat.le_of_ble_eq_true rfl, Nat.le_of_ble_eq_true rfl⟩ rfl hl.1 rfl (Nat.le_of_ble_eq_true rfl) dX7_account_89 ⟨Nat.le_of_ble_eq_true rfl, Nat.le_of_ble_eq_true rfl⟩ ?_
          refine lv_iadd hx hb dX7_account_92 ?_
          replace h := Option.some.inj h
          exact hret _ _ _ _ _ _ dX7_account_93 rfl (by rw [← h] <;> rfl) hP hS
        · replace h := ite_f c6 h
          by_cases c11 : p0 = 12
          · replace h := ite_t c11 h
            refine lv_lookup (off := 72) (tgt := 94) hx hb dX7_account_22 (by decide) (by rw [c11] <;> rfl) (by decide) ?_
            refine lv_aload_n hx hb dX7_account_94 rfl (lv_at hl 0 rfl) ?_
            refine getF (q0 := 3) (k0 := 7) (v := .ref a_t) C hE hP inA7 rfl rfl (by decide) qFX7_57 rfl rfl dX7_account_95 ?_
            refine rdV C hE hP (kX5_length l D T a_t a_ti a_tn t_len t_cur t_kin t_tol t_don) mX5_length qLX7_308 [1] 1 rfl rfl rfl rfl ⟨rfl, rfl⟩ ⟨Nat.le_of_ble_eq_true rfl, Nat.le_of_ble_eq_true rfl⟩ rfl hl.1 rfl (Nat.le_of_ble_eq_true rfl) dX7_account_98 ⟨Nat.le_of_ble_eq_true rfl, Nat.le_of_ble_eq_true rfl⟩ ?_
            replace h := Option.some.inj h
            exact hret _ _ _ _ _ _ dX7_account_101 rfl (by rw [← h] <;> rfl) hP hS
          · replace h := ite_f c11 h
            by_cases c12 : p0 = 13
            · replace h := ite_t c12 h
              refine lv_lookup (off := 80) (tgt := 102) hx hb dX7_account_22 (by decide) (by rw [c12] <;> rfl) (by decide) ?_
              refine lv_aload_n hx hb dX7_account_102 rfl (lv_at hl 0 rfl) ?_
              refine getF (q0 := 3) (k0 := 3) (v := .ref a_h) C hE hP inA7 rfl rfl (by decide) qFX7_25 rfl rfl dX7_account_103 ?_
              refine rdV C hE hP (kX2_size l D T a_h a_hp h_old h_siz) mX2_size qLX7_309 [2] 2 rfl rfl rfl rfl ⟨rfl, rfl⟩ ⟨Nat.le_of_ble_eq_true rfl, Nat.le_of_ble_eq_true rfl⟩ rfl hl.1 rfl (Nat.le_of_ble_eq_true rfl) dX7_account_106 ⟨Nat.le_of_ble_eq_true rfl, Nat.le_of_ble_eq_true rfl⟩ ?_
              replace h := Option.some.inj h
              exact hret _ _ _ _ _ _ dX7_account_109 rfl (by rw [← h] <;> rfl) hP hS
            · replace h := ite_f c12 h
              refine lv_lookup (off := 88) (tgt := 110) hx hb dX7_account_22 (by decide) (by show Op.lookupswitch.offset [(2, 42), (10, 54), (12, 72), (13, 80)] 88 _ = _; rw [lv_osw (a := 2) c3 rfl, lv_osw (a := 10) c6 rfl, lv_osw (a := 12) c11 rfl, lv_osw (a := 13) c12 rfl] <;> rfl) (by decide) ?_
              refine lv_aload_n hx hb dX7_account_110 rfl (lv_at hl 0 rfl) ?_
              refine getF (q0 := 3) (k0 := 0) (v := .ref a_g) C hE hP inA7 rfl rfl (by decide) qFX7_10 rfl rfl dX7_account_111 ?_
              refine lv_iload_n hx hb dX7_account_114 rfl (lv_at hl 1 rfl) ?_
              replace h := bnd h; obtain ⟨q13, e14, h⟩ := h
              refine rdV C hE hP (kX1_count l D T a_g a_gw a_gk v_gk p0 q13 e14) mX1_count qLX7_235 [0, 5] 0 rfl rfl rfl rfl ⟨rfl, rfl⟩ ⟨Nat.le_of_ble_eq_true rfl, Nat.le_of_ble_eq_true rfl⟩ rfl hl.1 rfl (Nat.le_of_ble_eq_true rfl) dX7_account_115 ⟨Nat.le_of_ble_eq_true rfl, Nat.le_of_ble_eq_true rfl⟩ ?_
              replace h := Option.some.inj h
              exact hret _ _ _ _ _ _ dX7_account_118 rfl (by rw [← h] <;> rfl) hP hS
    · replace h := ite_f c2 h
      exact lX7_account_n_10 C hE hA hret ⟨hP, hD⟩ hS _ (lv_sub hl [] rfl) h

def fX7_whaleOf_n_15 (v_gw : Nat → Int32) (v_gk : Nat → Int32) : Option Int32 :=
  none
def fX7_whaleOf_n (v_gw : Nat → Int32) (v_gk : Nat → Int32) (p0 : Int32) (p1 : Int32) : Option Int32 :=
  (fX7_demandWhale_n v_gk p0).bind fun q1 =>
  if p1 < 0 then
    fX7_whaleOf_n_15 v_gw v_gk
  else
    if p1 < 9 then
      (fX1_of v_gw p0 p1).bind fun q5 =>
      some q5
    else
      fX7_whaleOf_n_15 v_gw v_gk
set_option maxHeartbeats 4000000 in
set_option maxRecDepth 100000 in
theorem lX7_whaleOf_n_15 {p : Program} {l : Launch} {e : Env} {s : State} {m : MethodId} {args : Array Value} {below : List Frame} {meth : Method} {c : Code} {Q : State → Prop} {D : va_G} {T : Nat → ClassId} {a_g a_gw a_gk a_x a_b a_v a_h a_r a_f a_u a_t a_n : Nat} {x_sav : Int32} {x_err : Int32} {x_rea : Int32} {x_det : Int32} {x_com : Int32} {v_gw : Nat → Int32} {v_gk : Nat → Int32} {A : Nat → Prop} {r : Int32} (C : CallFix p m c cX7_whaleOf 3 s args aw RX7) (hE : eK D T s) (hA : ∀ q : Nat, s.heap.size ≤ q → A q) (hret : WrRet p l e ({ frames := 3, cells := 0, slots := 0, locals := 63 } : Room) s m args below meth c Q cX7_whaleOf .int D A [(a_g, .inr (1, [.ref a_gw, .ref a_gk])), (a_x, .inr (7, [.ref a_g, .ref a_b, .ref a_v, .ref a_h, .ref a_r, .ref a_f, .ref a_u, .ref a_t, .ref a_n, .int x_sav, .int x_err, .int x_rea, .int x_det, .int x_com])), (a_gw, .inl (T 0, 90, .inl v_gw)), (a_gk, .inl (T 0, 18, .inl v_gk))] r) {H : Heap} {locs : List Loc} (hPD : va_PD D A [(a_g, .inr (1, [.ref a_gw, .ref a_gk])), (a_x, .inr (7, [.ref a_g, .ref a_b, .ref a_v, .ref a_h, .ref a_r, .ref a_f, .ref a_u, .ref a_t, .ref a_n, .int x_sav, .int x_err, .int x_rea, .int x_det, .int x_com])), (a_gw, .inl (T 0, 90, .inl v_gw)), (a_gk, .inl (T 0, 18, .inl v_gk))] H) (hS : va_S A s.heap H locs) (ls : Array Slot) (hl : lv_has ls 3 []) (h : fX7_whaleOf_n_15 v_gw v_gk = some r) : W p l e ({ frames := 3, cells := 0, slots := 0, locals := 63 } : Room) s m args below meth c H locs 0 0 Q (F0 m 15 ls []) := by
  have hx := C.1
  have hb := C.2.1
  obtain ⟨hP, hD⟩ := hPD
  unfold fX7_whaleOf_n_15 at h
  exact nomatch h
set_option maxHeartbeats 4000000 in
set_option maxRecDepth 100000 in
theorem kX7_whaleOf_n (l : Launch) (D : va_G) (T : Nat → ClassId) (a_g a_gw a_gk a_x a_b a_v a_h a_r a_f a_u a_t a_n : Nat) (x_sav : Int32) (x_err : Int32) (x_rea : Int32) (x_det : Int32) (x_com : Int32) (v_gw : Nat → Int32) (v_gk : Nat → Int32) (p0 : Int32) (p1 : Int32) (sz : Nat) (r : Int32) (h : fX7_whaleOf_n v_gw v_gk p0 p1 = some r) : WrI l yX7_whaleOf cX7_whaleOf 3 .int ({ frames := 3, cells := 0, slots := 0, locals := 63 } : Room) D T sz [(a_g, .inr (1, [.ref a_gw, .ref a_gk])), (a_x, .inr (7, [.ref a_g, .ref a_b, .ref a_v, .ref a_h, .ref a_r, .ref a_f, .ref a_u, .ref a_t, .ref a_n, .int x_sav, .int x_err, .int x_rea, .int x_det, .int x_com])), (a_gw, .inl (T 0, 90, .inl v_gw)), (a_gk, .inl (T 0, 18, .inl v_gk))] [(a_g, .inr (1, [.ref a_gw, .ref a_gk])), (a_x, .inr (7, [.ref a_g, .ref a_b, .ref a_v, .ref a_h, .ref a_r, .ref a_f, .ref a_u, .ref a_t, .ref a_n, .int x_sav, .int x_err, .int x_rea, .int x_det, .int x_com])), (a_gw, .inl (T 0, 90, .inl v_gw)), (a_gk, .inl (T 0, 18, .inl v_gk))] [.ref a_x, .int p0, .int p1] r := by
  unfold fX7_whaleOf_n at h
  refine wrMet (by decide +kernel) rfl (fun p e s m args below meth c Q A C hE hA hP hD hS hret ls hl => ?_)
  have hx := C.1
  have hb := C.2.1
  have hl : lv_has ls 3 [(0, .ref a_x), (1, .int p0), (2, .int p1)] := hl
  refine lv_aload_n hx hb dX7_whaleOf_0 rfl (lv_at hl 0 rfl) ?_
  refine lv_iload_n hx hb dX7_whaleOf_1 rfl (lv_at hl 1 rfl) ?_
  replace h := bnd h; obtain ⟨q1, e2, h⟩ := h
  refine wrVv (ws1 := [(a_g, .inr (1, [.ref a_gw, .ref a_gk])), (a_x, .inr (7, [.ref a_g, .ref a_b, .ref a_v, .ref a_h, .ref a_r, .ref a_f, .ref a_u, .ref a_t, .ref a_n, .int x_sav, .int x_err, .int x_rea, .int x_det, .int x_com])), (a_gw, .inl (T 0, 90, .inl v_gw)), (a_gk, .inl (T 0, 18, .inl v_gk))]) C hE hP hD hS hA (kX7_demandWhale_n l D T a_g a_gw a_gk a_x a_b a_v a_h a_r a_f a_u a_t a_n x_sav x_err x_rea x_det x_com v_gk p0 _ q1 e2) mX7_demandWhale qLX7_138 [0, 1, 3] [2] 1 rfl rfl rfl rfl rfl rfl rfl rfl rfl ⟨rfl, rfl⟩ ⟨Nat.le_of_ble_eq_true rfl, Nat.le_of_ble_eq_true rfl⟩ rfl hl.1 rfl (Nat.le_of_ble_eq_true rfl) dX7_whaleOf_2 ⟨Nat.le_of_ble_eq_true rfl, Nat.le_of_ble_eq_true rfl⟩ ?_; clear hP hD hS; intro H locs hP hD hS
  refine lv_iload_n hx hb dX7_whaleOf_5 rfl (lv_at hl 2 rfl) ?_
  refine lv_if_lt (tgt := 15) hx hb dX7_whaleOf_6 (by decide) (fun c3 => ?_) (fun c3 => ?_)
  · replace h := ite_t c3 h
    exact lX7_whaleOf_n_15 C hE hA hret ⟨hP, hD⟩ hS _ (lv_sub hl [] rfl) h
  · replace h := ite_f c3 h
    refine lv_iload_n hx hb dX7_whaleOf_9 rfl (lv_at hl 2 rfl) ?_
    refine lv_bipush (v := 9) hx hb dX7_whaleOf_10 (by decide) ?_
    refine lv_icmp_lt (tgt := 25) hx hb dX7_whaleOf_12 (by decide) (fun c4 => ?_) (fun c4 => ?_)
    · replace h := ite_t c4 h
      refine lv_aload_n hx hb dX7_whaleOf_25 rfl (lv_at hl 0 rfl) ?_
      refine getF (q0 := 1) (k0 := 0) (v := .ref a_g) C hE hP inA7 rfl rfl (by decide) qFX7_10 rfl rfl dX7_whaleOf_26 ?_
      refine lv_iload_n hx hb dX7_whaleOf_29 rfl (lv_at hl 1 rfl) ?_
      refine lv_iload_n hx hb dX7_whaleOf_30 rfl (lv_at hl 2 rfl) ?_
      replace h := bnd h; obtain ⟨q5, e6, h⟩ := h
      refine rdV C hE hP (kX1_of l D T a_g a_gw a_gk v_gw p0 p1 q5 e6) mX1_of qLX7_148 [0, 2] 0 rfl rfl rfl rfl ⟨rfl, rfl⟩ ⟨Nat.le_of_ble_eq_true rfl, Nat.le_of_ble_eq_true rfl⟩ rfl hl.1 rfl (Nat.le_of_ble_eq_true rfl) dX7_whaleOf_31 ⟨Nat.le_of_ble_eq_true rfl, Nat.le_of_ble_eq_true rfl⟩ ?_
      replace h := Option.some.inj h
      exact hret _ _ _ _ _ _ dX7_whaleOf_34 rfl (by rw [← h] <;> rfl) hP hS
    · replace h := ite_f c4 h
      exact lX7_whaleOf_n_15 C hE hA hret ⟨hP, hD⟩ hS _ (lv_sub hl [] rfl) h

def fX7_demandCell_n (p0 : Int32) : Option Unit :=
  if (fX7_isCell p0) = 0 then
    none
  else
    some ()
set_option maxHeartbeats 4000000 in
set_option maxRecDepth 100000 in
theorem kX7_demandCell_n (l : Launch) (D : va_G) (T : Nat → ClassId) (a_x : Nat) (p0 : Int32) (sz : Nat) (r : Unit) (h : fX7_demandCell_n p0 = some r) : WrV l yX7_demandCell cX7_demandCell 2 ({ frames := 1, cells := 0, slots := 0, locals := 20 } : Room) D T sz [] [] [.ref a_x, .int p0] := by
  unfold fX7_demandCell_n at h
  refine wrMetV (by decide +kernel) rfl (fun p e s m args below meth c Q A C hE hA hP hD hS hret ls hl => ?_)
  have hx := C.1
  have hb := C.2.1
  have hl : lv_has ls 2 [(0, .ref a_x), (1, .int p0)] := hl
  refine lv_iload_n hx hb dX7_demandCell_0 rfl (lv_at hl 1 rfl) ?_
  refine rdS C hE hP (kX7_isCell l D T p0) mX7_isCell qLX7_389 [] rfl ⟨rfl, rfl⟩ ⟨Nat.le_of_ble_eq_true rfl, Nat.le_of_ble_eq_true rfl⟩ rfl hl.1 rfl (Nat.le_of_ble_eq_true rfl) dX7_demandCell_1 ⟨Nat.le_of_ble_eq_true rfl, Nat.le_of_ble_eq_true rfl⟩ ?_
  refine lv_if_ne (tgt := 18) hx hb dX7_demandCell_4 (by decide) (fun c1 => ?_) (fun c1 => ?_)
  · replace h := ite_f c1 h
    replace h := Option.some.inj h
    exact hret _ _ _ _ dX7_demandCell_18 hP hS
  · replace h := ite_t c1 h
    exact nomatch h

def fX7_at_n (v_gw : Nat → Int32) (v_gk : Nat → Int32) (p0 : Int32) : Option Int32 :=
  (fX7_demandCell_n p0).bind fun q1 =>
  (fX1_whaleOn v_gw v_gk p0).bind fun q3 =>
  some q3
set_option maxHeartbeats 4000000 in
set_option maxRecDepth 100000 in
theorem kX7_at_n (l : Launch) (D : va_G) (T : Nat → ClassId) (a_g a_gw a_gk a_x a_b a_v a_h a_r a_f a_u a_t a_n : Nat) (x_sav : Int32) (x_err : Int32) (x_rea : Int32) (x_det : Int32) (x_com : Int32) (v_gw : Nat → Int32) (v_gk : Nat → Int32) (p0 : Int32) (sz : Nat) (r : Int32) (h : fX7_at_n v_gw v_gk p0 = some r) : WrI l yX7_at cX7_at 2 .int ({ frames := 2, cells := 0, slots := 0, locals := 45 } : Room) D T sz [(a_g, .inr (1, [.ref a_gw, .ref a_gk])), (a_x, .inr (7, [.ref a_g, .ref a_b, .ref a_v, .ref a_h, .ref a_r, .ref a_f, .ref a_u, .ref a_t, .ref a_n, .int x_sav, .int x_err, .int x_rea, .int x_det, .int x_com])), (a_gw, .inl (T 0, 90, .inl v_gw)), (a_gk, .inl (T 0, 18, .inl v_gk))] [(a_g, .inr (1, [.ref a_gw, .ref a_gk])), (a_x, .inr (7, [.ref a_g, .ref a_b, .ref a_v, .ref a_h, .ref a_r, .ref a_f, .ref a_u, .ref a_t, .ref a_n, .int x_sav, .int x_err, .int x_rea, .int x_det, .int x_com])), (a_gw, .inl (T 0, 90, .inl v_gw)), (a_gk, .inl (T 0, 18, .inl v_gk))] [.ref a_x, .int p0] r := by
  unfold fX7_at_n at h
  refine wrMet (by decide +kernel) rfl (fun p e s m args below meth c Q A C hE hA hP hD hS hret ls hl => ?_)
  have hx := C.1
  have hb := C.2.1
  have hl : lv_has ls 2 [(0, .ref a_x), (1, .int p0)] := hl
  refine lv_aload_n hx hb dX7_at_0 rfl (lv_at hl 0 rfl) ?_
  refine lv_iload_n hx hb dX7_at_1 rfl (lv_at hl 1 rfl) ?_
  replace h := bnd h; obtain ⟨q1, e2, h⟩ := h
  refine wrVv (ws1 := [(a_g, .inr (1, [.ref a_gw, .ref a_gk])), (a_x, .inr (7, [.ref a_g, .ref a_b, .ref a_v, .ref a_h, .ref a_r, .ref a_f, .ref a_u, .ref a_t, .ref a_n, .int x_sav, .int x_err, .int x_rea, .int x_det, .int x_com])), (a_gw, .inl (T 0, 90, .inl v_gw)), (a_gk, .inl (T 0, 18, .inl v_gk))]) C hE hP hD hS hA (kX7_demandCell_n l D T a_x p0 _ q1 e2) mX7_demandCell qLX7_151 [] [0, 1, 2, 3] 1 rfl rfl rfl rfl rfl rfl rfl rfl rfl ⟨rfl, rfl⟩ ⟨Nat.le_of_ble_eq_true rfl, Nat.le_of_ble_eq_true rfl⟩ rfl hl.1 rfl (Nat.le_of_ble_eq_true rfl) dX7_at_2 ⟨Nat.le_of_ble_eq_true rfl, Nat.le_of_ble_eq_true rfl⟩ ?_; clear hP hD hS; intro H locs hP hD hS
  refine lv_aload_n hx hb dX7_at_5 rfl (lv_at hl 0 rfl) ?_
  refine getF (q0 := 1) (k0 := 0) (v := .ref a_g) C hE hP inA7 rfl rfl (by decide) qFX7_10 rfl rfl dX7_at_6 ?_
  refine lv_iload_n hx hb dX7_at_9 rfl (lv_at hl 1 rfl) ?_
  replace h := bnd h; obtain ⟨q3, e4, h⟩ := h
  refine rdV C hE hP (kX1_whaleOn l D T a_g a_gw a_gk v_gw v_gk p0 q3 e4) mX1_whaleOn qLX7_154 [0, 2, 3] 0 rfl rfl rfl rfl ⟨rfl, rfl⟩ ⟨Nat.le_of_ble_eq_true rfl, Nat.le_of_ble_eq_true rfl⟩ rfl hl.1 rfl (Nat.le_of_ble_eq_true rfl) dX7_at_10 ⟨Nat.le_of_ble_eq_true rfl, Nat.le_of_ble_eq_true rfl⟩ ?_
  replace h := Option.some.inj h
  exact hret _ _ _ _ _ _ dX7_at_13 rfl (by rw [← h] <;> rfl) hP hS

def fX7_wouldFoul_n (v_gw : Nat → Int32) (v_gk : Nat → Int32) (p0 : Int32) : Option Int32 :=
  (fX7_demandWhale_n v_gk p0).bind fun q1 =>
  (fX1_isFoulBy v_gw v_gk p0).bind fun q3 =>
  some (q3 &&& 1)
set_option maxHeartbeats 4000000 in
set_option maxRecDepth 100000 in
theorem kX7_wouldFoul_n (l : Launch) (D : va_G) (T : Nat → ClassId) (a_g a_gw a_gk a_x a_b a_v a_h a_r a_f a_u a_t a_n : Nat) (x_sav : Int32) (x_err : Int32) (x_rea : Int32) (x_det : Int32) (x_com : Int32) (v_gw : Nat → Int32) (v_gk : Nat → Int32) (p0 : Int32) (sz : Nat) (r : Int32) (h : fX7_wouldFoul_n v_gw v_gk p0 = some r) : WrI l yX7_wouldFoul cX7_wouldFoul 2 .boolean ({ frames := 4, cells := 0, slots := 0, locals := 89 } : Room) D T sz [(a_g, .inr (1, [.ref a_gw, .ref a_gk])), (a_x, .inr (7, [.ref a_g, .ref a_b, .ref a_v, .ref a_h, .ref a_r, .ref a_f, .ref a_u, .ref a_t, .ref a_n, .int x_sav, .int x_err, .int x_rea, .int x_det, .int x_com])), (a_gw, .inl (T 0, 90, .inl v_gw)), (a_gk, .inl (T 0, 18, .inl v_gk))] [(a_g, .inr (1, [.ref a_gw, .ref a_gk])), (a_x, .inr (7, [.ref a_g, .ref a_b, .ref a_v, .ref a_h, .ref a_r, .ref a_f, .ref a_u, .ref a_t, .ref a_n, .int x_sav, .int x_err, .int x_rea, .int x_det, .int x_com])), (a_gw, .inl (T 0, 90, .inl v_gw)), (a_gk, .inl (T 0, 18, .inl v_gk))] [.ref a_x, .int p0] r := by
  unfold fX7_wouldFoul_n at h
  refine wrMet (by decide +kernel) rfl (fun p e s m args below meth c Q A C hE hA hP hD hS hret ls hl => ?_)
  have hx := C.1
  have hb := C.2.1
  have hl : lv_has ls 2 [(0, .ref a_x), (1, .int p0)] := hl
  refine lv_aload_n hx hb dX7_wouldFoul_0 rfl (lv_at hl 0 rfl) ?_
  refine lv_iload_n hx hb dX7_wouldFoul_1 rfl (lv_at hl 1 rfl) ?_
  replace h := bnd h; obtain ⟨q1, e2, h⟩ := h
  refine wrVv (ws1 := [(a_g, .inr (1, [.ref a_gw, .ref a_gk])), (a_x, .inr (7, [.ref a_g, .ref a_b, .ref a_v, .ref a_h, .ref a_r, .ref a_f, .ref a_u, .ref a_t, .ref a_n, .int x_sav, .int x_err, .int x_rea, .int x_det, .int x_com])), (a_gw, .inl (T 0, 90, .inl v_gw)), (a_gk, .inl (T 0, 18, .inl v_gk))]) C hE hP hD hS hA (kX7_demandWhale_n l D T a_g a_gw a_gk a_x a_b a_v a_h a_r a_f a_u a_t a_n x_sav x_err x_rea x_det x_com v_gk p0 _ q1 e2) mX7_demandWhale qLX7_138 [0, 1, 3] [2] 1 rfl rfl rfl rfl rfl rfl rfl rfl rfl ⟨rfl, rfl⟩ ⟨Nat.le_of_ble_eq_true rfl, Nat.le_of_ble_eq_true rfl⟩ rfl hl.1 rfl (Nat.le_of_ble_eq_true rfl) dX7_wouldFoul_2 ⟨Nat.le_of_ble_eq_true rfl, Nat.le_of_ble_eq_true rfl⟩ ?_; clear hP hD hS; intro H locs hP hD hS
  refine lv_aload_n hx hb dX7_wouldFoul_5 rfl (lv_at hl 0 rfl) ?_
  refine getF (q0 := 1) (k0 := 0) (v := .ref a_g) C hE hP inA7 rfl rfl (by decide) qFX7_10 rfl rfl dX7_wouldFoul_6 ?_
  refine lv_iload_n hx hb dX7_wouldFoul_9 rfl (lv_at hl 1 rfl) ?_
  replace h := bnd h; obtain ⟨q3, e4, h⟩ := h
  refine rdV C hE hP (kX1_isFoulBy l D T a_g a_gw a_gk v_gw v_gk p0 q3 e4) mX1_isFoulBy qLX7_224 [0, 2, 3] 0 rfl rfl rfl rfl ⟨rfl, rfl⟩ ⟨Nat.le_of_ble_eq_true rfl, Nat.le_of_ble_eq_true rfl⟩ rfl hl.1 rfl (Nat.le_of_ble_eq_true rfl) dX7_wouldFoul_10 ⟨Nat.le_of_ble_eq_true rfl, Nat.le_of_ble_eq_true rfl⟩ ?_
  replace h := Option.some.inj h
  exact hret _ _ _ _ _ _ dX7_wouldFoul_13 rfl (by rw [← h] <;> rfl) hP hS

def fX7_demandTeam_n (p0 : Int32) : Option Unit :=
  if (fX7_isTeam p0) = 0 then
    none
  else
    some ()
set_option maxHeartbeats 4000000 in
set_option maxRecDepth 100000 in
theorem kX7_demandTeam_n (l : Launch) (D : va_G) (T : Nat → ClassId) (a_x : Nat) (p0 : Int32) (sz : Nat) (r : Unit) (h : fX7_demandTeam_n p0 = some r) : WrV l yX7_demandTeam cX7_demandTeam 2 ({ frames := 1, cells := 0, slots := 0, locals := 20 } : Room) D T sz [] [] [.ref a_x, .int p0] := by
  unfold fX7_demandTeam_n at h
  refine wrMetV (by decide +kernel) rfl (fun p e s m args below meth c Q A C hE hA hP hD hS hret ls hl => ?_)
  have hx := C.1
  have hb := C.2.1
  have hl : lv_has ls 2 [(0, .ref a_x), (1, .int p0)] := hl
  refine lv_iload_n hx hb dX7_demandTeam_0 rfl (lv_at hl 1 rfl) ?_
  refine rdS C hE hP (kX7_isTeam l D T p0) mX7_isTeam qLX7_396 [] rfl ⟨rfl, rfl⟩ ⟨Nat.le_of_ble_eq_true rfl, Nat.le_of_ble_eq_true rfl⟩ rfl hl.1 rfl (Nat.le_of_ble_eq_true rfl) dX7_demandTeam_1 ⟨Nat.le_of_ble_eq_true rfl, Nat.le_of_ble_eq_true rfl⟩ ?_
  refine lv_if_ne (tgt := 18) hx hb dX7_demandTeam_4 (by decide) (fun c1 => ?_) (fun c1 => ?_)
  · replace h := ite_f c1 h
    replace h := Option.some.inj h
    exact hret _ _ _ _ dX7_demandTeam_18 hP hS
  · replace h := ite_t c1 h
    exact nomatch h

def fX7_beside_n_48 (v_gw : Nat → Int32) (v_gk : Nat → Int32) (rec9 : Int32 → Int32 → Int32 → Option Int32) (l1 : Int32) (l2 : Int32) (l3 : Int32) : Option Int32 :=
  rec9 l1 l2 (l3 + 1)
def fX7_beside_n_9 (v_gw : Nat → Int32) (v_gk : Nat → Int32) : Nat → Int32 → Int32 → Int32 → Option Int32
  | 0, _, _, _ => none
  | k + 1, l1, l2, l3 =>
    (fX1_count v_gk 0).bind fun q3 =>
    if q3 ≤ l3 then
      some l2
    else
      (fX1_of v_gw l3 0).bind fun q6 =>
      if q6 = l1 then
        (fX1_isNearBuoy v_gw v_gk l3).bind fun q9 =>
        fX7_beside_n_48 v_gw v_gk (fX7_beside_n_9 v_gw v_gk k) l1 (if q9 = 0 then l2 else (l2 + 1)) l3
      else
        fX7_beside_n_48 v_gw v_gk (fX7_beside_n_9 v_gw v_gk k) l1 l2 l3
def fX7_beside_n (v_gw : Nat → Int32) (v_gk : Nat → Int32) (p0 : Int32) : Option Int32 :=
  (fX7_demandTeam_n p0).bind fun q1 =>
  fX7_beside_n_9 v_gw v_gk 64 p0 0 0
set_option maxHeartbeats 4000000 in
set_option maxRecDepth 100000 in
theorem lX7_beside_n_48 {p : Program} {l : Launch} {e : Env} {s : State} {m : MethodId} {args : Array Value} {below : List Frame} {meth : Method} {c : Code} {Q : State → Prop} {D : va_G} {T : Nat → ClassId} {a_g a_gw a_gk a_x a_b a_v a_h a_r a_f a_u a_t a_n : Nat} {x_sav : Int32} {x_err : Int32} {x_rea : Int32} {x_det : Int32} {x_com : Int32} {v_gw : Nat → Int32} {v_gk : Nat → Int32} {A : Nat → Prop} {r : Int32} (C : CallFix p m c cX7_beside 4 s args aw RX7) (hE : eK D T s) (hA : ∀ q : Nat, s.heap.size ≤ q → A q) (hret : WrRet p l e ({ frames := 3, cells := 0, slots := 0, locals := 66 } : Room) s m args below meth c Q cX7_beside .int D A [(a_g, .inr (1, [.ref a_gw, .ref a_gk])), (a_x, .inr (7, [.ref a_g, .ref a_b, .ref a_v, .ref a_h, .ref a_r, .ref a_f, .ref a_u, .ref a_t, .ref a_n, .int x_sav, .int x_err, .int x_rea, .int x_det, .int x_com])), (a_gw, .inl (T 0, 90, .inl v_gw)), (a_gk, .inl (T 0, 18, .inl v_gk))] r) {rec9 : Int32 → Int32 → Int32 → Option Int32} (hrec9 : ∀ (l1 : Int32) (l2 : Int32) (l3 : Int32) {H : Heap} {locs : List Loc} (hPD : va_PD D A [(a_g, .inr (1, [.ref a_gw, .ref a_gk])), (a_x, .inr (7, [.ref a_g, .ref a_b, .ref a_v, .ref a_h, .ref a_r, .ref a_f, .ref a_u, .ref a_t, .ref a_n, .int x_sav, .int x_err, .int x_rea, .int x_det, .int x_com])), (a_gw, .inl (T 0, 90, .inl v_gw)), (a_gk, .inl (T 0, 18, .inl v_gk))] H) (hS : va_S A s.heap H locs) (ls : Array Slot) (hl : lv_has ls 4 [(0, .ref a_x), (1, .int l1), (2, .int l2), (3, .int l3)]) (h : rec9 l1 l2 l3 = some r), W p l e ({ frames := 3, cells := 0, slots := 0, locals := 66 } : Room) s m args below meth c H locs 0 0 Q (F0 m 9 ls [])) (l1 : Int32) (l2 : Int32) (l3 : Int32) {H : Heap} {locs : List Loc} (hPD : va_PD D A [(a_g, .inr (1, [.ref a_gw, .ref a_gk])), (a_x, .inr (7, [.ref a_g, .ref a_b, .ref a_v, .ref a_h, .ref a_r, .ref a_f, .ref a_u, .ref a_t, .ref a_n, .int x_sav, .int x_err, .int x_rea, .int x_det, .int x_com])), (a_gw, .inl (T 0, 90, .inl v_gw)), (a_gk, .inl (T 0, 18, .inl v_gk))] H) (hS : va_S A s.heap H locs) (ls : Array Slot) (hl : lv_has ls 4 [(0, .ref a_x), (1, .int l1), (2, .int l2), (3, .int l3)]) (h : fX7_beside_n_48 v_gw v_gk rec9 l1 l2 l3 = some r) : W p l e ({ frames := 3, cells := 0, slots := 0, locals := 66 } : Room) s m args below meth c H locs 0 0 Q (F0 m 48 ls []) := by
  have hx := C.1
  have hb := C.2.1
  obtain ⟨hP, hD⟩ := hPD
  unfold fX7_beside_n_48 at h
  refine lv_iinc (v := (l3 + 1)) (lv' := [(3, .int (l3 + 1)), (0, .ref a_x), (1, .int l1), (2, .int l2)]) hx hb dX7_beside_48 hl (k := 3) rfl rfl (by decide) rfl (fun ls hl => ?_)
  refine lv_goto (tgt := 9) hx hb dX7_beside_51 (by decide) ?_
  exact hrec9 l1 l2 (l3 + 1) ⟨hP, hD⟩ hS _ (lv_sub hl [1, 2, 3, 0] rfl) h
set_option maxHeartbeats 4000000 in
set_option maxRecDepth 100000 in
theorem lX7_beside_n_9 {p : Program} {l : Launch} {e : Env} {s : State} {m : MethodId} {args : Array Value} {below : List Frame} {meth : Method} {c : Code} {Q : State → Prop} {D : va_G} {T : Nat → ClassId} {a_g a_gw a_gk a_x a_b a_v a_h a_r a_f a_u a_t a_n : Nat} {x_sav : Int32} {x_err : Int32} {x_rea : Int32} {x_det : Int32} {x_com : Int32} {v_gw : Nat → Int32} {v_gk : Nat → Int32} {A : Nat → Prop} {r : Int32} (C : CallFix p m c cX7_beside 4 s args aw RX7) (hE : eK D T s) (hA : ∀ q : Nat, s.heap.size ≤ q → A q) (hret : WrRet p l e ({ frames := 3, cells := 0, slots := 0, locals := 66 } : Room) s m args below meth c Q cX7_beside .int D A [(a_g, .inr (1, [.ref a_gw, .ref a_gk])), (a_x, .inr (7, [.ref a_g, .ref a_b, .ref a_v, .ref a_h, .ref a_r, .ref a_f, .ref a_u, .ref a_t, .ref a_n, .int x_sav, .int x_err, .int x_rea, .int x_det, .int x_com])), (a_gw, .inl (T 0, 90, .inl v_gw)), (a_gk, .inl (T 0, 18, .inl v_gk))] r) : ∀ (k : Nat) (l1 : Int32) (l2 : Int32) (l3 : Int32) {H : Heap} {locs : List Loc} (hPD : va_PD D A [(a_g, .inr (1, [.ref a_gw, .ref a_gk])), (a_x, .inr (7, [.ref a_g, .ref a_b, .ref a_v, .ref a_h, .ref a_r, .ref a_f, .ref a_u, .ref a_t, .ref a_n, .int x_sav, .int x_err, .int x_rea, .int x_det, .int x_com])), (a_gw, .inl (T 0, 90, .inl v_gw)), (a_gk, .inl (T 0, 18, .inl v_gk))] H) (hS : va_S A s.heap H locs) (ls : Array Slot) (hl : lv_has ls 4 [(0, .ref a_x), (1, .int l1), (2, .int l2), (3, .int l3)]) (h : fX7_beside_n_9 v_gw v_gk k l1 l2 l3 = some r), W p l e ({ frames := 3, cells := 0, slots := 0, locals := 66 } : Room) s m args below meth c H locs 0 0 Q (F0 m 9 ls []) := by
  have hx := C.1
  have hb := C.2.1
  intro k
  induction k with
  | zero =>
    intro l1 l2 l3 H locs hPD hS ls hl h
    exact nomatch (show (none : Option Int32) = some r from h)
  | succ k ih =>
    intro l1 l2 l3 H locs hPD hS ls hl h
    obtain ⟨hP, hD⟩ := hPD
    rw [fX7_beside_n_9] at h
    refine lv_iload_n hx hb dX7_beside_9 rfl (lv_at hl 3 rfl) ?_
    refine lv_aload_n hx hb dX7_beside_10 rfl (lv_at hl 0 rfl) ?_
    refine getF (q0 := 1) (k0 := 0) (v := .ref a_g) C hE hP inA7 rfl rfl (by decide) qFX7_10 rfl rfl dX7_beside_11 ?_
    refine lv_iconst (v := 0) hx hb dX7_beside_14 (by decide) ?_
    replace h := bnd h; obtain ⟨q3, e4, h⟩ := h
    refine rdV C hE hP (kX1_count l D T a_g a_gw a_gk v_gk 0 q3 e4) mX1_count qLX7_235 [0, 3] 0 rfl rfl rfl rfl ⟨rfl, rfl⟩ ⟨Nat.le_of_ble_eq_true rfl, Nat.le_of_ble_eq_true rfl⟩ rfl hl.1 rfl (Nat.le_of_ble_eq_true rfl) dX7_beside_15 ⟨Nat.le_of_ble_eq_true rfl, Nat.le_of_ble_eq_true rfl⟩ ?_
    refine lv_icmp_ge (tgt := 54) hx hb dX7_beside_18 (by decide) (fun c5 => ?_) (fun c5 => ?_)
    · replace h := ite_t c5 h
      refine lv_iload_n hx hb dX7_beside_54 rfl (lv_at hl 2 rfl) ?_
      replace h := Option.some.inj h
      exact hret _ _ _ _ _ _ dX7_beside_55 rfl (by rw [← h] <;> rfl) hP hS
    · replace h := ite_f c5 h
      refine lv_aload_n hx hb dX7_beside_21 rfl (lv_at hl 0 rfl) ?_
      refine getF (q0 := 1) (k0 := 0) (v := .ref a_g) C hE hP inA7 rfl rfl (by decide) qFX7_10 rfl rfl dX7_beside_22 ?_
      refine lv_iload_n hx hb dX7_beside_25 rfl (lv_at hl 3 rfl) ?_
      refine lv_iconst (v := 0) hx hb dX7_beside_26 (by decide) ?_
      replace h := bnd h; obtain ⟨q6, e7, h⟩ := h
      refine rdV C hE hP (kX1_of l D T a_g a_gw a_gk v_gw l3 0 q6 e7) mX1_of qLX7_148 [0, 2] 0 rfl rfl rfl rfl ⟨rfl, rfl⟩ ⟨Nat.le_of_ble_eq_true rfl, Nat.le_of_ble_eq_true rfl⟩ rfl hl.1 rfl (Nat.le_of_ble_eq_true rfl) dX7_beside_27 ⟨Nat.le_of_ble_eq_true rfl, Nat.le_of_ble_eq_true rfl⟩ ?_
      refine lv_iload_n hx hb dX7_beside_30 rfl (lv_at hl 1 rfl) ?_
      refine lv_icmp_ne (tgt := 48) hx hb dX7_beside_31 (by decide) (fun c8 => ?_) (fun c8 => ?_)
      · replace h := ite_f c8 h
        exact lX7_beside_n_48 C hE hA hret ih l1 l2 l3 ⟨hP, hD⟩ hS _ (lv_sub hl [0, 1, 2, 3] rfl) h
      · replace h := ite_t c8 h
        refine lv_aload_n hx hb dX7_beside_34 rfl (lv_at hl 0 rfl) ?_
        refine getF (q0 := 1) (k0 := 0) (v := .ref a_g) C hE hP inA7 rfl rfl (by decide) qFX7_10 rfl rfl dX7_beside_35 ?_
        refine lv_iload_n hx hb dX7_beside_38 rfl (lv_at hl 3 rfl) ?_
        replace h := bnd h; obtain ⟨q9, e10, h⟩ := h
        refine rdV C hE hP (kX1_isNearBuoy l D T a_g a_gw a_gk v_gw v_gk l3 q9 e10) mX1_isNearBuoy qLX7_238 [0, 2, 3] 0 rfl rfl rfl rfl ⟨rfl, rfl⟩ ⟨Nat.le_of_ble_eq_true rfl, Nat.le_of_ble_eq_true rfl⟩ rfl hl.1 rfl (Nat.le_of_ble_eq_true rfl) dX7_beside_39 ⟨Nat.le_of_ble_eq_true rfl, Nat.le_of_ble_eq_true rfl⟩ ?_
        refine lv_if_eq (tgt := 48) hx hb dX7_beside_42 (by decide) (fun c11 => ?_) (fun c11 => ?_)
        · rw [if_pos c11] at h
          exact lX7_beside_n_48 C hE hA hret ih l1 l2 l3 ⟨hP, hD⟩ hS _ (lv_sub hl [0, 1, 2, 3] rfl) h
        · rw [if_neg c11] at h
          refine lv_iinc (v := (l2 + 1)) (lv' := [(2, .int (l2 + 1)), (0, .ref a_x), (1, .int l1), (3, .int l3)]) hx hb dX7_beside_45 hl (k := 2) rfl rfl (by decide) rfl (fun ls hl => ?_)
          exact lX7_beside_n_48 C hE hA hret ih l1 (l2 + 1) l3 ⟨hP, hD⟩ hS _ (lv_sub hl [1, 2, 0, 3] rfl) h
set_option maxHeartbeats 4000000 in
set_option maxRecDepth 100000 in
theorem kX7_beside_n (l : Launch) (D : va_G) (T : Nat → ClassId) (a_g a_gw a_gk a_x a_b a_v a_h a_r a_f a_u a_t a_n : Nat) (x_sav : Int32) (x_err : Int32) (x_rea : Int32) (x_det : Int32) (x_com : Int32) (v_gw : Nat → Int32) (v_gk : Nat → Int32) (p0 : Int32) (sz : Nat) (r : Int32) (h : fX7_beside_n v_gw v_gk p0 = some r) : WrI l yX7_beside cX7_beside 4 .int ({ frames := 3, cells := 0, slots := 0, locals := 66 } : Room) D T sz [(a_g, .inr (1, [.ref a_gw, .ref a_gk])), (a_x, .inr (7, [.ref a_g, .ref a_b, .ref a_v, .ref a_h, .ref a_r, .ref a_f, .ref a_u, .ref a_t, .ref a_n, .int x_sav, .int x_err, .int x_rea, .int x_det, .int x_com])), (a_gw, .inl (T 0, 90, .inl v_gw)), (a_gk, .inl (T 0, 18, .inl v_gk))] [(a_g, .inr (1, [.ref a_gw, .ref a_gk])), (a_x, .inr (7, [.ref a_g, .ref a_b, .ref a_v, .ref a_h, .ref a_r, .ref a_f, .ref a_u, .ref a_t, .ref a_n, .int x_sav, .int x_err, .int x_rea, .int x_det, .int x_com])), (a_gw, .inl (T 0, 90, .inl v_gw)), (a_gk, .inl (T 0, 18, .inl v_gk))] [.ref a_x, .int p0] r := by
  unfold fX7_beside_n at h
  refine wrMet (by decide +kernel) rfl (fun p e s m args below meth c Q A C hE hA hP hD hS hret ls hl => ?_)
  have hx := C.1
  have hb := C.2.1
  have hl : lv_has ls 4 [(0, .ref a_x), (1, .int p0)] := hl
  refine lv_aload_n hx hb dX7_beside_0 rfl (lv_at hl 0 rfl) ?_
  refine lv_iload_n hx hb dX7_beside_1 rfl (lv_at hl 1 rfl) ?_
  replace h := bnd h; obtain ⟨q1, e2, h⟩ := h
  refine wrVv (ws1 := [(a_g, .inr (1, [.ref a_gw, .ref a_gk])), (a_x, .inr (7, [.ref a_g, .ref a_b, .ref a_v, .ref a_h, .ref a_r, .ref a_f, .ref a_u, .ref a_t, .ref a_n, .int x_sav, .int x_err, .int x_rea, .int x_det, .int x_com])), (a_gw, .inl (T 0, 90, .inl v_gw)), (a_gk, .inl (T 0, 18, .inl v_gk))]) C hE hP hD hS hA (kX7_demandTeam_n l D T a_x p0 _ q1 e2) mX7_demandTeam qLX7_232 [] [0, 1, 2, 3] 1 rfl rfl rfl rfl rfl rfl rfl rfl rfl ⟨rfl, rfl⟩ ⟨Nat.le_of_ble_eq_true rfl, Nat.le_of_ble_eq_true rfl⟩ rfl hl.1 rfl (Nat.le_of_ble_eq_true rfl) dX7_beside_2 ⟨Nat.le_of_ble_eq_true rfl, Nat.le_of_ble_eq_true rfl⟩ ?_; clear hP hD hS; intro H locs hP hD hS
  refine lv_iconst (v := 0) hx hb dX7_beside_5 (by decide) ?_
  refine lv_istore_n (lv' := [(2, .int 0), (0, .ref a_x), (1, .int p0)]) hx hb dX7_beside_6 rfl hl (by decide) rfl (fun ls hl => ?_)
  refine lv_iconst (v := 0) hx hb dX7_beside_7 (by decide) ?_
  refine lv_istore_n (lv' := [(3, .int 0), (2, .int 0), (0, .ref a_x), (1, .int p0)]) hx hb dX7_beside_8 rfl hl (by decide) rfl (fun ls hl => ?_)
  exact lX7_beside_n_9 C hE hA hret 64 p0 0 0 ⟨hP, hD⟩ hS _ (lv_sub hl [2, 3, 1, 0] rfl) h

def fX7_demandClock_n_11 : Option Unit :=
  none
def fX7_demandClock_n (p0 : Int32) : Option Unit :=
  if p0 < 0 then
    fX7_demandClock_n_11
  else
    if p0 ≤ 999 then
      some ()
    else
      fX7_demandClock_n_11
set_option maxHeartbeats 4000000 in
set_option maxRecDepth 100000 in
theorem lX7_demandClock_n_11 {p : Program} {l : Launch} {e : Env} {s : State} {m : MethodId} {args : Array Value} {below : List Frame} {meth : Method} {c : Code} {Q : State → Prop} {D : va_G} {T : Nat → ClassId} {A : Nat → Prop} {r : Unit} (C : CallFix p m c cX7_demandClock 2 s args aw RX7) (hE : eK D T s) (hA : ∀ q : Nat, s.heap.size ≤ q → A q) (hret : WrRetV p l e ({ frames := 0, cells := 0, slots := 0, locals := 0 } : Room) s m args below meth c Q cX7_demandClock D A []) {H : Heap} {locs : List Loc} (hPD : va_PD D A [] H) (hS : va_S A s.heap H locs) (ls : Array Slot) (hl : lv_has ls 2 []) (h : fX7_demandClock_n_11 = some r) : W p l e ({ frames := 0, cells := 0, slots := 0, locals := 0 } : Room) s m args below meth c H locs 0 0 Q (F0 m 11 ls []) := by
  have hx := C.1
  have hb := C.2.1
  obtain ⟨hP, hD⟩ := hPD
  unfold fX7_demandClock_n_11 at h
  exact nomatch h
set_option maxHeartbeats 4000000 in
set_option maxRecDepth 100000 in
theorem kX7_demandClock_n (l : Launch) (D : va_G) (T : Nat → ClassId) (a_x : Nat) (p0 : Int32) (sz : Nat) (r : Unit) (h : fX7_demandClock_n p0 = some r) : WrV l yX7_demandClock cX7_demandClock 2 ({ frames := 0, cells := 0, slots := 0, locals := 0 } : Room) D T sz [] [] [.ref a_x, .int p0] := by
  unfold fX7_demandClock_n at h
  refine wrMetV (by decide +kernel) rfl (fun p e s m args below meth c Q A C hE hA hP hD hS hret ls hl => ?_)
  have hx := C.1
  have hb := C.2.1
  have hl : lv_has ls 2 [(0, .ref a_x), (1, .int p0)] := hl
  refine lv_iload_n hx hb dX7_demandClock_0 rfl (lv_at hl 1 rfl) ?_
  refine lv_if_lt (tgt := 11) hx hb dX7_demandClock_1 (by decide) (fun c1 => ?_) (fun c1 => ?_)
  · replace h := ite_t c1 h
    exact lX7_demandClock_n_11 C hE hA hret ⟨hP, hD⟩ hS _ (lv_sub hl [] rfl) h
  · replace h := ite_f c1 h
    refine lv_iload_n hx hb dX7_demandClock_4 rfl (lv_at hl 1 rfl) ?_
    refine lv_sipush (v := 999) hx hb dX7_demandClock_5 (by decide) ?_
    refine lv_icmp_le (tgt := 22) hx hb dX7_demandClock_8 (by decide) (fun c2 => ?_) (fun c2 => ?_)
    · replace h := ite_t c2 h
      replace h := Option.some.inj h
      exact hret _ _ _ _ dX7_demandClock_22 hP hS
    · replace h := ite_f c2 h
      exact lX7_demandClock_n_11 C hE hA hret ⟨hP, hD⟩ hS _ (lv_sub hl [] rfl) h

def fX7_tide_n (p0 : Int32) : Option Int32 :=
  (fX7_demandClock_n p0).bind fun q1 =>
  (fX7_tideByStrokes p0).bind fun q3 =>
  some q3
set_option maxHeartbeats 4000000 in
set_option maxRecDepth 100000 in
theorem kX7_tide_n (l : Launch) (D : va_G) (T : Nat → ClassId) (a_x a_g a_b a_v a_h a_r a_f a_u a_t a_n : Nat) (x_sav : Int32) (x_err : Int32) (x_rea : Int32) (x_det : Int32) (x_com : Int32) (p0 : Int32) (sz : Nat) (r : Int32) (h : fX7_tide_n p0 = some r) : WrI l yX7_tide cX7_tide 2 .int ({ frames := 1, cells := 0, slots := 0, locals := 23 } : Room) D T sz [(a_x, .inr (7, [.ref a_g, .ref a_b, .ref a_v, .ref a_h, .ref a_r, .ref a_f, .ref a_u, .ref a_t, .ref a_n, .int x_sav, .int x_err, .int x_rea, .int x_det, .int x_com]))] [(a_x, .inr (7, [.ref a_g, .ref a_b, .ref a_v, .ref a_h, .ref a_r, .ref a_f, .ref a_u, .ref a_t, .ref a_n, .int x_sav, .int x_err, .int x_rea, .int x_det, .int x_com]))] [.ref a_x, .int p0] r := by
  unfold fX7_tide_n at h
  refine wrMet (by decide +kernel) rfl (fun p e s m args below meth c Q A C hE hA hP hD hS hret ls hl => ?_)
  have hx := C.1
  have hb := C.2.1
  have hl : lv_has ls 2 [(0, .ref a_x), (1, .int p0)] := hl
  refine lv_aload_n hx hb dX7_tide_0 rfl (lv_at hl 0 rfl) ?_
  refine lv_iload_n hx hb dX7_tide_1 rfl (lv_at hl 1 rfl) ?_
  replace h := bnd h; obtain ⟨q1, e2, h⟩ := h
  refine wrVv (ws1 := [(a_x, .inr (7, [.ref a_g, .ref a_b, .ref a_v, .ref a_h, .ref a_r, .ref a_f, .ref a_u, .ref a_t, .ref a_n, .int x_sav, .int x_err, .int x_rea, .int x_det, .int x_com]))]) C hE hP hD hS hA (kX7_demandClock_n l D T a_x p0 _ q1 e2) mX7_demandClock qLX7_161 [] [0] 0 rfl rfl rfl rfl rfl rfl rfl rfl rfl ⟨rfl, rfl⟩ ⟨Nat.le_of_ble_eq_true rfl, Nat.le_of_ble_eq_true rfl⟩ rfl hl.1 rfl (Nat.le_of_ble_eq_true rfl) dX7_tide_2 ⟨Nat.le_of_ble_eq_true rfl, Nat.le_of_ble_eq_true rfl⟩ ?_; clear hP hD hS; intro H locs hP hD hS
  refine lv_iload_n hx hb dX7_tide_5 rfl (lv_at hl 1 rfl) ?_
  replace h := bnd h; obtain ⟨q3, e4, h⟩ := h
  refine rdS C hE hP (kX7_tideByStrokes l D T p0 q3 e4) mX7_tideByStrokes qLX7_164 [] rfl ⟨rfl, rfl⟩ ⟨Nat.le_of_ble_eq_true rfl, Nat.le_of_ble_eq_true rfl⟩ rfl hl.1 rfl (Nat.le_of_ble_eq_true rfl) dX7_tide_6 ⟨Nat.le_of_ble_eq_true rfl, Nat.le_of_ble_eq_true rfl⟩ ?_
  replace h := Option.some.inj h
  exact hret _ _ _ _ _ _ dX7_tide_9 rfl (by rw [← h] <;> rfl) hP hS

def fX7_tideAgain_n (p0 : Int32) : Option Int32 :=
  (fX7_demandClock_n p0).bind fun q1 =>
  some (fX7_tideByDividing p0)
set_option maxHeartbeats 4000000 in
set_option maxRecDepth 100000 in
theorem kX7_tideAgain_n (l : Launch) (D : va_G) (T : Nat → ClassId) (a_x a_g a_b a_v a_h a_r a_f a_u a_t a_n : Nat) (x_sav : Int32) (x_err : Int32) (x_rea : Int32) (x_det : Int32) (x_com : Int32) (p0 : Int32) (sz : Nat) (r : Int32) (h : fX7_tideAgain_n p0 = some r) : WrI l yX7_tideAgain cX7_tideAgain 2 .int ({ frames := 1, cells := 0, slots := 0, locals := 21 } : Room) D T sz [(a_x, .inr (7, [.ref a_g, .ref a_b, .ref a_v, .ref a_h, .ref a_r, .ref a_f, .ref a_u, .ref a_t, .ref a_n, .int x_sav, .int x_err, .int x_rea, .int x_det, .int x_com]))] [(a_x, .inr (7, [.ref a_g, .ref a_b, .ref a_v, .ref a_h, .ref a_r, .ref a_f, .ref a_u, .ref a_t, .ref a_n, .int x_sav, .int x_err, .int x_rea, .int x_det, .int x_com]))] [.ref a_x, .int p0] r := by
  unfold fX7_tideAgain_n at h
  refine wrMet (by decide +kernel) rfl (fun p e s m args below meth c Q A C hE hA hP hD hS hret ls hl => ?_)
  have hx := C.1
  have hb := C.2.1
  have hl : lv_has ls 2 [(0, .ref a_x), (1, .int p0)] := hl
  refine lv_aload_n hx hb dX7_tideAgain_0 rfl (lv_at hl 0 rfl) ?_
  refine lv_iload_n hx hb dX7_tideAgain_1 rfl (lv_at hl 1 rfl) ?_
  replace h := bnd h; obtain ⟨q1, e2, h⟩ := h
  refine wrVv (ws1 := [(a_x, .inr (7, [.ref a_g, .ref a_b, .ref a_v, .ref a_h, .ref a_r, .ref a_f, .ref a_u, .ref a_t, .ref a_n, .int x_sav, .int x_err, .int x_rea, .int x_det, .int x_com]))]) C hE hP hD hS hA (kX7_demandClock_n l D T a_x p0 _ q1 e2) mX7_demandClock qLX7_161 [] [0] 0 rfl rfl rfl rfl rfl rfl rfl rfl rfl ⟨rfl, rfl⟩ ⟨Nat.le_of_ble_eq_true rfl, Nat.le_of_ble_eq_true rfl⟩ rfl hl.1 rfl (Nat.le_of_ble_eq_true rfl) dX7_tideAgain_2 ⟨Nat.le_of_ble_eq_true rfl, Nat.le_of_ble_eq_true rfl⟩ ?_; clear hP hD hS; intro H locs hP hD hS
  refine lv_iload_n hx hb dX7_tideAgain_5 rfl (lv_at hl 1 rfl) ?_
  refine rdS C hE hP (kX7_tideByDividing l D T p0) mX7_tideByDividing qLX7_167 [] rfl ⟨rfl, rfl⟩ ⟨Nat.le_of_ble_eq_true rfl, Nat.le_of_ble_eq_true rfl⟩ rfl hl.1 rfl (Nat.le_of_ble_eq_true rfl) dX7_tideAgain_6 ⟨Nat.le_of_ble_eq_true rfl, Nat.le_of_ble_eq_true rfl⟩ ?_
  replace h := Option.some.inj h
  exact hret _ _ _ _ _ _ dX7_tideAgain_9 rfl (by rw [← h] <;> rfl) hP hS

def fX7_isDry_n (v_gk : Nat → Int32) (p0 : Int32) : Option Int32 :=
  (fX7_demandCell_n p0).bind fun q1 =>
  (fX1_isDryNow v_gk p0).bind fun q3 =>
  some (q3 &&& 1)
set_option maxHeartbeats 4000000 in
set_option maxRecDepth 100000 in
theorem kX7_isDry_n (l : Launch) (D : va_G) (T : Nat → ClassId) (a_g a_gw a_gk a_x a_b a_v a_h a_r a_f a_u a_t a_n : Nat) (x_sav : Int32) (x_err : Int32) (x_rea : Int32) (x_det : Int32) (x_com : Int32) (v_gk : Nat → Int32) (p0 : Int32) (sz : Nat) (r : Int32) (h : fX7_isDry_n v_gk p0 = some r) : WrI l yX7_isDry cX7_isDry 2 .boolean ({ frames := 2, cells := 0, slots := 0, locals := 42 } : Room) D T sz [(a_g, .inr (1, [.ref a_gw, .ref a_gk])), (a_x, .inr (7, [.ref a_g, .ref a_b, .ref a_v, .ref a_h, .ref a_r, .ref a_f, .ref a_u, .ref a_t, .ref a_n, .int x_sav, .int x_err, .int x_rea, .int x_det, .int x_com])), (a_gk, .inl (T 0, 18, .inl v_gk))] [(a_g, .inr (1, [.ref a_gw, .ref a_gk])), (a_x, .inr (7, [.ref a_g, .ref a_b, .ref a_v, .ref a_h, .ref a_r, .ref a_f, .ref a_u, .ref a_t, .ref a_n, .int x_sav, .int x_err, .int x_rea, .int x_det, .int x_com])), (a_gk, .inl (T 0, 18, .inl v_gk))] [.ref a_x, .int p0] r := by
  unfold fX7_isDry_n at h
  refine wrMet (by decide +kernel) rfl (fun p e s m args below meth c Q A C hE hA hP hD hS hret ls hl => ?_)
  have hx := C.1
  have hb := C.2.1
  have hl : lv_has ls 2 [(0, .ref a_x), (1, .int p0)] := hl
  refine lv_aload_n hx hb dX7_isDry_0 rfl (lv_at hl 0 rfl) ?_
  refine lv_iload_n hx hb dX7_isDry_1 rfl (lv_at hl 1 rfl) ?_
  replace h := bnd h; obtain ⟨q1, e2, h⟩ := h
  refine wrVv (ws1 := [(a_g, .inr (1, [.ref a_gw, .ref a_gk])), (a_x, .inr (7, [.ref a_g, .ref a_b, .ref a_v, .ref a_h, .ref a_r, .ref a_f, .ref a_u, .ref a_t, .ref a_n, .int x_sav, .int x_err, .int x_rea, .int x_det, .int x_com])), (a_gk, .inl (T 0, 18, .inl v_gk))]) C hE hP hD hS hA (kX7_demandCell_n l D T a_x p0 _ q1 e2) mX7_demandCell qLX7_151 [] [0, 1, 2] 1 rfl rfl rfl rfl rfl rfl rfl rfl rfl ⟨rfl, rfl⟩ ⟨Nat.le_of_ble_eq_true rfl, Nat.le_of_ble_eq_true rfl⟩ rfl hl.1 rfl (Nat.le_of_ble_eq_true rfl) dX7_isDry_2 ⟨Nat.le_of_ble_eq_true rfl, Nat.le_of_ble_eq_true rfl⟩ ?_; clear hP hD hS; intro H locs hP hD hS
  refine lv_aload_n hx hb dX7_isDry_5 rfl (lv_at hl 0 rfl) ?_
  refine getF (q0 := 1) (k0 := 0) (v := .ref a_g) C hE hP inA7 rfl rfl (by decide) qFX7_10 rfl rfl dX7_isDry_6 ?_
  refine lv_iload_n hx hb dX7_isDry_9 rfl (lv_at hl 1 rfl) ?_
  replace h := bnd h; obtain ⟨q3, e4, h⟩ := h
  refine rdV C hE hP (kX1_isDryNow l D T a_g a_gw a_gk v_gk p0 q3 e4) mX1_isDryNow qLX7_157 [0, 2] 0 rfl rfl rfl rfl ⟨rfl, rfl⟩ ⟨Nat.le_of_ble_eq_true rfl, Nat.le_of_ble_eq_true rfl⟩ rfl hl.1 rfl (Nat.le_of_ble_eq_true rfl) dX7_isDry_10 ⟨Nat.le_of_ble_eq_true rfl, Nat.le_of_ble_eq_true rfl⟩ ?_
  replace h := Option.some.inj h
  exact hret _ _ _ _ _ _ dX7_isDry_13 rfl (by rw [← h] <;> rfl) hP hS
