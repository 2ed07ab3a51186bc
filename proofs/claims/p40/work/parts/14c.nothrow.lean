def fX7_demandWhale_n (v_gk : Nat → Int32) (p0 : Int32) : Option Unit :=
  (fX1_has v_gk p0).bind fun q1 =>
  if q1 = 0 then
    none
  else
    some ()
set_option maxHeartbeats 4000000 in
set_option maxRecDepth 100000 in
theorem kX7_demandWhale_n (l : Launch) (D : va_G) (T : Nat → ClassId) (a_g a_gw a_gk a_x a_b a_v a_h a_r a_f a_u a_t a_n : Nat) (x_sav : Int32) (x_err : Int32) (x_rea : Int32) (x_det : Int32) (x_com : Int32) (v_gk : Nat → Int32) (p0 : Int32) (sz : Nat) (r : Unit) (h : fX7_demandWhale_n v_gk p0 = some r) : WrV l yX7_demandWhale cX7_demandWhale 2 ({ frames := 2, cells := 0, slots := 0, locals := 42 } : Room) D T sz [(a_g, .inr (1, [.ref a_gw, .ref a_gk])), (a_x, .inr (7, [.ref a_g, .ref a_b, .ref a_v, .ref a_h, .ref a_r, .ref a_f, .ref a_u, .ref a_t, .ref a_n, .int x_sav, .int x_err, .int x_rea, .int x_det, .int x_com])), (a_gk, .inl (T 0, 18, .inl v_gk))] [(a_g, .inr (1, [.ref a_gw, .ref a_gk])), (a_x, .inr (7, [.ref a_g, .ref a_b, .ref a_v, .ref a_h, .ref a_r, .ref a_f, .ref a_u, .ref a_t, .ref a_n, .int x_sav, .int x_err, .int x_rea, .int x_det, .int x_com])), (a_gk, .inl (T 0, 18, .inl v_gk))] [.ref a_x, .int p0] := by
  unfold fX7_demandWhale_n at h
  refine wrMetV (by decide +kernel) rfl (fun p e s m args below meth c Q A C hE hA hP hD hS hret ls hl => ?_)
  have hx := C.1
  have hb := C.2.1
  have hl : lv_has ls 2 [(0, .ref a_x), (1, .int p0)] := hl
  refine lv_aload_n hx hb dX7_demandWhale_0 rfl (lv_at hl 0 rfl) ?_
  refine getF (q0 := 1) (k0 := 0) (v := .ref a_g) C hE hP inA7 rfl rfl (by decide) qFX7_10 rfl rfl dX7_demandWhale_1 ?_
  refine lv_iload_n hx hb dX7_demandWhale_4 rfl (lv_at hl 1 rfl) ?_
  replace h := bnd h; obtain ⟨q1, e2, h⟩ := h
  refine rdV C hE hP (kX1_has l D T a_g a_gw a_gk v_gk p0 q1 e2) mX1_has qLX7_384 [0, 2] 0 rfl rfl rfl rfl ⟨rfl, rfl⟩ ⟨Nat.le_of_ble_eq_true rfl, Nat.le_of_ble_eq_true rfl⟩ rfl hl.1 rfl (Nat.le_of_ble_eq_true rfl) dX7_demandWhale_5 ⟨Nat.le_of_ble_eq_true rfl, Nat.le_of_ble_eq_true rfl⟩ ?_
  refine lv_if_ne (tgt := 22) hx hb dX7_demandWhale_8 (by decide) (fun c3 => ?_) (fun c3 => ?_)
  · replace h := ite_f c3 h
    replace h := Option.some.inj h
    exact hret _ _ _ _ dX7_demandWhale_22 hP hS
  · replace h := ite_t c3 h
    exact nomatch h

def fX7_whaleOf_n_15 (v_gw : Nat → Int32) (v_gk : Nat → Int32) : Option Int32 :=
  none
def fX7_whaleOf_n (v_gw : Nat → Int32) (v_gk : Nat → Int32) (p0 : Int32) (p1 : Int32) : Option Int32 :=
  (fX7_demandWhale_n v_gk p0).bind fun q1 =>
  if p1 < 0 then
    fX7_whaleOf_n_15 v_gw v_gk
  else
    if p1 < 9 then
      (fX1_of v_gw p0 p1).bind fun q5 =>
      some q5
    else
      fX7_whaleOf_n_15 v_gw v_gk
set_option maxHeartbeats 4000000 in
set_option maxRecDepth 100000 in
theorem lX7_whaleOf_n_15 {p : Program} {l : Launch} {e : Env} {s : State} {m : MethodId} {args : Array Value} {below : List Frame} {meth : Method} {c : Code} {Q : State → Prop} {D : va_G} {T : Nat → ClassId} {a_g a_gw a_gk a_x a_b a_v a_h a_r a_f a_u a_t a_n : Nat} {x_sav : Int32} {x_err : Int32} {x_rea : Int32} {x_det : Int32} {x_com : Int32} {v_gw : Nat → Int32} {v_gk : Nat → Int32} {A : Nat → Prop} {r : Int32} (C : CallFix p m c cX7_whaleOf 3 s args aw RX7) (hE : eK D T s) (hA : ∀ q : Nat, s.heap.size ≤ q → A q) (hret : WrRet p l e ({ frames := 3, cells := 0, slots := 0, locals := 63 } : Room) s m args below meth c Q cX7_whaleOf .int D A [(a_g, .inr (1, [.ref a_gw, .ref a_gk])), (a_x, .inr (7, [.ref a_g, .ref a_b, .ref a_v, .ref a_h, .ref a_r, .ref a_f, .ref a_u, .ref a_t, .ref a_n, .int x_sav, .int x_err, .int x_rea, .int x_det, .int x_com])), (a_gw, .inl (T 0, 90, .inl v_gw)), (a_gk, .inl (T 0, 18, .inl v_gk))] r) {H : Heap} {locs : List Loc} (hPD : va_PD D A [(a_g, .inr (1, [.ref a_gw, .ref a_gk])), (a_x, .inr (7, [.ref a_g, .ref a_b, .ref a_v, .ref a_h, .ref a_r, .ref a_f, .ref a_u, .ref a_t, .ref a_n, .int x_sav, .int x_err, .int x_rea, .int x_det, .int x_com])), (a_gw, .inl (T 0, 90, .inl v_gw)), (a_gk, .inl (T 0, 18, .inl v_gk))] H) (hS : va_S A s.heap H locs) (ls : Array Slot) (hl : lv_has ls 3 []) (h : fX7_whaleOf_n_15 v_gw v_gk = some r) : W p l e ({ frames := 3, cells := 0, slots := 0, locals := 63 } : Room) s m args below meth c H locs 0 0 Q (F0 m 15 ls []) := by
  have hx := C.1
  have hb := C.2.1
  obtain ⟨hP, hD⟩ := hPD
  unfold fX7_whaleOf_n_15 at h
  exact nomatch h
set_option maxHeartbeats 4000000 in
set_option maxRecDepth 100000 in
theorem kX7_whaleOf_n (l : Launch) (D : va_G) (T : Nat → ClassId) (a_g a_gw a_gk a_x a_b a_v a_h a_r a_f a_u a_t a_n : Nat) (x_sav : Int32) (x_err : Int32) (x_rea : Int32) (x_det : Int32) (x_com : Int32) (v_gw : Nat → Int32) (v_gk : Nat → Int32) (p0 : Int32) (p1 : Int32) (sz : Nat) (r : Int32) (h : fX7_whaleOf_n v_gw v_gk p0 p1 = some r) : WrI l yX7_whaleOf cX7_whaleOf 3 .int ({ frames := 3, cells := 0, slots := 0, locals := 63 } : Room) D T sz [(a_g, .inr (1, [.ref a_gw, .ref a_gk])), (a_x, .inr (7, [.ref a_g, .ref a_b, .ref a_v, .ref a_h, .ref a_r, .ref a_f, .ref a_u, .ref a_t, .ref a_n, .int x_sav, .int x_err, .int x_rea, .int x_det, .int x_com])), (a_gw, .inl (T 0, 90, .inl v_gw)), (a_gk, .inl (T 0, 18, .inl v_gk))] [(a_g, .inr (1, [.ref a_gw, .ref a_gk])), (a_x, .inr (7, [.ref a_g, .ref a_b, .ref a_v, .ref a_h, .ref a_r, .ref a_f, .ref a_u, .ref a_t, .ref a_n, .int x_sav, .int x_err, .int x_rea, .int x_det, .int x_com])), (a_gw, .inl (T 0, 90, .inl v_gw)), (a_gk, .inl (T 0, 18, .inl v_gk))] [.ref a_x, .int p0, .int p1] r := by
  unfold fX7_whaleOf_n at h
  refine wrMet (by decide +kernel) rfl (fun p e s m args below meth c Q A C hE hA hP hD hS hret ls hl => ?_)
  have hx := C.1
  have hb := C.2.1
  have hl : lv_has ls 3 [(0, .ref a_x), (1, .int p0), (2, .int p1)] := hl
  refine lv_aload_n hx hb dX7_whaleOf_0 rfl (lv_at hl 0 rfl) ?_
  refine lv_iload_n hx hb dX7_whaleOf_1 rfl (lv_at hl 1 rfl) ?_
  replace h := bnd h; obtain ⟨q1, e2, h⟩ := h
  refine wrVv (ws1 := [(a_g, .inr (1, [.ref a_gw, .ref a_gk])), (a_x, .inr (7, [.ref a_g, .ref a_b, .ref a_v, .ref a_h, .ref a_r, .ref a_f, .ref a_u, .ref a_t, .ref a_n, .int x_sav, .int x_err, .int x_rea, .int x_det, .int x_com])), (a_gw, .inl (T 0, 90, .inl v_gw)), (a_gk, .inl (T 0, 18, .inl v_gk))]) C hE hP hD hS hA (kX7_demandWhale_n l D T a_g a_gw a_gk a_x a_b a_v a_h a_r a_f a_u a_t a_n x_sav x_err x_rea x_det x_com v_gk p0 _ q1 e2) mX7_demandWhale qLX7_138 [0, 1, 3] [2] 1 rfl rfl rfl rfl rfl rfl rfl rfl rfl ⟨rfl, rfl⟩ ⟨Nat.le_of_ble_eq_true rfl, Nat.le_of_ble_eq_true rfl⟩ rfl hl.1 rfl (Nat.le_of_ble_eq_true rfl) dX7_whaleOf_2 ⟨Nat.le_of_ble_eq_true rfl, Nat.le_of_ble_eq_true rfl⟩ ?_; clear hP hD hS; intro H locs hP hD hS
  refine lv_iload_n hx hb dX7_whaleOf_5 rfl (lv_at hl 2 rfl) ?_
  refine lv_if_lt (tgt := 15) hx hb dX7_whaleOf_6 (by decide) (fun c3 => ?_) (fun c3 => ?_)
  · replace h := ite_t c3 h
    exact lX7_whaleOf_n_15 C hE hA hret ⟨hP, hD⟩ hS _ (lv_sub hl [] rfl) h
  · replace h := ite_f c3 h
    refine lv_iload_n hx hb dX7_whaleOf_9 rfl (lv_at hl 2 rfl) ?_
    refine lv_bipush (v := 9) hx hb dX7_whaleOf_10 (by decide) ?_
    refine lv_icmp_lt (tgt := 25) hx hb dX7_whaleOf_12 (by decide) (fun c4 => ?_) (fun c4 => ?_)
    · replace h := ite_t c4 h
      refine lv_aload_n hx hb dX7_whaleOf_25 rfl (lv_at hl 0 rfl) ?_
      refine getF (q0 := 1) (k0 := 0) (v := .ref a_g) C hE hP inA7 rfl rfl (by decide) qFX7_10 rfl rfl dX7_whaleOf_26 ?_
      refine lv_iload_n hx hb dX7_whaleOf_29 rfl (lv_at hl 1 rfl) ?_
      refine lv_iload_n hx hb dX7_whaleOf_30 rfl (lv_at hl 2 rfl) ?_
      replace h := bnd h; obtain ⟨q5, e6, h⟩ := h
      refine rdV C hE hP (kX1_of l D T a_g a_gw a_gk v_gw p0 p1 q5 e6) mX1_of qLX7_148 [0, 2] 0 rfl rfl rfl rfl ⟨rfl, rfl⟩ ⟨Nat.le_of_ble_eq_true rfl, Nat.le_of_ble_eq_true rfl⟩ rfl hl.1 rfl (Nat.le_of_ble_eq_true rfl) dX7_whaleOf_31 ⟨Nat.le_of_ble_eq_true rfl, Nat.le_of_ble_eq_true rfl⟩ ?_
      replace h := Option.some.inj h
      exact hret _ _ _ _ _ _ dX7_whaleOf_34 rfl (by rw [← h] <;> rfl) hP hS
    · replace h := ite_f c4 h
      exact lX7_whaleOf_n_15 C hE hA hret ⟨hP, hD⟩ hS _ (lv_sub hl [] rfl) h

def fX7_account_n_10 (t_len : Int32) (h_siz : Int32) (v_gw : Nat → Int32) (v_gk : Nat → Int32) : Option Int32 :=
  none
def fX7_account_n (t_len : Int32) (h_siz : Int32) (v_gw : Nat → Int32) (v_gk : Nat → Int32) (p0 : Int32) : Option Int32 :=
  if p0 < 0 then
    fX7_account_n_10 t_len h_siz v_gw v_gk
  else
    if p0 < 14 then
      if p0 = 2 then
        (fX1_count v_gk 1).bind fun q4 =>
        some (q4 / 12)
      else
        if p0 = 10 then
          (fX1_countPlaying v_gw v_gk 0).bind fun q7 =>
          (fX1_countPlaying v_gw v_gk 1).bind fun q9 =>
          some (q7 + q9)
        else
          if p0 = 12 then
            some (fX5_length t_len)
          else
            if p0 = 13 then
              some (fX2_size h_siz)
            else
              (fX1_count v_gk p0).bind fun q13 =>
              some q13
    else
      fX7_account_n_10 t_len h_siz v_gw v_gk
set_option maxHeartbeats 4000000 in
set_option maxRecDepth 100000 in
theorem lX7_account_n_10 {p : Program} {l : Launch} {e : Env} {s : State} {m : MethodId} {args : Array Value} {below : List Frame} {meth : Method} {c : Code} {Q : State → Prop} {D : va_G} {T : Nat → ClassId} {a_g a_gw a_gk a_t a_ti a_tn a_h a_hp a_x a_b a_v a_r a_f a_u a_n : Nat} {t_len : Int32} {t_cur : Int32} {t_kin : Int32} {t_tol : Int32} {t_don : Int32} {h_old : Int32} {h_siz : Int32} {x_sav : Int32} {x_err : Int32} {x_rea : Int32} {x_det : Int32} {x_com : Int32} {v_gw : Nat → Int32} {v_gk : Nat → Int32} {A : Nat → Prop} {r : Int32} (C : CallFix p m c cX7_account 2 s args aw RX7) (hE : eK D T s) (hA : ∀ q : Nat, s.heap.size ≤ q → A q) (hret : WrRet p l e ({ frames := 3, cells := 0, slots := 0, locals := 67 } : Room) s m args below meth c Q cX7_account .int D A [(a_g, .inr (1, [.ref a_gw, .ref a_gk])), (a_t, .inr (5, [.ref a_ti, .ref a_tn, .int t_len, .int t_cur, .int t_kin, .int t_tol, .int t_don])), (a_h, .inr (2, [.ref a_hp, .int h_old, .int h_siz])), (a_x, .inr (7, [.ref a_g, .ref a_b, .ref a_v, .ref a_h, .ref a_r, .ref a_f, .ref a_u, .ref a_t, .ref a_n, .int x_sav, .int x_err, .int x_rea, .int x_det, .int x_com])), (a_gw, .inl (T 0, 90, .inl v_gw)), (a_gk, .inl (T 0, 18, .inl v_gk))] r) {H : Heap} {locs : List Loc} (hPD : va_PD D A [(a_g, .inr (1, [.ref a_gw, .ref a_gk])), (a_t, .inr (5, [.ref a_ti, .ref a_tn, .int t_len, .int t_cur, .int t_kin, .int t_tol, .int t_don])), (a_h, .inr (2, [.ref a_hp, .int h_old, .int h_siz])), (a_x, .inr (7, [.ref a_g, .ref a_b, .ref a_v, .ref a_h, .ref a_r, .ref a_f, .ref a_u, .ref a_t, .ref a_n, .int x_sav, .int x_err, .int x_rea, .int x_det, .int x_com])), (a_gw, .inl (T 0, 90, .inl v_gw)), (a_gk, .inl (T 0, 18, .inl v_gk))] H) (hS : va_S A s.heap H locs) (ls : Array Slot) (hl : lv_has ls 2 []) (h : fX7_account_n_10 t_len h_siz v_gw v_gk = some r) : W p l e ({ frames := 3, cells := 0, slots := 0, locals := 67 } : Room) s m args below meth c H locs 0 0 Q (F0 m 10 ls []) := by
  have hx := C.1
  have hb := C.2.1
  obtain ⟨hP, hD⟩ := hPD
  unfold fX7_account_n_10 at h
  exact nomatch h
set_option maxHeartbeats 4000000 in
set_option maxRecDepth 100000 in
theorem kX7_account_n (l : Launch) (D : va_G) (T : Nat → ClassId) (a_g a_gw a_gk a_t a_ti a_tn a_h a_hp a_x a_b a_v a_r a_f a_u a_n : Nat) (t_len : Int32) (t_cur : Int32) (t_kin : Int32) (t_tol : Int32) (t_don : Int32) (h_old : Int32) (h_siz : Int32) (x_sav : Int32) (x_err : Int32) (x_rea : Int32) (x_det : Int32) (x_com : Int32) (v_gw : Nat → Int32) (v_gk : Nat → Int32) (p0 : Int32) (sz : Nat) (r : Int32) (h : fX7_account_n t_len h_siz v_gw v_gk p0 = some r) : WrI l yX7_account cX7_account 2 .int ({ frames := 3, cells := 0, slots := 0, locals := 67 } : Room) D T sz [(a_g, .inr (1, [.ref a_gw, .ref a_gk])), (a_t, .inr (5, [.ref a_ti, .ref a_tn, .int t_len, .int t_cur, .int t_kin, .int t_tol, .int t_don])), (a_h, .inr (2, [.ref a_hp, .int h_old, .int h_siz])), (a_x, .inr (7, [.ref a_g, .ref a_b, .ref a_v, .ref a_h, .ref a_r, .ref a_f, .ref a_u, .ref a_t, .ref a_n, .int x_sav, .int x_err, .int x_rea, .int x_det, .int x_com])), (a_gw, .inl (T 0, 90, .inl v_gw)), (a_gk, .inl (T 0, 18, .inl v_gk))] [(a_g, .inr (1, [.ref a_gw, .ref a_gk])), (a_t, .inr (5, [.ref a_ti, .ref a_tn, .int t_len, .int t_cur, .int t_kin, .int t_tol, .int t_don])), (a_h, .inr (2, [.ref a_hp, .int h_old, .int h_siz])), (a_x, .inr (7, [.ref a_g, .ref a_b, .ref a_v, .ref a_h, .ref a_r, .ref a_f, .ref a_u, .ref a_t, .ref a_n, .int x_sav, .int x_err, .int x_rea, .int x_det, .int x_com])), (a_gw, .inl (T 0, 90, .inl v_gw)), (a_gk, .inl (T 0, 18, .inl v_gk))] [.ref a_x, .int p0] r := by
  unfold fX7_account_n at h
  refine wrMet (by decide +kernel) rfl (fun p e s m args below meth c Q A C hE hA hP hD hS hret ls hl => ?_)
  have hx := C.1
  have hb := C.2.1
  have hl : lv_has ls 2 [(0, .ref a_x), (1, .int p0)] := hl
  refine lv_iload_n hx hb dX7_account_0 rfl (lv_at hl 1 rfl) ?_
  refine lv_if_lt (tgt := 10) hx hb dX7_account_1 (by decide) (fun c1 => ?_) (fun c1 => ?_)
  · replace h := ite_t c1 h
    exact lX7_account_n_10 C hE hA hret ⟨hP, hD⟩ hS _ (lv_sub hl [] rfl) h
  · replace h := ite_f c1 h
    refine lv_iload_n hx hb dX7_account_4 rfl (lv_at hl 1 rfl) ?_
    refine lv_bipush (v := 14) hx hb dX7_account_5 (by decide) ?_
    refine lv_icmp_lt (tgt := 21) hx hb dX7_account_7 (by decide) (fun c2 => ?_) (fun c2 => ?_)
    · replace h := ite_t c2 h
      refine lv_iload_n hx hb dX7_account_21 rfl (lv_at hl 1 rfl) ?_
      by_cases c3 : p0 = 2
      · replace h := ite_t c3 h
        refine lv_lookup (off := 42) (tgt := 64) hx hb dX7_account_22 (by decide) (by rw [c3] <;> rfl) (by decide) ?_
        refine lv_aload_n hx hb dX7_account_64 rfl (lv_at hl 0 rfl) ?_
        refine getF (q0 := 3) (k0 := 0) (v := .ref a_g) C hE hP inA7 rfl rfl (by decide) qFX7_10 rfl rfl dX7_account_65 ?_
        refine lv_iconst (v := 1) hx hb dX7_account_68 (by decide) ?_
        replace h := bnd h; obtain ⟨q4, e5, h⟩ := h
        refine rdV C hE hP (kX1_count l D T a_g a_gw a_gk v_gk 1 q4 e5) mX1_count qLX7_235 [0, 5] 0 rfl rfl rfl rfl ⟨rfl, rfl⟩ ⟨Nat.le_of_ble_eq_true rfl, Nat.le_of_ble_eq_true rfl⟩ rfl hl.1 rfl (Nat.le_of_ble_eq_true rfl) dX7_account_69 ⟨Nat.le_of_ble_eq_true rfl, Nat.le_of_ble_eq_true rfl⟩ ?_
        refine lv_bipush (v := 12) hx hb dX7_account_72 (by decide) ?_
        refine lv_idiv hx hb dX7_account_74 (by decide) ?_
        replace h := Option.some.inj h
        exact hret _ _ _ _ _ _ dX7_account_75 rfl (by rw [← h] <;> rfl) hP hS
      · replace h := ite_f c3 h
        by_cases c6 : p0 = 10
        · replace h := ite_t c6 h
          refine lv_lookup (off := 54) (tgt := 76) hx hb dX7_account_22 (by decide) (by rw [c6] <;> rfl) (by decide) ?_
          refine lv_aload_n hx hb dX7_account_76 rfl (lv_at hl 0 rfl) ?_
          refine getF (q0 := 3) (k0 := 0) (v := .ref a_g) C hE hP inA7 rfl rfl (by decide) qFX7_10 rfl rfl dX7_account_77 ?_
          refine lv_iconst (v := 0) hx hb dX7_account_80 (by decide) ?_
          replace h := bnd h; obtain ⟨q7, e8, h⟩ := h
          refine rdV C hE hP (kX1_countPlaying l D T a_g a_gw a_gk v_gw v_gk 0 q7 e8) mX1_countPlaying qLX7_305 [0, 4, 5] 0 rfl rfl rfl rfl ⟨rfl, rfl⟩ ⟨Nat.le_of_ble_eq_true rfl, Nat.le_of_ble_eq_true rfl⟩ rfl hl.1 rfl (Nat.le_of_ble_eq_true rfl) dX7_account_81 ⟨Nat.le_of_ble_eq_true rfl, Nat.le_of_ble_eq_true rfl⟩ ?_
          refine lv_aload_n hx hb dX7_account_84 rfl (lv_at hl 0 rfl) ?_
          refine getF (q0 := 3) (k0 := 0) (v := .ref a_g) C hE hP inA7 rfl rfl (by decide) qFX7_10 rfl rfl dX7_account_85 ?_
          refine lv_iconst (v := 1) hx hb dX7_account_88 (by decide) ?_
          replace h := bnd h; obtain ⟨q9, e10, h⟩ := h
          refine rdV C hE hP (kX1_countPlaying l D T a_g a_gw a_gk v_gw v_gk 1 q9 e10) mX1_countPlaying qLX7_305 [0, 4, 5] 0 rfl rfl rfl rfl ⟨rfl, rfl⟩ ⟨Nat.le_of_ble_eq_true rfl, Nat.le_of_ble_eq_true rfl⟩ rfl hl.1 rfl (Nat.le_of_ble_eq_true rfl) dX7_account_89 ⟨Nat.le_of_ble_eq_true rfl, Nat.le_of_ble_eq_true rfl⟩ ?_
          refine lv_iadd hx hb dX7_account_92 ?_
          replace h := Option.some.inj h
          exact hret _ _ _ _ _ _ dX7_account_93 rfl (by rw [← h] <;> rfl) hP hS
        · replace h := ite_f c6 h
          by_cases c11 : p0 = 12
          · replace h := ite_t c11 h
            refine lv_lookup (off := 72) (tgt := 94) hx hb dX7_account_22 (by decide) (by rw [c11] <;> rfl) (by decide) ?_
            refine lv_aload_n hx hb dX7_account_94 rfl (lv_at hl 0 rfl) ?_
            refine getF (q0 := 3) (k0 := 7) (v := .ref a_t) C hE hP inA7 rfl rfl (by decide) qFX7_57 rfl rfl dX7_account_95 ?_
            refine rdV C hE hP (kX5_length l D T a_t a_ti a_tn t_len t_cur t_kin t_tol t_don) mX5_length qLX7_308 [1] 1 rfl rfl rfl rfl ⟨rfl, rfl⟩ ⟨Nat.le_of_ble_eq_true rfl, Nat.le_of_ble_eq_true rfl⟩ rfl hl.1 rfl (Nat.le_of_ble_eq_true rfl) dX7_account_98 ⟨Nat.le_of_ble_eq_true rfl, Nat.le_of_ble_eq_true rfl⟩ ?_
            replace h := Option.some.inj h
            exact hret _ _ _ _ _ _ dX7_account_101 rfl (by rw [← h] <;> rfl) hP hS
          · replace h := ite_f c11 h
            by_cases c12 : p0 = 13
            · replace h := ite_t c12 h
              refine lv_lookup (off := 80) (tgt := 102) hx hb dX7_account_22 (by decide) (by rw [c12] <;> rfl) (by decide) ?_
              refine lv_aload_n hx hb dX7_account_102 rfl (lv_at hl 0 rfl) ?_
              refine getF (q0 := 3) (k0 := 3) (v := .ref a_h) C hE hP inA7 rfl rfl (by decide) qFX7_25 rfl rfl dX7_account_103 ?_
              refine rdV C hE hP (kX2_size l D T a_h a_hp h_old h_siz) mX2_size qLX7_309 [2] 2 rfl rfl rfl rfl ⟨rfl, rfl⟩ ⟨Nat.le_of_ble_eq_true rfl, Nat.le_of_ble_eq_true rfl⟩ rfl hl.1 rfl (Nat.le_of_ble_eq_true rfl) dX7_account_106 ⟨Nat.le_of_ble_eq_true rfl, Nat.le_of_ble_eq_true rfl⟩ ?_
              replace h := Option.some.inj h
              exact hret _ _ _ _ _ _ dX7_account_109 rfl (by rw [← h] <;> rfl) hP hS
            · replace h := ite_f c12 h
              refine lv_lookup (off := 88) (tgt := 110) hx hb dX7_account_22 (by decide) (by show Op.lookupswitch.offset [(2, 42), (10, 54), (12, 72), (13, 80)] 88 _ = _; rw [lv_osw (a := 2) c3 rfl, lv_osw (a := 10) c6 rfl, lv_osw (a := 12) c11 rfl, lv_osw (a := 13) c12 rfl] <;> rfl) (by decide) ?_
              refine lv_aload_n hx hb dX7_account_110 rfl (lv_at hl 0 rfl) ?_
              refine getF (q0 := 3) (k0 := 0) (v := .ref a_g) C hE hP inA7 rfl rfl (by decide) qFX7_10 rfl rfl dX7_account_111 ?_
              refine lv_iload_n hx hb dX7_account_114 rfl (lv_at hl 1 rfl) ?_
              replace h := bnd h; obtain ⟨q13, e14, h⟩ := h
              refine rdV C hE hP (kX1_count l D T a_g a_gw a_gk v_gk p0 q13 e14) mX1_count qLX7_235 [0, 5] 0 rfl rfl rfl rfl ⟨rfl, rfl⟩ ⟨Nat.le_of_ble_eq_true rfl, Nat.le_of_ble_eq_true rfl⟩ rfl hl.1 rfl (Nat.le_of_ble_eq_true rfl) dX7_account_115 ⟨Nat.le_of_ble_eq_true rfl, Nat.le_of_ble_eq_true rfl⟩ ?_
              replace h := Option.some.inj h
              exact hret _ _ _ _ _ _ dX7_account_118 rfl (by rw [← h] <;> rfl) hP hS
    · replace h := ite_f c2 h
      exact lX7_account_n_10 C hE hA hret ⟨hP, hD⟩ hS _ (lv_sub hl [] rfl) h

def fX7_demandCell_n (p0 : Int32) : Option Unit :=
  if (fX7_isCell p0) = 0 then
    none
  else
    some ()
set_option maxHeartbeats 4000000 in
set_option maxRecDepth 100000 in
theorem kX7_demandCell_n (l : Launch) (D : va_G) (T : Nat → ClassId) (a_x : Nat) (p0 : Int32) (sz : Nat) (r : Unit) (h : fX7_demandCell_n p0 = some r) : WrV l yX7_demandCell cX7_demandCell 2 ({ frames := 1, cells := 0, slots := 0, locals := 20 } : Room) D T sz [] [] [.ref a_x, .int p0] := by
  unfold fX7_demandCell_n at h
  refine wrMetV (by decide +kernel) rfl (fun p e s m args below meth c Q A C hE hA hP hD hS hret ls hl => ?_)
  have hx := C.1
  have hb := C.2.1
  have hl : lv_has ls 2 [(0, .ref a_x), (1, .int p0)] := hl
  refine lv_iload_n hx hb dX7_demandCell_0 rfl (lv_at hl 1 rfl) ?_
  refine rdS C hE hP (kX7_isCell l D T p0) mX7_isCell qLX7_389 [] rfl ⟨rfl, rfl⟩ ⟨Nat.le_of_ble_eq_true rfl, Nat.le_of_ble_eq_true rfl⟩ rfl hl.1 rfl (Nat.le_of_ble_eq_true rfl) dX7_demandCell_1 ⟨Nat.le_of_ble_eq_true rfl, Nat.le_of_ble_eq_true rfl⟩ ?_
  refine lv_if_ne (tgt := 18) hx hb dX7_demandCell_4 (by decide) (fun c1 => ?_) (fun c1 => ?_)
  · replace h := ite_f c1 h
    replace h := Option.some.inj h
    exact hret _ _ _ _ dX7_demandCell_18 hP hS
  · replace h := ite_t c1 h
    exact nomatch h

def fX7_at_n (v_gw : Nat → Int32) (v_gk : Nat → Int32) (p0 : Int32) : Option Int32 :=
  (fX7_demandCell_n p0).bind fun q1 =>
  (fX1_whaleOn v_gw v_gk p0).bind fun q3 =>
  some q3
set_option maxHeartbeats 4000000 in
set_option maxRecDepth 100000 in
theorem kX7_at_n (l : Launch) (D : va_G) (T : Nat → ClassId) (a_g a_gw a_gk a_x a_b a_v a_h a_r a_f a_u a_t a_n : Nat) (x_sav : Int32) (x_err : Int32) (x_rea : Int32) (x_det : Int32) (x_com : Int32) (v_gw : Nat → Int32) (v_gk : Nat → Int32) (p0 : Int32) (sz : Nat) (r : Int32) (h : fX7_at_n v_gw v_gk p0 = some r) : WrI l yX7_at cX7_at 2 .int ({ frames := 2, cells := 0, slots := 0, locals := 45 } : Room) D T sz [(a_g, .inr (1, [.ref a_gw, .ref a_gk])), (a_x, .inr (7, [.ref a_g, .ref a_b, .ref a_v, .ref a_h, .ref a_r, .ref a_f, .ref a_u, .ref a_t, .ref a_n, .int x_sav, .int x_err, .int x_rea, .int x_det, .int x_com])), (a_gw, .inl (T 0, 90, .inl v_gw)), (a_gk, .inl (T 0, 18, .inl v_gk))] [(a_g, .inr (1, [.ref a_gw, .ref a_gk])), (a_x, .inr (7, [.ref a_g, .ref a_b, .ref a_v, .ref a_h, .ref a_r, .ref a_f, .ref a_u, .ref a_t, .ref a_n, .int x_sav, .int x_err, .int x_rea, .int x_det, .int x_com])), (a_gw, .inl (T 0, 90, .inl v_gw)), (a_gk, .inl (T 0, 18, .inl v_gk))] [.ref a_x, .int p0] r := by
  unfold fX7_at_n at h
  refine wrMet (by decide +kernel) rfl (fun p e s m args below meth c Q A C hE hA hP hD hS hret ls hl => ?_)
  have hx := C.1
  have hb := C.2.1
  have hl : lv_has ls 2 [(0, .ref a_x), (1, .int p0)] := hl
  refine lv_aload_n hx hb dX7_at_0 rfl (lv_at hl 0 rfl) ?_
  refine lv_iload_n hx hb dX7_at_1 rfl (lv_at hl 1 rfl) ?_
  replace h := bnd h; obtain ⟨q1, e2, h⟩ := h
  refine wrVv (ws1 := [(a_g, .inr (1, [.ref a_gw, .ref a_gk])), (a_x, .inr (7, [.ref a_g, .ref a_b, .ref a_v, .ref a_h, .ref a_r, .ref a_f, .ref a_u, .ref a_t, .ref a_n, .int x_sav, .int x_err, .int x_rea, .int x_det, .int x_com])), (a_gw, .inl (T 0, 90, .inl v_gw)), (a_gk, .inl (T 0, 18, .inl v_gk))]) C hE hP hD hS hA (kX7_demandCell_n l D T a_x p0 _ q1 e2) mX7_demandCell qLX7_151 [] [0, 1, 2, 3] 1 rfl rfl rfl rfl rfl rfl rfl rfl rfl ⟨rfl, rfl⟩ ⟨Nat.le_of_ble_eq_true rfl, Nat.le_of_ble_eq_true rfl⟩ rfl hl.1 rfl (Nat.le_of_ble_eq_true rfl) dX7_at_2 ⟨Nat.le_of_ble_eq_true rfl, Nat.le_of_ble_eq_true rfl⟩ ?_; clear hP hD hS; intro H locs hP hD hS
  refine lv_aload_n hx hb dX7_at_5 rfl (lv_at hl 0 rfl) ?_
  refine getF (q0 := 1) (k0 := 0) (v := .ref a_g) C hE hP inA7 rfl rfl (by decide) qFX7_10 rfl rfl dX7_at_6 ?_
  refine lv_iload_n hx hb dX7_at_9 rfl (lv_at hl 1 rfl) ?_
  replace h := bnd h; obtain ⟨q3, e4, h⟩ := h
  refine rdV C hE hP (kX1_whaleOn l D T a_g a_gw a_gk v_gw v_gk p0 q3 e4) mX1_whaleOn qLX7_154 [0, 2, 3] 0 rfl rfl rfl rfl ⟨rfl, rfl⟩ ⟨Nat.le_of_ble_eq_true rfl, Nat.le_of_ble_eq_true rfl⟩ rfl hl.1 rfl (Nat.le_of_ble_eq_true rfl) dX7_at_10 ⟨Nat.le_of_ble_eq_true rfl, Nat.le_of_ble_eq_true rfl⟩ ?_
  replace h := Option.some.inj h
  exact hret _ _ _ _ _ _ dX7_at_13 rfl (by rw [← h] <;> rfl) hP hS

def fX7_wouldFoul_n (v_gw : Nat → Int32) (v_gk : Nat → Int32) (p0 : Int32) : Option Int32 :=
  (fX7_demandWhale_n v_gk p0).bind fun q1 =>
  (fX1_isFoulBy v_gw v_gk p0).bind fun q3 =>
  some (q3 &&& 1)
set_option maxHeartbeats 4000000 in
set_option maxRecDepth 100000 in
theorem kX7_wouldFoul_n (l : Launch) (D : va_G) (T : Nat → ClassId) (a_g a_gw a_gk a_x a_b a_v a_h a_r a_f a_u a_t a_n : Nat) (x_sav : Int32) (x_err : Int32) (x_rea : Int32) (x_det : Int32) (x_com : Int32) (v_gw : Nat → Int32) (v_gk : Nat → Int32) (p0 : Int32) (sz : Nat) (r : Int32) (h : fX7_wouldFoul_n v_gw v_gk p0 = some r) : WrI l yX7_wouldFoul cX7_wouldFoul 2 .boolean ({ frames := 4, cells := 0, slots := 0, locals := 89 } : Room) D T sz [(a_g, .inr (1, [.ref a_gw, .ref a_gk])), (a_x, .inr (7, [.ref a_g, .ref a_b, .ref a_v, .ref a_h, .ref a_r, .ref a_f, .ref a_u, .ref a_t, .ref a_n, .int x_sav, .int x_err, .int x_rea, .int x_det, .int x_com])), (a_gw, .inl (T 0, 90, .inl v_gw)), (a_gk, .inl (T 0, 18, .inl v_gk))] [(a_g, .inr (1, [.ref a_gw, .ref a_gk])), (a_x, .inr (7, [.ref a_g, .ref a_b, .ref a_v, .ref a_h, .ref a_r, .ref a_f, .ref a_u, .ref a_t, .ref a_n, .int x_sav, .int x_err, .int x_rea, .int x_det, .int x_com])), (a_gw, .inl (T 0, 90, .inl v_gw)), (a_gk, .inl (T 0, 18, .inl v_gk))] [.ref a_x, .int p0] r := by
  unfold fX7_wouldFoul_n at h
  refine wrMet (by decide +kernel) rfl (fun p e s m args below meth c Q A C hE hA hP hD hS hret ls hl => ?_)
  have hx := C.1
  have hb := C.2.1
  have hl : lv_has ls 2 [(0, .ref a_x), (1, .int p0)] := hl
  refine lv_aload_n hx hb dX7_wouldFoul_0 rfl (lv_at hl 0 rfl) ?_
  refine lv_iload_n hx hb dX7_wouldFoul_1 rfl (lv_at hl 1 rfl) ?_
  replace h := bnd h; obtain ⟨q1, e2, h⟩ := h
  refine wrVv (ws1 := [(a_g, .inr (1, [.ref a_gw, .ref a_gk])), (a_x, .inr (7, [.ref a_g, .ref a_b, .ref a_v, .ref a_h, .ref a_r, .ref a_f, .ref a_u, .ref a_t, .ref a_n, .int x_sav, .int x_err, .int x_rea, .int x_det, .int x_com])), (a_gw, .inl (T 0, 90, .inl v_gw)), (a_gk, .inl (T 0, 18, .inl v_gk))]) C hE hP hD hS hA (kX7_demandWhale_n l D T a_g a_gw a_gk a_x a_b a_v a_h a_r a_f a_u a_t a_n x_sav x_err x_rea x_det x_com v_gk p0 _ q1 e2) mX7_demandWhale qLX7_138 [0, 1, 3] [2] 1 rfl rfl rfl rfl rfl rfl rfl rfl rfl ⟨rfl, rfl⟩ ⟨Nat.le_of_ble_eq_true rfl, Nat.le_of_ble_eq_true rfl⟩ rfl hl.1 rfl (Nat.le_of_ble_eq_true rfl) dX7_wouldFoul_2 ⟨Nat.le_of_ble_eq_true rfl, Nat.le_of_ble_eq_true rfl⟩ ?_; clear hP hD hS; intro H locs hP hD hS
  refine lv_aload_n hx hb dX7_wouldFoul_5 rfl (lv_at hl 0 rfl) ?_
  refine getF (q0 := 1) (k0 := 0) (v := .ref a_g) C hE hP inA7 rfl rfl (by decide) qFX7_10 rfl rfl dX7_wouldFoul_6 ?_
  refine lv_iload_n hx hb dX7_wouldFoul_9 rfl (lv_at hl 1 rfl) ?_
  replace h := bnd h; obtain ⟨q3, e4, h⟩ := h
  refine rdV C hE hP (kX1_isFoulBy l D T a_g a_gw a_gk v_gw v_gk p0 q3 e4) mX1_isFoulBy qLX7_224 [0, 2, 3] 0 rfl rfl rfl rfl ⟨rfl, rfl⟩ ⟨Nat.le_of_ble_eq_true rfl, Nat.le_of_ble_eq_true rfl⟩ rfl hl.1 rfl (Nat.le_of_ble_eq_true rfl) dX7_wouldFoul_10 ⟨Nat.le_of_ble_eq_true rfl, Nat.le_of_ble_eq_true rfl⟩ ?_
  replace h := Option.some.inj h
  exact hret _ _ _ _ _ _ dX7_wouldFoul_13 rfl (by rw [← h] <;> rfl) hP hS

def fX7_demandTeam_n (p0 : Int32) : Option Unit :=
  if (fX7_isTeam p0) = 0 then
    none
  else
    some ()
set_option maxHeartbeats 4000000 in
set_option maxRecDepth 100000 in
theorem kX7_demandTeam_n (l : Launch) (D : va_G) (T : Nat → ClassId) (a_x : Nat) (p0 : Int32) (sz : Nat) (r : Unit) (h : fX7_demandTeam_n p0 = some r) : WrV l yX7_demandTeam cX7_demandTeam 2 ({ frames := 1, cells := 0, slots := 0, locals := 20 } : Room) D T sz [] [] [.ref a_x, .int p0] := by
  unfold fX7_demandTeam_n at h
  refine wrMetV (by decide +kernel) rfl (fun p e s m args below meth c Q A C hE hA hP hD hS hret ls hl => ?_)
  have hx := C.1
  have hb := C.2.1
  have hl : lv_has ls 2 [(0, .ref a_x), (1, .int p0)] := hl
  refine lv_iload_n hx hb dX7_demandTeam_0 rfl (lv_at hl 1 rfl) ?_
  refine rdS C hE hP (kX7_isTeam l D T p0) mX7_isTeam qLX7_396 [] rfl ⟨rfl, rfl⟩ ⟨Nat.le_of_ble_eq_true rfl, Nat.le_of_ble_eq_true rfl⟩ rfl hl.1 rfl (Nat.le_of_ble_eq_true rfl) dX7_demandTeam_1 ⟨Nat.le_of_ble_eq_true rfl, Nat.le_of_ble_eq_true rfl⟩ ?_
  refine lv_if_ne (tgt := 18) hx hb dX7_demandTeam_4 (by decide) (fun c1 => ?_) (fun c1 => ?_)
  · replace h := ite_f c1 h
    replace h := Option.some.inj h
    exact hret _ _ _ _ dX7_demandTeam_18 hP hS
  · replace h := ite_t c1 h
    exact nomatch h

def fX7_beside_n_48 (v_gw : Nat → Int32) (v_gk : Nat → Int32) (rec9 : Int32 → Int32 → Int32 → Option Int32) (l1 : Int32) (l2 : Int32) (l3 : Int32) : Option Int32 :=
  rec9 l1 l2 (l3 + 1)
def fX7_beside_n_9 (v_gw : Nat → Int32) (v_gk : Nat → Int32) : Nat → Int32 → Int32 → Int32 → Option Int32
  | 0, _, _, _ => none
  | k + 1, l1, l2, l3 =>
    (fX1_count v_gk 0).bind fun q3 =>
    if q3 ≤ l3 then
      some l2
    else
      (fX1_of v_gw l3 0).bind fun q6 =>
      if q6 = l1 then
        (fX1_isNearBuoy v_gw v_gk l3).bind fun q9 =>
        fX7_beside_n_48 v_gw v_gk (fX7_beside_n_9 v_gw v_gk k) l1 (if q9 = 0 then l2 else (l2 + 1)) l3
      else
        fX7_beside_n_48 v_gw v_gk (fX7_beside_n_9 v_gw v_gk k) l1 l2 l3
def fX7_beside_n (v_gw : Nat → Int32) (v_gk : Nat → Int32) (p0 : Int32) : Option Int32 :=
  (fX7_demandTeam_n p0).bind fun q1 =>
  fX7_beside_n_9 v_gw v_gk 64 p0 0 0
set_option maxHeartbeats 4000000 in
set_option maxRecDepth 100000 in
theorem lX7_beside_n_48 {p : Program} {l : Launch} {e : Env} {s : State} {m : MethodId} {args : Array Value} {below : List Frame} {meth : Method} {c : Code} {Q : State → Prop} {D : va_G} {T : Nat → ClassId} {a_g a_gw a_gk a_x a_b a_v a_h a_r a_f a_u a_t a_n : Nat} {x_sav : Int32} {x_err : Int32} {x_rea : Int32} {x_det : Int32} {x_com : Int32} {v_gw : Nat → Int32} {v_gk : Nat → Int32} {A : Nat → Prop} {r : Int32} (C : CallFix p m c cX7_beside 4 s args aw RX7) (hE : eK D T s) (hA : ∀ q : Nat, s.heap.size ≤ q → A q) (hret : WrRet p l e ({ frames := 3, cells := 0, slots := 0, locals := 66 } : Room) s m args below meth c Q cX7_beside .int D A [(a_g, .inr (1, [.ref a_gw, .ref a_gk])), (a_x, .inr (7, [.ref a_g, .ref a_b, .ref a_v, .ref a_h, .ref a_r, .ref a_f, .ref a_u, .ref a_t, .ref a_n, .int x_sav, .int x_err, .int x_rea, .int x_det, .int x_com])), (a_gw, .inl (T 0, 90, .inl v_gw)), (a_gk, .inl (T 0, 18, .inl v_gk))] r) {rec9 : Int32 → Int32 → Int32 → Option Int32} (hrec9 : ∀ (l1 : Int32) (l2 : Int32) (l3 : Int32) {H : Heap} {locs : List Loc} (hPD : va_PD D A [(a_g, .inr (1, [.ref a_gw, .ref a_gk])), (a_x, .inr (7, [.ref a_g, .ref a_b, .ref a_v, .ref a_h, .ref a_r, .ref a_f, .ref a_u, .ref a_t, .ref a_n, .int x_sav, .int x_err, .int x_rea, .int x_det, .int x_com])), (a_gw, .inl (T 0, 90, .inl v_gw)), (a_gk, .inl (T 0, 18, .inl v_gk))] H) (hS : va_S A s.heap H locs) (ls : Array Slot) (hl : lv_has ls 4 [(0, .ref a_x), (1, .int l1), (2, .int l2), (3, .int l3)]) (h : rec9 l1 l2 l3 = some r), W p l e ({ frames := 3, cells := 0, slots := 0, locals := 66 } : Room) s m args below meth c H locs 0 0 Q (F0 m 9 ls [])) (l1 : Int32) (l2 : Int32) (l3 : Int32) {H : Heap} {locs : List Loc} (hPD : va_PD D A [(a_g, .inr (1, [.ref a_gw, .ref a_gk])), (a_x, .inr (7, [.ref a_g, .ref a_b, .ref a_v, .ref a_h, .ref a_r, .ref a_f, .ref a_u, .ref a_t, .ref a_n, .int x_sav, .int x_err, .int x_rea, .int x_det, .int x_com])), (a_gw, .inl (T 0, 90, .inl v_gw)), (a_gk, .inl (T 0, 18, .inl v_gk))] H) (hS : va_S A s.heap H locs) (ls : Array Slot) (hl : lv_has ls 4 [(0, .ref a_x), (1, .int l1), (2, .int l2), (3, .int l3)]) (h : fX7_beside_n_48 v_gw v_gk rec9 l1 l2 l3 = some r) : W p l e ({ frames := 3, cells := 0, slots := 0, locals := 66 } : Room) s m args below meth c H locs 0 0 Q (F0 m 48 ls []) := by
  have hx := C.1
  have hb := C.2.1
  obtain ⟨hP, hD⟩ := hPD
  unfold fX7_beside_n_48 at h
  refine lv_iinc (v := (l3 + 1)) (lv' := [(3, .int (l3 + 1)), (0, .ref a_x), (1, .int l1), (2, .int l2)]) hx hb dX7_beside_48 hl (k := 3) rfl rfl (by decide) rfl (fun ls hl => ?_)
  refine lv_goto (tgt := 9) hx hb dX7_beside_51 (by decide) ?_
  exact hrec9 l1 l2 (l3 + 1) ⟨hP, hD⟩ hS _ (lv_sub hl [1, 2, 3, 0] rfl) h
set_option maxHeartbeats 4000000 in
set_option maxRecDepth 100000 in
theorem lX7_beside_n_9 {p : Program} {l : Launch} {e : Env} {s : State} {m : MethodId} {args : Array Value} {below : List Frame} {meth : Method} {c : Code} {Q : State → Prop} {D : va_G} {T : Nat → ClassId} {a_g a_gw a_gk a_x a_b a_v a_h a_r a_f a_u a_t a_n : Nat} {x_sav : Int32} {x_err : Int32} {x_rea : Int32} {x_det : Int32} {x_com : Int32} {v_gw : Nat → Int32} {v_gk : Nat → Int32} {A : Nat → Prop} {r : Int32} (C : CallFix p m c cX7_beside 4 s args aw RX7) (hE : eK D T s) (hA : ∀ q : Nat, s.heap.size ≤ q → A q) (hret : WrRet p l e ({ frames := 3, cells := 0, slots := 0, locals := 66 } : Room) s m args below meth c Q cX7_beside .int D A [(a_g, .inr (1, [.ref a_gw, .ref a_gk])), (a_x, .inr (7, [.ref a_g, .ref a_b, .ref a_v, .ref a_h, .ref a_r, .ref a_f, .ref a_u, .ref a_t, .ref a_n, .int x_sav, .int x_err, .int x_rea, .int x_det, .int x_com])), (a_gw, .inl (T 0, 90, .inl v_gw)), (a_gk, .inl (T 0, 18, .inl v_gk))] r) : ∀ (k : Nat) (l1 : Int32) (l2 : Int32) (l3 : Int32) {H : Heap} {locs : List Loc} (hPD : va_PD D A [(a_g, .inr (1, [.ref a_gw, .ref a_gk])), (a_x, .inr (7, [.ref a_g, .ref a_b, .ref a_v, .ref a_h, .ref a_r, .ref a_f, .ref a_u, .ref a_t, .ref a_n, .int x_sav, .int x_err, .int x_rea, .int x_det, .int x_com])), (a_gw, .inl (T 0, 90, .inl v_gw)), (a_gk, .inl (T 0, 18, .inl v_gk))] H) (hS : va_S A s.heap H locs) (ls : Array Slot) (hl : lv_has ls 4 [(0, .ref a_x), (1, .int l1), (2, .int l2), (3, .int l3)]) (h : fX7_beside_n_9 v_gw v_gk k l1 l2 l3 = some r), W p l e ({ frames := 3, cells := 0, slots := 0, locals := 66 } : Room) s m args below meth c H locs 0 0 Q (F0 m 9 ls []) := by
  have hx := C.1
  have hb := C.2.1
  intro k
  induction k with
  | zero =>
    intro l1 l2 l3 H locs hPD hS ls hl h
    exact nomatch (show (none : Option Int32) = some r from h)
  | succ k ih =>
    intro l1 l2 l3 H locs hPD hS ls hl h
    obtain ⟨hP, hD⟩ := hPD
    rw [fX7_beside_n_9] at h
    refine lv_iload_n hx hb dX7_beside_9 rfl (lv_at hl 3 rfl) ?_
    refine lv_aload_n hx hb dX7_beside_10 rfl (lv_at hl 0 rfl) ?_
    refine getF (q0 := 1) (k0 := 0) (v := .ref a_g) C hE hP inA7 rfl rfl (by decide) qFX7_10 rfl rfl dX7_beside_11 ?_
    refine lv_iconst (v := 0) hx hb dX7_beside_14 (by decide) ?_
    replace h := bnd h; obtain ⟨q3, e4, h⟩ := h
    refine rdV C hE hP (kX1_count l D T a_g a_gw a_gk v_gk 0 q3 e4) mX1_count qLX7_235 [0, 3] 0 rfl rfl rfl rfl ⟨rfl, rfl⟩ ⟨Nat.le_of_ble_eq_true rfl, Nat.le_of_ble_eq_true rfl⟩ rfl hl.1 rfl (Nat.le_of_ble_eq_true rfl) dX7_beside_15 ⟨Nat.le_of_ble_eq_true rfl, Nat.le_of_ble_eq_true rfl⟩ ?_
    refine lv_icmp_ge (tgt := 54) hx hb dX7_beside_18 (by decide) (fun c5 => ?_) (fun c5 => ?_)
    · replace h := ite_t c5 h
      refine lv_iload_n hx hb dX7_beside_54 rfl (lv_at hl 2 rfl) ?_
      replace h := Option.some.inj h
      exact hret _ _ _ _ _ _ dX7_beside_55 rfl (by rw [← h] <;> rfl) hP hS
    · replace h := ite_f c5 h
      refine lv_aload_n hx hb dX7_beside_21 rfl (lv_at hl 0 rfl) ?_
      refine getF (q0 := 1) (k0 := 0) (v := .ref a_g) C hE hP inA7 rfl rfl (by decide) qFX7_10 rfl rfl dX7_beside_22 ?_
      refine lv_iload_n hx hb dX7_beside_25 rfl (lv_at hl 3 rfl) ?_
      refine lv_iconst (v := 0) hx hb dX7_beside_26 (by decide) ?_
      replace h := bnd h; obtain ⟨q6, e7, h⟩ := h
      refine rdV C hE hP (kX1_of l D T a_g a_gw a_gk v_gw l3 0 q6 e7) mX1_of qLX7_148 [0, 2] 0 rfl rfl rfl rfl ⟨rfl, rfl⟩ ⟨Nat.le_of_ble_eq_true rfl, Nat.le_of_ble_eq_true rfl⟩ rfl hl.1 rfl (Nat.le_of_ble_eq_true rfl) dX7_beside_27 ⟨Nat.le_of_ble_eq_true rfl, Nat.le_of_ble_eq_true rfl⟩ ?_
      refine lv_iload_n hx hb dX7_beside_30 rfl (lv_at hl 1 rfl) ?_
      refine lv_icmp_ne (tgt := 48) hx hb dX7_beside_31 (by decide) (fun c8 => ?_) (fun c8 => ?_)
      · replace h := ite_f c8 h
        exact lX7_beside_n_48 C hE hA hret ih l1 l2 l3 ⟨hP, hD⟩ hS _ (lv_sub hl [0, 1, 2, 3] rfl) h
      · replace h := ite_t c8 h
        refine lv_aload_n hx hb dX7_beside_34 rfl (lv_at hl 0 rfl) ?_
        refine getF (q0 := 1) (k0 := 0) (v := .ref a_g) C hE hP inA7 rfl rfl (by decide) qFX7_10 rfl rfl dX7_beside_35 ?_
        refine lv_iload_n hx hb dX7_beside_38 rfl (lv_at hl 3 rfl) ?_
        replace h := bnd h; obtain ⟨q9, e10, h⟩ := h
        refine rdV C hE hP (kX1_isNearBuoy l D T a_g a_gw a_gk v_gw v_gk l3 q9 e10) mX1_isNearBuoy qLX7_238 [0, 2, 3] 0 rfl rfl rfl rfl ⟨rfl, rfl⟩ ⟨Nat.le_of_ble_eq_true rfl, Nat.le_of_ble_eq_true rfl⟩ rfl hl.1 rfl (Nat.le_of_ble_eq_true rfl) dX7_beside_39 ⟨Nat.le_of_ble_eq_true rfl, Nat.le_of_ble_eq_true rfl⟩ ?_
        refine lv_if_eq (tgt := 48) hx hb dX7_beside_42 (by decide) (fun c11 => ?_) (fun c11 => ?_)
        · rw [if_pos c11] at h
          exact lX7_beside_n_48 C hE hA hret ih l1 l2 l3 ⟨hP, hD⟩ hS _ (lv_sub hl [0, 1, 2, 3] rfl) h
        · rw [if_neg c11] at h
          refine lv_iinc (v := (l2 + 1)) (lv' := [(2, .int (l2 + 1)), (0, .ref a_x), (1, .int l1), (3, .int l3)]) hx hb dX7_beside_45 hl (k := 2) rfl rfl (by decide) rfl (fun ls hl => ?_)
          exact lX7_beside_n_48 C hE hA hret ih l1 (l2 + 1) l3 ⟨hP, hD⟩ hS _ (lv_sub hl [1, 2, 0, 3] rfl) h
set_option maxHeartbeats 4000000 in
set_option maxRecDepth 100000 in
theorem kX7_beside_n (l : Launch) (D : va_G) (T : Nat → ClassId) (a_g a_gw a_gk a_x a_b a_v a_h a_r a_f a_u a_t a_n : Nat) (x_sav : Int32) (x_err : Int32) (x_rea : Int32) (x_det : Int32) (x_com : Int32) (v_gw : Nat → Int32) (v_gk : Nat → Int32) (p0 : Int32) (sz : Nat) (r : Int32) (h : fX7_beside_n v_gw v_gk p0 = some r) : WrI l yX7_beside cX7_beside 4 .int ({ frames := 3, cells := 0, slots := 0, locals := 66 } : Room) D T sz [(a_g, .inr (1, [.ref a_gw, .ref a_gk])), (a_x, .inr (7, [.ref a_g, .ref a_b, .ref a_v, .ref a_h, .ref a_r, .ref a_f, .ref a_u, .ref a_t, .ref a_n, .int x_sav, .int x_err, .int x_rea, .int x_det, .int x_com])), (a_gw, .inl (T 0, 90, .inl v_gw)), (a_gk, .inl (T 0, 18, .inl v_gk))] [(a_g, .inr (1, [.ref a_gw, .ref a_gk])), (a_x, .inr (7, [.ref a_g, .ref a_b, .ref a_v, .ref a_h, .ref a_r, .ref a_f, .ref a_u, .ref a_t, .ref a_n, .int x_sav, .int x_err, .int x_rea, .int x_det, .int x_com])), (a_gw, .inl (T 0, 90, .inl v_gw)), (a_gk, .inl (T 0, 18, .inl v_gk))] [.ref a_x, .int p0] r := by
  unfold fX7_beside_n at h
  refine wrMet (by decide +kernel) rfl (fun p e s m args below meth c Q A C hE hA hP hD hS hret ls hl => ?_)
  have hx := C.1
  have hb := C.2.1
  have hl : lv_has ls 4 [(0, .ref a_x), (1, .int p0)] := hl
  refine lv_aload_n hx hb dX7_beside_0 rfl (lv_at hl 0 rfl) ?_
  refine lv_iload_n hx hb dX7_beside_1 rfl (lv_at hl 1 rfl) ?_
  replace h := bnd h; obtain ⟨q1, e2, h⟩ := h
  refine wrVv (ws1 := [(a_g, .inr (1, [.ref a_gw, .ref a_gk])), (a_x, .inr (7, [.ref a_g, .ref a_b, .ref a_v, .ref a_h, .ref a_r, .ref a_f, .ref a_u, .ref a_t, .ref a_n, .int x_sav, .int x_err, .int x_rea, .int x_det, .int x_com])), (a_gw, .inl (T 0, 90, .inl v_gw)), (a_gk, .inl (T 0, 18, .inl v_gk))]) C hE hP hD hS hA (kX7_demandTeam_n l D T a_x p0 _ q1 e2) mX7_demandTeam qLX7_232 [] [0, 1, 2, 3] 1 rfl rfl rfl rfl rfl rfl rfl rfl rfl ⟨rfl, rfl⟩ ⟨Nat.le_of_ble_eq_true rfl, Nat.le_of_ble_eq_true rfl⟩ rfl hl.1 rfl (Nat.le_of_ble_eq_true rfl) dX7_beside_2 ⟨Nat.le_of_ble_eq_true rfl, Nat.le_of_ble_eq_true rfl⟩ ?_; clear hP hD hS; intro H locs hP hD hS
  refine lv_iconst (v := 0) hx hb dX7_beside_5 (by decide) ?_
  refine lv_istore_n (lv' := [(2, .int 0), (0, .ref a_x), (1, .int p0)]) hx hb dX7_beside_6 rfl hl (by decide) rfl (fun ls hl => ?_)
  refine lv_iconst (v := 0) hx hb dX7_beside_7 (by decide) ?_
  refine lv_istore_n (lv' := [(3, .int 0), (2, .int 0), (0, .ref a_x), (1, .int p0)]) hx hb dX7_beside_8 rfl hl (by decide) rfl (fun ls hl => ?_)
  exact lX7_beside_n_9 C hE hA hret 64 p0 0 0 ⟨hP, hD⟩ hS _ (lv_sub hl [2, 3, 1, 0] rfl) h

def fX7_demandClock_n_11 : Option Unit :=
  none
def fX7_demandClock_n (p0 : Int32) : Option Unit :=
  if p0 < 0 then
    fX7_demandClock_n_11
  else
    if p0 ≤ 999 then
      some ()
    else
      fX7_demandClock_n_11
set_option maxHeartbeats 4000000 in
set_option maxRecDepth 100000 in
theorem lX7_demandClock_n_11 {p : Program} {l : Launch} {e : Env} {s : State} {m : MethodId} {args : Array Value} {below : List Frame} {meth : Method} {c : Code} {Q : State → Prop} {D : va_G} {T : Nat → ClassId} {A : Nat → Prop} {r : Unit} (C : CallFix p m c cX7_demandClock 2 s args aw RX7) (hE : eK D T s) (hA : ∀ q : Nat, s.heap.size ≤ q → A q) (hret : WrRetV p l e ({ frames := 0, cells := 0, slots := 0, locals := 0 } : Room) s m args below meth c Q cX7_demandClock D A []) {H : Heap} {locs : List Loc} (hPD : va_PD D A [] H) (hS : va_S A s.heap H locs) (ls : Array Slot) (hl : lv_has ls 2 []) (h : fX7_demandClock_n_11 = some r) : W p l e ({ frames := 0, cells := 0, slots := 0, locals := 0 } : Room) s m args below meth c H locs 0 0 Q (F0 m 11 ls []) := by
  have hx := C.1
  have hb := C.2.1
  obtain ⟨hP, hD⟩ := hPD
  unfold fX7_demandClock_n_11 at h
  exact nomatch h
set_option maxHeartbeats 4000000 in
set_option maxRecDepth 100000 in
theorem kX7_demandClock_n (l : Launch) (D : va_G) (T : Nat → ClassId) (a_x : Nat) (p0 : Int32) (sz : Nat) (r : Unit) (h : fX7_demandClock_n p0 = some r) : WrV l yX7_demandClock cX7_demandClock 2 ({ frames := 0, cells := 0, slots := 0, locals := 0 } : Room) D T sz [] [] [.ref a_x, .int p0] := by
  unfold fX7_demandClock_n at h
  refine wrMetV (by decide +kernel) rfl (fun p e s m args below meth c Q A C hE hA hP hD hS hret ls hl => ?_)
  have hx := C.1
  have hb := C.2.1
  have hl : lv_has ls 2 [(0, .ref a_x), (1, .int p0)] := hl
  refine lv_iload_n hx hb dX7_demandClock_0 rfl (lv_at hl 1 rfl) ?_
  refine lv_if_lt (tgt := 11) hx hb dX7_demandClock_1 (by decide) (fun c1 => ?_) (fun c1 => ?_)
  · replace h := ite_t c1 h
    exact lX7_demandClock_n_11 C hE hA hret ⟨hP, hD⟩ hS _ (lv_sub hl [] rfl) h
  · replace h := ite_f c1 h
    refine lv_iload_n hx hb dX7_demandClock_4 rfl (lv_at hl 1 rfl) ?_
    refine lv_sipush (v := 999) hx hb dX7_demandClock_5 (by decide) ?_
    refine lv_icmp_le (tgt := 22) hx hb dX7_demandClock_8 (by decide) (fun c2 => ?_) (fun c2 => ?_)
    · replace h := ite_t c2 h
      replace h := Option.some.inj h
      exact hret _ _ _ _ dX7_demandClock_22 hP hS
    · replace h := ite_f c2 h
      exact lX7_demandClock_n_11 C hE hA hret ⟨hP, hD⟩ hS _ (lv_sub hl [] rfl) h

def fX7_tide_n (p0 : Int32) : Option Int32 :=
  (fX7_demandClock_n p0).bind fun q1 =>
  (fX7_tideByStrokes p0).bind fun q3 =>
  some q3
set_option maxHeartbeats 4000000 in
set_option maxRecDepth 100000 in
theorem kX7_tide_n (l : Launch) (D : va_G) (T : Nat → ClassId) (a_x a_g a_b a_v a_h a_r a_f a_u a_t a_n : Nat) (x_sav : Int32) (x_err : Int32) (x_rea : Int32) (x_det : Int32) (x_com : Int32) (p0 : Int32) (sz : Nat) (r : Int32) (h : fX7_tide_n p0 = some r) : WrI l yX7_tide cX7_tide 2 .int ({ frames := 1, cells := 0, slots := 0, locals := 23 } : Room) D T sz [(a_x, .inr (7, [.ref a_g, .ref a_b, .ref a_v, .ref a_h, .ref a_r, .ref a_f, .ref a_u, .ref a_t, .ref a_n, .int x_sav, .int x_err, .int x_rea, .int x_det, .int x_com]))] [(a_x, .inr (7, [.ref a_g, .ref a_b, .ref a_v, .ref a_h, .ref a_r, .ref a_f, .ref a_u, .ref a_t, .ref a_n, .int x_sav, .int x_err, .int x_rea, .int x_det, .int x_com]))] [.ref a_x, .int p0] r := by
  unfold fX7_tide_n at h
  refine wrMet (by decide +kernel) rfl (fun p e s m args below meth c Q A C hE hA hP hD hS hret ls hl => ?_)
  have hx := C.1
  have hb := C.2.1
  have hl : lv_has ls 2 [(0, .ref a_x), (1, .int p0)] := hl
  refine lv_aload_n hx hb dX7_tide_0 rfl (lv_at hl 0 rfl) ?_
  refine lv_iload_n hx hb dX7_tide_1 rfl (lv_at hl 1 rfl) ?_
  replace h := bnd h; obtain ⟨q1, e2, h⟩ := h
  refine wrVv (ws1 := [(a_x, .inr (7, [.ref a_g, .ref a_b, .ref a_v, .ref a_h, .ref a_r, .ref a_f, .ref a_u, .ref a_t, .ref a_n, .int x_sav, .int x_err, .int x_rea, .int x_det, .int x_com]))]) C hE hP hD hS hA (kX7_demandClock_n l D T a_x p0 _ q1 e2) mX7_demandClock qLX7_161 [] [0] 0 rfl rfl rfl rfl rfl rfl rfl rfl rfl ⟨rfl, rfl⟩ ⟨Nat.le_of_ble_eq_true rfl, Nat.le_of_ble_eq_true rfl⟩ rfl hl.1 rfl (Nat.le_of_ble_eq_true rfl) dX7_tide_2 ⟨Nat.le_of_ble_eq_true rfl, Nat.le_of_ble_eq_true rfl⟩ ?_; clear hP hD hS; intro H locs hP hD hS
  refine lv_iload_n hx hb dX7_tide_5 rfl (lv_at hl 1 rfl) ?_
  replace h := bnd h; obtain ⟨q3, e4, h⟩ := h
  refine rdS C hE hP (kX7_tideByStrokes l D T p0 q3 e4) mX7_tideByStrokes qLX7_164 [] rfl ⟨rfl, rfl⟩ ⟨Nat.le_of_ble_eq_true rfl, Nat.le_of_ble_eq_true rfl⟩ rfl hl.1 rfl (Nat.le_of_ble_eq_true rfl) dX7_tide_6 ⟨Nat.le_of_ble_eq_true rfl, Nat.le_of_ble_eq_true rfl⟩ ?_
  replace h := Option.some.inj h
  exact hret _ _ _ _ _ _ dX7_tide_9 rfl (by rw [← h] <;> rfl) hP hS

def fX7_tideAgain_n (p0 : Int32) : Option Int32 :=
  (fX7_demandClock_n p0).bind fun q1 =>
  some (fX7_tideByDividing p0)
set_option maxHeartbeats 4000000 in
set_option maxRecDepth 100000 in
theorem kX7_tideAgain_n (l : Launch) (D : va_G) (T : Nat → ClassId) (a_x a_g a_b a_v a_h a_r a_f a_u a_t a_n : Nat) (x_sav : Int32) (x_err : Int32) (x_rea : Int32) (x_det : Int32) (x_com : Int32) (p0 : Int32) (sz : Nat) (r : Int32) (h : fX7_tideAgain_n p0 = some r) : WrI l yX7_tideAgain cX7_tideAgain 2 .int ({ frames := 1, cells := 0, slots := 0, locals := 21 } : Room) D T sz [(a_x, .inr (7, [.ref a_g, .ref a_b, .ref a_v, .ref a_h, .ref a_r, .ref a_f, .ref a_u, .ref a_t, .ref a_n, .int x_sav, .int x_err, .int x_rea, .int x_det, .int x_com]))] [(a_x, .inr (7, [.ref a_g, .ref a_b, .ref a_v, .ref a_h, .ref a_r, .ref a_f, .ref a_u, .ref a_t, .ref a_n, .int x_sav, .int x_err, .int x_rea, .int x_det, .int x_com]))] [.ref a_x, .int p0] r := by
  unfold fX7_tideAgain_n at h
  refine wrMet (by decide +kernel) rfl (fun p e s m args below meth c Q A C hE hA hP hD hS hret ls hl => ?_)
  have hx := C.1
  have hb := C.2.1
  have hl : lv_has ls 2 [(0, .ref a_x), (1, .int p0)] := hl
  refine lv_aload_n hx hb dX7_tideAgain_0 rfl (lv_at hl 0 rfl) ?_
  refine lv_iload_n hx hb dX7_tideAgain_1 rfl (lv_at hl 1 rfl) ?_
  replace h := bnd h; obtain ⟨q1, e2, h⟩ := h
  refine wrVv (ws1 := [(a_x, .inr (7, [.ref a_g, .ref a_b, .ref a_v, .ref a_h, .ref a_r, .ref a_f, .ref a_u, .ref a_t, .ref a_n, .int x_sav, .int x_err, .int x_rea, .int x_det, .int x_com]))]) C hE hP hD hS hA (kX7_demandClock_n l D T a_x p0 _ q1 e2) mX7_demandClock qLX7_161 [] [0] 0 rfl rfl rfl rfl rfl rfl rfl rfl rfl ⟨rfl, rfl⟩ ⟨Nat.le_of_ble_eq_true rfl, Nat.le_of_ble_eq_true rfl⟩ rfl hl.1 rfl (Nat.le_of_ble_eq_true rfl) dX7_tideAgain_2 ⟨Nat.le_of_ble_eq_true rfl, Nat.le_of_ble_eq_true rfl⟩ ?_; clear hP hD hS; intro H locs hP hD hS
  refine lv_iload_n hx hb dX7_tideAgain_5 rfl (lv_at hl 1 rfl) ?_
  refine rdS C hE hP (kX7_tideByDividing l D T p0) mX7_tideByDividing qLX7_167 [] rfl ⟨rfl, rfl⟩ ⟨Nat.le_of_ble_eq_true rfl, Nat.le_of_ble_eq_true rfl⟩ rfl hl.1 rfl (Nat.le_of_ble_eq_true rfl) dX7_tideAgain_6 ⟨Nat.le_of_ble_eq_true rfl, Nat.le_of_ble_eq_true rfl⟩ ?_
  replace h := Option.some.inj h
  exact hret _ _ _ _ _ _ dX7_tideAgain_9 rfl (by rw [← h] <;> rfl) hP hS

def fX7_isDry_n (v_gk : Nat → Int32) (p0 : Int32) : Option Int32 :=
  (fX7_demandCell_n p0).bind fun q1 =>
  (fX1_isDryNow v_gk p0).bind fun q3 =>
  some (q3 &&& 1)
set_option maxHeartbeats 4000000 in
set_option maxRecDepth 100000 in
theorem kX7_isDry_n (l : Launch) (D : va_G) (T : Nat → ClassId) (a_g a_gw a_gk a_x a_b a_v a_h a_r a_f a_u a_t a_n : Nat) (x_sav : Int32) (x_err : Int32) (x_rea : Int32) (x_det : Int32) (x_com : Int32) (v_gk : Nat → Int32) (p0 : Int32) (sz : Nat) (r : Int32) (h : fX7_isDry_n v_gk p0 = some r) : WrI l yX7_isDry cX7_isDry 2 .boolean ({ frames := 2, cells := 0, slots := 0, locals := 42 } : Room) D T sz [(a_g, .inr (1, [.ref a_gw, .ref a_gk])), (a_x, .inr (7, [.ref a_g, .ref a_b, .ref a_v, .ref a_h, .ref a_r, .ref a_f, .ref a_u, .ref a_t, .ref a_n, .int x_sav, .int x_err, .int x_rea, .int x_det, .int x_com])), (a_gk, .inl (T 0, 18, .inl v_gk))] [(a_g, .inr (1, [.ref a_gw, .ref a_gk])), (a_x, .inr (7, [.ref a_g, .ref a_b, .ref a_v, .ref a_h, .ref a_r, .ref a_f, .ref a_u, .ref a_t, .ref a_n, .int x_sav, .int x_err, .int x_rea, .int x_det, .int x_com])), (a_gk, .inl (T 0, 18, .inl v_gk))] [.ref a_x, .int p0] r := by
  unfold fX7_isDry_n at h
  refine wrMet (by decide +kernel) rfl (fun p e s m args below meth c Q A C hE hA hP hD hS hret ls hl => ?_)
  have hx := C.1
  have hb := C.2.1
  have hl : lv_has ls 2 [(0, .ref a_x), (1, .int p0)] := hl
  refine lv_aload_n hx hb dX7_isDry_0 rfl (lv_at hl 0 rfl) ?_
  refine lv_iload_n hx hb dX7_isDry_1 rfl (lv_at hl 1 rfl) ?_
  replace h := bnd h; obtain ⟨q1, e2, h⟩ := h
  refine wrVv (ws1 := [(a_g, .inr (1, [.ref a_gw, .ref a_gk])), (a_x, .inr (7, [.ref a_g, .ref a_b, .ref a_v, .ref a_h, .ref a_r, .ref a_f, .ref a_u, .ref a_t, .ref a_n, .int x_sav, .int x_err, .int x_rea, .int x_det, .int x_com])), (a_gk, .inl (T 0, 18, .inl v_gk))]) C hE hP hD hS hA (kX7_demandCell_n l D T a_x p0 _ q1 e2) mX7_demandCell qLX7_151 [] [0, 1, 2] 1 rfl rfl rfl rfl rfl rfl rfl rfl rfl ⟨rfl, rfl⟩ ⟨Nat.le_of_ble_eq_true rfl, Nat.le_of_ble_eq_true rfl⟩ rfl hl.1 rfl (Nat.le_of_ble_eq_true rfl) dX7_isDry_2 ⟨Nat.le_of_ble_eq_true rfl, Nat.le_of_ble_eq_true rfl⟩ ?_; clear hP hD hS; intro H locs hP hD hS
  refine lv_aload_n hx hb dX7_isDry_5 rfl (lv_at hl 0 rfl) ?_
  refine getF (q0 := 1) (k0 := 0) (v := .ref a_g) C hE hP inA7 rfl rfl (by decide) qFX7_10 rfl rfl dX7_isDry_6 ?_
  refine lv_iload_n hx hb dX7_isDry_9 rfl (lv_at hl 1 rfl) ?_
  replace h := bnd h; obtain ⟨q3, e4, h⟩ := h
  refine rdV C hE hP (kX1_isDryNow l D T a_g a_gw a_gk v_gk p0 q3 e4) mX1_isDryNow qLX7_157 [0, 2] 0 rfl rfl rfl rfl ⟨rfl, rfl⟩ ⟨Nat.le_of_ble_eq_true rfl, Nat.le_of_ble_eq_true rfl⟩ rfl hl.1 rfl (Nat.le_of_ble_eq_true rfl) dX7_isDry_10 ⟨Nat.le_of_ble_eq_true rfl, Nat.le_of_ble_eq_true rfl⟩ ?_
  replace h := Option.some.inj h
  exact hret _ _ _ _ _ _ dX7_isDry_13 rfl (by rw [← h] <;> rfl) hP hS
