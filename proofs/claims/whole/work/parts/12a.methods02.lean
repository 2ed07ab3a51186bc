def fX7_bestCalf_68 (v_gw : Nat → Int32) (v_gk : Nat → Int32) (rec4 : Int32 → Int32 → Int32 → Option Int32) (l1 : Int32) (l2 : Int32) (l3 : Int32) : Option Int32 :=
  rec4 l1 l2 (l3 + 1)
def fX7_bestCalf_66 (v_gw : Nat → Int32) (v_gk : Nat → Int32) (rec4 : Int32 → Int32 → Int32 → Option Int32) (l1 : Int32) (l3 : Int32) : Option Int32 :=
  fX7_bestCalf_68 v_gw v_gk rec4 l1 l3 l3
def fX7_bestCalf_45 (v_gw : Nat → Int32) (v_gk : Nat → Int32) (rec4 : Int32 → Int32 → Int32 → Option Int32) (x0 : Int32) (l1 : Int32) (l2 : Int32) (l3 : Int32) : Option Int32 :=
  if x0 = 0 then
    fX7_bestCalf_68 v_gw v_gk rec4 l1 l2 l3
  else
    if l2 = (-1) then
      fX7_bestCalf_66 v_gw v_gk rec4 l1 l3
    else
      (fX7_isFresher v_gw l3 l2).bind fun q12 =>
      if q12 = 0 then
        fX7_bestCalf_68 v_gw v_gk rec4 l1 l2 l3
      else
        fX7_bestCalf_66 v_gw v_gk rec4 l1 l3
def fX7_bestCalf_4 (v_gw : Nat → Int32) (v_gk : Nat → Int32) : Nat → Int32 → Int32 → Int32 → Option Int32
  | 0, _, _, _ => none
  | k + 1, l1, l2, l3 =>
    (fX1_count v_gk 0).bind fun q1 =>
    if q1 ≤ l3 then
      some l2
    else
      (fX1_of v_gw l3 0).bind fun q4 =>
      if q4 = l1 then
        (fX1_isPlaying v_gw l3).bind fun q7 =>
        fX7_bestCalf_45 v_gw v_gk (fX7_bestCalf_4 v_gw v_gk k) (if q7 = 0 then 1 else 0) l1 l2 l3
      else
        fX7_bestCalf_45 v_gw v_gk (fX7_bestCalf_4 v_gw v_gk k) 0 l1 l2 l3
def fX7_bestCalf (v_gw : Nat → Int32) (v_gk : Nat → Int32) (p0 : Int32) : Option Int32 :=
  fX7_bestCalf_4 v_gw v_gk 64 p0 (-1) 0
set_option maxHeartbeats 4000000 in
set_option maxRecDepth 100000 in
theorem lX7_bestCalf_68 {p : Program} {l : Launch} {e : Env} {s : State} {m : MethodId} {args : Array Value} {below : List Frame} {meth : Method} {c : Code} {Q : State → Prop} {D : va_G} {T : Nat → ClassId} {a_g a_gw a_gk a_x a_b a_v a_h a_r a_f a_u a_t a_n : Nat} {x_sav : Int32} {x_err : Int32} {x_rea : Int32} {x_det : Int32} {x_com : Int32} {v_gw : Nat → Int32} {v_gk : Nat → Int32} {r : Int32} (C : CallFix p m c cX7_bestCalf 5 s args aw RX7) (hE : eK D T s) (hP : va_P D kC [(a_g, .inr (1, [.ref a_gw, .ref a_gk])), (a_x, .inr (7, [.ref a_g, .ref a_b, .ref a_v, .ref a_h, .ref a_r, .ref a_f, .ref a_u, .ref a_t, .ref a_n, .int x_sav, .int x_err, .int x_rea, .int x_det, .int x_com])), (a_gw, .inl (T 0, 90, .inl v_gw)), (a_gk, .inl (T 0, 18, .inl v_gk))] s.heap) (hret : RdRet p l e ({ frames := 2, cells := 0, slots := 0, locals := 46 } : Room) s m args below meth c Q cX7_bestCalf .int r) {rec4 : Int32 → Int32 → Int32 → Option Int32} (hrec4 : ∀ (l1 : Int32) (l2 : Int32) (l3 : Int32) (ls : Array Slot) (hl : lv_has ls 5 [(0, .ref a_x), (1, .int l1), (2, .int l2), (3, .int l3)]) (h : rec4 l1 l2 l3 = some r), W p l e ({ frames := 2, cells := 0, slots := 0, locals := 46 } : Room) s m args below meth c s.heap [] 0 0 Q (F0 m 4 ls [])) (l1 : Int32) (l2 : Int32) (l3 : Int32) (ls : Array Slot) (hl : lv_has ls 5 [(0, .ref a_x), (1, .int l1), (2, .int l2), (3, .int l3)]) (h : fX7_bestCalf_68 v_gw v_gk rec4 l1 l2 l3 = some r) : W p l e ({ frames := 2, cells := 0, slots := 0, locals := 46 } : Room) s m args below meth c s.heap [] 0 0 Q (F0 m 68 ls []) := by
  have hx := C.1
  have hb := C.2.1
  unfold fX7_bestCalf_68 at h
  refine lv_iinc (v := (l3 + 1)) (lv' := [(3, .int (l3 + 1)), (0, .ref a_x), (1, .int l1), (2, .int l2)]) hx hb dX7_bestCalf_68 hl (k := 3) rfl rfl (by decide) rfl (fun ls hl => ?_)
  refine lv_goto (tgt := 4) hx hb dX7_bestCalf_71 (by decide) ?_
  exact hrec4 l1 l2 (l3 + 1) _ (lv_sub hl [1, 2, 3, 0] rfl) h
set_option maxHeartbeats 4000000 in
set_option maxRecDepth 100000 in
theorem lX7_bestCalf_66 {p : Program} {l : Launch} {e : Env} {s : State} {m : MethodId} {args : Array Value} {below : List Frame} {meth : Method} {c : Code} {Q : State → Prop} {D : va_G} {T : Nat → ClassId} {a_g a_gw a_gk a_x a_b a_v a_h a_r a_f a_u a_t a_n : Nat} {x_sav : Int32} {x_err : Int32} {x_rea : Int32} {x_det : Int32} {x_com : Int32} {v_gw : Nat → Int32} {v_gk : Nat → Int32} {r : Int32} (C : CallFix p m c cX7_bestCalf 5 s args aw RX7) (hE : eK D T s) (hP : va_P D kC [(a_g, .inr (1, [.ref a_gw, .ref a_gk])), (a_x, .inr (7, [.ref a_g, .ref a_b, .ref a_v, .ref a_h, .ref a_r, .ref a_f, .ref a_u, .ref a_t, .ref a_n, .int x_sav, .int x_err, .int x_rea, .int x_det, .int x_com])), (a_gw, .inl (T 0, 90, .inl v_gw)), (a_gk, .inl (T 0, 18, .inl v_gk))] s.heap) (hret : RdRet p l e ({ frames := 2, cells := 0, slots := 0, locals := 46 } : Room) s m args below meth c Q cX7_bestCalf .int r) {rec4 : Int32 → Int32 → Int32 → Option Int32} (hrec4 : ∀ (l1 : Int32) (l2 : Int32) (l3 : Int32) (ls : Array Slot) (hl : lv_has ls 5 [(0, .ref a_x), (1, .int l1), (2, .int l2), (3, .int l3)]) (h : rec4 l1 l2 l3 = some r), W p l e ({ frames := 2, cells := 0, slots := 0, locals := 46 } : Room) s m args below meth c s.heap [] 0 0 Q (F0 m 4 ls [])) (l1 : Int32) (l3 : Int32) (ls : Array Slot) (hl : lv_has ls 5 [(0, .ref a_x), (1, .int l1), (3, .int l3)]) (h : fX7_bestCalf_66 v_gw v_gk rec4 l1 l3 = some r) : W p l e ({ frames := 2, cells := 0, slots := 0, locals := 46 } : Room) s m args below meth c s.heap [] 0 0 Q (F0 m 66 ls []) := by
  have hx := C.1
  have hb := C.2.1
  unfold fX7_bestCalf_66 at h
  refine lv_iload_n hx hb dX7_bestCalf_66 rfl (lv_at hl 2 rfl) ?_
  refine lv_istore_n (lv' := [(2, .int l3), (0, .ref a_x), (1, .int l1), (3, .int l3)]) hx hb dX7_bestCalf_67 rfl hl (by decide) rfl (fun ls hl => ?_)
  exact lX7_bestCalf_68 C hE hP hret hrec4 l1 l3 l3 _ (lv_sub hl [1, 2, 0, 3] rfl) h
set_option maxHeartbeats 4000000 in
set_option maxRecDepth 100000 in
theorem lX7_bestCalf_45 {p : Program} {l : Launch} {e : Env} {s : State} {m : MethodId} {args : Array Value} {below : List Frame} {meth : Method} {c : Code} {Q : State → Prop} {D : va_G} {T : Nat → ClassId} {a_g a_gw a_gk a_x a_b a_v a_h a_r a_f a_u a_t a_n : Nat} {x_sav : Int32} {x_err : Int32} {x_rea : Int32} {x_det : Int32} {x_com : Int32} {v_gw : Nat → Int32} {v_gk : Nat → Int32} {r : Int32} (C : CallFix p m c cX7_bestCalf 5 s args aw RX7) (hE : eK D T s) (hP : va_P D kC [(a_g, .inr (1, [.ref a_gw, .ref a_gk])), (a_x, .inr (7, [.ref a_g, .ref a_b, .ref a_v, .ref a_h, .ref a_r, .ref a_f, .ref a_u, .ref a_t, .ref a_n, .int x_sav, .int x_err, .int x_rea, .int x_det, .int x_com])), (a_gw, .inl (T 0, 90, .inl v_gw)), (a_gk, .inl (T 0, 18, .inl v_gk))] s.heap) (hret : RdRet p l e ({ frames := 2, cells := 0, slots := 0, locals := 46 } : Room) s m args below meth c Q cX7_bestCalf .int r) {rec4 : Int32 → Int32 → Int32 → Option Int32} (hrec4 : ∀ (l1 : Int32) (l2 : Int32) (l3 : Int32) (ls : Array Slot) (hl : lv_has ls 5 [(0, .ref a_x), (1, .int l1), (2, .int l2), (3, .int l3)]) (h : rec4 l1 l2 l3 = some r), W p l e ({ frames := 2, cells := 0, slots := 0, locals := 46 } : Room) s m args below meth c s.heap [] 0 0 Q (F0 m 4 ls [])) (x0 : Int32) (l1 : Int32) (l2 : Int32) (l3 : Int32) (ls : Array Slot) (hl : lv_has ls 5 [(0, .ref a_x), (1, .int l1), (2, .int l2), (3, .int l3)]) (h : fX7_bestCalf_45 v_gw v_gk rec4 x0 l1 l2 l3 = some r) : W p l e ({ frames := 2, cells := 0, slots := 0, locals := 46 } : Room) s m args below meth c s.heap [] 0 0 Q (F0 m 45 ls [.int x0]) := by
  have hx := C.1
  have hb := C.2.1
  unfold fX7_bestCalf_45 at h
  refine lv_istore (lv' := [(4, .int x0), (0, .ref a_x), (1, .int l1), (2, .int l2), (3, .int l3)]) hx hb dX7_bestCalf_45 hl (by decide) rfl (fun ls hl => ?_)
  refine lv_iload hx hb dX7_bestCalf_47 (lv_at hl 0 rfl) ?_
  refine lv_if_eq (tgt := 68) hx hb dX7_bestCalf_49 (by decide) (fun c10 => ?_) (fun c10 => ?_)
  · replace h := ite_t c10 h
    exact lX7_bestCalf_68 C hE hP hret hrec4 l1 l2 l3 _ (lv_sub hl [1, 2, 3, 4] rfl) h
  · replace h := ite_f c10 h
    refine lv_iload_n hx hb dX7_bestCalf_52 rfl (lv_at hl 3 rfl) ?_
    refine lv_iconst (v := (-1)) hx hb dX7_bestCalf_53 (by decide) ?_
    refine lv_icmp_eq (tgt := 66) hx hb dX7_bestCalf_54 (by decide) (fun c11 => ?_) (fun c11 => ?_)
    · replace h := ite_t c11 h
      exact lX7_bestCalf_66 C hE hP hret hrec4 l1 l3 _ (lv_sub hl [1, 2, 4] rfl) h
    · replace h := ite_f c11 h
      refine lv_aload_n hx hb dX7_bestCalf_57 rfl (lv_at hl 1 rfl) ?_
      refine lv_iload_n hx hb dX7_bestCalf_58 rfl (lv_at hl 4 rfl) ?_
      refine lv_iload_n hx hb dX7_bestCalf_59 rfl (lv_at hl 3 rfl) ?_
      replace h := bnd h; obtain ⟨q12, e13, h⟩ := h
      refine rdV C hE hP (kX7_isFresher l D T a_g a_gw a_gk a_x a_b a_v a_h a_r a_f a_u a_t a_n x_sav x_err x_rea x_det x_com v_gw l3 l2 q12 e13) mX7_isFresher qLX7_439 [0, 1, 2] 1 rfl rfl rfl rfl ⟨rfl, rfl⟩ ⟨Nat.le_of_ble_eq_true rfl, Nat.le_of_ble_eq_true rfl⟩ rfl hl.1 rfl (Nat.le_of_ble_eq_true rfl) dX7_bestCalf_60 ⟨Nat.le_of_ble_eq_true rfl, Nat.le_of_ble_eq_true rfl⟩ ?_
      refine lv_if_eq (tgt := 68) hx hb dX7_bestCalf_63 (by decide) (fun c14 => ?_) (fun c14 => ?_)
      · replace h := ite_t c14 h
        exact lX7_bestCalf_68 C hE hP hret hrec4 l1 l2 l3 _ (lv_sub hl [1, 2, 3, 4] rfl) h
      · replace h := ite_f c14 h
        exact lX7_bestCalf_66 C hE hP hret hrec4 l1 l3 _ (lv_sub hl [1, 2, 4] rfl) h
set_option maxHeartbeats 4000000 in
set_option maxRecDepth 100000 in
theorem lX7_bestCalf_4 {p : Program} {l : Launch} {e : Env} {s : State} {m : MethodId} {args : Array Value} {below : List Frame} {meth : Method} {c : Code} {Q : State → Prop} {D : va_G} {T : Nat → ClassId} {a_g a_gw a_gk a_x a_b a_v a_h a_r a_f a_u a_t a_n : Nat} {x_sav : Int32} {x_err : Int32} {x_rea : Int32} {x_det : Int32} {x_com : Int32} {v_gw : Nat → Int32} {v_gk : Nat → Int32} {r : Int32} (C : CallFix p m c cX7_bestCalf 5 s args aw RX7) (hE : eK D T s) (hP : va_P D kC [(a_g, .inr (1, [.ref a_gw, .ref a_gk])), (a_x, .inr (7, [.ref a_g, .ref a_b, .ref a_v, .ref a_h, .ref a_r, .ref a_f, .ref a_u, .ref a_t, .ref a_n, .int x_sav, .int x_err, .int x_rea, .int x_det, .int x_com])), (a_gw, .inl (T 0, 90, .inl v_gw)), (a_gk, .inl (T 0, 18, .inl v_gk))] s.heap) (hret : RdRet p l e ({ frames := 2, cells := 0, slots := 0, locals := 46 } : Room) s m args below meth c Q cX7_bestCalf .int r) : ∀ (k : Nat) (l1 : Int32) (l2 : Int32) (l3 : Int32) (ls : Array Slot) (hl : lv_has ls 5 [(0, .ref a_x), (1, .int l1), (2, .int l2), (3, .int l3)]) (h : fX7_bestCalf_4 v_gw v_gk k l1 l2 l3 = some r), W p l e ({ frames := 2, cells := 0, slots := 0, locals := 46 } : Room) s m args below meth c s.heap [] 0 0 Q (F0 m 4 ls []) := by
  have hx := C.1
  have hb := C.2.1
  intro k
  induction k with
  | zero =>
    intro l1 l2 l3  ls hl h
    exact nomatch (show (none : Option Int32) = some r from h)
  | succ k ih =>
    intro l1 l2 l3  ls hl h
    rw [fX7_bestCalf_4] at h
    refine lv_iload_n hx hb dX7_bestCalf_4 rfl (lv_at hl 3 rfl) ?_
    refine lv_aload_n hx hb dX7_bestCalf_5 rfl (lv_at hl 0 rfl) ?_
    refine getF (q0 := 1) (k0 := 0) (v := .ref a_g) C hE hP inA7 rfl rfl (by decide) qFX7_10 rfl rfl dX7_bestCalf_6 ?_
    refine lv_iconst (v := 0) hx hb dX7_bestCalf_9 (by decide) ?_
    replace h := bnd h; obtain ⟨q1, e2, h⟩ := h
    refine rdV C hE hP (kX1_count l D T a_g a_gw a_gk v_gk 0 q1 e2) mX1_count qLX7_235 [0, 3] 0 rfl rfl rfl rfl ⟨rfl, rfl⟩ ⟨Nat.le_of_ble_eq_true rfl, Nat.le_of_ble_eq_true rfl⟩ rfl hl.1 rfl (Nat.le_of_ble_eq_true rfl) dX7_bestCalf_10 ⟨Nat.le_of_ble_eq_true rfl, Nat.le_of_ble_eq_true rfl⟩ ?_
    refine lv_icmp_ge (tgt := 74) hx hb dX7_bestCalf_13 (by decide) (fun c3 => ?_) (fun c3 => ?_)
    · replace h := ite_t c3 h
      refine lv_iload_n hx hb dX7_bestCalf_74 rfl (lv_at hl 2 rfl) ?_
      exact hret _ _ _ _ dX7_bestCalf_75 rfl (Option.some.inj h)
    · replace h := ite_f c3 h
      refine lv_aload_n hx hb dX7_bestCalf_16 rfl (lv_at hl 0 rfl) ?_
      refine getF (q0 := 1) (k0 := 0) (v := .ref a_g) C hE hP inA7 rfl rfl (by decide) qFX7_10 rfl rfl dX7_bestCalf_17 ?_
      refine lv_iload_n hx hb dX7_bestCalf_20 rfl (lv_at hl 3 rfl) ?_
      refine lv_iconst (v := 0) hx hb dX7_bestCalf_21 (by decide) ?_
      replace h := bnd h; obtain ⟨q4, e5, h⟩ := h
      refine rdV C hE hP (kX1_of l D T a_g a_gw a_gk v_gw l3 0 q4 e5) mX1_of qLX7_148 [0, 2] 0 rfl rfl rfl rfl ⟨rfl, rfl⟩ ⟨Nat.le_of_ble_eq_true rfl, Nat.le_of_ble_eq_true rfl⟩ rfl hl.1 rfl (Nat.le_of_ble_eq_true rfl) dX7_bestCalf_22 ⟨Nat.le_of_ble_eq_true rfl, Nat.le_of_ble_eq_true rfl⟩ ?_
      refine lv_iload_n hx hb dX7_bestCalf_25 rfl (lv_at hl 1 rfl) ?_
      refine lv_icmp_ne (tgt := 44) hx hb dX7_bestCalf_26 (by decide) (fun c6 => ?_) (fun c6 => ?_)
      · replace h := ite_f c6 h
        refine lv_iconst (v := 0) hx hb dX7_bestCalf_44 (by decide) ?_
        exact lX7_bestCalf_45 C hE hP hret ih 0 l1 l2 l3 _ (lv_sub hl [0, 1, 2, 3] rfl) h
      · replace h := ite_t c6 h
        refine lv_aload_n hx hb dX7_bestCalf_29 rfl (lv_at hl 0 rfl) ?_
        refine getF (q0 := 1) (k0 := 0) (v := .ref a_g) C hE hP inA7 rfl rfl (by decide) qFX7_10 rfl rfl dX7_bestCalf_30 ?_
        refine lv_iload_n hx hb dX7_bestCalf_33 rfl (lv_at hl 3 rfl) ?_
        replace h := bnd h; obtain ⟨q7, e8, h⟩ := h
        refine rdV C hE hP (kX1_isPlaying l D T a_g a_gw a_gk v_gw l3 q7 e8) mX1_isPlaying qLX7_200 [0, 2] 0 rfl rfl rfl rfl ⟨rfl, rfl⟩ ⟨Nat.le_of_ble_eq_true rfl, Nat.le_of_ble_eq_true rfl⟩ rfl hl.1 rfl (Nat.le_of_ble_eq_true rfl) dX7_bestCalf_34 ⟨Nat.le_of_ble_eq_true rfl, Nat.le_of_ble_eq_true rfl⟩ ?_
        refine lv_if_ne (tgt := 44) hx hb dX7_bestCalf_37 (by decide) (fun c9 => ?_) (fun c9 => ?_)
        · rw [if_neg c9] at h
          refine lv_iconst (v := 0) hx hb dX7_bestCalf_44 (by decide) ?_
          exact lX7_bestCalf_45 C hE hP hret ih 0 l1 l2 l3 _ (lv_sub hl [0, 1, 2, 3] rfl) h
        · rw [if_pos c9] at h
          refine lv_iconst (v := 1) hx hb dX7_bestCalf_40 (by decide) ?_
          refine lv_goto (tgt := 45) hx hb dX7_bestCalf_41 (by decide) ?_
          exact lX7_bestCalf_45 C hE hP hret ih 1 l1 l2 l3 _ (lv_sub hl [0, 1, 2, 3] rfl) h
set_option maxHeartbeats 4000000 in
set_option maxRecDepth 100000 in
theorem kX7_bestCalf (l : Launch) (D : va_G) (T : Nat → ClassId) (a_g a_gw a_gk a_x a_b a_v a_h a_r a_f a_u a_t a_n : Nat) (x_sav : Int32) (x_err : Int32) (x_rea : Int32) (x_det : Int32) (x_com : Int32) (v_gw : Nat → Int32) (v_gk : Nat → Int32) (p0 : Int32) (r : Int32) (h : fX7_bestCalf v_gw v_gk p0 = some r) : RdI l yX7_bestCalf cX7_bestCalf 5 .int ({ frames := 2, cells := 0, slots := 0, locals := 46 } : Room) D T [(a_g, .inr (1, [.ref a_gw, .ref a_gk])), (a_x, .inr (7, [.ref a_g, .ref a_b, .ref a_v, .ref a_h, .ref a_r, .ref a_f, .ref a_u, .ref a_t, .ref a_n, .int x_sav, .int x_err, .int x_rea, .int x_det, .int x_com])), (a_gw, .inl (T 0, 90, .inl v_gw)), (a_gk, .inl (T 0, 18, .inl v_gk))] [.ref a_x, .int p0] r := by
  unfold fX7_bestCalf at h
  refine rdMet (by decide +kernel) rfl (fun p e s m args below meth c Q C hE hP hret ls hl => ?_)
  have hx := C.1
  have hb := C.2.1
  have hl : lv_has ls 5 [(0, .ref a_x), (1, .int p0)] := hl
  refine lv_iconst (v := (-1)) hx hb dX7_bestCalf_0 (by decide) ?_
  refine lv_istore_n (lv' := [(2, .int (-1)), (0, .ref a_x), (1, .int p0)]) hx hb dX7_bestCalf_1 rfl hl (by decide) rfl (fun ls hl => ?_)
  refine lv_iconst (v := 0) hx hb dX7_bestCalf_2 (by decide) ?_
  refine lv_istore_n (lv' := [(3, .int 0), (2, .int (-1)), (0, .ref a_x), (1, .int p0)]) hx hb dX7_bestCalf_3 rfl hl (by decide) rfl (fun ls hl => ?_)
  exact lX7_bestCalf_4 C hE hP hret 64 p0 (-1) 0 _ (lv_sub hl [2, 3, 1, 0] rfl) h

def fX7_calf (v_gw : Nat → Int32) (v_gk : Nat → Int32) (p0 : Int32) : Option (Nat × Int32) :=
  (fX7_demandTeam p0).bind fun q1 =>
  if q1 = 0 then
    (fX7_bestCalf v_gw v_gk p0).bind fun q3 =>
    if q3 = (-1) then
      some (4, 0)
    else
      some (0, q3)
  else
    some (q1, 0)
set_option maxHeartbeats 4000000 in
set_option maxRecDepth 100000 in
theorem kX7_calf (l : Launch) (hnt : l.stackTraces = false) (D : va_G) (T : Nat → ClassId) (a_g a_gw a_gk a_x a_b a_v a_h a_r a_f a_u a_t a_n : Nat) (x_sav : Int32) (x_err : Int32) (x_rea : Int32) (x_det : Int32) (x_com : Int32) (v_gw : Nat → Int32) (v_gk : Nat → Int32) (p0 : Int32) (sz : Nat) (r : Nat × Int32) (h : fX7_calf v_gw v_gk p0 = some r) : ThI l yX7_calf cX7_calf 3 .int ({ frames := 7, cells := 2, slots := 12, locals := 111 } : Room) D T sz [(a_g, .inr (1, [.ref a_gw, .ref a_gk])), (a_x, .inr (7, [.ref a_g, .ref a_b, .ref a_v, .ref a_h, .ref a_r, .ref a_f, .ref a_u, .ref a_t, .ref a_n, .int x_sav, .int x_err, .int x_rea, .int x_det, .int x_com])), (a_gw, .inl (T 0, 90, .inl v_gw)), (a_gk, .inl (T 0, 18, .inl v_gk))] [(a_g, .inr (1, [.ref a_gw, .ref a_gk])), (a_x, .inr (7, [.ref a_g, .ref a_b, .ref a_v, .ref a_h, .ref a_r, .ref a_f, .ref a_u, .ref a_t, .ref a_n, .int x_sav, .int x_err, .int x_rea, .int x_det, .int x_com])), (a_gw, .inl (T 0, 90, .inl v_gw)), (a_gk, .inl (T 0, 18, .inl v_gk))] [.ref a_x, .int p0] r.1 r.2 := by
  unfold fX7_calf at h
  refine thMetI hnt (by decide +kernel) rfl (fun p e s m args below meth c Q A C hE hA hZ hP hD hS hret ls hl => ?_)
  have hx := C.1
  have hb := C.2.1
  have hl : lv_has ls 3 [(0, .ref a_x), (1, .int p0)] := hl
  refine lv_aload_n hx hb dX7_calf_0 rfl (lv_at hl 0 rfl) ?_
  refine lv_iload_n hx hb dX7_calf_1 rfl (lv_at hl 1 rfl) ?_
  replace h := bnd h; obtain ⟨q1, e2, h⟩ := h
  refine thVv (ws1 := [(a_g, .inr (1, [.ref a_gw, .ref a_gk])), (a_x, .inr (7, [.ref a_g, .ref a_b, .ref a_v, .ref a_h, .ref a_r, .ref a_f, .ref a_u, .ref a_t, .ref a_n, .int x_sav, .int x_err, .int x_rea, .int x_det, .int x_com])), (a_gw, .inl (T 0, 90, .inl v_gw)), (a_gk, .inl (T 0, 18, .inl v_gk))]) C hE hZ hP hD hS hA (kX7_demandTeam l hZ.1 D T a_x p0 _ q1 e2) mX7_demandTeam qLX7_232 [] [0, 1, 2, 3] 1 rfl rfl rfl rfl rfl rfl rfl rfl rfl ⟨Nat.le_of_ble_eq_true rfl, Nat.le_of_ble_eq_true rfl⟩ rfl hl.1 rfl (Nat.le_of_ble_eq_true rfl) dX7_calf_2 ⟨Nat.le_of_ble_eq_true rfl, Nat.le_of_ble_eq_true rfl⟩ ?_ ?_
  · clear hP hD hS; intro hx0 H locs ce q9 hP hD hS g1 g2 g3
    replace h := ite_f (Nat.ne_of_gt hx0) h
    replace h := Option.some.inj h
    exact hret.2.1 _ _ _ _ _ _ _ _ _ (Nat.le_of_ble_eq_true rfl) (Nat.le_of_ble_eq_true rfl) (by rw [← h]; exact hx0) hP hS g1 g2 (by rw [← h]; exact g3)
  · clear hP hD hS; intro hx0 H locs hP hD hS
    replace h := ite_t hx0 h
    refine lv_aload_n hx hb dX7_calf_5 rfl (lv_at hl 0 rfl) ?_
    refine lv_iload_n hx hb dX7_calf_6 rfl (lv_at hl 1 rfl) ?_
    replace h := bnd h; obtain ⟨q3, e4, h⟩ := h
    refine rdV C hE hP (kX7_bestCalf l D T a_g a_gw a_gk a_x a_b a_v a_h a_r a_f a_u a_t a_n x_sav x_err x_rea x_det x_com v_gw v_gk p0 q3 e4) mX7_bestCalf qLX7_248 [0, 1, 2, 3] 1 rfl rfl rfl rfl ⟨rfl, rfl⟩ ⟨Nat.le_of_ble_eq_true rfl, Nat.le_of_ble_eq_true rfl⟩ rfl hl.1 rfl (Nat.le_of_ble_eq_true rfl) dX7_calf_7 ⟨Nat.le_of_ble_eq_true rfl, Nat.le_of_ble_eq_true rfl⟩ ?_
    refine lv_istore_n (lv' := [(2, .int q3), (0, .ref a_x), (1, .int p0)]) hx hb dX7_calf_10 rfl hl (by decide) rfl (fun ls hl => ?_)
    refine lv_iload_n hx hb dX7_calf_11 rfl (lv_at hl 0 rfl) ?_
    refine lv_iconst (v := (-1)) hx hb dX7_calf_12 (by decide) ?_
    refine lv_icmp_ne (tgt := 26) hx hb dX7_calf_13 (by decide) (fun c5 => ?_) (fun c5 => ?_)
    · replace h := ite_f c5 h
      refine lv_iload_n hx hb dX7_calf_26 rfl (lv_at hl 0 rfl) ?_
      replace h := Option.some.inj h
      exact hret.1 _ _ _ _ _ _ _ _ (Nat.le_of_ble_eq_true rfl) (Nat.le_of_ble_eq_true rfl) dX7_calf_27 rfl (by rw [← h]) (by rw [← h] <;> rfl) hP hS
    · replace h := ite_t c5 h
      replace h := Option.some.inj h
      exact hret.2.2 _ _ _ _ _ _ _ 173 177 251 _ "no calf on the bench" (by rw [← h]; exact thrX7_173_177_4) (by decide +kernel) dX7_calf_16 dX7_calf_19 (Or.inl ⟨dX7_calf_20, dX7_calf_22, dX7_calf_25⟩) (Nat.le_of_ble_eq_true rfl) (Nat.le_of_ble_eq_true rfl) (Nat.le_of_ble_eq_true rfl) (Nat.le_of_ble_eq_true rfl) (hl.1.trans C.2.2.1.symm) (by rw [← h]; exact (Nat.le_of_ble_eq_true rfl)) hP hS

def fX7_leader (v_gk : Nat → Int32) : Option Int32 :=
  (fX1_count v_gk 3).bind fun q1 =>
  (fX1_count v_gk 4).bind fun q3 =>
  if (q1 - q3) = 0 then
    some (-1)
  else
    if (q1 - q3) ≤ 0 then
      some 1
    else
      some 0
set_option maxHeartbeats 4000000 in
set_option maxRecDepth 100000 in
theorem kX7_leader (l : Launch) (D : va_G) (T : Nat → ClassId) (a_g a_gw a_gk a_x a_b a_v a_h a_r a_f a_u a_t a_n : Nat) (x_sav : Int32) (x_err : Int32) (x_rea : Int32) (x_det : Int32) (x_com : Int32) (v_gk : Nat → Int32) (r : Int32) (h : fX7_leader v_gk = some r) : RdI l yX7_leader cX7_leader 2 .int ({ frames := 1, cells := 0, slots := 0, locals := 21 } : Room) D T [(a_g, .inr (1, [.ref a_gw, .ref a_gk])), (a_x, .inr (7, [.ref a_g, .ref a_b, .ref a_v, .ref a_h, .ref a_r, .ref a_f, .ref a_u, .ref a_t, .ref a_n, .int x_sav, .int x_err, .int x_rea, .int x_det, .int x_com])), (a_gk, .inl (T 0, 18, .inl v_gk))] [.ref a_x] r := by
  unfold fX7_leader at h
  refine rdMet (by decide +kernel) rfl (fun p e s m args below meth c Q C hE hP hret ls hl => ?_)
  have hx := C.1
  have hb := C.2.1
  have hl : lv_has ls 2 [(0, .ref a_x)] := hl
  refine lv_aload_n hx hb dX7_leader_0 rfl (lv_at hl 0 rfl) ?_
  refine getF (q0 := 1) (k0 := 0) (v := .ref a_g) C hE hP inA7 rfl rfl (by decide) qFX7_10 rfl rfl dX7_leader_1 ?_
  refine lv_iconst (v := 3) hx hb dX7_leader_4 (by decide) ?_
  replace h := bnd h; obtain ⟨q1, e2, h⟩ := h
  refine rdV C hE hP (kX1_count l D T a_g a_gw a_gk v_gk 3 q1 e2) mX1_count qLX7_235 [0, 2] 0 rfl rfl rfl rfl ⟨rfl, rfl⟩ ⟨Nat.le_of_ble_eq_true rfl, Nat.le_of_ble_eq_true rfl⟩ rfl hl.1 rfl (Nat.le_of_ble_eq_true rfl) dX7_leader_5 ⟨Nat.le_of_ble_eq_true rfl, Nat.le_of_ble_eq_true rfl⟩ ?_
  refine lv_aload_n hx hb dX7_leader_8 rfl (lv_at hl 0 rfl) ?_
  refine getF (q0 := 1) (k0 := 0) (v := .ref a_g) C hE hP inA7 rfl rfl (by decide) qFX7_10 rfl rfl dX7_leader_9 ?_
  refine lv_iconst (v := 4) hx hb dX7_leader_12 (by decide) ?_
  replace h := bnd h; obtain ⟨q3, e4, h⟩ := h
  refine rdV C hE hP (kX1_count l D T a_g a_gw a_gk v_gk 4 q3 e4) mX1_count qLX7_235 [0, 2] 0 rfl rfl rfl rfl ⟨rfl, rfl⟩ ⟨Nat.le_of_ble_eq_true rfl, Nat.le_of_ble_eq_true rfl⟩ rfl hl.1 rfl (Nat.le_of_ble_eq_true rfl) dX7_leader_13 ⟨Nat.le_of_ble_eq_true rfl, Nat.le_of_ble_eq_true rfl⟩ ?_
  refine lv_isub hx hb dX7_leader_16 ?_
  refine lv_istore_n (lv' := [(1, .int (q1 - q3)), (0, .ref a_x)]) hx hb dX7_leader_17 rfl hl (by decide) rfl (fun ls hl => ?_)
  refine lv_iload_n hx hb dX7_leader_18 rfl (lv_at hl 0 rfl) ?_
  refine lv_if_ne (tgt := 24) hx hb dX7_leader_19 (by decide) (fun c5 => ?_) (fun c5 => ?_)
  · replace h := ite_f c5 h
    refine lv_iload_n hx hb dX7_leader_24 rfl (lv_at hl 0 rfl) ?_
    refine lv_if_le (tgt := 32) hx hb dX7_leader_25 (by decide) (fun c6 => ?_) (fun c6 => ?_)
    · replace h := ite_t c6 h
      refine lv_iconst (v := 1) hx hb dX7_leader_32 (by decide) ?_
      exact hret _ _ _ _ dX7_leader_33 rfl (Option.some.inj h)
    · replace h := ite_f c6 h
      refine lv_iconst (v := 0) hx hb dX7_leader_28 (by decide) ?_
      refine lv_goto (tgt := 33) hx hb dX7_leader_29 (by decide) ?_
      exact hret _ _ _ _ dX7_leader_33 rfl (Option.some.inj h)
  · replace h := ite_t c5 h
    refine lv_iconst (v := (-1)) hx hb dX7_leader_22 (by decide) ?_
    exact hret _ _ _ _ dX7_leader_23 rfl (Option.some.inj h)

def fX7_areTidesAlike_11 (v_gk : Nat → Int32) : Nat → Int32 → Int32 → Option Int32
  | 0, _, _ => none
  | k + 1, l1, l2 =>
    if (l1 + 20) < l2 then
      some 1
    else
      (fX7_tideByStrokes l2).bind fun q4 =>
      if q4 = (fX7_tideByDividing l2) then
        fX7_areTidesAlike_11 v_gk k l1 (l2 + 1)
      else
        some 0
def fX7_areTidesAlike (v_gk : Nat → Int32) : Option Int32 :=
  (fX1_count v_gk 1).bind fun q1 =>
  fX7_areTidesAlike_11 v_gk 64 q1 q1
set_option maxHeartbeats 4000000 in
set_option maxRecDepth 100000 in
theorem lX7_areTidesAlike_11 {p : Program} {l : Launch} {e : Env} {s : State} {m : MethodId} {args : Array Value} {below : List Frame} {meth : Method} {c : Code} {Q : State → Prop} {D : va_G} {T : Nat → ClassId} {a_g a_gw a_gk a_x a_b a_v a_h a_r a_f a_u a_t a_n : Nat} {x_sav : Int32} {x_err : Int32} {x_rea : Int32} {x_det : Int32} {x_com : Int32} {v_gk : Nat → Int32} {r : Int32} (C : CallFix p m c cX7_areTidesAlike 3 s args aw RX7) (hE : eK D T s) (hP : va_P D kC [(a_g, .inr (1, [.ref a_gw, .ref a_gk])), (a_x, .inr (7, [.ref a_g, .ref a_b, .ref a_v, .ref a_h, .ref a_r, .ref a_f, .ref a_u, .ref a_t, .ref a_n, .int x_sav, .int x_err, .int x_rea, .int x_det, .int x_com])), (a_gk, .inl (T 0, 18, .inl v_gk))] s.heap) (hret : RdRet p l e ({ frames := 1, cells := 0, slots := 0, locals := 23 } : Room) s m args below meth c Q cX7_areTidesAlike .boolean r) : ∀ (k : Nat) (l1 : Int32) (l2 : Int32) (ls : Array Slot) (hl : lv_has ls 3 [(1, .int l1), (2, .int l2)]) (h : fX7_areTidesAlike_11 v_gk k l1 l2 = some r), W p l e ({ frames := 1, cells := 0, slots := 0, locals := 23 } : Room) s m args below meth c s.heap [] 0 0 Q (F0 m 11 ls []) := by
  have hx := C.1
  have hb := C.2.1
  intro k
  induction k with
  | zero =>
    intro l1 l2  ls hl h
    exact nomatch (show (none : Option Int32) = some r from h)
  | succ k ih =>
    intro l1 l2  ls hl h
    rw [fX7_areTidesAlike_11] at h
    refine lv_iload_n hx hb dX7_areTidesAlike_11 rfl (lv_at hl 1 rfl) ?_
    refine lv_iload_n hx hb dX7_areTidesAlike_12 rfl (lv_at hl 0 rfl) ?_
    refine lv_bipush (v := 20) hx hb dX7_areTidesAlike_13 (by decide) ?_
    refine lv_iadd hx hb dX7_areTidesAlike_15 ?_
    refine lv_icmp_gt (tgt := 38) hx hb dX7_areTidesAlike_16 (by decide) (fun c3 => ?_) (fun c3 => ?_)
    · replace h := ite_t c3 h
      refine lv_iconst (v := 1) hx hb dX7_areTidesAlike_38 (by decide) ?_
      exact hret _ _ _ _ dX7_areTidesAlike_39 rfl (Option.some.inj h)
    · replace h := ite_f c3 h
      refine lv_iload_n hx hb dX7_areTidesAlike_19 rfl (lv_at hl 1 rfl) ?_
      replace h := bnd h; obtain ⟨q4, e5, h⟩ := h
      refine rdS C hE hP (kX7_tideByStrokes l D T l2 q4 e5) mX7_tideByStrokes qLX7_164 [] rfl ⟨rfl, rfl⟩ ⟨Nat.le_of_ble_eq_true rfl, Nat.le_of_ble_eq_true rfl⟩ rfl hl.1 rfl (Nat.le_of_ble_eq_true rfl) dX7_areTidesAlike_20 ⟨Nat.le_of_ble_eq_true rfl, Nat.le_of_ble_eq_true rfl⟩ ?_
      refine lv_iload_n hx hb dX7_areTidesAlike_23 rfl (lv_at hl 1 rfl) ?_
      refine rdS C hE hP (kX7_tideByDividing l D T l2) mX7_tideByDividing qLX7_167 [] rfl ⟨rfl, rfl⟩ ⟨Nat.le_of_ble_eq_true rfl, Nat.le_of_ble_eq_true rfl⟩ rfl hl.1 rfl (Nat.le_of_ble_eq_true rfl) dX7_areTidesAlike_24 ⟨Nat.le_of_ble_eq_true rfl, Nat.le_of_ble_eq_true rfl⟩ ?_
      refine lv_icmp_eq (tgt := 32) hx hb dX7_areTidesAlike_27 (by decide) (fun c6 => ?_) (fun c6 => ?_)
      · replace h := ite_t c6 h
        refine lv_iinc (v := (l2 + 1)) (lv' := [(2, .int (l2 + 1)), (1, .int l1)]) hx hb dX7_areTidesAlike_32 hl (k := 1) rfl rfl (by decide) rfl (fun ls hl => ?_)
        refine lv_goto (tgt := 11) hx hb dX7_areTidesAlike_35 (by decide) ?_
        exact ih l1 (l2 + 1) _ (lv_sub hl [1, 0] rfl) h
      · replace h := ite_f c6 h
        refine lv_iconst (v := 0) hx hb dX7_areTidesAlike_30 (by decide) ?_
        exact hret _ _ _ _ dX7_areTidesAlike_31 rfl (Option.some.inj h)
set_option maxHeartbeats 4000000 in
set_option maxRecDepth 100000 in
theorem kX7_areTidesAlike (l : Launch) (D : va_G) (T : Nat → ClassId) (a_g a_gw a_gk a_x a_b a_v a_h a_r a_f a_u a_t a_n : Nat) (x_sav : Int32) (x_err : Int32) (x_rea : Int32) (x_det : Int32) (x_com : Int32) (v_gk : Nat → Int32) (r : Int32) (h : fX7_areTidesAlike v_gk = some r) : RdI l yX7_areTidesAlike cX7_areTidesAlike 3 .boolean ({ frames := 1, cells := 0, slots := 0, locals := 23 } : Room) D T [(a_g, .inr (1, [.ref a_gw, .ref a_gk])), (a_x, .inr (7, [.ref a_g, .ref a_b, .ref a_v, .ref a_h, .ref a_r, .ref a_f, .ref a_u, .ref a_t, .ref a_n, .int x_sav, .int x_err, .int x_rea, .int x_det, .int x_com])), (a_gk, .inl (T 0, 18, .inl v_gk))] [.ref a_x] r := by
  unfold fX7_areTidesAlike at h
  refine rdMet (by decide +kernel) rfl (fun p e s m args below meth c Q C hE hP hret ls hl => ?_)
  have hx := C.1
  have hb := C.2.1
  have hl : lv_has ls 3 [(0, .ref a_x)] := hl
  refine lv_aload_n hx hb dX7_areTidesAlike_0 rfl (lv_at hl 0 rfl) ?_
  refine getF (q0 := 1) (k0 := 0) (v := .ref a_g) C hE hP inA7 rfl rfl (by decide) qFX7_10 rfl rfl dX7_areTidesAlike_1 ?_
  refine lv_iconst (v := 1) hx hb dX7_areTidesAlike_4 (by decide) ?_
  replace h := bnd h; obtain ⟨q1, e2, h⟩ := h
  refine rdV C hE hP (kX1_count l D T a_g a_gw a_gk v_gk 1 q1 e2) mX1_count qLX7_235 [0, 2] 0 rfl rfl rfl rfl ⟨rfl, rfl⟩ ⟨Nat.le_of_ble_eq_true rfl, Nat.le_of_ble_eq_true rfl⟩ rfl hl.1 rfl (Nat.le_of_ble_eq_true rfl) dX7_areTidesAlike_5 ⟨Nat.le_of_ble_eq_true rfl, Nat.le_of_ble_eq_true rfl⟩ ?_
  refine lv_istore_n (lv' := [(1, .int q1), (0, .ref a_x)]) hx hb dX7_areTidesAlike_8 rfl hl (by decide) rfl (fun ls hl => ?_)
  refine lv_iload_n hx hb dX7_areTidesAlike_9 rfl (lv_at hl 0 rfl) ?_
  refine lv_istore_n (lv' := [(2, .int q1), (1, .int q1), (0, .ref a_x)]) hx hb dX7_areTidesAlike_10 rfl hl (by decide) rfl (fun ls hl => ?_)
  exact lX7_areTidesAlike_11 C hE hP hret 64 q1 q1 _ (lv_sub hl [1, 0] rfl) h

def fX7_areStepsAlike_53 (v_gw : Nat → Int32) (v_gk : Nat → Int32) (rec2 : Int32 → (Nat → Int32) → (Nat → Int32) → (Nat → Int32) → Option (Int32 × (Nat → Int32) × (Nat → Int32) × (Nat → Int32))) (l1 : Int32) (v_rs : Nat → Int32) (v_rl : Nat → Int32) (v_ro : Nat → Int32) : Option (Int32 × (Nat → Int32) × (Nat → Int32) × (Nat → Int32)) :=
  rec2 (l1 + 1) v_rs v_rl v_ro
def fX7_areStepsAlike_2 (v_gw : Nat → Int32) (v_gk : Nat → Int32) : Nat → Int32 → (Nat → Int32) → (Nat → Int32) → (Nat → Int32) → Option (Int32 × (Nat → Int32) × (Nat → Int32) × (Nat → Int32))
  | 0, _, _, _, _ => none
  | k + 1, l1, v_rs, v_rl, v_ro =>
    (fX1_count v_gk 0).bind fun q1 =>
    if q1 ≤ l1 then
      some (1, v_rs, v_rl, v_ro)
    else
      (fX1_isPlaying v_gw l1).bind fun q4 =>
      if q4 = 0 then
        fX7_areStepsAlike_53 v_gw v_gk (fX7_areStepsAlike_2 v_gw v_gk k) l1 v_rs v_rl v_ro
      else
        (fX4_findBySpreading v_gw v_gk v_rs v_ro l1).bind fun q7 =>
        (fX4_findByLowering v_gw v_gk v_rl q7.2 l1).bind fun q9 =>
        (fX4_areAlike q7.1 q9.1).bind fun q11 =>
        if q11 = 0 then
          some (0, q7.1, q9.1, q9.2)
        else
          fX7_areStepsAlike_53 v_gw v_gk (fX7_areStepsAlike_2 v_gw v_gk k) l1 q7.1 q9.1 q9.2
def fX7_areStepsAlike (v_gw : Nat → Int32) (v_gk : Nat → Int32) (v_rs : Nat → Int32) (v_rl : Nat → Int32) (v_ro : Nat → Int32) : Option (Int32 × (Nat → Int32) × (Nat → Int32) × (Nat → Int32)) :=
  fX7_areStepsAlike_2 v_gw v_gk 64 0 v_rs v_rl v_ro
set_option maxHeartbeats 4000000 in
set_option maxRecDepth 100000 in
theorem lX7_areStepsAlike_53 {p : Program} {l : Launch} {e : Env} {s : State} {m : MethodId} {args : Array Value} {below : List Frame} {meth : Method} {c : Code} {Q : State → Prop} {D : va_G} {T : Nat → ClassId} {a_g a_gw a_gk a_r a_rs a_rl a_ro a_x a_b a_v a_h a_f a_u a_t a_n : Nat} {x_sav : Int32} {x_err : Int32} {x_rea : Int32} {x_det : Int32} {x_com : Int32} {v_gw : Nat → Int32} {v_gk : Nat → Int32} {A : Nat → Prop} {r : Int32 × (Nat → Int32) × (Nat → Int32) × (Nat → Int32)} (C : CallFix p m c cX7_areStepsAlike 2 s args aw RX7) (hE : eK D T s) (hA : ∀ q : Nat, s.heap.size ≤ q → A q) (hret : WrRet p l e ({ frames := 4, cells := 0, slots := 0, locals := 93 } : Room) s m args below meth c Q cX7_areStepsAlike .boolean D A [(a_g, .inr (1, [.ref a_gw, .ref a_gk])), (a_r, .inr (4, [.ref a_g, .ref a_rs, .ref a_rl, .ref a_ro])), (a_x, .inr (7, [.ref a_g, .ref a_b, .ref a_v, .ref a_h, .ref a_r, .ref a_f, .ref a_u, .ref a_t, .ref a_n, .int x_sav, .int x_err, .int x_rea, .int x_det, .int x_com])), (a_gw, .inl (T 0, 90, .inl v_gw)), (a_gk, .inl (T 0, 18, .inl v_gk)), (a_rs, .inl (T 0, 45, .inl r.2.1)), (a_rl, .inl (T 0, 45, .inl r.2.2.1)), (a_ro, .inl (T 1, 45, .inl r.2.2.2))] r.1) {rec2 : Int32 → (Nat → Int32) → (Nat → Int32) → (Nat → Int32) → Option (Int32 × (Nat → Int32) × (Nat → Int32) × (Nat → Int32))} (hrec2 : ∀ (l1 : Int32) (v_rs : Nat → Int32) (v_rl : Nat → Int32) (v_ro : Nat → Int32) {H : Heap} {locs : List Loc} (hPD : va_PD D A [(a_g, .inr (1, [.ref a_gw, .ref a_gk])), (a_r, .inr (4, [.ref a_g, .ref a_rs, .ref a_rl, .ref a_ro])), (a_x, .inr (7, [.ref a_g, .ref a_b, .ref a_v, .ref a_h, .ref a_r, .ref a_f, .ref a_u, .ref a_t, .ref a_n, .int x_sav, .int x_err, .int x_rea, .int x_det, .int x_com])), (a_gw, .inl (T 0, 90, .inl v_gw)), (a_gk, .inl (T 0, 18, .inl v_gk)), (a_rs, .inl (T 0, 45, .inl v_rs)), (a_rl, .inl (T 0, 45, .inl v_rl)), (a_ro, .inl (T 1, 45, .inl v_ro))] H) (hS : va_S A s.heap H locs) (ls : Array Slot) (hl : lv_has ls 2 [(0, .ref a_x), (1, .int l1)]) (h : rec2 l1 v_rs v_rl v_ro = some r), W p l e ({ frames := 4, cells := 0, slots := 0, locals := 93 } : Room) s m args below meth c H locs 0 0 Q (F0 m 2 ls [])) (l1 : Int32) (v_rs : Nat → Int32) (v_rl : Nat → Int32) (v_ro : Nat → Int32) {H : Heap} {locs : List Loc} (hPD : va_PD D A [(a_g, .inr (1, [.ref a_gw, .ref a_gk])), (a_r, .inr (4, [.ref a_g, .ref a_rs, .ref a_rl, .ref a_ro])), (a_x, .inr (7, [.ref a_g, .ref a_b, .ref a_v, .ref a_h, .ref a_r, .ref a_f, .ref a_u, .ref a_t, .ref a_n, .int x_sav, .int x_err, .int x_rea, .int x_det, .int x_com])), (a_gw, .inl (T 0, 90, .inl v_gw)), (a_gk, .inl (T 0, 18, .inl v_gk)), (a_rs, .inl (T 0, 45, .inl v_rs)), (a_rl, .inl (T 0, 45, .inl v_rl)), (a_ro, .inl (T 1, 45, .inl v_ro))] H) (hS : va_S A s.heap H locs) (ls : Array Slot) (hl : lv_has ls 2 [(0, .ref a_x), (1, .int l1)]) (h : fX7_areStepsAlike_53 v_gw v_gk rec2 l1 v_rs v_rl v_ro = some r) : W p l e ({ frames := 4, cells := 0, slots := 0, locals := 93 } : Room) s m args below meth c H locs 0 0 Q (F0 m 53 ls []) := by
  have hx := C.1
  have hb := C.2.1
  obtain ⟨hP, hD⟩ := hPD
  unfold fX7_areStepsAlike_53 at h
  refine lv_iinc (v := (l1 + 1)) (lv' := [(1, .int (l1 + 1)), (0, .ref a_x)]) hx hb dX7_areStepsAlike_53 hl (k := 1) rfl rfl (by decide) rfl (fun ls hl => ?_)
  refine lv_goto (tgt := 2) hx hb dX7_areStepsAlike_56 (by decide) ?_
  exact hrec2 (l1 + 1) v_rs v_rl v_ro ⟨hP, hD⟩ hS _ (lv_sub hl [1, 0] rfl) h
set_option maxHeartbeats 4000000 in
set_option maxRecDepth 100000 in
theorem lX7_areStepsAlike_2 {p : Program} {l : Launch} {e : Env} {s : State} {m : MethodId} {args : Array Value} {below : List Frame} {meth : Method} {c : Code} {Q : State → Prop} {D : va_G} {T : Nat → ClassId} {a_g a_gw a_gk a_r a_rs a_rl a_ro a_x a_b a_v a_h a_f a_u a_t a_n : Nat} {x_sav : Int32} {x_err : Int32} {x_rea : Int32} {x_det : Int32} {x_com : Int32} {v_gw : Nat → Int32} {v_gk : Nat → Int32} {A : Nat → Prop} {r : Int32 × (Nat → Int32) × (Nat → Int32) × (Nat → Int32)} (C : CallFix p m c cX7_areStepsAlike 2 s args aw RX7) (hE : eK D T s) (hA : ∀ q : Nat, s.heap.size ≤ q → A q) (hret : WrRet p l e ({ frames := 4, cells := 0, slots := 0, locals := 93 } : Room) s m args below meth c Q cX7_areStepsAlike .boolean D A [(a_g, .inr (1, [.ref a_gw, .ref a_gk])), (a_r, .inr (4, [.ref a_g, .ref a_rs, .ref a_rl, .ref a_ro])), (a_x, .inr (7, [.ref a_g, .ref a_b, .ref a_v, .ref a_h, .ref a_r, .ref a_f, .ref a_u, .ref a_t, .ref a_n, .int x_sav, .int x_err, .int x_rea, .int x_det, .int x_com])), (a_gw, .inl (T 0, 90, .inl v_gw)), (a_gk, .inl (T 0, 18, .inl v_gk)), (a_rs, .inl (T 0, 45, .inl r.2.1)), (a_rl, .inl (T 0, 45, .inl r.2.2.1)), (a_ro, .inl (T 1, 45, .inl r.2.2.2))] r.1) : ∀ (k : Nat) (l1 : Int32) (v_rs : Nat → Int32) (v_rl : Nat → Int32) (v_ro : Nat → Int32) {H : Heap} {locs : List Loc} (hPD : va_PD D A [(a_g, .inr (1, [.ref a_gw, .ref a_gk])), (a_r, .inr (4, [.ref a_g, .ref a_rs, .ref a_rl, .ref a_ro])), (a_x, .inr (7, [.ref a_g, .ref a_b, .ref a_v, .ref a_h, .ref a_r, .ref a_f, .ref a_u, .ref a_t, .ref a_n, .int x_sav, .int x_err, .int x_rea, .int x_det, .int x_com])), (a_gw, .inl (T 0, 90, .inl v_gw)), (a_gk, .inl (T 0, 18, .inl v_gk)), (a_rs, .inl (T 0, 45, .inl v_rs)), (a_rl, .inl (T 0, 45, .inl v_rl)), (a_ro, .inl (T 1, 45, .inl v_ro))] H) (hS : va_S A s.heap H locs) (ls : Array Slot) (hl : lv_has ls 2 [(0, .ref a_x), (1, .int l1)]) (h : fX7_areStepsAlike_2 v_gw v_gk k l1 v_rs v_rl v_ro = some r), W p l e ({ frames := 4, cells := 0, slots := 0, locals := 93 } : Room) s m args below meth c H locs 0 0 Q (F0 m 2 ls []) := by
  have hx := C.1
  have hb := C.2.1
  intro k
  induction k with
  | zero =>
    intro l1 v_rs v_rl v_ro H locs hPD hS ls hl h
    exact nomatch (show (none : Option (Int32 × (Nat → Int32) × (Nat → Int32) × (Nat → Int32))) = some r from h)
  | succ k ih =>
    intro l1 v_rs v_rl v_ro H locs hPD hS ls hl h
    obtain ⟨hP, hD⟩ := hPD
    rw [fX7_areStepsAlike_2] at h
    refine lv_iload_n hx hb dX7_areStepsAlike_2 rfl (lv_at hl 1 rfl) ?_
    refine lv_aload_n hx hb dX7_areStepsAlike_3 rfl (lv_at hl 0 rfl) ?_
    refine getF (q0 := 2) (k0 := 0) (v := .ref a_g) C hE hP inA7 rfl rfl (by decide) qFX7_10 rfl rfl dX7_areStepsAlike_4 ?_
    refine lv_iconst (v := 0) hx hb dX7_areStepsAlike_7 (by decide) ?_
    replace h := bnd h; obtain ⟨q1, e2, h⟩ := h
    refine rdV C hE hP (kX1_count l D T a_g a_gw a_gk v_gk 0 q1 e2) mX1_count qLX7_235 [0, 4] 0 rfl rfl rfl rfl ⟨rfl, rfl⟩ ⟨Nat.le_of_ble_eq_true rfl, Nat.le_of_ble_eq_true rfl⟩ rfl hl.1 rfl (Nat.le_of_ble_eq_true rfl) dX7_areStepsAlike_8 ⟨Nat.le_of_ble_eq_true rfl, Nat.le_of_ble_eq_true rfl⟩ ?_
    refine lv_icmp_ge (tgt := 59) hx hb dX7_areStepsAlike_11 (by decide) (fun c3 => ?_) (fun c3 => ?_)
    · replace h := ite_t c3 h
      refine lv_iconst (v := 1) hx hb dX7_areStepsAlike_59 (by decide) ?_
      replace h := Option.some.inj h
      exact hret _ _ _ _ _ _ dX7_areStepsAlike_60 rfl (by rw [← h] <;> rfl) (by rw [← h]; exact hP) hS
    · replace h := ite_f c3 h
      refine lv_aload_n hx hb dX7_areStepsAlike_14 rfl (lv_at hl 0 rfl) ?_
      refine getF (q0 := 2) (k0 := 0) (v := .ref a_g) C hE hP inA7 rfl rfl (by decide) qFX7_10 rfl rfl dX7_areStepsAlike_15 ?_
      refine lv_iload_n hx hb dX7_areStepsAlike_18 rfl (lv_at hl 1 rfl) ?_
      replace h := bnd h; obtain ⟨q4, e5, h⟩ := h
      refine rdV C hE hP (kX1_isPlaying l D T a_g a_gw a_gk v_gw l1 q4 e5) mX1_isPlaying qLX7_200 [0, 3] 0 rfl rfl rfl rfl ⟨rfl, rfl⟩ ⟨Nat.le_of_ble_eq_true rfl, Nat.le_of_ble_eq_true rfl⟩ rfl hl.1 rfl (Nat.le_of_ble_eq_true rfl) dX7_areStepsAlike_19 ⟨Nat.le_of_ble_eq_true rfl, Nat.le_of_ble_eq_true rfl⟩ ?_
      refine lv_if_eq (tgt := 53) hx hb dX7_areStepsAlike_22 (by decide) (fun c6 => ?_) (fun c6 => ?_)
      · replace h := ite_t c6 h
        exact lX7_areStepsAlike_53 C hE hA hret ih l1 v_rs v_rl v_ro ⟨hP, hD⟩ hS _ (lv_sub hl [0, 1] rfl) h
      · replace h := ite_f c6 h
        refine lv_aload_n hx hb dX7_areStepsAlike_25 rfl (lv_at hl 0 rfl) ?_
        refine getF (q0 := 2) (k0 := 4) (v := .ref a_r) C hE hP inA7 rfl rfl (by decide) qFX7_34 rfl rfl dX7_areStepsAlike_26 ?_
        refine lv_iload_n hx hb dX7_areStepsAlike_29 rfl (lv_at hl 1 rfl) ?_
        replace h := bnd h; obtain ⟨q7, e8, h⟩ := h
        refine wrVv (ws1 := [(a_g, .inr (1, [.ref a_gw, .ref a_gk])), (a_r, .inr (4, [.ref a_g, .ref a_rs, .ref a_rl, .ref a_ro])), (a_x, .inr (7, [.ref a_g, .ref a_b, .ref a_v, .ref a_h, .ref a_r, .ref a_f, .ref a_u, .ref a_t, .ref a_n, .int x_sav, .int x_err, .int x_rea, .int x_det, .int x_com])), (a_gw, .inl (T 0, 90, .inl v_gw)), (a_gk, .inl (T 0, 18, .inl v_gk)), (a_rs, .inl (T 0, 45, .inl q7.1)), (a_rl, .inl (T 0, 45, .inl v_rl)), (a_ro, .inl (T 1, 45, .inl q7.2))]) C hE hP hD hS hA (kX4_findBySpreading l D T a_g a_gw a_gk a_r a_rs a_rl a_ro v_gw v_gk v_rs v_ro l1 _ q7 e8) mX4_findBySpreading qLX7_181 [0, 1, 3, 4, 5, 7] [2, 6] 1 rfl rfl rfl rfl rfl rfl rfl rfl rfl ⟨rfl, rfl⟩ ⟨Nat.le_of_ble_eq_true rfl, Nat.le_of_ble_eq_true rfl⟩ rfl hl.1 rfl (Nat.le_of_ble_eq_true rfl) dX7_areStepsAlike_30 ⟨Nat.le_of_ble_eq_true rfl, Nat.le_of_ble_eq_true rfl⟩ ?_; clear hP hD hS; intro H locs hP hD hS
        refine lv_aload_n hx hb dX7_areStepsAlike_33 rfl (lv_at hl 0 rfl) ?_
        refine getF (q0 := 2) (k0 := 4) (v := .ref a_r) C hE hP inA7 rfl rfl (by decide) qFX7_34 rfl rfl dX7_areStepsAlike_34 ?_
        refine lv_iload_n hx hb dX7_areStepsAlike_37 rfl (lv_at hl 1 rfl) ?_
        replace h := bnd h; obtain ⟨q9, e10, h⟩ := h
        refine wrVv (ws1 := [(a_g, .inr (1, [.ref a_gw, .ref a_gk])), (a_r, .inr (4, [.ref a_g, .ref a_rs, .ref a_rl, .ref a_ro])), (a_x, .inr (7, [.ref a_g, .ref a_b, .ref a_v, .ref a_h, .ref a_r, .ref a_f, .ref a_u, .ref a_t, .ref a_n, .int x_sav, .int x_err, .int x_rea, .int x_det, .int x_com])), (a_gw, .inl (T 0, 90, .inl v_gw)), (a_gk, .inl (T 0, 18, .inl v_gk)), (a_rs, .inl (T 0, 45, .inl q7.1)), (a_rl, .inl (T 0, 45, .inl q9.1)), (a_ro, .inl (T 1, 45, .inl q9.2))]) C hE hP hD hS hA (kX4_findByLowering l D T a_g a_gw a_gk a_r a_rs a_rl a_ro v_gw v_gk v_rl q7.2 l1 _ q9 e10) mX4_findByLowering qLX7_190 [0, 1, 3, 4, 6, 7] [2, 5] 1 rfl rfl rfl rfl rfl rfl rfl rfl rfl ⟨rfl, rfl⟩ ⟨Nat.le_of_ble_eq_true rfl, Nat.le_of_ble_eq_true rfl⟩ rfl hl.1 rfl (Nat.le_of_ble_eq_true rfl) dX7_areStepsAlike_38 ⟨Nat.le_of_ble_eq_true rfl, Nat.le_of_ble_eq_true rfl⟩ ?_; clear hP hD hS; intro H locs hP hD hS
        refine lv_aload_n hx hb dX7_areStepsAlike_41 rfl (lv_at hl 0 rfl) ?_
        refine getF (q0 := 2) (k0 := 4) (v := .ref a_r) C hE hP inA7 rfl rfl (by decide) qFX7_34 rfl rfl dX7_areStepsAlike_42 ?_
        replace h := bnd h; obtain ⟨q11, e12, h⟩ := h
        refine rdV C hE hP (kX4_areAlike l D T a_r a_g a_rs a_rl a_ro q7.1 q9.1 q11 e12) mX4_areAlike qLX7_443 [1, 5, 6] 1 rfl rfl rfl rfl ⟨rfl, rfl⟩ ⟨Nat.le_of_ble_eq_true rfl, Nat.le_of_ble_eq_true rfl⟩ rfl hl.1 rfl (Nat.le_of_ble_eq_true rfl) dX7_areStepsAlike_45 ⟨Nat.le_of_ble_eq_true rfl, Nat.le_of_ble_eq_true rfl⟩ ?_
        refine lv_if_ne (tgt := 53) hx hb dX7_areStepsAlike_48 (by decide) (fun c13 => ?_) (fun c13 => ?_)
        · replace h := ite_f c13 h
          exact lX7_areStepsAlike_53 C hE hA hret ih l1 q7.1 q9.1 q9.2 ⟨hP, hD⟩ hS _ (lv_sub hl [0, 1] rfl) h
        · replace h := ite_t c13 h
          refine lv_iconst (v := 0) hx hb dX7_areStepsAlike_51 (by decide) ?_
          replace h := Option.some.inj h
          exact hret _ _ _ _ _ _ dX7_areStepsAlike_52 rfl (by rw [← h] <;> rfl) (by rw [← h]; exact hP) hS
set_option maxHeartbeats 4000000 in
set_option maxRecDepth 100000 in
theorem kX7_areStepsAlike (l : Launch) (D : va_G) (T : Nat → ClassId) (a_g a_gw a_gk a_r a_rs a_rl a_ro a_x a_b a_v a_h a_f a_u a_t a_n : Nat) (x_sav : Int32) (x_err : Int32) (x_rea : Int32) (x_det : Int32) (x_com : Int32) (v_gw : Nat → Int32) (v_gk : Nat → Int32) (v_rs : Nat → Int32) (v_rl : Nat → Int32) (v_ro : Nat → Int32) (sz : Nat) (r : Int32 × (Nat → Int32) × (Nat → Int32) × (Nat → Int32)) (h : fX7_areStepsAlike v_gw v_gk v_rs v_rl v_ro = some r) : WrI l yX7_areStepsAlike cX7_areStepsAlike 2 .boolean ({ frames := 4, cells := 0, slots := 0, locals := 93 } : Room) D T sz [(a_g, .inr (1, [.ref a_gw, .ref a_gk])), (a_r, .inr (4, [.ref a_g, .ref a_rs, .ref a_rl, .ref a_ro])), (a_x, .inr (7, [.ref a_g, .ref a_b, .ref a_v, .ref a_h, .ref a_r, .ref a_f, .ref a_u, .ref a_t, .ref a_n, .int x_sav, .int x_err, .int x_rea, .int x_det, .int x_com])), (a_gw, .inl (T 0, 90, .inl v_gw)), (a_gk, .inl (T 0, 18, .inl v_gk)), (a_rs, .inl (T 0, 45, .inl v_rs)), (a_rl, .inl (T 0, 45, .inl v_rl)), (a_ro, .inl (T 1, 45, .inl v_ro))] [(a_g, .inr (1, [.ref a_gw, .ref a_gk])), (a_r, .inr (4, [.ref a_g, .ref a_rs, .ref a_rl, .ref a_ro])), (a_x, .inr (7, [.ref a_g, .ref a_b, .ref a_v, .ref a_h, .ref a_r, .ref a_f, .ref a_u, .ref a_t, .ref a_n, .int x_sav, .int x_err, .int x_rea, .int x_det, .int x_com])), (a_gw, .inl (T 0, 90, .inl v_gw)), (a_gk, .inl (T 0, 18, .inl v_gk)), (a_rs, .inl (T 0, 45, .inl r.2.1)), (a_rl, .inl (T 0, 45, .inl r.2.2.1)), (a_ro, .inl (T 1, 45, .inl r.2.2.2))] [.ref a_x] r.1 := by
  unfold fX7_areStepsAlike at h
  refine wrMet (by decide +kernel) rfl (fun p e s m args below meth c Q A C hE hA hP hD hS hret ls hl => ?_)
  have hx := C.1
  have hb := C.2.1
  have hl : lv_has ls 2 [(0, .ref a_x)] := hl
  refine lv_iconst (v := 0) hx hb dX7_areStepsAlike_0 (by decide) ?_
  refine lv_istore_n (lv' := [(1, .int 0), (0, .ref a_x)]) hx hb dX7_areStepsAlike_1 rfl hl (by decide) rfl (fun ls hl => ?_)
  exact lX7_areStepsAlike_2 C hE hA hret 64 0 v_rs v_rl v_ro ⟨hP, hD⟩ hS _ (lv_sub hl [1, 0] rfl) h

def fX7_areFlightsAlike_23 (v_gw : Nat → Int32) (v_gk : Nat → Int32) (rec2 : Int32 → Int32 → Option (Int32 × Int32)) (rec16 : Int32 → Int32 → Int32 → Option (Int32 × Int32)) : Nat → Int32 → Int32 → Int32 → Int32 → Option (Int32 × Int32)
  | 0, _, _, _, _ => none
  | k + 1, l1, l2, l3, f_net =>
    if 5 < l3 then
      rec16 l1 (l2 + 1) f_net
    else
      (fX0_endByCells f_net v_gw v_gk l1 l2 l3).bind fun q6 =>
      (fX0_endByStops v_gw v_gk l1 l2 l3).bind fun q8 =>
      if q6.1 = q8 then
        fX7_areFlightsAlike_23 v_gw v_gk rec2 rec16 k l1 l2 (l3 + 1) q6.2
      else
        some (0, q6.2)
def fX7_areFlightsAlike_16 (v_gw : Nat → Int32) (v_gk : Nat → Int32) (rec2 : Int32 → Int32 → Option (Int32 × Int32)) : Nat → Int32 → Int32 → Int32 → Option (Int32 × Int32)
  | 0, _, _, _ => none
  | k + 1, l1, l2, f_net =>
    if 4 ≤ l2 then
      rec2 (l1 + 1) f_net
    else
      fX7_areFlightsAlike_23 v_gw v_gk rec2 (fX7_areFlightsAlike_16 v_gw v_gk rec2 k) 64 l1 l2 1 f_net
def fX7_areFlightsAlike_2 (v_gw : Nat → Int32) (v_gk : Nat → Int32) : Nat → Int32 → Int32 → Option (Int32 × Int32)
  | 0, _, _ => none
  | k + 1, l1, f_net =>
    (fX1_count v_gk 0).bind fun q1 =>
    if q1 ≤ l1 then
      some (1, f_net)
    else
      fX7_areFlightsAlike_16 v_gw v_gk (fX7_areFlightsAlike_2 v_gw v_gk k) 64 l1 0 f_net
def fX7_areFlightsAlike (f_net : Int32) (v_gw : Nat → Int32) (v_gk : Nat → Int32) : Option (Int32 × Int32) :=
  fX7_areFlightsAlike_2 v_gw v_gk 64 0 f_net
set_option maxHeartbeats 4000000 in
set_option maxRecDepth 100000 in
theorem lX7_areFlightsAlike_23 {p : Program} {l : Launch} {e : Env} {s : State} {m : MethodId} {args : Array Value} {below : List Frame} {meth : Method} {c : Code} {Q : State → Prop} {D : va_G} {T : Nat → ClassId} {a_g a_gw a_gk a_f a_x a_b a_v a_h a_r a_u a_t a_n : Nat} {x_sav : Int32} {x_err : Int32} {x_rea : Int32} {x_det : Int32} {x_com : Int32} {v_gw : Nat → Int32} {v_gk : Nat → Int32} {A : Nat → Prop} {r : Int32 × Int32} (C : CallFix p m c cX7_areFlightsAlike 4 s args aw RX7) (hE : eK D T s) (hA : ∀ q : Nat, s.heap.size ≤ q → A q) (hret : WrRet p l e ({ frames := 5, cells := 0, slots := 0, locals := 115 } : Room) s m args below meth c Q cX7_areFlightsAlike .boolean D A [(a_g, .inr (1, [.ref a_gw, .ref a_gk])), (a_f, .inr (0, [.ref a_g, .int r.2])), (a_x, .inr (7, [.ref a_g, .ref a_b, .ref a_v, .ref a_h, .ref a_r, .ref a_f, .ref a_u, .ref a_t, .ref a_n, .int x_sav, .int x_err, .int x_rea, .int x_det, .int x_com])), (a_gw, .inl (T 0, 90, .inl v_gw)), (a_gk, .inl (T 0, 18, .inl v_gk))] r.1) {rec2 : Int32 → Int32 → Option (Int32 × Int32)} (hrec2 : ∀ (l1 : Int32) (f_net : Int32) {H : Heap} {locs : List Loc} (hPD : va_PD D A [(a_g, .inr (1, [.ref a_gw, .ref a_gk])), (a_f, .inr (0, [.ref a_g, .int f_net])), (a_x, .inr (7, [.ref a_g, .ref a_b, .ref a_v, .ref a_h, .ref a_r, .ref a_f, .ref a_u, .ref a_t, .ref a_n, .int x_sav, .int x_err, .int x_rea, .int x_det, .int x_com])), (a_gw, .inl (T 0, 90, .inl v_gw)), (a_gk, .inl (T 0, 18, .inl v_gk))] H) (hS : va_S A s.heap H locs) (ls : Array Slot) (hl : lv_has ls 4 [(0, .ref a_x), (1, .int l1)]) (h : rec2 l1 f_net = some r), W p l e ({ frames := 5, cells := 0, slots := 0, locals := 115 } : Room) s m args below meth c H locs 0 0 Q (F0 m 2 ls [])) {rec16 : Int32 → Int32 → Int32 → Option (Int32 × Int32)} (hrec16 : ∀ (l1 : Int32) (l2 : Int32) (f_net : Int32) {H : Heap} {locs : List Loc} (hPD : va_PD D A [(a_g, .inr (1, [.ref a_gw, .ref a_gk])), (a_f, .inr (0, [.ref a_g, .int f_net])), (a_x, .inr (7, [.ref a_g, .ref a_b, .ref a_v, .ref a_h, .ref a_r, .ref a_f, .ref a_u, .ref a_t, .ref a_n, .int x_sav, .int x_err, .int x_rea, .int x_det, .int x_com])), (a_gw, .inl (T 0, 90, .inl v_gw)), (a_gk, .inl (T 0, 18, .inl v_gk))] H) (hS : va_S A s.heap H locs) (ls : Array Slot) (hl : lv_has ls 4 [(0, .ref a_x), (1, .int l1), (2, .int l2)]) (h : rec16 l1 l2 f_net = some r), W p l e ({ frames := 5, cells := 0, slots := 0, locals := 115 } : Room) s m args below meth c H locs 0 0 Q (F0 m 16 ls [])) : ∀ (k : Nat) (l1 : Int32) (l2 : Int32) (l3 : Int32) (f_net : Int32) {H : Heap} {locs : List Loc} (hPD : va_PD D A [(a_g, .inr (1, [.ref a_gw, .ref a_gk])), (a_f, .inr (0, [.ref a_g, .int f_net])), (a_x, .inr (7, [.ref a_g, .ref a_b, .ref a_v, .ref a_h, .ref a_r, .ref a_f, .ref a_u, .ref a_t, .ref a_n, .int x_sav, .int x_err, .int x_rea, .int x_det, .int x_com])), (a_gw, .inl (T 0, 90, .inl v_gw)), (a_gk, .inl (T 0, 18, .inl v_gk))] H) (hS : va_S A s.heap H locs) (ls : Array Slot) (hl : lv_has ls 4 [(0, .ref a_x), (1, .int l1), (2, .int l2), (3, .int l3)]) (h : fX7_areFlightsAlike_23 v_gw v_gk rec2 rec16 k l1 l2 l3 f_net = some r), W p l e ({ frames := 5, cells := 0, slots := 0, locals := 115 } : Room) s m args below meth c H locs 0 0 Q (F0 m 23 ls []) := by
  have hx := C.1
  have hb := C.2.1
  intro k
  induction k with
  | zero =>
    intro l1 l2 l3 f_net H locs hPD hS ls hl h
    exact nomatch (show (none : Option (Int32 × Int32)) = some r from h)
  | succ k ih =>
    intro l1 l2 l3 f_net H locs hPD hS ls hl h
    obtain ⟨hP, hD⟩ := hPD
    rw [fX7_areFlightsAlike_23] at h
    refine lv_iload_n hx hb dX7_areFlightsAlike_23 rfl (lv_at hl 3 rfl) ?_
    refine lv_iconst (v := 5) hx hb dX7_areFlightsAlike_24 (by decide) ?_
    refine lv_icmp_gt (tgt := 59) hx hb dX7_areFlightsAlike_25 (by decide) (fun c5 => ?_) (fun c5 => ?_)
    · replace h := ite_t c5 h
      refine lv_iinc (v := (l2 + 1)) (lv' := [(2, .int (l2 + 1)), (0, .ref a_x), (1, .int l1), (3, .int l3)]) hx hb dX7_areFlightsAlike_59 hl (k := 2) rfl rfl (by decide) rfl (fun ls hl => ?_)
      refine lv_goto (tgt := 16) hx hb dX7_areFlightsAlike_62 (by decide) ?_
      exact hrec16 l1 (l2 + 1) f_net ⟨hP, hD⟩ hS _ (lv_sub hl [1, 2, 0] rfl) h
    · replace h := ite_f c5 h
      refine lv_aload_n hx hb dX7_areFlightsAlike_28 rfl (lv_at hl 0 rfl) ?_
      refine getF (q0 := 2) (k0 := 5) (v := .ref a_f) C hE hP inA7 rfl rfl (by decide) qFX7_41 rfl rfl dX7_areFlightsAlike_29 ?_
      refine lv_iload_n hx hb dX7_areFlightsAlike_32 rfl (lv_at hl 1 rfl) ?_
      refine lv_iload_n hx hb dX7_areFlightsAlike_33 rfl (lv_at hl 2 rfl) ?_
      refine lv_iload_n hx hb dX7_areFlightsAlike_34 rfl (lv_at hl 3 rfl) ?_
      replace h := bnd h; obtain ⟨q6, e7, h⟩ := h
      refine wrVi (ws1 := [(a_g, .inr (1, [.ref a_gw, .ref a_gk])), (a_f, .inr (0, [.ref a_g, .int q6.2])), (a_x, .inr (7, [.ref a_g, .ref a_b, .ref a_v, .ref a_h, .ref a_r, .ref a_f, .ref a_u, .ref a_t, .ref a_n, .int x_sav, .int x_err, .int x_rea, .int x_det, .int x_com])), (a_gw, .inl (T 0, 90, .inl v_gw)), (a_gk, .inl (T 0, 18, .inl v_gk))]) C hE hP hD hS hA (kX0_endByCells l D T a_g a_gw a_gk a_f f_net v_gw v_gk l1 l2 l3 _ q6 e7) mX0_endByCells qLX7_218 [0, 1, 3, 4] [2] 1 rfl rfl rfl rfl rfl rfl rfl rfl rfl ⟨rfl, rfl⟩ ⟨Nat.le_of_ble_eq_true rfl, Nat.le_of_ble_eq_true rfl⟩ rfl hl.1 rfl (Nat.le_of_ble_eq_true rfl) dX7_areFlightsAlike_35 ⟨Nat.le_of_ble_eq_true rfl, Nat.le_of_ble_eq_true rfl⟩ ?_; clear hP hD hS; intro H locs hP hD hS
      refine lv_aload_n hx hb dX7_areFlightsAlike_38 rfl (lv_at hl 0 rfl) ?_
      refine getF (q0 := 2) (k0 := 5) (v := .ref a_f) C hE hP inA7 rfl rfl (by decide) qFX7_41 rfl rfl dX7_areFlightsAlike_39 ?_
      refine lv_iload_n hx hb dX7_areFlightsAlike_42 rfl (lv_at hl 1 rfl) ?_
      refine lv_iload_n hx hb dX7_areFlightsAlike_43 rfl (lv_at hl 2 rfl) ?_
      refine lv_iload_n hx hb dX7_areFlightsAlike_44 rfl (lv_at hl 3 rfl) ?_
      replace h := bnd h; obtain ⟨q8, e9, h⟩ := h
      refine rdV C hE hP (kX0_endByStops l D T a_g a_gw a_gk a_f q6.2 v_gw v_gk l1 l2 l3 q8 e9) mX0_endByStops qLX7_221 [0, 1, 3, 4] 1 rfl rfl rfl rfl ⟨rfl, rfl⟩ ⟨Nat.le_of_ble_eq_true rfl, Nat.le_of_ble_eq_true rfl⟩ rfl hl.1 rfl (Nat.le_of_ble_eq_true rfl) dX7_areFlightsAlike_45 ⟨Nat.le_of_ble_eq_true rfl, Nat.le_of_ble_eq_true rfl⟩ ?_
      refine lv_icmp_eq (tgt := 53) hx hb dX7_areFlightsAlike_48 (by decide) (fun c10 => ?_) (fun c10 => ?_)
      · replace h := ite_t c10 h
        refine lv_iinc (v := (l3 + 1)) (lv' := [(3, .int (l3 + 1)), (0, .ref a_x), (1, .int l1), (2, .int l2)]) hx hb dX7_areFlightsAlike_53 hl (k := 3) rfl rfl (by decide) rfl (fun ls hl => ?_)
        refine lv_goto (tgt := 23) hx hb dX7_areFlightsAlike_56 (by decide) ?_
        exact ih l1 l2 (l3 + 1) q6.2 ⟨hP, hD⟩ hS _ (lv_sub hl [1, 2, 3, 0] rfl) h
      · replace h := ite_f c10 h
        refine lv_iconst (v := 0) hx hb dX7_areFlightsAlike_51 (by decide) ?_
        replace h := Option.some.inj h
        exact hret _ _ _ _ _ _ dX7_areFlightsAlike_52 rfl (by rw [← h] <;> rfl) (by rw [← h]; exact hP) hS
set_option maxHeartbeats 4000000 in
set_option maxRecDepth 100000 in
theorem lX7_areFlightsAlike_16 {p : Program} {l : Launch} {e : Env} {s : State} {m : MethodId} {args : Array Value} {below : List Frame} {meth : Method} {c : Code} {Q : State → Prop} {D : va_G} {T : Nat → ClassId} {a_g a_gw a_gk a_f a_x a_b a_v a_h a_r a_u a_t a_n : Nat} {x_sav : Int32} {x_err : Int32} {x_rea : Int32} {x_det : Int32} {x_com : Int32} {v_gw : Nat → Int32} {v_gk : Nat → Int32} {A : Nat → Prop} {r : Int32 × Int32} (C : CallFix p m c cX7_areFlightsAlike 4 s args aw RX7) (hE : eK D T s) (hA : ∀ q : Nat, s.heap.size ≤ q → A q) (hret : WrRet p l e ({ frames := 5, cells := 0, slots := 0, locals := 115 } : Room) s m args below meth c Q cX7_areFlightsAlike .boolean D A [(a_g, .inr (1, [.ref a_gw, .ref a_gk])), (a_f, .inr (0, [.ref a_g, .int r.2])), (a_x, .inr (7, [.ref a_g, .ref a_b, .ref a_v, .ref a_h, .ref a_r, .ref a_f, .ref a_u, .ref a_t, .ref a_n, .int x_sav, .int x_err, .int x_rea, .int x_det, .int x_com])), (a_gw, .inl (T 0, 90, .inl v_gw)), (a_gk, .inl (T 0, 18, .inl v_gk))] r.1) {rec2 : Int32 → Int32 → Option (Int32 × Int32)} (hrec2 : ∀ (l1 : Int32) (f_net : Int32) {H : Heap} {locs : List Loc} (hPD : va_PD D A [(a_g, .inr (1, [.ref a_gw, .ref a_gk])), (a_f, .inr (0, [.ref a_g, .int f_net])), (a_x, .inr (7, [.ref a_g, .ref a_b, .ref a_v, .ref a_h, .ref a_r, .ref a_f, .ref a_u, .ref a_t, .ref a_n, .int x_sav, .int x_err, .int x_rea, .int x_det, .int x_com])), (a_gw, .inl (T 0, 90, .inl v_gw)), (a_gk, .inl (T 0, 18, .inl v_gk))] H) (hS : va_S A s.heap H locs) (ls : Array Slot) (hl : lv_has ls 4 [(0, .ref a_x), (1, .int l1)]) (h : rec2 l1 f_net = some r), W p l e ({ frames := 5, cells := 0, slots := 0, locals := 115 } : Room) s m args below meth c H locs 0 0 Q (F0 m 2 ls [])) : ∀ (k : Nat) (l1 : Int32) (l2 : Int32) (f_net : Int32) {H : Heap} {locs : List Loc} (hPD : va_PD D A [(a_g, .inr (1, [.ref a_gw, .ref a_gk])), (a_f, .inr (0, [.ref a_g, .int f_net])), (a_x, .inr (7, [.ref a_g, .ref a_b, .ref a_v, .ref a_h, .ref a_r, .ref a_f, .ref a_u, .ref a_t, .ref a_n, .int x_sav, .int x_err, .int x_rea, .int x_det, .int x_com])), (a_gw, .inl (T 0, 90, .inl v_gw)), (a_gk, .inl (T 0, 18, .inl v_gk))] H) (hS : va_S A s.heap H locs) (ls : Array Slot) (hl : lv_has ls 4 [(0, .ref a_x), (1, .int l1), (2, .int l2)]) (h : fX7_areFlightsAlike_16 v_gw v_gk rec2 k l1 l2 f_net = some r), W p l e ({ frames := 5, cells := 0, slots := 0, locals := 115 } : Room) s m args below meth c H locs 0 0 Q (F0 m 16 ls []) := by
  have hx := C.1
  have hb := C.2.1
  intro k
  induction k with
  | zero =>
    intro l1 l2 f_net H locs hPD hS ls hl h
    exact nomatch (show (none : Option (Int32 × Int32)) = some r from h)
  | succ k ih =>
    intro l1 l2 f_net H locs hPD hS ls hl h
    obtain ⟨hP, hD⟩ := hPD
    rw [fX7_areFlightsAlike_16] at h
    refine lv_iload_n hx hb dX7_areFlightsAlike_16 rfl (lv_at hl 2 rfl) ?_
    refine lv_iconst (v := 4) hx hb dX7_areFlightsAlike_17 (by decide) ?_
    refine lv_icmp_ge (tgt := 65) hx hb dX7_areFlightsAlike_18 (by decide) (fun c4 => ?_) (fun c4 => ?_)
    · replace h := ite_t c4 h
      refine lv_iinc (v := (l1 + 1)) (lv' := [(1, .int (l1 + 1)), (0, .ref a_x), (2, .int l2)]) hx hb dX7_areFlightsAlike_65 hl (k := 1) rfl rfl (by decide) rfl (fun ls hl => ?_)
      refine lv_goto (tgt := 2) hx hb dX7_areFlightsAlike_68 (by decide) ?_
      exact hrec2 (l1 + 1) f_net ⟨hP, hD⟩ hS _ (lv_sub hl [1, 0] rfl) h
    · replace h := ite_f c4 h
      refine lv_iconst (v := 1) hx hb dX7_areFlightsAlike_21 (by decide) ?_
      refine lv_istore_n (lv' := [(3, .int 1), (0, .ref a_x), (1, .int l1), (2, .int l2)]) hx hb dX7_areFlightsAlike_22 rfl hl (by decide) rfl (fun ls hl => ?_)
      exact lX7_areFlightsAlike_23 C hE hA hret hrec2 ih 64 l1 l2 1 f_net ⟨hP, hD⟩ hS _ (lv_sub hl [1, 2, 3, 0] rfl) h
set_option maxHeartbeats 4000000 in
set_option maxRecDepth 100000 in
theorem lX7_areFlightsAlike_2 {p : Program} {l : Launch} {e : Env} {s : State} {m : MethodId} {args : Array Value} {below : List Frame} {meth : Method} {c : Code} {Q : State → Prop} {D : va_G} {T : Nat → ClassId} {a_g a_gw a_gk a_f a_x a_b a_v a_h a_r a_u a_t a_n : Nat} {x_sav : Int32} {x_err : Int32} {x_rea : Int32} {x_det : Int32} {x_com : Int32} {v_gw : Nat → Int32} {v_gk : Nat → Int32} {A : Nat → Prop} {r : Int32 × Int32} (C : CallFix p m c cX7_areFlightsAlike 4 s args aw RX7) (hE : eK D T s) (hA : ∀ q : Nat, s.heap.size ≤ q → A q) (hret : WrRet p l e ({ frames := 5, cells := 0, slots := 0, locals := 115 } : Room) s m args below meth c Q cX7_areFlightsAlike .boolean D A [(a_g, .inr (1, [.ref a_gw, .ref a_gk])), (a_f, .inr (0, [.ref a_g, .int r.2])), (a_x, .inr (7, [.ref a_g, .ref a_b, .ref a_v, .ref a_h, .ref a_r, .ref a_f, .ref a_u, .ref a_t, .ref a_n, .int x_sav, .int x_err, .int x_rea, .int x_det, .int x_com])), (a_gw, .inl (T 0, 90, .inl v_gw)), (a_gk, .inl (T 0, 18, .inl v_gk))] r.1) : ∀ (k : Nat) (l1 : Int32) (f_net : Int32) {H : Heap} {locs : List Loc} (hPD : va_PD D A [(a_g, .inr (1, [.ref a_gw, .ref a_gk])), (a_f, .inr (0, [.ref a_g, .int f_net])), (a_x, .inr (7, [.ref a_g, .ref a_b, .ref a_v, .ref a_h, .ref a_r, .ref a_f, .ref a_u, .ref a_t, .ref a_n, .int x_sav, .int x_err, .int x_rea, .int x_det, .int x_com])), (a_gw, .inl (T 0, 90, .inl v_gw)), (a_gk, .inl (T 0, 18, .inl v_gk))] H) (hS : va_S A s.heap H locs) (ls : Array Slot) (hl : lv_has ls 4 [(0, .ref a_x), (1, .int l1)]) (h : fX7_areFlightsAlike_2 v_gw v_gk k l1 f_net = some r), W p l e ({ frames := 5, cells := 0, slots := 0, locals := 115 } : Room) s m args below meth c H locs 0 0 Q (F0 m 2 ls []) := by
  have hx := C.1
  have hb := C.2.1
  intro k
  induction k with
  | zero =>
    intro l1 f_net H locs hPD hS ls hl h
    exact nomatch (show (none : Option (Int32 × Int32)) = some r from h)
  | succ k ih =>
    intro l1 f_net H locs hPD hS ls hl h
    obtain ⟨hP, hD⟩ := hPD
    rw [fX7_areFlightsAlike_2] at h
    refine lv_iload_n hx hb dX7_areFlightsAlike_2 rfl (lv_at hl 1 rfl) ?_
    refine lv_aload_n hx hb dX7_areFlightsAlike_3 rfl (lv_at hl 0 rfl) ?_
    refine getF (q0 := 2) (k0 := 0) (v := .ref a_g) C hE hP inA7 rfl rfl (by decide) qFX7_10 rfl rfl dX7_areFlightsAlike_4 ?_
    refine lv_iconst (v := 0) hx hb dX7_areFlightsAlike_7 (by decide) ?_
    replace h := bnd h; obtain ⟨q1, e2, h⟩ := h
    refine rdV C hE hP (kX1_count l D T a_g a_gw a_gk v_gk 0 q1 e2) mX1_count qLX7_235 [0, 4] 0 rfl rfl rfl rfl ⟨rfl, rfl⟩ ⟨Nat.le_of_ble_eq_true rfl, Nat.le_of_ble_eq_true rfl⟩ rfl hl.1 rfl (Nat.le_of_ble_eq_true rfl) dX7_areFlightsAlike_8 ⟨Nat.le_of_ble_eq_true rfl, Nat.le_of_ble_eq_true rfl⟩ ?_
    refine lv_icmp_ge (tgt := 71) hx hb dX7_areFlightsAlike_11 (by decide) (fun c3 => ?_) (fun c3 => ?_)
    · replace h := ite_t c3 h
      refine lv_iconst (v := 1) hx hb dX7_areFlightsAlike_71 (by decide) ?_
      replace h := Option.some.inj h
      exact hret _ _ _ _ _ _ dX7_areFlightsAlike_72 rfl (by rw [← h] <;> rfl) (by rw [← h]; exact hP) hS
    · replace h := ite_f c3 h
      refine lv_iconst (v := 0) hx hb dX7_areFlightsAlike_14 (by decide) ?_
      refine lv_istore_n (lv' := [(2, .int 0), (0, .ref a_x), (1, .int l1)]) hx hb dX7_areFlightsAlike_15 rfl hl (by decide) rfl (fun ls hl => ?_)
      exact lX7_areFlightsAlike_16 C hE hA hret ih 64 l1 0 f_net ⟨hP, hD⟩ hS _ (lv_sub hl [1, 2, 0] rfl) h
set_option maxHeartbeats 4000000 in
set_option maxRecDepth 100000 in
theorem kX7_areFlightsAlike (l : Launch) (D : va_G) (T : Nat → ClassId) (a_g a_gw a_gk a_f a_x a_b a_v a_h a_r a_u a_t a_n : Nat) (f_net : Int32) (x_sav : Int32) (x_err : Int32) (x_rea : Int32) (x_det : Int32) (x_com : Int32) (v_gw : Nat → Int32) (v_gk : Nat → Int32) (sz : Nat) (r : Int32 × Int32) (h : fX7_areFlightsAlike f_net v_gw v_gk = some r) : WrI l yX7_areFlightsAlike cX7_areFlightsAlike 4 .boolean ({ frames := 5, cells := 0, slots := 0, locals := 115 } : Room) D T sz [(a_g, .inr (1, [.ref a_gw, .ref a_gk])), (a_f, .inr (0, [.ref a_g, .int f_net])), (a_x, .inr (7, [.ref a_g, .ref a_b, .ref a_v, .ref a_h, .ref a_r, .ref a_f, .ref a_u, .ref a_t, .ref a_n, .int x_sav, .int x_err, .int x_rea, .int x_det, .int x_com])), (a_gw, .inl (T 0, 90, .inl v_gw)), (a_gk, .inl (T 0, 18, .inl v_gk))] [(a_g, .inr (1, [.ref a_gw, .ref a_gk])), (a_f, .inr (0, [.ref a_g, .int r.2])), (a_x, .inr (7, [.ref a_g, .ref a_b, .ref a_v, .ref a_h, .ref a_r, .ref a_f, .ref a_u, .ref a_t, .ref a_n, .int x_sav, .int x_err, .int x_rea, .int x_det, .int x_com])), (a_gw, .inl (T 0, 90, .inl v_gw)), (a_gk, .inl (T 0, 18, .inl v_gk))] [.ref a_x] r.1 := by
  unfold fX7_areFlightsAlike at h
  refine wrMet (by decide +kernel) rfl (fun p e s m args below meth c Q A C hE hA hP hD hS hret ls hl => ?_)
  have hx := C.1
  have hb := C.2.1
  have hl : lv_has ls 4 [(0, .ref a_x)] := hl
  refine lv_iconst (v := 0) hx hb dX7_areFlightsAlike_0 (by decide) ?_
  refine lv_istore_n (lv' := [(1, .int 0), (0, .ref a_x)]) hx hb dX7_areFlightsAlike_1 rfl hl (by decide) rfl (fun ls hl => ?_)
  exact lX7_areFlightsAlike_2 C hE hA hret 64 0 f_net ⟨hP, hD⟩ hS _ (lv_sub hl [1, 0] rfl) h

def fX7_isPlaced_47 (v_gw : Nat → Int32) (v_gk : Nat → Int32) (rec2 : Int32 → Option Int32) (l1 : Int32) : Option Int32 :=
  rec2 (l1 + 1)
def fX7_isPlaced_2 (v_gw : Nat → Int32) (v_gk : Nat → Int32) : Nat → Int32 → Option Int32
  | 0, _ => none
  | k + 1, l1 =>
    (fX1_count v_gk 0).bind fun q1 =>
    if q1 ≤ l1 then
      (fX1_countPlaying v_gw v_gk 0).bind fun q4 =>
      if 3 < q4 then
        some 0
      else
        (fX1_countPlaying v_gw v_gk 1).bind fun q7 =>
        if 3 < q7 then
          some 0
        else
          some 1
    else
      (fX1_isPlaying v_gw l1).bind fun q10 =>
      if q10 = 0 then
        fX7_isPlaced_47 v_gw v_gk (fX7_isPlaced_2 v_gw v_gk k) l1
      else
        (fX1_of v_gw l1 4).bind fun q13 =>
        (fX1_whaleOn v_gw v_gk q13).bind fun q15 =>
        if q15 = l1 then
          fX7_isPlaced_47 v_gw v_gk (fX7_isPlaced_2 v_gw v_gk k) l1
        else
          some 0
def fX7_isPlaced (v_gw : Nat → Int32) (v_gk : Nat → Int32) : Option Int32 :=
  fX7_isPlaced_2 v_gw v_gk 64 0
set_option maxHeartbeats 4000000 in
set_option maxRecDepth 100000 in
theorem lX7_isPlaced_47 {p : Program} {l : Launch} {e : Env} {s : State} {m : MethodId} {args : Array Value} {below : List Frame} {meth : Method} {c : Code} {Q : State → Prop} {D : va_G} {T : Nat → ClassId} {a_g a_gw a_gk a_x a_b a_v a_h a_r a_f a_u a_t a_n : Nat} {x_sav : Int32} {x_err : Int32} {x_rea : Int32} {x_det : Int32} {x_com : Int32} {v_gw : Nat → Int32} {v_gk : Nat → Int32} {r : Int32} (C : CallFix p m c cX7_isPlaced 2 s args aw RX7) (hE : eK D T s) (hP : va_P D kC [(a_g, .inr (1, [.ref a_gw, .ref a_gk])), (a_x, .inr (7, [.ref a_g, .ref a_b, .ref a_v, .ref a_h, .ref a_r, .ref a_f, .ref a_u, .ref a_t, .ref a_n, .int x_sav, .int x_err, .int x_rea, .int x_det, .int x_com])), (a_gw, .inl (T 0, 90, .inl v_gw)), (a_gk, .inl (T 0, 18, .inl v_gk))] s.heap) (hret : RdRet p l e ({ frames := 3, cells := 0, slots := 0, locals := 67 } : Room) s m args below meth c Q cX7_isPlaced .boolean r) {rec2 : Int32 → Option Int32} (hrec2 : ∀ (l1 : Int32) (ls : Array Slot) (hl : lv_has ls 2 [(0, .ref a_x), (1, .int l1)]) (h : rec2 l1 = some r), W p l e ({ frames := 3, cells := 0, slots := 0, locals := 67 } : Room) s m args below meth c s.heap [] 0 0 Q (F0 m 2 ls [])) (l1 : Int32) (ls : Array Slot) (hl : lv_has ls 2 [(0, .ref a_x), (1, .int l1)]) (h : fX7_isPlaced_47 v_gw v_gk rec2 l1 = some r) : W p l e ({ frames := 3, cells := 0, slots := 0, locals := 67 } : Room) s m args below meth c s.heap [] 0 0 Q (F0 m 47 ls []) := by
  have hx := C.1
  have hb := C.2.1
  unfold fX7_isPlaced_47 at h
  refine lv_iinc (v := (l1 + 1)) (lv' := [(1, .int (l1 + 1)), (0, .ref a_x)]) hx hb dX7_isPlaced_47 hl (k := 1) rfl rfl (by decide) rfl (fun ls hl => ?_)
  refine lv_goto (tgt := 2) hx hb dX7_isPlaced_50 (by decide) ?_
  exact hrec2 (l1 + 1) _ (lv_sub hl [1, 0] rfl) h
set_option maxHeartbeats 4000000 in
set_option maxRecDepth 100000 in
theorem lX7_isPlaced_2 {p : Program} {l : Launch} {e : Env} {s : State} {m : MethodId} {args : Array Value} {below : List Frame} {meth : Method} {c : Code} {Q : State → Prop} {D : va_G} {T : Nat → ClassId} {a_g a_gw a_gk a_x a_b a_v a_h a_r a_f a_u a_t a_n : Nat} {x_sav : Int32} {x_err : Int32} {x_rea : Int32} {x_det : Int32} {x_com : Int32} {v_gw : Nat → Int32} {v_gk : Nat → Int32} {r : Int32} (C : CallFix p m c cX7_isPlaced 2 s args aw RX7) (hE : eK D T s) (hP : va_P D kC [(a_g, .inr (1, [.ref a_gw, .ref a_gk])), (a_x, .inr (7, [.ref a_g, .ref a_b, .ref a_v, .ref a_h, .ref a_r, .ref a_f, .ref a_u, .ref a_t, .ref a_n, .int x_sav, .int x_err, .int x_rea, .int x_det, .int x_com])), (a_gw, .inl (T 0, 90, .inl v_gw)), (a_gk, .inl (T 0, 18, .inl v_gk))] s.heap) (hret : RdRet p l e ({ frames := 3, cells := 0, slots := 0, locals := 67 } : Room) s m args below meth c Q cX7_isPlaced .boolean r) : ∀ (k : Nat) (l1 : Int32) (ls : Array Slot) (hl : lv_has ls 2 [(0, .ref a_x), (1, .int l1)]) (h : fX7_isPlaced_2 v_gw v_gk k l1 = some r), W p l e ({ frames := 3, cells := 0, slots := 0, locals := 67 } : Room) s m args below meth c s.heap [] 0 0 Q (F0 m 2 ls []) := by
  have hx := C.1
  have hb := C.2.1
  intro k
  induction k with
  | zero =>
    intro l1  ls hl h
    exact nomatch (show (none : Option Int32) = some r from h)
  | succ k ih =>
    intro l1  ls hl h
    rw [fX7_isPlaced_2] at h
    refine lv_iload_n hx hb dX7_isPlaced_2 rfl (lv_at hl 1 rfl) ?_
    refine lv_aload_n hx hb dX7_isPlaced_3 rfl (lv_at hl 0 rfl) ?_
    refine getF (q0 := 1) (k0 := 0) (v := .ref a_g) C hE hP inA7 rfl rfl (by decide) qFX7_10 rfl rfl dX7_isPlaced_4 ?_
    refine lv_iconst (v := 0) hx hb dX7_isPlaced_7 (by decide) ?_
    replace h := bnd h; obtain ⟨q1, e2, h⟩ := h
    refine rdV C hE hP (kX1_count l D T a_g a_gw a_gk v_gk 0 q1 e2) mX1_count qLX7_235 [0, 3] 0 rfl rfl rfl rfl ⟨rfl, rfl⟩ ⟨Nat.le_of_ble_eq_true rfl, Nat.le_of_ble_eq_true rfl⟩ rfl hl.1 rfl (Nat.le_of_ble_eq_true rfl) dX7_isPlaced_8 ⟨Nat.le_of_ble_eq_true rfl, Nat.le_of_ble_eq_true rfl⟩ ?_
    refine lv_icmp_ge (tgt := 53) hx hb dX7_isPlaced_11 (by decide) (fun c3 => ?_) (fun c3 => ?_)
    · replace h := ite_t c3 h
      refine lv_aload_n hx hb dX7_isPlaced_53 rfl (lv_at hl 0 rfl) ?_
      refine getF (q0 := 1) (k0 := 0) (v := .ref a_g) C hE hP inA7 rfl rfl (by decide) qFX7_10 rfl rfl dX7_isPlaced_54 ?_
      refine lv_iconst (v := 0) hx hb dX7_isPlaced_57 (by decide) ?_
      replace h := bnd h; obtain ⟨q4, e5, h⟩ := h
      refine rdV C hE hP (kX1_countPlaying l D T a_g a_gw a_gk v_gw v_gk 0 q4 e5) mX1_countPlaying qLX7_305 [0, 2, 3] 0 rfl rfl rfl rfl ⟨rfl, rfl⟩ ⟨Nat.le_of_ble_eq_true rfl, Nat.le_of_ble_eq_true rfl⟩ rfl hl.1 rfl (Nat.le_of_ble_eq_true rfl) dX7_isPlaced_58 ⟨Nat.le_of_ble_eq_true rfl, Nat.le_of_ble_eq_true rfl⟩ ?_
      refine lv_iconst (v := 3) hx hb dX7_isPlaced_61 (by decide) ?_
      refine lv_icmp_gt (tgt := 81) hx hb dX7_isPlaced_62 (by decide) (fun c6 => ?_) (fun c6 => ?_)
      · replace h := ite_t c6 h
        refine lv_iconst (v := 0) hx hb dX7_isPlaced_81 (by decide) ?_
        exact hret _ _ _ _ dX7_isPlaced_82 rfl (Option.some.inj h)
      · replace h := ite_f c6 h
        refine lv_aload_n hx hb dX7_isPlaced_65 rfl (lv_at hl 0 rfl) ?_
        refine getF (q0 := 1) (k0 := 0) (v := .ref a_g) C hE hP inA7 rfl rfl (by decide) qFX7_10 rfl rfl dX7_isPlaced_66 ?_
        refine lv_iconst (v := 1) hx hb dX7_isPlaced_69 (by decide) ?_
        replace h := bnd h; obtain ⟨q7, e8, h⟩ := h
        refine rdV C hE hP (kX1_countPlaying l D T a_g a_gw a_gk v_gw v_gk 1 q7 e8) mX1_countPlaying qLX7_305 [0, 2, 3] 0 rfl rfl rfl rfl ⟨rfl, rfl⟩ ⟨Nat.le_of_ble_eq_true rfl, Nat.le_of_ble_eq_true rfl⟩ rfl hl.1 rfl (Nat.le_of_ble_eq_true rfl) dX7_isPlaced_70 ⟨Nat.le_of_ble_eq_true rfl, Nat.le_of_ble_eq_true rfl⟩ ?_
        refine lv_iconst (v := 3) hx hb dX7_isPlaced_73 (by decide) ?_
        refine lv_icmp_gt (tgt := 81) hx hb dX7_isPlaced_74 (by decide) (fun c9 => ?_) (fun c9 => ?_)
        · replace h := ite_t c9 h
          refine lv_iconst (v := 0) hx hb dX7_isPlaced_81 (by decide) ?_
          exact hret _ _ _ _ dX7_isPlaced_82 rfl (Option.some.inj h)
        · replace h := ite_f c9 h
          refine lv_iconst (v := 1) hx hb dX7_isPlaced_77 (by decide) ?_
          refine lv_goto (tgt := 82) hx hb dX7_isPlaced_78 (by decide) ?_
          exact hret _ _ _ _ dX7_isPlaced_82 rfl (Option.some.inj h)
    · replace h := ite_f c3 h
      refine lv_aload_n hx hb dX7_isPlaced_14 rfl (lv_at hl 0 rfl) ?_
      refine getF (q0 := 1) (k0 := 0) (v := .ref a_g) C hE hP inA7 rfl rfl (by decide) qFX7_10 rfl rfl dX7_isPlaced_15 ?_
      refine lv_iload_n hx hb dX7_isPlaced_18 rfl (lv_at hl 1 rfl) ?_
      replace h := bnd h; obtain ⟨q10, e11, h⟩ := h
      refine rdV C hE hP (kX1_isPlaying l D T a_g a_gw a_gk v_gw l1 q10 e11) mX1_isPlaying qLX7_200 [0, 2] 0 rfl rfl rfl rfl ⟨rfl, rfl⟩ ⟨Nat.le_of_ble_eq_true rfl, Nat.le_of_ble_eq_true rfl⟩ rfl hl.1 rfl (Nat.le_of_ble_eq_true rfl) dX7_isPlaced_19 ⟨Nat.le_of_ble_eq_true rfl, Nat.le_of_ble_eq_true rfl⟩ ?_
      refine lv_if_eq (tgt := 47) hx hb dX7_isPlaced_22 (by decide) (fun c12 => ?_) (fun c12 => ?_)
      · replace h := ite_t c12 h
        exact lX7_isPlaced_47 C hE hP hret ih l1 _ (lv_sub hl [0, 1] rfl) h
      · replace h := ite_f c12 h
        refine lv_aload_n hx hb dX7_isPlaced_25 rfl (lv_at hl 0 rfl) ?_
        refine getF (q0 := 1) (k0 := 0) (v := .ref a_g) C hE hP inA7 rfl rfl (by decide) qFX7_10 rfl rfl dX7_isPlaced_26 ?_
        refine lv_aload_n hx hb dX7_isPlaced_29 rfl (lv_at hl 0 rfl) ?_
        refine getF (q0 := 1) (k0 := 0) (v := .ref a_g) C hE hP inA7 rfl rfl (by decide) qFX7_10 rfl rfl dX7_isPlaced_30 ?_
        refine lv_iload_n hx hb dX7_isPlaced_33 rfl (lv_at hl 1 rfl) ?_
        refine lv_iconst (v := 4) hx hb dX7_isPlaced_34 (by decide) ?_
        replace h := bnd h; obtain ⟨q13, e14, h⟩ := h
        refine rdV C hE hP (kX1_of l D T a_g a_gw a_gk v_gw l1 4 q13 e14) mX1_of qLX7_148 [0, 2] 0 rfl rfl rfl rfl ⟨rfl, rfl⟩ ⟨Nat.le_of_ble_eq_true rfl, Nat.le_of_ble_eq_true rfl⟩ rfl hl.1 rfl (Nat.le_of_ble_eq_true rfl) dX7_isPlaced_35 ⟨Nat.le_of_ble_eq_true rfl, Nat.le_of_ble_eq_true rfl⟩ ?_
        replace h := bnd h; obtain ⟨q15, e16, h⟩ := h
        refine rdV C hE hP (kX1_whaleOn l D T a_g a_gw a_gk v_gw v_gk q13 q15 e16) mX1_whaleOn qLX7_154 [0, 2, 3] 0 rfl rfl rfl rfl ⟨rfl, rfl⟩ ⟨Nat.le_of_ble_eq_true rfl, Nat.le_of_ble_eq_true rfl⟩ rfl hl.1 rfl (Nat.le_of_ble_eq_true rfl) dX7_isPlaced_38 ⟨Nat.le_of_ble_eq_true rfl, Nat.le_of_ble_eq_true rfl⟩ ?_
        refine lv_iload_n hx hb dX7_isPlaced_41 rfl (lv_at hl 1 rfl) ?_
        refine lv_icmp_eq (tgt := 47) hx hb dX7_isPlaced_42 (by decide) (fun c17 => ?_) (fun c17 => ?_)
        · replace h := ite_t c17 h
          exact lX7_isPlaced_47 C hE hP hret ih l1 _ (lv_sub hl [0, 1] rfl) h
        · replace h := ite_f c17 h
          refine lv_iconst (v := 0) hx hb dX7_isPlaced_45 (by decide) ?_
          exact hret _ _ _ _ dX7_isPlaced_46 rfl (Option.some.inj h)
set_option maxHeartbeats 4000000 in
set_option maxRecDepth 100000 in
theorem kX7_isPlaced (l : Launch) (D : va_G) (T : Nat → ClassId) (a_g a_gw a_gk a_x a_b a_v a_h a_r a_f a_u a_t a_n : Nat) (x_sav : Int32) (x_err : Int32) (x_rea : Int32) (x_det : Int32) (x_com : Int32) (v_gw : Nat → Int32) (v_gk : Nat → Int32) (r : Int32) (h : fX7_isPlaced v_gw v_gk = some r) : RdI l yX7_isPlaced cX7_isPlaced 2 .boolean ({ frames := 3, cells := 0, slots := 0, locals := 67 } : Room) D T [(a_g, .inr (1, [.ref a_gw, .ref a_gk])), (a_x, .inr (7, [.ref a_g, .ref a_b, .ref a_v, .ref a_h, .ref a_r, .ref a_f, .ref a_u, .ref a_t, .ref a_n, .int x_sav, .int x_err, .int x_rea, .int x_det, .int x_com])), (a_gw, .inl (T 0, 90, .inl v_gw)), (a_gk, .inl (T 0, 18, .inl v_gk))] [.ref a_x] r := by
  unfold fX7_isPlaced at h
  refine rdMet (by decide +kernel) rfl (fun p e s m args below meth c Q C hE hP hret ls hl => ?_)
  have hx := C.1
  have hb := C.2.1
  have hl : lv_has ls 2 [(0, .ref a_x)] := hl
  refine lv_iconst (v := 0) hx hb dX7_isPlaced_0 (by decide) ?_
  refine lv_istore_n (lv' := [(1, .int 0), (0, .ref a_x)]) hx hb dX7_isPlaced_1 rfl hl (by decide) rfl (fun ls hl => ?_)
  exact lX7_isPlaced_2 C hE hP hret 64 0 _ (lv_sub hl [1, 0] rfl) h

def fX7_isFair (f_net : Int32) (v_gw : Nat → Int32) (v_gk : Nat → Int32) (v_rs : Nat → Int32) (v_rl : Nat → Int32) (v_ro : Nat → Int32) : Option (Int32 × Int32 × (Nat → Int32) × (Nat → Int32) × (Nat → Int32)) :=
  (fX7_areTidesAlike v_gk).bind fun q1 =>
  if q1 = 0 then
    some (0, f_net, v_rs, v_rl, v_ro)
  else
    (fX7_areStepsAlike v_gw v_gk v_rs v_rl v_ro).bind fun q4 =>
    if q4.1 = 0 then
      some (0, f_net, q4.2.1, q4.2.2.1, q4.2.2.2)
    else
      (fX7_areFlightsAlike f_net v_gw v_gk).bind fun q7 =>
      if q7.1 = 0 then
        some (0, q7.2, q4.2.1, q4.2.2.1, q4.2.2.2)
      else
        (fX7_isPlaced v_gw v_gk).bind fun q10 =>
        if q10 = 0 then
          some (0, q7.2, q4.2.1, q4.2.2.1, q4.2.2.2)
        else
          some (1, q7.2, q4.2.1, q4.2.2.1, q4.2.2.2)
set_option maxHeartbeats 4000000 in
set_option maxRecDepth 100000 in
theorem kX7_isFair (l : Launch) (D : va_G) (T : Nat → ClassId) (a_g a_gw a_gk a_r a_rs a_rl a_ro a_f a_x a_b a_v a_h a_u a_t a_n : Nat) (f_net : Int32) (x_sav : Int32) (x_err : Int32) (x_rea : Int32) (x_det : Int32) (x_com : Int32) (v_gw : Nat → Int32) (v_gk : Nat → Int32) (v_rs : Nat → Int32) (v_rl : Nat → Int32) (v_ro : Nat → Int32) (sz : Nat) (r : Int32 × Int32 × (Nat → Int32) × (Nat → Int32) × (Nat → Int32)) (h : fX7_isFair f_net v_gw v_gk v_rs v_rl v_ro = some r) : WrI l yX7_isFair cX7_isFair 1 .boolean ({ frames := 6, cells := 0, slots := 0, locals := 138 } : Room) D T sz [(a_g, .inr (1, [.ref a_gw, .ref a_gk])), (a_r, .inr (4, [.ref a_g, .ref a_rs, .ref a_rl, .ref a_ro])), (a_f, .inr (0, [.ref a_g, .int f_net])), (a_x, .inr (7, [.ref a_g, .ref a_b, .ref a_v, .ref a_h, .ref a_r, .ref a_f, .ref a_u, .ref a_t, .ref a_n, .int x_sav, .int x_err, .int x_rea, .int x_det, .int x_com])), (a_gw, .inl (T 0, 90, .inl v_gw)), (a_gk, .inl (T 0, 18, .inl v_gk)), (a_rs, .inl (T 0, 45, .inl v_rs)), (a_rl, .inl (T 0, 45, .inl v_rl)), (a_ro, .inl (T 1, 45, .inl v_ro))] [(a_g, .inr (1, [.ref a_gw, .ref a_gk])), (a_r, .inr (4, [.ref a_g, .ref a_rs, .ref a_rl, .ref a_ro])), (a_f, .inr (0, [.ref a_g, .int r.2.1])), (a_x, .inr (7, [.ref a_g, .ref a_b, .ref a_v, .ref a_h, .ref a_r, .ref a_f, .ref a_u, .ref a_t, .ref a_n, .int x_sav, .int x_err, .int x_rea, .int x_det, .int x_com])), (a_gw, .inl (T 0, 90, .inl v_gw)), (a_gk, .inl (T 0, 18, .inl v_gk)), (a_rs, .inl (T 0, 45, .inl r.2.2.1)), (a_rl, .inl (T 0, 45, .inl r.2.2.2.1)), (a_ro, .inl (T 1, 45, .inl r.2.2.2.2))] [.ref a_x] r.1 := by
  unfold fX7_isFair at h
  refine wrMet (by decide +kernel) rfl (fun p e s m args below meth c Q A C hE hA hP hD hS hret ls hl => ?_)
  have hx := C.1
  have hb := C.2.1
  have hl : lv_has ls 1 [(0, .ref a_x)] := hl
  refine lv_aload_n hx hb dX7_isFair_0 rfl (lv_at hl 0 rfl) ?_
  replace h := bnd h; obtain ⟨q1, e2, h⟩ := h
  refine rdV C hE hP (kX7_areTidesAlike l D T a_g a_gw a_gk a_x a_b a_v a_h a_r a_f a_u a_t a_n x_sav x_err x_rea x_det x_com v_gk q1 e2) mX7_areTidesAlike qLX7_253 [0, 3, 5] 3 rfl rfl rfl rfl ⟨rfl, rfl⟩ ⟨Nat.le_of_ble_eq_true rfl, Nat.le_of_ble_eq_true rfl⟩ rfl hl.1 rfl (Nat.le_of_ble_eq_true rfl) dX7_isFair_1 ⟨Nat.le_of_ble_eq_true rfl, Nat.le_of_ble_eq_true rfl⟩ ?_
  refine lv_if_eq (tgt := 32) hx hb dX7_isFair_4 (by decide) (fun c3 => ?_) (fun c3 => ?_)
  · replace h := ite_t c3 h
    refine lv_iconst (v := 0) hx hb dX7_isFair_32 (by decide) ?_
    replace h := Option.some.inj h
    exact hret _ _ _ _ _ _ dX7_isFair_33 rfl (by rw [← h] <;> rfl) (by rw [← h]; exact hP) hS
  · replace h := ite_f c3 h
    refine lv_aload_n hx hb dX7_isFair_7 rfl (lv_at hl 0 rfl) ?_
    replace h := bnd h; obtain ⟨q4, e5, h⟩ := h
    refine wrVi (ws1 := [(a_g, .inr (1, [.ref a_gw, .ref a_gk])), (a_r, .inr (4, [.ref a_g, .ref a_rs, .ref a_rl, .ref a_ro])), (a_f, .inr (0, [.ref a_g, .int f_net])), (a_x, .inr (7, [.ref a_g, .ref a_b, .ref a_v, .ref a_h, .ref a_r, .ref a_f, .ref a_u, .ref a_t, .ref a_n, .int x_sav, .int x_err, .int x_rea, .int x_det, .int x_com])), (a_gw, .inl (T 0, 90, .inl v_gw)), (a_gk, .inl (T 0, 18, .inl v_gk)), (a_rs, .inl (T 0, 45, .inl q4.2.1)), (a_rl, .inl (T 0, 45, .inl q4.2.2.1)), (a_ro, .inl (T 1, 45, .inl q4.2.2.2))]) C hE hP hD hS hA (kX7_areStepsAlike l D T a_g a_gw a_gk a_r a_rs a_rl a_ro a_x a_b a_v a_h a_f a_u a_t a_n x_sav x_err x_rea x_det x_com v_gw v_gk v_rs v_rl v_ro _ q4 e5) mX7_areStepsAlike qLX7_256 [0, 1, 3, 4, 5, 6, 7, 8] [2] 3 rfl rfl rfl rfl rfl rfl rfl rfl rfl ⟨rfl, rfl⟩ ⟨Nat.le_of_ble_eq_true rfl, Nat.le_of_ble_eq_true rfl⟩ rfl hl.1 rfl (Nat.le_of_ble_eq_true rfl) dX7_isFair_8 ⟨Nat.le_of_ble_eq_true rfl, Nat.le_of_ble_eq_true rfl⟩ ?_; clear hP hD hS; intro H locs hP hD hS
    refine lv_if_eq (tgt := 32) hx hb dX7_isFair_11 (by decide) (fun c6 => ?_) (fun c6 => ?_)
    · replace h := ite_t c6 h
      refine lv_iconst (v := 0) hx hb dX7_isFair_32 (by decide) ?_
      replace h := Option.some.inj h
      exact hret _ _ _ _ _ _ dX7_isFair_33 rfl (by rw [← h] <;> rfl) (by rw [← h]; exact hP) hS
    · replace h := ite_f c6 h
      refine lv_aload_n hx hb dX7_isFair_14 rfl (lv_at hl 0 rfl) ?_
      replace h := bnd h; obtain ⟨q7, e8, h⟩ := h
      refine wrVi (ws1 := [(a_g, .inr (1, [.ref a_gw, .ref a_gk])), (a_r, .inr (4, [.ref a_g, .ref a_rs, .ref a_rl, .ref a_ro])), (a_f, .inr (0, [.ref a_g, .int q7.2])), (a_x, .inr (7, [.ref a_g, .ref a_b, .ref a_v, .ref a_h, .ref a_r, .ref a_f, .ref a_u, .ref a_t, .ref a_n, .int x_sav, .int x_err, .int x_rea, .int x_det, .int x_com])), (a_gw, .inl (T 0, 90, .inl v_gw)), (a_gk, .inl (T 0, 18, .inl v_gk)), (a_rs, .inl (T 0, 45, .inl q4.2.1)), (a_rl, .inl (T 0, 45, .inl q4.2.2.1)), (a_ro, .inl (T 1, 45, .inl q4.2.2.2))]) C hE hP hD hS hA (kX7_areFlightsAlike l D T a_g a_gw a_gk a_f a_x a_b a_v a_h a_r a_u a_t a_n f_net x_sav x_err x_rea x_det x_com v_gw v_gk _ q7 e8) mX7_areFlightsAlike qLX7_259 [0, 2, 3, 4, 5] [1, 6, 7, 8] 3 rfl rfl rfl rfl rfl rfl rfl rfl rfl ⟨rfl, rfl⟩ ⟨Nat.le_of_ble_eq_true rfl, Nat.le_of_ble_eq_true rfl⟩ rfl hl.1 rfl (Nat.le_of_ble_eq_true rfl) dX7_isFair_15 ⟨Nat.le_of_ble_eq_true rfl, Nat.le_of_ble_eq_true rfl⟩ ?_; clear hP hD hS; intro H locs hP hD hS
      refine lv_if_eq (tgt := 32) hx hb dX7_isFair_18 (by decide) (fun c9 => ?_) (fun c9 => ?_)
      · replace h := ite_t c9 h
        refine lv_iconst (v := 0) hx hb dX7_isFair_32 (by decide) ?_
        replace h := Option.some.inj h
        exact hret _ _ _ _ _ _ dX7_isFair_33 rfl (by rw [← h] <;> rfl) (by rw [← h]; exact hP) hS
      · replace h := ite_f c9 h
        refine lv_aload_n hx hb dX7_isFair_21 rfl (lv_at hl 0 rfl) ?_
        replace h := bnd h; obtain ⟨q10, e11, h⟩ := h
        refine rdV C hE hP (kX7_isPlaced l D T a_g a_gw a_gk a_x a_b a_v a_h a_r a_f a_u a_t a_n x_sav x_err x_rea x_det x_com v_gw v_gk q10 e11) mX7_isPlaced qLX7_262 [0, 3, 4, 5] 3 rfl rfl rfl rfl ⟨rfl, rfl⟩ ⟨Nat.le_of_ble_eq_true rfl, Nat.le_of_ble_eq_true rfl⟩ rfl hl.1 rfl (Nat.le_of_ble_eq_true rfl) dX7_isFair_22 ⟨Nat.le_of_ble_eq_true rfl, Nat.le_of_ble_eq_true rfl⟩ ?_
        refine lv_if_eq (tgt := 32) hx hb dX7_isFair_25 (by decide) (fun c12 => ?_) (fun c12 => ?_)
        · replace h := ite_t c12 h
          refine lv_iconst (v := 0) hx hb dX7_isFair_32 (by decide) ?_
          replace h := Option.some.inj h
          exact hret _ _ _ _ _ _ dX7_isFair_33 rfl (by rw [← h] <;> rfl) (by rw [← h]; exact hP) hS
        · replace h := ite_f c12 h
          refine lv_iconst (v := 1) hx hb dX7_isFair_28 (by decide) ?_
          refine lv_goto (tgt := 33) hx hb dX7_isFair_29 (by decide) ?_
          replace h := Option.some.inj h
          exact hret _ _ _ _ _ _ dX7_isFair_33 rfl (by rw [← h] <;> rfl) (by rw [← h]; exact hP) hS

def fX7_writeCell_71 (v_gw : Nat → Int32) (v_gk : Nat → Int32) (x1 : Int32) (n_len : Int32) (v_ns : Nat → Int32) : Option (Int32 × (Nat → Int32)) :=
  (fX3_add n_len v_ns x1).bind fun q14 =>
  some (q14.1, q14.2)
def fX7_writeCell (n_len : Int32) (v_gw : Nat → Int32) (v_gk : Nat → Int32) (v_ns : Nat → Int32) (p0 : Int32) : Option (Int32 × (Nat → Int32)) :=
  (fX1_whaleOn v_gw v_gk p0).bind fun q1 =>
  if q1 = (-1) then
    (fX1_count v_gk 5).bind fun q4 =>
    if p0 = q4 then
      (fX3_add n_len v_ns 111).bind fun q10 =>
      some (q10.1, q10.2)
    else
      (fX1_isDryNow v_gk p0).bind fun q7 =>
      fX7_writeCell_71 v_gw v_gk (if q7 = 0 then 46 else 95) n_len v_ns
  else
    (fX3_addNumber n_len v_ns q1).bind fun q12 =>
    some (q12.1, q12.2)
set_option maxHeartbeats 4000000 in
set_option maxRecDepth 100000 in
theorem lX7_writeCell_71 {p : Program} {l : Launch} {e : Env} {s : State} {m : MethodId} {args : Array Value} {below : List Frame} {meth : Method} {c : Code} {Q : State → Prop} {D : va_G} {T : Nat → ClassId} {a_g a_gw a_gk a_n a_ns a_x a_b a_v a_h a_r a_f a_u a_t : Nat} {x_sav : Int32} {x_err : Int32} {x_rea : Int32} {x_det : Int32} {x_com : Int32} {v_gw : Nat → Int32} {v_gk : Nat → Int32} {A : Nat → Prop} {r : Int32 × (Nat → Int32)} (C : CallFix p m c cX7_writeCell 3 s args aw RX7) (hE : eK D T s) (hA : ∀ q : Nat, s.heap.size ≤ q → A q) (hret : WrRetV p l e ({ frames := 2, cells := 0, slots := 0, locals := 45 } : Room) s m args below meth c Q cX7_writeCell D A [(a_g, .inr (1, [.ref a_gw, .ref a_gk])), (a_n, .inr (3, [.ref a_ns, .int r.1])), (a_x, .inr (7, [.ref a_g, .ref a_b, .ref a_v, .ref a_h, .ref a_r, .ref a_f, .ref a_u, .ref a_t, .ref a_n, .int x_sav, .int x_err, .int x_rea, .int x_det, .int x_com])), (a_gw, .inl (T 0, 90, .inl v_gw)), (a_gk, .inl (T 0, 18, .inl v_gk)), (a_ns, .inl (T 2, 32, .inl r.2))]) (x1 : Int32) (n_len : Int32) (v_ns : Nat → Int32) {H : Heap} {locs : List Loc} (hPD : va_PD D A [(a_g, .inr (1, [.ref a_gw, .ref a_gk])), (a_n, .inr (3, [.ref a_ns, .int n_len])), (a_x, .inr (7, [.ref a_g, .ref a_b, .ref a_v, .ref a_h, .ref a_r, .ref a_f, .ref a_u, .ref a_t, .ref a_n, .int x_sav, .int x_err, .int x_rea, .int x_det, .int x_com])), (a_gw, .inl (T 0, 90, .inl v_gw)), (a_gk, .inl (T 0, 18, .inl v_gk)), (a_ns, .inl (T 2, 32, .inl v_ns))] H) (hS : va_S A s.heap H locs) (ls : Array Slot) (hl : lv_has ls 3 []) (h : fX7_writeCell_71 v_gw v_gk x1 n_len v_ns = some r) : W p l e ({ frames := 2, cells := 0, slots := 0, locals := 45 } : Room) s m args below meth c H locs 0 0 Q (F0 m 71 ls [.int x1, .ref a_n]) := by
  have hx := C.1
  have hb := C.2.1
  obtain ⟨hP, hD⟩ := hPD
  unfold fX7_writeCell_71 at h
  replace h := bnd h; obtain ⟨q14, e15, h⟩ := h
  refine wrVv (ws1 := [(a_g, .inr (1, [.ref a_gw, .ref a_gk])), (a_n, .inr (3, [.ref a_ns, .int q14.1])), (a_x, .inr (7, [.ref a_g, .ref a_b, .ref a_v, .ref a_h, .ref a_r, .ref a_f, .ref a_u, .ref a_t, .ref a_n, .int x_sav, .int x_err, .int x_rea, .int x_det, .int x_com])), (a_gw, .inl (T 0, 90, .inl v_gw)), (a_gk, .inl (T 0, 18, .inl v_gk)), (a_ns, .inl (T 2, 32, .inl q14.2))]) C hE hP hD hS hA (kX3_add l D T a_n a_ns n_len v_ns x1 _ q14 e15) mX3_add qLX7_286 [1, 5] [0, 2, 3, 4] 1 rfl rfl rfl rfl rfl rfl rfl rfl rfl ⟨rfl, rfl⟩ ⟨Nat.le_of_ble_eq_true rfl, Nat.le_of_ble_eq_true rfl⟩ rfl hl.1 rfl (Nat.le_of_ble_eq_true rfl) dX7_writeCell_71 ⟨Nat.le_of_ble_eq_true rfl, Nat.le_of_ble_eq_true rfl⟩ ?_; clear hP hD hS; intro H locs hP hD hS
  replace h := Option.some.inj h
  exact hret _ _ _ _ dX7_writeCell_74 (by rw [← h]; exact hP) hS
set_option maxHeartbeats 4000000 in
set_option maxRecDepth 100000 in
theorem kX7_writeCell (l : Launch) (D : va_G) (T : Nat → ClassId) (a_g a_gw a_gk a_n a_ns a_x a_b a_v a_h a_r a_f a_u a_t : Nat) (n_len : Int32) (x_sav : Int32) (x_err : Int32) (x_rea : Int32) (x_det : Int32) (x_com : Int32) (v_gw : Nat → Int32) (v_gk : Nat → Int32) (v_ns : Nat → Int32) (p0 : Int32) (sz : Nat) (r : Int32 × (Nat → Int32)) (h : fX7_writeCell n_len v_gw v_gk v_ns p0 = some r) : WrV l yX7_writeCell cX7_writeCell 3 ({ frames := 2, cells := 0, slots := 0, locals := 45 } : Room) D T sz [(a_g, .inr (1, [.ref a_gw, .ref a_gk])), (a_n, .inr (3, [.ref a_ns, .int n_len])), (a_x, .inr (7, [.ref a_g, .ref a_b, .ref a_v, .ref a_h, .ref a_r, .ref a_f, .ref a_u, .ref a_t, .ref a_n, .int x_sav, .int x_err, .int x_rea, .int x_det, .int x_com])), (a_gw, .inl (T 0, 90, .inl v_gw)), (a_gk, .inl (T 0, 18, .inl v_gk)), (a_ns, .inl (T 2, 32, .inl v_ns))] [(a_g, .inr (1, [.ref a_gw, .ref a_gk])), (a_n, .inr (3, [.ref a_ns, .int r.1])), (a_x, .inr (7, [.ref a_g, .ref a_b, .ref a_v, .ref a_h, .ref a_r, .ref a_f, .ref a_u, .ref a_t, .ref a_n, .int x_sav, .int x_err, .int x_rea, .int x_det, .int x_com])), (a_gw, .inl (T 0, 90, .inl v_gw)), (a_gk, .inl (T 0, 18, .inl v_gk)), (a_ns, .inl (T 2, 32, .inl r.2))] [.ref a_x, .int p0] := by
  unfold fX7_writeCell at h
  refine wrMetV (by decide +kernel) rfl (fun p e s m args below meth c Q A C hE hA hP hD hS hret ls hl => ?_)
  have hx := C.1
  have hb := C.2.1
  have hl : lv_has ls 3 [(0, .ref a_x), (1, .int p0)] := hl
  refine lv_aload_n hx hb dX7_writeCell_0 rfl (lv_at hl 0 rfl) ?_
  refine getF (q0 := 2) (k0 := 0) (v := .ref a_g) C hE hP inA7 rfl rfl (by decide) qFX7_10 rfl rfl dX7_writeCell_1 ?_
  refine lv_iload_n hx hb dX7_writeCell_4 rfl (lv_at hl 1 rfl) ?_
  replace h := bnd h; obtain ⟨q1, e2, h⟩ := h
  refine rdV C hE hP (kX1_whaleOn l D T a_g a_gw a_gk v_gw v_gk p0 q1 e2) mX1_whaleOn qLX7_154 [0, 3, 4] 0 rfl rfl rfl rfl ⟨rfl, rfl⟩ ⟨Nat.le_of_ble_eq_true rfl, Nat.le_of_ble_eq_true rfl⟩ rfl hl.1 rfl (Nat.le_of_ble_eq_true rfl) dX7_writeCell_5 ⟨Nat.le_of_ble_eq_true rfl, Nat.le_of_ble_eq_true rfl⟩ ?_
  refine lv_istore_n (lv' := [(2, .int q1), (0, .ref a_x), (1, .int p0)]) hx hb dX7_writeCell_8 rfl hl (by decide) rfl (fun ls hl => ?_)
  refine lv_iload_n hx hb dX7_writeCell_9 rfl (lv_at hl 0 rfl) ?_
  refine lv_iconst (v := (-1)) hx hb dX7_writeCell_10 (by decide) ?_
  refine lv_icmp_eq (tgt := 25) hx hb dX7_writeCell_11 (by decide) (fun c3 => ?_) (fun c3 => ?_)
  · replace h := ite_t c3 h
    refine lv_iload_n hx hb dX7_writeCell_25 rfl (lv_at hl 2 rfl) ?_
    refine lv_aload_n hx hb dX7_writeCell_26 rfl (lv_at hl 1 rfl) ?_
    refine getF (q0 := 2) (k0 := 0) (v := .ref a_g) C hE hP inA7 rfl rfl (by decide) qFX7_10 rfl rfl dX7_writeCell_27 ?_
    refine lv_iconst (v := 5) hx hb dX7_writeCell_30 (by decide) ?_
    replace h := bnd h; obtain ⟨q4, e5, h⟩ := h
    refine rdV C hE hP (kX1_count l D T a_g a_gw a_gk v_gk 5 q4 e5) mX1_count qLX7_235 [0, 4] 0 rfl rfl rfl rfl ⟨rfl, rfl⟩ ⟨Nat.le_of_ble_eq_true rfl, Nat.le_of_ble_eq_true rfl⟩ rfl hl.1 rfl (Nat.le_of_ble_eq_true rfl) dX7_writeCell_31 ⟨Nat.le_of_ble_eq_true rfl, Nat.le_of_ble_eq_true rfl⟩ ?_
    refine lv_icmp_ne (tgt := 49) hx hb dX7_writeCell_34 (by decide) (fun c6 => ?_) (fun c6 => ?_)
    · replace h := ite_f c6 h
      refine lv_aload_n hx hb dX7_writeCell_49 rfl (lv_at hl 1 rfl) ?_
      refine getF (q0 := 2) (k0 := 8) (v := .ref a_n) C hE hP inA7 rfl rfl (by decide) qFX7_64 rfl rfl dX7_writeCell_50 ?_
      refine lv_aload_n hx hb dX7_writeCell_53 rfl (lv_at hl 1 rfl) ?_
      refine getF (q0 := 2) (k0 := 0) (v := .ref a_g) C hE hP inA7 rfl rfl (by decide) qFX7_10 rfl rfl dX7_writeCell_54 ?_
      refine lv_iload_n hx hb dX7_writeCell_57 rfl (lv_at hl 2 rfl) ?_
      replace h := bnd h; obtain ⟨q7, e8, h⟩ := h
      refine rdV C hE hP (kX1_isDryNow l D T a_g a_gw a_gk v_gk p0 q7 e8) mX1_isDryNow qLX7_157 [0, 4] 0 rfl rfl rfl rfl ⟨rfl, rfl⟩ ⟨Nat.le_of_ble_eq_true rfl, Nat.le_of_ble_eq_true rfl⟩ rfl hl.1 rfl (Nat.le_of_ble_eq_true rfl) dX7_writeCell_58 ⟨Nat.le_of_ble_eq_true rfl, Nat.le_of_ble_eq_true rfl⟩ ?_
      refine lv_if_eq (tgt := 69) hx hb dX7_writeCell_61 (by decide) (fun c9 => ?_) (fun c9 => ?_)
      · rw [if_pos c9] at h
        refine lv_bipush (v := 46) hx hb dX7_writeCell_69 (by decide) ?_
        exact lX7_writeCell_71 C hE hA hret 46 n_len v_ns ⟨hP, hD⟩ hS _ (lv_sub hl [] rfl) h
      · rw [if_neg c9] at h
        refine lv_bipush (v := 95) hx hb dX7_writeCell_64 (by decide) ?_
        refine lv_goto (tgt := 71) hx hb dX7_writeCell_66 (by decide) ?_
        exact lX7_writeCell_71 C hE hA hret 95 n_len v_ns ⟨hP, hD⟩ hS _ (lv_sub hl [] rfl) h
    · replace h := ite_t c6 h
      refine lv_aload_n hx hb dX7_writeCell_37 rfl (lv_at hl 1 rfl) ?_
      refine getF (q0 := 2) (k0 := 8) (v := .ref a_n) C hE hP inA7 rfl rfl (by decide) qFX7_64 rfl rfl dX7_writeCell_38 ?_
      refine lv_bipush (v := 111) hx hb dX7_writeCell_41 (by decide) ?_
      replace h := bnd h; obtain ⟨q10, e11, h⟩ := h
      refine wrVv (ws1 := [(a_g, .inr (1, [.ref a_gw, .ref a_gk])), (a_n, .inr (3, [.ref a_ns, .int q10.1])), (a_x, .inr (7, [.ref a_g, .ref a_b, .ref a_v, .ref a_h, .ref a_r, .ref a_f, .ref a_u, .ref a_t, .ref a_n, .int x_sav, .int x_err, .int x_rea, .int x_det, .int x_com])), (a_gw, .inl (T 0, 90, .inl v_gw)), (a_gk, .inl (T 0, 18, .inl v_gk)), (a_ns, .inl (T 2, 32, .inl q10.2))]) C hE hP hD hS hA (kX3_add l D T a_n a_ns n_len v_ns 111 _ q10 e11) mX3_add qLX7_286 [1, 5] [0, 2, 3, 4] 1 rfl rfl rfl rfl rfl rfl rfl rfl rfl ⟨rfl, rfl⟩ ⟨Nat.le_of_ble_eq_true rfl, Nat.le_of_ble_eq_true rfl⟩ rfl hl.1 rfl (Nat.le_of_ble_eq_true rfl) dX7_writeCell_43 ⟨Nat.le_of_ble_eq_true rfl, Nat.le_of_ble_eq_true rfl⟩ ?_; clear hP hD hS; intro H locs hP hD hS
      refine lv_goto (tgt := 74) hx hb dX7_writeCell_46 (by decide) ?_
      replace h := Option.some.inj h
      exact hret _ _ _ _ dX7_writeCell_74 (by rw [← h]; exact hP) hS
  · replace h := ite_f c3 h
    refine lv_aload_n hx hb dX7_writeCell_14 rfl (lv_at hl 1 rfl) ?_
    refine getF (q0 := 2) (k0 := 8) (v := .ref a_n) C hE hP inA7 rfl rfl (by decide) qFX7_64 rfl rfl dX7_writeCell_15 ?_
    refine lv_iload_n hx hb dX7_writeCell_18 rfl (lv_at hl 0 rfl) ?_
    replace h := bnd h; obtain ⟨q12, e13, h⟩ := h
    refine wrVv (ws1 := [(a_g, .inr (1, [.ref a_gw, .ref a_gk])), (a_n, .inr (3, [.ref a_ns, .int q12.1])), (a_x, .inr (7, [.ref a_g, .ref a_b, .ref a_v, .ref a_h, .ref a_r, .ref a_f, .ref a_u, .ref a_t, .ref a_n, .int x_sav, .int x_err, .int x_rea, .int x_det, .int x_com])), (a_gw, .inl (T 0, 90, .inl v_gw)), (a_gk, .inl (T 0, 18, .inl v_gk)), (a_ns, .inl (T 2, 32, .inl q12.2))]) C hE hP hD hS hA (kX3_addNumber l D T a_n a_ns n_len v_ns q1 _ q12 e13) mX3_addNumber qLX7_279 [1, 5] [0, 2, 3, 4] 1 rfl rfl rfl rfl rfl rfl rfl rfl rfl ⟨rfl, rfl⟩ ⟨Nat.le_of_ble_eq_true rfl, Nat.le_of_ble_eq_true rfl⟩ rfl hl.1 rfl (Nat.le_of_ble_eq_true rfl) dX7_writeCell_19 ⟨Nat.le_of_ble_eq_true rfl, Nat.le_of_ble_eq_true rfl⟩ ?_; clear hP hD hS; intro H locs hP hD hS
    refine lv_goto (tgt := 74) hx hb dX7_writeCell_22 (by decide) ?_
    replace h := Option.some.inj h
    exact hret _ _ _ _ dX7_writeCell_74 (by rw [← h]; exact hP) hS

def fX7_row_9 (v_gw : Nat → Int32) (v_gk : Nat → Int32) (n_len : Int32) (v_ns : Nat → Int32) : Option (Nat × Int32 × Int32 × (Nat → Int32)) :=
  some (3, 0, n_len, v_ns)
def fX7_row_29 (v_gw : Nat → Int32) (v_gk : Nat → Int32) : Nat → Int32 → Int32 → Int32 → (Nat → Int32) → Option (Nat × Int32 × Int32 × (Nat → Int32))
  | 0, _, _, _, _ => none
  | k + 1, l1, l2, n_len, v_ns =>
    if 9 ≤ l2 then
      some (0, (fX3_length n_len), n_len, v_ns)
    else
      (fX7_writeCell n_len v_gw v_gk v_ns ((l1 * 9) + l2)).bind fun q6 =>
      fX7_row_29 v_gw v_gk k l1 (l2 + 1) q6.1 q6.2
def fX7_row (n_len : Int32) (v_gw : Nat → Int32) (v_gk : Nat → Int32) (v_ns : Nat → Int32) (p0 : Int32) : Option (Nat × Int32 × Int32 × (Nat → Int32)) :=
  if p0 < 0 then
    fX7_row_9 v_gw v_gk n_len v_ns
  else
    if p0 < 5 then
      (fX3_clear n_len).bind fun q3 =>
      fX7_row_29 v_gw v_gk 64 p0 0 q3 v_ns
    else
      fX7_row_9 v_gw v_gk n_len v_ns
set_option maxHeartbeats 4000000 in
set_option maxRecDepth 100000 in
theorem lX7_row_9 {p : Program} {l : Launch} {e : Env} {s : State} {m : MethodId} {args : Array Value} {below : List Frame} {meth : Method} {c : Code} {Q : State → Prop} {D : va_G} {T : Nat → ClassId} {a_g a_gw a_gk a_n a_ns a_x a_b a_v a_h a_r a_f a_u a_t : Nat} {x_sav : Int32} {x_err : Int32} {x_rea : Int32} {x_det : Int32} {x_com : Int32} {v_gw : Nat → Int32} {v_gk : Nat → Int32} {A : Nat → Prop} {r : Nat × Int32 × Int32 × (Nat → Int32)} (C : CallFix p m c cX7_row 3 s args aw RX7) (hE : eK D T s) (hA : ∀ q : Nat, s.heap.size ≤ q → A q) (hZ : eX l A s) (hret : ThRetI p l e ({ frames := 6, cells := 1, slots := 6, locals := 90 } : Room) s m args below meth c Q cX7_row .int D A [(a_g, .inr (1, [.ref a_gw, .ref a_gk])), (a_n, .inr (3, [.ref a_ns, .int r.2.2.1])), (a_x, .inr (7, [.ref a_g, .ref a_b, .ref a_v, .ref a_h, .ref a_r, .ref a_f, .ref a_u, .ref a_t, .ref a_n, .int x_sav, .int x_err, .int x_rea, .int x_det, .int x_com])), (a_gw, .inl (T 0, 90, .inl v_gw)), (a_gk, .inl (T 0, 18, .inl v_gk)), (a_ns, .inl (T 2, 32, .inl r.2.2.2))] r.1 r.2.1 ∧ ThOut p l e ({ frames := 6, cells := 1, slots := 6, locals := 90 } : Room) s m args below meth c Q D A [(a_g, .inr (1, [.ref a_gw, .ref a_gk])), (a_n, .inr (3, [.ref a_ns, .int r.2.2.1])), (a_x, .inr (7, [.ref a_g, .ref a_b, .ref a_v, .ref a_h, .ref a_r, .ref a_f, .ref a_u, .ref a_t, .ref a_n, .int x_sav, .int x_err, .int x_rea, .int x_det, .int x_com])), (a_gw, .inl (T 0, 90, .inl v_gw)), (a_gk, .inl (T 0, 18, .inl v_gk)), (a_ns, .inl (T 2, 32, .inl r.2.2.2))] r.1 ∧ ThThr p l e ({ frames := 6, cells := 1, slots := 6, locals := 90 } : Room) s m args below meth c Q cX7_row RX7 D A [(a_g, .inr (1, [.ref a_gw, .ref a_gk])), (a_n, .inr (3, [.ref a_ns, .int r.2.2.1])), (a_x, .inr (7, [.ref a_g, .ref a_b, .ref a_v, .ref a_h, .ref a_r, .ref a_f, .ref a_u, .ref a_t, .ref a_n, .int x_sav, .int x_err, .int x_rea, .int x_det, .int x_com])), (a_gw, .inl (T 0, 90, .inl v_gw)), (a_gk, .inl (T 0, 18, .inl v_gk)), (a_ns, .inl (T 2, 32, .inl r.2.2.2))] r.1) (n_len : Int32) (v_ns : Nat → Int32) {H : Heap} {locs : List Loc} (hPD : va_PD D A [(a_g, .inr (1, [.ref a_gw, .ref a_gk])), (a_n, .inr (3, [.ref a_ns, .int n_len])), (a_x, .inr (7, [.ref a_g, .ref a_b, .ref a_v, .ref a_h, .ref a_r, .ref a_f, .ref a_u, .ref a_t, .ref a_n, .int x_sav, .int x_err, .int x_rea, .int x_det, .int x_com])), (a_gw, .inl (T 0, 90, .inl v_gw)), (a_gk, .inl (T 0, 18, .inl v_gk)), (a_ns, .inl (T 2, 32, .inl v_ns))] H) (hS : va_S A s.heap H locs) (ls : Array Slot) (hl : lv_has ls 3 []) (h : fX7_row_9 v_gw v_gk n_len v_ns = some r) : W p l e ({ frames := 6, cells := 1, slots := 6, locals := 90 } : Room) s m args below meth c H locs 0 0 Q (F0 m 9 ls []) := by
  have hx := C.1
  have hb := C.2.1
  obtain ⟨hP, hD⟩ := hPD
  unfold fX7_row_9 at h
  replace h := Option.some.inj h
  exact hret.2.2 _ _ _ _ _ _ _ 265 269 267 _ "no such row" (by rw [← h]; exact thrX7_265_269_3) (by decide +kernel) dX7_row_9 dX7_row_12 (Or.inr ⟨dX7_row_13, dX7_row_16, dX7_row_19⟩) (Nat.le_of_ble_eq_true rfl) (Nat.le_of_ble_eq_true rfl) (Nat.le_of_ble_eq_true rfl) (Nat.le_of_ble_eq_true rfl) (hl.1.trans C.2.2.1.symm) (by rw [← h]; exact (Nat.le_of_ble_eq_true rfl)) (by rw [← h]; exact hP) hS
set_option maxHeartbeats 4000000 in
set_option maxRecDepth 100000 in
theorem lX7_row_29 {p : Program} {l : Launch} {e : Env} {s : State} {m : MethodId} {args : Array Value} {below : List Frame} {meth : Method} {c : Code} {Q : State → Prop} {D : va_G} {T : Nat → ClassId} {a_g a_gw a_gk a_n a_ns a_x a_b a_v a_h a_r a_f a_u a_t : Nat} {x_sav : Int32} {x_err : Int32} {x_rea : Int32} {x_det : Int32} {x_com : Int32} {v_gw : Nat → Int32} {v_gk : Nat → Int32} {A : Nat → Prop} {r : Nat × Int32 × Int32 × (Nat → Int32)} (C : CallFix p m c cX7_row 3 s args aw RX7) (hE : eK D T s) (hA : ∀ q : Nat, s.heap.size ≤ q → A q) (hZ : eX l A s) (hret : ThRetI p l e ({ frames := 6, cells := 1, slots := 6, locals := 90 } : Room) s m args below meth c Q cX7_row .int D A [(a_g, .inr (1, [.ref a_gw, .ref a_gk])), (a_n, .inr (3, [.ref a_ns, .int r.2.2.1])), (a_x, .inr (7, [.ref a_g, .ref a_b, .ref a_v, .ref a_h, .ref a_r, .ref a_f, .ref a_u, .ref a_t, .ref a_n, .int x_sav, .int x_err, .int x_rea, .int x_det, .int x_com])), (a_gw, .inl (T 0, 90, .inl v_gw)), (a_gk, .inl (T 0, 18, .inl v_gk)), (a_ns, .inl (T 2, 32, .inl r.2.2.2))] r.1 r.2.1 ∧ ThOut p l e ({ frames := 6, cells := 1, slots := 6, locals := 90 } : Room) s m args below meth c Q D A [(a_g, .inr (1, [.ref a_gw, .ref a_gk])), (a_n, .inr (3, [.ref a_ns, .int r.2.2.1])), (a_x, .inr (7, [.ref a_g, .ref a_b, .ref a_v, .ref a_h, .ref a_r, .ref a_f, .ref a_u, .ref a_t, .ref a_n, .int x_sav, .int x_err, .int x_rea, .int x_det, .int x_com])), (a_gw, .inl (T 0, 90, .inl v_gw)), (a_gk, .inl (T 0, 18, .inl v_gk)), (a_ns, .inl (T 2, 32, .inl r.2.2.2))] r.1 ∧ ThThr p l e ({ frames := 6, cells := 1, slots := 6, locals := 90 } : Room) s m args below meth c Q cX7_row RX7 D A [(a_g, .inr (1, [.ref a_gw, .ref a_gk])), (a_n, .inr (3, [.ref a_ns, .int r.2.2.1])), (a_x, .inr (7, [.ref a_g, .ref a_b, .ref a_v, .ref a_h, .ref a_r, .ref a_f, .ref a_u, .ref a_t, .ref a_n, .int x_sav, .int x_err, .int x_rea, .int x_det, .int x_com])), (a_gw, .inl (T 0, 90, .inl v_gw)), (a_gk, .inl (T 0, 18, .inl v_gk)), (a_ns, .inl (T 2, 32, .inl r.2.2.2))] r.1) : ∀ (k : Nat) (l1 : Int32) (l2 : Int32) (n_len : Int32) (v_ns : Nat → Int32) {H : Heap} {locs : List Loc} (hPD : va_PD D A [(a_g, .inr (1, [.ref a_gw, .ref a_gk])), (a_n, .inr (3, [.ref a_ns, .int n_len])), (a_x, .inr (7, [.ref a_g, .ref a_b, .ref a_v, .ref a_h, .ref a_r, .ref a_f, .ref a_u, .ref a_t, .ref a_n, .int x_sav, .int x_err, .int x_rea, .int x_det, .int x_com])), (a_gw, .inl (T 0, 90, .inl v_gw)), (a_gk, .inl (T 0, 18, .inl v_gk)), (a_ns, .inl (T 2, 32, .inl v_ns))] H) (hS : va_S A s.heap H locs) (ls : Array Slot) (hl : lv_has ls 3 [(0, .ref a_x), (1, .int l1), (2, .int l2)]) (h : fX7_row_29 v_gw v_gk k l1 l2 n_len v_ns = some r), W p l e ({ frames := 6, cells := 1, slots := 6, locals := 90 } : Room) s m args below meth c H locs 0 0 Q (F0 m 29 ls []) := by
  have hx := C.1
  have hb := C.2.1
  intro k
  induction k with
  | zero =>
    intro l1 l2 n_len v_ns H locs hPD hS ls hl h
    exact nomatch (show (none : Option (Nat × Int32 × Int32 × (Nat → Int32))) = some r from h)
  | succ k ih =>
    intro l1 l2 n_len v_ns H locs hPD hS ls hl h
    obtain ⟨hP, hD⟩ := hPD
    rw [fX7_row_29] at h
    refine lv_iload_n hx hb dX7_row_29 rfl (lv_at hl 2 rfl) ?_
    refine lv_bipush (v := 9) hx hb dX7_row_30 (by decide) ?_
    refine lv_icmp_ge (tgt := 51) hx hb dX7_row_32 (by decide) (fun c5 => ?_) (fun c5 => ?_)
    · replace h := ite_t c5 h
      refine lv_aload_n hx hb dX7_row_51 rfl (lv_at hl 0 rfl) ?_
      refine getF (q0 := 2) (k0 := 8) (v := .ref a_n) C hE hP inA7 rfl rfl (by decide) qFX7_64 rfl rfl dX7_row_52 ?_
      refine rdV C hE hP (kX3_length l D T a_n a_ns n_len) mX3_length qLX7_276 [1] 1 rfl rfl rfl rfl ⟨rfl, rfl⟩ ⟨Nat.le_of_ble_eq_true rfl, Nat.le_of_ble_eq_true rfl⟩ rfl hl.1 rfl (Nat.le_of_ble_eq_true rfl) dX7_row_55 ⟨Nat.le_of_ble_eq_true rfl, Nat.le_of_ble_eq_true rfl⟩ ?_
      replace h := Option.some.inj h
      exact hret.1 _ _ _ _ _ _ _ _ (Nat.le_of_ble_eq_true rfl) (Nat.le_of_ble_eq_true rfl) dX7_row_58 rfl (by rw [← h]) (by rw [← h] <;> rfl) (by rw [← h]; exact hP) hS
    · replace h := ite_f c5 h
      refine lv_aload_n hx hb dX7_row_35 rfl (lv_at hl 0 rfl) ?_
      refine lv_iload_n hx hb dX7_row_36 rfl (lv_at hl 1 rfl) ?_
      refine lv_bipush (v := 9) hx hb dX7_row_37 (by decide) ?_
      refine lv_imul hx hb dX7_row_39 ?_
      refine lv_iload_n hx hb dX7_row_40 rfl (lv_at hl 2 rfl) ?_
      refine lv_iadd hx hb dX7_row_41 ?_
      replace h := bnd h; obtain ⟨q6, e7, h⟩ := h
      refine wrVv (ws1 := [(a_g, .inr (1, [.ref a_gw, .ref a_gk])), (a_n, .inr (3, [.ref a_ns, .int q6.1])), (a_x, .inr (7, [.ref a_g, .ref a_b, .ref a_v, .ref a_h, .ref a_r, .ref a_f, .ref a_u, .ref a_t, .ref a_n, .int x_sav, .int x_err, .int x_rea, .int x_det, .int x_com])), (a_gw, .inl (T 0, 90, .inl v_gw)), (a_gk, .inl (T 0, 18, .inl v_gk)), (a_ns, .inl (T 2, 32, .inl q6.2))]) C hE hP hD hS hA (kX7_writeCell l D T a_g a_gw a_gk a_n a_ns a_x a_b a_v a_h a_r a_f a_u a_t n_len x_sav x_err x_rea x_det x_com v_gw v_gk v_ns ((l1 * 9) + l2) _ q6 e7) mX7_writeCell qLX7_273 [0, 1, 2, 3, 4, 5] [] 2 rfl rfl rfl rfl rfl rfl rfl rfl rfl ⟨rfl, rfl⟩ ⟨Nat.le_of_ble_eq_true rfl, Nat.le_of_ble_eq_true rfl⟩ rfl hl.1 rfl (Nat.le_of_ble_eq_true rfl) dX7_row_42 ⟨Nat.le_of_ble_eq_true rfl, Nat.le_of_ble_eq_true rfl⟩ ?_; clear hP hD hS; intro H locs hP hD hS
      refine lv_iinc (v := (l2 + 1)) (lv' := [(2, .int (l2 + 1)), (0, .ref a_x), (1, .int l1)]) hx hb dX7_row_45 hl (k := 2) rfl rfl (by decide) rfl (fun ls hl => ?_)
      refine lv_goto (tgt := 29) hx hb dX7_row_48 (by decide) ?_
      exact ih l1 (l2 + 1) q6.1 q6.2 ⟨hP, hD⟩ hS _ (lv_sub hl [1, 2, 0] rfl) h
set_option maxHeartbeats 4000000 in
set_option maxRecDepth 100000 in
theorem kX7_row (l : Launch) (hnt : l.stackTraces = false) (D : va_G) (T : Nat → ClassId) (a_g a_gw a_gk a_n a_ns a_x a_b a_v a_h a_r a_f a_u a_t : Nat) (n_len : Int32) (x_sav : Int32) (x_err : Int32) (x_rea : Int32) (x_det : Int32) (x_com : Int32) (v_gw : Nat → Int32) (v_gk : Nat → Int32) (v_ns : Nat → Int32) (p0 : Int32) (sz : Nat) (r : Nat × Int32 × Int32 × (Nat → Int32)) (h : fX7_row n_len v_gw v_gk v_ns p0 = some r) : ThI l yX7_row cX7_row 3 .int ({ frames := 6, cells := 1, slots := 6, locals := 90 } : Room) D T sz [(a_g, .inr (1, [.ref a_gw, .ref a_gk])), (a_n, .inr (3, [.ref a_ns, .int n_len])), (a_x, .inr (7, [.ref a_g, .ref a_b, .ref a_v, .ref a_h, .ref a_r, .ref a_f, .ref a_u, .ref a_t, .ref a_n, .int x_sav, .int x_err, .int x_rea, .int x_det, .int x_com])), (a_gw, .inl (T 0, 90, .inl v_gw)), (a_gk, .inl (T 0, 18, .inl v_gk)), (a_ns, .inl (T 2, 32, .inl v_ns))] [(a_g, .inr (1, [.ref a_gw, .ref a_gk])), (a_n, .inr (3, [.ref a_ns, .int r.2.2.1])), (a_x, .inr (7, [.ref a_g, .ref a_b, .ref a_v, .ref a_h, .ref a_r, .ref a_f, .ref a_u, .ref a_t, .ref a_n, .int x_sav, .int x_err, .int x_rea, .int x_det, .int x_com])), (a_gw, .inl (T 0, 90, .inl v_gw)), (a_gk, .inl (T 0, 18, .inl v_gk)), (a_ns, .inl (T 2, 32, .inl r.2.2.2))] [.ref a_x, .int p0] r.1 r.2.1 := by
  unfold fX7_row at h
  refine thMetI hnt (by decide +kernel) rfl (fun p e s m args below meth c Q A C hE hA hZ hP hD hS hret ls hl => ?_)
  have hx := C.1
  have hb := C.2.1
  have hl : lv_has ls 3 [(0, .ref a_x), (1, .int p0)] := hl
  refine lv_iload_n hx hb dX7_row_0 rfl (lv_at hl 1 rfl) ?_
  refine lv_if_lt (tgt := 9) hx hb dX7_row_1 (by decide) (fun c1 => ?_) (fun c1 => ?_)
  · replace h := ite_t c1 h
    exact lX7_row_9 C hE hA hZ hret n_len v_ns ⟨hP, hD⟩ hS _ (lv_sub hl [] rfl) h
  · replace h := ite_f c1 h
    refine lv_iload_n hx hb dX7_row_4 rfl (lv_at hl 1 rfl) ?_
    refine lv_iconst (v := 5) hx hb dX7_row_5 (by decide) ?_
    refine lv_icmp_lt (tgt := 20) hx hb dX7_row_6 (by decide) (fun c2 => ?_) (fun c2 => ?_)
    · replace h := ite_t c2 h
      refine lv_aload_n hx hb dX7_row_20 rfl (lv_at hl 0 rfl) ?_
      refine getF (q0 := 2) (k0 := 8) (v := .ref a_n) C hE hP inA7 rfl rfl (by decide) qFX7_64 rfl rfl dX7_row_21 ?_
      replace h := bnd h; obtain ⟨q3, e4, h⟩ := h
      refine wrVv (ws1 := [(a_g, .inr (1, [.ref a_gw, .ref a_gk])), (a_n, .inr (3, [.ref a_ns, .int q3])), (a_x, .inr (7, [.ref a_g, .ref a_b, .ref a_v, .ref a_h, .ref a_r, .ref a_f, .ref a_u, .ref a_t, .ref a_n, .int x_sav, .int x_err, .int x_rea, .int x_det, .int x_com])), (a_gw, .inl (T 0, 90, .inl v_gw)), (a_gk, .inl (T 0, 18, .inl v_gk)), (a_ns, .inl (T 2, 32, .inl v_ns))]) C hE hP hD hS hA (kX3_clear l D T a_n a_ns n_len _ q3 e4) mX3_clear qLX7_270 [1] [0, 2, 3, 4, 5] 1 rfl rfl rfl rfl rfl rfl rfl rfl rfl ⟨rfl, rfl⟩ ⟨Nat.le_of_ble_eq_true rfl, Nat.le_of_ble_eq_true rfl⟩ rfl hl.1 rfl (Nat.le_of_ble_eq_true rfl) dX7_row_24 ⟨Nat.le_of_ble_eq_true rfl, Nat.le_of_ble_eq_true rfl⟩ ?_; clear hP hD hS; intro H locs hP hD hS
      refine lv_iconst (v := 0) hx hb dX7_row_27 (by decide) ?_
      refine lv_istore_n (lv' := [(2, .int 0), (0, .ref a_x), (1, .int p0)]) hx hb dX7_row_28 rfl hl (by decide) rfl (fun ls hl => ?_)
      exact lX7_row_29 C hE hA hZ hret 64 p0 0 q3 v_ns ⟨hP, hD⟩ hS _ (lv_sub hl [1, 2, 0] rfl) h
    · replace h := ite_f c2 h
      exact lX7_row_9 C hE hA hZ hret n_len v_ns ⟨hP, hD⟩ hS _ (lv_sub hl [] rfl) h

def fX7_tell_143 (v_gw : Nat → Int32) (v_gk : Nat → Int32) (n_len : Int32) (v_ns : Nat → Int32) : Option (Nat × Int32 × Int32 × (Nat → Int32)) :=
  some (0, (fX3_length n_len), n_len, v_ns)
def fX7_tell_121 (v_gw : Nat → Int32) (v_gk : Nat → Int32) (l1 : Int32) (n_len : Int32) (v_ns : Nat → Int32) : Option (Nat × Int32 × Int32 × (Nat → Int32)) :=
  (fX1_of v_gw l1 5).bind fun q30 =>
  if q30 = 1 then
    (fX3_add n_len v_ns 33).bind fun q33 =>
    fX7_tell_143 v_gw v_gk q33.1 q33.2
  else
    fX7_tell_143 v_gw v_gk n_len v_ns
def fX7_tell (n_len : Int32) (v_gw : Nat → Int32) (v_gk : Nat → Int32) (v_ns : Nat → Int32) (p0 : Int32) : Option (Nat × Int32 × Int32 × (Nat → Int32)) :=
  (fX7_demandWhale v_gk p0).bind fun q1 =>
  if q1 = 0 then
    (fX3_clear n_len).bind fun q3 =>
    (fX3_addNumber q3 v_ns p0).bind fun q5 =>
    (fX1_of v_gw p0 0).bind fun q7 =>
    (fX3_addSigned q5.1 q5.2 58 q7).bind fun q9 =>
    (fX1_of v_gw p0 1).bind fun q11 =>
    (fX3_addSigned q9.1 q9.2 94 q11).bind fun q13 =>
    (fX1_of v_gw p0 2).bind fun q15 =>
    (fX3_addSigned q13.1 q13.2 47 q15).bind fun q17 =>
    (fX1_of v_gw p0 3).bind fun q19 =>
    (fX3_addSigned q17.1 q17.2 37 q19).bind fun q21 =>
    (fX1_isPlaying v_gw p0).bind fun q23 =>
    if q23 = 0 then
      fX7_tell_121 v_gw v_gk p0 q21.1 q21.2
    else
      (fX1_of v_gw p0 4).bind fun q26 =>
      (fX3_addSigned q21.1 q21.2 64 q26).bind fun q28 =>
      fX7_tell_121 v_gw v_gk p0 q28.1 q28.2
  else
    some (q1, 0, n_len, v_ns)
set_option maxHeartbeats 4000000 in
set_option maxRecDepth 100000 in
theorem lX7_tell_143 {p : Program} {l : Launch} {e : Env} {s : State} {m : MethodId} {args : Array Value} {below : List Frame} {meth : Method} {c : Code} {Q : State → Prop} {D : va_G} {T : Nat → ClassId} {a_g a_gw a_gk a_n a_ns a_x a_b a_v a_h a_r a_f a_u a_t : Nat} {x_sav : Int32} {x_err : Int32} {x_rea : Int32} {x_det : Int32} {x_com : Int32} {v_gw : Nat → Int32} {v_gk : Nat → Int32} {A : Nat → Prop} {r : Nat × Int32 × Int32 × (Nat → Int32)} (C : CallFix p m c cX7_tell 2 s args aw RX7) (hE : eK D T s) (hA : ∀ q : Nat, s.heap.size ≤ q → A q) (hZ : eX l A s) (hret : ThRetI p l e ({ frames := 7, cells := 1, slots := 6, locals := 111 } : Room) s m args below meth c Q cX7_tell .int D A [(a_g, .inr (1, [.ref a_gw, .ref a_gk])), (a_n, .inr (3, [.ref a_ns, .int r.2.2.1])), (a_x, .inr (7, [.ref a_g, .ref a_b, .ref a_v, .ref a_h, .ref a_r, .ref a_f, .ref a_u, .ref a_t, .ref a_n, .int x_sav, .int x_err, .int x_rea, .int x_det, .int x_com])), (a_gw, .inl (T 0, 90, .inl v_gw)), (a_gk, .inl (T 0, 18, .inl v_gk)), (a_ns, .inl (T 2, 32, .inl r.2.2.2))] r.1 r.2.1 ∧ ThOut p l e ({ frames := 7, cells := 1, slots := 6, locals := 111 } : Room) s m args below meth c Q D A [(a_g, .inr (1, [.ref a_gw, .ref a_gk])), (a_n, .inr (3, [.ref a_ns, .int r.2.2.1])), (a_x, .inr (7, [.ref a_g, .ref a_b, .ref a_v, .ref a_h, .ref a_r, .ref a_f, .ref a_u, .ref a_t, .ref a_n, .int x_sav, .int x_err, .int x_rea, .int x_det, .int x_com])), (a_gw, .inl (T 0, 90, .inl v_gw)), (a_gk, .inl (T 0, 18, .inl v_gk)), (a_ns, .inl (T 2, 32, .inl r.2.2.2))] r.1 ∧ ThThr p l e ({ frames := 7, cells := 1, slots := 6, locals := 111 } : Room) s m args below meth c Q cX7_tell RX7 D A [(a_g, .inr (1, [.ref a_gw, .ref a_gk])), (a_n, .inr (3, [.ref a_ns, .int r.2.2.1])), (a_x, .inr (7, [.ref a_g, .ref a_b, .ref a_v, .ref a_h, .ref a_r, .ref a_f, .ref a_u, .ref a_t, .ref a_n, .int x_sav, .int x_err, .int x_rea, .int x_det, .int x_com])), (a_gw, .inl (T 0, 90, .inl v_gw)), (a_gk, .inl (T 0, 18, .inl v_gk)), (a_ns, .inl (T 2, 32, .inl r.2.2.2))] r.1) (n_len : Int32) (v_ns : Nat → Int32) {H : Heap} {locs : List Loc} (hPD : va_PD D A [(a_g, .inr (1, [.ref a_gw, .ref a_gk])), (a_n, .inr (3, [.ref a_ns, .int n_len])), (a_x, .inr (7, [.ref a_g, .ref a_b, .ref a_v, .ref a_h, .ref a_r, .ref a_f, .ref a_u, .ref a_t, .ref a_n, .int x_sav, .int x_err, .int x_rea, .int x_det, .int x_com])), (a_gw, .inl (T 0, 90, .inl v_gw)), (a_gk, .inl (T 0, 18, .inl v_gk)), (a_ns, .inl (T 2, 32, .inl v_ns))] H) (hS : va_S A s.heap H locs) (ls : Array Slot) (hl : lv_has ls 2 [(0, .ref a_x)]) (h : fX7_tell_143 v_gw v_gk n_len v_ns = some r) : W p l e ({ frames := 7, cells := 1, slots := 6, locals := 111 } : Room) s m args below meth c H locs 1 6 Q (F0 m 143 ls []) := by
  have hx := C.1
  have hb := C.2.1
  obtain ⟨hP, hD⟩ := hPD
  unfold fX7_tell_143 at h
  refine lv_aload_n hx hb dX7_tell_143 rfl (lv_at hl 0 rfl) ?_
  refine getF (q0 := 2) (k0 := 8) (v := .ref a_n) C hE hP inA7 rfl rfl (by decide) qFX7_64 rfl rfl dX7_tell_144 ?_
  refine rdV C hE hP (kX3_length l D T a_n a_ns n_len) mX3_length qLX7_276 [1] 1 rfl rfl rfl rfl ⟨rfl, rfl⟩ ⟨Nat.le_of_ble_eq_true rfl, Nat.le_of_ble_eq_true rfl⟩ rfl hl.1 rfl (Nat.le_of_ble_eq_true rfl) dX7_tell_147 ⟨Nat.le_of_ble_eq_true rfl, Nat.le_of_ble_eq_true rfl⟩ ?_
  replace h := Option.some.inj h
  exact hret.1 _ _ _ _ _ _ _ _ (Nat.le_of_ble_eq_true rfl) (Nat.le_of_ble_eq_true rfl) dX7_tell_150 rfl (by rw [← h]) (by rw [← h] <;> rfl) (by rw [← h]; exact hP) hS
set_option maxHeartbeats 4000000 in
set_option maxRecDepth 100000 in
theorem lX7_tell_121 {p : Program} {l : Launch} {e : Env} {s : State} {m : MethodId} {args : Array Value} {below : List Frame} {meth : Method} {c : Code} {Q : State → Prop} {D : va_G} {T : Nat → ClassId} {a_g a_gw a_gk a_n a_ns a_x a_b a_v a_h a_r a_f a_u a_t : Nat} {x_sav : Int32} {x_err : Int32} {x_rea : Int32} {x_det : Int32} {x_com : Int32} {v_gw : Nat → Int32} {v_gk : Nat → Int32} {A : Nat → Prop} {r : Nat × Int32 × Int32 × (Nat → Int32)} (C : CallFix p m c cX7_tell 2 s args aw RX7) (hE : eK D T s) (hA : ∀ q : Nat, s.heap.size ≤ q → A q) (hZ : eX l A s) (hret : ThRetI p l e ({ frames := 7, cells := 1, slots := 6, locals := 111 } : Room) s m args below meth c Q cX7_tell .int D A [(a_g, .inr (1, [.ref a_gw, .ref a_gk])), (a_n, .inr (3, [.ref a_ns, .int r.2.2.1])), (a_x, .inr (7, [.ref a_g, .ref a_b, .ref a_v, .ref a_h, .ref a_r, .ref a_f, .ref a_u, .ref a_t, .ref a_n, .int x_sav, .int x_err, .int x_rea, .int x_det, .int x_com])), (a_gw, .inl (T 0, 90, .inl v_gw)), (a_gk, .inl (T 0, 18, .inl v_gk)), (a_ns, .inl (T 2, 32, .inl r.2.2.2))] r.1 r.2.1 ∧ ThOut p l e ({ frames := 7, cells := 1, slots := 6, locals := 111 } : Room) s m args below meth c Q D A [(a_g, .inr (1, [.ref a_gw, .ref a_gk])), (a_n, .inr (3, [.ref a_ns, .int r.2.2.1])), (a_x, .inr (7, [.ref a_g, .ref a_b, .ref a_v, .ref a_h, .ref a_r, .ref a_f, .ref a_u, .ref a_t, .ref a_n, .int x_sav, .int x_err, .int x_rea, .int x_det, .int x_com])), (a_gw, .inl (T 0, 90, .inl v_gw)), (a_gk, .inl (T 0, 18, .inl v_gk)), (a_ns, .inl (T 2, 32, .inl r.2.2.2))] r.1 ∧ ThThr p l e ({ frames := 7, cells := 1, slots := 6, locals := 111 } : Room) s m args below meth c Q cX7_tell RX7 D A [(a_g, .inr (1, [.ref a_gw, .ref a_gk])), (a_n, .inr (3, [.ref a_ns, .int r.2.2.1])), (a_x, .inr (7, [.ref a_g, .ref a_b, .ref a_v, .ref a_h, .ref a_r, .ref a_f, .ref a_u, .ref a_t, .ref a_n, .int x_sav, .int x_err, .int x_rea, .int x_det, .int x_com])), (a_gw, .inl (T 0, 90, .inl v_gw)), (a_gk, .inl (T 0, 18, .inl v_gk)), (a_ns, .inl (T 2, 32, .inl r.2.2.2))] r.1) (l1 : Int32) (n_len : Int32) (v_ns : Nat → Int32) {H : Heap} {locs : List Loc} (hPD : va_PD D A [(a_g, .inr (1, [.ref a_gw, .ref a_gk])), (a_n, .inr (3, [.ref a_ns, .int n_len])), (a_x, .inr (7, [.ref a_g, .ref a_b, .ref a_v, .ref a_h, .ref a_r, .ref a_f, .ref a_u, .ref a_t, .ref a_n, .int x_sav, .int x_err, .int x_rea, .int x_det, .int x_com])), (a_gw, .inl (T 0, 90, .inl v_gw)), (a_gk, .inl (T 0, 18, .inl v_gk)), (a_ns, .inl (T 2, 32, .inl v_ns))] H) (hS : va_S A s.heap H locs) (ls : Array Slot) (hl : lv_has ls 2 [(0, .ref a_x), (1, .int l1)]) (h : fX7_tell_121 v_gw v_gk l1 n_len v_ns = some r) : W p l e ({ frames := 7, cells := 1, slots := 6, locals := 111 } : Room) s m args below meth c H locs 1 6 Q (F0 m 121 ls []) := by
  have hx := C.1
  have hb := C.2.1
  obtain ⟨hP, hD⟩ := hPD
  unfold fX7_tell_121 at h
  refine lv_aload_n hx hb dX7_tell_121 rfl (lv_at hl 0 rfl) ?_
  refine getF (q0 := 2) (k0 := 0) (v := .ref a_g) C hE hP inA7 rfl rfl (by decide) qFX7_10 rfl rfl dX7_tell_122 ?_
  refine lv_iload_n hx hb dX7_tell_125 rfl (lv_at hl 1 rfl) ?_
  refine lv_iconst (v := 5) hx hb dX7_tell_126 (by decide) ?_
  replace h := bnd h; obtain ⟨q30, e31, h⟩ := h
  refine rdV C hE hP (kX1_of l D T a_g a_gw a_gk v_gw l1 5 q30 e31) mX1_of qLX7_148 [0, 3] 0 rfl rfl rfl rfl ⟨rfl, rfl⟩ ⟨Nat.le_of_ble_eq_true rfl, Nat.le_of_ble_eq_true rfl⟩ rfl hl.1 rfl (Nat.le_of_ble_eq_true rfl) dX7_tell_127 ⟨Nat.le_of_ble_eq_true rfl, Nat.le_of_ble_eq_true rfl⟩ ?_
  refine lv_iconst (v := 1) hx hb dX7_tell_130 (by decide) ?_
  refine lv_icmp_ne (tgt := 143) hx hb dX7_tell_131 (by decide) (fun c32 => ?_) (fun c32 => ?_)
  · replace h := ite_f c32 h
    exact lX7_tell_143 C hE hA hZ hret n_len v_ns ⟨hP, hD⟩ hS _ (lv_sub hl [0] rfl) h
  · replace h := ite_t c32 h
    refine lv_aload_n hx hb dX7_tell_134 rfl (lv_at hl 0 rfl) ?_
    refine getF (q0 := 2) (k0 := 8) (v := .ref a_n) C hE hP inA7 rfl rfl (by decide) qFX7_64 rfl rfl dX7_tell_135 ?_
    refine lv_bipush (v := 33) hx hb dX7_tell_138 (by decide) ?_
    replace h := bnd h; obtain ⟨q33, e34, h⟩ := h
    refine wrVv (ws1 := [(a_g, .inr (1, [.ref a_gw, .ref a_gk])), (a_n, .inr (3, [.ref a_ns, .int q33.1])), (a_x, .inr (7, [.ref a_g, .ref a_b, .ref a_v, .ref a_h, .ref a_r, .ref a_f, .ref a_u, .ref a_t, .ref a_n, .int x_sav, .int x_err, .int x_rea, .int x_det, .int x_com])), (a_gw, .inl (T 0, 90, .inl v_gw)), (a_gk, .inl (T 0, 18, .inl v_gk)), (a_ns, .inl (T 2, 32, .inl q33.2))]) C hE hP hD hS hA (kX3_add l D T a_n a_ns n_len v_ns 33 _ q33 e34) mX3_add qLX7_286 [1, 5] [0, 2, 3, 4] 1 rfl rfl rfl rfl rfl rfl rfl rfl rfl ⟨rfl, rfl⟩ ⟨Nat.le_of_ble_eq_true rfl, Nat.le_of_ble_eq_true rfl⟩ rfl hl.1 rfl (Nat.le_of_ble_eq_true rfl) dX7_tell_140 ⟨Nat.le_of_ble_eq_true rfl, Nat.le_of_ble_eq_true rfl⟩ ?_; clear hP hD hS; intro H locs hP hD hS
    exact lX7_tell_143 C hE hA hZ hret q33.1 q33.2 ⟨hP, hD⟩ hS _ (lv_sub hl [0] rfl) h
set_option maxHeartbeats 4000000 in
set_option maxRecDepth 100000 in
theorem kX7_tell (l : Launch) (hnt : l.stackTraces = false) (D : va_G) (T : Nat → ClassId) (a_g a_gw a_gk a_n a_ns a_x a_b a_v a_h a_r a_f a_u a_t : Nat) (n_len : Int32) (x_sav : Int32) (x_err : Int32) (x_rea : Int32) (x_det : Int32) (x_com : Int32) (v_gw : Nat → Int32) (v_gk : Nat → Int32) (v_ns : Nat → Int32) (p0 : Int32) (sz : Nat) (r : Nat × Int32 × Int32 × (Nat → Int32)) (h : fX7_tell n_len v_gw v_gk v_ns p0 = some r) : ThI l yX7_tell cX7_tell 2 .int ({ frames := 7, cells := 1, slots := 6, locals := 111 } : Room) D T sz [(a_g, .inr (1, [.ref a_gw, .ref a_gk])), (a_n, .inr (3, [.ref a_ns, .int n_len])), (a_x, .inr (7, [.ref a_g, .ref a_b, .ref a_v, .ref a_h, .ref a_r, .ref a_f, .ref a_u, .ref a_t, .ref a_n, .int x_sav, .int x_err, .int x_rea, .int x_det, .int x_com])), (a_gw, .inl (T 0, 90, .inl v_gw)), (a_gk, .inl (T 0, 18, .inl v_gk)), (a_ns, .inl (T 2, 32, .inl v_ns))] [(a_g, .inr (1, [.ref a_gw, .ref a_gk])), (a_n, .inr (3, [.ref a_ns, .int r.2.2.1])), (a_x, .inr (7, [.ref a_g, .ref a_b, .ref a_v, .ref a_h, .ref a_r, .ref a_f, .ref a_u, .ref a_t, .ref a_n, .int x_sav, .int x_err, .int x_rea, .int x_det, .int x_com])), (a_gw, .inl (T 0, 90, .inl v_gw)), (a_gk, .inl (T 0, 18, .inl v_gk)), (a_ns, .inl (T 2, 32, .inl r.2.2.2))] [.ref a_x, .int p0] r.1 r.2.1 := by
  unfold fX7_tell at h
  refine thMetI hnt (by decide +kernel) rfl (fun p e s m args below meth c Q A C hE hA hZ hP hD hS hret ls hl => ?_)
  have hx := C.1
  have hb := C.2.1
  have hl : lv_has ls 2 [(0, .ref a_x), (1, .int p0)] := hl
  refine lv_aload_n hx hb dX7_tell_0 rfl (lv_at hl 0 rfl) ?_
  refine lv_iload_n hx hb dX7_tell_1 rfl (lv_at hl 1 rfl) ?_
  replace h := bnd h; obtain ⟨q1, e2, h⟩ := h
  refine thVv (ws1 := [(a_g, .inr (1, [.ref a_gw, .ref a_gk])), (a_n, .inr (3, [.ref a_ns, .int n_len])), (a_x, .inr (7, [.ref a_g, .ref a_b, .ref a_v, .ref a_h, .ref a_r, .ref a_f, .ref a_u, .ref a_t, .ref a_n, .int x_sav, .int x_err, .int x_rea, .int x_det, .int x_com])), (a_gw, .inl (T 0, 90, .inl v_gw)), (a_gk, .inl (T 0, 18, .inl v_gk)), (a_ns, .inl (T 2, 32, .inl v_ns))]) C hE hZ hP hD hS hA (kX7_demandWhale l hZ.1 D T a_g a_gw a_gk a_x a_b a_v a_h a_r a_f a_u a_t a_n x_sav x_err x_rea x_det x_com v_gk p0 _ q1 e2) mX7_demandWhale qLX7_138 [0, 2, 4] [1, 3, 5] 2 rfl rfl rfl rfl rfl rfl rfl rfl rfl ⟨Nat.le_of_ble_eq_true rfl, Nat.le_of_ble_eq_true rfl⟩ rfl hl.1 rfl (Nat.le_of_ble_eq_true rfl) dX7_tell_2 ⟨Nat.le_of_ble_eq_true rfl, Nat.le_of_ble_eq_true rfl⟩ ?_ ?_
  · clear hP hD hS; intro hx0 H locs ce q9 hP hD hS g1 g2 g3
    replace h := ite_f (Nat.ne_of_gt hx0) h
    replace h := Option.some.inj h
    exact hret.2.1 _ _ _ _ _ _ _ _ _ (Nat.le_of_ble_eq_true rfl) (Nat.le_of_ble_eq_true rfl) (by rw [← h]; exact hx0) (by rw [← h]; exact hP) hS g1 g2 (by rw [← h]; exact g3)
  · clear hP hD hS; intro hx0 H locs hP hD hS
    replace h := ite_t hx0 h
    refine lv_aload_n hx hb dX7_tell_5 rfl (lv_at hl 0 rfl) ?_
    refine getF (q0 := 2) (k0 := 8) (v := .ref a_n) C hE hP inA7 rfl rfl (by decide) qFX7_64 rfl rfl dX7_tell_6 ?_
    replace h := bnd h; obtain ⟨q3, e4, h⟩ := h
    refine wrVv (ws1 := [(a_g, .inr (1, [.ref a_gw, .ref a_gk])), (a_n, .inr (3, [.ref a_ns, .int q3])), (a_x, .inr (7, [.ref a_g, .ref a_b, .ref a_v, .ref a_h, .ref a_r, .ref a_f, .ref a_u, .ref a_t, .ref a_n, .int x_sav, .int x_err, .int x_rea, .int x_det, .int x_com])), (a_gw, .inl (T 0, 90, .inl v_gw)), (a_gk, .inl (T 0, 18, .inl v_gk)), (a_ns, .inl (T 2, 32, .inl v_ns))]) C hE hP hD hS hA (kX3_clear l D T a_n a_ns n_len _ q3 e4) mX3_clear qLX7_270 [1] [0, 2, 3, 4, 5] 1 rfl rfl rfl rfl rfl rfl rfl rfl rfl ⟨rfl, rfl⟩ ⟨Nat.le_of_ble_eq_true rfl, Nat.le_of_ble_eq_true rfl⟩ rfl hl.1 rfl (Nat.le_of_ble_eq_true rfl) dX7_tell_9 ⟨Nat.le_of_ble_eq_true rfl, Nat.le_of_ble_eq_true rfl⟩ ?_; clear hP hD hS; intro H locs hP hD hS
    refine lv_aload_n hx hb dX7_tell_12 rfl (lv_at hl 0 rfl) ?_
    refine getF (q0 := 2) (k0 := 8) (v := .ref a_n) C hE hP inA7 rfl rfl (by decide) qFX7_64 rfl rfl dX7_tell_13 ?_
    refine lv_iload_n hx hb dX7_tell_16 rfl (lv_at hl 1 rfl) ?_
    replace h := bnd h; obtain ⟨q5, e6, h⟩ := h
    refine wrVv (ws1 := [(a_g, .inr (1, [.ref a_gw, .ref a_gk])), (a_n, .inr (3, [.ref a_ns, .int q5.1])), (a_x, .inr (7, [.ref a_g, .ref a_b, .ref a_v, .ref a_h, .ref a_r, .ref a_f, .ref a_u, .ref a_t, .ref a_n, .int x_sav, .int x_err, .int x_rea, .int x_det, .int x_com])), (a_gw, .inl (T 0, 90, .inl v_gw)), (a_gk, .inl (T 0, 18, .inl v_gk)), (a_ns, .inl (T 2, 32, .inl q5.2))]) C hE hP hD hS hA (kX3_addNumber l D T a_n a_ns q3 v_ns p0 _ q5 e6) mX3_addNumber qLX7_279 [1, 5] [0, 2, 3, 4] 1 rfl rfl rfl rfl rfl rfl rfl rfl rfl ⟨rfl, rfl⟩ ⟨Nat.le_of_ble_eq_true rfl, Nat.le_of_ble_eq_true rfl⟩ rfl hl.1 rfl (Nat.le_of_ble_eq_true rfl) dX7_tell_17 ⟨Nat.le_of_ble_eq_true rfl, Nat.le_of_ble_eq_true rfl⟩ ?_; clear hP hD hS; intro H locs hP hD hS
    refine lv_aload_n hx hb dX7_tell_20 rfl (lv_at hl 0 rfl) ?_
    refine getF (q0 := 2) (k0 := 8) (v := .ref a_n) C hE hP inA7 rfl rfl (by decide) qFX7_64 rfl rfl dX7_tell_21 ?_
    refine lv_bipush (v := 58) hx hb dX7_tell_24 (by decide) ?_
    refine lv_aload_n hx hb dX7_tell_26 rfl (lv_at hl 0 rfl) ?_
    refine getF (q0 := 2) (k0 := 0) (v := .ref a_g) C hE hP inA7 rfl rfl (by decide) qFX7_10 rfl rfl dX7_tell_27 ?_
    refine lv_iload_n hx hb dX7_tell_30 rfl (lv_at hl 1 rfl) ?_
    refine lv_iconst (v := 0) hx hb dX7_tell_31 (by decide) ?_
    replace h := bnd h; obtain ⟨q7, e8, h⟩ := h
    refine rdV C hE hP (kX1_of l D T a_g a_gw a_gk v_gw p0 0 q7 e8) mX1_of qLX7_148 [0, 3] 0 rfl rfl rfl rfl ⟨rfl, rfl⟩ ⟨Nat.le_of_ble_eq_true rfl, Nat.le_of_ble_eq_true rfl⟩ rfl hl.1 rfl (Nat.le_of_ble_eq_true rfl) dX7_tell_32 ⟨Nat.le_of_ble_eq_true rfl, Nat.le_of_ble_eq_true rfl⟩ ?_
    replace h := bnd h; obtain ⟨q9, e10, h⟩ := h
    refine wrVv (ws1 := [(a_g, .inr (1, [.ref a_gw, .ref a_gk])), (a_n, .inr (3, [.ref a_ns, .int q9.1])), (a_x, .inr (7, [.ref a_g, .ref a_b, .ref a_v, .ref a_h, .ref a_r, .ref a_f, .ref a_u, .ref a_t, .ref a_n, .int x_sav, .int x_err, .int x_rea, .int x_det, .int x_com])), (a_gw, .inl (T 0, 90, .inl v_gw)), (a_gk, .inl (T 0, 18, .inl v_gk)), (a_ns, .inl (T 2, 32, .inl q9.2))]) C hE hP hD hS hA (kX3_addSigned l D T a_n a_ns q5.1 q5.2 58 q7 _ q9 e10) mX3_addSigned qLX7_282 [1, 5] [0, 2, 3, 4] 1 rfl rfl rfl rfl rfl rfl rfl rfl rfl ⟨rfl, rfl⟩ ⟨Nat.le_of_ble_eq_true rfl, Nat.le_of_ble_eq_true rfl⟩ rfl hl.1 rfl (Nat.le_of_ble_eq_true rfl) dX7_tell_35 ⟨Nat.le_of_ble_eq_true rfl, Nat.le_of_ble_eq_true rfl⟩ ?_; clear hP hD hS; intro H locs hP hD hS
    refine lv_aload_n hx hb dX7_tell_38 rfl (lv_at hl 0 rfl) ?_
    refine getF (q0 := 2) (k0 := 8) (v := .ref a_n) C hE hP inA7 rfl rfl (by decide) qFX7_64 rfl rfl dX7_tell_39 ?_
    refine lv_bipush (v := 94) hx hb dX7_tell_42 (by decide) ?_
    refine lv_aload_n hx hb dX7_tell_44 rfl (lv_at hl 0 rfl) ?_
    refine getF (q0 := 2) (k0 := 0) (v := .ref a_g) C hE hP inA7 rfl rfl (by decide) qFX7_10 rfl rfl dX7_tell_45 ?_
    refine lv_iload_n hx hb dX7_tell_48 rfl (lv_at hl 1 rfl) ?_
    refine lv_iconst (v := 1) hx hb dX7_tell_49 (by decide) ?_
    replace h := bnd h; obtain ⟨q11, e12, h⟩ := h
    refine rdV C hE hP (kX1_of l D T a_g a_gw a_gk v_gw p0 1 q11 e12) mX1_of qLX7_148 [0, 3] 0 rfl rfl rfl rfl ⟨rfl, rfl⟩ ⟨Nat.le_of_ble_eq_true rfl, Nat.le_of_ble_eq_true rfl⟩ rfl hl.1 rfl (Nat.le_of_ble_eq_true rfl) dX7_tell_50 ⟨Nat.le_of_ble_eq_true rfl, Nat.le_of_ble_eq_true rfl⟩ ?_
    replace h := bnd h; obtain ⟨q13, e14, h⟩ := h
    refine wrVv (ws1 := [(a_g, .inr (1, [.ref a_gw, .ref a_gk])), (a_n, .inr (3, [.ref a_ns, .int q13.1])), (a_x, .inr (7, [.ref a_g, .ref a_b, .ref a_v, .ref a_h, .ref a_r, .ref a_f, .ref a_u, .ref a_t, .ref a_n, .int x_sav, .int x_err, .int x_rea, .int x_det, .int x_com])), (a_gw, .inl (T 0, 90, .inl v_gw)), (a_gk, .inl (T 0, 18, .inl v_gk)), (a_ns, .inl (T 2, 32, .inl q13.2))]) C hE hP hD hS hA (kX3_addSigned l D T a_n a_ns q9.1 q9.2 94 q11 _ q13 e14) mX3_addSigned qLX7_282 [1, 5] [0, 2, 3, 4] 1 rfl rfl rfl rfl rfl rfl rfl rfl rfl ⟨rfl, rfl⟩ ⟨Nat.le_of_ble_eq_true rfl, Nat.le_of_ble_eq_true rfl⟩ rfl hl.1 rfl (Nat.le_of_ble_eq_true rfl) dX7_tell_53 ⟨Nat.le_of_ble_eq_true rfl, Nat.le_of_ble_eq_true rfl⟩ ?_; clear hP hD hS; intro H locs hP hD hS
    refine lv_aload_n hx hb dX7_tell_56 rfl (lv_at hl 0 rfl) ?_
    refine getF (q0 := 2) (k0 := 8) (v := .ref a_n) C hE hP inA7 rfl rfl (by decide) qFX7_64 rfl rfl dX7_tell_57 ?_
    refine lv_bipush (v := 47) hx hb dX7_tell_60 (by decide) ?_
    refine lv_aload_n hx hb dX7_tell_62 rfl (lv_at hl 0 rfl) ?_
    refine getF (q0 := 2) (k0 := 0) (v := .ref a_g) C hE hP inA7 rfl rfl (by decide) qFX7_10 rfl rfl dX7_tell_63 ?_
    refine lv_iload_n hx hb dX7_tell_66 rfl (lv_at hl 1 rfl) ?_
    refine lv_iconst (v := 2) hx hb dX7_tell_67 (by decide) ?_
    replace h := bnd h; obtain ⟨q15, e16, h⟩ := h
    refine rdV C hE hP (kX1_of l D T a_g a_gw a_gk v_gw p0 2 q15 e16) mX1_of qLX7_148 [0, 3] 0 rfl rfl rfl rfl ⟨rfl, rfl⟩ ⟨Nat.le_of_ble_eq_true rfl, Nat.le_of_ble_eq_true rfl⟩ rfl hl.1 rfl (Nat.le_of_ble_eq_true rfl) dX7_tell_68 ⟨Nat.le_of_ble_eq_true rfl, Nat.le_of_ble_eq_true rfl⟩ ?_
    replace h := bnd h; obtain ⟨q17, e18, h⟩ := h
    refine wrVv (ws1 := [(a_g, .inr (1, [.ref a_gw, .ref a_gk])), (a_n, .inr (3, [.ref a_ns, .int q17.1])), (a_x, .inr (7, [.ref a_g, .ref a_b, .ref a_v, .ref a_h, .ref a_r, .ref a_f, .ref a_u, .ref a_t, .ref a_n, .int x_sav, .int x_err, .int x_rea, .int x_det, .int x_com])), (a_gw, .inl (T 0, 90, .inl v_gw)), (a_gk, .inl (T 0, 18, .inl v_gk)), (a_ns, .inl (T 2, 32, .inl q17.2))]) C hE hP hD hS hA (kX3_addSigned l D T a_n a_ns q13.1 q13.2 47 q15 _ q17 e18) mX3_addSigned qLX7_282 [1, 5] [0, 2, 3, 4] 1 rfl rfl rfl rfl rfl rfl rfl rfl rfl ⟨rfl, rfl⟩ ⟨Nat.le_of_ble_eq_true rfl, Nat.le_of_ble_eq_true rfl⟩ rfl hl.1 rfl (Nat.le_of_ble_eq_true rfl) dX7_tell_71 ⟨Nat.le_of_ble_eq_true rfl, Nat.le_of_ble_eq_true rfl⟩ ?_; clear hP hD hS; intro H locs hP hD hS
    refine lv_aload_n hx hb dX7_tell_74 rfl (lv_at hl 0 rfl) ?_
    refine getF (q0 := 2) (k0 := 8) (v := .ref a_n) C hE hP inA7 rfl rfl (by decide) qFX7_64 rfl rfl dX7_tell_75 ?_
    refine lv_bipush (v := 37) hx hb dX7_tell_78 (by decide) ?_
    refine lv_aload_n hx hb dX7_tell_80 rfl (lv_at hl 0 rfl) ?_
    refine getF (q0 := 2) (k0 := 0) (v := .ref a_g) C hE hP inA7 rfl rfl (by decide) qFX7_10 rfl rfl dX7_tell_81 ?_
    refine lv_iload_n hx hb dX7_tell_84 rfl (lv_at hl 1 rfl) ?_
    refine lv_iconst (v := 3) hx hb dX7_tell_85 (by decide) ?_
    replace h := bnd h; obtain ⟨q19, e20, h⟩ := h
    refine rdV C hE hP (kX1_of l D T a_g a_gw a_gk v_gw p0 3 q19 e20) mX1_of qLX7_148 [0, 3] 0 rfl rfl rfl rfl ⟨rfl, rfl⟩ ⟨Nat.le_of_ble_eq_true rfl, Nat.le_of_ble_eq_true rfl⟩ rfl hl.1 rfl (Nat.le_of_ble_eq_true rfl) dX7_tell_86 ⟨Nat.le_of_ble_eq_true rfl, Nat.le_of_ble_eq_true rfl⟩ ?_
    replace h := bnd h; obtain ⟨q21, e22, h⟩ := h
    refine wrVv (ws1 := [(a_g, .inr (1, [.ref a_gw, .ref a_gk])), (a_n, .inr (3, [.ref a_ns, .int q21.1])), (a_x, .inr (7, [.ref a_g, .ref a_b, .ref a_v, .ref a_h, .ref a_r, .ref a_f, .ref a_u, .ref a_t, .ref a_n, .int x_sav, .int x_err, .int x_rea, .int x_det, .int x_com])), (a_gw, .inl (T 0, 90, .inl v_gw)), (a_gk, .inl (T 0, 18, .inl v_gk)), (a_ns, .inl (T 2, 32, .inl q21.2))]) C hE hP hD hS hA (kX3_addSigned l D T a_n a_ns q17.1 q17.2 37 q19 _ q21 e22) mX3_addSigned qLX7_282 [1, 5] [0, 2, 3, 4] 1 rfl rfl rfl rfl rfl rfl rfl rfl rfl ⟨rfl, rfl⟩ ⟨Nat.le_of_ble_eq_true rfl, Nat.le_of_ble_eq_true rfl⟩ rfl hl.1 rfl (Nat.le_of_ble_eq_true rfl) dX7_tell_89 ⟨Nat.le_of_ble_eq_true rfl, Nat.le_of_ble_eq_true rfl⟩ ?_; clear hP hD hS; intro H locs hP hD hS
    refine lv_aload_n hx hb dX7_tell_92 rfl (lv_at hl 0 rfl) ?_
    refine getF (q0 := 2) (k0 := 0) (v := .ref a_g) C hE hP inA7 rfl rfl (by decide) qFX7_10 rfl rfl dX7_tell_93 ?_
    refine lv_iload_n hx hb dX7_tell_96 rfl (lv_at hl 1 rfl) ?_
    replace h := bnd h; obtain ⟨q23, e24, h⟩ := h
    refine rdV C hE hP (kX1_isPlaying l D T a_g a_gw a_gk v_gw p0 q23 e24) mX1_isPlaying qLX7_200 [0, 3] 0 rfl rfl rfl rfl ⟨rfl, rfl⟩ ⟨Nat.le_of_ble_eq_true rfl, Nat.le_of_ble_eq_true rfl⟩ rfl hl.1 rfl (Nat.le_of_ble_eq_true rfl) dX7_tell_97 ⟨Nat.le_of_ble_eq_true rfl, Nat.le_of_ble_eq_true rfl⟩ ?_
    refine lv_if_eq (tgt := 121) hx hb dX7_tell_100 (by decide) (fun c25 => ?_) (fun c25 => ?_)
    · replace h := ite_t c25 h
      exact lX7_tell_121 C hE hA hZ hret p0 q21.1 q21.2 ⟨hP, hD⟩ hS _ (lv_sub hl [0, 1] rfl) h
    · replace h := ite_f c25 h
      refine lv_aload_n hx hb dX7_tell_103 rfl (lv_at hl 0 rfl) ?_
      refine getF (q0 := 2) (k0 := 8) (v := .ref a_n) C hE hP inA7 rfl rfl (by decide) qFX7_64 rfl rfl dX7_tell_104 ?_
      refine lv_bipush (v := 64) hx hb dX7_tell_107 (by decide) ?_
      refine lv_aload_n hx hb dX7_tell_109 rfl (lv_at hl 0 rfl) ?_
      refine getF (q0 := 2) (k0 := 0) (v := .ref a_g) C hE hP inA7 rfl rfl (by decide) qFX7_10 rfl rfl dX7_tell_110 ?_
      refine lv_iload_n hx hb dX7_tell_113 rfl (lv_at hl 1 rfl) ?_
      refine lv_iconst (v := 4) hx hb dX7_tell_114 (by decide) ?_
      replace h := bnd h; obtain ⟨q26, e27, h⟩ := h
      refine rdV C hE hP (kX1_of l D T a_g a_gw a_gk v_gw p0 4 q26 e27) mX1_of qLX7_148 [0, 3] 0 rfl rfl rfl rfl ⟨rfl, rfl⟩ ⟨Nat.le_of_ble_eq_true rfl, Nat.le_of_ble_eq_true rfl⟩ rfl hl.1 rfl (Nat.le_of_ble_eq_true rfl) dX7_tell_115 ⟨Nat.le_of_ble_eq_true rfl, Nat.le_of_ble_eq_true rfl⟩ ?_
      replace h := bnd h; obtain ⟨q28, e29, h⟩ := h
      refine wrVv (ws1 := [(a_g, .inr (1, [.ref a_gw, .ref a_gk])), (a_n, .inr (3, [.ref a_ns, .int q28.1])), (a_x, .inr (7, [.ref a_g, .ref a_b, .ref a_v, .ref a_h, .ref a_r, .ref a_f, .ref a_u, .ref a_t, .ref a_n, .int x_sav, .int x_err, .int x_rea, .int x_det, .int x_com])), (a_gw, .inl (T 0, 90, .inl v_gw)), (a_gk, .inl (T 0, 18, .inl v_gk)), (a_ns, .inl (T 2, 32, .inl q28.2))]) C hE hP hD hS hA (kX3_addSigned l D T a_n a_ns q21.1 q21.2 64 q26 _ q28 e29) mX3_addSigned qLX7_282 [1, 5] [0, 2, 3, 4] 1 rfl rfl rfl rfl rfl rfl rfl rfl rfl ⟨rfl, rfl⟩ ⟨Nat.le_of_ble_eq_true rfl, Nat.le_of_ble_eq_true rfl⟩ rfl hl.1 rfl (Nat.le_of_ble_eq_true rfl) dX7_tell_118 ⟨Nat.le_of_ble_eq_true rfl, Nat.le_of_ble_eq_true rfl⟩ ?_; clear hP hD hS; intro H locs hP hD hS
      exact lX7_tell_121 C hE hA hZ hret p0 q28.1 q28.2 ⟨hP, hD⟩ hS _ (lv_sub hl [0, 1] rfl) h

def fX7_character_15 (n_len : Int32) (v_ns : Nat → Int32) : Option (Nat × Int32) :=
  some (4, 0)
def fX7_character (n_len : Int32) (v_ns : Nat → Int32) (p0 : Int32) : Option (Nat × Int32) :=
  if p0 < 0 then
    fX7_character_15 n_len v_ns
  else
    if p0 < (fX3_length n_len) then
      (fX3_signAt v_ns p0).bind fun q3 =>
      some (0, q3.toUInt32.toUInt16.toUInt32.toInt32)
    else
      fX7_character_15 n_len v_ns
set_option maxHeartbeats 4000000 in
set_option maxRecDepth 100000 in
theorem lX7_character_15 {p : Program} {l : Launch} {e : Env} {s : State} {m : MethodId} {args : Array Value} {below : List Frame} {meth : Method} {c : Code} {Q : State → Prop} {D : va_G} {T : Nat → ClassId} {a_n a_ns a_x a_g a_b a_v a_h a_r a_f a_u a_t : Nat} {n_len : Int32} {x_sav : Int32} {x_err : Int32} {x_rea : Int32} {x_det : Int32} {x_com : Int32} {v_ns : Nat → Int32} {A : Nat → Prop} {r : Nat × Int32} (C : CallFix p m c cX7_character 2 s args aw RX7) (hE : eK D T s) (hA : ∀ q : Nat, s.heap.size ≤ q → A q) (hZ : eX l A s) (hret : ThRetI p l e ({ frames := 6, cells := 1, slots := 6, locals := 90 } : Room) s m args below meth c Q cX7_character .char D A [(a_n, .inr (3, [.ref a_ns, .int n_len])), (a_x, .inr (7, [.ref a_g, .ref a_b, .ref a_v, .ref a_h, .ref a_r, .ref a_f, .ref a_u, .ref a_t, .ref a_n, .int x_sav, .int x_err, .int x_rea, .int x_det, .int x_com])), (a_ns, .inl (T 2, 32, .inl v_ns))] r.1 r.2 ∧ ThOut p l e ({ frames := 6, cells := 1, slots := 6, locals := 90 } : Room) s m args below meth c Q D A [(a_n, .inr (3, [.ref a_ns, .int n_len])), (a_x, .inr (7, [.ref a_g, .ref a_b, .ref a_v, .ref a_h, .ref a_r, .ref a_f, .ref a_u, .ref a_t, .ref a_n, .int x_sav, .int x_err, .int x_rea, .int x_det, .int x_com])), (a_ns, .inl (T 2, 32, .inl v_ns))] r.1 ∧ ThThr p l e ({ frames := 6, cells := 1, slots := 6, locals := 90 } : Room) s m args below meth c Q cX7_character RX7 D A [(a_n, .inr (3, [.ref a_ns, .int n_len])), (a_x, .inr (7, [.ref a_g, .ref a_b, .ref a_v, .ref a_h, .ref a_r, .ref a_f, .ref a_u, .ref a_t, .ref a_n, .int x_sav, .int x_err, .int x_rea, .int x_det, .int x_com])), (a_ns, .inl (T 2, 32, .inl v_ns))] r.1) {H : Heap} {locs : List Loc} (hPD : va_PD D A [(a_n, .inr (3, [.ref a_ns, .int n_len])), (a_x, .inr (7, [.ref a_g, .ref a_b, .ref a_v, .ref a_h, .ref a_r, .ref a_f, .ref a_u, .ref a_t, .ref a_n, .int x_sav, .int x_err, .int x_rea, .int x_det, .int x_com])), (a_ns, .inl (T 2, 32, .inl v_ns))] H) (hS : va_S A s.heap H locs) (ls : Array Slot) (hl : lv_has ls 2 []) (h : fX7_character_15 n_len v_ns = some r) : W p l e ({ frames := 6, cells := 1, slots := 6, locals := 90 } : Room) s m args below meth c H locs 0 0 Q (F0 m 15 ls []) := by
  have hx := C.1
  have hb := C.2.1
  obtain ⟨hP, hD⟩ := hPD
  unfold fX7_character_15 at h
  replace h := Option.some.inj h
  exact hret.2.2 _ _ _ _ _ _ _ 173 177 290 _ "no such character" (by rw [← h]; exact thrX7_173_177_4) (by decide +kernel) dX7_character_15 dX7_character_18 (Or.inr ⟨dX7_character_19, dX7_character_22, dX7_character_25⟩) (Nat.le_of_ble_eq_true rfl) (Nat.le_of_ble_eq_true rfl) (Nat.le_of_ble_eq_true rfl) (Nat.le_of_ble_eq_true rfl) (hl.1.trans C.2.2.1.symm) (by rw [← h]; exact (Nat.le_of_ble_eq_true rfl)) hP hS
set_option maxHeartbeats 4000000 in
set_option maxRecDepth 100000 in
theorem kX7_character (l : Launch) (hnt : l.stackTraces = false) (D : va_G) (T : Nat → ClassId) (a_n a_ns a_x a_g a_b a_v a_h a_r a_f a_u a_t : Nat) (n_len : Int32) (x_sav : Int32) (x_err : Int32) (x_rea : Int32) (x_det : Int32) (x_com : Int32) (v_ns : Nat → Int32) (p0 : Int32) (sz : Nat) (r : Nat × Int32) (h : fX7_character n_len v_ns p0 = some r) : ThI l yX7_character cX7_character 2 .char ({ frames := 6, cells := 1, slots := 6, locals := 90 } : Room) D T sz [(a_n, .inr (3, [.ref a_ns, .int n_len])), (a_x, .inr (7, [.ref a_g, .ref a_b, .ref a_v, .ref a_h, .ref a_r, .ref a_f, .ref a_u, .ref a_t, .ref a_n, .int x_sav, .int x_err, .int x_rea, .int x_det, .int x_com])), (a_ns, .inl (T 2, 32, .inl v_ns))] [(a_n, .inr (3, [.ref a_ns, .int n_len])), (a_x, .inr (7, [.ref a_g, .ref a_b, .ref a_v, .ref a_h, .ref a_r, .ref a_f, .ref a_u, .ref a_t, .ref a_n, .int x_sav, .int x_err, .int x_rea, .int x_det, .int x_com])), (a_ns, .inl (T 2, 32, .inl v_ns))] [.ref a_x, .int p0] r.1 r.2 := by
  unfold fX7_character at h
  refine thMetI hnt (by decide +kernel) rfl (fun p e s m args below meth c Q A C hE hA hZ hP hD hS hret ls hl => ?_)
  have hx := C.1
  have hb := C.2.1
  have hl : lv_has ls 2 [(0, .ref a_x), (1, .int p0)] := hl
  refine lv_iload_n hx hb dX7_character_0 rfl (lv_at hl 1 rfl) ?_
  refine lv_if_lt (tgt := 15) hx hb dX7_character_1 (by decide) (fun c1 => ?_) (fun c1 => ?_)
  · replace h := ite_t c1 h
    exact lX7_character_15 C hE hA hZ hret ⟨hP, hD⟩ hS _ (lv_sub hl [] rfl) h
  · replace h := ite_f c1 h
    refine lv_iload_n hx hb dX7_character_4 rfl (lv_at hl 1 rfl) ?_
    refine lv_aload_n hx hb dX7_character_5 rfl (lv_at hl 0 rfl) ?_
    refine getF (q0 := 1) (k0 := 8) (v := .ref a_n) C hE hP inA7 rfl rfl (by decide) qFX7_64 rfl rfl dX7_character_6 ?_
    refine rdV C hE hP (kX3_length l D T a_n a_ns n_len) mX3_length qLX7_276 [0] 0 rfl rfl rfl rfl ⟨rfl, rfl⟩ ⟨Nat.le_of_ble_eq_true rfl, Nat.le_of_ble_eq_true rfl⟩ rfl hl.1 rfl (Nat.le_of_ble_eq_true rfl) dX7_character_9 ⟨Nat.le_of_ble_eq_true rfl, Nat.le_of_ble_eq_true rfl⟩ ?_
    refine lv_icmp_lt (tgt := 26) hx hb dX7_character_12 (by decide) (fun c2 => ?_) (fun c2 => ?_)
    · replace h := ite_t c2 h
      refine lv_aload_n hx hb dX7_character_26 rfl (lv_at hl 0 rfl) ?_
      refine getF (q0 := 1) (k0 := 8) (v := .ref a_n) C hE hP inA7 rfl rfl (by decide) qFX7_64 rfl rfl dX7_character_27 ?_
      refine lv_iload_n hx hb dX7_character_30 rfl (lv_at hl 1 rfl) ?_
      replace h := bnd h; obtain ⟨q3, e4, h⟩ := h
      refine rdV C hE hP (kX3_signAt l D T a_n a_ns n_len v_ns p0 q3 e4) mX3_signAt qLX7_292 [0, 2] 0 rfl rfl rfl rfl ⟨rfl, rfl⟩ ⟨Nat.le_of_ble_eq_true rfl, Nat.le_of_ble_eq_true rfl⟩ rfl hl.1 rfl (Nat.le_of_ble_eq_true rfl) dX7_character_31 ⟨Nat.le_of_ble_eq_true rfl, Nat.le_of_ble_eq_true rfl⟩ ?_
      replace h := Option.some.inj h
      exact hret.1 _ _ _ _ _ _ _ _ (Nat.le_of_ble_eq_true rfl) (Nat.le_of_ble_eq_true rfl) dX7_character_34 rfl (by rw [← h]) (by rw [← h] <;> rfl) hP hS
    · replace h := ite_f c2 h
      exact lX7_character_15 C hE hA hZ hret ⟨hP, hD⟩ hS _ (lv_sub hl [] rfl) h

def fX7_account_10 (t_len : Int32) (h_siz : Int32) (v_gw : Nat → Int32) (v_gk : Nat → Int32) : Option (Nat × Int32) :=
  some (1, 0)
def fX7_account (t_len : Int32) (h_siz : Int32) (v_gw : Nat → Int32) (v_gk : Nat → Int32) (p0 : Int32) : Option (Nat × Int32) :=
  if p0 < 0 then
    fX7_account_10 t_len h_siz v_gw v_gk
  else
    if p0 < 14 then
      if p0 = 2 then
        (fX1_count v_gk 1).bind fun q4 =>
        some (0, (q4 / 12))
      else
        if p0 = 10 then
          (fX1_countPlaying v_gw v_gk 0).bind fun q7 =>
          (fX1_countPlaying v_gw v_gk 1).bind fun q9 =>
          some (0, (q7 + q9))
        else
          if p0 = 12 then
            some (0, (fX5_length t_len))
          else
            if p0 = 13 then
              some (0, (fX2_size h_siz))
            else
              (fX1_count v_gk p0).bind fun q13 =>
              some (0, q13)
    else
      fX7_account_10 t_len h_siz v_gw v_gk
set_option maxHeartbeats 4000000 in
set_option maxRecDepth 100000 in
theorem lX7_account_10 {p : Program} {l : Launch} {e : Env} {s : State} {m : MethodId} {args : Array Value} {below : List Frame} {meth : Method} {c : Code} {Q : State → Prop} {D : va_G} {T : Nat → ClassId} {a_g a_gw a_gk a_t a_ti a_tn a_h a_hp a_x a_b a_v a_r a_f a_u a_n : Nat} {t_len : Int32} {t_cur : Int32} {t_kin : Int32} {t_tol : Int32} {t_don : Int32} {h_old : Int32} {h_siz : Int32} {x_sav : Int32} {x_err : Int32} {x_rea : Int32} {x_det : Int32} {x_com : Int32} {v_gw : Nat → Int32} {v_gk : Nat → Int32} {A : Nat → Prop} {r : Nat × Int32} (C : CallFix p m c cX7_account 2 s args aw RX7) (hE : eK D T s) (hA : ∀ q : Nat, s.heap.size ≤ q → A q) (hZ : eX l A s) (hret : ThRetI p l e ({ frames := 6, cells := 1, slots := 6, locals := 90 } : Room) s m args below meth c Q cX7_account .int D A [(a_g, .inr (1, [.ref a_gw, .ref a_gk])), (a_t, .inr (5, [.ref a_ti, .ref a_tn, .int t_len, .int t_cur, .int t_kin, .int t_tol, .int t_don])), (a_h, .inr (2, [.ref a_hp, .int h_old, .int h_siz])), (a_x, .inr (7, [.ref a_g, .ref a_b, .ref a_v, .ref a_h, .ref a_r, .ref a_f, .ref a_u, .ref a_t, .ref a_n, .int x_sav, .int x_err, .int x_rea, .int x_det, .int x_com])), (a_gw, .inl (T 0, 90, .inl v_gw)), (a_gk, .inl (T 0, 18, .inl v_gk))] r.1 r.2 ∧ ThOut p l e ({ frames := 6, cells := 1, slots := 6, locals := 90 } : Room) s m args below meth c Q D A [(a_g, .inr (1, [.ref a_gw, .ref a_gk])), (a_t, .inr (5, [.ref a_ti, .ref a_tn, .int t_len, .int t_cur, .int t_kin, .int t_tol, .int t_don])), (a_h, .inr (2, [.ref a_hp, .int h_old, .int h_siz])), (a_x, .inr (7, [.ref a_g, .ref a_b, .ref a_v, .ref a_h, .ref a_r, .ref a_f, .ref a_u, .ref a_t, .ref a_n, .int x_sav, .int x_err, .int x_rea, .int x_det, .int x_com])), (a_gw, .inl (T 0, 90, .inl v_gw)), (a_gk, .inl (T 0, 18, .inl v_gk))] r.1 ∧ ThThr p l e ({ frames := 6, cells := 1, slots := 6, locals := 90 } : Room) s m args below meth c Q cX7_account RX7 D A [(a_g, .inr (1, [.ref a_gw, .ref a_gk])), (a_t, .inr (5, [.ref a_ti, .ref a_tn, .int t_len, .int t_cur, .int t_kin, .int t_tol, .int t_don])), (a_h, .inr (2, [.ref a_hp, .int h_old, .int h_siz])), (a_x, .inr (7, [.ref a_g, .ref a_b, .ref a_v, .ref a_h, .ref a_r, .ref a_f, .ref a_u, .ref a_t, .ref a_n, .int x_sav, .int x_err, .int x_rea, .int x_det, .int x_com])), (a_gw, .inl (T 0, 90, .inl v_gw)), (a_gk, .inl (T 0, 18, .inl v_gk))] r.1) {H : Heap} {locs : List Loc} (hPD : va_PD D A [(a_g, .inr (1, [.ref a_gw, .ref a_gk])), (a_t, .inr (5, [.ref a_ti, .ref a_tn, .int t_len, .int t_cur, .int t_kin, .int t_tol, .int t_don])), (a_h, .inr (2, [.ref a_hp, .int h_old, .int h_siz])), (a_x, .inr (7, [.ref a_g, .ref a_b, .ref a_v, .ref a_h, .ref a_r, .ref a_f, .ref a_u, .ref a_t, .ref a_n, .int x_sav, .int x_err, .int x_rea, .int x_det, .int x_com])), (a_gw, .inl (T 0, 90, .inl v_gw)), (a_gk, .inl (T 0, 18, .inl v_gk))] H) (hS : va_S A s.heap H locs) (ls : Array Slot) (hl : lv_has ls 2 []) (h : fX7_account_10 t_len h_siz v_gw v_gk = some r) : W p l e ({ frames := 6, cells := 1, slots := 6, locals := 90 } : Room) s m args below meth c H locs 0 0 Q (F0 m 10 ls []) := by
  have hx := C.1
  have hb := C.2.1
  obtain ⟨hP, hD⟩ := hPD
  unfold fX7_account_10 at h
  replace h := Option.some.inj h
  exact hret.2.2 _ _ _ _ _ _ _ 141 145 303 _ "no such account" (by rw [← h]; exact thrX7_141_145_1) (by decide +kernel) dX7_account_10 dX7_account_13 (Or.inr ⟨dX7_account_14, dX7_account_17, dX7_account_20⟩) (Nat.le_of_ble_eq_true rfl) (Nat.le_of_ble_eq_true rfl) (Nat.le_of_ble_eq_true rfl) (Nat.le_of_ble_eq_true rfl) (hl.1.trans C.2.2.1.symm) (by rw [← h]; exact (Nat.le_of_ble_eq_true rfl)) hP hS
set_option maxHeartbeats 4000000 in
set_option maxRecDepth 100000 in
theorem kX7_account (l : Launch) (hnt : l.stackTraces = false) (D : va_G) (T : Nat → ClassId) (a_g a_gw a_gk a_t a_ti a_tn a_h a_hp a_x a_b a_v a_r a_f a_u a_n : Nat) (t_len : Int32) (t_cur : Int32) (t_kin : Int32) (t_tol : Int32) (t_don : Int32) (h_old : Int32) (h_siz : Int32) (x_sav : Int32) (x_err : Int32) (x_rea : Int32) (x_det : Int32) (x_com : Int32) (v_gw : Nat → Int32) (v_gk : Nat → Int32) (p0 : Int32) (sz : Nat) (r : Nat × Int32) (h : fX7_account t_len h_siz v_gw v_gk p0 = some r) : ThI l yX7_account cX7_account 2 .int ({ frames := 6, cells := 1, slots := 6, locals := 90 } : Room) D T sz [(a_g, .inr (1, [.ref a_gw, .ref a_gk])), (a_t, .inr (5, [.ref a_ti, .ref a_tn, .int t_len, .int t_cur, .int t_kin, .int t_tol, .int t_don])), (a_h, .inr (2, [.ref a_hp, .int h_old, .int h_siz])), (a_x, .inr (7, [.ref a_g, .ref a_b, .ref a_v, .ref a_h, .ref a_r, .ref a_f, .ref a_u, .ref a_t, .ref a_n, .int x_sav, .int x_err, .int x_rea, .int x_det, .int x_com])), (a_gw, .inl (T 0, 90, .inl v_gw)), (a_gk, .inl (T 0, 18, .inl v_gk))] [(a_g, .inr (1, [.ref a_gw, .ref a_gk])), (a_t, .inr (5, [.ref a_ti, .ref a_tn, .int t_len, .int t_cur, .int t_kin, .int t_tol, .int t_don])), (a_h, .inr (2, [.ref a_hp, .int h_old, .int h_siz])), (a_x, .inr (7, [.ref a_g, .ref a_b, .ref a_v, .ref a_h, .ref a_r, .ref a_f, .ref a_u, .ref a_t, .ref a_n, .int x_sav, .int x_err, .int x_rea, .int x_det, .int x_com])), (a_gw, .inl (T 0, 90, .inl v_gw)), (a_gk, .inl (T 0, 18, .inl v_gk))] [.ref a_x, .int p0] r.1 r.2 := by
  unfold fX7_account at h
  refine thMetI hnt (by decide +kernel) rfl (fun p e s m args below meth c Q A C hE hA hZ hP hD hS hret ls hl => ?_)
  have hx := C.1
  have hb := C.2.1
  have hl : lv_has ls 2 [(0, .ref a_x), (1, .int p0)] := hl
  refine lv_iload_n hx hb dX7_account_0 rfl (lv_at hl 1 rfl) ?_
  refine lv_if_lt (tgt := 10) hx hb dX7_account_1 (by decide) (fun c1 => ?_) (fun c1 => ?_)
  · replace h := ite_t c1 h
    exact lX7_account_10 C hE hA hZ hret ⟨hP, hD⟩ hS _ (lv_sub hl [] rfl) h
  · replace h := ite_f c1 h
    refine lv_iload_n hx hb dX7_account_4 rfl (lv_at hl 1 rfl) ?_
    refine lv_bipush (v := 14) hx hb dX7_account_5 (by decide) ?_
    refine lv_icmp_lt (tgt := 21) hx hb dX7_account_7 (by decide) (fun c2 => ?_) (fun c2 => ?_)
    · replace h := ite_t c2 h
      refine lv_iload_n hx hb dX7_account_21 rfl (lv_at hl 1 rfl) ?_
      by_cases c3 : p0 = 2
      · replace h := ite_t c3 h
        refine lv_lookup (off := 42) (tgt := 64) hx hb dX7_account_22 (by decide) (by rw [c3] <;> rfl) (by decide) ?_
        refine lv_aload_n hx hb dX7_account_64 rfl (lv_at hl 0 rfl) ?_
        refine getF (q0 := 3) (k0 := 0) (v := .ref a_g) C hE hP inA7 rfl rfl (by decide) qFX7_10 rfl rfl dX7_account_65 ?_
        refine lv_iconst (v := 1) hx hb dX7_account_68 (by decide) ?_
        replace h := bnd h; obtain ⟨q4, e5, h⟩ := h
        refine rdV C hE hP (kX1_count l D T a_g a_gw a_gk v_gk 1 q4 e5) mX1_count qLX7_235 [0, 5] 0 rfl rfl rfl rfl ⟨rfl, rfl⟩ ⟨Nat.le_of_ble_eq_true rfl, Nat.le_of_ble_eq_true rfl⟩ rfl hl.1 rfl (Nat.le_of_ble_eq_true rfl) dX7_account_69 ⟨Nat.le_of_ble_eq_true rfl, Nat.le_of_ble_eq_true rfl⟩ ?_
        refine lv_bipush (v := 12) hx hb dX7_account_72 (by decide) ?_
        refine lv_idiv hx hb dX7_account_74 (by decide) ?_
        replace h := Option.some.inj h
        exact hret.1 _ _ _ _ _ _ _ _ (Nat.le_of_ble_eq_true rfl) (Nat.le_of_ble_eq_true rfl) dX7_account_75 rfl (by rw [← h]) (by rw [← h] <;> rfl) hP hS
      · replace h := ite_f c3 h
        by_cases c6 : p0 = 10
        · replace h := ite_t c6 h
          refine lv_lookup (off := 54) (tgt := 76) hx hb dX7_account_22 (by decide) (by rw [c6] <;> rfl) (by decide) ?_
          refine lv_aload_n hx hb dX7_account_76 rfl (lv_at hl 0 rfl) ?_
          refine getF (q0 := 3) (k0 := 0) (v := .ref a_g) C hE hP inA7 rfl rfl (by decide) qFX7_10 rfl rfl dX7_account_77 ?_
          refine lv_iconst (v := 0) hx hb dX7_account_80 (by decide) ?_
          replace h := bnd h; obtain ⟨q7, e8, h⟩ := h
          refine rdV C hE hP (kX1_countPlaying l D T a_g a_gw a_gk v_gw v_gk 0 q7 e8) mX1_countPlaying qLX7_305 [0, 4, 5] 0 rfl rfl rfl rfl ⟨rfl, rfl⟩ ⟨Nat.le_of_ble_eq_true rfl, Nat.le_of_ble_eq_true rfl⟩ rfl hl.1 rfl (Nat.le_of_ble_eq_true rfl) dX7_account_81 ⟨Nat.le_of_ble_eq_true rfl, Nat.le_of_ble_eq_true rfl⟩ ?_
          refine lv_aload_n hx hb dX7_account_84 rfl (lv_at hl 0 rfl) ?_
          refine getF (q0 := 3) (k0 := 0) (v := .ref a_g) C hE hP inA7 rfl rfl (by decide) qFX7_10 rfl rfl dX7_account_85 ?_
          refine lv_iconst (v := 1) hx hb dX7_account_88 (by decide) ?_
          replace h := bnd h; obtain ⟨q9, e10, h⟩ := h
          refine rdV C hE hP (kX1_countPlaying l D T a_g a_gw a_gk v_gw v_gk 1 q9 e10) mX1_countPlaying qLX7_305 [0, 4, 5] 0 rfl rfl rfl rfl ⟨rfl, rfl⟩ ⟨Nat.le_of_ble_eq_true rfl, Nat.le_of_ble_eq_true rfl⟩ rfl hl.1 rfl (Nat.le_of_ble_eq_true rfl) dX7_account_89 ⟨Nat.le_of_ble_eq_true rfl, Nat.le_of_ble_eq_true rfl⟩ ?_
          refine lv_iadd hx hb dX7_account_92 ?_
          replace h := Option.some.inj h
          exact hret.1 _ _ _ _ _ _ _ _ (Nat.le_of_ble_eq_true rfl) (Nat.le_of_ble_eq_true rfl) dX7_account_93 rfl (by rw [← h]) (by rw [← h] <;> rfl) hP hS
        · replace h := ite_f c6 h
          by_cases c11 : p0 = 12
          · replace h := ite_t c11 h
            refine lv_lookup (off := 72) (tgt := 94) hx hb dX7_account_22 (by decide) (by rw [c11] <;> rfl) (by decide) ?_
            refine lv_aload_n hx hb dX7_account_94 rfl (lv_at hl 0 rfl) ?_
            refine getF (q0 := 3) (k0 := 7) (v := .ref a_t) C hE hP inA7 rfl rfl (by decide) qFX7_57 rfl rfl dX7_account_95 ?_
            refine rdV C hE hP (kX5_length l D T a_t a_ti a_tn t_len t_cur t_kin t_tol t_don) mX5_length qLX7_308 [1] 1 rfl rfl rfl rfl ⟨rfl, rfl⟩ ⟨Nat.le_of_ble_eq_true rfl, Nat.le_of_ble_eq_true rfl⟩ rfl hl.1 rfl (Nat.le_of_ble_eq_true rfl) dX7_account_98 ⟨Nat.le_of_ble_eq_true rfl, Nat.le_of_ble_eq_true rfl⟩ ?_
            replace h := Option.some.inj h
            exact hret.1 _ _ _ _ _ _ _ _ (Nat.le_of_ble_eq_true rfl) (Nat.le_of_ble_eq_true rfl) dX7_account_101 rfl (by rw [← h]) (by rw [← h] <;> rfl) hP hS
          · replace h := ite_f c11 h
            by_cases c12 : p0 = 13
            · replace h := ite_t c12 h
              refine lv_lookup (off := 80) (tgt := 102) hx hb dX7_account_22 (by decide) (by rw [c12] <;> rfl) (by decide) ?_
              refine lv_aload_n hx hb dX7_account_102 rfl (lv_at hl 0 rfl) ?_
              refine getF (q0 := 3) (k0 := 3) (v := .ref a_h) C hE hP inA7 rfl rfl (by decide) qFX7_25 rfl rfl dX7_account_103 ?_
              refine rdV C hE hP (kX2_size l D T a_h a_hp h_old h_siz) mX2_size qLX7_309 [2] 2 rfl rfl rfl rfl ⟨rfl, rfl⟩ ⟨Nat.le_of_ble_eq_true rfl, Nat.le_of_ble_eq_true rfl⟩ rfl hl.1 rfl (Nat.le_of_ble_eq_true rfl) dX7_account_106 ⟨Nat.le_of_ble_eq_true rfl, Nat.le_of_ble_eq_true rfl⟩ ?_
              replace h := Option.some.inj h
              exact hret.1 _ _ _ _ _ _ _ _ (Nat.le_of_ble_eq_true rfl) (Nat.le_of_ble_eq_true rfl) dX7_account_109 rfl (by rw [← h]) (by rw [← h] <;> rfl) hP hS
            · replace h := ite_f c12 h
              refine lv_lookup (off := 88) (tgt := 110) hx hb dX7_account_22 (by decide) (by show Op.lookupswitch.offset [(2, 42), (10, 54), (12, 72), (13, 80)] 88 _ = _; rw [lv_osw (a := 2) c3 rfl, lv_osw (a := 10) c6 rfl, lv_osw (a := 12) c11 rfl, lv_osw (a := 13) c12 rfl] <;> rfl) (by decide) ?_
              refine lv_aload_n hx hb dX7_account_110 rfl (lv_at hl 0 rfl) ?_
              refine getF (q0 := 3) (k0 := 0) (v := .ref a_g) C hE hP inA7 rfl rfl (by decide) qFX7_10 rfl rfl dX7_account_111 ?_
              refine lv_iload_n hx hb dX7_account_114 rfl (lv_at hl 1 rfl) ?_
              replace h := bnd h; obtain ⟨q13, e14, h⟩ := h
              refine rdV C hE hP (kX1_count l D T a_g a_gw a_gk v_gk p0 q13 e14) mX1_count qLX7_235 [0, 5] 0 rfl rfl rfl rfl ⟨rfl, rfl⟩ ⟨Nat.le_of_ble_eq_true rfl, Nat.le_of_ble_eq_true rfl⟩ rfl hl.1 rfl (Nat.le_of_ble_eq_true rfl) dX7_account_115 ⟨Nat.le_of_ble_eq_true rfl, Nat.le_of_ble_eq_true rfl⟩ ?_
              replace h := Option.some.inj h
              exact hret.1 _ _ _ _ _ _ _ _ (Nat.le_of_ble_eq_true rfl) (Nat.le_of_ble_eq_true rfl) dX7_account_118 rfl (by rw [← h]) (by rw [← h] <;> rfl) hP hS
    · replace h := ite_f c2 h
      exact lX7_account_10 C hE hA hZ hret ⟨hP, hD⟩ hS _ (lv_sub hl [] rfl) h

def fX7_append_12 (t_len : Int32) (v_ti : Nat → Int32) : Option (Nat × Int32 × Int32 × (Nat → Int32)) :=
  some (1, 0, t_len, v_ti)
def fX7_append (t_len : Int32) (v_ti : Nat → Int32) (p0 : Int32) : Option (Nat × Int32 × Int32 × (Nat → Int32)) :=
  if p0 < 32 then
    fX7_append_12 t_len v_ti
  else
    if p0 ≤ 126 then
      if (fX5_length t_len) < 60 then
        (fX5_add t_len v_ti p0).bind fun q4 =>
        some (0, q4.1, q4.2.1, q4.2.2)
      else
        some (6, 0, t_len, v_ti)
    else
      fX7_append_12 t_len v_ti
set_option maxHeartbeats 4000000 in
set_option maxRecDepth 100000 in
theorem lX7_append_12 {p : Program} {l : Launch} {e : Env} {s : State} {m : MethodId} {args : Array Value} {below : List Frame} {meth : Method} {c : Code} {Q : State → Prop} {D : va_G} {T : Nat → ClassId} {a_t a_ti a_tn a_x a_g a_b a_v a_h a_r a_f a_u a_n : Nat} {t_cur : Int32} {t_kin : Int32} {t_tol : Int32} {t_don : Int32} {x_sav : Int32} {x_err : Int32} {x_rea : Int32} {x_det : Int32} {x_com : Int32} {A : Nat → Prop} {r : Nat × Int32 × Int32 × (Nat → Int32)} (C : CallFix p m c cX7_append 2 s args aw RX7) (hE : eK D T s) (hA : ∀ q : Nat, s.heap.size ≤ q → A q) (hZ : eX l A s) (hret : ThRetI p l e ({ frames := 6, cells := 1, slots := 6, locals := 90 } : Room) s m args below meth c Q cX7_append .int D A [(a_t, .inr (5, [.ref a_ti, .ref a_tn, .int r.2.2.1, .int t_cur, .int t_kin, .int t_tol, .int t_don])), (a_x, .inr (7, [.ref a_g, .ref a_b, .ref a_v, .ref a_h, .ref a_r, .ref a_f, .ref a_u, .ref a_t, .ref a_n, .int x_sav, .int x_err, .int x_rea, .int x_det, .int x_com])), (a_ti, .inl (T 2, 60, .inl r.2.2.2))] r.1 r.2.1 ∧ ThOut p l e ({ frames := 6, cells := 1, slots := 6, locals := 90 } : Room) s m args below meth c Q D A [(a_t, .inr (5, [.ref a_ti, .ref a_tn, .int r.2.2.1, .int t_cur, .int t_kin, .int t_tol, .int t_don])), (a_x, .inr (7, [.ref a_g, .ref a_b, .ref a_v, .ref a_h, .ref a_r, .ref a_f, .ref a_u, .ref a_t, .ref a_n, .int x_sav, .int x_err, .int x_rea, .int x_det, .int x_com])), (a_ti, .inl (T 2, 60, .inl r.2.2.2))] r.1 ∧ ThThr p l e ({ frames := 6, cells := 1, slots := 6, locals := 90 } : Room) s m args below meth c Q cX7_append RX7 D A [(a_t, .inr (5, [.ref a_ti, .ref a_tn, .int r.2.2.1, .int t_cur, .int t_kin, .int t_tol, .int t_don])), (a_x, .inr (7, [.ref a_g, .ref a_b, .ref a_v, .ref a_h, .ref a_r, .ref a_f, .ref a_u, .ref a_t, .ref a_n, .int x_sav, .int x_err, .int x_rea, .int x_det, .int x_com])), (a_ti, .inl (T 2, 60, .inl r.2.2.2))] r.1) (t_len : Int32) (v_ti : Nat → Int32) {H : Heap} {locs : List Loc} (hPD : va_PD D A [(a_t, .inr (5, [.ref a_ti, .ref a_tn, .int t_len, .int t_cur, .int t_kin, .int t_tol, .int t_don])), (a_x, .inr (7, [.ref a_g, .ref a_b, .ref a_v, .ref a_h, .ref a_r, .ref a_f, .ref a_u, .ref a_t, .ref a_n, .int x_sav, .int x_err, .int x_rea, .int x_det, .int x_com])), (a_ti, .inl (T 2, 60, .inl v_ti))] H) (hS : va_S A s.heap H locs) (ls : Array Slot) (hl : lv_has ls 2 []) (h : fX7_append_12 t_len v_ti = some r) : W p l e ({ frames := 6, cells := 1, slots := 6, locals := 90 } : Room) s m args below meth c H locs 0 0 Q (F0 m 12 ls []) := by
  have hx := C.1
  have hb := C.2.1
  obtain ⟨hP, hD⟩ := hPD
  unfold fX7_append_12 at h
  replace h := Option.some.inj h
  exact hret.2.2 _ _ _ _ _ _ _ 141 145 312 _ "no character for the input" (by rw [← h]; exact thrX7_141_145_1) (by decide +kernel) dX7_append_12 dX7_append_15 (Or.inr ⟨dX7_append_16, dX7_append_19, dX7_append_22⟩) (Nat.le_of_ble_eq_true rfl) (Nat.le_of_ble_eq_true rfl) (Nat.le_of_ble_eq_true rfl) (Nat.le_of_ble_eq_true rfl) (hl.1.trans C.2.2.1.symm) (by rw [← h]; exact (Nat.le_of_ble_eq_true rfl)) (by rw [← h]; exact hP) hS
set_option maxHeartbeats 4000000 in
set_option maxRecDepth 100000 in
theorem kX7_append (l : Launch) (hnt : l.stackTraces = false) (D : va_G) (T : Nat → ClassId) (a_t a_ti a_tn a_x a_g a_b a_v a_h a_r a_f a_u a_n : Nat) (t_len : Int32) (t_cur : Int32) (t_kin : Int32) (t_tol : Int32) (t_don : Int32) (x_sav : Int32) (x_err : Int32) (x_rea : Int32) (x_det : Int32) (x_com : Int32) (v_ti : Nat → Int32) (p0 : Int32) (sz : Nat) (r : Nat × Int32 × Int32 × (Nat → Int32)) (h : fX7_append t_len v_ti p0 = some r) : ThI l yX7_append cX7_append 2 .int ({ frames := 6, cells := 1, slots := 6, locals := 90 } : Room) D T sz [(a_t, .inr (5, [.ref a_ti, .ref a_tn, .int t_len, .int t_cur, .int t_kin, .int t_tol, .int t_don])), (a_x, .inr (7, [.ref a_g, .ref a_b, .ref a_v, .ref a_h, .ref a_r, .ref a_f, .ref a_u, .ref a_t, .ref a_n, .int x_sav, .int x_err, .int x_rea, .int x_det, .int x_com])), (a_ti, .inl (T 2, 60, .inl v_ti))] [(a_t, .inr (5, [.ref a_ti, .ref a_tn, .int r.2.2.1, .int t_cur, .int t_kin, .int t_tol, .int t_don])), (a_x, .inr (7, [.ref a_g, .ref a_b, .ref a_v, .ref a_h, .ref a_r, .ref a_f, .ref a_u, .ref a_t, .ref a_n, .int x_sav, .int x_err, .int x_rea, .int x_det, .int x_com])), (a_ti, .inl (T 2, 60, .inl r.2.2.2))] [.ref a_x, .int p0] r.1 r.2.1 := by
  unfold fX7_append at h
  refine thMetI hnt (by decide +kernel) rfl (fun p e s m args below meth c Q A C hE hA hZ hP hD hS hret ls hl => ?_)
  have hx := C.1
  have hb := C.2.1
  have hl : lv_has ls 2 [(0, .ref a_x), (1, .int p0)] := hl
  refine lv_iload_n hx hb dX7_append_0 rfl (lv_at hl 1 rfl) ?_
  refine lv_bipush (v := 32) hx hb dX7_append_1 (by decide) ?_
  refine lv_icmp_lt (tgt := 12) hx hb dX7_append_3 (by decide) (fun c1 => ?_) (fun c1 => ?_)
  · replace h := ite_t c1 h
    exact lX7_append_12 C hE hA hZ hret t_len v_ti ⟨hP, hD⟩ hS _ (lv_sub hl [] rfl) h
  · replace h := ite_f c1 h
    refine lv_iload_n hx hb dX7_append_6 rfl (lv_at hl 1 rfl) ?_
    refine lv_bipush (v := 126) hx hb dX7_append_7 (by decide) ?_
    refine lv_icmp_le (tgt := 23) hx hb dX7_append_9 (by decide) (fun c2 => ?_) (fun c2 => ?_)
    · replace h := ite_t c2 h
      refine lv_aload_n hx hb dX7_append_23 rfl (lv_at hl 0 rfl) ?_
      refine getF (q0 := 1) (k0 := 7) (v := .ref a_t) C hE hP inA7 rfl rfl (by decide) qFX7_57 rfl rfl dX7_append_24 ?_
      refine rdV C hE hP (kX5_length l D T a_t a_ti a_tn t_len t_cur t_kin t_tol t_don) mX5_length qLX7_308 [0] 0 rfl rfl rfl rfl ⟨rfl, rfl⟩ ⟨Nat.le_of_ble_eq_true rfl, Nat.le_of_ble_eq_true rfl⟩ rfl hl.1 rfl (Nat.le_of_ble_eq_true rfl) dX7_append_27 ⟨Nat.le_of_ble_eq_true rfl, Nat.le_of_ble_eq_true rfl⟩ ?_
      refine lv_bipush (v := 60) hx hb dX7_append_30 (by decide) ?_
      refine lv_icmp_lt (tgt := 46) hx hb dX7_append_32 (by decide) (fun c3 => ?_) (fun c3 => ?_)
      · replace h := ite_t c3 h
        refine lv_aload_n hx hb dX7_append_46 rfl (lv_at hl 0 rfl) ?_
        refine getF (q0 := 1) (k0 := 7) (v := .ref a_t) C hE hP inA7 rfl rfl (by decide) qFX7_57 rfl rfl dX7_append_47 ?_
        refine lv_iload_n hx hb dX7_append_50 rfl (lv_at hl 1 rfl) ?_
        replace h := bnd h; obtain ⟨q4, e5, h⟩ := h
        refine wrVi (ws1 := [(a_t, .inr (5, [.ref a_ti, .ref a_tn, .int q4.2.1, .int t_cur, .int t_kin, .int t_tol, .int t_don])), (a_x, .inr (7, [.ref a_g, .ref a_b, .ref a_v, .ref a_h, .ref a_r, .ref a_f, .ref a_u, .ref a_t, .ref a_n, .int x_sav, .int x_err, .int x_rea, .int x_det, .int x_com])), (a_ti, .inl (T 2, 60, .inl q4.2.2))]) C hE hP hD hS hA (kX5_add l D T a_t a_ti a_tn t_len t_cur t_kin t_tol t_don v_ti p0 _ q4 e5) mX5_add qLX7_319 [0, 2] [1] 0 rfl rfl rfl rfl rfl rfl rfl rfl rfl ⟨rfl, rfl⟩ ⟨Nat.le_of_ble_eq_true rfl, Nat.le_of_ble_eq_true rfl⟩ rfl hl.1 rfl (Nat.le_of_ble_eq_true rfl) dX7_append_51 ⟨Nat.le_of_ble_eq_true rfl, Nat.le_of_ble_eq_true rfl⟩ ?_; clear hP hD hS; intro H locs hP hD hS
        replace h := Option.some.inj h
        exact hret.1 _ _ _ _ _ _ _ _ (Nat.le_of_ble_eq_true rfl) (Nat.le_of_ble_eq_true rfl) dX7_append_54 rfl (by rw [← h]) (by rw [← h] <;> rfl) (by rw [← h]; exact hP) hS
      · replace h := ite_f c3 h
        replace h := Option.some.inj h
        exact hret.2.2 _ _ _ _ _ _ _ 314 318 316 _ "the input is full" (by rw [← h]; exact thrX7_314_318_6) (by decide +kernel) dX7_append_35 dX7_append_38 (Or.inr ⟨dX7_append_39, dX7_append_42, dX7_append_45⟩) (Nat.le_of_ble_eq_true rfl) (Nat.le_of_ble_eq_true rfl) (Nat.le_of_ble_eq_true rfl) (Nat.le_of_ble_eq_true rfl) (hl.1.trans C.2.2.1.symm) (by rw [← h]; exact (Nat.le_of_ble_eq_true rfl)) (by rw [← h]; exact hP) hS
    · replace h := ite_f c2 h
      exact lX7_append_12 C hE hA hZ hret t_len v_ti ⟨hP, hD⟩ hS _ (lv_sub hl [] rfl) h

def fX7_faultOfCommand (u_det : Int32) (t_kin : Int32) (v_gw : Nat → Int32) (v_gk : Nat → Int32) (v_rs : Nat → Int32) (v_ro : Nat → Int32) (v_tn : Nat → Int32) : Option (Int32 × Int32 × (Nat → Int32) × (Nat → Int32)) :=
  (fX5_number v_tn 0).bind fun q1 =>
  (fX5_number v_tn 1).bind fun q3 =>
  (fX5_number v_tn 2).bind fun q5 =>
  if (fX5_kind t_kin) = 0 then
    (fX6_comeFault u_det v_gw v_gk q1 q3 q5).bind fun q8 =>
    some (q8.1, q8.2, v_rs, v_ro)
  else
    if (fX5_kind t_kin) = 1 then
      (fX6_moveFault u_det v_gw v_gk v_rs v_ro q1 q3).bind fun q11 =>
      some (q11.1, q11.2.1, q11.2.2.1, q11.2.2.2)
    else
      if (fX5_kind t_kin) = 2 then
        (fX6_hitFault u_det v_gw v_gk q1 q3 q5).bind fun q14 =>
        some (q14.1, q14.2, v_rs, v_ro)
      else
        if (fX5_kind t_kin) = 3 then
          (fX6_songFault u_det v_gw v_gk q1).bind fun q17 =>
          some (q17.1, q17.2, v_rs, v_ro)
        else
          if (fX5_kind t_kin) = 4 then
            (fX6_substituteFault u_det v_gw v_gk q1 q3).bind fun q20 =>
            some (q20.1, q20.2, v_rs, v_ro)
          else
            if (fX5_kind t_kin) = 5 then
              (fX6_passFault u_det v_gk).bind fun q23 =>
              some (q23.1, q23.2, v_rs, v_ro)
            else
              some ((-1), u_det, v_rs, v_ro)
set_option maxHeartbeats 4000000 in
set_option maxRecDepth 100000 in
theorem kX7_faultOfCommand (l : Launch) (D : va_G) (T : Nat → ClassId) (a_g a_gw a_gk a_r a_rs a_rl a_ro a_u a_t a_ti a_tn a_x a_b a_v a_h a_f a_n : Nat) (u_det : Int32) (t_len : Int32) (t_cur : Int32) (t_kin : Int32) (t_tol : Int32) (t_don : Int32) (x_sav : Int32) (x_err : Int32) (x_rea : Int32) (x_det : Int32) (x_com : Int32) (v_gw : Nat → Int32) (v_gk : Nat → Int32) (v_rs : Nat → Int32) (v_ro : Nat → Int32) (v_tn : Nat → Int32) (sz : Nat) (r : Int32 × Int32 × (Nat → Int32) × (Nat → Int32)) (h : fX7_faultOfCommand u_det t_kin v_gw v_gk v_rs v_ro v_tn = some r) : WrI l yX7_faultOfCommand cX7_faultOfCommand 4 .int ({ frames := 5, cells := 0, slots := 0, locals := 118 } : Room) D T sz [(a_g, .inr (1, [.ref a_gw, .ref a_gk])), (a_r, .inr (4, [.ref a_g, .ref a_rs, .ref a_rl, .ref a_ro])), (a_u, .inr (6, [.ref a_g, .ref a_r, .int u_det])), (a_t, .inr (5, [.ref a_ti, .ref a_tn, .int t_len, .int t_cur, .int t_kin, .int t_tol, .int t_don])), (a_x, .inr (7, [.ref a_g, .ref a_b, .ref a_v, .ref a_h, .ref a_r, .ref a_f, .ref a_u, .ref a_t, .ref a_n, .int x_sav, .int x_err, .int x_rea, .int x_det, .int x_com])), (a_gw, .inl (T 0, 90, .inl v_gw)), (a_gk, .inl (T 0, 18, .inl v_gk)), (a_rs, .inl (T 0, 45, .inl v_rs)), (a_ro, .inl (T 1, 45, .inl v_ro)), (a_tn, .inl (T 0, 3, .inl v_tn))] [(a_g, .inr (1, [.ref a_gw, .ref a_gk])), (a_r, .inr (4, [.ref a_g, .ref a_rs, .ref a_rl, .ref a_ro])), (a_u, .inr (6, [.ref a_g, .ref a_r, .int r.2.1])), (a_t, .inr (5, [.ref a_ti, .ref a_tn, .int t_len, .int t_cur, .int t_kin, .int t_tol, .int t_don])), (a_x, .inr (7, [.ref a_g, .ref a_b, .ref a_v, .ref a_h, .ref a_r, .ref a_f, .ref a_u, .ref a_t, .ref a_n, .int x_sav, .int x_err, .int x_rea, .int x_det, .int x_com])), (a_gw, .inl (T 0, 90, .inl v_gw)), (a_gk, .inl (T 0, 18, .inl v_gk)), (a_rs, .inl (T 0, 45, .inl r.2.2.1)), (a_ro, .inl (T 1, 45, .inl r.2.2.2)), (a_tn, .inl (T 0, 3, .inl v_tn))] [.ref a_x] r.1 := by
  unfold fX7_faultOfCommand at h
  refine wrMet (by decide +kernel) rfl (fun p e s m args below meth c Q A C hE hA hP hD hS hret ls hl => ?_)
  have hx := C.1
  have hb := C.2.1
  have hl : lv_has ls 4 [(0, .ref a_x)] := hl
  refine lv_aload_n hx hb dX7_faultOfCommand_0 rfl (lv_at hl 0 rfl) ?_
  refine getF (q0 := 4) (k0 := 7) (v := .ref a_t) C hE hP inA7 rfl rfl (by decide) qFX7_57 rfl rfl dX7_faultOfCommand_1 ?_
  refine lv_iconst (v := 0) hx hb dX7_faultOfCommand_4 (by decide) ?_
  replace h := bnd h; obtain ⟨q1, e2, h⟩ := h
  refine rdV C hE hP (kX5_number l D T a_t a_ti a_tn t_len t_cur t_kin t_tol t_don v_tn 0 q1 e2) mX5_number qLX7_427 [3, 9] 3 rfl rfl rfl rfl ⟨rfl, rfl⟩ ⟨Nat.le_of_ble_eq_true rfl, Nat.le_of_ble_eq_true rfl⟩ rfl hl.1 rfl (Nat.le_of_ble_eq_true rfl) dX7_faultOfCommand_5 ⟨Nat.le_of_ble_eq_true rfl, Nat.le_of_ble_eq_true rfl⟩ ?_
  refine lv_istore_n (lv' := [(1, .int q1), (0, .ref a_x)]) hx hb dX7_faultOfCommand_8 rfl hl (by decide) rfl (fun ls hl => ?_)
  refine lv_aload_n hx hb dX7_faultOfCommand_9 rfl (lv_at hl 1 rfl) ?_
  refine getF (q0 := 4) (k0 := 7) (v := .ref a_t) C hE hP inA7 rfl rfl (by decide) qFX7_57 rfl rfl dX7_faultOfCommand_10 ?_
  refine lv_iconst (v := 1) hx hb dX7_faultOfCommand_13 (by decide) ?_
  replace h := bnd h; obtain ⟨q3, e4, h⟩ := h
  refine rdV C hE hP (kX5_number l D T a_t a_ti a_tn t_len t_cur t_kin t_tol t_don v_tn 1 q3 e4) mX5_number qLX7_427 [3, 9] 3 rfl rfl rfl rfl ⟨rfl, rfl⟩ ⟨Nat.le_of_ble_eq_true rfl, Nat.le_of_ble_eq_true rfl⟩ rfl hl.1 rfl (Nat.le_of_ble_eq_true rfl) dX7_faultOfCommand_14 ⟨Nat.le_of_ble_eq_true rfl, Nat.le_of_ble_eq_true rfl⟩ ?_
  refine lv_istore_n (lv' := [(2, .int q3), (1, .int q1), (0, .ref a_x)]) hx hb dX7_faultOfCommand_17 rfl hl (by decide) rfl (fun ls hl => ?_)
  refine lv_aload_n hx hb dX7_faultOfCommand_18 rfl (lv_at hl 2 rfl) ?_
  refine getF (q0 := 4) (k0 := 7) (v := .ref a_t) C hE hP inA7 rfl rfl (by decide) qFX7_57 rfl rfl dX7_faultOfCommand_19 ?_
  refine lv_iconst (v := 2) hx hb dX7_faultOfCommand_22 (by decide) ?_
  replace h := bnd h; obtain ⟨q5, e6, h⟩ := h
  refine rdV C hE hP (kX5_number l D T a_t a_ti a_tn t_len t_cur t_kin t_tol t_don v_tn 2 q5 e6) mX5_number qLX7_427 [3, 9] 3 rfl rfl rfl rfl ⟨rfl, rfl⟩ ⟨Nat.le_of_ble_eq_true rfl, Nat.le_of_ble_eq_true rfl⟩ rfl hl.1 rfl (Nat.le_of_ble_eq_true rfl) dX7_faultOfCommand_23 ⟨Nat.le_of_ble_eq_true rfl, Nat.le_of_ble_eq_true rfl⟩ ?_
  refine lv_istore_n (lv' := [(3, .int q5), (2, .int q3), (1, .int q1), (0, .ref a_x)]) hx hb dX7_faultOfCommand_26 rfl hl (by decide) rfl (fun ls hl => ?_)
  refine lv_aload_n hx hb dX7_faultOfCommand_27 rfl (lv_at hl 3 rfl) ?_
  refine getF (q0 := 4) (k0 := 7) (v := .ref a_t) C hE hP inA7 rfl rfl (by decide) qFX7_57 rfl rfl dX7_faultOfCommand_28 ?_
  refine rdV C hE hP (kX5_kind l D T a_t a_ti a_tn t_len t_cur t_kin t_tol t_don) mX5_kind qLX7_430 [3] 3 rfl rfl rfl rfl ⟨rfl, rfl⟩ ⟨Nat.le_of_ble_eq_true rfl, Nat.le_of_ble_eq_true rfl⟩ rfl hl.1 rfl (Nat.le_of_ble_eq_true rfl) dX7_faultOfCommand_31 ⟨Nat.le_of_ble_eq_true rfl, Nat.le_of_ble_eq_true rfl⟩ ?_
  by_cases c7 : (fX5_kind t_kin) = 0
  · replace h := ite_t c7 h
    refine lv_tableIn (tgt := 72) hx hb dX7_faultOfCommand_34 (by rw [c7]; decide) (by rw [c7]; decide) (by rw [c7]; rfl) (by decide) ?_
    refine lv_aload_n hx hb dX7_faultOfCommand_72 rfl (lv_at hl 3 rfl) ?_
    refine getF (q0 := 4) (k0 := 6) (v := .ref a_u) C hE hP inA7 rfl rfl (by decide) qFX7_50 rfl rfl dX7_faultOfCommand_73 ?_
    refine lv_iload_n hx hb dX7_faultOfCommand_76 rfl (lv_at hl 2 rfl) ?_
    refine lv_iload_n hx hb dX7_faultOfCommand_77 rfl (lv_at hl 1 rfl) ?_
    refine lv_iload_n hx hb dX7_faultOfCommand_78 rfl (lv_at hl 0 rfl) ?_
    replace h := bnd h; obtain ⟨q8, e9, h⟩ := h
    refine wrVi (ws1 := [(a_g, .inr (1, [.ref a_gw, .ref a_gk])), (a_r, .inr (4, [.ref a_g, .ref a_rs, .ref a_rl, .ref a_ro])), (a_u, .inr (6, [.ref a_g, .ref a_r, .int q8.2])), (a_t, .inr (5, [.ref a_ti, .ref a_tn, .int t_len, .int t_cur, .int t_kin, .int t_tol, .int t_don])), (a_x, .inr (7, [.ref a_g, .ref a_b, .ref a_v, .ref a_h, .ref a_r, .ref a_f, .ref a_u, .ref a_t, .ref a_n, .int x_sav, .int x_err, .int x_rea, .int x_det, .int x_com])), (a_gw, .inl (T 0, 90, .inl v_gw)), (a_gk, .inl (T 0, 18, .inl v_gk)), (a_rs, .inl (T 0, 45, .inl v_rs)), (a_ro, .inl (T 1, 45, .inl v_ro)), (a_tn, .inl (T 0, 3, .inl v_tn))]) C hE hP hD hS hA (kX6_comeFault l D T a_g a_gw a_gk a_u a_r u_det v_gw v_gk q1 q3 q5 _ q8 e9) mX6_comeFault qLX7_85 [0, 2, 5, 6] [1, 3, 4, 7, 8, 9] 2 rfl rfl rfl rfl rfl rfl rfl rfl rfl ⟨rfl, rfl⟩ ⟨Nat.le_of_ble_eq_true rfl, Nat.le_of_ble_eq_true rfl⟩ rfl hl.1 rfl (Nat.le_of_ble_eq_true rfl) dX7_faultOfCommand_79 ⟨Nat.le_of_ble_eq_true rfl, Nat.le_of_ble_eq_true rfl⟩ ?_; clear hP hD hS; intro H locs hP hD hS
    replace h := Option.some.inj h
    exact hret _ _ _ _ _ _ dX7_faultOfCommand_82 rfl (by rw [← h] <;> rfl) (by rw [← h]; exact hP) hS
  · replace h := ite_f c7 h
    by_cases c10 : (fX5_kind t_kin) = 1
    · replace h := ite_t c10 h
      refine lv_tableIn (tgt := 83) hx hb dX7_faultOfCommand_34 (by rw [c10]; decide) (by rw [c10]; decide) (by rw [c10]; rfl) (by decide) ?_
      refine lv_aload_n hx hb dX7_faultOfCommand_83 rfl (lv_at hl 3 rfl) ?_
      refine getF (q0 := 4) (k0 := 6) (v := .ref a_u) C hE hP inA7 rfl rfl (by decide) qFX7_50 rfl rfl dX7_faultOfCommand_84 ?_
      refine lv_iload_n hx hb dX7_faultOfCommand_87 rfl (lv_at hl 2 rfl) ?_
      refine lv_iload_n hx hb dX7_faultOfCommand_88 rfl (lv_at hl 1 rfl) ?_
      replace h := bnd h; obtain ⟨q11, e12, h⟩ := h
      refine wrVi (ws1 := [(a_g, .inr (1, [.ref a_gw, .ref a_gk])), (a_r, .inr (4, [.ref a_g, .ref a_rs, .ref a_rl, .ref a_ro])), (a_u, .inr (6, [.ref a_g, .ref a_r, .int q11.2.1])), (a_t, .inr (5, [.ref a_ti, .ref a_tn, .int t_len, .int t_cur, .int t_kin, .int t_tol, .int t_don])), (a_x, .inr (7, [.ref a_g, .ref a_b, .ref a_v, .ref a_h, .ref a_r, .ref a_f, .ref a_u, .ref a_t, .ref a_n, .int x_sav, .int x_err, .int x_rea, .int x_det, .int x_com])), (a_gw, .inl (T 0, 90, .inl v_gw)), (a_gk, .inl (T 0, 18, .inl v_gk)), (a_rs, .inl (T 0, 45, .inl q11.2.2.1)), (a_ro, .inl (T 1, 45, .inl q11.2.2.2)), (a_tn, .inl (T 0, 3, .inl v_tn))]) C hE hP hD hS hA (kX6_moveFault l D T a_g a_gw a_gk a_r a_rs a_rl a_ro a_u u_det v_gw v_gk v_rs v_ro q1 q3 _ q11 e12) mX6_moveFault qLX7_112 [0, 1, 2, 5, 6, 7, 8] [3, 4, 9] 2 rfl rfl rfl rfl rfl rfl rfl rfl rfl ⟨rfl, rfl⟩ ⟨Nat.le_of_ble_eq_true rfl, Nat.le_of_ble_eq_true rfl⟩ rfl hl.1 rfl (Nat.le_of_ble_eq_true rfl) dX7_faultOfCommand_89 ⟨Nat.le_of_ble_eq_true rfl, Nat.le_of_ble_eq_true rfl⟩ ?_; clear hP hD hS; intro H locs hP hD hS
      replace h := Option.some.inj h
      exact hret _ _ _ _ _ _ dX7_faultOfCommand_92 rfl (by rw [← h] <;> rfl) (by rw [← h]; exact hP) hS
    · replace h := ite_f c10 h
      by_cases c13 : (fX5_kind t_kin) = 2
      · replace h := ite_t c13 h
        refine lv_tableIn (tgt := 93) hx hb dX7_faultOfCommand_34 (by rw [c13]; decide) (by rw [c13]; decide) (by rw [c13]; rfl) (by decide) ?_
        refine lv_aload_n hx hb dX7_faultOfCommand_93 rfl (lv_at hl 3 rfl) ?_
        refine getF (q0 := 4) (k0 := 6) (v := .ref a_u) C hE hP inA7 rfl rfl (by decide) qFX7_50 rfl rfl dX7_faultOfCommand_94 ?_
        refine lv_iload_n hx hb dX7_faultOfCommand_97 rfl (lv_at hl 2 rfl) ?_
        refine lv_iload_n hx hb dX7_faultOfCommand_98 rfl (lv_at hl 1 rfl) ?_
        refine lv_iload_n hx hb dX7_faultOfCommand_99 rfl (lv_at hl 0 rfl) ?_
        replace h := bnd h; obtain ⟨q14, e15, h⟩ := h
        refine wrVi (ws1 := [(a_g, .inr (1, [.ref a_gw, .ref a_gk])), (a_r, .inr (4, [.ref a_g, .ref a_rs, .ref a_rl, .ref a_ro])), (a_u, .inr (6, [.ref a_g, .ref a_r, .int q14.2])), (a_t, .inr (5, [.ref a_ti, .ref a_tn, .int t_len, .int t_cur, .int t_kin, .int t_tol, .int t_don])), (a_x, .inr (7, [.ref a_g, .ref a_b, .ref a_v, .ref a_h, .ref a_r, .ref a_f, .ref a_u, .ref a_t, .ref a_n, .int x_sav, .int x_err, .int x_rea, .int x_det, .int x_com])), (a_gw, .inl (T 0, 90, .inl v_gw)), (a_gk, .inl (T 0, 18, .inl v_gk)), (a_rs, .inl (T 0, 45, .inl v_rs)), (a_ro, .inl (T 1, 45, .inl v_ro)), (a_tn, .inl (T 0, 3, .inl v_tn))]) C hE hP hD hS hA (kX6_hitFault l D T a_g a_gw a_gk a_u a_r u_det v_gw v_gk q1 q3 q5 _ q14 e15) mX6_hitFault qLX7_118 [0, 2, 5, 6] [1, 3, 4, 7, 8, 9] 2 rfl rfl rfl rfl rfl rfl rfl rfl rfl ⟨rfl, rfl⟩ ⟨Nat.le_of_ble_eq_true rfl, Nat.le_of_ble_eq_true rfl⟩ rfl hl.1 rfl (Nat.le_of_ble_eq_true rfl) dX7_faultOfCommand_100 ⟨Nat.le_of_ble_eq_true rfl, Nat.le_of_ble_eq_true rfl⟩ ?_; clear hP hD hS; intro H locs hP hD hS
        replace h := Option.some.inj h
        exact hret _ _ _ _ _ _ dX7_faultOfCommand_103 rfl (by rw [← h] <;> rfl) (by rw [← h]; exact hP) hS
      · replace h := ite_f c13 h
        by_cases c16 : (fX5_kind t_kin) = 3
        · replace h := ite_t c16 h
          refine lv_tableIn (tgt := 104) hx hb dX7_faultOfCommand_34 (by rw [c16]; decide) (by rw [c16]; decide) (by rw [c16]; rfl) (by decide) ?_
          refine lv_aload_n hx hb dX7_faultOfCommand_104 rfl (lv_at hl 3 rfl) ?_
          refine getF (q0 := 4) (k0 := 6) (v := .ref a_u) C hE hP inA7 rfl rfl (by decide) qFX7_50 rfl rfl dX7_faultOfCommand_105 ?_
          refine lv_iload_n hx hb dX7_faultOfCommand_108 rfl (lv_at hl 2 rfl) ?_
          replace h := bnd h; obtain ⟨q17, e18, h⟩ := h
          refine wrVi (ws1 := [(a_g, .inr (1, [.ref a_gw, .ref a_gk])), (a_r, .inr (4, [.ref a_g, .ref a_rs, .ref a_rl, .ref a_ro])), (a_u, .inr (6, [.ref a_g, .ref a_r, .int q17.2])), (a_t, .inr (5, [.ref a_ti, .ref a_tn, .int t_len, .int t_cur, .int t_kin, .int t_tol, .int t_don])), (a_x, .inr (7, [.ref a_g, .ref a_b, .ref a_v, .ref a_h, .ref a_r, .ref a_f, .ref a_u, .ref a_t, .ref a_n, .int x_sav, .int x_err, .int x_rea, .int x_det, .int x_com])), (a_gw, .inl (T 0, 90, .inl v_gw)), (a_gk, .inl (T 0, 18, .inl v_gk)), (a_rs, .inl (T 0, 45, .inl v_rs)), (a_ro, .inl (T 1, 45, .inl v_ro)), (a_tn, .inl (T 0, 3, .inl v_tn))]) C hE hP hD hS hA (kX6_songFault l D T a_g a_gw a_gk a_u a_r u_det v_gw v_gk q1 _ q17 e18) mX6_songFault qLX7_124 [0, 2, 5, 6] [1, 3, 4, 7, 8, 9] 2 rfl rfl rfl rfl rfl rfl rfl rfl rfl ⟨rfl, rfl⟩ ⟨Nat.le_of_ble_eq_true rfl, Nat.le_of_ble_eq_true rfl⟩ rfl hl.1 rfl (Nat.le_of_ble_eq_true rfl) dX7_faultOfCommand_109 ⟨Nat.le_of_ble_eq_true rfl, Nat.le_of_ble_eq_true rfl⟩ ?_; clear hP hD hS; intro H locs hP hD hS
          replace h := Option.some.inj h
          exact hret _ _ _ _ _ _ dX7_faultOfCommand_112 rfl (by rw [← h] <;> rfl) (by rw [← h]; exact hP) hS
        · replace h := ite_f c16 h
          by_cases c19 : (fX5_kind t_kin) = 4
          · replace h := ite_t c19 h
            refine lv_tableIn (tgt := 113) hx hb dX7_faultOfCommand_34 (by rw [c19]; decide) (by rw [c19]; decide) (by rw [c19]; rfl) (by decide) ?_
            refine lv_aload_n hx hb dX7_faultOfCommand_113 rfl (lv_at hl 3 rfl) ?_
            refine getF (q0 := 4) (k0 := 6) (v := .ref a_u) C hE hP inA7 rfl rfl (by decide) qFX7_50 rfl rfl dX7_faultOfCommand_114 ?_
            refine lv_iload_n hx hb dX7_faultOfCommand_117 rfl (lv_at hl 2 rfl) ?_
            refine lv_iload_n hx hb dX7_faultOfCommand_118 rfl (lv_at hl 1 rfl) ?_
            replace h := bnd h; obtain ⟨q20, e21, h⟩ := h
            refine wrVi (ws1 := [(a_g, .inr (1, [.ref a_gw, .ref a_gk])), (a_r, .inr (4, [.ref a_g, .ref a_rs, .ref a_rl, .ref a_ro])), (a_u, .inr (6, [.ref a_g, .ref a_r, .int q20.2])), (a_t, .inr (5, [.ref a_ti, .ref a_tn, .int t_len, .int t_cur, .int t_kin, .int t_tol, .int t_don])), (a_x, .inr (7, [.ref a_g, .ref a_b, .ref a_v, .ref a_h, .ref a_r, .ref a_f, .ref a_u, .ref a_t, .ref a_n, .int x_sav, .int x_err, .int x_rea, .int x_det, .int x_com])), (a_gw, .inl (T 0, 90, .inl v_gw)), (a_gk, .inl (T 0, 18, .inl v_gk)), (a_rs, .inl (T 0, 45, .inl v_rs)), (a_ro, .inl (T 1, 45, .inl v_ro)), (a_tn, .inl (T 0, 3, .inl v_tn))]) C hE hP hD hS hA (kX6_substituteFault l D T a_g a_gw a_gk a_u a_r u_det v_gw v_gk q1 q3 _ q20 e21) mX6_substituteFault qLX7_102 [0, 2, 5, 6] [1, 3, 4, 7, 8, 9] 2 rfl rfl rfl rfl rfl rfl rfl rfl rfl ⟨rfl, rfl⟩ ⟨Nat.le_of_ble_eq_true rfl, Nat.le_of_ble_eq_true rfl⟩ rfl hl.1 rfl (Nat.le_of_ble_eq_true rfl) dX7_faultOfCommand_119 ⟨Nat.le_of_ble_eq_true rfl, Nat.le_of_ble_eq_true rfl⟩ ?_; clear hP hD hS; intro H locs hP hD hS
            replace h := Option.some.inj h
            exact hret _ _ _ _ _ _ dX7_faultOfCommand_122 rfl (by rw [← h] <;> rfl) (by rw [← h]; exact hP) hS
          · replace h := ite_f c19 h
            by_cases c22 : (fX5_kind t_kin) = 5
            · replace h := ite_t c22 h
              refine lv_tableIn (tgt := 123) hx hb dX7_faultOfCommand_34 (by rw [c22]; decide) (by rw [c22]; decide) (by rw [c22]; rfl) (by decide) ?_
              refine lv_aload_n hx hb dX7_faultOfCommand_123 rfl (lv_at hl 3 rfl) ?_
              refine getF (q0 := 4) (k0 := 6) (v := .ref a_u) C hE hP inA7 rfl rfl (by decide) qFX7_50 rfl rfl dX7_faultOfCommand_124 ?_
              replace h := bnd h; obtain ⟨q23, e24, h⟩ := h
              refine wrVi (ws1 := [(a_g, .inr (1, [.ref a_gw, .ref a_gk])), (a_r, .inr (4, [.ref a_g, .ref a_rs, .ref a_rl, .ref a_ro])), (a_u, .inr (6, [.ref a_g, .ref a_r, .int q23.2])), (a_t, .inr (5, [.ref a_ti, .ref a_tn, .int t_len, .int t_cur, .int t_kin, .int t_tol, .int t_don])), (a_x, .inr (7, [.ref a_g, .ref a_b, .ref a_v, .ref a_h, .ref a_r, .ref a_f, .ref a_u, .ref a_t, .ref a_n, .int x_sav, .int x_err, .int x_rea, .int x_det, .int x_com])), (a_gw, .inl (T 0, 90, .inl v_gw)), (a_gk, .inl (T 0, 18, .inl v_gk)), (a_rs, .inl (T 0, 45, .inl v_rs)), (a_ro, .inl (T 1, 45, .inl v_ro)), (a_tn, .inl (T 0, 3, .inl v_tn))]) C hE hP hD hS hA (kX6_passFault l D T a_g a_gw a_gk a_u a_r u_det v_gk _ q23 e24) mX6_passFault qLX7_131 [0, 2, 6] [1, 3, 4, 5, 7, 8, 9] 2 rfl rfl rfl rfl rfl rfl rfl rfl rfl ⟨rfl, rfl⟩ ⟨Nat.le_of_ble_eq_true rfl, Nat.le_of_ble_eq_true rfl⟩ rfl hl.1 rfl (Nat.le_of_ble_eq_true rfl) dX7_faultOfCommand_127 ⟨Nat.le_of_ble_eq_true rfl, Nat.le_of_ble_eq_true rfl⟩ ?_; clear hP hD hS; intro H locs hP hD hS
              replace h := Option.some.inj h
              exact hret _ _ _ _ _ _ dX7_faultOfCommand_130 rfl (by rw [← h] <;> rfl) (by rw [← h]; exact hP) hS
            · replace h := ite_f c22 h
              refine lv_tableOut (tgt := 131) hx hb dX7_faultOfCommand_34 (by have t0 := tI 0 rfl c7; have t1 := tI 1 rfl c10; have t2 := tI 2 rfl c13; have t3 := tI 3 rfl c16; have t4 := tI 4 rfl c19; have t5 := tI 5 rfl c22; omega) (by decide) ?_
              refine lv_iconst (v := (-1)) hx hb dX7_faultOfCommand_131 (by decide) ?_
              replace h := Option.some.inj h
              exact hret _ _ _ _ _ _ dX7_faultOfCommand_132 rfl (by rw [← h] <;> rfl) (by rw [← h]; exact hP) hS

def fX7_performCommand (f_net : Int32) (t_kin : Int32) (v_gw : Nat → Int32) (v_gk : Nat → Int32) (v_rs : Nat → Int32) (v_ro : Nat → Int32) (v_tn : Nat → Int32) : Option (Int32 × (Nat → Int32) × (Nat → Int32) × (Nat → Int32) × (Nat → Int32)) :=
  (fX5_number v_tn 0).bind fun q1 =>
  (fX5_number v_tn 1).bind fun q3 =>
  (fX5_number v_tn 2).bind fun q5 =>
  if (fX5_kind t_kin) = 0 then
    (fX1_addWhale v_gw v_gk q1 q3 q5).bind fun q8 =>
    some (f_net, q8.2.1, q8.2.2, v_rs, v_ro)
  else
    if (fX5_kind t_kin) = 1 then
      (fX7_moveWhale v_gw v_gk v_rs v_ro q1 q3).bind fun q11 =>
      some (f_net, q11.2.1, q11.2.2.1, q11.2.2.2.1, q11.2.2.2.2)
    else
      if (fX5_kind t_kin) = 2 then
        (fX7_hitBuoy f_net v_gw v_gk q1 q3 q5).bind fun q14 =>
        some (q14.2.1, q14.2.2.1, q14.2.2.2, v_rs, v_ro)
      else
        if (fX5_kind t_kin) = 3 then
          (fX1_startSong v_gw v_gk q1).bind fun q17 =>
          some (f_net, q17.2.1, q17.2.2, v_rs, v_ro)
        else
          if (fX5_kind t_kin) = 4 then
            (fX1_substitute v_gw v_gk q1 q3).bind fun q20 =>
            some (f_net, q20.2.1, q20.2.2, v_rs, v_ro)
          else
            (fX1_endStroke v_gw v_gk).bind fun q22 =>
            some (f_net, q22.2.1, q22.2.2, v_rs, v_ro)
set_option maxHeartbeats 4000000 in
set_option maxRecDepth 100000 in
theorem kX7_performCommand (l : Launch) (D : va_G) (T : Nat → ClassId) (a_g a_gw a_gk a_r a_rs a_rl a_ro a_f a_t a_ti a_tn a_x a_b a_v a_h a_u a_n : Nat) (f_net : Int32) (t_len : Int32) (t_cur : Int32) (t_kin : Int32) (t_tol : Int32) (t_don : Int32) (x_sav : Int32) (x_err : Int32) (x_rea : Int32) (x_det : Int32) (x_com : Int32) (v_gw : Nat → Int32) (v_gk : Nat → Int32) (v_rs : Nat → Int32) (v_ro : Nat → Int32) (v_tn : Nat → Int32) (sz : Nat) (r : Int32 × (Nat → Int32) × (Nat → Int32) × (Nat → Int32) × (Nat → Int32)) (h : fX7_performCommand f_net t_kin v_gw v_gk v_rs v_ro v_tn = some r) : WrV l yX7_performCommand cX7_performCommand 4 ({ frames := 5, cells := 0, slots := 0, locals := 122 } : Room) D T sz [(a_g, .inr (1, [.ref a_gw, .ref a_gk])), (a_r, .inr (4, [.ref a_g, .ref a_rs, .ref a_rl, .ref a_ro])), (a_f, .inr (0, [.ref a_g, .int f_net])), (a_t, .inr (5, [.ref a_ti, .ref a_tn, .int t_len, .int t_cur, .int t_kin, .int t_tol, .int t_don])), (a_x, .inr (7, [.ref a_g, .ref a_b, .ref a_v, .ref a_h, .ref a_r, .ref a_f, .ref a_u, .ref a_t, .ref a_n, .int x_sav, .int x_err, .int x_rea, .int x_det, .int x_com])), (a_gw, .inl (T 0, 90, .inl v_gw)), (a_gk, .inl (T 0, 18, .inl v_gk)), (a_rs, .inl (T 0, 45, .inl v_rs)), (a_ro, .inl (T 1, 45, .inl v_ro)), (a_tn, .inl (T 0, 3, .inl v_tn))] [(a_g, .inr (1, [.ref a_gw, .ref a_gk])), (a_r, .inr (4, [.ref a_g, .ref a_rs, .ref a_rl, .ref a_ro])), (a_f, .inr (0, [.ref a_g, .int r.1])), (a_t, .inr (5, [.ref a_ti, .ref a_tn, .int t_len, .int t_cur, .int t_kin, .int t_tol, .int t_don])), (a_x, .inr (7, [.ref a_g, .ref a_b, .ref a_v, .ref a_h, .ref a_r, .ref a_f, .ref a_u, .ref a_t, .ref a_n, .int x_sav, .int x_err, .int x_rea, .int x_det, .int x_com])), (a_gw, .inl (T 0, 90, .inl r.2.1)), (a_gk, .inl (T 0, 18, .inl r.2.2.1)), (a_rs, .inl (T 0, 45, .inl r.2.2.2.1)), (a_ro, .inl (T 1, 45, .inl r.2.2.2.2)), (a_tn, .inl (T 0, 3, .inl v_tn))] [.ref a_x] := by
  unfold fX7_performCommand at h
  refine wrMetV (by decide +kernel) rfl (fun p e s m args below meth c Q A C hE hA hP hD hS hret ls hl => ?_)
  have hx := C.1
  have hb := C.2.1
  have hl : lv_has ls 4 [(0, .ref a_x)] := hl
  refine lv_aload_n hx hb dX7_performCommand_0 rfl (lv_at hl 0 rfl) ?_
  refine getF (q0 := 4) (k0 := 7) (v := .ref a_t) C hE hP inA7 rfl rfl (by decide) qFX7_57 rfl rfl dX7_performCommand_1 ?_
  refine lv_iconst (v := 0) hx hb dX7_performCommand_4 (by decide) ?_
  replace h := bnd h; obtain ⟨q1, e2, h⟩ := h
  refine rdV C hE hP (kX5_number l D T a_t a_ti a_tn t_len t_cur t_kin t_tol t_don v_tn 0 q1 e2) mX5_number qLX7_427 [3, 9] 3 rfl rfl rfl rfl ⟨rfl, rfl⟩ ⟨Nat.le_of_ble_eq_true rfl, Nat.le_of_ble_eq_true rfl⟩ rfl hl.1 rfl (Nat.le_of_ble_eq_true rfl) dX7_performCommand_5 ⟨Nat.le_of_ble_eq_true rfl, Nat.le_of_ble_eq_true rfl⟩ ?_
  refine lv_istore_n (lv' := [(1, .int q1), (0, .ref a_x)]) hx hb dX7_performCommand_8 rfl hl (by decide) rfl (fun ls hl => ?_)
  refine lv_aload_n hx hb dX7_performCommand_9 rfl (lv_at hl 1 rfl) ?_
  refine getF (q0 := 4) (k0 := 7) (v := .ref a_t) C hE hP inA7 rfl rfl (by decide) qFX7_57 rfl rfl dX7_performCommand_10 ?_
  refine lv_iconst (v := 1) hx hb dX7_performCommand_13 (by decide) ?_
  replace h := bnd h; obtain ⟨q3, e4, h⟩ := h
  refine rdV C hE hP (kX5_number l D T a_t a_ti a_tn t_len t_cur t_kin t_tol t_don v_tn 1 q3 e4) mX5_number qLX7_427 [3, 9] 3 rfl rfl rfl rfl ⟨rfl, rfl⟩ ⟨Nat.le_of_ble_eq_true rfl, Nat.le_of_ble_eq_true rfl⟩ rfl hl.1 rfl (Nat.le_of_ble_eq_true rfl) dX7_performCommand_14 ⟨Nat.le_of_ble_eq_true rfl, Nat.le_of_ble_eq_true rfl⟩ ?_
  refine lv_istore_n (lv' := [(2, .int q3), (1, .int q1), (0, .ref a_x)]) hx hb dX7_performCommand_17 rfl hl (by decide) rfl (fun ls hl => ?_)
  refine lv_aload_n hx hb dX7_performCommand_18 rfl (lv_at hl 2 rfl) ?_
  refine getF (q0 := 4) (k0 := 7) (v := .ref a_t) C hE hP inA7 rfl rfl (by decide) qFX7_57 rfl rfl dX7_performCommand_19 ?_
  refine lv_iconst (v := 2) hx hb dX7_performCommand_22 (by decide) ?_
  replace h := bnd h; obtain ⟨q5, e6, h⟩ := h
  refine rdV C hE hP (kX5_number l D T a_t a_ti a_tn t_len t_cur t_kin t_tol t_don v_tn 2 q5 e6) mX5_number qLX7_427 [3, 9] 3 rfl rfl rfl rfl ⟨rfl, rfl⟩ ⟨Nat.le_of_ble_eq_true rfl, Nat.le_of_ble_eq_true rfl⟩ rfl hl.1 rfl (Nat.le_of_ble_eq_true rfl) dX7_performCommand_23 ⟨Nat.le_of_ble_eq_true rfl, Nat.le_of_ble_eq_true rfl⟩ ?_
  refine lv_istore_n (lv' := [(3, .int q5), (2, .int q3), (1, .int q1), (0, .ref a_x)]) hx hb dX7_performCommand_26 rfl hl (by decide) rfl (fun ls hl => ?_)
  refine lv_aload_n hx hb dX7_performCommand_27 rfl (lv_at hl 3 rfl) ?_
  refine getF (q0 := 4) (k0 := 7) (v := .ref a_t) C hE hP inA7 rfl rfl (by decide) qFX7_57 rfl rfl dX7_performCommand_28 ?_
  refine rdV C hE hP (kX5_kind l D T a_t a_ti a_tn t_len t_cur t_kin t_tol t_don) mX5_kind qLX7_430 [3] 3 rfl rfl rfl rfl ⟨rfl, rfl⟩ ⟨Nat.le_of_ble_eq_true rfl, Nat.le_of_ble_eq_true rfl⟩ rfl hl.1 rfl (Nat.le_of_ble_eq_true rfl) dX7_performCommand_31 ⟨Nat.le_of_ble_eq_true rfl, Nat.le_of_ble_eq_true rfl⟩ ?_
  by_cases c7 : (fX5_kind t_kin) = 0
  · replace h := ite_t c7 h
    refine lv_tableIn (tgt := 68) hx hb dX7_performCommand_34 (by rw [c7]; decide) (by rw [c7]; decide) (by rw [c7]; rfl) (by decide) ?_
    refine lv_aload_n hx hb dX7_performCommand_68 rfl (lv_at hl 3 rfl) ?_
    refine getF (q0 := 4) (k0 := 0) (v := .ref a_g) C hE hP inA7 rfl rfl (by decide) qFX7_10 rfl rfl dX7_performCommand_69 ?_
    refine lv_iload_n hx hb dX7_performCommand_72 rfl (lv_at hl 2 rfl) ?_
    refine lv_iload_n hx hb dX7_performCommand_73 rfl (lv_at hl 1 rfl) ?_
    refine lv_iload_n hx hb dX7_performCommand_74 rfl (lv_at hl 0 rfl) ?_
    replace h := bnd h; obtain ⟨q8, e9, h⟩ := h
    refine wrVi (ws1 := [(a_g, .inr (1, [.ref a_gw, .ref a_gk])), (a_r, .inr (4, [.ref a_g, .ref a_rs, .ref a_rl, .ref a_ro])), (a_f, .inr (0, [.ref a_g, .int f_net])), (a_t, .inr (5, [.ref a_ti, .ref a_tn, .int t_len, .int t_cur, .int t_kin, .int t_tol, .int t_don])), (a_x, .inr (7, [.ref a_g, .ref a_b, .ref a_v, .ref a_h, .ref a_r, .ref a_f, .ref a_u, .ref a_t, .ref a_n, .int x_sav, .int x_err, .int x_rea, .int x_det, .int x_com])), (a_gw, .inl (T 0, 90, .inl q8.2.1)), (a_gk, .inl (T 0, 18, .inl q8.2.2)), (a_rs, .inl (T 0, 45, .inl v_rs)), (a_ro, .inl (T 1, 45, .inl v_ro)), (a_tn, .inl (T 0, 3, .inl v_tn))]) C hE hP hD hS hA (kX1_addWhale l D T a_g a_gw a_gk v_gw v_gk q1 q3 q5 _ q8 e9) mX1_addWhale qLX7_99 [0, 5, 6] [1, 2, 3, 4, 7, 8, 9] 0 rfl rfl rfl rfl rfl rfl rfl rfl rfl ⟨rfl, rfl⟩ ⟨Nat.le_of_ble_eq_true rfl, Nat.le_of_ble_eq_true rfl⟩ rfl hl.1 rfl (Nat.le_of_ble_eq_true rfl) dX7_performCommand_75 ⟨Nat.le_of_ble_eq_true rfl, Nat.le_of_ble_eq_true rfl⟩ ?_; clear hP hD hS; intro H locs hP hD hS
    refine lv_pop hx hb dX7_performCommand_78 rfl ?_
    refine lv_goto (tgt := 136) hx hb dX7_performCommand_79 (by decide) ?_
    replace h := Option.some.inj h
    exact hret _ _ _ _ dX7_performCommand_136 (by rw [← h]; exact hP) hS
  · replace h := ite_f c7 h
    by_cases c10 : (fX5_kind t_kin) = 1
    · replace h := ite_t c10 h
      refine lv_tableIn (tgt := 82) hx hb dX7_performCommand_34 (by rw [c10]; decide) (by rw [c10]; decide) (by rw [c10]; rfl) (by decide) ?_
      refine lv_aload_n hx hb dX7_performCommand_82 rfl (lv_at hl 3 rfl) ?_
      refine lv_iload_n hx hb dX7_performCommand_83 rfl (lv_at hl 2 rfl) ?_
      refine lv_iload_n hx hb dX7_performCommand_84 rfl (lv_at hl 1 rfl) ?_
      replace h := bnd h; obtain ⟨q11, e12, h⟩ := h
      refine wrVi (ws1 := [(a_g, .inr (1, [.ref a_gw, .ref a_gk])), (a_r, .inr (4, [.ref a_g, .ref a_rs, .ref a_rl, .ref a_ro])), (a_f, .inr (0, [.ref a_g, .int f_net])), (a_t, .inr (5, [.ref a_ti, .ref a_tn, .int t_len, .int t_cur, .int t_kin, .int t_tol, .int t_don])), (a_x, .inr (7, [.ref a_g, .ref a_b, .ref a_v, .ref a_h, .ref a_r, .ref a_f, .ref a_u, .ref a_t, .ref a_n, .int x_sav, .int x_err, .int x_rea, .int x_det, .int x_com])), (a_gw, .inl (T 0, 90, .inl q11.2.1)), (a_gk, .inl (T 0, 18, .inl q11.2.2.1)), (a_rs, .inl (T 0, 45, .inl q11.2.2.2.1)), (a_ro, .inl (T 1, 45, .inl q11.2.2.2.2)), (a_tn, .inl (T 0, 3, .inl v_tn))]) C hE hP hD hS hA (kX7_moveWhale l D T a_g a_gw a_gk a_r a_rs a_rl a_ro a_x a_b a_v a_h a_f a_u a_t a_n x_sav x_err x_rea x_det x_com v_gw v_gk v_rs v_ro q1 q3 _ q11 e12) mX7_moveWhale qLX7_115 [0, 1, 4, 5, 6, 7, 8] [2, 3, 9] 4 rfl rfl rfl rfl rfl rfl rfl rfl rfl ⟨rfl, rfl⟩ ⟨Nat.le_of_ble_eq_true rfl, Nat.le_of_ble_eq_true rfl⟩ rfl hl.1 rfl (Nat.le_of_ble_eq_true rfl) dX7_performCommand_85 ⟨Nat.le_of_ble_eq_true rfl, Nat.le_of_ble_eq_true rfl⟩ ?_; clear hP hD hS; intro H locs hP hD hS
      refine lv_pop hx hb dX7_performCommand_88 rfl ?_
      refine lv_goto (tgt := 136) hx hb dX7_performCommand_89 (by decide) ?_
      replace h := Option.some.inj h
      exact hret _ _ _ _ dX7_performCommand_136 (by rw [← h]; exact hP) hS
    · replace h := ite_f c10 h
      by_cases c13 : (fX5_kind t_kin) = 2
      · replace h := ite_t c13 h
        refine lv_tableIn (tgt := 92) hx hb dX7_performCommand_34 (by rw [c13]; decide) (by rw [c13]; decide) (by rw [c13]; rfl) (by decide) ?_
        refine lv_aload_n hx hb dX7_performCommand_92 rfl (lv_at hl 3 rfl) ?_
        refine lv_iload_n hx hb dX7_performCommand_93 rfl (lv_at hl 2 rfl) ?_
        refine lv_iload_n hx hb dX7_performCommand_94 rfl (lv_at hl 1 rfl) ?_
        refine lv_iload_n hx hb dX7_performCommand_95 rfl (lv_at hl 0 rfl) ?_
        replace h := bnd h; obtain ⟨q14, e15, h⟩ := h
        refine wrVi (ws1 := [(a_g, .inr (1, [.ref a_gw, .ref a_gk])), (a_r, .inr (4, [.ref a_g, .ref a_rs, .ref a_rl, .ref a_ro])), (a_f, .inr (0, [.ref a_g, .int q14.2.1])), (a_t, .inr (5, [.ref a_ti, .ref a_tn, .int t_len, .int t_cur, .int t_kin, .int t_tol, .int t_don])), (a_x, .inr (7, [.ref a_g, .ref a_b, .ref a_v, .ref a_h, .ref a_r, .ref a_f, .ref a_u, .ref a_t, .ref a_n, .int x_sav, .int x_err, .int x_rea, .int x_det, .int x_com])), (a_gw, .inl (T 0, 90, .inl q14.2.2.1)), (a_gk, .inl (T 0, 18, .inl q14.2.2.2)), (a_rs, .inl (T 0, 45, .inl v_rs)), (a_ro, .inl (T 1, 45, .inl v_ro)), (a_tn, .inl (T 0, 3, .inl v_tn))]) C hE hP hD hS hA (kX7_hitBuoy l D T a_g a_gw a_gk a_f a_x a_b a_v a_h a_r a_u a_t a_n f_net x_sav x_err x_rea x_det x_com v_gw v_gk q1 q3 q5 _ q14 e15) mX7_hitBuoy qLX7_121 [0, 2, 4, 5, 6] [1, 3, 7, 8, 9] 4 rfl rfl rfl rfl rfl rfl rfl rfl rfl ⟨rfl, rfl⟩ ⟨Nat.le_of_ble_eq_true rfl, Nat.le_of_ble_eq_true rfl⟩ rfl hl.1 rfl (Nat.le_of_ble_eq_true rfl) dX7_performCommand_96 ⟨Nat.le_of_ble_eq_true rfl, Nat.le_of_ble_eq_true rfl⟩ ?_; clear hP hD hS; intro H locs hP hD hS
        refine lv_pop hx hb dX7_performCommand_99 rfl ?_
        refine lv_goto (tgt := 136) hx hb dX7_performCommand_100 (by decide) ?_
        replace h := Option.some.inj h
        exact hret _ _ _ _ dX7_performCommand_136 (by rw [← h]; exact hP) hS
      · replace h := ite_f c13 h
        by_cases c16 : (fX5_kind t_kin) = 3
        · replace h := ite_t c16 h
          refine lv_tableIn (tgt := 103) hx hb dX7_performCommand_34 (by rw [c16]; decide) (by rw [c16]; decide) (by rw [c16]; rfl) (by decide) ?_
          refine lv_aload_n hx hb dX7_performCommand_103 rfl (lv_at hl 3 rfl) ?_
          refine getF (q0 := 4) (k0 := 0) (v := .ref a_g) C hE hP inA7 rfl rfl (by decide) qFX7_10 rfl rfl dX7_performCommand_104 ?_
          refine lv_iload_n hx hb dX7_performCommand_107 rfl (lv_at hl 2 rfl) ?_
          replace h := bnd h; obtain ⟨q17, e18, h⟩ := h
          refine wrVi (ws1 := [(a_g, .inr (1, [.ref a_gw, .ref a_gk])), (a_r, .inr (4, [.ref a_g, .ref a_rs, .ref a_rl, .ref a_ro])), (a_f, .inr (0, [.ref a_g, .int f_net])), (a_t, .inr (5, [.ref a_ti, .ref a_tn, .int t_len, .int t_cur, .int t_kin, .int t_tol, .int t_don])), (a_x, .inr (7, [.ref a_g, .ref a_b, .ref a_v, .ref a_h, .ref a_r, .ref a_f, .ref a_u, .ref a_t, .ref a_n, .int x_sav, .int x_err, .int x_rea, .int x_det, .int x_com])), (a_gw, .inl (T 0, 90, .inl q17.2.1)), (a_gk, .inl (T 0, 18, .inl q17.2.2)), (a_rs, .inl (T 0, 45, .inl v_rs)), (a_ro, .inl (T 1, 45, .inl v_ro)), (a_tn, .inl (T 0, 3, .inl v_tn))]) C hE hP hD hS hA (kX1_startSong l D T a_g a_gw a_gk v_gw v_gk q1 _ q17 e18) mX1_startSong qLX7_128 [0, 5, 6] [1, 2, 3, 4, 7, 8, 9] 0 rfl rfl rfl rfl rfl rfl rfl rfl rfl ⟨rfl, rfl⟩ ⟨Nat.le_of_ble_eq_true rfl, Nat.le_of_ble_eq_true rfl⟩ rfl hl.1 rfl (Nat.le_of_ble_eq_true rfl) dX7_performCommand_108 ⟨Nat.le_of_ble_eq_true rfl, Nat.le_of_ble_eq_true rfl⟩ ?_; clear hP hD hS; intro H locs hP hD hS
          refine lv_pop hx hb dX7_performCommand_111 rfl ?_
          refine lv_goto (tgt := 136) hx hb dX7_performCommand_112 (by decide) ?_
          replace h := Option.some.inj h
          exact hret _ _ _ _ dX7_performCommand_136 (by rw [← h]; exact hP) hS
        · replace h := ite_f c16 h
          by_cases c19 : (fX5_kind t_kin) = 4
          · replace h := ite_t c19 h
            refine lv_tableIn (tgt := 115) hx hb dX7_performCommand_34 (by rw [c19]; decide) (by rw [c19]; decide) (by rw [c19]; rfl) (by decide) ?_
            refine lv_aload_n hx hb dX7_performCommand_115 rfl (lv_at hl 3 rfl) ?_
            refine getF (q0 := 4) (k0 := 0) (v := .ref a_g) C hE hP inA7 rfl rfl (by decide) qFX7_10 rfl rfl dX7_performCommand_116 ?_
            refine lv_iload_n hx hb dX7_performCommand_119 rfl (lv_at hl 2 rfl) ?_
            refine lv_iload_n hx hb dX7_performCommand_120 rfl (lv_at hl 1 rfl) ?_
            replace h := bnd h; obtain ⟨q20, e21, h⟩ := h
            refine wrVi (ws1 := [(a_g, .inr (1, [.ref a_gw, .ref a_gk])), (a_r, .inr (4, [.ref a_g, .ref a_rs, .ref a_rl, .ref a_ro])), (a_f, .inr (0, [.ref a_g, .int f_net])), (a_t, .inr (5, [.ref a_ti, .ref a_tn, .int t_len, .int t_cur, .int t_kin, .int t_tol, .int t_don])), (a_x, .inr (7, [.ref a_g, .ref a_b, .ref a_v, .ref a_h, .ref a_r, .ref a_f, .ref a_u, .ref a_t, .ref a_n, .int x_sav, .int x_err, .int x_rea, .int x_det, .int x_com])), (a_gw, .inl (T 0, 90, .inl q20.2.1)), (a_gk, .inl (T 0, 18, .inl q20.2.2)), (a_rs, .inl (T 0, 45, .inl v_rs)), (a_ro, .inl (T 1, 45, .inl v_ro)), (a_tn, .inl (T 0, 3, .inl v_tn))]) C hE hP hD hS hA (kX1_substitute l D T a_g a_gw a_gk v_gw v_gk q1 q3 _ q20 e21) mX1_substitute qLX7_109 [0, 5, 6] [1, 2, 3, 4, 7, 8, 9] 0 rfl rfl rfl rfl rfl rfl rfl rfl rfl ⟨rfl, rfl⟩ ⟨Nat.le_of_ble_eq_true rfl, Nat.le_of_ble_eq_true rfl⟩ rfl hl.1 rfl (Nat.le_of_ble_eq_true rfl) dX7_performCommand_121 ⟨Nat.le_of_ble_eq_true rfl, Nat.le_of_ble_eq_true rfl⟩ ?_; clear hP hD hS; intro H locs hP hD hS
            refine lv_pop hx hb dX7_performCommand_124 rfl ?_
            refine lv_goto (tgt := 136) hx hb dX7_performCommand_125 (by decide) ?_
            replace h := Option.some.inj h
            exact hret _ _ _ _ dX7_performCommand_136 (by rw [← h]; exact hP) hS
          · replace h := ite_f c19 h
            refine lv_tableOut (tgt := 128) hx hb dX7_performCommand_34 (by have t0 := tI 0 rfl c7; have t1 := tI 1 rfl c10; have t2 := tI 2 rfl c13; have t3 := tI 3 rfl c16; have t4 := tI 4 rfl c19; omega) (by decide) ?_
            refine lv_aload_n hx hb dX7_performCommand_128 rfl (lv_at hl 3 rfl) ?_
            refine getF (q0 := 4) (k0 := 0) (v := .ref a_g) C hE hP inA7 rfl rfl (by decide) qFX7_10 rfl rfl dX7_performCommand_129 ?_
            replace h := bnd h; obtain ⟨q22, e23, h⟩ := h
            refine wrVi (ws1 := [(a_g, .inr (1, [.ref a_gw, .ref a_gk])), (a_r, .inr (4, [.ref a_g, .ref a_rs, .ref a_rl, .ref a_ro])), (a_f, .inr (0, [.ref a_g, .int f_net])), (a_t, .inr (5, [.ref a_ti, .ref a_tn, .int t_len, .int t_cur, .int t_kin, .int t_tol, .int t_don])), (a_x, .inr (7, [.ref a_g, .ref a_b, .ref a_v, .ref a_h, .ref a_r, .ref a_f, .ref a_u, .ref a_t, .ref a_n, .int x_sav, .int x_err, .int x_rea, .int x_det, .int x_com])), (a_gw, .inl (T 0, 90, .inl q22.2.1)), (a_gk, .inl (T 0, 18, .inl q22.2.2)), (a_rs, .inl (T 0, 45, .inl v_rs)), (a_ro, .inl (T 1, 45, .inl v_ro)), (a_tn, .inl (T 0, 3, .inl v_tn))]) C hE hP hD hS hA (kX1_endStroke l D T a_g a_gw a_gk v_gw v_gk _ q22 e23) mX1_endStroke qLX7_135 [0, 5, 6] [1, 2, 3, 4, 7, 8, 9] 0 rfl rfl rfl rfl rfl rfl rfl rfl rfl ⟨rfl, rfl⟩ ⟨Nat.le_of_ble_eq_true rfl, Nat.le_of_ble_eq_true rfl⟩ rfl hl.1 rfl (Nat.le_of_ble_eq_true rfl) dX7_performCommand_132 ⟨Nat.le_of_ble_eq_true rfl, Nat.le_of_ble_eq_true rfl⟩ ?_; clear hP hD hS; intro H locs hP hD hS
            refine lv_pop hx hb dX7_performCommand_135 rfl ?_
            replace h := Option.some.inj h
            exact hret _ _ _ _ dX7_performCommand_136 (by rw [← h]; exact hP) hS

def fX7_demandKnown_11 : Option Nat :=
  some 6
def fX7_demandKnown (p0 : Int32) : Option Nat :=
  if p0 = (-1) then
    fX7_demandKnown_11
  else
    if p0 = (-2) then
      fX7_demandKnown_11
    else
      some 0
set_option maxHeartbeats 4000000 in
set_option maxRecDepth 100000 in
theorem lX7_demandKnown_11 {p : Program} {l : Launch} {e : Env} {s : State} {m : MethodId} {args : Array Value} {below : List Frame} {meth : Method} {c : Code} {Q : State → Prop} {D : va_G} {T : Nat → ClassId} {A : Nat → Prop} {r : Nat} (C : CallFix p m c cX7_demandKnown 2 s args aw RX7) (hE : eK D T s) (hA : ∀ q : Nat, s.heap.size ≤ q → A q) (hZ : eX l A s) (hret : ThRetV p l e ({ frames := 6, cells := 1, slots := 6, locals := 90 } : Room) s m args below meth c Q cX7_demandKnown D A [] r ∧ ThOut p l e ({ frames := 6, cells := 1, slots := 6, locals := 90 } : Room) s m args below meth c Q D A [] r ∧ ThThr p l e ({ frames := 6, cells := 1, slots := 6, locals := 90 } : Room) s m args below meth c Q cX7_demandKnown RX7 D A [] r) {H : Heap} {locs : List Loc} (hPD : va_PD D A [] H) (hS : va_S A s.heap H locs) (ls : Array Slot) (hl : lv_has ls 2 []) (h : fX7_demandKnown_11 = some r) : W p l e ({ frames := 6, cells := 1, slots := 6, locals := 90 } : Room) s m args below meth c H locs 0 0 Q (F0 m 11 ls []) := by
  have hx := C.1
  have hb := C.2.1
  obtain ⟨hP, hD⟩ := hPD
  unfold fX7_demandKnown_11 at h
  replace h := Option.some.inj h
  exact hret.2.2 _ _ _ _ _ _ _ 314 318 382 _ "a command tells what there is not" (by rw [← h]; exact thrX7_314_318_6) (by decide +kernel) dX7_demandKnown_11 dX7_demandKnown_14 (Or.inr ⟨dX7_demandKnown_15, dX7_demandKnown_18, dX7_demandKnown_21⟩) (Nat.le_of_ble_eq_true rfl) (Nat.le_of_ble_eq_true rfl) (Nat.le_of_ble_eq_true rfl) (Nat.le_of_ble_eq_true rfl) (hl.1.trans C.2.2.1.symm) (by rw [← h]; exact (Nat.le_of_ble_eq_true rfl)) hP hS
set_option maxHeartbeats 4000000 in
set_option maxRecDepth 100000 in
theorem kX7_demandKnown (l : Launch) (hnt : l.stackTraces = false) (D : va_G) (T : Nat → ClassId) (a_x : Nat) (p0 : Int32) (sz : Nat) (r : Nat) (h : fX7_demandKnown p0 = some r) : ThV l yX7_demandKnown cX7_demandKnown 2 ({ frames := 6, cells := 1, slots := 6, locals := 90 } : Room) D T sz [] [] [.ref a_x, .int p0] r := by
  unfold fX7_demandKnown at h
  refine thMetV hnt (by decide +kernel) rfl (fun p e s m args below meth c Q A C hE hA hZ hP hD hS hret ls hl => ?_)
  have hx := C.1
  have hb := C.2.1
  have hl : lv_has ls 2 [(0, .ref a_x), (1, .int p0)] := hl
  refine lv_iload_n hx hb dX7_demandKnown_0 rfl (lv_at hl 1 rfl) ?_
  refine lv_iconst (v := (-1)) hx hb dX7_demandKnown_1 (by decide) ?_
  refine lv_icmp_eq (tgt := 11) hx hb dX7_demandKnown_2 (by decide) (fun c1 => ?_) (fun c1 => ?_)
  · replace h := ite_t c1 h
    exact lX7_demandKnown_11 C hE hA hZ hret ⟨hP, hD⟩ hS _ (lv_sub hl [] rfl) h
  · replace h := ite_f c1 h
    refine lv_iload_n hx hb dX7_demandKnown_5 rfl (lv_at hl 1 rfl) ?_
    refine lv_bipush (v := (-2)) hx hb dX7_demandKnown_6 (by decide) ?_
    refine lv_icmp_ne (tgt := 22) hx hb dX7_demandKnown_8 (by decide) (fun c2 => ?_) (fun c2 => ?_)
    · replace h := ite_f c2 h
      replace h := Option.some.inj h
      exact hret.1 _ _ _ _ _ _ (Nat.le_of_ble_eq_true rfl) (Nat.le_of_ble_eq_true rfl) dX7_demandKnown_22 (by rw [← h]) hP hS
    · replace h := ite_t c2 h
      exact lX7_demandKnown_11 C hE hA hZ hret ⟨hP, hD⟩ hS _ (lv_sub hl [] rfl) h

def fX7_errorPosition (x_err : Int32) : Option (Nat × Int32) :=
  if x_err = (-1) then
    some (4, 0)
  else
    some (0, x_err)
set_option maxHeartbeats 4000000 in
set_option maxRecDepth 100000 in
theorem kX7_errorPosition (l : Launch) (hnt : l.stackTraces = false) (D : va_G) (T : Nat → ClassId) (a_x a_g a_b a_v a_h a_r a_f a_u a_t a_n : Nat) (x_sav : Int32) (x_err : Int32) (x_rea : Int32) (x_det : Int32) (x_com : Int32) (sz : Nat) (r : Nat × Int32) (h : fX7_errorPosition x_err = some r) : ThI l yX7_errorPosition cX7_errorPosition 1 .int ({ frames := 6, cells := 1, slots := 6, locals := 90 } : Room) D T sz [(a_x, .inr (7, [.ref a_g, .ref a_b, .ref a_v, .ref a_h, .ref a_r, .ref a_f, .ref a_u, .ref a_t, .ref a_n, .int x_sav, .int x_err, .int x_rea, .int x_det, .int x_com]))] [(a_x, .inr (7, [.ref a_g, .ref a_b, .ref a_v, .ref a_h, .ref a_r, .ref a_f, .ref a_u, .ref a_t, .ref a_n, .int x_sav, .int x_err, .int x_rea, .int x_det, .int x_com]))] [.ref a_x] r.1 r.2 := by
  unfold fX7_errorPosition at h
  refine thMetI hnt (by decide +kernel) rfl (fun p e s m args below meth c Q A C hE hA hZ hP hD hS hret ls hl => ?_)
  have hx := C.1
  have hb := C.2.1
  have hl : lv_has ls 1 [(0, .ref a_x)] := hl
  refine lv_aload_n hx hb dX7_errorPosition_0 rfl (lv_at hl 0 rfl) ?_
  refine getF (q0 := 0) (k0 := 10) (v := .int x_err) C hE hP inA7 rfl rfl (by decide) qFX7_72 rfl rfl dX7_errorPosition_1 ?_
  refine lv_iconst (v := (-1)) hx hb dX7_errorPosition_4 (by decide) ?_
  refine lv_icmp_ne (tgt := 19) hx hb dX7_errorPosition_5 (by decide) (fun c1 => ?_) (fun c1 => ?_)
  · replace h := ite_f c1 h
    refine lv_aload_n hx hb dX7_errorPosition_19 rfl (lv_at hl 0 rfl) ?_
    refine getF (q0 := 0) (k0 := 10) (v := .int x_err) C hE hP inA7 rfl rfl (by decide) qFX7_72 rfl rfl dX7_errorPosition_20 ?_
    replace h := Option.some.inj h
    exact hret.1 _ _ _ _ _ _ _ _ (Nat.le_of_ble_eq_true rfl) (Nat.le_of_ble_eq_true rfl) dX7_errorPosition_23 rfl (by rw [← h]) (by rw [← h] <;> rfl) hP hS
  · replace h := ite_t c1 h
    replace h := Option.some.inj h
    exact hret.2.2 _ _ _ _ _ _ _ 173 177 360 _ "no error position was kept" (by rw [← h]; exact thrX7_173_177_4) (by decide +kernel) dX7_errorPosition_8 dX7_errorPosition_11 (Or.inr ⟨dX7_errorPosition_12, dX7_errorPosition_15, dX7_errorPosition_18⟩) (Nat.le_of_ble_eq_true rfl) (Nat.le_of_ble_eq_true rfl) (Nat.le_of_ble_eq_true rfl) (Nat.le_of_ble_eq_true rfl) (hl.1.trans C.2.2.1.symm) (by rw [← h]; exact (Nat.le_of_ble_eq_true rfl)) hP hS

def fX7_reason_9 (x_rea : Int32) (x_det : Int32) (x_com : Int32) : Option (Nat × Int32) :=
  some (1, 0)
def fX7_reason (x_rea : Int32) (x_det : Int32) (x_com : Int32) (p0 : Int32) : Option (Nat × Int32) :=
  if p0 < 0 then
    fX7_reason_9 x_rea x_det x_com
  else
    if p0 ≤ 2 then
      if x_rea = 0 then
        some (4, 0)
      else
        if p0 = 0 then
          some (0, x_rea)
        else
          if p0 = 1 then
            some (0, x_det)
          else
            some (0, x_com)
    else
      fX7_reason_9 x_rea x_det x_com
set_option maxHeartbeats 4000000 in
set_option maxRecDepth 100000 in
theorem lX7_reason_9 {p : Program} {l : Launch} {e : Env} {s : State} {m : MethodId} {args : Array Value} {below : List Frame} {meth : Method} {c : Code} {Q : State → Prop} {D : va_G} {T : Nat → ClassId} {a_x a_g a_b a_v a_h a_r a_f a_u a_t a_n : Nat} {x_sav : Int32} {x_err : Int32} {x_rea : Int32} {x_det : Int32} {x_com : Int32} {A : Nat → Prop} {r : Nat × Int32} (C : CallFix p m c cX7_reason 2 s args aw RX7) (hE : eK D T s) (hA : ∀ q : Nat, s.heap.size ≤ q → A q) (hZ : eX l A s) (hret : ThRetI p l e ({ frames := 6, cells := 1, slots := 6, locals := 90 } : Room) s m args below meth c Q cX7_reason .int D A [(a_x, .inr (7, [.ref a_g, .ref a_b, .ref a_v, .ref a_h, .ref a_r, .ref a_f, .ref a_u, .ref a_t, .ref a_n, .int x_sav, .int x_err, .int x_rea, .int x_det, .int x_com]))] r.1 r.2 ∧ ThOut p l e ({ frames := 6, cells := 1, slots := 6, locals := 90 } : Room) s m args below meth c Q D A [(a_x, .inr (7, [.ref a_g, .ref a_b, .ref a_v, .ref a_h, .ref a_r, .ref a_f, .ref a_u, .ref a_t, .ref a_n, .int x_sav, .int x_err, .int x_rea, .int x_det, .int x_com]))] r.1 ∧ ThThr p l e ({ frames := 6, cells := 1, slots := 6, locals := 90 } : Room) s m args below meth c Q cX7_reason RX7 D A [(a_x, .inr (7, [.ref a_g, .ref a_b, .ref a_v, .ref a_h, .ref a_r, .ref a_f, .ref a_u, .ref a_t, .ref a_n, .int x_sav, .int x_err, .int x_rea, .int x_det, .int x_com]))] r.1) {H : Heap} {locs : List Loc} (hPD : va_PD D A [(a_x, .inr (7, [.ref a_g, .ref a_b, .ref a_v, .ref a_h, .ref a_r, .ref a_f, .ref a_u, .ref a_t, .ref a_n, .int x_sav, .int x_err, .int x_rea, .int x_det, .int x_com]))] H) (hS : va_S A s.heap H locs) (ls : Array Slot) (hl : lv_has ls 2 []) (h : fX7_reason_9 x_rea x_det x_com = some r) : W p l e ({ frames := 6, cells := 1, slots := 6, locals := 90 } : Room) s m args below meth c H locs 0 0 Q (F0 m 9 ls []) := by
  have hx := C.1
  have hb := C.2.1
  obtain ⟨hP, hD⟩ := hPD
  unfold fX7_reason_9 at h
  replace h := Option.some.inj h
  exact hret.2.2 _ _ _ _ _ _ _ 141 145 362 _ "no such number of a refusal" (by rw [← h]; exact thrX7_141_145_1) (by decide +kernel) dX7_reason_9 dX7_reason_12 (Or.inr ⟨dX7_reason_13, dX7_reason_16, dX7_reason_19⟩) (Nat.le_of_ble_eq_true rfl) (Nat.le_of_ble_eq_true rfl) (Nat.le_of_ble_eq_true rfl) (Nat.le_of_ble_eq_true rfl) (hl.1.trans C.2.2.1.symm) (by rw [← h]; exact (Nat.le_of_ble_eq_true rfl)) hP hS
set_option maxHeartbeats 4000000 in
set_option maxRecDepth 100000 in
theorem kX7_reason (l : Launch) (hnt : l.stackTraces = false) (D : va_G) (T : Nat → ClassId) (a_x a_g a_b a_v a_h a_r a_f a_u a_t a_n : Nat) (x_sav : Int32) (x_err : Int32) (x_rea : Int32) (x_det : Int32) (x_com : Int32) (p0 : Int32) (sz : Nat) (r : Nat × Int32) (h : fX7_reason x_rea x_det x_com p0 = some r) : ThI l yX7_reason cX7_reason 2 .int ({ frames := 6, cells := 1, slots := 6, locals := 90 } : Room) D T sz [(a_x, .inr (7, [.ref a_g, .ref a_b, .ref a_v, .ref a_h, .ref a_r, .ref a_f, .ref a_u, .ref a_t, .ref a_n, .int x_sav, .int x_err, .int x_rea, .int x_det, .int x_com]))] [(a_x, .inr (7, [.ref a_g, .ref a_b, .ref a_v, .ref a_h, .ref a_r, .ref a_f, .ref a_u, .ref a_t, .ref a_n, .int x_sav, .int x_err, .int x_rea, .int x_det, .int x_com]))] [.ref a_x, .int p0] r.1 r.2 := by
  unfold fX7_reason at h
  refine thMetI hnt (by decide +kernel) rfl (fun p e s m args below meth c Q A C hE hA hZ hP hD hS hret ls hl => ?_)
  have hx := C.1
  have hb := C.2.1
  have hl : lv_has ls 2 [(0, .ref a_x), (1, .int p0)] := hl
  refine lv_iload_n hx hb dX7_reason_0 rfl (lv_at hl 1 rfl) ?_
  refine lv_if_lt (tgt := 9) hx hb dX7_reason_1 (by decide) (fun c1 => ?_) (fun c1 => ?_)
  · replace h := ite_t c1 h
    exact lX7_reason_9 C hE hA hZ hret ⟨hP, hD⟩ hS _ (lv_sub hl [] rfl) h
  · replace h := ite_f c1 h
    refine lv_iload_n hx hb dX7_reason_4 rfl (lv_at hl 1 rfl) ?_
    refine lv_iconst (v := 2) hx hb dX7_reason_5 (by decide) ?_
    refine lv_icmp_le (tgt := 20) hx hb dX7_reason_6 (by decide) (fun c2 => ?_) (fun c2 => ?_)
    · replace h := ite_t c2 h
      refine lv_aload_n hx hb dX7_reason_20 rfl (lv_at hl 0 rfl) ?_
      refine getF (q0 := 0) (k0 := 11) (v := .int x_rea) C hE hP inA7 rfl rfl (by decide) qFX7_76 rfl rfl dX7_reason_21 ?_
      refine lv_if_ne (tgt := 38) hx hb dX7_reason_24 (by decide) (fun c3 => ?_) (fun c3 => ?_)
      · replace h := ite_f c3 h
        refine lv_iload_n hx hb dX7_reason_38 rfl (lv_at hl 1 rfl) ?_
        refine lv_if_ne (tgt := 47) hx hb dX7_reason_39 (by decide) (fun c4 => ?_) (fun c4 => ?_)
        · replace h := ite_f c4 h
          refine lv_iload_n hx hb dX7_reason_47 rfl (lv_at hl 1 rfl) ?_
          refine lv_iconst (v := 1) hx hb dX7_reason_48 (by decide) ?_
          refine lv_icmp_ne (tgt := 59) hx hb dX7_reason_49 (by decide) (fun c5 => ?_) (fun c5 => ?_)
          · replace h := ite_f c5 h
            refine lv_aload_n hx hb dX7_reason_59 rfl (lv_at hl 0 rfl) ?_
            refine getF (q0 := 0) (k0 := 13) (v := .int x_com) C hE hP inA7 rfl rfl (by decide) qFX7_82 rfl rfl dX7_reason_60 ?_
            replace h := Option.some.inj h
            exact hret.1 _ _ _ _ _ _ _ _ (Nat.le_of_ble_eq_true rfl) (Nat.le_of_ble_eq_true rfl) dX7_reason_63 rfl (by rw [← h]) (by rw [← h] <;> rfl) hP hS
          · replace h := ite_t c5 h
            refine lv_aload_n hx hb dX7_reason_52 rfl (lv_at hl 0 rfl) ?_
            refine getF (q0 := 0) (k0 := 12) (v := .int x_det) C hE hP inA7 rfl rfl (by decide) qFX7_79 rfl rfl dX7_reason_53 ?_
            refine lv_goto (tgt := 63) hx hb dX7_reason_56 (by decide) ?_
            replace h := Option.some.inj h
            exact hret.1 _ _ _ _ _ _ _ _ (Nat.le_of_ble_eq_true rfl) (Nat.le_of_ble_eq_true rfl) dX7_reason_63 rfl (by rw [← h]) (by rw [← h] <;> rfl) hP hS
        · replace h := ite_t c4 h
          refine lv_aload_n hx hb dX7_reason_42 rfl (lv_at hl 0 rfl) ?_
          refine getF (q0 := 0) (k0 := 11) (v := .int x_rea) C hE hP inA7 rfl rfl (by decide) qFX7_76 rfl rfl dX7_reason_43 ?_
          replace h := Option.some.inj h
          exact hret.1 _ _ _ _ _ _ _ _ (Nat.le_of_ble_eq_true rfl) (Nat.le_of_ble_eq_true rfl) dX7_reason_46 rfl (by rw [← h]) (by rw [← h] <;> rfl) hP hS
      · replace h := ite_t c3 h
        replace h := Option.some.inj h
        exact hret.2.2 _ _ _ _ _ _ _ 173 177 364 _ "no reason was kept" (by rw [← h]; exact thrX7_173_177_4) (by decide +kernel) dX7_reason_27 dX7_reason_30 (Or.inr ⟨dX7_reason_31, dX7_reason_34, dX7_reason_37⟩) (Nat.le_of_ble_eq_true rfl) (Nat.le_of_ble_eq_true rfl) (Nat.le_of_ble_eq_true rfl) (Nat.le_of_ble_eq_true rfl) (hl.1.trans C.2.2.1.symm) (by rw [← h]; exact (Nat.le_of_ble_eq_true rfl)) hP hS
    · replace h := ite_f c2 h
      exact lX7_reason_9 C hE hA hZ hret ⟨hP, hD⟩ hS _ (lv_sub hl [] rfl) h

def fX7_save (x_sav : Int32) (v_gw : Nat → Int32) (v_gk : Nat → Int32) (v_vw : Nat → Int32) (v_vk : Nat → Int32) : Option (Int32 × Int32 × (Nat → Int32) × (Nat → Int32)) :=
  (fX1_copyFrom v_vw v_vk v_gw v_gk).bind fun q1 =>
  (fX1_count v_gk 1).bind fun q3 =>
  some (q3, 1, q1.1, q1.2)
set_option maxHeartbeats 4000000 in
set_option maxRecDepth 100000 in
theorem kX7_save (l : Launch) (D : va_G) (T : Nat → ClassId) (a_g a_gw a_gk a_v a_vw a_vk a_x a_b a_h a_r a_f a_u a_t a_n : Nat) (x_sav : Int32) (x_err : Int32) (x_rea : Int32) (x_det : Int32) (x_com : Int32) (v_gw : Nat → Int32) (v_gk : Nat → Int32) (v_vw : Nat → Int32) (v_vk : Nat → Int32) (sz : Nat) (r : Int32 × Int32 × (Nat → Int32) × (Nat → Int32)) (h : fX7_save x_sav v_gw v_gk v_vw v_vk = some r) : WrI l yX7_save cX7_save 1 .int ({ frames := 2, cells := 0, slots := 0, locals := 121 } : Room) D T sz [(a_g, .inr (1, [.ref a_gw, .ref a_gk])), (a_v, .inr (1, [.ref a_vw, .ref a_vk])), (a_x, .inr (7, [.ref a_g, .ref a_b, .ref a_v, .ref a_h, .ref a_r, .ref a_f, .ref a_u, .ref a_t, .ref a_n, .int x_sav, .int x_err, .int x_rea, .int x_det, .int x_com])), (a_gw, .inl (T 0, 90, .inl v_gw)), (a_gk, .inl (T 0, 18, .inl v_gk)), (a_vw, .inl (T 0, 90, .inl v_vw)), (a_vk, .inl (T 0, 18, .inl v_vk))] [(a_g, .inr (1, [.ref a_gw, .ref a_gk])), (a_v, .inr (1, [.ref a_vw, .ref a_vk])), (a_x, .inr (7, [.ref a_g, .ref a_b, .ref a_v, .ref a_h, .ref a_r, .ref a_f, .ref a_u, .ref a_t, .ref a_n, .int r.2.1, .int x_err, .int x_rea, .int x_det, .int x_com])), (a_gw, .inl (T 0, 90, .inl v_gw)), (a_gk, .inl (T 0, 18, .inl v_gk)), (a_vw, .inl (T 0, 90, .inl r.2.2.1)), (a_vk, .inl (T 0, 18, .inl r.2.2.2))] [.ref a_x] r.1 := by
  unfold fX7_save at h
  refine wrMet (by decide +kernel) rfl (fun p e s m args below meth c Q A C hE hA hP hD hS hret ls hl => ?_)
  have hx := C.1
  have hb := C.2.1
  have hl : lv_has ls 1 [(0, .ref a_x)] := hl
  refine lv_aload_n hx hb dX7_save_0 rfl (lv_at hl 0 rfl) ?_
  refine getF (q0 := 2) (k0 := 2) (v := .ref a_v) C hE hP inA7 rfl rfl (by decide) qFX7_19 rfl rfl dX7_save_1 ?_
  refine lv_aload_n hx hb dX7_save_4 rfl (lv_at hl 0 rfl) ?_
  refine getF (q0 := 2) (k0 := 0) (v := .ref a_g) C hE hP inA7 rfl rfl (by decide) qFX7_10 rfl rfl dX7_save_5 ?_
  replace h := bnd h; obtain ⟨q1, e2, h⟩ := h
  refine wrVv (ws1 := [(a_g, .inr (1, [.ref a_gw, .ref a_gk])), (a_v, .inr (1, [.ref a_vw, .ref a_vk])), (a_x, .inr (7, [.ref a_g, .ref a_b, .ref a_v, .ref a_h, .ref a_r, .ref a_f, .ref a_u, .ref a_t, .ref a_n, .int x_sav, .int x_err, .int x_rea, .int x_det, .int x_com])), (a_gw, .inl (T 0, 90, .inl v_gw)), (a_gk, .inl (T 0, 18, .inl v_gk)), (a_vw, .inl (T 0, 90, .inl q1.1)), (a_vk, .inl (T 0, 18, .inl q1.2))]) C hE hP hD hS hA (kX1_copyFrom l D T a_v a_vw a_vk a_g a_gw a_gk v_vw v_vk v_gw v_gk _ q1 e2) mX1_copyFrom qLX7_328 [1, 0, 5, 6, 3, 4] [2] 1 rfl rfl rfl rfl rfl rfl rfl rfl rfl ⟨rfl, rfl⟩ ⟨Nat.le_of_ble_eq_true rfl, Nat.le_of_ble_eq_true rfl⟩ rfl hl.1 rfl (Nat.le_of_ble_eq_true rfl) dX7_save_8 ⟨Nat.le_of_ble_eq_true rfl, Nat.le_of_ble_eq_true rfl⟩ ?_; clear hP hD hS; intro H locs hP hD hS
  refine lv_aload_n hx hb dX7_save_11 rfl (lv_at hl 0 rfl) ?_
  refine lv_iconst (v := 1) hx hb dX7_save_12 (by decide) ?_
  refine putF (q0 := 2) (k0 := 9) (ws1 := [(a_g, .inr (1, [.ref a_gw, .ref a_gk])), (a_v, .inr (1, [.ref a_vw, .ref a_vk])), (a_x, .inr (7, [.ref a_g, .ref a_b, .ref a_v, .ref a_h, .ref a_r, .ref a_f, .ref a_u, .ref a_t, .ref a_n, .int 1, .int x_err, .int x_rea, .int x_det, .int x_com])), (a_gw, .inl (T 0, 90, .inl v_gw)), (a_gk, .inl (T 0, 18, .inl v_gk)), (a_vw, .inl (T 0, 90, .inl q1.1)), (a_vk, .inl (T 0, 18, .inl q1.2))]) C hE hP hD hS inA7 tyX7_ok nmX7 rfl rfl (by decide) qFX7_68 rfl rfl rfl rfl (Nat.le_of_ble_eq_true rfl) rfl dX7_save_13 ?_; clear hP hD hS; intro H locs hP hD hS
  refine lv_aload_n hx hb dX7_save_16 rfl (lv_at hl 0 rfl) ?_
  refine getF (q0 := 2) (k0 := 0) (v := .ref a_g) C hE hP inA7 rfl rfl (by decide) qFX7_10 rfl rfl dX7_save_17 ?_
  refine lv_iconst (v := 1) hx hb dX7_save_20 (by decide) ?_
  replace h := bnd h; obtain ⟨q3, e4, h⟩ := h
  refine rdV C hE hP (kX1_count l D T a_g a_gw a_gk v_gk 1 q3 e4) mX1_count qLX7_235 [0, 4] 0 rfl rfl rfl rfl ⟨rfl, rfl⟩ ⟨Nat.le_of_ble_eq_true rfl, Nat.le_of_ble_eq_true rfl⟩ rfl hl.1 rfl (Nat.le_of_ble_eq_true rfl) dX7_save_21 ⟨Nat.le_of_ble_eq_true rfl, Nat.le_of_ble_eq_true rfl⟩ ?_
  replace h := Option.some.inj h
  exact hret _ _ _ _ _ _ dX7_save_24 rfl (by rw [← h] <;> rfl) (by rw [← h]; exact hP) hS

def fX7_restore (h_siz : Int32) (x_sav : Int32) (v_gw : Nat → Int32) (v_gk : Nat → Int32) (v_vw : Nat → Int32) (v_vk : Nat → Int32) : Option (Nat × Int32 × Int32 × (Nat → Int32) × (Nat → Int32)) :=
  if x_sav = 0 then
    some (6, 0, h_siz, v_gw, v_gk)
  else
    (fX1_copyFrom v_gw v_gk v_vw v_vk).bind fun q2 =>
    (fX2_forgetAll h_siz).bind fun q4 =>
    (fX1_count q2.2 1).bind fun q6 =>
    some (0, q6, q4, q2.1, q2.2)
set_option maxHeartbeats 4000000 in
set_option maxRecDepth 100000 in
theorem kX7_restore (l : Launch) (hnt : l.stackTraces = false) (D : va_G) (T : Nat → ClassId) (a_g a_gw a_gk a_v a_vw a_vk a_h a_hp a_x a_b a_r a_f a_u a_t a_n : Nat) (h_old : Int32) (h_siz : Int32) (x_sav : Int32) (x_err : Int32) (x_rea : Int32) (x_det : Int32) (x_com : Int32) (v_gw : Nat → Int32) (v_gk : Nat → Int32) (v_vw : Nat → Int32) (v_vk : Nat → Int32) (sz : Nat) (r : Nat × Int32 × Int32 × (Nat → Int32) × (Nat → Int32)) (h : fX7_restore h_siz x_sav v_gw v_gk v_vw v_vk = some r) : ThI l yX7_restore cX7_restore 1 .int ({ frames := 6, cells := 1, slots := 6, locals := 121 } : Room) D T sz [(a_g, .inr (1, [.ref a_gw, .ref a_gk])), (a_v, .inr (1, [.ref a_vw, .ref a_vk])), (a_h, .inr (2, [.ref a_hp, .int h_old, .int h_siz])), (a_x, .inr (7, [.ref a_g, .ref a_b, .ref a_v, .ref a_h, .ref a_r, .ref a_f, .ref a_u, .ref a_t, .ref a_n, .int x_sav, .int x_err, .int x_rea, .int x_det, .int x_com])), (a_gw, .inl (T 0, 90, .inl v_gw)), (a_gk, .inl (T 0, 18, .inl v_gk)), (a_vw, .inl (T 0, 90, .inl v_vw)), (a_vk, .inl (T 0, 18, .inl v_vk))] [(a_g, .inr (1, [.ref a_gw, .ref a_gk])), (a_v, .inr (1, [.ref a_vw, .ref a_vk])), (a_h, .inr (2, [.ref a_hp, .int h_old, .int r.2.2.1])), (a_x, .inr (7, [.ref a_g, .ref a_b, .ref a_v, .ref a_h, .ref a_r, .ref a_f, .ref a_u, .ref a_t, .ref a_n, .int x_sav, .int x_err, .int x_rea, .int x_det, .int x_com])), (a_gw, .inl (T 0, 90, .inl r.2.2.2.1)), (a_gk, .inl (T 0, 18, .inl r.2.2.2.2)), (a_vw, .inl (T 0, 90, .inl v_vw)), (a_vk, .inl (T 0, 18, .inl v_vk))] [.ref a_x] r.1 r.2.1 := by
  unfold fX7_restore at h
  refine thMetI hnt (by decide +kernel) rfl (fun p e s m args below meth c Q A C hE hA hZ hP hD hS hret ls hl => ?_)
  have hx := C.1
  have hb := C.2.1
  have hl : lv_has ls 1 [(0, .ref a_x)] := hl
  refine lv_aload_n hx hb dX7_restore_0 rfl (lv_at hl 0 rfl) ?_
  refine getF (q0 := 3) (k0 := 9) (v := .int x_sav) C hE hP inA7 rfl rfl (by decide) qFX7_68 rfl rfl dX7_restore_1 ?_
  refine lv_if_ne (tgt := 18) hx hb dX7_restore_4 (by decide) (fun c1 => ?_) (fun c1 => ?_)
  · replace h := ite_f c1 h
    refine lv_aload_n hx hb dX7_restore_18 rfl (lv_at hl 0 rfl) ?_
    refine getF (q0 := 3) (k0 := 0) (v := .ref a_g) C hE hP inA7 rfl rfl (by decide) qFX7_10 rfl rfl dX7_restore_19 ?_
    refine lv_aload_n hx hb dX7_restore_22 rfl (lv_at hl 0 rfl) ?_
    refine getF (q0 := 3) (k0 := 2) (v := .ref a_v) C hE hP inA7 rfl rfl (by decide) qFX7_19 rfl rfl dX7_restore_23 ?_
    replace h := bnd h; obtain ⟨q2, e3, h⟩ := h
    refine wrVv (ws1 := [(a_g, .inr (1, [.ref a_gw, .ref a_gk])), (a_v, .inr (1, [.ref a_vw, .ref a_vk])), (a_h, .inr (2, [.ref a_hp, .int h_old, .int h_siz])), (a_x, .inr (7, [.ref a_g, .ref a_b, .ref a_v, .ref a_h, .ref a_r, .ref a_f, .ref a_u, .ref a_t, .ref a_n, .int x_sav, .int x_err, .int x_rea, .int x_det, .int x_com])), (a_gw, .inl (T 0, 90, .inl q2.1)), (a_gk, .inl (T 0, 18, .inl q2.2)), (a_vw, .inl (T 0, 90, .inl v_vw)), (a_vk, .inl (T 0, 18, .inl v_vk))]) C hE hP hD hS hA (kX1_copyFrom l D T a_g a_gw a_gk a_v a_vw a_vk v_gw v_gk v_vw v_vk _ q2 e3) mX1_copyFrom qLX7_328 [0, 1, 4, 5, 6, 7] [2, 3] 0 rfl rfl rfl rfl rfl rfl rfl rfl rfl ⟨rfl, rfl⟩ ⟨Nat.le_of_ble_eq_true rfl, Nat.le_of_ble_eq_true rfl⟩ rfl hl.1 rfl (Nat.le_of_ble_eq_true rfl) dX7_restore_26 ⟨Nat.le_of_ble_eq_true rfl, Nat.le_of_ble_eq_true rfl⟩ ?_; clear hP hD hS; intro H locs hP hD hS
    refine lv_aload_n hx hb dX7_restore_29 rfl (lv_at hl 0 rfl) ?_
    refine getF (q0 := 3) (k0 := 3) (v := .ref a_h) C hE hP inA7 rfl rfl (by decide) qFX7_25 rfl rfl dX7_restore_30 ?_
    replace h := bnd h; obtain ⟨q4, e5, h⟩ := h
    refine wrVv (ws1 := [(a_g, .inr (1, [.ref a_gw, .ref a_gk])), (a_v, .inr (1, [.ref a_vw, .ref a_vk])), (a_h, .inr (2, [.ref a_hp, .int h_old, .int q4])), (a_x, .inr (7, [.ref a_g, .ref a_b, .ref a_v, .ref a_h, .ref a_r, .ref a_f, .ref a_u, .ref a_t, .ref a_n, .int x_sav, .int x_err, .int x_rea, .int x_det, .int x_com])), (a_gw, .inl (T 0, 90, .inl q2.1)), (a_gk, .inl (T 0, 18, .inl q2.2)), (a_vw, .inl (T 0, 90, .inl v_vw)), (a_vk, .inl (T 0, 18, .inl v_vk))]) C hE hP hD hS hA (kX2_forgetAll l D T a_h a_hp h_old h_siz _ q4 e5) mX2_forgetAll qLX7_373 [2] [0, 1, 3, 4, 5, 6, 7] 2 rfl rfl rfl rfl rfl rfl rfl rfl rfl ⟨rfl, rfl⟩ ⟨Nat.le_of_ble_eq_true rfl, Nat.le_of_ble_eq_true rfl⟩ rfl hl.1 rfl (Nat.le_of_ble_eq_true rfl) dX7_restore_33 ⟨Nat.le_of_ble_eq_true rfl, Nat.le_of_ble_eq_true rfl⟩ ?_; clear hP hD hS; intro H locs hP hD hS
    refine lv_aload_n hx hb dX7_restore_36 rfl (lv_at hl 0 rfl) ?_
    refine getF (q0 := 3) (k0 := 0) (v := .ref a_g) C hE hP inA7 rfl rfl (by decide) qFX7_10 rfl rfl dX7_restore_37 ?_
    refine lv_iconst (v := 1) hx hb dX7_restore_40 (by decide) ?_
    replace h := bnd h; obtain ⟨q6, e7, h⟩ := h
    refine rdV C hE hP (kX1_count l D T a_g a_gw a_gk q2.2 1 q6 e7) mX1_count qLX7_235 [0, 5] 0 rfl rfl rfl rfl ⟨rfl, rfl⟩ ⟨Nat.le_of_ble_eq_true rfl, Nat.le_of_ble_eq_true rfl⟩ rfl hl.1 rfl (Nat.le_of_ble_eq_true rfl) dX7_restore_41 ⟨Nat.le_of_ble_eq_true rfl, Nat.le_of_ble_eq_true rfl⟩ ?_
    replace h := Option.some.inj h
    exact hret.1 _ _ _ _ _ _ _ _ (Nat.le_of_ble_eq_true rfl) (Nat.le_of_ble_eq_true rfl) dX7_restore_44 rfl (by rw [← h]) (by rw [← h] <;> rfl) (by rw [← h]; exact hP) hS
  · replace h := ite_t c1 h
    replace h := Option.some.inj h
    exact hret.2.2 _ _ _ _ _ _ _ 314 318 371 _ "nothing was saved" (by rw [← h]; exact thrX7_314_318_6) (by decide +kernel) dX7_restore_7 dX7_restore_10 (Or.inr ⟨dX7_restore_11, dX7_restore_14, dX7_restore_17⟩) (Nat.le_of_ble_eq_true rfl) (Nat.le_of_ble_eq_true rfl) (Nat.le_of_ble_eq_true rfl) (Nat.le_of_ble_eq_true rfl) (hl.1.trans C.2.2.1.symm) (by rw [← h]; exact (Nat.le_of_ble_eq_true rfl)) (by rw [← h]; exact hP) hS

def fX8_thrown (m_thr : Int32) : Int32 :=
  m_thr
set_option maxHeartbeats 4000000 in
set_option maxRecDepth 100000 in
theorem kX8_thrown (l : Launch) (D : va_G) (T : Nat → ClassId) (a_m a_ms a_mw a_mv a_mp a_mf a_ml a_mt a_mc : Nat) (m_chg : Int32) (m_thr : Int32) (m_rea : Int32) (m_det : Int32) (m_ref : Int32) (m_err : Int32) (m_ans : Int32) (m_sav : Int32) (m_net : Int32) (m_lin : Int32) (m_tap : Int32) (m_her : Int32) (m_cmd : Int32) : RdI l yX8_thrown cX8_thrown 1 .int ({ frames := 0, cells := 0, slots := 0, locals := 0 } : Room) D T [(a_m, .inr (8, [.ref a_ms, .ref a_mw, .ref a_mv, .ref a_mp, .ref a_mf, .int m_chg, .int m_thr, .int m_rea, .int m_det, .int m_ref, .int m_err, .int m_ans, .int m_sav, .int m_net, .ref a_ml, .int m_lin, .ref a_mt, .ref a_mc, .int m_tap, .int m_her, .int m_cmd]))] [.ref a_m] (fX8_thrown m_thr) := by
  obtain ⟨r, h⟩ : ∃ r, fX8_thrown m_thr = r := ⟨_, rfl⟩
  rw [h]
  unfold fX8_thrown at h
  refine rdMet (by decide +kernel) rfl (fun p e s m args below meth c Q C hE hP hret ls hl => ?_)
  have hx := C.1
  have hb := C.2.1
  have hl : lv_has ls 1 [(0, .ref a_m)] := hl
  refine lv_aload_n hx hb dX8_thrown_0 rfl (lv_at hl 0 rfl) ?_
  refine getF (q0 := 0) (k0 := 6) (v := .int m_thr) C hE hP inA8 rfl rfl (by decide) qFX8_41 rfl rfl dX8_thrown_1 ?_
  exact hret _ _ _ _ dX8_thrown_4 rfl h

def fX8_isIn (p0 : Int32) (p1 : Int32) (p2 : Int32) : Int32 :=
  if p0 < p1 then
    0
  else
    if p2 < p0 then
      0
    else
      1
set_option maxHeartbeats 4000000 in
set_option maxRecDepth 100000 in
theorem kX8_isIn (l : Launch) (D : va_G) (T : Nat → ClassId) (p0 : Int32) (p1 : Int32) (p2 : Int32) : RdI l yX8_isIn cX8_isIn 3 .boolean ({ frames := 0, cells := 0, slots := 0, locals := 0 } : Room) D T [] [.int p0, .int p1, .int p2] (fX8_isIn p0 p1 p2) := by
  obtain ⟨r, h⟩ : ∃ r, fX8_isIn p0 p1 p2 = r := ⟨_, rfl⟩
  rw [h]
  unfold fX8_isIn at h
  refine rdMet (by decide +kernel) rfl (fun p e s m args below meth c Q C hE hP hret ls hl => ?_)
  have hx := C.1
  have hb := C.2.1
  have hl : lv_has ls 3 [(0, .int p0), (1, .int p1), (2, .int p2)] := hl
  refine lv_iload_n hx hb dX8_isIn_0 rfl (lv_at hl 0 rfl) ?_
  refine lv_iload_n hx hb dX8_isIn_1 rfl (lv_at hl 1 rfl) ?_
  refine lv_icmp_lt (tgt := 14) hx hb dX8_isIn_2 (by decide) (fun c1 => ?_) (fun c1 => ?_)
  · replace h := ite_t c1 h
    refine lv_iconst (v := 0) hx hb dX8_isIn_14 (by decide) ?_
    exact hret _ _ _ _ dX8_isIn_15 rfl h
  · replace h := ite_f c1 h
    refine lv_iload_n hx hb dX8_isIn_5 rfl (lv_at hl 0 rfl) ?_
    refine lv_iload_n hx hb dX8_isIn_6 rfl (lv_at hl 2 rfl) ?_
    refine lv_icmp_gt (tgt := 14) hx hb dX8_isIn_7 (by decide) (fun c2 => ?_) (fun c2 => ?_)
    · replace h := ite_t c2 h
      refine lv_iconst (v := 0) hx hb dX8_isIn_14 (by decide) ?_
      exact hret _ _ _ _ dX8_isIn_15 rfl h
    · replace h := ite_f c2 h
      refine lv_iconst (v := 1) hx hb dX8_isIn_10 (by decide) ?_
      refine lv_goto (tgt := 15) hx hb dX8_isIn_11 (by decide) ?_
      exact hret _ _ _ _ dX8_isIn_15 rfl h

def fX8_lesser (p0 : Int32) (p1 : Int32) : Int32 :=
  if p1 ≤ p0 then
    p1
  else
    p0
set_option maxHeartbeats 4000000 in
set_option maxRecDepth 100000 in
theorem kX8_lesser (l : Launch) (D : va_G) (T : Nat → ClassId) (p0 : Int32) (p1 : Int32) : RdI l yX8_lesser cX8_lesser 2 .int ({ frames := 0, cells := 0, slots := 0, locals := 0 } : Room) D T [] [.int p0, .int p1] (fX8_lesser p0 p1) := by
  obtain ⟨r, h⟩ : ∃ r, fX8_lesser p0 p1 = r := ⟨_, rfl⟩
  rw [h]
  unfold fX8_lesser at h
  refine rdMet (by decide +kernel) rfl (fun p e s m args below meth c Q C hE hP hret ls hl => ?_)
  have hx := C.1
  have hb := C.2.1
  have hl : lv_has ls 2 [(0, .int p0), (1, .int p1)] := hl
  refine lv_iload_n hx hb dX8_lesser_0 rfl (lv_at hl 0 rfl) ?_
  refine lv_iload_n hx hb dX8_lesser_1 rfl (lv_at hl 1 rfl) ?_
  refine lv_icmp_ge (tgt := 9) hx hb dX8_lesser_2 (by decide) (fun c1 => ?_) (fun c1 => ?_)
  · replace h := ite_t c1 h
    refine lv_iload_n hx hb dX8_lesser_9 rfl (lv_at hl 1 rfl) ?_
    exact hret _ _ _ _ dX8_lesser_10 rfl h
  · replace h := ite_f c1 h
    refine lv_iload_n hx hb dX8_lesser_5 rfl (lv_at hl 0 rfl) ?_
    refine lv_goto (tgt := 10) hx hb dX8_lesser_6 (by decide) ?_
    exact hret _ _ _ _ dX8_lesser_10 rfl h

def fX8_between (p0 : Int32) (p1 : Int32) : Int32 :=
  if p0 ≤ p1 then
    (p1 - p0)
  else
    (p0 - p1)
set_option maxHeartbeats 4000000 in
set_option maxRecDepth 100000 in
theorem kX8_between (l : Launch) (D : va_G) (T : Nat → ClassId) (p0 : Int32) (p1 : Int32) : RdI l yX8_between cX8_between 2 .int ({ frames := 0, cells := 0, slots := 0, locals := 0 } : Room) D T [] [.int p0, .int p1] (fX8_between p0 p1) := by
  obtain ⟨r, h⟩ : ∃ r, fX8_between p0 p1 = r := ⟨_, rfl⟩
  rw [h]
  unfold fX8_between at h
  refine rdMet (by decide +kernel) rfl (fun p e s m args below meth c Q C hE hP hret ls hl => ?_)
  have hx := C.1
  have hb := C.2.1
  have hl : lv_has ls 2 [(0, .int p0), (1, .int p1)] := hl
  refine lv_iload_n hx hb dX8_between_0 rfl (lv_at hl 0 rfl) ?_
  refine lv_iload_n hx hb dX8_between_1 rfl (lv_at hl 1 rfl) ?_
  refine lv_icmp_le (tgt := 11) hx hb dX8_between_2 (by decide) (fun c1 => ?_) (fun c1 => ?_)
  · replace h := ite_t c1 h
    refine lv_iload_n hx hb dX8_between_11 rfl (lv_at hl 1 rfl) ?_
    refine lv_iload_n hx hb dX8_between_12 rfl (lv_at hl 0 rfl) ?_
    refine lv_isub hx hb dX8_between_13 ?_
    exact hret _ _ _ _ dX8_between_14 rfl h
  · replace h := ite_f c1 h
    refine lv_iload_n hx hb dX8_between_5 rfl (lv_at hl 0 rfl) ?_
    refine lv_iload_n hx hb dX8_between_6 rfl (lv_at hl 1 rfl) ?_
    refine lv_isub hx hb dX8_between_7 ?_
    refine lv_goto (tgt := 14) hx hb dX8_between_8 (by decide) ?_
    exact hret _ _ _ _ dX8_between_14 rfl h

def fX8_copies_s_3 (n_c0 : Nat) : Nat → Int32 → Int32 → Int32 → (Nat → Int32) → Option ((Nat → Int32))
  | 0, _, _, _, _ => none
  | k + 1, l1, l3, l4, v_c0 =>
    if 103 ≤ l4 then
      some v_c0
    else
      if vin (l1 + l4) n_c0 = true then
      if vin (l3 + l4) n_c0 = true then
      fX8_copies_s_3 n_c0 k l1 l3 (l4 + 1) (upd v_c0 (l3 + l4).toNatClampNeg (v_c0 (l1 + l4).toNatClampNeg))
      else none
      else none
def fX8_copies_s (n_c0 : Nat) (v_c0 : Nat → Int32) (p0 : Int32) (p1 : Int32) : Option ((Nat → Int32)) :=
  fX8_copies_s_3 n_c0 128 p0 p1 0 v_c0
set_option maxHeartbeats 4000000 in
set_option maxRecDepth 100000 in
theorem lX8_copies_s_3 {p : Program} {l : Launch} {e : Env} {s : State} {m : MethodId} {args : Array Value} {below : List Frame} {meth : Method} {c : Code} {Q : State → Prop} {D : va_G} {T : Nat → ClassId} {a_c0 : Nat} {n_c0 : Nat} {A : Nat → Prop} {r : (Nat → Int32)} (C : CallFix p m c cX8_copies 5 s args aw RX8) (hE : eK D T s) (hA : ∀ q : Nat, s.heap.size ≤ q → A q) (hret : WrRetV p l e ({ frames := 0, cells := 0, slots := 0, locals := 0 } : Room) s m args below meth c Q cX8_copies D A [(a_c0, .inl (T 0, n_c0, .inl r))]) : ∀ (k : Nat) (l1 : Int32) (l3 : Int32) (l4 : Int32) (v_c0 : Nat → Int32) {H : Heap} {locs : List Loc} (hPD : va_PD D A [(a_c0, .inl (T 0, n_c0, .inl v_c0))] H) (hS : va_S A s.heap H locs) (ls : Array Slot) (hl : lv_has ls 5 [(0, .ref a_c0), (1, .int l1), (2, .ref a_c0), (3, .int l3), (4, .int l4)]) (h : fX8_copies_s_3 n_c0 k l1 l3 l4 v_c0 = some r), W p l e ({ frames := 0, cells := 0, slots := 0, locals := 0 } : Room) s m args below meth c H locs 0 0 Q (F0 m 3 ls []) := by
  have hx := C.1
  have hb := C.2.1
  intro k
  induction k with
  | zero =>
    intro l1 l3 l4 v_c0 H locs hPD hS ls hl h
    exact nomatch (show (none : Option ((Nat → Int32))) = some r from h)
  | succ k ih =>
    intro l1 l3 l4 v_c0 H locs hPD hS ls hl h
    obtain ⟨hP, hD⟩ := hPD
    rw [fX8_copies_s_3] at h
    refine lv_iload hx hb dX8_copies_3 (lv_at hl 4 rfl) ?_
    refine lv_bipush (v := 103) hx hb dX8_copies_5 (by decide) ?_
    refine lv_icmp_ge (tgt := 28) hx hb dX8_copies_7 (by decide) (fun c1 => ?_) (fun c1 => ?_)
    · replace h := ite_t c1 h
      replace h := Option.some.inj h
      exact hret _ _ _ _ dX8_copies_28 (by rw [← h]; exact hP) hS
    · replace h := ite_f c1 h
      refine lv_aload_n hx hb dX8_copies_10 rfl (lv_at hl 2 rfl) ?_
      refine lv_iload_n hx hb dX8_copies_11 rfl (lv_at hl 3 rfl) ?_
      refine lv_iload hx hb dX8_copies_12 (lv_at hl 4 rfl) ?_
      refine lv_iadd hx hb dX8_copies_14 ?_
      refine lv_aload_n hx hb dX8_copies_15 rfl (lv_at hl 0 rfl) ?_
      refine lv_iload_n hx hb dX8_copies_16 rfl (lv_at hl 1 rfl) ?_
      refine lv_iload hx hb dX8_copies_17 (lv_at hl 4 rfl) ?_
      refine lv_iadd hx hb dX8_copies_19 ?_
      replace h := gd h; obtain ⟨g2, h⟩ := h
      refine aldI (q0 := 0) C hE hP rfl g2 dX8_copies_20 ?_
      replace h := gd h; obtain ⟨g3, h⟩ := h
      refine astI (q0 := 0) (ws1 := [(a_c0, .inl (T 0, n_c0, .inl (upd v_c0 (l3 + l4).toNatClampNeg (v_c0 (l1 + l4).toNatClampNeg))))]) C hE hP hD hS rfl g3 rfl dX8_copies_21 ?_; clear hP hD hS; intro H locs hP hD hS
      refine lv_iinc (v := (l4 + 1)) (lv' := [(4, .int (l4 + 1)), (0, .ref a_c0), (1, .int l1), (2, .ref a_c0), (3, .int l3)]) hx hb dX8_copies_22 hl (k := 4) rfl rfl (by decide) rfl (fun ls hl => ?_)
      refine lv_goto (tgt := 3) hx hb dX8_copies_25 (by decide) ?_
      exact ih l1 l3 (l4 + 1) (upd v_c0 (l3 + l4).toNatClampNeg (v_c0 (l1 + l4).toNatClampNeg)) ⟨hP, hD⟩ hS _ (lv_sub hl [1, 2, 3, 4, 0] rfl) h
set_option maxHeartbeats 4000000 in
set_option maxRecDepth 100000 in
theorem kX8_copies_s (l : Launch) (D : va_G) (T : Nat → ClassId) (a_c0 : Nat) (n_c0 : Nat) (v_c0 : Nat → Int32) (p0 : Int32) (p1 : Int32) (sz : Nat) (r : (Nat → Int32)) (h : fX8_copies_s n_c0 v_c0 p0 p1 = some r) : WrV l yX8_copies cX8_copies 5 ({ frames := 0, cells := 0, slots := 0, locals := 0 } : Room) D T sz [(a_c0, .inl (T 0, n_c0, .inl v_c0))] [(a_c0, .inl (T 0, n_c0, .inl r))] [.ref a_c0, .int p0, .ref a_c0, .int p1] := by
  unfold fX8_copies_s at h
  refine wrMetV (by decide +kernel) rfl (fun p e s m args below meth c Q A C hE hA hP hD hS hret ls hl => ?_)
  have hx := C.1
  have hb := C.2.1
  have hl : lv_has ls 5 [(0, .ref a_c0), (1, .int p0), (2, .ref a_c0), (3, .int p1)] := hl
  refine lv_iconst (v := 0) hx hb dX8_copies_0 (by decide) ?_
  refine lv_istore (lv' := [(4, .int 0), (0, .ref a_c0), (1, .int p0), (2, .ref a_c0), (3, .int p1)]) hx hb dX8_copies_1 hl (by decide) rfl (fun ls hl => ?_)
  exact lX8_copies_s_3 C hE hA hret 128 p0 p1 0 v_c0 ⟨hP, hD⟩ hS _ (lv_sub hl [1, 2, 3, 4, 0] rfl) h

def fX8_copies_3 (n_c0 : Nat) (v_c0 : Nat → Int32) (n_c1 : Nat) : Nat → Int32 → Int32 → Int32 → (Nat → Int32) → Option ((Nat → Int32))
  | 0, _, _, _, _ => none
  | k + 1, l1, l3, l4, v_c1 =>
    if 103 ≤ l4 then
      some v_c1
    else
      if vin (l1 + l4) n_c0 = true then
      if vin (l3 + l4) n_c1 = true then
      fX8_copies_3 n_c0 v_c0 n_c1 k l1 l3 (l4 + 1) (upd v_c1 (l3 + l4).toNatClampNeg (v_c0 (l1 + l4).toNatClampNeg))
      else none
      else none
def fX8_copies (n_c0 : Nat) (v_c0 : Nat → Int32) (n_c1 : Nat) (v_c1 : Nat → Int32) (p0 : Int32) (p1 : Int32) : Option ((Nat → Int32)) :=
  fX8_copies_3 n_c0 v_c0 n_c1 128 p0 p1 0 v_c1
set_option maxHeartbeats 4000000 in
set_option maxRecDepth 100000 in
theorem lX8_copies_3 {p : Program} {l : Launch} {e : Env} {s : State} {m : MethodId} {args : Array Value} {below : List Frame} {meth : Method} {c : Code} {Q : State → Prop} {D : va_G} {T : Nat → ClassId} {a_c0 a_c1 : Nat} {n_c0 : Nat} {v_c0 : Nat → Int32} {n_c1 : Nat} {A : Nat → Prop} {r : (Nat → Int32)} (C : CallFix p m c cX8_copies 5 s args aw RX8) (hE : eK D T s) (hA : ∀ q : Nat, s.heap.size ≤ q → A q) (hret : WrRetV p l e ({ frames := 0, cells := 0, slots := 0, locals := 0 } : Room) s m args below meth c Q cX8_copies D A [(a_c0, .inl (T 0, n_c0, .inl v_c0)), (a_c1, .inl (T 0, n_c1, .inl r))]) : ∀ (k : Nat) (l1 : Int32) (l3 : Int32) (l4 : Int32) (v_c1 : Nat → Int32) {H : Heap} {locs : List Loc} (hPD : va_PD D A [(a_c0, .inl (T 0, n_c0, .inl v_c0)), (a_c1, .inl (T 0, n_c1, .inl v_c1))] H) (hS : va_S A s.heap H locs) (ls : Array Slot) (hl : lv_has ls 5 [(0, .ref a_c0), (1, .int l1), (2, .ref a_c1), (3, .int l3), (4, .int l4)]) (h : fX8_copies_3 n_c0 v_c0 n_c1 k l1 l3 l4 v_c1 = some r), W p l e ({ frames := 0, cells := 0, slots := 0, locals := 0 } : Room) s m args below meth c H locs 0 0 Q (F0 m 3 ls []) := by
  have hx := C.1
  have hb := C.2.1
  intro k
  induction k with
  | zero =>
    intro l1 l3 l4 v_c1 H locs hPD hS ls hl h
    exact nomatch (show (none : Option ((Nat → Int32))) = some r from h)
  | succ k ih =>
    intro l1 l3 l4 v_c1 H locs hPD hS ls hl h
    obtain ⟨hP, hD⟩ := hPD
    rw [fX8_copies_3] at h
    refine lv_iload hx hb dX8_copies_3 (lv_at hl 4 rfl) ?_
    refine lv_bipush (v := 103) hx hb dX8_copies_5 (by decide) ?_
    refine lv_icmp_ge (tgt := 28) hx hb dX8_copies_7 (by decide) (fun c1 => ?_) (fun c1 => ?_)
    · replace h := ite_t c1 h
      replace h := Option.some.inj h
      exact hret _ _ _ _ dX8_copies_28 (by rw [← h]; exact hP) hS
    · replace h := ite_f c1 h
      refine lv_aload_n hx hb dX8_copies_10 rfl (lv_at hl 2 rfl) ?_
      refine lv_iload_n hx hb dX8_copies_11 rfl (lv_at hl 3 rfl) ?_
      refine lv_iload hx hb dX8_copies_12 (lv_at hl 4 rfl) ?_
      refine lv_iadd hx hb dX8_copies_14 ?_
      refine lv_aload_n hx hb dX8_copies_15 rfl (lv_at hl 0 rfl) ?_
      refine lv_iload_n hx hb dX8_copies_16 rfl (lv_at hl 1 rfl) ?_
      refine lv_iload hx hb dX8_copies_17 (lv_at hl 4 rfl) ?_
      refine lv_iadd hx hb dX8_copies_19 ?_
      replace h := gd h; obtain ⟨g2, h⟩ := h
      refine aldI (q0 := 0) C hE hP rfl g2 dX8_copies_20 ?_
      replace h := gd h; obtain ⟨g3, h⟩ := h
      refine astI (q0 := 1) (ws1 := [(a_c0, .inl (T 0, n_c0, .inl v_c0)), (a_c1, .inl (T 0, n_c1, .inl (upd v_c1 (l3 + l4).toNatClampNeg (v_c0 (l1 + l4).toNatClampNeg))))]) C hE hP hD hS rfl g3 rfl dX8_copies_21 ?_; clear hP hD hS; intro H locs hP hD hS
      refine lv_iinc (v := (l4 + 1)) (lv' := [(4, .int (l4 + 1)), (0, .ref a_c0), (1, .int l1), (2, .ref a_c1), (3, .int l3)]) hx hb dX8_copies_22 hl (k := 4) rfl rfl (by decide) rfl (fun ls hl => ?_)
      refine lv_goto (tgt := 3) hx hb dX8_copies_25 (by decide) ?_
      exact ih l1 l3 (l4 + 1) (upd v_c1 (l3 + l4).toNatClampNeg (v_c0 (l1 + l4).toNatClampNeg)) ⟨hP, hD⟩ hS _ (lv_sub hl [1, 2, 3, 4, 0] rfl) h
set_option maxHeartbeats 4000000 in
set_option maxRecDepth 100000 in
theorem kX8_copies (l : Launch) (D : va_G) (T : Nat → ClassId) (a_c0 a_c1 : Nat) (n_c0 : Nat) (v_c0 : Nat → Int32) (n_c1 : Nat) (v_c1 : Nat → Int32) (p0 : Int32) (p1 : Int32) (sz : Nat) (r : (Nat → Int32)) (h : fX8_copies n_c0 v_c0 n_c1 v_c1 p0 p1 = some r) : WrV l yX8_copies cX8_copies 5 ({ frames := 0, cells := 0, slots := 0, locals := 0 } : Room) D T sz [(a_c0, .inl (T 0, n_c0, .inl v_c0)), (a_c1, .inl (T 0, n_c1, .inl v_c1))] [(a_c0, .inl (T 0, n_c0, .inl v_c0)), (a_c1, .inl (T 0, n_c1, .inl r))] [.ref a_c0, .int p0, .ref a_c1, .int p1] := by
  unfold fX8_copies at h
  refine wrMetV (by decide +kernel) rfl (fun p e s m args below meth c Q A C hE hA hP hD hS hret ls hl => ?_)
  have hx := C.1
  have hb := C.2.1
  have hl : lv_has ls 5 [(0, .ref a_c0), (1, .int p0), (2, .ref a_c1), (3, .int p1)] := hl
  refine lv_iconst (v := 0) hx hb dX8_copies_0 (by decide) ?_
  refine lv_istore (lv' := [(4, .int 0), (0, .ref a_c0), (1, .int p0), (2, .ref a_c1), (3, .int p1)]) hx hb dX8_copies_1 hl (by decide) rfl (fun ls hl => ?_)
  exact lX8_copies_3 C hE hA hret 128 p0 p1 0 v_c1 ⟨hP, hD⟩ hS _ (lv_sub hl [1, 2, 3, 4, 0] rfl) h

def fX8_keeps (m_thr : Int32) (v_ms : Nat → Int32) (v_mw : Nat → Int32) : Option (Int32 × (Nat → Int32)) :=
  (fX8_copies 103 v_ms 103 v_mw 0 0).bind fun q1 =>
  some (0, q1)
set_option maxHeartbeats 4000000 in
set_option maxRecDepth 100000 in
theorem kX8_keeps (l : Launch) (D : va_G) (T : Nat → ClassId) (a_m a_ms a_mw a_mv a_mp a_mf a_ml a_mt a_mc : Nat) (m_chg : Int32) (m_thr : Int32) (m_rea : Int32) (m_det : Int32) (m_ref : Int32) (m_err : Int32) (m_ans : Int32) (m_sav : Int32) (m_net : Int32) (m_lin : Int32) (m_tap : Int32) (m_her : Int32) (m_cmd : Int32) (v_ms : Nat → Int32) (v_mw : Nat → Int32) (sz : Nat) (r : Int32 × (Nat → Int32)) (h : fX8_keeps m_thr v_ms v_mw = some r) : WrV l yX8_keeps cX8_keeps 1 ({ frames := 1, cells := 0, slots := 0, locals := 24 } : Room) D T sz [(a_m, .inr (8, [.ref a_ms, .ref a_mw, .ref a_mv, .ref a_mp, .ref a_mf, .int m_chg, .int m_thr, .int m_rea, .int m_det, .int m_ref, .int m_err, .int m_ans, .int m_sav, .int m_net, .ref a_ml, .int m_lin, .ref a_mt, .ref a_mc, .int m_tap, .int m_her, .int m_cmd])), (a_ms, .inl (T 0, 103, .inl v_ms)), (a_mw, .inl (T 0, 103, .inl v_mw))] [(a_m, .inr (8, [.ref a_ms, .ref a_mw, .ref a_mv, .ref a_mp, .ref a_mf, .int m_chg, .int r.1, .int m_rea, .int m_det, .int m_ref, .int m_err, .int m_ans, .int m_sav, .int m_net, .ref a_ml, .int m_lin, .ref a_mt, .ref a_mc, .int m_tap, .int m_her, .int m_cmd])), (a_ms, .inl (T 0, 103, .inl v_ms)), (a_mw, .inl (T 0, 103, .inl r.2))] [.ref a_m] := by
  unfold fX8_keeps at h
  refine wrMetV (by decide +kernel) rfl (fun p e s m args below meth c Q A C hE hA hP hD hS hret ls hl => ?_)
  have hx := C.1
  have hb := C.2.1
  have hl : lv_has ls 1 [(0, .ref a_m)] := hl
  refine lv_aload_n hx hb dX8_keeps_0 rfl (lv_at hl 0 rfl) ?_
  refine getF (q0 := 0) (k0 := 0) (v := .ref a_ms) C hE hP inA8 rfl rfl (by decide) qFX8_9 rfl rfl dX8_keeps_1 ?_
  refine lv_iconst (v := 0) hx hb dX8_keeps_4 (by decide) ?_
  refine lv_aload_n hx hb dX8_keeps_5 rfl (lv_at hl 0 rfl) ?_
  refine getF (q0 := 0) (k0 := 1) (v := .ref a_mw) C hE hP inA8 rfl rfl (by decide) qFX8_13 rfl rfl dX8_keeps_6 ?_
  refine lv_iconst (v := 0) hx hb dX8_keeps_9 (by decide) ?_
  replace h := bnd h; obtain ⟨q1, e2, h⟩ := h
  refine wrSv (ws1 := [(a_m, .inr (8, [.ref a_ms, .ref a_mw, .ref a_mv, .ref a_mp, .ref a_mf, .int m_chg, .int m_thr, .int m_rea, .int m_det, .int m_ref, .int m_err, .int m_ans, .int m_sav, .int m_net, .ref a_ml, .int m_lin, .ref a_mt, .ref a_mc, .int m_tap, .int m_her, .int m_cmd])), (a_ms, .inl (T 0, 103, .inl v_ms)), (a_mw, .inl (T 0, 103, .inl q1))]) C hE hP hD hS hA (kX8_copies l D T a_ms a_mw 103 v_ms 103 v_mw 0 0 _ q1 e2) mX8_copies qLX8_44 [1, 2] [0] rfl rfl rfl rfl rfl rfl ⟨rfl, rfl⟩ ⟨Nat.le_of_ble_eq_true rfl, Nat.le_of_ble_eq_true rfl⟩ rfl hl.1 rfl (Nat.le_of_ble_eq_true rfl) dX8_keeps_10 ⟨Nat.le_of_ble_eq_true rfl, Nat.le_of_ble_eq_true rfl⟩ ?_; clear hP hD hS; intro H locs hP hD hS
  refine lv_aload_n hx hb dX8_keeps_13 rfl (lv_at hl 0 rfl) ?_
  refine lv_iconst (v := 0) hx hb dX8_keeps_14 (by decide) ?_
  refine putF (q0 := 0) (k0 := 6) (ws1 := [(a_m, .inr (8, [.ref a_ms, .ref a_mw, .ref a_mv, .ref a_mp, .ref a_mf, .int m_chg, .int 0, .int m_rea, .int m_det, .int m_ref, .int m_err, .int m_ans, .int m_sav, .int m_net, .ref a_ml, .int m_lin, .ref a_mt, .ref a_mc, .int m_tap, .int m_her, .int m_cmd])), (a_ms, .inl (T 0, 103, .inl v_ms)), (a_mw, .inl (T 0, 103, .inl q1))]) C hE hP hD hS inA8 tyX8_ok nmX8 rfl rfl (by decide) qFX8_41 rfl rfl rfl rfl (Nat.le_of_ble_eq_true rfl) rfl dX8_keeps_15 ?_; clear hP hD hS; intro H locs hP hD hS
  replace h := Option.some.inj h
  exact hret _ _ _ _ dX8_keeps_18 (by rw [← h]; exact hP) hS

def fX8_changed_54 (v_mw : Nat → Int32) (m_chg : Int32) (v_mp : Nat → Int32) : Option (Int32 × (Nat → Int32)) :=
  (fX8_copies 103 v_mw 618 v_mp 0 (103 * m_chg)).bind fun q5 =>
  some ((m_chg + 1), q5)
def fX8_changed_11 (v_mw : Nat → Int32) : Nat → Int32 → Int32 → (Nat → Int32) → Option (Int32 × (Nat → Int32))
  | 0, _, _, _ => none
  | k + 1, l1, m_chg, v_mp =>
    if 6 ≤ l1 then
      fX8_changed_54 v_mw (m_chg - 1) v_mp
    else
      (fX8_copies_s 618 v_mp (103 * l1) (103 * (l1 - 1))).bind fun q3 =>
      fX8_changed_11 v_mw k (l1 + 1) m_chg q3
def fX8_changed (m_chg : Int32) (v_mw : Nat → Int32) (v_mp : Nat → Int32) : Option (Int32 × (Nat → Int32)) :=
  if m_chg = 6 then
    fX8_changed_11 v_mw 64 1 m_chg v_mp
  else
    fX8_changed_54 v_mw m_chg v_mp
set_option maxHeartbeats 4000000 in
set_option maxRecDepth 100000 in
theorem lX8_changed_54 {p : Program} {l : Launch} {e : Env} {s : State} {m : MethodId} {args : Array Value} {below : List Frame} {meth : Method} {c : Code} {Q : State → Prop} {D : va_G} {T : Nat → ClassId} {a_m a_ms a_mw a_mv a_mp a_mf a_ml a_mt a_mc : Nat} {m_thr : Int32} {m_rea : Int32} {m_det : Int32} {m_ref : Int32} {m_err : Int32} {m_ans : Int32} {m_sav : Int32} {m_net : Int32} {m_lin : Int32} {m_tap : Int32} {m_her : Int32} {m_cmd : Int32} {v_mw : Nat → Int32} {A : Nat → Prop} {r : Int32 × (Nat → Int32)} (C : CallFix p m c cX8_changed 2 s args aw RX8) (hE : eK D T s) (hA : ∀ q : Nat, s.heap.size ≤ q → A q) (hret : WrRetV p l e ({ frames := 1, cells := 0, slots := 0, locals := 24 } : Room) s m args below meth c Q cX8_changed D A [(a_m, .inr (8, [.ref a_ms, .ref a_mw, .ref a_mv, .ref a_mp, .ref a_mf, .int r.1, .int m_thr, .int m_rea, .int m_det, .int m_ref, .int m_err, .int m_ans, .int m_sav, .int m_net, .ref a_ml, .int m_lin, .ref a_mt, .ref a_mc, .int m_tap, .int m_her, .int m_cmd])), (a_mw, .inl (T 0, 103, .inl v_mw)), (a_mp, .inl (T 0, 618, .inl r.2))]) (m_chg : Int32) (v_mp : Nat → Int32) {H : Heap} {locs : List Loc} (hPD : va_PD D A [(a_m, .inr (8, [.ref a_ms, .ref a_mw, .ref a_mv, .ref a_mp, .ref a_mf, .int m_chg, .int m_thr, .int m_rea, .int m_det, .int m_ref, .int m_err, .int m_ans, .int m_sav, .int m_net, .ref a_ml, .int m_lin, .ref a_mt, .ref a_mc, .int m_tap, .int m_her, .int m_cmd])), (a_mw, .inl (T 0, 103, .inl v_mw)), (a_mp, .inl (T 0, 618, .inl v_mp))] H) (hS : va_S A s.heap H locs) (ls : Array Slot) (hl : lv_has ls 2 [(0, .ref a_m)]) (h : fX8_changed_54 v_mw m_chg v_mp = some r) : W p l e ({ frames := 1, cells := 0, slots := 0, locals := 24 } : Room) s m args below meth c H locs 0 0 Q (F0 m 54 ls []) := by
  have hx := C.1
  have hb := C.2.1
  obtain ⟨hP, hD⟩ := hPD
  unfold fX8_changed_54 at h
  refine lv_aload_n hx hb dX8_changed_54 rfl (lv_at hl 0 rfl) ?_
  refine getF (q0 := 0) (k0 := 1) (v := .ref a_mw) C hE hP inA8 rfl rfl (by decide) qFX8_13 rfl rfl dX8_changed_55 ?_
  refine lv_iconst (v := 0) hx hb dX8_changed_58 (by decide) ?_
  refine lv_aload_n hx hb dX8_changed_59 rfl (lv_at hl 0 rfl) ?_
  refine getF (q0 := 0) (k0 := 3) (v := .ref a_mp) C hE hP inA8 rfl rfl (by decide) qFX8_19 rfl rfl dX8_changed_60 ?_
  refine lv_bipush (v := 103) hx hb dX8_changed_63 (by decide) ?_
  refine lv_aload_n hx hb dX8_changed_65 rfl (lv_at hl 0 rfl) ?_
  refine getF (q0 := 0) (k0 := 5) (v := .int m_chg) C hE hP inA8 rfl rfl (by decide) qFX8_48 rfl rfl dX8_changed_66 ?_
  refine lv_imul hx hb dX8_changed_69 ?_
  replace h := bnd h; obtain ⟨q5, e6, h⟩ := h
  refine wrSv (ws1 := [(a_m, .inr (8, [.ref a_ms, .ref a_mw, .ref a_mv, .ref a_mp, .ref a_mf, .int m_chg, .int m_thr, .int m_rea, .int m_det, .int m_ref, .int m_err, .int m_ans, .int m_sav, .int m_net, .ref a_ml, .int m_lin, .ref a_mt, .ref a_mc, .int m_tap, .int m_her, .int m_cmd])), (a_mw, .inl (T 0, 103, .inl v_mw)), (a_mp, .inl (T 0, 618, .inl q5))]) C hE hP hD hS hA (kX8_copies l D T a_mw a_mp 103 v_mw 618 v_mp 0 (103 * m_chg) _ q5 e6) mX8_copies qLX8_44 [1, 2] [0] rfl rfl rfl rfl rfl rfl ⟨rfl, rfl⟩ ⟨Nat.le_of_ble_eq_true rfl, Nat.le_of_ble_eq_true rfl⟩ rfl hl.1 rfl (Nat.le_of_ble_eq_true rfl) dX8_changed_70 ⟨Nat.le_of_ble_eq_true rfl, Nat.le_of_ble_eq_true rfl⟩ ?_; clear hP hD hS; intro H locs hP hD hS
  refine lv_aload_n hx hb dX8_changed_73 rfl (lv_at hl 0 rfl) ?_
  refine lv_dup hx hb dX8_changed_74 rfl ?_
  refine getF (q0 := 0) (k0 := 5) (v := .int m_chg) C hE hP inA8 rfl rfl (by decide) qFX8_48 rfl rfl dX8_changed_75 ?_
  refine lv_iconst (v := 1) hx hb dX8_changed_78 (by decide) ?_
  refine lv_iadd hx hb dX8_changed_79 ?_
  refine putF (q0 := 0) (k0 := 5) (ws1 := [(a_m, .inr (8, [.ref a_ms, .ref a_mw, .ref a_mv, .ref a_mp, .ref a_mf, .int (m_chg + 1), .int m_thr, .int m_rea, .int m_det, .int m_ref, .int m_err, .int m_ans, .int m_sav, .int m_net, .ref a_ml, .int m_lin, .ref a_mt, .ref a_mc, .int m_tap, .int m_her, .int m_cmd])), (a_mw, .inl (T 0, 103, .inl v_mw)), (a_mp, .inl (T 0, 618, .inl q5))]) C hE hP hD hS inA8 tyX8_ok nmX8 rfl rfl (by decide) qFX8_48 rfl rfl rfl rfl (Nat.le_of_ble_eq_true rfl) rfl dX8_changed_80 ?_; clear hP hD hS; intro H locs hP hD hS
  replace h := Option.some.inj h
  exact hret _ _ _ _ dX8_changed_83 (by rw [← h]; exact hP) hS
set_option maxHeartbeats 4000000 in
set_option maxRecDepth 100000 in
theorem lX8_changed_11 {p : Program} {l : Launch} {e : Env} {s : State} {m : MethodId} {args : Array Value} {below : List Frame} {meth : Method} {c : Code} {Q : State → Prop} {D : va_G} {T : Nat → ClassId} {a_m a_ms a_mw a_mv a_mp a_mf a_ml a_mt a_mc : Nat} {m_thr : Int32} {m_rea : Int32} {m_det : Int32} {m_ref : Int32} {m_err : Int32} {m_ans : Int32} {m_sav : Int32} {m_net : Int32} {m_lin : Int32} {m_tap : Int32} {m_her : Int32} {m_cmd : Int32} {v_mw : Nat → Int32} {A : Nat → Prop} {r : Int32 × (Nat → Int32)} (C : CallFix p m c cX8_changed 2 s args aw RX8) (hE : eK D T s) (hA : ∀ q : Nat, s.heap.size ≤ q → A q) (hret : WrRetV p l e ({ frames := 1, cells := 0, slots := 0, locals := 24 } : Room) s m args below meth c Q cX8_changed D A [(a_m, .inr (8, [.ref a_ms, .ref a_mw, .ref a_mv, .ref a_mp, .ref a_mf, .int r.1, .int m_thr, .int m_rea, .int m_det, .int m_ref, .int m_err, .int m_ans, .int m_sav, .int m_net, .ref a_ml, .int m_lin, .ref a_mt, .ref a_mc, .int m_tap, .int m_her, .int m_cmd])), (a_mw, .inl (T 0, 103, .inl v_mw)), (a_mp, .inl (T 0, 618, .inl r.2))]) : ∀ (k : Nat) (l1 : Int32) (m_chg : Int32) (v_mp : Nat → Int32) {H : Heap} {locs : List Loc} (hPD : va_PD D A [(a_m, .inr (8, [.ref a_ms, .ref a_mw, .ref a_mv, .ref a_mp, .ref a_mf, .int m_chg, .int m_thr, .int m_rea, .int m_det, .int m_ref, .int m_err, .int m_ans, .int m_sav, .int m_net, .ref a_ml, .int m_lin, .ref a_mt, .ref a_mc, .int m_tap, .int m_her, .int m_cmd])), (a_mw, .inl (T 0, 103, .inl v_mw)), (a_mp, .inl (T 0, 618, .inl v_mp))] H) (hS : va_S A s.heap H locs) (ls : Array Slot) (hl : lv_has ls 2 [(0, .ref a_m), (1, .int l1)]) (h : fX8_changed_11 v_mw k l1 m_chg v_mp = some r), W p l e ({ frames := 1, cells := 0, slots := 0, locals := 24 } : Room) s m args below meth c H locs 0 0 Q (F0 m 11 ls []) := by
  have hx := C.1
  have hb := C.2.1
  intro k
  induction k with
  | zero =>
    intro l1 m_chg v_mp H locs hPD hS ls hl h
    exact nomatch (show (none : Option (Int32 × (Nat → Int32))) = some r from h)
  | succ k ih =>
    intro l1 m_chg v_mp H locs hPD hS ls hl h
    obtain ⟨hP, hD⟩ := hPD
    rw [fX8_changed_11] at h
    refine lv_iload_n hx hb dX8_changed_11 rfl (lv_at hl 1 rfl) ?_
    refine lv_bipush (v := 6) hx hb dX8_changed_12 (by decide) ?_
    refine lv_icmp_ge (tgt := 44) hx hb dX8_changed_14 (by decide) (fun c2 => ?_) (fun c2 => ?_)
    · replace h := ite_t c2 h
      refine lv_aload_n hx hb dX8_changed_44 rfl (lv_at hl 0 rfl) ?_
      refine lv_dup hx hb dX8_changed_45 rfl ?_
      refine getF (q0 := 0) (k0 := 5) (v := .int m_chg) C hE hP inA8 rfl rfl (by decide) qFX8_48 rfl rfl dX8_changed_46 ?_
      refine lv_iconst (v := 1) hx hb dX8_changed_49 (by decide) ?_
      refine lv_isub hx hb dX8_changed_50 ?_
      refine putF (q0 := 0) (k0 := 5) (ws1 := [(a_m, .inr (8, [.ref a_ms, .ref a_mw, .ref a_mv, .ref a_mp, .ref a_mf, .int (m_chg - 1), .int m_thr, .int m_rea, .int m_det, .int m_ref, .int m_err, .int m_ans, .int m_sav, .int m_net, .ref a_ml, .int m_lin, .ref a_mt, .ref a_mc, .int m_tap, .int m_her, .int m_cmd])), (a_mw, .inl (T 0, 103, .inl v_mw)), (a_mp, .inl (T 0, 618, .inl v_mp))]) C hE hP hD hS inA8 tyX8_ok nmX8 rfl rfl (by decide) qFX8_48 rfl rfl rfl rfl (Nat.le_of_ble_eq_true rfl) rfl dX8_changed_51 ?_; clear hP hD hS; intro H locs hP hD hS
      exact lX8_changed_54 C hE hA hret (m_chg - 1) v_mp ⟨hP, hD⟩ hS _ (lv_sub hl [0] rfl) h
    · replace h := ite_f c2 h
      refine lv_aload_n hx hb dX8_changed_17 rfl (lv_at hl 0 rfl) ?_
      refine getF (q0 := 0) (k0 := 3) (v := .ref a_mp) C hE hP inA8 rfl rfl (by decide) qFX8_19 rfl rfl dX8_changed_18 ?_
      refine lv_bipush (v := 103) hx hb dX8_changed_21 (by decide) ?_
      refine lv_iload_n hx hb dX8_changed_23 rfl (lv_at hl 1 rfl) ?_
      refine lv_imul hx hb dX8_changed_24 ?_
      refine lv_aload_n hx hb dX8_changed_25 rfl (lv_at hl 0 rfl) ?_
      refine getF (q0 := 0) (k0 := 3) (v := .ref a_mp) C hE hP inA8 rfl rfl (by decide) qFX8_19 rfl rfl dX8_changed_26 ?_
      refine lv_bipush (v := 103) hx hb dX8_changed_29 (by decide) ?_
      refine lv_iload_n hx hb dX8_changed_31 rfl (lv_at hl 1 rfl) ?_
      refine lv_iconst (v := 1) hx hb dX8_changed_32 (by decide) ?_
      refine lv_isub hx hb dX8_changed_33 ?_
      refine lv_imul hx hb dX8_changed_34 ?_
      replace h := bnd h; obtain ⟨q3, e4, h⟩ := h
      refine wrSv (ws1 := [(a_m, .inr (8, [.ref a_ms, .ref a_mw, .ref a_mv, .ref a_mp, .ref a_mf, .int m_chg, .int m_thr, .int m_rea, .int m_det, .int m_ref, .int m_err, .int m_ans, .int m_sav, .int m_net, .ref a_ml, .int m_lin, .ref a_mt, .ref a_mc, .int m_tap, .int m_her, .int m_cmd])), (a_mw, .inl (T 0, 103, .inl v_mw)), (a_mp, .inl (T 0, 618, .inl q3))]) C hE hP hD hS hA (kX8_copies_s l D T a_mp 618 v_mp (103 * l1) (103 * (l1 - 1)) _ q3 e4) mX8_copies qLX8_44 [2] [0, 1] rfl rfl rfl rfl rfl rfl ⟨rfl, rfl⟩ ⟨Nat.le_of_ble_eq_true rfl, Nat.le_of_ble_eq_true rfl⟩ rfl hl.1 rfl (Nat.le_of_ble_eq_true rfl) dX8_changed_35 ⟨Nat.le_of_ble_eq_true rfl, Nat.le_of_ble_eq_true rfl⟩ ?_; clear hP hD hS; intro H locs hP hD hS
      refine lv_iinc (v := (l1 + 1)) (lv' := [(1, .int (l1 + 1)), (0, .ref a_m)]) hx hb dX8_changed_38 hl (k := 1) rfl rfl (by decide) rfl (fun ls hl => ?_)
      refine lv_goto (tgt := 11) hx hb dX8_changed_41 (by decide) ?_
      exact ih (l1 + 1) m_chg q3 ⟨hP, hD⟩ hS _ (lv_sub hl [1, 0] rfl) h
set_option maxHeartbeats 4000000 in
set_option maxRecDepth 100000 in
theorem kX8_changed (l : Launch) (D : va_G) (T : Nat → ClassId) (a_m a_ms a_mw a_mv a_mp a_mf a_ml a_mt a_mc : Nat) (m_chg : Int32) (m_thr : Int32) (m_rea : Int32) (m_det : Int32) (m_ref : Int32) (m_err : Int32) (m_ans : Int32) (m_sav : Int32) (m_net : Int32) (m_lin : Int32) (m_tap : Int32) (m_her : Int32) (m_cmd : Int32) (v_mw : Nat → Int32) (v_mp : Nat → Int32) (sz : Nat) (r : Int32 × (Nat → Int32)) (h : fX8_changed m_chg v_mw v_mp = some r) : WrV l yX8_changed cX8_changed 2 ({ frames := 1, cells := 0, slots := 0, locals := 24 } : Room) D T sz [(a_m, .inr (8, [.ref a_ms, .ref a_mw, .ref a_mv, .ref a_mp, .ref a_mf, .int m_chg, .int m_thr, .int m_rea, .int m_det, .int m_ref, .int m_err, .int m_ans, .int m_sav, .int m_net, .ref a_ml, .int m_lin, .ref a_mt, .ref a_mc, .int m_tap, .int m_her, .int m_cmd])), (a_mw, .inl (T 0, 103, .inl v_mw)), (a_mp, .inl (T 0, 618, .inl v_mp))] [(a_m, .inr (8, [.ref a_ms, .ref a_mw, .ref a_mv, .ref a_mp, .ref a_mf, .int r.1, .int m_thr, .int m_rea, .int m_det, .int m_ref, .int m_err, .int m_ans, .int m_sav, .int m_net, .ref a_ml, .int m_lin, .ref a_mt, .ref a_mc, .int m_tap, .int m_her, .int m_cmd])), (a_mw, .inl (T 0, 103, .inl v_mw)), (a_mp, .inl (T 0, 618, .inl r.2))] [.ref a_m] := by
  unfold fX8_changed at h
  refine wrMetV (by decide +kernel) rfl (fun p e s m args below meth c Q A C hE hA hP hD hS hret ls hl => ?_)
  have hx := C.1
  have hb := C.2.1
  have hl : lv_has ls 2 [(0, .ref a_m)] := hl
  refine lv_aload_n hx hb dX8_changed_0 rfl (lv_at hl 0 rfl) ?_
  refine getF (q0 := 0) (k0 := 5) (v := .int m_chg) C hE hP inA8 rfl rfl (by decide) qFX8_48 rfl rfl dX8_changed_1 ?_
  refine lv_bipush (v := 6) hx hb dX8_changed_4 (by decide) ?_
  refine lv_icmp_ne (tgt := 54) hx hb dX8_changed_6 (by decide) (fun c1 => ?_) (fun c1 => ?_)
  · replace h := ite_f c1 h
    exact lX8_changed_54 C hE hA hret m_chg v_mp ⟨hP, hD⟩ hS _ (lv_sub hl [0] rfl) h
  · replace h := ite_t c1 h
    refine lv_iconst (v := 1) hx hb dX8_changed_9 (by decide) ?_
    refine lv_istore_n (lv' := [(1, .int 1), (0, .ref a_m)]) hx hb dX8_changed_10 rfl hl (by decide) rfl (fun ls hl => ?_)
    exact lX8_changed_11 C hE hA hret 64 1 m_chg v_mp ⟨hP, hD⟩ hS _ (lv_sub hl [1, 0] rfl) h

def fX8_ends_25 (v_mw : Nat → Int32) (x1 : Int32) (m_chg : Int32) (m_thr : Int32) (v_mp : Nat → Int32) : Option (Int32 × Int32 × Int32 × (Nat → Int32)) :=
  some (0, m_chg, x1, v_mp)
def fX8_ends (m_chg : Int32) (m_thr : Int32) (v_mw : Nat → Int32) (v_mp : Nat → Int32) (p0 : Int32) (p1 : Int32) : Option (Int32 × Int32 × Int32 × (Nat → Int32)) :=
  if m_thr = 0 then
    (fX8_changed m_chg v_mw v_mp).bind fun q2 =>
    some (p0, q2.1, m_thr, q2.2)
  else
    fX8_ends_25 v_mw (if m_thr = 9 then p1 else m_thr) m_chg m_thr v_mp
set_option maxHeartbeats 4000000 in
set_option maxRecDepth 100000 in
theorem lX8_ends_25 {p : Program} {l : Launch} {e : Env} {s : State} {m : MethodId} {args : Array Value} {below : List Frame} {meth : Method} {c : Code} {Q : State → Prop} {D : va_G} {T : Nat → ClassId} {a_m a_ms a_mw a_mv a_mp a_mf a_ml a_mt a_mc : Nat} {m_rea : Int32} {m_det : Int32} {m_ref : Int32} {m_err : Int32} {m_ans : Int32} {m_sav : Int32} {m_net : Int32} {m_lin : Int32} {m_tap : Int32} {m_her : Int32} {m_cmd : Int32} {v_mw : Nat → Int32} {A : Nat → Prop} {r : Int32 × Int32 × Int32 × (Nat → Int32)} (C : CallFix p m c cX8_ends 3 s args aw RX8) (hE : eK D T s) (hA : ∀ q : Nat, s.heap.size ≤ q → A q) (hret : WrRet p l e ({ frames := 2, cells := 0, slots := 0, locals := 45 } : Room) s m args below meth c Q cX8_ends .int D A [(a_m, .inr (8, [.ref a_ms, .ref a_mw, .ref a_mv, .ref a_mp, .ref a_mf, .int r.2.1, .int r.2.2.1, .int m_rea, .int m_det, .int m_ref, .int m_err, .int m_ans, .int m_sav, .int m_net, .ref a_ml, .int m_lin, .ref a_mt, .ref a_mc, .int m_tap, .int m_her, .int m_cmd])), (a_mw, .inl (T 0, 103, .inl v_mw)), (a_mp, .inl (T 0, 618, .inl r.2.2.2))] r.1) (x1 : Int32) (m_chg : Int32) (m_thr : Int32) (v_mp : Nat → Int32) {H : Heap} {locs : List Loc} (hPD : va_PD D A [(a_m, .inr (8, [.ref a_ms, .ref a_mw, .ref a_mv, .ref a_mp, .ref a_mf, .int m_chg, .int m_thr, .int m_rea, .int m_det, .int m_ref, .int m_err, .int m_ans, .int m_sav, .int m_net, .ref a_ml, .int m_lin, .ref a_mt, .ref a_mc, .int m_tap, .int m_her, .int m_cmd])), (a_mw, .inl (T 0, 103, .inl v_mw)), (a_mp, .inl (T 0, 618, .inl v_mp))] H) (hS : va_S A s.heap H locs) (ls : Array Slot) (hl : lv_has ls 3 []) (h : fX8_ends_25 v_mw x1 m_chg m_thr v_mp = some r) : W p l e ({ frames := 2, cells := 0, slots := 0, locals := 45 } : Room) s m args below meth c H locs 0 0 Q (F0 m 25 ls [.int x1, .ref a_m]) := by
  have hx := C.1
  have hb := C.2.1
  obtain ⟨hP, hD⟩ := hPD
  unfold fX8_ends_25 at h
  refine putF (q0 := 0) (k0 := 6) (ws1 := [(a_m, .inr (8, [.ref a_ms, .ref a_mw, .ref a_mv, .ref a_mp, .ref a_mf, .int m_chg, .int x1, .int m_rea, .int m_det, .int m_ref, .int m_err, .int m_ans, .int m_sav, .int m_net, .ref a_ml, .int m_lin, .ref a_mt, .ref a_mc, .int m_tap, .int m_her, .int m_cmd])), (a_mw, .inl (T 0, 103, .inl v_mw)), (a_mp, .inl (T 0, 618, .inl v_mp))]) C hE hP hD hS inA8 tyX8_ok nmX8 rfl rfl (by decide) qFX8_41 rfl rfl rfl rfl (Nat.le_of_ble_eq_true rfl) rfl dX8_ends_25 ?_; clear hP hD hS; intro H locs hP hD hS
  refine lv_iconst (v := 0) hx hb dX8_ends_28 (by decide) ?_
  replace h := Option.some.inj h
  exact hret _ _ _ _ _ _ dX8_ends_29 rfl (by rw [← h] <;> rfl) (by rw [← h]; exact hP) hS
set_option maxHeartbeats 4000000 in
set_option maxRecDepth 100000 in
theorem kX8_ends (l : Launch) (D : va_G) (T : Nat → ClassId) (a_m a_ms a_mw a_mv a_mp a_mf a_ml a_mt a_mc : Nat) (m_chg : Int32) (m_thr : Int32) (m_rea : Int32) (m_det : Int32) (m_ref : Int32) (m_err : Int32) (m_ans : Int32) (m_sav : Int32) (m_net : Int32) (m_lin : Int32) (m_tap : Int32) (m_her : Int32) (m_cmd : Int32) (v_mw : Nat → Int32) (v_mp : Nat → Int32) (p0 : Int32) (p1 : Int32) (sz : Nat) (r : Int32 × Int32 × Int32 × (Nat → Int32)) (h : fX8_ends m_chg m_thr v_mw v_mp p0 p1 = some r) : WrI l yX8_ends cX8_ends 3 .int ({ frames := 2, cells := 0, slots := 0, locals := 45 } : Room) D T sz [(a_m, .inr (8, [.ref a_ms, .ref a_mw, .ref a_mv, .ref a_mp, .ref a_mf, .int m_chg, .int m_thr, .int m_rea, .int m_det, .int m_ref, .int m_err, .int m_ans, .int m_sav, .int m_net, .ref a_ml, .int m_lin, .ref a_mt, .ref a_mc, .int m_tap, .int m_her, .int m_cmd])), (a_mw, .inl (T 0, 103, .inl v_mw)), (a_mp, .inl (T 0, 618, .inl v_mp))] [(a_m, .inr (8, [.ref a_ms, .ref a_mw, .ref a_mv, .ref a_mp, .ref a_mf, .int r.2.1, .int r.2.2.1, .int m_rea, .int m_det, .int m_ref, .int m_err, .int m_ans, .int m_sav, .int m_net, .ref a_ml, .int m_lin, .ref a_mt, .ref a_mc, .int m_tap, .int m_her, .int m_cmd])), (a_mw, .inl (T 0, 103, .inl v_mw)), (a_mp, .inl (T 0, 618, .inl r.2.2.2))] [.ref a_m, .int p0, .int p1] r.1 := by
  unfold fX8_ends at h
  refine wrMet (by decide +kernel) rfl (fun p e s m args below meth c Q A C hE hA hP hD hS hret ls hl => ?_)
  have hx := C.1
  have hb := C.2.1
  have hl : lv_has ls 3 [(0, .ref a_m), (1, .int p0), (2, .int p1)] := hl
  refine lv_aload_n hx hb dX8_ends_0 rfl (lv_at hl 0 rfl) ?_
  refine getF (q0 := 0) (k0 := 6) (v := .int m_thr) C hE hP inA8 rfl rfl (by decide) qFX8_41 rfl rfl dX8_ends_1 ?_
  refine lv_if_eq (tgt := 30) hx hb dX8_ends_4 (by decide) (fun c1 => ?_) (fun c1 => ?_)
  · replace h := ite_t c1 h
    refine lv_aload_n hx hb dX8_ends_30 rfl (lv_at hl 0 rfl) ?_
    replace h := bnd h; obtain ⟨q2, e3, h⟩ := h
    refine wrVv (ws1 := [(a_m, .inr (8, [.ref a_ms, .ref a_mw, .ref a_mv, .ref a_mp, .ref a_mf, .int q2.1, .int m_thr, .int m_rea, .int m_det, .int m_ref, .int m_err, .int m_ans, .int m_sav, .int m_net, .ref a_ml, .int m_lin, .ref a_mt, .ref a_mc, .int m_tap, .int m_her, .int m_cmd])), (a_mw, .inl (T 0, 103, .inl v_mw)), (a_mp, .inl (T 0, 618, .inl q2.2))]) C hE hP hD hS hA (kX8_changed l D T a_m a_ms a_mw a_mv a_mp a_mf a_ml a_mt a_mc m_chg m_thr m_rea m_det m_ref m_err m_ans m_sav m_net m_lin m_tap m_her m_cmd v_mw v_mp _ q2 e3) mX8_changed qLX8_51 [0, 1, 2] [] 0 rfl rfl rfl rfl rfl rfl rfl rfl rfl ⟨rfl, rfl⟩ ⟨Nat.le_of_ble_eq_true rfl, Nat.le_of_ble_eq_true rfl⟩ rfl hl.1 rfl (Nat.le_of_ble_eq_true rfl) dX8_ends_31 ⟨Nat.le_of_ble_eq_true rfl, Nat.le_of_ble_eq_true rfl⟩ ?_; clear hP hD hS; intro H locs hP hD hS
    refine lv_iload_n hx hb dX8_ends_34 rfl (lv_at hl 1 rfl) ?_
    replace h := Option.some.inj h
    exact hret _ _ _ _ _ _ dX8_ends_35 rfl (by rw [← h] <;> rfl) (by rw [← h]; exact hP) hS
  · replace h := ite_f c1 h
    refine lv_aload_n hx hb dX8_ends_7 rfl (lv_at hl 0 rfl) ?_
    refine lv_aload_n hx hb dX8_ends_8 rfl (lv_at hl 0 rfl) ?_
    refine getF (q0 := 0) (k0 := 6) (v := .int m_thr) C hE hP inA8 rfl rfl (by decide) qFX8_41 rfl rfl dX8_ends_9 ?_
    refine lv_bipush (v := 9) hx hb dX8_ends_12 (by decide) ?_
    refine lv_icmp_ne (tgt := 21) hx hb dX8_ends_14 (by decide) (fun c4 => ?_) (fun c4 => ?_)
    · rw [if_neg c4] at h
      refine lv_aload_n hx hb dX8_ends_21 rfl (lv_at hl 0 rfl) ?_
      refine getF (q0 := 0) (k0 := 6) (v := .int m_thr) C hE hP inA8 rfl rfl (by decide) qFX8_41 rfl rfl dX8_ends_22 ?_
      exact lX8_ends_25 C hE hA hret m_thr m_chg m_thr v_mp ⟨hP, hD⟩ hS _ (lv_sub hl [] rfl) h
    · rw [if_pos c4] at h
      refine lv_iload_n hx hb dX8_ends_17 rfl (lv_at hl 2 rfl) ?_
      refine lv_goto (tgt := 25) hx hb dX8_ends_18 (by decide) ?_
      exact lX8_ends_25 C hE hA hret p1 m_chg m_thr v_mp ⟨hP, hD⟩ hS _ (lv_sub hl [] rfl) h

def fX8_isThrown_10 (x1 : Int32) (l1 : Int32) (m_thr : Int32) : Option (Int32 × Int32) :=
  some ((l1 &&& 1), x1)
def fX8_isThrown (m_thr : Int32) (p0 : Int32) (p1 : Int32) : Option (Int32 × Int32) :=
  fX8_isThrown_10 (if p0 = 0 then 0 else p1) p0 m_thr
set_option maxHeartbeats 4000000 in
set_option maxRecDepth 100000 in
theorem lX8_isThrown_10 {p : Program} {l : Launch} {e : Env} {s : State} {m : MethodId} {args : Array Value} {below : List Frame} {meth : Method} {c : Code} {Q : State → Prop} {D : va_G} {T : Nat → ClassId} {a_m a_ms a_mw a_mv a_mp a_mf a_ml a_mt a_mc : Nat} {m_chg : Int32} {m_rea : Int32} {m_det : Int32} {m_ref : Int32} {m_err : Int32} {m_ans : Int32} {m_sav : Int32} {m_net : Int32} {m_lin : Int32} {m_tap : Int32} {m_her : Int32} {m_cmd : Int32} {A : Nat → Prop} {r : Int32 × Int32} (C : CallFix p m c cX8_isThrown 3 s args aw RX8) (hE : eK D T s) (hA : ∀ q : Nat, s.heap.size ≤ q → A q) (hret : WrRet p l e ({ frames := 0, cells := 0, slots := 0, locals := 0 } : Room) s m args below meth c Q cX8_isThrown .boolean D A [(a_m, .inr (8, [.ref a_ms, .ref a_mw, .ref a_mv, .ref a_mp, .ref a_mf, .int m_chg, .int r.2, .int m_rea, .int m_det, .int m_ref, .int m_err, .int m_ans, .int m_sav, .int m_net, .ref a_ml, .int m_lin, .ref a_mt, .ref a_mc, .int m_tap, .int m_her, .int m_cmd]))] r.1) (x1 : Int32) (l1 : Int32) (m_thr : Int32) {H : Heap} {locs : List Loc} (hPD : va_PD D A [(a_m, .inr (8, [.ref a_ms, .ref a_mw, .ref a_mv, .ref a_mp, .ref a_mf, .int m_chg, .int m_thr, .int m_rea, .int m_det, .int m_ref, .int m_err, .int m_ans, .int m_sav, .int m_net, .ref a_ml, .int m_lin, .ref a_mt, .ref a_mc, .int m_tap, .int m_her, .int m_cmd]))] H) (hS : va_S A s.heap H locs) (ls : Array Slot) (hl : lv_has ls 3 [(1, .int l1)]) (h : fX8_isThrown_10 x1 l1 m_thr = some r) : W p l e ({ frames := 0, cells := 0, slots := 0, locals := 0 } : Room) s m args below meth c H locs 0 0 Q (F0 m 10 ls [.int x1, .ref a_m]) := by
  have hx := C.1
  have hb := C.2.1
  obtain ⟨hP, hD⟩ := hPD
  unfold fX8_isThrown_10 at h
  refine putF (q0 := 0) (k0 := 6) (ws1 := [(a_m, .inr (8, [.ref a_ms, .ref a_mw, .ref a_mv, .ref a_mp, .ref a_mf, .int m_chg, .int x1, .int m_rea, .int m_det, .int m_ref, .int m_err, .int m_ans, .int m_sav, .int m_net, .ref a_ml, .int m_lin, .ref a_mt, .ref a_mc, .int m_tap, .int m_her, .int m_cmd]))]) C hE hP hD hS inA8 tyX8_ok nmX8 rfl rfl (by decide) qFX8_41 rfl rfl rfl rfl (Nat.le_of_ble_eq_true rfl) rfl dX8_isThrown_10 ?_; clear hP hD hS; intro H locs hP hD hS
  refine lv_iload_n hx hb dX8_isThrown_13 rfl (lv_at hl 0 rfl) ?_
  replace h := Option.some.inj h
  exact hret _ _ _ _ _ _ dX8_isThrown_14 rfl (by rw [← h] <;> rfl) (by rw [← h]; exact hP) hS
set_option maxHeartbeats 4000000 in
set_option maxRecDepth 100000 in
theorem kX8_isThrown (l : Launch) (D : va_G) (T : Nat → ClassId) (a_m a_ms a_mw a_mv a_mp a_mf a_ml a_mt a_mc : Nat) (m_chg : Int32) (m_thr : Int32) (m_rea : Int32) (m_det : Int32) (m_ref : Int32) (m_err : Int32) (m_ans : Int32) (m_sav : Int32) (m_net : Int32) (m_lin : Int32) (m_tap : Int32) (m_her : Int32) (m_cmd : Int32) (p0 : Int32) (p1 : Int32) (sz : Nat) (r : Int32 × Int32) (h : fX8_isThrown m_thr p0 p1 = some r) : WrI l yX8_isThrown cX8_isThrown 3 .boolean ({ frames := 0, cells := 0, slots := 0, locals := 0 } : Room) D T sz [(a_m, .inr (8, [.ref a_ms, .ref a_mw, .ref a_mv, .ref a_mp, .ref a_mf, .int m_chg, .int m_thr, .int m_rea, .int m_det, .int m_ref, .int m_err, .int m_ans, .int m_sav, .int m_net, .ref a_ml, .int m_lin, .ref a_mt, .ref a_mc, .int m_tap, .int m_her, .int m_cmd]))] [(a_m, .inr (8, [.ref a_ms, .ref a_mw, .ref a_mv, .ref a_mp, .ref a_mf, .int m_chg, .int r.2, .int m_rea, .int m_det, .int m_ref, .int m_err, .int m_ans, .int m_sav, .int m_net, .ref a_ml, .int m_lin, .ref a_mt, .ref a_mc, .int m_tap, .int m_her, .int m_cmd]))] [.ref a_m, .int p0, .int p1] r.1 := by
  unfold fX8_isThrown at h
  refine wrMet (by decide +kernel) rfl (fun p e s m args below meth c Q A C hE hA hP hD hS hret ls hl => ?_)
  have hx := C.1
  have hb := C.2.1
  have hl : lv_has ls 3 [(0, .ref a_m), (1, .int p0), (2, .int p1)] := hl
  refine lv_aload_n hx hb dX8_isThrown_0 rfl (lv_at hl 0 rfl) ?_
  refine lv_iload_n hx hb dX8_isThrown_1 rfl (lv_at hl 1 rfl) ?_
  refine lv_if_eq (tgt := 9) hx hb dX8_isThrown_2 (by decide) (fun c1 => ?_) (fun c1 => ?_)
  · rw [if_pos c1] at h
    refine lv_iconst (v := 0) hx hb dX8_isThrown_9 (by decide) ?_
    exact lX8_isThrown_10 C hE hA hret 0 p0 m_thr ⟨hP, hD⟩ hS _ (lv_sub hl [1] rfl) h
  · rw [if_neg c1] at h
    refine lv_iload_n hx hb dX8_isThrown_5 rfl (lv_at hl 2 rfl) ?_
    refine lv_goto (tgt := 10) hx hb dX8_isThrown_6 (by decide) ?_
    exact lX8_isThrown_10 C hE hA hret p1 p0 m_thr ⟨hP, hD⟩ hS _ (lv_sub hl [1] rfl) h

def fX8_isRefused (m_thr : Int32) (m_rea : Int32) (m_det : Int32) (m_ref : Int32) (p0 : Int32) (p1 : Int32) (p2 : Int32) : Option (Int32 × Int32 × Int32 × Int32 × Int32) :=
  if p0 = 0 then
    some ((p0 &&& 1), m_thr, m_rea, m_det, m_ref)
  else
    some ((p0 &&& 1), 9, p1, p2, (-1))
set_option maxHeartbeats 4000000 in
set_option maxRecDepth 100000 in
theorem kX8_isRefused (l : Launch) (D : va_G) (T : Nat → ClassId) (a_m a_ms a_mw a_mv a_mp a_mf a_ml a_mt a_mc : Nat) (m_chg : Int32) (m_thr : Int32) (m_rea : Int32) (m_det : Int32) (m_ref : Int32) (m_err : Int32) (m_ans : Int32) (m_sav : Int32) (m_net : Int32) (m_lin : Int32) (m_tap : Int32) (m_her : Int32) (m_cmd : Int32) (p0 : Int32) (p1 : Int32) (p2 : Int32) (sz : Nat) (r : Int32 × Int32 × Int32 × Int32 × Int32) (h : fX8_isRefused m_thr m_rea m_det m_ref p0 p1 p2 = some r) : WrI l yX8_isRefused cX8_isRefused 4 .boolean ({ frames := 0, cells := 0, slots := 0, locals := 0 } : Room) D T sz [(a_m, .inr (8, [.ref a_ms, .ref a_mw, .ref a_mv, .ref a_mp, .ref a_mf, .int m_chg, .int m_thr, .int m_rea, .int m_det, .int m_ref, .int m_err, .int m_ans, .int m_sav, .int m_net, .ref a_ml, .int m_lin, .ref a_mt, .ref a_mc, .int m_tap, .int m_her, .int m_cmd]))] [(a_m, .inr (8, [.ref a_ms, .ref a_mw, .ref a_mv, .ref a_mp, .ref a_mf, .int m_chg, .int r.2.1, .int r.2.2.1, .int r.2.2.2.1, .int r.2.2.2.2, .int m_err, .int m_ans, .int m_sav, .int m_net, .ref a_ml, .int m_lin, .ref a_mt, .ref a_mc, .int m_tap, .int m_her, .int m_cmd]))] [.ref a_m, .int p0, .int p1, .int p2] r.1 := by
  unfold fX8_isRefused at h
  refine wrMet (by decide +kernel) rfl (fun p e s m args below meth c Q A C hE hA hP hD hS hret ls hl => ?_)
  have hx := C.1
  have hb := C.2.1
  have hl : lv_has ls 4 [(0, .ref a_m), (1, .int p0), (2, .int p1), (3, .int p2)] := hl
  refine lv_iload_n hx hb dX8_isRefused_0 rfl (lv_at hl 1 rfl) ?_
  refine lv_if_eq (tgt := 25) hx hb dX8_isRefused_1 (by decide) (fun c1 => ?_) (fun c1 => ?_)
  · replace h := ite_t c1 h
    refine lv_iload_n hx hb dX8_isRefused_25 rfl (lv_at hl 1 rfl) ?_
    replace h := Option.some.inj h
    exact hret _ _ _ _ _ _ dX8_isRefused_26 rfl (by rw [← h] <;> rfl) (by rw [← h]; exact hP) hS
  · replace h := ite_f c1 h
    refine lv_aload_n hx hb dX8_isRefused_4 rfl (lv_at hl 0 rfl) ?_
    refine lv_iload_n hx hb dX8_isRefused_5 rfl (lv_at hl 2 rfl) ?_
    refine putF (q0 := 0) (k0 := 7) (ws1 := [(a_m, .inr (8, [.ref a_ms, .ref a_mw, .ref a_mv, .ref a_mp, .ref a_mf, .int m_chg, .int m_thr, .int p1, .int m_det, .int m_ref, .int m_err, .int m_ans, .int m_sav, .int m_net, .ref a_ml, .int m_lin, .ref a_mt, .ref a_mc, .int m_tap, .int m_her, .int m_cmd]))]) C hE hP hD hS inA8 tyX8_ok nmX8 rfl rfl (by decide) qFX8_54 rfl rfl rfl rfl (Nat.le_of_ble_eq_true rfl) rfl dX8_isRefused_6 ?_; clear hP hD hS; intro H locs hP hD hS
    refine lv_aload_n hx hb dX8_isRefused_9 rfl (lv_at hl 0 rfl) ?_
    refine lv_iload_n hx hb dX8_isRefused_10 rfl (lv_at hl 3 rfl) ?_
    refine putF (q0 := 0) (k0 := 8) (ws1 := [(a_m, .inr (8, [.ref a_ms, .ref a_mw, .ref a_mv, .ref a_mp, .ref a_mf, .int m_chg, .int m_thr, .int p1, .int p2, .int m_ref, .int m_err, .int m_ans, .int m_sav, .int m_net, .ref a_ml, .int m_lin, .ref a_mt, .ref a_mc, .int m_tap, .int m_her, .int m_cmd]))]) C hE hP hD hS inA8 tyX8_ok nmX8 rfl rfl (by decide) qFX8_57 rfl rfl rfl rfl (Nat.le_of_ble_eq_true rfl) rfl dX8_isRefused_11 ?_; clear hP hD hS; intro H locs hP hD hS
    refine lv_aload_n hx hb dX8_isRefused_14 rfl (lv_at hl 0 rfl) ?_
    refine lv_iconst (v := (-1)) hx hb dX8_isRefused_15 (by decide) ?_
    refine putF (q0 := 0) (k0 := 9) (ws1 := [(a_m, .inr (8, [.ref a_ms, .ref a_mw, .ref a_mv, .ref a_mp, .ref a_mf, .int m_chg, .int m_thr, .int p1, .int p2, .int (-1), .int m_err, .int m_ans, .int m_sav, .int m_net, .ref a_ml, .int m_lin, .ref a_mt, .ref a_mc, .int m_tap, .int m_her, .int m_cmd]))]) C hE hP hD hS inA8 tyX8_ok nmX8 rfl rfl (by decide) qFX8_25 rfl rfl rfl rfl (Nat.le_of_ble_eq_true rfl) rfl dX8_isRefused_16 ?_; clear hP hD hS; intro H locs hP hD hS
    refine lv_aload_n hx hb dX8_isRefused_19 rfl (lv_at hl 0 rfl) ?_
    refine lv_bipush (v := 9) hx hb dX8_isRefused_20 (by decide) ?_
    refine putF (q0 := 0) (k0 := 6) (ws1 := [(a_m, .inr (8, [.ref a_ms, .ref a_mw, .ref a_mv, .ref a_mp, .ref a_mf, .int m_chg, .int 9, .int p1, .int p2, .int (-1), .int m_err, .int m_ans, .int m_sav, .int m_net, .ref a_ml, .int m_lin, .ref a_mt, .ref a_mc, .int m_tap, .int m_her, .int m_cmd]))]) C hE hP hD hS inA8 tyX8_ok nmX8 rfl rfl (by decide) qFX8_41 rfl rfl rfl rfl (Nat.le_of_ble_eq_true rfl) rfl dX8_isRefused_22 ?_; clear hP hD hS; intro H locs hP hD hS
    refine lv_iload_n hx hb dX8_isRefused_25 rfl (lv_at hl 1 rfl) ?_
    replace h := Option.some.inj h
    exact hret _ _ _ _ _ _ dX8_isRefused_26 rfl (by rw [← h] <;> rfl) (by rw [← h]; exact hP) hS

def fX8_of (v_ms : Nat → Int32) (p0 : Int32) (p1 : Int32) : Option Int32 :=
  if vin ((13 + (9 * p0)) + p1) 103 = true then
  some (v_ms ((13 + (9 * p0)) + p1).toNatClampNeg)
  else none
set_option maxHeartbeats 4000000 in
set_option maxRecDepth 100000 in
theorem kX8_of (l : Launch) (D : va_G) (T : Nat → ClassId) (a_m a_ms a_mw a_mv a_mp a_mf a_ml a_mt a_mc : Nat) (m_chg : Int32) (m_thr : Int32) (m_rea : Int32) (m_det : Int32) (m_ref : Int32) (m_err : Int32) (m_ans : Int32) (m_sav : Int32) (m_net : Int32) (m_lin : Int32) (m_tap : Int32) (m_her : Int32) (m_cmd : Int32) (v_ms : Nat → Int32) (p0 : Int32) (p1 : Int32) (r : Int32) (h : fX8_of v_ms p0 p1 = some r) : RdI l yX8_of cX8_of 3 .int ({ frames := 0, cells := 0, slots := 0, locals := 0 } : Room) D T [(a_m, .inr (8, [.ref a_ms, .ref a_mw, .ref a_mv, .ref a_mp, .ref a_mf, .int m_chg, .int m_thr, .int m_rea, .int m_det, .int m_ref, .int m_err, .int m_ans, .int m_sav, .int m_net, .ref a_ml, .int m_lin, .ref a_mt, .ref a_mc, .int m_tap, .int m_her, .int m_cmd])), (a_ms, .inl (T 0, 103, .inl v_ms))] [.ref a_m, .int p0, .int p1] r := by
  unfold fX8_of at h
  refine rdMet (by decide +kernel) rfl (fun p e s m args below meth c Q C hE hP hret ls hl => ?_)
  have hx := C.1
  have hb := C.2.1
  have hl : lv_has ls 3 [(0, .ref a_m), (1, .int p0), (2, .int p1)] := hl
  refine lv_aload_n hx hb dX8_of_0 rfl (lv_at hl 0 rfl) ?_
  refine getF (q0 := 0) (k0 := 0) (v := .ref a_ms) C hE hP inA8 rfl rfl (by decide) qFX8_9 rfl rfl dX8_of_1 ?_
  refine lv_bipush (v := 13) hx hb dX8_of_4 (by decide) ?_
  refine lv_bipush (v := 9) hx hb dX8_of_6 (by decide) ?_
  refine lv_iload_n hx hb dX8_of_8 rfl (lv_at hl 1 rfl) ?_
  refine lv_imul hx hb dX8_of_9 ?_
  refine lv_iadd hx hb dX8_of_10 ?_
  refine lv_iload_n hx hb dX8_of_11 rfl (lv_at hl 2 rfl) ?_
  refine lv_iadd hx hb dX8_of_12 ?_
  replace h := gd h; obtain ⟨g1, h⟩ := h
  refine aldI (q0 := 1) C hE hP rfl g1 dX8_of_13 ?_
  exact hret _ _ _ _ dX8_of_14 rfl (Option.some.inj h)

def fX8_sets (v_ms : Nat → Int32) (p0 : Int32) (p1 : Int32) (p2 : Int32) : Option ((Nat → Int32)) :=
  if vin ((13 + (9 * p0)) + p1) 103 = true then
  some (upd v_ms ((13 + (9 * p0)) + p1).toNatClampNeg p2)
  else none
set_option maxHeartbeats 4000000 in
set_option maxRecDepth 100000 in
theorem kX8_sets (l : Launch) (D : va_G) (T : Nat → ClassId) (a_m a_ms a_mw a_mv a_mp a_mf a_ml a_mt a_mc : Nat) (m_chg : Int32) (m_thr : Int32) (m_rea : Int32) (m_det : Int32) (m_ref : Int32) (m_err : Int32) (m_ans : Int32) (m_sav : Int32) (m_net : Int32) (m_lin : Int32) (m_tap : Int32) (m_her : Int32) (m_cmd : Int32) (v_ms : Nat → Int32) (p0 : Int32) (p1 : Int32) (p2 : Int32) (sz : Nat) (r : (Nat → Int32)) (h : fX8_sets v_ms p0 p1 p2 = some r) : WrV l yX8_sets cX8_sets 4 ({ frames := 0, cells := 0, slots := 0, locals := 0 } : Room) D T sz [(a_m, .inr (8, [.ref a_ms, .ref a_mw, .ref a_mv, .ref a_mp, .ref a_mf, .int m_chg, .int m_thr, .int m_rea, .int m_det, .int m_ref, .int m_err, .int m_ans, .int m_sav, .int m_net, .ref a_ml, .int m_lin, .ref a_mt, .ref a_mc, .int m_tap, .int m_her, .int m_cmd])), (a_ms, .inl (T 0, 103, .inl v_ms))] [(a_m, .inr (8, [.ref a_ms, .ref a_mw, .ref a_mv, .ref a_mp, .ref a_mf, .int m_chg, .int m_thr, .int m_rea, .int m_det, .int m_ref, .int m_err, .int m_ans, .int m_sav, .int m_net, .ref a_ml, .int m_lin, .ref a_mt, .ref a_mc, .int m_tap, .int m_her, .int m_cmd])), (a_ms, .inl (T 0, 103, .inl r))] [.ref a_m, .int p0, .int p1, .int p2] := by
  unfold fX8_sets at h
  refine wrMetV (by decide +kernel) rfl (fun p e s m args below meth c Q A C hE hA hP hD hS hret ls hl => ?_)
  have hx := C.1
  have hb := C.2.1
  have hl : lv_has ls 4 [(0, .ref a_m), (1, .int p0), (2, .int p1), (3, .int p2)] := hl
  refine lv_aload_n hx hb dX8_sets_0 rfl (lv_at hl 0 rfl) ?_
  refine getF (q0 := 0) (k0 := 0) (v := .ref a_ms) C hE hP inA8 rfl rfl (by decide) qFX8_9 rfl rfl dX8_sets_1 ?_
  refine lv_bipush (v := 13) hx hb dX8_sets_4 (by decide) ?_
  refine lv_bipush (v := 9) hx hb dX8_sets_6 (by decide) ?_
  refine lv_iload_n hx hb dX8_sets_8 rfl (lv_at hl 1 rfl) ?_
  refine lv_imul hx hb dX8_sets_9 ?_
  refine lv_iadd hx hb dX8_sets_10 ?_
  refine lv_iload_n hx hb dX8_sets_11 rfl (lv_at hl 2 rfl) ?_
  refine lv_iadd hx hb dX8_sets_12 ?_
  refine lv_iload_n hx hb dX8_sets_13 rfl (lv_at hl 3 rfl) ?_
  replace h := gd h; obtain ⟨g1, h⟩ := h
  refine astI (q0 := 1) (ws1 := [(a_m, .inr (8, [.ref a_ms, .ref a_mw, .ref a_mv, .ref a_mp, .ref a_mf, .int m_chg, .int m_thr, .int m_rea, .int m_det, .int m_ref, .int m_err, .int m_ans, .int m_sav, .int m_net, .ref a_ml, .int m_lin, .ref a_mt, .ref a_mc, .int m_tap, .int m_her, .int m_cmd])), (a_ms, .inl (T 0, 103, .inl (upd v_ms ((13 + (9 * p0)) + p1).toNatClampNeg p2)))]) C hE hP hD hS rfl g1 rfl dX8_sets_14 ?_; clear hP hD hS; intro H locs hP hD hS
  replace h := Option.some.inj h
  exact hret _ _ _ _ dX8_sets_15 (by rw [← h]; exact hP) hS

def fX8_isWhale (v_ms : Nat → Int32) (p0 : Int32) : Option Int32 :=
  if vin 0 103 = true then
  some ((fX8_isIn p0 0 ((v_ms (0 : Int32).toNatClampNeg) - 1)) &&& 1)
  else none
set_option maxHeartbeats 4000000 in
set_option maxRecDepth 100000 in
theorem kX8_isWhale (l : Launch) (D : va_G) (T : Nat → ClassId) (a_m a_ms a_mw a_mv a_mp a_mf a_ml a_mt a_mc : Nat) (m_chg : Int32) (m_thr : Int32) (m_rea : Int32) (m_det : Int32) (m_ref : Int32) (m_err : Int32) (m_ans : Int32) (m_sav : Int32) (m_net : Int32) (m_lin : Int32) (m_tap : Int32) (m_her : Int32) (m_cmd : Int32) (v_ms : Nat → Int32) (p0 : Int32) (r : Int32) (h : fX8_isWhale v_ms p0 = some r) : RdI l yX8_isWhale cX8_isWhale 2 .boolean ({ frames := 1, cells := 0, slots := 0, locals := 22 } : Room) D T [(a_m, .inr (8, [.ref a_ms, .ref a_mw, .ref a_mv, .ref a_mp, .ref a_mf, .int m_chg, .int m_thr, .int m_rea, .int m_det, .int m_ref, .int m_err, .int m_ans, .int m_sav, .int m_net, .ref a_ml, .int m_lin, .ref a_mt, .ref a_mc, .int m_tap, .int m_her, .int m_cmd])), (a_ms, .inl (T 0, 103, .inl v_ms))] [.ref a_m, .int p0] r := by
  unfold fX8_isWhale at h
  refine rdMet (by decide +kernel) rfl (fun p e s m args below meth c Q C hE hP hret ls hl => ?_)
  have hx := C.1
  have hb := C.2.1
  have hl : lv_has ls 2 [(0, .ref a_m), (1, .int p0)] := hl
  refine lv_iload_n hx hb dX8_isWhale_0 rfl (lv_at hl 1 rfl) ?_
  refine lv_iconst (v := 0) hx hb dX8_isWhale_1 (by decide) ?_
  refine lv_aload_n hx hb dX8_isWhale_2 rfl (lv_at hl 0 rfl) ?_
  refine getF (q0 := 0) (k0 := 0) (v := .ref a_ms) C hE hP inA8 rfl rfl (by decide) qFX8_9 rfl rfl dX8_isWhale_3 ?_
  refine lv_iconst (v := 0) hx hb dX8_isWhale_6 (by decide) ?_
  replace h := gd h; obtain ⟨g1, h⟩ := h
  refine aldI (q0 := 1) C hE hP rfl g1 dX8_isWhale_7 ?_
  refine lv_iconst (v := 1) hx hb dX8_isWhale_8 (by decide) ?_
  refine lv_isub hx hb dX8_isWhale_9 ?_
  refine rdS C hE hP (kX8_isIn l D T p0 0 ((v_ms (0 : Int32).toNatClampNeg) - 1)) mX8_isIn qLX8_60 [] rfl ⟨rfl, rfl⟩ ⟨Nat.le_of_ble_eq_true rfl, Nat.le_of_ble_eq_true rfl⟩ rfl hl.1 rfl (Nat.le_of_ble_eq_true rfl) dX8_isWhale_10 ⟨Nat.le_of_ble_eq_true rfl, Nat.le_of_ble_eq_true rfl⟩ ?_
  exact hret _ _ _ _ dX8_isWhale_13 rfl (Option.some.inj h)

def fX8_isCell (p0 : Int32) : Int32 :=
  ((fX8_isIn p0 0 44) &&& 1)
set_option maxHeartbeats 4000000 in
set_option maxRecDepth 100000 in
theorem kX8_isCell (l : Launch) (D : va_G) (T : Nat → ClassId) (p0 : Int32) : RdI l yX8_isCell cX8_isCell 1 .boolean ({ frames := 1, cells := 0, slots := 0, locals := 22 } : Room) D T [] [.int p0] (fX8_isCell p0) := by
  obtain ⟨r, h⟩ : ∃ r, fX8_isCell p0 = r := ⟨_, rfl⟩
  rw [h]
  unfold fX8_isCell at h
  refine rdMet (by decide +kernel) rfl (fun p e s m args below meth c Q C hE hP hret ls hl => ?_)
  have hx := C.1
  have hb := C.2.1
  have hl : lv_has ls 1 [(0, .int p0)] := hl
  refine lv_iload_n hx hb dX8_isCell_0 rfl (lv_at hl 0 rfl) ?_
  refine lv_iconst (v := 0) hx hb dX8_isCell_1 (by decide) ?_
  refine lv_bipush (v := 44) hx hb dX8_isCell_2 (by decide) ?_
  refine rdS C hE hP (kX8_isIn l D T p0 0 44) mX8_isIn qLX8_60 [] rfl ⟨rfl, rfl⟩ ⟨Nat.le_of_ble_eq_true rfl, Nat.le_of_ble_eq_true rfl⟩ rfl hl.1 rfl (Nat.le_of_ble_eq_true rfl) dX8_isCell_4 ⟨Nat.le_of_ble_eq_true rfl, Nat.le_of_ble_eq_true rfl⟩ ?_
  exact hret _ _ _ _ dX8_isCell_7 rfl h

def fX8_apart (p0 : Int32) (p1 : Int32) : Int32 :=
  ((fX8_between (p0 / 9) (p1 / 9)) + (fX8_between (p0 - p0 / 9 * 9) (p1 - p1 / 9 * 9)))
set_option maxHeartbeats 4000000 in
set_option maxRecDepth 100000 in
theorem kX8_apart (l : Launch) (D : va_G) (T : Nat → ClassId) (p0 : Int32) (p1 : Int32) : RdI l yX8_apart cX8_apart 2 .int ({ frames := 1, cells := 0, slots := 0, locals := 21 } : Room) D T [] [.int p0, .int p1] (fX8_apart p0 p1) := by
  obtain ⟨r, h⟩ : ∃ r, fX8_apart p0 p1 = r := ⟨_, rfl⟩
  rw [h]
  unfold fX8_apart at h
  refine rdMet (by decide +kernel) rfl (fun p e s m args below meth c Q C hE hP hret ls hl => ?_)
  have hx := C.1
  have hb := C.2.1
  have hl : lv_has ls 2 [(0, .int p0), (1, .int p1)] := hl
  refine lv_iload_n hx hb dX8_apart_0 rfl (lv_at hl 0 rfl) ?_
  refine lv_bipush (v := 9) hx hb dX8_apart_1 (by decide) ?_
  refine lv_idiv hx hb dX8_apart_3 (by decide) ?_
  refine lv_iload_n hx hb dX8_apart_4 rfl (lv_at hl 1 rfl) ?_
  refine lv_bipush (v := 9) hx hb dX8_apart_5 (by decide) ?_
  refine lv_idiv hx hb dX8_apart_7 (by decide) ?_
  refine rdS C hE hP (kX8_between l D T (p0 / 9) (p1 / 9)) mX8_between qLX8_64 [] rfl ⟨rfl, rfl⟩ ⟨Nat.le_of_ble_eq_true rfl, Nat.le_of_ble_eq_true rfl⟩ rfl hl.1 rfl (Nat.le_of_ble_eq_true rfl) dX8_apart_8 ⟨Nat.le_of_ble_eq_true rfl, Nat.le_of_ble_eq_true rfl⟩ ?_
  refine lv_iload_n hx hb dX8_apart_11 rfl (lv_at hl 0 rfl) ?_
  refine lv_bipush (v := 9) hx hb dX8_apart_12 (by decide) ?_
  refine lv_irem hx hb dX8_apart_14 (by decide) ?_
  refine lv_iload_n hx hb dX8_apart_15 rfl (lv_at hl 1 rfl) ?_
  refine lv_bipush (v := 9) hx hb dX8_apart_16 (by decide) ?_
  refine lv_irem hx hb dX8_apart_18 (by decide) ?_
  refine rdS C hE hP (kX8_between l D T (p0 - p0 / 9 * 9) (p1 - p1 / 9 * 9)) mX8_between qLX8_64 [] rfl ⟨rfl, rfl⟩ ⟨Nat.le_of_ble_eq_true rfl, Nat.le_of_ble_eq_true rfl⟩ rfl hl.1 rfl (Nat.le_of_ble_eq_true rfl) dX8_apart_19 ⟨Nat.le_of_ble_eq_true rfl, Nat.le_of_ble_eq_true rfl⟩ ?_
  refine lv_iadd hx hb dX8_apart_22 ?_
  exact hret _ _ _ _ dX8_apart_23 rfl h

def fX8_tideAt (p0 : Int32) : Int32 :=
  (fX8_between 8 (p0 - p0 / 16 * 16))
set_option maxHeartbeats 4000000 in
set_option maxRecDepth 100000 in
theorem kX8_tideAt (l : Launch) (D : va_G) (T : Nat → ClassId) (p0 : Int32) : RdI l yX8_tideAt cX8_tideAt 1 .int ({ frames := 1, cells := 0, slots := 0, locals := 21 } : Room) D T [] [.int p0] (fX8_tideAt p0) := by
  obtain ⟨r, h⟩ : ∃ r, fX8_tideAt p0 = r := ⟨_, rfl⟩
  rw [h]
  unfold fX8_tideAt at h
  refine rdMet (by decide +kernel) rfl (fun p e s m args below meth c Q C hE hP hret ls hl => ?_)
  have hx := C.1
  have hb := C.2.1
  have hl : lv_has ls 1 [(0, .int p0)] := hl
  refine lv_bipush (v := 8) hx hb dX8_tideAt_0 (by decide) ?_
  refine lv_iload_n hx hb dX8_tideAt_2 rfl (lv_at hl 0 rfl) ?_
  refine lv_bipush (v := 16) hx hb dX8_tideAt_3 (by decide) ?_
  refine lv_irem hx hb dX8_tideAt_5 (by decide) ?_
  refine rdS C hE hP (kX8_between l D T 8 (p0 - p0 / 16 * 16)) mX8_between qLX8_64 [] rfl ⟨rfl, rfl⟩ ⟨Nat.le_of_ble_eq_true rfl, Nat.le_of_ble_eq_true rfl⟩ rfl hl.1 rfl (Nat.le_of_ble_eq_true rfl) dX8_tideAt_6 ⟨Nat.le_of_ble_eq_true rfl, Nat.le_of_ble_eq_true rfl⟩ ?_
  exact hret _ _ _ _ dX8_tideAt_9 rfl h

def fX8_isDryAt (p0 : Int32) (p1 : Int32) : Int32 :=
  if 2 < (fX8_tideAt p1) then
    0
  else
    if p0 < 9 then
      1
    else
      if p0 < 36 then
        0
      else
        1
set_option maxHeartbeats 4000000 in
set_option maxRecDepth 100000 in
theorem kX8_isDryAt (l : Launch) (D : va_G) (T : Nat → ClassId) (a_m : Nat) (p0 : Int32) (p1 : Int32) : RdI l yX8_isDryAt cX8_isDryAt 3 .boolean ({ frames := 2, cells := 0, slots := 0, locals := 41 } : Room) D T [] [.ref a_m, .int p0, .int p1] (fX8_isDryAt p0 p1) := by
  obtain ⟨r, h⟩ : ∃ r, fX8_isDryAt p0 p1 = r := ⟨_, rfl⟩
  rw [h]
  unfold fX8_isDryAt at h
  refine rdMet (by decide +kernel) rfl (fun p e s m args below meth c Q C hE hP hret ls hl => ?_)
  have hx := C.1
  have hb := C.2.1
  have hl : lv_has ls 3 [(0, .ref a_m), (1, .int p0), (2, .int p1)] := hl
  refine lv_iload_n hx hb dX8_isDryAt_0 rfl (lv_at hl 2 rfl) ?_
  refine rdS C hE hP (kX8_tideAt l D T p1) mX8_tideAt qLX8_68 [] rfl ⟨rfl, rfl⟩ ⟨Nat.le_of_ble_eq_true rfl, Nat.le_of_ble_eq_true rfl⟩ rfl hl.1 rfl (Nat.le_of_ble_eq_true rfl) dX8_isDryAt_1 ⟨Nat.le_of_ble_eq_true rfl, Nat.le_of_ble_eq_true rfl⟩ ?_
  refine lv_iconst (v := 2) hx hb dX8_isDryAt_4 (by decide) ?_
  refine lv_icmp_gt (tgt := 24) hx hb dX8_isDryAt_5 (by decide) (fun c1 => ?_) (fun c1 => ?_)
  · replace h := ite_t c1 h
    refine lv_iconst (v := 0) hx hb dX8_isDryAt_24 (by decide) ?_
    exact hret _ _ _ _ dX8_isDryAt_25 rfl h
  · replace h := ite_f c1 h
    refine lv_iload_n hx hb dX8_isDryAt_8 rfl (lv_at hl 1 rfl) ?_
    refine lv_bipush (v := 9) hx hb dX8_isDryAt_9 (by decide) ?_
    refine lv_icmp_lt (tgt := 20) hx hb dX8_isDryAt_11 (by decide) (fun c2 => ?_) (fun c2 => ?_)
    · replace h := ite_t c2 h
      refine lv_iconst (v := 1) hx hb dX8_isDryAt_20 (by decide) ?_
      refine lv_goto (tgt := 25) hx hb dX8_isDryAt_21 (by decide) ?_
      exact hret _ _ _ _ dX8_isDryAt_25 rfl h
    · replace h := ite_f c2 h
      refine lv_iload_n hx hb dX8_isDryAt_14 rfl (lv_at hl 1 rfl) ?_
      refine lv_bipush (v := 36) hx hb dX8_isDryAt_15 (by decide) ?_
      refine lv_icmp_lt (tgt := 24) hx hb dX8_isDryAt_17 (by decide) (fun c3 => ?_) (fun c3 => ?_)
      · replace h := ite_t c3 h
        refine lv_iconst (v := 0) hx hb dX8_isDryAt_24 (by decide) ?_
        exact hret _ _ _ _ dX8_isDryAt_25 rfl h
      · replace h := ite_f c3 h
        refine lv_iconst (v := 1) hx hb dX8_isDryAt_20 (by decide) ?_
        refine lv_goto (tgt := 25) hx hb dX8_isDryAt_21 (by decide) ?_
        exact hret _ _ _ _ dX8_isDryAt_25 rfl h

def fX8_isDryNow (v_ms : Nat → Int32) (p0 : Int32) : Option Int32 :=
  if vin 1 103 = true then
  some ((fX8_isDryAt p0 (v_ms (1 : Int32).toNatClampNeg)) &&& 1)
  else none
set_option maxHeartbeats 4000000 in
set_option maxRecDepth 100000 in
theorem kX8_isDryNow (l : Launch) (D : va_G) (T : Nat → ClassId) (a_m a_ms a_mw a_mv a_mp a_mf a_ml a_mt a_mc : Nat) (m_chg : Int32) (m_thr : Int32) (m_rea : Int32) (m_det : Int32) (m_ref : Int32) (m_err : Int32) (m_ans : Int32) (m_sav : Int32) (m_net : Int32) (m_lin : Int32) (m_tap : Int32) (m_her : Int32) (m_cmd : Int32) (v_ms : Nat → Int32) (p0 : Int32) (r : Int32) (h : fX8_isDryNow v_ms p0 = some r) : RdI l yX8_isDryNow cX8_isDryNow 2 .boolean ({ frames := 3, cells := 0, slots := 0, locals := 63 } : Room) D T [(a_m, .inr (8, [.ref a_ms, .ref a_mw, .ref a_mv, .ref a_mp, .ref a_mf, .int m_chg, .int m_thr, .int m_rea, .int m_det, .int m_ref, .int m_err, .int m_ans, .int m_sav, .int m_net, .ref a_ml, .int m_lin, .ref a_mt, .ref a_mc, .int m_tap, .int m_her, .int m_cmd])), (a_ms, .inl (T 0, 103, .inl v_ms))] [.ref a_m, .int p0] r := by
  unfold fX8_isDryNow at h
  refine rdMet (by decide +kernel) rfl (fun p e s m args below meth c Q C hE hP hret ls hl => ?_)
  have hx := C.1
  have hb := C.2.1
  have hl : lv_has ls 2 [(0, .ref a_m), (1, .int p0)] := hl
  refine lv_aload_n hx hb dX8_isDryNow_0 rfl (lv_at hl 0 rfl) ?_
  refine lv_iload_n hx hb dX8_isDryNow_1 rfl (lv_at hl 1 rfl) ?_
  refine lv_aload_n hx hb dX8_isDryNow_2 rfl (lv_at hl 0 rfl) ?_
  refine getF (q0 := 0) (k0 := 0) (v := .ref a_ms) C hE hP inA8 rfl rfl (by decide) qFX8_9 rfl rfl dX8_isDryNow_3 ?_
  refine lv_iconst (v := 1) hx hb dX8_isDryNow_6 (by decide) ?_
  replace h := gd h; obtain ⟨g1, h⟩ := h
  refine aldI (q0 := 1) C hE hP rfl g1 dX8_isDryNow_7 ?_
  refine rdV C hE hP (kX8_isDryAt l D T a_m p0 (v_ms (1 : Int32).toNatClampNeg)) mX8_isDryAt qLX8_72 [] 0 rfl rfl rfl rfl ⟨rfl, rfl⟩ ⟨Nat.le_of_ble_eq_true rfl, Nat.le_of_ble_eq_true rfl⟩ rfl hl.1 rfl (Nat.le_of_ble_eq_true rfl) dX8_isDryNow_8 ⟨Nat.le_of_ble_eq_true rfl, Nat.le_of_ble_eq_true rfl⟩ ?_
  exact hret _ _ _ _ dX8_isDryNow_11 rfl (Option.some.inj h)

def fX8_isDry_13 (v_ms : Nat → Int32) (x1 : Int32) (l1 : Int32) (m_thr : Int32) : Option (Int32 × Int32) :=
  (fX8_isThrown m_thr x1 1).bind fun q2 =>
  if q2.1 = 0 then
    (fX8_isDryNow v_ms l1).bind fun q5 =>
    if q5 = 0 then
      some (0, q2.2)
    else
      some (1, q2.2)
  else
    some (0, q2.2)
def fX8_isDry (m_thr : Int32) (v_ms : Nat → Int32) (p0 : Int32) : Option (Int32 × Int32) :=
  fX8_isDry_13 v_ms (if (fX8_isCell p0) = 0 then 1 else 0) p0 m_thr
set_option maxHeartbeats 4000000 in
set_option maxRecDepth 100000 in
theorem lX8_isDry_13 {p : Program} {l : Launch} {e : Env} {s : State} {m : MethodId} {args : Array Value} {below : List Frame} {meth : Method} {c : Code} {Q : State → Prop} {D : va_G} {T : Nat → ClassId} {a_m a_ms a_mw a_mv a_mp a_mf a_ml a_mt a_mc : Nat} {m_chg : Int32} {m_rea : Int32} {m_det : Int32} {m_ref : Int32} {m_err : Int32} {m_ans : Int32} {m_sav : Int32} {m_net : Int32} {m_lin : Int32} {m_tap : Int32} {m_her : Int32} {m_cmd : Int32} {v_ms : Nat → Int32} {A : Nat → Prop} {r : Int32 × Int32} (C : CallFix p m c cX8_isDry 2 s args aw RX8) (hE : eK D T s) (hA : ∀ q : Nat, s.heap.size ≤ q → A q) (hret : WrRet p l e ({ frames := 4, cells := 0, slots := 0, locals := 84 } : Room) s m args below meth c Q cX8_isDry .boolean D A [(a_m, .inr (8, [.ref a_ms, .ref a_mw, .ref a_mv, .ref a_mp, .ref a_mf, .int m_chg, .int r.2, .int m_rea, .int m_det, .int m_ref, .int m_err, .int m_ans, .int m_sav, .int m_net, .ref a_ml, .int m_lin, .ref a_mt, .ref a_mc, .int m_tap, .int m_her, .int m_cmd])), (a_ms, .inl (T 0, 103, .inl v_ms))] r.1) (x1 : Int32) (l1 : Int32) (m_thr : Int32) {H : Heap} {locs : List Loc} (hPD : va_PD D A [(a_m, .inr (8, [.ref a_ms, .ref a_mw, .ref a_mv, .ref a_mp, .ref a_mf, .int m_chg, .int m_thr, .int m_rea, .int m_det, .int m_ref, .int m_err, .int m_ans, .int m_sav, .int m_net, .ref a_ml, .int m_lin, .ref a_mt, .ref a_mc, .int m_tap, .int m_her, .int m_cmd])), (a_ms, .inl (T 0, 103, .inl v_ms))] H) (hS : va_S A s.heap H locs) (ls : Array Slot) (hl : lv_has ls 2 [(0, .ref a_m), (1, .int l1)]) (h : fX8_isDry_13 v_ms x1 l1 m_thr = some r) : W p l e ({ frames := 4, cells := 0, slots := 0, locals := 84 } : Room) s m args below meth c H locs 0 0 Q (F0 m 13 ls [.int x1, .ref a_m]) := by
  have hx := C.1
  have hb := C.2.1
  obtain ⟨hP, hD⟩ := hPD
  unfold fX8_isDry_13 at h
  refine lv_iconst (v := 1) hx hb dX8_isDry_13 (by decide) ?_
  replace h := bnd h; obtain ⟨q2, e3, h⟩ := h
  refine wrVi (ws1 := [(a_m, .inr (8, [.ref a_ms, .ref a_mw, .ref a_mv, .ref a_mp, .ref a_mf, .int m_chg, .int q2.2, .int m_rea, .int m_det, .int m_ref, .int m_err, .int m_ans, .int m_sav, .int m_net, .ref a_ml, .int m_lin, .ref a_mt, .ref a_mc, .int m_tap, .int m_her, .int m_cmd])), (a_ms, .inl (T 0, 103, .inl v_ms))]) C hE hP hD hS hA (kX8_isThrown l D T a_m a_ms a_mw a_mv a_mp a_mf a_ml a_mt a_mc m_chg m_thr m_rea m_det m_ref m_err m_ans m_sav m_net m_lin m_tap m_her m_cmd x1 1 _ q2 e3) mX8_isThrown qLX8_80 [0] [1] 0 rfl rfl rfl rfl rfl rfl rfl rfl rfl ⟨rfl, rfl⟩ ⟨Nat.le_of_ble_eq_true rfl, Nat.le_of_ble_eq_true rfl⟩ rfl hl.1 rfl (Nat.le_of_ble_eq_true rfl) dX8_isDry_14 ⟨Nat.le_of_ble_eq_true rfl, Nat.le_of_ble_eq_true rfl⟩ ?_; clear hP hD hS; intro H locs hP hD hS
  refine lv_if_ne (tgt := 32) hx hb dX8_isDry_17 (by decide) (fun c4 => ?_) (fun c4 => ?_)
  · replace h := ite_f c4 h
    refine lv_iconst (v := 0) hx hb dX8_isDry_32 (by decide) ?_
    replace h := Option.some.inj h
    exact hret _ _ _ _ _ _ dX8_isDry_33 rfl (by rw [← h] <;> rfl) (by rw [← h]; exact hP) hS
  · replace h := ite_t c4 h
    refine lv_aload_n hx hb dX8_isDry_20 rfl (lv_at hl 0 rfl) ?_
    refine lv_iload_n hx hb dX8_isDry_21 rfl (lv_at hl 1 rfl) ?_
    replace h := bnd h; obtain ⟨q5, e6, h⟩ := h
    refine rdV C hE hP (kX8_isDryNow l D T a_m a_ms a_mw a_mv a_mp a_mf a_ml a_mt a_mc m_chg q2.2 m_rea m_det m_ref m_err m_ans m_sav m_net m_lin m_tap m_her m_cmd v_ms l1 q5 e6) mX8_isDryNow qLX8_84 [0, 1] 0 rfl rfl rfl rfl ⟨rfl, rfl⟩ ⟨Nat.le_of_ble_eq_true rfl, Nat.le_of_ble_eq_true rfl⟩ rfl hl.1 rfl (Nat.le_of_ble_eq_true rfl) dX8_isDry_22 ⟨Nat.le_of_ble_eq_true rfl, Nat.le_of_ble_eq_true rfl⟩ ?_
    refine lv_if_eq (tgt := 32) hx hb dX8_isDry_25 (by decide) (fun c7 => ?_) (fun c7 => ?_)
    · replace h := ite_t c7 h
      refine lv_iconst (v := 0) hx hb dX8_isDry_32 (by decide) ?_
      replace h := Option.some.inj h
      exact hret _ _ _ _ _ _ dX8_isDry_33 rfl (by rw [← h] <;> rfl) (by rw [← h]; exact hP) hS
    · replace h := ite_f c7 h
      refine lv_iconst (v := 1) hx hb dX8_isDry_28 (by decide) ?_
      refine lv_goto (tgt := 33) hx hb dX8_isDry_29 (by decide) ?_
      replace h := Option.some.inj h
      exact hret _ _ _ _ _ _ dX8_isDry_33 rfl (by rw [← h] <;> rfl) (by rw [← h]; exact hP) hS
set_option maxHeartbeats 4000000 in
set_option maxRecDepth 100000 in
theorem kX8_isDry (l : Launch) (D : va_G) (T : Nat → ClassId) (a_m a_ms a_mw a_mv a_mp a_mf a_ml a_mt a_mc : Nat) (m_chg : Int32) (m_thr : Int32) (m_rea : Int32) (m_det : Int32) (m_ref : Int32) (m_err : Int32) (m_ans : Int32) (m_sav : Int32) (m_net : Int32) (m_lin : Int32) (m_tap : Int32) (m_her : Int32) (m_cmd : Int32) (v_ms : Nat → Int32) (p0 : Int32) (sz : Nat) (r : Int32 × Int32) (h : fX8_isDry m_thr v_ms p0 = some r) : WrI l yX8_isDry cX8_isDry 2 .boolean ({ frames := 4, cells := 0, slots := 0, locals := 84 } : Room) D T sz [(a_m, .inr (8, [.ref a_ms, .ref a_mw, .ref a_mv, .ref a_mp, .ref a_mf, .int m_chg, .int m_thr, .int m_rea, .int m_det, .int m_ref, .int m_err, .int m_ans, .int m_sav, .int m_net, .ref a_ml, .int m_lin, .ref a_mt, .ref a_mc, .int m_tap, .int m_her, .int m_cmd])), (a_ms, .inl (T 0, 103, .inl v_ms))] [(a_m, .inr (8, [.ref a_ms, .ref a_mw, .ref a_mv, .ref a_mp, .ref a_mf, .int m_chg, .int r.2, .int m_rea, .int m_det, .int m_ref, .int m_err, .int m_ans, .int m_sav, .int m_net, .ref a_ml, .int m_lin, .ref a_mt, .ref a_mc, .int m_tap, .int m_her, .int m_cmd])), (a_ms, .inl (T 0, 103, .inl v_ms))] [.ref a_m, .int p0] r.1 := by
  unfold fX8_isDry at h
  refine wrMet (by decide +kernel) rfl (fun p e s m args below meth c Q A C hE hA hP hD hS hret ls hl => ?_)
  have hx := C.1
  have hb := C.2.1
  have hl : lv_has ls 2 [(0, .ref a_m), (1, .int p0)] := hl
  refine lv_aload_n hx hb dX8_isDry_0 rfl (lv_at hl 0 rfl) ?_
  refine lv_iload_n hx hb dX8_isDry_1 rfl (lv_at hl 1 rfl) ?_
  refine rdS C hE hP (kX8_isCell l D T p0) mX8_isCell qLX8_76 [] rfl ⟨rfl, rfl⟩ ⟨Nat.le_of_ble_eq_true rfl, Nat.le_of_ble_eq_true rfl⟩ rfl hl.1 rfl (Nat.le_of_ble_eq_true rfl) dX8_isDry_2 ⟨Nat.le_of_ble_eq_true rfl, Nat.le_of_ble_eq_true rfl⟩ ?_
  refine lv_if_ne (tgt := 12) hx hb dX8_isDry_5 (by decide) (fun c1 => ?_) (fun c1 => ?_)
  · rw [if_neg c1] at h
    refine lv_iconst (v := 0) hx hb dX8_isDry_12 (by decide) ?_
    exact lX8_isDry_13 C hE hA hret 0 p0 m_thr ⟨hP, hD⟩ hS _ (lv_sub hl [0, 1] rfl) h
  · rw [if_pos c1] at h
    refine lv_iconst (v := 1) hx hb dX8_isDry_8 (by decide) ?_
    refine lv_goto (tgt := 13) hx hb dX8_isDry_9 (by decide) ?_
    exact lX8_isDry_13 C hE hA hret 1 p0 m_thr ⟨hP, hD⟩ hS _ (lv_sub hl [0, 1] rfl) h

def fX8_tide_17 (x1 : Int32) (l1 : Int32) (m_thr : Int32) : Option (Int32 × Int32) :=
  (fX8_isThrown m_thr x1 1).bind fun q2 =>
  if q2.1 = 0 then
    some ((fX8_tideAt l1), q2.2)
  else
    some (0, q2.2)
def fX8_tide (m_thr : Int32) (p0 : Int32) : Option (Int32 × Int32) :=
  fX8_tide_17 (if (fX8_isIn p0 0 999) = 0 then 1 else 0) p0 m_thr
set_option maxHeartbeats 4000000 in
set_option maxRecDepth 100000 in
theorem lX8_tide_17 {p : Program} {l : Launch} {e : Env} {s : State} {m : MethodId} {args : Array Value} {below : List Frame} {meth : Method} {c : Code} {Q : State → Prop} {D : va_G} {T : Nat → ClassId} {a_m a_ms a_mw a_mv a_mp a_mf a_ml a_mt a_mc : Nat} {m_chg : Int32} {m_rea : Int32} {m_det : Int32} {m_ref : Int32} {m_err : Int32} {m_ans : Int32} {m_sav : Int32} {m_net : Int32} {m_lin : Int32} {m_tap : Int32} {m_her : Int32} {m_cmd : Int32} {A : Nat → Prop} {r : Int32 × Int32} (C : CallFix p m c cX8_tide 2 s args aw RX8) (hE : eK D T s) (hA : ∀ q : Nat, s.heap.size ≤ q → A q) (hret : WrRet p l e ({ frames := 2, cells := 0, slots := 0, locals := 41 } : Room) s m args below meth c Q cX8_tide .int D A [(a_m, .inr (8, [.ref a_ms, .ref a_mw, .ref a_mv, .ref a_mp, .ref a_mf, .int m_chg, .int r.2, .int m_rea, .int m_det, .int m_ref, .int m_err, .int m_ans, .int m_sav, .int m_net, .ref a_ml, .int m_lin, .ref a_mt, .ref a_mc, .int m_tap, .int m_her, .int m_cmd]))] r.1) (x1 : Int32) (l1 : Int32) (m_thr : Int32) {H : Heap} {locs : List Loc} (hPD : va_PD D A [(a_m, .inr (8, [.ref a_ms, .ref a_mw, .ref a_mv, .ref a_mp, .ref a_mf, .int m_chg, .int m_thr, .int m_rea, .int m_det, .int m_ref, .int m_err, .int m_ans, .int m_sav, .int m_net, .ref a_ml, .int m_lin, .ref a_mt, .ref a_mc, .int m_tap, .int m_her, .int m_cmd]))] H) (hS : va_S A s.heap H locs) (ls : Array Slot) (hl : lv_has ls 2 [(1, .int l1)]) (h : fX8_tide_17 x1 l1 m_thr = some r) : W p l e ({ frames := 2, cells := 0, slots := 0, locals := 41 } : Room) s m args below meth c H locs 0 0 Q (F0 m 17 ls [.int x1, .ref a_m]) := by
  have hx := C.1
  have hb := C.2.1
  obtain ⟨hP, hD⟩ := hPD
  unfold fX8_tide_17 at h
  refine lv_iconst (v := 1) hx hb dX8_tide_17 (by decide) ?_
  replace h := bnd h; obtain ⟨q2, e3, h⟩ := h
  refine wrVi (ws1 := [(a_m, .inr (8, [.ref a_ms, .ref a_mw, .ref a_mv, .ref a_mp, .ref a_mf, .int m_chg, .int q2.2, .int m_rea, .int m_det, .int m_ref, .int m_err, .int m_ans, .int m_sav, .int m_net, .ref a_ml, .int m_lin, .ref a_mt, .ref a_mc, .int m_tap, .int m_her, .int m_cmd]))]) C hE hP hD hS hA (kX8_isThrown l D T a_m a_ms a_mw a_mv a_mp a_mf a_ml a_mt a_mc m_chg m_thr m_rea m_det m_ref m_err m_ans m_sav m_net m_lin m_tap m_her m_cmd x1 1 _ q2 e3) mX8_isThrown qLX8_80 [0] [] 0 rfl rfl rfl rfl rfl rfl rfl rfl rfl ⟨rfl, rfl⟩ ⟨Nat.le_of_ble_eq_true rfl, Nat.le_of_ble_eq_true rfl⟩ rfl hl.1 rfl (Nat.le_of_ble_eq_true rfl) dX8_tide_18 ⟨Nat.le_of_ble_eq_true rfl, Nat.le_of_ble_eq_true rfl⟩ ?_; clear hP hD hS; intro H locs hP hD hS
  refine lv_if_eq (tgt := 28) hx hb dX8_tide_21 (by decide) (fun c4 => ?_) (fun c4 => ?_)
  · replace h := ite_t c4 h
    refine lv_iload_n hx hb dX8_tide_28 rfl (lv_at hl 0 rfl) ?_
    refine rdS C hE hP (kX8_tideAt l D T l1) mX8_tideAt qLX8_68 [] rfl ⟨rfl, rfl⟩ ⟨Nat.le_of_ble_eq_true rfl, Nat.le_of_ble_eq_true rfl⟩ rfl hl.1 rfl (Nat.le_of_ble_eq_true rfl) dX8_tide_29 ⟨Nat.le_of_ble_eq_true rfl, Nat.le_of_ble_eq_true rfl⟩ ?_
    replace h := Option.some.inj h
    exact hret _ _ _ _ _ _ dX8_tide_32 rfl (by rw [← h] <;> rfl) (by rw [← h]; exact hP) hS
  · replace h := ite_f c4 h
    refine lv_iconst (v := 0) hx hb dX8_tide_24 (by decide) ?_
    refine lv_goto (tgt := 32) hx hb dX8_tide_25 (by decide) ?_
    replace h := Option.some.inj h
    exact hret _ _ _ _ _ _ dX8_tide_32 rfl (by rw [← h] <;> rfl) (by rw [← h]; exact hP) hS
set_option maxHeartbeats 4000000 in
set_option maxRecDepth 100000 in
theorem kX8_tide (l : Launch) (D : va_G) (T : Nat → ClassId) (a_m a_ms a_mw a_mv a_mp a_mf a_ml a_mt a_mc : Nat) (m_chg : Int32) (m_thr : Int32) (m_rea : Int32) (m_det : Int32) (m_ref : Int32) (m_err : Int32) (m_ans : Int32) (m_sav : Int32) (m_net : Int32) (m_lin : Int32) (m_tap : Int32) (m_her : Int32) (m_cmd : Int32) (p0 : Int32) (sz : Nat) (r : Int32 × Int32) (h : fX8_tide m_thr p0 = some r) : WrI l yX8_tide cX8_tide 2 .int ({ frames := 2, cells := 0, slots := 0, locals := 41 } : Room) D T sz [(a_m, .inr (8, [.ref a_ms, .ref a_mw, .ref a_mv, .ref a_mp, .ref a_mf, .int m_chg, .int m_thr, .int m_rea, .int m_det, .int m_ref, .int m_err, .int m_ans, .int m_sav, .int m_net, .ref a_ml, .int m_lin, .ref a_mt, .ref a_mc, .int m_tap, .int m_her, .int m_cmd]))] [(a_m, .inr (8, [.ref a_ms, .ref a_mw, .ref a_mv, .ref a_mp, .ref a_mf, .int m_chg, .int r.2, .int m_rea, .int m_det, .int m_ref, .int m_err, .int m_ans, .int m_sav, .int m_net, .ref a_ml, .int m_lin, .ref a_mt, .ref a_mc, .int m_tap, .int m_her, .int m_cmd]))] [.ref a_m, .int p0] r.1 := by
  unfold fX8_tide at h
  refine wrMet (by decide +kernel) rfl (fun p e s m args below meth c Q A C hE hA hP hD hS hret ls hl => ?_)
  have hx := C.1
  have hb := C.2.1
  have hl : lv_has ls 2 [(0, .ref a_m), (1, .int p0)] := hl
  refine lv_aload_n hx hb dX8_tide_0 rfl (lv_at hl 0 rfl) ?_
  refine lv_iload_n hx hb dX8_tide_1 rfl (lv_at hl 1 rfl) ?_
  refine lv_iconst (v := 0) hx hb dX8_tide_2 (by decide) ?_
  refine lv_sipush (v := 999) hx hb dX8_tide_3 (by decide) ?_
  refine rdS C hE hP (kX8_isIn l D T p0 0 999) mX8_isIn qLX8_60 [] rfl ⟨rfl, rfl⟩ ⟨Nat.le_of_ble_eq_true rfl, Nat.le_of_ble_eq_true rfl⟩ rfl hl.1 rfl (Nat.le_of_ble_eq_true rfl) dX8_tide_6 ⟨Nat.le_of_ble_eq_true rfl, Nat.le_of_ble_eq_true rfl⟩ ?_
  refine lv_if_ne (tgt := 16) hx hb dX8_tide_9 (by decide) (fun c1 => ?_) (fun c1 => ?_)
  · rw [if_neg c1] at h
    refine lv_iconst (v := 0) hx hb dX8_tide_16 (by decide) ?_
    exact lX8_tide_17 C hE hA hret 0 p0 m_thr ⟨hP, hD⟩ hS _ (lv_sub hl [1] rfl) h
  · rw [if_pos c1] at h
    refine lv_iconst (v := 1) hx hb dX8_tide_12 (by decide) ?_
    refine lv_goto (tgt := 17) hx hb dX8_tide_13 (by decide) ?_
    exact lX8_tide_17 C hE hA hret 1 p0 m_thr ⟨hP, hD⟩ hS _ (lv_sub hl [1] rfl) h

def fX8_tideAgain (m_thr : Int32) (p0 : Int32) : Option (Int32 × Int32) :=
  (fX8_tide m_thr p0).bind fun q1 =>
  some (q1.1, q1.2)
set_option maxHeartbeats 4000000 in
set_option maxRecDepth 100000 in
theorem kX8_tideAgain (l : Launch) (D : va_G) (T : Nat → ClassId) (a_m a_ms a_mw a_mv a_mp a_mf a_ml a_mt a_mc : Nat) (m_chg : Int32) (m_thr : Int32) (m_rea : Int32) (m_det : Int32) (m_ref : Int32) (m_err : Int32) (m_ans : Int32) (m_sav : Int32) (m_net : Int32) (m_lin : Int32) (m_tap : Int32) (m_her : Int32) (m_cmd : Int32) (p0 : Int32) (sz : Nat) (r : Int32 × Int32) (h : fX8_tideAgain m_thr p0 = some r) : WrI l yX8_tideAgain cX8_tideAgain 2 .int ({ frames := 3, cells := 0, slots := 0, locals := 62 } : Room) D T sz [(a_m, .inr (8, [.ref a_ms, .ref a_mw, .ref a_mv, .ref a_mp, .ref a_mf, .int m_chg, .int m_thr, .int m_rea, .int m_det, .int m_ref, .int m_err, .int m_ans, .int m_sav, .int m_net, .ref a_ml, .int m_lin, .ref a_mt, .ref a_mc, .int m_tap, .int m_her, .int m_cmd]))] [(a_m, .inr (8, [.ref a_ms, .ref a_mw, .ref a_mv, .ref a_mp, .ref a_mf, .int m_chg, .int r.2, .int m_rea, .int m_det, .int m_ref, .int m_err, .int m_ans, .int m_sav, .int m_net, .ref a_ml, .int m_lin, .ref a_mt, .ref a_mc, .int m_tap, .int m_her, .int m_cmd]))] [.ref a_m, .int p0] r.1 := by
  unfold fX8_tideAgain at h
  refine wrMet (by decide +kernel) rfl (fun p e s m args below meth c Q A C hE hA hP hD hS hret ls hl => ?_)
  have hx := C.1
  have hb := C.2.1
  have hl : lv_has ls 2 [(0, .ref a_m), (1, .int p0)] := hl
  refine lv_aload_n hx hb dX8_tideAgain_0 rfl (lv_at hl 0 rfl) ?_
  refine lv_iload_n hx hb dX8_tideAgain_1 rfl (lv_at hl 1 rfl) ?_
  replace h := bnd h; obtain ⟨q1, e2, h⟩ := h
  refine wrVi (ws1 := [(a_m, .inr (8, [.ref a_ms, .ref a_mw, .ref a_mv, .ref a_mp, .ref a_mf, .int m_chg, .int q1.2, .int m_rea, .int m_det, .int m_ref, .int m_err, .int m_ans, .int m_sav, .int m_net, .ref a_ml, .int m_lin, .ref a_mt, .ref a_mc, .int m_tap, .int m_her, .int m_cmd]))]) C hE hP hD hS hA (kX8_tide l D T a_m a_ms a_mw a_mv a_mp a_mf a_ml a_mt a_mc m_chg m_thr m_rea m_det m_ref m_err m_ans m_sav m_net m_lin m_tap m_her m_cmd p0 _ q1 e2) mX8_tide qLX8_87 [0] [] 0 rfl rfl rfl rfl rfl rfl rfl rfl rfl ⟨rfl, rfl⟩ ⟨Nat.le_of_ble_eq_true rfl, Nat.le_of_ble_eq_true rfl⟩ rfl hl.1 rfl (Nat.le_of_ble_eq_true rfl) dX8_tideAgain_2 ⟨Nat.le_of_ble_eq_true rfl, Nat.le_of_ble_eq_true rfl⟩ ?_; clear hP hD hS; intro H locs hP hD hS
  replace h := Option.some.inj h
  exact hret _ _ _ _ _ _ dX8_tideAgain_5 rfl (by rw [← h] <;> rfl) (by rw [← h]; exact hP) hS

def fX8_turnsIn_40 (v_ms : Nat → Int32) : Nat → Int32 → Int32 → Int32 → Option (Int32 × Int32)
  | 0, _, _, _ => none
  | k + 1, l1, l2, m_thr =>
    if vin 1 103 = true then
    (fX8_isDryNow v_ms l1).bind fun q9 =>
    if (fX8_isDryAt l1 ((v_ms (1 : Int32).toNatClampNeg) + l2)) = q9 then
      fX8_turnsIn_40 v_ms k l1 (l2 + 1) m_thr
    else
      some (l2, m_thr)
    else none
def fX8_turnsIn_13 (v_ms : Nat → Int32) (x1 : Int32) (l1 : Int32) (m_thr : Int32) : Option (Int32 × Int32) :=
  (fX8_isThrown m_thr x1 1).bind fun q2 =>
  if q2.1 = 0 then
    (fX8_isThrown q2.2 (fX8_isIn l1 9 35) 2).bind fun q5 =>
    if q5.1 = 0 then
      fX8_turnsIn_40 v_ms 64 l1 0 q5.2
    else
      some (0, q5.2)
  else
    some (0, q2.2)
def fX8_turnsIn (m_thr : Int32) (v_ms : Nat → Int32) (p0 : Int32) : Option (Int32 × Int32) :=
  fX8_turnsIn_13 v_ms (if (fX8_isCell p0) = 0 then 1 else 0) p0 m_thr
set_option maxHeartbeats 4000000 in
set_option maxRecDepth 100000 in
theorem lX8_turnsIn_40 {p : Program} {l : Launch} {e : Env} {s : State} {m : MethodId} {args : Array Value} {below : List Frame} {meth : Method} {c : Code} {Q : State → Prop} {D : va_G} {T : Nat → ClassId} {a_m a_ms a_mw a_mv a_mp a_mf a_ml a_mt a_mc : Nat} {m_chg : Int32} {m_rea : Int32} {m_det : Int32} {m_ref : Int32} {m_err : Int32} {m_ans : Int32} {m_sav : Int32} {m_net : Int32} {m_lin : Int32} {m_tap : Int32} {m_her : Int32} {m_cmd : Int32} {v_ms : Nat → Int32} {A : Nat → Prop} {r : Int32 × Int32} (C : CallFix p m c cX8_turnsIn 3 s args aw RX8) (hE : eK D T s) (hA : ∀ q : Nat, s.heap.size ≤ q → A q) (hret : WrRet p l e ({ frames := 4, cells := 0, slots := 0, locals := 84 } : Room) s m args below meth c Q cX8_turnsIn .int D A [(a_m, .inr (8, [.ref a_ms, .ref a_mw, .ref a_mv, .ref a_mp, .ref a_mf, .int m_chg, .int r.2, .int m_rea, .int m_det, .int m_ref, .int m_err, .int m_ans, .int m_sav, .int m_net, .ref a_ml, .int m_lin, .ref a_mt, .ref a_mc, .int m_tap, .int m_her, .int m_cmd])), (a_ms, .inl (T 0, 103, .inl v_ms))] r.1) : ∀ (k : Nat) (l1 : Int32) (l2 : Int32) (m_thr : Int32) {H : Heap} {locs : List Loc} (hPD : va_PD D A [(a_m, .inr (8, [.ref a_ms, .ref a_mw, .ref a_mv, .ref a_mp, .ref a_mf, .int m_chg, .int m_thr, .int m_rea, .int m_det, .int m_ref, .int m_err, .int m_ans, .int m_sav, .int m_net, .ref a_ml, .int m_lin, .ref a_mt, .ref a_mc, .int m_tap, .int m_her, .int m_cmd])), (a_ms, .inl (T 0, 103, .inl v_ms))] H) (hS : va_S A s.heap H locs) (ls : Array Slot) (hl : lv_has ls 3 [(0, .ref a_m), (1, .int l1), (2, .int l2)]) (h : fX8_turnsIn_40 v_ms k l1 l2 m_thr = some r), W p l e ({ frames := 4, cells := 0, slots := 0, locals := 84 } : Room) s m args below meth c H locs 0 0 Q (F0 m 40 ls []) := by
  have hx := C.1
  have hb := C.2.1
  intro k
  induction k with
  | zero =>
    intro l1 l2 m_thr H locs hPD hS ls hl h
    exact nomatch (show (none : Option (Int32 × Int32)) = some r from h)
  | succ k ih =>
    intro l1 l2 m_thr H locs hPD hS ls hl h
    obtain ⟨hP, hD⟩ := hPD
    rw [fX8_turnsIn_40] at h
    refine lv_aload_n hx hb dX8_turnsIn_40 rfl (lv_at hl 0 rfl) ?_
    refine lv_iload_n hx hb dX8_turnsIn_41 rfl (lv_at hl 1 rfl) ?_
    refine lv_aload_n hx hb dX8_turnsIn_42 rfl (lv_at hl 0 rfl) ?_
    refine getF (q0 := 0) (k0 := 0) (v := .ref a_ms) C hE hP inA8 rfl rfl (by decide) qFX8_9 rfl rfl dX8_turnsIn_43 ?_
    refine lv_iconst (v := 1) hx hb dX8_turnsIn_46 (by decide) ?_
    replace h := gd h; obtain ⟨g8, h⟩ := h
    refine aldI (q0 := 1) C hE hP rfl g8 dX8_turnsIn_47 ?_
    refine lv_iload_n hx hb dX8_turnsIn_48 rfl (lv_at hl 2 rfl) ?_
    refine lv_iadd hx hb dX8_turnsIn_49 ?_
    refine rdV C hE hP (kX8_isDryAt l D T a_m l1 ((v_ms (1 : Int32).toNatClampNeg) + l2)) mX8_isDryAt qLX8_72 [] 0 rfl rfl rfl rfl ⟨rfl, rfl⟩ ⟨Nat.le_of_ble_eq_true rfl, Nat.le_of_ble_eq_true rfl⟩ rfl hl.1 rfl (Nat.le_of_ble_eq_true rfl) dX8_turnsIn_50 ⟨Nat.le_of_ble_eq_true rfl, Nat.le_of_ble_eq_true rfl⟩ ?_
    refine lv_aload_n hx hb dX8_turnsIn_53 rfl (lv_at hl 0 rfl) ?_
    refine lv_iload_n hx hb dX8_turnsIn_54 rfl (lv_at hl 1 rfl) ?_
    replace h := bnd h; obtain ⟨q9, e10, h⟩ := h
    refine rdV C hE hP (kX8_isDryNow l D T a_m a_ms a_mw a_mv a_mp a_mf a_ml a_mt a_mc m_chg m_thr m_rea m_det m_ref m_err m_ans m_sav m_net m_lin m_tap m_her m_cmd v_ms l1 q9 e10) mX8_isDryNow qLX8_84 [0, 1] 0 rfl rfl rfl rfl ⟨rfl, rfl⟩ ⟨Nat.le_of_ble_eq_true rfl, Nat.le_of_ble_eq_true rfl⟩ rfl hl.1 rfl (Nat.le_of_ble_eq_true rfl) dX8_turnsIn_55 ⟨Nat.le_of_ble_eq_true rfl, Nat.le_of_ble_eq_true rfl⟩ ?_
    refine lv_icmp_ne (tgt := 67) hx hb dX8_turnsIn_58 (by decide) (fun c11 => ?_) (fun c11 => ?_)
    · replace h := ite_f c11 h
      refine lv_iload_n hx hb dX8_turnsIn_67 rfl (lv_at hl 2 rfl) ?_
      replace h := Option.some.inj h
      exact hret _ _ _ _ _ _ dX8_turnsIn_68 rfl (by rw [← h] <;> rfl) (by rw [← h]; exact hP) hS
    · replace h := ite_t c11 h
      refine lv_iinc (v := (l2 + 1)) (lv' := [(2, .int (l2 + 1)), (0, .ref a_m), (1, .int l1)]) hx hb dX8_turnsIn_61 hl (k := 2) rfl rfl (by decide) rfl (fun ls hl => ?_)
      refine lv_goto (tgt := 40) hx hb dX8_turnsIn_64 (by decide) ?_
      exact ih l1 (l2 + 1) m_thr ⟨hP, hD⟩ hS _ (lv_sub hl [1, 2, 0] rfl) h
set_option maxHeartbeats 4000000 in
set_option maxRecDepth 100000 in
theorem lX8_turnsIn_13 {p : Program} {l : Launch} {e : Env} {s : State} {m : MethodId} {args : Array Value} {below : List Frame} {meth : Method} {c : Code} {Q : State → Prop} {D : va_G} {T : Nat → ClassId} {a_m a_ms a_mw a_mv a_mp a_mf a_ml a_mt a_mc : Nat} {m_chg : Int32} {m_rea : Int32} {m_det : Int32} {m_ref : Int32} {m_err : Int32} {m_ans : Int32} {m_sav : Int32} {m_net : Int32} {m_lin : Int32} {m_tap : Int32} {m_her : Int32} {m_cmd : Int32} {v_ms : Nat → Int32} {A : Nat → Prop} {r : Int32 × Int32} (C : CallFix p m c cX8_turnsIn 3 s args aw RX8) (hE : eK D T s) (hA : ∀ q : Nat, s.heap.size ≤ q → A q) (hret : WrRet p l e ({ frames := 4, cells := 0, slots := 0, locals := 84 } : Room) s m args below meth c Q cX8_turnsIn .int D A [(a_m, .inr (8, [.ref a_ms, .ref a_mw, .ref a_mv, .ref a_mp, .ref a_mf, .int m_chg, .int r.2, .int m_rea, .int m_det, .int m_ref, .int m_err, .int m_ans, .int m_sav, .int m_net, .ref a_ml, .int m_lin, .ref a_mt, .ref a_mc, .int m_tap, .int m_her, .int m_cmd])), (a_ms, .inl (T 0, 103, .inl v_ms))] r.1) (x1 : Int32) (l1 : Int32) (m_thr : Int32) {H : Heap} {locs : List Loc} (hPD : va_PD D A [(a_m, .inr (8, [.ref a_ms, .ref a_mw, .ref a_mv, .ref a_mp, .ref a_mf, .int m_chg, .int m_thr, .int m_rea, .int m_det, .int m_ref, .int m_err, .int m_ans, .int m_sav, .int m_net, .ref a_ml, .int m_lin, .ref a_mt, .ref a_mc, .int m_tap, .int m_her, .int m_cmd])), (a_ms, .inl (T 0, 103, .inl v_ms))] H) (hS : va_S A s.heap H locs) (ls : Array Slot) (hl : lv_has ls 3 [(0, .ref a_m), (1, .int l1)]) (h : fX8_turnsIn_13 v_ms x1 l1 m_thr = some r) : W p l e ({ frames := 4, cells := 0, slots := 0, locals := 84 } : Room) s m args below meth c H locs 0 0 Q (F0 m 13 ls [.int x1, .ref a_m]) := by
  have hx := C.1
  have hb := C.2.1
  obtain ⟨hP, hD⟩ := hPD
  unfold fX8_turnsIn_13 at h
  refine lv_iconst (v := 1) hx hb dX8_turnsIn_13 (by decide) ?_
  replace h := bnd h; obtain ⟨q2, e3, h⟩ := h
  refine wrVi (ws1 := [(a_m, .inr (8, [.ref a_ms, .ref a_mw, .ref a_mv, .ref a_mp, .ref a_mf, .int m_chg, .int q2.2, .int m_rea, .int m_det, .int m_ref, .int m_err, .int m_ans, .int m_sav, .int m_net, .ref a_ml, .int m_lin, .ref a_mt, .ref a_mc, .int m_tap, .int m_her, .int m_cmd])), (a_ms, .inl (T 0, 103, .inl v_ms))]) C hE hP hD hS hA (kX8_isThrown l D T a_m a_ms a_mw a_mv a_mp a_mf a_ml a_mt a_mc m_chg m_thr m_rea m_det m_ref m_err m_ans m_sav m_net m_lin m_tap m_her m_cmd x1 1 _ q2 e3) mX8_isThrown qLX8_80 [0] [1] 0 rfl rfl rfl rfl rfl rfl rfl rfl rfl ⟨rfl, rfl⟩ ⟨Nat.le_of_ble_eq_true rfl, Nat.le_of_ble_eq_true rfl⟩ rfl hl.1 rfl (Nat.le_of_ble_eq_true rfl) dX8_turnsIn_14 ⟨Nat.le_of_ble_eq_true rfl, Nat.le_of_ble_eq_true rfl⟩ ?_; clear hP hD hS; intro H locs hP hD hS
  refine lv_if_ne (tgt := 36) hx hb dX8_turnsIn_17 (by decide) (fun c4 => ?_) (fun c4 => ?_)
  · replace h := ite_f c4 h
    refine lv_iconst (v := 0) hx hb dX8_turnsIn_36 (by decide) ?_
    replace h := Option.some.inj h
    exact hret _ _ _ _ _ _ dX8_turnsIn_37 rfl (by rw [← h] <;> rfl) (by rw [← h]; exact hP) hS
  · replace h := ite_t c4 h
    refine lv_aload_n hx hb dX8_turnsIn_20 rfl (lv_at hl 0 rfl) ?_
    refine lv_iload_n hx hb dX8_turnsIn_21 rfl (lv_at hl 1 rfl) ?_
    refine lv_bipush (v := 9) hx hb dX8_turnsIn_22 (by decide) ?_
    refine lv_bipush (v := 35) hx hb dX8_turnsIn_24 (by decide) ?_
    refine rdS C hE hP (kX8_isIn l D T l1 9 35) mX8_isIn qLX8_60 [] rfl ⟨rfl, rfl⟩ ⟨Nat.le_of_ble_eq_true rfl, Nat.le_of_ble_eq_true rfl⟩ rfl hl.1 rfl (Nat.le_of_ble_eq_true rfl) dX8_turnsIn_26 ⟨Nat.le_of_ble_eq_true rfl, Nat.le_of_ble_eq_true rfl⟩ ?_
    refine lv_iconst (v := 2) hx hb dX8_turnsIn_29 (by decide) ?_
    replace h := bnd h; obtain ⟨q5, e6, h⟩ := h
    refine wrVi (ws1 := [(a_m, .inr (8, [.ref a_ms, .ref a_mw, .ref a_mv, .ref a_mp, .ref a_mf, .int m_chg, .int q5.2, .int m_rea, .int m_det, .int m_ref, .int m_err, .int m_ans, .int m_sav, .int m_net, .ref a_ml, .int m_lin, .ref a_mt, .ref a_mc, .int m_tap, .int m_her, .int m_cmd])), (a_ms, .inl (T 0, 103, .inl v_ms))]) C hE hP hD hS hA (kX8_isThrown l D T a_m a_ms a_mw a_mv a_mp a_mf a_ml a_mt a_mc m_chg q2.2 m_rea m_det m_ref m_err m_ans m_sav m_net m_lin m_tap m_her m_cmd (fX8_isIn l1 9 35) 2 _ q5 e6) mX8_isThrown qLX8_80 [0] [1] 0 rfl rfl rfl rfl rfl rfl rfl rfl rfl ⟨rfl, rfl⟩ ⟨Nat.le_of_ble_eq_true rfl, Nat.le_of_ble_eq_true rfl⟩ rfl hl.1 rfl (Nat.le_of_ble_eq_true rfl) dX8_turnsIn_30 ⟨Nat.le_of_ble_eq_true rfl, Nat.le_of_ble_eq_true rfl⟩ ?_; clear hP hD hS; intro H locs hP hD hS
    refine lv_if_eq (tgt := 38) hx hb dX8_turnsIn_33 (by decide) (fun c7 => ?_) (fun c7 => ?_)
    · replace h := ite_t c7 h
      refine lv_iconst (v := 0) hx hb dX8_turnsIn_38 (by decide) ?_
      refine lv_istore_n (lv' := [(2, .int 0), (0, .ref a_m), (1, .int l1)]) hx hb dX8_turnsIn_39 rfl hl (by decide) rfl (fun ls hl => ?_)
      exact lX8_turnsIn_40 C hE hA hret 64 l1 0 q5.2 ⟨hP, hD⟩ hS _ (lv_sub hl [1, 2, 0] rfl) h
    · replace h := ite_f c7 h
      refine lv_iconst (v := 0) hx hb dX8_turnsIn_36 (by decide) ?_
      replace h := Option.some.inj h
      exact hret _ _ _ _ _ _ dX8_turnsIn_37 rfl (by rw [← h] <;> rfl) (by rw [← h]; exact hP) hS
set_option maxHeartbeats 4000000 in
set_option maxRecDepth 100000 in
theorem kX8_turnsIn (l : Launch) (D : va_G) (T : Nat → ClassId) (a_m a_ms a_mw a_mv a_mp a_mf a_ml a_mt a_mc : Nat) (m_chg : Int32) (m_thr : Int32) (m_rea : Int32) (m_det : Int32) (m_ref : Int32) (m_err : Int32) (m_ans : Int32) (m_sav : Int32) (m_net : Int32) (m_lin : Int32) (m_tap : Int32) (m_her : Int32) (m_cmd : Int32) (v_ms : Nat → Int32) (p0 : Int32) (sz : Nat) (r : Int32 × Int32) (h : fX8_turnsIn m_thr v_ms p0 = some r) : WrI l yX8_turnsIn cX8_turnsIn 3 .int ({ frames := 4, cells := 0, slots := 0, locals := 84 } : Room) D T sz [(a_m, .inr (8, [.ref a_ms, .ref a_mw, .ref a_mv, .ref a_mp, .ref a_mf, .int m_chg, .int m_thr, .int m_rea, .int m_det, .int m_ref, .int m_err, .int m_ans, .int m_sav, .int m_net, .ref a_ml, .int m_lin, .ref a_mt, .ref a_mc, .int m_tap, .int m_her, .int m_cmd])), (a_ms, .inl (T 0, 103, .inl v_ms))] [(a_m, .inr (8, [.ref a_ms, .ref a_mw, .ref a_mv, .ref a_mp, .ref a_mf, .int m_chg, .int r.2, .int m_rea, .int m_det, .int m_ref, .int m_err, .int m_ans, .int m_sav, .int m_net, .ref a_ml, .int m_lin, .ref a_mt, .ref a_mc, .int m_tap, .int m_her, .int m_cmd])), (a_ms, .inl (T 0, 103, .inl v_ms))] [.ref a_m, .int p0] r.1 := by
  unfold fX8_turnsIn at h
  refine wrMet (by decide +kernel) rfl (fun p e s m args below meth c Q A C hE hA hP hD hS hret ls hl => ?_)
  have hx := C.1
  have hb := C.2.1
  have hl : lv_has ls 3 [(0, .ref a_m), (1, .int p0)] := hl
  refine lv_aload_n hx hb dX8_turnsIn_0 rfl (lv_at hl 0 rfl) ?_
  refine lv_iload_n hx hb dX8_turnsIn_1 rfl (lv_at hl 1 rfl) ?_
  refine rdS C hE hP (kX8_isCell l D T p0) mX8_isCell qLX8_76 [] rfl ⟨rfl, rfl⟩ ⟨Nat.le_of_ble_eq_true rfl, Nat.le_of_ble_eq_true rfl⟩ rfl hl.1 rfl (Nat.le_of_ble_eq_true rfl) dX8_turnsIn_2 ⟨Nat.le_of_ble_eq_true rfl, Nat.le_of_ble_eq_true rfl⟩ ?_
  refine lv_if_ne (tgt := 12) hx hb dX8_turnsIn_5 (by decide) (fun c1 => ?_) (fun c1 => ?_)
  · rw [if_neg c1] at h
    refine lv_iconst (v := 0) hx hb dX8_turnsIn_12 (by decide) ?_
    exact lX8_turnsIn_13 C hE hA hret 0 p0 m_thr ⟨hP, hD⟩ hS _ (lv_sub hl [0, 1] rfl) h
  · rw [if_pos c1] at h
    refine lv_iconst (v := 1) hx hb dX8_turnsIn_8 (by decide) ?_
    refine lv_goto (tgt := 13) hx hb dX8_turnsIn_9 (by decide) ?_
    exact lX8_turnsIn_13 C hE hA hret 1 p0 m_thr ⟨hP, hD⟩ hS _ (lv_sub hl [0, 1] rfl) h

def fX8_whaleAt_2 (v_ms : Nat → Int32) : Nat → Int32 → Int32 → Option Int32
  | 0, _, _ => none
  | k + 1, l1, l2 =>
    if vin 0 103 = true then
    if (v_ms (0 : Int32).toNatClampNeg) ≤ l2 then
      some (-1)
    else
      (fX8_of v_ms l2 4).bind fun q3 =>
      if q3 = l1 then
        some l2
      else
        fX8_whaleAt_2 v_ms k l1 (l2 + 1)
    else none
def fX8_whaleAt (v_ms : Nat → Int32) (p0 : Int32) : Option Int32 :=
  fX8_whaleAt_2 v_ms 64 p0 0
set_option maxHeartbeats 4000000 in
set_option maxRecDepth 100000 in
theorem lX8_whaleAt_2 {p : Program} {l : Launch} {e : Env} {s : State} {m : MethodId} {args : Array Value} {below : List Frame} {meth : Method} {c : Code} {Q : State → Prop} {D : va_G} {T : Nat → ClassId} {a_m a_ms a_mw a_mv a_mp a_mf a_ml a_mt a_mc : Nat} {m_chg : Int32} {m_thr : Int32} {m_rea : Int32} {m_det : Int32} {m_ref : Int32} {m_err : Int32} {m_ans : Int32} {m_sav : Int32} {m_net : Int32} {m_lin : Int32} {m_tap : Int32} {m_her : Int32} {m_cmd : Int32} {v_ms : Nat → Int32} {r : Int32} (C : CallFix p m c cX8_whaleAt 3 s args aw RX8) (hE : eK D T s) (hP : va_P D kC [(a_m, .inr (8, [.ref a_ms, .ref a_mw, .ref a_mv, .ref a_mp, .ref a_mf, .int m_chg, .int m_thr, .int m_rea, .int m_det, .int m_ref, .int m_err, .int m_ans, .int m_sav, .int m_net, .ref a_ml, .int m_lin, .ref a_mt, .ref a_mc, .int m_tap, .int m_her, .int m_cmd])), (a_ms, .inl (T 0, 103, .inl v_ms))] s.heap) (hret : RdRet p l e ({ frames := 1, cells := 0, slots := 0, locals := 22 } : Room) s m args below meth c Q cX8_whaleAt .int r) : ∀ (k : Nat) (l1 : Int32) (l2 : Int32) (ls : Array Slot) (hl : lv_has ls 3 [(0, .ref a_m), (1, .int l1), (2, .int l2)]) (h : fX8_whaleAt_2 v_ms k l1 l2 = some r), W p l e ({ frames := 1, cells := 0, slots := 0, locals := 22 } : Room) s m args below meth c s.heap [] 0 0 Q (F0 m 2 ls []) := by
  have hx := C.1
  have hb := C.2.1
  intro k
  induction k with
  | zero =>
    intro l1 l2  ls hl h
    exact nomatch (show (none : Option Int32) = some r from h)
  | succ k ih =>
    intro l1 l2  ls hl h
    rw [fX8_whaleAt_2] at h
    refine lv_iload_n hx hb dX8_whaleAt_2 rfl (lv_at hl 2 rfl) ?_
    refine lv_aload_n hx hb dX8_whaleAt_3 rfl (lv_at hl 0 rfl) ?_
    refine getF (q0 := 0) (k0 := 0) (v := .ref a_ms) C hE hP inA8 rfl rfl (by decide) qFX8_9 rfl rfl dX8_whaleAt_4 ?_
    refine lv_iconst (v := 0) hx hb dX8_whaleAt_7 (by decide) ?_
    replace h := gd h; obtain ⟨g1, h⟩ := h
    refine aldI (q0 := 1) C hE hP rfl g1 dX8_whaleAt_8 ?_
    refine lv_icmp_ge (tgt := 30) hx hb dX8_whaleAt_9 (by decide) (fun c2 => ?_) (fun c2 => ?_)
    · replace h := ite_t c2 h
      refine lv_iconst (v := (-1)) hx hb dX8_whaleAt_30 (by decide) ?_
      exact hret _ _ _ _ dX8_whaleAt_31 rfl (Option.some.inj h)
    · replace h := ite_f c2 h
      refine lv_aload_n hx hb dX8_whaleAt_12 rfl (lv_at hl 0 rfl) ?_
      refine lv_iload_n hx hb dX8_whaleAt_13 rfl (lv_at hl 2 rfl) ?_
      refine lv_iconst (v := 4) hx hb dX8_whaleAt_14 (by decide) ?_
      replace h := bnd h; obtain ⟨q3, e4, h⟩ := h
      refine rdV C hE hP (kX8_of l D T a_m a_ms a_mw a_mv a_mp a_mf a_ml a_mt a_mc m_chg m_thr m_rea m_det m_ref m_err m_ans m_sav m_net m_lin m_tap m_her m_cmd v_ms l2 4 q3 e4) mX8_of qLX8_90 [0, 1] 0 rfl rfl rfl rfl ⟨rfl, rfl⟩ ⟨Nat.le_of_ble_eq_true rfl, Nat.le_of_ble_eq_true rfl⟩ rfl hl.1 rfl (Nat.le_of_ble_eq_true rfl) dX8_whaleAt_15 ⟨Nat.le_of_ble_eq_true rfl, Nat.le_of_ble_eq_true rfl⟩ ?_
      refine lv_iload_n hx hb dX8_whaleAt_18 rfl (lv_at hl 1 rfl) ?_
      refine lv_icmp_ne (tgt := 24) hx hb dX8_whaleAt_19 (by decide) (fun c5 => ?_) (fun c5 => ?_)
      · replace h := ite_f c5 h
        refine lv_iinc (v := (l2 + 1)) (lv' := [(2, .int (l2 + 1)), (0, .ref a_m), (1, .int l1)]) hx hb dX8_whaleAt_24 hl (k := 2) rfl rfl (by decide) rfl (fun ls hl => ?_)
        refine lv_goto (tgt := 2) hx hb dX8_whaleAt_27 (by decide) ?_
        exact ih l1 (l2 + 1) _ (lv_sub hl [1, 2, 0] rfl) h
      · replace h := ite_t c5 h
        refine lv_iload_n hx hb dX8_whaleAt_22 rfl (lv_at hl 2 rfl) ?_
        exact hret _ _ _ _ dX8_whaleAt_23 rfl (Option.some.inj h)
set_option maxHeartbeats 4000000 in
set_option maxRecDepth 100000 in
theorem kX8_whaleAt (l : Launch) (D : va_G) (T : Nat → ClassId) (a_m a_ms a_mw a_mv a_mp a_mf a_ml a_mt a_mc : Nat) (m_chg : Int32) (m_thr : Int32) (m_rea : Int32) (m_det : Int32) (m_ref : Int32) (m_err : Int32) (m_ans : Int32) (m_sav : Int32) (m_net : Int32) (m_lin : Int32) (m_tap : Int32) (m_her : Int32) (m_cmd : Int32) (v_ms : Nat → Int32) (p0 : Int32) (r : Int32) (h : fX8_whaleAt v_ms p0 = some r) : RdI l yX8_whaleAt cX8_whaleAt 3 .int ({ frames := 1, cells := 0, slots := 0, locals := 22 } : Room) D T [(a_m, .inr (8, [.ref a_ms, .ref a_mw, .ref a_mv, .ref a_mp, .ref a_mf, .int m_chg, .int m_thr, .int m_rea, .int m_det, .int m_ref, .int m_err, .int m_ans, .int m_sav, .int m_net, .ref a_ml, .int m_lin, .ref a_mt, .ref a_mc, .int m_tap, .int m_her, .int m_cmd])), (a_ms, .inl (T 0, 103, .inl v_ms))] [.ref a_m, .int p0] r := by
  unfold fX8_whaleAt at h
  refine rdMet (by decide +kernel) rfl (fun p e s m args below meth c Q C hE hP hret ls hl => ?_)
  have hx := C.1
  have hb := C.2.1
  have hl : lv_has ls 3 [(0, .ref a_m), (1, .int p0)] := hl
  refine lv_iconst (v := 0) hx hb dX8_whaleAt_0 (by decide) ?_
  refine lv_istore_n (lv' := [(2, .int 0), (0, .ref a_m), (1, .int p0)]) hx hb dX8_whaleAt_1 rfl hl (by decide) rfl (fun ls hl => ?_)
  exact lX8_whaleAt_2 C hE hP hret 64 p0 0 _ (lv_sub hl [1, 2, 0] rfl) h

def fX8_at_13 (v_ms : Nat → Int32) (x1 : Int32) (l1 : Int32) (m_thr : Int32) : Option (Int32 × Int32) :=
  (fX8_isThrown m_thr x1 1).bind fun q2 =>
  if q2.1 = 0 then
    (fX8_whaleAt v_ms l1).bind fun q5 =>
    some (q5, q2.2)
  else
    some (0, q2.2)
def fX8_at (m_thr : Int32) (v_ms : Nat → Int32) (p0 : Int32) : Option (Int32 × Int32) :=
  fX8_at_13 v_ms (if (fX8_isCell p0) = 0 then 1 else 0) p0 m_thr
set_option maxHeartbeats 4000000 in
set_option maxRecDepth 100000 in
theorem lX8_at_13 {p : Program} {l : Launch} {e : Env} {s : State} {m : MethodId} {args : Array Value} {below : List Frame} {meth : Method} {c : Code} {Q : State → Prop} {D : va_G} {T : Nat → ClassId} {a_m a_ms a_mw a_mv a_mp a_mf a_ml a_mt a_mc : Nat} {m_chg : Int32} {m_rea : Int32} {m_det : Int32} {m_ref : Int32} {m_err : Int32} {m_ans : Int32} {m_sav : Int32} {m_net : Int32} {m_lin : Int32} {m_tap : Int32} {m_her : Int32} {m_cmd : Int32} {v_ms : Nat → Int32} {A : Nat → Prop} {r : Int32 × Int32} (C : CallFix p m c cX8_at 2 s args aw RX8) (hE : eK D T s) (hA : ∀ q : Nat, s.heap.size ≤ q → A q) (hret : WrRet p l e ({ frames := 2, cells := 0, slots := 0, locals := 44 } : Room) s m args below meth c Q cX8_at .int D A [(a_m, .inr (8, [.ref a_ms, .ref a_mw, .ref a_mv, .ref a_mp, .ref a_mf, .int m_chg, .int r.2, .int m_rea, .int m_det, .int m_ref, .int m_err, .int m_ans, .int m_sav, .int m_net, .ref a_ml, .int m_lin, .ref a_mt, .ref a_mc, .int m_tap, .int m_her, .int m_cmd])), (a_ms, .inl (T 0, 103, .inl v_ms))] r.1) (x1 : Int32) (l1 : Int32) (m_thr : Int32) {H : Heap} {locs : List Loc} (hPD : va_PD D A [(a_m, .inr (8, [.ref a_ms, .ref a_mw, .ref a_mv, .ref a_mp, .ref a_mf, .int m_chg, .int m_thr, .int m_rea, .int m_det, .int m_ref, .int m_err, .int m_ans, .int m_sav, .int m_net, .ref a_ml, .int m_lin, .ref a_mt, .ref a_mc, .int m_tap, .int m_her, .int m_cmd])), (a_ms, .inl (T 0, 103, .inl v_ms))] H) (hS : va_S A s.heap H locs) (ls : Array Slot) (hl : lv_has ls 2 [(0, .ref a_m), (1, .int l1)]) (h : fX8_at_13 v_ms x1 l1 m_thr = some r) : W p l e ({ frames := 2, cells := 0, slots := 0, locals := 44 } : Room) s m args below meth c H locs 0 0 Q (F0 m 13 ls [.int x1, .ref a_m]) := by
  have hx := C.1
  have hb := C.2.1
  obtain ⟨hP, hD⟩ := hPD
  unfold fX8_at_13 at h
  refine lv_iconst (v := 1) hx hb dX8_at_13 (by decide) ?_
  replace h := bnd h; obtain ⟨q2, e3, h⟩ := h
  refine wrVi (ws1 := [(a_m, .inr (8, [.ref a_ms, .ref a_mw, .ref a_mv, .ref a_mp, .ref a_mf, .int m_chg, .int q2.2, .int m_rea, .int m_det, .int m_ref, .int m_err, .int m_ans, .int m_sav, .int m_net, .ref a_ml, .int m_lin, .ref a_mt, .ref a_mc, .int m_tap, .int m_her, .int m_cmd])), (a_ms, .inl (T 0, 103, .inl v_ms))]) C hE hP hD hS hA (kX8_isThrown l D T a_m a_ms a_mw a_mv a_mp a_mf a_ml a_mt a_mc m_chg m_thr m_rea m_det m_ref m_err m_ans m_sav m_net m_lin m_tap m_her m_cmd x1 1 _ q2 e3) mX8_isThrown qLX8_80 [0] [1] 0 rfl rfl rfl rfl rfl rfl rfl rfl rfl ⟨rfl, rfl⟩ ⟨Nat.le_of_ble_eq_true rfl, Nat.le_of_ble_eq_true rfl⟩ rfl hl.1 rfl (Nat.le_of_ble_eq_true rfl) dX8_at_14 ⟨Nat.le_of_ble_eq_true rfl, Nat.le_of_ble_eq_true rfl⟩ ?_; clear hP hD hS; intro H locs hP hD hS
  refine lv_if_eq (tgt := 24) hx hb dX8_at_17 (by decide) (fun c4 => ?_) (fun c4 => ?_)
  · replace h := ite_t c4 h
    refine lv_aload_n hx hb dX8_at_24 rfl (lv_at hl 0 rfl) ?_
    refine lv_iload_n hx hb dX8_at_25 rfl (lv_at hl 1 rfl) ?_
    replace h := bnd h; obtain ⟨q5, e6, h⟩ := h
    refine rdV C hE hP (kX8_whaleAt l D T a_m a_ms a_mw a_mv a_mp a_mf a_ml a_mt a_mc m_chg q2.2 m_rea m_det m_ref m_err m_ans m_sav m_net m_lin m_tap m_her m_cmd v_ms l1 q5 e6) mX8_whaleAt qLX8_93 [0, 1] 0 rfl rfl rfl rfl ⟨rfl, rfl⟩ ⟨Nat.le_of_ble_eq_true rfl, Nat.le_of_ble_eq_true rfl⟩ rfl hl.1 rfl (Nat.le_of_ble_eq_true rfl) dX8_at_26 ⟨Nat.le_of_ble_eq_true rfl, Nat.le_of_ble_eq_true rfl⟩ ?_
    replace h := Option.some.inj h
    exact hret _ _ _ _ _ _ dX8_at_29 rfl (by rw [← h] <;> rfl) (by rw [← h]; exact hP) hS
  · replace h := ite_f c4 h
    refine lv_iconst (v := 0) hx hb dX8_at_20 (by decide) ?_
    refine lv_goto (tgt := 29) hx hb dX8_at_21 (by decide) ?_
    replace h := Option.some.inj h
    exact hret _ _ _ _ _ _ dX8_at_29 rfl (by rw [← h] <;> rfl) (by rw [← h]; exact hP) hS
set_option maxHeartbeats 4000000 in
set_option maxRecDepth 100000 in
theorem kX8_at (l : Launch) (D : va_G) (T : Nat → ClassId) (a_m a_ms a_mw a_mv a_mp a_mf a_ml a_mt a_mc : Nat) (m_chg : Int32) (m_thr : Int32) (m_rea : Int32) (m_det : Int32) (m_ref : Int32) (m_err : Int32) (m_ans : Int32) (m_sav : Int32) (m_net : Int32) (m_lin : Int32) (m_tap : Int32) (m_her : Int32) (m_cmd : Int32) (v_ms : Nat → Int32) (p0 : Int32) (sz : Nat) (r : Int32 × Int32) (h : fX8_at m_thr v_ms p0 = some r) : WrI l yX8_at cX8_at 2 .int ({ frames := 2, cells := 0, slots := 0, locals := 44 } : Room) D T sz [(a_m, .inr (8, [.ref a_ms, .ref a_mw, .ref a_mv, .ref a_mp, .ref a_mf, .int m_chg, .int m_thr, .int m_rea, .int m_det, .int m_ref, .int m_err, .int m_ans, .int m_sav, .int m_net, .ref a_ml, .int m_lin, .ref a_mt, .ref a_mc, .int m_tap, .int m_her, .int m_cmd])), (a_ms, .inl (T 0, 103, .inl v_ms))] [(a_m, .inr (8, [.ref a_ms, .ref a_mw, .ref a_mv, .ref a_mp, .ref a_mf, .int m_chg, .int r.2, .int m_rea, .int m_det, .int m_ref, .int m_err, .int m_ans, .int m_sav, .int m_net, .ref a_ml, .int m_lin, .ref a_mt, .ref a_mc, .int m_tap, .int m_her, .int m_cmd])), (a_ms, .inl (T 0, 103, .inl v_ms))] [.ref a_m, .int p0] r.1 := by
  unfold fX8_at at h
  refine wrMet (by decide +kernel) rfl (fun p e s m args below meth c Q A C hE hA hP hD hS hret ls hl => ?_)
  have hx := C.1
  have hb := C.2.1
  have hl : lv_has ls 2 [(0, .ref a_m), (1, .int p0)] := hl
  refine lv_aload_n hx hb dX8_at_0 rfl (lv_at hl 0 rfl) ?_
  refine lv_iload_n hx hb dX8_at_1 rfl (lv_at hl 1 rfl) ?_
  refine rdS C hE hP (kX8_isCell l D T p0) mX8_isCell qLX8_76 [] rfl ⟨rfl, rfl⟩ ⟨Nat.le_of_ble_eq_true rfl, Nat.le_of_ble_eq_true rfl⟩ rfl hl.1 rfl (Nat.le_of_ble_eq_true rfl) dX8_at_2 ⟨Nat.le_of_ble_eq_true rfl, Nat.le_of_ble_eq_true rfl⟩ ?_
  refine lv_if_ne (tgt := 12) hx hb dX8_at_5 (by decide) (fun c1 => ?_) (fun c1 => ?_)
  · rw [if_neg c1] at h
    refine lv_iconst (v := 0) hx hb dX8_at_12 (by decide) ?_
    exact lX8_at_13 C hE hA hret 0 p0 m_thr ⟨hP, hD⟩ hS _ (lv_sub hl [0, 1] rfl) h
  · rw [if_pos c1] at h
    refine lv_iconst (v := 1) hx hb dX8_at_8 (by decide) ?_
    refine lv_goto (tgt := 13) hx hb dX8_at_9 (by decide) ?_
    exact lX8_at_13 C hE hA hret 1 p0 m_thr ⟨hP, hD⟩ hS _ (lv_sub hl [0, 1] rfl) h

def fX8_ofTeam_30 (v_ms : Nat → Int32) (rec4 : Int32 → Int32 → Int32 → Option Int32) (x0 : Int32) (x1 : Int32) (l1 : Int32) (l3 : Int32) : Option Int32 :=
  rec4 l1 (x0 + x1) (l3 + 1)
def fX8_ofTeam_4 (v_ms : Nat → Int32) : Nat → Int32 → Int32 → Int32 → Option Int32
  | 0, _, _, _ => none
  | k + 1, l1, l2, l3 =>
    if vin 0 103 = true then
    if (v_ms (0 : Int32).toNatClampNeg) ≤ l3 then
      some l2
    else
      (fX8_of v_ms l3 0).bind fun q3 =>
      fX8_ofTeam_30 v_ms (fX8_ofTeam_4 v_ms k) l2 (if q3 = l1 then 1 else 0) l1 l3
    else none
def fX8_ofTeam (v_ms : Nat → Int32) (p0 : Int32) : Option Int32 :=
  fX8_ofTeam_4 v_ms 64 p0 0 0
set_option maxHeartbeats 4000000 in
set_option maxRecDepth 100000 in
theorem lX8_ofTeam_30 {p : Program} {l : Launch} {e : Env} {s : State} {m : MethodId} {args : Array Value} {below : List Frame} {meth : Method} {c : Code} {Q : State → Prop} {D : va_G} {T : Nat → ClassId} {a_m a_ms a_mw a_mv a_mp a_mf a_ml a_mt a_mc : Nat} {m_chg : Int32} {m_thr : Int32} {m_rea : Int32} {m_det : Int32} {m_ref : Int32} {m_err : Int32} {m_ans : Int32} {m_sav : Int32} {m_net : Int32} {m_lin : Int32} {m_tap : Int32} {m_her : Int32} {m_cmd : Int32} {v_ms : Nat → Int32} {r : Int32} (C : CallFix p m c cX8_ofTeam 4 s args aw RX8) (hE : eK D T s) (hP : va_P D kC [(a_m, .inr (8, [.ref a_ms, .ref a_mw, .ref a_mv, .ref a_mp, .ref a_mf, .int m_chg, .int m_thr, .int m_rea, .int m_det, .int m_ref, .int m_err, .int m_ans, .int m_sav, .int m_net, .ref a_ml, .int m_lin, .ref a_mt, .ref a_mc, .int m_tap, .int m_her, .int m_cmd])), (a_ms, .inl (T 0, 103, .inl v_ms))] s.heap) (hret : RdRet p l e ({ frames := 1, cells := 0, slots := 0, locals := 22 } : Room) s m args below meth c Q cX8_ofTeam .int r) {rec4 : Int32 → Int32 → Int32 → Option Int32} (hrec4 : ∀ (l1 : Int32) (l2 : Int32) (l3 : Int32) (ls : Array Slot) (hl : lv_has ls 4 [(0, .ref a_m), (1, .int l1), (2, .int l2), (3, .int l3)]) (h : rec4 l1 l2 l3 = some r), W p l e ({ frames := 1, cells := 0, slots := 0, locals := 22 } : Room) s m args below meth c s.heap [] 0 0 Q (F0 m 4 ls [])) (x0 : Int32) (x1 : Int32) (l1 : Int32) (l3 : Int32) (ls : Array Slot) (hl : lv_has ls 4 [(0, .ref a_m), (1, .int l1), (3, .int l3)]) (h : fX8_ofTeam_30 v_ms rec4 x0 x1 l1 l3 = some r) : W p l e ({ frames := 1, cells := 0, slots := 0, locals := 22 } : Room) s m args below meth c s.heap [] 0 0 Q (F0 m 30 ls [.int x1, .int x0]) := by
  have hx := C.1
  have hb := C.2.1
  unfold fX8_ofTeam_30 at h
  refine lv_iadd hx hb dX8_ofTeam_30 ?_
  refine lv_istore_n (lv' := [(2, .int (x0 + x1)), (0, .ref a_m), (1, .int l1), (3, .int l3)]) hx hb dX8_ofTeam_31 rfl hl (by decide) rfl (fun ls hl => ?_)
  refine lv_iinc (v := (l3 + 1)) (lv' := [(3, .int (l3 + 1)), (2, .int (x0 + x1)), (0, .ref a_m), (1, .int l1)]) hx hb dX8_ofTeam_32 hl (k := 3) rfl rfl (by decide) rfl (fun ls hl => ?_)
  refine lv_goto (tgt := 4) hx hb dX8_ofTeam_35 (by decide) ?_
  exact hrec4 l1 (x0 + x1) (l3 + 1) _ (lv_sub hl [2, 3, 1, 0] rfl) h
set_option maxHeartbeats 4000000 in
set_option maxRecDepth 100000 in
theorem lX8_ofTeam_4 {p : Program} {l : Launch} {e : Env} {s : State} {m : MethodId} {args : Array Value} {below : List Frame} {meth : Method} {c : Code} {Q : State → Prop} {D : va_G} {T : Nat → ClassId} {a_m a_ms a_mw a_mv a_mp a_mf a_ml a_mt a_mc : Nat} {m_chg : Int32} {m_thr : Int32} {m_rea : Int32} {m_det : Int32} {m_ref : Int32} {m_err : Int32} {m_ans : Int32} {m_sav : Int32} {m_net : Int32} {m_lin : Int32} {m_tap : Int32} {m_her : Int32} {m_cmd : Int32} {v_ms : Nat → Int32} {r : Int32} (C : CallFix p m c cX8_ofTeam 4 s args aw RX8) (hE : eK D T s) (hP : va_P D kC [(a_m, .inr (8, [.ref a_ms, .ref a_mw, .ref a_mv, .ref a_mp, .ref a_mf, .int m_chg, .int m_thr, .int m_rea, .int m_det, .int m_ref, .int m_err, .int m_ans, .int m_sav, .int m_net, .ref a_ml, .int m_lin, .ref a_mt, .ref a_mc, .int m_tap, .int m_her, .int m_cmd])), (a_ms, .inl (T 0, 103, .inl v_ms))] s.heap) (hret : RdRet p l e ({ frames := 1, cells := 0, slots := 0, locals := 22 } : Room) s m args below meth c Q cX8_ofTeam .int r) : ∀ (k : Nat) (l1 : Int32) (l2 : Int32) (l3 : Int32) (ls : Array Slot) (hl : lv_has ls 4 [(0, .ref a_m), (1, .int l1), (2, .int l2), (3, .int l3)]) (h : fX8_ofTeam_4 v_ms k l1 l2 l3 = some r), W p l e ({ frames := 1, cells := 0, slots := 0, locals := 22 } : Room) s m args below meth c s.heap [] 0 0 Q (F0 m 4 ls []) := by
  have hx := C.1
  have hb := C.2.1
  intro k
  induction k with
  | zero =>
    intro l1 l2 l3  ls hl h
    exact nomatch (show (none : Option Int32) = some r from h)
  | succ k ih =>
    intro l1 l2 l3  ls hl h
    rw [fX8_ofTeam_4] at h
    refine lv_iload_n hx hb dX8_ofTeam_4 rfl (lv_at hl 3 rfl) ?_
    refine lv_aload_n hx hb dX8_ofTeam_5 rfl (lv_at hl 0 rfl) ?_
    refine getF (q0 := 0) (k0 := 0) (v := .ref a_ms) C hE hP inA8 rfl rfl (by decide) qFX8_9 rfl rfl dX8_ofTeam_6 ?_
    refine lv_iconst (v := 0) hx hb dX8_ofTeam_9 (by decide) ?_
    replace h := gd h; obtain ⟨g1, h⟩ := h
    refine aldI (q0 := 1) C hE hP rfl g1 dX8_ofTeam_10 ?_
    refine lv_icmp_ge (tgt := 38) hx hb dX8_ofTeam_11 (by decide) (fun c2 => ?_) (fun c2 => ?_)
    · replace h := ite_t c2 h
      refine lv_iload_n hx hb dX8_ofTeam_38 rfl (lv_at hl 2 rfl) ?_
      exact hret _ _ _ _ dX8_ofTeam_39 rfl (Option.some.inj h)
    · replace h := ite_f c2 h
      refine lv_iload_n hx hb dX8_ofTeam_14 rfl (lv_at hl 2 rfl) ?_
      refine lv_aload_n hx hb dX8_ofTeam_15 rfl (lv_at hl 0 rfl) ?_
      refine lv_iload_n hx hb dX8_ofTeam_16 rfl (lv_at hl 3 rfl) ?_
      refine lv_iconst (v := 0) hx hb dX8_ofTeam_17 (by decide) ?_
      replace h := bnd h; obtain ⟨q3, e4, h⟩ := h
      refine rdV C hE hP (kX8_of l D T a_m a_ms a_mw a_mv a_mp a_mf a_ml a_mt a_mc m_chg m_thr m_rea m_det m_ref m_err m_ans m_sav m_net m_lin m_tap m_her m_cmd v_ms l3 0 q3 e4) mX8_of qLX8_90 [0, 1] 0 rfl rfl rfl rfl ⟨rfl, rfl⟩ ⟨Nat.le_of_ble_eq_true rfl, Nat.le_of_ble_eq_true rfl⟩ rfl hl.1 rfl (Nat.le_of_ble_eq_true rfl) dX8_ofTeam_18 ⟨Nat.le_of_ble_eq_true rfl, Nat.le_of_ble_eq_true rfl⟩ ?_
      refine lv_iload_n hx hb dX8_ofTeam_21 rfl (lv_at hl 1 rfl) ?_
      refine lv_icmp_ne (tgt := 29) hx hb dX8_ofTeam_22 (by decide) (fun c5 => ?_) (fun c5 => ?_)
      · rw [if_neg c5] at h
        refine lv_iconst (v := 0) hx hb dX8_ofTeam_29 (by decide) ?_
        exact lX8_ofTeam_30 C hE hP hret ih l2 0 l1 l3 _ (lv_sub hl [0, 1, 3] rfl) h
      · rw [if_pos c5] at h
        refine lv_iconst (v := 1) hx hb dX8_ofTeam_25 (by decide) ?_
        refine lv_goto (tgt := 30) hx hb dX8_ofTeam_26 (by decide) ?_
        exact lX8_ofTeam_30 C hE hP hret ih l2 1 l1 l3 _ (lv_sub hl [0, 1, 3] rfl) h
set_option maxHeartbeats 4000000 in
set_option maxRecDepth 100000 in
theorem kX8_ofTeam (l : Launch) (D : va_G) (T : Nat → ClassId) (a_m a_ms a_mw a_mv a_mp a_mf a_ml a_mt a_mc : Nat) (m_chg : Int32) (m_thr : Int32) (m_rea : Int32) (m_det : Int32) (m_ref : Int32) (m_err : Int32) (m_ans : Int32) (m_sav : Int32) (m_net : Int32) (m_lin : Int32) (m_tap : Int32) (m_her : Int32) (m_cmd : Int32) (v_ms : Nat → Int32) (p0 : Int32) (r : Int32) (h : fX8_ofTeam v_ms p0 = some r) : RdI l yX8_ofTeam cX8_ofTeam 4 .int ({ frames := 1, cells := 0, slots := 0, locals := 22 } : Room) D T [(a_m, .inr (8, [.ref a_ms, .ref a_mw, .ref a_mv, .ref a_mp, .ref a_mf, .int m_chg, .int m_thr, .int m_rea, .int m_det, .int m_ref, .int m_err, .int m_ans, .int m_sav, .int m_net, .ref a_ml, .int m_lin, .ref a_mt, .ref a_mc, .int m_tap, .int m_her, .int m_cmd])), (a_ms, .inl (T 0, 103, .inl v_ms))] [.ref a_m, .int p0] r := by
  unfold fX8_ofTeam at h
  refine rdMet (by decide +kernel) rfl (fun p e s m args below meth c Q C hE hP hret ls hl => ?_)
  have hx := C.1
  have hb := C.2.1
  have hl : lv_has ls 4 [(0, .ref a_m), (1, .int p0)] := hl
  refine lv_iconst (v := 0) hx hb dX8_ofTeam_0 (by decide) ?_
  refine lv_istore_n (lv' := [(2, .int 0), (0, .ref a_m), (1, .int p0)]) hx hb dX8_ofTeam_1 rfl hl (by decide) rfl (fun ls hl => ?_)
  refine lv_iconst (v := 0) hx hb dX8_ofTeam_2 (by decide) ?_
  refine lv_istore_n (lv' := [(3, .int 0), (2, .int 0), (0, .ref a_m), (1, .int p0)]) hx hb dX8_ofTeam_3 rfl hl (by decide) rfl (fun ls hl => ?_)
  exact lX8_ofTeam_4 C hE hP hret 64 p0 0 0 _ (lv_sub hl [2, 3, 1, 0] rfl) h

def fX8_comes_126 (x1 : Int32) (l1 : Int32) (l2 : Int32) (l3 : Int32) (l5 : Int32) (l6 : Int32) (m_thr : Int32) (m_rea : Int32) (m_det : Int32) (m_ref : Int32) (v_ms : Nat → Int32) : Option (Int32 × Int32 × Int32 × Int32 × Int32 × (Nat → Int32)) :=
  (fX8_isRefused m_thr m_rea m_det m_ref x1 7 l6).bind fun q19 =>
  if q19.1 = 0 then
    if vin 0 103 = true then
    (fX8_sets v_ms (v_ms (0 : Int32).toNatClampNeg) 0 l1).bind fun q23 =>
    (fX8_sets q23 (v_ms (0 : Int32).toNatClampNeg) 1 l2).bind fun q25 =>
    (fX8_sets q25 (v_ms (0 : Int32).toNatClampNeg) 2 l3).bind fun q27 =>
    (fX8_sets q27 (v_ms (0 : Int32).toNatClampNeg) 3 20).bind fun q29 =>
    (fX8_sets q29 (v_ms (0 : Int32).toNatClampNeg) 4 l5).bind fun q31 =>
    if vin 0 103 = true then
    if vin 0 103 = true then
    some ((v_ms (0 : Int32).toNatClampNeg), q19.2.1, q19.2.2.1, q19.2.2.2.1, q19.2.2.2.2, (upd q31 (0 : Int32).toNatClampNeg ((q31 (0 : Int32).toNatClampNeg) + 1)))
    else none
    else none
    else none
  else
    some (0, q19.2.1, q19.2.2.1, q19.2.2.2.1, q19.2.2.2.2, v_ms)
def fX8_comes_107 (x1 : Int32) (l1 : Int32) (l2 : Int32) (l3 : Int32) (l5 : Int32) (l6 : Int32) (m_thr : Int32) (m_rea : Int32) (m_det : Int32) (m_ref : Int32) (v_ms : Nat → Int32) : Option (Int32 × Int32 × Int32 × Int32 × Int32 × (Nat → Int32)) :=
  (fX8_isRefused m_thr m_rea m_det m_ref x1 1 5).bind fun q15 =>
  if q15.1 = 0 then
    fX8_comes_126 (if l6 < 0 then 0 else 1) l1 l2 l3 l5 l6 q15.2.1 q15.2.2.1 q15.2.2.2.1 q15.2.2.2.2 v_ms
  else
    some (0, q15.2.1, q15.2.2.1, q15.2.2.2.1, q15.2.2.2.2, v_ms)
def fX8_comes_93 (x0 : Int32) (l1 : Int32) (l2 : Int32) (l3 : Int32) (l4 : Int32) (l5 : Int32) (m_thr : Int32) (m_rea : Int32) (m_det : Int32) (m_ref : Int32) (v_ms : Nat → Int32) : Option (Int32 × Int32 × Int32 × Int32 × Int32 × (Nat → Int32)) :=
  fX8_comes_107 (if l4 = 5 then 1 else 0) l1 l2 l3 l5 x0 m_thr m_rea m_det m_ref v_ms
def fX8_comes_76 (x0 : Int32) (l1 : Int32) (l2 : Int32) (l3 : Int32) (l4 : Int32) (m_thr : Int32) (m_rea : Int32) (m_det : Int32) (m_ref : Int32) (v_ms : Nat → Int32) : Option (Int32 × Int32 × Int32 × Int32 × Int32 × (Nat → Int32)) :=
  if 0 ≤ x0 then
    (fX8_whaleAt v_ms x0).bind fun q12 =>
    fX8_comes_93 q12 l1 l2 l3 l4 x0 m_thr m_rea m_det m_ref v_ms
  else
    fX8_comes_93 (-1) l1 l2 l3 l4 x0 m_thr m_rea m_det m_ref v_ms
def fX8_comes_66 (x0 : Int32) (l1 : Int32) (l2 : Int32) (l3 : Int32) (l4 : Int32) (m_thr : Int32) (m_rea : Int32) (m_det : Int32) (m_ref : Int32) (v_ms : Nat → Int32) : Option (Int32 × Int32 × Int32 × Int32 × Int32 × (Nat → Int32)) :=
  fX8_comes_76 (x0 + (9 * l4)) l1 l2 l3 l4 m_thr m_rea m_det m_ref v_ms
def fX8_comes_33 (x1 : Int32) (l1 : Int32) (l2 : Int32) (l3 : Int32) (m_thr : Int32) (m_rea : Int32) (m_det : Int32) (m_ref : Int32) (v_ms : Nat → Int32) : Option (Int32 × Int32 × Int32 × Int32 × Int32 × (Nat → Int32)) :=
  (fX8_isThrown m_thr x1 1).bind fun q4 =>
  if q4.1 = 0 then
    (fX8_ofTeam v_ms l1).bind fun q7 =>
    if 3 ≤ q7 then
      fX8_comes_76 (-1) l1 l2 l3 q7 q4.2 m_rea m_det m_ref v_ms
    else
      fX8_comes_66 (if l1 = 0 then 10 else 16) l1 l2 l3 q7 q4.2 m_rea m_det m_ref v_ms
  else
    some (0, q4.2, m_rea, m_det, m_ref, v_ms)
def fX8_comes (m_thr : Int32) (m_rea : Int32) (m_det : Int32) (m_ref : Int32) (v_ms : Nat → Int32) (p0 : Int32) (p1 : Int32) (p2 : Int32) : Option (Int32 × Int32 × Int32 × Int32 × Int32 × (Nat → Int32)) :=
  fX8_comes_33 (if (fX8_isIn p0 0 1) = 0 then 1 else (if (fX8_isIn p1 1 5) = 0 then 1 else (if (fX8_isIn p2 1 4) = 0 then 1 else 0))) p0 p1 p2 m_thr m_rea m_det m_ref v_ms
set_option maxHeartbeats 4000000 in
set_option maxRecDepth 100000 in
theorem lX8_comes_126 {p : Program} {l : Launch} {e : Env} {s : State} {m : MethodId} {args : Array Value} {below : List Frame} {meth : Method} {c : Code} {Q : State → Prop} {D : va_G} {T : Nat → ClassId} {a_m a_ms a_mw a_mv a_mp a_mf a_ml a_mt a_mc : Nat} {m_chg : Int32} {m_err : Int32} {m_ans : Int32} {m_sav : Int32} {m_net : Int32} {m_lin : Int32} {m_tap : Int32} {m_her : Int32} {m_cmd : Int32} {A : Nat → Prop} {r : Int32 × Int32 × Int32 × Int32 × Int32 × (Nat → Int32)} (C : CallFix p m c cX8_comes 8 s args aw RX8) (hE : eK D T s) (hA : ∀ q : Nat, s.heap.size ≤ q → A q) (hret : WrRet p l e ({ frames := 2, cells := 0, slots := 0, locals := 45 } : Room) s m args below meth c Q cX8_comes .int D A [(a_m, .inr (8, [.ref a_ms, .ref a_mw, .ref a_mv, .ref a_mp, .ref a_mf, .int m_chg, .int r.2.1, .int r.2.2.1, .int r.2.2.2.1, .int r.2.2.2.2.1, .int m_err, .int m_ans, .int m_sav, .int m_net, .ref a_ml, .int m_lin, .ref a_mt, .ref a_mc, .int m_tap, .int m_her, .int m_cmd])), (a_ms, .inl (T 0, 103, .inl r.2.2.2.2.2))] r.1) (x1 : Int32) (l1 : Int32) (l2 : Int32) (l3 : Int32) (l5 : Int32) (l6 : Int32) (m_thr : Int32) (m_rea : Int32) (m_det : Int32) (m_ref : Int32) (v_ms : Nat → Int32) {H : Heap} {locs : List Loc} (hPD : va_PD D A [(a_m, .inr (8, [.ref a_ms, .ref a_mw, .ref a_mv, .ref a_mp, .ref a_mf, .int m_chg, .int m_thr, .int m_rea, .int m_det, .int m_ref, .int m_err, .int m_ans, .int m_sav, .int m_net, .ref a_ml, .int m_lin, .ref a_mt, .ref a_mc, .int m_tap, .int m_her, .int m_cmd])), (a_ms, .inl (T 0, 103, .inl v_ms))] H) (hS : va_S A s.heap H locs) (ls : Array Slot) (hl : lv_has ls 8 [(0, .ref a_m), (1, .int l1), (2, .int l2), (3, .int l3), (5, .int l5), (6, .int l6)]) (h : fX8_comes_126 x1 l1 l2 l3 l5 l6 m_thr m_rea m_det m_ref v_ms = some r) : W p l e ({ frames := 2, cells := 0, slots := 0, locals := 45 } : Room) s m args below meth c H locs 0 0 Q (F0 m 126 ls [.int x1, .ref a_m]) := by
  have hx := C.1
  have hb := C.2.1
  obtain ⟨hP, hD⟩ := hPD
  unfold fX8_comes_126 at h
  refine lv_bipush (v := 7) hx hb dX8_comes_126 (by decide) ?_
  refine lv_iload hx hb dX8_comes_128 (lv_at hl 5 rfl) ?_
  replace h := bnd h; obtain ⟨q19, e20, h⟩ := h
  refine wrVi (ws1 := [(a_m, .inr (8, [.ref a_ms, .ref a_mw, .ref a_mv, .ref a_mp, .ref a_mf, .int m_chg, .int q19.2.1, .int q19.2.2.1, .int q19.2.2.2.1, .int q19.2.2.2.2, .int m_err, .int m_ans, .int m_sav, .int m_net, .ref a_ml, .int m_lin, .ref a_mt, .ref a_mc, .int m_tap, .int m_her, .int m_cmd])), (a_ms, .inl (T 0, 103, .inl v_ms))]) C hE hP hD hS hA (kX8_isRefused l D T a_m a_ms a_mw a_mv a_mp a_mf a_ml a_mt a_mc m_chg m_thr m_rea m_det m_ref m_err m_ans m_sav m_net m_lin m_tap m_her m_cmd x1 7 l6 _ q19 e20) mX8_isRefused qLX8_99 [0] [1] 0 rfl rfl rfl rfl rfl rfl rfl rfl rfl ⟨rfl, rfl⟩ ⟨Nat.le_of_ble_eq_true rfl, Nat.le_of_ble_eq_true rfl⟩ rfl hl.1 rfl (Nat.le_of_ble_eq_true rfl) dX8_comes_130 ⟨Nat.le_of_ble_eq_true rfl, Nat.le_of_ble_eq_true rfl⟩ ?_; clear hP hD hS; intro H locs hP hD hS
  refine lv_if_eq (tgt := 138) hx hb dX8_comes_133 (by decide) (fun c21 => ?_) (fun c21 => ?_)
  · replace h := ite_t c21 h
    refine lv_aload_n hx hb dX8_comes_138 rfl (lv_at hl 0 rfl) ?_
    refine getF (q0 := 0) (k0 := 0) (v := .ref a_ms) C hE hP inA8 rfl rfl (by decide) qFX8_9 rfl rfl dX8_comes_139 ?_
    refine lv_iconst (v := 0) hx hb dX8_comes_142 (by decide) ?_
    replace h := gd h; obtain ⟨g22, h⟩ := h
    refine aldI (q0 := 1) C hE hP rfl g22 dX8_comes_143 ?_
    refine lv_istore (lv' := [(7, .int (v_ms (0 : Int32).toNatClampNeg)), (0, .ref a_m), (1, .int l1), (2, .int l2), (3, .int l3), (5, .int l5), (6, .int l6)]) hx hb dX8_comes_144 hl (by decide) rfl (fun ls hl => ?_)
    refine lv_aload_n hx hb dX8_comes_146 rfl (lv_at hl 1 rfl) ?_
    refine lv_iload hx hb dX8_comes_147 (lv_at hl 0 rfl) ?_
    refine lv_iconst (v := 0) hx hb dX8_comes_149 (by decide) ?_
    refine lv_iload_n hx hb dX8_comes_150 rfl (lv_at hl 2 rfl) ?_
    replace h := bnd h; obtain ⟨q23, e24, h⟩ := h
    refine wrVv (ws1 := [(a_m, .inr (8, [.ref a_ms, .ref a_mw, .ref a_mv, .ref a_mp, .ref a_mf, .int m_chg, .int q19.2.1, .int q19.2.2.1, .int q19.2.2.2.1, .int q19.2.2.2.2, .int m_err, .int m_ans, .int m_sav, .int m_net, .ref a_ml, .int m_lin, .ref a_mt, .ref a_mc, .int m_tap, .int m_her, .int m_cmd])), (a_ms, .inl (T 0, 103, .inl q23))]) C hE hP hD hS hA (kX8_sets l D T a_m a_ms a_mw a_mv a_mp a_mf a_ml a_mt a_mc m_chg q19.2.1 q19.2.2.1 q19.2.2.2.1 q19.2.2.2.2 m_err m_ans m_sav m_net m_lin m_tap m_her m_cmd v_ms (v_ms (0 : Int32).toNatClampNeg) 0 l1 _ q23 e24) mX8_sets qLX8_103 [0, 1] [] 0 rfl rfl rfl rfl rfl rfl rfl rfl rfl ⟨rfl, rfl⟩ ⟨Nat.le_of_ble_eq_true rfl, Nat.le_of_ble_eq_true rfl⟩ rfl hl.1 rfl (Nat.le_of_ble_eq_true rfl) dX8_comes_151 ⟨Nat.le_of_ble_eq_true rfl, Nat.le_of_ble_eq_true rfl⟩ ?_; clear hP hD hS; intro H locs hP hD hS
    refine lv_aload_n hx hb dX8_comes_154 rfl (lv_at hl 1 rfl) ?_
    refine lv_iload hx hb dX8_comes_155 (lv_at hl 0 rfl) ?_
    refine lv_iconst (v := 1) hx hb dX8_comes_157 (by decide) ?_
    refine lv_iload_n hx hb dX8_comes_158 rfl (lv_at hl 3 rfl) ?_
    replace h := bnd h; obtain ⟨q25, e26, h⟩ := h
    refine wrVv (ws1 := [(a_m, .inr (8, [.ref a_ms, .ref a_mw, .ref a_mv, .ref a_mp, .ref a_mf, .int m_chg, .int q19.2.1, .int q19.2.2.1, .int q19.2.2.2.1, .int q19.2.2.2.2, .int m_err, .int m_ans, .int m_sav, .int m_net, .ref a_ml, .int m_lin, .ref a_mt, .ref a_mc, .int m_tap, .int m_her, .int m_cmd])), (a_ms, .inl (T 0, 103, .inl q25))]) C hE hP hD hS hA (kX8_sets l D T a_m a_ms a_mw a_mv a_mp a_mf a_ml a_mt a_mc m_chg q19.2.1 q19.2.2.1 q19.2.2.2.1 q19.2.2.2.2 m_err m_ans m_sav m_net m_lin m_tap m_her m_cmd q23 (v_ms (0 : Int32).toNatClampNeg) 1 l2 _ q25 e26) mX8_sets qLX8_103 [0, 1] [] 0 rfl rfl rfl rfl rfl rfl rfl rfl rfl ⟨rfl, rfl⟩ ⟨Nat.le_of_ble_eq_true rfl, Nat.le_of_ble_eq_true rfl⟩ rfl hl.1 rfl (Nat.le_of_ble_eq_true rfl) dX8_comes_159 ⟨Nat.le_of_ble_eq_true rfl, Nat.le_of_ble_eq_true rfl⟩ ?_; clear hP hD hS; intro H locs hP hD hS
    refine lv_aload_n hx hb dX8_comes_162 rfl (lv_at hl 1 rfl) ?_
    refine lv_iload hx hb dX8_comes_163 (lv_at hl 0 rfl) ?_
    refine lv_iconst (v := 2) hx hb dX8_comes_165 (by decide) ?_
    refine lv_iload_n hx hb dX8_comes_166 rfl (lv_at hl 4 rfl) ?_
    replace h := bnd h; obtain ⟨q27, e28, h⟩ := h
    refine wrVv (ws1 := [(a_m, .inr (8, [.ref a_ms, .ref a_mw, .ref a_mv, .ref a_mp, .ref a_mf, .int m_chg, .int q19.2.1, .int q19.2.2.1, .int q19.2.2.2.1, .int q19.2.2.2.2, .int m_err, .int m_ans, .int m_sav, .int m_net, .ref a_ml, .int m_lin, .ref a_mt, .ref a_mc, .int m_tap, .int m_her, .int m_cmd])), (a_ms, .inl (T 0, 103, .inl q27))]) C hE hP hD hS hA (kX8_sets l D T a_m a_ms a_mw a_mv a_mp a_mf a_ml a_mt a_mc m_chg q19.2.1 q19.2.2.1 q19.2.2.2.1 q19.2.2.2.2 m_err m_ans m_sav m_net m_lin m_tap m_her m_cmd q25 (v_ms (0 : Int32).toNatClampNeg) 2 l3 _ q27 e28) mX8_sets qLX8_103 [0, 1] [] 0 rfl rfl rfl rfl rfl rfl rfl rfl rfl ⟨rfl, rfl⟩ ⟨Nat.le_of_ble_eq_true rfl, Nat.le_of_ble_eq_true rfl⟩ rfl hl.1 rfl (Nat.le_of_ble_eq_true rfl) dX8_comes_167 ⟨Nat.le_of_ble_eq_true rfl, Nat.le_of_ble_eq_true rfl⟩ ?_; clear hP hD hS; intro H locs hP hD hS
    refine lv_aload_n hx hb dX8_comes_170 rfl (lv_at hl 1 rfl) ?_
    refine lv_iload hx hb dX8_comes_171 (lv_at hl 0 rfl) ?_
    refine lv_iconst (v := 3) hx hb dX8_comes_173 (by decide) ?_
    refine lv_bipush (v := 20) hx hb dX8_comes_174 (by decide) ?_
    replace h := bnd h; obtain ⟨q29, e30, h⟩ := h
    refine wrVv (ws1 := [(a_m, .inr (8, [.ref a_ms, .ref a_mw, .ref a_mv, .ref a_mp, .ref a_mf, .int m_chg, .int q19.2.1, .int q19.2.2.1, .int q19.2.2.2.1, .int q19.2.2.2.2, .int m_err, .int m_ans, .int m_sav, .int m_net, .ref a_ml, .int m_lin, .ref a_mt, .ref a_mc, .int m_tap, .int m_her, .int m_cmd])), (a_ms, .inl (T 0, 103, .inl q29))]) C hE hP hD hS hA (kX8_sets l D T a_m a_ms a_mw a_mv a_mp a_mf a_ml a_mt a_mc m_chg q19.2.1 q19.2.2.1 q19.2.2.2.1 q19.2.2.2.2 m_err m_ans m_sav m_net m_lin m_tap m_her m_cmd q27 (v_ms (0 : Int32).toNatClampNeg) 3 20 _ q29 e30) mX8_sets qLX8_103 [0, 1] [] 0 rfl rfl rfl rfl rfl rfl rfl rfl rfl ⟨rfl, rfl⟩ ⟨Nat.le_of_ble_eq_true rfl, Nat.le_of_ble_eq_true rfl⟩ rfl hl.1 rfl (Nat.le_of_ble_eq_true rfl) dX8_comes_176 ⟨Nat.le_of_ble_eq_true rfl, Nat.le_of_ble_eq_true rfl⟩ ?_; clear hP hD hS; intro H locs hP hD hS
    refine lv_aload_n hx hb dX8_comes_179 rfl (lv_at hl 1 rfl) ?_
    refine lv_iload hx hb dX8_comes_180 (lv_at hl 0 rfl) ?_
    refine lv_iconst (v := 4) hx hb dX8_comes_182 (by decide) ?_
    refine lv_iload hx hb dX8_comes_183 (lv_at hl 5 rfl) ?_
    replace h := bnd h; obtain ⟨q31, e32, h⟩ := h
    refine wrVv (ws1 := [(a_m, .inr (8, [.ref a_ms, .ref a_mw, .ref a_mv, .ref a_mp, .ref a_mf, .int m_chg, .int q19.2.1, .int q19.2.2.1, .int q19.2.2.2.1, .int q19.2.2.2.2, .int m_err, .int m_ans, .int m_sav, .int m_net, .ref a_ml, .int m_lin, .ref a_mt, .ref a_mc, .int m_tap, .int m_her, .int m_cmd])), (a_ms, .inl (T 0, 103, .inl q31))]) C hE hP hD hS hA (kX8_sets l D T a_m a_ms a_mw a_mv a_mp a_mf a_ml a_mt a_mc m_chg q19.2.1 q19.2.2.1 q19.2.2.2.1 q19.2.2.2.2 m_err m_ans m_sav m_net m_lin m_tap m_her m_cmd q29 (v_ms (0 : Int32).toNatClampNeg) 4 l5 _ q31 e32) mX8_sets qLX8_103 [0, 1] [] 0 rfl rfl rfl rfl rfl rfl rfl rfl rfl ⟨rfl, rfl⟩ ⟨Nat.le_of_ble_eq_true rfl, Nat.le_of_ble_eq_true rfl⟩ rfl hl.1 rfl (Nat.le_of_ble_eq_true rfl) dX8_comes_185 ⟨Nat.le_of_ble_eq_true rfl, Nat.le_of_ble_eq_true rfl⟩ ?_; clear hP hD hS; intro H locs hP hD hS
    refine lv_aload_n hx hb dX8_comes_188 rfl (lv_at hl 1 rfl) ?_
    refine getF (q0 := 0) (k0 := 0) (v := .ref a_ms) C hE hP inA8 rfl rfl (by decide) qFX8_9 rfl rfl dX8_comes_189 ?_
    refine lv_iconst (v := 0) hx hb dX8_comes_192 (by decide) ?_
    refine lv_dup2_11 hx hb dX8_comes_193 rfl rfl ?_
    replace h := gd h; obtain ⟨g33, h⟩ := h
    refine aldI (q0 := 1) C hE hP rfl g33 dX8_comes_194 ?_
    refine lv_iconst (v := 1) hx hb dX8_comes_195 (by decide) ?_
    refine lv_iadd hx hb dX8_comes_196 ?_
    replace h := gd h; obtain ⟨g34, h⟩ := h
    refine astI (q0 := 1) (ws1 := [(a_m, .inr (8, [.ref a_ms, .ref a_mw, .ref a_mv, .ref a_mp, .ref a_mf, .int m_chg, .int q19.2.1, .int q19.2.2.1, .int q19.2.2.2.1, .int q19.2.2.2.2, .int m_err, .int m_ans, .int m_sav, .int m_net, .ref a_ml, .int m_lin, .ref a_mt, .ref a_mc, .int m_tap, .int m_her, .int m_cmd])), (a_ms, .inl (T 0, 103, .inl (upd q31 (0 : Int32).toNatClampNeg ((q31 (0 : Int32).toNatClampNeg) + 1))))]) C hE hP hD hS rfl g34 rfl dX8_comes_197 ?_; clear hP hD hS; intro H locs hP hD hS
    refine lv_iload hx hb dX8_comes_198 (lv_at hl 0 rfl) ?_
    replace h := Option.some.inj h
    exact hret _ _ _ _ _ _ dX8_comes_200 rfl (by rw [← h] <;> rfl) (by rw [← h]; exact hP) hS
  · replace h := ite_f c21 h
    refine lv_iconst (v := 0) hx hb dX8_comes_136 (by decide) ?_
    replace h := Option.some.inj h
    exact hret _ _ _ _ _ _ dX8_comes_137 rfl (by rw [← h] <;> rfl) (by rw [← h]; exact hP) hS
set_option maxHeartbeats 4000000 in
set_option maxRecDepth 100000 in
theorem lX8_comes_107 {p : Program} {l : Launch} {e : Env} {s : State} {m : MethodId} {args : Array Value} {below : List Frame} {meth : Method} {c : Code} {Q : State → Prop} {D : va_G} {T : Nat → ClassId} {a_m a_ms a_mw a_mv a_mp a_mf a_ml a_mt a_mc : Nat} {m_chg : Int32} {m_err : Int32} {m_ans : Int32} {m_sav : Int32} {m_net : Int32} {m_lin : Int32} {m_tap : Int32} {m_her : Int32} {m_cmd : Int32} {A : Nat → Prop} {r : Int32 × Int32 × Int32 × Int32 × Int32 × (Nat → Int32)} (C : CallFix p m c cX8_comes 8 s args aw RX8) (hE : eK D T s) (hA : ∀ q : Nat, s.heap.size ≤ q → A q) (hret : WrRet p l e ({ frames := 2, cells := 0, slots := 0, locals := 45 } : Room) s m args below meth c Q cX8_comes .int D A [(a_m, .inr (8, [.ref a_ms, .ref a_mw, .ref a_mv, .ref a_mp, .ref a_mf, .int m_chg, .int r.2.1, .int r.2.2.1, .int r.2.2.2.1, .int r.2.2.2.2.1, .int m_err, .int m_ans, .int m_sav, .int m_net, .ref a_ml, .int m_lin, .ref a_mt, .ref a_mc, .int m_tap, .int m_her, .int m_cmd])), (a_ms, .inl (T 0, 103, .inl r.2.2.2.2.2))] r.1) (x1 : Int32) (l1 : Int32) (l2 : Int32) (l3 : Int32) (l5 : Int32) (l6 : Int32) (m_thr : Int32) (m_rea : Int32) (m_det : Int32) (m_ref : Int32) (v_ms : Nat → Int32) {H : Heap} {locs : List Loc} (hPD : va_PD D A [(a_m, .inr (8, [.ref a_ms, .ref a_mw, .ref a_mv, .ref a_mp, .ref a_mf, .int m_chg, .int m_thr, .int m_rea, .int m_det, .int m_ref, .int m_err, .int m_ans, .int m_sav, .int m_net, .ref a_ml, .int m_lin, .ref a_mt, .ref a_mc, .int m_tap, .int m_her, .int m_cmd])), (a_ms, .inl (T 0, 103, .inl v_ms))] H) (hS : va_S A s.heap H locs) (ls : Array Slot) (hl : lv_has ls 8 [(0, .ref a_m), (1, .int l1), (2, .int l2), (3, .int l3), (5, .int l5), (6, .int l6)]) (h : fX8_comes_107 x1 l1 l2 l3 l5 l6 m_thr m_rea m_det m_ref v_ms = some r) : W p l e ({ frames := 2, cells := 0, slots := 0, locals := 45 } : Room) s m args below meth c H locs 0 0 Q (F0 m 107 ls [.int x1, .ref a_m]) := by
  have hx := C.1
  have hb := C.2.1
  obtain ⟨hP, hD⟩ := hPD
  unfold fX8_comes_107 at h
  refine lv_iconst (v := 1) hx hb dX8_comes_107 (by decide) ?_
  refine lv_iconst (v := 5) hx hb dX8_comes_108 (by decide) ?_
  replace h := bnd h; obtain ⟨q15, e16, h⟩ := h
  refine wrVi (ws1 := [(a_m, .inr (8, [.ref a_ms, .ref a_mw, .ref a_mv, .ref a_mp, .ref a_mf, .int m_chg, .int q15.2.1, .int q15.2.2.1, .int q15.2.2.2.1, .int q15.2.2.2.2, .int m_err, .int m_ans, .int m_sav, .int m_net, .ref a_ml, .int m_lin, .ref a_mt, .ref a_mc, .int m_tap, .int m_her, .int m_cmd])), (a_ms, .inl (T 0, 103, .inl v_ms))]) C hE hP hD hS hA (kX8_isRefused l D T a_m a_ms a_mw a_mv a_mp a_mf a_ml a_mt a_mc m_chg m_thr m_rea m_det m_ref m_err m_ans m_sav m_net m_lin m_tap m_her m_cmd x1 1 5 _ q15 e16) mX8_isRefused qLX8_99 [0] [1] 0 rfl rfl rfl rfl rfl rfl rfl rfl rfl ⟨rfl, rfl⟩ ⟨Nat.le_of_ble_eq_true rfl, Nat.le_of_ble_eq_true rfl⟩ rfl hl.1 rfl (Nat.le_of_ble_eq_true rfl) dX8_comes_109 ⟨Nat.le_of_ble_eq_true rfl, Nat.le_of_ble_eq_true rfl⟩ ?_; clear hP hD hS; intro H locs hP hD hS
  refine lv_if_ne (tgt := 136) hx hb dX8_comes_112 (by decide) (fun c17 => ?_) (fun c17 => ?_)
  · replace h := ite_f c17 h
    refine lv_iconst (v := 0) hx hb dX8_comes_136 (by decide) ?_
    replace h := Option.some.inj h
    exact hret _ _ _ _ _ _ dX8_comes_137 rfl (by rw [← h] <;> rfl) (by rw [← h]; exact hP) hS
  · replace h := ite_t c17 h
    refine lv_aload_n hx hb dX8_comes_115 rfl (lv_at hl 0 rfl) ?_
    refine lv_iload hx hb dX8_comes_116 (lv_at hl 5 rfl) ?_
    refine lv_if_lt (tgt := 125) hx hb dX8_comes_118 (by decide) (fun c18 => ?_) (fun c18 => ?_)
    · rw [if_pos c18] at h
      refine lv_iconst (v := 0) hx hb dX8_comes_125 (by decide) ?_
      exact lX8_comes_126 C hE hA hret 0 l1 l2 l3 l5 l6 q15.2.1 q15.2.2.1 q15.2.2.2.1 q15.2.2.2.2 v_ms ⟨hP, hD⟩ hS _ (lv_sub hl [0, 1, 2, 3, 4, 5] rfl) h
    · rw [if_neg c18] at h
      refine lv_iconst (v := 1) hx hb dX8_comes_121 (by decide) ?_
      refine lv_goto (tgt := 126) hx hb dX8_comes_122 (by decide) ?_
      exact lX8_comes_126 C hE hA hret 1 l1 l2 l3 l5 l6 q15.2.1 q15.2.2.1 q15.2.2.2.1 q15.2.2.2.2 v_ms ⟨hP, hD⟩ hS _ (lv_sub hl [0, 1, 2, 3, 4, 5] rfl) h
set_option maxHeartbeats 4000000 in
set_option maxRecDepth 100000 in
theorem lX8_comes_93 {p : Program} {l : Launch} {e : Env} {s : State} {m : MethodId} {args : Array Value} {below : List Frame} {meth : Method} {c : Code} {Q : State → Prop} {D : va_G} {T : Nat → ClassId} {a_m a_ms a_mw a_mv a_mp a_mf a_ml a_mt a_mc : Nat} {m_chg : Int32} {m_err : Int32} {m_ans : Int32} {m_sav : Int32} {m_net : Int32} {m_lin : Int32} {m_tap : Int32} {m_her : Int32} {m_cmd : Int32} {A : Nat → Prop} {r : Int32 × Int32 × Int32 × Int32 × Int32 × (Nat → Int32)} (C : CallFix p m c cX8_comes 8 s args aw RX8) (hE : eK D T s) (hA : ∀ q : Nat, s.heap.size ≤ q → A q) (hret : WrRet p l e ({ frames := 2, cells := 0, slots := 0, locals := 45 } : Room) s m args below meth c Q cX8_comes .int D A [(a_m, .inr (8, [.ref a_ms, .ref a_mw, .ref a_mv, .ref a_mp, .ref a_mf, .int m_chg, .int r.2.1, .int r.2.2.1, .int r.2.2.2.1, .int r.2.2.2.2.1, .int m_err, .int m_ans, .int m_sav, .int m_net, .ref a_ml, .int m_lin, .ref a_mt, .ref a_mc, .int m_tap, .int m_her, .int m_cmd])), (a_ms, .inl (T 0, 103, .inl r.2.2.2.2.2))] r.1) (x0 : Int32) (l1 : Int32) (l2 : Int32) (l3 : Int32) (l4 : Int32) (l5 : Int32) (m_thr : Int32) (m_rea : Int32) (m_det : Int32) (m_ref : Int32) (v_ms : Nat → Int32) {H : Heap} {locs : List Loc} (hPD : va_PD D A [(a_m, .inr (8, [.ref a_ms, .ref a_mw, .ref a_mv, .ref a_mp, .ref a_mf, .int m_chg, .int m_thr, .int m_rea, .int m_det, .int m_ref, .int m_err, .int m_ans, .int m_sav, .int m_net, .ref a_ml, .int m_lin, .ref a_mt, .ref a_mc, .int m_tap, .int m_her, .int m_cmd])), (a_ms, .inl (T 0, 103, .inl v_ms))] H) (hS : va_S A s.heap H locs) (ls : Array Slot) (hl : lv_has ls 8 [(0, .ref a_m), (1, .int l1), (2, .int l2), (3, .int l3), (4, .int l4), (5, .int l5)]) (h : fX8_comes_93 x0 l1 l2 l3 l4 l5 m_thr m_rea m_det m_ref v_ms = some r) : W p l e ({ frames := 2, cells := 0, slots := 0, locals := 45 } : Room) s m args below meth c H locs 0 0 Q (F0 m 93 ls [.int x0]) := by
  have hx := C.1
  have hb := C.2.1
  obtain ⟨hP, hD⟩ := hPD
  unfold fX8_comes_93 at h
  refine lv_istore (lv' := [(6, .int x0), (0, .ref a_m), (1, .int l1), (2, .int l2), (3, .int l3), (4, .int l4), (5, .int l5)]) hx hb dX8_comes_93 hl (by decide) rfl (fun ls hl => ?_)
  refine lv_aload_n hx hb dX8_comes_95 rfl (lv_at hl 1 rfl) ?_
  refine lv_iload hx hb dX8_comes_96 (lv_at hl 5 rfl) ?_
  refine lv_iconst (v := 5) hx hb dX8_comes_98 (by decide) ?_
  refine lv_icmp_ne (tgt := 106) hx hb dX8_comes_99 (by decide) (fun c14 => ?_) (fun c14 => ?_)
  · rw [if_neg c14] at h
    refine lv_iconst (v := 0) hx hb dX8_comes_106 (by decide) ?_
    exact lX8_comes_107 C hE hA hret 0 l1 l2 l3 l5 x0 m_thr m_rea m_det m_ref v_ms ⟨hP, hD⟩ hS _ (lv_sub hl [1, 2, 3, 4, 6, 0] rfl) h
  · rw [if_pos c14] at h
    refine lv_iconst (v := 1) hx hb dX8_comes_102 (by decide) ?_
    refine lv_goto (tgt := 107) hx hb dX8_comes_103 (by decide) ?_
    exact lX8_comes_107 C hE hA hret 1 l1 l2 l3 l5 x0 m_thr m_rea m_det m_ref v_ms ⟨hP, hD⟩ hS _ (lv_sub hl [1, 2, 3, 4, 6, 0] rfl) h
set_option maxHeartbeats 4000000 in
set_option maxRecDepth 100000 in
theorem lX8_comes_76 {p : Program} {l : Launch} {e : Env} {s : State} {m : MethodId} {args : Array Value} {below : List Frame} {meth : Method} {c : Code} {Q : State → Prop} {D : va_G} {T : Nat → ClassId} {a_m a_ms a_mw a_mv a_mp a_mf a_ml a_mt a_mc : Nat} {m_chg : Int32} {m_err : Int32} {m_ans : Int32} {m_sav : Int32} {m_net : Int32} {m_lin : Int32} {m_tap : Int32} {m_her : Int32} {m_cmd : Int32} {A : Nat → Prop} {r : Int32 × Int32 × Int32 × Int32 × Int32 × (Nat → Int32)} (C : CallFix p m c cX8_comes 8 s args aw RX8) (hE : eK D T s) (hA : ∀ q : Nat, s.heap.size ≤ q → A q) (hret : WrRet p l e ({ frames := 2, cells := 0, slots := 0, locals := 45 } : Room) s m args below meth c Q cX8_comes .int D A [(a_m, .inr (8, [.ref a_ms, .ref a_mw, .ref a_mv, .ref a_mp, .ref a_mf, .int m_chg, .int r.2.1, .int r.2.2.1, .int r.2.2.2.1, .int r.2.2.2.2.1, .int m_err, .int m_ans, .int m_sav, .int m_net, .ref a_ml, .int m_lin, .ref a_mt, .ref a_mc, .int m_tap, .int m_her, .int m_cmd])), (a_ms, .inl (T 0, 103, .inl r.2.2.2.2.2))] r.1) (x0 : Int32) (l1 : Int32) (l2 : Int32) (l3 : Int32) (l4 : Int32) (m_thr : Int32) (m_rea : Int32) (m_det : Int32) (m_ref : Int32) (v_ms : Nat → Int32) {H : Heap} {locs : List Loc} (hPD : va_PD D A [(a_m, .inr (8, [.ref a_ms, .ref a_mw, .ref a_mv, .ref a_mp, .ref a_mf, .int m_chg, .int m_thr, .int m_rea, .int m_det, .int m_ref, .int m_err, .int m_ans, .int m_sav, .int m_net, .ref a_ml, .int m_lin, .ref a_mt, .ref a_mc, .int m_tap, .int m_her, .int m_cmd])), (a_ms, .inl (T 0, 103, .inl v_ms))] H) (hS : va_S A s.heap H locs) (ls : Array Slot) (hl : lv_has ls 8 [(0, .ref a_m), (1, .int l1), (2, .int l2), (3, .int l3), (4, .int l4)]) (h : fX8_comes_76 x0 l1 l2 l3 l4 m_thr m_rea m_det m_ref v_ms = some r) : W p l e ({ frames := 2, cells := 0, slots := 0, locals := 45 } : Room) s m args below meth c H locs 0 0 Q (F0 m 76 ls [.int x0]) := by
  have hx := C.1
  have hb := C.2.1
  obtain ⟨hP, hD⟩ := hPD
  unfold fX8_comes_76 at h
  refine lv_istore (lv' := [(5, .int x0), (0, .ref a_m), (1, .int l1), (2, .int l2), (3, .int l3), (4, .int l4)]) hx hb dX8_comes_76 hl (by decide) rfl (fun ls hl => ?_)
  refine lv_iload hx hb dX8_comes_78 (lv_at hl 0 rfl) ?_
  refine lv_if_ge (tgt := 87) hx hb dX8_comes_80 (by decide) (fun c11 => ?_) (fun c11 => ?_)
  · replace h := ite_t c11 h
    refine lv_aload_n hx hb dX8_comes_87 rfl (lv_at hl 1 rfl) ?_
    refine lv_iload hx hb dX8_comes_88 (lv_at hl 0 rfl) ?_
    replace h := bnd h; obtain ⟨q12, e13, h⟩ := h
    refine rdV C hE hP (kX8_whaleAt l D T a_m a_ms a_mw a_mv a_mp a_mf a_ml a_mt a_mc m_chg m_thr m_rea m_det m_ref m_err m_ans m_sav m_net m_lin m_tap m_her m_cmd v_ms x0 q12 e13) mX8_whaleAt qLX8_93 [0, 1] 0 rfl rfl rfl rfl ⟨rfl, rfl⟩ ⟨Nat.le_of_ble_eq_true rfl, Nat.le_of_ble_eq_true rfl⟩ rfl hl.1 rfl (Nat.le_of_ble_eq_true rfl) dX8_comes_90 ⟨Nat.le_of_ble_eq_true rfl, Nat.le_of_ble_eq_true rfl⟩ ?_
    exact lX8_comes_93 C hE hA hret q12 l1 l2 l3 l4 x0 m_thr m_rea m_det m_ref v_ms ⟨hP, hD⟩ hS _ (lv_sub hl [1, 2, 3, 4, 5, 0] rfl) h
  · replace h := ite_f c11 h
    refine lv_iconst (v := (-1)) hx hb dX8_comes_83 (by decide) ?_
    refine lv_goto (tgt := 93) hx hb dX8_comes_84 (by decide) ?_
    exact lX8_comes_93 C hE hA hret (-1) l1 l2 l3 l4 x0 m_thr m_rea m_det m_ref v_ms ⟨hP, hD⟩ hS _ (lv_sub hl [1, 2, 3, 4, 5, 0] rfl) h
set_option maxHeartbeats 4000000 in
set_option maxRecDepth 100000 in
theorem lX8_comes_66 {p : Program} {l : Launch} {e : Env} {s : State} {m : MethodId} {args : Array Value} {below : List Frame} {meth : Method} {c : Code} {Q : State → Prop} {D : va_G} {T : Nat → ClassId} {a_m a_ms a_mw a_mv a_mp a_mf a_ml a_mt a_mc : Nat} {m_chg : Int32} {m_err : Int32} {m_ans : Int32} {m_sav : Int32} {m_net : Int32} {m_lin : Int32} {m_tap : Int32} {m_her : Int32} {m_cmd : Int32} {A : Nat → Prop} {r : Int32 × Int32 × Int32 × Int32 × Int32 × (Nat → Int32)} (C : CallFix p m c cX8_comes 8 s args aw RX8) (hE : eK D T s) (hA : ∀ q : Nat, s.heap.size ≤ q → A q) (hret : WrRet p l e ({ frames := 2, cells := 0, slots := 0, locals := 45 } : Room) s m args below meth c Q cX8_comes .int D A [(a_m, .inr (8, [.ref a_ms, .ref a_mw, .ref a_mv, .ref a_mp, .ref a_mf, .int m_chg, .int r.2.1, .int r.2.2.1, .int r.2.2.2.1, .int r.2.2.2.2.1, .int m_err, .int m_ans, .int m_sav, .int m_net, .ref a_ml, .int m_lin, .ref a_mt, .ref a_mc, .int m_tap, .int m_her, .int m_cmd])), (a_ms, .inl (T 0, 103, .inl r.2.2.2.2.2))] r.1) (x0 : Int32) (l1 : Int32) (l2 : Int32) (l3 : Int32) (l4 : Int32) (m_thr : Int32) (m_rea : Int32) (m_det : Int32) (m_ref : Int32) (v_ms : Nat → Int32) {H : Heap} {locs : List Loc} (hPD : va_PD D A [(a_m, .inr (8, [.ref a_ms, .ref a_mw, .ref a_mv, .ref a_mp, .ref a_mf, .int m_chg, .int m_thr, .int m_rea, .int m_det, .int m_ref, .int m_err, .int m_ans, .int m_sav, .int m_net, .ref a_ml, .int m_lin, .ref a_mt, .ref a_mc, .int m_tap, .int m_her, .int m_cmd])), (a_ms, .inl (T 0, 103, .inl v_ms))] H) (hS : va_S A s.heap H locs) (ls : Array Slot) (hl : lv_has ls 8 [(0, .ref a_m), (1, .int l1), (2, .int l2), (3, .int l3), (4, .int l4)]) (h : fX8_comes_66 x0 l1 l2 l3 l4 m_thr m_rea m_det m_ref v_ms = some r) : W p l e ({ frames := 2, cells := 0, slots := 0, locals := 45 } : Room) s m args below meth c H locs 0 0 Q (F0 m 66 ls [.int x0]) := by
  have hx := C.1
  have hb := C.2.1
  obtain ⟨hP, hD⟩ := hPD
  unfold fX8_comes_66 at h
  refine lv_bipush (v := 9) hx hb dX8_comes_66 (by decide) ?_
  refine lv_iload hx hb dX8_comes_68 (lv_at hl 4 rfl) ?_
  refine lv_imul hx hb dX8_comes_70 ?_
  refine lv_iadd hx hb dX8_comes_71 ?_
  refine lv_goto (tgt := 76) hx hb dX8_comes_72 (by decide) ?_
  exact lX8_comes_76 C hE hA hret (x0 + (9 * l4)) l1 l2 l3 l4 m_thr m_rea m_det m_ref v_ms ⟨hP, hD⟩ hS _ (lv_sub hl [0, 1, 2, 3, 4] rfl) h
set_option maxHeartbeats 4000000 in
set_option maxRecDepth 100000 in
theorem lX8_comes_33 {p : Program} {l : Launch} {e : Env} {s : State} {m : MethodId} {args : Array Value} {below : List Frame} {meth : Method} {c : Code} {Q : State → Prop} {D : va_G} {T : Nat → ClassId} {a_m a_ms a_mw a_mv a_mp a_mf a_ml a_mt a_mc : Nat} {m_chg : Int32} {m_err : Int32} {m_ans : Int32} {m_sav : Int32} {m_net : Int32} {m_lin : Int32} {m_tap : Int32} {m_her : Int32} {m_cmd : Int32} {A : Nat → Prop} {r : Int32 × Int32 × Int32 × Int32 × Int32 × (Nat → Int32)} (C : CallFix p m c cX8_comes 8 s args aw RX8) (hE : eK D T s) (hA : ∀ q : Nat, s.heap.size ≤ q → A q) (hret : WrRet p l e ({ frames := 2, cells := 0, slots := 0, locals := 45 } : Room) s m args below meth c Q cX8_comes .int D A [(a_m, .inr (8, [.ref a_ms, .ref a_mw, .ref a_mv, .ref a_mp, .ref a_mf, .int m_chg, .int r.2.1, .int r.2.2.1, .int r.2.2.2.1, .int r.2.2.2.2.1, .int m_err, .int m_ans, .int m_sav, .int m_net, .ref a_ml, .int m_lin, .ref a_mt, .ref a_mc, .int m_tap, .int m_her, .int m_cmd])), (a_ms, .inl (T 0, 103, .inl r.2.2.2.2.2))] r.1) (x1 : Int32) (l1 : Int32) (l2 : Int32) (l3 : Int32) (m_thr : Int32) (m_rea : Int32) (m_det : Int32) (m_ref : Int32) (v_ms : Nat → Int32) {H : Heap} {locs : List Loc} (hPD : va_PD D A [(a_m, .inr (8, [.ref a_ms, .ref a_mw, .ref a_mv, .ref a_mp, .ref a_mf, .int m_chg, .int m_thr, .int m_rea, .int m_det, .int m_ref, .int m_err, .int m_ans, .int m_sav, .int m_net, .ref a_ml, .int m_lin, .ref a_mt, .ref a_mc, .int m_tap, .int m_her, .int m_cmd])), (a_ms, .inl (T 0, 103, .inl v_ms))] H) (hS : va_S A s.heap H locs) (ls : Array Slot) (hl : lv_has ls 8 [(0, .ref a_m), (1, .int l1), (2, .int l2), (3, .int l3)]) (h : fX8_comes_33 x1 l1 l2 l3 m_thr m_rea m_det m_ref v_ms = some r) : W p l e ({ frames := 2, cells := 0, slots := 0, locals := 45 } : Room) s m args below meth c H locs 0 0 Q (F0 m 33 ls [.int x1, .ref a_m]) := by
  have hx := C.1
  have hb := C.2.1
  obtain ⟨hP, hD⟩ := hPD
  unfold fX8_comes_33 at h
  refine lv_iconst (v := 1) hx hb dX8_comes_33 (by decide) ?_
  replace h := bnd h; obtain ⟨q4, e5, h⟩ := h
  refine wrVi (ws1 := [(a_m, .inr (8, [.ref a_ms, .ref a_mw, .ref a_mv, .ref a_mp, .ref a_mf, .int m_chg, .int q4.2, .int m_rea, .int m_det, .int m_ref, .int m_err, .int m_ans, .int m_sav, .int m_net, .ref a_ml, .int m_lin, .ref a_mt, .ref a_mc, .int m_tap, .int m_her, .int m_cmd])), (a_ms, .inl (T 0, 103, .inl v_ms))]) C hE hP hD hS hA (kX8_isThrown l D T a_m a_ms a_mw a_mv a_mp a_mf a_ml a_mt a_mc m_chg m_thr m_rea m_det m_ref m_err m_ans m_sav m_net m_lin m_tap m_her m_cmd x1 1 _ q4 e5) mX8_isThrown qLX8_80 [0] [1] 0 rfl rfl rfl rfl rfl rfl rfl rfl rfl ⟨rfl, rfl⟩ ⟨Nat.le_of_ble_eq_true rfl, Nat.le_of_ble_eq_true rfl⟩ rfl hl.1 rfl (Nat.le_of_ble_eq_true rfl) dX8_comes_34 ⟨Nat.le_of_ble_eq_true rfl, Nat.le_of_ble_eq_true rfl⟩ ?_; clear hP hD hS; intro H locs hP hD hS
  refine lv_if_eq (tgt := 42) hx hb dX8_comes_37 (by decide) (fun c6 => ?_) (fun c6 => ?_)
  · replace h := ite_t c6 h
    refine lv_aload_n hx hb dX8_comes_42 rfl (lv_at hl 0 rfl) ?_
    refine lv_iload_n hx hb dX8_comes_43 rfl (lv_at hl 1 rfl) ?_
    replace h := bnd h; obtain ⟨q7, e8, h⟩ := h
    refine rdV C hE hP (kX8_ofTeam l D T a_m a_ms a_mw a_mv a_mp a_mf a_ml a_mt a_mc m_chg q4.2 m_rea m_det m_ref m_err m_ans m_sav m_net m_lin m_tap m_her m_cmd v_ms l1 q7 e8) mX8_ofTeam qLX8_96 [0, 1] 0 rfl rfl rfl rfl ⟨rfl, rfl⟩ ⟨Nat.le_of_ble_eq_true rfl, Nat.le_of_ble_eq_true rfl⟩ rfl hl.1 rfl (Nat.le_of_ble_eq_true rfl) dX8_comes_44 ⟨Nat.le_of_ble_eq_true rfl, Nat.le_of_ble_eq_true rfl⟩ ?_
    refine lv_istore (lv' := [(4, .int q7), (0, .ref a_m), (1, .int l1), (2, .int l2), (3, .int l3)]) hx hb dX8_comes_47 hl (by decide) rfl (fun ls hl => ?_)
    refine lv_iload hx hb dX8_comes_49 (lv_at hl 0 rfl) ?_
    refine lv_iconst (v := 3) hx hb dX8_comes_51 (by decide) ?_
    refine lv_icmp_ge (tgt := 75) hx hb dX8_comes_52 (by decide) (fun c9 => ?_) (fun c9 => ?_)
    · replace h := ite_t c9 h
      refine lv_iconst (v := (-1)) hx hb dX8_comes_75 (by decide) ?_
      exact lX8_comes_76 C hE hA hret (-1) l1 l2 l3 q7 q4.2 m_rea m_det m_ref v_ms ⟨hP, hD⟩ hS _ (lv_sub hl [1, 2, 3, 4, 0] rfl) h
    · replace h := ite_f c9 h
      refine lv_iload_n hx hb dX8_comes_55 rfl (lv_at hl 2 rfl) ?_
      refine lv_if_ne (tgt := 64) hx hb dX8_comes_56 (by decide) (fun c10 => ?_) (fun c10 => ?_)
      · rw [if_neg c10] at h
        refine lv_bipush (v := 16) hx hb dX8_comes_64 (by decide) ?_
        exact lX8_comes_66 C hE hA hret 16 l1 l2 l3 q7 q4.2 m_rea m_det m_ref v_ms ⟨hP, hD⟩ hS _ (lv_sub hl [1, 2, 3, 4, 0] rfl) h
      · rw [if_pos c10] at h
        refine lv_bipush (v := 10) hx hb dX8_comes_59 (by decide) ?_
        refine lv_goto (tgt := 66) hx hb dX8_comes_61 (by decide) ?_
        exact lX8_comes_66 C hE hA hret 10 l1 l2 l3 q7 q4.2 m_rea m_det m_ref v_ms ⟨hP, hD⟩ hS _ (lv_sub hl [1, 2, 3, 4, 0] rfl) h
  · replace h := ite_f c6 h
    refine lv_iconst (v := 0) hx hb dX8_comes_40 (by decide) ?_
    replace h := Option.some.inj h
    exact hret _ _ _ _ _ _ dX8_comes_41 rfl (by rw [← h] <;> rfl) (by rw [← h]; exact hP) hS
set_option maxHeartbeats 4000000 in
set_option maxRecDepth 100000 in
theorem kX8_comes (l : Launch) (D : va_G) (T : Nat → ClassId) (a_m a_ms a_mw a_mv a_mp a_mf a_ml a_mt a_mc : Nat) (m_chg : Int32) (m_thr : Int32) (m_rea : Int32) (m_det : Int32) (m_ref : Int32) (m_err : Int32) (m_ans : Int32) (m_sav : Int32) (m_net : Int32) (m_lin : Int32) (m_tap : Int32) (m_her : Int32) (m_cmd : Int32) (v_ms : Nat → Int32) (p0 : Int32) (p1 : Int32) (p2 : Int32) (sz : Nat) (r : Int32 × Int32 × Int32 × Int32 × Int32 × (Nat → Int32)) (h : fX8_comes m_thr m_rea m_det m_ref v_ms p0 p1 p2 = some r) : WrI l yX8_comes cX8_comes 8 .int ({ frames := 2, cells := 0, slots := 0, locals := 45 } : Room) D T sz [(a_m, .inr (8, [.ref a_ms, .ref a_mw, .ref a_mv, .ref a_mp, .ref a_mf, .int m_chg, .int m_thr, .int m_rea, .int m_det, .int m_ref, .int m_err, .int m_ans, .int m_sav, .int m_net, .ref a_ml, .int m_lin, .ref a_mt, .ref a_mc, .int m_tap, .int m_her, .int m_cmd])), (a_ms, .inl (T 0, 103, .inl v_ms))] [(a_m, .inr (8, [.ref a_ms, .ref a_mw, .ref a_mv, .ref a_mp, .ref a_mf, .int m_chg, .int r.2.1, .int r.2.2.1, .int r.2.2.2.1, .int r.2.2.2.2.1, .int m_err, .int m_ans, .int m_sav, .int m_net, .ref a_ml, .int m_lin, .ref a_mt, .ref a_mc, .int m_tap, .int m_her, .int m_cmd])), (a_ms, .inl (T 0, 103, .inl r.2.2.2.2.2))] [.ref a_m, .int p0, .int p1, .int p2] r.1 := by
  unfold fX8_comes at h
  refine wrMet (by decide +kernel) rfl (fun p e s m args below meth c Q A C hE hA hP hD hS hret ls hl => ?_)
  have hx := C.1
  have hb := C.2.1
  have hl : lv_has ls 8 [(0, .ref a_m), (1, .int p0), (2, .int p1), (3, .int p2)] := hl
  refine lv_aload_n hx hb dX8_comes_0 rfl (lv_at hl 0 rfl) ?_
  refine lv_iload_n hx hb dX8_comes_1 rfl (lv_at hl 1 rfl) ?_
  refine lv_iconst (v := 0) hx hb dX8_comes_2 (by decide) ?_
  refine lv_iconst (v := 1) hx hb dX8_comes_3 (by decide) ?_
  refine rdS C hE hP (kX8_isIn l D T p0 0 1) mX8_isIn qLX8_60 [] rfl ⟨rfl, rfl⟩ ⟨Nat.le_of_ble_eq_true rfl, Nat.le_of_ble_eq_true rfl⟩ rfl hl.1 rfl (Nat.le_of_ble_eq_true rfl) dX8_comes_4 ⟨Nat.le_of_ble_eq_true rfl, Nat.le_of_ble_eq_true rfl⟩ ?_
  refine lv_if_eq (tgt := 28) hx hb dX8_comes_7 (by decide) (fun c1 => ?_) (fun c1 => ?_)
  · rw [if_pos c1] at h
    refine lv_iconst (v := 1) hx hb dX8_comes_28 (by decide) ?_
    refine lv_goto (tgt := 33) hx hb dX8_comes_29 (by decide) ?_
    exact lX8_comes_33 C hE hA hret 1 p0 p1 p2 m_thr m_rea m_det m_ref v_ms ⟨hP, hD⟩ hS _ (lv_sub hl [0, 1, 2, 3] rfl) h
  · rw [if_neg c1] at h
    refine lv_iload_n hx hb dX8_comes_10 rfl (lv_at hl 2 rfl) ?_
    refine lv_iconst (v := 1) hx hb dX8_comes_11 (by decide) ?_
    refine lv_iconst (v := 5) hx hb dX8_comes_12 (by decide) ?_
    refine rdS C hE hP (kX8_isIn l D T p1 1 5) mX8_isIn qLX8_60 [] rfl ⟨rfl, rfl⟩ ⟨Nat.le_of_ble_eq_true rfl, Nat.le_of_ble_eq_true rfl⟩ rfl hl.1 rfl (Nat.le_of_ble_eq_true rfl) dX8_comes_13 ⟨Nat.le_of_ble_eq_true rfl, Nat.le_of_ble_eq_true rfl⟩ ?_
    refine lv_if_eq (tgt := 28) hx hb dX8_comes_16 (by decide) (fun c2 => ?_) (fun c2 => ?_)
    · rw [if_pos c2] at h
      refine lv_iconst (v := 1) hx hb dX8_comes_28 (by decide) ?_
      refine lv_goto (tgt := 33) hx hb dX8_comes_29 (by decide) ?_
      exact lX8_comes_33 C hE hA hret 1 p0 p1 p2 m_thr m_rea m_det m_ref v_ms ⟨hP, hD⟩ hS _ (lv_sub hl [0, 1, 2, 3] rfl) h
    · rw [if_neg c2] at h
      refine lv_iload_n hx hb dX8_comes_19 rfl (lv_at hl 3 rfl) ?_
      refine lv_iconst (v := 1) hx hb dX8_comes_20 (by decide) ?_
      refine lv_iconst (v := 4) hx hb dX8_comes_21 (by decide) ?_
      refine rdS C hE hP (kX8_isIn l D T p2 1 4) mX8_isIn qLX8_60 [] rfl ⟨rfl, rfl⟩ ⟨Nat.le_of_ble_eq_true rfl, Nat.le_of_ble_eq_true rfl⟩ rfl hl.1 rfl (Nat.le_of_ble_eq_true rfl) dX8_comes_22 ⟨Nat.le_of_ble_eq_true rfl, Nat.le_of_ble_eq_true rfl⟩ ?_
      refine lv_if_ne (tgt := 32) hx hb dX8_comes_25 (by decide) (fun c3 => ?_) (fun c3 => ?_)
      · rw [if_neg c3] at h
        refine lv_iconst (v := 0) hx hb dX8_comes_32 (by decide) ?_
        exact lX8_comes_33 C hE hA hret 0 p0 p1 p2 m_thr m_rea m_det m_ref v_ms ⟨hP, hD⟩ hS _ (lv_sub hl [0, 1, 2, 3] rfl) h
      · rw [if_pos c3] at h
        refine lv_iconst (v := 1) hx hb dX8_comes_28 (by decide) ?_
        refine lv_goto (tgt := 33) hx hb dX8_comes_29 (by decide) ?_
        exact lX8_comes_33 C hE hA hret 1 p0 p1 p2 m_thr m_rea m_det m_ref v_ms ⟨hP, hD⟩ hS _ (lv_sub hl [0, 1, 2, 3] rfl) h

def fX8_whale (m_chg : Int32) (m_thr : Int32) (m_rea : Int32) (m_det : Int32) (m_ref : Int32) (v_ms : Nat → Int32) (v_mw : Nat → Int32) (v_mp : Nat → Int32) (p0 : Int32) (p1 : Int32) (p2 : Int32) : Option (Int32 × Int32 × Int32 × Int32 × Int32 × Int32 × (Nat → Int32) × (Nat → Int32) × (Nat → Int32)) :=
  (fX8_keeps m_thr v_ms v_mw).bind fun q1 =>
  (fX8_comes q1.1 m_rea m_det m_ref v_ms p0 p1 p2).bind fun q3 =>
  (fX8_ends m_chg q3.2.1 q1.2 v_mp q3.1 2).bind fun q5 =>
  some (q5.1, q5.2.1, q5.2.2.1, q3.2.2.1, q3.2.2.2.1, q3.2.2.2.2.1, q3.2.2.2.2.2, q1.2, q5.2.2.2)
set_option maxHeartbeats 4000000 in
set_option maxRecDepth 100000 in
theorem kX8_whale (l : Launch) (D : va_G) (T : Nat → ClassId) (a_m a_ms a_mw a_mv a_mp a_mf a_ml a_mt a_mc : Nat) (m_chg : Int32) (m_thr : Int32) (m_rea : Int32) (m_det : Int32) (m_ref : Int32) (m_err : Int32) (m_ans : Int32) (m_sav : Int32) (m_net : Int32) (m_lin : Int32) (m_tap : Int32) (m_her : Int32) (m_cmd : Int32) (v_ms : Nat → Int32) (v_mw : Nat → Int32) (v_mp : Nat → Int32) (p0 : Int32) (p1 : Int32) (p2 : Int32) (sz : Nat) (r : Int32 × Int32 × Int32 × Int32 × Int32 × Int32 × (Nat → Int32) × (Nat → Int32) × (Nat → Int32)) (h : fX8_whale m_chg m_thr m_rea m_det m_ref v_ms v_mw v_mp p0 p1 p2 = some r) : WrI l yX8_whale cX8_whale 4 .int ({ frames := 3, cells := 0, slots := 0, locals := 72 } : Room) D T sz [(a_m, .inr (8, [.ref a_ms, .ref a_mw, .ref a_mv, .ref a_mp, .ref a_mf, .int m_chg, .int m_thr, .int m_rea, .int m_det, .int m_ref, .int m_err, .int m_ans, .int m_sav, .int m_net, .ref a_ml, .int m_lin, .ref a_mt, .ref a_mc, .int m_tap, .int m_her, .int m_cmd])), (a_ms, .inl (T 0, 103, .inl v_ms)), (a_mw, .inl (T 0, 103, .inl v_mw)), (a_mp, .inl (T 0, 618, .inl v_mp))] [(a_m, .inr (8, [.ref a_ms, .ref a_mw, .ref a_mv, .ref a_mp, .ref a_mf, .int r.2.1, .int r.2.2.1, .int r.2.2.2.1, .int r.2.2.2.2.1, .int r.2.2.2.2.2.1, .int m_err, .int m_ans, .int m_sav, .int m_net, .ref a_ml, .int m_lin, .ref a_mt, .ref a_mc, .int m_tap, .int m_her, .int m_cmd])), (a_ms, .inl (T 0, 103, .inl r.2.2.2.2.2.2.1)), (a_mw, .inl (T 0, 103, .inl r.2.2.2.2.2.2.2.1)), (a_mp, .inl (T 0, 618, .inl r.2.2.2.2.2.2.2.2))] [.ref a_m, .int p0, .int p1, .int p2] r.1 := by
  unfold fX8_whale at h
  refine wrMet (by decide +kernel) rfl (fun p e s m args below meth c Q A C hE hA hP hD hS hret ls hl => ?_)
  have hx := C.1
  have hb := C.2.1
  have hl : lv_has ls 4 [(0, .ref a_m), (1, .int p0), (2, .int p1), (3, .int p2)] := hl
  refine lv_aload_n hx hb dX8_whale_0 rfl (lv_at hl 0 rfl) ?_
  replace h := bnd h; obtain ⟨q1, e2, h⟩ := h
  refine wrVv (ws1 := [(a_m, .inr (8, [.ref a_ms, .ref a_mw, .ref a_mv, .ref a_mp, .ref a_mf, .int m_chg, .int q1.1, .int m_rea, .int m_det, .int m_ref, .int m_err, .int m_ans, .int m_sav, .int m_net, .ref a_ml, .int m_lin, .ref a_mt, .ref a_mc, .int m_tap, .int m_her, .int m_cmd])), (a_ms, .inl (T 0, 103, .inl v_ms)), (a_mw, .inl (T 0, 103, .inl q1.2)), (a_mp, .inl (T 0, 618, .inl v_mp))]) C hE hP hD hS hA (kX8_keeps l D T a_m a_ms a_mw a_mv a_mp a_mf a_ml a_mt a_mc m_chg m_thr m_rea m_det m_ref m_err m_ans m_sav m_net m_lin m_tap m_her m_cmd v_ms v_mw _ q1 e2) mX8_keeps qLX8_107 [0, 1, 2] [3] 0 rfl rfl rfl rfl rfl rfl rfl rfl rfl ⟨rfl, rfl⟩ ⟨Nat.le_of_ble_eq_true rfl, Nat.le_of_ble_eq_true rfl⟩ rfl hl.1 rfl (Nat.le_of_ble_eq_true rfl) dX8_whale_1 ⟨Nat.le_of_ble_eq_true rfl, Nat.le_of_ble_eq_true rfl⟩ ?_; clear hP hD hS; intro H locs hP hD hS
  refine lv_aload_n hx hb dX8_whale_4 rfl (lv_at hl 0 rfl) ?_
  refine lv_aload_n hx hb dX8_whale_5 rfl (lv_at hl 0 rfl) ?_
  refine lv_iload_n hx hb dX8_whale_6 rfl (lv_at hl 1 rfl) ?_
  refine lv_iload_n hx hb dX8_whale_7 rfl (lv_at hl 2 rfl) ?_
  refine lv_iload_n hx hb dX8_whale_8 rfl (lv_at hl 3 rfl) ?_
  replace h := bnd h; obtain ⟨q3, e4, h⟩ := h
  refine wrVi (ws1 := [(a_m, .inr (8, [.ref a_ms, .ref a_mw, .ref a_mv, .ref a_mp, .ref a_mf, .int m_chg, .int q3.2.1, .int q3.2.2.1, .int q3.2.2.2.1, .int q3.2.2.2.2.1, .int m_err, .int m_ans, .int m_sav, .int m_net, .ref a_ml, .int m_lin, .ref a_mt, .ref a_mc, .int m_tap, .int m_her, .int m_cmd])), (a_ms, .inl (T 0, 103, .inl q3.2.2.2.2.2)), (a_mw, .inl (T 0, 103, .inl q1.2)), (a_mp, .inl (T 0, 618, .inl v_mp))]) C hE hP hD hS hA (kX8_comes l D T a_m a_ms a_mw a_mv a_mp a_mf a_ml a_mt a_mc m_chg q1.1 m_rea m_det m_ref m_err m_ans m_sav m_net m_lin m_tap m_her m_cmd v_ms p0 p1 p2 _ q3 e4) mX8_comes qLX8_110 [0, 1] [2, 3] 0 rfl rfl rfl rfl rfl rfl rfl rfl rfl ⟨rfl, rfl⟩ ⟨Nat.le_of_ble_eq_true rfl, Nat.le_of_ble_eq_true rfl⟩ rfl hl.1 rfl (Nat.le_of_ble_eq_true rfl) dX8_whale_9 ⟨Nat.le_of_ble_eq_true rfl, Nat.le_of_ble_eq_true rfl⟩ ?_; clear hP hD hS; intro H locs hP hD hS
  refine lv_iconst (v := 2) hx hb dX8_whale_12 (by decide) ?_
  replace h := bnd h; obtain ⟨q5, e6, h⟩ := h
  refine wrVi (ws1 := [(a_m, .inr (8, [.ref a_ms, .ref a_mw, .ref a_mv, .ref a_mp, .ref a_mf, .int q5.2.1, .int q5.2.2.1, .int q3.2.2.1, .int q3.2.2.2.1, .int q3.2.2.2.2.1, .int m_err, .int m_ans, .int m_sav, .int m_net, .ref a_ml, .int m_lin, .ref a_mt, .ref a_mc, .int m_tap, .int m_her, .int m_cmd])), (a_ms, .inl (T 0, 103, .inl q3.2.2.2.2.2)), (a_mw, .inl (T 0, 103, .inl q1.2)), (a_mp, .inl (T 0, 618, .inl q5.2.2.2))]) C hE hP hD hS hA (kX8_ends l D T a_m a_ms a_mw a_mv a_mp a_mf a_ml a_mt a_mc m_chg q3.2.1 q3.2.2.1 q3.2.2.2.1 q3.2.2.2.2.1 m_err m_ans m_sav m_net m_lin m_tap m_her m_cmd q1.2 v_mp q3.1 2 _ q5 e6) mX8_ends qLX8_114 [0, 2, 3] [1] 0 rfl rfl rfl rfl rfl rfl rfl rfl rfl ⟨rfl, rfl⟩ ⟨Nat.le_of_ble_eq_true rfl, Nat.le_of_ble_eq_true rfl⟩ rfl hl.1 rfl (Nat.le_of_ble_eq_true rfl) dX8_whale_13 ⟨Nat.le_of_ble_eq_true rfl, Nat.le_of_ble_eq_true rfl⟩ ?_; clear hP hD hS; intro H locs hP hD hS
  replace h := Option.some.inj h
  exact hret _ _ _ _ _ _ dX8_whale_16 rfl (by rw [← h] <;> rfl) (by rw [← h]; exact hP) hS

def fX8_strokes_57 : Nat → Int32 → Int32 → (Nat → Int32) → Option (Int32 × (Nat → Int32))
  | 0, _, _, _ => none
  | k + 1, l1, l2, v_ms =>
    if vin 0 103 = true then
    if (v_ms (0 : Int32).toNatClampNeg) ≤ l2 then
      some (l1, v_ms)
    else
      (fX8_sets v_ms l2 5 0).bind fun q11 =>
      (fX8_of q11 l2 3).bind fun q13 =>
      (fX8_sets q11 l2 3 (fX8_lesser 20 (q13 + 5))).bind fun q15 =>
      fX8_strokes_57 k l1 (l2 + 1) q15
    else none
def fX8_strokes (v_ms : Nat → Int32) (p0 : Int32) : Option (Int32 × (Nat → Int32)) :=
  if vin 1 103 = true then
  if vin 1 103 = true then
  if vin 1 103 = true then
  if (((upd v_ms (1 : Int32).toNatClampNeg ((v_ms (1 : Int32).toNatClampNeg) + 1)) (1 : Int32).toNatClampNeg) - ((upd v_ms (1 : Int32).toNatClampNeg ((v_ms (1 : Int32).toNatClampNeg) + 1)) (1 : Int32).toNatClampNeg) / 12 * 12) = 0 then
    if vin 2 103 = true then
    if vin 3 103 = true then
    if vin 11 103 = true then
    if vin 12 103 = true then
    fX8_strokes_57 64 p0 0 (upd (upd (upd (upd (upd v_ms (1 : Int32).toNatClampNeg ((v_ms (1 : Int32).toNatClampNeg) + 1)) (2 : Int32).toNatClampNeg 22) (3 : Int32).toNatClampNeg (-1)) (11 : Int32).toNatClampNeg 0) (12 : Int32).toNatClampNeg 0)
    else none
    else none
    else none
    else none
  else
    some (p0, (upd v_ms (1 : Int32).toNatClampNeg ((v_ms (1 : Int32).toNatClampNeg) + 1)))
  else none
  else none
  else none
set_option maxHeartbeats 4000000 in
set_option maxRecDepth 100000 in
theorem lX8_strokes_57 {p : Program} {l : Launch} {e : Env} {s : State} {m : MethodId} {args : Array Value} {below : List Frame} {meth : Method} {c : Code} {Q : State → Prop} {D : va_G} {T : Nat → ClassId} {a_m a_ms a_mw a_mv a_mp a_mf a_ml a_mt a_mc : Nat} {m_chg : Int32} {m_thr : Int32} {m_rea : Int32} {m_det : Int32} {m_ref : Int32} {m_err : Int32} {m_ans : Int32} {m_sav : Int32} {m_net : Int32} {m_lin : Int32} {m_tap : Int32} {m_her : Int32} {m_cmd : Int32} {A : Nat → Prop} {r : Int32 × (Nat → Int32)} (C : CallFix p m c cX8_strokes 3 s args aw RX8) (hE : eK D T s) (hA : ∀ q : Nat, s.heap.size ≤ q → A q) (hret : WrRet p l e ({ frames := 1, cells := 0, slots := 0, locals := 23 } : Room) s m args below meth c Q cX8_strokes .int D A [(a_m, .inr (8, [.ref a_ms, .ref a_mw, .ref a_mv, .ref a_mp, .ref a_mf, .int m_chg, .int m_thr, .int m_rea, .int m_det, .int m_ref, .int m_err, .int m_ans, .int m_sav, .int m_net, .ref a_ml, .int m_lin, .ref a_mt, .ref a_mc, .int m_tap, .int m_her, .int m_cmd])), (a_ms, .inl (T 0, 103, .inl r.2))] r.1) : ∀ (k : Nat) (l1 : Int32) (l2 : Int32) (v_ms : Nat → Int32) {H : Heap} {locs : List Loc} (hPD : va_PD D A [(a_m, .inr (8, [.ref a_ms, .ref a_mw, .ref a_mv, .ref a_mp, .ref a_mf, .int m_chg, .int m_thr, .int m_rea, .int m_det, .int m_ref, .int m_err, .int m_ans, .int m_sav, .int m_net, .ref a_ml, .int m_lin, .ref a_mt, .ref a_mc, .int m_tap, .int m_her, .int m_cmd])), (a_ms, .inl (T 0, 103, .inl v_ms))] H) (hS : va_S A s.heap H locs) (ls : Array Slot) (hl : lv_has ls 3 [(0, .ref a_m), (1, .int l1), (2, .int l2)]) (h : fX8_strokes_57 k l1 l2 v_ms = some r), W p l e ({ frames := 1, cells := 0, slots := 0, locals := 23 } : Room) s m args below meth c H locs 0 0 Q (F0 m 57 ls []) := by
  have hx := C.1
  have hb := C.2.1
  intro k
  induction k with
  | zero =>
    intro l1 l2 v_ms H locs hPD hS ls hl h
    exact nomatch (show (none : Option (Int32 × (Nat → Int32))) = some r from h)
  | succ k ih =>
    intro l1 l2 v_ms H locs hPD hS ls hl h
    obtain ⟨hP, hD⟩ := hPD
    rw [fX8_strokes_57] at h
    refine lv_iload_n hx hb dX8_strokes_57 rfl (lv_at hl 2 rfl) ?_
    refine lv_aload_n hx hb dX8_strokes_58 rfl (lv_at hl 0 rfl) ?_
    refine getF (q0 := 0) (k0 := 0) (v := .ref a_ms) C hE hP inA8 rfl rfl (by decide) qFX8_9 rfl rfl dX8_strokes_59 ?_
    refine lv_iconst (v := 0) hx hb dX8_strokes_62 (by decide) ?_
    replace h := gd h; obtain ⟨g9, h⟩ := h
    refine aldI (q0 := 1) C hE hP rfl g9 dX8_strokes_63 ?_
    refine lv_icmp_ge (tgt := 99) hx hb dX8_strokes_64 (by decide) (fun c10 => ?_) (fun c10 => ?_)
    · replace h := ite_t c10 h
      refine lv_iload_n hx hb dX8_strokes_99 rfl (lv_at hl 1 rfl) ?_
      replace h := Option.some.inj h
      exact hret _ _ _ _ _ _ dX8_strokes_100 rfl (by rw [← h] <;> rfl) (by rw [← h]; exact hP) hS
    · replace h := ite_f c10 h
      refine lv_aload_n hx hb dX8_strokes_67 rfl (lv_at hl 0 rfl) ?_
      refine lv_iload_n hx hb dX8_strokes_68 rfl (lv_at hl 2 rfl) ?_
      refine lv_iconst (v := 5) hx hb dX8_strokes_69 (by decide) ?_
      refine lv_iconst (v := 0) hx hb dX8_strokes_70 (by decide) ?_
      replace h := bnd h; obtain ⟨q11, e12, h⟩ := h
      refine wrVv (ws1 := [(a_m, .inr (8, [.ref a_ms, .ref a_mw, .ref a_mv, .ref a_mp, .ref a_mf, .int m_chg, .int m_thr, .int m_rea, .int m_det, .int m_ref, .int m_err, .int m_ans, .int m_sav, .int m_net, .ref a_ml, .int m_lin, .ref a_mt, .ref a_mc, .int m_tap, .int m_her, .int m_cmd])), (a_ms, .inl (T 0, 103, .inl q11))]) C hE hP hD hS hA (kX8_sets l D T a_m a_ms a_mw a_mv a_mp a_mf a_ml a_mt a_mc m_chg m_thr m_rea m_det m_ref m_err m_ans m_sav m_net m_lin m_tap m_her m_cmd v_ms l2 5 0 _ q11 e12) mX8_sets qLX8_103 [0, 1] [] 0 rfl rfl rfl rfl rfl rfl rfl rfl rfl ⟨rfl, rfl⟩ ⟨Nat.le_of_ble_eq_true rfl, Nat.le_of_ble_eq_true rfl⟩ rfl hl.1 rfl (Nat.le_of_ble_eq_true rfl) dX8_strokes_71 ⟨Nat.le_of_ble_eq_true rfl, Nat.le_of_ble_eq_true rfl⟩ ?_; clear hP hD hS; intro H locs hP hD hS
      refine lv_aload_n hx hb dX8_strokes_74 rfl (lv_at hl 0 rfl) ?_
      refine lv_iload_n hx hb dX8_strokes_75 rfl (lv_at hl 2 rfl) ?_
      refine lv_iconst (v := 3) hx hb dX8_strokes_76 (by decide) ?_
      refine lv_bipush (v := 20) hx hb dX8_strokes_77 (by decide) ?_
      refine lv_aload_n hx hb dX8_strokes_79 rfl (lv_at hl 0 rfl) ?_
      refine lv_iload_n hx hb dX8_strokes_80 rfl (lv_at hl 2 rfl) ?_
      refine lv_iconst (v := 3) hx hb dX8_strokes_81 (by decide) ?_
      replace h := bnd h; obtain ⟨q13, e14, h⟩ := h
      refine rdV C hE hP (kX8_of l D T a_m a_ms a_mw a_mv a_mp a_mf a_ml a_mt a_mc m_chg m_thr m_rea m_det m_ref m_err m_ans m_sav m_net m_lin m_tap m_her m_cmd q11 l2 3 q13 e14) mX8_of qLX8_90 [0, 1] 0 rfl rfl rfl rfl ⟨rfl, rfl⟩ ⟨Nat.le_of_ble_eq_true rfl, Nat.le_of_ble_eq_true rfl⟩ rfl hl.1 rfl (Nat.le_of_ble_eq_true rfl) dX8_strokes_82 ⟨Nat.le_of_ble_eq_true rfl, Nat.le_of_ble_eq_true rfl⟩ ?_
      refine lv_iconst (v := 5) hx hb dX8_strokes_85 (by decide) ?_
      refine lv_iadd hx hb dX8_strokes_86 ?_
      refine rdS C hE hP (kX8_lesser l D T 20 (q13 + 5)) mX8_lesser qLX8_117 [] rfl ⟨rfl, rfl⟩ ⟨Nat.le_of_ble_eq_true rfl, Nat.le_of_ble_eq_true rfl⟩ rfl hl.1 rfl (Nat.le_of_ble_eq_true rfl) dX8_strokes_87 ⟨Nat.le_of_ble_eq_true rfl, Nat.le_of_ble_eq_true rfl⟩ ?_
      replace h := bnd h; obtain ⟨q15, e16, h⟩ := h
      refine wrVv (ws1 := [(a_m, .inr (8, [.ref a_ms, .ref a_mw, .ref a_mv, .ref a_mp, .ref a_mf, .int m_chg, .int m_thr, .int m_rea, .int m_det, .int m_ref, .int m_err, .int m_ans, .int m_sav, .int m_net, .ref a_ml, .int m_lin, .ref a_mt, .ref a_mc, .int m_tap, .int m_her, .int m_cmd])), (a_ms, .inl (T 0, 103, .inl q15))]) C hE hP hD hS hA (kX8_sets l D T a_m a_ms a_mw a_mv a_mp a_mf a_ml a_mt a_mc m_chg m_thr m_rea m_det m_ref m_err m_ans m_sav m_net m_lin m_tap m_her m_cmd q11 l2 3 (fX8_lesser 20 (q13 + 5)) _ q15 e16) mX8_sets qLX8_103 [0, 1] [] 0 rfl rfl rfl rfl rfl rfl rfl rfl rfl ⟨rfl, rfl⟩ ⟨Nat.le_of_ble_eq_true rfl, Nat.le_of_ble_eq_true rfl⟩ rfl hl.1 rfl (Nat.le_of_ble_eq_true rfl) dX8_strokes_90 ⟨Nat.le_of_ble_eq_true rfl, Nat.le_of_ble_eq_true rfl⟩ ?_; clear hP hD hS; intro H locs hP hD hS
      refine lv_iinc (v := (l2 + 1)) (lv' := [(2, .int (l2 + 1)), (0, .ref a_m), (1, .int l1)]) hx hb dX8_strokes_93 hl (k := 2) rfl rfl (by decide) rfl (fun ls hl => ?_)
      refine lv_goto (tgt := 57) hx hb dX8_strokes_96 (by decide) ?_
      exact ih l1 (l2 + 1) q15 ⟨hP, hD⟩ hS _ (lv_sub hl [1, 2, 0] rfl) h
set_option maxHeartbeats 4000000 in
set_option maxRecDepth 100000 in
theorem kX8_strokes (l : Launch) (D : va_G) (T : Nat → ClassId) (a_m a_ms a_mw a_mv a_mp a_mf a_ml a_mt a_mc : Nat) (m_chg : Int32) (m_thr : Int32) (m_rea : Int32) (m_det : Int32) (m_ref : Int32) (m_err : Int32) (m_ans : Int32) (m_sav : Int32) (m_net : Int32) (m_lin : Int32) (m_tap : Int32) (m_her : Int32) (m_cmd : Int32) (v_ms : Nat → Int32) (p0 : Int32) (sz : Nat) (r : Int32 × (Nat → Int32)) (h : fX8_strokes v_ms p0 = some r) : WrI l yX8_strokes cX8_strokes 3 .int ({ frames := 1, cells := 0, slots := 0, locals := 23 } : Room) D T sz [(a_m, .inr (8, [.ref a_ms, .ref a_mw, .ref a_mv, .ref a_mp, .ref a_mf, .int m_chg, .int m_thr, .int m_rea, .int m_det, .int m_ref, .int m_err, .int m_ans, .int m_sav, .int m_net, .ref a_ml, .int m_lin, .ref a_mt, .ref a_mc, .int m_tap, .int m_her, .int m_cmd])), (a_ms, .inl (T 0, 103, .inl v_ms))] [(a_m, .inr (8, [.ref a_ms, .ref a_mw, .ref a_mv, .ref a_mp, .ref a_mf, .int m_chg, .int m_thr, .int m_rea, .int m_det, .int m_ref, .int m_err, .int m_ans, .int m_sav, .int m_net, .ref a_ml, .int m_lin, .ref a_mt, .ref a_mc, .int m_tap, .int m_her, .int m_cmd])), (a_ms, .inl (T 0, 103, .inl r.2))] [.ref a_m, .int p0] r.1 := by
  unfold fX8_strokes at h
  refine wrMet (by decide +kernel) rfl (fun p e s m args below meth c Q A C hE hA hP hD hS hret ls hl => ?_)
  have hx := C.1
  have hb := C.2.1
  have hl : lv_has ls 3 [(0, .ref a_m), (1, .int p0)] := hl
  refine lv_aload_n hx hb dX8_strokes_0 rfl (lv_at hl 0 rfl) ?_
  refine getF (q0 := 0) (k0 := 0) (v := .ref a_ms) C hE hP inA8 rfl rfl (by decide) qFX8_9 rfl rfl dX8_strokes_1 ?_
  refine lv_iconst (v := 1) hx hb dX8_strokes_4 (by decide) ?_
  refine lv_dup2_11 hx hb dX8_strokes_5 rfl rfl ?_
  replace h := gd h; obtain ⟨g1, h⟩ := h
  refine aldI (q0 := 1) C hE hP rfl g1 dX8_strokes_6 ?_
  refine lv_iconst (v := 1) hx hb dX8_strokes_7 (by decide) ?_
  refine lv_iadd hx hb dX8_strokes_8 ?_
  replace h := gd h; obtain ⟨g2, h⟩ := h
  refine astI (q0 := 1) (ws1 := [(a_m, .inr (8, [.ref a_ms, .ref a_mw, .ref a_mv, .ref a_mp, .ref a_mf, .int m_chg, .int m_thr, .int m_rea, .int m_det, .int m_ref, .int m_err, .int m_ans, .int m_sav, .int m_net, .ref a_ml, .int m_lin, .ref a_mt, .ref a_mc, .int m_tap, .int m_her, .int m_cmd])), (a_ms, .inl (T 0, 103, .inl (upd v_ms (1 : Int32).toNatClampNeg ((v_ms (1 : Int32).toNatClampNeg) + 1))))]) C hE hP hD hS rfl g2 rfl dX8_strokes_9 ?_; clear hP hD hS; intro H locs hP hD hS
  refine lv_aload_n hx hb dX8_strokes_10 rfl (lv_at hl 0 rfl) ?_
  refine getF (q0 := 0) (k0 := 0) (v := .ref a_ms) C hE hP inA8 rfl rfl (by decide) qFX8_9 rfl rfl dX8_strokes_11 ?_
  refine lv_iconst (v := 1) hx hb dX8_strokes_14 (by decide) ?_
  replace h := gd h; obtain ⟨g3, h⟩ := h
  refine aldI (q0 := 1) C hE hP rfl g3 dX8_strokes_15 ?_
  refine lv_bipush (v := 12) hx hb dX8_strokes_16 (by decide) ?_
  refine lv_irem hx hb dX8_strokes_18 (by decide) ?_
  refine lv_if_eq (tgt := 24) hx hb dX8_strokes_19 (by decide) (fun c4 => ?_) (fun c4 => ?_)
  · replace h := ite_t c4 h
    refine lv_aload_n hx hb dX8_strokes_24 rfl (lv_at hl 0 rfl) ?_
    refine getF (q0 := 0) (k0 := 0) (v := .ref a_ms) C hE hP inA8 rfl rfl (by decide) qFX8_9 rfl rfl dX8_strokes_25 ?_
    refine lv_iconst (v := 2) hx hb dX8_strokes_28 (by decide) ?_
    refine lv_bipush (v := 22) hx hb dX8_strokes_29 (by decide) ?_
    replace h := gd h; obtain ⟨g5, h⟩ := h
    refine astI (q0 := 1) (ws1 := [(a_m, .inr (8, [.ref a_ms, .ref a_mw, .ref a_mv, .ref a_mp, .ref a_mf, .int m_chg, .int m_thr, .int m_rea, .int m_det, .int m_ref, .int m_err, .int m_ans, .int m_sav, .int m_net, .ref a_ml, .int m_lin, .ref a_mt, .ref a_mc, .int m_tap, .int m_her, .int m_cmd])), (a_ms, .inl (T 0, 103, .inl (upd (upd v_ms (1 : Int32).toNatClampNeg ((v_ms (1 : Int32).toNatClampNeg) + 1)) (2 : Int32).toNatClampNeg 22)))]) C hE hP hD hS rfl g5 rfl dX8_strokes_31 ?_; clear hP hD hS; intro H locs hP hD hS
    refine lv_aload_n hx hb dX8_strokes_32 rfl (lv_at hl 0 rfl) ?_
    refine getF (q0 := 0) (k0 := 0) (v := .ref a_ms) C hE hP inA8 rfl rfl (by decide) qFX8_9 rfl rfl dX8_strokes_33 ?_
    refine lv_iconst (v := 3) hx hb dX8_strokes_36 (by decide) ?_
    refine lv_iconst (v := (-1)) hx hb dX8_strokes_37 (by decide) ?_
    replace h := gd h; obtain ⟨g6, h⟩ := h
    refine astI (q0 := 1) (ws1 := [(a_m, .inr (8, [.ref a_ms, .ref a_mw, .ref a_mv, .ref a_mp, .ref a_mf, .int m_chg, .int m_thr, .int m_rea, .int m_det, .int m_ref, .int m_err, .int m_ans, .int m_sav, .int m_net, .ref a_ml, .int m_lin, .ref a_mt, .ref a_mc, .int m_tap, .int m_her, .int m_cmd])), (a_ms, .inl (T 0, 103, .inl (upd (upd (upd v_ms (1 : Int32).toNatClampNeg ((v_ms (1 : Int32).toNatClampNeg) + 1)) (2 : Int32).toNatClampNeg 22) (3 : Int32).toNatClampNeg (-1))))]) C hE hP hD hS rfl g6 rfl dX8_strokes_38 ?_; clear hP hD hS; intro H locs hP hD hS
    refine lv_aload_n hx hb dX8_strokes_39 rfl (lv_at hl 0 rfl) ?_
    refine getF (q0 := 0) (k0 := 0) (v := .ref a_ms) C hE hP inA8 rfl rfl (by decide) qFX8_9 rfl rfl dX8_strokes_40 ?_
    refine lv_bipush (v := 11) hx hb dX8_strokes_43 (by decide) ?_
    refine lv_iconst (v := 0) hx hb dX8_strokes_45 (by decide) ?_
    replace h := gd h; obtain ⟨g7, h⟩ := h
    refine astI (q0 := 1) (ws1 := [(a_m, .inr (8, [.ref a_ms, .ref a_mw, .ref a_mv, .ref a_mp, .ref a_mf, .int m_chg, .int m_thr, .int m_rea, .int m_det, .int m_ref, .int m_err, .int m_ans, .int m_sav, .int m_net, .ref a_ml, .int m_lin, .ref a_mt, .ref a_mc, .int m_tap, .int m_her, .int m_cmd])), (a_ms, .inl (T 0, 103, .inl (upd (upd (upd (upd v_ms (1 : Int32).toNatClampNeg ((v_ms (1 : Int32).toNatClampNeg) + 1)) (2 : Int32).toNatClampNeg 22) (3 : Int32).toNatClampNeg (-1)) (11 : Int32).toNatClampNeg 0)))]) C hE hP hD hS rfl g7 rfl dX8_strokes_46 ?_; clear hP hD hS; intro H locs hP hD hS
    refine lv_aload_n hx hb dX8_strokes_47 rfl (lv_at hl 0 rfl) ?_
    refine getF (q0 := 0) (k0 := 0) (v := .ref a_ms) C hE hP inA8 rfl rfl (by decide) qFX8_9 rfl rfl dX8_strokes_48 ?_
    refine lv_bipush (v := 12) hx hb dX8_strokes_51 (by decide) ?_
    refine lv_iconst (v := 0) hx hb dX8_strokes_53 (by decide) ?_
    replace h := gd h; obtain ⟨g8, h⟩ := h
    refine astI (q0 := 1) (ws1 := [(a_m, .inr (8, [.ref a_ms, .ref a_mw, .ref a_mv, .ref a_mp, .ref a_mf, .int m_chg, .int m_thr, .int m_rea, .int m_det, .int m_ref, .int m_err, .int m_ans, .int m_sav, .int m_net, .ref a_ml, .int m_lin, .ref a_mt, .ref a_mc, .int m_tap, .int m_her, .int m_cmd])), (a_ms, .inl (T 0, 103, .inl (upd (upd (upd (upd (upd v_ms (1 : Int32).toNatClampNeg ((v_ms (1 : Int32).toNatClampNeg) + 1)) (2 : Int32).toNatClampNeg 22) (3 : Int32).toNatClampNeg (-1)) (11 : Int32).toNatClampNeg 0) (12 : Int32).toNatClampNeg 0)))]) C hE hP hD hS rfl g8 rfl dX8_strokes_54 ?_; clear hP hD hS; intro H locs hP hD hS
    refine lv_iconst (v := 0) hx hb dX8_strokes_55 (by decide) ?_
    refine lv_istore_n (lv' := [(2, .int 0), (0, .ref a_m), (1, .int p0)]) hx hb dX8_strokes_56 rfl hl (by decide) rfl (fun ls hl => ?_)
    exact lX8_strokes_57 C hE hA hret 64 p0 0 (upd (upd (upd (upd (upd v_ms (1 : Int32).toNatClampNeg ((v_ms (1 : Int32).toNatClampNeg) + 1)) (2 : Int32).toNatClampNeg 22) (3 : Int32).toNatClampNeg (-1)) (11 : Int32).toNatClampNeg 0) (12 : Int32).toNatClampNeg 0) ⟨hP, hD⟩ hS _ (lv_sub hl [1, 2, 0] rfl) h
  · replace h := ite_f c4 h
    refine lv_iload_n hx hb dX8_strokes_22 rfl (lv_at hl 1 rfl) ?_
    replace h := Option.some.inj h
    exact hret _ _ _ _ _ _ dX8_strokes_23 rfl (by rw [← h] <;> rfl) (by rw [← h]; exact hP) hS

def fX8_isOver_17 (v_ms : Nat → Int32) (x1 : Int32) (m_thr : Int32) (m_rea : Int32) (m_det : Int32) (m_ref : Int32) : Option (Int32 × Int32 × Int32 × Int32 × Int32) :=
  (fX8_isRefused m_thr m_rea m_det m_ref x1 2 48).bind fun q3 =>
  some ((q3.1 &&& 1), q3.2.1, q3.2.2.1, q3.2.2.2.1, q3.2.2.2.2)
def fX8_isOver (m_thr : Int32) (m_rea : Int32) (m_det : Int32) (m_ref : Int32) (v_ms : Nat → Int32) : Option (Int32 × Int32 × Int32 × Int32 × Int32) :=
  if vin 1 103 = true then
  fX8_isOver_17 v_ms (if (v_ms (1 : Int32).toNatClampNeg) = 48 then 1 else 0) m_thr m_rea m_det m_ref
  else none
set_option maxHeartbeats 4000000 in
set_option maxRecDepth 100000 in
theorem lX8_isOver_17 {p : Program} {l : Launch} {e : Env} {s : State} {m : MethodId} {args : Array Value} {below : List Frame} {meth : Method} {c : Code} {Q : State → Prop} {D : va_G} {T : Nat → ClassId} {a_m a_ms a_mw a_mv a_mp a_mf a_ml a_mt a_mc : Nat} {m_chg : Int32} {m_err : Int32} {m_ans : Int32} {m_sav : Int32} {m_net : Int32} {m_lin : Int32} {m_tap : Int32} {m_her : Int32} {m_cmd : Int32} {v_ms : Nat → Int32} {A : Nat → Prop} {r : Int32 × Int32 × Int32 × Int32 × Int32} (C : CallFix p m c cX8_isOver 1 s args aw RX8) (hE : eK D T s) (hA : ∀ q : Nat, s.heap.size ≤ q → A q) (hret : WrRet p l e ({ frames := 1, cells := 0, slots := 0, locals := 23 } : Room) s m args below meth c Q cX8_isOver .boolean D A [(a_m, .inr (8, [.ref a_ms, .ref a_mw, .ref a_mv, .ref a_mp, .ref a_mf, .int m_chg, .int r.2.1, .int r.2.2.1, .int r.2.2.2.1, .int r.2.2.2.2, .int m_err, .int m_ans, .int m_sav, .int m_net, .ref a_ml, .int m_lin, .ref a_mt, .ref a_mc, .int m_tap, .int m_her, .int m_cmd])), (a_ms, .inl (T 0, 103, .inl v_ms))] r.1) (x1 : Int32) (m_thr : Int32) (m_rea : Int32) (m_det : Int32) (m_ref : Int32) {H : Heap} {locs : List Loc} (hPD : va_PD D A [(a_m, .inr (8, [.ref a_ms, .ref a_mw, .ref a_mv, .ref a_mp, .ref a_mf, .int m_chg, .int m_thr, .int m_rea, .int m_det, .int m_ref, .int m_err, .int m_ans, .int m_sav, .int m_net, .ref a_ml, .int m_lin, .ref a_mt, .ref a_mc, .int m_tap, .int m_her, .int m_cmd])), (a_ms, .inl (T 0, 103, .inl v_ms))] H) (hS : va_S A s.heap H locs) (ls : Array Slot) (hl : lv_has ls 1 []) (h : fX8_isOver_17 v_ms x1 m_thr m_rea m_det m_ref = some r) : W p l e ({ frames := 1, cells := 0, slots := 0, locals := 23 } : Room) s m args below meth c H locs 0 0 Q (F0 m 17 ls [.int x1, .ref a_m]) := by
  have hx := C.1
  have hb := C.2.1
  obtain ⟨hP, hD⟩ := hPD
  unfold fX8_isOver_17 at h
  refine lv_iconst (v := 2) hx hb dX8_isOver_17 (by decide) ?_
  refine lv_bipush (v := 48) hx hb dX8_isOver_18 (by decide) ?_
  replace h := bnd h; obtain ⟨q3, e4, h⟩ := h
  refine wrVi (ws1 := [(a_m, .inr (8, [.ref a_ms, .ref a_mw, .ref a_mv, .ref a_mp, .ref a_mf, .int m_chg, .int q3.2.1, .int q3.2.2.1, .int q3.2.2.2.1, .int q3.2.2.2.2, .int m_err, .int m_ans, .int m_sav, .int m_net, .ref a_ml, .int m_lin, .ref a_mt, .ref a_mc, .int m_tap, .int m_her, .int m_cmd])), (a_ms, .inl (T 0, 103, .inl v_ms))]) C hE hP hD hS hA (kX8_isRefused l D T a_m a_ms a_mw a_mv a_mp a_mf a_ml a_mt a_mc m_chg m_thr m_rea m_det m_ref m_err m_ans m_sav m_net m_lin m_tap m_her m_cmd x1 2 48 _ q3 e4) mX8_isRefused qLX8_99 [0] [1] 0 rfl rfl rfl rfl rfl rfl rfl rfl rfl ⟨rfl, rfl⟩ ⟨Nat.le_of_ble_eq_true rfl, Nat.le_of_ble_eq_true rfl⟩ rfl hl.1 rfl (Nat.le_of_ble_eq_true rfl) dX8_isOver_20 ⟨Nat.le_of_ble_eq_true rfl, Nat.le_of_ble_eq_true rfl⟩ ?_; clear hP hD hS; intro H locs hP hD hS
  replace h := Option.some.inj h
  exact hret _ _ _ _ _ _ dX8_isOver_23 rfl (by rw [← h] <;> rfl) (by rw [← h]; exact hP) hS
set_option maxHeartbeats 4000000 in
set_option maxRecDepth 100000 in
theorem kX8_isOver (l : Launch) (D : va_G) (T : Nat → ClassId) (a_m a_ms a_mw a_mv a_mp a_mf a_ml a_mt a_mc : Nat) (m_chg : Int32) (m_thr : Int32) (m_rea : Int32) (m_det : Int32) (m_ref : Int32) (m_err : Int32) (m_ans : Int32) (m_sav : Int32) (m_net : Int32) (m_lin : Int32) (m_tap : Int32) (m_her : Int32) (m_cmd : Int32) (v_ms : Nat → Int32) (sz : Nat) (r : Int32 × Int32 × Int32 × Int32 × Int32) (h : fX8_isOver m_thr m_rea m_det m_ref v_ms = some r) : WrI l yX8_isOver cX8_isOver 1 .boolean ({ frames := 1, cells := 0, slots := 0, locals := 23 } : Room) D T sz [(a_m, .inr (8, [.ref a_ms, .ref a_mw, .ref a_mv, .ref a_mp, .ref a_mf, .int m_chg, .int m_thr, .int m_rea, .int m_det, .int m_ref, .int m_err, .int m_ans, .int m_sav, .int m_net, .ref a_ml, .int m_lin, .ref a_mt, .ref a_mc, .int m_tap, .int m_her, .int m_cmd])), (a_ms, .inl (T 0, 103, .inl v_ms))] [(a_m, .inr (8, [.ref a_ms, .ref a_mw, .ref a_mv, .ref a_mp, .ref a_mf, .int m_chg, .int r.2.1, .int r.2.2.1, .int r.2.2.2.1, .int r.2.2.2.2, .int m_err, .int m_ans, .int m_sav, .int m_net, .ref a_ml, .int m_lin, .ref a_mt, .ref a_mc, .int m_tap, .int m_her, .int m_cmd])), (a_ms, .inl (T 0, 103, .inl v_ms))] [.ref a_m] r.1 := by
  unfold fX8_isOver at h
  refine wrMet (by decide +kernel) rfl (fun p e s m args below meth c Q A C hE hA hP hD hS hret ls hl => ?_)
  have hx := C.1
  have hb := C.2.1
  have hl : lv_has ls 1 [(0, .ref a_m)] := hl
  refine lv_aload_n hx hb dX8_isOver_0 rfl (lv_at hl 0 rfl) ?_
  refine lv_aload_n hx hb dX8_isOver_1 rfl (lv_at hl 0 rfl) ?_
  refine getF (q0 := 0) (k0 := 0) (v := .ref a_ms) C hE hP inA8 rfl rfl (by decide) qFX8_9 rfl rfl dX8_isOver_2 ?_
  refine lv_iconst (v := 1) hx hb dX8_isOver_5 (by decide) ?_
  replace h := gd h; obtain ⟨g1, h⟩ := h
  refine aldI (q0 := 1) C hE hP rfl g1 dX8_isOver_6 ?_
  refine lv_bipush (v := 48) hx hb dX8_isOver_7 (by decide) ?_
  refine lv_icmp_ne (tgt := 16) hx hb dX8_isOver_9 (by decide) (fun c2 => ?_) (fun c2 => ?_)
  · rw [if_neg c2] at h
    refine lv_iconst (v := 0) hx hb dX8_isOver_16 (by decide) ?_
    exact lX8_isOver_17 C hE hA hret 0 m_thr m_rea m_det m_ref ⟨hP, hD⟩ hS _ (lv_sub hl [] rfl) h
  · rw [if_pos c2] at h
    refine lv_iconst (v := 1) hx hb dX8_isOver_12 (by decide) ?_
    refine lv_goto (tgt := 17) hx hb dX8_isOver_13 (by decide) ?_
    exact lX8_isOver_17 C hE hA hret 1 m_thr m_rea m_det m_ref ⟨hP, hD⟩ hS _ (lv_sub hl [] rfl) h

def fX8_isOnBench_15 (v_ms : Nat → Int32) (x1 : Int32) (l1 : Int32) (m_thr : Int32) (m_rea : Int32) (m_det : Int32) (m_ref : Int32) : Option (Int32 × Int32 × Int32 × Int32 × Int32) :=
  (fX8_isRefused m_thr m_rea m_det m_ref x1 3 l1).bind fun q4 =>
  some ((q4.1 &&& 1), q4.2.1, q4.2.2.1, q4.2.2.2.1, q4.2.2.2.2)
def fX8_isOnBench (m_thr : Int32) (m_rea : Int32) (m_det : Int32) (m_ref : Int32) (v_ms : Nat → Int32) (p0 : Int32) : Option (Int32 × Int32 × Int32 × Int32 × Int32) :=
  (fX8_of v_ms p0 4).bind fun q1 =>
  fX8_isOnBench_15 v_ms (if 0 ≤ q1 then 0 else 1) p0 m_thr m_rea m_det m_ref
set_option maxHeartbeats 4000000 in
set_option maxRecDepth 100000 in
theorem lX8_isOnBench_15 {p : Program} {l : Launch} {e : Env} {s : State} {m : MethodId} {args : Array Value} {below : List Frame} {meth : Method} {c : Code} {Q : State → Prop} {D : va_G} {T : Nat → ClassId} {a_m a_ms a_mw a_mv a_mp a_mf a_ml a_mt a_mc : Nat} {m_chg : Int32} {m_err : Int32} {m_ans : Int32} {m_sav : Int32} {m_net : Int32} {m_lin : Int32} {m_tap : Int32} {m_her : Int32} {m_cmd : Int32} {v_ms : Nat → Int32} {A : Nat → Prop} {r : Int32 × Int32 × Int32 × Int32 × Int32} (C : CallFix p m c cX8_isOnBench 2 s args aw RX8) (hE : eK D T s) (hA : ∀ q : Nat, s.heap.size ≤ q → A q) (hret : WrRet p l e ({ frames := 1, cells := 0, slots := 0, locals := 23 } : Room) s m args below meth c Q cX8_isOnBench .boolean D A [(a_m, .inr (8, [.ref a_ms, .ref a_mw, .ref a_mv, .ref a_mp, .ref a_mf, .int m_chg, .int r.2.1, .int r.2.2.1, .int r.2.2.2.1, .int r.2.2.2.2, .int m_err, .int m_ans, .int m_sav, .int m_net, .ref a_ml, .int m_lin, .ref a_mt, .ref a_mc, .int m_tap, .int m_her, .int m_cmd])), (a_ms, .inl (T 0, 103, .inl v_ms))] r.1) (x1 : Int32) (l1 : Int32) (m_thr : Int32) (m_rea : Int32) (m_det : Int32) (m_ref : Int32) {H : Heap} {locs : List Loc} (hPD : va_PD D A [(a_m, .inr (8, [.ref a_ms, .ref a_mw, .ref a_mv, .ref a_mp, .ref a_mf, .int m_chg, .int m_thr, .int m_rea, .int m_det, .int m_ref, .int m_err, .int m_ans, .int m_sav, .int m_net, .ref a_ml, .int m_lin, .ref a_mt, .ref a_mc, .int m_tap, .int m_her, .int m_cmd])), (a_ms, .inl (T 0, 103, .inl v_ms))] H) (hS : va_S A s.heap H locs) (ls : Array Slot) (hl : lv_has ls 2 [(1, .int l1)]) (h : fX8_isOnBench_15 v_ms x1 l1 m_thr m_rea m_det m_ref = some r) : W p l e ({ frames := 1, cells := 0, slots := 0, locals := 23 } : Room) s m args below meth c H locs 0 0 Q (F0 m 15 ls [.int x1, .ref a_m]) := by
  have hx := C.1
  have hb := C.2.1
  obtain ⟨hP, hD⟩ := hPD
  unfold fX8_isOnBench_15 at h
  refine lv_iconst (v := 3) hx hb dX8_isOnBench_15 (by decide) ?_
  refine lv_iload_n hx hb dX8_isOnBench_16 rfl (lv_at hl 0 rfl) ?_
  replace h := bnd h; obtain ⟨q4, e5, h⟩ := h
  refine wrVi (ws1 := [(a_m, .inr (8, [.ref a_ms, .ref a_mw, .ref a_mv, .ref a_mp, .ref a_mf, .int m_chg, .int q4.2.1, .int q4.2.2.1, .int q4.2.2.2.1, .int q4.2.2.2.2, .int m_err, .int m_ans, .int m_sav, .int m_net, .ref a_ml, .int m_lin, .ref a_mt, .ref a_mc, .int m_tap, .int m_her, .int m_cmd])), (a_ms, .inl (T 0, 103, .inl v_ms))]) C hE hP hD hS hA (kX8_isRefused l D T a_m a_ms a_mw a_mv a_mp a_mf a_ml a_mt a_mc m_chg m_thr m_rea m_det m_ref m_err m_ans m_sav m_net m_lin m_tap m_her m_cmd x1 3 l1 _ q4 e5) mX8_isRefused qLX8_99 [0] [1] 0 rfl rfl rfl rfl rfl rfl rfl rfl rfl ⟨rfl, rfl⟩ ⟨Nat.le_of_ble_eq_true rfl, Nat.le_of_ble_eq_true rfl⟩ rfl hl.1 rfl (Nat.le_of_ble_eq_true rfl) dX8_isOnBench_17 ⟨Nat.le_of_ble_eq_true rfl, Nat.le_of_ble_eq_true rfl⟩ ?_; clear hP hD hS; intro H locs hP hD hS
  replace h := Option.some.inj h
  exact hret _ _ _ _ _ _ dX8_isOnBench_20 rfl (by rw [← h] <;> rfl) (by rw [← h]; exact hP) hS
set_option maxHeartbeats 4000000 in
set_option maxRecDepth 100000 in
theorem kX8_isOnBench (l : Launch) (D : va_G) (T : Nat → ClassId) (a_m a_ms a_mw a_mv a_mp a_mf a_ml a_mt a_mc : Nat) (m_chg : Int32) (m_thr : Int32) (m_rea : Int32) (m_det : Int32) (m_ref : Int32) (m_err : Int32) (m_ans : Int32) (m_sav : Int32) (m_net : Int32) (m_lin : Int32) (m_tap : Int32) (m_her : Int32) (m_cmd : Int32) (v_ms : Nat → Int32) (p0 : Int32) (sz : Nat) (r : Int32 × Int32 × Int32 × Int32 × Int32) (h : fX8_isOnBench m_thr m_rea m_det m_ref v_ms p0 = some r) : WrI l yX8_isOnBench cX8_isOnBench 2 .boolean ({ frames := 1, cells := 0, slots := 0, locals := 23 } : Room) D T sz [(a_m, .inr (8, [.ref a_ms, .ref a_mw, .ref a_mv, .ref a_mp, .ref a_mf, .int m_chg, .int m_thr, .int m_rea, .int m_det, .int m_ref, .int m_err, .int m_ans, .int m_sav, .int m_net, .ref a_ml, .int m_lin, .ref a_mt, .ref a_mc, .int m_tap, .int m_her, .int m_cmd])), (a_ms, .inl (T 0, 103, .inl v_ms))] [(a_m, .inr (8, [.ref a_ms, .ref a_mw, .ref a_mv, .ref a_mp, .ref a_mf, .int m_chg, .int r.2.1, .int r.2.2.1, .int r.2.2.2.1, .int r.2.2.2.2, .int m_err, .int m_ans, .int m_sav, .int m_net, .ref a_ml, .int m_lin, .ref a_mt, .ref a_mc, .int m_tap, .int m_her, .int m_cmd])), (a_ms, .inl (T 0, 103, .inl v_ms))] [.ref a_m, .int p0] r.1 := by
  unfold fX8_isOnBench at h
  refine wrMet (by decide +kernel) rfl (fun p e s m args below meth c Q A C hE hA hP hD hS hret ls hl => ?_)
  have hx := C.1
  have hb := C.2.1
  have hl : lv_has ls 2 [(0, .ref a_m), (1, .int p0)] := hl
  refine lv_aload_n hx hb dX8_isOnBench_0 rfl (lv_at hl 0 rfl) ?_
  refine lv_aload_n hx hb dX8_isOnBench_1 rfl (lv_at hl 0 rfl) ?_
  refine lv_iload_n hx hb dX8_isOnBench_2 rfl (lv_at hl 1 rfl) ?_
  refine lv_iconst (v := 4) hx hb dX8_isOnBench_3 (by decide) ?_
  replace h := bnd h; obtain ⟨q1, e2, h⟩ := h
  refine rdV C hE hP (kX8_of l D T a_m a_ms a_mw a_mv a_mp a_mf a_ml a_mt a_mc m_chg m_thr m_rea m_det m_ref m_err m_ans m_sav m_net m_lin m_tap m_her m_cmd v_ms p0 4 q1 e2) mX8_of qLX8_90 [0, 1] 0 rfl rfl rfl rfl ⟨rfl, rfl⟩ ⟨Nat.le_of_ble_eq_true rfl, Nat.le_of_ble_eq_true rfl⟩ rfl hl.1 rfl (Nat.le_of_ble_eq_true rfl) dX8_isOnBench_4 ⟨Nat.le_of_ble_eq_true rfl, Nat.le_of_ble_eq_true rfl⟩ ?_
  refine lv_if_ge (tgt := 14) hx hb dX8_isOnBench_7 (by decide) (fun c3 => ?_) (fun c3 => ?_)
  · rw [if_pos c3] at h
    refine lv_iconst (v := 0) hx hb dX8_isOnBench_14 (by decide) ?_
    exact lX8_isOnBench_15 C hE hA hret 0 p0 m_thr m_rea m_det m_ref ⟨hP, hD⟩ hS _ (lv_sub hl [1] rfl) h
  · rw [if_neg c3] at h
    refine lv_iconst (v := 1) hx hb dX8_isOnBench_10 (by decide) ?_
    refine lv_goto (tgt := 15) hx hb dX8_isOnBench_11 (by decide) ?_
    exact lX8_isOnBench_15 C hE hA hret 1 p0 m_thr m_rea m_det m_ref ⟨hP, hD⟩ hS _ (lv_sub hl [1] rfl) h

def fX8_isStrandedNow (v_ms : Nat → Int32) (p0 : Int32) : Option Int32 :=
  (fX8_of v_ms p0 4).bind fun q1 =>
  if q1 < 0 then
    some 0
  else
    (fX8_of v_ms p0 4).bind fun q4 =>
    (fX8_isDryNow v_ms q4).bind fun q6 =>
    if q6 = 0 then
      some 0
    else
      some 1
set_option maxHeartbeats 4000000 in
set_option maxRecDepth 100000 in
theorem kX8_isStrandedNow (l : Launch) (D : va_G) (T : Nat → ClassId) (a_m a_ms a_mw a_mv a_mp a_mf a_ml a_mt a_mc : Nat) (m_chg : Int32) (m_thr : Int32) (m_rea : Int32) (m_det : Int32) (m_ref : Int32) (m_err : Int32) (m_ans : Int32) (m_sav : Int32) (m_net : Int32) (m_lin : Int32) (m_tap : Int32) (m_her : Int32) (m_cmd : Int32) (v_ms : Nat → Int32) (p0 : Int32) (r : Int32) (h : fX8_isStrandedNow v_ms p0 = some r) : RdI l yX8_isStrandedNow cX8_isStrandedNow 2 .boolean ({ frames := 4, cells := 0, slots := 0, locals := 84 } : Room) D T [(a_m, .inr (8, [.ref a_ms, .ref a_mw, .ref a_mv, .ref a_mp, .ref a_mf, .int m_chg, .int m_thr, .int m_rea, .int m_det, .int m_ref, .int m_err, .int m_ans, .int m_sav, .int m_net, .ref a_ml, .int m_lin, .ref a_mt, .ref a_mc, .int m_tap, .int m_her, .int m_cmd])), (a_ms, .inl (T 0, 103, .inl v_ms))] [.ref a_m, .int p0] r := by
  unfold fX8_isStrandedNow at h
  refine rdMet (by decide +kernel) rfl (fun p e s m args below meth c Q C hE hP hret ls hl => ?_)
  have hx := C.1
  have hb := C.2.1
  have hl : lv_has ls 2 [(0, .ref a_m), (1, .int p0)] := hl
  refine lv_aload_n hx hb dX8_isStrandedNow_0 rfl (lv_at hl 0 rfl) ?_
  refine lv_iload_n hx hb dX8_isStrandedNow_1 rfl (lv_at hl 1 rfl) ?_
  refine lv_iconst (v := 4) hx hb dX8_isStrandedNow_2 (by decide) ?_
  replace h := bnd h; obtain ⟨q1, e2, h⟩ := h
  refine rdV C hE hP (kX8_of l D T a_m a_ms a_mw a_mv a_mp a_mf a_ml a_mt a_mc m_chg m_thr m_rea m_det m_ref m_err m_ans m_sav m_net m_lin m_tap m_her m_cmd v_ms p0 4 q1 e2) mX8_of qLX8_90 [0, 1] 0 rfl rfl rfl rfl ⟨rfl, rfl⟩ ⟨Nat.le_of_ble_eq_true rfl, Nat.le_of_ble_eq_true rfl⟩ rfl hl.1 rfl (Nat.le_of_ble_eq_true rfl) dX8_isStrandedNow_3 ⟨Nat.le_of_ble_eq_true rfl, Nat.le_of_ble_eq_true rfl⟩ ?_
  refine lv_if_lt (tgt := 26) hx hb dX8_isStrandedNow_6 (by decide) (fun c3 => ?_) (fun c3 => ?_)
  · replace h := ite_t c3 h
    refine lv_iconst (v := 0) hx hb dX8_isStrandedNow_26 (by decide) ?_
    exact hret _ _ _ _ dX8_isStrandedNow_27 rfl (Option.some.inj h)
  · replace h := ite_f c3 h
    refine lv_aload_n hx hb dX8_isStrandedNow_9 rfl (lv_at hl 0 rfl) ?_
    refine lv_aload_n hx hb dX8_isStrandedNow_10 rfl (lv_at hl 0 rfl) ?_
    refine lv_iload_n hx hb dX8_isStrandedNow_11 rfl (lv_at hl 1 rfl) ?_
    refine lv_iconst (v := 4) hx hb dX8_isStrandedNow_12 (by decide) ?_
    replace h := bnd h; obtain ⟨q4, e5, h⟩ := h
    refine rdV C hE hP (kX8_of l D T a_m a_ms a_mw a_mv a_mp a_mf a_ml a_mt a_mc m_chg m_thr m_rea m_det m_ref m_err m_ans m_sav m_net m_lin m_tap m_her m_cmd v_ms p0 4 q4 e5) mX8_of qLX8_90 [0, 1] 0 rfl rfl rfl rfl ⟨rfl, rfl⟩ ⟨Nat.le_of_ble_eq_true rfl, Nat.le_of_ble_eq_true rfl⟩ rfl hl.1 rfl (Nat.le_of_ble_eq_true rfl) dX8_isStrandedNow_13 ⟨Nat.le_of_ble_eq_true rfl, Nat.le_of_ble_eq_true rfl⟩ ?_
    replace h := bnd h; obtain ⟨q6, e7, h⟩ := h
    refine rdV C hE hP (kX8_isDryNow l D T a_m a_ms a_mw a_mv a_mp a_mf a_ml a_mt a_mc m_chg m_thr m_rea m_det m_ref m_err m_ans m_sav m_net m_lin m_tap m_her m_cmd v_ms q4 q6 e7) mX8_isDryNow qLX8_84 [0, 1] 0 rfl rfl rfl rfl ⟨rfl, rfl⟩ ⟨Nat.le_of_ble_eq_true rfl, Nat.le_of_ble_eq_true rfl⟩ rfl hl.1 rfl (Nat.le_of_ble_eq_true rfl) dX8_isStrandedNow_16 ⟨Nat.le_of_ble_eq_true rfl, Nat.le_of_ble_eq_true rfl⟩ ?_
    refine lv_if_eq (tgt := 26) hx hb dX8_isStrandedNow_19 (by decide) (fun c8 => ?_) (fun c8 => ?_)
    · replace h := ite_t c8 h
      refine lv_iconst (v := 0) hx hb dX8_isStrandedNow_26 (by decide) ?_
      exact hret _ _ _ _ dX8_isStrandedNow_27 rfl (Option.some.inj h)
    · replace h := ite_f c8 h
      refine lv_iconst (v := 1) hx hb dX8_isStrandedNow_22 (by decide) ?_
      refine lv_goto (tgt := 27) hx hb dX8_isStrandedNow_23 (by decide) ?_
      exact hret _ _ _ _ dX8_isStrandedNow_27 rfl (Option.some.inj h)

def fX8_swaps_131 (x1 : Int32) (l1 : Int32) (l2 : Int32) (l3 : Int32) (m_thr : Int32) (m_rea : Int32) (m_det : Int32) (m_ref : Int32) (v_ms : Nat → Int32) : Option (Int32 × Int32 × Int32 × Int32 × Int32 × (Nat → Int32)) :=
  if vin (9 + l3) 103 = true then
  (fX8_isRefused m_thr m_rea m_det m_ref x1 14 (v_ms (9 + l3).toNatClampNeg)).bind fun q37 =>
  if q37.1 = 0 then
    (fX8_of v_ms l1 4).bind fun q40 =>
    (fX8_sets v_ms l2 4 q40).bind fun q42 =>
    (fX8_sets q42 l2 5 0).bind fun q44 =>
    (fX8_sets q44 l1 4 (-1)).bind fun q46 =>
    (fX8_sets q46 l1 5 0).bind fun q48 =>
    if vin (11 + l3) 103 = true then
    if vin (11 + l3) 103 = true then
    if vin (9 + l3) 103 = true then
    if vin (9 + l3) 103 = true then
    if vin (11 + l3) 103 = true then
    (fX8_strokes (upd (upd q48 (11 + l3).toNatClampNeg ((q48 (11 + l3).toNatClampNeg) + 1)) (9 + l3).toNatClampNeg (((upd q48 (11 + l3).toNatClampNeg ((q48 (11 + l3).toNatClampNeg) + 1)) (9 + l3).toNatClampNeg) + 1)) (2 - ((upd (upd q48 (11 + l3).toNatClampNeg ((q48 (11 + l3).toNatClampNeg) + 1)) (9 + l3).toNatClampNeg (((upd q48 (11 + l3).toNatClampNeg ((q48 (11 + l3).toNatClampNeg) + 1)) (9 + l3).toNatClampNeg) + 1)) (11 + l3).toNatClampNeg))).bind fun q55 =>
    some (q55.1, q37.2.1, q37.2.2.1, q37.2.2.2.1, q37.2.2.2.2, q55.2)
    else none
    else none
    else none
    else none
    else none
  else
    some (0, q37.2.1, q37.2.2.1, q37.2.2.2.1, q37.2.2.2.2, v_ms)
  else none
def fX8_swaps_98 (x1 : Int32) (l1 : Int32) (l2 : Int32) (l3 : Int32) (m_thr : Int32) (m_rea : Int32) (m_det : Int32) (m_ref : Int32) (v_ms : Nat → Int32) : Option (Int32 × Int32 × Int32 × Int32 × Int32 × (Nat → Int32)) :=
  (fX8_of v_ms l2 4).bind fun q29 =>
  (fX8_isRefused m_thr m_rea m_det m_ref x1 13 q29).bind fun q31 =>
  if q31.1 = 0 then
    if vin (11 + l3) 103 = true then
    fX8_swaps_131 (if (v_ms (11 + l3).toNatClampNeg) = 2 then 1 else 0) l1 l2 l3 q31.2.1 q31.2.2.1 q31.2.2.2.1 q31.2.2.2.2 v_ms
    else none
  else
    some (0, q31.2.1, q31.2.2.1, q31.2.2.2.1, q31.2.2.2.2, v_ms)
def fX8_swaps_69 (x1 : Int32) (l1 : Int32) (l2 : Int32) (l3 : Int32) (m_thr : Int32) (m_rea : Int32) (m_det : Int32) (m_ref : Int32) (v_ms : Nat → Int32) : Option (Int32 × Int32 × Int32 × Int32 × Int32 × (Nat → Int32)) :=
  (fX8_of v_ms l2 0).bind fun q21 =>
  (fX8_isRefused m_thr m_rea m_det m_ref x1 12 q21).bind fun q23 =>
  if q23.1 = 0 then
    (fX8_of v_ms l2 4).bind fun q26 =>
    fX8_swaps_98 (if q26 < 0 then 0 else 1) l1 l2 l3 q23.2.1 q23.2.2.1 q23.2.2.2.1 q23.2.2.2.2 v_ms
  else
    some (0, q23.2.1, q23.2.2.1, q23.2.2.2.1, q23.2.2.2.2, v_ms)
def fX8_swaps_22 (x1 : Int32) (l1 : Int32) (l2 : Int32) (m_thr : Int32) (m_rea : Int32) (m_det : Int32) (m_ref : Int32) (v_ms : Nat → Int32) : Option (Int32 × Int32 × Int32 × Int32 × Int32 × (Nat → Int32)) :=
  (fX8_isThrown m_thr x1 1).bind fun q7 =>
  if q7.1 = 0 then
    (fX8_isOver q7.2 m_rea m_det m_ref v_ms).bind fun q10 =>
    if q10.1 = 0 then
      (fX8_isOnBench q10.2.1 q10.2.2.1 q10.2.2.2.1 q10.2.2.2.2 v_ms l1).bind fun q13 =>
      if q13.1 = 0 then
        (fX8_of v_ms l1 0).bind fun q16 =>
        (fX8_of v_ms l2 0).bind fun q18 =>
        fX8_swaps_69 (if q18 = q16 then 0 else 1) l1 l2 q16 q13.2.1 q13.2.2.1 q13.2.2.2.1 q13.2.2.2.2 v_ms
      else
        some (0, q13.2.1, q13.2.2.1, q13.2.2.2.1, q13.2.2.2.2, v_ms)
    else
      some (0, q10.2.1, q10.2.2.1, q10.2.2.2.1, q10.2.2.2.2, v_ms)
  else
    some (0, q7.2, m_rea, m_det, m_ref, v_ms)
def fX8_swaps (m_thr : Int32) (m_rea : Int32) (m_det : Int32) (m_ref : Int32) (v_ms : Nat → Int32) (p0 : Int32) (p1 : Int32) : Option (Int32 × Int32 × Int32 × Int32 × Int32 × (Nat → Int32)) :=
  (fX8_isWhale v_ms p0).bind fun q1 =>
  if q1 = 0 then
    fX8_swaps_22 1 p0 p1 m_thr m_rea m_det m_ref v_ms
  else
    (fX8_isWhale v_ms p1).bind fun q4 =>
    fX8_swaps_22 (if q4 = 0 then 1 else 0) p0 p1 m_thr m_rea m_det m_ref v_ms
set_option maxHeartbeats 4000000 in
set_option maxRecDepth 100000 in
theorem lX8_swaps_131 {p : Program} {l : Launch} {e : Env} {s : State} {m : MethodId} {args : Array Value} {below : List Frame} {meth : Method} {c : Code} {Q : State → Prop} {D : va_G} {T : Nat → ClassId} {a_m a_ms a_mw a_mv a_mp a_mf a_ml a_mt a_mc : Nat} {m_chg : Int32} {m_err : Int32} {m_ans : Int32} {m_sav : Int32} {m_net : Int32} {m_lin : Int32} {m_tap : Int32} {m_her : Int32} {m_cmd : Int32} {A : Nat → Prop} {r : Int32 × Int32 × Int32 × Int32 × Int32 × (Nat → Int32)} (C : CallFix p m c cX8_swaps 4 s args aw RX8) (hE : eK D T s) (hA : ∀ q : Nat, s.heap.size ≤ q → A q) (hret : WrRet p l e ({ frames := 2, cells := 0, slots := 0, locals := 45 } : Room) s m args below meth c Q cX8_swaps .int D A [(a_m, .inr (8, [.ref a_ms, .ref a_mw, .ref a_mv, .ref a_mp, .ref a_mf, .int m_chg, .int r.2.1, .int r.2.2.1, .int r.2.2.2.1, .int r.2.2.2.2.1, .int m_err, .int m_ans, .int m_sav, .int m_net, .ref a_ml, .int m_lin, .ref a_mt, .ref a_mc, .int m_tap, .int m_her, .int m_cmd])), (a_ms, .inl (T 0, 103, .inl r.2.2.2.2.2))] r.1) (x1 : Int32) (l1 : Int32) (l2 : Int32) (l3 : Int32) (m_thr : Int32) (m_rea : Int32) (m_det : Int32) (m_ref : Int32) (v_ms : Nat → Int32) {H : Heap} {locs : List Loc} (hPD : va_PD D A [(a_m, .inr (8, [.ref a_ms, .ref a_mw, .ref a_mv, .ref a_mp, .ref a_mf, .int m_chg, .int m_thr, .int m_rea, .int m_det, .int m_ref, .int m_err, .int m_ans, .int m_sav, .int m_net, .ref a_ml, .int m_lin, .ref a_mt, .ref a_mc, .int m_tap, .int m_her, .int m_cmd])), (a_ms, .inl (T 0, 103, .inl v_ms))] H) (hS : va_S A s.heap H locs) (ls : Array Slot) (hl : lv_has ls 4 [(0, .ref a_m), (1, .int l1), (2, .int l2), (3, .int l3)]) (h : fX8_swaps_131 x1 l1 l2 l3 m_thr m_rea m_det m_ref v_ms = some r) : W p l e ({ frames := 2, cells := 0, slots := 0, locals := 45 } : Room) s m args below meth c H locs 0 0 Q (F0 m 131 ls [.int x1, .ref a_m]) := by
  have hx := C.1
  have hb := C.2.1
  obtain ⟨hP, hD⟩ := hPD
  unfold fX8_swaps_131 at h
  refine lv_bipush (v := 14) hx hb dX8_swaps_131 (by decide) ?_
  refine lv_aload_n hx hb dX8_swaps_133 rfl (lv_at hl 0 rfl) ?_
  refine getF (q0 := 0) (k0 := 0) (v := .ref a_ms) C hE hP inA8 rfl rfl (by decide) qFX8_9 rfl rfl dX8_swaps_134 ?_
  refine lv_bipush (v := 9) hx hb dX8_swaps_137 (by decide) ?_
  refine lv_iload_n hx hb dX8_swaps_139 rfl (lv_at hl 3 rfl) ?_
  refine lv_iadd hx hb dX8_swaps_140 ?_
  replace h := gd h; obtain ⟨g36, h⟩ := h
  refine aldI (q0 := 1) C hE hP rfl g36 dX8_swaps_141 ?_
  replace h := bnd h; obtain ⟨q37, e38, h⟩ := h
  refine wrVi (ws1 := [(a_m, .inr (8, [.ref a_ms, .ref a_mw, .ref a_mv, .ref a_mp, .ref a_mf, .int m_chg, .int q37.2.1, .int q37.2.2.1, .int q37.2.2.2.1, .int q37.2.2.2.2, .int m_err, .int m_ans, .int m_sav, .int m_net, .ref a_ml, .int m_lin, .ref a_mt, .ref a_mc, .int m_tap, .int m_her, .int m_cmd])), (a_ms, .inl (T 0, 103, .inl v_ms))]) C hE hP hD hS hA (kX8_isRefused l D T a_m a_ms a_mw a_mv a_mp a_mf a_ml a_mt a_mc m_chg m_thr m_rea m_det m_ref m_err m_ans m_sav m_net m_lin m_tap m_her m_cmd x1 14 (v_ms (9 + l3).toNatClampNeg) _ q37 e38) mX8_isRefused qLX8_99 [0] [1] 0 rfl rfl rfl rfl rfl rfl rfl rfl rfl ⟨rfl, rfl⟩ ⟨Nat.le_of_ble_eq_true rfl, Nat.le_of_ble_eq_true rfl⟩ rfl hl.1 rfl (Nat.le_of_ble_eq_true rfl) dX8_swaps_142 ⟨Nat.le_of_ble_eq_true rfl, Nat.le_of_ble_eq_true rfl⟩ ?_; clear hP hD hS; intro H locs hP hD hS
  refine lv_if_eq (tgt := 150) hx hb dX8_swaps_145 (by decide) (fun c39 => ?_) (fun c39 => ?_)
  · replace h := ite_t c39 h
    refine lv_aload_n hx hb dX8_swaps_150 rfl (lv_at hl 0 rfl) ?_
    refine lv_iload_n hx hb dX8_swaps_151 rfl (lv_at hl 2 rfl) ?_
    refine lv_iconst (v := 4) hx hb dX8_swaps_152 (by decide) ?_
    refine lv_aload_n hx hb dX8_swaps_153 rfl (lv_at hl 0 rfl) ?_
    refine lv_iload_n hx hb dX8_swaps_154 rfl (lv_at hl 1 rfl) ?_
    refine lv_iconst (v := 4) hx hb dX8_swaps_155 (by decide) ?_
    replace h := bnd h; obtain ⟨q40, e41, h⟩ := h
    refine rdV C hE hP (kX8_of l D T a_m a_ms a_mw a_mv a_mp a_mf a_ml a_mt a_mc m_chg q37.2.1 q37.2.2.1 q37.2.2.2.1 q37.2.2.2.2 m_err m_ans m_sav m_net m_lin m_tap m_her m_cmd v_ms l1 4 q40 e41) mX8_of qLX8_90 [0, 1] 0 rfl rfl rfl rfl ⟨rfl, rfl⟩ ⟨Nat.le_of_ble_eq_true rfl, Nat.le_of_ble_eq_true rfl⟩ rfl hl.1 rfl (Nat.le_of_ble_eq_true rfl) dX8_swaps_156 ⟨Nat.le_of_ble_eq_true rfl, Nat.le_of_ble_eq_true rfl⟩ ?_
    replace h := bnd h; obtain ⟨q42, e43, h⟩ := h
    refine wrVv (ws1 := [(a_m, .inr (8, [.ref a_ms, .ref a_mw, .ref a_mv, .ref a_mp, .ref a_mf, .int m_chg, .int q37.2.1, .int q37.2.2.1, .int q37.2.2.2.1, .int q37.2.2.2.2, .int m_err, .int m_ans, .int m_sav, .int m_net, .ref a_ml, .int m_lin, .ref a_mt, .ref a_mc, .int m_tap, .int m_her, .int m_cmd])), (a_ms, .inl (T 0, 103, .inl q42))]) C hE hP hD hS hA (kX8_sets l D T a_m a_ms a_mw a_mv a_mp a_mf a_ml a_mt a_mc m_chg q37.2.1 q37.2.2.1 q37.2.2.2.1 q37.2.2.2.2 m_err m_ans m_sav m_net m_lin m_tap m_her m_cmd v_ms l2 4 q40 _ q42 e43) mX8_sets qLX8_103 [0, 1] [] 0 rfl rfl rfl rfl rfl rfl rfl rfl rfl ⟨rfl, rfl⟩ ⟨Nat.le_of_ble_eq_true rfl, Nat.le_of_ble_eq_true rfl⟩ rfl hl.1 rfl (Nat.le_of_ble_eq_true rfl) dX8_swaps_159 ⟨Nat.le_of_ble_eq_true rfl, Nat.le_of_ble_eq_true rfl⟩ ?_; clear hP hD hS; intro H locs hP hD hS
    refine lv_aload_n hx hb dX8_swaps_162 rfl (lv_at hl 0 rfl) ?_
    refine lv_iload_n hx hb dX8_swaps_163 rfl (lv_at hl 2 rfl) ?_
    refine lv_iconst (v := 5) hx hb dX8_swaps_164 (by decide) ?_
    refine lv_iconst (v := 0) hx hb dX8_swaps_165 (by decide) ?_
    replace h := bnd h; obtain ⟨q44, e45, h⟩ := h
    refine wrVv (ws1 := [(a_m, .inr (8, [.ref a_ms, .ref a_mw, .ref a_mv, .ref a_mp, .ref a_mf, .int m_chg, .int q37.2.1, .int q37.2.2.1, .int q37.2.2.2.1, .int q37.2.2.2.2, .int m_err, .int m_ans, .int m_sav, .int m_net, .ref a_ml, .int m_lin, .ref a_mt, .ref a_mc, .int m_tap, .int m_her, .int m_cmd])), (a_ms, .inl (T 0, 103, .inl q44))]) C hE hP hD hS hA (kX8_sets l D T a_m a_ms a_mw a_mv a_mp a_mf a_ml a_mt a_mc m_chg q37.2.1 q37.2.2.1 q37.2.2.2.1 q37.2.2.2.2 m_err m_ans m_sav m_net m_lin m_tap m_her m_cmd q42 l2 5 0 _ q44 e45) mX8_sets qLX8_103 [0, 1] [] 0 rfl rfl rfl rfl rfl rfl rfl rfl rfl ⟨rfl, rfl⟩ ⟨Nat.le_of_ble_eq_true rfl, Nat.le_of_ble_eq_true rfl⟩ rfl hl.1 rfl (Nat.le_of_ble_eq_true rfl) dX8_swaps_166 ⟨Nat.le_of_ble_eq_true rfl, Nat.le_of_ble_eq_true rfl⟩ ?_; clear hP hD hS; intro H locs hP hD hS
    refine lv_aload_n hx hb dX8_swaps_169 rfl (lv_at hl 0 rfl) ?_
    refine lv_iload_n hx hb dX8_swaps_170 rfl (lv_at hl 1 rfl) ?_
    refine lv_iconst (v := 4) hx hb dX8_swaps_171 (by decide) ?_
    refine lv_iconst (v := (-1)) hx hb dX8_swaps_172 (by decide) ?_
    replace h := bnd h; obtain ⟨q46, e47, h⟩ := h
    refine wrVv (ws1 := [(a_m, .inr (8, [.ref a_ms, .ref a_mw, .ref a_mv, .ref a_mp, .ref a_mf, .int m_chg, .int q37.2.1, .int q37.2.2.1, .int q37.2.2.2.1, .int q37.2.2.2.2, .int m_err, .int m_ans, .int m_sav, .int m_net, .ref a_ml, .int m_lin, .ref a_mt, .ref a_mc, .int m_tap, .int m_her, .int m_cmd])), (a_ms, .inl (T 0, 103, .inl q46))]) C hE hP hD hS hA (kX8_sets l D T a_m a_ms a_mw a_mv a_mp a_mf a_ml a_mt a_mc m_chg q37.2.1 q37.2.2.1 q37.2.2.2.1 q37.2.2.2.2 m_err m_ans m_sav m_net m_lin m_tap m_her m_cmd q44 l1 4 (-1) _ q46 e47) mX8_sets qLX8_103 [0, 1] [] 0 rfl rfl rfl rfl rfl rfl rfl rfl rfl ⟨rfl, rfl⟩ ⟨Nat.le_of_ble_eq_true rfl, Nat.le_of_ble_eq_true rfl⟩ rfl hl.1 rfl (Nat.le_of_ble_eq_true rfl) dX8_swaps_173 ⟨Nat.le_of_ble_eq_true rfl, Nat.le_of_ble_eq_true rfl⟩ ?_; clear hP hD hS; intro H locs hP hD hS
    refine lv_aload_n hx hb dX8_swaps_176 rfl (lv_at hl 0 rfl) ?_
    refine lv_iload_n hx hb dX8_swaps_177 rfl (lv_at hl 1 rfl) ?_
    refine lv_iconst (v := 5) hx hb dX8_swaps_178 (by decide) ?_
    refine lv_iconst (v := 0) hx hb dX8_swaps_179 (by decide) ?_
    replace h := bnd h; obtain ⟨q48, e49, h⟩ := h
    refine wrVv (ws1 := [(a_m, .inr (8, [.ref a_ms, .ref a_mw, .ref a_mv, .ref a_mp, .ref a_mf, .int m_chg, .int q37.2.1, .int q37.2.2.1, .int q37.2.2.2.1, .int q37.2.2.2.2, .int m_err, .int m_ans, .int m_sav, .int m_net, .ref a_ml, .int m_lin, .ref a_mt, .ref a_mc, .int m_tap, .int m_her, .int m_cmd])), (a_ms, .inl (T 0, 103, .inl q48))]) C hE hP hD hS hA (kX8_sets l D T a_m a_ms a_mw a_mv a_mp a_mf a_ml a_mt a_mc m_chg q37.2.1 q37.2.2.1 q37.2.2.2.1 q37.2.2.2.2 m_err m_ans m_sav m_net m_lin m_tap m_her m_cmd q46 l1 5 0 _ q48 e49) mX8_sets qLX8_103 [0, 1] [] 0 rfl rfl rfl rfl rfl rfl rfl rfl rfl ⟨rfl, rfl⟩ ⟨Nat.le_of_ble_eq_true rfl, Nat.le_of_ble_eq_true rfl⟩ rfl hl.1 rfl (Nat.le_of_ble_eq_true rfl) dX8_swaps_180 ⟨Nat.le_of_ble_eq_true rfl, Nat.le_of_ble_eq_true rfl⟩ ?_; clear hP hD hS; intro H locs hP hD hS
    refine lv_aload_n hx hb dX8_swaps_183 rfl (lv_at hl 0 rfl) ?_
    refine getF (q0 := 0) (k0 := 0) (v := .ref a_ms) C hE hP inA8 rfl rfl (by decide) qFX8_9 rfl rfl dX8_swaps_184 ?_
    refine lv_bipush (v := 11) hx hb dX8_swaps_187 (by decide) ?_
    refine lv_iload_n hx hb dX8_swaps_189 rfl (lv_at hl 3 rfl) ?_
    refine lv_iadd hx hb dX8_swaps_190 ?_
    refine lv_dup2_11 hx hb dX8_swaps_191 rfl rfl ?_
    replace h := gd h; obtain ⟨g50, h⟩ := h
    refine aldI (q0 := 1) C hE hP rfl g50 dX8_swaps_192 ?_
    refine lv_iconst (v := 1) hx hb dX8_swaps_193 (by decide) ?_
    refine lv_iadd hx hb dX8_swaps_194 ?_
    replace h := gd h; obtain ⟨g51, h⟩ := h
    refine astI (q0 := 1) (ws1 := [(a_m, .inr (8, [.ref a_ms, .ref a_mw, .ref a_mv, .ref a_mp, .ref a_mf, .int m_chg, .int q37.2.1, .int q37.2.2.1, .int q37.2.2.2.1, .int q37.2.2.2.2, .int m_err, .int m_ans, .int m_sav, .int m_net, .ref a_ml, .int m_lin, .ref a_mt, .ref a_mc, .int m_tap, .int m_her, .int m_cmd])), (a_ms, .inl (T 0, 103, .inl (upd q48 (11 + l3).toNatClampNeg ((q48 (11 + l3).toNatClampNeg) + 1))))]) C hE hP hD hS rfl g51 rfl dX8_swaps_195 ?_; clear hP hD hS; intro H locs hP hD hS
    refine lv_aload_n hx hb dX8_swaps_196 rfl (lv_at hl 0 rfl) ?_
    refine getF (q0 := 0) (k0 := 0) (v := .ref a_ms) C hE hP inA8 rfl rfl (by decide) qFX8_9 rfl rfl dX8_swaps_197 ?_
    refine lv_bipush (v := 9) hx hb dX8_swaps_200 (by decide) ?_
    refine lv_iload_n hx hb dX8_swaps_202 rfl (lv_at hl 3 rfl) ?_
    refine lv_iadd hx hb dX8_swaps_203 ?_
    refine lv_dup2_11 hx hb dX8_swaps_204 rfl rfl ?_
    replace h := gd h; obtain ⟨g52, h⟩ := h
    refine aldI (q0 := 1) C hE hP rfl g52 dX8_swaps_205 ?_
    refine lv_iconst (v := 1) hx hb dX8_swaps_206 (by decide) ?_
    refine lv_iadd hx hb dX8_swaps_207 ?_
    replace h := gd h; obtain ⟨g53, h⟩ := h
    refine astI (q0 := 1) (ws1 := [(a_m, .inr (8, [.ref a_ms, .ref a_mw, .ref a_mv, .ref a_mp, .ref a_mf, .int m_chg, .int q37.2.1, .int q37.2.2.1, .int q37.2.2.2.1, .int q37.2.2.2.2, .int m_err, .int m_ans, .int m_sav, .int m_net, .ref a_ml, .int m_lin, .ref a_mt, .ref a_mc, .int m_tap, .int m_her, .int m_cmd])), (a_ms, .inl (T 0, 103, .inl (upd (upd q48 (11 + l3).toNatClampNeg ((q48 (11 + l3).toNatClampNeg) + 1)) (9 + l3).toNatClampNeg (((upd q48 (11 + l3).toNatClampNeg ((q48 (11 + l3).toNatClampNeg) + 1)) (9 + l3).toNatClampNeg) + 1))))]) C hE hP hD hS rfl g53 rfl dX8_swaps_208 ?_; clear hP hD hS; intro H locs hP hD hS
    refine lv_aload_n hx hb dX8_swaps_209 rfl (lv_at hl 0 rfl) ?_
    refine lv_iconst (v := 2) hx hb dX8_swaps_210 (by decide) ?_
    refine lv_aload_n hx hb dX8_swaps_211 rfl (lv_at hl 0 rfl) ?_
    refine getF (q0 := 0) (k0 := 0) (v := .ref a_ms) C hE hP inA8 rfl rfl (by decide) qFX8_9 rfl rfl dX8_swaps_212 ?_
    refine lv_bipush (v := 11) hx hb dX8_swaps_215 (by decide) ?_
    refine lv_iload_n hx hb dX8_swaps_217 rfl (lv_at hl 3 rfl) ?_
    refine lv_iadd hx hb dX8_swaps_218 ?_
    replace h := gd h; obtain ⟨g54, h⟩ := h
    refine aldI (q0 := 1) C hE hP rfl g54 dX8_swaps_219 ?_
    refine lv_isub hx hb dX8_swaps_220 ?_
    replace h := bnd h; obtain ⟨q55, e56, h⟩ := h
    refine wrVi (ws1 := [(a_m, .inr (8, [.ref a_ms, .ref a_mw, .ref a_mv, .ref a_mp, .ref a_mf, .int m_chg, .int q37.2.1, .int q37.2.2.1, .int q37.2.2.2.1, .int q37.2.2.2.2, .int m_err, .int m_ans, .int m_sav, .int m_net, .ref a_ml, .int m_lin, .ref a_mt, .ref a_mc, .int m_tap, .int m_her, .int m_cmd])), (a_ms, .inl (T 0, 103, .inl q55.2))]) C hE hP hD hS hA (kX8_strokes l D T a_m a_ms a_mw a_mv a_mp a_mf a_ml a_mt a_mc m_chg q37.2.1 q37.2.2.1 q37.2.2.2.1 q37.2.2.2.2 m_err m_ans m_sav m_net m_lin m_tap m_her m_cmd (upd (upd q48 (11 + l3).toNatClampNeg ((q48 (11 + l3).toNatClampNeg) + 1)) (9 + l3).toNatClampNeg (((upd q48 (11 + l3).toNatClampNeg ((q48 (11 + l3).toNatClampNeg) + 1)) (9 + l3).toNatClampNeg) + 1)) (2 - ((upd (upd q48 (11 + l3).toNatClampNeg ((q48 (11 + l3).toNatClampNeg) + 1)) (9 + l3).toNatClampNeg (((upd q48 (11 + l3).toNatClampNeg ((q48 (11 + l3).toNatClampNeg) + 1)) (9 + l3).toNatClampNeg) + 1)) (11 + l3).toNatClampNeg)) _ q55 e56) mX8_strokes qLX8_130 [0, 1] [] 0 rfl rfl rfl rfl rfl rfl rfl rfl rfl ⟨rfl, rfl⟩ ⟨Nat.le_of_ble_eq_true rfl, Nat.le_of_ble_eq_true rfl⟩ rfl hl.1 rfl (Nat.le_of_ble_eq_true rfl) dX8_swaps_221 ⟨Nat.le_of_ble_eq_true rfl, Nat.le_of_ble_eq_true rfl⟩ ?_; clear hP hD hS; intro H locs hP hD hS
    replace h := Option.some.inj h
    exact hret _ _ _ _ _ _ dX8_swaps_224 rfl (by rw [← h] <;> rfl) (by rw [← h]; exact hP) hS
  · replace h := ite_f c39 h
    refine lv_iconst (v := 0) hx hb dX8_swaps_148 (by decide) ?_
    replace h := Option.some.inj h
    exact hret _ _ _ _ _ _ dX8_swaps_149 rfl (by rw [← h] <;> rfl) (by rw [← h]; exact hP) hS
set_option maxHeartbeats 4000000 in
set_option maxRecDepth 100000 in
theorem lX8_swaps_98 {p : Program} {l : Launch} {e : Env} {s : State} {m : MethodId} {args : Array Value} {below : List Frame} {meth : Method} {c : Code} {Q : State → Prop} {D : va_G} {T : Nat → ClassId} {a_m a_ms a_mw a_mv a_mp a_mf a_ml a_mt a_mc : Nat} {m_chg : Int32} {m_err : Int32} {m_ans : Int32} {m_sav : Int32} {m_net : Int32} {m_lin : Int32} {m_tap : Int32} {m_her : Int32} {m_cmd : Int32} {A : Nat → Prop} {r : Int32 × Int32 × Int32 × Int32 × Int32 × (Nat → Int32)} (C : CallFix p m c cX8_swaps 4 s args aw RX8) (hE : eK D T s) (hA : ∀ q : Nat, s.heap.size ≤ q → A q) (hret : WrRet p l e ({ frames := 2, cells := 0, slots := 0, locals := 45 } : Room) s m args below meth c Q cX8_swaps .int D A [(a_m, .inr (8, [.ref a_ms, .ref a_mw, .ref a_mv, .ref a_mp, .ref a_mf, .int m_chg, .int r.2.1, .int r.2.2.1, .int r.2.2.2.1, .int r.2.2.2.2.1, .int m_err, .int m_ans, .int m_sav, .int m_net, .ref a_ml, .int m_lin, .ref a_mt, .ref a_mc, .int m_tap, .int m_her, .int m_cmd])), (a_ms, .inl (T 0, 103, .inl r.2.2.2.2.2))] r.1) (x1 : Int32) (l1 : Int32) (l2 : Int32) (l3 : Int32) (m_thr : Int32) (m_rea : Int32) (m_det : Int32) (m_ref : Int32) (v_ms : Nat → Int32) {H : Heap} {locs : List Loc} (hPD : va_PD D A [(a_m, .inr (8, [.ref a_ms, .ref a_mw, .ref a_mv, .ref a_mp, .ref a_mf, .int m_chg, .int m_thr, .int m_rea, .int m_det, .int m_ref, .int m_err, .int m_ans, .int m_sav, .int m_net, .ref a_ml, .int m_lin, .ref a_mt, .ref a_mc, .int m_tap, .int m_her, .int m_cmd])), (a_ms, .inl (T 0, 103, .inl v_ms))] H) (hS : va_S A s.heap H locs) (ls : Array Slot) (hl : lv_has ls 4 [(0, .ref a_m), (1, .int l1), (2, .int l2), (3, .int l3)]) (h : fX8_swaps_98 x1 l1 l2 l3 m_thr m_rea m_det m_ref v_ms = some r) : W p l e ({ frames := 2, cells := 0, slots := 0, locals := 45 } : Room) s m args below meth c H locs 0 0 Q (F0 m 98 ls [.int x1, .ref a_m]) := by
  have hx := C.1
  have hb := C.2.1
  obtain ⟨hP, hD⟩ := hPD
  unfold fX8_swaps_98 at h
  refine lv_bipush (v := 13) hx hb dX8_swaps_98 (by decide) ?_
  refine lv_aload_n hx hb dX8_swaps_100 rfl (lv_at hl 0 rfl) ?_
  refine lv_iload_n hx hb dX8_swaps_101 rfl (lv_at hl 2 rfl) ?_
  refine lv_iconst (v := 4) hx hb dX8_swaps_102 (by decide) ?_
  replace h := bnd h; obtain ⟨q29, e30, h⟩ := h
  refine rdV C hE hP (kX8_of l D T a_m a_ms a_mw a_mv a_mp a_mf a_ml a_mt a_mc m_chg m_thr m_rea m_det m_ref m_err m_ans m_sav m_net m_lin m_tap m_her m_cmd v_ms l2 4 q29 e30) mX8_of qLX8_90 [0, 1] 0 rfl rfl rfl rfl ⟨rfl, rfl⟩ ⟨Nat.le_of_ble_eq_true rfl, Nat.le_of_ble_eq_true rfl⟩ rfl hl.1 rfl (Nat.le_of_ble_eq_true rfl) dX8_swaps_103 ⟨Nat.le_of_ble_eq_true rfl, Nat.le_of_ble_eq_true rfl⟩ ?_
  replace h := bnd h; obtain ⟨q31, e32, h⟩ := h
  refine wrVi (ws1 := [(a_m, .inr (8, [.ref a_ms, .ref a_mw, .ref a_mv, .ref a_mp, .ref a_mf, .int m_chg, .int q31.2.1, .int q31.2.2.1, .int q31.2.2.2.1, .int q31.2.2.2.2, .int m_err, .int m_ans, .int m_sav, .int m_net, .ref a_ml, .int m_lin, .ref a_mt, .ref a_mc, .int m_tap, .int m_her, .int m_cmd])), (a_ms, .inl (T 0, 103, .inl v_ms))]) C hE hP hD hS hA (kX8_isRefused l D T a_m a_ms a_mw a_mv a_mp a_mf a_ml a_mt a_mc m_chg m_thr m_rea m_det m_ref m_err m_ans m_sav m_net m_lin m_tap m_her m_cmd x1 13 q29 _ q31 e32) mX8_isRefused qLX8_99 [0] [1] 0 rfl rfl rfl rfl rfl rfl rfl rfl rfl ⟨rfl, rfl⟩ ⟨Nat.le_of_ble_eq_true rfl, Nat.le_of_ble_eq_true rfl⟩ rfl hl.1 rfl (Nat.le_of_ble_eq_true rfl) dX8_swaps_106 ⟨Nat.le_of_ble_eq_true rfl, Nat.le_of_ble_eq_true rfl⟩ ?_; clear hP hD hS; intro H locs hP hD hS
  refine lv_if_ne (tgt := 148) hx hb dX8_swaps_109 (by decide) (fun c33 => ?_) (fun c33 => ?_)
  · replace h := ite_f c33 h
    refine lv_iconst (v := 0) hx hb dX8_swaps_148 (by decide) ?_
    replace h := Option.some.inj h
    exact hret _ _ _ _ _ _ dX8_swaps_149 rfl (by rw [← h] <;> rfl) (by rw [← h]; exact hP) hS
  · replace h := ite_t c33 h
    refine lv_aload_n hx hb dX8_swaps_112 rfl (lv_at hl 0 rfl) ?_
    refine lv_aload_n hx hb dX8_swaps_113 rfl (lv_at hl 0 rfl) ?_
    refine getF (q0 := 0) (k0 := 0) (v := .ref a_ms) C hE hP inA8 rfl rfl (by decide) qFX8_9 rfl rfl dX8_swaps_114 ?_
    refine lv_bipush (v := 11) hx hb dX8_swaps_117 (by decide) ?_
    refine lv_iload_n hx hb dX8_swaps_119 rfl (lv_at hl 3 rfl) ?_
    refine lv_iadd hx hb dX8_swaps_120 ?_
    replace h := gd h; obtain ⟨g34, h⟩ := h
    refine aldI (q0 := 1) C hE hP rfl g34 dX8_swaps_121 ?_
    refine lv_iconst (v := 2) hx hb dX8_swaps_122 (by decide) ?_
    refine lv_icmp_ne (tgt := 130) hx hb dX8_swaps_123 (by decide) (fun c35 => ?_) (fun c35 => ?_)
    · rw [if_neg c35] at h
      refine lv_iconst (v := 0) hx hb dX8_swaps_130 (by decide) ?_
      exact lX8_swaps_131 C hE hA hret 0 l1 l2 l3 q31.2.1 q31.2.2.1 q31.2.2.2.1 q31.2.2.2.2 v_ms ⟨hP, hD⟩ hS _ (lv_sub hl [0, 1, 2, 3] rfl) h
    · rw [if_pos c35] at h
      refine lv_iconst (v := 1) hx hb dX8_swaps_126 (by decide) ?_
      refine lv_goto (tgt := 131) hx hb dX8_swaps_127 (by decide) ?_
      exact lX8_swaps_131 C hE hA hret 1 l1 l2 l3 q31.2.1 q31.2.2.1 q31.2.2.2.1 q31.2.2.2.2 v_ms ⟨hP, hD⟩ hS _ (lv_sub hl [0, 1, 2, 3] rfl) h
set_option maxHeartbeats 4000000 in
set_option maxRecDepth 100000 in
theorem lX8_swaps_69 {p : Program} {l : Launch} {e : Env} {s : State} {m : MethodId} {args : Array Value} {below : List Frame} {meth : Method} {c : Code} {Q : State → Prop} {D : va_G} {T : Nat → ClassId} {a_m a_ms a_mw a_mv a_mp a_mf a_ml a_mt a_mc : Nat} {m_chg : Int32} {m_err : Int32} {m_ans : Int32} {m_sav : Int32} {m_net : Int32} {m_lin : Int32} {m_tap : Int32} {m_her : Int32} {m_cmd : Int32} {A : Nat → Prop} {r : Int32 × Int32 × Int32 × Int32 × Int32 × (Nat → Int32)} (C : CallFix p m c cX8_swaps 4 s args aw RX8) (hE : eK D T s) (hA : ∀ q : Nat, s.heap.size ≤ q → A q) (hret : WrRet p l e ({ frames := 2, cells := 0, slots := 0, locals := 45 } : Room) s m args below meth c Q cX8_swaps .int D A [(a_m, .inr (8, [.ref a_ms, .ref a_mw, .ref a_mv, .ref a_mp, .ref a_mf, .int m_chg, .int r.2.1, .int r.2.2.1, .int r.2.2.2.1, .int r.2.2.2.2.1, .int m_err, .int m_ans, .int m_sav, .int m_net, .ref a_ml, .int m_lin, .ref a_mt, .ref a_mc, .int m_tap, .int m_her, .int m_cmd])), (a_ms, .inl (T 0, 103, .inl r.2.2.2.2.2))] r.1) (x1 : Int32) (l1 : Int32) (l2 : Int32) (l3 : Int32) (m_thr : Int32) (m_rea : Int32) (m_det : Int32) (m_ref : Int32) (v_ms : Nat → Int32) {H : Heap} {locs : List Loc} (hPD : va_PD D A [(a_m, .inr (8, [.ref a_ms, .ref a_mw, .ref a_mv, .ref a_mp, .ref a_mf, .int m_chg, .int m_thr, .int m_rea, .int m_det, .int m_ref, .int m_err, .int m_ans, .int m_sav, .int m_net, .ref a_ml, .int m_lin, .ref a_mt, .ref a_mc, .int m_tap, .int m_her, .int m_cmd])), (a_ms, .inl (T 0, 103, .inl v_ms))] H) (hS : va_S A s.heap H locs) (ls : Array Slot) (hl : lv_has ls 4 [(0, .ref a_m), (1, .int l1), (2, .int l2), (3, .int l3)]) (h : fX8_swaps_69 x1 l1 l2 l3 m_thr m_rea m_det m_ref v_ms = some r) : W p l e ({ frames := 2, cells := 0, slots := 0, locals := 45 } : Room) s m args below meth c H locs 0 0 Q (F0 m 69 ls [.int x1, .ref a_m]) := by
  have hx := C.1
  have hb := C.2.1
  obtain ⟨hP, hD⟩ := hPD
  unfold fX8_swaps_69 at h
  refine lv_bipush (v := 12) hx hb dX8_swaps_69 (by decide) ?_
  refine lv_aload_n hx hb dX8_swaps_71 rfl (lv_at hl 0 rfl) ?_
  refine lv_iload_n hx hb dX8_swaps_72 rfl (lv_at hl 2 rfl) ?_
  refine lv_iconst (v := 0) hx hb dX8_swaps_73 (by decide) ?_
  replace h := bnd h; obtain ⟨q21, e22, h⟩ := h
  refine rdV C hE hP (kX8_of l D T a_m a_ms a_mw a_mv a_mp a_mf a_ml a_mt a_mc m_chg m_thr m_rea m_det m_ref m_err m_ans m_sav m_net m_lin m_tap m_her m_cmd v_ms l2 0 q21 e22) mX8_of qLX8_90 [0, 1] 0 rfl rfl rfl rfl ⟨rfl, rfl⟩ ⟨Nat.le_of_ble_eq_true rfl, Nat.le_of_ble_eq_true rfl⟩ rfl hl.1 rfl (Nat.le_of_ble_eq_true rfl) dX8_swaps_74 ⟨Nat.le_of_ble_eq_true rfl, Nat.le_of_ble_eq_true rfl⟩ ?_
  replace h := bnd h; obtain ⟨q23, e24, h⟩ := h
  refine wrVi (ws1 := [(a_m, .inr (8, [.ref a_ms, .ref a_mw, .ref a_mv, .ref a_mp, .ref a_mf, .int m_chg, .int q23.2.1, .int q23.2.2.1, .int q23.2.2.2.1, .int q23.2.2.2.2, .int m_err, .int m_ans, .int m_sav, .int m_net, .ref a_ml, .int m_lin, .ref a_mt, .ref a_mc, .int m_tap, .int m_her, .int m_cmd])), (a_ms, .inl (T 0, 103, .inl v_ms))]) C hE hP hD hS hA (kX8_isRefused l D T a_m a_ms a_mw a_mv a_mp a_mf a_ml a_mt a_mc m_chg m_thr m_rea m_det m_ref m_err m_ans m_sav m_net m_lin m_tap m_her m_cmd x1 12 q21 _ q23 e24) mX8_isRefused qLX8_99 [0] [1] 0 rfl rfl rfl rfl rfl rfl rfl rfl rfl ⟨rfl, rfl⟩ ⟨Nat.le_of_ble_eq_true rfl, Nat.le_of_ble_eq_true rfl⟩ rfl hl.1 rfl (Nat.le_of_ble_eq_true rfl) dX8_swaps_77 ⟨Nat.le_of_ble_eq_true rfl, Nat.le_of_ble_eq_true rfl⟩ ?_; clear hP hD hS; intro H locs hP hD hS
  refine lv_if_ne (tgt := 148) hx hb dX8_swaps_80 (by decide) (fun c25 => ?_) (fun c25 => ?_)
  · replace h := ite_f c25 h
    refine lv_iconst (v := 0) hx hb dX8_swaps_148 (by decide) ?_
    replace h := Option.some.inj h
    exact hret _ _ _ _ _ _ dX8_swaps_149 rfl (by rw [← h] <;> rfl) (by rw [← h]; exact hP) hS
  · replace h := ite_t c25 h
    refine lv_aload_n hx hb dX8_swaps_83 rfl (lv_at hl 0 rfl) ?_
    refine lv_aload_n hx hb dX8_swaps_84 rfl (lv_at hl 0 rfl) ?_
    refine lv_iload_n hx hb dX8_swaps_85 rfl (lv_at hl 2 rfl) ?_
    refine lv_iconst (v := 4) hx hb dX8_swaps_86 (by decide) ?_
    replace h := bnd h; obtain ⟨q26, e27, h⟩ := h
    refine rdV C hE hP (kX8_of l D T a_m a_ms a_mw a_mv a_mp a_mf a_ml a_mt a_mc m_chg q23.2.1 q23.2.2.1 q23.2.2.2.1 q23.2.2.2.2 m_err m_ans m_sav m_net m_lin m_tap m_her m_cmd v_ms l2 4 q26 e27) mX8_of qLX8_90 [0, 1] 0 rfl rfl rfl rfl ⟨rfl, rfl⟩ ⟨Nat.le_of_ble_eq_true rfl, Nat.le_of_ble_eq_true rfl⟩ rfl hl.1 rfl (Nat.le_of_ble_eq_true rfl) dX8_swaps_87 ⟨Nat.le_of_ble_eq_true rfl, Nat.le_of_ble_eq_true rfl⟩ ?_
    refine lv_if_lt (tgt := 97) hx hb dX8_swaps_90 (by decide) (fun c28 => ?_) (fun c28 => ?_)
    · rw [if_pos c28] at h
      refine lv_iconst (v := 0) hx hb dX8_swaps_97 (by decide) ?_
      exact lX8_swaps_98 C hE hA hret 0 l1 l2 l3 q23.2.1 q23.2.2.1 q23.2.2.2.1 q23.2.2.2.2 v_ms ⟨hP, hD⟩ hS _ (lv_sub hl [0, 1, 2, 3] rfl) h
    · rw [if_neg c28] at h
      refine lv_iconst (v := 1) hx hb dX8_swaps_93 (by decide) ?_
      refine lv_goto (tgt := 98) hx hb dX8_swaps_94 (by decide) ?_
      exact lX8_swaps_98 C hE hA hret 1 l1 l2 l3 q23.2.1 q23.2.2.1 q23.2.2.2.1 q23.2.2.2.2 v_ms ⟨hP, hD⟩ hS _ (lv_sub hl [0, 1, 2, 3] rfl) h
set_option maxHeartbeats 4000000 in
set_option maxRecDepth 100000 in
theorem lX8_swaps_22 {p : Program} {l : Launch} {e : Env} {s : State} {m : MethodId} {args : Array Value} {below : List Frame} {meth : Method} {c : Code} {Q : State → Prop} {D : va_G} {T : Nat → ClassId} {a_m a_ms a_mw a_mv a_mp a_mf a_ml a_mt a_mc : Nat} {m_chg : Int32} {m_err : Int32} {m_ans : Int32} {m_sav : Int32} {m_net : Int32} {m_lin : Int32} {m_tap : Int32} {m_her : Int32} {m_cmd : Int32} {A : Nat → Prop} {r : Int32 × Int32 × Int32 × Int32 × Int32 × (Nat → Int32)} (C : CallFix p m c cX8_swaps 4 s args aw RX8) (hE : eK D T s) (hA : ∀ q : Nat, s.heap.size ≤ q → A q) (hret : WrRet p l e ({ frames := 2, cells := 0, slots := 0, locals := 45 } : Room) s m args below meth c Q cX8_swaps .int D A [(a_m, .inr (8, [.ref a_ms, .ref a_mw, .ref a_mv, .ref a_mp, .ref a_mf, .int m_chg, .int r.2.1, .int r.2.2.1, .int r.2.2.2.1, .int r.2.2.2.2.1, .int m_err, .int m_ans, .int m_sav, .int m_net, .ref a_ml, .int m_lin, .ref a_mt, .ref a_mc, .int m_tap, .int m_her, .int m_cmd])), (a_ms, .inl (T 0, 103, .inl r.2.2.2.2.2))] r.1) (x1 : Int32) (l1 : Int32) (l2 : Int32) (m_thr : Int32) (m_rea : Int32) (m_det : Int32) (m_ref : Int32) (v_ms : Nat → Int32) {H : Heap} {locs : List Loc} (hPD : va_PD D A [(a_m, .inr (8, [.ref a_ms, .ref a_mw, .ref a_mv, .ref a_mp, .ref a_mf, .int m_chg, .int m_thr, .int m_rea, .int m_det, .int m_ref, .int m_err, .int m_ans, .int m_sav, .int m_net, .ref a_ml, .int m_lin, .ref a_mt, .ref a_mc, .int m_tap, .int m_her, .int m_cmd])), (a_ms, .inl (T 0, 103, .inl v_ms))] H) (hS : va_S A s.heap H locs) (ls : Array Slot) (hl : lv_has ls 4 [(0, .ref a_m), (1, .int l1), (2, .int l2)]) (h : fX8_swaps_22 x1 l1 l2 m_thr m_rea m_det m_ref v_ms = some r) : W p l e ({ frames := 2, cells := 0, slots := 0, locals := 45 } : Room) s m args below meth c H locs 0 0 Q (F0 m 22 ls [.int x1, .ref a_m]) := by
  have hx := C.1
  have hb := C.2.1
  obtain ⟨hP, hD⟩ := hPD
  unfold fX8_swaps_22 at h
  refine lv_iconst (v := 1) hx hb dX8_swaps_22 (by decide) ?_
  replace h := bnd h; obtain ⟨q7, e8, h⟩ := h
  refine wrVi (ws1 := [(a_m, .inr (8, [.ref a_ms, .ref a_mw, .ref a_mv, .ref a_mp, .ref a_mf, .int m_chg, .int q7.2, .int m_rea, .int m_det, .int m_ref, .int m_err, .int m_ans, .int m_sav, .int m_net, .ref a_ml, .int m_lin, .ref a_mt, .ref a_mc, .int m_tap, .int m_her, .int m_cmd])), (a_ms, .inl (T 0, 103, .inl v_ms))]) C hE hP hD hS hA (kX8_isThrown l D T a_m a_ms a_mw a_mv a_mp a_mf a_ml a_mt a_mc m_chg m_thr m_rea m_det m_ref m_err m_ans m_sav m_net m_lin m_tap m_her m_cmd x1 1 _ q7 e8) mX8_isThrown qLX8_80 [0] [1] 0 rfl rfl rfl rfl rfl rfl rfl rfl rfl ⟨rfl, rfl⟩ ⟨Nat.le_of_ble_eq_true rfl, Nat.le_of_ble_eq_true rfl⟩ rfl hl.1 rfl (Nat.le_of_ble_eq_true rfl) dX8_swaps_23 ⟨Nat.le_of_ble_eq_true rfl, Nat.le_of_ble_eq_true rfl⟩ ?_; clear hP hD hS; intro H locs hP hD hS
  refine lv_if_ne (tgt := 44) hx hb dX8_swaps_26 (by decide) (fun c9 => ?_) (fun c9 => ?_)
  · replace h := ite_f c9 h
    refine lv_iconst (v := 0) hx hb dX8_swaps_44 (by decide) ?_
    replace h := Option.some.inj h
    exact hret _ _ _ _ _ _ dX8_swaps_45 rfl (by rw [← h] <;> rfl) (by rw [← h]; exact hP) hS
  · replace h := ite_t c9 h
    refine lv_aload_n hx hb dX8_swaps_29 rfl (lv_at hl 0 rfl) ?_
    replace h := bnd h; obtain ⟨q10, e11, h⟩ := h
    refine wrVi (ws1 := [(a_m, .inr (8, [.ref a_ms, .ref a_mw, .ref a_mv, .ref a_mp, .ref a_mf, .int m_chg, .int q10.2.1, .int q10.2.2.1, .int q10.2.2.2.1, .int q10.2.2.2.2, .int m_err, .int m_ans, .int m_sav, .int m_net, .ref a_ml, .int m_lin, .ref a_mt, .ref a_mc, .int m_tap, .int m_her, .int m_cmd])), (a_ms, .inl (T 0, 103, .inl v_ms))]) C hE hP hD hS hA (kX8_isOver l D T a_m a_ms a_mw a_mv a_mp a_mf a_ml a_mt a_mc m_chg q7.2 m_rea m_det m_ref m_err m_ans m_sav m_net m_lin m_tap m_her m_cmd v_ms _ q10 e11) mX8_isOver qLX8_123 [0, 1] [] 0 rfl rfl rfl rfl rfl rfl rfl rfl rfl ⟨rfl, rfl⟩ ⟨Nat.le_of_ble_eq_true rfl, Nat.le_of_ble_eq_true rfl⟩ rfl hl.1 rfl (Nat.le_of_ble_eq_true rfl) dX8_swaps_30 ⟨Nat.le_of_ble_eq_true rfl, Nat.le_of_ble_eq_true rfl⟩ ?_; clear hP hD hS; intro H locs hP hD hS
    refine lv_if_ne (tgt := 44) hx hb dX8_swaps_33 (by decide) (fun c12 => ?_) (fun c12 => ?_)
    · replace h := ite_f c12 h
      refine lv_iconst (v := 0) hx hb dX8_swaps_44 (by decide) ?_
      replace h := Option.some.inj h
      exact hret _ _ _ _ _ _ dX8_swaps_45 rfl (by rw [← h] <;> rfl) (by rw [← h]; exact hP) hS
    · replace h := ite_t c12 h
      refine lv_aload_n hx hb dX8_swaps_36 rfl (lv_at hl 0 rfl) ?_
      refine lv_iload_n hx hb dX8_swaps_37 rfl (lv_at hl 1 rfl) ?_
      replace h := bnd h; obtain ⟨q13, e14, h⟩ := h
      refine wrVi (ws1 := [(a_m, .inr (8, [.ref a_ms, .ref a_mw, .ref a_mv, .ref a_mp, .ref a_mf, .int m_chg, .int q13.2.1, .int q13.2.2.1, .int q13.2.2.2.1, .int q13.2.2.2.2, .int m_err, .int m_ans, .int m_sav, .int m_net, .ref a_ml, .int m_lin, .ref a_mt, .ref a_mc, .int m_tap, .int m_her, .int m_cmd])), (a_ms, .inl (T 0, 103, .inl v_ms))]) C hE hP hD hS hA (kX8_isOnBench l D T a_m a_ms a_mw a_mv a_mp a_mf a_ml a_mt a_mc m_chg q10.2.1 q10.2.2.1 q10.2.2.2.1 q10.2.2.2.2 m_err m_ans m_sav m_net m_lin m_tap m_her m_cmd v_ms l1 _ q13 e14) mX8_isOnBench qLX8_127 [0, 1] [] 0 rfl rfl rfl rfl rfl rfl rfl rfl rfl ⟨rfl, rfl⟩ ⟨Nat.le_of_ble_eq_true rfl, Nat.le_of_ble_eq_true rfl⟩ rfl hl.1 rfl (Nat.le_of_ble_eq_true rfl) dX8_swaps_38 ⟨Nat.le_of_ble_eq_true rfl, Nat.le_of_ble_eq_true rfl⟩ ?_; clear hP hD hS; intro H locs hP hD hS
      refine lv_if_eq (tgt := 46) hx hb dX8_swaps_41 (by decide) (fun c15 => ?_) (fun c15 => ?_)
      · replace h := ite_t c15 h
        refine lv_aload_n hx hb dX8_swaps_46 rfl (lv_at hl 0 rfl) ?_
        refine lv_iload_n hx hb dX8_swaps_47 rfl (lv_at hl 1 rfl) ?_
        refine lv_iconst (v := 0) hx hb dX8_swaps_48 (by decide) ?_
        replace h := bnd h; obtain ⟨q16, e17, h⟩ := h
        refine rdV C hE hP (kX8_of l D T a_m a_ms a_mw a_mv a_mp a_mf a_ml a_mt a_mc m_chg q13.2.1 q13.2.2.1 q13.2.2.2.1 q13.2.2.2.2 m_err m_ans m_sav m_net m_lin m_tap m_her m_cmd v_ms l1 0 q16 e17) mX8_of qLX8_90 [0, 1] 0 rfl rfl rfl rfl ⟨rfl, rfl⟩ ⟨Nat.le_of_ble_eq_true rfl, Nat.le_of_ble_eq_true rfl⟩ rfl hl.1 rfl (Nat.le_of_ble_eq_true rfl) dX8_swaps_49 ⟨Nat.le_of_ble_eq_true rfl, Nat.le_of_ble_eq_true rfl⟩ ?_
        refine lv_istore_n (lv' := [(3, .int q16), (0, .ref a_m), (1, .int l1), (2, .int l2)]) hx hb dX8_swaps_52 rfl hl (by decide) rfl (fun ls hl => ?_)
        refine lv_aload_n hx hb dX8_swaps_53 rfl (lv_at hl 1 rfl) ?_
        refine lv_aload_n hx hb dX8_swaps_54 rfl (lv_at hl 1 rfl) ?_
        refine lv_iload_n hx hb dX8_swaps_55 rfl (lv_at hl 3 rfl) ?_
        refine lv_iconst (v := 0) hx hb dX8_swaps_56 (by decide) ?_
        replace h := bnd h; obtain ⟨q18, e19, h⟩ := h
        refine rdV C hE hP (kX8_of l D T a_m a_ms a_mw a_mv a_mp a_mf a_ml a_mt a_mc m_chg q13.2.1 q13.2.2.1 q13.2.2.2.1 q13.2.2.2.2 m_err m_ans m_sav m_net m_lin m_tap m_her m_cmd v_ms l2 0 q18 e19) mX8_of qLX8_90 [0, 1] 0 rfl rfl rfl rfl ⟨rfl, rfl⟩ ⟨Nat.le_of_ble_eq_true rfl, Nat.le_of_ble_eq_true rfl⟩ rfl hl.1 rfl (Nat.le_of_ble_eq_true rfl) dX8_swaps_57 ⟨Nat.le_of_ble_eq_true rfl, Nat.le_of_ble_eq_true rfl⟩ ?_
        refine lv_iload_n hx hb dX8_swaps_60 rfl (lv_at hl 0 rfl) ?_
        refine lv_icmp_eq (tgt := 68) hx hb dX8_swaps_61 (by decide) (fun c20 => ?_) (fun c20 => ?_)
        · rw [if_pos c20] at h
          refine lv_iconst (v := 0) hx hb dX8_swaps_68 (by decide) ?_
          exact lX8_swaps_69 C hE hA hret 0 l1 l2 q16 q13.2.1 q13.2.2.1 q13.2.2.2.1 q13.2.2.2.2 v_ms ⟨hP, hD⟩ hS _ (lv_sub hl [1, 2, 3, 0] rfl) h
        · rw [if_neg c20] at h
          refine lv_iconst (v := 1) hx hb dX8_swaps_64 (by decide) ?_
          refine lv_goto (tgt := 69) hx hb dX8_swaps_65 (by decide) ?_
          exact lX8_swaps_69 C hE hA hret 1 l1 l2 q16 q13.2.1 q13.2.2.1 q13.2.2.2.1 q13.2.2.2.2 v_ms ⟨hP, hD⟩ hS _ (lv_sub hl [1, 2, 3, 0] rfl) h
      · replace h := ite_f c15 h
        refine lv_iconst (v := 0) hx hb dX8_swaps_44 (by decide) ?_
        replace h := Option.some.inj h
        exact hret _ _ _ _ _ _ dX8_swaps_45 rfl (by rw [← h] <;> rfl) (by rw [← h]; exact hP) hS
set_option maxHeartbeats 4000000 in
set_option maxRecDepth 100000 in
theorem kX8_swaps (l : Launch) (D : va_G) (T : Nat → ClassId) (a_m a_ms a_mw a_mv a_mp a_mf a_ml a_mt a_mc : Nat) (m_chg : Int32) (m_thr : Int32) (m_rea : Int32) (m_det : Int32) (m_ref : Int32) (m_err : Int32) (m_ans : Int32) (m_sav : Int32) (m_net : Int32) (m_lin : Int32) (m_tap : Int32) (m_her : Int32) (m_cmd : Int32) (v_ms : Nat → Int32) (p0 : Int32) (p1 : Int32) (sz : Nat) (r : Int32 × Int32 × Int32 × Int32 × Int32 × (Nat → Int32)) (h : fX8_swaps m_thr m_rea m_det m_ref v_ms p0 p1 = some r) : WrI l yX8_swaps cX8_swaps 4 .int ({ frames := 2, cells := 0, slots := 0, locals := 45 } : Room) D T sz [(a_m, .inr (8, [.ref a_ms, .ref a_mw, .ref a_mv, .ref a_mp, .ref a_mf, .int m_chg, .int m_thr, .int m_rea, .int m_det, .int m_ref, .int m_err, .int m_ans, .int m_sav, .int m_net, .ref a_ml, .int m_lin, .ref a_mt, .ref a_mc, .int m_tap, .int m_her, .int m_cmd])), (a_ms, .inl (T 0, 103, .inl v_ms))] [(a_m, .inr (8, [.ref a_ms, .ref a_mw, .ref a_mv, .ref a_mp, .ref a_mf, .int m_chg, .int r.2.1, .int r.2.2.1, .int r.2.2.2.1, .int r.2.2.2.2.1, .int m_err, .int m_ans, .int m_sav, .int m_net, .ref a_ml, .int m_lin, .ref a_mt, .ref a_mc, .int m_tap, .int m_her, .int m_cmd])), (a_ms, .inl (T 0, 103, .inl r.2.2.2.2.2))] [.ref a_m, .int p0, .int p1] r.1 := by
  unfold fX8_swaps at h
  refine wrMet (by decide +kernel) rfl (fun p e s m args below meth c Q A C hE hA hP hD hS hret ls hl => ?_)
  have hx := C.1
  have hb := C.2.1
  have hl : lv_has ls 4 [(0, .ref a_m), (1, .int p0), (2, .int p1)] := hl
  refine lv_aload_n hx hb dX8_swaps_0 rfl (lv_at hl 0 rfl) ?_
  refine lv_aload_n hx hb dX8_swaps_1 rfl (lv_at hl 0 rfl) ?_
  refine lv_iload_n hx hb dX8_swaps_2 rfl (lv_at hl 1 rfl) ?_
  replace h := bnd h; obtain ⟨q1, e2, h⟩ := h
  refine rdV C hE hP (kX8_isWhale l D T a_m a_ms a_mw a_mv a_mp a_mf a_ml a_mt a_mc m_chg m_thr m_rea m_det m_ref m_err m_ans m_sav m_net m_lin m_tap m_her m_cmd v_ms p0 q1 e2) mX8_isWhale qLX8_120 [0, 1] 0 rfl rfl rfl rfl ⟨rfl, rfl⟩ ⟨Nat.le_of_ble_eq_true rfl, Nat.le_of_ble_eq_true rfl⟩ rfl hl.1 rfl (Nat.le_of_ble_eq_true rfl) dX8_swaps_3 ⟨Nat.le_of_ble_eq_true rfl, Nat.le_of_ble_eq_true rfl⟩ ?_
  refine lv_if_eq (tgt := 17) hx hb dX8_swaps_6 (by decide) (fun c3 => ?_) (fun c3 => ?_)
  · replace h := ite_t c3 h
    refine lv_iconst (v := 1) hx hb dX8_swaps_17 (by decide) ?_
    refine lv_goto (tgt := 22) hx hb dX8_swaps_18 (by decide) ?_
    exact lX8_swaps_22 C hE hA hret 1 p0 p1 m_thr m_rea m_det m_ref v_ms ⟨hP, hD⟩ hS _ (lv_sub hl [0, 1, 2] rfl) h
  · replace h := ite_f c3 h
    refine lv_aload_n hx hb dX8_swaps_9 rfl (lv_at hl 0 rfl) ?_
    refine lv_iload_n hx hb dX8_swaps_10 rfl (lv_at hl 2 rfl) ?_
    replace h := bnd h; obtain ⟨q4, e5, h⟩ := h
    refine rdV C hE hP (kX8_isWhale l D T a_m a_ms a_mw a_mv a_mp a_mf a_ml a_mt a_mc m_chg m_thr m_rea m_det m_ref m_err m_ans m_sav m_net m_lin m_tap m_her m_cmd v_ms p1 q4 e5) mX8_isWhale qLX8_120 [0, 1] 0 rfl rfl rfl rfl ⟨rfl, rfl⟩ ⟨Nat.le_of_ble_eq_true rfl, Nat.le_of_ble_eq_true rfl⟩ rfl hl.1 rfl (Nat.le_of_ble_eq_true rfl) dX8_swaps_11 ⟨Nat.le_of_ble_eq_true rfl, Nat.le_of_ble_eq_true rfl⟩ ?_
    refine lv_if_ne (tgt := 21) hx hb dX8_swaps_14 (by decide) (fun c6 => ?_) (fun c6 => ?_)
    · rw [if_neg c6] at h
      refine lv_iconst (v := 0) hx hb dX8_swaps_21 (by decide) ?_
      exact lX8_swaps_22 C hE hA hret 0 p0 p1 m_thr m_rea m_det m_ref v_ms ⟨hP, hD⟩ hS _ (lv_sub hl [0, 1, 2] rfl) h
    · rw [if_pos c6] at h
      refine lv_iconst (v := 1) hx hb dX8_swaps_17 (by decide) ?_
      refine lv_goto (tgt := 22) hx hb dX8_swaps_18 (by decide) ?_
      exact lX8_swaps_22 C hE hA hret 1 p0 p1 m_thr m_rea m_det m_ref v_ms ⟨hP, hD⟩ hS _ (lv_sub hl [0, 1, 2] rfl) h
