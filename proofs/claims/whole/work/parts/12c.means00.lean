def fX7_meanBreath_44 (v_gw : Nat → Int32) (v_gk : Nat → Int32) (rec6 : Int32 → Int32 → Int32 → Option (Nat × UInt64)) (l1 : Int32) (l2 : Int32) (l3 : Int32) : Option (Nat × UInt64) :=
  rec6 l1 l2 (l3 + 1)
def fX7_meanBreath_6 (v_gw : Nat → Int32) (v_gk : Nat → Int32) : Nat → Int32 → Int32 → Int32 → Option (Nat × UInt64)
  | 0, _, _, _ => none
  | k + 1, l1, l2, l3 =>
    (fX1_count v_gk 0).bind fun q1 =>
    if q1 ≤ l3 then
      if l2 = 0 then
        some (5, FP.dconst0)
      else
        if nn64 (FP.ddiv (FP.i2d l1) (FP.i2d l2)) = true then
        some (0, (FP.ddiv (FP.i2d l1) (FP.i2d l2)))
        else none
    else
      (fX1_isPlaying v_gw l3).bind fun q6 =>
      if q6 = 0 then
        fX7_meanBreath_44 v_gw v_gk (fX7_meanBreath_6 v_gw v_gk k) l1 l2 l3
      else
        (fX1_of v_gw l3 3).bind fun q9 =>
        fX7_meanBreath_44 v_gw v_gk (fX7_meanBreath_6 v_gw v_gk k) (l1 + q9) (l2 + 1) l3
def fX7_meanBreath (v_gw : Nat → Int32) (v_gk : Nat → Int32) : Option (Nat × UInt64) :=
  fX7_meanBreath_6 v_gw v_gk 64 0 0 0
set_option maxHeartbeats 4000000 in
set_option maxRecDepth 100000 in
theorem lX7_meanBreath_44 {p : Program} {l : Launch} {e : Env} {s : State} {m : MethodId} {args : Array Value} {below : List Frame} {meth : Method} {c : Code} {Q : State → Prop} {D : va_G} {T : Nat → ClassId} {a_g a_gw a_gk a_x a_b a_v a_h a_r a_f a_u a_t a_n : Nat} {x_sav : Int32} {x_err : Int32} {x_rea : Int32} {x_det : Int32} {x_com : Int32} {v_gw : Nat → Int32} {v_gk : Nat → Int32} {A : Nat → Prop} {r : Nat × UInt64} (C : CallFix p m c cX7_meanBreath 4 s args aw RX7) (hE : eK D T s) (hA : ∀ q : Nat, s.heap.size ≤ q → A q) (hZ : eX l A s) (hret : ThRetD p l e ({ frames := 6, cells := 1, slots := 6, locals := 90 } : Room) s m args below meth c Q cX7_meanBreath D A [(a_g, .inr (1, [.ref a_gw, .ref a_gk])), (a_x, .inr (7, [.ref a_g, .ref a_b, .ref a_v, .ref a_h, .ref a_r, .ref a_f, .ref a_u, .ref a_t, .ref a_n, .int x_sav, .int x_err, .int x_rea, .int x_det, .int x_com])), (a_gw, .inl (T 0, 90, .inl v_gw)), (a_gk, .inl (T 0, 18, .inl v_gk))] r.1 r.2 ∧ ThOut p l e ({ frames := 6, cells := 1, slots := 6, locals := 90 } : Room) s m args below meth c Q D A [(a_g, .inr (1, [.ref a_gw, .ref a_gk])), (a_x, .inr (7, [.ref a_g, .ref a_b, .ref a_v, .ref a_h, .ref a_r, .ref a_f, .ref a_u, .ref a_t, .ref a_n, .int x_sav, .int x_err, .int x_rea, .int x_det, .int x_com])), (a_gw, .inl (T 0, 90, .inl v_gw)), (a_gk, .inl (T 0, 18, .inl v_gk))] r.1 ∧ ThThr p l e ({ frames := 6, cells := 1, slots := 6, locals := 90 } : Room) s m args below meth c Q cX7_meanBreath RX7 D A [(a_g, .inr (1, [.ref a_gw, .ref a_gk])), (a_x, .inr (7, [.ref a_g, .ref a_b, .ref a_v, .ref a_h, .ref a_r, .ref a_f, .ref a_u, .ref a_t, .ref a_n, .int x_sav, .int x_err, .int x_rea, .int x_det, .int x_com])), (a_gw, .inl (T 0, 90, .inl v_gw)), (a_gk, .inl (T 0, 18, .inl v_gk))] r.1) {rec6 : Int32 → Int32 → Int32 → Option (Nat × UInt64)} (hrec6 : ∀ (l1 : Int32) (l2 : Int32) (l3 : Int32) {H : Heap} {locs : List Loc} (hPD : va_PD D A [(a_g, .inr (1, [.ref a_gw, .ref a_gk])), (a_x, .inr (7, [.ref a_g, .ref a_b, .ref a_v, .ref a_h, .ref a_r, .ref a_f, .ref a_u, .ref a_t, .ref a_n, .int x_sav, .int x_err, .int x_rea, .int x_det, .int x_com])), (a_gw, .inl (T 0, 90, .inl v_gw)), (a_gk, .inl (T 0, 18, .inl v_gk))] H) (hS : va_S A s.heap H locs) (ls : Array Slot) (hl : lv_has ls 4 [(0, .ref a_x), (1, .int l1), (2, .int l2), (3, .int l3)]) (h : rec6 l1 l2 l3 = some r), W p l e ({ frames := 6, cells := 1, slots := 6, locals := 90 } : Room) s m args below meth c H locs 0 0 Q (F0 m 6 ls [])) (l1 : Int32) (l2 : Int32) (l3 : Int32) {H : Heap} {locs : List Loc} (hPD : va_PD D A [(a_g, .inr (1, [.ref a_gw, .ref a_gk])), (a_x, .inr (7, [.ref a_g, .ref a_b, .ref a_v, .ref a_h, .ref a_r, .ref a_f, .ref a_u, .ref a_t, .ref a_n, .int x_sav, .int x_err, .int x_rea, .int x_det, .int x_com])), (a_gw, .inl (T 0, 90, .inl v_gw)), (a_gk, .inl (T 0, 18, .inl v_gk))] H) (hS : va_S A s.heap H locs) (ls : Array Slot) (hl : lv_has ls 4 [(0, .ref a_x), (1, .int l1), (2, .int l2), (3, .int l3)]) (h : fX7_meanBreath_44 v_gw v_gk rec6 l1 l2 l3 = some r) : W p l e ({ frames := 6, cells := 1, slots := 6, locals := 90 } : Room) s m args below meth c H locs 0 0 Q (F0 m 44 ls []) := by
  have hx := C.1
  have hb := C.2.1
  obtain ⟨hP, hD⟩ := hPD
  unfold fX7_meanBreath_44 at h
  refine lv_iinc (v := (l3 + 1)) (lv' := [(3, .int (l3 + 1)), (0, .ref a_x), (1, .int l1), (2, .int l2)]) hx hb dX7_meanBreath_44 hl (k := 3) rfl rfl (by decide) rfl (fun ls hl => ?_)
  refine lv_goto (tgt := 6) hx hb dX7_meanBreath_47 (by decide) ?_
  exact hrec6 l1 l2 (l3 + 1) ⟨hP, hD⟩ hS _ (lv_sub hl [1, 2, 3, 0] rfl) h
set_option maxHeartbeats 4000000 in
set_option maxRecDepth 100000 in
theorem lX7_meanBreath_6 {p : Program} {l : Launch} {e : Env} {s : State} {m : MethodId} {args : Array Value} {below : List Frame} {meth : Method} {c : Code} {Q : State → Prop} {D : va_G} {T : Nat → ClassId} {a_g a_gw a_gk a_x a_b a_v a_h a_r a_f a_u a_t a_n : Nat} {x_sav : Int32} {x_err : Int32} {x_rea : Int32} {x_det : Int32} {x_com : Int32} {v_gw : Nat → Int32} {v_gk : Nat → Int32} {A : Nat → Prop} {r : Nat × UInt64} (C : CallFix p m c cX7_meanBreath 4 s args aw RX7) (hE : eK D T s) (hA : ∀ q : Nat, s.heap.size ≤ q → A q) (hZ : eX l A s) (hret : ThRetD p l e ({ frames := 6, cells := 1, slots := 6, locals := 90 } : Room) s m args below meth c Q cX7_meanBreath D A [(a_g, .inr (1, [.ref a_gw, .ref a_gk])), (a_x, .inr (7, [.ref a_g, .ref a_b, .ref a_v, .ref a_h, .ref a_r, .ref a_f, .ref a_u, .ref a_t, .ref a_n, .int x_sav, .int x_err, .int x_rea, .int x_det, .int x_com])), (a_gw, .inl (T 0, 90, .inl v_gw)), (a_gk, .inl (T 0, 18, .inl v_gk))] r.1 r.2 ∧ ThOut p l e ({ frames := 6, cells := 1, slots := 6, locals := 90 } : Room) s m args below meth c Q D A [(a_g, .inr (1, [.ref a_gw, .ref a_gk])), (a_x, .inr (7, [.ref a_g, .ref a_b, .ref a_v, .ref a_h, .ref a_r, .ref a_f, .ref a_u, .ref a_t, .ref a_n, .int x_sav, .int x_err, .int x_rea, .int x_det, .int x_com])), (a_gw, .inl (T 0, 90, .inl v_gw)), (a_gk, .inl (T 0, 18, .inl v_gk))] r.1 ∧ ThThr p l e ({ frames := 6, cells := 1, slots := 6, locals := 90 } : Room) s m args below meth c Q cX7_meanBreath RX7 D A [(a_g, .inr (1, [.ref a_gw, .ref a_gk])), (a_x, .inr (7, [.ref a_g, .ref a_b, .ref a_v, .ref a_h, .ref a_r, .ref a_f, .ref a_u, .ref a_t, .ref a_n, .int x_sav, .int x_err, .int x_rea, .int x_det, .int x_com])), (a_gw, .inl (T 0, 90, .inl v_gw)), (a_gk, .inl (T 0, 18, .inl v_gk))] r.1) : ∀ (k : Nat) (l1 : Int32) (l2 : Int32) (l3 : Int32) {H : Heap} {locs : List Loc} (hPD : va_PD D A [(a_g, .inr (1, [.ref a_gw, .ref a_gk])), (a_x, .inr (7, [.ref a_g, .ref a_b, .ref a_v, .ref a_h, .ref a_r, .ref a_f, .ref a_u, .ref a_t, .ref a_n, .int x_sav, .int x_err, .int x_rea, .int x_det, .int x_com])), (a_gw, .inl (T 0, 90, .inl v_gw)), (a_gk, .inl (T 0, 18, .inl v_gk))] H) (hS : va_S A s.heap H locs) (ls : Array Slot) (hl : lv_has ls 4 [(0, .ref a_x), (1, .int l1), (2, .int l2), (3, .int l3)]) (h : fX7_meanBreath_6 v_gw v_gk k l1 l2 l3 = some r), W p l e ({ frames := 6, cells := 1, slots := 6, locals := 90 } : Room) s m args below meth c H locs 0 0 Q (F0 m 6 ls []) := by
  have hx := C.1
  have hb := C.2.1
  intro k
  induction k with
  | zero =>
    intro l1 l2 l3 H locs hPD hS ls hl h
    exact nomatch (show (none : Option (Nat × UInt64)) = some r from h)
  | succ k ih =>
    intro l1 l2 l3 H locs hPD hS ls hl h
    obtain ⟨hP, hD⟩ := hPD
    rw [fX7_meanBreath_6] at h
    refine lv_iload_n hx hb dX7_meanBreath_6 rfl (lv_at hl 3 rfl) ?_
    refine lv_aload_n hx hb dX7_meanBreath_7 rfl (lv_at hl 0 rfl) ?_
    refine getF (q0 := 1) (k0 := 0) (v := .ref a_g) C hE hP inA7 rfl rfl (by decide) qFX7_10 rfl rfl dX7_meanBreath_8 ?_
    refine lv_iconst (v := 0) hx hb dX7_meanBreath_11 (by decide) ?_
    replace h := bnd h; obtain ⟨q1, e2, h⟩ := h
    refine rdV C hE hP (kX1_count l D T a_g a_gw a_gk v_gk 0 q1 e2) mX1_count qLX7_235 [0, 3] 0 rfl rfl rfl rfl ⟨rfl, rfl⟩ ⟨Nat.le_of_ble_eq_true rfl, Nat.le_of_ble_eq_true rfl⟩ rfl hl.1 rfl (Nat.le_of_ble_eq_true rfl) dX7_meanBreath_12 ⟨Nat.le_of_ble_eq_true rfl, Nat.le_of_ble_eq_true rfl⟩ ?_
    refine lv_icmp_ge (tgt := 50) hx hb dX7_meanBreath_15 (by decide) (fun c3 => ?_) (fun c3 => ?_)
    · replace h := ite_t c3 h
      refine lv_iload_n hx hb dX7_meanBreath_50 rfl (lv_at hl 2 rfl) ?_
      refine lv_if_ne (tgt := 65) hx hb dX7_meanBreath_51 (by decide) (fun c4 => ?_) (fun c4 => ?_)
      · replace h := ite_f c4 h
        refine lv_iload_n hx hb dX7_meanBreath_65 rfl (lv_at hl 1 rfl) ?_
        refine lv_i2d hx hb dX7_meanBreath_66 ?_
        refine lv_iload_n hx hb dX7_meanBreath_67 rfl (lv_at hl 2 rfl) ?_
        refine lv_i2d hx hb dX7_meanBreath_68 ?_
        replace h := gd h; obtain ⟨g5, h⟩ := h
        refine lv_ddiv hx hb dX7_meanBreath_69 (nn64_of g5) ?_
        replace h := Option.some.inj h
        exact hret.1 _ _ _ _ _ _ _ (Nat.le_of_ble_eq_true rfl) (Nat.le_of_ble_eq_true rfl) dX7_meanBreath_70 (by rw [← h]) (by rw [← h] <;> rfl) hP hS
      · replace h := ite_t c4 h
        replace h := Option.some.inj h
        exact hret.2.2 _ _ _ _ _ _ _ 296 300 298 _ "no whales in play" (by rw [← h]; exact thrX7_296_300_5) (by decide +kernel) dX7_meanBreath_54 dX7_meanBreath_57 (Or.inr ⟨dX7_meanBreath_58, dX7_meanBreath_61, dX7_meanBreath_64⟩) (Nat.le_of_ble_eq_true rfl) (Nat.le_of_ble_eq_true rfl) (Nat.le_of_ble_eq_true rfl) (Nat.le_of_ble_eq_true rfl) (hl.1.trans C.2.2.1.symm) (by rw [← h]; exact (Nat.le_of_ble_eq_true rfl)) hP hS
    · replace h := ite_f c3 h
      refine lv_aload_n hx hb dX7_meanBreath_18 rfl (lv_at hl 0 rfl) ?_
      refine getF (q0 := 1) (k0 := 0) (v := .ref a_g) C hE hP inA7 rfl rfl (by decide) qFX7_10 rfl rfl dX7_meanBreath_19 ?_
      refine lv_iload_n hx hb dX7_meanBreath_22 rfl (lv_at hl 3 rfl) ?_
      replace h := bnd h; obtain ⟨q6, e7, h⟩ := h
      refine rdV C hE hP (kX1_isPlaying l D T a_g a_gw a_gk v_gw l3 q6 e7) mX1_isPlaying qLX7_200 [0, 2] 0 rfl rfl rfl rfl ⟨rfl, rfl⟩ ⟨Nat.le_of_ble_eq_true rfl, Nat.le_of_ble_eq_true rfl⟩ rfl hl.1 rfl (Nat.le_of_ble_eq_true rfl) dX7_meanBreath_23 ⟨Nat.le_of_ble_eq_true rfl, Nat.le_of_ble_eq_true rfl⟩ ?_
      refine lv_if_eq (tgt := 44) hx hb dX7_meanBreath_26 (by decide) (fun c8 => ?_) (fun c8 => ?_)
      · replace h := ite_t c8 h
        exact lX7_meanBreath_44 C hE hA hZ hret ih l1 l2 l3 ⟨hP, hD⟩ hS _ (lv_sub hl [0, 1, 2, 3] rfl) h
      · replace h := ite_f c8 h
        refine lv_iload_n hx hb dX7_meanBreath_29 rfl (lv_at hl 1 rfl) ?_
        refine lv_aload_n hx hb dX7_meanBreath_30 rfl (lv_at hl 0 rfl) ?_
        refine getF (q0 := 1) (k0 := 0) (v := .ref a_g) C hE hP inA7 rfl rfl (by decide) qFX7_10 rfl rfl dX7_meanBreath_31 ?_
        refine lv_iload_n hx hb dX7_meanBreath_34 rfl (lv_at hl 3 rfl) ?_
        refine lv_iconst (v := 3) hx hb dX7_meanBreath_35 (by decide) ?_
        replace h := bnd h; obtain ⟨q9, e10, h⟩ := h
        refine rdV C hE hP (kX1_of l D T a_g a_gw a_gk v_gw l3 3 q9 e10) mX1_of qLX7_148 [0, 2] 0 rfl rfl rfl rfl ⟨rfl, rfl⟩ ⟨Nat.le_of_ble_eq_true rfl, Nat.le_of_ble_eq_true rfl⟩ rfl hl.1 rfl (Nat.le_of_ble_eq_true rfl) dX7_meanBreath_36 ⟨Nat.le_of_ble_eq_true rfl, Nat.le_of_ble_eq_true rfl⟩ ?_
        refine lv_iadd hx hb dX7_meanBreath_39 ?_
        refine lv_istore_n (lv' := [(1, .int (l1 + q9)), (0, .ref a_x), (2, .int l2), (3, .int l3)]) hx hb dX7_meanBreath_40 rfl hl (by decide) rfl (fun ls hl => ?_)
        refine lv_iinc (v := (l2 + 1)) (lv' := [(2, .int (l2 + 1)), (1, .int (l1 + q9)), (0, .ref a_x), (3, .int l3)]) hx hb dX7_meanBreath_41 hl (k := 2) rfl rfl (by decide) rfl (fun ls hl => ?_)
        exact lX7_meanBreath_44 C hE hA hZ hret ih (l1 + q9) (l2 + 1) l3 ⟨hP, hD⟩ hS _ (lv_sub hl [2, 1, 0, 3] rfl) h
set_option maxHeartbeats 4000000 in
set_option maxRecDepth 100000 in
theorem kX7_meanBreath (l : Launch) (hnt : l.stackTraces = false) (D : va_G) (T : Nat → ClassId) (a_g a_gw a_gk a_x a_b a_v a_h a_r a_f a_u a_t a_n : Nat) (x_sav : Int32) (x_err : Int32) (x_rea : Int32) (x_det : Int32) (x_com : Int32) (v_gw : Nat → Int32) (v_gk : Nat → Int32) (sz : Nat) (r : Nat × UInt64) (h : fX7_meanBreath v_gw v_gk = some r) : ThD l yX7_meanBreath cX7_meanBreath 4 ({ frames := 6, cells := 1, slots := 6, locals := 90 } : Room) D T sz [(a_g, .inr (1, [.ref a_gw, .ref a_gk])), (a_x, .inr (7, [.ref a_g, .ref a_b, .ref a_v, .ref a_h, .ref a_r, .ref a_f, .ref a_u, .ref a_t, .ref a_n, .int x_sav, .int x_err, .int x_rea, .int x_det, .int x_com])), (a_gw, .inl (T 0, 90, .inl v_gw)), (a_gk, .inl (T 0, 18, .inl v_gk))] [(a_g, .inr (1, [.ref a_gw, .ref a_gk])), (a_x, .inr (7, [.ref a_g, .ref a_b, .ref a_v, .ref a_h, .ref a_r, .ref a_f, .ref a_u, .ref a_t, .ref a_n, .int x_sav, .int x_err, .int x_rea, .int x_det, .int x_com])), (a_gw, .inl (T 0, 90, .inl v_gw)), (a_gk, .inl (T 0, 18, .inl v_gk))] [.ref a_x] r.1 r.2 := by
  unfold fX7_meanBreath at h
  refine thMetD hnt (by decide +kernel) rfl (fun p e s m args below meth c Q A C hE hA hZ hP hD hS hret ls hl => ?_)
  have hx := C.1
  have hb := C.2.1
  have hl : lv_has ls 4 [(0, .ref a_x)] := hl
  refine lv_iconst (v := 0) hx hb dX7_meanBreath_0 (by decide) ?_
  refine lv_istore_n (lv' := [(1, .int 0), (0, .ref a_x)]) hx hb dX7_meanBreath_1 rfl hl (by decide) rfl (fun ls hl => ?_)
  refine lv_iconst (v := 0) hx hb dX7_meanBreath_2 (by decide) ?_
  refine lv_istore_n (lv' := [(2, .int 0), (1, .int 0), (0, .ref a_x)]) hx hb dX7_meanBreath_3 rfl hl (by decide) rfl (fun ls hl => ?_)
  refine lv_iconst (v := 0) hx hb dX7_meanBreath_4 (by decide) ?_
  refine lv_istore_n (lv' := [(3, .int 0), (2, .int 0), (1, .int 0), (0, .ref a_x)]) hx hb dX7_meanBreath_5 rfl hl (by decide) rfl (fun ls hl => ?_)
  exact lX7_meanBreath_6 C hE hA hZ hret 64 0 0 0 ⟨hP, hD⟩ hS _ (lv_sub hl [3, 2, 1, 0] rfl) h

def fX7_foulShare (v_gk : Nat → Int32) : Option (Nat × UInt32) :=
  (fX1_count v_gk 7).bind fun q1 =>
  if q1 = 0 then
    some (5, FP.fconst0)
  else
    (fX1_count v_gk 8).bind fun q4 =>
    if nn32 (FP.fdiv (FP.i2f q4) (FP.i2f q1)) = true then
    some (0, (FP.fdiv (FP.i2f q4) (FP.i2f q1)))
    else none
set_option maxHeartbeats 4000000 in
set_option maxRecDepth 100000 in
theorem kX7_foulShare (l : Launch) (hnt : l.stackTraces = false) (D : va_G) (T : Nat → ClassId) (a_g a_gw a_gk a_x a_b a_v a_h a_r a_f a_u a_t a_n : Nat) (x_sav : Int32) (x_err : Int32) (x_rea : Int32) (x_det : Int32) (x_com : Int32) (v_gk : Nat → Int32) (sz : Nat) (r : Nat × UInt32) (h : fX7_foulShare v_gk = some r) : ThF l yX7_foulShare cX7_foulShare 2 ({ frames := 6, cells := 1, slots := 6, locals := 90 } : Room) D T sz [(a_g, .inr (1, [.ref a_gw, .ref a_gk])), (a_x, .inr (7, [.ref a_g, .ref a_b, .ref a_v, .ref a_h, .ref a_r, .ref a_f, .ref a_u, .ref a_t, .ref a_n, .int x_sav, .int x_err, .int x_rea, .int x_det, .int x_com])), (a_gk, .inl (T 0, 18, .inl v_gk))] [(a_g, .inr (1, [.ref a_gw, .ref a_gk])), (a_x, .inr (7, [.ref a_g, .ref a_b, .ref a_v, .ref a_h, .ref a_r, .ref a_f, .ref a_u, .ref a_t, .ref a_n, .int x_sav, .int x_err, .int x_rea, .int x_det, .int x_com])), (a_gk, .inl (T 0, 18, .inl v_gk))] [.ref a_x] r.1 r.2 := by
  unfold fX7_foulShare at h
  refine thMetF hnt (by decide +kernel) rfl (fun p e s m args below meth c Q A C hE hA hZ hP hD hS hret ls hl => ?_)
  have hx := C.1
  have hb := C.2.1
  have hl : lv_has ls 2 [(0, .ref a_x)] := hl
  refine lv_aload_n hx hb dX7_foulShare_0 rfl (lv_at hl 0 rfl) ?_
  refine getF (q0 := 1) (k0 := 0) (v := .ref a_g) C hE hP inA7 rfl rfl (by decide) qFX7_10 rfl rfl dX7_foulShare_1 ?_
  refine lv_bipush (v := 7) hx hb dX7_foulShare_4 (by decide) ?_
  replace h := bnd h; obtain ⟨q1, e2, h⟩ := h
  refine rdV C hE hP (kX1_count l D T a_g a_gw a_gk v_gk 7 q1 e2) mX1_count qLX7_235 [0, 2] 0 rfl rfl rfl rfl ⟨rfl, rfl⟩ ⟨Nat.le_of_ble_eq_true rfl, Nat.le_of_ble_eq_true rfl⟩ rfl hl.1 rfl (Nat.le_of_ble_eq_true rfl) dX7_foulShare_6 ⟨Nat.le_of_ble_eq_true rfl, Nat.le_of_ble_eq_true rfl⟩ ?_
  refine lv_istore_n (lv' := [(1, .int q1), (0, .ref a_x)]) hx hb dX7_foulShare_9 rfl hl (by decide) rfl (fun ls hl => ?_)
  refine lv_iload_n hx hb dX7_foulShare_10 rfl (lv_at hl 0 rfl) ?_
  refine lv_if_ne (tgt := 25) hx hb dX7_foulShare_11 (by decide) (fun c3 => ?_) (fun c3 => ?_)
  · replace h := ite_f c3 h
    refine lv_aload_n hx hb dX7_foulShare_25 rfl (lv_at hl 1 rfl) ?_
    refine getF (q0 := 1) (k0 := 0) (v := .ref a_g) C hE hP inA7 rfl rfl (by decide) qFX7_10 rfl rfl dX7_foulShare_26 ?_
    refine lv_bipush (v := 8) hx hb dX7_foulShare_29 (by decide) ?_
    replace h := bnd h; obtain ⟨q4, e5, h⟩ := h
    refine rdV C hE hP (kX1_count l D T a_g a_gw a_gk v_gk 8 q4 e5) mX1_count qLX7_235 [0, 2] 0 rfl rfl rfl rfl ⟨rfl, rfl⟩ ⟨Nat.le_of_ble_eq_true rfl, Nat.le_of_ble_eq_true rfl⟩ rfl hl.1 rfl (Nat.le_of_ble_eq_true rfl) dX7_foulShare_31 ⟨Nat.le_of_ble_eq_true rfl, Nat.le_of_ble_eq_true rfl⟩ ?_
    refine lv_i2f hx hb dX7_foulShare_34 ?_
    refine lv_iload_n hx hb dX7_foulShare_35 rfl (lv_at hl 0 rfl) ?_
    refine lv_i2f hx hb dX7_foulShare_36 ?_
    replace h := gd h; obtain ⟨g6, h⟩ := h
    refine lv_fdiv hx hb dX7_foulShare_37 (nn32_of g6) ?_
    replace h := Option.some.inj h
    exact hret.1 _ _ _ _ _ _ _ (Nat.le_of_ble_eq_true rfl) (Nat.le_of_ble_eq_true rfl) dX7_foulShare_38 (by rw [← h]) (by rw [← h] <;> rfl) hP hS
  · replace h := ite_t c3 h
    replace h := Option.some.inj h
    exact hret.2.2 _ _ _ _ _ _ _ 296 300 301 _ "no strikes so far" (by rw [← h]; exact thrX7_296_300_5) (by decide +kernel) dX7_foulShare_14 dX7_foulShare_17 (Or.inr ⟨dX7_foulShare_18, dX7_foulShare_21, dX7_foulShare_24⟩) (Nat.le_of_ble_eq_true rfl) (Nat.le_of_ble_eq_true rfl) (Nat.le_of_ble_eq_true rfl) (Nat.le_of_ble_eq_true rfl) (hl.1.trans C.2.2.1.symm) (by rw [← h]; exact (Nat.le_of_ble_eq_true rfl)) hP hS

def fX8_meanBreath_34 (v_ms : Nat → Int32) (rec4 : Int32 → Int32 → Int32 → Option (UInt64 × Int32)) (x0 : Int32) (x1 : Int32) (l2 : Int32) (m_thr : Int32) : Option (UInt64 × Int32) :=
  rec4 (x0 + x1) (l2 + 1) m_thr
def fX8_meanBreath_64 (v_ms : Nat → Int32) (x1 : Int32) (l1 : Int32) (l2 : Int32) (m_thr : Int32) : Option (UInt64 × Int32) :=
  (fX8_isThrown m_thr x1 1).bind fun q13 =>
  if q13.1 = 0 then
    if nn64 (FP.ddiv (FP.i2d l1) (FP.i2d l2)) = true then
    some ((FP.ddiv (FP.i2d l1) (FP.i2d l2)), q13.2)
    else none
  else
    some (FP.dconst0, q13.2)
def fX8_meanBreath_4 (v_ms : Nat → Int32) : Nat → Int32 → Int32 → Int32 → Option (UInt64 × Int32)
  | 0, _, _, _ => none
  | k + 1, l1, l2, m_thr =>
    if vin 0 103 = true then
    if (v_ms (0 : Int32).toNatClampNeg) ≤ l2 then
      (fX8_playing v_ms 0).bind fun q3 =>
      (fX8_playing v_ms 1).bind fun q5 =>
      fX8_meanBreath_64 v_ms (if (q3 + q5) = 0 then 1 else 0) l1 (q3 + q5) m_thr
    else
      (fX8_of v_ms l2 4).bind fun q8 =>
      if q8 < 0 then
        fX8_meanBreath_34 v_ms (fX8_meanBreath_4 v_ms k) l1 0 l2 m_thr
      else
        (fX8_of v_ms l2 3).bind fun q11 =>
        fX8_meanBreath_34 v_ms (fX8_meanBreath_4 v_ms k) l1 q11 l2 m_thr
    else none
def fX8_meanBreath (m_thr : Int32) (v_ms : Nat → Int32) : Option (UInt64 × Int32) :=
  fX8_meanBreath_4 v_ms 64 0 0 m_thr
set_option maxHeartbeats 4000000 in
set_option maxRecDepth 100000 in
theorem lX8_meanBreath_34 {p : Program} {l : Launch} {e : Env} {s : State} {m : MethodId} {args : Array Value} {below : List Frame} {meth : Method} {c : Code} {Q : State → Prop} {D : va_G} {T : Nat → ClassId} {a_m a_ms a_mw a_mv a_mp a_mf a_ml a_mt a_mc : Nat} {m_chg : Int32} {m_rea : Int32} {m_det : Int32} {m_ref : Int32} {m_err : Int32} {m_ans : Int32} {m_sav : Int32} {m_net : Int32} {m_lin : Int32} {m_tap : Int32} {m_her : Int32} {m_cmd : Int32} {v_ms : Nat → Int32} {A : Nat → Prop} {r : UInt64 × Int32} (C : CallFix p m c cX8_meanBreath 3 s args aw RX8) (hE : eK D T s) (hA : ∀ q : Nat, s.heap.size ≤ q → A q) (hret : WrRetD p l e ({ frames := 2, cells := 0, slots := 0, locals := 45 } : Room) s m args below meth c Q cX8_meanBreath D A [(a_m, .inr (8, [.ref a_ms, .ref a_mw, .ref a_mv, .ref a_mp, .ref a_mf, .int m_chg, .int r.2, .int m_rea, .int m_det, .int m_ref, .int m_err, .int m_ans, .int m_sav, .int m_net, .ref a_ml, .int m_lin, .ref a_mt, .ref a_mc, .int m_tap, .int m_her, .int m_cmd])), (a_ms, .inl (T 0, 103, .inl v_ms))] r.1) {rec4 : Int32 → Int32 → Int32 → Option (UInt64 × Int32)} (hrec4 : ∀ (l1 : Int32) (l2 : Int32) (m_thr : Int32) {H : Heap} {locs : List Loc} (hPD : va_PD D A [(a_m, .inr (8, [.ref a_ms, .ref a_mw, .ref a_mv, .ref a_mp, .ref a_mf, .int m_chg, .int m_thr, .int m_rea, .int m_det, .int m_ref, .int m_err, .int m_ans, .int m_sav, .int m_net, .ref a_ml, .int m_lin, .ref a_mt, .ref a_mc, .int m_tap, .int m_her, .int m_cmd])), (a_ms, .inl (T 0, 103, .inl v_ms))] H) (hS : va_S A s.heap H locs) (ls : Array Slot) (hl : lv_has ls 3 [(0, .ref a_m), (1, .int l1), (2, .int l2)]) (h : rec4 l1 l2 m_thr = some r), W p l e ({ frames := 2, cells := 0, slots := 0, locals := 45 } : Room) s m args below meth c H locs 0 0 Q (F0 m 4 ls [])) (x0 : Int32) (x1 : Int32) (l2 : Int32) (m_thr : Int32) {H : Heap} {locs : List Loc} (hPD : va_PD D A [(a_m, .inr (8, [.ref a_ms, .ref a_mw, .ref a_mv, .ref a_mp, .ref a_mf, .int m_chg, .int m_thr, .int m_rea, .int m_det, .int m_ref, .int m_err, .int m_ans, .int m_sav, .int m_net, .ref a_ml, .int m_lin, .ref a_mt, .ref a_mc, .int m_tap, .int m_her, .int m_cmd])), (a_ms, .inl (T 0, 103, .inl v_ms))] H) (hS : va_S A s.heap H locs) (ls : Array Slot) (hl : lv_has ls 3 [(0, .ref a_m), (2, .int l2)]) (h : fX8_meanBreath_34 v_ms rec4 x0 x1 l2 m_thr = some r) : W p l e ({ frames := 2, cells := 0, slots := 0, locals := 45 } : Room) s m args below meth c H locs 0 0 Q (F0 m 34 ls [.int x1, .int x0]) := by
  have hx := C.1
  have hb := C.2.1
  obtain ⟨hP, hD⟩ := hPD
  unfold fX8_meanBreath_34 at h
  refine lv_iadd hx hb dX8_meanBreath_34 ?_
  refine lv_istore_n (lv' := [(1, .int (x0 + x1)), (0, .ref a_m), (2, .int l2)]) hx hb dX8_meanBreath_35 rfl hl (by decide) rfl (fun ls hl => ?_)
  refine lv_iinc (v := (l2 + 1)) (lv' := [(2, .int (l2 + 1)), (1, .int (x0 + x1)), (0, .ref a_m)]) hx hb dX8_meanBreath_36 hl (k := 2) rfl rfl (by decide) rfl (fun ls hl => ?_)
  refine lv_goto (tgt := 4) hx hb dX8_meanBreath_39 (by decide) ?_
  exact hrec4 (x0 + x1) (l2 + 1) m_thr ⟨hP, hD⟩ hS _ (lv_sub hl [2, 1, 0] rfl) h
set_option maxHeartbeats 4000000 in
set_option maxRecDepth 100000 in
theorem lX8_meanBreath_64 {p : Program} {l : Launch} {e : Env} {s : State} {m : MethodId} {args : Array Value} {below : List Frame} {meth : Method} {c : Code} {Q : State → Prop} {D : va_G} {T : Nat → ClassId} {a_m a_ms a_mw a_mv a_mp a_mf a_ml a_mt a_mc : Nat} {m_chg : Int32} {m_rea : Int32} {m_det : Int32} {m_ref : Int32} {m_err : Int32} {m_ans : Int32} {m_sav : Int32} {m_net : Int32} {m_lin : Int32} {m_tap : Int32} {m_her : Int32} {m_cmd : Int32} {v_ms : Nat → Int32} {A : Nat → Prop} {r : UInt64 × Int32} (C : CallFix p m c cX8_meanBreath 3 s args aw RX8) (hE : eK D T s) (hA : ∀ q : Nat, s.heap.size ≤ q → A q) (hret : WrRetD p l e ({ frames := 2, cells := 0, slots := 0, locals := 45 } : Room) s m args below meth c Q cX8_meanBreath D A [(a_m, .inr (8, [.ref a_ms, .ref a_mw, .ref a_mv, .ref a_mp, .ref a_mf, .int m_chg, .int r.2, .int m_rea, .int m_det, .int m_ref, .int m_err, .int m_ans, .int m_sav, .int m_net, .ref a_ml, .int m_lin, .ref a_mt, .ref a_mc, .int m_tap, .int m_her, .int m_cmd])), (a_ms, .inl (T 0, 103, .inl v_ms))] r.1) (x1 : Int32) (l1 : Int32) (l2 : Int32) (m_thr : Int32) {H : Heap} {locs : List Loc} (hPD : va_PD D A [(a_m, .inr (8, [.ref a_ms, .ref a_mw, .ref a_mv, .ref a_mp, .ref a_mf, .int m_chg, .int m_thr, .int m_rea, .int m_det, .int m_ref, .int m_err, .int m_ans, .int m_sav, .int m_net, .ref a_ml, .int m_lin, .ref a_mt, .ref a_mc, .int m_tap, .int m_her, .int m_cmd])), (a_ms, .inl (T 0, 103, .inl v_ms))] H) (hS : va_S A s.heap H locs) (ls : Array Slot) (hl : lv_has ls 3 [(1, .int l1), (2, .int l2)]) (h : fX8_meanBreath_64 v_ms x1 l1 l2 m_thr = some r) : W p l e ({ frames := 2, cells := 0, slots := 0, locals := 45 } : Room) s m args below meth c H locs 0 0 Q (F0 m 64 ls [.int x1, .ref a_m]) := by
  have hx := C.1
  have hb := C.2.1
  obtain ⟨hP, hD⟩ := hPD
  unfold fX8_meanBreath_64 at h
  refine lv_iconst (v := 1) hx hb dX8_meanBreath_64 (by decide) ?_
  replace h := bnd h; obtain ⟨q13, e14, h⟩ := h
  refine wrVi (ws1 := [(a_m, .inr (8, [.ref a_ms, .ref a_mw, .ref a_mv, .ref a_mp, .ref a_mf, .int m_chg, .int q13.2, .int m_rea, .int m_det, .int m_ref, .int m_err, .int m_ans, .int m_sav, .int m_net, .ref a_ml, .int m_lin, .ref a_mt, .ref a_mc, .int m_tap, .int m_her, .int m_cmd])), (a_ms, .inl (T 0, 103, .inl v_ms))]) C hE hP hD hS hA (kX8_isThrown l D T a_m a_ms a_mw a_mv a_mp a_mf a_ml a_mt a_mc m_chg m_thr m_rea m_det m_ref m_err m_ans m_sav m_net m_lin m_tap m_her m_cmd x1 1 _ q13 e14) mX8_isThrown qLX8_80 [0] [1] 0 rfl rfl rfl rfl rfl rfl rfl rfl rfl ⟨rfl, rfl⟩ ⟨Nat.le_of_ble_eq_true rfl, Nat.le_of_ble_eq_true rfl⟩ rfl hl.1 rfl (Nat.le_of_ble_eq_true rfl) dX8_meanBreath_65 ⟨Nat.le_of_ble_eq_true rfl, Nat.le_of_ble_eq_true rfl⟩ ?_; clear hP hD hS; intro H locs hP hD hS
  refine lv_if_eq (tgt := 75) hx hb dX8_meanBreath_68 (by decide) (fun c15 => ?_) (fun c15 => ?_)
  · replace h := ite_t c15 h
    refine lv_iload_n hx hb dX8_meanBreath_75 rfl (lv_at hl 0 rfl) ?_
    refine lv_i2d hx hb dX8_meanBreath_76 ?_
    refine lv_iload_n hx hb dX8_meanBreath_77 rfl (lv_at hl 1 rfl) ?_
    refine lv_i2d hx hb dX8_meanBreath_78 ?_
    replace h := gd h; obtain ⟨g16, h⟩ := h
    refine lv_ddiv hx hb dX8_meanBreath_79 (nn64_of g16) ?_
    replace h := Option.some.inj h
    exact hret _ _ _ _ _ dX8_meanBreath_80 (by rw [← h] <;> rfl) (by rw [← h]; exact hP) hS
  · replace h := ite_f c15 h
    refine lv_dconst0 hx hb dX8_meanBreath_71 ?_
    refine lv_goto (tgt := 80) hx hb dX8_meanBreath_72 (by decide) ?_
    replace h := Option.some.inj h
    exact hret _ _ _ _ _ dX8_meanBreath_80 (by rw [← h] <;> rfl) (by rw [← h]; exact hP) hS
set_option maxHeartbeats 4000000 in
set_option maxRecDepth 100000 in
theorem lX8_meanBreath_4 {p : Program} {l : Launch} {e : Env} {s : State} {m : MethodId} {args : Array Value} {below : List Frame} {meth : Method} {c : Code} {Q : State → Prop} {D : va_G} {T : Nat → ClassId} {a_m a_ms a_mw a_mv a_mp a_mf a_ml a_mt a_mc : Nat} {m_chg : Int32} {m_rea : Int32} {m_det : Int32} {m_ref : Int32} {m_err : Int32} {m_ans : Int32} {m_sav : Int32} {m_net : Int32} {m_lin : Int32} {m_tap : Int32} {m_her : Int32} {m_cmd : Int32} {v_ms : Nat → Int32} {A : Nat → Prop} {r : UInt64 × Int32} (C : CallFix p m c cX8_meanBreath 3 s args aw RX8) (hE : eK D T s) (hA : ∀ q : Nat, s.heap.size ≤ q → A q) (hret : WrRetD p l e ({ frames := 2, cells := 0, slots := 0, locals := 45 } : Room) s m args below meth c Q cX8_meanBreath D A [(a_m, .inr (8, [.ref a_ms, .ref a_mw, .ref a_mv, .ref a_mp, .ref a_mf, .int m_chg, .int r.2, .int m_rea, .int m_det, .int m_ref, .int m_err, .int m_ans, .int m_sav, .int m_net, .ref a_ml, .int m_lin, .ref a_mt, .ref a_mc, .int m_tap, .int m_her, .int m_cmd])), (a_ms, .inl (T 0, 103, .inl v_ms))] r.1) : ∀ (k : Nat) (l1 : Int32) (l2 : Int32) (m_thr : Int32) {H : Heap} {locs : List Loc} (hPD : va_PD D A [(a_m, .inr (8, [.ref a_ms, .ref a_mw, .ref a_mv, .ref a_mp, .ref a_mf, .int m_chg, .int m_thr, .int m_rea, .int m_det, .int m_ref, .int m_err, .int m_ans, .int m_sav, .int m_net, .ref a_ml, .int m_lin, .ref a_mt, .ref a_mc, .int m_tap, .int m_her, .int m_cmd])), (a_ms, .inl (T 0, 103, .inl v_ms))] H) (hS : va_S A s.heap H locs) (ls : Array Slot) (hl : lv_has ls 3 [(0, .ref a_m), (1, .int l1), (2, .int l2)]) (h : fX8_meanBreath_4 v_ms k l1 l2 m_thr = some r), W p l e ({ frames := 2, cells := 0, slots := 0, locals := 45 } : Room) s m args below meth c H locs 0 0 Q (F0 m 4 ls []) := by
  have hx := C.1
  have hb := C.2.1
  intro k
  induction k with
  | zero =>
    intro l1 l2 m_thr H locs hPD hS ls hl h
    exact nomatch (show (none : Option (UInt64 × Int32)) = some r from h)
  | succ k ih =>
    intro l1 l2 m_thr H locs hPD hS ls hl h
    obtain ⟨hP, hD⟩ := hPD
    rw [fX8_meanBreath_4] at h
    refine lv_iload_n hx hb dX8_meanBreath_4 rfl (lv_at hl 2 rfl) ?_
    refine lv_aload_n hx hb dX8_meanBreath_5 rfl (lv_at hl 0 rfl) ?_
    refine getF (q0 := 0) (k0 := 0) (v := .ref a_ms) C hE hP inA8 rfl rfl (by decide) qFX8_9 rfl rfl dX8_meanBreath_6 ?_
    refine lv_iconst (v := 0) hx hb dX8_meanBreath_9 (by decide) ?_
    replace h := gd h; obtain ⟨g1, h⟩ := h
    refine aldI (q0 := 1) C hE hP rfl g1 dX8_meanBreath_10 ?_
    refine lv_icmp_ge (tgt := 42) hx hb dX8_meanBreath_11 (by decide) (fun c2 => ?_) (fun c2 => ?_)
    · replace h := ite_t c2 h
      refine lv_aload_n hx hb dX8_meanBreath_42 rfl (lv_at hl 0 rfl) ?_
      refine lv_iconst (v := 0) hx hb dX8_meanBreath_43 (by decide) ?_
      replace h := bnd h; obtain ⟨q3, e4, h⟩ := h
      refine rdV C hE hP (kX8_playing l D T a_m a_ms a_mw a_mv a_mp a_mf a_ml a_mt a_mc m_chg m_thr m_rea m_det m_ref m_err m_ans m_sav m_net m_lin m_tap m_her m_cmd v_ms 0 q3 e4) mX8_playing qLX8_196 [0, 1] 0 rfl rfl rfl rfl ⟨rfl, rfl⟩ ⟨Nat.le_of_ble_eq_true rfl, Nat.le_of_ble_eq_true rfl⟩ rfl hl.1 rfl (Nat.le_of_ble_eq_true rfl) dX8_meanBreath_44 ⟨Nat.le_of_ble_eq_true rfl, Nat.le_of_ble_eq_true rfl⟩ ?_
      refine lv_aload_n hx hb dX8_meanBreath_47 rfl (lv_at hl 0 rfl) ?_
      refine lv_iconst (v := 1) hx hb dX8_meanBreath_48 (by decide) ?_
      replace h := bnd h; obtain ⟨q5, e6, h⟩ := h
      refine rdV C hE hP (kX8_playing l D T a_m a_ms a_mw a_mv a_mp a_mf a_ml a_mt a_mc m_chg m_thr m_rea m_det m_ref m_err m_ans m_sav m_net m_lin m_tap m_her m_cmd v_ms 1 q5 e6) mX8_playing qLX8_196 [0, 1] 0 rfl rfl rfl rfl ⟨rfl, rfl⟩ ⟨Nat.le_of_ble_eq_true rfl, Nat.le_of_ble_eq_true rfl⟩ rfl hl.1 rfl (Nat.le_of_ble_eq_true rfl) dX8_meanBreath_49 ⟨Nat.le_of_ble_eq_true rfl, Nat.le_of_ble_eq_true rfl⟩ ?_
      refine lv_iadd hx hb dX8_meanBreath_52 ?_
      refine lv_istore_n (lv' := [(2, .int (q3 + q5)), (0, .ref a_m), (1, .int l1)]) hx hb dX8_meanBreath_53 rfl hl (by decide) rfl (fun ls hl => ?_)
      refine lv_aload_n hx hb dX8_meanBreath_54 rfl (lv_at hl 1 rfl) ?_
      refine lv_iload_n hx hb dX8_meanBreath_55 rfl (lv_at hl 0 rfl) ?_
      refine lv_if_ne (tgt := 63) hx hb dX8_meanBreath_56 (by decide) (fun c7 => ?_) (fun c7 => ?_)
      · rw [if_neg c7] at h
        refine lv_iconst (v := 0) hx hb dX8_meanBreath_63 (by decide) ?_
        exact lX8_meanBreath_64 C hE hA hret 0 l1 (q3 + q5) m_thr ⟨hP, hD⟩ hS _ (lv_sub hl [2, 0] rfl) h
      · rw [if_pos c7] at h
        refine lv_iconst (v := 1) hx hb dX8_meanBreath_59 (by decide) ?_
        refine lv_goto (tgt := 64) hx hb dX8_meanBreath_60 (by decide) ?_
        exact lX8_meanBreath_64 C hE hA hret 1 l1 (q3 + q5) m_thr ⟨hP, hD⟩ hS _ (lv_sub hl [2, 0] rfl) h
    · replace h := ite_f c2 h
      refine lv_iload_n hx hb dX8_meanBreath_14 rfl (lv_at hl 1 rfl) ?_
      refine lv_aload_n hx hb dX8_meanBreath_15 rfl (lv_at hl 0 rfl) ?_
      refine lv_iload_n hx hb dX8_meanBreath_16 rfl (lv_at hl 2 rfl) ?_
      refine lv_iconst (v := 4) hx hb dX8_meanBreath_17 (by decide) ?_
      replace h := bnd h; obtain ⟨q8, e9, h⟩ := h
      refine rdV C hE hP (kX8_of l D T a_m a_ms a_mw a_mv a_mp a_mf a_ml a_mt a_mc m_chg m_thr m_rea m_det m_ref m_err m_ans m_sav m_net m_lin m_tap m_her m_cmd v_ms l2 4 q8 e9) mX8_of qLX8_90 [0, 1] 0 rfl rfl rfl rfl ⟨rfl, rfl⟩ ⟨Nat.le_of_ble_eq_true rfl, Nat.le_of_ble_eq_true rfl⟩ rfl hl.1 rfl (Nat.le_of_ble_eq_true rfl) dX8_meanBreath_18 ⟨Nat.le_of_ble_eq_true rfl, Nat.le_of_ble_eq_true rfl⟩ ?_
      refine lv_if_lt (tgt := 33) hx hb dX8_meanBreath_21 (by decide) (fun c10 => ?_) (fun c10 => ?_)
      · replace h := ite_t c10 h
        refine lv_iconst (v := 0) hx hb dX8_meanBreath_33 (by decide) ?_
        exact lX8_meanBreath_34 C hE hA hret ih l1 0 l2 m_thr ⟨hP, hD⟩ hS _ (lv_sub hl [0, 2] rfl) h
      · replace h := ite_f c10 h
        refine lv_aload_n hx hb dX8_meanBreath_24 rfl (lv_at hl 0 rfl) ?_
        refine lv_iload_n hx hb dX8_meanBreath_25 rfl (lv_at hl 2 rfl) ?_
        refine lv_iconst (v := 3) hx hb dX8_meanBreath_26 (by decide) ?_
        replace h := bnd h; obtain ⟨q11, e12, h⟩ := h
        refine rdV C hE hP (kX8_of l D T a_m a_ms a_mw a_mv a_mp a_mf a_ml a_mt a_mc m_chg m_thr m_rea m_det m_ref m_err m_ans m_sav m_net m_lin m_tap m_her m_cmd v_ms l2 3 q11 e12) mX8_of qLX8_90 [0, 1] 0 rfl rfl rfl rfl ⟨rfl, rfl⟩ ⟨Nat.le_of_ble_eq_true rfl, Nat.le_of_ble_eq_true rfl⟩ rfl hl.1 rfl (Nat.le_of_ble_eq_true rfl) dX8_meanBreath_27 ⟨Nat.le_of_ble_eq_true rfl, Nat.le_of_ble_eq_true rfl⟩ ?_
        refine lv_goto (tgt := 34) hx hb dX8_meanBreath_30 (by decide) ?_
        exact lX8_meanBreath_34 C hE hA hret ih l1 q11 l2 m_thr ⟨hP, hD⟩ hS _ (lv_sub hl [0, 2] rfl) h
set_option maxHeartbeats 4000000 in
set_option maxRecDepth 100000 in
theorem kX8_meanBreath (l : Launch) (D : va_G) (T : Nat → ClassId) (a_m a_ms a_mw a_mv a_mp a_mf a_ml a_mt a_mc : Nat) (m_chg : Int32) (m_thr : Int32) (m_rea : Int32) (m_det : Int32) (m_ref : Int32) (m_err : Int32) (m_ans : Int32) (m_sav : Int32) (m_net : Int32) (m_lin : Int32) (m_tap : Int32) (m_her : Int32) (m_cmd : Int32) (v_ms : Nat → Int32) (sz : Nat) (r : UInt64 × Int32) (h : fX8_meanBreath m_thr v_ms = some r) : WrD l yX8_meanBreath cX8_meanBreath 3 ({ frames := 2, cells := 0, slots := 0, locals := 45 } : Room) D T sz [(a_m, .inr (8, [.ref a_ms, .ref a_mw, .ref a_mv, .ref a_mp, .ref a_mf, .int m_chg, .int m_thr, .int m_rea, .int m_det, .int m_ref, .int m_err, .int m_ans, .int m_sav, .int m_net, .ref a_ml, .int m_lin, .ref a_mt, .ref a_mc, .int m_tap, .int m_her, .int m_cmd])), (a_ms, .inl (T 0, 103, .inl v_ms))] [(a_m, .inr (8, [.ref a_ms, .ref a_mw, .ref a_mv, .ref a_mp, .ref a_mf, .int m_chg, .int r.2, .int m_rea, .int m_det, .int m_ref, .int m_err, .int m_ans, .int m_sav, .int m_net, .ref a_ml, .int m_lin, .ref a_mt, .ref a_mc, .int m_tap, .int m_her, .int m_cmd])), (a_ms, .inl (T 0, 103, .inl v_ms))] [.ref a_m] r.1 := by
  unfold fX8_meanBreath at h
  refine wrMetD (by decide +kernel) rfl (fun p e s m args below meth c Q A C hE hA hP hD hS hret ls hl => ?_)
  have hx := C.1
  have hb := C.2.1
  have hl : lv_has ls 3 [(0, .ref a_m)] := hl
  refine lv_iconst (v := 0) hx hb dX8_meanBreath_0 (by decide) ?_
  refine lv_istore_n (lv' := [(1, .int 0), (0, .ref a_m)]) hx hb dX8_meanBreath_1 rfl hl (by decide) rfl (fun ls hl => ?_)
  refine lv_iconst (v := 0) hx hb dX8_meanBreath_2 (by decide) ?_
  refine lv_istore_n (lv' := [(2, .int 0), (1, .int 0), (0, .ref a_m)]) hx hb dX8_meanBreath_3 rfl hl (by decide) rfl (fun ls hl => ?_)
  exact lX8_meanBreath_4 C hE hA hret 64 0 0 m_thr ⟨hP, hD⟩ hS _ (lv_sub hl [2, 1, 0] rfl) h

def fX8_foulShare_16 (v_ms : Nat → Int32) (x1 : Int32) (m_thr : Int32) : Option (UInt32 × Int32) :=
  (fX8_isThrown m_thr x1 1).bind fun q3 =>
  if q3.1 = 0 then
    if vin 7 103 = true then
    if vin 6 103 = true then
    if nn32 (FP.fdiv (FP.i2f (v_ms (7 : Int32).toNatClampNeg)) (FP.i2f (v_ms (6 : Int32).toNatClampNeg))) = true then
    some ((FP.fdiv (FP.i2f (v_ms (7 : Int32).toNatClampNeg)) (FP.i2f (v_ms (6 : Int32).toNatClampNeg))), q3.2)
    else none
    else none
    else none
  else
    some (FP.fconst0, q3.2)
def fX8_foulShare (m_thr : Int32) (v_ms : Nat → Int32) : Option (UInt32 × Int32) :=
  if vin 6 103 = true then
  fX8_foulShare_16 v_ms (if (v_ms (6 : Int32).toNatClampNeg) = 0 then 1 else 0) m_thr
  else none
set_option maxHeartbeats 4000000 in
set_option maxRecDepth 100000 in
theorem lX8_foulShare_16 {p : Program} {l : Launch} {e : Env} {s : State} {m : MethodId} {args : Array Value} {below : List Frame} {meth : Method} {c : Code} {Q : State → Prop} {D : va_G} {T : Nat → ClassId} {a_m a_ms a_mw a_mv a_mp a_mf a_ml a_mt a_mc : Nat} {m_chg : Int32} {m_rea : Int32} {m_det : Int32} {m_ref : Int32} {m_err : Int32} {m_ans : Int32} {m_sav : Int32} {m_net : Int32} {m_lin : Int32} {m_tap : Int32} {m_her : Int32} {m_cmd : Int32} {v_ms : Nat → Int32} {A : Nat → Prop} {r : UInt32 × Int32} (C : CallFix p m c cX8_foulShare 1 s args aw RX8) (hE : eK D T s) (hA : ∀ q : Nat, s.heap.size ≤ q → A q) (hret : WrRetF p l e ({ frames := 1, cells := 0, slots := 0, locals := 22 } : Room) s m args below meth c Q cX8_foulShare D A [(a_m, .inr (8, [.ref a_ms, .ref a_mw, .ref a_mv, .ref a_mp, .ref a_mf, .int m_chg, .int r.2, .int m_rea, .int m_det, .int m_ref, .int m_err, .int m_ans, .int m_sav, .int m_net, .ref a_ml, .int m_lin, .ref a_mt, .ref a_mc, .int m_tap, .int m_her, .int m_cmd])), (a_ms, .inl (T 0, 103, .inl v_ms))] r.1) (x1 : Int32) (m_thr : Int32) {H : Heap} {locs : List Loc} (hPD : va_PD D A [(a_m, .inr (8, [.ref a_ms, .ref a_mw, .ref a_mv, .ref a_mp, .ref a_mf, .int m_chg, .int m_thr, .int m_rea, .int m_det, .int m_ref, .int m_err, .int m_ans, .int m_sav, .int m_net, .ref a_ml, .int m_lin, .ref a_mt, .ref a_mc, .int m_tap, .int m_her, .int m_cmd])), (a_ms, .inl (T 0, 103, .inl v_ms))] H) (hS : va_S A s.heap H locs) (ls : Array Slot) (hl : lv_has ls 1 [(0, .ref a_m)]) (h : fX8_foulShare_16 v_ms x1 m_thr = some r) : W p l e ({ frames := 1, cells := 0, slots := 0, locals := 22 } : Room) s m args below meth c H locs 0 0 Q (F0 m 16 ls [.int x1, .ref a_m]) := by
  have hx := C.1
  have hb := C.2.1
  obtain ⟨hP, hD⟩ := hPD
  unfold fX8_foulShare_16 at h
  refine lv_iconst (v := 1) hx hb dX8_foulShare_16 (by decide) ?_
  replace h := bnd h; obtain ⟨q3, e4, h⟩ := h
  refine wrVi (ws1 := [(a_m, .inr (8, [.ref a_ms, .ref a_mw, .ref a_mv, .ref a_mp, .ref a_mf, .int m_chg, .int q3.2, .int m_rea, .int m_det, .int m_ref, .int m_err, .int m_ans, .int m_sav, .int m_net, .ref a_ml, .int m_lin, .ref a_mt, .ref a_mc, .int m_tap, .int m_her, .int m_cmd])), (a_ms, .inl (T 0, 103, .inl v_ms))]) C hE hP hD hS hA (kX8_isThrown l D T a_m a_ms a_mw a_mv a_mp a_mf a_ml a_mt a_mc m_chg m_thr m_rea m_det m_ref m_err m_ans m_sav m_net m_lin m_tap m_her m_cmd x1 1 _ q3 e4) mX8_isThrown qLX8_80 [0] [1] 0 rfl rfl rfl rfl rfl rfl rfl rfl rfl ⟨rfl, rfl⟩ ⟨Nat.le_of_ble_eq_true rfl, Nat.le_of_ble_eq_true rfl⟩ rfl hl.1 rfl (Nat.le_of_ble_eq_true rfl) dX8_foulShare_17 ⟨Nat.le_of_ble_eq_true rfl, Nat.le_of_ble_eq_true rfl⟩ ?_; clear hP hD hS; intro H locs hP hD hS
  refine lv_if_eq (tgt := 27) hx hb dX8_foulShare_20 (by decide) (fun c5 => ?_) (fun c5 => ?_)
  · replace h := ite_t c5 h
    refine lv_aload_n hx hb dX8_foulShare_27 rfl (lv_at hl 0 rfl) ?_
    refine getF (q0 := 0) (k0 := 0) (v := .ref a_ms) C hE hP inA8 rfl rfl (by decide) qFX8_9 rfl rfl dX8_foulShare_28 ?_
    refine lv_bipush (v := 7) hx hb dX8_foulShare_31 (by decide) ?_
    replace h := gd h; obtain ⟨g6, h⟩ := h
    refine aldI (q0 := 1) C hE hP rfl g6 dX8_foulShare_33 ?_
    refine lv_i2f hx hb dX8_foulShare_34 ?_
    refine lv_aload_n hx hb dX8_foulShare_35 rfl (lv_at hl 0 rfl) ?_
    refine getF (q0 := 0) (k0 := 0) (v := .ref a_ms) C hE hP inA8 rfl rfl (by decide) qFX8_9 rfl rfl dX8_foulShare_36 ?_
    refine lv_bipush (v := 6) hx hb dX8_foulShare_39 (by decide) ?_
    replace h := gd h; obtain ⟨g7, h⟩ := h
    refine aldI (q0 := 1) C hE hP rfl g7 dX8_foulShare_41 ?_
    refine lv_i2f hx hb dX8_foulShare_42 ?_
    replace h := gd h; obtain ⟨g8, h⟩ := h
    refine lv_fdiv hx hb dX8_foulShare_43 (nn32_of g8) ?_
    replace h := Option.some.inj h
    exact hret _ _ _ _ _ dX8_foulShare_44 (by rw [← h] <;> rfl) (by rw [← h]; exact hP) hS
  · replace h := ite_f c5 h
    refine lv_fconst0 hx hb dX8_foulShare_23 ?_
    refine lv_goto (tgt := 44) hx hb dX8_foulShare_24 (by decide) ?_
    replace h := Option.some.inj h
    exact hret _ _ _ _ _ dX8_foulShare_44 (by rw [← h] <;> rfl) (by rw [← h]; exact hP) hS
set_option maxHeartbeats 4000000 in
set_option maxRecDepth 100000 in
theorem kX8_foulShare (l : Launch) (D : va_G) (T : Nat → ClassId) (a_m a_ms a_mw a_mv a_mp a_mf a_ml a_mt a_mc : Nat) (m_chg : Int32) (m_thr : Int32) (m_rea : Int32) (m_det : Int32) (m_ref : Int32) (m_err : Int32) (m_ans : Int32) (m_sav : Int32) (m_net : Int32) (m_lin : Int32) (m_tap : Int32) (m_her : Int32) (m_cmd : Int32) (v_ms : Nat → Int32) (sz : Nat) (r : UInt32 × Int32) (h : fX8_foulShare m_thr v_ms = some r) : WrF l yX8_foulShare cX8_foulShare 1 ({ frames := 1, cells := 0, slots := 0, locals := 22 } : Room) D T sz [(a_m, .inr (8, [.ref a_ms, .ref a_mw, .ref a_mv, .ref a_mp, .ref a_mf, .int m_chg, .int m_thr, .int m_rea, .int m_det, .int m_ref, .int m_err, .int m_ans, .int m_sav, .int m_net, .ref a_ml, .int m_lin, .ref a_mt, .ref a_mc, .int m_tap, .int m_her, .int m_cmd])), (a_ms, .inl (T 0, 103, .inl v_ms))] [(a_m, .inr (8, [.ref a_ms, .ref a_mw, .ref a_mv, .ref a_mp, .ref a_mf, .int m_chg, .int r.2, .int m_rea, .int m_det, .int m_ref, .int m_err, .int m_ans, .int m_sav, .int m_net, .ref a_ml, .int m_lin, .ref a_mt, .ref a_mc, .int m_tap, .int m_her, .int m_cmd])), (a_ms, .inl (T 0, 103, .inl v_ms))] [.ref a_m] r.1 := by
  unfold fX8_foulShare at h
  refine wrMetF (by decide +kernel) rfl (fun p e s m args below meth c Q A C hE hA hP hD hS hret ls hl => ?_)
  have hx := C.1
  have hb := C.2.1
  have hl : lv_has ls 1 [(0, .ref a_m)] := hl
  refine lv_aload_n hx hb dX8_foulShare_0 rfl (lv_at hl 0 rfl) ?_
  refine lv_aload_n hx hb dX8_foulShare_1 rfl (lv_at hl 0 rfl) ?_
  refine getF (q0 := 0) (k0 := 0) (v := .ref a_ms) C hE hP inA8 rfl rfl (by decide) qFX8_9 rfl rfl dX8_foulShare_2 ?_
  refine lv_bipush (v := 6) hx hb dX8_foulShare_5 (by decide) ?_
  replace h := gd h; obtain ⟨g1, h⟩ := h
  refine aldI (q0 := 1) C hE hP rfl g1 dX8_foulShare_7 ?_
  refine lv_if_ne (tgt := 15) hx hb dX8_foulShare_8 (by decide) (fun c2 => ?_) (fun c2 => ?_)
  · rw [if_neg c2] at h
    refine lv_iconst (v := 0) hx hb dX8_foulShare_15 (by decide) ?_
    exact lX8_foulShare_16 C hE hA hret 0 m_thr ⟨hP, hD⟩ hS _ (lv_sub hl [0] rfl) h
  · rw [if_pos c2] at h
    refine lv_iconst (v := 1) hx hb dX8_foulShare_11 (by decide) ?_
    refine lv_goto (tgt := 16) hx hb dX8_foulShare_12 (by decide) ?_
    exact lX8_foulShare_16 C hE hA hret 1 m_thr ⟨hP, hD⟩ hS _ (lv_sub hl [0] rfl) h
