def fX7_measure (v_gw : Nat → Int32) (p0 : Int32) (p1 : Int32) : Option Int32 :=
  if p0 = 0 then
    (fX1_of v_gw p1 3).bind fun q2 =>
    some q2
  else
    if p0 = 1 then
      (fX1_of v_gw p1 6).bind fun q5 =>
      some q5
    else
      if p0 = 2 then
        (fX1_of v_gw p1 7).bind fun q8 =>
        some q8
      else
        if p0 = 3 then
          (fX1_of v_gw p1 8).bind fun q11 =>
          some q11
        else
          (fX1_of v_gw p1 1).bind fun q13 =>
          (fX1_of v_gw p1 2).bind fun q15 =>
          some (q13 + q15)
set_option maxHeartbeats 4000000 in
set_option maxRecDepth 100000 in
theorem kX7_measure (l : Launch) (D : va_G) (T : Nat → ClassId) (a_g a_gw a_gk a_x a_b a_v a_h a_r a_f a_u a_t a_n : Nat) (x_sav : Int32) (x_err : Int32) (x_rea : Int32) (x_det : Int32) (x_com : Int32) (v_gw : Nat → Int32) (p0 : Int32) (p1 : Int32) (r : Int32) (h : fX7_measure v_gw p0 p1 = some r) : RdI l yX7_measure cX7_measure 3 .int ({ frames := 1, cells := 0, slots := 0, locals := 23 } : Room) D T [(a_g, .inr (1, [.ref a_gw, .ref a_gk])), (a_x, .inr (7, [.ref a_g, .ref a_b, .ref a_v, .ref a_h, .ref a_r, .ref a_f, .ref a_u, .ref a_t, .ref a_n, .int x_sav, .int x_err, .int x_rea, .int x_det, .int x_com])), (a_gw, .inl (T 0, 90, .inl v_gw))] [.ref a_x, .int p0, .int p1] r := by
  unfold fX7_measure at h
  refine rdMet (by decide +kernel) rfl (fun p e s m args below meth c Q C hE hP hret ls hl => ?_)
  have hx := C.1
  have hb := C.2.1
  have hl : lv_has ls 3 [(0, .ref a_x), (1, .int p0), (2, .int p1)] := hl
  refine lv_iload_n hx hb dX7_measure_0 rfl (lv_at hl 1 rfl) ?_
  by_cases c1 : p0 = 0
  · replace h := ite_t c1 h
    refine lv_tableIn (tgt := 32) hx hb dX7_measure_1 (by rw [c1]; decide) (by rw [c1]; decide) (by rw [c1]; rfl) (by decide) ?_
    refine lv_aload_n hx hb dX7_measure_32 rfl (lv_at hl 0 rfl) ?_
    refine getF (q0 := 1) (k0 := 0) (v := .ref a_g) C hE hP inA7 rfl rfl (by decide) qFX7_10 rfl rfl dX7_measure_33 ?_
    refine lv_iload_n hx hb dX7_measure_36 rfl (lv_at hl 2 rfl) ?_
    refine lv_iconst (v := 3) hx hb dX7_measure_37 (by decide) ?_
    replace h := bnd h; obtain ⟨q2, e3, h⟩ := h
    refine rdV C hE hP (kX1_of l D T a_g a_gw a_gk v_gw p1 3 q2 e3) mX1_of qLX7_148 [0, 2] 0 rfl rfl rfl rfl ⟨rfl, rfl⟩ ⟨Nat.le_of_ble_eq_true rfl, Nat.le_of_ble_eq_true rfl⟩ rfl hl.1 rfl (Nat.le_of_ble_eq_true rfl) dX7_measure_38 ⟨Nat.le_of_ble_eq_true rfl, Nat.le_of_ble_eq_true rfl⟩ ?_
    exact hret _ _ _ _ dX7_measure_41 rfl (Option.some.inj h)
  · replace h := ite_f c1 h
    by_cases c4 : p0 = 1
    · replace h := ite_t c4 h
      refine lv_tableIn (tgt := 42) hx hb dX7_measure_1 (by rw [c4]; decide) (by rw [c4]; decide) (by rw [c4]; rfl) (by decide) ?_
      refine lv_aload_n hx hb dX7_measure_42 rfl (lv_at hl 0 rfl) ?_
      refine getF (q0 := 1) (k0 := 0) (v := .ref a_g) C hE hP inA7 rfl rfl (by decide) qFX7_10 rfl rfl dX7_measure_43 ?_
      refine lv_iload_n hx hb dX7_measure_46 rfl (lv_at hl 2 rfl) ?_
      refine lv_bipush (v := 6) hx hb dX7_measure_47 (by decide) ?_
      replace h := bnd h; obtain ⟨q5, e6, h⟩ := h
      refine rdV C hE hP (kX1_of l D T a_g a_gw a_gk v_gw p1 6 q5 e6) mX1_of qLX7_148 [0, 2] 0 rfl rfl rfl rfl ⟨rfl, rfl⟩ ⟨Nat.le_of_ble_eq_true rfl, Nat.le_of_ble_eq_true rfl⟩ rfl hl.1 rfl (Nat.le_of_ble_eq_true rfl) dX7_measure_49 ⟨Nat.le_of_ble_eq_true rfl, Nat.le_of_ble_eq_true rfl⟩ ?_
      exact hret _ _ _ _ dX7_measure_52 rfl (Option.some.inj h)
    · replace h := ite_f c4 h
      by_cases c7 : p0 = 2
      · replace h := ite_t c7 h
        refine lv_tableIn (tgt := 53) hx hb dX7_measure_1 (by rw [c7]; decide) (by rw [c7]; decide) (by rw [c7]; rfl) (by decide) ?_
        refine lv_aload_n hx hb dX7_measure_53 rfl (lv_at hl 0 rfl) ?_
        refine getF (q0 := 1) (k0 := 0) (v := .ref a_g) C hE hP inA7 rfl rfl (by decide) qFX7_10 rfl rfl dX7_measure_54 ?_
        refine lv_iload_n hx hb dX7_measure_57 rfl (lv_at hl 2 rfl) ?_
        refine lv_bipush (v := 7) hx hb dX7_measure_58 (by decide) ?_
        replace h := bnd h; obtain ⟨q8, e9, h⟩ := h
        refine rdV C hE hP (kX1_of l D T a_g a_gw a_gk v_gw p1 7 q8 e9) mX1_of qLX7_148 [0, 2] 0 rfl rfl rfl rfl ⟨rfl, rfl⟩ ⟨Nat.le_of_ble_eq_true rfl, Nat.le_of_ble_eq_true rfl⟩ rfl hl.1 rfl (Nat.le_of_ble_eq_true rfl) dX7_measure_60 ⟨Nat.le_of_ble_eq_true rfl, Nat.le_of_ble_eq_true rfl⟩ ?_
        exact hret _ _ _ _ dX7_measure_63 rfl (Option.some.inj h)
      · replace h := ite_f c7 h
        by_cases c10 : p0 = 3
        · replace h := ite_t c10 h
          refine lv_tableIn (tgt := 64) hx hb dX7_measure_1 (by rw [c10]; decide) (by rw [c10]; decide) (by rw [c10]; rfl) (by decide) ?_
          refine lv_aload_n hx hb dX7_measure_64 rfl (lv_at hl 0 rfl) ?_
          refine getF (q0 := 1) (k0 := 0) (v := .ref a_g) C hE hP inA7 rfl rfl (by decide) qFX7_10 rfl rfl dX7_measure_65 ?_
          refine lv_iload_n hx hb dX7_measure_68 rfl (lv_at hl 2 rfl) ?_
          refine lv_bipush (v := 8) hx hb dX7_measure_69 (by decide) ?_
          replace h := bnd h; obtain ⟨q11, e12, h⟩ := h
          refine rdV C hE hP (kX1_of l D T a_g a_gw a_gk v_gw p1 8 q11 e12) mX1_of qLX7_148 [0, 2] 0 rfl rfl rfl rfl ⟨rfl, rfl⟩ ⟨Nat.le_of_ble_eq_true rfl, Nat.le_of_ble_eq_true rfl⟩ rfl hl.1 rfl (Nat.le_of_ble_eq_true rfl) dX7_measure_71 ⟨Nat.le_of_ble_eq_true rfl, Nat.le_of_ble_eq_true rfl⟩ ?_
          exact hret _ _ _ _ dX7_measure_74 rfl (Option.some.inj h)
        · replace h := ite_f c10 h
          refine lv_tableOut (tgt := 75) hx hb dX7_measure_1 (by have t0 := tI 0 rfl c1; have t1 := tI 1 rfl c4; have t2 := tI 2 rfl c7; have t3 := tI 3 rfl c10; omega) (by decide) ?_
          refine lv_aload_n hx hb dX7_measure_75 rfl (lv_at hl 0 rfl) ?_
          refine getF (q0 := 1) (k0 := 0) (v := .ref a_g) C hE hP inA7 rfl rfl (by decide) qFX7_10 rfl rfl dX7_measure_76 ?_
          refine lv_iload_n hx hb dX7_measure_79 rfl (lv_at hl 2 rfl) ?_
          refine lv_iconst (v := 1) hx hb dX7_measure_80 (by decide) ?_
          replace h := bnd h; obtain ⟨q13, e14, h⟩ := h
          refine rdV C hE hP (kX1_of l D T a_g a_gw a_gk v_gw p1 1 q13 e14) mX1_of qLX7_148 [0, 2] 0 rfl rfl rfl rfl ⟨rfl, rfl⟩ ⟨Nat.le_of_ble_eq_true rfl, Nat.le_of_ble_eq_true rfl⟩ rfl hl.1 rfl (Nat.le_of_ble_eq_true rfl) dX7_measure_81 ⟨Nat.le_of_ble_eq_true rfl, Nat.le_of_ble_eq_true rfl⟩ ?_
          refine lv_aload_n hx hb dX7_measure_84 rfl (lv_at hl 0 rfl) ?_
          refine getF (q0 := 1) (k0 := 0) (v := .ref a_g) C hE hP inA7 rfl rfl (by decide) qFX7_10 rfl rfl dX7_measure_85 ?_
          refine lv_iload_n hx hb dX7_measure_88 rfl (lv_at hl 2 rfl) ?_
          refine lv_iconst (v := 2) hx hb dX7_measure_89 (by decide) ?_
          replace h := bnd h; obtain ⟨q15, e16, h⟩ := h
          refine rdV C hE hP (kX1_of l D T a_g a_gw a_gk v_gw p1 2 q15 e16) mX1_of qLX7_148 [0, 2] 0 rfl rfl rfl rfl ⟨rfl, rfl⟩ ⟨Nat.le_of_ble_eq_true rfl, Nat.le_of_ble_eq_true rfl⟩ rfl hl.1 rfl (Nat.le_of_ble_eq_true rfl) dX7_measure_90 ⟨Nat.le_of_ble_eq_true rfl, Nat.le_of_ble_eq_true rfl⟩ ?_
          refine lv_iadd hx hb dX7_measure_93 ?_
          exact hret _ _ _ _ dX7_measure_94 rfl (Option.some.inj h)

def fX7_countAhead_56 (v_gw : Nat → Int32) (v_gk : Nat → Int32) (rec13 : Int32 → Int32 → Int32 → Int32 → Int32 → Option Int32) (l1 : Int32) (l2 : Int32) (l3 : Int32) (l4 : Int32) (l5 : Int32) : Option Int32 :=
  rec13 l1 l2 l3 l4 (l5 + 1)
def fX7_countAhead_53 (v_gw : Nat → Int32) (v_gk : Nat → Int32) (rec13 : Int32 → Int32 → Int32 → Int32 → Int32 → Option Int32) (l1 : Int32) (l2 : Int32) (l3 : Int32) (l4 : Int32) (l5 : Int32) : Option Int32 :=
  fX7_countAhead_56 v_gw v_gk rec13 l1 l2 l3 (l4 + 1) l5
def fX7_countAhead_13 (v_gw : Nat → Int32) (v_gk : Nat → Int32) : Nat → Int32 → Int32 → Int32 → Int32 → Int32 → Option Int32
  | 0, _, _, _, _, _ => none
  | k + 1, l1, l2, l3, l4, l5 =>
    (fX1_count v_gk 0).bind fun q3 =>
    if q3 ≤ l5 then
      some l4
    else
      (fX7_measure v_gw l1 l5).bind fun q6 =>
      if l3 < q6 then
        fX7_countAhead_53 v_gw v_gk (fX7_countAhead_13 v_gw v_gk k) l1 l2 l3 l4 l5
      else
        if q6 = l3 then
          if l2 ≤ l5 then
            fX7_countAhead_56 v_gw v_gk (fX7_countAhead_13 v_gw v_gk k) l1 l2 l3 l4 l5
          else
            fX7_countAhead_53 v_gw v_gk (fX7_countAhead_13 v_gw v_gk k) l1 l2 l3 l4 l5
        else
          fX7_countAhead_56 v_gw v_gk (fX7_countAhead_13 v_gw v_gk k) l1 l2 l3 l4 l5
def fX7_countAhead (v_gw : Nat → Int32) (v_gk : Nat → Int32) (p0 : Int32) (p1 : Int32) : Option Int32 :=
  (fX7_measure v_gw p0 p1).bind fun q1 =>
  fX7_countAhead_13 v_gw v_gk 64 p0 p1 q1 0 0
set_option maxHeartbeats 4000000 in
set_option maxRecDepth 100000 in
theorem lX7_countAhead_56 {p : Program} {l : Launch} {e : Env} {s : State} {m : MethodId} {args : Array Value} {below : List Frame} {meth : Method} {c : Code} {Q : State → Prop} {D : va_G} {T : Nat → ClassId} {a_g a_gw a_gk a_x a_b a_v a_h a_r a_f a_u a_t a_n : Nat} {x_sav : Int32} {x_err : Int32} {x_rea : Int32} {x_det : Int32} {x_com : Int32} {v_gw : Nat → Int32} {v_gk : Nat → Int32} {r : Int32} (C : CallFix p m c cX7_countAhead 7 s args aw RX7) (hE : eK D T s) (hP : va_P D kC [(a_g, .inr (1, [.ref a_gw, .ref a_gk])), (a_x, .inr (7, [.ref a_g, .ref a_b, .ref a_v, .ref a_h, .ref a_r, .ref a_f, .ref a_u, .ref a_t, .ref a_n, .int x_sav, .int x_err, .int x_rea, .int x_det, .int x_com])), (a_gw, .inl (T 0, 90, .inl v_gw)), (a_gk, .inl (T 0, 18, .inl v_gk))] s.heap) (hret : RdRet p l e ({ frames := 2, cells := 0, slots := 0, locals := 45 } : Room) s m args below meth c Q cX7_countAhead .int r) {rec13 : Int32 → Int32 → Int32 → Int32 → Int32 → Option Int32} (hrec13 : ∀ (l1 : Int32) (l2 : Int32) (l3 : Int32) (l4 : Int32) (l5 : Int32) (ls : Array Slot) (hl : lv_has ls 7 [(0, .ref a_x), (1, .int l1), (2, .int l2), (3, .int l3), (4, .int l4), (5, .int l5)]) (h : rec13 l1 l2 l3 l4 l5 = some r), W p l e ({ frames := 2, cells := 0, slots := 0, locals := 45 } : Room) s m args below meth c s.heap [] 0 0 Q (F0 m 13 ls [])) (l1 : Int32) (l2 : Int32) (l3 : Int32) (l4 : Int32) (l5 : Int32) (ls : Array Slot) (hl : lv_has ls 7 [(0, .ref a_x), (1, .int l1), (2, .int l2), (3, .int l3), (4, .int l4), (5, .int l5)]) (h : fX7_countAhead_56 v_gw v_gk rec13 l1 l2 l3 l4 l5 = some r) : W p l e ({ frames := 2, cells := 0, slots := 0, locals := 45 } : Room) s m args below meth c s.heap [] 0 0 Q (F0 m 56 ls []) := by
  have hx := C.1
  have hb := C.2.1
  unfold fX7_countAhead_56 at h
  refine lv_iinc (v := (l5 + 1)) (lv' := [(5, .int (l5 + 1)), (0, .ref a_x), (1, .int l1), (2, .int l2), (3, .int l3), (4, .int l4)]) hx hb dX7_countAhead_56 hl (k := 5) rfl rfl (by decide) rfl (fun ls hl => ?_)
  refine lv_goto (tgt := 13) hx hb dX7_countAhead_59 (by decide) ?_
  exact hrec13 l1 l2 l3 l4 (l5 + 1) _ (lv_sub hl [1, 2, 3, 4, 5, 0] rfl) h
set_option maxHeartbeats 4000000 in
set_option maxRecDepth 100000 in
theorem lX7_countAhead_53 {p : Program} {l : Launch} {e : Env} {s : State} {m : MethodId} {args : Array Value} {below : List Frame} {meth : Method} {c : Code} {Q : State → Prop} {D : va_G} {T : Nat → ClassId} {a_g a_gw a_gk a_x a_b a_v a_h a_r a_f a_u a_t a_n : Nat} {x_sav : Int32} {x_err : Int32} {x_rea : Int32} {x_det : Int32} {x_com : Int32} {v_gw : Nat → Int32} {v_gk : Nat → Int32} {r : Int32} (C : CallFix p m c cX7_countAhead 7 s args aw RX7) (hE : eK D T s) (hP : va_P D kC [(a_g, .inr (1, [.ref a_gw, .ref a_gk])), (a_x, .inr (7, [.ref a_g, .ref a_b, .ref a_v, .ref a_h, .ref a_r, .ref a_f, .ref a_u, .ref a_t, .ref a_n, .int x_sav, .int x_err, .int x_rea, .int x_det, .int x_com])), (a_gw, .inl (T 0, 90, .inl v_gw)), (a_gk, .inl (T 0, 18, .inl v_gk))] s.heap) (hret : RdRet p l e ({ frames := 2, cells := 0, slots := 0, locals := 45 } : Room) s m args below meth c Q cX7_countAhead .int r) {rec13 : Int32 → Int32 → Int32 → Int32 → Int32 → Option Int32} (hrec13 : ∀ (l1 : Int32) (l2 : Int32) (l3 : Int32) (l4 : Int32) (l5 : Int32) (ls : Array Slot) (hl : lv_has ls 7 [(0, .ref a_x), (1, .int l1), (2, .int l2), (3, .int l3), (4, .int l4), (5, .int l5)]) (h : rec13 l1 l2 l3 l4 l5 = some r), W p l e ({ frames := 2, cells := 0, slots := 0, locals := 45 } : Room) s m args below meth c s.heap [] 0 0 Q (F0 m 13 ls [])) (l1 : Int32) (l2 : Int32) (l3 : Int32) (l4 : Int32) (l5 : Int32) (ls : Array Slot) (hl : lv_has ls 7 [(0, .ref a_x), (1, .int l1), (2, .int l2), (3, .int l3), (4, .int l4), (5, .int l5)]) (h : fX7_countAhead_53 v_gw v_gk rec13 l1 l2 l3 l4 l5 = some r) : W p l e ({ frames := 2, cells := 0, slots := 0, locals := 45 } : Room) s m args below meth c s.heap [] 0 0 Q (F0 m 53 ls []) := by
  have hx := C.1
  have hb := C.2.1
  unfold fX7_countAhead_53 at h
  refine lv_iinc (v := (l4 + 1)) (lv' := [(4, .int (l4 + 1)), (0, .ref a_x), (1, .int l1), (2, .int l2), (3, .int l3), (5, .int l5)]) hx hb dX7_countAhead_53 hl (k := 4) rfl rfl (by decide) rfl (fun ls hl => ?_)
  exact lX7_countAhead_56 C hE hP hret hrec13 l1 l2 l3 (l4 + 1) l5 _ (lv_sub hl [1, 2, 3, 4, 0, 5] rfl) h
set_option maxHeartbeats 4000000 in
set_option maxRecDepth 100000 in
theorem lX7_countAhead_13 {p : Program} {l : Launch} {e : Env} {s : State} {m : MethodId} {args : Array Value} {below : List Frame} {meth : Method} {c : Code} {Q : State → Prop} {D : va_G} {T : Nat → ClassId} {a_g a_gw a_gk a_x a_b a_v a_h a_r a_f a_u a_t a_n : Nat} {x_sav : Int32} {x_err : Int32} {x_rea : Int32} {x_det : Int32} {x_com : Int32} {v_gw : Nat → Int32} {v_gk : Nat → Int32} {r : Int32} (C : CallFix p m c cX7_countAhead 7 s args aw RX7) (hE : eK D T s) (hP : va_P D kC [(a_g, .inr (1, [.ref a_gw, .ref a_gk])), (a_x, .inr (7, [.ref a_g, .ref a_b, .ref a_v, .ref a_h, .ref a_r, .ref a_f, .ref a_u, .ref a_t, .ref a_n, .int x_sav, .int x_err, .int x_rea, .int x_det, .int x_com])), (a_gw, .inl (T 0, 90, .inl v_gw)), (a_gk, .inl (T 0, 18, .inl v_gk))] s.heap) (hret : RdRet p l e ({ frames := 2, cells := 0, slots := 0, locals := 45 } : Room) s m args below meth c Q cX7_countAhead .int r) : ∀ (k : Nat) (l1 : Int32) (l2 : Int32) (l3 : Int32) (l4 : Int32) (l5 : Int32) (ls : Array Slot) (hl : lv_has ls 7 [(0, .ref a_x), (1, .int l1), (2, .int l2), (3, .int l3), (4, .int l4), (5, .int l5)]) (h : fX7_countAhead_13 v_gw v_gk k l1 l2 l3 l4 l5 = some r), W p l e ({ frames := 2, cells := 0, slots := 0, locals := 45 } : Room) s m args below meth c s.heap [] 0 0 Q (F0 m 13 ls []) := by
  have hx := C.1
  have hb := C.2.1
  intro k
  induction k with
  | zero =>
    intro l1 l2 l3 l4 l5  ls hl h
    exact nomatch (show (none : Option Int32) = some r from h)
  | succ k ih =>
    intro l1 l2 l3 l4 l5  ls hl h
    rw [fX7_countAhead_13] at h
    refine lv_iload hx hb dX7_countAhead_13 (lv_at hl 5 rfl) ?_
    refine lv_aload_n hx hb dX7_countAhead_15 rfl (lv_at hl 0 rfl) ?_
    refine getF (q0 := 1) (k0 := 0) (v := .ref a_g) C hE hP inA7 rfl rfl (by decide) qFX7_10 rfl rfl dX7_countAhead_16 ?_
    refine lv_iconst (v := 0) hx hb dX7_countAhead_19 (by decide) ?_
    replace h := bnd h; obtain ⟨q3, e4, h⟩ := h
    refine rdV C hE hP (kX1_count l D T a_g a_gw a_gk v_gk 0 q3 e4) mX1_count qLX7_235 [0, 3] 0 rfl rfl rfl rfl ⟨rfl, rfl⟩ ⟨Nat.le_of_ble_eq_true rfl, Nat.le_of_ble_eq_true rfl⟩ rfl hl.1 rfl (Nat.le_of_ble_eq_true rfl) dX7_countAhead_20 ⟨Nat.le_of_ble_eq_true rfl, Nat.le_of_ble_eq_true rfl⟩ ?_
    refine lv_icmp_ge (tgt := 62) hx hb dX7_countAhead_23 (by decide) (fun c5 => ?_) (fun c5 => ?_)
    · replace h := ite_t c5 h
      refine lv_iload hx hb dX7_countAhead_62 (lv_at hl 4 rfl) ?_
      exact hret _ _ _ _ dX7_countAhead_64 rfl (Option.some.inj h)
    · replace h := ite_f c5 h
      refine lv_aload_n hx hb dX7_countAhead_26 rfl (lv_at hl 0 rfl) ?_
      refine lv_iload_n hx hb dX7_countAhead_27 rfl (lv_at hl 1 rfl) ?_
      refine lv_iload hx hb dX7_countAhead_28 (lv_at hl 5 rfl) ?_
      replace h := bnd h; obtain ⟨q6, e7, h⟩ := h
      refine rdV C hE hP (kX7_measure l D T a_g a_gw a_gk a_x a_b a_v a_h a_r a_f a_u a_t a_n x_sav x_err x_rea x_det x_com v_gw l1 l5 q6 e7) mX7_measure qLX7_436 [0, 1, 2] 1 rfl rfl rfl rfl ⟨rfl, rfl⟩ ⟨Nat.le_of_ble_eq_true rfl, Nat.le_of_ble_eq_true rfl⟩ rfl hl.1 rfl (Nat.le_of_ble_eq_true rfl) dX7_countAhead_30 ⟨Nat.le_of_ble_eq_true rfl, Nat.le_of_ble_eq_true rfl⟩ ?_
      refine lv_istore (lv' := [(6, .int q6), (0, .ref a_x), (1, .int l1), (2, .int l2), (3, .int l3), (4, .int l4), (5, .int l5)]) hx hb dX7_countAhead_33 hl (by decide) rfl (fun ls hl => ?_)
      refine lv_iload hx hb dX7_countAhead_35 (lv_at hl 0 rfl) ?_
      refine lv_iload_n hx hb dX7_countAhead_37 rfl (lv_at hl 4 rfl) ?_
      refine lv_icmp_gt (tgt := 53) hx hb dX7_countAhead_38 (by decide) (fun c8 => ?_) (fun c8 => ?_)
      · replace h := ite_t c8 h
        exact lX7_countAhead_53 C hE hP hret ih l1 l2 l3 l4 l5 _ (lv_sub hl [1, 2, 3, 4, 5, 6] rfl) h
      · replace h := ite_f c8 h
        refine lv_iload hx hb dX7_countAhead_41 (lv_at hl 0 rfl) ?_
        refine lv_iload_n hx hb dX7_countAhead_43 rfl (lv_at hl 4 rfl) ?_
        refine lv_icmp_ne (tgt := 56) hx hb dX7_countAhead_44 (by decide) (fun c9 => ?_) (fun c9 => ?_)
        · replace h := ite_f c9 h
          exact lX7_countAhead_56 C hE hP hret ih l1 l2 l3 l4 l5 _ (lv_sub hl [1, 2, 3, 4, 5, 6] rfl) h
        · replace h := ite_t c9 h
          refine lv_iload hx hb dX7_countAhead_47 (lv_at hl 6 rfl) ?_
          refine lv_iload_n hx hb dX7_countAhead_49 rfl (lv_at hl 3 rfl) ?_
          refine lv_icmp_ge (tgt := 56) hx hb dX7_countAhead_50 (by decide) (fun c10 => ?_) (fun c10 => ?_)
          · replace h := ite_t c10 h
            exact lX7_countAhead_56 C hE hP hret ih l1 l2 l3 l4 l5 _ (lv_sub hl [1, 2, 3, 4, 5, 6] rfl) h
          · replace h := ite_f c10 h
            exact lX7_countAhead_53 C hE hP hret ih l1 l2 l3 l4 l5 _ (lv_sub hl [1, 2, 3, 4, 5, 6] rfl) h
set_option maxHeartbeats 4000000 in
set_option maxRecDepth 100000 in
theorem kX7_countAhead (l : Launch) (D : va_G) (T : Nat → ClassId) (a_g a_gw a_gk a_x a_b a_v a_h a_r a_f a_u a_t a_n : Nat) (x_sav : Int32) (x_err : Int32) (x_rea : Int32) (x_det : Int32) (x_com : Int32) (v_gw : Nat → Int32) (v_gk : Nat → Int32) (p0 : Int32) (p1 : Int32) (r : Int32) (h : fX7_countAhead v_gw v_gk p0 p1 = some r) : RdI l yX7_countAhead cX7_countAhead 7 .int ({ frames := 2, cells := 0, slots := 0, locals := 45 } : Room) D T [(a_g, .inr (1, [.ref a_gw, .ref a_gk])), (a_x, .inr (7, [.ref a_g, .ref a_b, .ref a_v, .ref a_h, .ref a_r, .ref a_f, .ref a_u, .ref a_t, .ref a_n, .int x_sav, .int x_err, .int x_rea, .int x_det, .int x_com])), (a_gw, .inl (T 0, 90, .inl v_gw)), (a_gk, .inl (T 0, 18, .inl v_gk))] [.ref a_x, .int p0, .int p1] r := by
  unfold fX7_countAhead at h
  refine rdMet (by decide +kernel) rfl (fun p e s m args below meth c Q C hE hP hret ls hl => ?_)
  have hx := C.1
  have hb := C.2.1
  have hl : lv_has ls 7 [(0, .ref a_x), (1, .int p0), (2, .int p1)] := hl
  refine lv_aload_n hx hb dX7_countAhead_0 rfl (lv_at hl 0 rfl) ?_
  refine lv_iload_n hx hb dX7_countAhead_1 rfl (lv_at hl 1 rfl) ?_
  refine lv_iload_n hx hb dX7_countAhead_2 rfl (lv_at hl 2 rfl) ?_
  replace h := bnd h; obtain ⟨q1, e2, h⟩ := h
  refine rdV C hE hP (kX7_measure l D T a_g a_gw a_gk a_x a_b a_v a_h a_r a_f a_u a_t a_n x_sav x_err x_rea x_det x_com v_gw p0 p1 q1 e2) mX7_measure qLX7_436 [0, 1, 2] 1 rfl rfl rfl rfl ⟨rfl, rfl⟩ ⟨Nat.le_of_ble_eq_true rfl, Nat.le_of_ble_eq_true rfl⟩ rfl hl.1 rfl (Nat.le_of_ble_eq_true rfl) dX7_countAhead_3 ⟨Nat.le_of_ble_eq_true rfl, Nat.le_of_ble_eq_true rfl⟩ ?_
  refine lv_istore_n (lv' := [(3, .int q1), (0, .ref a_x), (1, .int p0), (2, .int p1)]) hx hb dX7_countAhead_6 rfl hl (by decide) rfl (fun ls hl => ?_)
  refine lv_iconst (v := 0) hx hb dX7_countAhead_7 (by decide) ?_
  refine lv_istore (lv' := [(4, .int 0), (3, .int q1), (0, .ref a_x), (1, .int p0), (2, .int p1)]) hx hb dX7_countAhead_8 hl (by decide) rfl (fun ls hl => ?_)
  refine lv_iconst (v := 0) hx hb dX7_countAhead_10 (by decide) ?_
  refine lv_istore (lv' := [(5, .int 0), (4, .int 0), (3, .int q1), (0, .ref a_x), (1, .int p0), (2, .int p1)]) hx hb dX7_countAhead_11 hl (by decide) rfl (fun ls hl => ?_)
  exact lX7_countAhead_13 C hE hP hret 64 p0 p1 q1 0 0 _ (lv_sub hl [3, 4, 5, 2, 1, 0] rfl) h

def fX7_ranked_9 (v_gw : Nat → Int32) (v_gk : Nat → Int32) : Option (Nat × Int32) :=
  some (1, 0)
def fX7_ranked_21 (v_gw : Nat → Int32) (v_gk : Nat → Int32) : Nat → Int32 → Int32 → Int32 → Option (Nat × Int32)
  | 0, _, _, _ => none
  | k + 1, l1, l2, l3 =>
    (fX1_count v_gk 0).bind fun q3 =>
    if q3 ≤ l3 then
      some (4, 0)
    else
      (fX7_countAhead v_gw v_gk l1 l3).bind fun q6 =>
      if q6 = l2 then
        some (0, l3)
      else
        fX7_ranked_21 v_gw v_gk k l1 l2 (l3 + 1)
def fX7_ranked (v_gw : Nat → Int32) (v_gk : Nat → Int32) (p0 : Int32) (p1 : Int32) : Option (Nat × Int32) :=
  if p0 < 0 then
    fX7_ranked_9 v_gw v_gk
  else
    if p0 < 5 then
      fX7_ranked_21 v_gw v_gk 64 p0 p1 0
    else
      fX7_ranked_9 v_gw v_gk
set_option maxHeartbeats 4000000 in
set_option maxRecDepth 100000 in
theorem lX7_ranked_9 {p : Program} {l : Launch} {e : Env} {s : State} {m : MethodId} {args : Array Value} {below : List Frame} {meth : Method} {c : Code} {Q : State → Prop} {D : va_G} {T : Nat → ClassId} {a_g a_gw a_gk a_x a_b a_v a_h a_r a_f a_u a_t a_n : Nat} {x_sav : Int32} {x_err : Int32} {x_rea : Int32} {x_det : Int32} {x_com : Int32} {v_gw : Nat → Int32} {v_gk : Nat → Int32} {A : Nat → Prop} {r : Nat × Int32} (C : CallFix p m c cX7_ranked 4 s args aw RX7) (hE : eK D T s) (hA : ∀ q : Nat, s.heap.size ≤ q → A q) (hZ : eX l A s) (hret : ThRetI p l e ({ frames := 6, cells := 1, slots := 6, locals := 90 } : Room) s m args below meth c Q cX7_ranked .int D A [(a_g, .inr (1, [.ref a_gw, .ref a_gk])), (a_x, .inr (7, [.ref a_g, .ref a_b, .ref a_v, .ref a_h, .ref a_r, .ref a_f, .ref a_u, .ref a_t, .ref a_n, .int x_sav, .int x_err, .int x_rea, .int x_det, .int x_com])), (a_gw, .inl (T 0, 90, .inl v_gw)), (a_gk, .inl (T 0, 18, .inl v_gk))] r.1 r.2 ∧ ThOut p l e ({ frames := 6, cells := 1, slots := 6, locals := 90 } : Room) s m args below meth c Q D A [(a_g, .inr (1, [.ref a_gw, .ref a_gk])), (a_x, .inr (7, [.ref a_g, .ref a_b, .ref a_v, .ref a_h, .ref a_r, .ref a_f, .ref a_u, .ref a_t, .ref a_n, .int x_sav, .int x_err, .int x_rea, .int x_det, .int x_com])), (a_gw, .inl (T 0, 90, .inl v_gw)), (a_gk, .inl (T 0, 18, .inl v_gk))] r.1 ∧ ThThr p l e ({ frames := 6, cells := 1, slots := 6, locals := 90 } : Room) s m args below meth c Q cX7_ranked RX7 D A [(a_g, .inr (1, [.ref a_gw, .ref a_gk])), (a_x, .inr (7, [.ref a_g, .ref a_b, .ref a_v, .ref a_h, .ref a_r, .ref a_f, .ref a_u, .ref a_t, .ref a_n, .int x_sav, .int x_err, .int x_rea, .int x_det, .int x_com])), (a_gw, .inl (T 0, 90, .inl v_gw)), (a_gk, .inl (T 0, 18, .inl v_gk))] r.1) {H : Heap} {locs : List Loc} (hPD : va_PD D A [(a_g, .inr (1, [.ref a_gw, .ref a_gk])), (a_x, .inr (7, [.ref a_g, .ref a_b, .ref a_v, .ref a_h, .ref a_r, .ref a_f, .ref a_u, .ref a_t, .ref a_n, .int x_sav, .int x_err, .int x_rea, .int x_det, .int x_com])), (a_gw, .inl (T 0, 90, .inl v_gw)), (a_gk, .inl (T 0, 18, .inl v_gk))] H) (hS : va_S A s.heap H locs) (ls : Array Slot) (hl : lv_has ls 4 []) (h : fX7_ranked_9 v_gw v_gk = some r) : W p l e ({ frames := 6, cells := 1, slots := 6, locals := 90 } : Room) s m args below meth c H locs 0 0 Q (F0 m 9 ls []) := by
  have hx := C.1
  have hb := C.2.1
  obtain ⟨hP, hD⟩ := hPD
  unfold fX7_ranked_9 at h
  replace h := Option.some.inj h
  exact hret.2.2 _ _ _ _ _ _ _ 141 145 241 _ "no such order" (by rw [← h]; exact thrX7_141_145_1) (by decide +kernel) dX7_ranked_9 dX7_ranked_12 (Or.inl ⟨dX7_ranked_13, dX7_ranked_15, dX7_ranked_18⟩) (Nat.le_of_ble_eq_true rfl) (Nat.le_of_ble_eq_true rfl) (Nat.le_of_ble_eq_true rfl) (Nat.le_of_ble_eq_true rfl) (hl.1.trans C.2.2.1.symm) (by rw [← h]; exact (Nat.le_of_ble_eq_true rfl)) hP hS
set_option maxHeartbeats 4000000 in
set_option maxRecDepth 100000 in
theorem lX7_ranked_21 {p : Program} {l : Launch} {e : Env} {s : State} {m : MethodId} {args : Array Value} {below : List Frame} {meth : Method} {c : Code} {Q : State → Prop} {D : va_G} {T : Nat → ClassId} {a_g a_gw a_gk a_x a_b a_v a_h a_r a_f a_u a_t a_n : Nat} {x_sav : Int32} {x_err : Int32} {x_rea : Int32} {x_det : Int32} {x_com : Int32} {v_gw : Nat → Int32} {v_gk : Nat → Int32} {A : Nat → Prop} {r : Nat × Int32} (C : CallFix p m c cX7_ranked 4 s args aw RX7) (hE : eK D T s) (hA : ∀ q : Nat, s.heap.size ≤ q → A q) (hZ : eX l A s) (hret : ThRetI p l e ({ frames := 6, cells := 1, slots := 6, locals := 90 } : Room) s m args below meth c Q cX7_ranked .int D A [(a_g, .inr (1, [.ref a_gw, .ref a_gk])), (a_x, .inr (7, [.ref a_g, .ref a_b, .ref a_v, .ref a_h, .ref a_r, .ref a_f, .ref a_u, .ref a_t, .ref a_n, .int x_sav, .int x_err, .int x_rea, .int x_det, .int x_com])), (a_gw, .inl (T 0, 90, .inl v_gw)), (a_gk, .inl (T 0, 18, .inl v_gk))] r.1 r.2 ∧ ThOut p l e ({ frames := 6, cells := 1, slots := 6, locals := 90 } : Room) s m args below meth c Q D A [(a_g, .inr (1, [.ref a_gw, .ref a_gk])), (a_x, .inr (7, [.ref a_g, .ref a_b, .ref a_v, .ref a_h, .ref a_r, .ref a_f, .ref a_u, .ref a_t, .ref a_n, .int x_sav, .int x_err, .int x_rea, .int x_det, .int x_com])), (a_gw, .inl (T 0, 90, .inl v_gw)), (a_gk, .inl (T 0, 18, .inl v_gk))] r.1 ∧ ThThr p l e ({ frames := 6, cells := 1, slots := 6, locals := 90 } : Room) s m args below meth c Q cX7_ranked RX7 D A [(a_g, .inr (1, [.ref a_gw, .ref a_gk])), (a_x, .inr (7, [.ref a_g, .ref a_b, .ref a_v, .ref a_h, .ref a_r, .ref a_f, .ref a_u, .ref a_t, .ref a_n, .int x_sav, .int x_err, .int x_rea, .int x_det, .int x_com])), (a_gw, .inl (T 0, 90, .inl v_gw)), (a_gk, .inl (T 0, 18, .inl v_gk))] r.1) : ∀ (k : Nat) (l1 : Int32) (l2 : Int32) (l3 : Int32) {H : Heap} {locs : List Loc} (hPD : va_PD D A [(a_g, .inr (1, [.ref a_gw, .ref a_gk])), (a_x, .inr (7, [.ref a_g, .ref a_b, .ref a_v, .ref a_h, .ref a_r, .ref a_f, .ref a_u, .ref a_t, .ref a_n, .int x_sav, .int x_err, .int x_rea, .int x_det, .int x_com])), (a_gw, .inl (T 0, 90, .inl v_gw)), (a_gk, .inl (T 0, 18, .inl v_gk))] H) (hS : va_S A s.heap H locs) (ls : Array Slot) (hl : lv_has ls 4 [(0, .ref a_x), (1, .int l1), (2, .int l2), (3, .int l3)]) (h : fX7_ranked_21 v_gw v_gk k l1 l2 l3 = some r), W p l e ({ frames := 6, cells := 1, slots := 6, locals := 90 } : Room) s m args below meth c H locs 0 0 Q (F0 m 21 ls []) := by
  have hx := C.1
  have hb := C.2.1
  intro k
  induction k with
  | zero =>
    intro l1 l2 l3 H locs hPD hS ls hl h
    exact nomatch (show (none : Option (Nat × Int32)) = some r from h)
  | succ k ih =>
    intro l1 l2 l3 H locs hPD hS ls hl h
    obtain ⟨hP, hD⟩ := hPD
    rw [fX7_ranked_21] at h
    refine lv_iload_n hx hb dX7_ranked_21 rfl (lv_at hl 3 rfl) ?_
    refine lv_aload_n hx hb dX7_ranked_22 rfl (lv_at hl 0 rfl) ?_
    refine getF (q0 := 1) (k0 := 0) (v := .ref a_g) C hE hP inA7 rfl rfl (by decide) qFX7_10 rfl rfl dX7_ranked_23 ?_
    refine lv_iconst (v := 0) hx hb dX7_ranked_26 (by decide) ?_
    replace h := bnd h; obtain ⟨q3, e4, h⟩ := h
    refine rdV C hE hP (kX1_count l D T a_g a_gw a_gk v_gk 0 q3 e4) mX1_count qLX7_235 [0, 3] 0 rfl rfl rfl rfl ⟨rfl, rfl⟩ ⟨Nat.le_of_ble_eq_true rfl, Nat.le_of_ble_eq_true rfl⟩ rfl hl.1 rfl (Nat.le_of_ble_eq_true rfl) dX7_ranked_27 ⟨Nat.le_of_ble_eq_true rfl, Nat.le_of_ble_eq_true rfl⟩ ?_
    refine lv_icmp_ge (tgt := 51) hx hb dX7_ranked_30 (by decide) (fun c5 => ?_) (fun c5 => ?_)
    · replace h := ite_t c5 h
      replace h := Option.some.inj h
      exact hret.2.2 _ _ _ _ _ _ _ 173 177 246 _ "no such place" (by rw [← h]; exact thrX7_173_177_4) (by decide +kernel) dX7_ranked_51 dX7_ranked_54 (Or.inl ⟨dX7_ranked_55, dX7_ranked_57, dX7_ranked_60⟩) (Nat.le_of_ble_eq_true rfl) (Nat.le_of_ble_eq_true rfl) (Nat.le_of_ble_eq_true rfl) (Nat.le_of_ble_eq_true rfl) (hl.1.trans C.2.2.1.symm) (by rw [← h]; exact (Nat.le_of_ble_eq_true rfl)) hP hS
    · replace h := ite_f c5 h
      refine lv_aload_n hx hb dX7_ranked_33 rfl (lv_at hl 0 rfl) ?_
      refine lv_iload_n hx hb dX7_ranked_34 rfl (lv_at hl 1 rfl) ?_
      refine lv_iload_n hx hb dX7_ranked_35 rfl (lv_at hl 3 rfl) ?_
      replace h := bnd h; obtain ⟨q6, e7, h⟩ := h
      refine rdV C hE hP (kX7_countAhead l D T a_g a_gw a_gk a_x a_b a_v a_h a_r a_f a_u a_t a_n x_sav x_err x_rea x_det x_com v_gw v_gk l1 l3 q6 e7) mX7_countAhead qLX7_243 [0, 1, 2, 3] 1 rfl rfl rfl rfl ⟨rfl, rfl⟩ ⟨Nat.le_of_ble_eq_true rfl, Nat.le_of_ble_eq_true rfl⟩ rfl hl.1 rfl (Nat.le_of_ble_eq_true rfl) dX7_ranked_36 ⟨Nat.le_of_ble_eq_true rfl, Nat.le_of_ble_eq_true rfl⟩ ?_
      refine lv_iload_n hx hb dX7_ranked_39 rfl (lv_at hl 2 rfl) ?_
      refine lv_icmp_ne (tgt := 45) hx hb dX7_ranked_40 (by decide) (fun c8 => ?_) (fun c8 => ?_)
      · replace h := ite_f c8 h
        refine lv_iinc (v := (l3 + 1)) (lv' := [(3, .int (l3 + 1)), (0, .ref a_x), (1, .int l1), (2, .int l2)]) hx hb dX7_ranked_45 hl (k := 3) rfl rfl (by decide) rfl (fun ls hl => ?_)
        refine lv_goto (tgt := 21) hx hb dX7_ranked_48 (by decide) ?_
        exact ih l1 l2 (l3 + 1) ⟨hP, hD⟩ hS _ (lv_sub hl [1, 2, 3, 0] rfl) h
      · replace h := ite_t c8 h
        refine lv_iload_n hx hb dX7_ranked_43 rfl (lv_at hl 3 rfl) ?_
        replace h := Option.some.inj h
        exact hret.1 _ _ _ _ _ _ _ _ (Nat.le_of_ble_eq_true rfl) (Nat.le_of_ble_eq_true rfl) dX7_ranked_44 rfl (by rw [← h]) (by rw [← h] <;> rfl) hP hS
set_option maxHeartbeats 4000000 in
set_option maxRecDepth 100000 in
theorem kX7_ranked (l : Launch) (hnt : l.stackTraces = false) (D : va_G) (T : Nat → ClassId) (a_g a_gw a_gk a_x a_b a_v a_h a_r a_f a_u a_t a_n : Nat) (x_sav : Int32) (x_err : Int32) (x_rea : Int32) (x_det : Int32) (x_com : Int32) (v_gw : Nat → Int32) (v_gk : Nat → Int32) (p0 : Int32) (p1 : Int32) (sz : Nat) (r : Nat × Int32) (h : fX7_ranked v_gw v_gk p0 p1 = some r) : ThI l yX7_ranked cX7_ranked 4 .int ({ frames := 6, cells := 1, slots := 6, locals := 90 } : Room) D T sz [(a_g, .inr (1, [.ref a_gw, .ref a_gk])), (a_x, .inr (7, [.ref a_g, .ref a_b, .ref a_v, .ref a_h, .ref a_r, .ref a_f, .ref a_u, .ref a_t, .ref a_n, .int x_sav, .int x_err, .int x_rea, .int x_det, .int x_com])), (a_gw, .inl (T 0, 90, .inl v_gw)), (a_gk, .inl (T 0, 18, .inl v_gk))] [(a_g, .inr (1, [.ref a_gw, .ref a_gk])), (a_x, .inr (7, [.ref a_g, .ref a_b, .ref a_v, .ref a_h, .ref a_r, .ref a_f, .ref a_u, .ref a_t, .ref a_n, .int x_sav, .int x_err, .int x_rea, .int x_det, .int x_com])), (a_gw, .inl (T 0, 90, .inl v_gw)), (a_gk, .inl (T 0, 18, .inl v_gk))] [.ref a_x, .int p0, .int p1] r.1 r.2 := by
  unfold fX7_ranked at h
  refine thMetI hnt (by decide +kernel) rfl (fun p e s m args below meth c Q A C hE hA hZ hP hD hS hret ls hl => ?_)
  have hx := C.1
  have hb := C.2.1
  have hl : lv_has ls 4 [(0, .ref a_x), (1, .int p0), (2, .int p1)] := hl
  refine lv_iload_n hx hb dX7_ranked_0 rfl (lv_at hl 1 rfl) ?_
  refine lv_if_lt (tgt := 9) hx hb dX7_ranked_1 (by decide) (fun c1 => ?_) (fun c1 => ?_)
  · replace h := ite_t c1 h
    exact lX7_ranked_9 C hE hA hZ hret ⟨hP, hD⟩ hS _ (lv_sub hl [] rfl) h
  · replace h := ite_f c1 h
    refine lv_iload_n hx hb dX7_ranked_4 rfl (lv_at hl 1 rfl) ?_
    refine lv_iconst (v := 5) hx hb dX7_ranked_5 (by decide) ?_
    refine lv_icmp_lt (tgt := 19) hx hb dX7_ranked_6 (by decide) (fun c2 => ?_) (fun c2 => ?_)
    · replace h := ite_t c2 h
      refine lv_iconst (v := 0) hx hb dX7_ranked_19 (by decide) ?_
      refine lv_istore_n (lv' := [(3, .int 0), (0, .ref a_x), (1, .int p0), (2, .int p1)]) hx hb dX7_ranked_20 rfl hl (by decide) rfl (fun ls hl => ?_)
      exact lX7_ranked_21 C hE hA hZ hret 64 p0 p1 0 ⟨hP, hD⟩ hS _ (lv_sub hl [1, 2, 3, 0] rfl) h
    · replace h := ite_f c2 h
      exact lX7_ranked_9 C hE hA hZ hret ⟨hP, hD⟩ hS _ (lv_sub hl [] rfl) h

def fX7_isFresher (v_gw : Nat → Int32) (p0 : Int32) (p1 : Int32) : Option Int32 :=
  (fX1_of v_gw p0 3).bind fun q1 =>
  (fX1_of v_gw p1 3).bind fun q3 =>
  if 0 < (q1 - q3) then
    some 1
  else
    if (q1 - q3) = 0 then
      (fX1_of v_gw p0 1).bind fun q7 =>
      (fX1_of v_gw p1 1).bind fun q9 =>
      if q7 ≤ q9 then
        some 0
      else
        some 1
    else
      some 0
set_option maxHeartbeats 4000000 in
set_option maxRecDepth 100000 in
theorem kX7_isFresher (l : Launch) (D : va_G) (T : Nat → ClassId) (a_g a_gw a_gk a_x a_b a_v a_h a_r a_f a_u a_t a_n : Nat) (x_sav : Int32) (x_err : Int32) (x_rea : Int32) (x_det : Int32) (x_com : Int32) (v_gw : Nat → Int32) (p0 : Int32) (p1 : Int32) (r : Int32) (h : fX7_isFresher v_gw p0 p1 = some r) : RdI l yX7_isFresher cX7_isFresher 4 .boolean ({ frames := 1, cells := 0, slots := 0, locals := 23 } : Room) D T [(a_g, .inr (1, [.ref a_gw, .ref a_gk])), (a_x, .inr (7, [.ref a_g, .ref a_b, .ref a_v, .ref a_h, .ref a_r, .ref a_f, .ref a_u, .ref a_t, .ref a_n, .int x_sav, .int x_err, .int x_rea, .int x_det, .int x_com])), (a_gw, .inl (T 0, 90, .inl v_gw))] [.ref a_x, .int p0, .int p1] r := by
  unfold fX7_isFresher at h
  refine rdMet (by decide +kernel) rfl (fun p e s m args below meth c Q C hE hP hret ls hl => ?_)
  have hx := C.1
  have hb := C.2.1
  have hl : lv_has ls 4 [(0, .ref a_x), (1, .int p0), (2, .int p1)] := hl
  refine lv_aload_n hx hb dX7_isFresher_0 rfl (lv_at hl 0 rfl) ?_
  refine getF (q0 := 1) (k0 := 0) (v := .ref a_g) C hE hP inA7 rfl rfl (by decide) qFX7_10 rfl rfl dX7_isFresher_1 ?_
  refine lv_iload_n hx hb dX7_isFresher_4 rfl (lv_at hl 1 rfl) ?_
  refine lv_iconst (v := 3) hx hb dX7_isFresher_5 (by decide) ?_
  replace h := bnd h; obtain ⟨q1, e2, h⟩ := h
  refine rdV C hE hP (kX1_of l D T a_g a_gw a_gk v_gw p0 3 q1 e2) mX1_of qLX7_148 [0, 2] 0 rfl rfl rfl rfl ⟨rfl, rfl⟩ ⟨Nat.le_of_ble_eq_true rfl, Nat.le_of_ble_eq_true rfl⟩ rfl hl.1 rfl (Nat.le_of_ble_eq_true rfl) dX7_isFresher_6 ⟨Nat.le_of_ble_eq_true rfl, Nat.le_of_ble_eq_true rfl⟩ ?_
  refine lv_aload_n hx hb dX7_isFresher_9 rfl (lv_at hl 0 rfl) ?_
  refine getF (q0 := 1) (k0 := 0) (v := .ref a_g) C hE hP inA7 rfl rfl (by decide) qFX7_10 rfl rfl dX7_isFresher_10 ?_
  refine lv_iload_n hx hb dX7_isFresher_13 rfl (lv_at hl 2 rfl) ?_
  refine lv_iconst (v := 3) hx hb dX7_isFresher_14 (by decide) ?_
  replace h := bnd h; obtain ⟨q3, e4, h⟩ := h
  refine rdV C hE hP (kX1_of l D T a_g a_gw a_gk v_gw p1 3 q3 e4) mX1_of qLX7_148 [0, 2] 0 rfl rfl rfl rfl ⟨rfl, rfl⟩ ⟨Nat.le_of_ble_eq_true rfl, Nat.le_of_ble_eq_true rfl⟩ rfl hl.1 rfl (Nat.le_of_ble_eq_true rfl) dX7_isFresher_15 ⟨Nat.le_of_ble_eq_true rfl, Nat.le_of_ble_eq_true rfl⟩ ?_
  refine lv_isub hx hb dX7_isFresher_18 ?_
  refine lv_istore_n (lv' := [(3, .int (q1 - q3)), (0, .ref a_x), (1, .int p0), (2, .int p1)]) hx hb dX7_isFresher_19 rfl hl (by decide) rfl (fun ls hl => ?_)
  refine lv_iload_n hx hb dX7_isFresher_20 rfl (lv_at hl 0 rfl) ?_
  refine lv_if_gt (tgt := 49) hx hb dX7_isFresher_21 (by decide) (fun c5 => ?_) (fun c5 => ?_)
  · replace h := ite_t c5 h
    refine lv_iconst (v := 1) hx hb dX7_isFresher_49 (by decide) ?_
    refine lv_goto (tgt := 54) hx hb dX7_isFresher_50 (by decide) ?_
    exact hret _ _ _ _ dX7_isFresher_54 rfl (Option.some.inj h)
  · replace h := ite_f c5 h
    refine lv_iload_n hx hb dX7_isFresher_24 rfl (lv_at hl 0 rfl) ?_
    refine lv_if_ne (tgt := 53) hx hb dX7_isFresher_25 (by decide) (fun c6 => ?_) (fun c6 => ?_)
    · replace h := ite_f c6 h
      refine lv_iconst (v := 0) hx hb dX7_isFresher_53 (by decide) ?_
      exact hret _ _ _ _ dX7_isFresher_54 rfl (Option.some.inj h)
    · replace h := ite_t c6 h
      refine lv_aload_n hx hb dX7_isFresher_28 rfl (lv_at hl 1 rfl) ?_
      refine getF (q0 := 1) (k0 := 0) (v := .ref a_g) C hE hP inA7 rfl rfl (by decide) qFX7_10 rfl rfl dX7_isFresher_29 ?_
      refine lv_iload_n hx hb dX7_isFresher_32 rfl (lv_at hl 2 rfl) ?_
      refine lv_iconst (v := 1) hx hb dX7_isFresher_33 (by decide) ?_
      replace h := bnd h; obtain ⟨q7, e8, h⟩ := h
      refine rdV C hE hP (kX1_of l D T a_g a_gw a_gk v_gw p0 1 q7 e8) mX1_of qLX7_148 [0, 2] 0 rfl rfl rfl rfl ⟨rfl, rfl⟩ ⟨Nat.le_of_ble_eq_true rfl, Nat.le_of_ble_eq_true rfl⟩ rfl hl.1 rfl (Nat.le_of_ble_eq_true rfl) dX7_isFresher_34 ⟨Nat.le_of_ble_eq_true rfl, Nat.le_of_ble_eq_true rfl⟩ ?_
      refine lv_aload_n hx hb dX7_isFresher_37 rfl (lv_at hl 1 rfl) ?_
      refine getF (q0 := 1) (k0 := 0) (v := .ref a_g) C hE hP inA7 rfl rfl (by decide) qFX7_10 rfl rfl dX7_isFresher_38 ?_
      refine lv_iload_n hx hb dX7_isFresher_41 rfl (lv_at hl 3 rfl) ?_
      refine lv_iconst (v := 1) hx hb dX7_isFresher_42 (by decide) ?_
      replace h := bnd h; obtain ⟨q9, e10, h⟩ := h
      refine rdV C hE hP (kX1_of l D T a_g a_gw a_gk v_gw p1 1 q9 e10) mX1_of qLX7_148 [0, 2] 0 rfl rfl rfl rfl ⟨rfl, rfl⟩ ⟨Nat.le_of_ble_eq_true rfl, Nat.le_of_ble_eq_true rfl⟩ rfl hl.1 rfl (Nat.le_of_ble_eq_true rfl) dX7_isFresher_43 ⟨Nat.le_of_ble_eq_true rfl, Nat.le_of_ble_eq_true rfl⟩ ?_
      refine lv_icmp_le (tgt := 53) hx hb dX7_isFresher_46 (by decide) (fun c11 => ?_) (fun c11 => ?_)
      · replace h := ite_t c11 h
        refine lv_iconst (v := 0) hx hb dX7_isFresher_53 (by decide) ?_
        exact hret _ _ _ _ dX7_isFresher_54 rfl (Option.some.inj h)
      · replace h := ite_f c11 h
        refine lv_iconst (v := 1) hx hb dX7_isFresher_49 (by decide) ?_
        refine lv_goto (tgt := 54) hx hb dX7_isFresher_50 (by decide) ?_
        exact hret _ _ _ _ dX7_isFresher_54 rfl (Option.some.inj h)

def fX7_bestCalf_68 (v_gw : Nat → Int32) (v_gk : Nat → Int32) (rec4 : Int32 → Int32 → Int32 → Option Int32) (l1 : Int32) (l2 : Int32) (l3 : Int32) : Option Int32 :=
  rec4 l1 l2 (l3 + 1)
def fX7_bestCalf_66 (v_gw : Nat → Int32) (v_gk : Nat → Int32) (rec4 : Int32 → Int32 → Int32 → Option Int32) (l1 : Int32) (l3 : Int32) : Option Int32 :=
  fX7_bestCalf_68 v_gw v_gk rec4 l1 l3 l3
def fX7_bestCalf_45 (v_gw : Nat → Int32) (v_gk : Nat → Int32) (rec4 : Int32 → Int32 → Int32 → Option Int32) (x0 : Int32) (l1 : Int32) (l2 : Int32) (l3 : Int32) : Option Int32 :=
  if x0 = 0 then
    fX7_bestCalf_68 v_gw v_gk rec4 l1 l2 l3
  else
    if l2 = (-1) then
      fX7_bestCalf_66 v_gw v_gk rec4 l1 l3
    else
      (fX7_isFresher v_gw l3 l2).bind fun q12 =>
      if q12 = 0 then
        fX7_bestCalf_68 v_gw v_gk rec4 l1 l2 l3
      else
        fX7_bestCalf_66 v_gw v_gk rec4 l1 l3
def fX7_bestCalf_4 (v_gw : Nat → Int32) (v_gk : Nat → Int32) : Nat → Int32 → Int32 → Int32 → Option Int32
  | 0, _, _, _ => none
  | k + 1, l1, l2, l3 =>
    (fX1_count v_gk 0).bind fun q1 =>
    if q1 ≤ l3 then
      some l2
    else
      (fX1_of v_gw l3 0).bind fun q4 =>
      if q4 = l1 then
        (fX1_isPlaying v_gw l3).bind fun q7 =>
        fX7_bestCalf_45 v_gw v_gk (fX7_bestCalf_4 v_gw v_gk k) (if q7 = 0 then 1 else 0) l1 l2 l3
      else
        fX7_bestCalf_45 v_gw v_gk (fX7_bestCalf_4 v_gw v_gk k) 0 l1 l2 l3
def fX7_bestCalf (v_gw : Nat → Int32) (v_gk : Nat → Int32) (p0 : Int32) : Option Int32 :=
  fX7_bestCalf_4 v_gw v_gk 64 p0 (-1) 0
set_option maxHeartbeats 4000000 in
set_option maxRecDepth 100000 in
theorem lX7_bestCalf_68 {p : Program} {l : Launch} {e : Env} {s : State} {m : MethodId} {args : Array Value} {below : List Frame} {meth : Method} {c : Code} {Q : State → Prop} {D : va_G} {T : Nat → ClassId} {a_g a_gw a_gk a_x a_b a_v a_h a_r a_f a_u a_t a_n : Nat} {x_sav : Int32} {x_err : Int32} {x_rea : Int32} {x_det : Int32} {x_com : Int32} {v_gw : Nat → Int32} {v_gk : Nat → Int32} {r : Int32} (C : CallFix p m c cX7_bestCalf 5 s args aw RX7) (hE : eK D T s) (hP : va_P D kC [(a_g, .inr (1, [.ref a_gw, .ref a_gk])), (a_x, .inr (7, [.ref a_g, .ref a_b, .ref a_v, .ref a_h, .ref a_r, .ref a_f, .ref a_u, .ref a_t, .ref a_n, .int x_sav, .int x_err, .int x_rea, .int x_det, .int x_com])), (a_gw, .inl (T 0, 90, .inl v_gw)), (a_gk, .inl (T 0, 18, .inl v_gk))] s.heap) (hret : RdRet p l e ({ frames := 2, cells := 0, slots := 0, locals := 46 } : Room) s m args below meth c Q cX7_bestCalf .int r) {rec4 : Int32 → Int32 → Int32 → Option Int32} (hrec4 : ∀ (l1 : Int32) (l2 : Int32) (l3 : Int32) (ls : Array Slot) (hl : lv_has ls 5 [(0, .ref a_x), (1, .int l1), (2, .int l2), (3, .int l3)]) (h : rec4 l1 l2 l3 = some r), W p l e ({ frames := 2, cells := 0, slots := 0, locals := 46 } : Room) s m args below meth c s.heap [] 0 0 Q (F0 m 4 ls [])) (l1 : Int32) (l2 : Int32) (l3 : Int32) (ls : Array Slot) (hl : lv_has ls 5 [(0, .ref a_x), (1, .int l1), (2, .int l2), (3, .int l3)]) (h : fX7_bestCalf_68 v_gw v_gk rec4 l1 l2 l3 = some r) : W p l e ({ frames := 2, cells := 0, slots := 0, locals := 46 } : Room) s m args below meth c s.heap [] 0 0 Q (F0 m 68 ls []) := by
  have hx := C.1
  have hb := C.2.1
  unfold fX7_bestCalf_68 at h
  refine lv_iinc (v := (l3 + 1)) (lv' := [(3, .int (l3 + 1)), (0, .ref a_x), (1, .int l1), (2, .int l2)]) hx hb dX7_bestCalf_68 hl (k := 3) rfl rfl (by decide) rfl (fun ls hl => ?_)
  refine lv_goto (tgt := 4) hx hb dX7_bestCalf_71 (by decide) ?_
  exact hrec4 l1 l2 (l3 + 1) _ (lv_sub hl [1, 2, 3, 0] rfl) h
set_option maxHeartbeats 4000000 in
set_option maxRecDepth 100000 in
theorem lX7_bestCalf_66 {p : Program} {l : Launch} {e : Env} {s : State} {m : MethodId} {args : Array Value} {below : List Frame} {meth : Method} {c : Code} {Q : State → Prop} {D : va_G} {T : Nat → ClassId} {a_g a_gw a_gk a_x a_b a_v a_h a_r a_f a_u a_t a_n : Nat} {x_sav : Int32} {x_err : Int32} {x_rea : Int32} {x_det : Int32} {x_com : Int32} {v_gw : Nat → Int32} {v_gk : Nat → Int32} {r : Int32} (C : CallFix p m c cX7_bestCalf 5 s args aw RX7) (hE : eK D T s) (hP : va_P D kC [(a_g, .inr (1, [.ref a_gw, .ref a_gk])), (a_x, .inr (7, [.ref a_g, .ref a_b, .ref a_v, .ref a_h, .ref a_r, .ref a_f, .ref a_u, .ref a_t, .ref a_n, .int x_sav, .int x_err, .int x_rea, .int x_det, .int x_com])), (a_gw, .inl (T 0, 90, .inl v_gw)), (a_gk, .inl (T 0, 18, .inl v_gk))] s.heap) (hret : RdRet p l e ({ frames := 2, cells := 0, slots := 0, locals := 46 } : Room) s m args below meth c Q cX7_bestCalf .int r) {rec4 : Int32 → Int32 → Int32 → Option Int32} (hrec4 : ∀ (l1 : Int32) (l2 : Int32) (l3 : Int32) (ls : Array Slot) (hl : lv_has ls 5 [(0, .ref a_x), (1, .int l1), (2, .int l2), (3, .int l3)]) (h : rec4 l1 l2 l3 = some r), W p l e ({ frames := 2, cells := 0, slots := 0, locals := 46 } : Room) s m args below meth c s.heap [] 0 0 Q (F0 m 4 ls [])) (l1 : Int32) (l3 : Int32) (ls : Array Slot) (hl : lv_has ls 5 [(0, .ref a_x), (1, .int l1), (3, .int l3)]) (h : fX7_bestCalf_66 v_gw v_gk rec4 l1 l3 = some r) : W p l e ({ frames := 2, cells := 0, slots := 0, locals := 46 } : Room) s m args below meth c s.heap [] 0 0 Q (F0 m 66 ls []) := by
  have hx := C.1
  have hb := C.2.1
  unfold fX7_bestCalf_66 at h
  refine lv_iload_n hx hb dX7_bestCalf_66 rfl (lv_at hl 2 rfl) ?_
  refine lv_istore_n (lv' := [(2, .int l3), (0, .ref a_x), (1, .int l1), (3, .int l3)]) hx hb dX7_bestCalf_67 rfl hl (by decide) rfl (fun ls hl => ?_)
  exact lX7_bestCalf_68 C hE hP hret hrec4 l1 l3 l3 _ (lv_sub hl [1, 2, 0, 3] rfl) h
set_option maxHeartbeats 4000000 in
set_option maxRecDepth 100000 in
theorem lX7_bestCalf_45 {p : Program} {l : Launch} {e : Env} {s : State} {m : MethodId} {args : Array Value} {below : List Frame} {meth : Method} {c : Code} {Q : State → Prop} {D : va_G} {T : Nat → ClassId} {a_g a_gw a_gk a_x a_b a_v a_h a_r a_f a_u a_t a_n : Nat} {x_sav : Int32} {x_err : Int32} {x_rea : Int32} {x_det : Int32} {x_com : Int32} {v_gw : Nat → Int32} {v_gk : Nat → Int32} {r : Int32} (C : CallFix p m c cX7_bestCalf 5 s args aw RX7) (hE : eK D T s) (hP : va_P D kC [(a_g, .inr (1, [.ref a_gw, .ref a_gk])), (a_x, .inr (7, [.ref a_g, .ref a_b, .ref a_v, .ref a_h, .ref a_r, .ref a_f, .ref a_u, .ref a_t, .ref a_n, .int x_sav, .int x_err, .int x_rea, .int x_det, .int x_com])), (a_gw, .inl (T 0, 90, .inl v_gw)), (a_gk, .inl (T 0, 18, .inl v_gk))] s.heap) (hret : RdRet p l e ({ frames := 2, cells := 0, slots := 0, locals := 46 } : Room) s m args below meth c Q cX7_bestCalf .int r) {rec4 : Int32 → Int32 → Int32 → Option Int32} (hrec4 : ∀ (l1 : Int32) (l2 : Int32) (l3 : Int32) (ls : Array Slot) (hl : lv_has ls 5 [(0, .ref a_x), (1, .int l1), (2, .int l2), (3, .int l3)]) (h : rec4 l1 l2 l3 = some r), W p l e ({ frames := 2, cells := 0, slots := 0, locals := 46 } : Room) s m args below meth c s.heap [] 0 0 Q (F0 m 4 ls [])) (x0 : Int32) (l1 : Int32) (l2 : Int32) (l3 : Int32) (ls : Array Slot) (hl : lv_has ls 5 [(0, .ref a_x), (1, .int l1), (2, .int l2), (3, .int l3)]) (h : fX7_bestCalf_45 v_gw v_gk rec4 x0 l1 l2 l3 = some r) : W p l e ({ frames := 2, cells := 0, slots := 0, locals := 46 } : Room) s m args below meth c s.heap [] 0 0 Q (F0 m 45 ls [.int x0]) := by
  have hx := C.1
  have hb := C.2.1
  unfold fX7_bestCalf_45 at h
  refine lv_istore (lv' := [(4, .int x0), (0, .ref a_x), (1, .int l1), (2, .int l2), (3, .int l3)]) hx hb dX7_bestCalf_45 hl (by decide) rfl (fun ls hl => ?_)
  refine lv_iload hx hb dX7_bestCalf_47 (lv_at hl 0 rfl) ?_
  refine lv_if_eq (tgt := 68) hx hb dX7_bestCalf_49 (by decide) (fun c10 => ?_) (fun c10 => ?_)
  · replace h := ite_t c10 h
    exact lX7_bestCalf_68 C hE hP hret hrec4 l1 l2 l3 _ (lv_sub hl [1, 2, 3, 4] rfl) h
  · replace h := ite_f c10 h
    refine lv_iload_n hx hb dX7_bestCalf_52 rfl (lv_at hl 3 rfl) ?_
    refine lv_iconst (v := (-1)) hx hb dX7_bestCalf_53 (by decide) ?_
    refine lv_icmp_eq (tgt := 66) hx hb dX7_bestCalf_54 (by decide) (fun c11 => ?_) (fun c11 => ?_)
    · replace h := ite_t c11 h
      exact lX7_bestCalf_66 C hE hP hret hrec4 l1 l3 _ (lv_sub hl [1, 2, 4] rfl) h
    · replace h := ite_f c11 h
      refine lv_aload_n hx hb dX7_bestCalf_57 rfl (lv_at hl 1 rfl) ?_
      refine lv_iload_n hx hb dX7_bestCalf_58 rfl (lv_at hl 4 rfl) ?_
      refine lv_iload_n hx hb dX7_bestCalf_59 rfl (lv_at hl 3 rfl) ?_
      replace h := bnd h; obtain ⟨q12, e13, h⟩ := h
      refine rdV C hE hP (kX7_isFresher l D T a_g a_gw a_gk a_x a_b a_v a_h a_r a_f a_u a_t a_n x_sav x_err x_rea x_det x_com v_gw l3 l2 q12 e13) mX7_isFresher qLX7_439 [0, 1, 2] 1 rfl rfl rfl rfl ⟨rfl, rfl⟩ ⟨Nat.le_of_ble_eq_true rfl, Nat.le_of_ble_eq_true rfl⟩ rfl hl.1 rfl (Nat.le_of_ble_eq_true rfl) dX7_bestCalf_60 ⟨Nat.le_of_ble_eq_true rfl, Nat.le_of_ble_eq_true rfl⟩ ?_
      refine lv_if_eq (tgt := 68) hx hb dX7_bestCalf_63 (by decide) (fun c14 => ?_) (fun c14 => ?_)
      · replace h := ite_t c14 h
        exact lX7_bestCalf_68 C hE hP hret hrec4 l1 l2 l3 _ (lv_sub hl [1, 2, 3, 4] rfl) h
      · replace h := ite_f c14 h
        exact lX7_bestCalf_66 C hE hP hret hrec4 l1 l3 _ (lv_sub hl [1, 2, 4] rfl) h
set_option maxHeartbeats 4000000 in
set_option maxRecDepth 100000 in
theorem lX7_bestCalf_4 {p : Program} {l : Launch} {e : Env} {s : State} {m : MethodId} {args : Array Value} {below : List Frame} {meth : Method} {c : Code} {Q : State → Prop} {D : va_G} {T : Nat → ClassId} {a_g a_gw a_gk a_x a_b a_v a_h a_r a_f a_u a_t a_n : Nat} {x_sav : Int32} {x_err : Int32} {x_rea : Int32} {x_det : Int32} {x_com : Int32} {v_gw : Nat → Int32} {v_gk : Nat → Int32} {r : Int32} (C : CallFix p m c cX7_bestCalf 5 s args aw RX7) (hE : eK D T s) (hP : va_P D kC [(a_g, .inr (1, [.ref a_gw, .ref a_gk])), (a_x, .inr (7, [.ref a_g, .ref a_b, .ref a_v, .ref a_h, .ref a_r, .ref a_f, .ref a_u, .ref a_t, .ref a_n, .int x_sav, .int x_err, .int x_rea, .int x_det, .int x_com])), (a_gw, .inl (T 0, 90, .inl v_gw)), (a_gk, .inl (T 0, 18, .inl v_gk))] s.heap) (hret : RdRet p l e ({ frames := 2, cells := 0, slots := 0, locals := 46 } : Room) s m args below meth c Q cX7_bestCalf .int r) : ∀ (k : Nat) (l1 : Int32) (l2 : Int32) (l3 : Int32) (ls : Array Slot) (hl : lv_has ls 5 [(0, .ref a_x), (1, .int l1), (2, .int l2), (3, .int l3)]) (h : fX7_bestCalf_4 v_gw v_gk k l1 l2 l3 = some r), W p l e ({ frames := 2, cells := 0, slots := 0, locals := 46 } : Room) s m args below meth c s.heap [] 0 0 Q (F0 m 4 ls []) := by
  have hx := C.1
  have hb := C.2.1
  intro k
  induction k with
  | zero =>
    intro l1 l2 l3  ls hl h
    exact nomatch (show (none : Option Int32) = some r from h)
  | succ k ih =>
    intro l1 l2 l3  ls hl h
    rw [fX7_bestCalf_4] at h
    refine lv_iload_n hx hb dX7_bestCalf_4 rfl (lv_at hl 3 rfl) ?_
    refine lv_aload_n hx hb dX7_bestCalf_5 rfl (lv_at hl 0 rfl) ?_
    refine getF (q0 := 1) (k0 := 0) (v := .ref a_g) C hE hP inA7 rfl rfl (by decide) qFX7_10 rfl rfl dX7_bestCalf_6 ?_
    refine lv_iconst (v := 0) hx hb dX7_bestCalf_9 (by decide) ?_
    replace h := bnd h; obtain ⟨q1, e2, h⟩ := h
    refine rdV C hE hP (kX1_count l D T a_g a_gw a_gk v_gk 0 q1 e2) mX1_count qLX7_235 [0, 3] 0 rfl rfl rfl rfl ⟨rfl, rfl⟩ ⟨Nat.le_of_ble_eq_true rfl, Nat.le_of_ble_eq_true rfl⟩ rfl hl.1 rfl (Nat.le_of_ble_eq_true rfl) dX7_bestCalf_10 ⟨Nat.le_of_ble_eq_true rfl, Nat.le_of_ble_eq_true rfl⟩ ?_
    refine lv_icmp_ge (tgt := 74) hx hb dX7_bestCalf_13 (by decide) (fun c3 => ?_) (fun c3 => ?_)
    · replace h := ite_t c3 h
      refine lv_iload_n hx hb dX7_bestCalf_74 rfl (lv_at hl 2 rfl) ?_
      exact hret _ _ _ _ dX7_bestCalf_75 rfl (Option.some.inj h)
    · replace h := ite_f c3 h
      refine lv_aload_n hx hb dX7_bestCalf_16 rfl (lv_at hl 0 rfl) ?_
      refine getF (q0 := 1) (k0 := 0) (v := .ref a_g) C hE hP inA7 rfl rfl (by decide) qFX7_10 rfl rfl dX7_bestCalf_17 ?_
      refine lv_iload_n hx hb dX7_bestCalf_20 rfl (lv_at hl 3 rfl) ?_
      refine lv_iconst (v := 0) hx hb dX7_bestCalf_21 (by decide) ?_
      replace h := bnd h; obtain ⟨q4, e5, h⟩ := h
      refine rdV C hE hP (kX1_of l D T a_g a_gw a_gk v_gw l3 0 q4 e5) mX1_of qLX7_148 [0, 2] 0 rfl rfl rfl rfl ⟨rfl, rfl⟩ ⟨Nat.le_of_ble_eq_true rfl, Nat.le_of_ble_eq_true rfl⟩ rfl hl.1 rfl (Nat.le_of_ble_eq_true rfl) dX7_bestCalf_22 ⟨Nat.le_of_ble_eq_true rfl, Nat.le_of_ble_eq_true rfl⟩ ?_
      refine lv_iload_n hx hb dX7_bestCalf_25 rfl (lv_at hl 1 rfl) ?_
      refine lv_icmp_ne (tgt := 44) hx hb dX7_bestCalf_26 (by decide) (fun c6 => ?_) (fun c6 => ?_)
      · replace h := ite_f c6 h
        refine lv_iconst (v := 0) hx hb dX7_bestCalf_44 (by decide) ?_
        exact lX7_bestCalf_45 C hE hP hret ih 0 l1 l2 l3 _ (lv_sub hl [0, 1, 2, 3] rfl) h
      · replace h := ite_t c6 h
        refine lv_aload_n hx hb dX7_bestCalf_29 rfl (lv_at hl 0 rfl) ?_
        refine getF (q0 := 1) (k0 := 0) (v := .ref a_g) C hE hP inA7 rfl rfl (by decide) qFX7_10 rfl rfl dX7_bestCalf_30 ?_
        refine lv_iload_n hx hb dX7_bestCalf_33 rfl (lv_at hl 3 rfl) ?_
        replace h := bnd h; obtain ⟨q7, e8, h⟩ := h
        refine rdV C hE hP (kX1_isPlaying l D T a_g a_gw a_gk v_gw l3 q7 e8) mX1_isPlaying qLX7_200 [0, 2] 0 rfl rfl rfl rfl ⟨rfl, rfl⟩ ⟨Nat.le_of_ble_eq_true rfl, Nat.le_of_ble_eq_true rfl⟩ rfl hl.1 rfl (Nat.le_of_ble_eq_true rfl) dX7_bestCalf_34 ⟨Nat.le_of_ble_eq_true rfl, Nat.le_of_ble_eq_true rfl⟩ ?_
        refine lv_if_ne (tgt := 44) hx hb dX7_bestCalf_37 (by decide) (fun c9 => ?_) (fun c9 => ?_)
        · rw [if_neg c9] at h
          refine lv_iconst (v := 0) hx hb dX7_bestCalf_44 (by decide) ?_
          exact lX7_bestCalf_45 C hE hP hret ih 0 l1 l2 l3 _ (lv_sub hl [0, 1, 2, 3] rfl) h
        · rw [if_pos c9] at h
          refine lv_iconst (v := 1) hx hb dX7_bestCalf_40 (by decide) ?_
          refine lv_goto (tgt := 45) hx hb dX7_bestCalf_41 (by decide) ?_
          exact lX7_bestCalf_45 C hE hP hret ih 1 l1 l2 l3 _ (lv_sub hl [0, 1, 2, 3] rfl) h
set_option maxHeartbeats 4000000 in
set_option maxRecDepth 100000 in
theorem kX7_bestCalf (l : Launch) (D : va_G) (T : Nat → ClassId) (a_g a_gw a_gk a_x a_b a_v a_h a_r a_f a_u a_t a_n : Nat) (x_sav : Int32) (x_err : Int32) (x_rea : Int32) (x_det : Int32) (x_com : Int32) (v_gw : Nat → Int32) (v_gk : Nat → Int32) (p0 : Int32) (r : Int32) (h : fX7_bestCalf v_gw v_gk p0 = some r) : RdI l yX7_bestCalf cX7_bestCalf 5 .int ({ frames := 2, cells := 0, slots := 0, locals := 46 } : Room) D T [(a_g, .inr (1, [.ref a_gw, .ref a_gk])), (a_x, .inr (7, [.ref a_g, .ref a_b, .ref a_v, .ref a_h, .ref a_r, .ref a_f, .ref a_u, .ref a_t, .ref a_n, .int x_sav, .int x_err, .int x_rea, .int x_det, .int x_com])), (a_gw, .inl (T 0, 90, .inl v_gw)), (a_gk, .inl (T 0, 18, .inl v_gk))] [.ref a_x, .int p0] r := by
  unfold fX7_bestCalf at h
  refine rdMet (by decide +kernel) rfl (fun p e s m args below meth c Q C hE hP hret ls hl => ?_)
  have hx := C.1
  have hb := C.2.1
  have hl : lv_has ls 5 [(0, .ref a_x), (1, .int p0)] := hl
  refine lv_iconst (v := (-1)) hx hb dX7_bestCalf_0 (by decide) ?_
  refine lv_istore_n (lv' := [(2, .int (-1)), (0, .ref a_x), (1, .int p0)]) hx hb dX7_bestCalf_1 rfl hl (by decide) rfl (fun ls hl => ?_)
  refine lv_iconst (v := 0) hx hb dX7_bestCalf_2 (by decide) ?_
  refine lv_istore_n (lv' := [(3, .int 0), (2, .int (-1)), (0, .ref a_x), (1, .int p0)]) hx hb dX7_bestCalf_3 rfl hl (by decide) rfl (fun ls hl => ?_)
  exact lX7_bestCalf_4 C hE hP hret 64 p0 (-1) 0 _ (lv_sub hl [2, 3, 1, 0] rfl) h

def fX7_calf (v_gw : Nat → Int32) (v_gk : Nat → Int32) (p0 : Int32) : Option (Nat × Int32) :=
  (fX7_demandTeam p0).bind fun q1 =>
  if q1 = 0 then
    (fX7_bestCalf v_gw v_gk p0).bind fun q3 =>
    if q3 = (-1) then
      some (4, 0)
    else
      some (0, q3)
  else
    some (q1, 0)
set_option maxHeartbeats 4000000 in
set_option maxRecDepth 100000 in
theorem kX7_calf (l : Launch) (hnt : l.stackTraces = false) (D : va_G) (T : Nat → ClassId) (a_g a_gw a_gk a_x a_b a_v a_h a_r a_f a_u a_t a_n : Nat) (x_sav : Int32) (x_err : Int32) (x_rea : Int32) (x_det : Int32) (x_com : Int32) (v_gw : Nat → Int32) (v_gk : Nat → Int32) (p0 : Int32) (sz : Nat) (r : Nat × Int32) (h : fX7_calf v_gw v_gk p0 = some r) : ThI l yX7_calf cX7_calf 3 .int ({ frames := 7, cells := 2, slots := 12, locals := 111 } : Room) D T sz [(a_g, .inr (1, [.ref a_gw, .ref a_gk])), (a_x, .inr (7, [.ref a_g, .ref a_b, .ref a_v, .ref a_h, .ref a_r, .ref a_f, .ref a_u, .ref a_t, .ref a_n, .int x_sav, .int x_err, .int x_rea, .int x_det, .int x_com])), (a_gw, .inl (T 0, 90, .inl v_gw)), (a_gk, .inl (T 0, 18, .inl v_gk))] [(a_g, .inr (1, [.ref a_gw, .ref a_gk])), (a_x, .inr (7, [.ref a_g, .ref a_b, .ref a_v, .ref a_h, .ref a_r, .ref a_f, .ref a_u, .ref a_t, .ref a_n, .int x_sav, .int x_err, .int x_rea, .int x_det, .int x_com])), (a_gw, .inl (T 0, 90, .inl v_gw)), (a_gk, .inl (T 0, 18, .inl v_gk))] [.ref a_x, .int p0] r.1 r.2 := by
  unfold fX7_calf at h
  refine thMetI hnt (by decide +kernel) rfl (fun p e s m args below meth c Q A C hE hA hZ hP hD hS hret ls hl => ?_)
  have hx := C.1
  have hb := C.2.1
  have hl : lv_has ls 3 [(0, .ref a_x), (1, .int p0)] := hl
  refine lv_aload_n hx hb dX7_calf_0 rfl (lv_at hl 0 rfl) ?_
  refine lv_iload_n hx hb dX7_calf_1 rfl (lv_at hl 1 rfl) ?_
  replace h := bnd h; obtain ⟨q1, e2, h⟩ := h
  refine thVv (ws1 := [(a_g, .inr (1, [.ref a_gw, .ref a_gk])), (a_x, .inr (7, [.ref a_g, .ref a_b, .ref a_v, .ref a_h, .ref a_r, .ref a_f, .ref a_u, .ref a_t, .ref a_n, .int x_sav, .int x_err, .int x_rea, .int x_det, .int x_com])), (a_gw, .inl (T 0, 90, .inl v_gw)), (a_gk, .inl (T 0, 18, .inl v_gk))]) C hE hZ hP hD hS hA (kX7_demandTeam l hZ.1 D T a_x p0 _ q1 e2) mX7_demandTeam qLX7_232 [] [0, 1, 2, 3] 1 rfl rfl rfl rfl rfl rfl rfl rfl rfl ⟨Nat.le_of_ble_eq_true rfl, Nat.le_of_ble_eq_true rfl⟩ rfl hl.1 rfl (Nat.le_of_ble_eq_true rfl) dX7_calf_2 ⟨Nat.le_of_ble_eq_true rfl, Nat.le_of_ble_eq_true rfl⟩ ?_ ?_
  · clear hP hD hS; intro hx0 H locs ce q9 hP hD hS g1 g2 g3
    replace h := ite_f (Nat.ne_of_gt hx0) h
    replace h := Option.some.inj h
    exact hret.2.1 _ _ _ _ _ _ _ _ _ (Nat.le_of_ble_eq_true rfl) (Nat.le_of_ble_eq_true rfl) (by rw [← h]; exact hx0) hP hS g1 g2 (by rw [← h]; exact g3)
  · clear hP hD hS; intro hx0 H locs hP hD hS
    replace h := ite_t hx0 h
    refine lv_aload_n hx hb dX7_calf_5 rfl (lv_at hl 0 rfl) ?_
    refine lv_iload_n hx hb dX7_calf_6 rfl (lv_at hl 1 rfl) ?_
    replace h := bnd h; obtain ⟨q3, e4, h⟩ := h
    refine rdV C hE hP (kX7_bestCalf l D T a_g a_gw a_gk a_x a_b a_v a_h a_r a_f a_u a_t a_n x_sav x_err x_rea x_det x_com v_gw v_gk p0 q3 e4) mX7_bestCalf qLX7_248 [0, 1, 2, 3] 1 rfl rfl rfl rfl ⟨rfl, rfl⟩ ⟨Nat.le_of_ble_eq_true rfl, Nat.le_of_ble_eq_true rfl⟩ rfl hl.1 rfl (Nat.le_of_ble_eq_true rfl) dX7_calf_7 ⟨Nat.le_of_ble_eq_true rfl, Nat.le_of_ble_eq_true rfl⟩ ?_
    refine lv_istore_n (lv' := [(2, .int q3), (0, .ref a_x), (1, .int p0)]) hx hb dX7_calf_10 rfl hl (by decide) rfl (fun ls hl => ?_)
    refine lv_iload_n hx hb dX7_calf_11 rfl (lv_at hl 0 rfl) ?_
    refine lv_iconst (v := (-1)) hx hb dX7_calf_12 (by decide) ?_
    refine lv_icmp_ne (tgt := 26) hx hb dX7_calf_13 (by decide) (fun c5 => ?_) (fun c5 => ?_)
    · replace h := ite_f c5 h
      refine lv_iload_n hx hb dX7_calf_26 rfl (lv_at hl 0 rfl) ?_
      replace h := Option.some.inj h
      exact hret.1 _ _ _ _ _ _ _ _ (Nat.le_of_ble_eq_true rfl) (Nat.le_of_ble_eq_true rfl) dX7_calf_27 rfl (by rw [← h]) (by rw [← h] <;> rfl) hP hS
    · replace h := ite_t c5 h
      replace h := Option.some.inj h
      exact hret.2.2 _ _ _ _ _ _ _ 173 177 251 _ "no calf on the bench" (by rw [← h]; exact thrX7_173_177_4) (by decide +kernel) dX7_calf_16 dX7_calf_19 (Or.inl ⟨dX7_calf_20, dX7_calf_22, dX7_calf_25⟩) (Nat.le_of_ble_eq_true rfl) (Nat.le_of_ble_eq_true rfl) (Nat.le_of_ble_eq_true rfl) (Nat.le_of_ble_eq_true rfl) (hl.1.trans C.2.2.1.symm) (by rw [← h]; exact (Nat.le_of_ble_eq_true rfl)) hP hS

def fX7_leader (v_gk : Nat → Int32) : Option Int32 :=
  (fX1_count v_gk 3).bind fun q1 =>
  (fX1_count v_gk 4).bind fun q3 =>
  if (q1 - q3) = 0 then
    some (-1)
  else
    if (q1 - q3) ≤ 0 then
      some 1
    else
      some 0
set_option maxHeartbeats 4000000 in
set_option maxRecDepth 100000 in
theorem kX7_leader (l : Launch) (D : va_G) (T : Nat → ClassId) (a_g a_gw a_gk a_x a_b a_v a_h a_r a_f a_u a_t a_n : Nat) (x_sav : Int32) (x_err : Int32) (x_rea : Int32) (x_det : Int32) (x_com : Int32) (v_gk : Nat → Int32) (r : Int32) (h : fX7_leader v_gk = some r) : RdI l yX7_leader cX7_leader 2 .int ({ frames := 1, cells := 0, slots := 0, locals := 21 } : Room) D T [(a_g, .inr (1, [.ref a_gw, .ref a_gk])), (a_x, .inr (7, [.ref a_g, .ref a_b, .ref a_v, .ref a_h, .ref a_r, .ref a_f, .ref a_u, .ref a_t, .ref a_n, .int x_sav, .int x_err, .int x_rea, .int x_det, .int x_com])), (a_gk, .inl (T 0, 18, .inl v_gk))] [.ref a_x] r := by
  unfold fX7_leader at h
  refine rdMet (by decide +kernel) rfl (fun p e s m args below meth c Q C hE hP hret ls hl => ?_)
  have hx := C.1
  have hb := C.2.1
  have hl : lv_has ls 2 [(0, .ref a_x)] := hl
  refine lv_aload_n hx hb dX7_leader_0 rfl (lv_at hl 0 rfl) ?_
  refine getF (q0 := 1) (k0 := 0) (v := .ref a_g) C hE hP inA7 rfl rfl (by decide) qFX7_10 rfl rfl dX7_leader_1 ?_
  refine lv_iconst (v := 3) hx hb dX7_leader_4 (by decide) ?_
  replace h := bnd h; obtain ⟨q1, e2, h⟩ := h
  refine rdV C hE hP (kX1_count l D T a_g a_gw a_gk v_gk 3 q1 e2) mX1_count qLX7_235 [0, 2] 0 rfl rfl rfl rfl ⟨rfl, rfl⟩ ⟨Nat.le_of_ble_eq_true rfl, Nat.le_of_ble_eq_true rfl⟩ rfl hl.1 rfl (Nat.le_of_ble_eq_true rfl) dX7_leader_5 ⟨Nat.le_of_ble_eq_true rfl, Nat.le_of_ble_eq_true rfl⟩ ?_
  refine lv_aload_n hx hb dX7_leader_8 rfl (lv_at hl 0 rfl) ?_
  refine getF (q0 := 1) (k0 := 0) (v := .ref a_g) C hE hP inA7 rfl rfl (by decide) qFX7_10 rfl rfl dX7_leader_9 ?_
  refine lv_iconst (v := 4) hx hb dX7_leader_12 (by decide) ?_
  replace h := bnd h; obtain ⟨q3, e4, h⟩ := h
  refine rdV C hE hP (kX1_count l D T a_g a_gw a_gk v_gk 4 q3 e4) mX1_count qLX7_235 [0, 2] 0 rfl rfl rfl rfl ⟨rfl, rfl⟩ ⟨Nat.le_of_ble_eq_true rfl, Nat.le_of_ble_eq_true rfl⟩ rfl hl.1 rfl (Nat.le_of_ble_eq_true rfl) dX7_leader_13 ⟨Nat.le_of_ble_eq_true rfl, Nat.le_of_ble_eq_true rfl⟩ ?_
  refine lv_isub hx hb dX7_leader_16 ?_
  refine lv_istore_n (lv' := [(1, .int (q1 - q3)), (0, .ref a_x)]) hx hb dX7_leader_17 rfl hl (by decide) rfl (fun ls hl => ?_)
  refine lv_iload_n hx hb dX7_leader_18 rfl (lv_at hl 0 rfl) ?_
  refine lv_if_ne (tgt := 24) hx hb dX7_leader_19 (by decide) (fun c5 => ?_) (fun c5 => ?_)
  · replace h := ite_f c5 h
    refine lv_iload_n hx hb dX7_leader_24 rfl (lv_at hl 0 rfl) ?_
    refine lv_if_le (tgt := 32) hx hb dX7_leader_25 (by decide) (fun c6 => ?_) (fun c6 => ?_)
    · replace h := ite_t c6 h
      refine lv_iconst (v := 1) hx hb dX7_leader_32 (by decide) ?_
      exact hret _ _ _ _ dX7_leader_33 rfl (Option.some.inj h)
    · replace h := ite_f c6 h
      refine lv_iconst (v := 0) hx hb dX7_leader_28 (by decide) ?_
      refine lv_goto (tgt := 33) hx hb dX7_leader_29 (by decide) ?_
      exact hret _ _ _ _ dX7_leader_33 rfl (Option.some.inj h)
  · replace h := ite_t c5 h
    refine lv_iconst (v := (-1)) hx hb dX7_leader_22 (by decide) ?_
    exact hret _ _ _ _ dX7_leader_23 rfl (Option.some.inj h)

def fX7_areTidesAlike_11 (v_gk : Nat → Int32) : Nat → Int32 → Int32 → Option Int32
  | 0, _, _ => none
  | k + 1, l1, l2 =>
    if (l1 + 20) < l2 then
      some 1
    else
      (fX7_tideByStrokes l2).bind fun q4 =>
      if q4 = (fX7_tideByDividing l2) then
        fX7_areTidesAlike_11 v_gk k l1 (l2 + 1)
      else
        some 0
def fX7_areTidesAlike (v_gk : Nat → Int32) : Option Int32 :=
  (fX1_count v_gk 1).bind fun q1 =>
  fX7_areTidesAlike_11 v_gk 64 q1 q1
set_option maxHeartbeats 4000000 in
set_option maxRecDepth 100000 in
theorem lX7_areTidesAlike_11 {p : Program} {l : Launch} {e : Env} {s : State} {m : MethodId} {args : Array Value} {below : List Frame} {meth : Method} {c : Code} {Q : State → Prop} {D : va_G} {T : Nat → ClassId} {a_g a_gw a_gk a_x a_b a_v a_h a_r a_f a_u a_t a_n : Nat} {x_sav : Int32} {x_err : Int32} {x_rea : Int32} {x_det : Int32} {x_com : Int32} {v_gk : Nat → Int32} {r : Int32} (C : CallFix p m c cX7_areTidesAlike 3 s args aw RX7) (hE : eK D T s) (hP : va_P D kC [(a_g, .inr (1, [.ref a_gw, .ref a_gk])), (a_x, .inr (7, [.ref a_g, .ref a_b, .ref a_v, .ref a_h, .ref a_r, .ref a_f, .ref a_u, .ref a_t, .ref a_n, .int x_sav, .int x_err, .int x_rea, .int x_det, .int x_com])), (a_gk, .inl (T 0, 18, .inl v_gk))] s.heap) (hret : RdRet p l e ({ frames := 1, cells := 0, slots := 0, locals := 23 } : Room) s m args below meth c Q cX7_areTidesAlike .boolean r) : ∀ (k : Nat) (l1 : Int32) (l2 : Int32) (ls : Array Slot) (hl : lv_has ls 3 [(1, .int l1), (2, .int l2)]) (h : fX7_areTidesAlike_11 v_gk k l1 l2 = some r), W p l e ({ frames := 1, cells := 0, slots := 0, locals := 23 } : Room) s m args below meth c s.heap [] 0 0 Q (F0 m 11 ls []) := by
  have hx := C.1
  have hb := C.2.1
  intro k
  induction k with
  | zero =>
    intro l1 l2  ls hl h
    exact nomatch (show (none : Option Int32) = some r from h)
  | succ k ih =>
    intro l1 l2  ls hl h
    rw [fX7_areTidesAlike_11] at h
    refine lv_iload_n hx hb dX7_areTidesAlike_11 rfl (lv_at hl 1 rfl) ?_
    refine lv_iload_n hx hb dX7_areTidesAlike_12 rfl (lv_at hl 0 rfl) ?_
    refine lv_bipush (v := 20) hx hb dX7_areTidesAlike_13 (by decide) ?_
    refine lv_iadd hx hb dX7_areTidesAlike_15 ?_
    refine lv_icmp_gt (tgt := 38) hx hb dX7_areTidesAlike_16 (by decide) (fun c3 => ?_) (fun c3 => ?_)
    · replace h := ite_t c3 h
      refine lv_iconst (v := 1) hx hb dX7_areTidesAlike_38 (by decide) ?_
      exact hret _ _ _ _ dX7_areTidesAlike_39 rfl (Option.some.inj h)
    · replace h := ite_f c3 h
      refine lv_iload_n hx hb dX7_areTidesAlike_19 rfl (lv_at hl 1 rfl) ?_
      replace h := bnd h; obtain ⟨q4, e5, h⟩ := h
      refine rdS C hE hP (kX7_tideByStrokes l D T l2 q4 e5) mX7_tideByStrokes qLX7_164 [] rfl ⟨rfl, rfl⟩ ⟨Nat.le_of_ble_eq_true rfl, Nat.le_of_ble_eq_true rfl⟩ rfl hl.1 rfl (Nat.le_of_ble_eq_true rfl) dX7_areTidesAlike_20 ⟨Nat.le_of_ble_eq_true rfl, Nat.le_of_ble_eq_true rfl⟩ ?_
      refine lv_iload_n hx hb dX7_areTidesAlike_23 rfl (lv_at hl 1 rfl) ?_
      refine rdS C hE hP (kX7_tideByDividing l D T l2) mX7_tideByDividing qLX7_167 [] rfl ⟨rfl, rfl⟩ ⟨Nat.le_of_ble_eq_true rfl, Nat.le_of_ble_eq_true rfl⟩ rfl hl.1 rfl (Nat.le_of_ble_eq_true rfl) dX7_areTidesAlike_24 ⟨Nat.le_of_ble_eq_true rfl, Nat.le_of_ble_eq_true rfl⟩ ?_
      refine lv_icmp_eq (tgt := 32) hx hb dX7_areTidesAlike_27 (by decide) (fun c6 => ?_) (fun c6 => ?_)
      · replace h := ite_t c6 h
        refine lv_iinc (v := (l2 + 1)) (lv' := [(2, .int (l2 + 1)), (1, .int l1)]) hx hb dX7_areTidesAlike_32 hl (k := 1) rfl rfl (by decide) rfl (fun ls hl => ?_)
        refine lv_goto (tgt := 11) hx hb dX7_areTidesAlike_35 (by decide) ?_
        exact ih l1 (l2 + 1) _ (lv_sub hl [1, 0] rfl) h
      · replace h := ite_f c6 h
        refine lv_iconst (v := 0) hx hb dX7_areTidesAlike_30 (by decide) ?_
        exact hret _ _ _ _ dX7_areTidesAlike_31 rfl (Option.some.inj h)
set_option maxHeartbeats 4000000 in
set_option maxRecDepth 100000 in
theorem kX7_areTidesAlike (l : Launch) (D : va_G) (T : Nat → ClassId) (a_g a_gw a_gk a_x a_b a_v a_h a_r a_f a_u a_t a_n : Nat) (x_sav : Int32) (x_err : Int32) (x_rea : Int32) (x_det : Int32) (x_com : Int32) (v_gk : Nat → Int32) (r : Int32) (h : fX7_areTidesAlike v_gk = some r) : RdI l yX7_areTidesAlike cX7_areTidesAlike 3 .boolean ({ frames := 1, cells := 0, slots := 0, locals := 23 } : Room) D T [(a_g, .inr (1, [.ref a_gw, .ref a_gk])), (a_x, .inr (7, [.ref a_g, .ref a_b, .ref a_v, .ref a_h, .ref a_r, .ref a_f, .ref a_u, .ref a_t, .ref a_n, .int x_sav, .int x_err, .int x_rea, .int x_det, .int x_com])), (a_gk, .inl (T 0, 18, .inl v_gk))] [.ref a_x] r := by
  unfold fX7_areTidesAlike at h
  refine rdMet (by decide +kernel) rfl (fun p e s m args below meth c Q C hE hP hret ls hl => ?_)
  have hx := C.1
  have hb := C.2.1
  have hl : lv_has ls 3 [(0, .ref a_x)] := hl
  refine lv_aload_n hx hb dX7_areTidesAlike_0 rfl (lv_at hl 0 rfl) ?_
  refine getF (q0 := 1) (k0 := 0) (v := .ref a_g) C hE hP inA7 rfl rfl (by decide) qFX7_10 rfl rfl dX7_areTidesAlike_1 ?_
  refine lv_iconst (v := 1) hx hb dX7_areTidesAlike_4 (by decide) ?_
  replace h := bnd h; obtain ⟨q1, e2, h⟩ := h
  refine rdV C hE hP (kX1_count l D T a_g a_gw a_gk v_gk 1 q1 e2) mX1_count qLX7_235 [0, 2] 0 rfl rfl rfl rfl ⟨rfl, rfl⟩ ⟨Nat.le_of_ble_eq_true rfl, Nat.le_of_ble_eq_true rfl⟩ rfl hl.1 rfl (Nat.le_of_ble_eq_true rfl) dX7_areTidesAlike_5 ⟨Nat.le_of_ble_eq_true rfl, Nat.le_of_ble_eq_true rfl⟩ ?_
  refine lv_istore_n (lv' := [(1, .int q1), (0, .ref a_x)]) hx hb dX7_areTidesAlike_8 rfl hl (by decide) rfl (fun ls hl => ?_)
  refine lv_iload_n hx hb dX7_areTidesAlike_9 rfl (lv_at hl 0 rfl) ?_
  refine lv_istore_n (lv' := [(2, .int q1), (1, .int q1), (0, .ref a_x)]) hx hb dX7_areTidesAlike_10 rfl hl (by decide) rfl (fun ls hl => ?_)
  exact lX7_areTidesAlike_11 C hE hP hret 64 q1 q1 _ (lv_sub hl [1, 0] rfl) h

def fX4_lowerAt_66 (rec4 : Int32 → Int32 → Int32 → (Nat → Int32) → Option (Int32 × (Nat → Int32))) (l1 : Int32) (l2 : Int32) (l3 : Int32) (v_rl : Nat → Int32) : Option (Int32 × (Nat → Int32)) :=
  rec4 l1 l2 (l3 + 1) v_rl
def fX4_lowerAt_4 : Nat → Int32 → Int32 → Int32 → (Nat → Int32) → Option (Int32 × (Nat → Int32))
  | 0, _, _, _, _ => none
  | k + 1, l1, l2, l3, v_rl =>
    if 4 ≤ l3 then
      some ((l2 &&& 1), v_rl)
    else
      if (fX7_isCell l1) = 0 then
        fX4_lowerAt_66 (fX4_lowerAt_4 k) l1 l2 l3 v_rl
      else
        if (fX7_isCell (fX7_nextCell l1 l3)) = 0 then
          fX4_lowerAt_66 (fX4_lowerAt_4 k) l1 l2 l3 v_rl
        else
          if vin (fX7_nextCell l1 l3) 45 = true then
          if vin l1 45 = true then
          if (v_rl l1.toNatClampNeg) ≤ ((v_rl (fX7_nextCell l1 l3).toNatClampNeg) + 1) then
            fX4_lowerAt_66 (fX4_lowerAt_4 k) l1 l2 l3 v_rl
          else
            if vin (fX7_nextCell l1 l3) 45 = true then
            if vin l1 45 = true then
            fX4_lowerAt_66 (fX4_lowerAt_4 k) l1 1 l3 (upd v_rl l1.toNatClampNeg ((v_rl (fX7_nextCell l1 l3).toNatClampNeg) + 1))
            else none
            else none
          else none
          else none
def fX4_lowerAt (v_rl : Nat → Int32) (p0 : Int32) : Option (Int32 × (Nat → Int32)) :=
  fX4_lowerAt_4 64 p0 0 0 v_rl
set_option maxHeartbeats 4000000 in
set_option maxRecDepth 100000 in
theorem lX4_lowerAt_66 {p : Program} {l : Launch} {e : Env} {s : State} {m : MethodId} {args : Array Value} {below : List Frame} {meth : Method} {c : Code} {Q : State → Prop} {D : va_G} {T : Nat → ClassId} {a_r a_g a_rs a_rl a_ro : Nat} {A : Nat → Prop} {r : Int32 × (Nat → Int32)} (C : CallFix p m c cX4_lowerAt 5 s args aw RX4) (hE : eK D T s) (hA : ∀ q : Nat, s.heap.size ≤ q → A q) (hret : WrRet p l e ({ frames := 2, cells := 0, slots := 0, locals := 44 } : Room) s m args below meth c Q cX4_lowerAt .boolean D A [(a_r, .inr (4, [.ref a_g, .ref a_rs, .ref a_rl, .ref a_ro])), (a_rl, .inl (T 0, 45, .inl r.2))] r.1) {rec4 : Int32 → Int32 → Int32 → (Nat → Int32) → Option (Int32 × (Nat → Int32))} (hrec4 : ∀ (l1 : Int32) (l2 : Int32) (l3 : Int32) (v_rl : Nat → Int32) {H : Heap} {locs : List Loc} (hPD : va_PD D A [(a_r, .inr (4, [.ref a_g, .ref a_rs, .ref a_rl, .ref a_ro])), (a_rl, .inl (T 0, 45, .inl v_rl))] H) (hS : va_S A s.heap H locs) (ls : Array Slot) (hl : lv_has ls 5 [(0, .ref a_r), (1, .int l1), (2, .int l2), (3, .int l3)]) (h : rec4 l1 l2 l3 v_rl = some r), W p l e ({ frames := 2, cells := 0, slots := 0, locals := 44 } : Room) s m args below meth c H locs 0 0 Q (F0 m 4 ls [])) (l1 : Int32) (l2 : Int32) (l3 : Int32) (v_rl : Nat → Int32) {H : Heap} {locs : List Loc} (hPD : va_PD D A [(a_r, .inr (4, [.ref a_g, .ref a_rs, .ref a_rl, .ref a_ro])), (a_rl, .inl (T 0, 45, .inl v_rl))] H) (hS : va_S A s.heap H locs) (ls : Array Slot) (hl : lv_has ls 5 [(0, .ref a_r), (1, .int l1), (2, .int l2), (3, .int l3)]) (h : fX4_lowerAt_66 rec4 l1 l2 l3 v_rl = some r) : W p l e ({ frames := 2, cells := 0, slots := 0, locals := 44 } : Room) s m args below meth c H locs 0 0 Q (F0 m 66 ls []) := by
  have hx := C.1
  have hb := C.2.1
  obtain ⟨hP, hD⟩ := hPD
  unfold fX4_lowerAt_66 at h
  refine lv_iinc (v := (l3 + 1)) (lv' := [(3, .int (l3 + 1)), (0, .ref a_r), (1, .int l1), (2, .int l2)]) hx hb dX4_lowerAt_66 hl (k := 3) rfl rfl (by decide) rfl (fun ls hl => ?_)
  refine lv_goto (tgt := 4) hx hb dX4_lowerAt_69 (by decide) ?_
  exact hrec4 l1 l2 (l3 + 1) v_rl ⟨hP, hD⟩ hS _ (lv_sub hl [1, 2, 3, 0] rfl) h
set_option maxHeartbeats 4000000 in
set_option maxRecDepth 100000 in
theorem lX4_lowerAt_4 {p : Program} {l : Launch} {e : Env} {s : State} {m : MethodId} {args : Array Value} {below : List Frame} {meth : Method} {c : Code} {Q : State → Prop} {D : va_G} {T : Nat → ClassId} {a_r a_g a_rs a_rl a_ro : Nat} {A : Nat → Prop} {r : Int32 × (Nat → Int32)} (C : CallFix p m c cX4_lowerAt 5 s args aw RX4) (hE : eK D T s) (hA : ∀ q : Nat, s.heap.size ≤ q → A q) (hret : WrRet p l e ({ frames := 2, cells := 0, slots := 0, locals := 44 } : Room) s m args below meth c Q cX4_lowerAt .boolean D A [(a_r, .inr (4, [.ref a_g, .ref a_rs, .ref a_rl, .ref a_ro])), (a_rl, .inl (T 0, 45, .inl r.2))] r.1) : ∀ (k : Nat) (l1 : Int32) (l2 : Int32) (l3 : Int32) (v_rl : Nat → Int32) {H : Heap} {locs : List Loc} (hPD : va_PD D A [(a_r, .inr (4, [.ref a_g, .ref a_rs, .ref a_rl, .ref a_ro])), (a_rl, .inl (T 0, 45, .inl v_rl))] H) (hS : va_S A s.heap H locs) (ls : Array Slot) (hl : lv_has ls 5 [(0, .ref a_r), (1, .int l1), (2, .int l2), (3, .int l3)]) (h : fX4_lowerAt_4 k l1 l2 l3 v_rl = some r), W p l e ({ frames := 2, cells := 0, slots := 0, locals := 44 } : Room) s m args below meth c H locs 0 0 Q (F0 m 4 ls []) := by
  have hx := C.1
  have hb := C.2.1
  intro k
  induction k with
  | zero =>
    intro l1 l2 l3 v_rl H locs hPD hS ls hl h
    exact nomatch (show (none : Option (Int32 × (Nat → Int32))) = some r from h)
  | succ k ih =>
    intro l1 l2 l3 v_rl H locs hPD hS ls hl h
    obtain ⟨hP, hD⟩ := hPD
    rw [fX4_lowerAt_4] at h
    refine lv_iload_n hx hb dX4_lowerAt_4 rfl (lv_at hl 3 rfl) ?_
    refine lv_iconst (v := 4) hx hb dX4_lowerAt_5 (by decide) ?_
    refine lv_icmp_ge (tgt := 72) hx hb dX4_lowerAt_6 (by decide) (fun c1 => ?_) (fun c1 => ?_)
    · replace h := ite_t c1 h
      refine lv_iload_n hx hb dX4_lowerAt_72 rfl (lv_at hl 2 rfl) ?_
      replace h := Option.some.inj h
      exact hret _ _ _ _ _ _ dX4_lowerAt_73 rfl (by rw [← h] <;> rfl) (by rw [← h]; exact hP) hS
    · replace h := ite_f c1 h
      refine lv_iload_n hx hb dX4_lowerAt_9 rfl (lv_at hl 1 rfl) ?_
      refine lv_iload_n hx hb dX4_lowerAt_10 rfl (lv_at hl 3 rfl) ?_
      refine rdSN C hE hP (kX7_nextCell l D T l1 l3) mX7_nextCell (by decide +kernel) [] rfl ⟨rfl, rfl⟩ ⟨Nat.le_of_ble_eq_true rfl, Nat.le_of_ble_eq_true rfl⟩ rfl hl.1 rfl (Nat.le_of_ble_eq_true rfl) dX4_lowerAt_11 ⟨Nat.le_of_ble_eq_true rfl, Nat.le_of_ble_eq_true rfl⟩ ?_
      refine lv_istore (lv' := [(4, .int (fX7_nextCell l1 l3)), (0, .ref a_r), (1, .int l1), (2, .int l2), (3, .int l3)]) hx hb dX4_lowerAt_14 hl (by decide) rfl (fun ls hl => ?_)
      refine lv_iload_n hx hb dX4_lowerAt_16 rfl (lv_at hl 2 rfl) ?_
      refine rdSN C hE hP (kX7_isCell l D T l1) mX7_isCell (by decide +kernel) [] rfl ⟨rfl, rfl⟩ ⟨Nat.le_of_ble_eq_true rfl, Nat.le_of_ble_eq_true rfl⟩ rfl hl.1 rfl (Nat.le_of_ble_eq_true rfl) dX4_lowerAt_17 ⟨Nat.le_of_ble_eq_true rfl, Nat.le_of_ble_eq_true rfl⟩ ?_
      refine lv_if_eq (tgt := 66) hx hb dX4_lowerAt_20 (by decide) (fun c2 => ?_) (fun c2 => ?_)
      · replace h := ite_t c2 h
        exact lX4_lowerAt_66 C hE hA hret ih l1 l2 l3 v_rl ⟨hP, hD⟩ hS _ (lv_sub hl [1, 2, 3, 4] rfl) h
      · replace h := ite_f c2 h
        refine lv_iload hx hb dX4_lowerAt_23 (lv_at hl 0 rfl) ?_
        refine rdSN C hE hP (kX7_isCell l D T (fX7_nextCell l1 l3)) mX7_isCell (by decide +kernel) [] rfl ⟨rfl, rfl⟩ ⟨Nat.le_of_ble_eq_true rfl, Nat.le_of_ble_eq_true rfl⟩ rfl hl.1 rfl (Nat.le_of_ble_eq_true rfl) dX4_lowerAt_25 ⟨Nat.le_of_ble_eq_true rfl, Nat.le_of_ble_eq_true rfl⟩ ?_
        refine lv_if_eq (tgt := 66) hx hb dX4_lowerAt_28 (by decide) (fun c3 => ?_) (fun c3 => ?_)
        · replace h := ite_t c3 h
          exact lX4_lowerAt_66 C hE hA hret ih l1 l2 l3 v_rl ⟨hP, hD⟩ hS _ (lv_sub hl [1, 2, 3, 4] rfl) h
        · replace h := ite_f c3 h
          refine lv_aload_n hx hb dX4_lowerAt_31 rfl (lv_at hl 1 rfl) ?_
          refine getF (q0 := 0) (k0 := 2) (v := .ref a_rl) C hE hP inA4 rfl rfl (by decide) qFX4_15 rfl rfl dX4_lowerAt_32 ?_
          refine lv_iload hx hb dX4_lowerAt_35 (lv_at hl 0 rfl) ?_
          replace h := gd h; obtain ⟨g4, h⟩ := h
          refine aldI (q0 := 1) C hE hP rfl g4 dX4_lowerAt_37 ?_
          refine lv_iconst (v := 1) hx hb dX4_lowerAt_38 (by decide) ?_
          refine lv_iadd hx hb dX4_lowerAt_39 ?_
          refine lv_aload_n hx hb dX4_lowerAt_40 rfl (lv_at hl 1 rfl) ?_
          refine getF (q0 := 0) (k0 := 2) (v := .ref a_rl) C hE hP inA4 rfl rfl (by decide) qFX4_15 rfl rfl dX4_lowerAt_41 ?_
          refine lv_iload_n hx hb dX4_lowerAt_44 rfl (lv_at hl 2 rfl) ?_
          replace h := gd h; obtain ⟨g5, h⟩ := h
          refine aldI (q0 := 1) C hE hP rfl g5 dX4_lowerAt_45 ?_
          refine lv_icmp_ge (tgt := 66) hx hb dX4_lowerAt_46 (by decide) (fun c6 => ?_) (fun c6 => ?_)
          · replace h := ite_t c6 h
            exact lX4_lowerAt_66 C hE hA hret ih l1 l2 l3 v_rl ⟨hP, hD⟩ hS _ (lv_sub hl [1, 2, 3, 4] rfl) h
          · replace h := ite_f c6 h
            refine lv_aload_n hx hb dX4_lowerAt_49 rfl (lv_at hl 1 rfl) ?_
            refine getF (q0 := 0) (k0 := 2) (v := .ref a_rl) C hE hP inA4 rfl rfl (by decide) qFX4_15 rfl rfl dX4_lowerAt_50 ?_
            refine lv_iload_n hx hb dX4_lowerAt_53 rfl (lv_at hl 2 rfl) ?_
            refine lv_aload_n hx hb dX4_lowerAt_54 rfl (lv_at hl 1 rfl) ?_
            refine getF (q0 := 0) (k0 := 2) (v := .ref a_rl) C hE hP inA4 rfl rfl (by decide) qFX4_15 rfl rfl dX4_lowerAt_55 ?_
            refine lv_iload hx hb dX4_lowerAt_58 (lv_at hl 0 rfl) ?_
            replace h := gd h; obtain ⟨g7, h⟩ := h
            refine aldI (q0 := 1) C hE hP rfl g7 dX4_lowerAt_60 ?_
            refine lv_iconst (v := 1) hx hb dX4_lowerAt_61 (by decide) ?_
            refine lv_iadd hx hb dX4_lowerAt_62 ?_
            replace h := gd h; obtain ⟨g8, h⟩ := h
            refine astI (q0 := 1) (ws1 := [(a_r, .inr (4, [.ref a_g, .ref a_rs, .ref a_rl, .ref a_ro])), (a_rl, .inl (T 0, 45, .inl (upd v_rl l1.toNatClampNeg ((v_rl (fX7_nextCell l1 l3).toNatClampNeg) + 1))))]) C hE hP hD hS rfl g8 rfl dX4_lowerAt_63 ?_; clear hP hD hS; intro H locs hP hD hS
            refine lv_iconst (v := 1) hx hb dX4_lowerAt_64 (by decide) ?_
            refine lv_istore_n (lv' := [(2, .int 1), (4, .int (fX7_nextCell l1 l3)), (0, .ref a_r), (1, .int l1), (3, .int l3)]) hx hb dX4_lowerAt_65 rfl hl (by decide) rfl (fun ls hl => ?_)
            exact lX4_lowerAt_66 C hE hA hret ih l1 1 l3 (upd v_rl l1.toNatClampNeg ((v_rl (fX7_nextCell l1 l3).toNatClampNeg) + 1)) ⟨hP, hD⟩ hS _ (lv_sub hl [2, 3, 0, 4] rfl) h
set_option maxHeartbeats 4000000 in
set_option maxRecDepth 100000 in
theorem kX4_lowerAt (l : Launch) (D : va_G) (T : Nat → ClassId) (a_r a_g a_rs a_rl a_ro : Nat) (v_rl : Nat → Int32) (p0 : Int32) (sz : Nat) (r : Int32 × (Nat → Int32)) (h : fX4_lowerAt v_rl p0 = some r) : WrI l yX4_lowerAt cX4_lowerAt 5 .boolean ({ frames := 2, cells := 0, slots := 0, locals := 44 } : Room) D T sz [(a_r, .inr (4, [.ref a_g, .ref a_rs, .ref a_rl, .ref a_ro])), (a_rl, .inl (T 0, 45, .inl v_rl))] [(a_r, .inr (4, [.ref a_g, .ref a_rs, .ref a_rl, .ref a_ro])), (a_rl, .inl (T 0, 45, .inl r.2))] [.ref a_r, .int p0] r.1 := by
  unfold fX4_lowerAt at h
  refine wrMet (by decide +kernel) rfl (fun p e s m args below meth c Q A C hE hA hP hD hS hret ls hl => ?_)
  have hx := C.1
  have hb := C.2.1
  have hl : lv_has ls 5 [(0, .ref a_r), (1, .int p0)] := hl
  refine lv_iconst (v := 0) hx hb dX4_lowerAt_0 (by decide) ?_
  refine lv_istore_n (lv' := [(2, .int 0), (0, .ref a_r), (1, .int p0)]) hx hb dX4_lowerAt_1 rfl hl (by decide) rfl (fun ls hl => ?_)
  refine lv_iconst (v := 0) hx hb dX4_lowerAt_2 (by decide) ?_
  refine lv_istore_n (lv' := [(3, .int 0), (2, .int 0), (0, .ref a_r), (1, .int p0)]) hx hb dX4_lowerAt_3 rfl hl (by decide) rfl (fun ls hl => ?_)
  exact lX4_lowerAt_4 C hE hA hret 64 p0 0 0 v_rl ⟨hP, hD⟩ hS _ (lv_sub hl [2, 3, 1, 0] rfl) h

def fX4_findByLowering_59 (v_gw : Nat → Int32) (v_gk : Nat → Int32) (rec13 : Int32 → Int32 → (Nat → Int32) → (Nat → Int32) → Option ((Nat → Int32) × (Nat → Int32))) (rec28 : Int32 → Int32 → Int32 → (Nat → Int32) → (Nat → Int32) → Option ((Nat → Int32) × (Nat → Int32))) (l2 : Int32) (l3 : Int32) (l4 : Int32) (v_rl : Nat → Int32) (v_ro : Nat → Int32) : Option ((Nat → Int32) × (Nat → Int32)) :=
  rec28 l2 l3 (l4 + 1) v_rl v_ro
def fX4_findByLowering_28 (v_gw : Nat → Int32) (v_gk : Nat → Int32) (rec13 : Int32 → Int32 → (Nat → Int32) → (Nat → Int32) → Option ((Nat → Int32) × (Nat → Int32))) : Nat → Int32 → Int32 → Int32 → (Nat → Int32) → (Nat → Int32) → Option ((Nat → Int32) × (Nat → Int32))
  | 0, _, _, _, _, _ => none
  | k + 1, l2, l3, l4, v_rl, v_ro =>
    if 45 ≤ l4 then
      rec13 l2 (l3 + 1) v_rl v_ro
    else
      if vin l4 45 = true then
      if (v_ro l4.toNatClampNeg) = 0 then
        fX4_findByLowering_59 v_gw v_gk rec13 (fX4_findByLowering_28 v_gw v_gk rec13 k) l2 l3 l4 v_rl v_ro
      else
        (fX4_lowerAt v_rl l4).bind fun q8 =>
        fX4_findByLowering_59 v_gw v_gk rec13 (fX4_findByLowering_28 v_gw v_gk rec13 k) (if q8.1 = 0 then l2 else 1) l3 l4 q8.2 v_ro
      else none
def fX4_findByLowering_13 (v_gw : Nat → Int32) (v_gk : Nat → Int32) : Nat → Int32 → Int32 → (Nat → Int32) → (Nat → Int32) → Option ((Nat → Int32) × (Nat → Int32))
  | 0, _, _, _, _ => none
  | k + 1, l2, l3, v_rl, v_ro =>
    if 45 ≤ l3 then
      some (v_rl, v_ro)
    else
      if l2 = 0 then
        some (v_rl, v_ro)
      else
        fX4_findByLowering_28 v_gw v_gk (fX4_findByLowering_13 v_gw v_gk k) 64 0 l3 0 v_rl v_ro
def fX4_findByLowering (v_gw : Nat → Int32) (v_gk : Nat → Int32) (v_rl : Nat → Int32) (v_ro : Nat → Int32) (p0 : Int32) : Option ((Nat → Int32) × (Nat → Int32)) :=
  (fX4_begin v_gw v_gk v_ro 45 v_rl p0).bind fun q1 =>
  fX4_findByLowering_13 v_gw v_gk 64 1 0 q1.2 q1.1
set_option maxHeartbeats 4000000 in
set_option maxRecDepth 100000 in
theorem lX4_findByLowering_59 {p : Program} {l : Launch} {e : Env} {s : State} {m : MethodId} {args : Array Value} {below : List Frame} {meth : Method} {c : Code} {Q : State → Prop} {D : va_G} {T : Nat → ClassId} {a_g a_gw a_gk a_r a_rs a_rl a_ro : Nat} {v_gw : Nat → Int32} {v_gk : Nat → Int32} {A : Nat → Prop} {r : (Nat → Int32) × (Nat → Int32)} (C : CallFix p m c cX4_findByLowering 5 s args aw RX4) (hE : eK D T s) (hA : ∀ q : Nat, s.heap.size ≤ q → A q) (hret : WrRetV p l e ({ frames := 3, cells := 0, slots := 0, locals := 68 } : Room) s m args below meth c Q cX4_findByLowering D A [(a_g, .inr (1, [.ref a_gw, .ref a_gk])), (a_r, .inr (4, [.ref a_g, .ref a_rs, .ref a_rl, .ref a_ro])), (a_gw, .inl (T 0, 90, .inl v_gw)), (a_gk, .inl (T 0, 18, .inl v_gk)), (a_rl, .inl (T 0, 45, .inl r.1)), (a_ro, .inl (T 1, 45, .inl r.2))]) {rec13 : Int32 → Int32 → (Nat → Int32) → (Nat → Int32) → Option ((Nat → Int32) × (Nat → Int32))} (hrec13 : ∀ (l2 : Int32) (l3 : Int32) (v_rl : Nat → Int32) (v_ro : Nat → Int32) {H : Heap} {locs : List Loc} (hPD : va_PD D A [(a_g, .inr (1, [.ref a_gw, .ref a_gk])), (a_r, .inr (4, [.ref a_g, .ref a_rs, .ref a_rl, .ref a_ro])), (a_gw, .inl (T 0, 90, .inl v_gw)), (a_gk, .inl (T 0, 18, .inl v_gk)), (a_rl, .inl (T 0, 45, .inl v_rl)), (a_ro, .inl (T 1, 45, .inl v_ro))] H) (hS : va_S A s.heap H locs) (ls : Array Slot) (hl : lv_has ls 5 [(0, .ref a_r), (2, .int l2), (3, .int l3)]) (h : rec13 l2 l3 v_rl v_ro = some r), W p l e ({ frames := 3, cells := 0, slots := 0, locals := 68 } : Room) s m args below meth c H locs 0 0 Q (F0 m 13 ls [])) {rec28 : Int32 → Int32 → Int32 → (Nat → Int32) → (Nat → Int32) → Option ((Nat → Int32) × (Nat → Int32))} (hrec28 : ∀ (l2 : Int32) (l3 : Int32) (l4 : Int32) (v_rl : Nat → Int32) (v_ro : Nat → Int32) {H : Heap} {locs : List Loc} (hPD : va_PD D A [(a_g, .inr (1, [.ref a_gw, .ref a_gk])), (a_r, .inr (4, [.ref a_g, .ref a_rs, .ref a_rl, .ref a_ro])), (a_gw, .inl (T 0, 90, .inl v_gw)), (a_gk, .inl (T 0, 18, .inl v_gk)), (a_rl, .inl (T 0, 45, .inl v_rl)), (a_ro, .inl (T 1, 45, .inl v_ro))] H) (hS : va_S A s.heap H locs) (ls : Array Slot) (hl : lv_has ls 5 [(0, .ref a_r), (2, .int l2), (3, .int l3), (4, .int l4)]) (h : rec28 l2 l3 l4 v_rl v_ro = some r), W p l e ({ frames := 3, cells := 0, slots := 0, locals := 68 } : Room) s m args below meth c H locs 0 0 Q (F0 m 28 ls [])) (l2 : Int32) (l3 : Int32) (l4 : Int32) (v_rl : Nat → Int32) (v_ro : Nat → Int32) {H : Heap} {locs : List Loc} (hPD : va_PD D A [(a_g, .inr (1, [.ref a_gw, .ref a_gk])), (a_r, .inr (4, [.ref a_g, .ref a_rs, .ref a_rl, .ref a_ro])), (a_gw, .inl (T 0, 90, .inl v_gw)), (a_gk, .inl (T 0, 18, .inl v_gk)), (a_rl, .inl (T 0, 45, .inl v_rl)), (a_ro, .inl (T 1, 45, .inl v_ro))] H) (hS : va_S A s.heap H locs) (ls : Array Slot) (hl : lv_has ls 5 [(0, .ref a_r), (2, .int l2), (3, .int l3), (4, .int l4)]) (h : fX4_findByLowering_59 v_gw v_gk rec13 rec28 l2 l3 l4 v_rl v_ro = some r) : W p l e ({ frames := 3, cells := 0, slots := 0, locals := 68 } : Room) s m args below meth c H locs 0 0 Q (F0 m 59 ls []) := by
  have hx := C.1
  have hb := C.2.1
  obtain ⟨hP, hD⟩ := hPD
  unfold fX4_findByLowering_59 at h
  refine lv_iinc (v := (l4 + 1)) (lv' := [(4, .int (l4 + 1)), (0, .ref a_r), (2, .int l2), (3, .int l3)]) hx hb dX4_findByLowering_59 hl (k := 3) rfl rfl (by decide) rfl (fun ls hl => ?_)
  refine lv_goto (tgt := 28) hx hb dX4_findByLowering_62 (by decide) ?_
  exact hrec28 l2 l3 (l4 + 1) v_rl v_ro ⟨hP, hD⟩ hS _ (lv_sub hl [1, 2, 3, 0] rfl) h
set_option maxHeartbeats 4000000 in
set_option maxRecDepth 100000 in
theorem lX4_findByLowering_28 {p : Program} {l : Launch} {e : Env} {s : State} {m : MethodId} {args : Array Value} {below : List Frame} {meth : Method} {c : Code} {Q : State → Prop} {D : va_G} {T : Nat → ClassId} {a_g a_gw a_gk a_r a_rs a_rl a_ro : Nat} {v_gw : Nat → Int32} {v_gk : Nat → Int32} {A : Nat → Prop} {r : (Nat → Int32) × (Nat → Int32)} (C : CallFix p m c cX4_findByLowering 5 s args aw RX4) (hE : eK D T s) (hA : ∀ q : Nat, s.heap.size ≤ q → A q) (hret : WrRetV p l e ({ frames := 3, cells := 0, slots := 0, locals := 68 } : Room) s m args below meth c Q cX4_findByLowering D A [(a_g, .inr (1, [.ref a_gw, .ref a_gk])), (a_r, .inr (4, [.ref a_g, .ref a_rs, .ref a_rl, .ref a_ro])), (a_gw, .inl (T 0, 90, .inl v_gw)), (a_gk, .inl (T 0, 18, .inl v_gk)), (a_rl, .inl (T 0, 45, .inl r.1)), (a_ro, .inl (T 1, 45, .inl r.2))]) {rec13 : Int32 → Int32 → (Nat → Int32) → (Nat → Int32) → Option ((Nat → Int32) × (Nat → Int32))} (hrec13 : ∀ (l2 : Int32) (l3 : Int32) (v_rl : Nat → Int32) (v_ro : Nat → Int32) {H : Heap} {locs : List Loc} (hPD : va_PD D A [(a_g, .inr (1, [.ref a_gw, .ref a_gk])), (a_r, .inr (4, [.ref a_g, .ref a_rs, .ref a_rl, .ref a_ro])), (a_gw, .inl (T 0, 90, .inl v_gw)), (a_gk, .inl (T 0, 18, .inl v_gk)), (a_rl, .inl (T 0, 45, .inl v_rl)), (a_ro, .inl (T 1, 45, .inl v_ro))] H) (hS : va_S A s.heap H locs) (ls : Array Slot) (hl : lv_has ls 5 [(0, .ref a_r), (2, .int l2), (3, .int l3)]) (h : rec13 l2 l3 v_rl v_ro = some r), W p l e ({ frames := 3, cells := 0, slots := 0, locals := 68 } : Room) s m args below meth c H locs 0 0 Q (F0 m 13 ls [])) : ∀ (k : Nat) (l2 : Int32) (l3 : Int32) (l4 : Int32) (v_rl : Nat → Int32) (v_ro : Nat → Int32) {H : Heap} {locs : List Loc} (hPD : va_PD D A [(a_g, .inr (1, [.ref a_gw, .ref a_gk])), (a_r, .inr (4, [.ref a_g, .ref a_rs, .ref a_rl, .ref a_ro])), (a_gw, .inl (T 0, 90, .inl v_gw)), (a_gk, .inl (T 0, 18, .inl v_gk)), (a_rl, .inl (T 0, 45, .inl v_rl)), (a_ro, .inl (T 1, 45, .inl v_ro))] H) (hS : va_S A s.heap H locs) (ls : Array Slot) (hl : lv_has ls 5 [(0, .ref a_r), (2, .int l2), (3, .int l3), (4, .int l4)]) (h : fX4_findByLowering_28 v_gw v_gk rec13 k l2 l3 l4 v_rl v_ro = some r), W p l e ({ frames := 3, cells := 0, slots := 0, locals := 68 } : Room) s m args below meth c H locs 0 0 Q (F0 m 28 ls []) := by
  have hx := C.1
  have hb := C.2.1
  intro k
  induction k with
  | zero =>
    intro l2 l3 l4 v_rl v_ro H locs hPD hS ls hl h
    exact nomatch (show (none : Option ((Nat → Int32) × (Nat → Int32))) = some r from h)
  | succ k ih =>
    intro l2 l3 l4 v_rl v_ro H locs hPD hS ls hl h
    obtain ⟨hP, hD⟩ := hPD
    rw [fX4_findByLowering_28] at h
    refine lv_iload hx hb dX4_findByLowering_28 (lv_at hl 3 rfl) ?_
    refine lv_aload_n hx hb dX4_findByLowering_30 rfl (lv_at hl 0 rfl) ?_
    refine getF (q0 := 1) (k0 := 3) (v := .ref a_ro) C hE hP inA4 rfl rfl (by decide) qFX4_18 rfl rfl dX4_findByLowering_31 ?_
    refine alen (q0 := 5) (t0 := 1) (v := 45) C hE hP rfl rfl (by decide) dX4_findByLowering_34 ?_
    refine lv_icmp_ge (tgt := 65) hx hb dX4_findByLowering_35 (by decide) (fun c5 => ?_) (fun c5 => ?_)
    · replace h := ite_t c5 h
      refine lv_iinc (v := (l3 + 1)) (lv' := [(3, .int (l3 + 1)), (0, .ref a_r), (2, .int l2), (4, .int l4)]) hx hb dX4_findByLowering_65 hl (k := 2) rfl rfl (by decide) rfl (fun ls hl => ?_)
      refine lv_goto (tgt := 13) hx hb dX4_findByLowering_68 (by decide) ?_
      exact hrec13 l2 (l3 + 1) v_rl v_ro ⟨hP, hD⟩ hS _ (lv_sub hl [1, 2, 0] rfl) h
    · replace h := ite_f c5 h
      refine lv_aload_n hx hb dX4_findByLowering_38 rfl (lv_at hl 0 rfl) ?_
      refine getF (q0 := 1) (k0 := 3) (v := .ref a_ro) C hE hP inA4 rfl rfl (by decide) qFX4_18 rfl rfl dX4_findByLowering_39 ?_
      refine lv_iload hx hb dX4_findByLowering_42 (lv_at hl 3 rfl) ?_
      replace h := gd h; obtain ⟨g6, h⟩ := h
      refine aldZ (q0 := 5) C hE hP rfl g6 dX4_findByLowering_44 ?_
      refine lv_if_eq (tgt := 59) hx hb dX4_findByLowering_45 (by decide) (fun c7 => ?_) (fun c7 => ?_)
      · replace h := ite_t c7 h
        exact lX4_findByLowering_59 C hE hA hret hrec13 ih l2 l3 l4 v_rl v_ro ⟨hP, hD⟩ hS _ (lv_sub hl [0, 1, 2, 3] rfl) h
      · replace h := ite_f c7 h
        refine lv_aload_n hx hb dX4_findByLowering_48 rfl (lv_at hl 0 rfl) ?_
        refine lv_iload hx hb dX4_findByLowering_49 (lv_at hl 3 rfl) ?_
        replace h := bnd h; obtain ⟨q8, e9, h⟩ := h
        refine wrVi (ws1 := [(a_g, .inr (1, [.ref a_gw, .ref a_gk])), (a_r, .inr (4, [.ref a_g, .ref a_rs, .ref a_rl, .ref a_ro])), (a_gw, .inl (T 0, 90, .inl v_gw)), (a_gk, .inl (T 0, 18, .inl v_gk)), (a_rl, .inl (T 0, 45, .inl q8.2)), (a_ro, .inl (T 1, 45, .inl v_ro))]) C hE hP hD hS hA (kX4_lowerAt l D T a_r a_g a_rs a_rl a_ro v_rl l4 _ q8 e9) mX4_lowerAt qLX4_49 [1, 4] [0, 2, 3, 5] 1 rfl rfl rfl rfl rfl rfl rfl rfl rfl ⟨rfl, rfl⟩ ⟨Nat.le_of_ble_eq_true rfl, Nat.le_of_ble_eq_true rfl⟩ rfl hl.1 rfl (Nat.le_of_ble_eq_true rfl) dX4_findByLowering_51 ⟨Nat.le_of_ble_eq_true rfl, Nat.le_of_ble_eq_true rfl⟩ ?_; clear hP hD hS; intro H locs hP hD hS
        refine lv_if_eq (tgt := 59) hx hb dX4_findByLowering_54 (by decide) (fun c10 => ?_) (fun c10 => ?_)
        · rw [if_pos c10] at h
          exact lX4_findByLowering_59 C hE hA hret hrec13 ih l2 l3 l4 q8.2 v_ro ⟨hP, hD⟩ hS _ (lv_sub hl [0, 1, 2, 3] rfl) h
        · rw [if_neg c10] at h
          refine lv_iconst (v := 1) hx hb dX4_findByLowering_57 (by decide) ?_
          refine lv_istore_n (lv' := [(2, .int 1), (0, .ref a_r), (3, .int l3), (4, .int l4)]) hx hb dX4_findByLowering_58 rfl hl (by decide) rfl (fun ls hl => ?_)
          exact lX4_findByLowering_59 C hE hA hret hrec13 ih 1 l3 l4 q8.2 v_ro ⟨hP, hD⟩ hS _ (lv_sub hl [1, 0, 2, 3] rfl) h
set_option maxHeartbeats 4000000 in
set_option maxRecDepth 100000 in
theorem lX4_findByLowering_13 {p : Program} {l : Launch} {e : Env} {s : State} {m : MethodId} {args : Array Value} {below : List Frame} {meth : Method} {c : Code} {Q : State → Prop} {D : va_G} {T : Nat → ClassId} {a_g a_gw a_gk a_r a_rs a_rl a_ro : Nat} {v_gw : Nat → Int32} {v_gk : Nat → Int32} {A : Nat → Prop} {r : (Nat → Int32) × (Nat → Int32)} (C : CallFix p m c cX4_findByLowering 5 s args aw RX4) (hE : eK D T s) (hA : ∀ q : Nat, s.heap.size ≤ q → A q) (hret : WrRetV p l e ({ frames := 3, cells := 0, slots := 0, locals := 68 } : Room) s m args below meth c Q cX4_findByLowering D A [(a_g, .inr (1, [.ref a_gw, .ref a_gk])), (a_r, .inr (4, [.ref a_g, .ref a_rs, .ref a_rl, .ref a_ro])), (a_gw, .inl (T 0, 90, .inl v_gw)), (a_gk, .inl (T 0, 18, .inl v_gk)), (a_rl, .inl (T 0, 45, .inl r.1)), (a_ro, .inl (T 1, 45, .inl r.2))]) : ∀ (k : Nat) (l2 : Int32) (l3 : Int32) (v_rl : Nat → Int32) (v_ro : Nat → Int32) {H : Heap} {locs : List Loc} (hPD : va_PD D A [(a_g, .inr (1, [.ref a_gw, .ref a_gk])), (a_r, .inr (4, [.ref a_g, .ref a_rs, .ref a_rl, .ref a_ro])), (a_gw, .inl (T 0, 90, .inl v_gw)), (a_gk, .inl (T 0, 18, .inl v_gk)), (a_rl, .inl (T 0, 45, .inl v_rl)), (a_ro, .inl (T 1, 45, .inl v_ro))] H) (hS : va_S A s.heap H locs) (ls : Array Slot) (hl : lv_has ls 5 [(0, .ref a_r), (2, .int l2), (3, .int l3)]) (h : fX4_findByLowering_13 v_gw v_gk k l2 l3 v_rl v_ro = some r), W p l e ({ frames := 3, cells := 0, slots := 0, locals := 68 } : Room) s m args below meth c H locs 0 0 Q (F0 m 13 ls []) := by
  have hx := C.1
  have hb := C.2.1
  intro k
  induction k with
  | zero =>
    intro l2 l3 v_rl v_ro H locs hPD hS ls hl h
    exact nomatch (show (none : Option ((Nat → Int32) × (Nat → Int32))) = some r from h)
  | succ k ih =>
    intro l2 l3 v_rl v_ro H locs hPD hS ls hl h
    obtain ⟨hP, hD⟩ := hPD
    rw [fX4_findByLowering_13] at h
    refine lv_iload_n hx hb dX4_findByLowering_13 rfl (lv_at hl 2 rfl) ?_
    refine lv_bipush (v := 45) hx hb dX4_findByLowering_14 (by decide) ?_
    refine lv_icmp_ge (tgt := 71) hx hb dX4_findByLowering_16 (by decide) (fun c3 => ?_) (fun c3 => ?_)
    · replace h := ite_t c3 h
      replace h := Option.some.inj h
      exact hret _ _ _ _ dX4_findByLowering_71 (by rw [← h]; exact hP) hS
    · replace h := ite_f c3 h
      refine lv_iload_n hx hb dX4_findByLowering_19 rfl (lv_at hl 1 rfl) ?_
      refine lv_if_eq (tgt := 71) hx hb dX4_findByLowering_20 (by decide) (fun c4 => ?_) (fun c4 => ?_)
      · replace h := ite_t c4 h
        replace h := Option.some.inj h
        exact hret _ _ _ _ dX4_findByLowering_71 (by rw [← h]; exact hP) hS
      · replace h := ite_f c4 h
        refine lv_iconst (v := 0) hx hb dX4_findByLowering_23 (by decide) ?_
        refine lv_istore_n (lv' := [(2, .int 0), (0, .ref a_r), (3, .int l3)]) hx hb dX4_findByLowering_24 rfl hl (by decide) rfl (fun ls hl => ?_)
        refine lv_iconst (v := 0) hx hb dX4_findByLowering_25 (by decide) ?_
        refine lv_istore (lv' := [(4, .int 0), (2, .int 0), (0, .ref a_r), (3, .int l3)]) hx hb dX4_findByLowering_26 hl (by decide) rfl (fun ls hl => ?_)
        exact lX4_findByLowering_28 C hE hA hret ih 64 0 l3 0 v_rl v_ro ⟨hP, hD⟩ hS _ (lv_sub hl [2, 1, 3, 0] rfl) h
set_option maxHeartbeats 4000000 in
set_option maxRecDepth 100000 in
theorem kX4_findByLowering (l : Launch) (D : va_G) (T : Nat → ClassId) (a_g a_gw a_gk a_r a_rs a_rl a_ro : Nat) (v_gw : Nat → Int32) (v_gk : Nat → Int32) (v_rl : Nat → Int32) (v_ro : Nat → Int32) (p0 : Int32) (sz : Nat) (r : (Nat → Int32) × (Nat → Int32)) (h : fX4_findByLowering v_gw v_gk v_rl v_ro p0 = some r) : WrV l yX4_findByLowering cX4_findByLowering 5 ({ frames := 3, cells := 0, slots := 0, locals := 68 } : Room) D T sz [(a_g, .inr (1, [.ref a_gw, .ref a_gk])), (a_r, .inr (4, [.ref a_g, .ref a_rs, .ref a_rl, .ref a_ro])), (a_gw, .inl (T 0, 90, .inl v_gw)), (a_gk, .inl (T 0, 18, .inl v_gk)), (a_rl, .inl (T 0, 45, .inl v_rl)), (a_ro, .inl (T 1, 45, .inl v_ro))] [(a_g, .inr (1, [.ref a_gw, .ref a_gk])), (a_r, .inr (4, [.ref a_g, .ref a_rs, .ref a_rl, .ref a_ro])), (a_gw, .inl (T 0, 90, .inl v_gw)), (a_gk, .inl (T 0, 18, .inl v_gk)), (a_rl, .inl (T 0, 45, .inl r.1)), (a_ro, .inl (T 1, 45, .inl r.2))] [.ref a_r, .int p0] := by
  unfold fX4_findByLowering at h
  refine wrMetV (by decide +kernel) rfl (fun p e s m args below meth c Q A C hE hA hP hD hS hret ls hl => ?_)
  have hx := C.1
  have hb := C.2.1
  have hl : lv_has ls 5 [(0, .ref a_r), (1, .int p0)] := hl
  refine lv_aload_n hx hb dX4_findByLowering_0 rfl (lv_at hl 0 rfl) ?_
  refine lv_aload_n hx hb dX4_findByLowering_1 rfl (lv_at hl 0 rfl) ?_
  refine getF (q0 := 1) (k0 := 2) (v := .ref a_rl) C hE hP inA4 rfl rfl (by decide) qFX4_15 rfl rfl dX4_findByLowering_2 ?_
  refine lv_iload_n hx hb dX4_findByLowering_5 rfl (lv_at hl 1 rfl) ?_
  replace h := bnd h; obtain ⟨q1, e2, h⟩ := h
  refine wrVv (ws1 := [(a_g, .inr (1, [.ref a_gw, .ref a_gk])), (a_r, .inr (4, [.ref a_g, .ref a_rs, .ref a_rl, .ref a_ro])), (a_gw, .inl (T 0, 90, .inl v_gw)), (a_gk, .inl (T 0, 18, .inl v_gk)), (a_rl, .inl (T 0, 45, .inl q1.2)), (a_ro, .inl (T 1, 45, .inl q1.1))]) C hE hP hD hS hA (kX4_begin l D T a_g a_gw a_gk a_r a_rs a_rl a_ro a_rl v_gw v_gk v_ro 45 v_rl p0 _ q1 e2) mX4_begin qLX4_37 [0, 1, 2, 3, 5, 4] [] 1 rfl rfl rfl rfl rfl rfl rfl rfl rfl ⟨rfl, rfl⟩ ⟨Nat.le_of_ble_eq_true rfl, Nat.le_of_ble_eq_true rfl⟩ rfl hl.1 rfl (Nat.le_of_ble_eq_true rfl) dX4_findByLowering_6 ⟨Nat.le_of_ble_eq_true rfl, Nat.le_of_ble_eq_true rfl⟩ ?_; clear hP hD hS; intro H locs hP hD hS
  refine lv_iconst (v := 1) hx hb dX4_findByLowering_9 (by decide) ?_
  refine lv_istore_n (lv' := [(2, .int 1), (0, .ref a_r), (1, .int p0)]) hx hb dX4_findByLowering_10 rfl hl (by decide) rfl (fun ls hl => ?_)
  refine lv_iconst (v := 0) hx hb dX4_findByLowering_11 (by decide) ?_
  refine lv_istore_n (lv' := [(3, .int 0), (2, .int 1), (0, .ref a_r), (1, .int p0)]) hx hb dX4_findByLowering_12 rfl hl (by decide) rfl (fun ls hl => ?_)
  exact lX4_findByLowering_13 C hE hA hret 64 1 0 q1.2 q1.1 ⟨hP, hD⟩ hS _ (lv_sub hl [2, 1, 0] rfl) h

def fX4_loweredTo (v_rl : Nat → Int32) (p0 : Int32) : Option Int32 :=
  if (fX7_isCell p0) = 0 then
    some (-1)
  else
    if vin p0 45 = true then
    if 1000 ≤ (v_rl p0.toNatClampNeg) then
      some (-1)
    else
      if vin p0 45 = true then
      some (v_rl p0.toNatClampNeg)
      else none
    else none
set_option maxHeartbeats 4000000 in
set_option maxRecDepth 100000 in
theorem kX4_loweredTo (l : Launch) (D : va_G) (T : Nat → ClassId) (a_r a_g a_rs a_rl a_ro : Nat) (v_rl : Nat → Int32) (p0 : Int32) (r : Int32) (h : fX4_loweredTo v_rl p0 = some r) : RdI l yX4_loweredTo cX4_loweredTo 2 .int ({ frames := 1, cells := 0, slots := 0, locals := 20 } : Room) D T [(a_r, .inr (4, [.ref a_g, .ref a_rs, .ref a_rl, .ref a_ro])), (a_rl, .inl (T 0, 45, .inl v_rl))] [.ref a_r, .int p0] r := by
  unfold fX4_loweredTo at h
  refine rdMet (by decide +kernel) rfl (fun p e s m args below meth c Q C hE hP hret ls hl => ?_)
  have hx := C.1
  have hb := C.2.1
  have hl : lv_has ls 2 [(0, .ref a_r), (1, .int p0)] := hl
  refine lv_iload_n hx hb dX4_loweredTo_0 rfl (lv_at hl 1 rfl) ?_
  refine rdSN C hE hP (kX7_isCell l D T p0) mX7_isCell (by decide +kernel) [] rfl ⟨rfl, rfl⟩ ⟨Nat.le_of_ble_eq_true rfl, Nat.le_of_ble_eq_true rfl⟩ rfl hl.1 rfl (Nat.le_of_ble_eq_true rfl) dX4_loweredTo_1 ⟨Nat.le_of_ble_eq_true rfl, Nat.le_of_ble_eq_true rfl⟩ ?_
  refine lv_if_eq (tgt := 28) hx hb dX4_loweredTo_4 (by decide) (fun c1 => ?_) (fun c1 => ?_)
  · replace h := ite_t c1 h
    refine lv_iconst (v := (-1)) hx hb dX4_loweredTo_28 (by decide) ?_
    exact hret _ _ _ _ dX4_loweredTo_29 rfl (Option.some.inj h)
  · replace h := ite_f c1 h
    refine lv_aload_n hx hb dX4_loweredTo_7 rfl (lv_at hl 0 rfl) ?_
    refine getF (q0 := 0) (k0 := 2) (v := .ref a_rl) C hE hP inA4 rfl rfl (by decide) qFX4_15 rfl rfl dX4_loweredTo_8 ?_
    refine lv_iload_n hx hb dX4_loweredTo_11 rfl (lv_at hl 1 rfl) ?_
    replace h := gd h; obtain ⟨g2, h⟩ := h
    refine aldI (q0 := 1) C hE hP rfl g2 dX4_loweredTo_12 ?_
    refine lv_sipush (v := 1000) hx hb dX4_loweredTo_13 (by decide) ?_
    refine lv_icmp_ge (tgt := 28) hx hb dX4_loweredTo_16 (by decide) (fun c3 => ?_) (fun c3 => ?_)
    · replace h := ite_t c3 h
      refine lv_iconst (v := (-1)) hx hb dX4_loweredTo_28 (by decide) ?_
      exact hret _ _ _ _ dX4_loweredTo_29 rfl (Option.some.inj h)
    · replace h := ite_f c3 h
      refine lv_aload_n hx hb dX4_loweredTo_19 rfl (lv_at hl 0 rfl) ?_
      refine getF (q0 := 0) (k0 := 2) (v := .ref a_rl) C hE hP inA4 rfl rfl (by decide) qFX4_15 rfl rfl dX4_loweredTo_20 ?_
      refine lv_iload_n hx hb dX4_loweredTo_23 rfl (lv_at hl 1 rfl) ?_
      replace h := gd h; obtain ⟨g4, h⟩ := h
      refine aldI (q0 := 1) C hE hP rfl g4 dX4_loweredTo_24 ?_
      refine lv_goto (tgt := 29) hx hb dX4_loweredTo_25 (by decide) ?_
      exact hret _ _ _ _ dX4_loweredTo_29 rfl (Option.some.inj h)

def fX4_areAlike_2 (v_rs : Nat → Int32) (v_rl : Nat → Int32) : Nat → Int32 → Option Int32
  | 0, _ => none
  | k + 1, l1 =>
    if 45 ≤ l1 then
      some 1
    else
      (fX4_spreadTo v_rs l1).bind fun q2 =>
      (fX4_loweredTo v_rl l1).bind fun q4 =>
      if q2 = q4 then
        fX4_areAlike_2 v_rs v_rl k (l1 + 1)
      else
        some 0
def fX4_areAlike (v_rs : Nat → Int32) (v_rl : Nat → Int32) : Option Int32 :=
  fX4_areAlike_2 v_rs v_rl 64 0
set_option maxHeartbeats 4000000 in
set_option maxRecDepth 100000 in
theorem lX4_areAlike_2 {p : Program} {l : Launch} {e : Env} {s : State} {m : MethodId} {args : Array Value} {below : List Frame} {meth : Method} {c : Code} {Q : State → Prop} {D : va_G} {T : Nat → ClassId} {a_r a_g a_rs a_rl a_ro : Nat} {v_rs : Nat → Int32} {v_rl : Nat → Int32} {r : Int32} (C : CallFix p m c cX4_areAlike 2 s args aw RX4) (hE : eK D T s) (hP : va_P D kC [(a_r, .inr (4, [.ref a_g, .ref a_rs, .ref a_rl, .ref a_ro])), (a_rs, .inl (T 0, 45, .inl v_rs)), (a_rl, .inl (T 0, 45, .inl v_rl))] s.heap) (hret : RdRet p l e ({ frames := 2, cells := 0, slots := 0, locals := 41 } : Room) s m args below meth c Q cX4_areAlike .boolean r) : ∀ (k : Nat) (l1 : Int32) (ls : Array Slot) (hl : lv_has ls 2 [(0, .ref a_r), (1, .int l1)]) (h : fX4_areAlike_2 v_rs v_rl k l1 = some r), W p l e ({ frames := 2, cells := 0, slots := 0, locals := 41 } : Room) s m args below meth c s.heap [] 0 0 Q (F0 m 2 ls []) := by
  have hx := C.1
  have hb := C.2.1
  intro k
  induction k with
  | zero =>
    intro l1  ls hl h
    exact nomatch (show (none : Option Int32) = some r from h)
  | succ k ih =>
    intro l1  ls hl h
    rw [fX4_areAlike_2] at h
    refine lv_iload_n hx hb dX4_areAlike_2 rfl (lv_at hl 1 rfl) ?_
    refine lv_bipush (v := 45) hx hb dX4_areAlike_3 (by decide) ?_
    refine lv_icmp_ge (tgt := 29) hx hb dX4_areAlike_5 (by decide) (fun c1 => ?_) (fun c1 => ?_)
    · replace h := ite_t c1 h
      refine lv_iconst (v := 1) hx hb dX4_areAlike_29 (by decide) ?_
      exact hret _ _ _ _ dX4_areAlike_30 rfl (Option.some.inj h)
    · replace h := ite_f c1 h
      refine lv_aload_n hx hb dX4_areAlike_8 rfl (lv_at hl 0 rfl) ?_
      refine lv_iload_n hx hb dX4_areAlike_9 rfl (lv_at hl 1 rfl) ?_
      replace h := bnd h; obtain ⟨q2, e3, h⟩ := h
      refine rdV C hE hP (kX4_spreadTo l D T a_r a_g a_rs a_rl a_ro v_rs l1 q2 e3) mX4_spreadTo qLX4_30 [0, 1] 0 rfl rfl rfl rfl ⟨rfl, rfl⟩ ⟨Nat.le_of_ble_eq_true rfl, Nat.le_of_ble_eq_true rfl⟩ rfl hl.1 rfl (Nat.le_of_ble_eq_true rfl) dX4_areAlike_10 ⟨Nat.le_of_ble_eq_true rfl, Nat.le_of_ble_eq_true rfl⟩ ?_
      refine lv_aload_n hx hb dX4_areAlike_13 rfl (lv_at hl 0 rfl) ?_
      refine lv_iload_n hx hb dX4_areAlike_14 rfl (lv_at hl 1 rfl) ?_
      replace h := bnd h; obtain ⟨q4, e5, h⟩ := h
      refine rdV C hE hP (kX4_loweredTo l D T a_r a_g a_rs a_rl a_ro v_rl l1 q4 e5) mX4_loweredTo qLX4_34 [0, 2] 0 rfl rfl rfl rfl ⟨rfl, rfl⟩ ⟨Nat.le_of_ble_eq_true rfl, Nat.le_of_ble_eq_true rfl⟩ rfl hl.1 rfl (Nat.le_of_ble_eq_true rfl) dX4_areAlike_15 ⟨Nat.le_of_ble_eq_true rfl, Nat.le_of_ble_eq_true rfl⟩ ?_
      refine lv_icmp_eq (tgt := 23) hx hb dX4_areAlike_18 (by decide) (fun c6 => ?_) (fun c6 => ?_)
      · replace h := ite_t c6 h
        refine lv_iinc (v := (l1 + 1)) (lv' := [(1, .int (l1 + 1)), (0, .ref a_r)]) hx hb dX4_areAlike_23 hl (k := 1) rfl rfl (by decide) rfl (fun ls hl => ?_)
        refine lv_goto (tgt := 2) hx hb dX4_areAlike_26 (by decide) ?_
        exact ih (l1 + 1) _ (lv_sub hl [1, 0] rfl) h
      · replace h := ite_f c6 h
        refine lv_iconst (v := 0) hx hb dX4_areAlike_21 (by decide) ?_
        exact hret _ _ _ _ dX4_areAlike_22 rfl (Option.some.inj h)
set_option maxHeartbeats 4000000 in
set_option maxRecDepth 100000 in
theorem kX4_areAlike (l : Launch) (D : va_G) (T : Nat → ClassId) (a_r a_g a_rs a_rl a_ro : Nat) (v_rs : Nat → Int32) (v_rl : Nat → Int32) (r : Int32) (h : fX4_areAlike v_rs v_rl = some r) : RdI l yX4_areAlike cX4_areAlike 2 .boolean ({ frames := 2, cells := 0, slots := 0, locals := 41 } : Room) D T [(a_r, .inr (4, [.ref a_g, .ref a_rs, .ref a_rl, .ref a_ro])), (a_rs, .inl (T 0, 45, .inl v_rs)), (a_rl, .inl (T 0, 45, .inl v_rl))] [.ref a_r] r := by
  unfold fX4_areAlike at h
  refine rdMet (by decide +kernel) rfl (fun p e s m args below meth c Q C hE hP hret ls hl => ?_)
  have hx := C.1
  have hb := C.2.1
  have hl : lv_has ls 2 [(0, .ref a_r)] := hl
  refine lv_iconst (v := 0) hx hb dX4_areAlike_0 (by decide) ?_
  refine lv_istore_n (lv' := [(1, .int 0), (0, .ref a_r)]) hx hb dX4_areAlike_1 rfl hl (by decide) rfl (fun ls hl => ?_)
  exact lX4_areAlike_2 C hE hP hret 64 0 _ (lv_sub hl [1, 0] rfl) h

def fX7_areStepsAlike_53 (v_gw : Nat → Int32) (v_gk : Nat → Int32) (rec2 : Int32 → (Nat → Int32) → (Nat → Int32) → (Nat → Int32) → Option (Int32 × (Nat → Int32) × (Nat → Int32) × (Nat → Int32))) (l1 : Int32) (v_rs : Nat → Int32) (v_rl : Nat → Int32) (v_ro : Nat → Int32) : Option (Int32 × (Nat → Int32) × (Nat → Int32) × (Nat → Int32)) :=
  rec2 (l1 + 1) v_rs v_rl v_ro
def fX7_areStepsAlike_2 (v_gw : Nat → Int32) (v_gk : Nat → Int32) : Nat → Int32 → (Nat → Int32) → (Nat → Int32) → (Nat → Int32) → Option (Int32 × (Nat → Int32) × (Nat → Int32) × (Nat → Int32))
  | 0, _, _, _, _ => none
  | k + 1, l1, v_rs, v_rl, v_ro =>
    (fX1_count v_gk 0).bind fun q1 =>
    if q1 ≤ l1 then
      some (1, v_rs, v_rl, v_ro)
    else
      (fX1_isPlaying v_gw l1).bind fun q4 =>
      if q4 = 0 then
        fX7_areStepsAlike_53 v_gw v_gk (fX7_areStepsAlike_2 v_gw v_gk k) l1 v_rs v_rl v_ro
      else
        (fX4_findBySpreading v_gw v_gk v_rs v_ro l1).bind fun q7 =>
        (fX4_findByLowering v_gw v_gk v_rl q7.2 l1).bind fun q9 =>
        (fX4_areAlike q7.1 q9.1).bind fun q11 =>
        if q11 = 0 then
          some (0, q7.1, q9.1, q9.2)
        else
          fX7_areStepsAlike_53 v_gw v_gk (fX7_areStepsAlike_2 v_gw v_gk k) l1 q7.1 q9.1 q9.2
def fX7_areStepsAlike (v_gw : Nat → Int32) (v_gk : Nat → Int32) (v_rs : Nat → Int32) (v_rl : Nat → Int32) (v_ro : Nat → Int32) : Option (Int32 × (Nat → Int32) × (Nat → Int32) × (Nat → Int32)) :=
  fX7_areStepsAlike_2 v_gw v_gk 64 0 v_rs v_rl v_ro
set_option maxHeartbeats 4000000 in
set_option maxRecDepth 100000 in
theorem lX7_areStepsAlike_53 {p : Program} {l : Launch} {e : Env} {s : State} {m : MethodId} {args : Array Value} {below : List Frame} {meth : Method} {c : Code} {Q : State → Prop} {D : va_G} {T : Nat → ClassId} {a_g a_gw a_gk a_r a_rs a_rl a_ro a_x a_b a_v a_h a_f a_u a_t a_n : Nat} {x_sav : Int32} {x_err : Int32} {x_rea : Int32} {x_det : Int32} {x_com : Int32} {v_gw : Nat → Int32} {v_gk : Nat → Int32} {A : Nat → Prop} {r : Int32 × (Nat → Int32) × (Nat → Int32) × (Nat → Int32)} (C : CallFix p m c cX7_areStepsAlike 2 s args aw RX7) (hE : eK D T s) (hA : ∀ q : Nat, s.heap.size ≤ q → A q) (hret : WrRet p l e ({ frames := 4, cells := 0, slots := 0, locals := 93 } : Room) s m args below meth c Q cX7_areStepsAlike .boolean D A [(a_g, .inr (1, [.ref a_gw, .ref a_gk])), (a_r, .inr (4, [.ref a_g, .ref a_rs, .ref a_rl, .ref a_ro])), (a_x, .inr (7, [.ref a_g, .ref a_b, .ref a_v, .ref a_h, .ref a_r, .ref a_f, .ref a_u, .ref a_t, .ref a_n, .int x_sav, .int x_err, .int x_rea, .int x_det, .int x_com])), (a_gw, .inl (T 0, 90, .inl v_gw)), (a_gk, .inl (T 0, 18, .inl v_gk)), (a_rs, .inl (T 0, 45, .inl r.2.1)), (a_rl, .inl (T 0, 45, .inl r.2.2.1)), (a_ro, .inl (T 1, 45, .inl r.2.2.2))] r.1) {rec2 : Int32 → (Nat → Int32) → (Nat → Int32) → (Nat → Int32) → Option (Int32 × (Nat → Int32) × (Nat → Int32) × (Nat → Int32))} (hrec2 : ∀ (l1 : Int32) (v_rs : Nat → Int32) (v_rl : Nat → Int32) (v_ro : Nat → Int32) {H : Heap} {locs : List Loc} (hPD : va_PD D A [(a_g, .inr (1, [.ref a_gw, .ref a_gk])), (a_r, .inr (4, [.ref a_g, .ref a_rs, .ref a_rl, .ref a_ro])), (a_x, .inr (7, [.ref a_g, .ref a_b, .ref a_v, .ref a_h, .ref a_r, .ref a_f, .ref a_u, .ref a_t, .ref a_n, .int x_sav, .int x_err, .int x_rea, .int x_det, .int x_com])), (a_gw, .inl (T 0, 90, .inl v_gw)), (a_gk, .inl (T 0, 18, .inl v_gk)), (a_rs, .inl (T 0, 45, .inl v_rs)), (a_rl, .inl (T 0, 45, .inl v_rl)), (a_ro, .inl (T 1, 45, .inl v_ro))] H) (hS : va_S A s.heap H locs) (ls : Array Slot) (hl : lv_has ls 2 [(0, .ref a_x), (1, .int l1)]) (h : rec2 l1 v_rs v_rl v_ro = some r), W p l e ({ frames := 4, cells := 0, slots := 0, locals := 93 } : Room) s m args below meth c H locs 0 0 Q (F0 m 2 ls [])) (l1 : Int32) (v_rs : Nat → Int32) (v_rl : Nat → Int32) (v_ro : Nat → Int32) {H : Heap} {locs : List Loc} (hPD : va_PD D A [(a_g, .inr (1, [.ref a_gw, .ref a_gk])), (a_r, .inr (4, [.ref a_g, .ref a_rs, .ref a_rl, .ref a_ro])), (a_x, .inr (7, [.ref a_g, .ref a_b, .ref a_v, .ref a_h, .ref a_r, .ref a_f, .ref a_u, .ref a_t, .ref a_n, .int x_sav, .int x_err, .int x_rea, .int x_det, .int x_com])), (a_gw, .inl (T 0, 90, .inl v_gw)), (a_gk, .inl (T 0, 18, .inl v_gk)), (a_rs, .inl (T 0, 45, .inl v_rs)), (a_rl, .inl (T 0, 45, .inl v_rl)), (a_ro, .inl (T 1, 45, .inl v_ro))] H) (hS : va_S A s.heap H locs) (ls : Array Slot) (hl : lv_has ls 2 [(0, .ref a_x), (1, .int l1)]) (h : fX7_areStepsAlike_53 v_gw v_gk rec2 l1 v_rs v_rl v_ro = some r) : W p l e ({ frames := 4, cells := 0, slots := 0, locals := 93 } : Room) s m args below meth c H locs 0 0 Q (F0 m 53 ls []) := by
  have hx := C.1
  have hb := C.2.1
  obtain ⟨hP, hD⟩ := hPD
  unfold fX7_areStepsAlike_53 at h
  refine lv_iinc (v := (l1 + 1)) (lv' := [(1, .int (l1 + 1)), (0, .ref a_x)]) hx hb dX7_areStepsAlike_53 hl (k := 1) rfl rfl (by decide) rfl (fun ls hl => ?_)
  refine lv_goto (tgt := 2) hx hb dX7_areStepsAlike_56 (by decide) ?_
  exact hrec2 (l1 + 1) v_rs v_rl v_ro ⟨hP, hD⟩ hS _ (lv_sub hl [1, 0] rfl) h
set_option maxHeartbeats 4000000 in
set_option maxRecDepth 100000 in
theorem lX7_areStepsAlike_2 {p : Program} {l : Launch} {e : Env} {s : State} {m : MethodId} {args : Array Value} {below : List Frame} {meth : Method} {c : Code} {Q : State → Prop} {D : va_G} {T : Nat → ClassId} {a_g a_gw a_gk a_r a_rs a_rl a_ro a_x a_b a_v a_h a_f a_u a_t a_n : Nat} {x_sav : Int32} {x_err : Int32} {x_rea : Int32} {x_det : Int32} {x_com : Int32} {v_gw : Nat → Int32} {v_gk : Nat → Int32} {A : Nat → Prop} {r : Int32 × (Nat → Int32) × (Nat → Int32) × (Nat → Int32)} (C : CallFix p m c cX7_areStepsAlike 2 s args aw RX7) (hE : eK D T s) (hA : ∀ q : Nat, s.heap.size ≤ q → A q) (hret : WrRet p l e ({ frames := 4, cells := 0, slots := 0, locals := 93 } : Room) s m args below meth c Q cX7_areStepsAlike .boolean D A [(a_g, .inr (1, [.ref a_gw, .ref a_gk])), (a_r, .inr (4, [.ref a_g, .ref a_rs, .ref a_rl, .ref a_ro])), (a_x, .inr (7, [.ref a_g, .ref a_b, .ref a_v, .ref a_h, .ref a_r, .ref a_f, .ref a_u, .ref a_t, .ref a_n, .int x_sav, .int x_err, .int x_rea, .int x_det, .int x_com])), (a_gw, .inl (T 0, 90, .inl v_gw)), (a_gk, .inl (T 0, 18, .inl v_gk)), (a_rs, .inl (T 0, 45, .inl r.2.1)), (a_rl, .inl (T 0, 45, .inl r.2.2.1)), (a_ro, .inl (T 1, 45, .inl r.2.2.2))] r.1) : ∀ (k : Nat) (l1 : Int32) (v_rs : Nat → Int32) (v_rl : Nat → Int32) (v_ro : Nat → Int32) {H : Heap} {locs : List Loc} (hPD : va_PD D A [(a_g, .inr (1, [.ref a_gw, .ref a_gk])), (a_r, .inr (4, [.ref a_g, .ref a_rs, .ref a_rl, .ref a_ro])), (a_x, .inr (7, [.ref a_g, .ref a_b, .ref a_v, .ref a_h, .ref a_r, .ref a_f, .ref a_u, .ref a_t, .ref a_n, .int x_sav, .int x_err, .int x_rea, .int x_det, .int x_com])), (a_gw, .inl (T 0, 90, .inl v_gw)), (a_gk, .inl (T 0, 18, .inl v_gk)), (a_rs, .inl (T 0, 45, .inl v_rs)), (a_rl, .inl (T 0, 45, .inl v_rl)), (a_ro, .inl (T 1, 45, .inl v_ro))] H) (hS : va_S A s.heap H locs) (ls : Array Slot) (hl : lv_has ls 2 [(0, .ref a_x), (1, .int l1)]) (h : fX7_areStepsAlike_2 v_gw v_gk k l1 v_rs v_rl v_ro = some r), W p l e ({ frames := 4, cells := 0, slots := 0, locals := 93 } : Room) s m args below meth c H locs 0 0 Q (F0 m 2 ls []) := by
  have hx := C.1
  have hb := C.2.1
  intro k
  induction k with
  | zero =>
    intro l1 v_rs v_rl v_ro H locs hPD hS ls hl h
    exact nomatch (show (none : Option (Int32 × (Nat → Int32) × (Nat → Int32) × (Nat → Int32))) = some r from h)
  | succ k ih =>
    intro l1 v_rs v_rl v_ro H locs hPD hS ls hl h
    obtain ⟨hP, hD⟩ := hPD
    rw [fX7_areStepsAlike_2] at h
    refine lv_iload_n hx hb dX7_areStepsAlike_2 rfl (lv_at hl 1 rfl) ?_
    refine lv_aload_n hx hb dX7_areStepsAlike_3 rfl (lv_at hl 0 rfl) ?_
    refine getF (q0 := 2) (k0 := 0) (v := .ref a_g) C hE hP inA7 rfl rfl (by decide) qFX7_10 rfl rfl dX7_areStepsAlike_4 ?_
    refine lv_iconst (v := 0) hx hb dX7_areStepsAlike_7 (by decide) ?_
    replace h := bnd h; obtain ⟨q1, e2, h⟩ := h
    refine rdV C hE hP (kX1_count l D T a_g a_gw a_gk v_gk 0 q1 e2) mX1_count qLX7_235 [0, 4] 0 rfl rfl rfl rfl ⟨rfl, rfl⟩ ⟨Nat.le_of_ble_eq_true rfl, Nat.le_of_ble_eq_true rfl⟩ rfl hl.1 rfl (Nat.le_of_ble_eq_true rfl) dX7_areStepsAlike_8 ⟨Nat.le_of_ble_eq_true rfl, Nat.le_of_ble_eq_true rfl⟩ ?_
    refine lv_icmp_ge (tgt := 59) hx hb dX7_areStepsAlike_11 (by decide) (fun c3 => ?_) (fun c3 => ?_)
    · replace h := ite_t c3 h
      refine lv_iconst (v := 1) hx hb dX7_areStepsAlike_59 (by decide) ?_
      replace h := Option.some.inj h
      exact hret _ _ _ _ _ _ dX7_areStepsAlike_60 rfl (by rw [← h] <;> rfl) (by rw [← h]; exact hP) hS
    · replace h := ite_f c3 h
      refine lv_aload_n hx hb dX7_areStepsAlike_14 rfl (lv_at hl 0 rfl) ?_
      refine getF (q0 := 2) (k0 := 0) (v := .ref a_g) C hE hP inA7 rfl rfl (by decide) qFX7_10 rfl rfl dX7_areStepsAlike_15 ?_
      refine lv_iload_n hx hb dX7_areStepsAlike_18 rfl (lv_at hl 1 rfl) ?_
      replace h := bnd h; obtain ⟨q4, e5, h⟩ := h
      refine rdV C hE hP (kX1_isPlaying l D T a_g a_gw a_gk v_gw l1 q4 e5) mX1_isPlaying qLX7_200 [0, 3] 0 rfl rfl rfl rfl ⟨rfl, rfl⟩ ⟨Nat.le_of_ble_eq_true rfl, Nat.le_of_ble_eq_true rfl⟩ rfl hl.1 rfl (Nat.le_of_ble_eq_true rfl) dX7_areStepsAlike_19 ⟨Nat.le_of_ble_eq_true rfl, Nat.le_of_ble_eq_true rfl⟩ ?_
      refine lv_if_eq (tgt := 53) hx hb dX7_areStepsAlike_22 (by decide) (fun c6 => ?_) (fun c6 => ?_)
      · replace h := ite_t c6 h
        exact lX7_areStepsAlike_53 C hE hA hret ih l1 v_rs v_rl v_ro ⟨hP, hD⟩ hS _ (lv_sub hl [0, 1] rfl) h
      · replace h := ite_f c6 h
        refine lv_aload_n hx hb dX7_areStepsAlike_25 rfl (lv_at hl 0 rfl) ?_
        refine getF (q0 := 2) (k0 := 4) (v := .ref a_r) C hE hP inA7 rfl rfl (by decide) qFX7_34 rfl rfl dX7_areStepsAlike_26 ?_
        refine lv_iload_n hx hb dX7_areStepsAlike_29 rfl (lv_at hl 1 rfl) ?_
        replace h := bnd h; obtain ⟨q7, e8, h⟩ := h
        refine wrVv (ws1 := [(a_g, .inr (1, [.ref a_gw, .ref a_gk])), (a_r, .inr (4, [.ref a_g, .ref a_rs, .ref a_rl, .ref a_ro])), (a_x, .inr (7, [.ref a_g, .ref a_b, .ref a_v, .ref a_h, .ref a_r, .ref a_f, .ref a_u, .ref a_t, .ref a_n, .int x_sav, .int x_err, .int x_rea, .int x_det, .int x_com])), (a_gw, .inl (T 0, 90, .inl v_gw)), (a_gk, .inl (T 0, 18, .inl v_gk)), (a_rs, .inl (T 0, 45, .inl q7.1)), (a_rl, .inl (T 0, 45, .inl v_rl)), (a_ro, .inl (T 1, 45, .inl q7.2))]) C hE hP hD hS hA (kX4_findBySpreading l D T a_g a_gw a_gk a_r a_rs a_rl a_ro v_gw v_gk v_rs v_ro l1 _ q7 e8) mX4_findBySpreading qLX7_181 [0, 1, 3, 4, 5, 7] [2, 6] 1 rfl rfl rfl rfl rfl rfl rfl rfl rfl ⟨rfl, rfl⟩ ⟨Nat.le_of_ble_eq_true rfl, Nat.le_of_ble_eq_true rfl⟩ rfl hl.1 rfl (Nat.le_of_ble_eq_true rfl) dX7_areStepsAlike_30 ⟨Nat.le_of_ble_eq_true rfl, Nat.le_of_ble_eq_true rfl⟩ ?_; clear hP hD hS; intro H locs hP hD hS
        refine lv_aload_n hx hb dX7_areStepsAlike_33 rfl (lv_at hl 0 rfl) ?_
        refine getF (q0 := 2) (k0 := 4) (v := .ref a_r) C hE hP inA7 rfl rfl (by decide) qFX7_34 rfl rfl dX7_areStepsAlike_34 ?_
        refine lv_iload_n hx hb dX7_areStepsAlike_37 rfl (lv_at hl 1 rfl) ?_
        replace h := bnd h; obtain ⟨q9, e10, h⟩ := h
        refine wrVv (ws1 := [(a_g, .inr (1, [.ref a_gw, .ref a_gk])), (a_r, .inr (4, [.ref a_g, .ref a_rs, .ref a_rl, .ref a_ro])), (a_x, .inr (7, [.ref a_g, .ref a_b, .ref a_v, .ref a_h, .ref a_r, .ref a_f, .ref a_u, .ref a_t, .ref a_n, .int x_sav, .int x_err, .int x_rea, .int x_det, .int x_com])), (a_gw, .inl (T 0, 90, .inl v_gw)), (a_gk, .inl (T 0, 18, .inl v_gk)), (a_rs, .inl (T 0, 45, .inl q7.1)), (a_rl, .inl (T 0, 45, .inl q9.1)), (a_ro, .inl (T 1, 45, .inl q9.2))]) C hE hP hD hS hA (kX4_findByLowering l D T a_g a_gw a_gk a_r a_rs a_rl a_ro v_gw v_gk v_rl q7.2 l1 _ q9 e10) mX4_findByLowering qLX7_190 [0, 1, 3, 4, 6, 7] [2, 5] 1 rfl rfl rfl rfl rfl rfl rfl rfl rfl ⟨rfl, rfl⟩ ⟨Nat.le_of_ble_eq_true rfl, Nat.le_of_ble_eq_true rfl⟩ rfl hl.1 rfl (Nat.le_of_ble_eq_true rfl) dX7_areStepsAlike_38 ⟨Nat.le_of_ble_eq_true rfl, Nat.le_of_ble_eq_true rfl⟩ ?_; clear hP hD hS; intro H locs hP hD hS
        refine lv_aload_n hx hb dX7_areStepsAlike_41 rfl (lv_at hl 0 rfl) ?_
        refine getF (q0 := 2) (k0 := 4) (v := .ref a_r) C hE hP inA7 rfl rfl (by decide) qFX7_34 rfl rfl dX7_areStepsAlike_42 ?_
        replace h := bnd h; obtain ⟨q11, e12, h⟩ := h
        refine rdV C hE hP (kX4_areAlike l D T a_r a_g a_rs a_rl a_ro q7.1 q9.1 q11 e12) mX4_areAlike qLX7_443 [1, 5, 6] 1 rfl rfl rfl rfl ⟨rfl, rfl⟩ ⟨Nat.le_of_ble_eq_true rfl, Nat.le_of_ble_eq_true rfl⟩ rfl hl.1 rfl (Nat.le_of_ble_eq_true rfl) dX7_areStepsAlike_45 ⟨Nat.le_of_ble_eq_true rfl, Nat.le_of_ble_eq_true rfl⟩ ?_
        refine lv_if_ne (tgt := 53) hx hb dX7_areStepsAlike_48 (by decide) (fun c13 => ?_) (fun c13 => ?_)
        · replace h := ite_f c13 h
          exact lX7_areStepsAlike_53 C hE hA hret ih l1 q7.1 q9.1 q9.2 ⟨hP, hD⟩ hS _ (lv_sub hl [0, 1] rfl) h
        · replace h := ite_t c13 h
          refine lv_iconst (v := 0) hx hb dX7_areStepsAlike_51 (by decide) ?_
          replace h := Option.some.inj h
          exact hret _ _ _ _ _ _ dX7_areStepsAlike_52 rfl (by rw [← h] <;> rfl) (by rw [← h]; exact hP) hS
set_option maxHeartbeats 4000000 in
set_option maxRecDepth 100000 in
theorem kX7_areStepsAlike (l : Launch) (D : va_G) (T : Nat → ClassId) (a_g a_gw a_gk a_r a_rs a_rl a_ro a_x a_b a_v a_h a_f a_u a_t a_n : Nat) (x_sav : Int32) (x_err : Int32) (x_rea : Int32) (x_det : Int32) (x_com : Int32) (v_gw : Nat → Int32) (v_gk : Nat → Int32) (v_rs : Nat → Int32) (v_rl : Nat → Int32) (v_ro : Nat → Int32) (sz : Nat) (r : Int32 × (Nat → Int32) × (Nat → Int32) × (Nat → Int32)) (h : fX7_areStepsAlike v_gw v_gk v_rs v_rl v_ro = some r) : WrI l yX7_areStepsAlike cX7_areStepsAlike 2 .boolean ({ frames := 4, cells := 0, slots := 0, locals := 93 } : Room) D T sz [(a_g, .inr (1, [.ref a_gw, .ref a_gk])), (a_r, .inr (4, [.ref a_g, .ref a_rs, .ref a_rl, .ref a_ro])), (a_x, .inr (7, [.ref a_g, .ref a_b, .ref a_v, .ref a_h, .ref a_r, .ref a_f, .ref a_u, .ref a_t, .ref a_n, .int x_sav, .int x_err, .int x_rea, .int x_det, .int x_com])), (a_gw, .inl (T 0, 90, .inl v_gw)), (a_gk, .inl (T 0, 18, .inl v_gk)), (a_rs, .inl (T 0, 45, .inl v_rs)), (a_rl, .inl (T 0, 45, .inl v_rl)), (a_ro, .inl (T 1, 45, .inl v_ro))] [(a_g, .inr (1, [.ref a_gw, .ref a_gk])), (a_r, .inr (4, [.ref a_g, .ref a_rs, .ref a_rl, .ref a_ro])), (a_x, .inr (7, [.ref a_g, .ref a_b, .ref a_v, .ref a_h, .ref a_r, .ref a_f, .ref a_u, .ref a_t, .ref a_n, .int x_sav, .int x_err, .int x_rea, .int x_det, .int x_com])), (a_gw, .inl (T 0, 90, .inl v_gw)), (a_gk, .inl (T 0, 18, .inl v_gk)), (a_rs, .inl (T 0, 45, .inl r.2.1)), (a_rl, .inl (T 0, 45, .inl r.2.2.1)), (a_ro, .inl (T 1, 45, .inl r.2.2.2))] [.ref a_x] r.1 := by
  unfold fX7_areStepsAlike at h
  refine wrMet (by decide +kernel) rfl (fun p e s m args below meth c Q A C hE hA hP hD hS hret ls hl => ?_)
  have hx := C.1
  have hb := C.2.1
  have hl : lv_has ls 2 [(0, .ref a_x)] := hl
  refine lv_iconst (v := 0) hx hb dX7_areStepsAlike_0 (by decide) ?_
  refine lv_istore_n (lv' := [(1, .int 0), (0, .ref a_x)]) hx hb dX7_areStepsAlike_1 rfl hl (by decide) rfl (fun ls hl => ?_)
  exact lX7_areStepsAlike_2 C hE hA hret 64 0 v_rs v_rl v_ro ⟨hP, hD⟩ hS _ (lv_sub hl [1, 0] rfl) h

def fX0_howFarAhead_98 (v_gk : Nat → Int32) (x0 : Int32) : Option Int32 :=
  some (if x0 < 0 then 0 else x0)
def fX0_howFarAhead_78 (v_gk : Nat → Int32) (x0 : Int32) (l2 : Int32) : Option Int32 :=
  fX0_howFarAhead_98 v_gk (if l2 = 1 then x0 else (if l2 = 2 then x0 else (-x0)))
def fX0_howFarAhead_62 (v_gk : Nat → Int32) (x0 : Int32) (l2 : Int32) (l3 : Int32) (l4 : Int32) (l5 : Int32) : Option Int32 :=
  if x0 = 0 then
    fX0_howFarAhead_78 v_gk (if l5 = 0 then l4 else l3) l2
  else
    some 0
def fX0_howFarAhead_49 (v_gk : Nat → Int32) (x0 : Int32) (l2 : Int32) (l3 : Int32) (l4 : Int32) : Option Int32 :=
  fX0_howFarAhead_62 v_gk (if x0 = 0 then l3 else l4) l2 l3 l4 x0
def fX0_howFarAhead (v_gk : Nat → Int32) (p0 : Int32) (p1 : Int32) : Option Int32 :=
  (fX1_count v_gk 5).bind fun q1 =>
  (fX1_count v_gk 5).bind fun q3 =>
  fX0_howFarAhead_49 v_gk (if p1 = 0 then 1 else (if p1 = 2 then 1 else 0)) p1 ((p0 / 9) - (q1 / 9)) ((p0 - p0 / 9 * 9) - (q3 - q3 / 9 * 9))
set_option maxHeartbeats 4000000 in
set_option maxRecDepth 100000 in
theorem lX0_howFarAhead_98 {p : Program} {l : Launch} {e : Env} {s : State} {m : MethodId} {args : Array Value} {below : List Frame} {meth : Method} {c : Code} {Q : State → Prop} {D : va_G} {T : Nat → ClassId} {a_g a_gw a_gk a_f : Nat} {f_net : Int32} {v_gk : Nat → Int32} {r : Int32} (C : CallFix p m c cX0_howFarAhead 7 s args aw RX0) (hE : eK D T s) (hP : va_P D kC [(a_g, .inr (1, [.ref a_gw, .ref a_gk])), (a_f, .inr (0, [.ref a_g, .int f_net])), (a_gk, .inl (T 0, 18, .inl v_gk))] s.heap) (hret : RdRet p l e ({ frames := 1, cells := 0, slots := 0, locals := 21 } : Room) s m args below meth c Q cX0_howFarAhead .int r) (x0 : Int32) (ls : Array Slot) (hl : lv_has ls 7 []) (h : fX0_howFarAhead_98 v_gk x0 = some r) : W p l e ({ frames := 1, cells := 0, slots := 0, locals := 21 } : Room) s m args below meth c s.heap [] 0 0 Q (F0 m 98 ls [.int x0]) := by
  have hx := C.1
  have hb := C.2.1
  unfold fX0_howFarAhead_98 at h
  refine lv_iconst (v := 0) hx hb dX0_howFarAhead_98 (by decide) ?_
  refine va_mmax hx hb (C.2.2.1.trans hl.1.symm) C.2.2.2.1 (C.2.2.2.2 _ qLX0_79) (C.2.2.2.2 _ qMs_max) (C.2.2.2.2 _ qMi) (C.2.2.2.2 _ qMc_max) (Nat.le_of_ble_eq_true rfl) (Nat.le_of_ble_eq_true rfl) (Nat.le_of_ble_eq_true rfl) (Nat.le_of_ble_eq_true rfl) dX0_howFarAhead_99 ?_
  exact hret _ _ _ _ dX0_howFarAhead_102 rfl (Option.some.inj h)
set_option maxHeartbeats 4000000 in
set_option maxRecDepth 100000 in
theorem lX0_howFarAhead_78 {p : Program} {l : Launch} {e : Env} {s : State} {m : MethodId} {args : Array Value} {below : List Frame} {meth : Method} {c : Code} {Q : State → Prop} {D : va_G} {T : Nat → ClassId} {a_g a_gw a_gk a_f : Nat} {f_net : Int32} {v_gk : Nat → Int32} {r : Int32} (C : CallFix p m c cX0_howFarAhead 7 s args aw RX0) (hE : eK D T s) (hP : va_P D kC [(a_g, .inr (1, [.ref a_gw, .ref a_gk])), (a_f, .inr (0, [.ref a_g, .int f_net])), (a_gk, .inl (T 0, 18, .inl v_gk))] s.heap) (hret : RdRet p l e ({ frames := 1, cells := 0, slots := 0, locals := 21 } : Room) s m args below meth c Q cX0_howFarAhead .int r) (x0 : Int32) (l2 : Int32) (ls : Array Slot) (hl : lv_has ls 7 [(2, .int l2)]) (h : fX0_howFarAhead_78 v_gk x0 l2 = some r) : W p l e ({ frames := 1, cells := 0, slots := 0, locals := 21 } : Room) s m args below meth c s.heap [] 0 0 Q (F0 m 78 ls [.int x0]) := by
  have hx := C.1
  have hb := C.2.1
  unfold fX0_howFarAhead_78 at h
  refine lv_istore (lv' := [(6, .int x0), (2, .int l2)]) hx hb dX0_howFarAhead_78 hl (by decide) rfl (fun ls hl => ?_)
  refine lv_iload_n hx hb dX0_howFarAhead_80 rfl (lv_at hl 1 rfl) ?_
  refine lv_iconst (v := 1) hx hb dX0_howFarAhead_81 (by decide) ?_
  refine lv_icmp_eq (tgt := 90) hx hb dX0_howFarAhead_82 (by decide) (fun c10 => ?_) (fun c10 => ?_)
  · rw [if_pos c10] at h
    refine lv_iload hx hb dX0_howFarAhead_90 (lv_at hl 0 rfl) ?_
    refine lv_goto (tgt := 98) hx hb dX0_howFarAhead_92 (by decide) ?_
    exact lX0_howFarAhead_98 C hE hP hret x0 _ (lv_sub hl [] rfl) h
  · rw [if_neg c10] at h
    refine lv_iload_n hx hb dX0_howFarAhead_85 rfl (lv_at hl 1 rfl) ?_
    refine lv_iconst (v := 2) hx hb dX0_howFarAhead_86 (by decide) ?_
    refine lv_icmp_ne (tgt := 95) hx hb dX0_howFarAhead_87 (by decide) (fun c11 => ?_) (fun c11 => ?_)
    · rw [if_neg c11] at h
      refine lv_iload hx hb dX0_howFarAhead_95 (lv_at hl 0 rfl) ?_
      refine lv_ineg hx hb dX0_howFarAhead_97 ?_
      exact lX0_howFarAhead_98 C hE hP hret (-x0) _ (lv_sub hl [] rfl) h
    · rw [if_pos c11] at h
      refine lv_iload hx hb dX0_howFarAhead_90 (lv_at hl 0 rfl) ?_
      refine lv_goto (tgt := 98) hx hb dX0_howFarAhead_92 (by decide) ?_
      exact lX0_howFarAhead_98 C hE hP hret x0 _ (lv_sub hl [] rfl) h
set_option maxHeartbeats 4000000 in
set_option maxRecDepth 100000 in
theorem lX0_howFarAhead_62 {p : Program} {l : Launch} {e : Env} {s : State} {m : MethodId} {args : Array Value} {below : List Frame} {meth : Method} {c : Code} {Q : State → Prop} {D : va_G} {T : Nat → ClassId} {a_g a_gw a_gk a_f : Nat} {f_net : Int32} {v_gk : Nat → Int32} {r : Int32} (C : CallFix p m c cX0_howFarAhead 7 s args aw RX0) (hE : eK D T s) (hP : va_P D kC [(a_g, .inr (1, [.ref a_gw, .ref a_gk])), (a_f, .inr (0, [.ref a_g, .int f_net])), (a_gk, .inl (T 0, 18, .inl v_gk))] s.heap) (hret : RdRet p l e ({ frames := 1, cells := 0, slots := 0, locals := 21 } : Room) s m args below meth c Q cX0_howFarAhead .int r) (x0 : Int32) (l2 : Int32) (l3 : Int32) (l4 : Int32) (l5 : Int32) (ls : Array Slot) (hl : lv_has ls 7 [(2, .int l2), (3, .int l3), (4, .int l4), (5, .int l5)]) (h : fX0_howFarAhead_62 v_gk x0 l2 l3 l4 l5 = some r) : W p l e ({ frames := 1, cells := 0, slots := 0, locals := 21 } : Room) s m args below meth c s.heap [] 0 0 Q (F0 m 62 ls [.int x0]) := by
  have hx := C.1
  have hb := C.2.1
  unfold fX0_howFarAhead_62 at h
  refine lv_if_eq (tgt := 67) hx hb dX0_howFarAhead_62 (by decide) (fun c8 => ?_) (fun c8 => ?_)
  · replace h := ite_t c8 h
    refine lv_iload hx hb dX0_howFarAhead_67 (lv_at hl 3 rfl) ?_
    refine lv_if_eq (tgt := 76) hx hb dX0_howFarAhead_69 (by decide) (fun c9 => ?_) (fun c9 => ?_)
    · rw [if_pos c9] at h
      refine lv_iload hx hb dX0_howFarAhead_76 (lv_at hl 2 rfl) ?_
      exact lX0_howFarAhead_78 C hE hP hret l4 l2 _ (lv_sub hl [0] rfl) h
    · rw [if_neg c9] at h
      refine lv_iload_n hx hb dX0_howFarAhead_72 rfl (lv_at hl 1 rfl) ?_
      refine lv_goto (tgt := 78) hx hb dX0_howFarAhead_73 (by decide) ?_
      exact lX0_howFarAhead_78 C hE hP hret l3 l2 _ (lv_sub hl [0] rfl) h
  · replace h := ite_f c8 h
    refine lv_iconst (v := 0) hx hb dX0_howFarAhead_65 (by decide) ?_
    exact hret _ _ _ _ dX0_howFarAhead_66 rfl (Option.some.inj h)
set_option maxHeartbeats 4000000 in
set_option maxRecDepth 100000 in
theorem lX0_howFarAhead_49 {p : Program} {l : Launch} {e : Env} {s : State} {m : MethodId} {args : Array Value} {below : List Frame} {meth : Method} {c : Code} {Q : State → Prop} {D : va_G} {T : Nat → ClassId} {a_g a_gw a_gk a_f : Nat} {f_net : Int32} {v_gk : Nat → Int32} {r : Int32} (C : CallFix p m c cX0_howFarAhead 7 s args aw RX0) (hE : eK D T s) (hP : va_P D kC [(a_g, .inr (1, [.ref a_gw, .ref a_gk])), (a_f, .inr (0, [.ref a_g, .int f_net])), (a_gk, .inl (T 0, 18, .inl v_gk))] s.heap) (hret : RdRet p l e ({ frames := 1, cells := 0, slots := 0, locals := 21 } : Room) s m args below meth c Q cX0_howFarAhead .int r) (x0 : Int32) (l2 : Int32) (l3 : Int32) (l4 : Int32) (ls : Array Slot) (hl : lv_has ls 7 [(2, .int l2), (3, .int l3), (4, .int l4)]) (h : fX0_howFarAhead_49 v_gk x0 l2 l3 l4 = some r) : W p l e ({ frames := 1, cells := 0, slots := 0, locals := 21 } : Room) s m args below meth c s.heap [] 0 0 Q (F0 m 49 ls [.int x0]) := by
  have hx := C.1
  have hb := C.2.1
  unfold fX0_howFarAhead_49 at h
  refine lv_istore (lv' := [(5, .int x0), (2, .int l2), (3, .int l3), (4, .int l4)]) hx hb dX0_howFarAhead_49 hl (by decide) rfl (fun ls hl => ?_)
  refine lv_iload hx hb dX0_howFarAhead_51 (lv_at hl 0 rfl) ?_
  refine lv_if_eq (tgt := 61) hx hb dX0_howFarAhead_53 (by decide) (fun c7 => ?_) (fun c7 => ?_)
  · rw [if_pos c7] at h
    refine lv_iload_n hx hb dX0_howFarAhead_61 rfl (lv_at hl 2 rfl) ?_
    exact lX0_howFarAhead_62 C hE hP hret l3 l2 l3 l4 x0 _ (lv_sub hl [1, 2, 3, 0] rfl) h
  · rw [if_neg c7] at h
    refine lv_iload hx hb dX0_howFarAhead_56 (lv_at hl 3 rfl) ?_
    refine lv_goto (tgt := 62) hx hb dX0_howFarAhead_58 (by decide) ?_
    exact lX0_howFarAhead_62 C hE hP hret l4 l2 l3 l4 x0 _ (lv_sub hl [1, 2, 3, 0] rfl) h
set_option maxHeartbeats 4000000 in
set_option maxRecDepth 100000 in
theorem kX0_howFarAhead (l : Launch) (D : va_G) (T : Nat → ClassId) (a_g a_gw a_gk a_f : Nat) (f_net : Int32) (v_gk : Nat → Int32) (p0 : Int32) (p1 : Int32) (r : Int32) (h : fX0_howFarAhead v_gk p0 p1 = some r) : RdI l yX0_howFarAhead cX0_howFarAhead 7 .int ({ frames := 1, cells := 0, slots := 0, locals := 21 } : Room) D T [(a_g, .inr (1, [.ref a_gw, .ref a_gk])), (a_f, .inr (0, [.ref a_g, .int f_net])), (a_gk, .inl (T 0, 18, .inl v_gk))] [.ref a_f, .int p0, .int p1] r := by
  unfold fX0_howFarAhead at h
  refine rdMet (by decide +kernel) rfl (fun p e s m args below meth c Q C hE hP hret ls hl => ?_)
  have hx := C.1
  have hb := C.2.1
  have hl : lv_has ls 7 [(0, .ref a_f), (1, .int p0), (2, .int p1)] := hl
  refine lv_iload_n hx hb dX0_howFarAhead_0 rfl (lv_at hl 1 rfl) ?_
  refine lv_bipush (v := 9) hx hb dX0_howFarAhead_1 (by decide) ?_
  refine lv_idiv hx hb dX0_howFarAhead_3 (by decide) ?_
  refine lv_aload_n hx hb dX0_howFarAhead_4 rfl (lv_at hl 0 rfl) ?_
  refine getF (q0 := 1) (k0 := 0) (v := .ref a_g) C hE hP inA0 rfl rfl (by decide) qFX0_15 rfl rfl dX0_howFarAhead_5 ?_
  refine lv_iconst (v := 5) hx hb dX0_howFarAhead_8 (by decide) ?_
  replace h := bnd h; obtain ⟨q1, e2, h⟩ := h
  refine rdV C hE hP (kX1_count l D T a_g a_gw a_gk v_gk 5 q1 e2) mX1_count qLX0_29 [0, 2] 0 rfl rfl rfl rfl ⟨rfl, rfl⟩ ⟨Nat.le_of_ble_eq_true rfl, Nat.le_of_ble_eq_true rfl⟩ rfl hl.1 rfl (Nat.le_of_ble_eq_true rfl) dX0_howFarAhead_9 ⟨Nat.le_of_ble_eq_true rfl, Nat.le_of_ble_eq_true rfl⟩ ?_
  refine lv_bipush (v := 9) hx hb dX0_howFarAhead_12 (by decide) ?_
  refine lv_idiv hx hb dX0_howFarAhead_14 (by decide) ?_
  refine lv_isub hx hb dX0_howFarAhead_15 ?_
  refine lv_istore_n (lv' := [(3, .int ((p0 / 9) - (q1 / 9))), (0, .ref a_f), (1, .int p0), (2, .int p1)]) hx hb dX0_howFarAhead_16 rfl hl (by decide) rfl (fun ls hl => ?_)
  refine lv_iload_n hx hb dX0_howFarAhead_17 rfl (lv_at hl 2 rfl) ?_
  refine lv_bipush (v := 9) hx hb dX0_howFarAhead_18 (by decide) ?_
  refine lv_irem hx hb dX0_howFarAhead_20 (by decide) ?_
  refine lv_aload_n hx hb dX0_howFarAhead_21 rfl (lv_at hl 1 rfl) ?_
  refine getF (q0 := 1) (k0 := 0) (v := .ref a_g) C hE hP inA0 rfl rfl (by decide) qFX0_15 rfl rfl dX0_howFarAhead_22 ?_
  refine lv_iconst (v := 5) hx hb dX0_howFarAhead_25 (by decide) ?_
  replace h := bnd h; obtain ⟨q3, e4, h⟩ := h
  refine rdV C hE hP (kX1_count l D T a_g a_gw a_gk v_gk 5 q3 e4) mX1_count qLX0_29 [0, 2] 0 rfl rfl rfl rfl ⟨rfl, rfl⟩ ⟨Nat.le_of_ble_eq_true rfl, Nat.le_of_ble_eq_true rfl⟩ rfl hl.1 rfl (Nat.le_of_ble_eq_true rfl) dX0_howFarAhead_26 ⟨Nat.le_of_ble_eq_true rfl, Nat.le_of_ble_eq_true rfl⟩ ?_
  refine lv_bipush (v := 9) hx hb dX0_howFarAhead_29 (by decide) ?_
  refine lv_irem hx hb dX0_howFarAhead_31 (by decide) ?_
  refine lv_isub hx hb dX0_howFarAhead_32 ?_
  refine lv_istore (lv' := [(4, .int ((p0 - p0 / 9 * 9) - (q3 - q3 / 9 * 9))), (3, .int ((p0 / 9) - (q1 / 9))), (0, .ref a_f), (1, .int p0), (2, .int p1)]) hx hb dX0_howFarAhead_33 hl (by decide) rfl (fun ls hl => ?_)
  refine lv_iload_n hx hb dX0_howFarAhead_35 rfl (lv_at hl 4 rfl) ?_
  refine lv_if_eq (tgt := 44) hx hb dX0_howFarAhead_36 (by decide) (fun c5 => ?_) (fun c5 => ?_)
  · rw [if_pos c5] at h
    refine lv_iconst (v := 1) hx hb dX0_howFarAhead_44 (by decide) ?_
    refine lv_goto (tgt := 49) hx hb dX0_howFarAhead_45 (by decide) ?_
    exact lX0_howFarAhead_49 C hE hP hret 1 p1 ((p0 / 9) - (q1 / 9)) ((p0 - p0 / 9 * 9) - (q3 - q3 / 9 * 9)) _ (lv_sub hl [4, 1, 0] rfl) h
  · rw [if_neg c5] at h
    refine lv_iload_n hx hb dX0_howFarAhead_39 rfl (lv_at hl 4 rfl) ?_
    refine lv_iconst (v := 2) hx hb dX0_howFarAhead_40 (by decide) ?_
    refine lv_icmp_ne (tgt := 48) hx hb dX0_howFarAhead_41 (by decide) (fun c6 => ?_) (fun c6 => ?_)
    · rw [if_neg c6] at h
      refine lv_iconst (v := 0) hx hb dX0_howFarAhead_48 (by decide) ?_
      exact lX0_howFarAhead_49 C hE hP hret 0 p1 ((p0 / 9) - (q1 / 9)) ((p0 - p0 / 9 * 9) - (q3 - q3 / 9 * 9)) _ (lv_sub hl [4, 1, 0] rfl) h
    · rw [if_pos c6] at h
      refine lv_iconst (v := 1) hx hb dX0_howFarAhead_44 (by decide) ?_
      refine lv_goto (tgt := 49) hx hb dX0_howFarAhead_45 (by decide) ?_
      exact lX0_howFarAhead_49 C hE hP hret 1 p1 ((p0 / 9) - (q1 / 9)) ((p0 - p0 / 9 * 9) - (q3 - q3 / 9 * 9)) _ (lv_sub hl [4, 1, 0] rfl) h

def fX0_cellsToWhale_72 (v_gw : Nat → Int32) (v_gk : Nat → Int32) (rec6 : Int32 → Int32 → Int32 → Int32 → Option Int32) (l1 : Int32) (l2 : Int32) (l3 : Int32) (l4 : Int32) : Option Int32 :=
  rec6 l1 l2 l3 (l4 + 1)
def fX0_cellsToWhale_71 (v_gw : Nat → Int32) (v_gk : Nat → Int32) (rec6 : Int32 → Int32 → Int32 → Int32 → Option Int32) (x0 : Int32) (l1 : Int32) (l2 : Int32) (l4 : Int32) : Option Int32 :=
  fX0_cellsToWhale_72 v_gw v_gk rec6 l1 l2 x0 l4
def fX0_cellsToWhale_6 (v_gw : Nat → Int32) (v_gk : Nat → Int32) : Nat → Int32 → Int32 → Int32 → Int32 → Option Int32
  | 0, _, _, _, _ => none
  | k + 1, l1, l2, l3, l4 =>
    (fX1_count v_gk 0).bind fun q1 =>
    if q1 ≤ l4 then
      some l3
    else
      if l4 = l1 then
        fX0_cellsToWhale_72 v_gw v_gk (fX0_cellsToWhale_6 v_gw v_gk k) l1 l2 l3 l4
      else
        (fX1_isPlaying v_gw l4).bind fun q5 =>
        if q5 = 0 then
          fX0_cellsToWhale_72 v_gw v_gk (fX0_cellsToWhale_6 v_gw v_gk k) l1 l2 l3 l4
        else
          (fX1_of v_gw l4 4).bind fun q8 =>
          (fX0_howFarAhead v_gk q8 l2).bind fun q10 =>
          fX0_cellsToWhale_71 v_gw v_gk (fX0_cellsToWhale_6 v_gw v_gk k) (if q10 ≤ 0 then l3 else (if (q10 - 1) < l3 then (q10 - 1) else l3)) l1 l2 l4
def fX0_cellsToWhale (v_gw : Nat → Int32) (v_gk : Nat → Int32) (p0 : Int32) (p1 : Int32) : Option Int32 :=
  fX0_cellsToWhale_6 v_gw v_gk 64 p0 p1 45 0
set_option maxHeartbeats 4000000 in
set_option maxRecDepth 100000 in
theorem lX0_cellsToWhale_72 {p : Program} {l : Launch} {e : Env} {s : State} {m : MethodId} {args : Array Value} {below : List Frame} {meth : Method} {c : Code} {Q : State → Prop} {D : va_G} {T : Nat → ClassId} {a_g a_gw a_gk a_f : Nat} {f_net : Int32} {v_gw : Nat → Int32} {v_gk : Nat → Int32} {r : Int32} (C : CallFix p m c cX0_cellsToWhale 6 s args aw RX0) (hE : eK D T s) (hP : va_P D kC [(a_g, .inr (1, [.ref a_gw, .ref a_gk])), (a_f, .inr (0, [.ref a_g, .int f_net])), (a_gw, .inl (T 0, 90, .inl v_gw)), (a_gk, .inl (T 0, 18, .inl v_gk))] s.heap) (hret : RdRet p l e ({ frames := 2, cells := 0, slots := 0, locals := 47 } : Room) s m args below meth c Q cX0_cellsToWhale .int r) {rec6 : Int32 → Int32 → Int32 → Int32 → Option Int32} (hrec6 : ∀ (l1 : Int32) (l2 : Int32) (l3 : Int32) (l4 : Int32) (ls : Array Slot) (hl : lv_has ls 6 [(0, .ref a_f), (1, .int l1), (2, .int l2), (3, .int l3), (4, .int l4)]) (h : rec6 l1 l2 l3 l4 = some r), W p l e ({ frames := 2, cells := 0, slots := 0, locals := 47 } : Room) s m args below meth c s.heap [] 0 0 Q (F0 m 6 ls [])) (l1 : Int32) (l2 : Int32) (l3 : Int32) (l4 : Int32) (ls : Array Slot) (hl : lv_has ls 6 [(0, .ref a_f), (1, .int l1), (2, .int l2), (3, .int l3), (4, .int l4)]) (h : fX0_cellsToWhale_72 v_gw v_gk rec6 l1 l2 l3 l4 = some r) : W p l e ({ frames := 2, cells := 0, slots := 0, locals := 47 } : Room) s m args below meth c s.heap [] 0 0 Q (F0 m 72 ls []) := by
  have hx := C.1
  have hb := C.2.1
  unfold fX0_cellsToWhale_72 at h
  refine lv_iinc (v := (l4 + 1)) (lv' := [(4, .int (l4 + 1)), (0, .ref a_f), (1, .int l1), (2, .int l2), (3, .int l3)]) hx hb dX0_cellsToWhale_72 hl (k := 4) rfl rfl (by decide) rfl (fun ls hl => ?_)
  refine lv_goto (tgt := 6) hx hb dX0_cellsToWhale_75 (by decide) ?_
  exact hrec6 l1 l2 l3 (l4 + 1) _ (lv_sub hl [1, 2, 3, 4, 0] rfl) h
set_option maxHeartbeats 4000000 in
set_option maxRecDepth 100000 in
theorem lX0_cellsToWhale_71 {p : Program} {l : Launch} {e : Env} {s : State} {m : MethodId} {args : Array Value} {below : List Frame} {meth : Method} {c : Code} {Q : State → Prop} {D : va_G} {T : Nat → ClassId} {a_g a_gw a_gk a_f : Nat} {f_net : Int32} {v_gw : Nat → Int32} {v_gk : Nat → Int32} {r : Int32} (C : CallFix p m c cX0_cellsToWhale 6 s args aw RX0) (hE : eK D T s) (hP : va_P D kC [(a_g, .inr (1, [.ref a_gw, .ref a_gk])), (a_f, .inr (0, [.ref a_g, .int f_net])), (a_gw, .inl (T 0, 90, .inl v_gw)), (a_gk, .inl (T 0, 18, .inl v_gk))] s.heap) (hret : RdRet p l e ({ frames := 2, cells := 0, slots := 0, locals := 47 } : Room) s m args below meth c Q cX0_cellsToWhale .int r) {rec6 : Int32 → Int32 → Int32 → Int32 → Option Int32} (hrec6 : ∀ (l1 : Int32) (l2 : Int32) (l3 : Int32) (l4 : Int32) (ls : Array Slot) (hl : lv_has ls 6 [(0, .ref a_f), (1, .int l1), (2, .int l2), (3, .int l3), (4, .int l4)]) (h : rec6 l1 l2 l3 l4 = some r), W p l e ({ frames := 2, cells := 0, slots := 0, locals := 47 } : Room) s m args below meth c s.heap [] 0 0 Q (F0 m 6 ls [])) (x0 : Int32) (l1 : Int32) (l2 : Int32) (l4 : Int32) (ls : Array Slot) (hl : lv_has ls 6 [(0, .ref a_f), (1, .int l1), (2, .int l2), (4, .int l4)]) (h : fX0_cellsToWhale_71 v_gw v_gk rec6 x0 l1 l2 l4 = some r) : W p l e ({ frames := 2, cells := 0, slots := 0, locals := 47 } : Room) s m args below meth c s.heap [] 0 0 Q (F0 m 71 ls [.int x0]) := by
  have hx := C.1
  have hb := C.2.1
  unfold fX0_cellsToWhale_71 at h
  refine lv_istore_n (lv' := [(3, .int x0), (0, .ref a_f), (1, .int l1), (2, .int l2), (4, .int l4)]) hx hb dX0_cellsToWhale_71 rfl hl (by decide) rfl (fun ls hl => ?_)
  exact lX0_cellsToWhale_72 C hE hP hret hrec6 l1 l2 x0 l4 _ (lv_sub hl [1, 2, 3, 0, 4] rfl) h
set_option maxHeartbeats 4000000 in
set_option maxRecDepth 100000 in
theorem lX0_cellsToWhale_6 {p : Program} {l : Launch} {e : Env} {s : State} {m : MethodId} {args : Array Value} {below : List Frame} {meth : Method} {c : Code} {Q : State → Prop} {D : va_G} {T : Nat → ClassId} {a_g a_gw a_gk a_f : Nat} {f_net : Int32} {v_gw : Nat → Int32} {v_gk : Nat → Int32} {r : Int32} (C : CallFix p m c cX0_cellsToWhale 6 s args aw RX0) (hE : eK D T s) (hP : va_P D kC [(a_g, .inr (1, [.ref a_gw, .ref a_gk])), (a_f, .inr (0, [.ref a_g, .int f_net])), (a_gw, .inl (T 0, 90, .inl v_gw)), (a_gk, .inl (T 0, 18, .inl v_gk))] s.heap) (hret : RdRet p l e ({ frames := 2, cells := 0, slots := 0, locals := 47 } : Room) s m args below meth c Q cX0_cellsToWhale .int r) : ∀ (k : Nat) (l1 : Int32) (l2 : Int32) (l3 : Int32) (l4 : Int32) (ls : Array Slot) (hl : lv_has ls 6 [(0, .ref a_f), (1, .int l1), (2, .int l2), (3, .int l3), (4, .int l4)]) (h : fX0_cellsToWhale_6 v_gw v_gk k l1 l2 l3 l4 = some r), W p l e ({ frames := 2, cells := 0, slots := 0, locals := 47 } : Room) s m args below meth c s.heap [] 0 0 Q (F0 m 6 ls []) := by
  have hx := C.1
  have hb := C.2.1
  intro k
  induction k with
  | zero =>
    intro l1 l2 l3 l4  ls hl h
    exact nomatch (show (none : Option Int32) = some r from h)
  | succ k ih =>
    intro l1 l2 l3 l4  ls hl h
    rw [fX0_cellsToWhale_6] at h
    refine lv_iload hx hb dX0_cellsToWhale_6 (lv_at hl 4 rfl) ?_
    refine lv_aload_n hx hb dX0_cellsToWhale_8 rfl (lv_at hl 0 rfl) ?_
    refine getF (q0 := 1) (k0 := 0) (v := .ref a_g) C hE hP inA0 rfl rfl (by decide) qFX0_15 rfl rfl dX0_cellsToWhale_9 ?_
    refine lv_iconst (v := 0) hx hb dX0_cellsToWhale_12 (by decide) ?_
    replace h := bnd h; obtain ⟨q1, e2, h⟩ := h
    refine rdV C hE hP (kX1_count l D T a_g a_gw a_gk v_gk 0 q1 e2) mX1_count qLX0_29 [0, 3] 0 rfl rfl rfl rfl ⟨rfl, rfl⟩ ⟨Nat.le_of_ble_eq_true rfl, Nat.le_of_ble_eq_true rfl⟩ rfl hl.1 rfl (Nat.le_of_ble_eq_true rfl) dX0_cellsToWhale_13 ⟨Nat.le_of_ble_eq_true rfl, Nat.le_of_ble_eq_true rfl⟩ ?_
    refine lv_icmp_ge (tgt := 78) hx hb dX0_cellsToWhale_16 (by decide) (fun c3 => ?_) (fun c3 => ?_)
    · replace h := ite_t c3 h
      refine lv_iload_n hx hb dX0_cellsToWhale_78 rfl (lv_at hl 3 rfl) ?_
      exact hret _ _ _ _ dX0_cellsToWhale_79 rfl (Option.some.inj h)
    · replace h := ite_f c3 h
      refine lv_iload hx hb dX0_cellsToWhale_19 (lv_at hl 4 rfl) ?_
      refine lv_iload_n hx hb dX0_cellsToWhale_21 rfl (lv_at hl 1 rfl) ?_
      refine lv_icmp_eq (tgt := 72) hx hb dX0_cellsToWhale_22 (by decide) (fun c4 => ?_) (fun c4 => ?_)
      · replace h := ite_t c4 h
        exact lX0_cellsToWhale_72 C hE hP hret ih l1 l2 l3 l4 _ (lv_sub hl [0, 1, 2, 3, 4] rfl) h
      · replace h := ite_f c4 h
        refine lv_aload_n hx hb dX0_cellsToWhale_25 rfl (lv_at hl 0 rfl) ?_
        refine getF (q0 := 1) (k0 := 0) (v := .ref a_g) C hE hP inA0 rfl rfl (by decide) qFX0_15 rfl rfl dX0_cellsToWhale_26 ?_
        refine lv_iload hx hb dX0_cellsToWhale_29 (lv_at hl 4 rfl) ?_
        replace h := bnd h; obtain ⟨q5, e6, h⟩ := h
        refine rdV C hE hP (kX1_isPlaying l D T a_g a_gw a_gk v_gw l4 q5 e6) mX1_isPlaying qLX0_70 [0, 2] 0 rfl rfl rfl rfl ⟨rfl, rfl⟩ ⟨Nat.le_of_ble_eq_true rfl, Nat.le_of_ble_eq_true rfl⟩ rfl hl.1 rfl (Nat.le_of_ble_eq_true rfl) dX0_cellsToWhale_31 ⟨Nat.le_of_ble_eq_true rfl, Nat.le_of_ble_eq_true rfl⟩ ?_
        refine lv_if_eq (tgt := 72) hx hb dX0_cellsToWhale_34 (by decide) (fun c7 => ?_) (fun c7 => ?_)
        · replace h := ite_t c7 h
          exact lX0_cellsToWhale_72 C hE hP hret ih l1 l2 l3 l4 _ (lv_sub hl [0, 1, 2, 3, 4] rfl) h
        · replace h := ite_f c7 h
          refine lv_aload_n hx hb dX0_cellsToWhale_37 rfl (lv_at hl 0 rfl) ?_
          refine lv_aload_n hx hb dX0_cellsToWhale_38 rfl (lv_at hl 0 rfl) ?_
          refine getF (q0 := 1) (k0 := 0) (v := .ref a_g) C hE hP inA0 rfl rfl (by decide) qFX0_15 rfl rfl dX0_cellsToWhale_39 ?_
          refine lv_iload hx hb dX0_cellsToWhale_42 (lv_at hl 4 rfl) ?_
          refine lv_iconst (v := 4) hx hb dX0_cellsToWhale_44 (by decide) ?_
          replace h := bnd h; obtain ⟨q8, e9, h⟩ := h
          refine rdV C hE hP (kX1_of l D T a_g a_gw a_gk v_gw l4 4 q8 e9) mX1_of qLX0_73 [0, 2] 0 rfl rfl rfl rfl ⟨rfl, rfl⟩ ⟨Nat.le_of_ble_eq_true rfl, Nat.le_of_ble_eq_true rfl⟩ rfl hl.1 rfl (Nat.le_of_ble_eq_true rfl) dX0_cellsToWhale_45 ⟨Nat.le_of_ble_eq_true rfl, Nat.le_of_ble_eq_true rfl⟩ ?_
          refine lv_iload_n hx hb dX0_cellsToWhale_48 rfl (lv_at hl 2 rfl) ?_
          replace h := bnd h; obtain ⟨q10, e11, h⟩ := h
          refine rdV C hE hP (kX0_howFarAhead l D T a_g a_gw a_gk a_f f_net v_gk q8 l2 q10 e11) mX0_howFarAhead qLX0_76 [0, 1, 3] 1 rfl rfl rfl rfl ⟨rfl, rfl⟩ ⟨Nat.le_of_ble_eq_true rfl, Nat.le_of_ble_eq_true rfl⟩ rfl hl.1 rfl (Nat.le_of_ble_eq_true rfl) dX0_cellsToWhale_49 ⟨Nat.le_of_ble_eq_true rfl, Nat.le_of_ble_eq_true rfl⟩ ?_
          refine lv_istore (lv' := [(5, .int q10), (0, .ref a_f), (1, .int l1), (2, .int l2), (3, .int l3), (4, .int l4)]) hx hb dX0_cellsToWhale_52 hl (by decide) rfl (fun ls hl => ?_)
          refine lv_iload hx hb dX0_cellsToWhale_54 (lv_at hl 0 rfl) ?_
          refine lv_if_le (tgt := 70) hx hb dX0_cellsToWhale_56 (by decide) (fun c12 => ?_) (fun c12 => ?_)
          · rw [if_pos c12] at h
            refine lv_iload_n hx hb dX0_cellsToWhale_70 rfl (lv_at hl 4 rfl) ?_
            exact lX0_cellsToWhale_71 C hE hP hret ih l3 l1 l2 l4 _ (lv_sub hl [1, 2, 3, 5] rfl) h
          · rw [if_neg c12] at h
            refine lv_iload_n hx hb dX0_cellsToWhale_59 rfl (lv_at hl 4 rfl) ?_
            refine lv_iload hx hb dX0_cellsToWhale_60 (lv_at hl 0 rfl) ?_
            refine lv_iconst (v := 1) hx hb dX0_cellsToWhale_62 (by decide) ?_
            refine lv_isub hx hb dX0_cellsToWhale_63 ?_
            refine va_mmin hx hb (C.2.2.1.trans hl.1.symm) C.2.2.2.1 (C.2.2.2.2 _ qLX0_62) (C.2.2.2.2 _ qMs_min) (C.2.2.2.2 _ qMi) (C.2.2.2.2 _ qMc_min) (Nat.le_of_ble_eq_true rfl) (Nat.le_of_ble_eq_true rfl) (Nat.le_of_ble_eq_true rfl) (Nat.le_of_ble_eq_true rfl) dX0_cellsToWhale_64 ?_
            refine lv_goto (tgt := 71) hx hb dX0_cellsToWhale_67 (by decide) ?_
            exact lX0_cellsToWhale_71 C hE hP hret ih (if (q10 - 1) < l3 then (q10 - 1) else l3) l1 l2 l4 _ (lv_sub hl [1, 2, 3, 5] rfl) h
set_option maxHeartbeats 4000000 in
set_option maxRecDepth 100000 in
theorem kX0_cellsToWhale (l : Launch) (D : va_G) (T : Nat → ClassId) (a_g a_gw a_gk a_f : Nat) (f_net : Int32) (v_gw : Nat → Int32) (v_gk : Nat → Int32) (p0 : Int32) (p1 : Int32) (r : Int32) (h : fX0_cellsToWhale v_gw v_gk p0 p1 = some r) : RdI l yX0_cellsToWhale cX0_cellsToWhale 6 .int ({ frames := 2, cells := 0, slots := 0, locals := 47 } : Room) D T [(a_g, .inr (1, [.ref a_gw, .ref a_gk])), (a_f, .inr (0, [.ref a_g, .int f_net])), (a_gw, .inl (T 0, 90, .inl v_gw)), (a_gk, .inl (T 0, 18, .inl v_gk))] [.ref a_f, .int p0, .int p1] r := by
  unfold fX0_cellsToWhale at h
  refine rdMet (by decide +kernel) rfl (fun p e s m args below meth c Q C hE hP hret ls hl => ?_)
  have hx := C.1
  have hb := C.2.1
  have hl : lv_has ls 6 [(0, .ref a_f), (1, .int p0), (2, .int p1)] := hl
  refine lv_bipush (v := 45) hx hb dX0_cellsToWhale_0 (by decide) ?_
  refine lv_istore_n (lv' := [(3, .int 45), (0, .ref a_f), (1, .int p0), (2, .int p1)]) hx hb dX0_cellsToWhale_2 rfl hl (by decide) rfl (fun ls hl => ?_)
  refine lv_iconst (v := 0) hx hb dX0_cellsToWhale_3 (by decide) ?_
  refine lv_istore (lv' := [(4, .int 0), (3, .int 45), (0, .ref a_f), (1, .int p0), (2, .int p1)]) hx hb dX0_cellsToWhale_4 hl (by decide) rfl (fun ls hl => ?_)
  exact lX0_cellsToWhale_6 C hE hP hret 64 p0 p1 45 0 _ (lv_sub hl [2, 3, 4, 1, 0] rfl) h

def fX0_cellsToDry_19 (v_gk : Nat → Int32) (l2 : Int32) : Option Int32 :=
  (fX1_isDryNow v_gk l2).bind fun q9 =>
  if q9 = 0 then
    some 45
  else
    some 0
def fX0_cellsToDry_70 (v_gk : Nat → Int32) (x0 : Int32) (l3 : Int32) : Option Int32 :=
  if x0 = 0 then
    some 45
  else
    some (l3 - 1)
def fX0_cellsToDry (v_gk : Nat → Int32) (p0 : Int32) : Option Int32 :=
  (fX1_count v_gk 5).bind fun q1 =>
  if p0 = 1 then
    fX0_cellsToDry_19 v_gk q1
  else
    if p0 = 3 then
      fX0_cellsToDry_19 v_gk q1
    else
      if (fX7_cellsAhead q1 p0) ≤ 0 then
        fX0_cellsToDry_70 v_gk 0 (fX7_cellsAhead q1 p0)
      else
        (fX1_isDryNow v_gk (q1 + ((fX7_cellsAhead q1 p0) * (fX7_stride p0)))).bind fun q6 =>
        fX0_cellsToDry_70 v_gk (if q6 = 0 then 0 else 1) (fX7_cellsAhead q1 p0)
set_option maxHeartbeats 4000000 in
set_option maxRecDepth 100000 in
theorem lX0_cellsToDry_19 {p : Program} {l : Launch} {e : Env} {s : State} {m : MethodId} {args : Array Value} {below : List Frame} {meth : Method} {c : Code} {Q : State → Prop} {D : va_G} {T : Nat → ClassId} {a_g a_gw a_gk a_f : Nat} {f_net : Int32} {v_gk : Nat → Int32} {r : Int32} (C : CallFix p m c cX0_cellsToDry 5 s args aw RX0) (hE : eK D T s) (hP : va_P D kC [(a_g, .inr (1, [.ref a_gw, .ref a_gk])), (a_f, .inr (0, [.ref a_g, .int f_net])), (a_gk, .inl (T 0, 18, .inl v_gk))] s.heap) (hret : RdRet p l e ({ frames := 2, cells := 0, slots := 0, locals := 42 } : Room) s m args below meth c Q cX0_cellsToDry .int r) (l2 : Int32) (ls : Array Slot) (hl : lv_has ls 5 [(0, .ref a_f), (2, .int l2)]) (h : fX0_cellsToDry_19 v_gk l2 = some r) : W p l e ({ frames := 2, cells := 0, slots := 0, locals := 42 } : Room) s m args below meth c s.heap [] 0 0 Q (F0 m 19 ls []) := by
  have hx := C.1
  have hb := C.2.1
  unfold fX0_cellsToDry_19 at h
  refine lv_aload_n hx hb dX0_cellsToDry_19 rfl (lv_at hl 0 rfl) ?_
  refine getF (q0 := 1) (k0 := 0) (v := .ref a_g) C hE hP inA0 rfl rfl (by decide) qFX0_15 rfl rfl dX0_cellsToDry_20 ?_
  refine lv_iload_n hx hb dX0_cellsToDry_23 rfl (lv_at hl 1 rfl) ?_
  replace h := bnd h; obtain ⟨q9, e10, h⟩ := h
  refine rdV C hE hP (kX1_isDryNow l D T a_g a_gw a_gk v_gk l2 q9 e10) mX1_isDryNow qLX0_50 [0, 2] 0 rfl rfl rfl rfl ⟨rfl, rfl⟩ ⟨Nat.le_of_ble_eq_true rfl, Nat.le_of_ble_eq_true rfl⟩ rfl hl.1 rfl (Nat.le_of_ble_eq_true rfl) dX0_cellsToDry_24 ⟨Nat.le_of_ble_eq_true rfl, Nat.le_of_ble_eq_true rfl⟩ ?_
  refine lv_if_eq (tgt := 34) hx hb dX0_cellsToDry_27 (by decide) (fun c11 => ?_) (fun c11 => ?_)
  · replace h := ite_t c11 h
    refine lv_bipush (v := 45) hx hb dX0_cellsToDry_34 (by decide) ?_
    exact hret _ _ _ _ dX0_cellsToDry_36 rfl (Option.some.inj h)
  · replace h := ite_f c11 h
    refine lv_iconst (v := 0) hx hb dX0_cellsToDry_30 (by decide) ?_
    refine lv_goto (tgt := 36) hx hb dX0_cellsToDry_31 (by decide) ?_
    exact hret _ _ _ _ dX0_cellsToDry_36 rfl (Option.some.inj h)
set_option maxHeartbeats 4000000 in
set_option maxRecDepth 100000 in
theorem lX0_cellsToDry_70 {p : Program} {l : Launch} {e : Env} {s : State} {m : MethodId} {args : Array Value} {below : List Frame} {meth : Method} {c : Code} {Q : State → Prop} {D : va_G} {T : Nat → ClassId} {a_g a_gw a_gk a_f : Nat} {f_net : Int32} {v_gk : Nat → Int32} {r : Int32} (C : CallFix p m c cX0_cellsToDry 5 s args aw RX0) (hE : eK D T s) (hP : va_P D kC [(a_g, .inr (1, [.ref a_gw, .ref a_gk])), (a_f, .inr (0, [.ref a_g, .int f_net])), (a_gk, .inl (T 0, 18, .inl v_gk))] s.heap) (hret : RdRet p l e ({ frames := 2, cells := 0, slots := 0, locals := 42 } : Room) s m args below meth c Q cX0_cellsToDry .int r) (x0 : Int32) (l3 : Int32) (ls : Array Slot) (hl : lv_has ls 5 [(3, .int l3)]) (h : fX0_cellsToDry_70 v_gk x0 l3 = some r) : W p l e ({ frames := 2, cells := 0, slots := 0, locals := 42 } : Room) s m args below meth c s.heap [] 0 0 Q (F0 m 70 ls [.int x0]) := by
  have hx := C.1
  have hb := C.2.1
  unfold fX0_cellsToDry_70 at h
  refine lv_istore (lv' := [(4, .int x0), (3, .int l3)]) hx hb dX0_cellsToDry_70 hl (by decide) rfl (fun ls hl => ?_)
  refine lv_iload hx hb dX0_cellsToDry_72 (lv_at hl 0 rfl) ?_
  refine lv_if_eq (tgt := 83) hx hb dX0_cellsToDry_74 (by decide) (fun c12 => ?_) (fun c12 => ?_)
  · replace h := ite_t c12 h
    refine lv_bipush (v := 45) hx hb dX0_cellsToDry_83 (by decide) ?_
    exact hret _ _ _ _ dX0_cellsToDry_85 rfl (Option.some.inj h)
  · replace h := ite_f c12 h
    refine lv_iload_n hx hb dX0_cellsToDry_77 rfl (lv_at hl 1 rfl) ?_
    refine lv_iconst (v := 1) hx hb dX0_cellsToDry_78 (by decide) ?_
    refine lv_isub hx hb dX0_cellsToDry_79 ?_
    refine lv_goto (tgt := 85) hx hb dX0_cellsToDry_80 (by decide) ?_
    exact hret _ _ _ _ dX0_cellsToDry_85 rfl (Option.some.inj h)
set_option maxHeartbeats 4000000 in
set_option maxRecDepth 100000 in
theorem kX0_cellsToDry (l : Launch) (D : va_G) (T : Nat → ClassId) (a_g a_gw a_gk a_f : Nat) (f_net : Int32) (v_gk : Nat → Int32) (p0 : Int32) (r : Int32) (h : fX0_cellsToDry v_gk p0 = some r) : RdI l yX0_cellsToDry cX0_cellsToDry 5 .int ({ frames := 2, cells := 0, slots := 0, locals := 42 } : Room) D T [(a_g, .inr (1, [.ref a_gw, .ref a_gk])), (a_f, .inr (0, [.ref a_g, .int f_net])), (a_gk, .inl (T 0, 18, .inl v_gk))] [.ref a_f, .int p0] r := by
  unfold fX0_cellsToDry at h
  refine rdMet (by decide +kernel) rfl (fun p e s m args below meth c Q C hE hP hret ls hl => ?_)
  have hx := C.1
  have hb := C.2.1
  have hl : lv_has ls 5 [(0, .ref a_f), (1, .int p0)] := hl
  refine lv_aload_n hx hb dX0_cellsToDry_0 rfl (lv_at hl 0 rfl) ?_
  refine getF (q0 := 1) (k0 := 0) (v := .ref a_g) C hE hP inA0 rfl rfl (by decide) qFX0_15 rfl rfl dX0_cellsToDry_1 ?_
  refine lv_iconst (v := 5) hx hb dX0_cellsToDry_4 (by decide) ?_
  replace h := bnd h; obtain ⟨q1, e2, h⟩ := h
  refine rdV C hE hP (kX1_count l D T a_g a_gw a_gk v_gk 5 q1 e2) mX1_count qLX0_29 [0, 2] 0 rfl rfl rfl rfl ⟨rfl, rfl⟩ ⟨Nat.le_of_ble_eq_true rfl, Nat.le_of_ble_eq_true rfl⟩ rfl hl.1 rfl (Nat.le_of_ble_eq_true rfl) dX0_cellsToDry_5 ⟨Nat.le_of_ble_eq_true rfl, Nat.le_of_ble_eq_true rfl⟩ ?_
  refine lv_istore_n (lv' := [(2, .int q1), (0, .ref a_f), (1, .int p0)]) hx hb dX0_cellsToDry_8 rfl hl (by decide) rfl (fun ls hl => ?_)
  refine lv_iload_n hx hb dX0_cellsToDry_9 rfl (lv_at hl 2 rfl) ?_
  refine lv_iconst (v := 1) hx hb dX0_cellsToDry_10 (by decide) ?_
  refine lv_icmp_eq (tgt := 19) hx hb dX0_cellsToDry_11 (by decide) (fun c3 => ?_) (fun c3 => ?_)
  · replace h := ite_t c3 h
    exact lX0_cellsToDry_19 C hE hP hret q1 _ (lv_sub hl [1, 0] rfl) h
  · replace h := ite_f c3 h
    refine lv_iload_n hx hb dX0_cellsToDry_14 rfl (lv_at hl 2 rfl) ?_
    refine lv_iconst (v := 3) hx hb dX0_cellsToDry_15 (by decide) ?_
    refine lv_icmp_ne (tgt := 37) hx hb dX0_cellsToDry_16 (by decide) (fun c4 => ?_) (fun c4 => ?_)
    · replace h := ite_f c4 h
      refine lv_iload_n hx hb dX0_cellsToDry_37 rfl (lv_at hl 0 rfl) ?_
      refine lv_iload_n hx hb dX0_cellsToDry_38 rfl (lv_at hl 2 rfl) ?_
      refine rdSN C hE hP (kX7_cellsAhead l D T q1 p0) mX7_cellsAhead (by decide +kernel) [] rfl ⟨rfl, rfl⟩ ⟨Nat.le_of_ble_eq_true rfl, Nat.le_of_ble_eq_true rfl⟩ rfl hl.1 rfl (Nat.le_of_ble_eq_true rfl) dX0_cellsToDry_39 ⟨Nat.le_of_ble_eq_true rfl, Nat.le_of_ble_eq_true rfl⟩ ?_
      refine lv_istore_n (lv' := [(3, .int (fX7_cellsAhead q1 p0)), (2, .int q1), (0, .ref a_f), (1, .int p0)]) hx hb dX0_cellsToDry_42 rfl hl (by decide) rfl (fun ls hl => ?_)
      refine lv_iload_n hx hb dX0_cellsToDry_43 rfl (lv_at hl 0 rfl) ?_
      refine lv_if_le (tgt := 69) hx hb dX0_cellsToDry_44 (by decide) (fun c5 => ?_) (fun c5 => ?_)
      · replace h := ite_t c5 h
        refine lv_iconst (v := 0) hx hb dX0_cellsToDry_69 (by decide) ?_
        exact lX0_cellsToDry_70 C hE hP hret 0 (fX7_cellsAhead q1 p0) _ (lv_sub hl [0] rfl) h
      · replace h := ite_f c5 h
        refine lv_aload_n hx hb dX0_cellsToDry_47 rfl (lv_at hl 2 rfl) ?_
        refine getF (q0 := 1) (k0 := 0) (v := .ref a_g) C hE hP inA0 rfl rfl (by decide) qFX0_15 rfl rfl dX0_cellsToDry_48 ?_
        refine lv_iload_n hx hb dX0_cellsToDry_51 rfl (lv_at hl 1 rfl) ?_
        refine lv_iload_n hx hb dX0_cellsToDry_52 rfl (lv_at hl 0 rfl) ?_
        refine lv_iload_n hx hb dX0_cellsToDry_53 rfl (lv_at hl 3 rfl) ?_
        refine rdSN C hE hP (kX7_stride l D T p0) mX7_stride (by decide +kernel) [] rfl ⟨rfl, rfl⟩ ⟨Nat.le_of_ble_eq_true rfl, Nat.le_of_ble_eq_true rfl⟩ rfl hl.1 rfl (Nat.le_of_ble_eq_true rfl) dX0_cellsToDry_54 ⟨Nat.le_of_ble_eq_true rfl, Nat.le_of_ble_eq_true rfl⟩ ?_
        refine lv_imul hx hb dX0_cellsToDry_57 ?_
        refine lv_iadd hx hb dX0_cellsToDry_58 ?_
        replace h := bnd h; obtain ⟨q6, e7, h⟩ := h
        refine rdV C hE hP (kX1_isDryNow l D T a_g a_gw a_gk v_gk (q1 + ((fX7_cellsAhead q1 p0) * (fX7_stride p0))) q6 e7) mX1_isDryNow qLX0_50 [0, 2] 0 rfl rfl rfl rfl ⟨rfl, rfl⟩ ⟨Nat.le_of_ble_eq_true rfl, Nat.le_of_ble_eq_true rfl⟩ rfl hl.1 rfl (Nat.le_of_ble_eq_true rfl) dX0_cellsToDry_59 ⟨Nat.le_of_ble_eq_true rfl, Nat.le_of_ble_eq_true rfl⟩ ?_
        refine lv_if_eq (tgt := 69) hx hb dX0_cellsToDry_62 (by decide) (fun c8 => ?_) (fun c8 => ?_)
        · rw [if_pos c8] at h
          refine lv_iconst (v := 0) hx hb dX0_cellsToDry_69 (by decide) ?_
          exact lX0_cellsToDry_70 C hE hP hret 0 (fX7_cellsAhead q1 p0) _ (lv_sub hl [0] rfl) h
        · rw [if_neg c8] at h
          refine lv_iconst (v := 1) hx hb dX0_cellsToDry_65 (by decide) ?_
          refine lv_goto (tgt := 70) hx hb dX0_cellsToDry_66 (by decide) ?_
          exact lX0_cellsToDry_70 C hE hP hret 1 (fX7_cellsAhead q1 p0) _ (lv_sub hl [0] rfl) h
    · replace h := ite_t c4 h
      exact lX0_cellsToDry_19 C hE hP hret q1 _ (lv_sub hl [1, 0] rfl) h

def fX0_endByStops_82 (v_gw : Nat → Int32) (v_gk : Nat → Int32) (l2 : Int32) (l3 : Int32) (l4 : Int32) (l6 : Int32) : Option Int32 :=
  some (l4 + ((if l6 < l3 then l6 else l3) * (fX7_stride l2)))
def fX0_endByStops (v_gw : Nat → Int32) (v_gk : Nat → Int32) (p0 : Int32) (p1 : Int32) (p2 : Int32) : Option Int32 :=
  (fX1_count v_gk 5).bind fun q1 =>
  (fX0_cellsToWhale v_gw v_gk p0 p1).bind fun q3 =>
  (fX0_cellsToDry v_gk p1).bind fun q5 =>
  if p2 ≤ (fX7_cellsAhead q1 p1) then
    fX0_endByStops_82 v_gw v_gk p1 p2 q1 (if (if q5 < q3 then q5 else q3) < (fX7_cellsAhead q1 p1) then (if q5 < q3 then q5 else q3) else (fX7_cellsAhead q1 p1))
  else
    if (if (if q5 < q3 then q5 else q3) < (fX7_cellsAhead q1 p1) then (if q5 < q3 then q5 else q3) else (fX7_cellsAhead q1 p1)) = (fX7_cellsAhead q1 p1) then
      if (fX7_isGoalEnd q1 p1) = 0 then
        fX0_endByStops_82 v_gw v_gk p1 p2 q1 (if (if q5 < q3 then q5 else q3) < (fX7_cellsAhead q1 p1) then (if q5 < q3 then q5 else q3) else (fX7_cellsAhead q1 p1))
      else
        (fX1_isFoulBy v_gw v_gk p0).bind fun q10 =>
        if q10 = 0 then
          some (fX7_goalAt p1)
        else
          some 22
    else
      fX0_endByStops_82 v_gw v_gk p1 p2 q1 (if (if q5 < q3 then q5 else q3) < (fX7_cellsAhead q1 p1) then (if q5 < q3 then q5 else q3) else (fX7_cellsAhead q1 p1))
set_option maxHeartbeats 4000000 in
set_option maxRecDepth 100000 in
theorem lX0_endByStops_82 {p : Program} {l : Launch} {e : Env} {s : State} {m : MethodId} {args : Array Value} {below : List Frame} {meth : Method} {c : Code} {Q : State → Prop} {D : va_G} {T : Nat → ClassId} {a_g a_gw a_gk a_f : Nat} {f_net : Int32} {v_gw : Nat → Int32} {v_gk : Nat → Int32} {r : Int32} (C : CallFix p m c cX0_endByStops 7 s args aw RX0) (hE : eK D T s) (hP : va_P D kC [(a_g, .inr (1, [.ref a_gw, .ref a_gk])), (a_f, .inr (0, [.ref a_g, .int f_net])), (a_gw, .inl (T 0, 90, .inl v_gw)), (a_gk, .inl (T 0, 18, .inl v_gk))] s.heap) (hret : RdRet p l e ({ frames := 4, cells := 0, slots := 0, locals := 89 } : Room) s m args below meth c Q cX0_endByStops .int r) (l2 : Int32) (l3 : Int32) (l4 : Int32) (l6 : Int32) (ls : Array Slot) (hl : lv_has ls 7 [(2, .int l2), (3, .int l3), (4, .int l4), (6, .int l6)]) (h : fX0_endByStops_82 v_gw v_gk l2 l3 l4 l6 = some r) : W p l e ({ frames := 4, cells := 0, slots := 0, locals := 89 } : Room) s m args below meth c s.heap [] 0 0 Q (F0 m 82 ls []) := by
  have hx := C.1
  have hb := C.2.1
  unfold fX0_endByStops_82 at h
  refine lv_iload hx hb dX0_endByStops_82 (lv_at hl 2 rfl) ?_
  refine lv_iload_n hx hb dX0_endByStops_84 rfl (lv_at hl 1 rfl) ?_
  refine lv_iload hx hb dX0_endByStops_85 (lv_at hl 3 rfl) ?_
  refine va_mmin hx hb (C.2.2.1.trans hl.1.symm) C.2.2.2.1 (C.2.2.2.2 _ qLX0_62) (C.2.2.2.2 _ qMs_min) (C.2.2.2.2 _ qMi) (C.2.2.2.2 _ qMc_min) (Nat.le_of_ble_eq_true rfl) (Nat.le_of_ble_eq_true rfl) (Nat.le_of_ble_eq_true rfl) (Nat.le_of_ble_eq_true rfl) dX0_endByStops_87 ?_
  refine lv_iload_n hx hb dX0_endByStops_90 rfl (lv_at hl 0 rfl) ?_
  refine rdSN C hE hP (kX7_stride l D T l2) mX7_stride (by decide +kernel) [] rfl ⟨rfl, rfl⟩ ⟨Nat.le_of_ble_eq_true rfl, Nat.le_of_ble_eq_true rfl⟩ rfl hl.1 rfl (Nat.le_of_ble_eq_true rfl) dX0_endByStops_91 ⟨Nat.le_of_ble_eq_true rfl, Nat.le_of_ble_eq_true rfl⟩ ?_
  refine lv_imul hx hb dX0_endByStops_94 ?_
  refine lv_iadd hx hb dX0_endByStops_95 ?_
  exact hret _ _ _ _ dX0_endByStops_96 rfl (Option.some.inj h)
set_option maxHeartbeats 4000000 in
set_option maxRecDepth 100000 in
theorem kX0_endByStops (l : Launch) (D : va_G) (T : Nat → ClassId) (a_g a_gw a_gk a_f : Nat) (f_net : Int32) (v_gw : Nat → Int32) (v_gk : Nat → Int32) (p0 : Int32) (p1 : Int32) (p2 : Int32) (r : Int32) (h : fX0_endByStops v_gw v_gk p0 p1 p2 = some r) : RdI l yX0_endByStops cX0_endByStops 7 .int ({ frames := 4, cells := 0, slots := 0, locals := 89 } : Room) D T [(a_g, .inr (1, [.ref a_gw, .ref a_gk])), (a_f, .inr (0, [.ref a_g, .int f_net])), (a_gw, .inl (T 0, 90, .inl v_gw)), (a_gk, .inl (T 0, 18, .inl v_gk))] [.ref a_f, .int p0, .int p1, .int p2] r := by
  unfold fX0_endByStops at h
  refine rdMet (by decide +kernel) rfl (fun p e s m args below meth c Q C hE hP hret ls hl => ?_)
  have hx := C.1
  have hb := C.2.1
  have hl : lv_has ls 7 [(0, .ref a_f), (1, .int p0), (2, .int p1), (3, .int p2)] := hl
  refine lv_aload_n hx hb dX0_endByStops_0 rfl (lv_at hl 0 rfl) ?_
  refine getF (q0 := 1) (k0 := 0) (v := .ref a_g) C hE hP inA0 rfl rfl (by decide) qFX0_15 rfl rfl dX0_endByStops_1 ?_
  refine lv_iconst (v := 5) hx hb dX0_endByStops_4 (by decide) ?_
  replace h := bnd h; obtain ⟨q1, e2, h⟩ := h
  refine rdV C hE hP (kX1_count l D T a_g a_gw a_gk v_gk 5 q1 e2) mX1_count qLX0_29 [0, 3] 0 rfl rfl rfl rfl ⟨rfl, rfl⟩ ⟨Nat.le_of_ble_eq_true rfl, Nat.le_of_ble_eq_true rfl⟩ rfl hl.1 rfl (Nat.le_of_ble_eq_true rfl) dX0_endByStops_5 ⟨Nat.le_of_ble_eq_true rfl, Nat.le_of_ble_eq_true rfl⟩ ?_
  refine lv_istore (lv' := [(4, .int q1), (0, .ref a_f), (1, .int p0), (2, .int p1), (3, .int p2)]) hx hb dX0_endByStops_8 hl (by decide) rfl (fun ls hl => ?_)
  refine lv_iload hx hb dX0_endByStops_10 (lv_at hl 0 rfl) ?_
  refine lv_iload_n hx hb dX0_endByStops_12 rfl (lv_at hl 3 rfl) ?_
  refine rdSN C hE hP (kX7_cellsAhead l D T q1 p1) mX7_cellsAhead (by decide +kernel) [] rfl ⟨rfl, rfl⟩ ⟨Nat.le_of_ble_eq_true rfl, Nat.le_of_ble_eq_true rfl⟩ rfl hl.1 rfl (Nat.le_of_ble_eq_true rfl) dX0_endByStops_13 ⟨Nat.le_of_ble_eq_true rfl, Nat.le_of_ble_eq_true rfl⟩ ?_
  refine lv_istore (lv' := [(5, .int (fX7_cellsAhead q1 p1)), (4, .int q1), (0, .ref a_f), (1, .int p0), (2, .int p1), (3, .int p2)]) hx hb dX0_endByStops_16 hl (by decide) rfl (fun ls hl => ?_)
  refine lv_iload hx hb dX0_endByStops_18 (lv_at hl 0 rfl) ?_
  refine lv_aload_n hx hb dX0_endByStops_20 rfl (lv_at hl 2 rfl) ?_
  refine lv_iload_n hx hb dX0_endByStops_21 rfl (lv_at hl 3 rfl) ?_
  refine lv_iload_n hx hb dX0_endByStops_22 rfl (lv_at hl 4 rfl) ?_
  replace h := bnd h; obtain ⟨q3, e4, h⟩ := h
  refine rdV C hE hP (kX0_cellsToWhale l D T a_g a_gw a_gk a_f f_net v_gw v_gk p0 p1 q3 e4) mX0_cellsToWhale qLX0_56 [0, 1, 2, 3] 1 rfl rfl rfl rfl ⟨rfl, rfl⟩ ⟨Nat.le_of_ble_eq_true rfl, Nat.le_of_ble_eq_true rfl⟩ rfl hl.1 rfl (Nat.le_of_ble_eq_true rfl) dX0_endByStops_23 ⟨Nat.le_of_ble_eq_true rfl, Nat.le_of_ble_eq_true rfl⟩ ?_
  refine lv_aload_n hx hb dX0_endByStops_26 rfl (lv_at hl 2 rfl) ?_
  refine lv_iload_n hx hb dX0_endByStops_27 rfl (lv_at hl 4 rfl) ?_
  replace h := bnd h; obtain ⟨q5, e6, h⟩ := h
  refine rdV C hE hP (kX0_cellsToDry l D T a_g a_gw a_gk a_f f_net v_gk p1 q5 e6) mX0_cellsToDry qLX0_59 [0, 1, 3] 1 rfl rfl rfl rfl ⟨rfl, rfl⟩ ⟨Nat.le_of_ble_eq_true rfl, Nat.le_of_ble_eq_true rfl⟩ rfl hl.1 rfl (Nat.le_of_ble_eq_true rfl) dX0_endByStops_28 ⟨Nat.le_of_ble_eq_true rfl, Nat.le_of_ble_eq_true rfl⟩ ?_
  refine va_mmin hx hb (C.2.2.1.trans hl.1.symm) C.2.2.2.1 (C.2.2.2.2 _ qLX0_62) (C.2.2.2.2 _ qMs_min) (C.2.2.2.2 _ qMi) (C.2.2.2.2 _ qMc_min) (Nat.le_of_ble_eq_true rfl) (Nat.le_of_ble_eq_true rfl) (Nat.le_of_ble_eq_true rfl) (Nat.le_of_ble_eq_true rfl) dX0_endByStops_31 ?_
  refine va_mmin hx hb (C.2.2.1.trans hl.1.symm) C.2.2.2.1 (C.2.2.2.2 _ qLX0_62) (C.2.2.2.2 _ qMs_min) (C.2.2.2.2 _ qMi) (C.2.2.2.2 _ qMc_min) (Nat.le_of_ble_eq_true rfl) (Nat.le_of_ble_eq_true rfl) (Nat.le_of_ble_eq_true rfl) (Nat.le_of_ble_eq_true rfl) dX0_endByStops_34 ?_
  refine lv_istore (lv' := [(6, .int (if (if q5 < q3 then q5 else q3) < (fX7_cellsAhead q1 p1) then (if q5 < q3 then q5 else q3) else (fX7_cellsAhead q1 p1))), (5, .int (fX7_cellsAhead q1 p1)), (4, .int q1), (0, .ref a_f), (1, .int p0), (2, .int p1), (3, .int p2)]) hx hb dX0_endByStops_37 hl (by decide) rfl (fun ls hl => ?_)
  refine lv_iload_n hx hb dX0_endByStops_39 rfl (lv_at hl 6 rfl) ?_
  refine lv_iload hx hb dX0_endByStops_40 (lv_at hl 1 rfl) ?_
  refine lv_icmp_le (tgt := 82) hx hb dX0_endByStops_42 (by decide) (fun c7 => ?_) (fun c7 => ?_)
  · replace h := ite_t c7 h
    exact lX0_endByStops_82 C hE hP hret p1 p2 q1 (if (if q5 < q3 then q5 else q3) < (fX7_cellsAhead q1 p1) then (if q5 < q3 then q5 else q3) else (fX7_cellsAhead q1 p1)) _ (lv_sub hl [5, 6, 2, 0] rfl) h
  · replace h := ite_f c7 h
    refine lv_iload hx hb dX0_endByStops_45 (lv_at hl 0 rfl) ?_
    refine lv_iload hx hb dX0_endByStops_47 (lv_at hl 1 rfl) ?_
    refine lv_icmp_ne (tgt := 82) hx hb dX0_endByStops_49 (by decide) (fun c8 => ?_) (fun c8 => ?_)
    · replace h := ite_f c8 h
      exact lX0_endByStops_82 C hE hP hret p1 p2 q1 (if (if q5 < q3 then q5 else q3) < (fX7_cellsAhead q1 p1) then (if q5 < q3 then q5 else q3) else (fX7_cellsAhead q1 p1)) _ (lv_sub hl [5, 6, 2, 0] rfl) h
    · replace h := ite_t c8 h
      refine lv_iload hx hb dX0_endByStops_52 (lv_at hl 2 rfl) ?_
      refine lv_iload_n hx hb dX0_endByStops_54 rfl (lv_at hl 5 rfl) ?_
      refine rdSN C hE hP (kX7_isGoalEnd l D T q1 p1) mX7_isGoalEnd (by decide +kernel) [] rfl ⟨rfl, rfl⟩ ⟨Nat.le_of_ble_eq_true rfl, Nat.le_of_ble_eq_true rfl⟩ rfl hl.1 rfl (Nat.le_of_ble_eq_true rfl) dX0_endByStops_55 ⟨Nat.le_of_ble_eq_true rfl, Nat.le_of_ble_eq_true rfl⟩ ?_
      refine lv_if_eq (tgt := 82) hx hb dX0_endByStops_58 (by decide) (fun c9 => ?_) (fun c9 => ?_)
      · replace h := ite_t c9 h
        exact lX0_endByStops_82 C hE hP hret p1 p2 q1 (if (if q5 < q3 then q5 else q3) < (fX7_cellsAhead q1 p1) then (if q5 < q3 then q5 else q3) else (fX7_cellsAhead q1 p1)) _ (lv_sub hl [5, 6, 2, 0] rfl) h
      · replace h := ite_f c9 h
        refine lv_aload_n hx hb dX0_endByStops_61 rfl (lv_at hl 3 rfl) ?_
        refine getF (q0 := 1) (k0 := 0) (v := .ref a_g) C hE hP inA0 rfl rfl (by decide) qFX0_15 rfl rfl dX0_endByStops_62 ?_
        refine lv_iload_n hx hb dX0_endByStops_65 rfl (lv_at hl 4 rfl) ?_
        replace h := bnd h; obtain ⟨q10, e11, h⟩ := h
        refine rdV C hE hP (kX1_isFoulBy l D T a_g a_gw a_gk v_gw v_gk p0 q10 e11) mX1_isFoulBy qLX0_23 [0, 2, 3] 0 rfl rfl rfl rfl ⟨rfl, rfl⟩ ⟨Nat.le_of_ble_eq_true rfl, Nat.le_of_ble_eq_true rfl⟩ rfl hl.1 rfl (Nat.le_of_ble_eq_true rfl) dX0_endByStops_66 ⟨Nat.le_of_ble_eq_true rfl, Nat.le_of_ble_eq_true rfl⟩ ?_
        refine lv_if_eq (tgt := 77) hx hb dX0_endByStops_69 (by decide) (fun c12 => ?_) (fun c12 => ?_)
        · replace h := ite_t c12 h
          refine lv_iload_n hx hb dX0_endByStops_77 rfl (lv_at hl 5 rfl) ?_
          refine rdSN C hE hP (kX7_goalAt l D T p1) mX7_goalAt (by decide +kernel) [] rfl ⟨rfl, rfl⟩ ⟨Nat.le_of_ble_eq_true rfl, Nat.le_of_ble_eq_true rfl⟩ rfl hl.1 rfl (Nat.le_of_ble_eq_true rfl) dX0_endByStops_78 ⟨Nat.le_of_ble_eq_true rfl, Nat.le_of_ble_eq_true rfl⟩ ?_
          exact hret _ _ _ _ dX0_endByStops_81 rfl (Option.some.inj h)
        · replace h := ite_f c12 h
          refine lv_bipush (v := 22) hx hb dX0_endByStops_72 (by decide) ?_
          refine lv_goto (tgt := 81) hx hb dX0_endByStops_74 (by decide) ?_
          exact hret _ _ _ _ dX0_endByStops_81 rfl (Option.some.inj h)

def fX7_areFlightsAlike_23 (v_gw : Nat → Int32) (v_gk : Nat → Int32) (rec2 : Int32 → Int32 → Option (Int32 × Int32)) (rec16 : Int32 → Int32 → Int32 → Option (Int32 × Int32)) : Nat → Int32 → Int32 → Int32 → Int32 → Option (Int32 × Int32)
  | 0, _, _, _, _ => none
  | k + 1, l1, l2, l3, f_net =>
    if 5 < l3 then
      rec16 l1 (l2 + 1) f_net
    else
      (fX0_endByCells f_net v_gw v_gk l1 l2 l3).bind fun q6 =>
      (fX0_endByStops v_gw v_gk l1 l2 l3).bind fun q8 =>
      if q6.1 = q8 then
        fX7_areFlightsAlike_23 v_gw v_gk rec2 rec16 k l1 l2 (l3 + 1) q6.2
      else
        some (0, q6.2)
def fX7_areFlightsAlike_16 (v_gw : Nat → Int32) (v_gk : Nat → Int32) (rec2 : Int32 → Int32 → Option (Int32 × Int32)) : Nat → Int32 → Int32 → Int32 → Option (Int32 × Int32)
  | 0, _, _, _ => none
  | k + 1, l1, l2, f_net =>
    if 4 ≤ l2 then
      rec2 (l1 + 1) f_net
    else
      fX7_areFlightsAlike_23 v_gw v_gk rec2 (fX7_areFlightsAlike_16 v_gw v_gk rec2 k) 64 l1 l2 1 f_net
def fX7_areFlightsAlike_2 (v_gw : Nat → Int32) (v_gk : Nat → Int32) : Nat → Int32 → Int32 → Option (Int32 × Int32)
  | 0, _, _ => none
  | k + 1, l1, f_net =>
    (fX1_count v_gk 0).bind fun q1 =>
    if q1 ≤ l1 then
      some (1, f_net)
    else
      fX7_areFlightsAlike_16 v_gw v_gk (fX7_areFlightsAlike_2 v_gw v_gk k) 64 l1 0 f_net
def fX7_areFlightsAlike (f_net : Int32) (v_gw : Nat → Int32) (v_gk : Nat → Int32) : Option (Int32 × Int32) :=
  fX7_areFlightsAlike_2 v_gw v_gk 64 0 f_net
set_option maxHeartbeats 4000000 in
set_option maxRecDepth 100000 in
theorem lX7_areFlightsAlike_23 {p : Program} {l : Launch} {e : Env} {s : State} {m : MethodId} {args : Array Value} {below : List Frame} {meth : Method} {c : Code} {Q : State → Prop} {D : va_G} {T : Nat → ClassId} {a_g a_gw a_gk a_f a_x a_b a_v a_h a_r a_u a_t a_n : Nat} {x_sav : Int32} {x_err : Int32} {x_rea : Int32} {x_det : Int32} {x_com : Int32} {v_gw : Nat → Int32} {v_gk : Nat → Int32} {A : Nat → Prop} {r : Int32 × Int32} (C : CallFix p m c cX7_areFlightsAlike 4 s args aw RX7) (hE : eK D T s) (hA : ∀ q : Nat, s.heap.size ≤ q → A q) (hret : WrRet p l e ({ frames := 5, cells := 0, slots := 0, locals := 115 } : Room) s m args below meth c Q cX7_areFlightsAlike .boolean D A [(a_g, .inr (1, [.ref a_gw, .ref a_gk])), (a_f, .inr (0, [.ref a_g, .int r.2])), (a_x, .inr (7, [.ref a_g, .ref a_b, .ref a_v, .ref a_h, .ref a_r, .ref a_f, .ref a_u, .ref a_t, .ref a_n, .int x_sav, .int x_err, .int x_rea, .int x_det, .int x_com])), (a_gw, .inl (T 0, 90, .inl v_gw)), (a_gk, .inl (T 0, 18, .inl v_gk))] r.1) {rec2 : Int32 → Int32 → Option (Int32 × Int32)} (hrec2 : ∀ (l1 : Int32) (f_net : Int32) {H : Heap} {locs : List Loc} (hPD : va_PD D A [(a_g, .inr (1, [.ref a_gw, .ref a_gk])), (a_f, .inr (0, [.ref a_g, .int f_net])), (a_x, .inr (7, [.ref a_g, .ref a_b, .ref a_v, .ref a_h, .ref a_r, .ref a_f, .ref a_u, .ref a_t, .ref a_n, .int x_sav, .int x_err, .int x_rea, .int x_det, .int x_com])), (a_gw, .inl (T 0, 90, .inl v_gw)), (a_gk, .inl (T 0, 18, .inl v_gk))] H) (hS : va_S A s.heap H locs) (ls : Array Slot) (hl : lv_has ls 4 [(0, .ref a_x), (1, .int l1)]) (h : rec2 l1 f_net = some r), W p l e ({ frames := 5, cells := 0, slots := 0, locals := 115 } : Room) s m args below meth c H locs 0 0 Q (F0 m 2 ls [])) {rec16 : Int32 → Int32 → Int32 → Option (Int32 × Int32)} (hrec16 : ∀ (l1 : Int32) (l2 : Int32) (f_net : Int32) {H : Heap} {locs : List Loc} (hPD : va_PD D A [(a_g, .inr (1, [.ref a_gw, .ref a_gk])), (a_f, .inr (0, [.ref a_g, .int f_net])), (a_x, .inr (7, [.ref a_g, .ref a_b, .ref a_v, .ref a_h, .ref a_r, .ref a_f, .ref a_u, .ref a_t, .ref a_n, .int x_sav, .int x_err, .int x_rea, .int x_det, .int x_com])), (a_gw, .inl (T 0, 90, .inl v_gw)), (a_gk, .inl (T 0, 18, .inl v_gk))] H) (hS : va_S A s.heap H locs) (ls : Array Slot) (hl : lv_has ls 4 [(0, .ref a_x), (1, .int l1), (2, .int l2)]) (h : rec16 l1 l2 f_net = some r), W p l e ({ frames := 5, cells := 0, slots := 0, locals := 115 } : Room) s m args below meth c H locs 0 0 Q (F0 m 16 ls [])) : ∀ (k : Nat) (l1 : Int32) (l2 : Int32) (l3 : Int32) (f_net : Int32) {H : Heap} {locs : List Loc} (hPD : va_PD D A [(a_g, .inr (1, [.ref a_gw, .ref a_gk])), (a_f, .inr (0, [.ref a_g, .int f_net])), (a_x, .inr (7, [.ref a_g, .ref a_b, .ref a_v, .ref a_h, .ref a_r, .ref a_f, .ref a_u, .ref a_t, .ref a_n, .int x_sav, .int x_err, .int x_rea, .int x_det, .int x_com])), (a_gw, .inl (T 0, 90, .inl v_gw)), (a_gk, .inl (T 0, 18, .inl v_gk))] H) (hS : va_S A s.heap H locs) (ls : Array Slot) (hl : lv_has ls 4 [(0, .ref a_x), (1, .int l1), (2, .int l2), (3, .int l3)]) (h : fX7_areFlightsAlike_23 v_gw v_gk rec2 rec16 k l1 l2 l3 f_net = some r), W p l e ({ frames := 5, cells := 0, slots := 0, locals := 115 } : Room) s m args below meth c H locs 0 0 Q (F0 m 23 ls []) := by
  have hx := C.1
  have hb := C.2.1
  intro k
  induction k with
  | zero =>
    intro l1 l2 l3 f_net H locs hPD hS ls hl h
    exact nomatch (show (none : Option (Int32 × Int32)) = some r from h)
  | succ k ih =>
    intro l1 l2 l3 f_net H locs hPD hS ls hl h
    obtain ⟨hP, hD⟩ := hPD
    rw [fX7_areFlightsAlike_23] at h
    refine lv_iload_n hx hb dX7_areFlightsAlike_23 rfl (lv_at hl 3 rfl) ?_
    refine lv_iconst (v := 5) hx hb dX7_areFlightsAlike_24 (by decide) ?_
    refine lv_icmp_gt (tgt := 59) hx hb dX7_areFlightsAlike_25 (by decide) (fun c5 => ?_) (fun c5 => ?_)
    · replace h := ite_t c5 h
      refine lv_iinc (v := (l2 + 1)) (lv' := [(2, .int (l2 + 1)), (0, .ref a_x), (1, .int l1), (3, .int l3)]) hx hb dX7_areFlightsAlike_59 hl (k := 2) rfl rfl (by decide) rfl (fun ls hl => ?_)
      refine lv_goto (tgt := 16) hx hb dX7_areFlightsAlike_62 (by decide) ?_
      exact hrec16 l1 (l2 + 1) f_net ⟨hP, hD⟩ hS _ (lv_sub hl [1, 2, 0] rfl) h
    · replace h := ite_f c5 h
      refine lv_aload_n hx hb dX7_areFlightsAlike_28 rfl (lv_at hl 0 rfl) ?_
      refine getF (q0 := 2) (k0 := 5) (v := .ref a_f) C hE hP inA7 rfl rfl (by decide) qFX7_41 rfl rfl dX7_areFlightsAlike_29 ?_
      refine lv_iload_n hx hb dX7_areFlightsAlike_32 rfl (lv_at hl 1 rfl) ?_
      refine lv_iload_n hx hb dX7_areFlightsAlike_33 rfl (lv_at hl 2 rfl) ?_
      refine lv_iload_n hx hb dX7_areFlightsAlike_34 rfl (lv_at hl 3 rfl) ?_
      replace h := bnd h; obtain ⟨q6, e7, h⟩ := h
      refine wrVi (ws1 := [(a_g, .inr (1, [.ref a_gw, .ref a_gk])), (a_f, .inr (0, [.ref a_g, .int q6.2])), (a_x, .inr (7, [.ref a_g, .ref a_b, .ref a_v, .ref a_h, .ref a_r, .ref a_f, .ref a_u, .ref a_t, .ref a_n, .int x_sav, .int x_err, .int x_rea, .int x_det, .int x_com])), (a_gw, .inl (T 0, 90, .inl v_gw)), (a_gk, .inl (T 0, 18, .inl v_gk))]) C hE hP hD hS hA (kX0_endByCells l D T a_g a_gw a_gk a_f f_net v_gw v_gk l1 l2 l3 _ q6 e7) mX0_endByCells qLX7_218 [0, 1, 3, 4] [2] 1 rfl rfl rfl rfl rfl rfl rfl rfl rfl ⟨rfl, rfl⟩ ⟨Nat.le_of_ble_eq_true rfl, Nat.le_of_ble_eq_true rfl⟩ rfl hl.1 rfl (Nat.le_of_ble_eq_true rfl) dX7_areFlightsAlike_35 ⟨Nat.le_of_ble_eq_true rfl, Nat.le_of_ble_eq_true rfl⟩ ?_; clear hP hD hS; intro H locs hP hD hS
      refine lv_aload_n hx hb dX7_areFlightsAlike_38 rfl (lv_at hl 0 rfl) ?_
      refine getF (q0 := 2) (k0 := 5) (v := .ref a_f) C hE hP inA7 rfl rfl (by decide) qFX7_41 rfl rfl dX7_areFlightsAlike_39 ?_
      refine lv_iload_n hx hb dX7_areFlightsAlike_42 rfl (lv_at hl 1 rfl) ?_
      refine lv_iload_n hx hb dX7_areFlightsAlike_43 rfl (lv_at hl 2 rfl) ?_
      refine lv_iload_n hx hb dX7_areFlightsAlike_44 rfl (lv_at hl 3 rfl) ?_
      replace h := bnd h; obtain ⟨q8, e9, h⟩ := h
      refine rdV C hE hP (kX0_endByStops l D T a_g a_gw a_gk a_f q6.2 v_gw v_gk l1 l2 l3 q8 e9) mX0_endByStops qLX7_221 [0, 1, 3, 4] 1 rfl rfl rfl rfl ⟨rfl, rfl⟩ ⟨Nat.le_of_ble_eq_true rfl, Nat.le_of_ble_eq_true rfl⟩ rfl hl.1 rfl (Nat.le_of_ble_eq_true rfl) dX7_areFlightsAlike_45 ⟨Nat.le_of_ble_eq_true rfl, Nat.le_of_ble_eq_true rfl⟩ ?_
      refine lv_icmp_eq (tgt := 53) hx hb dX7_areFlightsAlike_48 (by decide) (fun c10 => ?_) (fun c10 => ?_)
      · replace h := ite_t c10 h
        refine lv_iinc (v := (l3 + 1)) (lv' := [(3, .int (l3 + 1)), (0, .ref a_x), (1, .int l1), (2, .int l2)]) hx hb dX7_areFlightsAlike_53 hl (k := 3) rfl rfl (by decide) rfl (fun ls hl => ?_)
        refine lv_goto (tgt := 23) hx hb dX7_areFlightsAlike_56 (by decide) ?_
        exact ih l1 l2 (l3 + 1) q6.2 ⟨hP, hD⟩ hS _ (lv_sub hl [1, 2, 3, 0] rfl) h
      · replace h := ite_f c10 h
        refine lv_iconst (v := 0) hx hb dX7_areFlightsAlike_51 (by decide) ?_
        replace h := Option.some.inj h
        exact hret _ _ _ _ _ _ dX7_areFlightsAlike_52 rfl (by rw [← h] <;> rfl) (by rw [← h]; exact hP) hS
set_option maxHeartbeats 4000000 in
set_option maxRecDepth 100000 in
theorem lX7_areFlightsAlike_16 {p : Program} {l : Launch} {e : Env} {s : State} {m : MethodId} {args : Array Value} {below : List Frame} {meth : Method} {c : Code} {Q : State → Prop} {D : va_G} {T : Nat → ClassId} {a_g a_gw a_gk a_f a_x a_b a_v a_h a_r a_u a_t a_n : Nat} {x_sav : Int32} {x_err : Int32} {x_rea : Int32} {x_det : Int32} {x_com : Int32} {v_gw : Nat → Int32} {v_gk : Nat → Int32} {A : Nat → Prop} {r : Int32 × Int32} (C : CallFix p m c cX7_areFlightsAlike 4 s args aw RX7) (hE : eK D T s) (hA : ∀ q : Nat, s.heap.size ≤ q → A q) (hret : WrRet p l e ({ frames := 5, cells := 0, slots := 0, locals := 115 } : Room) s m args below meth c Q cX7_areFlightsAlike .boolean D A [(a_g, .inr (1, [.ref a_gw, .ref a_gk])), (a_f, .inr (0, [.ref a_g, .int r.2])), (a_x, .inr (7, [.ref a_g, .ref a_b, .ref a_v, .ref a_h, .ref a_r, .ref a_f, .ref a_u, .ref a_t, .ref a_n, .int x_sav, .int x_err, .int x_rea, .int x_det, .int x_com])), (a_gw, .inl (T 0, 90, .inl v_gw)), (a_gk, .inl (T 0, 18, .inl v_gk))] r.1) {rec2 : Int32 → Int32 → Option (Int32 × Int32)} (hrec2 : ∀ (l1 : Int32) (f_net : Int32) {H : Heap} {locs : List Loc} (hPD : va_PD D A [(a_g, .inr (1, [.ref a_gw, .ref a_gk])), (a_f, .inr (0, [.ref a_g, .int f_net])), (a_x, .inr (7, [.ref a_g, .ref a_b, .ref a_v, .ref a_h, .ref a_r, .ref a_f, .ref a_u, .ref a_t, .ref a_n, .int x_sav, .int x_err, .int x_rea, .int x_det, .int x_com])), (a_gw, .inl (T 0, 90, .inl v_gw)), (a_gk, .inl (T 0, 18, .inl v_gk))] H) (hS : va_S A s.heap H locs) (ls : Array Slot) (hl : lv_has ls 4 [(0, .ref a_x), (1, .int l1)]) (h : rec2 l1 f_net = some r), W p l e ({ frames := 5, cells := 0, slots := 0, locals := 115 } : Room) s m args below meth c H locs 0 0 Q (F0 m 2 ls [])) : ∀ (k : Nat) (l1 : Int32) (l2 : Int32) (f_net : Int32) {H : Heap} {locs : List Loc} (hPD : va_PD D A [(a_g, .inr (1, [.ref a_gw, .ref a_gk])), (a_f, .inr (0, [.ref a_g, .int f_net])), (a_x, .inr (7, [.ref a_g, .ref a_b, .ref a_v, .ref a_h, .ref a_r, .ref a_f, .ref a_u, .ref a_t, .ref a_n, .int x_sav, .int x_err, .int x_rea, .int x_det, .int x_com])), (a_gw, .inl (T 0, 90, .inl v_gw)), (a_gk, .inl (T 0, 18, .inl v_gk))] H) (hS : va_S A s.heap H locs) (ls : Array Slot) (hl : lv_has ls 4 [(0, .ref a_x), (1, .int l1), (2, .int l2)]) (h : fX7_areFlightsAlike_16 v_gw v_gk rec2 k l1 l2 f_net = some r), W p l e ({ frames := 5, cells := 0, slots := 0, locals := 115 } : Room) s m args below meth c H locs 0 0 Q (F0 m 16 ls []) := by
  have hx := C.1
  have hb := C.2.1
  intro k
  induction k with
  | zero =>
    intro l1 l2 f_net H locs hPD hS ls hl h
    exact nomatch (show (none : Option (Int32 × Int32)) = some r from h)
  | succ k ih =>
    intro l1 l2 f_net H locs hPD hS ls hl h
    obtain ⟨hP, hD⟩ := hPD
    rw [fX7_areFlightsAlike_16] at h
    refine lv_iload_n hx hb dX7_areFlightsAlike_16 rfl (lv_at hl 2 rfl) ?_
    refine lv_iconst (v := 4) hx hb dX7_areFlightsAlike_17 (by decide) ?_
    refine lv_icmp_ge (tgt := 65) hx hb dX7_areFlightsAlike_18 (by decide) (fun c4 => ?_) (fun c4 => ?_)
    · replace h := ite_t c4 h
      refine lv_iinc (v := (l1 + 1)) (lv' := [(1, .int (l1 + 1)), (0, .ref a_x), (2, .int l2)]) hx hb dX7_areFlightsAlike_65 hl (k := 1) rfl rfl (by decide) rfl (fun ls hl => ?_)
      refine lv_goto (tgt := 2) hx hb dX7_areFlightsAlike_68 (by decide) ?_
      exact hrec2 (l1 + 1) f_net ⟨hP, hD⟩ hS _ (lv_sub hl [1, 0] rfl) h
    · replace h := ite_f c4 h
      refine lv_iconst (v := 1) hx hb dX7_areFlightsAlike_21 (by decide) ?_
      refine lv_istore_n (lv' := [(3, .int 1), (0, .ref a_x), (1, .int l1), (2, .int l2)]) hx hb dX7_areFlightsAlike_22 rfl hl (by decide) rfl (fun ls hl => ?_)
      exact lX7_areFlightsAlike_23 C hE hA hret hrec2 ih 64 l1 l2 1 f_net ⟨hP, hD⟩ hS _ (lv_sub hl [1, 2, 3, 0] rfl) h
set_option maxHeartbeats 4000000 in
set_option maxRecDepth 100000 in
theorem lX7_areFlightsAlike_2 {p : Program} {l : Launch} {e : Env} {s : State} {m : MethodId} {args : Array Value} {below : List Frame} {meth : Method} {c : Code} {Q : State → Prop} {D : va_G} {T : Nat → ClassId} {a_g a_gw a_gk a_f a_x a_b a_v a_h a_r a_u a_t a_n : Nat} {x_sav : Int32} {x_err : Int32} {x_rea : Int32} {x_det : Int32} {x_com : Int32} {v_gw : Nat → Int32} {v_gk : Nat → Int32} {A : Nat → Prop} {r : Int32 × Int32} (C : CallFix p m c cX7_areFlightsAlike 4 s args aw RX7) (hE : eK D T s) (hA : ∀ q : Nat, s.heap.size ≤ q → A q) (hret : WrRet p l e ({ frames := 5, cells := 0, slots := 0, locals := 115 } : Room) s m args below meth c Q cX7_areFlightsAlike .boolean D A [(a_g, .inr (1, [.ref a_gw, .ref a_gk])), (a_f, .inr (0, [.ref a_g, .int r.2])), (a_x, .inr (7, [.ref a_g, .ref a_b, .ref a_v, .ref a_h, .ref a_r, .ref a_f, .ref a_u, .ref a_t, .ref a_n, .int x_sav, .int x_err, .int x_rea, .int x_det, .int x_com])), (a_gw, .inl (T 0, 90, .inl v_gw)), (a_gk, .inl (T 0, 18, .inl v_gk))] r.1) : ∀ (k : Nat) (l1 : Int32) (f_net : Int32) {H : Heap} {locs : List Loc} (hPD : va_PD D A [(a_g, .inr (1, [.ref a_gw, .ref a_gk])), (a_f, .inr (0, [.ref a_g, .int f_net])), (a_x, .inr (7, [.ref a_g, .ref a_b, .ref a_v, .ref a_h, .ref a_r, .ref a_f, .ref a_u, .ref a_t, .ref a_n, .int x_sav, .int x_err, .int x_rea, .int x_det, .int x_com])), (a_gw, .inl (T 0, 90, .inl v_gw)), (a_gk, .inl (T 0, 18, .inl v_gk))] H) (hS : va_S A s.heap H locs) (ls : Array Slot) (hl : lv_has ls 4 [(0, .ref a_x), (1, .int l1)]) (h : fX7_areFlightsAlike_2 v_gw v_gk k l1 f_net = some r), W p l e ({ frames := 5, cells := 0, slots := 0, locals := 115 } : Room) s m args below meth c H locs 0 0 Q (F0 m 2 ls []) := by
  have hx := C.1
  have hb := C.2.1
  intro k
  induction k with
  | zero =>
    intro l1 f_net H locs hPD hS ls hl h
    exact nomatch (show (none : Option (Int32 × Int32)) = some r from h)
  | succ k ih =>
    intro l1 f_net H locs hPD hS ls hl h
    obtain ⟨hP, hD⟩ := hPD
    rw [fX7_areFlightsAlike_2] at h
    refine lv_iload_n hx hb dX7_areFlightsAlike_2 rfl (lv_at hl 1 rfl) ?_
    refine lv_aload_n hx hb dX7_areFlightsAlike_3 rfl (lv_at hl 0 rfl) ?_
    refine getF (q0 := 2) (k0 := 0) (v := .ref a_g) C hE hP inA7 rfl rfl (by decide) qFX7_10 rfl rfl dX7_areFlightsAlike_4 ?_
    refine lv_iconst (v := 0) hx hb dX7_areFlightsAlike_7 (by decide) ?_
    replace h := bnd h; obtain ⟨q1, e2, h⟩ := h
    refine rdV C hE hP (kX1_count l D T a_g a_gw a_gk v_gk 0 q1 e2) mX1_count qLX7_235 [0, 4] 0 rfl rfl rfl rfl ⟨rfl, rfl⟩ ⟨Nat.le_of_ble_eq_true rfl, Nat.le_of_ble_eq_true rfl⟩ rfl hl.1 rfl (Nat.le_of_ble_eq_true rfl) dX7_areFlightsAlike_8 ⟨Nat.le_of_ble_eq_true rfl, Nat.le_of_ble_eq_true rfl⟩ ?_
    refine lv_icmp_ge (tgt := 71) hx hb dX7_areFlightsAlike_11 (by decide) (fun c3 => ?_) (fun c3 => ?_)
    · replace h := ite_t c3 h
      refine lv_iconst (v := 1) hx hb dX7_areFlightsAlike_71 (by decide) ?_
      replace h := Option.some.inj h
      exact hret _ _ _ _ _ _ dX7_areFlightsAlike_72 rfl (by rw [← h] <;> rfl) (by rw [← h]; exact hP) hS
    · replace h := ite_f c3 h
      refine lv_iconst (v := 0) hx hb dX7_areFlightsAlike_14 (by decide) ?_
      refine lv_istore_n (lv' := [(2, .int 0), (0, .ref a_x), (1, .int l1)]) hx hb dX7_areFlightsAlike_15 rfl hl (by decide) rfl (fun ls hl => ?_)
      exact lX7_areFlightsAlike_16 C hE hA hret ih 64 l1 0 f_net ⟨hP, hD⟩ hS _ (lv_sub hl [1, 2, 0] rfl) h
set_option maxHeartbeats 4000000 in
set_option maxRecDepth 100000 in
theorem kX7_areFlightsAlike (l : Launch) (D : va_G) (T : Nat → ClassId) (a_g a_gw a_gk a_f a_x a_b a_v a_h a_r a_u a_t a_n : Nat) (f_net : Int32) (x_sav : Int32) (x_err : Int32) (x_rea : Int32) (x_det : Int32) (x_com : Int32) (v_gw : Nat → Int32) (v_gk : Nat → Int32) (sz : Nat) (r : Int32 × Int32) (h : fX7_areFlightsAlike f_net v_gw v_gk = some r) : WrI l yX7_areFlightsAlike cX7_areFlightsAlike 4 .boolean ({ frames := 5, cells := 0, slots := 0, locals := 115 } : Room) D T sz [(a_g, .inr (1, [.ref a_gw, .ref a_gk])), (a_f, .inr (0, [.ref a_g, .int f_net])), (a_x, .inr (7, [.ref a_g, .ref a_b, .ref a_v, .ref a_h, .ref a_r, .ref a_f, .ref a_u, .ref a_t, .ref a_n, .int x_sav, .int x_err, .int x_rea, .int x_det, .int x_com])), (a_gw, .inl (T 0, 90, .inl v_gw)), (a_gk, .inl (T 0, 18, .inl v_gk))] [(a_g, .inr (1, [.ref a_gw, .ref a_gk])), (a_f, .inr (0, [.ref a_g, .int r.2])), (a_x, .inr (7, [.ref a_g, .ref a_b, .ref a_v, .ref a_h, .ref a_r, .ref a_f, .ref a_u, .ref a_t, .ref a_n, .int x_sav, .int x_err, .int x_rea, .int x_det, .int x_com])), (a_gw, .inl (T 0, 90, .inl v_gw)), (a_gk, .inl (T 0, 18, .inl v_gk))] [.ref a_x] r.1 := by
  unfold fX7_areFlightsAlike at h
  refine wrMet (by decide +kernel) rfl (fun p e s m args below meth c Q A C hE hA hP hD hS hret ls hl => ?_)
  have hx := C.1
  have hb := C.2.1
  have hl : lv_has ls 4 [(0, .ref a_x)] := hl
  refine lv_iconst (v := 0) hx hb dX7_areFlightsAlike_0 (by decide) ?_
  refine lv_istore_n (lv' := [(1, .int 0), (0, .ref a_x)]) hx hb dX7_areFlightsAlike_1 rfl hl (by decide) rfl (fun ls hl => ?_)
  exact lX7_areFlightsAlike_2 C hE hA hret 64 0 f_net ⟨hP, hD⟩ hS _ (lv_sub hl [1, 0] rfl) h

def fX1_countPlaying_37 (v_gw : Nat → Int32) (v_gk : Nat → Int32) (rec4 : Int32 → Int32 → Int32 → Option Int32) (x0 : Int32) (x1 : Int32) (l1 : Int32) (l3 : Int32) : Option Int32 :=
  rec4 l1 (x0 + x1) (l3 + 1)
def fX1_countPlaying_4 (v_gw : Nat → Int32) (v_gk : Nat → Int32) : Nat → Int32 → Int32 → Int32 → Option Int32
  | 0, _, _, _ => none
  | k + 1, l1, l2, l3 =>
    (fX1_count v_gk 0).bind fun q1 =>
    if q1 ≤ l3 then
      some l2
    else
      (fX1_of v_gw l3 0).bind fun q4 =>
      if q4 = l1 then
        (fX1_isPlaying v_gw l3).bind fun q7 =>
        fX1_countPlaying_37 v_gw v_gk (fX1_countPlaying_4 v_gw v_gk k) l2 (if q7 = 0 then 0 else 1) l1 l3
      else
        fX1_countPlaying_37 v_gw v_gk (fX1_countPlaying_4 v_gw v_gk k) l2 0 l1 l3
def fX1_countPlaying (v_gw : Nat → Int32) (v_gk : Nat → Int32) (p0 : Int32) : Option Int32 :=
  fX1_countPlaying_4 v_gw v_gk 64 p0 0 0
set_option maxHeartbeats 4000000 in
set_option maxRecDepth 100000 in
theorem lX1_countPlaying_37 {p : Program} {l : Launch} {e : Env} {s : State} {m : MethodId} {args : Array Value} {below : List Frame} {meth : Method} {c : Code} {Q : State → Prop} {D : va_G} {T : Nat → ClassId} {a_g a_gw a_gk : Nat} {v_gw : Nat → Int32} {v_gk : Nat → Int32} {r : Int32} (C : CallFix p m c cX1_countPlaying 4 s args aw RX1) (hE : eK D T s) (hP : va_P D kC [(a_g, .inr (1, [.ref a_gw, .ref a_gk])), (a_gw, .inl (T 0, 90, .inl v_gw)), (a_gk, .inl (T 0, 18, .inl v_gk))] s.heap) (hret : RdRet p l e ({ frames := 2, cells := 0, slots := 0, locals := 44 } : Room) s m args below meth c Q cX1_countPlaying .int r) {rec4 : Int32 → Int32 → Int32 → Option Int32} (hrec4 : ∀ (l1 : Int32) (l2 : Int32) (l3 : Int32) (ls : Array Slot) (hl : lv_has ls 4 [(0, .ref a_g), (1, .int l1), (2, .int l2), (3, .int l3)]) (h : rec4 l1 l2 l3 = some r), W p l e ({ frames := 2, cells := 0, slots := 0, locals := 44 } : Room) s m args below meth c s.heap [] 0 0 Q (F0 m 4 ls [])) (x0 : Int32) (x1 : Int32) (l1 : Int32) (l3 : Int32) (ls : Array Slot) (hl : lv_has ls 4 [(0, .ref a_g), (1, .int l1), (3, .int l3)]) (h : fX1_countPlaying_37 v_gw v_gk rec4 x0 x1 l1 l3 = some r) : W p l e ({ frames := 2, cells := 0, slots := 0, locals := 44 } : Room) s m args below meth c s.heap [] 0 0 Q (F0 m 37 ls [.int x1, .int x0]) := by
  have hx := C.1
  have hb := C.2.1
  unfold fX1_countPlaying_37 at h
  refine lv_iadd hx hb dX1_countPlaying_37 ?_
  refine lv_istore_n (lv' := [(2, .int (x0 + x1)), (0, .ref a_g), (1, .int l1), (3, .int l3)]) hx hb dX1_countPlaying_38 rfl hl (by decide) rfl (fun ls hl => ?_)
  refine lv_iinc (v := (l3 + 1)) (lv' := [(3, .int (l3 + 1)), (2, .int (x0 + x1)), (0, .ref a_g), (1, .int l1)]) hx hb dX1_countPlaying_39 hl (k := 3) rfl rfl (by decide) rfl (fun ls hl => ?_)
  refine lv_goto (tgt := 4) hx hb dX1_countPlaying_42 (by decide) ?_
  exact hrec4 l1 (x0 + x1) (l3 + 1) _ (lv_sub hl [2, 3, 1, 0] rfl) h
set_option maxHeartbeats 4000000 in
set_option maxRecDepth 100000 in
theorem lX1_countPlaying_4 {p : Program} {l : Launch} {e : Env} {s : State} {m : MethodId} {args : Array Value} {below : List Frame} {meth : Method} {c : Code} {Q : State → Prop} {D : va_G} {T : Nat → ClassId} {a_g a_gw a_gk : Nat} {v_gw : Nat → Int32} {v_gk : Nat → Int32} {r : Int32} (C : CallFix p m c cX1_countPlaying 4 s args aw RX1) (hE : eK D T s) (hP : va_P D kC [(a_g, .inr (1, [.ref a_gw, .ref a_gk])), (a_gw, .inl (T 0, 90, .inl v_gw)), (a_gk, .inl (T 0, 18, .inl v_gk))] s.heap) (hret : RdRet p l e ({ frames := 2, cells := 0, slots := 0, locals := 44 } : Room) s m args below meth c Q cX1_countPlaying .int r) : ∀ (k : Nat) (l1 : Int32) (l2 : Int32) (l3 : Int32) (ls : Array Slot) (hl : lv_has ls 4 [(0, .ref a_g), (1, .int l1), (2, .int l2), (3, .int l3)]) (h : fX1_countPlaying_4 v_gw v_gk k l1 l2 l3 = some r), W p l e ({ frames := 2, cells := 0, slots := 0, locals := 44 } : Room) s m args below meth c s.heap [] 0 0 Q (F0 m 4 ls []) := by
  have hx := C.1
  have hb := C.2.1
  intro k
  induction k with
  | zero =>
    intro l1 l2 l3  ls hl h
    exact nomatch (show (none : Option Int32) = some r from h)
  | succ k ih =>
    intro l1 l2 l3  ls hl h
    rw [fX1_countPlaying_4] at h
    refine lv_iload_n hx hb dX1_countPlaying_4 rfl (lv_at hl 3 rfl) ?_
    refine lv_aload_n hx hb dX1_countPlaying_5 rfl (lv_at hl 0 rfl) ?_
    refine lv_iconst (v := 0) hx hb dX1_countPlaying_6 (by decide) ?_
    replace h := bnd h; obtain ⟨q1, e2, h⟩ := h
    refine rdV C hE hP (kX1_count l D T a_g a_gw a_gk v_gk 0 q1 e2) mX1_count qLX1_28 [0, 2] 0 rfl rfl rfl rfl ⟨rfl, rfl⟩ ⟨Nat.le_of_ble_eq_true rfl, Nat.le_of_ble_eq_true rfl⟩ rfl hl.1 rfl (Nat.le_of_ble_eq_true rfl) dX1_countPlaying_7 ⟨Nat.le_of_ble_eq_true rfl, Nat.le_of_ble_eq_true rfl⟩ ?_
    refine lv_icmp_ge (tgt := 45) hx hb dX1_countPlaying_10 (by decide) (fun c3 => ?_) (fun c3 => ?_)
    · replace h := ite_t c3 h
      refine lv_iload_n hx hb dX1_countPlaying_45 rfl (lv_at hl 2 rfl) ?_
      exact hret _ _ _ _ dX1_countPlaying_46 rfl (Option.some.inj h)
    · replace h := ite_f c3 h
      refine lv_iload_n hx hb dX1_countPlaying_13 rfl (lv_at hl 2 rfl) ?_
      refine lv_aload_n hx hb dX1_countPlaying_14 rfl (lv_at hl 0 rfl) ?_
      refine lv_iload_n hx hb dX1_countPlaying_15 rfl (lv_at hl 3 rfl) ?_
      refine lv_iconst (v := 0) hx hb dX1_countPlaying_16 (by decide) ?_
      replace h := bnd h; obtain ⟨q4, e5, h⟩ := h
      refine rdV C hE hP (kX1_of l D T a_g a_gw a_gk v_gw l3 0 q4 e5) mX1_of qLX1_32 [0, 1] 0 rfl rfl rfl rfl ⟨rfl, rfl⟩ ⟨Nat.le_of_ble_eq_true rfl, Nat.le_of_ble_eq_true rfl⟩ rfl hl.1 rfl (Nat.le_of_ble_eq_true rfl) dX1_countPlaying_17 ⟨Nat.le_of_ble_eq_true rfl, Nat.le_of_ble_eq_true rfl⟩ ?_
      refine lv_iload_n hx hb dX1_countPlaying_20 rfl (lv_at hl 1 rfl) ?_
      refine lv_icmp_ne (tgt := 36) hx hb dX1_countPlaying_21 (by decide) (fun c6 => ?_) (fun c6 => ?_)
      · replace h := ite_f c6 h
        refine lv_iconst (v := 0) hx hb dX1_countPlaying_36 (by decide) ?_
        exact lX1_countPlaying_37 C hE hP hret ih l2 0 l1 l3 _ (lv_sub hl [0, 1, 3] rfl) h
      · replace h := ite_t c6 h
        refine lv_aload_n hx hb dX1_countPlaying_24 rfl (lv_at hl 0 rfl) ?_
        refine lv_iload_n hx hb dX1_countPlaying_25 rfl (lv_at hl 3 rfl) ?_
        replace h := bnd h; obtain ⟨q7, e8, h⟩ := h
        refine rdV C hE hP (kX1_isPlaying l D T a_g a_gw a_gk v_gw l3 q7 e8) mX1_isPlaying qLX1_50 [0, 1] 0 rfl rfl rfl rfl ⟨rfl, rfl⟩ ⟨Nat.le_of_ble_eq_true rfl, Nat.le_of_ble_eq_true rfl⟩ rfl hl.1 rfl (Nat.le_of_ble_eq_true rfl) dX1_countPlaying_26 ⟨Nat.le_of_ble_eq_true rfl, Nat.le_of_ble_eq_true rfl⟩ ?_
        refine lv_if_eq (tgt := 36) hx hb dX1_countPlaying_29 (by decide) (fun c9 => ?_) (fun c9 => ?_)
        · rw [if_pos c9] at h
          refine lv_iconst (v := 0) hx hb dX1_countPlaying_36 (by decide) ?_
          exact lX1_countPlaying_37 C hE hP hret ih l2 0 l1 l3 _ (lv_sub hl [0, 1, 3] rfl) h
        · rw [if_neg c9] at h
          refine lv_iconst (v := 1) hx hb dX1_countPlaying_32 (by decide) ?_
          refine lv_goto (tgt := 37) hx hb dX1_countPlaying_33 (by decide) ?_
          exact lX1_countPlaying_37 C hE hP hret ih l2 1 l1 l3 _ (lv_sub hl [0, 1, 3] rfl) h
set_option maxHeartbeats 4000000 in
set_option maxRecDepth 100000 in
theorem kX1_countPlaying (l : Launch) (D : va_G) (T : Nat → ClassId) (a_g a_gw a_gk : Nat) (v_gw : Nat → Int32) (v_gk : Nat → Int32) (p0 : Int32) (r : Int32) (h : fX1_countPlaying v_gw v_gk p0 = some r) : RdI l yX1_countPlaying cX1_countPlaying 4 .int ({ frames := 2, cells := 0, slots := 0, locals := 44 } : Room) D T [(a_g, .inr (1, [.ref a_gw, .ref a_gk])), (a_gw, .inl (T 0, 90, .inl v_gw)), (a_gk, .inl (T 0, 18, .inl v_gk))] [.ref a_g, .int p0] r := by
  unfold fX1_countPlaying at h
  refine rdMet (by decide +kernel) rfl (fun p e s m args below meth c Q C hE hP hret ls hl => ?_)
  have hx := C.1
  have hb := C.2.1
  have hl : lv_has ls 4 [(0, .ref a_g), (1, .int p0)] := hl
  refine lv_iconst (v := 0) hx hb dX1_countPlaying_0 (by decide) ?_
  refine lv_istore_n (lv' := [(2, .int 0), (0, .ref a_g), (1, .int p0)]) hx hb dX1_countPlaying_1 rfl hl (by decide) rfl (fun ls hl => ?_)
  refine lv_iconst (v := 0) hx hb dX1_countPlaying_2 (by decide) ?_
  refine lv_istore_n (lv' := [(3, .int 0), (2, .int 0), (0, .ref a_g), (1, .int p0)]) hx hb dX1_countPlaying_3 rfl hl (by decide) rfl (fun ls hl => ?_)
  exact lX1_countPlaying_4 C hE hP hret 64 p0 0 0 _ (lv_sub hl [2, 3, 1, 0] rfl) h

def fX7_isPlaced_47 (v_gw : Nat → Int32) (v_gk : Nat → Int32) (rec2 : Int32 → Option Int32) (l1 : Int32) : Option Int32 :=
  rec2 (l1 + 1)
def fX7_isPlaced_2 (v_gw : Nat → Int32) (v_gk : Nat → Int32) : Nat → Int32 → Option Int32
  | 0, _ => none
  | k + 1, l1 =>
    (fX1_count v_gk 0).bind fun q1 =>
    if q1 ≤ l1 then
      (fX1_countPlaying v_gw v_gk 0).bind fun q4 =>
      if 3 < q4 then
        some 0
      else
        (fX1_countPlaying v_gw v_gk 1).bind fun q7 =>
        if 3 < q7 then
          some 0
        else
          some 1
    else
      (fX1_isPlaying v_gw l1).bind fun q10 =>
      if q10 = 0 then
        fX7_isPlaced_47 v_gw v_gk (fX7_isPlaced_2 v_gw v_gk k) l1
      else
        (fX1_of v_gw l1 4).bind fun q13 =>
        (fX1_whaleOn v_gw v_gk q13).bind fun q15 =>
        if q15 = l1 then
          fX7_isPlaced_47 v_gw v_gk (fX7_isPlaced_2 v_gw v_gk k) l1
        else
          some 0
def fX7_isPlaced (v_gw : Nat → Int32) (v_gk : Nat → Int32) : Option Int32 :=
  fX7_isPlaced_2 v_gw v_gk 64 0
set_option maxHeartbeats 4000000 in
set_option maxRecDepth 100000 in
theorem lX7_isPlaced_47 {p : Program} {l : Launch} {e : Env} {s : State} {m : MethodId} {args : Array Value} {below : List Frame} {meth : Method} {c : Code} {Q : State → Prop} {D : va_G} {T : Nat → ClassId} {a_g a_gw a_gk a_x a_b a_v a_h a_r a_f a_u a_t a_n : Nat} {x_sav : Int32} {x_err : Int32} {x_rea : Int32} {x_det : Int32} {x_com : Int32} {v_gw : Nat → Int32} {v_gk : Nat → Int32} {r : Int32} (C : CallFix p m c cX7_isPlaced 2 s args aw RX7) (hE : eK D T s) (hP : va_P D kC [(a_g, .inr (1, [.ref a_gw, .ref a_gk])), (a_x, .inr (7, [.ref a_g, .ref a_b, .ref a_v, .ref a_h, .ref a_r, .ref a_f, .ref a_u, .ref a_t, .ref a_n, .int x_sav, .int x_err, .int x_rea, .int x_det, .int x_com])), (a_gw, .inl (T 0, 90, .inl v_gw)), (a_gk, .inl (T 0, 18, .inl v_gk))] s.heap) (hret : RdRet p l e ({ frames := 3, cells := 0, slots := 0, locals := 67 } : Room) s m args below meth c Q cX7_isPlaced .boolean r) {rec2 : Int32 → Option Int32} (hrec2 : ∀ (l1 : Int32) (ls : Array Slot) (hl : lv_has ls 2 [(0, .ref a_x), (1, .int l1)]) (h : rec2 l1 = some r), W p l e ({ frames := 3, cells := 0, slots := 0, locals := 67 } : Room) s m args below meth c s.heap [] 0 0 Q (F0 m 2 ls [])) (l1 : Int32) (ls : Array Slot) (hl : lv_has ls 2 [(0, .ref a_x), (1, .int l1)]) (h : fX7_isPlaced_47 v_gw v_gk rec2 l1 = some r) : W p l e ({ frames := 3, cells := 0, slots := 0, locals := 67 } : Room) s m args below meth c s.heap [] 0 0 Q (F0 m 47 ls []) := by
  have hx := C.1
  have hb := C.2.1
  unfold fX7_isPlaced_47 at h
  refine lv_iinc (v := (l1 + 1)) (lv' := [(1, .int (l1 + 1)), (0, .ref a_x)]) hx hb dX7_isPlaced_47 hl (k := 1) rfl rfl (by decide) rfl (fun ls hl => ?_)
  refine lv_goto (tgt := 2) hx hb dX7_isPlaced_50 (by decide) ?_
  exact hrec2 (l1 + 1) _ (lv_sub hl [1, 0] rfl) h
set_option maxHeartbeats 4000000 in
set_option maxRecDepth 100000 in
theorem lX7_isPlaced_2 {p : Program} {l : Launch} {e : Env} {s : State} {m : MethodId} {args : Array Value} {below : List Frame} {meth : Method} {c : Code} {Q : State → Prop} {D : va_G} {T : Nat → ClassId} {a_g a_gw a_gk a_x a_b a_v a_h a_r a_f a_u a_t a_n : Nat} {x_sav : Int32} {x_err : Int32} {x_rea : Int32} {x_det : Int32} {x_com : Int32} {v_gw : Nat → Int32} {v_gk : Nat → Int32} {r : Int32} (C : CallFix p m c cX7_isPlaced 2 s args aw RX7) (hE : eK D T s) (hP : va_P D kC [(a_g, .inr (1, [.ref a_gw, .ref a_gk])), (a_x, .inr (7, [.ref a_g, .ref a_b, .ref a_v, .ref a_h, .ref a_r, .ref a_f, .ref a_u, .ref a_t, .ref a_n, .int x_sav, .int x_err, .int x_rea, .int x_det, .int x_com])), (a_gw, .inl (T 0, 90, .inl v_gw)), (a_gk, .inl (T 0, 18, .inl v_gk))] s.heap) (hret : RdRet p l e ({ frames := 3, cells := 0, slots := 0, locals := 67 } : Room) s m args below meth c Q cX7_isPlaced .boolean r) : ∀ (k : Nat) (l1 : Int32) (ls : Array Slot) (hl : lv_has ls 2 [(0, .ref a_x), (1, .int l1)]) (h : fX7_isPlaced_2 v_gw v_gk k l1 = some r), W p l e ({ frames := 3, cells := 0, slots := 0, locals := 67 } : Room) s m args below meth c s.heap [] 0 0 Q (F0 m 2 ls []) := by
  have hx := C.1
  have hb := C.2.1
  intro k
  induction k with
  | zero =>
    intro l1  ls hl h
    exact nomatch (show (none : Option Int32) = some r from h)
  | succ k ih =>
    intro l1  ls hl h
    rw [fX7_isPlaced_2] at h
    refine lv_iload_n hx hb dX7_isPlaced_2 rfl (lv_at hl 1 rfl) ?_
    refine lv_aload_n hx hb dX7_isPlaced_3 rfl (lv_at hl 0 rfl) ?_
    refine getF (q0 := 1) (k0 := 0) (v := .ref a_g) C hE hP inA7 rfl rfl (by decide) qFX7_10 rfl rfl dX7_isPlaced_4 ?_
    refine lv_iconst (v := 0) hx hb dX7_isPlaced_7 (by decide) ?_
    replace h := bnd h; obtain ⟨q1, e2, h⟩ := h
    refine rdV C hE hP (kX1_count l D T a_g a_gw a_gk v_gk 0 q1 e2) mX1_count qLX7_235 [0, 3] 0 rfl rfl rfl rfl ⟨rfl, rfl⟩ ⟨Nat.le_of_ble_eq_true rfl, Nat.le_of_ble_eq_true rfl⟩ rfl hl.1 rfl (Nat.le_of_ble_eq_true rfl) dX7_isPlaced_8 ⟨Nat.le_of_ble_eq_true rfl, Nat.le_of_ble_eq_true rfl⟩ ?_
    refine lv_icmp_ge (tgt := 53) hx hb dX7_isPlaced_11 (by decide) (fun c3 => ?_) (fun c3 => ?_)
    · replace h := ite_t c3 h
      refine lv_aload_n hx hb dX7_isPlaced_53 rfl (lv_at hl 0 rfl) ?_
      refine getF (q0 := 1) (k0 := 0) (v := .ref a_g) C hE hP inA7 rfl rfl (by decide) qFX7_10 rfl rfl dX7_isPlaced_54 ?_
      refine lv_iconst (v := 0) hx hb dX7_isPlaced_57 (by decide) ?_
      replace h := bnd h; obtain ⟨q4, e5, h⟩ := h
      refine rdV C hE hP (kX1_countPlaying l D T a_g a_gw a_gk v_gw v_gk 0 q4 e5) mX1_countPlaying qLX7_305 [0, 2, 3] 0 rfl rfl rfl rfl ⟨rfl, rfl⟩ ⟨Nat.le_of_ble_eq_true rfl, Nat.le_of_ble_eq_true rfl⟩ rfl hl.1 rfl (Nat.le_of_ble_eq_true rfl) dX7_isPlaced_58 ⟨Nat.le_of_ble_eq_true rfl, Nat.le_of_ble_eq_true rfl⟩ ?_
      refine lv_iconst (v := 3) hx hb dX7_isPlaced_61 (by decide) ?_
      refine lv_icmp_gt (tgt := 81) hx hb dX7_isPlaced_62 (by decide) (fun c6 => ?_) (fun c6 => ?_)
      · replace h := ite_t c6 h
        refine lv_iconst (v := 0) hx hb dX7_isPlaced_81 (by decide) ?_
        exact hret _ _ _ _ dX7_isPlaced_82 rfl (Option.some.inj h)
      · replace h := ite_f c6 h
        refine lv_aload_n hx hb dX7_isPlaced_65 rfl (lv_at hl 0 rfl) ?_
        refine getF (q0 := 1) (k0 := 0) (v := .ref a_g) C hE hP inA7 rfl rfl (by decide) qFX7_10 rfl rfl dX7_isPlaced_66 ?_
        refine lv_iconst (v := 1) hx hb dX7_isPlaced_69 (by decide) ?_
        replace h := bnd h; obtain ⟨q7, e8, h⟩ := h
        refine rdV C hE hP (kX1_countPlaying l D T a_g a_gw a_gk v_gw v_gk 1 q7 e8) mX1_countPlaying qLX7_305 [0, 2, 3] 0 rfl rfl rfl rfl ⟨rfl, rfl⟩ ⟨Nat.le_of_ble_eq_true rfl, Nat.le_of_ble_eq_true rfl⟩ rfl hl.1 rfl (Nat.le_of_ble_eq_true rfl) dX7_isPlaced_70 ⟨Nat.le_of_ble_eq_true rfl, Nat.le_of_ble_eq_true rfl⟩ ?_
        refine lv_iconst (v := 3) hx hb dX7_isPlaced_73 (by decide) ?_
        refine lv_icmp_gt (tgt := 81) hx hb dX7_isPlaced_74 (by decide) (fun c9 => ?_) (fun c9 => ?_)
        · replace h := ite_t c9 h
          refine lv_iconst (v := 0) hx hb dX7_isPlaced_81 (by decide) ?_
          exact hret _ _ _ _ dX7_isPlaced_82 rfl (Option.some.inj h)
        · replace h := ite_f c9 h
          refine lv_iconst (v := 1) hx hb dX7_isPlaced_77 (by decide) ?_
          refine lv_goto (tgt := 82) hx hb dX7_isPlaced_78 (by decide) ?_
          exact hret _ _ _ _ dX7_isPlaced_82 rfl (Option.some.inj h)
    · replace h := ite_f c3 h
      refine lv_aload_n hx hb dX7_isPlaced_14 rfl (lv_at hl 0 rfl) ?_
      refine getF (q0 := 1) (k0 := 0) (v := .ref a_g) C hE hP inA7 rfl rfl (by decide) qFX7_10 rfl rfl dX7_isPlaced_15 ?_
      refine lv_iload_n hx hb dX7_isPlaced_18 rfl (lv_at hl 1 rfl) ?_
      replace h := bnd h; obtain ⟨q10, e11, h⟩ := h
      refine rdV C hE hP (kX1_isPlaying l D T a_g a_gw a_gk v_gw l1 q10 e11) mX1_isPlaying qLX7_200 [0, 2] 0 rfl rfl rfl rfl ⟨rfl, rfl⟩ ⟨Nat.le_of_ble_eq_true rfl, Nat.le_of_ble_eq_true rfl⟩ rfl hl.1 rfl (Nat.le_of_ble_eq_true rfl) dX7_isPlaced_19 ⟨Nat.le_of_ble_eq_true rfl, Nat.le_of_ble_eq_true rfl⟩ ?_
      refine lv_if_eq (tgt := 47) hx hb dX7_isPlaced_22 (by decide) (fun c12 => ?_) (fun c12 => ?_)
      · replace h := ite_t c12 h
        exact lX7_isPlaced_47 C hE hP hret ih l1 _ (lv_sub hl [0, 1] rfl) h
      · replace h := ite_f c12 h
        refine lv_aload_n hx hb dX7_isPlaced_25 rfl (lv_at hl 0 rfl) ?_
        refine getF (q0 := 1) (k0 := 0) (v := .ref a_g) C hE hP inA7 rfl rfl (by decide) qFX7_10 rfl rfl dX7_isPlaced_26 ?_
        refine lv_aload_n hx hb dX7_isPlaced_29 rfl (lv_at hl 0 rfl) ?_
        refine getF (q0 := 1) (k0 := 0) (v := .ref a_g) C hE hP inA7 rfl rfl (by decide) qFX7_10 rfl rfl dX7_isPlaced_30 ?_
        refine lv_iload_n hx hb dX7_isPlaced_33 rfl (lv_at hl 1 rfl) ?_
        refine lv_iconst (v := 4) hx hb dX7_isPlaced_34 (by decide) ?_
        replace h := bnd h; obtain ⟨q13, e14, h⟩ := h
        refine rdV C hE hP (kX1_of l D T a_g a_gw a_gk v_gw l1 4 q13 e14) mX1_of qLX7_148 [0, 2] 0 rfl rfl rfl rfl ⟨rfl, rfl⟩ ⟨Nat.le_of_ble_eq_true rfl, Nat.le_of_ble_eq_true rfl⟩ rfl hl.1 rfl (Nat.le_of_ble_eq_true rfl) dX7_isPlaced_35 ⟨Nat.le_of_ble_eq_true rfl, Nat.le_of_ble_eq_true rfl⟩ ?_
        replace h := bnd h; obtain ⟨q15, e16, h⟩ := h
        refine rdV C hE hP (kX1_whaleOn l D T a_g a_gw a_gk v_gw v_gk q13 q15 e16) mX1_whaleOn qLX7_154 [0, 2, 3] 0 rfl rfl rfl rfl ⟨rfl, rfl⟩ ⟨Nat.le_of_ble_eq_true rfl, Nat.le_of_ble_eq_true rfl⟩ rfl hl.1 rfl (Nat.le_of_ble_eq_true rfl) dX7_isPlaced_38 ⟨Nat.le_of_ble_eq_true rfl, Nat.le_of_ble_eq_true rfl⟩ ?_
        refine lv_iload_n hx hb dX7_isPlaced_41 rfl (lv_at hl 1 rfl) ?_
        refine lv_icmp_eq (tgt := 47) hx hb dX7_isPlaced_42 (by decide) (fun c17 => ?_) (fun c17 => ?_)
        · replace h := ite_t c17 h
          exact lX7_isPlaced_47 C hE hP hret ih l1 _ (lv_sub hl [0, 1] rfl) h
        · replace h := ite_f c17 h
          refine lv_iconst (v := 0) hx hb dX7_isPlaced_45 (by decide) ?_
          exact hret _ _ _ _ dX7_isPlaced_46 rfl (Option.some.inj h)
set_option maxHeartbeats 4000000 in
set_option maxRecDepth 100000 in
theorem kX7_isPlaced (l : Launch) (D : va_G) (T : Nat → ClassId) (a_g a_gw a_gk a_x a_b a_v a_h a_r a_f a_u a_t a_n : Nat) (x_sav : Int32) (x_err : Int32) (x_rea : Int32) (x_det : Int32) (x_com : Int32) (v_gw : Nat → Int32) (v_gk : Nat → Int32) (r : Int32) (h : fX7_isPlaced v_gw v_gk = some r) : RdI l yX7_isPlaced cX7_isPlaced 2 .boolean ({ frames := 3, cells := 0, slots := 0, locals := 67 } : Room) D T [(a_g, .inr (1, [.ref a_gw, .ref a_gk])), (a_x, .inr (7, [.ref a_g, .ref a_b, .ref a_v, .ref a_h, .ref a_r, .ref a_f, .ref a_u, .ref a_t, .ref a_n, .int x_sav, .int x_err, .int x_rea, .int x_det, .int x_com])), (a_gw, .inl (T 0, 90, .inl v_gw)), (a_gk, .inl (T 0, 18, .inl v_gk))] [.ref a_x] r := by
  unfold fX7_isPlaced at h
  refine rdMet (by decide +kernel) rfl (fun p e s m args below meth c Q C hE hP hret ls hl => ?_)
  have hx := C.1
  have hb := C.2.1
  have hl : lv_has ls 2 [(0, .ref a_x)] := hl
  refine lv_iconst (v := 0) hx hb dX7_isPlaced_0 (by decide) ?_
  refine lv_istore_n (lv' := [(1, .int 0), (0, .ref a_x)]) hx hb dX7_isPlaced_1 rfl hl (by decide) rfl (fun ls hl => ?_)
  exact lX7_isPlaced_2 C hE hP hret 64 0 _ (lv_sub hl [1, 0] rfl) h

def fX7_isFair (f_net : Int32) (v_gw : Nat → Int32) (v_gk : Nat → Int32) (v_rs : Nat → Int32) (v_rl : Nat → Int32) (v_ro : Nat → Int32) : Option (Int32 × Int32 × (Nat → Int32) × (Nat → Int32) × (Nat → Int32)) :=
  (fX7_areTidesAlike v_gk).bind fun q1 =>
  if q1 = 0 then
    some (0, f_net, v_rs, v_rl, v_ro)
  else
    (fX7_areStepsAlike v_gw v_gk v_rs v_rl v_ro).bind fun q4 =>
    if q4.1 = 0 then
      some (0, f_net, q4.2.1, q4.2.2.1, q4.2.2.2)
    else
      (fX7_areFlightsAlike f_net v_gw v_gk).bind fun q7 =>
      if q7.1 = 0 then
        some (0, q7.2, q4.2.1, q4.2.2.1, q4.2.2.2)
      else
        (fX7_isPlaced v_gw v_gk).bind fun q10 =>
        if q10 = 0 then
          some (0, q7.2, q4.2.1, q4.2.2.1, q4.2.2.2)
        else
          some (1, q7.2, q4.2.1, q4.2.2.1, q4.2.2.2)
set_option maxHeartbeats 4000000 in
set_option maxRecDepth 100000 in
theorem kX7_isFair (l : Launch) (D : va_G) (T : Nat → ClassId) (a_g a_gw a_gk a_r a_rs a_rl a_ro a_f a_x a_b a_v a_h a_u a_t a_n : Nat) (f_net : Int32) (x_sav : Int32) (x_err : Int32) (x_rea : Int32) (x_det : Int32) (x_com : Int32) (v_gw : Nat → Int32) (v_gk : Nat → Int32) (v_rs : Nat → Int32) (v_rl : Nat → Int32) (v_ro : Nat → Int32) (sz : Nat) (r : Int32 × Int32 × (Nat → Int32) × (Nat → Int32) × (Nat → Int32)) (h : fX7_isFair f_net v_gw v_gk v_rs v_rl v_ro = some r) : WrI l yX7_isFair cX7_isFair 1 .boolean ({ frames := 6, cells := 0, slots := 0, locals := 138 } : Room) D T sz [(a_g, .inr (1, [.ref a_gw, .ref a_gk])), (a_r, .inr (4, [.ref a_g, .ref a_rs, .ref a_rl, .ref a_ro])), (a_f, .inr (0, [.ref a_g, .int f_net])), (a_x, .inr (7, [.ref a_g, .ref a_b, .ref a_v, .ref a_h, .ref a_r, .ref a_f, .ref a_u, .ref a_t, .ref a_n, .int x_sav, .int x_err, .int x_rea, .int x_det, .int x_com])), (a_gw, .inl (T 0, 90, .inl v_gw)), (a_gk, .inl (T 0, 18, .inl v_gk)), (a_rs, .inl (T 0, 45, .inl v_rs)), (a_rl, .inl (T 0, 45, .inl v_rl)), (a_ro, .inl (T 1, 45, .inl v_ro))] [(a_g, .inr (1, [.ref a_gw, .ref a_gk])), (a_r, .inr (4, [.ref a_g, .ref a_rs, .ref a_rl, .ref a_ro])), (a_f, .inr (0, [.ref a_g, .int r.2.1])), (a_x, .inr (7, [.ref a_g, .ref a_b, .ref a_v, .ref a_h, .ref a_r, .ref a_f, .ref a_u, .ref a_t, .ref a_n, .int x_sav, .int x_err, .int x_rea, .int x_det, .int x_com])), (a_gw, .inl (T 0, 90, .inl v_gw)), (a_gk, .inl (T 0, 18, .inl v_gk)), (a_rs, .inl (T 0, 45, .inl r.2.2.1)), (a_rl, .inl (T 0, 45, .inl r.2.2.2.1)), (a_ro, .inl (T 1, 45, .inl r.2.2.2.2))] [.ref a_x] r.1 := by
  unfold fX7_isFair at h
  refine wrMet (by decide +kernel) rfl (fun p e s m args below meth c Q A C hE hA hP hD hS hret ls hl => ?_)
  have hx := C.1
  have hb := C.2.1
  have hl : lv_has ls 1 [(0, .ref a_x)] := hl
  refine lv_aload_n hx hb dX7_isFair_0 rfl (lv_at hl 0 rfl) ?_
  replace h := bnd h; obtain ⟨q1, e2, h⟩ := h
  refine rdV C hE hP (kX7_areTidesAlike l D T a_g a_gw a_gk a_x a_b a_v a_h a_r a_f a_u a_t a_n x_sav x_err x_rea x_det x_com v_gk q1 e2) mX7_areTidesAlike qLX7_253 [0, 3, 5] 3 rfl rfl rfl rfl ⟨rfl, rfl⟩ ⟨Nat.le_of_ble_eq_true rfl, Nat.le_of_ble_eq_true rfl⟩ rfl hl.1 rfl (Nat.le_of_ble_eq_true rfl) dX7_isFair_1 ⟨Nat.le_of_ble_eq_true rfl, Nat.le_of_ble_eq_true rfl⟩ ?_
  refine lv_if_eq (tgt := 32) hx hb dX7_isFair_4 (by decide) (fun c3 => ?_) (fun c3 => ?_)
  · replace h := ite_t c3 h
    refine lv_iconst (v := 0) hx hb dX7_isFair_32 (by decide) ?_
    replace h := Option.some.inj h
    exact hret _ _ _ _ _ _ dX7_isFair_33 rfl (by rw [← h] <;> rfl) (by rw [← h]; exact hP) hS
  · replace h := ite_f c3 h
    refine lv_aload_n hx hb dX7_isFair_7 rfl (lv_at hl 0 rfl) ?_
    replace h := bnd h; obtain ⟨q4, e5, h⟩ := h
    refine wrVi (ws1 := [(a_g, .inr (1, [.ref a_gw, .ref a_gk])), (a_r, .inr (4, [.ref a_g, .ref a_rs, .ref a_rl, .ref a_ro])), (a_f, .inr (0, [.ref a_g, .int f_net])), (a_x, .inr (7, [.ref a_g, .ref a_b, .ref a_v, .ref a_h, .ref a_r, .ref a_f, .ref a_u, .ref a_t, .ref a_n, .int x_sav, .int x_err, .int x_rea, .int x_det, .int x_com])), (a_gw, .inl (T 0, 90, .inl v_gw)), (a_gk, .inl (T 0, 18, .inl v_gk)), (a_rs, .inl (T 0, 45, .inl q4.2.1)), (a_rl, .inl (T 0, 45, .inl q4.2.2.1)), (a_ro, .inl (T 1, 45, .inl q4.2.2.2))]) C hE hP hD hS hA (kX7_areStepsAlike l D T a_g a_gw a_gk a_r a_rs a_rl a_ro a_x a_b a_v a_h a_f a_u a_t a_n x_sav x_err x_rea x_det x_com v_gw v_gk v_rs v_rl v_ro _ q4 e5) mX7_areStepsAlike qLX7_256 [0, 1, 3, 4, 5, 6, 7, 8] [2] 3 rfl rfl rfl rfl rfl rfl rfl rfl rfl ⟨rfl, rfl⟩ ⟨Nat.le_of_ble_eq_true rfl, Nat.le_of_ble_eq_true rfl⟩ rfl hl.1 rfl (Nat.le_of_ble_eq_true rfl) dX7_isFair_8 ⟨Nat.le_of_ble_eq_true rfl, Nat.le_of_ble_eq_true rfl⟩ ?_; clear hP hD hS; intro H locs hP hD hS
    refine lv_if_eq (tgt := 32) hx hb dX7_isFair_11 (by decide) (fun c6 => ?_) (fun c6 => ?_)
    · replace h := ite_t c6 h
      refine lv_iconst (v := 0) hx hb dX7_isFair_32 (by decide) ?_
      replace h := Option.some.inj h
      exact hret _ _ _ _ _ _ dX7_isFair_33 rfl (by rw [← h] <;> rfl) (by rw [← h]; exact hP) hS
    · replace h := ite_f c6 h
      refine lv_aload_n hx hb dX7_isFair_14 rfl (lv_at hl 0 rfl) ?_
      replace h := bnd h; obtain ⟨q7, e8, h⟩ := h
      refine wrVi (ws1 := [(a_g, .inr (1, [.ref a_gw, .ref a_gk])), (a_r, .inr (4, [.ref a_g, .ref a_rs, .ref a_rl, .ref a_ro])), (a_f, .inr (0, [.ref a_g, .int q7.2])), (a_x, .inr (7, [.ref a_g, .ref a_b, .ref a_v, .ref a_h, .ref a_r, .ref a_f, .ref a_u, .ref a_t, .ref a_n, .int x_sav, .int x_err, .int x_rea, .int x_det, .int x_com])), (a_gw, .inl (T 0, 90, .inl v_gw)), (a_gk, .inl (T 0, 18, .inl v_gk)), (a_rs, .inl (T 0, 45, .inl q4.2.1)), (a_rl, .inl (T 0, 45, .inl q4.2.2.1)), (a_ro, .inl (T 1, 45, .inl q4.2.2.2))]) C hE hP hD hS hA (kX7_areFlightsAlike l D T a_g a_gw a_gk a_f a_x a_b a_v a_h a_r a_u a_t a_n f_net x_sav x_err x_rea x_det x_com v_gw v_gk _ q7 e8) mX7_areFlightsAlike qLX7_259 [0, 2, 3, 4, 5] [1, 6, 7, 8] 3 rfl rfl rfl rfl rfl rfl rfl rfl rfl ⟨rfl, rfl⟩ ⟨Nat.le_of_ble_eq_true rfl, Nat.le_of_ble_eq_true rfl⟩ rfl hl.1 rfl (Nat.le_of_ble_eq_true rfl) dX7_isFair_15 ⟨Nat.le_of_ble_eq_true rfl, Nat.le_of_ble_eq_true rfl⟩ ?_; clear hP hD hS; intro H locs hP hD hS
      refine lv_if_eq (tgt := 32) hx hb dX7_isFair_18 (by decide) (fun c9 => ?_) (fun c9 => ?_)
      · replace h := ite_t c9 h
        refine lv_iconst (v := 0) hx hb dX7_isFair_32 (by decide) ?_
        replace h := Option.some.inj h
        exact hret _ _ _ _ _ _ dX7_isFair_33 rfl (by rw [← h] <;> rfl) (by rw [← h]; exact hP) hS
      · replace h := ite_f c9 h
        refine lv_aload_n hx hb dX7_isFair_21 rfl (lv_at hl 0 rfl) ?_
        replace h := bnd h; obtain ⟨q10, e11, h⟩ := h
        refine rdV C hE hP (kX7_isPlaced l D T a_g a_gw a_gk a_x a_b a_v a_h a_r a_f a_u a_t a_n x_sav x_err x_rea x_det x_com v_gw v_gk q10 e11) mX7_isPlaced qLX7_262 [0, 3, 4, 5] 3 rfl rfl rfl rfl ⟨rfl, rfl⟩ ⟨Nat.le_of_ble_eq_true rfl, Nat.le_of_ble_eq_true rfl⟩ rfl hl.1 rfl (Nat.le_of_ble_eq_true rfl) dX7_isFair_22 ⟨Nat.le_of_ble_eq_true rfl, Nat.le_of_ble_eq_true rfl⟩ ?_
        refine lv_if_eq (tgt := 32) hx hb dX7_isFair_25 (by decide) (fun c12 => ?_) (fun c12 => ?_)
        · replace h := ite_t c12 h
          refine lv_iconst (v := 0) hx hb dX7_isFair_32 (by decide) ?_
          replace h := Option.some.inj h
          exact hret _ _ _ _ _ _ dX7_isFair_33 rfl (by rw [← h] <;> rfl) (by rw [← h]; exact hP) hS
        · replace h := ite_f c12 h
          refine lv_iconst (v := 1) hx hb dX7_isFair_28 (by decide) ?_
          refine lv_goto (tgt := 33) hx hb dX7_isFair_29 (by decide) ?_
          replace h := Option.some.inj h
          exact hret _ _ _ _ _ _ dX7_isFair_33 rfl (by rw [← h] <;> rfl) (by rw [← h]; exact hP) hS

def fX3_clear (n_len : Int32) : Option Int32 :=
  some 0
set_option maxHeartbeats 4000000 in
set_option maxRecDepth 100000 in
theorem kX3_clear (l : Launch) (D : va_G) (T : Nat → ClassId) (a_n a_ns : Nat) (n_len : Int32) (sz : Nat) (r : Int32) (h : fX3_clear n_len = some r) : WrV l yX3_clear cX3_clear 1 ({ frames := 0, cells := 0, slots := 0, locals := 0 } : Room) D T sz [(a_n, .inr (3, [.ref a_ns, .int n_len]))] [(a_n, .inr (3, [.ref a_ns, .int r]))] [.ref a_n] := by
  unfold fX3_clear at h
  refine wrMetV (by decide +kernel) rfl (fun p e s m args below meth c Q A C hE hA hP hD hS hret ls hl => ?_)
  have hx := C.1
  have hb := C.2.1
  have hl : lv_has ls 1 [(0, .ref a_n)] := hl
  refine lv_aload_n hx hb dX3_clear_0 rfl (lv_at hl 0 rfl) ?_
  refine lv_iconst (v := 0) hx hb dX3_clear_1 (by decide) ?_
  refine putF (q0 := 0) (k0 := 1) (ws1 := [(a_n, .inr (3, [.ref a_ns, .int 0]))]) C hE hP hD hS inA3 tyX3_ok nmX3 rfl rfl (by decide) qFX3_15 rfl rfl rfl rfl (Nat.le_of_ble_eq_true rfl) rfl dX3_clear_2 ?_; clear hP hD hS; intro H locs hP hD hS
  replace h := Option.some.inj h
  exact hret _ _ _ _ dX3_clear_5 (by rw [← h]; exact hP) hS

def fX3_length (n_len : Int32) : Int32 :=
  n_len
set_option maxHeartbeats 4000000 in
set_option maxRecDepth 100000 in
theorem kX3_length (l : Launch) (D : va_G) (T : Nat → ClassId) (a_n a_ns : Nat) (n_len : Int32) : RdI l yX3_length cX3_length 1 .int ({ frames := 0, cells := 0, slots := 0, locals := 0 } : Room) D T [(a_n, .inr (3, [.ref a_ns, .int n_len]))] [.ref a_n] (fX3_length n_len) := by
  obtain ⟨r, h⟩ : ∃ r, fX3_length n_len = r := ⟨_, rfl⟩
  rw [h]
  unfold fX3_length at h
  refine rdMet (by decide +kernel) rfl (fun p e s m args below meth c Q C hE hP hret ls hl => ?_)
  have hx := C.1
  have hb := C.2.1
  have hl : lv_has ls 1 [(0, .ref a_n)] := hl
  refine lv_aload_n hx hb dX3_length_0 rfl (lv_at hl 0 rfl) ?_
  refine getF (q0 := 0) (k0 := 1) (v := .int n_len) C hE hP inA3 rfl rfl (by decide) qFX3_15 rfl rfl dX3_length_1 ?_
  exact hret _ _ _ _ dX3_length_4 rfl h

def fX3_add (n_len : Int32) (v_ns : Nat → Int32) (p0 : Int32) : Option (Int32 × (Nat → Int32)) :=
  if n_len < 0 then
    some (n_len, v_ns)
  else
    if 32 ≤ n_len then
      some (n_len, v_ns)
    else
      if vin n_len 32 = true then
      some ((n_len + 1), (upd v_ns n_len.toNatClampNeg p0.toUInt32.toUInt16.toUInt32.toInt32))
      else none
set_option maxHeartbeats 4000000 in
set_option maxRecDepth 100000 in
theorem kX3_add (l : Launch) (D : va_G) (T : Nat → ClassId) (a_n a_ns : Nat) (n_len : Int32) (v_ns : Nat → Int32) (p0 : Int32) (sz : Nat) (r : Int32 × (Nat → Int32)) (h : fX3_add n_len v_ns p0 = some r) : WrV l yX3_add cX3_add 2 ({ frames := 0, cells := 0, slots := 0, locals := 0 } : Room) D T sz [(a_n, .inr (3, [.ref a_ns, .int n_len])), (a_ns, .inl (T 2, 32, .inl v_ns))] [(a_n, .inr (3, [.ref a_ns, .int r.1])), (a_ns, .inl (T 2, 32, .inl r.2))] [.ref a_n, .int p0] := by
  unfold fX3_add at h
  refine wrMetV (by decide +kernel) rfl (fun p e s m args below meth c Q A C hE hA hP hD hS hret ls hl => ?_)
  have hx := C.1
  have hb := C.2.1
  have hl : lv_has ls 2 [(0, .ref a_n), (1, .int p0)] := hl
  refine lv_aload_n hx hb dX3_add_0 rfl (lv_at hl 0 rfl) ?_
  refine getF (q0 := 0) (k0 := 1) (v := .int n_len) C hE hP inA3 rfl rfl (by decide) qFX3_15 rfl rfl dX3_add_1 ?_
  refine lv_if_lt (tgt := 39) hx hb dX3_add_4 (by decide) (fun c1 => ?_) (fun c1 => ?_)
  · replace h := ite_t c1 h
    replace h := Option.some.inj h
    exact hret _ _ _ _ dX3_add_39 (by rw [← h]; exact hP) hS
  · replace h := ite_f c1 h
    refine lv_aload_n hx hb dX3_add_7 rfl (lv_at hl 0 rfl) ?_
    refine getF (q0 := 0) (k0 := 1) (v := .int n_len) C hE hP inA3 rfl rfl (by decide) qFX3_15 rfl rfl dX3_add_8 ?_
    refine lv_aload_n hx hb dX3_add_11 rfl (lv_at hl 0 rfl) ?_
    refine getF (q0 := 0) (k0 := 0) (v := .ref a_ns) C hE hP inA3 rfl rfl (by decide) qFX3_9 rfl rfl dX3_add_12 ?_
    refine alen (q0 := 1) (t0 := 2) (v := 32) C hE hP rfl rfl (by decide) dX3_add_15 ?_
    refine lv_icmp_ge (tgt := 39) hx hb dX3_add_16 (by decide) (fun c2 => ?_) (fun c2 => ?_)
    · replace h := ite_t c2 h
      replace h := Option.some.inj h
      exact hret _ _ _ _ dX3_add_39 (by rw [← h]; exact hP) hS
    · replace h := ite_f c2 h
      refine lv_aload_n hx hb dX3_add_19 rfl (lv_at hl 0 rfl) ?_
      refine getF (q0 := 0) (k0 := 0) (v := .ref a_ns) C hE hP inA3 rfl rfl (by decide) qFX3_9 rfl rfl dX3_add_20 ?_
      refine lv_aload_n hx hb dX3_add_23 rfl (lv_at hl 0 rfl) ?_
      refine getF (q0 := 0) (k0 := 1) (v := .int n_len) C hE hP inA3 rfl rfl (by decide) qFX3_15 rfl rfl dX3_add_24 ?_
      refine lv_iload_n hx hb dX3_add_27 rfl (lv_at hl 1 rfl) ?_
      replace h := gd h; obtain ⟨g3, h⟩ := h
      refine astC (q0 := 1) (ws1 := [(a_n, .inr (3, [.ref a_ns, .int n_len])), (a_ns, .inl (T 2, 32, .inl (upd v_ns n_len.toNatClampNeg p0.toUInt32.toUInt16.toUInt32.toInt32)))]) C hE hP hD hS rfl g3 rfl dX3_add_28 ?_; clear hP hD hS; intro H locs hP hD hS
      refine lv_aload_n hx hb dX3_add_29 rfl (lv_at hl 0 rfl) ?_
      refine lv_dup hx hb dX3_add_30 rfl ?_
      refine getF (q0 := 0) (k0 := 1) (v := .int n_len) C hE hP inA3 rfl rfl (by decide) qFX3_15 rfl rfl dX3_add_31 ?_
      refine lv_iconst (v := 1) hx hb dX3_add_34 (by decide) ?_
      refine lv_iadd hx hb dX3_add_35 ?_
      refine putF (q0 := 0) (k0 := 1) (ws1 := [(a_n, .inr (3, [.ref a_ns, .int (n_len + 1)])), (a_ns, .inl (T 2, 32, .inl (upd v_ns n_len.toNatClampNeg p0.toUInt32.toUInt16.toUInt32.toInt32)))]) C hE hP hD hS inA3 tyX3_ok nmX3 rfl rfl (by decide) qFX3_15 rfl rfl rfl rfl (Nat.le_of_ble_eq_true rfl) rfl dX3_add_36 ?_; clear hP hD hS; intro H locs hP hD hS
      replace h := Option.some.inj h
      exact hret _ _ _ _ dX3_add_39 (by rw [← h]; exact hP) hS

def fX3_addNumber_18 (l1 : Int32) (n_len : Int32) (v_ns : Nat → Int32) : Option (Int32 × (Nat → Int32)) :=
  (fX3_add n_len v_ns ((((48 + (l1 - l1 / 10 * 10))).toUInt32 % 65536).toInt32)).bind fun q4 =>
  some (q4.1, q4.2)
def fX3_addNumber (n_len : Int32) (v_ns : Nat → Int32) (p0 : Int32) : Option (Int32 × (Nat → Int32)) :=
  if p0 < 10 then
    fX3_addNumber_18 p0 n_len v_ns
  else
    (fX3_add n_len v_ns ((((48 + (p0 / 10))).toUInt32 % 65536).toInt32)).bind fun q2 =>
    fX3_addNumber_18 p0 q2.1 q2.2
set_option maxHeartbeats 4000000 in
set_option maxRecDepth 100000 in
theorem lX3_addNumber_18 {p : Program} {l : Launch} {e : Env} {s : State} {m : MethodId} {args : Array Value} {below : List Frame} {meth : Method} {c : Code} {Q : State → Prop} {D : va_G} {T : Nat → ClassId} {a_n a_ns : Nat} {A : Nat → Prop} {r : Int32 × (Nat → Int32)} (C : CallFix p m c cX3_addNumber 2 s args aw RX3) (hE : eK D T s) (hA : ∀ q : Nat, s.heap.size ≤ q → A q) (hret : WrRetV p l e ({ frames := 1, cells := 0, slots := 0, locals := 21 } : Room) s m args below meth c Q cX3_addNumber D A [(a_n, .inr (3, [.ref a_ns, .int r.1])), (a_ns, .inl (T 2, 32, .inl r.2))]) (l1 : Int32) (n_len : Int32) (v_ns : Nat → Int32) {H : Heap} {locs : List Loc} (hPD : va_PD D A [(a_n, .inr (3, [.ref a_ns, .int n_len])), (a_ns, .inl (T 2, 32, .inl v_ns))] H) (hS : va_S A s.heap H locs) (ls : Array Slot) (hl : lv_has ls 2 [(0, .ref a_n), (1, .int l1)]) (h : fX3_addNumber_18 l1 n_len v_ns = some r) : W p l e ({ frames := 1, cells := 0, slots := 0, locals := 21 } : Room) s m args below meth c H locs 0 0 Q (F0 m 18 ls []) := by
  have hx := C.1
  have hb := C.2.1
  obtain ⟨hP, hD⟩ := hPD
  unfold fX3_addNumber_18 at h
  refine lv_aload_n hx hb dX3_addNumber_18 rfl (lv_at hl 0 rfl) ?_
  refine lv_bipush (v := 48) hx hb dX3_addNumber_19 (by decide) ?_
  refine lv_iload_n hx hb dX3_addNumber_21 rfl (lv_at hl 1 rfl) ?_
  refine lv_bipush (v := 10) hx hb dX3_addNumber_22 (by decide) ?_
  refine lv_irem hx hb dX3_addNumber_24 (by decide) ?_
  refine lv_iadd hx hb dX3_addNumber_25 ?_
  refine lv_i2c hx hb dX3_addNumber_26 rfl ?_
  replace h := bnd h; obtain ⟨q4, e5, h⟩ := h
  refine wrVv (ws1 := [(a_n, .inr (3, [.ref a_ns, .int q4.1])), (a_ns, .inl (T 2, 32, .inl q4.2))]) C hE hP hD hS hA (kX3_add l D T a_n a_ns n_len v_ns ((((48 + (l1 - l1 / 10 * 10))).toUInt32 % 65536).toInt32) _ q4 e5) mX3_add qLX3_19 [0, 1] [] 0 rfl rfl rfl rfl rfl rfl rfl rfl rfl ⟨rfl, rfl⟩ ⟨Nat.le_of_ble_eq_true rfl, Nat.le_of_ble_eq_true rfl⟩ rfl hl.1 rfl (Nat.le_of_ble_eq_true rfl) dX3_addNumber_27 ⟨Nat.le_of_ble_eq_true rfl, Nat.le_of_ble_eq_true rfl⟩ ?_; clear hP hD hS; intro H locs hP hD hS
  replace h := Option.some.inj h
  exact hret _ _ _ _ dX3_addNumber_30 (by rw [← h]; exact hP) hS
set_option maxHeartbeats 4000000 in
set_option maxRecDepth 100000 in
theorem kX3_addNumber (l : Launch) (D : va_G) (T : Nat → ClassId) (a_n a_ns : Nat) (n_len : Int32) (v_ns : Nat → Int32) (p0 : Int32) (sz : Nat) (r : Int32 × (Nat → Int32)) (h : fX3_addNumber n_len v_ns p0 = some r) : WrV l yX3_addNumber cX3_addNumber 2 ({ frames := 1, cells := 0, slots := 0, locals := 21 } : Room) D T sz [(a_n, .inr (3, [.ref a_ns, .int n_len])), (a_ns, .inl (T 2, 32, .inl v_ns))] [(a_n, .inr (3, [.ref a_ns, .int r.1])), (a_ns, .inl (T 2, 32, .inl r.2))] [.ref a_n, .int p0] := by
  unfold fX3_addNumber at h
  refine wrMetV (by decide +kernel) rfl (fun p e s m args below meth c Q A C hE hA hP hD hS hret ls hl => ?_)
  have hx := C.1
  have hb := C.2.1
  have hl : lv_has ls 2 [(0, .ref a_n), (1, .int p0)] := hl
  refine lv_iload_n hx hb dX3_addNumber_0 rfl (lv_at hl 1 rfl) ?_
  refine lv_bipush (v := 10) hx hb dX3_addNumber_1 (by decide) ?_
  refine lv_icmp_lt (tgt := 18) hx hb dX3_addNumber_3 (by decide) (fun c1 => ?_) (fun c1 => ?_)
  · replace h := ite_t c1 h
    exact lX3_addNumber_18 C hE hA hret p0 n_len v_ns ⟨hP, hD⟩ hS _ (lv_sub hl [0, 1] rfl) h
  · replace h := ite_f c1 h
    refine lv_aload_n hx hb dX3_addNumber_6 rfl (lv_at hl 0 rfl) ?_
    refine lv_bipush (v := 48) hx hb dX3_addNumber_7 (by decide) ?_
    refine lv_iload_n hx hb dX3_addNumber_9 rfl (lv_at hl 1 rfl) ?_
    refine lv_bipush (v := 10) hx hb dX3_addNumber_10 (by decide) ?_
    refine lv_idiv hx hb dX3_addNumber_12 (by decide) ?_
    refine lv_iadd hx hb dX3_addNumber_13 ?_
    refine lv_i2c hx hb dX3_addNumber_14 rfl ?_
    replace h := bnd h; obtain ⟨q2, e3, h⟩ := h
    refine wrVv (ws1 := [(a_n, .inr (3, [.ref a_ns, .int q2.1])), (a_ns, .inl (T 2, 32, .inl q2.2))]) C hE hP hD hS hA (kX3_add l D T a_n a_ns n_len v_ns ((((48 + (p0 / 10))).toUInt32 % 65536).toInt32) _ q2 e3) mX3_add qLX3_19 [0, 1] [] 0 rfl rfl rfl rfl rfl rfl rfl rfl rfl ⟨rfl, rfl⟩ ⟨Nat.le_of_ble_eq_true rfl, Nat.le_of_ble_eq_true rfl⟩ rfl hl.1 rfl (Nat.le_of_ble_eq_true rfl) dX3_addNumber_15 ⟨Nat.le_of_ble_eq_true rfl, Nat.le_of_ble_eq_true rfl⟩ ?_; clear hP hD hS; intro H locs hP hD hS
    exact lX3_addNumber_18 C hE hA hret p0 q2.1 q2.2 ⟨hP, hD⟩ hS _ (lv_sub hl [0, 1] rfl) h

def fX7_writeCell_71 (v_gw : Nat → Int32) (v_gk : Nat → Int32) (x1 : Int32) (n_len : Int32) (v_ns : Nat → Int32) : Option (Int32 × (Nat → Int32)) :=
  (fX3_add n_len v_ns x1).bind fun q14 =>
  some (q14.1, q14.2)
def fX7_writeCell (n_len : Int32) (v_gw : Nat → Int32) (v_gk : Nat → Int32) (v_ns : Nat → Int32) (p0 : Int32) : Option (Int32 × (Nat → Int32)) :=
  (fX1_whaleOn v_gw v_gk p0).bind fun q1 =>
  if q1 = (-1) then
    (fX1_count v_gk 5).bind fun q4 =>
    if p0 = q4 then
      (fX3_add n_len v_ns 111).bind fun q10 =>
      some (q10.1, q10.2)
    else
      (fX1_isDryNow v_gk p0).bind fun q7 =>
      fX7_writeCell_71 v_gw v_gk (if q7 = 0 then 46 else 95) n_len v_ns
  else
    (fX3_addNumber n_len v_ns q1).bind fun q12 =>
    some (q12.1, q12.2)
set_option maxHeartbeats 4000000 in
set_option maxRecDepth 100000 in
theorem lX7_writeCell_71 {p : Program} {l : Launch} {e : Env} {s : State} {m : MethodId} {args : Array Value} {below : List Frame} {meth : Method} {c : Code} {Q : State → Prop} {D : va_G} {T : Nat → ClassId} {a_g a_gw a_gk a_n a_ns a_x a_b a_v a_h a_r a_f a_u a_t : Nat} {x_sav : Int32} {x_err : Int32} {x_rea : Int32} {x_det : Int32} {x_com : Int32} {v_gw : Nat → Int32} {v_gk : Nat → Int32} {A : Nat → Prop} {r : Int32 × (Nat → Int32)} (C : CallFix p m c cX7_writeCell 3 s args aw RX7) (hE : eK D T s) (hA : ∀ q : Nat, s.heap.size ≤ q → A q) (hret : WrRetV p l e ({ frames := 2, cells := 0, slots := 0, locals := 45 } : Room) s m args below meth c Q cX7_writeCell D A [(a_g, .inr (1, [.ref a_gw, .ref a_gk])), (a_n, .inr (3, [.ref a_ns, .int r.1])), (a_x, .inr (7, [.ref a_g, .ref a_b, .ref a_v, .ref a_h, .ref a_r, .ref a_f, .ref a_u, .ref a_t, .ref a_n, .int x_sav, .int x_err, .int x_rea, .int x_det, .int x_com])), (a_gw, .inl (T 0, 90, .inl v_gw)), (a_gk, .inl (T 0, 18, .inl v_gk)), (a_ns, .inl (T 2, 32, .inl r.2))]) (x1 : Int32) (n_len : Int32) (v_ns : Nat → Int32) {H : Heap} {locs : List Loc} (hPD : va_PD D A [(a_g, .inr (1, [.ref a_gw, .ref a_gk])), (a_n, .inr (3, [.ref a_ns, .int n_len])), (a_x, .inr (7, [.ref a_g, .ref a_b, .ref a_v, .ref a_h, .ref a_r, .ref a_f, .ref a_u, .ref a_t, .ref a_n, .int x_sav, .int x_err, .int x_rea, .int x_det, .int x_com])), (a_gw, .inl (T 0, 90, .inl v_gw)), (a_gk, .inl (T 0, 18, .inl v_gk)), (a_ns, .inl (T 2, 32, .inl v_ns))] H) (hS : va_S A s.heap H locs) (ls : Array Slot) (hl : lv_has ls 3 []) (h : fX7_writeCell_71 v_gw v_gk x1 n_len v_ns = some r) : W p l e ({ frames := 2, cells := 0, slots := 0, locals := 45 } : Room) s m args below meth c H locs 0 0 Q (F0 m 71 ls [.int x1, .ref a_n]) := by
  have hx := C.1
  have hb := C.2.1
  obtain ⟨hP, hD⟩ := hPD
  unfold fX7_writeCell_71 at h
  replace h := bnd h; obtain ⟨q14, e15, h⟩ := h
  refine wrVv (ws1 := [(a_g, .inr (1, [.ref a_gw, .ref a_gk])), (a_n, .inr (3, [.ref a_ns, .int q14.1])), (a_x, .inr (7, [.ref a_g, .ref a_b, .ref a_v, .ref a_h, .ref a_r, .ref a_f, .ref a_u, .ref a_t, .ref a_n, .int x_sav, .int x_err, .int x_rea, .int x_det, .int x_com])), (a_gw, .inl (T 0, 90, .inl v_gw)), (a_gk, .inl (T 0, 18, .inl v_gk)), (a_ns, .inl (T 2, 32, .inl q14.2))]) C hE hP hD hS hA (kX3_add l D T a_n a_ns n_len v_ns x1 _ q14 e15) mX3_add qLX7_286 [1, 5] [0, 2, 3, 4] 1 rfl rfl rfl rfl rfl rfl rfl rfl rfl ⟨rfl, rfl⟩ ⟨Nat.le_of_ble_eq_true rfl, Nat.le_of_ble_eq_true rfl⟩ rfl hl.1 rfl (Nat.le_of_ble_eq_true rfl) dX7_writeCell_71 ⟨Nat.le_of_ble_eq_true rfl, Nat.le_of_ble_eq_true rfl⟩ ?_; clear hP hD hS; intro H locs hP hD hS
  replace h := Option.some.inj h
  exact hret _ _ _ _ dX7_writeCell_74 (by rw [← h]; exact hP) hS
set_option maxHeartbeats 4000000 in
set_option maxRecDepth 100000 in
theorem kX7_writeCell (l : Launch) (D : va_G) (T : Nat → ClassId) (a_g a_gw a_gk a_n a_ns a_x a_b a_v a_h a_r a_f a_u a_t : Nat) (n_len : Int32) (x_sav : Int32) (x_err : Int32) (x_rea : Int32) (x_det : Int32) (x_com : Int32) (v_gw : Nat → Int32) (v_gk : Nat → Int32) (v_ns : Nat → Int32) (p0 : Int32) (sz : Nat) (r : Int32 × (Nat → Int32)) (h : fX7_writeCell n_len v_gw v_gk v_ns p0 = some r) : WrV l yX7_writeCell cX7_writeCell 3 ({ frames := 2, cells := 0, slots := 0, locals := 45 } : Room) D T sz [(a_g, .inr (1, [.ref a_gw, .ref a_gk])), (a_n, .inr (3, [.ref a_ns, .int n_len])), (a_x, .inr (7, [.ref a_g, .ref a_b, .ref a_v, .ref a_h, .ref a_r, .ref a_f, .ref a_u, .ref a_t, .ref a_n, .int x_sav, .int x_err, .int x_rea, .int x_det, .int x_com])), (a_gw, .inl (T 0, 90, .inl v_gw)), (a_gk, .inl (T 0, 18, .inl v_gk)), (a_ns, .inl (T 2, 32, .inl v_ns))] [(a_g, .inr (1, [.ref a_gw, .ref a_gk])), (a_n, .inr (3, [.ref a_ns, .int r.1])), (a_x, .inr (7, [.ref a_g, .ref a_b, .ref a_v, .ref a_h, .ref a_r, .ref a_f, .ref a_u, .ref a_t, .ref a_n, .int x_sav, .int x_err, .int x_rea, .int x_det, .int x_com])), (a_gw, .inl (T 0, 90, .inl v_gw)), (a_gk, .inl (T 0, 18, .inl v_gk)), (a_ns, .inl (T 2, 32, .inl r.2))] [.ref a_x, .int p0] := by
  unfold fX7_writeCell at h
  refine wrMetV (by decide +kernel) rfl (fun p e s m args below meth c Q A C hE hA hP hD hS hret ls hl => ?_)
  have hx := C.1
  have hb := C.2.1
  have hl : lv_has ls 3 [(0, .ref a_x), (1, .int p0)] := hl
  refine lv_aload_n hx hb dX7_writeCell_0 rfl (lv_at hl 0 rfl) ?_
  refine getF (q0 := 2) (k0 := 0) (v := .ref a_g) C hE hP inA7 rfl rfl (by decide) qFX7_10 rfl rfl dX7_writeCell_1 ?_
  refine lv_iload_n hx hb dX7_writeCell_4 rfl (lv_at hl 1 rfl) ?_
  replace h := bnd h; obtain ⟨q1, e2, h⟩ := h
  refine rdV C hE hP (kX1_whaleOn l D T a_g a_gw a_gk v_gw v_gk p0 q1 e2) mX1_whaleOn qLX7_154 [0, 3, 4] 0 rfl rfl rfl rfl ⟨rfl, rfl⟩ ⟨Nat.le_of_ble_eq_true rfl, Nat.le_of_ble_eq_true rfl⟩ rfl hl.1 rfl (Nat.le_of_ble_eq_true rfl) dX7_writeCell_5 ⟨Nat.le_of_ble_eq_true rfl, Nat.le_of_ble_eq_true rfl⟩ ?_
  refine lv_istore_n (lv' := [(2, .int q1), (0, .ref a_x), (1, .int p0)]) hx hb dX7_writeCell_8 rfl hl (by decide) rfl (fun ls hl => ?_)
  refine lv_iload_n hx hb dX7_writeCell_9 rfl (lv_at hl 0 rfl) ?_
  refine lv_iconst (v := (-1)) hx hb dX7_writeCell_10 (by decide) ?_
  refine lv_icmp_eq (tgt := 25) hx hb dX7_writeCell_11 (by decide) (fun c3 => ?_) (fun c3 => ?_)
  · replace h := ite_t c3 h
    refine lv_iload_n hx hb dX7_writeCell_25 rfl (lv_at hl 2 rfl) ?_
    refine lv_aload_n hx hb dX7_writeCell_26 rfl (lv_at hl 1 rfl) ?_
    refine getF (q0 := 2) (k0 := 0) (v := .ref a_g) C hE hP inA7 rfl rfl (by decide) qFX7_10 rfl rfl dX7_writeCell_27 ?_
    refine lv_iconst (v := 5) hx hb dX7_writeCell_30 (by decide) ?_
    replace h := bnd h; obtain ⟨q4, e5, h⟩ := h
    refine rdV C hE hP (kX1_count l D T a_g a_gw a_gk v_gk 5 q4 e5) mX1_count qLX7_235 [0, 4] 0 rfl rfl rfl rfl ⟨rfl, rfl⟩ ⟨Nat.le_of_ble_eq_true rfl, Nat.le_of_ble_eq_true rfl⟩ rfl hl.1 rfl (Nat.le_of_ble_eq_true rfl) dX7_writeCell_31 ⟨Nat.le_of_ble_eq_true rfl, Nat.le_of_ble_eq_true rfl⟩ ?_
    refine lv_icmp_ne (tgt := 49) hx hb dX7_writeCell_34 (by decide) (fun c6 => ?_) (fun c6 => ?_)
    · replace h := ite_f c6 h
      refine lv_aload_n hx hb dX7_writeCell_49 rfl (lv_at hl 1 rfl) ?_
      refine getF (q0 := 2) (k0 := 8) (v := .ref a_n) C hE hP inA7 rfl rfl (by decide) qFX7_64 rfl rfl dX7_writeCell_50 ?_
      refine lv_aload_n hx hb dX7_writeCell_53 rfl (lv_at hl 1 rfl) ?_
      refine getF (q0 := 2) (k0 := 0) (v := .ref a_g) C hE hP inA7 rfl rfl (by decide) qFX7_10 rfl rfl dX7_writeCell_54 ?_
      refine lv_iload_n hx hb dX7_writeCell_57 rfl (lv_at hl 2 rfl) ?_
      replace h := bnd h; obtain ⟨q7, e8, h⟩ := h
      refine rdV C hE hP (kX1_isDryNow l D T a_g a_gw a_gk v_gk p0 q7 e8) mX1_isDryNow qLX7_157 [0, 4] 0 rfl rfl rfl rfl ⟨rfl, rfl⟩ ⟨Nat.le_of_ble_eq_true rfl, Nat.le_of_ble_eq_true rfl⟩ rfl hl.1 rfl (Nat.le_of_ble_eq_true rfl) dX7_writeCell_58 ⟨Nat.le_of_ble_eq_true rfl, Nat.le_of_ble_eq_true rfl⟩ ?_
      refine lv_if_eq (tgt := 69) hx hb dX7_writeCell_61 (by decide) (fun c9 => ?_) (fun c9 => ?_)
      · rw [if_pos c9] at h
        refine lv_bipush (v := 46) hx hb dX7_writeCell_69 (by decide) ?_
        exact lX7_writeCell_71 C hE hA hret 46 n_len v_ns ⟨hP, hD⟩ hS _ (lv_sub hl [] rfl) h
      · rw [if_neg c9] at h
        refine lv_bipush (v := 95) hx hb dX7_writeCell_64 (by decide) ?_
        refine lv_goto (tgt := 71) hx hb dX7_writeCell_66 (by decide) ?_
        exact lX7_writeCell_71 C hE hA hret 95 n_len v_ns ⟨hP, hD⟩ hS _ (lv_sub hl [] rfl) h
    · replace h := ite_t c6 h
      refine lv_aload_n hx hb dX7_writeCell_37 rfl (lv_at hl 1 rfl) ?_
      refine getF (q0 := 2) (k0 := 8) (v := .ref a_n) C hE hP inA7 rfl rfl (by decide) qFX7_64 rfl rfl dX7_writeCell_38 ?_
      refine lv_bipush (v := 111) hx hb dX7_writeCell_41 (by decide) ?_
      replace h := bnd h; obtain ⟨q10, e11, h⟩ := h
      refine wrVv (ws1 := [(a_g, .inr (1, [.ref a_gw, .ref a_gk])), (a_n, .inr (3, [.ref a_ns, .int q10.1])), (a_x, .inr (7, [.ref a_g, .ref a_b, .ref a_v, .ref a_h, .ref a_r, .ref a_f, .ref a_u, .ref a_t, .ref a_n, .int x_sav, .int x_err, .int x_rea, .int x_det, .int x_com])), (a_gw, .inl (T 0, 90, .inl v_gw)), (a_gk, .inl (T 0, 18, .inl v_gk)), (a_ns, .inl (T 2, 32, .inl q10.2))]) C hE hP hD hS hA (kX3_add l D T a_n a_ns n_len v_ns 111 _ q10 e11) mX3_add qLX7_286 [1, 5] [0, 2, 3, 4] 1 rfl rfl rfl rfl rfl rfl rfl rfl rfl ⟨rfl, rfl⟩ ⟨Nat.le_of_ble_eq_true rfl, Nat.le_of_ble_eq_true rfl⟩ rfl hl.1 rfl (Nat.le_of_ble_eq_true rfl) dX7_writeCell_43 ⟨Nat.le_of_ble_eq_true rfl, Nat.le_of_ble_eq_true rfl⟩ ?_; clear hP hD hS; intro H locs hP hD hS
      refine lv_goto (tgt := 74) hx hb dX7_writeCell_46 (by decide) ?_
      replace h := Option.some.inj h
      exact hret _ _ _ _ dX7_writeCell_74 (by rw [← h]; exact hP) hS
  · replace h := ite_f c3 h
    refine lv_aload_n hx hb dX7_writeCell_14 rfl (lv_at hl 1 rfl) ?_
    refine getF (q0 := 2) (k0 := 8) (v := .ref a_n) C hE hP inA7 rfl rfl (by decide) qFX7_64 rfl rfl dX7_writeCell_15 ?_
    refine lv_iload_n hx hb dX7_writeCell_18 rfl (lv_at hl 0 rfl) ?_
    replace h := bnd h; obtain ⟨q12, e13, h⟩ := h
    refine wrVv (ws1 := [(a_g, .inr (1, [.ref a_gw, .ref a_gk])), (a_n, .inr (3, [.ref a_ns, .int q12.1])), (a_x, .inr (7, [.ref a_g, .ref a_b, .ref a_v, .ref a_h, .ref a_r, .ref a_f, .ref a_u, .ref a_t, .ref a_n, .int x_sav, .int x_err, .int x_rea, .int x_det, .int x_com])), (a_gw, .inl (T 0, 90, .inl v_gw)), (a_gk, .inl (T 0, 18, .inl v_gk)), (a_ns, .inl (T 2, 32, .inl q12.2))]) C hE hP hD hS hA (kX3_addNumber l D T a_n a_ns n_len v_ns q1 _ q12 e13) mX3_addNumber qLX7_279 [1, 5] [0, 2, 3, 4] 1 rfl rfl rfl rfl rfl rfl rfl rfl rfl ⟨rfl, rfl⟩ ⟨Nat.le_of_ble_eq_true rfl, Nat.le_of_ble_eq_true rfl⟩ rfl hl.1 rfl (Nat.le_of_ble_eq_true rfl) dX7_writeCell_19 ⟨Nat.le_of_ble_eq_true rfl, Nat.le_of_ble_eq_true rfl⟩ ?_; clear hP hD hS; intro H locs hP hD hS
    refine lv_goto (tgt := 74) hx hb dX7_writeCell_22 (by decide) ?_
    replace h := Option.some.inj h
    exact hret _ _ _ _ dX7_writeCell_74 (by rw [← h]; exact hP) hS

def fX7_row_9 (v_gw : Nat → Int32) (v_gk : Nat → Int32) (n_len : Int32) (v_ns : Nat → Int32) : Option (Nat × Int32 × Int32 × (Nat → Int32)) :=
  some (3, 0, n_len, v_ns)
def fX7_row_29 (v_gw : Nat → Int32) (v_gk : Nat → Int32) : Nat → Int32 → Int32 → Int32 → (Nat → Int32) → Option (Nat × Int32 × Int32 × (Nat → Int32))
  | 0, _, _, _, _ => none
  | k + 1, l1, l2, n_len, v_ns =>
    if 9 ≤ l2 then
      some (0, (fX3_length n_len), n_len, v_ns)
    else
      (fX7_writeCell n_len v_gw v_gk v_ns ((l1 * 9) + l2)).bind fun q6 =>
      fX7_row_29 v_gw v_gk k l1 (l2 + 1) q6.1 q6.2
def fX7_row (n_len : Int32) (v_gw : Nat → Int32) (v_gk : Nat → Int32) (v_ns : Nat → Int32) (p0 : Int32) : Option (Nat × Int32 × Int32 × (Nat → Int32)) :=
  if p0 < 0 then
    fX7_row_9 v_gw v_gk n_len v_ns
  else
    if p0 < 5 then
      (fX3_clear n_len).bind fun q3 =>
      fX7_row_29 v_gw v_gk 64 p0 0 q3 v_ns
    else
      fX7_row_9 v_gw v_gk n_len v_ns
set_option maxHeartbeats 4000000 in
set_option maxRecDepth 100000 in
theorem lX7_row_9 {p : Program} {l : Launch} {e : Env} {s : State} {m : MethodId} {args : Array Value} {below : List Frame} {meth : Method} {c : Code} {Q : State → Prop} {D : va_G} {T : Nat → ClassId} {a_g a_gw a_gk a_n a_ns a_x a_b a_v a_h a_r a_f a_u a_t : Nat} {x_sav : Int32} {x_err : Int32} {x_rea : Int32} {x_det : Int32} {x_com : Int32} {v_gw : Nat → Int32} {v_gk : Nat → Int32} {A : Nat → Prop} {r : Nat × Int32 × Int32 × (Nat → Int32)} (C : CallFix p m c cX7_row 3 s args aw RX7) (hE : eK D T s) (hA : ∀ q : Nat, s.heap.size ≤ q → A q) (hZ : eX l A s) (hret : ThRetI p l e ({ frames := 6, cells := 1, slots := 6, locals := 90 } : Room) s m args below meth c Q cX7_row .int D A [(a_g, .inr (1, [.ref a_gw, .ref a_gk])), (a_n, .inr (3, [.ref a_ns, .int r.2.2.1])), (a_x, .inr (7, [.ref a_g, .ref a_b, .ref a_v, .ref a_h, .ref a_r, .ref a_f, .ref a_u, .ref a_t, .ref a_n, .int x_sav, .int x_err, .int x_rea, .int x_det, .int x_com])), (a_gw, .inl (T 0, 90, .inl v_gw)), (a_gk, .inl (T 0, 18, .inl v_gk)), (a_ns, .inl (T 2, 32, .inl r.2.2.2))] r.1 r.2.1 ∧ ThOut p l e ({ frames := 6, cells := 1, slots := 6, locals := 90 } : Room) s m args below meth c Q D A [(a_g, .inr (1, [.ref a_gw, .ref a_gk])), (a_n, .inr (3, [.ref a_ns, .int r.2.2.1])), (a_x, .inr (7, [.ref a_g, .ref a_b, .ref a_v, .ref a_h, .ref a_r, .ref a_f, .ref a_u, .ref a_t, .ref a_n, .int x_sav, .int x_err, .int x_rea, .int x_det, .int x_com])), (a_gw, .inl (T 0, 90, .inl v_gw)), (a_gk, .inl (T 0, 18, .inl v_gk)), (a_ns, .inl (T 2, 32, .inl r.2.2.2))] r.1 ∧ ThThr p l e ({ frames := 6, cells := 1, slots := 6, locals := 90 } : Room) s m args below meth c Q cX7_row RX7 D A [(a_g, .inr (1, [.ref a_gw, .ref a_gk])), (a_n, .inr (3, [.ref a_ns, .int r.2.2.1])), (a_x, .inr (7, [.ref a_g, .ref a_b, .ref a_v, .ref a_h, .ref a_r, .ref a_f, .ref a_u, .ref a_t, .ref a_n, .int x_sav, .int x_err, .int x_rea, .int x_det, .int x_com])), (a_gw, .inl (T 0, 90, .inl v_gw)), (a_gk, .inl (T 0, 18, .inl v_gk)), (a_ns, .inl (T 2, 32, .inl r.2.2.2))] r.1) (n_len : Int32) (v_ns : Nat → Int32) {H : Heap} {locs : List Loc} (hPD : va_PD D A [(a_g, .inr (1, [.ref a_gw, .ref a_gk])), (a_n, .inr (3, [.ref a_ns, .int n_len])), (a_x, .inr (7, [.ref a_g, .ref a_b, .ref a_v, .ref a_h, .ref a_r, .ref a_f, .ref a_u, .ref a_t, .ref a_n, .int x_sav, .int x_err, .int x_rea, .int x_det, .int x_com])), (a_gw, .inl (T 0, 90, .inl v_gw)), (a_gk, .inl (T 0, 18, .inl v_gk)), (a_ns, .inl (T 2, 32, .inl v_ns))] H) (hS : va_S A s.heap H locs) (ls : Array Slot) (hl : lv_has ls 3 []) (h : fX7_row_9 v_gw v_gk n_len v_ns = some r) : W p l e ({ frames := 6, cells := 1, slots := 6, locals := 90 } : Room) s m args below meth c H locs 0 0 Q (F0 m 9 ls []) := by
  have hx := C.1
  have hb := C.2.1
  obtain ⟨hP, hD⟩ := hPD
  unfold fX7_row_9 at h
  replace h := Option.some.inj h
  exact hret.2.2 _ _ _ _ _ _ _ 265 269 267 _ "no such row" (by rw [← h]; exact thrX7_265_269_3) (by decide +kernel) dX7_row_9 dX7_row_12 (Or.inr ⟨dX7_row_13, dX7_row_16, dX7_row_19⟩) (Nat.le_of_ble_eq_true rfl) (Nat.le_of_ble_eq_true rfl) (Nat.le_of_ble_eq_true rfl) (Nat.le_of_ble_eq_true rfl) (hl.1.trans C.2.2.1.symm) (by rw [← h]; exact (Nat.le_of_ble_eq_true rfl)) (by rw [← h]; exact hP) hS
set_option maxHeartbeats 4000000 in
set_option maxRecDepth 100000 in
theorem lX7_row_29 {p : Program} {l : Launch} {e : Env} {s : State} {m : MethodId} {args : Array Value} {below : List Frame} {meth : Method} {c : Code} {Q : State → Prop} {D : va_G} {T : Nat → ClassId} {a_g a_gw a_gk a_n a_ns a_x a_b a_v a_h a_r a_f a_u a_t : Nat} {x_sav : Int32} {x_err : Int32} {x_rea : Int32} {x_det : Int32} {x_com : Int32} {v_gw : Nat → Int32} {v_gk : Nat → Int32} {A : Nat → Prop} {r : Nat × Int32 × Int32 × (Nat → Int32)} (C : CallFix p m c cX7_row 3 s args aw RX7) (hE : eK D T s) (hA : ∀ q : Nat, s.heap.size ≤ q → A q) (hZ : eX l A s) (hret : ThRetI p l e ({ frames := 6, cells := 1, slots := 6, locals := 90 } : Room) s m args below meth c Q cX7_row .int D A [(a_g, .inr (1, [.ref a_gw, .ref a_gk])), (a_n, .inr (3, [.ref a_ns, .int r.2.2.1])), (a_x, .inr (7, [.ref a_g, .ref a_b, .ref a_v, .ref a_h, .ref a_r, .ref a_f, .ref a_u, .ref a_t, .ref a_n, .int x_sav, .int x_err, .int x_rea, .int x_det, .int x_com])), (a_gw, .inl (T 0, 90, .inl v_gw)), (a_gk, .inl (T 0, 18, .inl v_gk)), (a_ns, .inl (T 2, 32, .inl r.2.2.2))] r.1 r.2.1 ∧ ThOut p l e ({ frames := 6, cells := 1, slots := 6, locals := 90 } : Room) s m args below meth c Q D A [(a_g, .inr (1, [.ref a_gw, .ref a_gk])), (a_n, .inr (3, [.ref a_ns, .int r.2.2.1])), (a_x, .inr (7, [.ref a_g, .ref a_b, .ref a_v, .ref a_h, .ref a_r, .ref a_f, .ref a_u, .ref a_t, .ref a_n, .int x_sav, .int x_err, .int x_rea, .int x_det, .int x_com])), (a_gw, .inl (T 0, 90, .inl v_gw)), (a_gk, .inl (T 0, 18, .inl v_gk)), (a_ns, .inl (T 2, 32, .inl r.2.2.2))] r.1 ∧ ThThr p l e ({ frames := 6, cells := 1, slots := 6, locals := 90 } : Room) s m args below meth c Q cX7_row RX7 D A [(a_g, .inr (1, [.ref a_gw, .ref a_gk])), (a_n, .inr (3, [.ref a_ns, .int r.2.2.1])), (a_x, .inr (7, [.ref a_g, .ref a_b, .ref a_v, .ref a_h, .ref a_r, .ref a_f, .ref a_u, .ref a_t, .ref a_n, .int x_sav, .int x_err, .int x_rea, .int x_det, .int x_com])), (a_gw, .inl (T 0, 90, .inl v_gw)), (a_gk, .inl (T 0, 18, .inl v_gk)), (a_ns, .inl (T 2, 32, .inl r.2.2.2))] r.1) : ∀ (k : Nat) (l1 : Int32) (l2 : Int32) (n_len : Int32) (v_ns : Nat → Int32) {H : Heap} {locs : List Loc} (hPD : va_PD D A [(a_g, .inr (1, [.ref a_gw, .ref a_gk])), (a_n, .inr (3, [.ref a_ns, .int n_len])), (a_x, .inr (7, [.ref a_g, .ref a_b, .ref a_v, .ref a_h, .ref a_r, .ref a_f, .ref a_u, .ref a_t, .ref a_n, .int x_sav, .int x_err, .int x_rea, .int x_det, .int x_com])), (a_gw, .inl (T 0, 90, .inl v_gw)), (a_gk, .inl (T 0, 18, .inl v_gk)), (a_ns, .inl (T 2, 32, .inl v_ns))] H) (hS : va_S A s.heap H locs) (ls : Array Slot) (hl : lv_has ls 3 [(0, .ref a_x), (1, .int l1), (2, .int l2)]) (h : fX7_row_29 v_gw v_gk k l1 l2 n_len v_ns = some r), W p l e ({ frames := 6, cells := 1, slots := 6, locals := 90 } : Room) s m args below meth c H locs 0 0 Q (F0 m 29 ls []) := by
  have hx := C.1
  have hb := C.2.1
  intro k
  induction k with
  | zero =>
    intro l1 l2 n_len v_ns H locs hPD hS ls hl h
    exact nomatch (show (none : Option (Nat × Int32 × Int32 × (Nat → Int32))) = some r from h)
  | succ k ih =>
    intro l1 l2 n_len v_ns H locs hPD hS ls hl h
    obtain ⟨hP, hD⟩ := hPD
    rw [fX7_row_29] at h
    refine lv_iload_n hx hb dX7_row_29 rfl (lv_at hl 2 rfl) ?_
    refine lv_bipush (v := 9) hx hb dX7_row_30 (by decide) ?_
    refine lv_icmp_ge (tgt := 51) hx hb dX7_row_32 (by decide) (fun c5 => ?_) (fun c5 => ?_)
    · replace h := ite_t c5 h
      refine lv_aload_n hx hb dX7_row_51 rfl (lv_at hl 0 rfl) ?_
      refine getF (q0 := 2) (k0 := 8) (v := .ref a_n) C hE hP inA7 rfl rfl (by decide) qFX7_64 rfl rfl dX7_row_52 ?_
      refine rdV C hE hP (kX3_length l D T a_n a_ns n_len) mX3_length qLX7_276 [1] 1 rfl rfl rfl rfl ⟨rfl, rfl⟩ ⟨Nat.le_of_ble_eq_true rfl, Nat.le_of_ble_eq_true rfl⟩ rfl hl.1 rfl (Nat.le_of_ble_eq_true rfl) dX7_row_55 ⟨Nat.le_of_ble_eq_true rfl, Nat.le_of_ble_eq_true rfl⟩ ?_
      replace h := Option.some.inj h
      exact hret.1 _ _ _ _ _ _ _ _ (Nat.le_of_ble_eq_true rfl) (Nat.le_of_ble_eq_true rfl) dX7_row_58 rfl (by rw [← h]) (by rw [← h] <;> rfl) (by rw [← h]; exact hP) hS
    · replace h := ite_f c5 h
      refine lv_aload_n hx hb dX7_row_35 rfl (lv_at hl 0 rfl) ?_
      refine lv_iload_n hx hb dX7_row_36 rfl (lv_at hl 1 rfl) ?_
      refine lv_bipush (v := 9) hx hb dX7_row_37 (by decide) ?_
      refine lv_imul hx hb dX7_row_39 ?_
      refine lv_iload_n hx hb dX7_row_40 rfl (lv_at hl 2 rfl) ?_
      refine lv_iadd hx hb dX7_row_41 ?_
      replace h := bnd h; obtain ⟨q6, e7, h⟩ := h
      refine wrVv (ws1 := [(a_g, .inr (1, [.ref a_gw, .ref a_gk])), (a_n, .inr (3, [.ref a_ns, .int q6.1])), (a_x, .inr (7, [.ref a_g, .ref a_b, .ref a_v, .ref a_h, .ref a_r, .ref a_f, .ref a_u, .ref a_t, .ref a_n, .int x_sav, .int x_err, .int x_rea, .int x_det, .int x_com])), (a_gw, .inl (T 0, 90, .inl v_gw)), (a_gk, .inl (T 0, 18, .inl v_gk)), (a_ns, .inl (T 2, 32, .inl q6.2))]) C hE hP hD hS hA (kX7_writeCell l D T a_g a_gw a_gk a_n a_ns a_x a_b a_v a_h a_r a_f a_u a_t n_len x_sav x_err x_rea x_det x_com v_gw v_gk v_ns ((l1 * 9) + l2) _ q6 e7) mX7_writeCell qLX7_273 [0, 1, 2, 3, 4, 5] [] 2 rfl rfl rfl rfl rfl rfl rfl rfl rfl ⟨rfl, rfl⟩ ⟨Nat.le_of_ble_eq_true rfl, Nat.le_of_ble_eq_true rfl⟩ rfl hl.1 rfl (Nat.le_of_ble_eq_true rfl) dX7_row_42 ⟨Nat.le_of_ble_eq_true rfl, Nat.le_of_ble_eq_true rfl⟩ ?_; clear hP hD hS; intro H locs hP hD hS
      refine lv_iinc (v := (l2 + 1)) (lv' := [(2, .int (l2 + 1)), (0, .ref a_x), (1, .int l1)]) hx hb dX7_row_45 hl (k := 2) rfl rfl (by decide) rfl (fun ls hl => ?_)
      refine lv_goto (tgt := 29) hx hb dX7_row_48 (by decide) ?_
      exact ih l1 (l2 + 1) q6.1 q6.2 ⟨hP, hD⟩ hS _ (lv_sub hl [1, 2, 0] rfl) h
set_option maxHeartbeats 4000000 in
set_option maxRecDepth 100000 in
theorem kX7_row (l : Launch) (hnt : l.stackTraces = false) (D : va_G) (T : Nat → ClassId) (a_g a_gw a_gk a_n a_ns a_x a_b a_v a_h a_r a_f a_u a_t : Nat) (n_len : Int32) (x_sav : Int32) (x_err : Int32) (x_rea : Int32) (x_det : Int32) (x_com : Int32) (v_gw : Nat → Int32) (v_gk : Nat → Int32) (v_ns : Nat → Int32) (p0 : Int32) (sz : Nat) (r : Nat × Int32 × Int32 × (Nat → Int32)) (h : fX7_row n_len v_gw v_gk v_ns p0 = some r) : ThI l yX7_row cX7_row 3 .int ({ frames := 6, cells := 1, slots := 6, locals := 90 } : Room) D T sz [(a_g, .inr (1, [.ref a_gw, .ref a_gk])), (a_n, .inr (3, [.ref a_ns, .int n_len])), (a_x, .inr (7, [.ref a_g, .ref a_b, .ref a_v, .ref a_h, .ref a_r, .ref a_f, .ref a_u, .ref a_t, .ref a_n, .int x_sav, .int x_err, .int x_rea, .int x_det, .int x_com])), (a_gw, .inl (T 0, 90, .inl v_gw)), (a_gk, .inl (T 0, 18, .inl v_gk)), (a_ns, .inl (T 2, 32, .inl v_ns))] [(a_g, .inr (1, [.ref a_gw, .ref a_gk])), (a_n, .inr (3, [.ref a_ns, .int r.2.2.1])), (a_x, .inr (7, [.ref a_g, .ref a_b, .ref a_v, .ref a_h, .ref a_r, .ref a_f, .ref a_u, .ref a_t, .ref a_n, .int x_sav, .int x_err, .int x_rea, .int x_det, .int x_com])), (a_gw, .inl (T 0, 90, .inl v_gw)), (a_gk, .inl (T 0, 18, .inl v_gk)), (a_ns, .inl (T 2, 32, .inl r.2.2.2))] [.ref a_x, .int p0] r.1 r.2.1 := by
  unfold fX7_row at h
  refine thMetI hnt (by decide +kernel) rfl (fun p e s m args below meth c Q A C hE hA hZ hP hD hS hret ls hl => ?_)
  have hx := C.1
  have hb := C.2.1
  have hl : lv_has ls 3 [(0, .ref a_x), (1, .int p0)] := hl
  refine lv_iload_n hx hb dX7_row_0 rfl (lv_at hl 1 rfl) ?_
  refine lv_if_lt (tgt := 9) hx hb dX7_row_1 (by decide) (fun c1 => ?_) (fun c1 => ?_)
  · replace h := ite_t c1 h
    exact lX7_row_9 C hE hA hZ hret n_len v_ns ⟨hP, hD⟩ hS _ (lv_sub hl [] rfl) h
  · replace h := ite_f c1 h
    refine lv_iload_n hx hb dX7_row_4 rfl (lv_at hl 1 rfl) ?_
    refine lv_iconst (v := 5) hx hb dX7_row_5 (by decide) ?_
    refine lv_icmp_lt (tgt := 20) hx hb dX7_row_6 (by decide) (fun c2 => ?_) (fun c2 => ?_)
    · replace h := ite_t c2 h
      refine lv_aload_n hx hb dX7_row_20 rfl (lv_at hl 0 rfl) ?_
      refine getF (q0 := 2) (k0 := 8) (v := .ref a_n) C hE hP inA7 rfl rfl (by decide) qFX7_64 rfl rfl dX7_row_21 ?_
      replace h := bnd h; obtain ⟨q3, e4, h⟩ := h
      refine wrVv (ws1 := [(a_g, .inr (1, [.ref a_gw, .ref a_gk])), (a_n, .inr (3, [.ref a_ns, .int q3])), (a_x, .inr (7, [.ref a_g, .ref a_b, .ref a_v, .ref a_h, .ref a_r, .ref a_f, .ref a_u, .ref a_t, .ref a_n, .int x_sav, .int x_err, .int x_rea, .int x_det, .int x_com])), (a_gw, .inl (T 0, 90, .inl v_gw)), (a_gk, .inl (T 0, 18, .inl v_gk)), (a_ns, .inl (T 2, 32, .inl v_ns))]) C hE hP hD hS hA (kX3_clear l D T a_n a_ns n_len _ q3 e4) mX3_clear qLX7_270 [1] [0, 2, 3, 4, 5] 1 rfl rfl rfl rfl rfl rfl rfl rfl rfl ⟨rfl, rfl⟩ ⟨Nat.le_of_ble_eq_true rfl, Nat.le_of_ble_eq_true rfl⟩ rfl hl.1 rfl (Nat.le_of_ble_eq_true rfl) dX7_row_24 ⟨Nat.le_of_ble_eq_true rfl, Nat.le_of_ble_eq_true rfl⟩ ?_; clear hP hD hS; intro H locs hP hD hS
      refine lv_iconst (v := 0) hx hb dX7_row_27 (by decide) ?_
      refine lv_istore_n (lv' := [(2, .int 0), (0, .ref a_x), (1, .int p0)]) hx hb dX7_row_28 rfl hl (by decide) rfl (fun ls hl => ?_)
      exact lX7_row_29 C hE hA hZ hret 64 p0 0 q3 v_ns ⟨hP, hD⟩ hS _ (lv_sub hl [1, 2, 0] rfl) h
    · replace h := ite_f c2 h
      exact lX7_row_9 C hE hA hZ hret n_len v_ns ⟨hP, hD⟩ hS _ (lv_sub hl [] rfl) h

def fX3_addSigned (n_len : Int32) (v_ns : Nat → Int32) (p0 : Int32) (p1 : Int32) : Option (Int32 × (Nat → Int32)) :=
  (fX3_add n_len v_ns p0).bind fun q1 =>
  (fX3_addNumber q1.1 q1.2 p1).bind fun q3 =>
  some (q3.1, q3.2)
set_option maxHeartbeats 4000000 in
set_option maxRecDepth 100000 in
theorem kX3_addSigned (l : Launch) (D : va_G) (T : Nat → ClassId) (a_n a_ns : Nat) (n_len : Int32) (v_ns : Nat → Int32) (p0 : Int32) (p1 : Int32) (sz : Nat) (r : Int32 × (Nat → Int32)) (h : fX3_addSigned n_len v_ns p0 p1 = some r) : WrV l yX3_addSigned cX3_addSigned 3 ({ frames := 2, cells := 0, slots := 0, locals := 42 } : Room) D T sz [(a_n, .inr (3, [.ref a_ns, .int n_len])), (a_ns, .inl (T 2, 32, .inl v_ns))] [(a_n, .inr (3, [.ref a_ns, .int r.1])), (a_ns, .inl (T 2, 32, .inl r.2))] [.ref a_n, .int p0, .int p1] := by
  unfold fX3_addSigned at h
  refine wrMetV (by decide +kernel) rfl (fun p e s m args below meth c Q A C hE hA hP hD hS hret ls hl => ?_)
  have hx := C.1
  have hb := C.2.1
  have hl : lv_has ls 3 [(0, .ref a_n), (1, .int p0), (2, .int p1)] := hl
  refine lv_aload_n hx hb dX3_addSigned_0 rfl (lv_at hl 0 rfl) ?_
  refine lv_iload_n hx hb dX3_addSigned_1 rfl (lv_at hl 1 rfl) ?_
  replace h := bnd h; obtain ⟨q1, e2, h⟩ := h
  refine wrVv (ws1 := [(a_n, .inr (3, [.ref a_ns, .int q1.1])), (a_ns, .inl (T 2, 32, .inl q1.2))]) C hE hP hD hS hA (kX3_add l D T a_n a_ns n_len v_ns p0 _ q1 e2) mX3_add qLX3_19 [0, 1] [] 0 rfl rfl rfl rfl rfl rfl rfl rfl rfl ⟨rfl, rfl⟩ ⟨Nat.le_of_ble_eq_true rfl, Nat.le_of_ble_eq_true rfl⟩ rfl hl.1 rfl (Nat.le_of_ble_eq_true rfl) dX3_addSigned_2 ⟨Nat.le_of_ble_eq_true rfl, Nat.le_of_ble_eq_true rfl⟩ ?_; clear hP hD hS; intro H locs hP hD hS
  refine lv_aload_n hx hb dX3_addSigned_5 rfl (lv_at hl 0 rfl) ?_
  refine lv_iload_n hx hb dX3_addSigned_6 rfl (lv_at hl 2 rfl) ?_
  replace h := bnd h; obtain ⟨q3, e4, h⟩ := h
  refine wrVv (ws1 := [(a_n, .inr (3, [.ref a_ns, .int q3.1])), (a_ns, .inl (T 2, 32, .inl q3.2))]) C hE hP hD hS hA (kX3_addNumber l D T a_n a_ns q1.1 q1.2 p1 _ q3 e4) mX3_addNumber qLX3_23 [0, 1] [] 0 rfl rfl rfl rfl rfl rfl rfl rfl rfl ⟨rfl, rfl⟩ ⟨Nat.le_of_ble_eq_true rfl, Nat.le_of_ble_eq_true rfl⟩ rfl hl.1 rfl (Nat.le_of_ble_eq_true rfl) dX3_addSigned_7 ⟨Nat.le_of_ble_eq_true rfl, Nat.le_of_ble_eq_true rfl⟩ ?_; clear hP hD hS; intro H locs hP hD hS
  replace h := Option.some.inj h
  exact hret _ _ _ _ dX3_addSigned_10 (by rw [← h]; exact hP) hS

def fX7_tell_143 (v_gw : Nat → Int32) (v_gk : Nat → Int32) (n_len : Int32) (v_ns : Nat → Int32) : Option (Nat × Int32 × Int32 × (Nat → Int32)) :=
  some (0, (fX3_length n_len), n_len, v_ns)
def fX7_tell_121 (v_gw : Nat → Int32) (v_gk : Nat → Int32) (l1 : Int32) (n_len : Int32) (v_ns : Nat → Int32) : Option (Nat × Int32 × Int32 × (Nat → Int32)) :=
  (fX1_of v_gw l1 5).bind fun q30 =>
  if q30 = 1 then
    (fX3_add n_len v_ns 33).bind fun q33 =>
    fX7_tell_143 v_gw v_gk q33.1 q33.2
  else
    fX7_tell_143 v_gw v_gk n_len v_ns
def fX7_tell (n_len : Int32) (v_gw : Nat → Int32) (v_gk : Nat → Int32) (v_ns : Nat → Int32) (p0 : Int32) : Option (Nat × Int32 × Int32 × (Nat → Int32)) :=
  (fX7_demandWhale v_gk p0).bind fun q1 =>
  if q1 = 0 then
    (fX3_clear n_len).bind fun q3 =>
    (fX3_addNumber q3 v_ns p0).bind fun q5 =>
    (fX1_of v_gw p0 0).bind fun q7 =>
    (fX3_addSigned q5.1 q5.2 58 q7).bind fun q9 =>
    (fX1_of v_gw p0 1).bind fun q11 =>
    (fX3_addSigned q9.1 q9.2 94 q11).bind fun q13 =>
    (fX1_of v_gw p0 2).bind fun q15 =>
    (fX3_addSigned q13.1 q13.2 47 q15).bind fun q17 =>
    (fX1_of v_gw p0 3).bind fun q19 =>
    (fX3_addSigned q17.1 q17.2 37 q19).bind fun q21 =>
    (fX1_isPlaying v_gw p0).bind fun q23 =>
    if q23 = 0 then
      fX7_tell_121 v_gw v_gk p0 q21.1 q21.2
    else
      (fX1_of v_gw p0 4).bind fun q26 =>
      (fX3_addSigned q21.1 q21.2 64 q26).bind fun q28 =>
      fX7_tell_121 v_gw v_gk p0 q28.1 q28.2
  else
    some (q1, 0, n_len, v_ns)
set_option maxHeartbeats 4000000 in
set_option maxRecDepth 100000 in
theorem lX7_tell_143 {p : Program} {l : Launch} {e : Env} {s : State} {m : MethodId} {args : Array Value} {below : List Frame} {meth : Method} {c : Code} {Q : State → Prop} {D : va_G} {T : Nat → ClassId} {a_g a_gw a_gk a_n a_ns a_x a_b a_v a_h a_r a_f a_u a_t : Nat} {x_sav : Int32} {x_err : Int32} {x_rea : Int32} {x_det : Int32} {x_com : Int32} {v_gw : Nat → Int32} {v_gk : Nat → Int32} {A : Nat → Prop} {r : Nat × Int32 × Int32 × (Nat → Int32)} (C : CallFix p m c cX7_tell 2 s args aw RX7) (hE : eK D T s) (hA : ∀ q : Nat, s.heap.size ≤ q → A q) (hZ : eX l A s) (hret : ThRetI p l e ({ frames := 7, cells := 1, slots := 6, locals := 111 } : Room) s m args below meth c Q cX7_tell .int D A [(a_g, .inr (1, [.ref a_gw, .ref a_gk])), (a_n, .inr (3, [.ref a_ns, .int r.2.2.1])), (a_x, .inr (7, [.ref a_g, .ref a_b, .ref a_v, .ref a_h, .ref a_r, .ref a_f, .ref a_u, .ref a_t, .ref a_n, .int x_sav, .int x_err, .int x_rea, .int x_det, .int x_com])), (a_gw, .inl (T 0, 90, .inl v_gw)), (a_gk, .inl (T 0, 18, .inl v_gk)), (a_ns, .inl (T 2, 32, .inl r.2.2.2))] r.1 r.2.1 ∧ ThOut p l e ({ frames := 7, cells := 1, slots := 6, locals := 111 } : Room) s m args below meth c Q D A [(a_g, .inr (1, [.ref a_gw, .ref a_gk])), (a_n, .inr (3, [.ref a_ns, .int r.2.2.1])), (a_x, .inr (7, [.ref a_g, .ref a_b, .ref a_v, .ref a_h, .ref a_r, .ref a_f, .ref a_u, .ref a_t, .ref a_n, .int x_sav, .int x_err, .int x_rea, .int x_det, .int x_com])), (a_gw, .inl (T 0, 90, .inl v_gw)), (a_gk, .inl (T 0, 18, .inl v_gk)), (a_ns, .inl (T 2, 32, .inl r.2.2.2))] r.1 ∧ ThThr p l e ({ frames := 7, cells := 1, slots := 6, locals := 111 } : Room) s m args below meth c Q cX7_tell RX7 D A [(a_g, .inr (1, [.ref a_gw, .ref a_gk])), (a_n, .inr (3, [.ref a_ns, .int r.2.2.1])), (a_x, .inr (7, [.ref a_g, .ref a_b, .ref a_v, .ref a_h, .ref a_r, .ref a_f, .ref a_u, .ref a_t, .ref a_n, .int x_sav, .int x_err, .int x_rea, .int x_det, .int x_com])), (a_gw, .inl (T 0, 90, .inl v_gw)), (a_gk, .inl (T 0, 18, .inl v_gk)), (a_ns, .inl (T 2, 32, .inl r.2.2.2))] r.1) (n_len : Int32) (v_ns : Nat → Int32) {H : Heap} {locs : List Loc} (hPD : va_PD D A [(a_g, .inr (1, [.ref a_gw, .ref a_gk])), (a_n, .inr (3, [.ref a_ns, .int n_len])), (a_x, .inr (7, [.ref a_g, .ref a_b, .ref a_v, .ref a_h, .ref a_r, .ref a_f, .ref a_u, .ref a_t, .ref a_n, .int x_sav, .int x_err, .int x_rea, .int x_det, .int x_com])), (a_gw, .inl (T 0, 90, .inl v_gw)), (a_gk, .inl (T 0, 18, .inl v_gk)), (a_ns, .inl (T 2, 32, .inl v_ns))] H) (hS : va_S A s.heap H locs) (ls : Array Slot) (hl : lv_has ls 2 [(0, .ref a_x)]) (h : fX7_tell_143 v_gw v_gk n_len v_ns = some r) : W p l e ({ frames := 7, cells := 1, slots := 6, locals := 111 } : Room) s m args below meth c H locs 1 6 Q (F0 m 143 ls []) := by
  have hx := C.1
  have hb := C.2.1
  obtain ⟨hP, hD⟩ := hPD
  unfold fX7_tell_143 at h
  refine lv_aload_n hx hb dX7_tell_143 rfl (lv_at hl 0 rfl) ?_
  refine getF (q0 := 2) (k0 := 8) (v := .ref a_n) C hE hP inA7 rfl rfl (by decide) qFX7_64 rfl rfl dX7_tell_144 ?_
  refine rdV C hE hP (kX3_length l D T a_n a_ns n_len) mX3_length qLX7_276 [1] 1 rfl rfl rfl rfl ⟨rfl, rfl⟩ ⟨Nat.le_of_ble_eq_true rfl, Nat.le_of_ble_eq_true rfl⟩ rfl hl.1 rfl (Nat.le_of_ble_eq_true rfl) dX7_tell_147 ⟨Nat.le_of_ble_eq_true rfl, Nat.le_of_ble_eq_true rfl⟩ ?_
  replace h := Option.some.inj h
  exact hret.1 _ _ _ _ _ _ _ _ (Nat.le_of_ble_eq_true rfl) (Nat.le_of_ble_eq_true rfl) dX7_tell_150 rfl (by rw [← h]) (by rw [← h] <;> rfl) (by rw [← h]; exact hP) hS
set_option maxHeartbeats 4000000 in
set_option maxRecDepth 100000 in
theorem lX7_tell_121 {p : Program} {l : Launch} {e : Env} {s : State} {m : MethodId} {args : Array Value} {below : List Frame} {meth : Method} {c : Code} {Q : State → Prop} {D : va_G} {T : Nat → ClassId} {a_g a_gw a_gk a_n a_ns a_x a_b a_v a_h a_r a_f a_u a_t : Nat} {x_sav : Int32} {x_err : Int32} {x_rea : Int32} {x_det : Int32} {x_com : Int32} {v_gw : Nat → Int32} {v_gk : Nat → Int32} {A : Nat → Prop} {r : Nat × Int32 × Int32 × (Nat → Int32)} (C : CallFix p m c cX7_tell 2 s args aw RX7) (hE : eK D T s) (hA : ∀ q : Nat, s.heap.size ≤ q → A q) (hZ : eX l A s) (hret : ThRetI p l e ({ frames := 7, cells := 1, slots := 6, locals := 111 } : Room) s m args below meth c Q cX7_tell .int D A [(a_g, .inr (1, [.ref a_gw, .ref a_gk])), (a_n, .inr (3, [.ref a_ns, .int r.2.2.1])), (a_x, .inr (7, [.ref a_g, .ref a_b, .ref a_v, .ref a_h, .ref a_r, .ref a_f, .ref a_u, .ref a_t, .ref a_n, .int x_sav, .int x_err, .int x_rea, .int x_det, .int x_com])), (a_gw, .inl (T 0, 90, .inl v_gw)), (a_gk, .inl (T 0, 18, .inl v_gk)), (a_ns, .inl (T 2, 32, .inl r.2.2.2))] r.1 r.2.1 ∧ ThOut p l e ({ frames := 7, cells := 1, slots := 6, locals := 111 } : Room) s m args below meth c Q D A [(a_g, .inr (1, [.ref a_gw, .ref a_gk])), (a_n, .inr (3, [.ref a_ns, .int r.2.2.1])), (a_x, .inr (7, [.ref a_g, .ref a_b, .ref a_v, .ref a_h, .ref a_r, .ref a_f, .ref a_u, .ref a_t, .ref a_n, .int x_sav, .int x_err, .int x_rea, .int x_det, .int x_com])), (a_gw, .inl (T 0, 90, .inl v_gw)), (a_gk, .inl (T 0, 18, .inl v_gk)), (a_ns, .inl (T 2, 32, .inl r.2.2.2))] r.1 ∧ ThThr p l e ({ frames := 7, cells := 1, slots := 6, locals := 111 } : Room) s m args below meth c Q cX7_tell RX7 D A [(a_g, .inr (1, [.ref a_gw, .ref a_gk])), (a_n, .inr (3, [.ref a_ns, .int r.2.2.1])), (a_x, .inr (7, [.ref a_g, .ref a_b, .ref a_v, .ref a_h, .ref a_r, .ref a_f, .ref a_u, .ref a_t, .ref a_n, .int x_sav, .int x_err, .int x_rea, .int x_det, .int x_com])), (a_gw, .inl (T 0, 90, .inl v_gw)), (a_gk, .inl (T 0, 18, .inl v_gk)), (a_ns, .inl (T 2, 32, .inl r.2.2.2))] r.1) (l1 : Int32) (n_len : Int32) (v_ns : Nat → Int32) {H : Heap} {locs : List Loc} (hPD : va_PD D A [(a_g, .inr (1, [.ref a_gw, .ref a_gk])), (a_n, .inr (3, [.ref a_ns, .int n_len])), (a_x, .inr (7, [.ref a_g, .ref a_b, .ref a_v, .ref a_h, .ref a_r, .ref a_f, .ref a_u, .ref a_t, .ref a_n, .int x_sav, .int x_err, .int x_rea, .int x_det, .int x_com])), (a_gw, .inl (T 0, 90, .inl v_gw)), (a_gk, .inl (T 0, 18, .inl v_gk)), (a_ns, .inl (T 2, 32, .inl v_ns))] H) (hS : va_S A s.heap H locs) (ls : Array Slot) (hl : lv_has ls 2 [(0, .ref a_x), (1, .int l1)]) (h : fX7_tell_121 v_gw v_gk l1 n_len v_ns = some r) : W p l e ({ frames := 7, cells := 1, slots := 6, locals := 111 } : Room) s m args below meth c H locs 1 6 Q (F0 m 121 ls []) := by
  have hx := C.1
  have hb := C.2.1
  obtain ⟨hP, hD⟩ := hPD
  unfold fX7_tell_121 at h
  refine lv_aload_n hx hb dX7_tell_121 rfl (lv_at hl 0 rfl) ?_
  refine getF (q0 := 2) (k0 := 0) (v := .ref a_g) C hE hP inA7 rfl rfl (by decide) qFX7_10 rfl rfl dX7_tell_122 ?_
  refine lv_iload_n hx hb dX7_tell_125 rfl (lv_at hl 1 rfl) ?_
  refine lv_iconst (v := 5) hx hb dX7_tell_126 (by decide) ?_
  replace h := bnd h; obtain ⟨q30, e31, h⟩ := h
  refine rdV C hE hP (kX1_of l D T a_g a_gw a_gk v_gw l1 5 q30 e31) mX1_of qLX7_148 [0, 3] 0 rfl rfl rfl rfl ⟨rfl, rfl⟩ ⟨Nat.le_of_ble_eq_true rfl, Nat.le_of_ble_eq_true rfl⟩ rfl hl.1 rfl (Nat.le_of_ble_eq_true rfl) dX7_tell_127 ⟨Nat.le_of_ble_eq_true rfl, Nat.le_of_ble_eq_true rfl⟩ ?_
  refine lv_iconst (v := 1) hx hb dX7_tell_130 (by decide) ?_
  refine lv_icmp_ne (tgt := 143) hx hb dX7_tell_131 (by decide) (fun c32 => ?_) (fun c32 => ?_)
  · replace h := ite_f c32 h
    exact lX7_tell_143 C hE hA hZ hret n_len v_ns ⟨hP, hD⟩ hS _ (lv_sub hl [0] rfl) h
  · replace h := ite_t c32 h
    refine lv_aload_n hx hb dX7_tell_134 rfl (lv_at hl 0 rfl) ?_
    refine getF (q0 := 2) (k0 := 8) (v := .ref a_n) C hE hP inA7 rfl rfl (by decide) qFX7_64 rfl rfl dX7_tell_135 ?_
    refine lv_bipush (v := 33) hx hb dX7_tell_138 (by decide) ?_
    replace h := bnd h; obtain ⟨q33, e34, h⟩ := h
    refine wrVv (ws1 := [(a_g, .inr (1, [.ref a_gw, .ref a_gk])), (a_n, .inr (3, [.ref a_ns, .int q33.1])), (a_x, .inr (7, [.ref a_g, .ref a_b, .ref a_v, .ref a_h, .ref a_r, .ref a_f, .ref a_u, .ref a_t, .ref a_n, .int x_sav, .int x_err, .int x_rea, .int x_det, .int x_com])), (a_gw, .inl (T 0, 90, .inl v_gw)), (a_gk, .inl (T 0, 18, .inl v_gk)), (a_ns, .inl (T 2, 32, .inl q33.2))]) C hE hP hD hS hA (kX3_add l D T a_n a_ns n_len v_ns 33 _ q33 e34) mX3_add qLX7_286 [1, 5] [0, 2, 3, 4] 1 rfl rfl rfl rfl rfl rfl rfl rfl rfl ⟨rfl, rfl⟩ ⟨Nat.le_of_ble_eq_true rfl, Nat.le_of_ble_eq_true rfl⟩ rfl hl.1 rfl (Nat.le_of_ble_eq_true rfl) dX7_tell_140 ⟨Nat.le_of_ble_eq_true rfl, Nat.le_of_ble_eq_true rfl⟩ ?_; clear hP hD hS; intro H locs hP hD hS
    exact lX7_tell_143 C hE hA hZ hret q33.1 q33.2 ⟨hP, hD⟩ hS _ (lv_sub hl [0] rfl) h
set_option maxHeartbeats 4000000 in
set_option maxRecDepth 100000 in
theorem kX7_tell (l : Launch) (hnt : l.stackTraces = false) (D : va_G) (T : Nat → ClassId) (a_g a_gw a_gk a_n a_ns a_x a_b a_v a_h a_r a_f a_u a_t : Nat) (n_len : Int32) (x_sav : Int32) (x_err : Int32) (x_rea : Int32) (x_det : Int32) (x_com : Int32) (v_gw : Nat → Int32) (v_gk : Nat → Int32) (v_ns : Nat → Int32) (p0 : Int32) (sz : Nat) (r : Nat × Int32 × Int32 × (Nat → Int32)) (h : fX7_tell n_len v_gw v_gk v_ns p0 = some r) : ThI l yX7_tell cX7_tell 2 .int ({ frames := 7, cells := 1, slots := 6, locals := 111 } : Room) D T sz [(a_g, .inr (1, [.ref a_gw, .ref a_gk])), (a_n, .inr (3, [.ref a_ns, .int n_len])), (a_x, .inr (7, [.ref a_g, .ref a_b, .ref a_v, .ref a_h, .ref a_r, .ref a_f, .ref a_u, .ref a_t, .ref a_n, .int x_sav, .int x_err, .int x_rea, .int x_det, .int x_com])), (a_gw, .inl (T 0, 90, .inl v_gw)), (a_gk, .inl (T 0, 18, .inl v_gk)), (a_ns, .inl (T 2, 32, .inl v_ns))] [(a_g, .inr (1, [.ref a_gw, .ref a_gk])), (a_n, .inr (3, [.ref a_ns, .int r.2.2.1])), (a_x, .inr (7, [.ref a_g, .ref a_b, .ref a_v, .ref a_h, .ref a_r, .ref a_f, .ref a_u, .ref a_t, .ref a_n, .int x_sav, .int x_err, .int x_rea, .int x_det, .int x_com])), (a_gw, .inl (T 0, 90, .inl v_gw)), (a_gk, .inl (T 0, 18, .inl v_gk)), (a_ns, .inl (T 2, 32, .inl r.2.2.2))] [.ref a_x, .int p0] r.1 r.2.1 := by
  unfold fX7_tell at h
  refine thMetI hnt (by decide +kernel) rfl (fun p e s m args below meth c Q A C hE hA hZ hP hD hS hret ls hl => ?_)
  have hx := C.1
  have hb := C.2.1
  have hl : lv_has ls 2 [(0, .ref a_x), (1, .int p0)] := hl
  refine lv_aload_n hx hb dX7_tell_0 rfl (lv_at hl 0 rfl) ?_
  refine lv_iload_n hx hb dX7_tell_1 rfl (lv_at hl 1 rfl) ?_
  replace h := bnd h; obtain ⟨q1, e2, h⟩ := h
  refine thVv (ws1 := [(a_g, .inr (1, [.ref a_gw, .ref a_gk])), (a_n, .inr (3, [.ref a_ns, .int n_len])), (a_x, .inr (7, [.ref a_g, .ref a_b, .ref a_v, .ref a_h, .ref a_r, .ref a_f, .ref a_u, .ref a_t, .ref a_n, .int x_sav, .int x_err, .int x_rea, .int x_det, .int x_com])), (a_gw, .inl (T 0, 90, .inl v_gw)), (a_gk, .inl (T 0, 18, .inl v_gk)), (a_ns, .inl (T 2, 32, .inl v_ns))]) C hE hZ hP hD hS hA (kX7_demandWhale l hZ.1 D T a_g a_gw a_gk a_x a_b a_v a_h a_r a_f a_u a_t a_n x_sav x_err x_rea x_det x_com v_gk p0 _ q1 e2) mX7_demandWhale qLX7_138 [0, 2, 4] [1, 3, 5] 2 rfl rfl rfl rfl rfl rfl rfl rfl rfl ⟨Nat.le_of_ble_eq_true rfl, Nat.le_of_ble_eq_true rfl⟩ rfl hl.1 rfl (Nat.le_of_ble_eq_true rfl) dX7_tell_2 ⟨Nat.le_of_ble_eq_true rfl, Nat.le_of_ble_eq_true rfl⟩ ?_ ?_
  · clear hP hD hS; intro hx0 H locs ce q9 hP hD hS g1 g2 g3
    replace h := ite_f (Nat.ne_of_gt hx0) h
    replace h := Option.some.inj h
    exact hret.2.1 _ _ _ _ _ _ _ _ _ (Nat.le_of_ble_eq_true rfl) (Nat.le_of_ble_eq_true rfl) (by rw [← h]; exact hx0) (by rw [← h]; exact hP) hS g1 g2 (by rw [← h]; exact g3)
  · clear hP hD hS; intro hx0 H locs hP hD hS
    replace h := ite_t hx0 h
    refine lv_aload_n hx hb dX7_tell_5 rfl (lv_at hl 0 rfl) ?_
    refine getF (q0 := 2) (k0 := 8) (v := .ref a_n) C hE hP inA7 rfl rfl (by decide) qFX7_64 rfl rfl dX7_tell_6 ?_
    replace h := bnd h; obtain ⟨q3, e4, h⟩ := h
    refine wrVv (ws1 := [(a_g, .inr (1, [.ref a_gw, .ref a_gk])), (a_n, .inr (3, [.ref a_ns, .int q3])), (a_x, .inr (7, [.ref a_g, .ref a_b, .ref a_v, .ref a_h, .ref a_r, .ref a_f, .ref a_u, .ref a_t, .ref a_n, .int x_sav, .int x_err, .int x_rea, .int x_det, .int x_com])), (a_gw, .inl (T 0, 90, .inl v_gw)), (a_gk, .inl (T 0, 18, .inl v_gk)), (a_ns, .inl (T 2, 32, .inl v_ns))]) C hE hP hD hS hA (kX3_clear l D T a_n a_ns n_len _ q3 e4) mX3_clear qLX7_270 [1] [0, 2, 3, 4, 5] 1 rfl rfl rfl rfl rfl rfl rfl rfl rfl ⟨rfl, rfl⟩ ⟨Nat.le_of_ble_eq_true rfl, Nat.le_of_ble_eq_true rfl⟩ rfl hl.1 rfl (Nat.le_of_ble_eq_true rfl) dX7_tell_9 ⟨Nat.le_of_ble_eq_true rfl, Nat.le_of_ble_eq_true rfl⟩ ?_; clear hP hD hS; intro H locs hP hD hS
    refine lv_aload_n hx hb dX7_tell_12 rfl (lv_at hl 0 rfl) ?_
    refine getF (q0 := 2) (k0 := 8) (v := .ref a_n) C hE hP inA7 rfl rfl (by decide) qFX7_64 rfl rfl dX7_tell_13 ?_
    refine lv_iload_n hx hb dX7_tell_16 rfl (lv_at hl 1 rfl) ?_
    replace h := bnd h; obtain ⟨q5, e6, h⟩ := h
    refine wrVv (ws1 := [(a_g, .inr (1, [.ref a_gw, .ref a_gk])), (a_n, .inr (3, [.ref a_ns, .int q5.1])), (a_x, .inr (7, [.ref a_g, .ref a_b, .ref a_v, .ref a_h, .ref a_r, .ref a_f, .ref a_u, .ref a_t, .ref a_n, .int x_sav, .int x_err, .int x_rea, .int x_det, .int x_com])), (a_gw, .inl (T 0, 90, .inl v_gw)), (a_gk, .inl (T 0, 18, .inl v_gk)), (a_ns, .inl (T 2, 32, .inl q5.2))]) C hE hP hD hS hA (kX3_addNumber l D T a_n a_ns q3 v_ns p0 _ q5 e6) mX3_addNumber qLX7_279 [1, 5] [0, 2, 3, 4] 1 rfl rfl rfl rfl rfl rfl rfl rfl rfl ⟨rfl, rfl⟩ ⟨Nat.le_of_ble_eq_true rfl, Nat.le_of_ble_eq_true rfl⟩ rfl hl.1 rfl (Nat.le_of_ble_eq_true rfl) dX7_tell_17 ⟨Nat.le_of_ble_eq_true rfl, Nat.le_of_ble_eq_true rfl⟩ ?_; clear hP hD hS; intro H locs hP hD hS
    refine lv_aload_n hx hb dX7_tell_20 rfl (lv_at hl 0 rfl) ?_
    refine getF (q0 := 2) (k0 := 8) (v := .ref a_n) C hE hP inA7 rfl rfl (by decide) qFX7_64 rfl rfl dX7_tell_21 ?_
    refine lv_bipush (v := 58) hx hb dX7_tell_24 (by decide) ?_
    refine lv_aload_n hx hb dX7_tell_26 rfl (lv_at hl 0 rfl) ?_
    refine getF (q0 := 2) (k0 := 0) (v := .ref a_g) C hE hP inA7 rfl rfl (by decide) qFX7_10 rfl rfl dX7_tell_27 ?_
    refine lv_iload_n hx hb dX7_tell_30 rfl (lv_at hl 1 rfl) ?_
    refine lv_iconst (v := 0) hx hb dX7_tell_31 (by decide) ?_
    replace h := bnd h; obtain ⟨q7, e8, h⟩ := h
    refine rdV C hE hP (kX1_of l D T a_g a_gw a_gk v_gw p0 0 q7 e8) mX1_of qLX7_148 [0, 3] 0 rfl rfl rfl rfl ⟨rfl, rfl⟩ ⟨Nat.le_of_ble_eq_true rfl, Nat.le_of_ble_eq_true rfl⟩ rfl hl.1 rfl (Nat.le_of_ble_eq_true rfl) dX7_tell_32 ⟨Nat.le_of_ble_eq_true rfl, Nat.le_of_ble_eq_true rfl⟩ ?_
    replace h := bnd h; obtain ⟨q9, e10, h⟩ := h
    refine wrVv (ws1 := [(a_g, .inr (1, [.ref a_gw, .ref a_gk])), (a_n, .inr (3, [.ref a_ns, .int q9.1])), (a_x, .inr (7, [.ref a_g, .ref a_b, .ref a_v, .ref a_h, .ref a_r, .ref a_f, .ref a_u, .ref a_t, .ref a_n, .int x_sav, .int x_err, .int x_rea, .int x_det, .int x_com])), (a_gw, .inl (T 0, 90, .inl v_gw)), (a_gk, .inl (T 0, 18, .inl v_gk)), (a_ns, .inl (T 2, 32, .inl q9.2))]) C hE hP hD hS hA (kX3_addSigned l D T a_n a_ns q5.1 q5.2 58 q7 _ q9 e10) mX3_addSigned qLX7_282 [1, 5] [0, 2, 3, 4] 1 rfl rfl rfl rfl rfl rfl rfl rfl rfl ⟨rfl, rfl⟩ ⟨Nat.le_of_ble_eq_true rfl, Nat.le_of_ble_eq_true rfl⟩ rfl hl.1 rfl (Nat.le_of_ble_eq_true rfl) dX7_tell_35 ⟨Nat.le_of_ble_eq_true rfl, Nat.le_of_ble_eq_true rfl⟩ ?_; clear hP hD hS; intro H locs hP hD hS
    refine lv_aload_n hx hb dX7_tell_38 rfl (lv_at hl 0 rfl) ?_
    refine getF (q0 := 2) (k0 := 8) (v := .ref a_n) C hE hP inA7 rfl rfl (by decide) qFX7_64 rfl rfl dX7_tell_39 ?_
    refine lv_bipush (v := 94) hx hb dX7_tell_42 (by decide) ?_
    refine lv_aload_n hx hb dX7_tell_44 rfl (lv_at hl 0 rfl) ?_
    refine getF (q0 := 2) (k0 := 0) (v := .ref a_g) C hE hP inA7 rfl rfl (by decide) qFX7_10 rfl rfl dX7_tell_45 ?_
    refine lv_iload_n hx hb dX7_tell_48 rfl (lv_at hl 1 rfl) ?_
    refine lv_iconst (v := 1) hx hb dX7_tell_49 (by decide) ?_
    replace h := bnd h; obtain ⟨q11, e12, h⟩ := h
    refine rdV C hE hP (kX1_of l D T a_g a_gw a_gk v_gw p0 1 q11 e12) mX1_of qLX7_148 [0, 3] 0 rfl rfl rfl rfl ⟨rfl, rfl⟩ ⟨Nat.le_of_ble_eq_true rfl, Nat.le_of_ble_eq_true rfl⟩ rfl hl.1 rfl (Nat.le_of_ble_eq_true rfl) dX7_tell_50 ⟨Nat.le_of_ble_eq_true rfl, Nat.le_of_ble_eq_true rfl⟩ ?_
    replace h := bnd h; obtain ⟨q13, e14, h⟩ := h
    refine wrVv (ws1 := [(a_g, .inr (1, [.ref a_gw, .ref a_gk])), (a_n, .inr (3, [.ref a_ns, .int q13.1])), (a_x, .inr (7, [.ref a_g, .ref a_b, .ref a_v, .ref a_h, .ref a_r, .ref a_f, .ref a_u, .ref a_t, .ref a_n, .int x_sav, .int x_err, .int x_rea, .int x_det, .int x_com])), (a_gw, .inl (T 0, 90, .inl v_gw)), (a_gk, .inl (T 0, 18, .inl v_gk)), (a_ns, .inl (T 2, 32, .inl q13.2))]) C hE hP hD hS hA (kX3_addSigned l D T a_n a_ns q9.1 q9.2 94 q11 _ q13 e14) mX3_addSigned qLX7_282 [1, 5] [0, 2, 3, 4] 1 rfl rfl rfl rfl rfl rfl rfl rfl rfl ⟨rfl, rfl⟩ ⟨Nat.le_of_ble_eq_true rfl, Nat.le_of_ble_eq_true rfl⟩ rfl hl.1 rfl (Nat.le_of_ble_eq_true rfl) dX7_tell_53 ⟨Nat.le_of_ble_eq_true rfl, Nat.le_of_ble_eq_true rfl⟩ ?_; clear hP hD hS; intro H locs hP hD hS
    refine lv_aload_n hx hb dX7_tell_56 rfl (lv_at hl 0 rfl) ?_
    refine getF (q0 := 2) (k0 := 8) (v := .ref a_n) C hE hP inA7 rfl rfl (by decide) qFX7_64 rfl rfl dX7_tell_57 ?_
    refine lv_bipush (v := 47) hx hb dX7_tell_60 (by decide) ?_
    refine lv_aload_n hx hb dX7_tell_62 rfl (lv_at hl 0 rfl) ?_
    refine getF (q0 := 2) (k0 := 0) (v := .ref a_g) C hE hP inA7 rfl rfl (by decide) qFX7_10 rfl rfl dX7_tell_63 ?_
    refine lv_iload_n hx hb dX7_tell_66 rfl (lv_at hl 1 rfl) ?_
    refine lv_iconst (v := 2) hx hb dX7_tell_67 (by decide) ?_
    replace h := bnd h; obtain ⟨q15, e16, h⟩ := h
    refine rdV C hE hP (kX1_of l D T a_g a_gw a_gk v_gw p0 2 q15 e16) mX1_of qLX7_148 [0, 3] 0 rfl rfl rfl rfl ⟨rfl, rfl⟩ ⟨Nat.le_of_ble_eq_true rfl, Nat.le_of_ble_eq_true rfl⟩ rfl hl.1 rfl (Nat.le_of_ble_eq_true rfl) dX7_tell_68 ⟨Nat.le_of_ble_eq_true rfl, Nat.le_of_ble_eq_true rfl⟩ ?_
    replace h := bnd h; obtain ⟨q17, e18, h⟩ := h
    refine wrVv (ws1 := [(a_g, .inr (1, [.ref a_gw, .ref a_gk])), (a_n, .inr (3, [.ref a_ns, .int q17.1])), (a_x, .inr (7, [.ref a_g, .ref a_b, .ref a_v, .ref a_h, .ref a_r, .ref a_f, .ref a_u, .ref a_t, .ref a_n, .int x_sav, .int x_err, .int x_rea, .int x_det, .int x_com])), (a_gw, .inl (T 0, 90, .inl v_gw)), (a_gk, .inl (T 0, 18, .inl v_gk)), (a_ns, .inl (T 2, 32, .inl q17.2))]) C hE hP hD hS hA (kX3_addSigned l D T a_n a_ns q13.1 q13.2 47 q15 _ q17 e18) mX3_addSigned qLX7_282 [1, 5] [0, 2, 3, 4] 1 rfl rfl rfl rfl rfl rfl rfl rfl rfl ⟨rfl, rfl⟩ ⟨Nat.le_of_ble_eq_true rfl, Nat.le_of_ble_eq_true rfl⟩ rfl hl.1 rfl (Nat.le_of_ble_eq_true rfl) dX7_tell_71 ⟨Nat.le_of_ble_eq_true rfl, Nat.le_of_ble_eq_true rfl⟩ ?_; clear hP hD hS; intro H locs hP hD hS
    refine lv_aload_n hx hb dX7_tell_74 rfl (lv_at hl 0 rfl) ?_
    refine getF (q0 := 2) (k0 := 8) (v := .ref a_n) C hE hP inA7 rfl rfl (by decide) qFX7_64 rfl rfl dX7_tell_75 ?_
    refine lv_bipush (v := 37) hx hb dX7_tell_78 (by decide) ?_
    refine lv_aload_n hx hb dX7_tell_80 rfl (lv_at hl 0 rfl) ?_
    refine getF (q0 := 2) (k0 := 0) (v := .ref a_g) C hE hP inA7 rfl rfl (by decide) qFX7_10 rfl rfl dX7_tell_81 ?_
    refine lv_iload_n hx hb dX7_tell_84 rfl (lv_at hl 1 rfl) ?_
    refine lv_iconst (v := 3) hx hb dX7_tell_85 (by decide) ?_
    replace h := bnd h; obtain ⟨q19, e20, h⟩ := h
    refine rdV C hE hP (kX1_of l D T a_g a_gw a_gk v_gw p0 3 q19 e20) mX1_of qLX7_148 [0, 3] 0 rfl rfl rfl rfl ⟨rfl, rfl⟩ ⟨Nat.le_of_ble_eq_true rfl, Nat.le_of_ble_eq_true rfl⟩ rfl hl.1 rfl (Nat.le_of_ble_eq_true rfl) dX7_tell_86 ⟨Nat.le_of_ble_eq_true rfl, Nat.le_of_ble_eq_true rfl⟩ ?_
    replace h := bnd h; obtain ⟨q21, e22, h⟩ := h
    refine wrVv (ws1 := [(a_g, .inr (1, [.ref a_gw, .ref a_gk])), (a_n, .inr (3, [.ref a_ns, .int q21.1])), (a_x, .inr (7, [.ref a_g, .ref a_b, .ref a_v, .ref a_h, .ref a_r, .ref a_f, .ref a_u, .ref a_t, .ref a_n, .int x_sav, .int x_err, .int x_rea, .int x_det, .int x_com])), (a_gw, .inl (T 0, 90, .inl v_gw)), (a_gk, .inl (T 0, 18, .inl v_gk)), (a_ns, .inl (T 2, 32, .inl q21.2))]) C hE hP hD hS hA (kX3_addSigned l D T a_n a_ns q17.1 q17.2 37 q19 _ q21 e22) mX3_addSigned qLX7_282 [1, 5] [0, 2, 3, 4] 1 rfl rfl rfl rfl rfl rfl rfl rfl rfl ⟨rfl, rfl⟩ ⟨Nat.le_of_ble_eq_true rfl, Nat.le_of_ble_eq_true rfl⟩ rfl hl.1 rfl (Nat.le_of_ble_eq_true rfl) dX7_tell_89 ⟨Nat.le_of_ble_eq_true rfl, Nat.le_of_ble_eq_true rfl⟩ ?_; clear hP hD hS; intro H locs hP hD hS
    refine lv_aload_n hx hb dX7_tell_92 rfl (lv_at hl 0 rfl) ?_
    refine getF (q0 := 2) (k0 := 0) (v := .ref a_g) C hE hP inA7 rfl rfl (by decide) qFX7_10 rfl rfl dX7_tell_93 ?_
    refine lv_iload_n hx hb dX7_tell_96 rfl (lv_at hl 1 rfl) ?_
    replace h := bnd h; obtain ⟨q23, e24, h⟩ := h
    refine rdV C hE hP (kX1_isPlaying l D T a_g a_gw a_gk v_gw p0 q23 e24) mX1_isPlaying qLX7_200 [0, 3] 0 rfl rfl rfl rfl ⟨rfl, rfl⟩ ⟨Nat.le_of_ble_eq_true rfl, Nat.le_of_ble_eq_true rfl⟩ rfl hl.1 rfl (Nat.le_of_ble_eq_true rfl) dX7_tell_97 ⟨Nat.le_of_ble_eq_true rfl, Nat.le_of_ble_eq_true rfl⟩ ?_
    refine lv_if_eq (tgt := 121) hx hb dX7_tell_100 (by decide) (fun c25 => ?_) (fun c25 => ?_)
    · replace h := ite_t c25 h
      exact lX7_tell_121 C hE hA hZ hret p0 q21.1 q21.2 ⟨hP, hD⟩ hS _ (lv_sub hl [0, 1] rfl) h
    · replace h := ite_f c25 h
      refine lv_aload_n hx hb dX7_tell_103 rfl (lv_at hl 0 rfl) ?_
      refine getF (q0 := 2) (k0 := 8) (v := .ref a_n) C hE hP inA7 rfl rfl (by decide) qFX7_64 rfl rfl dX7_tell_104 ?_
      refine lv_bipush (v := 64) hx hb dX7_tell_107 (by decide) ?_
      refine lv_aload_n hx hb dX7_tell_109 rfl (lv_at hl 0 rfl) ?_
      refine getF (q0 := 2) (k0 := 0) (v := .ref a_g) C hE hP inA7 rfl rfl (by decide) qFX7_10 rfl rfl dX7_tell_110 ?_
      refine lv_iload_n hx hb dX7_tell_113 rfl (lv_at hl 1 rfl) ?_
      refine lv_iconst (v := 4) hx hb dX7_tell_114 (by decide) ?_
      replace h := bnd h; obtain ⟨q26, e27, h⟩ := h
      refine rdV C hE hP (kX1_of l D T a_g a_gw a_gk v_gw p0 4 q26 e27) mX1_of qLX7_148 [0, 3] 0 rfl rfl rfl rfl ⟨rfl, rfl⟩ ⟨Nat.le_of_ble_eq_true rfl, Nat.le_of_ble_eq_true rfl⟩ rfl hl.1 rfl (Nat.le_of_ble_eq_true rfl) dX7_tell_115 ⟨Nat.le_of_ble_eq_true rfl, Nat.le_of_ble_eq_true rfl⟩ ?_
      replace h := bnd h; obtain ⟨q28, e29, h⟩ := h
      refine wrVv (ws1 := [(a_g, .inr (1, [.ref a_gw, .ref a_gk])), (a_n, .inr (3, [.ref a_ns, .int q28.1])), (a_x, .inr (7, [.ref a_g, .ref a_b, .ref a_v, .ref a_h, .ref a_r, .ref a_f, .ref a_u, .ref a_t, .ref a_n, .int x_sav, .int x_err, .int x_rea, .int x_det, .int x_com])), (a_gw, .inl (T 0, 90, .inl v_gw)), (a_gk, .inl (T 0, 18, .inl v_gk)), (a_ns, .inl (T 2, 32, .inl q28.2))]) C hE hP hD hS hA (kX3_addSigned l D T a_n a_ns q21.1 q21.2 64 q26 _ q28 e29) mX3_addSigned qLX7_282 [1, 5] [0, 2, 3, 4] 1 rfl rfl rfl rfl rfl rfl rfl rfl rfl ⟨rfl, rfl⟩ ⟨Nat.le_of_ble_eq_true rfl, Nat.le_of_ble_eq_true rfl⟩ rfl hl.1 rfl (Nat.le_of_ble_eq_true rfl) dX7_tell_118 ⟨Nat.le_of_ble_eq_true rfl, Nat.le_of_ble_eq_true rfl⟩ ?_; clear hP hD hS; intro H locs hP hD hS
      exact lX7_tell_121 C hE hA hZ hret p0 q28.1 q28.2 ⟨hP, hD⟩ hS _ (lv_sub hl [0, 1] rfl) h
