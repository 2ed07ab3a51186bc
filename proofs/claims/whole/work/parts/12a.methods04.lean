def fX8_isBetter (v_ms : Nat → Int32) (p0 : Int32) (p1 : Int32) : Option Int32 :=
  (fX8_of v_ms p0 3).bind fun q1 =>
  (fX8_of v_ms p1 3).bind fun q3 =>
  if (q1 - q3) = 0 then
    (fX8_of v_ms p0 1).bind fun q6 =>
    (fX8_of v_ms p1 1).bind fun q8 =>
    if q6 ≤ q8 then
      some 0
    else
      some 1
  else
    if (q1 - q3) ≤ 0 then
      some 0
    else
      some 1
set_option maxHeartbeats 4000000 in
set_option maxRecDepth 100000 in
theorem kX8_isBetter (l : Launch) (D : va_G) (T : Nat → ClassId) (a_m a_ms a_mw a_mv a_mp a_mf a_ml a_mt a_mc : Nat) (m_chg : Int32) (m_thr : Int32) (m_rea : Int32) (m_det : Int32) (m_ref : Int32) (m_err : Int32) (m_ans : Int32) (m_sav : Int32) (m_net : Int32) (m_lin : Int32) (m_tap : Int32) (m_her : Int32) (m_cmd : Int32) (v_ms : Nat → Int32) (p0 : Int32) (p1 : Int32) (r : Int32) (h : fX8_isBetter v_ms p0 p1 = some r) : RdI l yX8_isBetter cX8_isBetter 4 .boolean ({ frames := 1, cells := 0, slots := 0, locals := 22 } : Room) D T [(a_m, .inr (8, [.ref a_ms, .ref a_mw, .ref a_mv, .ref a_mp, .ref a_mf, .int m_chg, .int m_thr, .int m_rea, .int m_det, .int m_ref, .int m_err, .int m_ans, .int m_sav, .int m_net, .ref a_ml, .int m_lin, .ref a_mt, .ref a_mc, .int m_tap, .int m_her, .int m_cmd])), (a_ms, .inl (T 0, 103, .inl v_ms))] [.ref a_m, .int p0, .int p1] r := by
  unfold fX8_isBetter at h
  refine rdMet (by decide +kernel) rfl (fun p e s m args below meth c Q C hE hP hret ls hl => ?_)
  have hx := C.1
  have hb := C.2.1
  have hl : lv_has ls 4 [(0, .ref a_m), (1, .int p0), (2, .int p1)] := hl
  refine lv_aload_n hx hb dX8_isBetter_0 rfl (lv_at hl 0 rfl) ?_
  refine lv_iload_n hx hb dX8_isBetter_1 rfl (lv_at hl 1 rfl) ?_
  refine lv_iconst (v := 3) hx hb dX8_isBetter_2 (by decide) ?_
  replace h := bnd h; obtain ⟨q1, e2, h⟩ := h
  refine rdV C hE hP (kX8_of l D T a_m a_ms a_mw a_mv a_mp a_mf a_ml a_mt a_mc m_chg m_thr m_rea m_det m_ref m_err m_ans m_sav m_net m_lin m_tap m_her m_cmd v_ms p0 3 q1 e2) mX8_of qLX8_90 [0, 1] 0 rfl rfl rfl rfl ⟨rfl, rfl⟩ ⟨Nat.le_of_ble_eq_true rfl, Nat.le_of_ble_eq_true rfl⟩ rfl hl.1 rfl (Nat.le_of_ble_eq_true rfl) dX8_isBetter_3 ⟨Nat.le_of_ble_eq_true rfl, Nat.le_of_ble_eq_true rfl⟩ ?_
  refine lv_aload_n hx hb dX8_isBetter_6 rfl (lv_at hl 0 rfl) ?_
  refine lv_iload_n hx hb dX8_isBetter_7 rfl (lv_at hl 2 rfl) ?_
  refine lv_iconst (v := 3) hx hb dX8_isBetter_8 (by decide) ?_
  replace h := bnd h; obtain ⟨q3, e4, h⟩ := h
  refine rdV C hE hP (kX8_of l D T a_m a_ms a_mw a_mv a_mp a_mf a_ml a_mt a_mc m_chg m_thr m_rea m_det m_ref m_err m_ans m_sav m_net m_lin m_tap m_her m_cmd v_ms p1 3 q3 e4) mX8_of qLX8_90 [0, 1] 0 rfl rfl rfl rfl ⟨rfl, rfl⟩ ⟨Nat.le_of_ble_eq_true rfl, Nat.le_of_ble_eq_true rfl⟩ rfl hl.1 rfl (Nat.le_of_ble_eq_true rfl) dX8_isBetter_9 ⟨Nat.le_of_ble_eq_true rfl, Nat.le_of_ble_eq_true rfl⟩ ?_
  refine lv_isub hx hb dX8_isBetter_12 ?_
  refine lv_istore_n (lv' := [(3, .int (q1 - q3)), (0, .ref a_m), (1, .int p0), (2, .int p1)]) hx hb dX8_isBetter_13 rfl hl (by decide) rfl (fun ls hl => ?_)
  refine lv_iload_n hx hb dX8_isBetter_14 rfl (lv_at hl 0 rfl) ?_
  refine lv_if_eq (tgt := 30) hx hb dX8_isBetter_15 (by decide) (fun c5 => ?_) (fun c5 => ?_)
  · replace h := ite_t c5 h
    refine lv_aload_n hx hb dX8_isBetter_30 rfl (lv_at hl 1 rfl) ?_
    refine lv_iload_n hx hb dX8_isBetter_31 rfl (lv_at hl 2 rfl) ?_
    refine lv_iconst (v := 1) hx hb dX8_isBetter_32 (by decide) ?_
    replace h := bnd h; obtain ⟨q6, e7, h⟩ := h
    refine rdV C hE hP (kX8_of l D T a_m a_ms a_mw a_mv a_mp a_mf a_ml a_mt a_mc m_chg m_thr m_rea m_det m_ref m_err m_ans m_sav m_net m_lin m_tap m_her m_cmd v_ms p0 1 q6 e7) mX8_of qLX8_90 [0, 1] 0 rfl rfl rfl rfl ⟨rfl, rfl⟩ ⟨Nat.le_of_ble_eq_true rfl, Nat.le_of_ble_eq_true rfl⟩ rfl hl.1 rfl (Nat.le_of_ble_eq_true rfl) dX8_isBetter_33 ⟨Nat.le_of_ble_eq_true rfl, Nat.le_of_ble_eq_true rfl⟩ ?_
    refine lv_aload_n hx hb dX8_isBetter_36 rfl (lv_at hl 1 rfl) ?_
    refine lv_iload_n hx hb dX8_isBetter_37 rfl (lv_at hl 3 rfl) ?_
    refine lv_iconst (v := 1) hx hb dX8_isBetter_38 (by decide) ?_
    replace h := bnd h; obtain ⟨q8, e9, h⟩ := h
    refine rdV C hE hP (kX8_of l D T a_m a_ms a_mw a_mv a_mp a_mf a_ml a_mt a_mc m_chg m_thr m_rea m_det m_ref m_err m_ans m_sav m_net m_lin m_tap m_her m_cmd v_ms p1 1 q8 e9) mX8_of qLX8_90 [0, 1] 0 rfl rfl rfl rfl ⟨rfl, rfl⟩ ⟨Nat.le_of_ble_eq_true rfl, Nat.le_of_ble_eq_true rfl⟩ rfl hl.1 rfl (Nat.le_of_ble_eq_true rfl) dX8_isBetter_39 ⟨Nat.le_of_ble_eq_true rfl, Nat.le_of_ble_eq_true rfl⟩ ?_
    refine lv_icmp_le (tgt := 49) hx hb dX8_isBetter_42 (by decide) (fun c10 => ?_) (fun c10 => ?_)
    · replace h := ite_t c10 h
      refine lv_iconst (v := 0) hx hb dX8_isBetter_49 (by decide) ?_
      exact hret _ _ _ _ dX8_isBetter_50 rfl (Option.some.inj h)
    · replace h := ite_f c10 h
      refine lv_iconst (v := 1) hx hb dX8_isBetter_45 (by decide) ?_
      refine lv_goto (tgt := 50) hx hb dX8_isBetter_46 (by decide) ?_
      exact hret _ _ _ _ dX8_isBetter_50 rfl (Option.some.inj h)
  · replace h := ite_f c5 h
    refine lv_iload_n hx hb dX8_isBetter_18 rfl (lv_at hl 0 rfl) ?_
    refine lv_if_le (tgt := 26) hx hb dX8_isBetter_19 (by decide) (fun c11 => ?_) (fun c11 => ?_)
    · replace h := ite_t c11 h
      refine lv_iconst (v := 0) hx hb dX8_isBetter_26 (by decide) ?_
      refine lv_goto (tgt := 50) hx hb dX8_isBetter_27 (by decide) ?_
      exact hret _ _ _ _ dX8_isBetter_50 rfl (Option.some.inj h)
    · replace h := ite_f c11 h
      refine lv_iconst (v := 1) hx hb dX8_isBetter_22 (by decide) ?_
      refine lv_goto (tgt := 50) hx hb dX8_isBetter_23 (by decide) ?_
      exact hret _ _ _ _ dX8_isBetter_50 rfl (Option.some.inj h)

def fX8_calf_87 (v_ms : Nat → Int32) (rec28 : Int32 → Int32 → Int32 → Int32 → Option (Int32 × Int32)) (x0 : Int32) (l1 : Int32) (l3 : Int32) (m_thr : Int32) : Option (Int32 × Int32) :=
  rec28 l1 x0 (l3 + 1) m_thr
def fX8_calf_62 (v_ms : Nat → Int32) (rec28 : Int32 → Int32 → Int32 → Int32 → Option (Int32 × Int32)) (x0 : Int32) (l1 : Int32) (l2 : Int32) (l3 : Int32) (m_thr : Int32) : Option (Int32 × Int32) :=
  if x0 = 0 then
    fX8_calf_87 v_ms rec28 l2 l1 l3 m_thr
  else
    if l2 < 0 then
      fX8_calf_87 v_ms rec28 l3 l1 l3 m_thr
    else
      (fX8_isBetter v_ms l3 l2).bind fun q16 =>
      fX8_calf_87 v_ms rec28 (if q16 = 0 then l2 else l3) l1 l3 m_thr
def fX8_calf_104 (v_ms : Nat → Int32) (x1 : Int32) (l2 : Int32) (m_thr : Int32) : Option (Int32 × Int32) :=
  (fX8_isThrown m_thr x1 2).bind fun q19 =>
  if q19.1 = 0 then
    some (l2, q19.2)
  else
    some (0, q19.2)
def fX8_calf_28 (v_ms : Nat → Int32) : Nat → Int32 → Int32 → Int32 → Int32 → Option (Int32 × Int32)
  | 0, _, _, _, _ => none
  | k + 1, l1, l2, l3, m_thr =>
    if vin 0 103 = true then
    if (v_ms (0 : Int32).toNatClampNeg) ≤ l3 then
      fX8_calf_104 v_ms (if 0 ≤ l2 then 0 else 1) l2 m_thr
    else
      (fX8_of v_ms l3 0).bind fun q8 =>
      if q8 = l1 then
        (fX8_of v_ms l3 4).bind fun q11 =>
        fX8_calf_62 v_ms (fX8_calf_28 v_ms k) (if 0 ≤ q11 then 0 else 1) l1 l2 l3 m_thr
      else
        fX8_calf_62 v_ms (fX8_calf_28 v_ms k) 0 l1 l2 l3 m_thr
    else none
def fX8_calf_15 (v_ms : Nat → Int32) (x1 : Int32) (l1 : Int32) (m_thr : Int32) : Option (Int32 × Int32) :=
  (fX8_isThrown m_thr x1 1).bind fun q2 =>
  if q2.1 = 0 then
    fX8_calf_28 v_ms 64 l1 (-1) 0 q2.2
  else
    some (0, q2.2)
def fX8_calf (m_thr : Int32) (v_ms : Nat → Int32) (p0 : Int32) : Option (Int32 × Int32) :=
  fX8_calf_15 v_ms (if (fX8_isIn p0 0 1) = 0 then 1 else 0) p0 m_thr
set_option maxHeartbeats 4000000 in
set_option maxRecDepth 100000 in
theorem lX8_calf_87 {p : Program} {l : Launch} {e : Env} {s : State} {m : MethodId} {args : Array Value} {below : List Frame} {meth : Method} {c : Code} {Q : State → Prop} {D : va_G} {T : Nat → ClassId} {a_m a_ms a_mw a_mv a_mp a_mf a_ml a_mt a_mc : Nat} {m_chg : Int32} {m_rea : Int32} {m_det : Int32} {m_ref : Int32} {m_err : Int32} {m_ans : Int32} {m_sav : Int32} {m_net : Int32} {m_lin : Int32} {m_tap : Int32} {m_her : Int32} {m_cmd : Int32} {v_ms : Nat → Int32} {A : Nat → Prop} {r : Int32 × Int32} (C : CallFix p m c cX8_calf 5 s args aw RX8) (hE : eK D T s) (hA : ∀ q : Nat, s.heap.size ≤ q → A q) (hret : WrRet p l e ({ frames := 2, cells := 0, slots := 0, locals := 45 } : Room) s m args below meth c Q cX8_calf .int D A [(a_m, .inr (8, [.ref a_ms, .ref a_mw, .ref a_mv, .ref a_mp, .ref a_mf, .int m_chg, .int r.2, .int m_rea, .int m_det, .int m_ref, .int m_err, .int m_ans, .int m_sav, .int m_net, .ref a_ml, .int m_lin, .ref a_mt, .ref a_mc, .int m_tap, .int m_her, .int m_cmd])), (a_ms, .inl (T 0, 103, .inl v_ms))] r.1) {rec28 : Int32 → Int32 → Int32 → Int32 → Option (Int32 × Int32)} (hrec28 : ∀ (l1 : Int32) (l2 : Int32) (l3 : Int32) (m_thr : Int32) {H : Heap} {locs : List Loc} (hPD : va_PD D A [(a_m, .inr (8, [.ref a_ms, .ref a_mw, .ref a_mv, .ref a_mp, .ref a_mf, .int m_chg, .int m_thr, .int m_rea, .int m_det, .int m_ref, .int m_err, .int m_ans, .int m_sav, .int m_net, .ref a_ml, .int m_lin, .ref a_mt, .ref a_mc, .int m_tap, .int m_her, .int m_cmd])), (a_ms, .inl (T 0, 103, .inl v_ms))] H) (hS : va_S A s.heap H locs) (ls : Array Slot) (hl : lv_has ls 5 [(0, .ref a_m), (1, .int l1), (2, .int l2), (3, .int l3)]) (h : rec28 l1 l2 l3 m_thr = some r), W p l e ({ frames := 2, cells := 0, slots := 0, locals := 45 } : Room) s m args below meth c H locs 0 0 Q (F0 m 28 ls [])) (x0 : Int32) (l1 : Int32) (l3 : Int32) (m_thr : Int32) {H : Heap} {locs : List Loc} (hPD : va_PD D A [(a_m, .inr (8, [.ref a_ms, .ref a_mw, .ref a_mv, .ref a_mp, .ref a_mf, .int m_chg, .int m_thr, .int m_rea, .int m_det, .int m_ref, .int m_err, .int m_ans, .int m_sav, .int m_net, .ref a_ml, .int m_lin, .ref a_mt, .ref a_mc, .int m_tap, .int m_her, .int m_cmd])), (a_ms, .inl (T 0, 103, .inl v_ms))] H) (hS : va_S A s.heap H locs) (ls : Array Slot) (hl : lv_has ls 5 [(0, .ref a_m), (1, .int l1), (3, .int l3)]) (h : fX8_calf_87 v_ms rec28 x0 l1 l3 m_thr = some r) : W p l e ({ frames := 2, cells := 0, slots := 0, locals := 45 } : Room) s m args below meth c H locs 0 0 Q (F0 m 87 ls [.int x0]) := by
  have hx := C.1
  have hb := C.2.1
  obtain ⟨hP, hD⟩ := hPD
  unfold fX8_calf_87 at h
  refine lv_istore_n (lv' := [(2, .int x0), (0, .ref a_m), (1, .int l1), (3, .int l3)]) hx hb dX8_calf_87 rfl hl (by decide) rfl (fun ls hl => ?_)
  refine lv_iinc (v := (l3 + 1)) (lv' := [(3, .int (l3 + 1)), (2, .int x0), (0, .ref a_m), (1, .int l1)]) hx hb dX8_calf_88 hl (k := 3) rfl rfl (by decide) rfl (fun ls hl => ?_)
  refine lv_goto (tgt := 28) hx hb dX8_calf_91 (by decide) ?_
  exact hrec28 l1 x0 (l3 + 1) m_thr ⟨hP, hD⟩ hS _ (lv_sub hl [2, 3, 1, 0] rfl) h
set_option maxHeartbeats 4000000 in
set_option maxRecDepth 100000 in
theorem lX8_calf_62 {p : Program} {l : Launch} {e : Env} {s : State} {m : MethodId} {args : Array Value} {below : List Frame} {meth : Method} {c : Code} {Q : State → Prop} {D : va_G} {T : Nat → ClassId} {a_m a_ms a_mw a_mv a_mp a_mf a_ml a_mt a_mc : Nat} {m_chg : Int32} {m_rea : Int32} {m_det : Int32} {m_ref : Int32} {m_err : Int32} {m_ans : Int32} {m_sav : Int32} {m_net : Int32} {m_lin : Int32} {m_tap : Int32} {m_her : Int32} {m_cmd : Int32} {v_ms : Nat → Int32} {A : Nat → Prop} {r : Int32 × Int32} (C : CallFix p m c cX8_calf 5 s args aw RX8) (hE : eK D T s) (hA : ∀ q : Nat, s.heap.size ≤ q → A q) (hret : WrRet p l e ({ frames := 2, cells := 0, slots := 0, locals := 45 } : Room) s m args below meth c Q cX8_calf .int D A [(a_m, .inr (8, [.ref a_ms, .ref a_mw, .ref a_mv, .ref a_mp, .ref a_mf, .int m_chg, .int r.2, .int m_rea, .int m_det, .int m_ref, .int m_err, .int m_ans, .int m_sav, .int m_net, .ref a_ml, .int m_lin, .ref a_mt, .ref a_mc, .int m_tap, .int m_her, .int m_cmd])), (a_ms, .inl (T 0, 103, .inl v_ms))] r.1) {rec28 : Int32 → Int32 → Int32 → Int32 → Option (Int32 × Int32)} (hrec28 : ∀ (l1 : Int32) (l2 : Int32) (l3 : Int32) (m_thr : Int32) {H : Heap} {locs : List Loc} (hPD : va_PD D A [(a_m, .inr (8, [.ref a_ms, .ref a_mw, .ref a_mv, .ref a_mp, .ref a_mf, .int m_chg, .int m_thr, .int m_rea, .int m_det, .int m_ref, .int m_err, .int m_ans, .int m_sav, .int m_net, .ref a_ml, .int m_lin, .ref a_mt, .ref a_mc, .int m_tap, .int m_her, .int m_cmd])), (a_ms, .inl (T 0, 103, .inl v_ms))] H) (hS : va_S A s.heap H locs) (ls : Array Slot) (hl : lv_has ls 5 [(0, .ref a_m), (1, .int l1), (2, .int l2), (3, .int l3)]) (h : rec28 l1 l2 l3 m_thr = some r), W p l e ({ frames := 2, cells := 0, slots := 0, locals := 45 } : Room) s m args below meth c H locs 0 0 Q (F0 m 28 ls [])) (x0 : Int32) (l1 : Int32) (l2 : Int32) (l3 : Int32) (m_thr : Int32) {H : Heap} {locs : List Loc} (hPD : va_PD D A [(a_m, .inr (8, [.ref a_ms, .ref a_mw, .ref a_mv, .ref a_mp, .ref a_mf, .int m_chg, .int m_thr, .int m_rea, .int m_det, .int m_ref, .int m_err, .int m_ans, .int m_sav, .int m_net, .ref a_ml, .int m_lin, .ref a_mt, .ref a_mc, .int m_tap, .int m_her, .int m_cmd])), (a_ms, .inl (T 0, 103, .inl v_ms))] H) (hS : va_S A s.heap H locs) (ls : Array Slot) (hl : lv_has ls 5 [(0, .ref a_m), (1, .int l1), (2, .int l2), (3, .int l3)]) (h : fX8_calf_62 v_ms rec28 x0 l1 l2 l3 m_thr = some r) : W p l e ({ frames := 2, cells := 0, slots := 0, locals := 45 } : Room) s m args below meth c H locs 0 0 Q (F0 m 62 ls [.int x0]) := by
  have hx := C.1
  have hb := C.2.1
  obtain ⟨hP, hD⟩ := hPD
  unfold fX8_calf_62 at h
  refine lv_istore (lv' := [(4, .int x0), (0, .ref a_m), (1, .int l1), (2, .int l2), (3, .int l3)]) hx hb dX8_calf_62 hl (by decide) rfl (fun ls hl => ?_)
  refine lv_iload hx hb dX8_calf_64 (lv_at hl 0 rfl) ?_
  refine lv_if_eq (tgt := 86) hx hb dX8_calf_66 (by decide) (fun c14 => ?_) (fun c14 => ?_)
  · replace h := ite_t c14 h
    refine lv_iload_n hx hb dX8_calf_86 rfl (lv_at hl 3 rfl) ?_
    exact lX8_calf_87 C hE hA hret hrec28 l2 l1 l3 m_thr ⟨hP, hD⟩ hS _ (lv_sub hl [1, 2, 4] rfl) h
  · replace h := ite_f c14 h
    refine lv_iload_n hx hb dX8_calf_69 rfl (lv_at hl 3 rfl) ?_
    refine lv_if_lt (tgt := 82) hx hb dX8_calf_70 (by decide) (fun c15 => ?_) (fun c15 => ?_)
    · replace h := ite_t c15 h
      refine lv_iload_n hx hb dX8_calf_82 rfl (lv_at hl 4 rfl) ?_
      refine lv_goto (tgt := 87) hx hb dX8_calf_83 (by decide) ?_
      exact lX8_calf_87 C hE hA hret hrec28 l3 l1 l3 m_thr ⟨hP, hD⟩ hS _ (lv_sub hl [1, 2, 4] rfl) h
    · replace h := ite_f c15 h
      refine lv_aload_n hx hb dX8_calf_73 rfl (lv_at hl 1 rfl) ?_
      refine lv_iload_n hx hb dX8_calf_74 rfl (lv_at hl 4 rfl) ?_
      refine lv_iload_n hx hb dX8_calf_75 rfl (lv_at hl 3 rfl) ?_
      replace h := bnd h; obtain ⟨q16, e17, h⟩ := h
      refine rdV C hE hP (kX8_isBetter l D T a_m a_ms a_mw a_mv a_mp a_mf a_ml a_mt a_mc m_chg m_thr m_rea m_det m_ref m_err m_ans m_sav m_net m_lin m_tap m_her m_cmd v_ms l3 l2 q16 e17) mX8_isBetter qLX8_193 [0, 1] 0 rfl rfl rfl rfl ⟨rfl, rfl⟩ ⟨Nat.le_of_ble_eq_true rfl, Nat.le_of_ble_eq_true rfl⟩ rfl hl.1 rfl (Nat.le_of_ble_eq_true rfl) dX8_calf_76 ⟨Nat.le_of_ble_eq_true rfl, Nat.le_of_ble_eq_true rfl⟩ ?_
      refine lv_if_eq (tgt := 86) hx hb dX8_calf_79 (by decide) (fun c18 => ?_) (fun c18 => ?_)
      · rw [if_pos c18] at h
        refine lv_iload_n hx hb dX8_calf_86 rfl (lv_at hl 3 rfl) ?_
        exact lX8_calf_87 C hE hA hret hrec28 l2 l1 l3 m_thr ⟨hP, hD⟩ hS _ (lv_sub hl [1, 2, 4] rfl) h
      · rw [if_neg c18] at h
        refine lv_iload_n hx hb dX8_calf_82 rfl (lv_at hl 4 rfl) ?_
        refine lv_goto (tgt := 87) hx hb dX8_calf_83 (by decide) ?_
        exact lX8_calf_87 C hE hA hret hrec28 l3 l1 l3 m_thr ⟨hP, hD⟩ hS _ (lv_sub hl [1, 2, 4] rfl) h
set_option maxHeartbeats 4000000 in
set_option maxRecDepth 100000 in
theorem lX8_calf_104 {p : Program} {l : Launch} {e : Env} {s : State} {m : MethodId} {args : Array Value} {below : List Frame} {meth : Method} {c : Code} {Q : State → Prop} {D : va_G} {T : Nat → ClassId} {a_m a_ms a_mw a_mv a_mp a_mf a_ml a_mt a_mc : Nat} {m_chg : Int32} {m_rea : Int32} {m_det : Int32} {m_ref : Int32} {m_err : Int32} {m_ans : Int32} {m_sav : Int32} {m_net : Int32} {m_lin : Int32} {m_tap : Int32} {m_her : Int32} {m_cmd : Int32} {v_ms : Nat → Int32} {A : Nat → Prop} {r : Int32 × Int32} (C : CallFix p m c cX8_calf 5 s args aw RX8) (hE : eK D T s) (hA : ∀ q : Nat, s.heap.size ≤ q → A q) (hret : WrRet p l e ({ frames := 2, cells := 0, slots := 0, locals := 45 } : Room) s m args below meth c Q cX8_calf .int D A [(a_m, .inr (8, [.ref a_ms, .ref a_mw, .ref a_mv, .ref a_mp, .ref a_mf, .int m_chg, .int r.2, .int m_rea, .int m_det, .int m_ref, .int m_err, .int m_ans, .int m_sav, .int m_net, .ref a_ml, .int m_lin, .ref a_mt, .ref a_mc, .int m_tap, .int m_her, .int m_cmd])), (a_ms, .inl (T 0, 103, .inl v_ms))] r.1) (x1 : Int32) (l2 : Int32) (m_thr : Int32) {H : Heap} {locs : List Loc} (hPD : va_PD D A [(a_m, .inr (8, [.ref a_ms, .ref a_mw, .ref a_mv, .ref a_mp, .ref a_mf, .int m_chg, .int m_thr, .int m_rea, .int m_det, .int m_ref, .int m_err, .int m_ans, .int m_sav, .int m_net, .ref a_ml, .int m_lin, .ref a_mt, .ref a_mc, .int m_tap, .int m_her, .int m_cmd])), (a_ms, .inl (T 0, 103, .inl v_ms))] H) (hS : va_S A s.heap H locs) (ls : Array Slot) (hl : lv_has ls 5 [(2, .int l2)]) (h : fX8_calf_104 v_ms x1 l2 m_thr = some r) : W p l e ({ frames := 2, cells := 0, slots := 0, locals := 45 } : Room) s m args below meth c H locs 0 0 Q (F0 m 104 ls [.int x1, .ref a_m]) := by
  have hx := C.1
  have hb := C.2.1
  obtain ⟨hP, hD⟩ := hPD
  unfold fX8_calf_104 at h
  refine lv_iconst (v := 2) hx hb dX8_calf_104 (by decide) ?_
  replace h := bnd h; obtain ⟨q19, e20, h⟩ := h
  refine wrVi (ws1 := [(a_m, .inr (8, [.ref a_ms, .ref a_mw, .ref a_mv, .ref a_mp, .ref a_mf, .int m_chg, .int q19.2, .int m_rea, .int m_det, .int m_ref, .int m_err, .int m_ans, .int m_sav, .int m_net, .ref a_ml, .int m_lin, .ref a_mt, .ref a_mc, .int m_tap, .int m_her, .int m_cmd])), (a_ms, .inl (T 0, 103, .inl v_ms))]) C hE hP hD hS hA (kX8_isThrown l D T a_m a_ms a_mw a_mv a_mp a_mf a_ml a_mt a_mc m_chg m_thr m_rea m_det m_ref m_err m_ans m_sav m_net m_lin m_tap m_her m_cmd x1 2 _ q19 e20) mX8_isThrown qLX8_80 [0] [1] 0 rfl rfl rfl rfl rfl rfl rfl rfl rfl ⟨rfl, rfl⟩ ⟨Nat.le_of_ble_eq_true rfl, Nat.le_of_ble_eq_true rfl⟩ rfl hl.1 rfl (Nat.le_of_ble_eq_true rfl) dX8_calf_105 ⟨Nat.le_of_ble_eq_true rfl, Nat.le_of_ble_eq_true rfl⟩ ?_; clear hP hD hS; intro H locs hP hD hS
  refine lv_if_eq (tgt := 115) hx hb dX8_calf_108 (by decide) (fun c21 => ?_) (fun c21 => ?_)
  · replace h := ite_t c21 h
    refine lv_iload_n hx hb dX8_calf_115 rfl (lv_at hl 0 rfl) ?_
    replace h := Option.some.inj h
    exact hret _ _ _ _ _ _ dX8_calf_116 rfl (by rw [← h] <;> rfl) (by rw [← h]; exact hP) hS
  · replace h := ite_f c21 h
    refine lv_iconst (v := 0) hx hb dX8_calf_111 (by decide) ?_
    refine lv_goto (tgt := 116) hx hb dX8_calf_112 (by decide) ?_
    replace h := Option.some.inj h
    exact hret _ _ _ _ _ _ dX8_calf_116 rfl (by rw [← h] <;> rfl) (by rw [← h]; exact hP) hS
set_option maxHeartbeats 4000000 in
set_option maxRecDepth 100000 in
theorem lX8_calf_28 {p : Program} {l : Launch} {e : Env} {s : State} {m : MethodId} {args : Array Value} {below : List Frame} {meth : Method} {c : Code} {Q : State → Prop} {D : va_G} {T : Nat → ClassId} {a_m a_ms a_mw a_mv a_mp a_mf a_ml a_mt a_mc : Nat} {m_chg : Int32} {m_rea : Int32} {m_det : Int32} {m_ref : Int32} {m_err : Int32} {m_ans : Int32} {m_sav : Int32} {m_net : Int32} {m_lin : Int32} {m_tap : Int32} {m_her : Int32} {m_cmd : Int32} {v_ms : Nat → Int32} {A : Nat → Prop} {r : Int32 × Int32} (C : CallFix p m c cX8_calf 5 s args aw RX8) (hE : eK D T s) (hA : ∀ q : Nat, s.heap.size ≤ q → A q) (hret : WrRet p l e ({ frames := 2, cells := 0, slots := 0, locals := 45 } : Room) s m args below meth c Q cX8_calf .int D A [(a_m, .inr (8, [.ref a_ms, .ref a_mw, .ref a_mv, .ref a_mp, .ref a_mf, .int m_chg, .int r.2, .int m_rea, .int m_det, .int m_ref, .int m_err, .int m_ans, .int m_sav, .int m_net, .ref a_ml, .int m_lin, .ref a_mt, .ref a_mc, .int m_tap, .int m_her, .int m_cmd])), (a_ms, .inl (T 0, 103, .inl v_ms))] r.1) : ∀ (k : Nat) (l1 : Int32) (l2 : Int32) (l3 : Int32) (m_thr : Int32) {H : Heap} {locs : List Loc} (hPD : va_PD D A [(a_m, .inr (8, [.ref a_ms, .ref a_mw, .ref a_mv, .ref a_mp, .ref a_mf, .int m_chg, .int m_thr, .int m_rea, .int m_det, .int m_ref, .int m_err, .int m_ans, .int m_sav, .int m_net, .ref a_ml, .int m_lin, .ref a_mt, .ref a_mc, .int m_tap, .int m_her, .int m_cmd])), (a_ms, .inl (T 0, 103, .inl v_ms))] H) (hS : va_S A s.heap H locs) (ls : Array Slot) (hl : lv_has ls 5 [(0, .ref a_m), (1, .int l1), (2, .int l2), (3, .int l3)]) (h : fX8_calf_28 v_ms k l1 l2 l3 m_thr = some r), W p l e ({ frames := 2, cells := 0, slots := 0, locals := 45 } : Room) s m args below meth c H locs 0 0 Q (F0 m 28 ls []) := by
  have hx := C.1
  have hb := C.2.1
  intro k
  induction k with
  | zero =>
    intro l1 l2 l3 m_thr H locs hPD hS ls hl h
    exact nomatch (show (none : Option (Int32 × Int32)) = some r from h)
  | succ k ih =>
    intro l1 l2 l3 m_thr H locs hPD hS ls hl h
    obtain ⟨hP, hD⟩ := hPD
    rw [fX8_calf_28] at h
    refine lv_iload_n hx hb dX8_calf_28 rfl (lv_at hl 3 rfl) ?_
    refine lv_aload_n hx hb dX8_calf_29 rfl (lv_at hl 0 rfl) ?_
    refine getF (q0 := 0) (k0 := 0) (v := .ref a_ms) C hE hP inA8 rfl rfl (by decide) qFX8_9 rfl rfl dX8_calf_30 ?_
    refine lv_iconst (v := 0) hx hb dX8_calf_33 (by decide) ?_
    replace h := gd h; obtain ⟨g5, h⟩ := h
    refine aldI (q0 := 1) C hE hP rfl g5 dX8_calf_34 ?_
    refine lv_icmp_ge (tgt := 94) hx hb dX8_calf_35 (by decide) (fun c6 => ?_) (fun c6 => ?_)
    · replace h := ite_t c6 h
      refine lv_aload_n hx hb dX8_calf_94 rfl (lv_at hl 0 rfl) ?_
      refine lv_iload_n hx hb dX8_calf_95 rfl (lv_at hl 2 rfl) ?_
      refine lv_if_ge (tgt := 103) hx hb dX8_calf_96 (by decide) (fun c7 => ?_) (fun c7 => ?_)
      · rw [if_pos c7] at h
        refine lv_iconst (v := 0) hx hb dX8_calf_103 (by decide) ?_
        exact lX8_calf_104 C hE hA hret 0 l2 m_thr ⟨hP, hD⟩ hS _ (lv_sub hl [2] rfl) h
      · rw [if_neg c7] at h
        refine lv_iconst (v := 1) hx hb dX8_calf_99 (by decide) ?_
        refine lv_goto (tgt := 104) hx hb dX8_calf_100 (by decide) ?_
        exact lX8_calf_104 C hE hA hret 1 l2 m_thr ⟨hP, hD⟩ hS _ (lv_sub hl [2] rfl) h
    · replace h := ite_f c6 h
      refine lv_aload_n hx hb dX8_calf_38 rfl (lv_at hl 0 rfl) ?_
      refine lv_iload_n hx hb dX8_calf_39 rfl (lv_at hl 3 rfl) ?_
      refine lv_iconst (v := 0) hx hb dX8_calf_40 (by decide) ?_
      replace h := bnd h; obtain ⟨q8, e9, h⟩ := h
      refine rdV C hE hP (kX8_of l D T a_m a_ms a_mw a_mv a_mp a_mf a_ml a_mt a_mc m_chg m_thr m_rea m_det m_ref m_err m_ans m_sav m_net m_lin m_tap m_her m_cmd v_ms l3 0 q8 e9) mX8_of qLX8_90 [0, 1] 0 rfl rfl rfl rfl ⟨rfl, rfl⟩ ⟨Nat.le_of_ble_eq_true rfl, Nat.le_of_ble_eq_true rfl⟩ rfl hl.1 rfl (Nat.le_of_ble_eq_true rfl) dX8_calf_41 ⟨Nat.le_of_ble_eq_true rfl, Nat.le_of_ble_eq_true rfl⟩ ?_
      refine lv_iload_n hx hb dX8_calf_44 rfl (lv_at hl 1 rfl) ?_
      refine lv_icmp_ne (tgt := 61) hx hb dX8_calf_45 (by decide) (fun c10 => ?_) (fun c10 => ?_)
      · replace h := ite_f c10 h
        refine lv_iconst (v := 0) hx hb dX8_calf_61 (by decide) ?_
        exact lX8_calf_62 C hE hA hret ih 0 l1 l2 l3 m_thr ⟨hP, hD⟩ hS _ (lv_sub hl [0, 1, 2, 3] rfl) h
      · replace h := ite_t c10 h
        refine lv_aload_n hx hb dX8_calf_48 rfl (lv_at hl 0 rfl) ?_
        refine lv_iload_n hx hb dX8_calf_49 rfl (lv_at hl 3 rfl) ?_
        refine lv_iconst (v := 4) hx hb dX8_calf_50 (by decide) ?_
        replace h := bnd h; obtain ⟨q11, e12, h⟩ := h
        refine rdV C hE hP (kX8_of l D T a_m a_ms a_mw a_mv a_mp a_mf a_ml a_mt a_mc m_chg m_thr m_rea m_det m_ref m_err m_ans m_sav m_net m_lin m_tap m_her m_cmd v_ms l3 4 q11 e12) mX8_of qLX8_90 [0, 1] 0 rfl rfl rfl rfl ⟨rfl, rfl⟩ ⟨Nat.le_of_ble_eq_true rfl, Nat.le_of_ble_eq_true rfl⟩ rfl hl.1 rfl (Nat.le_of_ble_eq_true rfl) dX8_calf_51 ⟨Nat.le_of_ble_eq_true rfl, Nat.le_of_ble_eq_true rfl⟩ ?_
        refine lv_if_ge (tgt := 61) hx hb dX8_calf_54 (by decide) (fun c13 => ?_) (fun c13 => ?_)
        · rw [if_pos c13] at h
          refine lv_iconst (v := 0) hx hb dX8_calf_61 (by decide) ?_
          exact lX8_calf_62 C hE hA hret ih 0 l1 l2 l3 m_thr ⟨hP, hD⟩ hS _ (lv_sub hl [0, 1, 2, 3] rfl) h
        · rw [if_neg c13] at h
          refine lv_iconst (v := 1) hx hb dX8_calf_57 (by decide) ?_
          refine lv_goto (tgt := 62) hx hb dX8_calf_58 (by decide) ?_
          exact lX8_calf_62 C hE hA hret ih 1 l1 l2 l3 m_thr ⟨hP, hD⟩ hS _ (lv_sub hl [0, 1, 2, 3] rfl) h
set_option maxHeartbeats 4000000 in
set_option maxRecDepth 100000 in
theorem lX8_calf_15 {p : Program} {l : Launch} {e : Env} {s : State} {m : MethodId} {args : Array Value} {below : List Frame} {meth : Method} {c : Code} {Q : State → Prop} {D : va_G} {T : Nat → ClassId} {a_m a_ms a_mw a_mv a_mp a_mf a_ml a_mt a_mc : Nat} {m_chg : Int32} {m_rea : Int32} {m_det : Int32} {m_ref : Int32} {m_err : Int32} {m_ans : Int32} {m_sav : Int32} {m_net : Int32} {m_lin : Int32} {m_tap : Int32} {m_her : Int32} {m_cmd : Int32} {v_ms : Nat → Int32} {A : Nat → Prop} {r : Int32 × Int32} (C : CallFix p m c cX8_calf 5 s args aw RX8) (hE : eK D T s) (hA : ∀ q : Nat, s.heap.size ≤ q → A q) (hret : WrRet p l e ({ frames := 2, cells := 0, slots := 0, locals := 45 } : Room) s m args below meth c Q cX8_calf .int D A [(a_m, .inr (8, [.ref a_ms, .ref a_mw, .ref a_mv, .ref a_mp, .ref a_mf, .int m_chg, .int r.2, .int m_rea, .int m_det, .int m_ref, .int m_err, .int m_ans, .int m_sav, .int m_net, .ref a_ml, .int m_lin, .ref a_mt, .ref a_mc, .int m_tap, .int m_her, .int m_cmd])), (a_ms, .inl (T 0, 103, .inl v_ms))] r.1) (x1 : Int32) (l1 : Int32) (m_thr : Int32) {H : Heap} {locs : List Loc} (hPD : va_PD D A [(a_m, .inr (8, [.ref a_ms, .ref a_mw, .ref a_mv, .ref a_mp, .ref a_mf, .int m_chg, .int m_thr, .int m_rea, .int m_det, .int m_ref, .int m_err, .int m_ans, .int m_sav, .int m_net, .ref a_ml, .int m_lin, .ref a_mt, .ref a_mc, .int m_tap, .int m_her, .int m_cmd])), (a_ms, .inl (T 0, 103, .inl v_ms))] H) (hS : va_S A s.heap H locs) (ls : Array Slot) (hl : lv_has ls 5 [(0, .ref a_m), (1, .int l1)]) (h : fX8_calf_15 v_ms x1 l1 m_thr = some r) : W p l e ({ frames := 2, cells := 0, slots := 0, locals := 45 } : Room) s m args below meth c H locs 0 0 Q (F0 m 15 ls [.int x1, .ref a_m]) := by
  have hx := C.1
  have hb := C.2.1
  obtain ⟨hP, hD⟩ := hPD
  unfold fX8_calf_15 at h
  refine lv_iconst (v := 1) hx hb dX8_calf_15 (by decide) ?_
  replace h := bnd h; obtain ⟨q2, e3, h⟩ := h
  refine wrVi (ws1 := [(a_m, .inr (8, [.ref a_ms, .ref a_mw, .ref a_mv, .ref a_mp, .ref a_mf, .int m_chg, .int q2.2, .int m_rea, .int m_det, .int m_ref, .int m_err, .int m_ans, .int m_sav, .int m_net, .ref a_ml, .int m_lin, .ref a_mt, .ref a_mc, .int m_tap, .int m_her, .int m_cmd])), (a_ms, .inl (T 0, 103, .inl v_ms))]) C hE hP hD hS hA (kX8_isThrown l D T a_m a_ms a_mw a_mv a_mp a_mf a_ml a_mt a_mc m_chg m_thr m_rea m_det m_ref m_err m_ans m_sav m_net m_lin m_tap m_her m_cmd x1 1 _ q2 e3) mX8_isThrown qLX8_80 [0] [1] 0 rfl rfl rfl rfl rfl rfl rfl rfl rfl ⟨rfl, rfl⟩ ⟨Nat.le_of_ble_eq_true rfl, Nat.le_of_ble_eq_true rfl⟩ rfl hl.1 rfl (Nat.le_of_ble_eq_true rfl) dX8_calf_16 ⟨Nat.le_of_ble_eq_true rfl, Nat.le_of_ble_eq_true rfl⟩ ?_; clear hP hD hS; intro H locs hP hD hS
  refine lv_if_eq (tgt := 24) hx hb dX8_calf_19 (by decide) (fun c4 => ?_) (fun c4 => ?_)
  · replace h := ite_t c4 h
    refine lv_iconst (v := (-1)) hx hb dX8_calf_24 (by decide) ?_
    refine lv_istore_n (lv' := [(2, .int (-1)), (0, .ref a_m), (1, .int l1)]) hx hb dX8_calf_25 rfl hl (by decide) rfl (fun ls hl => ?_)
    refine lv_iconst (v := 0) hx hb dX8_calf_26 (by decide) ?_
    refine lv_istore_n (lv' := [(3, .int 0), (2, .int (-1)), (0, .ref a_m), (1, .int l1)]) hx hb dX8_calf_27 rfl hl (by decide) rfl (fun ls hl => ?_)
    exact lX8_calf_28 C hE hA hret 64 l1 (-1) 0 q2.2 ⟨hP, hD⟩ hS _ (lv_sub hl [2, 3, 1, 0] rfl) h
  · replace h := ite_f c4 h
    refine lv_iconst (v := 0) hx hb dX8_calf_22 (by decide) ?_
    replace h := Option.some.inj h
    exact hret _ _ _ _ _ _ dX8_calf_23 rfl (by rw [← h] <;> rfl) (by rw [← h]; exact hP) hS
set_option maxHeartbeats 4000000 in
set_option maxRecDepth 100000 in
theorem kX8_calf (l : Launch) (D : va_G) (T : Nat → ClassId) (a_m a_ms a_mw a_mv a_mp a_mf a_ml a_mt a_mc : Nat) (m_chg : Int32) (m_thr : Int32) (m_rea : Int32) (m_det : Int32) (m_ref : Int32) (m_err : Int32) (m_ans : Int32) (m_sav : Int32) (m_net : Int32) (m_lin : Int32) (m_tap : Int32) (m_her : Int32) (m_cmd : Int32) (v_ms : Nat → Int32) (p0 : Int32) (sz : Nat) (r : Int32 × Int32) (h : fX8_calf m_thr v_ms p0 = some r) : WrI l yX8_calf cX8_calf 5 .int ({ frames := 2, cells := 0, slots := 0, locals := 45 } : Room) D T sz [(a_m, .inr (8, [.ref a_ms, .ref a_mw, .ref a_mv, .ref a_mp, .ref a_mf, .int m_chg, .int m_thr, .int m_rea, .int m_det, .int m_ref, .int m_err, .int m_ans, .int m_sav, .int m_net, .ref a_ml, .int m_lin, .ref a_mt, .ref a_mc, .int m_tap, .int m_her, .int m_cmd])), (a_ms, .inl (T 0, 103, .inl v_ms))] [(a_m, .inr (8, [.ref a_ms, .ref a_mw, .ref a_mv, .ref a_mp, .ref a_mf, .int m_chg, .int r.2, .int m_rea, .int m_det, .int m_ref, .int m_err, .int m_ans, .int m_sav, .int m_net, .ref a_ml, .int m_lin, .ref a_mt, .ref a_mc, .int m_tap, .int m_her, .int m_cmd])), (a_ms, .inl (T 0, 103, .inl v_ms))] [.ref a_m, .int p0] r.1 := by
  unfold fX8_calf at h
  refine wrMet (by decide +kernel) rfl (fun p e s m args below meth c Q A C hE hA hP hD hS hret ls hl => ?_)
  have hx := C.1
  have hb := C.2.1
  have hl : lv_has ls 5 [(0, .ref a_m), (1, .int p0)] := hl
  refine lv_aload_n hx hb dX8_calf_0 rfl (lv_at hl 0 rfl) ?_
  refine lv_iload_n hx hb dX8_calf_1 rfl (lv_at hl 1 rfl) ?_
  refine lv_iconst (v := 0) hx hb dX8_calf_2 (by decide) ?_
  refine lv_iconst (v := 1) hx hb dX8_calf_3 (by decide) ?_
  refine rdS C hE hP (kX8_isIn l D T p0 0 1) mX8_isIn qLX8_60 [] rfl ⟨rfl, rfl⟩ ⟨Nat.le_of_ble_eq_true rfl, Nat.le_of_ble_eq_true rfl⟩ rfl hl.1 rfl (Nat.le_of_ble_eq_true rfl) dX8_calf_4 ⟨Nat.le_of_ble_eq_true rfl, Nat.le_of_ble_eq_true rfl⟩ ?_
  refine lv_if_ne (tgt := 14) hx hb dX8_calf_7 (by decide) (fun c1 => ?_) (fun c1 => ?_)
  · rw [if_neg c1] at h
    refine lv_iconst (v := 0) hx hb dX8_calf_14 (by decide) ?_
    exact lX8_calf_15 C hE hA hret 0 p0 m_thr ⟨hP, hD⟩ hS _ (lv_sub hl [0, 1] rfl) h
  · rw [if_pos c1] at h
    refine lv_iconst (v := 1) hx hb dX8_calf_10 (by decide) ?_
    refine lv_goto (tgt := 15) hx hb dX8_calf_11 (by decide) ?_
    exact lX8_calf_15 C hE hA hret 1 p0 m_thr ⟨hP, hD⟩ hS _ (lv_sub hl [0, 1] rfl) h

def fX8_leader (m_thr : Int32) (v_ms : Nat → Int32) : Option (Int32 × Int32) :=
  if vin 4 103 = true then
  if vin 5 103 = true then
  if ((v_ms (4 : Int32).toNatClampNeg) - (v_ms (5 : Int32).toNatClampNeg)) = 0 then
    some ((-1), 0)
  else
    if ((v_ms (4 : Int32).toNatClampNeg) - (v_ms (5 : Int32).toNatClampNeg)) ≤ 0 then
      some (1, 0)
    else
      some (0, 0)
  else none
  else none
set_option maxHeartbeats 4000000 in
set_option maxRecDepth 100000 in
theorem kX8_leader (l : Launch) (D : va_G) (T : Nat → ClassId) (a_m a_ms a_mw a_mv a_mp a_mf a_ml a_mt a_mc : Nat) (m_chg : Int32) (m_thr : Int32) (m_rea : Int32) (m_det : Int32) (m_ref : Int32) (m_err : Int32) (m_ans : Int32) (m_sav : Int32) (m_net : Int32) (m_lin : Int32) (m_tap : Int32) (m_her : Int32) (m_cmd : Int32) (v_ms : Nat → Int32) (sz : Nat) (r : Int32 × Int32) (h : fX8_leader m_thr v_ms = some r) : WrI l yX8_leader cX8_leader 2 .int ({ frames := 0, cells := 0, slots := 0, locals := 0 } : Room) D T sz [(a_m, .inr (8, [.ref a_ms, .ref a_mw, .ref a_mv, .ref a_mp, .ref a_mf, .int m_chg, .int m_thr, .int m_rea, .int m_det, .int m_ref, .int m_err, .int m_ans, .int m_sav, .int m_net, .ref a_ml, .int m_lin, .ref a_mt, .ref a_mc, .int m_tap, .int m_her, .int m_cmd])), (a_ms, .inl (T 0, 103, .inl v_ms))] [(a_m, .inr (8, [.ref a_ms, .ref a_mw, .ref a_mv, .ref a_mp, .ref a_mf, .int m_chg, .int r.2, .int m_rea, .int m_det, .int m_ref, .int m_err, .int m_ans, .int m_sav, .int m_net, .ref a_ml, .int m_lin, .ref a_mt, .ref a_mc, .int m_tap, .int m_her, .int m_cmd])), (a_ms, .inl (T 0, 103, .inl v_ms))] [.ref a_m] r.1 := by
  unfold fX8_leader at h
  refine wrMet (by decide +kernel) rfl (fun p e s m args below meth c Q A C hE hA hP hD hS hret ls hl => ?_)
  have hx := C.1
  have hb := C.2.1
  have hl : lv_has ls 2 [(0, .ref a_m)] := hl
  refine lv_aload_n hx hb dX8_leader_0 rfl (lv_at hl 0 rfl) ?_
  refine lv_iconst (v := 0) hx hb dX8_leader_1 (by decide) ?_
  refine putF (q0 := 0) (k0 := 6) (ws1 := [(a_m, .inr (8, [.ref a_ms, .ref a_mw, .ref a_mv, .ref a_mp, .ref a_mf, .int m_chg, .int 0, .int m_rea, .int m_det, .int m_ref, .int m_err, .int m_ans, .int m_sav, .int m_net, .ref a_ml, .int m_lin, .ref a_mt, .ref a_mc, .int m_tap, .int m_her, .int m_cmd])), (a_ms, .inl (T 0, 103, .inl v_ms))]) C hE hP hD hS inA8 tyX8_ok nmX8 rfl rfl (by decide) qFX8_41 rfl rfl rfl rfl (Nat.le_of_ble_eq_true rfl) rfl dX8_leader_2 ?_; clear hP hD hS; intro H locs hP hD hS
  refine lv_aload_n hx hb dX8_leader_5 rfl (lv_at hl 0 rfl) ?_
  refine getF (q0 := 0) (k0 := 0) (v := .ref a_ms) C hE hP inA8 rfl rfl (by decide) qFX8_9 rfl rfl dX8_leader_6 ?_
  refine lv_iconst (v := 4) hx hb dX8_leader_9 (by decide) ?_
  replace h := gd h; obtain ⟨g1, h⟩ := h
  refine aldI (q0 := 1) C hE hP rfl g1 dX8_leader_10 ?_
  refine lv_aload_n hx hb dX8_leader_11 rfl (lv_at hl 0 rfl) ?_
  refine getF (q0 := 0) (k0 := 0) (v := .ref a_ms) C hE hP inA8 rfl rfl (by decide) qFX8_9 rfl rfl dX8_leader_12 ?_
  refine lv_iconst (v := 5) hx hb dX8_leader_15 (by decide) ?_
  replace h := gd h; obtain ⟨g2, h⟩ := h
  refine aldI (q0 := 1) C hE hP rfl g2 dX8_leader_16 ?_
  refine lv_isub hx hb dX8_leader_17 ?_
  refine lv_istore_n (lv' := [(1, .int ((v_ms (4 : Int32).toNatClampNeg) - (v_ms (5 : Int32).toNatClampNeg))), (0, .ref a_m)]) hx hb dX8_leader_18 rfl hl (by decide) rfl (fun ls hl => ?_)
  refine lv_iload_n hx hb dX8_leader_19 rfl (lv_at hl 0 rfl) ?_
  refine lv_if_ne (tgt := 27) hx hb dX8_leader_20 (by decide) (fun c3 => ?_) (fun c3 => ?_)
  · replace h := ite_f c3 h
    refine lv_iload_n hx hb dX8_leader_27 rfl (lv_at hl 0 rfl) ?_
    refine lv_if_le (tgt := 35) hx hb dX8_leader_28 (by decide) (fun c4 => ?_) (fun c4 => ?_)
    · replace h := ite_t c4 h
      refine lv_iconst (v := 1) hx hb dX8_leader_35 (by decide) ?_
      replace h := Option.some.inj h
      exact hret _ _ _ _ _ _ dX8_leader_36 rfl (by rw [← h] <;> rfl) (by rw [← h]; exact hP) hS
    · replace h := ite_f c4 h
      refine lv_iconst (v := 0) hx hb dX8_leader_31 (by decide) ?_
      refine lv_goto (tgt := 36) hx hb dX8_leader_32 (by decide) ?_
      replace h := Option.some.inj h
      exact hret _ _ _ _ _ _ dX8_leader_36 rfl (by rw [← h] <;> rfl) (by rw [← h]; exact hP) hS
  · replace h := ite_t c3 h
    refine lv_iconst (v := (-1)) hx hb dX8_leader_23 (by decide) ?_
    refine lv_goto (tgt := 36) hx hb dX8_leader_24 (by decide) ?_
    replace h := Option.some.inj h
    exact hret _ _ _ _ _ _ dX8_leader_36 rfl (by rw [← h] <;> rfl) (by rw [← h]; exact hP) hS

def fX8_playing_39 (v_ms : Nat → Int32) (rec4 : Int32 → Int32 → Int32 → Option Int32) (x0 : Int32) (x1 : Int32) (l1 : Int32) (l3 : Int32) : Option Int32 :=
  rec4 l1 (x0 + x1) (l3 + 1)
def fX8_playing_4 (v_ms : Nat → Int32) : Nat → Int32 → Int32 → Int32 → Option Int32
  | 0, _, _, _ => none
  | k + 1, l1, l2, l3 =>
    if vin 0 103 = true then
    if (v_ms (0 : Int32).toNatClampNeg) ≤ l3 then
      some l2
    else
      (fX8_of v_ms l3 0).bind fun q3 =>
      if q3 = l1 then
        (fX8_of v_ms l3 4).bind fun q6 =>
        fX8_playing_39 v_ms (fX8_playing_4 v_ms k) l2 (if q6 < 0 then 0 else 1) l1 l3
      else
        fX8_playing_39 v_ms (fX8_playing_4 v_ms k) l2 0 l1 l3
    else none
def fX8_playing (v_ms : Nat → Int32) (p0 : Int32) : Option Int32 :=
  fX8_playing_4 v_ms 64 p0 0 0
set_option maxHeartbeats 4000000 in
set_option maxRecDepth 100000 in
theorem lX8_playing_39 {p : Program} {l : Launch} {e : Env} {s : State} {m : MethodId} {args : Array Value} {below : List Frame} {meth : Method} {c : Code} {Q : State → Prop} {D : va_G} {T : Nat → ClassId} {a_m a_ms a_mw a_mv a_mp a_mf a_ml a_mt a_mc : Nat} {m_chg : Int32} {m_thr : Int32} {m_rea : Int32} {m_det : Int32} {m_ref : Int32} {m_err : Int32} {m_ans : Int32} {m_sav : Int32} {m_net : Int32} {m_lin : Int32} {m_tap : Int32} {m_her : Int32} {m_cmd : Int32} {v_ms : Nat → Int32} {r : Int32} (C : CallFix p m c cX8_playing 4 s args aw RX8) (hE : eK D T s) (hP : va_P D kC [(a_m, .inr (8, [.ref a_ms, .ref a_mw, .ref a_mv, .ref a_mp, .ref a_mf, .int m_chg, .int m_thr, .int m_rea, .int m_det, .int m_ref, .int m_err, .int m_ans, .int m_sav, .int m_net, .ref a_ml, .int m_lin, .ref a_mt, .ref a_mc, .int m_tap, .int m_her, .int m_cmd])), (a_ms, .inl (T 0, 103, .inl v_ms))] s.heap) (hret : RdRet p l e ({ frames := 1, cells := 0, slots := 0, locals := 22 } : Room) s m args below meth c Q cX8_playing .int r) {rec4 : Int32 → Int32 → Int32 → Option Int32} (hrec4 : ∀ (l1 : Int32) (l2 : Int32) (l3 : Int32) (ls : Array Slot) (hl : lv_has ls 4 [(0, .ref a_m), (1, .int l1), (2, .int l2), (3, .int l3)]) (h : rec4 l1 l2 l3 = some r), W p l e ({ frames := 1, cells := 0, slots := 0, locals := 22 } : Room) s m args below meth c s.heap [] 0 0 Q (F0 m 4 ls [])) (x0 : Int32) (x1 : Int32) (l1 : Int32) (l3 : Int32) (ls : Array Slot) (hl : lv_has ls 4 [(0, .ref a_m), (1, .int l1), (3, .int l3)]) (h : fX8_playing_39 v_ms rec4 x0 x1 l1 l3 = some r) : W p l e ({ frames := 1, cells := 0, slots := 0, locals := 22 } : Room) s m args below meth c s.heap [] 0 0 Q (F0 m 39 ls [.int x1, .int x0]) := by
  have hx := C.1
  have hb := C.2.1
  unfold fX8_playing_39 at h
  refine lv_iadd hx hb dX8_playing_39 ?_
  refine lv_istore_n (lv' := [(2, .int (x0 + x1)), (0, .ref a_m), (1, .int l1), (3, .int l3)]) hx hb dX8_playing_40 rfl hl (by decide) rfl (fun ls hl => ?_)
  refine lv_iinc (v := (l3 + 1)) (lv' := [(3, .int (l3 + 1)), (2, .int (x0 + x1)), (0, .ref a_m), (1, .int l1)]) hx hb dX8_playing_41 hl (k := 3) rfl rfl (by decide) rfl (fun ls hl => ?_)
  refine lv_goto (tgt := 4) hx hb dX8_playing_44 (by decide) ?_
  exact hrec4 l1 (x0 + x1) (l3 + 1) _ (lv_sub hl [2, 3, 1, 0] rfl) h
set_option maxHeartbeats 4000000 in
set_option maxRecDepth 100000 in
theorem lX8_playing_4 {p : Program} {l : Launch} {e : Env} {s : State} {m : MethodId} {args : Array Value} {below : List Frame} {meth : Method} {c : Code} {Q : State → Prop} {D : va_G} {T : Nat → ClassId} {a_m a_ms a_mw a_mv a_mp a_mf a_ml a_mt a_mc : Nat} {m_chg : Int32} {m_thr : Int32} {m_rea : Int32} {m_det : Int32} {m_ref : Int32} {m_err : Int32} {m_ans : Int32} {m_sav : Int32} {m_net : Int32} {m_lin : Int32} {m_tap : Int32} {m_her : Int32} {m_cmd : Int32} {v_ms : Nat → Int32} {r : Int32} (C : CallFix p m c cX8_playing 4 s args aw RX8) (hE : eK D T s) (hP : va_P D kC [(a_m, .inr (8, [.ref a_ms, .ref a_mw, .ref a_mv, .ref a_mp, .ref a_mf, .int m_chg, .int m_thr, .int m_rea, .int m_det, .int m_ref, .int m_err, .int m_ans, .int m_sav, .int m_net, .ref a_ml, .int m_lin, .ref a_mt, .ref a_mc, .int m_tap, .int m_her, .int m_cmd])), (a_ms, .inl (T 0, 103, .inl v_ms))] s.heap) (hret : RdRet p l e ({ frames := 1, cells := 0, slots := 0, locals := 22 } : Room) s m args below meth c Q cX8_playing .int r) : ∀ (k : Nat) (l1 : Int32) (l2 : Int32) (l3 : Int32) (ls : Array Slot) (hl : lv_has ls 4 [(0, .ref a_m), (1, .int l1), (2, .int l2), (3, .int l3)]) (h : fX8_playing_4 v_ms k l1 l2 l3 = some r), W p l e ({ frames := 1, cells := 0, slots := 0, locals := 22 } : Room) s m args below meth c s.heap [] 0 0 Q (F0 m 4 ls []) := by
  have hx := C.1
  have hb := C.2.1
  intro k
  induction k with
  | zero =>
    intro l1 l2 l3  ls hl h
    exact nomatch (show (none : Option Int32) = some r from h)
  | succ k ih =>
    intro l1 l2 l3  ls hl h
    rw [fX8_playing_4] at h
    refine lv_iload_n hx hb dX8_playing_4 rfl (lv_at hl 3 rfl) ?_
    refine lv_aload_n hx hb dX8_playing_5 rfl (lv_at hl 0 rfl) ?_
    refine getF (q0 := 0) (k0 := 0) (v := .ref a_ms) C hE hP inA8 rfl rfl (by decide) qFX8_9 rfl rfl dX8_playing_6 ?_
    refine lv_iconst (v := 0) hx hb dX8_playing_9 (by decide) ?_
    replace h := gd h; obtain ⟨g1, h⟩ := h
    refine aldI (q0 := 1) C hE hP rfl g1 dX8_playing_10 ?_
    refine lv_icmp_ge (tgt := 47) hx hb dX8_playing_11 (by decide) (fun c2 => ?_) (fun c2 => ?_)
    · replace h := ite_t c2 h
      refine lv_iload_n hx hb dX8_playing_47 rfl (lv_at hl 2 rfl) ?_
      exact hret _ _ _ _ dX8_playing_48 rfl (Option.some.inj h)
    · replace h := ite_f c2 h
      refine lv_iload_n hx hb dX8_playing_14 rfl (lv_at hl 2 rfl) ?_
      refine lv_aload_n hx hb dX8_playing_15 rfl (lv_at hl 0 rfl) ?_
      refine lv_iload_n hx hb dX8_playing_16 rfl (lv_at hl 3 rfl) ?_
      refine lv_iconst (v := 0) hx hb dX8_playing_17 (by decide) ?_
      replace h := bnd h; obtain ⟨q3, e4, h⟩ := h
      refine rdV C hE hP (kX8_of l D T a_m a_ms a_mw a_mv a_mp a_mf a_ml a_mt a_mc m_chg m_thr m_rea m_det m_ref m_err m_ans m_sav m_net m_lin m_tap m_her m_cmd v_ms l3 0 q3 e4) mX8_of qLX8_90 [0, 1] 0 rfl rfl rfl rfl ⟨rfl, rfl⟩ ⟨Nat.le_of_ble_eq_true rfl, Nat.le_of_ble_eq_true rfl⟩ rfl hl.1 rfl (Nat.le_of_ble_eq_true rfl) dX8_playing_18 ⟨Nat.le_of_ble_eq_true rfl, Nat.le_of_ble_eq_true rfl⟩ ?_
      refine lv_iload_n hx hb dX8_playing_21 rfl (lv_at hl 1 rfl) ?_
      refine lv_icmp_ne (tgt := 38) hx hb dX8_playing_22 (by decide) (fun c5 => ?_) (fun c5 => ?_)
      · replace h := ite_f c5 h
        refine lv_iconst (v := 0) hx hb dX8_playing_38 (by decide) ?_
        exact lX8_playing_39 C hE hP hret ih l2 0 l1 l3 _ (lv_sub hl [0, 1, 3] rfl) h
      · replace h := ite_t c5 h
        refine lv_aload_n hx hb dX8_playing_25 rfl (lv_at hl 0 rfl) ?_
        refine lv_iload_n hx hb dX8_playing_26 rfl (lv_at hl 3 rfl) ?_
        refine lv_iconst (v := 4) hx hb dX8_playing_27 (by decide) ?_
        replace h := bnd h; obtain ⟨q6, e7, h⟩ := h
        refine rdV C hE hP (kX8_of l D T a_m a_ms a_mw a_mv a_mp a_mf a_ml a_mt a_mc m_chg m_thr m_rea m_det m_ref m_err m_ans m_sav m_net m_lin m_tap m_her m_cmd v_ms l3 4 q6 e7) mX8_of qLX8_90 [0, 1] 0 rfl rfl rfl rfl ⟨rfl, rfl⟩ ⟨Nat.le_of_ble_eq_true rfl, Nat.le_of_ble_eq_true rfl⟩ rfl hl.1 rfl (Nat.le_of_ble_eq_true rfl) dX8_playing_28 ⟨Nat.le_of_ble_eq_true rfl, Nat.le_of_ble_eq_true rfl⟩ ?_
        refine lv_if_lt (tgt := 38) hx hb dX8_playing_31 (by decide) (fun c8 => ?_) (fun c8 => ?_)
        · rw [if_pos c8] at h
          refine lv_iconst (v := 0) hx hb dX8_playing_38 (by decide) ?_
          exact lX8_playing_39 C hE hP hret ih l2 0 l1 l3 _ (lv_sub hl [0, 1, 3] rfl) h
        · rw [if_neg c8] at h
          refine lv_iconst (v := 1) hx hb dX8_playing_34 (by decide) ?_
          refine lv_goto (tgt := 39) hx hb dX8_playing_35 (by decide) ?_
          exact lX8_playing_39 C hE hP hret ih l2 1 l1 l3 _ (lv_sub hl [0, 1, 3] rfl) h
set_option maxHeartbeats 4000000 in
set_option maxRecDepth 100000 in
theorem kX8_playing (l : Launch) (D : va_G) (T : Nat → ClassId) (a_m a_ms a_mw a_mv a_mp a_mf a_ml a_mt a_mc : Nat) (m_chg : Int32) (m_thr : Int32) (m_rea : Int32) (m_det : Int32) (m_ref : Int32) (m_err : Int32) (m_ans : Int32) (m_sav : Int32) (m_net : Int32) (m_lin : Int32) (m_tap : Int32) (m_her : Int32) (m_cmd : Int32) (v_ms : Nat → Int32) (p0 : Int32) (r : Int32) (h : fX8_playing v_ms p0 = some r) : RdI l yX8_playing cX8_playing 4 .int ({ frames := 1, cells := 0, slots := 0, locals := 22 } : Room) D T [(a_m, .inr (8, [.ref a_ms, .ref a_mw, .ref a_mv, .ref a_mp, .ref a_mf, .int m_chg, .int m_thr, .int m_rea, .int m_det, .int m_ref, .int m_err, .int m_ans, .int m_sav, .int m_net, .ref a_ml, .int m_lin, .ref a_mt, .ref a_mc, .int m_tap, .int m_her, .int m_cmd])), (a_ms, .inl (T 0, 103, .inl v_ms))] [.ref a_m, .int p0] r := by
  unfold fX8_playing at h
  refine rdMet (by decide +kernel) rfl (fun p e s m args below meth c Q C hE hP hret ls hl => ?_)
  have hx := C.1
  have hb := C.2.1
  have hl : lv_has ls 4 [(0, .ref a_m), (1, .int p0)] := hl
  refine lv_iconst (v := 0) hx hb dX8_playing_0 (by decide) ?_
  refine lv_istore_n (lv' := [(2, .int 0), (0, .ref a_m), (1, .int p0)]) hx hb dX8_playing_1 rfl hl (by decide) rfl (fun ls hl => ?_)
  refine lv_iconst (v := 0) hx hb dX8_playing_2 (by decide) ?_
  refine lv_istore_n (lv' := [(3, .int 0), (2, .int 0), (0, .ref a_m), (1, .int p0)]) hx hb dX8_playing_3 rfl hl (by decide) rfl (fun ls hl => ?_)
  exact lX8_playing_4 C hE hP hret 64 p0 0 0 _ (lv_sub hl [2, 3, 1, 0] rfl) h

def fX8_isFair_70 (v_ms : Nat → Int32) (rec31 : Int32 → Int32 → Int32 → Option (Int32 × Int32)) (x0 : Int32) (x1 : Int32) (l2 : Int32) (m_thr : Int32) : Option (Int32 × Int32) :=
  rec31 (x0 &&& x1) (l2 + 1) m_thr
def fX8_isFair_31 (v_ms : Nat → Int32) : Nat → Int32 → Int32 → Int32 → Option (Int32 × Int32)
  | 0, _, _, _ => none
  | k + 1, l1, l2, m_thr =>
    if vin 0 103 = true then
    if (v_ms (0 : Int32).toNatClampNeg) ≤ l2 then
      some ((l1 &&& 1), m_thr)
    else
      (fX8_of v_ms l2 4).bind fun q9 =>
      if q9 < 0 then
        fX8_isFair_70 v_ms (fX8_isFair_31 v_ms k) l1 1 l2 m_thr
      else
        (fX8_of v_ms l2 4).bind fun q12 =>
        (fX8_whaleAt v_ms q12).bind fun q14 =>
        fX8_isFair_70 v_ms (fX8_isFair_31 v_ms k) l1 (if q14 = l2 then 1 else 0) l2 m_thr
    else none
def fX8_isFair_28 (v_ms : Nat → Int32) (x0 : Int32) (m_thr : Int32) : Option (Int32 × Int32) :=
  fX8_isFair_31 v_ms 64 x0 0 m_thr
def fX8_isFair (m_thr : Int32) (v_ms : Nat → Int32) : Option (Int32 × Int32) :=
  (fX8_playing v_ms 0).bind fun q1 =>
  if 3 < q1 then
    fX8_isFair_28 v_ms 0 0
  else
    (fX8_playing v_ms 1).bind fun q4 =>
    fX8_isFair_28 v_ms (if 3 < q4 then 0 else 1) 0
set_option maxHeartbeats 4000000 in
set_option maxRecDepth 100000 in
theorem lX8_isFair_70 {p : Program} {l : Launch} {e : Env} {s : State} {m : MethodId} {args : Array Value} {below : List Frame} {meth : Method} {c : Code} {Q : State → Prop} {D : va_G} {T : Nat → ClassId} {a_m a_ms a_mw a_mv a_mp a_mf a_ml a_mt a_mc : Nat} {m_chg : Int32} {m_rea : Int32} {m_det : Int32} {m_ref : Int32} {m_err : Int32} {m_ans : Int32} {m_sav : Int32} {m_net : Int32} {m_lin : Int32} {m_tap : Int32} {m_her : Int32} {m_cmd : Int32} {v_ms : Nat → Int32} {A : Nat → Prop} {r : Int32 × Int32} (C : CallFix p m c cX8_isFair 3 s args aw RX8) (hE : eK D T s) (hA : ∀ q : Nat, s.heap.size ≤ q → A q) (hret : WrRet p l e ({ frames := 2, cells := 0, slots := 0, locals := 45 } : Room) s m args below meth c Q cX8_isFair .boolean D A [(a_m, .inr (8, [.ref a_ms, .ref a_mw, .ref a_mv, .ref a_mp, .ref a_mf, .int m_chg, .int r.2, .int m_rea, .int m_det, .int m_ref, .int m_err, .int m_ans, .int m_sav, .int m_net, .ref a_ml, .int m_lin, .ref a_mt, .ref a_mc, .int m_tap, .int m_her, .int m_cmd])), (a_ms, .inl (T 0, 103, .inl v_ms))] r.1) {rec31 : Int32 → Int32 → Int32 → Option (Int32 × Int32)} (hrec31 : ∀ (l1 : Int32) (l2 : Int32) (m_thr : Int32) {H : Heap} {locs : List Loc} (hPD : va_PD D A [(a_m, .inr (8, [.ref a_ms, .ref a_mw, .ref a_mv, .ref a_mp, .ref a_mf, .int m_chg, .int m_thr, .int m_rea, .int m_det, .int m_ref, .int m_err, .int m_ans, .int m_sav, .int m_net, .ref a_ml, .int m_lin, .ref a_mt, .ref a_mc, .int m_tap, .int m_her, .int m_cmd])), (a_ms, .inl (T 0, 103, .inl v_ms))] H) (hS : va_S A s.heap H locs) (ls : Array Slot) (hl : lv_has ls 3 [(0, .ref a_m), (1, .int l1), (2, .int l2)]) (h : rec31 l1 l2 m_thr = some r), W p l e ({ frames := 2, cells := 0, slots := 0, locals := 45 } : Room) s m args below meth c H locs 0 0 Q (F0 m 31 ls [])) (x0 : Int32) (x1 : Int32) (l2 : Int32) (m_thr : Int32) {H : Heap} {locs : List Loc} (hPD : va_PD D A [(a_m, .inr (8, [.ref a_ms, .ref a_mw, .ref a_mv, .ref a_mp, .ref a_mf, .int m_chg, .int m_thr, .int m_rea, .int m_det, .int m_ref, .int m_err, .int m_ans, .int m_sav, .int m_net, .ref a_ml, .int m_lin, .ref a_mt, .ref a_mc, .int m_tap, .int m_her, .int m_cmd])), (a_ms, .inl (T 0, 103, .inl v_ms))] H) (hS : va_S A s.heap H locs) (ls : Array Slot) (hl : lv_has ls 3 [(0, .ref a_m), (2, .int l2)]) (h : fX8_isFair_70 v_ms rec31 x0 x1 l2 m_thr = some r) : W p l e ({ frames := 2, cells := 0, slots := 0, locals := 45 } : Room) s m args below meth c H locs 0 0 Q (F0 m 70 ls [.int x1, .int x0]) := by
  have hx := C.1
  have hb := C.2.1
  obtain ⟨hP, hD⟩ := hPD
  unfold fX8_isFair_70 at h
  refine lv_iand hx hb dX8_isFair_70 ?_
  refine lv_istore_n (lv' := [(1, .int (x0 &&& x1)), (0, .ref a_m), (2, .int l2)]) hx hb dX8_isFair_71 rfl hl (by decide) rfl (fun ls hl => ?_)
  refine lv_iinc (v := (l2 + 1)) (lv' := [(2, .int (l2 + 1)), (1, .int (x0 &&& x1)), (0, .ref a_m)]) hx hb dX8_isFair_72 hl (k := 2) rfl rfl (by decide) rfl (fun ls hl => ?_)
  refine lv_goto (tgt := 31) hx hb dX8_isFair_75 (by decide) ?_
  exact hrec31 (x0 &&& x1) (l2 + 1) m_thr ⟨hP, hD⟩ hS _ (lv_sub hl [2, 1, 0] rfl) h
set_option maxHeartbeats 4000000 in
set_option maxRecDepth 100000 in
theorem lX8_isFair_31 {p : Program} {l : Launch} {e : Env} {s : State} {m : MethodId} {args : Array Value} {below : List Frame} {meth : Method} {c : Code} {Q : State → Prop} {D : va_G} {T : Nat → ClassId} {a_m a_ms a_mw a_mv a_mp a_mf a_ml a_mt a_mc : Nat} {m_chg : Int32} {m_rea : Int32} {m_det : Int32} {m_ref : Int32} {m_err : Int32} {m_ans : Int32} {m_sav : Int32} {m_net : Int32} {m_lin : Int32} {m_tap : Int32} {m_her : Int32} {m_cmd : Int32} {v_ms : Nat → Int32} {A : Nat → Prop} {r : Int32 × Int32} (C : CallFix p m c cX8_isFair 3 s args aw RX8) (hE : eK D T s) (hA : ∀ q : Nat, s.heap.size ≤ q → A q) (hret : WrRet p l e ({ frames := 2, cells := 0, slots := 0, locals := 45 } : Room) s m args below meth c Q cX8_isFair .boolean D A [(a_m, .inr (8, [.ref a_ms, .ref a_mw, .ref a_mv, .ref a_mp, .ref a_mf, .int m_chg, .int r.2, .int m_rea, .int m_det, .int m_ref, .int m_err, .int m_ans, .int m_sav, .int m_net, .ref a_ml, .int m_lin, .ref a_mt, .ref a_mc, .int m_tap, .int m_her, .int m_cmd])), (a_ms, .inl (T 0, 103, .inl v_ms))] r.1) : ∀ (k : Nat) (l1 : Int32) (l2 : Int32) (m_thr : Int32) {H : Heap} {locs : List Loc} (hPD : va_PD D A [(a_m, .inr (8, [.ref a_ms, .ref a_mw, .ref a_mv, .ref a_mp, .ref a_mf, .int m_chg, .int m_thr, .int m_rea, .int m_det, .int m_ref, .int m_err, .int m_ans, .int m_sav, .int m_net, .ref a_ml, .int m_lin, .ref a_mt, .ref a_mc, .int m_tap, .int m_her, .int m_cmd])), (a_ms, .inl (T 0, 103, .inl v_ms))] H) (hS : va_S A s.heap H locs) (ls : Array Slot) (hl : lv_has ls 3 [(0, .ref a_m), (1, .int l1), (2, .int l2)]) (h : fX8_isFair_31 v_ms k l1 l2 m_thr = some r), W p l e ({ frames := 2, cells := 0, slots := 0, locals := 45 } : Room) s m args below meth c H locs 0 0 Q (F0 m 31 ls []) := by
  have hx := C.1
  have hb := C.2.1
  intro k
  induction k with
  | zero =>
    intro l1 l2 m_thr H locs hPD hS ls hl h
    exact nomatch (show (none : Option (Int32 × Int32)) = some r from h)
  | succ k ih =>
    intro l1 l2 m_thr H locs hPD hS ls hl h
    obtain ⟨hP, hD⟩ := hPD
    rw [fX8_isFair_31] at h
    refine lv_iload_n hx hb dX8_isFair_31 rfl (lv_at hl 2 rfl) ?_
    refine lv_aload_n hx hb dX8_isFair_32 rfl (lv_at hl 0 rfl) ?_
    refine getF (q0 := 0) (k0 := 0) (v := .ref a_ms) C hE hP inA8 rfl rfl (by decide) qFX8_9 rfl rfl dX8_isFair_33 ?_
    refine lv_iconst (v := 0) hx hb dX8_isFair_36 (by decide) ?_
    replace h := gd h; obtain ⟨g7, h⟩ := h
    refine aldI (q0 := 1) C hE hP rfl g7 dX8_isFair_37 ?_
    refine lv_icmp_ge (tgt := 78) hx hb dX8_isFair_38 (by decide) (fun c8 => ?_) (fun c8 => ?_)
    · replace h := ite_t c8 h
      refine lv_iload_n hx hb dX8_isFair_78 rfl (lv_at hl 1 rfl) ?_
      replace h := Option.some.inj h
      exact hret _ _ _ _ _ _ dX8_isFair_79 rfl (by rw [← h] <;> rfl) (by rw [← h]; exact hP) hS
    · replace h := ite_f c8 h
      refine lv_iload_n hx hb dX8_isFair_41 rfl (lv_at hl 1 rfl) ?_
      refine lv_aload_n hx hb dX8_isFair_42 rfl (lv_at hl 0 rfl) ?_
      refine lv_iload_n hx hb dX8_isFair_43 rfl (lv_at hl 2 rfl) ?_
      refine lv_iconst (v := 4) hx hb dX8_isFair_44 (by decide) ?_
      replace h := bnd h; obtain ⟨q9, e10, h⟩ := h
      refine rdV C hE hP (kX8_of l D T a_m a_ms a_mw a_mv a_mp a_mf a_ml a_mt a_mc m_chg m_thr m_rea m_det m_ref m_err m_ans m_sav m_net m_lin m_tap m_her m_cmd v_ms l2 4 q9 e10) mX8_of qLX8_90 [0, 1] 0 rfl rfl rfl rfl ⟨rfl, rfl⟩ ⟨Nat.le_of_ble_eq_true rfl, Nat.le_of_ble_eq_true rfl⟩ rfl hl.1 rfl (Nat.le_of_ble_eq_true rfl) dX8_isFair_45 ⟨Nat.le_of_ble_eq_true rfl, Nat.le_of_ble_eq_true rfl⟩ ?_
      refine lv_if_lt (tgt := 65) hx hb dX8_isFair_48 (by decide) (fun c11 => ?_) (fun c11 => ?_)
      · replace h := ite_t c11 h
        refine lv_iconst (v := 1) hx hb dX8_isFair_65 (by decide) ?_
        refine lv_goto (tgt := 70) hx hb dX8_isFair_66 (by decide) ?_
        exact lX8_isFair_70 C hE hA hret ih l1 1 l2 m_thr ⟨hP, hD⟩ hS _ (lv_sub hl [0, 2] rfl) h
      · replace h := ite_f c11 h
        refine lv_aload_n hx hb dX8_isFair_51 rfl (lv_at hl 0 rfl) ?_
        refine lv_aload_n hx hb dX8_isFair_52 rfl (lv_at hl 0 rfl) ?_
        refine lv_iload_n hx hb dX8_isFair_53 rfl (lv_at hl 2 rfl) ?_
        refine lv_iconst (v := 4) hx hb dX8_isFair_54 (by decide) ?_
        replace h := bnd h; obtain ⟨q12, e13, h⟩ := h
        refine rdV C hE hP (kX8_of l D T a_m a_ms a_mw a_mv a_mp a_mf a_ml a_mt a_mc m_chg m_thr m_rea m_det m_ref m_err m_ans m_sav m_net m_lin m_tap m_her m_cmd v_ms l2 4 q12 e13) mX8_of qLX8_90 [0, 1] 0 rfl rfl rfl rfl ⟨rfl, rfl⟩ ⟨Nat.le_of_ble_eq_true rfl, Nat.le_of_ble_eq_true rfl⟩ rfl hl.1 rfl (Nat.le_of_ble_eq_true rfl) dX8_isFair_55 ⟨Nat.le_of_ble_eq_true rfl, Nat.le_of_ble_eq_true rfl⟩ ?_
        replace h := bnd h; obtain ⟨q14, e15, h⟩ := h
        refine rdV C hE hP (kX8_whaleAt l D T a_m a_ms a_mw a_mv a_mp a_mf a_ml a_mt a_mc m_chg m_thr m_rea m_det m_ref m_err m_ans m_sav m_net m_lin m_tap m_her m_cmd v_ms q12 q14 e15) mX8_whaleAt qLX8_93 [0, 1] 0 rfl rfl rfl rfl ⟨rfl, rfl⟩ ⟨Nat.le_of_ble_eq_true rfl, Nat.le_of_ble_eq_true rfl⟩ rfl hl.1 rfl (Nat.le_of_ble_eq_true rfl) dX8_isFair_58 ⟨Nat.le_of_ble_eq_true rfl, Nat.le_of_ble_eq_true rfl⟩ ?_
        refine lv_iload_n hx hb dX8_isFair_61 rfl (lv_at hl 2 rfl) ?_
        refine lv_icmp_ne (tgt := 69) hx hb dX8_isFair_62 (by decide) (fun c16 => ?_) (fun c16 => ?_)
        · rw [if_neg c16] at h
          refine lv_iconst (v := 0) hx hb dX8_isFair_69 (by decide) ?_
          exact lX8_isFair_70 C hE hA hret ih l1 0 l2 m_thr ⟨hP, hD⟩ hS _ (lv_sub hl [0, 2] rfl) h
        · rw [if_pos c16] at h
          refine lv_iconst (v := 1) hx hb dX8_isFair_65 (by decide) ?_
          refine lv_goto (tgt := 70) hx hb dX8_isFair_66 (by decide) ?_
          exact lX8_isFair_70 C hE hA hret ih l1 1 l2 m_thr ⟨hP, hD⟩ hS _ (lv_sub hl [0, 2] rfl) h
set_option maxHeartbeats 4000000 in
set_option maxRecDepth 100000 in
theorem lX8_isFair_28 {p : Program} {l : Launch} {e : Env} {s : State} {m : MethodId} {args : Array Value} {below : List Frame} {meth : Method} {c : Code} {Q : State → Prop} {D : va_G} {T : Nat → ClassId} {a_m a_ms a_mw a_mv a_mp a_mf a_ml a_mt a_mc : Nat} {m_chg : Int32} {m_rea : Int32} {m_det : Int32} {m_ref : Int32} {m_err : Int32} {m_ans : Int32} {m_sav : Int32} {m_net : Int32} {m_lin : Int32} {m_tap : Int32} {m_her : Int32} {m_cmd : Int32} {v_ms : Nat → Int32} {A : Nat → Prop} {r : Int32 × Int32} (C : CallFix p m c cX8_isFair 3 s args aw RX8) (hE : eK D T s) (hA : ∀ q : Nat, s.heap.size ≤ q → A q) (hret : WrRet p l e ({ frames := 2, cells := 0, slots := 0, locals := 45 } : Room) s m args below meth c Q cX8_isFair .boolean D A [(a_m, .inr (8, [.ref a_ms, .ref a_mw, .ref a_mv, .ref a_mp, .ref a_mf, .int m_chg, .int r.2, .int m_rea, .int m_det, .int m_ref, .int m_err, .int m_ans, .int m_sav, .int m_net, .ref a_ml, .int m_lin, .ref a_mt, .ref a_mc, .int m_tap, .int m_her, .int m_cmd])), (a_ms, .inl (T 0, 103, .inl v_ms))] r.1) (x0 : Int32) (m_thr : Int32) {H : Heap} {locs : List Loc} (hPD : va_PD D A [(a_m, .inr (8, [.ref a_ms, .ref a_mw, .ref a_mv, .ref a_mp, .ref a_mf, .int m_chg, .int m_thr, .int m_rea, .int m_det, .int m_ref, .int m_err, .int m_ans, .int m_sav, .int m_net, .ref a_ml, .int m_lin, .ref a_mt, .ref a_mc, .int m_tap, .int m_her, .int m_cmd])), (a_ms, .inl (T 0, 103, .inl v_ms))] H) (hS : va_S A s.heap H locs) (ls : Array Slot) (hl : lv_has ls 3 [(0, .ref a_m)]) (h : fX8_isFair_28 v_ms x0 m_thr = some r) : W p l e ({ frames := 2, cells := 0, slots := 0, locals := 45 } : Room) s m args below meth c H locs 0 0 Q (F0 m 28 ls [.int x0]) := by
  have hx := C.1
  have hb := C.2.1
  obtain ⟨hP, hD⟩ := hPD
  unfold fX8_isFair_28 at h
  refine lv_istore_n (lv' := [(1, .int x0), (0, .ref a_m)]) hx hb dX8_isFair_28 rfl hl (by decide) rfl (fun ls hl => ?_)
  refine lv_iconst (v := 0) hx hb dX8_isFair_29 (by decide) ?_
  refine lv_istore_n (lv' := [(2, .int 0), (1, .int x0), (0, .ref a_m)]) hx hb dX8_isFair_30 rfl hl (by decide) rfl (fun ls hl => ?_)
  exact lX8_isFair_31 C hE hA hret 64 x0 0 m_thr ⟨hP, hD⟩ hS _ (lv_sub hl [2, 1, 0] rfl) h
set_option maxHeartbeats 4000000 in
set_option maxRecDepth 100000 in
theorem kX8_isFair (l : Launch) (D : va_G) (T : Nat → ClassId) (a_m a_ms a_mw a_mv a_mp a_mf a_ml a_mt a_mc : Nat) (m_chg : Int32) (m_thr : Int32) (m_rea : Int32) (m_det : Int32) (m_ref : Int32) (m_err : Int32) (m_ans : Int32) (m_sav : Int32) (m_net : Int32) (m_lin : Int32) (m_tap : Int32) (m_her : Int32) (m_cmd : Int32) (v_ms : Nat → Int32) (sz : Nat) (r : Int32 × Int32) (h : fX8_isFair m_thr v_ms = some r) : WrI l yX8_isFair cX8_isFair 3 .boolean ({ frames := 2, cells := 0, slots := 0, locals := 45 } : Room) D T sz [(a_m, .inr (8, [.ref a_ms, .ref a_mw, .ref a_mv, .ref a_mp, .ref a_mf, .int m_chg, .int m_thr, .int m_rea, .int m_det, .int m_ref, .int m_err, .int m_ans, .int m_sav, .int m_net, .ref a_ml, .int m_lin, .ref a_mt, .ref a_mc, .int m_tap, .int m_her, .int m_cmd])), (a_ms, .inl (T 0, 103, .inl v_ms))] [(a_m, .inr (8, [.ref a_ms, .ref a_mw, .ref a_mv, .ref a_mp, .ref a_mf, .int m_chg, .int r.2, .int m_rea, .int m_det, .int m_ref, .int m_err, .int m_ans, .int m_sav, .int m_net, .ref a_ml, .int m_lin, .ref a_mt, .ref a_mc, .int m_tap, .int m_her, .int m_cmd])), (a_ms, .inl (T 0, 103, .inl v_ms))] [.ref a_m] r.1 := by
  unfold fX8_isFair at h
  refine wrMet (by decide +kernel) rfl (fun p e s m args below meth c Q A C hE hA hP hD hS hret ls hl => ?_)
  have hx := C.1
  have hb := C.2.1
  have hl : lv_has ls 3 [(0, .ref a_m)] := hl
  refine lv_aload_n hx hb dX8_isFair_0 rfl (lv_at hl 0 rfl) ?_
  refine lv_iconst (v := 0) hx hb dX8_isFair_1 (by decide) ?_
  refine putF (q0 := 0) (k0 := 6) (ws1 := [(a_m, .inr (8, [.ref a_ms, .ref a_mw, .ref a_mv, .ref a_mp, .ref a_mf, .int m_chg, .int 0, .int m_rea, .int m_det, .int m_ref, .int m_err, .int m_ans, .int m_sav, .int m_net, .ref a_ml, .int m_lin, .ref a_mt, .ref a_mc, .int m_tap, .int m_her, .int m_cmd])), (a_ms, .inl (T 0, 103, .inl v_ms))]) C hE hP hD hS inA8 tyX8_ok nmX8 rfl rfl (by decide) qFX8_41 rfl rfl rfl rfl (Nat.le_of_ble_eq_true rfl) rfl dX8_isFair_2 ?_; clear hP hD hS; intro H locs hP hD hS
  refine lv_aload_n hx hb dX8_isFair_5 rfl (lv_at hl 0 rfl) ?_
  refine lv_iconst (v := 0) hx hb dX8_isFair_6 (by decide) ?_
  replace h := bnd h; obtain ⟨q1, e2, h⟩ := h
  refine rdV C hE hP (kX8_playing l D T a_m a_ms a_mw a_mv a_mp a_mf a_ml a_mt a_mc m_chg 0 m_rea m_det m_ref m_err m_ans m_sav m_net m_lin m_tap m_her m_cmd v_ms 0 q1 e2) mX8_playing qLX8_196 [0, 1] 0 rfl rfl rfl rfl ⟨rfl, rfl⟩ ⟨Nat.le_of_ble_eq_true rfl, Nat.le_of_ble_eq_true rfl⟩ rfl hl.1 rfl (Nat.le_of_ble_eq_true rfl) dX8_isFair_7 ⟨Nat.le_of_ble_eq_true rfl, Nat.le_of_ble_eq_true rfl⟩ ?_
  refine lv_iconst (v := 3) hx hb dX8_isFair_10 (by decide) ?_
  refine lv_icmp_gt (tgt := 27) hx hb dX8_isFair_11 (by decide) (fun c3 => ?_) (fun c3 => ?_)
  · replace h := ite_t c3 h
    refine lv_iconst (v := 0) hx hb dX8_isFair_27 (by decide) ?_
    exact lX8_isFair_28 C hE hA hret 0 0 ⟨hP, hD⟩ hS _ (lv_sub hl [0] rfl) h
  · replace h := ite_f c3 h
    refine lv_aload_n hx hb dX8_isFair_14 rfl (lv_at hl 0 rfl) ?_
    refine lv_iconst (v := 1) hx hb dX8_isFair_15 (by decide) ?_
    replace h := bnd h; obtain ⟨q4, e5, h⟩ := h
    refine rdV C hE hP (kX8_playing l D T a_m a_ms a_mw a_mv a_mp a_mf a_ml a_mt a_mc m_chg 0 m_rea m_det m_ref m_err m_ans m_sav m_net m_lin m_tap m_her m_cmd v_ms 1 q4 e5) mX8_playing qLX8_196 [0, 1] 0 rfl rfl rfl rfl ⟨rfl, rfl⟩ ⟨Nat.le_of_ble_eq_true rfl, Nat.le_of_ble_eq_true rfl⟩ rfl hl.1 rfl (Nat.le_of_ble_eq_true rfl) dX8_isFair_16 ⟨Nat.le_of_ble_eq_true rfl, Nat.le_of_ble_eq_true rfl⟩ ?_
    refine lv_iconst (v := 3) hx hb dX8_isFair_19 (by decide) ?_
    refine lv_icmp_gt (tgt := 27) hx hb dX8_isFair_20 (by decide) (fun c6 => ?_) (fun c6 => ?_)
    · rw [if_pos c6] at h
      refine lv_iconst (v := 0) hx hb dX8_isFair_27 (by decide) ?_
      exact lX8_isFair_28 C hE hA hret 0 0 ⟨hP, hD⟩ hS _ (lv_sub hl [0] rfl) h
    · rw [if_neg c6] at h
      refine lv_iconst (v := 1) hx hb dX8_isFair_23 (by decide) ?_
      refine lv_goto (tgt := 28) hx hb dX8_isFair_24 (by decide) ?_
      exact lX8_isFair_28 C hE hA hret 1 0 ⟨hP, hD⟩ hS _ (lv_sub hl [0] rfl) h

def fX8_puts (m_lin : Int32) (v_ml : Nat → Int32) (p0 : Int32) : Option (Int32 × (Nat → Int32)) :=
  if vin m_lin 40 = true then
  some ((m_lin + 1), (upd v_ml m_lin.toNatClampNeg p0))
  else none
set_option maxHeartbeats 4000000 in
set_option maxRecDepth 100000 in
theorem kX8_puts (l : Launch) (D : va_G) (T : Nat → ClassId) (a_m a_ms a_mw a_mv a_mp a_mf a_ml a_mt a_mc : Nat) (m_chg : Int32) (m_thr : Int32) (m_rea : Int32) (m_det : Int32) (m_ref : Int32) (m_err : Int32) (m_ans : Int32) (m_sav : Int32) (m_net : Int32) (m_lin : Int32) (m_tap : Int32) (m_her : Int32) (m_cmd : Int32) (v_ml : Nat → Int32) (p0 : Int32) (sz : Nat) (r : Int32 × (Nat → Int32)) (h : fX8_puts m_lin v_ml p0 = some r) : WrV l yX8_puts cX8_puts 2 ({ frames := 0, cells := 0, slots := 0, locals := 0 } : Room) D T sz [(a_m, .inr (8, [.ref a_ms, .ref a_mw, .ref a_mv, .ref a_mp, .ref a_mf, .int m_chg, .int m_thr, .int m_rea, .int m_det, .int m_ref, .int m_err, .int m_ans, .int m_sav, .int m_net, .ref a_ml, .int m_lin, .ref a_mt, .ref a_mc, .int m_tap, .int m_her, .int m_cmd])), (a_ml, .inl (T 0, 40, .inl v_ml))] [(a_m, .inr (8, [.ref a_ms, .ref a_mw, .ref a_mv, .ref a_mp, .ref a_mf, .int m_chg, .int m_thr, .int m_rea, .int m_det, .int m_ref, .int m_err, .int m_ans, .int m_sav, .int m_net, .ref a_ml, .int r.1, .ref a_mt, .ref a_mc, .int m_tap, .int m_her, .int m_cmd])), (a_ml, .inl (T 0, 40, .inl r.2))] [.ref a_m, .int p0] := by
  unfold fX8_puts at h
  refine wrMetV (by decide +kernel) rfl (fun p e s m args below meth c Q A C hE hA hP hD hS hret ls hl => ?_)
  have hx := C.1
  have hb := C.2.1
  have hl : lv_has ls 2 [(0, .ref a_m), (1, .int p0)] := hl
  refine lv_aload_n hx hb dX8_puts_0 rfl (lv_at hl 0 rfl) ?_
  refine getF (q0 := 0) (k0 := 14) (v := .ref a_ml) C hE hP inA8 rfl rfl (by decide) qFX8_32 rfl rfl dX8_puts_1 ?_
  refine lv_aload_n hx hb dX8_puts_4 rfl (lv_at hl 0 rfl) ?_
  refine getF (q0 := 0) (k0 := 15) (v := .int m_lin) C hE hP inA8 rfl rfl (by decide) qFX8_199 rfl rfl dX8_puts_5 ?_
  refine lv_iload_n hx hb dX8_puts_8 rfl (lv_at hl 1 rfl) ?_
  replace h := gd h; obtain ⟨g1, h⟩ := h
  refine astI (q0 := 1) (ws1 := [(a_m, .inr (8, [.ref a_ms, .ref a_mw, .ref a_mv, .ref a_mp, .ref a_mf, .int m_chg, .int m_thr, .int m_rea, .int m_det, .int m_ref, .int m_err, .int m_ans, .int m_sav, .int m_net, .ref a_ml, .int m_lin, .ref a_mt, .ref a_mc, .int m_tap, .int m_her, .int m_cmd])), (a_ml, .inl (T 0, 40, .inl (upd v_ml m_lin.toNatClampNeg p0)))]) C hE hP hD hS rfl g1 rfl dX8_puts_9 ?_; clear hP hD hS; intro H locs hP hD hS
  refine lv_aload_n hx hb dX8_puts_10 rfl (lv_at hl 0 rfl) ?_
  refine lv_dup hx hb dX8_puts_11 rfl ?_
  refine getF (q0 := 0) (k0 := 15) (v := .int m_lin) C hE hP inA8 rfl rfl (by decide) qFX8_199 rfl rfl dX8_puts_12 ?_
  refine lv_iconst (v := 1) hx hb dX8_puts_15 (by decide) ?_
  refine lv_iadd hx hb dX8_puts_16 ?_
  refine putF (q0 := 0) (k0 := 15) (ws1 := [(a_m, .inr (8, [.ref a_ms, .ref a_mw, .ref a_mv, .ref a_mp, .ref a_mf, .int m_chg, .int m_thr, .int m_rea, .int m_det, .int m_ref, .int m_err, .int m_ans, .int m_sav, .int m_net, .ref a_ml, .int (m_lin + 1), .ref a_mt, .ref a_mc, .int m_tap, .int m_her, .int m_cmd])), (a_ml, .inl (T 0, 40, .inl (upd v_ml m_lin.toNatClampNeg p0)))]) C hE hP hD hS inA8 tyX8_ok nmX8 rfl rfl (by decide) qFX8_199 rfl rfl rfl rfl (Nat.le_of_ble_eq_true rfl) rfl dX8_puts_17 ?_; clear hP hD hS; intro H locs hP hD hS
  replace h := Option.some.inj h
  exact hret _ _ _ _ dX8_puts_20 (by rw [← h]; exact hP) hS

def fX8_number_0_14 (l1 : Int32) (m_lin : Int32) (v_ml : Nat → Int32) : Option (Int32 × (Nat → Int32)) :=
  (fX8_puts m_lin v_ml (48 + (l1 - l1 / 10 * 10))).bind fun q2 =>
  some (q2.1, q2.2)
def fX8_number_0 (m_lin : Int32) (v_ml : Nat → Int32) (p0 : Int32) : Option (Int32 × (Nat → Int32)) :=
  if p0 < 10 then
    fX8_number_0_14 p0 m_lin v_ml
  else
    none
set_option maxHeartbeats 4000000 in
set_option maxRecDepth 100000 in
theorem lX8_number_0_14 {p : Program} {l : Launch} {e : Env} {s : State} {m : MethodId} {args : Array Value} {below : List Frame} {meth : Method} {c : Code} {Q : State → Prop} {D : va_G} {T : Nat → ClassId} {a_m a_ms a_mw a_mv a_mp a_mf a_ml a_mt a_mc : Nat} {m_chg : Int32} {m_thr : Int32} {m_rea : Int32} {m_det : Int32} {m_ref : Int32} {m_err : Int32} {m_ans : Int32} {m_sav : Int32} {m_net : Int32} {m_tap : Int32} {m_her : Int32} {m_cmd : Int32} {A : Nat → Prop} {r : Int32 × (Nat → Int32)} (C : CallFix p m c cX8_number 2 s args aw RX8) (hE : eK D T s) (hA : ∀ q : Nat, s.heap.size ≤ q → A q) (hret : WrRetV p l e ({ frames := 1, cells := 0, slots := 0, locals := 21 } : Room) s m args below meth c Q cX8_number D A [(a_m, .inr (8, [.ref a_ms, .ref a_mw, .ref a_mv, .ref a_mp, .ref a_mf, .int m_chg, .int m_thr, .int m_rea, .int m_det, .int m_ref, .int m_err, .int m_ans, .int m_sav, .int m_net, .ref a_ml, .int r.1, .ref a_mt, .ref a_mc, .int m_tap, .int m_her, .int m_cmd])), (a_ml, .inl (T 0, 40, .inl r.2))]) (l1 : Int32) (m_lin : Int32) (v_ml : Nat → Int32) {H : Heap} {locs : List Loc} (hPD : va_PD D A [(a_m, .inr (8, [.ref a_ms, .ref a_mw, .ref a_mv, .ref a_mp, .ref a_mf, .int m_chg, .int m_thr, .int m_rea, .int m_det, .int m_ref, .int m_err, .int m_ans, .int m_sav, .int m_net, .ref a_ml, .int m_lin, .ref a_mt, .ref a_mc, .int m_tap, .int m_her, .int m_cmd])), (a_ml, .inl (T 0, 40, .inl v_ml))] H) (hS : va_S A s.heap H locs) (ls : Array Slot) (hl : lv_has ls 2 [(0, .ref a_m), (1, .int l1)]) (h : fX8_number_0_14 l1 m_lin v_ml = some r) : W p l e ({ frames := 1, cells := 0, slots := 0, locals := 21 } : Room) s m args below meth c H locs 0 0 Q (F0 m 14 ls []) := by
  have hx := C.1
  have hb := C.2.1
  obtain ⟨hP, hD⟩ := hPD
  unfold fX8_number_0_14 at h
  refine lv_aload_n hx hb dX8_number_14 rfl (lv_at hl 0 rfl) ?_
  refine lv_bipush (v := 48) hx hb dX8_number_15 (by decide) ?_
  refine lv_iload_n hx hb dX8_number_17 rfl (lv_at hl 1 rfl) ?_
  refine lv_bipush (v := 10) hx hb dX8_number_18 (by decide) ?_
  refine lv_irem hx hb dX8_number_20 (by decide) ?_
  refine lv_iadd hx hb dX8_number_21 ?_
  replace h := bnd h; obtain ⟨q2, e3, h⟩ := h
  refine wrVv (ws1 := [(a_m, .inr (8, [.ref a_ms, .ref a_mw, .ref a_mv, .ref a_mp, .ref a_mf, .int m_chg, .int m_thr, .int m_rea, .int m_det, .int m_ref, .int m_err, .int m_ans, .int m_sav, .int m_net, .ref a_ml, .int q2.1, .ref a_mt, .ref a_mc, .int m_tap, .int m_her, .int m_cmd])), (a_ml, .inl (T 0, 40, .inl q2.2))]) C hE hP hD hS hA (kX8_puts l D T a_m a_ms a_mw a_mv a_mp a_mf a_ml a_mt a_mc m_chg m_thr m_rea m_det m_ref m_err m_ans m_sav m_net m_lin m_tap m_her m_cmd v_ml (48 + (l1 - l1 / 10 * 10)) _ q2 e3) mX8_puts qLX8_205 [0, 1] [] 0 rfl rfl rfl rfl rfl rfl rfl rfl rfl ⟨rfl, rfl⟩ ⟨Nat.le_of_ble_eq_true rfl, Nat.le_of_ble_eq_true rfl⟩ rfl hl.1 rfl (Nat.le_of_ble_eq_true rfl) dX8_number_22 ⟨Nat.le_of_ble_eq_true rfl, Nat.le_of_ble_eq_true rfl⟩ ?_; clear hP hD hS; intro H locs hP hD hS
  replace h := Option.some.inj h
  exact hret _ _ _ _ dX8_number_25 (by rw [← h]; exact hP) hS
set_option maxHeartbeats 4000000 in
set_option maxRecDepth 100000 in
theorem kX8_number_0 (l : Launch) (D : va_G) (T : Nat → ClassId) (a_m a_ms a_mw a_mv a_mp a_mf a_ml a_mt a_mc : Nat) (m_chg : Int32) (m_thr : Int32) (m_rea : Int32) (m_det : Int32) (m_ref : Int32) (m_err : Int32) (m_ans : Int32) (m_sav : Int32) (m_net : Int32) (m_lin : Int32) (m_tap : Int32) (m_her : Int32) (m_cmd : Int32) (v_ml : Nat → Int32) (p0 : Int32) (sz : Nat) (r : Int32 × (Nat → Int32)) (h : fX8_number_0 m_lin v_ml p0 = some r) : WrV l yX8_number cX8_number 2 ({ frames := 1, cells := 0, slots := 0, locals := 21 } : Room) D T sz [(a_m, .inr (8, [.ref a_ms, .ref a_mw, .ref a_mv, .ref a_mp, .ref a_mf, .int m_chg, .int m_thr, .int m_rea, .int m_det, .int m_ref, .int m_err, .int m_ans, .int m_sav, .int m_net, .ref a_ml, .int m_lin, .ref a_mt, .ref a_mc, .int m_tap, .int m_her, .int m_cmd])), (a_ml, .inl (T 0, 40, .inl v_ml))] [(a_m, .inr (8, [.ref a_ms, .ref a_mw, .ref a_mv, .ref a_mp, .ref a_mf, .int m_chg, .int m_thr, .int m_rea, .int m_det, .int m_ref, .int m_err, .int m_ans, .int m_sav, .int m_net, .ref a_ml, .int r.1, .ref a_mt, .ref a_mc, .int m_tap, .int m_her, .int m_cmd])), (a_ml, .inl (T 0, 40, .inl r.2))] [.ref a_m, .int p0] := by
  unfold fX8_number_0 at h
  refine wrMetV (by decide +kernel) rfl (fun p e s m args below meth c Q A C hE hA hP hD hS hret ls hl => ?_)
  have hx := C.1
  have hb := C.2.1
  have hl : lv_has ls 2 [(0, .ref a_m), (1, .int p0)] := hl
  refine lv_iload_n hx hb dX8_number_0 rfl (lv_at hl 1 rfl) ?_
  refine lv_bipush (v := 10) hx hb dX8_number_1 (by decide) ?_
  refine lv_icmp_lt (tgt := 14) hx hb dX8_number_3 (by decide) (fun c1 => ?_) (fun c1 => ?_)
  · replace h := ite_t c1 h
    exact lX8_number_0_14 C hE hA hret p0 m_lin v_ml ⟨hP, hD⟩ hS _ (lv_sub hl [0, 1] rfl) h
  · replace h := ite_f c1 h
    refine lv_aload_n hx hb dX8_number_6 rfl (lv_at hl 0 rfl) ?_
    refine lv_iload_n hx hb dX8_number_7 rfl (lv_at hl 1 rfl) ?_
    refine lv_bipush (v := 10) hx hb dX8_number_8 (by decide) ?_
    refine lv_idiv hx hb dX8_number_10 (by decide) ?_
    exact nomatch h

def fX8_number_1_14 (l1 : Int32) (m_lin : Int32) (v_ml : Nat → Int32) : Option (Int32 × (Nat → Int32)) :=
  (fX8_puts m_lin v_ml (48 + (l1 - l1 / 10 * 10))).bind fun q4 =>
  some (q4.1, q4.2)
def fX8_number_1 (m_lin : Int32) (v_ml : Nat → Int32) (p0 : Int32) : Option (Int32 × (Nat → Int32)) :=
  if p0 < 10 then
    fX8_number_1_14 p0 m_lin v_ml
  else
    (fX8_number_0 m_lin v_ml (p0 / 10)).bind fun q2 =>
    fX8_number_1_14 p0 q2.1 q2.2
set_option maxHeartbeats 4000000 in
set_option maxRecDepth 100000 in
theorem lX8_number_1_14 {p : Program} {l : Launch} {e : Env} {s : State} {m : MethodId} {args : Array Value} {below : List Frame} {meth : Method} {c : Code} {Q : State → Prop} {D : va_G} {T : Nat → ClassId} {a_m a_ms a_mw a_mv a_mp a_mf a_ml a_mt a_mc : Nat} {m_chg : Int32} {m_thr : Int32} {m_rea : Int32} {m_det : Int32} {m_ref : Int32} {m_err : Int32} {m_ans : Int32} {m_sav : Int32} {m_net : Int32} {m_tap : Int32} {m_her : Int32} {m_cmd : Int32} {A : Nat → Prop} {r : Int32 × (Nat → Int32)} (C : CallFix p m c cX8_number 2 s args aw RX8) (hE : eK D T s) (hA : ∀ q : Nat, s.heap.size ≤ q → A q) (hret : WrRetV p l e ({ frames := 2, cells := 0, slots := 0, locals := 42 } : Room) s m args below meth c Q cX8_number D A [(a_m, .inr (8, [.ref a_ms, .ref a_mw, .ref a_mv, .ref a_mp, .ref a_mf, .int m_chg, .int m_thr, .int m_rea, .int m_det, .int m_ref, .int m_err, .int m_ans, .int m_sav, .int m_net, .ref a_ml, .int r.1, .ref a_mt, .ref a_mc, .int m_tap, .int m_her, .int m_cmd])), (a_ml, .inl (T 0, 40, .inl r.2))]) (l1 : Int32) (m_lin : Int32) (v_ml : Nat → Int32) {H : Heap} {locs : List Loc} (hPD : va_PD D A [(a_m, .inr (8, [.ref a_ms, .ref a_mw, .ref a_mv, .ref a_mp, .ref a_mf, .int m_chg, .int m_thr, .int m_rea, .int m_det, .int m_ref, .int m_err, .int m_ans, .int m_sav, .int m_net, .ref a_ml, .int m_lin, .ref a_mt, .ref a_mc, .int m_tap, .int m_her, .int m_cmd])), (a_ml, .inl (T 0, 40, .inl v_ml))] H) (hS : va_S A s.heap H locs) (ls : Array Slot) (hl : lv_has ls 2 [(0, .ref a_m), (1, .int l1)]) (h : fX8_number_1_14 l1 m_lin v_ml = some r) : W p l e ({ frames := 2, cells := 0, slots := 0, locals := 42 } : Room) s m args below meth c H locs 0 0 Q (F0 m 14 ls []) := by
  have hx := C.1
  have hb := C.2.1
  obtain ⟨hP, hD⟩ := hPD
  unfold fX8_number_1_14 at h
  refine lv_aload_n hx hb dX8_number_14 rfl (lv_at hl 0 rfl) ?_
  refine lv_bipush (v := 48) hx hb dX8_number_15 (by decide) ?_
  refine lv_iload_n hx hb dX8_number_17 rfl (lv_at hl 1 rfl) ?_
  refine lv_bipush (v := 10) hx hb dX8_number_18 (by decide) ?_
  refine lv_irem hx hb dX8_number_20 (by decide) ?_
  refine lv_iadd hx hb dX8_number_21 ?_
  replace h := bnd h; obtain ⟨q4, e5, h⟩ := h
  refine wrVv (ws1 := [(a_m, .inr (8, [.ref a_ms, .ref a_mw, .ref a_mv, .ref a_mp, .ref a_mf, .int m_chg, .int m_thr, .int m_rea, .int m_det, .int m_ref, .int m_err, .int m_ans, .int m_sav, .int m_net, .ref a_ml, .int q4.1, .ref a_mt, .ref a_mc, .int m_tap, .int m_her, .int m_cmd])), (a_ml, .inl (T 0, 40, .inl q4.2))]) C hE hP hD hS hA (kX8_puts l D T a_m a_ms a_mw a_mv a_mp a_mf a_ml a_mt a_mc m_chg m_thr m_rea m_det m_ref m_err m_ans m_sav m_net m_lin m_tap m_her m_cmd v_ml (48 + (l1 - l1 / 10 * 10)) _ q4 e5) mX8_puts qLX8_205 [0, 1] [] 0 rfl rfl rfl rfl rfl rfl rfl rfl rfl ⟨rfl, rfl⟩ ⟨Nat.le_of_ble_eq_true rfl, Nat.le_of_ble_eq_true rfl⟩ rfl hl.1 rfl (Nat.le_of_ble_eq_true rfl) dX8_number_22 ⟨Nat.le_of_ble_eq_true rfl, Nat.le_of_ble_eq_true rfl⟩ ?_; clear hP hD hS; intro H locs hP hD hS
  replace h := Option.some.inj h
  exact hret _ _ _ _ dX8_number_25 (by rw [← h]; exact hP) hS
set_option maxHeartbeats 4000000 in
set_option maxRecDepth 100000 in
theorem kX8_number_1 (l : Launch) (D : va_G) (T : Nat → ClassId) (a_m a_ms a_mw a_mv a_mp a_mf a_ml a_mt a_mc : Nat) (m_chg : Int32) (m_thr : Int32) (m_rea : Int32) (m_det : Int32) (m_ref : Int32) (m_err : Int32) (m_ans : Int32) (m_sav : Int32) (m_net : Int32) (m_lin : Int32) (m_tap : Int32) (m_her : Int32) (m_cmd : Int32) (v_ml : Nat → Int32) (p0 : Int32) (sz : Nat) (r : Int32 × (Nat → Int32)) (h : fX8_number_1 m_lin v_ml p0 = some r) : WrV l yX8_number cX8_number 2 ({ frames := 2, cells := 0, slots := 0, locals := 42 } : Room) D T sz [(a_m, .inr (8, [.ref a_ms, .ref a_mw, .ref a_mv, .ref a_mp, .ref a_mf, .int m_chg, .int m_thr, .int m_rea, .int m_det, .int m_ref, .int m_err, .int m_ans, .int m_sav, .int m_net, .ref a_ml, .int m_lin, .ref a_mt, .ref a_mc, .int m_tap, .int m_her, .int m_cmd])), (a_ml, .inl (T 0, 40, .inl v_ml))] [(a_m, .inr (8, [.ref a_ms, .ref a_mw, .ref a_mv, .ref a_mp, .ref a_mf, .int m_chg, .int m_thr, .int m_rea, .int m_det, .int m_ref, .int m_err, .int m_ans, .int m_sav, .int m_net, .ref a_ml, .int r.1, .ref a_mt, .ref a_mc, .int m_tap, .int m_her, .int m_cmd])), (a_ml, .inl (T 0, 40, .inl r.2))] [.ref a_m, .int p0] := by
  unfold fX8_number_1 at h
  refine wrMetV (by decide +kernel) rfl (fun p e s m args below meth c Q A C hE hA hP hD hS hret ls hl => ?_)
  have hx := C.1
  have hb := C.2.1
  have hl : lv_has ls 2 [(0, .ref a_m), (1, .int p0)] := hl
  refine lv_iload_n hx hb dX8_number_0 rfl (lv_at hl 1 rfl) ?_
  refine lv_bipush (v := 10) hx hb dX8_number_1 (by decide) ?_
  refine lv_icmp_lt (tgt := 14) hx hb dX8_number_3 (by decide) (fun c1 => ?_) (fun c1 => ?_)
  · replace h := ite_t c1 h
    exact lX8_number_1_14 C hE hA hret p0 m_lin v_ml ⟨hP, hD⟩ hS _ (lv_sub hl [0, 1] rfl) h
  · replace h := ite_f c1 h
    refine lv_aload_n hx hb dX8_number_6 rfl (lv_at hl 0 rfl) ?_
    refine lv_iload_n hx hb dX8_number_7 rfl (lv_at hl 1 rfl) ?_
    refine lv_bipush (v := 10) hx hb dX8_number_8 (by decide) ?_
    refine lv_idiv hx hb dX8_number_10 (by decide) ?_
    replace h := bnd h; obtain ⟨q2, e3, h⟩ := h
    refine wrVv (ws1 := [(a_m, .inr (8, [.ref a_ms, .ref a_mw, .ref a_mv, .ref a_mp, .ref a_mf, .int m_chg, .int m_thr, .int m_rea, .int m_det, .int m_ref, .int m_err, .int m_ans, .int m_sav, .int m_net, .ref a_ml, .int q2.1, .ref a_mt, .ref a_mc, .int m_tap, .int m_her, .int m_cmd])), (a_ml, .inl (T 0, 40, .inl q2.2))]) C hE hP hD hS hA (kX8_number_0 l D T a_m a_ms a_mw a_mv a_mp a_mf a_ml a_mt a_mc m_chg m_thr m_rea m_det m_ref m_err m_ans m_sav m_net m_lin m_tap m_her m_cmd v_ml (p0 / 10) _ q2 e3) mX8_number qLX8_202 [0, 1] [] 0 rfl rfl rfl rfl rfl rfl rfl rfl rfl ⟨rfl, rfl⟩ ⟨Nat.le_of_ble_eq_true rfl, Nat.le_of_ble_eq_true rfl⟩ rfl hl.1 rfl (Nat.le_of_ble_eq_true rfl) dX8_number_11 ⟨Nat.le_of_ble_eq_true rfl, Nat.le_of_ble_eq_true rfl⟩ ?_; clear hP hD hS; intro H locs hP hD hS
    exact lX8_number_1_14 C hE hA hret p0 q2.1 q2.2 ⟨hP, hD⟩ hS _ (lv_sub hl [0, 1] rfl) h

def fX8_row_92 (v_ms : Nat → Int32) (rec34 : Int32 → Int32 → Int32 → Int32 → (Nat → Int32) → Option (Int32 × Int32 × Int32 × (Nat → Int32))) (x1 : Int32) (l1 : Int32) (l2 : Int32) (m_thr : Int32) (m_lin : Int32) (v_ml : Nat → Int32) : Option (Int32 × Int32 × Int32 × (Nat → Int32)) :=
  (fX8_puts m_lin v_ml x1).bind fun q14 =>
  rec34 l1 (l2 + 1) m_thr q14.1 q14.2
def fX8_row_34 (v_ms : Nat → Int32) : Nat → Int32 → Int32 → Int32 → Int32 → (Nat → Int32) → Option (Int32 × Int32 × Int32 × (Nat → Int32))
  | 0, _, _, _, _, _ => none
  | k + 1, l1, l2, m_thr, m_lin, v_ml =>
    if (9 * (l1 + 1)) ≤ l2 then
      some (m_lin, m_thr, m_lin, v_ml)
    else
      (fX8_whaleAt v_ms l2).bind fun q6 =>
      if q6 < 0 then
        if vin 2 103 = true then
        if l2 = (v_ms (2 : Int32).toNatClampNeg) then
          fX8_row_92 v_ms (fX8_row_34 v_ms k) 111 l1 l2 m_thr m_lin v_ml
        else
          (fX8_isDryNow v_ms l2).bind fun q11 =>
          fX8_row_92 v_ms (fX8_row_34 v_ms k) (if q11 = 0 then 46 else 95) l1 l2 m_thr m_lin v_ml
        else none
      else
        fX8_row_92 v_ms (fX8_row_34 v_ms k) (48 + q6) l1 l2 m_thr m_lin v_ml
def fX8_row_15 (v_ms : Nat → Int32) (x1 : Int32) (l1 : Int32) (m_thr : Int32) (m_lin : Int32) (v_ml : Nat → Int32) : Option (Int32 × Int32 × Int32 × (Nat → Int32)) :=
  (fX8_isThrown m_thr x1 1).bind fun q2 =>
  if q2.1 = 0 then
    fX8_row_34 v_ms 64 l1 (9 * l1) q2.2 0 v_ml
  else
    some (0, q2.2, m_lin, v_ml)
def fX8_row (m_thr : Int32) (m_lin : Int32) (v_ms : Nat → Int32) (v_ml : Nat → Int32) (p0 : Int32) : Option (Int32 × Int32 × Int32 × (Nat → Int32)) :=
  fX8_row_15 v_ms (if (fX8_isIn p0 0 4) = 0 then 1 else 0) p0 m_thr m_lin v_ml
set_option maxHeartbeats 4000000 in
set_option maxRecDepth 100000 in
theorem lX8_row_92 {p : Program} {l : Launch} {e : Env} {s : State} {m : MethodId} {args : Array Value} {below : List Frame} {meth : Method} {c : Code} {Q : State → Prop} {D : va_G} {T : Nat → ClassId} {a_m a_ms a_mw a_mv a_mp a_mf a_ml a_mt a_mc : Nat} {m_chg : Int32} {m_rea : Int32} {m_det : Int32} {m_ref : Int32} {m_err : Int32} {m_ans : Int32} {m_sav : Int32} {m_net : Int32} {m_tap : Int32} {m_her : Int32} {m_cmd : Int32} {v_ms : Nat → Int32} {A : Nat → Prop} {r : Int32 × Int32 × Int32 × (Nat → Int32)} (C : CallFix p m c cX8_row 4 s args aw RX8) (hE : eK D T s) (hA : ∀ q : Nat, s.heap.size ≤ q → A q) (hret : WrRet p l e ({ frames := 4, cells := 0, slots := 0, locals := 84 } : Room) s m args below meth c Q cX8_row .int D A [(a_m, .inr (8, [.ref a_ms, .ref a_mw, .ref a_mv, .ref a_mp, .ref a_mf, .int m_chg, .int r.2.1, .int m_rea, .int m_det, .int m_ref, .int m_err, .int m_ans, .int m_sav, .int m_net, .ref a_ml, .int r.2.2.1, .ref a_mt, .ref a_mc, .int m_tap, .int m_her, .int m_cmd])), (a_ms, .inl (T 0, 103, .inl v_ms)), (a_ml, .inl (T 0, 40, .inl r.2.2.2))] r.1) {rec34 : Int32 → Int32 → Int32 → Int32 → (Nat → Int32) → Option (Int32 × Int32 × Int32 × (Nat → Int32))} (hrec34 : ∀ (l1 : Int32) (l2 : Int32) (m_thr : Int32) (m_lin : Int32) (v_ml : Nat → Int32) {H : Heap} {locs : List Loc} (hPD : va_PD D A [(a_m, .inr (8, [.ref a_ms, .ref a_mw, .ref a_mv, .ref a_mp, .ref a_mf, .int m_chg, .int m_thr, .int m_rea, .int m_det, .int m_ref, .int m_err, .int m_ans, .int m_sav, .int m_net, .ref a_ml, .int m_lin, .ref a_mt, .ref a_mc, .int m_tap, .int m_her, .int m_cmd])), (a_ms, .inl (T 0, 103, .inl v_ms)), (a_ml, .inl (T 0, 40, .inl v_ml))] H) (hS : va_S A s.heap H locs) (ls : Array Slot) (hl : lv_has ls 4 [(0, .ref a_m), (1, .int l1), (2, .int l2)]) (h : rec34 l1 l2 m_thr m_lin v_ml = some r), W p l e ({ frames := 4, cells := 0, slots := 0, locals := 84 } : Room) s m args below meth c H locs 0 0 Q (F0 m 34 ls [])) (x1 : Int32) (l1 : Int32) (l2 : Int32) (m_thr : Int32) (m_lin : Int32) (v_ml : Nat → Int32) {H : Heap} {locs : List Loc} (hPD : va_PD D A [(a_m, .inr (8, [.ref a_ms, .ref a_mw, .ref a_mv, .ref a_mp, .ref a_mf, .int m_chg, .int m_thr, .int m_rea, .int m_det, .int m_ref, .int m_err, .int m_ans, .int m_sav, .int m_net, .ref a_ml, .int m_lin, .ref a_mt, .ref a_mc, .int m_tap, .int m_her, .int m_cmd])), (a_ms, .inl (T 0, 103, .inl v_ms)), (a_ml, .inl (T 0, 40, .inl v_ml))] H) (hS : va_S A s.heap H locs) (ls : Array Slot) (hl : lv_has ls 4 [(0, .ref a_m), (1, .int l1), (2, .int l2)]) (h : fX8_row_92 v_ms rec34 x1 l1 l2 m_thr m_lin v_ml = some r) : W p l e ({ frames := 4, cells := 0, slots := 0, locals := 84 } : Room) s m args below meth c H locs 0 0 Q (F0 m 92 ls [.int x1, .ref a_m]) := by
  have hx := C.1
  have hb := C.2.1
  obtain ⟨hP, hD⟩ := hPD
  unfold fX8_row_92 at h
  replace h := bnd h; obtain ⟨q14, e15, h⟩ := h
  refine wrVv (ws1 := [(a_m, .inr (8, [.ref a_ms, .ref a_mw, .ref a_mv, .ref a_mp, .ref a_mf, .int m_chg, .int m_thr, .int m_rea, .int m_det, .int m_ref, .int m_err, .int m_ans, .int m_sav, .int m_net, .ref a_ml, .int q14.1, .ref a_mt, .ref a_mc, .int m_tap, .int m_her, .int m_cmd])), (a_ms, .inl (T 0, 103, .inl v_ms)), (a_ml, .inl (T 0, 40, .inl q14.2))]) C hE hP hD hS hA (kX8_puts l D T a_m a_ms a_mw a_mv a_mp a_mf a_ml a_mt a_mc m_chg m_thr m_rea m_det m_ref m_err m_ans m_sav m_net m_lin m_tap m_her m_cmd v_ml x1 _ q14 e15) mX8_puts qLX8_205 [0, 2] [1] 0 rfl rfl rfl rfl rfl rfl rfl rfl rfl ⟨rfl, rfl⟩ ⟨Nat.le_of_ble_eq_true rfl, Nat.le_of_ble_eq_true rfl⟩ rfl hl.1 rfl (Nat.le_of_ble_eq_true rfl) dX8_row_92 ⟨Nat.le_of_ble_eq_true rfl, Nat.le_of_ble_eq_true rfl⟩ ?_; clear hP hD hS; intro H locs hP hD hS
  refine lv_iinc (v := (l2 + 1)) (lv' := [(2, .int (l2 + 1)), (0, .ref a_m), (1, .int l1)]) hx hb dX8_row_95 hl (k := 2) rfl rfl (by decide) rfl (fun ls hl => ?_)
  refine lv_goto (tgt := 34) hx hb dX8_row_98 (by decide) ?_
  exact hrec34 l1 (l2 + 1) m_thr q14.1 q14.2 ⟨hP, hD⟩ hS _ (lv_sub hl [1, 2, 0] rfl) h
set_option maxHeartbeats 4000000 in
set_option maxRecDepth 100000 in
theorem lX8_row_34 {p : Program} {l : Launch} {e : Env} {s : State} {m : MethodId} {args : Array Value} {below : List Frame} {meth : Method} {c : Code} {Q : State → Prop} {D : va_G} {T : Nat → ClassId} {a_m a_ms a_mw a_mv a_mp a_mf a_ml a_mt a_mc : Nat} {m_chg : Int32} {m_rea : Int32} {m_det : Int32} {m_ref : Int32} {m_err : Int32} {m_ans : Int32} {m_sav : Int32} {m_net : Int32} {m_tap : Int32} {m_her : Int32} {m_cmd : Int32} {v_ms : Nat → Int32} {A : Nat → Prop} {r : Int32 × Int32 × Int32 × (Nat → Int32)} (C : CallFix p m c cX8_row 4 s args aw RX8) (hE : eK D T s) (hA : ∀ q : Nat, s.heap.size ≤ q → A q) (hret : WrRet p l e ({ frames := 4, cells := 0, slots := 0, locals := 84 } : Room) s m args below meth c Q cX8_row .int D A [(a_m, .inr (8, [.ref a_ms, .ref a_mw, .ref a_mv, .ref a_mp, .ref a_mf, .int m_chg, .int r.2.1, .int m_rea, .int m_det, .int m_ref, .int m_err, .int m_ans, .int m_sav, .int m_net, .ref a_ml, .int r.2.2.1, .ref a_mt, .ref a_mc, .int m_tap, .int m_her, .int m_cmd])), (a_ms, .inl (T 0, 103, .inl v_ms)), (a_ml, .inl (T 0, 40, .inl r.2.2.2))] r.1) : ∀ (k : Nat) (l1 : Int32) (l2 : Int32) (m_thr : Int32) (m_lin : Int32) (v_ml : Nat → Int32) {H : Heap} {locs : List Loc} (hPD : va_PD D A [(a_m, .inr (8, [.ref a_ms, .ref a_mw, .ref a_mv, .ref a_mp, .ref a_mf, .int m_chg, .int m_thr, .int m_rea, .int m_det, .int m_ref, .int m_err, .int m_ans, .int m_sav, .int m_net, .ref a_ml, .int m_lin, .ref a_mt, .ref a_mc, .int m_tap, .int m_her, .int m_cmd])), (a_ms, .inl (T 0, 103, .inl v_ms)), (a_ml, .inl (T 0, 40, .inl v_ml))] H) (hS : va_S A s.heap H locs) (ls : Array Slot) (hl : lv_has ls 4 [(0, .ref a_m), (1, .int l1), (2, .int l2)]) (h : fX8_row_34 v_ms k l1 l2 m_thr m_lin v_ml = some r), W p l e ({ frames := 4, cells := 0, slots := 0, locals := 84 } : Room) s m args below meth c H locs 0 0 Q (F0 m 34 ls []) := by
  have hx := C.1
  have hb := C.2.1
  intro k
  induction k with
  | zero =>
    intro l1 l2 m_thr m_lin v_ml H locs hPD hS ls hl h
    exact nomatch (show (none : Option (Int32 × Int32 × Int32 × (Nat → Int32))) = some r from h)
  | succ k ih =>
    intro l1 l2 m_thr m_lin v_ml H locs hPD hS ls hl h
    obtain ⟨hP, hD⟩ := hPD
    rw [fX8_row_34] at h
    refine lv_iload_n hx hb dX8_row_34 rfl (lv_at hl 2 rfl) ?_
    refine lv_bipush (v := 9) hx hb dX8_row_35 (by decide) ?_
    refine lv_iload_n hx hb dX8_row_37 rfl (lv_at hl 1 rfl) ?_
    refine lv_iconst (v := 1) hx hb dX8_row_38 (by decide) ?_
    refine lv_iadd hx hb dX8_row_39 ?_
    refine lv_imul hx hb dX8_row_40 ?_
    refine lv_icmp_ge (tgt := 101) hx hb dX8_row_41 (by decide) (fun c5 => ?_) (fun c5 => ?_)
    · replace h := ite_t c5 h
      refine lv_aload_n hx hb dX8_row_101 rfl (lv_at hl 0 rfl) ?_
      refine getF (q0 := 0) (k0 := 15) (v := .int m_lin) C hE hP inA8 rfl rfl (by decide) qFX8_199 rfl rfl dX8_row_102 ?_
      replace h := Option.some.inj h
      exact hret _ _ _ _ _ _ dX8_row_105 rfl (by rw [← h] <;> rfl) (by rw [← h]; exact hP) hS
    · replace h := ite_f c5 h
      refine lv_aload_n hx hb dX8_row_44 rfl (lv_at hl 0 rfl) ?_
      refine lv_iload_n hx hb dX8_row_45 rfl (lv_at hl 2 rfl) ?_
      replace h := bnd h; obtain ⟨q6, e7, h⟩ := h
      refine rdV C hE hP (kX8_whaleAt l D T a_m a_ms a_mw a_mv a_mp a_mf a_ml a_mt a_mc m_chg m_thr m_rea m_det m_ref m_err m_ans m_sav m_net m_lin m_tap m_her m_cmd v_ms l2 q6 e7) mX8_whaleAt qLX8_93 [0, 1] 0 rfl rfl rfl rfl ⟨rfl, rfl⟩ ⟨Nat.le_of_ble_eq_true rfl, Nat.le_of_ble_eq_true rfl⟩ rfl hl.1 rfl (Nat.le_of_ble_eq_true rfl) dX8_row_46 ⟨Nat.le_of_ble_eq_true rfl, Nat.le_of_ble_eq_true rfl⟩ ?_
      refine lv_istore_n (lv' := [(3, .int q6), (0, .ref a_m), (1, .int l1), (2, .int l2)]) hx hb dX8_row_49 rfl hl (by decide) rfl (fun ls hl => ?_)
      refine lv_aload_n hx hb dX8_row_50 rfl (lv_at hl 1 rfl) ?_
      refine lv_iload_n hx hb dX8_row_51 rfl (lv_at hl 0 rfl) ?_
      refine lv_if_lt (tgt := 62) hx hb dX8_row_52 (by decide) (fun c8 => ?_) (fun c8 => ?_)
      · replace h := ite_t c8 h
        refine lv_iload_n hx hb dX8_row_62 rfl (lv_at hl 3 rfl) ?_
        refine lv_aload_n hx hb dX8_row_63 rfl (lv_at hl 1 rfl) ?_
        refine getF (q0 := 0) (k0 := 0) (v := .ref a_ms) C hE hP inA8 rfl rfl (by decide) qFX8_9 rfl rfl dX8_row_64 ?_
        refine lv_iconst (v := 2) hx hb dX8_row_67 (by decide) ?_
        replace h := gd h; obtain ⟨g9, h⟩ := h
        refine aldI (q0 := 1) C hE hP rfl g9 dX8_row_68 ?_
        refine lv_icmp_ne (tgt := 77) hx hb dX8_row_69 (by decide) (fun c10 => ?_) (fun c10 => ?_)
        · replace h := ite_f c10 h
          refine lv_aload_n hx hb dX8_row_77 rfl (lv_at hl 1 rfl) ?_
          refine lv_iload_n hx hb dX8_row_78 rfl (lv_at hl 3 rfl) ?_
          replace h := bnd h; obtain ⟨q11, e12, h⟩ := h
          refine rdV C hE hP (kX8_isDryNow l D T a_m a_ms a_mw a_mv a_mp a_mf a_ml a_mt a_mc m_chg m_thr m_rea m_det m_ref m_err m_ans m_sav m_net m_lin m_tap m_her m_cmd v_ms l2 q11 e12) mX8_isDryNow qLX8_84 [0, 1] 0 rfl rfl rfl rfl ⟨rfl, rfl⟩ ⟨Nat.le_of_ble_eq_true rfl, Nat.le_of_ble_eq_true rfl⟩ rfl hl.1 rfl (Nat.le_of_ble_eq_true rfl) dX8_row_79 ⟨Nat.le_of_ble_eq_true rfl, Nat.le_of_ble_eq_true rfl⟩ ?_
          refine lv_if_eq (tgt := 90) hx hb dX8_row_82 (by decide) (fun c13 => ?_) (fun c13 => ?_)
          · rw [if_pos c13] at h
            refine lv_bipush (v := 46) hx hb dX8_row_90 (by decide) ?_
            exact lX8_row_92 C hE hA hret ih 46 l1 l2 m_thr m_lin v_ml ⟨hP, hD⟩ hS _ (lv_sub hl [1, 2, 3] rfl) h
          · rw [if_neg c13] at h
            refine lv_bipush (v := 95) hx hb dX8_row_85 (by decide) ?_
            refine lv_goto (tgt := 92) hx hb dX8_row_87 (by decide) ?_
            exact lX8_row_92 C hE hA hret ih 95 l1 l2 m_thr m_lin v_ml ⟨hP, hD⟩ hS _ (lv_sub hl [1, 2, 3] rfl) h
        · replace h := ite_t c10 h
          refine lv_bipush (v := 111) hx hb dX8_row_72 (by decide) ?_
          refine lv_goto (tgt := 92) hx hb dX8_row_74 (by decide) ?_
          exact lX8_row_92 C hE hA hret ih 111 l1 l2 m_thr m_lin v_ml ⟨hP, hD⟩ hS _ (lv_sub hl [1, 2, 3] rfl) h
      · replace h := ite_f c8 h
        refine lv_bipush (v := 48) hx hb dX8_row_55 (by decide) ?_
        refine lv_iload_n hx hb dX8_row_57 rfl (lv_at hl 0 rfl) ?_
        refine lv_iadd hx hb dX8_row_58 ?_
        refine lv_goto (tgt := 92) hx hb dX8_row_59 (by decide) ?_
        exact lX8_row_92 C hE hA hret ih (48 + q6) l1 l2 m_thr m_lin v_ml ⟨hP, hD⟩ hS _ (lv_sub hl [1, 2, 3] rfl) h
set_option maxHeartbeats 4000000 in
set_option maxRecDepth 100000 in
theorem lX8_row_15 {p : Program} {l : Launch} {e : Env} {s : State} {m : MethodId} {args : Array Value} {below : List Frame} {meth : Method} {c : Code} {Q : State → Prop} {D : va_G} {T : Nat → ClassId} {a_m a_ms a_mw a_mv a_mp a_mf a_ml a_mt a_mc : Nat} {m_chg : Int32} {m_rea : Int32} {m_det : Int32} {m_ref : Int32} {m_err : Int32} {m_ans : Int32} {m_sav : Int32} {m_net : Int32} {m_tap : Int32} {m_her : Int32} {m_cmd : Int32} {v_ms : Nat → Int32} {A : Nat → Prop} {r : Int32 × Int32 × Int32 × (Nat → Int32)} (C : CallFix p m c cX8_row 4 s args aw RX8) (hE : eK D T s) (hA : ∀ q : Nat, s.heap.size ≤ q → A q) (hret : WrRet p l e ({ frames := 4, cells := 0, slots := 0, locals := 84 } : Room) s m args below meth c Q cX8_row .int D A [(a_m, .inr (8, [.ref a_ms, .ref a_mw, .ref a_mv, .ref a_mp, .ref a_mf, .int m_chg, .int r.2.1, .int m_rea, .int m_det, .int m_ref, .int m_err, .int m_ans, .int m_sav, .int m_net, .ref a_ml, .int r.2.2.1, .ref a_mt, .ref a_mc, .int m_tap, .int m_her, .int m_cmd])), (a_ms, .inl (T 0, 103, .inl v_ms)), (a_ml, .inl (T 0, 40, .inl r.2.2.2))] r.1) (x1 : Int32) (l1 : Int32) (m_thr : Int32) (m_lin : Int32) (v_ml : Nat → Int32) {H : Heap} {locs : List Loc} (hPD : va_PD D A [(a_m, .inr (8, [.ref a_ms, .ref a_mw, .ref a_mv, .ref a_mp, .ref a_mf, .int m_chg, .int m_thr, .int m_rea, .int m_det, .int m_ref, .int m_err, .int m_ans, .int m_sav, .int m_net, .ref a_ml, .int m_lin, .ref a_mt, .ref a_mc, .int m_tap, .int m_her, .int m_cmd])), (a_ms, .inl (T 0, 103, .inl v_ms)), (a_ml, .inl (T 0, 40, .inl v_ml))] H) (hS : va_S A s.heap H locs) (ls : Array Slot) (hl : lv_has ls 4 [(0, .ref a_m), (1, .int l1)]) (h : fX8_row_15 v_ms x1 l1 m_thr m_lin v_ml = some r) : W p l e ({ frames := 4, cells := 0, slots := 0, locals := 84 } : Room) s m args below meth c H locs 0 0 Q (F0 m 15 ls [.int x1, .ref a_m]) := by
  have hx := C.1
  have hb := C.2.1
  obtain ⟨hP, hD⟩ := hPD
  unfold fX8_row_15 at h
  refine lv_iconst (v := 1) hx hb dX8_row_15 (by decide) ?_
  replace h := bnd h; obtain ⟨q2, e3, h⟩ := h
  refine wrVi (ws1 := [(a_m, .inr (8, [.ref a_ms, .ref a_mw, .ref a_mv, .ref a_mp, .ref a_mf, .int m_chg, .int q2.2, .int m_rea, .int m_det, .int m_ref, .int m_err, .int m_ans, .int m_sav, .int m_net, .ref a_ml, .int m_lin, .ref a_mt, .ref a_mc, .int m_tap, .int m_her, .int m_cmd])), (a_ms, .inl (T 0, 103, .inl v_ms)), (a_ml, .inl (T 0, 40, .inl v_ml))]) C hE hP hD hS hA (kX8_isThrown l D T a_m a_ms a_mw a_mv a_mp a_mf a_ml a_mt a_mc m_chg m_thr m_rea m_det m_ref m_err m_ans m_sav m_net m_lin m_tap m_her m_cmd x1 1 _ q2 e3) mX8_isThrown qLX8_80 [0] [1, 2] 0 rfl rfl rfl rfl rfl rfl rfl rfl rfl ⟨rfl, rfl⟩ ⟨Nat.le_of_ble_eq_true rfl, Nat.le_of_ble_eq_true rfl⟩ rfl hl.1 rfl (Nat.le_of_ble_eq_true rfl) dX8_row_16 ⟨Nat.le_of_ble_eq_true rfl, Nat.le_of_ble_eq_true rfl⟩ ?_; clear hP hD hS; intro H locs hP hD hS
  refine lv_if_eq (tgt := 24) hx hb dX8_row_19 (by decide) (fun c4 => ?_) (fun c4 => ?_)
  · replace h := ite_t c4 h
    refine lv_aload_n hx hb dX8_row_24 rfl (lv_at hl 0 rfl) ?_
    refine lv_iconst (v := 0) hx hb dX8_row_25 (by decide) ?_
    refine putF (q0 := 0) (k0 := 15) (ws1 := [(a_m, .inr (8, [.ref a_ms, .ref a_mw, .ref a_mv, .ref a_mp, .ref a_mf, .int m_chg, .int q2.2, .int m_rea, .int m_det, .int m_ref, .int m_err, .int m_ans, .int m_sav, .int m_net, .ref a_ml, .int 0, .ref a_mt, .ref a_mc, .int m_tap, .int m_her, .int m_cmd])), (a_ms, .inl (T 0, 103, .inl v_ms)), (a_ml, .inl (T 0, 40, .inl v_ml))]) C hE hP hD hS inA8 tyX8_ok nmX8 rfl rfl (by decide) qFX8_199 rfl rfl rfl rfl (Nat.le_of_ble_eq_true rfl) rfl dX8_row_26 ?_; clear hP hD hS; intro H locs hP hD hS
    refine lv_bipush (v := 9) hx hb dX8_row_29 (by decide) ?_
    refine lv_iload_n hx hb dX8_row_31 rfl (lv_at hl 1 rfl) ?_
    refine lv_imul hx hb dX8_row_32 ?_
    refine lv_istore_n (lv' := [(2, .int (9 * l1)), (0, .ref a_m), (1, .int l1)]) hx hb dX8_row_33 rfl hl (by decide) rfl (fun ls hl => ?_)
    exact lX8_row_34 C hE hA hret 64 l1 (9 * l1) q2.2 0 v_ml ⟨hP, hD⟩ hS _ (lv_sub hl [1, 2, 0] rfl) h
  · replace h := ite_f c4 h
    refine lv_iconst (v := 0) hx hb dX8_row_22 (by decide) ?_
    replace h := Option.some.inj h
    exact hret _ _ _ _ _ _ dX8_row_23 rfl (by rw [← h] <;> rfl) (by rw [← h]; exact hP) hS
set_option maxHeartbeats 4000000 in
set_option maxRecDepth 100000 in
theorem kX8_row (l : Launch) (D : va_G) (T : Nat → ClassId) (a_m a_ms a_mw a_mv a_mp a_mf a_ml a_mt a_mc : Nat) (m_chg : Int32) (m_thr : Int32) (m_rea : Int32) (m_det : Int32) (m_ref : Int32) (m_err : Int32) (m_ans : Int32) (m_sav : Int32) (m_net : Int32) (m_lin : Int32) (m_tap : Int32) (m_her : Int32) (m_cmd : Int32) (v_ms : Nat → Int32) (v_ml : Nat → Int32) (p0 : Int32) (sz : Nat) (r : Int32 × Int32 × Int32 × (Nat → Int32)) (h : fX8_row m_thr m_lin v_ms v_ml p0 = some r) : WrI l yX8_row cX8_row 4 .int ({ frames := 4, cells := 0, slots := 0, locals := 84 } : Room) D T sz [(a_m, .inr (8, [.ref a_ms, .ref a_mw, .ref a_mv, .ref a_mp, .ref a_mf, .int m_chg, .int m_thr, .int m_rea, .int m_det, .int m_ref, .int m_err, .int m_ans, .int m_sav, .int m_net, .ref a_ml, .int m_lin, .ref a_mt, .ref a_mc, .int m_tap, .int m_her, .int m_cmd])), (a_ms, .inl (T 0, 103, .inl v_ms)), (a_ml, .inl (T 0, 40, .inl v_ml))] [(a_m, .inr (8, [.ref a_ms, .ref a_mw, .ref a_mv, .ref a_mp, .ref a_mf, .int m_chg, .int r.2.1, .int m_rea, .int m_det, .int m_ref, .int m_err, .int m_ans, .int m_sav, .int m_net, .ref a_ml, .int r.2.2.1, .ref a_mt, .ref a_mc, .int m_tap, .int m_her, .int m_cmd])), (a_ms, .inl (T 0, 103, .inl v_ms)), (a_ml, .inl (T 0, 40, .inl r.2.2.2))] [.ref a_m, .int p0] r.1 := by
  unfold fX8_row at h
  refine wrMet (by decide +kernel) rfl (fun p e s m args below meth c Q A C hE hA hP hD hS hret ls hl => ?_)
  have hx := C.1
  have hb := C.2.1
  have hl : lv_has ls 4 [(0, .ref a_m), (1, .int p0)] := hl
  refine lv_aload_n hx hb dX8_row_0 rfl (lv_at hl 0 rfl) ?_
  refine lv_iload_n hx hb dX8_row_1 rfl (lv_at hl 1 rfl) ?_
  refine lv_iconst (v := 0) hx hb dX8_row_2 (by decide) ?_
  refine lv_iconst (v := 4) hx hb dX8_row_3 (by decide) ?_
  refine rdS C hE hP (kX8_isIn l D T p0 0 4) mX8_isIn qLX8_60 [] rfl ⟨rfl, rfl⟩ ⟨Nat.le_of_ble_eq_true rfl, Nat.le_of_ble_eq_true rfl⟩ rfl hl.1 rfl (Nat.le_of_ble_eq_true rfl) dX8_row_4 ⟨Nat.le_of_ble_eq_true rfl, Nat.le_of_ble_eq_true rfl⟩ ?_
  refine lv_if_ne (tgt := 14) hx hb dX8_row_7 (by decide) (fun c1 => ?_) (fun c1 => ?_)
  · rw [if_neg c1] at h
    refine lv_iconst (v := 0) hx hb dX8_row_14 (by decide) ?_
    exact lX8_row_15 C hE hA hret 0 p0 m_thr m_lin v_ml ⟨hP, hD⟩ hS _ (lv_sub hl [0, 1] rfl) h
  · rw [if_pos c1] at h
    refine lv_iconst (v := 1) hx hb dX8_row_10 (by decide) ?_
    refine lv_goto (tgt := 15) hx hb dX8_row_11 (by decide) ?_
    exact lX8_row_15 C hE hA hret 1 p0 m_thr m_lin v_ml ⟨hP, hD⟩ hS _ (lv_sub hl [0, 1] rfl) h

def fX8_tell_138 (v_ms : Nat → Int32) (m_thr : Int32) (m_lin : Int32) (v_ml : Nat → Int32) : Option (Int32 × Int32 × Int32 × (Nat → Int32)) :=
  some (m_lin, m_thr, m_lin, v_ml)
def fX8_tell_122 (v_ms : Nat → Int32) (l1 : Int32) (m_thr : Int32) (m_lin : Int32) (v_ml : Nat → Int32) : Option (Int32 × Int32 × Int32 × (Nat → Int32)) :=
  (fX8_of v_ms l1 5).bind fun q42 =>
  if q42 = 1 then
    (fX8_puts m_lin v_ml 33).bind fun q45 =>
    fX8_tell_138 v_ms m_thr q45.1 q45.2
  else
    fX8_tell_138 v_ms m_thr m_lin v_ml
def fX8_tell_14 (v_ms : Nat → Int32) (x1 : Int32) (l1 : Int32) (m_thr : Int32) (m_lin : Int32) (v_ml : Nat → Int32) : Option (Int32 × Int32 × Int32 × (Nat → Int32)) :=
  (fX8_isThrown m_thr x1 1).bind fun q4 =>
  if q4.1 = 0 then
    (fX8_number_1 0 v_ml l1).bind fun q7 =>
    (fX8_puts q7.1 q7.2 58).bind fun q9 =>
    (fX8_of v_ms l1 0).bind fun q11 =>
    (fX8_number_1 q9.1 q9.2 q11).bind fun q13 =>
    (fX8_puts q13.1 q13.2 94).bind fun q15 =>
    (fX8_of v_ms l1 1).bind fun q17 =>
    (fX8_number_1 q15.1 q15.2 q17).bind fun q19 =>
    (fX8_puts q19.1 q19.2 47).bind fun q21 =>
    (fX8_of v_ms l1 2).bind fun q23 =>
    (fX8_number_1 q21.1 q21.2 q23).bind fun q25 =>
    (fX8_puts q25.1 q25.2 37).bind fun q27 =>
    (fX8_of v_ms l1 3).bind fun q29 =>
    (fX8_number_1 q27.1 q27.2 q29).bind fun q31 =>
    (fX8_of v_ms l1 4).bind fun q33 =>
    if q33 < 0 then
      fX8_tell_122 v_ms l1 q4.2 q31.1 q31.2
    else
      (fX8_puts q31.1 q31.2 64).bind fun q36 =>
      (fX8_of v_ms l1 4).bind fun q38 =>
      (fX8_number_1 q36.1 q36.2 q38).bind fun q40 =>
      fX8_tell_122 v_ms l1 q4.2 q40.1 q40.2
  else
    some (0, q4.2, m_lin, v_ml)
def fX8_tell (m_thr : Int32) (m_lin : Int32) (v_ms : Nat → Int32) (v_ml : Nat → Int32) (p0 : Int32) : Option (Int32 × Int32 × Int32 × (Nat → Int32)) :=
  (fX8_isWhale v_ms p0).bind fun q1 =>
  fX8_tell_14 v_ms (if q1 = 0 then 1 else 0) p0 m_thr m_lin v_ml
set_option maxHeartbeats 4000000 in
set_option maxRecDepth 100000 in
theorem lX8_tell_138 {p : Program} {l : Launch} {e : Env} {s : State} {m : MethodId} {args : Array Value} {below : List Frame} {meth : Method} {c : Code} {Q : State → Prop} {D : va_G} {T : Nat → ClassId} {a_m a_ms a_mw a_mv a_mp a_mf a_ml a_mt a_mc : Nat} {m_chg : Int32} {m_rea : Int32} {m_det : Int32} {m_ref : Int32} {m_err : Int32} {m_ans : Int32} {m_sav : Int32} {m_net : Int32} {m_tap : Int32} {m_her : Int32} {m_cmd : Int32} {v_ms : Nat → Int32} {A : Nat → Prop} {r : Int32 × Int32 × Int32 × (Nat → Int32)} (C : CallFix p m c cX8_tell 2 s args aw RX8) (hE : eK D T s) (hA : ∀ q : Nat, s.heap.size ≤ q → A q) (hret : WrRet p l e ({ frames := 3, cells := 0, slots := 0, locals := 63 } : Room) s m args below meth c Q cX8_tell .int D A [(a_m, .inr (8, [.ref a_ms, .ref a_mw, .ref a_mv, .ref a_mp, .ref a_mf, .int m_chg, .int r.2.1, .int m_rea, .int m_det, .int m_ref, .int m_err, .int m_ans, .int m_sav, .int m_net, .ref a_ml, .int r.2.2.1, .ref a_mt, .ref a_mc, .int m_tap, .int m_her, .int m_cmd])), (a_ms, .inl (T 0, 103, .inl v_ms)), (a_ml, .inl (T 0, 40, .inl r.2.2.2))] r.1) (m_thr : Int32) (m_lin : Int32) (v_ml : Nat → Int32) {H : Heap} {locs : List Loc} (hPD : va_PD D A [(a_m, .inr (8, [.ref a_ms, .ref a_mw, .ref a_mv, .ref a_mp, .ref a_mf, .int m_chg, .int m_thr, .int m_rea, .int m_det, .int m_ref, .int m_err, .int m_ans, .int m_sav, .int m_net, .ref a_ml, .int m_lin, .ref a_mt, .ref a_mc, .int m_tap, .int m_her, .int m_cmd])), (a_ms, .inl (T 0, 103, .inl v_ms)), (a_ml, .inl (T 0, 40, .inl v_ml))] H) (hS : va_S A s.heap H locs) (ls : Array Slot) (hl : lv_has ls 2 [(0, .ref a_m)]) (h : fX8_tell_138 v_ms m_thr m_lin v_ml = some r) : W p l e ({ frames := 3, cells := 0, slots := 0, locals := 63 } : Room) s m args below meth c H locs 0 0 Q (F0 m 138 ls []) := by
  have hx := C.1
  have hb := C.2.1
  obtain ⟨hP, hD⟩ := hPD
  unfold fX8_tell_138 at h
  refine lv_aload_n hx hb dX8_tell_138 rfl (lv_at hl 0 rfl) ?_
  refine getF (q0 := 0) (k0 := 15) (v := .int m_lin) C hE hP inA8 rfl rfl (by decide) qFX8_199 rfl rfl dX8_tell_139 ?_
  replace h := Option.some.inj h
  exact hret _ _ _ _ _ _ dX8_tell_142 rfl (by rw [← h] <;> rfl) (by rw [← h]; exact hP) hS
set_option maxHeartbeats 4000000 in
set_option maxRecDepth 100000 in
theorem lX8_tell_122 {p : Program} {l : Launch} {e : Env} {s : State} {m : MethodId} {args : Array Value} {below : List Frame} {meth : Method} {c : Code} {Q : State → Prop} {D : va_G} {T : Nat → ClassId} {a_m a_ms a_mw a_mv a_mp a_mf a_ml a_mt a_mc : Nat} {m_chg : Int32} {m_rea : Int32} {m_det : Int32} {m_ref : Int32} {m_err : Int32} {m_ans : Int32} {m_sav : Int32} {m_net : Int32} {m_tap : Int32} {m_her : Int32} {m_cmd : Int32} {v_ms : Nat → Int32} {A : Nat → Prop} {r : Int32 × Int32 × Int32 × (Nat → Int32)} (C : CallFix p m c cX8_tell 2 s args aw RX8) (hE : eK D T s) (hA : ∀ q : Nat, s.heap.size ≤ q → A q) (hret : WrRet p l e ({ frames := 3, cells := 0, slots := 0, locals := 63 } : Room) s m args below meth c Q cX8_tell .int D A [(a_m, .inr (8, [.ref a_ms, .ref a_mw, .ref a_mv, .ref a_mp, .ref a_mf, .int m_chg, .int r.2.1, .int m_rea, .int m_det, .int m_ref, .int m_err, .int m_ans, .int m_sav, .int m_net, .ref a_ml, .int r.2.2.1, .ref a_mt, .ref a_mc, .int m_tap, .int m_her, .int m_cmd])), (a_ms, .inl (T 0, 103, .inl v_ms)), (a_ml, .inl (T 0, 40, .inl r.2.2.2))] r.1) (l1 : Int32) (m_thr : Int32) (m_lin : Int32) (v_ml : Nat → Int32) {H : Heap} {locs : List Loc} (hPD : va_PD D A [(a_m, .inr (8, [.ref a_ms, .ref a_mw, .ref a_mv, .ref a_mp, .ref a_mf, .int m_chg, .int m_thr, .int m_rea, .int m_det, .int m_ref, .int m_err, .int m_ans, .int m_sav, .int m_net, .ref a_ml, .int m_lin, .ref a_mt, .ref a_mc, .int m_tap, .int m_her, .int m_cmd])), (a_ms, .inl (T 0, 103, .inl v_ms)), (a_ml, .inl (T 0, 40, .inl v_ml))] H) (hS : va_S A s.heap H locs) (ls : Array Slot) (hl : lv_has ls 2 [(0, .ref a_m), (1, .int l1)]) (h : fX8_tell_122 v_ms l1 m_thr m_lin v_ml = some r) : W p l e ({ frames := 3, cells := 0, slots := 0, locals := 63 } : Room) s m args below meth c H locs 0 0 Q (F0 m 122 ls []) := by
  have hx := C.1
  have hb := C.2.1
  obtain ⟨hP, hD⟩ := hPD
  unfold fX8_tell_122 at h
  refine lv_aload_n hx hb dX8_tell_122 rfl (lv_at hl 0 rfl) ?_
  refine lv_iload_n hx hb dX8_tell_123 rfl (lv_at hl 1 rfl) ?_
  refine lv_iconst (v := 5) hx hb dX8_tell_124 (by decide) ?_
  replace h := bnd h; obtain ⟨q42, e43, h⟩ := h
  refine rdV C hE hP (kX8_of l D T a_m a_ms a_mw a_mv a_mp a_mf a_ml a_mt a_mc m_chg m_thr m_rea m_det m_ref m_err m_ans m_sav m_net m_lin m_tap m_her m_cmd v_ms l1 5 q42 e43) mX8_of qLX8_90 [0, 1] 0 rfl rfl rfl rfl ⟨rfl, rfl⟩ ⟨Nat.le_of_ble_eq_true rfl, Nat.le_of_ble_eq_true rfl⟩ rfl hl.1 rfl (Nat.le_of_ble_eq_true rfl) dX8_tell_125 ⟨Nat.le_of_ble_eq_true rfl, Nat.le_of_ble_eq_true rfl⟩ ?_
  refine lv_iconst (v := 1) hx hb dX8_tell_128 (by decide) ?_
  refine lv_icmp_ne (tgt := 138) hx hb dX8_tell_129 (by decide) (fun c44 => ?_) (fun c44 => ?_)
  · replace h := ite_f c44 h
    exact lX8_tell_138 C hE hA hret m_thr m_lin v_ml ⟨hP, hD⟩ hS _ (lv_sub hl [0] rfl) h
  · replace h := ite_t c44 h
    refine lv_aload_n hx hb dX8_tell_132 rfl (lv_at hl 0 rfl) ?_
    refine lv_bipush (v := 33) hx hb dX8_tell_133 (by decide) ?_
    replace h := bnd h; obtain ⟨q45, e46, h⟩ := h
    refine wrVv (ws1 := [(a_m, .inr (8, [.ref a_ms, .ref a_mw, .ref a_mv, .ref a_mp, .ref a_mf, .int m_chg, .int m_thr, .int m_rea, .int m_det, .int m_ref, .int m_err, .int m_ans, .int m_sav, .int m_net, .ref a_ml, .int q45.1, .ref a_mt, .ref a_mc, .int m_tap, .int m_her, .int m_cmd])), (a_ms, .inl (T 0, 103, .inl v_ms)), (a_ml, .inl (T 0, 40, .inl q45.2))]) C hE hP hD hS hA (kX8_puts l D T a_m a_ms a_mw a_mv a_mp a_mf a_ml a_mt a_mc m_chg m_thr m_rea m_det m_ref m_err m_ans m_sav m_net m_lin m_tap m_her m_cmd v_ml 33 _ q45 e46) mX8_puts qLX8_205 [0, 2] [1] 0 rfl rfl rfl rfl rfl rfl rfl rfl rfl ⟨rfl, rfl⟩ ⟨Nat.le_of_ble_eq_true rfl, Nat.le_of_ble_eq_true rfl⟩ rfl hl.1 rfl (Nat.le_of_ble_eq_true rfl) dX8_tell_135 ⟨Nat.le_of_ble_eq_true rfl, Nat.le_of_ble_eq_true rfl⟩ ?_; clear hP hD hS; intro H locs hP hD hS
    exact lX8_tell_138 C hE hA hret m_thr q45.1 q45.2 ⟨hP, hD⟩ hS _ (lv_sub hl [0] rfl) h
set_option maxHeartbeats 4000000 in
set_option maxRecDepth 100000 in
theorem lX8_tell_14 {p : Program} {l : Launch} {e : Env} {s : State} {m : MethodId} {args : Array Value} {below : List Frame} {meth : Method} {c : Code} {Q : State → Prop} {D : va_G} {T : Nat → ClassId} {a_m a_ms a_mw a_mv a_mp a_mf a_ml a_mt a_mc : Nat} {m_chg : Int32} {m_rea : Int32} {m_det : Int32} {m_ref : Int32} {m_err : Int32} {m_ans : Int32} {m_sav : Int32} {m_net : Int32} {m_tap : Int32} {m_her : Int32} {m_cmd : Int32} {v_ms : Nat → Int32} {A : Nat → Prop} {r : Int32 × Int32 × Int32 × (Nat → Int32)} (C : CallFix p m c cX8_tell 2 s args aw RX8) (hE : eK D T s) (hA : ∀ q : Nat, s.heap.size ≤ q → A q) (hret : WrRet p l e ({ frames := 3, cells := 0, slots := 0, locals := 63 } : Room) s m args below meth c Q cX8_tell .int D A [(a_m, .inr (8, [.ref a_ms, .ref a_mw, .ref a_mv, .ref a_mp, .ref a_mf, .int m_chg, .int r.2.1, .int m_rea, .int m_det, .int m_ref, .int m_err, .int m_ans, .int m_sav, .int m_net, .ref a_ml, .int r.2.2.1, .ref a_mt, .ref a_mc, .int m_tap, .int m_her, .int m_cmd])), (a_ms, .inl (T 0, 103, .inl v_ms)), (a_ml, .inl (T 0, 40, .inl r.2.2.2))] r.1) (x1 : Int32) (l1 : Int32) (m_thr : Int32) (m_lin : Int32) (v_ml : Nat → Int32) {H : Heap} {locs : List Loc} (hPD : va_PD D A [(a_m, .inr (8, [.ref a_ms, .ref a_mw, .ref a_mv, .ref a_mp, .ref a_mf, .int m_chg, .int m_thr, .int m_rea, .int m_det, .int m_ref, .int m_err, .int m_ans, .int m_sav, .int m_net, .ref a_ml, .int m_lin, .ref a_mt, .ref a_mc, .int m_tap, .int m_her, .int m_cmd])), (a_ms, .inl (T 0, 103, .inl v_ms)), (a_ml, .inl (T 0, 40, .inl v_ml))] H) (hS : va_S A s.heap H locs) (ls : Array Slot) (hl : lv_has ls 2 [(0, .ref a_m), (1, .int l1)]) (h : fX8_tell_14 v_ms x1 l1 m_thr m_lin v_ml = some r) : W p l e ({ frames := 3, cells := 0, slots := 0, locals := 63 } : Room) s m args below meth c H locs 0 0 Q (F0 m 14 ls [.int x1, .ref a_m]) := by
  have hx := C.1
  have hb := C.2.1
  obtain ⟨hP, hD⟩ := hPD
  unfold fX8_tell_14 at h
  refine lv_iconst (v := 1) hx hb dX8_tell_14 (by decide) ?_
  replace h := bnd h; obtain ⟨q4, e5, h⟩ := h
  refine wrVi (ws1 := [(a_m, .inr (8, [.ref a_ms, .ref a_mw, .ref a_mv, .ref a_mp, .ref a_mf, .int m_chg, .int q4.2, .int m_rea, .int m_det, .int m_ref, .int m_err, .int m_ans, .int m_sav, .int m_net, .ref a_ml, .int m_lin, .ref a_mt, .ref a_mc, .int m_tap, .int m_her, .int m_cmd])), (a_ms, .inl (T 0, 103, .inl v_ms)), (a_ml, .inl (T 0, 40, .inl v_ml))]) C hE hP hD hS hA (kX8_isThrown l D T a_m a_ms a_mw a_mv a_mp a_mf a_ml a_mt a_mc m_chg m_thr m_rea m_det m_ref m_err m_ans m_sav m_net m_lin m_tap m_her m_cmd x1 1 _ q4 e5) mX8_isThrown qLX8_80 [0] [1, 2] 0 rfl rfl rfl rfl rfl rfl rfl rfl rfl ⟨rfl, rfl⟩ ⟨Nat.le_of_ble_eq_true rfl, Nat.le_of_ble_eq_true rfl⟩ rfl hl.1 rfl (Nat.le_of_ble_eq_true rfl) dX8_tell_15 ⟨Nat.le_of_ble_eq_true rfl, Nat.le_of_ble_eq_true rfl⟩ ?_; clear hP hD hS; intro H locs hP hD hS
  refine lv_if_eq (tgt := 23) hx hb dX8_tell_18 (by decide) (fun c6 => ?_) (fun c6 => ?_)
  · replace h := ite_t c6 h
    refine lv_aload_n hx hb dX8_tell_23 rfl (lv_at hl 0 rfl) ?_
    refine lv_iconst (v := 0) hx hb dX8_tell_24 (by decide) ?_
    refine putF (q0 := 0) (k0 := 15) (ws1 := [(a_m, .inr (8, [.ref a_ms, .ref a_mw, .ref a_mv, .ref a_mp, .ref a_mf, .int m_chg, .int q4.2, .int m_rea, .int m_det, .int m_ref, .int m_err, .int m_ans, .int m_sav, .int m_net, .ref a_ml, .int 0, .ref a_mt, .ref a_mc, .int m_tap, .int m_her, .int m_cmd])), (a_ms, .inl (T 0, 103, .inl v_ms)), (a_ml, .inl (T 0, 40, .inl v_ml))]) C hE hP hD hS inA8 tyX8_ok nmX8 rfl rfl (by decide) qFX8_199 rfl rfl rfl rfl (Nat.le_of_ble_eq_true rfl) rfl dX8_tell_25 ?_; clear hP hD hS; intro H locs hP hD hS
    refine lv_aload_n hx hb dX8_tell_28 rfl (lv_at hl 0 rfl) ?_
    refine lv_iload_n hx hb dX8_tell_29 rfl (lv_at hl 1 rfl) ?_
    replace h := bnd h; obtain ⟨q7, e8, h⟩ := h
    refine wrVv (ws1 := [(a_m, .inr (8, [.ref a_ms, .ref a_mw, .ref a_mv, .ref a_mp, .ref a_mf, .int m_chg, .int q4.2, .int m_rea, .int m_det, .int m_ref, .int m_err, .int m_ans, .int m_sav, .int m_net, .ref a_ml, .int q7.1, .ref a_mt, .ref a_mc, .int m_tap, .int m_her, .int m_cmd])), (a_ms, .inl (T 0, 103, .inl v_ms)), (a_ml, .inl (T 0, 40, .inl q7.2))]) C hE hP hD hS hA (kX8_number_1 l D T a_m a_ms a_mw a_mv a_mp a_mf a_ml a_mt a_mc m_chg q4.2 m_rea m_det m_ref m_err m_ans m_sav m_net 0 m_tap m_her m_cmd v_ml l1 _ q7 e8) mX8_number qLX8_202 [0, 2] [1] 0 rfl rfl rfl rfl rfl rfl rfl rfl rfl ⟨rfl, rfl⟩ ⟨Nat.le_of_ble_eq_true rfl, Nat.le_of_ble_eq_true rfl⟩ rfl hl.1 rfl (Nat.le_of_ble_eq_true rfl) dX8_tell_30 ⟨Nat.le_of_ble_eq_true rfl, Nat.le_of_ble_eq_true rfl⟩ ?_; clear hP hD hS; intro H locs hP hD hS
    refine lv_aload_n hx hb dX8_tell_33 rfl (lv_at hl 0 rfl) ?_
    refine lv_bipush (v := 58) hx hb dX8_tell_34 (by decide) ?_
    replace h := bnd h; obtain ⟨q9, e10, h⟩ := h
    refine wrVv (ws1 := [(a_m, .inr (8, [.ref a_ms, .ref a_mw, .ref a_mv, .ref a_mp, .ref a_mf, .int m_chg, .int q4.2, .int m_rea, .int m_det, .int m_ref, .int m_err, .int m_ans, .int m_sav, .int m_net, .ref a_ml, .int q9.1, .ref a_mt, .ref a_mc, .int m_tap, .int m_her, .int m_cmd])), (a_ms, .inl (T 0, 103, .inl v_ms)), (a_ml, .inl (T 0, 40, .inl q9.2))]) C hE hP hD hS hA (kX8_puts l D T a_m a_ms a_mw a_mv a_mp a_mf a_ml a_mt a_mc m_chg q4.2 m_rea m_det m_ref m_err m_ans m_sav m_net q7.1 m_tap m_her m_cmd q7.2 58 _ q9 e10) mX8_puts qLX8_205 [0, 2] [1] 0 rfl rfl rfl rfl rfl rfl rfl rfl rfl ⟨rfl, rfl⟩ ⟨Nat.le_of_ble_eq_true rfl, Nat.le_of_ble_eq_true rfl⟩ rfl hl.1 rfl (Nat.le_of_ble_eq_true rfl) dX8_tell_36 ⟨Nat.le_of_ble_eq_true rfl, Nat.le_of_ble_eq_true rfl⟩ ?_; clear hP hD hS; intro H locs hP hD hS
    refine lv_aload_n hx hb dX8_tell_39 rfl (lv_at hl 0 rfl) ?_
    refine lv_aload_n hx hb dX8_tell_40 rfl (lv_at hl 0 rfl) ?_
    refine lv_iload_n hx hb dX8_tell_41 rfl (lv_at hl 1 rfl) ?_
    refine lv_iconst (v := 0) hx hb dX8_tell_42 (by decide) ?_
    replace h := bnd h; obtain ⟨q11, e12, h⟩ := h
    refine rdV C hE hP (kX8_of l D T a_m a_ms a_mw a_mv a_mp a_mf a_ml a_mt a_mc m_chg q4.2 m_rea m_det m_ref m_err m_ans m_sav m_net q9.1 m_tap m_her m_cmd v_ms l1 0 q11 e12) mX8_of qLX8_90 [0, 1] 0 rfl rfl rfl rfl ⟨rfl, rfl⟩ ⟨Nat.le_of_ble_eq_true rfl, Nat.le_of_ble_eq_true rfl⟩ rfl hl.1 rfl (Nat.le_of_ble_eq_true rfl) dX8_tell_43 ⟨Nat.le_of_ble_eq_true rfl, Nat.le_of_ble_eq_true rfl⟩ ?_
    replace h := bnd h; obtain ⟨q13, e14, h⟩ := h
    refine wrVv (ws1 := [(a_m, .inr (8, [.ref a_ms, .ref a_mw, .ref a_mv, .ref a_mp, .ref a_mf, .int m_chg, .int q4.2, .int m_rea, .int m_det, .int m_ref, .int m_err, .int m_ans, .int m_sav, .int m_net, .ref a_ml, .int q13.1, .ref a_mt, .ref a_mc, .int m_tap, .int m_her, .int m_cmd])), (a_ms, .inl (T 0, 103, .inl v_ms)), (a_ml, .inl (T 0, 40, .inl q13.2))]) C hE hP hD hS hA (kX8_number_1 l D T a_m a_ms a_mw a_mv a_mp a_mf a_ml a_mt a_mc m_chg q4.2 m_rea m_det m_ref m_err m_ans m_sav m_net q9.1 m_tap m_her m_cmd q9.2 q11 _ q13 e14) mX8_number qLX8_202 [0, 2] [1] 0 rfl rfl rfl rfl rfl rfl rfl rfl rfl ⟨rfl, rfl⟩ ⟨Nat.le_of_ble_eq_true rfl, Nat.le_of_ble_eq_true rfl⟩ rfl hl.1 rfl (Nat.le_of_ble_eq_true rfl) dX8_tell_46 ⟨Nat.le_of_ble_eq_true rfl, Nat.le_of_ble_eq_true rfl⟩ ?_; clear hP hD hS; intro H locs hP hD hS
    refine lv_aload_n hx hb dX8_tell_49 rfl (lv_at hl 0 rfl) ?_
    refine lv_bipush (v := 94) hx hb dX8_tell_50 (by decide) ?_
    replace h := bnd h; obtain ⟨q15, e16, h⟩ := h
    refine wrVv (ws1 := [(a_m, .inr (8, [.ref a_ms, .ref a_mw, .ref a_mv, .ref a_mp, .ref a_mf, .int m_chg, .int q4.2, .int m_rea, .int m_det, .int m_ref, .int m_err, .int m_ans, .int m_sav, .int m_net, .ref a_ml, .int q15.1, .ref a_mt, .ref a_mc, .int m_tap, .int m_her, .int m_cmd])), (a_ms, .inl (T 0, 103, .inl v_ms)), (a_ml, .inl (T 0, 40, .inl q15.2))]) C hE hP hD hS hA (kX8_puts l D T a_m a_ms a_mw a_mv a_mp a_mf a_ml a_mt a_mc m_chg q4.2 m_rea m_det m_ref m_err m_ans m_sav m_net q13.1 m_tap m_her m_cmd q13.2 94 _ q15 e16) mX8_puts qLX8_205 [0, 2] [1] 0 rfl rfl rfl rfl rfl rfl rfl rfl rfl ⟨rfl, rfl⟩ ⟨Nat.le_of_ble_eq_true rfl, Nat.le_of_ble_eq_true rfl⟩ rfl hl.1 rfl (Nat.le_of_ble_eq_true rfl) dX8_tell_52 ⟨Nat.le_of_ble_eq_true rfl, Nat.le_of_ble_eq_true rfl⟩ ?_; clear hP hD hS; intro H locs hP hD hS
    refine lv_aload_n hx hb dX8_tell_55 rfl (lv_at hl 0 rfl) ?_
    refine lv_aload_n hx hb dX8_tell_56 rfl (lv_at hl 0 rfl) ?_
    refine lv_iload_n hx hb dX8_tell_57 rfl (lv_at hl 1 rfl) ?_
    refine lv_iconst (v := 1) hx hb dX8_tell_58 (by decide) ?_
    replace h := bnd h; obtain ⟨q17, e18, h⟩ := h
    refine rdV C hE hP (kX8_of l D T a_m a_ms a_mw a_mv a_mp a_mf a_ml a_mt a_mc m_chg q4.2 m_rea m_det m_ref m_err m_ans m_sav m_net q15.1 m_tap m_her m_cmd v_ms l1 1 q17 e18) mX8_of qLX8_90 [0, 1] 0 rfl rfl rfl rfl ⟨rfl, rfl⟩ ⟨Nat.le_of_ble_eq_true rfl, Nat.le_of_ble_eq_true rfl⟩ rfl hl.1 rfl (Nat.le_of_ble_eq_true rfl) dX8_tell_59 ⟨Nat.le_of_ble_eq_true rfl, Nat.le_of_ble_eq_true rfl⟩ ?_
    replace h := bnd h; obtain ⟨q19, e20, h⟩ := h
    refine wrVv (ws1 := [(a_m, .inr (8, [.ref a_ms, .ref a_mw, .ref a_mv, .ref a_mp, .ref a_mf, .int m_chg, .int q4.2, .int m_rea, .int m_det, .int m_ref, .int m_err, .int m_ans, .int m_sav, .int m_net, .ref a_ml, .int q19.1, .ref a_mt, .ref a_mc, .int m_tap, .int m_her, .int m_cmd])), (a_ms, .inl (T 0, 103, .inl v_ms)), (a_ml, .inl (T 0, 40, .inl q19.2))]) C hE hP hD hS hA (kX8_number_1 l D T a_m a_ms a_mw a_mv a_mp a_mf a_ml a_mt a_mc m_chg q4.2 m_rea m_det m_ref m_err m_ans m_sav m_net q15.1 m_tap m_her m_cmd q15.2 q17 _ q19 e20) mX8_number qLX8_202 [0, 2] [1] 0 rfl rfl rfl rfl rfl rfl rfl rfl rfl ⟨rfl, rfl⟩ ⟨Nat.le_of_ble_eq_true rfl, Nat.le_of_ble_eq_true rfl⟩ rfl hl.1 rfl (Nat.le_of_ble_eq_true rfl) dX8_tell_62 ⟨Nat.le_of_ble_eq_true rfl, Nat.le_of_ble_eq_true rfl⟩ ?_; clear hP hD hS; intro H locs hP hD hS
    refine lv_aload_n hx hb dX8_tell_65 rfl (lv_at hl 0 rfl) ?_
    refine lv_bipush (v := 47) hx hb dX8_tell_66 (by decide) ?_
    replace h := bnd h; obtain ⟨q21, e22, h⟩ := h
    refine wrVv (ws1 := [(a_m, .inr (8, [.ref a_ms, .ref a_mw, .ref a_mv, .ref a_mp, .ref a_mf, .int m_chg, .int q4.2, .int m_rea, .int m_det, .int m_ref, .int m_err, .int m_ans, .int m_sav, .int m_net, .ref a_ml, .int q21.1, .ref a_mt, .ref a_mc, .int m_tap, .int m_her, .int m_cmd])), (a_ms, .inl (T 0, 103, .inl v_ms)), (a_ml, .inl (T 0, 40, .inl q21.2))]) C hE hP hD hS hA (kX8_puts l D T a_m a_ms a_mw a_mv a_mp a_mf a_ml a_mt a_mc m_chg q4.2 m_rea m_det m_ref m_err m_ans m_sav m_net q19.1 m_tap m_her m_cmd q19.2 47 _ q21 e22) mX8_puts qLX8_205 [0, 2] [1] 0 rfl rfl rfl rfl rfl rfl rfl rfl rfl ⟨rfl, rfl⟩ ⟨Nat.le_of_ble_eq_true rfl, Nat.le_of_ble_eq_true rfl⟩ rfl hl.1 rfl (Nat.le_of_ble_eq_true rfl) dX8_tell_68 ⟨Nat.le_of_ble_eq_true rfl, Nat.le_of_ble_eq_true rfl⟩ ?_; clear hP hD hS; intro H locs hP hD hS
    refine lv_aload_n hx hb dX8_tell_71 rfl (lv_at hl 0 rfl) ?_
    refine lv_aload_n hx hb dX8_tell_72 rfl (lv_at hl 0 rfl) ?_
    refine lv_iload_n hx hb dX8_tell_73 rfl (lv_at hl 1 rfl) ?_
    refine lv_iconst (v := 2) hx hb dX8_tell_74 (by decide) ?_
    replace h := bnd h; obtain ⟨q23, e24, h⟩ := h
    refine rdV C hE hP (kX8_of l D T a_m a_ms a_mw a_mv a_mp a_mf a_ml a_mt a_mc m_chg q4.2 m_rea m_det m_ref m_err m_ans m_sav m_net q21.1 m_tap m_her m_cmd v_ms l1 2 q23 e24) mX8_of qLX8_90 [0, 1] 0 rfl rfl rfl rfl ⟨rfl, rfl⟩ ⟨Nat.le_of_ble_eq_true rfl, Nat.le_of_ble_eq_true rfl⟩ rfl hl.1 rfl (Nat.le_of_ble_eq_true rfl) dX8_tell_75 ⟨Nat.le_of_ble_eq_true rfl, Nat.le_of_ble_eq_true rfl⟩ ?_
    replace h := bnd h; obtain ⟨q25, e26, h⟩ := h
    refine wrVv (ws1 := [(a_m, .inr (8, [.ref a_ms, .ref a_mw, .ref a_mv, .ref a_mp, .ref a_mf, .int m_chg, .int q4.2, .int m_rea, .int m_det, .int m_ref, .int m_err, .int m_ans, .int m_sav, .int m_net, .ref a_ml, .int q25.1, .ref a_mt, .ref a_mc, .int m_tap, .int m_her, .int m_cmd])), (a_ms, .inl (T 0, 103, .inl v_ms)), (a_ml, .inl (T 0, 40, .inl q25.2))]) C hE hP hD hS hA (kX8_number_1 l D T a_m a_ms a_mw a_mv a_mp a_mf a_ml a_mt a_mc m_chg q4.2 m_rea m_det m_ref m_err m_ans m_sav m_net q21.1 m_tap m_her m_cmd q21.2 q23 _ q25 e26) mX8_number qLX8_202 [0, 2] [1] 0 rfl rfl rfl rfl rfl rfl rfl rfl rfl ⟨rfl, rfl⟩ ⟨Nat.le_of_ble_eq_true rfl, Nat.le_of_ble_eq_true rfl⟩ rfl hl.1 rfl (Nat.le_of_ble_eq_true rfl) dX8_tell_78 ⟨Nat.le_of_ble_eq_true rfl, Nat.le_of_ble_eq_true rfl⟩ ?_; clear hP hD hS; intro H locs hP hD hS
    refine lv_aload_n hx hb dX8_tell_81 rfl (lv_at hl 0 rfl) ?_
    refine lv_bipush (v := 37) hx hb dX8_tell_82 (by decide) ?_
    replace h := bnd h; obtain ⟨q27, e28, h⟩ := h
    refine wrVv (ws1 := [(a_m, .inr (8, [.ref a_ms, .ref a_mw, .ref a_mv, .ref a_mp, .ref a_mf, .int m_chg, .int q4.2, .int m_rea, .int m_det, .int m_ref, .int m_err, .int m_ans, .int m_sav, .int m_net, .ref a_ml, .int q27.1, .ref a_mt, .ref a_mc, .int m_tap, .int m_her, .int m_cmd])), (a_ms, .inl (T 0, 103, .inl v_ms)), (a_ml, .inl (T 0, 40, .inl q27.2))]) C hE hP hD hS hA (kX8_puts l D T a_m a_ms a_mw a_mv a_mp a_mf a_ml a_mt a_mc m_chg q4.2 m_rea m_det m_ref m_err m_ans m_sav m_net q25.1 m_tap m_her m_cmd q25.2 37 _ q27 e28) mX8_puts qLX8_205 [0, 2] [1] 0 rfl rfl rfl rfl rfl rfl rfl rfl rfl ⟨rfl, rfl⟩ ⟨Nat.le_of_ble_eq_true rfl, Nat.le_of_ble_eq_true rfl⟩ rfl hl.1 rfl (Nat.le_of_ble_eq_true rfl) dX8_tell_84 ⟨Nat.le_of_ble_eq_true rfl, Nat.le_of_ble_eq_true rfl⟩ ?_; clear hP hD hS; intro H locs hP hD hS
    refine lv_aload_n hx hb dX8_tell_87 rfl (lv_at hl 0 rfl) ?_
    refine lv_aload_n hx hb dX8_tell_88 rfl (lv_at hl 0 rfl) ?_
    refine lv_iload_n hx hb dX8_tell_89 rfl (lv_at hl 1 rfl) ?_
    refine lv_iconst (v := 3) hx hb dX8_tell_90 (by decide) ?_
    replace h := bnd h; obtain ⟨q29, e30, h⟩ := h
    refine rdV C hE hP (kX8_of l D T a_m a_ms a_mw a_mv a_mp a_mf a_ml a_mt a_mc m_chg q4.2 m_rea m_det m_ref m_err m_ans m_sav m_net q27.1 m_tap m_her m_cmd v_ms l1 3 q29 e30) mX8_of qLX8_90 [0, 1] 0 rfl rfl rfl rfl ⟨rfl, rfl⟩ ⟨Nat.le_of_ble_eq_true rfl, Nat.le_of_ble_eq_true rfl⟩ rfl hl.1 rfl (Nat.le_of_ble_eq_true rfl) dX8_tell_91 ⟨Nat.le_of_ble_eq_true rfl, Nat.le_of_ble_eq_true rfl⟩ ?_
    replace h := bnd h; obtain ⟨q31, e32, h⟩ := h
    refine wrVv (ws1 := [(a_m, .inr (8, [.ref a_ms, .ref a_mw, .ref a_mv, .ref a_mp, .ref a_mf, .int m_chg, .int q4.2, .int m_rea, .int m_det, .int m_ref, .int m_err, .int m_ans, .int m_sav, .int m_net, .ref a_ml, .int q31.1, .ref a_mt, .ref a_mc, .int m_tap, .int m_her, .int m_cmd])), (a_ms, .inl (T 0, 103, .inl v_ms)), (a_ml, .inl (T 0, 40, .inl q31.2))]) C hE hP hD hS hA (kX8_number_1 l D T a_m a_ms a_mw a_mv a_mp a_mf a_ml a_mt a_mc m_chg q4.2 m_rea m_det m_ref m_err m_ans m_sav m_net q27.1 m_tap m_her m_cmd q27.2 q29 _ q31 e32) mX8_number qLX8_202 [0, 2] [1] 0 rfl rfl rfl rfl rfl rfl rfl rfl rfl ⟨rfl, rfl⟩ ⟨Nat.le_of_ble_eq_true rfl, Nat.le_of_ble_eq_true rfl⟩ rfl hl.1 rfl (Nat.le_of_ble_eq_true rfl) dX8_tell_94 ⟨Nat.le_of_ble_eq_true rfl, Nat.le_of_ble_eq_true rfl⟩ ?_; clear hP hD hS; intro H locs hP hD hS
    refine lv_aload_n hx hb dX8_tell_97 rfl (lv_at hl 0 rfl) ?_
    refine lv_iload_n hx hb dX8_tell_98 rfl (lv_at hl 1 rfl) ?_
    refine lv_iconst (v := 4) hx hb dX8_tell_99 (by decide) ?_
    replace h := bnd h; obtain ⟨q33, e34, h⟩ := h
    refine rdV C hE hP (kX8_of l D T a_m a_ms a_mw a_mv a_mp a_mf a_ml a_mt a_mc m_chg q4.2 m_rea m_det m_ref m_err m_ans m_sav m_net q31.1 m_tap m_her m_cmd v_ms l1 4 q33 e34) mX8_of qLX8_90 [0, 1] 0 rfl rfl rfl rfl ⟨rfl, rfl⟩ ⟨Nat.le_of_ble_eq_true rfl, Nat.le_of_ble_eq_true rfl⟩ rfl hl.1 rfl (Nat.le_of_ble_eq_true rfl) dX8_tell_100 ⟨Nat.le_of_ble_eq_true rfl, Nat.le_of_ble_eq_true rfl⟩ ?_
    refine lv_if_lt (tgt := 122) hx hb dX8_tell_103 (by decide) (fun c35 => ?_) (fun c35 => ?_)
    · replace h := ite_t c35 h
      exact lX8_tell_122 C hE hA hret l1 q4.2 q31.1 q31.2 ⟨hP, hD⟩ hS _ (lv_sub hl [0, 1] rfl) h
    · replace h := ite_f c35 h
      refine lv_aload_n hx hb dX8_tell_106 rfl (lv_at hl 0 rfl) ?_
      refine lv_bipush (v := 64) hx hb dX8_tell_107 (by decide) ?_
      replace h := bnd h; obtain ⟨q36, e37, h⟩ := h
      refine wrVv (ws1 := [(a_m, .inr (8, [.ref a_ms, .ref a_mw, .ref a_mv, .ref a_mp, .ref a_mf, .int m_chg, .int q4.2, .int m_rea, .int m_det, .int m_ref, .int m_err, .int m_ans, .int m_sav, .int m_net, .ref a_ml, .int q36.1, .ref a_mt, .ref a_mc, .int m_tap, .int m_her, .int m_cmd])), (a_ms, .inl (T 0, 103, .inl v_ms)), (a_ml, .inl (T 0, 40, .inl q36.2))]) C hE hP hD hS hA (kX8_puts l D T a_m a_ms a_mw a_mv a_mp a_mf a_ml a_mt a_mc m_chg q4.2 m_rea m_det m_ref m_err m_ans m_sav m_net q31.1 m_tap m_her m_cmd q31.2 64 _ q36 e37) mX8_puts qLX8_205 [0, 2] [1] 0 rfl rfl rfl rfl rfl rfl rfl rfl rfl ⟨rfl, rfl⟩ ⟨Nat.le_of_ble_eq_true rfl, Nat.le_of_ble_eq_true rfl⟩ rfl hl.1 rfl (Nat.le_of_ble_eq_true rfl) dX8_tell_109 ⟨Nat.le_of_ble_eq_true rfl, Nat.le_of_ble_eq_true rfl⟩ ?_; clear hP hD hS; intro H locs hP hD hS
      refine lv_aload_n hx hb dX8_tell_112 rfl (lv_at hl 0 rfl) ?_
      refine lv_aload_n hx hb dX8_tell_113 rfl (lv_at hl 0 rfl) ?_
      refine lv_iload_n hx hb dX8_tell_114 rfl (lv_at hl 1 rfl) ?_
      refine lv_iconst (v := 4) hx hb dX8_tell_115 (by decide) ?_
      replace h := bnd h; obtain ⟨q38, e39, h⟩ := h
      refine rdV C hE hP (kX8_of l D T a_m a_ms a_mw a_mv a_mp a_mf a_ml a_mt a_mc m_chg q4.2 m_rea m_det m_ref m_err m_ans m_sav m_net q36.1 m_tap m_her m_cmd v_ms l1 4 q38 e39) mX8_of qLX8_90 [0, 1] 0 rfl rfl rfl rfl ⟨rfl, rfl⟩ ⟨Nat.le_of_ble_eq_true rfl, Nat.le_of_ble_eq_true rfl⟩ rfl hl.1 rfl (Nat.le_of_ble_eq_true rfl) dX8_tell_116 ⟨Nat.le_of_ble_eq_true rfl, Nat.le_of_ble_eq_true rfl⟩ ?_
      replace h := bnd h; obtain ⟨q40, e41, h⟩ := h
      refine wrVv (ws1 := [(a_m, .inr (8, [.ref a_ms, .ref a_mw, .ref a_mv, .ref a_mp, .ref a_mf, .int m_chg, .int q4.2, .int m_rea, .int m_det, .int m_ref, .int m_err, .int m_ans, .int m_sav, .int m_net, .ref a_ml, .int q40.1, .ref a_mt, .ref a_mc, .int m_tap, .int m_her, .int m_cmd])), (a_ms, .inl (T 0, 103, .inl v_ms)), (a_ml, .inl (T 0, 40, .inl q40.2))]) C hE hP hD hS hA (kX8_number_1 l D T a_m a_ms a_mw a_mv a_mp a_mf a_ml a_mt a_mc m_chg q4.2 m_rea m_det m_ref m_err m_ans m_sav m_net q36.1 m_tap m_her m_cmd q36.2 q38 _ q40 e41) mX8_number qLX8_202 [0, 2] [1] 0 rfl rfl rfl rfl rfl rfl rfl rfl rfl ⟨rfl, rfl⟩ ⟨Nat.le_of_ble_eq_true rfl, Nat.le_of_ble_eq_true rfl⟩ rfl hl.1 rfl (Nat.le_of_ble_eq_true rfl) dX8_tell_119 ⟨Nat.le_of_ble_eq_true rfl, Nat.le_of_ble_eq_true rfl⟩ ?_; clear hP hD hS; intro H locs hP hD hS
      exact lX8_tell_122 C hE hA hret l1 q4.2 q40.1 q40.2 ⟨hP, hD⟩ hS _ (lv_sub hl [0, 1] rfl) h
  · replace h := ite_f c6 h
    refine lv_iconst (v := 0) hx hb dX8_tell_21 (by decide) ?_
    replace h := Option.some.inj h
    exact hret _ _ _ _ _ _ dX8_tell_22 rfl (by rw [← h] <;> rfl) (by rw [← h]; exact hP) hS
set_option maxHeartbeats 4000000 in
set_option maxRecDepth 100000 in
theorem kX8_tell (l : Launch) (D : va_G) (T : Nat → ClassId) (a_m a_ms a_mw a_mv a_mp a_mf a_ml a_mt a_mc : Nat) (m_chg : Int32) (m_thr : Int32) (m_rea : Int32) (m_det : Int32) (m_ref : Int32) (m_err : Int32) (m_ans : Int32) (m_sav : Int32) (m_net : Int32) (m_lin : Int32) (m_tap : Int32) (m_her : Int32) (m_cmd : Int32) (v_ms : Nat → Int32) (v_ml : Nat → Int32) (p0 : Int32) (sz : Nat) (r : Int32 × Int32 × Int32 × (Nat → Int32)) (h : fX8_tell m_thr m_lin v_ms v_ml p0 = some r) : WrI l yX8_tell cX8_tell 2 .int ({ frames := 3, cells := 0, slots := 0, locals := 63 } : Room) D T sz [(a_m, .inr (8, [.ref a_ms, .ref a_mw, .ref a_mv, .ref a_mp, .ref a_mf, .int m_chg, .int m_thr, .int m_rea, .int m_det, .int m_ref, .int m_err, .int m_ans, .int m_sav, .int m_net, .ref a_ml, .int m_lin, .ref a_mt, .ref a_mc, .int m_tap, .int m_her, .int m_cmd])), (a_ms, .inl (T 0, 103, .inl v_ms)), (a_ml, .inl (T 0, 40, .inl v_ml))] [(a_m, .inr (8, [.ref a_ms, .ref a_mw, .ref a_mv, .ref a_mp, .ref a_mf, .int m_chg, .int r.2.1, .int m_rea, .int m_det, .int m_ref, .int m_err, .int m_ans, .int m_sav, .int m_net, .ref a_ml, .int r.2.2.1, .ref a_mt, .ref a_mc, .int m_tap, .int m_her, .int m_cmd])), (a_ms, .inl (T 0, 103, .inl v_ms)), (a_ml, .inl (T 0, 40, .inl r.2.2.2))] [.ref a_m, .int p0] r.1 := by
  unfold fX8_tell at h
  refine wrMet (by decide +kernel) rfl (fun p e s m args below meth c Q A C hE hA hP hD hS hret ls hl => ?_)
  have hx := C.1
  have hb := C.2.1
  have hl : lv_has ls 2 [(0, .ref a_m), (1, .int p0)] := hl
  refine lv_aload_n hx hb dX8_tell_0 rfl (lv_at hl 0 rfl) ?_
  refine lv_aload_n hx hb dX8_tell_1 rfl (lv_at hl 0 rfl) ?_
  refine lv_iload_n hx hb dX8_tell_2 rfl (lv_at hl 1 rfl) ?_
  replace h := bnd h; obtain ⟨q1, e2, h⟩ := h
  refine rdV C hE hP (kX8_isWhale l D T a_m a_ms a_mw a_mv a_mp a_mf a_ml a_mt a_mc m_chg m_thr m_rea m_det m_ref m_err m_ans m_sav m_net m_lin m_tap m_her m_cmd v_ms p0 q1 e2) mX8_isWhale qLX8_120 [0, 1] 0 rfl rfl rfl rfl ⟨rfl, rfl⟩ ⟨Nat.le_of_ble_eq_true rfl, Nat.le_of_ble_eq_true rfl⟩ rfl hl.1 rfl (Nat.le_of_ble_eq_true rfl) dX8_tell_3 ⟨Nat.le_of_ble_eq_true rfl, Nat.le_of_ble_eq_true rfl⟩ ?_
  refine lv_if_ne (tgt := 13) hx hb dX8_tell_6 (by decide) (fun c3 => ?_) (fun c3 => ?_)
  · rw [if_neg c3] at h
    refine lv_iconst (v := 0) hx hb dX8_tell_13 (by decide) ?_
    exact lX8_tell_14 C hE hA hret 0 p0 m_thr m_lin v_ml ⟨hP, hD⟩ hS _ (lv_sub hl [0, 1] rfl) h
  · rw [if_pos c3] at h
    refine lv_iconst (v := 1) hx hb dX8_tell_9 (by decide) ?_
    refine lv_goto (tgt := 14) hx hb dX8_tell_10 (by decide) ?_
    exact lX8_tell_14 C hE hA hret 1 p0 m_thr m_lin v_ml ⟨hP, hD⟩ hS _ (lv_sub hl [0, 1] rfl) h

def fX8_character_20 (m_lin : Int32) (v_ml : Nat → Int32) (x1 : Int32) (l1 : Int32) (m_thr : Int32) : Option (Int32 × Int32) :=
  (fX8_isThrown m_thr x1 1).bind fun q2 =>
  if q2.1 = 0 then
    if vin l1 40 = true then
    some (((((v_ml l1.toNatClampNeg)).toUInt32 % 65536).toInt32).toUInt32.toUInt16.toUInt32.toInt32, q2.2)
    else none
  else
    some ((0 : Int32).toUInt32.toUInt16.toUInt32.toInt32, q2.2)
def fX8_character (m_thr : Int32) (m_lin : Int32) (v_ml : Nat → Int32) (p0 : Int32) : Option (Int32 × Int32) :=
  fX8_character_20 m_lin v_ml (if (fX8_isIn p0 0 (m_lin - 1)) = 0 then 1 else 0) p0 m_thr
set_option maxHeartbeats 4000000 in
set_option maxRecDepth 100000 in
theorem lX8_character_20 {p : Program} {l : Launch} {e : Env} {s : State} {m : MethodId} {args : Array Value} {below : List Frame} {meth : Method} {c : Code} {Q : State → Prop} {D : va_G} {T : Nat → ClassId} {a_m a_ms a_mw a_mv a_mp a_mf a_ml a_mt a_mc : Nat} {m_chg : Int32} {m_rea : Int32} {m_det : Int32} {m_ref : Int32} {m_err : Int32} {m_ans : Int32} {m_sav : Int32} {m_net : Int32} {m_lin : Int32} {m_tap : Int32} {m_her : Int32} {m_cmd : Int32} {v_ml : Nat → Int32} {A : Nat → Prop} {r : Int32 × Int32} (C : CallFix p m c cX8_character 2 s args aw RX8) (hE : eK D T s) (hA : ∀ q : Nat, s.heap.size ≤ q → A q) (hret : WrRet p l e ({ frames := 1, cells := 0, slots := 0, locals := 22 } : Room) s m args below meth c Q cX8_character .char D A [(a_m, .inr (8, [.ref a_ms, .ref a_mw, .ref a_mv, .ref a_mp, .ref a_mf, .int m_chg, .int r.2, .int m_rea, .int m_det, .int m_ref, .int m_err, .int m_ans, .int m_sav, .int m_net, .ref a_ml, .int m_lin, .ref a_mt, .ref a_mc, .int m_tap, .int m_her, .int m_cmd])), (a_ml, .inl (T 0, 40, .inl v_ml))] r.1) (x1 : Int32) (l1 : Int32) (m_thr : Int32) {H : Heap} {locs : List Loc} (hPD : va_PD D A [(a_m, .inr (8, [.ref a_ms, .ref a_mw, .ref a_mv, .ref a_mp, .ref a_mf, .int m_chg, .int m_thr, .int m_rea, .int m_det, .int m_ref, .int m_err, .int m_ans, .int m_sav, .int m_net, .ref a_ml, .int m_lin, .ref a_mt, .ref a_mc, .int m_tap, .int m_her, .int m_cmd])), (a_ml, .inl (T 0, 40, .inl v_ml))] H) (hS : va_S A s.heap H locs) (ls : Array Slot) (hl : lv_has ls 2 [(0, .ref a_m), (1, .int l1)]) (h : fX8_character_20 m_lin v_ml x1 l1 m_thr = some r) : W p l e ({ frames := 1, cells := 0, slots := 0, locals := 22 } : Room) s m args below meth c H locs 0 0 Q (F0 m 20 ls [.int x1, .ref a_m]) := by
  have hx := C.1
  have hb := C.2.1
  obtain ⟨hP, hD⟩ := hPD
  unfold fX8_character_20 at h
  refine lv_iconst (v := 1) hx hb dX8_character_20 (by decide) ?_
  replace h := bnd h; obtain ⟨q2, e3, h⟩ := h
  refine wrVi (ws1 := [(a_m, .inr (8, [.ref a_ms, .ref a_mw, .ref a_mv, .ref a_mp, .ref a_mf, .int m_chg, .int q2.2, .int m_rea, .int m_det, .int m_ref, .int m_err, .int m_ans, .int m_sav, .int m_net, .ref a_ml, .int m_lin, .ref a_mt, .ref a_mc, .int m_tap, .int m_her, .int m_cmd])), (a_ml, .inl (T 0, 40, .inl v_ml))]) C hE hP hD hS hA (kX8_isThrown l D T a_m a_ms a_mw a_mv a_mp a_mf a_ml a_mt a_mc m_chg m_thr m_rea m_det m_ref m_err m_ans m_sav m_net m_lin m_tap m_her m_cmd x1 1 _ q2 e3) mX8_isThrown qLX8_80 [0] [1] 0 rfl rfl rfl rfl rfl rfl rfl rfl rfl ⟨rfl, rfl⟩ ⟨Nat.le_of_ble_eq_true rfl, Nat.le_of_ble_eq_true rfl⟩ rfl hl.1 rfl (Nat.le_of_ble_eq_true rfl) dX8_character_21 ⟨Nat.le_of_ble_eq_true rfl, Nat.le_of_ble_eq_true rfl⟩ ?_; clear hP hD hS; intro H locs hP hD hS
  refine lv_if_eq (tgt := 31) hx hb dX8_character_24 (by decide) (fun c4 => ?_) (fun c4 => ?_)
  · replace h := ite_t c4 h
    refine lv_aload_n hx hb dX8_character_31 rfl (lv_at hl 0 rfl) ?_
    refine getF (q0 := 0) (k0 := 14) (v := .ref a_ml) C hE hP inA8 rfl rfl (by decide) qFX8_32 rfl rfl dX8_character_32 ?_
    refine lv_iload_n hx hb dX8_character_35 rfl (lv_at hl 1 rfl) ?_
    replace h := gd h; obtain ⟨g5, h⟩ := h
    refine aldI (q0 := 1) C hE hP rfl g5 dX8_character_36 ?_
    refine lv_i2c hx hb dX8_character_37 rfl ?_
    replace h := Option.some.inj h
    exact hret _ _ _ _ _ _ dX8_character_38 rfl (by rw [← h] <;> rfl) (by rw [← h]; exact hP) hS
  · replace h := ite_f c4 h
    refine lv_iconst (v := 0) hx hb dX8_character_27 (by decide) ?_
    refine lv_goto (tgt := 38) hx hb dX8_character_28 (by decide) ?_
    replace h := Option.some.inj h
    exact hret _ _ _ _ _ _ dX8_character_38 rfl (by rw [← h] <;> rfl) (by rw [← h]; exact hP) hS
set_option maxHeartbeats 4000000 in
set_option maxRecDepth 100000 in
theorem kX8_character (l : Launch) (D : va_G) (T : Nat → ClassId) (a_m a_ms a_mw a_mv a_mp a_mf a_ml a_mt a_mc : Nat) (m_chg : Int32) (m_thr : Int32) (m_rea : Int32) (m_det : Int32) (m_ref : Int32) (m_err : Int32) (m_ans : Int32) (m_sav : Int32) (m_net : Int32) (m_lin : Int32) (m_tap : Int32) (m_her : Int32) (m_cmd : Int32) (v_ml : Nat → Int32) (p0 : Int32) (sz : Nat) (r : Int32 × Int32) (h : fX8_character m_thr m_lin v_ml p0 = some r) : WrI l yX8_character cX8_character 2 .char ({ frames := 1, cells := 0, slots := 0, locals := 22 } : Room) D T sz [(a_m, .inr (8, [.ref a_ms, .ref a_mw, .ref a_mv, .ref a_mp, .ref a_mf, .int m_chg, .int m_thr, .int m_rea, .int m_det, .int m_ref, .int m_err, .int m_ans, .int m_sav, .int m_net, .ref a_ml, .int m_lin, .ref a_mt, .ref a_mc, .int m_tap, .int m_her, .int m_cmd])), (a_ml, .inl (T 0, 40, .inl v_ml))] [(a_m, .inr (8, [.ref a_ms, .ref a_mw, .ref a_mv, .ref a_mp, .ref a_mf, .int m_chg, .int r.2, .int m_rea, .int m_det, .int m_ref, .int m_err, .int m_ans, .int m_sav, .int m_net, .ref a_ml, .int m_lin, .ref a_mt, .ref a_mc, .int m_tap, .int m_her, .int m_cmd])), (a_ml, .inl (T 0, 40, .inl v_ml))] [.ref a_m, .int p0] r.1 := by
  unfold fX8_character at h
  refine wrMet (by decide +kernel) rfl (fun p e s m args below meth c Q A C hE hA hP hD hS hret ls hl => ?_)
  have hx := C.1
  have hb := C.2.1
  have hl : lv_has ls 2 [(0, .ref a_m), (1, .int p0)] := hl
  refine lv_aload_n hx hb dX8_character_0 rfl (lv_at hl 0 rfl) ?_
  refine lv_iload_n hx hb dX8_character_1 rfl (lv_at hl 1 rfl) ?_
  refine lv_iconst (v := 0) hx hb dX8_character_2 (by decide) ?_
  refine lv_aload_n hx hb dX8_character_3 rfl (lv_at hl 0 rfl) ?_
  refine getF (q0 := 0) (k0 := 15) (v := .int m_lin) C hE hP inA8 rfl rfl (by decide) qFX8_199 rfl rfl dX8_character_4 ?_
  refine lv_iconst (v := 1) hx hb dX8_character_7 (by decide) ?_
  refine lv_isub hx hb dX8_character_8 ?_
  refine rdS C hE hP (kX8_isIn l D T p0 0 (m_lin - 1)) mX8_isIn qLX8_60 [] rfl ⟨rfl, rfl⟩ ⟨Nat.le_of_ble_eq_true rfl, Nat.le_of_ble_eq_true rfl⟩ rfl hl.1 rfl (Nat.le_of_ble_eq_true rfl) dX8_character_9 ⟨Nat.le_of_ble_eq_true rfl, Nat.le_of_ble_eq_true rfl⟩ ?_
  refine lv_if_ne (tgt := 19) hx hb dX8_character_12 (by decide) (fun c1 => ?_) (fun c1 => ?_)
  · rw [if_neg c1] at h
    refine lv_iconst (v := 0) hx hb dX8_character_19 (by decide) ?_
    exact lX8_character_20 C hE hA hret 0 p0 m_thr ⟨hP, hD⟩ hS _ (lv_sub hl [0, 1] rfl) h
  · rw [if_pos c1] at h
    refine lv_iconst (v := 1) hx hb dX8_character_15 (by decide) ?_
    refine lv_goto (tgt := 20) hx hb dX8_character_16 (by decide) ?_
    exact lX8_character_20 C hE hA hret 1 p0 m_thr ⟨hP, hD⟩ hS _ (lv_sub hl [0, 1] rfl) h

def fX8_account_92 (m_chg : Int32) (m_tap : Int32) (v_ms : Nat → Int32) (l1 : Int32) (m_thr : Int32) : Option (Int32 × Int32) :=
  if vin l1 103 = true then
  some ((v_ms l1.toNatClampNeg), m_thr)
  else none
def fX8_account_109 (m_chg : Int32) (m_tap : Int32) (v_ms : Nat → Int32) (l1 : Int32) (m_thr : Int32) : Option (Int32 × Int32) :=
  if vin ((4 + l1) - 3) 103 = true then
  some ((v_ms ((4 + l1) - 3).toNatClampNeg), m_thr)
  else none
def fX8_account_120 (m_chg : Int32) (m_tap : Int32) (v_ms : Nat → Int32) (l1 : Int32) (m_thr : Int32) : Option (Int32 × Int32) :=
  if vin ((2 + l1) - 5) 103 = true then
  some ((v_ms ((2 + l1) - 5).toNatClampNeg), m_thr)
  else none
def fX8_account_131 (m_chg : Int32) (m_tap : Int32) (v_ms : Nat → Int32) (l1 : Int32) (m_thr : Int32) : Option (Int32 × Int32) :=
  if vin ((6 + l1) - 7) 103 = true then
  some ((v_ms ((6 + l1) - 7).toNatClampNeg), m_thr)
  else none
def fX8_account_16 (m_chg : Int32) (m_tap : Int32) (v_ms : Nat → Int32) (x1 : Int32) (l1 : Int32) (m_thr : Int32) : Option (Int32 × Int32) :=
  (fX8_isThrown m_thr x1 1).bind fun q2 =>
  if q2.1 = 0 then
    if l1 = 0 then
      fX8_account_92 m_chg m_tap v_ms l1 q2.2
    else
      if l1 = 1 then
        fX8_account_92 m_chg m_tap v_ms l1 q2.2
      else
        if l1 = 2 then
          if vin 1 103 = true then
          some (((v_ms (1 : Int32).toNatClampNeg) / 12), q2.2)
          else none
        else
          if l1 = 3 then
            fX8_account_109 m_chg m_tap v_ms l1 q2.2
          else
            if l1 = 4 then
              fX8_account_109 m_chg m_tap v_ms l1 q2.2
            else
              if l1 = 5 then
                fX8_account_120 m_chg m_tap v_ms l1 q2.2
              else
                if l1 = 6 then
                  fX8_account_120 m_chg m_tap v_ms l1 q2.2
                else
                  if l1 = 7 then
                    fX8_account_131 m_chg m_tap v_ms l1 q2.2
                  else
                    if l1 = 8 then
                      fX8_account_131 m_chg m_tap v_ms l1 q2.2
                    else
                      if l1 = 9 then
                        if vin 9 103 = true then
                        if vin 10 103 = true then
                        some (((v_ms (9 : Int32).toNatClampNeg) + (v_ms (10 : Int32).toNatClampNeg)), q2.2)
                        else none
                        else none
                      else
                        if l1 = 10 then
                          (fX8_playing v_ms 0).bind fun q19 =>
                          (fX8_playing v_ms 1).bind fun q21 =>
                          some ((q19 + q21), q2.2)
                        else
                          if l1 = 11 then
                            if vin 8 103 = true then
                            some ((v_ms (8 : Int32).toNatClampNeg), q2.2)
                            else none
                          else
                            if l1 = 12 then
                              some (m_tap, q2.2)
                            else
                              some (m_chg, q2.2)
  else
    some (0, q2.2)
def fX8_account (m_chg : Int32) (m_thr : Int32) (m_tap : Int32) (v_ms : Nat → Int32) (p0 : Int32) : Option (Int32 × Int32) :=
  fX8_account_16 m_chg m_tap v_ms (if (fX8_isIn p0 0 13) = 0 then 1 else 0) p0 m_thr
set_option maxHeartbeats 4000000 in
set_option maxRecDepth 100000 in
theorem lX8_account_92 {p : Program} {l : Launch} {e : Env} {s : State} {m : MethodId} {args : Array Value} {below : List Frame} {meth : Method} {c : Code} {Q : State → Prop} {D : va_G} {T : Nat → ClassId} {a_m a_ms a_mw a_mv a_mp a_mf a_ml a_mt a_mc : Nat} {m_chg : Int32} {m_rea : Int32} {m_det : Int32} {m_ref : Int32} {m_err : Int32} {m_ans : Int32} {m_sav : Int32} {m_net : Int32} {m_lin : Int32} {m_tap : Int32} {m_her : Int32} {m_cmd : Int32} {v_ms : Nat → Int32} {A : Nat → Prop} {r : Int32 × Int32} (C : CallFix p m c cX8_account 2 s args aw RX8) (hE : eK D T s) (hA : ∀ q : Nat, s.heap.size ≤ q → A q) (hret : WrRet p l e ({ frames := 2, cells := 0, slots := 0, locals := 45 } : Room) s m args below meth c Q cX8_account .int D A [(a_m, .inr (8, [.ref a_ms, .ref a_mw, .ref a_mv, .ref a_mp, .ref a_mf, .int m_chg, .int r.2, .int m_rea, .int m_det, .int m_ref, .int m_err, .int m_ans, .int m_sav, .int m_net, .ref a_ml, .int m_lin, .ref a_mt, .ref a_mc, .int m_tap, .int m_her, .int m_cmd])), (a_ms, .inl (T 0, 103, .inl v_ms))] r.1) (l1 : Int32) (m_thr : Int32) {H : Heap} {locs : List Loc} (hPD : va_PD D A [(a_m, .inr (8, [.ref a_ms, .ref a_mw, .ref a_mv, .ref a_mp, .ref a_mf, .int m_chg, .int m_thr, .int m_rea, .int m_det, .int m_ref, .int m_err, .int m_ans, .int m_sav, .int m_net, .ref a_ml, .int m_lin, .ref a_mt, .ref a_mc, .int m_tap, .int m_her, .int m_cmd])), (a_ms, .inl (T 0, 103, .inl v_ms))] H) (hS : va_S A s.heap H locs) (ls : Array Slot) (hl : lv_has ls 2 [(0, .ref a_m), (1, .int l1)]) (h : fX8_account_92 m_chg m_tap v_ms l1 m_thr = some r) : W p l e ({ frames := 2, cells := 0, slots := 0, locals := 45 } : Room) s m args below meth c H locs 0 0 Q (F0 m 92 ls []) := by
  have hx := C.1
  have hb := C.2.1
  obtain ⟨hP, hD⟩ := hPD
  unfold fX8_account_92 at h
  refine lv_aload_n hx hb dX8_account_92 rfl (lv_at hl 0 rfl) ?_
  refine getF (q0 := 0) (k0 := 0) (v := .ref a_ms) C hE hP inA8 rfl rfl (by decide) qFX8_9 rfl rfl dX8_account_93 ?_
  refine lv_iload_n hx hb dX8_account_96 rfl (lv_at hl 1 rfl) ?_
  replace h := gd h; obtain ⟨g26, h⟩ := h
  refine aldI (q0 := 1) C hE hP rfl g26 dX8_account_97 ?_
  replace h := Option.some.inj h
  exact hret _ _ _ _ _ _ dX8_account_98 rfl (by rw [← h] <;> rfl) (by rw [← h]; exact hP) hS
set_option maxHeartbeats 4000000 in
set_option maxRecDepth 100000 in
theorem lX8_account_109 {p : Program} {l : Launch} {e : Env} {s : State} {m : MethodId} {args : Array Value} {below : List Frame} {meth : Method} {c : Code} {Q : State → Prop} {D : va_G} {T : Nat → ClassId} {a_m a_ms a_mw a_mv a_mp a_mf a_ml a_mt a_mc : Nat} {m_chg : Int32} {m_rea : Int32} {m_det : Int32} {m_ref : Int32} {m_err : Int32} {m_ans : Int32} {m_sav : Int32} {m_net : Int32} {m_lin : Int32} {m_tap : Int32} {m_her : Int32} {m_cmd : Int32} {v_ms : Nat → Int32} {A : Nat → Prop} {r : Int32 × Int32} (C : CallFix p m c cX8_account 2 s args aw RX8) (hE : eK D T s) (hA : ∀ q : Nat, s.heap.size ≤ q → A q) (hret : WrRet p l e ({ frames := 2, cells := 0, slots := 0, locals := 45 } : Room) s m args below meth c Q cX8_account .int D A [(a_m, .inr (8, [.ref a_ms, .ref a_mw, .ref a_mv, .ref a_mp, .ref a_mf, .int m_chg, .int r.2, .int m_rea, .int m_det, .int m_ref, .int m_err, .int m_ans, .int m_sav, .int m_net, .ref a_ml, .int m_lin, .ref a_mt, .ref a_mc, .int m_tap, .int m_her, .int m_cmd])), (a_ms, .inl (T 0, 103, .inl v_ms))] r.1) (l1 : Int32) (m_thr : Int32) {H : Heap} {locs : List Loc} (hPD : va_PD D A [(a_m, .inr (8, [.ref a_ms, .ref a_mw, .ref a_mv, .ref a_mp, .ref a_mf, .int m_chg, .int m_thr, .int m_rea, .int m_det, .int m_ref, .int m_err, .int m_ans, .int m_sav, .int m_net, .ref a_ml, .int m_lin, .ref a_mt, .ref a_mc, .int m_tap, .int m_her, .int m_cmd])), (a_ms, .inl (T 0, 103, .inl v_ms))] H) (hS : va_S A s.heap H locs) (ls : Array Slot) (hl : lv_has ls 2 [(0, .ref a_m), (1, .int l1)]) (h : fX8_account_109 m_chg m_tap v_ms l1 m_thr = some r) : W p l e ({ frames := 2, cells := 0, slots := 0, locals := 45 } : Room) s m args below meth c H locs 0 0 Q (F0 m 109 ls []) := by
  have hx := C.1
  have hb := C.2.1
  obtain ⟨hP, hD⟩ := hPD
  unfold fX8_account_109 at h
  refine lv_aload_n hx hb dX8_account_109 rfl (lv_at hl 0 rfl) ?_
  refine getF (q0 := 0) (k0 := 0) (v := .ref a_ms) C hE hP inA8 rfl rfl (by decide) qFX8_9 rfl rfl dX8_account_110 ?_
  refine lv_iconst (v := 4) hx hb dX8_account_113 (by decide) ?_
  refine lv_iload_n hx hb dX8_account_114 rfl (lv_at hl 1 rfl) ?_
  refine lv_iadd hx hb dX8_account_115 ?_
  refine lv_iconst (v := 3) hx hb dX8_account_116 (by decide) ?_
  refine lv_isub hx hb dX8_account_117 ?_
  replace h := gd h; obtain ⟨g27, h⟩ := h
  refine aldI (q0 := 1) C hE hP rfl g27 dX8_account_118 ?_
  replace h := Option.some.inj h
  exact hret _ _ _ _ _ _ dX8_account_119 rfl (by rw [← h] <;> rfl) (by rw [← h]; exact hP) hS
set_option maxHeartbeats 4000000 in
set_option maxRecDepth 100000 in
theorem lX8_account_120 {p : Program} {l : Launch} {e : Env} {s : State} {m : MethodId} {args : Array Value} {below : List Frame} {meth : Method} {c : Code} {Q : State → Prop} {D : va_G} {T : Nat → ClassId} {a_m a_ms a_mw a_mv a_mp a_mf a_ml a_mt a_mc : Nat} {m_chg : Int32} {m_rea : Int32} {m_det : Int32} {m_ref : Int32} {m_err : Int32} {m_ans : Int32} {m_sav : Int32} {m_net : Int32} {m_lin : Int32} {m_tap : Int32} {m_her : Int32} {m_cmd : Int32} {v_ms : Nat → Int32} {A : Nat → Prop} {r : Int32 × Int32} (C : CallFix p m c cX8_account 2 s args aw RX8) (hE : eK D T s) (hA : ∀ q : Nat, s.heap.size ≤ q → A q) (hret : WrRet p l e ({ frames := 2, cells := 0, slots := 0, locals := 45 } : Room) s m args below meth c Q cX8_account .int D A [(a_m, .inr (8, [.ref a_ms, .ref a_mw, .ref a_mv, .ref a_mp, .ref a_mf, .int m_chg, .int r.2, .int m_rea, .int m_det, .int m_ref, .int m_err, .int m_ans, .int m_sav, .int m_net, .ref a_ml, .int m_lin, .ref a_mt, .ref a_mc, .int m_tap, .int m_her, .int m_cmd])), (a_ms, .inl (T 0, 103, .inl v_ms))] r.1) (l1 : Int32) (m_thr : Int32) {H : Heap} {locs : List Loc} (hPD : va_PD D A [(a_m, .inr (8, [.ref a_ms, .ref a_mw, .ref a_mv, .ref a_mp, .ref a_mf, .int m_chg, .int m_thr, .int m_rea, .int m_det, .int m_ref, .int m_err, .int m_ans, .int m_sav, .int m_net, .ref a_ml, .int m_lin, .ref a_mt, .ref a_mc, .int m_tap, .int m_her, .int m_cmd])), (a_ms, .inl (T 0, 103, .inl v_ms))] H) (hS : va_S A s.heap H locs) (ls : Array Slot) (hl : lv_has ls 2 [(0, .ref a_m), (1, .int l1)]) (h : fX8_account_120 m_chg m_tap v_ms l1 m_thr = some r) : W p l e ({ frames := 2, cells := 0, slots := 0, locals := 45 } : Room) s m args below meth c H locs 0 0 Q (F0 m 120 ls []) := by
  have hx := C.1
  have hb := C.2.1
  obtain ⟨hP, hD⟩ := hPD
  unfold fX8_account_120 at h
  refine lv_aload_n hx hb dX8_account_120 rfl (lv_at hl 0 rfl) ?_
  refine getF (q0 := 0) (k0 := 0) (v := .ref a_ms) C hE hP inA8 rfl rfl (by decide) qFX8_9 rfl rfl dX8_account_121 ?_
  refine lv_iconst (v := 2) hx hb dX8_account_124 (by decide) ?_
  refine lv_iload_n hx hb dX8_account_125 rfl (lv_at hl 1 rfl) ?_
  refine lv_iadd hx hb dX8_account_126 ?_
  refine lv_iconst (v := 5) hx hb dX8_account_127 (by decide) ?_
  refine lv_isub hx hb dX8_account_128 ?_
  replace h := gd h; obtain ⟨g28, h⟩ := h
  refine aldI (q0 := 1) C hE hP rfl g28 dX8_account_129 ?_
  replace h := Option.some.inj h
  exact hret _ _ _ _ _ _ dX8_account_130 rfl (by rw [← h] <;> rfl) (by rw [← h]; exact hP) hS
set_option maxHeartbeats 4000000 in
set_option maxRecDepth 100000 in
theorem lX8_account_131 {p : Program} {l : Launch} {e : Env} {s : State} {m : MethodId} {args : Array Value} {below : List Frame} {meth : Method} {c : Code} {Q : State → Prop} {D : va_G} {T : Nat → ClassId} {a_m a_ms a_mw a_mv a_mp a_mf a_ml a_mt a_mc : Nat} {m_chg : Int32} {m_rea : Int32} {m_det : Int32} {m_ref : Int32} {m_err : Int32} {m_ans : Int32} {m_sav : Int32} {m_net : Int32} {m_lin : Int32} {m_tap : Int32} {m_her : Int32} {m_cmd : Int32} {v_ms : Nat → Int32} {A : Nat → Prop} {r : Int32 × Int32} (C : CallFix p m c cX8_account 2 s args aw RX8) (hE : eK D T s) (hA : ∀ q : Nat, s.heap.size ≤ q → A q) (hret : WrRet p l e ({ frames := 2, cells := 0, slots := 0, locals := 45 } : Room) s m args below meth c Q cX8_account .int D A [(a_m, .inr (8, [.ref a_ms, .ref a_mw, .ref a_mv, .ref a_mp, .ref a_mf, .int m_chg, .int r.2, .int m_rea, .int m_det, .int m_ref, .int m_err, .int m_ans, .int m_sav, .int m_net, .ref a_ml, .int m_lin, .ref a_mt, .ref a_mc, .int m_tap, .int m_her, .int m_cmd])), (a_ms, .inl (T 0, 103, .inl v_ms))] r.1) (l1 : Int32) (m_thr : Int32) {H : Heap} {locs : List Loc} (hPD : va_PD D A [(a_m, .inr (8, [.ref a_ms, .ref a_mw, .ref a_mv, .ref a_mp, .ref a_mf, .int m_chg, .int m_thr, .int m_rea, .int m_det, .int m_ref, .int m_err, .int m_ans, .int m_sav, .int m_net, .ref a_ml, .int m_lin, .ref a_mt, .ref a_mc, .int m_tap, .int m_her, .int m_cmd])), (a_ms, .inl (T 0, 103, .inl v_ms))] H) (hS : va_S A s.heap H locs) (ls : Array Slot) (hl : lv_has ls 2 [(0, .ref a_m), (1, .int l1)]) (h : fX8_account_131 m_chg m_tap v_ms l1 m_thr = some r) : W p l e ({ frames := 2, cells := 0, slots := 0, locals := 45 } : Room) s m args below meth c H locs 0 0 Q (F0 m 131 ls []) := by
  have hx := C.1
  have hb := C.2.1
  obtain ⟨hP, hD⟩ := hPD
  unfold fX8_account_131 at h
  refine lv_aload_n hx hb dX8_account_131 rfl (lv_at hl 0 rfl) ?_
  refine getF (q0 := 0) (k0 := 0) (v := .ref a_ms) C hE hP inA8 rfl rfl (by decide) qFX8_9 rfl rfl dX8_account_132 ?_
  refine lv_bipush (v := 6) hx hb dX8_account_135 (by decide) ?_
  refine lv_iload_n hx hb dX8_account_137 rfl (lv_at hl 1 rfl) ?_
  refine lv_iadd hx hb dX8_account_138 ?_
  refine lv_bipush (v := 7) hx hb dX8_account_139 (by decide) ?_
  refine lv_isub hx hb dX8_account_141 ?_
  replace h := gd h; obtain ⟨g29, h⟩ := h
  refine aldI (q0 := 1) C hE hP rfl g29 dX8_account_142 ?_
  replace h := Option.some.inj h
  exact hret _ _ _ _ _ _ dX8_account_143 rfl (by rw [← h] <;> rfl) (by rw [← h]; exact hP) hS
set_option maxHeartbeats 4000000 in
set_option maxRecDepth 100000 in
theorem lX8_account_16 {p : Program} {l : Launch} {e : Env} {s : State} {m : MethodId} {args : Array Value} {below : List Frame} {meth : Method} {c : Code} {Q : State → Prop} {D : va_G} {T : Nat → ClassId} {a_m a_ms a_mw a_mv a_mp a_mf a_ml a_mt a_mc : Nat} {m_chg : Int32} {m_rea : Int32} {m_det : Int32} {m_ref : Int32} {m_err : Int32} {m_ans : Int32} {m_sav : Int32} {m_net : Int32} {m_lin : Int32} {m_tap : Int32} {m_her : Int32} {m_cmd : Int32} {v_ms : Nat → Int32} {A : Nat → Prop} {r : Int32 × Int32} (C : CallFix p m c cX8_account 2 s args aw RX8) (hE : eK D T s) (hA : ∀ q : Nat, s.heap.size ≤ q → A q) (hret : WrRet p l e ({ frames := 2, cells := 0, slots := 0, locals := 45 } : Room) s m args below meth c Q cX8_account .int D A [(a_m, .inr (8, [.ref a_ms, .ref a_mw, .ref a_mv, .ref a_mp, .ref a_mf, .int m_chg, .int r.2, .int m_rea, .int m_det, .int m_ref, .int m_err, .int m_ans, .int m_sav, .int m_net, .ref a_ml, .int m_lin, .ref a_mt, .ref a_mc, .int m_tap, .int m_her, .int m_cmd])), (a_ms, .inl (T 0, 103, .inl v_ms))] r.1) (x1 : Int32) (l1 : Int32) (m_thr : Int32) {H : Heap} {locs : List Loc} (hPD : va_PD D A [(a_m, .inr (8, [.ref a_ms, .ref a_mw, .ref a_mv, .ref a_mp, .ref a_mf, .int m_chg, .int m_thr, .int m_rea, .int m_det, .int m_ref, .int m_err, .int m_ans, .int m_sav, .int m_net, .ref a_ml, .int m_lin, .ref a_mt, .ref a_mc, .int m_tap, .int m_her, .int m_cmd])), (a_ms, .inl (T 0, 103, .inl v_ms))] H) (hS : va_S A s.heap H locs) (ls : Array Slot) (hl : lv_has ls 2 [(0, .ref a_m), (1, .int l1)]) (h : fX8_account_16 m_chg m_tap v_ms x1 l1 m_thr = some r) : W p l e ({ frames := 2, cells := 0, slots := 0, locals := 45 } : Room) s m args below meth c H locs 0 0 Q (F0 m 16 ls [.int x1, .ref a_m]) := by
  have hx := C.1
  have hb := C.2.1
  obtain ⟨hP, hD⟩ := hPD
  unfold fX8_account_16 at h
  refine lv_iconst (v := 1) hx hb dX8_account_16 (by decide) ?_
  replace h := bnd h; obtain ⟨q2, e3, h⟩ := h
  refine wrVi (ws1 := [(a_m, .inr (8, [.ref a_ms, .ref a_mw, .ref a_mv, .ref a_mp, .ref a_mf, .int m_chg, .int q2.2, .int m_rea, .int m_det, .int m_ref, .int m_err, .int m_ans, .int m_sav, .int m_net, .ref a_ml, .int m_lin, .ref a_mt, .ref a_mc, .int m_tap, .int m_her, .int m_cmd])), (a_ms, .inl (T 0, 103, .inl v_ms))]) C hE hP hD hS hA (kX8_isThrown l D T a_m a_ms a_mw a_mv a_mp a_mf a_ml a_mt a_mc m_chg m_thr m_rea m_det m_ref m_err m_ans m_sav m_net m_lin m_tap m_her m_cmd x1 1 _ q2 e3) mX8_isThrown qLX8_80 [0] [1] 0 rfl rfl rfl rfl rfl rfl rfl rfl rfl ⟨rfl, rfl⟩ ⟨Nat.le_of_ble_eq_true rfl, Nat.le_of_ble_eq_true rfl⟩ rfl hl.1 rfl (Nat.le_of_ble_eq_true rfl) dX8_account_17 ⟨Nat.le_of_ble_eq_true rfl, Nat.le_of_ble_eq_true rfl⟩ ?_; clear hP hD hS; intro H locs hP hD hS
  refine lv_if_eq (tgt := 25) hx hb dX8_account_20 (by decide) (fun c4 => ?_) (fun c4 => ?_)
  · replace h := ite_t c4 h
    refine lv_iload_n hx hb dX8_account_25 rfl (lv_at hl 1 rfl) ?_
    by_cases c5 : l1 = 0
    · replace h := ite_t c5 h
      refine lv_tableIn (tgt := 92) hx hb dX8_account_26 (by rw [c5]; decide) (by rw [c5]; decide) (by rw [c5]; rfl) (by decide) ?_
      exact lX8_account_92 C hE hA hret l1 q2.2 ⟨hP, hD⟩ hS _ (lv_sub hl [0, 1] rfl) h
    · replace h := ite_f c5 h
      by_cases c6 : l1 = 1
      · replace h := ite_t c6 h
        refine lv_tableIn (tgt := 92) hx hb dX8_account_26 (by rw [c6]; decide) (by rw [c6]; decide) (by rw [c6]; rfl) (by decide) ?_
        exact lX8_account_92 C hE hA hret l1 q2.2 ⟨hP, hD⟩ hS _ (lv_sub hl [0, 1] rfl) h
      · replace h := ite_f c6 h
        by_cases c7 : l1 = 2
        · replace h := ite_t c7 h
          refine lv_tableIn (tgt := 99) hx hb dX8_account_26 (by rw [c7]; decide) (by rw [c7]; decide) (by rw [c7]; rfl) (by decide) ?_
          refine lv_aload_n hx hb dX8_account_99 rfl (lv_at hl 0 rfl) ?_
          refine getF (q0 := 0) (k0 := 0) (v := .ref a_ms) C hE hP inA8 rfl rfl (by decide) qFX8_9 rfl rfl dX8_account_100 ?_
          refine lv_iconst (v := 1) hx hb dX8_account_103 (by decide) ?_
          replace h := gd h; obtain ⟨g8, h⟩ := h
          refine aldI (q0 := 1) C hE hP rfl g8 dX8_account_104 ?_
          refine lv_bipush (v := 12) hx hb dX8_account_105 (by decide) ?_
          refine lv_idiv hx hb dX8_account_107 (by decide) ?_
          replace h := Option.some.inj h
          exact hret _ _ _ _ _ _ dX8_account_108 rfl (by rw [← h] <;> rfl) (by rw [← h]; exact hP) hS
        · replace h := ite_f c7 h
          by_cases c9 : l1 = 3
          · replace h := ite_t c9 h
            refine lv_tableIn (tgt := 109) hx hb dX8_account_26 (by rw [c9]; decide) (by rw [c9]; decide) (by rw [c9]; rfl) (by decide) ?_
            exact lX8_account_109 C hE hA hret l1 q2.2 ⟨hP, hD⟩ hS _ (lv_sub hl [0, 1] rfl) h
          · replace h := ite_f c9 h
            by_cases c10 : l1 = 4
            · replace h := ite_t c10 h
              refine lv_tableIn (tgt := 109) hx hb dX8_account_26 (by rw [c10]; decide) (by rw [c10]; decide) (by rw [c10]; rfl) (by decide) ?_
              exact lX8_account_109 C hE hA hret l1 q2.2 ⟨hP, hD⟩ hS _ (lv_sub hl [0, 1] rfl) h
            · replace h := ite_f c10 h
              by_cases c11 : l1 = 5
              · replace h := ite_t c11 h
                refine lv_tableIn (tgt := 120) hx hb dX8_account_26 (by rw [c11]; decide) (by rw [c11]; decide) (by rw [c11]; rfl) (by decide) ?_
                exact lX8_account_120 C hE hA hret l1 q2.2 ⟨hP, hD⟩ hS _ (lv_sub hl [0, 1] rfl) h
              · replace h := ite_f c11 h
                by_cases c12 : l1 = 6
                · replace h := ite_t c12 h
                  refine lv_tableIn (tgt := 120) hx hb dX8_account_26 (by rw [c12]; decide) (by rw [c12]; decide) (by rw [c12]; rfl) (by decide) ?_
                  exact lX8_account_120 C hE hA hret l1 q2.2 ⟨hP, hD⟩ hS _ (lv_sub hl [0, 1] rfl) h
                · replace h := ite_f c12 h
                  by_cases c13 : l1 = 7
                  · replace h := ite_t c13 h
                    refine lv_tableIn (tgt := 131) hx hb dX8_account_26 (by rw [c13]; decide) (by rw [c13]; decide) (by rw [c13]; rfl) (by decide) ?_
                    exact lX8_account_131 C hE hA hret l1 q2.2 ⟨hP, hD⟩ hS _ (lv_sub hl [0, 1] rfl) h
                  · replace h := ite_f c13 h
                    by_cases c14 : l1 = 8
                    · replace h := ite_t c14 h
                      refine lv_tableIn (tgt := 131) hx hb dX8_account_26 (by rw [c14]; decide) (by rw [c14]; decide) (by rw [c14]; rfl) (by decide) ?_
                      exact lX8_account_131 C hE hA hret l1 q2.2 ⟨hP, hD⟩ hS _ (lv_sub hl [0, 1] rfl) h
                    · replace h := ite_f c14 h
                      by_cases c15 : l1 = 9
                      · replace h := ite_t c15 h
                        refine lv_tableIn (tgt := 144) hx hb dX8_account_26 (by rw [c15]; decide) (by rw [c15]; decide) (by rw [c15]; rfl) (by decide) ?_
                        refine lv_aload_n hx hb dX8_account_144 rfl (lv_at hl 0 rfl) ?_
                        refine getF (q0 := 0) (k0 := 0) (v := .ref a_ms) C hE hP inA8 rfl rfl (by decide) qFX8_9 rfl rfl dX8_account_145 ?_
                        refine lv_bipush (v := 9) hx hb dX8_account_148 (by decide) ?_
                        replace h := gd h; obtain ⟨g16, h⟩ := h
                        refine aldI (q0 := 1) C hE hP rfl g16 dX8_account_150 ?_
                        refine lv_aload_n hx hb dX8_account_151 rfl (lv_at hl 0 rfl) ?_
                        refine getF (q0 := 0) (k0 := 0) (v := .ref a_ms) C hE hP inA8 rfl rfl (by decide) qFX8_9 rfl rfl dX8_account_152 ?_
                        refine lv_bipush (v := 10) hx hb dX8_account_155 (by decide) ?_
                        replace h := gd h; obtain ⟨g17, h⟩ := h
                        refine aldI (q0 := 1) C hE hP rfl g17 dX8_account_157 ?_
                        refine lv_iadd hx hb dX8_account_158 ?_
                        replace h := Option.some.inj h
                        exact hret _ _ _ _ _ _ dX8_account_159 rfl (by rw [← h] <;> rfl) (by rw [← h]; exact hP) hS
                      · replace h := ite_f c15 h
                        by_cases c18 : l1 = 10
                        · replace h := ite_t c18 h
                          refine lv_tableIn (tgt := 160) hx hb dX8_account_26 (by rw [c18]; decide) (by rw [c18]; decide) (by rw [c18]; rfl) (by decide) ?_
                          refine lv_aload_n hx hb dX8_account_160 rfl (lv_at hl 0 rfl) ?_
                          refine lv_iconst (v := 0) hx hb dX8_account_161 (by decide) ?_
                          replace h := bnd h; obtain ⟨q19, e20, h⟩ := h
                          refine rdV C hE hP (kX8_playing l D T a_m a_ms a_mw a_mv a_mp a_mf a_ml a_mt a_mc m_chg q2.2 m_rea m_det m_ref m_err m_ans m_sav m_net m_lin m_tap m_her m_cmd v_ms 0 q19 e20) mX8_playing qLX8_196 [0, 1] 0 rfl rfl rfl rfl ⟨rfl, rfl⟩ ⟨Nat.le_of_ble_eq_true rfl, Nat.le_of_ble_eq_true rfl⟩ rfl hl.1 rfl (Nat.le_of_ble_eq_true rfl) dX8_account_162 ⟨Nat.le_of_ble_eq_true rfl, Nat.le_of_ble_eq_true rfl⟩ ?_
                          refine lv_aload_n hx hb dX8_account_165 rfl (lv_at hl 0 rfl) ?_
                          refine lv_iconst (v := 1) hx hb dX8_account_166 (by decide) ?_
                          replace h := bnd h; obtain ⟨q21, e22, h⟩ := h
                          refine rdV C hE hP (kX8_playing l D T a_m a_ms a_mw a_mv a_mp a_mf a_ml a_mt a_mc m_chg q2.2 m_rea m_det m_ref m_err m_ans m_sav m_net m_lin m_tap m_her m_cmd v_ms 1 q21 e22) mX8_playing qLX8_196 [0, 1] 0 rfl rfl rfl rfl ⟨rfl, rfl⟩ ⟨Nat.le_of_ble_eq_true rfl, Nat.le_of_ble_eq_true rfl⟩ rfl hl.1 rfl (Nat.le_of_ble_eq_true rfl) dX8_account_167 ⟨Nat.le_of_ble_eq_true rfl, Nat.le_of_ble_eq_true rfl⟩ ?_
                          refine lv_iadd hx hb dX8_account_170 ?_
                          replace h := Option.some.inj h
                          exact hret _ _ _ _ _ _ dX8_account_171 rfl (by rw [← h] <;> rfl) (by rw [← h]; exact hP) hS
                        · replace h := ite_f c18 h
                          by_cases c23 : l1 = 11
                          · replace h := ite_t c23 h
                            refine lv_tableIn (tgt := 172) hx hb dX8_account_26 (by rw [c23]; decide) (by rw [c23]; decide) (by rw [c23]; rfl) (by decide) ?_
                            refine lv_aload_n hx hb dX8_account_172 rfl (lv_at hl 0 rfl) ?_
                            refine getF (q0 := 0) (k0 := 0) (v := .ref a_ms) C hE hP inA8 rfl rfl (by decide) qFX8_9 rfl rfl dX8_account_173 ?_
                            refine lv_bipush (v := 8) hx hb dX8_account_176 (by decide) ?_
                            replace h := gd h; obtain ⟨g24, h⟩ := h
                            refine aldI (q0 := 1) C hE hP rfl g24 dX8_account_178 ?_
                            replace h := Option.some.inj h
                            exact hret _ _ _ _ _ _ dX8_account_179 rfl (by rw [← h] <;> rfl) (by rw [← h]; exact hP) hS
                          · replace h := ite_f c23 h
                            by_cases c25 : l1 = 12
                            · replace h := ite_t c25 h
                              refine lv_tableIn (tgt := 180) hx hb dX8_account_26 (by rw [c25]; decide) (by rw [c25]; decide) (by rw [c25]; rfl) (by decide) ?_
                              refine lv_aload_n hx hb dX8_account_180 rfl (lv_at hl 0 rfl) ?_
                              refine getF (q0 := 0) (k0 := 18) (v := .int m_tap) C hE hP inA8 rfl rfl (by decide) qFX8_208 rfl rfl dX8_account_181 ?_
                              replace h := Option.some.inj h
                              exact hret _ _ _ _ _ _ dX8_account_184 rfl (by rw [← h] <;> rfl) (by rw [← h]; exact hP) hS
                            · replace h := ite_f c25 h
                              refine lv_tableOut (tgt := 185) hx hb dX8_account_26 (by have t0 := tI 0 rfl c5; have t1 := tI 1 rfl c6; have t2 := tI 2 rfl c7; have t3 := tI 3 rfl c9; have t4 := tI 4 rfl c10; have t5 := tI 5 rfl c11; have t6 := tI 6 rfl c12; have t7 := tI 7 rfl c13; have t8 := tI 8 rfl c14; have t9 := tI 9 rfl c15; have t10 := tI 10 rfl c18; have t11 := tI 11 rfl c23; have t12 := tI 12 rfl c25; omega) (by decide) ?_
                              refine lv_aload_n hx hb dX8_account_185 rfl (lv_at hl 0 rfl) ?_
                              refine getF (q0 := 0) (k0 := 5) (v := .int m_chg) C hE hP inA8 rfl rfl (by decide) qFX8_48 rfl rfl dX8_account_186 ?_
                              replace h := Option.some.inj h
                              exact hret _ _ _ _ _ _ dX8_account_189 rfl (by rw [← h] <;> rfl) (by rw [← h]; exact hP) hS
  · replace h := ite_f c4 h
    refine lv_iconst (v := 0) hx hb dX8_account_23 (by decide) ?_
    replace h := Option.some.inj h
    exact hret _ _ _ _ _ _ dX8_account_24 rfl (by rw [← h] <;> rfl) (by rw [← h]; exact hP) hS
set_option maxHeartbeats 4000000 in
set_option maxRecDepth 100000 in
theorem kX8_account (l : Launch) (D : va_G) (T : Nat → ClassId) (a_m a_ms a_mw a_mv a_mp a_mf a_ml a_mt a_mc : Nat) (m_chg : Int32) (m_thr : Int32) (m_rea : Int32) (m_det : Int32) (m_ref : Int32) (m_err : Int32) (m_ans : Int32) (m_sav : Int32) (m_net : Int32) (m_lin : Int32) (m_tap : Int32) (m_her : Int32) (m_cmd : Int32) (v_ms : Nat → Int32) (p0 : Int32) (sz : Nat) (r : Int32 × Int32) (h : fX8_account m_chg m_thr m_tap v_ms p0 = some r) : WrI l yX8_account cX8_account 2 .int ({ frames := 2, cells := 0, slots := 0, locals := 45 } : Room) D T sz [(a_m, .inr (8, [.ref a_ms, .ref a_mw, .ref a_mv, .ref a_mp, .ref a_mf, .int m_chg, .int m_thr, .int m_rea, .int m_det, .int m_ref, .int m_err, .int m_ans, .int m_sav, .int m_net, .ref a_ml, .int m_lin, .ref a_mt, .ref a_mc, .int m_tap, .int m_her, .int m_cmd])), (a_ms, .inl (T 0, 103, .inl v_ms))] [(a_m, .inr (8, [.ref a_ms, .ref a_mw, .ref a_mv, .ref a_mp, .ref a_mf, .int m_chg, .int r.2, .int m_rea, .int m_det, .int m_ref, .int m_err, .int m_ans, .int m_sav, .int m_net, .ref a_ml, .int m_lin, .ref a_mt, .ref a_mc, .int m_tap, .int m_her, .int m_cmd])), (a_ms, .inl (T 0, 103, .inl v_ms))] [.ref a_m, .int p0] r.1 := by
  unfold fX8_account at h
  refine wrMet (by decide +kernel) rfl (fun p e s m args below meth c Q A C hE hA hP hD hS hret ls hl => ?_)
  have hx := C.1
  have hb := C.2.1
  have hl : lv_has ls 2 [(0, .ref a_m), (1, .int p0)] := hl
  refine lv_aload_n hx hb dX8_account_0 rfl (lv_at hl 0 rfl) ?_
  refine lv_iload_n hx hb dX8_account_1 rfl (lv_at hl 1 rfl) ?_
  refine lv_iconst (v := 0) hx hb dX8_account_2 (by decide) ?_
  refine lv_bipush (v := 13) hx hb dX8_account_3 (by decide) ?_
  refine rdS C hE hP (kX8_isIn l D T p0 0 13) mX8_isIn qLX8_60 [] rfl ⟨rfl, rfl⟩ ⟨Nat.le_of_ble_eq_true rfl, Nat.le_of_ble_eq_true rfl⟩ rfl hl.1 rfl (Nat.le_of_ble_eq_true rfl) dX8_account_5 ⟨Nat.le_of_ble_eq_true rfl, Nat.le_of_ble_eq_true rfl⟩ ?_
  refine lv_if_ne (tgt := 15) hx hb dX8_account_8 (by decide) (fun c1 => ?_) (fun c1 => ?_)
  · rw [if_neg c1] at h
    refine lv_iconst (v := 0) hx hb dX8_account_15 (by decide) ?_
    exact lX8_account_16 C hE hA hret 0 p0 m_thr ⟨hP, hD⟩ hS _ (lv_sub hl [0, 1] rfl) h
  · rw [if_pos c1] at h
    refine lv_iconst (v := 1) hx hb dX8_account_11 (by decide) ?_
    refine lv_goto (tgt := 16) hx hb dX8_account_12 (by decide) ?_
    exact lX8_account_16 C hE hA hret 1 p0 m_thr ⟨hP, hD⟩ hS _ (lv_sub hl [0, 1] rfl) h

def fX8_append_39 (x1 : Int32) (l1 : Int32) (m_thr : Int32) (m_tap : Int32) (v_mt : Nat → Int32) : Option (Int32 × Int32 × Int32 × (Nat → Int32)) :=
  (fX8_isThrown m_thr x1 2).bind fun q6 =>
  if q6.1 = 0 then
    if vin m_tap 60 = true then
    some ((m_tap + 1), q6.2, (m_tap + 1), (upd v_mt m_tap.toNatClampNeg l1))
    else none
  else
    some (0, q6.2, m_tap, v_mt)
def fX8_append_17 (x1 : Int32) (l1 : Int32) (m_thr : Int32) (m_tap : Int32) (v_mt : Nat → Int32) : Option (Int32 × Int32 × Int32 × (Nat → Int32)) :=
  (fX8_isThrown m_thr x1 1).bind fun q2 =>
  if q2.1 = 0 then
    fX8_append_39 (if m_tap = 60 then 1 else 0) l1 q2.2 m_tap v_mt
  else
    some (0, q2.2, m_tap, v_mt)
def fX8_append (m_thr : Int32) (m_tap : Int32) (v_mt : Nat → Int32) (p0 : Int32) : Option (Int32 × Int32 × Int32 × (Nat → Int32)) :=
  fX8_append_17 (if (fX8_isIn p0 32 126) = 0 then 1 else 0) p0 m_thr m_tap v_mt
set_option maxHeartbeats 4000000 in
set_option maxRecDepth 100000 in
theorem lX8_append_39 {p : Program} {l : Launch} {e : Env} {s : State} {m : MethodId} {args : Array Value} {below : List Frame} {meth : Method} {c : Code} {Q : State → Prop} {D : va_G} {T : Nat → ClassId} {a_m a_ms a_mw a_mv a_mp a_mf a_ml a_mt a_mc : Nat} {m_chg : Int32} {m_rea : Int32} {m_det : Int32} {m_ref : Int32} {m_err : Int32} {m_ans : Int32} {m_sav : Int32} {m_net : Int32} {m_lin : Int32} {m_her : Int32} {m_cmd : Int32} {A : Nat → Prop} {r : Int32 × Int32 × Int32 × (Nat → Int32)} (C : CallFix p m c cX8_append 2 s args aw RX8) (hE : eK D T s) (hA : ∀ q : Nat, s.heap.size ≤ q → A q) (hret : WrRet p l e ({ frames := 1, cells := 0, slots := 0, locals := 22 } : Room) s m args below meth c Q cX8_append .int D A [(a_m, .inr (8, [.ref a_ms, .ref a_mw, .ref a_mv, .ref a_mp, .ref a_mf, .int m_chg, .int r.2.1, .int m_rea, .int m_det, .int m_ref, .int m_err, .int m_ans, .int m_sav, .int m_net, .ref a_ml, .int m_lin, .ref a_mt, .ref a_mc, .int r.2.2.1, .int m_her, .int m_cmd])), (a_mt, .inl (T 0, 60, .inl r.2.2.2))] r.1) (x1 : Int32) (l1 : Int32) (m_thr : Int32) (m_tap : Int32) (v_mt : Nat → Int32) {H : Heap} {locs : List Loc} (hPD : va_PD D A [(a_m, .inr (8, [.ref a_ms, .ref a_mw, .ref a_mv, .ref a_mp, .ref a_mf, .int m_chg, .int m_thr, .int m_rea, .int m_det, .int m_ref, .int m_err, .int m_ans, .int m_sav, .int m_net, .ref a_ml, .int m_lin, .ref a_mt, .ref a_mc, .int m_tap, .int m_her, .int m_cmd])), (a_mt, .inl (T 0, 60, .inl v_mt))] H) (hS : va_S A s.heap H locs) (ls : Array Slot) (hl : lv_has ls 2 [(0, .ref a_m), (1, .int l1)]) (h : fX8_append_39 x1 l1 m_thr m_tap v_mt = some r) : W p l e ({ frames := 1, cells := 0, slots := 0, locals := 22 } : Room) s m args below meth c H locs 0 0 Q (F0 m 39 ls [.int x1, .ref a_m]) := by
  have hx := C.1
  have hb := C.2.1
  obtain ⟨hP, hD⟩ := hPD
  unfold fX8_append_39 at h
  refine lv_iconst (v := 2) hx hb dX8_append_39 (by decide) ?_
  replace h := bnd h; obtain ⟨q6, e7, h⟩ := h
  refine wrVi (ws1 := [(a_m, .inr (8, [.ref a_ms, .ref a_mw, .ref a_mv, .ref a_mp, .ref a_mf, .int m_chg, .int q6.2, .int m_rea, .int m_det, .int m_ref, .int m_err, .int m_ans, .int m_sav, .int m_net, .ref a_ml, .int m_lin, .ref a_mt, .ref a_mc, .int m_tap, .int m_her, .int m_cmd])), (a_mt, .inl (T 0, 60, .inl v_mt))]) C hE hP hD hS hA (kX8_isThrown l D T a_m a_ms a_mw a_mv a_mp a_mf a_ml a_mt a_mc m_chg m_thr m_rea m_det m_ref m_err m_ans m_sav m_net m_lin m_tap m_her m_cmd x1 2 _ q6 e7) mX8_isThrown qLX8_80 [0] [1] 0 rfl rfl rfl rfl rfl rfl rfl rfl rfl ⟨rfl, rfl⟩ ⟨Nat.le_of_ble_eq_true rfl, Nat.le_of_ble_eq_true rfl⟩ rfl hl.1 rfl (Nat.le_of_ble_eq_true rfl) dX8_append_40 ⟨Nat.le_of_ble_eq_true rfl, Nat.le_of_ble_eq_true rfl⟩ ?_; clear hP hD hS; intro H locs hP hD hS
  refine lv_if_eq (tgt := 48) hx hb dX8_append_43 (by decide) (fun c8 => ?_) (fun c8 => ?_)
  · replace h := ite_t c8 h
    refine lv_aload_n hx hb dX8_append_48 rfl (lv_at hl 0 rfl) ?_
    refine getF (q0 := 0) (k0 := 16) (v := .ref a_mt) C hE hP inA8 rfl rfl (by decide) qFX8_35 rfl rfl dX8_append_49 ?_
    refine lv_aload_n hx hb dX8_append_52 rfl (lv_at hl 0 rfl) ?_
    refine getF (q0 := 0) (k0 := 18) (v := .int m_tap) C hE hP inA8 rfl rfl (by decide) qFX8_208 rfl rfl dX8_append_53 ?_
    refine lv_iload_n hx hb dX8_append_56 rfl (lv_at hl 1 rfl) ?_
    replace h := gd h; obtain ⟨g9, h⟩ := h
    refine astI (q0 := 1) (ws1 := [(a_m, .inr (8, [.ref a_ms, .ref a_mw, .ref a_mv, .ref a_mp, .ref a_mf, .int m_chg, .int q6.2, .int m_rea, .int m_det, .int m_ref, .int m_err, .int m_ans, .int m_sav, .int m_net, .ref a_ml, .int m_lin, .ref a_mt, .ref a_mc, .int m_tap, .int m_her, .int m_cmd])), (a_mt, .inl (T 0, 60, .inl (upd v_mt m_tap.toNatClampNeg l1)))]) C hE hP hD hS rfl g9 rfl dX8_append_57 ?_; clear hP hD hS; intro H locs hP hD hS
    refine lv_aload_n hx hb dX8_append_58 rfl (lv_at hl 0 rfl) ?_
    refine lv_dup hx hb dX8_append_59 rfl ?_
    refine getF (q0 := 0) (k0 := 18) (v := .int m_tap) C hE hP inA8 rfl rfl (by decide) qFX8_208 rfl rfl dX8_append_60 ?_
    refine lv_iconst (v := 1) hx hb dX8_append_63 (by decide) ?_
    refine lv_iadd hx hb dX8_append_64 ?_
    refine putF (q0 := 0) (k0 := 18) (ws1 := [(a_m, .inr (8, [.ref a_ms, .ref a_mw, .ref a_mv, .ref a_mp, .ref a_mf, .int m_chg, .int q6.2, .int m_rea, .int m_det, .int m_ref, .int m_err, .int m_ans, .int m_sav, .int m_net, .ref a_ml, .int m_lin, .ref a_mt, .ref a_mc, .int (m_tap + 1), .int m_her, .int m_cmd])), (a_mt, .inl (T 0, 60, .inl (upd v_mt m_tap.toNatClampNeg l1)))]) C hE hP hD hS inA8 tyX8_ok nmX8 rfl rfl (by decide) qFX8_208 rfl rfl rfl rfl (Nat.le_of_ble_eq_true rfl) rfl dX8_append_65 ?_; clear hP hD hS; intro H locs hP hD hS
    refine lv_aload_n hx hb dX8_append_68 rfl (lv_at hl 0 rfl) ?_
    refine getF (q0 := 0) (k0 := 18) (v := .int (m_tap + 1)) C hE hP inA8 rfl rfl (by decide) qFX8_208 rfl rfl dX8_append_69 ?_
    replace h := Option.some.inj h
    exact hret _ _ _ _ _ _ dX8_append_72 rfl (by rw [← h] <;> rfl) (by rw [← h]; exact hP) hS
  · replace h := ite_f c8 h
    refine lv_iconst (v := 0) hx hb dX8_append_46 (by decide) ?_
    replace h := Option.some.inj h
    exact hret _ _ _ _ _ _ dX8_append_47 rfl (by rw [← h] <;> rfl) (by rw [← h]; exact hP) hS
set_option maxHeartbeats 4000000 in
set_option maxRecDepth 100000 in
theorem lX8_append_17 {p : Program} {l : Launch} {e : Env} {s : State} {m : MethodId} {args : Array Value} {below : List Frame} {meth : Method} {c : Code} {Q : State → Prop} {D : va_G} {T : Nat → ClassId} {a_m a_ms a_mw a_mv a_mp a_mf a_ml a_mt a_mc : Nat} {m_chg : Int32} {m_rea : Int32} {m_det : Int32} {m_ref : Int32} {m_err : Int32} {m_ans : Int32} {m_sav : Int32} {m_net : Int32} {m_lin : Int32} {m_her : Int32} {m_cmd : Int32} {A : Nat → Prop} {r : Int32 × Int32 × Int32 × (Nat → Int32)} (C : CallFix p m c cX8_append 2 s args aw RX8) (hE : eK D T s) (hA : ∀ q : Nat, s.heap.size ≤ q → A q) (hret : WrRet p l e ({ frames := 1, cells := 0, slots := 0, locals := 22 } : Room) s m args below meth c Q cX8_append .int D A [(a_m, .inr (8, [.ref a_ms, .ref a_mw, .ref a_mv, .ref a_mp, .ref a_mf, .int m_chg, .int r.2.1, .int m_rea, .int m_det, .int m_ref, .int m_err, .int m_ans, .int m_sav, .int m_net, .ref a_ml, .int m_lin, .ref a_mt, .ref a_mc, .int r.2.2.1, .int m_her, .int m_cmd])), (a_mt, .inl (T 0, 60, .inl r.2.2.2))] r.1) (x1 : Int32) (l1 : Int32) (m_thr : Int32) (m_tap : Int32) (v_mt : Nat → Int32) {H : Heap} {locs : List Loc} (hPD : va_PD D A [(a_m, .inr (8, [.ref a_ms, .ref a_mw, .ref a_mv, .ref a_mp, .ref a_mf, .int m_chg, .int m_thr, .int m_rea, .int m_det, .int m_ref, .int m_err, .int m_ans, .int m_sav, .int m_net, .ref a_ml, .int m_lin, .ref a_mt, .ref a_mc, .int m_tap, .int m_her, .int m_cmd])), (a_mt, .inl (T 0, 60, .inl v_mt))] H) (hS : va_S A s.heap H locs) (ls : Array Slot) (hl : lv_has ls 2 [(0, .ref a_m), (1, .int l1)]) (h : fX8_append_17 x1 l1 m_thr m_tap v_mt = some r) : W p l e ({ frames := 1, cells := 0, slots := 0, locals := 22 } : Room) s m args below meth c H locs 0 0 Q (F0 m 17 ls [.int x1, .ref a_m]) := by
  have hx := C.1
  have hb := C.2.1
  obtain ⟨hP, hD⟩ := hPD
  unfold fX8_append_17 at h
  refine lv_iconst (v := 1) hx hb dX8_append_17 (by decide) ?_
  replace h := bnd h; obtain ⟨q2, e3, h⟩ := h
  refine wrVi (ws1 := [(a_m, .inr (8, [.ref a_ms, .ref a_mw, .ref a_mv, .ref a_mp, .ref a_mf, .int m_chg, .int q2.2, .int m_rea, .int m_det, .int m_ref, .int m_err, .int m_ans, .int m_sav, .int m_net, .ref a_ml, .int m_lin, .ref a_mt, .ref a_mc, .int m_tap, .int m_her, .int m_cmd])), (a_mt, .inl (T 0, 60, .inl v_mt))]) C hE hP hD hS hA (kX8_isThrown l D T a_m a_ms a_mw a_mv a_mp a_mf a_ml a_mt a_mc m_chg m_thr m_rea m_det m_ref m_err m_ans m_sav m_net m_lin m_tap m_her m_cmd x1 1 _ q2 e3) mX8_isThrown qLX8_80 [0] [1] 0 rfl rfl rfl rfl rfl rfl rfl rfl rfl ⟨rfl, rfl⟩ ⟨Nat.le_of_ble_eq_true rfl, Nat.le_of_ble_eq_true rfl⟩ rfl hl.1 rfl (Nat.le_of_ble_eq_true rfl) dX8_append_18 ⟨Nat.le_of_ble_eq_true rfl, Nat.le_of_ble_eq_true rfl⟩ ?_; clear hP hD hS; intro H locs hP hD hS
  refine lv_if_ne (tgt := 46) hx hb dX8_append_21 (by decide) (fun c4 => ?_) (fun c4 => ?_)
  · replace h := ite_f c4 h
    refine lv_iconst (v := 0) hx hb dX8_append_46 (by decide) ?_
    replace h := Option.some.inj h
    exact hret _ _ _ _ _ _ dX8_append_47 rfl (by rw [← h] <;> rfl) (by rw [← h]; exact hP) hS
  · replace h := ite_t c4 h
    refine lv_aload_n hx hb dX8_append_24 rfl (lv_at hl 0 rfl) ?_
    refine lv_aload_n hx hb dX8_append_25 rfl (lv_at hl 0 rfl) ?_
    refine getF (q0 := 0) (k0 := 18) (v := .int m_tap) C hE hP inA8 rfl rfl (by decide) qFX8_208 rfl rfl dX8_append_26 ?_
    refine lv_bipush (v := 60) hx hb dX8_append_29 (by decide) ?_
    refine lv_icmp_ne (tgt := 38) hx hb dX8_append_31 (by decide) (fun c5 => ?_) (fun c5 => ?_)
    · rw [if_neg c5] at h
      refine lv_iconst (v := 0) hx hb dX8_append_38 (by decide) ?_
      exact lX8_append_39 C hE hA hret 0 l1 q2.2 m_tap v_mt ⟨hP, hD⟩ hS _ (lv_sub hl [0, 1] rfl) h
    · rw [if_pos c5] at h
      refine lv_iconst (v := 1) hx hb dX8_append_34 (by decide) ?_
      refine lv_goto (tgt := 39) hx hb dX8_append_35 (by decide) ?_
      exact lX8_append_39 C hE hA hret 1 l1 q2.2 m_tap v_mt ⟨hP, hD⟩ hS _ (lv_sub hl [0, 1] rfl) h
set_option maxHeartbeats 4000000 in
set_option maxRecDepth 100000 in
theorem kX8_append (l : Launch) (D : va_G) (T : Nat → ClassId) (a_m a_ms a_mw a_mv a_mp a_mf a_ml a_mt a_mc : Nat) (m_chg : Int32) (m_thr : Int32) (m_rea : Int32) (m_det : Int32) (m_ref : Int32) (m_err : Int32) (m_ans : Int32) (m_sav : Int32) (m_net : Int32) (m_lin : Int32) (m_tap : Int32) (m_her : Int32) (m_cmd : Int32) (v_mt : Nat → Int32) (p0 : Int32) (sz : Nat) (r : Int32 × Int32 × Int32 × (Nat → Int32)) (h : fX8_append m_thr m_tap v_mt p0 = some r) : WrI l yX8_append cX8_append 2 .int ({ frames := 1, cells := 0, slots := 0, locals := 22 } : Room) D T sz [(a_m, .inr (8, [.ref a_ms, .ref a_mw, .ref a_mv, .ref a_mp, .ref a_mf, .int m_chg, .int m_thr, .int m_rea, .int m_det, .int m_ref, .int m_err, .int m_ans, .int m_sav, .int m_net, .ref a_ml, .int m_lin, .ref a_mt, .ref a_mc, .int m_tap, .int m_her, .int m_cmd])), (a_mt, .inl (T 0, 60, .inl v_mt))] [(a_m, .inr (8, [.ref a_ms, .ref a_mw, .ref a_mv, .ref a_mp, .ref a_mf, .int m_chg, .int r.2.1, .int m_rea, .int m_det, .int m_ref, .int m_err, .int m_ans, .int m_sav, .int m_net, .ref a_ml, .int m_lin, .ref a_mt, .ref a_mc, .int r.2.2.1, .int m_her, .int m_cmd])), (a_mt, .inl (T 0, 60, .inl r.2.2.2))] [.ref a_m, .int p0] r.1 := by
  unfold fX8_append at h
  refine wrMet (by decide +kernel) rfl (fun p e s m args below meth c Q A C hE hA hP hD hS hret ls hl => ?_)
  have hx := C.1
  have hb := C.2.1
  have hl : lv_has ls 2 [(0, .ref a_m), (1, .int p0)] := hl
  refine lv_aload_n hx hb dX8_append_0 rfl (lv_at hl 0 rfl) ?_
  refine lv_iload_n hx hb dX8_append_1 rfl (lv_at hl 1 rfl) ?_
  refine lv_bipush (v := 32) hx hb dX8_append_2 (by decide) ?_
  refine lv_bipush (v := 126) hx hb dX8_append_4 (by decide) ?_
  refine rdS C hE hP (kX8_isIn l D T p0 32 126) mX8_isIn qLX8_60 [] rfl ⟨rfl, rfl⟩ ⟨Nat.le_of_ble_eq_true rfl, Nat.le_of_ble_eq_true rfl⟩ rfl hl.1 rfl (Nat.le_of_ble_eq_true rfl) dX8_append_6 ⟨Nat.le_of_ble_eq_true rfl, Nat.le_of_ble_eq_true rfl⟩ ?_
  refine lv_if_ne (tgt := 16) hx hb dX8_append_9 (by decide) (fun c1 => ?_) (fun c1 => ?_)
  · rw [if_neg c1] at h
    refine lv_iconst (v := 0) hx hb dX8_append_16 (by decide) ?_
    exact lX8_append_17 C hE hA hret 0 p0 m_thr m_tap v_mt ⟨hP, hD⟩ hS _ (lv_sub hl [0, 1] rfl) h
  · rw [if_pos c1] at h
    refine lv_iconst (v := 1) hx hb dX8_append_12 (by decide) ?_
    refine lv_goto (tgt := 17) hx hb dX8_append_13 (by decide) ?_
    exact lX8_append_17 C hE hA hret 1 p0 m_thr m_tap v_mt ⟨hP, hD⟩ hS _ (lv_sub hl [0, 1] rfl) h

def fX8_sign (m_tap : Int32) (m_her : Int32) (v_mt : Nat → Int32) : Option Int32 :=
  if m_tap ≤ m_her then
    some (-1)
  else
    if vin m_her 60 = true then
    some (v_mt m_her.toNatClampNeg)
    else none
set_option maxHeartbeats 4000000 in
set_option maxRecDepth 100000 in
theorem kX8_sign (l : Launch) (D : va_G) (T : Nat → ClassId) (a_m a_ms a_mw a_mv a_mp a_mf a_ml a_mt a_mc : Nat) (m_chg : Int32) (m_thr : Int32) (m_rea : Int32) (m_det : Int32) (m_ref : Int32) (m_err : Int32) (m_ans : Int32) (m_sav : Int32) (m_net : Int32) (m_lin : Int32) (m_tap : Int32) (m_her : Int32) (m_cmd : Int32) (v_mt : Nat → Int32) (r : Int32) (h : fX8_sign m_tap m_her v_mt = some r) : RdI l yX8_sign cX8_sign 1 .int ({ frames := 0, cells := 0, slots := 0, locals := 0 } : Room) D T [(a_m, .inr (8, [.ref a_ms, .ref a_mw, .ref a_mv, .ref a_mp, .ref a_mf, .int m_chg, .int m_thr, .int m_rea, .int m_det, .int m_ref, .int m_err, .int m_ans, .int m_sav, .int m_net, .ref a_ml, .int m_lin, .ref a_mt, .ref a_mc, .int m_tap, .int m_her, .int m_cmd])), (a_mt, .inl (T 0, 60, .inl v_mt))] [.ref a_m] r := by
  unfold fX8_sign at h
  refine rdMet (by decide +kernel) rfl (fun p e s m args below meth c Q C hE hP hret ls hl => ?_)
  have hx := C.1
  have hb := C.2.1
  have hl : lv_has ls 1 [(0, .ref a_m)] := hl
  refine lv_aload_n hx hb dX8_sign_0 rfl (lv_at hl 0 rfl) ?_
  refine getF (q0 := 0) (k0 := 19) (v := .int m_her) C hE hP inA8 rfl rfl (by decide) qFX8_211 rfl rfl dX8_sign_1 ?_
  refine lv_aload_n hx hb dX8_sign_4 rfl (lv_at hl 0 rfl) ?_
  refine getF (q0 := 0) (k0 := 18) (v := .int m_tap) C hE hP inA8 rfl rfl (by decide) qFX8_208 rfl rfl dX8_sign_5 ?_
  refine lv_icmp_ge (tgt := 23) hx hb dX8_sign_8 (by decide) (fun c1 => ?_) (fun c1 => ?_)
  · replace h := ite_t c1 h
    refine lv_iconst (v := (-1)) hx hb dX8_sign_23 (by decide) ?_
    exact hret _ _ _ _ dX8_sign_24 rfl (Option.some.inj h)
  · replace h := ite_f c1 h
    refine lv_aload_n hx hb dX8_sign_11 rfl (lv_at hl 0 rfl) ?_
    refine getF (q0 := 0) (k0 := 16) (v := .ref a_mt) C hE hP inA8 rfl rfl (by decide) qFX8_35 rfl rfl dX8_sign_12 ?_
    refine lv_aload_n hx hb dX8_sign_15 rfl (lv_at hl 0 rfl) ?_
    refine getF (q0 := 0) (k0 := 19) (v := .int m_her) C hE hP inA8 rfl rfl (by decide) qFX8_211 rfl rfl dX8_sign_16 ?_
    replace h := gd h; obtain ⟨g2, h⟩ := h
    refine aldI (q0 := 1) C hE hP rfl g2 dX8_sign_19 ?_
    refine lv_goto (tgt := 24) hx hb dX8_sign_20 (by decide) ?_
    exact hret _ _ _ _ dX8_sign_24 rfl (Option.some.inj h)

def fX8_isSign_28 (m_tap : Int32) (v_mt : Nat → Int32) (x1 : Int32) (x2 : Int32) (l2 : Int32) (m_her : Int32) : Option (Int32 × Int32) :=
  some ((l2 &&& 1), (x1 + x2))
def fX8_isSign_13 (m_tap : Int32) (v_mt : Nat → Int32) (x0 : Int32) (m_her : Int32) : Option (Int32 × Int32) :=
  fX8_isSign_28 m_tap v_mt m_her (if x0 = 0 then 0 else 1) x0 m_her
def fX8_isSign (m_tap : Int32) (m_her : Int32) (v_mt : Nat → Int32) (p0 : Int32) : Option (Int32 × Int32) :=
  (fX8_sign m_tap m_her v_mt).bind fun q1 =>
  fX8_isSign_13 m_tap v_mt (if q1 = p0 then 1 else 0) m_her
set_option maxHeartbeats 4000000 in
set_option maxRecDepth 100000 in
theorem lX8_isSign_28 {p : Program} {l : Launch} {e : Env} {s : State} {m : MethodId} {args : Array Value} {below : List Frame} {meth : Method} {c : Code} {Q : State → Prop} {D : va_G} {T : Nat → ClassId} {a_m a_ms a_mw a_mv a_mp a_mf a_ml a_mt a_mc : Nat} {m_chg : Int32} {m_thr : Int32} {m_rea : Int32} {m_det : Int32} {m_ref : Int32} {m_err : Int32} {m_ans : Int32} {m_sav : Int32} {m_net : Int32} {m_lin : Int32} {m_tap : Int32} {m_cmd : Int32} {v_mt : Nat → Int32} {A : Nat → Prop} {r : Int32 × Int32} (C : CallFix p m c cX8_isSign 3 s args aw RX8) (hE : eK D T s) (hA : ∀ q : Nat, s.heap.size ≤ q → A q) (hret : WrRet p l e ({ frames := 1, cells := 0, slots := 0, locals := 20 } : Room) s m args below meth c Q cX8_isSign .boolean D A [(a_m, .inr (8, [.ref a_ms, .ref a_mw, .ref a_mv, .ref a_mp, .ref a_mf, .int m_chg, .int m_thr, .int m_rea, .int m_det, .int m_ref, .int m_err, .int m_ans, .int m_sav, .int m_net, .ref a_ml, .int m_lin, .ref a_mt, .ref a_mc, .int m_tap, .int r.2, .int m_cmd])), (a_mt, .inl (T 0, 60, .inl v_mt))] r.1) (x1 : Int32) (x2 : Int32) (l2 : Int32) (m_her : Int32) {H : Heap} {locs : List Loc} (hPD : va_PD D A [(a_m, .inr (8, [.ref a_ms, .ref a_mw, .ref a_mv, .ref a_mp, .ref a_mf, .int m_chg, .int m_thr, .int m_rea, .int m_det, .int m_ref, .int m_err, .int m_ans, .int m_sav, .int m_net, .ref a_ml, .int m_lin, .ref a_mt, .ref a_mc, .int m_tap, .int m_her, .int m_cmd])), (a_mt, .inl (T 0, 60, .inl v_mt))] H) (hS : va_S A s.heap H locs) (ls : Array Slot) (hl : lv_has ls 3 [(2, .int l2)]) (h : fX8_isSign_28 m_tap v_mt x1 x2 l2 m_her = some r) : W p l e ({ frames := 1, cells := 0, slots := 0, locals := 20 } : Room) s m args below meth c H locs 0 0 Q (F0 m 28 ls [.int x2, .int x1, .ref a_m]) := by
  have hx := C.1
  have hb := C.2.1
  obtain ⟨hP, hD⟩ := hPD
  unfold fX8_isSign_28 at h
  refine lv_iadd hx hb dX8_isSign_28 ?_
  refine putF (q0 := 0) (k0 := 19) (ws1 := [(a_m, .inr (8, [.ref a_ms, .ref a_mw, .ref a_mv, .ref a_mp, .ref a_mf, .int m_chg, .int m_thr, .int m_rea, .int m_det, .int m_ref, .int m_err, .int m_ans, .int m_sav, .int m_net, .ref a_ml, .int m_lin, .ref a_mt, .ref a_mc, .int m_tap, .int (x1 + x2), .int m_cmd])), (a_mt, .inl (T 0, 60, .inl v_mt))]) C hE hP hD hS inA8 tyX8_ok nmX8 rfl rfl (by decide) qFX8_211 rfl rfl rfl rfl (Nat.le_of_ble_eq_true rfl) rfl dX8_isSign_29 ?_; clear hP hD hS; intro H locs hP hD hS
  refine lv_iload_n hx hb dX8_isSign_32 rfl (lv_at hl 0 rfl) ?_
  replace h := Option.some.inj h
  exact hret _ _ _ _ _ _ dX8_isSign_33 rfl (by rw [← h] <;> rfl) (by rw [← h]; exact hP) hS
set_option maxHeartbeats 4000000 in
set_option maxRecDepth 100000 in
theorem lX8_isSign_13 {p : Program} {l : Launch} {e : Env} {s : State} {m : MethodId} {args : Array Value} {below : List Frame} {meth : Method} {c : Code} {Q : State → Prop} {D : va_G} {T : Nat → ClassId} {a_m a_ms a_mw a_mv a_mp a_mf a_ml a_mt a_mc : Nat} {m_chg : Int32} {m_thr : Int32} {m_rea : Int32} {m_det : Int32} {m_ref : Int32} {m_err : Int32} {m_ans : Int32} {m_sav : Int32} {m_net : Int32} {m_lin : Int32} {m_tap : Int32} {m_cmd : Int32} {v_mt : Nat → Int32} {A : Nat → Prop} {r : Int32 × Int32} (C : CallFix p m c cX8_isSign 3 s args aw RX8) (hE : eK D T s) (hA : ∀ q : Nat, s.heap.size ≤ q → A q) (hret : WrRet p l e ({ frames := 1, cells := 0, slots := 0, locals := 20 } : Room) s m args below meth c Q cX8_isSign .boolean D A [(a_m, .inr (8, [.ref a_ms, .ref a_mw, .ref a_mv, .ref a_mp, .ref a_mf, .int m_chg, .int m_thr, .int m_rea, .int m_det, .int m_ref, .int m_err, .int m_ans, .int m_sav, .int m_net, .ref a_ml, .int m_lin, .ref a_mt, .ref a_mc, .int m_tap, .int r.2, .int m_cmd])), (a_mt, .inl (T 0, 60, .inl v_mt))] r.1) (x0 : Int32) (m_her : Int32) {H : Heap} {locs : List Loc} (hPD : va_PD D A [(a_m, .inr (8, [.ref a_ms, .ref a_mw, .ref a_mv, .ref a_mp, .ref a_mf, .int m_chg, .int m_thr, .int m_rea, .int m_det, .int m_ref, .int m_err, .int m_ans, .int m_sav, .int m_net, .ref a_ml, .int m_lin, .ref a_mt, .ref a_mc, .int m_tap, .int m_her, .int m_cmd])), (a_mt, .inl (T 0, 60, .inl v_mt))] H) (hS : va_S A s.heap H locs) (ls : Array Slot) (hl : lv_has ls 3 [(0, .ref a_m)]) (h : fX8_isSign_13 m_tap v_mt x0 m_her = some r) : W p l e ({ frames := 1, cells := 0, slots := 0, locals := 20 } : Room) s m args below meth c H locs 0 0 Q (F0 m 13 ls [.int x0]) := by
  have hx := C.1
  have hb := C.2.1
  obtain ⟨hP, hD⟩ := hPD
  unfold fX8_isSign_13 at h
  refine lv_istore_n (lv' := [(2, .int x0), (0, .ref a_m)]) hx hb dX8_isSign_13 rfl hl (by decide) rfl (fun ls hl => ?_)
  refine lv_aload_n hx hb dX8_isSign_14 rfl (lv_at hl 1 rfl) ?_
  refine lv_dup hx hb dX8_isSign_15 rfl ?_
  refine getF (q0 := 0) (k0 := 19) (v := .int m_her) C hE hP inA8 rfl rfl (by decide) qFX8_211 rfl rfl dX8_isSign_16 ?_
  refine lv_iload_n hx hb dX8_isSign_19 rfl (lv_at hl 0 rfl) ?_
  refine lv_if_eq (tgt := 27) hx hb dX8_isSign_20 (by decide) (fun c4 => ?_) (fun c4 => ?_)
  · rw [if_pos c4] at h
    refine lv_iconst (v := 0) hx hb dX8_isSign_27 (by decide) ?_
    exact lX8_isSign_28 C hE hA hret m_her 0 x0 m_her ⟨hP, hD⟩ hS _ (lv_sub hl [0] rfl) h
  · rw [if_neg c4] at h
    refine lv_iconst (v := 1) hx hb dX8_isSign_23 (by decide) ?_
    refine lv_goto (tgt := 28) hx hb dX8_isSign_24 (by decide) ?_
    exact lX8_isSign_28 C hE hA hret m_her 1 x0 m_her ⟨hP, hD⟩ hS _ (lv_sub hl [0] rfl) h
set_option maxHeartbeats 4000000 in
set_option maxRecDepth 100000 in
theorem kX8_isSign (l : Launch) (D : va_G) (T : Nat → ClassId) (a_m a_ms a_mw a_mv a_mp a_mf a_ml a_mt a_mc : Nat) (m_chg : Int32) (m_thr : Int32) (m_rea : Int32) (m_det : Int32) (m_ref : Int32) (m_err : Int32) (m_ans : Int32) (m_sav : Int32) (m_net : Int32) (m_lin : Int32) (m_tap : Int32) (m_her : Int32) (m_cmd : Int32) (v_mt : Nat → Int32) (p0 : Int32) (sz : Nat) (r : Int32 × Int32) (h : fX8_isSign m_tap m_her v_mt p0 = some r) : WrI l yX8_isSign cX8_isSign 3 .boolean ({ frames := 1, cells := 0, slots := 0, locals := 20 } : Room) D T sz [(a_m, .inr (8, [.ref a_ms, .ref a_mw, .ref a_mv, .ref a_mp, .ref a_mf, .int m_chg, .int m_thr, .int m_rea, .int m_det, .int m_ref, .int m_err, .int m_ans, .int m_sav, .int m_net, .ref a_ml, .int m_lin, .ref a_mt, .ref a_mc, .int m_tap, .int m_her, .int m_cmd])), (a_mt, .inl (T 0, 60, .inl v_mt))] [(a_m, .inr (8, [.ref a_ms, .ref a_mw, .ref a_mv, .ref a_mp, .ref a_mf, .int m_chg, .int m_thr, .int m_rea, .int m_det, .int m_ref, .int m_err, .int m_ans, .int m_sav, .int m_net, .ref a_ml, .int m_lin, .ref a_mt, .ref a_mc, .int m_tap, .int r.2, .int m_cmd])), (a_mt, .inl (T 0, 60, .inl v_mt))] [.ref a_m, .int p0] r.1 := by
  unfold fX8_isSign at h
  refine wrMet (by decide +kernel) rfl (fun p e s m args below meth c Q A C hE hA hP hD hS hret ls hl => ?_)
  have hx := C.1
  have hb := C.2.1
  have hl : lv_has ls 3 [(0, .ref a_m), (1, .int p0)] := hl
  refine lv_aload_n hx hb dX8_isSign_0 rfl (lv_at hl 0 rfl) ?_
  replace h := bnd h; obtain ⟨q1, e2, h⟩ := h
  refine rdV C hE hP (kX8_sign l D T a_m a_ms a_mw a_mv a_mp a_mf a_ml a_mt a_mc m_chg m_thr m_rea m_det m_ref m_err m_ans m_sav m_net m_lin m_tap m_her m_cmd v_mt q1 e2) mX8_sign qLX8_214 [0, 1] 0 rfl rfl rfl rfl ⟨rfl, rfl⟩ ⟨Nat.le_of_ble_eq_true rfl, Nat.le_of_ble_eq_true rfl⟩ rfl hl.1 rfl (Nat.le_of_ble_eq_true rfl) dX8_isSign_1 ⟨Nat.le_of_ble_eq_true rfl, Nat.le_of_ble_eq_true rfl⟩ ?_
  refine lv_iload_n hx hb dX8_isSign_4 rfl (lv_at hl 1 rfl) ?_
  refine lv_icmp_ne (tgt := 12) hx hb dX8_isSign_5 (by decide) (fun c3 => ?_) (fun c3 => ?_)
  · rw [if_neg c3] at h
    refine lv_iconst (v := 0) hx hb dX8_isSign_12 (by decide) ?_
    exact lX8_isSign_13 C hE hA hret 0 m_her ⟨hP, hD⟩ hS _ (lv_sub hl [0] rfl) h
  · rw [if_pos c3] at h
    refine lv_iconst (v := 1) hx hb dX8_isSign_8 (by decide) ?_
    refine lv_goto (tgt := 13) hx hb dX8_isSign_9 (by decide) ?_
    exact lX8_isSign_13 C hE hA hret 1 m_her ⟨hP, hD⟩ hS _ (lv_sub hl [0] rfl) h

def fX8_isNumber_54 (m_tap : Int32) (v_mt : Nat → Int32) (l2 : Int32) (l3 : Int32) (l4 : Int32) (m_her : Int32) (v_mc : Nat → Int32) : Option (Int32 × Int32 × (Nat → Int32)) :=
  if vin l2 124 = true then
  if l4 ≤ 0 then
    some (0, m_her, (upd v_mc l2.toNatClampNeg l3))
  else
    some (1, m_her, (upd v_mc l2.toNatClampNeg l3))
  else none
def fX8_isNumber_5 (m_tap : Int32) (v_mt : Nat → Int32) : Nat → Int32 → Int32 → Int32 → Int32 → Int32 → (Nat → Int32) → Option (Int32 × Int32 × (Nat → Int32))
  | 0, _, _, _, _, _, _ => none
  | k + 1, l1, l2, l3, l4, m_her, v_mc =>
    if l1 ≤ l4 then
      fX8_isNumber_54 m_tap v_mt l2 l3 l4 m_her v_mc
    else
      (fX8_sign m_tap m_her v_mt).bind fun q2 =>
      if (fX8_isIn q2 48 57) = 0 then
        fX8_isNumber_54 m_tap v_mt l2 l3 l4 m_her v_mc
      else
        (fX8_sign m_tap m_her v_mt).bind fun q5 =>
        fX8_isNumber_5 m_tap v_mt k l1 l2 (((10 * l3) + q5) - 48) (l4 + 1) (m_her + 1) v_mc
def fX8_isNumber (m_tap : Int32) (m_her : Int32) (v_mt : Nat → Int32) (v_mc : Nat → Int32) (p0 : Int32) (p1 : Int32) : Option (Int32 × Int32 × (Nat → Int32)) :=
  fX8_isNumber_5 m_tap v_mt 64 p0 p1 0 0 m_her v_mc
set_option maxHeartbeats 4000000 in
set_option maxRecDepth 100000 in
theorem lX8_isNumber_54 {p : Program} {l : Launch} {e : Env} {s : State} {m : MethodId} {args : Array Value} {below : List Frame} {meth : Method} {c : Code} {Q : State → Prop} {D : va_G} {T : Nat → ClassId} {a_m a_ms a_mw a_mv a_mp a_mf a_ml a_mt a_mc : Nat} {m_chg : Int32} {m_thr : Int32} {m_rea : Int32} {m_det : Int32} {m_ref : Int32} {m_err : Int32} {m_ans : Int32} {m_sav : Int32} {m_net : Int32} {m_lin : Int32} {m_tap : Int32} {m_cmd : Int32} {v_mt : Nat → Int32} {A : Nat → Prop} {r : Int32 × Int32 × (Nat → Int32)} (C : CallFix p m c cX8_isNumber 5 s args aw RX8) (hE : eK D T s) (hA : ∀ q : Nat, s.heap.size ≤ q → A q) (hret : WrRet p l e ({ frames := 1, cells := 0, slots := 0, locals := 22 } : Room) s m args below meth c Q cX8_isNumber .boolean D A [(a_m, .inr (8, [.ref a_ms, .ref a_mw, .ref a_mv, .ref a_mp, .ref a_mf, .int m_chg, .int m_thr, .int m_rea, .int m_det, .int m_ref, .int m_err, .int m_ans, .int m_sav, .int m_net, .ref a_ml, .int m_lin, .ref a_mt, .ref a_mc, .int m_tap, .int r.2.1, .int m_cmd])), (a_mt, .inl (T 0, 60, .inl v_mt)), (a_mc, .inl (T 0, 124, .inl r.2.2))] r.1) (l2 : Int32) (l3 : Int32) (l4 : Int32) (m_her : Int32) (v_mc : Nat → Int32) {H : Heap} {locs : List Loc} (hPD : va_PD D A [(a_m, .inr (8, [.ref a_ms, .ref a_mw, .ref a_mv, .ref a_mp, .ref a_mf, .int m_chg, .int m_thr, .int m_rea, .int m_det, .int m_ref, .int m_err, .int m_ans, .int m_sav, .int m_net, .ref a_ml, .int m_lin, .ref a_mt, .ref a_mc, .int m_tap, .int m_her, .int m_cmd])), (a_mt, .inl (T 0, 60, .inl v_mt)), (a_mc, .inl (T 0, 124, .inl v_mc))] H) (hS : va_S A s.heap H locs) (ls : Array Slot) (hl : lv_has ls 5 [(0, .ref a_m), (2, .int l2), (3, .int l3), (4, .int l4)]) (h : fX8_isNumber_54 m_tap v_mt l2 l3 l4 m_her v_mc = some r) : W p l e ({ frames := 1, cells := 0, slots := 0, locals := 22 } : Room) s m args below meth c H locs 0 0 Q (F0 m 54 ls []) := by
  have hx := C.1
  have hb := C.2.1
  obtain ⟨hP, hD⟩ := hPD
  unfold fX8_isNumber_54 at h
  refine lv_aload_n hx hb dX8_isNumber_54 rfl (lv_at hl 0 rfl) ?_
  refine getF (q0 := 0) (k0 := 17) (v := .ref a_mc) C hE hP inA8 rfl rfl (by decide) qFX8_38 rfl rfl dX8_isNumber_55 ?_
  refine lv_iload_n hx hb dX8_isNumber_58 rfl (lv_at hl 1 rfl) ?_
  refine lv_iload_n hx hb dX8_isNumber_59 rfl (lv_at hl 2 rfl) ?_
  replace h := gd h; obtain ⟨g7, h⟩ := h
  refine astI (q0 := 2) (ws1 := [(a_m, .inr (8, [.ref a_ms, .ref a_mw, .ref a_mv, .ref a_mp, .ref a_mf, .int m_chg, .int m_thr, .int m_rea, .int m_det, .int m_ref, .int m_err, .int m_ans, .int m_sav, .int m_net, .ref a_ml, .int m_lin, .ref a_mt, .ref a_mc, .int m_tap, .int m_her, .int m_cmd])), (a_mt, .inl (T 0, 60, .inl v_mt)), (a_mc, .inl (T 0, 124, .inl (upd v_mc l2.toNatClampNeg l3)))]) C hE hP hD hS rfl g7 rfl dX8_isNumber_60 ?_; clear hP hD hS; intro H locs hP hD hS
  refine lv_iload hx hb dX8_isNumber_61 (lv_at hl 3 rfl) ?_
  refine lv_if_le (tgt := 70) hx hb dX8_isNumber_63 (by decide) (fun c8 => ?_) (fun c8 => ?_)
  · replace h := ite_t c8 h
    refine lv_iconst (v := 0) hx hb dX8_isNumber_70 (by decide) ?_
    replace h := Option.some.inj h
    exact hret _ _ _ _ _ _ dX8_isNumber_71 rfl (by rw [← h] <;> rfl) (by rw [← h]; exact hP) hS
  · replace h := ite_f c8 h
    refine lv_iconst (v := 1) hx hb dX8_isNumber_66 (by decide) ?_
    refine lv_goto (tgt := 71) hx hb dX8_isNumber_67 (by decide) ?_
    replace h := Option.some.inj h
    exact hret _ _ _ _ _ _ dX8_isNumber_71 rfl (by rw [← h] <;> rfl) (by rw [← h]; exact hP) hS
set_option maxHeartbeats 4000000 in
set_option maxRecDepth 100000 in
theorem lX8_isNumber_5 {p : Program} {l : Launch} {e : Env} {s : State} {m : MethodId} {args : Array Value} {below : List Frame} {meth : Method} {c : Code} {Q : State → Prop} {D : va_G} {T : Nat → ClassId} {a_m a_ms a_mw a_mv a_mp a_mf a_ml a_mt a_mc : Nat} {m_chg : Int32} {m_thr : Int32} {m_rea : Int32} {m_det : Int32} {m_ref : Int32} {m_err : Int32} {m_ans : Int32} {m_sav : Int32} {m_net : Int32} {m_lin : Int32} {m_tap : Int32} {m_cmd : Int32} {v_mt : Nat → Int32} {A : Nat → Prop} {r : Int32 × Int32 × (Nat → Int32)} (C : CallFix p m c cX8_isNumber 5 s args aw RX8) (hE : eK D T s) (hA : ∀ q : Nat, s.heap.size ≤ q → A q) (hret : WrRet p l e ({ frames := 1, cells := 0, slots := 0, locals := 22 } : Room) s m args below meth c Q cX8_isNumber .boolean D A [(a_m, .inr (8, [.ref a_ms, .ref a_mw, .ref a_mv, .ref a_mp, .ref a_mf, .int m_chg, .int m_thr, .int m_rea, .int m_det, .int m_ref, .int m_err, .int m_ans, .int m_sav, .int m_net, .ref a_ml, .int m_lin, .ref a_mt, .ref a_mc, .int m_tap, .int r.2.1, .int m_cmd])), (a_mt, .inl (T 0, 60, .inl v_mt)), (a_mc, .inl (T 0, 124, .inl r.2.2))] r.1) : ∀ (k : Nat) (l1 : Int32) (l2 : Int32) (l3 : Int32) (l4 : Int32) (m_her : Int32) (v_mc : Nat → Int32) {H : Heap} {locs : List Loc} (hPD : va_PD D A [(a_m, .inr (8, [.ref a_ms, .ref a_mw, .ref a_mv, .ref a_mp, .ref a_mf, .int m_chg, .int m_thr, .int m_rea, .int m_det, .int m_ref, .int m_err, .int m_ans, .int m_sav, .int m_net, .ref a_ml, .int m_lin, .ref a_mt, .ref a_mc, .int m_tap, .int m_her, .int m_cmd])), (a_mt, .inl (T 0, 60, .inl v_mt)), (a_mc, .inl (T 0, 124, .inl v_mc))] H) (hS : va_S A s.heap H locs) (ls : Array Slot) (hl : lv_has ls 5 [(0, .ref a_m), (1, .int l1), (2, .int l2), (3, .int l3), (4, .int l4)]) (h : fX8_isNumber_5 m_tap v_mt k l1 l2 l3 l4 m_her v_mc = some r), W p l e ({ frames := 1, cells := 0, slots := 0, locals := 22 } : Room) s m args below meth c H locs 0 0 Q (F0 m 5 ls []) := by
  have hx := C.1
  have hb := C.2.1
  intro k
  induction k with
  | zero =>
    intro l1 l2 l3 l4 m_her v_mc H locs hPD hS ls hl h
    exact nomatch (show (none : Option (Int32 × Int32 × (Nat → Int32))) = some r from h)
  | succ k ih =>
    intro l1 l2 l3 l4 m_her v_mc H locs hPD hS ls hl h
    obtain ⟨hP, hD⟩ := hPD
    rw [fX8_isNumber_5] at h
    refine lv_iload hx hb dX8_isNumber_5 (lv_at hl 4 rfl) ?_
    refine lv_iload_n hx hb dX8_isNumber_7 rfl (lv_at hl 1 rfl) ?_
    refine lv_icmp_ge (tgt := 54) hx hb dX8_isNumber_8 (by decide) (fun c1 => ?_) (fun c1 => ?_)
    · replace h := ite_t c1 h
      exact lX8_isNumber_54 C hE hA hret l2 l3 l4 m_her v_mc ⟨hP, hD⟩ hS _ (lv_sub hl [0, 2, 3, 4] rfl) h
    · replace h := ite_f c1 h
      refine lv_aload_n hx hb dX8_isNumber_11 rfl (lv_at hl 0 rfl) ?_
      replace h := bnd h; obtain ⟨q2, e3, h⟩ := h
      refine rdV C hE hP (kX8_sign l D T a_m a_ms a_mw a_mv a_mp a_mf a_ml a_mt a_mc m_chg m_thr m_rea m_det m_ref m_err m_ans m_sav m_net m_lin m_tap m_her m_cmd v_mt q2 e3) mX8_sign qLX8_214 [0, 1] 0 rfl rfl rfl rfl ⟨rfl, rfl⟩ ⟨Nat.le_of_ble_eq_true rfl, Nat.le_of_ble_eq_true rfl⟩ rfl hl.1 rfl (Nat.le_of_ble_eq_true rfl) dX8_isNumber_12 ⟨Nat.le_of_ble_eq_true rfl, Nat.le_of_ble_eq_true rfl⟩ ?_
      refine lv_bipush (v := 48) hx hb dX8_isNumber_15 (by decide) ?_
      refine lv_bipush (v := 57) hx hb dX8_isNumber_17 (by decide) ?_
      refine rdS C hE hP (kX8_isIn l D T q2 48 57) mX8_isIn qLX8_60 [] rfl ⟨rfl, rfl⟩ ⟨Nat.le_of_ble_eq_true rfl, Nat.le_of_ble_eq_true rfl⟩ rfl hl.1 rfl (Nat.le_of_ble_eq_true rfl) dX8_isNumber_19 ⟨Nat.le_of_ble_eq_true rfl, Nat.le_of_ble_eq_true rfl⟩ ?_
      refine lv_if_eq (tgt := 54) hx hb dX8_isNumber_22 (by decide) (fun c4 => ?_) (fun c4 => ?_)
      · replace h := ite_t c4 h
        exact lX8_isNumber_54 C hE hA hret l2 l3 l4 m_her v_mc ⟨hP, hD⟩ hS _ (lv_sub hl [0, 2, 3, 4] rfl) h
      · replace h := ite_f c4 h
        refine lv_bipush (v := 10) hx hb dX8_isNumber_25 (by decide) ?_
        refine lv_iload_n hx hb dX8_isNumber_27 rfl (lv_at hl 3 rfl) ?_
        refine lv_imul hx hb dX8_isNumber_28 ?_
        refine lv_aload_n hx hb dX8_isNumber_29 rfl (lv_at hl 0 rfl) ?_
        replace h := bnd h; obtain ⟨q5, e6, h⟩ := h
        refine rdV C hE hP (kX8_sign l D T a_m a_ms a_mw a_mv a_mp a_mf a_ml a_mt a_mc m_chg m_thr m_rea m_det m_ref m_err m_ans m_sav m_net m_lin m_tap m_her m_cmd v_mt q5 e6) mX8_sign qLX8_214 [0, 1] 0 rfl rfl rfl rfl ⟨rfl, rfl⟩ ⟨Nat.le_of_ble_eq_true rfl, Nat.le_of_ble_eq_true rfl⟩ rfl hl.1 rfl (Nat.le_of_ble_eq_true rfl) dX8_isNumber_30 ⟨Nat.le_of_ble_eq_true rfl, Nat.le_of_ble_eq_true rfl⟩ ?_
        refine lv_iadd hx hb dX8_isNumber_33 ?_
        refine lv_bipush (v := 48) hx hb dX8_isNumber_34 (by decide) ?_
        refine lv_isub hx hb dX8_isNumber_36 ?_
        refine lv_istore_n (lv' := [(3, .int (((10 * l3) + q5) - 48)), (0, .ref a_m), (1, .int l1), (2, .int l2), (4, .int l4)]) hx hb dX8_isNumber_37 rfl hl (by decide) rfl (fun ls hl => ?_)
        refine lv_aload_n hx hb dX8_isNumber_38 rfl (lv_at hl 1 rfl) ?_
        refine lv_dup hx hb dX8_isNumber_39 rfl ?_
        refine getF (q0 := 0) (k0 := 19) (v := .int m_her) C hE hP inA8 rfl rfl (by decide) qFX8_211 rfl rfl dX8_isNumber_40 ?_
        refine lv_iconst (v := 1) hx hb dX8_isNumber_43 (by decide) ?_
        refine lv_iadd hx hb dX8_isNumber_44 ?_
        refine putF (q0 := 0) (k0 := 19) (ws1 := [(a_m, .inr (8, [.ref a_ms, .ref a_mw, .ref a_mv, .ref a_mp, .ref a_mf, .int m_chg, .int m_thr, .int m_rea, .int m_det, .int m_ref, .int m_err, .int m_ans, .int m_sav, .int m_net, .ref a_ml, .int m_lin, .ref a_mt, .ref a_mc, .int m_tap, .int (m_her + 1), .int m_cmd])), (a_mt, .inl (T 0, 60, .inl v_mt)), (a_mc, .inl (T 0, 124, .inl v_mc))]) C hE hP hD hS inA8 tyX8_ok nmX8 rfl rfl (by decide) qFX8_211 rfl rfl rfl rfl (Nat.le_of_ble_eq_true rfl) rfl dX8_isNumber_45 ?_; clear hP hD hS; intro H locs hP hD hS
        refine lv_iinc (v := (l4 + 1)) (lv' := [(4, .int (l4 + 1)), (3, .int (((10 * l3) + q5) - 48)), (0, .ref a_m), (1, .int l1), (2, .int l2)]) hx hb dX8_isNumber_48 hl (k := 4) rfl rfl (by decide) rfl (fun ls hl => ?_)
        refine lv_goto (tgt := 5) hx hb dX8_isNumber_51 (by decide) ?_
        exact ih l1 l2 (((10 * l3) + q5) - 48) (l4 + 1) (m_her + 1) v_mc ⟨hP, hD⟩ hS _ (lv_sub hl [2, 3, 4, 1, 0] rfl) h
set_option maxHeartbeats 4000000 in
set_option maxRecDepth 100000 in
theorem kX8_isNumber (l : Launch) (D : va_G) (T : Nat → ClassId) (a_m a_ms a_mw a_mv a_mp a_mf a_ml a_mt a_mc : Nat) (m_chg : Int32) (m_thr : Int32) (m_rea : Int32) (m_det : Int32) (m_ref : Int32) (m_err : Int32) (m_ans : Int32) (m_sav : Int32) (m_net : Int32) (m_lin : Int32) (m_tap : Int32) (m_her : Int32) (m_cmd : Int32) (v_mt : Nat → Int32) (v_mc : Nat → Int32) (p0 : Int32) (p1 : Int32) (sz : Nat) (r : Int32 × Int32 × (Nat → Int32)) (h : fX8_isNumber m_tap m_her v_mt v_mc p0 p1 = some r) : WrI l yX8_isNumber cX8_isNumber 5 .boolean ({ frames := 1, cells := 0, slots := 0, locals := 22 } : Room) D T sz [(a_m, .inr (8, [.ref a_ms, .ref a_mw, .ref a_mv, .ref a_mp, .ref a_mf, .int m_chg, .int m_thr, .int m_rea, .int m_det, .int m_ref, .int m_err, .int m_ans, .int m_sav, .int m_net, .ref a_ml, .int m_lin, .ref a_mt, .ref a_mc, .int m_tap, .int m_her, .int m_cmd])), (a_mt, .inl (T 0, 60, .inl v_mt)), (a_mc, .inl (T 0, 124, .inl v_mc))] [(a_m, .inr (8, [.ref a_ms, .ref a_mw, .ref a_mv, .ref a_mp, .ref a_mf, .int m_chg, .int m_thr, .int m_rea, .int m_det, .int m_ref, .int m_err, .int m_ans, .int m_sav, .int m_net, .ref a_ml, .int m_lin, .ref a_mt, .ref a_mc, .int m_tap, .int r.2.1, .int m_cmd])), (a_mt, .inl (T 0, 60, .inl v_mt)), (a_mc, .inl (T 0, 124, .inl r.2.2))] [.ref a_m, .int p0, .int p1] r.1 := by
  unfold fX8_isNumber at h
  refine wrMet (by decide +kernel) rfl (fun p e s m args below meth c Q A C hE hA hP hD hS hret ls hl => ?_)
  have hx := C.1
  have hb := C.2.1
  have hl : lv_has ls 5 [(0, .ref a_m), (1, .int p0), (2, .int p1)] := hl
  refine lv_iconst (v := 0) hx hb dX8_isNumber_0 (by decide) ?_
  refine lv_istore_n (lv' := [(3, .int 0), (0, .ref a_m), (1, .int p0), (2, .int p1)]) hx hb dX8_isNumber_1 rfl hl (by decide) rfl (fun ls hl => ?_)
  refine lv_iconst (v := 0) hx hb dX8_isNumber_2 (by decide) ?_
  refine lv_istore (lv' := [(4, .int 0), (3, .int 0), (0, .ref a_m), (1, .int p0), (2, .int p1)]) hx hb dX8_isNumber_3 hl (by decide) rfl (fun ls hl => ?_)
  exact lX8_isNumber_5 C hE hA hret 64 p0 p1 0 0 m_her v_mc ⟨hP, hD⟩ hS _ (lv_sub hl [2, 3, 4, 1, 0] rfl) h

def fX8_isKind (p0 : Int32) : Int32 :=
  if p0 = 119 then
    1
  else
    if p0 = 109 then
      1
    else
      if p0 = 107 then
        1
      else
        if p0 = 111 then
          1
        else
          if p0 = 98 then
            1
          else
            if p0 = 100 then
              1
            else
              0
set_option maxHeartbeats 4000000 in
set_option maxRecDepth 100000 in
theorem kX8_isKind (l : Launch) (D : va_G) (T : Nat → ClassId) (p0 : Int32) : RdI l yX8_isKind cX8_isKind 1 .boolean ({ frames := 0, cells := 0, slots := 0, locals := 0 } : Room) D T [] [.int p0] (fX8_isKind p0) := by
  obtain ⟨r, h⟩ : ∃ r, fX8_isKind p0 = r := ⟨_, rfl⟩
  rw [h]
  unfold fX8_isKind at h
  refine rdMet (by decide +kernel) rfl (fun p e s m args below meth c Q C hE hP hret ls hl => ?_)
  have hx := C.1
  have hb := C.2.1
  have hl : lv_has ls 1 [(0, .int p0)] := hl
  refine lv_iload_n hx hb dX8_isKind_0 rfl (lv_at hl 0 rfl) ?_
  refine lv_bipush (v := 119) hx hb dX8_isKind_1 (by decide) ?_
  refine lv_icmp_eq (tgt := 36) hx hb dX8_isKind_3 (by decide) (fun c1 => ?_) (fun c1 => ?_)
  · replace h := ite_t c1 h
    refine lv_iconst (v := 1) hx hb dX8_isKind_36 (by decide) ?_
    refine lv_goto (tgt := 41) hx hb dX8_isKind_37 (by decide) ?_
    exact hret _ _ _ _ dX8_isKind_41 rfl h
  · replace h := ite_f c1 h
    refine lv_iload_n hx hb dX8_isKind_6 rfl (lv_at hl 0 rfl) ?_
    refine lv_bipush (v := 109) hx hb dX8_isKind_7 (by decide) ?_
    refine lv_icmp_eq (tgt := 36) hx hb dX8_isKind_9 (by decide) (fun c2 => ?_) (fun c2 => ?_)
    · replace h := ite_t c2 h
      refine lv_iconst (v := 1) hx hb dX8_isKind_36 (by decide) ?_
      refine lv_goto (tgt := 41) hx hb dX8_isKind_37 (by decide) ?_
      exact hret _ _ _ _ dX8_isKind_41 rfl h
    · replace h := ite_f c2 h
      refine lv_iload_n hx hb dX8_isKind_12 rfl (lv_at hl 0 rfl) ?_
      refine lv_bipush (v := 107) hx hb dX8_isKind_13 (by decide) ?_
      refine lv_icmp_eq (tgt := 36) hx hb dX8_isKind_15 (by decide) (fun c3 => ?_) (fun c3 => ?_)
      · replace h := ite_t c3 h
        refine lv_iconst (v := 1) hx hb dX8_isKind_36 (by decide) ?_
        refine lv_goto (tgt := 41) hx hb dX8_isKind_37 (by decide) ?_
        exact hret _ _ _ _ dX8_isKind_41 rfl h
      · replace h := ite_f c3 h
        refine lv_iload_n hx hb dX8_isKind_18 rfl (lv_at hl 0 rfl) ?_
        refine lv_bipush (v := 111) hx hb dX8_isKind_19 (by decide) ?_
        refine lv_icmp_eq (tgt := 36) hx hb dX8_isKind_21 (by decide) (fun c4 => ?_) (fun c4 => ?_)
        · replace h := ite_t c4 h
          refine lv_iconst (v := 1) hx hb dX8_isKind_36 (by decide) ?_
          refine lv_goto (tgt := 41) hx hb dX8_isKind_37 (by decide) ?_
          exact hret _ _ _ _ dX8_isKind_41 rfl h
        · replace h := ite_f c4 h
          refine lv_iload_n hx hb dX8_isKind_24 rfl (lv_at hl 0 rfl) ?_
          refine lv_bipush (v := 98) hx hb dX8_isKind_25 (by decide) ?_
          refine lv_icmp_eq (tgt := 36) hx hb dX8_isKind_27 (by decide) (fun c5 => ?_) (fun c5 => ?_)
          · replace h := ite_t c5 h
            refine lv_iconst (v := 1) hx hb dX8_isKind_36 (by decide) ?_
            refine lv_goto (tgt := 41) hx hb dX8_isKind_37 (by decide) ?_
            exact hret _ _ _ _ dX8_isKind_41 rfl h
          · replace h := ite_f c5 h
            refine lv_iload_n hx hb dX8_isKind_30 rfl (lv_at hl 0 rfl) ?_
            refine lv_bipush (v := 100) hx hb dX8_isKind_31 (by decide) ?_
            refine lv_icmp_ne (tgt := 40) hx hb dX8_isKind_33 (by decide) (fun c6 => ?_) (fun c6 => ?_)
            · replace h := ite_f c6 h
              refine lv_iconst (v := 0) hx hb dX8_isKind_40 (by decide) ?_
              exact hret _ _ _ _ dX8_isKind_41 rfl h
            · replace h := ite_t c6 h
              refine lv_iconst (v := 1) hx hb dX8_isKind_36 (by decide) ?_
              refine lv_goto (tgt := 41) hx hb dX8_isKind_37 (by decide) ?_
              exact hret _ _ _ _ dX8_isKind_41 rfl h

def fX8_does (m_thr : Int32) (m_rea : Int32) (m_det : Int32) (m_ref : Int32) (m_net : Int32) (v_ms : Nat → Int32) (v_mf : Nat → Int32) (v_mc : Nat → Int32) (p0 : Int32) : Option (Int32 × Int32 × Int32 × Int32 × Int32 × Int32 × (Nat → Int32) × (Nat → Int32)) :=
  if vin (p0 + 1) 124 = true then
  if vin (p0 + 2) 124 = true then
  if vin (p0 + 3) 124 = true then
  if vin p0 124 = true then
  if (v_mc p0.toNatClampNeg) = 98 then
    (fX8_swaps m_thr m_rea m_det m_ref v_ms (v_mc (p0 + 1).toNatClampNeg) (v_mc (p0 + 2).toNatClampNeg)).bind fun q6 =>
    some (q6.1, q6.2.1, q6.2.2.1, q6.2.2.2.1, q6.2.2.2.2.1, m_net, q6.2.2.2.2.2, v_mf)
  else
    if (v_mc p0.toNatClampNeg) = 107 then
      (fX8_strikesBuoy m_thr m_rea m_det m_ref m_net v_ms (v_mc (p0 + 1).toNatClampNeg) (v_mc (p0 + 2).toNatClampNeg) (v_mc (p0 + 3).toNatClampNeg)).bind fun q9 =>
      some (q9.1, q9.2.1, q9.2.2.1, q9.2.2.2.1, q9.2.2.2.2.1, q9.2.2.2.2.2.1, q9.2.2.2.2.2.2, v_mf)
    else
      if (v_mc p0.toNatClampNeg) = 109 then
        (fX8_swims m_thr m_rea m_det m_ref v_ms v_mf (v_mc (p0 + 1).toNatClampNeg) (v_mc (p0 + 2).toNatClampNeg)).bind fun q12 =>
        some (q12.1, q12.2.1, q12.2.2.1, q12.2.2.2.1, q12.2.2.2.2.1, m_net, q12.2.2.2.2.2.1, q12.2.2.2.2.2.2)
      else
        if (v_mc p0.toNatClampNeg) = 111 then
          (fX8_sings m_thr m_rea m_det m_ref v_ms (v_mc (p0 + 1).toNatClampNeg)).bind fun q15 =>
          some (q15.1, q15.2.1, q15.2.2.1, q15.2.2.2.1, q15.2.2.2.2.1, m_net, q15.2.2.2.2.2, v_mf)
        else
          if (v_mc p0.toNatClampNeg) = 119 then
            (fX8_comes m_thr m_rea m_det m_ref v_ms (v_mc (p0 + 1).toNatClampNeg) (v_mc (p0 + 2).toNatClampNeg) (v_mc (p0 + 3).toNatClampNeg)).bind fun q18 =>
            some (q18.1, q18.2.1, q18.2.2.1, q18.2.2.2.1, q18.2.2.2.2.1, m_net, q18.2.2.2.2.2, v_mf)
          else
            (fX8_drifts m_thr m_rea m_det m_ref v_ms).bind fun q20 =>
            some (q20.1, q20.2.1, q20.2.2.1, q20.2.2.2.1, q20.2.2.2.2.1, m_net, q20.2.2.2.2.2, v_mf)
  else none
  else none
  else none
  else none
set_option maxHeartbeats 4000000 in
set_option maxRecDepth 100000 in
theorem kX8_does (l : Launch) (D : va_G) (T : Nat → ClassId) (a_m a_ms a_mw a_mv a_mp a_mf a_ml a_mt a_mc : Nat) (m_chg : Int32) (m_thr : Int32) (m_rea : Int32) (m_det : Int32) (m_ref : Int32) (m_err : Int32) (m_ans : Int32) (m_sav : Int32) (m_net : Int32) (m_lin : Int32) (m_tap : Int32) (m_her : Int32) (m_cmd : Int32) (v_ms : Nat → Int32) (v_mf : Nat → Int32) (v_mc : Nat → Int32) (p0 : Int32) (sz : Nat) (r : Int32 × Int32 × Int32 × Int32 × Int32 × Int32 × (Nat → Int32) × (Nat → Int32)) (h : fX8_does m_thr m_rea m_det m_ref m_net v_ms v_mf v_mc p0 = some r) : WrI l yX8_does cX8_does 5 .int ({ frames := 6, cells := 0, slots := 0, locals := 141 } : Room) D T sz [(a_m, .inr (8, [.ref a_ms, .ref a_mw, .ref a_mv, .ref a_mp, .ref a_mf, .int m_chg, .int m_thr, .int m_rea, .int m_det, .int m_ref, .int m_err, .int m_ans, .int m_sav, .int m_net, .ref a_ml, .int m_lin, .ref a_mt, .ref a_mc, .int m_tap, .int m_her, .int m_cmd])), (a_ms, .inl (T 0, 103, .inl v_ms)), (a_mf, .inl (T 0, 45, .inl v_mf)), (a_mc, .inl (T 0, 124, .inl v_mc))] [(a_m, .inr (8, [.ref a_ms, .ref a_mw, .ref a_mv, .ref a_mp, .ref a_mf, .int m_chg, .int r.2.1, .int r.2.2.1, .int r.2.2.2.1, .int r.2.2.2.2.1, .int m_err, .int m_ans, .int m_sav, .int r.2.2.2.2.2.1, .ref a_ml, .int m_lin, .ref a_mt, .ref a_mc, .int m_tap, .int m_her, .int m_cmd])), (a_ms, .inl (T 0, 103, .inl r.2.2.2.2.2.2.1)), (a_mf, .inl (T 0, 45, .inl r.2.2.2.2.2.2.2)), (a_mc, .inl (T 0, 124, .inl v_mc))] [.ref a_m, .int p0] r.1 := by
  unfold fX8_does at h
  refine wrMet (by decide +kernel) rfl (fun p e s m args below meth c Q A C hE hA hP hD hS hret ls hl => ?_)
  have hx := C.1
  have hb := C.2.1
  have hl : lv_has ls 5 [(0, .ref a_m), (1, .int p0)] := hl
  refine lv_aload_n hx hb dX8_does_0 rfl (lv_at hl 0 rfl) ?_
  refine getF (q0 := 0) (k0 := 17) (v := .ref a_mc) C hE hP inA8 rfl rfl (by decide) qFX8_38 rfl rfl dX8_does_1 ?_
  refine lv_iload_n hx hb dX8_does_4 rfl (lv_at hl 1 rfl) ?_
  refine lv_iconst (v := 1) hx hb dX8_does_5 (by decide) ?_
  refine lv_iadd hx hb dX8_does_6 ?_
  replace h := gd h; obtain ⟨g1, h⟩ := h
  refine aldI (q0 := 3) C hE hP rfl g1 dX8_does_7 ?_
  refine lv_istore_n (lv' := [(2, .int (v_mc (p0 + 1).toNatClampNeg)), (0, .ref a_m), (1, .int p0)]) hx hb dX8_does_8 rfl hl (by decide) rfl (fun ls hl => ?_)
  refine lv_aload_n hx hb dX8_does_9 rfl (lv_at hl 1 rfl) ?_
  refine getF (q0 := 0) (k0 := 17) (v := .ref a_mc) C hE hP inA8 rfl rfl (by decide) qFX8_38 rfl rfl dX8_does_10 ?_
  refine lv_iload_n hx hb dX8_does_13 rfl (lv_at hl 2 rfl) ?_
  refine lv_iconst (v := 2) hx hb dX8_does_14 (by decide) ?_
  refine lv_iadd hx hb dX8_does_15 ?_
  replace h := gd h; obtain ⟨g2, h⟩ := h
  refine aldI (q0 := 3) C hE hP rfl g2 dX8_does_16 ?_
  refine lv_istore_n (lv' := [(3, .int (v_mc (p0 + 2).toNatClampNeg)), (2, .int (v_mc (p0 + 1).toNatClampNeg)), (0, .ref a_m), (1, .int p0)]) hx hb dX8_does_17 rfl hl (by decide) rfl (fun ls hl => ?_)
  refine lv_aload_n hx hb dX8_does_18 rfl (lv_at hl 2 rfl) ?_
  refine getF (q0 := 0) (k0 := 17) (v := .ref a_mc) C hE hP inA8 rfl rfl (by decide) qFX8_38 rfl rfl dX8_does_19 ?_
  refine lv_iload_n hx hb dX8_does_22 rfl (lv_at hl 3 rfl) ?_
  refine lv_iconst (v := 3) hx hb dX8_does_23 (by decide) ?_
  refine lv_iadd hx hb dX8_does_24 ?_
  replace h := gd h; obtain ⟨g3, h⟩ := h
  refine aldI (q0 := 3) C hE hP rfl g3 dX8_does_25 ?_
  refine lv_istore (lv' := [(4, .int (v_mc (p0 + 3).toNatClampNeg)), (3, .int (v_mc (p0 + 2).toNatClampNeg)), (2, .int (v_mc (p0 + 1).toNatClampNeg)), (0, .ref a_m), (1, .int p0)]) hx hb dX8_does_26 hl (by decide) rfl (fun ls hl => ?_)
  refine lv_aload_n hx hb dX8_does_28 rfl (lv_at hl 3 rfl) ?_
  refine getF (q0 := 0) (k0 := 17) (v := .ref a_mc) C hE hP inA8 rfl rfl (by decide) qFX8_38 rfl rfl dX8_does_29 ?_
  refine lv_iload_n hx hb dX8_does_32 rfl (lv_at hl 4 rfl) ?_
  replace h := gd h; obtain ⟨g4, h⟩ := h
  refine aldI (q0 := 3) C hE hP rfl g4 dX8_does_33 ?_
  by_cases c5 : (v_mc p0.toNatClampNeg) = 98
  · replace h := ite_t c5 h
    refine lv_lookup (off := 81) (tgt := 115) hx hb dX8_does_34 (by decide) (by rw [c5] <;> rfl) (by decide) ?_
    refine lv_aload_n hx hb dX8_does_115 rfl (lv_at hl 3 rfl) ?_
    refine lv_iload_n hx hb dX8_does_116 rfl (lv_at hl 2 rfl) ?_
    refine lv_iload_n hx hb dX8_does_117 rfl (lv_at hl 1 rfl) ?_
    replace h := bnd h; obtain ⟨q6, e7, h⟩ := h
    refine wrVi (ws1 := [(a_m, .inr (8, [.ref a_ms, .ref a_mw, .ref a_mv, .ref a_mp, .ref a_mf, .int m_chg, .int q6.2.1, .int q6.2.2.1, .int q6.2.2.2.1, .int q6.2.2.2.2.1, .int m_err, .int m_ans, .int m_sav, .int m_net, .ref a_ml, .int m_lin, .ref a_mt, .ref a_mc, .int m_tap, .int m_her, .int m_cmd])), (a_ms, .inl (T 0, 103, .inl q6.2.2.2.2.2)), (a_mf, .inl (T 0, 45, .inl v_mf)), (a_mc, .inl (T 0, 124, .inl v_mc))]) C hE hP hD hS hA (kX8_swaps l D T a_m a_ms a_mw a_mv a_mp a_mf a_ml a_mt a_mc m_chg m_thr m_rea m_det m_ref m_err m_ans m_sav m_net m_lin m_tap m_her m_cmd v_ms (v_mc (p0 + 1).toNatClampNeg) (v_mc (p0 + 2).toNatClampNeg) _ q6 e7) mX8_swaps qLX8_133 [0, 1] [2, 3] 0 rfl rfl rfl rfl rfl rfl rfl rfl rfl ⟨rfl, rfl⟩ ⟨Nat.le_of_ble_eq_true rfl, Nat.le_of_ble_eq_true rfl⟩ rfl hl.1 rfl (Nat.le_of_ble_eq_true rfl) dX8_does_118 ⟨Nat.le_of_ble_eq_true rfl, Nat.le_of_ble_eq_true rfl⟩ ?_; clear hP hD hS; intro H locs hP hD hS
    replace h := Option.some.inj h
    exact hret _ _ _ _ _ _ dX8_does_121 rfl (by rw [← h] <;> rfl) (by rw [← h]; exact hP) hS
  · replace h := ite_f c5 h
    by_cases c8 : (v_mc p0.toNatClampNeg) = 107
    · replace h := ite_t c8 h
      refine lv_lookup (off := 66) (tgt := 100) hx hb dX8_does_34 (by decide) (by rw [c8] <;> rfl) (by decide) ?_
      refine lv_aload_n hx hb dX8_does_100 rfl (lv_at hl 3 rfl) ?_
      refine lv_iload_n hx hb dX8_does_101 rfl (lv_at hl 2 rfl) ?_
      refine lv_iload_n hx hb dX8_does_102 rfl (lv_at hl 1 rfl) ?_
      refine lv_iload hx hb dX8_does_103 (lv_at hl 0 rfl) ?_
      replace h := bnd h; obtain ⟨q9, e10, h⟩ := h
      refine wrVi (ws1 := [(a_m, .inr (8, [.ref a_ms, .ref a_mw, .ref a_mv, .ref a_mp, .ref a_mf, .int m_chg, .int q9.2.1, .int q9.2.2.1, .int q9.2.2.2.1, .int q9.2.2.2.2.1, .int m_err, .int m_ans, .int m_sav, .int q9.2.2.2.2.2.1, .ref a_ml, .int m_lin, .ref a_mt, .ref a_mc, .int m_tap, .int m_her, .int m_cmd])), (a_ms, .inl (T 0, 103, .inl q9.2.2.2.2.2.2)), (a_mf, .inl (T 0, 45, .inl v_mf)), (a_mc, .inl (T 0, 124, .inl v_mc))]) C hE hP hD hS hA (kX8_strikesBuoy l D T a_m a_ms a_mw a_mv a_mp a_mf a_ml a_mt a_mc m_chg m_thr m_rea m_det m_ref m_err m_ans m_sav m_net m_lin m_tap m_her m_cmd v_ms (v_mc (p0 + 1).toNatClampNeg) (v_mc (p0 + 2).toNatClampNeg) (v_mc (p0 + 3).toNatClampNeg) _ q9 e10) mX8_strikesBuoy qLX8_168 [0, 1] [2, 3] 0 rfl rfl rfl rfl rfl rfl rfl rfl rfl ⟨rfl, rfl⟩ ⟨Nat.le_of_ble_eq_true rfl, Nat.le_of_ble_eq_true rfl⟩ rfl hl.1 rfl (Nat.le_of_ble_eq_true rfl) dX8_does_105 ⟨Nat.le_of_ble_eq_true rfl, Nat.le_of_ble_eq_true rfl⟩ ?_; clear hP hD hS; intro H locs hP hD hS
      replace h := Option.some.inj h
      exact hret _ _ _ _ _ _ dX8_does_108 rfl (by rw [← h] <;> rfl) (by rw [← h]; exact hP) hS
    · replace h := ite_f c8 h
      by_cases c11 : (v_mc p0.toNatClampNeg) = 109
      · replace h := ite_t c11 h
        refine lv_lookup (off := 59) (tgt := 93) hx hb dX8_does_34 (by decide) (by rw [c11] <;> rfl) (by decide) ?_
        refine lv_aload_n hx hb dX8_does_93 rfl (lv_at hl 3 rfl) ?_
        refine lv_iload_n hx hb dX8_does_94 rfl (lv_at hl 2 rfl) ?_
        refine lv_iload_n hx hb dX8_does_95 rfl (lv_at hl 1 rfl) ?_
        replace h := bnd h; obtain ⟨q12, e13, h⟩ := h
        refine wrVi (ws1 := [(a_m, .inr (8, [.ref a_ms, .ref a_mw, .ref a_mv, .ref a_mp, .ref a_mf, .int m_chg, .int q12.2.1, .int q12.2.2.1, .int q12.2.2.2.1, .int q12.2.2.2.2.1, .int m_err, .int m_ans, .int m_sav, .int m_net, .ref a_ml, .int m_lin, .ref a_mt, .ref a_mc, .int m_tap, .int m_her, .int m_cmd])), (a_ms, .inl (T 0, 103, .inl q12.2.2.2.2.2.1)), (a_mf, .inl (T 0, 45, .inl q12.2.2.2.2.2.2)), (a_mc, .inl (T 0, 124, .inl v_mc))]) C hE hP hD hS hA (kX8_swims l D T a_m a_ms a_mw a_mv a_mp a_mf a_ml a_mt a_mc m_chg m_thr m_rea m_det m_ref m_err m_ans m_sav m_net m_lin m_tap m_her m_cmd v_ms v_mf (v_mc (p0 + 1).toNatClampNeg) (v_mc (p0 + 2).toNatClampNeg) _ q12 e13) mX8_swims qLX8_149 [0, 1, 2] [3] 0 rfl rfl rfl rfl rfl rfl rfl rfl rfl ⟨rfl, rfl⟩ ⟨Nat.le_of_ble_eq_true rfl, Nat.le_of_ble_eq_true rfl⟩ rfl hl.1 rfl (Nat.le_of_ble_eq_true rfl) dX8_does_96 ⟨Nat.le_of_ble_eq_true rfl, Nat.le_of_ble_eq_true rfl⟩ ?_; clear hP hD hS; intro H locs hP hD hS
        replace h := Option.some.inj h
        exact hret _ _ _ _ _ _ dX8_does_99 rfl (by rw [← h] <;> rfl) (by rw [← h]; exact hP) hS
      · replace h := ite_f c11 h
        by_cases c14 : (v_mc p0.toNatClampNeg) = 111
        · replace h := ite_t c14 h
          refine lv_lookup (off := 75) (tgt := 109) hx hb dX8_does_34 (by decide) (by rw [c14] <;> rfl) (by decide) ?_
          refine lv_aload_n hx hb dX8_does_109 rfl (lv_at hl 3 rfl) ?_
          refine lv_iload_n hx hb dX8_does_110 rfl (lv_at hl 2 rfl) ?_
          replace h := bnd h; obtain ⟨q15, e16, h⟩ := h
          refine wrVi (ws1 := [(a_m, .inr (8, [.ref a_ms, .ref a_mw, .ref a_mv, .ref a_mp, .ref a_mf, .int m_chg, .int q15.2.1, .int q15.2.2.1, .int q15.2.2.2.1, .int q15.2.2.2.2.1, .int m_err, .int m_ans, .int m_sav, .int m_net, .ref a_ml, .int m_lin, .ref a_mt, .ref a_mc, .int m_tap, .int m_her, .int m_cmd])), (a_ms, .inl (T 0, 103, .inl q15.2.2.2.2.2)), (a_mf, .inl (T 0, 45, .inl v_mf)), (a_mc, .inl (T 0, 124, .inl v_mc))]) C hE hP hD hS hA (kX8_sings l D T a_m a_ms a_mw a_mv a_mp a_mf a_ml a_mt a_mc m_chg m_thr m_rea m_det m_ref m_err m_ans m_sav m_net m_lin m_tap m_her m_cmd v_ms (v_mc (p0 + 1).toNatClampNeg) _ q15 e16) mX8_sings qLX8_183 [0, 1] [2, 3] 0 rfl rfl rfl rfl rfl rfl rfl rfl rfl ⟨rfl, rfl⟩ ⟨Nat.le_of_ble_eq_true rfl, Nat.le_of_ble_eq_true rfl⟩ rfl hl.1 rfl (Nat.le_of_ble_eq_true rfl) dX8_does_111 ⟨Nat.le_of_ble_eq_true rfl, Nat.le_of_ble_eq_true rfl⟩ ?_; clear hP hD hS; intro H locs hP hD hS
          replace h := Option.some.inj h
          exact hret _ _ _ _ _ _ dX8_does_114 rfl (by rw [← h] <;> rfl) (by rw [← h]; exact hP) hS
        · replace h := ite_f c14 h
          by_cases c17 : (v_mc p0.toNatClampNeg) = 119
          · replace h := ite_t c17 h
            refine lv_lookup (off := 50) (tgt := 84) hx hb dX8_does_34 (by decide) (by rw [c17] <;> rfl) (by decide) ?_
            refine lv_aload_n hx hb dX8_does_84 rfl (lv_at hl 3 rfl) ?_
            refine lv_iload_n hx hb dX8_does_85 rfl (lv_at hl 2 rfl) ?_
            refine lv_iload_n hx hb dX8_does_86 rfl (lv_at hl 1 rfl) ?_
            refine lv_iload hx hb dX8_does_87 (lv_at hl 0 rfl) ?_
            replace h := bnd h; obtain ⟨q18, e19, h⟩ := h
            refine wrVi (ws1 := [(a_m, .inr (8, [.ref a_ms, .ref a_mw, .ref a_mv, .ref a_mp, .ref a_mf, .int m_chg, .int q18.2.1, .int q18.2.2.1, .int q18.2.2.2.1, .int q18.2.2.2.2.1, .int m_err, .int m_ans, .int m_sav, .int m_net, .ref a_ml, .int m_lin, .ref a_mt, .ref a_mc, .int m_tap, .int m_her, .int m_cmd])), (a_ms, .inl (T 0, 103, .inl q18.2.2.2.2.2)), (a_mf, .inl (T 0, 45, .inl v_mf)), (a_mc, .inl (T 0, 124, .inl v_mc))]) C hE hP hD hS hA (kX8_comes l D T a_m a_ms a_mw a_mv a_mp a_mf a_ml a_mt a_mc m_chg m_thr m_rea m_det m_ref m_err m_ans m_sav m_net m_lin m_tap m_her m_cmd v_ms (v_mc (p0 + 1).toNatClampNeg) (v_mc (p0 + 2).toNatClampNeg) (v_mc (p0 + 3).toNatClampNeg) _ q18 e19) mX8_comes qLX8_110 [0, 1] [2, 3] 0 rfl rfl rfl rfl rfl rfl rfl rfl rfl ⟨rfl, rfl⟩ ⟨Nat.le_of_ble_eq_true rfl, Nat.le_of_ble_eq_true rfl⟩ rfl hl.1 rfl (Nat.le_of_ble_eq_true rfl) dX8_does_89 ⟨Nat.le_of_ble_eq_true rfl, Nat.le_of_ble_eq_true rfl⟩ ?_; clear hP hD hS; intro H locs hP hD hS
            replace h := Option.some.inj h
            exact hret _ _ _ _ _ _ dX8_does_92 rfl (by rw [← h] <;> rfl) (by rw [← h]; exact hP) hS
          · replace h := ite_f c17 h
            refine lv_lookup (off := 88) (tgt := 122) hx hb dX8_does_34 (by decide) (by show Op.lookupswitch.offset [(98, 81), (107, 66), (109, 59), (111, 75), (119, 50)] 88 _ = _; rw [lv_osw (a := 98) c5 rfl, lv_osw (a := 107) c8 rfl, lv_osw (a := 109) c11 rfl, lv_osw (a := 111) c14 rfl, lv_osw (a := 119) c17 rfl] <;> rfl) (by decide) ?_
            refine lv_aload_n hx hb dX8_does_122 rfl (lv_at hl 3 rfl) ?_
            replace h := bnd h; obtain ⟨q20, e21, h⟩ := h
            refine wrVi (ws1 := [(a_m, .inr (8, [.ref a_ms, .ref a_mw, .ref a_mv, .ref a_mp, .ref a_mf, .int m_chg, .int q20.2.1, .int q20.2.2.1, .int q20.2.2.2.1, .int q20.2.2.2.2.1, .int m_err, .int m_ans, .int m_sav, .int m_net, .ref a_ml, .int m_lin, .ref a_mt, .ref a_mc, .int m_tap, .int m_her, .int m_cmd])), (a_ms, .inl (T 0, 103, .inl q20.2.2.2.2.2)), (a_mf, .inl (T 0, 45, .inl v_mf)), (a_mc, .inl (T 0, 124, .inl v_mc))]) C hE hP hD hS hA (kX8_drifts l D T a_m a_ms a_mw a_mv a_mp a_mf a_ml a_mt a_mc m_chg m_thr m_rea m_det m_ref m_err m_ans m_sav m_net m_lin m_tap m_her m_cmd v_ms _ q20 e21) mX8_drifts qLX8_186 [0, 1] [2, 3] 0 rfl rfl rfl rfl rfl rfl rfl rfl rfl ⟨rfl, rfl⟩ ⟨Nat.le_of_ble_eq_true rfl, Nat.le_of_ble_eq_true rfl⟩ rfl hl.1 rfl (Nat.le_of_ble_eq_true rfl) dX8_does_123 ⟨Nat.le_of_ble_eq_true rfl, Nat.le_of_ble_eq_true rfl⟩ ?_; clear hP hD hS; intro H locs hP hD hS
            replace h := Option.some.inj h
            exact hret _ _ _ _ _ _ dX8_does_126 rfl (by rw [← h] <;> rfl) (by rw [← h]; exact hP) hS

def fX8_errorPosition_13 (m_err : Int32) (x1 : Int32) (m_thr : Int32) : Option (Int32 × Int32) :=
  (fX8_isThrown m_thr x1 1).bind fun q2 =>
  if q2.1 = 0 then
    some (m_err, q2.2)
  else
    some (0, q2.2)
def fX8_errorPosition (m_thr : Int32) (m_err : Int32) : Option (Int32 × Int32) :=
  fX8_errorPosition_13 m_err (if 0 ≤ m_err then 0 else 1) m_thr
set_option maxHeartbeats 4000000 in
set_option maxRecDepth 100000 in
theorem lX8_errorPosition_13 {p : Program} {l : Launch} {e : Env} {s : State} {m : MethodId} {args : Array Value} {below : List Frame} {meth : Method} {c : Code} {Q : State → Prop} {D : va_G} {T : Nat → ClassId} {a_m a_ms a_mw a_mv a_mp a_mf a_ml a_mt a_mc : Nat} {m_chg : Int32} {m_rea : Int32} {m_det : Int32} {m_ref : Int32} {m_err : Int32} {m_ans : Int32} {m_sav : Int32} {m_net : Int32} {m_lin : Int32} {m_tap : Int32} {m_her : Int32} {m_cmd : Int32} {A : Nat → Prop} {r : Int32 × Int32} (C : CallFix p m c cX8_errorPosition 1 s args aw RX8) (hE : eK D T s) (hA : ∀ q : Nat, s.heap.size ≤ q → A q) (hret : WrRet p l e ({ frames := 1, cells := 0, slots := 0, locals := 22 } : Room) s m args below meth c Q cX8_errorPosition .int D A [(a_m, .inr (8, [.ref a_ms, .ref a_mw, .ref a_mv, .ref a_mp, .ref a_mf, .int m_chg, .int r.2, .int m_rea, .int m_det, .int m_ref, .int m_err, .int m_ans, .int m_sav, .int m_net, .ref a_ml, .int m_lin, .ref a_mt, .ref a_mc, .int m_tap, .int m_her, .int m_cmd]))] r.1) (x1 : Int32) (m_thr : Int32) {H : Heap} {locs : List Loc} (hPD : va_PD D A [(a_m, .inr (8, [.ref a_ms, .ref a_mw, .ref a_mv, .ref a_mp, .ref a_mf, .int m_chg, .int m_thr, .int m_rea, .int m_det, .int m_ref, .int m_err, .int m_ans, .int m_sav, .int m_net, .ref a_ml, .int m_lin, .ref a_mt, .ref a_mc, .int m_tap, .int m_her, .int m_cmd]))] H) (hS : va_S A s.heap H locs) (ls : Array Slot) (hl : lv_has ls 1 [(0, .ref a_m)]) (h : fX8_errorPosition_13 m_err x1 m_thr = some r) : W p l e ({ frames := 1, cells := 0, slots := 0, locals := 22 } : Room) s m args below meth c H locs 0 0 Q (F0 m 13 ls [.int x1, .ref a_m]) := by
  have hx := C.1
  have hb := C.2.1
  obtain ⟨hP, hD⟩ := hPD
  unfold fX8_errorPosition_13 at h
  refine lv_iconst (v := 1) hx hb dX8_errorPosition_13 (by decide) ?_
  replace h := bnd h; obtain ⟨q2, e3, h⟩ := h
  refine wrVi (ws1 := [(a_m, .inr (8, [.ref a_ms, .ref a_mw, .ref a_mv, .ref a_mp, .ref a_mf, .int m_chg, .int q2.2, .int m_rea, .int m_det, .int m_ref, .int m_err, .int m_ans, .int m_sav, .int m_net, .ref a_ml, .int m_lin, .ref a_mt, .ref a_mc, .int m_tap, .int m_her, .int m_cmd]))]) C hE hP hD hS hA (kX8_isThrown l D T a_m a_ms a_mw a_mv a_mp a_mf a_ml a_mt a_mc m_chg m_thr m_rea m_det m_ref m_err m_ans m_sav m_net m_lin m_tap m_her m_cmd x1 1 _ q2 e3) mX8_isThrown qLX8_80 [0] [] 0 rfl rfl rfl rfl rfl rfl rfl rfl rfl ⟨rfl, rfl⟩ ⟨Nat.le_of_ble_eq_true rfl, Nat.le_of_ble_eq_true rfl⟩ rfl hl.1 rfl (Nat.le_of_ble_eq_true rfl) dX8_errorPosition_14 ⟨Nat.le_of_ble_eq_true rfl, Nat.le_of_ble_eq_true rfl⟩ ?_; clear hP hD hS; intro H locs hP hD hS
  refine lv_if_eq (tgt := 24) hx hb dX8_errorPosition_17 (by decide) (fun c4 => ?_) (fun c4 => ?_)
  · replace h := ite_t c4 h
    refine lv_aload_n hx hb dX8_errorPosition_24 rfl (lv_at hl 0 rfl) ?_
    refine getF (q0 := 0) (k0 := 10) (v := .int m_err) C hE hP inA8 rfl rfl (by decide) qFX8_29 rfl rfl dX8_errorPosition_25 ?_
    replace h := Option.some.inj h
    exact hret _ _ _ _ _ _ dX8_errorPosition_28 rfl (by rw [← h] <;> rfl) (by rw [← h]; exact hP) hS
  · replace h := ite_f c4 h
    refine lv_iconst (v := 0) hx hb dX8_errorPosition_20 (by decide) ?_
    refine lv_goto (tgt := 28) hx hb dX8_errorPosition_21 (by decide) ?_
    replace h := Option.some.inj h
    exact hret _ _ _ _ _ _ dX8_errorPosition_28 rfl (by rw [← h] <;> rfl) (by rw [← h]; exact hP) hS
set_option maxHeartbeats 4000000 in
set_option maxRecDepth 100000 in
theorem kX8_errorPosition (l : Launch) (D : va_G) (T : Nat → ClassId) (a_m a_ms a_mw a_mv a_mp a_mf a_ml a_mt a_mc : Nat) (m_chg : Int32) (m_thr : Int32) (m_rea : Int32) (m_det : Int32) (m_ref : Int32) (m_err : Int32) (m_ans : Int32) (m_sav : Int32) (m_net : Int32) (m_lin : Int32) (m_tap : Int32) (m_her : Int32) (m_cmd : Int32) (sz : Nat) (r : Int32 × Int32) (h : fX8_errorPosition m_thr m_err = some r) : WrI l yX8_errorPosition cX8_errorPosition 1 .int ({ frames := 1, cells := 0, slots := 0, locals := 22 } : Room) D T sz [(a_m, .inr (8, [.ref a_ms, .ref a_mw, .ref a_mv, .ref a_mp, .ref a_mf, .int m_chg, .int m_thr, .int m_rea, .int m_det, .int m_ref, .int m_err, .int m_ans, .int m_sav, .int m_net, .ref a_ml, .int m_lin, .ref a_mt, .ref a_mc, .int m_tap, .int m_her, .int m_cmd]))] [(a_m, .inr (8, [.ref a_ms, .ref a_mw, .ref a_mv, .ref a_mp, .ref a_mf, .int m_chg, .int r.2, .int m_rea, .int m_det, .int m_ref, .int m_err, .int m_ans, .int m_sav, .int m_net, .ref a_ml, .int m_lin, .ref a_mt, .ref a_mc, .int m_tap, .int m_her, .int m_cmd]))] [.ref a_m] r.1 := by
  unfold fX8_errorPosition at h
  refine wrMet (by decide +kernel) rfl (fun p e s m args below meth c Q A C hE hA hP hD hS hret ls hl => ?_)
  have hx := C.1
  have hb := C.2.1
  have hl : lv_has ls 1 [(0, .ref a_m)] := hl
  refine lv_aload_n hx hb dX8_errorPosition_0 rfl (lv_at hl 0 rfl) ?_
  refine lv_aload_n hx hb dX8_errorPosition_1 rfl (lv_at hl 0 rfl) ?_
  refine getF (q0 := 0) (k0 := 10) (v := .int m_err) C hE hP inA8 rfl rfl (by decide) qFX8_29 rfl rfl dX8_errorPosition_2 ?_
  refine lv_if_ge (tgt := 12) hx hb dX8_errorPosition_5 (by decide) (fun c1 => ?_) (fun c1 => ?_)
  · rw [if_pos c1] at h
    refine lv_iconst (v := 0) hx hb dX8_errorPosition_12 (by decide) ?_
    exact lX8_errorPosition_13 C hE hA hret 0 m_thr ⟨hP, hD⟩ hS _ (lv_sub hl [0] rfl) h
  · rw [if_neg c1] at h
    refine lv_iconst (v := 1) hx hb dX8_errorPosition_8 (by decide) ?_
    refine lv_goto (tgt := 13) hx hb dX8_errorPosition_9 (by decide) ?_
    exact lX8_errorPosition_13 C hE hA hret 1 m_thr ⟨hP, hD⟩ hS _ (lv_sub hl [0] rfl) h

def fX8_reason_35 (m_rea : Int32) (m_det : Int32) (m_ref : Int32) (x1 : Int32) (l1 : Int32) (m_thr : Int32) : Option (Int32 × Int32) :=
  (fX8_isThrown m_thr x1 2).bind fun q6 =>
  if q6.1 = 0 then
    if l1 = 0 then
      some (m_rea, q6.2)
    else
      if l1 = 1 then
        some (m_det, q6.2)
      else
        some (m_ref, q6.2)
  else
    some (0, q6.2)
def fX8_reason_15 (m_rea : Int32) (m_det : Int32) (m_ref : Int32) (x1 : Int32) (l1 : Int32) (m_thr : Int32) : Option (Int32 × Int32) :=
  (fX8_isThrown m_thr x1 1).bind fun q2 =>
  if q2.1 = 0 then
    fX8_reason_35 m_rea m_det m_ref (if m_rea = 0 then 1 else 0) l1 q2.2
  else
    some (0, q2.2)
def fX8_reason (m_thr : Int32) (m_rea : Int32) (m_det : Int32) (m_ref : Int32) (p0 : Int32) : Option (Int32 × Int32) :=
  fX8_reason_15 m_rea m_det m_ref (if (fX8_isIn p0 0 2) = 0 then 1 else 0) p0 m_thr
set_option maxHeartbeats 4000000 in
set_option maxRecDepth 100000 in
theorem lX8_reason_35 {p : Program} {l : Launch} {e : Env} {s : State} {m : MethodId} {args : Array Value} {below : List Frame} {meth : Method} {c : Code} {Q : State → Prop} {D : va_G} {T : Nat → ClassId} {a_m a_ms a_mw a_mv a_mp a_mf a_ml a_mt a_mc : Nat} {m_chg : Int32} {m_rea : Int32} {m_det : Int32} {m_ref : Int32} {m_err : Int32} {m_ans : Int32} {m_sav : Int32} {m_net : Int32} {m_lin : Int32} {m_tap : Int32} {m_her : Int32} {m_cmd : Int32} {A : Nat → Prop} {r : Int32 × Int32} (C : CallFix p m c cX8_reason 2 s args aw RX8) (hE : eK D T s) (hA : ∀ q : Nat, s.heap.size ≤ q → A q) (hret : WrRet p l e ({ frames := 1, cells := 0, slots := 0, locals := 22 } : Room) s m args below meth c Q cX8_reason .int D A [(a_m, .inr (8, [.ref a_ms, .ref a_mw, .ref a_mv, .ref a_mp, .ref a_mf, .int m_chg, .int r.2, .int m_rea, .int m_det, .int m_ref, .int m_err, .int m_ans, .int m_sav, .int m_net, .ref a_ml, .int m_lin, .ref a_mt, .ref a_mc, .int m_tap, .int m_her, .int m_cmd]))] r.1) (x1 : Int32) (l1 : Int32) (m_thr : Int32) {H : Heap} {locs : List Loc} (hPD : va_PD D A [(a_m, .inr (8, [.ref a_ms, .ref a_mw, .ref a_mv, .ref a_mp, .ref a_mf, .int m_chg, .int m_thr, .int m_rea, .int m_det, .int m_ref, .int m_err, .int m_ans, .int m_sav, .int m_net, .ref a_ml, .int m_lin, .ref a_mt, .ref a_mc, .int m_tap, .int m_her, .int m_cmd]))] H) (hS : va_S A s.heap H locs) (ls : Array Slot) (hl : lv_has ls 2 [(0, .ref a_m), (1, .int l1)]) (h : fX8_reason_35 m_rea m_det m_ref x1 l1 m_thr = some r) : W p l e ({ frames := 1, cells := 0, slots := 0, locals := 22 } : Room) s m args below meth c H locs 0 0 Q (F0 m 35 ls [.int x1, .ref a_m]) := by
  have hx := C.1
  have hb := C.2.1
  obtain ⟨hP, hD⟩ := hPD
  unfold fX8_reason_35 at h
  refine lv_iconst (v := 2) hx hb dX8_reason_35 (by decide) ?_
  replace h := bnd h; obtain ⟨q6, e7, h⟩ := h
  refine wrVi (ws1 := [(a_m, .inr (8, [.ref a_ms, .ref a_mw, .ref a_mv, .ref a_mp, .ref a_mf, .int m_chg, .int q6.2, .int m_rea, .int m_det, .int m_ref, .int m_err, .int m_ans, .int m_sav, .int m_net, .ref a_ml, .int m_lin, .ref a_mt, .ref a_mc, .int m_tap, .int m_her, .int m_cmd]))]) C hE hP hD hS hA (kX8_isThrown l D T a_m a_ms a_mw a_mv a_mp a_mf a_ml a_mt a_mc m_chg m_thr m_rea m_det m_ref m_err m_ans m_sav m_net m_lin m_tap m_her m_cmd x1 2 _ q6 e7) mX8_isThrown qLX8_80 [0] [] 0 rfl rfl rfl rfl rfl rfl rfl rfl rfl ⟨rfl, rfl⟩ ⟨Nat.le_of_ble_eq_true rfl, Nat.le_of_ble_eq_true rfl⟩ rfl hl.1 rfl (Nat.le_of_ble_eq_true rfl) dX8_reason_36 ⟨Nat.le_of_ble_eq_true rfl, Nat.le_of_ble_eq_true rfl⟩ ?_; clear hP hD hS; intro H locs hP hD hS
  refine lv_if_eq (tgt := 44) hx hb dX8_reason_39 (by decide) (fun c8 => ?_) (fun c8 => ?_)
  · replace h := ite_t c8 h
    refine lv_iload_n hx hb dX8_reason_44 rfl (lv_at hl 1 rfl) ?_
    refine lv_if_ne (tgt := 55) hx hb dX8_reason_45 (by decide) (fun c9 => ?_) (fun c9 => ?_)
    · replace h := ite_f c9 h
      refine lv_iload_n hx hb dX8_reason_55 rfl (lv_at hl 1 rfl) ?_
      refine lv_iconst (v := 1) hx hb dX8_reason_56 (by decide) ?_
      refine lv_icmp_ne (tgt := 67) hx hb dX8_reason_57 (by decide) (fun c10 => ?_) (fun c10 => ?_)
      · replace h := ite_f c10 h
        refine lv_aload_n hx hb dX8_reason_67 rfl (lv_at hl 0 rfl) ?_
        refine getF (q0 := 0) (k0 := 9) (v := .int m_ref) C hE hP inA8 rfl rfl (by decide) qFX8_25 rfl rfl dX8_reason_68 ?_
        replace h := Option.some.inj h
        exact hret _ _ _ _ _ _ dX8_reason_71 rfl (by rw [← h] <;> rfl) (by rw [← h]; exact hP) hS
      · replace h := ite_t c10 h
        refine lv_aload_n hx hb dX8_reason_60 rfl (lv_at hl 0 rfl) ?_
        refine getF (q0 := 0) (k0 := 8) (v := .int m_det) C hE hP inA8 rfl rfl (by decide) qFX8_57 rfl rfl dX8_reason_61 ?_
        refine lv_goto (tgt := 71) hx hb dX8_reason_64 (by decide) ?_
        replace h := Option.some.inj h
        exact hret _ _ _ _ _ _ dX8_reason_71 rfl (by rw [← h] <;> rfl) (by rw [← h]; exact hP) hS
    · replace h := ite_t c9 h
      refine lv_aload_n hx hb dX8_reason_48 rfl (lv_at hl 0 rfl) ?_
      refine getF (q0 := 0) (k0 := 7) (v := .int m_rea) C hE hP inA8 rfl rfl (by decide) qFX8_54 rfl rfl dX8_reason_49 ?_
      refine lv_goto (tgt := 71) hx hb dX8_reason_52 (by decide) ?_
      replace h := Option.some.inj h
      exact hret _ _ _ _ _ _ dX8_reason_71 rfl (by rw [← h] <;> rfl) (by rw [← h]; exact hP) hS
  · replace h := ite_f c8 h
    refine lv_iconst (v := 0) hx hb dX8_reason_42 (by decide) ?_
    replace h := Option.some.inj h
    exact hret _ _ _ _ _ _ dX8_reason_43 rfl (by rw [← h] <;> rfl) (by rw [← h]; exact hP) hS
set_option maxHeartbeats 4000000 in
set_option maxRecDepth 100000 in
theorem lX8_reason_15 {p : Program} {l : Launch} {e : Env} {s : State} {m : MethodId} {args : Array Value} {below : List Frame} {meth : Method} {c : Code} {Q : State → Prop} {D : va_G} {T : Nat → ClassId} {a_m a_ms a_mw a_mv a_mp a_mf a_ml a_mt a_mc : Nat} {m_chg : Int32} {m_rea : Int32} {m_det : Int32} {m_ref : Int32} {m_err : Int32} {m_ans : Int32} {m_sav : Int32} {m_net : Int32} {m_lin : Int32} {m_tap : Int32} {m_her : Int32} {m_cmd : Int32} {A : Nat → Prop} {r : Int32 × Int32} (C : CallFix p m c cX8_reason 2 s args aw RX8) (hE : eK D T s) (hA : ∀ q : Nat, s.heap.size ≤ q → A q) (hret : WrRet p l e ({ frames := 1, cells := 0, slots := 0, locals := 22 } : Room) s m args below meth c Q cX8_reason .int D A [(a_m, .inr (8, [.ref a_ms, .ref a_mw, .ref a_mv, .ref a_mp, .ref a_mf, .int m_chg, .int r.2, .int m_rea, .int m_det, .int m_ref, .int m_err, .int m_ans, .int m_sav, .int m_net, .ref a_ml, .int m_lin, .ref a_mt, .ref a_mc, .int m_tap, .int m_her, .int m_cmd]))] r.1) (x1 : Int32) (l1 : Int32) (m_thr : Int32) {H : Heap} {locs : List Loc} (hPD : va_PD D A [(a_m, .inr (8, [.ref a_ms, .ref a_mw, .ref a_mv, .ref a_mp, .ref a_mf, .int m_chg, .int m_thr, .int m_rea, .int m_det, .int m_ref, .int m_err, .int m_ans, .int m_sav, .int m_net, .ref a_ml, .int m_lin, .ref a_mt, .ref a_mc, .int m_tap, .int m_her, .int m_cmd]))] H) (hS : va_S A s.heap H locs) (ls : Array Slot) (hl : lv_has ls 2 [(0, .ref a_m), (1, .int l1)]) (h : fX8_reason_15 m_rea m_det m_ref x1 l1 m_thr = some r) : W p l e ({ frames := 1, cells := 0, slots := 0, locals := 22 } : Room) s m args below meth c H locs 0 0 Q (F0 m 15 ls [.int x1, .ref a_m]) := by
  have hx := C.1
  have hb := C.2.1
  obtain ⟨hP, hD⟩ := hPD
  unfold fX8_reason_15 at h
  refine lv_iconst (v := 1) hx hb dX8_reason_15 (by decide) ?_
  replace h := bnd h; obtain ⟨q2, e3, h⟩ := h
  refine wrVi (ws1 := [(a_m, .inr (8, [.ref a_ms, .ref a_mw, .ref a_mv, .ref a_mp, .ref a_mf, .int m_chg, .int q2.2, .int m_rea, .int m_det, .int m_ref, .int m_err, .int m_ans, .int m_sav, .int m_net, .ref a_ml, .int m_lin, .ref a_mt, .ref a_mc, .int m_tap, .int m_her, .int m_cmd]))]) C hE hP hD hS hA (kX8_isThrown l D T a_m a_ms a_mw a_mv a_mp a_mf a_ml a_mt a_mc m_chg m_thr m_rea m_det m_ref m_err m_ans m_sav m_net m_lin m_tap m_her m_cmd x1 1 _ q2 e3) mX8_isThrown qLX8_80 [0] [] 0 rfl rfl rfl rfl rfl rfl rfl rfl rfl ⟨rfl, rfl⟩ ⟨Nat.le_of_ble_eq_true rfl, Nat.le_of_ble_eq_true rfl⟩ rfl hl.1 rfl (Nat.le_of_ble_eq_true rfl) dX8_reason_16 ⟨Nat.le_of_ble_eq_true rfl, Nat.le_of_ble_eq_true rfl⟩ ?_; clear hP hD hS; intro H locs hP hD hS
  refine lv_if_ne (tgt := 42) hx hb dX8_reason_19 (by decide) (fun c4 => ?_) (fun c4 => ?_)
  · replace h := ite_f c4 h
    refine lv_iconst (v := 0) hx hb dX8_reason_42 (by decide) ?_
    replace h := Option.some.inj h
    exact hret _ _ _ _ _ _ dX8_reason_43 rfl (by rw [← h] <;> rfl) (by rw [← h]; exact hP) hS
  · replace h := ite_t c4 h
    refine lv_aload_n hx hb dX8_reason_22 rfl (lv_at hl 0 rfl) ?_
    refine lv_aload_n hx hb dX8_reason_23 rfl (lv_at hl 0 rfl) ?_
    refine getF (q0 := 0) (k0 := 7) (v := .int m_rea) C hE hP inA8 rfl rfl (by decide) qFX8_54 rfl rfl dX8_reason_24 ?_
    refine lv_if_ne (tgt := 34) hx hb dX8_reason_27 (by decide) (fun c5 => ?_) (fun c5 => ?_)
    · rw [if_neg c5] at h
      refine lv_iconst (v := 0) hx hb dX8_reason_34 (by decide) ?_
      exact lX8_reason_35 C hE hA hret 0 l1 q2.2 ⟨hP, hD⟩ hS _ (lv_sub hl [0, 1] rfl) h
    · rw [if_pos c5] at h
      refine lv_iconst (v := 1) hx hb dX8_reason_30 (by decide) ?_
      refine lv_goto (tgt := 35) hx hb dX8_reason_31 (by decide) ?_
      exact lX8_reason_35 C hE hA hret 1 l1 q2.2 ⟨hP, hD⟩ hS _ (lv_sub hl [0, 1] rfl) h
set_option maxHeartbeats 4000000 in
set_option maxRecDepth 100000 in
theorem kX8_reason (l : Launch) (D : va_G) (T : Nat → ClassId) (a_m a_ms a_mw a_mv a_mp a_mf a_ml a_mt a_mc : Nat) (m_chg : Int32) (m_thr : Int32) (m_rea : Int32) (m_det : Int32) (m_ref : Int32) (m_err : Int32) (m_ans : Int32) (m_sav : Int32) (m_net : Int32) (m_lin : Int32) (m_tap : Int32) (m_her : Int32) (m_cmd : Int32) (p0 : Int32) (sz : Nat) (r : Int32 × Int32) (h : fX8_reason m_thr m_rea m_det m_ref p0 = some r) : WrI l yX8_reason cX8_reason 2 .int ({ frames := 1, cells := 0, slots := 0, locals := 22 } : Room) D T sz [(a_m, .inr (8, [.ref a_ms, .ref a_mw, .ref a_mv, .ref a_mp, .ref a_mf, .int m_chg, .int m_thr, .int m_rea, .int m_det, .int m_ref, .int m_err, .int m_ans, .int m_sav, .int m_net, .ref a_ml, .int m_lin, .ref a_mt, .ref a_mc, .int m_tap, .int m_her, .int m_cmd]))] [(a_m, .inr (8, [.ref a_ms, .ref a_mw, .ref a_mv, .ref a_mp, .ref a_mf, .int m_chg, .int r.2, .int m_rea, .int m_det, .int m_ref, .int m_err, .int m_ans, .int m_sav, .int m_net, .ref a_ml, .int m_lin, .ref a_mt, .ref a_mc, .int m_tap, .int m_her, .int m_cmd]))] [.ref a_m, .int p0] r.1 := by
  unfold fX8_reason at h
  refine wrMet (by decide +kernel) rfl (fun p e s m args below meth c Q A C hE hA hP hD hS hret ls hl => ?_)
  have hx := C.1
  have hb := C.2.1
  have hl : lv_has ls 2 [(0, .ref a_m), (1, .int p0)] := hl
  refine lv_aload_n hx hb dX8_reason_0 rfl (lv_at hl 0 rfl) ?_
  refine lv_iload_n hx hb dX8_reason_1 rfl (lv_at hl 1 rfl) ?_
  refine lv_iconst (v := 0) hx hb dX8_reason_2 (by decide) ?_
  refine lv_iconst (v := 2) hx hb dX8_reason_3 (by decide) ?_
  refine rdS C hE hP (kX8_isIn l D T p0 0 2) mX8_isIn qLX8_60 [] rfl ⟨rfl, rfl⟩ ⟨Nat.le_of_ble_eq_true rfl, Nat.le_of_ble_eq_true rfl⟩ rfl hl.1 rfl (Nat.le_of_ble_eq_true rfl) dX8_reason_4 ⟨Nat.le_of_ble_eq_true rfl, Nat.le_of_ble_eq_true rfl⟩ ?_
  refine lv_if_ne (tgt := 14) hx hb dX8_reason_7 (by decide) (fun c1 => ?_) (fun c1 => ?_)
  · rw [if_neg c1] at h
    refine lv_iconst (v := 0) hx hb dX8_reason_14 (by decide) ?_
    exact lX8_reason_15 C hE hA hret 0 p0 m_thr ⟨hP, hD⟩ hS _ (lv_sub hl [0, 1] rfl) h
  · rw [if_pos c1] at h
    refine lv_iconst (v := 1) hx hb dX8_reason_10 (by decide) ?_
    refine lv_goto (tgt := 15) hx hb dX8_reason_11 (by decide) ?_
    exact lX8_reason_15 C hE hA hret 1 p0 m_thr ⟨hP, hD⟩ hS _ (lv_sub hl [0, 1] rfl) h

def fX8_undo_13 (v_mp : Nat → Int32) (x1 : Int32) (m_chg : Int32) (m_thr : Int32) (v_ms : Nat → Int32) : Option (Int32 × Int32 × Int32 × (Nat → Int32)) :=
  (fX8_isThrown m_thr x1 1).bind fun q2 =>
  if q2.1 = 0 then
    (fX8_copies 618 v_mp 103 v_ms (103 * (m_chg - 1)) 0).bind fun q5 =>
    some ((m_chg - 1), (m_chg - 1), q2.2, q5)
  else
    some (0, m_chg, q2.2, v_ms)
def fX8_undo (m_chg : Int32) (m_thr : Int32) (v_ms : Nat → Int32) (v_mp : Nat → Int32) : Option (Int32 × Int32 × Int32 × (Nat → Int32)) :=
  fX8_undo_13 v_mp (if m_chg = 0 then 1 else 0) m_chg m_thr v_ms
set_option maxHeartbeats 4000000 in
set_option maxRecDepth 100000 in
theorem lX8_undo_13 {p : Program} {l : Launch} {e : Env} {s : State} {m : MethodId} {args : Array Value} {below : List Frame} {meth : Method} {c : Code} {Q : State → Prop} {D : va_G} {T : Nat → ClassId} {a_m a_ms a_mw a_mv a_mp a_mf a_ml a_mt a_mc : Nat} {m_rea : Int32} {m_det : Int32} {m_ref : Int32} {m_err : Int32} {m_ans : Int32} {m_sav : Int32} {m_net : Int32} {m_lin : Int32} {m_tap : Int32} {m_her : Int32} {m_cmd : Int32} {v_mp : Nat → Int32} {A : Nat → Prop} {r : Int32 × Int32 × Int32 × (Nat → Int32)} (C : CallFix p m c cX8_undo 1 s args aw RX8) (hE : eK D T s) (hA : ∀ q : Nat, s.heap.size ≤ q → A q) (hret : WrRet p l e ({ frames := 1, cells := 0, slots := 0, locals := 24 } : Room) s m args below meth c Q cX8_undo .int D A [(a_m, .inr (8, [.ref a_ms, .ref a_mw, .ref a_mv, .ref a_mp, .ref a_mf, .int r.2.1, .int r.2.2.1, .int m_rea, .int m_det, .int m_ref, .int m_err, .int m_ans, .int m_sav, .int m_net, .ref a_ml, .int m_lin, .ref a_mt, .ref a_mc, .int m_tap, .int m_her, .int m_cmd])), (a_ms, .inl (T 0, 103, .inl r.2.2.2)), (a_mp, .inl (T 0, 618, .inl v_mp))] r.1) (x1 : Int32) (m_chg : Int32) (m_thr : Int32) (v_ms : Nat → Int32) {H : Heap} {locs : List Loc} (hPD : va_PD D A [(a_m, .inr (8, [.ref a_ms, .ref a_mw, .ref a_mv, .ref a_mp, .ref a_mf, .int m_chg, .int m_thr, .int m_rea, .int m_det, .int m_ref, .int m_err, .int m_ans, .int m_sav, .int m_net, .ref a_ml, .int m_lin, .ref a_mt, .ref a_mc, .int m_tap, .int m_her, .int m_cmd])), (a_ms, .inl (T 0, 103, .inl v_ms)), (a_mp, .inl (T 0, 618, .inl v_mp))] H) (hS : va_S A s.heap H locs) (ls : Array Slot) (hl : lv_has ls 1 [(0, .ref a_m)]) (h : fX8_undo_13 v_mp x1 m_chg m_thr v_ms = some r) : W p l e ({ frames := 1, cells := 0, slots := 0, locals := 24 } : Room) s m args below meth c H locs 0 0 Q (F0 m 13 ls [.int x1, .ref a_m]) := by
  have hx := C.1
  have hb := C.2.1
  obtain ⟨hP, hD⟩ := hPD
  unfold fX8_undo_13 at h
  refine lv_iconst (v := 1) hx hb dX8_undo_13 (by decide) ?_
  replace h := bnd h; obtain ⟨q2, e3, h⟩ := h
  refine wrVi (ws1 := [(a_m, .inr (8, [.ref a_ms, .ref a_mw, .ref a_mv, .ref a_mp, .ref a_mf, .int m_chg, .int q2.2, .int m_rea, .int m_det, .int m_ref, .int m_err, .int m_ans, .int m_sav, .int m_net, .ref a_ml, .int m_lin, .ref a_mt, .ref a_mc, .int m_tap, .int m_her, .int m_cmd])), (a_ms, .inl (T 0, 103, .inl v_ms)), (a_mp, .inl (T 0, 618, .inl v_mp))]) C hE hP hD hS hA (kX8_isThrown l D T a_m a_ms a_mw a_mv a_mp a_mf a_ml a_mt a_mc m_chg m_thr m_rea m_det m_ref m_err m_ans m_sav m_net m_lin m_tap m_her m_cmd x1 1 _ q2 e3) mX8_isThrown qLX8_80 [0] [1, 2] 0 rfl rfl rfl rfl rfl rfl rfl rfl rfl ⟨rfl, rfl⟩ ⟨Nat.le_of_ble_eq_true rfl, Nat.le_of_ble_eq_true rfl⟩ rfl hl.1 rfl (Nat.le_of_ble_eq_true rfl) dX8_undo_14 ⟨Nat.le_of_ble_eq_true rfl, Nat.le_of_ble_eq_true rfl⟩ ?_; clear hP hD hS; intro H locs hP hD hS
  refine lv_if_eq (tgt := 22) hx hb dX8_undo_17 (by decide) (fun c4 => ?_) (fun c4 => ?_)
  · replace h := ite_t c4 h
    refine lv_aload_n hx hb dX8_undo_22 rfl (lv_at hl 0 rfl) ?_
    refine lv_dup hx hb dX8_undo_23 rfl ?_
    refine getF (q0 := 0) (k0 := 5) (v := .int m_chg) C hE hP inA8 rfl rfl (by decide) qFX8_48 rfl rfl dX8_undo_24 ?_
    refine lv_iconst (v := 1) hx hb dX8_undo_27 (by decide) ?_
    refine lv_isub hx hb dX8_undo_28 ?_
    refine putF (q0 := 0) (k0 := 5) (ws1 := [(a_m, .inr (8, [.ref a_ms, .ref a_mw, .ref a_mv, .ref a_mp, .ref a_mf, .int (m_chg - 1), .int q2.2, .int m_rea, .int m_det, .int m_ref, .int m_err, .int m_ans, .int m_sav, .int m_net, .ref a_ml, .int m_lin, .ref a_mt, .ref a_mc, .int m_tap, .int m_her, .int m_cmd])), (a_ms, .inl (T 0, 103, .inl v_ms)), (a_mp, .inl (T 0, 618, .inl v_mp))]) C hE hP hD hS inA8 tyX8_ok nmX8 rfl rfl (by decide) qFX8_48 rfl rfl rfl rfl (Nat.le_of_ble_eq_true rfl) rfl dX8_undo_29 ?_; clear hP hD hS; intro H locs hP hD hS
    refine lv_aload_n hx hb dX8_undo_32 rfl (lv_at hl 0 rfl) ?_
    refine getF (q0 := 0) (k0 := 3) (v := .ref a_mp) C hE hP inA8 rfl rfl (by decide) qFX8_19 rfl rfl dX8_undo_33 ?_
    refine lv_bipush (v := 103) hx hb dX8_undo_36 (by decide) ?_
    refine lv_aload_n hx hb dX8_undo_38 rfl (lv_at hl 0 rfl) ?_
    refine getF (q0 := 0) (k0 := 5) (v := .int (m_chg - 1)) C hE hP inA8 rfl rfl (by decide) qFX8_48 rfl rfl dX8_undo_39 ?_
    refine lv_imul hx hb dX8_undo_42 ?_
    refine lv_aload_n hx hb dX8_undo_43 rfl (lv_at hl 0 rfl) ?_
    refine getF (q0 := 0) (k0 := 0) (v := .ref a_ms) C hE hP inA8 rfl rfl (by decide) qFX8_9 rfl rfl dX8_undo_44 ?_
    refine lv_iconst (v := 0) hx hb dX8_undo_47 (by decide) ?_
    replace h := bnd h; obtain ⟨q5, e6, h⟩ := h
    refine wrSv (ws1 := [(a_m, .inr (8, [.ref a_ms, .ref a_mw, .ref a_mv, .ref a_mp, .ref a_mf, .int (m_chg - 1), .int q2.2, .int m_rea, .int m_det, .int m_ref, .int m_err, .int m_ans, .int m_sav, .int m_net, .ref a_ml, .int m_lin, .ref a_mt, .ref a_mc, .int m_tap, .int m_her, .int m_cmd])), (a_ms, .inl (T 0, 103, .inl q5)), (a_mp, .inl (T 0, 618, .inl v_mp))]) C hE hP hD hS hA (kX8_copies l D T a_mp a_ms 618 v_mp 103 v_ms (103 * (m_chg - 1)) 0 _ q5 e6) mX8_copies qLX8_44 [2, 1] [0] rfl rfl rfl rfl rfl rfl ⟨rfl, rfl⟩ ⟨Nat.le_of_ble_eq_true rfl, Nat.le_of_ble_eq_true rfl⟩ rfl hl.1 rfl (Nat.le_of_ble_eq_true rfl) dX8_undo_48 ⟨Nat.le_of_ble_eq_true rfl, Nat.le_of_ble_eq_true rfl⟩ ?_; clear hP hD hS; intro H locs hP hD hS
    refine lv_aload_n hx hb dX8_undo_51 rfl (lv_at hl 0 rfl) ?_
    refine getF (q0 := 0) (k0 := 5) (v := .int (m_chg - 1)) C hE hP inA8 rfl rfl (by decide) qFX8_48 rfl rfl dX8_undo_52 ?_
    replace h := Option.some.inj h
    exact hret _ _ _ _ _ _ dX8_undo_55 rfl (by rw [← h] <;> rfl) (by rw [← h]; exact hP) hS
  · replace h := ite_f c4 h
    refine lv_iconst (v := 0) hx hb dX8_undo_20 (by decide) ?_
    replace h := Option.some.inj h
    exact hret _ _ _ _ _ _ dX8_undo_21 rfl (by rw [← h] <;> rfl) (by rw [← h]; exact hP) hS
set_option maxHeartbeats 4000000 in
set_option maxRecDepth 100000 in
theorem kX8_undo (l : Launch) (D : va_G) (T : Nat → ClassId) (a_m a_ms a_mw a_mv a_mp a_mf a_ml a_mt a_mc : Nat) (m_chg : Int32) (m_thr : Int32) (m_rea : Int32) (m_det : Int32) (m_ref : Int32) (m_err : Int32) (m_ans : Int32) (m_sav : Int32) (m_net : Int32) (m_lin : Int32) (m_tap : Int32) (m_her : Int32) (m_cmd : Int32) (v_ms : Nat → Int32) (v_mp : Nat → Int32) (sz : Nat) (r : Int32 × Int32 × Int32 × (Nat → Int32)) (h : fX8_undo m_chg m_thr v_ms v_mp = some r) : WrI l yX8_undo cX8_undo 1 .int ({ frames := 1, cells := 0, slots := 0, locals := 24 } : Room) D T sz [(a_m, .inr (8, [.ref a_ms, .ref a_mw, .ref a_mv, .ref a_mp, .ref a_mf, .int m_chg, .int m_thr, .int m_rea, .int m_det, .int m_ref, .int m_err, .int m_ans, .int m_sav, .int m_net, .ref a_ml, .int m_lin, .ref a_mt, .ref a_mc, .int m_tap, .int m_her, .int m_cmd])), (a_ms, .inl (T 0, 103, .inl v_ms)), (a_mp, .inl (T 0, 618, .inl v_mp))] [(a_m, .inr (8, [.ref a_ms, .ref a_mw, .ref a_mv, .ref a_mp, .ref a_mf, .int r.2.1, .int r.2.2.1, .int m_rea, .int m_det, .int m_ref, .int m_err, .int m_ans, .int m_sav, .int m_net, .ref a_ml, .int m_lin, .ref a_mt, .ref a_mc, .int m_tap, .int m_her, .int m_cmd])), (a_ms, .inl (T 0, 103, .inl r.2.2.2)), (a_mp, .inl (T 0, 618, .inl v_mp))] [.ref a_m] r.1 := by
  unfold fX8_undo at h
  refine wrMet (by decide +kernel) rfl (fun p e s m args below meth c Q A C hE hA hP hD hS hret ls hl => ?_)
  have hx := C.1
  have hb := C.2.1
  have hl : lv_has ls 1 [(0, .ref a_m)] := hl
  refine lv_aload_n hx hb dX8_undo_0 rfl (lv_at hl 0 rfl) ?_
  refine lv_aload_n hx hb dX8_undo_1 rfl (lv_at hl 0 rfl) ?_
  refine getF (q0 := 0) (k0 := 5) (v := .int m_chg) C hE hP inA8 rfl rfl (by decide) qFX8_48 rfl rfl dX8_undo_2 ?_
  refine lv_if_ne (tgt := 12) hx hb dX8_undo_5 (by decide) (fun c1 => ?_) (fun c1 => ?_)
  · rw [if_neg c1] at h
    refine lv_iconst (v := 0) hx hb dX8_undo_12 (by decide) ?_
    exact lX8_undo_13 C hE hA hret 0 m_chg m_thr v_ms ⟨hP, hD⟩ hS _ (lv_sub hl [0] rfl) h
  · rw [if_pos c1] at h
    refine lv_iconst (v := 1) hx hb dX8_undo_8 (by decide) ?_
    refine lv_goto (tgt := 13) hx hb dX8_undo_9 (by decide) ?_
    exact lX8_undo_13 C hE hA hret 1 m_chg m_thr v_ms ⟨hP, hD⟩ hS _ (lv_sub hl [0] rfl) h

def fX8_save (m_thr : Int32) (m_sav : Int32) (v_ms : Nat → Int32) (v_mv : Nat → Int32) : Option (Int32 × Int32 × Int32 × (Nat → Int32)) :=
  (fX8_copies 103 v_ms 103 v_mv 0 0).bind fun q1 =>
  if vin 1 103 = true then
  some ((v_ms (1 : Int32).toNatClampNeg), 0, 1, q1)
  else none
set_option maxHeartbeats 4000000 in
set_option maxRecDepth 100000 in
theorem kX8_save (l : Launch) (D : va_G) (T : Nat → ClassId) (a_m a_ms a_mw a_mv a_mp a_mf a_ml a_mt a_mc : Nat) (m_chg : Int32) (m_thr : Int32) (m_rea : Int32) (m_det : Int32) (m_ref : Int32) (m_err : Int32) (m_ans : Int32) (m_sav : Int32) (m_net : Int32) (m_lin : Int32) (m_tap : Int32) (m_her : Int32) (m_cmd : Int32) (v_ms : Nat → Int32) (v_mv : Nat → Int32) (sz : Nat) (r : Int32 × Int32 × Int32 × (Nat → Int32)) (h : fX8_save m_thr m_sav v_ms v_mv = some r) : WrI l yX8_save cX8_save 1 .int ({ frames := 1, cells := 0, slots := 0, locals := 24 } : Room) D T sz [(a_m, .inr (8, [.ref a_ms, .ref a_mw, .ref a_mv, .ref a_mp, .ref a_mf, .int m_chg, .int m_thr, .int m_rea, .int m_det, .int m_ref, .int m_err, .int m_ans, .int m_sav, .int m_net, .ref a_ml, .int m_lin, .ref a_mt, .ref a_mc, .int m_tap, .int m_her, .int m_cmd])), (a_ms, .inl (T 0, 103, .inl v_ms)), (a_mv, .inl (T 0, 103, .inl v_mv))] [(a_m, .inr (8, [.ref a_ms, .ref a_mw, .ref a_mv, .ref a_mp, .ref a_mf, .int m_chg, .int r.2.1, .int m_rea, .int m_det, .int m_ref, .int m_err, .int m_ans, .int r.2.2.1, .int m_net, .ref a_ml, .int m_lin, .ref a_mt, .ref a_mc, .int m_tap, .int m_her, .int m_cmd])), (a_ms, .inl (T 0, 103, .inl v_ms)), (a_mv, .inl (T 0, 103, .inl r.2.2.2))] [.ref a_m] r.1 := by
  unfold fX8_save at h
  refine wrMet (by decide +kernel) rfl (fun p e s m args below meth c Q A C hE hA hP hD hS hret ls hl => ?_)
  have hx := C.1
  have hb := C.2.1
  have hl : lv_has ls 1 [(0, .ref a_m)] := hl
  refine lv_aload_n hx hb dX8_save_0 rfl (lv_at hl 0 rfl) ?_
  refine lv_iconst (v := 0) hx hb dX8_save_1 (by decide) ?_
  refine putF (q0 := 0) (k0 := 6) (ws1 := [(a_m, .inr (8, [.ref a_ms, .ref a_mw, .ref a_mv, .ref a_mp, .ref a_mf, .int m_chg, .int 0, .int m_rea, .int m_det, .int m_ref, .int m_err, .int m_ans, .int m_sav, .int m_net, .ref a_ml, .int m_lin, .ref a_mt, .ref a_mc, .int m_tap, .int m_her, .int m_cmd])), (a_ms, .inl (T 0, 103, .inl v_ms)), (a_mv, .inl (T 0, 103, .inl v_mv))]) C hE hP hD hS inA8 tyX8_ok nmX8 rfl rfl (by decide) qFX8_41 rfl rfl rfl rfl (Nat.le_of_ble_eq_true rfl) rfl dX8_save_2 ?_; clear hP hD hS; intro H locs hP hD hS
  refine lv_aload_n hx hb dX8_save_5 rfl (lv_at hl 0 rfl) ?_
  refine getF (q0 := 0) (k0 := 0) (v := .ref a_ms) C hE hP inA8 rfl rfl (by decide) qFX8_9 rfl rfl dX8_save_6 ?_
  refine lv_iconst (v := 0) hx hb dX8_save_9 (by decide) ?_
  refine lv_aload_n hx hb dX8_save_10 rfl (lv_at hl 0 rfl) ?_
  refine getF (q0 := 0) (k0 := 2) (v := .ref a_mv) C hE hP inA8 rfl rfl (by decide) qFX8_16 rfl rfl dX8_save_11 ?_
  refine lv_iconst (v := 0) hx hb dX8_save_14 (by decide) ?_
  replace h := bnd h; obtain ⟨q1, e2, h⟩ := h
  refine wrSv (ws1 := [(a_m, .inr (8, [.ref a_ms, .ref a_mw, .ref a_mv, .ref a_mp, .ref a_mf, .int m_chg, .int 0, .int m_rea, .int m_det, .int m_ref, .int m_err, .int m_ans, .int m_sav, .int m_net, .ref a_ml, .int m_lin, .ref a_mt, .ref a_mc, .int m_tap, .int m_her, .int m_cmd])), (a_ms, .inl (T 0, 103, .inl v_ms)), (a_mv, .inl (T 0, 103, .inl q1))]) C hE hP hD hS hA (kX8_copies l D T a_ms a_mv 103 v_ms 103 v_mv 0 0 _ q1 e2) mX8_copies qLX8_44 [1, 2] [0] rfl rfl rfl rfl rfl rfl ⟨rfl, rfl⟩ ⟨Nat.le_of_ble_eq_true rfl, Nat.le_of_ble_eq_true rfl⟩ rfl hl.1 rfl (Nat.le_of_ble_eq_true rfl) dX8_save_15 ⟨Nat.le_of_ble_eq_true rfl, Nat.le_of_ble_eq_true rfl⟩ ?_; clear hP hD hS; intro H locs hP hD hS
  refine lv_aload_n hx hb dX8_save_18 rfl (lv_at hl 0 rfl) ?_
  refine lv_iconst (v := 1) hx hb dX8_save_19 (by decide) ?_
  refine putF (q0 := 0) (k0 := 12) (ws1 := [(a_m, .inr (8, [.ref a_ms, .ref a_mw, .ref a_mv, .ref a_mp, .ref a_mf, .int m_chg, .int 0, .int m_rea, .int m_det, .int m_ref, .int m_err, .int m_ans, .int 1, .int m_net, .ref a_ml, .int m_lin, .ref a_mt, .ref a_mc, .int m_tap, .int m_her, .int m_cmd])), (a_ms, .inl (T 0, 103, .inl v_ms)), (a_mv, .inl (T 0, 103, .inl q1))]) C hE hP hD hS inA8 tyX8_ok nmX8 rfl rfl (by decide) qFX8_252 rfl rfl rfl rfl (Nat.le_of_ble_eq_true rfl) rfl dX8_save_20 ?_; clear hP hD hS; intro H locs hP hD hS
  refine lv_aload_n hx hb dX8_save_23 rfl (lv_at hl 0 rfl) ?_
  refine getF (q0 := 0) (k0 := 0) (v := .ref a_ms) C hE hP inA8 rfl rfl (by decide) qFX8_9 rfl rfl dX8_save_24 ?_
  refine lv_iconst (v := 1) hx hb dX8_save_27 (by decide) ?_
  replace h := gd h; obtain ⟨g3, h⟩ := h
  refine aldI (q0 := 1) C hE hP rfl g3 dX8_save_28 ?_
  replace h := Option.some.inj h
  exact hret _ _ _ _ _ _ dX8_save_29 rfl (by rw [← h] <;> rfl) (by rw [← h]; exact hP) hS

def fX8_restore_13 (m_sav : Int32) (v_mv : Nat → Int32) (x1 : Int32) (m_chg : Int32) (m_thr : Int32) (v_ms : Nat → Int32) : Option (Int32 × Int32 × Int32 × (Nat → Int32)) :=
  (fX8_isThrown m_thr x1 1).bind fun q2 =>
  if q2.1 = 0 then
    (fX8_copies 103 v_mv 103 v_ms 0 0).bind fun q5 =>
    if vin 1 103 = true then
    some ((q5 (1 : Int32).toNatClampNeg), 0, q2.2, q5)
    else none
  else
    some (0, m_chg, q2.2, v_ms)
def fX8_restore (m_chg : Int32) (m_thr : Int32) (m_sav : Int32) (v_ms : Nat → Int32) (v_mv : Nat → Int32) : Option (Int32 × Int32 × Int32 × (Nat → Int32)) :=
  fX8_restore_13 m_sav v_mv (if m_sav = 0 then 1 else 0) m_chg m_thr v_ms
set_option maxHeartbeats 4000000 in
set_option maxRecDepth 100000 in
theorem lX8_restore_13 {p : Program} {l : Launch} {e : Env} {s : State} {m : MethodId} {args : Array Value} {below : List Frame} {meth : Method} {c : Code} {Q : State → Prop} {D : va_G} {T : Nat → ClassId} {a_m a_ms a_mw a_mv a_mp a_mf a_ml a_mt a_mc : Nat} {m_rea : Int32} {m_det : Int32} {m_ref : Int32} {m_err : Int32} {m_ans : Int32} {m_sav : Int32} {m_net : Int32} {m_lin : Int32} {m_tap : Int32} {m_her : Int32} {m_cmd : Int32} {v_mv : Nat → Int32} {A : Nat → Prop} {r : Int32 × Int32 × Int32 × (Nat → Int32)} (C : CallFix p m c cX8_restore 1 s args aw RX8) (hE : eK D T s) (hA : ∀ q : Nat, s.heap.size ≤ q → A q) (hret : WrRet p l e ({ frames := 1, cells := 0, slots := 0, locals := 24 } : Room) s m args below meth c Q cX8_restore .int D A [(a_m, .inr (8, [.ref a_ms, .ref a_mw, .ref a_mv, .ref a_mp, .ref a_mf, .int r.2.1, .int r.2.2.1, .int m_rea, .int m_det, .int m_ref, .int m_err, .int m_ans, .int m_sav, .int m_net, .ref a_ml, .int m_lin, .ref a_mt, .ref a_mc, .int m_tap, .int m_her, .int m_cmd])), (a_ms, .inl (T 0, 103, .inl r.2.2.2)), (a_mv, .inl (T 0, 103, .inl v_mv))] r.1) (x1 : Int32) (m_chg : Int32) (m_thr : Int32) (v_ms : Nat → Int32) {H : Heap} {locs : List Loc} (hPD : va_PD D A [(a_m, .inr (8, [.ref a_ms, .ref a_mw, .ref a_mv, .ref a_mp, .ref a_mf, .int m_chg, .int m_thr, .int m_rea, .int m_det, .int m_ref, .int m_err, .int m_ans, .int m_sav, .int m_net, .ref a_ml, .int m_lin, .ref a_mt, .ref a_mc, .int m_tap, .int m_her, .int m_cmd])), (a_ms, .inl (T 0, 103, .inl v_ms)), (a_mv, .inl (T 0, 103, .inl v_mv))] H) (hS : va_S A s.heap H locs) (ls : Array Slot) (hl : lv_has ls 1 [(0, .ref a_m)]) (h : fX8_restore_13 m_sav v_mv x1 m_chg m_thr v_ms = some r) : W p l e ({ frames := 1, cells := 0, slots := 0, locals := 24 } : Room) s m args below meth c H locs 0 0 Q (F0 m 13 ls [.int x1, .ref a_m]) := by
  have hx := C.1
  have hb := C.2.1
  obtain ⟨hP, hD⟩ := hPD
  unfold fX8_restore_13 at h
  refine lv_iconst (v := 1) hx hb dX8_restore_13 (by decide) ?_
  replace h := bnd h; obtain ⟨q2, e3, h⟩ := h
  refine wrVi (ws1 := [(a_m, .inr (8, [.ref a_ms, .ref a_mw, .ref a_mv, .ref a_mp, .ref a_mf, .int m_chg, .int q2.2, .int m_rea, .int m_det, .int m_ref, .int m_err, .int m_ans, .int m_sav, .int m_net, .ref a_ml, .int m_lin, .ref a_mt, .ref a_mc, .int m_tap, .int m_her, .int m_cmd])), (a_ms, .inl (T 0, 103, .inl v_ms)), (a_mv, .inl (T 0, 103, .inl v_mv))]) C hE hP hD hS hA (kX8_isThrown l D T a_m a_ms a_mw a_mv a_mp a_mf a_ml a_mt a_mc m_chg m_thr m_rea m_det m_ref m_err m_ans m_sav m_net m_lin m_tap m_her m_cmd x1 1 _ q2 e3) mX8_isThrown qLX8_80 [0] [1, 2] 0 rfl rfl rfl rfl rfl rfl rfl rfl rfl ⟨rfl, rfl⟩ ⟨Nat.le_of_ble_eq_true rfl, Nat.le_of_ble_eq_true rfl⟩ rfl hl.1 rfl (Nat.le_of_ble_eq_true rfl) dX8_restore_14 ⟨Nat.le_of_ble_eq_true rfl, Nat.le_of_ble_eq_true rfl⟩ ?_; clear hP hD hS; intro H locs hP hD hS
  refine lv_if_eq (tgt := 22) hx hb dX8_restore_17 (by decide) (fun c4 => ?_) (fun c4 => ?_)
  · replace h := ite_t c4 h
    refine lv_aload_n hx hb dX8_restore_22 rfl (lv_at hl 0 rfl) ?_
    refine getF (q0 := 0) (k0 := 2) (v := .ref a_mv) C hE hP inA8 rfl rfl (by decide) qFX8_16 rfl rfl dX8_restore_23 ?_
    refine lv_iconst (v := 0) hx hb dX8_restore_26 (by decide) ?_
    refine lv_aload_n hx hb dX8_restore_27 rfl (lv_at hl 0 rfl) ?_
    refine getF (q0 := 0) (k0 := 0) (v := .ref a_ms) C hE hP inA8 rfl rfl (by decide) qFX8_9 rfl rfl dX8_restore_28 ?_
    refine lv_iconst (v := 0) hx hb dX8_restore_31 (by decide) ?_
    replace h := bnd h; obtain ⟨q5, e6, h⟩ := h
    refine wrSv (ws1 := [(a_m, .inr (8, [.ref a_ms, .ref a_mw, .ref a_mv, .ref a_mp, .ref a_mf, .int m_chg, .int q2.2, .int m_rea, .int m_det, .int m_ref, .int m_err, .int m_ans, .int m_sav, .int m_net, .ref a_ml, .int m_lin, .ref a_mt, .ref a_mc, .int m_tap, .int m_her, .int m_cmd])), (a_ms, .inl (T 0, 103, .inl q5)), (a_mv, .inl (T 0, 103, .inl v_mv))]) C hE hP hD hS hA (kX8_copies l D T a_mv a_ms 103 v_mv 103 v_ms 0 0 _ q5 e6) mX8_copies qLX8_44 [2, 1] [0] rfl rfl rfl rfl rfl rfl ⟨rfl, rfl⟩ ⟨Nat.le_of_ble_eq_true rfl, Nat.le_of_ble_eq_true rfl⟩ rfl hl.1 rfl (Nat.le_of_ble_eq_true rfl) dX8_restore_32 ⟨Nat.le_of_ble_eq_true rfl, Nat.le_of_ble_eq_true rfl⟩ ?_; clear hP hD hS; intro H locs hP hD hS
    refine lv_aload_n hx hb dX8_restore_35 rfl (lv_at hl 0 rfl) ?_
    refine lv_iconst (v := 0) hx hb dX8_restore_36 (by decide) ?_
    refine putF (q0 := 0) (k0 := 5) (ws1 := [(a_m, .inr (8, [.ref a_ms, .ref a_mw, .ref a_mv, .ref a_mp, .ref a_mf, .int 0, .int q2.2, .int m_rea, .int m_det, .int m_ref, .int m_err, .int m_ans, .int m_sav, .int m_net, .ref a_ml, .int m_lin, .ref a_mt, .ref a_mc, .int m_tap, .int m_her, .int m_cmd])), (a_ms, .inl (T 0, 103, .inl q5)), (a_mv, .inl (T 0, 103, .inl v_mv))]) C hE hP hD hS inA8 tyX8_ok nmX8 rfl rfl (by decide) qFX8_48 rfl rfl rfl rfl (Nat.le_of_ble_eq_true rfl) rfl dX8_restore_37 ?_; clear hP hD hS; intro H locs hP hD hS
    refine lv_aload_n hx hb dX8_restore_40 rfl (lv_at hl 0 rfl) ?_
    refine getF (q0 := 0) (k0 := 0) (v := .ref a_ms) C hE hP inA8 rfl rfl (by decide) qFX8_9 rfl rfl dX8_restore_41 ?_
    refine lv_iconst (v := 1) hx hb dX8_restore_44 (by decide) ?_
    replace h := gd h; obtain ⟨g7, h⟩ := h
    refine aldI (q0 := 1) C hE hP rfl g7 dX8_restore_45 ?_
    replace h := Option.some.inj h
    exact hret _ _ _ _ _ _ dX8_restore_46 rfl (by rw [← h] <;> rfl) (by rw [← h]; exact hP) hS
  · replace h := ite_f c4 h
    refine lv_iconst (v := 0) hx hb dX8_restore_20 (by decide) ?_
    replace h := Option.some.inj h
    exact hret _ _ _ _ _ _ dX8_restore_21 rfl (by rw [← h] <;> rfl) (by rw [← h]; exact hP) hS
set_option maxHeartbeats 4000000 in
set_option maxRecDepth 100000 in
theorem kX8_restore (l : Launch) (D : va_G) (T : Nat → ClassId) (a_m a_ms a_mw a_mv a_mp a_mf a_ml a_mt a_mc : Nat) (m_chg : Int32) (m_thr : Int32) (m_rea : Int32) (m_det : Int32) (m_ref : Int32) (m_err : Int32) (m_ans : Int32) (m_sav : Int32) (m_net : Int32) (m_lin : Int32) (m_tap : Int32) (m_her : Int32) (m_cmd : Int32) (v_ms : Nat → Int32) (v_mv : Nat → Int32) (sz : Nat) (r : Int32 × Int32 × Int32 × (Nat → Int32)) (h : fX8_restore m_chg m_thr m_sav v_ms v_mv = some r) : WrI l yX8_restore cX8_restore 1 .int ({ frames := 1, cells := 0, slots := 0, locals := 24 } : Room) D T sz [(a_m, .inr (8, [.ref a_ms, .ref a_mw, .ref a_mv, .ref a_mp, .ref a_mf, .int m_chg, .int m_thr, .int m_rea, .int m_det, .int m_ref, .int m_err, .int m_ans, .int m_sav, .int m_net, .ref a_ml, .int m_lin, .ref a_mt, .ref a_mc, .int m_tap, .int m_her, .int m_cmd])), (a_ms, .inl (T 0, 103, .inl v_ms)), (a_mv, .inl (T 0, 103, .inl v_mv))] [(a_m, .inr (8, [.ref a_ms, .ref a_mw, .ref a_mv, .ref a_mp, .ref a_mf, .int r.2.1, .int r.2.2.1, .int m_rea, .int m_det, .int m_ref, .int m_err, .int m_ans, .int m_sav, .int m_net, .ref a_ml, .int m_lin, .ref a_mt, .ref a_mc, .int m_tap, .int m_her, .int m_cmd])), (a_ms, .inl (T 0, 103, .inl r.2.2.2)), (a_mv, .inl (T 0, 103, .inl v_mv))] [.ref a_m] r.1 := by
  unfold fX8_restore at h
  refine wrMet (by decide +kernel) rfl (fun p e s m args below meth c Q A C hE hA hP hD hS hret ls hl => ?_)
  have hx := C.1
  have hb := C.2.1
  have hl : lv_has ls 1 [(0, .ref a_m)] := hl
  refine lv_aload_n hx hb dX8_restore_0 rfl (lv_at hl 0 rfl) ?_
  refine lv_aload_n hx hb dX8_restore_1 rfl (lv_at hl 0 rfl) ?_
  refine getF (q0 := 0) (k0 := 12) (v := .int m_sav) C hE hP inA8 rfl rfl (by decide) qFX8_252 rfl rfl dX8_restore_2 ?_
  refine lv_if_ne (tgt := 12) hx hb dX8_restore_5 (by decide) (fun c1 => ?_) (fun c1 => ?_)
  · rw [if_neg c1] at h
    refine lv_iconst (v := 0) hx hb dX8_restore_12 (by decide) ?_
    exact lX8_restore_13 C hE hA hret 0 m_chg m_thr v_ms ⟨hP, hD⟩ hS _ (lv_sub hl [0] rfl) h
  · rw [if_pos c1] at h
    refine lv_iconst (v := 1) hx hb dX8_restore_8 (by decide) ?_
    refine lv_goto (tgt := 13) hx hb dX8_restore_9 (by decide) ?_
    exact lX8_restore_13 C hE hA hret 1 m_chg m_thr v_ms ⟨hP, hD⟩ hS _ (lv_sub hl [0] rfl) h
