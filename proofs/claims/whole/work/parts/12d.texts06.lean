def fX8_isText_36 (m_tap : Int32) (v_mt : Nat → Int32) (l1 : Int32) (m_her : Int32) (m_cmd : Int32) (v_mc : Nat → Int32) : Option (Nat × Int32 × Int32 × Int32 × (Nat → Int32)) :=
  if l1 = 0 then
    some (0, 0, m_her, m_cmd, v_mc)
  else
    if m_her = m_tap then
      some (0, 1, m_her, m_cmd, v_mc)
    else
      some (0, 0, m_her, m_cmd, v_mc)
def fX8_isText_15 (m_tap : Int32) (v_mt : Nat → Int32) : Nat → Int32 → Int32 → Int32 → (Nat → Int32) → Option (Nat × Int32 × Int32 × Int32 × (Nat → Int32))
  | 0, _, _, _, _ => none
  | k + 1, l1, m_her, m_cmd, v_mc =>
    if l1 = 0 then
      fX8_isText_36 m_tap v_mt l1 m_her m_cmd v_mc
    else
      (fX8_isSign m_tap m_her v_mt 59).bind fun q4 =>
      if q4.1 = 0 then
        fX8_isText_36 m_tap v_mt l1 q4.2 m_cmd v_mc
      else
        (fX8_readsCommand m_tap q4.2 m_cmd v_mt v_mc).bind fun q7 =>
        if q7.1 = 0 then
          fX8_isText_15 m_tap v_mt k q7.2.1 q7.2.2.1 q7.2.2.2.1 q7.2.2.2.2
        else
          some (q7.1, 0, q7.2.2.1, q7.2.2.2.1, q7.2.2.2.2)
def fX8_isText (m_tap : Int32) (m_her : Int32) (m_cmd : Int32) (v_mt : Nat → Int32) (v_mc : Nat → Int32) : Option (Nat × Int32 × Int32 × Int32 × (Nat → Int32)) :=
  (fX8_readsCommand m_tap 0 0 v_mt v_mc).bind fun q1 =>
  if q1.1 = 0 then
    fX8_isText_15 m_tap v_mt 64 q1.2.1 q1.2.2.1 q1.2.2.2.1 q1.2.2.2.2
  else
    some (q1.1, 0, q1.2.2.1, q1.2.2.2.1, q1.2.2.2.2)
set_option maxHeartbeats 4000000 in
set_option maxRecDepth 100000 in
theorem lX8_isText_36 {p : Program} {l : Launch} {e : Env} {s : State} {m : MethodId} {args : Array Value} {below : List Frame} {meth : Method} {c : Code} {Q : State → Prop} {D : va_G} {T : Nat → ClassId} {a_m a_ms a_mw a_mv a_mp a_mf a_ml a_mt a_mc : Nat} {m_chg : Int32} {m_thr : Int32} {m_rea : Int32} {m_det : Int32} {m_ref : Int32} {m_err : Int32} {m_ans : Int32} {m_sav : Int32} {m_net : Int32} {m_lin : Int32} {m_tap : Int32} {v_mt : Nat → Int32} {A : Nat → Prop} {r : Nat × Int32 × Int32 × Int32 × (Nat → Int32)} (C : CallFix p m c cX8_isText 2 s args aw RX8) (hE : eK D T s) (hA : ∀ q : Nat, s.heap.size ≤ q → A q) (hZ : eX l A s) (hret : ThRetI p l e ({ frames := 6, cells := 0, slots := 0, locals := 129 } : Room) s m args below meth c Q cX8_isText .boolean D A [(a_m, .inr (8, [.ref a_ms, .ref a_mw, .ref a_mv, .ref a_mp, .ref a_mf, .int m_chg, .int m_thr, .int m_rea, .int m_det, .int m_ref, .int m_err, .int m_ans, .int m_sav, .int m_net, .ref a_ml, .int m_lin, .ref a_mt, .ref a_mc, .int m_tap, .int r.2.2.1, .int r.2.2.2.1])), (a_mt, .inl (T 0, 60, .inl v_mt)), (a_mc, .inl (T 0, 124, .inl r.2.2.2.2))] r.1 r.2.1 ∧ ThOut p l e ({ frames := 6, cells := 0, slots := 0, locals := 129 } : Room) s m args below meth c Q D A [(a_m, .inr (8, [.ref a_ms, .ref a_mw, .ref a_mv, .ref a_mp, .ref a_mf, .int m_chg, .int m_thr, .int m_rea, .int m_det, .int m_ref, .int m_err, .int m_ans, .int m_sav, .int m_net, .ref a_ml, .int m_lin, .ref a_mt, .ref a_mc, .int m_tap, .int r.2.2.1, .int r.2.2.2.1])), (a_mt, .inl (T 0, 60, .inl v_mt)), (a_mc, .inl (T 0, 124, .inl r.2.2.2.2))] r.1 ∧ ThThr p l e ({ frames := 6, cells := 0, slots := 0, locals := 129 } : Room) s m args below meth c Q cX8_isText RX8 D A [(a_m, .inr (8, [.ref a_ms, .ref a_mw, .ref a_mv, .ref a_mp, .ref a_mf, .int m_chg, .int m_thr, .int m_rea, .int m_det, .int m_ref, .int m_err, .int m_ans, .int m_sav, .int m_net, .ref a_ml, .int m_lin, .ref a_mt, .ref a_mc, .int m_tap, .int r.2.2.1, .int r.2.2.2.1])), (a_mt, .inl (T 0, 60, .inl v_mt)), (a_mc, .inl (T 0, 124, .inl r.2.2.2.2))] r.1) (l1 : Int32) (m_her : Int32) (m_cmd : Int32) (v_mc : Nat → Int32) {H : Heap} {locs : List Loc} (hPD : va_PD D A [(a_m, .inr (8, [.ref a_ms, .ref a_mw, .ref a_mv, .ref a_mp, .ref a_mf, .int m_chg, .int m_thr, .int m_rea, .int m_det, .int m_ref, .int m_err, .int m_ans, .int m_sav, .int m_net, .ref a_ml, .int m_lin, .ref a_mt, .ref a_mc, .int m_tap, .int m_her, .int m_cmd])), (a_mt, .inl (T 0, 60, .inl v_mt)), (a_mc, .inl (T 0, 124, .inl v_mc))] H) (hS : va_S A s.heap H locs) (ls : Array Slot) (hl : lv_has ls 2 [(0, .ref a_m), (1, .int l1)]) (h : fX8_isText_36 m_tap v_mt l1 m_her m_cmd v_mc = some r) : W p l e ({ frames := 6, cells := 0, slots := 0, locals := 129 } : Room) s m args below meth c H locs 0 0 Q (F0 m 36 ls []) := by
  have hx := C.1
  have hb := C.2.1
  obtain ⟨hP, hD⟩ := hPD
  unfold fX8_isText_36 at h
  refine lv_iload_n hx hb dX8_isText_36 rfl (lv_at hl 1 rfl) ?_
  refine lv_if_eq (tgt := 55) hx hb dX8_isText_37 (by decide) (fun c9 => ?_) (fun c9 => ?_)
  · replace h := ite_t c9 h
    refine lv_iconst (v := 0) hx hb dX8_isText_55 (by decide) ?_
    replace h := Option.some.inj h
    exact hret.1 _ _ _ _ _ _ _ _ (Nat.le_of_ble_eq_true rfl) (Nat.le_of_ble_eq_true rfl) dX8_isText_56 rfl (by rw [← h]) (by rw [← h] <;> rfl) (by rw [← h]; exact hP) hS
  · replace h := ite_f c9 h
    refine lv_aload_n hx hb dX8_isText_40 rfl (lv_at hl 0 rfl) ?_
    refine getF (q0 := 0) (k0 := 19) (v := .int m_her) C hE hP inA8 rfl rfl (by decide) qFX8_211 rfl rfl dX8_isText_41 ?_
    refine lv_aload_n hx hb dX8_isText_44 rfl (lv_at hl 0 rfl) ?_
    refine getF (q0 := 0) (k0 := 18) (v := .int m_tap) C hE hP inA8 rfl rfl (by decide) qFX8_208 rfl rfl dX8_isText_45 ?_
    refine lv_icmp_ne (tgt := 55) hx hb dX8_isText_48 (by decide) (fun c10 => ?_) (fun c10 => ?_)
    · replace h := ite_f c10 h
      refine lv_iconst (v := 0) hx hb dX8_isText_55 (by decide) ?_
      replace h := Option.some.inj h
      exact hret.1 _ _ _ _ _ _ _ _ (Nat.le_of_ble_eq_true rfl) (Nat.le_of_ble_eq_true rfl) dX8_isText_56 rfl (by rw [← h]) (by rw [← h] <;> rfl) (by rw [← h]; exact hP) hS
    · replace h := ite_t c10 h
      refine lv_iconst (v := 1) hx hb dX8_isText_51 (by decide) ?_
      refine lv_goto (tgt := 56) hx hb dX8_isText_52 (by decide) ?_
      replace h := Option.some.inj h
      exact hret.1 _ _ _ _ _ _ _ _ (Nat.le_of_ble_eq_true rfl) (Nat.le_of_ble_eq_true rfl) dX8_isText_56 rfl (by rw [← h]) (by rw [← h] <;> rfl) (by rw [← h]; exact hP) hS
set_option maxHeartbeats 4000000 in
set_option maxRecDepth 100000 in
theorem lX8_isText_15 {p : Program} {l : Launch} {e : Env} {s : State} {m : MethodId} {args : Array Value} {below : List Frame} {meth : Method} {c : Code} {Q : State → Prop} {D : va_G} {T : Nat → ClassId} {a_m a_ms a_mw a_mv a_mp a_mf a_ml a_mt a_mc : Nat} {m_chg : Int32} {m_thr : Int32} {m_rea : Int32} {m_det : Int32} {m_ref : Int32} {m_err : Int32} {m_ans : Int32} {m_sav : Int32} {m_net : Int32} {m_lin : Int32} {m_tap : Int32} {v_mt : Nat → Int32} {A : Nat → Prop} {r : Nat × Int32 × Int32 × Int32 × (Nat → Int32)} (C : CallFix p m c cX8_isText 2 s args aw RX8) (hE : eK D T s) (hA : ∀ q : Nat, s.heap.size ≤ q → A q) (hZ : eX l A s) (hret : ThRetI p l e ({ frames := 6, cells := 0, slots := 0, locals := 129 } : Room) s m args below meth c Q cX8_isText .boolean D A [(a_m, .inr (8, [.ref a_ms, .ref a_mw, .ref a_mv, .ref a_mp, .ref a_mf, .int m_chg, .int m_thr, .int m_rea, .int m_det, .int m_ref, .int m_err, .int m_ans, .int m_sav, .int m_net, .ref a_ml, .int m_lin, .ref a_mt, .ref a_mc, .int m_tap, .int r.2.2.1, .int r.2.2.2.1])), (a_mt, .inl (T 0, 60, .inl v_mt)), (a_mc, .inl (T 0, 124, .inl r.2.2.2.2))] r.1 r.2.1 ∧ ThOut p l e ({ frames := 6, cells := 0, slots := 0, locals := 129 } : Room) s m args below meth c Q D A [(a_m, .inr (8, [.ref a_ms, .ref a_mw, .ref a_mv, .ref a_mp, .ref a_mf, .int m_chg, .int m_thr, .int m_rea, .int m_det, .int m_ref, .int m_err, .int m_ans, .int m_sav, .int m_net, .ref a_ml, .int m_lin, .ref a_mt, .ref a_mc, .int m_tap, .int r.2.2.1, .int r.2.2.2.1])), (a_mt, .inl (T 0, 60, .inl v_mt)), (a_mc, .inl (T 0, 124, .inl r.2.2.2.2))] r.1 ∧ ThThr p l e ({ frames := 6, cells := 0, slots := 0, locals := 129 } : Room) s m args below meth c Q cX8_isText RX8 D A [(a_m, .inr (8, [.ref a_ms, .ref a_mw, .ref a_mv, .ref a_mp, .ref a_mf, .int m_chg, .int m_thr, .int m_rea, .int m_det, .int m_ref, .int m_err, .int m_ans, .int m_sav, .int m_net, .ref a_ml, .int m_lin, .ref a_mt, .ref a_mc, .int m_tap, .int r.2.2.1, .int r.2.2.2.1])), (a_mt, .inl (T 0, 60, .inl v_mt)), (a_mc, .inl (T 0, 124, .inl r.2.2.2.2))] r.1) : ∀ (k : Nat) (l1 : Int32) (m_her : Int32) (m_cmd : Int32) (v_mc : Nat → Int32) {H : Heap} {locs : List Loc} (hPD : va_PD D A [(a_m, .inr (8, [.ref a_ms, .ref a_mw, .ref a_mv, .ref a_mp, .ref a_mf, .int m_chg, .int m_thr, .int m_rea, .int m_det, .int m_ref, .int m_err, .int m_ans, .int m_sav, .int m_net, .ref a_ml, .int m_lin, .ref a_mt, .ref a_mc, .int m_tap, .int m_her, .int m_cmd])), (a_mt, .inl (T 0, 60, .inl v_mt)), (a_mc, .inl (T 0, 124, .inl v_mc))] H) (hS : va_S A s.heap H locs) (ls : Array Slot) (hl : lv_has ls 2 [(0, .ref a_m), (1, .int l1)]) (h : fX8_isText_15 m_tap v_mt k l1 m_her m_cmd v_mc = some r), W p l e ({ frames := 6, cells := 0, slots := 0, locals := 129 } : Room) s m args below meth c H locs 0 0 Q (F0 m 15 ls []) := by
  have hx := C.1
  have hb := C.2.1
  intro k
  induction k with
  | zero =>
    intro l1 m_her m_cmd v_mc H locs hPD hS ls hl h
    exact nomatch (show (none : Option (Nat × Int32 × Int32 × Int32 × (Nat → Int32))) = some r from h)
  | succ k ih =>
    intro l1 m_her m_cmd v_mc H locs hPD hS ls hl h
    obtain ⟨hP, hD⟩ := hPD
    rw [fX8_isText_15] at h
    refine lv_iload_n hx hb dX8_isText_15 rfl (lv_at hl 1 rfl) ?_
    refine lv_if_eq (tgt := 36) hx hb dX8_isText_16 (by decide) (fun c3 => ?_) (fun c3 => ?_)
    · replace h := ite_t c3 h
      exact lX8_isText_36 C hE hA hZ hret l1 m_her m_cmd v_mc ⟨hP, hD⟩ hS _ (lv_sub hl [0, 1] rfl) h
    · replace h := ite_f c3 h
      refine lv_aload_n hx hb dX8_isText_19 rfl (lv_at hl 0 rfl) ?_
      refine lv_bipush (v := 59) hx hb dX8_isText_20 (by decide) ?_
      replace h := bnd h; obtain ⟨q4, e5, h⟩ := h
      refine wrVi (ws1 := [(a_m, .inr (8, [.ref a_ms, .ref a_mw, .ref a_mv, .ref a_mp, .ref a_mf, .int m_chg, .int m_thr, .int m_rea, .int m_det, .int m_ref, .int m_err, .int m_ans, .int m_sav, .int m_net, .ref a_ml, .int m_lin, .ref a_mt, .ref a_mc, .int m_tap, .int q4.2, .int m_cmd])), (a_mt, .inl (T 0, 60, .inl v_mt)), (a_mc, .inl (T 0, 124, .inl v_mc))]) C hE hP hD hS hA (kX8_isSign l D T a_m a_ms a_mw a_mv a_mp a_mf a_ml a_mt a_mc m_chg m_thr m_rea m_det m_ref m_err m_ans m_sav m_net m_lin m_tap m_her m_cmd v_mt 59 _ q4 e5) mX8_isSign qLX8_225 [0, 1] [2] 0 rfl rfl rfl rfl rfl rfl rfl rfl rfl ⟨rfl, rfl⟩ ⟨Nat.le_of_ble_eq_true rfl, Nat.le_of_ble_eq_true rfl⟩ rfl hl.1 rfl (Nat.le_of_ble_eq_true rfl) dX8_isText_22 ⟨Nat.le_of_ble_eq_true rfl, Nat.le_of_ble_eq_true rfl⟩ ?_; clear hP hD hS; intro H locs hP hD hS
      refine lv_if_eq (tgt := 36) hx hb dX8_isText_25 (by decide) (fun c6 => ?_) (fun c6 => ?_)
      · replace h := ite_t c6 h
        exact lX8_isText_36 C hE hA hZ hret l1 q4.2 m_cmd v_mc ⟨hP, hD⟩ hS _ (lv_sub hl [0, 1] rfl) h
      · replace h := ite_f c6 h
        refine lv_aload_n hx hb dX8_isText_28 rfl (lv_at hl 0 rfl) ?_
        replace h := bnd h; obtain ⟨q7, e8, h⟩ := h
        refine thVi (ws1 := [(a_m, .inr (8, [.ref a_ms, .ref a_mw, .ref a_mv, .ref a_mp, .ref a_mf, .int m_chg, .int m_thr, .int m_rea, .int m_det, .int m_ref, .int m_err, .int m_ans, .int m_sav, .int m_net, .ref a_ml, .int m_lin, .ref a_mt, .ref a_mc, .int m_tap, .int q7.2.2.1, .int q7.2.2.2.1])), (a_mt, .inl (T 0, 60, .inl v_mt)), (a_mc, .inl (T 0, 124, .inl q7.2.2.2.2))]) C hE hZ hP hD hS hA (kX8_readsCommand l hZ.1 D T a_m a_ms a_mw a_mv a_mp a_mf a_ml a_mt a_mc m_chg m_thr m_rea m_det m_ref m_err m_ans m_sav m_net m_lin m_tap q4.2 m_cmd v_mt v_mc _ q7 e8) mX8_readsCommand qLX8_240 [0, 1, 2] [] 0 rfl rfl rfl rfl rfl rfl rfl rfl rfl ⟨Nat.le_of_ble_eq_true rfl, Nat.le_of_ble_eq_true rfl⟩ rfl hl.1 rfl (Nat.le_of_ble_eq_true rfl) dX8_isText_29 ⟨Nat.le_of_ble_eq_true rfl, Nat.le_of_ble_eq_true rfl⟩ ?_ ?_
        · clear hP hD hS; intro hx0 H locs ce q9 hP hD hS g1 g2 g3
          replace h := ite_f (Nat.ne_of_gt hx0) h
          replace h := Option.some.inj h
          exact hret.2.1 _ _ _ _ _ _ _ _ _ (Nat.le_of_ble_eq_true rfl) (Nat.le_of_ble_eq_true rfl) (by rw [← h]; exact hx0) (by rw [← h]; exact hP) hS g1 g2 (by rw [← h]; exact g3)
        · clear hP hD hS; intro hx0 H locs hP hD hS
          replace h := ite_t hx0 h
          refine lv_istore_n (lv' := [(1, .int q7.2.1), (0, .ref a_m)]) hx hb dX8_isText_32 rfl hl (by decide) rfl (fun ls hl => ?_)
          refine lv_goto (tgt := 15) hx hb dX8_isText_33 (by decide) ?_
          exact ih q7.2.1 q7.2.2.1 q7.2.2.2.1 q7.2.2.2.2 ⟨hP, hD⟩ hS _ (lv_sub hl [1, 0] rfl) h
set_option maxHeartbeats 4000000 in
set_option maxRecDepth 100000 in
theorem kX8_isText (l : Launch) (hnt : l.stackTraces = false) (D : va_G) (T : Nat → ClassId) (a_m a_ms a_mw a_mv a_mp a_mf a_ml a_mt a_mc : Nat) (m_chg : Int32) (m_thr : Int32) (m_rea : Int32) (m_det : Int32) (m_ref : Int32) (m_err : Int32) (m_ans : Int32) (m_sav : Int32) (m_net : Int32) (m_lin : Int32) (m_tap : Int32) (m_her : Int32) (m_cmd : Int32) (v_mt : Nat → Int32) (v_mc : Nat → Int32) (sz : Nat) (r : Nat × Int32 × Int32 × Int32 × (Nat → Int32)) (h : fX8_isText m_tap m_her m_cmd v_mt v_mc = some r) : ThI l yX8_isText cX8_isText 2 .boolean ({ frames := 6, cells := 0, slots := 0, locals := 129 } : Room) D T sz [(a_m, .inr (8, [.ref a_ms, .ref a_mw, .ref a_mv, .ref a_mp, .ref a_mf, .int m_chg, .int m_thr, .int m_rea, .int m_det, .int m_ref, .int m_err, .int m_ans, .int m_sav, .int m_net, .ref a_ml, .int m_lin, .ref a_mt, .ref a_mc, .int m_tap, .int m_her, .int m_cmd])), (a_mt, .inl (T 0, 60, .inl v_mt)), (a_mc, .inl (T 0, 124, .inl v_mc))] [(a_m, .inr (8, [.ref a_ms, .ref a_mw, .ref a_mv, .ref a_mp, .ref a_mf, .int m_chg, .int m_thr, .int m_rea, .int m_det, .int m_ref, .int m_err, .int m_ans, .int m_sav, .int m_net, .ref a_ml, .int m_lin, .ref a_mt, .ref a_mc, .int m_tap, .int r.2.2.1, .int r.2.2.2.1])), (a_mt, .inl (T 0, 60, .inl v_mt)), (a_mc, .inl (T 0, 124, .inl r.2.2.2.2))] [.ref a_m] r.1 r.2.1 := by
  unfold fX8_isText at h
  refine thMetI hnt (by decide +kernel) rfl (fun p e s m args below meth c Q A C hE hA hZ hP hD hS hret ls hl => ?_)
  have hx := C.1
  have hb := C.2.1
  have hl : lv_has ls 2 [(0, .ref a_m)] := hl
  refine lv_aload_n hx hb dX8_isText_0 rfl (lv_at hl 0 rfl) ?_
  refine lv_iconst (v := 0) hx hb dX8_isText_1 (by decide) ?_
  refine putF (q0 := 0) (k0 := 19) (ws1 := [(a_m, .inr (8, [.ref a_ms, .ref a_mw, .ref a_mv, .ref a_mp, .ref a_mf, .int m_chg, .int m_thr, .int m_rea, .int m_det, .int m_ref, .int m_err, .int m_ans, .int m_sav, .int m_net, .ref a_ml, .int m_lin, .ref a_mt, .ref a_mc, .int m_tap, .int 0, .int m_cmd])), (a_mt, .inl (T 0, 60, .inl v_mt)), (a_mc, .inl (T 0, 124, .inl v_mc))]) C hE hP hD hS inA8 tyX8_ok nmX8 rfl rfl (by decide) qFX8_211 rfl rfl rfl rfl (Nat.le_of_ble_eq_true rfl) rfl dX8_isText_2 ?_; clear hP hD hS; intro H locs hP hD hS
  refine lv_aload_n hx hb dX8_isText_5 rfl (lv_at hl 0 rfl) ?_
  refine lv_iconst (v := 0) hx hb dX8_isText_6 (by decide) ?_
  refine putF (q0 := 0) (k0 := 20) (ws1 := [(a_m, .inr (8, [.ref a_ms, .ref a_mw, .ref a_mv, .ref a_mp, .ref a_mf, .int m_chg, .int m_thr, .int m_rea, .int m_det, .int m_ref, .int m_err, .int m_ans, .int m_sav, .int m_net, .ref a_ml, .int m_lin, .ref a_mt, .ref a_mc, .int m_tap, .int 0, .int 0])), (a_mt, .inl (T 0, 60, .inl v_mt)), (a_mc, .inl (T 0, 124, .inl v_mc))]) C hE hP hD hS inA8 tyX8_ok nmX8 rfl rfl (by decide) qFX8_228 rfl rfl rfl rfl (Nat.le_of_ble_eq_true rfl) rfl dX8_isText_7 ?_; clear hP hD hS; intro H locs hP hD hS
  refine lv_aload_n hx hb dX8_isText_10 rfl (lv_at hl 0 rfl) ?_
  replace h := bnd h; obtain ⟨q1, e2, h⟩ := h
  refine thVi (ws1 := [(a_m, .inr (8, [.ref a_ms, .ref a_mw, .ref a_mv, .ref a_mp, .ref a_mf, .int m_chg, .int m_thr, .int m_rea, .int m_det, .int m_ref, .int m_err, .int m_ans, .int m_sav, .int m_net, .ref a_ml, .int m_lin, .ref a_mt, .ref a_mc, .int m_tap, .int q1.2.2.1, .int q1.2.2.2.1])), (a_mt, .inl (T 0, 60, .inl v_mt)), (a_mc, .inl (T 0, 124, .inl q1.2.2.2.2))]) C hE hZ hP hD hS hA (kX8_readsCommand l hZ.1 D T a_m a_ms a_mw a_mv a_mp a_mf a_ml a_mt a_mc m_chg m_thr m_rea m_det m_ref m_err m_ans m_sav m_net m_lin m_tap 0 0 v_mt v_mc _ q1 e2) mX8_readsCommand qLX8_240 [0, 1, 2] [] 0 rfl rfl rfl rfl rfl rfl rfl rfl rfl ⟨Nat.le_of_ble_eq_true rfl, Nat.le_of_ble_eq_true rfl⟩ rfl hl.1 rfl (Nat.le_of_ble_eq_true rfl) dX8_isText_11 ⟨Nat.le_of_ble_eq_true rfl, Nat.le_of_ble_eq_true rfl⟩ ?_ ?_
  · clear hP hD hS; intro hx0 H locs ce q9 hP hD hS g1 g2 g3
    replace h := ite_f (Nat.ne_of_gt hx0) h
    replace h := Option.some.inj h
    exact hret.2.1 _ _ _ _ _ _ _ _ _ (Nat.le_of_ble_eq_true rfl) (Nat.le_of_ble_eq_true rfl) (by rw [← h]; exact hx0) (by rw [← h]; exact hP) hS g1 g2 (by rw [← h]; exact g3)
  · clear hP hD hS; intro hx0 H locs hP hD hS
    replace h := ite_t hx0 h
    refine lv_istore_n (lv' := [(1, .int q1.2.1), (0, .ref a_m)]) hx hb dX8_isText_14 rfl hl (by decide) rfl (fun ls hl => ?_)
    exact lX8_isText_15 C hE hA hZ hret 64 q1.2.1 q1.2.2.1 q1.2.2.2.1 q1.2.2.2.2 ⟨hP, hD⟩ hS _ (lv_sub hl [1, 0] rfl) h

def fX8_read_123 (v_mt : Nat → Int32) (x1 : Int32) (m_chg : Int32) (m_thr : Int32) (m_rea : Int32) (m_det : Int32) (m_ref : Int32) (m_err : Int32) (m_ans : Int32) (m_net : Int32) (m_tap : Int32) (m_her : Int32) (m_cmd : Int32) (v_ms : Nat → Int32) (v_mw : Nat → Int32) (v_mp : Nat → Int32) (v_mf : Nat → Int32) (v_mc : Nat → Int32) : Option (Nat × Int32 × Int32 × Int32 × Int32 × Int32 × Int32 × Int32 × Int32 × Int32 × Int32 × Int32 × Int32 × (Nat → Int32) × (Nat → Int32) × (Nat → Int32) × (Nat → Int32) × (Nat → Int32)) :=
  some (0, 0, m_chg, x1, m_rea, m_det, m_ref, m_err, m_ans, m_net, m_tap, m_her, m_cmd, v_ms, v_mw, v_mp, v_mf, v_mc)
def fX8_read_105 (v_mt : Nat → Int32) (x1 : Int32) (m_chg : Int32) (m_thr : Int32) (m_rea : Int32) (m_det : Int32) (m_ref : Int32) (m_err : Int32) (m_ans : Int32) (m_net : Int32) (m_tap : Int32) (m_her : Int32) (m_cmd : Int32) (v_ms : Nat → Int32) (v_mw : Nat → Int32) (v_mp : Nat → Int32) (v_mf : Nat → Int32) (v_mc : Nat → Int32) : Option (Nat × Int32 × Int32 × Int32 × Int32 × Int32 × Int32 × Int32 × Int32 × Int32 × Int32 × Int32 × Int32 × (Nat → Int32) × (Nat → Int32) × (Nat → Int32) × (Nat → Int32) × (Nat → Int32)) :=
  fX8_read_123 v_mt (if m_thr = 9 then 3 else 2) m_chg m_thr m_rea m_det x1 m_err m_ans m_net m_tap m_her m_cmd v_ms v_mw v_mp v_mf v_mc
def fX8_read_43 (v_mt : Nat → Int32) : Nat → Int32 → Int32 → Int32 → Int32 → Int32 → Int32 → Int32 → Int32 → Int32 → Int32 → Int32 → Int32 → (Nat → Int32) → (Nat → Int32) → (Nat → Int32) → (Nat → Int32) → (Nat → Int32) → Option (Nat × Int32 × Int32 × Int32 × Int32 × Int32 × Int32 × Int32 × Int32 × Int32 × Int32 × Int32 × Int32 × (Nat → Int32) × (Nat → Int32) × (Nat → Int32) × (Nat → Int32) × (Nat → Int32))
  | 0, _, _, _, _, _, _, _, _, _, _, _, _, _, _, _, _, _ => none
  | k + 1, l2, m_chg, m_thr, m_rea, m_det, m_ref, m_err, m_ans, m_net, m_tap, m_her, m_cmd, v_ms, v_mw, v_mp, v_mf, v_mc =>
    if m_cmd ≤ l2 then
      (fX8_ends m_chg m_thr v_mw v_mp m_cmd 3).bind fun q10 =>
      some (0, q10.1, q10.2.1, q10.2.2.1, m_rea, m_det, m_ref, m_err, m_ans, m_net, m_tap, m_her, m_cmd, v_ms, v_mw, q10.2.2.2, v_mf, v_mc)
    else
      (fX8_does 0 m_rea m_det m_ref m_net v_ms v_mf v_mc (4 * l2)).bind fun q12 =>
      if q12.2.1 = 0 then
        fX8_read_43 v_mt k (l2 + 1) m_chg q12.2.1 q12.2.2.1 q12.2.2.2.1 q12.2.2.2.2.1 m_err q12.1 q12.2.2.2.2.2.1 m_tap m_her m_cmd q12.2.2.2.2.2.2.1 v_mw v_mp q12.2.2.2.2.2.2.2 v_mc
      else
        (fX8_copies 103 v_mw 103 q12.2.2.2.2.2.2.1 0 0).bind fun q15 =>
        fX8_read_105 v_mt (if q12.2.1 = 9 then l2 else q12.2.2.2.2.1) m_chg q12.2.1 q12.2.2.1 q12.2.2.2.1 q12.2.2.2.2.1 m_err q12.1 q12.2.2.2.2.2.1 m_tap m_her m_cmd q15 v_mw v_mp q12.2.2.2.2.2.2.2 v_mc
def fX8_read_20 (v_mt : Nat → Int32) (x1 : Int32) (m_chg : Int32) (m_thr : Int32) (m_rea : Int32) (m_det : Int32) (m_ref : Int32) (m_err : Int32) (m_ans : Int32) (m_net : Int32) (m_tap : Int32) (m_her : Int32) (m_cmd : Int32) (v_ms : Nat → Int32) (v_mw : Nat → Int32) (v_mp : Nat → Int32) (v_mf : Nat → Int32) (v_mc : Nat → Int32) : Option (Nat × Int32 × Int32 × Int32 × Int32 × Int32 × Int32 × Int32 × Int32 × Int32 × Int32 × Int32 × Int32 × (Nat → Int32) × (Nat → Int32) × (Nat → Int32) × (Nat → Int32) × (Nat → Int32)) :=
  (fX8_isThrown m_thr x1 1).bind fun q4 =>
  if q4.1 = 0 then
    (fX8_keeps q4.2 v_ms v_mw).bind fun q7 =>
    fX8_read_43 v_mt 64 0 m_chg q7.1 m_rea m_det m_ref m_err m_ans m_net m_tap m_her m_cmd v_ms q7.2 v_mp v_mf v_mc
  else
    some (0, 0, m_chg, q4.2, m_rea, m_det, m_ref, m_her, m_ans, m_net, m_tap, m_her, m_cmd, v_ms, v_mw, v_mp, v_mf, v_mc)
def fX8_read (m_chg : Int32) (m_thr : Int32) (m_rea : Int32) (m_det : Int32) (m_ref : Int32) (m_err : Int32) (m_ans : Int32) (m_net : Int32) (m_tap : Int32) (m_her : Int32) (m_cmd : Int32) (v_ms : Nat → Int32) (v_mw : Nat → Int32) (v_mp : Nat → Int32) (v_mf : Nat → Int32) (v_mt : Nat → Int32) (v_mc : Nat → Int32) : Option (Nat × Int32 × Int32 × Int32 × Int32 × Int32 × Int32 × Int32 × Int32 × Int32 × Int32 × Int32 × Int32 × (Nat → Int32) × (Nat → Int32) × (Nat → Int32) × (Nat → Int32) × (Nat → Int32)) :=
  (fX8_isText m_tap m_her m_cmd v_mt v_mc).bind fun q1 =>
  if q1.1 = 0 then
    fX8_read_20 v_mt (if q1.2.1 = 0 then 1 else 0) m_chg m_thr m_rea m_det m_ref m_err m_ans m_net 0 q1.2.2.1 q1.2.2.2.1 v_ms v_mw v_mp v_mf q1.2.2.2.2
  else
    some (q1.1, 0, m_chg, m_thr, m_rea, m_det, m_ref, m_err, m_ans, m_net, m_tap, q1.2.2.1, q1.2.2.2.1, v_ms, v_mw, v_mp, v_mf, q1.2.2.2.2)
set_option maxHeartbeats 4000000 in
set_option maxRecDepth 100000 in
theorem lX8_read_123 {p : Program} {l : Launch} {e : Env} {s : State} {m : MethodId} {args : Array Value} {below : List Frame} {meth : Method} {c : Code} {Q : State → Prop} {D : va_G} {T : Nat → ClassId} {a_m a_ms a_mw a_mv a_mp a_mf a_ml a_mt a_mc : Nat} {m_sav : Int32} {m_lin : Int32} {v_mt : Nat → Int32} {A : Nat → Prop} {r : Nat × Int32 × Int32 × Int32 × Int32 × Int32 × Int32 × Int32 × Int32 × Int32 × Int32 × Int32 × Int32 × (Nat → Int32) × (Nat → Int32) × (Nat → Int32) × (Nat → Int32) × (Nat → Int32)} (C : CallFix p m c cX8_read 3 s args aw RX8) (hE : eK D T s) (hA : ∀ q : Nat, s.heap.size ≤ q → A q) (hZ : eX l A s) (hret : ThRetI p l e ({ frames := 7, cells := 0, slots := 0, locals := 165 } : Room) s m args below meth c Q cX8_read .int D A [(a_m, .inr (8, [.ref a_ms, .ref a_mw, .ref a_mv, .ref a_mp, .ref a_mf, .int r.2.2.1, .int r.2.2.2.1, .int r.2.2.2.2.1, .int r.2.2.2.2.2.1, .int r.2.2.2.2.2.2.1, .int r.2.2.2.2.2.2.2.1, .int r.2.2.2.2.2.2.2.2.1, .int m_sav, .int r.2.2.2.2.2.2.2.2.2.1, .ref a_ml, .int m_lin, .ref a_mt, .ref a_mc, .int r.2.2.2.2.2.2.2.2.2.2.1, .int r.2.2.2.2.2.2.2.2.2.2.2.1, .int r.2.2.2.2.2.2.2.2.2.2.2.2.1])), (a_ms, .inl (T 0, 103, .inl r.2.2.2.2.2.2.2.2.2.2.2.2.2.1)), (a_mw, .inl (T 0, 103, .inl r.2.2.2.2.2.2.2.2.2.2.2.2.2.2.1)), (a_mp, .inl (T 0, 618, .inl r.2.2.2.2.2.2.2.2.2.2.2.2.2.2.2.1)), (a_mf, .inl (T 0, 45, .inl r.2.2.2.2.2.2.2.2.2.2.2.2.2.2.2.2.1)), (a_mt, .inl (T 0, 60, .inl v_mt)), (a_mc, .inl (T 0, 124, .inl r.2.2.2.2.2.2.2.2.2.2.2.2.2.2.2.2.2))] r.1 r.2.1 ∧ ThOut p l e ({ frames := 7, cells := 0, slots := 0, locals := 165 } : Room) s m args below meth c Q D A [(a_m, .inr (8, [.ref a_ms, .ref a_mw, .ref a_mv, .ref a_mp, .ref a_mf, .int r.2.2.1, .int r.2.2.2.1, .int r.2.2.2.2.1, .int r.2.2.2.2.2.1, .int r.2.2.2.2.2.2.1, .int r.2.2.2.2.2.2.2.1, .int r.2.2.2.2.2.2.2.2.1, .int m_sav, .int r.2.2.2.2.2.2.2.2.2.1, .ref a_ml, .int m_lin, .ref a_mt, .ref a_mc, .int r.2.2.2.2.2.2.2.2.2.2.1, .int r.2.2.2.2.2.2.2.2.2.2.2.1, .int r.2.2.2.2.2.2.2.2.2.2.2.2.1])), (a_ms, .inl (T 0, 103, .inl r.2.2.2.2.2.2.2.2.2.2.2.2.2.1)), (a_mw, .inl (T 0, 103, .inl r.2.2.2.2.2.2.2.2.2.2.2.2.2.2.1)), (a_mp, .inl (T 0, 618, .inl r.2.2.2.2.2.2.2.2.2.2.2.2.2.2.2.1)), (a_mf, .inl (T 0, 45, .inl r.2.2.2.2.2.2.2.2.2.2.2.2.2.2.2.2.1)), (a_mt, .inl (T 0, 60, .inl v_mt)), (a_mc, .inl (T 0, 124, .inl r.2.2.2.2.2.2.2.2.2.2.2.2.2.2.2.2.2))] r.1 ∧ ThThr p l e ({ frames := 7, cells := 0, slots := 0, locals := 165 } : Room) s m args below meth c Q cX8_read RX8 D A [(a_m, .inr (8, [.ref a_ms, .ref a_mw, .ref a_mv, .ref a_mp, .ref a_mf, .int r.2.2.1, .int r.2.2.2.1, .int r.2.2.2.2.1, .int r.2.2.2.2.2.1, .int r.2.2.2.2.2.2.1, .int r.2.2.2.2.2.2.2.1, .int r.2.2.2.2.2.2.2.2.1, .int m_sav, .int r.2.2.2.2.2.2.2.2.2.1, .ref a_ml, .int m_lin, .ref a_mt, .ref a_mc, .int r.2.2.2.2.2.2.2.2.2.2.1, .int r.2.2.2.2.2.2.2.2.2.2.2.1, .int r.2.2.2.2.2.2.2.2.2.2.2.2.1])), (a_ms, .inl (T 0, 103, .inl r.2.2.2.2.2.2.2.2.2.2.2.2.2.1)), (a_mw, .inl (T 0, 103, .inl r.2.2.2.2.2.2.2.2.2.2.2.2.2.2.1)), (a_mp, .inl (T 0, 618, .inl r.2.2.2.2.2.2.2.2.2.2.2.2.2.2.2.1)), (a_mf, .inl (T 0, 45, .inl r.2.2.2.2.2.2.2.2.2.2.2.2.2.2.2.2.1)), (a_mt, .inl (T 0, 60, .inl v_mt)), (a_mc, .inl (T 0, 124, .inl r.2.2.2.2.2.2.2.2.2.2.2.2.2.2.2.2.2))] r.1) (x1 : Int32) (m_chg : Int32) (m_thr : Int32) (m_rea : Int32) (m_det : Int32) (m_ref : Int32) (m_err : Int32) (m_ans : Int32) (m_net : Int32) (m_tap : Int32) (m_her : Int32) (m_cmd : Int32) (v_ms : Nat → Int32) (v_mw : Nat → Int32) (v_mp : Nat → Int32) (v_mf : Nat → Int32) (v_mc : Nat → Int32) {H : Heap} {locs : List Loc} (hPD : va_PD D A [(a_m, .inr (8, [.ref a_ms, .ref a_mw, .ref a_mv, .ref a_mp, .ref a_mf, .int m_chg, .int m_thr, .int m_rea, .int m_det, .int m_ref, .int m_err, .int m_ans, .int m_sav, .int m_net, .ref a_ml, .int m_lin, .ref a_mt, .ref a_mc, .int m_tap, .int m_her, .int m_cmd])), (a_ms, .inl (T 0, 103, .inl v_ms)), (a_mw, .inl (T 0, 103, .inl v_mw)), (a_mp, .inl (T 0, 618, .inl v_mp)), (a_mf, .inl (T 0, 45, .inl v_mf)), (a_mt, .inl (T 0, 60, .inl v_mt)), (a_mc, .inl (T 0, 124, .inl v_mc))] H) (hS : va_S A s.heap H locs) (ls : Array Slot) (hl : lv_has ls 3 []) (h : fX8_read_123 v_mt x1 m_chg m_thr m_rea m_det m_ref m_err m_ans m_net m_tap m_her m_cmd v_ms v_mw v_mp v_mf v_mc = some r) : W p l e ({ frames := 7, cells := 0, slots := 0, locals := 165 } : Room) s m args below meth c H locs 0 0 Q (F0 m 123 ls [.int x1, .ref a_m]) := by
  have hx := C.1
  have hb := C.2.1
  obtain ⟨hP, hD⟩ := hPD
  unfold fX8_read_123 at h
  refine putF (q0 := 0) (k0 := 6) (ws1 := [(a_m, .inr (8, [.ref a_ms, .ref a_mw, .ref a_mv, .ref a_mp, .ref a_mf, .int m_chg, .int x1, .int m_rea, .int m_det, .int m_ref, .int m_err, .int m_ans, .int m_sav, .int m_net, .ref a_ml, .int m_lin, .ref a_mt, .ref a_mc, .int m_tap, .int m_her, .int m_cmd])), (a_ms, .inl (T 0, 103, .inl v_ms)), (a_mw, .inl (T 0, 103, .inl v_mw)), (a_mp, .inl (T 0, 618, .inl v_mp)), (a_mf, .inl (T 0, 45, .inl v_mf)), (a_mt, .inl (T 0, 60, .inl v_mt)), (a_mc, .inl (T 0, 124, .inl v_mc))]) C hE hP hD hS inA8 tyX8_ok nmX8 rfl rfl (by decide) qFX8_41 rfl rfl rfl rfl (Nat.le_of_ble_eq_true rfl) rfl dX8_read_123 ?_; clear hP hD hS; intro H locs hP hD hS
  refine lv_iconst (v := 0) hx hb dX8_read_126 (by decide) ?_
  replace h := Option.some.inj h
  exact hret.1 _ _ _ _ _ _ _ _ (Nat.le_of_ble_eq_true rfl) (Nat.le_of_ble_eq_true rfl) dX8_read_127 rfl (by rw [← h]) (by rw [← h] <;> rfl) (by rw [← h]; exact hP) hS
set_option maxHeartbeats 4000000 in
set_option maxRecDepth 100000 in
theorem lX8_read_105 {p : Program} {l : Launch} {e : Env} {s : State} {m : MethodId} {args : Array Value} {below : List Frame} {meth : Method} {c : Code} {Q : State → Prop} {D : va_G} {T : Nat → ClassId} {a_m a_ms a_mw a_mv a_mp a_mf a_ml a_mt a_mc : Nat} {m_sav : Int32} {m_lin : Int32} {v_mt : Nat → Int32} {A : Nat → Prop} {r : Nat × Int32 × Int32 × Int32 × Int32 × Int32 × Int32 × Int32 × Int32 × Int32 × Int32 × Int32 × Int32 × (Nat → Int32) × (Nat → Int32) × (Nat → Int32) × (Nat → Int32) × (Nat → Int32)} (C : CallFix p m c cX8_read 3 s args aw RX8) (hE : eK D T s) (hA : ∀ q : Nat, s.heap.size ≤ q → A q) (hZ : eX l A s) (hret : ThRetI p l e ({ frames := 7, cells := 0, slots := 0, locals := 165 } : Room) s m args below meth c Q cX8_read .int D A [(a_m, .inr (8, [.ref a_ms, .ref a_mw, .ref a_mv, .ref a_mp, .ref a_mf, .int r.2.2.1, .int r.2.2.2.1, .int r.2.2.2.2.1, .int r.2.2.2.2.2.1, .int r.2.2.2.2.2.2.1, .int r.2.2.2.2.2.2.2.1, .int r.2.2.2.2.2.2.2.2.1, .int m_sav, .int r.2.2.2.2.2.2.2.2.2.1, .ref a_ml, .int m_lin, .ref a_mt, .ref a_mc, .int r.2.2.2.2.2.2.2.2.2.2.1, .int r.2.2.2.2.2.2.2.2.2.2.2.1, .int r.2.2.2.2.2.2.2.2.2.2.2.2.1])), (a_ms, .inl (T 0, 103, .inl r.2.2.2.2.2.2.2.2.2.2.2.2.2.1)), (a_mw, .inl (T 0, 103, .inl r.2.2.2.2.2.2.2.2.2.2.2.2.2.2.1)), (a_mp, .inl (T 0, 618, .inl r.2.2.2.2.2.2.2.2.2.2.2.2.2.2.2.1)), (a_mf, .inl (T 0, 45, .inl r.2.2.2.2.2.2.2.2.2.2.2.2.2.2.2.2.1)), (a_mt, .inl (T 0, 60, .inl v_mt)), (a_mc, .inl (T 0, 124, .inl r.2.2.2.2.2.2.2.2.2.2.2.2.2.2.2.2.2))] r.1 r.2.1 ∧ ThOut p l e ({ frames := 7, cells := 0, slots := 0, locals := 165 } : Room) s m args below meth c Q D A [(a_m, .inr (8, [.ref a_ms, .ref a_mw, .ref a_mv, .ref a_mp, .ref a_mf, .int r.2.2.1, .int r.2.2.2.1, .int r.2.2.2.2.1, .int r.2.2.2.2.2.1, .int r.2.2.2.2.2.2.1, .int r.2.2.2.2.2.2.2.1, .int r.2.2.2.2.2.2.2.2.1, .int m_sav, .int r.2.2.2.2.2.2.2.2.2.1, .ref a_ml, .int m_lin, .ref a_mt, .ref a_mc, .int r.2.2.2.2.2.2.2.2.2.2.1, .int r.2.2.2.2.2.2.2.2.2.2.2.1, .int r.2.2.2.2.2.2.2.2.2.2.2.2.1])), (a_ms, .inl (T 0, 103, .inl r.2.2.2.2.2.2.2.2.2.2.2.2.2.1)), (a_mw, .inl (T 0, 103, .inl r.2.2.2.2.2.2.2.2.2.2.2.2.2.2.1)), (a_mp, .inl (T 0, 618, .inl r.2.2.2.2.2.2.2.2.2.2.2.2.2.2.2.1)), (a_mf, .inl (T 0, 45, .inl r.2.2.2.2.2.2.2.2.2.2.2.2.2.2.2.2.1)), (a_mt, .inl (T 0, 60, .inl v_mt)), (a_mc, .inl (T 0, 124, .inl r.2.2.2.2.2.2.2.2.2.2.2.2.2.2.2.2.2))] r.1 ∧ ThThr p l e ({ frames := 7, cells := 0, slots := 0, locals := 165 } : Room) s m args below meth c Q cX8_read RX8 D A [(a_m, .inr (8, [.ref a_ms, .ref a_mw, .ref a_mv, .ref a_mp, .ref a_mf, .int r.2.2.1, .int r.2.2.2.1, .int r.2.2.2.2.1, .int r.2.2.2.2.2.1, .int r.2.2.2.2.2.2.1, .int r.2.2.2.2.2.2.2.1, .int r.2.2.2.2.2.2.2.2.1, .int m_sav, .int r.2.2.2.2.2.2.2.2.2.1, .ref a_ml, .int m_lin, .ref a_mt, .ref a_mc, .int r.2.2.2.2.2.2.2.2.2.2.1, .int r.2.2.2.2.2.2.2.2.2.2.2.1, .int r.2.2.2.2.2.2.2.2.2.2.2.2.1])), (a_ms, .inl (T 0, 103, .inl r.2.2.2.2.2.2.2.2.2.2.2.2.2.1)), (a_mw, .inl (T 0, 103, .inl r.2.2.2.2.2.2.2.2.2.2.2.2.2.2.1)), (a_mp, .inl (T 0, 618, .inl r.2.2.2.2.2.2.2.2.2.2.2.2.2.2.2.1)), (a_mf, .inl (T 0, 45, .inl r.2.2.2.2.2.2.2.2.2.2.2.2.2.2.2.2.1)), (a_mt, .inl (T 0, 60, .inl v_mt)), (a_mc, .inl (T 0, 124, .inl r.2.2.2.2.2.2.2.2.2.2.2.2.2.2.2.2.2))] r.1) (x1 : Int32) (m_chg : Int32) (m_thr : Int32) (m_rea : Int32) (m_det : Int32) (m_ref : Int32) (m_err : Int32) (m_ans : Int32) (m_net : Int32) (m_tap : Int32) (m_her : Int32) (m_cmd : Int32) (v_ms : Nat → Int32) (v_mw : Nat → Int32) (v_mp : Nat → Int32) (v_mf : Nat → Int32) (v_mc : Nat → Int32) {H : Heap} {locs : List Loc} (hPD : va_PD D A [(a_m, .inr (8, [.ref a_ms, .ref a_mw, .ref a_mv, .ref a_mp, .ref a_mf, .int m_chg, .int m_thr, .int m_rea, .int m_det, .int m_ref, .int m_err, .int m_ans, .int m_sav, .int m_net, .ref a_ml, .int m_lin, .ref a_mt, .ref a_mc, .int m_tap, .int m_her, .int m_cmd])), (a_ms, .inl (T 0, 103, .inl v_ms)), (a_mw, .inl (T 0, 103, .inl v_mw)), (a_mp, .inl (T 0, 618, .inl v_mp)), (a_mf, .inl (T 0, 45, .inl v_mf)), (a_mt, .inl (T 0, 60, .inl v_mt)), (a_mc, .inl (T 0, 124, .inl v_mc))] H) (hS : va_S A s.heap H locs) (ls : Array Slot) (hl : lv_has ls 3 [(0, .ref a_m)]) (h : fX8_read_105 v_mt x1 m_chg m_thr m_rea m_det m_ref m_err m_ans m_net m_tap m_her m_cmd v_ms v_mw v_mp v_mf v_mc = some r) : W p l e ({ frames := 7, cells := 0, slots := 0, locals := 165 } : Room) s m args below meth c H locs 0 0 Q (F0 m 105 ls [.int x1, .ref a_m]) := by
  have hx := C.1
  have hb := C.2.1
  obtain ⟨hP, hD⟩ := hPD
  unfold fX8_read_105 at h
  refine putF (q0 := 0) (k0 := 9) (ws1 := [(a_m, .inr (8, [.ref a_ms, .ref a_mw, .ref a_mv, .ref a_mp, .ref a_mf, .int m_chg, .int m_thr, .int m_rea, .int m_det, .int x1, .int m_err, .int m_ans, .int m_sav, .int m_net, .ref a_ml, .int m_lin, .ref a_mt, .ref a_mc, .int m_tap, .int m_her, .int m_cmd])), (a_ms, .inl (T 0, 103, .inl v_ms)), (a_mw, .inl (T 0, 103, .inl v_mw)), (a_mp, .inl (T 0, 618, .inl v_mp)), (a_mf, .inl (T 0, 45, .inl v_mf)), (a_mt, .inl (T 0, 60, .inl v_mt)), (a_mc, .inl (T 0, 124, .inl v_mc))]) C hE hP hD hS inA8 tyX8_ok nmX8 rfl rfl (by decide) qFX8_25 rfl rfl rfl rfl (Nat.le_of_ble_eq_true rfl) rfl dX8_read_105 ?_; clear hP hD hS; intro H locs hP hD hS
  refine lv_aload_n hx hb dX8_read_108 rfl (lv_at hl 0 rfl) ?_
  refine lv_aload_n hx hb dX8_read_109 rfl (lv_at hl 0 rfl) ?_
  refine getF (q0 := 0) (k0 := 6) (v := .int m_thr) C hE hP inA8 rfl rfl (by decide) qFX8_41 rfl rfl dX8_read_110 ?_
  refine lv_bipush (v := 9) hx hb dX8_read_113 (by decide) ?_
  refine lv_icmp_ne (tgt := 122) hx hb dX8_read_115 (by decide) (fun c18 => ?_) (fun c18 => ?_)
  · rw [if_neg c18] at h
    refine lv_iconst (v := 2) hx hb dX8_read_122 (by decide) ?_
    exact lX8_read_123 C hE hA hZ hret 2 m_chg m_thr m_rea m_det x1 m_err m_ans m_net m_tap m_her m_cmd v_ms v_mw v_mp v_mf v_mc ⟨hP, hD⟩ hS _ (lv_sub hl [] rfl) h
  · rw [if_pos c18] at h
    refine lv_iconst (v := 3) hx hb dX8_read_118 (by decide) ?_
    refine lv_goto (tgt := 123) hx hb dX8_read_119 (by decide) ?_
    exact lX8_read_123 C hE hA hZ hret 3 m_chg m_thr m_rea m_det x1 m_err m_ans m_net m_tap m_her m_cmd v_ms v_mw v_mp v_mf v_mc ⟨hP, hD⟩ hS _ (lv_sub hl [] rfl) h
set_option maxHeartbeats 4000000 in
set_option maxRecDepth 100000 in
theorem lX8_read_43 {p : Program} {l : Launch} {e : Env} {s : State} {m : MethodId} {args : Array Value} {below : List Frame} {meth : Method} {c : Code} {Q : State → Prop} {D : va_G} {T : Nat → ClassId} {a_m a_ms a_mw a_mv a_mp a_mf a_ml a_mt a_mc : Nat} {m_sav : Int32} {m_lin : Int32} {v_mt : Nat → Int32} {A : Nat → Prop} {r : Nat × Int32 × Int32 × Int32 × Int32 × Int32 × Int32 × Int32 × Int32 × Int32 × Int32 × Int32 × Int32 × (Nat → Int32) × (Nat → Int32) × (Nat → Int32) × (Nat → Int32) × (Nat → Int32)} (C : CallFix p m c cX8_read 3 s args aw RX8) (hE : eK D T s) (hA : ∀ q : Nat, s.heap.size ≤ q → A q) (hZ : eX l A s) (hret : ThRetI p l e ({ frames := 7, cells := 0, slots := 0, locals := 165 } : Room) s m args below meth c Q cX8_read .int D A [(a_m, .inr (8, [.ref a_ms, .ref a_mw, .ref a_mv, .ref a_mp, .ref a_mf, .int r.2.2.1, .int r.2.2.2.1, .int r.2.2.2.2.1, .int r.2.2.2.2.2.1, .int r.2.2.2.2.2.2.1, .int r.2.2.2.2.2.2.2.1, .int r.2.2.2.2.2.2.2.2.1, .int m_sav, .int r.2.2.2.2.2.2.2.2.2.1, .ref a_ml, .int m_lin, .ref a_mt, .ref a_mc, .int r.2.2.2.2.2.2.2.2.2.2.1, .int r.2.2.2.2.2.2.2.2.2.2.2.1, .int r.2.2.2.2.2.2.2.2.2.2.2.2.1])), (a_ms, .inl (T 0, 103, .inl r.2.2.2.2.2.2.2.2.2.2.2.2.2.1)), (a_mw, .inl (T 0, 103, .inl r.2.2.2.2.2.2.2.2.2.2.2.2.2.2.1)), (a_mp, .inl (T 0, 618, .inl r.2.2.2.2.2.2.2.2.2.2.2.2.2.2.2.1)), (a_mf, .inl (T 0, 45, .inl r.2.2.2.2.2.2.2.2.2.2.2.2.2.2.2.2.1)), (a_mt, .inl (T 0, 60, .inl v_mt)), (a_mc, .inl (T 0, 124, .inl r.2.2.2.2.2.2.2.2.2.2.2.2.2.2.2.2.2))] r.1 r.2.1 ∧ ThOut p l e ({ frames := 7, cells := 0, slots := 0, locals := 165 } : Room) s m args below meth c Q D A [(a_m, .inr (8, [.ref a_ms, .ref a_mw, .ref a_mv, .ref a_mp, .ref a_mf, .int r.2.2.1, .int r.2.2.2.1, .int r.2.2.2.2.1, .int r.2.2.2.2.2.1, .int r.2.2.2.2.2.2.1, .int r.2.2.2.2.2.2.2.1, .int r.2.2.2.2.2.2.2.2.1, .int m_sav, .int r.2.2.2.2.2.2.2.2.2.1, .ref a_ml, .int m_lin, .ref a_mt, .ref a_mc, .int r.2.2.2.2.2.2.2.2.2.2.1, .int r.2.2.2.2.2.2.2.2.2.2.2.1, .int r.2.2.2.2.2.2.2.2.2.2.2.2.1])), (a_ms, .inl (T 0, 103, .inl r.2.2.2.2.2.2.2.2.2.2.2.2.2.1)), (a_mw, .inl (T 0, 103, .inl r.2.2.2.2.2.2.2.2.2.2.2.2.2.2.1)), (a_mp, .inl (T 0, 618, .inl r.2.2.2.2.2.2.2.2.2.2.2.2.2.2.2.1)), (a_mf, .inl (T 0, 45, .inl r.2.2.2.2.2.2.2.2.2.2.2.2.2.2.2.2.1)), (a_mt, .inl (T 0, 60, .inl v_mt)), (a_mc, .inl (T 0, 124, .inl r.2.2.2.2.2.2.2.2.2.2.2.2.2.2.2.2.2))] r.1 ∧ ThThr p l e ({ frames := 7, cells := 0, slots := 0, locals := 165 } : Room) s m args below meth c Q cX8_read RX8 D A [(a_m, .inr (8, [.ref a_ms, .ref a_mw, .ref a_mv, .ref a_mp, .ref a_mf, .int r.2.2.1, .int r.2.2.2.1, .int r.2.2.2.2.1, .int r.2.2.2.2.2.1, .int r.2.2.2.2.2.2.1, .int r.2.2.2.2.2.2.2.1, .int r.2.2.2.2.2.2.2.2.1, .int m_sav, .int r.2.2.2.2.2.2.2.2.2.1, .ref a_ml, .int m_lin, .ref a_mt, .ref a_mc, .int r.2.2.2.2.2.2.2.2.2.2.1, .int r.2.2.2.2.2.2.2.2.2.2.2.1, .int r.2.2.2.2.2.2.2.2.2.2.2.2.1])), (a_ms, .inl (T 0, 103, .inl r.2.2.2.2.2.2.2.2.2.2.2.2.2.1)), (a_mw, .inl (T 0, 103, .inl r.2.2.2.2.2.2.2.2.2.2.2.2.2.2.1)), (a_mp, .inl (T 0, 618, .inl r.2.2.2.2.2.2.2.2.2.2.2.2.2.2.2.1)), (a_mf, .inl (T 0, 45, .inl r.2.2.2.2.2.2.2.2.2.2.2.2.2.2.2.2.1)), (a_mt, .inl (T 0, 60, .inl v_mt)), (a_mc, .inl (T 0, 124, .inl r.2.2.2.2.2.2.2.2.2.2.2.2.2.2.2.2.2))] r.1) : ∀ (k : Nat) (l2 : Int32) (m_chg : Int32) (m_thr : Int32) (m_rea : Int32) (m_det : Int32) (m_ref : Int32) (m_err : Int32) (m_ans : Int32) (m_net : Int32) (m_tap : Int32) (m_her : Int32) (m_cmd : Int32) (v_ms : Nat → Int32) (v_mw : Nat → Int32) (v_mp : Nat → Int32) (v_mf : Nat → Int32) (v_mc : Nat → Int32) {H : Heap} {locs : List Loc} (hPD : va_PD D A [(a_m, .inr (8, [.ref a_ms, .ref a_mw, .ref a_mv, .ref a_mp, .ref a_mf, .int m_chg, .int m_thr, .int m_rea, .int m_det, .int m_ref, .int m_err, .int m_ans, .int m_sav, .int m_net, .ref a_ml, .int m_lin, .ref a_mt, .ref a_mc, .int m_tap, .int m_her, .int m_cmd])), (a_ms, .inl (T 0, 103, .inl v_ms)), (a_mw, .inl (T 0, 103, .inl v_mw)), (a_mp, .inl (T 0, 618, .inl v_mp)), (a_mf, .inl (T 0, 45, .inl v_mf)), (a_mt, .inl (T 0, 60, .inl v_mt)), (a_mc, .inl (T 0, 124, .inl v_mc))] H) (hS : va_S A s.heap H locs) (ls : Array Slot) (hl : lv_has ls 3 [(0, .ref a_m), (2, .int l2)]) (h : fX8_read_43 v_mt k l2 m_chg m_thr m_rea m_det m_ref m_err m_ans m_net m_tap m_her m_cmd v_ms v_mw v_mp v_mf v_mc = some r), W p l e ({ frames := 7, cells := 0, slots := 0, locals := 165 } : Room) s m args below meth c H locs 0 0 Q (F0 m 43 ls []) := by
  have hx := C.1
  have hb := C.2.1
  intro k
  induction k with
  | zero =>
    intro l2 m_chg m_thr m_rea m_det m_ref m_err m_ans m_net m_tap m_her m_cmd v_ms v_mw v_mp v_mf v_mc H locs hPD hS ls hl h
    exact nomatch (show (none : Option (Nat × Int32 × Int32 × Int32 × Int32 × Int32 × Int32 × Int32 × Int32 × Int32 × Int32 × Int32 × Int32 × (Nat → Int32) × (Nat → Int32) × (Nat → Int32) × (Nat → Int32) × (Nat → Int32))) = some r from h)
  | succ k ih =>
    intro l2 m_chg m_thr m_rea m_det m_ref m_err m_ans m_net m_tap m_her m_cmd v_ms v_mw v_mp v_mf v_mc H locs hPD hS ls hl h
    obtain ⟨hP, hD⟩ := hPD
    rw [fX8_read_43] at h
    refine lv_iload_n hx hb dX8_read_43 rfl (lv_at hl 1 rfl) ?_
    refine lv_aload_n hx hb dX8_read_44 rfl (lv_at hl 0 rfl) ?_
    refine getF (q0 := 0) (k0 := 20) (v := .int m_cmd) C hE hP inA8 rfl rfl (by decide) qFX8_228 rfl rfl dX8_read_45 ?_
    refine lv_icmp_ge (tgt := 134) hx hb dX8_read_48 (by decide) (fun c9 => ?_) (fun c9 => ?_)
    · replace h := ite_t c9 h
      refine lv_aload_n hx hb dX8_read_134 rfl (lv_at hl 0 rfl) ?_
      refine lv_aload_n hx hb dX8_read_135 rfl (lv_at hl 0 rfl) ?_
      refine getF (q0 := 0) (k0 := 20) (v := .int m_cmd) C hE hP inA8 rfl rfl (by decide) qFX8_228 rfl rfl dX8_read_136 ?_
      refine lv_iconst (v := 3) hx hb dX8_read_139 (by decide) ?_
      replace h := bnd h; obtain ⟨q10, e11, h⟩ := h
      refine wrVi (ws1 := [(a_m, .inr (8, [.ref a_ms, .ref a_mw, .ref a_mv, .ref a_mp, .ref a_mf, .int q10.2.1, .int q10.2.2.1, .int m_rea, .int m_det, .int m_ref, .int m_err, .int m_ans, .int m_sav, .int m_net, .ref a_ml, .int m_lin, .ref a_mt, .ref a_mc, .int m_tap, .int m_her, .int m_cmd])), (a_ms, .inl (T 0, 103, .inl v_ms)), (a_mw, .inl (T 0, 103, .inl v_mw)), (a_mp, .inl (T 0, 618, .inl q10.2.2.2)), (a_mf, .inl (T 0, 45, .inl v_mf)), (a_mt, .inl (T 0, 60, .inl v_mt)), (a_mc, .inl (T 0, 124, .inl v_mc))]) C hE hP hD hS hA (kX8_ends l D T a_m a_ms a_mw a_mv a_mp a_mf a_ml a_mt a_mc m_chg m_thr m_rea m_det m_ref m_err m_ans m_sav m_net m_lin m_tap m_her m_cmd v_mw v_mp m_cmd 3 _ q10 e11) mX8_ends qLX8_114 [0, 2, 3] [1, 4, 5, 6] 0 rfl rfl rfl rfl rfl rfl rfl rfl rfl ⟨rfl, rfl⟩ ⟨Nat.le_of_ble_eq_true rfl, Nat.le_of_ble_eq_true rfl⟩ rfl hl.1 rfl (Nat.le_of_ble_eq_true rfl) dX8_read_140 ⟨Nat.le_of_ble_eq_true rfl, Nat.le_of_ble_eq_true rfl⟩ ?_; clear hP hD hS; intro H locs hP hD hS
      replace h := Option.some.inj h
      exact hret.1 _ _ _ _ _ _ _ _ (Nat.le_of_ble_eq_true rfl) (Nat.le_of_ble_eq_true rfl) dX8_read_143 rfl (by rw [← h]) (by rw [← h] <;> rfl) (by rw [← h]; exact hP) hS
    · replace h := ite_f c9 h
      refine lv_aload_n hx hb dX8_read_51 rfl (lv_at hl 0 rfl) ?_
      refine lv_iconst (v := 0) hx hb dX8_read_52 (by decide) ?_
      refine putF (q0 := 0) (k0 := 6) (ws1 := [(a_m, .inr (8, [.ref a_ms, .ref a_mw, .ref a_mv, .ref a_mp, .ref a_mf, .int m_chg, .int 0, .int m_rea, .int m_det, .int m_ref, .int m_err, .int m_ans, .int m_sav, .int m_net, .ref a_ml, .int m_lin, .ref a_mt, .ref a_mc, .int m_tap, .int m_her, .int m_cmd])), (a_ms, .inl (T 0, 103, .inl v_ms)), (a_mw, .inl (T 0, 103, .inl v_mw)), (a_mp, .inl (T 0, 618, .inl v_mp)), (a_mf, .inl (T 0, 45, .inl v_mf)), (a_mt, .inl (T 0, 60, .inl v_mt)), (a_mc, .inl (T 0, 124, .inl v_mc))]) C hE hP hD hS inA8 tyX8_ok nmX8 rfl rfl (by decide) qFX8_41 rfl rfl rfl rfl (Nat.le_of_ble_eq_true rfl) rfl dX8_read_53 ?_; clear hP hD hS; intro H locs hP hD hS
      refine lv_aload_n hx hb dX8_read_56 rfl (lv_at hl 0 rfl) ?_
      refine lv_aload_n hx hb dX8_read_57 rfl (lv_at hl 0 rfl) ?_
      refine lv_iconst (v := 4) hx hb dX8_read_58 (by decide) ?_
      refine lv_iload_n hx hb dX8_read_59 rfl (lv_at hl 1 rfl) ?_
      refine lv_imul hx hb dX8_read_60 ?_
      replace h := bnd h; obtain ⟨q12, e13, h⟩ := h
      refine wrVi (ws1 := [(a_m, .inr (8, [.ref a_ms, .ref a_mw, .ref a_mv, .ref a_mp, .ref a_mf, .int m_chg, .int q12.2.1, .int q12.2.2.1, .int q12.2.2.2.1, .int q12.2.2.2.2.1, .int m_err, .int m_ans, .int m_sav, .int q12.2.2.2.2.2.1, .ref a_ml, .int m_lin, .ref a_mt, .ref a_mc, .int m_tap, .int m_her, .int m_cmd])), (a_ms, .inl (T 0, 103, .inl q12.2.2.2.2.2.2.1)), (a_mw, .inl (T 0, 103, .inl v_mw)), (a_mp, .inl (T 0, 618, .inl v_mp)), (a_mf, .inl (T 0, 45, .inl q12.2.2.2.2.2.2.2)), (a_mt, .inl (T 0, 60, .inl v_mt)), (a_mc, .inl (T 0, 124, .inl v_mc))]) C hE hP hD hS hA (kX8_does l D T a_m a_ms a_mw a_mv a_mp a_mf a_ml a_mt a_mc m_chg 0 m_rea m_det m_ref m_err m_ans m_sav m_net m_lin m_tap m_her m_cmd v_ms v_mf v_mc (4 * l2) _ q12 e13) mX8_does qLX8_246 [0, 1, 4, 6] [2, 3, 5] 0 rfl rfl rfl rfl rfl rfl rfl rfl rfl ⟨rfl, rfl⟩ ⟨Nat.le_of_ble_eq_true rfl, Nat.le_of_ble_eq_true rfl⟩ rfl hl.1 rfl (Nat.le_of_ble_eq_true rfl) dX8_read_61 ⟨Nat.le_of_ble_eq_true rfl, Nat.le_of_ble_eq_true rfl⟩ ?_; clear hP hD hS; intro H locs hP hD hS
      refine putF (q0 := 0) (k0 := 11) (ws1 := [(a_m, .inr (8, [.ref a_ms, .ref a_mw, .ref a_mv, .ref a_mp, .ref a_mf, .int m_chg, .int q12.2.1, .int q12.2.2.1, .int q12.2.2.2.1, .int q12.2.2.2.2.1, .int m_err, .int q12.1, .int m_sav, .int q12.2.2.2.2.2.1, .ref a_ml, .int m_lin, .ref a_mt, .ref a_mc, .int m_tap, .int m_her, .int m_cmd])), (a_ms, .inl (T 0, 103, .inl q12.2.2.2.2.2.2.1)), (a_mw, .inl (T 0, 103, .inl v_mw)), (a_mp, .inl (T 0, 618, .inl v_mp)), (a_mf, .inl (T 0, 45, .inl q12.2.2.2.2.2.2.2)), (a_mt, .inl (T 0, 60, .inl v_mt)), (a_mc, .inl (T 0, 124, .inl v_mc))]) C hE hP hD hS inA8 tyX8_ok nmX8 rfl rfl (by decide) qFX8_249 rfl rfl rfl rfl (Nat.le_of_ble_eq_true rfl) rfl dX8_read_64 ?_; clear hP hD hS; intro H locs hP hD hS
      refine lv_aload_n hx hb dX8_read_67 rfl (lv_at hl 0 rfl) ?_
      refine getF (q0 := 0) (k0 := 6) (v := .int q12.2.1) C hE hP inA8 rfl rfl (by decide) qFX8_41 rfl rfl dX8_read_68 ?_
      refine lv_if_eq (tgt := 128) hx hb dX8_read_71 (by decide) (fun c14 => ?_) (fun c14 => ?_)
      · replace h := ite_t c14 h
        refine lv_iinc (v := (l2 + 1)) (lv' := [(2, .int (l2 + 1)), (0, .ref a_m)]) hx hb dX8_read_128 hl (k := 1) rfl rfl (by decide) rfl (fun ls hl => ?_)
        refine lv_goto (tgt := 43) hx hb dX8_read_131 (by decide) ?_
        exact ih (l2 + 1) m_chg q12.2.1 q12.2.2.1 q12.2.2.2.1 q12.2.2.2.2.1 m_err q12.1 q12.2.2.2.2.2.1 m_tap m_her m_cmd q12.2.2.2.2.2.2.1 v_mw v_mp q12.2.2.2.2.2.2.2 v_mc ⟨hP, hD⟩ hS _ (lv_sub hl [1, 0] rfl) h
      · replace h := ite_f c14 h
        refine lv_aload_n hx hb dX8_read_74 rfl (lv_at hl 0 rfl) ?_
        refine getF (q0 := 0) (k0 := 1) (v := .ref a_mw) C hE hP inA8 rfl rfl (by decide) qFX8_13 rfl rfl dX8_read_75 ?_
        refine lv_iconst (v := 0) hx hb dX8_read_78 (by decide) ?_
        refine lv_aload_n hx hb dX8_read_79 rfl (lv_at hl 0 rfl) ?_
        refine getF (q0 := 0) (k0 := 0) (v := .ref a_ms) C hE hP inA8 rfl rfl (by decide) qFX8_9 rfl rfl dX8_read_80 ?_
        refine lv_iconst (v := 0) hx hb dX8_read_83 (by decide) ?_
        replace h := bnd h; obtain ⟨q15, e16, h⟩ := h
        refine wrSv (ws1 := [(a_m, .inr (8, [.ref a_ms, .ref a_mw, .ref a_mv, .ref a_mp, .ref a_mf, .int m_chg, .int q12.2.1, .int q12.2.2.1, .int q12.2.2.2.1, .int q12.2.2.2.2.1, .int m_err, .int q12.1, .int m_sav, .int q12.2.2.2.2.2.1, .ref a_ml, .int m_lin, .ref a_mt, .ref a_mc, .int m_tap, .int m_her, .int m_cmd])), (a_ms, .inl (T 0, 103, .inl q15)), (a_mw, .inl (T 0, 103, .inl v_mw)), (a_mp, .inl (T 0, 618, .inl v_mp)), (a_mf, .inl (T 0, 45, .inl q12.2.2.2.2.2.2.2)), (a_mt, .inl (T 0, 60, .inl v_mt)), (a_mc, .inl (T 0, 124, .inl v_mc))]) C hE hP hD hS hA (kX8_copies l D T a_mw a_ms 103 v_mw 103 q12.2.2.2.2.2.2.1 0 0 _ q15 e16) mX8_copies qLX8_44 [2, 1] [0, 3, 4, 5, 6] rfl rfl rfl rfl rfl rfl ⟨rfl, rfl⟩ ⟨Nat.le_of_ble_eq_true rfl, Nat.le_of_ble_eq_true rfl⟩ rfl hl.1 rfl (Nat.le_of_ble_eq_true rfl) dX8_read_84 ⟨Nat.le_of_ble_eq_true rfl, Nat.le_of_ble_eq_true rfl⟩ ?_; clear hP hD hS; intro H locs hP hD hS
        refine lv_aload_n hx hb dX8_read_87 rfl (lv_at hl 0 rfl) ?_
        refine lv_aload_n hx hb dX8_read_88 rfl (lv_at hl 0 rfl) ?_
        refine getF (q0 := 0) (k0 := 6) (v := .int q12.2.1) C hE hP inA8 rfl rfl (by decide) qFX8_41 rfl rfl dX8_read_89 ?_
        refine lv_bipush (v := 9) hx hb dX8_read_92 (by decide) ?_
        refine lv_icmp_ne (tgt := 101) hx hb dX8_read_94 (by decide) (fun c17 => ?_) (fun c17 => ?_)
        · rw [if_neg c17] at h
          refine lv_aload_n hx hb dX8_read_101 rfl (lv_at hl 0 rfl) ?_
          refine getF (q0 := 0) (k0 := 9) (v := .int q12.2.2.2.2.1) C hE hP inA8 rfl rfl (by decide) qFX8_25 rfl rfl dX8_read_102 ?_
          exact lX8_read_105 C hE hA hZ hret q12.2.2.2.2.1 m_chg q12.2.1 q12.2.2.1 q12.2.2.2.1 q12.2.2.2.2.1 m_err q12.1 q12.2.2.2.2.2.1 m_tap m_her m_cmd q15 v_mw v_mp q12.2.2.2.2.2.2.2 v_mc ⟨hP, hD⟩ hS _ (lv_sub hl [0] rfl) h
        · rw [if_pos c17] at h
          refine lv_iload_n hx hb dX8_read_97 rfl (lv_at hl 1 rfl) ?_
          refine lv_goto (tgt := 105) hx hb dX8_read_98 (by decide) ?_
          exact lX8_read_105 C hE hA hZ hret l2 m_chg q12.2.1 q12.2.2.1 q12.2.2.2.1 q12.2.2.2.2.1 m_err q12.1 q12.2.2.2.2.2.1 m_tap m_her m_cmd q15 v_mw v_mp q12.2.2.2.2.2.2.2 v_mc ⟨hP, hD⟩ hS _ (lv_sub hl [0] rfl) h
set_option maxHeartbeats 4000000 in
set_option maxRecDepth 100000 in
theorem lX8_read_20 {p : Program} {l : Launch} {e : Env} {s : State} {m : MethodId} {args : Array Value} {below : List Frame} {meth : Method} {c : Code} {Q : State → Prop} {D : va_G} {T : Nat → ClassId} {a_m a_ms a_mw a_mv a_mp a_mf a_ml a_mt a_mc : Nat} {m_sav : Int32} {m_lin : Int32} {v_mt : Nat → Int32} {A : Nat → Prop} {r : Nat × Int32 × Int32 × Int32 × Int32 × Int32 × Int32 × Int32 × Int32 × Int32 × Int32 × Int32 × Int32 × (Nat → Int32) × (Nat → Int32) × (Nat → Int32) × (Nat → Int32) × (Nat → Int32)} (C : CallFix p m c cX8_read 3 s args aw RX8) (hE : eK D T s) (hA : ∀ q : Nat, s.heap.size ≤ q → A q) (hZ : eX l A s) (hret : ThRetI p l e ({ frames := 7, cells := 0, slots := 0, locals := 165 } : Room) s m args below meth c Q cX8_read .int D A [(a_m, .inr (8, [.ref a_ms, .ref a_mw, .ref a_mv, .ref a_mp, .ref a_mf, .int r.2.2.1, .int r.2.2.2.1, .int r.2.2.2.2.1, .int r.2.2.2.2.2.1, .int r.2.2.2.2.2.2.1, .int r.2.2.2.2.2.2.2.1, .int r.2.2.2.2.2.2.2.2.1, .int m_sav, .int r.2.2.2.2.2.2.2.2.2.1, .ref a_ml, .int m_lin, .ref a_mt, .ref a_mc, .int r.2.2.2.2.2.2.2.2.2.2.1, .int r.2.2.2.2.2.2.2.2.2.2.2.1, .int r.2.2.2.2.2.2.2.2.2.2.2.2.1])), (a_ms, .inl (T 0, 103, .inl r.2.2.2.2.2.2.2.2.2.2.2.2.2.1)), (a_mw, .inl (T 0, 103, .inl r.2.2.2.2.2.2.2.2.2.2.2.2.2.2.1)), (a_mp, .inl (T 0, 618, .inl r.2.2.2.2.2.2.2.2.2.2.2.2.2.2.2.1)), (a_mf, .inl (T 0, 45, .inl r.2.2.2.2.2.2.2.2.2.2.2.2.2.2.2.2.1)), (a_mt, .inl (T 0, 60, .inl v_mt)), (a_mc, .inl (T 0, 124, .inl r.2.2.2.2.2.2.2.2.2.2.2.2.2.2.2.2.2))] r.1 r.2.1 ∧ ThOut p l e ({ frames := 7, cells := 0, slots := 0, locals := 165 } : Room) s m args below meth c Q D A [(a_m, .inr (8, [.ref a_ms, .ref a_mw, .ref a_mv, .ref a_mp, .ref a_mf, .int r.2.2.1, .int r.2.2.2.1, .int r.2.2.2.2.1, .int r.2.2.2.2.2.1, .int r.2.2.2.2.2.2.1, .int r.2.2.2.2.2.2.2.1, .int r.2.2.2.2.2.2.2.2.1, .int m_sav, .int r.2.2.2.2.2.2.2.2.2.1, .ref a_ml, .int m_lin, .ref a_mt, .ref a_mc, .int r.2.2.2.2.2.2.2.2.2.2.1, .int r.2.2.2.2.2.2.2.2.2.2.2.1, .int r.2.2.2.2.2.2.2.2.2.2.2.2.1])), (a_ms, .inl (T 0, 103, .inl r.2.2.2.2.2.2.2.2.2.2.2.2.2.1)), (a_mw, .inl (T 0, 103, .inl r.2.2.2.2.2.2.2.2.2.2.2.2.2.2.1)), (a_mp, .inl (T 0, 618, .inl r.2.2.2.2.2.2.2.2.2.2.2.2.2.2.2.1)), (a_mf, .inl (T 0, 45, .inl r.2.2.2.2.2.2.2.2.2.2.2.2.2.2.2.2.1)), (a_mt, .inl (T 0, 60, .inl v_mt)), (a_mc, .inl (T 0, 124, .inl r.2.2.2.2.2.2.2.2.2.2.2.2.2.2.2.2.2))] r.1 ∧ ThThr p l e ({ frames := 7, cells := 0, slots := 0, locals := 165 } : Room) s m args below meth c Q cX8_read RX8 D A [(a_m, .inr (8, [.ref a_ms, .ref a_mw, .ref a_mv, .ref a_mp, .ref a_mf, .int r.2.2.1, .int r.2.2.2.1, .int r.2.2.2.2.1, .int r.2.2.2.2.2.1, .int r.2.2.2.2.2.2.1, .int r.2.2.2.2.2.2.2.1, .int r.2.2.2.2.2.2.2.2.1, .int m_sav, .int r.2.2.2.2.2.2.2.2.2.1, .ref a_ml, .int m_lin, .ref a_mt, .ref a_mc, .int r.2.2.2.2.2.2.2.2.2.2.1, .int r.2.2.2.2.2.2.2.2.2.2.2.1, .int r.2.2.2.2.2.2.2.2.2.2.2.2.1])), (a_ms, .inl (T 0, 103, .inl r.2.2.2.2.2.2.2.2.2.2.2.2.2.1)), (a_mw, .inl (T 0, 103, .inl r.2.2.2.2.2.2.2.2.2.2.2.2.2.2.1)), (a_mp, .inl (T 0, 618, .inl r.2.2.2.2.2.2.2.2.2.2.2.2.2.2.2.1)), (a_mf, .inl (T 0, 45, .inl r.2.2.2.2.2.2.2.2.2.2.2.2.2.2.2.2.1)), (a_mt, .inl (T 0, 60, .inl v_mt)), (a_mc, .inl (T 0, 124, .inl r.2.2.2.2.2.2.2.2.2.2.2.2.2.2.2.2.2))] r.1) (x1 : Int32) (m_chg : Int32) (m_thr : Int32) (m_rea : Int32) (m_det : Int32) (m_ref : Int32) (m_err : Int32) (m_ans : Int32) (m_net : Int32) (m_tap : Int32) (m_her : Int32) (m_cmd : Int32) (v_ms : Nat → Int32) (v_mw : Nat → Int32) (v_mp : Nat → Int32) (v_mf : Nat → Int32) (v_mc : Nat → Int32) {H : Heap} {locs : List Loc} (hPD : va_PD D A [(a_m, .inr (8, [.ref a_ms, .ref a_mw, .ref a_mv, .ref a_mp, .ref a_mf, .int m_chg, .int m_thr, .int m_rea, .int m_det, .int m_ref, .int m_err, .int m_ans, .int m_sav, .int m_net, .ref a_ml, .int m_lin, .ref a_mt, .ref a_mc, .int m_tap, .int m_her, .int m_cmd])), (a_ms, .inl (T 0, 103, .inl v_ms)), (a_mw, .inl (T 0, 103, .inl v_mw)), (a_mp, .inl (T 0, 618, .inl v_mp)), (a_mf, .inl (T 0, 45, .inl v_mf)), (a_mt, .inl (T 0, 60, .inl v_mt)), (a_mc, .inl (T 0, 124, .inl v_mc))] H) (hS : va_S A s.heap H locs) (ls : Array Slot) (hl : lv_has ls 3 [(0, .ref a_m)]) (h : fX8_read_20 v_mt x1 m_chg m_thr m_rea m_det m_ref m_err m_ans m_net m_tap m_her m_cmd v_ms v_mw v_mp v_mf v_mc = some r) : W p l e ({ frames := 7, cells := 0, slots := 0, locals := 165 } : Room) s m args below meth c H locs 0 0 Q (F0 m 20 ls [.int x1, .ref a_m]) := by
  have hx := C.1
  have hb := C.2.1
  obtain ⟨hP, hD⟩ := hPD
  unfold fX8_read_20 at h
  refine lv_iconst (v := 1) hx hb dX8_read_20 (by decide) ?_
  replace h := bnd h; obtain ⟨q4, e5, h⟩ := h
  refine wrVi (ws1 := [(a_m, .inr (8, [.ref a_ms, .ref a_mw, .ref a_mv, .ref a_mp, .ref a_mf, .int m_chg, .int q4.2, .int m_rea, .int m_det, .int m_ref, .int m_err, .int m_ans, .int m_sav, .int m_net, .ref a_ml, .int m_lin, .ref a_mt, .ref a_mc, .int m_tap, .int m_her, .int m_cmd])), (a_ms, .inl (T 0, 103, .inl v_ms)), (a_mw, .inl (T 0, 103, .inl v_mw)), (a_mp, .inl (T 0, 618, .inl v_mp)), (a_mf, .inl (T 0, 45, .inl v_mf)), (a_mt, .inl (T 0, 60, .inl v_mt)), (a_mc, .inl (T 0, 124, .inl v_mc))]) C hE hP hD hS hA (kX8_isThrown l D T a_m a_ms a_mw a_mv a_mp a_mf a_ml a_mt a_mc m_chg m_thr m_rea m_det m_ref m_err m_ans m_sav m_net m_lin m_tap m_her m_cmd x1 1 _ q4 e5) mX8_isThrown qLX8_80 [0] [1, 2, 3, 4, 5, 6] 0 rfl rfl rfl rfl rfl rfl rfl rfl rfl ⟨rfl, rfl⟩ ⟨Nat.le_of_ble_eq_true rfl, Nat.le_of_ble_eq_true rfl⟩ rfl hl.1 rfl (Nat.le_of_ble_eq_true rfl) dX8_read_21 ⟨Nat.le_of_ble_eq_true rfl, Nat.le_of_ble_eq_true rfl⟩ ?_; clear hP hD hS; intro H locs hP hD hS
  refine lv_if_eq (tgt := 37) hx hb dX8_read_24 (by decide) (fun c6 => ?_) (fun c6 => ?_)
  · replace h := ite_t c6 h
    refine lv_aload_n hx hb dX8_read_37 rfl (lv_at hl 0 rfl) ?_
    replace h := bnd h; obtain ⟨q7, e8, h⟩ := h
    refine wrVv (ws1 := [(a_m, .inr (8, [.ref a_ms, .ref a_mw, .ref a_mv, .ref a_mp, .ref a_mf, .int m_chg, .int q7.1, .int m_rea, .int m_det, .int m_ref, .int m_err, .int m_ans, .int m_sav, .int m_net, .ref a_ml, .int m_lin, .ref a_mt, .ref a_mc, .int m_tap, .int m_her, .int m_cmd])), (a_ms, .inl (T 0, 103, .inl v_ms)), (a_mw, .inl (T 0, 103, .inl q7.2)), (a_mp, .inl (T 0, 618, .inl v_mp)), (a_mf, .inl (T 0, 45, .inl v_mf)), (a_mt, .inl (T 0, 60, .inl v_mt)), (a_mc, .inl (T 0, 124, .inl v_mc))]) C hE hP hD hS hA (kX8_keeps l D T a_m a_ms a_mw a_mv a_mp a_mf a_ml a_mt a_mc m_chg q4.2 m_rea m_det m_ref m_err m_ans m_sav m_net m_lin m_tap m_her m_cmd v_ms v_mw _ q7 e8) mX8_keeps qLX8_107 [0, 1, 2] [3, 4, 5, 6] 0 rfl rfl rfl rfl rfl rfl rfl rfl rfl ⟨rfl, rfl⟩ ⟨Nat.le_of_ble_eq_true rfl, Nat.le_of_ble_eq_true rfl⟩ rfl hl.1 rfl (Nat.le_of_ble_eq_true rfl) dX8_read_38 ⟨Nat.le_of_ble_eq_true rfl, Nat.le_of_ble_eq_true rfl⟩ ?_; clear hP hD hS; intro H locs hP hD hS
    refine lv_iconst (v := 0) hx hb dX8_read_41 (by decide) ?_
    refine lv_istore_n (lv' := [(2, .int 0), (0, .ref a_m)]) hx hb dX8_read_42 rfl hl (by decide) rfl (fun ls hl => ?_)
    exact lX8_read_43 C hE hA hZ hret 64 0 m_chg q7.1 m_rea m_det m_ref m_err m_ans m_net m_tap m_her m_cmd v_ms q7.2 v_mp v_mf v_mc ⟨hP, hD⟩ hS _ (lv_sub hl [1, 0] rfl) h
  · replace h := ite_f c6 h
    refine lv_aload_n hx hb dX8_read_27 rfl (lv_at hl 0 rfl) ?_
    refine lv_aload_n hx hb dX8_read_28 rfl (lv_at hl 0 rfl) ?_
    refine getF (q0 := 0) (k0 := 19) (v := .int m_her) C hE hP inA8 rfl rfl (by decide) qFX8_211 rfl rfl dX8_read_29 ?_
    refine putF (q0 := 0) (k0 := 10) (ws1 := [(a_m, .inr (8, [.ref a_ms, .ref a_mw, .ref a_mv, .ref a_mp, .ref a_mf, .int m_chg, .int q4.2, .int m_rea, .int m_det, .int m_ref, .int m_her, .int m_ans, .int m_sav, .int m_net, .ref a_ml, .int m_lin, .ref a_mt, .ref a_mc, .int m_tap, .int m_her, .int m_cmd])), (a_ms, .inl (T 0, 103, .inl v_ms)), (a_mw, .inl (T 0, 103, .inl v_mw)), (a_mp, .inl (T 0, 618, .inl v_mp)), (a_mf, .inl (T 0, 45, .inl v_mf)), (a_mt, .inl (T 0, 60, .inl v_mt)), (a_mc, .inl (T 0, 124, .inl v_mc))]) C hE hP hD hS inA8 tyX8_ok nmX8 rfl rfl (by decide) qFX8_29 rfl rfl rfl rfl (Nat.le_of_ble_eq_true rfl) rfl dX8_read_32 ?_; clear hP hD hS; intro H locs hP hD hS
    refine lv_iconst (v := 0) hx hb dX8_read_35 (by decide) ?_
    replace h := Option.some.inj h
    exact hret.1 _ _ _ _ _ _ _ _ (Nat.le_of_ble_eq_true rfl) (Nat.le_of_ble_eq_true rfl) dX8_read_36 rfl (by rw [← h]) (by rw [← h] <;> rfl) (by rw [← h]; exact hP) hS
set_option maxHeartbeats 4000000 in
set_option maxRecDepth 100000 in
theorem kX8_read (l : Launch) (hnt : l.stackTraces = false) (D : va_G) (T : Nat → ClassId) (a_m a_ms a_mw a_mv a_mp a_mf a_ml a_mt a_mc : Nat) (m_chg : Int32) (m_thr : Int32) (m_rea : Int32) (m_det : Int32) (m_ref : Int32) (m_err : Int32) (m_ans : Int32) (m_sav : Int32) (m_net : Int32) (m_lin : Int32) (m_tap : Int32) (m_her : Int32) (m_cmd : Int32) (v_ms : Nat → Int32) (v_mw : Nat → Int32) (v_mp : Nat → Int32) (v_mf : Nat → Int32) (v_mt : Nat → Int32) (v_mc : Nat → Int32) (sz : Nat) (r : Nat × Int32 × Int32 × Int32 × Int32 × Int32 × Int32 × Int32 × Int32 × Int32 × Int32 × Int32 × Int32 × (Nat → Int32) × (Nat → Int32) × (Nat → Int32) × (Nat → Int32) × (Nat → Int32)) (h : fX8_read m_chg m_thr m_rea m_det m_ref m_err m_ans m_net m_tap m_her m_cmd v_ms v_mw v_mp v_mf v_mt v_mc = some r) : ThI l yX8_read cX8_read 3 .int ({ frames := 7, cells := 0, slots := 0, locals := 165 } : Room) D T sz [(a_m, .inr (8, [.ref a_ms, .ref a_mw, .ref a_mv, .ref a_mp, .ref a_mf, .int m_chg, .int m_thr, .int m_rea, .int m_det, .int m_ref, .int m_err, .int m_ans, .int m_sav, .int m_net, .ref a_ml, .int m_lin, .ref a_mt, .ref a_mc, .int m_tap, .int m_her, .int m_cmd])), (a_ms, .inl (T 0, 103, .inl v_ms)), (a_mw, .inl (T 0, 103, .inl v_mw)), (a_mp, .inl (T 0, 618, .inl v_mp)), (a_mf, .inl (T 0, 45, .inl v_mf)), (a_mt, .inl (T 0, 60, .inl v_mt)), (a_mc, .inl (T 0, 124, .inl v_mc))] [(a_m, .inr (8, [.ref a_ms, .ref a_mw, .ref a_mv, .ref a_mp, .ref a_mf, .int r.2.2.1, .int r.2.2.2.1, .int r.2.2.2.2.1, .int r.2.2.2.2.2.1, .int r.2.2.2.2.2.2.1, .int r.2.2.2.2.2.2.2.1, .int r.2.2.2.2.2.2.2.2.1, .int m_sav, .int r.2.2.2.2.2.2.2.2.2.1, .ref a_ml, .int m_lin, .ref a_mt, .ref a_mc, .int r.2.2.2.2.2.2.2.2.2.2.1, .int r.2.2.2.2.2.2.2.2.2.2.2.1, .int r.2.2.2.2.2.2.2.2.2.2.2.2.1])), (a_ms, .inl (T 0, 103, .inl r.2.2.2.2.2.2.2.2.2.2.2.2.2.1)), (a_mw, .inl (T 0, 103, .inl r.2.2.2.2.2.2.2.2.2.2.2.2.2.2.1)), (a_mp, .inl (T 0, 618, .inl r.2.2.2.2.2.2.2.2.2.2.2.2.2.2.2.1)), (a_mf, .inl (T 0, 45, .inl r.2.2.2.2.2.2.2.2.2.2.2.2.2.2.2.2.1)), (a_mt, .inl (T 0, 60, .inl v_mt)), (a_mc, .inl (T 0, 124, .inl r.2.2.2.2.2.2.2.2.2.2.2.2.2.2.2.2.2))] [.ref a_m] r.1 r.2.1 := by
  unfold fX8_read at h
  refine thMetI hnt (by decide +kernel) rfl (fun p e s m args below meth c Q A C hE hA hZ hP hD hS hret ls hl => ?_)
  have hx := C.1
  have hb := C.2.1
  have hl : lv_has ls 3 [(0, .ref a_m)] := hl
  refine lv_aload_n hx hb dX8_read_0 rfl (lv_at hl 0 rfl) ?_
  replace h := bnd h; obtain ⟨q1, e2, h⟩ := h
  refine thVi (ws1 := [(a_m, .inr (8, [.ref a_ms, .ref a_mw, .ref a_mv, .ref a_mp, .ref a_mf, .int m_chg, .int m_thr, .int m_rea, .int m_det, .int m_ref, .int m_err, .int m_ans, .int m_sav, .int m_net, .ref a_ml, .int m_lin, .ref a_mt, .ref a_mc, .int m_tap, .int q1.2.2.1, .int q1.2.2.2.1])), (a_ms, .inl (T 0, 103, .inl v_ms)), (a_mw, .inl (T 0, 103, .inl v_mw)), (a_mp, .inl (T 0, 618, .inl v_mp)), (a_mf, .inl (T 0, 45, .inl v_mf)), (a_mt, .inl (T 0, 60, .inl v_mt)), (a_mc, .inl (T 0, 124, .inl q1.2.2.2.2))]) C hE hZ hP hD hS hA (kX8_isText l hZ.1 D T a_m a_ms a_mw a_mv a_mp a_mf a_ml a_mt a_mc m_chg m_thr m_rea m_det m_ref m_err m_ans m_sav m_net m_lin m_tap m_her m_cmd v_mt v_mc _ q1 e2) mX8_isText qLX8_243 [0, 5, 6] [1, 2, 3, 4] 0 rfl rfl rfl rfl rfl rfl rfl rfl rfl ⟨Nat.le_of_ble_eq_true rfl, Nat.le_of_ble_eq_true rfl⟩ rfl hl.1 rfl (Nat.le_of_ble_eq_true rfl) dX8_read_1 ⟨Nat.le_of_ble_eq_true rfl, Nat.le_of_ble_eq_true rfl⟩ ?_ ?_
  · clear hP hD hS; intro hx0 H locs ce q9 hP hD hS g1 g2 g3
    replace h := ite_f (Nat.ne_of_gt hx0) h
    replace h := Option.some.inj h
    exact hret.2.1 _ _ _ _ _ _ _ _ _ (Nat.le_of_ble_eq_true rfl) (Nat.le_of_ble_eq_true rfl) (by rw [← h]; exact hx0) (by rw [← h]; exact hP) hS g1 g2 (by rw [← h]; exact g3)
  · clear hP hD hS; intro hx0 H locs hP hD hS
    replace h := ite_t hx0 h
    refine lv_istore_n (lv' := [(1, .int q1.2.1), (0, .ref a_m)]) hx hb dX8_read_4 rfl hl (by decide) rfl (fun ls hl => ?_)
    refine lv_aload_n hx hb dX8_read_5 rfl (lv_at hl 1 rfl) ?_
    refine lv_iconst (v := 0) hx hb dX8_read_6 (by decide) ?_
    refine putF (q0 := 0) (k0 := 18) (ws1 := [(a_m, .inr (8, [.ref a_ms, .ref a_mw, .ref a_mv, .ref a_mp, .ref a_mf, .int m_chg, .int m_thr, .int m_rea, .int m_det, .int m_ref, .int m_err, .int m_ans, .int m_sav, .int m_net, .ref a_ml, .int m_lin, .ref a_mt, .ref a_mc, .int 0, .int q1.2.2.1, .int q1.2.2.2.1])), (a_ms, .inl (T 0, 103, .inl v_ms)), (a_mw, .inl (T 0, 103, .inl v_mw)), (a_mp, .inl (T 0, 618, .inl v_mp)), (a_mf, .inl (T 0, 45, .inl v_mf)), (a_mt, .inl (T 0, 60, .inl v_mt)), (a_mc, .inl (T 0, 124, .inl q1.2.2.2.2))]) C hE hP hD hS inA8 tyX8_ok nmX8 rfl rfl (by decide) qFX8_208 rfl rfl rfl rfl (Nat.le_of_ble_eq_true rfl) rfl dX8_read_7 ?_; clear hP hD hS; intro H locs hP hD hS
    refine lv_aload_n hx hb dX8_read_10 rfl (lv_at hl 1 rfl) ?_
    refine lv_iload_n hx hb dX8_read_11 rfl (lv_at hl 0 rfl) ?_
    refine lv_if_ne (tgt := 19) hx hb dX8_read_12 (by decide) (fun c3 => ?_) (fun c3 => ?_)
    · rw [if_neg c3] at h
      refine lv_iconst (v := 0) hx hb dX8_read_19 (by decide) ?_
      exact lX8_read_20 C hE hA hZ hret 0 m_chg m_thr m_rea m_det m_ref m_err m_ans m_net 0 q1.2.2.1 q1.2.2.2.1 v_ms v_mw v_mp v_mf q1.2.2.2.2 ⟨hP, hD⟩ hS _ (lv_sub hl [1] rfl) h
    · rw [if_pos c3] at h
      refine lv_iconst (v := 1) hx hb dX8_read_15 (by decide) ?_
      refine lv_goto (tgt := 20) hx hb dX8_read_16 (by decide) ?_
      exact lX8_read_20 C hE hA hZ hret 1 m_chg m_thr m_rea m_det m_ref m_err m_ans m_net 0 q1.2.2.1 q1.2.2.2.1 v_ms v_mw v_mp v_mf q1.2.2.2.2 ⟨hP, hD⟩ hS _ (lv_sub hl [1] rfl) h
