def fX7_undo (h_old : Int32) (h_siz : Int32) (v_gw : Nat → Int32) (v_gk : Nat → Int32) (v_h0w : Nat → Int32) (v_h0k : Nat → Int32) (v_h1w : Nat → Int32) (v_h1k : Nat → Int32) (v_h2w : Nat → Int32) (v_h2k : Nat → Int32) (v_h3w : Nat → Int32) (v_h3k : Nat → Int32) (v_h4w : Nat → Int32) (v_h4k : Nat → Int32) (v_h5w : Nat → Int32) (v_h5k : Nat → Int32) : Option (Nat × Int32 × Int32 × (Nat → Int32) × (Nat → Int32)) :=
  if (fX2_size h_siz) = 0 then
    some (4, 0, h_siz, v_gw, v_gk)
  else
    (fX2_takeBack h_old h_siz v_gw v_gk v_h0w v_h0k v_h1w v_h1k v_h2w v_h2k v_h3w v_h3k v_h4w v_h4k v_h5w v_h5k).bind fun q2 =>
    some (0, (fX2_size q2.1), q2.1, q2.2.1, q2.2.2)
set_option maxHeartbeats 4000000 in
set_option maxRecDepth 100000 in
theorem kX7_undo (l : Launch) (hnt : l.stackTraces = false) (D : va_G) (T : Nat → ClassId) (a_g a_gw a_gk a_h0 a_h0w a_h0k a_h1 a_h1w a_h1k a_h2 a_h2w a_h2k a_h3 a_h3w a_h3k a_h4 a_h4w a_h4k a_h5 a_h5w a_h5k a_h a_hp a_x a_b a_v a_r a_f a_u a_t a_n : Nat) (h_old : Int32) (h_siz : Int32) (x_sav : Int32) (x_err : Int32) (x_rea : Int32) (x_det : Int32) (x_com : Int32) (v_gw : Nat → Int32) (v_gk : Nat → Int32) (v_h0w : Nat → Int32) (v_h0k : Nat → Int32) (v_h1w : Nat → Int32) (v_h1k : Nat → Int32) (v_h2w : Nat → Int32) (v_h2k : Nat → Int32) (v_h3w : Nat → Int32) (v_h3k : Nat → Int32) (v_h4w : Nat → Int32) (v_h4k : Nat → Int32) (v_h5w : Nat → Int32) (v_h5k : Nat → Int32) (sz : Nat) (r : Nat × Int32 × Int32 × (Nat → Int32) × (Nat → Int32)) (h : fX7_undo h_old h_siz v_gw v_gk v_h0w v_h0k v_h1w v_h1k v_h2w v_h2k v_h3w v_h3k v_h4w v_h4k v_h5w v_h5k = some r) : ThI l yX7_undo cX7_undo 1 .int ({ frames := 6, cells := 1, slots := 6, locals := 142 } : Room) D T sz [(a_g, .inr (1, [.ref a_gw, .ref a_gk])), (a_h0, .inr (1, [.ref a_h0w, .ref a_h0k])), (a_h1, .inr (1, [.ref a_h1w, .ref a_h1k])), (a_h2, .inr (1, [.ref a_h2w, .ref a_h2k])), (a_h3, .inr (1, [.ref a_h3w, .ref a_h3k])), (a_h4, .inr (1, [.ref a_h4w, .ref a_h4k])), (a_h5, .inr (1, [.ref a_h5w, .ref a_h5k])), (a_h, .inr (2, [.ref a_hp, .int h_old, .int h_siz])), (a_x, .inr (7, [.ref a_g, .ref a_b, .ref a_v, .ref a_h, .ref a_r, .ref a_f, .ref a_u, .ref a_t, .ref a_n, .int x_sav, .int x_err, .int x_rea, .int x_det, .int x_com])), (a_gw, .inl (T 0, 90, .inl v_gw)), (a_gk, .inl (T 0, 18, .inl v_gk)), (a_h0w, .inl (T 0, 90, .inl v_h0w)), (a_h0k, .inl (T 0, 18, .inl v_h0k)), (a_h1w, .inl (T 0, 90, .inl v_h1w)), (a_h1k, .inl (T 0, 18, .inl v_h1k)), (a_h2w, .inl (T 0, 90, .inl v_h2w)), (a_h2k, .inl (T 0, 18, .inl v_h2k)), (a_h3w, .inl (T 0, 90, .inl v_h3w)), (a_h3k, .inl (T 0, 18, .inl v_h3k)), (a_h4w, .inl (T 0, 90, .inl v_h4w)), (a_h4k, .inl (T 0, 18, .inl v_h4k)), (a_h5w, .inl (T 0, 90, .inl v_h5w)), (a_h5k, .inl (T 0, 18, .inl v_h5k)), (a_hp, .inl (T 3, 6, .inr (.inr (.inr (.inr (hpF a_h0 a_h1 a_h2 a_h3 a_h4 a_h5))))))] [(a_g, .inr (1, [.ref a_gw, .ref a_gk])), (a_h0, .inr (1, [.ref a_h0w, .ref a_h0k])), (a_h1, .inr (1, [.ref a_h1w, .ref a_h1k])), (a_h2, .inr (1, [.ref a_h2w, .ref a_h2k])), (a_h3, .inr (1, [.ref a_h3w, .ref a_h3k])), (a_h4, .inr (1, [.ref a_h4w, .ref a_h4k])), (a_h5, .inr (1, [.ref a_h5w, .ref a_h5k])), (a_h, .inr (2, [.ref a_hp, .int h_old, .int r.2.2.1])), (a_x, .inr (7, [.ref a_g, .ref a_b, .ref a_v, .ref a_h, .ref a_r, .ref a_f, .ref a_u, .ref a_t, .ref a_n, .int x_sav, .int x_err, .int x_rea, .int x_det, .int x_com])), (a_gw, .inl (T 0, 90, .inl r.2.2.2.1)), (a_gk, .inl (T 0, 18, .inl r.2.2.2.2)), (a_h0w, .inl (T 0, 90, .inl v_h0w)), (a_h0k, .inl (T 0, 18, .inl v_h0k)), (a_h1w, .inl (T 0, 90, .inl v_h1w)), (a_h1k, .inl (T 0, 18, .inl v_h1k)), (a_h2w, .inl (T 0, 90, .inl v_h2w)), (a_h2k, .inl (T 0, 18, .inl v_h2k)), (a_h3w, .inl (T 0, 90, .inl v_h3w)), (a_h3k, .inl (T 0, 18, .inl v_h3k)), (a_h4w, .inl (T 0, 90, .inl v_h4w)), (a_h4k, .inl (T 0, 18, .inl v_h4k)), (a_h5w, .inl (T 0, 90, .inl v_h5w)), (a_h5k, .inl (T 0, 18, .inl v_h5k)), (a_hp, .inl (T 3, 6, .inr (.inr (.inr (.inr (hpF a_h0 a_h1 a_h2 a_h3 a_h4 a_h5))))))] [.ref a_x] r.1 r.2.1 := by
  unfold fX7_undo at h
  refine thMetI hnt (by decide +kernel) rfl (fun p e s m args below meth c Q A C hE hA hZ hP hD hS hret ls hl => ?_)
  have hx := C.1
  have hb := C.2.1
  have hl : lv_has ls 1 [(0, .ref a_x)] := hl
  refine lv_aload_n hx hb dX7_undo_0 rfl (lv_at hl 0 rfl) ?_
  refine getF (q0 := 8) (k0 := 3) (v := .ref a_h) C hE hP inA7 rfl rfl (by decide) qFX7_25 rfl rfl dX7_undo_1 ?_
  refine rdV C hE hP (kX2_size l D T a_h a_hp h_old h_siz) mX2_size qLX7_309 [7] 7 rfl rfl rfl rfl ⟨rfl, rfl⟩ ⟨Nat.le_of_ble_eq_true rfl, Nat.le_of_ble_eq_true rfl⟩ rfl hl.1 rfl (Nat.le_of_ble_eq_true rfl) dX7_undo_4 ⟨Nat.le_of_ble_eq_true rfl, Nat.le_of_ble_eq_true rfl⟩ ?_
  refine lv_if_ne (tgt := 21) hx hb dX7_undo_7 (by decide) (fun c1 => ?_) (fun c1 => ?_)
  · replace h := ite_f c1 h
    refine lv_aload_n hx hb dX7_undo_21 rfl (lv_at hl 0 rfl) ?_
    refine getF (q0 := 8) (k0 := 3) (v := .ref a_h) C hE hP inA7 rfl rfl (by decide) qFX7_25 rfl rfl dX7_undo_22 ?_
    refine lv_aload_n hx hb dX7_undo_25 rfl (lv_at hl 0 rfl) ?_
    refine getF (q0 := 8) (k0 := 0) (v := .ref a_g) C hE hP inA7 rfl rfl (by decide) qFX7_10 rfl rfl dX7_undo_26 ?_
    replace h := bnd h; obtain ⟨q2, e3, h⟩ := h
    refine wrVv (ws1 := [(a_g, .inr (1, [.ref a_gw, .ref a_gk])), (a_h0, .inr (1, [.ref a_h0w, .ref a_h0k])), (a_h1, .inr (1, [.ref a_h1w, .ref a_h1k])), (a_h2, .inr (1, [.ref a_h2w, .ref a_h2k])), (a_h3, .inr (1, [.ref a_h3w, .ref a_h3k])), (a_h4, .inr (1, [.ref a_h4w, .ref a_h4k])), (a_h5, .inr (1, [.ref a_h5w, .ref a_h5k])), (a_h, .inr (2, [.ref a_hp, .int h_old, .int q2.1])), (a_x, .inr (7, [.ref a_g, .ref a_b, .ref a_v, .ref a_h, .ref a_r, .ref a_f, .ref a_u, .ref a_t, .ref a_n, .int x_sav, .int x_err, .int x_rea, .int x_det, .int x_com])), (a_gw, .inl (T 0, 90, .inl q2.2.1)), (a_gk, .inl (T 0, 18, .inl q2.2.2)), (a_h0w, .inl (T 0, 90, .inl v_h0w)), (a_h0k, .inl (T 0, 18, .inl v_h0k)), (a_h1w, .inl (T 0, 90, .inl v_h1w)), (a_h1k, .inl (T 0, 18, .inl v_h1k)), (a_h2w, .inl (T 0, 90, .inl v_h2w)), (a_h2k, .inl (T 0, 18, .inl v_h2k)), (a_h3w, .inl (T 0, 90, .inl v_h3w)), (a_h3k, .inl (T 0, 18, .inl v_h3k)), (a_h4w, .inl (T 0, 90, .inl v_h4w)), (a_h4k, .inl (T 0, 18, .inl v_h4k)), (a_h5w, .inl (T 0, 90, .inl v_h5w)), (a_h5k, .inl (T 0, 18, .inl v_h5k)), (a_hp, .inl (T 3, 6, .inr (.inr (.inr (.inr (hpF a_h0 a_h1 a_h2 a_h3 a_h4 a_h5))))))]) C hE hP hD hS hA (kX2_takeBack l D T a_g a_gw a_gk a_h0 a_h0w a_h0k a_h1 a_h1w a_h1k a_h2 a_h2w a_h2k a_h3 a_h3w a_h3k a_h4 a_h4w a_h4k a_h5 a_h5w a_h5k a_h a_hp h_old h_siz v_gw v_gk v_h0w v_h0k v_h1w v_h1k v_h2w v_h2k v_h3w v_h3k v_h4w v_h4k v_h5w v_h5k _ q2 e3) mX2_takeBack qLX7_368 [0, 1, 2, 3, 4, 5, 6, 7, 9, 10, 11, 12, 13, 14, 15, 16, 17, 18, 19, 20, 21, 22, 23] [8] 7 rfl rfl rfl rfl rfl rfl rfl rfl rfl ⟨rfl, rfl⟩ ⟨Nat.le_of_ble_eq_true rfl, Nat.le_of_ble_eq_true rfl⟩ rfl hl.1 rfl (Nat.le_of_ble_eq_true rfl) dX7_undo_29 ⟨Nat.le_of_ble_eq_true rfl, Nat.le_of_ble_eq_true rfl⟩ ?_; clear hP hD hS; intro H locs hP hD hS
    refine lv_aload_n hx hb dX7_undo_32 rfl (lv_at hl 0 rfl) ?_
    refine getF (q0 := 8) (k0 := 3) (v := .ref a_h) C hE hP inA7 rfl rfl (by decide) qFX7_25 rfl rfl dX7_undo_33 ?_
    refine rdV C hE hP (kX2_size l D T a_h a_hp h_old q2.1) mX2_size qLX7_309 [7] 7 rfl rfl rfl rfl ⟨rfl, rfl⟩ ⟨Nat.le_of_ble_eq_true rfl, Nat.le_of_ble_eq_true rfl⟩ rfl hl.1 rfl (Nat.le_of_ble_eq_true rfl) dX7_undo_36 ⟨Nat.le_of_ble_eq_true rfl, Nat.le_of_ble_eq_true rfl⟩ ?_
    replace h := Option.some.inj h
    exact hret.1 _ _ _ _ _ _ _ _ (Nat.le_of_ble_eq_true rfl) (Nat.le_of_ble_eq_true rfl) dX7_undo_39 rfl (by rw [← h]) (by rw [← h] <;> rfl) (by rw [← h]; exact hP) hS
  · replace h := ite_t c1 h
    replace h := Option.some.inj h
    exact hret.2.2 _ _ _ _ _ _ _ 173 177 366 _ "no change is remembered" (by rw [← h]; exact thrX7_173_177_4) (by decide +kernel) dX7_undo_10 dX7_undo_13 (Or.inr ⟨dX7_undo_14, dX7_undo_17, dX7_undo_20⟩) (Nat.le_of_ble_eq_true rfl) (Nat.le_of_ble_eq_true rfl) (Nat.le_of_ble_eq_true rfl) (Nat.le_of_ble_eq_true rfl) (hl.1.trans C.2.2.1.symm) (by rw [← h]; exact (Nat.le_of_ble_eq_true rfl)) (by rw [← h]; exact hP) hS

def fX8_isWay (m_tap : Int32) (m_her : Int32) (v_mt : Nat → Int32) (v_mc : Nat → Int32) (p0 : Int32) : Option (Nat × Int32 × Int32 × (Nat → Int32)) :=
  (fX8_isSign m_tap m_her v_mt 110).bind fun q3 =>
  if q3.1 = 0 then
    (fX8_isSign m_tap q3.2 v_mt 101).bind fun q8 =>
    if q8.1 = 0 then
      (fX8_isSign m_tap q8.2 v_mt 115).bind fun q13 =>
      if q13.1 = 0 then
        (fX8_isSign m_tap q13.2 v_mt 119).bind fun q18 =>
        if q18.1 = 0 then
          some (0, 0, q18.2, v_mc)
        else
          if vin p0 124 = true then
          some (0, 1, q18.2, (upd v_mc p0.toNatClampNeg 3))
          else none
      else
        if vin p0 124 = true then
        some (0, 1, q13.2, (upd v_mc p0.toNatClampNeg 2))
        else none
    else
      if vin p0 124 = true then
      some (0, 1, q8.2, (upd v_mc p0.toNatClampNeg 1))
      else none
  else
    if vin p0 124 = true then
    some (0, 1, q3.2, (upd v_mc p0.toNatClampNeg 0))
    else none
set_option maxHeartbeats 4000000 in
set_option maxRecDepth 100000 in
theorem kX8_isWay (l : Launch) (hnt : l.stackTraces = false) (D : va_G) (T : Nat → ClassId) (a_m a_ms a_mw a_mv a_mp a_mf a_ml a_mt a_mc : Nat) (m_chg : Int32) (m_thr : Int32) (m_rea : Int32) (m_det : Int32) (m_ref : Int32) (m_err : Int32) (m_ans : Int32) (m_sav : Int32) (m_net : Int32) (m_lin : Int32) (m_tap : Int32) (m_her : Int32) (m_cmd : Int32) (v_mt : Nat → Int32) (v_mc : Nat → Int32) (p0 : Int32) (sz : Nat) (r : Nat × Int32 × Int32 × (Nat → Int32)) (h : fX8_isWay m_tap m_her v_mt v_mc p0 = some r) : ThI l yX8_isWay cX8_isWay 3 .boolean ({ frames := 4, cells := 0, slots := 0, locals := 85 } : Room) D T sz [(a_m, .inr (8, [.ref a_ms, .ref a_mw, .ref a_mv, .ref a_mp, .ref a_mf, .int m_chg, .int m_thr, .int m_rea, .int m_det, .int m_ref, .int m_err, .int m_ans, .int m_sav, .int m_net, .ref a_ml, .int m_lin, .ref a_mt, .ref a_mc, .int m_tap, .int m_her, .int m_cmd])), (a_mt, .inl (T 0, 60, .inl v_mt)), (a_mc, .inl (T 0, 124, .inl v_mc))] [(a_m, .inr (8, [.ref a_ms, .ref a_mw, .ref a_mv, .ref a_mp, .ref a_mf, .int m_chg, .int m_thr, .int m_rea, .int m_det, .int m_ref, .int m_err, .int m_ans, .int m_sav, .int m_net, .ref a_ml, .int m_lin, .ref a_mt, .ref a_mc, .int m_tap, .int r.2.2.1, .int m_cmd])), (a_mt, .inl (T 0, 60, .inl v_mt)), (a_mc, .inl (T 0, 124, .inl r.2.2.2))] [.ref a_m, .int p0] r.1 r.2.1 := by
  unfold fX8_isWay at h
  refine thMetI hnt (by decide +kernel) rfl (fun p e s m args below meth c Q A C hE hA hZ hP hD hS hret ls hl => ?_)
  have hx := C.1
  have hb := C.2.1
  have hl : lv_has ls 3 [(0, .ref a_m), (1, .int p0)] := hl
  refine lv_iconst (v := 0) hx hb dX8_isWay_0 (by decide) ?_
  refine lv_istore_n (lv' := [(2, .int 0), (0, .ref a_m), (1, .int p0)]) hx hb dX8_isWay_1 rfl hl (by decide) rfl (fun ls hl => ?_)
  refine lv_iload_n hx hb dX8_isWay_2 rfl (lv_at hl 0 rfl) ?_
  refine lv_iconst (v := 4) hx hb dX8_isWay_3 (by decide) ?_
  refine lv_icmp_ge (tgt := 35) hx hb dX8_isWay_4 (by decide) (fun c1 => absurd c1 (by decide)) (fun c1 => ?_)
  refine lv_aload_n hx hb dX8_isWay_7 rfl (lv_at hl 1 rfl) ?_
  obtain ⟨as2, vs2, hrs2, hjs2⟩ := eS_at (own := RX8) (k := 217) (tx := "nesw") (bs := [110, 101, 115, 119]) hZ 8 rfl
  refine va_ldcS hx hb C.2.2.2.1 hrs2 dX8_isWay_8 ?_
  refine lv_iload_n hx hb dX8_isWay_10 rfl (lv_at hl 0 rfl) ?_
  refine prV (r := 110) C JP.blind (JP.recv hjs2 hS) (fun U hU hW => JP.use hjs2 hS hU hW) (kJ0_charAt_5068e l as2 vs2 [110, 101, 115, 119] 0 110 (by decide)) mJ0_charAt_5068e qLX8_219 ⟨rfl, rfl⟩ ⟨Nat.le_of_ble_eq_true rfl, Nat.le_of_ble_eq_true rfl⟩ rfl hl.1 rfl (Nat.le_of_ble_eq_true rfl) dX8_isWay_11 ⟨Nat.le_of_ble_eq_true rfl, Nat.le_of_ble_eq_true rfl⟩ ?_
  replace h := bnd h; obtain ⟨q3, e4, h⟩ := h
  refine wrVi (ws1 := [(a_m, .inr (8, [.ref a_ms, .ref a_mw, .ref a_mv, .ref a_mp, .ref a_mf, .int m_chg, .int m_thr, .int m_rea, .int m_det, .int m_ref, .int m_err, .int m_ans, .int m_sav, .int m_net, .ref a_ml, .int m_lin, .ref a_mt, .ref a_mc, .int m_tap, .int q3.2, .int m_cmd])), (a_mt, .inl (T 0, 60, .inl v_mt)), (a_mc, .inl (T 0, 124, .inl v_mc))]) C hE hP hD hS hA (kX8_isSign l D T a_m a_ms a_mw a_mv a_mp a_mf a_ml a_mt a_mc m_chg m_thr m_rea m_det m_ref m_err m_ans m_sav m_net m_lin m_tap m_her m_cmd v_mt 110 _ q3 e4) mX8_isSign qLX8_225 [0, 1] [2] 0 rfl rfl rfl rfl rfl rfl rfl rfl rfl ⟨rfl, rfl⟩ ⟨Nat.le_of_ble_eq_true rfl, Nat.le_of_ble_eq_true rfl⟩ rfl hl.1 rfl (Nat.le_of_ble_eq_true rfl) dX8_isWay_14 ⟨Nat.le_of_ble_eq_true rfl, Nat.le_of_ble_eq_true rfl⟩ ?_; clear hP hD hS; intro H locs hP hD hS
  refine lv_if_eq (tgt := 29) hx hb dX8_isWay_17 (by decide) (fun c5 => ?_) (fun c5 => ?_)
  · replace h := ite_t c5 h
    refine lv_iinc (v := 1) (lv' := [(2, .int 1), (0, .ref a_m), (1, .int p0)]) hx hb dX8_isWay_29 hl (k := 0) rfl rfl (by decide) rfl (fun ls hl => ?_)
    refine lv_goto (tgt := 2) hx hb dX8_isWay_32 (by decide) ?_
    refine lv_iload_n hx hb dX8_isWay_2 rfl (lv_at hl 0 rfl) ?_
    refine lv_iconst (v := 4) hx hb dX8_isWay_3 (by decide) ?_
    refine lv_icmp_ge (tgt := 35) hx hb dX8_isWay_4 (by decide) (fun c6 => absurd c6 (by decide)) (fun c6 => ?_)
    refine lv_aload_n hx hb dX8_isWay_7 rfl (lv_at hl 1 rfl) ?_
    obtain ⟨as7, vs7, hrs7, hjs7⟩ := eS_at (own := RX8) (k := 217) (tx := "nesw") (bs := [110, 101, 115, 119]) hZ 8 rfl
    refine va_ldcS hx hb C.2.2.2.1 hrs7 dX8_isWay_8 ?_
    refine lv_iload_n hx hb dX8_isWay_10 rfl (lv_at hl 0 rfl) ?_
    refine prV (r := 101) C JP.blind (JP.recv hjs7 hS) (fun U hU hW => JP.use hjs7 hS hU hW) (kJ0_charAt_5068e l as7 vs7 [110, 101, 115, 119] 1 101 (by decide)) mJ0_charAt_5068e qLX8_219 ⟨rfl, rfl⟩ ⟨Nat.le_of_ble_eq_true rfl, Nat.le_of_ble_eq_true rfl⟩ rfl hl.1 rfl (Nat.le_of_ble_eq_true rfl) dX8_isWay_11 ⟨Nat.le_of_ble_eq_true rfl, Nat.le_of_ble_eq_true rfl⟩ ?_
    replace h := bnd h; obtain ⟨q8, e9, h⟩ := h
    refine wrVi (ws1 := [(a_m, .inr (8, [.ref a_ms, .ref a_mw, .ref a_mv, .ref a_mp, .ref a_mf, .int m_chg, .int m_thr, .int m_rea, .int m_det, .int m_ref, .int m_err, .int m_ans, .int m_sav, .int m_net, .ref a_ml, .int m_lin, .ref a_mt, .ref a_mc, .int m_tap, .int q8.2, .int m_cmd])), (a_mt, .inl (T 0, 60, .inl v_mt)), (a_mc, .inl (T 0, 124, .inl v_mc))]) C hE hP hD hS hA (kX8_isSign l D T a_m a_ms a_mw a_mv a_mp a_mf a_ml a_mt a_mc m_chg m_thr m_rea m_det m_ref m_err m_ans m_sav m_net m_lin m_tap q3.2 m_cmd v_mt 101 _ q8 e9) mX8_isSign qLX8_225 [0, 1] [2] 0 rfl rfl rfl rfl rfl rfl rfl rfl rfl ⟨rfl, rfl⟩ ⟨Nat.le_of_ble_eq_true rfl, Nat.le_of_ble_eq_true rfl⟩ rfl hl.1 rfl (Nat.le_of_ble_eq_true rfl) dX8_isWay_14 ⟨Nat.le_of_ble_eq_true rfl, Nat.le_of_ble_eq_true rfl⟩ ?_; clear hP hD hS; intro H locs hP hD hS
    refine lv_if_eq (tgt := 29) hx hb dX8_isWay_17 (by decide) (fun c10 => ?_) (fun c10 => ?_)
    · replace h := ite_t c10 h
      refine lv_iinc (v := 2) (lv' := [(2, .int 2), (0, .ref a_m), (1, .int p0)]) hx hb dX8_isWay_29 hl (k := 0) rfl rfl (by decide) rfl (fun ls hl => ?_)
      refine lv_goto (tgt := 2) hx hb dX8_isWay_32 (by decide) ?_
      refine lv_iload_n hx hb dX8_isWay_2 rfl (lv_at hl 0 rfl) ?_
      refine lv_iconst (v := 4) hx hb dX8_isWay_3 (by decide) ?_
      refine lv_icmp_ge (tgt := 35) hx hb dX8_isWay_4 (by decide) (fun c11 => absurd c11 (by decide)) (fun c11 => ?_)
      refine lv_aload_n hx hb dX8_isWay_7 rfl (lv_at hl 1 rfl) ?_
      obtain ⟨as12, vs12, hrs12, hjs12⟩ := eS_at (own := RX8) (k := 217) (tx := "nesw") (bs := [110, 101, 115, 119]) hZ 8 rfl
      refine va_ldcS hx hb C.2.2.2.1 hrs12 dX8_isWay_8 ?_
      refine lv_iload_n hx hb dX8_isWay_10 rfl (lv_at hl 0 rfl) ?_
      refine prV (r := 115) C JP.blind (JP.recv hjs12 hS) (fun U hU hW => JP.use hjs12 hS hU hW) (kJ0_charAt_5068e l as12 vs12 [110, 101, 115, 119] 2 115 (by decide)) mJ0_charAt_5068e qLX8_219 ⟨rfl, rfl⟩ ⟨Nat.le_of_ble_eq_true rfl, Nat.le_of_ble_eq_true rfl⟩ rfl hl.1 rfl (Nat.le_of_ble_eq_true rfl) dX8_isWay_11 ⟨Nat.le_of_ble_eq_true rfl, Nat.le_of_ble_eq_true rfl⟩ ?_
      replace h := bnd h; obtain ⟨q13, e14, h⟩ := h
      refine wrVi (ws1 := [(a_m, .inr (8, [.ref a_ms, .ref a_mw, .ref a_mv, .ref a_mp, .ref a_mf, .int m_chg, .int m_thr, .int m_rea, .int m_det, .int m_ref, .int m_err, .int m_ans, .int m_sav, .int m_net, .ref a_ml, .int m_lin, .ref a_mt, .ref a_mc, .int m_tap, .int q13.2, .int m_cmd])), (a_mt, .inl (T 0, 60, .inl v_mt)), (a_mc, .inl (T 0, 124, .inl v_mc))]) C hE hP hD hS hA (kX8_isSign l D T a_m a_ms a_mw a_mv a_mp a_mf a_ml a_mt a_mc m_chg m_thr m_rea m_det m_ref m_err m_ans m_sav m_net m_lin m_tap q8.2 m_cmd v_mt 115 _ q13 e14) mX8_isSign qLX8_225 [0, 1] [2] 0 rfl rfl rfl rfl rfl rfl rfl rfl rfl ⟨rfl, rfl⟩ ⟨Nat.le_of_ble_eq_true rfl, Nat.le_of_ble_eq_true rfl⟩ rfl hl.1 rfl (Nat.le_of_ble_eq_true rfl) dX8_isWay_14 ⟨Nat.le_of_ble_eq_true rfl, Nat.le_of_ble_eq_true rfl⟩ ?_; clear hP hD hS; intro H locs hP hD hS
      refine lv_if_eq (tgt := 29) hx hb dX8_isWay_17 (by decide) (fun c15 => ?_) (fun c15 => ?_)
      · replace h := ite_t c15 h
        refine lv_iinc (v := 3) (lv' := [(2, .int 3), (0, .ref a_m), (1, .int p0)]) hx hb dX8_isWay_29 hl (k := 0) rfl rfl (by decide) rfl (fun ls hl => ?_)
        refine lv_goto (tgt := 2) hx hb dX8_isWay_32 (by decide) ?_
        refine lv_iload_n hx hb dX8_isWay_2 rfl (lv_at hl 0 rfl) ?_
        refine lv_iconst (v := 4) hx hb dX8_isWay_3 (by decide) ?_
        refine lv_icmp_ge (tgt := 35) hx hb dX8_isWay_4 (by decide) (fun c16 => absurd c16 (by decide)) (fun c16 => ?_)
        refine lv_aload_n hx hb dX8_isWay_7 rfl (lv_at hl 1 rfl) ?_
        obtain ⟨as17, vs17, hrs17, hjs17⟩ := eS_at (own := RX8) (k := 217) (tx := "nesw") (bs := [110, 101, 115, 119]) hZ 8 rfl
        refine va_ldcS hx hb C.2.2.2.1 hrs17 dX8_isWay_8 ?_
        refine lv_iload_n hx hb dX8_isWay_10 rfl (lv_at hl 0 rfl) ?_
        refine prV (r := 119) C JP.blind (JP.recv hjs17 hS) (fun U hU hW => JP.use hjs17 hS hU hW) (kJ0_charAt_5068e l as17 vs17 [110, 101, 115, 119] 3 119 (by decide)) mJ0_charAt_5068e qLX8_219 ⟨rfl, rfl⟩ ⟨Nat.le_of_ble_eq_true rfl, Nat.le_of_ble_eq_true rfl⟩ rfl hl.1 rfl (Nat.le_of_ble_eq_true rfl) dX8_isWay_11 ⟨Nat.le_of_ble_eq_true rfl, Nat.le_of_ble_eq_true rfl⟩ ?_
        replace h := bnd h; obtain ⟨q18, e19, h⟩ := h
        refine wrVi (ws1 := [(a_m, .inr (8, [.ref a_ms, .ref a_mw, .ref a_mv, .ref a_mp, .ref a_mf, .int m_chg, .int m_thr, .int m_rea, .int m_det, .int m_ref, .int m_err, .int m_ans, .int m_sav, .int m_net, .ref a_ml, .int m_lin, .ref a_mt, .ref a_mc, .int m_tap, .int q18.2, .int m_cmd])), (a_mt, .inl (T 0, 60, .inl v_mt)), (a_mc, .inl (T 0, 124, .inl v_mc))]) C hE hP hD hS hA (kX8_isSign l D T a_m a_ms a_mw a_mv a_mp a_mf a_ml a_mt a_mc m_chg m_thr m_rea m_det m_ref m_err m_ans m_sav m_net m_lin m_tap q13.2 m_cmd v_mt 119 _ q18 e19) mX8_isSign qLX8_225 [0, 1] [2] 0 rfl rfl rfl rfl rfl rfl rfl rfl rfl ⟨rfl, rfl⟩ ⟨Nat.le_of_ble_eq_true rfl, Nat.le_of_ble_eq_true rfl⟩ rfl hl.1 rfl (Nat.le_of_ble_eq_true rfl) dX8_isWay_14 ⟨Nat.le_of_ble_eq_true rfl, Nat.le_of_ble_eq_true rfl⟩ ?_; clear hP hD hS; intro H locs hP hD hS
        refine lv_if_eq (tgt := 29) hx hb dX8_isWay_17 (by decide) (fun c20 => ?_) (fun c20 => ?_)
        · replace h := ite_t c20 h
          refine lv_iinc (v := 4) (lv' := [(2, .int 4), (0, .ref a_m), (1, .int p0)]) hx hb dX8_isWay_29 hl (k := 0) rfl rfl (by decide) rfl (fun ls hl => ?_)
          refine lv_goto (tgt := 2) hx hb dX8_isWay_32 (by decide) ?_
          refine lv_iload_n hx hb dX8_isWay_2 rfl (lv_at hl 0 rfl) ?_
          refine lv_iconst (v := 4) hx hb dX8_isWay_3 (by decide) ?_
          refine lv_icmp_ge (tgt := 35) hx hb dX8_isWay_4 (by decide) (fun c21 => ?_) (fun c21 => absurd c21 (by decide))
          refine lv_iconst (v := 0) hx hb dX8_isWay_35 (by decide) ?_
          replace h := Option.some.inj h
          exact hret.1 _ _ _ _ _ _ _ _ (Nat.le_of_ble_eq_true rfl) (Nat.le_of_ble_eq_true rfl) dX8_isWay_36 rfl (by rw [← h]) (by rw [← h] <;> rfl) (by rw [← h]; exact hP) hS
        · replace h := ite_f c20 h
          refine lv_aload_n hx hb dX8_isWay_20 rfl (lv_at hl 1 rfl) ?_
          refine getF (q0 := 0) (k0 := 17) (v := .ref a_mc) C hE hP inA8 rfl rfl (by decide) qFX8_38 rfl rfl dX8_isWay_21 ?_
          refine lv_iload_n hx hb dX8_isWay_24 rfl (lv_at hl 2 rfl) ?_
          refine lv_iload_n hx hb dX8_isWay_25 rfl (lv_at hl 0 rfl) ?_
          replace h := gd h; obtain ⟨g22, h⟩ := h
          refine astI (q0 := 2) (ws1 := [(a_m, .inr (8, [.ref a_ms, .ref a_mw, .ref a_mv, .ref a_mp, .ref a_mf, .int m_chg, .int m_thr, .int m_rea, .int m_det, .int m_ref, .int m_err, .int m_ans, .int m_sav, .int m_net, .ref a_ml, .int m_lin, .ref a_mt, .ref a_mc, .int m_tap, .int q18.2, .int m_cmd])), (a_mt, .inl (T 0, 60, .inl v_mt)), (a_mc, .inl (T 0, 124, .inl (upd v_mc p0.toNatClampNeg 3)))]) C hE hP hD hS rfl g22 rfl dX8_isWay_26 ?_; clear hP hD hS; intro H locs hP hD hS
          refine lv_iconst (v := 1) hx hb dX8_isWay_27 (by decide) ?_
          replace h := Option.some.inj h
          exact hret.1 _ _ _ _ _ _ _ _ (Nat.le_of_ble_eq_true rfl) (Nat.le_of_ble_eq_true rfl) dX8_isWay_28 rfl (by rw [← h]) (by rw [← h] <;> rfl) (by rw [← h]; exact hP) hS
      · replace h := ite_f c15 h
        refine lv_aload_n hx hb dX8_isWay_20 rfl (lv_at hl 1 rfl) ?_
        refine getF (q0 := 0) (k0 := 17) (v := .ref a_mc) C hE hP inA8 rfl rfl (by decide) qFX8_38 rfl rfl dX8_isWay_21 ?_
        refine lv_iload_n hx hb dX8_isWay_24 rfl (lv_at hl 2 rfl) ?_
        refine lv_iload_n hx hb dX8_isWay_25 rfl (lv_at hl 0 rfl) ?_
        replace h := gd h; obtain ⟨g23, h⟩ := h
        refine astI (q0 := 2) (ws1 := [(a_m, .inr (8, [.ref a_ms, .ref a_mw, .ref a_mv, .ref a_mp, .ref a_mf, .int m_chg, .int m_thr, .int m_rea, .int m_det, .int m_ref, .int m_err, .int m_ans, .int m_sav, .int m_net, .ref a_ml, .int m_lin, .ref a_mt, .ref a_mc, .int m_tap, .int q13.2, .int m_cmd])), (a_mt, .inl (T 0, 60, .inl v_mt)), (a_mc, .inl (T 0, 124, .inl (upd v_mc p0.toNatClampNeg 2)))]) C hE hP hD hS rfl g23 rfl dX8_isWay_26 ?_; clear hP hD hS; intro H locs hP hD hS
        refine lv_iconst (v := 1) hx hb dX8_isWay_27 (by decide) ?_
        replace h := Option.some.inj h
        exact hret.1 _ _ _ _ _ _ _ _ (Nat.le_of_ble_eq_true rfl) (Nat.le_of_ble_eq_true rfl) dX8_isWay_28 rfl (by rw [← h]) (by rw [← h] <;> rfl) (by rw [← h]; exact hP) hS
    · replace h := ite_f c10 h
      refine lv_aload_n hx hb dX8_isWay_20 rfl (lv_at hl 1 rfl) ?_
      refine getF (q0 := 0) (k0 := 17) (v := .ref a_mc) C hE hP inA8 rfl rfl (by decide) qFX8_38 rfl rfl dX8_isWay_21 ?_
      refine lv_iload_n hx hb dX8_isWay_24 rfl (lv_at hl 2 rfl) ?_
      refine lv_iload_n hx hb dX8_isWay_25 rfl (lv_at hl 0 rfl) ?_
      replace h := gd h; obtain ⟨g24, h⟩ := h
      refine astI (q0 := 2) (ws1 := [(a_m, .inr (8, [.ref a_ms, .ref a_mw, .ref a_mv, .ref a_mp, .ref a_mf, .int m_chg, .int m_thr, .int m_rea, .int m_det, .int m_ref, .int m_err, .int m_ans, .int m_sav, .int m_net, .ref a_ml, .int m_lin, .ref a_mt, .ref a_mc, .int m_tap, .int q8.2, .int m_cmd])), (a_mt, .inl (T 0, 60, .inl v_mt)), (a_mc, .inl (T 0, 124, .inl (upd v_mc p0.toNatClampNeg 1)))]) C hE hP hD hS rfl g24 rfl dX8_isWay_26 ?_; clear hP hD hS; intro H locs hP hD hS
      refine lv_iconst (v := 1) hx hb dX8_isWay_27 (by decide) ?_
      replace h := Option.some.inj h
      exact hret.1 _ _ _ _ _ _ _ _ (Nat.le_of_ble_eq_true rfl) (Nat.le_of_ble_eq_true rfl) dX8_isWay_28 rfl (by rw [← h]) (by rw [← h] <;> rfl) (by rw [← h]; exact hP) hS
  · replace h := ite_f c5 h
    refine lv_aload_n hx hb dX8_isWay_20 rfl (lv_at hl 1 rfl) ?_
    refine getF (q0 := 0) (k0 := 17) (v := .ref a_mc) C hE hP inA8 rfl rfl (by decide) qFX8_38 rfl rfl dX8_isWay_21 ?_
    refine lv_iload_n hx hb dX8_isWay_24 rfl (lv_at hl 2 rfl) ?_
    refine lv_iload_n hx hb dX8_isWay_25 rfl (lv_at hl 0 rfl) ?_
    replace h := gd h; obtain ⟨g25, h⟩ := h
    refine astI (q0 := 2) (ws1 := [(a_m, .inr (8, [.ref a_ms, .ref a_mw, .ref a_mv, .ref a_mp, .ref a_mf, .int m_chg, .int m_thr, .int m_rea, .int m_det, .int m_ref, .int m_err, .int m_ans, .int m_sav, .int m_net, .ref a_ml, .int m_lin, .ref a_mt, .ref a_mc, .int m_tap, .int q3.2, .int m_cmd])), (a_mt, .inl (T 0, 60, .inl v_mt)), (a_mc, .inl (T 0, 124, .inl (upd v_mc p0.toNatClampNeg 0)))]) C hE hP hD hS rfl g25 rfl dX8_isWay_26 ?_; clear hP hD hS; intro H locs hP hD hS
    refine lv_iconst (v := 1) hx hb dX8_isWay_27 (by decide) ?_
    replace h := Option.some.inj h
    exact hret.1 _ _ _ _ _ _ _ _ (Nat.le_of_ble_eq_true rfl) (Nat.le_of_ble_eq_true rfl) dX8_isWay_28 rfl (by rw [← h]) (by rw [← h] <;> rfl) (by rw [← h]; exact hP) hS

def fX8_readsCommand (m_tap : Int32) (m_her : Int32) (m_cmd : Int32) (v_mt : Nat → Int32) (v_mc : Nat → Int32) : Option (Nat × Int32 × Int32 × Int32 × (Nat → Int32)) :=
  (fX8_sign m_tap m_her v_mt).bind fun q1 =>
  if (fX8_isKind q1) = 0 then
    some (0, 0, m_her, m_cmd, v_mc)
  else
    if vin (4 * m_cmd) 124 = true then
    if q1 = 98 then
      (fX8_isNumber m_tap (m_her + 1) v_mt (upd v_mc (4 * m_cmd).toNatClampNeg q1) 1 ((4 * m_cmd) + 1)).bind fun q6 =>
      if q6.1 = 0 then
        some (0, 0, q6.2.1, (m_cmd + 1), q6.2.2)
      else
        (fX8_isNumber m_tap q6.2.1 v_mt q6.2.2 1 ((4 * m_cmd) + 2)).bind fun q9 =>
        if q9.1 = 0 then
          some (0, 0, q9.2.1, (m_cmd + 1), q9.2.2)
        else
          some (0, 1, q9.2.1, (m_cmd + 1), q9.2.2)
    else
      if q1 = 107 then
        (fX8_isNumber m_tap (m_her + 1) v_mt (upd v_mc (4 * m_cmd).toNatClampNeg q1) 1 ((4 * m_cmd) + 1)).bind fun q13 =>
        if q13.1 = 0 then
          some (0, 0, q13.2.1, (m_cmd + 1), q13.2.2)
        else
          (fX8_isWay m_tap q13.2.1 v_mt q13.2.2 ((4 * m_cmd) + 2)).bind fun q16 =>
          if q16.1 = 0 then
            if q16.2.1 = 0 then
              some (0, 0, q16.2.2.1, (m_cmd + 1), q16.2.2.2)
            else
              (fX8_isNumber m_tap q16.2.2.1 v_mt q16.2.2.2 1 ((4 * m_cmd) + 3)).bind fun q19 =>
              if q19.1 = 0 then
                some (0, 0, q19.2.1, (m_cmd + 1), q19.2.2)
              else
                some (0, 1, q19.2.1, (m_cmd + 1), q19.2.2)
          else
            some (q16.1, 0, q16.2.2.1, (m_cmd + 1), q16.2.2.2)
      else
        if q1 = 109 then
          (fX8_isNumber m_tap (m_her + 1) v_mt (upd v_mc (4 * m_cmd).toNatClampNeg q1) 1 ((4 * m_cmd) + 1)).bind fun q23 =>
          if q23.1 = 0 then
            some (0, 0, q23.2.1, (m_cmd + 1), q23.2.2)
          else
            (fX8_isSign m_tap q23.2.1 v_mt 64).bind fun q26 =>
            if q26.1 = 0 then
              some (0, 0, q26.2, (m_cmd + 1), q23.2.2)
            else
              (fX8_isNumber m_tap q26.2 v_mt q23.2.2 2 ((4 * m_cmd) + 2)).bind fun q29 =>
              if q29.1 = 0 then
                some (0, 0, q29.2.1, (m_cmd + 1), q29.2.2)
              else
                some (0, 1, q29.2.1, (m_cmd + 1), q29.2.2)
        else
          if q1 = 111 then
            (fX8_isNumber m_tap (m_her + 1) v_mt (upd v_mc (4 * m_cmd).toNatClampNeg q1) 1 ((4 * m_cmd) + 1)).bind fun q33 =>
            some (0, (q33.1 &&& 1), q33.2.1, (m_cmd + 1), q33.2.2)
          else
            if q1 = 119 then
              (fX8_isNumber m_tap (m_her + 1) v_mt (upd v_mc (4 * m_cmd).toNatClampNeg q1) 1 ((4 * m_cmd) + 1)).bind fun q36 =>
              if q36.1 = 0 then
                some (0, 0, q36.2.1, (m_cmd + 1), q36.2.2)
              else
                (fX8_isNumber m_tap q36.2.1 v_mt q36.2.2 1 ((4 * m_cmd) + 2)).bind fun q39 =>
                if q39.1 = 0 then
                  some (0, 0, q39.2.1, (m_cmd + 1), q39.2.2)
                else
                  (fX8_isNumber m_tap q39.2.1 v_mt q39.2.2 1 ((4 * m_cmd) + 3)).bind fun q42 =>
                  if q42.1 = 0 then
                    some (0, 0, q42.2.1, (m_cmd + 1), q42.2.2)
                  else
                    some (0, 1, q42.2.1, (m_cmd + 1), q42.2.2)
            else
              some (0, 1, (m_her + 1), (m_cmd + 1), (upd v_mc (4 * m_cmd).toNatClampNeg q1))
    else none
set_option maxHeartbeats 4000000 in
set_option maxRecDepth 100000 in
theorem kX8_readsCommand (l : Launch) (hnt : l.stackTraces = false) (D : va_G) (T : Nat → ClassId) (a_m a_ms a_mw a_mv a_mp a_mf a_ml a_mt a_mc : Nat) (m_chg : Int32) (m_thr : Int32) (m_rea : Int32) (m_det : Int32) (m_ref : Int32) (m_err : Int32) (m_ans : Int32) (m_sav : Int32) (m_net : Int32) (m_lin : Int32) (m_tap : Int32) (m_her : Int32) (m_cmd : Int32) (v_mt : Nat → Int32) (v_mc : Nat → Int32) (sz : Nat) (r : Nat × Int32 × Int32 × Int32 × (Nat → Int32)) (h : fX8_readsCommand m_tap m_her m_cmd v_mt v_mc = some r) : ThI l yX8_readsCommand cX8_readsCommand 3 .boolean ({ frames := 5, cells := 0, slots := 0, locals := 107 } : Room) D T sz [(a_m, .inr (8, [.ref a_ms, .ref a_mw, .ref a_mv, .ref a_mp, .ref a_mf, .int m_chg, .int m_thr, .int m_rea, .int m_det, .int m_ref, .int m_err, .int m_ans, .int m_sav, .int m_net, .ref a_ml, .int m_lin, .ref a_mt, .ref a_mc, .int m_tap, .int m_her, .int m_cmd])), (a_mt, .inl (T 0, 60, .inl v_mt)), (a_mc, .inl (T 0, 124, .inl v_mc))] [(a_m, .inr (8, [.ref a_ms, .ref a_mw, .ref a_mv, .ref a_mp, .ref a_mf, .int m_chg, .int m_thr, .int m_rea, .int m_det, .int m_ref, .int m_err, .int m_ans, .int m_sav, .int m_net, .ref a_ml, .int m_lin, .ref a_mt, .ref a_mc, .int m_tap, .int r.2.2.1, .int r.2.2.2.1])), (a_mt, .inl (T 0, 60, .inl v_mt)), (a_mc, .inl (T 0, 124, .inl r.2.2.2.2))] [.ref a_m] r.1 r.2.1 := by
  unfold fX8_readsCommand at h
  refine thMetI hnt (by decide +kernel) rfl (fun p e s m args below meth c Q A C hE hA hZ hP hD hS hret ls hl => ?_)
  have hx := C.1
  have hb := C.2.1
  have hl : lv_has ls 3 [(0, .ref a_m)] := hl
  refine lv_iconst (v := 4) hx hb dX8_readsCommand_0 (by decide) ?_
  refine lv_aload_n hx hb dX8_readsCommand_1 rfl (lv_at hl 0 rfl) ?_
  refine getF (q0 := 0) (k0 := 20) (v := .int m_cmd) C hE hP inA8 rfl rfl (by decide) qFX8_228 rfl rfl dX8_readsCommand_2 ?_
  refine lv_imul hx hb dX8_readsCommand_5 ?_
  refine lv_istore_n (lv' := [(1, .int (4 * m_cmd)), (0, .ref a_m)]) hx hb dX8_readsCommand_6 rfl hl (by decide) rfl (fun ls hl => ?_)
  refine lv_aload_n hx hb dX8_readsCommand_7 rfl (lv_at hl 1 rfl) ?_
  replace h := bnd h; obtain ⟨q1, e2, h⟩ := h
  refine rdV C hE hP (kX8_sign l D T a_m a_ms a_mw a_mv a_mp a_mf a_ml a_mt a_mc m_chg m_thr m_rea m_det m_ref m_err m_ans m_sav m_net m_lin m_tap m_her m_cmd v_mt q1 e2) mX8_sign qLX8_214 [0, 1] 0 rfl rfl rfl rfl ⟨rfl, rfl⟩ ⟨Nat.le_of_ble_eq_true rfl, Nat.le_of_ble_eq_true rfl⟩ rfl hl.1 rfl (Nat.le_of_ble_eq_true rfl) dX8_readsCommand_8 ⟨Nat.le_of_ble_eq_true rfl, Nat.le_of_ble_eq_true rfl⟩ ?_
  refine lv_istore_n (lv' := [(2, .int q1), (1, .int (4 * m_cmd)), (0, .ref a_m)]) hx hb dX8_readsCommand_11 rfl hl (by decide) rfl (fun ls hl => ?_)
  refine lv_iload_n hx hb dX8_readsCommand_12 rfl (lv_at hl 0 rfl) ?_
  refine rdS C hE hP (kX8_isKind l D T q1) mX8_isKind qLX8_231 [] rfl ⟨rfl, rfl⟩ ⟨Nat.le_of_ble_eq_true rfl, Nat.le_of_ble_eq_true rfl⟩ rfl hl.1 rfl (Nat.le_of_ble_eq_true rfl) dX8_readsCommand_13 ⟨Nat.le_of_ble_eq_true rfl, Nat.le_of_ble_eq_true rfl⟩ ?_
  refine lv_if_ne (tgt := 21) hx hb dX8_readsCommand_16 (by decide) (fun c3 => ?_) (fun c3 => ?_)
  · replace h := ite_f c3 h
    refine lv_aload_n hx hb dX8_readsCommand_21 rfl (lv_at hl 2 rfl) ?_
    refine getF (q0 := 0) (k0 := 17) (v := .ref a_mc) C hE hP inA8 rfl rfl (by decide) qFX8_38 rfl rfl dX8_readsCommand_22 ?_
    refine lv_iload_n hx hb dX8_readsCommand_25 rfl (lv_at hl 1 rfl) ?_
    refine lv_iload_n hx hb dX8_readsCommand_26 rfl (lv_at hl 0 rfl) ?_
    replace h := gd h; obtain ⟨g4, h⟩ := h
    refine astI (q0 := 2) (ws1 := [(a_m, .inr (8, [.ref a_ms, .ref a_mw, .ref a_mv, .ref a_mp, .ref a_mf, .int m_chg, .int m_thr, .int m_rea, .int m_det, .int m_ref, .int m_err, .int m_ans, .int m_sav, .int m_net, .ref a_ml, .int m_lin, .ref a_mt, .ref a_mc, .int m_tap, .int m_her, .int m_cmd])), (a_mt, .inl (T 0, 60, .inl v_mt)), (a_mc, .inl (T 0, 124, .inl (upd v_mc (4 * m_cmd).toNatClampNeg q1)))]) C hE hP hD hS rfl g4 rfl dX8_readsCommand_27 ?_; clear hP hD hS; intro H locs hP hD hS
    refine lv_aload_n hx hb dX8_readsCommand_28 rfl (lv_at hl 2 rfl) ?_
    refine lv_dup hx hb dX8_readsCommand_29 rfl ?_
    refine getF (q0 := 0) (k0 := 19) (v := .int m_her) C hE hP inA8 rfl rfl (by decide) qFX8_211 rfl rfl dX8_readsCommand_30 ?_
    refine lv_iconst (v := 1) hx hb dX8_readsCommand_33 (by decide) ?_
    refine lv_iadd hx hb dX8_readsCommand_34 ?_
    refine putF (q0 := 0) (k0 := 19) (ws1 := [(a_m, .inr (8, [.ref a_ms, .ref a_mw, .ref a_mv, .ref a_mp, .ref a_mf, .int m_chg, .int m_thr, .int m_rea, .int m_det, .int m_ref, .int m_err, .int m_ans, .int m_sav, .int m_net, .ref a_ml, .int m_lin, .ref a_mt, .ref a_mc, .int m_tap, .int (m_her + 1), .int m_cmd])), (a_mt, .inl (T 0, 60, .inl v_mt)), (a_mc, .inl (T 0, 124, .inl (upd v_mc (4 * m_cmd).toNatClampNeg q1)))]) C hE hP hD hS inA8 tyX8_ok nmX8 rfl rfl (by decide) qFX8_211 rfl rfl rfl rfl (Nat.le_of_ble_eq_true rfl) rfl dX8_readsCommand_35 ?_; clear hP hD hS; intro H locs hP hD hS
    refine lv_aload_n hx hb dX8_readsCommand_38 rfl (lv_at hl 2 rfl) ?_
    refine lv_dup hx hb dX8_readsCommand_39 rfl ?_
    refine getF (q0 := 0) (k0 := 20) (v := .int m_cmd) C hE hP inA8 rfl rfl (by decide) qFX8_228 rfl rfl dX8_readsCommand_40 ?_
    refine lv_iconst (v := 1) hx hb dX8_readsCommand_43 (by decide) ?_
    refine lv_iadd hx hb dX8_readsCommand_44 ?_
    refine putF (q0 := 0) (k0 := 20) (ws1 := [(a_m, .inr (8, [.ref a_ms, .ref a_mw, .ref a_mv, .ref a_mp, .ref a_mf, .int m_chg, .int m_thr, .int m_rea, .int m_det, .int m_ref, .int m_err, .int m_ans, .int m_sav, .int m_net, .ref a_ml, .int m_lin, .ref a_mt, .ref a_mc, .int m_tap, .int (m_her + 1), .int (m_cmd + 1)])), (a_mt, .inl (T 0, 60, .inl v_mt)), (a_mc, .inl (T 0, 124, .inl (upd v_mc (4 * m_cmd).toNatClampNeg q1)))]) C hE hP hD hS inA8 tyX8_ok nmX8 rfl rfl (by decide) qFX8_228 rfl rfl rfl rfl (Nat.le_of_ble_eq_true rfl) rfl dX8_readsCommand_45 ?_; clear hP hD hS; intro H locs hP hD hS
    refine lv_iload_n hx hb dX8_readsCommand_48 rfl (lv_at hl 0 rfl) ?_
    by_cases c5 : q1 = 98
    · replace h := ite_t c5 h
      refine lv_lookup (off := 174) (tgt := 223) hx hb dX8_readsCommand_49 (by decide) (by rw [c5] <;> rfl) (by decide) ?_
      refine lv_aload_n hx hb dX8_readsCommand_223 rfl (lv_at hl 2 rfl) ?_
      refine lv_iconst (v := 1) hx hb dX8_readsCommand_224 (by decide) ?_
      refine lv_iload_n hx hb dX8_readsCommand_225 rfl (lv_at hl 1 rfl) ?_
      refine lv_iconst (v := 1) hx hb dX8_readsCommand_226 (by decide) ?_
      refine lv_iadd hx hb dX8_readsCommand_227 ?_
      replace h := bnd h; obtain ⟨q6, e7, h⟩ := h
      refine wrVi (ws1 := [(a_m, .inr (8, [.ref a_ms, .ref a_mw, .ref a_mv, .ref a_mp, .ref a_mf, .int m_chg, .int m_thr, .int m_rea, .int m_det, .int m_ref, .int m_err, .int m_ans, .int m_sav, .int m_net, .ref a_ml, .int m_lin, .ref a_mt, .ref a_mc, .int m_tap, .int q6.2.1, .int (m_cmd + 1)])), (a_mt, .inl (T 0, 60, .inl v_mt)), (a_mc, .inl (T 0, 124, .inl q6.2.2))]) C hE hP hD hS hA (kX8_isNumber l D T a_m a_ms a_mw a_mv a_mp a_mf a_ml a_mt a_mc m_chg m_thr m_rea m_det m_ref m_err m_ans m_sav m_net m_lin m_tap (m_her + 1) (m_cmd + 1) v_mt (upd v_mc (4 * m_cmd).toNatClampNeg q1) 1 ((4 * m_cmd) + 1) _ q6 e7) mX8_isNumber qLX8_234 [0, 1, 2] [] 0 rfl rfl rfl rfl rfl rfl rfl rfl rfl ⟨rfl, rfl⟩ ⟨Nat.le_of_ble_eq_true rfl, Nat.le_of_ble_eq_true rfl⟩ rfl hl.1 rfl (Nat.le_of_ble_eq_true rfl) dX8_readsCommand_228 ⟨Nat.le_of_ble_eq_true rfl, Nat.le_of_ble_eq_true rfl⟩ ?_; clear hP hD hS; intro H locs hP hD hS
      refine lv_if_eq (tgt := 249) hx hb dX8_readsCommand_231 (by decide) (fun c8 => ?_) (fun c8 => ?_)
      · replace h := ite_t c8 h
        refine lv_iconst (v := 0) hx hb dX8_readsCommand_249 (by decide) ?_
        replace h := Option.some.inj h
        exact hret.1 _ _ _ _ _ _ _ _ (Nat.le_of_ble_eq_true rfl) (Nat.le_of_ble_eq_true rfl) dX8_readsCommand_250 rfl (by rw [← h]) (by rw [← h] <;> rfl) (by rw [← h]; exact hP) hS
      · replace h := ite_f c8 h
        refine lv_aload_n hx hb dX8_readsCommand_234 rfl (lv_at hl 2 rfl) ?_
        refine lv_iconst (v := 1) hx hb dX8_readsCommand_235 (by decide) ?_
        refine lv_iload_n hx hb dX8_readsCommand_236 rfl (lv_at hl 1 rfl) ?_
        refine lv_iconst (v := 2) hx hb dX8_readsCommand_237 (by decide) ?_
        refine lv_iadd hx hb dX8_readsCommand_238 ?_
        replace h := bnd h; obtain ⟨q9, e10, h⟩ := h
        refine wrVi (ws1 := [(a_m, .inr (8, [.ref a_ms, .ref a_mw, .ref a_mv, .ref a_mp, .ref a_mf, .int m_chg, .int m_thr, .int m_rea, .int m_det, .int m_ref, .int m_err, .int m_ans, .int m_sav, .int m_net, .ref a_ml, .int m_lin, .ref a_mt, .ref a_mc, .int m_tap, .int q9.2.1, .int (m_cmd + 1)])), (a_mt, .inl (T 0, 60, .inl v_mt)), (a_mc, .inl (T 0, 124, .inl q9.2.2))]) C hE hP hD hS hA (kX8_isNumber l D T a_m a_ms a_mw a_mv a_mp a_mf a_ml a_mt a_mc m_chg m_thr m_rea m_det m_ref m_err m_ans m_sav m_net m_lin m_tap q6.2.1 (m_cmd + 1) v_mt q6.2.2 1 ((4 * m_cmd) + 2) _ q9 e10) mX8_isNumber qLX8_234 [0, 1, 2] [] 0 rfl rfl rfl rfl rfl rfl rfl rfl rfl ⟨rfl, rfl⟩ ⟨Nat.le_of_ble_eq_true rfl, Nat.le_of_ble_eq_true rfl⟩ rfl hl.1 rfl (Nat.le_of_ble_eq_true rfl) dX8_readsCommand_239 ⟨Nat.le_of_ble_eq_true rfl, Nat.le_of_ble_eq_true rfl⟩ ?_; clear hP hD hS; intro H locs hP hD hS
        refine lv_if_eq (tgt := 249) hx hb dX8_readsCommand_242 (by decide) (fun c11 => ?_) (fun c11 => ?_)
        · replace h := ite_t c11 h
          refine lv_iconst (v := 0) hx hb dX8_readsCommand_249 (by decide) ?_
          replace h := Option.some.inj h
          exact hret.1 _ _ _ _ _ _ _ _ (Nat.le_of_ble_eq_true rfl) (Nat.le_of_ble_eq_true rfl) dX8_readsCommand_250 rfl (by rw [← h]) (by rw [← h] <;> rfl) (by rw [← h]; exact hP) hS
        · replace h := ite_f c11 h
          refine lv_iconst (v := 1) hx hb dX8_readsCommand_245 (by decide) ?_
          refine lv_goto (tgt := 250) hx hb dX8_readsCommand_246 (by decide) ?_
          replace h := Option.some.inj h
          exact hret.1 _ _ _ _ _ _ _ _ (Nat.le_of_ble_eq_true rfl) (Nat.le_of_ble_eq_true rfl) dX8_readsCommand_250 rfl (by rw [← h]) (by rw [← h] <;> rfl) (by rw [← h]; exact hP) hS
    · replace h := ite_f c5 h
      by_cases c12 : q1 = 107
      · replace h := ite_t c12 h
        refine lv_lookup (off := 127) (tgt := 176) hx hb dX8_readsCommand_49 (by decide) (by rw [c12] <;> rfl) (by decide) ?_
        refine lv_aload_n hx hb dX8_readsCommand_176 rfl (lv_at hl 2 rfl) ?_
        refine lv_iconst (v := 1) hx hb dX8_readsCommand_177 (by decide) ?_
        refine lv_iload_n hx hb dX8_readsCommand_178 rfl (lv_at hl 1 rfl) ?_
        refine lv_iconst (v := 1) hx hb dX8_readsCommand_179 (by decide) ?_
        refine lv_iadd hx hb dX8_readsCommand_180 ?_
        replace h := bnd h; obtain ⟨q13, e14, h⟩ := h
        refine wrVi (ws1 := [(a_m, .inr (8, [.ref a_ms, .ref a_mw, .ref a_mv, .ref a_mp, .ref a_mf, .int m_chg, .int m_thr, .int m_rea, .int m_det, .int m_ref, .int m_err, .int m_ans, .int m_sav, .int m_net, .ref a_ml, .int m_lin, .ref a_mt, .ref a_mc, .int m_tap, .int q13.2.1, .int (m_cmd + 1)])), (a_mt, .inl (T 0, 60, .inl v_mt)), (a_mc, .inl (T 0, 124, .inl q13.2.2))]) C hE hP hD hS hA (kX8_isNumber l D T a_m a_ms a_mw a_mv a_mp a_mf a_ml a_mt a_mc m_chg m_thr m_rea m_det m_ref m_err m_ans m_sav m_net m_lin m_tap (m_her + 1) (m_cmd + 1) v_mt (upd v_mc (4 * m_cmd).toNatClampNeg q1) 1 ((4 * m_cmd) + 1) _ q13 e14) mX8_isNumber qLX8_234 [0, 1, 2] [] 0 rfl rfl rfl rfl rfl rfl rfl rfl rfl ⟨rfl, rfl⟩ ⟨Nat.le_of_ble_eq_true rfl, Nat.le_of_ble_eq_true rfl⟩ rfl hl.1 rfl (Nat.le_of_ble_eq_true rfl) dX8_readsCommand_181 ⟨Nat.le_of_ble_eq_true rfl, Nat.le_of_ble_eq_true rfl⟩ ?_; clear hP hD hS; intro H locs hP hD hS
        refine lv_if_eq (tgt := 212) hx hb dX8_readsCommand_184 (by decide) (fun c15 => ?_) (fun c15 => ?_)
        · replace h := ite_t c15 h
          refine lv_iconst (v := 0) hx hb dX8_readsCommand_212 (by decide) ?_
          replace h := Option.some.inj h
          exact hret.1 _ _ _ _ _ _ _ _ (Nat.le_of_ble_eq_true rfl) (Nat.le_of_ble_eq_true rfl) dX8_readsCommand_213 rfl (by rw [← h]) (by rw [← h] <;> rfl) (by rw [← h]; exact hP) hS
        · replace h := ite_f c15 h
          refine lv_aload_n hx hb dX8_readsCommand_187 rfl (lv_at hl 2 rfl) ?_
          refine lv_iload_n hx hb dX8_readsCommand_188 rfl (lv_at hl 1 rfl) ?_
          refine lv_iconst (v := 2) hx hb dX8_readsCommand_189 (by decide) ?_
          refine lv_iadd hx hb dX8_readsCommand_190 ?_
          replace h := bnd h; obtain ⟨q16, e17, h⟩ := h
          refine thVi (ws1 := [(a_m, .inr (8, [.ref a_ms, .ref a_mw, .ref a_mv, .ref a_mp, .ref a_mf, .int m_chg, .int m_thr, .int m_rea, .int m_det, .int m_ref, .int m_err, .int m_ans, .int m_sav, .int m_net, .ref a_ml, .int m_lin, .ref a_mt, .ref a_mc, .int m_tap, .int q16.2.2.1, .int (m_cmd + 1)])), (a_mt, .inl (T 0, 60, .inl v_mt)), (a_mc, .inl (T 0, 124, .inl q16.2.2.2))]) C hE hZ hP hD hS hA (kX8_isWay l hZ.1 D T a_m a_ms a_mw a_mv a_mp a_mf a_ml a_mt a_mc m_chg m_thr m_rea m_det m_ref m_err m_ans m_sav m_net m_lin m_tap q13.2.1 (m_cmd + 1) v_mt q13.2.2 ((4 * m_cmd) + 2) _ q16 e17) mX8_isWay qLX8_237 [0, 1, 2] [] 0 rfl rfl rfl rfl rfl rfl rfl rfl rfl ⟨Nat.le_of_ble_eq_true rfl, Nat.le_of_ble_eq_true rfl⟩ rfl hl.1 rfl (Nat.le_of_ble_eq_true rfl) dX8_readsCommand_191 ⟨Nat.le_of_ble_eq_true rfl, Nat.le_of_ble_eq_true rfl⟩ ?_ ?_
          · clear hP hD hS; intro hx0 H locs ce q9 hP hD hS g1 g2 g3
            replace h := ite_f (Nat.ne_of_gt hx0) h
            replace h := Option.some.inj h
            exact hret.2.1 _ _ _ _ _ _ _ _ _ (Nat.le_of_ble_eq_true rfl) (Nat.le_of_ble_eq_true rfl) (by rw [← h]; exact hx0) (by rw [← h]; exact hP) hS g1 g2 (by rw [← h]; exact g3)
          · clear hP hD hS; intro hx0 H locs hP hD hS
            replace h := ite_t hx0 h
            refine lv_if_eq (tgt := 212) hx hb dX8_readsCommand_194 (by decide) (fun c18 => ?_) (fun c18 => ?_)
            · replace h := ite_t c18 h
              refine lv_iconst (v := 0) hx hb dX8_readsCommand_212 (by decide) ?_
              replace h := Option.some.inj h
              exact hret.1 _ _ _ _ _ _ _ _ (Nat.le_of_ble_eq_true rfl) (Nat.le_of_ble_eq_true rfl) dX8_readsCommand_213 rfl (by rw [← h]) (by rw [← h] <;> rfl) (by rw [← h]; exact hP) hS
            · replace h := ite_f c18 h
              refine lv_aload_n hx hb dX8_readsCommand_197 rfl (lv_at hl 2 rfl) ?_
              refine lv_iconst (v := 1) hx hb dX8_readsCommand_198 (by decide) ?_
              refine lv_iload_n hx hb dX8_readsCommand_199 rfl (lv_at hl 1 rfl) ?_
              refine lv_iconst (v := 3) hx hb dX8_readsCommand_200 (by decide) ?_
              refine lv_iadd hx hb dX8_readsCommand_201 ?_
              replace h := bnd h; obtain ⟨q19, e20, h⟩ := h
              refine wrVi (ws1 := [(a_m, .inr (8, [.ref a_ms, .ref a_mw, .ref a_mv, .ref a_mp, .ref a_mf, .int m_chg, .int m_thr, .int m_rea, .int m_det, .int m_ref, .int m_err, .int m_ans, .int m_sav, .int m_net, .ref a_ml, .int m_lin, .ref a_mt, .ref a_mc, .int m_tap, .int q19.2.1, .int (m_cmd + 1)])), (a_mt, .inl (T 0, 60, .inl v_mt)), (a_mc, .inl (T 0, 124, .inl q19.2.2))]) C hE hP hD hS hA (kX8_isNumber l D T a_m a_ms a_mw a_mv a_mp a_mf a_ml a_mt a_mc m_chg m_thr m_rea m_det m_ref m_err m_ans m_sav m_net m_lin m_tap q16.2.2.1 (m_cmd + 1) v_mt q16.2.2.2 1 ((4 * m_cmd) + 3) _ q19 e20) mX8_isNumber qLX8_234 [0, 1, 2] [] 0 rfl rfl rfl rfl rfl rfl rfl rfl rfl ⟨rfl, rfl⟩ ⟨Nat.le_of_ble_eq_true rfl, Nat.le_of_ble_eq_true rfl⟩ rfl hl.1 rfl (Nat.le_of_ble_eq_true rfl) dX8_readsCommand_202 ⟨Nat.le_of_ble_eq_true rfl, Nat.le_of_ble_eq_true rfl⟩ ?_; clear hP hD hS; intro H locs hP hD hS
              refine lv_if_eq (tgt := 212) hx hb dX8_readsCommand_205 (by decide) (fun c21 => ?_) (fun c21 => ?_)
              · replace h := ite_t c21 h
                refine lv_iconst (v := 0) hx hb dX8_readsCommand_212 (by decide) ?_
                replace h := Option.some.inj h
                exact hret.1 _ _ _ _ _ _ _ _ (Nat.le_of_ble_eq_true rfl) (Nat.le_of_ble_eq_true rfl) dX8_readsCommand_213 rfl (by rw [← h]) (by rw [← h] <;> rfl) (by rw [← h]; exact hP) hS
              · replace h := ite_f c21 h
                refine lv_iconst (v := 1) hx hb dX8_readsCommand_208 (by decide) ?_
                refine lv_goto (tgt := 213) hx hb dX8_readsCommand_209 (by decide) ?_
                replace h := Option.some.inj h
                exact hret.1 _ _ _ _ _ _ _ _ (Nat.le_of_ble_eq_true rfl) (Nat.le_of_ble_eq_true rfl) dX8_readsCommand_213 rfl (by rw [← h]) (by rw [← h] <;> rfl) (by rw [← h]; exact hP) hS
      · replace h := ite_f c12 h
        by_cases c22 : q1 = 109
        · replace h := ite_t c22 h
          refine lv_lookup (off := 90) (tgt := 139) hx hb dX8_readsCommand_49 (by decide) (by rw [c22] <;> rfl) (by decide) ?_
          refine lv_aload_n hx hb dX8_readsCommand_139 rfl (lv_at hl 2 rfl) ?_
          refine lv_iconst (v := 1) hx hb dX8_readsCommand_140 (by decide) ?_
          refine lv_iload_n hx hb dX8_readsCommand_141 rfl (lv_at hl 1 rfl) ?_
          refine lv_iconst (v := 1) hx hb dX8_readsCommand_142 (by decide) ?_
          refine lv_iadd hx hb dX8_readsCommand_143 ?_
          replace h := bnd h; obtain ⟨q23, e24, h⟩ := h
          refine wrVi (ws1 := [(a_m, .inr (8, [.ref a_ms, .ref a_mw, .ref a_mv, .ref a_mp, .ref a_mf, .int m_chg, .int m_thr, .int m_rea, .int m_det, .int m_ref, .int m_err, .int m_ans, .int m_sav, .int m_net, .ref a_ml, .int m_lin, .ref a_mt, .ref a_mc, .int m_tap, .int q23.2.1, .int (m_cmd + 1)])), (a_mt, .inl (T 0, 60, .inl v_mt)), (a_mc, .inl (T 0, 124, .inl q23.2.2))]) C hE hP hD hS hA (kX8_isNumber l D T a_m a_ms a_mw a_mv a_mp a_mf a_ml a_mt a_mc m_chg m_thr m_rea m_det m_ref m_err m_ans m_sav m_net m_lin m_tap (m_her + 1) (m_cmd + 1) v_mt (upd v_mc (4 * m_cmd).toNatClampNeg q1) 1 ((4 * m_cmd) + 1) _ q23 e24) mX8_isNumber qLX8_234 [0, 1, 2] [] 0 rfl rfl rfl rfl rfl rfl rfl rfl rfl ⟨rfl, rfl⟩ ⟨Nat.le_of_ble_eq_true rfl, Nat.le_of_ble_eq_true rfl⟩ rfl hl.1 rfl (Nat.le_of_ble_eq_true rfl) dX8_readsCommand_144 ⟨Nat.le_of_ble_eq_true rfl, Nat.le_of_ble_eq_true rfl⟩ ?_; clear hP hD hS; intro H locs hP hD hS
          refine lv_if_eq (tgt := 174) hx hb dX8_readsCommand_147 (by decide) (fun c25 => ?_) (fun c25 => ?_)
          · replace h := ite_t c25 h
            refine lv_iconst (v := 0) hx hb dX8_readsCommand_174 (by decide) ?_
            replace h := Option.some.inj h
            exact hret.1 _ _ _ _ _ _ _ _ (Nat.le_of_ble_eq_true rfl) (Nat.le_of_ble_eq_true rfl) dX8_readsCommand_175 rfl (by rw [← h]) (by rw [← h] <;> rfl) (by rw [← h]; exact hP) hS
          · replace h := ite_f c25 h
            refine lv_aload_n hx hb dX8_readsCommand_150 rfl (lv_at hl 2 rfl) ?_
            refine lv_bipush (v := 64) hx hb dX8_readsCommand_151 (by decide) ?_
            replace h := bnd h; obtain ⟨q26, e27, h⟩ := h
            refine wrVi (ws1 := [(a_m, .inr (8, [.ref a_ms, .ref a_mw, .ref a_mv, .ref a_mp, .ref a_mf, .int m_chg, .int m_thr, .int m_rea, .int m_det, .int m_ref, .int m_err, .int m_ans, .int m_sav, .int m_net, .ref a_ml, .int m_lin, .ref a_mt, .ref a_mc, .int m_tap, .int q26.2, .int (m_cmd + 1)])), (a_mt, .inl (T 0, 60, .inl v_mt)), (a_mc, .inl (T 0, 124, .inl q23.2.2))]) C hE hP hD hS hA (kX8_isSign l D T a_m a_ms a_mw a_mv a_mp a_mf a_ml a_mt a_mc m_chg m_thr m_rea m_det m_ref m_err m_ans m_sav m_net m_lin m_tap q23.2.1 (m_cmd + 1) v_mt 64 _ q26 e27) mX8_isSign qLX8_225 [0, 1] [2] 0 rfl rfl rfl rfl rfl rfl rfl rfl rfl ⟨rfl, rfl⟩ ⟨Nat.le_of_ble_eq_true rfl, Nat.le_of_ble_eq_true rfl⟩ rfl hl.1 rfl (Nat.le_of_ble_eq_true rfl) dX8_readsCommand_153 ⟨Nat.le_of_ble_eq_true rfl, Nat.le_of_ble_eq_true rfl⟩ ?_; clear hP hD hS; intro H locs hP hD hS
            refine lv_if_eq (tgt := 174) hx hb dX8_readsCommand_156 (by decide) (fun c28 => ?_) (fun c28 => ?_)
            · replace h := ite_t c28 h
              refine lv_iconst (v := 0) hx hb dX8_readsCommand_174 (by decide) ?_
              replace h := Option.some.inj h
              exact hret.1 _ _ _ _ _ _ _ _ (Nat.le_of_ble_eq_true rfl) (Nat.le_of_ble_eq_true rfl) dX8_readsCommand_175 rfl (by rw [← h]) (by rw [← h] <;> rfl) (by rw [← h]; exact hP) hS
            · replace h := ite_f c28 h
              refine lv_aload_n hx hb dX8_readsCommand_159 rfl (lv_at hl 2 rfl) ?_
              refine lv_iconst (v := 2) hx hb dX8_readsCommand_160 (by decide) ?_
              refine lv_iload_n hx hb dX8_readsCommand_161 rfl (lv_at hl 1 rfl) ?_
              refine lv_iconst (v := 2) hx hb dX8_readsCommand_162 (by decide) ?_
              refine lv_iadd hx hb dX8_readsCommand_163 ?_
              replace h := bnd h; obtain ⟨q29, e30, h⟩ := h
              refine wrVi (ws1 := [(a_m, .inr (8, [.ref a_ms, .ref a_mw, .ref a_mv, .ref a_mp, .ref a_mf, .int m_chg, .int m_thr, .int m_rea, .int m_det, .int m_ref, .int m_err, .int m_ans, .int m_sav, .int m_net, .ref a_ml, .int m_lin, .ref a_mt, .ref a_mc, .int m_tap, .int q29.2.1, .int (m_cmd + 1)])), (a_mt, .inl (T 0, 60, .inl v_mt)), (a_mc, .inl (T 0, 124, .inl q29.2.2))]) C hE hP hD hS hA (kX8_isNumber l D T a_m a_ms a_mw a_mv a_mp a_mf a_ml a_mt a_mc m_chg m_thr m_rea m_det m_ref m_err m_ans m_sav m_net m_lin m_tap q26.2 (m_cmd + 1) v_mt q23.2.2 2 ((4 * m_cmd) + 2) _ q29 e30) mX8_isNumber qLX8_234 [0, 1, 2] [] 0 rfl rfl rfl rfl rfl rfl rfl rfl rfl ⟨rfl, rfl⟩ ⟨Nat.le_of_ble_eq_true rfl, Nat.le_of_ble_eq_true rfl⟩ rfl hl.1 rfl (Nat.le_of_ble_eq_true rfl) dX8_readsCommand_164 ⟨Nat.le_of_ble_eq_true rfl, Nat.le_of_ble_eq_true rfl⟩ ?_; clear hP hD hS; intro H locs hP hD hS
              refine lv_if_eq (tgt := 174) hx hb dX8_readsCommand_167 (by decide) (fun c31 => ?_) (fun c31 => ?_)
              · replace h := ite_t c31 h
                refine lv_iconst (v := 0) hx hb dX8_readsCommand_174 (by decide) ?_
                replace h := Option.some.inj h
                exact hret.1 _ _ _ _ _ _ _ _ (Nat.le_of_ble_eq_true rfl) (Nat.le_of_ble_eq_true rfl) dX8_readsCommand_175 rfl (by rw [← h]) (by rw [← h] <;> rfl) (by rw [← h]; exact hP) hS
              · replace h := ite_f c31 h
                refine lv_iconst (v := 1) hx hb dX8_readsCommand_170 (by decide) ?_
                refine lv_goto (tgt := 175) hx hb dX8_readsCommand_171 (by decide) ?_
                replace h := Option.some.inj h
                exact hret.1 _ _ _ _ _ _ _ _ (Nat.le_of_ble_eq_true rfl) (Nat.le_of_ble_eq_true rfl) dX8_readsCommand_175 rfl (by rw [← h]) (by rw [← h] <;> rfl) (by rw [← h]; exact hP) hS
        · replace h := ite_f c22 h
          by_cases c32 : q1 = 111
          · replace h := ite_t c32 h
            refine lv_lookup (off := 165) (tgt := 214) hx hb dX8_readsCommand_49 (by decide) (by rw [c32] <;> rfl) (by decide) ?_
            refine lv_aload_n hx hb dX8_readsCommand_214 rfl (lv_at hl 2 rfl) ?_
            refine lv_iconst (v := 1) hx hb dX8_readsCommand_215 (by decide) ?_
            refine lv_iload_n hx hb dX8_readsCommand_216 rfl (lv_at hl 1 rfl) ?_
            refine lv_iconst (v := 1) hx hb dX8_readsCommand_217 (by decide) ?_
            refine lv_iadd hx hb dX8_readsCommand_218 ?_
            replace h := bnd h; obtain ⟨q33, e34, h⟩ := h
            refine wrVi (ws1 := [(a_m, .inr (8, [.ref a_ms, .ref a_mw, .ref a_mv, .ref a_mp, .ref a_mf, .int m_chg, .int m_thr, .int m_rea, .int m_det, .int m_ref, .int m_err, .int m_ans, .int m_sav, .int m_net, .ref a_ml, .int m_lin, .ref a_mt, .ref a_mc, .int m_tap, .int q33.2.1, .int (m_cmd + 1)])), (a_mt, .inl (T 0, 60, .inl v_mt)), (a_mc, .inl (T 0, 124, .inl q33.2.2))]) C hE hP hD hS hA (kX8_isNumber l D T a_m a_ms a_mw a_mv a_mp a_mf a_ml a_mt a_mc m_chg m_thr m_rea m_det m_ref m_err m_ans m_sav m_net m_lin m_tap (m_her + 1) (m_cmd + 1) v_mt (upd v_mc (4 * m_cmd).toNatClampNeg q1) 1 ((4 * m_cmd) + 1) _ q33 e34) mX8_isNumber qLX8_234 [0, 1, 2] [] 0 rfl rfl rfl rfl rfl rfl rfl rfl rfl ⟨rfl, rfl⟩ ⟨Nat.le_of_ble_eq_true rfl, Nat.le_of_ble_eq_true rfl⟩ rfl hl.1 rfl (Nat.le_of_ble_eq_true rfl) dX8_readsCommand_219 ⟨Nat.le_of_ble_eq_true rfl, Nat.le_of_ble_eq_true rfl⟩ ?_; clear hP hD hS; intro H locs hP hD hS
            replace h := Option.some.inj h
            exact hret.1 _ _ _ _ _ _ _ _ (Nat.le_of_ble_eq_true rfl) (Nat.le_of_ble_eq_true rfl) dX8_readsCommand_222 rfl (by rw [← h]) (by rw [← h] <;> rfl) (by rw [← h]; exact hP) hS
          · replace h := ite_f c32 h
            by_cases c35 : q1 = 119
            · replace h := ite_t c35 h
              refine lv_lookup (off := 51) (tgt := 100) hx hb dX8_readsCommand_49 (by decide) (by rw [c35] <;> rfl) (by decide) ?_
              refine lv_aload_n hx hb dX8_readsCommand_100 rfl (lv_at hl 2 rfl) ?_
              refine lv_iconst (v := 1) hx hb dX8_readsCommand_101 (by decide) ?_
              refine lv_iload_n hx hb dX8_readsCommand_102 rfl (lv_at hl 1 rfl) ?_
              refine lv_iconst (v := 1) hx hb dX8_readsCommand_103 (by decide) ?_
              refine lv_iadd hx hb dX8_readsCommand_104 ?_
              replace h := bnd h; obtain ⟨q36, e37, h⟩ := h
              refine wrVi (ws1 := [(a_m, .inr (8, [.ref a_ms, .ref a_mw, .ref a_mv, .ref a_mp, .ref a_mf, .int m_chg, .int m_thr, .int m_rea, .int m_det, .int m_ref, .int m_err, .int m_ans, .int m_sav, .int m_net, .ref a_ml, .int m_lin, .ref a_mt, .ref a_mc, .int m_tap, .int q36.2.1, .int (m_cmd + 1)])), (a_mt, .inl (T 0, 60, .inl v_mt)), (a_mc, .inl (T 0, 124, .inl q36.2.2))]) C hE hP hD hS hA (kX8_isNumber l D T a_m a_ms a_mw a_mv a_mp a_mf a_ml a_mt a_mc m_chg m_thr m_rea m_det m_ref m_err m_ans m_sav m_net m_lin m_tap (m_her + 1) (m_cmd + 1) v_mt (upd v_mc (4 * m_cmd).toNatClampNeg q1) 1 ((4 * m_cmd) + 1) _ q36 e37) mX8_isNumber qLX8_234 [0, 1, 2] [] 0 rfl rfl rfl rfl rfl rfl rfl rfl rfl ⟨rfl, rfl⟩ ⟨Nat.le_of_ble_eq_true rfl, Nat.le_of_ble_eq_true rfl⟩ rfl hl.1 rfl (Nat.le_of_ble_eq_true rfl) dX8_readsCommand_105 ⟨Nat.le_of_ble_eq_true rfl, Nat.le_of_ble_eq_true rfl⟩ ?_; clear hP hD hS; intro H locs hP hD hS
              refine lv_if_eq (tgt := 137) hx hb dX8_readsCommand_108 (by decide) (fun c38 => ?_) (fun c38 => ?_)
              · replace h := ite_t c38 h
                refine lv_iconst (v := 0) hx hb dX8_readsCommand_137 (by decide) ?_
                replace h := Option.some.inj h
                exact hret.1 _ _ _ _ _ _ _ _ (Nat.le_of_ble_eq_true rfl) (Nat.le_of_ble_eq_true rfl) dX8_readsCommand_138 rfl (by rw [← h]) (by rw [← h] <;> rfl) (by rw [← h]; exact hP) hS
              · replace h := ite_f c38 h
                refine lv_aload_n hx hb dX8_readsCommand_111 rfl (lv_at hl 2 rfl) ?_
                refine lv_iconst (v := 1) hx hb dX8_readsCommand_112 (by decide) ?_
                refine lv_iload_n hx hb dX8_readsCommand_113 rfl (lv_at hl 1 rfl) ?_
                refine lv_iconst (v := 2) hx hb dX8_readsCommand_114 (by decide) ?_
                refine lv_iadd hx hb dX8_readsCommand_115 ?_
                replace h := bnd h; obtain ⟨q39, e40, h⟩ := h
                refine wrVi (ws1 := [(a_m, .inr (8, [.ref a_ms, .ref a_mw, .ref a_mv, .ref a_mp, .ref a_mf, .int m_chg, .int m_thr, .int m_rea, .int m_det, .int m_ref, .int m_err, .int m_ans, .int m_sav, .int m_net, .ref a_ml, .int m_lin, .ref a_mt, .ref a_mc, .int m_tap, .int q39.2.1, .int (m_cmd + 1)])), (a_mt, .inl (T 0, 60, .inl v_mt)), (a_mc, .inl (T 0, 124, .inl q39.2.2))]) C hE hP hD hS hA (kX8_isNumber l D T a_m a_ms a_mw a_mv a_mp a_mf a_ml a_mt a_mc m_chg m_thr m_rea m_det m_ref m_err m_ans m_sav m_net m_lin m_tap q36.2.1 (m_cmd + 1) v_mt q36.2.2 1 ((4 * m_cmd) + 2) _ q39 e40) mX8_isNumber qLX8_234 [0, 1, 2] [] 0 rfl rfl rfl rfl rfl rfl rfl rfl rfl ⟨rfl, rfl⟩ ⟨Nat.le_of_ble_eq_true rfl, Nat.le_of_ble_eq_true rfl⟩ rfl hl.1 rfl (Nat.le_of_ble_eq_true rfl) dX8_readsCommand_116 ⟨Nat.le_of_ble_eq_true rfl, Nat.le_of_ble_eq_true rfl⟩ ?_; clear hP hD hS; intro H locs hP hD hS
                refine lv_if_eq (tgt := 137) hx hb dX8_readsCommand_119 (by decide) (fun c41 => ?_) (fun c41 => ?_)
                · replace h := ite_t c41 h
                  refine lv_iconst (v := 0) hx hb dX8_readsCommand_137 (by decide) ?_
                  replace h := Option.some.inj h
                  exact hret.1 _ _ _ _ _ _ _ _ (Nat.le_of_ble_eq_true rfl) (Nat.le_of_ble_eq_true rfl) dX8_readsCommand_138 rfl (by rw [← h]) (by rw [← h] <;> rfl) (by rw [← h]; exact hP) hS
                · replace h := ite_f c41 h
                  refine lv_aload_n hx hb dX8_readsCommand_122 rfl (lv_at hl 2 rfl) ?_
                  refine lv_iconst (v := 1) hx hb dX8_readsCommand_123 (by decide) ?_
                  refine lv_iload_n hx hb dX8_readsCommand_124 rfl (lv_at hl 1 rfl) ?_
                  refine lv_iconst (v := 3) hx hb dX8_readsCommand_125 (by decide) ?_
                  refine lv_iadd hx hb dX8_readsCommand_126 ?_
                  replace h := bnd h; obtain ⟨q42, e43, h⟩ := h
                  refine wrVi (ws1 := [(a_m, .inr (8, [.ref a_ms, .ref a_mw, .ref a_mv, .ref a_mp, .ref a_mf, .int m_chg, .int m_thr, .int m_rea, .int m_det, .int m_ref, .int m_err, .int m_ans, .int m_sav, .int m_net, .ref a_ml, .int m_lin, .ref a_mt, .ref a_mc, .int m_tap, .int q42.2.1, .int (m_cmd + 1)])), (a_mt, .inl (T 0, 60, .inl v_mt)), (a_mc, .inl (T 0, 124, .inl q42.2.2))]) C hE hP hD hS hA (kX8_isNumber l D T a_m a_ms a_mw a_mv a_mp a_mf a_ml a_mt a_mc m_chg m_thr m_rea m_det m_ref m_err m_ans m_sav m_net m_lin m_tap q39.2.1 (m_cmd + 1) v_mt q39.2.2 1 ((4 * m_cmd) + 3) _ q42 e43) mX8_isNumber qLX8_234 [0, 1, 2] [] 0 rfl rfl rfl rfl rfl rfl rfl rfl rfl ⟨rfl, rfl⟩ ⟨Nat.le_of_ble_eq_true rfl, Nat.le_of_ble_eq_true rfl⟩ rfl hl.1 rfl (Nat.le_of_ble_eq_true rfl) dX8_readsCommand_127 ⟨Nat.le_of_ble_eq_true rfl, Nat.le_of_ble_eq_true rfl⟩ ?_; clear hP hD hS; intro H locs hP hD hS
                  refine lv_if_eq (tgt := 137) hx hb dX8_readsCommand_130 (by decide) (fun c44 => ?_) (fun c44 => ?_)
                  · replace h := ite_t c44 h
                    refine lv_iconst (v := 0) hx hb dX8_readsCommand_137 (by decide) ?_
                    replace h := Option.some.inj h
                    exact hret.1 _ _ _ _ _ _ _ _ (Nat.le_of_ble_eq_true rfl) (Nat.le_of_ble_eq_true rfl) dX8_readsCommand_138 rfl (by rw [← h]) (by rw [← h] <;> rfl) (by rw [← h]; exact hP) hS
                  · replace h := ite_f c44 h
                    refine lv_iconst (v := 1) hx hb dX8_readsCommand_133 (by decide) ?_
                    refine lv_goto (tgt := 138) hx hb dX8_readsCommand_134 (by decide) ?_
                    replace h := Option.some.inj h
                    exact hret.1 _ _ _ _ _ _ _ _ (Nat.le_of_ble_eq_true rfl) (Nat.le_of_ble_eq_true rfl) dX8_readsCommand_138 rfl (by rw [← h]) (by rw [← h] <;> rfl) (by rw [← h]; exact hP) hS
            · replace h := ite_f c35 h
              refine lv_lookup (off := 202) (tgt := 251) hx hb dX8_readsCommand_49 (by decide) (by show Op.lookupswitch.offset [(98, 174), (107, 127), (109, 90), (111, 165), (119, 51)] 202 _ = _; rw [lv_osw (a := 98) c5 rfl, lv_osw (a := 107) c12 rfl, lv_osw (a := 109) c22 rfl, lv_osw (a := 111) c32 rfl, lv_osw (a := 119) c35 rfl] <;> rfl) (by decide) ?_
              refine lv_iconst (v := 1) hx hb dX8_readsCommand_251 (by decide) ?_
              replace h := Option.some.inj h
              exact hret.1 _ _ _ _ _ _ _ _ (Nat.le_of_ble_eq_true rfl) (Nat.le_of_ble_eq_true rfl) dX8_readsCommand_252 rfl (by rw [← h]) (by rw [← h] <;> rfl) (by rw [← h]; exact hP) hS
  · replace h := ite_t c3 h
    refine lv_iconst (v := 0) hx hb dX8_readsCommand_19 (by decide) ?_
    replace h := Option.some.inj h
    exact hret.1 _ _ _ _ _ _ _ _ (Nat.le_of_ble_eq_true rfl) (Nat.le_of_ble_eq_true rfl) dX8_readsCommand_20 rfl (by rw [← h]) (by rw [← h] <;> rfl) (by rw [← h]; exact hP) hS
