def fX5_length (t_len : Int32) : Int32 :=
  t_len
set_option maxHeartbeats 4000000 in
set_option maxRecDepth 100000 in
theorem kX5_length (l : Launch) (D : va_G) (T : Nat → ClassId) (a_t a_ti a_tn : Nat) (t_len : Int32) (t_cur : Int32) (t_kin : Int32) (t_tol : Int32) (t_don : Int32) : RdI l yX5_length cX5_length 1 .int ({ frames := 0, cells := 0, slots := 0, locals := 0 } : Room) D T [(a_t, .inr (5, [.ref a_ti, .ref a_tn, .int t_len, .int t_cur, .int t_kin, .int t_tol, .int t_don]))] [.ref a_t] (fX5_length t_len) := by
  obtain ⟨r, h⟩ : ∃ r, fX5_length t_len = r := ⟨_, rfl⟩
  rw [h]
  unfold fX5_length at h
  refine rdMet (by decide +kernel) rfl (fun p e s m args below meth c Q C hE hP hret ls hl => ?_)
  have hx := C.1
  have hb := C.2.1
  have hl : lv_has ls 1 [(0, .ref a_t)] := hl
  refine lv_aload_n hx hb dX5_length_0 rfl (lv_at hl 0 rfl) ?_
  refine getF (q0 := 0) (k0 := 2) (v := .int t_len) C hE hP inA5 rfl rfl (by decide) qFX5_19 rfl rfl dX5_length_1 ?_
  exact hret _ _ _ _ dX5_length_4 rfl h

def fX2_size (h_siz : Int32) : Int32 :=
  h_siz
set_option maxHeartbeats 4000000 in
set_option maxRecDepth 100000 in
theorem kX2_size (l : Launch) (D : va_G) (T : Nat → ClassId) (a_h a_hp : Nat) (h_old : Int32) (h_siz : Int32) : RdI l yX2_size cX2_size 1 .int ({ frames := 0, cells := 0, slots := 0, locals := 0 } : Room) D T [(a_h, .inr (2, [.ref a_hp, .int h_old, .int h_siz]))] [.ref a_h] (fX2_size h_siz) := by
  obtain ⟨r, h⟩ : ∃ r, fX2_size h_siz = r := ⟨_, rfl⟩
  rw [h]
  unfold fX2_size at h
  refine rdMet (by decide +kernel) rfl (fun p e s m args below meth c Q C hE hP hret ls hl => ?_)
  have hx := C.1
  have hb := C.2.1
  have hl : lv_has ls 1 [(0, .ref a_h)] := hl
  refine lv_aload_n hx hb dX2_size_0 rfl (lv_at hl 0 rfl) ?_
  refine getF (q0 := 0) (k0 := 2) (v := .int h_siz) C hE hP inA2 rfl rfl (by decide) qFX2_21 rfl rfl dX2_size_1 ?_
  exact hret _ _ _ _ dX2_size_4 rfl h

def fX7_account_10 (t_len : Int32) (h_siz : Int32) (v_gw : Nat → Int32) (v_gk : Nat → Int32) : Option (Nat × Int32) :=
  some (1, 0)
def fX7_account (t_len : Int32) (h_siz : Int32) (v_gw : Nat → Int32) (v_gk : Nat → Int32) (p0 : Int32) : Option (Nat × Int32) :=
  if p0 < 0 then
    fX7_account_10 t_len h_siz v_gw v_gk
  else
    if p0 < 14 then
      if p0 = 2 then
        (fX1_count v_gk 1).bind fun q4 =>
        some (0, (q4 / 12))
      else
        if p0 = 10 then
          (fX1_countPlaying v_gw v_gk 0).bind fun q7 =>
          (fX1_countPlaying v_gw v_gk 1).bind fun q9 =>
          some (0, (q7 + q9))
        else
          if p0 = 12 then
            some (0, (fX5_length t_len))
          else
            if p0 = 13 then
              some (0, (fX2_size h_siz))
            else
              (fX1_count v_gk p0).bind fun q13 =>
              some (0, q13)
    else
      fX7_account_10 t_len h_siz v_gw v_gk
set_option maxHeartbeats 4000000 in
set_option maxRecDepth 100000 in
theorem lX7_account_10 {p : Program} {l : Launch} {e : Env} {s : State} {m : MethodId} {args : Array Value} {below : List Frame} {meth : Method} {c : Code} {Q : State → Prop} {D : va_G} {T : Nat → ClassId} {a_g a_gw a_gk a_t a_ti a_tn a_h a_hp a_x a_b a_v a_r a_f a_u a_n : Nat} {t_len : Int32} {t_cur : Int32} {t_kin : Int32} {t_tol : Int32} {t_don : Int32} {h_old : Int32} {h_siz : Int32} {x_sav : Int32} {x_err : Int32} {x_rea : Int32} {x_det : Int32} {x_com : Int32} {v_gw : Nat → Int32} {v_gk : Nat → Int32} {A : Nat → Prop} {r : Nat × Int32} (C : CallFix p m c cX7_account 2 s args aw RX7) (hE : eK D T s) (hA : ∀ q : Nat, s.heap.size ≤ q → A q) (hZ : eX l A s) (hret : ThRetI p l e ({ frames := 6, cells := 1, slots := 6, locals := 90 } : Room) s m args below meth c Q cX7_account .int D A [(a_g, .inr (1, [.ref a_gw, .ref a_gk])), (a_t, .inr (5, [.ref a_ti, .ref a_tn, .int t_len, .int t_cur, .int t_kin, .int t_tol, .int t_don])), (a_h, .inr (2, [.ref a_hp, .int h_old, .int h_siz])), (a_x, .inr (7, [.ref a_g, .ref a_b, .ref a_v, .ref a_h, .ref a_r, .ref a_f, .ref a_u, .ref a_t, .ref a_n, .int x_sav, .int x_err, .int x_rea, .int x_det, .int x_com])), (a_gw, .inl (T 0, 90, .inl v_gw)), (a_gk, .inl (T 0, 18, .inl v_gk))] r.1 r.2 ∧ ThOut p l e ({ frames := 6, cells := 1, slots := 6, locals := 90 } : Room) s m args below meth c Q D A [(a_g, .inr (1, [.ref a_gw, .ref a_gk])), (a_t, .inr (5, [.ref a_ti, .ref a_tn, .int t_len, .int t_cur, .int t_kin, .int t_tol, .int t_don])), (a_h, .inr (2, [.ref a_hp, .int h_old, .int h_siz])), (a_x, .inr (7, [.ref a_g, .ref a_b, .ref a_v, .ref a_h, .ref a_r, .ref a_f, .ref a_u, .ref a_t, .ref a_n, .int x_sav, .int x_err, .int x_rea, .int x_det, .int x_com])), (a_gw, .inl (T 0, 90, .inl v_gw)), (a_gk, .inl (T 0, 18, .inl v_gk))] r.1 ∧ ThThr p l e ({ frames := 6, cells := 1, slots := 6, locals := 90 } : Room) s m args below meth c Q cX7_account RX7 D A [(a_g, .inr (1, [.ref a_gw, .ref a_gk])), (a_t, .inr (5, [.ref a_ti, .ref a_tn, .int t_len, .int t_cur, .int t_kin, .int t_tol, .int t_don])), (a_h, .inr (2, [.ref a_hp, .int h_old, .int h_siz])), (a_x, .inr (7, [.ref a_g, .ref a_b, .ref a_v, .ref a_h, .ref a_r, .ref a_f, .ref a_u, .ref a_t, .ref a_n, .int x_sav, .int x_err, .int x_rea, .int x_det, .int x_com])), (a_gw, .inl (T 0, 90, .inl v_gw)), (a_gk, .inl (T 0, 18, .inl v_gk))] r.1) {H : Heap} {locs : List Loc} (hPD : va_PD D A [(a_g, .inr (1, [.ref a_gw, .ref a_gk])), (a_t, .inr (5, [.ref a_ti, .ref a_tn, .int t_len, .int t_cur, .int t_kin, .int t_tol, .int t_don])), (a_h, .inr (2, [.ref a_hp, .int h_old, .int h_siz])), (a_x, .inr (7, [.ref a_g, .ref a_b, .ref a_v, .ref a_h, .ref a_r, .ref a_f, .ref a_u, .ref a_t, .ref a_n, .int x_sav, .int x_err, .int x_rea, .int x_det, .int x_com])), (a_gw, .inl (T 0, 90, .inl v_gw)), (a_gk, .inl (T 0, 18, .inl v_gk))] H) (hS : va_S A s.heap H locs) (ls : Array Slot) (hl : lv_has ls 2 []) (h : fX7_account_10 t_len h_siz v_gw v_gk = some r) : W p l e ({ frames := 6, cells := 1, slots := 6, locals := 90 } : Room) s m args below meth c H locs 0 0 Q (F0 m 10 ls []) := by
  have hx := C.1
  have hb := C.2.1
  obtain ⟨hP, hD⟩ := hPD
  unfold fX7_account_10 at h
  replace h := Option.some.inj h
  exact hret.2.2 _ _ _ _ _ _ _ 141 145 303 _ "no such account" (by rw [← h]; exact thrX7_141_145_1) (by decide +kernel) dX7_account_10 dX7_account_13 (Or.inr ⟨dX7_account_14, dX7_account_17, dX7_account_20⟩) (Nat.le_of_ble_eq_true rfl) (Nat.le_of_ble_eq_true rfl) (Nat.le_of_ble_eq_true rfl) (Nat.le_of_ble_eq_true rfl) (hl.1.trans C.2.2.1.symm) (by rw [← h]; exact (Nat.le_of_ble_eq_true rfl)) hP hS
set_option maxHeartbeats 4000000 in
set_option maxRecDepth 100000 in
theorem kX7_account (l : Launch) (hnt : l.stackTraces = false) (D : va_G) (T : Nat → ClassId) (a_g a_gw a_gk a_t a_ti a_tn a_h a_hp a_x a_b a_v a_r a_f a_u a_n : Nat) (t_len : Int32) (t_cur : Int32) (t_kin : Int32) (t_tol : Int32) (t_don : Int32) (h_old : Int32) (h_siz : Int32) (x_sav : Int32) (x_err : Int32) (x_rea : Int32) (x_det : Int32) (x_com : Int32) (v_gw : Nat → Int32) (v_gk : Nat → Int32) (p0 : Int32) (sz : Nat) (r : Nat × Int32) (h : fX7_account t_len h_siz v_gw v_gk p0 = some r) : ThI l yX7_account cX7_account 2 .int ({ frames := 6, cells := 1, slots := 6, locals := 90 } : Room) D T sz [(a_g, .inr (1, [.ref a_gw, .ref a_gk])), (a_t, .inr (5, [.ref a_ti, .ref a_tn, .int t_len, .int t_cur, .int t_kin, .int t_tol, .int t_don])), (a_h, .inr (2, [.ref a_hp, .int h_old, .int h_siz])), (a_x, .inr (7, [.ref a_g, .ref a_b, .ref a_v, .ref a_h, .ref a_r, .ref a_f, .ref a_u, .ref a_t, .ref a_n, .int x_sav, .int x_err, .int x_rea, .int x_det, .int x_com])), (a_gw, .inl (T 0, 90, .inl v_gw)), (a_gk, .inl (T 0, 18, .inl v_gk))] [(a_g, .inr (1, [.ref a_gw, .ref a_gk])), (a_t, .inr (5, [.ref a_ti, .ref a_tn, .int t_len, .int t_cur, .int t_kin, .int t_tol, .int t_don])), (a_h, .inr (2, [.ref a_hp, .int h_old, .int h_siz])), (a_x, .inr (7, [.ref a_g, .ref a_b, .ref a_v, .ref a_h, .ref a_r, .ref a_f, .ref a_u, .ref a_t, .ref a_n, .int x_sav, .int x_err, .int x_rea, .int x_det, .int x_com])), (a_gw, .inl (T 0, 90, .inl v_gw)), (a_gk, .inl (T 0, 18, .inl v_gk))] [.ref a_x, .int p0] r.1 r.2 := by
  unfold fX7_account at h
  refine thMetI hnt (by decide +kernel) rfl (fun p e s m args below meth c Q A C hE hA hZ hP hD hS hret ls hl => ?_)
  have hx := C.1
  have hb := C.2.1
  have hl : lv_has ls 2 [(0, .ref a_x), (1, .int p0)] := hl
  refine lv_iload_n hx hb dX7_account_0 rfl (lv_at hl 1 rfl) ?_
  refine lv_if_lt (tgt := 10) hx hb dX7_account_1 (by decide) (fun c1 => ?_) (fun c1 => ?_)
  · replace h := ite_t c1 h
    exact lX7_account_10 C hE hA hZ hret ⟨hP, hD⟩ hS _ (lv_sub hl [] rfl) h
  · replace h := ite_f c1 h
    refine lv_iload_n hx hb dX7_account_4 rfl (lv_at hl 1 rfl) ?_
    refine lv_bipush (v := 14) hx hb dX7_account_5 (by decide) ?_
    refine lv_icmp_lt (tgt := 21) hx hb dX7_account_7 (by decide) (fun c2 => ?_) (fun c2 => ?_)
    · replace h := ite_t c2 h
      refine lv_iload_n hx hb dX7_account_21 rfl (lv_at hl 1 rfl) ?_
      by_cases c3 : p0 = 2
      · replace h := ite_t c3 h
        refine lv_lookup (off := 42) (tgt := 64) hx hb dX7_account_22 (by decide) (by rw [c3] <;> rfl) (by decide) ?_
        refine lv_aload_n hx hb dX7_account_64 rfl (lv_at hl 0 rfl) ?_
        refine getF (q0 := 3) (k0 := 0) (v := .ref a_g) C hE hP inA7 rfl rfl (by decide) qFX7_10 rfl rfl dX7_account_65 ?_
        refine lv_iconst (v := 1) hx hb dX7_account_68 (by decide) ?_
        replace h := bnd h; obtain ⟨q4, e5, h⟩ := h
        refine rdV C hE hP (kX1_count l D T a_g a_gw a_gk v_gk 1 q4 e5) mX1_count qLX7_235 [0, 5] 0 rfl rfl rfl rfl ⟨rfl, rfl⟩ ⟨Nat.le_of_ble_eq_true rfl, Nat.le_of_ble_eq_true rfl⟩ rfl hl.1 rfl (Nat.le_of_ble_eq_true rfl) dX7_account_69 ⟨Nat.le_of_ble_eq_true rfl, Nat.le_of_ble_eq_true rfl⟩ ?_
        refine lv_bipush (v := 12) hx hb dX7_account_72 (by decide) ?_
        refine lv_idiv hx hb dX7_account_74 (by decide) ?_
        replace h := Option.some.inj h
        exact hret.1 _ _ _ _ _ _ _ _ (Nat.le_of_ble_eq_true rfl) (Nat.le_of_ble_eq_true rfl) dX7_account_75 rfl (by rw [← h]) (by rw [← h] <;> rfl) hP hS
      · replace h := ite_f c3 h
        by_cases c6 : p0 = 10
        · replace h := ite_t c6 h
          refine lv_lookup (off := 54) (tgt := 76) hx hb dX7_account_22 (by decide) (by rw [c6] <;> rfl) (by decide) ?_
          refine lv_aload_n hx hb dX7_account_76 rfl (lv_at hl 0 rfl) ?_
          refine getF (q0 := 3) (k0 := 0) (v := .ref a_g) C hE hP inA7 rfl rfl (by decide) qFX7_10 rfl rfl dX7_account_77 ?_
          refine lv_iconst (v := 0) hx hb dX7_account_80 (by decide) ?_
          replace h := bnd h; obtain ⟨q7, e8, h⟩ := h
          refine rdV C hE hP (kX1_countPlaying l D T a_g a_gw a_gk v_gw v_gk 0 q7 e8) mX1_countPlaying qLX7_305 [0, 4, 5] 0 rfl rfl rfl rfl ⟨rfl, rfl⟩ ⟨Nat.le_of_ble_eq_true rfl, Nat.le_of_ble_eq_true rfl⟩ rfl hl.1 rfl (Nat.le_of_ble_eq_true rfl) dX7_account_81 ⟨Nat.le_of_ble_eq_true rfl, Nat.le_of_ble_eq_true rfl⟩ ?_
          refine lv_aload_n hx hb dX7_account_84 rfl (lv_at hl 0 rfl) ?_
          refine getF (q0 := 3) (k0 := 0) (v := .ref a_g) C hE hP inA7 rfl rfl (by decide) qFX7_10 rfl rfl dX7_account_85 ?_
          refine lv_iconst (v := 1) hx hb dX7_account_88 (by decide) ?_
          replace h := bnd h; obtain ⟨q9, e10, h⟩ := h
          refine rdV C hE hP (kX1_countPlaying l D T a_g a_gw a_gk v_gw v_gk 1 q9 e10) mX1_countPlaying qLX7_305 [0, 4, 5] 0 rfl rfl rfl rfl ⟨rfl, rfl⟩ ⟨Nat.le_of_ble_eq_true rfl, Nat.le_of_ble_eq_true rfl⟩ rfl hl.1 rfl (Nat.le_of_ble_eq_true rfl) dX7_account_89 ⟨Nat.le_of_ble_eq_true rfl, Nat.le_of_ble_eq_true rfl⟩ ?_
          refine lv_iadd hx hb dX7_account_92 ?_
          replace h := Option.some.inj h
          exact hret.1 _ _ _ _ _ _ _ _ (Nat.le_of_ble_eq_true rfl) (Nat.le_of_ble_eq_true rfl) dX7_account_93 rfl (by rw [← h]) (by rw [← h] <;> rfl) hP hS
        · replace h := ite_f c6 h
          by_cases c11 : p0 = 12
          · replace h := ite_t c11 h
            refine lv_lookup (off := 72) (tgt := 94) hx hb dX7_account_22 (by decide) (by rw [c11] <;> rfl) (by decide) ?_
            refine lv_aload_n hx hb dX7_account_94 rfl (lv_at hl 0 rfl) ?_
            refine getF (q0 := 3) (k0 := 7) (v := .ref a_t) C hE hP inA7 rfl rfl (by decide) qFX7_57 rfl rfl dX7_account_95 ?_
            refine rdV C hE hP (kX5_length l D T a_t a_ti a_tn t_len t_cur t_kin t_tol t_don) mX5_length qLX7_308 [1] 1 rfl rfl rfl rfl ⟨rfl, rfl⟩ ⟨Nat.le_of_ble_eq_true rfl, Nat.le_of_ble_eq_true rfl⟩ rfl hl.1 rfl (Nat.le_of_ble_eq_true rfl) dX7_account_98 ⟨Nat.le_of_ble_eq_true rfl, Nat.le_of_ble_eq_true rfl⟩ ?_
            replace h := Option.some.inj h
            exact hret.1 _ _ _ _ _ _ _ _ (Nat.le_of_ble_eq_true rfl) (Nat.le_of_ble_eq_true rfl) dX7_account_101 rfl (by rw [← h]) (by rw [← h] <;> rfl) hP hS
          · replace h := ite_f c11 h
            by_cases c12 : p0 = 13
            · replace h := ite_t c12 h
              refine lv_lookup (off := 80) (tgt := 102) hx hb dX7_account_22 (by decide) (by rw [c12] <;> rfl) (by decide) ?_
              refine lv_aload_n hx hb dX7_account_102 rfl (lv_at hl 0 rfl) ?_
              refine getF (q0 := 3) (k0 := 3) (v := .ref a_h) C hE hP inA7 rfl rfl (by decide) qFX7_25 rfl rfl dX7_account_103 ?_
              refine rdV C hE hP (kX2_size l D T a_h a_hp h_old h_siz) mX2_size qLX7_309 [2] 2 rfl rfl rfl rfl ⟨rfl, rfl⟩ ⟨Nat.le_of_ble_eq_true rfl, Nat.le_of_ble_eq_true rfl⟩ rfl hl.1 rfl (Nat.le_of_ble_eq_true rfl) dX7_account_106 ⟨Nat.le_of_ble_eq_true rfl, Nat.le_of_ble_eq_true rfl⟩ ?_
              replace h := Option.some.inj h
              exact hret.1 _ _ _ _ _ _ _ _ (Nat.le_of_ble_eq_true rfl) (Nat.le_of_ble_eq_true rfl) dX7_account_109 rfl (by rw [← h]) (by rw [← h] <;> rfl) hP hS
            · replace h := ite_f c12 h
              refine lv_lookup (off := 88) (tgt := 110) hx hb dX7_account_22 (by decide) (by show Op.lookupswitch.offset [(2, 42), (10, 54), (12, 72), (13, 80)] 88 _ = _; rw [lv_osw (a := 2) c3 rfl, lv_osw (a := 10) c6 rfl, lv_osw (a := 12) c11 rfl, lv_osw (a := 13) c12 rfl] <;> rfl) (by decide) ?_
              refine lv_aload_n hx hb dX7_account_110 rfl (lv_at hl 0 rfl) ?_
              refine getF (q0 := 3) (k0 := 0) (v := .ref a_g) C hE hP inA7 rfl rfl (by decide) qFX7_10 rfl rfl dX7_account_111 ?_
              refine lv_iload_n hx hb dX7_account_114 rfl (lv_at hl 1 rfl) ?_
              replace h := bnd h; obtain ⟨q13, e14, h⟩ := h
              refine rdV C hE hP (kX1_count l D T a_g a_gw a_gk v_gk p0 q13 e14) mX1_count qLX7_235 [0, 5] 0 rfl rfl rfl rfl ⟨rfl, rfl⟩ ⟨Nat.le_of_ble_eq_true rfl, Nat.le_of_ble_eq_true rfl⟩ rfl hl.1 rfl (Nat.le_of_ble_eq_true rfl) dX7_account_115 ⟨Nat.le_of_ble_eq_true rfl, Nat.le_of_ble_eq_true rfl⟩ ?_
              replace h := Option.some.inj h
              exact hret.1 _ _ _ _ _ _ _ _ (Nat.le_of_ble_eq_true rfl) (Nat.le_of_ble_eq_true rfl) dX7_account_118 rfl (by rw [← h]) (by rw [← h] <;> rfl) hP hS
    · replace h := ite_f c2 h
      exact lX7_account_10 C hE hA hZ hret ⟨hP, hD⟩ hS _ (lv_sub hl [] rfl) h

def fX5_add_39 (t_len : Int32) (v_ti : Nat → Int32) : Option (Int32 × Int32 × (Nat → Int32)) :=
  some (t_len, t_len, v_ti)
def fX5_add (t_len : Int32) (v_ti : Nat → Int32) (p0 : Int32) : Option (Int32 × Int32 × (Nat → Int32)) :=
  if t_len < 0 then
    fX5_add_39 t_len v_ti
  else
    if 60 ≤ t_len then
      fX5_add_39 t_len v_ti
    else
      if vin t_len 60 = true then
      fX5_add_39 (t_len + 1) (upd v_ti t_len.toNatClampNeg p0.toUInt32.toUInt16.toUInt32.toInt32)
      else none
set_option maxHeartbeats 4000000 in
set_option maxRecDepth 100000 in
theorem lX5_add_39 {p : Program} {l : Launch} {e : Env} {s : State} {m : MethodId} {args : Array Value} {below : List Frame} {meth : Method} {c : Code} {Q : State → Prop} {D : va_G} {T : Nat → ClassId} {a_t a_ti a_tn : Nat} {t_cur : Int32} {t_kin : Int32} {t_tol : Int32} {t_don : Int32} {A : Nat → Prop} {r : Int32 × Int32 × (Nat → Int32)} (C : CallFix p m c cX5_add 2 s args aw RX5) (hE : eK D T s) (hA : ∀ q : Nat, s.heap.size ≤ q → A q) (hret : WrRet p l e ({ frames := 0, cells := 0, slots := 0, locals := 0 } : Room) s m args below meth c Q cX5_add .int D A [(a_t, .inr (5, [.ref a_ti, .ref a_tn, .int r.2.1, .int t_cur, .int t_kin, .int t_tol, .int t_don])), (a_ti, .inl (T 2, 60, .inl r.2.2))] r.1) (t_len : Int32) (v_ti : Nat → Int32) {H : Heap} {locs : List Loc} (hPD : va_PD D A [(a_t, .inr (5, [.ref a_ti, .ref a_tn, .int t_len, .int t_cur, .int t_kin, .int t_tol, .int t_don])), (a_ti, .inl (T 2, 60, .inl v_ti))] H) (hS : va_S A s.heap H locs) (ls : Array Slot) (hl : lv_has ls 2 [(0, .ref a_t)]) (h : fX5_add_39 t_len v_ti = some r) : W p l e ({ frames := 0, cells := 0, slots := 0, locals := 0 } : Room) s m args below meth c H locs 0 0 Q (F0 m 39 ls []) := by
  have hx := C.1
  have hb := C.2.1
  obtain ⟨hP, hD⟩ := hPD
  unfold fX5_add_39 at h
  refine lv_aload_n hx hb dX5_add_39 rfl (lv_at hl 0 rfl) ?_
  refine getF (q0 := 0) (k0 := 2) (v := .int t_len) C hE hP inA5 rfl rfl (by decide) qFX5_19 rfl rfl dX5_add_40 ?_
  replace h := Option.some.inj h
  exact hret _ _ _ _ _ _ dX5_add_43 rfl (by rw [← h] <;> rfl) (by rw [← h]; exact hP) hS
set_option maxHeartbeats 4000000 in
set_option maxRecDepth 100000 in
theorem kX5_add (l : Launch) (D : va_G) (T : Nat → ClassId) (a_t a_ti a_tn : Nat) (t_len : Int32) (t_cur : Int32) (t_kin : Int32) (t_tol : Int32) (t_don : Int32) (v_ti : Nat → Int32) (p0 : Int32) (sz : Nat) (r : Int32 × Int32 × (Nat → Int32)) (h : fX5_add t_len v_ti p0 = some r) : WrI l yX5_add cX5_add 2 .int ({ frames := 0, cells := 0, slots := 0, locals := 0 } : Room) D T sz [(a_t, .inr (5, [.ref a_ti, .ref a_tn, .int t_len, .int t_cur, .int t_kin, .int t_tol, .int t_don])), (a_ti, .inl (T 2, 60, .inl v_ti))] [(a_t, .inr (5, [.ref a_ti, .ref a_tn, .int r.2.1, .int t_cur, .int t_kin, .int t_tol, .int t_don])), (a_ti, .inl (T 2, 60, .inl r.2.2))] [.ref a_t, .int p0] r.1 := by
  unfold fX5_add at h
  refine wrMet (by decide +kernel) rfl (fun p e s m args below meth c Q A C hE hA hP hD hS hret ls hl => ?_)
  have hx := C.1
  have hb := C.2.1
  have hl : lv_has ls 2 [(0, .ref a_t), (1, .int p0)] := hl
  refine lv_aload_n hx hb dX5_add_0 rfl (lv_at hl 0 rfl) ?_
  refine getF (q0 := 0) (k0 := 2) (v := .int t_len) C hE hP inA5 rfl rfl (by decide) qFX5_19 rfl rfl dX5_add_1 ?_
  refine lv_if_lt (tgt := 39) hx hb dX5_add_4 (by decide) (fun c1 => ?_) (fun c1 => ?_)
  · replace h := ite_t c1 h
    exact lX5_add_39 C hE hA hret t_len v_ti ⟨hP, hD⟩ hS _ (lv_sub hl [0] rfl) h
  · replace h := ite_f c1 h
    refine lv_aload_n hx hb dX5_add_7 rfl (lv_at hl 0 rfl) ?_
    refine getF (q0 := 0) (k0 := 2) (v := .int t_len) C hE hP inA5 rfl rfl (by decide) qFX5_19 rfl rfl dX5_add_8 ?_
    refine lv_aload_n hx hb dX5_add_11 rfl (lv_at hl 0 rfl) ?_
    refine getF (q0 := 0) (k0 := 0) (v := .ref a_ti) C hE hP inA5 rfl rfl (by decide) qFX5_9 rfl rfl dX5_add_12 ?_
    refine alen (q0 := 1) (t0 := 2) (v := 60) C hE hP rfl rfl (by decide) dX5_add_15 ?_
    refine lv_icmp_ge (tgt := 39) hx hb dX5_add_16 (by decide) (fun c2 => ?_) (fun c2 => ?_)
    · replace h := ite_t c2 h
      exact lX5_add_39 C hE hA hret t_len v_ti ⟨hP, hD⟩ hS _ (lv_sub hl [0] rfl) h
    · replace h := ite_f c2 h
      refine lv_aload_n hx hb dX5_add_19 rfl (lv_at hl 0 rfl) ?_
      refine getF (q0 := 0) (k0 := 0) (v := .ref a_ti) C hE hP inA5 rfl rfl (by decide) qFX5_9 rfl rfl dX5_add_20 ?_
      refine lv_aload_n hx hb dX5_add_23 rfl (lv_at hl 0 rfl) ?_
      refine getF (q0 := 0) (k0 := 2) (v := .int t_len) C hE hP inA5 rfl rfl (by decide) qFX5_19 rfl rfl dX5_add_24 ?_
      refine lv_iload_n hx hb dX5_add_27 rfl (lv_at hl 1 rfl) ?_
      replace h := gd h; obtain ⟨g3, h⟩ := h
      refine astC (q0 := 1) (ws1 := [(a_t, .inr (5, [.ref a_ti, .ref a_tn, .int t_len, .int t_cur, .int t_kin, .int t_tol, .int t_don])), (a_ti, .inl (T 2, 60, .inl (upd v_ti t_len.toNatClampNeg p0.toUInt32.toUInt16.toUInt32.toInt32)))]) C hE hP hD hS rfl g3 rfl dX5_add_28 ?_; clear hP hD hS; intro H locs hP hD hS
      refine lv_aload_n hx hb dX5_add_29 rfl (lv_at hl 0 rfl) ?_
      refine lv_dup hx hb dX5_add_30 rfl ?_
      refine getF (q0 := 0) (k0 := 2) (v := .int t_len) C hE hP inA5 rfl rfl (by decide) qFX5_19 rfl rfl dX5_add_31 ?_
      refine lv_iconst (v := 1) hx hb dX5_add_34 (by decide) ?_
      refine lv_iadd hx hb dX5_add_35 ?_
      refine putF (q0 := 0) (k0 := 2) (ws1 := [(a_t, .inr (5, [.ref a_ti, .ref a_tn, .int (t_len + 1), .int t_cur, .int t_kin, .int t_tol, .int t_don])), (a_ti, .inl (T 2, 60, .inl (upd v_ti t_len.toNatClampNeg p0.toUInt32.toUInt16.toUInt32.toInt32)))]) C hE hP hD hS inA5 tyX5_ok nmX5 rfl rfl (by decide) qFX5_19 rfl rfl rfl rfl (Nat.le_of_ble_eq_true rfl) rfl dX5_add_36 ?_; clear hP hD hS; intro H locs hP hD hS
      exact lX5_add_39 C hE hA hret (t_len + 1) (upd v_ti t_len.toNatClampNeg p0.toUInt32.toUInt16.toUInt32.toInt32) ⟨hP, hD⟩ hS _ (lv_sub hl [0] rfl) h

def fX7_append_12 (t_len : Int32) (v_ti : Nat → Int32) : Option (Nat × Int32 × Int32 × (Nat → Int32)) :=
  some (1, 0, t_len, v_ti)
def fX7_append (t_len : Int32) (v_ti : Nat → Int32) (p0 : Int32) : Option (Nat × Int32 × Int32 × (Nat → Int32)) :=
  if p0 < 32 then
    fX7_append_12 t_len v_ti
  else
    if p0 ≤ 126 then
      if (fX5_length t_len) < 60 then
        (fX5_add t_len v_ti p0).bind fun q4 =>
        some (0, q4.1, q4.2.1, q4.2.2)
      else
        some (6, 0, t_len, v_ti)
    else
      fX7_append_12 t_len v_ti
set_option maxHeartbeats 4000000 in
set_option maxRecDepth 100000 in
theorem lX7_append_12 {p : Program} {l : Launch} {e : Env} {s : State} {m : MethodId} {args : Array Value} {below : List Frame} {meth : Method} {c : Code} {Q : State → Prop} {D : va_G} {T : Nat → ClassId} {a_t a_ti a_tn a_x a_g a_b a_v a_h a_r a_f a_u a_n : Nat} {t_cur : Int32} {t_kin : Int32} {t_tol : Int32} {t_don : Int32} {x_sav : Int32} {x_err : Int32} {x_rea : Int32} {x_det : Int32} {x_com : Int32} {A : Nat → Prop} {r : Nat × Int32 × Int32 × (Nat → Int32)} (C : CallFix p m c cX7_append 2 s args aw RX7) (hE : eK D T s) (hA : ∀ q : Nat, s.heap.size ≤ q → A q) (hZ : eX l A s) (hret : ThRetI p l e ({ frames := 6, cells := 1, slots := 6, locals := 90 } : Room) s m args below meth c Q cX7_append .int D A [(a_t, .inr (5, [.ref a_ti, .ref a_tn, .int r.2.2.1, .int t_cur, .int t_kin, .int t_tol, .int t_don])), (a_x, .inr (7, [.ref a_g, .ref a_b, .ref a_v, .ref a_h, .ref a_r, .ref a_f, .ref a_u, .ref a_t, .ref a_n, .int x_sav, .int x_err, .int x_rea, .int x_det, .int x_com])), (a_ti, .inl (T 2, 60, .inl r.2.2.2))] r.1 r.2.1 ∧ ThOut p l e ({ frames := 6, cells := 1, slots := 6, locals := 90 } : Room) s m args below meth c Q D A [(a_t, .inr (5, [.ref a_ti, .ref a_tn, .int r.2.2.1, .int t_cur, .int t_kin, .int t_tol, .int t_don])), (a_x, .inr (7, [.ref a_g, .ref a_b, .ref a_v, .ref a_h, .ref a_r, .ref a_f, .ref a_u, .ref a_t, .ref a_n, .int x_sav, .int x_err, .int x_rea, .int x_det, .int x_com])), (a_ti, .inl (T 2, 60, .inl r.2.2.2))] r.1 ∧ ThThr p l e ({ frames := 6, cells := 1, slots := 6, locals := 90 } : Room) s m args below meth c Q cX7_append RX7 D A [(a_t, .inr (5, [.ref a_ti, .ref a_tn, .int r.2.2.1, .int t_cur, .int t_kin, .int t_tol, .int t_don])), (a_x, .inr (7, [.ref a_g, .ref a_b, .ref a_v, .ref a_h, .ref a_r, .ref a_f, .ref a_u, .ref a_t, .ref a_n, .int x_sav, .int x_err, .int x_rea, .int x_det, .int x_com])), (a_ti, .inl (T 2, 60, .inl r.2.2.2))] r.1) (t_len : Int32) (v_ti : Nat → Int32) {H : Heap} {locs : List Loc} (hPD : va_PD D A [(a_t, .inr (5, [.ref a_ti, .ref a_tn, .int t_len, .int t_cur, .int t_kin, .int t_tol, .int t_don])), (a_x, .inr (7, [.ref a_g, .ref a_b, .ref a_v, .ref a_h, .ref a_r, .ref a_f, .ref a_u, .ref a_t, .ref a_n, .int x_sav, .int x_err, .int x_rea, .int x_det, .int x_com])), (a_ti, .inl (T 2, 60, .inl v_ti))] H) (hS : va_S A s.heap H locs) (ls : Array Slot) (hl : lv_has ls 2 []) (h : fX7_append_12 t_len v_ti = some r) : W p l e ({ frames := 6, cells := 1, slots := 6, locals := 90 } : Room) s m args below meth c H locs 0 0 Q (F0 m 12 ls []) := by
  have hx := C.1
  have hb := C.2.1
  obtain ⟨hP, hD⟩ := hPD
  unfold fX7_append_12 at h
  replace h := Option.some.inj h
  exact hret.2.2 _ _ _ _ _ _ _ 141 145 312 _ "no character for the input" (by rw [← h]; exact thrX7_141_145_1) (by decide +kernel) dX7_append_12 dX7_append_15 (Or.inr ⟨dX7_append_16, dX7_append_19, dX7_append_22⟩) (Nat.le_of_ble_eq_true rfl) (Nat.le_of_ble_eq_true rfl) (Nat.le_of_ble_eq_true rfl) (Nat.le_of_ble_eq_true rfl) (hl.1.trans C.2.2.1.symm) (by rw [← h]; exact (Nat.le_of_ble_eq_true rfl)) (by rw [← h]; exact hP) hS
set_option maxHeartbeats 4000000 in
set_option maxRecDepth 100000 in
theorem kX7_append (l : Launch) (hnt : l.stackTraces = false) (D : va_G) (T : Nat → ClassId) (a_t a_ti a_tn a_x a_g a_b a_v a_h a_r a_f a_u a_n : Nat) (t_len : Int32) (t_cur : Int32) (t_kin : Int32) (t_tol : Int32) (t_don : Int32) (x_sav : Int32) (x_err : Int32) (x_rea : Int32) (x_det : Int32) (x_com : Int32) (v_ti : Nat → Int32) (p0 : Int32) (sz : Nat) (r : Nat × Int32 × Int32 × (Nat → Int32)) (h : fX7_append t_len v_ti p0 = some r) : ThI l yX7_append cX7_append 2 .int ({ frames := 6, cells := 1, slots := 6, locals := 90 } : Room) D T sz [(a_t, .inr (5, [.ref a_ti, .ref a_tn, .int t_len, .int t_cur, .int t_kin, .int t_tol, .int t_don])), (a_x, .inr (7, [.ref a_g, .ref a_b, .ref a_v, .ref a_h, .ref a_r, .ref a_f, .ref a_u, .ref a_t, .ref a_n, .int x_sav, .int x_err, .int x_rea, .int x_det, .int x_com])), (a_ti, .inl (T 2, 60, .inl v_ti))] [(a_t, .inr (5, [.ref a_ti, .ref a_tn, .int r.2.2.1, .int t_cur, .int t_kin, .int t_tol, .int t_don])), (a_x, .inr (7, [.ref a_g, .ref a_b, .ref a_v, .ref a_h, .ref a_r, .ref a_f, .ref a_u, .ref a_t, .ref a_n, .int x_sav, .int x_err, .int x_rea, .int x_det, .int x_com])), (a_ti, .inl (T 2, 60, .inl r.2.2.2))] [.ref a_x, .int p0] r.1 r.2.1 := by
  unfold fX7_append at h
  refine thMetI hnt (by decide +kernel) rfl (fun p e s m args below meth c Q A C hE hA hZ hP hD hS hret ls hl => ?_)
  have hx := C.1
  have hb := C.2.1
  have hl : lv_has ls 2 [(0, .ref a_x), (1, .int p0)] := hl
  refine lv_iload_n hx hb dX7_append_0 rfl (lv_at hl 1 rfl) ?_
  refine lv_bipush (v := 32) hx hb dX7_append_1 (by decide) ?_
  refine lv_icmp_lt (tgt := 12) hx hb dX7_append_3 (by decide) (fun c1 => ?_) (fun c1 => ?_)
  · replace h := ite_t c1 h
    exact lX7_append_12 C hE hA hZ hret t_len v_ti ⟨hP, hD⟩ hS _ (lv_sub hl [] rfl) h
  · replace h := ite_f c1 h
    refine lv_iload_n hx hb dX7_append_6 rfl (lv_at hl 1 rfl) ?_
    refine lv_bipush (v := 126) hx hb dX7_append_7 (by decide) ?_
    refine lv_icmp_le (tgt := 23) hx hb dX7_append_9 (by decide) (fun c2 => ?_) (fun c2 => ?_)
    · replace h := ite_t c2 h
      refine lv_aload_n hx hb dX7_append_23 rfl (lv_at hl 0 rfl) ?_
      refine getF (q0 := 1) (k0 := 7) (v := .ref a_t) C hE hP inA7 rfl rfl (by decide) qFX7_57 rfl rfl dX7_append_24 ?_
      refine rdV C hE hP (kX5_length l D T a_t a_ti a_tn t_len t_cur t_kin t_tol t_don) mX5_length qLX7_308 [0] 0 rfl rfl rfl rfl ⟨rfl, rfl⟩ ⟨Nat.le_of_ble_eq_true rfl, Nat.le_of_ble_eq_true rfl⟩ rfl hl.1 rfl (Nat.le_of_ble_eq_true rfl) dX7_append_27 ⟨Nat.le_of_ble_eq_true rfl, Nat.le_of_ble_eq_true rfl⟩ ?_
      refine lv_bipush (v := 60) hx hb dX7_append_30 (by decide) ?_
      refine lv_icmp_lt (tgt := 46) hx hb dX7_append_32 (by decide) (fun c3 => ?_) (fun c3 => ?_)
      · replace h := ite_t c3 h
        refine lv_aload_n hx hb dX7_append_46 rfl (lv_at hl 0 rfl) ?_
        refine getF (q0 := 1) (k0 := 7) (v := .ref a_t) C hE hP inA7 rfl rfl (by decide) qFX7_57 rfl rfl dX7_append_47 ?_
        refine lv_iload_n hx hb dX7_append_50 rfl (lv_at hl 1 rfl) ?_
        replace h := bnd h; obtain ⟨q4, e5, h⟩ := h
        refine wrVi (ws1 := [(a_t, .inr (5, [.ref a_ti, .ref a_tn, .int q4.2.1, .int t_cur, .int t_kin, .int t_tol, .int t_don])), (a_x, .inr (7, [.ref a_g, .ref a_b, .ref a_v, .ref a_h, .ref a_r, .ref a_f, .ref a_u, .ref a_t, .ref a_n, .int x_sav, .int x_err, .int x_rea, .int x_det, .int x_com])), (a_ti, .inl (T 2, 60, .inl q4.2.2))]) C hE hP hD hS hA (kX5_add l D T a_t a_ti a_tn t_len t_cur t_kin t_tol t_don v_ti p0 _ q4 e5) mX5_add qLX7_319 [0, 2] [1] 0 rfl rfl rfl rfl rfl rfl rfl rfl rfl ⟨rfl, rfl⟩ ⟨Nat.le_of_ble_eq_true rfl, Nat.le_of_ble_eq_true rfl⟩ rfl hl.1 rfl (Nat.le_of_ble_eq_true rfl) dX7_append_51 ⟨Nat.le_of_ble_eq_true rfl, Nat.le_of_ble_eq_true rfl⟩ ?_; clear hP hD hS; intro H locs hP hD hS
        replace h := Option.some.inj h
        exact hret.1 _ _ _ _ _ _ _ _ (Nat.le_of_ble_eq_true rfl) (Nat.le_of_ble_eq_true rfl) dX7_append_54 rfl (by rw [← h]) (by rw [← h] <;> rfl) (by rw [← h]; exact hP) hS
      · replace h := ite_f c3 h
        replace h := Option.some.inj h
        exact hret.2.2 _ _ _ _ _ _ _ 314 318 316 _ "the input is full" (by rw [← h]; exact thrX7_314_318_6) (by decide +kernel) dX7_append_35 dX7_append_38 (Or.inr ⟨dX7_append_39, dX7_append_42, dX7_append_45⟩) (Nat.le_of_ble_eq_true rfl) (Nat.le_of_ble_eq_true rfl) (Nat.le_of_ble_eq_true rfl) (Nat.le_of_ble_eq_true rfl) (hl.1.trans C.2.2.1.symm) (by rw [← h]; exact (Nat.le_of_ble_eq_true rfl)) (by rw [← h]; exact hP) hS
    · replace h := ite_f c2 h
      exact lX7_append_12 C hE hA hZ hret t_len v_ti ⟨hP, hD⟩ hS _ (lv_sub hl [] rfl) h

def fX5_rewind (t_cur : Int32) (t_don : Int32) : Option (Int32 × Int32) :=
  some (0, 0)
set_option maxHeartbeats 4000000 in
set_option maxRecDepth 100000 in
theorem kX5_rewind (l : Launch) (D : va_G) (T : Nat → ClassId) (a_t a_ti a_tn : Nat) (t_len : Int32) (t_cur : Int32) (t_kin : Int32) (t_tol : Int32) (t_don : Int32) (sz : Nat) (r : Int32 × Int32) (h : fX5_rewind t_cur t_don = some r) : WrV l yX5_rewind cX5_rewind 1 ({ frames := 0, cells := 0, slots := 0, locals := 0 } : Room) D T sz [(a_t, .inr (5, [.ref a_ti, .ref a_tn, .int t_len, .int t_cur, .int t_kin, .int t_tol, .int t_don]))] [(a_t, .inr (5, [.ref a_ti, .ref a_tn, .int t_len, .int r.1, .int t_kin, .int t_tol, .int r.2]))] [.ref a_t] := by
  unfold fX5_rewind at h
  refine wrMetV (by decide +kernel) rfl (fun p e s m args below meth c Q A C hE hA hP hD hS hret ls hl => ?_)
  have hx := C.1
  have hb := C.2.1
  have hl : lv_has ls 1 [(0, .ref a_t)] := hl
  refine lv_aload_n hx hb dX5_rewind_0 rfl (lv_at hl 0 rfl) ?_
  refine lv_iconst (v := 0) hx hb dX5_rewind_1 (by decide) ?_
  refine putF (q0 := 0) (k0 := 3) (ws1 := [(a_t, .inr (5, [.ref a_ti, .ref a_tn, .int t_len, .int 0, .int t_kin, .int t_tol, .int t_don]))]) C hE hP hD hS inA5 tyX5_ok nmX5 rfl rfl (by decide) qFX5_23 rfl rfl rfl rfl (Nat.le_of_ble_eq_true rfl) rfl dX5_rewind_2 ?_; clear hP hD hS; intro H locs hP hD hS
  refine lv_aload_n hx hb dX5_rewind_5 rfl (lv_at hl 0 rfl) ?_
  refine lv_iconst (v := 0) hx hb dX5_rewind_6 (by decide) ?_
  refine putF (q0 := 0) (k0 := 6) (ws1 := [(a_t, .inr (5, [.ref a_ti, .ref a_tn, .int t_len, .int 0, .int t_kin, .int t_tol, .int 0]))]) C hE hP hD hS inA5 tyX5_ok nmX5 rfl rfl (by decide) qFX5_32 rfl rfl rfl rfl (Nat.le_of_ble_eq_true rfl) rfl dX5_rewind_7 ?_; clear hP hD hS; intro H locs hP hD hS
  replace h := Option.some.inj h
  exact hret _ _ _ _ dX5_rewind_10 (by rw [← h]; exact hP) hS

def fX5_here (t_len : Int32) (t_cur : Int32) (v_ti : Nat → Int32) : Option Int32 :=
  if t_cur < 0 then
    some ((0 : Int32).toUInt32.toUInt16.toUInt32.toInt32)
  else
    if t_len ≤ t_cur then
      some ((0 : Int32).toUInt32.toUInt16.toUInt32.toInt32)
    else
      if 60 ≤ t_cur then
        some ((0 : Int32).toUInt32.toUInt16.toUInt32.toInt32)
      else
        if vin t_cur 60 = true then
        some ((v_ti t_cur.toNatClampNeg).toUInt32.toUInt16.toUInt32.toInt32)
        else none
set_option maxHeartbeats 4000000 in
set_option maxRecDepth 100000 in
theorem kX5_here (l : Launch) (D : va_G) (T : Nat → ClassId) (a_t a_ti a_tn : Nat) (t_len : Int32) (t_cur : Int32) (t_kin : Int32) (t_tol : Int32) (t_don : Int32) (v_ti : Nat → Int32) (r : Int32) (h : fX5_here t_len t_cur v_ti = some r) : RdI l yX5_here cX5_here 1 .char ({ frames := 0, cells := 0, slots := 0, locals := 0 } : Room) D T [(a_t, .inr (5, [.ref a_ti, .ref a_tn, .int t_len, .int t_cur, .int t_kin, .int t_tol, .int t_don])), (a_ti, .inl (T 2, 60, .inl v_ti))] [.ref a_t] r := by
  unfold fX5_here at h
  refine rdMet (by decide +kernel) rfl (fun p e s m args below meth c Q C hE hP hret ls hl => ?_)
  have hx := C.1
  have hb := C.2.1
  have hl : lv_has ls 1 [(0, .ref a_t)] := hl
  refine lv_aload_n hx hb dX5_here_0 rfl (lv_at hl 0 rfl) ?_
  refine getF (q0 := 0) (k0 := 3) (v := .int t_cur) C hE hP inA5 rfl rfl (by decide) qFX5_23 rfl rfl dX5_here_1 ?_
  refine lv_if_lt (tgt := 42) hx hb dX5_here_4 (by decide) (fun c1 => ?_) (fun c1 => ?_)
  · replace h := ite_t c1 h
    refine lv_iconst (v := 0) hx hb dX5_here_42 (by decide) ?_
    exact hret _ _ _ _ dX5_here_43 rfl (Option.some.inj h)
  · replace h := ite_f c1 h
    refine lv_aload_n hx hb dX5_here_7 rfl (lv_at hl 0 rfl) ?_
    refine getF (q0 := 0) (k0 := 3) (v := .int t_cur) C hE hP inA5 rfl rfl (by decide) qFX5_23 rfl rfl dX5_here_8 ?_
    refine lv_aload_n hx hb dX5_here_11 rfl (lv_at hl 0 rfl) ?_
    refine getF (q0 := 0) (k0 := 2) (v := .int t_len) C hE hP inA5 rfl rfl (by decide) qFX5_19 rfl rfl dX5_here_12 ?_
    refine lv_icmp_ge (tgt := 42) hx hb dX5_here_15 (by decide) (fun c2 => ?_) (fun c2 => ?_)
    · replace h := ite_t c2 h
      refine lv_iconst (v := 0) hx hb dX5_here_42 (by decide) ?_
      exact hret _ _ _ _ dX5_here_43 rfl (Option.some.inj h)
    · replace h := ite_f c2 h
      refine lv_aload_n hx hb dX5_here_18 rfl (lv_at hl 0 rfl) ?_
      refine getF (q0 := 0) (k0 := 3) (v := .int t_cur) C hE hP inA5 rfl rfl (by decide) qFX5_23 rfl rfl dX5_here_19 ?_
      refine lv_aload_n hx hb dX5_here_22 rfl (lv_at hl 0 rfl) ?_
      refine getF (q0 := 0) (k0 := 0) (v := .ref a_ti) C hE hP inA5 rfl rfl (by decide) qFX5_9 rfl rfl dX5_here_23 ?_
      refine alen (q0 := 1) (t0 := 2) (v := 60) C hE hP rfl rfl (by decide) dX5_here_26 ?_
      refine lv_icmp_ge (tgt := 42) hx hb dX5_here_27 (by decide) (fun c3 => ?_) (fun c3 => ?_)
      · replace h := ite_t c3 h
        refine lv_iconst (v := 0) hx hb dX5_here_42 (by decide) ?_
        exact hret _ _ _ _ dX5_here_43 rfl (Option.some.inj h)
      · replace h := ite_f c3 h
        refine lv_aload_n hx hb dX5_here_30 rfl (lv_at hl 0 rfl) ?_
        refine getF (q0 := 0) (k0 := 0) (v := .ref a_ti) C hE hP inA5 rfl rfl (by decide) qFX5_9 rfl rfl dX5_here_31 ?_
        refine lv_aload_n hx hb dX5_here_34 rfl (lv_at hl 0 rfl) ?_
        refine getF (q0 := 0) (k0 := 3) (v := .int t_cur) C hE hP inA5 rfl rfl (by decide) qFX5_23 rfl rfl dX5_here_35 ?_
        replace h := gd h; obtain ⟨g4, h⟩ := h
        refine aldC (q0 := 1) C hE hP rfl g4 dX5_here_38 ?_
        refine lv_goto (tgt := 43) hx hb dX5_here_39 (by decide) ?_
        exact hret _ _ _ _ dX5_here_43 rfl (Option.some.inj h)

def fX5_digitHere (t_len : Int32) (t_cur : Int32) (v_ti : Nat → Int32) : Option Int32 :=
  (fX5_here t_len t_cur v_ti).bind fun q1 =>
  if q1 < 48 then
    some (-1)
  else
    if 57 < q1 then
      some (-1)
    else
      some (q1 - 48)
set_option maxHeartbeats 4000000 in
set_option maxRecDepth 100000 in
theorem kX5_digitHere (l : Launch) (D : va_G) (T : Nat → ClassId) (a_t a_ti a_tn : Nat) (t_len : Int32) (t_cur : Int32) (t_kin : Int32) (t_tol : Int32) (t_don : Int32) (v_ti : Nat → Int32) (r : Int32) (h : fX5_digitHere t_len t_cur v_ti = some r) : RdI l yX5_digitHere cX5_digitHere 2 .int ({ frames := 1, cells := 0, slots := 0, locals := 20 } : Room) D T [(a_t, .inr (5, [.ref a_ti, .ref a_tn, .int t_len, .int t_cur, .int t_kin, .int t_tol, .int t_don])), (a_ti, .inl (T 2, 60, .inl v_ti))] [.ref a_t] r := by
  unfold fX5_digitHere at h
  refine rdMet (by decide +kernel) rfl (fun p e s m args below meth c Q C hE hP hret ls hl => ?_)
  have hx := C.1
  have hb := C.2.1
  have hl : lv_has ls 2 [(0, .ref a_t)] := hl
  refine lv_aload_n hx hb dX5_digitHere_0 rfl (lv_at hl 0 rfl) ?_
  replace h := bnd h; obtain ⟨q1, e2, h⟩ := h
  refine rdV C hE hP (kX5_here l D T a_t a_ti a_tn t_len t_cur t_kin t_tol t_don v_ti q1 e2) mX5_here qLX5_42 [0, 1] 0 rfl rfl rfl rfl ⟨rfl, rfl⟩ ⟨Nat.le_of_ble_eq_true rfl, Nat.le_of_ble_eq_true rfl⟩ rfl hl.1 rfl (Nat.le_of_ble_eq_true rfl) dX5_digitHere_1 ⟨Nat.le_of_ble_eq_true rfl, Nat.le_of_ble_eq_true rfl⟩ ?_
  refine lv_istore_n (lv' := [(1, .int q1), (0, .ref a_t)]) hx hb dX5_digitHere_4 rfl hl (by decide) rfl (fun ls hl => ?_)
  refine lv_iload_n hx hb dX5_digitHere_5 rfl (lv_at hl 0 rfl) ?_
  refine lv_bipush (v := 48) hx hb dX5_digitHere_6 (by decide) ?_
  refine lv_icmp_lt (tgt := 24) hx hb dX5_digitHere_8 (by decide) (fun c3 => ?_) (fun c3 => ?_)
  · replace h := ite_t c3 h
    refine lv_iconst (v := (-1)) hx hb dX5_digitHere_24 (by decide) ?_
    exact hret _ _ _ _ dX5_digitHere_25 rfl (Option.some.inj h)
  · replace h := ite_f c3 h
    refine lv_iload_n hx hb dX5_digitHere_11 rfl (lv_at hl 0 rfl) ?_
    refine lv_bipush (v := 57) hx hb dX5_digitHere_12 (by decide) ?_
    refine lv_icmp_gt (tgt := 24) hx hb dX5_digitHere_14 (by decide) (fun c4 => ?_) (fun c4 => ?_)
    · replace h := ite_t c4 h
      refine lv_iconst (v := (-1)) hx hb dX5_digitHere_24 (by decide) ?_
      exact hret _ _ _ _ dX5_digitHere_25 rfl (Option.some.inj h)
    · replace h := ite_f c4 h
      refine lv_iload_n hx hb dX5_digitHere_17 rfl (lv_at hl 0 rfl) ?_
      refine lv_bipush (v := 48) hx hb dX5_digitHere_18 (by decide) ?_
      refine lv_isub hx hb dX5_digitHere_20 ?_
      refine lv_goto (tgt := 25) hx hb dX5_digitHere_21 (by decide) ?_
      exact hret _ _ _ _ dX5_digitHere_25 rfl (Option.some.inj h)

def fX5_takeSecondDigit (t_len : Int32) (t_cur : Int32) (t_tol : Int32) (v_ti : Nat → Int32) (v_tn : Nat → Int32) : Option (Int32 × (Nat → Int32)) :=
  (fX5_digitHere t_len t_cur v_ti).bind fun q1 =>
  if q1 < 0 then
    some (t_cur, v_tn)
  else
    if (t_tol - 1) < 0 then
      some (t_cur, v_tn)
    else
      if 3 ≤ (t_tol - 1) then
        some (t_cur, v_tn)
      else
        if vin (t_tol - 1) 3 = true then
        if vin (t_tol - 1) 3 = true then
        some ((t_cur + 1), (upd v_tn (t_tol - 1).toNatClampNeg ((10 * (v_tn (t_tol - 1).toNatClampNeg)) + q1)))
        else none
        else none
set_option maxHeartbeats 4000000 in
set_option maxRecDepth 100000 in
theorem kX5_takeSecondDigit (l : Launch) (D : va_G) (T : Nat → ClassId) (a_t a_ti a_tn : Nat) (t_len : Int32) (t_cur : Int32) (t_kin : Int32) (t_tol : Int32) (t_don : Int32) (v_ti : Nat → Int32) (v_tn : Nat → Int32) (sz : Nat) (r : Int32 × (Nat → Int32)) (h : fX5_takeSecondDigit t_len t_cur t_tol v_ti v_tn = some r) : WrV l yX5_takeSecondDigit cX5_takeSecondDigit 3 ({ frames := 2, cells := 0, slots := 0, locals := 41 } : Room) D T sz [(a_t, .inr (5, [.ref a_ti, .ref a_tn, .int t_len, .int t_cur, .int t_kin, .int t_tol, .int t_don])), (a_ti, .inl (T 2, 60, .inl v_ti)), (a_tn, .inl (T 0, 3, .inl v_tn))] [(a_t, .inr (5, [.ref a_ti, .ref a_tn, .int t_len, .int r.1, .int t_kin, .int t_tol, .int t_don])), (a_ti, .inl (T 2, 60, .inl v_ti)), (a_tn, .inl (T 0, 3, .inl r.2))] [.ref a_t] := by
  unfold fX5_takeSecondDigit at h
  refine wrMetV (by decide +kernel) rfl (fun p e s m args below meth c Q A C hE hA hP hD hS hret ls hl => ?_)
  have hx := C.1
  have hb := C.2.1
  have hl : lv_has ls 3 [(0, .ref a_t)] := hl
  refine lv_aload_n hx hb dX5_takeSecondDigit_0 rfl (lv_at hl 0 rfl) ?_
  replace h := bnd h; obtain ⟨q1, e2, h⟩ := h
  refine rdV C hE hP (kX5_digitHere l D T a_t a_ti a_tn t_len t_cur t_kin t_tol t_don v_ti q1 e2) mX5_digitHere qLX5_86 [0, 1] 0 rfl rfl rfl rfl ⟨rfl, rfl⟩ ⟨Nat.le_of_ble_eq_true rfl, Nat.le_of_ble_eq_true rfl⟩ rfl hl.1 rfl (Nat.le_of_ble_eq_true rfl) dX5_takeSecondDigit_1 ⟨Nat.le_of_ble_eq_true rfl, Nat.le_of_ble_eq_true rfl⟩ ?_
  refine lv_istore_n (lv' := [(1, .int q1), (0, .ref a_t)]) hx hb dX5_takeSecondDigit_4 rfl hl (by decide) rfl (fun ls hl => ?_)
  refine lv_aload_n hx hb dX5_takeSecondDigit_5 rfl (lv_at hl 1 rfl) ?_
  refine getF (q0 := 0) (k0 := 5) (v := .int t_tol) C hE hP inA5 rfl rfl (by decide) qFX5_29 rfl rfl dX5_takeSecondDigit_6 ?_
  refine lv_iconst (v := 1) hx hb dX5_takeSecondDigit_9 (by decide) ?_
  refine lv_isub hx hb dX5_takeSecondDigit_10 ?_
  refine lv_istore_n (lv' := [(2, .int (t_tol - 1)), (1, .int q1), (0, .ref a_t)]) hx hb dX5_takeSecondDigit_11 rfl hl (by decide) rfl (fun ls hl => ?_)
  refine lv_iload_n hx hb dX5_takeSecondDigit_12 rfl (lv_at hl 1 rfl) ?_
  refine lv_if_lt (tgt := 56) hx hb dX5_takeSecondDigit_13 (by decide) (fun c3 => ?_) (fun c3 => ?_)
  · replace h := ite_t c3 h
    replace h := Option.some.inj h
    exact hret _ _ _ _ dX5_takeSecondDigit_56 (by rw [← h]; exact hP) hS
  · replace h := ite_f c3 h
    refine lv_iload_n hx hb dX5_takeSecondDigit_16 rfl (lv_at hl 0 rfl) ?_
    refine lv_if_lt (tgt := 56) hx hb dX5_takeSecondDigit_17 (by decide) (fun c4 => ?_) (fun c4 => ?_)
    · replace h := ite_t c4 h
      replace h := Option.some.inj h
      exact hret _ _ _ _ dX5_takeSecondDigit_56 (by rw [← h]; exact hP) hS
    · replace h := ite_f c4 h
      refine lv_iload_n hx hb dX5_takeSecondDigit_20 rfl (lv_at hl 0 rfl) ?_
      refine lv_aload_n hx hb dX5_takeSecondDigit_21 rfl (lv_at hl 2 rfl) ?_
      refine getF (q0 := 0) (k0 := 1) (v := .ref a_tn) C hE hP inA5 rfl rfl (by decide) qFX5_15 rfl rfl dX5_takeSecondDigit_22 ?_
      refine alen (q0 := 2) (t0 := 0) (v := 3) C hE hP rfl rfl (by decide) dX5_takeSecondDigit_25 ?_
      refine lv_icmp_ge (tgt := 56) hx hb dX5_takeSecondDigit_26 (by decide) (fun c5 => ?_) (fun c5 => ?_)
      · replace h := ite_t c5 h
        replace h := Option.some.inj h
        exact hret _ _ _ _ dX5_takeSecondDigit_56 (by rw [← h]; exact hP) hS
      · replace h := ite_f c5 h
        refine lv_aload_n hx hb dX5_takeSecondDigit_29 rfl (lv_at hl 2 rfl) ?_
        refine getF (q0 := 0) (k0 := 1) (v := .ref a_tn) C hE hP inA5 rfl rfl (by decide) qFX5_15 rfl rfl dX5_takeSecondDigit_30 ?_
        refine lv_iload_n hx hb dX5_takeSecondDigit_33 rfl (lv_at hl 0 rfl) ?_
        refine lv_bipush (v := 10) hx hb dX5_takeSecondDigit_34 (by decide) ?_
        refine lv_aload_n hx hb dX5_takeSecondDigit_36 rfl (lv_at hl 2 rfl) ?_
        refine getF (q0 := 0) (k0 := 1) (v := .ref a_tn) C hE hP inA5 rfl rfl (by decide) qFX5_15 rfl rfl dX5_takeSecondDigit_37 ?_
        refine lv_iload_n hx hb dX5_takeSecondDigit_40 rfl (lv_at hl 0 rfl) ?_
        replace h := gd h; obtain ⟨g6, h⟩ := h
        refine aldI (q0 := 2) C hE hP rfl g6 dX5_takeSecondDigit_41 ?_
        refine lv_imul hx hb dX5_takeSecondDigit_42 ?_
        refine lv_iload_n hx hb dX5_takeSecondDigit_43 rfl (lv_at hl 1 rfl) ?_
        refine lv_iadd hx hb dX5_takeSecondDigit_44 ?_
        replace h := gd h; obtain ⟨g7, h⟩ := h
        refine astI (q0 := 2) (ws1 := [(a_t, .inr (5, [.ref a_ti, .ref a_tn, .int t_len, .int t_cur, .int t_kin, .int t_tol, .int t_don])), (a_ti, .inl (T 2, 60, .inl v_ti)), (a_tn, .inl (T 0, 3, .inl (upd v_tn (t_tol - 1).toNatClampNeg ((10 * (v_tn (t_tol - 1).toNatClampNeg)) + q1))))]) C hE hP hD hS rfl g7 rfl dX5_takeSecondDigit_45 ?_; clear hP hD hS; intro H locs hP hD hS
        refine lv_aload_n hx hb dX5_takeSecondDigit_46 rfl (lv_at hl 2 rfl) ?_
        refine lv_dup hx hb dX5_takeSecondDigit_47 rfl ?_
        refine getF (q0 := 0) (k0 := 3) (v := .int t_cur) C hE hP inA5 rfl rfl (by decide) qFX5_23 rfl rfl dX5_takeSecondDigit_48 ?_
        refine lv_iconst (v := 1) hx hb dX5_takeSecondDigit_51 (by decide) ?_
        refine lv_iadd hx hb dX5_takeSecondDigit_52 ?_
        refine putF (q0 := 0) (k0 := 3) (ws1 := [(a_t, .inr (5, [.ref a_ti, .ref a_tn, .int t_len, .int (t_cur + 1), .int t_kin, .int t_tol, .int t_don])), (a_ti, .inl (T 2, 60, .inl v_ti)), (a_tn, .inl (T 0, 3, .inl (upd v_tn (t_tol - 1).toNatClampNeg ((10 * (v_tn (t_tol - 1).toNatClampNeg)) + q1))))]) C hE hP hD hS inA5 tyX5_ok nmX5 rfl rfl (by decide) qFX5_23 rfl rfl rfl rfl (Nat.le_of_ble_eq_true rfl) rfl dX5_takeSecondDigit_53 ?_; clear hP hD hS; intro H locs hP hD hS
        replace h := Option.some.inj h
        exact hret _ _ _ _ dX5_takeSecondDigit_56 (by rw [← h]; exact hP) hS

def fX5_clear (t_len : Int32) : Option Int32 :=
  some 0
set_option maxHeartbeats 4000000 in
set_option maxRecDepth 100000 in
theorem kX5_clear (l : Launch) (D : va_G) (T : Nat → ClassId) (a_t a_ti a_tn : Nat) (t_len : Int32) (t_cur : Int32) (t_kin : Int32) (t_tol : Int32) (t_don : Int32) (sz : Nat) (r : Int32) (h : fX5_clear t_len = some r) : WrV l yX5_clear cX5_clear 1 ({ frames := 0, cells := 0, slots := 0, locals := 0 } : Room) D T sz [(a_t, .inr (5, [.ref a_ti, .ref a_tn, .int t_len, .int t_cur, .int t_kin, .int t_tol, .int t_don]))] [(a_t, .inr (5, [.ref a_ti, .ref a_tn, .int r, .int t_cur, .int t_kin, .int t_tol, .int t_don]))] [.ref a_t] := by
  unfold fX5_clear at h
  refine wrMetV (by decide +kernel) rfl (fun p e s m args below meth c Q A C hE hA hP hD hS hret ls hl => ?_)
  have hx := C.1
  have hb := C.2.1
  have hl : lv_has ls 1 [(0, .ref a_t)] := hl
  refine lv_aload_n hx hb dX5_clear_0 rfl (lv_at hl 0 rfl) ?_
  refine lv_iconst (v := 0) hx hb dX5_clear_1 (by decide) ?_
  refine putF (q0 := 0) (k0 := 2) (ws1 := [(a_t, .inr (5, [.ref a_ti, .ref a_tn, .int 0, .int t_cur, .int t_kin, .int t_tol, .int t_don]))]) C hE hP hD hS inA5 tyX5_ok nmX5 rfl rfl (by decide) qFX5_19 rfl rfl rfl rfl (Nat.le_of_ble_eq_true rfl) rfl dX5_clear_2 ?_; clear hP hD hS; intro H locs hP hD hS
  replace h := Option.some.inj h
  exact hret _ _ _ _ dX5_clear_5 (by rw [← h]; exact hP) hS

def fX5_number (v_tn : Nat → Int32) (p0 : Int32) : Option Int32 :=
  if p0 < 0 then
    some 0
  else
    if 3 ≤ p0 then
      some 0
    else
      if vin p0 3 = true then
      some (v_tn p0.toNatClampNeg)
      else none
set_option maxHeartbeats 4000000 in
set_option maxRecDepth 100000 in
theorem kX5_number (l : Launch) (D : va_G) (T : Nat → ClassId) (a_t a_ti a_tn : Nat) (t_len : Int32) (t_cur : Int32) (t_kin : Int32) (t_tol : Int32) (t_don : Int32) (v_tn : Nat → Int32) (p0 : Int32) (r : Int32) (h : fX5_number v_tn p0 = some r) : RdI l yX5_number cX5_number 2 .int ({ frames := 0, cells := 0, slots := 0, locals := 0 } : Room) D T [(a_t, .inr (5, [.ref a_ti, .ref a_tn, .int t_len, .int t_cur, .int t_kin, .int t_tol, .int t_don])), (a_tn, .inl (T 0, 3, .inl v_tn))] [.ref a_t, .int p0] r := by
  unfold fX5_number at h
  refine rdMet (by decide +kernel) rfl (fun p e s m args below meth c Q C hE hP hret ls hl => ?_)
  have hx := C.1
  have hb := C.2.1
  have hl : lv_has ls 2 [(0, .ref a_t), (1, .int p0)] := hl
  refine lv_iload_n hx hb dX5_number_0 rfl (lv_at hl 1 rfl) ?_
  refine lv_if_lt (tgt := 22) hx hb dX5_number_1 (by decide) (fun c1 => ?_) (fun c1 => ?_)
  · replace h := ite_t c1 h
    refine lv_iconst (v := 0) hx hb dX5_number_22 (by decide) ?_
    exact hret _ _ _ _ dX5_number_23 rfl (Option.some.inj h)
  · replace h := ite_f c1 h
    refine lv_iload_n hx hb dX5_number_4 rfl (lv_at hl 1 rfl) ?_
    refine lv_aload_n hx hb dX5_number_5 rfl (lv_at hl 0 rfl) ?_
    refine getF (q0 := 0) (k0 := 1) (v := .ref a_tn) C hE hP inA5 rfl rfl (by decide) qFX5_15 rfl rfl dX5_number_6 ?_
    refine alen (q0 := 1) (t0 := 0) (v := 3) C hE hP rfl rfl (by decide) dX5_number_9 ?_
    refine lv_icmp_ge (tgt := 22) hx hb dX5_number_10 (by decide) (fun c2 => ?_) (fun c2 => ?_)
    · replace h := ite_t c2 h
      refine lv_iconst (v := 0) hx hb dX5_number_22 (by decide) ?_
      exact hret _ _ _ _ dX5_number_23 rfl (Option.some.inj h)
    · replace h := ite_f c2 h
      refine lv_aload_n hx hb dX5_number_13 rfl (lv_at hl 0 rfl) ?_
      refine getF (q0 := 0) (k0 := 1) (v := .ref a_tn) C hE hP inA5 rfl rfl (by decide) qFX5_15 rfl rfl dX5_number_14 ?_
      refine lv_iload_n hx hb dX5_number_17 rfl (lv_at hl 1 rfl) ?_
      replace h := gd h; obtain ⟨g3, h⟩ := h
      refine aldI (q0 := 1) C hE hP rfl g3 dX5_number_18 ?_
      refine lv_goto (tgt := 23) hx hb dX5_number_19 (by decide) ?_
      exact hret _ _ _ _ dX5_number_23 rfl (Option.some.inj h)

def fX5_kind (t_kin : Int32) : Int32 :=
  t_kin
set_option maxHeartbeats 4000000 in
set_option maxRecDepth 100000 in
theorem kX5_kind (l : Launch) (D : va_G) (T : Nat → ClassId) (a_t a_ti a_tn : Nat) (t_len : Int32) (t_cur : Int32) (t_kin : Int32) (t_tol : Int32) (t_don : Int32) : RdI l yX5_kind cX5_kind 1 .int ({ frames := 0, cells := 0, slots := 0, locals := 0 } : Room) D T [(a_t, .inr (5, [.ref a_ti, .ref a_tn, .int t_len, .int t_cur, .int t_kin, .int t_tol, .int t_don]))] [.ref a_t] (fX5_kind t_kin) := by
  obtain ⟨r, h⟩ : ∃ r, fX5_kind t_kin = r := ⟨_, rfl⟩
  rw [h]
  unfold fX5_kind at h
  refine rdMet (by decide +kernel) rfl (fun p e s m args below meth c Q C hE hP hret ls hl => ?_)
  have hx := C.1
  have hb := C.2.1
  have hl : lv_has ls 1 [(0, .ref a_t)] := hl
  refine lv_aload_n hx hb dX5_kind_0 rfl (lv_at hl 0 rfl) ?_
  refine getF (q0 := 0) (k0 := 4) (v := .int t_kin) C hE hP inA5 rfl rfl (by decide) qFX5_26 rfl rfl dX5_kind_1 ?_
  exact hret _ _ _ _ dX5_kind_4 rfl h

def fX7_faultOfCommand (u_det : Int32) (t_kin : Int32) (v_gw : Nat → Int32) (v_gk : Nat → Int32) (v_rs : Nat → Int32) (v_ro : Nat → Int32) (v_tn : Nat → Int32) : Option (Int32 × Int32 × (Nat → Int32) × (Nat → Int32)) :=
  (fX5_number v_tn 0).bind fun q1 =>
  (fX5_number v_tn 1).bind fun q3 =>
  (fX5_number v_tn 2).bind fun q5 =>
  if (fX5_kind t_kin) = 0 then
    (fX6_comeFault u_det v_gw v_gk q1 q3 q5).bind fun q8 =>
    some (q8.1, q8.2, v_rs, v_ro)
  else
    if (fX5_kind t_kin) = 1 then
      (fX6_moveFault u_det v_gw v_gk v_rs v_ro q1 q3).bind fun q11 =>
      some (q11.1, q11.2.1, q11.2.2.1, q11.2.2.2)
    else
      if (fX5_kind t_kin) = 2 then
        (fX6_hitFault u_det v_gw v_gk q1 q3 q5).bind fun q14 =>
        some (q14.1, q14.2, v_rs, v_ro)
      else
        if (fX5_kind t_kin) = 3 then
          (fX6_songFault u_det v_gw v_gk q1).bind fun q17 =>
          some (q17.1, q17.2, v_rs, v_ro)
        else
          if (fX5_kind t_kin) = 4 then
            (fX6_substituteFault u_det v_gw v_gk q1 q3).bind fun q20 =>
            some (q20.1, q20.2, v_rs, v_ro)
          else
            if (fX5_kind t_kin) = 5 then
              (fX6_passFault u_det v_gk).bind fun q23 =>
              some (q23.1, q23.2, v_rs, v_ro)
            else
              some ((-1), u_det, v_rs, v_ro)
set_option maxHeartbeats 4000000 in
set_option maxRecDepth 100000 in
theorem kX7_faultOfCommand (l : Launch) (D : va_G) (T : Nat → ClassId) (a_g a_gw a_gk a_r a_rs a_rl a_ro a_u a_t a_ti a_tn a_x a_b a_v a_h a_f a_n : Nat) (u_det : Int32) (t_len : Int32) (t_cur : Int32) (t_kin : Int32) (t_tol : Int32) (t_don : Int32) (x_sav : Int32) (x_err : Int32) (x_rea : Int32) (x_det : Int32) (x_com : Int32) (v_gw : Nat → Int32) (v_gk : Nat → Int32) (v_rs : Nat → Int32) (v_ro : Nat → Int32) (v_tn : Nat → Int32) (sz : Nat) (r : Int32 × Int32 × (Nat → Int32) × (Nat → Int32)) (h : fX7_faultOfCommand u_det t_kin v_gw v_gk v_rs v_ro v_tn = some r) : WrI l yX7_faultOfCommand cX7_faultOfCommand 4 .int ({ frames := 5, cells := 0, slots := 0, locals := 118 } : Room) D T sz [(a_g, .inr (1, [.ref a_gw, .ref a_gk])), (a_r, .inr (4, [.ref a_g, .ref a_rs, .ref a_rl, .ref a_ro])), (a_u, .inr (6, [.ref a_g, .ref a_r, .int u_det])), (a_t, .inr (5, [.ref a_ti, .ref a_tn, .int t_len, .int t_cur, .int t_kin, .int t_tol, .int t_don])), (a_x, .inr (7, [.ref a_g, .ref a_b, .ref a_v, .ref a_h, .ref a_r, .ref a_f, .ref a_u, .ref a_t, .ref a_n, .int x_sav, .int x_err, .int x_rea, .int x_det, .int x_com])), (a_gw, .inl (T 0, 90, .inl v_gw)), (a_gk, .inl (T 0, 18, .inl v_gk)), (a_rs, .inl (T 0, 45, .inl v_rs)), (a_ro, .inl (T 1, 45, .inl v_ro)), (a_tn, .inl (T 0, 3, .inl v_tn))] [(a_g, .inr (1, [.ref a_gw, .ref a_gk])), (a_r, .inr (4, [.ref a_g, .ref a_rs, .ref a_rl, .ref a_ro])), (a_u, .inr (6, [.ref a_g, .ref a_r, .int r.2.1])), (a_t, .inr (5, [.ref a_ti, .ref a_tn, .int t_len, .int t_cur, .int t_kin, .int t_tol, .int t_don])), (a_x, .inr (7, [.ref a_g, .ref a_b, .ref a_v, .ref a_h, .ref a_r, .ref a_f, .ref a_u, .ref a_t, .ref a_n, .int x_sav, .int x_err, .int x_rea, .int x_det, .int x_com])), (a_gw, .inl (T 0, 90, .inl v_gw)), (a_gk, .inl (T 0, 18, .inl v_gk)), (a_rs, .inl (T 0, 45, .inl r.2.2.1)), (a_ro, .inl (T 1, 45, .inl r.2.2.2)), (a_tn, .inl (T 0, 3, .inl v_tn))] [.ref a_x] r.1 := by
  unfold fX7_faultOfCommand at h
  refine wrMet (by decide +kernel) rfl (fun p e s m args below meth c Q A C hE hA hP hD hS hret ls hl => ?_)
  have hx := C.1
  have hb := C.2.1
  have hl : lv_has ls 4 [(0, .ref a_x)] := hl
  refine lv_aload_n hx hb dX7_faultOfCommand_0 rfl (lv_at hl 0 rfl) ?_
  refine getF (q0 := 4) (k0 := 7) (v := .ref a_t) C hE hP inA7 rfl rfl (by decide) qFX7_57 rfl rfl dX7_faultOfCommand_1 ?_
  refine lv_iconst (v := 0) hx hb dX7_faultOfCommand_4 (by decide) ?_
  replace h := bnd h; obtain ⟨q1, e2, h⟩ := h
  refine rdV C hE hP (kX5_number l D T a_t a_ti a_tn t_len t_cur t_kin t_tol t_don v_tn 0 q1 e2) mX5_number qLX7_427 [3, 9] 3 rfl rfl rfl rfl ⟨rfl, rfl⟩ ⟨Nat.le_of_ble_eq_true rfl, Nat.le_of_ble_eq_true rfl⟩ rfl hl.1 rfl (Nat.le_of_ble_eq_true rfl) dX7_faultOfCommand_5 ⟨Nat.le_of_ble_eq_true rfl, Nat.le_of_ble_eq_true rfl⟩ ?_
  refine lv_istore_n (lv' := [(1, .int q1), (0, .ref a_x)]) hx hb dX7_faultOfCommand_8 rfl hl (by decide) rfl (fun ls hl => ?_)
  refine lv_aload_n hx hb dX7_faultOfCommand_9 rfl (lv_at hl 1 rfl) ?_
  refine getF (q0 := 4) (k0 := 7) (v := .ref a_t) C hE hP inA7 rfl rfl (by decide) qFX7_57 rfl rfl dX7_faultOfCommand_10 ?_
  refine lv_iconst (v := 1) hx hb dX7_faultOfCommand_13 (by decide) ?_
  replace h := bnd h; obtain ⟨q3, e4, h⟩ := h
  refine rdV C hE hP (kX5_number l D T a_t a_ti a_tn t_len t_cur t_kin t_tol t_don v_tn 1 q3 e4) mX5_number qLX7_427 [3, 9] 3 rfl rfl rfl rfl ⟨rfl, rfl⟩ ⟨Nat.le_of_ble_eq_true rfl, Nat.le_of_ble_eq_true rfl⟩ rfl hl.1 rfl (Nat.le_of_ble_eq_true rfl) dX7_faultOfCommand_14 ⟨Nat.le_of_ble_eq_true rfl, Nat.le_of_ble_eq_true rfl⟩ ?_
  refine lv_istore_n (lv' := [(2, .int q3), (1, .int q1), (0, .ref a_x)]) hx hb dX7_faultOfCommand_17 rfl hl (by decide) rfl (fun ls hl => ?_)
  refine lv_aload_n hx hb dX7_faultOfCommand_18 rfl (lv_at hl 2 rfl) ?_
  refine getF (q0 := 4) (k0 := 7) (v := .ref a_t) C hE hP inA7 rfl rfl (by decide) qFX7_57 rfl rfl dX7_faultOfCommand_19 ?_
  refine lv_iconst (v := 2) hx hb dX7_faultOfCommand_22 (by decide) ?_
  replace h := bnd h; obtain ⟨q5, e6, h⟩ := h
  refine rdV C hE hP (kX5_number l D T a_t a_ti a_tn t_len t_cur t_kin t_tol t_don v_tn 2 q5 e6) mX5_number qLX7_427 [3, 9] 3 rfl rfl rfl rfl ⟨rfl, rfl⟩ ⟨Nat.le_of_ble_eq_true rfl, Nat.le_of_ble_eq_true rfl⟩ rfl hl.1 rfl (Nat.le_of_ble_eq_true rfl) dX7_faultOfCommand_23 ⟨Nat.le_of_ble_eq_true rfl, Nat.le_of_ble_eq_true rfl⟩ ?_
  refine lv_istore_n (lv' := [(3, .int q5), (2, .int q3), (1, .int q1), (0, .ref a_x)]) hx hb dX7_faultOfCommand_26 rfl hl (by decide) rfl (fun ls hl => ?_)
  refine lv_aload_n hx hb dX7_faultOfCommand_27 rfl (lv_at hl 3 rfl) ?_
  refine getF (q0 := 4) (k0 := 7) (v := .ref a_t) C hE hP inA7 rfl rfl (by decide) qFX7_57 rfl rfl dX7_faultOfCommand_28 ?_
  refine rdV C hE hP (kX5_kind l D T a_t a_ti a_tn t_len t_cur t_kin t_tol t_don) mX5_kind qLX7_430 [3] 3 rfl rfl rfl rfl ⟨rfl, rfl⟩ ⟨Nat.le_of_ble_eq_true rfl, Nat.le_of_ble_eq_true rfl⟩ rfl hl.1 rfl (Nat.le_of_ble_eq_true rfl) dX7_faultOfCommand_31 ⟨Nat.le_of_ble_eq_true rfl, Nat.le_of_ble_eq_true rfl⟩ ?_
  by_cases c7 : (fX5_kind t_kin) = 0
  · replace h := ite_t c7 h
    refine lv_tableIn (tgt := 72) hx hb dX7_faultOfCommand_34 (by rw [c7]; decide) (by rw [c7]; decide) (by rw [c7]; rfl) (by decide) ?_
    refine lv_aload_n hx hb dX7_faultOfCommand_72 rfl (lv_at hl 3 rfl) ?_
    refine getF (q0 := 4) (k0 := 6) (v := .ref a_u) C hE hP inA7 rfl rfl (by decide) qFX7_50 rfl rfl dX7_faultOfCommand_73 ?_
    refine lv_iload_n hx hb dX7_faultOfCommand_76 rfl (lv_at hl 2 rfl) ?_
    refine lv_iload_n hx hb dX7_faultOfCommand_77 rfl (lv_at hl 1 rfl) ?_
    refine lv_iload_n hx hb dX7_faultOfCommand_78 rfl (lv_at hl 0 rfl) ?_
    replace h := bnd h; obtain ⟨q8, e9, h⟩ := h
    refine wrVi (ws1 := [(a_g, .inr (1, [.ref a_gw, .ref a_gk])), (a_r, .inr (4, [.ref a_g, .ref a_rs, .ref a_rl, .ref a_ro])), (a_u, .inr (6, [.ref a_g, .ref a_r, .int q8.2])), (a_t, .inr (5, [.ref a_ti, .ref a_tn, .int t_len, .int t_cur, .int t_kin, .int t_tol, .int t_don])), (a_x, .inr (7, [.ref a_g, .ref a_b, .ref a_v, .ref a_h, .ref a_r, .ref a_f, .ref a_u, .ref a_t, .ref a_n, .int x_sav, .int x_err, .int x_rea, .int x_det, .int x_com])), (a_gw, .inl (T 0, 90, .inl v_gw)), (a_gk, .inl (T 0, 18, .inl v_gk)), (a_rs, .inl (T 0, 45, .inl v_rs)), (a_ro, .inl (T 1, 45, .inl v_ro)), (a_tn, .inl (T 0, 3, .inl v_tn))]) C hE hP hD hS hA (kX6_comeFault l D T a_g a_gw a_gk a_u a_r u_det v_gw v_gk q1 q3 q5 _ q8 e9) mX6_comeFault qLX7_85 [0, 2, 5, 6] [1, 3, 4, 7, 8, 9] 2 rfl rfl rfl rfl rfl rfl rfl rfl rfl ⟨rfl, rfl⟩ ⟨Nat.le_of_ble_eq_true rfl, Nat.le_of_ble_eq_true rfl⟩ rfl hl.1 rfl (Nat.le_of_ble_eq_true rfl) dX7_faultOfCommand_79 ⟨Nat.le_of_ble_eq_true rfl, Nat.le_of_ble_eq_true rfl⟩ ?_; clear hP hD hS; intro H locs hP hD hS
    replace h := Option.some.inj h
    exact hret _ _ _ _ _ _ dX7_faultOfCommand_82 rfl (by rw [← h] <;> rfl) (by rw [← h]; exact hP) hS
  · replace h := ite_f c7 h
    by_cases c10 : (fX5_kind t_kin) = 1
    · replace h := ite_t c10 h
      refine lv_tableIn (tgt := 83) hx hb dX7_faultOfCommand_34 (by rw [c10]; decide) (by rw [c10]; decide) (by rw [c10]; rfl) (by decide) ?_
      refine lv_aload_n hx hb dX7_faultOfCommand_83 rfl (lv_at hl 3 rfl) ?_
      refine getF (q0 := 4) (k0 := 6) (v := .ref a_u) C hE hP inA7 rfl rfl (by decide) qFX7_50 rfl rfl dX7_faultOfCommand_84 ?_
      refine lv_iload_n hx hb dX7_faultOfCommand_87 rfl (lv_at hl 2 rfl) ?_
      refine lv_iload_n hx hb dX7_faultOfCommand_88 rfl (lv_at hl 1 rfl) ?_
      replace h := bnd h; obtain ⟨q11, e12, h⟩ := h
      refine wrVi (ws1 := [(a_g, .inr (1, [.ref a_gw, .ref a_gk])), (a_r, .inr (4, [.ref a_g, .ref a_rs, .ref a_rl, .ref a_ro])), (a_u, .inr (6, [.ref a_g, .ref a_r, .int q11.2.1])), (a_t, .inr (5, [.ref a_ti, .ref a_tn, .int t_len, .int t_cur, .int t_kin, .int t_tol, .int t_don])), (a_x, .inr (7, [.ref a_g, .ref a_b, .ref a_v, .ref a_h, .ref a_r, .ref a_f, .ref a_u, .ref a_t, .ref a_n, .int x_sav, .int x_err, .int x_rea, .int x_det, .int x_com])), (a_gw, .inl (T 0, 90, .inl v_gw)), (a_gk, .inl (T 0, 18, .inl v_gk)), (a_rs, .inl (T 0, 45, .inl q11.2.2.1)), (a_ro, .inl (T 1, 45, .inl q11.2.2.2)), (a_tn, .inl (T 0, 3, .inl v_tn))]) C hE hP hD hS hA (kX6_moveFault l D T a_g a_gw a_gk a_r a_rs a_rl a_ro a_u u_det v_gw v_gk v_rs v_ro q1 q3 _ q11 e12) mX6_moveFault qLX7_112 [0, 1, 2, 5, 6, 7, 8] [3, 4, 9] 2 rfl rfl rfl rfl rfl rfl rfl rfl rfl ⟨rfl, rfl⟩ ⟨Nat.le_of_ble_eq_true rfl, Nat.le_of_ble_eq_true rfl⟩ rfl hl.1 rfl (Nat.le_of_ble_eq_true rfl) dX7_faultOfCommand_89 ⟨Nat.le_of_ble_eq_true rfl, Nat.le_of_ble_eq_true rfl⟩ ?_; clear hP hD hS; intro H locs hP hD hS
      replace h := Option.some.inj h
      exact hret _ _ _ _ _ _ dX7_faultOfCommand_92 rfl (by rw [← h] <;> rfl) (by rw [← h]; exact hP) hS
    · replace h := ite_f c10 h
      by_cases c13 : (fX5_kind t_kin) = 2
      · replace h := ite_t c13 h
        refine lv_tableIn (tgt := 93) hx hb dX7_faultOfCommand_34 (by rw [c13]; decide) (by rw [c13]; decide) (by rw [c13]; rfl) (by decide) ?_
        refine lv_aload_n hx hb dX7_faultOfCommand_93 rfl (lv_at hl 3 rfl) ?_
        refine getF (q0 := 4) (k0 := 6) (v := .ref a_u) C hE hP inA7 rfl rfl (by decide) qFX7_50 rfl rfl dX7_faultOfCommand_94 ?_
        refine lv_iload_n hx hb dX7_faultOfCommand_97 rfl (lv_at hl 2 rfl) ?_
        refine lv_iload_n hx hb dX7_faultOfCommand_98 rfl (lv_at hl 1 rfl) ?_
        refine lv_iload_n hx hb dX7_faultOfCommand_99 rfl (lv_at hl 0 rfl) ?_
        replace h := bnd h; obtain ⟨q14, e15, h⟩ := h
        refine wrVi (ws1 := [(a_g, .inr (1, [.ref a_gw, .ref a_gk])), (a_r, .inr (4, [.ref a_g, .ref a_rs, .ref a_rl, .ref a_ro])), (a_u, .inr (6, [.ref a_g, .ref a_r, .int q14.2])), (a_t, .inr (5, [.ref a_ti, .ref a_tn, .int t_len, .int t_cur, .int t_kin, .int t_tol, .int t_don])), (a_x, .inr (7, [.ref a_g, .ref a_b, .ref a_v, .ref a_h, .ref a_r, .ref a_f, .ref a_u, .ref a_t, .ref a_n, .int x_sav, .int x_err, .int x_rea, .int x_det, .int x_com])), (a_gw, .inl (T 0, 90, .inl v_gw)), (a_gk, .inl (T 0, 18, .inl v_gk)), (a_rs, .inl (T 0, 45, .inl v_rs)), (a_ro, .inl (T 1, 45, .inl v_ro)), (a_tn, .inl (T 0, 3, .inl v_tn))]) C hE hP hD hS hA (kX6_hitFault l D T a_g a_gw a_gk a_u a_r u_det v_gw v_gk q1 q3 q5 _ q14 e15) mX6_hitFault qLX7_118 [0, 2, 5, 6] [1, 3, 4, 7, 8, 9] 2 rfl rfl rfl rfl rfl rfl rfl rfl rfl ⟨rfl, rfl⟩ ⟨Nat.le_of_ble_eq_true rfl, Nat.le_of_ble_eq_true rfl⟩ rfl hl.1 rfl (Nat.le_of_ble_eq_true rfl) dX7_faultOfCommand_100 ⟨Nat.le_of_ble_eq_true rfl, Nat.le_of_ble_eq_true rfl⟩ ?_; clear hP hD hS; intro H locs hP hD hS
        replace h := Option.some.inj h
        exact hret _ _ _ _ _ _ dX7_faultOfCommand_103 rfl (by rw [← h] <;> rfl) (by rw [← h]; exact hP) hS
      · replace h := ite_f c13 h
        by_cases c16 : (fX5_kind t_kin) = 3
        · replace h := ite_t c16 h
          refine lv_tableIn (tgt := 104) hx hb dX7_faultOfCommand_34 (by rw [c16]; decide) (by rw [c16]; decide) (by rw [c16]; rfl) (by decide) ?_
          refine lv_aload_n hx hb dX7_faultOfCommand_104 rfl (lv_at hl 3 rfl) ?_
          refine getF (q0 := 4) (k0 := 6) (v := .ref a_u) C hE hP inA7 rfl rfl (by decide) qFX7_50 rfl rfl dX7_faultOfCommand_105 ?_
          refine lv_iload_n hx hb dX7_faultOfCommand_108 rfl (lv_at hl 2 rfl) ?_
          replace h := bnd h; obtain ⟨q17, e18, h⟩ := h
          refine wrVi (ws1 := [(a_g, .inr (1, [.ref a_gw, .ref a_gk])), (a_r, .inr (4, [.ref a_g, .ref a_rs, .ref a_rl, .ref a_ro])), (a_u, .inr (6, [.ref a_g, .ref a_r, .int q17.2])), (a_t, .inr (5, [.ref a_ti, .ref a_tn, .int t_len, .int t_cur, .int t_kin, .int t_tol, .int t_don])), (a_x, .inr (7, [.ref a_g, .ref a_b, .ref a_v, .ref a_h, .ref a_r, .ref a_f, .ref a_u, .ref a_t, .ref a_n, .int x_sav, .int x_err, .int x_rea, .int x_det, .int x_com])), (a_gw, .inl (T 0, 90, .inl v_gw)), (a_gk, .inl (T 0, 18, .inl v_gk)), (a_rs, .inl (T 0, 45, .inl v_rs)), (a_ro, .inl (T 1, 45, .inl v_ro)), (a_tn, .inl (T 0, 3, .inl v_tn))]) C hE hP hD hS hA (kX6_songFault l D T a_g a_gw a_gk a_u a_r u_det v_gw v_gk q1 _ q17 e18) mX6_songFault qLX7_124 [0, 2, 5, 6] [1, 3, 4, 7, 8, 9] 2 rfl rfl rfl rfl rfl rfl rfl rfl rfl ⟨rfl, rfl⟩ ⟨Nat.le_of_ble_eq_true rfl, Nat.le_of_ble_eq_true rfl⟩ rfl hl.1 rfl (Nat.le_of_ble_eq_true rfl) dX7_faultOfCommand_109 ⟨Nat.le_of_ble_eq_true rfl, Nat.le_of_ble_eq_true rfl⟩ ?_; clear hP hD hS; intro H locs hP hD hS
          replace h := Option.some.inj h
          exact hret _ _ _ _ _ _ dX7_faultOfCommand_112 rfl (by rw [← h] <;> rfl) (by rw [← h]; exact hP) hS
        · replace h := ite_f c16 h
          by_cases c19 : (fX5_kind t_kin) = 4
          · replace h := ite_t c19 h
            refine lv_tableIn (tgt := 113) hx hb dX7_faultOfCommand_34 (by rw [c19]; decide) (by rw [c19]; decide) (by rw [c19]; rfl) (by decide) ?_
            refine lv_aload_n hx hb dX7_faultOfCommand_113 rfl (lv_at hl 3 rfl) ?_
            refine getF (q0 := 4) (k0 := 6) (v := .ref a_u) C hE hP inA7 rfl rfl (by decide) qFX7_50 rfl rfl dX7_faultOfCommand_114 ?_
            refine lv_iload_n hx hb dX7_faultOfCommand_117 rfl (lv_at hl 2 rfl) ?_
            refine lv_iload_n hx hb dX7_faultOfCommand_118 rfl (lv_at hl 1 rfl) ?_
            replace h := bnd h; obtain ⟨q20, e21, h⟩ := h
            refine wrVi (ws1 := [(a_g, .inr (1, [.ref a_gw, .ref a_gk])), (a_r, .inr (4, [.ref a_g, .ref a_rs, .ref a_rl, .ref a_ro])), (a_u, .inr (6, [.ref a_g, .ref a_r, .int q20.2])), (a_t, .inr (5, [.ref a_ti, .ref a_tn, .int t_len, .int t_cur, .int t_kin, .int t_tol, .int t_don])), (a_x, .inr (7, [.ref a_g, .ref a_b, .ref a_v, .ref a_h, .ref a_r, .ref a_f, .ref a_u, .ref a_t, .ref a_n, .int x_sav, .int x_err, .int x_rea, .int x_det, .int x_com])), (a_gw, .inl (T 0, 90, .inl v_gw)), (a_gk, .inl (T 0, 18, .inl v_gk)), (a_rs, .inl (T 0, 45, .inl v_rs)), (a_ro, .inl (T 1, 45, .inl v_ro)), (a_tn, .inl (T 0, 3, .inl v_tn))]) C hE hP hD hS hA (kX6_substituteFault l D T a_g a_gw a_gk a_u a_r u_det v_gw v_gk q1 q3 _ q20 e21) mX6_substituteFault qLX7_102 [0, 2, 5, 6] [1, 3, 4, 7, 8, 9] 2 rfl rfl rfl rfl rfl rfl rfl rfl rfl ⟨rfl, rfl⟩ ⟨Nat.le_of_ble_eq_true rfl, Nat.le_of_ble_eq_true rfl⟩ rfl hl.1 rfl (Nat.le_of_ble_eq_true rfl) dX7_faultOfCommand_119 ⟨Nat.le_of_ble_eq_true rfl, Nat.le_of_ble_eq_true rfl⟩ ?_; clear hP hD hS; intro H locs hP hD hS
            replace h := Option.some.inj h
            exact hret _ _ _ _ _ _ dX7_faultOfCommand_122 rfl (by rw [← h] <;> rfl) (by rw [← h]; exact hP) hS
          · replace h := ite_f c19 h
            by_cases c22 : (fX5_kind t_kin) = 5
            · replace h := ite_t c22 h
              refine lv_tableIn (tgt := 123) hx hb dX7_faultOfCommand_34 (by rw [c22]; decide) (by rw [c22]; decide) (by rw [c22]; rfl) (by decide) ?_
              refine lv_aload_n hx hb dX7_faultOfCommand_123 rfl (lv_at hl 3 rfl) ?_
              refine getF (q0 := 4) (k0 := 6) (v := .ref a_u) C hE hP inA7 rfl rfl (by decide) qFX7_50 rfl rfl dX7_faultOfCommand_124 ?_
              replace h := bnd h; obtain ⟨q23, e24, h⟩ := h
              refine wrVi (ws1 := [(a_g, .inr (1, [.ref a_gw, .ref a_gk])), (a_r, .inr (4, [.ref a_g, .ref a_rs, .ref a_rl, .ref a_ro])), (a_u, .inr (6, [.ref a_g, .ref a_r, .int q23.2])), (a_t, .inr (5, [.ref a_ti, .ref a_tn, .int t_len, .int t_cur, .int t_kin, .int t_tol, .int t_don])), (a_x, .inr (7, [.ref a_g, .ref a_b, .ref a_v, .ref a_h, .ref a_r, .ref a_f, .ref a_u, .ref a_t, .ref a_n, .int x_sav, .int x_err, .int x_rea, .int x_det, .int x_com])), (a_gw, .inl (T 0, 90, .inl v_gw)), (a_gk, .inl (T 0, 18, .inl v_gk)), (a_rs, .inl (T 0, 45, .inl v_rs)), (a_ro, .inl (T 1, 45, .inl v_ro)), (a_tn, .inl (T 0, 3, .inl v_tn))]) C hE hP hD hS hA (kX6_passFault l D T a_g a_gw a_gk a_u a_r u_det v_gk _ q23 e24) mX6_passFault qLX7_131 [0, 2, 6] [1, 3, 4, 5, 7, 8, 9] 2 rfl rfl rfl rfl rfl rfl rfl rfl rfl ⟨rfl, rfl⟩ ⟨Nat.le_of_ble_eq_true rfl, Nat.le_of_ble_eq_true rfl⟩ rfl hl.1 rfl (Nat.le_of_ble_eq_true rfl) dX7_faultOfCommand_127 ⟨Nat.le_of_ble_eq_true rfl, Nat.le_of_ble_eq_true rfl⟩ ?_; clear hP hD hS; intro H locs hP hD hS
              replace h := Option.some.inj h
              exact hret _ _ _ _ _ _ dX7_faultOfCommand_130 rfl (by rw [← h] <;> rfl) (by rw [← h]; exact hP) hS
            · replace h := ite_f c22 h
              refine lv_tableOut (tgt := 131) hx hb dX7_faultOfCommand_34 (by have t0 := tI 0 rfl c7; have t1 := tI 1 rfl c10; have t2 := tI 2 rfl c13; have t3 := tI 3 rfl c16; have t4 := tI 4 rfl c19; have t5 := tI 5 rfl c22; omega) (by decide) ?_
              refine lv_iconst (v := (-1)) hx hb dX7_faultOfCommand_131 (by decide) ?_
              replace h := Option.some.inj h
              exact hret _ _ _ _ _ _ dX7_faultOfCommand_132 rfl (by rw [← h] <;> rfl) (by rw [← h]; exact hP) hS

def fX7_performCommand (f_net : Int32) (t_kin : Int32) (v_gw : Nat → Int32) (v_gk : Nat → Int32) (v_rs : Nat → Int32) (v_ro : Nat → Int32) (v_tn : Nat → Int32) : Option (Int32 × (Nat → Int32) × (Nat → Int32) × (Nat → Int32) × (Nat → Int32)) :=
  (fX5_number v_tn 0).bind fun q1 =>
  (fX5_number v_tn 1).bind fun q3 =>
  (fX5_number v_tn 2).bind fun q5 =>
  if (fX5_kind t_kin) = 0 then
    (fX1_addWhale v_gw v_gk q1 q3 q5).bind fun q8 =>
    some (f_net, q8.2.1, q8.2.2, v_rs, v_ro)
  else
    if (fX5_kind t_kin) = 1 then
      (fX7_moveWhale v_gw v_gk v_rs v_ro q1 q3).bind fun q11 =>
      some (f_net, q11.2.1, q11.2.2.1, q11.2.2.2.1, q11.2.2.2.2)
    else
      if (fX5_kind t_kin) = 2 then
        (fX7_hitBuoy f_net v_gw v_gk q1 q3 q5).bind fun q14 =>
        some (q14.2.1, q14.2.2.1, q14.2.2.2, v_rs, v_ro)
      else
        if (fX5_kind t_kin) = 3 then
          (fX1_startSong v_gw v_gk q1).bind fun q17 =>
          some (f_net, q17.2.1, q17.2.2, v_rs, v_ro)
        else
          if (fX5_kind t_kin) = 4 then
            (fX1_substitute v_gw v_gk q1 q3).bind fun q20 =>
            some (f_net, q20.2.1, q20.2.2, v_rs, v_ro)
          else
            (fX1_endStroke v_gw v_gk).bind fun q22 =>
            some (f_net, q22.2.1, q22.2.2, v_rs, v_ro)
set_option maxHeartbeats 4000000 in
set_option maxRecDepth 100000 in
theorem kX7_performCommand (l : Launch) (D : va_G) (T : Nat → ClassId) (a_g a_gw a_gk a_r a_rs a_rl a_ro a_f a_t a_ti a_tn a_x a_b a_v a_h a_u a_n : Nat) (f_net : Int32) (t_len : Int32) (t_cur : Int32) (t_kin : Int32) (t_tol : Int32) (t_don : Int32) (x_sav : Int32) (x_err : Int32) (x_rea : Int32) (x_det : Int32) (x_com : Int32) (v_gw : Nat → Int32) (v_gk : Nat → Int32) (v_rs : Nat → Int32) (v_ro : Nat → Int32) (v_tn : Nat → Int32) (sz : Nat) (r : Int32 × (Nat → Int32) × (Nat → Int32) × (Nat → Int32) × (Nat → Int32)) (h : fX7_performCommand f_net t_kin v_gw v_gk v_rs v_ro v_tn = some r) : WrV l yX7_performCommand cX7_performCommand 4 ({ frames := 5, cells := 0, slots := 0, locals := 122 } : Room) D T sz [(a_g, .inr (1, [.ref a_gw, .ref a_gk])), (a_r, .inr (4, [.ref a_g, .ref a_rs, .ref a_rl, .ref a_ro])), (a_f, .inr (0, [.ref a_g, .int f_net])), (a_t, .inr (5, [.ref a_ti, .ref a_tn, .int t_len, .int t_cur, .int t_kin, .int t_tol, .int t_don])), (a_x, .inr (7, [.ref a_g, .ref a_b, .ref a_v, .ref a_h, .ref a_r, .ref a_f, .ref a_u, .ref a_t, .ref a_n, .int x_sav, .int x_err, .int x_rea, .int x_det, .int x_com])), (a_gw, .inl (T 0, 90, .inl v_gw)), (a_gk, .inl (T 0, 18, .inl v_gk)), (a_rs, .inl (T 0, 45, .inl v_rs)), (a_ro, .inl (T 1, 45, .inl v_ro)), (a_tn, .inl (T 0, 3, .inl v_tn))] [(a_g, .inr (1, [.ref a_gw, .ref a_gk])), (a_r, .inr (4, [.ref a_g, .ref a_rs, .ref a_rl, .ref a_ro])), (a_f, .inr (0, [.ref a_g, .int r.1])), (a_t, .inr (5, [.ref a_ti, .ref a_tn, .int t_len, .int t_cur, .int t_kin, .int t_tol, .int t_don])), (a_x, .inr (7, [.ref a_g, .ref a_b, .ref a_v, .ref a_h, .ref a_r, .ref a_f, .ref a_u, .ref a_t, .ref a_n, .int x_sav, .int x_err, .int x_rea, .int x_det, .int x_com])), (a_gw, .inl (T 0, 90, .inl r.2.1)), (a_gk, .inl (T 0, 18, .inl r.2.2.1)), (a_rs, .inl (T 0, 45, .inl r.2.2.2.1)), (a_ro, .inl (T 1, 45, .inl r.2.2.2.2)), (a_tn, .inl (T 0, 3, .inl v_tn))] [.ref a_x] := by
  unfold fX7_performCommand at h
  refine wrMetV (by decide +kernel) rfl (fun p e s m args below meth c Q A C hE hA hP hD hS hret ls hl => ?_)
  have hx := C.1
  have hb := C.2.1
  have hl : lv_has ls 4 [(0, .ref a_x)] := hl
  refine lv_aload_n hx hb dX7_performCommand_0 rfl (lv_at hl 0 rfl) ?_
  refine getF (q0 := 4) (k0 := 7) (v := .ref a_t) C hE hP inA7 rfl rfl (by decide) qFX7_57 rfl rfl dX7_performCommand_1 ?_
  refine lv_iconst (v := 0) hx hb dX7_performCommand_4 (by decide) ?_
  replace h := bnd h; obtain ⟨q1, e2, h⟩ := h
  refine rdV C hE hP (kX5_number l D T a_t a_ti a_tn t_len t_cur t_kin t_tol t_don v_tn 0 q1 e2) mX5_number qLX7_427 [3, 9] 3 rfl rfl rfl rfl ⟨rfl, rfl⟩ ⟨Nat.le_of_ble_eq_true rfl, Nat.le_of_ble_eq_true rfl⟩ rfl hl.1 rfl (Nat.le_of_ble_eq_true rfl) dX7_performCommand_5 ⟨Nat.le_of_ble_eq_true rfl, Nat.le_of_ble_eq_true rfl⟩ ?_
  refine lv_istore_n (lv' := [(1, .int q1), (0, .ref a_x)]) hx hb dX7_performCommand_8 rfl hl (by decide) rfl (fun ls hl => ?_)
  refine lv_aload_n hx hb dX7_performCommand_9 rfl (lv_at hl 1 rfl) ?_
  refine getF (q0 := 4) (k0 := 7) (v := .ref a_t) C hE hP inA7 rfl rfl (by decide) qFX7_57 rfl rfl dX7_performCommand_10 ?_
  refine lv_iconst (v := 1) hx hb dX7_performCommand_13 (by decide) ?_
  replace h := bnd h; obtain ⟨q3, e4, h⟩ := h
  refine rdV C hE hP (kX5_number l D T a_t a_ti a_tn t_len t_cur t_kin t_tol t_don v_tn 1 q3 e4) mX5_number qLX7_427 [3, 9] 3 rfl rfl rfl rfl ⟨rfl, rfl⟩ ⟨Nat.le_of_ble_eq_true rfl, Nat.le_of_ble_eq_true rfl⟩ rfl hl.1 rfl (Nat.le_of_ble_eq_true rfl) dX7_performCommand_14 ⟨Nat.le_of_ble_eq_true rfl, Nat.le_of_ble_eq_true rfl⟩ ?_
  refine lv_istore_n (lv' := [(2, .int q3), (1, .int q1), (0, .ref a_x)]) hx hb dX7_performCommand_17 rfl hl (by decide) rfl (fun ls hl => ?_)
  refine lv_aload_n hx hb dX7_performCommand_18 rfl (lv_at hl 2 rfl) ?_
  refine getF (q0 := 4) (k0 := 7) (v := .ref a_t) C hE hP inA7 rfl rfl (by decide) qFX7_57 rfl rfl dX7_performCommand_19 ?_
  refine lv_iconst (v := 2) hx hb dX7_performCommand_22 (by decide) ?_
  replace h := bnd h; obtain ⟨q5, e6, h⟩ := h
  refine rdV C hE hP (kX5_number l D T a_t a_ti a_tn t_len t_cur t_kin t_tol t_don v_tn 2 q5 e6) mX5_number qLX7_427 [3, 9] 3 rfl rfl rfl rfl ⟨rfl, rfl⟩ ⟨Nat.le_of_ble_eq_true rfl, Nat.le_of_ble_eq_true rfl⟩ rfl hl.1 rfl (Nat.le_of_ble_eq_true rfl) dX7_performCommand_23 ⟨Nat.le_of_ble_eq_true rfl, Nat.le_of_ble_eq_true rfl⟩ ?_
  refine lv_istore_n (lv' := [(3, .int q5), (2, .int q3), (1, .int q1), (0, .ref a_x)]) hx hb dX7_performCommand_26 rfl hl (by decide) rfl (fun ls hl => ?_)
  refine lv_aload_n hx hb dX7_performCommand_27 rfl (lv_at hl 3 rfl) ?_
  refine getF (q0 := 4) (k0 := 7) (v := .ref a_t) C hE hP inA7 rfl rfl (by decide) qFX7_57 rfl rfl dX7_performCommand_28 ?_
  refine rdV C hE hP (kX5_kind l D T a_t a_ti a_tn t_len t_cur t_kin t_tol t_don) mX5_kind qLX7_430 [3] 3 rfl rfl rfl rfl ⟨rfl, rfl⟩ ⟨Nat.le_of_ble_eq_true rfl, Nat.le_of_ble_eq_true rfl⟩ rfl hl.1 rfl (Nat.le_of_ble_eq_true rfl) dX7_performCommand_31 ⟨Nat.le_of_ble_eq_true rfl, Nat.le_of_ble_eq_true rfl⟩ ?_
  by_cases c7 : (fX5_kind t_kin) = 0
  · replace h := ite_t c7 h
    refine lv_tableIn (tgt := 68) hx hb dX7_performCommand_34 (by rw [c7]; decide) (by rw [c7]; decide) (by rw [c7]; rfl) (by decide) ?_
    refine lv_aload_n hx hb dX7_performCommand_68 rfl (lv_at hl 3 rfl) ?_
    refine getF (q0 := 4) (k0 := 0) (v := .ref a_g) C hE hP inA7 rfl rfl (by decide) qFX7_10 rfl rfl dX7_performCommand_69 ?_
    refine lv_iload_n hx hb dX7_performCommand_72 rfl (lv_at hl 2 rfl) ?_
    refine lv_iload_n hx hb dX7_performCommand_73 rfl (lv_at hl 1 rfl) ?_
    refine lv_iload_n hx hb dX7_performCommand_74 rfl (lv_at hl 0 rfl) ?_
    replace h := bnd h; obtain ⟨q8, e9, h⟩ := h
    refine wrVi (ws1 := [(a_g, .inr (1, [.ref a_gw, .ref a_gk])), (a_r, .inr (4, [.ref a_g, .ref a_rs, .ref a_rl, .ref a_ro])), (a_f, .inr (0, [.ref a_g, .int f_net])), (a_t, .inr (5, [.ref a_ti, .ref a_tn, .int t_len, .int t_cur, .int t_kin, .int t_tol, .int t_don])), (a_x, .inr (7, [.ref a_g, .ref a_b, .ref a_v, .ref a_h, .ref a_r, .ref a_f, .ref a_u, .ref a_t, .ref a_n, .int x_sav, .int x_err, .int x_rea, .int x_det, .int x_com])), (a_gw, .inl (T 0, 90, .inl q8.2.1)), (a_gk, .inl (T 0, 18, .inl q8.2.2)), (a_rs, .inl (T 0, 45, .inl v_rs)), (a_ro, .inl (T 1, 45, .inl v_ro)), (a_tn, .inl (T 0, 3, .inl v_tn))]) C hE hP hD hS hA (kX1_addWhale l D T a_g a_gw a_gk v_gw v_gk q1 q3 q5 _ q8 e9) mX1_addWhale qLX7_99 [0, 5, 6] [1, 2, 3, 4, 7, 8, 9] 0 rfl rfl rfl rfl rfl rfl rfl rfl rfl ⟨rfl, rfl⟩ ⟨Nat.le_of_ble_eq_true rfl, Nat.le_of_ble_eq_true rfl⟩ rfl hl.1 rfl (Nat.le_of_ble_eq_true rfl) dX7_performCommand_75 ⟨Nat.le_of_ble_eq_true rfl, Nat.le_of_ble_eq_true rfl⟩ ?_; clear hP hD hS; intro H locs hP hD hS
    refine lv_pop hx hb dX7_performCommand_78 rfl ?_
    refine lv_goto (tgt := 136) hx hb dX7_performCommand_79 (by decide) ?_
    replace h := Option.some.inj h
    exact hret _ _ _ _ dX7_performCommand_136 (by rw [← h]; exact hP) hS
  · replace h := ite_f c7 h
    by_cases c10 : (fX5_kind t_kin) = 1
    · replace h := ite_t c10 h
      refine lv_tableIn (tgt := 82) hx hb dX7_performCommand_34 (by rw [c10]; decide) (by rw [c10]; decide) (by rw [c10]; rfl) (by decide) ?_
      refine lv_aload_n hx hb dX7_performCommand_82 rfl (lv_at hl 3 rfl) ?_
      refine lv_iload_n hx hb dX7_performCommand_83 rfl (lv_at hl 2 rfl) ?_
      refine lv_iload_n hx hb dX7_performCommand_84 rfl (lv_at hl 1 rfl) ?_
      replace h := bnd h; obtain ⟨q11, e12, h⟩ := h
      refine wrVi (ws1 := [(a_g, .inr (1, [.ref a_gw, .ref a_gk])), (a_r, .inr (4, [.ref a_g, .ref a_rs, .ref a_rl, .ref a_ro])), (a_f, .inr (0, [.ref a_g, .int f_net])), (a_t, .inr (5, [.ref a_ti, .ref a_tn, .int t_len, .int t_cur, .int t_kin, .int t_tol, .int t_don])), (a_x, .inr (7, [.ref a_g, .ref a_b, .ref a_v, .ref a_h, .ref a_r, .ref a_f, .ref a_u, .ref a_t, .ref a_n, .int x_sav, .int x_err, .int x_rea, .int x_det, .int x_com])), (a_gw, .inl (T 0, 90, .inl q11.2.1)), (a_gk, .inl (T 0, 18, .inl q11.2.2.1)), (a_rs, .inl (T 0, 45, .inl q11.2.2.2.1)), (a_ro, .inl (T 1, 45, .inl q11.2.2.2.2)), (a_tn, .inl (T 0, 3, .inl v_tn))]) C hE hP hD hS hA (kX7_moveWhale l D T a_g a_gw a_gk a_r a_rs a_rl a_ro a_x a_b a_v a_h a_f a_u a_t a_n x_sav x_err x_rea x_det x_com v_gw v_gk v_rs v_ro q1 q3 _ q11 e12) mX7_moveWhale qLX7_115 [0, 1, 4, 5, 6, 7, 8] [2, 3, 9] 4 rfl rfl rfl rfl rfl rfl rfl rfl rfl ⟨rfl, rfl⟩ ⟨Nat.le_of_ble_eq_true rfl, Nat.le_of_ble_eq_true rfl⟩ rfl hl.1 rfl (Nat.le_of_ble_eq_true rfl) dX7_performCommand_85 ⟨Nat.le_of_ble_eq_true rfl, Nat.le_of_ble_eq_true rfl⟩ ?_; clear hP hD hS; intro H locs hP hD hS
      refine lv_pop hx hb dX7_performCommand_88 rfl ?_
      refine lv_goto (tgt := 136) hx hb dX7_performCommand_89 (by decide) ?_
      replace h := Option.some.inj h
      exact hret _ _ _ _ dX7_performCommand_136 (by rw [← h]; exact hP) hS
    · replace h := ite_f c10 h
      by_cases c13 : (fX5_kind t_kin) = 2
      · replace h := ite_t c13 h
        refine lv_tableIn (tgt := 92) hx hb dX7_performCommand_34 (by rw [c13]; decide) (by rw [c13]; decide) (by rw [c13]; rfl) (by decide) ?_
        refine lv_aload_n hx hb dX7_performCommand_92 rfl (lv_at hl 3 rfl) ?_
        refine lv_iload_n hx hb dX7_performCommand_93 rfl (lv_at hl 2 rfl) ?_
        refine lv_iload_n hx hb dX7_performCommand_94 rfl (lv_at hl 1 rfl) ?_
        refine lv_iload_n hx hb dX7_performCommand_95 rfl (lv_at hl 0 rfl) ?_
        replace h := bnd h; obtain ⟨q14, e15, h⟩ := h
        refine wrVi (ws1 := [(a_g, .inr (1, [.ref a_gw, .ref a_gk])), (a_r, .inr (4, [.ref a_g, .ref a_rs, .ref a_rl, .ref a_ro])), (a_f, .inr (0, [.ref a_g, .int q14.2.1])), (a_t, .inr (5, [.ref a_ti, .ref a_tn, .int t_len, .int t_cur, .int t_kin, .int t_tol, .int t_don])), (a_x, .inr (7, [.ref a_g, .ref a_b, .ref a_v, .ref a_h, .ref a_r, .ref a_f, .ref a_u, .ref a_t, .ref a_n, .int x_sav, .int x_err, .int x_rea, .int x_det, .int x_com])), (a_gw, .inl (T 0, 90, .inl q14.2.2.1)), (a_gk, .inl (T 0, 18, .inl q14.2.2.2)), (a_rs, .inl (T 0, 45, .inl v_rs)), (a_ro, .inl (T 1, 45, .inl v_ro)), (a_tn, .inl (T 0, 3, .inl v_tn))]) C hE hP hD hS hA (kX7_hitBuoy l D T a_g a_gw a_gk a_f a_x a_b a_v a_h a_r a_u a_t a_n f_net x_sav x_err x_rea x_det x_com v_gw v_gk q1 q3 q5 _ q14 e15) mX7_hitBuoy qLX7_121 [0, 2, 4, 5, 6] [1, 3, 7, 8, 9] 4 rfl rfl rfl rfl rfl rfl rfl rfl rfl ⟨rfl, rfl⟩ ⟨Nat.le_of_ble_eq_true rfl, Nat.le_of_ble_eq_true rfl⟩ rfl hl.1 rfl (Nat.le_of_ble_eq_true rfl) dX7_performCommand_96 ⟨Nat.le_of_ble_eq_true rfl, Nat.le_of_ble_eq_true rfl⟩ ?_; clear hP hD hS; intro H locs hP hD hS
        refine lv_pop hx hb dX7_performCommand_99 rfl ?_
        refine lv_goto (tgt := 136) hx hb dX7_performCommand_100 (by decide) ?_
        replace h := Option.some.inj h
        exact hret _ _ _ _ dX7_performCommand_136 (by rw [← h]; exact hP) hS
      · replace h := ite_f c13 h
        by_cases c16 : (fX5_kind t_kin) = 3
        · replace h := ite_t c16 h
          refine lv_tableIn (tgt := 103) hx hb dX7_performCommand_34 (by rw [c16]; decide) (by rw [c16]; decide) (by rw [c16]; rfl) (by decide) ?_
          refine lv_aload_n hx hb dX7_performCommand_103 rfl (lv_at hl 3 rfl) ?_
          refine getF (q0 := 4) (k0 := 0) (v := .ref a_g) C hE hP inA7 rfl rfl (by decide) qFX7_10 rfl rfl dX7_performCommand_104 ?_
          refine lv_iload_n hx hb dX7_performCommand_107 rfl (lv_at hl 2 rfl) ?_
          replace h := bnd h; obtain ⟨q17, e18, h⟩ := h
          refine wrVi (ws1 := [(a_g, .inr (1, [.ref a_gw, .ref a_gk])), (a_r, .inr (4, [.ref a_g, .ref a_rs, .ref a_rl, .ref a_ro])), (a_f, .inr (0, [.ref a_g, .int f_net])), (a_t, .inr (5, [.ref a_ti, .ref a_tn, .int t_len, .int t_cur, .int t_kin, .int t_tol, .int t_don])), (a_x, .inr (7, [.ref a_g, .ref a_b, .ref a_v, .ref a_h, .ref a_r, .ref a_f, .ref a_u, .ref a_t, .ref a_n, .int x_sav, .int x_err, .int x_rea, .int x_det, .int x_com])), (a_gw, .inl (T 0, 90, .inl q17.2.1)), (a_gk, .inl (T 0, 18, .inl q17.2.2)), (a_rs, .inl (T 0, 45, .inl v_rs)), (a_ro, .inl (T 1, 45, .inl v_ro)), (a_tn, .inl (T 0, 3, .inl v_tn))]) C hE hP hD hS hA (kX1_startSong l D T a_g a_gw a_gk v_gw v_gk q1 _ q17 e18) mX1_startSong qLX7_128 [0, 5, 6] [1, 2, 3, 4, 7, 8, 9] 0 rfl rfl rfl rfl rfl rfl rfl rfl rfl ⟨rfl, rfl⟩ ⟨Nat.le_of_ble_eq_true rfl, Nat.le_of_ble_eq_true rfl⟩ rfl hl.1 rfl (Nat.le_of_ble_eq_true rfl) dX7_performCommand_108 ⟨Nat.le_of_ble_eq_true rfl, Nat.le_of_ble_eq_true rfl⟩ ?_; clear hP hD hS; intro H locs hP hD hS
          refine lv_pop hx hb dX7_performCommand_111 rfl ?_
          refine lv_goto (tgt := 136) hx hb dX7_performCommand_112 (by decide) ?_
          replace h := Option.some.inj h
          exact hret _ _ _ _ dX7_performCommand_136 (by rw [← h]; exact hP) hS
        · replace h := ite_f c16 h
          by_cases c19 : (fX5_kind t_kin) = 4
          · replace h := ite_t c19 h
            refine lv_tableIn (tgt := 115) hx hb dX7_performCommand_34 (by rw [c19]; decide) (by rw [c19]; decide) (by rw [c19]; rfl) (by decide) ?_
            refine lv_aload_n hx hb dX7_performCommand_115 rfl (lv_at hl 3 rfl) ?_
            refine getF (q0 := 4) (k0 := 0) (v := .ref a_g) C hE hP inA7 rfl rfl (by decide) qFX7_10 rfl rfl dX7_performCommand_116 ?_
            refine lv_iload_n hx hb dX7_performCommand_119 rfl (lv_at hl 2 rfl) ?_
            refine lv_iload_n hx hb dX7_performCommand_120 rfl (lv_at hl 1 rfl) ?_
            replace h := bnd h; obtain ⟨q20, e21, h⟩ := h
            refine wrVi (ws1 := [(a_g, .inr (1, [.ref a_gw, .ref a_gk])), (a_r, .inr (4, [.ref a_g, .ref a_rs, .ref a_rl, .ref a_ro])), (a_f, .inr (0, [.ref a_g, .int f_net])), (a_t, .inr (5, [.ref a_ti, .ref a_tn, .int t_len, .int t_cur, .int t_kin, .int t_tol, .int t_don])), (a_x, .inr (7, [.ref a_g, .ref a_b, .ref a_v, .ref a_h, .ref a_r, .ref a_f, .ref a_u, .ref a_t, .ref a_n, .int x_sav, .int x_err, .int x_rea, .int x_det, .int x_com])), (a_gw, .inl (T 0, 90, .inl q20.2.1)), (a_gk, .inl (T 0, 18, .inl q20.2.2)), (a_rs, .inl (T 0, 45, .inl v_rs)), (a_ro, .inl (T 1, 45, .inl v_ro)), (a_tn, .inl (T 0, 3, .inl v_tn))]) C hE hP hD hS hA (kX1_substitute l D T a_g a_gw a_gk v_gw v_gk q1 q3 _ q20 e21) mX1_substitute qLX7_109 [0, 5, 6] [1, 2, 3, 4, 7, 8, 9] 0 rfl rfl rfl rfl rfl rfl rfl rfl rfl ⟨rfl, rfl⟩ ⟨Nat.le_of_ble_eq_true rfl, Nat.le_of_ble_eq_true rfl⟩ rfl hl.1 rfl (Nat.le_of_ble_eq_true rfl) dX7_performCommand_121 ⟨Nat.le_of_ble_eq_true rfl, Nat.le_of_ble_eq_true rfl⟩ ?_; clear hP hD hS; intro H locs hP hD hS
            refine lv_pop hx hb dX7_performCommand_124 rfl ?_
            refine lv_goto (tgt := 136) hx hb dX7_performCommand_125 (by decide) ?_
            replace h := Option.some.inj h
            exact hret _ _ _ _ dX7_performCommand_136 (by rw [← h]; exact hP) hS
          · replace h := ite_f c19 h
            refine lv_tableOut (tgt := 128) hx hb dX7_performCommand_34 (by have t0 := tI 0 rfl c7; have t1 := tI 1 rfl c10; have t2 := tI 2 rfl c13; have t3 := tI 3 rfl c16; have t4 := tI 4 rfl c19; omega) (by decide) ?_
            refine lv_aload_n hx hb dX7_performCommand_128 rfl (lv_at hl 3 rfl) ?_
            refine getF (q0 := 4) (k0 := 0) (v := .ref a_g) C hE hP inA7 rfl rfl (by decide) qFX7_10 rfl rfl dX7_performCommand_129 ?_
            replace h := bnd h; obtain ⟨q22, e23, h⟩ := h
            refine wrVi (ws1 := [(a_g, .inr (1, [.ref a_gw, .ref a_gk])), (a_r, .inr (4, [.ref a_g, .ref a_rs, .ref a_rl, .ref a_ro])), (a_f, .inr (0, [.ref a_g, .int f_net])), (a_t, .inr (5, [.ref a_ti, .ref a_tn, .int t_len, .int t_cur, .int t_kin, .int t_tol, .int t_don])), (a_x, .inr (7, [.ref a_g, .ref a_b, .ref a_v, .ref a_h, .ref a_r, .ref a_f, .ref a_u, .ref a_t, .ref a_n, .int x_sav, .int x_err, .int x_rea, .int x_det, .int x_com])), (a_gw, .inl (T 0, 90, .inl q22.2.1)), (a_gk, .inl (T 0, 18, .inl q22.2.2)), (a_rs, .inl (T 0, 45, .inl v_rs)), (a_ro, .inl (T 1, 45, .inl v_ro)), (a_tn, .inl (T 0, 3, .inl v_tn))]) C hE hP hD hS hA (kX1_endStroke l D T a_g a_gw a_gk v_gw v_gk _ q22 e23) mX1_endStroke qLX7_135 [0, 5, 6] [1, 2, 3, 4, 7, 8, 9] 0 rfl rfl rfl rfl rfl rfl rfl rfl rfl ⟨rfl, rfl⟩ ⟨Nat.le_of_ble_eq_true rfl, Nat.le_of_ble_eq_true rfl⟩ rfl hl.1 rfl (Nat.le_of_ble_eq_true rfl) dX7_performCommand_132 ⟨Nat.le_of_ble_eq_true rfl, Nat.le_of_ble_eq_true rfl⟩ ?_; clear hP hD hS; intro H locs hP hD hS
            refine lv_pop hx hb dX7_performCommand_135 rfl ?_
            replace h := Option.some.inj h
            exact hret _ _ _ _ dX7_performCommand_136 (by rw [← h]; exact hP) hS

def fX5_countDone (t_don : Int32) : Option Int32 :=
  some (t_don + 1)
set_option maxHeartbeats 4000000 in
set_option maxRecDepth 100000 in
theorem kX5_countDone (l : Launch) (D : va_G) (T : Nat → ClassId) (a_t a_ti a_tn : Nat) (t_len : Int32) (t_cur : Int32) (t_kin : Int32) (t_tol : Int32) (t_don : Int32) (sz : Nat) (r : Int32) (h : fX5_countDone t_don = some r) : WrV l yX5_countDone cX5_countDone 1 ({ frames := 0, cells := 0, slots := 0, locals := 0 } : Room) D T sz [(a_t, .inr (5, [.ref a_ti, .ref a_tn, .int t_len, .int t_cur, .int t_kin, .int t_tol, .int t_don]))] [(a_t, .inr (5, [.ref a_ti, .ref a_tn, .int t_len, .int t_cur, .int t_kin, .int t_tol, .int r]))] [.ref a_t] := by
  unfold fX5_countDone at h
  refine wrMetV (by decide +kernel) rfl (fun p e s m args below meth c Q A C hE hA hP hD hS hret ls hl => ?_)
  have hx := C.1
  have hb := C.2.1
  have hl : lv_has ls 1 [(0, .ref a_t)] := hl
  refine lv_aload_n hx hb dX5_countDone_0 rfl (lv_at hl 0 rfl) ?_
  refine lv_dup hx hb dX5_countDone_1 rfl ?_
  refine getF (q0 := 0) (k0 := 6) (v := .int t_don) C hE hP inA5 rfl rfl (by decide) qFX5_32 rfl rfl dX5_countDone_2 ?_
  refine lv_iconst (v := 1) hx hb dX5_countDone_5 (by decide) ?_
  refine lv_iadd hx hb dX5_countDone_6 ?_
  refine putF (q0 := 0) (k0 := 6) (ws1 := [(a_t, .inr (5, [.ref a_ti, .ref a_tn, .int t_len, .int t_cur, .int t_kin, .int t_tol, .int (t_don + 1)]))]) C hE hP hD hS inA5 tyX5_ok nmX5 rfl rfl (by decide) qFX5_32 rfl rfl rfl rfl (Nat.le_of_ble_eq_true rfl) rfl dX5_countDone_7 ?_; clear hP hD hS; intro H locs hP hD hS
  replace h := Option.some.inj h
  exact hret _ _ _ _ dX5_countDone_10 (by rw [← h]; exact hP) hS

def fX5_doneCommands (t_don : Int32) : Int32 :=
  t_don
set_option maxHeartbeats 4000000 in
set_option maxRecDepth 100000 in
theorem kX5_doneCommands (l : Launch) (D : va_G) (T : Nat → ClassId) (a_t a_ti a_tn : Nat) (t_len : Int32) (t_cur : Int32) (t_kin : Int32) (t_tol : Int32) (t_don : Int32) : RdI l yX5_doneCommands cX5_doneCommands 1 .int ({ frames := 0, cells := 0, slots := 0, locals := 0 } : Room) D T [(a_t, .inr (5, [.ref a_ti, .ref a_tn, .int t_len, .int t_cur, .int t_kin, .int t_tol, .int t_don]))] [.ref a_t] (fX5_doneCommands t_don) := by
  obtain ⟨r, h⟩ : ∃ r, fX5_doneCommands t_don = r := ⟨_, rfl⟩
  rw [h]
  unfold fX5_doneCommands at h
  refine rdMet (by decide +kernel) rfl (fun p e s m args below meth c Q C hE hP hret ls hl => ?_)
  have hx := C.1
  have hb := C.2.1
  have hl : lv_has ls 1 [(0, .ref a_t)] := hl
  refine lv_aload_n hx hb dX5_doneCommands_0 rfl (lv_at hl 0 rfl) ?_
  refine getF (q0 := 0) (k0 := 6) (v := .int t_don) C hE hP inA5 rfl rfl (by decide) qFX5_32 rfl rfl dX5_doneCommands_1 ?_
  exact hret _ _ _ _ dX5_doneCommands_4 rfl h

def fX7_demandKnown_11 : Option Nat :=
  some 6
def fX7_demandKnown (p0 : Int32) : Option Nat :=
  if p0 = (-1) then
    fX7_demandKnown_11
  else
    if p0 = (-2) then
      fX7_demandKnown_11
    else
      some 0
set_option maxHeartbeats 4000000 in
set_option maxRecDepth 100000 in
theorem lX7_demandKnown_11 {p : Program} {l : Launch} {e : Env} {s : State} {m : MethodId} {args : Array Value} {below : List Frame} {meth : Method} {c : Code} {Q : State → Prop} {D : va_G} {T : Nat → ClassId} {A : Nat → Prop} {r : Nat} (C : CallFix p m c cX7_demandKnown 2 s args aw RX7) (hE : eK D T s) (hA : ∀ q : Nat, s.heap.size ≤ q → A q) (hZ : eX l A s) (hret : ThRetV p l e ({ frames := 6, cells := 1, slots := 6, locals := 90 } : Room) s m args below meth c Q cX7_demandKnown D A [] r ∧ ThOut p l e ({ frames := 6, cells := 1, slots := 6, locals := 90 } : Room) s m args below meth c Q D A [] r ∧ ThThr p l e ({ frames := 6, cells := 1, slots := 6, locals := 90 } : Room) s m args below meth c Q cX7_demandKnown RX7 D A [] r) {H : Heap} {locs : List Loc} (hPD : va_PD D A [] H) (hS : va_S A s.heap H locs) (ls : Array Slot) (hl : lv_has ls 2 []) (h : fX7_demandKnown_11 = some r) : W p l e ({ frames := 6, cells := 1, slots := 6, locals := 90 } : Room) s m args below meth c H locs 0 0 Q (F0 m 11 ls []) := by
  have hx := C.1
  have hb := C.2.1
  obtain ⟨hP, hD⟩ := hPD
  unfold fX7_demandKnown_11 at h
  replace h := Option.some.inj h
  exact hret.2.2 _ _ _ _ _ _ _ 314 318 382 _ "a command tells what there is not" (by rw [← h]; exact thrX7_314_318_6) (by decide +kernel) dX7_demandKnown_11 dX7_demandKnown_14 (Or.inr ⟨dX7_demandKnown_15, dX7_demandKnown_18, dX7_demandKnown_21⟩) (Nat.le_of_ble_eq_true rfl) (Nat.le_of_ble_eq_true rfl) (Nat.le_of_ble_eq_true rfl) (Nat.le_of_ble_eq_true rfl) (hl.1.trans C.2.2.1.symm) (by rw [← h]; exact (Nat.le_of_ble_eq_true rfl)) hP hS
set_option maxHeartbeats 4000000 in
set_option maxRecDepth 100000 in
theorem kX7_demandKnown (l : Launch) (hnt : l.stackTraces = false) (D : va_G) (T : Nat → ClassId) (a_x : Nat) (p0 : Int32) (sz : Nat) (r : Nat) (h : fX7_demandKnown p0 = some r) : ThV l yX7_demandKnown cX7_demandKnown 2 ({ frames := 6, cells := 1, slots := 6, locals := 90 } : Room) D T sz [] [] [.ref a_x, .int p0] r := by
  unfold fX7_demandKnown at h
  refine thMetV hnt (by decide +kernel) rfl (fun p e s m args below meth c Q A C hE hA hZ hP hD hS hret ls hl => ?_)
  have hx := C.1
  have hb := C.2.1
  have hl : lv_has ls 2 [(0, .ref a_x), (1, .int p0)] := hl
  refine lv_iload_n hx hb dX7_demandKnown_0 rfl (lv_at hl 1 rfl) ?_
  refine lv_iconst (v := (-1)) hx hb dX7_demandKnown_1 (by decide) ?_
  refine lv_icmp_eq (tgt := 11) hx hb dX7_demandKnown_2 (by decide) (fun c1 => ?_) (fun c1 => ?_)
  · replace h := ite_t c1 h
    exact lX7_demandKnown_11 C hE hA hZ hret ⟨hP, hD⟩ hS _ (lv_sub hl [] rfl) h
  · replace h := ite_f c1 h
    refine lv_iload_n hx hb dX7_demandKnown_5 rfl (lv_at hl 1 rfl) ?_
    refine lv_bipush (v := (-2)) hx hb dX7_demandKnown_6 (by decide) ?_
    refine lv_icmp_ne (tgt := 22) hx hb dX7_demandKnown_8 (by decide) (fun c2 => ?_) (fun c2 => ?_)
    · replace h := ite_f c2 h
      replace h := Option.some.inj h
      exact hret.1 _ _ _ _ _ _ (Nat.le_of_ble_eq_true rfl) (Nat.le_of_ble_eq_true rfl) dX7_demandKnown_22 (by rw [← h]) hP hS
    · replace h := ite_t c2 h
      exact lX7_demandKnown_11 C hE hA hZ hret ⟨hP, hD⟩ hS _ (lv_sub hl [] rfl) h

def fX7_save (x_sav : Int32) (v_gw : Nat → Int32) (v_gk : Nat → Int32) (v_vw : Nat → Int32) (v_vk : Nat → Int32) : Option (Int32 × Int32 × (Nat → Int32) × (Nat → Int32)) :=
  (fX1_copyFrom v_vw v_vk v_gw v_gk).bind fun q1 =>
  (fX1_count v_gk 1).bind fun q3 =>
  some (q3, 1, q1.1, q1.2)
set_option maxHeartbeats 4000000 in
set_option maxRecDepth 100000 in
theorem kX7_save (l : Launch) (D : va_G) (T : Nat → ClassId) (a_g a_gw a_gk a_v a_vw a_vk a_x a_b a_h a_r a_f a_u a_t a_n : Nat) (x_sav : Int32) (x_err : Int32) (x_rea : Int32) (x_det : Int32) (x_com : Int32) (v_gw : Nat → Int32) (v_gk : Nat → Int32) (v_vw : Nat → Int32) (v_vk : Nat → Int32) (sz : Nat) (r : Int32 × Int32 × (Nat → Int32) × (Nat → Int32)) (h : fX7_save x_sav v_gw v_gk v_vw v_vk = some r) : WrI l yX7_save cX7_save 1 .int ({ frames := 2, cells := 0, slots := 0, locals := 121 } : Room) D T sz [(a_g, .inr (1, [.ref a_gw, .ref a_gk])), (a_v, .inr (1, [.ref a_vw, .ref a_vk])), (a_x, .inr (7, [.ref a_g, .ref a_b, .ref a_v, .ref a_h, .ref a_r, .ref a_f, .ref a_u, .ref a_t, .ref a_n, .int x_sav, .int x_err, .int x_rea, .int x_det, .int x_com])), (a_gw, .inl (T 0, 90, .inl v_gw)), (a_gk, .inl (T 0, 18, .inl v_gk)), (a_vw, .inl (T 0, 90, .inl v_vw)), (a_vk, .inl (T 0, 18, .inl v_vk))] [(a_g, .inr (1, [.ref a_gw, .ref a_gk])), (a_v, .inr (1, [.ref a_vw, .ref a_vk])), (a_x, .inr (7, [.ref a_g, .ref a_b, .ref a_v, .ref a_h, .ref a_r, .ref a_f, .ref a_u, .ref a_t, .ref a_n, .int r.2.1, .int x_err, .int x_rea, .int x_det, .int x_com])), (a_gw, .inl (T 0, 90, .inl v_gw)), (a_gk, .inl (T 0, 18, .inl v_gk)), (a_vw, .inl (T 0, 90, .inl r.2.2.1)), (a_vk, .inl (T 0, 18, .inl r.2.2.2))] [.ref a_x] r.1 := by
  unfold fX7_save at h
  refine wrMet (by decide +kernel) rfl (fun p e s m args below meth c Q A C hE hA hP hD hS hret ls hl => ?_)
  have hx := C.1
  have hb := C.2.1
  have hl : lv_has ls 1 [(0, .ref a_x)] := hl
  refine lv_aload_n hx hb dX7_save_0 rfl (lv_at hl 0 rfl) ?_
  refine getF (q0 := 2) (k0 := 2) (v := .ref a_v) C hE hP inA7 rfl rfl (by decide) qFX7_19 rfl rfl dX7_save_1 ?_
  refine lv_aload_n hx hb dX7_save_4 rfl (lv_at hl 0 rfl) ?_
  refine getF (q0 := 2) (k0 := 0) (v := .ref a_g) C hE hP inA7 rfl rfl (by decide) qFX7_10 rfl rfl dX7_save_5 ?_
  replace h := bnd h; obtain ⟨q1, e2, h⟩ := h
  refine wrVv (ws1 := [(a_g, .inr (1, [.ref a_gw, .ref a_gk])), (a_v, .inr (1, [.ref a_vw, .ref a_vk])), (a_x, .inr (7, [.ref a_g, .ref a_b, .ref a_v, .ref a_h, .ref a_r, .ref a_f, .ref a_u, .ref a_t, .ref a_n, .int x_sav, .int x_err, .int x_rea, .int x_det, .int x_com])), (a_gw, .inl (T 0, 90, .inl v_gw)), (a_gk, .inl (T 0, 18, .inl v_gk)), (a_vw, .inl (T 0, 90, .inl q1.1)), (a_vk, .inl (T 0, 18, .inl q1.2))]) C hE hP hD hS hA (kX1_copyFrom l D T a_v a_vw a_vk a_g a_gw a_gk v_vw v_vk v_gw v_gk _ q1 e2) mX1_copyFrom qLX7_328 [1, 0, 5, 6, 3, 4] [2] 1 rfl rfl rfl rfl rfl rfl rfl rfl rfl ⟨rfl, rfl⟩ ⟨Nat.le_of_ble_eq_true rfl, Nat.le_of_ble_eq_true rfl⟩ rfl hl.1 rfl (Nat.le_of_ble_eq_true rfl) dX7_save_8 ⟨Nat.le_of_ble_eq_true rfl, Nat.le_of_ble_eq_true rfl⟩ ?_; clear hP hD hS; intro H locs hP hD hS
  refine lv_aload_n hx hb dX7_save_11 rfl (lv_at hl 0 rfl) ?_
  refine lv_iconst (v := 1) hx hb dX7_save_12 (by decide) ?_
  refine putF (q0 := 2) (k0 := 9) (ws1 := [(a_g, .inr (1, [.ref a_gw, .ref a_gk])), (a_v, .inr (1, [.ref a_vw, .ref a_vk])), (a_x, .inr (7, [.ref a_g, .ref a_b, .ref a_v, .ref a_h, .ref a_r, .ref a_f, .ref a_u, .ref a_t, .ref a_n, .int 1, .int x_err, .int x_rea, .int x_det, .int x_com])), (a_gw, .inl (T 0, 90, .inl v_gw)), (a_gk, .inl (T 0, 18, .inl v_gk)), (a_vw, .inl (T 0, 90, .inl q1.1)), (a_vk, .inl (T 0, 18, .inl q1.2))]) C hE hP hD hS inA7 tyX7_ok nmX7 rfl rfl (by decide) qFX7_68 rfl rfl rfl rfl (Nat.le_of_ble_eq_true rfl) rfl dX7_save_13 ?_; clear hP hD hS; intro H locs hP hD hS
  refine lv_aload_n hx hb dX7_save_16 rfl (lv_at hl 0 rfl) ?_
  refine getF (q0 := 2) (k0 := 0) (v := .ref a_g) C hE hP inA7 rfl rfl (by decide) qFX7_10 rfl rfl dX7_save_17 ?_
  refine lv_iconst (v := 1) hx hb dX7_save_20 (by decide) ?_
  replace h := bnd h; obtain ⟨q3, e4, h⟩ := h
  refine rdV C hE hP (kX1_count l D T a_g a_gw a_gk v_gk 1 q3 e4) mX1_count qLX7_235 [0, 4] 0 rfl rfl rfl rfl ⟨rfl, rfl⟩ ⟨Nat.le_of_ble_eq_true rfl, Nat.le_of_ble_eq_true rfl⟩ rfl hl.1 rfl (Nat.le_of_ble_eq_true rfl) dX7_save_21 ⟨Nat.le_of_ble_eq_true rfl, Nat.le_of_ble_eq_true rfl⟩ ?_
  replace h := Option.some.inj h
  exact hret _ _ _ _ _ _ dX7_save_24 rfl (by rw [← h] <;> rfl) (by rw [← h]; exact hP) hS

def fX2_forgetAll (h_siz : Int32) : Option Int32 :=
  some 0
set_option maxHeartbeats 4000000 in
set_option maxRecDepth 100000 in
theorem kX2_forgetAll (l : Launch) (D : va_G) (T : Nat → ClassId) (a_h a_hp : Nat) (h_old : Int32) (h_siz : Int32) (sz : Nat) (r : Int32) (h : fX2_forgetAll h_siz = some r) : WrV l yX2_forgetAll cX2_forgetAll 1 ({ frames := 0, cells := 0, slots := 0, locals := 0 } : Room) D T sz [(a_h, .inr (2, [.ref a_hp, .int h_old, .int h_siz]))] [(a_h, .inr (2, [.ref a_hp, .int h_old, .int r]))] [.ref a_h] := by
  unfold fX2_forgetAll at h
  refine wrMetV (by decide +kernel) rfl (fun p e s m args below meth c Q A C hE hA hP hD hS hret ls hl => ?_)
  have hx := C.1
  have hb := C.2.1
  have hl : lv_has ls 1 [(0, .ref a_h)] := hl
  refine lv_aload_n hx hb dX2_forgetAll_0 rfl (lv_at hl 0 rfl) ?_
  refine lv_iconst (v := 0) hx hb dX2_forgetAll_1 (by decide) ?_
  refine putF (q0 := 0) (k0 := 2) (ws1 := [(a_h, .inr (2, [.ref a_hp, .int h_old, .int 0]))]) C hE hP hD hS inA2 tyX2_ok nmX2 rfl rfl (by decide) qFX2_21 rfl rfl rfl rfl (Nat.le_of_ble_eq_true rfl) rfl dX2_forgetAll_2 ?_; clear hP hD hS; intro H locs hP hD hS
  replace h := Option.some.inj h
  exact hret _ _ _ _ dX2_forgetAll_5 (by rw [← h]; exact hP) hS

def fX7_restore (h_siz : Int32) (x_sav : Int32) (v_gw : Nat → Int32) (v_gk : Nat → Int32) (v_vw : Nat → Int32) (v_vk : Nat → Int32) : Option (Nat × Int32 × Int32 × (Nat → Int32) × (Nat → Int32)) :=
  if x_sav = 0 then
    some (6, 0, h_siz, v_gw, v_gk)
  else
    (fX1_copyFrom v_gw v_gk v_vw v_vk).bind fun q2 =>
    (fX2_forgetAll h_siz).bind fun q4 =>
    (fX1_count q2.2 1).bind fun q6 =>
    some (0, q6, q4, q2.1, q2.2)
set_option maxHeartbeats 4000000 in
set_option maxRecDepth 100000 in
theorem kX7_restore (l : Launch) (hnt : l.stackTraces = false) (D : va_G) (T : Nat → ClassId) (a_g a_gw a_gk a_v a_vw a_vk a_h a_hp a_x a_b a_r a_f a_u a_t a_n : Nat) (h_old : Int32) (h_siz : Int32) (x_sav : Int32) (x_err : Int32) (x_rea : Int32) (x_det : Int32) (x_com : Int32) (v_gw : Nat → Int32) (v_gk : Nat → Int32) (v_vw : Nat → Int32) (v_vk : Nat → Int32) (sz : Nat) (r : Nat × Int32 × Int32 × (Nat → Int32) × (Nat → Int32)) (h : fX7_restore h_siz x_sav v_gw v_gk v_vw v_vk = some r) : ThI l yX7_restore cX7_restore 1 .int ({ frames := 6, cells := 1, slots := 6, locals := 121 } : Room) D T sz [(a_g, .inr (1, [.ref a_gw, .ref a_gk])), (a_v, .inr (1, [.ref a_vw, .ref a_vk])), (a_h, .inr (2, [.ref a_hp, .int h_old, .int h_siz])), (a_x, .inr (7, [.ref a_g, .ref a_b, .ref a_v, .ref a_h, .ref a_r, .ref a_f, .ref a_u, .ref a_t, .ref a_n, .int x_sav, .int x_err, .int x_rea, .int x_det, .int x_com])), (a_gw, .inl (T 0, 90, .inl v_gw)), (a_gk, .inl (T 0, 18, .inl v_gk)), (a_vw, .inl (T 0, 90, .inl v_vw)), (a_vk, .inl (T 0, 18, .inl v_vk))] [(a_g, .inr (1, [.ref a_gw, .ref a_gk])), (a_v, .inr (1, [.ref a_vw, .ref a_vk])), (a_h, .inr (2, [.ref a_hp, .int h_old, .int r.2.2.1])), (a_x, .inr (7, [.ref a_g, .ref a_b, .ref a_v, .ref a_h, .ref a_r, .ref a_f, .ref a_u, .ref a_t, .ref a_n, .int x_sav, .int x_err, .int x_rea, .int x_det, .int x_com])), (a_gw, .inl (T 0, 90, .inl r.2.2.2.1)), (a_gk, .inl (T 0, 18, .inl r.2.2.2.2)), (a_vw, .inl (T 0, 90, .inl v_vw)), (a_vk, .inl (T 0, 18, .inl v_vk))] [.ref a_x] r.1 r.2.1 := by
  unfold fX7_restore at h
  refine thMetI hnt (by decide +kernel) rfl (fun p e s m args below meth c Q A C hE hA hZ hP hD hS hret ls hl => ?_)
  have hx := C.1
  have hb := C.2.1
  have hl : lv_has ls 1 [(0, .ref a_x)] := hl
  refine lv_aload_n hx hb dX7_restore_0 rfl (lv_at hl 0 rfl) ?_
  refine getF (q0 := 3) (k0 := 9) (v := .int x_sav) C hE hP inA7 rfl rfl (by decide) qFX7_68 rfl rfl dX7_restore_1 ?_
  refine lv_if_ne (tgt := 18) hx hb dX7_restore_4 (by decide) (fun c1 => ?_) (fun c1 => ?_)
  · replace h := ite_f c1 h
    refine lv_aload_n hx hb dX7_restore_18 rfl (lv_at hl 0 rfl) ?_
    refine getF (q0 := 3) (k0 := 0) (v := .ref a_g) C hE hP inA7 rfl rfl (by decide) qFX7_10 rfl rfl dX7_restore_19 ?_
    refine lv_aload_n hx hb dX7_restore_22 rfl (lv_at hl 0 rfl) ?_
    refine getF (q0 := 3) (k0 := 2) (v := .ref a_v) C hE hP inA7 rfl rfl (by decide) qFX7_19 rfl rfl dX7_restore_23 ?_
    replace h := bnd h; obtain ⟨q2, e3, h⟩ := h
    refine wrVv (ws1 := [(a_g, .inr (1, [.ref a_gw, .ref a_gk])), (a_v, .inr (1, [.ref a_vw, .ref a_vk])), (a_h, .inr (2, [.ref a_hp, .int h_old, .int h_siz])), (a_x, .inr (7, [.ref a_g, .ref a_b, .ref a_v, .ref a_h, .ref a_r, .ref a_f, .ref a_u, .ref a_t, .ref a_n, .int x_sav, .int x_err, .int x_rea, .int x_det, .int x_com])), (a_gw, .inl (T 0, 90, .inl q2.1)), (a_gk, .inl (T 0, 18, .inl q2.2)), (a_vw, .inl (T 0, 90, .inl v_vw)), (a_vk, .inl (T 0, 18, .inl v_vk))]) C hE hP hD hS hA (kX1_copyFrom l D T a_g a_gw a_gk a_v a_vw a_vk v_gw v_gk v_vw v_vk _ q2 e3) mX1_copyFrom qLX7_328 [0, 1, 4, 5, 6, 7] [2, 3] 0 rfl rfl rfl rfl rfl rfl rfl rfl rfl ⟨rfl, rfl⟩ ⟨Nat.le_of_ble_eq_true rfl, Nat.le_of_ble_eq_true rfl⟩ rfl hl.1 rfl (Nat.le_of_ble_eq_true rfl) dX7_restore_26 ⟨Nat.le_of_ble_eq_true rfl, Nat.le_of_ble_eq_true rfl⟩ ?_; clear hP hD hS; intro H locs hP hD hS
    refine lv_aload_n hx hb dX7_restore_29 rfl (lv_at hl 0 rfl) ?_
    refine getF (q0 := 3) (k0 := 3) (v := .ref a_h) C hE hP inA7 rfl rfl (by decide) qFX7_25 rfl rfl dX7_restore_30 ?_
    replace h := bnd h; obtain ⟨q4, e5, h⟩ := h
    refine wrVv (ws1 := [(a_g, .inr (1, [.ref a_gw, .ref a_gk])), (a_v, .inr (1, [.ref a_vw, .ref a_vk])), (a_h, .inr (2, [.ref a_hp, .int h_old, .int q4])), (a_x, .inr (7, [.ref a_g, .ref a_b, .ref a_v, .ref a_h, .ref a_r, .ref a_f, .ref a_u, .ref a_t, .ref a_n, .int x_sav, .int x_err, .int x_rea, .int x_det, .int x_com])), (a_gw, .inl (T 0, 90, .inl q2.1)), (a_gk, .inl (T 0, 18, .inl q2.2)), (a_vw, .inl (T 0, 90, .inl v_vw)), (a_vk, .inl (T 0, 18, .inl v_vk))]) C hE hP hD hS hA (kX2_forgetAll l D T a_h a_hp h_old h_siz _ q4 e5) mX2_forgetAll qLX7_373 [2] [0, 1, 3, 4, 5, 6, 7] 2 rfl rfl rfl rfl rfl rfl rfl rfl rfl ⟨rfl, rfl⟩ ⟨Nat.le_of_ble_eq_true rfl, Nat.le_of_ble_eq_true rfl⟩ rfl hl.1 rfl (Nat.le_of_ble_eq_true rfl) dX7_restore_33 ⟨Nat.le_of_ble_eq_true rfl, Nat.le_of_ble_eq_true rfl⟩ ?_; clear hP hD hS; intro H locs hP hD hS
    refine lv_aload_n hx hb dX7_restore_36 rfl (lv_at hl 0 rfl) ?_
    refine getF (q0 := 3) (k0 := 0) (v := .ref a_g) C hE hP inA7 rfl rfl (by decide) qFX7_10 rfl rfl dX7_restore_37 ?_
    refine lv_iconst (v := 1) hx hb dX7_restore_40 (by decide) ?_
    replace h := bnd h; obtain ⟨q6, e7, h⟩ := h
    refine rdV C hE hP (kX1_count l D T a_g a_gw a_gk q2.2 1 q6 e7) mX1_count qLX7_235 [0, 5] 0 rfl rfl rfl rfl ⟨rfl, rfl⟩ ⟨Nat.le_of_ble_eq_true rfl, Nat.le_of_ble_eq_true rfl⟩ rfl hl.1 rfl (Nat.le_of_ble_eq_true rfl) dX7_restore_41 ⟨Nat.le_of_ble_eq_true rfl, Nat.le_of_ble_eq_true rfl⟩ ?_
    replace h := Option.some.inj h
    exact hret.1 _ _ _ _ _ _ _ _ (Nat.le_of_ble_eq_true rfl) (Nat.le_of_ble_eq_true rfl) dX7_restore_44 rfl (by rw [← h]) (by rw [← h] <;> rfl) (by rw [← h]; exact hP) hS
  · replace h := ite_t c1 h
    replace h := Option.some.inj h
    exact hret.2.2 _ _ _ _ _ _ _ 314 318 371 _ "nothing was saved" (by rw [← h]; exact thrX7_314_318_6) (by decide +kernel) dX7_restore_7 dX7_restore_10 (Or.inr ⟨dX7_restore_11, dX7_restore_14, dX7_restore_17⟩) (Nat.le_of_ble_eq_true rfl) (Nat.le_of_ble_eq_true rfl) (Nat.le_of_ble_eq_true rfl) (Nat.le_of_ble_eq_true rfl) (hl.1.trans C.2.2.1.symm) (by rw [← h]; exact (Nat.le_of_ble_eq_true rfl)) (by rw [← h]; exact hP) hS
