def fX8_swap (m_chg : Int32) (m_thr : Int32) (m_rea : Int32) (m_det : Int32) (m_ref : Int32) (v_ms : Nat → Int32) (v_mw : Nat → Int32) (v_mp : Nat → Int32) (p0 : Int32) (p1 : Int32) : Option (Int32 × Int32 × Int32 × Int32 × Int32 × Int32 × (Nat → Int32) × (Nat → Int32) × (Nat → Int32)) :=
  (fX8_keeps m_thr v_ms v_mw).bind fun q1 =>
  (fX8_swaps q1.1 m_rea m_det m_ref v_ms p0 p1).bind fun q3 =>
  (fX8_ends m_chg q3.2.1 q1.2 v_mp q3.1 2).bind fun q5 =>
  some (q5.1, q5.2.1, q5.2.2.1, q3.2.2.1, q3.2.2.2.1, q3.2.2.2.2.1, q3.2.2.2.2.2, q1.2, q5.2.2.2)
set_option maxHeartbeats 4000000 in
set_option maxRecDepth 100000 in
theorem kX8_swap (l : Launch) (D : va_G) (T : Nat → ClassId) (a_m a_ms a_mw a_mv a_mp a_mf a_ml a_mt a_mc : Nat) (m_chg : Int32) (m_thr : Int32) (m_rea : Int32) (m_det : Int32) (m_ref : Int32) (m_err : Int32) (m_ans : Int32) (m_sav : Int32) (m_net : Int32) (m_lin : Int32) (m_tap : Int32) (m_her : Int32) (m_cmd : Int32) (v_ms : Nat → Int32) (v_mw : Nat → Int32) (v_mp : Nat → Int32) (p0 : Int32) (p1 : Int32) (sz : Nat) (r : Int32 × Int32 × Int32 × Int32 × Int32 × Int32 × (Nat → Int32) × (Nat → Int32) × (Nat → Int32)) (h : fX8_swap m_chg m_thr m_rea m_det m_ref v_ms v_mw v_mp p0 p1 = some r) : WrI l yX8_swap cX8_swap 3 .int ({ frames := 3, cells := 0, slots := 0, locals := 68 } : Room) D T sz [(a_m, .inr (8, [.ref a_ms, .ref a_mw, .ref a_mv, .ref a_mp, .ref a_mf, .int m_chg, .int m_thr, .int m_rea, .int m_det, .int m_ref, .int m_err, .int m_ans, .int m_sav, .int m_net, .ref a_ml, .int m_lin, .ref a_mt, .ref a_mc, .int m_tap, .int m_her, .int m_cmd])), (a_ms, .inl (T 0, 103, .inl v_ms)), (a_mw, .inl (T 0, 103, .inl v_mw)), (a_mp, .inl (T 0, 618, .inl v_mp))] [(a_m, .inr (8, [.ref a_ms, .ref a_mw, .ref a_mv, .ref a_mp, .ref a_mf, .int r.2.1, .int r.2.2.1, .int r.2.2.2.1, .int r.2.2.2.2.1, .int r.2.2.2.2.2.1, .int m_err, .int m_ans, .int m_sav, .int m_net, .ref a_ml, .int m_lin, .ref a_mt, .ref a_mc, .int m_tap, .int m_her, .int m_cmd])), (a_ms, .inl (T 0, 103, .inl r.2.2.2.2.2.2.1)), (a_mw, .inl (T 0, 103, .inl r.2.2.2.2.2.2.2.1)), (a_mp, .inl (T 0, 618, .inl r.2.2.2.2.2.2.2.2))] [.ref a_m, .int p0, .int p1] r.1 := by
  unfold fX8_swap at h
  refine wrMet (by decide +kernel) rfl (fun p e s m args below meth c Q A C hE hA hP hD hS hret ls hl => ?_)
  have hx := C.1
  have hb := C.2.1
  have hl : lv_has ls 3 [(0, .ref a_m), (1, .int p0), (2, .int p1)] := hl
  refine lv_aload_n hx hb dX8_swap_0 rfl (lv_at hl 0 rfl) ?_
  replace h := bnd h; obtain ⟨q1, e2, h⟩ := h
  refine wrVv (ws1 := [(a_m, .inr (8, [.ref a_ms, .ref a_mw, .ref a_mv, .ref a_mp, .ref a_mf, .int m_chg, .int q1.1, .int m_rea, .int m_det, .int m_ref, .int m_err, .int m_ans, .int m_sav, .int m_net, .ref a_ml, .int m_lin, .ref a_mt, .ref a_mc, .int m_tap, .int m_her, .int m_cmd])), (a_ms, .inl (T 0, 103, .inl v_ms)), (a_mw, .inl (T 0, 103, .inl q1.2)), (a_mp, .inl (T 0, 618, .inl v_mp))]) C hE hP hD hS hA (kX8_keeps l D T a_m a_ms a_mw a_mv a_mp a_mf a_ml a_mt a_mc m_chg m_thr m_rea m_det m_ref m_err m_ans m_sav m_net m_lin m_tap m_her m_cmd v_ms v_mw _ q1 e2) mX8_keeps qLX8_107 [0, 1, 2] [3] 0 rfl rfl rfl rfl rfl rfl rfl rfl rfl ⟨rfl, rfl⟩ ⟨Nat.le_of_ble_eq_true rfl, Nat.le_of_ble_eq_true rfl⟩ rfl hl.1 rfl (Nat.le_of_ble_eq_true rfl) dX8_swap_1 ⟨Nat.le_of_ble_eq_true rfl, Nat.le_of_ble_eq_true rfl⟩ ?_; clear hP hD hS; intro H locs hP hD hS
  refine lv_aload_n hx hb dX8_swap_4 rfl (lv_at hl 0 rfl) ?_
  refine lv_aload_n hx hb dX8_swap_5 rfl (lv_at hl 0 rfl) ?_
  refine lv_iload_n hx hb dX8_swap_6 rfl (lv_at hl 1 rfl) ?_
  refine lv_iload_n hx hb dX8_swap_7 rfl (lv_at hl 2 rfl) ?_
  replace h := bnd h; obtain ⟨q3, e4, h⟩ := h
  refine wrVi (ws1 := [(a_m, .inr (8, [.ref a_ms, .ref a_mw, .ref a_mv, .ref a_mp, .ref a_mf, .int m_chg, .int q3.2.1, .int q3.2.2.1, .int q3.2.2.2.1, .int q3.2.2.2.2.1, .int m_err, .int m_ans, .int m_sav, .int m_net, .ref a_ml, .int m_lin, .ref a_mt, .ref a_mc, .int m_tap, .int m_her, .int m_cmd])), (a_ms, .inl (T 0, 103, .inl q3.2.2.2.2.2)), (a_mw, .inl (T 0, 103, .inl q1.2)), (a_mp, .inl (T 0, 618, .inl v_mp))]) C hE hP hD hS hA (kX8_swaps l D T a_m a_ms a_mw a_mv a_mp a_mf a_ml a_mt a_mc m_chg q1.1 m_rea m_det m_ref m_err m_ans m_sav m_net m_lin m_tap m_her m_cmd v_ms p0 p1 _ q3 e4) mX8_swaps qLX8_133 [0, 1] [2, 3] 0 rfl rfl rfl rfl rfl rfl rfl rfl rfl ⟨rfl, rfl⟩ ⟨Nat.le_of_ble_eq_true rfl, Nat.le_of_ble_eq_true rfl⟩ rfl hl.1 rfl (Nat.le_of_ble_eq_true rfl) dX8_swap_8 ⟨Nat.le_of_ble_eq_true rfl, Nat.le_of_ble_eq_true rfl⟩ ?_; clear hP hD hS; intro H locs hP hD hS
  refine lv_iconst (v := 2) hx hb dX8_swap_11 (by decide) ?_
  replace h := bnd h; obtain ⟨q5, e6, h⟩ := h
  refine wrVi (ws1 := [(a_m, .inr (8, [.ref a_ms, .ref a_mw, .ref a_mv, .ref a_mp, .ref a_mf, .int q5.2.1, .int q5.2.2.1, .int q3.2.2.1, .int q3.2.2.2.1, .int q3.2.2.2.2.1, .int m_err, .int m_ans, .int m_sav, .int m_net, .ref a_ml, .int m_lin, .ref a_mt, .ref a_mc, .int m_tap, .int m_her, .int m_cmd])), (a_ms, .inl (T 0, 103, .inl q3.2.2.2.2.2)), (a_mw, .inl (T 0, 103, .inl q1.2)), (a_mp, .inl (T 0, 618, .inl q5.2.2.2))]) C hE hP hD hS hA (kX8_ends l D T a_m a_ms a_mw a_mv a_mp a_mf a_ml a_mt a_mc m_chg q3.2.1 q3.2.2.1 q3.2.2.2.1 q3.2.2.2.2.1 m_err m_ans m_sav m_net m_lin m_tap m_her m_cmd q1.2 v_mp q3.1 2 _ q5 e6) mX8_ends qLX8_114 [0, 2, 3] [1] 0 rfl rfl rfl rfl rfl rfl rfl rfl rfl ⟨rfl, rfl⟩ ⟨Nat.le_of_ble_eq_true rfl, Nat.le_of_ble_eq_true rfl⟩ rfl hl.1 rfl (Nat.le_of_ble_eq_true rfl) dX8_swap_12 ⟨Nat.le_of_ble_eq_true rfl, Nat.le_of_ble_eq_true rfl⟩ ?_; clear hP hD hS; intro H locs hP hD hS
  replace h := Option.some.inj h
  exact hret _ _ _ _ _ _ dX8_swap_15 rfl (by rw [← h] <;> rfl) (by rw [← h]; exact hP) hS

def fX8_next (p0 : Int32) (p1 : Int32) : Int32 :=
  if p1 = 0 then
    if 9 ≤ p0 then
      (p0 - 9)
    else
      (-1)
  else
    if p1 = 1 then
      if (p0 - p0 / 9 * 9) = 8 then
        (-1)
      else
        (p0 + 1)
    else
      if p1 = 2 then
        if (p0 + 9) < 45 then
          (p0 + 9)
        else
          (-1)
      else
        if (p0 - p0 / 9 * 9) = 0 then
          (-1)
        else
          (p0 - 1)
set_option maxHeartbeats 4000000 in
set_option maxRecDepth 100000 in
theorem kX8_next (l : Launch) (D : va_G) (T : Nat → ClassId) (p0 : Int32) (p1 : Int32) : RdI l yX8_next cX8_next 2 .int ({ frames := 0, cells := 0, slots := 0, locals := 0 } : Room) D T [] [.int p0, .int p1] (fX8_next p0 p1) := by
  obtain ⟨r, h⟩ : ∃ r, fX8_next p0 p1 = r := ⟨_, rfl⟩
  rw [h]
  unfold fX8_next at h
  refine rdMet (by decide +kernel) rfl (fun p e s m args below meth c Q C hE hP hret ls hl => ?_)
  have hx := C.1
  have hb := C.2.1
  have hl : lv_has ls 2 [(0, .int p0), (1, .int p1)] := hl
  refine lv_iload_n hx hb dX8_next_0 rfl (lv_at hl 1 rfl) ?_
  by_cases c1 : p1 = 0
  · replace h := ite_t c1 h
    refine lv_tableIn (tgt := 28) hx hb dX8_next_1 (by rw [c1]; decide) (by rw [c1]; decide) (by rw [c1]; rfl) (by decide) ?_
    refine lv_iload_n hx hb dX8_next_28 rfl (lv_at hl 0 rfl) ?_
    refine lv_bipush (v := 9) hx hb dX8_next_29 (by decide) ?_
    refine lv_icmp_ge (tgt := 38) hx hb dX8_next_31 (by decide) (fun c2 => ?_) (fun c2 => ?_)
    · replace h := ite_t c2 h
      refine lv_iload_n hx hb dX8_next_38 rfl (lv_at hl 0 rfl) ?_
      refine lv_bipush (v := 9) hx hb dX8_next_39 (by decide) ?_
      refine lv_isub hx hb dX8_next_41 ?_
      exact hret _ _ _ _ dX8_next_42 rfl h
    · replace h := ite_f c2 h
      refine lv_iconst (v := (-1)) hx hb dX8_next_34 (by decide) ?_
      refine lv_goto (tgt := 42) hx hb dX8_next_35 (by decide) ?_
      exact hret _ _ _ _ dX8_next_42 rfl h
  · replace h := ite_f c1 h
    by_cases c3 : p1 = 1
    · replace h := ite_t c3 h
      refine lv_tableIn (tgt := 43) hx hb dX8_next_1 (by rw [c3]; decide) (by rw [c3]; decide) (by rw [c3]; rfl) (by decide) ?_
      refine lv_iload_n hx hb dX8_next_43 rfl (lv_at hl 0 rfl) ?_
      refine lv_bipush (v := 9) hx hb dX8_next_44 (by decide) ?_
      refine lv_irem hx hb dX8_next_46 (by decide) ?_
      refine lv_bipush (v := 8) hx hb dX8_next_47 (by decide) ?_
      refine lv_icmp_ne (tgt := 56) hx hb dX8_next_49 (by decide) (fun c4 => ?_) (fun c4 => ?_)
      · replace h := ite_f c4 h
        refine lv_iload_n hx hb dX8_next_56 rfl (lv_at hl 0 rfl) ?_
        refine lv_iconst (v := 1) hx hb dX8_next_57 (by decide) ?_
        refine lv_iadd hx hb dX8_next_58 ?_
        exact hret _ _ _ _ dX8_next_59 rfl h
      · replace h := ite_t c4 h
        refine lv_iconst (v := (-1)) hx hb dX8_next_52 (by decide) ?_
        refine lv_goto (tgt := 59) hx hb dX8_next_53 (by decide) ?_
        exact hret _ _ _ _ dX8_next_59 rfl h
    · replace h := ite_f c3 h
      by_cases c5 : p1 = 2
      · replace h := ite_t c5 h
        refine lv_tableIn (tgt := 60) hx hb dX8_next_1 (by rw [c5]; decide) (by rw [c5]; decide) (by rw [c5]; rfl) (by decide) ?_
        refine lv_iload_n hx hb dX8_next_60 rfl (lv_at hl 0 rfl) ?_
        refine lv_bipush (v := 9) hx hb dX8_next_61 (by decide) ?_
        refine lv_iadd hx hb dX8_next_63 ?_
        refine lv_bipush (v := 45) hx hb dX8_next_64 (by decide) ?_
        refine lv_icmp_lt (tgt := 73) hx hb dX8_next_66 (by decide) (fun c6 => ?_) (fun c6 => ?_)
        · replace h := ite_t c6 h
          refine lv_iload_n hx hb dX8_next_73 rfl (lv_at hl 0 rfl) ?_
          refine lv_bipush (v := 9) hx hb dX8_next_74 (by decide) ?_
          refine lv_iadd hx hb dX8_next_76 ?_
          exact hret _ _ _ _ dX8_next_77 rfl h
        · replace h := ite_f c6 h
          refine lv_iconst (v := (-1)) hx hb dX8_next_69 (by decide) ?_
          refine lv_goto (tgt := 77) hx hb dX8_next_70 (by decide) ?_
          exact hret _ _ _ _ dX8_next_77 rfl h
      · replace h := ite_f c5 h
        refine lv_tableOut (tgt := 78) hx hb dX8_next_1 (by have t0 := tI 0 rfl c1; have t1 := tI 1 rfl c3; have t2 := tI 2 rfl c5; omega) (by decide) ?_
        refine lv_iload_n hx hb dX8_next_78 rfl (lv_at hl 0 rfl) ?_
        refine lv_bipush (v := 9) hx hb dX8_next_79 (by decide) ?_
        refine lv_irem hx hb dX8_next_81 (by decide) ?_
        refine lv_if_ne (tgt := 89) hx hb dX8_next_82 (by decide) (fun c7 => ?_) (fun c7 => ?_)
        · replace h := ite_f c7 h
          refine lv_iload_n hx hb dX8_next_89 rfl (lv_at hl 0 rfl) ?_
          refine lv_iconst (v := 1) hx hb dX8_next_90 (by decide) ?_
          refine lv_isub hx hb dX8_next_91 ?_
          exact hret _ _ _ _ dX8_next_92 rfl h
        · replace h := ite_t c7 h
          refine lv_iconst (v := (-1)) hx hb dX8_next_85 (by decide) ?_
          refine lv_goto (tgt := 92) hx hb dX8_next_86 (by decide) ?_
          exact hret _ _ _ _ dX8_next_92 rfl h

def fX8_finds_29 (v_ms : Nat → Int32) (rec2 : Int32 → Int32 → (Nat → Int32) → Option ((Nat → Int32))) (x1 : Int32) (x2 : Int32) (l1 : Int32) (l2 : Int32) (v_mf : Nat → Int32) : Option ((Nat → Int32)) :=
  if vin x1 45 = true then
  rec2 l1 (l2 + 1) (upd v_mf x1.toNatClampNeg x2)
  else none
def fX8_finds_140 (v_ms : Nat → Int32) (rec38 : Int32 → (Nat → Int32) → Option ((Nat → Int32))) (rec46 : Int32 → Int32 → (Nat → Int32) → Option ((Nat → Int32))) (l2 : Int32) (l3 : Int32) (v_mf : Nat → Int32) : Option ((Nat → Int32)) :=
  rec46 l2 (l3 + 1) v_mf
def fX8_finds_115 (v_ms : Nat → Int32) (rec38 : Int32 → (Nat → Int32) → Option ((Nat → Int32))) (rec46 : Int32 → Int32 → (Nat → Int32) → Option ((Nat → Int32))) (x0 : Int32) (l2 : Int32) (l3 : Int32) (l4 : Int32) (l5 : Int32) (v_mf : Nat → Int32) : Option ((Nat → Int32)) :=
  if x0 = 0 then
    fX8_finds_140 v_ms rec38 rec46 l2 l3 v_mf
  else
    if vin l4 45 = true then
    if vin l5 45 = true then
    fX8_finds_140 v_ms rec38 rec46 1 l3 (upd v_mf l5.toNatClampNeg ((v_mf l4.toNatClampNeg) + 1))
    else none
    else none
def fX8_finds_46 (v_ms : Nat → Int32) (rec38 : Int32 → (Nat → Int32) → Option ((Nat → Int32))) : Nat → Int32 → Int32 → (Nat → Int32) → Option ((Nat → Int32))
  | 0, _, _, _ => none
  | k + 1, l2, l3, v_mf =>
    if 180 ≤ l3 then
      rec38 l2 v_mf
    else
      if (fX8_next (l3 / 4) (l3 - l3 / 4 * 4)) < 0 then
        fX8_finds_115 v_ms rec38 (fX8_finds_46 v_ms rec38 k) 0 l2 l3 (l3 / 4) (fX8_next (l3 / 4) (l3 - l3 / 4 * 4)) v_mf
      else
        if vin (l3 / 4) 45 = true then
        if vin (fX8_next (l3 / 4) (l3 - l3 / 4 * 4)) 45 = true then
        if (v_mf (fX8_next (l3 / 4) (l3 - l3 / 4 * 4)).toNatClampNeg) ≤ ((v_mf (l3 / 4).toNatClampNeg) + 1) then
          fX8_finds_115 v_ms rec38 (fX8_finds_46 v_ms rec38 k) 0 l2 l3 (l3 / 4) (fX8_next (l3 / 4) (l3 - l3 / 4 * 4)) v_mf
        else
          (fX8_isDryNow v_ms (fX8_next (l3 / 4) (l3 - l3 / 4 * 4))).bind fun q12 =>
          if q12 = 0 then
            (fX8_whaleAt v_ms (fX8_next (l3 / 4) (l3 - l3 / 4 * 4))).bind fun q15 =>
            fX8_finds_115 v_ms rec38 (fX8_finds_46 v_ms rec38 k) (if 0 ≤ q15 then 0 else 1) l2 l3 (l3 / 4) (fX8_next (l3 / 4) (l3 - l3 / 4 * 4)) v_mf
          else
            fX8_finds_115 v_ms rec38 (fX8_finds_46 v_ms rec38 k) 0 l2 l3 (l3 / 4) (fX8_next (l3 / 4) (l3 - l3 / 4 * 4)) v_mf
        else none
        else none
def fX8_finds_38 (v_ms : Nat → Int32) : Nat → Int32 → (Nat → Int32) → Option ((Nat → Int32))
  | 0, _, _ => none
  | k + 1, l2, v_mf =>
    if l2 = 0 then
      some v_mf
    else
      fX8_finds_46 v_ms (fX8_finds_38 v_ms k) 256 0 0 v_mf
def fX8_finds_2 (v_ms : Nat → Int32) : Nat → Int32 → Int32 → (Nat → Int32) → Option ((Nat → Int32))
  | 0, _, _, _ => none
  | k + 1, l1, l2, v_mf =>
    if 45 ≤ l2 then
      fX8_finds_38 v_ms 64 1 v_mf
    else
      (fX8_of v_ms l1 4).bind fun q2 =>
      fX8_finds_29 v_ms (fX8_finds_2 v_ms k) l2 (if l2 = q2 then 0 else 99) l1 l2 v_mf
def fX8_finds (v_ms : Nat → Int32) (v_mf : Nat → Int32) (p0 : Int32) : Option ((Nat → Int32)) :=
  fX8_finds_2 v_ms 64 p0 0 v_mf
set_option maxHeartbeats 4000000 in
set_option maxRecDepth 100000 in
theorem lX8_finds_29 {p : Program} {l : Launch} {e : Env} {s : State} {m : MethodId} {args : Array Value} {below : List Frame} {meth : Method} {c : Code} {Q : State → Prop} {D : va_G} {T : Nat → ClassId} {a_m a_ms a_mw a_mv a_mp a_mf a_ml a_mt a_mc : Nat} {m_chg : Int32} {m_thr : Int32} {m_rea : Int32} {m_det : Int32} {m_ref : Int32} {m_err : Int32} {m_ans : Int32} {m_sav : Int32} {m_net : Int32} {m_lin : Int32} {m_tap : Int32} {m_her : Int32} {m_cmd : Int32} {v_ms : Nat → Int32} {A : Nat → Prop} {r : (Nat → Int32)} (C : CallFix p m c cX8_finds 7 s args aw RX8) (hE : eK D T s) (hA : ∀ q : Nat, s.heap.size ≤ q → A q) (hret : WrRetV p l e ({ frames := 4, cells := 0, slots := 0, locals := 84 } : Room) s m args below meth c Q cX8_finds D A [(a_m, .inr (8, [.ref a_ms, .ref a_mw, .ref a_mv, .ref a_mp, .ref a_mf, .int m_chg, .int m_thr, .int m_rea, .int m_det, .int m_ref, .int m_err, .int m_ans, .int m_sav, .int m_net, .ref a_ml, .int m_lin, .ref a_mt, .ref a_mc, .int m_tap, .int m_her, .int m_cmd])), (a_ms, .inl (T 0, 103, .inl v_ms)), (a_mf, .inl (T 0, 45, .inl r))]) {rec2 : Int32 → Int32 → (Nat → Int32) → Option ((Nat → Int32))} (hrec2 : ∀ (l1 : Int32) (l2 : Int32) (v_mf : Nat → Int32) {H : Heap} {locs : List Loc} (hPD : va_PD D A [(a_m, .inr (8, [.ref a_ms, .ref a_mw, .ref a_mv, .ref a_mp, .ref a_mf, .int m_chg, .int m_thr, .int m_rea, .int m_det, .int m_ref, .int m_err, .int m_ans, .int m_sav, .int m_net, .ref a_ml, .int m_lin, .ref a_mt, .ref a_mc, .int m_tap, .int m_her, .int m_cmd])), (a_ms, .inl (T 0, 103, .inl v_ms)), (a_mf, .inl (T 0, 45, .inl v_mf))] H) (hS : va_S A s.heap H locs) (ls : Array Slot) (hl : lv_has ls 7 [(0, .ref a_m), (1, .int l1), (2, .int l2)]) (h : rec2 l1 l2 v_mf = some r), W p l e ({ frames := 4, cells := 0, slots := 0, locals := 84 } : Room) s m args below meth c H locs 0 0 Q (F0 m 2 ls [])) (x1 : Int32) (x2 : Int32) (l1 : Int32) (l2 : Int32) (v_mf : Nat → Int32) {H : Heap} {locs : List Loc} (hPD : va_PD D A [(a_m, .inr (8, [.ref a_ms, .ref a_mw, .ref a_mv, .ref a_mp, .ref a_mf, .int m_chg, .int m_thr, .int m_rea, .int m_det, .int m_ref, .int m_err, .int m_ans, .int m_sav, .int m_net, .ref a_ml, .int m_lin, .ref a_mt, .ref a_mc, .int m_tap, .int m_her, .int m_cmd])), (a_ms, .inl (T 0, 103, .inl v_ms)), (a_mf, .inl (T 0, 45, .inl v_mf))] H) (hS : va_S A s.heap H locs) (ls : Array Slot) (hl : lv_has ls 7 [(0, .ref a_m), (1, .int l1), (2, .int l2)]) (h : fX8_finds_29 v_ms rec2 x1 x2 l1 l2 v_mf = some r) : W p l e ({ frames := 4, cells := 0, slots := 0, locals := 84 } : Room) s m args below meth c H locs 0 0 Q (F0 m 29 ls [.int x2, .int x1, .ref a_mf]) := by
  have hx := C.1
  have hb := C.2.1
  obtain ⟨hP, hD⟩ := hPD
  unfold fX8_finds_29 at h
  replace h := gd h; obtain ⟨g5, h⟩ := h
  refine astI (q0 := 2) (ws1 := [(a_m, .inr (8, [.ref a_ms, .ref a_mw, .ref a_mv, .ref a_mp, .ref a_mf, .int m_chg, .int m_thr, .int m_rea, .int m_det, .int m_ref, .int m_err, .int m_ans, .int m_sav, .int m_net, .ref a_ml, .int m_lin, .ref a_mt, .ref a_mc, .int m_tap, .int m_her, .int m_cmd])), (a_ms, .inl (T 0, 103, .inl v_ms)), (a_mf, .inl (T 0, 45, .inl (upd v_mf x1.toNatClampNeg x2)))]) C hE hP hD hS rfl g5 rfl dX8_finds_29 ?_; clear hP hD hS; intro H locs hP hD hS
  refine lv_iinc (v := (l2 + 1)) (lv' := [(2, .int (l2 + 1)), (0, .ref a_m), (1, .int l1)]) hx hb dX8_finds_30 hl (k := 2) rfl rfl (by decide) rfl (fun ls hl => ?_)
  refine lv_goto (tgt := 2) hx hb dX8_finds_33 (by decide) ?_
  exact hrec2 l1 (l2 + 1) (upd v_mf x1.toNatClampNeg x2) ⟨hP, hD⟩ hS _ (lv_sub hl [1, 2, 0] rfl) h
set_option maxHeartbeats 4000000 in
set_option maxRecDepth 100000 in
theorem lX8_finds_140 {p : Program} {l : Launch} {e : Env} {s : State} {m : MethodId} {args : Array Value} {below : List Frame} {meth : Method} {c : Code} {Q : State → Prop} {D : va_G} {T : Nat → ClassId} {a_m a_ms a_mw a_mv a_mp a_mf a_ml a_mt a_mc : Nat} {m_chg : Int32} {m_thr : Int32} {m_rea : Int32} {m_det : Int32} {m_ref : Int32} {m_err : Int32} {m_ans : Int32} {m_sav : Int32} {m_net : Int32} {m_lin : Int32} {m_tap : Int32} {m_her : Int32} {m_cmd : Int32} {v_ms : Nat → Int32} {A : Nat → Prop} {r : (Nat → Int32)} (C : CallFix p m c cX8_finds 7 s args aw RX8) (hE : eK D T s) (hA : ∀ q : Nat, s.heap.size ≤ q → A q) (hret : WrRetV p l e ({ frames := 4, cells := 0, slots := 0, locals := 84 } : Room) s m args below meth c Q cX8_finds D A [(a_m, .inr (8, [.ref a_ms, .ref a_mw, .ref a_mv, .ref a_mp, .ref a_mf, .int m_chg, .int m_thr, .int m_rea, .int m_det, .int m_ref, .int m_err, .int m_ans, .int m_sav, .int m_net, .ref a_ml, .int m_lin, .ref a_mt, .ref a_mc, .int m_tap, .int m_her, .int m_cmd])), (a_ms, .inl (T 0, 103, .inl v_ms)), (a_mf, .inl (T 0, 45, .inl r))]) {rec38 : Int32 → (Nat → Int32) → Option ((Nat → Int32))} (hrec38 : ∀ (l2 : Int32) (v_mf : Nat → Int32) {H : Heap} {locs : List Loc} (hPD : va_PD D A [(a_m, .inr (8, [.ref a_ms, .ref a_mw, .ref a_mv, .ref a_mp, .ref a_mf, .int m_chg, .int m_thr, .int m_rea, .int m_det, .int m_ref, .int m_err, .int m_ans, .int m_sav, .int m_net, .ref a_ml, .int m_lin, .ref a_mt, .ref a_mc, .int m_tap, .int m_her, .int m_cmd])), (a_ms, .inl (T 0, 103, .inl v_ms)), (a_mf, .inl (T 0, 45, .inl v_mf))] H) (hS : va_S A s.heap H locs) (ls : Array Slot) (hl : lv_has ls 7 [(0, .ref a_m), (2, .int l2)]) (h : rec38 l2 v_mf = some r), W p l e ({ frames := 4, cells := 0, slots := 0, locals := 84 } : Room) s m args below meth c H locs 0 0 Q (F0 m 38 ls [])) {rec46 : Int32 → Int32 → (Nat → Int32) → Option ((Nat → Int32))} (hrec46 : ∀ (l2 : Int32) (l3 : Int32) (v_mf : Nat → Int32) {H : Heap} {locs : List Loc} (hPD : va_PD D A [(a_m, .inr (8, [.ref a_ms, .ref a_mw, .ref a_mv, .ref a_mp, .ref a_mf, .int m_chg, .int m_thr, .int m_rea, .int m_det, .int m_ref, .int m_err, .int m_ans, .int m_sav, .int m_net, .ref a_ml, .int m_lin, .ref a_mt, .ref a_mc, .int m_tap, .int m_her, .int m_cmd])), (a_ms, .inl (T 0, 103, .inl v_ms)), (a_mf, .inl (T 0, 45, .inl v_mf))] H) (hS : va_S A s.heap H locs) (ls : Array Slot) (hl : lv_has ls 7 [(0, .ref a_m), (2, .int l2), (3, .int l3)]) (h : rec46 l2 l3 v_mf = some r), W p l e ({ frames := 4, cells := 0, slots := 0, locals := 84 } : Room) s m args below meth c H locs 0 0 Q (F0 m 46 ls [])) (l2 : Int32) (l3 : Int32) (v_mf : Nat → Int32) {H : Heap} {locs : List Loc} (hPD : va_PD D A [(a_m, .inr (8, [.ref a_ms, .ref a_mw, .ref a_mv, .ref a_mp, .ref a_mf, .int m_chg, .int m_thr, .int m_rea, .int m_det, .int m_ref, .int m_err, .int m_ans, .int m_sav, .int m_net, .ref a_ml, .int m_lin, .ref a_mt, .ref a_mc, .int m_tap, .int m_her, .int m_cmd])), (a_ms, .inl (T 0, 103, .inl v_ms)), (a_mf, .inl (T 0, 45, .inl v_mf))] H) (hS : va_S A s.heap H locs) (ls : Array Slot) (hl : lv_has ls 7 [(0, .ref a_m), (2, .int l2), (3, .int l3)]) (h : fX8_finds_140 v_ms rec38 rec46 l2 l3 v_mf = some r) : W p l e ({ frames := 4, cells := 0, slots := 0, locals := 84 } : Room) s m args below meth c H locs 0 0 Q (F0 m 140 ls []) := by
  have hx := C.1
  have hb := C.2.1
  obtain ⟨hP, hD⟩ := hPD
  unfold fX8_finds_140 at h
  refine lv_iinc (v := (l3 + 1)) (lv' := [(3, .int (l3 + 1)), (0, .ref a_m), (2, .int l2)]) hx hb dX8_finds_140 hl (k := 2) rfl rfl (by decide) rfl (fun ls hl => ?_)
  refine lv_goto (tgt := 46) hx hb dX8_finds_143 (by decide) ?_
  exact hrec46 l2 (l3 + 1) v_mf ⟨hP, hD⟩ hS _ (lv_sub hl [1, 2, 0] rfl) h
set_option maxHeartbeats 4000000 in
set_option maxRecDepth 100000 in
theorem lX8_finds_115 {p : Program} {l : Launch} {e : Env} {s : State} {m : MethodId} {args : Array Value} {below : List Frame} {meth : Method} {c : Code} {Q : State → Prop} {D : va_G} {T : Nat → ClassId} {a_m a_ms a_mw a_mv a_mp a_mf a_ml a_mt a_mc : Nat} {m_chg : Int32} {m_thr : Int32} {m_rea : Int32} {m_det : Int32} {m_ref : Int32} {m_err : Int32} {m_ans : Int32} {m_sav : Int32} {m_net : Int32} {m_lin : Int32} {m_tap : Int32} {m_her : Int32} {m_cmd : Int32} {v_ms : Nat → Int32} {A : Nat → Prop} {r : (Nat → Int32)} (C : CallFix p m c cX8_finds 7 s args aw RX8) (hE : eK D T s) (hA : ∀ q : Nat, s.heap.size ≤ q → A q) (hret : WrRetV p l e ({ frames := 4, cells := 0, slots := 0, locals := 84 } : Room) s m args below meth c Q cX8_finds D A [(a_m, .inr (8, [.ref a_ms, .ref a_mw, .ref a_mv, .ref a_mp, .ref a_mf, .int m_chg, .int m_thr, .int m_rea, .int m_det, .int m_ref, .int m_err, .int m_ans, .int m_sav, .int m_net, .ref a_ml, .int m_lin, .ref a_mt, .ref a_mc, .int m_tap, .int m_her, .int m_cmd])), (a_ms, .inl (T 0, 103, .inl v_ms)), (a_mf, .inl (T 0, 45, .inl r))]) {rec38 : Int32 → (Nat → Int32) → Option ((Nat → Int32))} (hrec38 : ∀ (l2 : Int32) (v_mf : Nat → Int32) {H : Heap} {locs : List Loc} (hPD : va_PD D A [(a_m, .inr (8, [.ref a_ms, .ref a_mw, .ref a_mv, .ref a_mp, .ref a_mf, .int m_chg, .int m_thr, .int m_rea, .int m_det, .int m_ref, .int m_err, .int m_ans, .int m_sav, .int m_net, .ref a_ml, .int m_lin, .ref a_mt, .ref a_mc, .int m_tap, .int m_her, .int m_cmd])), (a_ms, .inl (T 0, 103, .inl v_ms)), (a_mf, .inl (T 0, 45, .inl v_mf))] H) (hS : va_S A s.heap H locs) (ls : Array Slot) (hl : lv_has ls 7 [(0, .ref a_m), (2, .int l2)]) (h : rec38 l2 v_mf = some r), W p l e ({ frames := 4, cells := 0, slots := 0, locals := 84 } : Room) s m args below meth c H locs 0 0 Q (F0 m 38 ls [])) {rec46 : Int32 → Int32 → (Nat → Int32) → Option ((Nat → Int32))} (hrec46 : ∀ (l2 : Int32) (l3 : Int32) (v_mf : Nat → Int32) {H : Heap} {locs : List Loc} (hPD : va_PD D A [(a_m, .inr (8, [.ref a_ms, .ref a_mw, .ref a_mv, .ref a_mp, .ref a_mf, .int m_chg, .int m_thr, .int m_rea, .int m_det, .int m_ref, .int m_err, .int m_ans, .int m_sav, .int m_net, .ref a_ml, .int m_lin, .ref a_mt, .ref a_mc, .int m_tap, .int m_her, .int m_cmd])), (a_ms, .inl (T 0, 103, .inl v_ms)), (a_mf, .inl (T 0, 45, .inl v_mf))] H) (hS : va_S A s.heap H locs) (ls : Array Slot) (hl : lv_has ls 7 [(0, .ref a_m), (2, .int l2), (3, .int l3)]) (h : rec46 l2 l3 v_mf = some r), W p l e ({ frames := 4, cells := 0, slots := 0, locals := 84 } : Room) s m args below meth c H locs 0 0 Q (F0 m 46 ls [])) (x0 : Int32) (l2 : Int32) (l3 : Int32) (l4 : Int32) (l5 : Int32) (v_mf : Nat → Int32) {H : Heap} {locs : List Loc} (hPD : va_PD D A [(a_m, .inr (8, [.ref a_ms, .ref a_mw, .ref a_mv, .ref a_mp, .ref a_mf, .int m_chg, .int m_thr, .int m_rea, .int m_det, .int m_ref, .int m_err, .int m_ans, .int m_sav, .int m_net, .ref a_ml, .int m_lin, .ref a_mt, .ref a_mc, .int m_tap, .int m_her, .int m_cmd])), (a_ms, .inl (T 0, 103, .inl v_ms)), (a_mf, .inl (T 0, 45, .inl v_mf))] H) (hS : va_S A s.heap H locs) (ls : Array Slot) (hl : lv_has ls 7 [(0, .ref a_m), (2, .int l2), (3, .int l3), (4, .int l4), (5, .int l5)]) (h : fX8_finds_115 v_ms rec38 rec46 x0 l2 l3 l4 l5 v_mf = some r) : W p l e ({ frames := 4, cells := 0, slots := 0, locals := 84 } : Room) s m args below meth c H locs 0 0 Q (F0 m 115 ls [.int x0]) := by
  have hx := C.1
  have hb := C.2.1
  obtain ⟨hP, hD⟩ := hPD
  unfold fX8_finds_115 at h
  refine lv_istore (lv' := [(6, .int x0), (0, .ref a_m), (2, .int l2), (3, .int l3), (4, .int l4), (5, .int l5)]) hx hb dX8_finds_115 hl (by decide) rfl (fun ls hl => ?_)
  refine lv_iload hx hb dX8_finds_117 (lv_at hl 0 rfl) ?_
  refine lv_if_eq (tgt := 140) hx hb dX8_finds_119 (by decide) (fun c18 => ?_) (fun c18 => ?_)
  · replace h := ite_t c18 h
    exact lX8_finds_140 C hE hA hret hrec38 hrec46 l2 l3 v_mf ⟨hP, hD⟩ hS _ (lv_sub hl [1, 2, 3] rfl) h
  · replace h := ite_f c18 h
    refine lv_aload_n hx hb dX8_finds_122 rfl (lv_at hl 1 rfl) ?_
    refine getF (q0 := 0) (k0 := 4) (v := .ref a_mf) C hE hP inA8 rfl rfl (by decide) qFX8_22 rfl rfl dX8_finds_123 ?_
    refine lv_iload hx hb dX8_finds_126 (lv_at hl 5 rfl) ?_
    refine lv_aload_n hx hb dX8_finds_128 rfl (lv_at hl 1 rfl) ?_
    refine getF (q0 := 0) (k0 := 4) (v := .ref a_mf) C hE hP inA8 rfl rfl (by decide) qFX8_22 rfl rfl dX8_finds_129 ?_
    refine lv_iload hx hb dX8_finds_132 (lv_at hl 4 rfl) ?_
    replace h := gd h; obtain ⟨g19, h⟩ := h
    refine aldI (q0 := 2) C hE hP rfl g19 dX8_finds_134 ?_
    refine lv_iconst (v := 1) hx hb dX8_finds_135 (by decide) ?_
    refine lv_iadd hx hb dX8_finds_136 ?_
    replace h := gd h; obtain ⟨g20, h⟩ := h
    refine astI (q0 := 2) (ws1 := [(a_m, .inr (8, [.ref a_ms, .ref a_mw, .ref a_mv, .ref a_mp, .ref a_mf, .int m_chg, .int m_thr, .int m_rea, .int m_det, .int m_ref, .int m_err, .int m_ans, .int m_sav, .int m_net, .ref a_ml, .int m_lin, .ref a_mt, .ref a_mc, .int m_tap, .int m_her, .int m_cmd])), (a_ms, .inl (T 0, 103, .inl v_ms)), (a_mf, .inl (T 0, 45, .inl (upd v_mf l5.toNatClampNeg ((v_mf l4.toNatClampNeg) + 1))))]) C hE hP hD hS rfl g20 rfl dX8_finds_137 ?_; clear hP hD hS; intro H locs hP hD hS
    refine lv_iconst (v := 1) hx hb dX8_finds_138 (by decide) ?_
    refine lv_istore_n (lv' := [(2, .int 1), (6, .int x0), (0, .ref a_m), (3, .int l3), (4, .int l4), (5, .int l5)]) hx hb dX8_finds_139 rfl hl (by decide) rfl (fun ls hl => ?_)
    exact lX8_finds_140 C hE hA hret hrec38 hrec46 1 l3 (upd v_mf l5.toNatClampNeg ((v_mf l4.toNatClampNeg) + 1)) ⟨hP, hD⟩ hS _ (lv_sub hl [2, 0, 3] rfl) h
set_option maxHeartbeats 4000000 in
set_option maxRecDepth 100000 in
theorem lX8_finds_46 {p : Program} {l : Launch} {e : Env} {s : State} {m : MethodId} {args : Array Value} {below : List Frame} {meth : Method} {c : Code} {Q : State → Prop} {D : va_G} {T : Nat → ClassId} {a_m a_ms a_mw a_mv a_mp a_mf a_ml a_mt a_mc : Nat} {m_chg : Int32} {m_thr : Int32} {m_rea : Int32} {m_det : Int32} {m_ref : Int32} {m_err : Int32} {m_ans : Int32} {m_sav : Int32} {m_net : Int32} {m_lin : Int32} {m_tap : Int32} {m_her : Int32} {m_cmd : Int32} {v_ms : Nat → Int32} {A : Nat → Prop} {r : (Nat → Int32)} (C : CallFix p m c cX8_finds 7 s args aw RX8) (hE : eK D T s) (hA : ∀ q : Nat, s.heap.size ≤ q → A q) (hret : WrRetV p l e ({ frames := 4, cells := 0, slots := 0, locals := 84 } : Room) s m args below meth c Q cX8_finds D A [(a_m, .inr (8, [.ref a_ms, .ref a_mw, .ref a_mv, .ref a_mp, .ref a_mf, .int m_chg, .int m_thr, .int m_rea, .int m_det, .int m_ref, .int m_err, .int m_ans, .int m_sav, .int m_net, .ref a_ml, .int m_lin, .ref a_mt, .ref a_mc, .int m_tap, .int m_her, .int m_cmd])), (a_ms, .inl (T 0, 103, .inl v_ms)), (a_mf, .inl (T 0, 45, .inl r))]) {rec38 : Int32 → (Nat → Int32) → Option ((Nat → Int32))} (hrec38 : ∀ (l2 : Int32) (v_mf : Nat → Int32) {H : Heap} {locs : List Loc} (hPD : va_PD D A [(a_m, .inr (8, [.ref a_ms, .ref a_mw, .ref a_mv, .ref a_mp, .ref a_mf, .int m_chg, .int m_thr, .int m_rea, .int m_det, .int m_ref, .int m_err, .int m_ans, .int m_sav, .int m_net, .ref a_ml, .int m_lin, .ref a_mt, .ref a_mc, .int m_tap, .int m_her, .int m_cmd])), (a_ms, .inl (T 0, 103, .inl v_ms)), (a_mf, .inl (T 0, 45, .inl v_mf))] H) (hS : va_S A s.heap H locs) (ls : Array Slot) (hl : lv_has ls 7 [(0, .ref a_m), (2, .int l2)]) (h : rec38 l2 v_mf = some r), W p l e ({ frames := 4, cells := 0, slots := 0, locals := 84 } : Room) s m args below meth c H locs 0 0 Q (F0 m 38 ls [])) : ∀ (k : Nat) (l2 : Int32) (l3 : Int32) (v_mf : Nat → Int32) {H : Heap} {locs : List Loc} (hPD : va_PD D A [(a_m, .inr (8, [.ref a_ms, .ref a_mw, .ref a_mv, .ref a_mp, .ref a_mf, .int m_chg, .int m_thr, .int m_rea, .int m_det, .int m_ref, .int m_err, .int m_ans, .int m_sav, .int m_net, .ref a_ml, .int m_lin, .ref a_mt, .ref a_mc, .int m_tap, .int m_her, .int m_cmd])), (a_ms, .inl (T 0, 103, .inl v_ms)), (a_mf, .inl (T 0, 45, .inl v_mf))] H) (hS : va_S A s.heap H locs) (ls : Array Slot) (hl : lv_has ls 7 [(0, .ref a_m), (2, .int l2), (3, .int l3)]) (h : fX8_finds_46 v_ms rec38 k l2 l3 v_mf = some r), W p l e ({ frames := 4, cells := 0, slots := 0, locals := 84 } : Room) s m args below meth c H locs 0 0 Q (F0 m 46 ls []) := by
  have hx := C.1
  have hb := C.2.1
  intro k
  induction k with
  | zero =>
    intro l2 l3 v_mf H locs hPD hS ls hl h
    exact nomatch (show (none : Option ((Nat → Int32))) = some r from h)
  | succ k ih =>
    intro l2 l3 v_mf H locs hPD hS ls hl h
    obtain ⟨hP, hD⟩ := hPD
    rw [fX8_finds_46] at h
    refine lv_iload_n hx hb dX8_finds_46 rfl (lv_at hl 2 rfl) ?_
    refine lv_sipush (v := 180) hx hb dX8_finds_47 (by decide) ?_
    refine lv_icmp_ge (tgt := 146) hx hb dX8_finds_50 (by decide) (fun c7 => ?_) (fun c7 => ?_)
    · replace h := ite_t c7 h
      refine lv_goto (tgt := 38) hx hb dX8_finds_146 (by decide) ?_
      exact hrec38 l2 v_mf ⟨hP, hD⟩ hS _ (lv_sub hl [0, 1] rfl) h
    · replace h := ite_f c7 h
      refine lv_iload_n hx hb dX8_finds_53 rfl (lv_at hl 2 rfl) ?_
      refine lv_iconst (v := 4) hx hb dX8_finds_54 (by decide) ?_
      refine lv_idiv hx hb dX8_finds_55 (by decide) ?_
      refine lv_istore (lv' := [(4, .int (l3 / 4)), (0, .ref a_m), (2, .int l2), (3, .int l3)]) hx hb dX8_finds_56 hl (by decide) rfl (fun ls hl => ?_)
      refine lv_iload hx hb dX8_finds_58 (lv_at hl 0 rfl) ?_
      refine lv_iload_n hx hb dX8_finds_60 rfl (lv_at hl 3 rfl) ?_
      refine lv_iconst (v := 4) hx hb dX8_finds_61 (by decide) ?_
      refine lv_irem hx hb dX8_finds_62 (by decide) ?_
      refine rdS C hE hP (kX8_next l D T (l3 / 4) (l3 - l3 / 4 * 4)) mX8_next qLX8_136 [] rfl ⟨rfl, rfl⟩ ⟨Nat.le_of_ble_eq_true rfl, Nat.le_of_ble_eq_true rfl⟩ rfl hl.1 rfl (Nat.le_of_ble_eq_true rfl) dX8_finds_63 ⟨Nat.le_of_ble_eq_true rfl, Nat.le_of_ble_eq_true rfl⟩ ?_
      refine lv_istore (lv' := [(5, .int (fX8_next (l3 / 4) (l3 - l3 / 4 * 4))), (4, .int (l3 / 4)), (0, .ref a_m), (2, .int l2), (3, .int l3)]) hx hb dX8_finds_66 hl (by decide) rfl (fun ls hl => ?_)
      refine lv_iload hx hb dX8_finds_68 (lv_at hl 0 rfl) ?_
      refine lv_if_lt (tgt := 114) hx hb dX8_finds_70 (by decide) (fun c8 => ?_) (fun c8 => ?_)
      · replace h := ite_t c8 h
        refine lv_iconst (v := 0) hx hb dX8_finds_114 (by decide) ?_
        exact lX8_finds_115 C hE hA hret hrec38 ih 0 l2 l3 (l3 / 4) (fX8_next (l3 / 4) (l3 - l3 / 4 * 4)) v_mf ⟨hP, hD⟩ hS _ (lv_sub hl [2, 3, 4, 1, 0] rfl) h
      · replace h := ite_f c8 h
        refine lv_aload_n hx hb dX8_finds_73 rfl (lv_at hl 2 rfl) ?_
        refine getF (q0 := 0) (k0 := 4) (v := .ref a_mf) C hE hP inA8 rfl rfl (by decide) qFX8_22 rfl rfl dX8_finds_74 ?_
        refine lv_iload hx hb dX8_finds_77 (lv_at hl 1 rfl) ?_
        replace h := gd h; obtain ⟨g9, h⟩ := h
        refine aldI (q0 := 2) C hE hP rfl g9 dX8_finds_79 ?_
        refine lv_iconst (v := 1) hx hb dX8_finds_80 (by decide) ?_
        refine lv_iadd hx hb dX8_finds_81 ?_
        refine lv_aload_n hx hb dX8_finds_82 rfl (lv_at hl 2 rfl) ?_
        refine getF (q0 := 0) (k0 := 4) (v := .ref a_mf) C hE hP inA8 rfl rfl (by decide) qFX8_22 rfl rfl dX8_finds_83 ?_
        refine lv_iload hx hb dX8_finds_86 (lv_at hl 0 rfl) ?_
        replace h := gd h; obtain ⟨g10, h⟩ := h
        refine aldI (q0 := 2) C hE hP rfl g10 dX8_finds_88 ?_
        refine lv_icmp_ge (tgt := 114) hx hb dX8_finds_89 (by decide) (fun c11 => ?_) (fun c11 => ?_)
        · replace h := ite_t c11 h
          refine lv_iconst (v := 0) hx hb dX8_finds_114 (by decide) ?_
          exact lX8_finds_115 C hE hA hret hrec38 ih 0 l2 l3 (l3 / 4) (fX8_next (l3 / 4) (l3 - l3 / 4 * 4)) v_mf ⟨hP, hD⟩ hS _ (lv_sub hl [2, 3, 4, 1, 0] rfl) h
        · replace h := ite_f c11 h
          refine lv_aload_n hx hb dX8_finds_92 rfl (lv_at hl 2 rfl) ?_
          refine lv_iload hx hb dX8_finds_93 (lv_at hl 0 rfl) ?_
          replace h := bnd h; obtain ⟨q12, e13, h⟩ := h
          refine rdV C hE hP (kX8_isDryNow l D T a_m a_ms a_mw a_mv a_mp a_mf a_ml a_mt a_mc m_chg m_thr m_rea m_det m_ref m_err m_ans m_sav m_net m_lin m_tap m_her m_cmd v_ms (fX8_next (l3 / 4) (l3 - l3 / 4 * 4)) q12 e13) mX8_isDryNow qLX8_84 [0, 1] 0 rfl rfl rfl rfl ⟨rfl, rfl⟩ ⟨Nat.le_of_ble_eq_true rfl, Nat.le_of_ble_eq_true rfl⟩ rfl hl.1 rfl (Nat.le_of_ble_eq_true rfl) dX8_finds_95 ⟨Nat.le_of_ble_eq_true rfl, Nat.le_of_ble_eq_true rfl⟩ ?_
          refine lv_if_ne (tgt := 114) hx hb dX8_finds_98 (by decide) (fun c14 => ?_) (fun c14 => ?_)
          · replace h := ite_f c14 h
            refine lv_iconst (v := 0) hx hb dX8_finds_114 (by decide) ?_
            exact lX8_finds_115 C hE hA hret hrec38 ih 0 l2 l3 (l3 / 4) (fX8_next (l3 / 4) (l3 - l3 / 4 * 4)) v_mf ⟨hP, hD⟩ hS _ (lv_sub hl [2, 3, 4, 1, 0] rfl) h
          · replace h := ite_t c14 h
            refine lv_aload_n hx hb dX8_finds_101 rfl (lv_at hl 2 rfl) ?_
            refine lv_iload hx hb dX8_finds_102 (lv_at hl 0 rfl) ?_
            replace h := bnd h; obtain ⟨q15, e16, h⟩ := h
            refine rdV C hE hP (kX8_whaleAt l D T a_m a_ms a_mw a_mv a_mp a_mf a_ml a_mt a_mc m_chg m_thr m_rea m_det m_ref m_err m_ans m_sav m_net m_lin m_tap m_her m_cmd v_ms (fX8_next (l3 / 4) (l3 - l3 / 4 * 4)) q15 e16) mX8_whaleAt qLX8_93 [0, 1] 0 rfl rfl rfl rfl ⟨rfl, rfl⟩ ⟨Nat.le_of_ble_eq_true rfl, Nat.le_of_ble_eq_true rfl⟩ rfl hl.1 rfl (Nat.le_of_ble_eq_true rfl) dX8_finds_104 ⟨Nat.le_of_ble_eq_true rfl, Nat.le_of_ble_eq_true rfl⟩ ?_
            refine lv_if_ge (tgt := 114) hx hb dX8_finds_107 (by decide) (fun c17 => ?_) (fun c17 => ?_)
            · rw [if_pos c17] at h
              refine lv_iconst (v := 0) hx hb dX8_finds_114 (by decide) ?_
              exact lX8_finds_115 C hE hA hret hrec38 ih 0 l2 l3 (l3 / 4) (fX8_next (l3 / 4) (l3 - l3 / 4 * 4)) v_mf ⟨hP, hD⟩ hS _ (lv_sub hl [2, 3, 4, 1, 0] rfl) h
            · rw [if_neg c17] at h
              refine lv_iconst (v := 1) hx hb dX8_finds_110 (by decide) ?_
              refine lv_goto (tgt := 115) hx hb dX8_finds_111 (by decide) ?_
              exact lX8_finds_115 C hE hA hret hrec38 ih 1 l2 l3 (l3 / 4) (fX8_next (l3 / 4) (l3 - l3 / 4 * 4)) v_mf ⟨hP, hD⟩ hS _ (lv_sub hl [2, 3, 4, 1, 0] rfl) h
set_option maxHeartbeats 4000000 in
set_option maxRecDepth 100000 in
theorem lX8_finds_38 {p : Program} {l : Launch} {e : Env} {s : State} {m : MethodId} {args : Array Value} {below : List Frame} {meth : Method} {c : Code} {Q : State → Prop} {D : va_G} {T : Nat → ClassId} {a_m a_ms a_mw a_mv a_mp a_mf a_ml a_mt a_mc : Nat} {m_chg : Int32} {m_thr : Int32} {m_rea : Int32} {m_det : Int32} {m_ref : Int32} {m_err : Int32} {m_ans : Int32} {m_sav : Int32} {m_net : Int32} {m_lin : Int32} {m_tap : Int32} {m_her : Int32} {m_cmd : Int32} {v_ms : Nat → Int32} {A : Nat → Prop} {r : (Nat → Int32)} (C : CallFix p m c cX8_finds 7 s args aw RX8) (hE : eK D T s) (hA : ∀ q : Nat, s.heap.size ≤ q → A q) (hret : WrRetV p l e ({ frames := 4, cells := 0, slots := 0, locals := 84 } : Room) s m args below meth c Q cX8_finds D A [(a_m, .inr (8, [.ref a_ms, .ref a_mw, .ref a_mv, .ref a_mp, .ref a_mf, .int m_chg, .int m_thr, .int m_rea, .int m_det, .int m_ref, .int m_err, .int m_ans, .int m_sav, .int m_net, .ref a_ml, .int m_lin, .ref a_mt, .ref a_mc, .int m_tap, .int m_her, .int m_cmd])), (a_ms, .inl (T 0, 103, .inl v_ms)), (a_mf, .inl (T 0, 45, .inl r))]) : ∀ (k : Nat) (l2 : Int32) (v_mf : Nat → Int32) {H : Heap} {locs : List Loc} (hPD : va_PD D A [(a_m, .inr (8, [.ref a_ms, .ref a_mw, .ref a_mv, .ref a_mp, .ref a_mf, .int m_chg, .int m_thr, .int m_rea, .int m_det, .int m_ref, .int m_err, .int m_ans, .int m_sav, .int m_net, .ref a_ml, .int m_lin, .ref a_mt, .ref a_mc, .int m_tap, .int m_her, .int m_cmd])), (a_ms, .inl (T 0, 103, .inl v_ms)), (a_mf, .inl (T 0, 45, .inl v_mf))] H) (hS : va_S A s.heap H locs) (ls : Array Slot) (hl : lv_has ls 7 [(0, .ref a_m), (2, .int l2)]) (h : fX8_finds_38 v_ms k l2 v_mf = some r), W p l e ({ frames := 4, cells := 0, slots := 0, locals := 84 } : Room) s m args below meth c H locs 0 0 Q (F0 m 38 ls []) := by
  have hx := C.1
  have hb := C.2.1
  intro k
  induction k with
  | zero =>
    intro l2 v_mf H locs hPD hS ls hl h
    exact nomatch (show (none : Option ((Nat → Int32))) = some r from h)
  | succ k ih =>
    intro l2 v_mf H locs hPD hS ls hl h
    obtain ⟨hP, hD⟩ := hPD
    rw [fX8_finds_38] at h
    refine lv_iload_n hx hb dX8_finds_38 rfl (lv_at hl 1 rfl) ?_
    refine lv_if_eq (tgt := 149) hx hb dX8_finds_39 (by decide) (fun c6 => ?_) (fun c6 => ?_)
    · replace h := ite_t c6 h
      replace h := Option.some.inj h
      exact hret _ _ _ _ dX8_finds_149 (by rw [← h]; exact hP) hS
    · replace h := ite_f c6 h
      refine lv_iconst (v := 0) hx hb dX8_finds_42 (by decide) ?_
      refine lv_istore_n (lv' := [(2, .int 0), (0, .ref a_m)]) hx hb dX8_finds_43 rfl hl (by decide) rfl (fun ls hl => ?_)
      refine lv_iconst (v := 0) hx hb dX8_finds_44 (by decide) ?_
      refine lv_istore_n (lv' := [(3, .int 0), (2, .int 0), (0, .ref a_m)]) hx hb dX8_finds_45 rfl hl (by decide) rfl (fun ls hl => ?_)
      exact lX8_finds_46 C hE hA hret ih 256 0 0 v_mf ⟨hP, hD⟩ hS _ (lv_sub hl [2, 1, 0] rfl) h
set_option maxHeartbeats 4000000 in
set_option maxRecDepth 100000 in
theorem lX8_finds_2 {p : Program} {l : Launch} {e : Env} {s : State} {m : MethodId} {args : Array Value} {below : List Frame} {meth : Method} {c : Code} {Q : State → Prop} {D : va_G} {T : Nat → ClassId} {a_m a_ms a_mw a_mv a_mp a_mf a_ml a_mt a_mc : Nat} {m_chg : Int32} {m_thr : Int32} {m_rea : Int32} {m_det : Int32} {m_ref : Int32} {m_err : Int32} {m_ans : Int32} {m_sav : Int32} {m_net : Int32} {m_lin : Int32} {m_tap : Int32} {m_her : Int32} {m_cmd : Int32} {v_ms : Nat → Int32} {A : Nat → Prop} {r : (Nat → Int32)} (C : CallFix p m c cX8_finds 7 s args aw RX8) (hE : eK D T s) (hA : ∀ q : Nat, s.heap.size ≤ q → A q) (hret : WrRetV p l e ({ frames := 4, cells := 0, slots := 0, locals := 84 } : Room) s m args below meth c Q cX8_finds D A [(a_m, .inr (8, [.ref a_ms, .ref a_mw, .ref a_mv, .ref a_mp, .ref a_mf, .int m_chg, .int m_thr, .int m_rea, .int m_det, .int m_ref, .int m_err, .int m_ans, .int m_sav, .int m_net, .ref a_ml, .int m_lin, .ref a_mt, .ref a_mc, .int m_tap, .int m_her, .int m_cmd])), (a_ms, .inl (T 0, 103, .inl v_ms)), (a_mf, .inl (T 0, 45, .inl r))]) : ∀ (k : Nat) (l1 : Int32) (l2 : Int32) (v_mf : Nat → Int32) {H : Heap} {locs : List Loc} (hPD : va_PD D A [(a_m, .inr (8, [.ref a_ms, .ref a_mw, .ref a_mv, .ref a_mp, .ref a_mf, .int m_chg, .int m_thr, .int m_rea, .int m_det, .int m_ref, .int m_err, .int m_ans, .int m_sav, .int m_net, .ref a_ml, .int m_lin, .ref a_mt, .ref a_mc, .int m_tap, .int m_her, .int m_cmd])), (a_ms, .inl (T 0, 103, .inl v_ms)), (a_mf, .inl (T 0, 45, .inl v_mf))] H) (hS : va_S A s.heap H locs) (ls : Array Slot) (hl : lv_has ls 7 [(0, .ref a_m), (1, .int l1), (2, .int l2)]) (h : fX8_finds_2 v_ms k l1 l2 v_mf = some r), W p l e ({ frames := 4, cells := 0, slots := 0, locals := 84 } : Room) s m args below meth c H locs 0 0 Q (F0 m 2 ls []) := by
  have hx := C.1
  have hb := C.2.1
  intro k
  induction k with
  | zero =>
    intro l1 l2 v_mf H locs hPD hS ls hl h
    exact nomatch (show (none : Option ((Nat → Int32))) = some r from h)
  | succ k ih =>
    intro l1 l2 v_mf H locs hPD hS ls hl h
    obtain ⟨hP, hD⟩ := hPD
    rw [fX8_finds_2] at h
    refine lv_iload_n hx hb dX8_finds_2 rfl (lv_at hl 2 rfl) ?_
    refine lv_bipush (v := 45) hx hb dX8_finds_3 (by decide) ?_
    refine lv_icmp_ge (tgt := 36) hx hb dX8_finds_5 (by decide) (fun c1 => ?_) (fun c1 => ?_)
    · replace h := ite_t c1 h
      refine lv_iconst (v := 1) hx hb dX8_finds_36 (by decide) ?_
      refine lv_istore_n (lv' := [(2, .int 1), (0, .ref a_m), (1, .int l1)]) hx hb dX8_finds_37 rfl hl (by decide) rfl (fun ls hl => ?_)
      exact lX8_finds_38 C hE hA hret 64 1 v_mf ⟨hP, hD⟩ hS _ (lv_sub hl [1, 0] rfl) h
    · replace h := ite_f c1 h
      refine lv_aload_n hx hb dX8_finds_8 rfl (lv_at hl 0 rfl) ?_
      refine getF (q0 := 0) (k0 := 4) (v := .ref a_mf) C hE hP inA8 rfl rfl (by decide) qFX8_22 rfl rfl dX8_finds_9 ?_
      refine lv_iload_n hx hb dX8_finds_12 rfl (lv_at hl 2 rfl) ?_
      refine lv_iload_n hx hb dX8_finds_13 rfl (lv_at hl 2 rfl) ?_
      refine lv_aload_n hx hb dX8_finds_14 rfl (lv_at hl 0 rfl) ?_
      refine lv_iload_n hx hb dX8_finds_15 rfl (lv_at hl 1 rfl) ?_
      refine lv_iconst (v := 4) hx hb dX8_finds_16 (by decide) ?_
      replace h := bnd h; obtain ⟨q2, e3, h⟩ := h
      refine rdV C hE hP (kX8_of l D T a_m a_ms a_mw a_mv a_mp a_mf a_ml a_mt a_mc m_chg m_thr m_rea m_det m_ref m_err m_ans m_sav m_net m_lin m_tap m_her m_cmd v_ms l1 4 q2 e3) mX8_of qLX8_90 [0, 1] 0 rfl rfl rfl rfl ⟨rfl, rfl⟩ ⟨Nat.le_of_ble_eq_true rfl, Nat.le_of_ble_eq_true rfl⟩ rfl hl.1 rfl (Nat.le_of_ble_eq_true rfl) dX8_finds_17 ⟨Nat.le_of_ble_eq_true rfl, Nat.le_of_ble_eq_true rfl⟩ ?_
      refine lv_icmp_ne (tgt := 27) hx hb dX8_finds_20 (by decide) (fun c4 => ?_) (fun c4 => ?_)
      · rw [if_neg c4] at h
        refine lv_bipush (v := 99) hx hb dX8_finds_27 (by decide) ?_
        exact lX8_finds_29 C hE hA hret ih l2 99 l1 l2 v_mf ⟨hP, hD⟩ hS _ (lv_sub hl [0, 1, 2] rfl) h
      · rw [if_pos c4] at h
        refine lv_iconst (v := 0) hx hb dX8_finds_23 (by decide) ?_
        refine lv_goto (tgt := 29) hx hb dX8_finds_24 (by decide) ?_
        exact lX8_finds_29 C hE hA hret ih l2 0 l1 l2 v_mf ⟨hP, hD⟩ hS _ (lv_sub hl [0, 1, 2] rfl) h
set_option maxHeartbeats 4000000 in
set_option maxRecDepth 100000 in
theorem kX8_finds (l : Launch) (D : va_G) (T : Nat → ClassId) (a_m a_ms a_mw a_mv a_mp a_mf a_ml a_mt a_mc : Nat) (m_chg : Int32) (m_thr : Int32) (m_rea : Int32) (m_det : Int32) (m_ref : Int32) (m_err : Int32) (m_ans : Int32) (m_sav : Int32) (m_net : Int32) (m_lin : Int32) (m_tap : Int32) (m_her : Int32) (m_cmd : Int32) (v_ms : Nat → Int32) (v_mf : Nat → Int32) (p0 : Int32) (sz : Nat) (r : (Nat → Int32)) (h : fX8_finds v_ms v_mf p0 = some r) : WrV l yX8_finds cX8_finds 7 ({ frames := 4, cells := 0, slots := 0, locals := 84 } : Room) D T sz [(a_m, .inr (8, [.ref a_ms, .ref a_mw, .ref a_mv, .ref a_mp, .ref a_mf, .int m_chg, .int m_thr, .int m_rea, .int m_det, .int m_ref, .int m_err, .int m_ans, .int m_sav, .int m_net, .ref a_ml, .int m_lin, .ref a_mt, .ref a_mc, .int m_tap, .int m_her, .int m_cmd])), (a_ms, .inl (T 0, 103, .inl v_ms)), (a_mf, .inl (T 0, 45, .inl v_mf))] [(a_m, .inr (8, [.ref a_ms, .ref a_mw, .ref a_mv, .ref a_mp, .ref a_mf, .int m_chg, .int m_thr, .int m_rea, .int m_det, .int m_ref, .int m_err, .int m_ans, .int m_sav, .int m_net, .ref a_ml, .int m_lin, .ref a_mt, .ref a_mc, .int m_tap, .int m_her, .int m_cmd])), (a_ms, .inl (T 0, 103, .inl v_ms)), (a_mf, .inl (T 0, 45, .inl r))] [.ref a_m, .int p0] := by
  unfold fX8_finds at h
  refine wrMetV (by decide +kernel) rfl (fun p e s m args below meth c Q A C hE hA hP hD hS hret ls hl => ?_)
  have hx := C.1
  have hb := C.2.1
  have hl : lv_has ls 7 [(0, .ref a_m), (1, .int p0)] := hl
  refine lv_iconst (v := 0) hx hb dX8_finds_0 (by decide) ?_
  refine lv_istore_n (lv' := [(2, .int 0), (0, .ref a_m), (1, .int p0)]) hx hb dX8_finds_1 rfl hl (by decide) rfl (fun ls hl => ?_)
  exact lX8_finds_2 C hE hA hret 64 p0 0 v_mf ⟨hP, hD⟩ hS _ (lv_sub hl [1, 2, 0] rfl) h

def fX8_steps_74 (v_ms : Nat → Int32) (x1 : Int32) (l2 : Int32) (m_thr : Int32) (v_mf : Nat → Int32) : Option (Int32 × Int32 × (Nat → Int32)) :=
  (fX8_isThrown m_thr x1 2).bind fun q18 =>
  if q18.1 = 0 then
    if vin l2 45 = true then
    some ((v_mf l2.toNatClampNeg), q18.2, v_mf)
    else none
  else
    some (0, q18.2, v_mf)
def fX8_steps_43 (v_ms : Nat → Int32) (x1 : Int32) (l1 : Int32) (l2 : Int32) (m_thr : Int32) (v_mf : Nat → Int32) : Option (Int32 × Int32 × (Nat → Int32)) :=
  (fX8_isThrown m_thr x1 2).bind fun q11 =>
  if q11.1 = 0 then
    (fX8_finds v_ms v_mf l1).bind fun q14 =>
    if vin l2 45 = true then
    fX8_steps_74 v_ms (if (q14 l2.toNatClampNeg) = 99 then 1 else 0) l2 q11.2 q14
    else none
  else
    some (0, q11.2, v_mf)
def fX8_steps_21 (v_ms : Nat → Int32) (x1 : Int32) (l1 : Int32) (l2 : Int32) (m_thr : Int32) (v_mf : Nat → Int32) : Option (Int32 × Int32 × (Nat → Int32)) :=
  (fX8_isThrown m_thr x1 1).bind fun q5 =>
  if q5.1 = 0 then
    (fX8_of v_ms l1 4).bind fun q8 =>
    fX8_steps_43 v_ms (if 0 ≤ q8 then 0 else 1) l1 l2 q5.2 v_mf
  else
    some (0, q5.2, v_mf)
def fX8_steps (m_thr : Int32) (v_ms : Nat → Int32) (v_mf : Nat → Int32) (p0 : Int32) (p1 : Int32) : Option (Int32 × Int32 × (Nat → Int32)) :=
  (fX8_isWhale v_ms p0).bind fun q1 =>
  fX8_steps_21 v_ms (if q1 = 0 then 1 else (if (fX8_isCell p1) = 0 then 1 else 0)) p0 p1 m_thr v_mf
set_option maxHeartbeats 4000000 in
set_option maxRecDepth 100000 in
theorem lX8_steps_74 {p : Program} {l : Launch} {e : Env} {s : State} {m : MethodId} {args : Array Value} {below : List Frame} {meth : Method} {c : Code} {Q : State → Prop} {D : va_G} {T : Nat → ClassId} {a_m a_ms a_mw a_mv a_mp a_mf a_ml a_mt a_mc : Nat} {m_chg : Int32} {m_rea : Int32} {m_det : Int32} {m_ref : Int32} {m_err : Int32} {m_ans : Int32} {m_sav : Int32} {m_net : Int32} {m_lin : Int32} {m_tap : Int32} {m_her : Int32} {m_cmd : Int32} {v_ms : Nat → Int32} {A : Nat → Prop} {r : Int32 × Int32 × (Nat → Int32)} (C : CallFix p m c cX8_steps 3 s args aw RX8) (hE : eK D T s) (hA : ∀ q : Nat, s.heap.size ≤ q → A q) (hret : WrRet p l e ({ frames := 5, cells := 0, slots := 0, locals := 110 } : Room) s m args below meth c Q cX8_steps .int D A [(a_m, .inr (8, [.ref a_ms, .ref a_mw, .ref a_mv, .ref a_mp, .ref a_mf, .int m_chg, .int r.2.1, .int m_rea, .int m_det, .int m_ref, .int m_err, .int m_ans, .int m_sav, .int m_net, .ref a_ml, .int m_lin, .ref a_mt, .ref a_mc, .int m_tap, .int m_her, .int m_cmd])), (a_ms, .inl (T 0, 103, .inl v_ms)), (a_mf, .inl (T 0, 45, .inl r.2.2))] r.1) (x1 : Int32) (l2 : Int32) (m_thr : Int32) (v_mf : Nat → Int32) {H : Heap} {locs : List Loc} (hPD : va_PD D A [(a_m, .inr (8, [.ref a_ms, .ref a_mw, .ref a_mv, .ref a_mp, .ref a_mf, .int m_chg, .int m_thr, .int m_rea, .int m_det, .int m_ref, .int m_err, .int m_ans, .int m_sav, .int m_net, .ref a_ml, .int m_lin, .ref a_mt, .ref a_mc, .int m_tap, .int m_her, .int m_cmd])), (a_ms, .inl (T 0, 103, .inl v_ms)), (a_mf, .inl (T 0, 45, .inl v_mf))] H) (hS : va_S A s.heap H locs) (ls : Array Slot) (hl : lv_has ls 3 [(0, .ref a_m), (2, .int l2)]) (h : fX8_steps_74 v_ms x1 l2 m_thr v_mf = some r) : W p l e ({ frames := 5, cells := 0, slots := 0, locals := 110 } : Room) s m args below meth c H locs 0 0 Q (F0 m 74 ls [.int x1, .ref a_m]) := by
  have hx := C.1
  have hb := C.2.1
  obtain ⟨hP, hD⟩ := hPD
  unfold fX8_steps_74 at h
  refine lv_iconst (v := 2) hx hb dX8_steps_74 (by decide) ?_
  replace h := bnd h; obtain ⟨q18, e19, h⟩ := h
  refine wrVi (ws1 := [(a_m, .inr (8, [.ref a_ms, .ref a_mw, .ref a_mv, .ref a_mp, .ref a_mf, .int m_chg, .int q18.2, .int m_rea, .int m_det, .int m_ref, .int m_err, .int m_ans, .int m_sav, .int m_net, .ref a_ml, .int m_lin, .ref a_mt, .ref a_mc, .int m_tap, .int m_her, .int m_cmd])), (a_ms, .inl (T 0, 103, .inl v_ms)), (a_mf, .inl (T 0, 45, .inl v_mf))]) C hE hP hD hS hA (kX8_isThrown l D T a_m a_ms a_mw a_mv a_mp a_mf a_ml a_mt a_mc m_chg m_thr m_rea m_det m_ref m_err m_ans m_sav m_net m_lin m_tap m_her m_cmd x1 2 _ q18 e19) mX8_isThrown qLX8_80 [0] [1, 2] 0 rfl rfl rfl rfl rfl rfl rfl rfl rfl ⟨rfl, rfl⟩ ⟨Nat.le_of_ble_eq_true rfl, Nat.le_of_ble_eq_true rfl⟩ rfl hl.1 rfl (Nat.le_of_ble_eq_true rfl) dX8_steps_75 ⟨Nat.le_of_ble_eq_true rfl, Nat.le_of_ble_eq_true rfl⟩ ?_; clear hP hD hS; intro H locs hP hD hS
  refine lv_if_eq (tgt := 85) hx hb dX8_steps_78 (by decide) (fun c20 => ?_) (fun c20 => ?_)
  · replace h := ite_t c20 h
    refine lv_aload_n hx hb dX8_steps_85 rfl (lv_at hl 0 rfl) ?_
    refine getF (q0 := 0) (k0 := 4) (v := .ref a_mf) C hE hP inA8 rfl rfl (by decide) qFX8_22 rfl rfl dX8_steps_86 ?_
    refine lv_iload_n hx hb dX8_steps_89 rfl (lv_at hl 1 rfl) ?_
    replace h := gd h; obtain ⟨g21, h⟩ := h
    refine aldI (q0 := 2) C hE hP rfl g21 dX8_steps_90 ?_
    replace h := Option.some.inj h
    exact hret _ _ _ _ _ _ dX8_steps_91 rfl (by rw [← h] <;> rfl) (by rw [← h]; exact hP) hS
  · replace h := ite_f c20 h
    refine lv_iconst (v := 0) hx hb dX8_steps_81 (by decide) ?_
    refine lv_goto (tgt := 91) hx hb dX8_steps_82 (by decide) ?_
    replace h := Option.some.inj h
    exact hret _ _ _ _ _ _ dX8_steps_91 rfl (by rw [← h] <;> rfl) (by rw [← h]; exact hP) hS
set_option maxHeartbeats 4000000 in
set_option maxRecDepth 100000 in
theorem lX8_steps_43 {p : Program} {l : Launch} {e : Env} {s : State} {m : MethodId} {args : Array Value} {below : List Frame} {meth : Method} {c : Code} {Q : State → Prop} {D : va_G} {T : Nat → ClassId} {a_m a_ms a_mw a_mv a_mp a_mf a_ml a_mt a_mc : Nat} {m_chg : Int32} {m_rea : Int32} {m_det : Int32} {m_ref : Int32} {m_err : Int32} {m_ans : Int32} {m_sav : Int32} {m_net : Int32} {m_lin : Int32} {m_tap : Int32} {m_her : Int32} {m_cmd : Int32} {v_ms : Nat → Int32} {A : Nat → Prop} {r : Int32 × Int32 × (Nat → Int32)} (C : CallFix p m c cX8_steps 3 s args aw RX8) (hE : eK D T s) (hA : ∀ q : Nat, s.heap.size ≤ q → A q) (hret : WrRet p l e ({ frames := 5, cells := 0, slots := 0, locals := 110 } : Room) s m args below meth c Q cX8_steps .int D A [(a_m, .inr (8, [.ref a_ms, .ref a_mw, .ref a_mv, .ref a_mp, .ref a_mf, .int m_chg, .int r.2.1, .int m_rea, .int m_det, .int m_ref, .int m_err, .int m_ans, .int m_sav, .int m_net, .ref a_ml, .int m_lin, .ref a_mt, .ref a_mc, .int m_tap, .int m_her, .int m_cmd])), (a_ms, .inl (T 0, 103, .inl v_ms)), (a_mf, .inl (T 0, 45, .inl r.2.2))] r.1) (x1 : Int32) (l1 : Int32) (l2 : Int32) (m_thr : Int32) (v_mf : Nat → Int32) {H : Heap} {locs : List Loc} (hPD : va_PD D A [(a_m, .inr (8, [.ref a_ms, .ref a_mw, .ref a_mv, .ref a_mp, .ref a_mf, .int m_chg, .int m_thr, .int m_rea, .int m_det, .int m_ref, .int m_err, .int m_ans, .int m_sav, .int m_net, .ref a_ml, .int m_lin, .ref a_mt, .ref a_mc, .int m_tap, .int m_her, .int m_cmd])), (a_ms, .inl (T 0, 103, .inl v_ms)), (a_mf, .inl (T 0, 45, .inl v_mf))] H) (hS : va_S A s.heap H locs) (ls : Array Slot) (hl : lv_has ls 3 [(0, .ref a_m), (1, .int l1), (2, .int l2)]) (h : fX8_steps_43 v_ms x1 l1 l2 m_thr v_mf = some r) : W p l e ({ frames := 5, cells := 0, slots := 0, locals := 110 } : Room) s m args below meth c H locs 0 0 Q (F0 m 43 ls [.int x1, .ref a_m]) := by
  have hx := C.1
  have hb := C.2.1
  obtain ⟨hP, hD⟩ := hPD
  unfold fX8_steps_43 at h
  refine lv_iconst (v := 2) hx hb dX8_steps_43 (by decide) ?_
  replace h := bnd h; obtain ⟨q11, e12, h⟩ := h
  refine wrVi (ws1 := [(a_m, .inr (8, [.ref a_ms, .ref a_mw, .ref a_mv, .ref a_mp, .ref a_mf, .int m_chg, .int q11.2, .int m_rea, .int m_det, .int m_ref, .int m_err, .int m_ans, .int m_sav, .int m_net, .ref a_ml, .int m_lin, .ref a_mt, .ref a_mc, .int m_tap, .int m_her, .int m_cmd])), (a_ms, .inl (T 0, 103, .inl v_ms)), (a_mf, .inl (T 0, 45, .inl v_mf))]) C hE hP hD hS hA (kX8_isThrown l D T a_m a_ms a_mw a_mv a_mp a_mf a_ml a_mt a_mc m_chg m_thr m_rea m_det m_ref m_err m_ans m_sav m_net m_lin m_tap m_her m_cmd x1 2 _ q11 e12) mX8_isThrown qLX8_80 [0] [1, 2] 0 rfl rfl rfl rfl rfl rfl rfl rfl rfl ⟨rfl, rfl⟩ ⟨Nat.le_of_ble_eq_true rfl, Nat.le_of_ble_eq_true rfl⟩ rfl hl.1 rfl (Nat.le_of_ble_eq_true rfl) dX8_steps_44 ⟨Nat.le_of_ble_eq_true rfl, Nat.le_of_ble_eq_true rfl⟩ ?_; clear hP hD hS; intro H locs hP hD hS
  refine lv_if_eq (tgt := 52) hx hb dX8_steps_47 (by decide) (fun c13 => ?_) (fun c13 => ?_)
  · replace h := ite_t c13 h
    refine lv_aload_n hx hb dX8_steps_52 rfl (lv_at hl 0 rfl) ?_
    refine lv_iload_n hx hb dX8_steps_53 rfl (lv_at hl 1 rfl) ?_
    replace h := bnd h; obtain ⟨q14, e15, h⟩ := h
    refine wrVv (ws1 := [(a_m, .inr (8, [.ref a_ms, .ref a_mw, .ref a_mv, .ref a_mp, .ref a_mf, .int m_chg, .int q11.2, .int m_rea, .int m_det, .int m_ref, .int m_err, .int m_ans, .int m_sav, .int m_net, .ref a_ml, .int m_lin, .ref a_mt, .ref a_mc, .int m_tap, .int m_her, .int m_cmd])), (a_ms, .inl (T 0, 103, .inl v_ms)), (a_mf, .inl (T 0, 45, .inl q14))]) C hE hP hD hS hA (kX8_finds l D T a_m a_ms a_mw a_mv a_mp a_mf a_ml a_mt a_mc m_chg q11.2 m_rea m_det m_ref m_err m_ans m_sav m_net m_lin m_tap m_her m_cmd v_ms v_mf l1 _ q14 e15) mX8_finds qLX8_139 [0, 1, 2] [] 0 rfl rfl rfl rfl rfl rfl rfl rfl rfl ⟨rfl, rfl⟩ ⟨Nat.le_of_ble_eq_true rfl, Nat.le_of_ble_eq_true rfl⟩ rfl hl.1 rfl (Nat.le_of_ble_eq_true rfl) dX8_steps_54 ⟨Nat.le_of_ble_eq_true rfl, Nat.le_of_ble_eq_true rfl⟩ ?_; clear hP hD hS; intro H locs hP hD hS
    refine lv_aload_n hx hb dX8_steps_57 rfl (lv_at hl 0 rfl) ?_
    refine lv_aload_n hx hb dX8_steps_58 rfl (lv_at hl 0 rfl) ?_
    refine getF (q0 := 0) (k0 := 4) (v := .ref a_mf) C hE hP inA8 rfl rfl (by decide) qFX8_22 rfl rfl dX8_steps_59 ?_
    refine lv_iload_n hx hb dX8_steps_62 rfl (lv_at hl 2 rfl) ?_
    replace h := gd h; obtain ⟨g16, h⟩ := h
    refine aldI (q0 := 2) C hE hP rfl g16 dX8_steps_63 ?_
    refine lv_bipush (v := 99) hx hb dX8_steps_64 (by decide) ?_
    refine lv_icmp_ne (tgt := 73) hx hb dX8_steps_66 (by decide) (fun c17 => ?_) (fun c17 => ?_)
    · rw [if_neg c17] at h
      refine lv_iconst (v := 0) hx hb dX8_steps_73 (by decide) ?_
      exact lX8_steps_74 C hE hA hret 0 l2 q11.2 q14 ⟨hP, hD⟩ hS _ (lv_sub hl [0, 2] rfl) h
    · rw [if_pos c17] at h
      refine lv_iconst (v := 1) hx hb dX8_steps_69 (by decide) ?_
      refine lv_goto (tgt := 74) hx hb dX8_steps_70 (by decide) ?_
      exact lX8_steps_74 C hE hA hret 1 l2 q11.2 q14 ⟨hP, hD⟩ hS _ (lv_sub hl [0, 2] rfl) h
  · replace h := ite_f c13 h
    refine lv_iconst (v := 0) hx hb dX8_steps_50 (by decide) ?_
    replace h := Option.some.inj h
    exact hret _ _ _ _ _ _ dX8_steps_51 rfl (by rw [← h] <;> rfl) (by rw [← h]; exact hP) hS
set_option maxHeartbeats 4000000 in
set_option maxRecDepth 100000 in
theorem lX8_steps_21 {p : Program} {l : Launch} {e : Env} {s : State} {m : MethodId} {args : Array Value} {below : List Frame} {meth : Method} {c : Code} {Q : State → Prop} {D : va_G} {T : Nat → ClassId} {a_m a_ms a_mw a_mv a_mp a_mf a_ml a_mt a_mc : Nat} {m_chg : Int32} {m_rea : Int32} {m_det : Int32} {m_ref : Int32} {m_err : Int32} {m_ans : Int32} {m_sav : Int32} {m_net : Int32} {m_lin : Int32} {m_tap : Int32} {m_her : Int32} {m_cmd : Int32} {v_ms : Nat → Int32} {A : Nat → Prop} {r : Int32 × Int32 × (Nat → Int32)} (C : CallFix p m c cX8_steps 3 s args aw RX8) (hE : eK D T s) (hA : ∀ q : Nat, s.heap.size ≤ q → A q) (hret : WrRet p l e ({ frames := 5, cells := 0, slots := 0, locals := 110 } : Room) s m args below meth c Q cX8_steps .int D A [(a_m, .inr (8, [.ref a_ms, .ref a_mw, .ref a_mv, .ref a_mp, .ref a_mf, .int m_chg, .int r.2.1, .int m_rea, .int m_det, .int m_ref, .int m_err, .int m_ans, .int m_sav, .int m_net, .ref a_ml, .int m_lin, .ref a_mt, .ref a_mc, .int m_tap, .int m_her, .int m_cmd])), (a_ms, .inl (T 0, 103, .inl v_ms)), (a_mf, .inl (T 0, 45, .inl r.2.2))] r.1) (x1 : Int32) (l1 : Int32) (l2 : Int32) (m_thr : Int32) (v_mf : Nat → Int32) {H : Heap} {locs : List Loc} (hPD : va_PD D A [(a_m, .inr (8, [.ref a_ms, .ref a_mw, .ref a_mv, .ref a_mp, .ref a_mf, .int m_chg, .int m_thr, .int m_rea, .int m_det, .int m_ref, .int m_err, .int m_ans, .int m_sav, .int m_net, .ref a_ml, .int m_lin, .ref a_mt, .ref a_mc, .int m_tap, .int m_her, .int m_cmd])), (a_ms, .inl (T 0, 103, .inl v_ms)), (a_mf, .inl (T 0, 45, .inl v_mf))] H) (hS : va_S A s.heap H locs) (ls : Array Slot) (hl : lv_has ls 3 [(0, .ref a_m), (1, .int l1), (2, .int l2)]) (h : fX8_steps_21 v_ms x1 l1 l2 m_thr v_mf = some r) : W p l e ({ frames := 5, cells := 0, slots := 0, locals := 110 } : Room) s m args below meth c H locs 0 0 Q (F0 m 21 ls [.int x1, .ref a_m]) := by
  have hx := C.1
  have hb := C.2.1
  obtain ⟨hP, hD⟩ := hPD
  unfold fX8_steps_21 at h
  refine lv_iconst (v := 1) hx hb dX8_steps_21 (by decide) ?_
  replace h := bnd h; obtain ⟨q5, e6, h⟩ := h
  refine wrVi (ws1 := [(a_m, .inr (8, [.ref a_ms, .ref a_mw, .ref a_mv, .ref a_mp, .ref a_mf, .int m_chg, .int q5.2, .int m_rea, .int m_det, .int m_ref, .int m_err, .int m_ans, .int m_sav, .int m_net, .ref a_ml, .int m_lin, .ref a_mt, .ref a_mc, .int m_tap, .int m_her, .int m_cmd])), (a_ms, .inl (T 0, 103, .inl v_ms)), (a_mf, .inl (T 0, 45, .inl v_mf))]) C hE hP hD hS hA (kX8_isThrown l D T a_m a_ms a_mw a_mv a_mp a_mf a_ml a_mt a_mc m_chg m_thr m_rea m_det m_ref m_err m_ans m_sav m_net m_lin m_tap m_her m_cmd x1 1 _ q5 e6) mX8_isThrown qLX8_80 [0] [1, 2] 0 rfl rfl rfl rfl rfl rfl rfl rfl rfl ⟨rfl, rfl⟩ ⟨Nat.le_of_ble_eq_true rfl, Nat.le_of_ble_eq_true rfl⟩ rfl hl.1 rfl (Nat.le_of_ble_eq_true rfl) dX8_steps_22 ⟨Nat.le_of_ble_eq_true rfl, Nat.le_of_ble_eq_true rfl⟩ ?_; clear hP hD hS; intro H locs hP hD hS
  refine lv_if_ne (tgt := 50) hx hb dX8_steps_25 (by decide) (fun c7 => ?_) (fun c7 => ?_)
  · replace h := ite_f c7 h
    refine lv_iconst (v := 0) hx hb dX8_steps_50 (by decide) ?_
    replace h := Option.some.inj h
    exact hret _ _ _ _ _ _ dX8_steps_51 rfl (by rw [← h] <;> rfl) (by rw [← h]; exact hP) hS
  · replace h := ite_t c7 h
    refine lv_aload_n hx hb dX8_steps_28 rfl (lv_at hl 0 rfl) ?_
    refine lv_aload_n hx hb dX8_steps_29 rfl (lv_at hl 0 rfl) ?_
    refine lv_iload_n hx hb dX8_steps_30 rfl (lv_at hl 1 rfl) ?_
    refine lv_iconst (v := 4) hx hb dX8_steps_31 (by decide) ?_
    replace h := bnd h; obtain ⟨q8, e9, h⟩ := h
    refine rdV C hE hP (kX8_of l D T a_m a_ms a_mw a_mv a_mp a_mf a_ml a_mt a_mc m_chg q5.2 m_rea m_det m_ref m_err m_ans m_sav m_net m_lin m_tap m_her m_cmd v_ms l1 4 q8 e9) mX8_of qLX8_90 [0, 1] 0 rfl rfl rfl rfl ⟨rfl, rfl⟩ ⟨Nat.le_of_ble_eq_true rfl, Nat.le_of_ble_eq_true rfl⟩ rfl hl.1 rfl (Nat.le_of_ble_eq_true rfl) dX8_steps_32 ⟨Nat.le_of_ble_eq_true rfl, Nat.le_of_ble_eq_true rfl⟩ ?_
    refine lv_if_ge (tgt := 42) hx hb dX8_steps_35 (by decide) (fun c10 => ?_) (fun c10 => ?_)
    · rw [if_pos c10] at h
      refine lv_iconst (v := 0) hx hb dX8_steps_42 (by decide) ?_
      exact lX8_steps_43 C hE hA hret 0 l1 l2 q5.2 v_mf ⟨hP, hD⟩ hS _ (lv_sub hl [0, 1, 2] rfl) h
    · rw [if_neg c10] at h
      refine lv_iconst (v := 1) hx hb dX8_steps_38 (by decide) ?_
      refine lv_goto (tgt := 43) hx hb dX8_steps_39 (by decide) ?_
      exact lX8_steps_43 C hE hA hret 1 l1 l2 q5.2 v_mf ⟨hP, hD⟩ hS _ (lv_sub hl [0, 1, 2] rfl) h
set_option maxHeartbeats 4000000 in
set_option maxRecDepth 100000 in
theorem kX8_steps (l : Launch) (D : va_G) (T : Nat → ClassId) (a_m a_ms a_mw a_mv a_mp a_mf a_ml a_mt a_mc : Nat) (m_chg : Int32) (m_thr : Int32) (m_rea : Int32) (m_det : Int32) (m_ref : Int32) (m_err : Int32) (m_ans : Int32) (m_sav : Int32) (m_net : Int32) (m_lin : Int32) (m_tap : Int32) (m_her : Int32) (m_cmd : Int32) (v_ms : Nat → Int32) (v_mf : Nat → Int32) (p0 : Int32) (p1 : Int32) (sz : Nat) (r : Int32 × Int32 × (Nat → Int32)) (h : fX8_steps m_thr v_ms v_mf p0 p1 = some r) : WrI l yX8_steps cX8_steps 3 .int ({ frames := 5, cells := 0, slots := 0, locals := 110 } : Room) D T sz [(a_m, .inr (8, [.ref a_ms, .ref a_mw, .ref a_mv, .ref a_mp, .ref a_mf, .int m_chg, .int m_thr, .int m_rea, .int m_det, .int m_ref, .int m_err, .int m_ans, .int m_sav, .int m_net, .ref a_ml, .int m_lin, .ref a_mt, .ref a_mc, .int m_tap, .int m_her, .int m_cmd])), (a_ms, .inl (T 0, 103, .inl v_ms)), (a_mf, .inl (T 0, 45, .inl v_mf))] [(a_m, .inr (8, [.ref a_ms, .ref a_mw, .ref a_mv, .ref a_mp, .ref a_mf, .int m_chg, .int r.2.1, .int m_rea, .int m_det, .int m_ref, .int m_err, .int m_ans, .int m_sav, .int m_net, .ref a_ml, .int m_lin, .ref a_mt, .ref a_mc, .int m_tap, .int m_her, .int m_cmd])), (a_ms, .inl (T 0, 103, .inl v_ms)), (a_mf, .inl (T 0, 45, .inl r.2.2))] [.ref a_m, .int p0, .int p1] r.1 := by
  unfold fX8_steps at h
  refine wrMet (by decide +kernel) rfl (fun p e s m args below meth c Q A C hE hA hP hD hS hret ls hl => ?_)
  have hx := C.1
  have hb := C.2.1
  have hl : lv_has ls 3 [(0, .ref a_m), (1, .int p0), (2, .int p1)] := hl
  refine lv_aload_n hx hb dX8_steps_0 rfl (lv_at hl 0 rfl) ?_
  refine lv_aload_n hx hb dX8_steps_1 rfl (lv_at hl 0 rfl) ?_
  refine lv_iload_n hx hb dX8_steps_2 rfl (lv_at hl 1 rfl) ?_
  replace h := bnd h; obtain ⟨q1, e2, h⟩ := h
  refine rdV C hE hP (kX8_isWhale l D T a_m a_ms a_mw a_mv a_mp a_mf a_ml a_mt a_mc m_chg m_thr m_rea m_det m_ref m_err m_ans m_sav m_net m_lin m_tap m_her m_cmd v_ms p0 q1 e2) mX8_isWhale qLX8_120 [0, 1] 0 rfl rfl rfl rfl ⟨rfl, rfl⟩ ⟨Nat.le_of_ble_eq_true rfl, Nat.le_of_ble_eq_true rfl⟩ rfl hl.1 rfl (Nat.le_of_ble_eq_true rfl) dX8_steps_3 ⟨Nat.le_of_ble_eq_true rfl, Nat.le_of_ble_eq_true rfl⟩ ?_
  refine lv_if_eq (tgt := 16) hx hb dX8_steps_6 (by decide) (fun c3 => ?_) (fun c3 => ?_)
  · rw [if_pos c3] at h
    refine lv_iconst (v := 1) hx hb dX8_steps_16 (by decide) ?_
    refine lv_goto (tgt := 21) hx hb dX8_steps_17 (by decide) ?_
    exact lX8_steps_21 C hE hA hret 1 p0 p1 m_thr v_mf ⟨hP, hD⟩ hS _ (lv_sub hl [0, 1, 2] rfl) h
  · rw [if_neg c3] at h
    refine lv_iload_n hx hb dX8_steps_9 rfl (lv_at hl 2 rfl) ?_
    refine rdS C hE hP (kX8_isCell l D T p1) mX8_isCell qLX8_76 [] rfl ⟨rfl, rfl⟩ ⟨Nat.le_of_ble_eq_true rfl, Nat.le_of_ble_eq_true rfl⟩ rfl hl.1 rfl (Nat.le_of_ble_eq_true rfl) dX8_steps_10 ⟨Nat.le_of_ble_eq_true rfl, Nat.le_of_ble_eq_true rfl⟩ ?_
    refine lv_if_ne (tgt := 20) hx hb dX8_steps_13 (by decide) (fun c4 => ?_) (fun c4 => ?_)
    · rw [if_neg c4] at h
      refine lv_iconst (v := 0) hx hb dX8_steps_20 (by decide) ?_
      exact lX8_steps_21 C hE hA hret 0 p0 p1 m_thr v_mf ⟨hP, hD⟩ hS _ (lv_sub hl [0, 1, 2] rfl) h
    · rw [if_pos c4] at h
      refine lv_iconst (v := 1) hx hb dX8_steps_16 (by decide) ?_
      refine lv_goto (tgt := 21) hx hb dX8_steps_17 (by decide) ?_
      exact lX8_steps_21 C hE hA hret 1 p0 p1 m_thr v_mf ⟨hP, hD⟩ hS _ (lv_sub hl [0, 1, 2] rfl) h

def fX8_stepsAgain (m_thr : Int32) (v_ms : Nat → Int32) (v_mf : Nat → Int32) (p0 : Int32) (p1 : Int32) : Option (Int32 × Int32 × (Nat → Int32)) :=
  (fX8_steps m_thr v_ms v_mf p0 p1).bind fun q1 =>
  some (q1.1, q1.2.1, q1.2.2)
set_option maxHeartbeats 4000000 in
set_option maxRecDepth 100000 in
theorem kX8_stepsAgain (l : Launch) (D : va_G) (T : Nat → ClassId) (a_m a_ms a_mw a_mv a_mp a_mf a_ml a_mt a_mc : Nat) (m_chg : Int32) (m_thr : Int32) (m_rea : Int32) (m_det : Int32) (m_ref : Int32) (m_err : Int32) (m_ans : Int32) (m_sav : Int32) (m_net : Int32) (m_lin : Int32) (m_tap : Int32) (m_her : Int32) (m_cmd : Int32) (v_ms : Nat → Int32) (v_mf : Nat → Int32) (p0 : Int32) (p1 : Int32) (sz : Nat) (r : Int32 × Int32 × (Nat → Int32)) (h : fX8_stepsAgain m_thr v_ms v_mf p0 p1 = some r) : WrI l yX8_stepsAgain cX8_stepsAgain 3 .int ({ frames := 6, cells := 0, slots := 0, locals := 132 } : Room) D T sz [(a_m, .inr (8, [.ref a_ms, .ref a_mw, .ref a_mv, .ref a_mp, .ref a_mf, .int m_chg, .int m_thr, .int m_rea, .int m_det, .int m_ref, .int m_err, .int m_ans, .int m_sav, .int m_net, .ref a_ml, .int m_lin, .ref a_mt, .ref a_mc, .int m_tap, .int m_her, .int m_cmd])), (a_ms, .inl (T 0, 103, .inl v_ms)), (a_mf, .inl (T 0, 45, .inl v_mf))] [(a_m, .inr (8, [.ref a_ms, .ref a_mw, .ref a_mv, .ref a_mp, .ref a_mf, .int m_chg, .int r.2.1, .int m_rea, .int m_det, .int m_ref, .int m_err, .int m_ans, .int m_sav, .int m_net, .ref a_ml, .int m_lin, .ref a_mt, .ref a_mc, .int m_tap, .int m_her, .int m_cmd])), (a_ms, .inl (T 0, 103, .inl v_ms)), (a_mf, .inl (T 0, 45, .inl r.2.2))] [.ref a_m, .int p0, .int p1] r.1 := by
  unfold fX8_stepsAgain at h
  refine wrMet (by decide +kernel) rfl (fun p e s m args below meth c Q A C hE hA hP hD hS hret ls hl => ?_)
  have hx := C.1
  have hb := C.2.1
  have hl : lv_has ls 3 [(0, .ref a_m), (1, .int p0), (2, .int p1)] := hl
  refine lv_aload_n hx hb dX8_stepsAgain_0 rfl (lv_at hl 0 rfl) ?_
  refine lv_iload_n hx hb dX8_stepsAgain_1 rfl (lv_at hl 1 rfl) ?_
  refine lv_iload_n hx hb dX8_stepsAgain_2 rfl (lv_at hl 2 rfl) ?_
  replace h := bnd h; obtain ⟨q1, e2, h⟩ := h
  refine wrVi (ws1 := [(a_m, .inr (8, [.ref a_ms, .ref a_mw, .ref a_mv, .ref a_mp, .ref a_mf, .int m_chg, .int q1.2.1, .int m_rea, .int m_det, .int m_ref, .int m_err, .int m_ans, .int m_sav, .int m_net, .ref a_ml, .int m_lin, .ref a_mt, .ref a_mc, .int m_tap, .int m_her, .int m_cmd])), (a_ms, .inl (T 0, 103, .inl v_ms)), (a_mf, .inl (T 0, 45, .inl q1.2.2))]) C hE hP hD hS hA (kX8_steps l D T a_m a_ms a_mw a_mv a_mp a_mf a_ml a_mt a_mc m_chg m_thr m_rea m_det m_ref m_err m_ans m_sav m_net m_lin m_tap m_her m_cmd v_ms v_mf p0 p1 _ q1 e2) mX8_steps qLX8_143 [0, 1, 2] [] 0 rfl rfl rfl rfl rfl rfl rfl rfl rfl ⟨rfl, rfl⟩ ⟨Nat.le_of_ble_eq_true rfl, Nat.le_of_ble_eq_true rfl⟩ rfl hl.1 rfl (Nat.le_of_ble_eq_true rfl) dX8_stepsAgain_3 ⟨Nat.le_of_ble_eq_true rfl, Nat.le_of_ble_eq_true rfl⟩ ?_; clear hP hD hS; intro H locs hP hD hS
  replace h := Option.some.inj h
  exact hret _ _ _ _ _ _ dX8_stepsAgain_6 rfl (by rw [← h] <;> rfl) (by rw [← h]; exact hP) hS

def fX8_reach_105 (v_ms : Nat → Int32) (rec60 : Int32 → Int32 → Int32 → Int32 → (Nat → Int32) → Option (Int32 × Int32 × (Nat → Int32))) (x0 : Int32) (x1 : Int32) (l1 : Int32) (l3 : Int32) (m_thr : Int32) (v_mf : Nat → Int32) : Option (Int32 × Int32 × (Nat → Int32)) :=
  rec60 l1 (x0 + x1) (l3 + 1) m_thr v_mf
def fX8_reach_60 (v_ms : Nat → Int32) : Nat → Int32 → Int32 → Int32 → Int32 → (Nat → Int32) → Option (Int32 × Int32 × (Nat → Int32))
  | 0, _, _, _, _, _ => none
  | k + 1, l1, l2, l3, m_thr, v_mf =>
    if 45 ≤ l3 then
      some (l2, m_thr, v_mf)
    else
      if vin l3 45 = true then
      if (v_mf l3.toNatClampNeg) ≤ 0 then
        fX8_reach_105 v_ms (fX8_reach_60 v_ms k) l2 0 l1 l3 m_thr v_mf
      else
        if vin l3 45 = true then
        (fX8_of v_ms l1 2).bind fun q21 =>
        (fX8_of v_ms l1 3).bind fun q23 =>
        fX8_reach_105 v_ms (fX8_reach_60 v_ms k) l2 (if (fX8_lesser q21 q23) < (v_mf l3.toNatClampNeg) then 0 else 1) l1 l3 m_thr v_mf
        else none
      else none
def fX8_reach_14 (v_ms : Nat → Int32) (x1 : Int32) (l1 : Int32) (m_thr : Int32) (v_mf : Nat → Int32) : Option (Int32 × Int32 × (Nat → Int32)) :=
  (fX8_isThrown m_thr x1 1).bind fun q4 =>
  if q4.1 = 0 then
    (fX8_of v_ms l1 4).bind fun q7 =>
    if q7 < 0 then
      some (0, q4.2, v_mf)
    else
      (fX8_isStrandedNow v_ms l1).bind fun q10 =>
      if q10 = 0 then
        if vin 1 103 = true then
        if (v_ms (1 : Int32).toNatClampNeg) = 48 then
          some (0, q4.2, v_mf)
        else
          (fX8_finds v_ms v_mf l1).bind fun q15 =>
          fX8_reach_60 v_ms 64 l1 0 0 q4.2 q15
        else none
      else
        some (0, q4.2, v_mf)
  else
    some (0, q4.2, v_mf)
def fX8_reach (m_thr : Int32) (v_ms : Nat → Int32) (v_mf : Nat → Int32) (p0 : Int32) : Option (Int32 × Int32 × (Nat → Int32)) :=
  (fX8_isWhale v_ms p0).bind fun q1 =>
  fX8_reach_14 v_ms (if q1 = 0 then 1 else 0) p0 m_thr v_mf
set_option maxHeartbeats 4000000 in
set_option maxRecDepth 100000 in
theorem lX8_reach_105 {p : Program} {l : Launch} {e : Env} {s : State} {m : MethodId} {args : Array Value} {below : List Frame} {meth : Method} {c : Code} {Q : State → Prop} {D : va_G} {T : Nat → ClassId} {a_m a_ms a_mw a_mv a_mp a_mf a_ml a_mt a_mc : Nat} {m_chg : Int32} {m_rea : Int32} {m_det : Int32} {m_ref : Int32} {m_err : Int32} {m_ans : Int32} {m_sav : Int32} {m_net : Int32} {m_lin : Int32} {m_tap : Int32} {m_her : Int32} {m_cmd : Int32} {v_ms : Nat → Int32} {A : Nat → Prop} {r : Int32 × Int32 × (Nat → Int32)} (C : CallFix p m c cX8_reach 4 s args aw RX8) (hE : eK D T s) (hA : ∀ q : Nat, s.heap.size ≤ q → A q) (hret : WrRet p l e ({ frames := 5, cells := 0, slots := 0, locals := 110 } : Room) s m args below meth c Q cX8_reach .int D A [(a_m, .inr (8, [.ref a_ms, .ref a_mw, .ref a_mv, .ref a_mp, .ref a_mf, .int m_chg, .int r.2.1, .int m_rea, .int m_det, .int m_ref, .int m_err, .int m_ans, .int m_sav, .int m_net, .ref a_ml, .int m_lin, .ref a_mt, .ref a_mc, .int m_tap, .int m_her, .int m_cmd])), (a_ms, .inl (T 0, 103, .inl v_ms)), (a_mf, .inl (T 0, 45, .inl r.2.2))] r.1) {rec60 : Int32 → Int32 → Int32 → Int32 → (Nat → Int32) → Option (Int32 × Int32 × (Nat → Int32))} (hrec60 : ∀ (l1 : Int32) (l2 : Int32) (l3 : Int32) (m_thr : Int32) (v_mf : Nat → Int32) {H : Heap} {locs : List Loc} (hPD : va_PD D A [(a_m, .inr (8, [.ref a_ms, .ref a_mw, .ref a_mv, .ref a_mp, .ref a_mf, .int m_chg, .int m_thr, .int m_rea, .int m_det, .int m_ref, .int m_err, .int m_ans, .int m_sav, .int m_net, .ref a_ml, .int m_lin, .ref a_mt, .ref a_mc, .int m_tap, .int m_her, .int m_cmd])), (a_ms, .inl (T 0, 103, .inl v_ms)), (a_mf, .inl (T 0, 45, .inl v_mf))] H) (hS : va_S A s.heap H locs) (ls : Array Slot) (hl : lv_has ls 4 [(0, .ref a_m), (1, .int l1), (2, .int l2), (3, .int l3)]) (h : rec60 l1 l2 l3 m_thr v_mf = some r), W p l e ({ frames := 5, cells := 0, slots := 0, locals := 110 } : Room) s m args below meth c H locs 0 0 Q (F0 m 60 ls [])) (x0 : Int32) (x1 : Int32) (l1 : Int32) (l3 : Int32) (m_thr : Int32) (v_mf : Nat → Int32) {H : Heap} {locs : List Loc} (hPD : va_PD D A [(a_m, .inr (8, [.ref a_ms, .ref a_mw, .ref a_mv, .ref a_mp, .ref a_mf, .int m_chg, .int m_thr, .int m_rea, .int m_det, .int m_ref, .int m_err, .int m_ans, .int m_sav, .int m_net, .ref a_ml, .int m_lin, .ref a_mt, .ref a_mc, .int m_tap, .int m_her, .int m_cmd])), (a_ms, .inl (T 0, 103, .inl v_ms)), (a_mf, .inl (T 0, 45, .inl v_mf))] H) (hS : va_S A s.heap H locs) (ls : Array Slot) (hl : lv_has ls 4 [(0, .ref a_m), (1, .int l1), (3, .int l3)]) (h : fX8_reach_105 v_ms rec60 x0 x1 l1 l3 m_thr v_mf = some r) : W p l e ({ frames := 5, cells := 0, slots := 0, locals := 110 } : Room) s m args below meth c H locs 0 0 Q (F0 m 105 ls [.int x1, .int x0]) := by
  have hx := C.1
  have hb := C.2.1
  obtain ⟨hP, hD⟩ := hPD
  unfold fX8_reach_105 at h
  refine lv_iadd hx hb dX8_reach_105 ?_
  refine lv_istore_n (lv' := [(2, .int (x0 + x1)), (0, .ref a_m), (1, .int l1), (3, .int l3)]) hx hb dX8_reach_106 rfl hl (by decide) rfl (fun ls hl => ?_)
  refine lv_iinc (v := (l3 + 1)) (lv' := [(3, .int (l3 + 1)), (2, .int (x0 + x1)), (0, .ref a_m), (1, .int l1)]) hx hb dX8_reach_107 hl (k := 3) rfl rfl (by decide) rfl (fun ls hl => ?_)
  refine lv_goto (tgt := 60) hx hb dX8_reach_110 (by decide) ?_
  exact hrec60 l1 (x0 + x1) (l3 + 1) m_thr v_mf ⟨hP, hD⟩ hS _ (lv_sub hl [2, 3, 1, 0] rfl) h
set_option maxHeartbeats 4000000 in
set_option maxRecDepth 100000 in
theorem lX8_reach_60 {p : Program} {l : Launch} {e : Env} {s : State} {m : MethodId} {args : Array Value} {below : List Frame} {meth : Method} {c : Code} {Q : State → Prop} {D : va_G} {T : Nat → ClassId} {a_m a_ms a_mw a_mv a_mp a_mf a_ml a_mt a_mc : Nat} {m_chg : Int32} {m_rea : Int32} {m_det : Int32} {m_ref : Int32} {m_err : Int32} {m_ans : Int32} {m_sav : Int32} {m_net : Int32} {m_lin : Int32} {m_tap : Int32} {m_her : Int32} {m_cmd : Int32} {v_ms : Nat → Int32} {A : Nat → Prop} {r : Int32 × Int32 × (Nat → Int32)} (C : CallFix p m c cX8_reach 4 s args aw RX8) (hE : eK D T s) (hA : ∀ q : Nat, s.heap.size ≤ q → A q) (hret : WrRet p l e ({ frames := 5, cells := 0, slots := 0, locals := 110 } : Room) s m args below meth c Q cX8_reach .int D A [(a_m, .inr (8, [.ref a_ms, .ref a_mw, .ref a_mv, .ref a_mp, .ref a_mf, .int m_chg, .int r.2.1, .int m_rea, .int m_det, .int m_ref, .int m_err, .int m_ans, .int m_sav, .int m_net, .ref a_ml, .int m_lin, .ref a_mt, .ref a_mc, .int m_tap, .int m_her, .int m_cmd])), (a_ms, .inl (T 0, 103, .inl v_ms)), (a_mf, .inl (T 0, 45, .inl r.2.2))] r.1) : ∀ (k : Nat) (l1 : Int32) (l2 : Int32) (l3 : Int32) (m_thr : Int32) (v_mf : Nat → Int32) {H : Heap} {locs : List Loc} (hPD : va_PD D A [(a_m, .inr (8, [.ref a_ms, .ref a_mw, .ref a_mv, .ref a_mp, .ref a_mf, .int m_chg, .int m_thr, .int m_rea, .int m_det, .int m_ref, .int m_err, .int m_ans, .int m_sav, .int m_net, .ref a_ml, .int m_lin, .ref a_mt, .ref a_mc, .int m_tap, .int m_her, .int m_cmd])), (a_ms, .inl (T 0, 103, .inl v_ms)), (a_mf, .inl (T 0, 45, .inl v_mf))] H) (hS : va_S A s.heap H locs) (ls : Array Slot) (hl : lv_has ls 4 [(0, .ref a_m), (1, .int l1), (2, .int l2), (3, .int l3)]) (h : fX8_reach_60 v_ms k l1 l2 l3 m_thr v_mf = some r), W p l e ({ frames := 5, cells := 0, slots := 0, locals := 110 } : Room) s m args below meth c H locs 0 0 Q (F0 m 60 ls []) := by
  have hx := C.1
  have hb := C.2.1
  intro k
  induction k with
  | zero =>
    intro l1 l2 l3 m_thr v_mf H locs hPD hS ls hl h
    exact nomatch (show (none : Option (Int32 × Int32 × (Nat → Int32))) = some r from h)
  | succ k ih =>
    intro l1 l2 l3 m_thr v_mf H locs hPD hS ls hl h
    obtain ⟨hP, hD⟩ := hPD
    rw [fX8_reach_60] at h
    refine lv_iload_n hx hb dX8_reach_60 rfl (lv_at hl 3 rfl) ?_
    refine lv_bipush (v := 45) hx hb dX8_reach_61 (by decide) ?_
    refine lv_icmp_ge (tgt := 113) hx hb dX8_reach_63 (by decide) (fun c17 => ?_) (fun c17 => ?_)
    · replace h := ite_t c17 h
      refine lv_iload_n hx hb dX8_reach_113 rfl (lv_at hl 2 rfl) ?_
      replace h := Option.some.inj h
      exact hret _ _ _ _ _ _ dX8_reach_114 rfl (by rw [← h] <;> rfl) (by rw [← h]; exact hP) hS
    · replace h := ite_f c17 h
      refine lv_iload_n hx hb dX8_reach_66 rfl (lv_at hl 2 rfl) ?_
      refine lv_aload_n hx hb dX8_reach_67 rfl (lv_at hl 0 rfl) ?_
      refine getF (q0 := 0) (k0 := 4) (v := .ref a_mf) C hE hP inA8 rfl rfl (by decide) qFX8_22 rfl rfl dX8_reach_68 ?_
      refine lv_iload_n hx hb dX8_reach_71 rfl (lv_at hl 3 rfl) ?_
      replace h := gd h; obtain ⟨g18, h⟩ := h
      refine aldI (q0 := 2) C hE hP rfl g18 dX8_reach_72 ?_
      refine lv_if_le (tgt := 104) hx hb dX8_reach_73 (by decide) (fun c19 => ?_) (fun c19 => ?_)
      · replace h := ite_t c19 h
        refine lv_iconst (v := 0) hx hb dX8_reach_104 (by decide) ?_
        exact lX8_reach_105 C hE hA hret ih l2 0 l1 l3 m_thr v_mf ⟨hP, hD⟩ hS _ (lv_sub hl [0, 1, 3] rfl) h
      · replace h := ite_f c19 h
        refine lv_aload_n hx hb dX8_reach_76 rfl (lv_at hl 0 rfl) ?_
        refine getF (q0 := 0) (k0 := 4) (v := .ref a_mf) C hE hP inA8 rfl rfl (by decide) qFX8_22 rfl rfl dX8_reach_77 ?_
        refine lv_iload_n hx hb dX8_reach_80 rfl (lv_at hl 3 rfl) ?_
        replace h := gd h; obtain ⟨g20, h⟩ := h
        refine aldI (q0 := 2) C hE hP rfl g20 dX8_reach_81 ?_
        refine lv_aload_n hx hb dX8_reach_82 rfl (lv_at hl 0 rfl) ?_
        refine lv_iload_n hx hb dX8_reach_83 rfl (lv_at hl 1 rfl) ?_
        refine lv_iconst (v := 2) hx hb dX8_reach_84 (by decide) ?_
        replace h := bnd h; obtain ⟨q21, e22, h⟩ := h
        refine rdV C hE hP (kX8_of l D T a_m a_ms a_mw a_mv a_mp a_mf a_ml a_mt a_mc m_chg m_thr m_rea m_det m_ref m_err m_ans m_sav m_net m_lin m_tap m_her m_cmd v_ms l1 2 q21 e22) mX8_of qLX8_90 [0, 1] 0 rfl rfl rfl rfl ⟨rfl, rfl⟩ ⟨Nat.le_of_ble_eq_true rfl, Nat.le_of_ble_eq_true rfl⟩ rfl hl.1 rfl (Nat.le_of_ble_eq_true rfl) dX8_reach_85 ⟨Nat.le_of_ble_eq_true rfl, Nat.le_of_ble_eq_true rfl⟩ ?_
        refine lv_aload_n hx hb dX8_reach_88 rfl (lv_at hl 0 rfl) ?_
        refine lv_iload_n hx hb dX8_reach_89 rfl (lv_at hl 1 rfl) ?_
        refine lv_iconst (v := 3) hx hb dX8_reach_90 (by decide) ?_
        replace h := bnd h; obtain ⟨q23, e24, h⟩ := h
        refine rdV C hE hP (kX8_of l D T a_m a_ms a_mw a_mv a_mp a_mf a_ml a_mt a_mc m_chg m_thr m_rea m_det m_ref m_err m_ans m_sav m_net m_lin m_tap m_her m_cmd v_ms l1 3 q23 e24) mX8_of qLX8_90 [0, 1] 0 rfl rfl rfl rfl ⟨rfl, rfl⟩ ⟨Nat.le_of_ble_eq_true rfl, Nat.le_of_ble_eq_true rfl⟩ rfl hl.1 rfl (Nat.le_of_ble_eq_true rfl) dX8_reach_91 ⟨Nat.le_of_ble_eq_true rfl, Nat.le_of_ble_eq_true rfl⟩ ?_
        refine rdS C hE hP (kX8_lesser l D T q21 q23) mX8_lesser qLX8_117 [] rfl ⟨rfl, rfl⟩ ⟨Nat.le_of_ble_eq_true rfl, Nat.le_of_ble_eq_true rfl⟩ rfl hl.1 rfl (Nat.le_of_ble_eq_true rfl) dX8_reach_94 ⟨Nat.le_of_ble_eq_true rfl, Nat.le_of_ble_eq_true rfl⟩ ?_
        refine lv_icmp_gt (tgt := 104) hx hb dX8_reach_97 (by decide) (fun c25 => ?_) (fun c25 => ?_)
        · rw [if_pos c25] at h
          refine lv_iconst (v := 0) hx hb dX8_reach_104 (by decide) ?_
          exact lX8_reach_105 C hE hA hret ih l2 0 l1 l3 m_thr v_mf ⟨hP, hD⟩ hS _ (lv_sub hl [0, 1, 3] rfl) h
        · rw [if_neg c25] at h
          refine lv_iconst (v := 1) hx hb dX8_reach_100 (by decide) ?_
          refine lv_goto (tgt := 105) hx hb dX8_reach_101 (by decide) ?_
          exact lX8_reach_105 C hE hA hret ih l2 1 l1 l3 m_thr v_mf ⟨hP, hD⟩ hS _ (lv_sub hl [0, 1, 3] rfl) h
set_option maxHeartbeats 4000000 in
set_option maxRecDepth 100000 in
theorem lX8_reach_14 {p : Program} {l : Launch} {e : Env} {s : State} {m : MethodId} {args : Array Value} {below : List Frame} {meth : Method} {c : Code} {Q : State → Prop} {D : va_G} {T : Nat → ClassId} {a_m a_ms a_mw a_mv a_mp a_mf a_ml a_mt a_mc : Nat} {m_chg : Int32} {m_rea : Int32} {m_det : Int32} {m_ref : Int32} {m_err : Int32} {m_ans : Int32} {m_sav : Int32} {m_net : Int32} {m_lin : Int32} {m_tap : Int32} {m_her : Int32} {m_cmd : Int32} {v_ms : Nat → Int32} {A : Nat → Prop} {r : Int32 × Int32 × (Nat → Int32)} (C : CallFix p m c cX8_reach 4 s args aw RX8) (hE : eK D T s) (hA : ∀ q : Nat, s.heap.size ≤ q → A q) (hret : WrRet p l e ({ frames := 5, cells := 0, slots := 0, locals := 110 } : Room) s m args below meth c Q cX8_reach .int D A [(a_m, .inr (8, [.ref a_ms, .ref a_mw, .ref a_mv, .ref a_mp, .ref a_mf, .int m_chg, .int r.2.1, .int m_rea, .int m_det, .int m_ref, .int m_err, .int m_ans, .int m_sav, .int m_net, .ref a_ml, .int m_lin, .ref a_mt, .ref a_mc, .int m_tap, .int m_her, .int m_cmd])), (a_ms, .inl (T 0, 103, .inl v_ms)), (a_mf, .inl (T 0, 45, .inl r.2.2))] r.1) (x1 : Int32) (l1 : Int32) (m_thr : Int32) (v_mf : Nat → Int32) {H : Heap} {locs : List Loc} (hPD : va_PD D A [(a_m, .inr (8, [.ref a_ms, .ref a_mw, .ref a_mv, .ref a_mp, .ref a_mf, .int m_chg, .int m_thr, .int m_rea, .int m_det, .int m_ref, .int m_err, .int m_ans, .int m_sav, .int m_net, .ref a_ml, .int m_lin, .ref a_mt, .ref a_mc, .int m_tap, .int m_her, .int m_cmd])), (a_ms, .inl (T 0, 103, .inl v_ms)), (a_mf, .inl (T 0, 45, .inl v_mf))] H) (hS : va_S A s.heap H locs) (ls : Array Slot) (hl : lv_has ls 4 [(0, .ref a_m), (1, .int l1)]) (h : fX8_reach_14 v_ms x1 l1 m_thr v_mf = some r) : W p l e ({ frames := 5, cells := 0, slots := 0, locals := 110 } : Room) s m args below meth c H locs 0 0 Q (F0 m 14 ls [.int x1, .ref a_m]) := by
  have hx := C.1
  have hb := C.2.1
  obtain ⟨hP, hD⟩ := hPD
  unfold fX8_reach_14 at h
  refine lv_iconst (v := 1) hx hb dX8_reach_14 (by decide) ?_
  replace h := bnd h; obtain ⟨q4, e5, h⟩ := h
  refine wrVi (ws1 := [(a_m, .inr (8, [.ref a_ms, .ref a_mw, .ref a_mv, .ref a_mp, .ref a_mf, .int m_chg, .int q4.2, .int m_rea, .int m_det, .int m_ref, .int m_err, .int m_ans, .int m_sav, .int m_net, .ref a_ml, .int m_lin, .ref a_mt, .ref a_mc, .int m_tap, .int m_her, .int m_cmd])), (a_ms, .inl (T 0, 103, .inl v_ms)), (a_mf, .inl (T 0, 45, .inl v_mf))]) C hE hP hD hS hA (kX8_isThrown l D T a_m a_ms a_mw a_mv a_mp a_mf a_ml a_mt a_mc m_chg m_thr m_rea m_det m_ref m_err m_ans m_sav m_net m_lin m_tap m_her m_cmd x1 1 _ q4 e5) mX8_isThrown qLX8_80 [0] [1, 2] 0 rfl rfl rfl rfl rfl rfl rfl rfl rfl ⟨rfl, rfl⟩ ⟨Nat.le_of_ble_eq_true rfl, Nat.le_of_ble_eq_true rfl⟩ rfl hl.1 rfl (Nat.le_of_ble_eq_true rfl) dX8_reach_15 ⟨Nat.le_of_ble_eq_true rfl, Nat.le_of_ble_eq_true rfl⟩ ?_; clear hP hD hS; intro H locs hP hD hS
  refine lv_if_ne (tgt := 49) hx hb dX8_reach_18 (by decide) (fun c6 => ?_) (fun c6 => ?_)
  · replace h := ite_f c6 h
    refine lv_iconst (v := 0) hx hb dX8_reach_49 (by decide) ?_
    replace h := Option.some.inj h
    exact hret _ _ _ _ _ _ dX8_reach_50 rfl (by rw [← h] <;> rfl) (by rw [← h]; exact hP) hS
  · replace h := ite_t c6 h
    refine lv_aload_n hx hb dX8_reach_21 rfl (lv_at hl 0 rfl) ?_
    refine lv_iload_n hx hb dX8_reach_22 rfl (lv_at hl 1 rfl) ?_
    refine lv_iconst (v := 4) hx hb dX8_reach_23 (by decide) ?_
    replace h := bnd h; obtain ⟨q7, e8, h⟩ := h
    refine rdV C hE hP (kX8_of l D T a_m a_ms a_mw a_mv a_mp a_mf a_ml a_mt a_mc m_chg q4.2 m_rea m_det m_ref m_err m_ans m_sav m_net m_lin m_tap m_her m_cmd v_ms l1 4 q7 e8) mX8_of qLX8_90 [0, 1] 0 rfl rfl rfl rfl ⟨rfl, rfl⟩ ⟨Nat.le_of_ble_eq_true rfl, Nat.le_of_ble_eq_true rfl⟩ rfl hl.1 rfl (Nat.le_of_ble_eq_true rfl) dX8_reach_24 ⟨Nat.le_of_ble_eq_true rfl, Nat.le_of_ble_eq_true rfl⟩ ?_
    refine lv_if_lt (tgt := 49) hx hb dX8_reach_27 (by decide) (fun c9 => ?_) (fun c9 => ?_)
    · replace h := ite_t c9 h
      refine lv_iconst (v := 0) hx hb dX8_reach_49 (by decide) ?_
      replace h := Option.some.inj h
      exact hret _ _ _ _ _ _ dX8_reach_50 rfl (by rw [← h] <;> rfl) (by rw [← h]; exact hP) hS
    · replace h := ite_f c9 h
      refine lv_aload_n hx hb dX8_reach_30 rfl (lv_at hl 0 rfl) ?_
      refine lv_iload_n hx hb dX8_reach_31 rfl (lv_at hl 1 rfl) ?_
      replace h := bnd h; obtain ⟨q10, e11, h⟩ := h
      refine rdV C hE hP (kX8_isStrandedNow l D T a_m a_ms a_mw a_mv a_mp a_mf a_ml a_mt a_mc m_chg q4.2 m_rea m_det m_ref m_err m_ans m_sav m_net m_lin m_tap m_her m_cmd v_ms l1 q10 e11) mX8_isStrandedNow qLX8_146 [0, 1] 0 rfl rfl rfl rfl ⟨rfl, rfl⟩ ⟨Nat.le_of_ble_eq_true rfl, Nat.le_of_ble_eq_true rfl⟩ rfl hl.1 rfl (Nat.le_of_ble_eq_true rfl) dX8_reach_32 ⟨Nat.le_of_ble_eq_true rfl, Nat.le_of_ble_eq_true rfl⟩ ?_
      refine lv_if_ne (tgt := 49) hx hb dX8_reach_35 (by decide) (fun c12 => ?_) (fun c12 => ?_)
      · replace h := ite_f c12 h
        refine lv_iconst (v := 0) hx hb dX8_reach_49 (by decide) ?_
        replace h := Option.some.inj h
        exact hret _ _ _ _ _ _ dX8_reach_50 rfl (by rw [← h] <;> rfl) (by rw [← h]; exact hP) hS
      · replace h := ite_t c12 h
        refine lv_aload_n hx hb dX8_reach_38 rfl (lv_at hl 0 rfl) ?_
        refine getF (q0 := 0) (k0 := 0) (v := .ref a_ms) C hE hP inA8 rfl rfl (by decide) qFX8_9 rfl rfl dX8_reach_39 ?_
        refine lv_iconst (v := 1) hx hb dX8_reach_42 (by decide) ?_
        replace h := gd h; obtain ⟨g13, h⟩ := h
        refine aldI (q0 := 1) C hE hP rfl g13 dX8_reach_43 ?_
        refine lv_bipush (v := 48) hx hb dX8_reach_44 (by decide) ?_
        refine lv_icmp_ne (tgt := 51) hx hb dX8_reach_46 (by decide) (fun c14 => ?_) (fun c14 => ?_)
        · replace h := ite_f c14 h
          refine lv_aload_n hx hb dX8_reach_51 rfl (lv_at hl 0 rfl) ?_
          refine lv_iload_n hx hb dX8_reach_52 rfl (lv_at hl 1 rfl) ?_
          replace h := bnd h; obtain ⟨q15, e16, h⟩ := h
          refine wrVv (ws1 := [(a_m, .inr (8, [.ref a_ms, .ref a_mw, .ref a_mv, .ref a_mp, .ref a_mf, .int m_chg, .int q4.2, .int m_rea, .int m_det, .int m_ref, .int m_err, .int m_ans, .int m_sav, .int m_net, .ref a_ml, .int m_lin, .ref a_mt, .ref a_mc, .int m_tap, .int m_her, .int m_cmd])), (a_ms, .inl (T 0, 103, .inl v_ms)), (a_mf, .inl (T 0, 45, .inl q15))]) C hE hP hD hS hA (kX8_finds l D T a_m a_ms a_mw a_mv a_mp a_mf a_ml a_mt a_mc m_chg q4.2 m_rea m_det m_ref m_err m_ans m_sav m_net m_lin m_tap m_her m_cmd v_ms v_mf l1 _ q15 e16) mX8_finds qLX8_139 [0, 1, 2] [] 0 rfl rfl rfl rfl rfl rfl rfl rfl rfl ⟨rfl, rfl⟩ ⟨Nat.le_of_ble_eq_true rfl, Nat.le_of_ble_eq_true rfl⟩ rfl hl.1 rfl (Nat.le_of_ble_eq_true rfl) dX8_reach_53 ⟨Nat.le_of_ble_eq_true rfl, Nat.le_of_ble_eq_true rfl⟩ ?_; clear hP hD hS; intro H locs hP hD hS
          refine lv_iconst (v := 0) hx hb dX8_reach_56 (by decide) ?_
          refine lv_istore_n (lv' := [(2, .int 0), (0, .ref a_m), (1, .int l1)]) hx hb dX8_reach_57 rfl hl (by decide) rfl (fun ls hl => ?_)
          refine lv_iconst (v := 0) hx hb dX8_reach_58 (by decide) ?_
          refine lv_istore_n (lv' := [(3, .int 0), (2, .int 0), (0, .ref a_m), (1, .int l1)]) hx hb dX8_reach_59 rfl hl (by decide) rfl (fun ls hl => ?_)
          exact lX8_reach_60 C hE hA hret 64 l1 0 0 q4.2 q15 ⟨hP, hD⟩ hS _ (lv_sub hl [2, 3, 1, 0] rfl) h
        · replace h := ite_t c14 h
          refine lv_iconst (v := 0) hx hb dX8_reach_49 (by decide) ?_
          replace h := Option.some.inj h
          exact hret _ _ _ _ _ _ dX8_reach_50 rfl (by rw [← h] <;> rfl) (by rw [← h]; exact hP) hS
set_option maxHeartbeats 4000000 in
set_option maxRecDepth 100000 in
theorem kX8_reach (l : Launch) (D : va_G) (T : Nat → ClassId) (a_m a_ms a_mw a_mv a_mp a_mf a_ml a_mt a_mc : Nat) (m_chg : Int32) (m_thr : Int32) (m_rea : Int32) (m_det : Int32) (m_ref : Int32) (m_err : Int32) (m_ans : Int32) (m_sav : Int32) (m_net : Int32) (m_lin : Int32) (m_tap : Int32) (m_her : Int32) (m_cmd : Int32) (v_ms : Nat → Int32) (v_mf : Nat → Int32) (p0 : Int32) (sz : Nat) (r : Int32 × Int32 × (Nat → Int32)) (h : fX8_reach m_thr v_ms v_mf p0 = some r) : WrI l yX8_reach cX8_reach 4 .int ({ frames := 5, cells := 0, slots := 0, locals := 110 } : Room) D T sz [(a_m, .inr (8, [.ref a_ms, .ref a_mw, .ref a_mv, .ref a_mp, .ref a_mf, .int m_chg, .int m_thr, .int m_rea, .int m_det, .int m_ref, .int m_err, .int m_ans, .int m_sav, .int m_net, .ref a_ml, .int m_lin, .ref a_mt, .ref a_mc, .int m_tap, .int m_her, .int m_cmd])), (a_ms, .inl (T 0, 103, .inl v_ms)), (a_mf, .inl (T 0, 45, .inl v_mf))] [(a_m, .inr (8, [.ref a_ms, .ref a_mw, .ref a_mv, .ref a_mp, .ref a_mf, .int m_chg, .int r.2.1, .int m_rea, .int m_det, .int m_ref, .int m_err, .int m_ans, .int m_sav, .int m_net, .ref a_ml, .int m_lin, .ref a_mt, .ref a_mc, .int m_tap, .int m_her, .int m_cmd])), (a_ms, .inl (T 0, 103, .inl v_ms)), (a_mf, .inl (T 0, 45, .inl r.2.2))] [.ref a_m, .int p0] r.1 := by
  unfold fX8_reach at h
  refine wrMet (by decide +kernel) rfl (fun p e s m args below meth c Q A C hE hA hP hD hS hret ls hl => ?_)
  have hx := C.1
  have hb := C.2.1
  have hl : lv_has ls 4 [(0, .ref a_m), (1, .int p0)] := hl
  refine lv_aload_n hx hb dX8_reach_0 rfl (lv_at hl 0 rfl) ?_
  refine lv_aload_n hx hb dX8_reach_1 rfl (lv_at hl 0 rfl) ?_
  refine lv_iload_n hx hb dX8_reach_2 rfl (lv_at hl 1 rfl) ?_
  replace h := bnd h; obtain ⟨q1, e2, h⟩ := h
  refine rdV C hE hP (kX8_isWhale l D T a_m a_ms a_mw a_mv a_mp a_mf a_ml a_mt a_mc m_chg m_thr m_rea m_det m_ref m_err m_ans m_sav m_net m_lin m_tap m_her m_cmd v_ms p0 q1 e2) mX8_isWhale qLX8_120 [0, 1] 0 rfl rfl rfl rfl ⟨rfl, rfl⟩ ⟨Nat.le_of_ble_eq_true rfl, Nat.le_of_ble_eq_true rfl⟩ rfl hl.1 rfl (Nat.le_of_ble_eq_true rfl) dX8_reach_3 ⟨Nat.le_of_ble_eq_true rfl, Nat.le_of_ble_eq_true rfl⟩ ?_
  refine lv_if_ne (tgt := 13) hx hb dX8_reach_6 (by decide) (fun c3 => ?_) (fun c3 => ?_)
  · rw [if_neg c3] at h
    refine lv_iconst (v := 0) hx hb dX8_reach_13 (by decide) ?_
    exact lX8_reach_14 C hE hA hret 0 p0 m_thr v_mf ⟨hP, hD⟩ hS _ (lv_sub hl [0, 1] rfl) h
  · rw [if_pos c3] at h
    refine lv_iconst (v := 1) hx hb dX8_reach_9 (by decide) ?_
    refine lv_goto (tgt := 14) hx hb dX8_reach_10 (by decide) ?_
    exact lX8_reach_14 C hE hA hret 1 p0 m_thr v_mf ⟨hP, hD⟩ hS _ (lv_sub hl [0, 1] rfl) h

def fX8_swims_185 (x1 : Int32) (l1 : Int32) (l2 : Int32) (l4 : Int32) (l5 : Int32) (m_thr : Int32) (m_rea : Int32) (m_det : Int32) (m_ref : Int32) (v_ms : Nat → Int32) (v_mf : Nat → Int32) : Option (Int32 × Int32 × Int32 × Int32 × Int32 × (Nat → Int32) × (Nat → Int32)) :=
  (fX8_isRefused m_thr m_rea m_det m_ref x1 6 l5).bind fun q46 =>
  if q46.1 = 0 then
    (fX8_sets v_ms l1 4 l2).bind fun q49 =>
    (fX8_sets q49 l1 3 (l5 - l4)).bind fun q51 =>
    (fX8_sets q51 l1 5 0).bind fun q53 =>
    (fX8_strokes q53 l4).bind fun q55 =>
    some (q55.1, q46.2.1, q46.2.2.1, q46.2.2.2.1, q46.2.2.2.2, q55.2, v_mf)
  else
    some (0, q46.2.1, q46.2.2.1, q46.2.2.2.1, q46.2.2.2.2, v_ms, v_mf)
def fX8_swims_166 (x1 : Int32) (x2 : Int32) (x3 : Int32) (l1 : Int32) (l2 : Int32) (l4 : Int32) (l5 : Int32) (m_thr : Int32) (m_rea : Int32) (m_det : Int32) (m_ref : Int32) (v_ms : Nat → Int32) (v_mf : Nat → Int32) : Option (Int32 × Int32 × Int32 × Int32 × Int32 × (Nat → Int32) × (Nat → Int32)) :=
  (fX8_isRefused m_thr m_rea m_det m_ref x1 x2 x3).bind fun q42 =>
  if q42.1 = 0 then
    fX8_swims_185 (if l4 ≤ l5 then 0 else 1) l1 l2 l4 l5 q42.2.1 q42.2.2.1 q42.2.2.2.1 q42.2.2.2.2 v_ms v_mf
  else
    some (0, q42.2.1, q42.2.2.1, q42.2.2.2.1, q42.2.2.2.2, v_ms, v_mf)
def fX8_swims_152 (x1 : Int32) (l1 : Int32) (l2 : Int32) (l4 : Int32) (l5 : Int32) (m_thr : Int32) (m_rea : Int32) (m_det : Int32) (m_ref : Int32) (v_ms : Nat → Int32) (v_mf : Nat → Int32) : Option (Int32 × Int32 × Int32 × Int32 × Int32 × (Nat → Int32) × (Nat → Int32)) :=
  fX8_swims_166 x1 5 (if l4 = 99 then (-1) else l4) l1 l2 l4 l5 m_thr m_rea m_det m_ref v_ms v_mf
def fX8_swims_80 (x1 : Int32) (l1 : Int32) (l2 : Int32) (l3 : Int32) (m_thr : Int32) (m_rea : Int32) (m_det : Int32) (m_ref : Int32) (v_ms : Nat → Int32) (v_mf : Nat → Int32) : Option (Int32 × Int32 × Int32 × Int32 × Int32 × (Nat → Int32) × (Nat → Int32)) :=
  (fX8_isRefused m_thr m_rea m_det m_ref x1 7 l3).bind fun q24 =>
  if q24.1 = 0 then
    (fX8_isDryNow v_ms l2).bind fun q27 =>
    if vin 1 103 = true then
    (fX8_isRefused q24.2.1 q24.2.2.1 q24.2.2.2.1 q24.2.2.2.2 q27 8 (fX8_tideAt (v_ms (1 : Int32).toNatClampNeg))).bind fun q30 =>
    if q30.1 = 0 then
      (fX8_finds v_ms v_mf l1).bind fun q33 =>
      if vin l2 45 = true then
      (fX8_of v_ms l1 3).bind fun q36 =>
      (fX8_of v_ms l1 2).bind fun q38 =>
      fX8_swims_152 (if (q33 l2.toNatClampNeg) ≤ q38 then 0 else 1) l1 l2 (q33 l2.toNatClampNeg) q36 q30.2.1 q30.2.2.1 q30.2.2.2.1 q30.2.2.2.2 v_ms q33
      else none
    else
      some (0, q30.2.1, q30.2.2.1, q30.2.2.2.1, q30.2.2.2.2, v_ms, v_mf)
    else none
  else
    some (0, q24.2.1, q24.2.2.1, q24.2.2.2.1, q24.2.2.2.2, v_ms, v_mf)
def fX8_swims_21 (x1 : Int32) (l1 : Int32) (l2 : Int32) (m_thr : Int32) (m_rea : Int32) (m_det : Int32) (m_ref : Int32) (v_ms : Nat → Int32) (v_mf : Nat → Int32) : Option (Int32 × Int32 × Int32 × Int32 × Int32 × (Nat → Int32) × (Nat → Int32)) :=
  (fX8_isThrown m_thr x1 1).bind fun q5 =>
  if q5.1 = 0 then
    (fX8_isOver q5.2 m_rea m_det m_ref v_ms).bind fun q8 =>
    if q8.1 = 0 then
      (fX8_isOnBench q8.2.1 q8.2.2.1 q8.2.2.2.1 q8.2.2.2.2 v_ms l1).bind fun q11 =>
      if q11.1 = 0 then
        (fX8_whaleAt v_ms l2).bind fun q14 =>
        (fX8_isStrandedNow v_ms l1).bind fun q16 =>
        (fX8_of v_ms l1 4).bind fun q18 =>
        (fX8_isRefused q11.2.1 q11.2.2.1 q11.2.2.2.1 q11.2.2.2.2 q16 4 q18).bind fun q20 =>
        if q20.1 = 0 then
          fX8_swims_80 (if q14 < 0 then 0 else 1) l1 l2 q14 q20.2.1 q20.2.2.1 q20.2.2.2.1 q20.2.2.2.2 v_ms v_mf
        else
          some (0, q20.2.1, q20.2.2.1, q20.2.2.2.1, q20.2.2.2.2, v_ms, v_mf)
      else
        some (0, q11.2.1, q11.2.2.1, q11.2.2.2.1, q11.2.2.2.2, v_ms, v_mf)
    else
      some (0, q8.2.1, q8.2.2.1, q8.2.2.2.1, q8.2.2.2.2, v_ms, v_mf)
  else
    some (0, q5.2, m_rea, m_det, m_ref, v_ms, v_mf)
def fX8_swims (m_thr : Int32) (m_rea : Int32) (m_det : Int32) (m_ref : Int32) (v_ms : Nat → Int32) (v_mf : Nat → Int32) (p0 : Int32) (p1 : Int32) : Option (Int32 × Int32 × Int32 × Int32 × Int32 × (Nat → Int32) × (Nat → Int32)) :=
  (fX8_isWhale v_ms p0).bind fun q1 =>
  fX8_swims_21 (if q1 = 0 then 1 else (if (fX8_isCell p1) = 0 then 1 else 0)) p0 p1 m_thr m_rea m_det m_ref v_ms v_mf
set_option maxHeartbeats 4000000 in
set_option maxRecDepth 100000 in
theorem lX8_swims_185 {p : Program} {l : Launch} {e : Env} {s : State} {m : MethodId} {args : Array Value} {below : List Frame} {meth : Method} {c : Code} {Q : State → Prop} {D : va_G} {T : Nat → ClassId} {a_m a_ms a_mw a_mv a_mp a_mf a_ml a_mt a_mc : Nat} {m_chg : Int32} {m_err : Int32} {m_ans : Int32} {m_sav : Int32} {m_net : Int32} {m_lin : Int32} {m_tap : Int32} {m_her : Int32} {m_cmd : Int32} {A : Nat → Prop} {r : Int32 × Int32 × Int32 × Int32 × Int32 × (Nat → Int32) × (Nat → Int32)} (C : CallFix p m c cX8_swims 6 s args aw RX8) (hE : eK D T s) (hA : ∀ q : Nat, s.heap.size ≤ q → A q) (hret : WrRet p l e ({ frames := 5, cells := 0, slots := 0, locals := 110 } : Room) s m args below meth c Q cX8_swims .int D A [(a_m, .inr (8, [.ref a_ms, .ref a_mw, .ref a_mv, .ref a_mp, .ref a_mf, .int m_chg, .int r.2.1, .int r.2.2.1, .int r.2.2.2.1, .int r.2.2.2.2.1, .int m_err, .int m_ans, .int m_sav, .int m_net, .ref a_ml, .int m_lin, .ref a_mt, .ref a_mc, .int m_tap, .int m_her, .int m_cmd])), (a_ms, .inl (T 0, 103, .inl r.2.2.2.2.2.1)), (a_mf, .inl (T 0, 45, .inl r.2.2.2.2.2.2))] r.1) (x1 : Int32) (l1 : Int32) (l2 : Int32) (l4 : Int32) (l5 : Int32) (m_thr : Int32) (m_rea : Int32) (m_det : Int32) (m_ref : Int32) (v_ms : Nat → Int32) (v_mf : Nat → Int32) {H : Heap} {locs : List Loc} (hPD : va_PD D A [(a_m, .inr (8, [.ref a_ms, .ref a_mw, .ref a_mv, .ref a_mp, .ref a_mf, .int m_chg, .int m_thr, .int m_rea, .int m_det, .int m_ref, .int m_err, .int m_ans, .int m_sav, .int m_net, .ref a_ml, .int m_lin, .ref a_mt, .ref a_mc, .int m_tap, .int m_her, .int m_cmd])), (a_ms, .inl (T 0, 103, .inl v_ms)), (a_mf, .inl (T 0, 45, .inl v_mf))] H) (hS : va_S A s.heap H locs) (ls : Array Slot) (hl : lv_has ls 6 [(0, .ref a_m), (1, .int l1), (2, .int l2), (4, .int l4), (5, .int l5)]) (h : fX8_swims_185 x1 l1 l2 l4 l5 m_thr m_rea m_det m_ref v_ms v_mf = some r) : W p l e ({ frames := 5, cells := 0, slots := 0, locals := 110 } : Room) s m args below meth c H locs 0 0 Q (F0 m 185 ls [.int x1, .ref a_m]) := by
  have hx := C.1
  have hb := C.2.1
  obtain ⟨hP, hD⟩ := hPD
  unfold fX8_swims_185 at h
  refine lv_bipush (v := 6) hx hb dX8_swims_185 (by decide) ?_
  refine lv_iload hx hb dX8_swims_187 (lv_at hl 4 rfl) ?_
  replace h := bnd h; obtain ⟨q46, e47, h⟩ := h
  refine wrVi (ws1 := [(a_m, .inr (8, [.ref a_ms, .ref a_mw, .ref a_mv, .ref a_mp, .ref a_mf, .int m_chg, .int q46.2.1, .int q46.2.2.1, .int q46.2.2.2.1, .int q46.2.2.2.2, .int m_err, .int m_ans, .int m_sav, .int m_net, .ref a_ml, .int m_lin, .ref a_mt, .ref a_mc, .int m_tap, .int m_her, .int m_cmd])), (a_ms, .inl (T 0, 103, .inl v_ms)), (a_mf, .inl (T 0, 45, .inl v_mf))]) C hE hP hD hS hA (kX8_isRefused l D T a_m a_ms a_mw a_mv a_mp a_mf a_ml a_mt a_mc m_chg m_thr m_rea m_det m_ref m_err m_ans m_sav m_net m_lin m_tap m_her m_cmd x1 6 l5 _ q46 e47) mX8_isRefused qLX8_99 [0] [1, 2] 0 rfl rfl rfl rfl rfl rfl rfl rfl rfl ⟨rfl, rfl⟩ ⟨Nat.le_of_ble_eq_true rfl, Nat.le_of_ble_eq_true rfl⟩ rfl hl.1 rfl (Nat.le_of_ble_eq_true rfl) dX8_swims_189 ⟨Nat.le_of_ble_eq_true rfl, Nat.le_of_ble_eq_true rfl⟩ ?_; clear hP hD hS; intro H locs hP hD hS
  refine lv_if_eq (tgt := 197) hx hb dX8_swims_192 (by decide) (fun c48 => ?_) (fun c48 => ?_)
  · replace h := ite_t c48 h
    refine lv_aload_n hx hb dX8_swims_197 rfl (lv_at hl 0 rfl) ?_
    refine lv_iload_n hx hb dX8_swims_198 rfl (lv_at hl 1 rfl) ?_
    refine lv_iconst (v := 4) hx hb dX8_swims_199 (by decide) ?_
    refine lv_iload_n hx hb dX8_swims_200 rfl (lv_at hl 2 rfl) ?_
    replace h := bnd h; obtain ⟨q49, e50, h⟩ := h
    refine wrVv (ws1 := [(a_m, .inr (8, [.ref a_ms, .ref a_mw, .ref a_mv, .ref a_mp, .ref a_mf, .int m_chg, .int q46.2.1, .int q46.2.2.1, .int q46.2.2.2.1, .int q46.2.2.2.2, .int m_err, .int m_ans, .int m_sav, .int m_net, .ref a_ml, .int m_lin, .ref a_mt, .ref a_mc, .int m_tap, .int m_her, .int m_cmd])), (a_ms, .inl (T 0, 103, .inl q49)), (a_mf, .inl (T 0, 45, .inl v_mf))]) C hE hP hD hS hA (kX8_sets l D T a_m a_ms a_mw a_mv a_mp a_mf a_ml a_mt a_mc m_chg q46.2.1 q46.2.2.1 q46.2.2.2.1 q46.2.2.2.2 m_err m_ans m_sav m_net m_lin m_tap m_her m_cmd v_ms l1 4 l2 _ q49 e50) mX8_sets qLX8_103 [0, 1] [2] 0 rfl rfl rfl rfl rfl rfl rfl rfl rfl ⟨rfl, rfl⟩ ⟨Nat.le_of_ble_eq_true rfl, Nat.le_of_ble_eq_true rfl⟩ rfl hl.1 rfl (Nat.le_of_ble_eq_true rfl) dX8_swims_201 ⟨Nat.le_of_ble_eq_true rfl, Nat.le_of_ble_eq_true rfl⟩ ?_; clear hP hD hS; intro H locs hP hD hS
    refine lv_aload_n hx hb dX8_swims_204 rfl (lv_at hl 0 rfl) ?_
    refine lv_iload_n hx hb dX8_swims_205 rfl (lv_at hl 1 rfl) ?_
    refine lv_iconst (v := 3) hx hb dX8_swims_206 (by decide) ?_
    refine lv_iload hx hb dX8_swims_207 (lv_at hl 4 rfl) ?_
    refine lv_iload hx hb dX8_swims_209 (lv_at hl 3 rfl) ?_
    refine lv_isub hx hb dX8_swims_211 ?_
    replace h := bnd h; obtain ⟨q51, e52, h⟩ := h
    refine wrVv (ws1 := [(a_m, .inr (8, [.ref a_ms, .ref a_mw, .ref a_mv, .ref a_mp, .ref a_mf, .int m_chg, .int q46.2.1, .int q46.2.2.1, .int q46.2.2.2.1, .int q46.2.2.2.2, .int m_err, .int m_ans, .int m_sav, .int m_net, .ref a_ml, .int m_lin, .ref a_mt, .ref a_mc, .int m_tap, .int m_her, .int m_cmd])), (a_ms, .inl (T 0, 103, .inl q51)), (a_mf, .inl (T 0, 45, .inl v_mf))]) C hE hP hD hS hA (kX8_sets l D T a_m a_ms a_mw a_mv a_mp a_mf a_ml a_mt a_mc m_chg q46.2.1 q46.2.2.1 q46.2.2.2.1 q46.2.2.2.2 m_err m_ans m_sav m_net m_lin m_tap m_her m_cmd q49 l1 3 (l5 - l4) _ q51 e52) mX8_sets qLX8_103 [0, 1] [2] 0 rfl rfl rfl rfl rfl rfl rfl rfl rfl ⟨rfl, rfl⟩ ⟨Nat.le_of_ble_eq_true rfl, Nat.le_of_ble_eq_true rfl⟩ rfl hl.1 rfl (Nat.le_of_ble_eq_true rfl) dX8_swims_212 ⟨Nat.le_of_ble_eq_true rfl, Nat.le_of_ble_eq_true rfl⟩ ?_; clear hP hD hS; intro H locs hP hD hS
    refine lv_aload_n hx hb dX8_swims_215 rfl (lv_at hl 0 rfl) ?_
    refine lv_iload_n hx hb dX8_swims_216 rfl (lv_at hl 1 rfl) ?_
    refine lv_iconst (v := 5) hx hb dX8_swims_217 (by decide) ?_
    refine lv_iconst (v := 0) hx hb dX8_swims_218 (by decide) ?_
    replace h := bnd h; obtain ⟨q53, e54, h⟩ := h
    refine wrVv (ws1 := [(a_m, .inr (8, [.ref a_ms, .ref a_mw, .ref a_mv, .ref a_mp, .ref a_mf, .int m_chg, .int q46.2.1, .int q46.2.2.1, .int q46.2.2.2.1, .int q46.2.2.2.2, .int m_err, .int m_ans, .int m_sav, .int m_net, .ref a_ml, .int m_lin, .ref a_mt, .ref a_mc, .int m_tap, .int m_her, .int m_cmd])), (a_ms, .inl (T 0, 103, .inl q53)), (a_mf, .inl (T 0, 45, .inl v_mf))]) C hE hP hD hS hA (kX8_sets l D T a_m a_ms a_mw a_mv a_mp a_mf a_ml a_mt a_mc m_chg q46.2.1 q46.2.2.1 q46.2.2.2.1 q46.2.2.2.2 m_err m_ans m_sav m_net m_lin m_tap m_her m_cmd q51 l1 5 0 _ q53 e54) mX8_sets qLX8_103 [0, 1] [2] 0 rfl rfl rfl rfl rfl rfl rfl rfl rfl ⟨rfl, rfl⟩ ⟨Nat.le_of_ble_eq_true rfl, Nat.le_of_ble_eq_true rfl⟩ rfl hl.1 rfl (Nat.le_of_ble_eq_true rfl) dX8_swims_219 ⟨Nat.le_of_ble_eq_true rfl, Nat.le_of_ble_eq_true rfl⟩ ?_; clear hP hD hS; intro H locs hP hD hS
    refine lv_aload_n hx hb dX8_swims_222 rfl (lv_at hl 0 rfl) ?_
    refine lv_iload hx hb dX8_swims_223 (lv_at hl 3 rfl) ?_
    replace h := bnd h; obtain ⟨q55, e56, h⟩ := h
    refine wrVi (ws1 := [(a_m, .inr (8, [.ref a_ms, .ref a_mw, .ref a_mv, .ref a_mp, .ref a_mf, .int m_chg, .int q46.2.1, .int q46.2.2.1, .int q46.2.2.2.1, .int q46.2.2.2.2, .int m_err, .int m_ans, .int m_sav, .int m_net, .ref a_ml, .int m_lin, .ref a_mt, .ref a_mc, .int m_tap, .int m_her, .int m_cmd])), (a_ms, .inl (T 0, 103, .inl q55.2)), (a_mf, .inl (T 0, 45, .inl v_mf))]) C hE hP hD hS hA (kX8_strokes l D T a_m a_ms a_mw a_mv a_mp a_mf a_ml a_mt a_mc m_chg q46.2.1 q46.2.2.1 q46.2.2.2.1 q46.2.2.2.2 m_err m_ans m_sav m_net m_lin m_tap m_her m_cmd q53 l4 _ q55 e56) mX8_strokes qLX8_130 [0, 1] [2] 0 rfl rfl rfl rfl rfl rfl rfl rfl rfl ⟨rfl, rfl⟩ ⟨Nat.le_of_ble_eq_true rfl, Nat.le_of_ble_eq_true rfl⟩ rfl hl.1 rfl (Nat.le_of_ble_eq_true rfl) dX8_swims_225 ⟨Nat.le_of_ble_eq_true rfl, Nat.le_of_ble_eq_true rfl⟩ ?_; clear hP hD hS; intro H locs hP hD hS
    replace h := Option.some.inj h
    exact hret _ _ _ _ _ _ dX8_swims_228 rfl (by rw [← h] <;> rfl) (by rw [← h]; exact hP) hS
  · replace h := ite_f c48 h
    refine lv_iconst (v := 0) hx hb dX8_swims_195 (by decide) ?_
    replace h := Option.some.inj h
    exact hret _ _ _ _ _ _ dX8_swims_196 rfl (by rw [← h] <;> rfl) (by rw [← h]; exact hP) hS
set_option maxHeartbeats 4000000 in
set_option maxRecDepth 100000 in
theorem lX8_swims_166 {p : Program} {l : Launch} {e : Env} {s : State} {m : MethodId} {args : Array Value} {below : List Frame} {meth : Method} {c : Code} {Q : State → Prop} {D : va_G} {T : Nat → ClassId} {a_m a_ms a_mw a_mv a_mp a_mf a_ml a_mt a_mc : Nat} {m_chg : Int32} {m_err : Int32} {m_ans : Int32} {m_sav : Int32} {m_net : Int32} {m_lin : Int32} {m_tap : Int32} {m_her : Int32} {m_cmd : Int32} {A : Nat → Prop} {r : Int32 × Int32 × Int32 × Int32 × Int32 × (Nat → Int32) × (Nat → Int32)} (C : CallFix p m c cX8_swims 6 s args aw RX8) (hE : eK D T s) (hA : ∀ q : Nat, s.heap.size ≤ q → A q) (hret : WrRet p l e ({ frames := 5, cells := 0, slots := 0, locals := 110 } : Room) s m args below meth c Q cX8_swims .int D A [(a_m, .inr (8, [.ref a_ms, .ref a_mw, .ref a_mv, .ref a_mp, .ref a_mf, .int m_chg, .int r.2.1, .int r.2.2.1, .int r.2.2.2.1, .int r.2.2.2.2.1, .int m_err, .int m_ans, .int m_sav, .int m_net, .ref a_ml, .int m_lin, .ref a_mt, .ref a_mc, .int m_tap, .int m_her, .int m_cmd])), (a_ms, .inl (T 0, 103, .inl r.2.2.2.2.2.1)), (a_mf, .inl (T 0, 45, .inl r.2.2.2.2.2.2))] r.1) (x1 : Int32) (x2 : Int32) (x3 : Int32) (l1 : Int32) (l2 : Int32) (l4 : Int32) (l5 : Int32) (m_thr : Int32) (m_rea : Int32) (m_det : Int32) (m_ref : Int32) (v_ms : Nat → Int32) (v_mf : Nat → Int32) {H : Heap} {locs : List Loc} (hPD : va_PD D A [(a_m, .inr (8, [.ref a_ms, .ref a_mw, .ref a_mv, .ref a_mp, .ref a_mf, .int m_chg, .int m_thr, .int m_rea, .int m_det, .int m_ref, .int m_err, .int m_ans, .int m_sav, .int m_net, .ref a_ml, .int m_lin, .ref a_mt, .ref a_mc, .int m_tap, .int m_her, .int m_cmd])), (a_ms, .inl (T 0, 103, .inl v_ms)), (a_mf, .inl (T 0, 45, .inl v_mf))] H) (hS : va_S A s.heap H locs) (ls : Array Slot) (hl : lv_has ls 6 [(0, .ref a_m), (1, .int l1), (2, .int l2), (4, .int l4), (5, .int l5)]) (h : fX8_swims_166 x1 x2 x3 l1 l2 l4 l5 m_thr m_rea m_det m_ref v_ms v_mf = some r) : W p l e ({ frames := 5, cells := 0, slots := 0, locals := 110 } : Room) s m args below meth c H locs 0 0 Q (F0 m 166 ls [.int x3, .int x2, .int x1, .ref a_m]) := by
  have hx := C.1
  have hb := C.2.1
  obtain ⟨hP, hD⟩ := hPD
  unfold fX8_swims_166 at h
  replace h := bnd h; obtain ⟨q42, e43, h⟩ := h
  refine wrVi (ws1 := [(a_m, .inr (8, [.ref a_ms, .ref a_mw, .ref a_mv, .ref a_mp, .ref a_mf, .int m_chg, .int q42.2.1, .int q42.2.2.1, .int q42.2.2.2.1, .int q42.2.2.2.2, .int m_err, .int m_ans, .int m_sav, .int m_net, .ref a_ml, .int m_lin, .ref a_mt, .ref a_mc, .int m_tap, .int m_her, .int m_cmd])), (a_ms, .inl (T 0, 103, .inl v_ms)), (a_mf, .inl (T 0, 45, .inl v_mf))]) C hE hP hD hS hA (kX8_isRefused l D T a_m a_ms a_mw a_mv a_mp a_mf a_ml a_mt a_mc m_chg m_thr m_rea m_det m_ref m_err m_ans m_sav m_net m_lin m_tap m_her m_cmd x1 x2 x3 _ q42 e43) mX8_isRefused qLX8_99 [0] [1, 2] 0 rfl rfl rfl rfl rfl rfl rfl rfl rfl ⟨rfl, rfl⟩ ⟨Nat.le_of_ble_eq_true rfl, Nat.le_of_ble_eq_true rfl⟩ rfl hl.1 rfl (Nat.le_of_ble_eq_true rfl) dX8_swims_166 ⟨Nat.le_of_ble_eq_true rfl, Nat.le_of_ble_eq_true rfl⟩ ?_; clear hP hD hS; intro H locs hP hD hS
  refine lv_if_ne (tgt := 195) hx hb dX8_swims_169 (by decide) (fun c44 => ?_) (fun c44 => ?_)
  · replace h := ite_f c44 h
    refine lv_iconst (v := 0) hx hb dX8_swims_195 (by decide) ?_
    replace h := Option.some.inj h
    exact hret _ _ _ _ _ _ dX8_swims_196 rfl (by rw [← h] <;> rfl) (by rw [← h]; exact hP) hS
  · replace h := ite_t c44 h
    refine lv_aload_n hx hb dX8_swims_172 rfl (lv_at hl 0 rfl) ?_
    refine lv_iload hx hb dX8_swims_173 (lv_at hl 4 rfl) ?_
    refine lv_iload hx hb dX8_swims_175 (lv_at hl 3 rfl) ?_
    refine lv_icmp_ge (tgt := 184) hx hb dX8_swims_177 (by decide) (fun c45 => ?_) (fun c45 => ?_)
    · rw [if_pos c45] at h
      refine lv_iconst (v := 0) hx hb dX8_swims_184 (by decide) ?_
      exact lX8_swims_185 C hE hA hret 0 l1 l2 l4 l5 q42.2.1 q42.2.2.1 q42.2.2.2.1 q42.2.2.2.2 v_ms v_mf ⟨hP, hD⟩ hS _ (lv_sub hl [0, 1, 2, 3, 4] rfl) h
    · rw [if_neg c45] at h
      refine lv_iconst (v := 1) hx hb dX8_swims_180 (by decide) ?_
      refine lv_goto (tgt := 185) hx hb dX8_swims_181 (by decide) ?_
      exact lX8_swims_185 C hE hA hret 1 l1 l2 l4 l5 q42.2.1 q42.2.2.1 q42.2.2.2.1 q42.2.2.2.2 v_ms v_mf ⟨hP, hD⟩ hS _ (lv_sub hl [0, 1, 2, 3, 4] rfl) h
set_option maxHeartbeats 4000000 in
set_option maxRecDepth 100000 in
theorem lX8_swims_152 {p : Program} {l : Launch} {e : Env} {s : State} {m : MethodId} {args : Array Value} {below : List Frame} {meth : Method} {c : Code} {Q : State → Prop} {D : va_G} {T : Nat → ClassId} {a_m a_ms a_mw a_mv a_mp a_mf a_ml a_mt a_mc : Nat} {m_chg : Int32} {m_err : Int32} {m_ans : Int32} {m_sav : Int32} {m_net : Int32} {m_lin : Int32} {m_tap : Int32} {m_her : Int32} {m_cmd : Int32} {A : Nat → Prop} {r : Int32 × Int32 × Int32 × Int32 × Int32 × (Nat → Int32) × (Nat → Int32)} (C : CallFix p m c cX8_swims 6 s args aw RX8) (hE : eK D T s) (hA : ∀ q : Nat, s.heap.size ≤ q → A q) (hret : WrRet p l e ({ frames := 5, cells := 0, slots := 0, locals := 110 } : Room) s m args below meth c Q cX8_swims .int D A [(a_m, .inr (8, [.ref a_ms, .ref a_mw, .ref a_mv, .ref a_mp, .ref a_mf, .int m_chg, .int r.2.1, .int r.2.2.1, .int r.2.2.2.1, .int r.2.2.2.2.1, .int m_err, .int m_ans, .int m_sav, .int m_net, .ref a_ml, .int m_lin, .ref a_mt, .ref a_mc, .int m_tap, .int m_her, .int m_cmd])), (a_ms, .inl (T 0, 103, .inl r.2.2.2.2.2.1)), (a_mf, .inl (T 0, 45, .inl r.2.2.2.2.2.2))] r.1) (x1 : Int32) (l1 : Int32) (l2 : Int32) (l4 : Int32) (l5 : Int32) (m_thr : Int32) (m_rea : Int32) (m_det : Int32) (m_ref : Int32) (v_ms : Nat → Int32) (v_mf : Nat → Int32) {H : Heap} {locs : List Loc} (hPD : va_PD D A [(a_m, .inr (8, [.ref a_ms, .ref a_mw, .ref a_mv, .ref a_mp, .ref a_mf, .int m_chg, .int m_thr, .int m_rea, .int m_det, .int m_ref, .int m_err, .int m_ans, .int m_sav, .int m_net, .ref a_ml, .int m_lin, .ref a_mt, .ref a_mc, .int m_tap, .int m_her, .int m_cmd])), (a_ms, .inl (T 0, 103, .inl v_ms)), (a_mf, .inl (T 0, 45, .inl v_mf))] H) (hS : va_S A s.heap H locs) (ls : Array Slot) (hl : lv_has ls 6 [(0, .ref a_m), (1, .int l1), (2, .int l2), (4, .int l4), (5, .int l5)]) (h : fX8_swims_152 x1 l1 l2 l4 l5 m_thr m_rea m_det m_ref v_ms v_mf = some r) : W p l e ({ frames := 5, cells := 0, slots := 0, locals := 110 } : Room) s m args below meth c H locs 0 0 Q (F0 m 152 ls [.int x1, .ref a_m]) := by
  have hx := C.1
  have hb := C.2.1
  obtain ⟨hP, hD⟩ := hPD
  unfold fX8_swims_152 at h
  refine lv_iconst (v := 5) hx hb dX8_swims_152 (by decide) ?_
  refine lv_iload hx hb dX8_swims_153 (lv_at hl 3 rfl) ?_
  refine lv_bipush (v := 99) hx hb dX8_swims_155 (by decide) ?_
  refine lv_icmp_ne (tgt := 164) hx hb dX8_swims_157 (by decide) (fun c41 => ?_) (fun c41 => ?_)
  · rw [if_neg c41] at h
    refine lv_iload hx hb dX8_swims_164 (lv_at hl 3 rfl) ?_
    exact lX8_swims_166 C hE hA hret x1 5 l4 l1 l2 l4 l5 m_thr m_rea m_det m_ref v_ms v_mf ⟨hP, hD⟩ hS _ (lv_sub hl [0, 1, 2, 3, 4] rfl) h
  · rw [if_pos c41] at h
    refine lv_iconst (v := (-1)) hx hb dX8_swims_160 (by decide) ?_
    refine lv_goto (tgt := 166) hx hb dX8_swims_161 (by decide) ?_
    exact lX8_swims_166 C hE hA hret x1 5 (-1) l1 l2 l4 l5 m_thr m_rea m_det m_ref v_ms v_mf ⟨hP, hD⟩ hS _ (lv_sub hl [0, 1, 2, 3, 4] rfl) h
set_option maxHeartbeats 4000000 in
set_option maxRecDepth 100000 in
theorem lX8_swims_80 {p : Program} {l : Launch} {e : Env} {s : State} {m : MethodId} {args : Array Value} {below : List Frame} {meth : Method} {c : Code} {Q : State → Prop} {D : va_G} {T : Nat → ClassId} {a_m a_ms a_mw a_mv a_mp a_mf a_ml a_mt a_mc : Nat} {m_chg : Int32} {m_err : Int32} {m_ans : Int32} {m_sav : Int32} {m_net : Int32} {m_lin : Int32} {m_tap : Int32} {m_her : Int32} {m_cmd : Int32} {A : Nat → Prop} {r : Int32 × Int32 × Int32 × Int32 × Int32 × (Nat → Int32) × (Nat → Int32)} (C : CallFix p m c cX8_swims 6 s args aw RX8) (hE : eK D T s) (hA : ∀ q : Nat, s.heap.size ≤ q → A q) (hret : WrRet p l e ({ frames := 5, cells := 0, slots := 0, locals := 110 } : Room) s m args below meth c Q cX8_swims .int D A [(a_m, .inr (8, [.ref a_ms, .ref a_mw, .ref a_mv, .ref a_mp, .ref a_mf, .int m_chg, .int r.2.1, .int r.2.2.1, .int r.2.2.2.1, .int r.2.2.2.2.1, .int m_err, .int m_ans, .int m_sav, .int m_net, .ref a_ml, .int m_lin, .ref a_mt, .ref a_mc, .int m_tap, .int m_her, .int m_cmd])), (a_ms, .inl (T 0, 103, .inl r.2.2.2.2.2.1)), (a_mf, .inl (T 0, 45, .inl r.2.2.2.2.2.2))] r.1) (x1 : Int32) (l1 : Int32) (l2 : Int32) (l3 : Int32) (m_thr : Int32) (m_rea : Int32) (m_det : Int32) (m_ref : Int32) (v_ms : Nat → Int32) (v_mf : Nat → Int32) {H : Heap} {locs : List Loc} (hPD : va_PD D A [(a_m, .inr (8, [.ref a_ms, .ref a_mw, .ref a_mv, .ref a_mp, .ref a_mf, .int m_chg, .int m_thr, .int m_rea, .int m_det, .int m_ref, .int m_err, .int m_ans, .int m_sav, .int m_net, .ref a_ml, .int m_lin, .ref a_mt, .ref a_mc, .int m_tap, .int m_her, .int m_cmd])), (a_ms, .inl (T 0, 103, .inl v_ms)), (a_mf, .inl (T 0, 45, .inl v_mf))] H) (hS : va_S A s.heap H locs) (ls : Array Slot) (hl : lv_has ls 6 [(0, .ref a_m), (1, .int l1), (2, .int l2), (3, .int l3)]) (h : fX8_swims_80 x1 l1 l2 l3 m_thr m_rea m_det m_ref v_ms v_mf = some r) : W p l e ({ frames := 5, cells := 0, slots := 0, locals := 110 } : Room) s m args below meth c H locs 0 0 Q (F0 m 80 ls [.int x1, .ref a_m]) := by
  have hx := C.1
  have hb := C.2.1
  obtain ⟨hP, hD⟩ := hPD
  unfold fX8_swims_80 at h
  refine lv_bipush (v := 7) hx hb dX8_swims_80 (by decide) ?_
  refine lv_iload_n hx hb dX8_swims_82 rfl (lv_at hl 3 rfl) ?_
  replace h := bnd h; obtain ⟨q24, e25, h⟩ := h
  refine wrVi (ws1 := [(a_m, .inr (8, [.ref a_ms, .ref a_mw, .ref a_mv, .ref a_mp, .ref a_mf, .int m_chg, .int q24.2.1, .int q24.2.2.1, .int q24.2.2.2.1, .int q24.2.2.2.2, .int m_err, .int m_ans, .int m_sav, .int m_net, .ref a_ml, .int m_lin, .ref a_mt, .ref a_mc, .int m_tap, .int m_her, .int m_cmd])), (a_ms, .inl (T 0, 103, .inl v_ms)), (a_mf, .inl (T 0, 45, .inl v_mf))]) C hE hP hD hS hA (kX8_isRefused l D T a_m a_ms a_mw a_mv a_mp a_mf a_ml a_mt a_mc m_chg m_thr m_rea m_det m_ref m_err m_ans m_sav m_net m_lin m_tap m_her m_cmd x1 7 l3 _ q24 e25) mX8_isRefused qLX8_99 [0] [1, 2] 0 rfl rfl rfl rfl rfl rfl rfl rfl rfl ⟨rfl, rfl⟩ ⟨Nat.le_of_ble_eq_true rfl, Nat.le_of_ble_eq_true rfl⟩ rfl hl.1 rfl (Nat.le_of_ble_eq_true rfl) dX8_swims_83 ⟨Nat.le_of_ble_eq_true rfl, Nat.le_of_ble_eq_true rfl⟩ ?_; clear hP hD hS; intro H locs hP hD hS
  refine lv_if_ne (tgt := 112) hx hb dX8_swims_86 (by decide) (fun c26 => ?_) (fun c26 => ?_)
  · replace h := ite_f c26 h
    refine lv_iconst (v := 0) hx hb dX8_swims_112 (by decide) ?_
    replace h := Option.some.inj h
    exact hret _ _ _ _ _ _ dX8_swims_113 rfl (by rw [← h] <;> rfl) (by rw [← h]; exact hP) hS
  · replace h := ite_t c26 h
    refine lv_aload_n hx hb dX8_swims_89 rfl (lv_at hl 0 rfl) ?_
    refine lv_aload_n hx hb dX8_swims_90 rfl (lv_at hl 0 rfl) ?_
    refine lv_iload_n hx hb dX8_swims_91 rfl (lv_at hl 2 rfl) ?_
    replace h := bnd h; obtain ⟨q27, e28, h⟩ := h
    refine rdV C hE hP (kX8_isDryNow l D T a_m a_ms a_mw a_mv a_mp a_mf a_ml a_mt a_mc m_chg q24.2.1 q24.2.2.1 q24.2.2.2.1 q24.2.2.2.2 m_err m_ans m_sav m_net m_lin m_tap m_her m_cmd v_ms l2 q27 e28) mX8_isDryNow qLX8_84 [0, 1] 0 rfl rfl rfl rfl ⟨rfl, rfl⟩ ⟨Nat.le_of_ble_eq_true rfl, Nat.le_of_ble_eq_true rfl⟩ rfl hl.1 rfl (Nat.le_of_ble_eq_true rfl) dX8_swims_92 ⟨Nat.le_of_ble_eq_true rfl, Nat.le_of_ble_eq_true rfl⟩ ?_
    refine lv_bipush (v := 8) hx hb dX8_swims_95 (by decide) ?_
    refine lv_aload_n hx hb dX8_swims_97 rfl (lv_at hl 0 rfl) ?_
    refine getF (q0 := 0) (k0 := 0) (v := .ref a_ms) C hE hP inA8 rfl rfl (by decide) qFX8_9 rfl rfl dX8_swims_98 ?_
    refine lv_iconst (v := 1) hx hb dX8_swims_101 (by decide) ?_
    replace h := gd h; obtain ⟨g29, h⟩ := h
    refine aldI (q0 := 1) C hE hP rfl g29 dX8_swims_102 ?_
    refine rdS C hE hP (kX8_tideAt l D T (v_ms (1 : Int32).toNatClampNeg)) mX8_tideAt qLX8_68 [] rfl ⟨rfl, rfl⟩ ⟨Nat.le_of_ble_eq_true rfl, Nat.le_of_ble_eq_true rfl⟩ rfl hl.1 rfl (Nat.le_of_ble_eq_true rfl) dX8_swims_103 ⟨Nat.le_of_ble_eq_true rfl, Nat.le_of_ble_eq_true rfl⟩ ?_
    replace h := bnd h; obtain ⟨q30, e31, h⟩ := h
    refine wrVi (ws1 := [(a_m, .inr (8, [.ref a_ms, .ref a_mw, .ref a_mv, .ref a_mp, .ref a_mf, .int m_chg, .int q30.2.1, .int q30.2.2.1, .int q30.2.2.2.1, .int q30.2.2.2.2, .int m_err, .int m_ans, .int m_sav, .int m_net, .ref a_ml, .int m_lin, .ref a_mt, .ref a_mc, .int m_tap, .int m_her, .int m_cmd])), (a_ms, .inl (T 0, 103, .inl v_ms)), (a_mf, .inl (T 0, 45, .inl v_mf))]) C hE hP hD hS hA (kX8_isRefused l D T a_m a_ms a_mw a_mv a_mp a_mf a_ml a_mt a_mc m_chg q24.2.1 q24.2.2.1 q24.2.2.2.1 q24.2.2.2.2 m_err m_ans m_sav m_net m_lin m_tap m_her m_cmd q27 8 (fX8_tideAt (v_ms (1 : Int32).toNatClampNeg)) _ q30 e31) mX8_isRefused qLX8_99 [0] [1, 2] 0 rfl rfl rfl rfl rfl rfl rfl rfl rfl ⟨rfl, rfl⟩ ⟨Nat.le_of_ble_eq_true rfl, Nat.le_of_ble_eq_true rfl⟩ rfl hl.1 rfl (Nat.le_of_ble_eq_true rfl) dX8_swims_106 ⟨Nat.le_of_ble_eq_true rfl, Nat.le_of_ble_eq_true rfl⟩ ?_; clear hP hD hS; intro H locs hP hD hS
    refine lv_if_eq (tgt := 114) hx hb dX8_swims_109 (by decide) (fun c32 => ?_) (fun c32 => ?_)
    · replace h := ite_t c32 h
      refine lv_aload_n hx hb dX8_swims_114 rfl (lv_at hl 0 rfl) ?_
      refine lv_iload_n hx hb dX8_swims_115 rfl (lv_at hl 1 rfl) ?_
      replace h := bnd h; obtain ⟨q33, e34, h⟩ := h
      refine wrVv (ws1 := [(a_m, .inr (8, [.ref a_ms, .ref a_mw, .ref a_mv, .ref a_mp, .ref a_mf, .int m_chg, .int q30.2.1, .int q30.2.2.1, .int q30.2.2.2.1, .int q30.2.2.2.2, .int m_err, .int m_ans, .int m_sav, .int m_net, .ref a_ml, .int m_lin, .ref a_mt, .ref a_mc, .int m_tap, .int m_her, .int m_cmd])), (a_ms, .inl (T 0, 103, .inl v_ms)), (a_mf, .inl (T 0, 45, .inl q33))]) C hE hP hD hS hA (kX8_finds l D T a_m a_ms a_mw a_mv a_mp a_mf a_ml a_mt a_mc m_chg q30.2.1 q30.2.2.1 q30.2.2.2.1 q30.2.2.2.2 m_err m_ans m_sav m_net m_lin m_tap m_her m_cmd v_ms v_mf l1 _ q33 e34) mX8_finds qLX8_139 [0, 1, 2] [] 0 rfl rfl rfl rfl rfl rfl rfl rfl rfl ⟨rfl, rfl⟩ ⟨Nat.le_of_ble_eq_true rfl, Nat.le_of_ble_eq_true rfl⟩ rfl hl.1 rfl (Nat.le_of_ble_eq_true rfl) dX8_swims_116 ⟨Nat.le_of_ble_eq_true rfl, Nat.le_of_ble_eq_true rfl⟩ ?_; clear hP hD hS; intro H locs hP hD hS
      refine lv_aload_n hx hb dX8_swims_119 rfl (lv_at hl 0 rfl) ?_
      refine getF (q0 := 0) (k0 := 4) (v := .ref a_mf) C hE hP inA8 rfl rfl (by decide) qFX8_22 rfl rfl dX8_swims_120 ?_
      refine lv_iload_n hx hb dX8_swims_123 rfl (lv_at hl 2 rfl) ?_
      replace h := gd h; obtain ⟨g35, h⟩ := h
      refine aldI (q0 := 2) C hE hP rfl g35 dX8_swims_124 ?_
      refine lv_istore (lv' := [(4, .int (q33 l2.toNatClampNeg)), (0, .ref a_m), (1, .int l1), (2, .int l2), (3, .int l3)]) hx hb dX8_swims_125 hl (by decide) rfl (fun ls hl => ?_)
      refine lv_aload_n hx hb dX8_swims_127 rfl (lv_at hl 1 rfl) ?_
      refine lv_iload_n hx hb dX8_swims_128 rfl (lv_at hl 2 rfl) ?_
      refine lv_iconst (v := 3) hx hb dX8_swims_129 (by decide) ?_
      replace h := bnd h; obtain ⟨q36, e37, h⟩ := h
      refine rdV C hE hP (kX8_of l D T a_m a_ms a_mw a_mv a_mp a_mf a_ml a_mt a_mc m_chg q30.2.1 q30.2.2.1 q30.2.2.2.1 q30.2.2.2.2 m_err m_ans m_sav m_net m_lin m_tap m_her m_cmd v_ms l1 3 q36 e37) mX8_of qLX8_90 [0, 1] 0 rfl rfl rfl rfl ⟨rfl, rfl⟩ ⟨Nat.le_of_ble_eq_true rfl, Nat.le_of_ble_eq_true rfl⟩ rfl hl.1 rfl (Nat.le_of_ble_eq_true rfl) dX8_swims_130 ⟨Nat.le_of_ble_eq_true rfl, Nat.le_of_ble_eq_true rfl⟩ ?_
      refine lv_istore (lv' := [(5, .int q36), (4, .int (q33 l2.toNatClampNeg)), (0, .ref a_m), (1, .int l1), (2, .int l2), (3, .int l3)]) hx hb dX8_swims_133 hl (by decide) rfl (fun ls hl => ?_)
      refine lv_aload_n hx hb dX8_swims_135 rfl (lv_at hl 2 rfl) ?_
      refine lv_iload hx hb dX8_swims_136 (lv_at hl 1 rfl) ?_
      refine lv_aload_n hx hb dX8_swims_138 rfl (lv_at hl 2 rfl) ?_
      refine lv_iload_n hx hb dX8_swims_139 rfl (lv_at hl 3 rfl) ?_
      refine lv_iconst (v := 2) hx hb dX8_swims_140 (by decide) ?_
      replace h := bnd h; obtain ⟨q38, e39, h⟩ := h
      refine rdV C hE hP (kX8_of l D T a_m a_ms a_mw a_mv a_mp a_mf a_ml a_mt a_mc m_chg q30.2.1 q30.2.2.1 q30.2.2.2.1 q30.2.2.2.2 m_err m_ans m_sav m_net m_lin m_tap m_her m_cmd v_ms l1 2 q38 e39) mX8_of qLX8_90 [0, 1] 0 rfl rfl rfl rfl ⟨rfl, rfl⟩ ⟨Nat.le_of_ble_eq_true rfl, Nat.le_of_ble_eq_true rfl⟩ rfl hl.1 rfl (Nat.le_of_ble_eq_true rfl) dX8_swims_141 ⟨Nat.le_of_ble_eq_true rfl, Nat.le_of_ble_eq_true rfl⟩ ?_
      refine lv_icmp_le (tgt := 151) hx hb dX8_swims_144 (by decide) (fun c40 => ?_) (fun c40 => ?_)
      · rw [if_pos c40] at h
        refine lv_iconst (v := 0) hx hb dX8_swims_151 (by decide) ?_
        exact lX8_swims_152 C hE hA hret 0 l1 l2 (q33 l2.toNatClampNeg) q36 q30.2.1 q30.2.2.1 q30.2.2.2.1 q30.2.2.2.2 v_ms q33 ⟨hP, hD⟩ hS _ (lv_sub hl [2, 3, 4, 1, 0] rfl) h
      · rw [if_neg c40] at h
        refine lv_iconst (v := 1) hx hb dX8_swims_147 (by decide) ?_
        refine lv_goto (tgt := 152) hx hb dX8_swims_148 (by decide) ?_
        exact lX8_swims_152 C hE hA hret 1 l1 l2 (q33 l2.toNatClampNeg) q36 q30.2.1 q30.2.2.1 q30.2.2.2.1 q30.2.2.2.2 v_ms q33 ⟨hP, hD⟩ hS _ (lv_sub hl [2, 3, 4, 1, 0] rfl) h
    · replace h := ite_f c32 h
      refine lv_iconst (v := 0) hx hb dX8_swims_112 (by decide) ?_
      replace h := Option.some.inj h
      exact hret _ _ _ _ _ _ dX8_swims_113 rfl (by rw [← h] <;> rfl) (by rw [← h]; exact hP) hS
set_option maxHeartbeats 4000000 in
set_option maxRecDepth 100000 in
theorem lX8_swims_21 {p : Program} {l : Launch} {e : Env} {s : State} {m : MethodId} {args : Array Value} {below : List Frame} {meth : Method} {c : Code} {Q : State → Prop} {D : va_G} {T : Nat → ClassId} {a_m a_ms a_mw a_mv a_mp a_mf a_ml a_mt a_mc : Nat} {m_chg : Int32} {m_err : Int32} {m_ans : Int32} {m_sav : Int32} {m_net : Int32} {m_lin : Int32} {m_tap : Int32} {m_her : Int32} {m_cmd : Int32} {A : Nat → Prop} {r : Int32 × Int32 × Int32 × Int32 × Int32 × (Nat → Int32) × (Nat → Int32)} (C : CallFix p m c cX8_swims 6 s args aw RX8) (hE : eK D T s) (hA : ∀ q : Nat, s.heap.size ≤ q → A q) (hret : WrRet p l e ({ frames := 5, cells := 0, slots := 0, locals := 110 } : Room) s m args below meth c Q cX8_swims .int D A [(a_m, .inr (8, [.ref a_ms, .ref a_mw, .ref a_mv, .ref a_mp, .ref a_mf, .int m_chg, .int r.2.1, .int r.2.2.1, .int r.2.2.2.1, .int r.2.2.2.2.1, .int m_err, .int m_ans, .int m_sav, .int m_net, .ref a_ml, .int m_lin, .ref a_mt, .ref a_mc, .int m_tap, .int m_her, .int m_cmd])), (a_ms, .inl (T 0, 103, .inl r.2.2.2.2.2.1)), (a_mf, .inl (T 0, 45, .inl r.2.2.2.2.2.2))] r.1) (x1 : Int32) (l1 : Int32) (l2 : Int32) (m_thr : Int32) (m_rea : Int32) (m_det : Int32) (m_ref : Int32) (v_ms : Nat → Int32) (v_mf : Nat → Int32) {H : Heap} {locs : List Loc} (hPD : va_PD D A [(a_m, .inr (8, [.ref a_ms, .ref a_mw, .ref a_mv, .ref a_mp, .ref a_mf, .int m_chg, .int m_thr, .int m_rea, .int m_det, .int m_ref, .int m_err, .int m_ans, .int m_sav, .int m_net, .ref a_ml, .int m_lin, .ref a_mt, .ref a_mc, .int m_tap, .int m_her, .int m_cmd])), (a_ms, .inl (T 0, 103, .inl v_ms)), (a_mf, .inl (T 0, 45, .inl v_mf))] H) (hS : va_S A s.heap H locs) (ls : Array Slot) (hl : lv_has ls 6 [(0, .ref a_m), (1, .int l1), (2, .int l2)]) (h : fX8_swims_21 x1 l1 l2 m_thr m_rea m_det m_ref v_ms v_mf = some r) : W p l e ({ frames := 5, cells := 0, slots := 0, locals := 110 } : Room) s m args below meth c H locs 0 0 Q (F0 m 21 ls [.int x1, .ref a_m]) := by
  have hx := C.1
  have hb := C.2.1
  obtain ⟨hP, hD⟩ := hPD
  unfold fX8_swims_21 at h
  refine lv_iconst (v := 1) hx hb dX8_swims_21 (by decide) ?_
  replace h := bnd h; obtain ⟨q5, e6, h⟩ := h
  refine wrVi (ws1 := [(a_m, .inr (8, [.ref a_ms, .ref a_mw, .ref a_mv, .ref a_mp, .ref a_mf, .int m_chg, .int q5.2, .int m_rea, .int m_det, .int m_ref, .int m_err, .int m_ans, .int m_sav, .int m_net, .ref a_ml, .int m_lin, .ref a_mt, .ref a_mc, .int m_tap, .int m_her, .int m_cmd])), (a_ms, .inl (T 0, 103, .inl v_ms)), (a_mf, .inl (T 0, 45, .inl v_mf))]) C hE hP hD hS hA (kX8_isThrown l D T a_m a_ms a_mw a_mv a_mp a_mf a_ml a_mt a_mc m_chg m_thr m_rea m_det m_ref m_err m_ans m_sav m_net m_lin m_tap m_her m_cmd x1 1 _ q5 e6) mX8_isThrown qLX8_80 [0] [1, 2] 0 rfl rfl rfl rfl rfl rfl rfl rfl rfl ⟨rfl, rfl⟩ ⟨Nat.le_of_ble_eq_true rfl, Nat.le_of_ble_eq_true rfl⟩ rfl hl.1 rfl (Nat.le_of_ble_eq_true rfl) dX8_swims_22 ⟨Nat.le_of_ble_eq_true rfl, Nat.le_of_ble_eq_true rfl⟩ ?_; clear hP hD hS; intro H locs hP hD hS
  refine lv_if_ne (tgt := 43) hx hb dX8_swims_25 (by decide) (fun c7 => ?_) (fun c7 => ?_)
  · replace h := ite_f c7 h
    refine lv_iconst (v := 0) hx hb dX8_swims_43 (by decide) ?_
    replace h := Option.some.inj h
    exact hret _ _ _ _ _ _ dX8_swims_44 rfl (by rw [← h] <;> rfl) (by rw [← h]; exact hP) hS
  · replace h := ite_t c7 h
    refine lv_aload_n hx hb dX8_swims_28 rfl (lv_at hl 0 rfl) ?_
    replace h := bnd h; obtain ⟨q8, e9, h⟩ := h
    refine wrVi (ws1 := [(a_m, .inr (8, [.ref a_ms, .ref a_mw, .ref a_mv, .ref a_mp, .ref a_mf, .int m_chg, .int q8.2.1, .int q8.2.2.1, .int q8.2.2.2.1, .int q8.2.2.2.2, .int m_err, .int m_ans, .int m_sav, .int m_net, .ref a_ml, .int m_lin, .ref a_mt, .ref a_mc, .int m_tap, .int m_her, .int m_cmd])), (a_ms, .inl (T 0, 103, .inl v_ms)), (a_mf, .inl (T 0, 45, .inl v_mf))]) C hE hP hD hS hA (kX8_isOver l D T a_m a_ms a_mw a_mv a_mp a_mf a_ml a_mt a_mc m_chg q5.2 m_rea m_det m_ref m_err m_ans m_sav m_net m_lin m_tap m_her m_cmd v_ms _ q8 e9) mX8_isOver qLX8_123 [0, 1] [2] 0 rfl rfl rfl rfl rfl rfl rfl rfl rfl ⟨rfl, rfl⟩ ⟨Nat.le_of_ble_eq_true rfl, Nat.le_of_ble_eq_true rfl⟩ rfl hl.1 rfl (Nat.le_of_ble_eq_true rfl) dX8_swims_29 ⟨Nat.le_of_ble_eq_true rfl, Nat.le_of_ble_eq_true rfl⟩ ?_; clear hP hD hS; intro H locs hP hD hS
    refine lv_if_ne (tgt := 43) hx hb dX8_swims_32 (by decide) (fun c10 => ?_) (fun c10 => ?_)
    · replace h := ite_f c10 h
      refine lv_iconst (v := 0) hx hb dX8_swims_43 (by decide) ?_
      replace h := Option.some.inj h
      exact hret _ _ _ _ _ _ dX8_swims_44 rfl (by rw [← h] <;> rfl) (by rw [← h]; exact hP) hS
    · replace h := ite_t c10 h
      refine lv_aload_n hx hb dX8_swims_35 rfl (lv_at hl 0 rfl) ?_
      refine lv_iload_n hx hb dX8_swims_36 rfl (lv_at hl 1 rfl) ?_
      replace h := bnd h; obtain ⟨q11, e12, h⟩ := h
      refine wrVi (ws1 := [(a_m, .inr (8, [.ref a_ms, .ref a_mw, .ref a_mv, .ref a_mp, .ref a_mf, .int m_chg, .int q11.2.1, .int q11.2.2.1, .int q11.2.2.2.1, .int q11.2.2.2.2, .int m_err, .int m_ans, .int m_sav, .int m_net, .ref a_ml, .int m_lin, .ref a_mt, .ref a_mc, .int m_tap, .int m_her, .int m_cmd])), (a_ms, .inl (T 0, 103, .inl v_ms)), (a_mf, .inl (T 0, 45, .inl v_mf))]) C hE hP hD hS hA (kX8_isOnBench l D T a_m a_ms a_mw a_mv a_mp a_mf a_ml a_mt a_mc m_chg q8.2.1 q8.2.2.1 q8.2.2.2.1 q8.2.2.2.2 m_err m_ans m_sav m_net m_lin m_tap m_her m_cmd v_ms l1 _ q11 e12) mX8_isOnBench qLX8_127 [0, 1] [2] 0 rfl rfl rfl rfl rfl rfl rfl rfl rfl ⟨rfl, rfl⟩ ⟨Nat.le_of_ble_eq_true rfl, Nat.le_of_ble_eq_true rfl⟩ rfl hl.1 rfl (Nat.le_of_ble_eq_true rfl) dX8_swims_37 ⟨Nat.le_of_ble_eq_true rfl, Nat.le_of_ble_eq_true rfl⟩ ?_; clear hP hD hS; intro H locs hP hD hS
      refine lv_if_eq (tgt := 45) hx hb dX8_swims_40 (by decide) (fun c13 => ?_) (fun c13 => ?_)
      · replace h := ite_t c13 h
        refine lv_aload_n hx hb dX8_swims_45 rfl (lv_at hl 0 rfl) ?_
        refine lv_iload_n hx hb dX8_swims_46 rfl (lv_at hl 2 rfl) ?_
        replace h := bnd h; obtain ⟨q14, e15, h⟩ := h
        refine rdV C hE hP (kX8_whaleAt l D T a_m a_ms a_mw a_mv a_mp a_mf a_ml a_mt a_mc m_chg q11.2.1 q11.2.2.1 q11.2.2.2.1 q11.2.2.2.2 m_err m_ans m_sav m_net m_lin m_tap m_her m_cmd v_ms l2 q14 e15) mX8_whaleAt qLX8_93 [0, 1] 0 rfl rfl rfl rfl ⟨rfl, rfl⟩ ⟨Nat.le_of_ble_eq_true rfl, Nat.le_of_ble_eq_true rfl⟩ rfl hl.1 rfl (Nat.le_of_ble_eq_true rfl) dX8_swims_47 ⟨Nat.le_of_ble_eq_true rfl, Nat.le_of_ble_eq_true rfl⟩ ?_
        refine lv_istore_n (lv' := [(3, .int q14), (0, .ref a_m), (1, .int l1), (2, .int l2)]) hx hb dX8_swims_50 rfl hl (by decide) rfl (fun ls hl => ?_)
        refine lv_aload_n hx hb dX8_swims_51 rfl (lv_at hl 1 rfl) ?_
        refine lv_aload_n hx hb dX8_swims_52 rfl (lv_at hl 1 rfl) ?_
        refine lv_iload_n hx hb dX8_swims_53 rfl (lv_at hl 2 rfl) ?_
        replace h := bnd h; obtain ⟨q16, e17, h⟩ := h
        refine rdV C hE hP (kX8_isStrandedNow l D T a_m a_ms a_mw a_mv a_mp a_mf a_ml a_mt a_mc m_chg q11.2.1 q11.2.2.1 q11.2.2.2.1 q11.2.2.2.2 m_err m_ans m_sav m_net m_lin m_tap m_her m_cmd v_ms l1 q16 e17) mX8_isStrandedNow qLX8_146 [0, 1] 0 rfl rfl rfl rfl ⟨rfl, rfl⟩ ⟨Nat.le_of_ble_eq_true rfl, Nat.le_of_ble_eq_true rfl⟩ rfl hl.1 rfl (Nat.le_of_ble_eq_true rfl) dX8_swims_54 ⟨Nat.le_of_ble_eq_true rfl, Nat.le_of_ble_eq_true rfl⟩ ?_
        refine lv_iconst (v := 4) hx hb dX8_swims_57 (by decide) ?_
        refine lv_aload_n hx hb dX8_swims_58 rfl (lv_at hl 1 rfl) ?_
        refine lv_iload_n hx hb dX8_swims_59 rfl (lv_at hl 2 rfl) ?_
        refine lv_iconst (v := 4) hx hb dX8_swims_60 (by decide) ?_
        replace h := bnd h; obtain ⟨q18, e19, h⟩ := h
        refine rdV C hE hP (kX8_of l D T a_m a_ms a_mw a_mv a_mp a_mf a_ml a_mt a_mc m_chg q11.2.1 q11.2.2.1 q11.2.2.2.1 q11.2.2.2.2 m_err m_ans m_sav m_net m_lin m_tap m_her m_cmd v_ms l1 4 q18 e19) mX8_of qLX8_90 [0, 1] 0 rfl rfl rfl rfl ⟨rfl, rfl⟩ ⟨Nat.le_of_ble_eq_true rfl, Nat.le_of_ble_eq_true rfl⟩ rfl hl.1 rfl (Nat.le_of_ble_eq_true rfl) dX8_swims_61 ⟨Nat.le_of_ble_eq_true rfl, Nat.le_of_ble_eq_true rfl⟩ ?_
        replace h := bnd h; obtain ⟨q20, e21, h⟩ := h
        refine wrVi (ws1 := [(a_m, .inr (8, [.ref a_ms, .ref a_mw, .ref a_mv, .ref a_mp, .ref a_mf, .int m_chg, .int q20.2.1, .int q20.2.2.1, .int q20.2.2.2.1, .int q20.2.2.2.2, .int m_err, .int m_ans, .int m_sav, .int m_net, .ref a_ml, .int m_lin, .ref a_mt, .ref a_mc, .int m_tap, .int m_her, .int m_cmd])), (a_ms, .inl (T 0, 103, .inl v_ms)), (a_mf, .inl (T 0, 45, .inl v_mf))]) C hE hP hD hS hA (kX8_isRefused l D T a_m a_ms a_mw a_mv a_mp a_mf a_ml a_mt a_mc m_chg q11.2.1 q11.2.2.1 q11.2.2.2.1 q11.2.2.2.2 m_err m_ans m_sav m_net m_lin m_tap m_her m_cmd q16 4 q18 _ q20 e21) mX8_isRefused qLX8_99 [0] [1, 2] 0 rfl rfl rfl rfl rfl rfl rfl rfl rfl ⟨rfl, rfl⟩ ⟨Nat.le_of_ble_eq_true rfl, Nat.le_of_ble_eq_true rfl⟩ rfl hl.1 rfl (Nat.le_of_ble_eq_true rfl) dX8_swims_64 ⟨Nat.le_of_ble_eq_true rfl, Nat.le_of_ble_eq_true rfl⟩ ?_; clear hP hD hS; intro H locs hP hD hS
        refine lv_if_ne (tgt := 112) hx hb dX8_swims_67 (by decide) (fun c22 => ?_) (fun c22 => ?_)
        · replace h := ite_f c22 h
          refine lv_iconst (v := 0) hx hb dX8_swims_112 (by decide) ?_
          replace h := Option.some.inj h
          exact hret _ _ _ _ _ _ dX8_swims_113 rfl (by rw [← h] <;> rfl) (by rw [← h]; exact hP) hS
        · replace h := ite_t c22 h
          refine lv_aload_n hx hb dX8_swims_70 rfl (lv_at hl 1 rfl) ?_
          refine lv_iload_n hx hb dX8_swims_71 rfl (lv_at hl 0 rfl) ?_
          refine lv_if_lt (tgt := 79) hx hb dX8_swims_72 (by decide) (fun c23 => ?_) (fun c23 => ?_)
          · rw [if_pos c23] at h
            refine lv_iconst (v := 0) hx hb dX8_swims_79 (by decide) ?_
            exact lX8_swims_80 C hE hA hret 0 l1 l2 q14 q20.2.1 q20.2.2.1 q20.2.2.2.1 q20.2.2.2.2 v_ms v_mf ⟨hP, hD⟩ hS _ (lv_sub hl [1, 2, 3, 0] rfl) h
          · rw [if_neg c23] at h
            refine lv_iconst (v := 1) hx hb dX8_swims_75 (by decide) ?_
            refine lv_goto (tgt := 80) hx hb dX8_swims_76 (by decide) ?_
            exact lX8_swims_80 C hE hA hret 1 l1 l2 q14 q20.2.1 q20.2.2.1 q20.2.2.2.1 q20.2.2.2.2 v_ms v_mf ⟨hP, hD⟩ hS _ (lv_sub hl [1, 2, 3, 0] rfl) h
      · replace h := ite_f c13 h
        refine lv_iconst (v := 0) hx hb dX8_swims_43 (by decide) ?_
        replace h := Option.some.inj h
        exact hret _ _ _ _ _ _ dX8_swims_44 rfl (by rw [← h] <;> rfl) (by rw [← h]; exact hP) hS
set_option maxHeartbeats 4000000 in
set_option maxRecDepth 100000 in
theorem kX8_swims (l : Launch) (D : va_G) (T : Nat → ClassId) (a_m a_ms a_mw a_mv a_mp a_mf a_ml a_mt a_mc : Nat) (m_chg : Int32) (m_thr : Int32) (m_rea : Int32) (m_det : Int32) (m_ref : Int32) (m_err : Int32) (m_ans : Int32) (m_sav : Int32) (m_net : Int32) (m_lin : Int32) (m_tap : Int32) (m_her : Int32) (m_cmd : Int32) (v_ms : Nat → Int32) (v_mf : Nat → Int32) (p0 : Int32) (p1 : Int32) (sz : Nat) (r : Int32 × Int32 × Int32 × Int32 × Int32 × (Nat → Int32) × (Nat → Int32)) (h : fX8_swims m_thr m_rea m_det m_ref v_ms v_mf p0 p1 = some r) : WrI l yX8_swims cX8_swims 6 .int ({ frames := 5, cells := 0, slots := 0, locals := 110 } : Room) D T sz [(a_m, .inr (8, [.ref a_ms, .ref a_mw, .ref a_mv, .ref a_mp, .ref a_mf, .int m_chg, .int m_thr, .int m_rea, .int m_det, .int m_ref, .int m_err, .int m_ans, .int m_sav, .int m_net, .ref a_ml, .int m_lin, .ref a_mt, .ref a_mc, .int m_tap, .int m_her, .int m_cmd])), (a_ms, .inl (T 0, 103, .inl v_ms)), (a_mf, .inl (T 0, 45, .inl v_mf))] [(a_m, .inr (8, [.ref a_ms, .ref a_mw, .ref a_mv, .ref a_mp, .ref a_mf, .int m_chg, .int r.2.1, .int r.2.2.1, .int r.2.2.2.1, .int r.2.2.2.2.1, .int m_err, .int m_ans, .int m_sav, .int m_net, .ref a_ml, .int m_lin, .ref a_mt, .ref a_mc, .int m_tap, .int m_her, .int m_cmd])), (a_ms, .inl (T 0, 103, .inl r.2.2.2.2.2.1)), (a_mf, .inl (T 0, 45, .inl r.2.2.2.2.2.2))] [.ref a_m, .int p0, .int p1] r.1 := by
  unfold fX8_swims at h
  refine wrMet (by decide +kernel) rfl (fun p e s m args below meth c Q A C hE hA hP hD hS hret ls hl => ?_)
  have hx := C.1
  have hb := C.2.1
  have hl : lv_has ls 6 [(0, .ref a_m), (1, .int p0), (2, .int p1)] := hl
  refine lv_aload_n hx hb dX8_swims_0 rfl (lv_at hl 0 rfl) ?_
  refine lv_aload_n hx hb dX8_swims_1 rfl (lv_at hl 0 rfl) ?_
  refine lv_iload_n hx hb dX8_swims_2 rfl (lv_at hl 1 rfl) ?_
  replace h := bnd h; obtain ⟨q1, e2, h⟩ := h
  refine rdV C hE hP (kX8_isWhale l D T a_m a_ms a_mw a_mv a_mp a_mf a_ml a_mt a_mc m_chg m_thr m_rea m_det m_ref m_err m_ans m_sav m_net m_lin m_tap m_her m_cmd v_ms p0 q1 e2) mX8_isWhale qLX8_120 [0, 1] 0 rfl rfl rfl rfl ⟨rfl, rfl⟩ ⟨Nat.le_of_ble_eq_true rfl, Nat.le_of_ble_eq_true rfl⟩ rfl hl.1 rfl (Nat.le_of_ble_eq_true rfl) dX8_swims_3 ⟨Nat.le_of_ble_eq_true rfl, Nat.le_of_ble_eq_true rfl⟩ ?_
  refine lv_if_eq (tgt := 16) hx hb dX8_swims_6 (by decide) (fun c3 => ?_) (fun c3 => ?_)
  · rw [if_pos c3] at h
    refine lv_iconst (v := 1) hx hb dX8_swims_16 (by decide) ?_
    refine lv_goto (tgt := 21) hx hb dX8_swims_17 (by decide) ?_
    exact lX8_swims_21 C hE hA hret 1 p0 p1 m_thr m_rea m_det m_ref v_ms v_mf ⟨hP, hD⟩ hS _ (lv_sub hl [0, 1, 2] rfl) h
  · rw [if_neg c3] at h
    refine lv_iload_n hx hb dX8_swims_9 rfl (lv_at hl 2 rfl) ?_
    refine rdS C hE hP (kX8_isCell l D T p1) mX8_isCell qLX8_76 [] rfl ⟨rfl, rfl⟩ ⟨Nat.le_of_ble_eq_true rfl, Nat.le_of_ble_eq_true rfl⟩ rfl hl.1 rfl (Nat.le_of_ble_eq_true rfl) dX8_swims_10 ⟨Nat.le_of_ble_eq_true rfl, Nat.le_of_ble_eq_true rfl⟩ ?_
    refine lv_if_ne (tgt := 20) hx hb dX8_swims_13 (by decide) (fun c4 => ?_) (fun c4 => ?_)
    · rw [if_neg c4] at h
      refine lv_iconst (v := 0) hx hb dX8_swims_20 (by decide) ?_
      exact lX8_swims_21 C hE hA hret 0 p0 p1 m_thr m_rea m_det m_ref v_ms v_mf ⟨hP, hD⟩ hS _ (lv_sub hl [0, 1, 2] rfl) h
    · rw [if_pos c4] at h
      refine lv_iconst (v := 1) hx hb dX8_swims_16 (by decide) ?_
      refine lv_goto (tgt := 21) hx hb dX8_swims_17 (by decide) ?_
      exact lX8_swims_21 C hE hA hret 1 p0 p1 m_thr m_rea m_det m_ref v_ms v_mf ⟨hP, hD⟩ hS _ (lv_sub hl [0, 1, 2] rfl) h

def fX8_swim (m_chg : Int32) (m_thr : Int32) (m_rea : Int32) (m_det : Int32) (m_ref : Int32) (v_ms : Nat → Int32) (v_mw : Nat → Int32) (v_mp : Nat → Int32) (v_mf : Nat → Int32) (p0 : Int32) (p1 : Int32) : Option (Int32 × Int32 × Int32 × Int32 × Int32 × Int32 × (Nat → Int32) × (Nat → Int32) × (Nat → Int32) × (Nat → Int32)) :=
  (fX8_keeps m_thr v_ms v_mw).bind fun q1 =>
  (fX8_swims q1.1 m_rea m_det m_ref v_ms v_mf p0 p1).bind fun q3 =>
  (fX8_ends m_chg q3.2.1 q1.2 v_mp q3.1 2).bind fun q5 =>
  some (q5.1, q5.2.1, q5.2.2.1, q3.2.2.1, q3.2.2.2.1, q3.2.2.2.2.1, q3.2.2.2.2.2.1, q1.2, q5.2.2.2, q3.2.2.2.2.2.2)
set_option maxHeartbeats 4000000 in
set_option maxRecDepth 100000 in
theorem kX8_swim (l : Launch) (D : va_G) (T : Nat → ClassId) (a_m a_ms a_mw a_mv a_mp a_mf a_ml a_mt a_mc : Nat) (m_chg : Int32) (m_thr : Int32) (m_rea : Int32) (m_det : Int32) (m_ref : Int32) (m_err : Int32) (m_ans : Int32) (m_sav : Int32) (m_net : Int32) (m_lin : Int32) (m_tap : Int32) (m_her : Int32) (m_cmd : Int32) (v_ms : Nat → Int32) (v_mw : Nat → Int32) (v_mp : Nat → Int32) (v_mf : Nat → Int32) (p0 : Int32) (p1 : Int32) (sz : Nat) (r : Int32 × Int32 × Int32 × Int32 × Int32 × Int32 × (Nat → Int32) × (Nat → Int32) × (Nat → Int32) × (Nat → Int32)) (h : fX8_swim m_chg m_thr m_rea m_det m_ref v_ms v_mw v_mp v_mf p0 p1 = some r) : WrI l yX8_swim cX8_swim 3 .int ({ frames := 6, cells := 0, slots := 0, locals := 135 } : Room) D T sz [(a_m, .inr (8, [.ref a_ms, .ref a_mw, .ref a_mv, .ref a_mp, .ref a_mf, .int m_chg, .int m_thr, .int m_rea, .int m_det, .int m_ref, .int m_err, .int m_ans, .int m_sav, .int m_net, .ref a_ml, .int m_lin, .ref a_mt, .ref a_mc, .int m_tap, .int m_her, .int m_cmd])), (a_ms, .inl (T 0, 103, .inl v_ms)), (a_mw, .inl (T 0, 103, .inl v_mw)), (a_mp, .inl (T 0, 618, .inl v_mp)), (a_mf, .inl (T 0, 45, .inl v_mf))] [(a_m, .inr (8, [.ref a_ms, .ref a_mw, .ref a_mv, .ref a_mp, .ref a_mf, .int r.2.1, .int r.2.2.1, .int r.2.2.2.1, .int r.2.2.2.2.1, .int r.2.2.2.2.2.1, .int m_err, .int m_ans, .int m_sav, .int m_net, .ref a_ml, .int m_lin, .ref a_mt, .ref a_mc, .int m_tap, .int m_her, .int m_cmd])), (a_ms, .inl (T 0, 103, .inl r.2.2.2.2.2.2.1)), (a_mw, .inl (T 0, 103, .inl r.2.2.2.2.2.2.2.1)), (a_mp, .inl (T 0, 618, .inl r.2.2.2.2.2.2.2.2.1)), (a_mf, .inl (T 0, 45, .inl r.2.2.2.2.2.2.2.2.2))] [.ref a_m, .int p0, .int p1] r.1 := by
  unfold fX8_swim at h
  refine wrMet (by decide +kernel) rfl (fun p e s m args below meth c Q A C hE hA hP hD hS hret ls hl => ?_)
  have hx := C.1
  have hb := C.2.1
  have hl : lv_has ls 3 [(0, .ref a_m), (1, .int p0), (2, .int p1)] := hl
  refine lv_aload_n hx hb dX8_swim_0 rfl (lv_at hl 0 rfl) ?_
  replace h := bnd h; obtain ⟨q1, e2, h⟩ := h
  refine wrVv (ws1 := [(a_m, .inr (8, [.ref a_ms, .ref a_mw, .ref a_mv, .ref a_mp, .ref a_mf, .int m_chg, .int q1.1, .int m_rea, .int m_det, .int m_ref, .int m_err, .int m_ans, .int m_sav, .int m_net, .ref a_ml, .int m_lin, .ref a_mt, .ref a_mc, .int m_tap, .int m_her, .int m_cmd])), (a_ms, .inl (T 0, 103, .inl v_ms)), (a_mw, .inl (T 0, 103, .inl q1.2)), (a_mp, .inl (T 0, 618, .inl v_mp)), (a_mf, .inl (T 0, 45, .inl v_mf))]) C hE hP hD hS hA (kX8_keeps l D T a_m a_ms a_mw a_mv a_mp a_mf a_ml a_mt a_mc m_chg m_thr m_rea m_det m_ref m_err m_ans m_sav m_net m_lin m_tap m_her m_cmd v_ms v_mw _ q1 e2) mX8_keeps qLX8_107 [0, 1, 2] [3, 4] 0 rfl rfl rfl rfl rfl rfl rfl rfl rfl ⟨rfl, rfl⟩ ⟨Nat.le_of_ble_eq_true rfl, Nat.le_of_ble_eq_true rfl⟩ rfl hl.1 rfl (Nat.le_of_ble_eq_true rfl) dX8_swim_1 ⟨Nat.le_of_ble_eq_true rfl, Nat.le_of_ble_eq_true rfl⟩ ?_; clear hP hD hS; intro H locs hP hD hS
  refine lv_aload_n hx hb dX8_swim_4 rfl (lv_at hl 0 rfl) ?_
  refine lv_aload_n hx hb dX8_swim_5 rfl (lv_at hl 0 rfl) ?_
  refine lv_iload_n hx hb dX8_swim_6 rfl (lv_at hl 1 rfl) ?_
  refine lv_iload_n hx hb dX8_swim_7 rfl (lv_at hl 2 rfl) ?_
  replace h := bnd h; obtain ⟨q3, e4, h⟩ := h
  refine wrVi (ws1 := [(a_m, .inr (8, [.ref a_ms, .ref a_mw, .ref a_mv, .ref a_mp, .ref a_mf, .int m_chg, .int q3.2.1, .int q3.2.2.1, .int q3.2.2.2.1, .int q3.2.2.2.2.1, .int m_err, .int m_ans, .int m_sav, .int m_net, .ref a_ml, .int m_lin, .ref a_mt, .ref a_mc, .int m_tap, .int m_her, .int m_cmd])), (a_ms, .inl (T 0, 103, .inl q3.2.2.2.2.2.1)), (a_mw, .inl (T 0, 103, .inl q1.2)), (a_mp, .inl (T 0, 618, .inl v_mp)), (a_mf, .inl (T 0, 45, .inl q3.2.2.2.2.2.2))]) C hE hP hD hS hA (kX8_swims l D T a_m a_ms a_mw a_mv a_mp a_mf a_ml a_mt a_mc m_chg q1.1 m_rea m_det m_ref m_err m_ans m_sav m_net m_lin m_tap m_her m_cmd v_ms v_mf p0 p1 _ q3 e4) mX8_swims qLX8_149 [0, 1, 4] [2, 3] 0 rfl rfl rfl rfl rfl rfl rfl rfl rfl ⟨rfl, rfl⟩ ⟨Nat.le_of_ble_eq_true rfl, Nat.le_of_ble_eq_true rfl⟩ rfl hl.1 rfl (Nat.le_of_ble_eq_true rfl) dX8_swim_8 ⟨Nat.le_of_ble_eq_true rfl, Nat.le_of_ble_eq_true rfl⟩ ?_; clear hP hD hS; intro H locs hP hD hS
  refine lv_iconst (v := 2) hx hb dX8_swim_11 (by decide) ?_
  replace h := bnd h; obtain ⟨q5, e6, h⟩ := h
  refine wrVi (ws1 := [(a_m, .inr (8, [.ref a_ms, .ref a_mw, .ref a_mv, .ref a_mp, .ref a_mf, .int q5.2.1, .int q5.2.2.1, .int q3.2.2.1, .int q3.2.2.2.1, .int q3.2.2.2.2.1, .int m_err, .int m_ans, .int m_sav, .int m_net, .ref a_ml, .int m_lin, .ref a_mt, .ref a_mc, .int m_tap, .int m_her, .int m_cmd])), (a_ms, .inl (T 0, 103, .inl q3.2.2.2.2.2.1)), (a_mw, .inl (T 0, 103, .inl q1.2)), (a_mp, .inl (T 0, 618, .inl q5.2.2.2)), (a_mf, .inl (T 0, 45, .inl q3.2.2.2.2.2.2))]) C hE hP hD hS hA (kX8_ends l D T a_m a_ms a_mw a_mv a_mp a_mf a_ml a_mt a_mc m_chg q3.2.1 q3.2.2.1 q3.2.2.2.1 q3.2.2.2.2.1 m_err m_ans m_sav m_net m_lin m_tap m_her m_cmd q1.2 v_mp q3.1 2 _ q5 e6) mX8_ends qLX8_114 [0, 2, 3] [1, 4] 0 rfl rfl rfl rfl rfl rfl rfl rfl rfl ⟨rfl, rfl⟩ ⟨Nat.le_of_ble_eq_true rfl, Nat.le_of_ble_eq_true rfl⟩ rfl hl.1 rfl (Nat.le_of_ble_eq_true rfl) dX8_swim_12 ⟨Nat.le_of_ble_eq_true rfl, Nat.le_of_ble_eq_true rfl⟩ ?_; clear hP hD hS; intro H locs hP hD hS
  replace h := Option.some.inj h
  exact hret _ _ _ _ _ _ dX8_swim_15 rfl (by rw [← h] <;> rfl) (by rw [← h]; exact hP) hS

def fX8_isFoul_83 (v_ms : Nat → Int32) (rec14 : Int32 → Int32 → Int32 → Option Int32) (x0 : Int32) (x1 : Int32) (l2 : Int32) (l4 : Int32) : Option Int32 :=
  rec14 l2 (x0 ||| x1) (l4 + 1)
def fX8_isFoul_14 (v_ms : Nat → Int32) : Nat → Int32 → Int32 → Int32 → Option Int32
  | 0, _, _, _ => none
  | k + 1, l2, l3, l4 =>
    if vin 0 103 = true then
    if (v_ms (0 : Int32).toNatClampNeg) ≤ l4 then
      if l3 = 0 then
        some 0
      else
        if vin 3 103 = true then
        if (v_ms (3 : Int32).toNatClampNeg) = l2 then
          some 1
        else
          some 0
        else none
    else
      (fX8_of v_ms l4 0).bind fun q8 =>
      if q8 = l2 then
        (fX8_of v_ms l4 5).bind fun q11 =>
        if q11 = 1 then
          (fX8_of v_ms l4 4).bind fun q14 =>
          if q14 < 0 then
            fX8_isFoul_83 v_ms (fX8_isFoul_14 v_ms k) l3 0 l2 l4
          else
            (fX8_of v_ms l4 4).bind fun q17 =>
            if vin 2 103 = true then
            fX8_isFoul_83 v_ms (fX8_isFoul_14 v_ms k) l3 (if 1 < (fX8_apart q17 (v_ms (2 : Int32).toNatClampNeg)) then 0 else 1) l2 l4
            else none
        else
          fX8_isFoul_83 v_ms (fX8_isFoul_14 v_ms k) l3 0 l2 l4
      else
        fX8_isFoul_83 v_ms (fX8_isFoul_14 v_ms k) l3 0 l2 l4
    else none
def fX8_isFoul (v_ms : Nat → Int32) (p0 : Int32) : Option Int32 :=
  (fX8_of v_ms p0 0).bind fun q1 =>
  fX8_isFoul_14 v_ms 64 (1 - q1) 0 0
set_option maxHeartbeats 4000000 in
set_option maxRecDepth 100000 in
theorem lX8_isFoul_83 {p : Program} {l : Launch} {e : Env} {s : State} {m : MethodId} {args : Array Value} {below : List Frame} {meth : Method} {c : Code} {Q : State → Prop} {D : va_G} {T : Nat → ClassId} {a_m a_ms a_mw a_mv a_mp a_mf a_ml a_mt a_mc : Nat} {m_chg : Int32} {m_thr : Int32} {m_rea : Int32} {m_det : Int32} {m_ref : Int32} {m_err : Int32} {m_ans : Int32} {m_sav : Int32} {m_net : Int32} {m_lin : Int32} {m_tap : Int32} {m_her : Int32} {m_cmd : Int32} {v_ms : Nat → Int32} {r : Int32} (C : CallFix p m c cX8_isFoul 5 s args aw RX8) (hE : eK D T s) (hP : va_P D kC [(a_m, .inr (8, [.ref a_ms, .ref a_mw, .ref a_mv, .ref a_mp, .ref a_mf, .int m_chg, .int m_thr, .int m_rea, .int m_det, .int m_ref, .int m_err, .int m_ans, .int m_sav, .int m_net, .ref a_ml, .int m_lin, .ref a_mt, .ref a_mc, .int m_tap, .int m_her, .int m_cmd])), (a_ms, .inl (T 0, 103, .inl v_ms))] s.heap) (hret : RdRet p l e ({ frames := 2, cells := 0, slots := 0, locals := 42 } : Room) s m args below meth c Q cX8_isFoul .boolean r) {rec14 : Int32 → Int32 → Int32 → Option Int32} (hrec14 : ∀ (l2 : Int32) (l3 : Int32) (l4 : Int32) (ls : Array Slot) (hl : lv_has ls 5 [(0, .ref a_m), (2, .int l2), (3, .int l3), (4, .int l4)]) (h : rec14 l2 l3 l4 = some r), W p l e ({ frames := 2, cells := 0, slots := 0, locals := 42 } : Room) s m args below meth c s.heap [] 0 0 Q (F0 m 14 ls [])) (x0 : Int32) (x1 : Int32) (l2 : Int32) (l4 : Int32) (ls : Array Slot) (hl : lv_has ls 5 [(0, .ref a_m), (2, .int l2), (4, .int l4)]) (h : fX8_isFoul_83 v_ms rec14 x0 x1 l2 l4 = some r) : W p l e ({ frames := 2, cells := 0, slots := 0, locals := 42 } : Room) s m args below meth c s.heap [] 0 0 Q (F0 m 83 ls [.int x1, .int x0]) := by
  have hx := C.1
  have hb := C.2.1
  unfold fX8_isFoul_83 at h
  refine lv_ior hx hb dX8_isFoul_83 ?_
  refine lv_istore_n (lv' := [(3, .int (x0 ||| x1)), (0, .ref a_m), (2, .int l2), (4, .int l4)]) hx hb dX8_isFoul_84 rfl hl (by decide) rfl (fun ls hl => ?_)
  refine lv_iinc (v := (l4 + 1)) (lv' := [(4, .int (l4 + 1)), (3, .int (x0 ||| x1)), (0, .ref a_m), (2, .int l2)]) hx hb dX8_isFoul_85 hl (k := 3) rfl rfl (by decide) rfl (fun ls hl => ?_)
  refine lv_goto (tgt := 14) hx hb dX8_isFoul_88 (by decide) ?_
  exact hrec14 l2 (x0 ||| x1) (l4 + 1) _ (lv_sub hl [2, 3, 1, 0] rfl) h
set_option maxHeartbeats 4000000 in
set_option maxRecDepth 100000 in
theorem lX8_isFoul_14 {p : Program} {l : Launch} {e : Env} {s : State} {m : MethodId} {args : Array Value} {below : List Frame} {meth : Method} {c : Code} {Q : State → Prop} {D : va_G} {T : Nat → ClassId} {a_m a_ms a_mw a_mv a_mp a_mf a_ml a_mt a_mc : Nat} {m_chg : Int32} {m_thr : Int32} {m_rea : Int32} {m_det : Int32} {m_ref : Int32} {m_err : Int32} {m_ans : Int32} {m_sav : Int32} {m_net : Int32} {m_lin : Int32} {m_tap : Int32} {m_her : Int32} {m_cmd : Int32} {v_ms : Nat → Int32} {r : Int32} (C : CallFix p m c cX8_isFoul 5 s args aw RX8) (hE : eK D T s) (hP : va_P D kC [(a_m, .inr (8, [.ref a_ms, .ref a_mw, .ref a_mv, .ref a_mp, .ref a_mf, .int m_chg, .int m_thr, .int m_rea, .int m_det, .int m_ref, .int m_err, .int m_ans, .int m_sav, .int m_net, .ref a_ml, .int m_lin, .ref a_mt, .ref a_mc, .int m_tap, .int m_her, .int m_cmd])), (a_ms, .inl (T 0, 103, .inl v_ms))] s.heap) (hret : RdRet p l e ({ frames := 2, cells := 0, slots := 0, locals := 42 } : Room) s m args below meth c Q cX8_isFoul .boolean r) : ∀ (k : Nat) (l2 : Int32) (l3 : Int32) (l4 : Int32) (ls : Array Slot) (hl : lv_has ls 5 [(0, .ref a_m), (2, .int l2), (3, .int l3), (4, .int l4)]) (h : fX8_isFoul_14 v_ms k l2 l3 l4 = some r), W p l e ({ frames := 2, cells := 0, slots := 0, locals := 42 } : Room) s m args below meth c s.heap [] 0 0 Q (F0 m 14 ls []) := by
  have hx := C.1
  have hb := C.2.1
  intro k
  induction k with
  | zero =>
    intro l2 l3 l4  ls hl h
    exact nomatch (show (none : Option Int32) = some r from h)
  | succ k ih =>
    intro l2 l3 l4  ls hl h
    rw [fX8_isFoul_14] at h
    refine lv_iload hx hb dX8_isFoul_14 (lv_at hl 3 rfl) ?_
    refine lv_aload_n hx hb dX8_isFoul_16 rfl (lv_at hl 0 rfl) ?_
    refine getF (q0 := 0) (k0 := 0) (v := .ref a_ms) C hE hP inA8 rfl rfl (by decide) qFX8_9 rfl rfl dX8_isFoul_17 ?_
    refine lv_iconst (v := 0) hx hb dX8_isFoul_20 (by decide) ?_
    replace h := gd h; obtain ⟨g3, h⟩ := h
    refine aldI (q0 := 1) C hE hP rfl g3 dX8_isFoul_21 ?_
    refine lv_icmp_ge (tgt := 91) hx hb dX8_isFoul_22 (by decide) (fun c4 => ?_) (fun c4 => ?_)
    · replace h := ite_t c4 h
      refine lv_iload_n hx hb dX8_isFoul_91 rfl (lv_at hl 2 rfl) ?_
      refine lv_if_eq (tgt := 109) hx hb dX8_isFoul_92 (by decide) (fun c5 => ?_) (fun c5 => ?_)
      · replace h := ite_t c5 h
        refine lv_iconst (v := 0) hx hb dX8_isFoul_109 (by decide) ?_
        exact hret _ _ _ _ dX8_isFoul_110 rfl (Option.some.inj h)
      · replace h := ite_f c5 h
        refine lv_aload_n hx hb dX8_isFoul_95 rfl (lv_at hl 0 rfl) ?_
        refine getF (q0 := 0) (k0 := 0) (v := .ref a_ms) C hE hP inA8 rfl rfl (by decide) qFX8_9 rfl rfl dX8_isFoul_96 ?_
        refine lv_iconst (v := 3) hx hb dX8_isFoul_99 (by decide) ?_
        replace h := gd h; obtain ⟨g6, h⟩ := h
        refine aldI (q0 := 1) C hE hP rfl g6 dX8_isFoul_100 ?_
        refine lv_iload_n hx hb dX8_isFoul_101 rfl (lv_at hl 1 rfl) ?_
        refine lv_icmp_ne (tgt := 109) hx hb dX8_isFoul_102 (by decide) (fun c7 => ?_) (fun c7 => ?_)
        · replace h := ite_f c7 h
          refine lv_iconst (v := 0) hx hb dX8_isFoul_109 (by decide) ?_
          exact hret _ _ _ _ dX8_isFoul_110 rfl (Option.some.inj h)
        · replace h := ite_t c7 h
          refine lv_iconst (v := 1) hx hb dX8_isFoul_105 (by decide) ?_
          refine lv_goto (tgt := 110) hx hb dX8_isFoul_106 (by decide) ?_
          exact hret _ _ _ _ dX8_isFoul_110 rfl (Option.some.inj h)
    · replace h := ite_f c4 h
      refine lv_iload_n hx hb dX8_isFoul_25 rfl (lv_at hl 2 rfl) ?_
      refine lv_aload_n hx hb dX8_isFoul_26 rfl (lv_at hl 0 rfl) ?_
      refine lv_iload hx hb dX8_isFoul_27 (lv_at hl 3 rfl) ?_
      refine lv_iconst (v := 0) hx hb dX8_isFoul_29 (by decide) ?_
      replace h := bnd h; obtain ⟨q8, e9, h⟩ := h
      refine rdV C hE hP (kX8_of l D T a_m a_ms a_mw a_mv a_mp a_mf a_ml a_mt a_mc m_chg m_thr m_rea m_det m_ref m_err m_ans m_sav m_net m_lin m_tap m_her m_cmd v_ms l4 0 q8 e9) mX8_of qLX8_90 [0, 1] 0 rfl rfl rfl rfl ⟨rfl, rfl⟩ ⟨Nat.le_of_ble_eq_true rfl, Nat.le_of_ble_eq_true rfl⟩ rfl hl.1 rfl (Nat.le_of_ble_eq_true rfl) dX8_isFoul_30 ⟨Nat.le_of_ble_eq_true rfl, Nat.le_of_ble_eq_true rfl⟩ ?_
      refine lv_iload_n hx hb dX8_isFoul_33 rfl (lv_at hl 1 rfl) ?_
      refine lv_icmp_ne (tgt := 82) hx hb dX8_isFoul_34 (by decide) (fun c10 => ?_) (fun c10 => ?_)
      · replace h := ite_f c10 h
        refine lv_iconst (v := 0) hx hb dX8_isFoul_82 (by decide) ?_
        exact lX8_isFoul_83 C hE hP hret ih l3 0 l2 l4 _ (lv_sub hl [0, 1, 3] rfl) h
      · replace h := ite_t c10 h
        refine lv_aload_n hx hb dX8_isFoul_37 rfl (lv_at hl 0 rfl) ?_
        refine lv_iload hx hb dX8_isFoul_38 (lv_at hl 3 rfl) ?_
        refine lv_iconst (v := 5) hx hb dX8_isFoul_40 (by decide) ?_
        replace h := bnd h; obtain ⟨q11, e12, h⟩ := h
        refine rdV C hE hP (kX8_of l D T a_m a_ms a_mw a_mv a_mp a_mf a_ml a_mt a_mc m_chg m_thr m_rea m_det m_ref m_err m_ans m_sav m_net m_lin m_tap m_her m_cmd v_ms l4 5 q11 e12) mX8_of qLX8_90 [0, 1] 0 rfl rfl rfl rfl ⟨rfl, rfl⟩ ⟨Nat.le_of_ble_eq_true rfl, Nat.le_of_ble_eq_true rfl⟩ rfl hl.1 rfl (Nat.le_of_ble_eq_true rfl) dX8_isFoul_41 ⟨Nat.le_of_ble_eq_true rfl, Nat.le_of_ble_eq_true rfl⟩ ?_
        refine lv_iconst (v := 1) hx hb dX8_isFoul_44 (by decide) ?_
        refine lv_icmp_ne (tgt := 82) hx hb dX8_isFoul_45 (by decide) (fun c13 => ?_) (fun c13 => ?_)
        · replace h := ite_f c13 h
          refine lv_iconst (v := 0) hx hb dX8_isFoul_82 (by decide) ?_
          exact lX8_isFoul_83 C hE hP hret ih l3 0 l2 l4 _ (lv_sub hl [0, 1, 3] rfl) h
        · replace h := ite_t c13 h
          refine lv_aload_n hx hb dX8_isFoul_48 rfl (lv_at hl 0 rfl) ?_
          refine lv_iload hx hb dX8_isFoul_49 (lv_at hl 3 rfl) ?_
          refine lv_iconst (v := 4) hx hb dX8_isFoul_51 (by decide) ?_
          replace h := bnd h; obtain ⟨q14, e15, h⟩ := h
          refine rdV C hE hP (kX8_of l D T a_m a_ms a_mw a_mv a_mp a_mf a_ml a_mt a_mc m_chg m_thr m_rea m_det m_ref m_err m_ans m_sav m_net m_lin m_tap m_her m_cmd v_ms l4 4 q14 e15) mX8_of qLX8_90 [0, 1] 0 rfl rfl rfl rfl ⟨rfl, rfl⟩ ⟨Nat.le_of_ble_eq_true rfl, Nat.le_of_ble_eq_true rfl⟩ rfl hl.1 rfl (Nat.le_of_ble_eq_true rfl) dX8_isFoul_52 ⟨Nat.le_of_ble_eq_true rfl, Nat.le_of_ble_eq_true rfl⟩ ?_
          refine lv_if_lt (tgt := 82) hx hb dX8_isFoul_55 (by decide) (fun c16 => ?_) (fun c16 => ?_)
          · replace h := ite_t c16 h
            refine lv_iconst (v := 0) hx hb dX8_isFoul_82 (by decide) ?_
            exact lX8_isFoul_83 C hE hP hret ih l3 0 l2 l4 _ (lv_sub hl [0, 1, 3] rfl) h
          · replace h := ite_f c16 h
            refine lv_aload_n hx hb dX8_isFoul_58 rfl (lv_at hl 0 rfl) ?_
            refine lv_iload hx hb dX8_isFoul_59 (lv_at hl 3 rfl) ?_
            refine lv_iconst (v := 4) hx hb dX8_isFoul_61 (by decide) ?_
            replace h := bnd h; obtain ⟨q17, e18, h⟩ := h
            refine rdV C hE hP (kX8_of l D T a_m a_ms a_mw a_mv a_mp a_mf a_ml a_mt a_mc m_chg m_thr m_rea m_det m_ref m_err m_ans m_sav m_net m_lin m_tap m_her m_cmd v_ms l4 4 q17 e18) mX8_of qLX8_90 [0, 1] 0 rfl rfl rfl rfl ⟨rfl, rfl⟩ ⟨Nat.le_of_ble_eq_true rfl, Nat.le_of_ble_eq_true rfl⟩ rfl hl.1 rfl (Nat.le_of_ble_eq_true rfl) dX8_isFoul_62 ⟨Nat.le_of_ble_eq_true rfl, Nat.le_of_ble_eq_true rfl⟩ ?_
            refine lv_aload_n hx hb dX8_isFoul_65 rfl (lv_at hl 0 rfl) ?_
            refine getF (q0 := 0) (k0 := 0) (v := .ref a_ms) C hE hP inA8 rfl rfl (by decide) qFX8_9 rfl rfl dX8_isFoul_66 ?_
            refine lv_iconst (v := 2) hx hb dX8_isFoul_69 (by decide) ?_
            replace h := gd h; obtain ⟨g19, h⟩ := h
            refine aldI (q0 := 1) C hE hP rfl g19 dX8_isFoul_70 ?_
            refine rdS C hE hP (kX8_apart l D T q17 (v_ms (2 : Int32).toNatClampNeg)) mX8_apart qLX8_152 [] rfl ⟨rfl, rfl⟩ ⟨Nat.le_of_ble_eq_true rfl, Nat.le_of_ble_eq_true rfl⟩ rfl hl.1 rfl (Nat.le_of_ble_eq_true rfl) dX8_isFoul_71 ⟨Nat.le_of_ble_eq_true rfl, Nat.le_of_ble_eq_true rfl⟩ ?_
            refine lv_iconst (v := 1) hx hb dX8_isFoul_74 (by decide) ?_
            refine lv_icmp_gt (tgt := 82) hx hb dX8_isFoul_75 (by decide) (fun c20 => ?_) (fun c20 => ?_)
            · rw [if_pos c20] at h
              refine lv_iconst (v := 0) hx hb dX8_isFoul_82 (by decide) ?_
              exact lX8_isFoul_83 C hE hP hret ih l3 0 l2 l4 _ (lv_sub hl [0, 1, 3] rfl) h
            · rw [if_neg c20] at h
              refine lv_iconst (v := 1) hx hb dX8_isFoul_78 (by decide) ?_
              refine lv_goto (tgt := 83) hx hb dX8_isFoul_79 (by decide) ?_
              exact lX8_isFoul_83 C hE hP hret ih l3 1 l2 l4 _ (lv_sub hl [0, 1, 3] rfl) h
set_option maxHeartbeats 4000000 in
set_option maxRecDepth 100000 in
theorem kX8_isFoul (l : Launch) (D : va_G) (T : Nat → ClassId) (a_m a_ms a_mw a_mv a_mp a_mf a_ml a_mt a_mc : Nat) (m_chg : Int32) (m_thr : Int32) (m_rea : Int32) (m_det : Int32) (m_ref : Int32) (m_err : Int32) (m_ans : Int32) (m_sav : Int32) (m_net : Int32) (m_lin : Int32) (m_tap : Int32) (m_her : Int32) (m_cmd : Int32) (v_ms : Nat → Int32) (p0 : Int32) (r : Int32) (h : fX8_isFoul v_ms p0 = some r) : RdI l yX8_isFoul cX8_isFoul 5 .boolean ({ frames := 2, cells := 0, slots := 0, locals := 42 } : Room) D T [(a_m, .inr (8, [.ref a_ms, .ref a_mw, .ref a_mv, .ref a_mp, .ref a_mf, .int m_chg, .int m_thr, .int m_rea, .int m_det, .int m_ref, .int m_err, .int m_ans, .int m_sav, .int m_net, .ref a_ml, .int m_lin, .ref a_mt, .ref a_mc, .int m_tap, .int m_her, .int m_cmd])), (a_ms, .inl (T 0, 103, .inl v_ms))] [.ref a_m, .int p0] r := by
  unfold fX8_isFoul at h
  refine rdMet (by decide +kernel) rfl (fun p e s m args below meth c Q C hE hP hret ls hl => ?_)
  have hx := C.1
  have hb := C.2.1
  have hl : lv_has ls 5 [(0, .ref a_m), (1, .int p0)] := hl
  refine lv_iconst (v := 1) hx hb dX8_isFoul_0 (by decide) ?_
  refine lv_aload_n hx hb dX8_isFoul_1 rfl (lv_at hl 0 rfl) ?_
  refine lv_iload_n hx hb dX8_isFoul_2 rfl (lv_at hl 1 rfl) ?_
  refine lv_iconst (v := 0) hx hb dX8_isFoul_3 (by decide) ?_
  replace h := bnd h; obtain ⟨q1, e2, h⟩ := h
  refine rdV C hE hP (kX8_of l D T a_m a_ms a_mw a_mv a_mp a_mf a_ml a_mt a_mc m_chg m_thr m_rea m_det m_ref m_err m_ans m_sav m_net m_lin m_tap m_her m_cmd v_ms p0 0 q1 e2) mX8_of qLX8_90 [0, 1] 0 rfl rfl rfl rfl ⟨rfl, rfl⟩ ⟨Nat.le_of_ble_eq_true rfl, Nat.le_of_ble_eq_true rfl⟩ rfl hl.1 rfl (Nat.le_of_ble_eq_true rfl) dX8_isFoul_4 ⟨Nat.le_of_ble_eq_true rfl, Nat.le_of_ble_eq_true rfl⟩ ?_
  refine lv_isub hx hb dX8_isFoul_7 ?_
  refine lv_istore_n (lv' := [(2, .int (1 - q1)), (0, .ref a_m), (1, .int p0)]) hx hb dX8_isFoul_8 rfl hl (by decide) rfl (fun ls hl => ?_)
  refine lv_iconst (v := 0) hx hb dX8_isFoul_9 (by decide) ?_
  refine lv_istore_n (lv' := [(3, .int 0), (2, .int (1 - q1)), (0, .ref a_m), (1, .int p0)]) hx hb dX8_isFoul_10 rfl hl (by decide) rfl (fun ls hl => ?_)
  refine lv_iconst (v := 0) hx hb dX8_isFoul_11 (by decide) ?_
  refine lv_istore (lv' := [(4, .int 0), (3, .int 0), (2, .int (1 - q1)), (0, .ref a_m), (1, .int p0)]) hx hb dX8_isFoul_12 hl (by decide) rfl (fun ls hl => ?_)
  exact lX8_isFoul_14 C hE hP hret 64 (1 - q1) 0 0 _ (lv_sub hl [3, 2, 1, 0] rfl) h

def fX8_goes_93 (v_ms : Nat → Int32) (x0 : Int32) (x1 : Int32) (m_net : Int32) : Option (Int32 × Int32) :=
  some ((x0 + x1), m_net)
def fX8_goes_73 (v_ms : Nat → Int32) (x1 : Int32) (l2 : Int32) (l4 : Int32) (l7 : Int32) (m_net : Int32) : Option (Int32 × Int32) :=
  if l7 = 0 then
    some (l4, x1)
  else
    fX8_goes_93 v_ms 45 (if l2 = 1 then 0 else 1) x1
def fX8_goes_60 (v_ms : Nat → Int32) (x0 : Int32) (l2 : Int32) (l4 : Int32) (m_net : Int32) : Option (Int32 × Int32) :=
  fX8_goes_73 v_ms (if x0 = 0 then 1 else 0) l2 l4 x0 m_net
def fX8_goes_122 (v_ms : Nat → Int32) (rec16 : Int32 → Int32 → Int32 → Int32 → Int32 → Int32 → Option (Int32 × Int32)) (l1 : Int32) (l2 : Int32) (l3 : Int32) (l4 : Int32) (l5 : Int32) (l6 : Int32) (m_net : Int32) : Option (Int32 × Int32) :=
  (fX8_isDryNow v_ms l6).bind fun q13 =>
  if q13 = 0 then
    rec16 l1 l2 l3 l6 (l5 + 1) m_net
  else
    some (l4, 1)
def fX8_goes_16 (v_ms : Nat → Int32) : Nat → Int32 → Int32 → Int32 → Int32 → Int32 → Int32 → Option (Int32 × Int32)
  | 0, _, _, _, _, _, _ => none
  | k + 1, l1, l2, l3, l4, l5, m_net =>
    if l3 ≤ l5 then
      some (l4, m_net)
    else
      if 0 ≤ (fX8_next l4 l2) then
        (fX8_whaleAt v_ms (fX8_next l4 l2)).bind fun q4 =>
        if q4 < 0 then
          fX8_goes_122 v_ms (fX8_goes_16 v_ms k) l1 l2 l3 l4 l5 (fX8_next l4 l2) m_net
        else
          if q4 = l1 then
            fX8_goes_122 v_ms (fX8_goes_16 v_ms k) l1 l2 l3 l4 l5 (fX8_next l4 l2) m_net
          else
            some (l4, m_net)
      else
        fX8_goes_60 v_ms (if (l2 - l2 / 2 * 2) = 1 then (if (fX8_isIn (l4 / 9) 1 3) = 0 then 0 else 1) else 0) l2 l4 m_net
def fX8_goes (m_net : Int32) (v_ms : Nat → Int32) (p0 : Int32) (p1 : Int32) (p2 : Int32) : Option (Int32 × Int32) :=
  if vin 2 103 = true then
  fX8_goes_16 v_ms 64 p0 p1 p2 (v_ms (2 : Int32).toNatClampNeg) 0 0
  else none
set_option maxHeartbeats 4000000 in
set_option maxRecDepth 100000 in
theorem lX8_goes_93 {p : Program} {l : Launch} {e : Env} {s : State} {m : MethodId} {args : Array Value} {below : List Frame} {meth : Method} {c : Code} {Q : State → Prop} {D : va_G} {T : Nat → ClassId} {a_m a_ms a_mw a_mv a_mp a_mf a_ml a_mt a_mc : Nat} {m_chg : Int32} {m_thr : Int32} {m_rea : Int32} {m_det : Int32} {m_ref : Int32} {m_err : Int32} {m_ans : Int32} {m_sav : Int32} {m_lin : Int32} {m_tap : Int32} {m_her : Int32} {m_cmd : Int32} {v_ms : Nat → Int32} {A : Nat → Prop} {r : Int32 × Int32} (C : CallFix p m c cX8_goes 8 s args aw RX8) (hE : eK D T s) (hA : ∀ q : Nat, s.heap.size ≤ q → A q) (hret : WrRet p l e ({ frames := 4, cells := 0, slots := 0, locals := 84 } : Room) s m args below meth c Q cX8_goes .int D A [(a_m, .inr (8, [.ref a_ms, .ref a_mw, .ref a_mv, .ref a_mp, .ref a_mf, .int m_chg, .int m_thr, .int m_rea, .int m_det, .int m_ref, .int m_err, .int m_ans, .int m_sav, .int r.2, .ref a_ml, .int m_lin, .ref a_mt, .ref a_mc, .int m_tap, .int m_her, .int m_cmd])), (a_ms, .inl (T 0, 103, .inl v_ms))] r.1) (x0 : Int32) (x1 : Int32) (m_net : Int32) {H : Heap} {locs : List Loc} (hPD : va_PD D A [(a_m, .inr (8, [.ref a_ms, .ref a_mw, .ref a_mv, .ref a_mp, .ref a_mf, .int m_chg, .int m_thr, .int m_rea, .int m_det, .int m_ref, .int m_err, .int m_ans, .int m_sav, .int m_net, .ref a_ml, .int m_lin, .ref a_mt, .ref a_mc, .int m_tap, .int m_her, .int m_cmd])), (a_ms, .inl (T 0, 103, .inl v_ms))] H) (hS : va_S A s.heap H locs) (ls : Array Slot) (hl : lv_has ls 8 []) (h : fX8_goes_93 v_ms x0 x1 m_net = some r) : W p l e ({ frames := 4, cells := 0, slots := 0, locals := 84 } : Room) s m args below meth c H locs 0 0 Q (F0 m 93 ls [.int x1, .int x0]) := by
  have hx := C.1
  have hb := C.2.1
  obtain ⟨hP, hD⟩ := hPD
  unfold fX8_goes_93 at h
  refine lv_iadd hx hb dX8_goes_93 ?_
  refine lv_goto (tgt := 99) hx hb dX8_goes_94 (by decide) ?_
  replace h := Option.some.inj h
  exact hret _ _ _ _ _ _ dX8_goes_99 rfl (by rw [← h] <;> rfl) (by rw [← h]; exact hP) hS
set_option maxHeartbeats 4000000 in
set_option maxRecDepth 100000 in
theorem lX8_goes_73 {p : Program} {l : Launch} {e : Env} {s : State} {m : MethodId} {args : Array Value} {below : List Frame} {meth : Method} {c : Code} {Q : State → Prop} {D : va_G} {T : Nat → ClassId} {a_m a_ms a_mw a_mv a_mp a_mf a_ml a_mt a_mc : Nat} {m_chg : Int32} {m_thr : Int32} {m_rea : Int32} {m_det : Int32} {m_ref : Int32} {m_err : Int32} {m_ans : Int32} {m_sav : Int32} {m_lin : Int32} {m_tap : Int32} {m_her : Int32} {m_cmd : Int32} {v_ms : Nat → Int32} {A : Nat → Prop} {r : Int32 × Int32} (C : CallFix p m c cX8_goes 8 s args aw RX8) (hE : eK D T s) (hA : ∀ q : Nat, s.heap.size ≤ q → A q) (hret : WrRet p l e ({ frames := 4, cells := 0, slots := 0, locals := 84 } : Room) s m args below meth c Q cX8_goes .int D A [(a_m, .inr (8, [.ref a_ms, .ref a_mw, .ref a_mv, .ref a_mp, .ref a_mf, .int m_chg, .int m_thr, .int m_rea, .int m_det, .int m_ref, .int m_err, .int m_ans, .int m_sav, .int r.2, .ref a_ml, .int m_lin, .ref a_mt, .ref a_mc, .int m_tap, .int m_her, .int m_cmd])), (a_ms, .inl (T 0, 103, .inl v_ms))] r.1) (x1 : Int32) (l2 : Int32) (l4 : Int32) (l7 : Int32) (m_net : Int32) (hb_x1 : x1 &&& 1 = x1) {H : Heap} {locs : List Loc} (hPD : va_PD D A [(a_m, .inr (8, [.ref a_ms, .ref a_mw, .ref a_mv, .ref a_mp, .ref a_mf, .int m_chg, .int m_thr, .int m_rea, .int m_det, .int m_ref, .int m_err, .int m_ans, .int m_sav, .int m_net, .ref a_ml, .int m_lin, .ref a_mt, .ref a_mc, .int m_tap, .int m_her, .int m_cmd])), (a_ms, .inl (T 0, 103, .inl v_ms))] H) (hS : va_S A s.heap H locs) (ls : Array Slot) (hl : lv_has ls 8 [(2, .int l2), (4, .int l4), (7, .int l7)]) (h : fX8_goes_73 v_ms x1 l2 l4 l7 m_net = some r) : W p l e ({ frames := 4, cells := 0, slots := 0, locals := 84 } : Room) s m args below meth c H locs 0 0 Q (F0 m 73 ls [.int x1, .ref a_m]) := by
  have hx := C.1
  have hb := C.2.1
  obtain ⟨hP, hD⟩ := hPD
  unfold fX8_goes_73 at h
  refine putF (q0 := 0) (k0 := 13) (ws1 := [(a_m, .inr (8, [.ref a_ms, .ref a_mw, .ref a_mv, .ref a_mp, .ref a_mf, .int m_chg, .int m_thr, .int m_rea, .int m_det, .int m_ref, .int m_err, .int m_ans, .int m_sav, .int x1, .ref a_ml, .int m_lin, .ref a_mt, .ref a_mc, .int m_tap, .int m_her, .int m_cmd])), (a_ms, .inl (T 0, 103, .inl v_ms))]) C hE hP hD hS inA8 tyX8_ok nmX8 rfl rfl (by decide) qFX8_155 rfl rfl (nzB hb_x1) (fzB hb_x1) (Nat.le_of_ble_eq_true rfl) rfl dX8_goes_73 ?_; clear hP hD hS; intro H locs hP hD hS
  refine lv_iload hx hb dX8_goes_76 (lv_at hl 2 rfl) ?_
  refine lv_if_eq (tgt := 97) hx hb dX8_goes_78 (by decide) (fun c11 => ?_) (fun c11 => ?_)
  · replace h := ite_t c11 h
    refine lv_iload hx hb dX8_goes_97 (lv_at hl 1 rfl) ?_
    replace h := Option.some.inj h
    exact hret _ _ _ _ _ _ dX8_goes_99 rfl (by rw [← h] <;> rfl) (by rw [← h]; exact hP) hS
  · replace h := ite_f c11 h
    refine lv_bipush (v := 45) hx hb dX8_goes_81 (by decide) ?_
    refine lv_iload_n hx hb dX8_goes_83 rfl (lv_at hl 0 rfl) ?_
    refine lv_iconst (v := 1) hx hb dX8_goes_84 (by decide) ?_
    refine lv_icmp_ne (tgt := 92) hx hb dX8_goes_85 (by decide) (fun c12 => ?_) (fun c12 => ?_)
    · rw [if_neg c12] at h
      refine lv_iconst (v := 1) hx hb dX8_goes_92 (by decide) ?_
      exact lX8_goes_93 C hE hA hret 45 1 x1 ⟨hP, hD⟩ hS _ (lv_sub hl [] rfl) h
    · rw [if_pos c12] at h
      refine lv_iconst (v := 0) hx hb dX8_goes_88 (by decide) ?_
      refine lv_goto (tgt := 93) hx hb dX8_goes_89 (by decide) ?_
      exact lX8_goes_93 C hE hA hret 45 0 x1 ⟨hP, hD⟩ hS _ (lv_sub hl [] rfl) h
set_option maxHeartbeats 4000000 in
set_option maxRecDepth 100000 in
theorem lX8_goes_60 {p : Program} {l : Launch} {e : Env} {s : State} {m : MethodId} {args : Array Value} {below : List Frame} {meth : Method} {c : Code} {Q : State → Prop} {D : va_G} {T : Nat → ClassId} {a_m a_ms a_mw a_mv a_mp a_mf a_ml a_mt a_mc : Nat} {m_chg : Int32} {m_thr : Int32} {m_rea : Int32} {m_det : Int32} {m_ref : Int32} {m_err : Int32} {m_ans : Int32} {m_sav : Int32} {m_lin : Int32} {m_tap : Int32} {m_her : Int32} {m_cmd : Int32} {v_ms : Nat → Int32} {A : Nat → Prop} {r : Int32 × Int32} (C : CallFix p m c cX8_goes 8 s args aw RX8) (hE : eK D T s) (hA : ∀ q : Nat, s.heap.size ≤ q → A q) (hret : WrRet p l e ({ frames := 4, cells := 0, slots := 0, locals := 84 } : Room) s m args below meth c Q cX8_goes .int D A [(a_m, .inr (8, [.ref a_ms, .ref a_mw, .ref a_mv, .ref a_mp, .ref a_mf, .int m_chg, .int m_thr, .int m_rea, .int m_det, .int m_ref, .int m_err, .int m_ans, .int m_sav, .int r.2, .ref a_ml, .int m_lin, .ref a_mt, .ref a_mc, .int m_tap, .int m_her, .int m_cmd])), (a_ms, .inl (T 0, 103, .inl v_ms))] r.1) (x0 : Int32) (l2 : Int32) (l4 : Int32) (m_net : Int32) {H : Heap} {locs : List Loc} (hPD : va_PD D A [(a_m, .inr (8, [.ref a_ms, .ref a_mw, .ref a_mv, .ref a_mp, .ref a_mf, .int m_chg, .int m_thr, .int m_rea, .int m_det, .int m_ref, .int m_err, .int m_ans, .int m_sav, .int m_net, .ref a_ml, .int m_lin, .ref a_mt, .ref a_mc, .int m_tap, .int m_her, .int m_cmd])), (a_ms, .inl (T 0, 103, .inl v_ms))] H) (hS : va_S A s.heap H locs) (ls : Array Slot) (hl : lv_has ls 8 [(0, .ref a_m), (2, .int l2), (4, .int l4)]) (h : fX8_goes_60 v_ms x0 l2 l4 m_net = some r) : W p l e ({ frames := 4, cells := 0, slots := 0, locals := 84 } : Room) s m args below meth c H locs 0 0 Q (F0 m 60 ls [.int x0]) := by
  have hx := C.1
  have hb := C.2.1
  obtain ⟨hP, hD⟩ := hPD
  unfold fX8_goes_60 at h
  refine lv_istore (lv' := [(7, .int x0), (0, .ref a_m), (2, .int l2), (4, .int l4)]) hx hb dX8_goes_60 hl (by decide) rfl (fun ls hl => ?_)
  refine lv_aload_n hx hb dX8_goes_62 rfl (lv_at hl 1 rfl) ?_
  refine lv_iload hx hb dX8_goes_63 (lv_at hl 0 rfl) ?_
  refine lv_if_ne (tgt := 72) hx hb dX8_goes_65 (by decide) (fun c10 => ?_) (fun c10 => ?_)
  · rw [if_neg c10] at h
    refine lv_iconst (v := 0) hx hb dX8_goes_72 (by decide) ?_
    exact lX8_goes_73 C hE hA hret 0 l2 l4 x0 m_net rfl ⟨hP, hD⟩ hS _ (lv_sub hl [2, 3, 0] rfl) h
  · rw [if_pos c10] at h
    refine lv_iconst (v := 1) hx hb dX8_goes_68 (by decide) ?_
    refine lv_goto (tgt := 73) hx hb dX8_goes_69 (by decide) ?_
    exact lX8_goes_73 C hE hA hret 1 l2 l4 x0 m_net rfl ⟨hP, hD⟩ hS _ (lv_sub hl [2, 3, 0] rfl) h
set_option maxHeartbeats 4000000 in
set_option maxRecDepth 100000 in
theorem lX8_goes_122 {p : Program} {l : Launch} {e : Env} {s : State} {m : MethodId} {args : Array Value} {below : List Frame} {meth : Method} {c : Code} {Q : State → Prop} {D : va_G} {T : Nat → ClassId} {a_m a_ms a_mw a_mv a_mp a_mf a_ml a_mt a_mc : Nat} {m_chg : Int32} {m_thr : Int32} {m_rea : Int32} {m_det : Int32} {m_ref : Int32} {m_err : Int32} {m_ans : Int32} {m_sav : Int32} {m_lin : Int32} {m_tap : Int32} {m_her : Int32} {m_cmd : Int32} {v_ms : Nat → Int32} {A : Nat → Prop} {r : Int32 × Int32} (C : CallFix p m c cX8_goes 8 s args aw RX8) (hE : eK D T s) (hA : ∀ q : Nat, s.heap.size ≤ q → A q) (hret : WrRet p l e ({ frames := 4, cells := 0, slots := 0, locals := 84 } : Room) s m args below meth c Q cX8_goes .int D A [(a_m, .inr (8, [.ref a_ms, .ref a_mw, .ref a_mv, .ref a_mp, .ref a_mf, .int m_chg, .int m_thr, .int m_rea, .int m_det, .int m_ref, .int m_err, .int m_ans, .int m_sav, .int r.2, .ref a_ml, .int m_lin, .ref a_mt, .ref a_mc, .int m_tap, .int m_her, .int m_cmd])), (a_ms, .inl (T 0, 103, .inl v_ms))] r.1) {rec16 : Int32 → Int32 → Int32 → Int32 → Int32 → Int32 → Option (Int32 × Int32)} (hrec16 : ∀ (l1 : Int32) (l2 : Int32) (l3 : Int32) (l4 : Int32) (l5 : Int32) (m_net : Int32) {H : Heap} {locs : List Loc} (hPD : va_PD D A [(a_m, .inr (8, [.ref a_ms, .ref a_mw, .ref a_mv, .ref a_mp, .ref a_mf, .int m_chg, .int m_thr, .int m_rea, .int m_det, .int m_ref, .int m_err, .int m_ans, .int m_sav, .int m_net, .ref a_ml, .int m_lin, .ref a_mt, .ref a_mc, .int m_tap, .int m_her, .int m_cmd])), (a_ms, .inl (T 0, 103, .inl v_ms))] H) (hS : va_S A s.heap H locs) (ls : Array Slot) (hl : lv_has ls 8 [(0, .ref a_m), (1, .int l1), (2, .int l2), (3, .int l3), (4, .int l4), (5, .int l5)]) (h : rec16 l1 l2 l3 l4 l5 m_net = some r), W p l e ({ frames := 4, cells := 0, slots := 0, locals := 84 } : Room) s m args below meth c H locs 0 0 Q (F0 m 16 ls [])) (l1 : Int32) (l2 : Int32) (l3 : Int32) (l4 : Int32) (l5 : Int32) (l6 : Int32) (m_net : Int32) {H : Heap} {locs : List Loc} (hPD : va_PD D A [(a_m, .inr (8, [.ref a_ms, .ref a_mw, .ref a_mv, .ref a_mp, .ref a_mf, .int m_chg, .int m_thr, .int m_rea, .int m_det, .int m_ref, .int m_err, .int m_ans, .int m_sav, .int m_net, .ref a_ml, .int m_lin, .ref a_mt, .ref a_mc, .int m_tap, .int m_her, .int m_cmd])), (a_ms, .inl (T 0, 103, .inl v_ms))] H) (hS : va_S A s.heap H locs) (ls : Array Slot) (hl : lv_has ls 8 [(0, .ref a_m), (1, .int l1), (2, .int l2), (3, .int l3), (4, .int l4), (5, .int l5), (6, .int l6)]) (h : fX8_goes_122 v_ms rec16 l1 l2 l3 l4 l5 l6 m_net = some r) : W p l e ({ frames := 4, cells := 0, slots := 0, locals := 84 } : Room) s m args below meth c H locs 0 0 Q (F0 m 122 ls []) := by
  have hx := C.1
  have hb := C.2.1
  obtain ⟨hP, hD⟩ := hPD
  unfold fX8_goes_122 at h
  refine lv_aload_n hx hb dX8_goes_122 rfl (lv_at hl 0 rfl) ?_
  refine lv_iload hx hb dX8_goes_123 (lv_at hl 6 rfl) ?_
  replace h := bnd h; obtain ⟨q13, e14, h⟩ := h
  refine rdV C hE hP (kX8_isDryNow l D T a_m a_ms a_mw a_mv a_mp a_mf a_ml a_mt a_mc m_chg m_thr m_rea m_det m_ref m_err m_ans m_sav m_net m_lin m_tap m_her m_cmd v_ms l6 q13 e14) mX8_isDryNow qLX8_84 [0, 1] 0 rfl rfl rfl rfl ⟨rfl, rfl⟩ ⟨Nat.le_of_ble_eq_true rfl, Nat.le_of_ble_eq_true rfl⟩ rfl hl.1 rfl (Nat.le_of_ble_eq_true rfl) dX8_goes_125 ⟨Nat.le_of_ble_eq_true rfl, Nat.le_of_ble_eq_true rfl⟩ ?_
  refine lv_if_eq (tgt := 139) hx hb dX8_goes_128 (by decide) (fun c15 => ?_) (fun c15 => ?_)
  · replace h := ite_t c15 h
    refine lv_iload hx hb dX8_goes_139 (lv_at hl 6 rfl) ?_
    refine lv_istore (lv' := [(4, .int l6), (0, .ref a_m), (1, .int l1), (2, .int l2), (3, .int l3), (5, .int l5), (6, .int l6)]) hx hb dX8_goes_141 hl (by decide) rfl (fun ls hl => ?_)
    refine lv_iinc (v := (l5 + 1)) (lv' := [(5, .int (l5 + 1)), (4, .int l6), (0, .ref a_m), (1, .int l1), (2, .int l2), (3, .int l3), (6, .int l6)]) hx hb dX8_goes_143 hl (k := 5) rfl rfl (by decide) rfl (fun ls hl => ?_)
    refine lv_goto (tgt := 16) hx hb dX8_goes_146 (by decide) ?_
    exact hrec16 l1 l2 l3 l6 (l5 + 1) m_net ⟨hP, hD⟩ hS _ (lv_sub hl [2, 3, 4, 5, 1, 0] rfl) h
  · replace h := ite_f c15 h
    refine lv_aload_n hx hb dX8_goes_131 rfl (lv_at hl 0 rfl) ?_
    refine lv_iconst (v := 1) hx hb dX8_goes_132 (by decide) ?_
    refine putF (q0 := 0) (k0 := 13) (ws1 := [(a_m, .inr (8, [.ref a_ms, .ref a_mw, .ref a_mv, .ref a_mp, .ref a_mf, .int m_chg, .int m_thr, .int m_rea, .int m_det, .int m_ref, .int m_err, .int m_ans, .int m_sav, .int 1, .ref a_ml, .int m_lin, .ref a_mt, .ref a_mc, .int m_tap, .int m_her, .int m_cmd])), (a_ms, .inl (T 0, 103, .inl v_ms))]) C hE hP hD hS inA8 tyX8_ok nmX8 rfl rfl (by decide) qFX8_155 rfl rfl rfl rfl (Nat.le_of_ble_eq_true rfl) rfl dX8_goes_133 ?_; clear hP hD hS; intro H locs hP hD hS
    refine lv_iload hx hb dX8_goes_136 (lv_at hl 4 rfl) ?_
    replace h := Option.some.inj h
    exact hret _ _ _ _ _ _ dX8_goes_138 rfl (by rw [← h] <;> rfl) (by rw [← h]; exact hP) hS
set_option maxHeartbeats 4000000 in
set_option maxRecDepth 100000 in
theorem lX8_goes_16 {p : Program} {l : Launch} {e : Env} {s : State} {m : MethodId} {args : Array Value} {below : List Frame} {meth : Method} {c : Code} {Q : State → Prop} {D : va_G} {T : Nat → ClassId} {a_m a_ms a_mw a_mv a_mp a_mf a_ml a_mt a_mc : Nat} {m_chg : Int32} {m_thr : Int32} {m_rea : Int32} {m_det : Int32} {m_ref : Int32} {m_err : Int32} {m_ans : Int32} {m_sav : Int32} {m_lin : Int32} {m_tap : Int32} {m_her : Int32} {m_cmd : Int32} {v_ms : Nat → Int32} {A : Nat → Prop} {r : Int32 × Int32} (C : CallFix p m c cX8_goes 8 s args aw RX8) (hE : eK D T s) (hA : ∀ q : Nat, s.heap.size ≤ q → A q) (hret : WrRet p l e ({ frames := 4, cells := 0, slots := 0, locals := 84 } : Room) s m args below meth c Q cX8_goes .int D A [(a_m, .inr (8, [.ref a_ms, .ref a_mw, .ref a_mv, .ref a_mp, .ref a_mf, .int m_chg, .int m_thr, .int m_rea, .int m_det, .int m_ref, .int m_err, .int m_ans, .int m_sav, .int r.2, .ref a_ml, .int m_lin, .ref a_mt, .ref a_mc, .int m_tap, .int m_her, .int m_cmd])), (a_ms, .inl (T 0, 103, .inl v_ms))] r.1) : ∀ (k : Nat) (l1 : Int32) (l2 : Int32) (l3 : Int32) (l4 : Int32) (l5 : Int32) (m_net : Int32) {H : Heap} {locs : List Loc} (hPD : va_PD D A [(a_m, .inr (8, [.ref a_ms, .ref a_mw, .ref a_mv, .ref a_mp, .ref a_mf, .int m_chg, .int m_thr, .int m_rea, .int m_det, .int m_ref, .int m_err, .int m_ans, .int m_sav, .int m_net, .ref a_ml, .int m_lin, .ref a_mt, .ref a_mc, .int m_tap, .int m_her, .int m_cmd])), (a_ms, .inl (T 0, 103, .inl v_ms))] H) (hS : va_S A s.heap H locs) (ls : Array Slot) (hl : lv_has ls 8 [(0, .ref a_m), (1, .int l1), (2, .int l2), (3, .int l3), (4, .int l4), (5, .int l5)]) (h : fX8_goes_16 v_ms k l1 l2 l3 l4 l5 m_net = some r), W p l e ({ frames := 4, cells := 0, slots := 0, locals := 84 } : Room) s m args below meth c H locs 0 0 Q (F0 m 16 ls []) := by
  have hx := C.1
  have hb := C.2.1
  intro k
  induction k with
  | zero =>
    intro l1 l2 l3 l4 l5 m_net H locs hPD hS ls hl h
    exact nomatch (show (none : Option (Int32 × Int32)) = some r from h)
  | succ k ih =>
    intro l1 l2 l3 l4 l5 m_net H locs hPD hS ls hl h
    obtain ⟨hP, hD⟩ := hPD
    rw [fX8_goes_16] at h
    refine lv_iload hx hb dX8_goes_16 (lv_at hl 5 rfl) ?_
    refine lv_iload_n hx hb dX8_goes_18 rfl (lv_at hl 3 rfl) ?_
    refine lv_icmp_ge (tgt := 149) hx hb dX8_goes_19 (by decide) (fun c2 => ?_) (fun c2 => ?_)
    · replace h := ite_t c2 h
      refine lv_iload hx hb dX8_goes_149 (lv_at hl 4 rfl) ?_
      replace h := Option.some.inj h
      exact hret _ _ _ _ _ _ dX8_goes_151 rfl (by rw [← h] <;> rfl) (by rw [← h]; exact hP) hS
    · replace h := ite_f c2 h
      refine lv_iload hx hb dX8_goes_22 (lv_at hl 4 rfl) ?_
      refine lv_iload_n hx hb dX8_goes_24 rfl (lv_at hl 2 rfl) ?_
      refine rdS C hE hP (kX8_next l D T l4 l2) mX8_next qLX8_136 [] rfl ⟨rfl, rfl⟩ ⟨Nat.le_of_ble_eq_true rfl, Nat.le_of_ble_eq_true rfl⟩ rfl hl.1 rfl (Nat.le_of_ble_eq_true rfl) dX8_goes_25 ⟨Nat.le_of_ble_eq_true rfl, Nat.le_of_ble_eq_true rfl⟩ ?_
      refine lv_istore (lv' := [(6, .int (fX8_next l4 l2)), (0, .ref a_m), (1, .int l1), (2, .int l2), (3, .int l3), (4, .int l4), (5, .int l5)]) hx hb dX8_goes_28 hl (by decide) rfl (fun ls hl => ?_)
      refine lv_iload hx hb dX8_goes_30 (lv_at hl 0 rfl) ?_
      refine lv_if_ge (tgt := 100) hx hb dX8_goes_32 (by decide) (fun c3 => ?_) (fun c3 => ?_)
      · replace h := ite_t c3 h
        refine lv_aload_n hx hb dX8_goes_100 rfl (lv_at hl 1 rfl) ?_
        refine lv_iload hx hb dX8_goes_101 (lv_at hl 0 rfl) ?_
        replace h := bnd h; obtain ⟨q4, e5, h⟩ := h
        refine rdV C hE hP (kX8_whaleAt l D T a_m a_ms a_mw a_mv a_mp a_mf a_ml a_mt a_mc m_chg m_thr m_rea m_det m_ref m_err m_ans m_sav m_net m_lin m_tap m_her m_cmd v_ms (fX8_next l4 l2) q4 e5) mX8_whaleAt qLX8_93 [0, 1] 0 rfl rfl rfl rfl ⟨rfl, rfl⟩ ⟨Nat.le_of_ble_eq_true rfl, Nat.le_of_ble_eq_true rfl⟩ rfl hl.1 rfl (Nat.le_of_ble_eq_true rfl) dX8_goes_103 ⟨Nat.le_of_ble_eq_true rfl, Nat.le_of_ble_eq_true rfl⟩ ?_
        refine lv_istore (lv' := [(7, .int q4), (6, .int (fX8_next l4 l2)), (0, .ref a_m), (1, .int l1), (2, .int l2), (3, .int l3), (4, .int l4), (5, .int l5)]) hx hb dX8_goes_106 hl (by decide) rfl (fun ls hl => ?_)
        refine lv_iload hx hb dX8_goes_108 (lv_at hl 0 rfl) ?_
        refine lv_if_lt (tgt := 122) hx hb dX8_goes_110 (by decide) (fun c6 => ?_) (fun c6 => ?_)
        · replace h := ite_t c6 h
          exact lX8_goes_122 C hE hA hret ih l1 l2 l3 l4 l5 (fX8_next l4 l2) m_net ⟨hP, hD⟩ hS _ (lv_sub hl [2, 3, 4, 5, 6, 7, 1] rfl) h
        · replace h := ite_f c6 h
          refine lv_iload hx hb dX8_goes_113 (lv_at hl 0 rfl) ?_
          refine lv_iload_n hx hb dX8_goes_115 rfl (lv_at hl 3 rfl) ?_
          refine lv_icmp_eq (tgt := 122) hx hb dX8_goes_116 (by decide) (fun c7 => ?_) (fun c7 => ?_)
          · replace h := ite_t c7 h
            exact lX8_goes_122 C hE hA hret ih l1 l2 l3 l4 l5 (fX8_next l4 l2) m_net ⟨hP, hD⟩ hS _ (lv_sub hl [2, 3, 4, 5, 6, 7, 1] rfl) h
          · replace h := ite_f c7 h
            refine lv_iload hx hb dX8_goes_119 (lv_at hl 6 rfl) ?_
            replace h := Option.some.inj h
            exact hret _ _ _ _ _ _ dX8_goes_121 rfl (by rw [← h] <;> rfl) (by rw [← h]; exact hP) hS
      · replace h := ite_f c3 h
        refine lv_iload_n hx hb dX8_goes_35 rfl (lv_at hl 3 rfl) ?_
        refine lv_iconst (v := 2) hx hb dX8_goes_36 (by decide) ?_
        refine lv_irem hx hb dX8_goes_37 (by decide) ?_
        refine lv_iconst (v := 1) hx hb dX8_goes_38 (by decide) ?_
        refine lv_icmp_ne (tgt := 59) hx hb dX8_goes_39 (by decide) (fun c8 => ?_) (fun c8 => ?_)
        · rw [if_neg c8] at h
          refine lv_iconst (v := 0) hx hb dX8_goes_59 (by decide) ?_
          exact lX8_goes_60 C hE hA hret 0 l2 l4 m_net ⟨hP, hD⟩ hS _ (lv_sub hl [1, 3, 5] rfl) h
        · rw [if_pos c8] at h
          refine lv_iload hx hb dX8_goes_42 (lv_at hl 5 rfl) ?_
          refine lv_bipush (v := 9) hx hb dX8_goes_44 (by decide) ?_
          refine lv_idiv hx hb dX8_goes_46 (by decide) ?_
          refine lv_iconst (v := 1) hx hb dX8_goes_47 (by decide) ?_
          refine lv_iconst (v := 3) hx hb dX8_goes_48 (by decide) ?_
          refine rdS C hE hP (kX8_isIn l D T (l4 / 9) 1 3) mX8_isIn qLX8_60 [] rfl ⟨rfl, rfl⟩ ⟨Nat.le_of_ble_eq_true rfl, Nat.le_of_ble_eq_true rfl⟩ rfl hl.1 rfl (Nat.le_of_ble_eq_true rfl) dX8_goes_49 ⟨Nat.le_of_ble_eq_true rfl, Nat.le_of_ble_eq_true rfl⟩ ?_
          refine lv_if_eq (tgt := 59) hx hb dX8_goes_52 (by decide) (fun c9 => ?_) (fun c9 => ?_)
          · rw [if_pos c9] at h
            refine lv_iconst (v := 0) hx hb dX8_goes_59 (by decide) ?_
            exact lX8_goes_60 C hE hA hret 0 l2 l4 m_net ⟨hP, hD⟩ hS _ (lv_sub hl [1, 3, 5] rfl) h
          · rw [if_neg c9] at h
            refine lv_iconst (v := 1) hx hb dX8_goes_55 (by decide) ?_
            refine lv_goto (tgt := 60) hx hb dX8_goes_56 (by decide) ?_
            exact lX8_goes_60 C hE hA hret 1 l2 l4 m_net ⟨hP, hD⟩ hS _ (lv_sub hl [1, 3, 5] rfl) h
set_option maxHeartbeats 4000000 in
set_option maxRecDepth 100000 in
theorem kX8_goes (l : Launch) (D : va_G) (T : Nat → ClassId) (a_m a_ms a_mw a_mv a_mp a_mf a_ml a_mt a_mc : Nat) (m_chg : Int32) (m_thr : Int32) (m_rea : Int32) (m_det : Int32) (m_ref : Int32) (m_err : Int32) (m_ans : Int32) (m_sav : Int32) (m_net : Int32) (m_lin : Int32) (m_tap : Int32) (m_her : Int32) (m_cmd : Int32) (v_ms : Nat → Int32) (p0 : Int32) (p1 : Int32) (p2 : Int32) (sz : Nat) (r : Int32 × Int32) (h : fX8_goes m_net v_ms p0 p1 p2 = some r) : WrI l yX8_goes cX8_goes 8 .int ({ frames := 4, cells := 0, slots := 0, locals := 84 } : Room) D T sz [(a_m, .inr (8, [.ref a_ms, .ref a_mw, .ref a_mv, .ref a_mp, .ref a_mf, .int m_chg, .int m_thr, .int m_rea, .int m_det, .int m_ref, .int m_err, .int m_ans, .int m_sav, .int m_net, .ref a_ml, .int m_lin, .ref a_mt, .ref a_mc, .int m_tap, .int m_her, .int m_cmd])), (a_ms, .inl (T 0, 103, .inl v_ms))] [(a_m, .inr (8, [.ref a_ms, .ref a_mw, .ref a_mv, .ref a_mp, .ref a_mf, .int m_chg, .int m_thr, .int m_rea, .int m_det, .int m_ref, .int m_err, .int m_ans, .int m_sav, .int r.2, .ref a_ml, .int m_lin, .ref a_mt, .ref a_mc, .int m_tap, .int m_her, .int m_cmd])), (a_ms, .inl (T 0, 103, .inl v_ms))] [.ref a_m, .int p0, .int p1, .int p2] r.1 := by
  unfold fX8_goes at h
  refine wrMet (by decide +kernel) rfl (fun p e s m args below meth c Q A C hE hA hP hD hS hret ls hl => ?_)
  have hx := C.1
  have hb := C.2.1
  have hl : lv_has ls 8 [(0, .ref a_m), (1, .int p0), (2, .int p1), (3, .int p2)] := hl
  refine lv_aload_n hx hb dX8_goes_0 rfl (lv_at hl 0 rfl) ?_
  refine getF (q0 := 0) (k0 := 0) (v := .ref a_ms) C hE hP inA8 rfl rfl (by decide) qFX8_9 rfl rfl dX8_goes_1 ?_
  refine lv_iconst (v := 2) hx hb dX8_goes_4 (by decide) ?_
  replace h := gd h; obtain ⟨g1, h⟩ := h
  refine aldI (q0 := 1) C hE hP rfl g1 dX8_goes_5 ?_
  refine lv_istore (lv' := [(4, .int (v_ms (2 : Int32).toNatClampNeg)), (0, .ref a_m), (1, .int p0), (2, .int p1), (3, .int p2)]) hx hb dX8_goes_6 hl (by decide) rfl (fun ls hl => ?_)
  refine lv_aload_n hx hb dX8_goes_8 rfl (lv_at hl 1 rfl) ?_
  refine lv_iconst (v := 0) hx hb dX8_goes_9 (by decide) ?_
  refine putF (q0 := 0) (k0 := 13) (ws1 := [(a_m, .inr (8, [.ref a_ms, .ref a_mw, .ref a_mv, .ref a_mp, .ref a_mf, .int m_chg, .int m_thr, .int m_rea, .int m_det, .int m_ref, .int m_err, .int m_ans, .int m_sav, .int 0, .ref a_ml, .int m_lin, .ref a_mt, .ref a_mc, .int m_tap, .int m_her, .int m_cmd])), (a_ms, .inl (T 0, 103, .inl v_ms))]) C hE hP hD hS inA8 tyX8_ok nmX8 rfl rfl (by decide) qFX8_155 rfl rfl rfl rfl (Nat.le_of_ble_eq_true rfl) rfl dX8_goes_10 ?_; clear hP hD hS; intro H locs hP hD hS
  refine lv_iconst (v := 0) hx hb dX8_goes_13 (by decide) ?_
  refine lv_istore (lv' := [(5, .int 0), (4, .int (v_ms (2 : Int32).toNatClampNeg)), (0, .ref a_m), (1, .int p0), (2, .int p1), (3, .int p2)]) hx hb dX8_goes_14 hl (by decide) rfl (fun ls hl => ?_)
  exact lX8_goes_16 C hE hA hret 64 p0 p1 p2 (v_ms (2 : Int32).toNatClampNeg) 0 0 ⟨hP, hD⟩ hS _ (lv_sub hl [2, 3, 4, 5, 1, 0] rfl) h

def fX8_wouldCome (m_net : Int32) (v_ms : Nat → Int32) (p0 : Int32) (p1 : Int32) (p2 : Int32) : Option (Int32 × Int32) :=
  (fX8_goes m_net v_ms p0 p1 p2).bind fun q1 =>
  if q1.1 < 45 then
    some (q1.1, q1.2)
  else
    (fX8_isFoul v_ms p0).bind fun q4 =>
    if q4 = 0 then
      some (q1.1, q1.2)
    else
      some (22, q1.2)
set_option maxHeartbeats 4000000 in
set_option maxRecDepth 100000 in
theorem kX8_wouldCome (l : Launch) (D : va_G) (T : Nat → ClassId) (a_m a_ms a_mw a_mv a_mp a_mf a_ml a_mt a_mc : Nat) (m_chg : Int32) (m_thr : Int32) (m_rea : Int32) (m_det : Int32) (m_ref : Int32) (m_err : Int32) (m_ans : Int32) (m_sav : Int32) (m_net : Int32) (m_lin : Int32) (m_tap : Int32) (m_her : Int32) (m_cmd : Int32) (v_ms : Nat → Int32) (p0 : Int32) (p1 : Int32) (p2 : Int32) (sz : Nat) (r : Int32 × Int32) (h : fX8_wouldCome m_net v_ms p0 p1 p2 = some r) : WrI l yX8_wouldCome cX8_wouldCome 5 .int ({ frames := 5, cells := 0, slots := 0, locals := 111 } : Room) D T sz [(a_m, .inr (8, [.ref a_ms, .ref a_mw, .ref a_mv, .ref a_mp, .ref a_mf, .int m_chg, .int m_thr, .int m_rea, .int m_det, .int m_ref, .int m_err, .int m_ans, .int m_sav, .int m_net, .ref a_ml, .int m_lin, .ref a_mt, .ref a_mc, .int m_tap, .int m_her, .int m_cmd])), (a_ms, .inl (T 0, 103, .inl v_ms))] [(a_m, .inr (8, [.ref a_ms, .ref a_mw, .ref a_mv, .ref a_mp, .ref a_mf, .int m_chg, .int m_thr, .int m_rea, .int m_det, .int m_ref, .int m_err, .int m_ans, .int m_sav, .int r.2, .ref a_ml, .int m_lin, .ref a_mt, .ref a_mc, .int m_tap, .int m_her, .int m_cmd])), (a_ms, .inl (T 0, 103, .inl v_ms))] [.ref a_m, .int p0, .int p1, .int p2] r.1 := by
  unfold fX8_wouldCome at h
  refine wrMet (by decide +kernel) rfl (fun p e s m args below meth c Q A C hE hA hP hD hS hret ls hl => ?_)
  have hx := C.1
  have hb := C.2.1
  have hl : lv_has ls 5 [(0, .ref a_m), (1, .int p0), (2, .int p1), (3, .int p2)] := hl
  refine lv_aload_n hx hb dX8_wouldCome_0 rfl (lv_at hl 0 rfl) ?_
  refine lv_iload_n hx hb dX8_wouldCome_1 rfl (lv_at hl 1 rfl) ?_
  refine lv_iload_n hx hb dX8_wouldCome_2 rfl (lv_at hl 2 rfl) ?_
  refine lv_iload_n hx hb dX8_wouldCome_3 rfl (lv_at hl 3 rfl) ?_
  replace h := bnd h; obtain ⟨q1, e2, h⟩ := h
  refine wrVi (ws1 := [(a_m, .inr (8, [.ref a_ms, .ref a_mw, .ref a_mv, .ref a_mp, .ref a_mf, .int m_chg, .int m_thr, .int m_rea, .int m_det, .int m_ref, .int m_err, .int m_ans, .int m_sav, .int q1.2, .ref a_ml, .int m_lin, .ref a_mt, .ref a_mc, .int m_tap, .int m_her, .int m_cmd])), (a_ms, .inl (T 0, 103, .inl v_ms))]) C hE hP hD hS hA (kX8_goes l D T a_m a_ms a_mw a_mv a_mp a_mf a_ml a_mt a_mc m_chg m_thr m_rea m_det m_ref m_err m_ans m_sav m_net m_lin m_tap m_her m_cmd v_ms p0 p1 p2 _ q1 e2) mX8_goes qLX8_159 [0, 1] [] 0 rfl rfl rfl rfl rfl rfl rfl rfl rfl ⟨rfl, rfl⟩ ⟨Nat.le_of_ble_eq_true rfl, Nat.le_of_ble_eq_true rfl⟩ rfl hl.1 rfl (Nat.le_of_ble_eq_true rfl) dX8_wouldCome_4 ⟨Nat.le_of_ble_eq_true rfl, Nat.le_of_ble_eq_true rfl⟩ ?_; clear hP hD hS; intro H locs hP hD hS
  refine lv_istore (lv' := [(4, .int q1.1), (0, .ref a_m), (1, .int p0), (2, .int p1), (3, .int p2)]) hx hb dX8_wouldCome_7 hl (by decide) rfl (fun ls hl => ?_)
  refine lv_iload hx hb dX8_wouldCome_9 (lv_at hl 0 rfl) ?_
  refine lv_bipush (v := 45) hx hb dX8_wouldCome_11 (by decide) ?_
  refine lv_icmp_lt (tgt := 29) hx hb dX8_wouldCome_13 (by decide) (fun c3 => ?_) (fun c3 => ?_)
  · replace h := ite_t c3 h
    refine lv_iload hx hb dX8_wouldCome_29 (lv_at hl 0 rfl) ?_
    replace h := Option.some.inj h
    exact hret _ _ _ _ _ _ dX8_wouldCome_31 rfl (by rw [← h] <;> rfl) (by rw [← h]; exact hP) hS
  · replace h := ite_f c3 h
    refine lv_aload_n hx hb dX8_wouldCome_16 rfl (lv_at hl 1 rfl) ?_
    refine lv_iload_n hx hb dX8_wouldCome_17 rfl (lv_at hl 2 rfl) ?_
    replace h := bnd h; obtain ⟨q4, e5, h⟩ := h
    refine rdV C hE hP (kX8_isFoul l D T a_m a_ms a_mw a_mv a_mp a_mf a_ml a_mt a_mc m_chg m_thr m_rea m_det m_ref m_err m_ans m_sav q1.2 m_lin m_tap m_her m_cmd v_ms p0 q4 e5) mX8_isFoul qLX8_162 [0, 1] 0 rfl rfl rfl rfl ⟨rfl, rfl⟩ ⟨Nat.le_of_ble_eq_true rfl, Nat.le_of_ble_eq_true rfl⟩ rfl hl.1 rfl (Nat.le_of_ble_eq_true rfl) dX8_wouldCome_18 ⟨Nat.le_of_ble_eq_true rfl, Nat.le_of_ble_eq_true rfl⟩ ?_
    refine lv_if_eq (tgt := 29) hx hb dX8_wouldCome_21 (by decide) (fun c6 => ?_) (fun c6 => ?_)
    · replace h := ite_t c6 h
      refine lv_iload hx hb dX8_wouldCome_29 (lv_at hl 0 rfl) ?_
      replace h := Option.some.inj h
      exact hret _ _ _ _ _ _ dX8_wouldCome_31 rfl (by rw [← h] <;> rfl) (by rw [← h]; exact hP) hS
    · replace h := ite_f c6 h
      refine lv_bipush (v := 22) hx hb dX8_wouldCome_24 (by decide) ?_
      refine lv_goto (tgt := 31) hx hb dX8_wouldCome_26 (by decide) ?_
      replace h := Option.some.inj h
      exact hret _ _ _ _ _ _ dX8_wouldCome_31 rfl (by rw [← h] <;> rfl) (by rw [← h]; exact hP) hS

def fX8_isStrike (p0 : Int32) (p1 : Int32) : Int32 :=
  if (fX8_isIn p0 0 3) = 0 then
    0
  else
    if (fX8_isIn p1 1 5) = 0 then
      0
    else
      1
set_option maxHeartbeats 4000000 in
set_option maxRecDepth 100000 in
theorem kX8_isStrike (l : Launch) (D : va_G) (T : Nat → ClassId) (p0 : Int32) (p1 : Int32) : RdI l yX8_isStrike cX8_isStrike 2 .boolean ({ frames := 1, cells := 0, slots := 0, locals := 22 } : Room) D T [] [.int p0, .int p1] (fX8_isStrike p0 p1) := by
  obtain ⟨r, h⟩ : ∃ r, fX8_isStrike p0 p1 = r := ⟨_, rfl⟩
  rw [h]
  unfold fX8_isStrike at h
  refine rdMet (by decide +kernel) rfl (fun p e s m args below meth c Q C hE hP hret ls hl => ?_)
  have hx := C.1
  have hb := C.2.1
  have hl : lv_has ls 2 [(0, .int p0), (1, .int p1)] := hl
  refine lv_iload_n hx hb dX8_isStrike_0 rfl (lv_at hl 0 rfl) ?_
  refine lv_iconst (v := 0) hx hb dX8_isStrike_1 (by decide) ?_
  refine lv_iconst (v := 3) hx hb dX8_isStrike_2 (by decide) ?_
  refine rdS C hE hP (kX8_isIn l D T p0 0 3) mX8_isIn qLX8_60 [] rfl ⟨rfl, rfl⟩ ⟨Nat.le_of_ble_eq_true rfl, Nat.le_of_ble_eq_true rfl⟩ rfl hl.1 rfl (Nat.le_of_ble_eq_true rfl) dX8_isStrike_3 ⟨Nat.le_of_ble_eq_true rfl, Nat.le_of_ble_eq_true rfl⟩ ?_
  refine lv_if_eq (tgt := 22) hx hb dX8_isStrike_6 (by decide) (fun c1 => ?_) (fun c1 => ?_)
  · replace h := ite_t c1 h
    refine lv_iconst (v := 0) hx hb dX8_isStrike_22 (by decide) ?_
    exact hret _ _ _ _ dX8_isStrike_23 rfl h
  · replace h := ite_f c1 h
    refine lv_iload_n hx hb dX8_isStrike_9 rfl (lv_at hl 1 rfl) ?_
    refine lv_iconst (v := 1) hx hb dX8_isStrike_10 (by decide) ?_
    refine lv_iconst (v := 5) hx hb dX8_isStrike_11 (by decide) ?_
    refine rdS C hE hP (kX8_isIn l D T p1 1 5) mX8_isIn qLX8_60 [] rfl ⟨rfl, rfl⟩ ⟨Nat.le_of_ble_eq_true rfl, Nat.le_of_ble_eq_true rfl⟩ rfl hl.1 rfl (Nat.le_of_ble_eq_true rfl) dX8_isStrike_12 ⟨Nat.le_of_ble_eq_true rfl, Nat.le_of_ble_eq_true rfl⟩ ?_
    refine lv_if_eq (tgt := 22) hx hb dX8_isStrike_15 (by decide) (fun c2 => ?_) (fun c2 => ?_)
    · replace h := ite_t c2 h
      refine lv_iconst (v := 0) hx hb dX8_isStrike_22 (by decide) ?_
      exact hret _ _ _ _ dX8_isStrike_23 rfl h
    · replace h := ite_f c2 h
      refine lv_iconst (v := 1) hx hb dX8_isStrike_18 (by decide) ?_
      refine lv_goto (tgt := 23) hx hb dX8_isStrike_19 (by decide) ?_
      exact hret _ _ _ _ dX8_isStrike_23 rfl h

def fX8_strikesBuoy_455 (x1 : Int32) (m_thr : Int32) (m_rea : Int32) (m_det : Int32) (m_ref : Int32) (m_net : Int32) (v_ms : Nat → Int32) : Option (Int32 × Int32 × Int32 × Int32 × Int32 × Int32 × (Nat → Int32)) :=
  (fX8_strokes v_ms x1).bind fun q87 =>
  some (q87.1, m_thr, m_rea, m_det, m_ref, m_net, q87.2)
def fX8_strikesBuoy_436 (x1 : Int32) (x2 : Int32) (l8 : Int32) (l9 : Int32) (l10 : Int32) (m_thr : Int32) (m_rea : Int32) (m_det : Int32) (m_ref : Int32) (m_net : Int32) (v_ms : Nat → Int32) : Option (Int32 × Int32 × Int32 × Int32 × Int32 × Int32 × (Nat → Int32)) :=
  if vin x1 103 = true then
  fX8_strikesBuoy_455 (if l10 = 0 then l9 else (if l8 = 0 then l9 else 22)) m_thr m_rea m_det m_ref m_net (upd v_ms x1.toNatClampNeg x2)
  else none
def fX8_strikesBuoy_418 (x1 : Int32) (l7 : Int32) (l8 : Int32) (l9 : Int32) (l10 : Int32) (m_thr : Int32) (m_rea : Int32) (m_det : Int32) (m_ref : Int32) (m_net : Int32) (v_ms : Nat → Int32) : Option (Int32 × Int32 × Int32 × Int32 × Int32 × Int32 × (Nat → Int32)) :=
  fX8_strikesBuoy_436 x1 (1 - l7) l8 l9 l10 m_thr m_rea m_det m_ref m_net v_ms
def fX8_strikesBuoy_400 (x1 : Int32) (x2 : Int32) (l7 : Int32) (l8 : Int32) (l9 : Int32) (l10 : Int32) (m_thr : Int32) (m_rea : Int32) (m_det : Int32) (m_ref : Int32) (m_net : Int32) (v_ms : Nat → Int32) : Option (Int32 × Int32 × Int32 × Int32 × Int32 × Int32 × (Nat → Int32)) :=
  if vin x1 103 = true then
  if l8 = 0 then
    if m_net = 0 then
      fX8_strikesBuoy_436 3 (if l10 = 0 then l7 else (-1)) l8 l9 l10 m_thr m_rea m_det m_ref m_net (upd v_ms x1.toNatClampNeg x2)
    else
      fX8_strikesBuoy_418 3 l7 l8 l9 l10 m_thr m_rea m_det m_ref m_net (upd v_ms x1.toNatClampNeg x2)
  else
    fX8_strikesBuoy_418 3 l7 l8 l9 l10 m_thr m_rea m_det m_ref m_net (upd v_ms x1.toNatClampNeg x2)
  else none
def fX8_strikesBuoy_383 (l7 : Int32) (l8 : Int32) (l9 : Int32) (l10 : Int32) (m_thr : Int32) (m_rea : Int32) (m_det : Int32) (m_ref : Int32) (m_net : Int32) (v_ms : Nat → Int32) : Option (Int32 × Int32 × Int32 × Int32 × Int32 × Int32 × (Nat → Int32)) :=
  fX8_strikesBuoy_400 2 (if l10 = 0 then l9 else 22) l7 l8 l9 l10 m_thr m_rea m_det m_ref m_net v_ms
def fX8_strikesBuoy_355 (x1 : Int32) (x2 : Int32) (x3 : Int32) (l7 : Int32) (l8 : Int32) (l9 : Int32) (l10 : Int32) (m_thr : Int32) (m_rea : Int32) (m_det : Int32) (m_ref : Int32) (m_net : Int32) (v_ms : Nat → Int32) : Option (Int32 × Int32 × Int32 × Int32 × Int32 × Int32 × (Nat → Int32)) :=
  if vin x1 103 = true then
  if l10 = 0 then
    fX8_strikesBuoy_383 l7 l8 l9 l10 m_thr m_rea m_det m_ref m_net (upd v_ms x1.toNatClampNeg (x2 + x3))
  else
    if l8 = 0 then
      if vin ((4 + l9) - 45) 103 = true then
      if vin ((4 + l9) - 45) 103 = true then
      fX8_strikesBuoy_383 l7 l8 l9 l10 m_thr m_rea m_det m_ref m_net (upd (upd v_ms x1.toNatClampNeg (x2 + x3)) ((4 + l9) - 45).toNatClampNeg (((upd v_ms x1.toNatClampNeg (x2 + x3)) ((4 + l9) - 45).toNatClampNeg) + 1))
      else none
      else none
    else
      fX8_strikesBuoy_383 l7 l8 l9 l10 m_thr m_rea m_det m_ref m_net (upd v_ms x1.toNatClampNeg (x2 + x3))
  else none
def fX8_strikesBuoy_333 (x1 : Int32) (x2 : Int32) (x3 : Int32) (l7 : Int32) (l8 : Int32) (l9 : Int32) (l10 : Int32) (m_thr : Int32) (m_rea : Int32) (m_det : Int32) (m_ref : Int32) (m_net : Int32) (v_ms : Nat → Int32) : Option (Int32 × Int32 × Int32 × Int32 × Int32 × Int32 × (Nat → Int32)) :=
  if vin x1 103 = true then
  if vin 8 103 = true then
  fX8_strikesBuoy_355 8 ((upd v_ms x1.toNatClampNeg (x2 + x3)) (8 : Int32).toNatClampNeg) (if m_net = 0 then 0 else 1) l7 l8 l9 l10 m_thr m_rea m_det m_ref m_net (upd v_ms x1.toNatClampNeg (x2 + x3))
  else none
  else none
def fX8_strikesBuoy_300 (x1 : Int32) (x2 : Int32) (x3 : Int32) (x4 : Int32) (l7 : Int32) (l8 : Int32) (l9 : Int32) (l10 : Int32) (m_thr : Int32) (m_rea : Int32) (m_det : Int32) (m_ref : Int32) (m_net : Int32) (v_ms : Nat → Int32) : Option (Int32 × Int32 × Int32 × Int32 × Int32 × Int32 × (Nat → Int32)) :=
  (fX8_sets v_ms x1 x2 (x3 + x4)).bind fun q65 =>
  if vin 6 103 = true then
  if vin 6 103 = true then
  if vin 7 103 = true then
  fX8_strikesBuoy_333 7 ((upd q65 (6 : Int32).toNatClampNeg ((q65 (6 : Int32).toNatClampNeg) + 1)) (7 : Int32).toNatClampNeg) (if l8 = 0 then 0 else 1) l7 l8 l9 l10 m_thr m_rea m_det m_ref m_net (upd q65 (6 : Int32).toNatClampNeg ((q65 (6 : Int32).toNatClampNeg) + 1))
  else none
  else none
  else none
def fX8_strikesBuoy_265 (x1 : Int32) (x2 : Int32) (x3 : Int32) (x4 : Int32) (l1 : Int32) (l7 : Int32) (l8 : Int32) (l9 : Int32) (l10 : Int32) (m_thr : Int32) (m_rea : Int32) (m_det : Int32) (m_ref : Int32) (m_net : Int32) (v_ms : Nat → Int32) : Option (Int32 × Int32 × Int32 × Int32 × Int32 × Int32 × (Nat → Int32)) :=
  (fX8_sets v_ms x1 x2 (x3 + x4)).bind fun q59 =>
  (fX8_of q59 l1 6).bind fun q61 =>
  fX8_strikesBuoy_300 l1 6 q61 (if l8 = 0 then (if l9 = (45 + l7) then 1 else 0) else 0) l7 l8 l9 l10 m_thr m_rea m_det m_ref m_net q59
def fX8_strikesBuoy_216 (x0 : Int32) (l1 : Int32) (l6 : Int32) (l7 : Int32) (l8 : Int32) (l9 : Int32) (m_thr : Int32) (m_rea : Int32) (m_det : Int32) (m_ref : Int32) (m_net : Int32) (v_ms : Nat → Int32) : Option (Int32 × Int32 × Int32 × Int32 × Int32 × Int32 × (Nat → Int32)) :=
  (fX8_sets v_ms l1 3 (l6 - 1)).bind fun q50 =>
  (fX8_of q50 l1 8).bind fun q52 =>
  (fX8_sets q50 l1 8 (q52 + 1)).bind fun q54 =>
  (fX8_of q54 l1 7).bind fun q56 =>
  fX8_strikesBuoy_265 l1 7 q56 (if l8 = 0 then 0 else 1) l1 l7 l8 l9 x0 m_thr m_rea m_det m_ref m_net q54
def fX8_strikesBuoy_168 (x1 : Int32) (l1 : Int32) (l2 : Int32) (l3 : Int32) (l6 : Int32) (m_thr : Int32) (m_rea : Int32) (m_det : Int32) (m_ref : Int32) (m_net : Int32) (v_ms : Nat → Int32) : Option (Int32 × Int32 × Int32 × Int32 × Int32 × Int32 × (Nat → Int32)) :=
  (fX8_isRefused m_thr m_rea m_det m_ref x1 6 l6).bind fun q40 =>
  if q40.1 = 0 then
    (fX8_of v_ms l1 0).bind fun q43 =>
    (fX8_isFoul v_ms l1).bind fun q45 =>
    (fX8_goes m_net v_ms l1 l2 l3).bind fun q47 =>
    fX8_strikesBuoy_216 (if q47.1 < 45 then 0 else 1) l1 l6 q43 q45 q47.1 q40.2.1 q40.2.2.1 q40.2.2.2.1 q40.2.2.2.2 q47.2 v_ms
  else
    some (0, q40.2.1, q40.2.2.1, q40.2.2.2.1, q40.2.2.2.2, m_net, v_ms)
def fX8_strikesBuoy_142 (x1 : Int32) (l1 : Int32) (l2 : Int32) (l3 : Int32) (l6 : Int32) (m_thr : Int32) (m_rea : Int32) (m_det : Int32) (m_ref : Int32) (m_net : Int32) (v_ms : Nat → Int32) : Option (Int32 × Int32 × Int32 × Int32 × Int32 × Int32 × (Nat → Int32)) :=
  (fX8_of v_ms l1 1).bind fun q34 =>
  (fX8_isRefused m_thr m_rea m_det m_ref x1 10 q34).bind fun q36 =>
  if q36.1 = 0 then
    fX8_strikesBuoy_168 (if 1 ≤ l6 then 0 else 1) l1 l2 l3 l6 q36.2.1 q36.2.2.1 q36.2.2.2.1 q36.2.2.2.2 m_net v_ms
  else
    some (0, q36.2.1, q36.2.2.1, q36.2.2.2.1, q36.2.2.2.2, m_net, v_ms)
def fX8_strikesBuoy_116 (x1 : Int32) (l1 : Int32) (l2 : Int32) (l3 : Int32) (l5 : Int32) (l6 : Int32) (m_thr : Int32) (m_rea : Int32) (m_det : Int32) (m_ref : Int32) (m_net : Int32) (v_ms : Nat → Int32) : Option (Int32 × Int32 × Int32 × Int32 × Int32 × Int32 × (Nat → Int32)) :=
  (fX8_isRefused m_thr m_rea m_det m_ref x1 9 l5).bind fun q28 =>
  if q28.1 = 0 then
    (fX8_of v_ms l1 1).bind fun q31 =>
    fX8_strikesBuoy_142 (if l3 ≤ q31 then 0 else 1) l1 l2 l3 l6 q28.2.1 q28.2.2.1 q28.2.2.2.1 q28.2.2.2.2 m_net v_ms
  else
    some (0, q28.2.1, q28.2.2.1, q28.2.2.2.1, q28.2.2.2.2, m_net, v_ms)
def fX8_strikesBuoy_35 (x1 : Int32) (l1 : Int32) (l2 : Int32) (l3 : Int32) (m_thr : Int32) (m_rea : Int32) (m_det : Int32) (m_ref : Int32) (m_net : Int32) (v_ms : Nat → Int32) : Option (Int32 × Int32 × Int32 × Int32 × Int32 × Int32 × (Nat → Int32)) :=
  (fX8_isThrown m_thr x1 2).bind fun q8 =>
  if q8.1 = 0 then
    (fX8_isOver q8.2 m_rea m_det m_ref v_ms).bind fun q11 =>
    if q11.1 = 0 then
      (fX8_isOnBench q11.2.1 q11.2.2.1 q11.2.2.2.1 q11.2.2.2.2 v_ms l1).bind fun q14 =>
      if q14.1 = 0 then
        (fX8_of v_ms l1 4).bind fun q17 =>
        if vin 2 103 = true then
        (fX8_of v_ms l1 3).bind fun q20 =>
        (fX8_isDryNow v_ms q17).bind fun q22 =>
        (fX8_isRefused q14.2.1 q14.2.2.1 q14.2.2.2.1 q14.2.2.2.2 q22 4 q17).bind fun q24 =>
        if q24.1 = 0 then
          fX8_strikesBuoy_116 (if (fX8_apart q17 (v_ms (2 : Int32).toNatClampNeg)) ≤ 1 then 0 else 1) l1 l2 l3 (fX8_apart q17 (v_ms (2 : Int32).toNatClampNeg)) q20 q24.2.1 q24.2.2.1 q24.2.2.2.1 q24.2.2.2.2 m_net v_ms
        else
          some (0, q24.2.1, q24.2.2.1, q24.2.2.2.1, q24.2.2.2.2, m_net, v_ms)
        else none
      else
        some (0, q14.2.1, q14.2.2.1, q14.2.2.2.1, q14.2.2.2.2, m_net, v_ms)
    else
      some (0, q11.2.1, q11.2.2.1, q11.2.2.2.1, q11.2.2.2.2, m_net, v_ms)
  else
    some (0, q8.2, m_rea, m_det, m_ref, m_net, v_ms)
def fX8_strikesBuoy_14 (x1 : Int32) (l1 : Int32) (l2 : Int32) (l3 : Int32) (m_thr : Int32) (m_rea : Int32) (m_det : Int32) (m_ref : Int32) (m_net : Int32) (v_ms : Nat → Int32) : Option (Int32 × Int32 × Int32 × Int32 × Int32 × Int32 × (Nat → Int32)) :=
  (fX8_isThrown m_thr x1 1).bind fun q4 =>
  if q4.1 = 0 then
    fX8_strikesBuoy_35 (if (fX8_isStrike l2 l3) = 0 then 1 else 0) l1 l2 l3 q4.2 m_rea m_det m_ref m_net v_ms
  else
    some (0, q4.2, m_rea, m_det, m_ref, m_net, v_ms)
def fX8_strikesBuoy (m_thr : Int32) (m_rea : Int32) (m_det : Int32) (m_ref : Int32) (m_net : Int32) (v_ms : Nat → Int32) (p0 : Int32) (p1 : Int32) (p2 : Int32) : Option (Int32 × Int32 × Int32 × Int32 × Int32 × Int32 × (Nat → Int32)) :=
  (fX8_isWhale v_ms p0).bind fun q1 =>
  fX8_strikesBuoy_14 (if q1 = 0 then 1 else 0) p0 p1 p2 m_thr m_rea m_det m_ref m_net v_ms
set_option maxHeartbeats 4000000 in
set_option maxRecDepth 100000 in
theorem lX8_strikesBuoy_455 {p : Program} {l : Launch} {e : Env} {s : State} {m : MethodId} {args : Array Value} {below : List Frame} {meth : Method} {c : Code} {Q : State → Prop} {D : va_G} {T : Nat → ClassId} {a_m a_ms a_mw a_mv a_mp a_mf a_ml a_mt a_mc : Nat} {m_chg : Int32} {m_err : Int32} {m_ans : Int32} {m_sav : Int32} {m_lin : Int32} {m_tap : Int32} {m_her : Int32} {m_cmd : Int32} {A : Nat → Prop} {r : Int32 × Int32 × Int32 × Int32 × Int32 × Int32 × (Nat → Int32)} (C : CallFix p m c cX8_strikesBuoy 11 s args aw RX8) (hE : eK D T s) (hA : ∀ q : Nat, s.heap.size ≤ q → A q) (hret : WrRet p l e ({ frames := 5, cells := 0, slots := 0, locals := 111 } : Room) s m args below meth c Q cX8_strikesBuoy .int D A [(a_m, .inr (8, [.ref a_ms, .ref a_mw, .ref a_mv, .ref a_mp, .ref a_mf, .int m_chg, .int r.2.1, .int r.2.2.1, .int r.2.2.2.1, .int r.2.2.2.2.1, .int m_err, .int m_ans, .int m_sav, .int r.2.2.2.2.2.1, .ref a_ml, .int m_lin, .ref a_mt, .ref a_mc, .int m_tap, .int m_her, .int m_cmd])), (a_ms, .inl (T 0, 103, .inl r.2.2.2.2.2.2))] r.1) (x1 : Int32) (m_thr : Int32) (m_rea : Int32) (m_det : Int32) (m_ref : Int32) (m_net : Int32) (v_ms : Nat → Int32) {H : Heap} {locs : List Loc} (hPD : va_PD D A [(a_m, .inr (8, [.ref a_ms, .ref a_mw, .ref a_mv, .ref a_mp, .ref a_mf, .int m_chg, .int m_thr, .int m_rea, .int m_det, .int m_ref, .int m_err, .int m_ans, .int m_sav, .int m_net, .ref a_ml, .int m_lin, .ref a_mt, .ref a_mc, .int m_tap, .int m_her, .int m_cmd])), (a_ms, .inl (T 0, 103, .inl v_ms))] H) (hS : va_S A s.heap H locs) (ls : Array Slot) (hl : lv_has ls 11 []) (h : fX8_strikesBuoy_455 x1 m_thr m_rea m_det m_ref m_net v_ms = some r) : W p l e ({ frames := 5, cells := 0, slots := 0, locals := 111 } : Room) s m args below meth c H locs 0 0 Q (F0 m 455 ls [.int x1, .ref a_m]) := by
  have hx := C.1
  have hb := C.2.1
  obtain ⟨hP, hD⟩ := hPD
  unfold fX8_strikesBuoy_455 at h
  replace h := bnd h; obtain ⟨q87, e88, h⟩ := h
  refine wrVi (ws1 := [(a_m, .inr (8, [.ref a_ms, .ref a_mw, .ref a_mv, .ref a_mp, .ref a_mf, .int m_chg, .int m_thr, .int m_rea, .int m_det, .int m_ref, .int m_err, .int m_ans, .int m_sav, .int m_net, .ref a_ml, .int m_lin, .ref a_mt, .ref a_mc, .int m_tap, .int m_her, .int m_cmd])), (a_ms, .inl (T 0, 103, .inl q87.2))]) C hE hP hD hS hA (kX8_strokes l D T a_m a_ms a_mw a_mv a_mp a_mf a_ml a_mt a_mc m_chg m_thr m_rea m_det m_ref m_err m_ans m_sav m_net m_lin m_tap m_her m_cmd v_ms x1 _ q87 e88) mX8_strokes qLX8_130 [0, 1] [] 0 rfl rfl rfl rfl rfl rfl rfl rfl rfl ⟨rfl, rfl⟩ ⟨Nat.le_of_ble_eq_true rfl, Nat.le_of_ble_eq_true rfl⟩ rfl hl.1 rfl (Nat.le_of_ble_eq_true rfl) dX8_strikesBuoy_455 ⟨Nat.le_of_ble_eq_true rfl, Nat.le_of_ble_eq_true rfl⟩ ?_; clear hP hD hS; intro H locs hP hD hS
  replace h := Option.some.inj h
  exact hret _ _ _ _ _ _ dX8_strikesBuoy_458 rfl (by rw [← h] <;> rfl) (by rw [← h]; exact hP) hS
set_option maxHeartbeats 4000000 in
set_option maxRecDepth 100000 in
theorem lX8_strikesBuoy_436 {p : Program} {l : Launch} {e : Env} {s : State} {m : MethodId} {args : Array Value} {below : List Frame} {meth : Method} {c : Code} {Q : State → Prop} {D : va_G} {T : Nat → ClassId} {a_m a_ms a_mw a_mv a_mp a_mf a_ml a_mt a_mc : Nat} {m_chg : Int32} {m_err : Int32} {m_ans : Int32} {m_sav : Int32} {m_lin : Int32} {m_tap : Int32} {m_her : Int32} {m_cmd : Int32} {A : Nat → Prop} {r : Int32 × Int32 × Int32 × Int32 × Int32 × Int32 × (Nat → Int32)} (C : CallFix p m c cX8_strikesBuoy 11 s args aw RX8) (hE : eK D T s) (hA : ∀ q : Nat, s.heap.size ≤ q → A q) (hret : WrRet p l e ({ frames := 5, cells := 0, slots := 0, locals := 111 } : Room) s m args below meth c Q cX8_strikesBuoy .int D A [(a_m, .inr (8, [.ref a_ms, .ref a_mw, .ref a_mv, .ref a_mp, .ref a_mf, .int m_chg, .int r.2.1, .int r.2.2.1, .int r.2.2.2.1, .int r.2.2.2.2.1, .int m_err, .int m_ans, .int m_sav, .int r.2.2.2.2.2.1, .ref a_ml, .int m_lin, .ref a_mt, .ref a_mc, .int m_tap, .int m_her, .int m_cmd])), (a_ms, .inl (T 0, 103, .inl r.2.2.2.2.2.2))] r.1) (x1 : Int32) (x2 : Int32) (l8 : Int32) (l9 : Int32) (l10 : Int32) (m_thr : Int32) (m_rea : Int32) (m_det : Int32) (m_ref : Int32) (m_net : Int32) (v_ms : Nat → Int32) {H : Heap} {locs : List Loc} (hPD : va_PD D A [(a_m, .inr (8, [.ref a_ms, .ref a_mw, .ref a_mv, .ref a_mp, .ref a_mf, .int m_chg, .int m_thr, .int m_rea, .int m_det, .int m_ref, .int m_err, .int m_ans, .int m_sav, .int m_net, .ref a_ml, .int m_lin, .ref a_mt, .ref a_mc, .int m_tap, .int m_her, .int m_cmd])), (a_ms, .inl (T 0, 103, .inl v_ms))] H) (hS : va_S A s.heap H locs) (ls : Array Slot) (hl : lv_has ls 11 [(0, .ref a_m), (8, .int l8), (9, .int l9), (10, .int l10)]) (h : fX8_strikesBuoy_436 x1 x2 l8 l9 l10 m_thr m_rea m_det m_ref m_net v_ms = some r) : W p l e ({ frames := 5, cells := 0, slots := 0, locals := 111 } : Room) s m args below meth c H locs 0 0 Q (F0 m 436 ls [.int x2, .int x1, .ref a_ms]) := by
  have hx := C.1
  have hb := C.2.1
  obtain ⟨hP, hD⟩ := hPD
  unfold fX8_strikesBuoy_436 at h
  replace h := gd h; obtain ⟨g84, h⟩ := h
  refine astI (q0 := 1) (ws1 := [(a_m, .inr (8, [.ref a_ms, .ref a_mw, .ref a_mv, .ref a_mp, .ref a_mf, .int m_chg, .int m_thr, .int m_rea, .int m_det, .int m_ref, .int m_err, .int m_ans, .int m_sav, .int m_net, .ref a_ml, .int m_lin, .ref a_mt, .ref a_mc, .int m_tap, .int m_her, .int m_cmd])), (a_ms, .inl (T 0, 103, .inl (upd v_ms x1.toNatClampNeg x2)))]) C hE hP hD hS rfl g84 rfl dX8_strikesBuoy_436 ?_; clear hP hD hS; intro H locs hP hD hS
  refine lv_aload_n hx hb dX8_strikesBuoy_437 rfl (lv_at hl 0 rfl) ?_
  refine lv_iload hx hb dX8_strikesBuoy_438 (lv_at hl 3 rfl) ?_
  refine lv_if_eq (tgt := 453) hx hb dX8_strikesBuoy_440 (by decide) (fun c85 => ?_) (fun c85 => ?_)
  · rw [if_pos c85] at h
    refine lv_iload hx hb dX8_strikesBuoy_453 (lv_at hl 2 rfl) ?_
    exact lX8_strikesBuoy_455 C hE hA hret l9 m_thr m_rea m_det m_ref m_net (upd v_ms x1.toNatClampNeg x2) ⟨hP, hD⟩ hS _ (lv_sub hl [] rfl) h
  · rw [if_neg c85] at h
    refine lv_iload hx hb dX8_strikesBuoy_443 (lv_at hl 1 rfl) ?_
    refine lv_if_eq (tgt := 453) hx hb dX8_strikesBuoy_445 (by decide) (fun c86 => ?_) (fun c86 => ?_)
    · rw [if_pos c86] at h
      refine lv_iload hx hb dX8_strikesBuoy_453 (lv_at hl 2 rfl) ?_
      exact lX8_strikesBuoy_455 C hE hA hret l9 m_thr m_rea m_det m_ref m_net (upd v_ms x1.toNatClampNeg x2) ⟨hP, hD⟩ hS _ (lv_sub hl [] rfl) h
    · rw [if_neg c86] at h
      refine lv_bipush (v := 22) hx hb dX8_strikesBuoy_448 (by decide) ?_
      refine lv_goto (tgt := 455) hx hb dX8_strikesBuoy_450 (by decide) ?_
      exact lX8_strikesBuoy_455 C hE hA hret 22 m_thr m_rea m_det m_ref m_net (upd v_ms x1.toNatClampNeg x2) ⟨hP, hD⟩ hS _ (lv_sub hl [] rfl) h
set_option maxHeartbeats 4000000 in
set_option maxRecDepth 100000 in
theorem lX8_strikesBuoy_418 {p : Program} {l : Launch} {e : Env} {s : State} {m : MethodId} {args : Array Value} {below : List Frame} {meth : Method} {c : Code} {Q : State → Prop} {D : va_G} {T : Nat → ClassId} {a_m a_ms a_mw a_mv a_mp a_mf a_ml a_mt a_mc : Nat} {m_chg : Int32} {m_err : Int32} {m_ans : Int32} {m_sav : Int32} {m_lin : Int32} {m_tap : Int32} {m_her : Int32} {m_cmd : Int32} {A : Nat → Prop} {r : Int32 × Int32 × Int32 × Int32 × Int32 × Int32 × (Nat → Int32)} (C : CallFix p m c cX8_strikesBuoy 11 s args aw RX8) (hE : eK D T s) (hA : ∀ q : Nat, s.heap.size ≤ q → A q) (hret : WrRet p l e ({ frames := 5, cells := 0, slots := 0, locals := 111 } : Room) s m args below meth c Q cX8_strikesBuoy .int D A [(a_m, .inr (8, [.ref a_ms, .ref a_mw, .ref a_mv, .ref a_mp, .ref a_mf, .int m_chg, .int r.2.1, .int r.2.2.1, .int r.2.2.2.1, .int r.2.2.2.2.1, .int m_err, .int m_ans, .int m_sav, .int r.2.2.2.2.2.1, .ref a_ml, .int m_lin, .ref a_mt, .ref a_mc, .int m_tap, .int m_her, .int m_cmd])), (a_ms, .inl (T 0, 103, .inl r.2.2.2.2.2.2))] r.1) (x1 : Int32) (l7 : Int32) (l8 : Int32) (l9 : Int32) (l10 : Int32) (m_thr : Int32) (m_rea : Int32) (m_det : Int32) (m_ref : Int32) (m_net : Int32) (v_ms : Nat → Int32) {H : Heap} {locs : List Loc} (hPD : va_PD D A [(a_m, .inr (8, [.ref a_ms, .ref a_mw, .ref a_mv, .ref a_mp, .ref a_mf, .int m_chg, .int m_thr, .int m_rea, .int m_det, .int m_ref, .int m_err, .int m_ans, .int m_sav, .int m_net, .ref a_ml, .int m_lin, .ref a_mt, .ref a_mc, .int m_tap, .int m_her, .int m_cmd])), (a_ms, .inl (T 0, 103, .inl v_ms))] H) (hS : va_S A s.heap H locs) (ls : Array Slot) (hl : lv_has ls 11 [(0, .ref a_m), (7, .int l7), (8, .int l8), (9, .int l9), (10, .int l10)]) (h : fX8_strikesBuoy_418 x1 l7 l8 l9 l10 m_thr m_rea m_det m_ref m_net v_ms = some r) : W p l e ({ frames := 5, cells := 0, slots := 0, locals := 111 } : Room) s m args below meth c H locs 0 0 Q (F0 m 418 ls [.int x1, .ref a_ms]) := by
  have hx := C.1
  have hb := C.2.1
  obtain ⟨hP, hD⟩ := hPD
  unfold fX8_strikesBuoy_418 at h
  refine lv_iconst (v := 1) hx hb dX8_strikesBuoy_418 (by decide) ?_
  refine lv_iload hx hb dX8_strikesBuoy_419 (lv_at hl 1 rfl) ?_
  refine lv_isub hx hb dX8_strikesBuoy_421 ?_
  refine lv_goto (tgt := 436) hx hb dX8_strikesBuoy_422 (by decide) ?_
  exact lX8_strikesBuoy_436 C hE hA hret x1 (1 - l7) l8 l9 l10 m_thr m_rea m_det m_ref m_net v_ms ⟨hP, hD⟩ hS _ (lv_sub hl [0, 2, 3, 4] rfl) h
set_option maxHeartbeats 4000000 in
set_option maxRecDepth 100000 in
theorem lX8_strikesBuoy_400 {p : Program} {l : Launch} {e : Env} {s : State} {m : MethodId} {args : Array Value} {below : List Frame} {meth : Method} {c : Code} {Q : State → Prop} {D : va_G} {T : Nat → ClassId} {a_m a_ms a_mw a_mv a_mp a_mf a_ml a_mt a_mc : Nat} {m_chg : Int32} {m_err : Int32} {m_ans : Int32} {m_sav : Int32} {m_lin : Int32} {m_tap : Int32} {m_her : Int32} {m_cmd : Int32} {A : Nat → Prop} {r : Int32 × Int32 × Int32 × Int32 × Int32 × Int32 × (Nat → Int32)} (C : CallFix p m c cX8_strikesBuoy 11 s args aw RX8) (hE : eK D T s) (hA : ∀ q : Nat, s.heap.size ≤ q → A q) (hret : WrRet p l e ({ frames := 5, cells := 0, slots := 0, locals := 111 } : Room) s m args below meth c Q cX8_strikesBuoy .int D A [(a_m, .inr (8, [.ref a_ms, .ref a_mw, .ref a_mv, .ref a_mp, .ref a_mf, .int m_chg, .int r.2.1, .int r.2.2.1, .int r.2.2.2.1, .int r.2.2.2.2.1, .int m_err, .int m_ans, .int m_sav, .int r.2.2.2.2.2.1, .ref a_ml, .int m_lin, .ref a_mt, .ref a_mc, .int m_tap, .int m_her, .int m_cmd])), (a_ms, .inl (T 0, 103, .inl r.2.2.2.2.2.2))] r.1) (x1 : Int32) (x2 : Int32) (l7 : Int32) (l8 : Int32) (l9 : Int32) (l10 : Int32) (m_thr : Int32) (m_rea : Int32) (m_det : Int32) (m_ref : Int32) (m_net : Int32) (v_ms : Nat → Int32) {H : Heap} {locs : List Loc} (hPD : va_PD D A [(a_m, .inr (8, [.ref a_ms, .ref a_mw, .ref a_mv, .ref a_mp, .ref a_mf, .int m_chg, .int m_thr, .int m_rea, .int m_det, .int m_ref, .int m_err, .int m_ans, .int m_sav, .int m_net, .ref a_ml, .int m_lin, .ref a_mt, .ref a_mc, .int m_tap, .int m_her, .int m_cmd])), (a_ms, .inl (T 0, 103, .inl v_ms))] H) (hS : va_S A s.heap H locs) (ls : Array Slot) (hl : lv_has ls 11 [(0, .ref a_m), (7, .int l7), (8, .int l8), (9, .int l9), (10, .int l10)]) (h : fX8_strikesBuoy_400 x1 x2 l7 l8 l9 l10 m_thr m_rea m_det m_ref m_net v_ms = some r) : W p l e ({ frames := 5, cells := 0, slots := 0, locals := 111 } : Room) s m args below meth c H locs 0 0 Q (F0 m 400 ls [.int x2, .int x1, .ref a_ms]) := by
  have hx := C.1
  have hb := C.2.1
  obtain ⟨hP, hD⟩ := hPD
  unfold fX8_strikesBuoy_400 at h
  replace h := gd h; obtain ⟨g80, h⟩ := h
  refine astI (q0 := 1) (ws1 := [(a_m, .inr (8, [.ref a_ms, .ref a_mw, .ref a_mv, .ref a_mp, .ref a_mf, .int m_chg, .int m_thr, .int m_rea, .int m_det, .int m_ref, .int m_err, .int m_ans, .int m_sav, .int m_net, .ref a_ml, .int m_lin, .ref a_mt, .ref a_mc, .int m_tap, .int m_her, .int m_cmd])), (a_ms, .inl (T 0, 103, .inl (upd v_ms x1.toNatClampNeg x2)))]) C hE hP hD hS rfl g80 rfl dX8_strikesBuoy_400 ?_; clear hP hD hS; intro H locs hP hD hS
  refine lv_aload_n hx hb dX8_strikesBuoy_401 rfl (lv_at hl 0 rfl) ?_
  refine getF (q0 := 0) (k0 := 0) (v := .ref a_ms) C hE hP inA8 rfl rfl (by decide) qFX8_9 rfl rfl dX8_strikesBuoy_402 ?_
  refine lv_iconst (v := 3) hx hb dX8_strikesBuoy_405 (by decide) ?_
  refine lv_iload hx hb dX8_strikesBuoy_406 (lv_at hl 2 rfl) ?_
  refine lv_if_ne (tgt := 418) hx hb dX8_strikesBuoy_408 (by decide) (fun c81 => ?_) (fun c81 => ?_)
  · replace h := ite_f c81 h
    exact lX8_strikesBuoy_418 C hE hA hret 3 l7 l8 l9 l10 m_thr m_rea m_det m_ref m_net (upd v_ms x1.toNatClampNeg x2) ⟨hP, hD⟩ hS _ (lv_sub hl [0, 1, 2, 3, 4] rfl) h
  · replace h := ite_t c81 h
    refine lv_aload_n hx hb dX8_strikesBuoy_411 rfl (lv_at hl 0 rfl) ?_
    refine getF (q0 := 0) (k0 := 13) (v := .int m_net) C hE hP inA8 rfl rfl (by decide) qFX8_155 rfl rfl dX8_strikesBuoy_412 ?_
    refine lv_if_eq (tgt := 425) hx hb dX8_strikesBuoy_415 (by decide) (fun c82 => ?_) (fun c82 => ?_)
    · replace h := ite_t c82 h
      refine lv_iload hx hb dX8_strikesBuoy_425 (lv_at hl 4 rfl) ?_
      refine lv_if_eq (tgt := 434) hx hb dX8_strikesBuoy_427 (by decide) (fun c83 => ?_) (fun c83 => ?_)
      · rw [if_pos c83] at h
        refine lv_iload hx hb dX8_strikesBuoy_434 (lv_at hl 1 rfl) ?_
        exact lX8_strikesBuoy_436 C hE hA hret 3 l7 l8 l9 l10 m_thr m_rea m_det m_ref m_net (upd v_ms x1.toNatClampNeg x2) ⟨hP, hD⟩ hS _ (lv_sub hl [0, 2, 3, 4] rfl) h
      · rw [if_neg c83] at h
        refine lv_iconst (v := (-1)) hx hb dX8_strikesBuoy_430 (by decide) ?_
        refine lv_goto (tgt := 436) hx hb dX8_strikesBuoy_431 (by decide) ?_
        exact lX8_strikesBuoy_436 C hE hA hret 3 (-1) l8 l9 l10 m_thr m_rea m_det m_ref m_net (upd v_ms x1.toNatClampNeg x2) ⟨hP, hD⟩ hS _ (lv_sub hl [0, 2, 3, 4] rfl) h
    · replace h := ite_f c82 h
      exact lX8_strikesBuoy_418 C hE hA hret 3 l7 l8 l9 l10 m_thr m_rea m_det m_ref m_net (upd v_ms x1.toNatClampNeg x2) ⟨hP, hD⟩ hS _ (lv_sub hl [0, 1, 2, 3, 4] rfl) h
set_option maxHeartbeats 4000000 in
set_option maxRecDepth 100000 in
theorem lX8_strikesBuoy_383 {p : Program} {l : Launch} {e : Env} {s : State} {m : MethodId} {args : Array Value} {below : List Frame} {meth : Method} {c : Code} {Q : State → Prop} {D : va_G} {T : Nat → ClassId} {a_m a_ms a_mw a_mv a_mp a_mf a_ml a_mt a_mc : Nat} {m_chg : Int32} {m_err : Int32} {m_ans : Int32} {m_sav : Int32} {m_lin : Int32} {m_tap : Int32} {m_her : Int32} {m_cmd : Int32} {A : Nat → Prop} {r : Int32 × Int32 × Int32 × Int32 × Int32 × Int32 × (Nat → Int32)} (C : CallFix p m c cX8_strikesBuoy 11 s args aw RX8) (hE : eK D T s) (hA : ∀ q : Nat, s.heap.size ≤ q → A q) (hret : WrRet p l e ({ frames := 5, cells := 0, slots := 0, locals := 111 } : Room) s m args below meth c Q cX8_strikesBuoy .int D A [(a_m, .inr (8, [.ref a_ms, .ref a_mw, .ref a_mv, .ref a_mp, .ref a_mf, .int m_chg, .int r.2.1, .int r.2.2.1, .int r.2.2.2.1, .int r.2.2.2.2.1, .int m_err, .int m_ans, .int m_sav, .int r.2.2.2.2.2.1, .ref a_ml, .int m_lin, .ref a_mt, .ref a_mc, .int m_tap, .int m_her, .int m_cmd])), (a_ms, .inl (T 0, 103, .inl r.2.2.2.2.2.2))] r.1) (l7 : Int32) (l8 : Int32) (l9 : Int32) (l10 : Int32) (m_thr : Int32) (m_rea : Int32) (m_det : Int32) (m_ref : Int32) (m_net : Int32) (v_ms : Nat → Int32) {H : Heap} {locs : List Loc} (hPD : va_PD D A [(a_m, .inr (8, [.ref a_ms, .ref a_mw, .ref a_mv, .ref a_mp, .ref a_mf, .int m_chg, .int m_thr, .int m_rea, .int m_det, .int m_ref, .int m_err, .int m_ans, .int m_sav, .int m_net, .ref a_ml, .int m_lin, .ref a_mt, .ref a_mc, .int m_tap, .int m_her, .int m_cmd])), (a_ms, .inl (T 0, 103, .inl v_ms))] H) (hS : va_S A s.heap H locs) (ls : Array Slot) (hl : lv_has ls 11 [(0, .ref a_m), (7, .int l7), (8, .int l8), (9, .int l9), (10, .int l10)]) (h : fX8_strikesBuoy_383 l7 l8 l9 l10 m_thr m_rea m_det m_ref m_net v_ms = some r) : W p l e ({ frames := 5, cells := 0, slots := 0, locals := 111 } : Room) s m args below meth c H locs 0 0 Q (F0 m 383 ls []) := by
  have hx := C.1
  have hb := C.2.1
  obtain ⟨hP, hD⟩ := hPD
  unfold fX8_strikesBuoy_383 at h
  refine lv_aload_n hx hb dX8_strikesBuoy_383 rfl (lv_at hl 0 rfl) ?_
  refine getF (q0 := 0) (k0 := 0) (v := .ref a_ms) C hE hP inA8 rfl rfl (by decide) qFX8_9 rfl rfl dX8_strikesBuoy_384 ?_
  refine lv_iconst (v := 2) hx hb dX8_strikesBuoy_387 (by decide) ?_
  refine lv_iload hx hb dX8_strikesBuoy_388 (lv_at hl 4 rfl) ?_
  refine lv_if_eq (tgt := 398) hx hb dX8_strikesBuoy_390 (by decide) (fun c79 => ?_) (fun c79 => ?_)
  · rw [if_pos c79] at h
    refine lv_iload hx hb dX8_strikesBuoy_398 (lv_at hl 3 rfl) ?_
    exact lX8_strikesBuoy_400 C hE hA hret 2 l9 l7 l8 l9 l10 m_thr m_rea m_det m_ref m_net v_ms ⟨hP, hD⟩ hS _ (lv_sub hl [0, 1, 2, 3, 4] rfl) h
  · rw [if_neg c79] at h
    refine lv_bipush (v := 22) hx hb dX8_strikesBuoy_393 (by decide) ?_
    refine lv_goto (tgt := 400) hx hb dX8_strikesBuoy_395 (by decide) ?_
    exact lX8_strikesBuoy_400 C hE hA hret 2 22 l7 l8 l9 l10 m_thr m_rea m_det m_ref m_net v_ms ⟨hP, hD⟩ hS _ (lv_sub hl [0, 1, 2, 3, 4] rfl) h
set_option maxHeartbeats 4000000 in
set_option maxRecDepth 100000 in
theorem lX8_strikesBuoy_355 {p : Program} {l : Launch} {e : Env} {s : State} {m : MethodId} {args : Array Value} {below : List Frame} {meth : Method} {c : Code} {Q : State → Prop} {D : va_G} {T : Nat → ClassId} {a_m a_ms a_mw a_mv a_mp a_mf a_ml a_mt a_mc : Nat} {m_chg : Int32} {m_err : Int32} {m_ans : Int32} {m_sav : Int32} {m_lin : Int32} {m_tap : Int32} {m_her : Int32} {m_cmd : Int32} {A : Nat → Prop} {r : Int32 × Int32 × Int32 × Int32 × Int32 × Int32 × (Nat → Int32)} (C : CallFix p m c cX8_strikesBuoy 11 s args aw RX8) (hE : eK D T s) (hA : ∀ q : Nat, s.heap.size ≤ q → A q) (hret : WrRet p l e ({ frames := 5, cells := 0, slots := 0, locals := 111 } : Room) s m args below meth c Q cX8_strikesBuoy .int D A [(a_m, .inr (8, [.ref a_ms, .ref a_mw, .ref a_mv, .ref a_mp, .ref a_mf, .int m_chg, .int r.2.1, .int r.2.2.1, .int r.2.2.2.1, .int r.2.2.2.2.1, .int m_err, .int m_ans, .int m_sav, .int r.2.2.2.2.2.1, .ref a_ml, .int m_lin, .ref a_mt, .ref a_mc, .int m_tap, .int m_her, .int m_cmd])), (a_ms, .inl (T 0, 103, .inl r.2.2.2.2.2.2))] r.1) (x1 : Int32) (x2 : Int32) (x3 : Int32) (l7 : Int32) (l8 : Int32) (l9 : Int32) (l10 : Int32) (m_thr : Int32) (m_rea : Int32) (m_det : Int32) (m_ref : Int32) (m_net : Int32) (v_ms : Nat → Int32) {H : Heap} {locs : List Loc} (hPD : va_PD D A [(a_m, .inr (8, [.ref a_ms, .ref a_mw, .ref a_mv, .ref a_mp, .ref a_mf, .int m_chg, .int m_thr, .int m_rea, .int m_det, .int m_ref, .int m_err, .int m_ans, .int m_sav, .int m_net, .ref a_ml, .int m_lin, .ref a_mt, .ref a_mc, .int m_tap, .int m_her, .int m_cmd])), (a_ms, .inl (T 0, 103, .inl v_ms))] H) (hS : va_S A s.heap H locs) (ls : Array Slot) (hl : lv_has ls 11 [(0, .ref a_m), (7, .int l7), (8, .int l8), (9, .int l9), (10, .int l10)]) (h : fX8_strikesBuoy_355 x1 x2 x3 l7 l8 l9 l10 m_thr m_rea m_det m_ref m_net v_ms = some r) : W p l e ({ frames := 5, cells := 0, slots := 0, locals := 111 } : Room) s m args below meth c H locs 0 0 Q (F0 m 355 ls [.int x3, .int x2, .int x1, .ref a_ms]) := by
  have hx := C.1
  have hb := C.2.1
  obtain ⟨hP, hD⟩ := hPD
  unfold fX8_strikesBuoy_355 at h
  refine lv_iadd hx hb dX8_strikesBuoy_355 ?_
  replace h := gd h; obtain ⟨g74, h⟩ := h
  refine astI (q0 := 1) (ws1 := [(a_m, .inr (8, [.ref a_ms, .ref a_mw, .ref a_mv, .ref a_mp, .ref a_mf, .int m_chg, .int m_thr, .int m_rea, .int m_det, .int m_ref, .int m_err, .int m_ans, .int m_sav, .int m_net, .ref a_ml, .int m_lin, .ref a_mt, .ref a_mc, .int m_tap, .int m_her, .int m_cmd])), (a_ms, .inl (T 0, 103, .inl (upd v_ms x1.toNatClampNeg (x2 + x3))))]) C hE hP hD hS rfl g74 rfl dX8_strikesBuoy_356 ?_; clear hP hD hS; intro H locs hP hD hS
  refine lv_iload hx hb dX8_strikesBuoy_357 (lv_at hl 4 rfl) ?_
  refine lv_if_eq (tgt := 383) hx hb dX8_strikesBuoy_359 (by decide) (fun c75 => ?_) (fun c75 => ?_)
  · replace h := ite_t c75 h
    exact lX8_strikesBuoy_383 C hE hA hret l7 l8 l9 l10 m_thr m_rea m_det m_ref m_net (upd v_ms x1.toNatClampNeg (x2 + x3)) ⟨hP, hD⟩ hS _ (lv_sub hl [0, 1, 2, 3, 4] rfl) h
  · replace h := ite_f c75 h
    refine lv_iload hx hb dX8_strikesBuoy_362 (lv_at hl 2 rfl) ?_
    refine lv_if_ne (tgt := 383) hx hb dX8_strikesBuoy_364 (by decide) (fun c76 => ?_) (fun c76 => ?_)
    · replace h := ite_f c76 h
      exact lX8_strikesBuoy_383 C hE hA hret l7 l8 l9 l10 m_thr m_rea m_det m_ref m_net (upd v_ms x1.toNatClampNeg (x2 + x3)) ⟨hP, hD⟩ hS _ (lv_sub hl [0, 1, 2, 3, 4] rfl) h
    · replace h := ite_t c76 h
      refine lv_aload_n hx hb dX8_strikesBuoy_367 rfl (lv_at hl 0 rfl) ?_
      refine getF (q0 := 0) (k0 := 0) (v := .ref a_ms) C hE hP inA8 rfl rfl (by decide) qFX8_9 rfl rfl dX8_strikesBuoy_368 ?_
      refine lv_iconst (v := 4) hx hb dX8_strikesBuoy_371 (by decide) ?_
      refine lv_iload hx hb dX8_strikesBuoy_372 (lv_at hl 3 rfl) ?_
      refine lv_iadd hx hb dX8_strikesBuoy_374 ?_
      refine lv_bipush (v := 45) hx hb dX8_strikesBuoy_375 (by decide) ?_
      refine lv_isub hx hb dX8_strikesBuoy_377 ?_
      refine lv_dup2_11 hx hb dX8_strikesBuoy_378 rfl rfl ?_
      replace h := gd h; obtain ⟨g77, h⟩ := h
      refine aldI (q0 := 1) C hE hP rfl g77 dX8_strikesBuoy_379 ?_
      refine lv_iconst (v := 1) hx hb dX8_strikesBuoy_380 (by decide) ?_
      refine lv_iadd hx hb dX8_strikesBuoy_381 ?_
      replace h := gd h; obtain ⟨g78, h⟩ := h
      refine astI (q0 := 1) (ws1 := [(a_m, .inr (8, [.ref a_ms, .ref a_mw, .ref a_mv, .ref a_mp, .ref a_mf, .int m_chg, .int m_thr, .int m_rea, .int m_det, .int m_ref, .int m_err, .int m_ans, .int m_sav, .int m_net, .ref a_ml, .int m_lin, .ref a_mt, .ref a_mc, .int m_tap, .int m_her, .int m_cmd])), (a_ms, .inl (T 0, 103, .inl (upd (upd v_ms x1.toNatClampNeg (x2 + x3)) ((4 + l9) - 45).toNatClampNeg (((upd v_ms x1.toNatClampNeg (x2 + x3)) ((4 + l9) - 45).toNatClampNeg) + 1))))]) C hE hP hD hS rfl g78 rfl dX8_strikesBuoy_382 ?_; clear hP hD hS; intro H locs hP hD hS
      exact lX8_strikesBuoy_383 C hE hA hret l7 l8 l9 l10 m_thr m_rea m_det m_ref m_net (upd (upd v_ms x1.toNatClampNeg (x2 + x3)) ((4 + l9) - 45).toNatClampNeg (((upd v_ms x1.toNatClampNeg (x2 + x3)) ((4 + l9) - 45).toNatClampNeg) + 1)) ⟨hP, hD⟩ hS _ (lv_sub hl [0, 1, 2, 3, 4] rfl) h
set_option maxHeartbeats 4000000 in
set_option maxRecDepth 100000 in
theorem lX8_strikesBuoy_333 {p : Program} {l : Launch} {e : Env} {s : State} {m : MethodId} {args : Array Value} {below : List Frame} {meth : Method} {c : Code} {Q : State → Prop} {D : va_G} {T : Nat → ClassId} {a_m a_ms a_mw a_mv a_mp a_mf a_ml a_mt a_mc : Nat} {m_chg : Int32} {m_err : Int32} {m_ans : Int32} {m_sav : Int32} {m_lin : Int32} {m_tap : Int32} {m_her : Int32} {m_cmd : Int32} {A : Nat → Prop} {r : Int32 × Int32 × Int32 × Int32 × Int32 × Int32 × (Nat → Int32)} (C : CallFix p m c cX8_strikesBuoy 11 s args aw RX8) (hE : eK D T s) (hA : ∀ q : Nat, s.heap.size ≤ q → A q) (hret : WrRet p l e ({ frames := 5, cells := 0, slots := 0, locals := 111 } : Room) s m args below meth c Q cX8_strikesBuoy .int D A [(a_m, .inr (8, [.ref a_ms, .ref a_mw, .ref a_mv, .ref a_mp, .ref a_mf, .int m_chg, .int r.2.1, .int r.2.2.1, .int r.2.2.2.1, .int r.2.2.2.2.1, .int m_err, .int m_ans, .int m_sav, .int r.2.2.2.2.2.1, .ref a_ml, .int m_lin, .ref a_mt, .ref a_mc, .int m_tap, .int m_her, .int m_cmd])), (a_ms, .inl (T 0, 103, .inl r.2.2.2.2.2.2))] r.1) (x1 : Int32) (x2 : Int32) (x3 : Int32) (l7 : Int32) (l8 : Int32) (l9 : Int32) (l10 : Int32) (m_thr : Int32) (m_rea : Int32) (m_det : Int32) (m_ref : Int32) (m_net : Int32) (v_ms : Nat → Int32) {H : Heap} {locs : List Loc} (hPD : va_PD D A [(a_m, .inr (8, [.ref a_ms, .ref a_mw, .ref a_mv, .ref a_mp, .ref a_mf, .int m_chg, .int m_thr, .int m_rea, .int m_det, .int m_ref, .int m_err, .int m_ans, .int m_sav, .int m_net, .ref a_ml, .int m_lin, .ref a_mt, .ref a_mc, .int m_tap, .int m_her, .int m_cmd])), (a_ms, .inl (T 0, 103, .inl v_ms))] H) (hS : va_S A s.heap H locs) (ls : Array Slot) (hl : lv_has ls 11 [(0, .ref a_m), (7, .int l7), (8, .int l8), (9, .int l9), (10, .int l10)]) (h : fX8_strikesBuoy_333 x1 x2 x3 l7 l8 l9 l10 m_thr m_rea m_det m_ref m_net v_ms = some r) : W p l e ({ frames := 5, cells := 0, slots := 0, locals := 111 } : Room) s m args below meth c H locs 0 0 Q (F0 m 333 ls [.int x3, .int x2, .int x1, .ref a_ms]) := by
  have hx := C.1
  have hb := C.2.1
  obtain ⟨hP, hD⟩ := hPD
  unfold fX8_strikesBuoy_333 at h
  refine lv_iadd hx hb dX8_strikesBuoy_333 ?_
  replace h := gd h; obtain ⟨g71, h⟩ := h
  refine astI (q0 := 1) (ws1 := [(a_m, .inr (8, [.ref a_ms, .ref a_mw, .ref a_mv, .ref a_mp, .ref a_mf, .int m_chg, .int m_thr, .int m_rea, .int m_det, .int m_ref, .int m_err, .int m_ans, .int m_sav, .int m_net, .ref a_ml, .int m_lin, .ref a_mt, .ref a_mc, .int m_tap, .int m_her, .int m_cmd])), (a_ms, .inl (T 0, 103, .inl (upd v_ms x1.toNatClampNeg (x2 + x3))))]) C hE hP hD hS rfl g71 rfl dX8_strikesBuoy_334 ?_; clear hP hD hS; intro H locs hP hD hS
  refine lv_aload_n hx hb dX8_strikesBuoy_335 rfl (lv_at hl 0 rfl) ?_
  refine getF (q0 := 0) (k0 := 0) (v := .ref a_ms) C hE hP inA8 rfl rfl (by decide) qFX8_9 rfl rfl dX8_strikesBuoy_336 ?_
  refine lv_bipush (v := 8) hx hb dX8_strikesBuoy_339 (by decide) ?_
  refine lv_dup2_11 hx hb dX8_strikesBuoy_341 rfl rfl ?_
  replace h := gd h; obtain ⟨g72, h⟩ := h
  refine aldI (q0 := 1) C hE hP rfl g72 dX8_strikesBuoy_342 ?_
  refine lv_aload_n hx hb dX8_strikesBuoy_343 rfl (lv_at hl 0 rfl) ?_
  refine getF (q0 := 0) (k0 := 13) (v := .int m_net) C hE hP inA8 rfl rfl (by decide) qFX8_155 rfl rfl dX8_strikesBuoy_344 ?_
  refine lv_if_eq (tgt := 354) hx hb dX8_strikesBuoy_347 (by decide) (fun c73 => ?_) (fun c73 => ?_)
  · rw [if_pos c73] at h
    refine lv_iconst (v := 0) hx hb dX8_strikesBuoy_354 (by decide) ?_
    exact lX8_strikesBuoy_355 C hE hA hret 8 ((upd v_ms x1.toNatClampNeg (x2 + x3)) (8 : Int32).toNatClampNeg) 0 l7 l8 l9 l10 m_thr m_rea m_det m_ref m_net (upd v_ms x1.toNatClampNeg (x2 + x3)) ⟨hP, hD⟩ hS _ (lv_sub hl [0, 1, 2, 3, 4] rfl) h
  · rw [if_neg c73] at h
    refine lv_iconst (v := 1) hx hb dX8_strikesBuoy_350 (by decide) ?_
    refine lv_goto (tgt := 355) hx hb dX8_strikesBuoy_351 (by decide) ?_
    exact lX8_strikesBuoy_355 C hE hA hret 8 ((upd v_ms x1.toNatClampNeg (x2 + x3)) (8 : Int32).toNatClampNeg) 1 l7 l8 l9 l10 m_thr m_rea m_det m_ref m_net (upd v_ms x1.toNatClampNeg (x2 + x3)) ⟨hP, hD⟩ hS _ (lv_sub hl [0, 1, 2, 3, 4] rfl) h
set_option maxHeartbeats 4000000 in
set_option maxRecDepth 100000 in
theorem lX8_strikesBuoy_300 {p : Program} {l : Launch} {e : Env} {s : State} {m : MethodId} {args : Array Value} {below : List Frame} {meth : Method} {c : Code} {Q : State → Prop} {D : va_G} {T : Nat → ClassId} {a_m a_ms a_mw a_mv a_mp a_mf a_ml a_mt a_mc : Nat} {m_chg : Int32} {m_err : Int32} {m_ans : Int32} {m_sav : Int32} {m_lin : Int32} {m_tap : Int32} {m_her : Int32} {m_cmd : Int32} {A : Nat → Prop} {r : Int32 × Int32 × Int32 × Int32 × Int32 × Int32 × (Nat → Int32)} (C : CallFix p m c cX8_strikesBuoy 11 s args aw RX8) (hE : eK D T s) (hA : ∀ q : Nat, s.heap.size ≤ q → A q) (hret : WrRet p l e ({ frames := 5, cells := 0, slots := 0, locals := 111 } : Room) s m args below meth c Q cX8_strikesBuoy .int D A [(a_m, .inr (8, [.ref a_ms, .ref a_mw, .ref a_mv, .ref a_mp, .ref a_mf, .int m_chg, .int r.2.1, .int r.2.2.1, .int r.2.2.2.1, .int r.2.2.2.2.1, .int m_err, .int m_ans, .int m_sav, .int r.2.2.2.2.2.1, .ref a_ml, .int m_lin, .ref a_mt, .ref a_mc, .int m_tap, .int m_her, .int m_cmd])), (a_ms, .inl (T 0, 103, .inl r.2.2.2.2.2.2))] r.1) (x1 : Int32) (x2 : Int32) (x3 : Int32) (x4 : Int32) (l7 : Int32) (l8 : Int32) (l9 : Int32) (l10 : Int32) (m_thr : Int32) (m_rea : Int32) (m_det : Int32) (m_ref : Int32) (m_net : Int32) (v_ms : Nat → Int32) {H : Heap} {locs : List Loc} (hPD : va_PD D A [(a_m, .inr (8, [.ref a_ms, .ref a_mw, .ref a_mv, .ref a_mp, .ref a_mf, .int m_chg, .int m_thr, .int m_rea, .int m_det, .int m_ref, .int m_err, .int m_ans, .int m_sav, .int m_net, .ref a_ml, .int m_lin, .ref a_mt, .ref a_mc, .int m_tap, .int m_her, .int m_cmd])), (a_ms, .inl (T 0, 103, .inl v_ms))] H) (hS : va_S A s.heap H locs) (ls : Array Slot) (hl : lv_has ls 11 [(0, .ref a_m), (7, .int l7), (8, .int l8), (9, .int l9), (10, .int l10)]) (h : fX8_strikesBuoy_300 x1 x2 x3 x4 l7 l8 l9 l10 m_thr m_rea m_det m_ref m_net v_ms = some r) : W p l e ({ frames := 5, cells := 0, slots := 0, locals := 111 } : Room) s m args below meth c H locs 0 0 Q (F0 m 300 ls [.int x4, .int x3, .int x2, .int x1, .ref a_m]) := by
  have hx := C.1
  have hb := C.2.1
  obtain ⟨hP, hD⟩ := hPD
  unfold fX8_strikesBuoy_300 at h
  refine lv_iadd hx hb dX8_strikesBuoy_300 ?_
  replace h := bnd h; obtain ⟨q65, e66, h⟩ := h
  refine wrVv (ws1 := [(a_m, .inr (8, [.ref a_ms, .ref a_mw, .ref a_mv, .ref a_mp, .ref a_mf, .int m_chg, .int m_thr, .int m_rea, .int m_det, .int m_ref, .int m_err, .int m_ans, .int m_sav, .int m_net, .ref a_ml, .int m_lin, .ref a_mt, .ref a_mc, .int m_tap, .int m_her, .int m_cmd])), (a_ms, .inl (T 0, 103, .inl q65))]) C hE hP hD hS hA (kX8_sets l D T a_m a_ms a_mw a_mv a_mp a_mf a_ml a_mt a_mc m_chg m_thr m_rea m_det m_ref m_err m_ans m_sav m_net m_lin m_tap m_her m_cmd v_ms x1 x2 (x3 + x4) _ q65 e66) mX8_sets qLX8_103 [0, 1] [] 0 rfl rfl rfl rfl rfl rfl rfl rfl rfl ⟨rfl, rfl⟩ ⟨Nat.le_of_ble_eq_true rfl, Nat.le_of_ble_eq_true rfl⟩ rfl hl.1 rfl (Nat.le_of_ble_eq_true rfl) dX8_strikesBuoy_301 ⟨Nat.le_of_ble_eq_true rfl, Nat.le_of_ble_eq_true rfl⟩ ?_; clear hP hD hS; intro H locs hP hD hS
  refine lv_aload_n hx hb dX8_strikesBuoy_304 rfl (lv_at hl 0 rfl) ?_
  refine getF (q0 := 0) (k0 := 0) (v := .ref a_ms) C hE hP inA8 rfl rfl (by decide) qFX8_9 rfl rfl dX8_strikesBuoy_305 ?_
  refine lv_bipush (v := 6) hx hb dX8_strikesBuoy_308 (by decide) ?_
  refine lv_dup2_11 hx hb dX8_strikesBuoy_310 rfl rfl ?_
  replace h := gd h; obtain ⟨g67, h⟩ := h
  refine aldI (q0 := 1) C hE hP rfl g67 dX8_strikesBuoy_311 ?_
  refine lv_iconst (v := 1) hx hb dX8_strikesBuoy_312 (by decide) ?_
  refine lv_iadd hx hb dX8_strikesBuoy_313 ?_
  replace h := gd h; obtain ⟨g68, h⟩ := h
  refine astI (q0 := 1) (ws1 := [(a_m, .inr (8, [.ref a_ms, .ref a_mw, .ref a_mv, .ref a_mp, .ref a_mf, .int m_chg, .int m_thr, .int m_rea, .int m_det, .int m_ref, .int m_err, .int m_ans, .int m_sav, .int m_net, .ref a_ml, .int m_lin, .ref a_mt, .ref a_mc, .int m_tap, .int m_her, .int m_cmd])), (a_ms, .inl (T 0, 103, .inl (upd q65 (6 : Int32).toNatClampNeg ((q65 (6 : Int32).toNatClampNeg) + 1))))]) C hE hP hD hS rfl g68 rfl dX8_strikesBuoy_314 ?_; clear hP hD hS; intro H locs hP hD hS
  refine lv_aload_n hx hb dX8_strikesBuoy_315 rfl (lv_at hl 0 rfl) ?_
  refine getF (q0 := 0) (k0 := 0) (v := .ref a_ms) C hE hP inA8 rfl rfl (by decide) qFX8_9 rfl rfl dX8_strikesBuoy_316 ?_
  refine lv_bipush (v := 7) hx hb dX8_strikesBuoy_319 (by decide) ?_
  refine lv_dup2_11 hx hb dX8_strikesBuoy_321 rfl rfl ?_
  replace h := gd h; obtain ⟨g69, h⟩ := h
  refine aldI (q0 := 1) C hE hP rfl g69 dX8_strikesBuoy_322 ?_
  refine lv_iload hx hb dX8_strikesBuoy_323 (lv_at hl 2 rfl) ?_
  refine lv_if_eq (tgt := 332) hx hb dX8_strikesBuoy_325 (by decide) (fun c70 => ?_) (fun c70 => ?_)
  · rw [if_pos c70] at h
    refine lv_iconst (v := 0) hx hb dX8_strikesBuoy_332 (by decide) ?_
    exact lX8_strikesBuoy_333 C hE hA hret 7 ((upd q65 (6 : Int32).toNatClampNeg ((q65 (6 : Int32).toNatClampNeg) + 1)) (7 : Int32).toNatClampNeg) 0 l7 l8 l9 l10 m_thr m_rea m_det m_ref m_net (upd q65 (6 : Int32).toNatClampNeg ((q65 (6 : Int32).toNatClampNeg) + 1)) ⟨hP, hD⟩ hS _ (lv_sub hl [0, 1, 2, 3, 4] rfl) h
  · rw [if_neg c70] at h
    refine lv_iconst (v := 1) hx hb dX8_strikesBuoy_328 (by decide) ?_
    refine lv_goto (tgt := 333) hx hb dX8_strikesBuoy_329 (by decide) ?_
    exact lX8_strikesBuoy_333 C hE hA hret 7 ((upd q65 (6 : Int32).toNatClampNeg ((q65 (6 : Int32).toNatClampNeg) + 1)) (7 : Int32).toNatClampNeg) 1 l7 l8 l9 l10 m_thr m_rea m_det m_ref m_net (upd q65 (6 : Int32).toNatClampNeg ((q65 (6 : Int32).toNatClampNeg) + 1)) ⟨hP, hD⟩ hS _ (lv_sub hl [0, 1, 2, 3, 4] rfl) h
set_option maxHeartbeats 4000000 in
set_option maxRecDepth 100000 in
theorem lX8_strikesBuoy_265 {p : Program} {l : Launch} {e : Env} {s : State} {m : MethodId} {args : Array Value} {below : List Frame} {meth : Method} {c : Code} {Q : State → Prop} {D : va_G} {T : Nat → ClassId} {a_m a_ms a_mw a_mv a_mp a_mf a_ml a_mt a_mc : Nat} {m_chg : Int32} {m_err : Int32} {m_ans : Int32} {m_sav : Int32} {m_lin : Int32} {m_tap : Int32} {m_her : Int32} {m_cmd : Int32} {A : Nat → Prop} {r : Int32 × Int32 × Int32 × Int32 × Int32 × Int32 × (Nat → Int32)} (C : CallFix p m c cX8_strikesBuoy 11 s args aw RX8) (hE : eK D T s) (hA : ∀ q : Nat, s.heap.size ≤ q → A q) (hret : WrRet p l e ({ frames := 5, cells := 0, slots := 0, locals := 111 } : Room) s m args below meth c Q cX8_strikesBuoy .int D A [(a_m, .inr (8, [.ref a_ms, .ref a_mw, .ref a_mv, .ref a_mp, .ref a_mf, .int m_chg, .int r.2.1, .int r.2.2.1, .int r.2.2.2.1, .int r.2.2.2.2.1, .int m_err, .int m_ans, .int m_sav, .int r.2.2.2.2.2.1, .ref a_ml, .int m_lin, .ref a_mt, .ref a_mc, .int m_tap, .int m_her, .int m_cmd])), (a_ms, .inl (T 0, 103, .inl r.2.2.2.2.2.2))] r.1) (x1 : Int32) (x2 : Int32) (x3 : Int32) (x4 : Int32) (l1 : Int32) (l7 : Int32) (l8 : Int32) (l9 : Int32) (l10 : Int32) (m_thr : Int32) (m_rea : Int32) (m_det : Int32) (m_ref : Int32) (m_net : Int32) (v_ms : Nat → Int32) {H : Heap} {locs : List Loc} (hPD : va_PD D A [(a_m, .inr (8, [.ref a_ms, .ref a_mw, .ref a_mv, .ref a_mp, .ref a_mf, .int m_chg, .int m_thr, .int m_rea, .int m_det, .int m_ref, .int m_err, .int m_ans, .int m_sav, .int m_net, .ref a_ml, .int m_lin, .ref a_mt, .ref a_mc, .int m_tap, .int m_her, .int m_cmd])), (a_ms, .inl (T 0, 103, .inl v_ms))] H) (hS : va_S A s.heap H locs) (ls : Array Slot) (hl : lv_has ls 11 [(0, .ref a_m), (1, .int l1), (7, .int l7), (8, .int l8), (9, .int l9), (10, .int l10)]) (h : fX8_strikesBuoy_265 x1 x2 x3 x4 l1 l7 l8 l9 l10 m_thr m_rea m_det m_ref m_net v_ms = some r) : W p l e ({ frames := 5, cells := 0, slots := 0, locals := 111 } : Room) s m args below meth c H locs 0 0 Q (F0 m 265 ls [.int x4, .int x3, .int x2, .int x1, .ref a_m]) := by
  have hx := C.1
  have hb := C.2.1
  obtain ⟨hP, hD⟩ := hPD
  unfold fX8_strikesBuoy_265 at h
  refine lv_iadd hx hb dX8_strikesBuoy_265 ?_
  replace h := bnd h; obtain ⟨q59, e60, h⟩ := h
  refine wrVv (ws1 := [(a_m, .inr (8, [.ref a_ms, .ref a_mw, .ref a_mv, .ref a_mp, .ref a_mf, .int m_chg, .int m_thr, .int m_rea, .int m_det, .int m_ref, .int m_err, .int m_ans, .int m_sav, .int m_net, .ref a_ml, .int m_lin, .ref a_mt, .ref a_mc, .int m_tap, .int m_her, .int m_cmd])), (a_ms, .inl (T 0, 103, .inl q59))]) C hE hP hD hS hA (kX8_sets l D T a_m a_ms a_mw a_mv a_mp a_mf a_ml a_mt a_mc m_chg m_thr m_rea m_det m_ref m_err m_ans m_sav m_net m_lin m_tap m_her m_cmd v_ms x1 x2 (x3 + x4) _ q59 e60) mX8_sets qLX8_103 [0, 1] [] 0 rfl rfl rfl rfl rfl rfl rfl rfl rfl ⟨rfl, rfl⟩ ⟨Nat.le_of_ble_eq_true rfl, Nat.le_of_ble_eq_true rfl⟩ rfl hl.1 rfl (Nat.le_of_ble_eq_true rfl) dX8_strikesBuoy_266 ⟨Nat.le_of_ble_eq_true rfl, Nat.le_of_ble_eq_true rfl⟩ ?_; clear hP hD hS; intro H locs hP hD hS
  refine lv_aload_n hx hb dX8_strikesBuoy_269 rfl (lv_at hl 0 rfl) ?_
  refine lv_iload_n hx hb dX8_strikesBuoy_270 rfl (lv_at hl 1 rfl) ?_
  refine lv_bipush (v := 6) hx hb dX8_strikesBuoy_271 (by decide) ?_
  refine lv_aload_n hx hb dX8_strikesBuoy_273 rfl (lv_at hl 0 rfl) ?_
  refine lv_iload_n hx hb dX8_strikesBuoy_274 rfl (lv_at hl 1 rfl) ?_
  refine lv_bipush (v := 6) hx hb dX8_strikesBuoy_275 (by decide) ?_
  replace h := bnd h; obtain ⟨q61, e62, h⟩ := h
  refine rdV C hE hP (kX8_of l D T a_m a_ms a_mw a_mv a_mp a_mf a_ml a_mt a_mc m_chg m_thr m_rea m_det m_ref m_err m_ans m_sav m_net m_lin m_tap m_her m_cmd q59 l1 6 q61 e62) mX8_of qLX8_90 [0, 1] 0 rfl rfl rfl rfl ⟨rfl, rfl⟩ ⟨Nat.le_of_ble_eq_true rfl, Nat.le_of_ble_eq_true rfl⟩ rfl hl.1 rfl (Nat.le_of_ble_eq_true rfl) dX8_strikesBuoy_277 ⟨Nat.le_of_ble_eq_true rfl, Nat.le_of_ble_eq_true rfl⟩ ?_
  refine lv_iload hx hb dX8_strikesBuoy_280 (lv_at hl 3 rfl) ?_
  refine lv_if_ne (tgt := 299) hx hb dX8_strikesBuoy_282 (by decide) (fun c63 => ?_) (fun c63 => ?_)
  · rw [if_neg c63] at h
    refine lv_iconst (v := 0) hx hb dX8_strikesBuoy_299 (by decide) ?_
    exact lX8_strikesBuoy_300 C hE hA hret l1 6 q61 0 l7 l8 l9 l10 m_thr m_rea m_det m_ref m_net q59 ⟨hP, hD⟩ hS _ (lv_sub hl [0, 2, 3, 4, 5] rfl) h
  · rw [if_pos c63] at h
    refine lv_iload hx hb dX8_strikesBuoy_285 (lv_at hl 4 rfl) ?_
    refine lv_bipush (v := 45) hx hb dX8_strikesBuoy_287 (by decide) ?_
    refine lv_iload hx hb dX8_strikesBuoy_289 (lv_at hl 2 rfl) ?_
    refine lv_iadd hx hb dX8_strikesBuoy_291 ?_
    refine lv_icmp_ne (tgt := 299) hx hb dX8_strikesBuoy_292 (by decide) (fun c64 => ?_) (fun c64 => ?_)
    · rw [if_neg c64] at h
      refine lv_iconst (v := 0) hx hb dX8_strikesBuoy_299 (by decide) ?_
      exact lX8_strikesBuoy_300 C hE hA hret l1 6 q61 0 l7 l8 l9 l10 m_thr m_rea m_det m_ref m_net q59 ⟨hP, hD⟩ hS _ (lv_sub hl [0, 2, 3, 4, 5] rfl) h
    · rw [if_pos c64] at h
      refine lv_iconst (v := 1) hx hb dX8_strikesBuoy_295 (by decide) ?_
      refine lv_goto (tgt := 300) hx hb dX8_strikesBuoy_296 (by decide) ?_
      exact lX8_strikesBuoy_300 C hE hA hret l1 6 q61 1 l7 l8 l9 l10 m_thr m_rea m_det m_ref m_net q59 ⟨hP, hD⟩ hS _ (lv_sub hl [0, 2, 3, 4, 5] rfl) h
set_option maxHeartbeats 4000000 in
set_option maxRecDepth 100000 in
theorem lX8_strikesBuoy_216 {p : Program} {l : Launch} {e : Env} {s : State} {m : MethodId} {args : Array Value} {below : List Frame} {meth : Method} {c : Code} {Q : State → Prop} {D : va_G} {T : Nat → ClassId} {a_m a_ms a_mw a_mv a_mp a_mf a_ml a_mt a_mc : Nat} {m_chg : Int32} {m_err : Int32} {m_ans : Int32} {m_sav : Int32} {m_lin : Int32} {m_tap : Int32} {m_her : Int32} {m_cmd : Int32} {A : Nat → Prop} {r : Int32 × Int32 × Int32 × Int32 × Int32 × Int32 × (Nat → Int32)} (C : CallFix p m c cX8_strikesBuoy 11 s args aw RX8) (hE : eK D T s) (hA : ∀ q : Nat, s.heap.size ≤ q → A q) (hret : WrRet p l e ({ frames := 5, cells := 0, slots := 0, locals := 111 } : Room) s m args below meth c Q cX8_strikesBuoy .int D A [(a_m, .inr (8, [.ref a_ms, .ref a_mw, .ref a_mv, .ref a_mp, .ref a_mf, .int m_chg, .int r.2.1, .int r.2.2.1, .int r.2.2.2.1, .int r.2.2.2.2.1, .int m_err, .int m_ans, .int m_sav, .int r.2.2.2.2.2.1, .ref a_ml, .int m_lin, .ref a_mt, .ref a_mc, .int m_tap, .int m_her, .int m_cmd])), (a_ms, .inl (T 0, 103, .inl r.2.2.2.2.2.2))] r.1) (x0 : Int32) (l1 : Int32) (l6 : Int32) (l7 : Int32) (l8 : Int32) (l9 : Int32) (m_thr : Int32) (m_rea : Int32) (m_det : Int32) (m_ref : Int32) (m_net : Int32) (v_ms : Nat → Int32) {H : Heap} {locs : List Loc} (hPD : va_PD D A [(a_m, .inr (8, [.ref a_ms, .ref a_mw, .ref a_mv, .ref a_mp, .ref a_mf, .int m_chg, .int m_thr, .int m_rea, .int m_det, .int m_ref, .int m_err, .int m_ans, .int m_sav, .int m_net, .ref a_ml, .int m_lin, .ref a_mt, .ref a_mc, .int m_tap, .int m_her, .int m_cmd])), (a_ms, .inl (T 0, 103, .inl v_ms))] H) (hS : va_S A s.heap H locs) (ls : Array Slot) (hl : lv_has ls 11 [(0, .ref a_m), (1, .int l1), (6, .int l6), (7, .int l7), (8, .int l8), (9, .int l9)]) (h : fX8_strikesBuoy_216 x0 l1 l6 l7 l8 l9 m_thr m_rea m_det m_ref m_net v_ms = some r) : W p l e ({ frames := 5, cells := 0, slots := 0, locals := 111 } : Room) s m args below meth c H locs 0 0 Q (F0 m 216 ls [.int x0]) := by
  have hx := C.1
  have hb := C.2.1
  obtain ⟨hP, hD⟩ := hPD
  unfold fX8_strikesBuoy_216 at h
  refine lv_istore (lv' := [(10, .int x0), (0, .ref a_m), (1, .int l1), (6, .int l6), (7, .int l7), (8, .int l8), (9, .int l9)]) hx hb dX8_strikesBuoy_216 hl (by decide) rfl (fun ls hl => ?_)
  refine lv_aload_n hx hb dX8_strikesBuoy_218 rfl (lv_at hl 1 rfl) ?_
  refine lv_iload_n hx hb dX8_strikesBuoy_219 rfl (lv_at hl 2 rfl) ?_
  refine lv_iconst (v := 3) hx hb dX8_strikesBuoy_220 (by decide) ?_
  refine lv_iload hx hb dX8_strikesBuoy_221 (lv_at hl 3 rfl) ?_
  refine lv_iconst (v := 1) hx hb dX8_strikesBuoy_223 (by decide) ?_
  refine lv_isub hx hb dX8_strikesBuoy_224 ?_
  replace h := bnd h; obtain ⟨q50, e51, h⟩ := h
  refine wrVv (ws1 := [(a_m, .inr (8, [.ref a_ms, .ref a_mw, .ref a_mv, .ref a_mp, .ref a_mf, .int m_chg, .int m_thr, .int m_rea, .int m_det, .int m_ref, .int m_err, .int m_ans, .int m_sav, .int m_net, .ref a_ml, .int m_lin, .ref a_mt, .ref a_mc, .int m_tap, .int m_her, .int m_cmd])), (a_ms, .inl (T 0, 103, .inl q50))]) C hE hP hD hS hA (kX8_sets l D T a_m a_ms a_mw a_mv a_mp a_mf a_ml a_mt a_mc m_chg m_thr m_rea m_det m_ref m_err m_ans m_sav m_net m_lin m_tap m_her m_cmd v_ms l1 3 (l6 - 1) _ q50 e51) mX8_sets qLX8_103 [0, 1] [] 0 rfl rfl rfl rfl rfl rfl rfl rfl rfl ⟨rfl, rfl⟩ ⟨Nat.le_of_ble_eq_true rfl, Nat.le_of_ble_eq_true rfl⟩ rfl hl.1 rfl (Nat.le_of_ble_eq_true rfl) dX8_strikesBuoy_225 ⟨Nat.le_of_ble_eq_true rfl, Nat.le_of_ble_eq_true rfl⟩ ?_; clear hP hD hS; intro H locs hP hD hS
  refine lv_aload_n hx hb dX8_strikesBuoy_228 rfl (lv_at hl 1 rfl) ?_
  refine lv_iload_n hx hb dX8_strikesBuoy_229 rfl (lv_at hl 2 rfl) ?_
  refine lv_bipush (v := 8) hx hb dX8_strikesBuoy_230 (by decide) ?_
  refine lv_aload_n hx hb dX8_strikesBuoy_232 rfl (lv_at hl 1 rfl) ?_
  refine lv_iload_n hx hb dX8_strikesBuoy_233 rfl (lv_at hl 2 rfl) ?_
  refine lv_bipush (v := 8) hx hb dX8_strikesBuoy_234 (by decide) ?_
  replace h := bnd h; obtain ⟨q52, e53, h⟩ := h
  refine rdV C hE hP (kX8_of l D T a_m a_ms a_mw a_mv a_mp a_mf a_ml a_mt a_mc m_chg m_thr m_rea m_det m_ref m_err m_ans m_sav m_net m_lin m_tap m_her m_cmd q50 l1 8 q52 e53) mX8_of qLX8_90 [0, 1] 0 rfl rfl rfl rfl ⟨rfl, rfl⟩ ⟨Nat.le_of_ble_eq_true rfl, Nat.le_of_ble_eq_true rfl⟩ rfl hl.1 rfl (Nat.le_of_ble_eq_true rfl) dX8_strikesBuoy_236 ⟨Nat.le_of_ble_eq_true rfl, Nat.le_of_ble_eq_true rfl⟩ ?_
  refine lv_iconst (v := 1) hx hb dX8_strikesBuoy_239 (by decide) ?_
  refine lv_iadd hx hb dX8_strikesBuoy_240 ?_
  replace h := bnd h; obtain ⟨q54, e55, h⟩ := h
  refine wrVv (ws1 := [(a_m, .inr (8, [.ref a_ms, .ref a_mw, .ref a_mv, .ref a_mp, .ref a_mf, .int m_chg, .int m_thr, .int m_rea, .int m_det, .int m_ref, .int m_err, .int m_ans, .int m_sav, .int m_net, .ref a_ml, .int m_lin, .ref a_mt, .ref a_mc, .int m_tap, .int m_her, .int m_cmd])), (a_ms, .inl (T 0, 103, .inl q54))]) C hE hP hD hS hA (kX8_sets l D T a_m a_ms a_mw a_mv a_mp a_mf a_ml a_mt a_mc m_chg m_thr m_rea m_det m_ref m_err m_ans m_sav m_net m_lin m_tap m_her m_cmd q50 l1 8 (q52 + 1) _ q54 e55) mX8_sets qLX8_103 [0, 1] [] 0 rfl rfl rfl rfl rfl rfl rfl rfl rfl ⟨rfl, rfl⟩ ⟨Nat.le_of_ble_eq_true rfl, Nat.le_of_ble_eq_true rfl⟩ rfl hl.1 rfl (Nat.le_of_ble_eq_true rfl) dX8_strikesBuoy_241 ⟨Nat.le_of_ble_eq_true rfl, Nat.le_of_ble_eq_true rfl⟩ ?_; clear hP hD hS; intro H locs hP hD hS
  refine lv_aload_n hx hb dX8_strikesBuoy_244 rfl (lv_at hl 1 rfl) ?_
  refine lv_iload_n hx hb dX8_strikesBuoy_245 rfl (lv_at hl 2 rfl) ?_
  refine lv_bipush (v := 7) hx hb dX8_strikesBuoy_246 (by decide) ?_
  refine lv_aload_n hx hb dX8_strikesBuoy_248 rfl (lv_at hl 1 rfl) ?_
  refine lv_iload_n hx hb dX8_strikesBuoy_249 rfl (lv_at hl 2 rfl) ?_
  refine lv_bipush (v := 7) hx hb dX8_strikesBuoy_250 (by decide) ?_
  replace h := bnd h; obtain ⟨q56, e57, h⟩ := h
  refine rdV C hE hP (kX8_of l D T a_m a_ms a_mw a_mv a_mp a_mf a_ml a_mt a_mc m_chg m_thr m_rea m_det m_ref m_err m_ans m_sav m_net m_lin m_tap m_her m_cmd q54 l1 7 q56 e57) mX8_of qLX8_90 [0, 1] 0 rfl rfl rfl rfl ⟨rfl, rfl⟩ ⟨Nat.le_of_ble_eq_true rfl, Nat.le_of_ble_eq_true rfl⟩ rfl hl.1 rfl (Nat.le_of_ble_eq_true rfl) dX8_strikesBuoy_252 ⟨Nat.le_of_ble_eq_true rfl, Nat.le_of_ble_eq_true rfl⟩ ?_
  refine lv_iload hx hb dX8_strikesBuoy_255 (lv_at hl 5 rfl) ?_
  refine lv_if_eq (tgt := 264) hx hb dX8_strikesBuoy_257 (by decide) (fun c58 => ?_) (fun c58 => ?_)
  · rw [if_pos c58] at h
    refine lv_iconst (v := 0) hx hb dX8_strikesBuoy_264 (by decide) ?_
    exact lX8_strikesBuoy_265 C hE hA hret l1 7 q56 0 l1 l7 l8 l9 x0 m_thr m_rea m_det m_ref m_net q54 ⟨hP, hD⟩ hS _ (lv_sub hl [1, 2, 4, 5, 6, 0] rfl) h
  · rw [if_neg c58] at h
    refine lv_iconst (v := 1) hx hb dX8_strikesBuoy_260 (by decide) ?_
    refine lv_goto (tgt := 265) hx hb dX8_strikesBuoy_261 (by decide) ?_
    exact lX8_strikesBuoy_265 C hE hA hret l1 7 q56 1 l1 l7 l8 l9 x0 m_thr m_rea m_det m_ref m_net q54 ⟨hP, hD⟩ hS _ (lv_sub hl [1, 2, 4, 5, 6, 0] rfl) h
set_option maxHeartbeats 4000000 in
set_option maxRecDepth 100000 in
theorem lX8_strikesBuoy_168 {p : Program} {l : Launch} {e : Env} {s : State} {m : MethodId} {args : Array Value} {below : List Frame} {meth : Method} {c : Code} {Q : State → Prop} {D : va_G} {T : Nat → ClassId} {a_m a_ms a_mw a_mv a_mp a_mf a_ml a_mt a_mc : Nat} {m_chg : Int32} {m_err : Int32} {m_ans : Int32} {m_sav : Int32} {m_lin : Int32} {m_tap : Int32} {m_her : Int32} {m_cmd : Int32} {A : Nat → Prop} {r : Int32 × Int32 × Int32 × Int32 × Int32 × Int32 × (Nat → Int32)} (C : CallFix p m c cX8_strikesBuoy 11 s args aw RX8) (hE : eK D T s) (hA : ∀ q : Nat, s.heap.size ≤ q → A q) (hret : WrRet p l e ({ frames := 5, cells := 0, slots := 0, locals := 111 } : Room) s m args below meth c Q cX8_strikesBuoy .int D A [(a_m, .inr (8, [.ref a_ms, .ref a_mw, .ref a_mv, .ref a_mp, .ref a_mf, .int m_chg, .int r.2.1, .int r.2.2.1, .int r.2.2.2.1, .int r.2.2.2.2.1, .int m_err, .int m_ans, .int m_sav, .int r.2.2.2.2.2.1, .ref a_ml, .int m_lin, .ref a_mt, .ref a_mc, .int m_tap, .int m_her, .int m_cmd])), (a_ms, .inl (T 0, 103, .inl r.2.2.2.2.2.2))] r.1) (x1 : Int32) (l1 : Int32) (l2 : Int32) (l3 : Int32) (l6 : Int32) (m_thr : Int32) (m_rea : Int32) (m_det : Int32) (m_ref : Int32) (m_net : Int32) (v_ms : Nat → Int32) {H : Heap} {locs : List Loc} (hPD : va_PD D A [(a_m, .inr (8, [.ref a_ms, .ref a_mw, .ref a_mv, .ref a_mp, .ref a_mf, .int m_chg, .int m_thr, .int m_rea, .int m_det, .int m_ref, .int m_err, .int m_ans, .int m_sav, .int m_net, .ref a_ml, .int m_lin, .ref a_mt, .ref a_mc, .int m_tap, .int m_her, .int m_cmd])), (a_ms, .inl (T 0, 103, .inl v_ms))] H) (hS : va_S A s.heap H locs) (ls : Array Slot) (hl : lv_has ls 11 [(0, .ref a_m), (1, .int l1), (2, .int l2), (3, .int l3), (6, .int l6)]) (h : fX8_strikesBuoy_168 x1 l1 l2 l3 l6 m_thr m_rea m_det m_ref m_net v_ms = some r) : W p l e ({ frames := 5, cells := 0, slots := 0, locals := 111 } : Room) s m args below meth c H locs 0 0 Q (F0 m 168 ls [.int x1, .ref a_m]) := by
  have hx := C.1
  have hb := C.2.1
  obtain ⟨hP, hD⟩ := hPD
  unfold fX8_strikesBuoy_168 at h
  refine lv_bipush (v := 6) hx hb dX8_strikesBuoy_168 (by decide) ?_
  refine lv_iload hx hb dX8_strikesBuoy_170 (lv_at hl 4 rfl) ?_
  replace h := bnd h; obtain ⟨q40, e41, h⟩ := h
  refine wrVi (ws1 := [(a_m, .inr (8, [.ref a_ms, .ref a_mw, .ref a_mv, .ref a_mp, .ref a_mf, .int m_chg, .int q40.2.1, .int q40.2.2.1, .int q40.2.2.2.1, .int q40.2.2.2.2, .int m_err, .int m_ans, .int m_sav, .int m_net, .ref a_ml, .int m_lin, .ref a_mt, .ref a_mc, .int m_tap, .int m_her, .int m_cmd])), (a_ms, .inl (T 0, 103, .inl v_ms))]) C hE hP hD hS hA (kX8_isRefused l D T a_m a_ms a_mw a_mv a_mp a_mf a_ml a_mt a_mc m_chg m_thr m_rea m_det m_ref m_err m_ans m_sav m_net m_lin m_tap m_her m_cmd x1 6 l6 _ q40 e41) mX8_isRefused qLX8_99 [0] [1] 0 rfl rfl rfl rfl rfl rfl rfl rfl rfl ⟨rfl, rfl⟩ ⟨Nat.le_of_ble_eq_true rfl, Nat.le_of_ble_eq_true rfl⟩ rfl hl.1 rfl (Nat.le_of_ble_eq_true rfl) dX8_strikesBuoy_172 ⟨Nat.le_of_ble_eq_true rfl, Nat.le_of_ble_eq_true rfl⟩ ?_; clear hP hD hS; intro H locs hP hD hS
  refine lv_if_eq (tgt := 180) hx hb dX8_strikesBuoy_175 (by decide) (fun c42 => ?_) (fun c42 => ?_)
  · replace h := ite_t c42 h
    refine lv_aload_n hx hb dX8_strikesBuoy_180 rfl (lv_at hl 0 rfl) ?_
    refine lv_iload_n hx hb dX8_strikesBuoy_181 rfl (lv_at hl 1 rfl) ?_
    refine lv_iconst (v := 0) hx hb dX8_strikesBuoy_182 (by decide) ?_
    replace h := bnd h; obtain ⟨q43, e44, h⟩ := h
    refine rdV C hE hP (kX8_of l D T a_m a_ms a_mw a_mv a_mp a_mf a_ml a_mt a_mc m_chg q40.2.1 q40.2.2.1 q40.2.2.2.1 q40.2.2.2.2 m_err m_ans m_sav m_net m_lin m_tap m_her m_cmd v_ms l1 0 q43 e44) mX8_of qLX8_90 [0, 1] 0 rfl rfl rfl rfl ⟨rfl, rfl⟩ ⟨Nat.le_of_ble_eq_true rfl, Nat.le_of_ble_eq_true rfl⟩ rfl hl.1 rfl (Nat.le_of_ble_eq_true rfl) dX8_strikesBuoy_183 ⟨Nat.le_of_ble_eq_true rfl, Nat.le_of_ble_eq_true rfl⟩ ?_
    refine lv_istore (lv' := [(7, .int q43), (0, .ref a_m), (1, .int l1), (2, .int l2), (3, .int l3), (6, .int l6)]) hx hb dX8_strikesBuoy_186 hl (by decide) rfl (fun ls hl => ?_)
    refine lv_aload_n hx hb dX8_strikesBuoy_188 rfl (lv_at hl 1 rfl) ?_
    refine lv_iload_n hx hb dX8_strikesBuoy_189 rfl (lv_at hl 2 rfl) ?_
    replace h := bnd h; obtain ⟨q45, e46, h⟩ := h
    refine rdV C hE hP (kX8_isFoul l D T a_m a_ms a_mw a_mv a_mp a_mf a_ml a_mt a_mc m_chg q40.2.1 q40.2.2.1 q40.2.2.2.1 q40.2.2.2.2 m_err m_ans m_sav m_net m_lin m_tap m_her m_cmd v_ms l1 q45 e46) mX8_isFoul qLX8_162 [0, 1] 0 rfl rfl rfl rfl ⟨rfl, rfl⟩ ⟨Nat.le_of_ble_eq_true rfl, Nat.le_of_ble_eq_true rfl⟩ rfl hl.1 rfl (Nat.le_of_ble_eq_true rfl) dX8_strikesBuoy_190 ⟨Nat.le_of_ble_eq_true rfl, Nat.le_of_ble_eq_true rfl⟩ ?_
    refine lv_istore (lv' := [(8, .int q45), (7, .int q43), (0, .ref a_m), (1, .int l1), (2, .int l2), (3, .int l3), (6, .int l6)]) hx hb dX8_strikesBuoy_193 hl (by decide) rfl (fun ls hl => ?_)
    refine lv_aload_n hx hb dX8_strikesBuoy_195 rfl (lv_at hl 2 rfl) ?_
    refine lv_iload_n hx hb dX8_strikesBuoy_196 rfl (lv_at hl 3 rfl) ?_
    refine lv_iload_n hx hb dX8_strikesBuoy_197 rfl (lv_at hl 4 rfl) ?_
    refine lv_iload_n hx hb dX8_strikesBuoy_198 rfl (lv_at hl 5 rfl) ?_
    replace h := bnd h; obtain ⟨q47, e48, h⟩ := h
    refine wrVi (ws1 := [(a_m, .inr (8, [.ref a_ms, .ref a_mw, .ref a_mv, .ref a_mp, .ref a_mf, .int m_chg, .int q40.2.1, .int q40.2.2.1, .int q40.2.2.2.1, .int q40.2.2.2.2, .int m_err, .int m_ans, .int m_sav, .int q47.2, .ref a_ml, .int m_lin, .ref a_mt, .ref a_mc, .int m_tap, .int m_her, .int m_cmd])), (a_ms, .inl (T 0, 103, .inl v_ms))]) C hE hP hD hS hA (kX8_goes l D T a_m a_ms a_mw a_mv a_mp a_mf a_ml a_mt a_mc m_chg q40.2.1 q40.2.2.1 q40.2.2.2.1 q40.2.2.2.2 m_err m_ans m_sav m_net m_lin m_tap m_her m_cmd v_ms l1 l2 l3 _ q47 e48) mX8_goes qLX8_159 [0, 1] [] 0 rfl rfl rfl rfl rfl rfl rfl rfl rfl ⟨rfl, rfl⟩ ⟨Nat.le_of_ble_eq_true rfl, Nat.le_of_ble_eq_true rfl⟩ rfl hl.1 rfl (Nat.le_of_ble_eq_true rfl) dX8_strikesBuoy_199 ⟨Nat.le_of_ble_eq_true rfl, Nat.le_of_ble_eq_true rfl⟩ ?_; clear hP hD hS; intro H locs hP hD hS
    refine lv_istore (lv' := [(9, .int q47.1), (8, .int q45), (7, .int q43), (0, .ref a_m), (1, .int l1), (2, .int l2), (3, .int l3), (6, .int l6)]) hx hb dX8_strikesBuoy_202 hl (by decide) rfl (fun ls hl => ?_)
    refine lv_iload hx hb dX8_strikesBuoy_204 (lv_at hl 0 rfl) ?_
    refine lv_bipush (v := 45) hx hb dX8_strikesBuoy_206 (by decide) ?_
    refine lv_icmp_lt (tgt := 215) hx hb dX8_strikesBuoy_208 (by decide) (fun c49 => ?_) (fun c49 => ?_)
    · rw [if_pos c49] at h
      refine lv_iconst (v := 0) hx hb dX8_strikesBuoy_215 (by decide) ?_
      exact lX8_strikesBuoy_216 C hE hA hret 0 l1 l6 q43 q45 q47.1 q40.2.1 q40.2.2.1 q40.2.2.2.1 q40.2.2.2.2 q47.2 v_ms ⟨hP, hD⟩ hS _ (lv_sub hl [3, 4, 7, 2, 1, 0] rfl) h
    · rw [if_neg c49] at h
      refine lv_iconst (v := 1) hx hb dX8_strikesBuoy_211 (by decide) ?_
      refine lv_goto (tgt := 216) hx hb dX8_strikesBuoy_212 (by decide) ?_
      exact lX8_strikesBuoy_216 C hE hA hret 1 l1 l6 q43 q45 q47.1 q40.2.1 q40.2.2.1 q40.2.2.2.1 q40.2.2.2.2 q47.2 v_ms ⟨hP, hD⟩ hS _ (lv_sub hl [3, 4, 7, 2, 1, 0] rfl) h
  · replace h := ite_f c42 h
    refine lv_iconst (v := 0) hx hb dX8_strikesBuoy_178 (by decide) ?_
    replace h := Option.some.inj h
    exact hret _ _ _ _ _ _ dX8_strikesBuoy_179 rfl (by rw [← h] <;> rfl) (by rw [← h]; exact hP) hS
set_option maxHeartbeats 4000000 in
set_option maxRecDepth 100000 in
theorem lX8_strikesBuoy_142 {p : Program} {l : Launch} {e : Env} {s : State} {m : MethodId} {args : Array Value} {below : List Frame} {meth : Method} {c : Code} {Q : State → Prop} {D : va_G} {T : Nat → ClassId} {a_m a_ms a_mw a_mv a_mp a_mf a_ml a_mt a_mc : Nat} {m_chg : Int32} {m_err : Int32} {m_ans : Int32} {m_sav : Int32} {m_lin : Int32} {m_tap : Int32} {m_her : Int32} {m_cmd : Int32} {A : Nat → Prop} {r : Int32 × Int32 × Int32 × Int32 × Int32 × Int32 × (Nat → Int32)} (C : CallFix p m c cX8_strikesBuoy 11 s args aw RX8) (hE : eK D T s) (hA : ∀ q : Nat, s.heap.size ≤ q → A q) (hret : WrRet p l e ({ frames := 5, cells := 0, slots := 0, locals := 111 } : Room) s m args below meth c Q cX8_strikesBuoy .int D A [(a_m, .inr (8, [.ref a_ms, .ref a_mw, .ref a_mv, .ref a_mp, .ref a_mf, .int m_chg, .int r.2.1, .int r.2.2.1, .int r.2.2.2.1, .int r.2.2.2.2.1, .int m_err, .int m_ans, .int m_sav, .int r.2.2.2.2.2.1, .ref a_ml, .int m_lin, .ref a_mt, .ref a_mc, .int m_tap, .int m_her, .int m_cmd])), (a_ms, .inl (T 0, 103, .inl r.2.2.2.2.2.2))] r.1) (x1 : Int32) (l1 : Int32) (l2 : Int32) (l3 : Int32) (l6 : Int32) (m_thr : Int32) (m_rea : Int32) (m_det : Int32) (m_ref : Int32) (m_net : Int32) (v_ms : Nat → Int32) {H : Heap} {locs : List Loc} (hPD : va_PD D A [(a_m, .inr (8, [.ref a_ms, .ref a_mw, .ref a_mv, .ref a_mp, .ref a_mf, .int m_chg, .int m_thr, .int m_rea, .int m_det, .int m_ref, .int m_err, .int m_ans, .int m_sav, .int m_net, .ref a_ml, .int m_lin, .ref a_mt, .ref a_mc, .int m_tap, .int m_her, .int m_cmd])), (a_ms, .inl (T 0, 103, .inl v_ms))] H) (hS : va_S A s.heap H locs) (ls : Array Slot) (hl : lv_has ls 11 [(0, .ref a_m), (1, .int l1), (2, .int l2), (3, .int l3), (6, .int l6)]) (h : fX8_strikesBuoy_142 x1 l1 l2 l3 l6 m_thr m_rea m_det m_ref m_net v_ms = some r) : W p l e ({ frames := 5, cells := 0, slots := 0, locals := 111 } : Room) s m args below meth c H locs 0 0 Q (F0 m 142 ls [.int x1, .ref a_m]) := by
  have hx := C.1
  have hb := C.2.1
  obtain ⟨hP, hD⟩ := hPD
  unfold fX8_strikesBuoy_142 at h
  refine lv_bipush (v := 10) hx hb dX8_strikesBuoy_142 (by decide) ?_
  refine lv_aload_n hx hb dX8_strikesBuoy_144 rfl (lv_at hl 0 rfl) ?_
  refine lv_iload_n hx hb dX8_strikesBuoy_145 rfl (lv_at hl 1 rfl) ?_
  refine lv_iconst (v := 1) hx hb dX8_strikesBuoy_146 (by decide) ?_
  replace h := bnd h; obtain ⟨q34, e35, h⟩ := h
  refine rdV C hE hP (kX8_of l D T a_m a_ms a_mw a_mv a_mp a_mf a_ml a_mt a_mc m_chg m_thr m_rea m_det m_ref m_err m_ans m_sav m_net m_lin m_tap m_her m_cmd v_ms l1 1 q34 e35) mX8_of qLX8_90 [0, 1] 0 rfl rfl rfl rfl ⟨rfl, rfl⟩ ⟨Nat.le_of_ble_eq_true rfl, Nat.le_of_ble_eq_true rfl⟩ rfl hl.1 rfl (Nat.le_of_ble_eq_true rfl) dX8_strikesBuoy_147 ⟨Nat.le_of_ble_eq_true rfl, Nat.le_of_ble_eq_true rfl⟩ ?_
  replace h := bnd h; obtain ⟨q36, e37, h⟩ := h
  refine wrVi (ws1 := [(a_m, .inr (8, [.ref a_ms, .ref a_mw, .ref a_mv, .ref a_mp, .ref a_mf, .int m_chg, .int q36.2.1, .int q36.2.2.1, .int q36.2.2.2.1, .int q36.2.2.2.2, .int m_err, .int m_ans, .int m_sav, .int m_net, .ref a_ml, .int m_lin, .ref a_mt, .ref a_mc, .int m_tap, .int m_her, .int m_cmd])), (a_ms, .inl (T 0, 103, .inl v_ms))]) C hE hP hD hS hA (kX8_isRefused l D T a_m a_ms a_mw a_mv a_mp a_mf a_ml a_mt a_mc m_chg m_thr m_rea m_det m_ref m_err m_ans m_sav m_net m_lin m_tap m_her m_cmd x1 10 q34 _ q36 e37) mX8_isRefused qLX8_99 [0] [1] 0 rfl rfl rfl rfl rfl rfl rfl rfl rfl ⟨rfl, rfl⟩ ⟨Nat.le_of_ble_eq_true rfl, Nat.le_of_ble_eq_true rfl⟩ rfl hl.1 rfl (Nat.le_of_ble_eq_true rfl) dX8_strikesBuoy_150 ⟨Nat.le_of_ble_eq_true rfl, Nat.le_of_ble_eq_true rfl⟩ ?_; clear hP hD hS; intro H locs hP hD hS
  refine lv_if_ne (tgt := 178) hx hb dX8_strikesBuoy_153 (by decide) (fun c38 => ?_) (fun c38 => ?_)
  · replace h := ite_f c38 h
    refine lv_iconst (v := 0) hx hb dX8_strikesBuoy_178 (by decide) ?_
    replace h := Option.some.inj h
    exact hret _ _ _ _ _ _ dX8_strikesBuoy_179 rfl (by rw [← h] <;> rfl) (by rw [← h]; exact hP) hS
  · replace h := ite_t c38 h
    refine lv_aload_n hx hb dX8_strikesBuoy_156 rfl (lv_at hl 0 rfl) ?_
    refine lv_iload hx hb dX8_strikesBuoy_157 (lv_at hl 4 rfl) ?_
    refine lv_iconst (v := 1) hx hb dX8_strikesBuoy_159 (by decide) ?_
    refine lv_icmp_ge (tgt := 167) hx hb dX8_strikesBuoy_160 (by decide) (fun c39 => ?_) (fun c39 => ?_)
    · rw [if_pos c39] at h
      refine lv_iconst (v := 0) hx hb dX8_strikesBuoy_167 (by decide) ?_
      exact lX8_strikesBuoy_168 C hE hA hret 0 l1 l2 l3 l6 q36.2.1 q36.2.2.1 q36.2.2.2.1 q36.2.2.2.2 m_net v_ms ⟨hP, hD⟩ hS _ (lv_sub hl [0, 1, 2, 3, 4] rfl) h
    · rw [if_neg c39] at h
      refine lv_iconst (v := 1) hx hb dX8_strikesBuoy_163 (by decide) ?_
      refine lv_goto (tgt := 168) hx hb dX8_strikesBuoy_164 (by decide) ?_
      exact lX8_strikesBuoy_168 C hE hA hret 1 l1 l2 l3 l6 q36.2.1 q36.2.2.1 q36.2.2.2.1 q36.2.2.2.2 m_net v_ms ⟨hP, hD⟩ hS _ (lv_sub hl [0, 1, 2, 3, 4] rfl) h
set_option maxHeartbeats 4000000 in
set_option maxRecDepth 100000 in
theorem lX8_strikesBuoy_116 {p : Program} {l : Launch} {e : Env} {s : State} {m : MethodId} {args : Array Value} {below : List Frame} {meth : Method} {c : Code} {Q : State → Prop} {D : va_G} {T : Nat → ClassId} {a_m a_ms a_mw a_mv a_mp a_mf a_ml a_mt a_mc : Nat} {m_chg : Int32} {m_err : Int32} {m_ans : Int32} {m_sav : Int32} {m_lin : Int32} {m_tap : Int32} {m_her : Int32} {m_cmd : Int32} {A : Nat → Prop} {r : Int32 × Int32 × Int32 × Int32 × Int32 × Int32 × (Nat → Int32)} (C : CallFix p m c cX8_strikesBuoy 11 s args aw RX8) (hE : eK D T s) (hA : ∀ q : Nat, s.heap.size ≤ q → A q) (hret : WrRet p l e ({ frames := 5, cells := 0, slots := 0, locals := 111 } : Room) s m args below meth c Q cX8_strikesBuoy .int D A [(a_m, .inr (8, [.ref a_ms, .ref a_mw, .ref a_mv, .ref a_mp, .ref a_mf, .int m_chg, .int r.2.1, .int r.2.2.1, .int r.2.2.2.1, .int r.2.2.2.2.1, .int m_err, .int m_ans, .int m_sav, .int r.2.2.2.2.2.1, .ref a_ml, .int m_lin, .ref a_mt, .ref a_mc, .int m_tap, .int m_her, .int m_cmd])), (a_ms, .inl (T 0, 103, .inl r.2.2.2.2.2.2))] r.1) (x1 : Int32) (l1 : Int32) (l2 : Int32) (l3 : Int32) (l5 : Int32) (l6 : Int32) (m_thr : Int32) (m_rea : Int32) (m_det : Int32) (m_ref : Int32) (m_net : Int32) (v_ms : Nat → Int32) {H : Heap} {locs : List Loc} (hPD : va_PD D A [(a_m, .inr (8, [.ref a_ms, .ref a_mw, .ref a_mv, .ref a_mp, .ref a_mf, .int m_chg, .int m_thr, .int m_rea, .int m_det, .int m_ref, .int m_err, .int m_ans, .int m_sav, .int m_net, .ref a_ml, .int m_lin, .ref a_mt, .ref a_mc, .int m_tap, .int m_her, .int m_cmd])), (a_ms, .inl (T 0, 103, .inl v_ms))] H) (hS : va_S A s.heap H locs) (ls : Array Slot) (hl : lv_has ls 11 [(0, .ref a_m), (1, .int l1), (2, .int l2), (3, .int l3), (5, .int l5), (6, .int l6)]) (h : fX8_strikesBuoy_116 x1 l1 l2 l3 l5 l6 m_thr m_rea m_det m_ref m_net v_ms = some r) : W p l e ({ frames := 5, cells := 0, slots := 0, locals := 111 } : Room) s m args below meth c H locs 0 0 Q (F0 m 116 ls [.int x1, .ref a_m]) := by
  have hx := C.1
  have hb := C.2.1
  obtain ⟨hP, hD⟩ := hPD
  unfold fX8_strikesBuoy_116 at h
  refine lv_bipush (v := 9) hx hb dX8_strikesBuoy_116 (by decide) ?_
  refine lv_iload hx hb dX8_strikesBuoy_118 (lv_at hl 4 rfl) ?_
  replace h := bnd h; obtain ⟨q28, e29, h⟩ := h
  refine wrVi (ws1 := [(a_m, .inr (8, [.ref a_ms, .ref a_mw, .ref a_mv, .ref a_mp, .ref a_mf, .int m_chg, .int q28.2.1, .int q28.2.2.1, .int q28.2.2.2.1, .int q28.2.2.2.2, .int m_err, .int m_ans, .int m_sav, .int m_net, .ref a_ml, .int m_lin, .ref a_mt, .ref a_mc, .int m_tap, .int m_her, .int m_cmd])), (a_ms, .inl (T 0, 103, .inl v_ms))]) C hE hP hD hS hA (kX8_isRefused l D T a_m a_ms a_mw a_mv a_mp a_mf a_ml a_mt a_mc m_chg m_thr m_rea m_det m_ref m_err m_ans m_sav m_net m_lin m_tap m_her m_cmd x1 9 l5 _ q28 e29) mX8_isRefused qLX8_99 [0] [1] 0 rfl rfl rfl rfl rfl rfl rfl rfl rfl ⟨rfl, rfl⟩ ⟨Nat.le_of_ble_eq_true rfl, Nat.le_of_ble_eq_true rfl⟩ rfl hl.1 rfl (Nat.le_of_ble_eq_true rfl) dX8_strikesBuoy_120 ⟨Nat.le_of_ble_eq_true rfl, Nat.le_of_ble_eq_true rfl⟩ ?_; clear hP hD hS; intro H locs hP hD hS
  refine lv_if_ne (tgt := 178) hx hb dX8_strikesBuoy_123 (by decide) (fun c30 => ?_) (fun c30 => ?_)
  · replace h := ite_f c30 h
    refine lv_iconst (v := 0) hx hb dX8_strikesBuoy_178 (by decide) ?_
    replace h := Option.some.inj h
    exact hret _ _ _ _ _ _ dX8_strikesBuoy_179 rfl (by rw [← h] <;> rfl) (by rw [← h]; exact hP) hS
  · replace h := ite_t c30 h
    refine lv_aload_n hx hb dX8_strikesBuoy_126 rfl (lv_at hl 0 rfl) ?_
    refine lv_iload_n hx hb dX8_strikesBuoy_127 rfl (lv_at hl 3 rfl) ?_
    refine lv_aload_n hx hb dX8_strikesBuoy_128 rfl (lv_at hl 0 rfl) ?_
    refine lv_iload_n hx hb dX8_strikesBuoy_129 rfl (lv_at hl 1 rfl) ?_
    refine lv_iconst (v := 1) hx hb dX8_strikesBuoy_130 (by decide) ?_
    replace h := bnd h; obtain ⟨q31, e32, h⟩ := h
    refine rdV C hE hP (kX8_of l D T a_m a_ms a_mw a_mv a_mp a_mf a_ml a_mt a_mc m_chg q28.2.1 q28.2.2.1 q28.2.2.2.1 q28.2.2.2.2 m_err m_ans m_sav m_net m_lin m_tap m_her m_cmd v_ms l1 1 q31 e32) mX8_of qLX8_90 [0, 1] 0 rfl rfl rfl rfl ⟨rfl, rfl⟩ ⟨Nat.le_of_ble_eq_true rfl, Nat.le_of_ble_eq_true rfl⟩ rfl hl.1 rfl (Nat.le_of_ble_eq_true rfl) dX8_strikesBuoy_131 ⟨Nat.le_of_ble_eq_true rfl, Nat.le_of_ble_eq_true rfl⟩ ?_
    refine lv_icmp_le (tgt := 141) hx hb dX8_strikesBuoy_134 (by decide) (fun c33 => ?_) (fun c33 => ?_)
    · rw [if_pos c33] at h
      refine lv_iconst (v := 0) hx hb dX8_strikesBuoy_141 (by decide) ?_
      exact lX8_strikesBuoy_142 C hE hA hret 0 l1 l2 l3 l6 q28.2.1 q28.2.2.1 q28.2.2.2.1 q28.2.2.2.2 m_net v_ms ⟨hP, hD⟩ hS _ (lv_sub hl [0, 1, 2, 3, 5] rfl) h
    · rw [if_neg c33] at h
      refine lv_iconst (v := 1) hx hb dX8_strikesBuoy_137 (by decide) ?_
      refine lv_goto (tgt := 142) hx hb dX8_strikesBuoy_138 (by decide) ?_
      exact lX8_strikesBuoy_142 C hE hA hret 1 l1 l2 l3 l6 q28.2.1 q28.2.2.1 q28.2.2.2.1 q28.2.2.2.2 m_net v_ms ⟨hP, hD⟩ hS _ (lv_sub hl [0, 1, 2, 3, 5] rfl) h
set_option maxHeartbeats 4000000 in
set_option maxRecDepth 100000 in
theorem lX8_strikesBuoy_35 {p : Program} {l : Launch} {e : Env} {s : State} {m : MethodId} {args : Array Value} {below : List Frame} {meth : Method} {c : Code} {Q : State → Prop} {D : va_G} {T : Nat → ClassId} {a_m a_ms a_mw a_mv a_mp a_mf a_ml a_mt a_mc : Nat} {m_chg : Int32} {m_err : Int32} {m_ans : Int32} {m_sav : Int32} {m_lin : Int32} {m_tap : Int32} {m_her : Int32} {m_cmd : Int32} {A : Nat → Prop} {r : Int32 × Int32 × Int32 × Int32 × Int32 × Int32 × (Nat → Int32)} (C : CallFix p m c cX8_strikesBuoy 11 s args aw RX8) (hE : eK D T s) (hA : ∀ q : Nat, s.heap.size ≤ q → A q) (hret : WrRet p l e ({ frames := 5, cells := 0, slots := 0, locals := 111 } : Room) s m args below meth c Q cX8_strikesBuoy .int D A [(a_m, .inr (8, [.ref a_ms, .ref a_mw, .ref a_mv, .ref a_mp, .ref a_mf, .int m_chg, .int r.2.1, .int r.2.2.1, .int r.2.2.2.1, .int r.2.2.2.2.1, .int m_err, .int m_ans, .int m_sav, .int r.2.2.2.2.2.1, .ref a_ml, .int m_lin, .ref a_mt, .ref a_mc, .int m_tap, .int m_her, .int m_cmd])), (a_ms, .inl (T 0, 103, .inl r.2.2.2.2.2.2))] r.1) (x1 : Int32) (l1 : Int32) (l2 : Int32) (l3 : Int32) (m_thr : Int32) (m_rea : Int32) (m_det : Int32) (m_ref : Int32) (m_net : Int32) (v_ms : Nat → Int32) {H : Heap} {locs : List Loc} (hPD : va_PD D A [(a_m, .inr (8, [.ref a_ms, .ref a_mw, .ref a_mv, .ref a_mp, .ref a_mf, .int m_chg, .int m_thr, .int m_rea, .int m_det, .int m_ref, .int m_err, .int m_ans, .int m_sav, .int m_net, .ref a_ml, .int m_lin, .ref a_mt, .ref a_mc, .int m_tap, .int m_her, .int m_cmd])), (a_ms, .inl (T 0, 103, .inl v_ms))] H) (hS : va_S A s.heap H locs) (ls : Array Slot) (hl : lv_has ls 11 [(0, .ref a_m), (1, .int l1), (2, .int l2), (3, .int l3)]) (h : fX8_strikesBuoy_35 x1 l1 l2 l3 m_thr m_rea m_det m_ref m_net v_ms = some r) : W p l e ({ frames := 5, cells := 0, slots := 0, locals := 111 } : Room) s m args below meth c H locs 0 0 Q (F0 m 35 ls [.int x1, .ref a_m]) := by
  have hx := C.1
  have hb := C.2.1
  obtain ⟨hP, hD⟩ := hPD
  unfold fX8_strikesBuoy_35 at h
  refine lv_iconst (v := 2) hx hb dX8_strikesBuoy_35 (by decide) ?_
  replace h := bnd h; obtain ⟨q8, e9, h⟩ := h
  refine wrVi (ws1 := [(a_m, .inr (8, [.ref a_ms, .ref a_mw, .ref a_mv, .ref a_mp, .ref a_mf, .int m_chg, .int q8.2, .int m_rea, .int m_det, .int m_ref, .int m_err, .int m_ans, .int m_sav, .int m_net, .ref a_ml, .int m_lin, .ref a_mt, .ref a_mc, .int m_tap, .int m_her, .int m_cmd])), (a_ms, .inl (T 0, 103, .inl v_ms))]) C hE hP hD hS hA (kX8_isThrown l D T a_m a_ms a_mw a_mv a_mp a_mf a_ml a_mt a_mc m_chg m_thr m_rea m_det m_ref m_err m_ans m_sav m_net m_lin m_tap m_her m_cmd x1 2 _ q8 e9) mX8_isThrown qLX8_80 [0] [1] 0 rfl rfl rfl rfl rfl rfl rfl rfl rfl ⟨rfl, rfl⟩ ⟨Nat.le_of_ble_eq_true rfl, Nat.le_of_ble_eq_true rfl⟩ rfl hl.1 rfl (Nat.le_of_ble_eq_true rfl) dX8_strikesBuoy_36 ⟨Nat.le_of_ble_eq_true rfl, Nat.le_of_ble_eq_true rfl⟩ ?_; clear hP hD hS; intro H locs hP hD hS
  refine lv_if_ne (tgt := 57) hx hb dX8_strikesBuoy_39 (by decide) (fun c10 => ?_) (fun c10 => ?_)
  · replace h := ite_f c10 h
    refine lv_iconst (v := 0) hx hb dX8_strikesBuoy_57 (by decide) ?_
    replace h := Option.some.inj h
    exact hret _ _ _ _ _ _ dX8_strikesBuoy_58 rfl (by rw [← h] <;> rfl) (by rw [← h]; exact hP) hS
  · replace h := ite_t c10 h
    refine lv_aload_n hx hb dX8_strikesBuoy_42 rfl (lv_at hl 0 rfl) ?_
    replace h := bnd h; obtain ⟨q11, e12, h⟩ := h
    refine wrVi (ws1 := [(a_m, .inr (8, [.ref a_ms, .ref a_mw, .ref a_mv, .ref a_mp, .ref a_mf, .int m_chg, .int q11.2.1, .int q11.2.2.1, .int q11.2.2.2.1, .int q11.2.2.2.2, .int m_err, .int m_ans, .int m_sav, .int m_net, .ref a_ml, .int m_lin, .ref a_mt, .ref a_mc, .int m_tap, .int m_her, .int m_cmd])), (a_ms, .inl (T 0, 103, .inl v_ms))]) C hE hP hD hS hA (kX8_isOver l D T a_m a_ms a_mw a_mv a_mp a_mf a_ml a_mt a_mc m_chg q8.2 m_rea m_det m_ref m_err m_ans m_sav m_net m_lin m_tap m_her m_cmd v_ms _ q11 e12) mX8_isOver qLX8_123 [0, 1] [] 0 rfl rfl rfl rfl rfl rfl rfl rfl rfl ⟨rfl, rfl⟩ ⟨Nat.le_of_ble_eq_true rfl, Nat.le_of_ble_eq_true rfl⟩ rfl hl.1 rfl (Nat.le_of_ble_eq_true rfl) dX8_strikesBuoy_43 ⟨Nat.le_of_ble_eq_true rfl, Nat.le_of_ble_eq_true rfl⟩ ?_; clear hP hD hS; intro H locs hP hD hS
    refine lv_if_ne (tgt := 57) hx hb dX8_strikesBuoy_46 (by decide) (fun c13 => ?_) (fun c13 => ?_)
    · replace h := ite_f c13 h
      refine lv_iconst (v := 0) hx hb dX8_strikesBuoy_57 (by decide) ?_
      replace h := Option.some.inj h
      exact hret _ _ _ _ _ _ dX8_strikesBuoy_58 rfl (by rw [← h] <;> rfl) (by rw [← h]; exact hP) hS
    · replace h := ite_t c13 h
      refine lv_aload_n hx hb dX8_strikesBuoy_49 rfl (lv_at hl 0 rfl) ?_
      refine lv_iload_n hx hb dX8_strikesBuoy_50 rfl (lv_at hl 1 rfl) ?_
      replace h := bnd h; obtain ⟨q14, e15, h⟩ := h
      refine wrVi (ws1 := [(a_m, .inr (8, [.ref a_ms, .ref a_mw, .ref a_mv, .ref a_mp, .ref a_mf, .int m_chg, .int q14.2.1, .int q14.2.2.1, .int q14.2.2.2.1, .int q14.2.2.2.2, .int m_err, .int m_ans, .int m_sav, .int m_net, .ref a_ml, .int m_lin, .ref a_mt, .ref a_mc, .int m_tap, .int m_her, .int m_cmd])), (a_ms, .inl (T 0, 103, .inl v_ms))]) C hE hP hD hS hA (kX8_isOnBench l D T a_m a_ms a_mw a_mv a_mp a_mf a_ml a_mt a_mc m_chg q11.2.1 q11.2.2.1 q11.2.2.2.1 q11.2.2.2.2 m_err m_ans m_sav m_net m_lin m_tap m_her m_cmd v_ms l1 _ q14 e15) mX8_isOnBench qLX8_127 [0, 1] [] 0 rfl rfl rfl rfl rfl rfl rfl rfl rfl ⟨rfl, rfl⟩ ⟨Nat.le_of_ble_eq_true rfl, Nat.le_of_ble_eq_true rfl⟩ rfl hl.1 rfl (Nat.le_of_ble_eq_true rfl) dX8_strikesBuoy_51 ⟨Nat.le_of_ble_eq_true rfl, Nat.le_of_ble_eq_true rfl⟩ ?_; clear hP hD hS; intro H locs hP hD hS
      refine lv_if_eq (tgt := 59) hx hb dX8_strikesBuoy_54 (by decide) (fun c16 => ?_) (fun c16 => ?_)
      · replace h := ite_t c16 h
        refine lv_aload_n hx hb dX8_strikesBuoy_59 rfl (lv_at hl 0 rfl) ?_
        refine lv_iload_n hx hb dX8_strikesBuoy_60 rfl (lv_at hl 1 rfl) ?_
        refine lv_iconst (v := 4) hx hb dX8_strikesBuoy_61 (by decide) ?_
        replace h := bnd h; obtain ⟨q17, e18, h⟩ := h
        refine rdV C hE hP (kX8_of l D T a_m a_ms a_mw a_mv a_mp a_mf a_ml a_mt a_mc m_chg q14.2.1 q14.2.2.1 q14.2.2.2.1 q14.2.2.2.2 m_err m_ans m_sav m_net m_lin m_tap m_her m_cmd v_ms l1 4 q17 e18) mX8_of qLX8_90 [0, 1] 0 rfl rfl rfl rfl ⟨rfl, rfl⟩ ⟨Nat.le_of_ble_eq_true rfl, Nat.le_of_ble_eq_true rfl⟩ rfl hl.1 rfl (Nat.le_of_ble_eq_true rfl) dX8_strikesBuoy_62 ⟨Nat.le_of_ble_eq_true rfl, Nat.le_of_ble_eq_true rfl⟩ ?_
        refine lv_istore (lv' := [(4, .int q17), (0, .ref a_m), (1, .int l1), (2, .int l2), (3, .int l3)]) hx hb dX8_strikesBuoy_65 hl (by decide) rfl (fun ls hl => ?_)
        refine lv_iload hx hb dX8_strikesBuoy_67 (lv_at hl 0 rfl) ?_
        refine lv_aload_n hx hb dX8_strikesBuoy_69 rfl (lv_at hl 1 rfl) ?_
        refine getF (q0 := 0) (k0 := 0) (v := .ref a_ms) C hE hP inA8 rfl rfl (by decide) qFX8_9 rfl rfl dX8_strikesBuoy_70 ?_
        refine lv_iconst (v := 2) hx hb dX8_strikesBuoy_73 (by decide) ?_
        replace h := gd h; obtain ⟨g19, h⟩ := h
        refine aldI (q0 := 1) C hE hP rfl g19 dX8_strikesBuoy_74 ?_
        refine rdS C hE hP (kX8_apart l D T q17 (v_ms (2 : Int32).toNatClampNeg)) mX8_apart qLX8_152 [] rfl ⟨rfl, rfl⟩ ⟨Nat.le_of_ble_eq_true rfl, Nat.le_of_ble_eq_true rfl⟩ rfl hl.1 rfl (Nat.le_of_ble_eq_true rfl) dX8_strikesBuoy_75 ⟨Nat.le_of_ble_eq_true rfl, Nat.le_of_ble_eq_true rfl⟩ ?_
        refine lv_istore (lv' := [(5, .int (fX8_apart q17 (v_ms (2 : Int32).toNatClampNeg))), (4, .int q17), (0, .ref a_m), (1, .int l1), (2, .int l2), (3, .int l3)]) hx hb dX8_strikesBuoy_78 hl (by decide) rfl (fun ls hl => ?_)
        refine lv_aload_n hx hb dX8_strikesBuoy_80 rfl (lv_at hl 2 rfl) ?_
        refine lv_iload_n hx hb dX8_strikesBuoy_81 rfl (lv_at hl 3 rfl) ?_
        refine lv_iconst (v := 3) hx hb dX8_strikesBuoy_82 (by decide) ?_
        replace h := bnd h; obtain ⟨q20, e21, h⟩ := h
        refine rdV C hE hP (kX8_of l D T a_m a_ms a_mw a_mv a_mp a_mf a_ml a_mt a_mc m_chg q14.2.1 q14.2.2.1 q14.2.2.2.1 q14.2.2.2.2 m_err m_ans m_sav m_net m_lin m_tap m_her m_cmd v_ms l1 3 q20 e21) mX8_of qLX8_90 [0, 1] 0 rfl rfl rfl rfl ⟨rfl, rfl⟩ ⟨Nat.le_of_ble_eq_true rfl, Nat.le_of_ble_eq_true rfl⟩ rfl hl.1 rfl (Nat.le_of_ble_eq_true rfl) dX8_strikesBuoy_83 ⟨Nat.le_of_ble_eq_true rfl, Nat.le_of_ble_eq_true rfl⟩ ?_
        refine lv_istore (lv' := [(6, .int q20), (5, .int (fX8_apart q17 (v_ms (2 : Int32).toNatClampNeg))), (4, .int q17), (0, .ref a_m), (1, .int l1), (2, .int l2), (3, .int l3)]) hx hb dX8_strikesBuoy_86 hl (by decide) rfl (fun ls hl => ?_)
        refine lv_aload_n hx hb dX8_strikesBuoy_88 rfl (lv_at hl 3 rfl) ?_
        refine lv_aload_n hx hb dX8_strikesBuoy_89 rfl (lv_at hl 3 rfl) ?_
        refine lv_iload hx hb dX8_strikesBuoy_90 (lv_at hl 2 rfl) ?_
        replace h := bnd h; obtain ⟨q22, e23, h⟩ := h
        refine rdV C hE hP (kX8_isDryNow l D T a_m a_ms a_mw a_mv a_mp a_mf a_ml a_mt a_mc m_chg q14.2.1 q14.2.2.1 q14.2.2.2.1 q14.2.2.2.2 m_err m_ans m_sav m_net m_lin m_tap m_her m_cmd v_ms q17 q22 e23) mX8_isDryNow qLX8_84 [0, 1] 0 rfl rfl rfl rfl ⟨rfl, rfl⟩ ⟨Nat.le_of_ble_eq_true rfl, Nat.le_of_ble_eq_true rfl⟩ rfl hl.1 rfl (Nat.le_of_ble_eq_true rfl) dX8_strikesBuoy_92 ⟨Nat.le_of_ble_eq_true rfl, Nat.le_of_ble_eq_true rfl⟩ ?_
        refine lv_iconst (v := 4) hx hb dX8_strikesBuoy_95 (by decide) ?_
        refine lv_iload hx hb dX8_strikesBuoy_96 (lv_at hl 2 rfl) ?_
        replace h := bnd h; obtain ⟨q24, e25, h⟩ := h
        refine wrVi (ws1 := [(a_m, .inr (8, [.ref a_ms, .ref a_mw, .ref a_mv, .ref a_mp, .ref a_mf, .int m_chg, .int q24.2.1, .int q24.2.2.1, .int q24.2.2.2.1, .int q24.2.2.2.2, .int m_err, .int m_ans, .int m_sav, .int m_net, .ref a_ml, .int m_lin, .ref a_mt, .ref a_mc, .int m_tap, .int m_her, .int m_cmd])), (a_ms, .inl (T 0, 103, .inl v_ms))]) C hE hP hD hS hA (kX8_isRefused l D T a_m a_ms a_mw a_mv a_mp a_mf a_ml a_mt a_mc m_chg q14.2.1 q14.2.2.1 q14.2.2.2.1 q14.2.2.2.2 m_err m_ans m_sav m_net m_lin m_tap m_her m_cmd q22 4 q17 _ q24 e25) mX8_isRefused qLX8_99 [0] [1] 0 rfl rfl rfl rfl rfl rfl rfl rfl rfl ⟨rfl, rfl⟩ ⟨Nat.le_of_ble_eq_true rfl, Nat.le_of_ble_eq_true rfl⟩ rfl hl.1 rfl (Nat.le_of_ble_eq_true rfl) dX8_strikesBuoy_98 ⟨Nat.le_of_ble_eq_true rfl, Nat.le_of_ble_eq_true rfl⟩ ?_; clear hP hD hS; intro H locs hP hD hS
        refine lv_if_ne (tgt := 178) hx hb dX8_strikesBuoy_101 (by decide) (fun c26 => ?_) (fun c26 => ?_)
        · replace h := ite_f c26 h
          refine lv_iconst (v := 0) hx hb dX8_strikesBuoy_178 (by decide) ?_
          replace h := Option.some.inj h
          exact hret _ _ _ _ _ _ dX8_strikesBuoy_179 rfl (by rw [← h] <;> rfl) (by rw [← h]; exact hP) hS
        · replace h := ite_t c26 h
          refine lv_aload_n hx hb dX8_strikesBuoy_104 rfl (lv_at hl 3 rfl) ?_
          refine lv_iload hx hb dX8_strikesBuoy_105 (lv_at hl 1 rfl) ?_
          refine lv_iconst (v := 1) hx hb dX8_strikesBuoy_107 (by decide) ?_
          refine lv_icmp_le (tgt := 115) hx hb dX8_strikesBuoy_108 (by decide) (fun c27 => ?_) (fun c27 => ?_)
          · rw [if_pos c27] at h
            refine lv_iconst (v := 0) hx hb dX8_strikesBuoy_115 (by decide) ?_
            exact lX8_strikesBuoy_116 C hE hA hret 0 l1 l2 l3 (fX8_apart q17 (v_ms (2 : Int32).toNatClampNeg)) q20 q24.2.1 q24.2.2.1 q24.2.2.2.1 q24.2.2.2.2 m_net v_ms ⟨hP, hD⟩ hS _ (lv_sub hl [3, 4, 5, 6, 1, 0] rfl) h
          · rw [if_neg c27] at h
            refine lv_iconst (v := 1) hx hb dX8_strikesBuoy_111 (by decide) ?_
            refine lv_goto (tgt := 116) hx hb dX8_strikesBuoy_112 (by decide) ?_
            exact lX8_strikesBuoy_116 C hE hA hret 1 l1 l2 l3 (fX8_apart q17 (v_ms (2 : Int32).toNatClampNeg)) q20 q24.2.1 q24.2.2.1 q24.2.2.2.1 q24.2.2.2.2 m_net v_ms ⟨hP, hD⟩ hS _ (lv_sub hl [3, 4, 5, 6, 1, 0] rfl) h
      · replace h := ite_f c16 h
        refine lv_iconst (v := 0) hx hb dX8_strikesBuoy_57 (by decide) ?_
        replace h := Option.some.inj h
        exact hret _ _ _ _ _ _ dX8_strikesBuoy_58 rfl (by rw [← h] <;> rfl) (by rw [← h]; exact hP) hS
set_option maxHeartbeats 4000000 in
set_option maxRecDepth 100000 in
theorem lX8_strikesBuoy_14 {p : Program} {l : Launch} {e : Env} {s : State} {m : MethodId} {args : Array Value} {below : List Frame} {meth : Method} {c : Code} {Q : State → Prop} {D : va_G} {T : Nat → ClassId} {a_m a_ms a_mw a_mv a_mp a_mf a_ml a_mt a_mc : Nat} {m_chg : Int32} {m_err : Int32} {m_ans : Int32} {m_sav : Int32} {m_lin : Int32} {m_tap : Int32} {m_her : Int32} {m_cmd : Int32} {A : Nat → Prop} {r : Int32 × Int32 × Int32 × Int32 × Int32 × Int32 × (Nat → Int32)} (C : CallFix p m c cX8_strikesBuoy 11 s args aw RX8) (hE : eK D T s) (hA : ∀ q : Nat, s.heap.size ≤ q → A q) (hret : WrRet p l e ({ frames := 5, cells := 0, slots := 0, locals := 111 } : Room) s m args below meth c Q cX8_strikesBuoy .int D A [(a_m, .inr (8, [.ref a_ms, .ref a_mw, .ref a_mv, .ref a_mp, .ref a_mf, .int m_chg, .int r.2.1, .int r.2.2.1, .int r.2.2.2.1, .int r.2.2.2.2.1, .int m_err, .int m_ans, .int m_sav, .int r.2.2.2.2.2.1, .ref a_ml, .int m_lin, .ref a_mt, .ref a_mc, .int m_tap, .int m_her, .int m_cmd])), (a_ms, .inl (T 0, 103, .inl r.2.2.2.2.2.2))] r.1) (x1 : Int32) (l1 : Int32) (l2 : Int32) (l3 : Int32) (m_thr : Int32) (m_rea : Int32) (m_det : Int32) (m_ref : Int32) (m_net : Int32) (v_ms : Nat → Int32) {H : Heap} {locs : List Loc} (hPD : va_PD D A [(a_m, .inr (8, [.ref a_ms, .ref a_mw, .ref a_mv, .ref a_mp, .ref a_mf, .int m_chg, .int m_thr, .int m_rea, .int m_det, .int m_ref, .int m_err, .int m_ans, .int m_sav, .int m_net, .ref a_ml, .int m_lin, .ref a_mt, .ref a_mc, .int m_tap, .int m_her, .int m_cmd])), (a_ms, .inl (T 0, 103, .inl v_ms))] H) (hS : va_S A s.heap H locs) (ls : Array Slot) (hl : lv_has ls 11 [(0, .ref a_m), (1, .int l1), (2, .int l2), (3, .int l3)]) (h : fX8_strikesBuoy_14 x1 l1 l2 l3 m_thr m_rea m_det m_ref m_net v_ms = some r) : W p l e ({ frames := 5, cells := 0, slots := 0, locals := 111 } : Room) s m args below meth c H locs 0 0 Q (F0 m 14 ls [.int x1, .ref a_m]) := by
  have hx := C.1
  have hb := C.2.1
  obtain ⟨hP, hD⟩ := hPD
  unfold fX8_strikesBuoy_14 at h
  refine lv_iconst (v := 1) hx hb dX8_strikesBuoy_14 (by decide) ?_
  replace h := bnd h; obtain ⟨q4, e5, h⟩ := h
  refine wrVi (ws1 := [(a_m, .inr (8, [.ref a_ms, .ref a_mw, .ref a_mv, .ref a_mp, .ref a_mf, .int m_chg, .int q4.2, .int m_rea, .int m_det, .int m_ref, .int m_err, .int m_ans, .int m_sav, .int m_net, .ref a_ml, .int m_lin, .ref a_mt, .ref a_mc, .int m_tap, .int m_her, .int m_cmd])), (a_ms, .inl (T 0, 103, .inl v_ms))]) C hE hP hD hS hA (kX8_isThrown l D T a_m a_ms a_mw a_mv a_mp a_mf a_ml a_mt a_mc m_chg m_thr m_rea m_det m_ref m_err m_ans m_sav m_net m_lin m_tap m_her m_cmd x1 1 _ q4 e5) mX8_isThrown qLX8_80 [0] [1] 0 rfl rfl rfl rfl rfl rfl rfl rfl rfl ⟨rfl, rfl⟩ ⟨Nat.le_of_ble_eq_true rfl, Nat.le_of_ble_eq_true rfl⟩ rfl hl.1 rfl (Nat.le_of_ble_eq_true rfl) dX8_strikesBuoy_15 ⟨Nat.le_of_ble_eq_true rfl, Nat.le_of_ble_eq_true rfl⟩ ?_; clear hP hD hS; intro H locs hP hD hS
  refine lv_if_ne (tgt := 57) hx hb dX8_strikesBuoy_18 (by decide) (fun c6 => ?_) (fun c6 => ?_)
  · replace h := ite_f c6 h
    refine lv_iconst (v := 0) hx hb dX8_strikesBuoy_57 (by decide) ?_
    replace h := Option.some.inj h
    exact hret _ _ _ _ _ _ dX8_strikesBuoy_58 rfl (by rw [← h] <;> rfl) (by rw [← h]; exact hP) hS
  · replace h := ite_t c6 h
    refine lv_aload_n hx hb dX8_strikesBuoy_21 rfl (lv_at hl 0 rfl) ?_
    refine lv_iload_n hx hb dX8_strikesBuoy_22 rfl (lv_at hl 2 rfl) ?_
    refine lv_iload_n hx hb dX8_strikesBuoy_23 rfl (lv_at hl 3 rfl) ?_
    refine rdS C hE hP (kX8_isStrike l D T l2 l3) mX8_isStrike qLX8_165 [] rfl ⟨rfl, rfl⟩ ⟨Nat.le_of_ble_eq_true rfl, Nat.le_of_ble_eq_true rfl⟩ rfl hl.1 rfl (Nat.le_of_ble_eq_true rfl) dX8_strikesBuoy_24 ⟨Nat.le_of_ble_eq_true rfl, Nat.le_of_ble_eq_true rfl⟩ ?_
    refine lv_if_ne (tgt := 34) hx hb dX8_strikesBuoy_27 (by decide) (fun c7 => ?_) (fun c7 => ?_)
    · rw [if_neg c7] at h
      refine lv_iconst (v := 0) hx hb dX8_strikesBuoy_34 (by decide) ?_
      exact lX8_strikesBuoy_35 C hE hA hret 0 l1 l2 l3 q4.2 m_rea m_det m_ref m_net v_ms ⟨hP, hD⟩ hS _ (lv_sub hl [0, 1, 2, 3] rfl) h
    · rw [if_pos c7] at h
      refine lv_iconst (v := 1) hx hb dX8_strikesBuoy_30 (by decide) ?_
      refine lv_goto (tgt := 35) hx hb dX8_strikesBuoy_31 (by decide) ?_
      exact lX8_strikesBuoy_35 C hE hA hret 1 l1 l2 l3 q4.2 m_rea m_det m_ref m_net v_ms ⟨hP, hD⟩ hS _ (lv_sub hl [0, 1, 2, 3] rfl) h
set_option maxHeartbeats 4000000 in
set_option maxRecDepth 100000 in
theorem kX8_strikesBuoy (l : Launch) (D : va_G) (T : Nat → ClassId) (a_m a_ms a_mw a_mv a_mp a_mf a_ml a_mt a_mc : Nat) (m_chg : Int32) (m_thr : Int32) (m_rea : Int32) (m_det : Int32) (m_ref : Int32) (m_err : Int32) (m_ans : Int32) (m_sav : Int32) (m_net : Int32) (m_lin : Int32) (m_tap : Int32) (m_her : Int32) (m_cmd : Int32) (v_ms : Nat → Int32) (p0 : Int32) (p1 : Int32) (p2 : Int32) (sz : Nat) (r : Int32 × Int32 × Int32 × Int32 × Int32 × Int32 × (Nat → Int32)) (h : fX8_strikesBuoy m_thr m_rea m_det m_ref m_net v_ms p0 p1 p2 = some r) : WrI l yX8_strikesBuoy cX8_strikesBuoy 11 .int ({ frames := 5, cells := 0, slots := 0, locals := 111 } : Room) D T sz [(a_m, .inr (8, [.ref a_ms, .ref a_mw, .ref a_mv, .ref a_mp, .ref a_mf, .int m_chg, .int m_thr, .int m_rea, .int m_det, .int m_ref, .int m_err, .int m_ans, .int m_sav, .int m_net, .ref a_ml, .int m_lin, .ref a_mt, .ref a_mc, .int m_tap, .int m_her, .int m_cmd])), (a_ms, .inl (T 0, 103, .inl v_ms))] [(a_m, .inr (8, [.ref a_ms, .ref a_mw, .ref a_mv, .ref a_mp, .ref a_mf, .int m_chg, .int r.2.1, .int r.2.2.1, .int r.2.2.2.1, .int r.2.2.2.2.1, .int m_err, .int m_ans, .int m_sav, .int r.2.2.2.2.2.1, .ref a_ml, .int m_lin, .ref a_mt, .ref a_mc, .int m_tap, .int m_her, .int m_cmd])), (a_ms, .inl (T 0, 103, .inl r.2.2.2.2.2.2))] [.ref a_m, .int p0, .int p1, .int p2] r.1 := by
  unfold fX8_strikesBuoy at h
  refine wrMet (by decide +kernel) rfl (fun p e s m args below meth c Q A C hE hA hP hD hS hret ls hl => ?_)
  have hx := C.1
  have hb := C.2.1
  have hl : lv_has ls 11 [(0, .ref a_m), (1, .int p0), (2, .int p1), (3, .int p2)] := hl
  refine lv_aload_n hx hb dX8_strikesBuoy_0 rfl (lv_at hl 0 rfl) ?_
  refine lv_aload_n hx hb dX8_strikesBuoy_1 rfl (lv_at hl 0 rfl) ?_
  refine lv_iload_n hx hb dX8_strikesBuoy_2 rfl (lv_at hl 1 rfl) ?_
  replace h := bnd h; obtain ⟨q1, e2, h⟩ := h
  refine rdV C hE hP (kX8_isWhale l D T a_m a_ms a_mw a_mv a_mp a_mf a_ml a_mt a_mc m_chg m_thr m_rea m_det m_ref m_err m_ans m_sav m_net m_lin m_tap m_her m_cmd v_ms p0 q1 e2) mX8_isWhale qLX8_120 [0, 1] 0 rfl rfl rfl rfl ⟨rfl, rfl⟩ ⟨Nat.le_of_ble_eq_true rfl, Nat.le_of_ble_eq_true rfl⟩ rfl hl.1 rfl (Nat.le_of_ble_eq_true rfl) dX8_strikesBuoy_3 ⟨Nat.le_of_ble_eq_true rfl, Nat.le_of_ble_eq_true rfl⟩ ?_
  refine lv_if_ne (tgt := 13) hx hb dX8_strikesBuoy_6 (by decide) (fun c3 => ?_) (fun c3 => ?_)
  · rw [if_neg c3] at h
    refine lv_iconst (v := 0) hx hb dX8_strikesBuoy_13 (by decide) ?_
    exact lX8_strikesBuoy_14 C hE hA hret 0 p0 p1 p2 m_thr m_rea m_det m_ref m_net v_ms ⟨hP, hD⟩ hS _ (lv_sub hl [0, 1, 2, 3] rfl) h
  · rw [if_pos c3] at h
    refine lv_iconst (v := 1) hx hb dX8_strikesBuoy_9 (by decide) ?_
    refine lv_goto (tgt := 14) hx hb dX8_strikesBuoy_10 (by decide) ?_
    exact lX8_strikesBuoy_14 C hE hA hret 1 p0 p1 p2 m_thr m_rea m_det m_ref m_net v_ms ⟨hP, hD⟩ hS _ (lv_sub hl [0, 1, 2, 3] rfl) h

def fX8_strike (m_chg : Int32) (m_thr : Int32) (m_rea : Int32) (m_det : Int32) (m_ref : Int32) (m_net : Int32) (v_ms : Nat → Int32) (v_mw : Nat → Int32) (v_mp : Nat → Int32) (p0 : Int32) (p1 : Int32) (p2 : Int32) : Option (Int32 × Int32 × Int32 × Int32 × Int32 × Int32 × Int32 × (Nat → Int32) × (Nat → Int32) × (Nat → Int32)) :=
  (fX8_keeps m_thr v_ms v_mw).bind fun q1 =>
  (fX8_strikesBuoy q1.1 m_rea m_det m_ref m_net v_ms p0 p1 p2).bind fun q3 =>
  (fX8_ends m_chg q3.2.1 q1.2 v_mp q3.1 3).bind fun q5 =>
  some (q5.1, q5.2.1, q5.2.2.1, q3.2.2.1, q3.2.2.2.1, q3.2.2.2.2.1, q3.2.2.2.2.2.1, q3.2.2.2.2.2.2, q1.2, q5.2.2.2)
set_option maxHeartbeats 4000000 in
set_option maxRecDepth 100000 in
theorem kX8_strike (l : Launch) (D : va_G) (T : Nat → ClassId) (a_m a_ms a_mw a_mv a_mp a_mf a_ml a_mt a_mc : Nat) (m_chg : Int32) (m_thr : Int32) (m_rea : Int32) (m_det : Int32) (m_ref : Int32) (m_err : Int32) (m_ans : Int32) (m_sav : Int32) (m_net : Int32) (m_lin : Int32) (m_tap : Int32) (m_her : Int32) (m_cmd : Int32) (v_ms : Nat → Int32) (v_mw : Nat → Int32) (v_mp : Nat → Int32) (p0 : Int32) (p1 : Int32) (p2 : Int32) (sz : Nat) (r : Int32 × Int32 × Int32 × Int32 × Int32 × Int32 × Int32 × (Nat → Int32) × (Nat → Int32) × (Nat → Int32)) (h : fX8_strike m_chg m_thr m_rea m_det m_ref m_net v_ms v_mw v_mp p0 p1 p2 = some r) : WrI l yX8_strike cX8_strike 4 .int ({ frames := 6, cells := 0, slots := 0, locals := 141 } : Room) D T sz [(a_m, .inr (8, [.ref a_ms, .ref a_mw, .ref a_mv, .ref a_mp, .ref a_mf, .int m_chg, .int m_thr, .int m_rea, .int m_det, .int m_ref, .int m_err, .int m_ans, .int m_sav, .int m_net, .ref a_ml, .int m_lin, .ref a_mt, .ref a_mc, .int m_tap, .int m_her, .int m_cmd])), (a_ms, .inl (T 0, 103, .inl v_ms)), (a_mw, .inl (T 0, 103, .inl v_mw)), (a_mp, .inl (T 0, 618, .inl v_mp))] [(a_m, .inr (8, [.ref a_ms, .ref a_mw, .ref a_mv, .ref a_mp, .ref a_mf, .int r.2.1, .int r.2.2.1, .int r.2.2.2.1, .int r.2.2.2.2.1, .int r.2.2.2.2.2.1, .int m_err, .int m_ans, .int m_sav, .int r.2.2.2.2.2.2.1, .ref a_ml, .int m_lin, .ref a_mt, .ref a_mc, .int m_tap, .int m_her, .int m_cmd])), (a_ms, .inl (T 0, 103, .inl r.2.2.2.2.2.2.2.1)), (a_mw, .inl (T 0, 103, .inl r.2.2.2.2.2.2.2.2.1)), (a_mp, .inl (T 0, 618, .inl r.2.2.2.2.2.2.2.2.2))] [.ref a_m, .int p0, .int p1, .int p2] r.1 := by
  unfold fX8_strike at h
  refine wrMet (by decide +kernel) rfl (fun p e s m args below meth c Q A C hE hA hP hD hS hret ls hl => ?_)
  have hx := C.1
  have hb := C.2.1
  have hl : lv_has ls 4 [(0, .ref a_m), (1, .int p0), (2, .int p1), (3, .int p2)] := hl
  refine lv_aload_n hx hb dX8_strike_0 rfl (lv_at hl 0 rfl) ?_
  replace h := bnd h; obtain ⟨q1, e2, h⟩ := h
  refine wrVv (ws1 := [(a_m, .inr (8, [.ref a_ms, .ref a_mw, .ref a_mv, .ref a_mp, .ref a_mf, .int m_chg, .int q1.1, .int m_rea, .int m_det, .int m_ref, .int m_err, .int m_ans, .int m_sav, .int m_net, .ref a_ml, .int m_lin, .ref a_mt, .ref a_mc, .int m_tap, .int m_her, .int m_cmd])), (a_ms, .inl (T 0, 103, .inl v_ms)), (a_mw, .inl (T 0, 103, .inl q1.2)), (a_mp, .inl (T 0, 618, .inl v_mp))]) C hE hP hD hS hA (kX8_keeps l D T a_m a_ms a_mw a_mv a_mp a_mf a_ml a_mt a_mc m_chg m_thr m_rea m_det m_ref m_err m_ans m_sav m_net m_lin m_tap m_her m_cmd v_ms v_mw _ q1 e2) mX8_keeps qLX8_107 [0, 1, 2] [3] 0 rfl rfl rfl rfl rfl rfl rfl rfl rfl ⟨rfl, rfl⟩ ⟨Nat.le_of_ble_eq_true rfl, Nat.le_of_ble_eq_true rfl⟩ rfl hl.1 rfl (Nat.le_of_ble_eq_true rfl) dX8_strike_1 ⟨Nat.le_of_ble_eq_true rfl, Nat.le_of_ble_eq_true rfl⟩ ?_; clear hP hD hS; intro H locs hP hD hS
  refine lv_aload_n hx hb dX8_strike_4 rfl (lv_at hl 0 rfl) ?_
  refine lv_aload_n hx hb dX8_strike_5 rfl (lv_at hl 0 rfl) ?_
  refine lv_iload_n hx hb dX8_strike_6 rfl (lv_at hl 1 rfl) ?_
  refine lv_iload_n hx hb dX8_strike_7 rfl (lv_at hl 2 rfl) ?_
  refine lv_iload_n hx hb dX8_strike_8 rfl (lv_at hl 3 rfl) ?_
  replace h := bnd h; obtain ⟨q3, e4, h⟩ := h
  refine wrVi (ws1 := [(a_m, .inr (8, [.ref a_ms, .ref a_mw, .ref a_mv, .ref a_mp, .ref a_mf, .int m_chg, .int q3.2.1, .int q3.2.2.1, .int q3.2.2.2.1, .int q3.2.2.2.2.1, .int m_err, .int m_ans, .int m_sav, .int q3.2.2.2.2.2.1, .ref a_ml, .int m_lin, .ref a_mt, .ref a_mc, .int m_tap, .int m_her, .int m_cmd])), (a_ms, .inl (T 0, 103, .inl q3.2.2.2.2.2.2)), (a_mw, .inl (T 0, 103, .inl q1.2)), (a_mp, .inl (T 0, 618, .inl v_mp))]) C hE hP hD hS hA (kX8_strikesBuoy l D T a_m a_ms a_mw a_mv a_mp a_mf a_ml a_mt a_mc m_chg q1.1 m_rea m_det m_ref m_err m_ans m_sav m_net m_lin m_tap m_her m_cmd v_ms p0 p1 p2 _ q3 e4) mX8_strikesBuoy qLX8_168 [0, 1] [2, 3] 0 rfl rfl rfl rfl rfl rfl rfl rfl rfl ⟨rfl, rfl⟩ ⟨Nat.le_of_ble_eq_true rfl, Nat.le_of_ble_eq_true rfl⟩ rfl hl.1 rfl (Nat.le_of_ble_eq_true rfl) dX8_strike_9 ⟨Nat.le_of_ble_eq_true rfl, Nat.le_of_ble_eq_true rfl⟩ ?_; clear hP hD hS; intro H locs hP hD hS
  refine lv_iconst (v := 3) hx hb dX8_strike_12 (by decide) ?_
  replace h := bnd h; obtain ⟨q5, e6, h⟩ := h
  refine wrVi (ws1 := [(a_m, .inr (8, [.ref a_ms, .ref a_mw, .ref a_mv, .ref a_mp, .ref a_mf, .int q5.2.1, .int q5.2.2.1, .int q3.2.2.1, .int q3.2.2.2.1, .int q3.2.2.2.2.1, .int m_err, .int m_ans, .int m_sav, .int q3.2.2.2.2.2.1, .ref a_ml, .int m_lin, .ref a_mt, .ref a_mc, .int m_tap, .int m_her, .int m_cmd])), (a_ms, .inl (T 0, 103, .inl q3.2.2.2.2.2.2)), (a_mw, .inl (T 0, 103, .inl q1.2)), (a_mp, .inl (T 0, 618, .inl q5.2.2.2))]) C hE hP hD hS hA (kX8_ends l D T a_m a_ms a_mw a_mv a_mp a_mf a_ml a_mt a_mc m_chg q3.2.1 q3.2.2.1 q3.2.2.2.1 q3.2.2.2.2.1 m_err m_ans m_sav q3.2.2.2.2.2.1 m_lin m_tap m_her m_cmd q1.2 v_mp q3.1 3 _ q5 e6) mX8_ends qLX8_114 [0, 2, 3] [1] 0 rfl rfl rfl rfl rfl rfl rfl rfl rfl ⟨rfl, rfl⟩ ⟨Nat.le_of_ble_eq_true rfl, Nat.le_of_ble_eq_true rfl⟩ rfl hl.1 rfl (Nat.le_of_ble_eq_true rfl) dX8_strike_13 ⟨Nat.le_of_ble_eq_true rfl, Nat.le_of_ble_eq_true rfl⟩ ?_; clear hP hD hS; intro H locs hP hD hS
  replace h := Option.some.inj h
  exact hret _ _ _ _ _ _ dX8_strike_16 rfl (by rw [← h] <;> rfl) (by rw [← h]; exact hP) hS

def fX8_would_35 (v_ms : Nat → Int32) (x1 : Int32) (l1 : Int32) (l2 : Int32) (l3 : Int32) (m_thr : Int32) (m_net : Int32) : Option (Int32 × Int32 × Int32) :=
  (fX8_isThrown m_thr x1 2).bind fun q8 =>
  if q8.1 = 0 then
    (fX8_wouldCome m_net v_ms l1 l2 l3).bind fun q11 =>
    some (q11.1, q8.2, q11.2)
  else
    some (0, q8.2, m_net)
def fX8_would_14 (v_ms : Nat → Int32) (x1 : Int32) (l1 : Int32) (l2 : Int32) (l3 : Int32) (m_thr : Int32) (m_net : Int32) : Option (Int32 × Int32 × Int32) :=
  (fX8_isThrown m_thr x1 1).bind fun q4 =>
  if q4.1 = 0 then
    fX8_would_35 v_ms (if (fX8_isStrike l2 l3) = 0 then 1 else 0) l1 l2 l3 q4.2 m_net
  else
    some (0, q4.2, m_net)
def fX8_would (m_thr : Int32) (m_net : Int32) (v_ms : Nat → Int32) (p0 : Int32) (p1 : Int32) (p2 : Int32) : Option (Int32 × Int32 × Int32) :=
  (fX8_isWhale v_ms p0).bind fun q1 =>
  fX8_would_14 v_ms (if q1 = 0 then 1 else 0) p0 p1 p2 m_thr m_net
set_option maxHeartbeats 4000000 in
set_option maxRecDepth 100000 in
theorem lX8_would_35 {p : Program} {l : Launch} {e : Env} {s : State} {m : MethodId} {args : Array Value} {below : List Frame} {meth : Method} {c : Code} {Q : State → Prop} {D : va_G} {T : Nat → ClassId} {a_m a_ms a_mw a_mv a_mp a_mf a_ml a_mt a_mc : Nat} {m_chg : Int32} {m_rea : Int32} {m_det : Int32} {m_ref : Int32} {m_err : Int32} {m_ans : Int32} {m_sav : Int32} {m_lin : Int32} {m_tap : Int32} {m_her : Int32} {m_cmd : Int32} {v_ms : Nat → Int32} {A : Nat → Prop} {r : Int32 × Int32 × Int32} (C : CallFix p m c cX8_would 4 s args aw RX8) (hE : eK D T s) (hA : ∀ q : Nat, s.heap.size ≤ q → A q) (hret : WrRet p l e ({ frames := 6, cells := 0, slots := 0, locals := 135 } : Room) s m args below meth c Q cX8_would .int D A [(a_m, .inr (8, [.ref a_ms, .ref a_mw, .ref a_mv, .ref a_mp, .ref a_mf, .int m_chg, .int r.2.1, .int m_rea, .int m_det, .int m_ref, .int m_err, .int m_ans, .int m_sav, .int r.2.2, .ref a_ml, .int m_lin, .ref a_mt, .ref a_mc, .int m_tap, .int m_her, .int m_cmd])), (a_ms, .inl (T 0, 103, .inl v_ms))] r.1) (x1 : Int32) (l1 : Int32) (l2 : Int32) (l3 : Int32) (m_thr : Int32) (m_net : Int32) {H : Heap} {locs : List Loc} (hPD : va_PD D A [(a_m, .inr (8, [.ref a_ms, .ref a_mw, .ref a_mv, .ref a_mp, .ref a_mf, .int m_chg, .int m_thr, .int m_rea, .int m_det, .int m_ref, .int m_err, .int m_ans, .int m_sav, .int m_net, .ref a_ml, .int m_lin, .ref a_mt, .ref a_mc, .int m_tap, .int m_her, .int m_cmd])), (a_ms, .inl (T 0, 103, .inl v_ms))] H) (hS : va_S A s.heap H locs) (ls : Array Slot) (hl : lv_has ls 4 [(0, .ref a_m), (1, .int l1), (2, .int l2), (3, .int l3)]) (h : fX8_would_35 v_ms x1 l1 l2 l3 m_thr m_net = some r) : W p l e ({ frames := 6, cells := 0, slots := 0, locals := 135 } : Room) s m args below meth c H locs 0 0 Q (F0 m 35 ls [.int x1, .ref a_m]) := by
  have hx := C.1
  have hb := C.2.1
  obtain ⟨hP, hD⟩ := hPD
  unfold fX8_would_35 at h
  refine lv_iconst (v := 2) hx hb dX8_would_35 (by decide) ?_
  replace h := bnd h; obtain ⟨q8, e9, h⟩ := h
  refine wrVi (ws1 := [(a_m, .inr (8, [.ref a_ms, .ref a_mw, .ref a_mv, .ref a_mp, .ref a_mf, .int m_chg, .int q8.2, .int m_rea, .int m_det, .int m_ref, .int m_err, .int m_ans, .int m_sav, .int m_net, .ref a_ml, .int m_lin, .ref a_mt, .ref a_mc, .int m_tap, .int m_her, .int m_cmd])), (a_ms, .inl (T 0, 103, .inl v_ms))]) C hE hP hD hS hA (kX8_isThrown l D T a_m a_ms a_mw a_mv a_mp a_mf a_ml a_mt a_mc m_chg m_thr m_rea m_det m_ref m_err m_ans m_sav m_net m_lin m_tap m_her m_cmd x1 2 _ q8 e9) mX8_isThrown qLX8_80 [0] [1] 0 rfl rfl rfl rfl rfl rfl rfl rfl rfl ⟨rfl, rfl⟩ ⟨Nat.le_of_ble_eq_true rfl, Nat.le_of_ble_eq_true rfl⟩ rfl hl.1 rfl (Nat.le_of_ble_eq_true rfl) dX8_would_36 ⟨Nat.le_of_ble_eq_true rfl, Nat.le_of_ble_eq_true rfl⟩ ?_; clear hP hD hS; intro H locs hP hD hS
  refine lv_if_eq (tgt := 46) hx hb dX8_would_39 (by decide) (fun c10 => ?_) (fun c10 => ?_)
  · replace h := ite_t c10 h
    refine lv_aload_n hx hb dX8_would_46 rfl (lv_at hl 0 rfl) ?_
    refine lv_iload_n hx hb dX8_would_47 rfl (lv_at hl 1 rfl) ?_
    refine lv_iload_n hx hb dX8_would_48 rfl (lv_at hl 2 rfl) ?_
    refine lv_iload_n hx hb dX8_would_49 rfl (lv_at hl 3 rfl) ?_
    replace h := bnd h; obtain ⟨q11, e12, h⟩ := h
    refine wrVi (ws1 := [(a_m, .inr (8, [.ref a_ms, .ref a_mw, .ref a_mv, .ref a_mp, .ref a_mf, .int m_chg, .int q8.2, .int m_rea, .int m_det, .int m_ref, .int m_err, .int m_ans, .int m_sav, .int q11.2, .ref a_ml, .int m_lin, .ref a_mt, .ref a_mc, .int m_tap, .int m_her, .int m_cmd])), (a_ms, .inl (T 0, 103, .inl v_ms))]) C hE hP hD hS hA (kX8_wouldCome l D T a_m a_ms a_mw a_mv a_mp a_mf a_ml a_mt a_mc m_chg q8.2 m_rea m_det m_ref m_err m_ans m_sav m_net m_lin m_tap m_her m_cmd v_ms l1 l2 l3 _ q11 e12) mX8_wouldCome qLX8_171 [0, 1] [] 0 rfl rfl rfl rfl rfl rfl rfl rfl rfl ⟨rfl, rfl⟩ ⟨Nat.le_of_ble_eq_true rfl, Nat.le_of_ble_eq_true rfl⟩ rfl hl.1 rfl (Nat.le_of_ble_eq_true rfl) dX8_would_50 ⟨Nat.le_of_ble_eq_true rfl, Nat.le_of_ble_eq_true rfl⟩ ?_; clear hP hD hS; intro H locs hP hD hS
    replace h := Option.some.inj h
    exact hret _ _ _ _ _ _ dX8_would_53 rfl (by rw [← h] <;> rfl) (by rw [← h]; exact hP) hS
  · replace h := ite_f c10 h
    refine lv_iconst (v := 0) hx hb dX8_would_42 (by decide) ?_
    refine lv_goto (tgt := 53) hx hb dX8_would_43 (by decide) ?_
    replace h := Option.some.inj h
    exact hret _ _ _ _ _ _ dX8_would_53 rfl (by rw [← h] <;> rfl) (by rw [← h]; exact hP) hS
set_option maxHeartbeats 4000000 in
set_option maxRecDepth 100000 in
theorem lX8_would_14 {p : Program} {l : Launch} {e : Env} {s : State} {m : MethodId} {args : Array Value} {below : List Frame} {meth : Method} {c : Code} {Q : State → Prop} {D : va_G} {T : Nat → ClassId} {a_m a_ms a_mw a_mv a_mp a_mf a_ml a_mt a_mc : Nat} {m_chg : Int32} {m_rea : Int32} {m_det : Int32} {m_ref : Int32} {m_err : Int32} {m_ans : Int32} {m_sav : Int32} {m_lin : Int32} {m_tap : Int32} {m_her : Int32} {m_cmd : Int32} {v_ms : Nat → Int32} {A : Nat → Prop} {r : Int32 × Int32 × Int32} (C : CallFix p m c cX8_would 4 s args aw RX8) (hE : eK D T s) (hA : ∀ q : Nat, s.heap.size ≤ q → A q) (hret : WrRet p l e ({ frames := 6, cells := 0, slots := 0, locals := 135 } : Room) s m args below meth c Q cX8_would .int D A [(a_m, .inr (8, [.ref a_ms, .ref a_mw, .ref a_mv, .ref a_mp, .ref a_mf, .int m_chg, .int r.2.1, .int m_rea, .int m_det, .int m_ref, .int m_err, .int m_ans, .int m_sav, .int r.2.2, .ref a_ml, .int m_lin, .ref a_mt, .ref a_mc, .int m_tap, .int m_her, .int m_cmd])), (a_ms, .inl (T 0, 103, .inl v_ms))] r.1) (x1 : Int32) (l1 : Int32) (l2 : Int32) (l3 : Int32) (m_thr : Int32) (m_net : Int32) {H : Heap} {locs : List Loc} (hPD : va_PD D A [(a_m, .inr (8, [.ref a_ms, .ref a_mw, .ref a_mv, .ref a_mp, .ref a_mf, .int m_chg, .int m_thr, .int m_rea, .int m_det, .int m_ref, .int m_err, .int m_ans, .int m_sav, .int m_net, .ref a_ml, .int m_lin, .ref a_mt, .ref a_mc, .int m_tap, .int m_her, .int m_cmd])), (a_ms, .inl (T 0, 103, .inl v_ms))] H) (hS : va_S A s.heap H locs) (ls : Array Slot) (hl : lv_has ls 4 [(0, .ref a_m), (1, .int l1), (2, .int l2), (3, .int l3)]) (h : fX8_would_14 v_ms x1 l1 l2 l3 m_thr m_net = some r) : W p l e ({ frames := 6, cells := 0, slots := 0, locals := 135 } : Room) s m args below meth c H locs 0 0 Q (F0 m 14 ls [.int x1, .ref a_m]) := by
  have hx := C.1
  have hb := C.2.1
  obtain ⟨hP, hD⟩ := hPD
  unfold fX8_would_14 at h
  refine lv_iconst (v := 1) hx hb dX8_would_14 (by decide) ?_
  replace h := bnd h; obtain ⟨q4, e5, h⟩ := h
  refine wrVi (ws1 := [(a_m, .inr (8, [.ref a_ms, .ref a_mw, .ref a_mv, .ref a_mp, .ref a_mf, .int m_chg, .int q4.2, .int m_rea, .int m_det, .int m_ref, .int m_err, .int m_ans, .int m_sav, .int m_net, .ref a_ml, .int m_lin, .ref a_mt, .ref a_mc, .int m_tap, .int m_her, .int m_cmd])), (a_ms, .inl (T 0, 103, .inl v_ms))]) C hE hP hD hS hA (kX8_isThrown l D T a_m a_ms a_mw a_mv a_mp a_mf a_ml a_mt a_mc m_chg m_thr m_rea m_det m_ref m_err m_ans m_sav m_net m_lin m_tap m_her m_cmd x1 1 _ q4 e5) mX8_isThrown qLX8_80 [0] [1] 0 rfl rfl rfl rfl rfl rfl rfl rfl rfl ⟨rfl, rfl⟩ ⟨Nat.le_of_ble_eq_true rfl, Nat.le_of_ble_eq_true rfl⟩ rfl hl.1 rfl (Nat.le_of_ble_eq_true rfl) dX8_would_15 ⟨Nat.le_of_ble_eq_true rfl, Nat.le_of_ble_eq_true rfl⟩ ?_; clear hP hD hS; intro H locs hP hD hS
  refine lv_if_ne (tgt := 42) hx hb dX8_would_18 (by decide) (fun c6 => ?_) (fun c6 => ?_)
  · replace h := ite_f c6 h
    refine lv_iconst (v := 0) hx hb dX8_would_42 (by decide) ?_
    refine lv_goto (tgt := 53) hx hb dX8_would_43 (by decide) ?_
    replace h := Option.some.inj h
    exact hret _ _ _ _ _ _ dX8_would_53 rfl (by rw [← h] <;> rfl) (by rw [← h]; exact hP) hS
  · replace h := ite_t c6 h
    refine lv_aload_n hx hb dX8_would_21 rfl (lv_at hl 0 rfl) ?_
    refine lv_iload_n hx hb dX8_would_22 rfl (lv_at hl 2 rfl) ?_
    refine lv_iload_n hx hb dX8_would_23 rfl (lv_at hl 3 rfl) ?_
    refine rdS C hE hP (kX8_isStrike l D T l2 l3) mX8_isStrike qLX8_165 [] rfl ⟨rfl, rfl⟩ ⟨Nat.le_of_ble_eq_true rfl, Nat.le_of_ble_eq_true rfl⟩ rfl hl.1 rfl (Nat.le_of_ble_eq_true rfl) dX8_would_24 ⟨Nat.le_of_ble_eq_true rfl, Nat.le_of_ble_eq_true rfl⟩ ?_
    refine lv_if_ne (tgt := 34) hx hb dX8_would_27 (by decide) (fun c7 => ?_) (fun c7 => ?_)
    · rw [if_neg c7] at h
      refine lv_iconst (v := 0) hx hb dX8_would_34 (by decide) ?_
      exact lX8_would_35 C hE hA hret 0 l1 l2 l3 q4.2 m_net ⟨hP, hD⟩ hS _ (lv_sub hl [0, 1, 2, 3] rfl) h
    · rw [if_pos c7] at h
      refine lv_iconst (v := 1) hx hb dX8_would_30 (by decide) ?_
      refine lv_goto (tgt := 35) hx hb dX8_would_31 (by decide) ?_
      exact lX8_would_35 C hE hA hret 1 l1 l2 l3 q4.2 m_net ⟨hP, hD⟩ hS _ (lv_sub hl [0, 1, 2, 3] rfl) h
set_option maxHeartbeats 4000000 in
set_option maxRecDepth 100000 in
theorem kX8_would (l : Launch) (D : va_G) (T : Nat → ClassId) (a_m a_ms a_mw a_mv a_mp a_mf a_ml a_mt a_mc : Nat) (m_chg : Int32) (m_thr : Int32) (m_rea : Int32) (m_det : Int32) (m_ref : Int32) (m_err : Int32) (m_ans : Int32) (m_sav : Int32) (m_net : Int32) (m_lin : Int32) (m_tap : Int32) (m_her : Int32) (m_cmd : Int32) (v_ms : Nat → Int32) (p0 : Int32) (p1 : Int32) (p2 : Int32) (sz : Nat) (r : Int32 × Int32 × Int32) (h : fX8_would m_thr m_net v_ms p0 p1 p2 = some r) : WrI l yX8_would cX8_would 4 .int ({ frames := 6, cells := 0, slots := 0, locals := 135 } : Room) D T sz [(a_m, .inr (8, [.ref a_ms, .ref a_mw, .ref a_mv, .ref a_mp, .ref a_mf, .int m_chg, .int m_thr, .int m_rea, .int m_det, .int m_ref, .int m_err, .int m_ans, .int m_sav, .int m_net, .ref a_ml, .int m_lin, .ref a_mt, .ref a_mc, .int m_tap, .int m_her, .int m_cmd])), (a_ms, .inl (T 0, 103, .inl v_ms))] [(a_m, .inr (8, [.ref a_ms, .ref a_mw, .ref a_mv, .ref a_mp, .ref a_mf, .int m_chg, .int r.2.1, .int m_rea, .int m_det, .int m_ref, .int m_err, .int m_ans, .int m_sav, .int r.2.2, .ref a_ml, .int m_lin, .ref a_mt, .ref a_mc, .int m_tap, .int m_her, .int m_cmd])), (a_ms, .inl (T 0, 103, .inl v_ms))] [.ref a_m, .int p0, .int p1, .int p2] r.1 := by
  unfold fX8_would at h
  refine wrMet (by decide +kernel) rfl (fun p e s m args below meth c Q A C hE hA hP hD hS hret ls hl => ?_)
  have hx := C.1
  have hb := C.2.1
  have hl : lv_has ls 4 [(0, .ref a_m), (1, .int p0), (2, .int p1), (3, .int p2)] := hl
  refine lv_aload_n hx hb dX8_would_0 rfl (lv_at hl 0 rfl) ?_
  refine lv_aload_n hx hb dX8_would_1 rfl (lv_at hl 0 rfl) ?_
  refine lv_iload_n hx hb dX8_would_2 rfl (lv_at hl 1 rfl) ?_
  replace h := bnd h; obtain ⟨q1, e2, h⟩ := h
  refine rdV C hE hP (kX8_isWhale l D T a_m a_ms a_mw a_mv a_mp a_mf a_ml a_mt a_mc m_chg m_thr m_rea m_det m_ref m_err m_ans m_sav m_net m_lin m_tap m_her m_cmd v_ms p0 q1 e2) mX8_isWhale qLX8_120 [0, 1] 0 rfl rfl rfl rfl ⟨rfl, rfl⟩ ⟨Nat.le_of_ble_eq_true rfl, Nat.le_of_ble_eq_true rfl⟩ rfl hl.1 rfl (Nat.le_of_ble_eq_true rfl) dX8_would_3 ⟨Nat.le_of_ble_eq_true rfl, Nat.le_of_ble_eq_true rfl⟩ ?_
  refine lv_if_ne (tgt := 13) hx hb dX8_would_6 (by decide) (fun c3 => ?_) (fun c3 => ?_)
  · rw [if_neg c3] at h
    refine lv_iconst (v := 0) hx hb dX8_would_13 (by decide) ?_
    exact lX8_would_14 C hE hA hret 0 p0 p1 p2 m_thr m_net ⟨hP, hD⟩ hS _ (lv_sub hl [0, 1, 2, 3] rfl) h
  · rw [if_pos c3] at h
    refine lv_iconst (v := 1) hx hb dX8_would_9 (by decide) ?_
    refine lv_goto (tgt := 14) hx hb dX8_would_10 (by decide) ?_
    exact lX8_would_14 C hE hA hret 1 p0 p1 p2 m_thr m_net ⟨hP, hD⟩ hS _ (lv_sub hl [0, 1, 2, 3] rfl) h

def fX8_wouldAgain (m_thr : Int32) (m_net : Int32) (v_ms : Nat → Int32) (p0 : Int32) (p1 : Int32) (p2 : Int32) : Option (Int32 × Int32 × Int32) :=
  (fX8_would m_thr m_net v_ms p0 p1 p2).bind fun q1 =>
  some (q1.1, q1.2.1, q1.2.2)
set_option maxHeartbeats 4000000 in
set_option maxRecDepth 100000 in
theorem kX8_wouldAgain (l : Launch) (D : va_G) (T : Nat → ClassId) (a_m a_ms a_mw a_mv a_mp a_mf a_ml a_mt a_mc : Nat) (m_chg : Int32) (m_thr : Int32) (m_rea : Int32) (m_det : Int32) (m_ref : Int32) (m_err : Int32) (m_ans : Int32) (m_sav : Int32) (m_net : Int32) (m_lin : Int32) (m_tap : Int32) (m_her : Int32) (m_cmd : Int32) (v_ms : Nat → Int32) (p0 : Int32) (p1 : Int32) (p2 : Int32) (sz : Nat) (r : Int32 × Int32 × Int32) (h : fX8_wouldAgain m_thr m_net v_ms p0 p1 p2 = some r) : WrI l yX8_wouldAgain cX8_wouldAgain 4 .int ({ frames := 7, cells := 0, slots := 0, locals := 158 } : Room) D T sz [(a_m, .inr (8, [.ref a_ms, .ref a_mw, .ref a_mv, .ref a_mp, .ref a_mf, .int m_chg, .int m_thr, .int m_rea, .int m_det, .int m_ref, .int m_err, .int m_ans, .int m_sav, .int m_net, .ref a_ml, .int m_lin, .ref a_mt, .ref a_mc, .int m_tap, .int m_her, .int m_cmd])), (a_ms, .inl (T 0, 103, .inl v_ms))] [(a_m, .inr (8, [.ref a_ms, .ref a_mw, .ref a_mv, .ref a_mp, .ref a_mf, .int m_chg, .int r.2.1, .int m_rea, .int m_det, .int m_ref, .int m_err, .int m_ans, .int m_sav, .int r.2.2, .ref a_ml, .int m_lin, .ref a_mt, .ref a_mc, .int m_tap, .int m_her, .int m_cmd])), (a_ms, .inl (T 0, 103, .inl v_ms))] [.ref a_m, .int p0, .int p1, .int p2] r.1 := by
  unfold fX8_wouldAgain at h
  refine wrMet (by decide +kernel) rfl (fun p e s m args below meth c Q A C hE hA hP hD hS hret ls hl => ?_)
  have hx := C.1
  have hb := C.2.1
  have hl : lv_has ls 4 [(0, .ref a_m), (1, .int p0), (2, .int p1), (3, .int p2)] := hl
  refine lv_aload_n hx hb dX8_wouldAgain_0 rfl (lv_at hl 0 rfl) ?_
  refine lv_iload_n hx hb dX8_wouldAgain_1 rfl (lv_at hl 1 rfl) ?_
  refine lv_iload_n hx hb dX8_wouldAgain_2 rfl (lv_at hl 2 rfl) ?_
  refine lv_iload_n hx hb dX8_wouldAgain_3 rfl (lv_at hl 3 rfl) ?_
  replace h := bnd h; obtain ⟨q1, e2, h⟩ := h
  refine wrVi (ws1 := [(a_m, .inr (8, [.ref a_ms, .ref a_mw, .ref a_mv, .ref a_mp, .ref a_mf, .int m_chg, .int q1.2.1, .int m_rea, .int m_det, .int m_ref, .int m_err, .int m_ans, .int m_sav, .int q1.2.2, .ref a_ml, .int m_lin, .ref a_mt, .ref a_mc, .int m_tap, .int m_her, .int m_cmd])), (a_ms, .inl (T 0, 103, .inl v_ms))]) C hE hP hD hS hA (kX8_would l D T a_m a_ms a_mw a_mv a_mp a_mf a_ml a_mt a_mc m_chg m_thr m_rea m_det m_ref m_err m_ans m_sav m_net m_lin m_tap m_her m_cmd v_ms p0 p1 p2 _ q1 e2) mX8_would qLX8_174 [0, 1] [] 0 rfl rfl rfl rfl rfl rfl rfl rfl rfl ⟨rfl, rfl⟩ ⟨Nat.le_of_ble_eq_true rfl, Nat.le_of_ble_eq_true rfl⟩ rfl hl.1 rfl (Nat.le_of_ble_eq_true rfl) dX8_wouldAgain_4 ⟨Nat.le_of_ble_eq_true rfl, Nat.le_of_ble_eq_true rfl⟩ ?_; clear hP hD hS; intro H locs hP hD hS
  replace h := Option.some.inj h
  exact hret _ _ _ _ _ _ dX8_wouldAgain_7 rfl (by rw [← h] <;> rfl) (by rw [← h]; exact hP) hS

def fX8_wouldFoul_14 (v_ms : Nat → Int32) (x1 : Int32) (l1 : Int32) (m_thr : Int32) : Option (Int32 × Int32) :=
  (fX8_isThrown m_thr x1 1).bind fun q4 =>
  if q4.1 = 0 then
    (fX8_isFoul v_ms l1).bind fun q7 =>
    if q7 = 0 then
      some (0, q4.2)
    else
      some (1, q4.2)
  else
    some (0, q4.2)
def fX8_wouldFoul (m_thr : Int32) (v_ms : Nat → Int32) (p0 : Int32) : Option (Int32 × Int32) :=
  (fX8_isWhale v_ms p0).bind fun q1 =>
  fX8_wouldFoul_14 v_ms (if q1 = 0 then 1 else 0) p0 m_thr
set_option maxHeartbeats 4000000 in
set_option maxRecDepth 100000 in
theorem lX8_wouldFoul_14 {p : Program} {l : Launch} {e : Env} {s : State} {m : MethodId} {args : Array Value} {below : List Frame} {meth : Method} {c : Code} {Q : State → Prop} {D : va_G} {T : Nat → ClassId} {a_m a_ms a_mw a_mv a_mp a_mf a_ml a_mt a_mc : Nat} {m_chg : Int32} {m_rea : Int32} {m_det : Int32} {m_ref : Int32} {m_err : Int32} {m_ans : Int32} {m_sav : Int32} {m_net : Int32} {m_lin : Int32} {m_tap : Int32} {m_her : Int32} {m_cmd : Int32} {v_ms : Nat → Int32} {A : Nat → Prop} {r : Int32 × Int32} (C : CallFix p m c cX8_wouldFoul 2 s args aw RX8) (hE : eK D T s) (hA : ∀ q : Nat, s.heap.size ≤ q → A q) (hret : WrRet p l e ({ frames := 3, cells := 0, slots := 0, locals := 66 } : Room) s m args below meth c Q cX8_wouldFoul .boolean D A [(a_m, .inr (8, [.ref a_ms, .ref a_mw, .ref a_mv, .ref a_mp, .ref a_mf, .int m_chg, .int r.2, .int m_rea, .int m_det, .int m_ref, .int m_err, .int m_ans, .int m_sav, .int m_net, .ref a_ml, .int m_lin, .ref a_mt, .ref a_mc, .int m_tap, .int m_her, .int m_cmd])), (a_ms, .inl (T 0, 103, .inl v_ms))] r.1) (x1 : Int32) (l1 : Int32) (m_thr : Int32) {H : Heap} {locs : List Loc} (hPD : va_PD D A [(a_m, .inr (8, [.ref a_ms, .ref a_mw, .ref a_mv, .ref a_mp, .ref a_mf, .int m_chg, .int m_thr, .int m_rea, .int m_det, .int m_ref, .int m_err, .int m_ans, .int m_sav, .int m_net, .ref a_ml, .int m_lin, .ref a_mt, .ref a_mc, .int m_tap, .int m_her, .int m_cmd])), (a_ms, .inl (T 0, 103, .inl v_ms))] H) (hS : va_S A s.heap H locs) (ls : Array Slot) (hl : lv_has ls 2 [(0, .ref a_m), (1, .int l1)]) (h : fX8_wouldFoul_14 v_ms x1 l1 m_thr = some r) : W p l e ({ frames := 3, cells := 0, slots := 0, locals := 66 } : Room) s m args below meth c H locs 0 0 Q (F0 m 14 ls [.int x1, .ref a_m]) := by
  have hx := C.1
  have hb := C.2.1
  obtain ⟨hP, hD⟩ := hPD
  unfold fX8_wouldFoul_14 at h
  refine lv_iconst (v := 1) hx hb dX8_wouldFoul_14 (by decide) ?_
  replace h := bnd h; obtain ⟨q4, e5, h⟩ := h
  refine wrVi (ws1 := [(a_m, .inr (8, [.ref a_ms, .ref a_mw, .ref a_mv, .ref a_mp, .ref a_mf, .int m_chg, .int q4.2, .int m_rea, .int m_det, .int m_ref, .int m_err, .int m_ans, .int m_sav, .int m_net, .ref a_ml, .int m_lin, .ref a_mt, .ref a_mc, .int m_tap, .int m_her, .int m_cmd])), (a_ms, .inl (T 0, 103, .inl v_ms))]) C hE hP hD hS hA (kX8_isThrown l D T a_m a_ms a_mw a_mv a_mp a_mf a_ml a_mt a_mc m_chg m_thr m_rea m_det m_ref m_err m_ans m_sav m_net m_lin m_tap m_her m_cmd x1 1 _ q4 e5) mX8_isThrown qLX8_80 [0] [1] 0 rfl rfl rfl rfl rfl rfl rfl rfl rfl ⟨rfl, rfl⟩ ⟨Nat.le_of_ble_eq_true rfl, Nat.le_of_ble_eq_true rfl⟩ rfl hl.1 rfl (Nat.le_of_ble_eq_true rfl) dX8_wouldFoul_15 ⟨Nat.le_of_ble_eq_true rfl, Nat.le_of_ble_eq_true rfl⟩ ?_; clear hP hD hS; intro H locs hP hD hS
  refine lv_if_ne (tgt := 33) hx hb dX8_wouldFoul_18 (by decide) (fun c6 => ?_) (fun c6 => ?_)
  · replace h := ite_f c6 h
    refine lv_iconst (v := 0) hx hb dX8_wouldFoul_33 (by decide) ?_
    replace h := Option.some.inj h
    exact hret _ _ _ _ _ _ dX8_wouldFoul_34 rfl (by rw [← h] <;> rfl) (by rw [← h]; exact hP) hS
  · replace h := ite_t c6 h
    refine lv_aload_n hx hb dX8_wouldFoul_21 rfl (lv_at hl 0 rfl) ?_
    refine lv_iload_n hx hb dX8_wouldFoul_22 rfl (lv_at hl 1 rfl) ?_
    replace h := bnd h; obtain ⟨q7, e8, h⟩ := h
    refine rdV C hE hP (kX8_isFoul l D T a_m a_ms a_mw a_mv a_mp a_mf a_ml a_mt a_mc m_chg q4.2 m_rea m_det m_ref m_err m_ans m_sav m_net m_lin m_tap m_her m_cmd v_ms l1 q7 e8) mX8_isFoul qLX8_162 [0, 1] 0 rfl rfl rfl rfl ⟨rfl, rfl⟩ ⟨Nat.le_of_ble_eq_true rfl, Nat.le_of_ble_eq_true rfl⟩ rfl hl.1 rfl (Nat.le_of_ble_eq_true rfl) dX8_wouldFoul_23 ⟨Nat.le_of_ble_eq_true rfl, Nat.le_of_ble_eq_true rfl⟩ ?_
    refine lv_if_eq (tgt := 33) hx hb dX8_wouldFoul_26 (by decide) (fun c9 => ?_) (fun c9 => ?_)
    · replace h := ite_t c9 h
      refine lv_iconst (v := 0) hx hb dX8_wouldFoul_33 (by decide) ?_
      replace h := Option.some.inj h
      exact hret _ _ _ _ _ _ dX8_wouldFoul_34 rfl (by rw [← h] <;> rfl) (by rw [← h]; exact hP) hS
    · replace h := ite_f c9 h
      refine lv_iconst (v := 1) hx hb dX8_wouldFoul_29 (by decide) ?_
      refine lv_goto (tgt := 34) hx hb dX8_wouldFoul_30 (by decide) ?_
      replace h := Option.some.inj h
      exact hret _ _ _ _ _ _ dX8_wouldFoul_34 rfl (by rw [← h] <;> rfl) (by rw [← h]; exact hP) hS
set_option maxHeartbeats 4000000 in
set_option maxRecDepth 100000 in
theorem kX8_wouldFoul (l : Launch) (D : va_G) (T : Nat → ClassId) (a_m a_ms a_mw a_mv a_mp a_mf a_ml a_mt a_mc : Nat) (m_chg : Int32) (m_thr : Int32) (m_rea : Int32) (m_det : Int32) (m_ref : Int32) (m_err : Int32) (m_ans : Int32) (m_sav : Int32) (m_net : Int32) (m_lin : Int32) (m_tap : Int32) (m_her : Int32) (m_cmd : Int32) (v_ms : Nat → Int32) (p0 : Int32) (sz : Nat) (r : Int32 × Int32) (h : fX8_wouldFoul m_thr v_ms p0 = some r) : WrI l yX8_wouldFoul cX8_wouldFoul 2 .boolean ({ frames := 3, cells := 0, slots := 0, locals := 66 } : Room) D T sz [(a_m, .inr (8, [.ref a_ms, .ref a_mw, .ref a_mv, .ref a_mp, .ref a_mf, .int m_chg, .int m_thr, .int m_rea, .int m_det, .int m_ref, .int m_err, .int m_ans, .int m_sav, .int m_net, .ref a_ml, .int m_lin, .ref a_mt, .ref a_mc, .int m_tap, .int m_her, .int m_cmd])), (a_ms, .inl (T 0, 103, .inl v_ms))] [(a_m, .inr (8, [.ref a_ms, .ref a_mw, .ref a_mv, .ref a_mp, .ref a_mf, .int m_chg, .int r.2, .int m_rea, .int m_det, .int m_ref, .int m_err, .int m_ans, .int m_sav, .int m_net, .ref a_ml, .int m_lin, .ref a_mt, .ref a_mc, .int m_tap, .int m_her, .int m_cmd])), (a_ms, .inl (T 0, 103, .inl v_ms))] [.ref a_m, .int p0] r.1 := by
  unfold fX8_wouldFoul at h
  refine wrMet (by decide +kernel) rfl (fun p e s m args below meth c Q A C hE hA hP hD hS hret ls hl => ?_)
  have hx := C.1
  have hb := C.2.1
  have hl : lv_has ls 2 [(0, .ref a_m), (1, .int p0)] := hl
  refine lv_aload_n hx hb dX8_wouldFoul_0 rfl (lv_at hl 0 rfl) ?_
  refine lv_aload_n hx hb dX8_wouldFoul_1 rfl (lv_at hl 0 rfl) ?_
  refine lv_iload_n hx hb dX8_wouldFoul_2 rfl (lv_at hl 1 rfl) ?_
  replace h := bnd h; obtain ⟨q1, e2, h⟩ := h
  refine rdV C hE hP (kX8_isWhale l D T a_m a_ms a_mw a_mv a_mp a_mf a_ml a_mt a_mc m_chg m_thr m_rea m_det m_ref m_err m_ans m_sav m_net m_lin m_tap m_her m_cmd v_ms p0 q1 e2) mX8_isWhale qLX8_120 [0, 1] 0 rfl rfl rfl rfl ⟨rfl, rfl⟩ ⟨Nat.le_of_ble_eq_true rfl, Nat.le_of_ble_eq_true rfl⟩ rfl hl.1 rfl (Nat.le_of_ble_eq_true rfl) dX8_wouldFoul_3 ⟨Nat.le_of_ble_eq_true rfl, Nat.le_of_ble_eq_true rfl⟩ ?_
  refine lv_if_ne (tgt := 13) hx hb dX8_wouldFoul_6 (by decide) (fun c3 => ?_) (fun c3 => ?_)
  · rw [if_neg c3] at h
    refine lv_iconst (v := 0) hx hb dX8_wouldFoul_13 (by decide) ?_
    exact lX8_wouldFoul_14 C hE hA hret 0 p0 m_thr ⟨hP, hD⟩ hS _ (lv_sub hl [0, 1] rfl) h
  · rw [if_pos c3] at h
    refine lv_iconst (v := 1) hx hb dX8_wouldFoul_9 (by decide) ?_
    refine lv_goto (tgt := 14) hx hb dX8_wouldFoul_10 (by decide) ?_
    exact lX8_wouldFoul_14 C hE hA hret 1 p0 m_thr ⟨hP, hD⟩ hS _ (lv_sub hl [0, 1] rfl) h

def fX8_fromEnd (p0 : Int32) (p1 : Int32) : Int32 :=
  if p1 < 45 then
    if p0 = 0 then
      (8 - (p1 - p1 / 9 * 9))
    else
      (p1 - p1 / 9 * 9)
  else
    if p1 = (45 + p0) then
      (-1)
    else
      99
set_option maxHeartbeats 4000000 in
set_option maxRecDepth 100000 in
theorem kX8_fromEnd (l : Launch) (D : va_G) (T : Nat → ClassId) (p0 : Int32) (p1 : Int32) : RdI l yX8_fromEnd cX8_fromEnd 2 .int ({ frames := 0, cells := 0, slots := 0, locals := 0 } : Room) D T [] [.int p0, .int p1] (fX8_fromEnd p0 p1) := by
  obtain ⟨r, h⟩ : ∃ r, fX8_fromEnd p0 p1 = r := ⟨_, rfl⟩
  rw [h]
  unfold fX8_fromEnd at h
  refine rdMet (by decide +kernel) rfl (fun p e s m args below meth c Q C hE hP hret ls hl => ?_)
  have hx := C.1
  have hb := C.2.1
  have hl : lv_has ls 2 [(0, .int p0), (1, .int p1)] := hl
  refine lv_iload_n hx hb dX8_fromEnd_0 rfl (lv_at hl 1 rfl) ?_
  refine lv_bipush (v := 45) hx hb dX8_fromEnd_1 (by decide) ?_
  refine lv_icmp_lt (tgt := 21) hx hb dX8_fromEnd_3 (by decide) (fun c1 => ?_) (fun c1 => ?_)
  · replace h := ite_t c1 h
    refine lv_iload_n hx hb dX8_fromEnd_21 rfl (lv_at hl 0 rfl) ?_
    refine lv_if_ne (tgt := 35) hx hb dX8_fromEnd_22 (by decide) (fun c2 => ?_) (fun c2 => ?_)
    · replace h := ite_f c2 h
      refine lv_iload_n hx hb dX8_fromEnd_35 rfl (lv_at hl 1 rfl) ?_
      refine lv_bipush (v := 9) hx hb dX8_fromEnd_36 (by decide) ?_
      refine lv_irem hx hb dX8_fromEnd_38 (by decide) ?_
      exact hret _ _ _ _ dX8_fromEnd_39 rfl h
    · replace h := ite_t c2 h
      refine lv_bipush (v := 8) hx hb dX8_fromEnd_25 (by decide) ?_
      refine lv_iload_n hx hb dX8_fromEnd_27 rfl (lv_at hl 1 rfl) ?_
      refine lv_bipush (v := 9) hx hb dX8_fromEnd_28 (by decide) ?_
      refine lv_irem hx hb dX8_fromEnd_30 (by decide) ?_
      refine lv_isub hx hb dX8_fromEnd_31 ?_
      refine lv_goto (tgt := 39) hx hb dX8_fromEnd_32 (by decide) ?_
      exact hret _ _ _ _ dX8_fromEnd_39 rfl h
  · replace h := ite_f c1 h
    refine lv_iload_n hx hb dX8_fromEnd_6 rfl (lv_at hl 1 rfl) ?_
    refine lv_bipush (v := 45) hx hb dX8_fromEnd_7 (by decide) ?_
    refine lv_iload_n hx hb dX8_fromEnd_9 rfl (lv_at hl 0 rfl) ?_
    refine lv_iadd hx hb dX8_fromEnd_10 ?_
    refine lv_icmp_ne (tgt := 18) hx hb dX8_fromEnd_11 (by decide) (fun c3 => ?_) (fun c3 => ?_)
    · replace h := ite_f c3 h
      refine lv_bipush (v := 99) hx hb dX8_fromEnd_18 (by decide) ?_
      exact hret _ _ _ _ dX8_fromEnd_20 rfl h
    · replace h := ite_t c3 h
      refine lv_iconst (v := (-1)) hx hb dX8_fromEnd_14 (by decide) ?_
      refine lv_goto (tgt := 20) hx hb dX8_fromEnd_15 (by decide) ?_
      exact hret _ _ _ _ dX8_fromEnd_20 rfl h

def fX8_canStrike (v_ms : Nat → Int32) (p0 : Int32) : Option Int32 :=
  if vin 1 103 = true then
  if 48 ≤ (v_ms (1 : Int32).toNatClampNeg) then
    some 0
  else
    (fX8_of v_ms p0 4).bind fun q3 =>
    if q3 < 0 then
      some 0
    else
      (fX8_isStrandedNow v_ms p0).bind fun q6 =>
      if q6 = 0 then
        (fX8_of v_ms p0 4).bind fun q9 =>
        if vin 2 103 = true then
        if 1 < (fX8_apart q9 (v_ms (2 : Int32).toNatClampNeg)) then
          some 0
        else
          (fX8_of v_ms p0 3).bind fun q13 =>
          if q13 ≤ 0 then
            some 0
          else
            some 1
        else none
      else
        some 0
  else none
set_option maxHeartbeats 4000000 in
set_option maxRecDepth 100000 in
theorem kX8_canStrike (l : Launch) (D : va_G) (T : Nat → ClassId) (a_m a_ms a_mw a_mv a_mp a_mf a_ml a_mt a_mc : Nat) (m_chg : Int32) (m_thr : Int32) (m_rea : Int32) (m_det : Int32) (m_ref : Int32) (m_err : Int32) (m_ans : Int32) (m_sav : Int32) (m_net : Int32) (m_lin : Int32) (m_tap : Int32) (m_her : Int32) (m_cmd : Int32) (v_ms : Nat → Int32) (p0 : Int32) (r : Int32) (h : fX8_canStrike v_ms p0 = some r) : RdI l yX8_canStrike cX8_canStrike 2 .boolean ({ frames := 5, cells := 0, slots := 0, locals := 105 } : Room) D T [(a_m, .inr (8, [.ref a_ms, .ref a_mw, .ref a_mv, .ref a_mp, .ref a_mf, .int m_chg, .int m_thr, .int m_rea, .int m_det, .int m_ref, .int m_err, .int m_ans, .int m_sav, .int m_net, .ref a_ml, .int m_lin, .ref a_mt, .ref a_mc, .int m_tap, .int m_her, .int m_cmd])), (a_ms, .inl (T 0, 103, .inl v_ms))] [.ref a_m, .int p0] r := by
  unfold fX8_canStrike at h
  refine rdMet (by decide +kernel) rfl (fun p e s m args below meth c Q C hE hP hret ls hl => ?_)
  have hx := C.1
  have hb := C.2.1
  have hl : lv_has ls 2 [(0, .ref a_m), (1, .int p0)] := hl
  refine lv_aload_n hx hb dX8_canStrike_0 rfl (lv_at hl 0 rfl) ?_
  refine getF (q0 := 0) (k0 := 0) (v := .ref a_ms) C hE hP inA8 rfl rfl (by decide) qFX8_9 rfl rfl dX8_canStrike_1 ?_
  refine lv_iconst (v := 1) hx hb dX8_canStrike_4 (by decide) ?_
  replace h := gd h; obtain ⟨g1, h⟩ := h
  refine aldI (q0 := 1) C hE hP rfl g1 dX8_canStrike_5 ?_
  refine lv_bipush (v := 48) hx hb dX8_canStrike_6 (by decide) ?_
  refine lv_icmp_ge (tgt := 60) hx hb dX8_canStrike_8 (by decide) (fun c2 => ?_) (fun c2 => ?_)
  · replace h := ite_t c2 h
    refine lv_iconst (v := 0) hx hb dX8_canStrike_60 (by decide) ?_
    exact hret _ _ _ _ dX8_canStrike_61 rfl (Option.some.inj h)
  · replace h := ite_f c2 h
    refine lv_aload_n hx hb dX8_canStrike_11 rfl (lv_at hl 0 rfl) ?_
    refine lv_iload_n hx hb dX8_canStrike_12 rfl (lv_at hl 1 rfl) ?_
    refine lv_iconst (v := 4) hx hb dX8_canStrike_13 (by decide) ?_
    replace h := bnd h; obtain ⟨q3, e4, h⟩ := h
    refine rdV C hE hP (kX8_of l D T a_m a_ms a_mw a_mv a_mp a_mf a_ml a_mt a_mc m_chg m_thr m_rea m_det m_ref m_err m_ans m_sav m_net m_lin m_tap m_her m_cmd v_ms p0 4 q3 e4) mX8_of qLX8_90 [0, 1] 0 rfl rfl rfl rfl ⟨rfl, rfl⟩ ⟨Nat.le_of_ble_eq_true rfl, Nat.le_of_ble_eq_true rfl⟩ rfl hl.1 rfl (Nat.le_of_ble_eq_true rfl) dX8_canStrike_14 ⟨Nat.le_of_ble_eq_true rfl, Nat.le_of_ble_eq_true rfl⟩ ?_
    refine lv_if_lt (tgt := 60) hx hb dX8_canStrike_17 (by decide) (fun c5 => ?_) (fun c5 => ?_)
    · replace h := ite_t c5 h
      refine lv_iconst (v := 0) hx hb dX8_canStrike_60 (by decide) ?_
      exact hret _ _ _ _ dX8_canStrike_61 rfl (Option.some.inj h)
    · replace h := ite_f c5 h
      refine lv_aload_n hx hb dX8_canStrike_20 rfl (lv_at hl 0 rfl) ?_
      refine lv_iload_n hx hb dX8_canStrike_21 rfl (lv_at hl 1 rfl) ?_
      replace h := bnd h; obtain ⟨q6, e7, h⟩ := h
      refine rdV C hE hP (kX8_isStrandedNow l D T a_m a_ms a_mw a_mv a_mp a_mf a_ml a_mt a_mc m_chg m_thr m_rea m_det m_ref m_err m_ans m_sav m_net m_lin m_tap m_her m_cmd v_ms p0 q6 e7) mX8_isStrandedNow qLX8_146 [0, 1] 0 rfl rfl rfl rfl ⟨rfl, rfl⟩ ⟨Nat.le_of_ble_eq_true rfl, Nat.le_of_ble_eq_true rfl⟩ rfl hl.1 rfl (Nat.le_of_ble_eq_true rfl) dX8_canStrike_22 ⟨Nat.le_of_ble_eq_true rfl, Nat.le_of_ble_eq_true rfl⟩ ?_
      refine lv_if_ne (tgt := 60) hx hb dX8_canStrike_25 (by decide) (fun c8 => ?_) (fun c8 => ?_)
      · replace h := ite_f c8 h
        refine lv_iconst (v := 0) hx hb dX8_canStrike_60 (by decide) ?_
        exact hret _ _ _ _ dX8_canStrike_61 rfl (Option.some.inj h)
      · replace h := ite_t c8 h
        refine lv_aload_n hx hb dX8_canStrike_28 rfl (lv_at hl 0 rfl) ?_
        refine lv_iload_n hx hb dX8_canStrike_29 rfl (lv_at hl 1 rfl) ?_
        refine lv_iconst (v := 4) hx hb dX8_canStrike_30 (by decide) ?_
        replace h := bnd h; obtain ⟨q9, e10, h⟩ := h
        refine rdV C hE hP (kX8_of l D T a_m a_ms a_mw a_mv a_mp a_mf a_ml a_mt a_mc m_chg m_thr m_rea m_det m_ref m_err m_ans m_sav m_net m_lin m_tap m_her m_cmd v_ms p0 4 q9 e10) mX8_of qLX8_90 [0, 1] 0 rfl rfl rfl rfl ⟨rfl, rfl⟩ ⟨Nat.le_of_ble_eq_true rfl, Nat.le_of_ble_eq_true rfl⟩ rfl hl.1 rfl (Nat.le_of_ble_eq_true rfl) dX8_canStrike_31 ⟨Nat.le_of_ble_eq_true rfl, Nat.le_of_ble_eq_true rfl⟩ ?_
        refine lv_aload_n hx hb dX8_canStrike_34 rfl (lv_at hl 0 rfl) ?_
        refine getF (q0 := 0) (k0 := 0) (v := .ref a_ms) C hE hP inA8 rfl rfl (by decide) qFX8_9 rfl rfl dX8_canStrike_35 ?_
        refine lv_iconst (v := 2) hx hb dX8_canStrike_38 (by decide) ?_
        replace h := gd h; obtain ⟨g11, h⟩ := h
        refine aldI (q0 := 1) C hE hP rfl g11 dX8_canStrike_39 ?_
        refine rdS C hE hP (kX8_apart l D T q9 (v_ms (2 : Int32).toNatClampNeg)) mX8_apart qLX8_152 [] rfl ⟨rfl, rfl⟩ ⟨Nat.le_of_ble_eq_true rfl, Nat.le_of_ble_eq_true rfl⟩ rfl hl.1 rfl (Nat.le_of_ble_eq_true rfl) dX8_canStrike_40 ⟨Nat.le_of_ble_eq_true rfl, Nat.le_of_ble_eq_true rfl⟩ ?_
        refine lv_iconst (v := 1) hx hb dX8_canStrike_43 (by decide) ?_
        refine lv_icmp_gt (tgt := 60) hx hb dX8_canStrike_44 (by decide) (fun c12 => ?_) (fun c12 => ?_)
        · replace h := ite_t c12 h
          refine lv_iconst (v := 0) hx hb dX8_canStrike_60 (by decide) ?_
          exact hret _ _ _ _ dX8_canStrike_61 rfl (Option.some.inj h)
        · replace h := ite_f c12 h
          refine lv_aload_n hx hb dX8_canStrike_47 rfl (lv_at hl 0 rfl) ?_
          refine lv_iload_n hx hb dX8_canStrike_48 rfl (lv_at hl 1 rfl) ?_
          refine lv_iconst (v := 3) hx hb dX8_canStrike_49 (by decide) ?_
          replace h := bnd h; obtain ⟨q13, e14, h⟩ := h
          refine rdV C hE hP (kX8_of l D T a_m a_ms a_mw a_mv a_mp a_mf a_ml a_mt a_mc m_chg m_thr m_rea m_det m_ref m_err m_ans m_sav m_net m_lin m_tap m_her m_cmd v_ms p0 3 q13 e14) mX8_of qLX8_90 [0, 1] 0 rfl rfl rfl rfl ⟨rfl, rfl⟩ ⟨Nat.le_of_ble_eq_true rfl, Nat.le_of_ble_eq_true rfl⟩ rfl hl.1 rfl (Nat.le_of_ble_eq_true rfl) dX8_canStrike_50 ⟨Nat.le_of_ble_eq_true rfl, Nat.le_of_ble_eq_true rfl⟩ ?_
          refine lv_if_le (tgt := 60) hx hb dX8_canStrike_53 (by decide) (fun c15 => ?_) (fun c15 => ?_)
          · replace h := ite_t c15 h
            refine lv_iconst (v := 0) hx hb dX8_canStrike_60 (by decide) ?_
            exact hret _ _ _ _ dX8_canStrike_61 rfl (Option.some.inj h)
          · replace h := ite_f c15 h
            refine lv_iconst (v := 1) hx hb dX8_canStrike_56 (by decide) ?_
            refine lv_goto (tgt := 61) hx hb dX8_canStrike_57 (by decide) ?_
            exact hret _ _ _ _ dX8_canStrike_61 rfl (Option.some.inj h)

def fX8_best_110 (v_ms : Nat → Int32) (rec52 : Int32 → Int32 → Int32 → Int32 → Int32 → Int32 → Option (Int32 × Int32 × Int32)) (rec61 : Int32 → Int32 → Int32 → Int32 → Int32 → Int32 → Int32 → Option (Int32 × Int32 × Int32)) (x0 : Int32) (l1 : Int32) (l3 : Int32) (l4 : Int32) (l5 : Int32) (l6 : Int32) (m_thr : Int32) (m_net : Int32) : Option (Int32 × Int32 × Int32) :=
  rec61 l1 x0 (fX8_lesser l3 l6) l4 (l5 + 1) m_thr m_net
def fX8_best_61 (v_ms : Nat → Int32) (rec52 : Int32 → Int32 → Int32 → Int32 → Int32 → Int32 → Option (Int32 × Int32 × Int32)) : Nat → Int32 → Int32 → Int32 → Int32 → Int32 → Int32 → Int32 → Option (Int32 × Int32 × Int32)
  | 0, _, _, _, _, _, _, _ => none
  | k + 1, l1, l2, l3, l4, l5, m_thr, m_net =>
    (fX8_of v_ms l1 1).bind fun q15 =>
    if q15 < l5 then
      rec52 l1 l2 l3 (l4 + 1) m_thr m_net
    else
      (fX8_of v_ms l1 0).bind fun q18 =>
      (fX8_wouldCome m_net v_ms l1 l4 l5).bind fun q20 =>
      fX8_best_110 v_ms rec52 (fX8_best_61 v_ms rec52 k) (if l3 ≤ (fX8_fromEnd q18 q20.1) then l2 else ((10 * l4) + l5)) l1 l3 l4 l5 (fX8_fromEnd q18 q20.1) m_thr q20.2
def fX8_best_140 (v_ms : Nat → Int32) (x1 : Int32) (l2 : Int32) (m_thr : Int32) (m_net : Int32) : Option (Int32 × Int32 × Int32) :=
  (fX8_isThrown m_thr x1 2).bind fun q23 =>
  if q23.1 = 0 then
    some (l2, q23.2, m_net)
  else
    some (0, q23.2, m_net)
def fX8_best_52 (v_ms : Nat → Int32) : Nat → Int32 → Int32 → Int32 → Int32 → Int32 → Int32 → Option (Int32 × Int32 × Int32)
  | 0, _, _, _, _, _, _ => none
  | k + 1, l1, l2, l3, l4, m_thr, m_net =>
    if 4 ≤ l4 then
      fX8_best_140 v_ms (if 0 ≤ l2 then 0 else 1) l2 m_thr m_net
    else
      fX8_best_61 v_ms (fX8_best_52 v_ms k) 64 l1 l2 l3 l4 1 m_thr m_net
def fX8_best_35 (v_ms : Nat → Int32) (x1 : Int32) (l1 : Int32) (m_thr : Int32) (m_net : Int32) : Option (Int32 × Int32 × Int32) :=
  (fX8_isThrown m_thr x1 2).bind fun q10 =>
  if q10.1 = 0 then
    fX8_best_52 v_ms 64 l1 (-1) 99 0 q10.2 m_net
  else
    some (0, q10.2, m_net)
def fX8_best_14 (v_ms : Nat → Int32) (x1 : Int32) (l1 : Int32) (m_thr : Int32) (m_net : Int32) : Option (Int32 × Int32 × Int32) :=
  (fX8_isThrown m_thr x1 1).bind fun q4 =>
  if q4.1 = 0 then
    (fX8_canStrike v_ms l1).bind fun q7 =>
    fX8_best_35 v_ms (if q7 = 0 then 1 else 0) l1 q4.2 m_net
  else
    some (0, q4.2, m_net)
def fX8_best (m_thr : Int32) (m_net : Int32) (v_ms : Nat → Int32) (p0 : Int32) : Option (Int32 × Int32 × Int32) :=
  (fX8_isWhale v_ms p0).bind fun q1 =>
  fX8_best_14 v_ms (if q1 = 0 then 1 else 0) p0 m_thr m_net
set_option maxHeartbeats 4000000 in
set_option maxRecDepth 100000 in
theorem lX8_best_110 {p : Program} {l : Launch} {e : Env} {s : State} {m : MethodId} {args : Array Value} {below : List Frame} {meth : Method} {c : Code} {Q : State → Prop} {D : va_G} {T : Nat → ClassId} {a_m a_ms a_mw a_mv a_mp a_mf a_ml a_mt a_mc : Nat} {m_chg : Int32} {m_rea : Int32} {m_det : Int32} {m_ref : Int32} {m_err : Int32} {m_ans : Int32} {m_sav : Int32} {m_lin : Int32} {m_tap : Int32} {m_her : Int32} {m_cmd : Int32} {v_ms : Nat → Int32} {A : Nat → Prop} {r : Int32 × Int32 × Int32} (C : CallFix p m c cX8_best 7 s args aw RX8) (hE : eK D T s) (hA : ∀ q : Nat, s.heap.size ≤ q → A q) (hret : WrRet p l e ({ frames := 6, cells := 0, slots := 0, locals := 135 } : Room) s m args below meth c Q cX8_best .int D A [(a_m, .inr (8, [.ref a_ms, .ref a_mw, .ref a_mv, .ref a_mp, .ref a_mf, .int m_chg, .int r.2.1, .int m_rea, .int m_det, .int m_ref, .int m_err, .int m_ans, .int m_sav, .int r.2.2, .ref a_ml, .int m_lin, .ref a_mt, .ref a_mc, .int m_tap, .int m_her, .int m_cmd])), (a_ms, .inl (T 0, 103, .inl v_ms))] r.1) {rec52 : Int32 → Int32 → Int32 → Int32 → Int32 → Int32 → Option (Int32 × Int32 × Int32)} (hrec52 : ∀ (l1 : Int32) (l2 : Int32) (l3 : Int32) (l4 : Int32) (m_thr : Int32) (m_net : Int32) {H : Heap} {locs : List Loc} (hPD : va_PD D A [(a_m, .inr (8, [.ref a_ms, .ref a_mw, .ref a_mv, .ref a_mp, .ref a_mf, .int m_chg, .int m_thr, .int m_rea, .int m_det, .int m_ref, .int m_err, .int m_ans, .int m_sav, .int m_net, .ref a_ml, .int m_lin, .ref a_mt, .ref a_mc, .int m_tap, .int m_her, .int m_cmd])), (a_ms, .inl (T 0, 103, .inl v_ms))] H) (hS : va_S A s.heap H locs) (ls : Array Slot) (hl : lv_has ls 7 [(0, .ref a_m), (1, .int l1), (2, .int l2), (3, .int l3), (4, .int l4)]) (h : rec52 l1 l2 l3 l4 m_thr m_net = some r), W p l e ({ frames := 6, cells := 0, slots := 0, locals := 135 } : Room) s m args below meth c H locs 0 0 Q (F0 m 52 ls [])) {rec61 : Int32 → Int32 → Int32 → Int32 → Int32 → Int32 → Int32 → Option (Int32 × Int32 × Int32)} (hrec61 : ∀ (l1 : Int32) (l2 : Int32) (l3 : Int32) (l4 : Int32) (l5 : Int32) (m_thr : Int32) (m_net : Int32) {H : Heap} {locs : List Loc} (hPD : va_PD D A [(a_m, .inr (8, [.ref a_ms, .ref a_mw, .ref a_mv, .ref a_mp, .ref a_mf, .int m_chg, .int m_thr, .int m_rea, .int m_det, .int m_ref, .int m_err, .int m_ans, .int m_sav, .int m_net, .ref a_ml, .int m_lin, .ref a_mt, .ref a_mc, .int m_tap, .int m_her, .int m_cmd])), (a_ms, .inl (T 0, 103, .inl v_ms))] H) (hS : va_S A s.heap H locs) (ls : Array Slot) (hl : lv_has ls 7 [(0, .ref a_m), (1, .int l1), (2, .int l2), (3, .int l3), (4, .int l4), (5, .int l5)]) (h : rec61 l1 l2 l3 l4 l5 m_thr m_net = some r), W p l e ({ frames := 6, cells := 0, slots := 0, locals := 135 } : Room) s m args below meth c H locs 0 0 Q (F0 m 61 ls [])) (x0 : Int32) (l1 : Int32) (l3 : Int32) (l4 : Int32) (l5 : Int32) (l6 : Int32) (m_thr : Int32) (m_net : Int32) {H : Heap} {locs : List Loc} (hPD : va_PD D A [(a_m, .inr (8, [.ref a_ms, .ref a_mw, .ref a_mv, .ref a_mp, .ref a_mf, .int m_chg, .int m_thr, .int m_rea, .int m_det, .int m_ref, .int m_err, .int m_ans, .int m_sav, .int m_net, .ref a_ml, .int m_lin, .ref a_mt, .ref a_mc, .int m_tap, .int m_her, .int m_cmd])), (a_ms, .inl (T 0, 103, .inl v_ms))] H) (hS : va_S A s.heap H locs) (ls : Array Slot) (hl : lv_has ls 7 [(0, .ref a_m), (1, .int l1), (3, .int l3), (4, .int l4), (5, .int l5), (6, .int l6)]) (h : fX8_best_110 v_ms rec52 rec61 x0 l1 l3 l4 l5 l6 m_thr m_net = some r) : W p l e ({ frames := 6, cells := 0, slots := 0, locals := 135 } : Room) s m args below meth c H locs 0 0 Q (F0 m 110 ls [.int x0]) := by
  have hx := C.1
  have hb := C.2.1
  obtain ⟨hP, hD⟩ := hPD
  unfold fX8_best_110 at h
  refine lv_istore_n (lv' := [(2, .int x0), (0, .ref a_m), (1, .int l1), (3, .int l3), (4, .int l4), (5, .int l5), (6, .int l6)]) hx hb dX8_best_110 rfl hl (by decide) rfl (fun ls hl => ?_)
  refine lv_iload_n hx hb dX8_best_111 rfl (lv_at hl 3 rfl) ?_
  refine lv_iload hx hb dX8_best_112 (lv_at hl 6 rfl) ?_
  refine rdS C hE hP (kX8_lesser l D T l3 l6) mX8_lesser qLX8_117 [] rfl ⟨rfl, rfl⟩ ⟨Nat.le_of_ble_eq_true rfl, Nat.le_of_ble_eq_true rfl⟩ rfl hl.1 rfl (Nat.le_of_ble_eq_true rfl) dX8_best_114 ⟨Nat.le_of_ble_eq_true rfl, Nat.le_of_ble_eq_true rfl⟩ ?_
  refine lv_istore_n (lv' := [(3, .int (fX8_lesser l3 l6)), (2, .int x0), (0, .ref a_m), (1, .int l1), (4, .int l4), (5, .int l5), (6, .int l6)]) hx hb dX8_best_117 rfl hl (by decide) rfl (fun ls hl => ?_)
  refine lv_iinc (v := (l5 + 1)) (lv' := [(5, .int (l5 + 1)), (3, .int (fX8_lesser l3 l6)), (2, .int x0), (0, .ref a_m), (1, .int l1), (4, .int l4), (6, .int l6)]) hx hb dX8_best_118 hl (k := 5) rfl rfl (by decide) rfl (fun ls hl => ?_)
  refine lv_goto (tgt := 61) hx hb dX8_best_121 (by decide) ?_
  exact hrec61 l1 x0 (fX8_lesser l3 l6) l4 (l5 + 1) m_thr m_net ⟨hP, hD⟩ hS _ (lv_sub hl [3, 4, 2, 1, 5, 0] rfl) h
set_option maxHeartbeats 4000000 in
set_option maxRecDepth 100000 in
theorem lX8_best_61 {p : Program} {l : Launch} {e : Env} {s : State} {m : MethodId} {args : Array Value} {below : List Frame} {meth : Method} {c : Code} {Q : State → Prop} {D : va_G} {T : Nat → ClassId} {a_m a_ms a_mw a_mv a_mp a_mf a_ml a_mt a_mc : Nat} {m_chg : Int32} {m_rea : Int32} {m_det : Int32} {m_ref : Int32} {m_err : Int32} {m_ans : Int32} {m_sav : Int32} {m_lin : Int32} {m_tap : Int32} {m_her : Int32} {m_cmd : Int32} {v_ms : Nat → Int32} {A : Nat → Prop} {r : Int32 × Int32 × Int32} (C : CallFix p m c cX8_best 7 s args aw RX8) (hE : eK D T s) (hA : ∀ q : Nat, s.heap.size ≤ q → A q) (hret : WrRet p l e ({ frames := 6, cells := 0, slots := 0, locals := 135 } : Room) s m args below meth c Q cX8_best .int D A [(a_m, .inr (8, [.ref a_ms, .ref a_mw, .ref a_mv, .ref a_mp, .ref a_mf, .int m_chg, .int r.2.1, .int m_rea, .int m_det, .int m_ref, .int m_err, .int m_ans, .int m_sav, .int r.2.2, .ref a_ml, .int m_lin, .ref a_mt, .ref a_mc, .int m_tap, .int m_her, .int m_cmd])), (a_ms, .inl (T 0, 103, .inl v_ms))] r.1) {rec52 : Int32 → Int32 → Int32 → Int32 → Int32 → Int32 → Option (Int32 × Int32 × Int32)} (hrec52 : ∀ (l1 : Int32) (l2 : Int32) (l3 : Int32) (l4 : Int32) (m_thr : Int32) (m_net : Int32) {H : Heap} {locs : List Loc} (hPD : va_PD D A [(a_m, .inr (8, [.ref a_ms, .ref a_mw, .ref a_mv, .ref a_mp, .ref a_mf, .int m_chg, .int m_thr, .int m_rea, .int m_det, .int m_ref, .int m_err, .int m_ans, .int m_sav, .int m_net, .ref a_ml, .int m_lin, .ref a_mt, .ref a_mc, .int m_tap, .int m_her, .int m_cmd])), (a_ms, .inl (T 0, 103, .inl v_ms))] H) (hS : va_S A s.heap H locs) (ls : Array Slot) (hl : lv_has ls 7 [(0, .ref a_m), (1, .int l1), (2, .int l2), (3, .int l3), (4, .int l4)]) (h : rec52 l1 l2 l3 l4 m_thr m_net = some r), W p l e ({ frames := 6, cells := 0, slots := 0, locals := 135 } : Room) s m args below meth c H locs 0 0 Q (F0 m 52 ls [])) : ∀ (k : Nat) (l1 : Int32) (l2 : Int32) (l3 : Int32) (l4 : Int32) (l5 : Int32) (m_thr : Int32) (m_net : Int32) {H : Heap} {locs : List Loc} (hPD : va_PD D A [(a_m, .inr (8, [.ref a_ms, .ref a_mw, .ref a_mv, .ref a_mp, .ref a_mf, .int m_chg, .int m_thr, .int m_rea, .int m_det, .int m_ref, .int m_err, .int m_ans, .int m_sav, .int m_net, .ref a_ml, .int m_lin, .ref a_mt, .ref a_mc, .int m_tap, .int m_her, .int m_cmd])), (a_ms, .inl (T 0, 103, .inl v_ms))] H) (hS : va_S A s.heap H locs) (ls : Array Slot) (hl : lv_has ls 7 [(0, .ref a_m), (1, .int l1), (2, .int l2), (3, .int l3), (4, .int l4), (5, .int l5)]) (h : fX8_best_61 v_ms rec52 k l1 l2 l3 l4 l5 m_thr m_net = some r), W p l e ({ frames := 6, cells := 0, slots := 0, locals := 135 } : Room) s m args below meth c H locs 0 0 Q (F0 m 61 ls []) := by
  have hx := C.1
  have hb := C.2.1
  intro k
  induction k with
  | zero =>
    intro l1 l2 l3 l4 l5 m_thr m_net H locs hPD hS ls hl h
    exact nomatch (show (none : Option (Int32 × Int32 × Int32)) = some r from h)
  | succ k ih =>
    intro l1 l2 l3 l4 l5 m_thr m_net H locs hPD hS ls hl h
    obtain ⟨hP, hD⟩ := hPD
    rw [fX8_best_61] at h
    refine lv_iload hx hb dX8_best_61 (lv_at hl 5 rfl) ?_
    refine lv_aload_n hx hb dX8_best_63 rfl (lv_at hl 0 rfl) ?_
    refine lv_iload_n hx hb dX8_best_64 rfl (lv_at hl 1 rfl) ?_
    refine lv_iconst (v := 1) hx hb dX8_best_65 (by decide) ?_
    replace h := bnd h; obtain ⟨q15, e16, h⟩ := h
    refine rdV C hE hP (kX8_of l D T a_m a_ms a_mw a_mv a_mp a_mf a_ml a_mt a_mc m_chg m_thr m_rea m_det m_ref m_err m_ans m_sav m_net m_lin m_tap m_her m_cmd v_ms l1 1 q15 e16) mX8_of qLX8_90 [0, 1] 0 rfl rfl rfl rfl ⟨rfl, rfl⟩ ⟨Nat.le_of_ble_eq_true rfl, Nat.le_of_ble_eq_true rfl⟩ rfl hl.1 rfl (Nat.le_of_ble_eq_true rfl) dX8_best_66 ⟨Nat.le_of_ble_eq_true rfl, Nat.le_of_ble_eq_true rfl⟩ ?_
    refine lv_icmp_gt (tgt := 124) hx hb dX8_best_69 (by decide) (fun c17 => ?_) (fun c17 => ?_)
    · replace h := ite_t c17 h
      refine lv_iinc (v := (l4 + 1)) (lv' := [(4, .int (l4 + 1)), (0, .ref a_m), (1, .int l1), (2, .int l2), (3, .int l3), (5, .int l5)]) hx hb dX8_best_124 hl (k := 4) rfl rfl (by decide) rfl (fun ls hl => ?_)
      refine lv_goto (tgt := 52) hx hb dX8_best_127 (by decide) ?_
      exact hrec52 l1 l2 l3 (l4 + 1) m_thr m_net ⟨hP, hD⟩ hS _ (lv_sub hl [1, 2, 3, 4, 0] rfl) h
    · replace h := ite_f c17 h
      refine lv_aload_n hx hb dX8_best_72 rfl (lv_at hl 0 rfl) ?_
      refine lv_iload_n hx hb dX8_best_73 rfl (lv_at hl 1 rfl) ?_
      refine lv_iconst (v := 0) hx hb dX8_best_74 (by decide) ?_
      replace h := bnd h; obtain ⟨q18, e19, h⟩ := h
      refine rdV C hE hP (kX8_of l D T a_m a_ms a_mw a_mv a_mp a_mf a_ml a_mt a_mc m_chg m_thr m_rea m_det m_ref m_err m_ans m_sav m_net m_lin m_tap m_her m_cmd v_ms l1 0 q18 e19) mX8_of qLX8_90 [0, 1] 0 rfl rfl rfl rfl ⟨rfl, rfl⟩ ⟨Nat.le_of_ble_eq_true rfl, Nat.le_of_ble_eq_true rfl⟩ rfl hl.1 rfl (Nat.le_of_ble_eq_true rfl) dX8_best_75 ⟨Nat.le_of_ble_eq_true rfl, Nat.le_of_ble_eq_true rfl⟩ ?_
      refine lv_aload_n hx hb dX8_best_78 rfl (lv_at hl 0 rfl) ?_
      refine lv_iload_n hx hb dX8_best_79 rfl (lv_at hl 1 rfl) ?_
      refine lv_iload hx hb dX8_best_80 (lv_at hl 4 rfl) ?_
      refine lv_iload hx hb dX8_best_82 (lv_at hl 5 rfl) ?_
      replace h := bnd h; obtain ⟨q20, e21, h⟩ := h
      refine wrVi (ws1 := [(a_m, .inr (8, [.ref a_ms, .ref a_mw, .ref a_mv, .ref a_mp, .ref a_mf, .int m_chg, .int m_thr, .int m_rea, .int m_det, .int m_ref, .int m_err, .int m_ans, .int m_sav, .int q20.2, .ref a_ml, .int m_lin, .ref a_mt, .ref a_mc, .int m_tap, .int m_her, .int m_cmd])), (a_ms, .inl (T 0, 103, .inl v_ms))]) C hE hP hD hS hA (kX8_wouldCome l D T a_m a_ms a_mw a_mv a_mp a_mf a_ml a_mt a_mc m_chg m_thr m_rea m_det m_ref m_err m_ans m_sav m_net m_lin m_tap m_her m_cmd v_ms l1 l4 l5 _ q20 e21) mX8_wouldCome qLX8_171 [0, 1] [] 0 rfl rfl rfl rfl rfl rfl rfl rfl rfl ⟨rfl, rfl⟩ ⟨Nat.le_of_ble_eq_true rfl, Nat.le_of_ble_eq_true rfl⟩ rfl hl.1 rfl (Nat.le_of_ble_eq_true rfl) dX8_best_84 ⟨Nat.le_of_ble_eq_true rfl, Nat.le_of_ble_eq_true rfl⟩ ?_; clear hP hD hS; intro H locs hP hD hS
      refine rdS C hE hP (kX8_fromEnd l D T q18 q20.1) mX8_fromEnd qLX8_180 [] rfl ⟨rfl, rfl⟩ ⟨Nat.le_of_ble_eq_true rfl, Nat.le_of_ble_eq_true rfl⟩ rfl hl.1 rfl (Nat.le_of_ble_eq_true rfl) dX8_best_87 ⟨Nat.le_of_ble_eq_true rfl, Nat.le_of_ble_eq_true rfl⟩ ?_
      refine lv_istore (lv' := [(6, .int (fX8_fromEnd q18 q20.1)), (0, .ref a_m), (1, .int l1), (2, .int l2), (3, .int l3), (4, .int l4), (5, .int l5)]) hx hb dX8_best_90 hl (by decide) rfl (fun ls hl => ?_)
      refine lv_iload hx hb dX8_best_92 (lv_at hl 0 rfl) ?_
      refine lv_iload_n hx hb dX8_best_94 rfl (lv_at hl 4 rfl) ?_
      refine lv_icmp_ge (tgt := 109) hx hb dX8_best_95 (by decide) (fun c22 => ?_) (fun c22 => ?_)
      · rw [if_pos c22] at h
        refine lv_iload_n hx hb dX8_best_109 rfl (lv_at hl 3 rfl) ?_
        exact lX8_best_110 C hE hA hret hrec52 ih l2 l1 l3 l4 l5 (fX8_fromEnd q18 q20.1) m_thr q20.2 ⟨hP, hD⟩ hS _ (lv_sub hl [1, 2, 4, 5, 6, 0] rfl) h
      · rw [if_neg c22] at h
        refine lv_bipush (v := 10) hx hb dX8_best_98 (by decide) ?_
        refine lv_iload hx hb dX8_best_100 (lv_at hl 5 rfl) ?_
        refine lv_imul hx hb dX8_best_102 ?_
        refine lv_iload hx hb dX8_best_103 (lv_at hl 6 rfl) ?_
        refine lv_iadd hx hb dX8_best_105 ?_
        refine lv_goto (tgt := 110) hx hb dX8_best_106 (by decide) ?_
        exact lX8_best_110 C hE hA hret hrec52 ih ((10 * l4) + l5) l1 l3 l4 l5 (fX8_fromEnd q18 q20.1) m_thr q20.2 ⟨hP, hD⟩ hS _ (lv_sub hl [1, 2, 4, 5, 6, 0] rfl) h
set_option maxHeartbeats 4000000 in
set_option maxRecDepth 100000 in
theorem lX8_best_140 {p : Program} {l : Launch} {e : Env} {s : State} {m : MethodId} {args : Array Value} {below : List Frame} {meth : Method} {c : Code} {Q : State → Prop} {D : va_G} {T : Nat → ClassId} {a_m a_ms a_mw a_mv a_mp a_mf a_ml a_mt a_mc : Nat} {m_chg : Int32} {m_rea : Int32} {m_det : Int32} {m_ref : Int32} {m_err : Int32} {m_ans : Int32} {m_sav : Int32} {m_lin : Int32} {m_tap : Int32} {m_her : Int32} {m_cmd : Int32} {v_ms : Nat → Int32} {A : Nat → Prop} {r : Int32 × Int32 × Int32} (C : CallFix p m c cX8_best 7 s args aw RX8) (hE : eK D T s) (hA : ∀ q : Nat, s.heap.size ≤ q → A q) (hret : WrRet p l e ({ frames := 6, cells := 0, slots := 0, locals := 135 } : Room) s m args below meth c Q cX8_best .int D A [(a_m, .inr (8, [.ref a_ms, .ref a_mw, .ref a_mv, .ref a_mp, .ref a_mf, .int m_chg, .int r.2.1, .int m_rea, .int m_det, .int m_ref, .int m_err, .int m_ans, .int m_sav, .int r.2.2, .ref a_ml, .int m_lin, .ref a_mt, .ref a_mc, .int m_tap, .int m_her, .int m_cmd])), (a_ms, .inl (T 0, 103, .inl v_ms))] r.1) (x1 : Int32) (l2 : Int32) (m_thr : Int32) (m_net : Int32) {H : Heap} {locs : List Loc} (hPD : va_PD D A [(a_m, .inr (8, [.ref a_ms, .ref a_mw, .ref a_mv, .ref a_mp, .ref a_mf, .int m_chg, .int m_thr, .int m_rea, .int m_det, .int m_ref, .int m_err, .int m_ans, .int m_sav, .int m_net, .ref a_ml, .int m_lin, .ref a_mt, .ref a_mc, .int m_tap, .int m_her, .int m_cmd])), (a_ms, .inl (T 0, 103, .inl v_ms))] H) (hS : va_S A s.heap H locs) (ls : Array Slot) (hl : lv_has ls 7 [(2, .int l2)]) (h : fX8_best_140 v_ms x1 l2 m_thr m_net = some r) : W p l e ({ frames := 6, cells := 0, slots := 0, locals := 135 } : Room) s m args below meth c H locs 0 0 Q (F0 m 140 ls [.int x1, .ref a_m]) := by
  have hx := C.1
  have hb := C.2.1
  obtain ⟨hP, hD⟩ := hPD
  unfold fX8_best_140 at h
  refine lv_iconst (v := 2) hx hb dX8_best_140 (by decide) ?_
  replace h := bnd h; obtain ⟨q23, e24, h⟩ := h
  refine wrVi (ws1 := [(a_m, .inr (8, [.ref a_ms, .ref a_mw, .ref a_mv, .ref a_mp, .ref a_mf, .int m_chg, .int q23.2, .int m_rea, .int m_det, .int m_ref, .int m_err, .int m_ans, .int m_sav, .int m_net, .ref a_ml, .int m_lin, .ref a_mt, .ref a_mc, .int m_tap, .int m_her, .int m_cmd])), (a_ms, .inl (T 0, 103, .inl v_ms))]) C hE hP hD hS hA (kX8_isThrown l D T a_m a_ms a_mw a_mv a_mp a_mf a_ml a_mt a_mc m_chg m_thr m_rea m_det m_ref m_err m_ans m_sav m_net m_lin m_tap m_her m_cmd x1 2 _ q23 e24) mX8_isThrown qLX8_80 [0] [1] 0 rfl rfl rfl rfl rfl rfl rfl rfl rfl ⟨rfl, rfl⟩ ⟨Nat.le_of_ble_eq_true rfl, Nat.le_of_ble_eq_true rfl⟩ rfl hl.1 rfl (Nat.le_of_ble_eq_true rfl) dX8_best_141 ⟨Nat.le_of_ble_eq_true rfl, Nat.le_of_ble_eq_true rfl⟩ ?_; clear hP hD hS; intro H locs hP hD hS
  refine lv_if_eq (tgt := 151) hx hb dX8_best_144 (by decide) (fun c25 => ?_) (fun c25 => ?_)
  · replace h := ite_t c25 h
    refine lv_iload_n hx hb dX8_best_151 rfl (lv_at hl 0 rfl) ?_
    replace h := Option.some.inj h
    exact hret _ _ _ _ _ _ dX8_best_152 rfl (by rw [← h] <;> rfl) (by rw [← h]; exact hP) hS
  · replace h := ite_f c25 h
    refine lv_iconst (v := 0) hx hb dX8_best_147 (by decide) ?_
    refine lv_goto (tgt := 152) hx hb dX8_best_148 (by decide) ?_
    replace h := Option.some.inj h
    exact hret _ _ _ _ _ _ dX8_best_152 rfl (by rw [← h] <;> rfl) (by rw [← h]; exact hP) hS
set_option maxHeartbeats 4000000 in
set_option maxRecDepth 100000 in
theorem lX8_best_52 {p : Program} {l : Launch} {e : Env} {s : State} {m : MethodId} {args : Array Value} {below : List Frame} {meth : Method} {c : Code} {Q : State → Prop} {D : va_G} {T : Nat → ClassId} {a_m a_ms a_mw a_mv a_mp a_mf a_ml a_mt a_mc : Nat} {m_chg : Int32} {m_rea : Int32} {m_det : Int32} {m_ref : Int32} {m_err : Int32} {m_ans : Int32} {m_sav : Int32} {m_lin : Int32} {m_tap : Int32} {m_her : Int32} {m_cmd : Int32} {v_ms : Nat → Int32} {A : Nat → Prop} {r : Int32 × Int32 × Int32} (C : CallFix p m c cX8_best 7 s args aw RX8) (hE : eK D T s) (hA : ∀ q : Nat, s.heap.size ≤ q → A q) (hret : WrRet p l e ({ frames := 6, cells := 0, slots := 0, locals := 135 } : Room) s m args below meth c Q cX8_best .int D A [(a_m, .inr (8, [.ref a_ms, .ref a_mw, .ref a_mv, .ref a_mp, .ref a_mf, .int m_chg, .int r.2.1, .int m_rea, .int m_det, .int m_ref, .int m_err, .int m_ans, .int m_sav, .int r.2.2, .ref a_ml, .int m_lin, .ref a_mt, .ref a_mc, .int m_tap, .int m_her, .int m_cmd])), (a_ms, .inl (T 0, 103, .inl v_ms))] r.1) : ∀ (k : Nat) (l1 : Int32) (l2 : Int32) (l3 : Int32) (l4 : Int32) (m_thr : Int32) (m_net : Int32) {H : Heap} {locs : List Loc} (hPD : va_PD D A [(a_m, .inr (8, [.ref a_ms, .ref a_mw, .ref a_mv, .ref a_mp, .ref a_mf, .int m_chg, .int m_thr, .int m_rea, .int m_det, .int m_ref, .int m_err, .int m_ans, .int m_sav, .int m_net, .ref a_ml, .int m_lin, .ref a_mt, .ref a_mc, .int m_tap, .int m_her, .int m_cmd])), (a_ms, .inl (T 0, 103, .inl v_ms))] H) (hS : va_S A s.heap H locs) (ls : Array Slot) (hl : lv_has ls 7 [(0, .ref a_m), (1, .int l1), (2, .int l2), (3, .int l3), (4, .int l4)]) (h : fX8_best_52 v_ms k l1 l2 l3 l4 m_thr m_net = some r), W p l e ({ frames := 6, cells := 0, slots := 0, locals := 135 } : Room) s m args below meth c H locs 0 0 Q (F0 m 52 ls []) := by
  have hx := C.1
  have hb := C.2.1
  intro k
  induction k with
  | zero =>
    intro l1 l2 l3 l4 m_thr m_net H locs hPD hS ls hl h
    exact nomatch (show (none : Option (Int32 × Int32 × Int32)) = some r from h)
  | succ k ih =>
    intro l1 l2 l3 l4 m_thr m_net H locs hPD hS ls hl h
    obtain ⟨hP, hD⟩ := hPD
    rw [fX8_best_52] at h
    refine lv_iload hx hb dX8_best_52 (lv_at hl 4 rfl) ?_
    refine lv_iconst (v := 4) hx hb dX8_best_54 (by decide) ?_
    refine lv_icmp_ge (tgt := 130) hx hb dX8_best_55 (by decide) (fun c13 => ?_) (fun c13 => ?_)
    · replace h := ite_t c13 h
      refine lv_aload_n hx hb dX8_best_130 rfl (lv_at hl 0 rfl) ?_
      refine lv_iload_n hx hb dX8_best_131 rfl (lv_at hl 2 rfl) ?_
      refine lv_if_ge (tgt := 139) hx hb dX8_best_132 (by decide) (fun c14 => ?_) (fun c14 => ?_)
      · rw [if_pos c14] at h
        refine lv_iconst (v := 0) hx hb dX8_best_139 (by decide) ?_
        exact lX8_best_140 C hE hA hret 0 l2 m_thr m_net ⟨hP, hD⟩ hS _ (lv_sub hl [2] rfl) h
      · rw [if_neg c14] at h
        refine lv_iconst (v := 1) hx hb dX8_best_135 (by decide) ?_
        refine lv_goto (tgt := 140) hx hb dX8_best_136 (by decide) ?_
        exact lX8_best_140 C hE hA hret 1 l2 m_thr m_net ⟨hP, hD⟩ hS _ (lv_sub hl [2] rfl) h
    · replace h := ite_f c13 h
      refine lv_iconst (v := 1) hx hb dX8_best_58 (by decide) ?_
      refine lv_istore (lv' := [(5, .int 1), (0, .ref a_m), (1, .int l1), (2, .int l2), (3, .int l3), (4, .int l4)]) hx hb dX8_best_59 hl (by decide) rfl (fun ls hl => ?_)
      exact lX8_best_61 C hE hA hret ih 64 l1 l2 l3 l4 1 m_thr m_net ⟨hP, hD⟩ hS _ (lv_sub hl [1, 2, 3, 4, 5, 0] rfl) h
set_option maxHeartbeats 4000000 in
set_option maxRecDepth 100000 in
theorem lX8_best_35 {p : Program} {l : Launch} {e : Env} {s : State} {m : MethodId} {args : Array Value} {below : List Frame} {meth : Method} {c : Code} {Q : State → Prop} {D : va_G} {T : Nat → ClassId} {a_m a_ms a_mw a_mv a_mp a_mf a_ml a_mt a_mc : Nat} {m_chg : Int32} {m_rea : Int32} {m_det : Int32} {m_ref : Int32} {m_err : Int32} {m_ans : Int32} {m_sav : Int32} {m_lin : Int32} {m_tap : Int32} {m_her : Int32} {m_cmd : Int32} {v_ms : Nat → Int32} {A : Nat → Prop} {r : Int32 × Int32 × Int32} (C : CallFix p m c cX8_best 7 s args aw RX8) (hE : eK D T s) (hA : ∀ q : Nat, s.heap.size ≤ q → A q) (hret : WrRet p l e ({ frames := 6, cells := 0, slots := 0, locals := 135 } : Room) s m args below meth c Q cX8_best .int D A [(a_m, .inr (8, [.ref a_ms, .ref a_mw, .ref a_mv, .ref a_mp, .ref a_mf, .int m_chg, .int r.2.1, .int m_rea, .int m_det, .int m_ref, .int m_err, .int m_ans, .int m_sav, .int r.2.2, .ref a_ml, .int m_lin, .ref a_mt, .ref a_mc, .int m_tap, .int m_her, .int m_cmd])), (a_ms, .inl (T 0, 103, .inl v_ms))] r.1) (x1 : Int32) (l1 : Int32) (m_thr : Int32) (m_net : Int32) {H : Heap} {locs : List Loc} (hPD : va_PD D A [(a_m, .inr (8, [.ref a_ms, .ref a_mw, .ref a_mv, .ref a_mp, .ref a_mf, .int m_chg, .int m_thr, .int m_rea, .int m_det, .int m_ref, .int m_err, .int m_ans, .int m_sav, .int m_net, .ref a_ml, .int m_lin, .ref a_mt, .ref a_mc, .int m_tap, .int m_her, .int m_cmd])), (a_ms, .inl (T 0, 103, .inl v_ms))] H) (hS : va_S A s.heap H locs) (ls : Array Slot) (hl : lv_has ls 7 [(0, .ref a_m), (1, .int l1)]) (h : fX8_best_35 v_ms x1 l1 m_thr m_net = some r) : W p l e ({ frames := 6, cells := 0, slots := 0, locals := 135 } : Room) s m args below meth c H locs 0 0 Q (F0 m 35 ls [.int x1, .ref a_m]) := by
  have hx := C.1
  have hb := C.2.1
  obtain ⟨hP, hD⟩ := hPD
  unfold fX8_best_35 at h
  refine lv_iconst (v := 2) hx hb dX8_best_35 (by decide) ?_
  replace h := bnd h; obtain ⟨q10, e11, h⟩ := h
  refine wrVi (ws1 := [(a_m, .inr (8, [.ref a_ms, .ref a_mw, .ref a_mv, .ref a_mp, .ref a_mf, .int m_chg, .int q10.2, .int m_rea, .int m_det, .int m_ref, .int m_err, .int m_ans, .int m_sav, .int m_net, .ref a_ml, .int m_lin, .ref a_mt, .ref a_mc, .int m_tap, .int m_her, .int m_cmd])), (a_ms, .inl (T 0, 103, .inl v_ms))]) C hE hP hD hS hA (kX8_isThrown l D T a_m a_ms a_mw a_mv a_mp a_mf a_ml a_mt a_mc m_chg m_thr m_rea m_det m_ref m_err m_ans m_sav m_net m_lin m_tap m_her m_cmd x1 2 _ q10 e11) mX8_isThrown qLX8_80 [0] [1] 0 rfl rfl rfl rfl rfl rfl rfl rfl rfl ⟨rfl, rfl⟩ ⟨Nat.le_of_ble_eq_true rfl, Nat.le_of_ble_eq_true rfl⟩ rfl hl.1 rfl (Nat.le_of_ble_eq_true rfl) dX8_best_36 ⟨Nat.le_of_ble_eq_true rfl, Nat.le_of_ble_eq_true rfl⟩ ?_; clear hP hD hS; intro H locs hP hD hS
  refine lv_if_eq (tgt := 44) hx hb dX8_best_39 (by decide) (fun c12 => ?_) (fun c12 => ?_)
  · replace h := ite_t c12 h
    refine lv_iconst (v := (-1)) hx hb dX8_best_44 (by decide) ?_
    refine lv_istore_n (lv' := [(2, .int (-1)), (0, .ref a_m), (1, .int l1)]) hx hb dX8_best_45 rfl hl (by decide) rfl (fun ls hl => ?_)
    refine lv_bipush (v := 99) hx hb dX8_best_46 (by decide) ?_
    refine lv_istore_n (lv' := [(3, .int 99), (2, .int (-1)), (0, .ref a_m), (1, .int l1)]) hx hb dX8_best_48 rfl hl (by decide) rfl (fun ls hl => ?_)
    refine lv_iconst (v := 0) hx hb dX8_best_49 (by decide) ?_
    refine lv_istore (lv' := [(4, .int 0), (3, .int 99), (2, .int (-1)), (0, .ref a_m), (1, .int l1)]) hx hb dX8_best_50 hl (by decide) rfl (fun ls hl => ?_)
    exact lX8_best_52 C hE hA hret 64 l1 (-1) 99 0 q10.2 m_net ⟨hP, hD⟩ hS _ (lv_sub hl [3, 4, 2, 1, 0] rfl) h
  · replace h := ite_f c12 h
    refine lv_iconst (v := 0) hx hb dX8_best_42 (by decide) ?_
    replace h := Option.some.inj h
    exact hret _ _ _ _ _ _ dX8_best_43 rfl (by rw [← h] <;> rfl) (by rw [← h]; exact hP) hS
set_option maxHeartbeats 4000000 in
set_option maxRecDepth 100000 in
theorem lX8_best_14 {p : Program} {l : Launch} {e : Env} {s : State} {m : MethodId} {args : Array Value} {below : List Frame} {meth : Method} {c : Code} {Q : State → Prop} {D : va_G} {T : Nat → ClassId} {a_m a_ms a_mw a_mv a_mp a_mf a_ml a_mt a_mc : Nat} {m_chg : Int32} {m_rea : Int32} {m_det : Int32} {m_ref : Int32} {m_err : Int32} {m_ans : Int32} {m_sav : Int32} {m_lin : Int32} {m_tap : Int32} {m_her : Int32} {m_cmd : Int32} {v_ms : Nat → Int32} {A : Nat → Prop} {r : Int32 × Int32 × Int32} (C : CallFix p m c cX8_best 7 s args aw RX8) (hE : eK D T s) (hA : ∀ q : Nat, s.heap.size ≤ q → A q) (hret : WrRet p l e ({ frames := 6, cells := 0, slots := 0, locals := 135 } : Room) s m args below meth c Q cX8_best .int D A [(a_m, .inr (8, [.ref a_ms, .ref a_mw, .ref a_mv, .ref a_mp, .ref a_mf, .int m_chg, .int r.2.1, .int m_rea, .int m_det, .int m_ref, .int m_err, .int m_ans, .int m_sav, .int r.2.2, .ref a_ml, .int m_lin, .ref a_mt, .ref a_mc, .int m_tap, .int m_her, .int m_cmd])), (a_ms, .inl (T 0, 103, .inl v_ms))] r.1) (x1 : Int32) (l1 : Int32) (m_thr : Int32) (m_net : Int32) {H : Heap} {locs : List Loc} (hPD : va_PD D A [(a_m, .inr (8, [.ref a_ms, .ref a_mw, .ref a_mv, .ref a_mp, .ref a_mf, .int m_chg, .int m_thr, .int m_rea, .int m_det, .int m_ref, .int m_err, .int m_ans, .int m_sav, .int m_net, .ref a_ml, .int m_lin, .ref a_mt, .ref a_mc, .int m_tap, .int m_her, .int m_cmd])), (a_ms, .inl (T 0, 103, .inl v_ms))] H) (hS : va_S A s.heap H locs) (ls : Array Slot) (hl : lv_has ls 7 [(0, .ref a_m), (1, .int l1)]) (h : fX8_best_14 v_ms x1 l1 m_thr m_net = some r) : W p l e ({ frames := 6, cells := 0, slots := 0, locals := 135 } : Room) s m args below meth c H locs 0 0 Q (F0 m 14 ls [.int x1, .ref a_m]) := by
  have hx := C.1
  have hb := C.2.1
  obtain ⟨hP, hD⟩ := hPD
  unfold fX8_best_14 at h
  refine lv_iconst (v := 1) hx hb dX8_best_14 (by decide) ?_
  replace h := bnd h; obtain ⟨q4, e5, h⟩ := h
  refine wrVi (ws1 := [(a_m, .inr (8, [.ref a_ms, .ref a_mw, .ref a_mv, .ref a_mp, .ref a_mf, .int m_chg, .int q4.2, .int m_rea, .int m_det, .int m_ref, .int m_err, .int m_ans, .int m_sav, .int m_net, .ref a_ml, .int m_lin, .ref a_mt, .ref a_mc, .int m_tap, .int m_her, .int m_cmd])), (a_ms, .inl (T 0, 103, .inl v_ms))]) C hE hP hD hS hA (kX8_isThrown l D T a_m a_ms a_mw a_mv a_mp a_mf a_ml a_mt a_mc m_chg m_thr m_rea m_det m_ref m_err m_ans m_sav m_net m_lin m_tap m_her m_cmd x1 1 _ q4 e5) mX8_isThrown qLX8_80 [0] [1] 0 rfl rfl rfl rfl rfl rfl rfl rfl rfl ⟨rfl, rfl⟩ ⟨Nat.le_of_ble_eq_true rfl, Nat.le_of_ble_eq_true rfl⟩ rfl hl.1 rfl (Nat.le_of_ble_eq_true rfl) dX8_best_15 ⟨Nat.le_of_ble_eq_true rfl, Nat.le_of_ble_eq_true rfl⟩ ?_; clear hP hD hS; intro H locs hP hD hS
  refine lv_if_ne (tgt := 42) hx hb dX8_best_18 (by decide) (fun c6 => ?_) (fun c6 => ?_)
  · replace h := ite_f c6 h
    refine lv_iconst (v := 0) hx hb dX8_best_42 (by decide) ?_
    replace h := Option.some.inj h
    exact hret _ _ _ _ _ _ dX8_best_43 rfl (by rw [← h] <;> rfl) (by rw [← h]; exact hP) hS
  · replace h := ite_t c6 h
    refine lv_aload_n hx hb dX8_best_21 rfl (lv_at hl 0 rfl) ?_
    refine lv_aload_n hx hb dX8_best_22 rfl (lv_at hl 0 rfl) ?_
    refine lv_iload_n hx hb dX8_best_23 rfl (lv_at hl 1 rfl) ?_
    replace h := bnd h; obtain ⟨q7, e8, h⟩ := h
    refine rdV C hE hP (kX8_canStrike l D T a_m a_ms a_mw a_mv a_mp a_mf a_ml a_mt a_mc m_chg q4.2 m_rea m_det m_ref m_err m_ans m_sav m_net m_lin m_tap m_her m_cmd v_ms l1 q7 e8) mX8_canStrike qLX8_177 [0, 1] 0 rfl rfl rfl rfl ⟨rfl, rfl⟩ ⟨Nat.le_of_ble_eq_true rfl, Nat.le_of_ble_eq_true rfl⟩ rfl hl.1 rfl (Nat.le_of_ble_eq_true rfl) dX8_best_24 ⟨Nat.le_of_ble_eq_true rfl, Nat.le_of_ble_eq_true rfl⟩ ?_
    refine lv_if_ne (tgt := 34) hx hb dX8_best_27 (by decide) (fun c9 => ?_) (fun c9 => ?_)
    · rw [if_neg c9] at h
      refine lv_iconst (v := 0) hx hb dX8_best_34 (by decide) ?_
      exact lX8_best_35 C hE hA hret 0 l1 q4.2 m_net ⟨hP, hD⟩ hS _ (lv_sub hl [0, 1] rfl) h
    · rw [if_pos c9] at h
      refine lv_iconst (v := 1) hx hb dX8_best_30 (by decide) ?_
      refine lv_goto (tgt := 35) hx hb dX8_best_31 (by decide) ?_
      exact lX8_best_35 C hE hA hret 1 l1 q4.2 m_net ⟨hP, hD⟩ hS _ (lv_sub hl [0, 1] rfl) h
set_option maxHeartbeats 4000000 in
set_option maxRecDepth 100000 in
theorem kX8_best (l : Launch) (D : va_G) (T : Nat → ClassId) (a_m a_ms a_mw a_mv a_mp a_mf a_ml a_mt a_mc : Nat) (m_chg : Int32) (m_thr : Int32) (m_rea : Int32) (m_det : Int32) (m_ref : Int32) (m_err : Int32) (m_ans : Int32) (m_sav : Int32) (m_net : Int32) (m_lin : Int32) (m_tap : Int32) (m_her : Int32) (m_cmd : Int32) (v_ms : Nat → Int32) (p0 : Int32) (sz : Nat) (r : Int32 × Int32 × Int32) (h : fX8_best m_thr m_net v_ms p0 = some r) : WrI l yX8_best cX8_best 7 .int ({ frames := 6, cells := 0, slots := 0, locals := 135 } : Room) D T sz [(a_m, .inr (8, [.ref a_ms, .ref a_mw, .ref a_mv, .ref a_mp, .ref a_mf, .int m_chg, .int m_thr, .int m_rea, .int m_det, .int m_ref, .int m_err, .int m_ans, .int m_sav, .int m_net, .ref a_ml, .int m_lin, .ref a_mt, .ref a_mc, .int m_tap, .int m_her, .int m_cmd])), (a_ms, .inl (T 0, 103, .inl v_ms))] [(a_m, .inr (8, [.ref a_ms, .ref a_mw, .ref a_mv, .ref a_mp, .ref a_mf, .int m_chg, .int r.2.1, .int m_rea, .int m_det, .int m_ref, .int m_err, .int m_ans, .int m_sav, .int r.2.2, .ref a_ml, .int m_lin, .ref a_mt, .ref a_mc, .int m_tap, .int m_her, .int m_cmd])), (a_ms, .inl (T 0, 103, .inl v_ms))] [.ref a_m, .int p0] r.1 := by
  unfold fX8_best at h
  refine wrMet (by decide +kernel) rfl (fun p e s m args below meth c Q A C hE hA hP hD hS hret ls hl => ?_)
  have hx := C.1
  have hb := C.2.1
  have hl : lv_has ls 7 [(0, .ref a_m), (1, .int p0)] := hl
  refine lv_aload_n hx hb dX8_best_0 rfl (lv_at hl 0 rfl) ?_
  refine lv_aload_n hx hb dX8_best_1 rfl (lv_at hl 0 rfl) ?_
  refine lv_iload_n hx hb dX8_best_2 rfl (lv_at hl 1 rfl) ?_
  replace h := bnd h; obtain ⟨q1, e2, h⟩ := h
  refine rdV C hE hP (kX8_isWhale l D T a_m a_ms a_mw a_mv a_mp a_mf a_ml a_mt a_mc m_chg m_thr m_rea m_det m_ref m_err m_ans m_sav m_net m_lin m_tap m_her m_cmd v_ms p0 q1 e2) mX8_isWhale qLX8_120 [0, 1] 0 rfl rfl rfl rfl ⟨rfl, rfl⟩ ⟨Nat.le_of_ble_eq_true rfl, Nat.le_of_ble_eq_true rfl⟩ rfl hl.1 rfl (Nat.le_of_ble_eq_true rfl) dX8_best_3 ⟨Nat.le_of_ble_eq_true rfl, Nat.le_of_ble_eq_true rfl⟩ ?_
  refine lv_if_ne (tgt := 13) hx hb dX8_best_6 (by decide) (fun c3 => ?_) (fun c3 => ?_)
  · rw [if_neg c3] at h
    refine lv_iconst (v := 0) hx hb dX8_best_13 (by decide) ?_
    exact lX8_best_14 C hE hA hret 0 p0 m_thr m_net ⟨hP, hD⟩ hS _ (lv_sub hl [0, 1] rfl) h
  · rw [if_pos c3] at h
    refine lv_iconst (v := 1) hx hb dX8_best_9 (by decide) ?_
    refine lv_goto (tgt := 14) hx hb dX8_best_10 (by decide) ?_
    exact lX8_best_14 C hE hA hret 1 p0 m_thr m_net ⟨hP, hD⟩ hS _ (lv_sub hl [0, 1] rfl) h

def fX8_sings_81 (x1 : Int32) (l1 : Int32) (l2 : Int32) (m_thr : Int32) (m_rea : Int32) (m_det : Int32) (m_ref : Int32) (v_ms : Nat → Int32) : Option (Int32 × Int32 × Int32 × Int32 × Int32 × (Nat → Int32)) :=
  (fX8_isRefused m_thr m_rea m_det m_ref x1 6 l2).bind fun q22 =>
  if q22.1 = 0 then
    (fX8_sets v_ms l1 5 1).bind fun q25 =>
    (fX8_sets q25 l1 3 (l2 - 1)).bind fun q27 =>
    (fX8_strokes q27 (l2 - 1)).bind fun q29 =>
    some (q29.1, q22.2.1, q22.2.2.1, q22.2.2.2.1, q22.2.2.2.2, q29.2)
  else
    some (0, q22.2.1, q22.2.2.1, q22.2.2.2.1, q22.2.2.2.2, v_ms)
def fX8_sings_61 (x1 : Int32) (l1 : Int32) (l2 : Int32) (m_thr : Int32) (m_rea : Int32) (m_det : Int32) (m_ref : Int32) (v_ms : Nat → Int32) : Option (Int32 × Int32 × Int32 × Int32 × Int32 × (Nat → Int32)) :=
  (fX8_isRefused m_thr m_rea m_det m_ref x1 11 l1).bind fun q18 =>
  if q18.1 = 0 then
    fX8_sings_81 (if 1 ≤ l2 then 0 else 1) l1 l2 q18.2.1 q18.2.2.1 q18.2.2.2.1 q18.2.2.2.2 v_ms
  else
    some (0, q18.2.1, q18.2.2.1, q18.2.2.2.1, q18.2.2.2.2, v_ms)
def fX8_sings_14 (x1 : Int32) (l1 : Int32) (m_thr : Int32) (m_rea : Int32) (m_det : Int32) (m_ref : Int32) (v_ms : Nat → Int32) : Option (Int32 × Int32 × Int32 × Int32 × Int32 × (Nat → Int32)) :=
  (fX8_isThrown m_thr x1 1).bind fun q4 =>
  if q4.1 = 0 then
    (fX8_isOver q4.2 m_rea m_det m_ref v_ms).bind fun q7 =>
    if q7.1 = 0 then
      (fX8_isOnBench q7.2.1 q7.2.2.1 q7.2.2.2.1 q7.2.2.2.2 v_ms l1).bind fun q10 =>
      if q10.1 = 0 then
        (fX8_of v_ms l1 3).bind fun q13 =>
        (fX8_of v_ms l1 5).bind fun q15 =>
        fX8_sings_61 (if q15 = 1 then 1 else 0) l1 q13 q10.2.1 q10.2.2.1 q10.2.2.2.1 q10.2.2.2.2 v_ms
      else
        some (0, q10.2.1, q10.2.2.1, q10.2.2.2.1, q10.2.2.2.2, v_ms)
    else
      some (0, q7.2.1, q7.2.2.1, q7.2.2.2.1, q7.2.2.2.2, v_ms)
  else
    some (0, q4.2, m_rea, m_det, m_ref, v_ms)
def fX8_sings (m_thr : Int32) (m_rea : Int32) (m_det : Int32) (m_ref : Int32) (v_ms : Nat → Int32) (p0 : Int32) : Option (Int32 × Int32 × Int32 × Int32 × Int32 × (Nat → Int32)) :=
  (fX8_isWhale v_ms p0).bind fun q1 =>
  fX8_sings_14 (if q1 = 0 then 1 else 0) p0 m_thr m_rea m_det m_ref v_ms
set_option maxHeartbeats 4000000 in
set_option maxRecDepth 100000 in
theorem lX8_sings_81 {p : Program} {l : Launch} {e : Env} {s : State} {m : MethodId} {args : Array Value} {below : List Frame} {meth : Method} {c : Code} {Q : State → Prop} {D : va_G} {T : Nat → ClassId} {a_m a_ms a_mw a_mv a_mp a_mf a_ml a_mt a_mc : Nat} {m_chg : Int32} {m_err : Int32} {m_ans : Int32} {m_sav : Int32} {m_net : Int32} {m_lin : Int32} {m_tap : Int32} {m_her : Int32} {m_cmd : Int32} {A : Nat → Prop} {r : Int32 × Int32 × Int32 × Int32 × Int32 × (Nat → Int32)} (C : CallFix p m c cX8_sings 3 s args aw RX8) (hE : eK D T s) (hA : ∀ q : Nat, s.heap.size ≤ q → A q) (hret : WrRet p l e ({ frames := 2, cells := 0, slots := 0, locals := 45 } : Room) s m args below meth c Q cX8_sings .int D A [(a_m, .inr (8, [.ref a_ms, .ref a_mw, .ref a_mv, .ref a_mp, .ref a_mf, .int m_chg, .int r.2.1, .int r.2.2.1, .int r.2.2.2.1, .int r.2.2.2.2.1, .int m_err, .int m_ans, .int m_sav, .int m_net, .ref a_ml, .int m_lin, .ref a_mt, .ref a_mc, .int m_tap, .int m_her, .int m_cmd])), (a_ms, .inl (T 0, 103, .inl r.2.2.2.2.2))] r.1) (x1 : Int32) (l1 : Int32) (l2 : Int32) (m_thr : Int32) (m_rea : Int32) (m_det : Int32) (m_ref : Int32) (v_ms : Nat → Int32) {H : Heap} {locs : List Loc} (hPD : va_PD D A [(a_m, .inr (8, [.ref a_ms, .ref a_mw, .ref a_mv, .ref a_mp, .ref a_mf, .int m_chg, .int m_thr, .int m_rea, .int m_det, .int m_ref, .int m_err, .int m_ans, .int m_sav, .int m_net, .ref a_ml, .int m_lin, .ref a_mt, .ref a_mc, .int m_tap, .int m_her, .int m_cmd])), (a_ms, .inl (T 0, 103, .inl v_ms))] H) (hS : va_S A s.heap H locs) (ls : Array Slot) (hl : lv_has ls 3 [(0, .ref a_m), (1, .int l1), (2, .int l2)]) (h : fX8_sings_81 x1 l1 l2 m_thr m_rea m_det m_ref v_ms = some r) : W p l e ({ frames := 2, cells := 0, slots := 0, locals := 45 } : Room) s m args below meth c H locs 0 0 Q (F0 m 81 ls [.int x1, .ref a_m]) := by
  have hx := C.1
  have hb := C.2.1
  obtain ⟨hP, hD⟩ := hPD
  unfold fX8_sings_81 at h
  refine lv_bipush (v := 6) hx hb dX8_sings_81 (by decide) ?_
  refine lv_iload_n hx hb dX8_sings_83 rfl (lv_at hl 2 rfl) ?_
  replace h := bnd h; obtain ⟨q22, e23, h⟩ := h
  refine wrVi (ws1 := [(a_m, .inr (8, [.ref a_ms, .ref a_mw, .ref a_mv, .ref a_mp, .ref a_mf, .int m_chg, .int q22.2.1, .int q22.2.2.1, .int q22.2.2.2.1, .int q22.2.2.2.2, .int m_err, .int m_ans, .int m_sav, .int m_net, .ref a_ml, .int m_lin, .ref a_mt, .ref a_mc, .int m_tap, .int m_her, .int m_cmd])), (a_ms, .inl (T 0, 103, .inl v_ms))]) C hE hP hD hS hA (kX8_isRefused l D T a_m a_ms a_mw a_mv a_mp a_mf a_ml a_mt a_mc m_chg m_thr m_rea m_det m_ref m_err m_ans m_sav m_net m_lin m_tap m_her m_cmd x1 6 l2 _ q22 e23) mX8_isRefused qLX8_99 [0] [1] 0 rfl rfl rfl rfl rfl rfl rfl rfl rfl ⟨rfl, rfl⟩ ⟨Nat.le_of_ble_eq_true rfl, Nat.le_of_ble_eq_true rfl⟩ rfl hl.1 rfl (Nat.le_of_ble_eq_true rfl) dX8_sings_84 ⟨Nat.le_of_ble_eq_true rfl, Nat.le_of_ble_eq_true rfl⟩ ?_; clear hP hD hS; intro H locs hP hD hS
  refine lv_if_eq (tgt := 92) hx hb dX8_sings_87 (by decide) (fun c24 => ?_) (fun c24 => ?_)
  · replace h := ite_t c24 h
    refine lv_aload_n hx hb dX8_sings_92 rfl (lv_at hl 0 rfl) ?_
    refine lv_iload_n hx hb dX8_sings_93 rfl (lv_at hl 1 rfl) ?_
    refine lv_iconst (v := 5) hx hb dX8_sings_94 (by decide) ?_
    refine lv_iconst (v := 1) hx hb dX8_sings_95 (by decide) ?_
    replace h := bnd h; obtain ⟨q25, e26, h⟩ := h
    refine wrVv (ws1 := [(a_m, .inr (8, [.ref a_ms, .ref a_mw, .ref a_mv, .ref a_mp, .ref a_mf, .int m_chg, .int q22.2.1, .int q22.2.2.1, .int q22.2.2.2.1, .int q22.2.2.2.2, .int m_err, .int m_ans, .int m_sav, .int m_net, .ref a_ml, .int m_lin, .ref a_mt, .ref a_mc, .int m_tap, .int m_her, .int m_cmd])), (a_ms, .inl (T 0, 103, .inl q25))]) C hE hP hD hS hA (kX8_sets l D T a_m a_ms a_mw a_mv a_mp a_mf a_ml a_mt a_mc m_chg q22.2.1 q22.2.2.1 q22.2.2.2.1 q22.2.2.2.2 m_err m_ans m_sav m_net m_lin m_tap m_her m_cmd v_ms l1 5 1 _ q25 e26) mX8_sets qLX8_103 [0, 1] [] 0 rfl rfl rfl rfl rfl rfl rfl rfl rfl ⟨rfl, rfl⟩ ⟨Nat.le_of_ble_eq_true rfl, Nat.le_of_ble_eq_true rfl⟩ rfl hl.1 rfl (Nat.le_of_ble_eq_true rfl) dX8_sings_96 ⟨Nat.le_of_ble_eq_true rfl, Nat.le_of_ble_eq_true rfl⟩ ?_; clear hP hD hS; intro H locs hP hD hS
    refine lv_aload_n hx hb dX8_sings_99 rfl (lv_at hl 0 rfl) ?_
    refine lv_iload_n hx hb dX8_sings_100 rfl (lv_at hl 1 rfl) ?_
    refine lv_iconst (v := 3) hx hb dX8_sings_101 (by decide) ?_
    refine lv_iload_n hx hb dX8_sings_102 rfl (lv_at hl 2 rfl) ?_
    refine lv_iconst (v := 1) hx hb dX8_sings_103 (by decide) ?_
    refine lv_isub hx hb dX8_sings_104 ?_
    replace h := bnd h; obtain ⟨q27, e28, h⟩ := h
    refine wrVv (ws1 := [(a_m, .inr (8, [.ref a_ms, .ref a_mw, .ref a_mv, .ref a_mp, .ref a_mf, .int m_chg, .int q22.2.1, .int q22.2.2.1, .int q22.2.2.2.1, .int q22.2.2.2.2, .int m_err, .int m_ans, .int m_sav, .int m_net, .ref a_ml, .int m_lin, .ref a_mt, .ref a_mc, .int m_tap, .int m_her, .int m_cmd])), (a_ms, .inl (T 0, 103, .inl q27))]) C hE hP hD hS hA (kX8_sets l D T a_m a_ms a_mw a_mv a_mp a_mf a_ml a_mt a_mc m_chg q22.2.1 q22.2.2.1 q22.2.2.2.1 q22.2.2.2.2 m_err m_ans m_sav m_net m_lin m_tap m_her m_cmd q25 l1 3 (l2 - 1) _ q27 e28) mX8_sets qLX8_103 [0, 1] [] 0 rfl rfl rfl rfl rfl rfl rfl rfl rfl ⟨rfl, rfl⟩ ⟨Nat.le_of_ble_eq_true rfl, Nat.le_of_ble_eq_true rfl⟩ rfl hl.1 rfl (Nat.le_of_ble_eq_true rfl) dX8_sings_105 ⟨Nat.le_of_ble_eq_true rfl, Nat.le_of_ble_eq_true rfl⟩ ?_; clear hP hD hS; intro H locs hP hD hS
    refine lv_aload_n hx hb dX8_sings_108 rfl (lv_at hl 0 rfl) ?_
    refine lv_iload_n hx hb dX8_sings_109 rfl (lv_at hl 2 rfl) ?_
    refine lv_iconst (v := 1) hx hb dX8_sings_110 (by decide) ?_
    refine lv_isub hx hb dX8_sings_111 ?_
    replace h := bnd h; obtain ⟨q29, e30, h⟩ := h
    refine wrVi (ws1 := [(a_m, .inr (8, [.ref a_ms, .ref a_mw, .ref a_mv, .ref a_mp, .ref a_mf, .int m_chg, .int q22.2.1, .int q22.2.2.1, .int q22.2.2.2.1, .int q22.2.2.2.2, .int m_err, .int m_ans, .int m_sav, .int m_net, .ref a_ml, .int m_lin, .ref a_mt, .ref a_mc, .int m_tap, .int m_her, .int m_cmd])), (a_ms, .inl (T 0, 103, .inl q29.2))]) C hE hP hD hS hA (kX8_strokes l D T a_m a_ms a_mw a_mv a_mp a_mf a_ml a_mt a_mc m_chg q22.2.1 q22.2.2.1 q22.2.2.2.1 q22.2.2.2.2 m_err m_ans m_sav m_net m_lin m_tap m_her m_cmd q27 (l2 - 1) _ q29 e30) mX8_strokes qLX8_130 [0, 1] [] 0 rfl rfl rfl rfl rfl rfl rfl rfl rfl ⟨rfl, rfl⟩ ⟨Nat.le_of_ble_eq_true rfl, Nat.le_of_ble_eq_true rfl⟩ rfl hl.1 rfl (Nat.le_of_ble_eq_true rfl) dX8_sings_112 ⟨Nat.le_of_ble_eq_true rfl, Nat.le_of_ble_eq_true rfl⟩ ?_; clear hP hD hS; intro H locs hP hD hS
    replace h := Option.some.inj h
    exact hret _ _ _ _ _ _ dX8_sings_115 rfl (by rw [← h] <;> rfl) (by rw [← h]; exact hP) hS
  · replace h := ite_f c24 h
    refine lv_iconst (v := 0) hx hb dX8_sings_90 (by decide) ?_
    replace h := Option.some.inj h
    exact hret _ _ _ _ _ _ dX8_sings_91 rfl (by rw [← h] <;> rfl) (by rw [← h]; exact hP) hS
set_option maxHeartbeats 4000000 in
set_option maxRecDepth 100000 in
theorem lX8_sings_61 {p : Program} {l : Launch} {e : Env} {s : State} {m : MethodId} {args : Array Value} {below : List Frame} {meth : Method} {c : Code} {Q : State → Prop} {D : va_G} {T : Nat → ClassId} {a_m a_ms a_mw a_mv a_mp a_mf a_ml a_mt a_mc : Nat} {m_chg : Int32} {m_err : Int32} {m_ans : Int32} {m_sav : Int32} {m_net : Int32} {m_lin : Int32} {m_tap : Int32} {m_her : Int32} {m_cmd : Int32} {A : Nat → Prop} {r : Int32 × Int32 × Int32 × Int32 × Int32 × (Nat → Int32)} (C : CallFix p m c cX8_sings 3 s args aw RX8) (hE : eK D T s) (hA : ∀ q : Nat, s.heap.size ≤ q → A q) (hret : WrRet p l e ({ frames := 2, cells := 0, slots := 0, locals := 45 } : Room) s m args below meth c Q cX8_sings .int D A [(a_m, .inr (8, [.ref a_ms, .ref a_mw, .ref a_mv, .ref a_mp, .ref a_mf, .int m_chg, .int r.2.1, .int r.2.2.1, .int r.2.2.2.1, .int r.2.2.2.2.1, .int m_err, .int m_ans, .int m_sav, .int m_net, .ref a_ml, .int m_lin, .ref a_mt, .ref a_mc, .int m_tap, .int m_her, .int m_cmd])), (a_ms, .inl (T 0, 103, .inl r.2.2.2.2.2))] r.1) (x1 : Int32) (l1 : Int32) (l2 : Int32) (m_thr : Int32) (m_rea : Int32) (m_det : Int32) (m_ref : Int32) (v_ms : Nat → Int32) {H : Heap} {locs : List Loc} (hPD : va_PD D A [(a_m, .inr (8, [.ref a_ms, .ref a_mw, .ref a_mv, .ref a_mp, .ref a_mf, .int m_chg, .int m_thr, .int m_rea, .int m_det, .int m_ref, .int m_err, .int m_ans, .int m_sav, .int m_net, .ref a_ml, .int m_lin, .ref a_mt, .ref a_mc, .int m_tap, .int m_her, .int m_cmd])), (a_ms, .inl (T 0, 103, .inl v_ms))] H) (hS : va_S A s.heap H locs) (ls : Array Slot) (hl : lv_has ls 3 [(0, .ref a_m), (1, .int l1), (2, .int l2)]) (h : fX8_sings_61 x1 l1 l2 m_thr m_rea m_det m_ref v_ms = some r) : W p l e ({ frames := 2, cells := 0, slots := 0, locals := 45 } : Room) s m args below meth c H locs 0 0 Q (F0 m 61 ls [.int x1, .ref a_m]) := by
  have hx := C.1
  have hb := C.2.1
  obtain ⟨hP, hD⟩ := hPD
  unfold fX8_sings_61 at h
  refine lv_bipush (v := 11) hx hb dX8_sings_61 (by decide) ?_
  refine lv_iload_n hx hb dX8_sings_63 rfl (lv_at hl 1 rfl) ?_
  replace h := bnd h; obtain ⟨q18, e19, h⟩ := h
  refine wrVi (ws1 := [(a_m, .inr (8, [.ref a_ms, .ref a_mw, .ref a_mv, .ref a_mp, .ref a_mf, .int m_chg, .int q18.2.1, .int q18.2.2.1, .int q18.2.2.2.1, .int q18.2.2.2.2, .int m_err, .int m_ans, .int m_sav, .int m_net, .ref a_ml, .int m_lin, .ref a_mt, .ref a_mc, .int m_tap, .int m_her, .int m_cmd])), (a_ms, .inl (T 0, 103, .inl v_ms))]) C hE hP hD hS hA (kX8_isRefused l D T a_m a_ms a_mw a_mv a_mp a_mf a_ml a_mt a_mc m_chg m_thr m_rea m_det m_ref m_err m_ans m_sav m_net m_lin m_tap m_her m_cmd x1 11 l1 _ q18 e19) mX8_isRefused qLX8_99 [0] [1] 0 rfl rfl rfl rfl rfl rfl rfl rfl rfl ⟨rfl, rfl⟩ ⟨Nat.le_of_ble_eq_true rfl, Nat.le_of_ble_eq_true rfl⟩ rfl hl.1 rfl (Nat.le_of_ble_eq_true rfl) dX8_sings_64 ⟨Nat.le_of_ble_eq_true rfl, Nat.le_of_ble_eq_true rfl⟩ ?_; clear hP hD hS; intro H locs hP hD hS
  refine lv_if_ne (tgt := 90) hx hb dX8_sings_67 (by decide) (fun c20 => ?_) (fun c20 => ?_)
  · replace h := ite_f c20 h
    refine lv_iconst (v := 0) hx hb dX8_sings_90 (by decide) ?_
    replace h := Option.some.inj h
    exact hret _ _ _ _ _ _ dX8_sings_91 rfl (by rw [← h] <;> rfl) (by rw [← h]; exact hP) hS
  · replace h := ite_t c20 h
    refine lv_aload_n hx hb dX8_sings_70 rfl (lv_at hl 0 rfl) ?_
    refine lv_iload_n hx hb dX8_sings_71 rfl (lv_at hl 2 rfl) ?_
    refine lv_iconst (v := 1) hx hb dX8_sings_72 (by decide) ?_
    refine lv_icmp_ge (tgt := 80) hx hb dX8_sings_73 (by decide) (fun c21 => ?_) (fun c21 => ?_)
    · rw [if_pos c21] at h
      refine lv_iconst (v := 0) hx hb dX8_sings_80 (by decide) ?_
      exact lX8_sings_81 C hE hA hret 0 l1 l2 q18.2.1 q18.2.2.1 q18.2.2.2.1 q18.2.2.2.2 v_ms ⟨hP, hD⟩ hS _ (lv_sub hl [0, 1, 2] rfl) h
    · rw [if_neg c21] at h
      refine lv_iconst (v := 1) hx hb dX8_sings_76 (by decide) ?_
      refine lv_goto (tgt := 81) hx hb dX8_sings_77 (by decide) ?_
      exact lX8_sings_81 C hE hA hret 1 l1 l2 q18.2.1 q18.2.2.1 q18.2.2.2.1 q18.2.2.2.2 v_ms ⟨hP, hD⟩ hS _ (lv_sub hl [0, 1, 2] rfl) h
set_option maxHeartbeats 4000000 in
set_option maxRecDepth 100000 in
theorem lX8_sings_14 {p : Program} {l : Launch} {e : Env} {s : State} {m : MethodId} {args : Array Value} {below : List Frame} {meth : Method} {c : Code} {Q : State → Prop} {D : va_G} {T : Nat → ClassId} {a_m a_ms a_mw a_mv a_mp a_mf a_ml a_mt a_mc : Nat} {m_chg : Int32} {m_err : Int32} {m_ans : Int32} {m_sav : Int32} {m_net : Int32} {m_lin : Int32} {m_tap : Int32} {m_her : Int32} {m_cmd : Int32} {A : Nat → Prop} {r : Int32 × Int32 × Int32 × Int32 × Int32 × (Nat → Int32)} (C : CallFix p m c cX8_sings 3 s args aw RX8) (hE : eK D T s) (hA : ∀ q : Nat, s.heap.size ≤ q → A q) (hret : WrRet p l e ({ frames := 2, cells := 0, slots := 0, locals := 45 } : Room) s m args below meth c Q cX8_sings .int D A [(a_m, .inr (8, [.ref a_ms, .ref a_mw, .ref a_mv, .ref a_mp, .ref a_mf, .int m_chg, .int r.2.1, .int r.2.2.1, .int r.2.2.2.1, .int r.2.2.2.2.1, .int m_err, .int m_ans, .int m_sav, .int m_net, .ref a_ml, .int m_lin, .ref a_mt, .ref a_mc, .int m_tap, .int m_her, .int m_cmd])), (a_ms, .inl (T 0, 103, .inl r.2.2.2.2.2))] r.1) (x1 : Int32) (l1 : Int32) (m_thr : Int32) (m_rea : Int32) (m_det : Int32) (m_ref : Int32) (v_ms : Nat → Int32) {H : Heap} {locs : List Loc} (hPD : va_PD D A [(a_m, .inr (8, [.ref a_ms, .ref a_mw, .ref a_mv, .ref a_mp, .ref a_mf, .int m_chg, .int m_thr, .int m_rea, .int m_det, .int m_ref, .int m_err, .int m_ans, .int m_sav, .int m_net, .ref a_ml, .int m_lin, .ref a_mt, .ref a_mc, .int m_tap, .int m_her, .int m_cmd])), (a_ms, .inl (T 0, 103, .inl v_ms))] H) (hS : va_S A s.heap H locs) (ls : Array Slot) (hl : lv_has ls 3 [(0, .ref a_m), (1, .int l1)]) (h : fX8_sings_14 x1 l1 m_thr m_rea m_det m_ref v_ms = some r) : W p l e ({ frames := 2, cells := 0, slots := 0, locals := 45 } : Room) s m args below meth c H locs 0 0 Q (F0 m 14 ls [.int x1, .ref a_m]) := by
  have hx := C.1
  have hb := C.2.1
  obtain ⟨hP, hD⟩ := hPD
  unfold fX8_sings_14 at h
  refine lv_iconst (v := 1) hx hb dX8_sings_14 (by decide) ?_
  replace h := bnd h; obtain ⟨q4, e5, h⟩ := h
  refine wrVi (ws1 := [(a_m, .inr (8, [.ref a_ms, .ref a_mw, .ref a_mv, .ref a_mp, .ref a_mf, .int m_chg, .int q4.2, .int m_rea, .int m_det, .int m_ref, .int m_err, .int m_ans, .int m_sav, .int m_net, .ref a_ml, .int m_lin, .ref a_mt, .ref a_mc, .int m_tap, .int m_her, .int m_cmd])), (a_ms, .inl (T 0, 103, .inl v_ms))]) C hE hP hD hS hA (kX8_isThrown l D T a_m a_ms a_mw a_mv a_mp a_mf a_ml a_mt a_mc m_chg m_thr m_rea m_det m_ref m_err m_ans m_sav m_net m_lin m_tap m_her m_cmd x1 1 _ q4 e5) mX8_isThrown qLX8_80 [0] [1] 0 rfl rfl rfl rfl rfl rfl rfl rfl rfl ⟨rfl, rfl⟩ ⟨Nat.le_of_ble_eq_true rfl, Nat.le_of_ble_eq_true rfl⟩ rfl hl.1 rfl (Nat.le_of_ble_eq_true rfl) dX8_sings_15 ⟨Nat.le_of_ble_eq_true rfl, Nat.le_of_ble_eq_true rfl⟩ ?_; clear hP hD hS; intro H locs hP hD hS
  refine lv_if_ne (tgt := 36) hx hb dX8_sings_18 (by decide) (fun c6 => ?_) (fun c6 => ?_)
  · replace h := ite_f c6 h
    refine lv_iconst (v := 0) hx hb dX8_sings_36 (by decide) ?_
    replace h := Option.some.inj h
    exact hret _ _ _ _ _ _ dX8_sings_37 rfl (by rw [← h] <;> rfl) (by rw [← h]; exact hP) hS
  · replace h := ite_t c6 h
    refine lv_aload_n hx hb dX8_sings_21 rfl (lv_at hl 0 rfl) ?_
    replace h := bnd h; obtain ⟨q7, e8, h⟩ := h
    refine wrVi (ws1 := [(a_m, .inr (8, [.ref a_ms, .ref a_mw, .ref a_mv, .ref a_mp, .ref a_mf, .int m_chg, .int q7.2.1, .int q7.2.2.1, .int q7.2.2.2.1, .int q7.2.2.2.2, .int m_err, .int m_ans, .int m_sav, .int m_net, .ref a_ml, .int m_lin, .ref a_mt, .ref a_mc, .int m_tap, .int m_her, .int m_cmd])), (a_ms, .inl (T 0, 103, .inl v_ms))]) C hE hP hD hS hA (kX8_isOver l D T a_m a_ms a_mw a_mv a_mp a_mf a_ml a_mt a_mc m_chg q4.2 m_rea m_det m_ref m_err m_ans m_sav m_net m_lin m_tap m_her m_cmd v_ms _ q7 e8) mX8_isOver qLX8_123 [0, 1] [] 0 rfl rfl rfl rfl rfl rfl rfl rfl rfl ⟨rfl, rfl⟩ ⟨Nat.le_of_ble_eq_true rfl, Nat.le_of_ble_eq_true rfl⟩ rfl hl.1 rfl (Nat.le_of_ble_eq_true rfl) dX8_sings_22 ⟨Nat.le_of_ble_eq_true rfl, Nat.le_of_ble_eq_true rfl⟩ ?_; clear hP hD hS; intro H locs hP hD hS
    refine lv_if_ne (tgt := 36) hx hb dX8_sings_25 (by decide) (fun c9 => ?_) (fun c9 => ?_)
    · replace h := ite_f c9 h
      refine lv_iconst (v := 0) hx hb dX8_sings_36 (by decide) ?_
      replace h := Option.some.inj h
      exact hret _ _ _ _ _ _ dX8_sings_37 rfl (by rw [← h] <;> rfl) (by rw [← h]; exact hP) hS
    · replace h := ite_t c9 h
      refine lv_aload_n hx hb dX8_sings_28 rfl (lv_at hl 0 rfl) ?_
      refine lv_iload_n hx hb dX8_sings_29 rfl (lv_at hl 1 rfl) ?_
      replace h := bnd h; obtain ⟨q10, e11, h⟩ := h
      refine wrVi (ws1 := [(a_m, .inr (8, [.ref a_ms, .ref a_mw, .ref a_mv, .ref a_mp, .ref a_mf, .int m_chg, .int q10.2.1, .int q10.2.2.1, .int q10.2.2.2.1, .int q10.2.2.2.2, .int m_err, .int m_ans, .int m_sav, .int m_net, .ref a_ml, .int m_lin, .ref a_mt, .ref a_mc, .int m_tap, .int m_her, .int m_cmd])), (a_ms, .inl (T 0, 103, .inl v_ms))]) C hE hP hD hS hA (kX8_isOnBench l D T a_m a_ms a_mw a_mv a_mp a_mf a_ml a_mt a_mc m_chg q7.2.1 q7.2.2.1 q7.2.2.2.1 q7.2.2.2.2 m_err m_ans m_sav m_net m_lin m_tap m_her m_cmd v_ms l1 _ q10 e11) mX8_isOnBench qLX8_127 [0, 1] [] 0 rfl rfl rfl rfl rfl rfl rfl rfl rfl ⟨rfl, rfl⟩ ⟨Nat.le_of_ble_eq_true rfl, Nat.le_of_ble_eq_true rfl⟩ rfl hl.1 rfl (Nat.le_of_ble_eq_true rfl) dX8_sings_30 ⟨Nat.le_of_ble_eq_true rfl, Nat.le_of_ble_eq_true rfl⟩ ?_; clear hP hD hS; intro H locs hP hD hS
      refine lv_if_eq (tgt := 38) hx hb dX8_sings_33 (by decide) (fun c12 => ?_) (fun c12 => ?_)
      · replace h := ite_t c12 h
        refine lv_aload_n hx hb dX8_sings_38 rfl (lv_at hl 0 rfl) ?_
        refine lv_iload_n hx hb dX8_sings_39 rfl (lv_at hl 1 rfl) ?_
        refine lv_iconst (v := 3) hx hb dX8_sings_40 (by decide) ?_
        replace h := bnd h; obtain ⟨q13, e14, h⟩ := h
        refine rdV C hE hP (kX8_of l D T a_m a_ms a_mw a_mv a_mp a_mf a_ml a_mt a_mc m_chg q10.2.1 q10.2.2.1 q10.2.2.2.1 q10.2.2.2.2 m_err m_ans m_sav m_net m_lin m_tap m_her m_cmd v_ms l1 3 q13 e14) mX8_of qLX8_90 [0, 1] 0 rfl rfl rfl rfl ⟨rfl, rfl⟩ ⟨Nat.le_of_ble_eq_true rfl, Nat.le_of_ble_eq_true rfl⟩ rfl hl.1 rfl (Nat.le_of_ble_eq_true rfl) dX8_sings_41 ⟨Nat.le_of_ble_eq_true rfl, Nat.le_of_ble_eq_true rfl⟩ ?_
        refine lv_istore_n (lv' := [(2, .int q13), (0, .ref a_m), (1, .int l1)]) hx hb dX8_sings_44 rfl hl (by decide) rfl (fun ls hl => ?_)
        refine lv_aload_n hx hb dX8_sings_45 rfl (lv_at hl 1 rfl) ?_
        refine lv_aload_n hx hb dX8_sings_46 rfl (lv_at hl 1 rfl) ?_
        refine lv_iload_n hx hb dX8_sings_47 rfl (lv_at hl 2 rfl) ?_
        refine lv_iconst (v := 5) hx hb dX8_sings_48 (by decide) ?_
        replace h := bnd h; obtain ⟨q15, e16, h⟩ := h
        refine rdV C hE hP (kX8_of l D T a_m a_ms a_mw a_mv a_mp a_mf a_ml a_mt a_mc m_chg q10.2.1 q10.2.2.1 q10.2.2.2.1 q10.2.2.2.2 m_err m_ans m_sav m_net m_lin m_tap m_her m_cmd v_ms l1 5 q15 e16) mX8_of qLX8_90 [0, 1] 0 rfl rfl rfl rfl ⟨rfl, rfl⟩ ⟨Nat.le_of_ble_eq_true rfl, Nat.le_of_ble_eq_true rfl⟩ rfl hl.1 rfl (Nat.le_of_ble_eq_true rfl) dX8_sings_49 ⟨Nat.le_of_ble_eq_true rfl, Nat.le_of_ble_eq_true rfl⟩ ?_
        refine lv_iconst (v := 1) hx hb dX8_sings_52 (by decide) ?_
        refine lv_icmp_ne (tgt := 60) hx hb dX8_sings_53 (by decide) (fun c17 => ?_) (fun c17 => ?_)
        · rw [if_neg c17] at h
          refine lv_iconst (v := 0) hx hb dX8_sings_60 (by decide) ?_
          exact lX8_sings_61 C hE hA hret 0 l1 q13 q10.2.1 q10.2.2.1 q10.2.2.2.1 q10.2.2.2.2 v_ms ⟨hP, hD⟩ hS _ (lv_sub hl [1, 2, 0] rfl) h
        · rw [if_pos c17] at h
          refine lv_iconst (v := 1) hx hb dX8_sings_56 (by decide) ?_
          refine lv_goto (tgt := 61) hx hb dX8_sings_57 (by decide) ?_
          exact lX8_sings_61 C hE hA hret 1 l1 q13 q10.2.1 q10.2.2.1 q10.2.2.2.1 q10.2.2.2.2 v_ms ⟨hP, hD⟩ hS _ (lv_sub hl [1, 2, 0] rfl) h
      · replace h := ite_f c12 h
        refine lv_iconst (v := 0) hx hb dX8_sings_36 (by decide) ?_
        replace h := Option.some.inj h
        exact hret _ _ _ _ _ _ dX8_sings_37 rfl (by rw [← h] <;> rfl) (by rw [← h]; exact hP) hS
set_option maxHeartbeats 4000000 in
set_option maxRecDepth 100000 in
theorem kX8_sings (l : Launch) (D : va_G) (T : Nat → ClassId) (a_m a_ms a_mw a_mv a_mp a_mf a_ml a_mt a_mc : Nat) (m_chg : Int32) (m_thr : Int32) (m_rea : Int32) (m_det : Int32) (m_ref : Int32) (m_err : Int32) (m_ans : Int32) (m_sav : Int32) (m_net : Int32) (m_lin : Int32) (m_tap : Int32) (m_her : Int32) (m_cmd : Int32) (v_ms : Nat → Int32) (p0 : Int32) (sz : Nat) (r : Int32 × Int32 × Int32 × Int32 × Int32 × (Nat → Int32)) (h : fX8_sings m_thr m_rea m_det m_ref v_ms p0 = some r) : WrI l yX8_sings cX8_sings 3 .int ({ frames := 2, cells := 0, slots := 0, locals := 45 } : Room) D T sz [(a_m, .inr (8, [.ref a_ms, .ref a_mw, .ref a_mv, .ref a_mp, .ref a_mf, .int m_chg, .int m_thr, .int m_rea, .int m_det, .int m_ref, .int m_err, .int m_ans, .int m_sav, .int m_net, .ref a_ml, .int m_lin, .ref a_mt, .ref a_mc, .int m_tap, .int m_her, .int m_cmd])), (a_ms, .inl (T 0, 103, .inl v_ms))] [(a_m, .inr (8, [.ref a_ms, .ref a_mw, .ref a_mv, .ref a_mp, .ref a_mf, .int m_chg, .int r.2.1, .int r.2.2.1, .int r.2.2.2.1, .int r.2.2.2.2.1, .int m_err, .int m_ans, .int m_sav, .int m_net, .ref a_ml, .int m_lin, .ref a_mt, .ref a_mc, .int m_tap, .int m_her, .int m_cmd])), (a_ms, .inl (T 0, 103, .inl r.2.2.2.2.2))] [.ref a_m, .int p0] r.1 := by
  unfold fX8_sings at h
  refine wrMet (by decide +kernel) rfl (fun p e s m args below meth c Q A C hE hA hP hD hS hret ls hl => ?_)
  have hx := C.1
  have hb := C.2.1
  have hl : lv_has ls 3 [(0, .ref a_m), (1, .int p0)] := hl
  refine lv_aload_n hx hb dX8_sings_0 rfl (lv_at hl 0 rfl) ?_
  refine lv_aload_n hx hb dX8_sings_1 rfl (lv_at hl 0 rfl) ?_
  refine lv_iload_n hx hb dX8_sings_2 rfl (lv_at hl 1 rfl) ?_
  replace h := bnd h; obtain ⟨q1, e2, h⟩ := h
  refine rdV C hE hP (kX8_isWhale l D T a_m a_ms a_mw a_mv a_mp a_mf a_ml a_mt a_mc m_chg m_thr m_rea m_det m_ref m_err m_ans m_sav m_net m_lin m_tap m_her m_cmd v_ms p0 q1 e2) mX8_isWhale qLX8_120 [0, 1] 0 rfl rfl rfl rfl ⟨rfl, rfl⟩ ⟨Nat.le_of_ble_eq_true rfl, Nat.le_of_ble_eq_true rfl⟩ rfl hl.1 rfl (Nat.le_of_ble_eq_true rfl) dX8_sings_3 ⟨Nat.le_of_ble_eq_true rfl, Nat.le_of_ble_eq_true rfl⟩ ?_
  refine lv_if_ne (tgt := 13) hx hb dX8_sings_6 (by decide) (fun c3 => ?_) (fun c3 => ?_)
  · rw [if_neg c3] at h
    refine lv_iconst (v := 0) hx hb dX8_sings_13 (by decide) ?_
    exact lX8_sings_14 C hE hA hret 0 p0 m_thr m_rea m_det m_ref v_ms ⟨hP, hD⟩ hS _ (lv_sub hl [0, 1] rfl) h
  · rw [if_pos c3] at h
    refine lv_iconst (v := 1) hx hb dX8_sings_9 (by decide) ?_
    refine lv_goto (tgt := 14) hx hb dX8_sings_10 (by decide) ?_
    exact lX8_sings_14 C hE hA hret 1 p0 m_thr m_rea m_det m_ref v_ms ⟨hP, hD⟩ hS _ (lv_sub hl [0, 1] rfl) h

def fX8_sing (m_chg : Int32) (m_thr : Int32) (m_rea : Int32) (m_det : Int32) (m_ref : Int32) (v_ms : Nat → Int32) (v_mw : Nat → Int32) (v_mp : Nat → Int32) (p0 : Int32) : Option (Int32 × Int32 × Int32 × Int32 × Int32 × Int32 × (Nat → Int32) × (Nat → Int32) × (Nat → Int32)) :=
  (fX8_keeps m_thr v_ms v_mw).bind fun q1 =>
  (fX8_sings q1.1 m_rea m_det m_ref v_ms p0).bind fun q3 =>
  (fX8_ends m_chg q3.2.1 q1.2 v_mp q3.1 2).bind fun q5 =>
  some (q5.1, q5.2.1, q5.2.2.1, q3.2.2.1, q3.2.2.2.1, q3.2.2.2.2.1, q3.2.2.2.2.2, q1.2, q5.2.2.2)
set_option maxHeartbeats 4000000 in
set_option maxRecDepth 100000 in
theorem kX8_sing (l : Launch) (D : va_G) (T : Nat → ClassId) (a_m a_ms a_mw a_mv a_mp a_mf a_ml a_mt a_mc : Nat) (m_chg : Int32) (m_thr : Int32) (m_rea : Int32) (m_det : Int32) (m_ref : Int32) (m_err : Int32) (m_ans : Int32) (m_sav : Int32) (m_net : Int32) (m_lin : Int32) (m_tap : Int32) (m_her : Int32) (m_cmd : Int32) (v_ms : Nat → Int32) (v_mw : Nat → Int32) (v_mp : Nat → Int32) (p0 : Int32) (sz : Nat) (r : Int32 × Int32 × Int32 × Int32 × Int32 × Int32 × (Nat → Int32) × (Nat → Int32) × (Nat → Int32)) (h : fX8_sing m_chg m_thr m_rea m_det m_ref v_ms v_mw v_mp p0 = some r) : WrI l yX8_sing cX8_sing 2 .int ({ frames := 3, cells := 0, slots := 0, locals := 67 } : Room) D T sz [(a_m, .inr (8, [.ref a_ms, .ref a_mw, .ref a_mv, .ref a_mp, .ref a_mf, .int m_chg, .int m_thr, .int m_rea, .int m_det, .int m_ref, .int m_err, .int m_ans, .int m_sav, .int m_net, .ref a_ml, .int m_lin, .ref a_mt, .ref a_mc, .int m_tap, .int m_her, .int m_cmd])), (a_ms, .inl (T 0, 103, .inl v_ms)), (a_mw, .inl (T 0, 103, .inl v_mw)), (a_mp, .inl (T 0, 618, .inl v_mp))] [(a_m, .inr (8, [.ref a_ms, .ref a_mw, .ref a_mv, .ref a_mp, .ref a_mf, .int r.2.1, .int r.2.2.1, .int r.2.2.2.1, .int r.2.2.2.2.1, .int r.2.2.2.2.2.1, .int m_err, .int m_ans, .int m_sav, .int m_net, .ref a_ml, .int m_lin, .ref a_mt, .ref a_mc, .int m_tap, .int m_her, .int m_cmd])), (a_ms, .inl (T 0, 103, .inl r.2.2.2.2.2.2.1)), (a_mw, .inl (T 0, 103, .inl r.2.2.2.2.2.2.2.1)), (a_mp, .inl (T 0, 618, .inl r.2.2.2.2.2.2.2.2))] [.ref a_m, .int p0] r.1 := by
  unfold fX8_sing at h
  refine wrMet (by decide +kernel) rfl (fun p e s m args below meth c Q A C hE hA hP hD hS hret ls hl => ?_)
  have hx := C.1
  have hb := C.2.1
  have hl : lv_has ls 2 [(0, .ref a_m), (1, .int p0)] := hl
  refine lv_aload_n hx hb dX8_sing_0 rfl (lv_at hl 0 rfl) ?_
  replace h := bnd h; obtain ⟨q1, e2, h⟩ := h
  refine wrVv (ws1 := [(a_m, .inr (8, [.ref a_ms, .ref a_mw, .ref a_mv, .ref a_mp, .ref a_mf, .int m_chg, .int q1.1, .int m_rea, .int m_det, .int m_ref, .int m_err, .int m_ans, .int m_sav, .int m_net, .ref a_ml, .int m_lin, .ref a_mt, .ref a_mc, .int m_tap, .int m_her, .int m_cmd])), (a_ms, .inl (T 0, 103, .inl v_ms)), (a_mw, .inl (T 0, 103, .inl q1.2)), (a_mp, .inl (T 0, 618, .inl v_mp))]) C hE hP hD hS hA (kX8_keeps l D T a_m a_ms a_mw a_mv a_mp a_mf a_ml a_mt a_mc m_chg m_thr m_rea m_det m_ref m_err m_ans m_sav m_net m_lin m_tap m_her m_cmd v_ms v_mw _ q1 e2) mX8_keeps qLX8_107 [0, 1, 2] [3] 0 rfl rfl rfl rfl rfl rfl rfl rfl rfl ⟨rfl, rfl⟩ ⟨Nat.le_of_ble_eq_true rfl, Nat.le_of_ble_eq_true rfl⟩ rfl hl.1 rfl (Nat.le_of_ble_eq_true rfl) dX8_sing_1 ⟨Nat.le_of_ble_eq_true rfl, Nat.le_of_ble_eq_true rfl⟩ ?_; clear hP hD hS; intro H locs hP hD hS
  refine lv_aload_n hx hb dX8_sing_4 rfl (lv_at hl 0 rfl) ?_
  refine lv_aload_n hx hb dX8_sing_5 rfl (lv_at hl 0 rfl) ?_
  refine lv_iload_n hx hb dX8_sing_6 rfl (lv_at hl 1 rfl) ?_
  replace h := bnd h; obtain ⟨q3, e4, h⟩ := h
  refine wrVi (ws1 := [(a_m, .inr (8, [.ref a_ms, .ref a_mw, .ref a_mv, .ref a_mp, .ref a_mf, .int m_chg, .int q3.2.1, .int q3.2.2.1, .int q3.2.2.2.1, .int q3.2.2.2.2.1, .int m_err, .int m_ans, .int m_sav, .int m_net, .ref a_ml, .int m_lin, .ref a_mt, .ref a_mc, .int m_tap, .int m_her, .int m_cmd])), (a_ms, .inl (T 0, 103, .inl q3.2.2.2.2.2)), (a_mw, .inl (T 0, 103, .inl q1.2)), (a_mp, .inl (T 0, 618, .inl v_mp))]) C hE hP hD hS hA (kX8_sings l D T a_m a_ms a_mw a_mv a_mp a_mf a_ml a_mt a_mc m_chg q1.1 m_rea m_det m_ref m_err m_ans m_sav m_net m_lin m_tap m_her m_cmd v_ms p0 _ q3 e4) mX8_sings qLX8_183 [0, 1] [2, 3] 0 rfl rfl rfl rfl rfl rfl rfl rfl rfl ⟨rfl, rfl⟩ ⟨Nat.le_of_ble_eq_true rfl, Nat.le_of_ble_eq_true rfl⟩ rfl hl.1 rfl (Nat.le_of_ble_eq_true rfl) dX8_sing_7 ⟨Nat.le_of_ble_eq_true rfl, Nat.le_of_ble_eq_true rfl⟩ ?_; clear hP hD hS; intro H locs hP hD hS
  refine lv_iconst (v := 2) hx hb dX8_sing_10 (by decide) ?_
  replace h := bnd h; obtain ⟨q5, e6, h⟩ := h
  refine wrVi (ws1 := [(a_m, .inr (8, [.ref a_ms, .ref a_mw, .ref a_mv, .ref a_mp, .ref a_mf, .int q5.2.1, .int q5.2.2.1, .int q3.2.2.1, .int q3.2.2.2.1, .int q3.2.2.2.2.1, .int m_err, .int m_ans, .int m_sav, .int m_net, .ref a_ml, .int m_lin, .ref a_mt, .ref a_mc, .int m_tap, .int m_her, .int m_cmd])), (a_ms, .inl (T 0, 103, .inl q3.2.2.2.2.2)), (a_mw, .inl (T 0, 103, .inl q1.2)), (a_mp, .inl (T 0, 618, .inl q5.2.2.2))]) C hE hP hD hS hA (kX8_ends l D T a_m a_ms a_mw a_mv a_mp a_mf a_ml a_mt a_mc m_chg q3.2.1 q3.2.2.1 q3.2.2.2.1 q3.2.2.2.2.1 m_err m_ans m_sav m_net m_lin m_tap m_her m_cmd q1.2 v_mp q3.1 2 _ q5 e6) mX8_ends qLX8_114 [0, 2, 3] [1] 0 rfl rfl rfl rfl rfl rfl rfl rfl rfl ⟨rfl, rfl⟩ ⟨Nat.le_of_ble_eq_true rfl, Nat.le_of_ble_eq_true rfl⟩ rfl hl.1 rfl (Nat.le_of_ble_eq_true rfl) dX8_sing_11 ⟨Nat.le_of_ble_eq_true rfl, Nat.le_of_ble_eq_true rfl⟩ ?_; clear hP hD hS; intro H locs hP hD hS
  replace h := Option.some.inj h
  exact hret _ _ _ _ _ _ dX8_sing_14 rfl (by rw [← h] <;> rfl) (by rw [← h]; exact hP) hS

def fX8_drifts (m_thr : Int32) (m_rea : Int32) (m_det : Int32) (m_ref : Int32) (v_ms : Nat → Int32) : Option (Int32 × Int32 × Int32 × Int32 × Int32 × (Nat → Int32)) :=
  (fX8_isOver m_thr m_rea m_det m_ref v_ms).bind fun q1 =>
  if q1.1 = 0 then
    if vin 1 103 = true then
    (fX8_strokes v_ms ((v_ms (1 : Int32).toNatClampNeg) + 1)).bind fun q5 =>
    some (q5.1, q1.2.1, q1.2.2.1, q1.2.2.2.1, q1.2.2.2.2, q5.2)
    else none
  else
    some (0, q1.2.1, q1.2.2.1, q1.2.2.2.1, q1.2.2.2.2, v_ms)
set_option maxHeartbeats 4000000 in
set_option maxRecDepth 100000 in
theorem kX8_drifts (l : Launch) (D : va_G) (T : Nat → ClassId) (a_m a_ms a_mw a_mv a_mp a_mf a_ml a_mt a_mc : Nat) (m_chg : Int32) (m_thr : Int32) (m_rea : Int32) (m_det : Int32) (m_ref : Int32) (m_err : Int32) (m_ans : Int32) (m_sav : Int32) (m_net : Int32) (m_lin : Int32) (m_tap : Int32) (m_her : Int32) (m_cmd : Int32) (v_ms : Nat → Int32) (sz : Nat) (r : Int32 × Int32 × Int32 × Int32 × Int32 × (Nat → Int32)) (h : fX8_drifts m_thr m_rea m_det m_ref v_ms = some r) : WrI l yX8_drifts cX8_drifts 1 .int ({ frames := 2, cells := 0, slots := 0, locals := 45 } : Room) D T sz [(a_m, .inr (8, [.ref a_ms, .ref a_mw, .ref a_mv, .ref a_mp, .ref a_mf, .int m_chg, .int m_thr, .int m_rea, .int m_det, .int m_ref, .int m_err, .int m_ans, .int m_sav, .int m_net, .ref a_ml, .int m_lin, .ref a_mt, .ref a_mc, .int m_tap, .int m_her, .int m_cmd])), (a_ms, .inl (T 0, 103, .inl v_ms))] [(a_m, .inr (8, [.ref a_ms, .ref a_mw, .ref a_mv, .ref a_mp, .ref a_mf, .int m_chg, .int r.2.1, .int r.2.2.1, .int r.2.2.2.1, .int r.2.2.2.2.1, .int m_err, .int m_ans, .int m_sav, .int m_net, .ref a_ml, .int m_lin, .ref a_mt, .ref a_mc, .int m_tap, .int m_her, .int m_cmd])), (a_ms, .inl (T 0, 103, .inl r.2.2.2.2.2))] [.ref a_m] r.1 := by
  unfold fX8_drifts at h
  refine wrMet (by decide +kernel) rfl (fun p e s m args below meth c Q A C hE hA hP hD hS hret ls hl => ?_)
  have hx := C.1
  have hb := C.2.1
  have hl : lv_has ls 1 [(0, .ref a_m)] := hl
  refine lv_aload_n hx hb dX8_drifts_0 rfl (lv_at hl 0 rfl) ?_
  replace h := bnd h; obtain ⟨q1, e2, h⟩ := h
  refine wrVi (ws1 := [(a_m, .inr (8, [.ref a_ms, .ref a_mw, .ref a_mv, .ref a_mp, .ref a_mf, .int m_chg, .int q1.2.1, .int q1.2.2.1, .int q1.2.2.2.1, .int q1.2.2.2.2, .int m_err, .int m_ans, .int m_sav, .int m_net, .ref a_ml, .int m_lin, .ref a_mt, .ref a_mc, .int m_tap, .int m_her, .int m_cmd])), (a_ms, .inl (T 0, 103, .inl v_ms))]) C hE hP hD hS hA (kX8_isOver l D T a_m a_ms a_mw a_mv a_mp a_mf a_ml a_mt a_mc m_chg m_thr m_rea m_det m_ref m_err m_ans m_sav m_net m_lin m_tap m_her m_cmd v_ms _ q1 e2) mX8_isOver qLX8_123 [0, 1] [] 0 rfl rfl rfl rfl rfl rfl rfl rfl rfl ⟨rfl, rfl⟩ ⟨Nat.le_of_ble_eq_true rfl, Nat.le_of_ble_eq_true rfl⟩ rfl hl.1 rfl (Nat.le_of_ble_eq_true rfl) dX8_drifts_1 ⟨Nat.le_of_ble_eq_true rfl, Nat.le_of_ble_eq_true rfl⟩ ?_; clear hP hD hS; intro H locs hP hD hS
  refine lv_if_eq (tgt := 11) hx hb dX8_drifts_4 (by decide) (fun c3 => ?_) (fun c3 => ?_)
  · replace h := ite_t c3 h
    refine lv_aload_n hx hb dX8_drifts_11 rfl (lv_at hl 0 rfl) ?_
    refine lv_aload_n hx hb dX8_drifts_12 rfl (lv_at hl 0 rfl) ?_
    refine getF (q0 := 0) (k0 := 0) (v := .ref a_ms) C hE hP inA8 rfl rfl (by decide) qFX8_9 rfl rfl dX8_drifts_13 ?_
    refine lv_iconst (v := 1) hx hb dX8_drifts_16 (by decide) ?_
    replace h := gd h; obtain ⟨g4, h⟩ := h
    refine aldI (q0 := 1) C hE hP rfl g4 dX8_drifts_17 ?_
    refine lv_iconst (v := 1) hx hb dX8_drifts_18 (by decide) ?_
    refine lv_iadd hx hb dX8_drifts_19 ?_
    replace h := bnd h; obtain ⟨q5, e6, h⟩ := h
    refine wrVi (ws1 := [(a_m, .inr (8, [.ref a_ms, .ref a_mw, .ref a_mv, .ref a_mp, .ref a_mf, .int m_chg, .int q1.2.1, .int q1.2.2.1, .int q1.2.2.2.1, .int q1.2.2.2.2, .int m_err, .int m_ans, .int m_sav, .int m_net, .ref a_ml, .int m_lin, .ref a_mt, .ref a_mc, .int m_tap, .int m_her, .int m_cmd])), (a_ms, .inl (T 0, 103, .inl q5.2))]) C hE hP hD hS hA (kX8_strokes l D T a_m a_ms a_mw a_mv a_mp a_mf a_ml a_mt a_mc m_chg q1.2.1 q1.2.2.1 q1.2.2.2.1 q1.2.2.2.2 m_err m_ans m_sav m_net m_lin m_tap m_her m_cmd v_ms ((v_ms (1 : Int32).toNatClampNeg) + 1) _ q5 e6) mX8_strokes qLX8_130 [0, 1] [] 0 rfl rfl rfl rfl rfl rfl rfl rfl rfl ⟨rfl, rfl⟩ ⟨Nat.le_of_ble_eq_true rfl, Nat.le_of_ble_eq_true rfl⟩ rfl hl.1 rfl (Nat.le_of_ble_eq_true rfl) dX8_drifts_20 ⟨Nat.le_of_ble_eq_true rfl, Nat.le_of_ble_eq_true rfl⟩ ?_; clear hP hD hS; intro H locs hP hD hS
    replace h := Option.some.inj h
    exact hret _ _ _ _ _ _ dX8_drifts_23 rfl (by rw [← h] <;> rfl) (by rw [← h]; exact hP) hS
  · replace h := ite_f c3 h
    refine lv_iconst (v := 0) hx hb dX8_drifts_7 (by decide) ?_
    refine lv_goto (tgt := 23) hx hb dX8_drifts_8 (by decide) ?_
    replace h := Option.some.inj h
    exact hret _ _ _ _ _ _ dX8_drifts_23 rfl (by rw [← h] <;> rfl) (by rw [← h]; exact hP) hS

def fX8_drift (m_chg : Int32) (m_thr : Int32) (m_rea : Int32) (m_det : Int32) (m_ref : Int32) (v_ms : Nat → Int32) (v_mw : Nat → Int32) (v_mp : Nat → Int32) : Option (Int32 × Int32 × Int32 × Int32 × Int32 × Int32 × (Nat → Int32) × (Nat → Int32) × (Nat → Int32)) :=
  (fX8_keeps m_thr v_ms v_mw).bind fun q1 =>
  (fX8_drifts q1.1 m_rea m_det m_ref v_ms).bind fun q3 =>
  (fX8_ends m_chg q3.2.1 q1.2 v_mp q3.1 1).bind fun q5 =>
  some (q5.1, q5.2.1, q5.2.2.1, q3.2.2.1, q3.2.2.2.1, q3.2.2.2.2.1, q3.2.2.2.2.2, q1.2, q5.2.2.2)
set_option maxHeartbeats 4000000 in
set_option maxRecDepth 100000 in
theorem kX8_drift (l : Launch) (D : va_G) (T : Nat → ClassId) (a_m a_ms a_mw a_mv a_mp a_mf a_ml a_mt a_mc : Nat) (m_chg : Int32) (m_thr : Int32) (m_rea : Int32) (m_det : Int32) (m_ref : Int32) (m_err : Int32) (m_ans : Int32) (m_sav : Int32) (m_net : Int32) (m_lin : Int32) (m_tap : Int32) (m_her : Int32) (m_cmd : Int32) (v_ms : Nat → Int32) (v_mw : Nat → Int32) (v_mp : Nat → Int32) (sz : Nat) (r : Int32 × Int32 × Int32 × Int32 × Int32 × Int32 × (Nat → Int32) × (Nat → Int32) × (Nat → Int32)) (h : fX8_drift m_chg m_thr m_rea m_det m_ref v_ms v_mw v_mp = some r) : WrI l yX8_drift cX8_drift 1 .int ({ frames := 3, cells := 0, slots := 0, locals := 67 } : Room) D T sz [(a_m, .inr (8, [.ref a_ms, .ref a_mw, .ref a_mv, .ref a_mp, .ref a_mf, .int m_chg, .int m_thr, .int m_rea, .int m_det, .int m_ref, .int m_err, .int m_ans, .int m_sav, .int m_net, .ref a_ml, .int m_lin, .ref a_mt, .ref a_mc, .int m_tap, .int m_her, .int m_cmd])), (a_ms, .inl (T 0, 103, .inl v_ms)), (a_mw, .inl (T 0, 103, .inl v_mw)), (a_mp, .inl (T 0, 618, .inl v_mp))] [(a_m, .inr (8, [.ref a_ms, .ref a_mw, .ref a_mv, .ref a_mp, .ref a_mf, .int r.2.1, .int r.2.2.1, .int r.2.2.2.1, .int r.2.2.2.2.1, .int r.2.2.2.2.2.1, .int m_err, .int m_ans, .int m_sav, .int m_net, .ref a_ml, .int m_lin, .ref a_mt, .ref a_mc, .int m_tap, .int m_her, .int m_cmd])), (a_ms, .inl (T 0, 103, .inl r.2.2.2.2.2.2.1)), (a_mw, .inl (T 0, 103, .inl r.2.2.2.2.2.2.2.1)), (a_mp, .inl (T 0, 618, .inl r.2.2.2.2.2.2.2.2))] [.ref a_m] r.1 := by
  unfold fX8_drift at h
  refine wrMet (by decide +kernel) rfl (fun p e s m args below meth c Q A C hE hA hP hD hS hret ls hl => ?_)
  have hx := C.1
  have hb := C.2.1
  have hl : lv_has ls 1 [(0, .ref a_m)] := hl
  refine lv_aload_n hx hb dX8_drift_0 rfl (lv_at hl 0 rfl) ?_
  replace h := bnd h; obtain ⟨q1, e2, h⟩ := h
  refine wrVv (ws1 := [(a_m, .inr (8, [.ref a_ms, .ref a_mw, .ref a_mv, .ref a_mp, .ref a_mf, .int m_chg, .int q1.1, .int m_rea, .int m_det, .int m_ref, .int m_err, .int m_ans, .int m_sav, .int m_net, .ref a_ml, .int m_lin, .ref a_mt, .ref a_mc, .int m_tap, .int m_her, .int m_cmd])), (a_ms, .inl (T 0, 103, .inl v_ms)), (a_mw, .inl (T 0, 103, .inl q1.2)), (a_mp, .inl (T 0, 618, .inl v_mp))]) C hE hP hD hS hA (kX8_keeps l D T a_m a_ms a_mw a_mv a_mp a_mf a_ml a_mt a_mc m_chg m_thr m_rea m_det m_ref m_err m_ans m_sav m_net m_lin m_tap m_her m_cmd v_ms v_mw _ q1 e2) mX8_keeps qLX8_107 [0, 1, 2] [3] 0 rfl rfl rfl rfl rfl rfl rfl rfl rfl ⟨rfl, rfl⟩ ⟨Nat.le_of_ble_eq_true rfl, Nat.le_of_ble_eq_true rfl⟩ rfl hl.1 rfl (Nat.le_of_ble_eq_true rfl) dX8_drift_1 ⟨Nat.le_of_ble_eq_true rfl, Nat.le_of_ble_eq_true rfl⟩ ?_; clear hP hD hS; intro H locs hP hD hS
  refine lv_aload_n hx hb dX8_drift_4 rfl (lv_at hl 0 rfl) ?_
  refine lv_aload_n hx hb dX8_drift_5 rfl (lv_at hl 0 rfl) ?_
  replace h := bnd h; obtain ⟨q3, e4, h⟩ := h
  refine wrVi (ws1 := [(a_m, .inr (8, [.ref a_ms, .ref a_mw, .ref a_mv, .ref a_mp, .ref a_mf, .int m_chg, .int q3.2.1, .int q3.2.2.1, .int q3.2.2.2.1, .int q3.2.2.2.2.1, .int m_err, .int m_ans, .int m_sav, .int m_net, .ref a_ml, .int m_lin, .ref a_mt, .ref a_mc, .int m_tap, .int m_her, .int m_cmd])), (a_ms, .inl (T 0, 103, .inl q3.2.2.2.2.2)), (a_mw, .inl (T 0, 103, .inl q1.2)), (a_mp, .inl (T 0, 618, .inl v_mp))]) C hE hP hD hS hA (kX8_drifts l D T a_m a_ms a_mw a_mv a_mp a_mf a_ml a_mt a_mc m_chg q1.1 m_rea m_det m_ref m_err m_ans m_sav m_net m_lin m_tap m_her m_cmd v_ms _ q3 e4) mX8_drifts qLX8_186 [0, 1] [2, 3] 0 rfl rfl rfl rfl rfl rfl rfl rfl rfl ⟨rfl, rfl⟩ ⟨Nat.le_of_ble_eq_true rfl, Nat.le_of_ble_eq_true rfl⟩ rfl hl.1 rfl (Nat.le_of_ble_eq_true rfl) dX8_drift_6 ⟨Nat.le_of_ble_eq_true rfl, Nat.le_of_ble_eq_true rfl⟩ ?_; clear hP hD hS; intro H locs hP hD hS
  refine lv_iconst (v := 1) hx hb dX8_drift_9 (by decide) ?_
  replace h := bnd h; obtain ⟨q5, e6, h⟩ := h
  refine wrVi (ws1 := [(a_m, .inr (8, [.ref a_ms, .ref a_mw, .ref a_mv, .ref a_mp, .ref a_mf, .int q5.2.1, .int q5.2.2.1, .int q3.2.2.1, .int q3.2.2.2.1, .int q3.2.2.2.2.1, .int m_err, .int m_ans, .int m_sav, .int m_net, .ref a_ml, .int m_lin, .ref a_mt, .ref a_mc, .int m_tap, .int m_her, .int m_cmd])), (a_ms, .inl (T 0, 103, .inl q3.2.2.2.2.2)), (a_mw, .inl (T 0, 103, .inl q1.2)), (a_mp, .inl (T 0, 618, .inl q5.2.2.2))]) C hE hP hD hS hA (kX8_ends l D T a_m a_ms a_mw a_mv a_mp a_mf a_ml a_mt a_mc m_chg q3.2.1 q3.2.2.1 q3.2.2.2.1 q3.2.2.2.2.1 m_err m_ans m_sav m_net m_lin m_tap m_her m_cmd q1.2 v_mp q3.1 1 _ q5 e6) mX8_ends qLX8_114 [0, 2, 3] [1] 0 rfl rfl rfl rfl rfl rfl rfl rfl rfl ⟨rfl, rfl⟩ ⟨Nat.le_of_ble_eq_true rfl, Nat.le_of_ble_eq_true rfl⟩ rfl hl.1 rfl (Nat.le_of_ble_eq_true rfl) dX8_drift_10 ⟨Nat.le_of_ble_eq_true rfl, Nat.le_of_ble_eq_true rfl⟩ ?_; clear hP hD hS; intro H locs hP hD hS
  replace h := Option.some.inj h
  exact hret _ _ _ _ _ _ dX8_drift_13 rfl (by rw [← h] <;> rfl) (by rw [← h]; exact hP) hS

def fX8_whaleOf_37 (v_ms : Nat → Int32) (x1 : Int32) (l1 : Int32) (l2 : Int32) (m_thr : Int32) : Option (Int32 × Int32) :=
  (fX8_isThrown m_thr x1 2).bind fun q8 =>
  if q8.1 = 0 then
    (fX8_of v_ms l1 l2).bind fun q11 =>
    some (q11, q8.2)
  else
    some (0, q8.2)
def fX8_whaleOf_14 (v_ms : Nat → Int32) (x1 : Int32) (l1 : Int32) (l2 : Int32) (m_thr : Int32) : Option (Int32 × Int32) :=
  (fX8_isThrown m_thr x1 1).bind fun q4 =>
  if q4.1 = 0 then
    fX8_whaleOf_37 v_ms (if (fX8_isIn l2 0 8) = 0 then 1 else 0) l1 l2 q4.2
  else
    some (0, q4.2)
def fX8_whaleOf (m_thr : Int32) (v_ms : Nat → Int32) (p0 : Int32) (p1 : Int32) : Option (Int32 × Int32) :=
  (fX8_isWhale v_ms p0).bind fun q1 =>
  fX8_whaleOf_14 v_ms (if q1 = 0 then 1 else 0) p0 p1 m_thr
set_option maxHeartbeats 4000000 in
set_option maxRecDepth 100000 in
theorem lX8_whaleOf_37 {p : Program} {l : Launch} {e : Env} {s : State} {m : MethodId} {args : Array Value} {below : List Frame} {meth : Method} {c : Code} {Q : State → Prop} {D : va_G} {T : Nat → ClassId} {a_m a_ms a_mw a_mv a_mp a_mf a_ml a_mt a_mc : Nat} {m_chg : Int32} {m_rea : Int32} {m_det : Int32} {m_ref : Int32} {m_err : Int32} {m_ans : Int32} {m_sav : Int32} {m_net : Int32} {m_lin : Int32} {m_tap : Int32} {m_her : Int32} {m_cmd : Int32} {v_ms : Nat → Int32} {A : Nat → Prop} {r : Int32 × Int32} (C : CallFix p m c cX8_whaleOf 3 s args aw RX8) (hE : eK D T s) (hA : ∀ q : Nat, s.heap.size ≤ q → A q) (hret : WrRet p l e ({ frames := 2, cells := 0, slots := 0, locals := 43 } : Room) s m args below meth c Q cX8_whaleOf .int D A [(a_m, .inr (8, [.ref a_ms, .ref a_mw, .ref a_mv, .ref a_mp, .ref a_mf, .int m_chg, .int r.2, .int m_rea, .int m_det, .int m_ref, .int m_err, .int m_ans, .int m_sav, .int m_net, .ref a_ml, .int m_lin, .ref a_mt, .ref a_mc, .int m_tap, .int m_her, .int m_cmd])), (a_ms, .inl (T 0, 103, .inl v_ms))] r.1) (x1 : Int32) (l1 : Int32) (l2 : Int32) (m_thr : Int32) {H : Heap} {locs : List Loc} (hPD : va_PD D A [(a_m, .inr (8, [.ref a_ms, .ref a_mw, .ref a_mv, .ref a_mp, .ref a_mf, .int m_chg, .int m_thr, .int m_rea, .int m_det, .int m_ref, .int m_err, .int m_ans, .int m_sav, .int m_net, .ref a_ml, .int m_lin, .ref a_mt, .ref a_mc, .int m_tap, .int m_her, .int m_cmd])), (a_ms, .inl (T 0, 103, .inl v_ms))] H) (hS : va_S A s.heap H locs) (ls : Array Slot) (hl : lv_has ls 3 [(0, .ref a_m), (1, .int l1), (2, .int l2)]) (h : fX8_whaleOf_37 v_ms x1 l1 l2 m_thr = some r) : W p l e ({ frames := 2, cells := 0, slots := 0, locals := 43 } : Room) s m args below meth c H locs 0 0 Q (F0 m 37 ls [.int x1, .ref a_m]) := by
  have hx := C.1
  have hb := C.2.1
  obtain ⟨hP, hD⟩ := hPD
  unfold fX8_whaleOf_37 at h
  refine lv_iconst (v := 2) hx hb dX8_whaleOf_37 (by decide) ?_
  replace h := bnd h; obtain ⟨q8, e9, h⟩ := h
  refine wrVi (ws1 := [(a_m, .inr (8, [.ref a_ms, .ref a_mw, .ref a_mv, .ref a_mp, .ref a_mf, .int m_chg, .int q8.2, .int m_rea, .int m_det, .int m_ref, .int m_err, .int m_ans, .int m_sav, .int m_net, .ref a_ml, .int m_lin, .ref a_mt, .ref a_mc, .int m_tap, .int m_her, .int m_cmd])), (a_ms, .inl (T 0, 103, .inl v_ms))]) C hE hP hD hS hA (kX8_isThrown l D T a_m a_ms a_mw a_mv a_mp a_mf a_ml a_mt a_mc m_chg m_thr m_rea m_det m_ref m_err m_ans m_sav m_net m_lin m_tap m_her m_cmd x1 2 _ q8 e9) mX8_isThrown qLX8_80 [0] [1] 0 rfl rfl rfl rfl rfl rfl rfl rfl rfl ⟨rfl, rfl⟩ ⟨Nat.le_of_ble_eq_true rfl, Nat.le_of_ble_eq_true rfl⟩ rfl hl.1 rfl (Nat.le_of_ble_eq_true rfl) dX8_whaleOf_38 ⟨Nat.le_of_ble_eq_true rfl, Nat.le_of_ble_eq_true rfl⟩ ?_; clear hP hD hS; intro H locs hP hD hS
  refine lv_if_eq (tgt := 48) hx hb dX8_whaleOf_41 (by decide) (fun c10 => ?_) (fun c10 => ?_)
  · replace h := ite_t c10 h
    refine lv_aload_n hx hb dX8_whaleOf_48 rfl (lv_at hl 0 rfl) ?_
    refine lv_iload_n hx hb dX8_whaleOf_49 rfl (lv_at hl 1 rfl) ?_
    refine lv_iload_n hx hb dX8_whaleOf_50 rfl (lv_at hl 2 rfl) ?_
    replace h := bnd h; obtain ⟨q11, e12, h⟩ := h
    refine rdV C hE hP (kX8_of l D T a_m a_ms a_mw a_mv a_mp a_mf a_ml a_mt a_mc m_chg q8.2 m_rea m_det m_ref m_err m_ans m_sav m_net m_lin m_tap m_her m_cmd v_ms l1 l2 q11 e12) mX8_of qLX8_90 [0, 1] 0 rfl rfl rfl rfl ⟨rfl, rfl⟩ ⟨Nat.le_of_ble_eq_true rfl, Nat.le_of_ble_eq_true rfl⟩ rfl hl.1 rfl (Nat.le_of_ble_eq_true rfl) dX8_whaleOf_51 ⟨Nat.le_of_ble_eq_true rfl, Nat.le_of_ble_eq_true rfl⟩ ?_
    replace h := Option.some.inj h
    exact hret _ _ _ _ _ _ dX8_whaleOf_54 rfl (by rw [← h] <;> rfl) (by rw [← h]; exact hP) hS
  · replace h := ite_f c10 h
    refine lv_iconst (v := 0) hx hb dX8_whaleOf_44 (by decide) ?_
    refine lv_goto (tgt := 54) hx hb dX8_whaleOf_45 (by decide) ?_
    replace h := Option.some.inj h
    exact hret _ _ _ _ _ _ dX8_whaleOf_54 rfl (by rw [← h] <;> rfl) (by rw [← h]; exact hP) hS
set_option maxHeartbeats 4000000 in
set_option maxRecDepth 100000 in
theorem lX8_whaleOf_14 {p : Program} {l : Launch} {e : Env} {s : State} {m : MethodId} {args : Array Value} {below : List Frame} {meth : Method} {c : Code} {Q : State → Prop} {D : va_G} {T : Nat → ClassId} {a_m a_ms a_mw a_mv a_mp a_mf a_ml a_mt a_mc : Nat} {m_chg : Int32} {m_rea : Int32} {m_det : Int32} {m_ref : Int32} {m_err : Int32} {m_ans : Int32} {m_sav : Int32} {m_net : Int32} {m_lin : Int32} {m_tap : Int32} {m_her : Int32} {m_cmd : Int32} {v_ms : Nat → Int32} {A : Nat → Prop} {r : Int32 × Int32} (C : CallFix p m c cX8_whaleOf 3 s args aw RX8) (hE : eK D T s) (hA : ∀ q : Nat, s.heap.size ≤ q → A q) (hret : WrRet p l e ({ frames := 2, cells := 0, slots := 0, locals := 43 } : Room) s m args below meth c Q cX8_whaleOf .int D A [(a_m, .inr (8, [.ref a_ms, .ref a_mw, .ref a_mv, .ref a_mp, .ref a_mf, .int m_chg, .int r.2, .int m_rea, .int m_det, .int m_ref, .int m_err, .int m_ans, .int m_sav, .int m_net, .ref a_ml, .int m_lin, .ref a_mt, .ref a_mc, .int m_tap, .int m_her, .int m_cmd])), (a_ms, .inl (T 0, 103, .inl v_ms))] r.1) (x1 : Int32) (l1 : Int32) (l2 : Int32) (m_thr : Int32) {H : Heap} {locs : List Loc} (hPD : va_PD D A [(a_m, .inr (8, [.ref a_ms, .ref a_mw, .ref a_mv, .ref a_mp, .ref a_mf, .int m_chg, .int m_thr, .int m_rea, .int m_det, .int m_ref, .int m_err, .int m_ans, .int m_sav, .int m_net, .ref a_ml, .int m_lin, .ref a_mt, .ref a_mc, .int m_tap, .int m_her, .int m_cmd])), (a_ms, .inl (T 0, 103, .inl v_ms))] H) (hS : va_S A s.heap H locs) (ls : Array Slot) (hl : lv_has ls 3 [(0, .ref a_m), (1, .int l1), (2, .int l2)]) (h : fX8_whaleOf_14 v_ms x1 l1 l2 m_thr = some r) : W p l e ({ frames := 2, cells := 0, slots := 0, locals := 43 } : Room) s m args below meth c H locs 0 0 Q (F0 m 14 ls [.int x1, .ref a_m]) := by
  have hx := C.1
  have hb := C.2.1
  obtain ⟨hP, hD⟩ := hPD
  unfold fX8_whaleOf_14 at h
  refine lv_iconst (v := 1) hx hb dX8_whaleOf_14 (by decide) ?_
  replace h := bnd h; obtain ⟨q4, e5, h⟩ := h
  refine wrVi (ws1 := [(a_m, .inr (8, [.ref a_ms, .ref a_mw, .ref a_mv, .ref a_mp, .ref a_mf, .int m_chg, .int q4.2, .int m_rea, .int m_det, .int m_ref, .int m_err, .int m_ans, .int m_sav, .int m_net, .ref a_ml, .int m_lin, .ref a_mt, .ref a_mc, .int m_tap, .int m_her, .int m_cmd])), (a_ms, .inl (T 0, 103, .inl v_ms))]) C hE hP hD hS hA (kX8_isThrown l D T a_m a_ms a_mw a_mv a_mp a_mf a_ml a_mt a_mc m_chg m_thr m_rea m_det m_ref m_err m_ans m_sav m_net m_lin m_tap m_her m_cmd x1 1 _ q4 e5) mX8_isThrown qLX8_80 [0] [1] 0 rfl rfl rfl rfl rfl rfl rfl rfl rfl ⟨rfl, rfl⟩ ⟨Nat.le_of_ble_eq_true rfl, Nat.le_of_ble_eq_true rfl⟩ rfl hl.1 rfl (Nat.le_of_ble_eq_true rfl) dX8_whaleOf_15 ⟨Nat.le_of_ble_eq_true rfl, Nat.le_of_ble_eq_true rfl⟩ ?_; clear hP hD hS; intro H locs hP hD hS
  refine lv_if_ne (tgt := 44) hx hb dX8_whaleOf_18 (by decide) (fun c6 => ?_) (fun c6 => ?_)
  · replace h := ite_f c6 h
    refine lv_iconst (v := 0) hx hb dX8_whaleOf_44 (by decide) ?_
    refine lv_goto (tgt := 54) hx hb dX8_whaleOf_45 (by decide) ?_
    replace h := Option.some.inj h
    exact hret _ _ _ _ _ _ dX8_whaleOf_54 rfl (by rw [← h] <;> rfl) (by rw [← h]; exact hP) hS
  · replace h := ite_t c6 h
    refine lv_aload_n hx hb dX8_whaleOf_21 rfl (lv_at hl 0 rfl) ?_
    refine lv_iload_n hx hb dX8_whaleOf_22 rfl (lv_at hl 2 rfl) ?_
    refine lv_iconst (v := 0) hx hb dX8_whaleOf_23 (by decide) ?_
    refine lv_bipush (v := 8) hx hb dX8_whaleOf_24 (by decide) ?_
    refine rdS C hE hP (kX8_isIn l D T l2 0 8) mX8_isIn qLX8_60 [] rfl ⟨rfl, rfl⟩ ⟨Nat.le_of_ble_eq_true rfl, Nat.le_of_ble_eq_true rfl⟩ rfl hl.1 rfl (Nat.le_of_ble_eq_true rfl) dX8_whaleOf_26 ⟨Nat.le_of_ble_eq_true rfl, Nat.le_of_ble_eq_true rfl⟩ ?_
    refine lv_if_ne (tgt := 36) hx hb dX8_whaleOf_29 (by decide) (fun c7 => ?_) (fun c7 => ?_)
    · rw [if_neg c7] at h
      refine lv_iconst (v := 0) hx hb dX8_whaleOf_36 (by decide) ?_
      exact lX8_whaleOf_37 C hE hA hret 0 l1 l2 q4.2 ⟨hP, hD⟩ hS _ (lv_sub hl [0, 1, 2] rfl) h
    · rw [if_pos c7] at h
      refine lv_iconst (v := 1) hx hb dX8_whaleOf_32 (by decide) ?_
      refine lv_goto (tgt := 37) hx hb dX8_whaleOf_33 (by decide) ?_
      exact lX8_whaleOf_37 C hE hA hret 1 l1 l2 q4.2 ⟨hP, hD⟩ hS _ (lv_sub hl [0, 1, 2] rfl) h
set_option maxHeartbeats 4000000 in
set_option maxRecDepth 100000 in
theorem kX8_whaleOf (l : Launch) (D : va_G) (T : Nat → ClassId) (a_m a_ms a_mw a_mv a_mp a_mf a_ml a_mt a_mc : Nat) (m_chg : Int32) (m_thr : Int32) (m_rea : Int32) (m_det : Int32) (m_ref : Int32) (m_err : Int32) (m_ans : Int32) (m_sav : Int32) (m_net : Int32) (m_lin : Int32) (m_tap : Int32) (m_her : Int32) (m_cmd : Int32) (v_ms : Nat → Int32) (p0 : Int32) (p1 : Int32) (sz : Nat) (r : Int32 × Int32) (h : fX8_whaleOf m_thr v_ms p0 p1 = some r) : WrI l yX8_whaleOf cX8_whaleOf 3 .int ({ frames := 2, cells := 0, slots := 0, locals := 43 } : Room) D T sz [(a_m, .inr (8, [.ref a_ms, .ref a_mw, .ref a_mv, .ref a_mp, .ref a_mf, .int m_chg, .int m_thr, .int m_rea, .int m_det, .int m_ref, .int m_err, .int m_ans, .int m_sav, .int m_net, .ref a_ml, .int m_lin, .ref a_mt, .ref a_mc, .int m_tap, .int m_her, .int m_cmd])), (a_ms, .inl (T 0, 103, .inl v_ms))] [(a_m, .inr (8, [.ref a_ms, .ref a_mw, .ref a_mv, .ref a_mp, .ref a_mf, .int m_chg, .int r.2, .int m_rea, .int m_det, .int m_ref, .int m_err, .int m_ans, .int m_sav, .int m_net, .ref a_ml, .int m_lin, .ref a_mt, .ref a_mc, .int m_tap, .int m_her, .int m_cmd])), (a_ms, .inl (T 0, 103, .inl v_ms))] [.ref a_m, .int p0, .int p1] r.1 := by
  unfold fX8_whaleOf at h
  refine wrMet (by decide +kernel) rfl (fun p e s m args below meth c Q A C hE hA hP hD hS hret ls hl => ?_)
  have hx := C.1
  have hb := C.2.1
  have hl : lv_has ls 3 [(0, .ref a_m), (1, .int p0), (2, .int p1)] := hl
  refine lv_aload_n hx hb dX8_whaleOf_0 rfl (lv_at hl 0 rfl) ?_
  refine lv_aload_n hx hb dX8_whaleOf_1 rfl (lv_at hl 0 rfl) ?_
  refine lv_iload_n hx hb dX8_whaleOf_2 rfl (lv_at hl 1 rfl) ?_
  replace h := bnd h; obtain ⟨q1, e2, h⟩ := h
  refine rdV C hE hP (kX8_isWhale l D T a_m a_ms a_mw a_mv a_mp a_mf a_ml a_mt a_mc m_chg m_thr m_rea m_det m_ref m_err m_ans m_sav m_net m_lin m_tap m_her m_cmd v_ms p0 q1 e2) mX8_isWhale qLX8_120 [0, 1] 0 rfl rfl rfl rfl ⟨rfl, rfl⟩ ⟨Nat.le_of_ble_eq_true rfl, Nat.le_of_ble_eq_true rfl⟩ rfl hl.1 rfl (Nat.le_of_ble_eq_true rfl) dX8_whaleOf_3 ⟨Nat.le_of_ble_eq_true rfl, Nat.le_of_ble_eq_true rfl⟩ ?_
  refine lv_if_ne (tgt := 13) hx hb dX8_whaleOf_6 (by decide) (fun c3 => ?_) (fun c3 => ?_)
  · rw [if_neg c3] at h
    refine lv_iconst (v := 0) hx hb dX8_whaleOf_13 (by decide) ?_
    exact lX8_whaleOf_14 C hE hA hret 0 p0 p1 m_thr ⟨hP, hD⟩ hS _ (lv_sub hl [0, 1, 2] rfl) h
  · rw [if_pos c3] at h
    refine lv_iconst (v := 1) hx hb dX8_whaleOf_9 (by decide) ?_
    refine lv_goto (tgt := 14) hx hb dX8_whaleOf_10 (by decide) ?_
    exact lX8_whaleOf_14 C hE hA hret 1 p0 p1 m_thr ⟨hP, hD⟩ hS _ (lv_sub hl [0, 1, 2] rfl) h

def fX8_beside_82 (v_ms : Nat → Int32) (rec28 : Int32 → Int32 → Int32 → Int32 → Option (Int32 × Int32)) (x0 : Int32) (x1 : Int32) (l1 : Int32) (l3 : Int32) (m_thr : Int32) : Option (Int32 × Int32) :=
  rec28 l1 (x0 + x1) (l3 + 1) m_thr
def fX8_beside_28 (v_ms : Nat → Int32) : Nat → Int32 → Int32 → Int32 → Int32 → Option (Int32 × Int32)
  | 0, _, _, _, _ => none
  | k + 1, l1, l2, l3, m_thr =>
    if vin 0 103 = true then
    if (v_ms (0 : Int32).toNatClampNeg) ≤ l3 then
      some (l2, m_thr)
    else
      (fX8_of v_ms l3 0).bind fun q7 =>
      if q7 = l1 then
        (fX8_of v_ms l3 4).bind fun q10 =>
        if q10 < 0 then
          fX8_beside_82 v_ms (fX8_beside_28 v_ms k) l2 0 l1 l3 m_thr
        else
          (fX8_of v_ms l3 4).bind fun q13 =>
          if vin 2 103 = true then
          fX8_beside_82 v_ms (fX8_beside_28 v_ms k) l2 (if 1 < (fX8_apart q13 (v_ms (2 : Int32).toNatClampNeg)) then 0 else 1) l1 l3 m_thr
          else none
      else
        fX8_beside_82 v_ms (fX8_beside_28 v_ms k) l2 0 l1 l3 m_thr
    else none
def fX8_beside_15 (v_ms : Nat → Int32) (x1 : Int32) (l1 : Int32) (m_thr : Int32) : Option (Int32 × Int32) :=
  (fX8_isThrown m_thr x1 1).bind fun q2 =>
  if q2.1 = 0 then
    fX8_beside_28 v_ms 64 l1 0 0 q2.2
  else
    some (0, q2.2)
def fX8_beside (m_thr : Int32) (v_ms : Nat → Int32) (p0 : Int32) : Option (Int32 × Int32) :=
  fX8_beside_15 v_ms (if (fX8_isIn p0 0 1) = 0 then 1 else 0) p0 m_thr
set_option maxHeartbeats 4000000 in
set_option maxRecDepth 100000 in
theorem lX8_beside_82 {p : Program} {l : Launch} {e : Env} {s : State} {m : MethodId} {args : Array Value} {below : List Frame} {meth : Method} {c : Code} {Q : State → Prop} {D : va_G} {T : Nat → ClassId} {a_m a_ms a_mw a_mv a_mp a_mf a_ml a_mt a_mc : Nat} {m_chg : Int32} {m_rea : Int32} {m_det : Int32} {m_ref : Int32} {m_err : Int32} {m_ans : Int32} {m_sav : Int32} {m_net : Int32} {m_lin : Int32} {m_tap : Int32} {m_her : Int32} {m_cmd : Int32} {v_ms : Nat → Int32} {A : Nat → Prop} {r : Int32 × Int32} (C : CallFix p m c cX8_beside 4 s args aw RX8) (hE : eK D T s) (hA : ∀ q : Nat, s.heap.size ≤ q → A q) (hret : WrRet p l e ({ frames := 2, cells := 0, slots := 0, locals := 42 } : Room) s m args below meth c Q cX8_beside .int D A [(a_m, .inr (8, [.ref a_ms, .ref a_mw, .ref a_mv, .ref a_mp, .ref a_mf, .int m_chg, .int r.2, .int m_rea, .int m_det, .int m_ref, .int m_err, .int m_ans, .int m_sav, .int m_net, .ref a_ml, .int m_lin, .ref a_mt, .ref a_mc, .int m_tap, .int m_her, .int m_cmd])), (a_ms, .inl (T 0, 103, .inl v_ms))] r.1) {rec28 : Int32 → Int32 → Int32 → Int32 → Option (Int32 × Int32)} (hrec28 : ∀ (l1 : Int32) (l2 : Int32) (l3 : Int32) (m_thr : Int32) {H : Heap} {locs : List Loc} (hPD : va_PD D A [(a_m, .inr (8, [.ref a_ms, .ref a_mw, .ref a_mv, .ref a_mp, .ref a_mf, .int m_chg, .int m_thr, .int m_rea, .int m_det, .int m_ref, .int m_err, .int m_ans, .int m_sav, .int m_net, .ref a_ml, .int m_lin, .ref a_mt, .ref a_mc, .int m_tap, .int m_her, .int m_cmd])), (a_ms, .inl (T 0, 103, .inl v_ms))] H) (hS : va_S A s.heap H locs) (ls : Array Slot) (hl : lv_has ls 4 [(0, .ref a_m), (1, .int l1), (2, .int l2), (3, .int l3)]) (h : rec28 l1 l2 l3 m_thr = some r), W p l e ({ frames := 2, cells := 0, slots := 0, locals := 42 } : Room) s m args below meth c H locs 0 0 Q (F0 m 28 ls [])) (x0 : Int32) (x1 : Int32) (l1 : Int32) (l3 : Int32) (m_thr : Int32) {H : Heap} {locs : List Loc} (hPD : va_PD D A [(a_m, .inr (8, [.ref a_ms, .ref a_mw, .ref a_mv, .ref a_mp, .ref a_mf, .int m_chg, .int m_thr, .int m_rea, .int m_det, .int m_ref, .int m_err, .int m_ans, .int m_sav, .int m_net, .ref a_ml, .int m_lin, .ref a_mt, .ref a_mc, .int m_tap, .int m_her, .int m_cmd])), (a_ms, .inl (T 0, 103, .inl v_ms))] H) (hS : va_S A s.heap H locs) (ls : Array Slot) (hl : lv_has ls 4 [(0, .ref a_m), (1, .int l1), (3, .int l3)]) (h : fX8_beside_82 v_ms rec28 x0 x1 l1 l3 m_thr = some r) : W p l e ({ frames := 2, cells := 0, slots := 0, locals := 42 } : Room) s m args below meth c H locs 0 0 Q (F0 m 82 ls [.int x1, .int x0]) := by
  have hx := C.1
  have hb := C.2.1
  obtain ⟨hP, hD⟩ := hPD
  unfold fX8_beside_82 at h
  refine lv_iadd hx hb dX8_beside_82 ?_
  refine lv_istore_n (lv' := [(2, .int (x0 + x1)), (0, .ref a_m), (1, .int l1), (3, .int l3)]) hx hb dX8_beside_83 rfl hl (by decide) rfl (fun ls hl => ?_)
  refine lv_iinc (v := (l3 + 1)) (lv' := [(3, .int (l3 + 1)), (2, .int (x0 + x1)), (0, .ref a_m), (1, .int l1)]) hx hb dX8_beside_84 hl (k := 3) rfl rfl (by decide) rfl (fun ls hl => ?_)
  refine lv_goto (tgt := 28) hx hb dX8_beside_87 (by decide) ?_
  exact hrec28 l1 (x0 + x1) (l3 + 1) m_thr ⟨hP, hD⟩ hS _ (lv_sub hl [2, 3, 1, 0] rfl) h
set_option maxHeartbeats 4000000 in
set_option maxRecDepth 100000 in
theorem lX8_beside_28 {p : Program} {l : Launch} {e : Env} {s : State} {m : MethodId} {args : Array Value} {below : List Frame} {meth : Method} {c : Code} {Q : State → Prop} {D : va_G} {T : Nat → ClassId} {a_m a_ms a_mw a_mv a_mp a_mf a_ml a_mt a_mc : Nat} {m_chg : Int32} {m_rea : Int32} {m_det : Int32} {m_ref : Int32} {m_err : Int32} {m_ans : Int32} {m_sav : Int32} {m_net : Int32} {m_lin : Int32} {m_tap : Int32} {m_her : Int32} {m_cmd : Int32} {v_ms : Nat → Int32} {A : Nat → Prop} {r : Int32 × Int32} (C : CallFix p m c cX8_beside 4 s args aw RX8) (hE : eK D T s) (hA : ∀ q : Nat, s.heap.size ≤ q → A q) (hret : WrRet p l e ({ frames := 2, cells := 0, slots := 0, locals := 42 } : Room) s m args below meth c Q cX8_beside .int D A [(a_m, .inr (8, [.ref a_ms, .ref a_mw, .ref a_mv, .ref a_mp, .ref a_mf, .int m_chg, .int r.2, .int m_rea, .int m_det, .int m_ref, .int m_err, .int m_ans, .int m_sav, .int m_net, .ref a_ml, .int m_lin, .ref a_mt, .ref a_mc, .int m_tap, .int m_her, .int m_cmd])), (a_ms, .inl (T 0, 103, .inl v_ms))] r.1) : ∀ (k : Nat) (l1 : Int32) (l2 : Int32) (l3 : Int32) (m_thr : Int32) {H : Heap} {locs : List Loc} (hPD : va_PD D A [(a_m, .inr (8, [.ref a_ms, .ref a_mw, .ref a_mv, .ref a_mp, .ref a_mf, .int m_chg, .int m_thr, .int m_rea, .int m_det, .int m_ref, .int m_err, .int m_ans, .int m_sav, .int m_net, .ref a_ml, .int m_lin, .ref a_mt, .ref a_mc, .int m_tap, .int m_her, .int m_cmd])), (a_ms, .inl (T 0, 103, .inl v_ms))] H) (hS : va_S A s.heap H locs) (ls : Array Slot) (hl : lv_has ls 4 [(0, .ref a_m), (1, .int l1), (2, .int l2), (3, .int l3)]) (h : fX8_beside_28 v_ms k l1 l2 l3 m_thr = some r), W p l e ({ frames := 2, cells := 0, slots := 0, locals := 42 } : Room) s m args below meth c H locs 0 0 Q (F0 m 28 ls []) := by
  have hx := C.1
  have hb := C.2.1
  intro k
  induction k with
  | zero =>
    intro l1 l2 l3 m_thr H locs hPD hS ls hl h
    exact nomatch (show (none : Option (Int32 × Int32)) = some r from h)
  | succ k ih =>
    intro l1 l2 l3 m_thr H locs hPD hS ls hl h
    obtain ⟨hP, hD⟩ := hPD
    rw [fX8_beside_28] at h
    refine lv_iload_n hx hb dX8_beside_28 rfl (lv_at hl 3 rfl) ?_
    refine lv_aload_n hx hb dX8_beside_29 rfl (lv_at hl 0 rfl) ?_
    refine getF (q0 := 0) (k0 := 0) (v := .ref a_ms) C hE hP inA8 rfl rfl (by decide) qFX8_9 rfl rfl dX8_beside_30 ?_
    refine lv_iconst (v := 0) hx hb dX8_beside_33 (by decide) ?_
    replace h := gd h; obtain ⟨g5, h⟩ := h
    refine aldI (q0 := 1) C hE hP rfl g5 dX8_beside_34 ?_
    refine lv_icmp_ge (tgt := 90) hx hb dX8_beside_35 (by decide) (fun c6 => ?_) (fun c6 => ?_)
    · replace h := ite_t c6 h
      refine lv_iload_n hx hb dX8_beside_90 rfl (lv_at hl 2 rfl) ?_
      replace h := Option.some.inj h
      exact hret _ _ _ _ _ _ dX8_beside_91 rfl (by rw [← h] <;> rfl) (by rw [← h]; exact hP) hS
    · replace h := ite_f c6 h
      refine lv_iload_n hx hb dX8_beside_38 rfl (lv_at hl 2 rfl) ?_
      refine lv_aload_n hx hb dX8_beside_39 rfl (lv_at hl 0 rfl) ?_
      refine lv_iload_n hx hb dX8_beside_40 rfl (lv_at hl 3 rfl) ?_
      refine lv_iconst (v := 0) hx hb dX8_beside_41 (by decide) ?_
      replace h := bnd h; obtain ⟨q7, e8, h⟩ := h
      refine rdV C hE hP (kX8_of l D T a_m a_ms a_mw a_mv a_mp a_mf a_ml a_mt a_mc m_chg m_thr m_rea m_det m_ref m_err m_ans m_sav m_net m_lin m_tap m_her m_cmd v_ms l3 0 q7 e8) mX8_of qLX8_90 [0, 1] 0 rfl rfl rfl rfl ⟨rfl, rfl⟩ ⟨Nat.le_of_ble_eq_true rfl, Nat.le_of_ble_eq_true rfl⟩ rfl hl.1 rfl (Nat.le_of_ble_eq_true rfl) dX8_beside_42 ⟨Nat.le_of_ble_eq_true rfl, Nat.le_of_ble_eq_true rfl⟩ ?_
      refine lv_iload_n hx hb dX8_beside_45 rfl (lv_at hl 1 rfl) ?_
      refine lv_icmp_ne (tgt := 81) hx hb dX8_beside_46 (by decide) (fun c9 => ?_) (fun c9 => ?_)
      · replace h := ite_f c9 h
        refine lv_iconst (v := 0) hx hb dX8_beside_81 (by decide) ?_
        exact lX8_beside_82 C hE hA hret ih l2 0 l1 l3 m_thr ⟨hP, hD⟩ hS _ (lv_sub hl [0, 1, 3] rfl) h
      · replace h := ite_t c9 h
        refine lv_aload_n hx hb dX8_beside_49 rfl (lv_at hl 0 rfl) ?_
        refine lv_iload_n hx hb dX8_beside_50 rfl (lv_at hl 3 rfl) ?_
        refine lv_iconst (v := 4) hx hb dX8_beside_51 (by decide) ?_
        replace h := bnd h; obtain ⟨q10, e11, h⟩ := h
        refine rdV C hE hP (kX8_of l D T a_m a_ms a_mw a_mv a_mp a_mf a_ml a_mt a_mc m_chg m_thr m_rea m_det m_ref m_err m_ans m_sav m_net m_lin m_tap m_her m_cmd v_ms l3 4 q10 e11) mX8_of qLX8_90 [0, 1] 0 rfl rfl rfl rfl ⟨rfl, rfl⟩ ⟨Nat.le_of_ble_eq_true rfl, Nat.le_of_ble_eq_true rfl⟩ rfl hl.1 rfl (Nat.le_of_ble_eq_true rfl) dX8_beside_52 ⟨Nat.le_of_ble_eq_true rfl, Nat.le_of_ble_eq_true rfl⟩ ?_
        refine lv_if_lt (tgt := 81) hx hb dX8_beside_55 (by decide) (fun c12 => ?_) (fun c12 => ?_)
        · replace h := ite_t c12 h
          refine lv_iconst (v := 0) hx hb dX8_beside_81 (by decide) ?_
          exact lX8_beside_82 C hE hA hret ih l2 0 l1 l3 m_thr ⟨hP, hD⟩ hS _ (lv_sub hl [0, 1, 3] rfl) h
        · replace h := ite_f c12 h
          refine lv_aload_n hx hb dX8_beside_58 rfl (lv_at hl 0 rfl) ?_
          refine lv_iload_n hx hb dX8_beside_59 rfl (lv_at hl 3 rfl) ?_
          refine lv_iconst (v := 4) hx hb dX8_beside_60 (by decide) ?_
          replace h := bnd h; obtain ⟨q13, e14, h⟩ := h
          refine rdV C hE hP (kX8_of l D T a_m a_ms a_mw a_mv a_mp a_mf a_ml a_mt a_mc m_chg m_thr m_rea m_det m_ref m_err m_ans m_sav m_net m_lin m_tap m_her m_cmd v_ms l3 4 q13 e14) mX8_of qLX8_90 [0, 1] 0 rfl rfl rfl rfl ⟨rfl, rfl⟩ ⟨Nat.le_of_ble_eq_true rfl, Nat.le_of_ble_eq_true rfl⟩ rfl hl.1 rfl (Nat.le_of_ble_eq_true rfl) dX8_beside_61 ⟨Nat.le_of_ble_eq_true rfl, Nat.le_of_ble_eq_true rfl⟩ ?_
          refine lv_aload_n hx hb dX8_beside_64 rfl (lv_at hl 0 rfl) ?_
          refine getF (q0 := 0) (k0 := 0) (v := .ref a_ms) C hE hP inA8 rfl rfl (by decide) qFX8_9 rfl rfl dX8_beside_65 ?_
          refine lv_iconst (v := 2) hx hb dX8_beside_68 (by decide) ?_
          replace h := gd h; obtain ⟨g15, h⟩ := h
          refine aldI (q0 := 1) C hE hP rfl g15 dX8_beside_69 ?_
          refine rdS C hE hP (kX8_apart l D T q13 (v_ms (2 : Int32).toNatClampNeg)) mX8_apart qLX8_152 [] rfl ⟨rfl, rfl⟩ ⟨Nat.le_of_ble_eq_true rfl, Nat.le_of_ble_eq_true rfl⟩ rfl hl.1 rfl (Nat.le_of_ble_eq_true rfl) dX8_beside_70 ⟨Nat.le_of_ble_eq_true rfl, Nat.le_of_ble_eq_true rfl⟩ ?_
          refine lv_iconst (v := 1) hx hb dX8_beside_73 (by decide) ?_
          refine lv_icmp_gt (tgt := 81) hx hb dX8_beside_74 (by decide) (fun c16 => ?_) (fun c16 => ?_)
          · rw [if_pos c16] at h
            refine lv_iconst (v := 0) hx hb dX8_beside_81 (by decide) ?_
            exact lX8_beside_82 C hE hA hret ih l2 0 l1 l3 m_thr ⟨hP, hD⟩ hS _ (lv_sub hl [0, 1, 3] rfl) h
          · rw [if_neg c16] at h
            refine lv_iconst (v := 1) hx hb dX8_beside_77 (by decide) ?_
            refine lv_goto (tgt := 82) hx hb dX8_beside_78 (by decide) ?_
            exact lX8_beside_82 C hE hA hret ih l2 1 l1 l3 m_thr ⟨hP, hD⟩ hS _ (lv_sub hl [0, 1, 3] rfl) h
set_option maxHeartbeats 4000000 in
set_option maxRecDepth 100000 in
theorem lX8_beside_15 {p : Program} {l : Launch} {e : Env} {s : State} {m : MethodId} {args : Array Value} {below : List Frame} {meth : Method} {c : Code} {Q : State → Prop} {D : va_G} {T : Nat → ClassId} {a_m a_ms a_mw a_mv a_mp a_mf a_ml a_mt a_mc : Nat} {m_chg : Int32} {m_rea : Int32} {m_det : Int32} {m_ref : Int32} {m_err : Int32} {m_ans : Int32} {m_sav : Int32} {m_net : Int32} {m_lin : Int32} {m_tap : Int32} {m_her : Int32} {m_cmd : Int32} {v_ms : Nat → Int32} {A : Nat → Prop} {r : Int32 × Int32} (C : CallFix p m c cX8_beside 4 s args aw RX8) (hE : eK D T s) (hA : ∀ q : Nat, s.heap.size ≤ q → A q) (hret : WrRet p l e ({ frames := 2, cells := 0, slots := 0, locals := 42 } : Room) s m args below meth c Q cX8_beside .int D A [(a_m, .inr (8, [.ref a_ms, .ref a_mw, .ref a_mv, .ref a_mp, .ref a_mf, .int m_chg, .int r.2, .int m_rea, .int m_det, .int m_ref, .int m_err, .int m_ans, .int m_sav, .int m_net, .ref a_ml, .int m_lin, .ref a_mt, .ref a_mc, .int m_tap, .int m_her, .int m_cmd])), (a_ms, .inl (T 0, 103, .inl v_ms))] r.1) (x1 : Int32) (l1 : Int32) (m_thr : Int32) {H : Heap} {locs : List Loc} (hPD : va_PD D A [(a_m, .inr (8, [.ref a_ms, .ref a_mw, .ref a_mv, .ref a_mp, .ref a_mf, .int m_chg, .int m_thr, .int m_rea, .int m_det, .int m_ref, .int m_err, .int m_ans, .int m_sav, .int m_net, .ref a_ml, .int m_lin, .ref a_mt, .ref a_mc, .int m_tap, .int m_her, .int m_cmd])), (a_ms, .inl (T 0, 103, .inl v_ms))] H) (hS : va_S A s.heap H locs) (ls : Array Slot) (hl : lv_has ls 4 [(0, .ref a_m), (1, .int l1)]) (h : fX8_beside_15 v_ms x1 l1 m_thr = some r) : W p l e ({ frames := 2, cells := 0, slots := 0, locals := 42 } : Room) s m args below meth c H locs 0 0 Q (F0 m 15 ls [.int x1, .ref a_m]) := by
  have hx := C.1
  have hb := C.2.1
  obtain ⟨hP, hD⟩ := hPD
  unfold fX8_beside_15 at h
  refine lv_iconst (v := 1) hx hb dX8_beside_15 (by decide) ?_
  replace h := bnd h; obtain ⟨q2, e3, h⟩ := h
  refine wrVi (ws1 := [(a_m, .inr (8, [.ref a_ms, .ref a_mw, .ref a_mv, .ref a_mp, .ref a_mf, .int m_chg, .int q2.2, .int m_rea, .int m_det, .int m_ref, .int m_err, .int m_ans, .int m_sav, .int m_net, .ref a_ml, .int m_lin, .ref a_mt, .ref a_mc, .int m_tap, .int m_her, .int m_cmd])), (a_ms, .inl (T 0, 103, .inl v_ms))]) C hE hP hD hS hA (kX8_isThrown l D T a_m a_ms a_mw a_mv a_mp a_mf a_ml a_mt a_mc m_chg m_thr m_rea m_det m_ref m_err m_ans m_sav m_net m_lin m_tap m_her m_cmd x1 1 _ q2 e3) mX8_isThrown qLX8_80 [0] [1] 0 rfl rfl rfl rfl rfl rfl rfl rfl rfl ⟨rfl, rfl⟩ ⟨Nat.le_of_ble_eq_true rfl, Nat.le_of_ble_eq_true rfl⟩ rfl hl.1 rfl (Nat.le_of_ble_eq_true rfl) dX8_beside_16 ⟨Nat.le_of_ble_eq_true rfl, Nat.le_of_ble_eq_true rfl⟩ ?_; clear hP hD hS; intro H locs hP hD hS
  refine lv_if_eq (tgt := 24) hx hb dX8_beside_19 (by decide) (fun c4 => ?_) (fun c4 => ?_)
  · replace h := ite_t c4 h
    refine lv_iconst (v := 0) hx hb dX8_beside_24 (by decide) ?_
    refine lv_istore_n (lv' := [(2, .int 0), (0, .ref a_m), (1, .int l1)]) hx hb dX8_beside_25 rfl hl (by decide) rfl (fun ls hl => ?_)
    refine lv_iconst (v := 0) hx hb dX8_beside_26 (by decide) ?_
    refine lv_istore_n (lv' := [(3, .int 0), (2, .int 0), (0, .ref a_m), (1, .int l1)]) hx hb dX8_beside_27 rfl hl (by decide) rfl (fun ls hl => ?_)
    exact lX8_beside_28 C hE hA hret 64 l1 0 0 q2.2 ⟨hP, hD⟩ hS _ (lv_sub hl [2, 3, 1, 0] rfl) h
  · replace h := ite_f c4 h
    refine lv_iconst (v := 0) hx hb dX8_beside_22 (by decide) ?_
    replace h := Option.some.inj h
    exact hret _ _ _ _ _ _ dX8_beside_23 rfl (by rw [← h] <;> rfl) (by rw [← h]; exact hP) hS
set_option maxHeartbeats 4000000 in
set_option maxRecDepth 100000 in
theorem kX8_beside (l : Launch) (D : va_G) (T : Nat → ClassId) (a_m a_ms a_mw a_mv a_mp a_mf a_ml a_mt a_mc : Nat) (m_chg : Int32) (m_thr : Int32) (m_rea : Int32) (m_det : Int32) (m_ref : Int32) (m_err : Int32) (m_ans : Int32) (m_sav : Int32) (m_net : Int32) (m_lin : Int32) (m_tap : Int32) (m_her : Int32) (m_cmd : Int32) (v_ms : Nat → Int32) (p0 : Int32) (sz : Nat) (r : Int32 × Int32) (h : fX8_beside m_thr v_ms p0 = some r) : WrI l yX8_beside cX8_beside 4 .int ({ frames := 2, cells := 0, slots := 0, locals := 42 } : Room) D T sz [(a_m, .inr (8, [.ref a_ms, .ref a_mw, .ref a_mv, .ref a_mp, .ref a_mf, .int m_chg, .int m_thr, .int m_rea, .int m_det, .int m_ref, .int m_err, .int m_ans, .int m_sav, .int m_net, .ref a_ml, .int m_lin, .ref a_mt, .ref a_mc, .int m_tap, .int m_her, .int m_cmd])), (a_ms, .inl (T 0, 103, .inl v_ms))] [(a_m, .inr (8, [.ref a_ms, .ref a_mw, .ref a_mv, .ref a_mp, .ref a_mf, .int m_chg, .int r.2, .int m_rea, .int m_det, .int m_ref, .int m_err, .int m_ans, .int m_sav, .int m_net, .ref a_ml, .int m_lin, .ref a_mt, .ref a_mc, .int m_tap, .int m_her, .int m_cmd])), (a_ms, .inl (T 0, 103, .inl v_ms))] [.ref a_m, .int p0] r.1 := by
  unfold fX8_beside at h
  refine wrMet (by decide +kernel) rfl (fun p e s m args below meth c Q A C hE hA hP hD hS hret ls hl => ?_)
  have hx := C.1
  have hb := C.2.1
  have hl : lv_has ls 4 [(0, .ref a_m), (1, .int p0)] := hl
  refine lv_aload_n hx hb dX8_beside_0 rfl (lv_at hl 0 rfl) ?_
  refine lv_iload_n hx hb dX8_beside_1 rfl (lv_at hl 1 rfl) ?_
  refine lv_iconst (v := 0) hx hb dX8_beside_2 (by decide) ?_
  refine lv_iconst (v := 1) hx hb dX8_beside_3 (by decide) ?_
  refine rdS C hE hP (kX8_isIn l D T p0 0 1) mX8_isIn qLX8_60 [] rfl ⟨rfl, rfl⟩ ⟨Nat.le_of_ble_eq_true rfl, Nat.le_of_ble_eq_true rfl⟩ rfl hl.1 rfl (Nat.le_of_ble_eq_true rfl) dX8_beside_4 ⟨Nat.le_of_ble_eq_true rfl, Nat.le_of_ble_eq_true rfl⟩ ?_
  refine lv_if_ne (tgt := 14) hx hb dX8_beside_7 (by decide) (fun c1 => ?_) (fun c1 => ?_)
  · rw [if_neg c1] at h
    refine lv_iconst (v := 0) hx hb dX8_beside_14 (by decide) ?_
    exact lX8_beside_15 C hE hA hret 0 p0 m_thr ⟨hP, hD⟩ hS _ (lv_sub hl [0, 1] rfl) h
  · rw [if_pos c1] at h
    refine lv_iconst (v := 1) hx hb dX8_beside_10 (by decide) ?_
    refine lv_goto (tgt := 15) hx hb dX8_beside_11 (by decide) ?_
    exact lX8_beside_15 C hE hA hret 1 p0 m_thr ⟨hP, hD⟩ hS _ (lv_sub hl [0, 1] rfl) h

def fX8_valueOf_39 (v_ms : Nat → Int32) (l1 : Int32) (l2 : Int32) : Option Int32 :=
  (fX8_of v_ms l2 ((l1 - 1) + 6)).bind fun q11 =>
  some q11
def fX8_valueOf (v_ms : Nat → Int32) (p0 : Int32) (p1 : Int32) : Option Int32 :=
  if p0 = 0 then
    (fX8_of v_ms p1 3).bind fun q2 =>
    some q2
  else
    if p0 = 1 then
      fX8_valueOf_39 v_ms p0 p1
    else
      if p0 = 2 then
        fX8_valueOf_39 v_ms p0 p1
      else
        if p0 = 3 then
          fX8_valueOf_39 v_ms p0 p1
        else
          (fX8_of v_ms p1 1).bind fun q7 =>
          (fX8_of v_ms p1 2).bind fun q9 =>
          some (q7 + q9)
set_option maxHeartbeats 4000000 in
set_option maxRecDepth 100000 in
theorem lX8_valueOf_39 {p : Program} {l : Launch} {e : Env} {s : State} {m : MethodId} {args : Array Value} {below : List Frame} {meth : Method} {c : Code} {Q : State → Prop} {D : va_G} {T : Nat → ClassId} {a_m a_ms a_mw a_mv a_mp a_mf a_ml a_mt a_mc : Nat} {m_chg : Int32} {m_thr : Int32} {m_rea : Int32} {m_det : Int32} {m_ref : Int32} {m_err : Int32} {m_ans : Int32} {m_sav : Int32} {m_net : Int32} {m_lin : Int32} {m_tap : Int32} {m_her : Int32} {m_cmd : Int32} {v_ms : Nat → Int32} {r : Int32} (C : CallFix p m c cX8_valueOf 3 s args aw RX8) (hE : eK D T s) (hP : va_P D kC [(a_m, .inr (8, [.ref a_ms, .ref a_mw, .ref a_mv, .ref a_mp, .ref a_mf, .int m_chg, .int m_thr, .int m_rea, .int m_det, .int m_ref, .int m_err, .int m_ans, .int m_sav, .int m_net, .ref a_ml, .int m_lin, .ref a_mt, .ref a_mc, .int m_tap, .int m_her, .int m_cmd])), (a_ms, .inl (T 0, 103, .inl v_ms))] s.heap) (hret : RdRet p l e ({ frames := 1, cells := 0, slots := 0, locals := 22 } : Room) s m args below meth c Q cX8_valueOf .int r) (l1 : Int32) (l2 : Int32) (ls : Array Slot) (hl : lv_has ls 3 [(0, .ref a_m), (1, .int l1), (2, .int l2)]) (h : fX8_valueOf_39 v_ms l1 l2 = some r) : W p l e ({ frames := 1, cells := 0, slots := 0, locals := 22 } : Room) s m args below meth c s.heap [] 0 0 Q (F0 m 39 ls []) := by
  have hx := C.1
  have hb := C.2.1
  unfold fX8_valueOf_39 at h
  refine lv_aload_n hx hb dX8_valueOf_39 rfl (lv_at hl 0 rfl) ?_
  refine lv_iload_n hx hb dX8_valueOf_40 rfl (lv_at hl 2 rfl) ?_
  refine lv_iload_n hx hb dX8_valueOf_41 rfl (lv_at hl 1 rfl) ?_
  refine lv_iconst (v := 1) hx hb dX8_valueOf_42 (by decide) ?_
  refine lv_isub hx hb dX8_valueOf_43 ?_
  refine lv_bipush (v := 6) hx hb dX8_valueOf_44 (by decide) ?_
  refine lv_iadd hx hb dX8_valueOf_46 ?_
  replace h := bnd h; obtain ⟨q11, e12, h⟩ := h
  refine rdV C hE hP (kX8_of l D T a_m a_ms a_mw a_mv a_mp a_mf a_ml a_mt a_mc m_chg m_thr m_rea m_det m_ref m_err m_ans m_sav m_net m_lin m_tap m_her m_cmd v_ms l2 ((l1 - 1) + 6) q11 e12) mX8_of qLX8_90 [0, 1] 0 rfl rfl rfl rfl ⟨rfl, rfl⟩ ⟨Nat.le_of_ble_eq_true rfl, Nat.le_of_ble_eq_true rfl⟩ rfl hl.1 rfl (Nat.le_of_ble_eq_true rfl) dX8_valueOf_47 ⟨Nat.le_of_ble_eq_true rfl, Nat.le_of_ble_eq_true rfl⟩ ?_
  exact hret _ _ _ _ dX8_valueOf_50 rfl (Option.some.inj h)
set_option maxHeartbeats 4000000 in
set_option maxRecDepth 100000 in
theorem kX8_valueOf (l : Launch) (D : va_G) (T : Nat → ClassId) (a_m a_ms a_mw a_mv a_mp a_mf a_ml a_mt a_mc : Nat) (m_chg : Int32) (m_thr : Int32) (m_rea : Int32) (m_det : Int32) (m_ref : Int32) (m_err : Int32) (m_ans : Int32) (m_sav : Int32) (m_net : Int32) (m_lin : Int32) (m_tap : Int32) (m_her : Int32) (m_cmd : Int32) (v_ms : Nat → Int32) (p0 : Int32) (p1 : Int32) (r : Int32) (h : fX8_valueOf v_ms p0 p1 = some r) : RdI l yX8_valueOf cX8_valueOf 3 .int ({ frames := 1, cells := 0, slots := 0, locals := 22 } : Room) D T [(a_m, .inr (8, [.ref a_ms, .ref a_mw, .ref a_mv, .ref a_mp, .ref a_mf, .int m_chg, .int m_thr, .int m_rea, .int m_det, .int m_ref, .int m_err, .int m_ans, .int m_sav, .int m_net, .ref a_ml, .int m_lin, .ref a_mt, .ref a_mc, .int m_tap, .int m_her, .int m_cmd])), (a_ms, .inl (T 0, 103, .inl v_ms))] [.ref a_m, .int p0, .int p1] r := by
  unfold fX8_valueOf at h
  refine rdMet (by decide +kernel) rfl (fun p e s m args below meth c Q C hE hP hret ls hl => ?_)
  have hx := C.1
  have hb := C.2.1
  have hl : lv_has ls 3 [(0, .ref a_m), (1, .int p0), (2, .int p1)] := hl
  refine lv_iload_n hx hb dX8_valueOf_0 rfl (lv_at hl 1 rfl) ?_
  by_cases c1 : p0 = 0
  · replace h := ite_t c1 h
    refine lv_tableIn (tgt := 32) hx hb dX8_valueOf_1 (by rw [c1]; decide) (by rw [c1]; decide) (by rw [c1]; rfl) (by decide) ?_
    refine lv_aload_n hx hb dX8_valueOf_32 rfl (lv_at hl 0 rfl) ?_
    refine lv_iload_n hx hb dX8_valueOf_33 rfl (lv_at hl 2 rfl) ?_
    refine lv_iconst (v := 3) hx hb dX8_valueOf_34 (by decide) ?_
    replace h := bnd h; obtain ⟨q2, e3, h⟩ := h
    refine rdV C hE hP (kX8_of l D T a_m a_ms a_mw a_mv a_mp a_mf a_ml a_mt a_mc m_chg m_thr m_rea m_det m_ref m_err m_ans m_sav m_net m_lin m_tap m_her m_cmd v_ms p1 3 q2 e3) mX8_of qLX8_90 [0, 1] 0 rfl rfl rfl rfl ⟨rfl, rfl⟩ ⟨Nat.le_of_ble_eq_true rfl, Nat.le_of_ble_eq_true rfl⟩ rfl hl.1 rfl (Nat.le_of_ble_eq_true rfl) dX8_valueOf_35 ⟨Nat.le_of_ble_eq_true rfl, Nat.le_of_ble_eq_true rfl⟩ ?_
    exact hret _ _ _ _ dX8_valueOf_38 rfl (Option.some.inj h)
  · replace h := ite_f c1 h
    by_cases c4 : p0 = 1
    · replace h := ite_t c4 h
      refine lv_tableIn (tgt := 39) hx hb dX8_valueOf_1 (by rw [c4]; decide) (by rw [c4]; decide) (by rw [c4]; rfl) (by decide) ?_
      exact lX8_valueOf_39 C hE hP hret p0 p1 _ (lv_sub hl [0, 1, 2] rfl) h
    · replace h := ite_f c4 h
      by_cases c5 : p0 = 2
      · replace h := ite_t c5 h
        refine lv_tableIn (tgt := 39) hx hb dX8_valueOf_1 (by rw [c5]; decide) (by rw [c5]; decide) (by rw [c5]; rfl) (by decide) ?_
        exact lX8_valueOf_39 C hE hP hret p0 p1 _ (lv_sub hl [0, 1, 2] rfl) h
      · replace h := ite_f c5 h
        by_cases c6 : p0 = 3
        · replace h := ite_t c6 h
          refine lv_tableIn (tgt := 39) hx hb dX8_valueOf_1 (by rw [c6]; decide) (by rw [c6]; decide) (by rw [c6]; rfl) (by decide) ?_
          exact lX8_valueOf_39 C hE hP hret p0 p1 _ (lv_sub hl [0, 1, 2] rfl) h
        · replace h := ite_f c6 h
          refine lv_tableOut (tgt := 51) hx hb dX8_valueOf_1 (by have t0 := tI 0 rfl c1; have t1 := tI 1 rfl c4; have t2 := tI 2 rfl c5; have t3 := tI 3 rfl c6; omega) (by decide) ?_
          refine lv_aload_n hx hb dX8_valueOf_51 rfl (lv_at hl 0 rfl) ?_
          refine lv_iload_n hx hb dX8_valueOf_52 rfl (lv_at hl 2 rfl) ?_
          refine lv_iconst (v := 1) hx hb dX8_valueOf_53 (by decide) ?_
          replace h := bnd h; obtain ⟨q7, e8, h⟩ := h
          refine rdV C hE hP (kX8_of l D T a_m a_ms a_mw a_mv a_mp a_mf a_ml a_mt a_mc m_chg m_thr m_rea m_det m_ref m_err m_ans m_sav m_net m_lin m_tap m_her m_cmd v_ms p1 1 q7 e8) mX8_of qLX8_90 [0, 1] 0 rfl rfl rfl rfl ⟨rfl, rfl⟩ ⟨Nat.le_of_ble_eq_true rfl, Nat.le_of_ble_eq_true rfl⟩ rfl hl.1 rfl (Nat.le_of_ble_eq_true rfl) dX8_valueOf_54 ⟨Nat.le_of_ble_eq_true rfl, Nat.le_of_ble_eq_true rfl⟩ ?_
          refine lv_aload_n hx hb dX8_valueOf_57 rfl (lv_at hl 0 rfl) ?_
          refine lv_iload_n hx hb dX8_valueOf_58 rfl (lv_at hl 2 rfl) ?_
          refine lv_iconst (v := 2) hx hb dX8_valueOf_59 (by decide) ?_
          replace h := bnd h; obtain ⟨q9, e10, h⟩ := h
          refine rdV C hE hP (kX8_of l D T a_m a_ms a_mw a_mv a_mp a_mf a_ml a_mt a_mc m_chg m_thr m_rea m_det m_ref m_err m_ans m_sav m_net m_lin m_tap m_her m_cmd v_ms p1 2 q9 e10) mX8_of qLX8_90 [0, 1] 0 rfl rfl rfl rfl ⟨rfl, rfl⟩ ⟨Nat.le_of_ble_eq_true rfl, Nat.le_of_ble_eq_true rfl⟩ rfl hl.1 rfl (Nat.le_of_ble_eq_true rfl) dX8_valueOf_60 ⟨Nat.le_of_ble_eq_true rfl, Nat.le_of_ble_eq_true rfl⟩ ?_
          refine lv_iadd hx hb dX8_valueOf_63 ?_
          exact hret _ _ _ _ dX8_valueOf_64 rfl (Option.some.inj h)

def fX8_ranked_92 (v_ms : Nat → Int32) (rec26 : Int32 → Int32 → Int32 → Int32 → Option (Int32 × Int32)) (rec42 : Int32 → Int32 → Int32 → Int32 → Int32 → Int32 → Option (Int32 × Int32)) (x0 : Int32) (x1 : Int32) (l1 : Int32) (l2 : Int32) (l3 : Int32) (l5 : Int32) (m_thr : Int32) : Option (Int32 × Int32) :=
  rec42 l1 l2 l3 (x0 + x1) (l5 + 1) m_thr
def fX8_ranked_42 (v_ms : Nat → Int32) (rec26 : Int32 → Int32 → Int32 → Int32 → Option (Int32 × Int32)) : Nat → Int32 → Int32 → Int32 → Int32 → Int32 → Int32 → Option (Int32 × Int32)
  | 0, _, _, _, _, _, _ => none
  | k + 1, l1, l2, l3, l4, l5, m_thr =>
    if vin 0 103 = true then
    if (v_ms (0 : Int32).toNatClampNeg) ≤ l5 then
      if l4 = l2 then
        some (l3, m_thr)
      else
        rec26 l1 l2 (l3 + 1) m_thr
    else
      (fX8_valueOf v_ms l1 l5).bind fun q10 =>
      (fX8_valueOf v_ms l1 l3).bind fun q12 =>
      fX8_ranked_92 v_ms rec26 (fX8_ranked_42 v_ms rec26 k) l4 (if 0 < (q10 - q12) then 1 else (if (q10 - q12) = 0 then (if l3 ≤ l5 then 0 else 1) else 0)) l1 l2 l3 l5 m_thr
    else none
def fX8_ranked_26 (v_ms : Nat → Int32) : Nat → Int32 → Int32 → Int32 → Int32 → Option (Int32 × Int32)
  | 0, _, _, _, _ => none
  | k + 1, l1, l2, l3, m_thr =>
    if vin 0 103 = true then
    if (v_ms (0 : Int32).toNatClampNeg) ≤ l3 then
      some (0, 2)
    else
      fX8_ranked_42 v_ms (fX8_ranked_26 v_ms k) 64 l1 l2 l3 0 0 m_thr
    else none
def fX8_ranked_15 (v_ms : Nat → Int32) (x1 : Int32) (l1 : Int32) (l2 : Int32) (m_thr : Int32) : Option (Int32 × Int32) :=
  (fX8_isThrown m_thr x1 1).bind fun q2 =>
  if q2.1 = 0 then
    fX8_ranked_26 v_ms 64 l1 l2 0 q2.2
  else
    some (0, q2.2)
def fX8_ranked (m_thr : Int32) (v_ms : Nat → Int32) (p0 : Int32) (p1 : Int32) : Option (Int32 × Int32) :=
  fX8_ranked_15 v_ms (if (fX8_isIn p0 0 4) = 0 then 1 else 0) p0 p1 m_thr
set_option maxHeartbeats 4000000 in
set_option maxRecDepth 100000 in
theorem lX8_ranked_92 {p : Program} {l : Launch} {e : Env} {s : State} {m : MethodId} {args : Array Value} {below : List Frame} {meth : Method} {c : Code} {Q : State → Prop} {D : va_G} {T : Nat → ClassId} {a_m a_ms a_mw a_mv a_mp a_mf a_ml a_mt a_mc : Nat} {m_chg : Int32} {m_rea : Int32} {m_det : Int32} {m_ref : Int32} {m_err : Int32} {m_ans : Int32} {m_sav : Int32} {m_net : Int32} {m_lin : Int32} {m_tap : Int32} {m_her : Int32} {m_cmd : Int32} {v_ms : Nat → Int32} {A : Nat → Prop} {r : Int32 × Int32} (C : CallFix p m c cX8_ranked 7 s args aw RX8) (hE : eK D T s) (hA : ∀ q : Nat, s.heap.size ≤ q → A q) (hret : WrRet p l e ({ frames := 2, cells := 0, slots := 0, locals := 44 } : Room) s m args below meth c Q cX8_ranked .int D A [(a_m, .inr (8, [.ref a_ms, .ref a_mw, .ref a_mv, .ref a_mp, .ref a_mf, .int m_chg, .int r.2, .int m_rea, .int m_det, .int m_ref, .int m_err, .int m_ans, .int m_sav, .int m_net, .ref a_ml, .int m_lin, .ref a_mt, .ref a_mc, .int m_tap, .int m_her, .int m_cmd])), (a_ms, .inl (T 0, 103, .inl v_ms))] r.1) {rec26 : Int32 → Int32 → Int32 → Int32 → Option (Int32 × Int32)} (hrec26 : ∀ (l1 : Int32) (l2 : Int32) (l3 : Int32) (m_thr : Int32) {H : Heap} {locs : List Loc} (hPD : va_PD D A [(a_m, .inr (8, [.ref a_ms, .ref a_mw, .ref a_mv, .ref a_mp, .ref a_mf, .int m_chg, .int m_thr, .int m_rea, .int m_det, .int m_ref, .int m_err, .int m_ans, .int m_sav, .int m_net, .ref a_ml, .int m_lin, .ref a_mt, .ref a_mc, .int m_tap, .int m_her, .int m_cmd])), (a_ms, .inl (T 0, 103, .inl v_ms))] H) (hS : va_S A s.heap H locs) (ls : Array Slot) (hl : lv_has ls 7 [(0, .ref a_m), (1, .int l1), (2, .int l2), (3, .int l3)]) (h : rec26 l1 l2 l3 m_thr = some r), W p l e ({ frames := 2, cells := 0, slots := 0, locals := 44 } : Room) s m args below meth c H locs 0 0 Q (F0 m 26 ls [])) {rec42 : Int32 → Int32 → Int32 → Int32 → Int32 → Int32 → Option (Int32 × Int32)} (hrec42 : ∀ (l1 : Int32) (l2 : Int32) (l3 : Int32) (l4 : Int32) (l5 : Int32) (m_thr : Int32) {H : Heap} {locs : List Loc} (hPD : va_PD D A [(a_m, .inr (8, [.ref a_ms, .ref a_mw, .ref a_mv, .ref a_mp, .ref a_mf, .int m_chg, .int m_thr, .int m_rea, .int m_det, .int m_ref, .int m_err, .int m_ans, .int m_sav, .int m_net, .ref a_ml, .int m_lin, .ref a_mt, .ref a_mc, .int m_tap, .int m_her, .int m_cmd])), (a_ms, .inl (T 0, 103, .inl v_ms))] H) (hS : va_S A s.heap H locs) (ls : Array Slot) (hl : lv_has ls 7 [(0, .ref a_m), (1, .int l1), (2, .int l2), (3, .int l3), (4, .int l4), (5, .int l5)]) (h : rec42 l1 l2 l3 l4 l5 m_thr = some r), W p l e ({ frames := 2, cells := 0, slots := 0, locals := 44 } : Room) s m args below meth c H locs 0 0 Q (F0 m 42 ls [])) (x0 : Int32) (x1 : Int32) (l1 : Int32) (l2 : Int32) (l3 : Int32) (l5 : Int32) (m_thr : Int32) {H : Heap} {locs : List Loc} (hPD : va_PD D A [(a_m, .inr (8, [.ref a_ms, .ref a_mw, .ref a_mv, .ref a_mp, .ref a_mf, .int m_chg, .int m_thr, .int m_rea, .int m_det, .int m_ref, .int m_err, .int m_ans, .int m_sav, .int m_net, .ref a_ml, .int m_lin, .ref a_mt, .ref a_mc, .int m_tap, .int m_her, .int m_cmd])), (a_ms, .inl (T 0, 103, .inl v_ms))] H) (hS : va_S A s.heap H locs) (ls : Array Slot) (hl : lv_has ls 7 [(0, .ref a_m), (1, .int l1), (2, .int l2), (3, .int l3), (5, .int l5)]) (h : fX8_ranked_92 v_ms rec26 rec42 x0 x1 l1 l2 l3 l5 m_thr = some r) : W p l e ({ frames := 2, cells := 0, slots := 0, locals := 44 } : Room) s m args below meth c H locs 0 0 Q (F0 m 92 ls [.int x1, .int x0]) := by
  have hx := C.1
  have hb := C.2.1
  obtain ⟨hP, hD⟩ := hPD
  unfold fX8_ranked_92 at h
  refine lv_iadd hx hb dX8_ranked_92 ?_
  refine lv_istore (lv' := [(4, .int (x0 + x1)), (0, .ref a_m), (1, .int l1), (2, .int l2), (3, .int l3), (5, .int l5)]) hx hb dX8_ranked_93 hl (by decide) rfl (fun ls hl => ?_)
  refine lv_iinc (v := (l5 + 1)) (lv' := [(5, .int (l5 + 1)), (4, .int (x0 + x1)), (0, .ref a_m), (1, .int l1), (2, .int l2), (3, .int l3)]) hx hb dX8_ranked_95 hl (k := 5) rfl rfl (by decide) rfl (fun ls hl => ?_)
  refine lv_goto (tgt := 42) hx hb dX8_ranked_98 (by decide) ?_
  exact hrec42 l1 l2 l3 (x0 + x1) (l5 + 1) m_thr ⟨hP, hD⟩ hS _ (lv_sub hl [2, 3, 4, 5, 1, 0] rfl) h
set_option maxHeartbeats 4000000 in
set_option maxRecDepth 100000 in
theorem lX8_ranked_42 {p : Program} {l : Launch} {e : Env} {s : State} {m : MethodId} {args : Array Value} {below : List Frame} {meth : Method} {c : Code} {Q : State → Prop} {D : va_G} {T : Nat → ClassId} {a_m a_ms a_mw a_mv a_mp a_mf a_ml a_mt a_mc : Nat} {m_chg : Int32} {m_rea : Int32} {m_det : Int32} {m_ref : Int32} {m_err : Int32} {m_ans : Int32} {m_sav : Int32} {m_net : Int32} {m_lin : Int32} {m_tap : Int32} {m_her : Int32} {m_cmd : Int32} {v_ms : Nat → Int32} {A : Nat → Prop} {r : Int32 × Int32} (C : CallFix p m c cX8_ranked 7 s args aw RX8) (hE : eK D T s) (hA : ∀ q : Nat, s.heap.size ≤ q → A q) (hret : WrRet p l e ({ frames := 2, cells := 0, slots := 0, locals := 44 } : Room) s m args below meth c Q cX8_ranked .int D A [(a_m, .inr (8, [.ref a_ms, .ref a_mw, .ref a_mv, .ref a_mp, .ref a_mf, .int m_chg, .int r.2, .int m_rea, .int m_det, .int m_ref, .int m_err, .int m_ans, .int m_sav, .int m_net, .ref a_ml, .int m_lin, .ref a_mt, .ref a_mc, .int m_tap, .int m_her, .int m_cmd])), (a_ms, .inl (T 0, 103, .inl v_ms))] r.1) {rec26 : Int32 → Int32 → Int32 → Int32 → Option (Int32 × Int32)} (hrec26 : ∀ (l1 : Int32) (l2 : Int32) (l3 : Int32) (m_thr : Int32) {H : Heap} {locs : List Loc} (hPD : va_PD D A [(a_m, .inr (8, [.ref a_ms, .ref a_mw, .ref a_mv, .ref a_mp, .ref a_mf, .int m_chg, .int m_thr, .int m_rea, .int m_det, .int m_ref, .int m_err, .int m_ans, .int m_sav, .int m_net, .ref a_ml, .int m_lin, .ref a_mt, .ref a_mc, .int m_tap, .int m_her, .int m_cmd])), (a_ms, .inl (T 0, 103, .inl v_ms))] H) (hS : va_S A s.heap H locs) (ls : Array Slot) (hl : lv_has ls 7 [(0, .ref a_m), (1, .int l1), (2, .int l2), (3, .int l3)]) (h : rec26 l1 l2 l3 m_thr = some r), W p l e ({ frames := 2, cells := 0, slots := 0, locals := 44 } : Room) s m args below meth c H locs 0 0 Q (F0 m 26 ls [])) : ∀ (k : Nat) (l1 : Int32) (l2 : Int32) (l3 : Int32) (l4 : Int32) (l5 : Int32) (m_thr : Int32) {H : Heap} {locs : List Loc} (hPD : va_PD D A [(a_m, .inr (8, [.ref a_ms, .ref a_mw, .ref a_mv, .ref a_mp, .ref a_mf, .int m_chg, .int m_thr, .int m_rea, .int m_det, .int m_ref, .int m_err, .int m_ans, .int m_sav, .int m_net, .ref a_ml, .int m_lin, .ref a_mt, .ref a_mc, .int m_tap, .int m_her, .int m_cmd])), (a_ms, .inl (T 0, 103, .inl v_ms))] H) (hS : va_S A s.heap H locs) (ls : Array Slot) (hl : lv_has ls 7 [(0, .ref a_m), (1, .int l1), (2, .int l2), (3, .int l3), (4, .int l4), (5, .int l5)]) (h : fX8_ranked_42 v_ms rec26 k l1 l2 l3 l4 l5 m_thr = some r), W p l e ({ frames := 2, cells := 0, slots := 0, locals := 44 } : Room) s m args below meth c H locs 0 0 Q (F0 m 42 ls []) := by
  have hx := C.1
  have hb := C.2.1
  intro k
  induction k with
  | zero =>
    intro l1 l2 l3 l4 l5 m_thr H locs hPD hS ls hl h
    exact nomatch (show (none : Option (Int32 × Int32)) = some r from h)
  | succ k ih =>
    intro l1 l2 l3 l4 l5 m_thr H locs hPD hS ls hl h
    obtain ⟨hP, hD⟩ := hPD
    rw [fX8_ranked_42] at h
    refine lv_iload hx hb dX8_ranked_42 (lv_at hl 5 rfl) ?_
    refine lv_aload_n hx hb dX8_ranked_44 rfl (lv_at hl 0 rfl) ?_
    refine getF (q0 := 0) (k0 := 0) (v := .ref a_ms) C hE hP inA8 rfl rfl (by decide) qFX8_9 rfl rfl dX8_ranked_45 ?_
    refine lv_iconst (v := 0) hx hb dX8_ranked_48 (by decide) ?_
    replace h := gd h; obtain ⟨g7, h⟩ := h
    refine aldI (q0 := 1) C hE hP rfl g7 dX8_ranked_49 ?_
    refine lv_icmp_ge (tgt := 101) hx hb dX8_ranked_50 (by decide) (fun c8 => ?_) (fun c8 => ?_)
    · replace h := ite_t c8 h
      refine lv_iload hx hb dX8_ranked_101 (lv_at hl 4 rfl) ?_
      refine lv_iload_n hx hb dX8_ranked_103 rfl (lv_at hl 2 rfl) ?_
      refine lv_icmp_ne (tgt := 109) hx hb dX8_ranked_104 (by decide) (fun c9 => ?_) (fun c9 => ?_)
      · replace h := ite_f c9 h
        refine lv_iinc (v := (l3 + 1)) (lv' := [(3, .int (l3 + 1)), (0, .ref a_m), (1, .int l1), (2, .int l2), (4, .int l4), (5, .int l5)]) hx hb dX8_ranked_109 hl (k := 3) rfl rfl (by decide) rfl (fun ls hl => ?_)
        refine lv_goto (tgt := 26) hx hb dX8_ranked_112 (by decide) ?_
        exact hrec26 l1 l2 (l3 + 1) m_thr ⟨hP, hD⟩ hS _ (lv_sub hl [1, 2, 3, 0] rfl) h
      · replace h := ite_t c9 h
        refine lv_iload_n hx hb dX8_ranked_107 rfl (lv_at hl 3 rfl) ?_
        replace h := Option.some.inj h
        exact hret _ _ _ _ _ _ dX8_ranked_108 rfl (by rw [← h] <;> rfl) (by rw [← h]; exact hP) hS
    · replace h := ite_f c8 h
      refine lv_aload_n hx hb dX8_ranked_53 rfl (lv_at hl 0 rfl) ?_
      refine lv_iload_n hx hb dX8_ranked_54 rfl (lv_at hl 1 rfl) ?_
      refine lv_iload hx hb dX8_ranked_55 (lv_at hl 5 rfl) ?_
      replace h := bnd h; obtain ⟨q10, e11, h⟩ := h
      refine rdV C hE hP (kX8_valueOf l D T a_m a_ms a_mw a_mv a_mp a_mf a_ml a_mt a_mc m_chg m_thr m_rea m_det m_ref m_err m_ans m_sav m_net m_lin m_tap m_her m_cmd v_ms l1 l5 q10 e11) mX8_valueOf qLX8_190 [0, 1] 0 rfl rfl rfl rfl ⟨rfl, rfl⟩ ⟨Nat.le_of_ble_eq_true rfl, Nat.le_of_ble_eq_true rfl⟩ rfl hl.1 rfl (Nat.le_of_ble_eq_true rfl) dX8_ranked_57 ⟨Nat.le_of_ble_eq_true rfl, Nat.le_of_ble_eq_true rfl⟩ ?_
      refine lv_aload_n hx hb dX8_ranked_60 rfl (lv_at hl 0 rfl) ?_
      refine lv_iload_n hx hb dX8_ranked_61 rfl (lv_at hl 1 rfl) ?_
      refine lv_iload_n hx hb dX8_ranked_62 rfl (lv_at hl 3 rfl) ?_
      replace h := bnd h; obtain ⟨q12, e13, h⟩ := h
      refine rdV C hE hP (kX8_valueOf l D T a_m a_ms a_mw a_mv a_mp a_mf a_ml a_mt a_mc m_chg m_thr m_rea m_det m_ref m_err m_ans m_sav m_net m_lin m_tap m_her m_cmd v_ms l1 l3 q12 e13) mX8_valueOf qLX8_190 [0, 1] 0 rfl rfl rfl rfl ⟨rfl, rfl⟩ ⟨Nat.le_of_ble_eq_true rfl, Nat.le_of_ble_eq_true rfl⟩ rfl hl.1 rfl (Nat.le_of_ble_eq_true rfl) dX8_ranked_63 ⟨Nat.le_of_ble_eq_true rfl, Nat.le_of_ble_eq_true rfl⟩ ?_
      refine lv_isub hx hb dX8_ranked_66 ?_
      refine lv_istore (lv' := [(6, .int (q10 - q12)), (0, .ref a_m), (1, .int l1), (2, .int l2), (3, .int l3), (4, .int l4), (5, .int l5)]) hx hb dX8_ranked_67 hl (by decide) rfl (fun ls hl => ?_)
      refine lv_iload hx hb dX8_ranked_69 (lv_at hl 5 rfl) ?_
      refine lv_iload hx hb dX8_ranked_71 (lv_at hl 0 rfl) ?_
      refine lv_if_gt (tgt := 87) hx hb dX8_ranked_73 (by decide) (fun c14 => ?_) (fun c14 => ?_)
      · rw [if_pos c14] at h
        refine lv_iconst (v := 1) hx hb dX8_ranked_87 (by decide) ?_
        refine lv_goto (tgt := 92) hx hb dX8_ranked_88 (by decide) ?_
        exact lX8_ranked_92 C hE hA hret hrec26 ih l4 1 l1 l2 l3 l5 m_thr ⟨hP, hD⟩ hS _ (lv_sub hl [1, 2, 3, 4, 6] rfl) h
      · rw [if_neg c14] at h
        refine lv_iload hx hb dX8_ranked_76 (lv_at hl 0 rfl) ?_
        refine lv_if_ne (tgt := 91) hx hb dX8_ranked_78 (by decide) (fun c15 => ?_) (fun c15 => ?_)
        · rw [if_neg c15] at h
          refine lv_iconst (v := 0) hx hb dX8_ranked_91 (by decide) ?_
          exact lX8_ranked_92 C hE hA hret hrec26 ih l4 0 l1 l2 l3 l5 m_thr ⟨hP, hD⟩ hS _ (lv_sub hl [1, 2, 3, 4, 6] rfl) h
        · rw [if_pos c15] at h
          refine lv_iload hx hb dX8_ranked_81 (lv_at hl 6 rfl) ?_
          refine lv_iload_n hx hb dX8_ranked_83 rfl (lv_at hl 4 rfl) ?_
          refine lv_icmp_ge (tgt := 91) hx hb dX8_ranked_84 (by decide) (fun c16 => ?_) (fun c16 => ?_)
          · rw [if_pos c16] at h
            refine lv_iconst (v := 0) hx hb dX8_ranked_91 (by decide) ?_
            exact lX8_ranked_92 C hE hA hret hrec26 ih l4 0 l1 l2 l3 l5 m_thr ⟨hP, hD⟩ hS _ (lv_sub hl [1, 2, 3, 4, 6] rfl) h
          · rw [if_neg c16] at h
            refine lv_iconst (v := 1) hx hb dX8_ranked_87 (by decide) ?_
            refine lv_goto (tgt := 92) hx hb dX8_ranked_88 (by decide) ?_
            exact lX8_ranked_92 C hE hA hret hrec26 ih l4 1 l1 l2 l3 l5 m_thr ⟨hP, hD⟩ hS _ (lv_sub hl [1, 2, 3, 4, 6] rfl) h
set_option maxHeartbeats 4000000 in
set_option maxRecDepth 100000 in
theorem lX8_ranked_26 {p : Program} {l : Launch} {e : Env} {s : State} {m : MethodId} {args : Array Value} {below : List Frame} {meth : Method} {c : Code} {Q : State → Prop} {D : va_G} {T : Nat → ClassId} {a_m a_ms a_mw a_mv a_mp a_mf a_ml a_mt a_mc : Nat} {m_chg : Int32} {m_rea : Int32} {m_det : Int32} {m_ref : Int32} {m_err : Int32} {m_ans : Int32} {m_sav : Int32} {m_net : Int32} {m_lin : Int32} {m_tap : Int32} {m_her : Int32} {m_cmd : Int32} {v_ms : Nat → Int32} {A : Nat → Prop} {r : Int32 × Int32} (C : CallFix p m c cX8_ranked 7 s args aw RX8) (hE : eK D T s) (hA : ∀ q : Nat, s.heap.size ≤ q → A q) (hret : WrRet p l e ({ frames := 2, cells := 0, slots := 0, locals := 44 } : Room) s m args below meth c Q cX8_ranked .int D A [(a_m, .inr (8, [.ref a_ms, .ref a_mw, .ref a_mv, .ref a_mp, .ref a_mf, .int m_chg, .int r.2, .int m_rea, .int m_det, .int m_ref, .int m_err, .int m_ans, .int m_sav, .int m_net, .ref a_ml, .int m_lin, .ref a_mt, .ref a_mc, .int m_tap, .int m_her, .int m_cmd])), (a_ms, .inl (T 0, 103, .inl v_ms))] r.1) : ∀ (k : Nat) (l1 : Int32) (l2 : Int32) (l3 : Int32) (m_thr : Int32) {H : Heap} {locs : List Loc} (hPD : va_PD D A [(a_m, .inr (8, [.ref a_ms, .ref a_mw, .ref a_mv, .ref a_mp, .ref a_mf, .int m_chg, .int m_thr, .int m_rea, .int m_det, .int m_ref, .int m_err, .int m_ans, .int m_sav, .int m_net, .ref a_ml, .int m_lin, .ref a_mt, .ref a_mc, .int m_tap, .int m_her, .int m_cmd])), (a_ms, .inl (T 0, 103, .inl v_ms))] H) (hS : va_S A s.heap H locs) (ls : Array Slot) (hl : lv_has ls 7 [(0, .ref a_m), (1, .int l1), (2, .int l2), (3, .int l3)]) (h : fX8_ranked_26 v_ms k l1 l2 l3 m_thr = some r), W p l e ({ frames := 2, cells := 0, slots := 0, locals := 44 } : Room) s m args below meth c H locs 0 0 Q (F0 m 26 ls []) := by
  have hx := C.1
  have hb := C.2.1
  intro k
  induction k with
  | zero =>
    intro l1 l2 l3 m_thr H locs hPD hS ls hl h
    exact nomatch (show (none : Option (Int32 × Int32)) = some r from h)
  | succ k ih =>
    intro l1 l2 l3 m_thr H locs hPD hS ls hl h
    obtain ⟨hP, hD⟩ := hPD
    rw [fX8_ranked_26] at h
    refine lv_iload_n hx hb dX8_ranked_26 rfl (lv_at hl 3 rfl) ?_
    refine lv_aload_n hx hb dX8_ranked_27 rfl (lv_at hl 0 rfl) ?_
    refine getF (q0 := 0) (k0 := 0) (v := .ref a_ms) C hE hP inA8 rfl rfl (by decide) qFX8_9 rfl rfl dX8_ranked_28 ?_
    refine lv_iconst (v := 0) hx hb dX8_ranked_31 (by decide) ?_
    replace h := gd h; obtain ⟨g5, h⟩ := h
    refine aldI (q0 := 1) C hE hP rfl g5 dX8_ranked_32 ?_
    refine lv_icmp_ge (tgt := 115) hx hb dX8_ranked_33 (by decide) (fun c6 => ?_) (fun c6 => ?_)
    · replace h := ite_t c6 h
      refine lv_aload_n hx hb dX8_ranked_115 rfl (lv_at hl 0 rfl) ?_
      refine lv_iconst (v := 2) hx hb dX8_ranked_116 (by decide) ?_
      refine putF (q0 := 0) (k0 := 6) (ws1 := [(a_m, .inr (8, [.ref a_ms, .ref a_mw, .ref a_mv, .ref a_mp, .ref a_mf, .int m_chg, .int 2, .int m_rea, .int m_det, .int m_ref, .int m_err, .int m_ans, .int m_sav, .int m_net, .ref a_ml, .int m_lin, .ref a_mt, .ref a_mc, .int m_tap, .int m_her, .int m_cmd])), (a_ms, .inl (T 0, 103, .inl v_ms))]) C hE hP hD hS inA8 tyX8_ok nmX8 rfl rfl (by decide) qFX8_41 rfl rfl rfl rfl (Nat.le_of_ble_eq_true rfl) rfl dX8_ranked_117 ?_; clear hP hD hS; intro H locs hP hD hS
      refine lv_iconst (v := 0) hx hb dX8_ranked_120 (by decide) ?_
      replace h := Option.some.inj h
      exact hret _ _ _ _ _ _ dX8_ranked_121 rfl (by rw [← h] <;> rfl) (by rw [← h]; exact hP) hS
    · replace h := ite_f c6 h
      refine lv_iconst (v := 0) hx hb dX8_ranked_36 (by decide) ?_
      refine lv_istore (lv' := [(4, .int 0), (0, .ref a_m), (1, .int l1), (2, .int l2), (3, .int l3)]) hx hb dX8_ranked_37 hl (by decide) rfl (fun ls hl => ?_)
      refine lv_iconst (v := 0) hx hb dX8_ranked_39 (by decide) ?_
      refine lv_istore (lv' := [(5, .int 0), (4, .int 0), (0, .ref a_m), (1, .int l1), (2, .int l2), (3, .int l3)]) hx hb dX8_ranked_40 hl (by decide) rfl (fun ls hl => ?_)
      exact lX8_ranked_42 C hE hA hret ih 64 l1 l2 l3 0 0 m_thr ⟨hP, hD⟩ hS _ (lv_sub hl [2, 3, 4, 5, 1, 0] rfl) h
set_option maxHeartbeats 4000000 in
set_option maxRecDepth 100000 in
theorem lX8_ranked_15 {p : Program} {l : Launch} {e : Env} {s : State} {m : MethodId} {args : Array Value} {below : List Frame} {meth : Method} {c : Code} {Q : State → Prop} {D : va_G} {T : Nat → ClassId} {a_m a_ms a_mw a_mv a_mp a_mf a_ml a_mt a_mc : Nat} {m_chg : Int32} {m_rea : Int32} {m_det : Int32} {m_ref : Int32} {m_err : Int32} {m_ans : Int32} {m_sav : Int32} {m_net : Int32} {m_lin : Int32} {m_tap : Int32} {m_her : Int32} {m_cmd : Int32} {v_ms : Nat → Int32} {A : Nat → Prop} {r : Int32 × Int32} (C : CallFix p m c cX8_ranked 7 s args aw RX8) (hE : eK D T s) (hA : ∀ q : Nat, s.heap.size ≤ q → A q) (hret : WrRet p l e ({ frames := 2, cells := 0, slots := 0, locals := 44 } : Room) s m args below meth c Q cX8_ranked .int D A [(a_m, .inr (8, [.ref a_ms, .ref a_mw, .ref a_mv, .ref a_mp, .ref a_mf, .int m_chg, .int r.2, .int m_rea, .int m_det, .int m_ref, .int m_err, .int m_ans, .int m_sav, .int m_net, .ref a_ml, .int m_lin, .ref a_mt, .ref a_mc, .int m_tap, .int m_her, .int m_cmd])), (a_ms, .inl (T 0, 103, .inl v_ms))] r.1) (x1 : Int32) (l1 : Int32) (l2 : Int32) (m_thr : Int32) {H : Heap} {locs : List Loc} (hPD : va_PD D A [(a_m, .inr (8, [.ref a_ms, .ref a_mw, .ref a_mv, .ref a_mp, .ref a_mf, .int m_chg, .int m_thr, .int m_rea, .int m_det, .int m_ref, .int m_err, .int m_ans, .int m_sav, .int m_net, .ref a_ml, .int m_lin, .ref a_mt, .ref a_mc, .int m_tap, .int m_her, .int m_cmd])), (a_ms, .inl (T 0, 103, .inl v_ms))] H) (hS : va_S A s.heap H locs) (ls : Array Slot) (hl : lv_has ls 7 [(0, .ref a_m), (1, .int l1), (2, .int l2)]) (h : fX8_ranked_15 v_ms x1 l1 l2 m_thr = some r) : W p l e ({ frames := 2, cells := 0, slots := 0, locals := 44 } : Room) s m args below meth c H locs 0 0 Q (F0 m 15 ls [.int x1, .ref a_m]) := by
  have hx := C.1
  have hb := C.2.1
  obtain ⟨hP, hD⟩ := hPD
  unfold fX8_ranked_15 at h
  refine lv_iconst (v := 1) hx hb dX8_ranked_15 (by decide) ?_
  replace h := bnd h; obtain ⟨q2, e3, h⟩ := h
  refine wrVi (ws1 := [(a_m, .inr (8, [.ref a_ms, .ref a_mw, .ref a_mv, .ref a_mp, .ref a_mf, .int m_chg, .int q2.2, .int m_rea, .int m_det, .int m_ref, .int m_err, .int m_ans, .int m_sav, .int m_net, .ref a_ml, .int m_lin, .ref a_mt, .ref a_mc, .int m_tap, .int m_her, .int m_cmd])), (a_ms, .inl (T 0, 103, .inl v_ms))]) C hE hP hD hS hA (kX8_isThrown l D T a_m a_ms a_mw a_mv a_mp a_mf a_ml a_mt a_mc m_chg m_thr m_rea m_det m_ref m_err m_ans m_sav m_net m_lin m_tap m_her m_cmd x1 1 _ q2 e3) mX8_isThrown qLX8_80 [0] [1] 0 rfl rfl rfl rfl rfl rfl rfl rfl rfl ⟨rfl, rfl⟩ ⟨Nat.le_of_ble_eq_true rfl, Nat.le_of_ble_eq_true rfl⟩ rfl hl.1 rfl (Nat.le_of_ble_eq_true rfl) dX8_ranked_16 ⟨Nat.le_of_ble_eq_true rfl, Nat.le_of_ble_eq_true rfl⟩ ?_; clear hP hD hS; intro H locs hP hD hS
  refine lv_if_eq (tgt := 24) hx hb dX8_ranked_19 (by decide) (fun c4 => ?_) (fun c4 => ?_)
  · replace h := ite_t c4 h
    refine lv_iconst (v := 0) hx hb dX8_ranked_24 (by decide) ?_
    refine lv_istore_n (lv' := [(3, .int 0), (0, .ref a_m), (1, .int l1), (2, .int l2)]) hx hb dX8_ranked_25 rfl hl (by decide) rfl (fun ls hl => ?_)
    exact lX8_ranked_26 C hE hA hret 64 l1 l2 0 q2.2 ⟨hP, hD⟩ hS _ (lv_sub hl [1, 2, 3, 0] rfl) h
  · replace h := ite_f c4 h
    refine lv_iconst (v := 0) hx hb dX8_ranked_22 (by decide) ?_
    replace h := Option.some.inj h
    exact hret _ _ _ _ _ _ dX8_ranked_23 rfl (by rw [← h] <;> rfl) (by rw [← h]; exact hP) hS
set_option maxHeartbeats 4000000 in
set_option maxRecDepth 100000 in
theorem kX8_ranked (l : Launch) (D : va_G) (T : Nat → ClassId) (a_m a_ms a_mw a_mv a_mp a_mf a_ml a_mt a_mc : Nat) (m_chg : Int32) (m_thr : Int32) (m_rea : Int32) (m_det : Int32) (m_ref : Int32) (m_err : Int32) (m_ans : Int32) (m_sav : Int32) (m_net : Int32) (m_lin : Int32) (m_tap : Int32) (m_her : Int32) (m_cmd : Int32) (v_ms : Nat → Int32) (p0 : Int32) (p1 : Int32) (sz : Nat) (r : Int32 × Int32) (h : fX8_ranked m_thr v_ms p0 p1 = some r) : WrI l yX8_ranked cX8_ranked 7 .int ({ frames := 2, cells := 0, slots := 0, locals := 44 } : Room) D T sz [(a_m, .inr (8, [.ref a_ms, .ref a_mw, .ref a_mv, .ref a_mp, .ref a_mf, .int m_chg, .int m_thr, .int m_rea, .int m_det, .int m_ref, .int m_err, .int m_ans, .int m_sav, .int m_net, .ref a_ml, .int m_lin, .ref a_mt, .ref a_mc, .int m_tap, .int m_her, .int m_cmd])), (a_ms, .inl (T 0, 103, .inl v_ms))] [(a_m, .inr (8, [.ref a_ms, .ref a_mw, .ref a_mv, .ref a_mp, .ref a_mf, .int m_chg, .int r.2, .int m_rea, .int m_det, .int m_ref, .int m_err, .int m_ans, .int m_sav, .int m_net, .ref a_ml, .int m_lin, .ref a_mt, .ref a_mc, .int m_tap, .int m_her, .int m_cmd])), (a_ms, .inl (T 0, 103, .inl v_ms))] [.ref a_m, .int p0, .int p1] r.1 := by
  unfold fX8_ranked at h
  refine wrMet (by decide +kernel) rfl (fun p e s m args below meth c Q A C hE hA hP hD hS hret ls hl => ?_)
  have hx := C.1
  have hb := C.2.1
  have hl : lv_has ls 7 [(0, .ref a_m), (1, .int p0), (2, .int p1)] := hl
  refine lv_aload_n hx hb dX8_ranked_0 rfl (lv_at hl 0 rfl) ?_
  refine lv_iload_n hx hb dX8_ranked_1 rfl (lv_at hl 1 rfl) ?_
  refine lv_iconst (v := 0) hx hb dX8_ranked_2 (by decide) ?_
  refine lv_iconst (v := 4) hx hb dX8_ranked_3 (by decide) ?_
  refine rdS C hE hP (kX8_isIn l D T p0 0 4) mX8_isIn qLX8_60 [] rfl ⟨rfl, rfl⟩ ⟨Nat.le_of_ble_eq_true rfl, Nat.le_of_ble_eq_true rfl⟩ rfl hl.1 rfl (Nat.le_of_ble_eq_true rfl) dX8_ranked_4 ⟨Nat.le_of_ble_eq_true rfl, Nat.le_of_ble_eq_true rfl⟩ ?_
  refine lv_if_ne (tgt := 14) hx hb dX8_ranked_7 (by decide) (fun c1 => ?_) (fun c1 => ?_)
  · rw [if_neg c1] at h
    refine lv_iconst (v := 0) hx hb dX8_ranked_14 (by decide) ?_
    exact lX8_ranked_15 C hE hA hret 0 p0 p1 m_thr ⟨hP, hD⟩ hS _ (lv_sub hl [0, 1, 2] rfl) h
  · rw [if_pos c1] at h
    refine lv_iconst (v := 1) hx hb dX8_ranked_10 (by decide) ?_
    refine lv_goto (tgt := 15) hx hb dX8_ranked_11 (by decide) ?_
    exact lX8_ranked_15 C hE hA hret 1 p0 p1 m_thr ⟨hP, hD⟩ hS _ (lv_sub hl [0, 1, 2] rfl) h
