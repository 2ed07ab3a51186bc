/-! the script: its cells stirred -/
theorem script_in {i : Int32} {L : Nat} (h0 : ¬ i < 0) (hL : L ≤ 260) (h1 : ¬ Int32.ofNat L ≤ i) : vp_in i L := by
  obtain ⟨j, hj, rfl⟩ := nI_of h0
  refine vp_in_nI ?_ (by omega)
  refine Nat.lt_of_not_le (fun q => h1 (nI_le q (by omega)))
theorem script_lt {i : Int32} {L : Nat} (h1 : ¬ Int32.ofNat L ≤ i) : i < Int32.ofNat L := Int32.not_le.mp h1
theorem script_nlt {i : Int32} {L : Nat} (h1 : Int32.ofNat L ≤ i) : ¬ i < Int32.ofNat L := Int32.not_lt.mpr h1
set_option maxHeartbeats 4000000 in
set_option maxRecDepth 100000 in
theorem kL_cell (l : Launch) (b L : Nat) (xs : Nat → Int32) (i : Int32) (h0 : ¬ i < 0) : PrI l yL_cell cL_cell 3 .int ({ frames := 0, cells := 0, slots := 0, locals := 0 } : Room) (XP b L xs) [.ref b, .int i] (fCell xs L i) := by
  refine prMet (by decide +kernel) rfl (fun p e s m args below meth c Q C hJ hret ls hl => ?_)
  have hx := C.1
  have hb := C.2.1
  have hS : va_S nA s.heap s.heap [] := va_S.rf
  have hl : lv_has ls 3 [(0, .ref b), (1, .int i)] := hl
  have tail : ∀ (v : Int32) (ls : Array Slot), lv_has ls 3 [(0, .ref b), (1, .int i)] → v = (if i < Int32.ofNat L then xs i.toNatClampNeg else 0) → W p l e ({ frames := 0, cells := 0, slots := 0, locals := 0 } : Room) s m args below meth c s.heap [] 0 0 Q (F0 m 15 ls [.int v, .int 69069]) := by
    intro v ls hl hv
    refine lv_sipush (v := 1009) hx hb dL_cell_15 (by decide) ?_
    refine lv_iload_n hx hb dL_cell_18 rfl (lv_at hl 1 rfl) ?_
    refine lv_imul hx hb dL_cell_19 ?_
    refine lv_iadd hx hb dL_cell_20 ?_
    refine lv_imul hx hb dL_cell_21 ?_
    refine lv_sipush (v := 12345) hx hb dL_cell_22 (by decide) ?_
    refine lv_iadd hx hb dL_cell_25 ?_
    rw [hv]
    generalize hh : 69069 * ((if i < Int32.ofNat L then xs i.toNatClampNeg else 0) + 1009 * i) + 12345 = h
    refine lv_istore_n (lv' := [(2, .int h), (0, .ref b), (1, .int i)]) hx hb dL_cell_26 rfl hl (by decide) rfl (fun ls hl => ?_)
    refine lv_iload_n hx hb dL_cell_27 rfl (lv_at hl 0 rfl) ?_
    refine lv_iload_n hx hb dL_cell_28 rfl (lv_at hl 0 rfl) ?_
    refine lv_bipush (v := 13) hx hb dL_cell_29 (by decide) ?_
    refine lv_iushr hx hb dL_cell_31 rfl ?_
    refine lv_ixor hx hb dL_cell_32 ?_
    refine lv_ldc (v := 1103515245) hx hb C.2.2.2.1 (C.2.2.2.2 _ qKL_8) dL_cell_33 ?_
    refine lv_imul hx hb dL_cell_35 ?_
    generalize hg : (h ^^^ (h.toUInt32 >>> ((13 : Int32).toUInt32 &&& Int32.toUInt32 31)).toInt32) * 1103515245 = g
    refine lv_istore_n (lv' := [(2, .int g), (0, .ref b), (1, .int i)]) hx hb dL_cell_36 rfl hl (by decide) rfl (fun ls hl => ?_)
    refine lv_iload_n hx hb dL_cell_37 rfl (lv_at hl 0 rfl) ?_
    refine lv_iload_n hx hb dL_cell_38 rfl (lv_at hl 0 rfl) ?_
    refine lv_bipush (v := 16) hx hb dL_cell_39 (by decide) ?_
    refine lv_iushr hx hb dL_cell_41 rfl ?_
    refine lv_ixor hx hb dL_cell_42 ?_
    refine hret _ _ _ _ dL_cell_43 rfl ?_
    rw [fCell, hh]
    show _ = _
    rw [← hg]
  refine lv_ldc (v := 69069) hx hb C.2.2.2.1 (C.2.2.2.2 _ qKL_7) dL_cell_0 ?_
  refine lv_iload_n hx hb dL_cell_2 rfl (lv_at hl 1 rfl) ?_
  refine lv_aload_n hx hb dL_cell_3 rfl (lv_at hl 0 rfl) ?_
  refine va_slen hx hb hJ.1 hJ.lt (fun z => z) hS dL_cell_4 ?_
  refine lv_icmp_ge (tgt := 14) hx hb dL_cell_5 (by decide) (fun c1 => ?_) (fun c1 => ?_)
  · refine lv_iconst (v := 0) hx hb dL_cell_14 (by decide) ?_
    exact tail 0 ls hl (by rw [if_neg (script_nlt c1)])
  · refine lv_aload_n hx hb dL_cell_8 rfl (lv_at hl 0 rfl) ?_
    refine lv_iload_n hx hb dL_cell_9 rfl (lv_at hl 1 rfl) ?_
    refine va_sld hx hb hJ.1 hJ.lt (fun z => z) hS (script_in h0 hJ.2 c1) dL_cell_10 ?_
    refine lv_goto (tgt := 15) hx hb dL_cell_11 (by decide) ?_
    exact tail _ ls hl (by rw [if_pos (script_lt c1)])
set_option maxHeartbeats 4000000 in
set_option maxRecDepth 100000 in
theorem kL_in (l : Launch) (b L : Nat) (xs : Nat → Int32) (i n : Int32) (h0 : ¬ i < 0) (hn : ¬ n = 0) : PrI l yL_in cL_in 3 .int ({ frames := 1, cells := 0, slots := 0, locals := 22 } : Room) (XP b L xs) [.ref b, .int i, .int n] (fIN xs L i n) := by
  refine prMet (by decide +kernel) rfl (fun p e s m args below meth c Q C hJ hret ls hl => ?_)
  have hx := C.1
  have hb := C.2.1
  have hS : va_S nA s.heap s.heap [] := va_S.rf
  have hl : lv_has ls 3 [(0, .ref b), (1, .int i), (2, .int n)] := hl
  refine lv_aload_n hx hb dL_in_0 rfl (lv_at hl 0 rfl) ?_
  refine lv_iload_n hx hb dL_in_1 rfl (lv_at hl 1 rfl) ?_
  refine prS C XP.blind (fun U hU hW => XP.use hJ (fun z => z) hS hU hW) (kL_cell l b L xs i h0) mL_cell qLL_67 ⟨rfl, rfl⟩ ⟨Nat.le_of_ble_eq_true rfl, Nat.le_of_ble_eq_true rfl⟩ rfl hl.1 rfl (Nat.le_of_ble_eq_true rfl) dL_in_2 ⟨Nat.le_of_ble_eq_true rfl, Nat.le_of_ble_eq_true rfl⟩ ?_
  refine lv_ldc (v := 2147483647) hx hb C.2.2.2.1 (C.2.2.2.2 _ qKL_73) dL_in_5 ?_
  refine lv_iand hx hb dL_in_7 ?_
  refine lv_iload_n hx hb dL_in_8 rfl (lv_at hl 2 rfl) ?_
  refine lv_irem hx hb dL_in_9 hn ?_
  exact hret _ _ _ _ dL_in_10 rfl rfl
