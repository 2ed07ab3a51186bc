/-! the JDK: builders of texts -/
set_option maxHeartbeats 4000000 in
theorem kJ1_canEncode_fc78d (l : Launch) (x : Int32) (h : ¬ 255 < x) : PrI l yJ1_canEncode_fc78d cJ1_canEncode_fc78d 1 .boolean ({ frames := 0, cells := 0, slots := 0, locals := 0 } : Room) (fun _ => True) [.int x] 1 := by
  refine prMet (by decide +kernel) rfl (fun p e s m args below meth c Q C hJ hret ls hl => ?_)
  have hx := C.1
  have hb := C.2.1
  have hl : lv_has ls 1 [(0, .int x)] := hl
  refine lv_iload_n hx hb dJ1_canEncode_fc78d_0 rfl (lv_at hl 0 rfl) ?_
  refine lv_sipush (v := 255) hx hb dJ1_canEncode_fc78d_1 (by decide) ?_
  refine lv_icmp_gt (tgt := 11) hx hb dJ1_canEncode_fc78d_4 (by decide) (fun c1 => absurd c1 h) (fun c1 => ?_)
  refine lv_iconst (v := 1) hx hb dJ1_canEncode_fc78d_7 (by decide) ?_
  refine lv_goto (tgt := 12) hx hb dJ1_canEncode_fc78d_8 (by decide) ?_
  exact hret _ _ _ _ dJ1_canEncode_fc78d_12 rfl rfl

set_option maxHeartbeats 4000000 in
set_option maxRecDepth 100000 in
theorem kJ5_isLatin1_aae02 (l : Launch) (hnt : l.stackTraces = false) (D : va_G) (T : Nat → ClassId) (b w : Nat) (N : Int32) (F : Nat → Int32) (a v : Nat) (bs : List Int32) (sz : Nat) : LnI (JS [(b, .inr (8, [.ref w, .int 0, .int 0, .int N])), (w, .inl (T 4, 16, .inl F))] a v bs) l yJ5_isLatin1_aae02 cJ5_isLatin1_aae02 1 .boolean ({ frames := 0, cells := 0, slots := 0, locals := 0 } : Room) D T sz [(b, .inr (8, [.ref w, .int 0, .int 0, .int N])), (w, .inl (T 4, 16, .inl F))] [(b, .inr (8, [.ref w, .int 0, .int 0, .int N])), (w, .inl (T 4, 16, .inl F))] [.ref b]  1 := by
  refine lnMet hnt (by decide +kernel) rfl (fun p e s m args below meth c Q A hA0 C hE hA hZ hJ hP hD hS hret ls hl => ?_)
  subst hA0
  have hx := C.1
  have hb := C.2.1
  have hl : lv_has ls 1 [(0, .ref b)] := hl
  refine va_gets hx hb hJ.1.1 hS C.2.2.2.1 (C.2.2.2.2 _ qFJ5_18) (fun _ h => h) dJ5_isLatin1_aae02_0 ?_
  refine lv_if_eq (tgt := 17) hx hb dJ5_isLatin1_aae02_3 (by decide) (fun c1 => absurd c1 (by decide)) (fun c1 => ?_)
  refine lv_aload_n hx hb dJ5_isLatin1_aae02_6 rfl (lv_at hl 0 rfl) ?_
  refine getF (q0 := 0) (k0 := 1) (v := .int 0) C hE hP inA8 rfl rfl (by decide) qFJ5_22 rfl rfl dJ5_isLatin1_aae02_7 ?_
  refine lv_if_ne (tgt := 17) hx hb dJ5_isLatin1_aae02_10 (by decide) (fun c1 => absurd rfl c1) (fun c1 => ?_)
  refine lv_iconst (v := 1) hx hb dJ5_isLatin1_aae02_13 (by decide) ?_
  refine lv_goto (tgt := 18) hx hb dJ5_isLatin1_aae02_14 (by decide) ?_
  exact hret _ _ _ _ _ _ _ _ (Nat.le_of_ble_eq_true rfl) (Nat.le_of_ble_eq_true rfl) dJ5_isLatin1_aae02_18 rfl rfl hP hS

set_option maxHeartbeats 4000000 in
set_option maxRecDepth 100000 in
theorem kJ5_ensureCapacityInternal_d00df (l : Launch) (hnt : l.stackTraces = false) (D : va_G) (T : Nat → ClassId) (b w : Nat) (N : Int32) (F : Nat → Int32) (P : Int32) (a v : Nat) (bs : List Int32) (hp : P - 16 ≤ 0) (sz : Nat) : LnV (JS [(b, .inr (8, [.ref w, .int 0, .int 0, .int N])), (w, .inl (T 4, 16, .inl F))] a v bs) l yJ5_ensureCapacityInternal_d00df cJ5_ensureCapacityInternal_d00df 3  ({ frames := 0, cells := 0, slots := 0, locals := 0 } : Room) D T sz [(b, .inr (8, [.ref w, .int 0, .int 0, .int N])), (w, .inl (T 4, 16, .inl F))] [(b, .inr (8, [.ref w, .int 0, .int 0, .int N])), (w, .inl (T 4, 16, .inl F))] [.ref b, .int P] := by
  refine lnMetV hnt (by decide +kernel) rfl (fun p e s m args below meth c Q A hA0 C hE hA hZ hJ hP hD hS hret ls hl => ?_)
  subst hA0
  have hx := C.1
  have hb := C.2.1
  have hl : lv_has ls 3 [(0, .ref b), (1, .int P)] := hl
  refine lv_aload_n hx hb dJ5_ensureCapacityInternal_d00df_0 rfl (lv_at hl 0 rfl) ?_
  refine getF (q0 := 0) (k0 := 0) (v := .ref w) C hE hP inA8 rfl rfl (by decide) qFJ5_15 rfl rfl dJ5_ensureCapacityInternal_d00df_1 ?_
  refine alen (q0 := 1) (t0 := 4) (v := 16) C hE hP rfl rfl (by decide) dJ5_ensureCapacityInternal_d00df_4 ?_
  refine lv_aload_n hx hb dJ5_ensureCapacityInternal_d00df_5 rfl (lv_at hl 0 rfl) ?_
  refine getF (q0 := 0) (k0 := 1) (v := .int 0) C hE hP inA8 rfl rfl (by decide) qFJ5_22 rfl rfl dJ5_ensureCapacityInternal_d00df_6 ?_
  refine lv_ishr hx hb dJ5_ensureCapacityInternal_d00df_9 ?_
  rw [show (((16 : Int32) >>> ((0 : Int32) &&& 31)) : Int32) = 16 from rfl]
  refine lv_istore_n (lv' := [(2, .int 16), (0, .ref b), (1, .int P)]) hx hb dJ5_ensureCapacityInternal_d00df_10 rfl hl (by decide) rfl (fun ls hl => ?_)
  refine lv_iload_n hx hb dJ5_ensureCapacityInternal_d00df_11 rfl (lv_at hl 2 rfl) ?_
  refine lv_iload_n hx hb dJ5_ensureCapacityInternal_d00df_12 rfl (lv_at hl 0 rfl) ?_
  refine lv_isub hx hb dJ5_ensureCapacityInternal_d00df_13 ?_
  refine lv_if_le (tgt := 38) hx hb dJ5_ensureCapacityInternal_d00df_14 (by decide) (fun c1 => ?_) (fun c1 => absurd hp c1)
  exact hret _ _ _ _ _ _ (Nat.le_of_ble_eq_true rfl) (Nat.le_of_ble_eq_true rfl) dJ5_ensureCapacityInternal_d00df_38 hP hS

set_option maxHeartbeats 4000000 in
set_option maxRecDepth 100000 in
theorem kJ5_inflateIfNeededFor_a7421 (l : Launch) (hnt : l.stackTraces = false) (D : va_G) (T : Nat → ClassId) (b w : Nat) (N : Int32) (F : Nat → Int32) (a v : Nat) (bs : List Int32) (sz : Nat) : LnV (JS [(b, .inr (8, [.ref w, .int 0, .int 0, .int N])), (w, .inl (T 4, 16, .inl F))] a v bs) l yJ5_inflateIfNeededFor_a7421 cJ5_inflateIfNeededFor_a7421 2  ({ frames := 1, cells := 0, slots := 0, locals := 20 } : Room) D T sz [(b, .inr (8, [.ref w, .int 0, .int 0, .int N])), (w, .inl (T 4, 16, .inl F))] [(b, .inr (8, [.ref w, .int 0, .int 0, .int N])), (w, .inl (T 4, 16, .inl F))] [.ref b, .ref a] := by
  refine lnMetV hnt (by decide +kernel) rfl (fun p e s m args below meth c Q A hA0 C hE hA hZ hJ hP hD hS hret ls hl => ?_)
  subst hA0
  have hx := C.1
  have hb := C.2.1
  have hl : lv_has ls 2 [(0, .ref b), (1, .ref a)] := hl
  refine va_gets hx hb hJ.1.1 hS C.2.2.2.1 (C.2.2.2.2 _ qFJ5_18) (fun _ h => h) dJ5_inflateIfNeededFor_a7421_0 ?_
  refine lv_if_eq (tgt := 21) hx hb dJ5_inflateIfNeededFor_a7421_3 (by decide) (fun c1 => absurd c1 (by decide)) (fun c1 => ?_)
  refine lv_aload_n hx hb dJ5_inflateIfNeededFor_a7421_6 rfl (lv_at hl 0 rfl) ?_
  refine getF (q0 := 0) (k0 := 1) (v := .int 0) C hE hP inA8 rfl rfl (by decide) qFJ5_22 rfl rfl dJ5_inflateIfNeededFor_a7421_7 ?_
  refine lv_aload_n hx hb dJ5_inflateIfNeededFor_a7421_10 rfl (lv_at hl 1 rfl) ?_
  refine prV (r := 0) C JP.blind (JP.recv hJ.1 hS) (fun U hU hW => JP.use hJ.1 hS hU hW) (kJ0_coder_7d493 l a v bs) mJ0_coder_7d493 qLJ5_40 ⟨rfl, rfl⟩ ⟨Nat.le_of_ble_eq_true rfl, Nat.le_of_ble_eq_true rfl⟩ rfl hl.1 rfl (Nat.le_of_ble_eq_true rfl) dJ5_inflateIfNeededFor_a7421_11 ⟨Nat.le_of_ble_eq_true rfl, Nat.le_of_ble_eq_true rfl⟩ ?_
  refine lv_icmp_eq (tgt := 21) hx hb dJ5_inflateIfNeededFor_a7421_14 (by decide) (fun c1 => ?_) (fun c1 => absurd rfl c1)
  exact hret _ _ _ _ _ _ (Nat.le_of_ble_eq_true rfl) (Nat.le_of_ble_eq_true rfl) dJ5_inflateIfNeededFor_a7421_21 hP hS

set_option maxHeartbeats 4000000 in
set_option maxRecDepth 100000 in
theorem kJ0_getBytes_840e7 (l : Launch) (hnt : l.stackTraces = false) (D : va_G) (T : Nat → ClassId) (w n : Nat) (b1 : List Int32) (a v : Nat) (bs : List Int32) (ok : okB bs = true) (hn1 : b1.length = n) (hn : n + bs.length ≤ 16) (sz : Nat) : LnV (JS [(w, .inl (T 4, 16, .inl (lF b1)))] a v bs) l yJ0_getBytes_840e7 cJ0_getBytes_840e7 4  ({ frames := 1, cells := 0, slots := 0, locals := 100 } : Room) D T sz [(w, .inl (T 4, 16, .inl (lF b1)))] [(w, .inl (T 4, 16, .inl (lF (b1 ++ bs))))] [.ref a, .ref w, .int (nI n), .int 0] := by
  refine lnMetV hnt (by decide +kernel) rfl (fun p e s m args below meth c Q A hA0 C hE hA hZ hJ hP hD hS hret ls hl => ?_)
  subst hA0
  have hx := C.1
  have hb := C.2.1
  have hl : lv_has ls 4 [(0, .ref a), (1, .ref w), (2, .int (nI n)), (3, .int 0)] := hl
  refine lv_aload_n hx hb dJ0_getBytes_840e7_0 rfl (lv_at hl 0 rfl) ?_
  refine prV (r := 0) C JP.blind (JP.recv hJ.1 hS) (fun U hU hW => JP.use hJ.1 hS hU hW) (kJ0_coder_7d493 l a v bs) mJ0_coder_7d493 qLJ0_335 ⟨rfl, rfl⟩ ⟨Nat.le_of_ble_eq_true rfl, Nat.le_of_ble_eq_true rfl⟩ rfl hl.1 rfl (Nat.le_of_ble_eq_true rfl) dJ0_getBytes_840e7_1 ⟨Nat.le_of_ble_eq_true rfl, Nat.le_of_ble_eq_true rfl⟩ ?_
  refine lv_iload_n hx hb dJ0_getBytes_840e7_4 rfl (lv_at hl 3 rfl) ?_
  refine lv_icmp_ne (tgt := 28) hx hb dJ0_getBytes_840e7_5 (by decide) (fun c1 => absurd rfl c1) (fun c1 => ?_)
  refine lv_aload_n hx hb dJ0_getBytes_840e7_8 rfl (lv_at hl 0 rfl) ?_
  refine vk_getf hx hb hJ.1.2.2.2.2.1 hS C.2.2.2.1 (C.2.2.2.2 _ qFJ0_9) (fun _ h => h) dJ0_getBytes_840e7_9 ?_
  refine lv_iconst (v := 0) hx hb dJ0_getBytes_840e7_12 (by decide) ?_
  refine lv_aload_n hx hb dJ0_getBytes_840e7_13 rfl (lv_at hl 1 rfl) ?_
  refine lv_iload_n hx hb dJ0_getBytes_840e7_14 rfl (lv_at hl 2 rfl) ?_
  refine lv_iload_n hx hb dJ0_getBytes_840e7_15 rfl (lv_at hl 3 rfl) ?_
  refine lv_ishl hx hb dJ0_getBytes_840e7_16 ?_
  rw [show ((nI n <<< ((0 : Int32) &&& 31)) : Int32) = nI n from shl0 n (by omega)]
  refine lv_aload_n hx hb dJ0_getBytes_840e7_17 rfl (lv_at hl 0 rfl) ?_
  refine vk_getf hx hb hJ.1.2.2.2.2.1 hS C.2.2.2.1 (C.2.2.2.2 _ qFJ0_9) (fun _ h => h) dJ0_getBytes_840e7_18 ?_
  refine va_tlen hx hb hJ.1.2.2.2.2.2 hS rfl dJ0_getBytes_840e7_21 ?_
  have hlb : bs.length < 100 := okB_lt ok
  refine vk_copyt hx hb (C.2.2.1.trans hl.1.symm) C.2.2.2.1 (C.2.2.2.2 _ qLJ0_212) (C.2.2.2.2 _ qNat) (C.2.2.2.2 _ qSta) (C.2.2.2.2 _ qSys) hE.1 hP hD hS (f := fun j => bs.getD j 0) hJ.1.2.2.2.2.2 0 4 rfl rfl (by decide) (nI_pos (by omega)) (nI_pos (by omega)) (by rw [show (Int32.ofNat bs.length).toNatClampNeg = bs.length from nI_clamp (by omega)]; exact Nat.le_of_eq (Nat.zero_add _)) (by rw [show (Int32.ofNat bs.length).toNatClampNeg = bs.length from nI_clamp (by omega), nI_clamp (by omega)]; exact hn) (fun i hi => okB_fit ok _) (Nat.le_of_ble_eq_true rfl) (by decide +kernel) dJ0_getBytes_840e7_22 (fun H locs hP hD hS => ?_)
  rw [show (Int32.ofNat bs.length).toNatClampNeg = bs.length from nI_clamp (by omega), nI_clamp (n := n) (by omega), show (0 : Int32).toNatClampNeg = 0 from rfl, ← hn1, lF_app] at hP
  refine lv_goto (tgt := 43) hx hb dJ0_getBytes_840e7_25 (by decide) ?_
  exact hret _ _ _ _ _ _ (Nat.le_of_ble_eq_true rfl) (Nat.le_of_ble_eq_true rfl) dJ0_getBytes_840e7_43 hP hS

set_option maxHeartbeats 4000000 in
set_option maxRecDepth 100000 in
theorem kJ5_putStringAt_47b60 (l : Launch) (hnt : l.stackTraces = false) (D : va_G) (T : Nat → ClassId) (b w n : Nat) (N : Int32) (b1 : List Int32) (a v : Nat) (bs : List Int32) (ok : okB bs = true) (hn1 : b1.length = n) (hn : n + bs.length ≤ 16) (sz : Nat) : LnV (JS [(b, .inr (8, [.ref w, .int 0, .int 0, .int N])), (w, .inl (T 4, 16, .inl (lF b1)))] a v bs) l yJ5_putStringAt_47b60 cJ5_putStringAt_47b60 3  ({ frames := 2, cells := 0, slots := 0, locals := 123 } : Room) D T sz [(b, .inr (8, [.ref w, .int 0, .int 0, .int N])), (w, .inl (T 4, 16, .inl (lF b1)))] [(b, .inr (8, [.ref w, .int 0, .int 0, .int N])), (w, .inl (T 4, 16, .inl (lF (b1 ++ bs))))] [.ref b, .int (nI n), .ref a] := by
  refine lnMetV hnt (by decide +kernel) rfl (fun p e s m args below meth c Q A hA0 C hE hA hZ hJ hP hD hS hret ls hl => ?_)
  subst hA0
  have hx := C.1
  have hb := C.2.1
  have hl : lv_has ls 3 [(0, .ref b), (1, .int (nI n)), (2, .ref a)] := hl
  refine lv_aload_n hx hb dJ5_putStringAt_47b60_0 rfl (lv_at hl 0 rfl) ?_
  refine lv_aload_n hx hb dJ5_putStringAt_47b60_1 rfl (lv_at hl 2 rfl) ?_
  refine lnVv (ws1 := [(b, .inr (8, [.ref w, .int 0, .int 0, .int N])), (w, .inl (T 4, 16, .inl (lF b1)))]) C hE hZ hP hD hS hA JS.bl (fun U hU hW => J9.use hJ hD hS hA (wc := [(b, .inr (8, [.ref w, .int 0, .int 0, .int N])), (w, .inl (T 4, 16, .inl (lF b1)))]) [0, 1] rfl hU hW) (recvC hE hP (q0 := 0) (ci := 8) rfl rfl rfl) (kJ5_inflateIfNeededFor_a7421 l hZ.1 D T b w N (lF b1) a v bs _) wJ5_inflateIfNeededFor_a7421 (hJ.2.2 yJ5_inflateIfNeededFor_a7421 (by decide)) qLJ5_397 [0, 1] [] rfl rfl rfl rfl rfl rfl ⟨Nat.le_of_ble_eq_true rfl, Nat.le_of_ble_eq_true rfl⟩ rfl hl.1 rfl (Nat.le_of_ble_eq_true rfl) dJ5_putStringAt_47b60_2 ⟨Nat.le_of_ble_eq_true rfl, Nat.le_of_ble_eq_true rfl⟩ (fun H locs hP hD hS => ?_)
  refine lv_aload_n hx hb dJ5_putStringAt_47b60_5 rfl (lv_at hl 2 rfl) ?_
  refine lv_aload_n hx hb dJ5_putStringAt_47b60_6 rfl (lv_at hl 0 rfl) ?_
  refine getF (q0 := 0) (k0 := 0) (v := .ref w) C hE hP inA8 rfl rfl (by decide) qFJ5_15 rfl rfl dJ5_putStringAt_47b60_7 ?_
  refine lv_iload_n hx hb dJ5_putStringAt_47b60_10 rfl (lv_at hl 1 rfl) ?_
  refine lv_aload_n hx hb dJ5_putStringAt_47b60_11 rfl (lv_at hl 0 rfl) ?_
  refine getF (q0 := 0) (k0 := 1) (v := .int 0) C hE hP inA8 rfl rfl (by decide) qFJ5_22 rfl rfl dJ5_putStringAt_47b60_12 ?_
  refine lnVv (ws1 := [(b, .inr (8, [.ref w, .int 0, .int 0, .int N])), (w, .inl (T 4, 16, .inl (lF (b1 ++ bs))))]) C hE hZ hP hD hS hA JS.bl (fun U hU hW => J9.use hJ hD hS hA (wc := [(w, .inl (T 4, 16, .inl (lF b1)))]) [1] rfl hU hW) (JP.recv hJ.1 hS) (kJ0_getBytes_840e7 l hZ.1 D T w n b1 a v bs ok hn1 hn _) wJ0_getBytes_840e7 (C.2.2.2.2 _ qSelJ0_getBytes_840e7) qLJ5_399 [1] [0] rfl rfl rfl rfl rfl rfl ⟨Nat.le_of_ble_eq_true rfl, Nat.le_of_ble_eq_true rfl⟩ rfl hl.1 rfl (Nat.le_of_ble_eq_true rfl) dJ5_putStringAt_47b60_15 ⟨Nat.le_of_ble_eq_true rfl, Nat.le_of_ble_eq_true rfl⟩ (fun H locs hP hD hS => ?_)
  exact hret _ _ _ _ _ _ (Nat.le_of_ble_eq_true rfl) (Nat.le_of_ble_eq_true rfl) dJ5_putStringAt_47b60_18 hP hS

set_option maxHeartbeats 4000000 in
set_option maxRecDepth 100000 in
theorem kJ5_append_cf1ce (l : Launch) (hnt : l.stackTraces = false) (D : va_G) (T : Nat → ClassId) (b w : Nat) (b1 : List Int32) (a v : Nat) (bs : List Int32) (ok : okB bs = true) (hn : b1.length + bs.length ≤ 16) (sz : Nat) : LnR (JS [(b, .inr (8, [.ref w, .int 0, .int 0, .int (nI b1.length)])), (w, .inl (T 4, 16, .inl (lF b1)))] a v bs) l yJ5_append_cf1ce cJ5_append_cf1ce 3 (.object "java/lang/AbstractStringBuilder") ({ frames := 3, cells := 0, slots := 0, locals := 146 } : Room) D T sz [(b, .inr (8, [.ref w, .int 0, .int 0, .int (nI b1.length)])), (w, .inl (T 4, 16, .inl (lF b1)))] (fun _ => [(b, .inr (8, [.ref w, .int 0, .int 0, .int (nI (b1 ++ bs).length)])), (w, .inl (T 4, 16, .inl (lF (b1 ++ bs))))]) [.ref b, .ref a]  (fun _ => b) := by
  refine lnMetR hnt (by decide +kernel) (Or.inl ⟨_, rfl⟩) rfl (fun p e s m args below meth c Q A hA0 C hE hA hZ hJ hP hD hS hret ls hl => ?_)
  subst hA0
  have hx := C.1
  have hb := C.2.1
  have hl : lv_has ls 3 [(0, .ref b), (1, .ref a)] := hl
  refine lv_aload_n hx hb dJ5_append_cf1ce_0 rfl (lv_at hl 1 rfl) ?_
  refine lv_ifnonnull (tgt := 9) hx hb dJ5_append_cf1ce_1 (by decide) ?_
  refine lv_aload_n hx hb dJ5_append_cf1ce_9 rfl (lv_at hl 1 rfl) ?_
  refine prV (r := (Int32.ofNat bs.length)) C JP.blind (JP.recv hJ.1 hS) (fun U hU hW => JP.use hJ.1 hS hU hW) (kJ0_length_8abf5 l a v bs ok) mJ0_length_8abf5 qLJ5_32 ⟨rfl, rfl⟩ ⟨Nat.le_of_ble_eq_true rfl, Nat.le_of_ble_eq_true rfl⟩ rfl hl.1 rfl (Nat.le_of_ble_eq_true rfl) dJ5_append_cf1ce_10 ⟨Nat.le_of_ble_eq_true rfl, Nat.le_of_ble_eq_true rfl⟩ ?_
  refine lv_istore_n (lv' := [(2, .int (Int32.ofNat bs.length)), (0, .ref b), (1, .ref a)]) hx hb dJ5_append_cf1ce_13 rfl hl (by decide) rfl (fun ls hl => ?_)
  refine lv_aload_n hx hb dJ5_append_cf1ce_14 rfl (lv_at hl 1 rfl) ?_
  refine lv_aload_n hx hb dJ5_append_cf1ce_15 rfl (lv_at hl 1 rfl) ?_
  refine getF (q0 := 0) (k0 := 3) (v := .int (nI b1.length)) C hE hP inA8 rfl rfl (by decide) qFJ5_79 rfl rfl dJ5_append_cf1ce_16 ?_
  refine lv_iload_n hx hb dJ5_append_cf1ce_19 rfl (lv_at hl 0 rfl) ?_
  refine lv_iadd hx hb dJ5_append_cf1ce_20 ?_
  rw [show (((nI b1.length) + (Int32.ofNat bs.length)) : Int32) = nI (b1.length + bs.length) from nI_add _ _]
  refine lnVv (ws1 := [(b, .inr (8, [.ref w, .int 0, .int 0, .int (nI b1.length)])), (w, .inl (T 4, 16, .inl (lF b1)))]) C hE hZ hP hD hS hA JS.bl (fun U hU hW => J9.use hJ hD hS hA (wc := [(b, .inr (8, [.ref w, .int 0, .int 0, .int (nI b1.length)])), (w, .inl (T 4, 16, .inl (lF b1)))]) [0, 1] rfl hU hW) (recvC hE hP (q0 := 0) (ci := 8) rfl rfl rfl) (kJ5_ensureCapacityInternal_d00df l hZ.1 D T b w (nI b1.length) (lF b1) (nI (b1.length + bs.length)) a v bs (le16 hn) _) wJ5_ensureCapacityInternal_d00df (hJ.2.2 yJ5_ensureCapacityInternal_d00df (by decide)) qLJ5_100 [0, 1] [] rfl rfl rfl rfl rfl rfl ⟨Nat.le_of_ble_eq_true rfl, Nat.le_of_ble_eq_true rfl⟩ rfl hl.1 rfl (Nat.le_of_ble_eq_true rfl) dJ5_append_cf1ce_21 ⟨Nat.le_of_ble_eq_true rfl, Nat.le_of_ble_eq_true rfl⟩ (fun H locs hP hD hS => ?_)
  refine lv_aload_n hx hb dJ5_append_cf1ce_24 rfl (lv_at hl 1 rfl) ?_
  refine lv_aload_n hx hb dJ5_append_cf1ce_25 rfl (lv_at hl 1 rfl) ?_
  refine getF (q0 := 0) (k0 := 3) (v := .int (nI b1.length)) C hE hP inA8 rfl rfl (by decide) qFJ5_79 rfl rfl dJ5_append_cf1ce_26 ?_
  refine lv_aload_n hx hb dJ5_append_cf1ce_29 rfl (lv_at hl 2 rfl) ?_
  refine lnVv (ws1 := [(b, .inr (8, [.ref w, .int 0, .int 0, .int (nI b1.length)])), (w, .inl (T 4, 16, .inl (lF (b1 ++ bs))))]) C hE hZ hP hD hS hA JS.bl (fun U hU hW => J9.use hJ hD hS hA (wc := [(b, .inr (8, [.ref w, .int 0, .int 0, .int (nI b1.length)])), (w, .inl (T 4, 16, .inl (lF b1)))]) [0, 1] rfl hU hW) (recvC hE hP (q0 := 0) (ci := 8) rfl rfl rfl) (kJ5_putStringAt_47b60 l hZ.1 D T b w b1.length (nI b1.length) b1 a v bs ok rfl hn _) wJ5_putStringAt_47b60 (hJ.2.2 yJ5_putStringAt_47b60 (by decide)) qLJ5_208 [0, 1] [] rfl rfl rfl rfl rfl rfl ⟨Nat.le_of_ble_eq_true rfl, Nat.le_of_ble_eq_true rfl⟩ rfl hl.1 rfl (Nat.le_of_ble_eq_true rfl) dJ5_append_cf1ce_30 ⟨Nat.le_of_ble_eq_true rfl, Nat.le_of_ble_eq_true rfl⟩ (fun H locs hP hD hS => ?_)
  refine lv_aload_n hx hb dJ5_append_cf1ce_33 rfl (lv_at hl 1 rfl) ?_
  refine lv_dup hx hb dJ5_append_cf1ce_34 rfl ?_
  refine getF (q0 := 0) (k0 := 3) (v := .int (nI b1.length)) C hE hP inA8 rfl rfl (by decide) qFJ5_79 rfl rfl dJ5_append_cf1ce_35 ?_
  refine lv_iload_n hx hb dJ5_append_cf1ce_38 rfl (lv_at hl 0 rfl) ?_
  refine lv_iadd hx hb dJ5_append_cf1ce_39 ?_
  rw [show (((nI b1.length) + (Int32.ofNat bs.length)) : Int32) = nI (b1 ++ bs).length from by rw [List.length_append]; exact nI_add _ _]
  refine putF (q0 := 0) (k0 := 3) (ws1 := [(b, .inr (8, [.ref w, .int 0, .int 0, .int (nI (b1 ++ bs).length)])), (w, .inl (T 4, 16, .inl (lF (b1 ++ bs))))]) C hE hP hD hS inA8 tyJ4_ok nmJ4 rfl rfl (by decide) qFJ5_79 rfl rfl rfl rfl (Nat.le_of_ble_eq_true rfl) rfl dJ5_append_cf1ce_40 (fun H locs hP hD hS => ?_)
  refine lv_aload_n hx hb dJ5_append_cf1ce_43 rfl (lv_at hl 1 rfl) ?_
  exact hret _ _ _ _ _ _ (fun _ => 0) (Nat.le_of_ble_eq_true rfl) (Nat.le_of_ble_eq_true rfl) dJ5_append_cf1ce_44 hP hD hS

set_option maxHeartbeats 4000000 in
set_option maxRecDepth 100000 in
theorem kJ5_append_3fe6f (l : Launch) (hnt : l.stackTraces = false) (D : va_G) (T : Nat → ClassId) (b w : Nat) (b1 : List Int32) (y : Int32) (a v : Nat) (bs : List Int32) (hy2 : ¬ 255 < y) (hy3 : y.toInt8.toInt32 = y) (hn : b1.length + 1 ≤ 16) (sz : Nat) : LnR (JS [(b, .inr (8, [.ref w, .int 0, .int 0, .int (nI b1.length)])), (w, .inl (T 4, 16, .inl (lF b1)))] a v bs) l yJ5_append_3fe6f cJ5_append_3fe6f 2 (.object "java/lang/AbstractStringBuilder") ({ frames := 1, cells := 0, slots := 0, locals := 43 } : Room) D T sz [(b, .inr (8, [.ref w, .int 0, .int 0, .int (nI b1.length)])), (w, .inl (T 4, 16, .inl (lF b1)))] (fun _ => [(b, .inr (8, [.ref w, .int 0, .int 0, .int (nI (b1 ++ [y]).length)])), (w, .inl (T 4, 16, .inl (lF (b1 ++ [y]))))]) [.ref b, .int y]  (fun _ => b) := by
  refine lnMetR hnt (by decide +kernel) (Or.inl ⟨_, rfl⟩) rfl (fun p e s m args below meth c Q A hA0 C hE hA hZ hJ hP hD hS hret ls hl => ?_)
  subst hA0
  have hx := C.1
  have hb := C.2.1
  have hl : lv_has ls 2 [(0, .ref b), (1, .int y)] := hl
  refine lv_aload_n hx hb dJ5_append_3fe6f_0 rfl (lv_at hl 0 rfl) ?_
  refine lv_aload_n hx hb dJ5_append_3fe6f_1 rfl (lv_at hl 0 rfl) ?_
  refine getF (q0 := 0) (k0 := 3) (v := .int (nI b1.length)) C hE hP inA8 rfl rfl (by decide) qFJ5_79 rfl rfl dJ5_append_3fe6f_2 ?_
  refine lv_iconst (v := 1) hx hb dJ5_append_3fe6f_5 (by decide) ?_
  refine lv_iadd hx hb dJ5_append_3fe6f_6 ?_
  rw [show (((nI b1.length) + 1) : Int32) = nI (b1.length + 1) from nI_1 _]
  refine lnVv (ws1 := [(b, .inr (8, [.ref w, .int 0, .int 0, .int (nI b1.length)])), (w, .inl (T 4, 16, .inl (lF b1)))]) C hE hZ hP hD hS hA JS.bl (fun U hU hW => J9.use hJ hD hS hA (wc := [(b, .inr (8, [.ref w, .int 0, .int 0, .int (nI b1.length)])), (w, .inl (T 4, 16, .inl (lF b1)))]) [0, 1] rfl hU hW) (recvC hE hP (q0 := 0) (ci := 8) rfl rfl rfl) (kJ5_ensureCapacityInternal_d00df l hZ.1 D T b w (nI b1.length) (lF b1) (nI (b1.length + 1)) a v bs (le16 hn) _) wJ5_ensureCapacityInternal_d00df (hJ.2.2 yJ5_ensureCapacityInternal_d00df (by decide)) qLJ5_100 [0, 1] [] rfl rfl rfl rfl rfl rfl ⟨Nat.le_of_ble_eq_true rfl, Nat.le_of_ble_eq_true rfl⟩ rfl hl.1 rfl (Nat.le_of_ble_eq_true rfl) dJ5_append_3fe6f_7 ⟨Nat.le_of_ble_eq_true rfl, Nat.le_of_ble_eq_true rfl⟩ (fun H locs hP hD hS => ?_)
  refine lv_aload_n hx hb dJ5_append_3fe6f_10 rfl (lv_at hl 0 rfl) ?_
  refine lnVi (ws1 := [(b, .inr (8, [.ref w, .int 0, .int 0, .int (nI b1.length)])), (w, .inl (T 4, 16, .inl (lF b1)))]) C hE hZ hP hD hS hA JS.bl (fun U hU hW => J9.use hJ hD hS hA (wc := [(b, .inr (8, [.ref w, .int 0, .int 0, .int (nI b1.length)])), (w, .inl (T 4, 16, .inl (lF b1)))]) [0, 1] rfl hU hW) (recvC hE hP (q0 := 0) (ci := 8) rfl rfl rfl) (kJ5_isLatin1_aae02 l hZ.1 D T b w (nI b1.length) (lF b1) a v bs _) wJ5_isLatin1_aae02 (C.2.2.2.2 _ qSelJ5_isLatin1_aae02) qLJ5_83 [0, 1] [] rfl rfl rfl rfl rfl rfl ⟨Nat.le_of_ble_eq_true rfl, Nat.le_of_ble_eq_true rfl⟩ rfl hl.1 rfl (Nat.le_of_ble_eq_true rfl) dJ5_append_3fe6f_11 ⟨Nat.le_of_ble_eq_true rfl, Nat.le_of_ble_eq_true rfl⟩ (fun H locs hP hD hS => ?_)
  refine lv_if_eq (tgt := 45) hx hb dJ5_append_3fe6f_14 (by decide) (fun c1 => absurd c1 (by decide)) (fun c1 => ?_)
  refine lv_iload_n hx hb dJ5_append_3fe6f_17 rfl (lv_at hl 1 rfl) ?_
  refine prS C tt_blind (fun U hU hW => trivial) (kJ1_canEncode_fc78d l y hy2) mJ1_canEncode_fc78d qLJ5_191 ⟨rfl, rfl⟩ ⟨Nat.le_of_ble_eq_true rfl, Nat.le_of_ble_eq_true rfl⟩ rfl hl.1 rfl (Nat.le_of_ble_eq_true rfl) dJ5_append_3fe6f_18 ⟨Nat.le_of_ble_eq_true rfl, Nat.le_of_ble_eq_true rfl⟩ ?_
  refine lv_if_eq (tgt := 45) hx hb dJ5_append_3fe6f_21 (by decide) (fun c1 => absurd c1 (by decide)) (fun c1 => ?_)
  refine lv_aload_n hx hb dJ5_append_3fe6f_24 rfl (lv_at hl 0 rfl) ?_
  refine getF (q0 := 0) (k0 := 0) (v := .ref w) C hE hP inA8 rfl rfl (by decide) qFJ5_15 rfl rfl dJ5_append_3fe6f_25 ?_
  refine lv_aload_n hx hb dJ5_append_3fe6f_28 rfl (lv_at hl 0 rfl) ?_
  refine lv_dup hx hb dJ5_append_3fe6f_29 rfl ?_
  refine getF (q0 := 0) (k0 := 3) (v := .int (nI b1.length)) C hE hP inA8 rfl rfl (by decide) qFJ5_79 rfl rfl dJ5_append_3fe6f_30 ?_
  refine lv_dup_x1 hx hb dJ5_append_3fe6f_33 rfl rfl ?_
  refine lv_iconst (v := 1) hx hb dJ5_append_3fe6f_34 (by decide) ?_
  refine lv_iadd hx hb dJ5_append_3fe6f_35 ?_
  rw [show (((nI b1.length) + 1) : Int32) = nI (b1.length + 1) from nI_1 _]
  refine putF (q0 := 0) (k0 := 3) (ws1 := [(b, .inr (8, [.ref w, .int 0, .int 0, .int (nI (b1.length + 1))])), (w, .inl (T 4, 16, .inl (lF b1)))]) C hE hP hD hS inA8 tyJ4_ok nmJ4 rfl rfl (by decide) qFJ5_79 rfl rfl rfl rfl (Nat.le_of_ble_eq_true rfl) rfl dJ5_append_3fe6f_36 (fun H locs hP hD hS => ?_)
  refine lv_iload_n hx hb dJ5_append_3fe6f_39 rfl (lv_at hl 1 rfl) ?_
  refine lv_i2b hx hb dJ5_append_3fe6f_40 hy3 ?_
  refine va_bast hx hb hE.1 hP hD hS 1 4 rfl rfl (vp_in_nI (by omega) (by omega)) dJ5_append_3fe6f_41 (fun H locs hP hD hS => ?_)
  rw [nI_clamp (n := b1.length) (by omega), show vp_nar .byte y = y from hy3, lF_put] at hP
  have hP : va_P D kC [(b, .inr (8, [.ref w, .int 0, .int 0, .int (nI (b1 ++ [y]).length)])), (w, .inl (T 4, 16, .inl (lF (b1 ++ [y]))))] H := by rw [List.length_append]; exact hP
  have hD : va_D (va_A [(b, .inr (8, [.ref w, .int 0, .int 0, .int (nI b1.length)])), (w, .inl (T 4, 16, .inl (lF b1)))] s.heap.size) [(b, .inr (8, [.ref w, .int 0, .int 0, .int (nI (b1 ++ [y]).length)])), (w, .inl (T 4, 16, .inl (lF (b1 ++ [y]))))] := addr_D hD rfl
  refine lv_goto (tgt := 75) hx hb dJ5_append_3fe6f_42 (by decide) ?_
  refine lv_aload_n hx hb dJ5_append_3fe6f_75 rfl (lv_at hl 0 rfl) ?_
  exact hret _ _ _ _ _ _ (fun _ => 0) (Nat.le_of_ble_eq_true rfl) (Nat.le_of_ble_eq_true rfl) dJ5_append_3fe6f_76 hP hD hS

/-- digits -/
def dg (k : Nat) : List Int32 := if k < 10 then [nI (48 + k)] else [nI (48 + k / 10), nI (48 + k % 10)]
theorem dg_len (k : Nat) : (dg k).length = if k < 10 then 1 else 2 := by
  rw [dg]; split <;> rfl
set_option maxHeartbeats 4000000 in
set_option maxRecDepth 100000 in
theorem kJ6_stringSize_0f7a4 (l : Launch) (k : Nat) (hk : k < 100) : PrI l yJ6_stringSize_0f7a4 cJ6_stringSize_0f7a4 4 .int ({ frames := 0, cells := 0, slots := 0, locals := 0 } : Room) (fun _ => True) [.int (nI k)] (nI (dg k).length) := by
  refine prMet (by decide +kernel) rfl (fun p e s m args below meth c Q C hJ hret ls hl => ?_)
  have hx := C.1
  have hb := C.2.1
  have hl : lv_has ls 4 [(0, .int (nI k))] := hl
  refine lv_iconst (v := 1) hx hb dJ6_stringSize_0f7a4_0 (by decide) ?_
  refine lv_istore_n (lv' := [(1, .int 1), (0, .int (nI k))]) hx hb dJ6_stringSize_0f7a4_1 rfl hl (by decide) rfl (fun ls hl => ?_)
  refine lv_iload_n hx hb dJ6_stringSize_0f7a4_2 rfl (lv_at hl 1 rfl) ?_
  refine lv_if_lt (tgt := 11) hx hb dJ6_stringSize_0f7a4_3 (by decide) (fun c1 => absurd c1 (nI_pos (by omega))) (fun c1 => ?_)
  refine lv_iconst (v := 0) hx hb dJ6_stringSize_0f7a4_6 (by decide) ?_
  refine lv_istore_n (lv' := [(1, .int 0), (0, .int (nI k))]) hx hb dJ6_stringSize_0f7a4_7 rfl hl (by decide) rfl (fun ls hl => ?_)
  refine lv_iload_n hx hb dJ6_stringSize_0f7a4_8 rfl (lv_at hl 1 rfl) ?_
  refine lv_ineg hx hb dJ6_stringSize_0f7a4_9 ?_
  refine lv_istore_n (lv' := [(0, .int (-(nI k))), (1, .int 0)]) hx hb dJ6_stringSize_0f7a4_10 rfl hl (by decide) rfl (fun ls hl => ?_)
  refine lv_bipush (v := -10) hx hb dJ6_stringSize_0f7a4_11 (by decide) ?_
  refine lv_istore_n (lv' := [(2, .int (-10)), (0, .int (-(nI k))), (1, .int 0)]) hx hb dJ6_stringSize_0f7a4_13 rfl hl (by decide) rfl (fun ls hl => ?_)
  refine lv_iconst (v := 1) hx hb dJ6_stringSize_0f7a4_14 (by decide) ?_
  refine lv_istore_n (lv' := [(3, .int 1), (2, .int (-10)), (0, .int (-(nI k))), (1, .int 0)]) hx hb dJ6_stringSize_0f7a4_15 rfl hl (by decide) rfl (fun ls hl => ?_)
  refine lv_iload_n hx hb dJ6_stringSize_0f7a4_16 rfl (lv_at hl 0 rfl) ?_
  refine lv_bipush (v := 10) hx hb dJ6_stringSize_0f7a4_17 (by decide) ?_
  refine lv_icmp_ge (tgt := 42) hx hb dJ6_stringSize_0f7a4_19 (by decide) (fun c1 => absurd c1 (by decide)) (fun c1 => ?_)
  refine lv_iload_n hx hb dJ6_stringSize_0f7a4_22 rfl (lv_at hl 2 rfl) ?_
  refine lv_iload_n hx hb dJ6_stringSize_0f7a4_23 rfl (lv_at hl 1 rfl) ?_
  refine lv_icmp_le (tgt := 31) hx hb dJ6_stringSize_0f7a4_24 (by decide) (fun c1 => ?_) (fun c1 => ?_)
  · have h10 : ¬ k < 10 := fun z => ng_10 k z c1
    refine lv_bipush (v := 10) hx hb dJ6_stringSize_0f7a4_31 (by decide) ?_
    refine lv_iload_n hx hb dJ6_stringSize_0f7a4_33 rfl (lv_at hl 1 rfl) ?_
    refine lv_imul hx hb dJ6_stringSize_0f7a4_34 ?_
    refine lv_istore_n (lv' := [(2, .int (-100)), (3, .int 1), (0, .int (-(nI k))), (1, .int 0)]) hx hb dJ6_stringSize_0f7a4_35 rfl hl (by decide) rfl (fun ls hl => ?_)
    refine lv_iinc (v := 2) (lv' := [(3, .int 2), (2, .int (-100)), (0, .int (-(nI k))), (1, .int 0)]) hx hb dJ6_stringSize_0f7a4_36 hl (k := 1) rfl rfl (by decide) rfl (fun ls hl => ?_)
    refine lv_goto (tgt := 16) hx hb dJ6_stringSize_0f7a4_39 (by decide) ?_
    refine lv_iload_n hx hb dJ6_stringSize_0f7a4_16 rfl (lv_at hl 0 rfl) ?_
    refine lv_bipush (v := 10) hx hb dJ6_stringSize_0f7a4_17 (by decide) ?_
    refine lv_icmp_ge (tgt := 42) hx hb dJ6_stringSize_0f7a4_19 (by decide) (fun c1 => absurd c1 (by decide)) (fun c1 => ?_)
    refine lv_iload_n hx hb dJ6_stringSize_0f7a4_22 rfl (lv_at hl 2 rfl) ?_
    refine lv_iload_n hx hb dJ6_stringSize_0f7a4_23 rfl (lv_at hl 1 rfl) ?_
    refine lv_icmp_le (tgt := 31) hx hb dJ6_stringSize_0f7a4_24 (by decide) (fun c1 => absurd c1 (ng_100 k hk)) (fun c1 => ?_)
    refine lv_iload_n hx hb dJ6_stringSize_0f7a4_27 rfl (lv_at hl 0 rfl) ?_
    refine lv_iload_n hx hb dJ6_stringSize_0f7a4_28 rfl (lv_at hl 3 rfl) ?_
    refine lv_iadd hx hb dJ6_stringSize_0f7a4_29 ?_
    exact hret _ _ _ _ dJ6_stringSize_0f7a4_30 rfl (by rw [dg_len, if_neg h10]; rfl)
  · have h10 : k < 10 := ng_10' k hk c1
    refine lv_iload_n hx hb dJ6_stringSize_0f7a4_27 rfl (lv_at hl 0 rfl) ?_
    refine lv_iload_n hx hb dJ6_stringSize_0f7a4_28 rfl (lv_at hl 3 rfl) ?_
    refine lv_iadd hx hb dJ6_stringSize_0f7a4_29 ?_
    exact hret _ _ _ _ dJ6_stringSize_0f7a4_30 rfl (by rw [dg_len, if_pos h10]; rfl)

theorem dg_1 {k : Nat} (h : k < 10) : dg k = [dgO k] := by
  rw [dg, if_pos h, dgO, Nat.mod_eq_of_lt h]; rfl
theorem dg_2 {k : Nat} (h : ¬ k < 10) : dg k = [dgT k, dgO k] := by
  rw [dg, if_neg h]; rfl
set_option maxHeartbeats 4000000 in
set_option maxRecDepth 100000 in
theorem kJ6_getChars_ba4f3 (l : Launch) (hnt : l.stackTraces = false) (D : va_G) (T : Nat → ClassId) (w k : Nat) (b1 : List Int32) (a v : Nat) (bs : List Int32) (hk : k < 100) (hn : (b1 ++ dg k).length ≤ 16) (sz : Nat) : LnI (JS [(w, .inl (T 4, 16, .inl (lF b1)))] a v bs) l yJ6_getChars_ba4f3 cJ6_getChars_ba4f3 7 .int ({ frames := 0, cells := 0, slots := 0, locals := 0 } : Room) D T sz [(w, .inl (T 4, 16, .inl (lF b1)))] [(w, .inl (T 4, 16, .inl (lF (b1 ++ dg k))))] [.int (nI k), .int (nI (b1 ++ dg k).length), .ref w] (nI b1.length) := by
  refine lnMet hnt (by decide +kernel) rfl (fun p e s m args below meth c Q A hA0 C hE hA hZ hJ hP hD hS hret ls hl => ?_)
  subst hA0
  have hx := C.1
  have hb := C.2.1
  have hl : lv_has ls 7 [(0, .int (nI k)), (1, .int (nI (b1 ++ dg k).length)), (2, .ref w)] := hl
  obtain ⟨⟨t1, z1, y1⟩, t2, z2, y2⟩ := hJ.2.1
  have hlen := dg_len k
  have hlen1 : 1 ≤ (dg k).length := by rw [hlen]; split <;> omega
  rw [List.length_append] at hn
  refine lv_iload_n hx hb dJ6_getChars_ba4f3_0 rfl (lv_at hl 1 rfl) ?_
  refine lv_istore (lv' := [(5, .int (nI (b1 ++ dg k).length)), (0, .int (nI k)), (1, .int (nI (b1 ++ dg k).length)), (2, .ref w)]) hx hb dJ6_getChars_ba4f3_1 hl (by decide) rfl (fun ls hl => ?_)
  refine lv_iload_n hx hb dJ6_getChars_ba4f3_3 rfl (lv_at hl 1 rfl) ?_
  refine lv_if_ge (tgt := 11) hx hb dJ6_getChars_ba4f3_4 (by decide) (fun c1 => ?_) (fun c1 => absurd (Int32.not_lt.mp (nI_pos (n := k) (by omega))) c1)
  refine lv_iconst (v := 0) hx hb dJ6_getChars_ba4f3_11 (by decide) ?_
  refine lv_istore (lv' := [(6, .int 0), (5, .int (nI (b1 ++ dg k).length)), (0, .int (nI k)), (1, .int (nI (b1 ++ dg k).length)), (2, .ref w)]) hx hb dJ6_getChars_ba4f3_12 hl (by decide) rfl (fun ls hl => ?_)
  refine lv_iload hx hb dJ6_getChars_ba4f3_14 (lv_at hl 0 rfl) ?_
  refine lv_if_ne (tgt := 22) hx hb dJ6_getChars_ba4f3_16 (by decide) (fun c1 => absurd rfl c1) (fun c1 => ?_)
  refine lv_iload_n hx hb dJ6_getChars_ba4f3_19 rfl (lv_at hl 2 rfl) ?_
  refine lv_ineg hx hb dJ6_getChars_ba4f3_20 ?_
  refine lv_istore_n (lv' := [(0, .int (-(nI k))), (6, .int 0), (5, .int (nI (b1 ++ dg k).length)), (1, .int (nI (b1 ++ dg k).length)), (2, .ref w)]) hx hb dJ6_getChars_ba4f3_21 rfl hl (by decide) rfl (fun ls hl => ?_)
  refine lv_iload_n hx hb dJ6_getChars_ba4f3_22 rfl (lv_at hl 0 rfl) ?_
  refine lv_bipush (v := -100) hx hb dJ6_getChars_ba4f3_23 (by decide) ?_
  refine lv_icmp_gt (tgt := 72) hx hb dJ6_getChars_ba4f3_25 (by decide) (fun c1 => ?_) (fun c1 => absurd (ng_gt k hk) c1)
  refine lv_aload_n hx hb dJ6_getChars_ba4f3_72 rfl (lv_at hl 4 rfl) ?_
  refine lv_iinc (v := nI (b1.length + (dg k).length - 1)) (lv' := [(5, .int (nI (b1.length + (dg k).length - 1))), (0, .int (-(nI k))), (6, .int 0), (1, .int (nI (b1 ++ dg k).length)), (2, .ref w)]) hx hb dJ6_getChars_ba4f3_73 hl (k := 2) rfl (by rw [List.length_append]; exact ng_m1 (by omega)) (by decide) rfl (fun ls hl => ?_)
  refine lv_iload hx hb dJ6_getChars_ba4f3_76 (lv_at hl 0 rfl) ?_
  refine va_gets hx hb z1 hS C.2.2.2.1 (C.2.2.2.2 _ qFJ6_83) (fun _ h => h) dJ6_getChars_ba4f3_78 ?_
  refine lv_iload_n hx hb dJ6_getChars_ba4f3_81 rfl (lv_at hl 1 rfl) ?_
  refine lv_ineg hx hb dJ6_getChars_ba4f3_82 ?_
  rw [show -(-(nI k)) = nI k from Int32.neg_neg]
  refine va_tb hx hb y1 hS (vp_in_nI hk (by decide)) (v := .int (dgO k)) (by rw [nI_clamp (by omega)]) dJ6_getChars_ba4f3_83 ?_
  refine va_bast hx hb hE.1 hP hD hS 0 4 rfl rfl (vp_in_nI (by omega) (by omega)) dJ6_getChars_ba4f3_84 (fun H locs hP hD hS => ?_)
  rw [nI_clamp (by omega), show vp_nar .byte (dgO k) = dgO k from d_nar k hk |>.1] at hP hD
  refine lv_iload_n hx hb dJ6_getChars_ba4f3_85 rfl (lv_at hl 1 rfl) ?_
  refine lv_bipush (v := -9) hx hb dJ6_getChars_ba4f3_86 (by decide) ?_
  refine lv_icmp_ge (tgt := 104) hx hb dJ6_getChars_ba4f3_88 (by decide) (fun c1 => ?_) (fun c1 => ?_)
  · have h10 : k < 10 := ng_9 k hk c1
    rw [if_pos h10] at hlen
    rw [hlen, Nat.add_sub_cancel] at hP hl
    have hP : va_P D kC [(w, .inl (T 4, 16, .inl (lF (b1 ++ dg k))))] H := by rw [dg_1 h10, ← lF_put]; exact hP
    refine lv_iload hx hb dJ6_getChars_ba4f3_104 (lv_at hl 2 rfl) ?_
    refine lv_if_eq (tgt := 118) hx hb dJ6_getChars_ba4f3_106 (by decide) (fun c2 => ?_) (fun c2 => absurd rfl c2)
    refine lv_iload hx hb dJ6_getChars_ba4f3_118 (lv_at hl 0 rfl) ?_
    exact hret _ _ _ _ _ _ _ _ (Nat.le_of_ble_eq_true rfl) (Nat.le_of_ble_eq_true rfl) dJ6_getChars_ba4f3_120 rfl rfl hP hS
  · have h10 : ¬ k < 10 := fun z => c1 (ng_9' k z)
    rw [if_neg h10] at hlen
    rw [hlen, show b1.length + 2 - 1 = b1.length + 1 from rfl] at hP hl hD
    refine lv_aload_n hx hb dJ6_getChars_ba4f3_91 rfl (lv_at hl 4 rfl) ?_
    refine lv_iinc (v := nI b1.length) (lv' := [(5, .int (nI b1.length)), (0, .int (-(nI k))), (6, .int 0), (1, .int (nI (b1 ++ dg k).length)), (2, .ref w)]) hx hb dJ6_getChars_ba4f3_92 hl (k := 0) rfl (ng_m1 (n := b1.length + 1) (by omega)) (by decide) rfl (fun ls hl => ?_)
    refine lv_iload hx hb dJ6_getChars_ba4f3_95 (lv_at hl 0 rfl) ?_
    refine va_gets hx hb z2 hS C.2.2.2.1 (C.2.2.2.2 _ qFJ6_87) (fun _ h => h) dJ6_getChars_ba4f3_97 ?_
    refine lv_iload_n hx hb dJ6_getChars_ba4f3_100 rfl (lv_at hl 1 rfl) ?_
    refine lv_ineg hx hb dJ6_getChars_ba4f3_101 ?_
    rw [show -(-(nI k)) = nI k from Int32.neg_neg]
    refine va_tb hx hb y2 hS (vp_in_nI hk (by decide)) (v := .int (dgT k)) (by rw [nI_clamp (by omega)]) dJ6_getChars_ba4f3_102 ?_
    refine va_bast hx hb hE.1 hP hD hS 0 4 rfl rfl (vp_in_nI (by omega) (by omega)) dJ6_getChars_ba4f3_103 (fun H locs hP hD hS => ?_)
    rw [nI_clamp (by omega), show vp_nar .byte (dgT k) = dgT k from d_nar k hk |>.2] at hP
    have hP : va_P D kC [(w, .inl (T 4, 16, .inl (lF (b1 ++ dg k))))] H := by rw [dg_2 h10, ← lF_put2]; exact hP
    refine lv_iload hx hb dJ6_getChars_ba4f3_104 (lv_at hl 2 rfl) ?_
    refine lv_if_eq (tgt := 118) hx hb dJ6_getChars_ba4f3_106 (by decide) (fun c2 => ?_) (fun c2 => absurd rfl c2)
    refine lv_iload hx hb dJ6_getChars_ba4f3_118 (lv_at hl 0 rfl) ?_
    exact hret _ _ _ _ _ _ _ _ (Nat.le_of_ble_eq_true rfl) (Nat.le_of_ble_eq_true rfl) dJ6_getChars_ba4f3_120 rfl rfl hP hS

set_option maxHeartbeats 4000000 in
set_option maxRecDepth 100000 in
theorem kJ5_append_c97b9 (l : Launch) (hnt : l.stackTraces = false) (D : va_G) (T : Nat → ClassId) (b w k : Nat) (b1 : List Int32) (a v : Nat) (bs : List Int32) (hk : k < 100) (hn : (b1 ++ dg k).length ≤ 16) (sz : Nat) : LnR (JS [(b, .inr (8, [.ref w, .int 0, .int 0, .int (nI b1.length)])), (w, .inl (T 4, 16, .inl (lF b1)))] a v bs) l yJ5_append_c97b9 cJ5_append_c97b9 4 (.object "java/lang/AbstractStringBuilder") ({ frames := 1, cells := 0, slots := 0, locals := 46 } : Room) D T sz [(b, .inr (8, [.ref w, .int 0, .int 0, .int (nI b1.length)])), (w, .inl (T 4, 16, .inl (lF b1)))] (fun _ => [(b, .inr (8, [.ref w, .int 0, .int 0, .int (nI (b1 ++ dg k).length)])), (w, .inl (T 4, 16, .inl (lF (b1 ++ dg k))))]) [.ref b, .int (nI k)]  (fun _ => b) := by
  refine lnMetR hnt (by decide +kernel) (Or.inl ⟨_, rfl⟩) rfl (fun p e s m args below meth c Q A hA0 C hE hA hZ hJ hP hD hS hret ls hl => ?_)
  subst hA0
  have hx := C.1
  have hb := C.2.1
  have hl : lv_has ls 4 [(0, .ref b), (1, .int (nI k))] := hl
  refine lv_aload_n hx hb dJ5_append_c97b9_0 rfl (lv_at hl 0 rfl) ?_
  refine getF (q0 := 0) (k0 := 3) (v := .int (nI b1.length)) C hE hP inA8 rfl rfl (by decide) qFJ5_79 rfl rfl dJ5_append_c97b9_1 ?_
  refine lv_istore_n (lv' := [(2, .int (nI b1.length)), (0, .ref b), (1, .int (nI k))]) hx hb dJ5_append_c97b9_4 rfl hl (by decide) rfl (fun ls hl => ?_)
  refine lv_iload_n hx hb dJ5_append_c97b9_5 rfl (lv_at hl 0 rfl) ?_
  refine lv_iload_n hx hb dJ5_append_c97b9_6 rfl (lv_at hl 2 rfl) ?_
  refine prS C tt_blind (fun U hU hW => trivial) (kJ6_stringSize_0f7a4 l k hk) mJ6_stringSize_0f7a4 qLJ5_245 ⟨rfl, rfl⟩ ⟨Nat.le_of_ble_eq_true rfl, Nat.le_of_ble_eq_true rfl⟩ rfl hl.1 rfl (Nat.le_of_ble_eq_true rfl) dJ5_append_c97b9_7 ⟨Nat.le_of_ble_eq_true rfl, Nat.le_of_ble_eq_true rfl⟩ ?_
  refine lv_iadd hx hb dJ5_append_c97b9_10 ?_
  rw [show ((nI b1.length + nI (dg k).length) : Int32) = nI (b1 ++ dg k).length from by rw [List.length_append]; exact nI_add _ _]
  refine lv_istore_n (lv' := [(3, .int (nI (b1 ++ dg k).length)), (2, .int (nI b1.length)), (0, .ref b), (1, .int (nI k))]) hx hb dJ5_append_c97b9_11 rfl hl (by decide) rfl (fun ls hl => ?_)
  refine lv_aload_n hx hb dJ5_append_c97b9_12 rfl (lv_at hl 2 rfl) ?_
  refine lv_iload_n hx hb dJ5_append_c97b9_13 rfl (lv_at hl 0 rfl) ?_
  refine lnVv (ws1 := [(b, .inr (8, [.ref w, .int 0, .int 0, .int (nI b1.length)])), (w, .inl (T 4, 16, .inl (lF b1)))]) C hE hZ hP hD hS hA JS.bl (fun U hU hW => J9.use hJ hD hS hA (wc := [(b, .inr (8, [.ref w, .int 0, .int 0, .int (nI b1.length)])), (w, .inl (T 4, 16, .inl (lF b1)))]) [0, 1] rfl hU hW) (recvC hE hP (q0 := 0) (ci := 8) rfl rfl rfl) (kJ5_ensureCapacityInternal_d00df l hZ.1 D T b w (nI b1.length) (lF b1) (nI (b1 ++ dg k).length) a v bs (le16 hn) _) wJ5_ensureCapacityInternal_d00df (hJ.2.2 yJ5_ensureCapacityInternal_d00df (by decide)) qLJ5_100 [0, 1] [] rfl rfl rfl rfl rfl rfl ⟨Nat.le_of_ble_eq_true rfl, Nat.le_of_ble_eq_true rfl⟩ rfl hl.1 rfl (Nat.le_of_ble_eq_true rfl) dJ5_append_c97b9_14 ⟨Nat.le_of_ble_eq_true rfl, Nat.le_of_ble_eq_true rfl⟩ (fun H locs hP hD hS => ?_)
  refine lv_aload_n hx hb dJ5_append_c97b9_17 rfl (lv_at hl 2 rfl) ?_
  refine lnVi (ws1 := [(b, .inr (8, [.ref w, .int 0, .int 0, .int (nI b1.length)])), (w, .inl (T 4, 16, .inl (lF b1)))]) C hE hZ hP hD hS hA JS.bl (fun U hU hW => J9.use hJ hD hS hA (wc := [(b, .inr (8, [.ref w, .int 0, .int 0, .int (nI b1.length)])), (w, .inl (T 4, 16, .inl (lF b1)))]) [0, 1] rfl hU hW) (recvC hE hP (q0 := 0) (ci := 8) rfl rfl rfl) (kJ5_isLatin1_aae02 l hZ.1 D T b w (nI b1.length) (lF b1) a v bs _) wJ5_isLatin1_aae02 (C.2.2.2.2 _ qSelJ5_isLatin1_aae02) qLJ5_83 [0, 1] [] rfl rfl rfl rfl rfl rfl ⟨Nat.le_of_ble_eq_true rfl, Nat.le_of_ble_eq_true rfl⟩ rfl hl.1 rfl (Nat.le_of_ble_eq_true rfl) dJ5_append_c97b9_18 ⟨Nat.le_of_ble_eq_true rfl, Nat.le_of_ble_eq_true rfl⟩ (fun H locs hP hD hS => ?_)
  refine lv_if_eq (tgt := 37) hx hb dJ5_append_c97b9_21 (by decide) (fun c1 => absurd c1 (by decide)) (fun c1 => ?_)
  refine lv_iload_n hx hb dJ5_append_c97b9_24 rfl (lv_at hl 3 rfl) ?_
  refine lv_iload_n hx hb dJ5_append_c97b9_25 rfl (lv_at hl 0 rfl) ?_
  refine lv_aload_n hx hb dJ5_append_c97b9_26 rfl (lv_at hl 2 rfl) ?_
  refine getF (q0 := 0) (k0 := 0) (v := .ref w) C hE hP inA8 rfl rfl (by decide) qFJ5_15 rfl rfl dJ5_append_c97b9_27 ?_
  refine lnS (ws1 := [(b, .inr (8, [.ref w, .int 0, .int 0, .int (nI b1.length)])), (w, .inl (T 4, 16, .inl (lF (b1 ++ dg k))))]) C hE hZ hP hD hS hA JS.bl (fun U hU hW => J9.use hJ hD hS hA (wc := [(w, .inl (T 4, 16, .inl (lF b1)))]) [1] rfl hU hW)  (kJ6_getChars_ba4f3 l hZ.1 D T w k b1 a v bs hk hn _) mJ6_getChars_ba4f3 qLJ5_248 [1] [0] rfl rfl rfl rfl rfl rfl ⟨Nat.le_of_ble_eq_true rfl, Nat.le_of_ble_eq_true rfl⟩ rfl hl.1 rfl (Nat.le_of_ble_eq_true rfl) dJ5_append_c97b9_30 ⟨Nat.le_of_ble_eq_true rfl, Nat.le_of_ble_eq_true rfl⟩ (fun H locs hP hD hS => ?_)
  refine lv_pop hx hb dJ5_append_c97b9_33 rfl ?_
  refine lv_goto (tgt := 48) hx hb dJ5_append_c97b9_34 (by decide) ?_
  refine lv_aload_n hx hb dJ5_append_c97b9_48 rfl (lv_at hl 2 rfl) ?_
  refine lv_iload_n hx hb dJ5_append_c97b9_49 rfl (lv_at hl 0 rfl) ?_
  refine putF (q0 := 0) (k0 := 3) (ws1 := [(b, .inr (8, [.ref w, .int 0, .int 0, .int (nI (b1 ++ dg k).length)])), (w, .inl (T 4, 16, .inl (lF (b1 ++ dg k))))]) C hE hP hD hS inA8 tyJ4_ok nmJ4 rfl rfl (by decide) qFJ5_79 rfl rfl rfl rfl (Nat.le_of_ble_eq_true rfl) rfl dJ5_append_c97b9_50 (fun H locs hP hD hS => ?_)
  refine lv_aload_n hx hb dJ5_append_c97b9_53 rfl (lv_at hl 2 rfl) ?_
  exact hret _ _ _ _ _ _ (fun _ => 0) (Nat.le_of_ble_eq_true rfl) (Nat.le_of_ble_eq_true rfl) dJ5_append_c97b9_54 hP hD hS

set_option maxHeartbeats 4000000 in
set_option maxRecDepth 100000 in
theorem kJ4_append_15ec4 (l : Launch) (hnt : l.stackTraces = false) (D : va_G) (T : Nat → ClassId) (b w : Nat) (b1 : List Int32) (a v : Nat) (bs : List Int32) (ok : okB bs = true) (hn : b1.length + bs.length ≤ 16) (sz : Nat) : LnR (JS [(b, .inr (8, [.ref w, .int 0, .int 0, .int (nI b1.length)])), (w, .inl (T 4, 16, .inl (lF b1)))] a v bs) l yJ4_append_15ec4 cJ4_append_15ec4 2 (.object "java/lang/StringBuilder") ({ frames := 4, cells := 0, slots := 0, locals := 168 } : Room) D T sz [(b, .inr (8, [.ref w, .int 0, .int 0, .int (nI b1.length)])), (w, .inl (T 4, 16, .inl (lF b1)))] (fun _ => [(b, .inr (8, [.ref w, .int 0, .int 0, .int (nI (b1 ++ bs).length)])), (w, .inl (T 4, 16, .inl (lF (b1 ++ bs))))]) [.ref b, .ref a]  (fun _ => b) := by
  refine lnMetR hnt (by decide +kernel) (Or.inl ⟨_, rfl⟩) rfl (fun p e s m args below meth c Q A hA0 C hE hA hZ hJ hP hD hS hret ls hl => ?_)
  subst hA0
  have hx := C.1
  have hb := C.2.1
  have hl : lv_has ls 2 [(0, .ref b), (1, .ref a)] := hl
  refine lv_aload_n hx hb dJ4_append_15ec4_0 rfl (lv_at hl 0 rfl) ?_
  refine lv_aload_n hx hb dJ4_append_15ec4_1 rfl (lv_at hl 1 rfl) ?_
  refine lnUr (wr := []) C hE hZ hP hD hS hA JS.bl (fun U hU hW => J9.use hJ hD hS hA (wc := [(b, .inr (8, [.ref w, .int 0, .int 0, .int (nI b1.length)])), (w, .inl (T 4, 16, .inl (lF b1)))]) [0, 1] rfl hU hW)  (Cx := "java/lang/StringBuilder") (hE.1.1 8 _ rfl).2 (recvC hE hP (q0 := 0) (ci := 8) rfl rfl rfl) (kJ5_append_cf1ce l hZ.1 D T b w b1 a v bs ok hn _) wJ5_append_cf1ce (by decide) qLJ4_29 qSmJ5_append_cf1ce qSuJ4 [0, 1] [] rfl rfl rfl rfl rfl ⟨Nat.le_of_ble_eq_true rfl, Nat.le_of_ble_eq_true rfl⟩ rfl hl.1 rfl (Nat.le_of_ble_eq_true rfl) dJ4_append_15ec4_2 ⟨Nat.le_of_ble_eq_true rfl, Nat.le_of_ble_eq_true rfl⟩ (fun q1 H locs hP hD hS => ?_)
  have hP : va_P D kC [(b, .inr (8, [.ref w, .int 0, .int 0, .int (nI (b1 ++ bs).length)])), (w, .inl (T 4, 16, .inl (lF (b1 ++ bs))))] H := hP
  have hD : va_D _ [(b, .inr (8, [.ref w, .int 0, .int 0, .int (nI (b1 ++ bs).length)])), (w, .inl (T 4, 16, .inl (lF (b1 ++ bs))))] := hD
  refine lv_pop hx hb dJ4_append_15ec4_5 rfl ?_
  refine lv_aload_n hx hb dJ4_append_15ec4_6 rfl (lv_at hl 0 rfl) ?_
  exact hret _ _ _ _ _ _ (fun _ => 0) (Nat.le_of_ble_eq_true rfl) (Nat.le_of_ble_eq_true rfl) dJ4_append_15ec4_7 hP hD hS

set_option maxHeartbeats 4000000 in
set_option maxRecDepth 100000 in
theorem kJ4_append_cf468 (l : Launch) (hnt : l.stackTraces = false) (D : va_G) (T : Nat → ClassId) (b w : Nat) (b1 : List Int32) (y : Int32) (a v : Nat) (bs : List Int32) (hy2 : ¬ 255 < y) (hy3 : y.toInt8.toInt32 = y) (hn : b1.length + 1 ≤ 16) (sz : Nat) : LnR (JS [(b, .inr (8, [.ref w, .int 0, .int 0, .int (nI b1.length)])), (w, .inl (T 4, 16, .inl (lF b1)))] a v bs) l yJ4_append_cf468 cJ4_append_cf468 2 (.object "java/lang/StringBuilder") ({ frames := 2, cells := 0, slots := 0, locals := 64 } : Room) D T sz [(b, .inr (8, [.ref w, .int 0, .int 0, .int (nI b1.length)])), (w, .inl (T 4, 16, .inl (lF b1)))] (fun _ => [(b, .inr (8, [.ref w, .int 0, .int 0, .int (nI (b1 ++ [y]).length)])), (w, .inl (T 4, 16, .inl (lF (b1 ++ [y]))))]) [.ref b, .int y]  (fun _ => b) := by
  refine lnMetR hnt (by decide +kernel) (Or.inl ⟨_, rfl⟩) rfl (fun p e s m args below meth c Q A hA0 C hE hA hZ hJ hP hD hS hret ls hl => ?_)
  subst hA0
  have hx := C.1
  have hb := C.2.1
  have hl : lv_has ls 2 [(0, .ref b), (1, .int y)] := hl
  refine lv_aload_n hx hb dJ4_append_cf468_0 rfl (lv_at hl 0 rfl) ?_
  refine lv_iload_n hx hb dJ4_append_cf468_1 rfl (lv_at hl 1 rfl) ?_
  refine lnUr (wr := []) C hE hZ hP hD hS hA JS.bl (fun U hU hW => J9.use hJ hD hS hA (wc := [(b, .inr (8, [.ref w, .int 0, .int 0, .int (nI b1.length)])), (w, .inl (T 4, 16, .inl (lF b1)))]) [0, 1] rfl hU hW)  (Cx := "java/lang/StringBuilder") (hE.1.1 8 _ rfl).2 (recvC hE hP (q0 := 0) (ci := 8) rfl rfl rfl) (kJ5_append_3fe6f l hZ.1 D T b w b1 y a v bs hy2 hy3 hn _) wJ5_append_3fe6f (by decide) qLJ4_50 qSmJ5_append_3fe6f qSuJ4 [0, 1] [] rfl rfl rfl rfl rfl ⟨Nat.le_of_ble_eq_true rfl, Nat.le_of_ble_eq_true rfl⟩ rfl hl.1 rfl (Nat.le_of_ble_eq_true rfl) dJ4_append_cf468_2 ⟨Nat.le_of_ble_eq_true rfl, Nat.le_of_ble_eq_true rfl⟩ (fun q1 H locs hP hD hS => ?_)
  have hP : va_P D kC [(b, .inr (8, [.ref w, .int 0, .int 0, .int (nI (b1 ++ [y]).length)])), (w, .inl (T 4, 16, .inl (lF (b1 ++ [y]))))] H := hP
  have hD : va_D _ [(b, .inr (8, [.ref w, .int 0, .int 0, .int (nI (b1 ++ [y]).length)])), (w, .inl (T 4, 16, .inl (lF (b1 ++ [y]))))] := hD
  refine lv_pop hx hb dJ4_append_cf468_5 rfl ?_
  refine lv_aload_n hx hb dJ4_append_cf468_6 rfl (lv_at hl 0 rfl) ?_
  exact hret _ _ _ _ _ _ (fun _ => 0) (Nat.le_of_ble_eq_true rfl) (Nat.le_of_ble_eq_true rfl) dJ4_append_cf468_7 hP hD hS

set_option maxHeartbeats 4000000 in
set_option maxRecDepth 100000 in
theorem kJ4_append_bf812 (l : Launch) (hnt : l.stackTraces = false) (D : va_G) (T : Nat → ClassId) (b w k : Nat) (b1 : List Int32) (a v : Nat) (bs : List Int32) (hk : k < 100) (hn : (b1 ++ dg k).length ≤ 16) (sz : Nat) : LnR (JS [(b, .inr (8, [.ref w, .int 0, .int 0, .int (nI b1.length)])), (w, .inl (T 4, 16, .inl (lF b1)))] a v bs) l yJ4_append_bf812 cJ4_append_bf812 2 (.object "java/lang/StringBuilder") ({ frames := 2, cells := 0, slots := 0, locals := 69 } : Room) D T sz [(b, .inr (8, [.ref w, .int 0, .int 0, .int (nI b1.length)])), (w, .inl (T 4, 16, .inl (lF b1)))] (fun _ => [(b, .inr (8, [.ref w, .int 0, .int 0, .int (nI (b1 ++ dg k).length)])), (w, .inl (T 4, 16, .inl (lF (b1 ++ dg k))))]) [.ref b, .int (nI k)]  (fun _ => b) := by
  refine lnMetR hnt (by decide +kernel) (Or.inl ⟨_, rfl⟩) rfl (fun p e s m args below meth c Q A hA0 C hE hA hZ hJ hP hD hS hret ls hl => ?_)
  subst hA0
  have hx := C.1
  have hb := C.2.1
  have hl : lv_has ls 2 [(0, .ref b), (1, .int (nI k))] := hl
  refine lv_aload_n hx hb dJ4_append_bf812_0 rfl (lv_at hl 0 rfl) ?_
  refine lv_iload_n hx hb dJ4_append_bf812_1 rfl (lv_at hl 1 rfl) ?_
  refine lnUr (wr := []) C hE hZ hP hD hS hA JS.bl (fun U hU hW => J9.use hJ hD hS hA (wc := [(b, .inr (8, [.ref w, .int 0, .int 0, .int (nI b1.length)])), (w, .inl (T 4, 16, .inl (lF b1)))]) [0, 1] rfl hU hW)  (Cx := "java/lang/StringBuilder") (hE.1.1 8 _ rfl).2 (recvC hE hP (q0 := 0) (ci := 8) rfl rfl rfl) (kJ5_append_c97b9 l hZ.1 D T b w k b1 a v bs hk hn _) wJ5_append_c97b9 (by decide) qLJ4_53 qSmJ5_append_c97b9 qSuJ4 [0, 1] [] rfl rfl rfl rfl rfl ⟨Nat.le_of_ble_eq_true rfl, Nat.le_of_ble_eq_true rfl⟩ rfl hl.1 rfl (Nat.le_of_ble_eq_true rfl) dJ4_append_bf812_2 ⟨Nat.le_of_ble_eq_true rfl, Nat.le_of_ble_eq_true rfl⟩ (fun q1 H locs hP hD hS => ?_)
  have hP : va_P D kC [(b, .inr (8, [.ref w, .int 0, .int 0, .int (nI (b1 ++ dg k).length)])), (w, .inl (T 4, 16, .inl (lF (b1 ++ dg k))))] H := hP
  have hD : va_D _ [(b, .inr (8, [.ref w, .int 0, .int 0, .int (nI (b1 ++ dg k).length)])), (w, .inl (T 4, 16, .inl (lF (b1 ++ dg k))))] := hD
  refine lv_pop hx hb dJ4_append_bf812_5 rfl ?_
  refine lv_aload_n hx hb dJ4_append_bf812_6 rfl (lv_at hl 0 rfl) ?_
  exact hret _ _ _ _ _ _ (fun _ => 0) (Nat.le_of_ble_eq_true rfl) (Nat.le_of_ble_eq_true rfl) dJ4_append_bf812_7 hP hD hS

set_option maxHeartbeats 4000000 in
set_option maxRecDepth 100000 in
theorem kJ5_init_d00df (l : Launch) (hnt : l.stackTraces = false) (D : va_G) (T : Nat → ClassId) (b : Nat) (a v : Nat) (bs : List Int32) (sz : Nat) : LnC (JS [(b, .inr (8, [.null, .int 0, .int 0, .int 0]))] a v bs) l yJ5_init_d00df cJ5_init_d00df 2  ({ frames := 1, cells := 1, slots := 16, locals := 20 } : Room) D T sz [(b, .inr (8, [.null, .int 0, .int 0, .int 0]))] (fun q => [(b, .inr (8, [.ref (q 0), .int 0, .int 0, .int (nI ([] : List Int32).length)])), (q 0, .inl (T 4, 16, .inl (lF [])))]) [.ref b, .int 16] := by
  refine lnMetC hnt (by decide +kernel) rfl rfl (fun p e s m args below meth c Q A hA0 C hE hA hZ hJ hin hP hD hS hret ls hl => ?_)
  subst hA0
  have hx := C.1
  have hb := C.2.1
  have hl : lv_has ls 2 [(0, .ref b), (1, .int 16)] := hl
  refine lv_aload_n hx hb dJ5_init_d00df_0 rfl (lv_at hl 0 rfl) ?_
  refine W.objInit C.1 C.2.1 C.2.2.2.1 (C.2.2.2.2 _ qLJ5_3) (C.2.2.2.2 _ qOi) (C.2.2.2.2 _ qOc) rfl (hl.1.trans C.2.2.1.symm) rfl dJ5_init_d00df_1 (Nat.le_of_ble_eq_true rfl) (Nat.le_of_ble_eq_true rfl) ?_
  refine W.eq (g2 := F0 m 4 ls []) rfl ?_
  refine va_gets hx hb hJ.1.1 hS C.2.2.2.1 (C.2.2.2.2 _ qFJ5_18) (fun _ h => h) dJ5_init_d00df_4 ?_
  refine lv_if_eq (tgt := 25) hx hb dJ5_init_d00df_7 (by decide) (fun c1 => absurd c1 (by decide)) (fun c1 => ?_)
  refine lv_aload_n hx hb dJ5_init_d00df_10 rfl (lv_at hl 0 rfl) ?_
  refine lv_iload_n hx hb dJ5_init_d00df_11 rfl (lv_at hl 1 rfl) ?_
  refine newA (N := 16) (atype := .byte) 4 (16, .inl (fun _ => 0)) C hE hP hD hS hA qAB rfl rfl (fun _ => rfl) (by decide) (by decide) (Nat.le_of_ble_eq_true rfl) (Nat.le_of_ble_eq_true rfl) (Nat.le_of_ble_eq_true rfl) dJ5_init_d00df_12 (fun w H hP hD hS => ?_)
  have hP : va_P D kC [(b, .inr (8, [.null, .int 0, .int 0, .int 0])), (w, .inl (T 4, 16, .inl (fun _ => 0)))] H := hP
  have hD : va_D _ [(b, .inr (8, [.null, .int 0, .int 0, .int 0])), (w, .inl (T 4, 16, .inl (fun _ => 0)))] := hD
  refine W.widen (k := 1) (n := 16) (Nat.le_of_ble_eq_true rfl) (Nat.le_of_ble_eq_true rfl) ?_
  refine putF (q0 := 0) (k0 := 0) (ws1 := [(b, .inr (8, [.ref w, .int 0, .int 0, .int 0])), (w, .inl (T 4, 16, .inl (fun _ => 0)))]) C hE hP hD hS inA8 tyJ4_ok nmJ4 rfl rfl (by decide) qFJ5_15 rfl rfl rfl rfl (Nat.le_of_ble_eq_true rfl) rfl dJ5_init_d00df_14 (fun H locs hP hD hS => ?_)
  refine lv_aload_n hx hb dJ5_init_d00df_17 rfl (lv_at hl 0 rfl) ?_
  refine lv_iconst (v := 0) hx hb dJ5_init_d00df_18 (by decide) ?_
  refine putF (q0 := 0) (k0 := 1) (ws1 := [(b, .inr (8, [.ref w, .int 0, .int 0, .int 0])), (w, .inl (T 4, 16, .inl (fun _ => 0)))]) C hE hP hD hS inA8 tyJ4_ok nmJ4 rfl rfl (by decide) qFJ5_22 rfl rfl rfl rfl (Nat.le_of_ble_eq_true rfl) rfl dJ5_init_d00df_19 (fun H locs hP hD hS => ?_)
  refine lv_goto (tgt := 38) hx hb dJ5_init_d00df_22 (by decide) ?_
  have hP : va_P D kC [(b, .inr (8, [.ref w, .int 0, .int 0, .int (nI ([] : List Int32).length)])), (w, .inl (T 4, 16, .inl (lF [])))] H := by rw [lF_nil]; exact hP
  exact hret _ _ _ _ _ _ (fun _ => w) (Nat.le_of_ble_eq_true rfl) (Nat.le_of_ble_eq_true rfl) dJ5_init_d00df_38 hP (addr_D hD rfl) hS

set_option maxHeartbeats 4000000 in
set_option maxRecDepth 100000 in
theorem kJ4_init_da8c8 (l : Launch) (hnt : l.stackTraces = false) (D : va_G) (T : Nat → ClassId) (b : Nat) (a v : Nat) (bs : List Int32) (sz : Nat) : LnC (JS [(b, .inr (8, [.null, .int 0, .int 0, .int 0]))] a v bs) l yJ4_init_da8c8 cJ4_init_da8c8 1  ({ frames := 2, cells := 1, slots := 16, locals := 41 } : Room) D T sz [(b, .inr (8, [.null, .int 0, .int 0, .int 0]))] (fun q => [(b, .inr (8, [.ref (q 0), .int 0, .int 0, .int (nI ([] : List Int32).length)])), (q 0, .inl (T 4, 16, .inl (lF [])))]) [.ref b] := by
  refine lnMetC hnt (by decide +kernel) rfl rfl (fun p e s m args below meth c Q A hA0 C hE hA hZ hJ hin hP hD hS hret ls hl => ?_)
  subst hA0
  have hx := C.1
  have hb := C.2.1
  have hl : lv_has ls 1 [(0, .ref b)] := hl
  refine lv_aload_n hx hb dJ4_init_da8c8_0 rfl (lv_at hl 0 rfl) ?_
  refine lv_bipush (v := 16) hx hb dJ4_init_da8c8_1 (by decide) ?_
  refine lnIc (wr := []) C hE hZ hP hD hS hA JS.bl (fun U hU hW => J9.use hJ hD hS hA (wc := [(b, .inr (8, [.null, .int 0, .int 0, .int 0]))]) [0] rfl hU hW) (kJ5_init_d00df l hZ.1 D T b a v bs _) mJ5_init_d00df qLJ4_1 [0] [] rfl rfl rfl rfl rfl ⟨Nat.le_of_ble_eq_true rfl, Nat.le_of_ble_eq_true rfl⟩ rfl hl.1 rfl (Nat.le_of_ble_eq_true rfl) dJ4_init_da8c8_3 ⟨Nat.le_of_ble_eq_true rfl, Nat.le_of_ble_eq_true rfl⟩ (fun q1 H locs hP hD hS => ?_)
  have hP : va_P D kC [(b, .inr (8, [.ref (q1 0), .int 0, .int 0, .int (nI ([] : List Int32).length)])), (q1 0, .inl (T 4, 16, .inl (lF [])))] H := hP
  have hD : va_D _ [(b, .inr (8, [.ref (q1 0), .int 0, .int 0, .int (nI ([] : List Int32).length)])), (q1 0, .inl (T 4, 16, .inl (lF [])))] := hD
  exact hret _ _ _ _ _ _ q1 (Nat.le_of_ble_eq_true rfl) (Nat.le_of_ble_eq_true rfl) dJ4_init_da8c8_6 hP hD hS
