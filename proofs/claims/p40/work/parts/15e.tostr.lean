/-! a text out of a builder -/
theorem min16 {n : Nat} (h : n ≤ 16) : (if nI n < (16 - 0 : Int32) then nI n else (16 - 0 : Int32)) = nI n := by
  have : ∀ n, n < 17 → (if nI n < (16 - 0 : Int32) then nI n else (16 - 0 : Int32)) = nI n := by decide +kernel
  exact this n (by omega)
theorem n16 {n : Nat} (h : n < 16) : ¬ nI n = 16 := by
  have : ∀ n, n < 16 → ¬ nI n = 16 := by decide +kernel
  exact this n h
theorem lF_cpy (l : List Int32) : va_cpy (lF l) (fun _ => 0) 0 0 l.length = lF l := by
  funext j
  by_cases h : j < l.length
  · rw [pk_cpy_in (by omega) (by omega), Nat.zero_add, Nat.sub_zero]
  · rw [pk_cpy_out (by omega), lF_get]
    simp [List.getD_eq_getElem?_getD, List.getElem?_eq_none (Nat.le_of_not_lt h)]
def q2f (a b : Nat) : Nat → Nat
  | 0 => a
  | _ => b
set_option maxHeartbeats 4000000 in
set_option maxRecDepth 100000 in
theorem kJ5_getValue_6d5f1 (l : Launch) (hnt : l.stackTraces = false) (D : va_G) (T : Nat → ClassId) (b w : Nat) (N : Int32) (F : Nat → Int32) (a v : Nat) (bs : List Int32) (sz : Nat) : LnR (JS [(b, .inr (8, [.ref w, .int 0, .int 0, .int N])), (w, .inl (T 4, 16, .inl F))] a v bs) l yJ5_getValue_6d5f1 cJ5_getValue_6d5f1 1 (.array .byte) ({ frames := 0, cells := 0, slots := 0, locals := 0 } : Room) D T sz [(b, .inr (8, [.ref w, .int 0, .int 0, .int N])), (w, .inl (T 4, 16, .inl F))] (fun _ => [(b, .inr (8, [.ref w, .int 0, .int 0, .int N])), (w, .inl (T 4, 16, .inl F))]) [.ref b]  (fun _ => w) := by
  refine lnMetR hnt (by decide +kernel) (Or.inr ⟨_, rfl⟩) rfl (fun p e s m args below meth c Q A hA0 C hE hA hZ hJ hP hD hS hret ls hl => ?_)
  subst hA0
  have hx := C.1
  have hb := C.2.1
  have hl : lv_has ls 1 [(0, .ref b)] := hl
  refine lv_aload_n hx hb dJ5_getValue_6d5f1_0 rfl (lv_at hl 0 rfl) ?_
  refine getF (q0 := 0) (k0 := 0) (v := .ref w) C hE hP inA8 rfl rfl (by decide) qFJ5_15 rfl rfl dJ5_getValue_6d5f1_1 ?_
  exact hret _ _ _ _ _ _ (fun _ => 0) (Nat.le_of_ble_eq_true rfl) (Nat.le_of_ble_eq_true rfl) dJ5_getValue_6d5f1_4 hP hD hS

set_option maxHeartbeats 4000000 in
set_option maxRecDepth 100000 in
theorem kJ5_length_8abf5 (l : Launch) (hnt : l.stackTraces = false) (D : va_G) (T : Nat → ClassId) (b w : Nat) (N : Int32) (F : Nat → Int32) (a v : Nat) (bs : List Int32) (sz : Nat) : LnI (JS [(b, .inr (8, [.ref w, .int 0, .int 0, .int N])), (w, .inl (T 4, 16, .inl F))] a v bs) l yJ5_length_8abf5 cJ5_length_8abf5 1 .int ({ frames := 0, cells := 0, slots := 0, locals := 0 } : Room) D T sz [(b, .inr (8, [.ref w, .int 0, .int 0, .int N])), (w, .inl (T 4, 16, .inl F))] [(b, .inr (8, [.ref w, .int 0, .int 0, .int N])), (w, .inl (T 4, 16, .inl F))] [.ref b]  N := by
  refine lnMet hnt (by decide +kernel) rfl (fun p e s m args below meth c Q A hA0 C hE hA hZ hJ hP hD hS hret ls hl => ?_)
  subst hA0
  have hx := C.1
  have hb := C.2.1
  have hl : lv_has ls 1 [(0, .ref b)] := hl
  refine lv_aload_n hx hb dJ5_length_8abf5_0 rfl (lv_at hl 0 rfl) ?_
  refine getF (q0 := 0) (k0 := 3) (v := .int N) C hE hP inA8 rfl rfl (by decide) qFJ5_79 rfl rfl dJ5_length_8abf5_1 ?_
  exact hret _ _ _ _ _ _ _ _ (Nat.le_of_ble_eq_true rfl) (Nat.le_of_ble_eq_true rfl) dJ5_length_8abf5_4 rfl rfl hP hS

set_option maxHeartbeats 4000000 in
set_option maxRecDepth 100000 in
theorem kJ4_length_8abf5 (l : Launch) (hnt : l.stackTraces = false) (D : va_G) (T : Nat → ClassId) (b w : Nat) (N : Int32) (F : Nat → Int32) (a v : Nat) (bs : List Int32) (sz : Nat) : LnI (JS [(b, .inr (8, [.ref w, .int 0, .int 0, .int N])), (w, .inl (T 4, 16, .inl F))] a v bs) l yJ4_length_8abf5 cJ4_length_8abf5 1 .int ({ frames := 1, cells := 0, slots := 0, locals := 20 } : Room) D T sz [(b, .inr (8, [.ref w, .int 0, .int 0, .int N])), (w, .inl (T 4, 16, .inl F))] [(b, .inr (8, [.ref w, .int 0, .int 0, .int N])), (w, .inl (T 4, 16, .inl F))] [.ref b]  N := by
  refine lnMet hnt (by decide +kernel) rfl (fun p e s m args below meth c Q A hA0 C hE hA hZ hJ hP hD hS hret ls hl => ?_)
  subst hA0
  have hx := C.1
  have hb := C.2.1
  have hl : lv_has ls 1 [(0, .ref b)] := hl
  refine lv_aload_n hx hb dJ4_length_8abf5_0 rfl (lv_at hl 0 rfl) ?_
  refine lnUi (ws1 := [(b, .inr (8, [.ref w, .int 0, .int 0, .int N])), (w, .inl (T 4, 16, .inl F))]) C hE hZ hP hD hS hA JS.bl (fun U hU hW => J9.use hJ hD hS hA (wc := [(b, .inr (8, [.ref w, .int 0, .int 0, .int N])), (w, .inl (T 4, 16, .inl F))]) [0, 1] rfl hU hW) (Cx := "java/lang/StringBuilder") (hE.1.1 8 _ rfl).2 (recvC hE hP (q0 := 0) (ci := 8) rfl rfl rfl) (kJ5_length_8abf5 l hZ.1 D T b w N F a v bs _) wJ5_length_8abf5 (by decide) qLJ4_343 qSmJ5_length_8abf5 qSuJ4 [0, 1] [] rfl rfl rfl rfl rfl rfl ⟨Nat.le_of_ble_eq_true rfl, Nat.le_of_ble_eq_true rfl⟩ rfl hl.1 rfl (Nat.le_of_ble_eq_true rfl) dJ4_length_8abf5_1 ⟨Nat.le_of_ble_eq_true rfl, Nat.le_of_ble_eq_true rfl⟩ (fun H locs hP hD hS => ?_)
  exact hret _ _ _ _ _ _ _ _ (Nat.le_of_ble_eq_true rfl) (Nat.le_of_ble_eq_true rfl) dJ4_length_8abf5_4 rfl rfl hP hS

set_option maxHeartbeats 4000000 in
theorem kJ7_checkLength_df160 (l : Launch) (n : Nat) (hn : n < 100) : PrV l yJ7_checkLength_df160 cJ7_checkLength_df160 2 ({ frames := 0, cells := 0, slots := 0, locals := 0 } : Room) (fun _ => True) [.int 0, .int (nI n)] := by
  refine prMetV (by decide +kernel) rfl (fun p e s m args below meth c Q C hJ hret ls hl => ?_)
  have hx := C.1
  have hb := C.2.1
  have hl : lv_has ls 2 [(0, .int 0), (1, .int (nI n))] := hl
  refine lv_iload_n hx hb dJ7_checkLength_df160_0 rfl (lv_at hl 1 rfl) ?_
  refine lv_iload_n hx hb dJ7_checkLength_df160_1 rfl (lv_at hl 0 rfl) ?_
  refine lv_icmp_ge (tgt := 37) hx hb dJ7_checkLength_df160_2 (by decide) (fun c1 => ?_) (fun c1 => absurd (Int32.not_lt.mp (nI_pos (n := n) (by omega))) c1)
  exact hret _ _ dJ7_checkLength_df160_37

set_option maxHeartbeats 4000000 in
set_option maxRecDepth 100000 in
theorem kJ7_copyOfRangeByte_39247 (l : Launch) (hnt : l.stackTraces = false) (D : va_G) (T : Nat → ClassId) (w : Nat) (b1 : List Int32) (a v : Nat) (bs : List Int32) (ok1 : okB b1 = true) (hn : b1.length < 16) (sz : Nat) : LnR (JS [(w, .inl (T 4, 16, .inl (lF b1)))] a v bs) l yJ7_copyOfRangeByte_39247 cJ7_copyOfRangeByte_39247 5 (.array .byte) ({ frames := 1, cells := 1, slots := 16, locals := 100 } : Room) D T sz [(w, .inl (T 4, 16, .inl (lF b1)))] (fun q => [(w, .inl (T 4, 16, .inl (lF b1))), (q 0, .inl (T 4, b1.length, .inl (lF b1)))]) [.ref w, .int 0, .int (nI b1.length)]  (fun q => q 0) := by
  refine lnMetR hnt (by decide +kernel) (Or.inr ⟨_, rfl⟩) rfl (fun p e s m args below meth c Q A hA0 C hE hA hZ hJ hP hD hS hret ls hl => ?_)
  subst hA0
  have hx := C.1
  have hb := C.2.1
  have hl : lv_has ls 5 [(0, .ref w), (1, .int 0), (2, .int (nI b1.length))] := hl
  have hlb : b1.length < 100 := okB_lt ok1
  refine lv_iload_n hx hb dJ7_copyOfRangeByte_39247_0 rfl (lv_at hl 1 rfl) ?_
  refine lv_iload_n hx hb dJ7_copyOfRangeByte_39247_1 rfl (lv_at hl 2 rfl) ?_
  refine prSV C tt_blind (fun U hU hW => trivial) (kJ7_checkLength_df160 l b1.length hlb) mJ7_checkLength_df160 qLJ7_343 ⟨rfl, rfl⟩ ⟨Nat.le_of_ble_eq_true rfl, Nat.le_of_ble_eq_true rfl⟩ rfl hl.1 rfl (Nat.le_of_ble_eq_true rfl) dJ7_copyOfRangeByte_39247_2 ⟨Nat.le_of_ble_eq_true rfl, Nat.le_of_ble_eq_true rfl⟩ ?_
  refine lv_iload_n hx hb dJ7_copyOfRangeByte_39247_5 rfl (lv_at hl 2 rfl) ?_
  refine lv_iload_n hx hb dJ7_copyOfRangeByte_39247_6 rfl (lv_at hl 1 rfl) ?_
  refine lv_isub hx hb dJ7_copyOfRangeByte_39247_7 ?_
  rw [show ((nI b1.length - 0) : Int32) = (nI b1.length) from Int32.sub_zero _]
  refine lv_istore_n (lv' := [(3, .int (nI b1.length)), (0, .ref w), (1, .int 0), (2, .int (nI b1.length))]) hx hb dJ7_copyOfRangeByte_39247_8 rfl hl (by decide) rfl (fun ls hl => ?_)
  refine lv_iload_n hx hb dJ7_copyOfRangeByte_39247_9 rfl (lv_at hl 0 rfl) ?_
  refine newA (N := b1.length) (atype := .byte) 4 (b1.length, .inl (fun _ => 0)) C hE hP hD hS hA qAB rfl rfl (fun _ => rfl) (nI_pos (by omega)) (nI_clamp (by omega)) (by show b1.length * 1 ≤ _; omega) (Nat.le_of_ble_eq_true rfl) (show 0 + b1.length ≤ 16 from by omega) dJ7_copyOfRangeByte_39247_10 (fun g H hP hD hS => ?_)
  have hP : va_P D kC [(w, .inl (T 4, 16, .inl (lF b1))), (g, .inl (T 4, b1.length, .inl (fun _ => 0)))] H := hP
  have hD : va_D _ [(w, .inl (T 4, 16, .inl (lF b1))), (g, .inl (T 4, b1.length, .inl (fun _ => 0)))] := hD
  refine W.widen (k := 1) (n := 16) (Nat.le_of_ble_eq_true rfl) (show 0 + b1.length ≤ 16 from by omega) ?_
  refine lv_astore (lv' := [(4, .ref g), (3, .int (nI b1.length)), (0, .ref w), (1, .int 0), (2, .int (nI b1.length))]) hx hb dJ7_copyOfRangeByte_39247_12 hl (by decide) rfl (fun ls hl => ?_)
  refine lv_aload_n hx hb dJ7_copyOfRangeByte_39247_14 rfl (lv_at hl 2 rfl) ?_
  refine lv_iload_n hx hb dJ7_copyOfRangeByte_39247_15 rfl (lv_at hl 3 rfl) ?_
  refine lv_aload hx hb dJ7_copyOfRangeByte_39247_16 (lv_at hl 0 rfl) ?_
  refine lv_iconst (v := 0) hx hb dJ7_copyOfRangeByte_39247_18 (by decide) ?_
  refine lv_aload_n hx hb dJ7_copyOfRangeByte_39247_19 rfl (lv_at hl 2 rfl) ?_
  refine alen (q0 := 0) (t0 := 4) (v := 16) C hE hP rfl rfl (by decide) dJ7_copyOfRangeByte_39247_20 ?_
  refine lv_iload_n hx hb dJ7_copyOfRangeByte_39247_21 rfl (lv_at hl 3 rfl) ?_
  refine lv_isub hx hb dJ7_copyOfRangeByte_39247_22 ?_
  refine lv_iload_n hx hb dJ7_copyOfRangeByte_39247_23 rfl (lv_at hl 1 rfl) ?_
  refine va_mmin hx hb (C.2.2.1.trans hl.1.symm) C.2.2.2.1 (C.2.2.2.2 _ qLJ7_304) (C.2.2.2.2 _ qMs_min) (C.2.2.2.2 _ qMi) (C.2.2.2.2 _ qMc_min) (Nat.le_of_ble_eq_true rfl) (Nat.le_of_ble_eq_true rfl) (Nat.le_of_ble_eq_true rfl) (Nat.le_of_ble_eq_true rfl) dJ7_copyOfRangeByte_39247_24 ?_
  rw [show (if nI b1.length < (16 - 0 : Int32) then nI b1.length else (16 - 0 : Int32)) = nI b1.length from min16 (by omega)]
  refine va_copyi hx hb (C.2.2.1.trans hl.1.symm) C.2.2.2.1 (C.2.2.2.2 _ qLJ7_150) (C.2.2.2.2 _ qNat) (C.2.2.2.2 _ qSta) (C.2.2.2.2 _ qSys) hE.1 hP hD hS 0 1 4 4 rfl rfl rfl rfl rfl (by decide) (by decide) (nI_pos (by omega)) (by rw [nI_clamp (by omega)]; show 0 + b1.length ≤ 16; omega) (by rw [nI_clamp (by omega)]; show 0 + b1.length ≤ b1.length; omega) (fun i hi => by rw [lF_get]; exact okB_fit ok1 _) (Nat.le_of_ble_eq_true rfl) (by decide +kernel) dJ7_copyOfRangeByte_39247_27 (fun H locs hP hD hS => ?_)
  rw [nI_clamp (n := b1.length) (by omega), show (0 : Int32).toNatClampNeg = 0 from rfl, lF_cpy] at hP
  have hP : va_P D kC [(w, .inl (T 4, 16, .inl (lF b1))), (g, .inl (T 4, b1.length, .inl (lF b1)))] H := hP
  have hD : va_D _ [(w, .inl (T 4, 16, .inl (lF b1))), (g, .inl (T 4, b1.length, .inl (lF b1)))] := addr_D hD rfl
  refine lv_aload hx hb dJ7_copyOfRangeByte_39247_30 (lv_at hl 0 rfl) ?_
  exact hret _ _ _ _ _ _ (fun _ => g) (Nat.le_of_ble_eq_true rfl) (Nat.le_of_ble_eq_true rfl) dJ7_copyOfRangeByte_39247_32 hP hD hS

set_option maxHeartbeats 4000000 in
set_option maxRecDepth 100000 in
theorem kJ7_copyOfRange_39247 (l : Launch) (hnt : l.stackTraces = false) (D : va_G) (T : Nat → ClassId) (w : Nat) (b1 : List Int32) (a v : Nat) (bs : List Int32) (ok1 : okB b1 = true) (hn : b1.length < 16) (sz : Nat) : LnR (JS [(w, .inl (T 4, 16, .inl (lF b1)))] a v bs) l yJ7_copyOfRange_39247 cJ7_copyOfRange_39247 3 (.array .byte) ({ frames := 2, cells := 1, slots := 16, locals := 124 } : Room) D T sz [(w, .inl (T 4, 16, .inl (lF b1)))] (fun q => [(w, .inl (T 4, 16, .inl (lF b1))), (q 0, .inl (T 4, b1.length, .inl (lF b1)))]) [.ref w, .int 0, .int (nI b1.length)]  (fun q => q 0) := by
  refine lnMetR hnt (by decide +kernel) (Or.inr ⟨_, rfl⟩) rfl (fun p e s m args below meth c Q A hA0 C hE hA hZ hJ hP hD hS hret ls hl => ?_)
  subst hA0
  have hx := C.1
  have hb := C.2.1
  have hl : lv_has ls 3 [(0, .ref w), (1, .int 0), (2, .int (nI b1.length))] := hl
  refine lv_iload_n hx hb dJ7_copyOfRange_39247_0 rfl (lv_at hl 1 rfl) ?_
  refine lv_if_ne (tgt := 10) hx hb dJ7_copyOfRange_39247_1 (by decide) (fun c1 => absurd rfl c1) (fun c1 => ?_)
  refine lv_iload_n hx hb dJ7_copyOfRange_39247_4 rfl (lv_at hl 2 rfl) ?_
  refine lv_aload_n hx hb dJ7_copyOfRange_39247_5 rfl (lv_at hl 0 rfl) ?_
  refine alen (q0 := 0) (t0 := 4) (v := 16) C hE hP rfl rfl (by decide) dJ7_copyOfRange_39247_6 ?_
  refine lv_icmp_eq (tgt := 17) hx hb dJ7_copyOfRange_39247_7 (by decide) (fun c1 => absurd c1 (n16 hn)) (fun c1 => ?_)
  refine lv_aload_n hx hb dJ7_copyOfRange_39247_10 rfl (lv_at hl 0 rfl) ?_
  refine lv_iload_n hx hb dJ7_copyOfRange_39247_11 rfl (lv_at hl 1 rfl) ?_
  refine lv_iload_n hx hb dJ7_copyOfRange_39247_12 rfl (lv_at hl 2 rfl) ?_
  refine lnSr (wr := []) C hE hZ hP hD hS hA JS.bl (fun U hU hW => J9.use hJ hD hS hA (wc := [(w, .inl (T 4, 16, .inl (lF b1)))]) [0] rfl hU hW) (kJ7_copyOfRangeByte_39247 l hZ.1 D T w b1 a v bs ok1 hn _) mJ7_copyOfRangeByte_39247 qLJ7_339 [0] [] rfl rfl rfl rfl rfl ⟨Nat.le_of_ble_eq_true rfl, Nat.le_of_ble_eq_true rfl⟩ rfl hl.1 rfl (Nat.le_of_ble_eq_true rfl) dJ7_copyOfRange_39247_13 ⟨Nat.le_of_ble_eq_true rfl, Nat.le_of_ble_eq_true rfl⟩ (fun q1 H locs hP hD hS => ?_)
  have hP : va_P D kC [(w, .inl (T 4, 16, .inl (lF b1))), ((q1 0), .inl (T 4, b1.length, .inl (lF b1)))] H := hP
  have hD : va_D _ [(w, .inl (T 4, 16, .inl (lF b1))), ((q1 0), .inl (T 4, b1.length, .inl (lF b1)))] := hD
  exact hret _ _ _ _ _ _ q1 (Nat.le_of_ble_eq_true rfl) (Nat.le_of_ble_eq_true rfl) dJ7_copyOfRange_39247_16 hP hD hS

set_option maxHeartbeats 4000000 in
set_option maxRecDepth 100000 in
theorem kJ0_init_db425 (l : Launch) (hnt : l.stackTraces = false) (D : va_G) (T : Nat → ClassId) (st b w : Nat) (b1 : List Int32) (a v : Nat) (bs : List Int32) (ok1 : okB b1 = true) (hn : b1.length < 16) (sz : Nat) : LnC (JS [(st, .inr (9, [.null, .int 0, .int 0, .int 0])), (b, .inr (8, [.ref w, .int 0, .int 0, .int (nI b1.length)])), (w, .inl (T 4, 16, .inl (lF b1)))] a v bs) l yJ0_init_db425 cJ0_init_db425 5  ({ frames := 3, cells := 1, slots := 16, locals := 146 } : Room) D T sz [(st, .inr (9, [.null, .int 0, .int 0, .int 0])), (b, .inr (8, [.ref w, .int 0, .int 0, .int (nI b1.length)])), (w, .inl (T 4, 16, .inl (lF b1)))] (fun q => [(st, .inr (9, [.ref (q 0), .int 0, .int 0, .int 0])), (b, .inr (8, [.ref w, .int 0, .int 0, .int (nI b1.length)])), (w, .inl (T 4, 16, .inl (lF b1))), (q 0, .inl (T 4, b1.length, .inl (lF b1)))]) [.ref st, .ref b, .null] := by
  refine lnMetC hnt (by decide +kernel) rfl rfl (fun p e s m args below meth c Q A hA0 C hE hA hZ hJ hin hP hD hS hret ls hl => ?_)
  subst hA0
  have hx := C.1
  have hb := C.2.1
  have hl : lv_has ls 5 [(0, .ref st), (1, .ref b), (2, .null)] := hl
  refine lv_aload_n hx hb dJ0_init_db425_0 rfl (lv_at hl 0 rfl) ?_
  refine W.objInit C.1 C.2.1 C.2.2.2.1 (C.2.2.2.2 _ qLJ0_1) (C.2.2.2.2 _ qOi) (C.2.2.2.2 _ qOc) rfl (hl.1.trans C.2.2.1.symm) rfl dJ0_init_db425_1 (Nat.le_of_ble_eq_true rfl) (Nat.le_of_ble_eq_true rfl) ?_
  refine W.eq (g2 := F0 m 4 ls []) rfl ?_
  refine lv_aload_n hx hb dJ0_init_db425_4 rfl (lv_at hl 1 rfl) ?_
  refine lnVr (wr := [(st, .inr (9, [.null, .int 0, .int 0, .int 0]))]) C hE hZ hP hD hS hA JS.bl (fun U hU hW => J9.use hJ hD hS hA (wc := [(b, .inr (8, [.ref w, .int 0, .int 0, .int (nI b1.length)])), (w, .inl (T 4, 16, .inl (lF b1)))]) [1, 2] rfl hU hW) (recvC hE hP (q0 := 1) (ci := 8) rfl rfl rfl) (kJ5_getValue_6d5f1 l hZ.1 D T b w (nI b1.length) (lF b1) a v bs _) wJ5_getValue_6d5f1 (C.2.2.2.2 _ qSelJ5_getValue_6d5f1) qLJ0_552 [1, 2] [0] rfl rfl rfl rfl rfl ⟨Nat.le_of_ble_eq_true rfl, Nat.le_of_ble_eq_true rfl⟩ rfl hl.1 rfl (Nat.le_of_ble_eq_true rfl) dJ0_init_db425_5 ⟨Nat.le_of_ble_eq_true rfl, Nat.le_of_ble_eq_true rfl⟩ (fun q1 H locs hP hD hS => ?_)
  have hP : va_P D kC [(st, .inr (9, [.null, .int 0, .int 0, .int 0])), (b, .inr (8, [.ref w, .int 0, .int 0, .int (nI b1.length)])), (w, .inl (T 4, 16, .inl (lF b1)))] H := hP
  have hD : va_D _ [(st, .inr (9, [.null, .int 0, .int 0, .int 0])), (b, .inr (8, [.ref w, .int 0, .int 0, .int (nI b1.length)])), (w, .inl (T 4, 16, .inl (lF b1)))] := hD
  refine lv_astore_n (lv' := [(3, .ref w), (0, .ref st), (1, .ref b), (2, .null)]) hx hb dJ0_init_db425_8 rfl hl (by decide) rfl (fun ls hl => ?_)
  refine lv_aload_n hx hb dJ0_init_db425_9 rfl (lv_at hl 2 rfl) ?_
  refine lnOi (ws1 := [(st, .inr (9, [.null, .int 0, .int 0, .int 0])), (b, .inr (8, [.ref w, .int 0, .int 0, .int (nI b1.length)])), (w, .inl (T 4, 16, .inl (lF b1)))]) C hE hZ hP hD hS hA JS.bl (fun U hU hW => J9.use hJ hD hS hA (wc := [(b, .inr (8, [.ref w, .int 0, .int 0, .int (nI b1.length)])), (w, .inl (T 4, 16, .inl (lF b1)))]) [1, 2] rfl hU hW) (recvC hE hP (q0 := 1) (ci := 8) rfl rfl rfl) (kJ4_length_8abf5 l hZ.1 D T b w (nI b1.length) (lF b1) a v bs _) wJ4_length_8abf5 wJ5_length_8abf5 qLJ0_549 qSmJ5_length_8abf5 qSeoJ4_length_8abf5 [1, 2] [0] rfl rfl rfl rfl rfl rfl ⟨Nat.le_of_ble_eq_true rfl, Nat.le_of_ble_eq_true rfl⟩ rfl hl.1 rfl (Nat.le_of_ble_eq_true rfl) dJ0_init_db425_10 ⟨Nat.le_of_ble_eq_true rfl, Nat.le_of_ble_eq_true rfl⟩ (fun H locs hP hD hS => ?_)
  refine lv_istore (lv' := [(4, .int (nI b1.length)), (3, .ref w), (0, .ref st), (1, .ref b), (2, .null)]) hx hb dJ0_init_db425_13 hl (by decide) rfl (fun ls hl => ?_)
  refine lv_aload_n hx hb dJ0_init_db425_15 rfl (lv_at hl 3 rfl) ?_
  refine lnVi (ws1 := [(st, .inr (9, [.null, .int 0, .int 0, .int 0])), (b, .inr (8, [.ref w, .int 0, .int 0, .int (nI b1.length)])), (w, .inl (T 4, 16, .inl (lF b1)))]) C hE hZ hP hD hS hA JS.bl (fun U hU hW => J9.use hJ hD hS hA (wc := [(b, .inr (8, [.ref w, .int 0, .int 0, .int (nI b1.length)])), (w, .inl (T 4, 16, .inl (lF b1)))]) [1, 2] rfl hU hW) (recvC hE hP (q0 := 1) (ci := 8) rfl rfl rfl) (kJ5_isLatin1_aae02 l hZ.1 D T b w (nI b1.length) (lF b1) a v bs _) wJ5_isLatin1_aae02 (C.2.2.2.2 _ qSelJ5_isLatin1_aae02) qLJ0_1047 [1, 2] [0] rfl rfl rfl rfl rfl rfl ⟨Nat.le_of_ble_eq_true rfl, Nat.le_of_ble_eq_true rfl⟩ rfl hl.1 rfl (Nat.le_of_ble_eq_true rfl) dJ0_init_db425_16 ⟨Nat.le_of_ble_eq_true rfl, Nat.le_of_ble_eq_true rfl⟩ (fun H locs hP hD hS => ?_)
  refine lv_if_eq (tgt := 41) hx hb dJ0_init_db425_19 (by decide) (fun c1 => absurd c1 (by decide)) (fun c1 => ?_)
  refine lv_aload_n hx hb dJ0_init_db425_22 rfl (lv_at hl 2 rfl) ?_
  refine lv_iconst (v := 0) hx hb dJ0_init_db425_23 (by decide) ?_
  refine putFin (q0 := 0) (k0 := 1) (ws1 := [(st, .inr (9, [.null, .int 0, .int 0, .int 0])), (b, .inr (8, [.ref w, .int 0, .int 0, .int (nI b1.length)])), (w, .inl (T 4, 16, .inl (lF b1)))]) C hE hP hD hS hin inA9 tyJ0_ok nmJ0 rfl rfl (by decide) qFJ0_15 rfl rfl rfl rfl rfl (Nat.le_of_ble_eq_true rfl) rfl dJ0_init_db425_24 (fun H locs hP hD hS => ?_)
  refine lv_aload_n hx hb dJ0_init_db425_27 rfl (lv_at hl 2 rfl) ?_
  refine lv_aload_n hx hb dJ0_init_db425_28 rfl (lv_at hl 1 rfl) ?_
  refine lv_iconst (v := 0) hx hb dJ0_init_db425_29 (by decide) ?_
  refine lv_iload hx hb dJ0_init_db425_30 (lv_at hl 0 rfl) ?_
  refine lnSr (wr := [(st, .inr (9, [.null, .int 0, .int 0, .int 0])), (b, .inr (8, [.ref w, .int 0, .int 0, .int (nI b1.length)]))]) C hE hZ hP hD hS hA JS.bl (fun U hU hW => J9.use hJ hD hS hA (wc := [(w, .inl (T 4, 16, .inl (lF b1)))]) [2] rfl hU hW) (kJ7_copyOfRange_39247 l hZ.1 D T w b1 a v bs ok1 hn _) mJ7_copyOfRange_39247 qLJ0_54 [2] [0, 1] rfl rfl rfl rfl rfl ⟨Nat.le_of_ble_eq_true rfl, Nat.le_of_ble_eq_true rfl⟩ rfl hl.1 rfl (Nat.le_of_ble_eq_true rfl) dJ0_init_db425_32 ⟨Nat.le_of_ble_eq_true rfl, Nat.le_of_ble_eq_true rfl⟩ (fun q2 H locs hP hD hS => ?_)
  have hP : va_P D kC [(st, .inr (9, [.null, .int 0, .int 0, .int 0])), (b, .inr (8, [.ref w, .int 0, .int 0, .int (nI b1.length)])), (w, .inl (T 4, 16, .inl (lF b1))), ((q2 0), .inl (T 4, b1.length, .inl (lF b1)))] H := hP
  have hD : va_D _ [(st, .inr (9, [.null, .int 0, .int 0, .int 0])), (b, .inr (8, [.ref w, .int 0, .int 0, .int (nI b1.length)])), (w, .inl (T 4, 16, .inl (lF b1))), ((q2 0), .inl (T 4, b1.length, .inl (lF b1)))] := hD
  refine W.widen (k := 1) (n := 16) (Nat.le_of_ble_eq_true rfl) (Nat.le_of_ble_eq_true rfl) ?_
  refine putFin (q0 := 0) (k0 := 0) (ws1 := [(st, .inr (9, [.ref (q2 0), .int 0, .int 0, .int 0])), (b, .inr (8, [.ref w, .int 0, .int 0, .int (nI b1.length)])), (w, .inl (T 4, 16, .inl (lF b1))), ((q2 0), .inl (T 4, b1.length, .inl (lF b1)))]) C hE hP hD hS hin inA9 tyJ0_ok nmJ0 rfl rfl (by decide) qFJ0_9 rfl rfl rfl rfl rfl (Nat.le_of_ble_eq_true rfl) rfl dJ0_init_db425_35 (fun H locs hP hD hS => ?_)
  refine lv_goto (tgt := 97) hx hb dJ0_init_db425_38 (by decide) ?_
  exact hret _ _ _ _ _ _ q2 (Nat.le_of_ble_eq_true rfl) (Nat.le_of_ble_eq_true rfl) dJ0_init_db425_97 hP (addr_D hD rfl) hS

set_option maxHeartbeats 4000000 in
set_option maxRecDepth 100000 in
theorem kJ0_init_81219 (l : Launch) (hnt : l.stackTraces = false) (D : va_G) (T : Nat → ClassId) (st b w : Nat) (b1 : List Int32) (a v : Nat) (bs : List Int32) (ok1 : okB b1 = true) (hn : b1.length < 16) (sz : Nat) : LnC (JS [(st, .inr (9, [.null, .int 0, .int 0, .int 0])), (b, .inr (8, [.ref w, .int 0, .int 0, .int (nI b1.length)])), (w, .inl (T 4, 16, .inl (lF b1)))] a v bs) l yJ0_init_81219 cJ0_init_81219 2  ({ frames := 4, cells := 1, slots := 16, locals := 170 } : Room) D T sz [(st, .inr (9, [.null, .int 0, .int 0, .int 0])), (b, .inr (8, [.ref w, .int 0, .int 0, .int (nI b1.length)])), (w, .inl (T 4, 16, .inl (lF b1)))] (fun q => [(st, .inr (9, [.ref (q 0), .int 0, .int 0, .int 0])), (b, .inr (8, [.ref w, .int 0, .int 0, .int (nI b1.length)])), (w, .inl (T 4, 16, .inl (lF b1))), (q 0, .inl (T 4, b1.length, .inl (lF b1)))]) [.ref st, .ref b] := by
  refine lnMetC hnt (by decide +kernel) rfl rfl (fun p e s m args below meth c Q A hA0 C hE hA hZ hJ hin hP hD hS hret ls hl => ?_)
  subst hA0
  have hx := C.1
  have hb := C.2.1
  have hl : lv_has ls 2 [(0, .ref st), (1, .ref b)] := hl
  refine lv_aload_n hx hb dJ0_init_81219_0 rfl (lv_at hl 0 rfl) ?_
  refine lv_aload_n hx hb dJ0_init_81219_1 rfl (lv_at hl 1 rfl) ?_
  refine lv_null hx hb dJ0_init_81219_2 ?_
  refine lnIc (wr := []) C hE hZ hP hD hS hA JS.bl (fun U hU hW => J9.use hJ hD hS hA (wc := [(st, .inr (9, [.null, .int 0, .int 0, .int 0])), (b, .inr (8, [.ref w, .int 0, .int 0, .int (nI b1.length)])), (w, .inl (T 4, 16, .inl (lF b1)))]) [0, 1, 2] rfl hU hW) (kJ0_init_db425 l hZ.1 D T st b w b1 a v bs ok1 hn _) mJ0_init_db425 qLJ0_489 [0, 1, 2] [] rfl rfl rfl rfl rfl ⟨Nat.le_of_ble_eq_true rfl, Nat.le_of_ble_eq_true rfl⟩ rfl hl.1 rfl (Nat.le_of_ble_eq_true rfl) dJ0_init_81219_3 ⟨Nat.le_of_ble_eq_true rfl, Nat.le_of_ble_eq_true rfl⟩ (fun q1 H locs hP hD hS => ?_)
  have hP : va_P D kC [(st, .inr (9, [.ref (q1 0), .int 0, .int 0, .int 0])), (b, .inr (8, [.ref w, .int 0, .int 0, .int (nI b1.length)])), (w, .inl (T 4, 16, .inl (lF b1))), ((q1 0), .inl (T 4, b1.length, .inl (lF b1)))] H := hP
  have hD : va_D _ [(st, .inr (9, [.ref (q1 0), .int 0, .int 0, .int 0])), (b, .inr (8, [.ref w, .int 0, .int 0, .int (nI b1.length)])), (w, .inl (T 4, 16, .inl (lF b1))), ((q1 0), .inl (T 4, b1.length, .inl (lF b1)))] := hD
  exact hret _ _ _ _ _ _ q1 (Nat.le_of_ble_eq_true rfl) (Nat.le_of_ble_eq_true rfl) dJ0_init_81219_6 hP hD hS

set_option maxHeartbeats 4000000 in
set_option maxRecDepth 100000 in
theorem kJ4_toString_0e30d (l : Launch) (hnt : l.stackTraces = false) (D : va_G) (T : Nat → ClassId) (b w : Nat) (b1 : List Int32) (a v : Nat) (bs : List Int32) (ok1 : okB b1 = true) (hn : b1.length < 16) (sz : Nat) : LnR (JS [(b, .inr (8, [.ref w, .int 0, .int 0, .int (nI b1.length)])), (w, .inl (T 4, 16, .inl (lF b1)))] a v bs) l yJ4_toString_0e30d cJ4_toString_0e30d 1 (.object "java/lang/String") ({ frames := 5, cells := 2, slots := 20, locals := 191 } : Room) D T sz [(b, .inr (8, [.ref w, .int 0, .int 0, .int (nI b1.length)])), (w, .inl (T 4, 16, .inl (lF b1)))] (fun q => [(b, .inr (8, [.ref w, .int 0, .int 0, .int (nI b1.length)])), (w, .inl (T 4, 16, .inl (lF b1))), (q 0, .inr (9, [.ref (q 1), .int 0, .int 0, .int 0])), (q 1, .inl (T 4, b1.length, .inl (lF b1)))]) [.ref b]  (fun q => q 0) := by
  refine lnMetR hnt (by decide +kernel) (Or.inl ⟨_, rfl⟩) rfl (fun p e s m args below meth c Q A hA0 C hE hA hZ hJ hP hD hS hret ls hl => ?_)
  subst hA0
  have hx := C.1
  have hb := C.2.1
  have hl : lv_has ls 1 [(0, .ref b)] := hl
  refine newO (ci := 9) (fs := [.null, .int 0, .int 0, .int 0]) C hE hP hD hS hA inA9 tyJ0_ok qCJ4_18 qNJ0 qIJ0 rfl rfl (Nat.le_of_ble_eq_true rfl) (Nat.le_of_ble_eq_true rfl) dJ4_toString_0e30d_0 (fun st H hP hD hS => ?_)
  have hP : va_P D kC [(b, .inr (8, [.ref w, .int 0, .int 0, .int (nI b1.length)])), (w, .inl (T 4, 16, .inl (lF b1))), (st, .inr (9, [.null, .int 0, .int 0, .int 0]))] H := hP
  have hD : va_D _ [(b, .inr (8, [.ref w, .int 0, .int 0, .int (nI b1.length)])), (w, .inl (T 4, 16, .inl (lF b1))), (st, .inr (9, [.null, .int 0, .int 0, .int 0]))] := hD
  refine W.widen (k := 1) (n := 4) (Nat.le_of_ble_eq_true rfl) (Nat.le_of_ble_eq_true rfl) ?_
  refine lv_dup hx hb dJ4_toString_0e30d_3 rfl ?_
  refine lv_aload_n hx hb dJ4_toString_0e30d_4 rfl (lv_at hl 0 rfl) ?_
  refine lnIc (wr := []) C hE hZ hP hD hS hA JS.bl (fun U hU hW => J9.use hJ hD hS hA (wc := [(st, .inr (9, [.null, .int 0, .int 0, .int 0])), (b, .inr (8, [.ref w, .int 0, .int 0, .int (nI b1.length)])), (w, .inl (T 4, 16, .inl (lF b1)))]) [2, 0, 1] rfl hU hW) (kJ0_init_81219 l hZ.1 D T st b w b1 a v bs ok1 hn _) mJ0_init_81219 qLJ4_137 [2, 0, 1] [] rfl rfl rfl rfl rfl ⟨Nat.le_of_ble_eq_true rfl, Nat.le_of_ble_eq_true rfl⟩ rfl hl.1 rfl (Nat.le_of_ble_eq_true rfl) dJ4_toString_0e30d_5 ⟨Nat.le_of_ble_eq_true rfl, Nat.le_of_ble_eq_true rfl⟩ (fun q1 H locs hP hD hS => ?_)
  have hP : va_P D kC [(st, .inr (9, [.ref (q1 0), .int 0, .int 0, .int 0])), (b, .inr (8, [.ref w, .int 0, .int 0, .int (nI b1.length)])), (w, .inl (T 4, 16, .inl (lF b1))), ((q1 0), .inl (T 4, b1.length, .inl (lF b1)))] H := hP
  have hD : va_D _ [(st, .inr (9, [.ref (q1 0), .int 0, .int 0, .int 0])), (b, .inr (8, [.ref w, .int 0, .int 0, .int (nI b1.length)])), (w, .inl (T 4, 16, .inl (lF b1))), ((q1 0), .inl (T 4, b1.length, .inl (lF b1)))] := hD
  exact hret _ _ _ _ _ _ (q2f st (q1 0)) (Nat.le_of_ble_eq_true rfl) (Nat.le_of_ble_eq_true rfl) dJ4_toString_0e30d_8 (hP.sub [1, 2, 0, 3] rfl) (hD.sub [1, 2, 0, 3] (by decide) rfl) hS
