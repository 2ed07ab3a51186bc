def fX4_spreadFrom_60 (v_ro : Nat → Int32) (rec5 : Int32 → Int32 → Int32 → Int32 → (Nat → Int32) → Option (Int32 × (Nat → Int32))) (l1 : Int32) (l2 : Int32) (l3 : Int32) (l4 : Int32) (v_rs : Nat → Int32) : Option (Int32 × (Nat → Int32)) :=
  rec5 l1 l2 l3 (l4 + 1) v_rs
def fX4_spreadFrom_5 (v_ro : Nat → Int32) : Nat → Int32 → Int32 → Int32 → Int32 → (Nat → Int32) → Option (Int32 × (Nat → Int32))
  | 0, _, _, _, _, _ => none
  | k + 1, l1, l2, l3, l4, v_rs =>
    if 4 ≤ l4 then
      some ((l3 &&& 1), v_rs)
    else
      if (fX7_isCell (fX7_nextCell l1 l4)) = 0 then
        fX4_spreadFrom_60 v_ro (fX4_spreadFrom_5 v_ro k) l1 l2 l3 l4 v_rs
      else
        if vin (fX7_nextCell l1 l4) 45 = true then
        if (v_ro (fX7_nextCell l1 l4).toNatClampNeg) = 0 then
          fX4_spreadFrom_60 v_ro (fX4_spreadFrom_5 v_ro k) l1 l2 l3 l4 v_rs
        else
          if vin (fX7_nextCell l1 l4) 45 = true then
          if (v_rs (fX7_nextCell l1 l4).toNatClampNeg) = 1000 then
            if vin (fX7_nextCell l1 l4) 45 = true then
            fX4_spreadFrom_60 v_ro (fX4_spreadFrom_5 v_ro k) l1 l2 1 l4 (upd v_rs (fX7_nextCell l1 l4).toNatClampNeg l2)
            else none
          else
            fX4_spreadFrom_60 v_ro (fX4_spreadFrom_5 v_ro k) l1 l2 l3 l4 v_rs
          else none
        else none
def fX4_spreadFrom (v_rs : Nat → Int32) (v_ro : Nat → Int32) (p0 : Int32) (p1 : Int32) : Option (Int32 × (Nat → Int32)) :=
  fX4_spreadFrom_5 v_ro 64 p0 p1 0 0 v_rs
set_option maxHeartbeats 4000000 in
set_option maxRecDepth 100000 in
theorem lX4_spreadFrom_60 {p : Program} {l : Launch} {e : Env} {s : State} {m : MethodId} {args : Array Value} {below : List Frame} {meth : Method} {c : Code} {Q : State → Prop} {D : va_G} {T : Nat → ClassId} {a_r a_g a_rs a_rl a_ro : Nat} {v_ro : Nat → Int32} {A : Nat → Prop} {r : Int32 × (Nat → Int32)} (C : CallFix p m c cX4_spreadFrom 6 s args aw RX4) (hE : eK D T s) (hA : ∀ q : Nat, s.heap.size ≤ q → A q) (hret : WrRet p l e ({ frames := 2, cells := 0, slots := 0, locals := 44 } : Room) s m args below meth c Q cX4_spreadFrom .boolean D A [(a_r, .inr (4, [.ref a_g, .ref a_rs, .ref a_rl, .ref a_ro])), (a_rs, .inl (T 0, 45, .inl r.2)), (a_ro, .inl (T 1, 45, .inl v_ro))] r.1) {rec5 : Int32 → Int32 → Int32 → Int32 → (Nat → Int32) → Option (Int32 × (Nat → Int32))} (hrec5 : ∀ (l1 : Int32) (l2 : Int32) (l3 : Int32) (l4 : Int32) (v_rs : Nat → Int32) {H : Heap} {locs : List Loc} (hPD : va_PD D A [(a_r, .inr (4, [.ref a_g, .ref a_rs, .ref a_rl, .ref a_ro])), (a_rs, .inl (T 0, 45, .inl v_rs)), (a_ro, .inl (T 1, 45, .inl v_ro))] H) (hS : va_S A s.heap H locs) (ls : Array Slot) (hl : lv_has ls 6 [(0, .ref a_r), (1, .int l1), (2, .int l2), (3, .int l3), (4, .int l4)]) (h : rec5 l1 l2 l3 l4 v_rs = some r), W p l e ({ frames := 2, cells := 0, slots := 0, locals := 44 } : Room) s m args below meth c H locs 0 0 Q (F0 m 5 ls [])) (l1 : Int32) (l2 : Int32) (l3 : Int32) (l4 : Int32) (v_rs : Nat → Int32) {H : Heap} {locs : List Loc} (hPD : va_PD D A [(a_r, .inr (4, [.ref a_g, .ref a_rs, .ref a_rl, .ref a_ro])), (a_rs, .inl (T 0, 45, .inl v_rs)), (a_ro, .inl (T 1, 45, .inl v_ro))] H) (hS : va_S A s.heap H locs) (ls : Array Slot) (hl : lv_has ls 6 [(0, .ref a_r), (1, .int l1), (2, .int l2), (3, .int l3), (4, .int l4)]) (h : fX4_spreadFrom_60 v_ro rec5 l1 l2 l3 l4 v_rs = some r) : W p l e ({ frames := 2, cells := 0, slots := 0, locals := 44 } : Room) s m args below meth c H locs 0 0 Q (F0 m 60 ls []) := by
  have hx := C.1
  have hb := C.2.1
  obtain ⟨hP, hD⟩ := hPD
  unfold fX4_spreadFrom_60 at h
  refine lv_iinc (v := (l4 + 1)) (lv' := [(4, .int (l4 + 1)), (0, .ref a_r), (1, .int l1), (2, .int l2), (3, .int l3)]) hx hb dX4_spreadFrom_60 hl (k := 4) rfl rfl (by decide) rfl (fun ls hl => ?_)
  refine lv_goto (tgt := 5) hx hb dX4_spreadFrom_63 (by decide) ?_
  exact hrec5 l1 l2 l3 (l4 + 1) v_rs ⟨hP, hD⟩ hS _ (lv_sub hl [1, 2, 3, 4, 0] rfl) h
set_option maxHeartbeats 4000000 in
set_option maxRecDepth 100000 in
theorem lX4_spreadFrom_5 {p : Program} {l : Launch} {e : Env} {s : State} {m : MethodId} {args : Array Value} {below : List Frame} {meth : Method} {c : Code} {Q : State → Prop} {D : va_G} {T : Nat → ClassId} {a_r a_g a_rs a_rl a_ro : Nat} {v_ro : Nat → Int32} {A : Nat → Prop} {r : Int32 × (Nat → Int32)} (C : CallFix p m c cX4_spreadFrom 6 s args aw RX4) (hE : eK D T s) (hA : ∀ q : Nat, s.heap.size ≤ q → A q) (hret : WrRet p l e ({ frames := 2, cells := 0, slots := 0, locals := 44 } : Room) s m args below meth c Q cX4_spreadFrom .boolean D A [(a_r, .inr (4, [.ref a_g, .ref a_rs, .ref a_rl, .ref a_ro])), (a_rs, .inl (T 0, 45, .inl r.2)), (a_ro, .inl (T 1, 45, .inl v_ro))] r.1) : ∀ (k : Nat) (l1 : Int32) (l2 : Int32) (l3 : Int32) (l4 : Int32) (v_rs : Nat → Int32) {H : Heap} {locs : List Loc} (hPD : va_PD D A [(a_r, .inr (4, [.ref a_g, .ref a_rs, .ref a_rl, .ref a_ro])), (a_rs, .inl (T 0, 45, .inl v_rs)), (a_ro, .inl (T 1, 45, .inl v_ro))] H) (hS : va_S A s.heap H locs) (ls : Array Slot) (hl : lv_has ls 6 [(0, .ref a_r), (1, .int l1), (2, .int l2), (3, .int l3), (4, .int l4)]) (h : fX4_spreadFrom_5 v_ro k l1 l2 l3 l4 v_rs = some r), W p l e ({ frames := 2, cells := 0, slots := 0, locals := 44 } : Room) s m args below meth c H locs 0 0 Q (F0 m 5 ls []) := by
  have hx := C.1
  have hb := C.2.1
  intro k
  induction k with
  | zero =>
    intro l1 l2 l3 l4 v_rs H locs hPD hS ls hl h
    exact nomatch (show (none : Option (Int32 × (Nat → Int32))) = some r from h)
  | succ k ih =>
    intro l1 l2 l3 l4 v_rs H locs hPD hS ls hl h
    obtain ⟨hP, hD⟩ := hPD
    rw [fX4_spreadFrom_5] at h
    refine lv_iload hx hb dX4_spreadFrom_5 (lv_at hl 4 rfl) ?_
    refine lv_iconst (v := 4) hx hb dX4_spreadFrom_7 (by decide) ?_
    refine lv_icmp_ge (tgt := 66) hx hb dX4_spreadFrom_8 (by decide) (fun c1 => ?_) (fun c1 => ?_)
    · replace h := ite_t c1 h
      refine lv_iload_n hx hb dX4_spreadFrom_66 rfl (lv_at hl 3 rfl) ?_
      replace h := Option.some.inj h
      exact hret _ _ _ _ _ _ dX4_spreadFrom_67 rfl (by rw [← h] <;> rfl) (by rw [← h]; exact hP) hS
    · replace h := ite_f c1 h
      refine lv_iload_n hx hb dX4_spreadFrom_11 rfl (lv_at hl 1 rfl) ?_
      refine lv_iload hx hb dX4_spreadFrom_12 (lv_at hl 4 rfl) ?_
      refine rdSN C hE hP (kX7_nextCell l D T l1 l4) mX7_nextCell (by decide +kernel) [] rfl ⟨rfl, rfl⟩ ⟨Nat.le_of_ble_eq_true rfl, Nat.le_of_ble_eq_true rfl⟩ rfl hl.1 rfl (Nat.le_of_ble_eq_true rfl) dX4_spreadFrom_14 ⟨Nat.le_of_ble_eq_true rfl, Nat.le_of_ble_eq_true rfl⟩ ?_
      refine lv_istore (lv' := [(5, .int (fX7_nextCell l1 l4)), (0, .ref a_r), (1, .int l1), (2, .int l2), (3, .int l3), (4, .int l4)]) hx hb dX4_spreadFrom_17 hl (by decide) rfl (fun ls hl => ?_)
      refine lv_iload hx hb dX4_spreadFrom_19 (lv_at hl 0 rfl) ?_
      refine rdSN C hE hP (kX7_isCell l D T (fX7_nextCell l1 l4)) mX7_isCell (by decide +kernel) [] rfl ⟨rfl, rfl⟩ ⟨Nat.le_of_ble_eq_true rfl, Nat.le_of_ble_eq_true rfl⟩ rfl hl.1 rfl (Nat.le_of_ble_eq_true rfl) dX4_spreadFrom_21 ⟨Nat.le_of_ble_eq_true rfl, Nat.le_of_ble_eq_true rfl⟩ ?_
      refine lv_if_eq (tgt := 60) hx hb dX4_spreadFrom_24 (by decide) (fun c2 => ?_) (fun c2 => ?_)
      · replace h := ite_t c2 h
        exact lX4_spreadFrom_60 C hE hA hret ih l1 l2 l3 l4 v_rs ⟨hP, hD⟩ hS _ (lv_sub hl [1, 2, 3, 4, 5] rfl) h
      · replace h := ite_f c2 h
        refine lv_aload_n hx hb dX4_spreadFrom_27 rfl (lv_at hl 1 rfl) ?_
        refine getF (q0 := 0) (k0 := 3) (v := .ref a_ro) C hE hP inA4 rfl rfl (by decide) qFX4_18 rfl rfl dX4_spreadFrom_28 ?_
        refine lv_iload hx hb dX4_spreadFrom_31 (lv_at hl 0 rfl) ?_
        replace h := gd h; obtain ⟨g3, h⟩ := h
        refine aldZ (q0 := 2) C hE hP rfl g3 dX4_spreadFrom_33 ?_
        refine lv_if_eq (tgt := 60) hx hb dX4_spreadFrom_34 (by decide) (fun c4 => ?_) (fun c4 => ?_)
        · replace h := ite_t c4 h
          exact lX4_spreadFrom_60 C hE hA hret ih l1 l2 l3 l4 v_rs ⟨hP, hD⟩ hS _ (lv_sub hl [1, 2, 3, 4, 5] rfl) h
        · replace h := ite_f c4 h
          refine lv_aload_n hx hb dX4_spreadFrom_37 rfl (lv_at hl 1 rfl) ?_
          refine getF (q0 := 0) (k0 := 1) (v := .ref a_rs) C hE hP inA4 rfl rfl (by decide) qFX4_9 rfl rfl dX4_spreadFrom_38 ?_
          refine lv_iload hx hb dX4_spreadFrom_41 (lv_at hl 0 rfl) ?_
          replace h := gd h; obtain ⟨g5, h⟩ := h
          refine aldI (q0 := 1) C hE hP rfl g5 dX4_spreadFrom_43 ?_
          refine lv_sipush (v := 1000) hx hb dX4_spreadFrom_44 (by decide) ?_
          refine lv_icmp_ne (tgt := 60) hx hb dX4_spreadFrom_47 (by decide) (fun c6 => ?_) (fun c6 => ?_)
          · replace h := ite_f c6 h
            exact lX4_spreadFrom_60 C hE hA hret ih l1 l2 l3 l4 v_rs ⟨hP, hD⟩ hS _ (lv_sub hl [1, 2, 3, 4, 5] rfl) h
          · replace h := ite_t c6 h
            refine lv_aload_n hx hb dX4_spreadFrom_50 rfl (lv_at hl 1 rfl) ?_
            refine getF (q0 := 0) (k0 := 1) (v := .ref a_rs) C hE hP inA4 rfl rfl (by decide) qFX4_9 rfl rfl dX4_spreadFrom_51 ?_
            refine lv_iload hx hb dX4_spreadFrom_54 (lv_at hl 0 rfl) ?_
            refine lv_iload_n hx hb dX4_spreadFrom_56 rfl (lv_at hl 3 rfl) ?_
            replace h := gd h; obtain ⟨g7, h⟩ := h
            refine astI (q0 := 1) (ws1 := [(a_r, .inr (4, [.ref a_g, .ref a_rs, .ref a_rl, .ref a_ro])), (a_rs, .inl (T 0, 45, .inl (upd v_rs (fX7_nextCell l1 l4).toNatClampNeg l2))), (a_ro, .inl (T 1, 45, .inl v_ro))]) C hE hP hD hS rfl g7 rfl dX4_spreadFrom_57 ?_; clear hP hD hS; intro H locs hP hD hS
            refine lv_iconst (v := 1) hx hb dX4_spreadFrom_58 (by decide) ?_
            refine lv_istore_n (lv' := [(3, .int 1), (5, .int (fX7_nextCell l1 l4)), (0, .ref a_r), (1, .int l1), (2, .int l2), (4, .int l4)]) hx hb dX4_spreadFrom_59 rfl hl (by decide) rfl (fun ls hl => ?_)
            exact lX4_spreadFrom_60 C hE hA hret ih l1 l2 1 l4 (upd v_rs (fX7_nextCell l1 l4).toNatClampNeg l2) ⟨hP, hD⟩ hS _ (lv_sub hl [2, 3, 4, 0, 5] rfl) h
set_option maxHeartbeats 4000000 in
set_option maxRecDepth 100000 in
theorem kX4_spreadFrom (l : Launch) (D : va_G) (T : Nat → ClassId) (a_r a_g a_rs a_rl a_ro : Nat) (v_rs : Nat → Int32) (v_ro : Nat → Int32) (p0 : Int32) (p1 : Int32) (sz : Nat) (r : Int32 × (Nat → Int32)) (h : fX4_spreadFrom v_rs v_ro p0 p1 = some r) : WrI l yX4_spreadFrom cX4_spreadFrom 6 .boolean ({ frames := 2, cells := 0, slots := 0, locals := 44 } : Room) D T sz [(a_r, .inr (4, [.ref a_g, .ref a_rs, .ref a_rl, .ref a_ro])), (a_rs, .inl (T 0, 45, .inl v_rs)), (a_ro, .inl (T 1, 45, .inl v_ro))] [(a_r, .inr (4, [.ref a_g, .ref a_rs, .ref a_rl, .ref a_ro])), (a_rs, .inl (T 0, 45, .inl r.2)), (a_ro, .inl (T 1, 45, .inl v_ro))] [.ref a_r, .int p0, .int p1] r.1 := by
  unfold fX4_spreadFrom at h
  refine wrMet (by decide +kernel) rfl (fun p e s m args below meth c Q A C hE hA hP hD hS hret ls hl => ?_)
  have hx := C.1
  have hb := C.2.1
  have hl : lv_has ls 6 [(0, .ref a_r), (1, .int p0), (2, .int p1)] := hl
  refine lv_iconst (v := 0) hx hb dX4_spreadFrom_0 (by decide) ?_
  refine lv_istore_n (lv' := [(3, .int 0), (0, .ref a_r), (1, .int p0), (2, .int p1)]) hx hb dX4_spreadFrom_1 rfl hl (by decide) rfl (fun ls hl => ?_)
  refine lv_iconst (v := 0) hx hb dX4_spreadFrom_2 (by decide) ?_
  refine lv_istore (lv' := [(4, .int 0), (3, .int 0), (0, .ref a_r), (1, .int p0), (2, .int p1)]) hx hb dX4_spreadFrom_3 hl (by decide) rfl (fun ls hl => ?_)
  exact lX4_spreadFrom_5 C hE hA hret 64 p0 p1 0 0 v_rs ⟨hP, hD⟩ hS _ (lv_sub hl [2, 3, 4, 1, 0] rfl) h

def fX4_findBySpreading_63 (v_gw : Nat → Int32) (v_gk : Nat → Int32) (rec13 : Int32 → Int32 → (Nat → Int32) → (Nat → Int32) → Option ((Nat → Int32) × (Nat → Int32))) (rec28 : Int32 → Int32 → Int32 → (Nat → Int32) → (Nat → Int32) → Option ((Nat → Int32) × (Nat → Int32))) (l2 : Int32) (l3 : Int32) (l4 : Int32) (v_rs : Nat → Int32) (v_ro : Nat → Int32) : Option ((Nat → Int32) × (Nat → Int32)) :=
  rec28 l2 l3 (l4 + 1) v_rs v_ro
def fX4_findBySpreading_28 (v_gw : Nat → Int32) (v_gk : Nat → Int32) (rec13 : Int32 → Int32 → (Nat → Int32) → (Nat → Int32) → Option ((Nat → Int32) × (Nat → Int32))) : Nat → Int32 → Int32 → Int32 → (Nat → Int32) → (Nat → Int32) → Option ((Nat → Int32) × (Nat → Int32))
  | 0, _, _, _, _, _ => none
  | k + 1, l2, l3, l4, v_rs, v_ro =>
    if 45 ≤ l4 then
      rec13 l2 (l3 + 1) v_rs v_ro
    else
      if vin l4 45 = true then
      if (v_rs l4.toNatClampNeg) = l3 then
        (fX4_spreadFrom v_rs v_ro l4 (l3 + 1)).bind fun q8 =>
        fX4_findBySpreading_63 v_gw v_gk rec13 (fX4_findBySpreading_28 v_gw v_gk rec13 k) (if q8.1 = 0 then l2 else 1) l3 l4 q8.2 v_ro
      else
        fX4_findBySpreading_63 v_gw v_gk rec13 (fX4_findBySpreading_28 v_gw v_gk rec13 k) l2 l3 l4 v_rs v_ro
      else none
def fX4_findBySpreading_13 (v_gw : Nat → Int32) (v_gk : Nat → Int32) : Nat → Int32 → Int32 → (Nat → Int32) → (Nat → Int32) → Option ((Nat → Int32) × (Nat → Int32))
  | 0, _, _, _, _ => none
  | k + 1, l2, l3, v_rs, v_ro =>
    if 45 ≤ l3 then
      some (v_rs, v_ro)
    else
      if l2 = 0 then
        some (v_rs, v_ro)
      else
        fX4_findBySpreading_28 v_gw v_gk (fX4_findBySpreading_13 v_gw v_gk k) 64 0 l3 0 v_rs v_ro
def fX4_findBySpreading (v_gw : Nat → Int32) (v_gk : Nat → Int32) (v_rs : Nat → Int32) (v_ro : Nat → Int32) (p0 : Int32) : Option ((Nat → Int32) × (Nat → Int32)) :=
  (fX4_begin v_gw v_gk v_ro 45 v_rs p0).bind fun q1 =>
  fX4_findBySpreading_13 v_gw v_gk 64 1 0 q1.2 q1.1
set_option maxHeartbeats 4000000 in
set_option maxRecDepth 100000 in
theorem lX4_findBySpreading_63 {p : Program} {l : Launch} {e : Env} {s : State} {m : MethodId} {args : Array Value} {below : List Frame} {meth : Method} {c : Code} {Q : State → Prop} {D : va_G} {T : Nat → ClassId} {a_g a_gw a_gk a_r a_rs a_rl a_ro : Nat} {v_gw : Nat → Int32} {v_gk : Nat → Int32} {A : Nat → Prop} {r : (Nat → Int32) × (Nat → Int32)} (C : CallFix p m c cX4_findBySpreading 5 s args aw RX4) (hE : eK D T s) (hA : ∀ q : Nat, s.heap.size ≤ q → A q) (hret : WrRetV p l e ({ frames := 3, cells := 0, slots := 0, locals := 69 } : Room) s m args below meth c Q cX4_findBySpreading D A [(a_g, .inr (1, [.ref a_gw, .ref a_gk])), (a_r, .inr (4, [.ref a_g, .ref a_rs, .ref a_rl, .ref a_ro])), (a_gw, .inl (T 0, 90, .inl v_gw)), (a_gk, .inl (T 0, 18, .inl v_gk)), (a_rs, .inl (T 0, 45, .inl r.1)), (a_ro, .inl (T 1, 45, .inl r.2))]) {rec13 : Int32 → Int32 → (Nat → Int32) → (Nat → Int32) → Option ((Nat → Int32) × (Nat → Int32))} (hrec13 : ∀ (l2 : Int32) (l3 : Int32) (v_rs : Nat → Int32) (v_ro : Nat → Int32) {H : Heap} {locs : List Loc} (hPD : va_PD D A [(a_g, .inr (1, [.ref a_gw, .ref a_gk])), (a_r, .inr (4, [.ref a_g, .ref a_rs, .ref a_rl, .ref a_ro])), (a_gw, .inl (T 0, 90, .inl v_gw)), (a_gk, .inl (T 0, 18, .inl v_gk)), (a_rs, .inl (T 0, 45, .inl v_rs)), (a_ro, .inl (T 1, 45, .inl v_ro))] H) (hS : va_S A s.heap H locs) (ls : Array Slot) (hl : lv_has ls 5 [(0, .ref a_r), (2, .int l2), (3, .int l3)]) (h : rec13 l2 l3 v_rs v_ro = some r), W p l e ({ frames := 3, cells := 0, slots := 0, locals := 69 } : Room) s m args below meth c H locs 0 0 Q (F0 m 13 ls [])) {rec28 : Int32 → Int32 → Int32 → (Nat → Int32) → (Nat → Int32) → Option ((Nat → Int32) × (Nat → Int32))} (hrec28 : ∀ (l2 : Int32) (l3 : Int32) (l4 : Int32) (v_rs : Nat → Int32) (v_ro : Nat → Int32) {H : Heap} {locs : List Loc} (hPD : va_PD D A [(a_g, .inr (1, [.ref a_gw, .ref a_gk])), (a_r, .inr (4, [.ref a_g, .ref a_rs, .ref a_rl, .ref a_ro])), (a_gw, .inl (T 0, 90, .inl v_gw)), (a_gk, .inl (T 0, 18, .inl v_gk)), (a_rs, .inl (T 0, 45, .inl v_rs)), (a_ro, .inl (T 1, 45, .inl v_ro))] H) (hS : va_S A s.heap H locs) (ls : Array Slot) (hl : lv_has ls 5 [(0, .ref a_r), (2, .int l2), (3, .int l3), (4, .int l4)]) (h : rec28 l2 l3 l4 v_rs v_ro = some r), W p l e ({ frames := 3, cells := 0, slots := 0, locals := 69 } : Room) s m args below meth c H locs 0 0 Q (F0 m 28 ls [])) (l2 : Int32) (l3 : Int32) (l4 : Int32) (v_rs : Nat → Int32) (v_ro : Nat → Int32) {H : Heap} {locs : List Loc} (hPD : va_PD D A [(a_g, .inr (1, [.ref a_gw, .ref a_gk])), (a_r, .inr (4, [.ref a_g, .ref a_rs, .ref a_rl, .ref a_ro])), (a_gw, .inl (T 0, 90, .inl v_gw)), (a_gk, .inl (T 0, 18, .inl v_gk)), (a_rs, .inl (T 0, 45, .inl v_rs)), (a_ro, .inl (T 1, 45, .inl v_ro))] H) (hS : va_S A s.heap H locs) (ls : Array Slot) (hl : lv_has ls 5 [(0, .ref a_r), (2, .int l2), (3, .int l3), (4, .int l4)]) (h : fX4_findBySpreading_63 v_gw v_gk rec13 rec28 l2 l3 l4 v_rs v_ro = some r) : W p l e ({ frames := 3, cells := 0, slots := 0, locals := 69 } : Room) s m args below meth c H locs 0 0 Q (F0 m 63 ls []) := by
  have hx := C.1
  have hb := C.2.1
  obtain ⟨hP, hD⟩ := hPD
  unfold fX4_findBySpreading_63 at h
  refine lv_iinc (v := (l4 + 1)) (lv' := [(4, .int (l4 + 1)), (0, .ref a_r), (2, .int l2), (3, .int l3)]) hx hb dX4_findBySpreading_63 hl (k := 3) rfl rfl (by decide) rfl (fun ls hl => ?_)
  refine lv_goto (tgt := 28) hx hb dX4_findBySpreading_66 (by decide) ?_
  exact hrec28 l2 l3 (l4 + 1) v_rs v_ro ⟨hP, hD⟩ hS _ (lv_sub hl [1, 2, 3, 0] rfl) h
set_option maxHeartbeats 4000000 in
set_option maxRecDepth 100000 in
theorem lX4_findBySpreading_28 {p : Program} {l : Launch} {e : Env} {s : State} {m : MethodId} {args : Array Value} {below : List Frame} {meth : Method} {c : Code} {Q : State → Prop} {D : va_G} {T : Nat → ClassId} {a_g a_gw a_gk a_r a_rs a_rl a_ro : Nat} {v_gw : Nat → Int32} {v_gk : Nat → Int32} {A : Nat → Prop} {r : (Nat → Int32) × (Nat → Int32)} (C : CallFix p m c cX4_findBySpreading 5 s args aw RX4) (hE : eK D T s) (hA : ∀ q : Nat, s.heap.size ≤ q → A q) (hret : WrRetV p l e ({ frames := 3, cells := 0, slots := 0, locals := 69 } : Room) s m args below meth c Q cX4_findBySpreading D A [(a_g, .inr (1, [.ref a_gw, .ref a_gk])), (a_r, .inr (4, [.ref a_g, .ref a_rs, .ref a_rl, .ref a_ro])), (a_gw, .inl (T 0, 90, .inl v_gw)), (a_gk, .inl (T 0, 18, .inl v_gk)), (a_rs, .inl (T 0, 45, .inl r.1)), (a_ro, .inl (T 1, 45, .inl r.2))]) {rec13 : Int32 → Int32 → (Nat → Int32) → (Nat → Int32) → Option ((Nat → Int32) × (Nat → Int32))} (hrec13 : ∀ (l2 : Int32) (l3 : Int32) (v_rs : Nat → Int32) (v_ro : Nat → Int32) {H : Heap} {locs : List Loc} (hPD : va_PD D A [(a_g, .inr (1, [.ref a_gw, .ref a_gk])), (a_r, .inr (4, [.ref a_g, .ref a_rs, .ref a_rl, .ref a_ro])), (a_gw, .inl (T 0, 90, .inl v_gw)), (a_gk, .inl (T 0, 18, .inl v_gk)), (a_rs, .inl (T 0, 45, .inl v_rs)), (a_ro, .inl (T 1, 45, .inl v_ro))] H) (hS : va_S A s.heap H locs) (ls : Array Slot) (hl : lv_has ls 5 [(0, .ref a_r), (2, .int l2), (3, .int l3)]) (h : rec13 l2 l3 v_rs v_ro = some r), W p l e ({ frames := 3, cells := 0, slots := 0, locals := 69 } : Room) s m args below meth c H locs 0 0 Q (F0 m 13 ls [])) : ∀ (k : Nat) (l2 : Int32) (l3 : Int32) (l4 : Int32) (v_rs : Nat → Int32) (v_ro : Nat → Int32) {H : Heap} {locs : List Loc} (hPD : va_PD D A [(a_g, .inr (1, [.ref a_gw, .ref a_gk])), (a_r, .inr (4, [.ref a_g, .ref a_rs, .ref a_rl, .ref a_ro])), (a_gw, .inl (T 0, 90, .inl v_gw)), (a_gk, .inl (T 0, 18, .inl v_gk)), (a_rs, .inl (T 0, 45, .inl v_rs)), (a_ro, .inl (T 1, 45, .inl v_ro))] H) (hS : va_S A s.heap H locs) (ls : Array Slot) (hl : lv_has ls 5 [(0, .ref a_r), (2, .int l2), (3, .int l3), (4, .int l4)]) (h : fX4_findBySpreading_28 v_gw v_gk rec13 k l2 l3 l4 v_rs v_ro = some r), W p l e ({ frames := 3, cells := 0, slots := 0, locals := 69 } : Room) s m args below meth c H locs 0 0 Q (F0 m 28 ls []) := by
  have hx := C.1
  have hb := C.2.1
  intro k
  induction k with
  | zero =>
    intro l2 l3 l4 v_rs v_ro H locs hPD hS ls hl h
    exact nomatch (show (none : Option ((Nat → Int32) × (Nat → Int32))) = some r from h)
  | succ k ih =>
    intro l2 l3 l4 v_rs v_ro H locs hPD hS ls hl h
    obtain ⟨hP, hD⟩ := hPD
    rw [fX4_findBySpreading_28] at h
    refine lv_iload hx hb dX4_findBySpreading_28 (lv_at hl 3 rfl) ?_
    refine lv_aload_n hx hb dX4_findBySpreading_30 rfl (lv_at hl 0 rfl) ?_
    refine getF (q0 := 1) (k0 := 1) (v := .ref a_rs) C hE hP inA4 rfl rfl (by decide) qFX4_9 rfl rfl dX4_findBySpreading_31 ?_
    refine alen (q0 := 4) (t0 := 0) (v := 45) C hE hP rfl rfl (by decide) dX4_findBySpreading_34 ?_
    refine lv_icmp_ge (tgt := 69) hx hb dX4_findBySpreading_35 (by decide) (fun c5 => ?_) (fun c5 => ?_)
    · replace h := ite_t c5 h
      refine lv_iinc (v := (l3 + 1)) (lv' := [(3, .int (l3 + 1)), (0, .ref a_r), (2, .int l2), (4, .int l4)]) hx hb dX4_findBySpreading_69 hl (k := 2) rfl rfl (by decide) rfl (fun ls hl => ?_)
      refine lv_goto (tgt := 13) hx hb dX4_findBySpreading_72 (by decide) ?_
      exact hrec13 l2 (l3 + 1) v_rs v_ro ⟨hP, hD⟩ hS _ (lv_sub hl [1, 2, 0] rfl) h
    · replace h := ite_f c5 h
      refine lv_aload_n hx hb dX4_findBySpreading_38 rfl (lv_at hl 0 rfl) ?_
      refine getF (q0 := 1) (k0 := 1) (v := .ref a_rs) C hE hP inA4 rfl rfl (by decide) qFX4_9 rfl rfl dX4_findBySpreading_39 ?_
      refine lv_iload hx hb dX4_findBySpreading_42 (lv_at hl 3 rfl) ?_
      replace h := gd h; obtain ⟨g6, h⟩ := h
      refine aldI (q0 := 4) C hE hP rfl g6 dX4_findBySpreading_44 ?_
      refine lv_iload_n hx hb dX4_findBySpreading_45 rfl (lv_at hl 2 rfl) ?_
      refine lv_icmp_ne (tgt := 63) hx hb dX4_findBySpreading_46 (by decide) (fun c7 => ?_) (fun c7 => ?_)
      · replace h := ite_f c7 h
        exact lX4_findBySpreading_63 C hE hA hret hrec13 ih l2 l3 l4 v_rs v_ro ⟨hP, hD⟩ hS _ (lv_sub hl [0, 1, 2, 3] rfl) h
      · replace h := ite_t c7 h
        refine lv_aload_n hx hb dX4_findBySpreading_49 rfl (lv_at hl 0 rfl) ?_
        refine lv_iload hx hb dX4_findBySpreading_50 (lv_at hl 3 rfl) ?_
        refine lv_iload_n hx hb dX4_findBySpreading_52 rfl (lv_at hl 2 rfl) ?_
        refine lv_iconst (v := 1) hx hb dX4_findBySpreading_53 (by decide) ?_
        refine lv_iadd hx hb dX4_findBySpreading_54 ?_
        replace h := bnd h; obtain ⟨q8, e9, h⟩ := h
        refine wrVi (ws1 := [(a_g, .inr (1, [.ref a_gw, .ref a_gk])), (a_r, .inr (4, [.ref a_g, .ref a_rs, .ref a_rl, .ref a_ro])), (a_gw, .inl (T 0, 90, .inl v_gw)), (a_gk, .inl (T 0, 18, .inl v_gk)), (a_rs, .inl (T 0, 45, .inl q8.2)), (a_ro, .inl (T 1, 45, .inl v_ro))]) C hE hP hD hS hA (kX4_spreadFrom l D T a_r a_g a_rs a_rl a_ro v_rs v_ro l4 (l3 + 1) _ q8 e9) mX4_spreadFrom qLX4_41 [1, 4, 5] [0, 2, 3] 1 rfl rfl rfl rfl rfl rfl rfl rfl rfl ⟨rfl, rfl⟩ ⟨Nat.le_of_ble_eq_true rfl, Nat.le_of_ble_eq_true rfl⟩ rfl hl.1 rfl (Nat.le_of_ble_eq_true rfl) dX4_findBySpreading_55 ⟨Nat.le_of_ble_eq_true rfl, Nat.le_of_ble_eq_true rfl⟩ ?_; clear hP hD hS; intro H locs hP hD hS
        refine lv_if_eq (tgt := 63) hx hb dX4_findBySpreading_58 (by decide) (fun c10 => ?_) (fun c10 => ?_)
        · rw [if_pos c10] at h
          exact lX4_findBySpreading_63 C hE hA hret hrec13 ih l2 l3 l4 q8.2 v_ro ⟨hP, hD⟩ hS _ (lv_sub hl [0, 1, 2, 3] rfl) h
        · rw [if_neg c10] at h
          refine lv_iconst (v := 1) hx hb dX4_findBySpreading_61 (by decide) ?_
          refine lv_istore_n (lv' := [(2, .int 1), (0, .ref a_r), (3, .int l3), (4, .int l4)]) hx hb dX4_findBySpreading_62 rfl hl (by decide) rfl (fun ls hl => ?_)
          exact lX4_findBySpreading_63 C hE hA hret hrec13 ih 1 l3 l4 q8.2 v_ro ⟨hP, hD⟩ hS _ (lv_sub hl [1, 0, 2, 3] rfl) h
set_option maxHeartbeats 4000000 in
set_option maxRecDepth 100000 in
theorem lX4_findBySpreading_13 {p : Program} {l : Launch} {e : Env} {s : State} {m : MethodId} {args : Array Value} {below : List Frame} {meth : Method} {c : Code} {Q : State → Prop} {D : va_G} {T : Nat → ClassId} {a_g a_gw a_gk a_r a_rs a_rl a_ro : Nat} {v_gw : Nat → Int32} {v_gk : Nat → Int32} {A : Nat → Prop} {r : (Nat → Int32) × (Nat → Int32)} (C : CallFix p m c cX4_findBySpreading 5 s args aw RX4) (hE : eK D T s) (hA : ∀ q : Nat, s.heap.size ≤ q → A q) (hret : WrRetV p l e ({ frames := 3, cells := 0, slots := 0, locals := 69 } : Room) s m args below meth c Q cX4_findBySpreading D A [(a_g, .inr (1, [.ref a_gw, .ref a_gk])), (a_r, .inr (4, [.ref a_g, .ref a_rs, .ref a_rl, .ref a_ro])), (a_gw, .inl (T 0, 90, .inl v_gw)), (a_gk, .inl (T 0, 18, .inl v_gk)), (a_rs, .inl (T 0, 45, .inl r.1)), (a_ro, .inl (T 1, 45, .inl r.2))]) : ∀ (k : Nat) (l2 : Int32) (l3 : Int32) (v_rs : Nat → Int32) (v_ro : Nat → Int32) {H : Heap} {locs : List Loc} (hPD : va_PD D A [(a_g, .inr (1, [.ref a_gw, .ref a_gk])), (a_r, .inr (4, [.ref a_g, .ref a_rs, .ref a_rl, .ref a_ro])), (a_gw, .inl (T 0, 90, .inl v_gw)), (a_gk, .inl (T 0, 18, .inl v_gk)), (a_rs, .inl (T 0, 45, .inl v_rs)), (a_ro, .inl (T 1, 45, .inl v_ro))] H) (hS : va_S A s.heap H locs) (ls : Array Slot) (hl : lv_has ls 5 [(0, .ref a_r), (2, .int l2), (3, .int l3)]) (h : fX4_findBySpreading_13 v_gw v_gk k l2 l3 v_rs v_ro = some r), W p l e ({ frames := 3, cells := 0, slots := 0, locals := 69 } : Room) s m args below meth c H locs 0 0 Q (F0 m 13 ls []) := by
  have hx := C.1
  have hb := C.2.1
  intro k
  induction k with
  | zero =>
    intro l2 l3 v_rs v_ro H locs hPD hS ls hl h
    exact nomatch (show (none : Option ((Nat → Int32) × (Nat → Int32))) = some r from h)
  | succ k ih =>
    intro l2 l3 v_rs v_ro H locs hPD hS ls hl h
    obtain ⟨hP, hD⟩ := hPD
    rw [fX4_findBySpreading_13] at h
    refine lv_iload_n hx hb dX4_findBySpreading_13 rfl (lv_at hl 2 rfl) ?_
    refine lv_bipush (v := 45) hx hb dX4_findBySpreading_14 (by decide) ?_
    refine lv_icmp_ge (tgt := 75) hx hb dX4_findBySpreading_16 (by decide) (fun c3 => ?_) (fun c3 => ?_)
    · replace h := ite_t c3 h
      replace h := Option.some.inj h
      exact hret _ _ _ _ dX4_findBySpreading_75 (by rw [← h]; exact hP) hS
    · replace h := ite_f c3 h
      refine lv_iload_n hx hb dX4_findBySpreading_19 rfl (lv_at hl 1 rfl) ?_
      refine lv_if_eq (tgt := 75) hx hb dX4_findBySpreading_20 (by decide) (fun c4 => ?_) (fun c4 => ?_)
      · replace h := ite_t c4 h
        replace h := Option.some.inj h
        exact hret _ _ _ _ dX4_findBySpreading_75 (by rw [← h]; exact hP) hS
      · replace h := ite_f c4 h
        refine lv_iconst (v := 0) hx hb dX4_findBySpreading_23 (by decide) ?_
        refine lv_istore_n (lv' := [(2, .int 0), (0, .ref a_r), (3, .int l3)]) hx hb dX4_findBySpreading_24 rfl hl (by decide) rfl (fun ls hl => ?_)
        refine lv_iconst (v := 0) hx hb dX4_findBySpreading_25 (by decide) ?_
        refine lv_istore (lv' := [(4, .int 0), (2, .int 0), (0, .ref a_r), (3, .int l3)]) hx hb dX4_findBySpreading_26 hl (by decide) rfl (fun ls hl => ?_)
        exact lX4_findBySpreading_28 C hE hA hret ih 64 0 l3 0 v_rs v_ro ⟨hP, hD⟩ hS _ (lv_sub hl [2, 1, 3, 0] rfl) h
set_option maxHeartbeats 4000000 in
set_option maxRecDepth 100000 in
theorem kX4_findBySpreading (l : Launch) (D : va_G) (T : Nat → ClassId) (a_g a_gw a_gk a_r a_rs a_rl a_ro : Nat) (v_gw : Nat → Int32) (v_gk : Nat → Int32) (v_rs : Nat → Int32) (v_ro : Nat → Int32) (p0 : Int32) (sz : Nat) (r : (Nat → Int32) × (Nat → Int32)) (h : fX4_findBySpreading v_gw v_gk v_rs v_ro p0 = some r) : WrV l yX4_findBySpreading cX4_findBySpreading 5 ({ frames := 3, cells := 0, slots := 0, locals := 69 } : Room) D T sz [(a_g, .inr (1, [.ref a_gw, .ref a_gk])), (a_r, .inr (4, [.ref a_g, .ref a_rs, .ref a_rl, .ref a_ro])), (a_gw, .inl (T 0, 90, .inl v_gw)), (a_gk, .inl (T 0, 18, .inl v_gk)), (a_rs, .inl (T 0, 45, .inl v_rs)), (a_ro, .inl (T 1, 45, .inl v_ro))] [(a_g, .inr (1, [.ref a_gw, .ref a_gk])), (a_r, .inr (4, [.ref a_g, .ref a_rs, .ref a_rl, .ref a_ro])), (a_gw, .inl (T 0, 90, .inl v_gw)), (a_gk, .inl (T 0, 18, .inl v_gk)), (a_rs, .inl (T 0, 45, .inl r.1)), (a_ro, .inl (T 1, 45, .inl r.2))] [.ref a_r, .int p0] := by
  unfold fX4_findBySpreading at h
  refine wrMetV (by decide +kernel) rfl (fun p e s m args below meth c Q A C hE hA hP hD hS hret ls hl => ?_)
  have hx := C.1
  have hb := C.2.1
  have hl : lv_has ls 5 [(0, .ref a_r), (1, .int p0)] := hl
  refine lv_aload_n hx hb dX4_findBySpreading_0 rfl (lv_at hl 0 rfl) ?_
  refine lv_aload_n hx hb dX4_findBySpreading_1 rfl (lv_at hl 0 rfl) ?_
  refine getF (q0 := 1) (k0 := 1) (v := .ref a_rs) C hE hP inA4 rfl rfl (by decide) qFX4_9 rfl rfl dX4_findBySpreading_2 ?_
  refine lv_iload_n hx hb dX4_findBySpreading_5 rfl (lv_at hl 1 rfl) ?_
  replace h := bnd h; obtain ⟨q1, e2, h⟩ := h
  refine wrVv (ws1 := [(a_g, .inr (1, [.ref a_gw, .ref a_gk])), (a_r, .inr (4, [.ref a_g, .ref a_rs, .ref a_rl, .ref a_ro])), (a_gw, .inl (T 0, 90, .inl v_gw)), (a_gk, .inl (T 0, 18, .inl v_gk)), (a_rs, .inl (T 0, 45, .inl q1.2)), (a_ro, .inl (T 1, 45, .inl q1.1))]) C hE hP hD hS hA (kX4_begin l D T a_g a_gw a_gk a_r a_rs a_rl a_ro a_rs v_gw v_gk v_ro 45 v_rs p0 _ q1 e2) mX4_begin qLX4_37 [0, 1, 2, 3, 5, 4] [] 1 rfl rfl rfl rfl rfl rfl rfl rfl rfl ⟨rfl, rfl⟩ ⟨Nat.le_of_ble_eq_true rfl, Nat.le_of_ble_eq_true rfl⟩ rfl hl.1 rfl (Nat.le_of_ble_eq_true rfl) dX4_findBySpreading_6 ⟨Nat.le_of_ble_eq_true rfl, Nat.le_of_ble_eq_true rfl⟩ ?_; clear hP hD hS; intro H locs hP hD hS
  refine lv_iconst (v := 1) hx hb dX4_findBySpreading_9 (by decide) ?_
  refine lv_istore_n (lv' := [(2, .int 1), (0, .ref a_r), (1, .int p0)]) hx hb dX4_findBySpreading_10 rfl hl (by decide) rfl (fun ls hl => ?_)
  refine lv_iconst (v := 0) hx hb dX4_findBySpreading_11 (by decide) ?_
  refine lv_istore_n (lv' := [(3, .int 0), (2, .int 1), (0, .ref a_r), (1, .int p0)]) hx hb dX4_findBySpreading_12 rfl hl (by decide) rfl (fun ls hl => ?_)
  exact lX4_findBySpreading_13 C hE hA hret 64 1 0 q1.2 q1.1 ⟨hP, hD⟩ hS _ (lv_sub hl [2, 1, 0] rfl) h

def fX4_lowerAt_66 (rec4 : Int32 → Int32 → Int32 → (Nat → Int32) → Option (Int32 × (Nat → Int32))) (l1 : Int32) (l2 : Int32) (l3 : Int32) (v_rl : Nat → Int32) : Option (Int32 × (Nat → Int32)) :=
  rec4 l1 l2 (l3 + 1) v_rl
def fX4_lowerAt_4 : Nat → Int32 → Int32 → Int32 → (Nat → Int32) → Option (Int32 × (Nat → Int32))
  | 0, _, _, _, _ => none
  | k + 1, l1, l2, l3, v_rl =>
    if 4 ≤ l3 then
      some ((l2 &&& 1), v_rl)
    else
      if (fX7_isCell l1) = 0 then
        fX4_lowerAt_66 (fX4_lowerAt_4 k) l1 l2 l3 v_rl
      else
        if (fX7_isCell (fX7_nextCell l1 l3)) = 0 then
          fX4_lowerAt_66 (fX4_lowerAt_4 k) l1 l2 l3 v_rl
        else
          if vin (fX7_nextCell l1 l3) 45 = true then
          if vin l1 45 = true then
          if (v_rl l1.toNatClampNeg) ≤ ((v_rl (fX7_nextCell l1 l3).toNatClampNeg) + 1) then
            fX4_lowerAt_66 (fX4_lowerAt_4 k) l1 l2 l3 v_rl
          else
            if vin (fX7_nextCell l1 l3) 45 = true then
            if vin l1 45 = true then
            fX4_lowerAt_66 (fX4_lowerAt_4 k) l1 1 l3 (upd v_rl l1.toNatClampNeg ((v_rl (fX7_nextCell l1 l3).toNatClampNeg) + 1))
            else none
            else none
          else none
          else none
def fX4_lowerAt (v_rl : Nat → Int32) (p0 : Int32) : Option (Int32 × (Nat → Int32)) :=
  fX4_lowerAt_4 64 p0 0 0 v_rl
set_option maxHeartbeats 4000000 in
set_option maxRecDepth 100000 in
theorem lX4_lowerAt_66 {p : Program} {l : Launch} {e : Env} {s : State} {m : MethodId} {args : Array Value} {below : List Frame} {meth : Method} {c : Code} {Q : State → Prop} {D : va_G} {T : Nat → ClassId} {a_r a_g a_rs a_rl a_ro : Nat} {A : Nat → Prop} {r : Int32 × (Nat → Int32)} (C : CallFix p m c cX4_lowerAt 5 s args aw RX4) (hE : eK D T s) (hA : ∀ q : Nat, s.heap.size ≤ q → A q) (hret : WrRet p l e ({ frames := 2, cells := 0, slots := 0, locals := 44 } : Room) s m args below meth c Q cX4_lowerAt .boolean D A [(a_r, .inr (4, [.ref a_g, .ref a_rs, .ref a_rl, .ref a_ro])), (a_rl, .inl (T 0, 45, .inl r.2))] r.1) {rec4 : Int32 → Int32 → Int32 → (Nat → Int32) → Option (Int32 × (Nat → Int32))} (hrec4 : ∀ (l1 : Int32) (l2 : Int32) (l3 : Int32) (v_rl : Nat → Int32) {H : Heap} {locs : List Loc} (hPD : va_PD D A [(a_r, .inr (4, [.ref a_g, .ref a_rs, .ref a_rl, .ref a_ro])), (a_rl, .inl (T 0, 45, .inl v_rl))] H) (hS : va_S A s.heap H locs) (ls : Array Slot) (hl : lv_has ls 5 [(0, .ref a_r), (1, .int l1), (2, .int l2), (3, .int l3)]) (h : rec4 l1 l2 l3 v_rl = some r), W p l e ({ frames := 2, cells := 0, slots := 0, locals := 44 } : Room) s m args below meth c H locs 0 0 Q (F0 m 4 ls [])) (l1 : Int32) (l2 : Int32) (l3 : Int32) (v_rl : Nat → Int32) {H : Heap} {locs : List Loc} (hPD : va_PD D A [(a_r, .inr (4, [.ref a_g, .ref a_rs, .ref a_rl, .ref a_ro])), (a_rl, .inl (T 0, 45, .inl v_rl))] H) (hS : va_S A s.heap H locs) (ls : Array Slot) (hl : lv_has ls 5 [(0, .ref a_r), (1, .int l1), (2, .int l2), (3, .int l3)]) (h : fX4_lowerAt_66 rec4 l1 l2 l3 v_rl = some r) : W p l e ({ frames := 2, cells := 0, slots := 0, locals := 44 } : Room) s m args below meth c H locs 0 0 Q (F0 m 66 ls []) := by
  have hx := C.1
  have hb := C.2.1
  obtain ⟨hP, hD⟩ := hPD
  unfold fX4_lowerAt_66 at h
  refine lv_iinc (v := (l3 + 1)) (lv' := [(3, .int (l3 + 1)), (0, .ref a_r), (1, .int l1), (2, .int l2)]) hx hb dX4_lowerAt_66 hl (k := 3) rfl rfl (by decide) rfl (fun ls hl => ?_)
  refine lv_goto (tgt := 4) hx hb dX4_lowerAt_69 (by decide) ?_
  exact hrec4 l1 l2 (l3 + 1) v_rl ⟨hP, hD⟩ hS _ (lv_sub hl [1, 2, 3, 0] rfl) h
set_option maxHeartbeats 4000000 in
set_option maxRecDepth 100000 in
theorem lX4_lowerAt_4 {p : Program} {l : Launch} {e : Env} {s : State} {m : MethodId} {args : Array Value} {below : List Frame} {meth : Method} {c : Code} {Q : State → Prop} {D : va_G} {T : Nat → ClassId} {a_r a_g a_rs a_rl a_ro : Nat} {A : Nat → Prop} {r : Int32 × (Nat → Int32)} (C : CallFix p m c cX4_lowerAt 5 s args aw RX4) (hE : eK D T s) (hA : ∀ q : Nat, s.heap.size ≤ q → A q) (hret : WrRet p l e ({ frames := 2, cells := 0, slots := 0, locals := 44 } : Room) s m args below meth c Q cX4_lowerAt .boolean D A [(a_r, .inr (4, [.ref a_g, .ref a_rs, .ref a_rl, .ref a_ro])), (a_rl, .inl (T 0, 45, .inl r.2))] r.1) : ∀ (k : Nat) (l1 : Int32) (l2 : Int32) (l3 : Int32) (v_rl : Nat → Int32) {H : Heap} {locs : List Loc} (hPD : va_PD D A [(a_r, .inr (4, [.ref a_g, .ref a_rs, .ref a_rl, .ref a_ro])), (a_rl, .inl (T 0, 45, .inl v_rl))] H) (hS : va_S A s.heap H locs) (ls : Array Slot) (hl : lv_has ls 5 [(0, .ref a_r), (1, .int l1), (2, .int l2), (3, .int l3)]) (h : fX4_lowerAt_4 k l1 l2 l3 v_rl = some r), W p l e ({ frames := 2, cells := 0, slots := 0, locals := 44 } : Room) s m args below meth c H locs 0 0 Q (F0 m 4 ls []) := by
  have hx := C.1
  have hb := C.2.1
  intro k
  induction k with
  | zero =>
    intro l1 l2 l3 v_rl H locs hPD hS ls hl h
    exact nomatch (show (none : Option (Int32 × (Nat → Int32))) = some r from h)
  | succ k ih =>
    intro l1 l2 l3 v_rl H locs hPD hS ls hl h
    obtain ⟨hP, hD⟩ := hPD
    rw [fX4_lowerAt_4] at h
    refine lv_iload_n hx hb dX4_lowerAt_4 rfl (lv_at hl 3 rfl) ?_
    refine lv_iconst (v := 4) hx hb dX4_lowerAt_5 (by decide) ?_
    refine lv_icmp_ge (tgt := 72) hx hb dX4_lowerAt_6 (by decide) (fun c1 => ?_) (fun c1 => ?_)
    · replace h := ite_t c1 h
      refine lv_iload_n hx hb dX4_lowerAt_72 rfl (lv_at hl 2 rfl) ?_
      replace h := Option.some.inj h
      exact hret _ _ _ _ _ _ dX4_lowerAt_73 rfl (by rw [← h] <;> rfl) (by rw [← h]; exact hP) hS
    · replace h := ite_f c1 h
      refine lv_iload_n hx hb dX4_lowerAt_9 rfl (lv_at hl 1 rfl) ?_
      refine lv_iload_n hx hb dX4_lowerAt_10 rfl (lv_at hl 3 rfl) ?_
      refine rdSN C hE hP (kX7_nextCell l D T l1 l3) mX7_nextCell (by decide +kernel) [] rfl ⟨rfl, rfl⟩ ⟨Nat.le_of_ble_eq_true rfl, Nat.le_of_ble_eq_true rfl⟩ rfl hl.1 rfl (Nat.le_of_ble_eq_true rfl) dX4_lowerAt_11 ⟨Nat.le_of_ble_eq_true rfl, Nat.le_of_ble_eq_true rfl⟩ ?_
      refine lv_istore (lv' := [(4, .int (fX7_nextCell l1 l3)), (0, .ref a_r), (1, .int l1), (2, .int l2), (3, .int l3)]) hx hb dX4_lowerAt_14 hl (by decide) rfl (fun ls hl => ?_)
      refine lv_iload_n hx hb dX4_lowerAt_16 rfl (lv_at hl 2 rfl) ?_
      refine rdSN C hE hP (kX7_isCell l D T l1) mX7_isCell (by decide +kernel) [] rfl ⟨rfl, rfl⟩ ⟨Nat.le_of_ble_eq_true rfl, Nat.le_of_ble_eq_true rfl⟩ rfl hl.1 rfl (Nat.le_of_ble_eq_true rfl) dX4_lowerAt_17 ⟨Nat.le_of_ble_eq_true rfl, Nat.le_of_ble_eq_true rfl⟩ ?_
      refine lv_if_eq (tgt := 66) hx hb dX4_lowerAt_20 (by decide) (fun c2 => ?_) (fun c2 => ?_)
      · replace h := ite_t c2 h
        exact lX4_lowerAt_66 C hE hA hret ih l1 l2 l3 v_rl ⟨hP, hD⟩ hS _ (lv_sub hl [1, 2, 3, 4] rfl) h
      · replace h := ite_f c2 h
        refine lv_iload hx hb dX4_lowerAt_23 (lv_at hl 0 rfl) ?_
        refine rdSN C hE hP (kX7_isCell l D T (fX7_nextCell l1 l3)) mX7_isCell (by decide +kernel) [] rfl ⟨rfl, rfl⟩ ⟨Nat.le_of_ble_eq_true rfl, Nat.le_of_ble_eq_true rfl⟩ rfl hl.1 rfl (Nat.le_of_ble_eq_true rfl) dX4_lowerAt_25 ⟨Nat.le_of_ble_eq_true rfl, Nat.le_of_ble_eq_true rfl⟩ ?_
        refine lv_if_eq (tgt := 66) hx hb dX4_lowerAt_28 (by decide) (fun c3 => ?_) (fun c3 => ?_)
        · replace h := ite_t c3 h
          exact lX4_lowerAt_66 C hE hA hret ih l1 l2 l3 v_rl ⟨hP, hD⟩ hS _ (lv_sub hl [1, 2, 3, 4] rfl) h
        · replace h := ite_f c3 h
          refine lv_aload_n hx hb dX4_lowerAt_31 rfl (lv_at hl 1 rfl) ?_
          refine getF (q0 := 0) (k0 := 2) (v := .ref a_rl) C hE hP inA4 rfl rfl (by decide) qFX4_15 rfl rfl dX4_lowerAt_32 ?_
          refine lv_iload hx hb dX4_lowerAt_35 (lv_at hl 0 rfl) ?_
          replace h := gd h; obtain ⟨g4, h⟩ := h
          refine aldI (q0 := 1) C hE hP rfl g4 dX4_lowerAt_37 ?_
          refine lv_iconst (v := 1) hx hb dX4_lowerAt_38 (by decide) ?_
          refine lv_iadd hx hb dX4_lowerAt_39 ?_
          refine lv_aload_n hx hb dX4_lowerAt_40 rfl (lv_at hl 1 rfl) ?_
          refine getF (q0 := 0) (k0 := 2) (v := .ref a_rl) C hE hP inA4 rfl rfl (by decide) qFX4_15 rfl rfl dX4_lowerAt_41 ?_
          refine lv_iload_n hx hb dX4_lowerAt_44 rfl (lv_at hl 2 rfl) ?_
          replace h := gd h; obtain ⟨g5, h⟩ := h
          refine aldI (q0 := 1) C hE hP rfl g5 dX4_lowerAt_45 ?_
          refine lv_icmp_ge (tgt := 66) hx hb dX4_lowerAt_46 (by decide) (fun c6 => ?_) (fun c6 => ?_)
          · replace h := ite_t c6 h
            exact lX4_lowerAt_66 C hE hA hret ih l1 l2 l3 v_rl ⟨hP, hD⟩ hS _ (lv_sub hl [1, 2, 3, 4] rfl) h
          · replace h := ite_f c6 h
            refine lv_aload_n hx hb dX4_lowerAt_49 rfl (lv_at hl 1 rfl) ?_
            refine getF (q0 := 0) (k0 := 2) (v := .ref a_rl) C hE hP inA4 rfl rfl (by decide) qFX4_15 rfl rfl dX4_lowerAt_50 ?_
            refine lv_iload_n hx hb dX4_lowerAt_53 rfl (lv_at hl 2 rfl) ?_
            refine lv_aload_n hx hb dX4_lowerAt_54 rfl (lv_at hl 1 rfl) ?_
            refine getF (q0 := 0) (k0 := 2) (v := .ref a_rl) C hE hP inA4 rfl rfl (by decide) qFX4_15 rfl rfl dX4_lowerAt_55 ?_
            refine lv_iload hx hb dX4_lowerAt_58 (lv_at hl 0 rfl) ?_
            replace h := gd h; obtain ⟨g7, h⟩ := h
            refine aldI (q0 := 1) C hE hP rfl g7 dX4_lowerAt_60 ?_
            refine lv_iconst (v := 1) hx hb dX4_lowerAt_61 (by decide) ?_
            refine lv_iadd hx hb dX4_lowerAt_62 ?_
            replace h := gd h; obtain ⟨g8, h⟩ := h
            refine astI (q0 := 1) (ws1 := [(a_r, .inr (4, [.ref a_g, .ref a_rs, .ref a_rl, .ref a_ro])), (a_rl, .inl (T 0, 45, .inl (upd v_rl l1.toNatClampNeg ((v_rl (fX7_nextCell l1 l3).toNatClampNeg) + 1))))]) C hE hP hD hS rfl g8 rfl dX4_lowerAt_63 ?_; clear hP hD hS; intro H locs hP hD hS
            refine lv_iconst (v := 1) hx hb dX4_lowerAt_64 (by decide) ?_
            refine lv_istore_n (lv' := [(2, .int 1), (4, .int (fX7_nextCell l1 l3)), (0, .ref a_r), (1, .int l1), (3, .int l3)]) hx hb dX4_lowerAt_65 rfl hl (by decide) rfl (fun ls hl => ?_)
            exact lX4_lowerAt_66 C hE hA hret ih l1 1 l3 (upd v_rl l1.toNatClampNeg ((v_rl (fX7_nextCell l1 l3).toNatClampNeg) + 1)) ⟨hP, hD⟩ hS _ (lv_sub hl [2, 3, 0, 4] rfl) h
set_option maxHeartbeats 4000000 in
set_option maxRecDepth 100000 in
theorem kX4_lowerAt (l : Launch) (D : va_G) (T : Nat → ClassId) (a_r a_g a_rs a_rl a_ro : Nat) (v_rl : Nat → Int32) (p0 : Int32) (sz : Nat) (r : Int32 × (Nat → Int32)) (h : fX4_lowerAt v_rl p0 = some r) : WrI l yX4_lowerAt cX4_lowerAt 5 .boolean ({ frames := 2, cells := 0, slots := 0, locals := 44 } : Room) D T sz [(a_r, .inr (4, [.ref a_g, .ref a_rs, .ref a_rl, .ref a_ro])), (a_rl, .inl (T 0, 45, .inl v_rl))] [(a_r, .inr (4, [.ref a_g, .ref a_rs, .ref a_rl, .ref a_ro])), (a_rl, .inl (T 0, 45, .inl r.2))] [.ref a_r, .int p0] r.1 := by
  unfold fX4_lowerAt at h
  refine wrMet (by decide +kernel) rfl (fun p e s m args below meth c Q A C hE hA hP hD hS hret ls hl => ?_)
  have hx := C.1
  have hb := C.2.1
  have hl : lv_has ls 5 [(0, .ref a_r), (1, .int p0)] := hl
  refine lv_iconst (v := 0) hx hb dX4_lowerAt_0 (by decide) ?_
  refine lv_istore_n (lv' := [(2, .int 0), (0, .ref a_r), (1, .int p0)]) hx hb dX4_lowerAt_1 rfl hl (by decide) rfl (fun ls hl => ?_)
  refine lv_iconst (v := 0) hx hb dX4_lowerAt_2 (by decide) ?_
  refine lv_istore_n (lv' := [(3, .int 0), (2, .int 0), (0, .ref a_r), (1, .int p0)]) hx hb dX4_lowerAt_3 rfl hl (by decide) rfl (fun ls hl => ?_)
  exact lX4_lowerAt_4 C hE hA hret 64 p0 0 0 v_rl ⟨hP, hD⟩ hS _ (lv_sub hl [2, 3, 1, 0] rfl) h

def fX4_findByLowering_59 (v_gw : Nat → Int32) (v_gk : Nat → Int32) (rec13 : Int32 → Int32 → (Nat → Int32) → (Nat → Int32) → Option ((Nat → Int32) × (Nat → Int32))) (rec28 : Int32 → Int32 → Int32 → (Nat → Int32) → (Nat → Int32) → Option ((Nat → Int32) × (Nat → Int32))) (l2 : Int32) (l3 : Int32) (l4 : Int32) (v_rl : Nat → Int32) (v_ro : Nat → Int32) : Option ((Nat → Int32) × (Nat → Int32)) :=
  rec28 l2 l3 (l4 + 1) v_rl v_ro
def fX4_findByLowering_28 (v_gw : Nat → Int32) (v_gk : Nat → Int32) (rec13 : Int32 → Int32 → (Nat → Int32) → (Nat → Int32) → Option ((Nat → Int32) × (Nat → Int32))) : Nat → Int32 → Int32 → Int32 → (Nat → Int32) → (Nat → Int32) → Option ((Nat → Int32) × (Nat → Int32))
  | 0, _, _, _, _, _ => none
  | k + 1, l2, l3, l4, v_rl, v_ro =>
    if 45 ≤ l4 then
      rec13 l2 (l3 + 1) v_rl v_ro
    else
      if vin l4 45 = true then
      if (v_ro l4.toNatClampNeg) = 0 then
        fX4_findByLowering_59 v_gw v_gk rec13 (fX4_findByLowering_28 v_gw v_gk rec13 k) l2 l3 l4 v_rl v_ro
      else
        (fX4_lowerAt v_rl l4).bind fun q8 =>
        fX4_findByLowering_59 v_gw v_gk rec13 (fX4_findByLowering_28 v_gw v_gk rec13 k) (if q8.1 = 0 then l2 else 1) l3 l4 q8.2 v_ro
      else none
def fX4_findByLowering_13 (v_gw : Nat → Int32) (v_gk : Nat → Int32) : Nat → Int32 → Int32 → (Nat → Int32) → (Nat → Int32) → Option ((Nat → Int32) × (Nat → Int32))
  | 0, _, _, _, _ => none
  | k + 1, l2, l3, v_rl, v_ro =>
    if 45 ≤ l3 then
      some (v_rl, v_ro)
    else
      if l2 = 0 then
        some (v_rl, v_ro)
      else
        fX4_findByLowering_28 v_gw v_gk (fX4_findByLowering_13 v_gw v_gk k) 64 0 l3 0 v_rl v_ro
def fX4_findByLowering (v_gw : Nat → Int32) (v_gk : Nat → Int32) (v_rl : Nat → Int32) (v_ro : Nat → Int32) (p0 : Int32) : Option ((Nat → Int32) × (Nat → Int32)) :=
  (fX4_begin v_gw v_gk v_ro 45 v_rl p0).bind fun q1 =>
  fX4_findByLowering_13 v_gw v_gk 64 1 0 q1.2 q1.1
set_option maxHeartbeats 4000000 in
set_option maxRecDepth 100000 in
theorem lX4_findByLowering_59 {p : Program} {l : Launch} {e : Env} {s : State} {m : MethodId} {args : Array Value} {below : List Frame} {meth : Method} {c : Code} {Q : State → Prop} {D : va_G} {T : Nat → ClassId} {a_g a_gw a_gk a_r a_rs a_rl a_ro : Nat} {v_gw : Nat → Int32} {v_gk : Nat → Int32} {A : Nat → Prop} {r : (Nat → Int32) × (Nat → Int32)} (C : CallFix p m c cX4_findByLowering 5 s args aw RX4) (hE : eK D T s) (hA : ∀ q : Nat, s.heap.size ≤ q → A q) (hret : WrRetV p l e ({ frames := 3, cells := 0, slots := 0, locals := 68 } : Room) s m args below meth c Q cX4_findByLowering D A [(a_g, .inr (1, [.ref a_gw, .ref a_gk])), (a_r, .inr (4, [.ref a_g, .ref a_rs, .ref a_rl, .ref a_ro])), (a_gw, .inl (T 0, 90, .inl v_gw)), (a_gk, .inl (T 0, 18, .inl v_gk)), (a_rl, .inl (T 0, 45, .inl r.1)), (a_ro, .inl (T 1, 45, .inl r.2))]) {rec13 : Int32 → Int32 → (Nat → Int32) → (Nat → Int32) → Option ((Nat → Int32) × (Nat → Int32))} (hrec13 : ∀ (l2 : Int32) (l3 : Int32) (v_rl : Nat → Int32) (v_ro : Nat → Int32) {H : Heap} {locs : List Loc} (hPD : va_PD D A [(a_g, .inr (1, [.ref a_gw, .ref a_gk])), (a_r, .inr (4, [.ref a_g, .ref a_rs, .ref a_rl, .ref a_ro])), (a_gw, .inl (T 0, 90, .inl v_gw)), (a_gk, .inl (T 0, 18, .inl v_gk)), (a_rl, .inl (T 0, 45, .inl v_rl)), (a_ro, .inl (T 1, 45, .inl v_ro))] H) (hS : va_S A s.heap H locs) (ls : Array Slot) (hl : lv_has ls 5 [(0, .ref a_r), (2, .int l2), (3, .int l3)]) (h : rec13 l2 l3 v_rl v_ro = some r), W p l e ({ frames := 3, cells := 0, slots := 0, locals := 68 } : Room) s m args below meth c H locs 0 0 Q (F0 m 13 ls [])) {rec28 : Int32 → Int32 → Int32 → (Nat → Int32) → (Nat → Int32) → Option ((Nat → Int32) × (Nat → Int32))} (hrec28 : ∀ (l2 : Int32) (l3 : Int32) (l4 : Int32) (v_rl : Nat → Int32) (v_ro : Nat → Int32) {H : Heap} {locs : List Loc} (hPD : va_PD D A [(a_g, .inr (1, [.ref a_gw, .ref a_gk])), (a_r, .inr (4, [.ref a_g, .ref a_rs, .ref a_rl, .ref a_ro])), (a_gw, .inl (T 0, 90, .inl v_gw)), (a_gk, .inl (T 0, 18, .inl v_gk)), (a_rl, .inl (T 0, 45, .inl v_rl)), (a_ro, .inl (T 1, 45, .inl v_ro))] H) (hS : va_S A s.heap H locs) (ls : Array Slot) (hl : lv_has ls 5 [(0, .ref a_r), (2, .int l2), (3, .int l3), (4, .int l4)]) (h : rec28 l2 l3 l4 v_rl v_ro = some r), W p l e ({ frames := 3, cells := 0, slots := 0, locals := 68 } : Room) s m args below meth c H locs 0 0 Q (F0 m 28 ls [])) (l2 : Int32) (l3 : Int32) (l4 : Int32) (v_rl : Nat → Int32) (v_ro : Nat → Int32) {H : Heap} {locs : List Loc} (hPD : va_PD D A [(a_g, .inr (1, [.ref a_gw, .ref a_gk])), (a_r, .inr (4, [.ref a_g, .ref a_rs, .ref a_rl, .ref a_ro])), (a_gw, .inl (T 0, 90, .inl v_gw)), (a_gk, .inl (T 0, 18, .inl v_gk)), (a_rl, .inl (T 0, 45, .inl v_rl)), (a_ro, .inl (T 1, 45, .inl v_ro))] H) (hS : va_S A s.heap H locs) (ls : Array Slot) (hl : lv_has ls 5 [(0, .ref a_r), (2, .int l2), (3, .int l3), (4, .int l4)]) (h : fX4_findByLowering_59 v_gw v_gk rec13 rec28 l2 l3 l4 v_rl v_ro = some r) : W p l e ({ frames := 3, cells := 0, slots := 0, locals := 68 } : Room) s m args below meth c H locs 0 0 Q (F0 m 59 ls []) := by
  have hx := C.1
  have hb := C.2.1
  obtain ⟨hP, hD⟩ := hPD
  unfold fX4_findByLowering_59 at h
  refine lv_iinc (v := (l4 + 1)) (lv' := [(4, .int (l4 + 1)), (0, .ref a_r), (2, .int l2), (3, .int l3)]) hx hb dX4_findByLowering_59 hl (k := 3) rfl rfl (by decide) rfl (fun ls hl => ?_)
  refine lv_goto (tgt := 28) hx hb dX4_findByLowering_62 (by decide) ?_
  exact hrec28 l2 l3 (l4 + 1) v_rl v_ro ⟨hP, hD⟩ hS _ (lv_sub hl [1, 2, 3, 0] rfl) h
set_option maxHeartbeats 4000000 in
set_option maxRecDepth 100000 in
theorem lX4_findByLowering_28 {p : Program} {l : Launch} {e : Env} {s : State} {m : MethodId} {args : Array Value} {below : List Frame} {meth : Method} {c : Code} {Q : State → Prop} {D : va_G} {T : Nat → ClassId} {a_g a_gw a_gk a_r a_rs a_rl a_ro : Nat} {v_gw : Nat → Int32} {v_gk : Nat → Int32} {A : Nat → Prop} {r : (Nat → Int32) × (Nat → Int32)} (C : CallFix p m c cX4_findByLowering 5 s args aw RX4) (hE : eK D T s) (hA : ∀ q : Nat, s.heap.size ≤ q → A q) (hret : WrRetV p l e ({ frames := 3, cells := 0, slots := 0, locals := 68 } : Room) s m args below meth c Q cX4_findByLowering D A [(a_g, .inr (1, [.ref a_gw, .ref a_gk])), (a_r, .inr (4, [.ref a_g, .ref a_rs, .ref a_rl, .ref a_ro])), (a_gw, .inl (T 0, 90, .inl v_gw)), (a_gk, .inl (T 0, 18, .inl v_gk)), (a_rl, .inl (T 0, 45, .inl r.1)), (a_ro, .inl (T 1, 45, .inl r.2))]) {rec13 : Int32 → Int32 → (Nat → Int32) → (Nat → Int32) → Option ((Nat → Int32) × (Nat → Int32))} (hrec13 : ∀ (l2 : Int32) (l3 : Int32) (v_rl : Nat → Int32) (v_ro : Nat → Int32) {H : Heap} {locs : List Loc} (hPD : va_PD D A [(a_g, .inr (1, [.ref a_gw, .ref a_gk])), (a_r, .inr (4, [.ref a_g, .ref a_rs, .ref a_rl, .ref a_ro])), (a_gw, .inl (T 0, 90, .inl v_gw)), (a_gk, .inl (T 0, 18, .inl v_gk)), (a_rl, .inl (T 0, 45, .inl v_rl)), (a_ro, .inl (T 1, 45, .inl v_ro))] H) (hS : va_S A s.heap H locs) (ls : Array Slot) (hl : lv_has ls 5 [(0, .ref a_r), (2, .int l2), (3, .int l3)]) (h : rec13 l2 l3 v_rl v_ro = some r), W p l e ({ frames := 3, cells := 0, slots := 0, locals := 68 } : Room) s m args below meth c H locs 0 0 Q (F0 m 13 ls [])) : ∀ (k : Nat) (l2 : Int32) (l3 : Int32) (l4 : Int32) (v_rl : Nat → Int32) (v_ro : Nat → Int32) {H : Heap} {locs : List Loc} (hPD : va_PD D A [(a_g, .inr (1, [.ref a_gw, .ref a_gk])), (a_r, .inr (4, [.ref a_g, .ref a_rs, .ref a_rl, .ref a_ro])), (a_gw, .inl (T 0, 90, .inl v_gw)), (a_gk, .inl (T 0, 18, .inl v_gk)), (a_rl, .inl (T 0, 45, .inl v_rl)), (a_ro, .inl (T 1, 45, .inl v_ro))] H) (hS : va_S A s.heap H locs) (ls : Array Slot) (hl : lv_has ls 5 [(0, .ref a_r), (2, .int l2), (3, .int l3), (4, .int l4)]) (h : fX4_findByLowering_28 v_gw v_gk rec13 k l2 l3 l4 v_rl v_ro = some r), W p l e ({ frames := 3, cells := 0, slots := 0, locals := 68 } : Room) s m args below meth c H locs 0 0 Q (F0 m 28 ls []) := by
  have hx := C.1
  have hb := C.2.1
  intro k
  induction k with
  | zero =>
    intro l2 l3 l4 v_rl v_ro H locs hPD hS ls hl h
    exact nomatch (show (none : Option ((Nat → Int32) × (Nat → Int32))) = some r from h)
  | succ k ih =>
    intro l2 l3 l4 v_rl v_ro H locs hPD hS ls hl h
    obtain ⟨hP, hD⟩ := hPD
    rw [fX4_findByLowering_28] at h
    refine lv_iload hx hb dX4_findByLowering_28 (lv_at hl 3 rfl) ?_
    refine lv_aload_n hx hb dX4_findByLowering_30 rfl (lv_at hl 0 rfl) ?_
    refine getF (q0 := 1) (k0 := 3) (v := .ref a_ro) C hE hP inA4 rfl rfl (by decide) qFX4_18 rfl rfl dX4_findByLowering_31 ?_
    refine alen (q0 := 5) (t0 := 1) (v := 45) C hE hP rfl rfl (by decide) dX4_findByLowering_34 ?_
    refine lv_icmp_ge (tgt := 65) hx hb dX4_findByLowering_35 (by decide) (fun c5 => ?_) (fun c5 => ?_)
    · replace h := ite_t c5 h
      refine lv_iinc (v := (l3 + 1)) (lv' := [(3, .int (l3 + 1)), (0, .ref a_r), (2, .int l2), (4, .int l4)]) hx hb dX4_findByLowering_65 hl (k := 2) rfl rfl (by decide) rfl (fun ls hl => ?_)
      refine lv_goto (tgt := 13) hx hb dX4_findByLowering_68 (by decide) ?_
      exact hrec13 l2 (l3 + 1) v_rl v_ro ⟨hP, hD⟩ hS _ (lv_sub hl [1, 2, 0] rfl) h
    · replace h := ite_f c5 h
      refine lv_aload_n hx hb dX4_findByLowering_38 rfl (lv_at hl 0 rfl) ?_
      refine getF (q0 := 1) (k0 := 3) (v := .ref a_ro) C hE hP inA4 rfl rfl (by decide) qFX4_18 rfl rfl dX4_findByLowering_39 ?_
      refine lv_iload hx hb dX4_findByLowering_42 (lv_at hl 3 rfl) ?_
      replace h := gd h; obtain ⟨g6, h⟩ := h
      refine aldZ (q0 := 5) C hE hP rfl g6 dX4_findByLowering_44 ?_
      refine lv_if_eq (tgt := 59) hx hb dX4_findByLowering_45 (by decide) (fun c7 => ?_) (fun c7 => ?_)
      · replace h := ite_t c7 h
        exact lX4_findByLowering_59 C hE hA hret hrec13 ih l2 l3 l4 v_rl v_ro ⟨hP, hD⟩ hS _ (lv_sub hl [0, 1, 2, 3] rfl) h
      · replace h := ite_f c7 h
        refine lv_aload_n hx hb dX4_findByLowering_48 rfl (lv_at hl 0 rfl) ?_
        refine lv_iload hx hb dX4_findByLowering_49 (lv_at hl 3 rfl) ?_
        replace h := bnd h; obtain ⟨q8, e9, h⟩ := h
        refine wrVi (ws1 := [(a_g, .inr (1, [.ref a_gw, .ref a_gk])), (a_r, .inr (4, [.ref a_g, .ref a_rs, .ref a_rl, .ref a_ro])), (a_gw, .inl (T 0, 90, .inl v_gw)), (a_gk, .inl (T 0, 18, .inl v_gk)), (a_rl, .inl (T 0, 45, .inl q8.2)), (a_ro, .inl (T 1, 45, .inl v_ro))]) C hE hP hD hS hA (kX4_lowerAt l D T a_r a_g a_rs a_rl a_ro v_rl l4 _ q8 e9) mX4_lowerAt qLX4_49 [1, 4] [0, 2, 3, 5] 1 rfl rfl rfl rfl rfl rfl rfl rfl rfl ⟨rfl, rfl⟩ ⟨Nat.le_of_ble_eq_true rfl, Nat.le_of_ble_eq_true rfl⟩ rfl hl.1 rfl (Nat.le_of_ble_eq_true rfl) dX4_findByLowering_51 ⟨Nat.le_of_ble_eq_true rfl, Nat.le_of_ble_eq_true rfl⟩ ?_; clear hP hD hS; intro H locs hP hD hS
        refine lv_if_eq (tgt := 59) hx hb dX4_findByLowering_54 (by decide) (fun c10 => ?_) (fun c10 => ?_)
        · rw [if_pos c10] at h
          exact lX4_findByLowering_59 C hE hA hret hrec13 ih l2 l3 l4 q8.2 v_ro ⟨hP, hD⟩ hS _ (lv_sub hl [0, 1, 2, 3] rfl) h
        · rw [if_neg c10] at h
          refine lv_iconst (v := 1) hx hb dX4_findByLowering_57 (by decide) ?_
          refine lv_istore_n (lv' := [(2, .int 1), (0, .ref a_r), (3, .int l3), (4, .int l4)]) hx hb dX4_findByLowering_58 rfl hl (by decide) rfl (fun ls hl => ?_)
          exact lX4_findByLowering_59 C hE hA hret hrec13 ih 1 l3 l4 q8.2 v_ro ⟨hP, hD⟩ hS _ (lv_sub hl [1, 0, 2, 3] rfl) h
set_option maxHeartbeats 4000000 in
set_option maxRecDepth 100000 in
theorem lX4_findByLowering_13 {p : Program} {l : Launch} {e : Env} {s : State} {m : MethodId} {args : Array Value} {below : List Frame} {meth : Method} {c : Code} {Q : State → Prop} {D : va_G} {T : Nat → ClassId} {a_g a_gw a_gk a_r a_rs a_rl a_ro : Nat} {v_gw : Nat → Int32} {v_gk : Nat → Int32} {A : Nat → Prop} {r : (Nat → Int32) × (Nat → Int32)} (C : CallFix p m c cX4_findByLowering 5 s args aw RX4) (hE : eK D T s) (hA : ∀ q : Nat, s.heap.size ≤ q → A q) (hret : WrRetV p l e ({ frames := 3, cells := 0, slots := 0, locals := 68 } : Room) s m args below meth c Q cX4_findByLowering D A [(a_g, .inr (1, [.ref a_gw, .ref a_gk])), (a_r, .inr (4, [.ref a_g, .ref a_rs, .ref a_rl, .ref a_ro])), (a_gw, .inl (T 0, 90, .inl v_gw)), (a_gk, .inl (T 0, 18, .inl v_gk)), (a_rl, .inl (T 0, 45, .inl r.1)), (a_ro, .inl (T 1, 45, .inl r.2))]) : ∀ (k : Nat) (l2 : Int32) (l3 : Int32) (v_rl : Nat → Int32) (v_ro : Nat → Int32) {H : Heap} {locs : List Loc} (hPD : va_PD D A [(a_g, .inr (1, [.ref a_gw, .ref a_gk])), (a_r, .inr (4, [.ref a_g, .ref a_rs, .ref a_rl, .ref a_ro])), (a_gw, .inl (T 0, 90, .inl v_gw)), (a_gk, .inl (T 0, 18, .inl v_gk)), (a_rl, .inl (T 0, 45, .inl v_rl)), (a_ro, .inl (T 1, 45, .inl v_ro))] H) (hS : va_S A s.heap H locs) (ls : Array Slot) (hl : lv_has ls 5 [(0, .ref a_r), (2, .int l2), (3, .int l3)]) (h : fX4_findByLowering_13 v_gw v_gk k l2 l3 v_rl v_ro = some r), W p l e ({ frames := 3, cells := 0, slots := 0, locals := 68 } : Room) s m args below meth c H locs 0 0 Q (F0 m 13 ls []) := by
  have hx := C.1
  have hb := C.2.1
  intro k
  induction k with
  | zero =>
    intro l2 l3 v_rl v_ro H locs hPD hS ls hl h
    exact nomatch (show (none : Option ((Nat → Int32) × (Nat → Int32))) = some r from h)
  | succ k ih =>
    intro l2 l3 v_rl v_ro H locs hPD hS ls hl h
    obtain ⟨hP, hD⟩ := hPD
    rw [fX4_findByLowering_13] at h
    refine lv_iload_n hx hb dX4_findByLowering_13 rfl (lv_at hl 2 rfl) ?_
    refine lv_bipush (v := 45) hx hb dX4_findByLowering_14 (by decide) ?_
    refine lv_icmp_ge (tgt := 71) hx hb dX4_findByLowering_16 (by decide) (fun c3 => ?_) (fun c3 => ?_)
    · replace h := ite_t c3 h
      replace h := Option.some.inj h
      exact hret _ _ _ _ dX4_findByLowering_71 (by rw [← h]; exact hP) hS
    · replace h := ite_f c3 h
      refine lv_iload_n hx hb dX4_findByLowering_19 rfl (lv_at hl 1 rfl) ?_
      refine lv_if_eq (tgt := 71) hx hb dX4_findByLowering_20 (by decide) (fun c4 => ?_) (fun c4 => ?_)
      · replace h := ite_t c4 h
        replace h := Option.some.inj h
        exact hret _ _ _ _ dX4_findByLowering_71 (by rw [← h]; exact hP) hS
      · replace h := ite_f c4 h
        refine lv_iconst (v := 0) hx hb dX4_findByLowering_23 (by decide) ?_
        refine lv_istore_n (lv' := [(2, .int 0), (0, .ref a_r), (3, .int l3)]) hx hb dX4_findByLowering_24 rfl hl (by decide) rfl (fun ls hl => ?_)
        refine lv_iconst (v := 0) hx hb dX4_findByLowering_25 (by decide) ?_
        refine lv_istore (lv' := [(4, .int 0), (2, .int 0), (0, .ref a_r), (3, .int l3)]) hx hb dX4_findByLowering_26 hl (by decide) rfl (fun ls hl => ?_)
        exact lX4_findByLowering_28 C hE hA hret ih 64 0 l3 0 v_rl v_ro ⟨hP, hD⟩ hS _ (lv_sub hl [2, 1, 3, 0] rfl) h
set_option maxHeartbeats 4000000 in
set_option maxRecDepth 100000 in
theorem kX4_findByLowering (l : Launch) (D : va_G) (T : Nat → ClassId) (a_g a_gw a_gk a_r a_rs a_rl a_ro : Nat) (v_gw : Nat → Int32) (v_gk : Nat → Int32) (v_rl : Nat → Int32) (v_ro : Nat → Int32) (p0 : Int32) (sz : Nat) (r : (Nat → Int32) × (Nat → Int32)) (h : fX4_findByLowering v_gw v_gk v_rl v_ro p0 = some r) : WrV l yX4_findByLowering cX4_findByLowering 5 ({ frames := 3, cells := 0, slots := 0, locals := 68 } : Room) D T sz [(a_g, .inr (1, [.ref a_gw, .ref a_gk])), (a_r, .inr (4, [.ref a_g, .ref a_rs, .ref a_rl, .ref a_ro])), (a_gw, .inl (T 0, 90, .inl v_gw)), (a_gk, .inl (T 0, 18, .inl v_gk)), (a_rl, .inl (T 0, 45, .inl v_rl)), (a_ro, .inl (T 1, 45, .inl v_ro))] [(a_g, .inr (1, [.ref a_gw, .ref a_gk])), (a_r, .inr (4, [.ref a_g, .ref a_rs, .ref a_rl, .ref a_ro])), (a_gw, .inl (T 0, 90, .inl v_gw)), (a_gk, .inl (T 0, 18, .inl v_gk)), (a_rl, .inl (T 0, 45, .inl r.1)), (a_ro, .inl (T 1, 45, .inl r.2))] [.ref a_r, .int p0] := by
  unfold fX4_findByLowering at h
  refine wrMetV (by decide +kernel) rfl (fun p e s m args below meth c Q A C hE hA hP hD hS hret ls hl => ?_)
  have hx := C.1
  have hb := C.2.1
  have hl : lv_has ls 5 [(0, .ref a_r), (1, .int p0)] := hl
  refine lv_aload_n hx hb dX4_findByLowering_0 rfl (lv_at hl 0 rfl) ?_
  refine lv_aload_n hx hb dX4_findByLowering_1 rfl (lv_at hl 0 rfl) ?_
  refine getF (q0 := 1) (k0 := 2) (v := .ref a_rl) C hE hP inA4 rfl rfl (by decide) qFX4_15 rfl rfl dX4_findByLowering_2 ?_
  refine lv_iload_n hx hb dX4_findByLowering_5 rfl (lv_at hl 1 rfl) ?_
  replace h := bnd h; obtain ⟨q1, e2, h⟩ := h
  refine wrVv (ws1 := [(a_g, .inr (1, [.ref a_gw, .ref a_gk])), (a_r, .inr (4, [.ref a_g, .ref a_rs, .ref a_rl, .ref a_ro])), (a_gw, .inl (T 0, 90, .inl v_gw)), (a_gk, .inl (T 0, 18, .inl v_gk)), (a_rl, .inl (T 0, 45, .inl q1.2)), (a_ro, .inl (T 1, 45, .inl q1.1))]) C hE hP hD hS hA (kX4_begin l D T a_g a_gw a_gk a_r a_rs a_rl a_ro a_rl v_gw v_gk v_ro 45 v_rl p0 _ q1 e2) mX4_begin qLX4_37 [0, 1, 2, 3, 5, 4] [] 1 rfl rfl rfl rfl rfl rfl rfl rfl rfl ⟨rfl, rfl⟩ ⟨Nat.le_of_ble_eq_true rfl, Nat.le_of_ble_eq_true rfl⟩ rfl hl.1 rfl (Nat.le_of_ble_eq_true rfl) dX4_findByLowering_6 ⟨Nat.le_of_ble_eq_true rfl, Nat.le_of_ble_eq_true rfl⟩ ?_; clear hP hD hS; intro H locs hP hD hS
  refine lv_iconst (v := 1) hx hb dX4_findByLowering_9 (by decide) ?_
  refine lv_istore_n (lv' := [(2, .int 1), (0, .ref a_r), (1, .int p0)]) hx hb dX4_findByLowering_10 rfl hl (by decide) rfl (fun ls hl => ?_)
  refine lv_iconst (v := 0) hx hb dX4_findByLowering_11 (by decide) ?_
  refine lv_istore_n (lv' := [(3, .int 0), (2, .int 1), (0, .ref a_r), (1, .int p0)]) hx hb dX4_findByLowering_12 rfl hl (by decide) rfl (fun ls hl => ?_)
  exact lX4_findByLowering_13 C hE hA hret 64 1 0 q1.2 q1.1 ⟨hP, hD⟩ hS _ (lv_sub hl [2, 1, 0] rfl) h

def fX5_length (t_len : Int32) : Int32 :=
  t_len
set_option maxHeartbeats 4000000 in
set_option maxRecDepth 100000 in
theorem kX5_length (l : Launch) (D : va_G) (T : Nat → ClassId) (a_t a_ti a_tn : Nat) (t_len : Int32) (t_cur : Int32) (t_kin : Int32) (t_tol : Int32) (t_don : Int32) : RdI l yX5_length cX5_length 1 .int ({ frames := 0, cells := 0, slots := 0, locals := 0 } : Room) D T [(a_t, .inr (5, [.ref a_ti, .ref a_tn, .int t_len, .int t_cur, .int t_kin, .int t_tol, .int t_don]))] [.ref a_t] (fX5_length t_len) := by
  obtain ⟨r, h⟩ : ∃ r, fX5_length t_len = r := ⟨_, rfl⟩
  rw [h]
  unfold fX5_length at h
  refine rdMet (by decide +kernel) rfl (fun p e s m args below meth c Q C hE hP hret ls hl => ?_)
  have hx := C.1
  have hb := C.2.1
  have hl : lv_has ls 1 [(0, .ref a_t)] := hl
  refine lv_aload_n hx hb dX5_length_0 rfl (lv_at hl 0 rfl) ?_
  refine getF (q0 := 0) (k0 := 2) (v := .int t_len) C hE hP inA5 rfl rfl (by decide) qFX5_19 rfl rfl dX5_length_1 ?_
  exact hret _ _ _ _ dX5_length_4 rfl h

def fX5_add_39 (t_len : Int32) (v_ti : Nat → Int32) : Option (Int32 × Int32 × (Nat → Int32)) :=
  some (t_len, t_len, v_ti)
def fX5_add (t_len : Int32) (v_ti : Nat → Int32) (p0 : Int32) : Option (Int32 × Int32 × (Nat → Int32)) :=
  if t_len < 0 then
    fX5_add_39 t_len v_ti
  else
    if 60 ≤ t_len then
      fX5_add_39 t_len v_ti
    else
      if vin t_len 60 = true then
      fX5_add_39 (t_len + 1) (upd v_ti t_len.toNatClampNeg p0.toUInt32.toUInt16.toUInt32.toInt32)
      else none
set_option maxHeartbeats 4000000 in
set_option maxRecDepth 100000 in
theorem lX5_add_39 {p : Program} {l : Launch} {e : Env} {s : State} {m : MethodId} {args : Array Value} {below : List Frame} {meth : Method} {c : Code} {Q : State → Prop} {D : va_G} {T : Nat → ClassId} {a_t a_ti a_tn : Nat} {t_cur : Int32} {t_kin : Int32} {t_tol : Int32} {t_don : Int32} {A : Nat → Prop} {r : Int32 × Int32 × (Nat → Int32)} (C : CallFix p m c cX5_add 2 s args aw RX5) (hE : eK D T s) (hA : ∀ q : Nat, s.heap.size ≤ q → A q) (hret : WrRet p l e ({ frames := 0, cells := 0, slots := 0, locals := 0 } : Room) s m args below meth c Q cX5_add .int D A [(a_t, .inr (5, [.ref a_ti, .ref a_tn, .int r.2.1, .int t_cur, .int t_kin, .int t_tol, .int t_don])), (a_ti, .inl (T 2, 60, .inl r.2.2))] r.1) (t_len : Int32) (v_ti : Nat → Int32) {H : Heap} {locs : List Loc} (hPD : va_PD D A [(a_t, .inr (5, [.ref a_ti, .ref a_tn, .int t_len, .int t_cur, .int t_kin, .int t_tol, .int t_don])), (a_ti, .inl (T 2, 60, .inl v_ti))] H) (hS : va_S A s.heap H locs) (ls : Array Slot) (hl : lv_has ls 2 [(0, .ref a_t)]) (h : fX5_add_39 t_len v_ti = some r) : W p l e ({ frames := 0, cells := 0, slots := 0, locals := 0 } : Room) s m args below meth c H locs 0 0 Q (F0 m 39 ls []) := by
  have hx := C.1
  have hb := C.2.1
  obtain ⟨hP, hD⟩ := hPD
  unfold fX5_add_39 at h
  refine lv_aload_n hx hb dX5_add_39 rfl (lv_at hl 0 rfl) ?_
  refine getF (q0 := 0) (k0 := 2) (v := .int t_len) C hE hP inA5 rfl rfl (by decide) qFX5_19 rfl rfl dX5_add_40 ?_
  replace h := Option.some.inj h
  exact hret _ _ _ _ _ _ dX5_add_43 rfl (by rw [← h] <;> rfl) (by rw [← h]; exact hP) hS
set_option maxHeartbeats 4000000 in
set_option maxRecDepth 100000 in
theorem kX5_add (l : Launch) (D : va_G) (T : Nat → ClassId) (a_t a_ti a_tn : Nat) (t_len : Int32) (t_cur : Int32) (t_kin : Int32) (t_tol : Int32) (t_don : Int32) (v_ti : Nat → Int32) (p0 : Int32) (sz : Nat) (r : Int32 × Int32 × (Nat → Int32)) (h : fX5_add t_len v_ti p0 = some r) : WrI l yX5_add cX5_add 2 .int ({ frames := 0, cells := 0, slots := 0, locals := 0 } : Room) D T sz [(a_t, .inr (5, [.ref a_ti, .ref a_tn, .int t_len, .int t_cur, .int t_kin, .int t_tol, .int t_don])), (a_ti, .inl (T 2, 60, .inl v_ti))] [(a_t, .inr (5, [.ref a_ti, .ref a_tn, .int r.2.1, .int t_cur, .int t_kin, .int t_tol, .int t_don])), (a_ti, .inl (T 2, 60, .inl r.2.2))] [.ref a_t, .int p0] r.1 := by
  unfold fX5_add at h
  refine wrMet (by decide +kernel) rfl (fun p e s m args below meth c Q A C hE hA hP hD hS hret ls hl => ?_)
  have hx := C.1
  have hb := C.2.1
  have hl : lv_has ls 2 [(0, .ref a_t), (1, .int p0)] := hl
  refine lv_aload_n hx hb dX5_add_0 rfl (lv_at hl 0 rfl) ?_
  refine getF (q0 := 0) (k0 := 2) (v := .int t_len) C hE hP inA5 rfl rfl (by decide) qFX5_19 rfl rfl dX5_add_1 ?_
  refine lv_if_lt (tgt := 39) hx hb dX5_add_4 (by decide) (fun c1 => ?_) (fun c1 => ?_)
  · replace h := ite_t c1 h
    exact lX5_add_39 C hE hA hret t_len v_ti ⟨hP, hD⟩ hS _ (lv_sub hl [0] rfl) h
  · replace h := ite_f c1 h
    refine lv_aload_n hx hb dX5_add_7 rfl (lv_at hl 0 rfl) ?_
    refine getF (q0 := 0) (k0 := 2) (v := .int t_len) C hE hP inA5 rfl rfl (by decide) qFX5_19 rfl rfl dX5_add_8 ?_
    refine lv_aload_n hx hb dX5_add_11 rfl (lv_at hl 0 rfl) ?_
    refine getF (q0 := 0) (k0 := 0) (v := .ref a_ti) C hE hP inA5 rfl rfl (by decide) qFX5_9 rfl rfl dX5_add_12 ?_
    refine alen (q0 := 1) (t0 := 2) (v := 60) C hE hP rfl rfl (by decide) dX5_add_15 ?_
    refine lv_icmp_ge (tgt := 39) hx hb dX5_add_16 (by decide) (fun c2 => ?_) (fun c2 => ?_)
    · replace h := ite_t c2 h
      exact lX5_add_39 C hE hA hret t_len v_ti ⟨hP, hD⟩ hS _ (lv_sub hl [0] rfl) h
    · replace h := ite_f c2 h
      refine lv_aload_n hx hb dX5_add_19 rfl (lv_at hl 0 rfl) ?_
      refine getF (q0 := 0) (k0 := 0) (v := .ref a_ti) C hE hP inA5 rfl rfl (by decide) qFX5_9 rfl rfl dX5_add_20 ?_
      refine lv_aload_n hx hb dX5_add_23 rfl (lv_at hl 0 rfl) ?_
      refine getF (q0 := 0) (k0 := 2) (v := .int t_len) C hE hP inA5 rfl rfl (by decide) qFX5_19 rfl rfl dX5_add_24 ?_
      refine lv_iload_n hx hb dX5_add_27 rfl (lv_at hl 1 rfl) ?_
      replace h := gd h; obtain ⟨g3, h⟩ := h
      refine astC (q0 := 1) (ws1 := [(a_t, .inr (5, [.ref a_ti, .ref a_tn, .int t_len, .int t_cur, .int t_kin, .int t_tol, .int t_don])), (a_ti, .inl (T 2, 60, .inl (upd v_ti t_len.toNatClampNeg p0.toUInt32.toUInt16.toUInt32.toInt32)))]) C hE hP hD hS rfl g3 rfl dX5_add_28 ?_; clear hP hD hS; intro H locs hP hD hS
      refine lv_aload_n hx hb dX5_add_29 rfl (lv_at hl 0 rfl) ?_
      refine lv_dup hx hb dX5_add_30 rfl ?_
      refine getF (q0 := 0) (k0 := 2) (v := .int t_len) C hE hP inA5 rfl rfl (by decide) qFX5_19 rfl rfl dX5_add_31 ?_
      refine lv_iconst (v := 1) hx hb dX5_add_34 (by decide) ?_
      refine lv_iadd hx hb dX5_add_35 ?_
      refine putF (q0 := 0) (k0 := 2) (ws1 := [(a_t, .inr (5, [.ref a_ti, .ref a_tn, .int (t_len + 1), .int t_cur, .int t_kin, .int t_tol, .int t_don])), (a_ti, .inl (T 2, 60, .inl (upd v_ti t_len.toNatClampNeg p0.toUInt32.toUInt16.toUInt32.toInt32)))]) C hE hP hD hS inA5 tyX5_ok nmX5 rfl rfl (by decide) qFX5_19 rfl rfl rfl rfl (Nat.le_of_ble_eq_true rfl) rfl dX5_add_36 ?_; clear hP hD hS; intro H locs hP hD hS
      exact lX5_add_39 C hE hA hret (t_len + 1) (upd v_ti t_len.toNatClampNeg p0.toUInt32.toUInt16.toUInt32.toInt32) ⟨hP, hD⟩ hS _ (lv_sub hl [0] rfl) h

def fX5_clear (t_len : Int32) : Option Int32 :=
  some 0
set_option maxHeartbeats 4000000 in
set_option maxRecDepth 100000 in
theorem kX5_clear (l : Launch) (D : va_G) (T : Nat → ClassId) (a_t a_ti a_tn : Nat) (t_len : Int32) (t_cur : Int32) (t_kin : Int32) (t_tol : Int32) (t_don : Int32) (sz : Nat) (r : Int32) (h : fX5_clear t_len = some r) : WrV l yX5_clear cX5_clear 1 ({ frames := 0, cells := 0, slots := 0, locals := 0 } : Room) D T sz [(a_t, .inr (5, [.ref a_ti, .ref a_tn, .int t_len, .int t_cur, .int t_kin, .int t_tol, .int t_don]))] [(a_t, .inr (5, [.ref a_ti, .ref a_tn, .int r, .int t_cur, .int t_kin, .int t_tol, .int t_don]))] [.ref a_t] := by
  unfold fX5_clear at h
  refine wrMetV (by decide +kernel) rfl (fun p e s m args below meth c Q A C hE hA hP hD hS hret ls hl => ?_)
  have hx := C.1
  have hb := C.2.1
  have hl : lv_has ls 1 [(0, .ref a_t)] := hl
  refine lv_aload_n hx hb dX5_clear_0 rfl (lv_at hl 0 rfl) ?_
  refine lv_iconst (v := 0) hx hb dX5_clear_1 (by decide) ?_
  refine putF (q0 := 0) (k0 := 2) (ws1 := [(a_t, .inr (5, [.ref a_ti, .ref a_tn, .int 0, .int t_cur, .int t_kin, .int t_tol, .int t_don]))]) C hE hP hD hS inA5 tyX5_ok nmX5 rfl rfl (by decide) qFX5_19 rfl rfl rfl rfl (Nat.le_of_ble_eq_true rfl) rfl dX5_clear_2 ?_; clear hP hD hS; intro H locs hP hD hS
  replace h := Option.some.inj h
  exact hret _ _ _ _ dX5_clear_5 (by rw [← h]; exact hP) hS

def fX5_rewind (t_cur : Int32) (t_don : Int32) : Option (Int32 × Int32) :=
  some (0, 0)
set_option maxHeartbeats 4000000 in
set_option maxRecDepth 100000 in
theorem kX5_rewind (l : Launch) (D : va_G) (T : Nat → ClassId) (a_t a_ti a_tn : Nat) (t_len : Int32) (t_cur : Int32) (t_kin : Int32) (t_tol : Int32) (t_don : Int32) (sz : Nat) (r : Int32 × Int32) (h : fX5_rewind t_cur t_don = some r) : WrV l yX5_rewind cX5_rewind 1 ({ frames := 0, cells := 0, slots := 0, locals := 0 } : Room) D T sz [(a_t, .inr (5, [.ref a_ti, .ref a_tn, .int t_len, .int t_cur, .int t_kin, .int t_tol, .int t_don]))] [(a_t, .inr (5, [.ref a_ti, .ref a_tn, .int t_len, .int r.1, .int t_kin, .int t_tol, .int r.2]))] [.ref a_t] := by
  unfold fX5_rewind at h
  refine wrMetV (by decide +kernel) rfl (fun p e s m args below meth c Q A C hE hA hP hD hS hret ls hl => ?_)
  have hx := C.1
  have hb := C.2.1
  have hl : lv_has ls 1 [(0, .ref a_t)] := hl
  refine lv_aload_n hx hb dX5_rewind_0 rfl (lv_at hl 0 rfl) ?_
  refine lv_iconst (v := 0) hx hb dX5_rewind_1 (by decide) ?_
  refine putF (q0 := 0) (k0 := 3) (ws1 := [(a_t, .inr (5, [.ref a_ti, .ref a_tn, .int t_len, .int 0, .int t_kin, .int t_tol, .int t_don]))]) C hE hP hD hS inA5 tyX5_ok nmX5 rfl rfl (by decide) qFX5_23 rfl rfl rfl rfl (Nat.le_of_ble_eq_true rfl) rfl dX5_rewind_2 ?_; clear hP hD hS; intro H locs hP hD hS
  refine lv_aload_n hx hb dX5_rewind_5 rfl (lv_at hl 0 rfl) ?_
  refine lv_iconst (v := 0) hx hb dX5_rewind_6 (by decide) ?_
  refine putF (q0 := 0) (k0 := 6) (ws1 := [(a_t, .inr (5, [.ref a_ti, .ref a_tn, .int t_len, .int 0, .int t_kin, .int t_tol, .int 0]))]) C hE hP hD hS inA5 tyX5_ok nmX5 rfl rfl (by decide) qFX5_32 rfl rfl rfl rfl (Nat.le_of_ble_eq_true rfl) rfl dX5_rewind_7 ?_; clear hP hD hS; intro H locs hP hD hS
  replace h := Option.some.inj h
  exact hret _ _ _ _ dX5_rewind_10 (by rw [← h]; exact hP) hS

def fX5_countDone (t_don : Int32) : Option Int32 :=
  some (t_don + 1)
set_option maxHeartbeats 4000000 in
set_option maxRecDepth 100000 in
theorem kX5_countDone (l : Launch) (D : va_G) (T : Nat → ClassId) (a_t a_ti a_tn : Nat) (t_len : Int32) (t_cur : Int32) (t_kin : Int32) (t_tol : Int32) (t_don : Int32) (sz : Nat) (r : Int32) (h : fX5_countDone t_don = some r) : WrV l yX5_countDone cX5_countDone 1 ({ frames := 0, cells := 0, slots := 0, locals := 0 } : Room) D T sz [(a_t, .inr (5, [.ref a_ti, .ref a_tn, .int t_len, .int t_cur, .int t_kin, .int t_tol, .int t_don]))] [(a_t, .inr (5, [.ref a_ti, .ref a_tn, .int t_len, .int t_cur, .int t_kin, .int t_tol, .int r]))] [.ref a_t] := by
  unfold fX5_countDone at h
  refine wrMetV (by decide +kernel) rfl (fun p e s m args below meth c Q A C hE hA hP hD hS hret ls hl => ?_)
  have hx := C.1
  have hb := C.2.1
  have hl : lv_has ls 1 [(0, .ref a_t)] := hl
  refine lv_aload_n hx hb dX5_countDone_0 rfl (lv_at hl 0 rfl) ?_
  refine lv_dup hx hb dX5_countDone_1 rfl ?_
  refine getF (q0 := 0) (k0 := 6) (v := .int t_don) C hE hP inA5 rfl rfl (by decide) qFX5_32 rfl rfl dX5_countDone_2 ?_
  refine lv_iconst (v := 1) hx hb dX5_countDone_5 (by decide) ?_
  refine lv_iadd hx hb dX5_countDone_6 ?_
  refine putF (q0 := 0) (k0 := 6) (ws1 := [(a_t, .inr (5, [.ref a_ti, .ref a_tn, .int t_len, .int t_cur, .int t_kin, .int t_tol, .int (t_don + 1)]))]) C hE hP hD hS inA5 tyX5_ok nmX5 rfl rfl (by decide) qFX5_32 rfl rfl rfl rfl (Nat.le_of_ble_eq_true rfl) rfl dX5_countDone_7 ?_; clear hP hD hS; intro H locs hP hD hS
  replace h := Option.some.inj h
  exact hret _ _ _ _ dX5_countDone_10 (by rw [← h]; exact hP) hS

def fX5_doneCommands (t_don : Int32) : Int32 :=
  t_don
set_option maxHeartbeats 4000000 in
set_option maxRecDepth 100000 in
theorem kX5_doneCommands (l : Launch) (D : va_G) (T : Nat → ClassId) (a_t a_ti a_tn : Nat) (t_len : Int32) (t_cur : Int32) (t_kin : Int32) (t_tol : Int32) (t_don : Int32) : RdI l yX5_doneCommands cX5_doneCommands 1 .int ({ frames := 0, cells := 0, slots := 0, locals := 0 } : Room) D T [(a_t, .inr (5, [.ref a_ti, .ref a_tn, .int t_len, .int t_cur, .int t_kin, .int t_tol, .int t_don]))] [.ref a_t] (fX5_doneCommands t_don) := by
  obtain ⟨r, h⟩ : ∃ r, fX5_doneCommands t_don = r := ⟨_, rfl⟩
  rw [h]
  unfold fX5_doneCommands at h
  refine rdMet (by decide +kernel) rfl (fun p e s m args below meth c Q C hE hP hret ls hl => ?_)
  have hx := C.1
  have hb := C.2.1
  have hl : lv_has ls 1 [(0, .ref a_t)] := hl
  refine lv_aload_n hx hb dX5_doneCommands_0 rfl (lv_at hl 0 rfl) ?_
  refine getF (q0 := 0) (k0 := 6) (v := .int t_don) C hE hP inA5 rfl rfl (by decide) qFX5_32 rfl rfl dX5_doneCommands_1 ?_
  exact hret _ _ _ _ dX5_doneCommands_4 rfl h

def fX5_kind (t_kin : Int32) : Int32 :=
  t_kin
set_option maxHeartbeats 4000000 in
set_option maxRecDepth 100000 in
theorem kX5_kind (l : Launch) (D : va_G) (T : Nat → ClassId) (a_t a_ti a_tn : Nat) (t_len : Int32) (t_cur : Int32) (t_kin : Int32) (t_tol : Int32) (t_don : Int32) : RdI l yX5_kind cX5_kind 1 .int ({ frames := 0, cells := 0, slots := 0, locals := 0 } : Room) D T [(a_t, .inr (5, [.ref a_ti, .ref a_tn, .int t_len, .int t_cur, .int t_kin, .int t_tol, .int t_don]))] [.ref a_t] (fX5_kind t_kin) := by
  obtain ⟨r, h⟩ : ∃ r, fX5_kind t_kin = r := ⟨_, rfl⟩
  rw [h]
  unfold fX5_kind at h
  refine rdMet (by decide +kernel) rfl (fun p e s m args below meth c Q C hE hP hret ls hl => ?_)
  have hx := C.1
  have hb := C.2.1
  have hl : lv_has ls 1 [(0, .ref a_t)] := hl
  refine lv_aload_n hx hb dX5_kind_0 rfl (lv_at hl 0 rfl) ?_
  refine getF (q0 := 0) (k0 := 4) (v := .int t_kin) C hE hP inA5 rfl rfl (by decide) qFX5_26 rfl rfl dX5_kind_1 ?_
  exact hret _ _ _ _ dX5_kind_4 rfl h

def fX5_number (v_tn : Nat → Int32) (p0 : Int32) : Option Int32 :=
  if p0 < 0 then
    some 0
  else
    if 3 ≤ p0 then
      some 0
    else
      if vin p0 3 = true then
      some (v_tn p0.toNatClampNeg)
      else none
set_option maxHeartbeats 4000000 in
set_option maxRecDepth 100000 in
theorem kX5_number (l : Launch) (D : va_G) (T : Nat → ClassId) (a_t a_ti a_tn : Nat) (t_len : Int32) (t_cur : Int32) (t_kin : Int32) (t_tol : Int32) (t_don : Int32) (v_tn : Nat → Int32) (p0 : Int32) (r : Int32) (h : fX5_number v_tn p0 = some r) : RdI l yX5_number cX5_number 2 .int ({ frames := 0, cells := 0, slots := 0, locals := 0 } : Room) D T [(a_t, .inr (5, [.ref a_ti, .ref a_tn, .int t_len, .int t_cur, .int t_kin, .int t_tol, .int t_don])), (a_tn, .inl (T 0, 3, .inl v_tn))] [.ref a_t, .int p0] r := by
  unfold fX5_number at h
  refine rdMet (by decide +kernel) rfl (fun p e s m args below meth c Q C hE hP hret ls hl => ?_)
  have hx := C.1
  have hb := C.2.1
  have hl : lv_has ls 2 [(0, .ref a_t), (1, .int p0)] := hl
  refine lv_iload_n hx hb dX5_number_0 rfl (lv_at hl 1 rfl) ?_
  refine lv_if_lt (tgt := 22) hx hb dX5_number_1 (by decide) (fun c1 => ?_) (fun c1 => ?_)
  · replace h := ite_t c1 h
    refine lv_iconst (v := 0) hx hb dX5_number_22 (by decide) ?_
    exact hret _ _ _ _ dX5_number_23 rfl (Option.some.inj h)
  · replace h := ite_f c1 h
    refine lv_iload_n hx hb dX5_number_4 rfl (lv_at hl 1 rfl) ?_
    refine lv_aload_n hx hb dX5_number_5 rfl (lv_at hl 0 rfl) ?_
    refine getF (q0 := 0) (k0 := 1) (v := .ref a_tn) C hE hP inA5 rfl rfl (by decide) qFX5_15 rfl rfl dX5_number_6 ?_
    refine alen (q0 := 1) (t0 := 0) (v := 3) C hE hP rfl rfl (by decide) dX5_number_9 ?_
    refine lv_icmp_ge (tgt := 22) hx hb dX5_number_10 (by decide) (fun c2 => ?_) (fun c2 => ?_)
    · replace h := ite_t c2 h
      refine lv_iconst (v := 0) hx hb dX5_number_22 (by decide) ?_
      exact hret _ _ _ _ dX5_number_23 rfl (Option.some.inj h)
    · replace h := ite_f c2 h
      refine lv_aload_n hx hb dX5_number_13 rfl (lv_at hl 0 rfl) ?_
      refine getF (q0 := 0) (k0 := 1) (v := .ref a_tn) C hE hP inA5 rfl rfl (by decide) qFX5_15 rfl rfl dX5_number_14 ?_
      refine lv_iload_n hx hb dX5_number_17 rfl (lv_at hl 1 rfl) ?_
      replace h := gd h; obtain ⟨g3, h⟩ := h
      refine aldI (q0 := 1) C hE hP rfl g3 dX5_number_18 ?_
      refine lv_goto (tgt := 23) hx hb dX5_number_19 (by decide) ?_
      exact hret _ _ _ _ dX5_number_23 rfl (Option.some.inj h)

def fX5_here (t_len : Int32) (t_cur : Int32) (v_ti : Nat → Int32) : Option Int32 :=
  if t_cur < 0 then
    some ((0 : Int32).toUInt32.toUInt16.toUInt32.toInt32)
  else
    if t_len ≤ t_cur then
      some ((0 : Int32).toUInt32.toUInt16.toUInt32.toInt32)
    else
      if 60 ≤ t_cur then
        some ((0 : Int32).toUInt32.toUInt16.toUInt32.toInt32)
      else
        if vin t_cur 60 = true then
        some ((v_ti t_cur.toNatClampNeg).toUInt32.toUInt16.toUInt32.toInt32)
        else none
set_option maxHeartbeats 4000000 in
set_option maxRecDepth 100000 in
theorem kX5_here (l : Launch) (D : va_G) (T : Nat → ClassId) (a_t a_ti a_tn : Nat) (t_len : Int32) (t_cur : Int32) (t_kin : Int32) (t_tol : Int32) (t_don : Int32) (v_ti : Nat → Int32) (r : Int32) (h : fX5_here t_len t_cur v_ti = some r) : RdI l yX5_here cX5_here 1 .char ({ frames := 0, cells := 0, slots := 0, locals := 0 } : Room) D T [(a_t, .inr (5, [.ref a_ti, .ref a_tn, .int t_len, .int t_cur, .int t_kin, .int t_tol, .int t_don])), (a_ti, .inl (T 2, 60, .inl v_ti))] [.ref a_t] r := by
  unfold fX5_here at h
  refine rdMet (by decide +kernel) rfl (fun p e s m args below meth c Q C hE hP hret ls hl => ?_)
  have hx := C.1
  have hb := C.2.1
  have hl : lv_has ls 1 [(0, .ref a_t)] := hl
  refine lv_aload_n hx hb dX5_here_0 rfl (lv_at hl 0 rfl) ?_
  refine getF (q0 := 0) (k0 := 3) (v := .int t_cur) C hE hP inA5 rfl rfl (by decide) qFX5_23 rfl rfl dX5_here_1 ?_
  refine lv_if_lt (tgt := 42) hx hb dX5_here_4 (by decide) (fun c1 => ?_) (fun c1 => ?_)
  · replace h := ite_t c1 h
    refine lv_iconst (v := 0) hx hb dX5_here_42 (by decide) ?_
    exact hret _ _ _ _ dX5_here_43 rfl (Option.some.inj h)
  · replace h := ite_f c1 h
    refine lv_aload_n hx hb dX5_here_7 rfl (lv_at hl 0 rfl) ?_
    refine getF (q0 := 0) (k0 := 3) (v := .int t_cur) C hE hP inA5 rfl rfl (by decide) qFX5_23 rfl rfl dX5_here_8 ?_
    refine lv_aload_n hx hb dX5_here_11 rfl (lv_at hl 0 rfl) ?_
    refine getF (q0 := 0) (k0 := 2) (v := .int t_len) C hE hP inA5 rfl rfl (by decide) qFX5_19 rfl rfl dX5_here_12 ?_
    refine lv_icmp_ge (tgt := 42) hx hb dX5_here_15 (by decide) (fun c2 => ?_) (fun c2 => ?_)
    · replace h := ite_t c2 h
      refine lv_iconst (v := 0) hx hb dX5_here_42 (by decide) ?_
      exact hret _ _ _ _ dX5_here_43 rfl (Option.some.inj h)
    · replace h := ite_f c2 h
      refine lv_aload_n hx hb dX5_here_18 rfl (lv_at hl 0 rfl) ?_
      refine getF (q0 := 0) (k0 := 3) (v := .int t_cur) C hE hP inA5 rfl rfl (by decide) qFX5_23 rfl rfl dX5_here_19 ?_
      refine lv_aload_n hx hb dX5_here_22 rfl (lv_at hl 0 rfl) ?_
      refine getF (q0 := 0) (k0 := 0) (v := .ref a_ti) C hE hP inA5 rfl rfl (by decide) qFX5_9 rfl rfl dX5_here_23 ?_
      refine alen (q0 := 1) (t0 := 2) (v := 60) C hE hP rfl rfl (by decide) dX5_here_26 ?_
      refine lv_icmp_ge (tgt := 42) hx hb dX5_here_27 (by decide) (fun c3 => ?_) (fun c3 => ?_)
      · replace h := ite_t c3 h
        refine lv_iconst (v := 0) hx hb dX5_here_42 (by decide) ?_
        exact hret _ _ _ _ dX5_here_43 rfl (Option.some.inj h)
      · replace h := ite_f c3 h
        refine lv_aload_n hx hb dX5_here_30 rfl (lv_at hl 0 rfl) ?_
        refine getF (q0 := 0) (k0 := 0) (v := .ref a_ti) C hE hP inA5 rfl rfl (by decide) qFX5_9 rfl rfl dX5_here_31 ?_
        refine lv_aload_n hx hb dX5_here_34 rfl (lv_at hl 0 rfl) ?_
        refine getF (q0 := 0) (k0 := 3) (v := .int t_cur) C hE hP inA5 rfl rfl (by decide) qFX5_23 rfl rfl dX5_here_35 ?_
        replace h := gd h; obtain ⟨g4, h⟩ := h
        refine aldC (q0 := 1) C hE hP rfl g4 dX5_here_38 ?_
        refine lv_goto (tgt := 43) hx hb dX5_here_39 (by decide) ?_
        exact hret _ _ _ _ dX5_here_43 rfl (Option.some.inj h)

def fX5_digitHere (t_len : Int32) (t_cur : Int32) (v_ti : Nat → Int32) : Option Int32 :=
  (fX5_here t_len t_cur v_ti).bind fun q1 =>
  if q1 < 48 then
    some (-1)
  else
    if 57 < q1 then
      some (-1)
    else
      some (q1 - 48)
set_option maxHeartbeats 4000000 in
set_option maxRecDepth 100000 in
theorem kX5_digitHere (l : Launch) (D : va_G) (T : Nat → ClassId) (a_t a_ti a_tn : Nat) (t_len : Int32) (t_cur : Int32) (t_kin : Int32) (t_tol : Int32) (t_don : Int32) (v_ti : Nat → Int32) (r : Int32) (h : fX5_digitHere t_len t_cur v_ti = some r) : RdI l yX5_digitHere cX5_digitHere 2 .int ({ frames := 1, cells := 0, slots := 0, locals := 20 } : Room) D T [(a_t, .inr (5, [.ref a_ti, .ref a_tn, .int t_len, .int t_cur, .int t_kin, .int t_tol, .int t_don])), (a_ti, .inl (T 2, 60, .inl v_ti))] [.ref a_t] r := by
  unfold fX5_digitHere at h
  refine rdMet (by decide +kernel) rfl (fun p e s m args below meth c Q C hE hP hret ls hl => ?_)
  have hx := C.1
  have hb := C.2.1
  have hl : lv_has ls 2 [(0, .ref a_t)] := hl
  refine lv_aload_n hx hb dX5_digitHere_0 rfl (lv_at hl 0 rfl) ?_
  replace h := bnd h; obtain ⟨q1, e2, h⟩ := h
  refine rdV C hE hP (kX5_here l D T a_t a_ti a_tn t_len t_cur t_kin t_tol t_don v_ti q1 e2) mX5_here qLX5_42 [0, 1] 0 rfl rfl rfl rfl ⟨rfl, rfl⟩ ⟨Nat.le_of_ble_eq_true rfl, Nat.le_of_ble_eq_true rfl⟩ rfl hl.1 rfl (Nat.le_of_ble_eq_true rfl) dX5_digitHere_1 ⟨Nat.le_of_ble_eq_true rfl, Nat.le_of_ble_eq_true rfl⟩ ?_
  refine lv_istore_n (lv' := [(1, .int q1), (0, .ref a_t)]) hx hb dX5_digitHere_4 rfl hl (by decide) rfl (fun ls hl => ?_)
  refine lv_iload_n hx hb dX5_digitHere_5 rfl (lv_at hl 0 rfl) ?_
  refine lv_bipush (v := 48) hx hb dX5_digitHere_6 (by decide) ?_
  refine lv_icmp_lt (tgt := 24) hx hb dX5_digitHere_8 (by decide) (fun c3 => ?_) (fun c3 => ?_)
  · replace h := ite_t c3 h
    refine lv_iconst (v := (-1)) hx hb dX5_digitHere_24 (by decide) ?_
    exact hret _ _ _ _ dX5_digitHere_25 rfl (Option.some.inj h)
  · replace h := ite_f c3 h
    refine lv_iload_n hx hb dX5_digitHere_11 rfl (lv_at hl 0 rfl) ?_
    refine lv_bipush (v := 57) hx hb dX5_digitHere_12 (by decide) ?_
    refine lv_icmp_gt (tgt := 24) hx hb dX5_digitHere_14 (by decide) (fun c4 => ?_) (fun c4 => ?_)
    · replace h := ite_t c4 h
      refine lv_iconst (v := (-1)) hx hb dX5_digitHere_24 (by decide) ?_
      exact hret _ _ _ _ dX5_digitHere_25 rfl (Option.some.inj h)
    · replace h := ite_f c4 h
      refine lv_iload_n hx hb dX5_digitHere_17 rfl (lv_at hl 0 rfl) ?_
      refine lv_bipush (v := 48) hx hb dX5_digitHere_18 (by decide) ?_
      refine lv_isub hx hb dX5_digitHere_20 ?_
      refine lv_goto (tgt := 25) hx hb dX5_digitHere_21 (by decide) ?_
      exact hret _ _ _ _ dX5_digitHere_25 rfl (Option.some.inj h)

def fX5_takeSecondDigit (t_len : Int32) (t_cur : Int32) (t_tol : Int32) (v_ti : Nat → Int32) (v_tn : Nat → Int32) : Option (Int32 × (Nat → Int32)) :=
  (fX5_digitHere t_len t_cur v_ti).bind fun q1 =>
  if q1 < 0 then
    some (t_cur, v_tn)
  else
    if (t_tol - 1) < 0 then
      some (t_cur, v_tn)
    else
      if 3 ≤ (t_tol - 1) then
        some (t_cur, v_tn)
      else
        if vin (t_tol - 1) 3 = true then
        if vin (t_tol - 1) 3 = true then
        some ((t_cur + 1), (upd v_tn (t_tol - 1).toNatClampNeg ((10 * (v_tn (t_tol - 1).toNatClampNeg)) + q1)))
        else none
        else none
set_option maxHeartbeats 4000000 in
set_option maxRecDepth 100000 in
theorem kX5_takeSecondDigit (l : Launch) (D : va_G) (T : Nat → ClassId) (a_t a_ti a_tn : Nat) (t_len : Int32) (t_cur : Int32) (t_kin : Int32) (t_tol : Int32) (t_don : Int32) (v_ti : Nat → Int32) (v_tn : Nat → Int32) (sz : Nat) (r : Int32 × (Nat → Int32)) (h : fX5_takeSecondDigit t_len t_cur t_tol v_ti v_tn = some r) : WrV l yX5_takeSecondDigit cX5_takeSecondDigit 3 ({ frames := 2, cells := 0, slots := 0, locals := 41 } : Room) D T sz [(a_t, .inr (5, [.ref a_ti, .ref a_tn, .int t_len, .int t_cur, .int t_kin, .int t_tol, .int t_don])), (a_ti, .inl (T 2, 60, .inl v_ti)), (a_tn, .inl (T 0, 3, .inl v_tn))] [(a_t, .inr (5, [.ref a_ti, .ref a_tn, .int t_len, .int r.1, .int t_kin, .int t_tol, .int t_don])), (a_ti, .inl (T 2, 60, .inl v_ti)), (a_tn, .inl (T 0, 3, .inl r.2))] [.ref a_t] := by
  unfold fX5_takeSecondDigit at h
  refine wrMetV (by decide +kernel) rfl (fun p e s m args below meth c Q A C hE hA hP hD hS hret ls hl => ?_)
  have hx := C.1
  have hb := C.2.1
  have hl : lv_has ls 3 [(0, .ref a_t)] := hl
  refine lv_aload_n hx hb dX5_takeSecondDigit_0 rfl (lv_at hl 0 rfl) ?_
  replace h := bnd h; obtain ⟨q1, e2, h⟩ := h
  refine rdV C hE hP (kX5_digitHere l D T a_t a_ti a_tn t_len t_cur t_kin t_tol t_don v_ti q1 e2) mX5_digitHere qLX5_86 [0, 1] 0 rfl rfl rfl rfl ⟨rfl, rfl⟩ ⟨Nat.le_of_ble_eq_true rfl, Nat.le_of_ble_eq_true rfl⟩ rfl hl.1 rfl (Nat.le_of_ble_eq_true rfl) dX5_takeSecondDigit_1 ⟨Nat.le_of_ble_eq_true rfl, Nat.le_of_ble_eq_true rfl⟩ ?_
  refine lv_istore_n (lv' := [(1, .int q1), (0, .ref a_t)]) hx hb dX5_takeSecondDigit_4 rfl hl (by decide) rfl (fun ls hl => ?_)
  refine lv_aload_n hx hb dX5_takeSecondDigit_5 rfl (lv_at hl 1 rfl) ?_
  refine getF (q0 := 0) (k0 := 5) (v := .int t_tol) C hE hP inA5 rfl rfl (by decide) qFX5_29 rfl rfl dX5_takeSecondDigit_6 ?_
  refine lv_iconst (v := 1) hx hb dX5_takeSecondDigit_9 (by decide) ?_
  refine lv_isub hx hb dX5_takeSecondDigit_10 ?_
  refine lv_istore_n (lv' := [(2, .int (t_tol - 1)), (1, .int q1), (0, .ref a_t)]) hx hb dX5_takeSecondDigit_11 rfl hl (by decide) rfl (fun ls hl => ?_)
  refine lv_iload_n hx hb dX5_takeSecondDigit_12 rfl (lv_at hl 1 rfl) ?_
  refine lv_if_lt (tgt := 56) hx hb dX5_takeSecondDigit_13 (by decide) (fun c3 => ?_) (fun c3 => ?_)
  · replace h := ite_t c3 h
    replace h := Option.some.inj h
    exact hret _ _ _ _ dX5_takeSecondDigit_56 (by rw [← h]; exact hP) hS
  · replace h := ite_f c3 h
    refine lv_iload_n hx hb dX5_takeSecondDigit_16 rfl (lv_at hl 0 rfl) ?_
    refine lv_if_lt (tgt := 56) hx hb dX5_takeSecondDigit_17 (by decide) (fun c4 => ?_) (fun c4 => ?_)
    · replace h := ite_t c4 h
      replace h := Option.some.inj h
      exact hret _ _ _ _ dX5_takeSecondDigit_56 (by rw [← h]; exact hP) hS
    · replace h := ite_f c4 h
      refine lv_iload_n hx hb dX5_takeSecondDigit_20 rfl (lv_at hl 0 rfl) ?_
      refine lv_aload_n hx hb dX5_takeSecondDigit_21 rfl (lv_at hl 2 rfl) ?_
      refine getF (q0 := 0) (k0 := 1) (v := .ref a_tn) C hE hP inA5 rfl rfl (by decide) qFX5_15 rfl rfl dX5_takeSecondDigit_22 ?_
      refine alen (q0 := 2) (t0 := 0) (v := 3) C hE hP rfl rfl (by decide) dX5_takeSecondDigit_25 ?_
      refine lv_icmp_ge (tgt := 56) hx hb dX5_takeSecondDigit_26 (by decide) (fun c5 => ?_) (fun c5 => ?_)
      · replace h := ite_t c5 h
        replace h := Option.some.inj h
        exact hret _ _ _ _ dX5_takeSecondDigit_56 (by rw [← h]; exact hP) hS
      · replace h := ite_f c5 h
        refine lv_aload_n hx hb dX5_takeSecondDigit_29 rfl (lv_at hl 2 rfl) ?_
        refine getF (q0 := 0) (k0 := 1) (v := .ref a_tn) C hE hP inA5 rfl rfl (by decide) qFX5_15 rfl rfl dX5_takeSecondDigit_30 ?_
        refine lv_iload_n hx hb dX5_takeSecondDigit_33 rfl (lv_at hl 0 rfl) ?_
        refine lv_bipush (v := 10) hx hb dX5_takeSecondDigit_34 (by decide) ?_
        refine lv_aload_n hx hb dX5_takeSecondDigit_36 rfl (lv_at hl 2 rfl) ?_
        refine getF (q0 := 0) (k0 := 1) (v := .ref a_tn) C hE hP inA5 rfl rfl (by decide) qFX5_15 rfl rfl dX5_takeSecondDigit_37 ?_
        refine lv_iload_n hx hb dX5_takeSecondDigit_40 rfl (lv_at hl 0 rfl) ?_
        replace h := gd h; obtain ⟨g6, h⟩ := h
        refine aldI (q0 := 2) C hE hP rfl g6 dX5_takeSecondDigit_41 ?_
        refine lv_imul hx hb dX5_takeSecondDigit_42 ?_
        refine lv_iload_n hx hb dX5_takeSecondDigit_43 rfl (lv_at hl 1 rfl) ?_
        refine lv_iadd hx hb dX5_takeSecondDigit_44 ?_
        replace h := gd h; obtain ⟨g7, h⟩ := h
        refine astI (q0 := 2) (ws1 := [(a_t, .inr (5, [.ref a_ti, .ref a_tn, .int t_len, .int t_cur, .int t_kin, .int t_tol, .int t_don])), (a_ti, .inl (T 2, 60, .inl v_ti)), (a_tn, .inl (T 0, 3, .inl (upd v_tn (t_tol - 1).toNatClampNeg ((10 * (v_tn (t_tol - 1).toNatClampNeg)) + q1))))]) C hE hP hD hS rfl g7 rfl dX5_takeSecondDigit_45 ?_; clear hP hD hS; intro H locs hP hD hS
        refine lv_aload_n hx hb dX5_takeSecondDigit_46 rfl (lv_at hl 2 rfl) ?_
        refine lv_dup hx hb dX5_takeSecondDigit_47 rfl ?_
        refine getF (q0 := 0) (k0 := 3) (v := .int t_cur) C hE hP inA5 rfl rfl (by decide) qFX5_23 rfl rfl dX5_takeSecondDigit_48 ?_
        refine lv_iconst (v := 1) hx hb dX5_takeSecondDigit_51 (by decide) ?_
        refine lv_iadd hx hb dX5_takeSecondDigit_52 ?_
        refine putF (q0 := 0) (k0 := 3) (ws1 := [(a_t, .inr (5, [.ref a_ti, .ref a_tn, .int t_len, .int (t_cur + 1), .int t_kin, .int t_tol, .int t_don])), (a_ti, .inl (T 2, 60, .inl v_ti)), (a_tn, .inl (T 0, 3, .inl (upd v_tn (t_tol - 1).toNatClampNeg ((10 * (v_tn (t_tol - 1).toNatClampNeg)) + q1))))]) C hE hP hD hS inA5 tyX5_ok nmX5 rfl rfl (by decide) qFX5_23 rfl rfl rfl rfl (Nat.le_of_ble_eq_true rfl) rfl dX5_takeSecondDigit_53 ?_; clear hP hD hS; intro H locs hP hD hS
        replace h := Option.some.inj h
        exact hret _ _ _ _ dX5_takeSecondDigit_56 (by rw [← h]; exact hP) hS

def fX6_detail (u_det : Int32) : Int32 :=
  u_det
set_option maxHeartbeats 4000000 in
set_option maxRecDepth 100000 in
theorem kX6_detail (l : Launch) (D : va_G) (T : Nat → ClassId) (a_u a_g a_r : Nat) (u_det : Int32) : RdI l yX6_detail cX6_detail 1 .int ({ frames := 0, cells := 0, slots := 0, locals := 0 } : Room) D T [(a_u, .inr (6, [.ref a_g, .ref a_r, .int u_det]))] [.ref a_u] (fX6_detail u_det) := by
  obtain ⟨r, h⟩ : ∃ r, fX6_detail u_det = r := ⟨_, rfl⟩
  rw [h]
  unfold fX6_detail at h
  refine rdMet (by decide +kernel) rfl (fun p e s m args below meth c Q C hE hP hret ls hl => ?_)
  have hx := C.1
  have hb := C.2.1
  have hl : lv_has ls 1 [(0, .ref a_u)] := hl
  refine lv_aload_n hx hb dX6_detail_0 rfl (lv_at hl 0 rfl) ?_
  refine getF (q0 := 0) (k0 := 2) (v := .int u_det) C hE hP inA6 rfl rfl (by decide) qFX6_9 rfl rfl dX6_detail_1 ?_
  exact hret _ _ _ _ dX6_detail_4 rfl h

def fX6_refuse (u_det : Int32) (p0 : Int32) (p1 : Int32) : Option (Int32 × Int32) :=
  some (p0, p1)
set_option maxHeartbeats 4000000 in
set_option maxRecDepth 100000 in
theorem kX6_refuse (l : Launch) (D : va_G) (T : Nat → ClassId) (a_u a_g a_r : Nat) (u_det : Int32) (p0 : Int32) (p1 : Int32) (sz : Nat) (r : Int32 × Int32) (h : fX6_refuse u_det p0 p1 = some r) : WrI l yX6_refuse cX6_refuse 3 .int ({ frames := 0, cells := 0, slots := 0, locals := 0 } : Room) D T sz [(a_u, .inr (6, [.ref a_g, .ref a_r, .int u_det]))] [(a_u, .inr (6, [.ref a_g, .ref a_r, .int r.2]))] [.ref a_u, .int p0, .int p1] r.1 := by
  unfold fX6_refuse at h
  refine wrMet (by decide +kernel) rfl (fun p e s m args below meth c Q A C hE hA hP hD hS hret ls hl => ?_)
  have hx := C.1
  have hb := C.2.1
  have hl : lv_has ls 3 [(0, .ref a_u), (1, .int p0), (2, .int p1)] := hl
  refine lv_aload_n hx hb dX6_refuse_0 rfl (lv_at hl 0 rfl) ?_
  refine lv_iload_n hx hb dX6_refuse_1 rfl (lv_at hl 2 rfl) ?_
  refine putF (q0 := 0) (k0 := 2) (ws1 := [(a_u, .inr (6, [.ref a_g, .ref a_r, .int p1]))]) C hE hP hD hS inA6 tyX6_ok nmX6 rfl rfl (by decide) qFX6_9 rfl rfl rfl rfl (Nat.le_of_ble_eq_true rfl) rfl dX6_refuse_2 ?_; clear hP hD hS; intro H locs hP hD hS
  refine lv_iload_n hx hb dX6_refuse_5 rfl (lv_at hl 1 rfl) ?_
  replace h := Option.some.inj h
  exact hret _ _ _ _ _ _ dX6_refuse_6 rfl (by rw [← h] <;> rfl) (by rw [← h]; exact hP) hS

def fX7_isTeam (p0 : Int32) : Int32 :=
  if p0 < 0 then
    0
  else
    if 2 ≤ p0 then
      0
    else
      1
set_option maxHeartbeats 4000000 in
set_option maxRecDepth 100000 in
theorem kX7_isTeam (l : Launch) (D : va_G) (T : Nat → ClassId) (p0 : Int32) : RdI l yX7_isTeam cX7_isTeam 1 .boolean ({ frames := 0, cells := 0, slots := 0, locals := 0 } : Room) D T [] [.int p0] (fX7_isTeam p0) := by
  obtain ⟨r, h⟩ : ∃ r, fX7_isTeam p0 = r := ⟨_, rfl⟩
  rw [h]
  unfold fX7_isTeam at h
  refine rdMet (by decide +kernel) rfl (fun p e s m args below meth c Q C hE hP hret ls hl => ?_)
  have hx := C.1
  have hb := C.2.1
  have hl : lv_has ls 1 [(0, .int p0)] := hl
  refine lv_iload_n hx hb dX7_isTeam_0 rfl (lv_at hl 0 rfl) ?_
  refine lv_if_lt (tgt := 13) hx hb dX7_isTeam_1 (by decide) (fun c1 => ?_) (fun c1 => ?_)
  · replace h := ite_t c1 h
    refine lv_iconst (v := 0) hx hb dX7_isTeam_13 (by decide) ?_
    exact hret _ _ _ _ dX7_isTeam_14 rfl h
  · replace h := ite_f c1 h
    refine lv_iload_n hx hb dX7_isTeam_4 rfl (lv_at hl 0 rfl) ?_
    refine lv_iconst (v := 2) hx hb dX7_isTeam_5 (by decide) ?_
    refine lv_icmp_ge (tgt := 13) hx hb dX7_isTeam_6 (by decide) (fun c2 => ?_) (fun c2 => ?_)
    · replace h := ite_t c2 h
      refine lv_iconst (v := 0) hx hb dX7_isTeam_13 (by decide) ?_
      exact hret _ _ _ _ dX7_isTeam_14 rfl h
    · replace h := ite_f c2 h
      refine lv_iconst (v := 1) hx hb dX7_isTeam_9 (by decide) ?_
      refine lv_goto (tgt := 14) hx hb dX7_isTeam_10 (by decide) ?_
      exact hret _ _ _ _ dX7_isTeam_14 rfl h

def fX6_comeFault_102 (v_gw : Nat → Int32) (v_gk : Nat → Int32) (x0 : Int32) (u_det : Int32) : Option (Int32 × Int32) :=
  if x0 = (-1) then
    some (0, u_det)
  else
    (fX6_refuse u_det 7 x0).bind fun q19 =>
    some (q19.1, q19.2)
def fX6_comeFault_32 (v_gw : Nat → Int32) (v_gk : Nat → Int32) (x0 : Int32) (l1 : Int32) (l4 : Int32) (u_det : Int32) : Option (Int32 × Int32) :=
  if (fX7_isTeam l1) = 0 then
    some ((-2), u_det)
  else
    if l4 = 0 then
      some ((-2), u_det)
    else
      if x0 = 0 then
        some ((-2), u_det)
      else
        (fX1_countOf v_gw v_gk l1).bind fun q8 =>
        if q8 < 5 then
          (fX1_firstCell v_gw v_gk l1).bind fun q11 =>
          if q11 = (-1) then
            fX6_comeFault_102 v_gw v_gk (-1) u_det
          else
            (fX1_whaleOn v_gw v_gk q11).bind fun q14 =>
            fX6_comeFault_102 v_gw v_gk q14 u_det
        else
          (fX6_refuse u_det 1 5).bind fun q16 =>
          some (q16.1, q16.2)
def fX6_comeFault_15 (v_gw : Nat → Int32) (v_gk : Nat → Int32) (x0 : Int32) (l1 : Int32) (l3 : Int32) (u_det : Int32) : Option (Int32 × Int32) :=
  fX6_comeFault_32 v_gw v_gk (if l3 < 1 then 0 else (if 4 < l3 then 0 else 1)) l1 x0 u_det
def fX6_comeFault (u_det : Int32) (v_gw : Nat → Int32) (v_gk : Nat → Int32) (p0 : Int32) (p1 : Int32) (p2 : Int32) : Option (Int32 × Int32) :=
  fX6_comeFault_15 v_gw v_gk (if p1 < 1 then 0 else (if 5 < p1 then 0 else 1)) p0 p2 u_det
set_option maxHeartbeats 4000000 in
set_option maxRecDepth 100000 in
theorem lX6_comeFault_102 {p : Program} {l : Launch} {e : Env} {s : State} {m : MethodId} {args : Array Value} {below : List Frame} {meth : Method} {c : Code} {Q : State → Prop} {D : va_G} {T : Nat → ClassId} {a_g a_gw a_gk a_u a_r : Nat} {v_gw : Nat → Int32} {v_gk : Nat → Int32} {A : Nat → Prop} {r : Int32 × Int32} (C : CallFix p m c cX6_comeFault 8 s args aw RX6) (hE : eK D T s) (hA : ∀ q : Nat, s.heap.size ≤ q → A q) (hret : WrRet p l e ({ frames := 3, cells := 0, slots := 0, locals := 69 } : Room) s m args below meth c Q cX6_comeFault .int D A [(a_g, .inr (1, [.ref a_gw, .ref a_gk])), (a_u, .inr (6, [.ref a_g, .ref a_r, .int r.2])), (a_gw, .inl (T 0, 90, .inl v_gw)), (a_gk, .inl (T 0, 18, .inl v_gk))] r.1) (x0 : Int32) (u_det : Int32) {H : Heap} {locs : List Loc} (hPD : va_PD D A [(a_g, .inr (1, [.ref a_gw, .ref a_gk])), (a_u, .inr (6, [.ref a_g, .ref a_r, .int u_det])), (a_gw, .inl (T 0, 90, .inl v_gw)), (a_gk, .inl (T 0, 18, .inl v_gk))] H) (hS : va_S A s.heap H locs) (ls : Array Slot) (hl : lv_has ls 8 [(0, .ref a_u)]) (h : fX6_comeFault_102 v_gw v_gk x0 u_det = some r) : W p l e ({ frames := 3, cells := 0, slots := 0, locals := 69 } : Room) s m args below meth c H locs 0 0 Q (F0 m 102 ls [.int x0]) := by
  have hx := C.1
  have hb := C.2.1
  obtain ⟨hP, hD⟩ := hPD
  unfold fX6_comeFault_102 at h
  refine lv_istore (lv' := [(7, .int x0), (0, .ref a_u)]) hx hb dX6_comeFault_102 hl (by decide) rfl (fun ls hl => ?_)
  refine lv_iload hx hb dX6_comeFault_104 (lv_at hl 0 rfl) ?_
  refine lv_iconst (v := (-1)) hx hb dX6_comeFault_106 (by decide) ?_
  refine lv_icmp_ne (tgt := 114) hx hb dX6_comeFault_107 (by decide) (fun c18 => ?_) (fun c18 => ?_)
  · replace h := ite_f c18 h
    refine lv_aload_n hx hb dX6_comeFault_114 rfl (lv_at hl 1 rfl) ?_
    refine lv_bipush (v := 7) hx hb dX6_comeFault_115 (by decide) ?_
    refine lv_iload hx hb dX6_comeFault_117 (lv_at hl 0 rfl) ?_
    replace h := bnd h; obtain ⟨q19, e20, h⟩ := h
    refine wrVi (ws1 := [(a_g, .inr (1, [.ref a_gw, .ref a_gk])), (a_u, .inr (6, [.ref a_g, .ref a_r, .int q19.2])), (a_gw, .inl (T 0, 90, .inl v_gw)), (a_gk, .inl (T 0, 18, .inl v_gk))]) C hE hP hD hS hA (kX6_refuse l D T a_u a_g a_r u_det 7 x0 _ q19 e20) mX6_refuse qLX6_33 [1] [0, 2, 3] 1 rfl rfl rfl rfl rfl rfl rfl rfl rfl ⟨rfl, rfl⟩ ⟨Nat.le_of_ble_eq_true rfl, Nat.le_of_ble_eq_true rfl⟩ rfl hl.1 rfl (Nat.le_of_ble_eq_true rfl) dX6_comeFault_119 ⟨Nat.le_of_ble_eq_true rfl, Nat.le_of_ble_eq_true rfl⟩ ?_; clear hP hD hS; intro H locs hP hD hS
    replace h := Option.some.inj h
    exact hret _ _ _ _ _ _ dX6_comeFault_122 rfl (by rw [← h] <;> rfl) (by rw [← h]; exact hP) hS
  · replace h := ite_t c18 h
    refine lv_iconst (v := 0) hx hb dX6_comeFault_110 (by decide) ?_
    refine lv_goto (tgt := 122) hx hb dX6_comeFault_111 (by decide) ?_
    replace h := Option.some.inj h
    exact hret _ _ _ _ _ _ dX6_comeFault_122 rfl (by rw [← h] <;> rfl) (by rw [← h]; exact hP) hS
set_option maxHeartbeats 4000000 in
set_option maxRecDepth 100000 in
theorem lX6_comeFault_32 {p : Program} {l : Launch} {e : Env} {s : State} {m : MethodId} {args : Array Value} {below : List Frame} {meth : Method} {c : Code} {Q : State → Prop} {D : va_G} {T : Nat → ClassId} {a_g a_gw a_gk a_u a_r : Nat} {v_gw : Nat → Int32} {v_gk : Nat → Int32} {A : Nat → Prop} {r : Int32 × Int32} (C : CallFix p m c cX6_comeFault 8 s args aw RX6) (hE : eK D T s) (hA : ∀ q : Nat, s.heap.size ≤ q → A q) (hret : WrRet p l e ({ frames := 3, cells := 0, slots := 0, locals := 69 } : Room) s m args below meth c Q cX6_comeFault .int D A [(a_g, .inr (1, [.ref a_gw, .ref a_gk])), (a_u, .inr (6, [.ref a_g, .ref a_r, .int r.2])), (a_gw, .inl (T 0, 90, .inl v_gw)), (a_gk, .inl (T 0, 18, .inl v_gk))] r.1) (x0 : Int32) (l1 : Int32) (l4 : Int32) (u_det : Int32) {H : Heap} {locs : List Loc} (hPD : va_PD D A [(a_g, .inr (1, [.ref a_gw, .ref a_gk])), (a_u, .inr (6, [.ref a_g, .ref a_r, .int u_det])), (a_gw, .inl (T 0, 90, .inl v_gw)), (a_gk, .inl (T 0, 18, .inl v_gk))] H) (hS : va_S A s.heap H locs) (ls : Array Slot) (hl : lv_has ls 8 [(0, .ref a_u), (1, .int l1), (4, .int l4)]) (h : fX6_comeFault_32 v_gw v_gk x0 l1 l4 u_det = some r) : W p l e ({ frames := 3, cells := 0, slots := 0, locals := 69 } : Room) s m args below meth c H locs 0 0 Q (F0 m 32 ls [.int x0]) := by
  have hx := C.1
  have hb := C.2.1
  obtain ⟨hP, hD⟩ := hPD
  unfold fX6_comeFault_32 at h
  refine lv_istore (lv' := [(5, .int x0), (0, .ref a_u), (1, .int l1), (4, .int l4)]) hx hb dX6_comeFault_32 hl (by decide) rfl (fun ls hl => ?_)
  refine lv_iload_n hx hb dX6_comeFault_34 rfl (lv_at hl 2 rfl) ?_
  refine rdSN C hE hP (kX7_isTeam l D T l1) mX7_isTeam (by decide +kernel) [] rfl ⟨rfl, rfl⟩ ⟨Nat.le_of_ble_eq_true rfl, Nat.le_of_ble_eq_true rfl⟩ rfl hl.1 rfl (Nat.le_of_ble_eq_true rfl) dX6_comeFault_35 ⟨Nat.le_of_ble_eq_true rfl, Nat.le_of_ble_eq_true rfl⟩ ?_
  refine lv_if_eq (tgt := 51) hx hb dX6_comeFault_38 (by decide) (fun c5 => ?_) (fun c5 => ?_)
  · replace h := ite_t c5 h
    refine lv_bipush (v := (-2)) hx hb dX6_comeFault_51 (by decide) ?_
    replace h := Option.some.inj h
    exact hret _ _ _ _ _ _ dX6_comeFault_53 rfl (by rw [← h] <;> rfl) (by rw [← h]; exact hP) hS
  · replace h := ite_f c5 h
    refine lv_iload hx hb dX6_comeFault_41 (lv_at hl 3 rfl) ?_
    refine lv_if_eq (tgt := 51) hx hb dX6_comeFault_43 (by decide) (fun c6 => ?_) (fun c6 => ?_)
    · replace h := ite_t c6 h
      refine lv_bipush (v := (-2)) hx hb dX6_comeFault_51 (by decide) ?_
      replace h := Option.some.inj h
      exact hret _ _ _ _ _ _ dX6_comeFault_53 rfl (by rw [← h] <;> rfl) (by rw [← h]; exact hP) hS
    · replace h := ite_f c6 h
      refine lv_iload hx hb dX6_comeFault_46 (lv_at hl 0 rfl) ?_
      refine lv_if_ne (tgt := 54) hx hb dX6_comeFault_48 (by decide) (fun c7 => ?_) (fun c7 => ?_)
      · replace h := ite_f c7 h
        refine lv_aload_n hx hb dX6_comeFault_54 rfl (lv_at hl 1 rfl) ?_
        refine getF (q0 := 1) (k0 := 0) (v := .ref a_g) C hE hP inA6 rfl rfl (by decide) qFX6_15 rfl rfl dX6_comeFault_55 ?_
        refine lv_iload_n hx hb dX6_comeFault_58 rfl (lv_at hl 2 rfl) ?_
        replace h := bnd h; obtain ⟨q8, e9, h⟩ := h
        refine rdV C hE hP (kX1_countOf l D T a_g a_gw a_gk v_gw v_gk l1 q8 e9) mX1_countOf qLX6_27 [0, 2, 3] 0 rfl rfl rfl rfl ⟨rfl, rfl⟩ ⟨Nat.le_of_ble_eq_true rfl, Nat.le_of_ble_eq_true rfl⟩ rfl hl.1 rfl (Nat.le_of_ble_eq_true rfl) dX6_comeFault_59 ⟨Nat.le_of_ble_eq_true rfl, Nat.le_of_ble_eq_true rfl⟩ ?_
        refine lv_iconst (v := 5) hx hb dX6_comeFault_62 (by decide) ?_
        refine lv_icmp_lt (tgt := 73) hx hb dX6_comeFault_63 (by decide) (fun c10 => ?_) (fun c10 => ?_)
        · replace h := ite_t c10 h
          refine lv_aload_n hx hb dX6_comeFault_73 rfl (lv_at hl 1 rfl) ?_
          refine getF (q0 := 1) (k0 := 0) (v := .ref a_g) C hE hP inA6 rfl rfl (by decide) qFX6_15 rfl rfl dX6_comeFault_74 ?_
          refine lv_iload_n hx hb dX6_comeFault_77 rfl (lv_at hl 2 rfl) ?_
          replace h := bnd h; obtain ⟨q11, e12, h⟩ := h
          refine rdV C hE hP (kX1_firstCell l D T a_g a_gw a_gk v_gw v_gk l1 q11 e12) mX1_firstCell qLX6_37 [0, 2, 3] 0 rfl rfl rfl rfl ⟨rfl, rfl⟩ ⟨Nat.le_of_ble_eq_true rfl, Nat.le_of_ble_eq_true rfl⟩ rfl hl.1 rfl (Nat.le_of_ble_eq_true rfl) dX6_comeFault_78 ⟨Nat.le_of_ble_eq_true rfl, Nat.le_of_ble_eq_true rfl⟩ ?_
          refine lv_istore (lv' := [(6, .int q11), (5, .int x0), (0, .ref a_u), (1, .int l1), (4, .int l4)]) hx hb dX6_comeFault_81 hl (by decide) rfl (fun ls hl => ?_)
          refine lv_iload hx hb dX6_comeFault_83 (lv_at hl 0 rfl) ?_
          refine lv_iconst (v := (-1)) hx hb dX6_comeFault_85 (by decide) ?_
          refine lv_icmp_ne (tgt := 93) hx hb dX6_comeFault_86 (by decide) (fun c13 => ?_) (fun c13 => ?_)
          · replace h := ite_f c13 h
            refine lv_aload_n hx hb dX6_comeFault_93 rfl (lv_at hl 2 rfl) ?_
            refine getF (q0 := 1) (k0 := 0) (v := .ref a_g) C hE hP inA6 rfl rfl (by decide) qFX6_15 rfl rfl dX6_comeFault_94 ?_
            refine lv_iload hx hb dX6_comeFault_97 (lv_at hl 0 rfl) ?_
            replace h := bnd h; obtain ⟨q14, e15, h⟩ := h
            refine rdV C hE hP (kX1_whaleOn l D T a_g a_gw a_gk v_gw v_gk q11 q14 e15) mX1_whaleOn qLX6_40 [0, 2, 3] 0 rfl rfl rfl rfl ⟨rfl, rfl⟩ ⟨Nat.le_of_ble_eq_true rfl, Nat.le_of_ble_eq_true rfl⟩ rfl hl.1 rfl (Nat.le_of_ble_eq_true rfl) dX6_comeFault_99 ⟨Nat.le_of_ble_eq_true rfl, Nat.le_of_ble_eq_true rfl⟩ ?_
            exact lX6_comeFault_102 C hE hA hret q14 u_det ⟨hP, hD⟩ hS _ (lv_sub hl [2] rfl) h
          · replace h := ite_t c13 h
            refine lv_iconst (v := (-1)) hx hb dX6_comeFault_89 (by decide) ?_
            refine lv_goto (tgt := 102) hx hb dX6_comeFault_90 (by decide) ?_
            exact lX6_comeFault_102 C hE hA hret (-1) u_det ⟨hP, hD⟩ hS _ (lv_sub hl [2] rfl) h
        · replace h := ite_f c10 h
          refine lv_aload_n hx hb dX6_comeFault_66 rfl (lv_at hl 1 rfl) ?_
          refine lv_iconst (v := 1) hx hb dX6_comeFault_67 (by decide) ?_
          refine lv_iconst (v := 5) hx hb dX6_comeFault_68 (by decide) ?_
          replace h := bnd h; obtain ⟨q16, e17, h⟩ := h
          refine wrVi (ws1 := [(a_g, .inr (1, [.ref a_gw, .ref a_gk])), (a_u, .inr (6, [.ref a_g, .ref a_r, .int q16.2])), (a_gw, .inl (T 0, 90, .inl v_gw)), (a_gk, .inl (T 0, 18, .inl v_gk))]) C hE hP hD hS hA (kX6_refuse l D T a_u a_g a_r u_det 1 5 _ q16 e17) mX6_refuse qLX6_33 [1] [0, 2, 3] 1 rfl rfl rfl rfl rfl rfl rfl rfl rfl ⟨rfl, rfl⟩ ⟨Nat.le_of_ble_eq_true rfl, Nat.le_of_ble_eq_true rfl⟩ rfl hl.1 rfl (Nat.le_of_ble_eq_true rfl) dX6_comeFault_69 ⟨Nat.le_of_ble_eq_true rfl, Nat.le_of_ble_eq_true rfl⟩ ?_; clear hP hD hS; intro H locs hP hD hS
          replace h := Option.some.inj h
          exact hret _ _ _ _ _ _ dX6_comeFault_72 rfl (by rw [← h] <;> rfl) (by rw [← h]; exact hP) hS
      · replace h := ite_t c7 h
        refine lv_bipush (v := (-2)) hx hb dX6_comeFault_51 (by decide) ?_
        replace h := Option.some.inj h
        exact hret _ _ _ _ _ _ dX6_comeFault_53 rfl (by rw [← h] <;> rfl) (by rw [← h]; exact hP) hS
set_option maxHeartbeats 4000000 in
set_option maxRecDepth 100000 in
theorem lX6_comeFault_15 {p : Program} {l : Launch} {e : Env} {s : State} {m : MethodId} {args : Array Value} {below : List Frame} {meth : Method} {c : Code} {Q : State → Prop} {D : va_G} {T : Nat → ClassId} {a_g a_gw a_gk a_u a_r : Nat} {v_gw : Nat → Int32} {v_gk : Nat → Int32} {A : Nat → Prop} {r : Int32 × Int32} (C : CallFix p m c cX6_comeFault 8 s args aw RX6) (hE : eK D T s) (hA : ∀ q : Nat, s.heap.size ≤ q → A q) (hret : WrRet p l e ({ frames := 3, cells := 0, slots := 0, locals := 69 } : Room) s m args below meth c Q cX6_comeFault .int D A [(a_g, .inr (1, [.ref a_gw, .ref a_gk])), (a_u, .inr (6, [.ref a_g, .ref a_r, .int r.2])), (a_gw, .inl (T 0, 90, .inl v_gw)), (a_gk, .inl (T 0, 18, .inl v_gk))] r.1) (x0 : Int32) (l1 : Int32) (l3 : Int32) (u_det : Int32) {H : Heap} {locs : List Loc} (hPD : va_PD D A [(a_g, .inr (1, [.ref a_gw, .ref a_gk])), (a_u, .inr (6, [.ref a_g, .ref a_r, .int u_det])), (a_gw, .inl (T 0, 90, .inl v_gw)), (a_gk, .inl (T 0, 18, .inl v_gk))] H) (hS : va_S A s.heap H locs) (ls : Array Slot) (hl : lv_has ls 8 [(0, .ref a_u), (1, .int l1), (3, .int l3)]) (h : fX6_comeFault_15 v_gw v_gk x0 l1 l3 u_det = some r) : W p l e ({ frames := 3, cells := 0, slots := 0, locals := 69 } : Room) s m args below meth c H locs 0 0 Q (F0 m 15 ls [.int x0]) := by
  have hx := C.1
  have hb := C.2.1
  obtain ⟨hP, hD⟩ := hPD
  unfold fX6_comeFault_15 at h
  refine lv_istore (lv' := [(4, .int x0), (0, .ref a_u), (1, .int l1), (3, .int l3)]) hx hb dX6_comeFault_15 hl (by decide) rfl (fun ls hl => ?_)
  refine lv_iload_n hx hb dX6_comeFault_17 rfl (lv_at hl 3 rfl) ?_
  refine lv_iconst (v := 1) hx hb dX6_comeFault_18 (by decide) ?_
  refine lv_icmp_lt (tgt := 31) hx hb dX6_comeFault_19 (by decide) (fun c3 => ?_) (fun c3 => ?_)
  · rw [if_pos c3] at h
    refine lv_iconst (v := 0) hx hb dX6_comeFault_31 (by decide) ?_
    exact lX6_comeFault_32 C hE hA hret 0 l1 x0 u_det ⟨hP, hD⟩ hS _ (lv_sub hl [1, 2, 0] rfl) h
  · rw [if_neg c3] at h
    refine lv_iload_n hx hb dX6_comeFault_22 rfl (lv_at hl 3 rfl) ?_
    refine lv_iconst (v := 4) hx hb dX6_comeFault_23 (by decide) ?_
    refine lv_icmp_gt (tgt := 31) hx hb dX6_comeFault_24 (by decide) (fun c4 => ?_) (fun c4 => ?_)
    · rw [if_pos c4] at h
      refine lv_iconst (v := 0) hx hb dX6_comeFault_31 (by decide) ?_
      exact lX6_comeFault_32 C hE hA hret 0 l1 x0 u_det ⟨hP, hD⟩ hS _ (lv_sub hl [1, 2, 0] rfl) h
    · rw [if_neg c4] at h
      refine lv_iconst (v := 1) hx hb dX6_comeFault_27 (by decide) ?_
      refine lv_goto (tgt := 32) hx hb dX6_comeFault_28 (by decide) ?_
      exact lX6_comeFault_32 C hE hA hret 1 l1 x0 u_det ⟨hP, hD⟩ hS _ (lv_sub hl [1, 2, 0] rfl) h
set_option maxHeartbeats 4000000 in
set_option maxRecDepth 100000 in
theorem kX6_comeFault (l : Launch) (D : va_G) (T : Nat → ClassId) (a_g a_gw a_gk a_u a_r : Nat) (u_det : Int32) (v_gw : Nat → Int32) (v_gk : Nat → Int32) (p0 : Int32) (p1 : Int32) (p2 : Int32) (sz : Nat) (r : Int32 × Int32) (h : fX6_comeFault u_det v_gw v_gk p0 p1 p2 = some r) : WrI l yX6_comeFault cX6_comeFault 8 .int ({ frames := 3, cells := 0, slots := 0, locals := 69 } : Room) D T sz [(a_g, .inr (1, [.ref a_gw, .ref a_gk])), (a_u, .inr (6, [.ref a_g, .ref a_r, .int u_det])), (a_gw, .inl (T 0, 90, .inl v_gw)), (a_gk, .inl (T 0, 18, .inl v_gk))] [(a_g, .inr (1, [.ref a_gw, .ref a_gk])), (a_u, .inr (6, [.ref a_g, .ref a_r, .int r.2])), (a_gw, .inl (T 0, 90, .inl v_gw)), (a_gk, .inl (T 0, 18, .inl v_gk))] [.ref a_u, .int p0, .int p1, .int p2] r.1 := by
  unfold fX6_comeFault at h
  refine wrMet (by decide +kernel) rfl (fun p e s m args below meth c Q A C hE hA hP hD hS hret ls hl => ?_)
  have hx := C.1
  have hb := C.2.1
  have hl : lv_has ls 8 [(0, .ref a_u), (1, .int p0), (2, .int p1), (3, .int p2)] := hl
  refine lv_iload_n hx hb dX6_comeFault_0 rfl (lv_at hl 2 rfl) ?_
  refine lv_iconst (v := 1) hx hb dX6_comeFault_1 (by decide) ?_
  refine lv_icmp_lt (tgt := 14) hx hb dX6_comeFault_2 (by decide) (fun c1 => ?_) (fun c1 => ?_)
  · rw [if_pos c1] at h
    refine lv_iconst (v := 0) hx hb dX6_comeFault_14 (by decide) ?_
    exact lX6_comeFault_15 C hE hA hret 0 p0 p2 u_det ⟨hP, hD⟩ hS _ (lv_sub hl [0, 1, 3] rfl) h
  · rw [if_neg c1] at h
    refine lv_iload_n hx hb dX6_comeFault_5 rfl (lv_at hl 2 rfl) ?_
    refine lv_iconst (v := 5) hx hb dX6_comeFault_6 (by decide) ?_
    refine lv_icmp_gt (tgt := 14) hx hb dX6_comeFault_7 (by decide) (fun c2 => ?_) (fun c2 => ?_)
    · rw [if_pos c2] at h
      refine lv_iconst (v := 0) hx hb dX6_comeFault_14 (by decide) ?_
      exact lX6_comeFault_15 C hE hA hret 0 p0 p2 u_det ⟨hP, hD⟩ hS _ (lv_sub hl [0, 1, 3] rfl) h
    · rw [if_neg c2] at h
      refine lv_iconst (v := 1) hx hb dX6_comeFault_10 (by decide) ?_
      refine lv_goto (tgt := 15) hx hb dX6_comeFault_11 (by decide) ?_
      exact lX6_comeFault_15 C hE hA hret 1 p0 p2 u_det ⟨hP, hD⟩ hS _ (lv_sub hl [0, 1, 3] rfl) h

def fX6_passFault (u_det : Int32) (v_gk : Nat → Int32) : Option (Int32 × Int32) :=
  (fX1_isOver v_gk).bind fun q1 =>
  if q1 = 0 then
    some (0, u_det)
  else
    (fX1_count v_gk 1).bind fun q4 =>
    (fX6_refuse u_det 2 q4).bind fun q6 =>
    some (q6.1, q6.2)
set_option maxHeartbeats 4000000 in
set_option maxRecDepth 100000 in
theorem kX6_passFault (l : Launch) (D : va_G) (T : Nat → ClassId) (a_g a_gw a_gk a_u a_r : Nat) (u_det : Int32) (v_gk : Nat → Int32) (sz : Nat) (r : Int32 × Int32) (h : fX6_passFault u_det v_gk = some r) : WrI l yX6_passFault cX6_passFault 1 .int ({ frames := 2, cells := 0, slots := 0, locals := 41 } : Room) D T sz [(a_g, .inr (1, [.ref a_gw, .ref a_gk])), (a_u, .inr (6, [.ref a_g, .ref a_r, .int u_det])), (a_gk, .inl (T 0, 18, .inl v_gk))] [(a_g, .inr (1, [.ref a_gw, .ref a_gk])), (a_u, .inr (6, [.ref a_g, .ref a_r, .int r.2])), (a_gk, .inl (T 0, 18, .inl v_gk))] [.ref a_u] r.1 := by
  unfold fX6_passFault at h
  refine wrMet (by decide +kernel) rfl (fun p e s m args below meth c Q A C hE hA hP hD hS hret ls hl => ?_)
  have hx := C.1
  have hb := C.2.1
  have hl : lv_has ls 1 [(0, .ref a_u)] := hl
  refine lv_aload_n hx hb dX6_passFault_0 rfl (lv_at hl 0 rfl) ?_
  refine getF (q0 := 1) (k0 := 0) (v := .ref a_g) C hE hP inA6 rfl rfl (by decide) qFX6_15 rfl rfl dX6_passFault_1 ?_
  replace h := bnd h; obtain ⟨q1, e2, h⟩ := h
  refine rdV C hE hP (kX1_isOver l D T a_g a_gw a_gk v_gk q1 e2) mX1_isOver qLX6_43 [0, 2] 0 rfl rfl rfl rfl ⟨rfl, rfl⟩ ⟨Nat.le_of_ble_eq_true rfl, Nat.le_of_ble_eq_true rfl⟩ rfl hl.1 rfl (Nat.le_of_ble_eq_true rfl) dX6_passFault_4 ⟨Nat.le_of_ble_eq_true rfl, Nat.le_of_ble_eq_true rfl⟩ ?_
  refine lv_if_eq (tgt := 26) hx hb dX6_passFault_7 (by decide) (fun c3 => ?_) (fun c3 => ?_)
  · replace h := ite_t c3 h
    refine lv_iconst (v := 0) hx hb dX6_passFault_26 (by decide) ?_
    replace h := Option.some.inj h
    exact hret _ _ _ _ _ _ dX6_passFault_27 rfl (by rw [← h] <;> rfl) (by rw [← h]; exact hP) hS
  · replace h := ite_f c3 h
    refine lv_aload_n hx hb dX6_passFault_10 rfl (lv_at hl 0 rfl) ?_
    refine lv_iconst (v := 2) hx hb dX6_passFault_11 (by decide) ?_
    refine lv_aload_n hx hb dX6_passFault_12 rfl (lv_at hl 0 rfl) ?_
    refine getF (q0 := 1) (k0 := 0) (v := .ref a_g) C hE hP inA6 rfl rfl (by decide) qFX6_15 rfl rfl dX6_passFault_13 ?_
    refine lv_iconst (v := 1) hx hb dX6_passFault_16 (by decide) ?_
    replace h := bnd h; obtain ⟨q4, e5, h⟩ := h
    refine rdV C hE hP (kX1_count l D T a_g a_gw a_gk v_gk 1 q4 e5) mX1_count qLX6_47 [0, 2] 0 rfl rfl rfl rfl ⟨rfl, rfl⟩ ⟨Nat.le_of_ble_eq_true rfl, Nat.le_of_ble_eq_true rfl⟩ rfl hl.1 rfl (Nat.le_of_ble_eq_true rfl) dX6_passFault_17 ⟨Nat.le_of_ble_eq_true rfl, Nat.le_of_ble_eq_true rfl⟩ ?_
    replace h := bnd h; obtain ⟨q6, e7, h⟩ := h
    refine wrVi (ws1 := [(a_g, .inr (1, [.ref a_gw, .ref a_gk])), (a_u, .inr (6, [.ref a_g, .ref a_r, .int q6.2])), (a_gk, .inl (T 0, 18, .inl v_gk))]) C hE hP hD hS hA (kX6_refuse l D T a_u a_g a_r u_det 2 q4 _ q6 e7) mX6_refuse qLX6_33 [1] [0, 2] 1 rfl rfl rfl rfl rfl rfl rfl rfl rfl ⟨rfl, rfl⟩ ⟨Nat.le_of_ble_eq_true rfl, Nat.le_of_ble_eq_true rfl⟩ rfl hl.1 rfl (Nat.le_of_ble_eq_true rfl) dX6_passFault_20 ⟨Nat.le_of_ble_eq_true rfl, Nat.le_of_ble_eq_true rfl⟩ ?_; clear hP hD hS; intro H locs hP hD hS
    refine lv_goto (tgt := 27) hx hb dX6_passFault_23 (by decide) ?_
    replace h := Option.some.inj h
    exact hret _ _ _ _ _ _ dX6_passFault_27 rfl (by rw [← h] <;> rfl) (by rw [← h]; exact hP) hS

def fX6_playFault (u_det : Int32) (v_gw : Nat → Int32) (v_gk : Nat → Int32) (p0 : Int32) : Option (Int32 × Int32) :=
  (fX1_has v_gk p0).bind fun q1 =>
  if q1 = 0 then
    some ((-1), u_det)
  else
    (fX1_isOver v_gk).bind fun q4 =>
    if q4 = 0 then
      (fX1_isPlaying v_gw p0).bind fun q7 =>
      if q7 = 0 then
        (fX6_refuse u_det 3 p0).bind fun q10 =>
        some (q10.1, q10.2)
      else
        some (0, u_det)
    else
      (fX1_count v_gk 1).bind fun q12 =>
      (fX6_refuse u_det 2 q12).bind fun q14 =>
      some (q14.1, q14.2)
set_option maxHeartbeats 4000000 in
set_option maxRecDepth 100000 in
theorem kX6_playFault (l : Launch) (D : va_G) (T : Nat → ClassId) (a_g a_gw a_gk a_u a_r : Nat) (u_det : Int32) (v_gw : Nat → Int32) (v_gk : Nat → Int32) (p0 : Int32) (sz : Nat) (r : Int32 × Int32) (h : fX6_playFault u_det v_gw v_gk p0 = some r) : WrI l yX6_playFault cX6_playFault 2 .int ({ frames := 2, cells := 0, slots := 0, locals := 44 } : Room) D T sz [(a_g, .inr (1, [.ref a_gw, .ref a_gk])), (a_u, .inr (6, [.ref a_g, .ref a_r, .int u_det])), (a_gw, .inl (T 0, 90, .inl v_gw)), (a_gk, .inl (T 0, 18, .inl v_gk))] [(a_g, .inr (1, [.ref a_gw, .ref a_gk])), (a_u, .inr (6, [.ref a_g, .ref a_r, .int r.2])), (a_gw, .inl (T 0, 90, .inl v_gw)), (a_gk, .inl (T 0, 18, .inl v_gk))] [.ref a_u, .int p0] r.1 := by
  unfold fX6_playFault at h
  refine wrMet (by decide +kernel) rfl (fun p e s m args below meth c Q A C hE hA hP hD hS hret ls hl => ?_)
  have hx := C.1
  have hb := C.2.1
  have hl : lv_has ls 2 [(0, .ref a_u), (1, .int p0)] := hl
  refine lv_aload_n hx hb dX6_playFault_0 rfl (lv_at hl 0 rfl) ?_
  refine getF (q0 := 1) (k0 := 0) (v := .ref a_g) C hE hP inA6 rfl rfl (by decide) qFX6_15 rfl rfl dX6_playFault_1 ?_
  refine lv_iload_n hx hb dX6_playFault_4 rfl (lv_at hl 1 rfl) ?_
  replace h := bnd h; obtain ⟨q1, e2, h⟩ := h
  refine rdV C hE hP (kX1_has l D T a_g a_gw a_gk v_gk p0 q1 e2) mX1_has qLX6_50 [0, 3] 0 rfl rfl rfl rfl ⟨rfl, rfl⟩ ⟨Nat.le_of_ble_eq_true rfl, Nat.le_of_ble_eq_true rfl⟩ rfl hl.1 rfl (Nat.le_of_ble_eq_true rfl) dX6_playFault_5 ⟨Nat.le_of_ble_eq_true rfl, Nat.le_of_ble_eq_true rfl⟩ ?_
  refine lv_if_ne (tgt := 13) hx hb dX6_playFault_8 (by decide) (fun c3 => ?_) (fun c3 => ?_)
  · replace h := ite_f c3 h
    refine lv_aload_n hx hb dX6_playFault_13 rfl (lv_at hl 0 rfl) ?_
    refine getF (q0 := 1) (k0 := 0) (v := .ref a_g) C hE hP inA6 rfl rfl (by decide) qFX6_15 rfl rfl dX6_playFault_14 ?_
    replace h := bnd h; obtain ⟨q4, e5, h⟩ := h
    refine rdV C hE hP (kX1_isOver l D T a_g a_gw a_gk v_gk q4 e5) mX1_isOver qLX6_43 [0, 3] 0 rfl rfl rfl rfl ⟨rfl, rfl⟩ ⟨Nat.le_of_ble_eq_true rfl, Nat.le_of_ble_eq_true rfl⟩ rfl hl.1 rfl (Nat.le_of_ble_eq_true rfl) dX6_playFault_17 ⟨Nat.le_of_ble_eq_true rfl, Nat.le_of_ble_eq_true rfl⟩ ?_
    refine lv_if_eq (tgt := 37) hx hb dX6_playFault_20 (by decide) (fun c6 => ?_) (fun c6 => ?_)
    · replace h := ite_t c6 h
      refine lv_aload_n hx hb dX6_playFault_37 rfl (lv_at hl 0 rfl) ?_
      refine getF (q0 := 1) (k0 := 0) (v := .ref a_g) C hE hP inA6 rfl rfl (by decide) qFX6_15 rfl rfl dX6_playFault_38 ?_
      refine lv_iload_n hx hb dX6_playFault_41 rfl (lv_at hl 1 rfl) ?_
      replace h := bnd h; obtain ⟨q7, e8, h⟩ := h
      refine rdV C hE hP (kX1_isPlaying l D T a_g a_gw a_gk v_gw p0 q7 e8) mX1_isPlaying qLX6_53 [0, 2] 0 rfl rfl rfl rfl ⟨rfl, rfl⟩ ⟨Nat.le_of_ble_eq_true rfl, Nat.le_of_ble_eq_true rfl⟩ rfl hl.1 rfl (Nat.le_of_ble_eq_true rfl) dX6_playFault_42 ⟨Nat.le_of_ble_eq_true rfl, Nat.le_of_ble_eq_true rfl⟩ ?_
      refine lv_if_eq (tgt := 52) hx hb dX6_playFault_45 (by decide) (fun c9 => ?_) (fun c9 => ?_)
      · replace h := ite_t c9 h
        refine lv_aload_n hx hb dX6_playFault_52 rfl (lv_at hl 0 rfl) ?_
        refine lv_iconst (v := 3) hx hb dX6_playFault_53 (by decide) ?_
        refine lv_iload_n hx hb dX6_playFault_54 rfl (lv_at hl 1 rfl) ?_
        replace h := bnd h; obtain ⟨q10, e11, h⟩ := h
        refine wrVi (ws1 := [(a_g, .inr (1, [.ref a_gw, .ref a_gk])), (a_u, .inr (6, [.ref a_g, .ref a_r, .int q10.2])), (a_gw, .inl (T 0, 90, .inl v_gw)), (a_gk, .inl (T 0, 18, .inl v_gk))]) C hE hP hD hS hA (kX6_refuse l D T a_u a_g a_r u_det 3 p0 _ q10 e11) mX6_refuse qLX6_33 [1] [0, 2, 3] 1 rfl rfl rfl rfl rfl rfl rfl rfl rfl ⟨rfl, rfl⟩ ⟨Nat.le_of_ble_eq_true rfl, Nat.le_of_ble_eq_true rfl⟩ rfl hl.1 rfl (Nat.le_of_ble_eq_true rfl) dX6_playFault_55 ⟨Nat.le_of_ble_eq_true rfl, Nat.le_of_ble_eq_true rfl⟩ ?_; clear hP hD hS; intro H locs hP hD hS
        replace h := Option.some.inj h
        exact hret _ _ _ _ _ _ dX6_playFault_58 rfl (by rw [← h] <;> rfl) (by rw [← h]; exact hP) hS
      · replace h := ite_f c9 h
        refine lv_iconst (v := 0) hx hb dX6_playFault_48 (by decide) ?_
        refine lv_goto (tgt := 58) hx hb dX6_playFault_49 (by decide) ?_
        replace h := Option.some.inj h
        exact hret _ _ _ _ _ _ dX6_playFault_58 rfl (by rw [← h] <;> rfl) (by rw [← h]; exact hP) hS
    · replace h := ite_f c6 h
      refine lv_aload_n hx hb dX6_playFault_23 rfl (lv_at hl 0 rfl) ?_
      refine lv_iconst (v := 2) hx hb dX6_playFault_24 (by decide) ?_
      refine lv_aload_n hx hb dX6_playFault_25 rfl (lv_at hl 0 rfl) ?_
      refine getF (q0 := 1) (k0 := 0) (v := .ref a_g) C hE hP inA6 rfl rfl (by decide) qFX6_15 rfl rfl dX6_playFault_26 ?_
      refine lv_iconst (v := 1) hx hb dX6_playFault_29 (by decide) ?_
      replace h := bnd h; obtain ⟨q12, e13, h⟩ := h
      refine rdV C hE hP (kX1_count l D T a_g a_gw a_gk v_gk 1 q12 e13) mX1_count qLX6_47 [0, 3] 0 rfl rfl rfl rfl ⟨rfl, rfl⟩ ⟨Nat.le_of_ble_eq_true rfl, Nat.le_of_ble_eq_true rfl⟩ rfl hl.1 rfl (Nat.le_of_ble_eq_true rfl) dX6_playFault_30 ⟨Nat.le_of_ble_eq_true rfl, Nat.le_of_ble_eq_true rfl⟩ ?_
      replace h := bnd h; obtain ⟨q14, e15, h⟩ := h
      refine wrVi (ws1 := [(a_g, .inr (1, [.ref a_gw, .ref a_gk])), (a_u, .inr (6, [.ref a_g, .ref a_r, .int q14.2])), (a_gw, .inl (T 0, 90, .inl v_gw)), (a_gk, .inl (T 0, 18, .inl v_gk))]) C hE hP hD hS hA (kX6_refuse l D T a_u a_g a_r u_det 2 q12 _ q14 e15) mX6_refuse qLX6_33 [1] [0, 2, 3] 1 rfl rfl rfl rfl rfl rfl rfl rfl rfl ⟨rfl, rfl⟩ ⟨Nat.le_of_ble_eq_true rfl, Nat.le_of_ble_eq_true rfl⟩ rfl hl.1 rfl (Nat.le_of_ble_eq_true rfl) dX6_playFault_33 ⟨Nat.le_of_ble_eq_true rfl, Nat.le_of_ble_eq_true rfl⟩ ?_; clear hP hD hS; intro H locs hP hD hS
      replace h := Option.some.inj h
      exact hret _ _ _ _ _ _ dX6_playFault_36 rfl (by rw [← h] <;> rfl) (by rw [← h]; exact hP) hS
  · replace h := ite_t c3 h
    refine lv_iconst (v := (-1)) hx hb dX6_playFault_11 (by decide) ?_
    replace h := Option.some.inj h
    exact hret _ _ _ _ _ _ dX6_playFault_12 rfl (by rw [← h] <;> rfl) (by rw [← h]; exact hP) hS

def fX6_freeFault (u_det : Int32) (v_gw : Nat → Int32) (v_gk : Nat → Int32) (p0 : Int32) : Option (Int32 × Int32) :=
  (fX6_playFault u_det v_gw v_gk p0).bind fun q1 =>
  if q1.1 = 0 then
    (fX1_isStranded v_gw v_gk p0).bind fun q4 =>
    if q4 = 0 then
      some (0, q1.2)
    else
      (fX1_of v_gw p0 4).bind fun q7 =>
      (fX6_refuse q1.2 4 q7).bind fun q9 =>
      some (q9.1, q9.2)
  else
    some (q1.1, q1.2)
set_option maxHeartbeats 4000000 in
set_option maxRecDepth 100000 in
theorem kX6_freeFault (l : Launch) (D : va_G) (T : Nat → ClassId) (a_g a_gw a_gk a_u a_r : Nat) (u_det : Int32) (v_gw : Nat → Int32) (v_gk : Nat → Int32) (p0 : Int32) (sz : Nat) (r : Int32 × Int32) (h : fX6_freeFault u_det v_gw v_gk p0 = some r) : WrI l yX6_freeFault cX6_freeFault 3 .int ({ frames := 3, cells := 0, slots := 0, locals := 65 } : Room) D T sz [(a_g, .inr (1, [.ref a_gw, .ref a_gk])), (a_u, .inr (6, [.ref a_g, .ref a_r, .int u_det])), (a_gw, .inl (T 0, 90, .inl v_gw)), (a_gk, .inl (T 0, 18, .inl v_gk))] [(a_g, .inr (1, [.ref a_gw, .ref a_gk])), (a_u, .inr (6, [.ref a_g, .ref a_r, .int r.2])), (a_gw, .inl (T 0, 90, .inl v_gw)), (a_gk, .inl (T 0, 18, .inl v_gk))] [.ref a_u, .int p0] r.1 := by
  unfold fX6_freeFault at h
  refine wrMet (by decide +kernel) rfl (fun p e s m args below meth c Q A C hE hA hP hD hS hret ls hl => ?_)
  have hx := C.1
  have hb := C.2.1
  have hl : lv_has ls 3 [(0, .ref a_u), (1, .int p0)] := hl
  refine lv_aload_n hx hb dX6_freeFault_0 rfl (lv_at hl 0 rfl) ?_
  refine lv_iload_n hx hb dX6_freeFault_1 rfl (lv_at hl 1 rfl) ?_
  replace h := bnd h; obtain ⟨q1, e2, h⟩ := h
  refine wrVi (ws1 := [(a_g, .inr (1, [.ref a_gw, .ref a_gk])), (a_u, .inr (6, [.ref a_g, .ref a_r, .int q1.2])), (a_gw, .inl (T 0, 90, .inl v_gw)), (a_gk, .inl (T 0, 18, .inl v_gk))]) C hE hP hD hS hA (kX6_playFault l D T a_g a_gw a_gk a_u a_r u_det v_gw v_gk p0 _ q1 e2) mX6_playFault qLX6_56 [0, 1, 2, 3] [] 1 rfl rfl rfl rfl rfl rfl rfl rfl rfl ⟨rfl, rfl⟩ ⟨Nat.le_of_ble_eq_true rfl, Nat.le_of_ble_eq_true rfl⟩ rfl hl.1 rfl (Nat.le_of_ble_eq_true rfl) dX6_freeFault_2 ⟨Nat.le_of_ble_eq_true rfl, Nat.le_of_ble_eq_true rfl⟩ ?_; clear hP hD hS; intro H locs hP hD hS
  refine lv_istore_n (lv' := [(2, .int q1.1), (0, .ref a_u), (1, .int p0)]) hx hb dX6_freeFault_5 rfl hl (by decide) rfl (fun ls hl => ?_)
  refine lv_iload_n hx hb dX6_freeFault_6 rfl (lv_at hl 0 rfl) ?_
  refine lv_if_eq (tgt := 12) hx hb dX6_freeFault_7 (by decide) (fun c3 => ?_) (fun c3 => ?_)
  · replace h := ite_t c3 h
    refine lv_aload_n hx hb dX6_freeFault_12 rfl (lv_at hl 1 rfl) ?_
    refine getF (q0 := 1) (k0 := 0) (v := .ref a_g) C hE hP inA6 rfl rfl (by decide) qFX6_15 rfl rfl dX6_freeFault_13 ?_
    refine lv_iload_n hx hb dX6_freeFault_16 rfl (lv_at hl 2 rfl) ?_
    replace h := bnd h; obtain ⟨q4, e5, h⟩ := h
    refine rdV C hE hP (kX1_isStranded l D T a_g a_gw a_gk v_gw v_gk p0 q4 e5) mX1_isStranded qLX6_59 [0, 2, 3] 0 rfl rfl rfl rfl ⟨rfl, rfl⟩ ⟨Nat.le_of_ble_eq_true rfl, Nat.le_of_ble_eq_true rfl⟩ rfl hl.1 rfl (Nat.le_of_ble_eq_true rfl) dX6_freeFault_17 ⟨Nat.le_of_ble_eq_true rfl, Nat.le_of_ble_eq_true rfl⟩ ?_
    refine lv_if_eq (tgt := 40) hx hb dX6_freeFault_20 (by decide) (fun c6 => ?_) (fun c6 => ?_)
    · replace h := ite_t c6 h
      refine lv_iconst (v := 0) hx hb dX6_freeFault_40 (by decide) ?_
      replace h := Option.some.inj h
      exact hret _ _ _ _ _ _ dX6_freeFault_41 rfl (by rw [← h] <;> rfl) (by rw [← h]; exact hP) hS
    · replace h := ite_f c6 h
      refine lv_aload_n hx hb dX6_freeFault_23 rfl (lv_at hl 1 rfl) ?_
      refine lv_iconst (v := 4) hx hb dX6_freeFault_24 (by decide) ?_
      refine lv_aload_n hx hb dX6_freeFault_25 rfl (lv_at hl 1 rfl) ?_
      refine getF (q0 := 1) (k0 := 0) (v := .ref a_g) C hE hP inA6 rfl rfl (by decide) qFX6_15 rfl rfl dX6_freeFault_26 ?_
      refine lv_iload_n hx hb dX6_freeFault_29 rfl (lv_at hl 2 rfl) ?_
      refine lv_iconst (v := 4) hx hb dX6_freeFault_30 (by decide) ?_
      replace h := bnd h; obtain ⟨q7, e8, h⟩ := h
      refine rdV C hE hP (kX1_of l D T a_g a_gw a_gk v_gw p0 4 q7 e8) mX1_of qLX6_62 [0, 2] 0 rfl rfl rfl rfl ⟨rfl, rfl⟩ ⟨Nat.le_of_ble_eq_true rfl, Nat.le_of_ble_eq_true rfl⟩ rfl hl.1 rfl (Nat.le_of_ble_eq_true rfl) dX6_freeFault_31 ⟨Nat.le_of_ble_eq_true rfl, Nat.le_of_ble_eq_true rfl⟩ ?_
      replace h := bnd h; obtain ⟨q9, e10, h⟩ := h
      refine wrVi (ws1 := [(a_g, .inr (1, [.ref a_gw, .ref a_gk])), (a_u, .inr (6, [.ref a_g, .ref a_r, .int q9.2])), (a_gw, .inl (T 0, 90, .inl v_gw)), (a_gk, .inl (T 0, 18, .inl v_gk))]) C hE hP hD hS hA (kX6_refuse l D T a_u a_g a_r q1.2 4 q7 _ q9 e10) mX6_refuse qLX6_33 [1] [0, 2, 3] 1 rfl rfl rfl rfl rfl rfl rfl rfl rfl ⟨rfl, rfl⟩ ⟨Nat.le_of_ble_eq_true rfl, Nat.le_of_ble_eq_true rfl⟩ rfl hl.1 rfl (Nat.le_of_ble_eq_true rfl) dX6_freeFault_34 ⟨Nat.le_of_ble_eq_true rfl, Nat.le_of_ble_eq_true rfl⟩ ?_; clear hP hD hS; intro H locs hP hD hS
      refine lv_goto (tgt := 41) hx hb dX6_freeFault_37 (by decide) ?_
      replace h := Option.some.inj h
      exact hret _ _ _ _ _ _ dX6_freeFault_41 rfl (by rw [← h] <;> rfl) (by rw [← h]; exact hP) hS
  · replace h := ite_f c3 h
    refine lv_iload_n hx hb dX6_freeFault_10 rfl (lv_at hl 0 rfl) ?_
    replace h := Option.some.inj h
    exact hret _ _ _ _ _ _ dX6_freeFault_11 rfl (by rw [← h] <;> rfl) (by rw [← h]; exact hP) hS

def fX6_breathFault (u_det : Int32) (v_gw : Nat → Int32) (p0 : Int32) (p1 : Int32) : Option (Int32 × Int32) :=
  (fX1_of v_gw p0 3).bind fun q1 =>
  if p1 ≤ q1 then
    some (0, u_det)
  else
    (fX6_refuse u_det 6 q1).bind fun q4 =>
    some (q4.1, q4.2)
set_option maxHeartbeats 4000000 in
set_option maxRecDepth 100000 in
theorem kX6_breathFault (l : Launch) (D : va_G) (T : Nat → ClassId) (a_g a_gw a_gk a_u a_r : Nat) (u_det : Int32) (v_gw : Nat → Int32) (p0 : Int32) (p1 : Int32) (sz : Nat) (r : Int32 × Int32) (h : fX6_breathFault u_det v_gw p0 p1 = some r) : WrI l yX6_breathFault cX6_breathFault 4 .int ({ frames := 1, cells := 0, slots := 0, locals := 23 } : Room) D T sz [(a_g, .inr (1, [.ref a_gw, .ref a_gk])), (a_u, .inr (6, [.ref a_g, .ref a_r, .int u_det])), (a_gw, .inl (T 0, 90, .inl v_gw))] [(a_g, .inr (1, [.ref a_gw, .ref a_gk])), (a_u, .inr (6, [.ref a_g, .ref a_r, .int r.2])), (a_gw, .inl (T 0, 90, .inl v_gw))] [.ref a_u, .int p0, .int p1] r.1 := by
  unfold fX6_breathFault at h
  refine wrMet (by decide +kernel) rfl (fun p e s m args below meth c Q A C hE hA hP hD hS hret ls hl => ?_)
  have hx := C.1
  have hb := C.2.1
  have hl : lv_has ls 4 [(0, .ref a_u), (1, .int p0), (2, .int p1)] := hl
  refine lv_aload_n hx hb dX6_breathFault_0 rfl (lv_at hl 0 rfl) ?_
  refine getF (q0 := 1) (k0 := 0) (v := .ref a_g) C hE hP inA6 rfl rfl (by decide) qFX6_15 rfl rfl dX6_breathFault_1 ?_
  refine lv_iload_n hx hb dX6_breathFault_4 rfl (lv_at hl 1 rfl) ?_
  refine lv_iconst (v := 3) hx hb dX6_breathFault_5 (by decide) ?_
  replace h := bnd h; obtain ⟨q1, e2, h⟩ := h
  refine rdV C hE hP (kX1_of l D T a_g a_gw a_gk v_gw p0 3 q1 e2) mX1_of qLX6_62 [0, 2] 0 rfl rfl rfl rfl ⟨rfl, rfl⟩ ⟨Nat.le_of_ble_eq_true rfl, Nat.le_of_ble_eq_true rfl⟩ rfl hl.1 rfl (Nat.le_of_ble_eq_true rfl) dX6_breathFault_6 ⟨Nat.le_of_ble_eq_true rfl, Nat.le_of_ble_eq_true rfl⟩ ?_
  refine lv_istore_n (lv' := [(3, .int q1), (0, .ref a_u), (1, .int p0), (2, .int p1)]) hx hb dX6_breathFault_9 rfl hl (by decide) rfl (fun ls hl => ?_)
  refine lv_iload_n hx hb dX6_breathFault_10 rfl (lv_at hl 0 rfl) ?_
  refine lv_iload_n hx hb dX6_breathFault_11 rfl (lv_at hl 3 rfl) ?_
  refine lv_icmp_ge (tgt := 25) hx hb dX6_breathFault_12 (by decide) (fun c3 => ?_) (fun c3 => ?_)
  · replace h := ite_t c3 h
    refine lv_iconst (v := 0) hx hb dX6_breathFault_25 (by decide) ?_
    replace h := Option.some.inj h
    exact hret _ _ _ _ _ _ dX6_breathFault_26 rfl (by rw [← h] <;> rfl) (by rw [← h]; exact hP) hS
  · replace h := ite_f c3 h
    refine lv_aload_n hx hb dX6_breathFault_15 rfl (lv_at hl 1 rfl) ?_
    refine lv_bipush (v := 6) hx hb dX6_breathFault_16 (by decide) ?_
    refine lv_iload_n hx hb dX6_breathFault_18 rfl (lv_at hl 0 rfl) ?_
    replace h := bnd h; obtain ⟨q4, e5, h⟩ := h
    refine wrVi (ws1 := [(a_g, .inr (1, [.ref a_gw, .ref a_gk])), (a_u, .inr (6, [.ref a_g, .ref a_r, .int q4.2])), (a_gw, .inl (T 0, 90, .inl v_gw))]) C hE hP hD hS hA (kX6_refuse l D T a_u a_g a_r u_det 6 q1 _ q4 e5) mX6_refuse qLX6_33 [1] [0, 2] 1 rfl rfl rfl rfl rfl rfl rfl rfl rfl ⟨rfl, rfl⟩ ⟨Nat.le_of_ble_eq_true rfl, Nat.le_of_ble_eq_true rfl⟩ rfl hl.1 rfl (Nat.le_of_ble_eq_true rfl) dX6_breathFault_19 ⟨Nat.le_of_ble_eq_true rfl, Nat.le_of_ble_eq_true rfl⟩ ?_; clear hP hD hS; intro H locs hP hD hS
    refine lv_goto (tgt := 26) hx hb dX6_breathFault_22 (by decide) ?_
    replace h := Option.some.inj h
    exact hret _ _ _ _ _ _ dX6_breathFault_26 rfl (by rw [← h] <;> rfl) (by rw [← h]; exact hP) hS

def fX6_substituteFault (u_det : Int32) (v_gw : Nat → Int32) (v_gk : Nat → Int32) (p0 : Int32) (p1 : Int32) : Option (Int32 × Int32) :=
  (fX1_has v_gk p1).bind fun q1 =>
  if q1 = 0 then
    some ((-1), u_det)
  else
    (fX6_playFault u_det v_gw v_gk p0).bind fun q4 =>
    if q4.1 = 0 then
      (fX1_of v_gw p1 0).bind fun q7 =>
      (fX1_of v_gw p0 0).bind fun q9 =>
      if q9 = q7 then
        (fX1_isPlaying v_gw p1).bind fun q12 =>
        if q12 = 0 then
          (fX1_count v_gk (16 + q7)).bind fun q15 =>
          if q15 < 2 then
            some (0, q4.2)
          else
            (fX1_count v_gk (14 + q7)).bind fun q18 =>
            (fX6_refuse q4.2 14 q18).bind fun q20 =>
            some (q20.1, q20.2)
        else
          (fX1_of v_gw p1 4).bind fun q22 =>
          (fX6_refuse q4.2 13 q22).bind fun q24 =>
          some (q24.1, q24.2)
      else
        (fX6_refuse q4.2 12 q7).bind fun q26 =>
        some (q26.1, q26.2)
    else
      some (q4.1, q4.2)
set_option maxHeartbeats 4000000 in
set_option maxRecDepth 100000 in
theorem kX6_substituteFault (l : Launch) (D : va_G) (T : Nat → ClassId) (a_g a_gw a_gk a_u a_r : Nat) (u_det : Int32) (v_gw : Nat → Int32) (v_gk : Nat → Int32) (p0 : Int32) (p1 : Int32) (sz : Nat) (r : Int32 × Int32) (h : fX6_substituteFault u_det v_gw v_gk p0 p1 = some r) : WrI l yX6_substituteFault cX6_substituteFault 5 .int ({ frames := 3, cells := 0, slots := 0, locals := 65 } : Room) D T sz [(a_g, .inr (1, [.ref a_gw, .ref a_gk])), (a_u, .inr (6, [.ref a_g, .ref a_r, .int u_det])), (a_gw, .inl (T 0, 90, .inl v_gw)), (a_gk, .inl (T 0, 18, .inl v_gk))] [(a_g, .inr (1, [.ref a_gw, .ref a_gk])), (a_u, .inr (6, [.ref a_g, .ref a_r, .int r.2])), (a_gw, .inl (T 0, 90, .inl v_gw)), (a_gk, .inl (T 0, 18, .inl v_gk))] [.ref a_u, .int p0, .int p1] r.1 := by
  unfold fX6_substituteFault at h
  refine wrMet (by decide +kernel) rfl (fun p e s m args below meth c Q A C hE hA hP hD hS hret ls hl => ?_)
  have hx := C.1
  have hb := C.2.1
  have hl : lv_has ls 5 [(0, .ref a_u), (1, .int p0), (2, .int p1)] := hl
  refine lv_aload_n hx hb dX6_substituteFault_0 rfl (lv_at hl 0 rfl) ?_
  refine getF (q0 := 1) (k0 := 0) (v := .ref a_g) C hE hP inA6 rfl rfl (by decide) qFX6_15 rfl rfl dX6_substituteFault_1 ?_
  refine lv_iload_n hx hb dX6_substituteFault_4 rfl (lv_at hl 2 rfl) ?_
  replace h := bnd h; obtain ⟨q1, e2, h⟩ := h
  refine rdV C hE hP (kX1_has l D T a_g a_gw a_gk v_gk p1 q1 e2) mX1_has qLX6_50 [0, 3] 0 rfl rfl rfl rfl ⟨rfl, rfl⟩ ⟨Nat.le_of_ble_eq_true rfl, Nat.le_of_ble_eq_true rfl⟩ rfl hl.1 rfl (Nat.le_of_ble_eq_true rfl) dX6_substituteFault_5 ⟨Nat.le_of_ble_eq_true rfl, Nat.le_of_ble_eq_true rfl⟩ ?_
  refine lv_if_ne (tgt := 13) hx hb dX6_substituteFault_8 (by decide) (fun c3 => ?_) (fun c3 => ?_)
  · replace h := ite_f c3 h
    refine lv_aload_n hx hb dX6_substituteFault_13 rfl (lv_at hl 0 rfl) ?_
    refine lv_iload_n hx hb dX6_substituteFault_14 rfl (lv_at hl 1 rfl) ?_
    replace h := bnd h; obtain ⟨q4, e5, h⟩ := h
    refine wrVi (ws1 := [(a_g, .inr (1, [.ref a_gw, .ref a_gk])), (a_u, .inr (6, [.ref a_g, .ref a_r, .int q4.2])), (a_gw, .inl (T 0, 90, .inl v_gw)), (a_gk, .inl (T 0, 18, .inl v_gk))]) C hE hP hD hS hA (kX6_playFault l D T a_g a_gw a_gk a_u a_r u_det v_gw v_gk p0 _ q4 e5) mX6_playFault qLX6_56 [0, 1, 2, 3] [] 1 rfl rfl rfl rfl rfl rfl rfl rfl rfl ⟨rfl, rfl⟩ ⟨Nat.le_of_ble_eq_true rfl, Nat.le_of_ble_eq_true rfl⟩ rfl hl.1 rfl (Nat.le_of_ble_eq_true rfl) dX6_substituteFault_15 ⟨Nat.le_of_ble_eq_true rfl, Nat.le_of_ble_eq_true rfl⟩ ?_; clear hP hD hS; intro H locs hP hD hS
    refine lv_istore_n (lv' := [(3, .int q4.1), (0, .ref a_u), (1, .int p0), (2, .int p1)]) hx hb dX6_substituteFault_18 rfl hl (by decide) rfl (fun ls hl => ?_)
    refine lv_iload_n hx hb dX6_substituteFault_19 rfl (lv_at hl 0 rfl) ?_
    refine lv_if_eq (tgt := 25) hx hb dX6_substituteFault_20 (by decide) (fun c6 => ?_) (fun c6 => ?_)
    · replace h := ite_t c6 h
      refine lv_aload_n hx hb dX6_substituteFault_25 rfl (lv_at hl 1 rfl) ?_
      refine getF (q0 := 1) (k0 := 0) (v := .ref a_g) C hE hP inA6 rfl rfl (by decide) qFX6_15 rfl rfl dX6_substituteFault_26 ?_
      refine lv_iload_n hx hb dX6_substituteFault_29 rfl (lv_at hl 3 rfl) ?_
      refine lv_iconst (v := 0) hx hb dX6_substituteFault_30 (by decide) ?_
      replace h := bnd h; obtain ⟨q7, e8, h⟩ := h
      refine rdV C hE hP (kX1_of l D T a_g a_gw a_gk v_gw p1 0 q7 e8) mX1_of qLX6_62 [0, 2] 0 rfl rfl rfl rfl ⟨rfl, rfl⟩ ⟨Nat.le_of_ble_eq_true rfl, Nat.le_of_ble_eq_true rfl⟩ rfl hl.1 rfl (Nat.le_of_ble_eq_true rfl) dX6_substituteFault_31 ⟨Nat.le_of_ble_eq_true rfl, Nat.le_of_ble_eq_true rfl⟩ ?_
      refine lv_istore (lv' := [(4, .int q7), (3, .int q4.1), (0, .ref a_u), (1, .int p0), (2, .int p1)]) hx hb dX6_substituteFault_34 hl (by decide) rfl (fun ls hl => ?_)
      refine lv_aload_n hx hb dX6_substituteFault_36 rfl (lv_at hl 2 rfl) ?_
      refine getF (q0 := 1) (k0 := 0) (v := .ref a_g) C hE hP inA6 rfl rfl (by decide) qFX6_15 rfl rfl dX6_substituteFault_37 ?_
      refine lv_iload_n hx hb dX6_substituteFault_40 rfl (lv_at hl 3 rfl) ?_
      refine lv_iconst (v := 0) hx hb dX6_substituteFault_41 (by decide) ?_
      replace h := bnd h; obtain ⟨q9, e10, h⟩ := h
      refine rdV C hE hP (kX1_of l D T a_g a_gw a_gk v_gw p0 0 q9 e10) mX1_of qLX6_62 [0, 2] 0 rfl rfl rfl rfl ⟨rfl, rfl⟩ ⟨Nat.le_of_ble_eq_true rfl, Nat.le_of_ble_eq_true rfl⟩ rfl hl.1 rfl (Nat.le_of_ble_eq_true rfl) dX6_substituteFault_42 ⟨Nat.le_of_ble_eq_true rfl, Nat.le_of_ble_eq_true rfl⟩ ?_
      refine lv_iload hx hb dX6_substituteFault_45 (lv_at hl 0 rfl) ?_
      refine lv_icmp_eq (tgt := 59) hx hb dX6_substituteFault_47 (by decide) (fun c11 => ?_) (fun c11 => ?_)
      · replace h := ite_t c11 h
        refine lv_aload_n hx hb dX6_substituteFault_59 rfl (lv_at hl 2 rfl) ?_
        refine getF (q0 := 1) (k0 := 0) (v := .ref a_g) C hE hP inA6 rfl rfl (by decide) qFX6_15 rfl rfl dX6_substituteFault_60 ?_
        refine lv_iload_n hx hb dX6_substituteFault_63 rfl (lv_at hl 4 rfl) ?_
        replace h := bnd h; obtain ⟨q12, e13, h⟩ := h
        refine rdV C hE hP (kX1_isPlaying l D T a_g a_gw a_gk v_gw p1 q12 e13) mX1_isPlaying qLX6_53 [0, 2] 0 rfl rfl rfl rfl ⟨rfl, rfl⟩ ⟨Nat.le_of_ble_eq_true rfl, Nat.le_of_ble_eq_true rfl⟩ rfl hl.1 rfl (Nat.le_of_ble_eq_true rfl) dX6_substituteFault_64 ⟨Nat.le_of_ble_eq_true rfl, Nat.le_of_ble_eq_true rfl⟩ ?_
        refine lv_if_eq (tgt := 86) hx hb dX6_substituteFault_67 (by decide) (fun c14 => ?_) (fun c14 => ?_)
        · replace h := ite_t c14 h
          refine lv_aload_n hx hb dX6_substituteFault_86 rfl (lv_at hl 2 rfl) ?_
          refine getF (q0 := 1) (k0 := 0) (v := .ref a_g) C hE hP inA6 rfl rfl (by decide) qFX6_15 rfl rfl dX6_substituteFault_87 ?_
          refine lv_bipush (v := 16) hx hb dX6_substituteFault_90 (by decide) ?_
          refine lv_iload hx hb dX6_substituteFault_92 (lv_at hl 0 rfl) ?_
          refine lv_iadd hx hb dX6_substituteFault_94 ?_
          replace h := bnd h; obtain ⟨q15, e16, h⟩ := h
          refine rdV C hE hP (kX1_count l D T a_g a_gw a_gk v_gk (16 + q7) q15 e16) mX1_count qLX6_47 [0, 3] 0 rfl rfl rfl rfl ⟨rfl, rfl⟩ ⟨Nat.le_of_ble_eq_true rfl, Nat.le_of_ble_eq_true rfl⟩ rfl hl.1 rfl (Nat.le_of_ble_eq_true rfl) dX6_substituteFault_95 ⟨Nat.le_of_ble_eq_true rfl, Nat.le_of_ble_eq_true rfl⟩ ?_
          refine lv_iconst (v := 2) hx hb dX6_substituteFault_98 (by decide) ?_
          refine lv_icmp_lt (tgt := 121) hx hb dX6_substituteFault_99 (by decide) (fun c17 => ?_) (fun c17 => ?_)
          · replace h := ite_t c17 h
            refine lv_iconst (v := 0) hx hb dX6_substituteFault_121 (by decide) ?_
            replace h := Option.some.inj h
            exact hret _ _ _ _ _ _ dX6_substituteFault_122 rfl (by rw [← h] <;> rfl) (by rw [← h]; exact hP) hS
          · replace h := ite_f c17 h
            refine lv_aload_n hx hb dX6_substituteFault_102 rfl (lv_at hl 2 rfl) ?_
            refine lv_bipush (v := 14) hx hb dX6_substituteFault_103 (by decide) ?_
            refine lv_aload_n hx hb dX6_substituteFault_105 rfl (lv_at hl 2 rfl) ?_
            refine getF (q0 := 1) (k0 := 0) (v := .ref a_g) C hE hP inA6 rfl rfl (by decide) qFX6_15 rfl rfl dX6_substituteFault_106 ?_
            refine lv_bipush (v := 14) hx hb dX6_substituteFault_109 (by decide) ?_
            refine lv_iload hx hb dX6_substituteFault_111 (lv_at hl 0 rfl) ?_
            refine lv_iadd hx hb dX6_substituteFault_113 ?_
            replace h := bnd h; obtain ⟨q18, e19, h⟩ := h
            refine rdV C hE hP (kX1_count l D T a_g a_gw a_gk v_gk (14 + q7) q18 e19) mX1_count qLX6_47 [0, 3] 0 rfl rfl rfl rfl ⟨rfl, rfl⟩ ⟨Nat.le_of_ble_eq_true rfl, Nat.le_of_ble_eq_true rfl⟩ rfl hl.1 rfl (Nat.le_of_ble_eq_true rfl) dX6_substituteFault_114 ⟨Nat.le_of_ble_eq_true rfl, Nat.le_of_ble_eq_true rfl⟩ ?_
            replace h := bnd h; obtain ⟨q20, e21, h⟩ := h
            refine wrVi (ws1 := [(a_g, .inr (1, [.ref a_gw, .ref a_gk])), (a_u, .inr (6, [.ref a_g, .ref a_r, .int q20.2])), (a_gw, .inl (T 0, 90, .inl v_gw)), (a_gk, .inl (T 0, 18, .inl v_gk))]) C hE hP hD hS hA (kX6_refuse l D T a_u a_g a_r q4.2 14 q18 _ q20 e21) mX6_refuse qLX6_33 [1] [0, 2, 3] 1 rfl rfl rfl rfl rfl rfl rfl rfl rfl ⟨rfl, rfl⟩ ⟨Nat.le_of_ble_eq_true rfl, Nat.le_of_ble_eq_true rfl⟩ rfl hl.1 rfl (Nat.le_of_ble_eq_true rfl) dX6_substituteFault_117 ⟨Nat.le_of_ble_eq_true rfl, Nat.le_of_ble_eq_true rfl⟩ ?_; clear hP hD hS; intro H locs hP hD hS
            replace h := Option.some.inj h
            exact hret _ _ _ _ _ _ dX6_substituteFault_120 rfl (by rw [← h] <;> rfl) (by rw [← h]; exact hP) hS
        · replace h := ite_f c14 h
          refine lv_aload_n hx hb dX6_substituteFault_70 rfl (lv_at hl 2 rfl) ?_
          refine lv_bipush (v := 13) hx hb dX6_substituteFault_71 (by decide) ?_
          refine lv_aload_n hx hb dX6_substituteFault_73 rfl (lv_at hl 2 rfl) ?_
          refine getF (q0 := 1) (k0 := 0) (v := .ref a_g) C hE hP inA6 rfl rfl (by decide) qFX6_15 rfl rfl dX6_substituteFault_74 ?_
          refine lv_iload_n hx hb dX6_substituteFault_77 rfl (lv_at hl 4 rfl) ?_
          refine lv_iconst (v := 4) hx hb dX6_substituteFault_78 (by decide) ?_
          replace h := bnd h; obtain ⟨q22, e23, h⟩ := h
          refine rdV C hE hP (kX1_of l D T a_g a_gw a_gk v_gw p1 4 q22 e23) mX1_of qLX6_62 [0, 2] 0 rfl rfl rfl rfl ⟨rfl, rfl⟩ ⟨Nat.le_of_ble_eq_true rfl, Nat.le_of_ble_eq_true rfl⟩ rfl hl.1 rfl (Nat.le_of_ble_eq_true rfl) dX6_substituteFault_79 ⟨Nat.le_of_ble_eq_true rfl, Nat.le_of_ble_eq_true rfl⟩ ?_
          replace h := bnd h; obtain ⟨q24, e25, h⟩ := h
          refine wrVi (ws1 := [(a_g, .inr (1, [.ref a_gw, .ref a_gk])), (a_u, .inr (6, [.ref a_g, .ref a_r, .int q24.2])), (a_gw, .inl (T 0, 90, .inl v_gw)), (a_gk, .inl (T 0, 18, .inl v_gk))]) C hE hP hD hS hA (kX6_refuse l D T a_u a_g a_r q4.2 13 q22 _ q24 e25) mX6_refuse qLX6_33 [1] [0, 2, 3] 1 rfl rfl rfl rfl rfl rfl rfl rfl rfl ⟨rfl, rfl⟩ ⟨Nat.le_of_ble_eq_true rfl, Nat.le_of_ble_eq_true rfl⟩ rfl hl.1 rfl (Nat.le_of_ble_eq_true rfl) dX6_substituteFault_82 ⟨Nat.le_of_ble_eq_true rfl, Nat.le_of_ble_eq_true rfl⟩ ?_; clear hP hD hS; intro H locs hP hD hS
          replace h := Option.some.inj h
          exact hret _ _ _ _ _ _ dX6_substituteFault_85 rfl (by rw [← h] <;> rfl) (by rw [← h]; exact hP) hS
      · replace h := ite_f c11 h
        refine lv_aload_n hx hb dX6_substituteFault_50 rfl (lv_at hl 2 rfl) ?_
        refine lv_bipush (v := 12) hx hb dX6_substituteFault_51 (by decide) ?_
        refine lv_iload hx hb dX6_substituteFault_53 (lv_at hl 0 rfl) ?_
        replace h := bnd h; obtain ⟨q26, e27, h⟩ := h
        refine wrVi (ws1 := [(a_g, .inr (1, [.ref a_gw, .ref a_gk])), (a_u, .inr (6, [.ref a_g, .ref a_r, .int q26.2])), (a_gw, .inl (T 0, 90, .inl v_gw)), (a_gk, .inl (T 0, 18, .inl v_gk))]) C hE hP hD hS hA (kX6_refuse l D T a_u a_g a_r q4.2 12 q7 _ q26 e27) mX6_refuse qLX6_33 [1] [0, 2, 3] 1 rfl rfl rfl rfl rfl rfl rfl rfl rfl ⟨rfl, rfl⟩ ⟨Nat.le_of_ble_eq_true rfl, Nat.le_of_ble_eq_true rfl⟩ rfl hl.1 rfl (Nat.le_of_ble_eq_true rfl) dX6_substituteFault_55 ⟨Nat.le_of_ble_eq_true rfl, Nat.le_of_ble_eq_true rfl⟩ ?_; clear hP hD hS; intro H locs hP hD hS
        replace h := Option.some.inj h
        exact hret _ _ _ _ _ _ dX6_substituteFault_58 rfl (by rw [← h] <;> rfl) (by rw [← h]; exact hP) hS
    · replace h := ite_f c6 h
      refine lv_iload_n hx hb dX6_substituteFault_23 rfl (lv_at hl 0 rfl) ?_
      replace h := Option.some.inj h
      exact hret _ _ _ _ _ _ dX6_substituteFault_24 rfl (by rw [← h] <;> rfl) (by rw [← h]; exact hP) hS
  · replace h := ite_t c3 h
    refine lv_iconst (v := (-1)) hx hb dX6_substituteFault_11 (by decide) ?_
    replace h := Option.some.inj h
    exact hret _ _ _ _ _ _ dX6_substituteFault_12 rfl (by rw [← h] <;> rfl) (by rw [← h]; exact hP) hS

def fX6_moveFault_113 (v_gw : Nat → Int32) (v_gk : Nat → Int32) (l5 : Int32) (u_det : Int32) (v_rs : Nat → Int32) (v_ro : Nat → Int32) : Option (Int32 × Int32 × (Nat → Int32) × (Nat → Int32)) :=
  (fX6_refuse u_det 5 l5).bind fun q27 =>
  some (q27.1, q27.2, v_rs, v_ro)
def fX6_moveFault (u_det : Int32) (v_gw : Nat → Int32) (v_gk : Nat → Int32) (v_rs : Nat → Int32) (v_ro : Nat → Int32) (p0 : Int32) (p1 : Int32) : Option (Int32 × Int32 × (Nat → Int32) × (Nat → Int32)) :=
  if (fX7_isCell p1) = 0 then
    some ((-1), u_det, v_rs, v_ro)
  else
    (fX6_freeFault u_det v_gw v_gk p0).bind fun q2 =>
    if q2.1 = 0 then
      (fX1_whaleOn v_gw v_gk p1).bind fun q5 =>
      if q5 = (-1) then
        (fX1_isDryNow v_gk p1).bind fun q8 =>
        if q8 = 0 then
          (fX4_findBySpreading v_gw v_gk v_rs v_ro p0).bind fun q11 =>
          (fX4_spreadTo q11.1 p1).bind fun q13 =>
          if q13 = (-1) then
            fX6_moveFault_113 v_gw v_gk q13 q2.2 q11.1 q11.2
          else
            (fX1_of v_gw p0 2).bind fun q16 =>
            if q13 ≤ q16 then
              (fX6_breathFault q2.2 v_gw p0 q13).bind fun q19 =>
              some (q19.1, q19.2, q11.1, q11.2)
            else
              fX6_moveFault_113 v_gw v_gk q13 q2.2 q11.1 q11.2
        else
          (fX1_count v_gk 1).bind fun q21 =>
          (fX6_refuse q2.2 8 (fX7_tideByDividing q21)).bind fun q23 =>
          some (q23.1, q23.2, v_rs, v_ro)
      else
        (fX6_refuse q2.2 7 q5).bind fun q25 =>
        some (q25.1, q25.2, v_rs, v_ro)
    else
      some (q2.1, q2.2, v_rs, v_ro)
set_option maxHeartbeats 4000000 in
set_option maxRecDepth 100000 in
theorem lX6_moveFault_113 {p : Program} {l : Launch} {e : Env} {s : State} {m : MethodId} {args : Array Value} {below : List Frame} {meth : Method} {c : Code} {Q : State → Prop} {D : va_G} {T : Nat → ClassId} {a_g a_gw a_gk a_r a_rs a_rl a_ro a_u : Nat} {v_gw : Nat → Int32} {v_gk : Nat → Int32} {A : Nat → Prop} {r : Int32 × Int32 × (Nat → Int32) × (Nat → Int32)} (C : CallFix p m c cX6_moveFault 6 s args aw RX6) (hE : eK D T s) (hA : ∀ q : Nat, s.heap.size ≤ q → A q) (hret : WrRet p l e ({ frames := 4, cells := 0, slots := 0, locals := 93 } : Room) s m args below meth c Q cX6_moveFault .int D A [(a_g, .inr (1, [.ref a_gw, .ref a_gk])), (a_r, .inr (4, [.ref a_g, .ref a_rs, .ref a_rl, .ref a_ro])), (a_u, .inr (6, [.ref a_g, .ref a_r, .int r.2.1])), (a_gw, .inl (T 0, 90, .inl v_gw)), (a_gk, .inl (T 0, 18, .inl v_gk)), (a_rs, .inl (T 0, 45, .inl r.2.2.1)), (a_ro, .inl (T 1, 45, .inl r.2.2.2))] r.1) (l5 : Int32) (u_det : Int32) (v_rs : Nat → Int32) (v_ro : Nat → Int32) {H : Heap} {locs : List Loc} (hPD : va_PD D A [(a_g, .inr (1, [.ref a_gw, .ref a_gk])), (a_r, .inr (4, [.ref a_g, .ref a_rs, .ref a_rl, .ref a_ro])), (a_u, .inr (6, [.ref a_g, .ref a_r, .int u_det])), (a_gw, .inl (T 0, 90, .inl v_gw)), (a_gk, .inl (T 0, 18, .inl v_gk)), (a_rs, .inl (T 0, 45, .inl v_rs)), (a_ro, .inl (T 1, 45, .inl v_ro))] H) (hS : va_S A s.heap H locs) (ls : Array Slot) (hl : lv_has ls 6 [(0, .ref a_u), (5, .int l5)]) (h : fX6_moveFault_113 v_gw v_gk l5 u_det v_rs v_ro = some r) : W p l e ({ frames := 4, cells := 0, slots := 0, locals := 93 } : Room) s m args below meth c H locs 0 0 Q (F0 m 113 ls []) := by
  have hx := C.1
  have hb := C.2.1
  obtain ⟨hP, hD⟩ := hPD
  unfold fX6_moveFault_113 at h
  refine lv_aload_n hx hb dX6_moveFault_113 rfl (lv_at hl 0 rfl) ?_
  refine lv_iconst (v := 5) hx hb dX6_moveFault_114 (by decide) ?_
  refine lv_iload hx hb dX6_moveFault_115 (lv_at hl 1 rfl) ?_
  replace h := bnd h; obtain ⟨q27, e28, h⟩ := h
  refine wrVi (ws1 := [(a_g, .inr (1, [.ref a_gw, .ref a_gk])), (a_r, .inr (4, [.ref a_g, .ref a_rs, .ref a_rl, .ref a_ro])), (a_u, .inr (6, [.ref a_g, .ref a_r, .int q27.2])), (a_gw, .inl (T 0, 90, .inl v_gw)), (a_gk, .inl (T 0, 18, .inl v_gk)), (a_rs, .inl (T 0, 45, .inl v_rs)), (a_ro, .inl (T 1, 45, .inl v_ro))]) C hE hP hD hS hA (kX6_refuse l D T a_u a_g a_r u_det 5 l5 _ q27 e28) mX6_refuse qLX6_33 [2] [0, 1, 3, 4, 5, 6] 2 rfl rfl rfl rfl rfl rfl rfl rfl rfl ⟨rfl, rfl⟩ ⟨Nat.le_of_ble_eq_true rfl, Nat.le_of_ble_eq_true rfl⟩ rfl hl.1 rfl (Nat.le_of_ble_eq_true rfl) dX6_moveFault_117 ⟨Nat.le_of_ble_eq_true rfl, Nat.le_of_ble_eq_true rfl⟩ ?_; clear hP hD hS; intro H locs hP hD hS
  replace h := Option.some.inj h
  exact hret _ _ _ _ _ _ dX6_moveFault_120 rfl (by rw [← h] <;> rfl) (by rw [← h]; exact hP) hS
set_option maxHeartbeats 4000000 in
set_option maxRecDepth 100000 in
theorem kX6_moveFault (l : Launch) (D : va_G) (T : Nat → ClassId) (a_g a_gw a_gk a_r a_rs a_rl a_ro a_u : Nat) (u_det : Int32) (v_gw : Nat → Int32) (v_gk : Nat → Int32) (v_rs : Nat → Int32) (v_ro : Nat → Int32) (p0 : Int32) (p1 : Int32) (sz : Nat) (r : Int32 × Int32 × (Nat → Int32) × (Nat → Int32)) (h : fX6_moveFault u_det v_gw v_gk v_rs v_ro p0 p1 = some r) : WrI l yX6_moveFault cX6_moveFault 6 .int ({ frames := 4, cells := 0, slots := 0, locals := 93 } : Room) D T sz [(a_g, .inr (1, [.ref a_gw, .ref a_gk])), (a_r, .inr (4, [.ref a_g, .ref a_rs, .ref a_rl, .ref a_ro])), (a_u, .inr (6, [.ref a_g, .ref a_r, .int u_det])), (a_gw, .inl (T 0, 90, .inl v_gw)), (a_gk, .inl (T 0, 18, .inl v_gk)), (a_rs, .inl (T 0, 45, .inl v_rs)), (a_ro, .inl (T 1, 45, .inl v_ro))] [(a_g, .inr (1, [.ref a_gw, .ref a_gk])), (a_r, .inr (4, [.ref a_g, .ref a_rs, .ref a_rl, .ref a_ro])), (a_u, .inr (6, [.ref a_g, .ref a_r, .int r.2.1])), (a_gw, .inl (T 0, 90, .inl v_gw)), (a_gk, .inl (T 0, 18, .inl v_gk)), (a_rs, .inl (T 0, 45, .inl r.2.2.1)), (a_ro, .inl (T 1, 45, .inl r.2.2.2))] [.ref a_u, .int p0, .int p1] r.1 := by
  unfold fX6_moveFault at h
  refine wrMet (by decide +kernel) rfl (fun p e s m args below meth c Q A C hE hA hP hD hS hret ls hl => ?_)
  have hx := C.1
  have hb := C.2.1
  have hl : lv_has ls 6 [(0, .ref a_u), (1, .int p0), (2, .int p1)] := hl
  refine lv_iload_n hx hb dX6_moveFault_0 rfl (lv_at hl 2 rfl) ?_
  refine rdSN C hE hP (kX7_isCell l D T p1) mX7_isCell (by decide +kernel) [] rfl ⟨rfl, rfl⟩ ⟨Nat.le_of_ble_eq_true rfl, Nat.le_of_ble_eq_true rfl⟩ rfl hl.1 rfl (Nat.le_of_ble_eq_true rfl) dX6_moveFault_1 ⟨Nat.le_of_ble_eq_true rfl, Nat.le_of_ble_eq_true rfl⟩ ?_
  refine lv_if_ne (tgt := 9) hx hb dX6_moveFault_4 (by decide) (fun c1 => ?_) (fun c1 => ?_)
  · replace h := ite_f c1 h
    refine lv_aload_n hx hb dX6_moveFault_9 rfl (lv_at hl 0 rfl) ?_
    refine lv_iload_n hx hb dX6_moveFault_10 rfl (lv_at hl 1 rfl) ?_
    replace h := bnd h; obtain ⟨q2, e3, h⟩ := h
    refine wrVi (ws1 := [(a_g, .inr (1, [.ref a_gw, .ref a_gk])), (a_r, .inr (4, [.ref a_g, .ref a_rs, .ref a_rl, .ref a_ro])), (a_u, .inr (6, [.ref a_g, .ref a_r, .int q2.2])), (a_gw, .inl (T 0, 90, .inl v_gw)), (a_gk, .inl (T 0, 18, .inl v_gk)), (a_rs, .inl (T 0, 45, .inl v_rs)), (a_ro, .inl (T 1, 45, .inl v_ro))]) C hE hP hD hS hA (kX6_freeFault l D T a_g a_gw a_gk a_u a_r u_det v_gw v_gk p0 _ q2 e3) mX6_freeFault qLX6_68 [0, 2, 3, 4] [1, 5, 6] 2 rfl rfl rfl rfl rfl rfl rfl rfl rfl ⟨rfl, rfl⟩ ⟨Nat.le_of_ble_eq_true rfl, Nat.le_of_ble_eq_true rfl⟩ rfl hl.1 rfl (Nat.le_of_ble_eq_true rfl) dX6_moveFault_11 ⟨Nat.le_of_ble_eq_true rfl, Nat.le_of_ble_eq_true rfl⟩ ?_; clear hP hD hS; intro H locs hP hD hS
    refine lv_istore_n (lv' := [(3, .int q2.1), (0, .ref a_u), (1, .int p0), (2, .int p1)]) hx hb dX6_moveFault_14 rfl hl (by decide) rfl (fun ls hl => ?_)
    refine lv_iload_n hx hb dX6_moveFault_15 rfl (lv_at hl 0 rfl) ?_
    refine lv_if_eq (tgt := 21) hx hb dX6_moveFault_16 (by decide) (fun c4 => ?_) (fun c4 => ?_)
    · replace h := ite_t c4 h
      refine lv_aload_n hx hb dX6_moveFault_21 rfl (lv_at hl 1 rfl) ?_
      refine getF (q0 := 2) (k0 := 0) (v := .ref a_g) C hE hP inA6 rfl rfl (by decide) qFX6_15 rfl rfl dX6_moveFault_22 ?_
      refine lv_iload_n hx hb dX6_moveFault_25 rfl (lv_at hl 3 rfl) ?_
      replace h := bnd h; obtain ⟨q5, e6, h⟩ := h
      refine rdV C hE hP (kX1_whaleOn l D T a_g a_gw a_gk v_gw v_gk p1 q5 e6) mX1_whaleOn qLX6_40 [0, 3, 4] 0 rfl rfl rfl rfl ⟨rfl, rfl⟩ ⟨Nat.le_of_ble_eq_true rfl, Nat.le_of_ble_eq_true rfl⟩ rfl hl.1 rfl (Nat.le_of_ble_eq_true rfl) dX6_moveFault_26 ⟨Nat.le_of_ble_eq_true rfl, Nat.le_of_ble_eq_true rfl⟩ ?_
      refine lv_istore (lv' := [(4, .int q5), (3, .int q2.1), (0, .ref a_u), (1, .int p0), (2, .int p1)]) hx hb dX6_moveFault_29 hl (by decide) rfl (fun ls hl => ?_)
      refine lv_iload hx hb dX6_moveFault_31 (lv_at hl 0 rfl) ?_
      refine lv_iconst (v := (-1)) hx hb dX6_moveFault_33 (by decide) ?_
      refine lv_icmp_eq (tgt := 46) hx hb dX6_moveFault_34 (by decide) (fun c7 => ?_) (fun c7 => ?_)
      · replace h := ite_t c7 h
        refine lv_aload_n hx hb dX6_moveFault_46 rfl (lv_at hl 2 rfl) ?_
        refine getF (q0 := 2) (k0 := 0) (v := .ref a_g) C hE hP inA6 rfl rfl (by decide) qFX6_15 rfl rfl dX6_moveFault_47 ?_
        refine lv_iload_n hx hb dX6_moveFault_50 rfl (lv_at hl 4 rfl) ?_
        replace h := bnd h; obtain ⟨q8, e9, h⟩ := h
        refine rdV C hE hP (kX1_isDryNow l D T a_g a_gw a_gk v_gk p1 q8 e9) mX1_isDryNow qLX6_71 [0, 4] 0 rfl rfl rfl rfl ⟨rfl, rfl⟩ ⟨Nat.le_of_ble_eq_true rfl, Nat.le_of_ble_eq_true rfl⟩ rfl hl.1 rfl (Nat.le_of_ble_eq_true rfl) dX6_moveFault_51 ⟨Nat.le_of_ble_eq_true rfl, Nat.le_of_ble_eq_true rfl⟩ ?_
        refine lv_if_eq (tgt := 75) hx hb dX6_moveFault_54 (by decide) (fun c10 => ?_) (fun c10 => ?_)
        · replace h := ite_t c10 h
          refine lv_aload_n hx hb dX6_moveFault_75 rfl (lv_at hl 2 rfl) ?_
          refine getF (q0 := 2) (k0 := 1) (v := .ref a_r) C hE hP inA6 rfl rfl (by decide) qFX6_19 rfl rfl dX6_moveFault_76 ?_
          refine lv_iload_n hx hb dX6_moveFault_79 rfl (lv_at hl 3 rfl) ?_
          replace h := bnd h; obtain ⟨q11, e12, h⟩ := h
          refine wrVv (ws1 := [(a_g, .inr (1, [.ref a_gw, .ref a_gk])), (a_r, .inr (4, [.ref a_g, .ref a_rs, .ref a_rl, .ref a_ro])), (a_u, .inr (6, [.ref a_g, .ref a_r, .int q2.2])), (a_gw, .inl (T 0, 90, .inl v_gw)), (a_gk, .inl (T 0, 18, .inl v_gk)), (a_rs, .inl (T 0, 45, .inl q11.1)), (a_ro, .inl (T 1, 45, .inl q11.2))]) C hE hP hD hS hA (kX4_findBySpreading l D T a_g a_gw a_gk a_r a_rs a_rl a_ro v_gw v_gk v_rs v_ro p0 _ q11 e12) mX4_findBySpreading qLX6_77 [0, 1, 3, 4, 5, 6] [2] 1 rfl rfl rfl rfl rfl rfl rfl rfl rfl ⟨rfl, rfl⟩ ⟨Nat.le_of_ble_eq_true rfl, Nat.le_of_ble_eq_true rfl⟩ rfl hl.1 rfl (Nat.le_of_ble_eq_true rfl) dX6_moveFault_80 ⟨Nat.le_of_ble_eq_true rfl, Nat.le_of_ble_eq_true rfl⟩ ?_; clear hP hD hS; intro H locs hP hD hS
          refine lv_aload_n hx hb dX6_moveFault_83 rfl (lv_at hl 2 rfl) ?_
          refine getF (q0 := 2) (k0 := 1) (v := .ref a_r) C hE hP inA6 rfl rfl (by decide) qFX6_19 rfl rfl dX6_moveFault_84 ?_
          refine lv_iload_n hx hb dX6_moveFault_87 rfl (lv_at hl 4 rfl) ?_
          replace h := bnd h; obtain ⟨q13, e14, h⟩ := h
          refine rdV C hE hP (kX4_spreadTo l D T a_r a_g a_rs a_rl a_ro q11.1 p1 q13 e14) mX4_spreadTo qLX6_83 [1, 5] 1 rfl rfl rfl rfl ⟨rfl, rfl⟩ ⟨Nat.le_of_ble_eq_true rfl, Nat.le_of_ble_eq_true rfl⟩ rfl hl.1 rfl (Nat.le_of_ble_eq_true rfl) dX6_moveFault_88 ⟨Nat.le_of_ble_eq_true rfl, Nat.le_of_ble_eq_true rfl⟩ ?_
          refine lv_istore (lv' := [(5, .int q13), (4, .int q5), (3, .int q2.1), (0, .ref a_u), (1, .int p0), (2, .int p1)]) hx hb dX6_moveFault_91 hl (by decide) rfl (fun ls hl => ?_)
          refine lv_iload hx hb dX6_moveFault_93 (lv_at hl 0 rfl) ?_
          refine lv_iconst (v := (-1)) hx hb dX6_moveFault_95 (by decide) ?_
          refine lv_icmp_eq (tgt := 113) hx hb dX6_moveFault_96 (by decide) (fun c15 => ?_) (fun c15 => ?_)
          · replace h := ite_t c15 h
            exact lX6_moveFault_113 C hE hA hret q13 q2.2 q11.1 q11.2 ⟨hP, hD⟩ hS _ (lv_sub hl [3, 0] rfl) h
          · replace h := ite_f c15 h
            refine lv_iload hx hb dX6_moveFault_99 (lv_at hl 0 rfl) ?_
            refine lv_aload_n hx hb dX6_moveFault_101 rfl (lv_at hl 3 rfl) ?_
            refine getF (q0 := 2) (k0 := 0) (v := .ref a_g) C hE hP inA6 rfl rfl (by decide) qFX6_15 rfl rfl dX6_moveFault_102 ?_
            refine lv_iload_n hx hb dX6_moveFault_105 rfl (lv_at hl 4 rfl) ?_
            refine lv_iconst (v := 2) hx hb dX6_moveFault_106 (by decide) ?_
            replace h := bnd h; obtain ⟨q16, e17, h⟩ := h
            refine rdV C hE hP (kX1_of l D T a_g a_gw a_gk v_gw p0 2 q16 e17) mX1_of qLX6_62 [0, 3] 0 rfl rfl rfl rfl ⟨rfl, rfl⟩ ⟨Nat.le_of_ble_eq_true rfl, Nat.le_of_ble_eq_true rfl⟩ rfl hl.1 rfl (Nat.le_of_ble_eq_true rfl) dX6_moveFault_107 ⟨Nat.le_of_ble_eq_true rfl, Nat.le_of_ble_eq_true rfl⟩ ?_
            refine lv_icmp_le (tgt := 121) hx hb dX6_moveFault_110 (by decide) (fun c18 => ?_) (fun c18 => ?_)
            · replace h := ite_t c18 h
              refine lv_aload_n hx hb dX6_moveFault_121 rfl (lv_at hl 3 rfl) ?_
              refine lv_iload_n hx hb dX6_moveFault_122 rfl (lv_at hl 4 rfl) ?_
              refine lv_iload hx hb dX6_moveFault_123 (lv_at hl 0 rfl) ?_
              replace h := bnd h; obtain ⟨q19, e20, h⟩ := h
              refine wrVi (ws1 := [(a_g, .inr (1, [.ref a_gw, .ref a_gk])), (a_r, .inr (4, [.ref a_g, .ref a_rs, .ref a_rl, .ref a_ro])), (a_u, .inr (6, [.ref a_g, .ref a_r, .int q19.2])), (a_gw, .inl (T 0, 90, .inl v_gw)), (a_gk, .inl (T 0, 18, .inl v_gk)), (a_rs, .inl (T 0, 45, .inl q11.1)), (a_ro, .inl (T 1, 45, .inl q11.2))]) C hE hP hD hS hA (kX6_breathFault l D T a_g a_gw a_gk a_u a_r q2.2 v_gw p0 q13 _ q19 e20) mX6_breathFault qLX6_86 [0, 2, 3] [1, 4, 5, 6] 2 rfl rfl rfl rfl rfl rfl rfl rfl rfl ⟨rfl, rfl⟩ ⟨Nat.le_of_ble_eq_true rfl, Nat.le_of_ble_eq_true rfl⟩ rfl hl.1 rfl (Nat.le_of_ble_eq_true rfl) dX6_moveFault_125 ⟨Nat.le_of_ble_eq_true rfl, Nat.le_of_ble_eq_true rfl⟩ ?_; clear hP hD hS; intro H locs hP hD hS
              replace h := Option.some.inj h
              exact hret _ _ _ _ _ _ dX6_moveFault_128 rfl (by rw [← h] <;> rfl) (by rw [← h]; exact hP) hS
            · replace h := ite_f c18 h
              exact lX6_moveFault_113 C hE hA hret q13 q2.2 q11.1 q11.2 ⟨hP, hD⟩ hS _ (lv_sub hl [3, 0] rfl) h
        · replace h := ite_f c10 h
          refine lv_aload_n hx hb dX6_moveFault_57 rfl (lv_at hl 2 rfl) ?_
          refine lv_bipush (v := 8) hx hb dX6_moveFault_58 (by decide) ?_
          refine lv_aload_n hx hb dX6_moveFault_60 rfl (lv_at hl 2 rfl) ?_
          refine getF (q0 := 2) (k0 := 0) (v := .ref a_g) C hE hP inA6 rfl rfl (by decide) qFX6_15 rfl rfl dX6_moveFault_61 ?_
          refine lv_iconst (v := 1) hx hb dX6_moveFault_64 (by decide) ?_
          replace h := bnd h; obtain ⟨q21, e22, h⟩ := h
          refine rdV C hE hP (kX1_count l D T a_g a_gw a_gk v_gk 1 q21 e22) mX1_count qLX6_47 [0, 4] 0 rfl rfl rfl rfl ⟨rfl, rfl⟩ ⟨Nat.le_of_ble_eq_true rfl, Nat.le_of_ble_eq_true rfl⟩ rfl hl.1 rfl (Nat.le_of_ble_eq_true rfl) dX6_moveFault_65 ⟨Nat.le_of_ble_eq_true rfl, Nat.le_of_ble_eq_true rfl⟩ ?_
          refine rdSN C hE hP (kX7_tideByDividing l D T q21) mX7_tideByDividing (by decide +kernel) [] rfl ⟨rfl, rfl⟩ ⟨Nat.le_of_ble_eq_true rfl, Nat.le_of_ble_eq_true rfl⟩ rfl hl.1 rfl (Nat.le_of_ble_eq_true rfl) dX6_moveFault_68 ⟨Nat.le_of_ble_eq_true rfl, Nat.le_of_ble_eq_true rfl⟩ ?_
          replace h := bnd h; obtain ⟨q23, e24, h⟩ := h
          refine wrVi (ws1 := [(a_g, .inr (1, [.ref a_gw, .ref a_gk])), (a_r, .inr (4, [.ref a_g, .ref a_rs, .ref a_rl, .ref a_ro])), (a_u, .inr (6, [.ref a_g, .ref a_r, .int q23.2])), (a_gw, .inl (T 0, 90, .inl v_gw)), (a_gk, .inl (T 0, 18, .inl v_gk)), (a_rs, .inl (T 0, 45, .inl v_rs)), (a_ro, .inl (T 1, 45, .inl v_ro))]) C hE hP hD hS hA (kX6_refuse l D T a_u a_g a_r q2.2 8 (fX7_tideByDividing q21) _ q23 e24) mX6_refuse qLX6_33 [2] [0, 1, 3, 4, 5, 6] 2 rfl rfl rfl rfl rfl rfl rfl rfl rfl ⟨rfl, rfl⟩ ⟨Nat.le_of_ble_eq_true rfl, Nat.le_of_ble_eq_true rfl⟩ rfl hl.1 rfl (Nat.le_of_ble_eq_true rfl) dX6_moveFault_71 ⟨Nat.le_of_ble_eq_true rfl, Nat.le_of_ble_eq_true rfl⟩ ?_; clear hP hD hS; intro H locs hP hD hS
          replace h := Option.some.inj h
          exact hret _ _ _ _ _ _ dX6_moveFault_74 rfl (by rw [← h] <;> rfl) (by rw [← h]; exact hP) hS
      · replace h := ite_f c7 h
        refine lv_aload_n hx hb dX6_moveFault_37 rfl (lv_at hl 2 rfl) ?_
        refine lv_bipush (v := 7) hx hb dX6_moveFault_38 (by decide) ?_
        refine lv_iload hx hb dX6_moveFault_40 (lv_at hl 0 rfl) ?_
        replace h := bnd h; obtain ⟨q25, e26, h⟩ := h
        refine wrVi (ws1 := [(a_g, .inr (1, [.ref a_gw, .ref a_gk])), (a_r, .inr (4, [.ref a_g, .ref a_rs, .ref a_rl, .ref a_ro])), (a_u, .inr (6, [.ref a_g, .ref a_r, .int q25.2])), (a_gw, .inl (T 0, 90, .inl v_gw)), (a_gk, .inl (T 0, 18, .inl v_gk)), (a_rs, .inl (T 0, 45, .inl v_rs)), (a_ro, .inl (T 1, 45, .inl v_ro))]) C hE hP hD hS hA (kX6_refuse l D T a_u a_g a_r q2.2 7 q5 _ q25 e26) mX6_refuse qLX6_33 [2] [0, 1, 3, 4, 5, 6] 2 rfl rfl rfl rfl rfl rfl rfl rfl rfl ⟨rfl, rfl⟩ ⟨Nat.le_of_ble_eq_true rfl, Nat.le_of_ble_eq_true rfl⟩ rfl hl.1 rfl (Nat.le_of_ble_eq_true rfl) dX6_moveFault_42 ⟨Nat.le_of_ble_eq_true rfl, Nat.le_of_ble_eq_true rfl⟩ ?_; clear hP hD hS; intro H locs hP hD hS
        replace h := Option.some.inj h
        exact hret _ _ _ _ _ _ dX6_moveFault_45 rfl (by rw [← h] <;> rfl) (by rw [← h]; exact hP) hS
    · replace h := ite_f c4 h
      refine lv_iload_n hx hb dX6_moveFault_19 rfl (lv_at hl 0 rfl) ?_
      replace h := Option.some.inj h
      exact hret _ _ _ _ _ _ dX6_moveFault_20 rfl (by rw [← h] <;> rfl) (by rw [← h]; exact hP) hS
  · replace h := ite_t c1 h
    refine lv_iconst (v := (-1)) hx hb dX6_moveFault_7 (by decide) ?_
    replace h := Option.some.inj h
    exact hret _ _ _ _ _ _ dX6_moveFault_8 rfl (by rw [← h] <;> rfl) (by rw [← h]; exact hP) hS

def fX7_isWay (p0 : Int32) : Int32 :=
  if p0 < 0 then
    0
  else
    if 4 ≤ p0 then
      0
    else
      1
set_option maxHeartbeats 4000000 in
set_option maxRecDepth 100000 in
theorem kX7_isWay (l : Launch) (D : va_G) (T : Nat → ClassId) (p0 : Int32) : RdI l yX7_isWay cX7_isWay 1 .boolean ({ frames := 0, cells := 0, slots := 0, locals := 0 } : Room) D T [] [.int p0] (fX7_isWay p0) := by
  obtain ⟨r, h⟩ : ∃ r, fX7_isWay p0 = r := ⟨_, rfl⟩
  rw [h]
  unfold fX7_isWay at h
  refine rdMet (by decide +kernel) rfl (fun p e s m args below meth c Q C hE hP hret ls hl => ?_)
  have hx := C.1
  have hb := C.2.1
  have hl : lv_has ls 1 [(0, .int p0)] := hl
  refine lv_iload_n hx hb dX7_isWay_0 rfl (lv_at hl 0 rfl) ?_
  refine lv_if_lt (tgt := 13) hx hb dX7_isWay_1 (by decide) (fun c1 => ?_) (fun c1 => ?_)
  · replace h := ite_t c1 h
    refine lv_iconst (v := 0) hx hb dX7_isWay_13 (by decide) ?_
    exact hret _ _ _ _ dX7_isWay_14 rfl h
  · replace h := ite_f c1 h
    refine lv_iload_n hx hb dX7_isWay_4 rfl (lv_at hl 0 rfl) ?_
    refine lv_iconst (v := 4) hx hb dX7_isWay_5 (by decide) ?_
    refine lv_icmp_ge (tgt := 13) hx hb dX7_isWay_6 (by decide) (fun c2 => ?_) (fun c2 => ?_)
    · replace h := ite_t c2 h
      refine lv_iconst (v := 0) hx hb dX7_isWay_13 (by decide) ?_
      exact hret _ _ _ _ dX7_isWay_14 rfl h
    · replace h := ite_f c2 h
      refine lv_iconst (v := 1) hx hb dX7_isWay_9 (by decide) ?_
      refine lv_goto (tgt := 14) hx hb dX7_isWay_10 (by decide) ?_
      exact hret _ _ _ _ dX7_isWay_14 rfl h

def fX7_isForce (p0 : Int32) : Int32 :=
  if p0 < 1 then
    0
  else
    if 5 < p0 then
      0
    else
      1
set_option maxHeartbeats 4000000 in
set_option maxRecDepth 100000 in
theorem kX7_isForce (l : Launch) (D : va_G) (T : Nat → ClassId) (p0 : Int32) : RdI l yX7_isForce cX7_isForce 1 .boolean ({ frames := 0, cells := 0, slots := 0, locals := 0 } : Room) D T [] [.int p0] (fX7_isForce p0) := by
  obtain ⟨r, h⟩ : ∃ r, fX7_isForce p0 = r := ⟨_, rfl⟩
  rw [h]
  unfold fX7_isForce at h
  refine rdMet (by decide +kernel) rfl (fun p e s m args below meth c Q C hE hP hret ls hl => ?_)
  have hx := C.1
  have hb := C.2.1
  have hl : lv_has ls 1 [(0, .int p0)] := hl
  refine lv_iload_n hx hb dX7_isForce_0 rfl (lv_at hl 0 rfl) ?_
  refine lv_iconst (v := 1) hx hb dX7_isForce_1 (by decide) ?_
  refine lv_icmp_lt (tgt := 14) hx hb dX7_isForce_2 (by decide) (fun c1 => ?_) (fun c1 => ?_)
  · replace h := ite_t c1 h
    refine lv_iconst (v := 0) hx hb dX7_isForce_14 (by decide) ?_
    exact hret _ _ _ _ dX7_isForce_15 rfl h
  · replace h := ite_f c1 h
    refine lv_iload_n hx hb dX7_isForce_5 rfl (lv_at hl 0 rfl) ?_
    refine lv_iconst (v := 5) hx hb dX7_isForce_6 (by decide) ?_
    refine lv_icmp_gt (tgt := 14) hx hb dX7_isForce_7 (by decide) (fun c2 => ?_) (fun c2 => ?_)
    · replace h := ite_t c2 h
      refine lv_iconst (v := 0) hx hb dX7_isForce_14 (by decide) ?_
      exact hret _ _ _ _ dX7_isForce_15 rfl h
    · replace h := ite_f c2 h
      refine lv_iconst (v := 1) hx hb dX7_isForce_10 (by decide) ?_
      refine lv_goto (tgt := 15) hx hb dX7_isForce_11 (by decide) ?_
      exact hret _ _ _ _ dX7_isForce_15 rfl h

def fX6_hitFault (u_det : Int32) (v_gw : Nat → Int32) (v_gk : Nat → Int32) (p0 : Int32) (p1 : Int32) (p2 : Int32) : Option (Int32 × Int32) :=
  (fX1_has v_gk p0).bind fun q1 =>
  if q1 = 0 then
    some ((-1), u_det)
  else
    if (fX7_isWay p1) = 0 then
      some ((-2), u_det)
    else
      if (fX7_isForce p2) = 0 then
        some ((-2), u_det)
      else
        (fX6_freeFault u_det v_gw v_gk p0).bind fun q6 =>
        if q6.1 = 0 then
          (fX1_isNearBuoy v_gw v_gk p0).bind fun q9 =>
          if q9 = 0 then
            (fX1_of v_gw p0 4).bind fun q21 =>
            (fX1_count v_gk 5).bind fun q23 =>
            (fX6_refuse q6.2 9 (fX7_between q21 q23)).bind fun q25 =>
            some (q25.1, q25.2)
          else
            (fX1_of v_gw p0 1).bind fun q12 =>
            if p2 ≤ q12 then
              (fX6_breathFault q6.2 v_gw p0 1).bind fun q15 =>
              some (q15.1, q15.2)
            else
              (fX1_of v_gw p0 1).bind fun q17 =>
              (fX6_refuse q6.2 10 q17).bind fun q19 =>
              some (q19.1, q19.2)
        else
          some (q6.1, q6.2)
set_option maxHeartbeats 4000000 in
set_option maxRecDepth 100000 in
theorem kX6_hitFault (l : Launch) (D : va_G) (T : Nat → ClassId) (a_g a_gw a_gk a_u a_r : Nat) (u_det : Int32) (v_gw : Nat → Int32) (v_gk : Nat → Int32) (p0 : Int32) (p1 : Int32) (p2 : Int32) (sz : Nat) (r : Int32 × Int32) (h : fX6_hitFault u_det v_gw v_gk p0 p1 p2 = some r) : WrI l yX6_hitFault cX6_hitFault 5 .int ({ frames := 4, cells := 0, slots := 0, locals := 87 } : Room) D T sz [(a_g, .inr (1, [.ref a_gw, .ref a_gk])), (a_u, .inr (6, [.ref a_g, .ref a_r, .int u_det])), (a_gw, .inl (T 0, 90, .inl v_gw)), (a_gk, .inl (T 0, 18, .inl v_gk))] [(a_g, .inr (1, [.ref a_gw, .ref a_gk])), (a_u, .inr (6, [.ref a_g, .ref a_r, .int r.2])), (a_gw, .inl (T 0, 90, .inl v_gw)), (a_gk, .inl (T 0, 18, .inl v_gk))] [.ref a_u, .int p0, .int p1, .int p2] r.1 := by
  unfold fX6_hitFault at h
  refine wrMet (by decide +kernel) rfl (fun p e s m args below meth c Q A C hE hA hP hD hS hret ls hl => ?_)
  have hx := C.1
  have hb := C.2.1
  have hl : lv_has ls 5 [(0, .ref a_u), (1, .int p0), (2, .int p1), (3, .int p2)] := hl
  refine lv_aload_n hx hb dX6_hitFault_0 rfl (lv_at hl 0 rfl) ?_
  refine getF (q0 := 1) (k0 := 0) (v := .ref a_g) C hE hP inA6 rfl rfl (by decide) qFX6_15 rfl rfl dX6_hitFault_1 ?_
  refine lv_iload_n hx hb dX6_hitFault_4 rfl (lv_at hl 1 rfl) ?_
  replace h := bnd h; obtain ⟨q1, e2, h⟩ := h
  refine rdV C hE hP (kX1_has l D T a_g a_gw a_gk v_gk p0 q1 e2) mX1_has qLX6_50 [0, 3] 0 rfl rfl rfl rfl ⟨rfl, rfl⟩ ⟨Nat.le_of_ble_eq_true rfl, Nat.le_of_ble_eq_true rfl⟩ rfl hl.1 rfl (Nat.le_of_ble_eq_true rfl) dX6_hitFault_5 ⟨Nat.le_of_ble_eq_true rfl, Nat.le_of_ble_eq_true rfl⟩ ?_
  refine lv_if_ne (tgt := 13) hx hb dX6_hitFault_8 (by decide) (fun c3 => ?_) (fun c3 => ?_)
  · replace h := ite_f c3 h
    refine lv_iload_n hx hb dX6_hitFault_13 rfl (lv_at hl 2 rfl) ?_
    refine rdSN C hE hP (kX7_isWay l D T p1) mX7_isWay (by decide +kernel) [] rfl ⟨rfl, rfl⟩ ⟨Nat.le_of_ble_eq_true rfl, Nat.le_of_ble_eq_true rfl⟩ rfl hl.1 rfl (Nat.le_of_ble_eq_true rfl) dX6_hitFault_14 ⟨Nat.le_of_ble_eq_true rfl, Nat.le_of_ble_eq_true rfl⟩ ?_
    refine lv_if_eq (tgt := 27) hx hb dX6_hitFault_17 (by decide) (fun c4 => ?_) (fun c4 => ?_)
    · replace h := ite_t c4 h
      refine lv_bipush (v := (-2)) hx hb dX6_hitFault_27 (by decide) ?_
      replace h := Option.some.inj h
      exact hret _ _ _ _ _ _ dX6_hitFault_29 rfl (by rw [← h] <;> rfl) (by rw [← h]; exact hP) hS
    · replace h := ite_f c4 h
      refine lv_iload_n hx hb dX6_hitFault_20 rfl (lv_at hl 3 rfl) ?_
      refine rdSN C hE hP (kX7_isForce l D T p2) mX7_isForce (by decide +kernel) [] rfl ⟨rfl, rfl⟩ ⟨Nat.le_of_ble_eq_true rfl, Nat.le_of_ble_eq_true rfl⟩ rfl hl.1 rfl (Nat.le_of_ble_eq_true rfl) dX6_hitFault_21 ⟨Nat.le_of_ble_eq_true rfl, Nat.le_of_ble_eq_true rfl⟩ ?_
      refine lv_if_ne (tgt := 30) hx hb dX6_hitFault_24 (by decide) (fun c5 => ?_) (fun c5 => ?_)
      · replace h := ite_f c5 h
        refine lv_aload_n hx hb dX6_hitFault_30 rfl (lv_at hl 0 rfl) ?_
        refine lv_iload_n hx hb dX6_hitFault_31 rfl (lv_at hl 1 rfl) ?_
        replace h := bnd h; obtain ⟨q6, e7, h⟩ := h
        refine wrVi (ws1 := [(a_g, .inr (1, [.ref a_gw, .ref a_gk])), (a_u, .inr (6, [.ref a_g, .ref a_r, .int q6.2])), (a_gw, .inl (T 0, 90, .inl v_gw)), (a_gk, .inl (T 0, 18, .inl v_gk))]) C hE hP hD hS hA (kX6_freeFault l D T a_g a_gw a_gk a_u a_r u_det v_gw v_gk p0 _ q6 e7) mX6_freeFault qLX6_68 [0, 1, 2, 3] [] 1 rfl rfl rfl rfl rfl rfl rfl rfl rfl ⟨rfl, rfl⟩ ⟨Nat.le_of_ble_eq_true rfl, Nat.le_of_ble_eq_true rfl⟩ rfl hl.1 rfl (Nat.le_of_ble_eq_true rfl) dX6_hitFault_32 ⟨Nat.le_of_ble_eq_true rfl, Nat.le_of_ble_eq_true rfl⟩ ?_; clear hP hD hS; intro H locs hP hD hS
        refine lv_istore (lv' := [(4, .int q6.1), (0, .ref a_u), (1, .int p0), (2, .int p1), (3, .int p2)]) hx hb dX6_hitFault_35 hl (by decide) rfl (fun ls hl => ?_)
        refine lv_iload hx hb dX6_hitFault_37 (lv_at hl 0 rfl) ?_
        refine lv_if_eq (tgt := 45) hx hb dX6_hitFault_39 (by decide) (fun c8 => ?_) (fun c8 => ?_)
        · replace h := ite_t c8 h
          refine lv_aload_n hx hb dX6_hitFault_45 rfl (lv_at hl 1 rfl) ?_
          refine getF (q0 := 1) (k0 := 0) (v := .ref a_g) C hE hP inA6 rfl rfl (by decide) qFX6_15 rfl rfl dX6_hitFault_46 ?_
          refine lv_iload_n hx hb dX6_hitFault_49 rfl (lv_at hl 2 rfl) ?_
          replace h := bnd h; obtain ⟨q9, e10, h⟩ := h
          refine rdV C hE hP (kX1_isNearBuoy l D T a_g a_gw a_gk v_gw v_gk p0 q9 e10) mX1_isNearBuoy qLX6_95 [0, 2, 3] 0 rfl rfl rfl rfl ⟨rfl, rfl⟩ ⟨Nat.le_of_ble_eq_true rfl, Nat.le_of_ble_eq_true rfl⟩ rfl hl.1 rfl (Nat.le_of_ble_eq_true rfl) dX6_hitFault_50 ⟨Nat.le_of_ble_eq_true rfl, Nat.le_of_ble_eq_true rfl⟩ ?_
          refine lv_if_ne (tgt := 83) hx hb dX6_hitFault_53 (by decide) (fun c11 => ?_) (fun c11 => ?_)
          · replace h := ite_f c11 h
            refine lv_iload_n hx hb dX6_hitFault_83 rfl (lv_at hl 4 rfl) ?_
            refine lv_aload_n hx hb dX6_hitFault_84 rfl (lv_at hl 1 rfl) ?_
            refine getF (q0 := 1) (k0 := 0) (v := .ref a_g) C hE hP inA6 rfl rfl (by decide) qFX6_15 rfl rfl dX6_hitFault_85 ?_
            refine lv_iload_n hx hb dX6_hitFault_88 rfl (lv_at hl 2 rfl) ?_
            refine lv_iconst (v := 1) hx hb dX6_hitFault_89 (by decide) ?_
            replace h := bnd h; obtain ⟨q12, e13, h⟩ := h
            refine rdV C hE hP (kX1_of l D T a_g a_gw a_gk v_gw p0 1 q12 e13) mX1_of qLX6_62 [0, 2] 0 rfl rfl rfl rfl ⟨rfl, rfl⟩ ⟨Nat.le_of_ble_eq_true rfl, Nat.le_of_ble_eq_true rfl⟩ rfl hl.1 rfl (Nat.le_of_ble_eq_true rfl) dX6_hitFault_90 ⟨Nat.le_of_ble_eq_true rfl, Nat.le_of_ble_eq_true rfl⟩ ?_
            refine lv_icmp_le (tgt := 112) hx hb dX6_hitFault_93 (by decide) (fun c14 => ?_) (fun c14 => ?_)
            · replace h := ite_t c14 h
              refine lv_aload_n hx hb dX6_hitFault_112 rfl (lv_at hl 1 rfl) ?_
              refine lv_iload_n hx hb dX6_hitFault_113 rfl (lv_at hl 2 rfl) ?_
              refine lv_iconst (v := 1) hx hb dX6_hitFault_114 (by decide) ?_
              replace h := bnd h; obtain ⟨q15, e16, h⟩ := h
              refine wrVi (ws1 := [(a_g, .inr (1, [.ref a_gw, .ref a_gk])), (a_u, .inr (6, [.ref a_g, .ref a_r, .int q15.2])), (a_gw, .inl (T 0, 90, .inl v_gw)), (a_gk, .inl (T 0, 18, .inl v_gk))]) C hE hP hD hS hA (kX6_breathFault l D T a_g a_gw a_gk a_u a_r q6.2 v_gw p0 1 _ q15 e16) mX6_breathFault qLX6_86 [0, 1, 2] [3] 1 rfl rfl rfl rfl rfl rfl rfl rfl rfl ⟨rfl, rfl⟩ ⟨Nat.le_of_ble_eq_true rfl, Nat.le_of_ble_eq_true rfl⟩ rfl hl.1 rfl (Nat.le_of_ble_eq_true rfl) dX6_hitFault_115 ⟨Nat.le_of_ble_eq_true rfl, Nat.le_of_ble_eq_true rfl⟩ ?_; clear hP hD hS; intro H locs hP hD hS
              replace h := Option.some.inj h
              exact hret _ _ _ _ _ _ dX6_hitFault_118 rfl (by rw [← h] <;> rfl) (by rw [← h]; exact hP) hS
            · replace h := ite_f c14 h
              refine lv_aload_n hx hb dX6_hitFault_96 rfl (lv_at hl 1 rfl) ?_
              refine lv_bipush (v := 10) hx hb dX6_hitFault_97 (by decide) ?_
              refine lv_aload_n hx hb dX6_hitFault_99 rfl (lv_at hl 1 rfl) ?_
              refine getF (q0 := 1) (k0 := 0) (v := .ref a_g) C hE hP inA6 rfl rfl (by decide) qFX6_15 rfl rfl dX6_hitFault_100 ?_
              refine lv_iload_n hx hb dX6_hitFault_103 rfl (lv_at hl 2 rfl) ?_
              refine lv_iconst (v := 1) hx hb dX6_hitFault_104 (by decide) ?_
              replace h := bnd h; obtain ⟨q17, e18, h⟩ := h
              refine rdV C hE hP (kX1_of l D T a_g a_gw a_gk v_gw p0 1 q17 e18) mX1_of qLX6_62 [0, 2] 0 rfl rfl rfl rfl ⟨rfl, rfl⟩ ⟨Nat.le_of_ble_eq_true rfl, Nat.le_of_ble_eq_true rfl⟩ rfl hl.1 rfl (Nat.le_of_ble_eq_true rfl) dX6_hitFault_105 ⟨Nat.le_of_ble_eq_true rfl, Nat.le_of_ble_eq_true rfl⟩ ?_
              replace h := bnd h; obtain ⟨q19, e20, h⟩ := h
              refine wrVi (ws1 := [(a_g, .inr (1, [.ref a_gw, .ref a_gk])), (a_u, .inr (6, [.ref a_g, .ref a_r, .int q19.2])), (a_gw, .inl (T 0, 90, .inl v_gw)), (a_gk, .inl (T 0, 18, .inl v_gk))]) C hE hP hD hS hA (kX6_refuse l D T a_u a_g a_r q6.2 10 q17 _ q19 e20) mX6_refuse qLX6_33 [1] [0, 2, 3] 1 rfl rfl rfl rfl rfl rfl rfl rfl rfl ⟨rfl, rfl⟩ ⟨Nat.le_of_ble_eq_true rfl, Nat.le_of_ble_eq_true rfl⟩ rfl hl.1 rfl (Nat.le_of_ble_eq_true rfl) dX6_hitFault_108 ⟨Nat.le_of_ble_eq_true rfl, Nat.le_of_ble_eq_true rfl⟩ ?_; clear hP hD hS; intro H locs hP hD hS
              replace h := Option.some.inj h
              exact hret _ _ _ _ _ _ dX6_hitFault_111 rfl (by rw [← h] <;> rfl) (by rw [← h]; exact hP) hS
          · replace h := ite_t c11 h
            refine lv_aload_n hx hb dX6_hitFault_56 rfl (lv_at hl 1 rfl) ?_
            refine lv_bipush (v := 9) hx hb dX6_hitFault_57 (by decide) ?_
            refine lv_aload_n hx hb dX6_hitFault_59 rfl (lv_at hl 1 rfl) ?_
            refine getF (q0 := 1) (k0 := 0) (v := .ref a_g) C hE hP inA6 rfl rfl (by decide) qFX6_15 rfl rfl dX6_hitFault_60 ?_
            refine lv_iload_n hx hb dX6_hitFault_63 rfl (lv_at hl 2 rfl) ?_
            refine lv_iconst (v := 4) hx hb dX6_hitFault_64 (by decide) ?_
            replace h := bnd h; obtain ⟨q21, e22, h⟩ := h
            refine rdV C hE hP (kX1_of l D T a_g a_gw a_gk v_gw p0 4 q21 e22) mX1_of qLX6_62 [0, 2] 0 rfl rfl rfl rfl ⟨rfl, rfl⟩ ⟨Nat.le_of_ble_eq_true rfl, Nat.le_of_ble_eq_true rfl⟩ rfl hl.1 rfl (Nat.le_of_ble_eq_true rfl) dX6_hitFault_65 ⟨Nat.le_of_ble_eq_true rfl, Nat.le_of_ble_eq_true rfl⟩ ?_
            refine lv_aload_n hx hb dX6_hitFault_68 rfl (lv_at hl 1 rfl) ?_
            refine getF (q0 := 1) (k0 := 0) (v := .ref a_g) C hE hP inA6 rfl rfl (by decide) qFX6_15 rfl rfl dX6_hitFault_69 ?_
            refine lv_iconst (v := 5) hx hb dX6_hitFault_72 (by decide) ?_
            replace h := bnd h; obtain ⟨q23, e24, h⟩ := h
            refine rdV C hE hP (kX1_count l D T a_g a_gw a_gk v_gk 5 q23 e24) mX1_count qLX6_47 [0, 3] 0 rfl rfl rfl rfl ⟨rfl, rfl⟩ ⟨Nat.le_of_ble_eq_true rfl, Nat.le_of_ble_eq_true rfl⟩ rfl hl.1 rfl (Nat.le_of_ble_eq_true rfl) dX6_hitFault_73 ⟨Nat.le_of_ble_eq_true rfl, Nat.le_of_ble_eq_true rfl⟩ ?_
            refine rdSN C hE hP (kX7_between l D T q21 q23) mX7_between (by decide +kernel) [] rfl ⟨rfl, rfl⟩ ⟨Nat.le_of_ble_eq_true rfl, Nat.le_of_ble_eq_true rfl⟩ rfl hl.1 rfl (Nat.le_of_ble_eq_true rfl) dX6_hitFault_76 ⟨Nat.le_of_ble_eq_true rfl, Nat.le_of_ble_eq_true rfl⟩ ?_
            replace h := bnd h; obtain ⟨q25, e26, h⟩ := h
            refine wrVi (ws1 := [(a_g, .inr (1, [.ref a_gw, .ref a_gk])), (a_u, .inr (6, [.ref a_g, .ref a_r, .int q25.2])), (a_gw, .inl (T 0, 90, .inl v_gw)), (a_gk, .inl (T 0, 18, .inl v_gk))]) C hE hP hD hS hA (kX6_refuse l D T a_u a_g a_r q6.2 9 (fX7_between q21 q23) _ q25 e26) mX6_refuse qLX6_33 [1] [0, 2, 3] 1 rfl rfl rfl rfl rfl rfl rfl rfl rfl ⟨rfl, rfl⟩ ⟨Nat.le_of_ble_eq_true rfl, Nat.le_of_ble_eq_true rfl⟩ rfl hl.1 rfl (Nat.le_of_ble_eq_true rfl) dX6_hitFault_79 ⟨Nat.le_of_ble_eq_true rfl, Nat.le_of_ble_eq_true rfl⟩ ?_; clear hP hD hS; intro H locs hP hD hS
            replace h := Option.some.inj h
            exact hret _ _ _ _ _ _ dX6_hitFault_82 rfl (by rw [← h] <;> rfl) (by rw [← h]; exact hP) hS
        · replace h := ite_f c8 h
          refine lv_iload hx hb dX6_hitFault_42 (lv_at hl 0 rfl) ?_
          replace h := Option.some.inj h
          exact hret _ _ _ _ _ _ dX6_hitFault_44 rfl (by rw [← h] <;> rfl) (by rw [← h]; exact hP) hS
      · replace h := ite_t c5 h
        refine lv_bipush (v := (-2)) hx hb dX6_hitFault_27 (by decide) ?_
        replace h := Option.some.inj h
        exact hret _ _ _ _ _ _ dX6_hitFault_29 rfl (by rw [← h] <;> rfl) (by rw [← h]; exact hP) hS
  · replace h := ite_t c3 h
    refine lv_iconst (v := (-1)) hx hb dX6_hitFault_11 (by decide) ?_
    replace h := Option.some.inj h
    exact hret _ _ _ _ _ _ dX6_hitFault_12 rfl (by rw [← h] <;> rfl) (by rw [← h]; exact hP) hS

def fX6_songFault (u_det : Int32) (v_gw : Nat → Int32) (v_gk : Nat → Int32) (p0 : Int32) : Option (Int32 × Int32) :=
  (fX6_playFault u_det v_gw v_gk p0).bind fun q1 =>
  if q1.1 = 0 then
    (fX1_of v_gw p0 5).bind fun q4 =>
    if q4 = 1 then
      (fX6_refuse q1.2 11 p0).bind fun q9 =>
      some (q9.1, q9.2)
    else
      (fX6_breathFault q1.2 v_gw p0 1).bind fun q7 =>
      some (q7.1, q7.2)
  else
    some (q1.1, q1.2)
set_option maxHeartbeats 4000000 in
set_option maxRecDepth 100000 in
theorem kX6_songFault (l : Launch) (D : va_G) (T : Nat → ClassId) (a_g a_gw a_gk a_u a_r : Nat) (u_det : Int32) (v_gw : Nat → Int32) (v_gk : Nat → Int32) (p0 : Int32) (sz : Nat) (r : Int32 × Int32) (h : fX6_songFault u_det v_gw v_gk p0 = some r) : WrI l yX6_songFault cX6_songFault 3 .int ({ frames := 3, cells := 0, slots := 0, locals := 65 } : Room) D T sz [(a_g, .inr (1, [.ref a_gw, .ref a_gk])), (a_u, .inr (6, [.ref a_g, .ref a_r, .int u_det])), (a_gw, .inl (T 0, 90, .inl v_gw)), (a_gk, .inl (T 0, 18, .inl v_gk))] [(a_g, .inr (1, [.ref a_gw, .ref a_gk])), (a_u, .inr (6, [.ref a_g, .ref a_r, .int r.2])), (a_gw, .inl (T 0, 90, .inl v_gw)), (a_gk, .inl (T 0, 18, .inl v_gk))] [.ref a_u, .int p0] r.1 := by
  unfold fX6_songFault at h
  refine wrMet (by decide +kernel) rfl (fun p e s m args below meth c Q A C hE hA hP hD hS hret ls hl => ?_)
  have hx := C.1
  have hb := C.2.1
  have hl : lv_has ls 3 [(0, .ref a_u), (1, .int p0)] := hl
  refine lv_aload_n hx hb dX6_songFault_0 rfl (lv_at hl 0 rfl) ?_
  refine lv_iload_n hx hb dX6_songFault_1 rfl (lv_at hl 1 rfl) ?_
  replace h := bnd h; obtain ⟨q1, e2, h⟩ := h
  refine wrVi (ws1 := [(a_g, .inr (1, [.ref a_gw, .ref a_gk])), (a_u, .inr (6, [.ref a_g, .ref a_r, .int q1.2])), (a_gw, .inl (T 0, 90, .inl v_gw)), (a_gk, .inl (T 0, 18, .inl v_gk))]) C hE hP hD hS hA (kX6_playFault l D T a_g a_gw a_gk a_u a_r u_det v_gw v_gk p0 _ q1 e2) mX6_playFault qLX6_56 [0, 1, 2, 3] [] 1 rfl rfl rfl rfl rfl rfl rfl rfl rfl ⟨rfl, rfl⟩ ⟨Nat.le_of_ble_eq_true rfl, Nat.le_of_ble_eq_true rfl⟩ rfl hl.1 rfl (Nat.le_of_ble_eq_true rfl) dX6_songFault_2 ⟨Nat.le_of_ble_eq_true rfl, Nat.le_of_ble_eq_true rfl⟩ ?_; clear hP hD hS; intro H locs hP hD hS
  refine lv_istore_n (lv' := [(2, .int q1.1), (0, .ref a_u), (1, .int p0)]) hx hb dX6_songFault_5 rfl hl (by decide) rfl (fun ls hl => ?_)
  refine lv_iload_n hx hb dX6_songFault_6 rfl (lv_at hl 0 rfl) ?_
  refine lv_if_eq (tgt := 12) hx hb dX6_songFault_7 (by decide) (fun c3 => ?_) (fun c3 => ?_)
  · replace h := ite_t c3 h
    refine lv_aload_n hx hb dX6_songFault_12 rfl (lv_at hl 1 rfl) ?_
    refine getF (q0 := 1) (k0 := 0) (v := .ref a_g) C hE hP inA6 rfl rfl (by decide) qFX6_15 rfl rfl dX6_songFault_13 ?_
    refine lv_iload_n hx hb dX6_songFault_16 rfl (lv_at hl 2 rfl) ?_
    refine lv_iconst (v := 5) hx hb dX6_songFault_17 (by decide) ?_
    replace h := bnd h; obtain ⟨q4, e5, h⟩ := h
    refine rdV C hE hP (kX1_of l D T a_g a_gw a_gk v_gw p0 5 q4 e5) mX1_of qLX6_62 [0, 2] 0 rfl rfl rfl rfl ⟨rfl, rfl⟩ ⟨Nat.le_of_ble_eq_true rfl, Nat.le_of_ble_eq_true rfl⟩ rfl hl.1 rfl (Nat.le_of_ble_eq_true rfl) dX6_songFault_18 ⟨Nat.le_of_ble_eq_true rfl, Nat.le_of_ble_eq_true rfl⟩ ?_
    refine lv_iconst (v := 1) hx hb dX6_songFault_21 (by decide) ?_
    refine lv_icmp_ne (tgt := 35) hx hb dX6_songFault_22 (by decide) (fun c6 => ?_) (fun c6 => ?_)
    · replace h := ite_f c6 h
      refine lv_aload_n hx hb dX6_songFault_35 rfl (lv_at hl 1 rfl) ?_
      refine lv_iload_n hx hb dX6_songFault_36 rfl (lv_at hl 2 rfl) ?_
      refine lv_iconst (v := 1) hx hb dX6_songFault_37 (by decide) ?_
      replace h := bnd h; obtain ⟨q7, e8, h⟩ := h
      refine wrVi (ws1 := [(a_g, .inr (1, [.ref a_gw, .ref a_gk])), (a_u, .inr (6, [.ref a_g, .ref a_r, .int q7.2])), (a_gw, .inl (T 0, 90, .inl v_gw)), (a_gk, .inl (T 0, 18, .inl v_gk))]) C hE hP hD hS hA (kX6_breathFault l D T a_g a_gw a_gk a_u a_r q1.2 v_gw p0 1 _ q7 e8) mX6_breathFault qLX6_86 [0, 1, 2] [3] 1 rfl rfl rfl rfl rfl rfl rfl rfl rfl ⟨rfl, rfl⟩ ⟨Nat.le_of_ble_eq_true rfl, Nat.le_of_ble_eq_true rfl⟩ rfl hl.1 rfl (Nat.le_of_ble_eq_true rfl) dX6_songFault_38 ⟨Nat.le_of_ble_eq_true rfl, Nat.le_of_ble_eq_true rfl⟩ ?_; clear hP hD hS; intro H locs hP hD hS
      replace h := Option.some.inj h
      exact hret _ _ _ _ _ _ dX6_songFault_41 rfl (by rw [← h] <;> rfl) (by rw [← h]; exact hP) hS
    · replace h := ite_t c6 h
      refine lv_aload_n hx hb dX6_songFault_25 rfl (lv_at hl 1 rfl) ?_
      refine lv_bipush (v := 11) hx hb dX6_songFault_26 (by decide) ?_
      refine lv_iload_n hx hb dX6_songFault_28 rfl (lv_at hl 2 rfl) ?_
      replace h := bnd h; obtain ⟨q9, e10, h⟩ := h
      refine wrVi (ws1 := [(a_g, .inr (1, [.ref a_gw, .ref a_gk])), (a_u, .inr (6, [.ref a_g, .ref a_r, .int q9.2])), (a_gw, .inl (T 0, 90, .inl v_gw)), (a_gk, .inl (T 0, 18, .inl v_gk))]) C hE hP hD hS hA (kX6_refuse l D T a_u a_g a_r q1.2 11 p0 _ q9 e10) mX6_refuse qLX6_33 [1] [0, 2, 3] 1 rfl rfl rfl rfl rfl rfl rfl rfl rfl ⟨rfl, rfl⟩ ⟨Nat.le_of_ble_eq_true rfl, Nat.le_of_ble_eq_true rfl⟩ rfl hl.1 rfl (Nat.le_of_ble_eq_true rfl) dX6_songFault_29 ⟨Nat.le_of_ble_eq_true rfl, Nat.le_of_ble_eq_true rfl⟩ ?_; clear hP hD hS; intro H locs hP hD hS
      refine lv_goto (tgt := 41) hx hb dX6_songFault_32 (by decide) ?_
      replace h := Option.some.inj h
      exact hret _ _ _ _ _ _ dX6_songFault_41 rfl (by rw [← h] <;> rfl) (by rw [← h]; exact hP) hS
  · replace h := ite_f c3 h
    refine lv_iload_n hx hb dX6_songFault_10 rfl (lv_at hl 0 rfl) ?_
    replace h := Option.some.inj h
    exact hret _ _ _ _ _ _ dX6_songFault_11 rfl (by rw [← h] <;> rfl) (by rw [← h]; exact hP) hS

def fX7_demandRange (p0 : Int32) : Option Nat :=
  if p0 = (-2) then
    some 1
  else
    some 0
set_option maxHeartbeats 4000000 in
set_option maxRecDepth 100000 in
theorem kX7_demandRange (l : Launch) (hnt : l.stackTraces = false) (D : va_G) (T : Nat → ClassId) (a_x : Nat) (p0 : Int32) (sz : Nat) (r : Nat) (h : fX7_demandRange p0 = some r) : ThV l yX7_demandRange cX7_demandRange 2 ({ frames := 6, cells := 1, slots := 6, locals := 90 } : Room) D T sz [] [] [.ref a_x, .int p0] r := by
  unfold fX7_demandRange at h
  refine thMetV hnt (by decide +kernel) rfl (fun p e s m args below meth c Q A C hE hA hZ hP hD hS hret ls hl => ?_)
  have hx := C.1
  have hb := C.2.1
  have hl : lv_has ls 2 [(0, .ref a_x), (1, .int p0)] := hl
  refine lv_iload_n hx hb dX7_demandRange_0 rfl (lv_at hl 1 rfl) ?_
  refine lv_bipush (v := (-2)) hx hb dX7_demandRange_1 (by decide) ?_
  refine lv_icmp_ne (tgt := 17) hx hb dX7_demandRange_3 (by decide) (fun c1 => ?_) (fun c1 => ?_)
  · replace h := ite_f c1 h
    replace h := Option.some.inj h
    exact hret.1 _ _ _ _ _ _ (Nat.le_of_ble_eq_true rfl) (Nat.le_of_ble_eq_true rfl) dX7_demandRange_17 (by rw [← h]) hP hS
  · replace h := ite_t c1 h
    replace h := Option.some.inj h
    exact hret.2.2 _ _ _ _ _ _ _ 141 145 378 _ "a number is out of range" (by rw [← h]; exact thrX7_141_145_1) (by decide +kernel) dX7_demandRange_6 dX7_demandRange_9 (Or.inr ⟨dX7_demandRange_10, dX7_demandRange_13, dX7_demandRange_16⟩) (Nat.le_of_ble_eq_true rfl) (Nat.le_of_ble_eq_true rfl) (Nat.le_of_ble_eq_true rfl) (Nat.le_of_ble_eq_true rfl) (hl.1.trans C.2.2.1.symm) (by rw [← h]; exact (Nat.le_of_ble_eq_true rfl)) hP hS

def fX7_keepReason (u_det : Int32) (x_rea : Int32) (x_det : Int32) (x_com : Int32) (p0 : Int32) (p1 : Int32) : Option (Int32 × Int32 × Int32) :=
  some (p0, (fX6_detail u_det), p1)
set_option maxHeartbeats 4000000 in
set_option maxRecDepth 100000 in
theorem kX7_keepReason (l : Launch) (D : va_G) (T : Nat → ClassId) (a_u a_g a_r a_x a_b a_v a_h a_f a_t a_n : Nat) (u_det : Int32) (x_sav : Int32) (x_err : Int32) (x_rea : Int32) (x_det : Int32) (x_com : Int32) (p0 : Int32) (p1 : Int32) (sz : Nat) (r : Int32 × Int32 × Int32) (h : fX7_keepReason u_det x_rea x_det x_com p0 p1 = some r) : WrV l yX7_keepReason cX7_keepReason 3 ({ frames := 1, cells := 0, slots := 0, locals := 20 } : Room) D T sz [(a_u, .inr (6, [.ref a_g, .ref a_r, .int u_det])), (a_x, .inr (7, [.ref a_g, .ref a_b, .ref a_v, .ref a_h, .ref a_r, .ref a_f, .ref a_u, .ref a_t, .ref a_n, .int x_sav, .int x_err, .int x_rea, .int x_det, .int x_com]))] [(a_u, .inr (6, [.ref a_g, .ref a_r, .int u_det])), (a_x, .inr (7, [.ref a_g, .ref a_b, .ref a_v, .ref a_h, .ref a_r, .ref a_f, .ref a_u, .ref a_t, .ref a_n, .int x_sav, .int x_err, .int r.1, .int r.2.1, .int r.2.2]))] [.ref a_x, .int p0, .int p1] := by
  unfold fX7_keepReason at h
  refine wrMetV (by decide +kernel) rfl (fun p e s m args below meth c Q A C hE hA hP hD hS hret ls hl => ?_)
  have hx := C.1
  have hb := C.2.1
  have hl : lv_has ls 3 [(0, .ref a_x), (1, .int p0), (2, .int p1)] := hl
  refine lv_aload_n hx hb dX7_keepReason_0 rfl (lv_at hl 0 rfl) ?_
  refine lv_iload_n hx hb dX7_keepReason_1 rfl (lv_at hl 1 rfl) ?_
  refine putF (q0 := 1) (k0 := 11) (ws1 := [(a_u, .inr (6, [.ref a_g, .ref a_r, .int u_det])), (a_x, .inr (7, [.ref a_g, .ref a_b, .ref a_v, .ref a_h, .ref a_r, .ref a_f, .ref a_u, .ref a_t, .ref a_n, .int x_sav, .int x_err, .int p0, .int x_det, .int x_com]))]) C hE hP hD hS inA7 tyX7_ok nmX7 rfl rfl (by decide) qFX7_76 rfl rfl rfl rfl (Nat.le_of_ble_eq_true rfl) rfl dX7_keepReason_2 ?_; clear hP hD hS; intro H locs hP hD hS
  refine lv_aload_n hx hb dX7_keepReason_5 rfl (lv_at hl 0 rfl) ?_
  refine lv_aload_n hx hb dX7_keepReason_6 rfl (lv_at hl 0 rfl) ?_
  refine getF (q0 := 1) (k0 := 6) (v := .ref a_u) C hE hP inA7 rfl rfl (by decide) qFX7_50 rfl rfl dX7_keepReason_7 ?_
  refine rdV C hE hP (kX6_detail l D T a_u a_g a_r u_det) mX6_detail qLX7_411 [0] 0 rfl rfl rfl rfl ⟨rfl, rfl⟩ ⟨Nat.le_of_ble_eq_true rfl, Nat.le_of_ble_eq_true rfl⟩ rfl hl.1 rfl (Nat.le_of_ble_eq_true rfl) dX7_keepReason_10 ⟨Nat.le_of_ble_eq_true rfl, Nat.le_of_ble_eq_true rfl⟩ ?_
  refine putF (q0 := 1) (k0 := 12) (ws1 := [(a_u, .inr (6, [.ref a_g, .ref a_r, .int u_det])), (a_x, .inr (7, [.ref a_g, .ref a_b, .ref a_v, .ref a_h, .ref a_r, .ref a_f, .ref a_u, .ref a_t, .ref a_n, .int x_sav, .int x_err, .int p0, .int (fX6_detail u_det), .int x_com]))]) C hE hP hD hS inA7 tyX7_ok nmX7 rfl rfl (by decide) qFX7_79 rfl rfl rfl rfl (Nat.le_of_ble_eq_true rfl) rfl dX7_keepReason_13 ?_; clear hP hD hS; intro H locs hP hD hS
  refine lv_aload_n hx hb dX7_keepReason_16 rfl (lv_at hl 0 rfl) ?_
  refine lv_iload_n hx hb dX7_keepReason_17 rfl (lv_at hl 2 rfl) ?_
  refine putF (q0 := 1) (k0 := 13) (ws1 := [(a_u, .inr (6, [.ref a_g, .ref a_r, .int u_det])), (a_x, .inr (7, [.ref a_g, .ref a_b, .ref a_v, .ref a_h, .ref a_r, .ref a_f, .ref a_u, .ref a_t, .ref a_n, .int x_sav, .int x_err, .int p0, .int (fX6_detail u_det), .int p1]))]) C hE hP hD hS inA7 tyX7_ok nmX7 rfl rfl (by decide) qFX7_82 rfl rfl rfl rfl (Nat.le_of_ble_eq_true rfl) rfl dX7_keepReason_18 ?_; clear hP hD hS; intro H locs hP hD hS
  replace h := Option.some.inj h
  exact hret _ _ _ _ dX7_keepReason_21 (by rw [← h]; exact hP) hS

def fX7_demandAllowed (u_det : Int32) (x_rea : Int32) (x_det : Int32) (x_com : Int32) (p0 : Int32) : Option (Nat × Int32 × Int32 × Int32) :=
  if p0 ≤ 0 then
    some (0, x_rea, x_det, x_com)
  else
    (fX7_keepReason u_det x_rea x_det x_com p0 (-1)).bind fun q2 =>
    some (2, q2.1, q2.2.1, q2.2.2)
set_option maxHeartbeats 4000000 in
set_option maxRecDepth 100000 in
theorem kX7_demandAllowed (l : Launch) (hnt : l.stackTraces = false) (D : va_G) (T : Nat → ClassId) (a_u a_g a_r a_x a_b a_v a_h a_f a_t a_n : Nat) (u_det : Int32) (x_sav : Int32) (x_err : Int32) (x_rea : Int32) (x_det : Int32) (x_com : Int32) (p0 : Int32) (sz : Nat) (r : Nat × Int32 × Int32 × Int32) (h : fX7_demandAllowed u_det x_rea x_det x_com p0 = some r) : ThV l yX7_demandAllowed cX7_demandAllowed 2 ({ frames := 6, cells := 1, slots := 6, locals := 90 } : Room) D T sz [(a_u, .inr (6, [.ref a_g, .ref a_r, .int u_det])), (a_x, .inr (7, [.ref a_g, .ref a_b, .ref a_v, .ref a_h, .ref a_r, .ref a_f, .ref a_u, .ref a_t, .ref a_n, .int x_sav, .int x_err, .int x_rea, .int x_det, .int x_com]))] [(a_u, .inr (6, [.ref a_g, .ref a_r, .int u_det])), (a_x, .inr (7, [.ref a_g, .ref a_b, .ref a_v, .ref a_h, .ref a_r, .ref a_f, .ref a_u, .ref a_t, .ref a_n, .int x_sav, .int x_err, .int r.2.1, .int r.2.2.1, .int r.2.2.2]))] [.ref a_x, .int p0] r.1 := by
  unfold fX7_demandAllowed at h
  refine thMetV hnt (by decide +kernel) rfl (fun p e s m args below meth c Q A C hE hA hZ hP hD hS hret ls hl => ?_)
  have hx := C.1
  have hb := C.2.1
  have hl : lv_has ls 2 [(0, .ref a_x), (1, .int p0)] := hl
  refine lv_iload_n hx hb dX7_demandAllowed_0 rfl (lv_at hl 1 rfl) ?_
  refine lv_if_le (tgt := 21) hx hb dX7_demandAllowed_1 (by decide) (fun c1 => ?_) (fun c1 => ?_)
  · replace h := ite_t c1 h
    replace h := Option.some.inj h
    exact hret.1 _ _ _ _ _ _ (Nat.le_of_ble_eq_true rfl) (Nat.le_of_ble_eq_true rfl) dX7_demandAllowed_21 (by rw [← h]) (by rw [← h]; exact hP) hS
  · replace h := ite_f c1 h
    refine lv_aload_n hx hb dX7_demandAllowed_4 rfl (lv_at hl 0 rfl) ?_
    refine lv_iload_n hx hb dX7_demandAllowed_5 rfl (lv_at hl 1 rfl) ?_
    refine lv_iconst (v := (-1)) hx hb dX7_demandAllowed_6 (by decide) ?_
    replace h := bnd h; obtain ⟨q2, e3, h⟩ := h
    refine wrVv (ws1 := [(a_u, .inr (6, [.ref a_g, .ref a_r, .int u_det])), (a_x, .inr (7, [.ref a_g, .ref a_b, .ref a_v, .ref a_h, .ref a_r, .ref a_f, .ref a_u, .ref a_t, .ref a_n, .int x_sav, .int x_err, .int q2.1, .int q2.2.1, .int q2.2.2]))]) C hE hP hD hS hA (kX7_keepReason l D T a_u a_g a_r a_x a_b a_v a_h a_f a_t a_n u_det x_sav x_err x_rea x_det x_com p0 (-1) _ q2 e3) mX7_keepReason qLX7_352 [0, 1] [] 1 rfl rfl rfl rfl rfl rfl rfl rfl rfl ⟨rfl, rfl⟩ ⟨Nat.le_of_ble_eq_true rfl, Nat.le_of_ble_eq_true rfl⟩ rfl hl.1 rfl (Nat.le_of_ble_eq_true rfl) dX7_demandAllowed_7 ⟨Nat.le_of_ble_eq_true rfl, Nat.le_of_ble_eq_true rfl⟩ ?_; clear hP hD hS; intro H locs hP hD hS
    replace h := Option.some.inj h
    exact hret.2.2 _ _ _ _ _ _ _ 355 359 380 _ "refused" (by rw [← h]; exact thrX7_355_359_2) (by decide +kernel) dX7_demandAllowed_10 dX7_demandAllowed_13 (Or.inr ⟨dX7_demandAllowed_14, dX7_demandAllowed_17, dX7_demandAllowed_20⟩) (Nat.le_of_ble_eq_true rfl) (Nat.le_of_ble_eq_true rfl) (Nat.le_of_ble_eq_true rfl) (Nat.le_of_ble_eq_true rfl) (hl.1.trans C.2.2.1.symm) (by rw [← h]; exact (Nat.le_of_ble_eq_true rfl)) (by rw [← h]; exact hP) hS

def fX7_demandThere (p0 : Int32) : Option Nat :=
  if p0 = (-1) then
    some 3
  else
    some 0
set_option maxHeartbeats 4000000 in
set_option maxRecDepth 100000 in
theorem kX7_demandThere (l : Launch) (hnt : l.stackTraces = false) (D : va_G) (T : Nat → ClassId) (a_x : Nat) (p0 : Int32) (sz : Nat) (r : Nat) (h : fX7_demandThere p0 = some r) : ThV l yX7_demandThere cX7_demandThere 2 ({ frames := 6, cells := 1, slots := 6, locals := 90 } : Room) D T sz [] [] [.ref a_x, .int p0] r := by
  unfold fX7_demandThere at h
  refine thMetV hnt (by decide +kernel) rfl (fun p e s m args below meth c Q A C hE hA hZ hP hD hS hret ls hl => ?_)
  have hx := C.1
  have hb := C.2.1
  have hl : lv_has ls 2 [(0, .ref a_x), (1, .int p0)] := hl
  refine lv_iload_n hx hb dX7_demandThere_0 rfl (lv_at hl 1 rfl) ?_
  refine lv_iconst (v := (-1)) hx hb dX7_demandThere_1 (by decide) ?_
  refine lv_icmp_ne (tgt := 16) hx hb dX7_demandThere_2 (by decide) (fun c1 => ?_) (fun c1 => ?_)
  · replace h := ite_f c1 h
    replace h := Option.some.inj h
    exact hret.1 _ _ _ _ _ _ (Nat.le_of_ble_eq_true rfl) (Nat.le_of_ble_eq_true rfl) dX7_demandThere_16 (by rw [← h]) hP hS
  · replace h := ite_t c1 h
    replace h := Option.some.inj h
    exact hret.2.2 _ _ _ _ _ _ _ 265 269 376 _ "no such whale or cell" (by rw [← h]; exact thrX7_265_269_3) (by decide +kernel) dX7_demandThere_5 dX7_demandThere_8 (Or.inr ⟨dX7_demandThere_9, dX7_demandThere_12, dX7_demandThere_15⟩) (Nat.le_of_ble_eq_true rfl) (Nat.le_of_ble_eq_true rfl) (Nat.le_of_ble_eq_true rfl) (Nat.le_of_ble_eq_true rfl) (hl.1.trans C.2.2.1.symm) (by rw [← h]; exact (Nat.le_of_ble_eq_true rfl)) hP hS

def fX7_moveWhale (v_gw : Nat → Int32) (v_gk : Nat → Int32) (v_rs : Nat → Int32) (v_ro : Nat → Int32) (p0 : Int32) (p1 : Int32) : Option (Int32 × (Nat → Int32) × (Nat → Int32) × (Nat → Int32) × (Nat → Int32)) :=
  (fX4_findBySpreading v_gw v_gk v_rs v_ro p0).bind fun q1 =>
  (fX4_spreadTo q1.1 p1).bind fun q3 =>
  (fX1_move v_gw v_gk p0 p1 q3).bind fun q5 =>
  some (q5.1, q5.2.1, q5.2.2, q1.1, q1.2)
set_option maxHeartbeats 4000000 in
set_option maxRecDepth 100000 in
theorem kX7_moveWhale (l : Launch) (D : va_G) (T : Nat → ClassId) (a_g a_gw a_gk a_r a_rs a_rl a_ro a_x a_b a_v a_h a_f a_u a_t a_n : Nat) (x_sav : Int32) (x_err : Int32) (x_rea : Int32) (x_det : Int32) (x_com : Int32) (v_gw : Nat → Int32) (v_gk : Nat → Int32) (v_rs : Nat → Int32) (v_ro : Nat → Int32) (p0 : Int32) (p1 : Int32) (sz : Nat) (r : Int32 × (Nat → Int32) × (Nat → Int32) × (Nat → Int32) × (Nat → Int32)) (h : fX7_moveWhale v_gw v_gk v_rs v_ro p0 p1 = some r) : WrI l yX7_moveWhale cX7_moveWhale 3 .int ({ frames := 4, cells := 0, slots := 0, locals := 93 } : Room) D T sz [(a_g, .inr (1, [.ref a_gw, .ref a_gk])), (a_r, .inr (4, [.ref a_g, .ref a_rs, .ref a_rl, .ref a_ro])), (a_x, .inr (7, [.ref a_g, .ref a_b, .ref a_v, .ref a_h, .ref a_r, .ref a_f, .ref a_u, .ref a_t, .ref a_n, .int x_sav, .int x_err, .int x_rea, .int x_det, .int x_com])), (a_gw, .inl (T 0, 90, .inl v_gw)), (a_gk, .inl (T 0, 18, .inl v_gk)), (a_rs, .inl (T 0, 45, .inl v_rs)), (a_ro, .inl (T 1, 45, .inl v_ro))] [(a_g, .inr (1, [.ref a_gw, .ref a_gk])), (a_r, .inr (4, [.ref a_g, .ref a_rs, .ref a_rl, .ref a_ro])), (a_x, .inr (7, [.ref a_g, .ref a_b, .ref a_v, .ref a_h, .ref a_r, .ref a_f, .ref a_u, .ref a_t, .ref a_n, .int x_sav, .int x_err, .int x_rea, .int x_det, .int x_com])), (a_gw, .inl (T 0, 90, .inl r.2.1)), (a_gk, .inl (T 0, 18, .inl r.2.2.1)), (a_rs, .inl (T 0, 45, .inl r.2.2.2.1)), (a_ro, .inl (T 1, 45, .inl r.2.2.2.2))] [.ref a_x, .int p0, .int p1] r.1 := by
  unfold fX7_moveWhale at h
  refine wrMet (by decide +kernel) rfl (fun p e s m args below meth c Q A C hE hA hP hD hS hret ls hl => ?_)
  have hx := C.1
  have hb := C.2.1
  have hl : lv_has ls 3 [(0, .ref a_x), (1, .int p0), (2, .int p1)] := hl
  refine lv_aload_n hx hb dX7_moveWhale_0 rfl (lv_at hl 0 rfl) ?_
  refine getF (q0 := 2) (k0 := 4) (v := .ref a_r) C hE hP inA7 rfl rfl (by decide) qFX7_34 rfl rfl dX7_moveWhale_1 ?_
  refine lv_iload_n hx hb dX7_moveWhale_4 rfl (lv_at hl 1 rfl) ?_
  replace h := bnd h; obtain ⟨q1, e2, h⟩ := h
  refine wrVv (ws1 := [(a_g, .inr (1, [.ref a_gw, .ref a_gk])), (a_r, .inr (4, [.ref a_g, .ref a_rs, .ref a_rl, .ref a_ro])), (a_x, .inr (7, [.ref a_g, .ref a_b, .ref a_v, .ref a_h, .ref a_r, .ref a_f, .ref a_u, .ref a_t, .ref a_n, .int x_sav, .int x_err, .int x_rea, .int x_det, .int x_com])), (a_gw, .inl (T 0, 90, .inl v_gw)), (a_gk, .inl (T 0, 18, .inl v_gk)), (a_rs, .inl (T 0, 45, .inl q1.1)), (a_ro, .inl (T 1, 45, .inl q1.2))]) C hE hP hD hS hA (kX4_findBySpreading l D T a_g a_gw a_gk a_r a_rs a_rl a_ro v_gw v_gk v_rs v_ro p0 _ q1 e2) mX4_findBySpreading qLX7_181 [0, 1, 3, 4, 5, 6] [2] 1 rfl rfl rfl rfl rfl rfl rfl rfl rfl ⟨rfl, rfl⟩ ⟨Nat.le_of_ble_eq_true rfl, Nat.le_of_ble_eq_true rfl⟩ rfl hl.1 rfl (Nat.le_of_ble_eq_true rfl) dX7_moveWhale_5 ⟨Nat.le_of_ble_eq_true rfl, Nat.le_of_ble_eq_true rfl⟩ ?_; clear hP hD hS; intro H locs hP hD hS
  refine lv_aload_n hx hb dX7_moveWhale_8 rfl (lv_at hl 0 rfl) ?_
  refine getF (q0 := 2) (k0 := 0) (v := .ref a_g) C hE hP inA7 rfl rfl (by decide) qFX7_10 rfl rfl dX7_moveWhale_9 ?_
  refine lv_iload_n hx hb dX7_moveWhale_12 rfl (lv_at hl 1 rfl) ?_
  refine lv_iload_n hx hb dX7_moveWhale_13 rfl (lv_at hl 2 rfl) ?_
  refine lv_aload_n hx hb dX7_moveWhale_14 rfl (lv_at hl 0 rfl) ?_
  refine getF (q0 := 2) (k0 := 4) (v := .ref a_r) C hE hP inA7 rfl rfl (by decide) qFX7_34 rfl rfl dX7_moveWhale_15 ?_
  refine lv_iload_n hx hb dX7_moveWhale_18 rfl (lv_at hl 2 rfl) ?_
  replace h := bnd h; obtain ⟨q3, e4, h⟩ := h
  refine rdV C hE hP (kX4_spreadTo l D T a_r a_g a_rs a_rl a_ro q1.1 p1 q3 e4) mX4_spreadTo qLX7_184 [1, 5] 1 rfl rfl rfl rfl ⟨rfl, rfl⟩ ⟨Nat.le_of_ble_eq_true rfl, Nat.le_of_ble_eq_true rfl⟩ rfl hl.1 rfl (Nat.le_of_ble_eq_true rfl) dX7_moveWhale_19 ⟨Nat.le_of_ble_eq_true rfl, Nat.le_of_ble_eq_true rfl⟩ ?_
  replace h := bnd h; obtain ⟨q5, e6, h⟩ := h
  refine wrVi (ws1 := [(a_g, .inr (1, [.ref a_gw, .ref a_gk])), (a_r, .inr (4, [.ref a_g, .ref a_rs, .ref a_rl, .ref a_ro])), (a_x, .inr (7, [.ref a_g, .ref a_b, .ref a_v, .ref a_h, .ref a_r, .ref a_f, .ref a_u, .ref a_t, .ref a_n, .int x_sav, .int x_err, .int x_rea, .int x_det, .int x_com])), (a_gw, .inl (T 0, 90, .inl q5.2.1)), (a_gk, .inl (T 0, 18, .inl q5.2.2)), (a_rs, .inl (T 0, 45, .inl q1.1)), (a_ro, .inl (T 1, 45, .inl q1.2))]) C hE hP hD hS hA (kX1_move l D T a_g a_gw a_gk v_gw v_gk p0 p1 q3 _ q5 e6) mX1_move qLX7_414 [0, 3, 4] [1, 2, 5, 6] 0 rfl rfl rfl rfl rfl rfl rfl rfl rfl ⟨rfl, rfl⟩ ⟨Nat.le_of_ble_eq_true rfl, Nat.le_of_ble_eq_true rfl⟩ rfl hl.1 rfl (Nat.le_of_ble_eq_true rfl) dX7_moveWhale_22 ⟨Nat.le_of_ble_eq_true rfl, Nat.le_of_ble_eq_true rfl⟩ ?_; clear hP hD hS; intro H locs hP hD hS
  replace h := Option.some.inj h
  exact hret _ _ _ _ _ _ dX7_moveWhale_25 rfl (by rw [← h] <;> rfl) (by rw [← h]; exact hP) hS

def fX7_hitBuoy (f_net : Int32) (v_gw : Nat → Int32) (v_gk : Nat → Int32) (p0 : Int32) (p1 : Int32) (p2 : Int32) : Option (Int32 × Int32 × (Nat → Int32) × (Nat → Int32)) :=
  (fX1_isFoulBy v_gw v_gk p0).bind fun q1 =>
  (fX0_goByCells f_net v_gw v_gk p0 p1 p2).bind fun q3 =>
  (fX1_hit v_gw v_gk p0 q3.1 (fX0_isNetted q3.2) q1).bind fun q5 =>
  some (q5.1, q3.2, q5.2.1, q5.2.2)
set_option maxHeartbeats 4000000 in
set_option maxRecDepth 100000 in
theorem kX7_hitBuoy (l : Launch) (D : va_G) (T : Nat → ClassId) (a_g a_gw a_gk a_f a_x a_b a_v a_h a_r a_u a_t a_n : Nat) (f_net : Int32) (x_sav : Int32) (x_err : Int32) (x_rea : Int32) (x_det : Int32) (x_com : Int32) (v_gw : Nat → Int32) (v_gk : Nat → Int32) (p0 : Int32) (p1 : Int32) (p2 : Int32) (sz : Nat) (r : Int32 × Int32 × (Nat → Int32) × (Nat → Int32)) (h : fX7_hitBuoy f_net v_gw v_gk p0 p1 p2 = some r) : WrI l yX7_hitBuoy cX7_hitBuoy 6 .int ({ frames := 4, cells := 0, slots := 0, locals := 97 } : Room) D T sz [(a_g, .inr (1, [.ref a_gw, .ref a_gk])), (a_f, .inr (0, [.ref a_g, .int f_net])), (a_x, .inr (7, [.ref a_g, .ref a_b, .ref a_v, .ref a_h, .ref a_r, .ref a_f, .ref a_u, .ref a_t, .ref a_n, .int x_sav, .int x_err, .int x_rea, .int x_det, .int x_com])), (a_gw, .inl (T 0, 90, .inl v_gw)), (a_gk, .inl (T 0, 18, .inl v_gk))] [(a_g, .inr (1, [.ref a_gw, .ref a_gk])), (a_f, .inr (0, [.ref a_g, .int r.2.1])), (a_x, .inr (7, [.ref a_g, .ref a_b, .ref a_v, .ref a_h, .ref a_r, .ref a_f, .ref a_u, .ref a_t, .ref a_n, .int x_sav, .int x_err, .int x_rea, .int x_det, .int x_com])), (a_gw, .inl (T 0, 90, .inl r.2.2.1)), (a_gk, .inl (T 0, 18, .inl r.2.2.2))] [.ref a_x, .int p0, .int p1, .int p2] r.1 := by
  unfold fX7_hitBuoy at h
  refine wrMet (by decide +kernel) rfl (fun p e s m args below meth c Q A C hE hA hP hD hS hret ls hl => ?_)
  have hx := C.1
  have hb := C.2.1
  have hl : lv_has ls 6 [(0, .ref a_x), (1, .int p0), (2, .int p1), (3, .int p2)] := hl
  refine lv_aload_n hx hb dX7_hitBuoy_0 rfl (lv_at hl 0 rfl) ?_
  refine getF (q0 := 2) (k0 := 0) (v := .ref a_g) C hE hP inA7 rfl rfl (by decide) qFX7_10 rfl rfl dX7_hitBuoy_1 ?_
  refine lv_iload_n hx hb dX7_hitBuoy_4 rfl (lv_at hl 1 rfl) ?_
  replace h := bnd h; obtain ⟨q1, e2, h⟩ := h
  refine rdV C hE hP (kX1_isFoulBy l D T a_g a_gw a_gk v_gw v_gk p0 q1 e2) mX1_isFoulBy qLX7_224 [0, 3, 4] 0 rfl rfl rfl rfl ⟨rfl, rfl⟩ ⟨Nat.le_of_ble_eq_true rfl, Nat.le_of_ble_eq_true rfl⟩ rfl hl.1 rfl (Nat.le_of_ble_eq_true rfl) dX7_hitBuoy_5 ⟨Nat.le_of_ble_eq_true rfl, Nat.le_of_ble_eq_true rfl⟩ ?_
  refine lv_istore (lv' := [(4, .int q1), (0, .ref a_x), (1, .int p0), (2, .int p1), (3, .int p2)]) hx hb dX7_hitBuoy_8 hl (by decide) rfl (fun ls hl => ?_)
  refine lv_aload_n hx hb dX7_hitBuoy_10 rfl (lv_at hl 1 rfl) ?_
  refine getF (q0 := 2) (k0 := 5) (v := .ref a_f) C hE hP inA7 rfl rfl (by decide) qFX7_41 rfl rfl dX7_hitBuoy_11 ?_
  refine lv_iload_n hx hb dX7_hitBuoy_14 rfl (lv_at hl 2 rfl) ?_
  refine lv_iload_n hx hb dX7_hitBuoy_15 rfl (lv_at hl 3 rfl) ?_
  refine lv_iload_n hx hb dX7_hitBuoy_16 rfl (lv_at hl 4 rfl) ?_
  replace h := bnd h; obtain ⟨q3, e4, h⟩ := h
  refine wrVi (ws1 := [(a_g, .inr (1, [.ref a_gw, .ref a_gk])), (a_f, .inr (0, [.ref a_g, .int q3.2])), (a_x, .inr (7, [.ref a_g, .ref a_b, .ref a_v, .ref a_h, .ref a_r, .ref a_f, .ref a_u, .ref a_t, .ref a_n, .int x_sav, .int x_err, .int x_rea, .int x_det, .int x_com])), (a_gw, .inl (T 0, 90, .inl v_gw)), (a_gk, .inl (T 0, 18, .inl v_gk))]) C hE hP hD hS hA (kX0_goByCells l D T a_g a_gw a_gk a_f f_net v_gw v_gk p0 p1 p2 _ q3 e4) mX0_goByCells qLX7_417 [0, 1, 3, 4] [2] 1 rfl rfl rfl rfl rfl rfl rfl rfl rfl ⟨rfl, rfl⟩ ⟨Nat.le_of_ble_eq_true rfl, Nat.le_of_ble_eq_true rfl⟩ rfl hl.1 rfl (Nat.le_of_ble_eq_true rfl) dX7_hitBuoy_17 ⟨Nat.le_of_ble_eq_true rfl, Nat.le_of_ble_eq_true rfl⟩ ?_; clear hP hD hS; intro H locs hP hD hS
  refine lv_istore (lv' := [(5, .int q3.1), (4, .int q1), (0, .ref a_x), (1, .int p0), (2, .int p1), (3, .int p2)]) hx hb dX7_hitBuoy_20 hl (by decide) rfl (fun ls hl => ?_)
  refine lv_aload_n hx hb dX7_hitBuoy_22 rfl (lv_at hl 2 rfl) ?_
  refine getF (q0 := 2) (k0 := 0) (v := .ref a_g) C hE hP inA7 rfl rfl (by decide) qFX7_10 rfl rfl dX7_hitBuoy_23 ?_
  refine lv_iload_n hx hb dX7_hitBuoy_26 rfl (lv_at hl 3 rfl) ?_
  refine lv_iload hx hb dX7_hitBuoy_27 (lv_at hl 0 rfl) ?_
  refine lv_aload_n hx hb dX7_hitBuoy_29 rfl (lv_at hl 2 rfl) ?_
  refine getF (q0 := 2) (k0 := 5) (v := .ref a_f) C hE hP inA7 rfl rfl (by decide) qFX7_41 rfl rfl dX7_hitBuoy_30 ?_
  refine rdV C hE hP (kX0_isNetted l D T a_f a_g q3.2) mX0_isNetted qLX7_420 [1] 1 rfl rfl rfl rfl ⟨rfl, rfl⟩ ⟨Nat.le_of_ble_eq_true rfl, Nat.le_of_ble_eq_true rfl⟩ rfl hl.1 rfl (Nat.le_of_ble_eq_true rfl) dX7_hitBuoy_33 ⟨Nat.le_of_ble_eq_true rfl, Nat.le_of_ble_eq_true rfl⟩ ?_
  refine lv_iload hx hb dX7_hitBuoy_36 (lv_at hl 1 rfl) ?_
  replace h := bnd h; obtain ⟨q5, e6, h⟩ := h
  refine wrVi (ws1 := [(a_g, .inr (1, [.ref a_gw, .ref a_gk])), (a_f, .inr (0, [.ref a_g, .int q3.2])), (a_x, .inr (7, [.ref a_g, .ref a_b, .ref a_v, .ref a_h, .ref a_r, .ref a_f, .ref a_u, .ref a_t, .ref a_n, .int x_sav, .int x_err, .int x_rea, .int x_det, .int x_com])), (a_gw, .inl (T 0, 90, .inl q5.2.1)), (a_gk, .inl (T 0, 18, .inl q5.2.2))]) C hE hP hD hS hA (kX1_hit l D T a_g a_gw a_gk v_gw v_gk p0 q3.1 (fX0_isNetted q3.2) q1 _ q5 e6) mX1_hit qLX7_423 [0, 3, 4] [1, 2] 0 rfl rfl rfl rfl rfl rfl rfl rfl rfl ⟨rfl, rfl⟩ ⟨Nat.le_of_ble_eq_true rfl, Nat.le_of_ble_eq_true rfl⟩ rfl hl.1 rfl (Nat.le_of_ble_eq_true rfl) dX7_hitBuoy_38 ⟨Nat.le_of_ble_eq_true rfl, Nat.le_of_ble_eq_true rfl⟩ ?_; clear hP hD hS; intro H locs hP hD hS
  replace h := Option.some.inj h
  exact hret _ _ _ _ _ _ dX7_hitBuoy_41 rfl (by rw [← h] <;> rfl) (by rw [← h]; exact hP) hS

def fX7_demandWhale (v_gk : Nat → Int32) (p0 : Int32) : Option Nat :=
  (fX1_has v_gk p0).bind fun q1 =>
  if q1 = 0 then
    some 3
  else
    some 0
set_option maxHeartbeats 4000000 in
set_option maxRecDepth 100000 in
theorem kX7_demandWhale (l : Launch) (hnt : l.stackTraces = false) (D : va_G) (T : Nat → ClassId) (a_g a_gw a_gk a_x a_b a_v a_h a_r a_f a_u a_t a_n : Nat) (x_sav : Int32) (x_err : Int32) (x_rea : Int32) (x_det : Int32) (x_com : Int32) (v_gk : Nat → Int32) (p0 : Int32) (sz : Nat) (r : Nat) (h : fX7_demandWhale v_gk p0 = some r) : ThV l yX7_demandWhale cX7_demandWhale 2 ({ frames := 6, cells := 1, slots := 6, locals := 90 } : Room) D T sz [(a_g, .inr (1, [.ref a_gw, .ref a_gk])), (a_x, .inr (7, [.ref a_g, .ref a_b, .ref a_v, .ref a_h, .ref a_r, .ref a_f, .ref a_u, .ref a_t, .ref a_n, .int x_sav, .int x_err, .int x_rea, .int x_det, .int x_com])), (a_gk, .inl (T 0, 18, .inl v_gk))] [(a_g, .inr (1, [.ref a_gw, .ref a_gk])), (a_x, .inr (7, [.ref a_g, .ref a_b, .ref a_v, .ref a_h, .ref a_r, .ref a_f, .ref a_u, .ref a_t, .ref a_n, .int x_sav, .int x_err, .int x_rea, .int x_det, .int x_com])), (a_gk, .inl (T 0, 18, .inl v_gk))] [.ref a_x, .int p0] r := by
  unfold fX7_demandWhale at h
  refine thMetV hnt (by decide +kernel) rfl (fun p e s m args below meth c Q A C hE hA hZ hP hD hS hret ls hl => ?_)
  have hx := C.1
  have hb := C.2.1
  have hl : lv_has ls 2 [(0, .ref a_x), (1, .int p0)] := hl
  refine lv_aload_n hx hb dX7_demandWhale_0 rfl (lv_at hl 0 rfl) ?_
  refine getF (q0 := 1) (k0 := 0) (v := .ref a_g) C hE hP inA7 rfl rfl (by decide) qFX7_10 rfl rfl dX7_demandWhale_1 ?_
  refine lv_iload_n hx hb dX7_demandWhale_4 rfl (lv_at hl 1 rfl) ?_
  replace h := bnd h; obtain ⟨q1, e2, h⟩ := h
  refine rdV C hE hP (kX1_has l D T a_g a_gw a_gk v_gk p0 q1 e2) mX1_has qLX7_384 [0, 2] 0 rfl rfl rfl rfl ⟨rfl, rfl⟩ ⟨Nat.le_of_ble_eq_true rfl, Nat.le_of_ble_eq_true rfl⟩ rfl hl.1 rfl (Nat.le_of_ble_eq_true rfl) dX7_demandWhale_5 ⟨Nat.le_of_ble_eq_true rfl, Nat.le_of_ble_eq_true rfl⟩ ?_
  refine lv_if_ne (tgt := 22) hx hb dX7_demandWhale_8 (by decide) (fun c3 => ?_) (fun c3 => ?_)
  · replace h := ite_f c3 h
    replace h := Option.some.inj h
    exact hret.1 _ _ _ _ _ _ (Nat.le_of_ble_eq_true rfl) (Nat.le_of_ble_eq_true rfl) dX7_demandWhale_22 (by rw [← h]) hP hS
  · replace h := ite_t c3 h
    replace h := Option.some.inj h
    exact hret.2.2 _ _ _ _ _ _ _ 265 269 387 _ "no such whale" (by rw [← h]; exact thrX7_265_269_3) (by decide +kernel) dX7_demandWhale_11 dX7_demandWhale_14 (Or.inr ⟨dX7_demandWhale_15, dX7_demandWhale_18, dX7_demandWhale_21⟩) (Nat.le_of_ble_eq_true rfl) (Nat.le_of_ble_eq_true rfl) (Nat.le_of_ble_eq_true rfl) (Nat.le_of_ble_eq_true rfl) (hl.1.trans C.2.2.1.symm) (by rw [← h]; exact (Nat.le_of_ble_eq_true rfl)) hP hS

def fX7_whaleOf_15 (v_gw : Nat → Int32) (v_gk : Nat → Int32) : Option (Nat × Int32) :=
  some (1, 0)
def fX7_whaleOf (v_gw : Nat → Int32) (v_gk : Nat → Int32) (p0 : Int32) (p1 : Int32) : Option (Nat × Int32) :=
  (fX7_demandWhale v_gk p0).bind fun q1 =>
  if q1 = 0 then
    if p1 < 0 then
      fX7_whaleOf_15 v_gw v_gk
    else
      if p1 < 9 then
        (fX1_of v_gw p0 p1).bind fun q5 =>
        some (0, q5)
      else
        fX7_whaleOf_15 v_gw v_gk
  else
    some (q1, 0)
set_option maxHeartbeats 4000000 in
set_option maxRecDepth 100000 in
theorem lX7_whaleOf_15 {p : Program} {l : Launch} {e : Env} {s : State} {m : MethodId} {args : Array Value} {below : List Frame} {meth : Method} {c : Code} {Q : State → Prop} {D : va_G} {T : Nat → ClassId} {a_g a_gw a_gk a_x a_b a_v a_h a_r a_f a_u a_t a_n : Nat} {x_sav : Int32} {x_err : Int32} {x_rea : Int32} {x_det : Int32} {x_com : Int32} {v_gw : Nat → Int32} {v_gk : Nat → Int32} {A : Nat → Prop} {r : Nat × Int32} (C : CallFix p m c cX7_whaleOf 3 s args aw RX7) (hE : eK D T s) (hA : ∀ q : Nat, s.heap.size ≤ q → A q) (hZ : eX l A s) (hret : ThRetI p l e ({ frames := 7, cells := 2, slots := 12, locals := 111 } : Room) s m args below meth c Q cX7_whaleOf .int D A [(a_g, .inr (1, [.ref a_gw, .ref a_gk])), (a_x, .inr (7, [.ref a_g, .ref a_b, .ref a_v, .ref a_h, .ref a_r, .ref a_f, .ref a_u, .ref a_t, .ref a_n, .int x_sav, .int x_err, .int x_rea, .int x_det, .int x_com])), (a_gw, .inl (T 0, 90, .inl v_gw)), (a_gk, .inl (T 0, 18, .inl v_gk))] r.1 r.2 ∧ ThOut p l e ({ frames := 7, cells := 2, slots := 12, locals := 111 } : Room) s m args below meth c Q D A [(a_g, .inr (1, [.ref a_gw, .ref a_gk])), (a_x, .inr (7, [.ref a_g, .ref a_b, .ref a_v, .ref a_h, .ref a_r, .ref a_f, .ref a_u, .ref a_t, .ref a_n, .int x_sav, .int x_err, .int x_rea, .int x_det, .int x_com])), (a_gw, .inl (T 0, 90, .inl v_gw)), (a_gk, .inl (T 0, 18, .inl v_gk))] r.1 ∧ ThThr p l e ({ frames := 7, cells := 2, slots := 12, locals := 111 } : Room) s m args below meth c Q cX7_whaleOf RX7 D A [(a_g, .inr (1, [.ref a_gw, .ref a_gk])), (a_x, .inr (7, [.ref a_g, .ref a_b, .ref a_v, .ref a_h, .ref a_r, .ref a_f, .ref a_u, .ref a_t, .ref a_n, .int x_sav, .int x_err, .int x_rea, .int x_det, .int x_com])), (a_gw, .inl (T 0, 90, .inl v_gw)), (a_gk, .inl (T 0, 18, .inl v_gk))] r.1) {H : Heap} {locs : List Loc} (hPD : va_PD D A [(a_g, .inr (1, [.ref a_gw, .ref a_gk])), (a_x, .inr (7, [.ref a_g, .ref a_b, .ref a_v, .ref a_h, .ref a_r, .ref a_f, .ref a_u, .ref a_t, .ref a_n, .int x_sav, .int x_err, .int x_rea, .int x_det, .int x_com])), (a_gw, .inl (T 0, 90, .inl v_gw)), (a_gk, .inl (T 0, 18, .inl v_gk))] H) (hS : va_S A s.heap H locs) (ls : Array Slot) (hl : lv_has ls 3 []) (h : fX7_whaleOf_15 v_gw v_gk = some r) : W p l e ({ frames := 7, cells := 2, slots := 12, locals := 111 } : Room) s m args below meth c H locs 1 6 Q (F0 m 15 ls []) := by
  have hx := C.1
  have hb := C.2.1
  obtain ⟨hP, hD⟩ := hPD
  unfold fX7_whaleOf_15 at h
  replace h := Option.some.inj h
  exact hret.2.2 _ _ _ _ _ _ _ 141 145 143 _ "no such number of a whale" (by rw [← h]; exact thrX7_141_145_1) (by decide +kernel) dX7_whaleOf_15 dX7_whaleOf_18 (Or.inl ⟨dX7_whaleOf_19, dX7_whaleOf_21, dX7_whaleOf_24⟩) (Nat.le_of_ble_eq_true rfl) (Nat.le_of_ble_eq_true rfl) (Nat.le_of_ble_eq_true rfl) (Nat.le_of_ble_eq_true rfl) (hl.1.trans C.2.2.1.symm) (by rw [← h]; exact (Nat.le_of_ble_eq_true rfl)) hP hS
set_option maxHeartbeats 4000000 in
set_option maxRecDepth 100000 in
theorem kX7_whaleOf (l : Launch) (hnt : l.stackTraces = false) (D : va_G) (T : Nat → ClassId) (a_g a_gw a_gk a_x a_b a_v a_h a_r a_f a_u a_t a_n : Nat) (x_sav : Int32) (x_err : Int32) (x_rea : Int32) (x_det : Int32) (x_com : Int32) (v_gw : Nat → Int32) (v_gk : Nat → Int32) (p0 : Int32) (p1 : Int32) (sz : Nat) (r : Nat × Int32) (h : fX7_whaleOf v_gw v_gk p0 p1 = some r) : ThI l yX7_whaleOf cX7_whaleOf 3 .int ({ frames := 7, cells := 2, slots := 12, locals := 111 } : Room) D T sz [(a_g, .inr (1, [.ref a_gw, .ref a_gk])), (a_x, .inr (7, [.ref a_g, .ref a_b, .ref a_v, .ref a_h, .ref a_r, .ref a_f, .ref a_u, .ref a_t, .ref a_n, .int x_sav, .int x_err, .int x_rea, .int x_det, .int x_com])), (a_gw, .inl (T 0, 90, .inl v_gw)), (a_gk, .inl (T 0, 18, .inl v_gk))] [(a_g, .inr (1, [.ref a_gw, .ref a_gk])), (a_x, .inr (7, [.ref a_g, .ref a_b, .ref a_v, .ref a_h, .ref a_r, .ref a_f, .ref a_u, .ref a_t, .ref a_n, .int x_sav, .int x_err, .int x_rea, .int x_det, .int x_com])), (a_gw, .inl (T 0, 90, .inl v_gw)), (a_gk, .inl (T 0, 18, .inl v_gk))] [.ref a_x, .int p0, .int p1] r.1 r.2 := by
  unfold fX7_whaleOf at h
  refine thMetI hnt (by decide +kernel) rfl (fun p e s m args below meth c Q A C hE hA hZ hP hD hS hret ls hl => ?_)
  have hx := C.1
  have hb := C.2.1
  have hl : lv_has ls 3 [(0, .ref a_x), (1, .int p0), (2, .int p1)] := hl
  refine lv_aload_n hx hb dX7_whaleOf_0 rfl (lv_at hl 0 rfl) ?_
  refine lv_iload_n hx hb dX7_whaleOf_1 rfl (lv_at hl 1 rfl) ?_
  replace h := bnd h; obtain ⟨q1, e2, h⟩ := h
  refine thVv (ws1 := [(a_g, .inr (1, [.ref a_gw, .ref a_gk])), (a_x, .inr (7, [.ref a_g, .ref a_b, .ref a_v, .ref a_h, .ref a_r, .ref a_f, .ref a_u, .ref a_t, .ref a_n, .int x_sav, .int x_err, .int x_rea, .int x_det, .int x_com])), (a_gw, .inl (T 0, 90, .inl v_gw)), (a_gk, .inl (T 0, 18, .inl v_gk))]) C hE hZ hP hD hS hA (kX7_demandWhale l hZ.1 D T a_g a_gw a_gk a_x a_b a_v a_h a_r a_f a_u a_t a_n x_sav x_err x_rea x_det x_com v_gk p0 _ q1 e2) mX7_demandWhale qLX7_138 [0, 1, 3] [2] 1 rfl rfl rfl rfl rfl rfl rfl rfl rfl ⟨Nat.le_of_ble_eq_true rfl, Nat.le_of_ble_eq_true rfl⟩ rfl hl.1 rfl (Nat.le_of_ble_eq_true rfl) dX7_whaleOf_2 ⟨Nat.le_of_ble_eq_true rfl, Nat.le_of_ble_eq_true rfl⟩ ?_ ?_
  · clear hP hD hS; intro hx0 H locs ce q9 hP hD hS g1 g2 g3
    replace h := ite_f (Nat.ne_of_gt hx0) h
    replace h := Option.some.inj h
    exact hret.2.1 _ _ _ _ _ _ _ _ _ (Nat.le_of_ble_eq_true rfl) (Nat.le_of_ble_eq_true rfl) (by rw [← h]; exact hx0) hP hS g1 g2 (by rw [← h]; exact g3)
  · clear hP hD hS; intro hx0 H locs hP hD hS
    replace h := ite_t hx0 h
    refine lv_iload_n hx hb dX7_whaleOf_5 rfl (lv_at hl 2 rfl) ?_
    refine lv_if_lt (tgt := 15) hx hb dX7_whaleOf_6 (by decide) (fun c3 => ?_) (fun c3 => ?_)
    · replace h := ite_t c3 h
      exact lX7_whaleOf_15 C hE hA hZ hret ⟨hP, hD⟩ hS _ (lv_sub hl [] rfl) h
    · replace h := ite_f c3 h
      refine lv_iload_n hx hb dX7_whaleOf_9 rfl (lv_at hl 2 rfl) ?_
      refine lv_bipush (v := 9) hx hb dX7_whaleOf_10 (by decide) ?_
      refine lv_icmp_lt (tgt := 25) hx hb dX7_whaleOf_12 (by decide) (fun c4 => ?_) (fun c4 => ?_)
      · replace h := ite_t c4 h
        refine lv_aload_n hx hb dX7_whaleOf_25 rfl (lv_at hl 0 rfl) ?_
        refine getF (q0 := 1) (k0 := 0) (v := .ref a_g) C hE hP inA7 rfl rfl (by decide) qFX7_10 rfl rfl dX7_whaleOf_26 ?_
        refine lv_iload_n hx hb dX7_whaleOf_29 rfl (lv_at hl 1 rfl) ?_
        refine lv_iload_n hx hb dX7_whaleOf_30 rfl (lv_at hl 2 rfl) ?_
        replace h := bnd h; obtain ⟨q5, e6, h⟩ := h
        refine rdV C hE hP (kX1_of l D T a_g a_gw a_gk v_gw p0 p1 q5 e6) mX1_of qLX7_148 [0, 2] 0 rfl rfl rfl rfl ⟨rfl, rfl⟩ ⟨Nat.le_of_ble_eq_true rfl, Nat.le_of_ble_eq_true rfl⟩ rfl hl.1 rfl (Nat.le_of_ble_eq_true rfl) dX7_whaleOf_31 ⟨Nat.le_of_ble_eq_true rfl, Nat.le_of_ble_eq_true rfl⟩ ?_
        replace h := Option.some.inj h
        exact hret.1 _ _ _ _ _ _ _ _ (Nat.le_of_ble_eq_true rfl) (Nat.le_of_ble_eq_true rfl) dX7_whaleOf_34 rfl (by rw [← h]) (by rw [← h] <;> rfl) hP hS
      · replace h := ite_f c4 h
        exact lX7_whaleOf_15 C hE hA hZ hret ⟨hP, hD⟩ hS _ (lv_sub hl [] rfl) h

def fX7_demandCell (p0 : Int32) : Option Nat :=
  if (fX7_isCell p0) = 0 then
    some 3
  else
    some 0
set_option maxHeartbeats 4000000 in
set_option maxRecDepth 100000 in
theorem kX7_demandCell (l : Launch) (hnt : l.stackTraces = false) (D : va_G) (T : Nat → ClassId) (a_x : Nat) (p0 : Int32) (sz : Nat) (r : Nat) (h : fX7_demandCell p0 = some r) : ThV l yX7_demandCell cX7_demandCell 2 ({ frames := 6, cells := 1, slots := 6, locals := 90 } : Room) D T sz [] [] [.ref a_x, .int p0] r := by
  unfold fX7_demandCell at h
  refine thMetV hnt (by decide +kernel) rfl (fun p e s m args below meth c Q A C hE hA hZ hP hD hS hret ls hl => ?_)
  have hx := C.1
  have hb := C.2.1
  have hl : lv_has ls 2 [(0, .ref a_x), (1, .int p0)] := hl
  refine lv_iload_n hx hb dX7_demandCell_0 rfl (lv_at hl 1 rfl) ?_
  refine rdS C hE hP (kX7_isCell l D T p0) mX7_isCell qLX7_389 [] rfl ⟨rfl, rfl⟩ ⟨Nat.le_of_ble_eq_true rfl, Nat.le_of_ble_eq_true rfl⟩ rfl hl.1 rfl (Nat.le_of_ble_eq_true rfl) dX7_demandCell_1 ⟨Nat.le_of_ble_eq_true rfl, Nat.le_of_ble_eq_true rfl⟩ ?_
  refine lv_if_ne (tgt := 18) hx hb dX7_demandCell_4 (by decide) (fun c1 => ?_) (fun c1 => ?_)
  · replace h := ite_f c1 h
    replace h := Option.some.inj h
    exact hret.1 _ _ _ _ _ _ (Nat.le_of_ble_eq_true rfl) (Nat.le_of_ble_eq_true rfl) dX7_demandCell_18 (by rw [← h]) hP hS
  · replace h := ite_t c1 h
    replace h := Option.some.inj h
    exact hret.2.2 _ _ _ _ _ _ _ 265 269 392 _ "no such cell" (by rw [← h]; exact thrX7_265_269_3) (by decide +kernel) dX7_demandCell_7 dX7_demandCell_10 (Or.inr ⟨dX7_demandCell_11, dX7_demandCell_14, dX7_demandCell_17⟩) (Nat.le_of_ble_eq_true rfl) (Nat.le_of_ble_eq_true rfl) (Nat.le_of_ble_eq_true rfl) (Nat.le_of_ble_eq_true rfl) (hl.1.trans C.2.2.1.symm) (by rw [← h]; exact (Nat.le_of_ble_eq_true rfl)) hP hS

def fX7_at (v_gw : Nat → Int32) (v_gk : Nat → Int32) (p0 : Int32) : Option (Nat × Int32) :=
  (fX7_demandCell p0).bind fun q1 =>
  if q1 = 0 then
    (fX1_whaleOn v_gw v_gk p0).bind fun q3 =>
    some (0, q3)
  else
    some (q1, 0)
set_option maxHeartbeats 4000000 in
set_option maxRecDepth 100000 in
theorem kX7_at (l : Launch) (hnt : l.stackTraces = false) (D : va_G) (T : Nat → ClassId) (a_g a_gw a_gk a_x a_b a_v a_h a_r a_f a_u a_t a_n : Nat) (x_sav : Int32) (x_err : Int32) (x_rea : Int32) (x_det : Int32) (x_com : Int32) (v_gw : Nat → Int32) (v_gk : Nat → Int32) (p0 : Int32) (sz : Nat) (r : Nat × Int32) (h : fX7_at v_gw v_gk p0 = some r) : ThI l yX7_at cX7_at 2 .int ({ frames := 7, cells := 1, slots := 6, locals := 111 } : Room) D T sz [(a_g, .inr (1, [.ref a_gw, .ref a_gk])), (a_x, .inr (7, [.ref a_g, .ref a_b, .ref a_v, .ref a_h, .ref a_r, .ref a_f, .ref a_u, .ref a_t, .ref a_n, .int x_sav, .int x_err, .int x_rea, .int x_det, .int x_com])), (a_gw, .inl (T 0, 90, .inl v_gw)), (a_gk, .inl (T 0, 18, .inl v_gk))] [(a_g, .inr (1, [.ref a_gw, .ref a_gk])), (a_x, .inr (7, [.ref a_g, .ref a_b, .ref a_v, .ref a_h, .ref a_r, .ref a_f, .ref a_u, .ref a_t, .ref a_n, .int x_sav, .int x_err, .int x_rea, .int x_det, .int x_com])), (a_gw, .inl (T 0, 90, .inl v_gw)), (a_gk, .inl (T 0, 18, .inl v_gk))] [.ref a_x, .int p0] r.1 r.2 := by
  unfold fX7_at at h
  refine thMetI hnt (by decide +kernel) rfl (fun p e s m args below meth c Q A C hE hA hZ hP hD hS hret ls hl => ?_)
  have hx := C.1
  have hb := C.2.1
  have hl : lv_has ls 2 [(0, .ref a_x), (1, .int p0)] := hl
  refine lv_aload_n hx hb dX7_at_0 rfl (lv_at hl 0 rfl) ?_
  refine lv_iload_n hx hb dX7_at_1 rfl (lv_at hl 1 rfl) ?_
  replace h := bnd h; obtain ⟨q1, e2, h⟩ := h
  refine thVv (ws1 := [(a_g, .inr (1, [.ref a_gw, .ref a_gk])), (a_x, .inr (7, [.ref a_g, .ref a_b, .ref a_v, .ref a_h, .ref a_r, .ref a_f, .ref a_u, .ref a_t, .ref a_n, .int x_sav, .int x_err, .int x_rea, .int x_det, .int x_com])), (a_gw, .inl (T 0, 90, .inl v_gw)), (a_gk, .inl (T 0, 18, .inl v_gk))]) C hE hZ hP hD hS hA (kX7_demandCell l hZ.1 D T a_x p0 _ q1 e2) mX7_demandCell qLX7_151 [] [0, 1, 2, 3] 1 rfl rfl rfl rfl rfl rfl rfl rfl rfl ⟨Nat.le_of_ble_eq_true rfl, Nat.le_of_ble_eq_true rfl⟩ rfl hl.1 rfl (Nat.le_of_ble_eq_true rfl) dX7_at_2 ⟨Nat.le_of_ble_eq_true rfl, Nat.le_of_ble_eq_true rfl⟩ ?_ ?_
  · clear hP hD hS; intro hx0 H locs ce q9 hP hD hS g1 g2 g3
    replace h := ite_f (Nat.ne_of_gt hx0) h
    replace h := Option.some.inj h
    exact hret.2.1 _ _ _ _ _ _ _ _ _ (Nat.le_of_ble_eq_true rfl) (Nat.le_of_ble_eq_true rfl) (by rw [← h]; exact hx0) hP hS g1 g2 (by rw [← h]; exact g3)
  · clear hP hD hS; intro hx0 H locs hP hD hS
    replace h := ite_t hx0 h
    refine lv_aload_n hx hb dX7_at_5 rfl (lv_at hl 0 rfl) ?_
    refine getF (q0 := 1) (k0 := 0) (v := .ref a_g) C hE hP inA7 rfl rfl (by decide) qFX7_10 rfl rfl dX7_at_6 ?_
    refine lv_iload_n hx hb dX7_at_9 rfl (lv_at hl 1 rfl) ?_
    replace h := bnd h; obtain ⟨q3, e4, h⟩ := h
    refine rdV C hE hP (kX1_whaleOn l D T a_g a_gw a_gk v_gw v_gk p0 q3 e4) mX1_whaleOn qLX7_154 [0, 2, 3] 0 rfl rfl rfl rfl ⟨rfl, rfl⟩ ⟨Nat.le_of_ble_eq_true rfl, Nat.le_of_ble_eq_true rfl⟩ rfl hl.1 rfl (Nat.le_of_ble_eq_true rfl) dX7_at_10 ⟨Nat.le_of_ble_eq_true rfl, Nat.le_of_ble_eq_true rfl⟩ ?_
    replace h := Option.some.inj h
    exact hret.1 _ _ _ _ _ _ _ _ (Nat.le_of_ble_eq_true rfl) (Nat.le_of_ble_eq_true rfl) dX7_at_13 rfl (by rw [← h]) (by rw [← h] <;> rfl) hP hS

def fX7_isDry (v_gk : Nat → Int32) (p0 : Int32) : Option (Nat × Int32) :=
  (fX7_demandCell p0).bind fun q1 =>
  if q1 = 0 then
    (fX1_isDryNow v_gk p0).bind fun q3 =>
    some (0, (q3 &&& 1))
  else
    some (q1, 0)
set_option maxHeartbeats 4000000 in
set_option maxRecDepth 100000 in
theorem kX7_isDry (l : Launch) (hnt : l.stackTraces = false) (D : va_G) (T : Nat → ClassId) (a_g a_gw a_gk a_x a_b a_v a_h a_r a_f a_u a_t a_n : Nat) (x_sav : Int32) (x_err : Int32) (x_rea : Int32) (x_det : Int32) (x_com : Int32) (v_gk : Nat → Int32) (p0 : Int32) (sz : Nat) (r : Nat × Int32) (h : fX7_isDry v_gk p0 = some r) : ThI l yX7_isDry cX7_isDry 2 .boolean ({ frames := 7, cells := 1, slots := 6, locals := 111 } : Room) D T sz [(a_g, .inr (1, [.ref a_gw, .ref a_gk])), (a_x, .inr (7, [.ref a_g, .ref a_b, .ref a_v, .ref a_h, .ref a_r, .ref a_f, .ref a_u, .ref a_t, .ref a_n, .int x_sav, .int x_err, .int x_rea, .int x_det, .int x_com])), (a_gk, .inl (T 0, 18, .inl v_gk))] [(a_g, .inr (1, [.ref a_gw, .ref a_gk])), (a_x, .inr (7, [.ref a_g, .ref a_b, .ref a_v, .ref a_h, .ref a_r, .ref a_f, .ref a_u, .ref a_t, .ref a_n, .int x_sav, .int x_err, .int x_rea, .int x_det, .int x_com])), (a_gk, .inl (T 0, 18, .inl v_gk))] [.ref a_x, .int p0] r.1 r.2 := by
  unfold fX7_isDry at h
  refine thMetI hnt (by decide +kernel) rfl (fun p e s m args below meth c Q A C hE hA hZ hP hD hS hret ls hl => ?_)
  have hx := C.1
  have hb := C.2.1
  have hl : lv_has ls 2 [(0, .ref a_x), (1, .int p0)] := hl
  refine lv_aload_n hx hb dX7_isDry_0 rfl (lv_at hl 0 rfl) ?_
  refine lv_iload_n hx hb dX7_isDry_1 rfl (lv_at hl 1 rfl) ?_
  replace h := bnd h; obtain ⟨q1, e2, h⟩ := h
  refine thVv (ws1 := [(a_g, .inr (1, [.ref a_gw, .ref a_gk])), (a_x, .inr (7, [.ref a_g, .ref a_b, .ref a_v, .ref a_h, .ref a_r, .ref a_f, .ref a_u, .ref a_t, .ref a_n, .int x_sav, .int x_err, .int x_rea, .int x_det, .int x_com])), (a_gk, .inl (T 0, 18, .inl v_gk))]) C hE hZ hP hD hS hA (kX7_demandCell l hZ.1 D T a_x p0 _ q1 e2) mX7_demandCell qLX7_151 [] [0, 1, 2] 1 rfl rfl rfl rfl rfl rfl rfl rfl rfl ⟨Nat.le_of_ble_eq_true rfl, Nat.le_of_ble_eq_true rfl⟩ rfl hl.1 rfl (Nat.le_of_ble_eq_true rfl) dX7_isDry_2 ⟨Nat.le_of_ble_eq_true rfl, Nat.le_of_ble_eq_true rfl⟩ ?_ ?_
  · clear hP hD hS; intro hx0 H locs ce q9 hP hD hS g1 g2 g3
    replace h := ite_f (Nat.ne_of_gt hx0) h
    replace h := Option.some.inj h
    exact hret.2.1 _ _ _ _ _ _ _ _ _ (Nat.le_of_ble_eq_true rfl) (Nat.le_of_ble_eq_true rfl) (by rw [← h]; exact hx0) hP hS g1 g2 (by rw [← h]; exact g3)
  · clear hP hD hS; intro hx0 H locs hP hD hS
    replace h := ite_t hx0 h
    refine lv_aload_n hx hb dX7_isDry_5 rfl (lv_at hl 0 rfl) ?_
    refine getF (q0 := 1) (k0 := 0) (v := .ref a_g) C hE hP inA7 rfl rfl (by decide) qFX7_10 rfl rfl dX7_isDry_6 ?_
    refine lv_iload_n hx hb dX7_isDry_9 rfl (lv_at hl 1 rfl) ?_
    replace h := bnd h; obtain ⟨q3, e4, h⟩ := h
    refine rdV C hE hP (kX1_isDryNow l D T a_g a_gw a_gk v_gk p0 q3 e4) mX1_isDryNow qLX7_157 [0, 2] 0 rfl rfl rfl rfl ⟨rfl, rfl⟩ ⟨Nat.le_of_ble_eq_true rfl, Nat.le_of_ble_eq_true rfl⟩ rfl hl.1 rfl (Nat.le_of_ble_eq_true rfl) dX7_isDry_10 ⟨Nat.le_of_ble_eq_true rfl, Nat.le_of_ble_eq_true rfl⟩ ?_
    replace h := Option.some.inj h
    exact hret.1 _ _ _ _ _ _ _ _ (Nat.le_of_ble_eq_true rfl) (Nat.le_of_ble_eq_true rfl) dX7_isDry_13 rfl (by rw [← h]) (by rw [← h] <;> rfl) hP hS

def fX7_demandClock_11 : Option Nat :=
  some 1
def fX7_demandClock (p0 : Int32) : Option Nat :=
  if p0 < 0 then
    fX7_demandClock_11
  else
    if p0 ≤ 999 then
      some 0
    else
      fX7_demandClock_11
set_option maxHeartbeats 4000000 in
set_option maxRecDepth 100000 in
theorem lX7_demandClock_11 {p : Program} {l : Launch} {e : Env} {s : State} {m : MethodId} {args : Array Value} {below : List Frame} {meth : Method} {c : Code} {Q : State → Prop} {D : va_G} {T : Nat → ClassId} {A : Nat → Prop} {r : Nat} (C : CallFix p m c cX7_demandClock 2 s args aw RX7) (hE : eK D T s) (hA : ∀ q : Nat, s.heap.size ≤ q → A q) (hZ : eX l A s) (hret : ThRetV p l e ({ frames := 6, cells := 1, slots := 6, locals := 90 } : Room) s m args below meth c Q cX7_demandClock D A [] r ∧ ThOut p l e ({ frames := 6, cells := 1, slots := 6, locals := 90 } : Room) s m args below meth c Q D A [] r ∧ ThThr p l e ({ frames := 6, cells := 1, slots := 6, locals := 90 } : Room) s m args below meth c Q cX7_demandClock RX7 D A [] r) {H : Heap} {locs : List Loc} (hPD : va_PD D A [] H) (hS : va_S A s.heap H locs) (ls : Array Slot) (hl : lv_has ls 2 []) (h : fX7_demandClock_11 = some r) : W p l e ({ frames := 6, cells := 1, slots := 6, locals := 90 } : Room) s m args below meth c H locs 0 0 Q (F0 m 11 ls []) := by
  have hx := C.1
  have hb := C.2.1
  obtain ⟨hP, hD⟩ := hPD
  unfold fX7_demandClock_11 at h
  replace h := Option.some.inj h
  exact hret.2.2 _ _ _ _ _ _ _ 141 145 394 _ "the clock is out of range" (by rw [← h]; exact thrX7_141_145_1) (by decide +kernel) dX7_demandClock_11 dX7_demandClock_14 (Or.inr ⟨dX7_demandClock_15, dX7_demandClock_18, dX7_demandClock_21⟩) (Nat.le_of_ble_eq_true rfl) (Nat.le_of_ble_eq_true rfl) (Nat.le_of_ble_eq_true rfl) (Nat.le_of_ble_eq_true rfl) (hl.1.trans C.2.2.1.symm) (by rw [← h]; exact (Nat.le_of_ble_eq_true rfl)) hP hS
set_option maxHeartbeats 4000000 in
set_option maxRecDepth 100000 in
theorem kX7_demandClock (l : Launch) (hnt : l.stackTraces = false) (D : va_G) (T : Nat → ClassId) (a_x : Nat) (p0 : Int32) (sz : Nat) (r : Nat) (h : fX7_demandClock p0 = some r) : ThV l yX7_demandClock cX7_demandClock 2 ({ frames := 6, cells := 1, slots := 6, locals := 90 } : Room) D T sz [] [] [.ref a_x, .int p0] r := by
  unfold fX7_demandClock at h
  refine thMetV hnt (by decide +kernel) rfl (fun p e s m args below meth c Q A C hE hA hZ hP hD hS hret ls hl => ?_)
  have hx := C.1
  have hb := C.2.1
  have hl : lv_has ls 2 [(0, .ref a_x), (1, .int p0)] := hl
  refine lv_iload_n hx hb dX7_demandClock_0 rfl (lv_at hl 1 rfl) ?_
  refine lv_if_lt (tgt := 11) hx hb dX7_demandClock_1 (by decide) (fun c1 => ?_) (fun c1 => ?_)
  · replace h := ite_t c1 h
    exact lX7_demandClock_11 C hE hA hZ hret ⟨hP, hD⟩ hS _ (lv_sub hl [] rfl) h
  · replace h := ite_f c1 h
    refine lv_iload_n hx hb dX7_demandClock_4 rfl (lv_at hl 1 rfl) ?_
    refine lv_sipush (v := 999) hx hb dX7_demandClock_5 (by decide) ?_
    refine lv_icmp_le (tgt := 22) hx hb dX7_demandClock_8 (by decide) (fun c2 => ?_) (fun c2 => ?_)
    · replace h := ite_t c2 h
      replace h := Option.some.inj h
      exact hret.1 _ _ _ _ _ _ (Nat.le_of_ble_eq_true rfl) (Nat.le_of_ble_eq_true rfl) dX7_demandClock_22 (by rw [← h]) hP hS
    · replace h := ite_f c2 h
      exact lX7_demandClock_11 C hE hA hZ hret ⟨hP, hD⟩ hS _ (lv_sub hl [] rfl) h

def fX7_tideByStrokes_46 (rec7 : Int32 → Int32 → Int32 → Int32 → Option Int32) (l0 : Int32) (l1 : Int32) (l2 : Int32) (l3 : Int32) : Option Int32 :=
  rec7 l0 l1 l2 (l3 + 1)
def fX7_tideByStrokes_45 (rec7 : Int32 → Int32 → Int32 → Int32 → Option Int32) (x0 : Int32) (l0 : Int32) (l1 : Int32) (l3 : Int32) : Option Int32 :=
  fX7_tideByStrokes_46 rec7 l0 l1 x0 l3
def fX7_tideByStrokes_34 (rec7 : Int32 → Int32 → Int32 → Int32 → Option Int32) (l0 : Int32) (l1 : Int32) (l3 : Int32) : Option Int32 :=
  fX7_tideByStrokes_45 rec7 (if l1 = 8 then 1 else 0) l0 l1 l3
def fX7_tideByStrokes_22 (rec7 : Int32 → Int32 → Int32 → Int32 → Option Int32) (x0 : Int32) (x1 : Int32) (l0 : Int32) (l2 : Int32) (l3 : Int32) : Option Int32 :=
  if (x0 + x1) = 0 then
    fX7_tideByStrokes_34 rec7 l0 (x0 + x1) l3
  else
    if (x0 + x1) = 8 then
      fX7_tideByStrokes_34 rec7 l0 (x0 + x1) l3
    else
      fX7_tideByStrokes_46 rec7 l0 (x0 + x1) l2 l3
def fX7_tideByStrokes_7 : Nat → Int32 → Int32 → Int32 → Int32 → Option Int32
  | 0, _, _, _, _ => none
  | k + 1, l0, l1, l2, l3 =>
    if l0 ≤ l3 then
      some l1
    else
      fX7_tideByStrokes_22 (fX7_tideByStrokes_7 k) l1 (if l2 = 0 then 1 else (-1)) l0 l2 l3
def fX7_tideByStrokes (p0 : Int32) : Option Int32 :=
  fX7_tideByStrokes_7 1024 p0 8 1 0
set_option maxHeartbeats 4000000 in
set_option maxRecDepth 100000 in
theorem lX7_tideByStrokes_46 {p : Program} {l : Launch} {e : Env} {s : State} {m : MethodId} {args : Array Value} {below : List Frame} {meth : Method} {c : Code} {Q : State → Prop} {D : va_G} {T : Nat → ClassId} {r : Int32} (C : CallFix p m c cX7_tideByStrokes 4 s args aw RX7) (hE : eK D T s) (hP : va_P D kC [] s.heap) (hret : RdRet p l e ({ frames := 0, cells := 0, slots := 0, locals := 0 } : Room) s m args below meth c Q cX7_tideByStrokes .int r) {rec7 : Int32 → Int32 → Int32 → Int32 → Option Int32} (hrec7 : ∀ (l0 : Int32) (l1 : Int32) (l2 : Int32) (l3 : Int32) (ls : Array Slot) (hl : lv_has ls 4 [(0, .int l0), (1, .int l1), (2, .int l2), (3, .int l3)]) (h : rec7 l0 l1 l2 l3 = some r), W p l e ({ frames := 0, cells := 0, slots := 0, locals := 0 } : Room) s m args below meth c s.heap [] 0 0 Q (F0 m 7 ls [])) (l0 : Int32) (l1 : Int32) (l2 : Int32) (l3 : Int32) (ls : Array Slot) (hl : lv_has ls 4 [(0, .int l0), (1, .int l1), (2, .int l2), (3, .int l3)]) (h : fX7_tideByStrokes_46 rec7 l0 l1 l2 l3 = some r) : W p l e ({ frames := 0, cells := 0, slots := 0, locals := 0 } : Room) s m args below meth c s.heap [] 0 0 Q (F0 m 46 ls []) := by
  have hx := C.1
  have hb := C.2.1
  unfold fX7_tideByStrokes_46 at h
  refine lv_iinc (v := (l3 + 1)) (lv' := [(3, .int (l3 + 1)), (0, .int l0), (1, .int l1), (2, .int l2)]) hx hb dX7_tideByStrokes_46 hl (k := 3) rfl rfl (by decide) rfl (fun ls hl => ?_)
  refine lv_goto (tgt := 7) hx hb dX7_tideByStrokes_49 (by decide) ?_
  exact hrec7 l0 l1 l2 (l3 + 1) _ (lv_sub hl [1, 2, 3, 0] rfl) h
set_option maxHeartbeats 4000000 in
set_option maxRecDepth 100000 in
theorem lX7_tideByStrokes_45 {p : Program} {l : Launch} {e : Env} {s : State} {m : MethodId} {args : Array Value} {below : List Frame} {meth : Method} {c : Code} {Q : State → Prop} {D : va_G} {T : Nat → ClassId} {r : Int32} (C : CallFix p m c cX7_tideByStrokes 4 s args aw RX7) (hE : eK D T s) (hP : va_P D kC [] s.heap) (hret : RdRet p l e ({ frames := 0, cells := 0, slots := 0, locals := 0 } : Room) s m args below meth c Q cX7_tideByStrokes .int r) {rec7 : Int32 → Int32 → Int32 → Int32 → Option Int32} (hrec7 : ∀ (l0 : Int32) (l1 : Int32) (l2 : Int32) (l3 : Int32) (ls : Array Slot) (hl : lv_has ls 4 [(0, .int l0), (1, .int l1), (2, .int l2), (3, .int l3)]) (h : rec7 l0 l1 l2 l3 = some r), W p l e ({ frames := 0, cells := 0, slots := 0, locals := 0 } : Room) s m args below meth c s.heap [] 0 0 Q (F0 m 7 ls [])) (x0 : Int32) (l0 : Int32) (l1 : Int32) (l3 : Int32) (ls : Array Slot) (hl : lv_has ls 4 [(0, .int l0), (1, .int l1), (3, .int l3)]) (h : fX7_tideByStrokes_45 rec7 x0 l0 l1 l3 = some r) : W p l e ({ frames := 0, cells := 0, slots := 0, locals := 0 } : Room) s m args below meth c s.heap [] 0 0 Q (F0 m 45 ls [.int x0]) := by
  have hx := C.1
  have hb := C.2.1
  unfold fX7_tideByStrokes_45 at h
  refine lv_istore_n (lv' := [(2, .int x0), (0, .int l0), (1, .int l1), (3, .int l3)]) hx hb dX7_tideByStrokes_45 rfl hl (by decide) rfl (fun ls hl => ?_)
  exact lX7_tideByStrokes_46 C hE hP hret hrec7 l0 l1 x0 l3 _ (lv_sub hl [1, 2, 0, 3] rfl) h
set_option maxHeartbeats 4000000 in
set_option maxRecDepth 100000 in
theorem lX7_tideByStrokes_34 {p : Program} {l : Launch} {e : Env} {s : State} {m : MethodId} {args : Array Value} {below : List Frame} {meth : Method} {c : Code} {Q : State → Prop} {D : va_G} {T : Nat → ClassId} {r : Int32} (C : CallFix p m c cX7_tideByStrokes 4 s args aw RX7) (hE : eK D T s) (hP : va_P D kC [] s.heap) (hret : RdRet p l e ({ frames := 0, cells := 0, slots := 0, locals := 0 } : Room) s m args below meth c Q cX7_tideByStrokes .int r) {rec7 : Int32 → Int32 → Int32 → Int32 → Option Int32} (hrec7 : ∀ (l0 : Int32) (l1 : Int32) (l2 : Int32) (l3 : Int32) (ls : Array Slot) (hl : lv_has ls 4 [(0, .int l0), (1, .int l1), (2, .int l2), (3, .int l3)]) (h : rec7 l0 l1 l2 l3 = some r), W p l e ({ frames := 0, cells := 0, slots := 0, locals := 0 } : Room) s m args below meth c s.heap [] 0 0 Q (F0 m 7 ls [])) (l0 : Int32) (l1 : Int32) (l3 : Int32) (ls : Array Slot) (hl : lv_has ls 4 [(0, .int l0), (1, .int l1), (3, .int l3)]) (h : fX7_tideByStrokes_34 rec7 l0 l1 l3 = some r) : W p l e ({ frames := 0, cells := 0, slots := 0, locals := 0 } : Room) s m args below meth c s.heap [] 0 0 Q (F0 m 34 ls []) := by
  have hx := C.1
  have hb := C.2.1
  unfold fX7_tideByStrokes_34 at h
  refine lv_iload_n hx hb dX7_tideByStrokes_34 rfl (lv_at hl 1 rfl) ?_
  refine lv_bipush (v := 8) hx hb dX7_tideByStrokes_35 (by decide) ?_
  refine lv_icmp_ne (tgt := 44) hx hb dX7_tideByStrokes_37 (by decide) (fun c5 => ?_) (fun c5 => ?_)
  · rw [if_neg c5] at h
    refine lv_iconst (v := 0) hx hb dX7_tideByStrokes_44 (by decide) ?_
    exact lX7_tideByStrokes_45 C hE hP hret hrec7 0 l0 l1 l3 _ (lv_sub hl [0, 1, 2] rfl) h
  · rw [if_pos c5] at h
    refine lv_iconst (v := 1) hx hb dX7_tideByStrokes_40 (by decide) ?_
    refine lv_goto (tgt := 45) hx hb dX7_tideByStrokes_41 (by decide) ?_
    exact lX7_tideByStrokes_45 C hE hP hret hrec7 1 l0 l1 l3 _ (lv_sub hl [0, 1, 2] rfl) h
set_option maxHeartbeats 4000000 in
set_option maxRecDepth 100000 in
theorem lX7_tideByStrokes_22 {p : Program} {l : Launch} {e : Env} {s : State} {m : MethodId} {args : Array Value} {below : List Frame} {meth : Method} {c : Code} {Q : State → Prop} {D : va_G} {T : Nat → ClassId} {r : Int32} (C : CallFix p m c cX7_tideByStrokes 4 s args aw RX7) (hE : eK D T s) (hP : va_P D kC [] s.heap) (hret : RdRet p l e ({ frames := 0, cells := 0, slots := 0, locals := 0 } : Room) s m args below meth c Q cX7_tideByStrokes .int r) {rec7 : Int32 → Int32 → Int32 → Int32 → Option Int32} (hrec7 : ∀ (l0 : Int32) (l1 : Int32) (l2 : Int32) (l3 : Int32) (ls : Array Slot) (hl : lv_has ls 4 [(0, .int l0), (1, .int l1), (2, .int l2), (3, .int l3)]) (h : rec7 l0 l1 l2 l3 = some r), W p l e ({ frames := 0, cells := 0, slots := 0, locals := 0 } : Room) s m args below meth c s.heap [] 0 0 Q (F0 m 7 ls [])) (x0 : Int32) (x1 : Int32) (l0 : Int32) (l2 : Int32) (l3 : Int32) (ls : Array Slot) (hl : lv_has ls 4 [(0, .int l0), (2, .int l2), (3, .int l3)]) (h : fX7_tideByStrokes_22 rec7 x0 x1 l0 l2 l3 = some r) : W p l e ({ frames := 0, cells := 0, slots := 0, locals := 0 } : Room) s m args below meth c s.heap [] 0 0 Q (F0 m 22 ls [.int x1, .int x0]) := by
  have hx := C.1
  have hb := C.2.1
  unfold fX7_tideByStrokes_22 at h
  refine lv_iadd hx hb dX7_tideByStrokes_22 ?_
  refine lv_istore_n (lv' := [(1, .int (x0 + x1)), (0, .int l0), (2, .int l2), (3, .int l3)]) hx hb dX7_tideByStrokes_23 rfl hl (by decide) rfl (fun ls hl => ?_)
  refine lv_iload_n hx hb dX7_tideByStrokes_24 rfl (lv_at hl 0 rfl) ?_
  refine lv_if_eq (tgt := 34) hx hb dX7_tideByStrokes_25 (by decide) (fun c3 => ?_) (fun c3 => ?_)
  · replace h := ite_t c3 h
    exact lX7_tideByStrokes_34 C hE hP hret hrec7 l0 (x0 + x1) l3 _ (lv_sub hl [1, 0, 3] rfl) h
  · replace h := ite_f c3 h
    refine lv_iload_n hx hb dX7_tideByStrokes_28 rfl (lv_at hl 0 rfl) ?_
    refine lv_bipush (v := 8) hx hb dX7_tideByStrokes_29 (by decide) ?_
    refine lv_icmp_ne (tgt := 46) hx hb dX7_tideByStrokes_31 (by decide) (fun c4 => ?_) (fun c4 => ?_)
    · replace h := ite_f c4 h
      exact lX7_tideByStrokes_46 C hE hP hret hrec7 l0 (x0 + x1) l2 l3 _ (lv_sub hl [1, 0, 2, 3] rfl) h
    · replace h := ite_t c4 h
      exact lX7_tideByStrokes_34 C hE hP hret hrec7 l0 (x0 + x1) l3 _ (lv_sub hl [1, 0, 3] rfl) h
set_option maxHeartbeats 4000000 in
set_option maxRecDepth 100000 in
theorem lX7_tideByStrokes_7 {p : Program} {l : Launch} {e : Env} {s : State} {m : MethodId} {args : Array Value} {below : List Frame} {meth : Method} {c : Code} {Q : State → Prop} {D : va_G} {T : Nat → ClassId} {r : Int32} (C : CallFix p m c cX7_tideByStrokes 4 s args aw RX7) (hE : eK D T s) (hP : va_P D kC [] s.heap) (hret : RdRet p l e ({ frames := 0, cells := 0, slots := 0, locals := 0 } : Room) s m args below meth c Q cX7_tideByStrokes .int r) : ∀ (k : Nat) (l0 : Int32) (l1 : Int32) (l2 : Int32) (l3 : Int32) (ls : Array Slot) (hl : lv_has ls 4 [(0, .int l0), (1, .int l1), (2, .int l2), (3, .int l3)]) (h : fX7_tideByStrokes_7 k l0 l1 l2 l3 = some r), W p l e ({ frames := 0, cells := 0, slots := 0, locals := 0 } : Room) s m args below meth c s.heap [] 0 0 Q (F0 m 7 ls []) := by
  have hx := C.1
  have hb := C.2.1
  intro k
  induction k with
  | zero =>
    intro l0 l1 l2 l3  ls hl h
    exact nomatch (show (none : Option Int32) = some r from h)
  | succ k ih =>
    intro l0 l1 l2 l3  ls hl h
    rw [fX7_tideByStrokes_7] at h
    refine lv_iload_n hx hb dX7_tideByStrokes_7 rfl (lv_at hl 3 rfl) ?_
    refine lv_iload_n hx hb dX7_tideByStrokes_8 rfl (lv_at hl 0 rfl) ?_
    refine lv_icmp_ge (tgt := 52) hx hb dX7_tideByStrokes_9 (by decide) (fun c1 => ?_) (fun c1 => ?_)
    · replace h := ite_t c1 h
      refine lv_iload_n hx hb dX7_tideByStrokes_52 rfl (lv_at hl 1 rfl) ?_
      exact hret _ _ _ _ dX7_tideByStrokes_53 rfl (Option.some.inj h)
    · replace h := ite_f c1 h
      refine lv_iload_n hx hb dX7_tideByStrokes_12 rfl (lv_at hl 1 rfl) ?_
      refine lv_iload_n hx hb dX7_tideByStrokes_13 rfl (lv_at hl 2 rfl) ?_
      refine lv_if_eq (tgt := 21) hx hb dX7_tideByStrokes_14 (by decide) (fun c2 => ?_) (fun c2 => ?_)
      · rw [if_pos c2] at h
        refine lv_iconst (v := 1) hx hb dX7_tideByStrokes_21 (by decide) ?_
        exact lX7_tideByStrokes_22 C hE hP hret ih l1 1 l0 l2 l3 _ (lv_sub hl [0, 2, 3] rfl) h
      · rw [if_neg c2] at h
        refine lv_iconst (v := (-1)) hx hb dX7_tideByStrokes_17 (by decide) ?_
        refine lv_goto (tgt := 22) hx hb dX7_tideByStrokes_18 (by decide) ?_
        exact lX7_tideByStrokes_22 C hE hP hret ih l1 (-1) l0 l2 l3 _ (lv_sub hl [0, 2, 3] rfl) h
set_option maxHeartbeats 4000000 in
set_option maxRecDepth 100000 in
theorem kX7_tideByStrokes (l : Launch) (D : va_G) (T : Nat → ClassId) (p0 : Int32) (r : Int32) (h : fX7_tideByStrokes p0 = some r) : RdI l yX7_tideByStrokes cX7_tideByStrokes 4 .int ({ frames := 0, cells := 0, slots := 0, locals := 0 } : Room) D T [] [.int p0] r := by
  unfold fX7_tideByStrokes at h
  refine rdMet (by decide +kernel) rfl (fun p e s m args below meth c Q C hE hP hret ls hl => ?_)
  have hx := C.1
  have hb := C.2.1
  have hl : lv_has ls 4 [(0, .int p0)] := hl
  refine lv_bipush (v := 8) hx hb dX7_tideByStrokes_0 (by decide) ?_
  refine lv_istore_n (lv' := [(1, .int 8), (0, .int p0)]) hx hb dX7_tideByStrokes_2 rfl hl (by decide) rfl (fun ls hl => ?_)
  refine lv_iconst (v := 1) hx hb dX7_tideByStrokes_3 (by decide) ?_
  refine lv_istore_n (lv' := [(2, .int 1), (1, .int 8), (0, .int p0)]) hx hb dX7_tideByStrokes_4 rfl hl (by decide) rfl (fun ls hl => ?_)
  refine lv_iconst (v := 0) hx hb dX7_tideByStrokes_5 (by decide) ?_
  refine lv_istore_n (lv' := [(3, .int 0), (2, .int 1), (1, .int 8), (0, .int p0)]) hx hb dX7_tideByStrokes_6 rfl hl (by decide) rfl (fun ls hl => ?_)
  exact lX7_tideByStrokes_7 C hE hP hret 1024 p0 8 1 0 _ (lv_sub hl [3, 2, 1, 0] rfl) h

def fX7_tide (p0 : Int32) : Option (Nat × Int32) :=
  (fX7_demandClock p0).bind fun q1 =>
  if q1 = 0 then
    (fX7_tideByStrokes p0).bind fun q3 =>
    some (0, q3)
  else
    some (q1, 0)
set_option maxHeartbeats 4000000 in
set_option maxRecDepth 100000 in
theorem kX7_tide (l : Launch) (hnt : l.stackTraces = false) (D : va_G) (T : Nat → ClassId) (a_x a_g a_b a_v a_h a_r a_f a_u a_t a_n : Nat) (x_sav : Int32) (x_err : Int32) (x_rea : Int32) (x_det : Int32) (x_com : Int32) (p0 : Int32) (sz : Nat) (r : Nat × Int32) (h : fX7_tide p0 = some r) : ThI l yX7_tide cX7_tide 2 .int ({ frames := 7, cells := 1, slots := 6, locals := 111 } : Room) D T sz [(a_x, .inr (7, [.ref a_g, .ref a_b, .ref a_v, .ref a_h, .ref a_r, .ref a_f, .ref a_u, .ref a_t, .ref a_n, .int x_sav, .int x_err, .int x_rea, .int x_det, .int x_com]))] [(a_x, .inr (7, [.ref a_g, .ref a_b, .ref a_v, .ref a_h, .ref a_r, .ref a_f, .ref a_u, .ref a_t, .ref a_n, .int x_sav, .int x_err, .int x_rea, .int x_det, .int x_com]))] [.ref a_x, .int p0] r.1 r.2 := by
  unfold fX7_tide at h
  refine thMetI hnt (by decide +kernel) rfl (fun p e s m args below meth c Q A C hE hA hZ hP hD hS hret ls hl => ?_)
  have hx := C.1
  have hb := C.2.1
  have hl : lv_has ls 2 [(0, .ref a_x), (1, .int p0)] := hl
  refine lv_aload_n hx hb dX7_tide_0 rfl (lv_at hl 0 rfl) ?_
  refine lv_iload_n hx hb dX7_tide_1 rfl (lv_at hl 1 rfl) ?_
  replace h := bnd h; obtain ⟨q1, e2, h⟩ := h
  refine thVv (ws1 := [(a_x, .inr (7, [.ref a_g, .ref a_b, .ref a_v, .ref a_h, .ref a_r, .ref a_f, .ref a_u, .ref a_t, .ref a_n, .int x_sav, .int x_err, .int x_rea, .int x_det, .int x_com]))]) C hE hZ hP hD hS hA (kX7_demandClock l hZ.1 D T a_x p0 _ q1 e2) mX7_demandClock qLX7_161 [] [0] 0 rfl rfl rfl rfl rfl rfl rfl rfl rfl ⟨Nat.le_of_ble_eq_true rfl, Nat.le_of_ble_eq_true rfl⟩ rfl hl.1 rfl (Nat.le_of_ble_eq_true rfl) dX7_tide_2 ⟨Nat.le_of_ble_eq_true rfl, Nat.le_of_ble_eq_true rfl⟩ ?_ ?_
  · clear hP hD hS; intro hx0 H locs ce q9 hP hD hS g1 g2 g3
    replace h := ite_f (Nat.ne_of_gt hx0) h
    replace h := Option.some.inj h
    exact hret.2.1 _ _ _ _ _ _ _ _ _ (Nat.le_of_ble_eq_true rfl) (Nat.le_of_ble_eq_true rfl) (by rw [← h]; exact hx0) hP hS g1 g2 (by rw [← h]; exact g3)
  · clear hP hD hS; intro hx0 H locs hP hD hS
    replace h := ite_t hx0 h
    refine lv_iload_n hx hb dX7_tide_5 rfl (lv_at hl 1 rfl) ?_
    replace h := bnd h; obtain ⟨q3, e4, h⟩ := h
    refine rdS C hE hP (kX7_tideByStrokes l D T p0 q3 e4) mX7_tideByStrokes qLX7_164 [] rfl ⟨rfl, rfl⟩ ⟨Nat.le_of_ble_eq_true rfl, Nat.le_of_ble_eq_true rfl⟩ rfl hl.1 rfl (Nat.le_of_ble_eq_true rfl) dX7_tide_6 ⟨Nat.le_of_ble_eq_true rfl, Nat.le_of_ble_eq_true rfl⟩ ?_
    replace h := Option.some.inj h
    exact hret.1 _ _ _ _ _ _ _ _ (Nat.le_of_ble_eq_true rfl) (Nat.le_of_ble_eq_true rfl) dX7_tide_9 rfl (by rw [← h]) (by rw [← h] <;> rfl) hP hS

def fX7_tideAgain (p0 : Int32) : Option (Nat × Int32) :=
  (fX7_demandClock p0).bind fun q1 =>
  if q1 = 0 then
    some (0, (fX7_tideByDividing p0))
  else
    some (q1, 0)
set_option maxHeartbeats 4000000 in
set_option maxRecDepth 100000 in
theorem kX7_tideAgain (l : Launch) (hnt : l.stackTraces = false) (D : va_G) (T : Nat → ClassId) (a_x a_g a_b a_v a_h a_r a_f a_u a_t a_n : Nat) (x_sav : Int32) (x_err : Int32) (x_rea : Int32) (x_det : Int32) (x_com : Int32) (p0 : Int32) (sz : Nat) (r : Nat × Int32) (h : fX7_tideAgain p0 = some r) : ThI l yX7_tideAgain cX7_tideAgain 2 .int ({ frames := 7, cells := 1, slots := 6, locals := 111 } : Room) D T sz [(a_x, .inr (7, [.ref a_g, .ref a_b, .ref a_v, .ref a_h, .ref a_r, .ref a_f, .ref a_u, .ref a_t, .ref a_n, .int x_sav, .int x_err, .int x_rea, .int x_det, .int x_com]))] [(a_x, .inr (7, [.ref a_g, .ref a_b, .ref a_v, .ref a_h, .ref a_r, .ref a_f, .ref a_u, .ref a_t, .ref a_n, .int x_sav, .int x_err, .int x_rea, .int x_det, .int x_com]))] [.ref a_x, .int p0] r.1 r.2 := by
  unfold fX7_tideAgain at h
  refine thMetI hnt (by decide +kernel) rfl (fun p e s m args below meth c Q A C hE hA hZ hP hD hS hret ls hl => ?_)
  have hx := C.1
  have hb := C.2.1
  have hl : lv_has ls 2 [(0, .ref a_x), (1, .int p0)] := hl
  refine lv_aload_n hx hb dX7_tideAgain_0 rfl (lv_at hl 0 rfl) ?_
  refine lv_iload_n hx hb dX7_tideAgain_1 rfl (lv_at hl 1 rfl) ?_
  replace h := bnd h; obtain ⟨q1, e2, h⟩ := h
  refine thVv (ws1 := [(a_x, .inr (7, [.ref a_g, .ref a_b, .ref a_v, .ref a_h, .ref a_r, .ref a_f, .ref a_u, .ref a_t, .ref a_n, .int x_sav, .int x_err, .int x_rea, .int x_det, .int x_com]))]) C hE hZ hP hD hS hA (kX7_demandClock l hZ.1 D T a_x p0 _ q1 e2) mX7_demandClock qLX7_161 [] [0] 0 rfl rfl rfl rfl rfl rfl rfl rfl rfl ⟨Nat.le_of_ble_eq_true rfl, Nat.le_of_ble_eq_true rfl⟩ rfl hl.1 rfl (Nat.le_of_ble_eq_true rfl) dX7_tideAgain_2 ⟨Nat.le_of_ble_eq_true rfl, Nat.le_of_ble_eq_true rfl⟩ ?_ ?_
  · clear hP hD hS; intro hx0 H locs ce q9 hP hD hS g1 g2 g3
    replace h := ite_f (Nat.ne_of_gt hx0) h
    replace h := Option.some.inj h
    exact hret.2.1 _ _ _ _ _ _ _ _ _ (Nat.le_of_ble_eq_true rfl) (Nat.le_of_ble_eq_true rfl) (by rw [← h]; exact hx0) hP hS g1 g2 (by rw [← h]; exact g3)
  · clear hP hD hS; intro hx0 H locs hP hD hS
    replace h := ite_t hx0 h
    refine lv_iload_n hx hb dX7_tideAgain_5 rfl (lv_at hl 1 rfl) ?_
    refine rdS C hE hP (kX7_tideByDividing l D T p0) mX7_tideByDividing qLX7_167 [] rfl ⟨rfl, rfl⟩ ⟨Nat.le_of_ble_eq_true rfl, Nat.le_of_ble_eq_true rfl⟩ rfl hl.1 rfl (Nat.le_of_ble_eq_true rfl) dX7_tideAgain_6 ⟨Nat.le_of_ble_eq_true rfl, Nat.le_of_ble_eq_true rfl⟩ ?_
    replace h := Option.some.inj h
    exact hret.1 _ _ _ _ _ _ _ _ (Nat.le_of_ble_eq_true rfl) (Nat.le_of_ble_eq_true rfl) dX7_tideAgain_9 rfl (by rw [← h]) (by rw [← h] <;> rfl) hP hS

def fX7_turnsIn (v_gk : Nat → Int32) (p0 : Int32) : Option (Nat × Int32) :=
  (fX7_demandCell p0).bind fun q1 =>
  if q1 = 0 then
    if (fX7_isEdge p0) = 0 then
      some (4, 0)
    else
      (fX1_strokesToTurn v_gk).bind fun q4 =>
      some (0, q4)
  else
    some (q1, 0)
set_option maxHeartbeats 4000000 in
set_option maxRecDepth 100000 in
theorem kX7_turnsIn (l : Launch) (hnt : l.stackTraces = false) (D : va_G) (T : Nat → ClassId) (a_g a_gw a_gk a_x a_b a_v a_h a_r a_f a_u a_t a_n : Nat) (x_sav : Int32) (x_err : Int32) (x_rea : Int32) (x_det : Int32) (x_com : Int32) (v_gk : Nat → Int32) (p0 : Int32) (sz : Nat) (r : Nat × Int32) (h : fX7_turnsIn v_gk p0 = some r) : ThI l yX7_turnsIn cX7_turnsIn 2 .int ({ frames := 7, cells := 2, slots := 12, locals := 111 } : Room) D T sz [(a_g, .inr (1, [.ref a_gw, .ref a_gk])), (a_x, .inr (7, [.ref a_g, .ref a_b, .ref a_v, .ref a_h, .ref a_r, .ref a_f, .ref a_u, .ref a_t, .ref a_n, .int x_sav, .int x_err, .int x_rea, .int x_det, .int x_com])), (a_gk, .inl (T 0, 18, .inl v_gk))] [(a_g, .inr (1, [.ref a_gw, .ref a_gk])), (a_x, .inr (7, [.ref a_g, .ref a_b, .ref a_v, .ref a_h, .ref a_r, .ref a_f, .ref a_u, .ref a_t, .ref a_n, .int x_sav, .int x_err, .int x_rea, .int x_det, .int x_com])), (a_gk, .inl (T 0, 18, .inl v_gk))] [.ref a_x, .int p0] r.1 r.2 := by
  unfold fX7_turnsIn at h
  refine thMetI hnt (by decide +kernel) rfl (fun p e s m args below meth c Q A C hE hA hZ hP hD hS hret ls hl => ?_)
  have hx := C.1
  have hb := C.2.1
  have hl : lv_has ls 2 [(0, .ref a_x), (1, .int p0)] := hl
  refine lv_aload_n hx hb dX7_turnsIn_0 rfl (lv_at hl 0 rfl) ?_
  refine lv_iload_n hx hb dX7_turnsIn_1 rfl (lv_at hl 1 rfl) ?_
  replace h := bnd h; obtain ⟨q1, e2, h⟩ := h
  refine thVv (ws1 := [(a_g, .inr (1, [.ref a_gw, .ref a_gk])), (a_x, .inr (7, [.ref a_g, .ref a_b, .ref a_v, .ref a_h, .ref a_r, .ref a_f, .ref a_u, .ref a_t, .ref a_n, .int x_sav, .int x_err, .int x_rea, .int x_det, .int x_com])), (a_gk, .inl (T 0, 18, .inl v_gk))]) C hE hZ hP hD hS hA (kX7_demandCell l hZ.1 D T a_x p0 _ q1 e2) mX7_demandCell qLX7_151 [] [0, 1, 2] 1 rfl rfl rfl rfl rfl rfl rfl rfl rfl ⟨Nat.le_of_ble_eq_true rfl, Nat.le_of_ble_eq_true rfl⟩ rfl hl.1 rfl (Nat.le_of_ble_eq_true rfl) dX7_turnsIn_2 ⟨Nat.le_of_ble_eq_true rfl, Nat.le_of_ble_eq_true rfl⟩ ?_ ?_
  · clear hP hD hS; intro hx0 H locs ce q9 hP hD hS g1 g2 g3
    replace h := ite_f (Nat.ne_of_gt hx0) h
    replace h := Option.some.inj h
    exact hret.2.1 _ _ _ _ _ _ _ _ _ (Nat.le_of_ble_eq_true rfl) (Nat.le_of_ble_eq_true rfl) (by rw [← h]; exact hx0) hP hS g1 g2 (by rw [← h]; exact g3)
  · clear hP hD hS; intro hx0 H locs hP hD hS
    replace h := ite_t hx0 h
    refine lv_iload_n hx hb dX7_turnsIn_5 rfl (lv_at hl 1 rfl) ?_
    refine rdS C hE hP (kX7_isEdge l D T p0) mX7_isEdge qLX7_170 [] rfl ⟨rfl, rfl⟩ ⟨Nat.le_of_ble_eq_true rfl, Nat.le_of_ble_eq_true rfl⟩ rfl hl.1 rfl (Nat.le_of_ble_eq_true rfl) dX7_turnsIn_6 ⟨Nat.le_of_ble_eq_true rfl, Nat.le_of_ble_eq_true rfl⟩ ?_
    refine lv_if_ne (tgt := 22) hx hb dX7_turnsIn_9 (by decide) (fun c3 => ?_) (fun c3 => ?_)
    · replace h := ite_f c3 h
      refine lv_aload_n hx hb dX7_turnsIn_22 rfl (lv_at hl 0 rfl) ?_
      refine getF (q0 := 1) (k0 := 0) (v := .ref a_g) C hE hP inA7 rfl rfl (by decide) qFX7_10 rfl rfl dX7_turnsIn_23 ?_
      replace h := bnd h; obtain ⟨q4, e5, h⟩ := h
      refine rdV C hE hP (kX1_strokesToTurn l D T a_g a_gw a_gk v_gk q4 e5) mX1_strokesToTurn qLX7_178 [0, 2] 0 rfl rfl rfl rfl ⟨rfl, rfl⟩ ⟨Nat.le_of_ble_eq_true rfl, Nat.le_of_ble_eq_true rfl⟩ rfl hl.1 rfl (Nat.le_of_ble_eq_true rfl) dX7_turnsIn_26 ⟨Nat.le_of_ble_eq_true rfl, Nat.le_of_ble_eq_true rfl⟩ ?_
      replace h := Option.some.inj h
      exact hret.1 _ _ _ _ _ _ _ _ (Nat.le_of_ble_eq_true rfl) (Nat.le_of_ble_eq_true rfl) dX7_turnsIn_29 rfl (by rw [← h]) (by rw [← h] <;> rfl) hP hS
    · replace h := ite_t c3 h
      replace h := Option.some.inj h
      exact hret.2.2 _ _ _ _ _ _ _ 173 177 175 _ "this cell is never dry" (by rw [← h]; exact thrX7_173_177_4) (by decide +kernel) dX7_turnsIn_12 dX7_turnsIn_15 (Or.inl ⟨dX7_turnsIn_16, dX7_turnsIn_18, dX7_turnsIn_21⟩) (Nat.le_of_ble_eq_true rfl) (Nat.le_of_ble_eq_true rfl) (Nat.le_of_ble_eq_true rfl) (Nat.le_of_ble_eq_true rfl) (hl.1.trans C.2.2.1.symm) (by rw [← h]; exact (Nat.le_of_ble_eq_true rfl)) hP hS

def fX7_demandWay (p0 : Int32) : Option Nat :=
  if p0 = (-1) then
    some 4
  else
    some 0
set_option maxHeartbeats 4000000 in
set_option maxRecDepth 100000 in
theorem kX7_demandWay (l : Launch) (hnt : l.stackTraces = false) (D : va_G) (T : Nat → ClassId) (a_x : Nat) (p0 : Int32) (sz : Nat) (r : Nat) (h : fX7_demandWay p0 = some r) : ThV l yX7_demandWay cX7_demandWay 2 ({ frames := 6, cells := 1, slots := 6, locals := 90 } : Room) D T sz [] [] [.ref a_x, .int p0] r := by
  unfold fX7_demandWay at h
  refine thMetV hnt (by decide +kernel) rfl (fun p e s m args below meth c Q A C hE hA hZ hP hD hS hret ls hl => ?_)
  have hx := C.1
  have hb := C.2.1
  have hl : lv_has ls 2 [(0, .ref a_x), (1, .int p0)] := hl
  refine lv_iload_n hx hb dX7_demandWay_0 rfl (lv_at hl 1 rfl) ?_
  refine lv_iconst (v := (-1)) hx hb dX7_demandWay_1 (by decide) ?_
  refine lv_icmp_ne (tgt := 16) hx hb dX7_demandWay_2 (by decide) (fun c1 => ?_) (fun c1 => ?_)
  · replace h := ite_f c1 h
    replace h := Option.some.inj h
    exact hret.1 _ _ _ _ _ _ (Nat.le_of_ble_eq_true rfl) (Nat.le_of_ble_eq_true rfl) dX7_demandWay_16 (by rw [← h]) hP hS
  · replace h := ite_t c1 h
    replace h := Option.some.inj h
    exact hret.2.2 _ _ _ _ _ _ _ 173 177 409 _ "the whale could not come there" (by rw [← h]; exact thrX7_173_177_4) (by decide +kernel) dX7_demandWay_5 dX7_demandWay_8 (Or.inr ⟨dX7_demandWay_9, dX7_demandWay_12, dX7_demandWay_15⟩) (Nat.le_of_ble_eq_true rfl) (Nat.le_of_ble_eq_true rfl) (Nat.le_of_ble_eq_true rfl) (Nat.le_of_ble_eq_true rfl) (hl.1.trans C.2.2.1.symm) (by rw [← h]; exact (Nat.le_of_ble_eq_true rfl)) hP hS

def fX7_steps (v_gw : Nat → Int32) (v_gk : Nat → Int32) (v_rs : Nat → Int32) (v_ro : Nat → Int32) (p0 : Int32) (p1 : Int32) : Option (Nat × Int32 × (Nat → Int32) × (Nat → Int32)) :=
  (fX7_demandWhale v_gk p0).bind fun q1 =>
  if q1 = 0 then
    (fX7_demandCell p1).bind fun q3 =>
    if q3 = 0 then
      (fX4_findBySpreading v_gw v_gk v_rs v_ro p0).bind fun q5 =>
      (fX4_spreadTo q5.1 p1).bind fun q7 =>
      (fX7_demandWay q7).bind fun q9 =>
      if q9 = 0 then
        some (0, q7, q5.1, q5.2)
      else
        some (q9, 0, q5.1, q5.2)
    else
      some (q3, 0, v_rs, v_ro)
  else
    some (q1, 0, v_rs, v_ro)
set_option maxHeartbeats 4000000 in
set_option maxRecDepth 100000 in
theorem kX7_steps (l : Launch) (hnt : l.stackTraces = false) (D : va_G) (T : Nat → ClassId) (a_g a_gw a_gk a_r a_rs a_rl a_ro a_x a_b a_v a_h a_f a_u a_t a_n : Nat) (x_sav : Int32) (x_err : Int32) (x_rea : Int32) (x_det : Int32) (x_com : Int32) (v_gw : Nat → Int32) (v_gk : Nat → Int32) (v_rs : Nat → Int32) (v_ro : Nat → Int32) (p0 : Int32) (p1 : Int32) (sz : Nat) (r : Nat × Int32 × (Nat → Int32) × (Nat → Int32)) (h : fX7_steps v_gw v_gk v_rs v_ro p0 p1 = some r) : ThI l yX7_steps cX7_steps 4 .int ({ frames := 7, cells := 3, slots := 18, locals := 111 } : Room) D T sz [(a_g, .inr (1, [.ref a_gw, .ref a_gk])), (a_r, .inr (4, [.ref a_g, .ref a_rs, .ref a_rl, .ref a_ro])), (a_x, .inr (7, [.ref a_g, .ref a_b, .ref a_v, .ref a_h, .ref a_r, .ref a_f, .ref a_u, .ref a_t, .ref a_n, .int x_sav, .int x_err, .int x_rea, .int x_det, .int x_com])), (a_gw, .inl (T 0, 90, .inl v_gw)), (a_gk, .inl (T 0, 18, .inl v_gk)), (a_rs, .inl (T 0, 45, .inl v_rs)), (a_ro, .inl (T 1, 45, .inl v_ro))] [(a_g, .inr (1, [.ref a_gw, .ref a_gk])), (a_r, .inr (4, [.ref a_g, .ref a_rs, .ref a_rl, .ref a_ro])), (a_x, .inr (7, [.ref a_g, .ref a_b, .ref a_v, .ref a_h, .ref a_r, .ref a_f, .ref a_u, .ref a_t, .ref a_n, .int x_sav, .int x_err, .int x_rea, .int x_det, .int x_com])), (a_gw, .inl (T 0, 90, .inl v_gw)), (a_gk, .inl (T 0, 18, .inl v_gk)), (a_rs, .inl (T 0, 45, .inl r.2.2.1)), (a_ro, .inl (T 1, 45, .inl r.2.2.2))] [.ref a_x, .int p0, .int p1] r.1 r.2.1 := by
  unfold fX7_steps at h
  refine thMetI hnt (by decide +kernel) rfl (fun p e s m args below meth c Q A C hE hA hZ hP hD hS hret ls hl => ?_)
  have hx := C.1
  have hb := C.2.1
  have hl : lv_has ls 4 [(0, .ref a_x), (1, .int p0), (2, .int p1)] := hl
  refine lv_aload_n hx hb dX7_steps_0 rfl (lv_at hl 0 rfl) ?_
  refine lv_iload_n hx hb dX7_steps_1 rfl (lv_at hl 1 rfl) ?_
  replace h := bnd h; obtain ⟨q1, e2, h⟩ := h
  refine thVv (ws1 := [(a_g, .inr (1, [.ref a_gw, .ref a_gk])), (a_r, .inr (4, [.ref a_g, .ref a_rs, .ref a_rl, .ref a_ro])), (a_x, .inr (7, [.ref a_g, .ref a_b, .ref a_v, .ref a_h, .ref a_r, .ref a_f, .ref a_u, .ref a_t, .ref a_n, .int x_sav, .int x_err, .int x_rea, .int x_det, .int x_com])), (a_gw, .inl (T 0, 90, .inl v_gw)), (a_gk, .inl (T 0, 18, .inl v_gk)), (a_rs, .inl (T 0, 45, .inl v_rs)), (a_ro, .inl (T 1, 45, .inl v_ro))]) C hE hZ hP hD hS hA (kX7_demandWhale l hZ.1 D T a_g a_gw a_gk a_x a_b a_v a_h a_r a_f a_u a_t a_n x_sav x_err x_rea x_det x_com v_gk p0 _ q1 e2) mX7_demandWhale qLX7_138 [0, 2, 4] [1, 3, 5, 6] 2 rfl rfl rfl rfl rfl rfl rfl rfl rfl ⟨Nat.le_of_ble_eq_true rfl, Nat.le_of_ble_eq_true rfl⟩ rfl hl.1 rfl (Nat.le_of_ble_eq_true rfl) dX7_steps_2 ⟨Nat.le_of_ble_eq_true rfl, Nat.le_of_ble_eq_true rfl⟩ ?_ ?_
  · clear hP hD hS; intro hx0 H locs ce q9 hP hD hS g1 g2 g3
    replace h := ite_f (Nat.ne_of_gt hx0) h
    replace h := Option.some.inj h
    exact hret.2.1 _ _ _ _ _ _ _ _ _ (Nat.le_of_ble_eq_true rfl) (Nat.le_of_ble_eq_true rfl) (by rw [← h]; exact hx0) (by rw [← h]; exact hP) hS g1 g2 (by rw [← h]; exact g3)
  · clear hP hD hS; intro hx0 H locs hP hD hS
    replace h := ite_t hx0 h
    refine lv_aload_n hx hb dX7_steps_5 rfl (lv_at hl 0 rfl) ?_
    refine lv_iload_n hx hb dX7_steps_6 rfl (lv_at hl 2 rfl) ?_
    replace h := bnd h; obtain ⟨q3, e4, h⟩ := h
    refine thVv (ws1 := [(a_g, .inr (1, [.ref a_gw, .ref a_gk])), (a_r, .inr (4, [.ref a_g, .ref a_rs, .ref a_rl, .ref a_ro])), (a_x, .inr (7, [.ref a_g, .ref a_b, .ref a_v, .ref a_h, .ref a_r, .ref a_f, .ref a_u, .ref a_t, .ref a_n, .int x_sav, .int x_err, .int x_rea, .int x_det, .int x_com])), (a_gw, .inl (T 0, 90, .inl v_gw)), (a_gk, .inl (T 0, 18, .inl v_gk)), (a_rs, .inl (T 0, 45, .inl v_rs)), (a_ro, .inl (T 1, 45, .inl v_ro))]) C hE hZ hP hD hS hA (kX7_demandCell l hZ.1 D T a_x p1 _ q3 e4) mX7_demandCell qLX7_151 [] [0, 1, 2, 3, 4, 5, 6] 2 rfl rfl rfl rfl rfl rfl rfl rfl rfl ⟨Nat.le_of_ble_eq_true rfl, Nat.le_of_ble_eq_true rfl⟩ rfl hl.1 rfl (Nat.le_of_ble_eq_true rfl) dX7_steps_7 ⟨Nat.le_of_ble_eq_true rfl, Nat.le_of_ble_eq_true rfl⟩ ?_ ?_
    · clear hP hD hS; intro hx0 H locs ce q9 hP hD hS g1 g2 g3
      replace h := ite_f (Nat.ne_of_gt hx0) h
      replace h := Option.some.inj h
      exact hret.2.1 _ _ _ _ _ _ _ _ _ (Nat.le_of_ble_eq_true rfl) (Nat.le_of_ble_eq_true rfl) (by rw [← h]; exact hx0) (by rw [← h]; exact hP) hS g1 g2 (by rw [← h]; exact g3)
    · clear hP hD hS; intro hx0 H locs hP hD hS
      replace h := ite_t hx0 h
      refine lv_aload_n hx hb dX7_steps_10 rfl (lv_at hl 0 rfl) ?_
      refine getF (q0 := 2) (k0 := 4) (v := .ref a_r) C hE hP inA7 rfl rfl (by decide) qFX7_34 rfl rfl dX7_steps_11 ?_
      refine lv_iload_n hx hb dX7_steps_14 rfl (lv_at hl 1 rfl) ?_
      replace h := bnd h; obtain ⟨q5, e6, h⟩ := h
      refine wrVv (ws1 := [(a_g, .inr (1, [.ref a_gw, .ref a_gk])), (a_r, .inr (4, [.ref a_g, .ref a_rs, .ref a_rl, .ref a_ro])), (a_x, .inr (7, [.ref a_g, .ref a_b, .ref a_v, .ref a_h, .ref a_r, .ref a_f, .ref a_u, .ref a_t, .ref a_n, .int x_sav, .int x_err, .int x_rea, .int x_det, .int x_com])), (a_gw, .inl (T 0, 90, .inl v_gw)), (a_gk, .inl (T 0, 18, .inl v_gk)), (a_rs, .inl (T 0, 45, .inl q5.1)), (a_ro, .inl (T 1, 45, .inl q5.2))]) C hE hP hD hS hA (kX4_findBySpreading l D T a_g a_gw a_gk a_r a_rs a_rl a_ro v_gw v_gk v_rs v_ro p0 _ q5 e6) mX4_findBySpreading qLX7_181 [0, 1, 3, 4, 5, 6] [2] 1 rfl rfl rfl rfl rfl rfl rfl rfl rfl ⟨rfl, rfl⟩ ⟨Nat.le_of_ble_eq_true rfl, Nat.le_of_ble_eq_true rfl⟩ rfl hl.1 rfl (Nat.le_of_ble_eq_true rfl) dX7_steps_15 ⟨Nat.le_of_ble_eq_true rfl, Nat.le_of_ble_eq_true rfl⟩ ?_; clear hP hD hS; intro H locs hP hD hS
      refine lv_aload_n hx hb dX7_steps_18 rfl (lv_at hl 0 rfl) ?_
      refine getF (q0 := 2) (k0 := 4) (v := .ref a_r) C hE hP inA7 rfl rfl (by decide) qFX7_34 rfl rfl dX7_steps_19 ?_
      refine lv_iload_n hx hb dX7_steps_22 rfl (lv_at hl 2 rfl) ?_
      replace h := bnd h; obtain ⟨q7, e8, h⟩ := h
      refine rdV C hE hP (kX4_spreadTo l D T a_r a_g a_rs a_rl a_ro q5.1 p1 q7 e8) mX4_spreadTo qLX7_184 [1, 5] 1 rfl rfl rfl rfl ⟨rfl, rfl⟩ ⟨Nat.le_of_ble_eq_true rfl, Nat.le_of_ble_eq_true rfl⟩ rfl hl.1 rfl (Nat.le_of_ble_eq_true rfl) dX7_steps_23 ⟨Nat.le_of_ble_eq_true rfl, Nat.le_of_ble_eq_true rfl⟩ ?_
      refine lv_istore_n (lv' := [(3, .int q7), (0, .ref a_x), (1, .int p0), (2, .int p1)]) hx hb dX7_steps_26 rfl hl (by decide) rfl (fun ls hl => ?_)
      refine lv_aload_n hx hb dX7_steps_27 rfl (lv_at hl 1 rfl) ?_
      refine lv_iload_n hx hb dX7_steps_28 rfl (lv_at hl 0 rfl) ?_
      replace h := bnd h; obtain ⟨q9, e10, h⟩ := h
      refine thVv (ws1 := [(a_g, .inr (1, [.ref a_gw, .ref a_gk])), (a_r, .inr (4, [.ref a_g, .ref a_rs, .ref a_rl, .ref a_ro])), (a_x, .inr (7, [.ref a_g, .ref a_b, .ref a_v, .ref a_h, .ref a_r, .ref a_f, .ref a_u, .ref a_t, .ref a_n, .int x_sav, .int x_err, .int x_rea, .int x_det, .int x_com])), (a_gw, .inl (T 0, 90, .inl v_gw)), (a_gk, .inl (T 0, 18, .inl v_gk)), (a_rs, .inl (T 0, 45, .inl q5.1)), (a_ro, .inl (T 1, 45, .inl q5.2))]) C hE hZ hP hD hS hA (kX7_demandWay l hZ.1 D T a_x q7 _ q9 e10) mX7_demandWay qLX7_187 [] [0, 1, 2, 3, 4, 5, 6] 2 rfl rfl rfl rfl rfl rfl rfl rfl rfl ⟨Nat.le_of_ble_eq_true rfl, Nat.le_of_ble_eq_true rfl⟩ rfl hl.1 rfl (Nat.le_of_ble_eq_true rfl) dX7_steps_29 ⟨Nat.le_of_ble_eq_true rfl, Nat.le_of_ble_eq_true rfl⟩ ?_ ?_
      · clear hP hD hS; intro hx0 H locs ce q9 hP hD hS g1 g2 g3
        replace h := ite_f (Nat.ne_of_gt hx0) h
        replace h := Option.some.inj h
        exact hret.2.1 _ _ _ _ _ _ _ _ _ (Nat.le_of_ble_eq_true rfl) (Nat.le_of_ble_eq_true rfl) (by rw [← h]; exact hx0) (by rw [← h]; exact hP) hS g1 g2 (by rw [← h]; exact g3)
      · clear hP hD hS; intro hx0 H locs hP hD hS
        replace h := ite_t hx0 h
        refine lv_iload_n hx hb dX7_steps_32 rfl (lv_at hl 0 rfl) ?_
        replace h := Option.some.inj h
        exact hret.1 _ _ _ _ _ _ _ _ (Nat.le_of_ble_eq_true rfl) (Nat.le_of_ble_eq_true rfl) dX7_steps_33 rfl (by rw [← h]) (by rw [← h] <;> rfl) (by rw [← h]; exact hP) hS

def fX7_stepsAgain (v_gw : Nat → Int32) (v_gk : Nat → Int32) (v_rl : Nat → Int32) (v_ro : Nat → Int32) (p0 : Int32) (p1 : Int32) : Option (Nat × Int32 × (Nat → Int32) × (Nat → Int32)) :=
  (fX7_demandWhale v_gk p0).bind fun q1 =>
  if q1 = 0 then
    (fX7_demandCell p1).bind fun q3 =>
    if q3 = 0 then
      (fX4_findByLowering v_gw v_gk v_rl v_ro p0).bind fun q5 =>
      (fX4_loweredTo q5.1 p1).bind fun q7 =>
      (fX7_demandWay q7).bind fun q9 =>
      if q9 = 0 then
        some (0, q7, q5.1, q5.2)
      else
        some (q9, 0, q5.1, q5.2)
    else
      some (q3, 0, v_rl, v_ro)
  else
    some (q1, 0, v_rl, v_ro)
set_option maxHeartbeats 4000000 in
set_option maxRecDepth 100000 in
theorem kX7_stepsAgain (l : Launch) (hnt : l.stackTraces = false) (D : va_G) (T : Nat → ClassId) (a_g a_gw a_gk a_r a_rs a_rl a_ro a_x a_b a_v a_h a_f a_u a_t a_n : Nat) (x_sav : Int32) (x_err : Int32) (x_rea : Int32) (x_det : Int32) (x_com : Int32) (v_gw : Nat → Int32) (v_gk : Nat → Int32) (v_rl : Nat → Int32) (v_ro : Nat → Int32) (p0 : Int32) (p1 : Int32) (sz : Nat) (r : Nat × Int32 × (Nat → Int32) × (Nat → Int32)) (h : fX7_stepsAgain v_gw v_gk v_rl v_ro p0 p1 = some r) : ThI l yX7_stepsAgain cX7_stepsAgain 4 .int ({ frames := 7, cells := 3, slots := 18, locals := 111 } : Room) D T sz [(a_g, .inr (1, [.ref a_gw, .ref a_gk])), (a_r, .inr (4, [.ref a_g, .ref a_rs, .ref a_rl, .ref a_ro])), (a_x, .inr (7, [.ref a_g, .ref a_b, .ref a_v, .ref a_h, .ref a_r, .ref a_f, .ref a_u, .ref a_t, .ref a_n, .int x_sav, .int x_err, .int x_rea, .int x_det, .int x_com])), (a_gw, .inl (T 0, 90, .inl v_gw)), (a_gk, .inl (T 0, 18, .inl v_gk)), (a_rl, .inl (T 0, 45, .inl v_rl)), (a_ro, .inl (T 1, 45, .inl v_ro))] [(a_g, .inr (1, [.ref a_gw, .ref a_gk])), (a_r, .inr (4, [.ref a_g, .ref a_rs, .ref a_rl, .ref a_ro])), (a_x, .inr (7, [.ref a_g, .ref a_b, .ref a_v, .ref a_h, .ref a_r, .ref a_f, .ref a_u, .ref a_t, .ref a_n, .int x_sav, .int x_err, .int x_rea, .int x_det, .int x_com])), (a_gw, .inl (T 0, 90, .inl v_gw)), (a_gk, .inl (T 0, 18, .inl v_gk)), (a_rl, .inl (T 0, 45, .inl r.2.2.1)), (a_ro, .inl (T 1, 45, .inl r.2.2.2))] [.ref a_x, .int p0, .int p1] r.1 r.2.1 := by
  unfold fX7_stepsAgain at h
  refine thMetI hnt (by decide +kernel) rfl (fun p e s m args below meth c Q A C hE hA hZ hP hD hS hret ls hl => ?_)
  have hx := C.1
  have hb := C.2.1
  have hl : lv_has ls 4 [(0, .ref a_x), (1, .int p0), (2, .int p1)] := hl
  refine lv_aload_n hx hb dX7_stepsAgain_0 rfl (lv_at hl 0 rfl) ?_
  refine lv_iload_n hx hb dX7_stepsAgain_1 rfl (lv_at hl 1 rfl) ?_
  replace h := bnd h; obtain ⟨q1, e2, h⟩ := h
  refine thVv (ws1 := [(a_g, .inr (1, [.ref a_gw, .ref a_gk])), (a_r, .inr (4, [.ref a_g, .ref a_rs, .ref a_rl, .ref a_ro])), (a_x, .inr (7, [.ref a_g, .ref a_b, .ref a_v, .ref a_h, .ref a_r, .ref a_f, .ref a_u, .ref a_t, .ref a_n, .int x_sav, .int x_err, .int x_rea, .int x_det, .int x_com])), (a_gw, .inl (T 0, 90, .inl v_gw)), (a_gk, .inl (T 0, 18, .inl v_gk)), (a_rl, .inl (T 0, 45, .inl v_rl)), (a_ro, .inl (T 1, 45, .inl v_ro))]) C hE hZ hP hD hS hA (kX7_demandWhale l hZ.1 D T a_g a_gw a_gk a_x a_b a_v a_h a_r a_f a_u a_t a_n x_sav x_err x_rea x_det x_com v_gk p0 _ q1 e2) mX7_demandWhale qLX7_138 [0, 2, 4] [1, 3, 5, 6] 2 rfl rfl rfl rfl rfl rfl rfl rfl rfl ⟨Nat.le_of_ble_eq_true rfl, Nat.le_of_ble_eq_true rfl⟩ rfl hl.1 rfl (Nat.le_of_ble_eq_true rfl) dX7_stepsAgain_2 ⟨Nat.le_of_ble_eq_true rfl, Nat.le_of_ble_eq_true rfl⟩ ?_ ?_
  · clear hP hD hS; intro hx0 H locs ce q9 hP hD hS g1 g2 g3
    replace h := ite_f (Nat.ne_of_gt hx0) h
    replace h := Option.some.inj h
    exact hret.2.1 _ _ _ _ _ _ _ _ _ (Nat.le_of_ble_eq_true rfl) (Nat.le_of_ble_eq_true rfl) (by rw [← h]; exact hx0) (by rw [← h]; exact hP) hS g1 g2 (by rw [← h]; exact g3)
  · clear hP hD hS; intro hx0 H locs hP hD hS
    replace h := ite_t hx0 h
    refine lv_aload_n hx hb dX7_stepsAgain_5 rfl (lv_at hl 0 rfl) ?_
    refine lv_iload_n hx hb dX7_stepsAgain_6 rfl (lv_at hl 2 rfl) ?_
    replace h := bnd h; obtain ⟨q3, e4, h⟩ := h
    refine thVv (ws1 := [(a_g, .inr (1, [.ref a_gw, .ref a_gk])), (a_r, .inr (4, [.ref a_g, .ref a_rs, .ref a_rl, .ref a_ro])), (a_x, .inr (7, [.ref a_g, .ref a_b, .ref a_v, .ref a_h, .ref a_r, .ref a_f, .ref a_u, .ref a_t, .ref a_n, .int x_sav, .int x_err, .int x_rea, .int x_det, .int x_com])), (a_gw, .inl (T 0, 90, .inl v_gw)), (a_gk, .inl (T 0, 18, .inl v_gk)), (a_rl, .inl (T 0, 45, .inl v_rl)), (a_ro, .inl (T 1, 45, .inl v_ro))]) C hE hZ hP hD hS hA (kX7_demandCell l hZ.1 D T a_x p1 _ q3 e4) mX7_demandCell qLX7_151 [] [0, 1, 2, 3, 4, 5, 6] 2 rfl rfl rfl rfl rfl rfl rfl rfl rfl ⟨Nat.le_of_ble_eq_true rfl, Nat.le_of_ble_eq_true rfl⟩ rfl hl.1 rfl (Nat.le_of_ble_eq_true rfl) dX7_stepsAgain_7 ⟨Nat.le_of_ble_eq_true rfl, Nat.le_of_ble_eq_true rfl⟩ ?_ ?_
    · clear hP hD hS; intro hx0 H locs ce q9 hP hD hS g1 g2 g3
      replace h := ite_f (Nat.ne_of_gt hx0) h
      replace h := Option.some.inj h
      exact hret.2.1 _ _ _ _ _ _ _ _ _ (Nat.le_of_ble_eq_true rfl) (Nat.le_of_ble_eq_true rfl) (by rw [← h]; exact hx0) (by rw [← h]; exact hP) hS g1 g2 (by rw [← h]; exact g3)
    · clear hP hD hS; intro hx0 H locs hP hD hS
      replace h := ite_t hx0 h
      refine lv_aload_n hx hb dX7_stepsAgain_10 rfl (lv_at hl 0 rfl) ?_
      refine getF (q0 := 2) (k0 := 4) (v := .ref a_r) C hE hP inA7 rfl rfl (by decide) qFX7_34 rfl rfl dX7_stepsAgain_11 ?_
      refine lv_iload_n hx hb dX7_stepsAgain_14 rfl (lv_at hl 1 rfl) ?_
      replace h := bnd h; obtain ⟨q5, e6, h⟩ := h
      refine wrVv (ws1 := [(a_g, .inr (1, [.ref a_gw, .ref a_gk])), (a_r, .inr (4, [.ref a_g, .ref a_rs, .ref a_rl, .ref a_ro])), (a_x, .inr (7, [.ref a_g, .ref a_b, .ref a_v, .ref a_h, .ref a_r, .ref a_f, .ref a_u, .ref a_t, .ref a_n, .int x_sav, .int x_err, .int x_rea, .int x_det, .int x_com])), (a_gw, .inl (T 0, 90, .inl v_gw)), (a_gk, .inl (T 0, 18, .inl v_gk)), (a_rl, .inl (T 0, 45, .inl q5.1)), (a_ro, .inl (T 1, 45, .inl q5.2))]) C hE hP hD hS hA (kX4_findByLowering l D T a_g a_gw a_gk a_r a_rs a_rl a_ro v_gw v_gk v_rl v_ro p0 _ q5 e6) mX4_findByLowering qLX7_190 [0, 1, 3, 4, 5, 6] [2] 1 rfl rfl rfl rfl rfl rfl rfl rfl rfl ⟨rfl, rfl⟩ ⟨Nat.le_of_ble_eq_true rfl, Nat.le_of_ble_eq_true rfl⟩ rfl hl.1 rfl (Nat.le_of_ble_eq_true rfl) dX7_stepsAgain_15 ⟨Nat.le_of_ble_eq_true rfl, Nat.le_of_ble_eq_true rfl⟩ ?_; clear hP hD hS; intro H locs hP hD hS
      refine lv_aload_n hx hb dX7_stepsAgain_18 rfl (lv_at hl 0 rfl) ?_
      refine getF (q0 := 2) (k0 := 4) (v := .ref a_r) C hE hP inA7 rfl rfl (by decide) qFX7_34 rfl rfl dX7_stepsAgain_19 ?_
      refine lv_iload_n hx hb dX7_stepsAgain_22 rfl (lv_at hl 2 rfl) ?_
      replace h := bnd h; obtain ⟨q7, e8, h⟩ := h
      refine rdV C hE hP (kX4_loweredTo l D T a_r a_g a_rs a_rl a_ro q5.1 p1 q7 e8) mX4_loweredTo qLX7_193 [1, 5] 1 rfl rfl rfl rfl ⟨rfl, rfl⟩ ⟨Nat.le_of_ble_eq_true rfl, Nat.le_of_ble_eq_true rfl⟩ rfl hl.1 rfl (Nat.le_of_ble_eq_true rfl) dX7_stepsAgain_23 ⟨Nat.le_of_ble_eq_true rfl, Nat.le_of_ble_eq_true rfl⟩ ?_
      refine lv_istore_n (lv' := [(3, .int q7), (0, .ref a_x), (1, .int p0), (2, .int p1)]) hx hb dX7_stepsAgain_26 rfl hl (by decide) rfl (fun ls hl => ?_)
      refine lv_aload_n hx hb dX7_stepsAgain_27 rfl (lv_at hl 1 rfl) ?_
      refine lv_iload_n hx hb dX7_stepsAgain_28 rfl (lv_at hl 0 rfl) ?_
      replace h := bnd h; obtain ⟨q9, e10, h⟩ := h
      refine thVv (ws1 := [(a_g, .inr (1, [.ref a_gw, .ref a_gk])), (a_r, .inr (4, [.ref a_g, .ref a_rs, .ref a_rl, .ref a_ro])), (a_x, .inr (7, [.ref a_g, .ref a_b, .ref a_v, .ref a_h, .ref a_r, .ref a_f, .ref a_u, .ref a_t, .ref a_n, .int x_sav, .int x_err, .int x_rea, .int x_det, .int x_com])), (a_gw, .inl (T 0, 90, .inl v_gw)), (a_gk, .inl (T 0, 18, .inl v_gk)), (a_rl, .inl (T 0, 45, .inl q5.1)), (a_ro, .inl (T 1, 45, .inl q5.2))]) C hE hZ hP hD hS hA (kX7_demandWay l hZ.1 D T a_x q7 _ q9 e10) mX7_demandWay qLX7_187 [] [0, 1, 2, 3, 4, 5, 6] 2 rfl rfl rfl rfl rfl rfl rfl rfl rfl ⟨Nat.le_of_ble_eq_true rfl, Nat.le_of_ble_eq_true rfl⟩ rfl hl.1 rfl (Nat.le_of_ble_eq_true rfl) dX7_stepsAgain_29 ⟨Nat.le_of_ble_eq_true rfl, Nat.le_of_ble_eq_true rfl⟩ ?_ ?_
      · clear hP hD hS; intro hx0 H locs ce q9 hP hD hS g1 g2 g3
        replace h := ite_f (Nat.ne_of_gt hx0) h
        replace h := Option.some.inj h
        exact hret.2.1 _ _ _ _ _ _ _ _ _ (Nat.le_of_ble_eq_true rfl) (Nat.le_of_ble_eq_true rfl) (by rw [← h]; exact hx0) (by rw [← h]; exact hP) hS g1 g2 (by rw [← h]; exact g3)
      · clear hP hD hS; intro hx0 H locs hP hD hS
        replace h := ite_t hx0 h
        refine lv_iload_n hx hb dX7_stepsAgain_32 rfl (lv_at hl 0 rfl) ?_
        replace h := Option.some.inj h
        exact hret.1 _ _ _ _ _ _ _ _ (Nat.le_of_ble_eq_true rfl) (Nat.le_of_ble_eq_true rfl) dX7_stepsAgain_33 rfl (by rw [← h]) (by rw [← h] <;> rfl) (by rw [← h]; exact hP) hS

def fX7_reach (v_gw : Nat → Int32) (v_gk : Nat → Int32) (v_rs : Nat → Int32) (v_ro : Nat → Int32) (p0 : Int32) : Option (Nat × Int32 × (Nat → Int32) × (Nat → Int32)) :=
  (fX7_demandWhale v_gk p0).bind fun q1 =>
  if q1 = 0 then
    (fX1_isOver v_gk).bind fun q3 =>
    if q3 = 0 then
      (fX1_isPlaying v_gw p0).bind fun q6 =>
      if q6 = 0 then
        some (0, 0, v_rs, v_ro)
      else
        (fX1_isStranded v_gw v_gk p0).bind fun q9 =>
        if q9 = 0 then
          (fX4_findBySpreading v_gw v_gk v_rs v_ro p0).bind fun q12 =>
          (fX1_of v_gw p0 2).bind fun q14 =>
          (fX1_of v_gw p0 3).bind fun q16 =>
          (fX4_countWithin q12.1 (if q16 < q14 then q16 else q14)).bind fun q18 =>
          some (0, q18, q12.1, q12.2)
        else
          some (0, 0, v_rs, v_ro)
    else
      some (0, 0, v_rs, v_ro)
  else
    some (q1, 0, v_rs, v_ro)
set_option maxHeartbeats 4000000 in
set_option maxRecDepth 100000 in
theorem kX7_reach (l : Launch) (hnt : l.stackTraces = false) (D : va_G) (T : Nat → ClassId) (a_g a_gw a_gk a_r a_rs a_rl a_ro a_x a_b a_v a_h a_f a_u a_t a_n : Nat) (x_sav : Int32) (x_err : Int32) (x_rea : Int32) (x_det : Int32) (x_com : Int32) (v_gw : Nat → Int32) (v_gk : Nat → Int32) (v_rs : Nat → Int32) (v_ro : Nat → Int32) (p0 : Int32) (sz : Nat) (r : Nat × Int32 × (Nat → Int32) × (Nat → Int32)) (h : fX7_reach v_gw v_gk v_rs v_ro p0 = some r) : ThI l yX7_reach cX7_reach 2 .int ({ frames := 7, cells := 1, slots := 6, locals := 111 } : Room) D T sz [(a_g, .inr (1, [.ref a_gw, .ref a_gk])), (a_r, .inr (4, [.ref a_g, .ref a_rs, .ref a_rl, .ref a_ro])), (a_x, .inr (7, [.ref a_g, .ref a_b, .ref a_v, .ref a_h, .ref a_r, .ref a_f, .ref a_u, .ref a_t, .ref a_n, .int x_sav, .int x_err, .int x_rea, .int x_det, .int x_com])), (a_gw, .inl (T 0, 90, .inl v_gw)), (a_gk, .inl (T 0, 18, .inl v_gk)), (a_rs, .inl (T 0, 45, .inl v_rs)), (a_ro, .inl (T 1, 45, .inl v_ro))] [(a_g, .inr (1, [.ref a_gw, .ref a_gk])), (a_r, .inr (4, [.ref a_g, .ref a_rs, .ref a_rl, .ref a_ro])), (a_x, .inr (7, [.ref a_g, .ref a_b, .ref a_v, .ref a_h, .ref a_r, .ref a_f, .ref a_u, .ref a_t, .ref a_n, .int x_sav, .int x_err, .int x_rea, .int x_det, .int x_com])), (a_gw, .inl (T 0, 90, .inl v_gw)), (a_gk, .inl (T 0, 18, .inl v_gk)), (a_rs, .inl (T 0, 45, .inl r.2.2.1)), (a_ro, .inl (T 1, 45, .inl r.2.2.2))] [.ref a_x, .int p0] r.1 r.2.1 := by
  unfold fX7_reach at h
  refine thMetI hnt (by decide +kernel) rfl (fun p e s m args below meth c Q A C hE hA hZ hP hD hS hret ls hl => ?_)
  have hx := C.1
  have hb := C.2.1
  have hl : lv_has ls 2 [(0, .ref a_x), (1, .int p0)] := hl
  refine lv_aload_n hx hb dX7_reach_0 rfl (lv_at hl 0 rfl) ?_
  refine lv_iload_n hx hb dX7_reach_1 rfl (lv_at hl 1 rfl) ?_
  replace h := bnd h; obtain ⟨q1, e2, h⟩ := h
  refine thVv (ws1 := [(a_g, .inr (1, [.ref a_gw, .ref a_gk])), (a_r, .inr (4, [.ref a_g, .ref a_rs, .ref a_rl, .ref a_ro])), (a_x, .inr (7, [.ref a_g, .ref a_b, .ref a_v, .ref a_h, .ref a_r, .ref a_f, .ref a_u, .ref a_t, .ref a_n, .int x_sav, .int x_err, .int x_rea, .int x_det, .int x_com])), (a_gw, .inl (T 0, 90, .inl v_gw)), (a_gk, .inl (T 0, 18, .inl v_gk)), (a_rs, .inl (T 0, 45, .inl v_rs)), (a_ro, .inl (T 1, 45, .inl v_ro))]) C hE hZ hP hD hS hA (kX7_demandWhale l hZ.1 D T a_g a_gw a_gk a_x a_b a_v a_h a_r a_f a_u a_t a_n x_sav x_err x_rea x_det x_com v_gk p0 _ q1 e2) mX7_demandWhale qLX7_138 [0, 2, 4] [1, 3, 5, 6] 2 rfl rfl rfl rfl rfl rfl rfl rfl rfl ⟨Nat.le_of_ble_eq_true rfl, Nat.le_of_ble_eq_true rfl⟩ rfl hl.1 rfl (Nat.le_of_ble_eq_true rfl) dX7_reach_2 ⟨Nat.le_of_ble_eq_true rfl, Nat.le_of_ble_eq_true rfl⟩ ?_ ?_
  · clear hP hD hS; intro hx0 H locs ce q9 hP hD hS g1 g2 g3
    replace h := ite_f (Nat.ne_of_gt hx0) h
    replace h := Option.some.inj h
    exact hret.2.1 _ _ _ _ _ _ _ _ _ (Nat.le_of_ble_eq_true rfl) (Nat.le_of_ble_eq_true rfl) (by rw [← h]; exact hx0) (by rw [← h]; exact hP) hS g1 g2 (by rw [← h]; exact g3)
  · clear hP hD hS; intro hx0 H locs hP hD hS
    replace h := ite_t hx0 h
    refine lv_aload_n hx hb dX7_reach_5 rfl (lv_at hl 0 rfl) ?_
    refine getF (q0 := 2) (k0 := 0) (v := .ref a_g) C hE hP inA7 rfl rfl (by decide) qFX7_10 rfl rfl dX7_reach_6 ?_
    replace h := bnd h; obtain ⟨q3, e4, h⟩ := h
    refine rdV C hE hP (kX1_isOver l D T a_g a_gw a_gk v_gk q3 e4) mX1_isOver qLX7_196 [0, 4] 0 rfl rfl rfl rfl ⟨rfl, rfl⟩ ⟨Nat.le_of_ble_eq_true rfl, Nat.le_of_ble_eq_true rfl⟩ rfl hl.1 rfl (Nat.le_of_ble_eq_true rfl) dX7_reach_9 ⟨Nat.le_of_ble_eq_true rfl, Nat.le_of_ble_eq_true rfl⟩ ?_
    refine lv_if_ne (tgt := 37) hx hb dX7_reach_12 (by decide) (fun c5 => ?_) (fun c5 => ?_)
    · replace h := ite_f c5 h
      refine lv_iconst (v := 0) hx hb dX7_reach_37 (by decide) ?_
      replace h := Option.some.inj h
      exact hret.1 _ _ _ _ _ _ _ _ (Nat.le_of_ble_eq_true rfl) (Nat.le_of_ble_eq_true rfl) dX7_reach_38 rfl (by rw [← h]) (by rw [← h] <;> rfl) (by rw [← h]; exact hP) hS
    · replace h := ite_t c5 h
      refine lv_aload_n hx hb dX7_reach_15 rfl (lv_at hl 0 rfl) ?_
      refine getF (q0 := 2) (k0 := 0) (v := .ref a_g) C hE hP inA7 rfl rfl (by decide) qFX7_10 rfl rfl dX7_reach_16 ?_
      refine lv_iload_n hx hb dX7_reach_19 rfl (lv_at hl 1 rfl) ?_
      replace h := bnd h; obtain ⟨q6, e7, h⟩ := h
      refine rdV C hE hP (kX1_isPlaying l D T a_g a_gw a_gk v_gw p0 q6 e7) mX1_isPlaying qLX7_200 [0, 3] 0 rfl rfl rfl rfl ⟨rfl, rfl⟩ ⟨Nat.le_of_ble_eq_true rfl, Nat.le_of_ble_eq_true rfl⟩ rfl hl.1 rfl (Nat.le_of_ble_eq_true rfl) dX7_reach_20 ⟨Nat.le_of_ble_eq_true rfl, Nat.le_of_ble_eq_true rfl⟩ ?_
      refine lv_if_eq (tgt := 37) hx hb dX7_reach_23 (by decide) (fun c8 => ?_) (fun c8 => ?_)
      · replace h := ite_t c8 h
        refine lv_iconst (v := 0) hx hb dX7_reach_37 (by decide) ?_
        replace h := Option.some.inj h
        exact hret.1 _ _ _ _ _ _ _ _ (Nat.le_of_ble_eq_true rfl) (Nat.le_of_ble_eq_true rfl) dX7_reach_38 rfl (by rw [← h]) (by rw [← h] <;> rfl) (by rw [← h]; exact hP) hS
      · replace h := ite_f c8 h
        refine lv_aload_n hx hb dX7_reach_26 rfl (lv_at hl 0 rfl) ?_
        refine getF (q0 := 2) (k0 := 0) (v := .ref a_g) C hE hP inA7 rfl rfl (by decide) qFX7_10 rfl rfl dX7_reach_27 ?_
        refine lv_iload_n hx hb dX7_reach_30 rfl (lv_at hl 1 rfl) ?_
        replace h := bnd h; obtain ⟨q9, e10, h⟩ := h
        refine rdV C hE hP (kX1_isStranded l D T a_g a_gw a_gk v_gw v_gk p0 q9 e10) mX1_isStranded qLX7_203 [0, 3, 4] 0 rfl rfl rfl rfl ⟨rfl, rfl⟩ ⟨Nat.le_of_ble_eq_true rfl, Nat.le_of_ble_eq_true rfl⟩ rfl hl.1 rfl (Nat.le_of_ble_eq_true rfl) dX7_reach_31 ⟨Nat.le_of_ble_eq_true rfl, Nat.le_of_ble_eq_true rfl⟩ ?_
        refine lv_if_eq (tgt := 39) hx hb dX7_reach_34 (by decide) (fun c11 => ?_) (fun c11 => ?_)
        · replace h := ite_t c11 h
          refine lv_aload_n hx hb dX7_reach_39 rfl (lv_at hl 0 rfl) ?_
          refine getF (q0 := 2) (k0 := 4) (v := .ref a_r) C hE hP inA7 rfl rfl (by decide) qFX7_34 rfl rfl dX7_reach_40 ?_
          refine lv_iload_n hx hb dX7_reach_43 rfl (lv_at hl 1 rfl) ?_
          replace h := bnd h; obtain ⟨q12, e13, h⟩ := h
          refine wrVv (ws1 := [(a_g, .inr (1, [.ref a_gw, .ref a_gk])), (a_r, .inr (4, [.ref a_g, .ref a_rs, .ref a_rl, .ref a_ro])), (a_x, .inr (7, [.ref a_g, .ref a_b, .ref a_v, .ref a_h, .ref a_r, .ref a_f, .ref a_u, .ref a_t, .ref a_n, .int x_sav, .int x_err, .int x_rea, .int x_det, .int x_com])), (a_gw, .inl (T 0, 90, .inl v_gw)), (a_gk, .inl (T 0, 18, .inl v_gk)), (a_rs, .inl (T 0, 45, .inl q12.1)), (a_ro, .inl (T 1, 45, .inl q12.2))]) C hE hP hD hS hA (kX4_findBySpreading l D T a_g a_gw a_gk a_r a_rs a_rl a_ro v_gw v_gk v_rs v_ro p0 _ q12 e13) mX4_findBySpreading qLX7_181 [0, 1, 3, 4, 5, 6] [2] 1 rfl rfl rfl rfl rfl rfl rfl rfl rfl ⟨rfl, rfl⟩ ⟨Nat.le_of_ble_eq_true rfl, Nat.le_of_ble_eq_true rfl⟩ rfl hl.1 rfl (Nat.le_of_ble_eq_true rfl) dX7_reach_44 ⟨Nat.le_of_ble_eq_true rfl, Nat.le_of_ble_eq_true rfl⟩ ?_; clear hP hD hS; intro H locs hP hD hS
          refine lv_aload_n hx hb dX7_reach_47 rfl (lv_at hl 0 rfl) ?_
          refine getF (q0 := 2) (k0 := 4) (v := .ref a_r) C hE hP inA7 rfl rfl (by decide) qFX7_34 rfl rfl dX7_reach_48 ?_
          refine lv_aload_n hx hb dX7_reach_51 rfl (lv_at hl 0 rfl) ?_
          refine getF (q0 := 2) (k0 := 0) (v := .ref a_g) C hE hP inA7 rfl rfl (by decide) qFX7_10 rfl rfl dX7_reach_52 ?_
          refine lv_iload_n hx hb dX7_reach_55 rfl (lv_at hl 1 rfl) ?_
          refine lv_iconst (v := 2) hx hb dX7_reach_56 (by decide) ?_
          replace h := bnd h; obtain ⟨q14, e15, h⟩ := h
          refine rdV C hE hP (kX1_of l D T a_g a_gw a_gk v_gw p0 2 q14 e15) mX1_of qLX7_148 [0, 3] 0 rfl rfl rfl rfl ⟨rfl, rfl⟩ ⟨Nat.le_of_ble_eq_true rfl, Nat.le_of_ble_eq_true rfl⟩ rfl hl.1 rfl (Nat.le_of_ble_eq_true rfl) dX7_reach_57 ⟨Nat.le_of_ble_eq_true rfl, Nat.le_of_ble_eq_true rfl⟩ ?_
          refine lv_aload_n hx hb dX7_reach_60 rfl (lv_at hl 0 rfl) ?_
          refine getF (q0 := 2) (k0 := 0) (v := .ref a_g) C hE hP inA7 rfl rfl (by decide) qFX7_10 rfl rfl dX7_reach_61 ?_
          refine lv_iload_n hx hb dX7_reach_64 rfl (lv_at hl 1 rfl) ?_
          refine lv_iconst (v := 3) hx hb dX7_reach_65 (by decide) ?_
          replace h := bnd h; obtain ⟨q16, e17, h⟩ := h
          refine rdV C hE hP (kX1_of l D T a_g a_gw a_gk v_gw p0 3 q16 e17) mX1_of qLX7_148 [0, 3] 0 rfl rfl rfl rfl ⟨rfl, rfl⟩ ⟨Nat.le_of_ble_eq_true rfl, Nat.le_of_ble_eq_true rfl⟩ rfl hl.1 rfl (Nat.le_of_ble_eq_true rfl) dX7_reach_66 ⟨Nat.le_of_ble_eq_true rfl, Nat.le_of_ble_eq_true rfl⟩ ?_
          refine va_mmin hx hb (C.2.2.1.trans hl.1.symm) C.2.2.2.1 (C.2.2.2.2 _ qLX7_206) (C.2.2.2.2 _ qMs_min) (C.2.2.2.2 _ qMi) (C.2.2.2.2 _ qMc_min) (Nat.le_of_ble_eq_true rfl) (Nat.le_of_ble_eq_true rfl) (Nat.le_of_ble_eq_true rfl) (Nat.le_of_ble_eq_true rfl) dX7_reach_69 ?_
          replace h := bnd h; obtain ⟨q18, e19, h⟩ := h
          refine rdV C hE hP (kX4_countWithin l D T a_r a_g a_rs a_rl a_ro q12.1 (if q16 < q14 then q16 else q14) q18 e19) mX4_countWithin qLX7_211 [1, 5] 1 rfl rfl rfl rfl ⟨rfl, rfl⟩ ⟨Nat.le_of_ble_eq_true rfl, Nat.le_of_ble_eq_true rfl⟩ rfl hl.1 rfl (Nat.le_of_ble_eq_true rfl) dX7_reach_72 ⟨Nat.le_of_ble_eq_true rfl, Nat.le_of_ble_eq_true rfl⟩ ?_
          replace h := Option.some.inj h
          exact hret.1 _ _ _ _ _ _ _ _ (Nat.le_of_ble_eq_true rfl) (Nat.le_of_ble_eq_true rfl) dX7_reach_75 rfl (by rw [← h]) (by rw [← h] <;> rfl) (by rw [← h]; exact hP) hS
        · replace h := ite_f c11 h
          refine lv_iconst (v := 0) hx hb dX7_reach_37 (by decide) ?_
          replace h := Option.some.inj h
          exact hret.1 _ _ _ _ _ _ _ _ (Nat.le_of_ble_eq_true rfl) (Nat.le_of_ble_eq_true rfl) dX7_reach_38 rfl (by rw [← h]) (by rw [← h] <;> rfl) (by rw [← h]; exact hP) hS

def fX7_demandStrike_14 : Option Nat :=
  some 1
def fX7_demandStrike (p0 : Int32) (p1 : Int32) : Option Nat :=
  if (fX7_isWay p0) = 0 then
    fX7_demandStrike_14
  else
    if (fX7_isForce p1) = 0 then
      fX7_demandStrike_14
    else
      some 0
set_option maxHeartbeats 4000000 in
set_option maxRecDepth 100000 in
theorem lX7_demandStrike_14 {p : Program} {l : Launch} {e : Env} {s : State} {m : MethodId} {args : Array Value} {below : List Frame} {meth : Method} {c : Code} {Q : State → Prop} {D : va_G} {T : Nat → ClassId} {A : Nat → Prop} {r : Nat} (C : CallFix p m c cX7_demandStrike 3 s args aw RX7) (hE : eK D T s) (hA : ∀ q : Nat, s.heap.size ≤ q → A q) (hZ : eX l A s) (hret : ThRetV p l e ({ frames := 6, cells := 1, slots := 6, locals := 90 } : Room) s m args below meth c Q cX7_demandStrike D A [] r ∧ ThOut p l e ({ frames := 6, cells := 1, slots := 6, locals := 90 } : Room) s m args below meth c Q D A [] r ∧ ThThr p l e ({ frames := 6, cells := 1, slots := 6, locals := 90 } : Room) s m args below meth c Q cX7_demandStrike RX7 D A [] r) {H : Heap} {locs : List Loc} (hPD : va_PD D A [] H) (hS : va_S A s.heap H locs) (ls : Array Slot) (hl : lv_has ls 3 []) (h : fX7_demandStrike_14 = some r) : W p l e ({ frames := 6, cells := 1, slots := 6, locals := 90 } : Room) s m args below meth c H locs 0 0 Q (F0 m 14 ls []) := by
  have hx := C.1
  have hb := C.2.1
  obtain ⟨hP, hD⟩ := hPD
  unfold fX7_demandStrike_14 at h
  replace h := Option.some.inj h
  exact hret.2.2 _ _ _ _ _ _ _ 141 145 407 _ "no such way or force" (by rw [← h]; exact thrX7_141_145_1) (by decide +kernel) dX7_demandStrike_14 dX7_demandStrike_17 (Or.inr ⟨dX7_demandStrike_18, dX7_demandStrike_21, dX7_demandStrike_24⟩) (Nat.le_of_ble_eq_true rfl) (Nat.le_of_ble_eq_true rfl) (Nat.le_of_ble_eq_true rfl) (Nat.le_of_ble_eq_true rfl) (hl.1.trans C.2.2.1.symm) (by rw [← h]; exact (Nat.le_of_ble_eq_true rfl)) hP hS
set_option maxHeartbeats 4000000 in
set_option maxRecDepth 100000 in
theorem kX7_demandStrike (l : Launch) (hnt : l.stackTraces = false) (D : va_G) (T : Nat → ClassId) (a_x : Nat) (p0 : Int32) (p1 : Int32) (sz : Nat) (r : Nat) (h : fX7_demandStrike p0 p1 = some r) : ThV l yX7_demandStrike cX7_demandStrike 3 ({ frames := 6, cells := 1, slots := 6, locals := 90 } : Room) D T sz [] [] [.ref a_x, .int p0, .int p1] r := by
  unfold fX7_demandStrike at h
  refine thMetV hnt (by decide +kernel) rfl (fun p e s m args below meth c Q A C hE hA hZ hP hD hS hret ls hl => ?_)
  have hx := C.1
  have hb := C.2.1
  have hl : lv_has ls 3 [(0, .ref a_x), (1, .int p0), (2, .int p1)] := hl
  refine lv_iload_n hx hb dX7_demandStrike_0 rfl (lv_at hl 1 rfl) ?_
  refine rdS C hE hP (kX7_isWay l D T p0) mX7_isWay qLX7_401 [] rfl ⟨rfl, rfl⟩ ⟨Nat.le_of_ble_eq_true rfl, Nat.le_of_ble_eq_true rfl⟩ rfl hl.1 rfl (Nat.le_of_ble_eq_true rfl) dX7_demandStrike_1 ⟨Nat.le_of_ble_eq_true rfl, Nat.le_of_ble_eq_true rfl⟩ ?_
  refine lv_if_eq (tgt := 14) hx hb dX7_demandStrike_4 (by decide) (fun c1 => ?_) (fun c1 => ?_)
  · replace h := ite_t c1 h
    exact lX7_demandStrike_14 C hE hA hZ hret ⟨hP, hD⟩ hS _ (lv_sub hl [] rfl) h
  · replace h := ite_f c1 h
    refine lv_iload_n hx hb dX7_demandStrike_7 rfl (lv_at hl 2 rfl) ?_
    refine rdS C hE hP (kX7_isForce l D T p1) mX7_isForce qLX7_404 [] rfl ⟨rfl, rfl⟩ ⟨Nat.le_of_ble_eq_true rfl, Nat.le_of_ble_eq_true rfl⟩ rfl hl.1 rfl (Nat.le_of_ble_eq_true rfl) dX7_demandStrike_8 ⟨Nat.le_of_ble_eq_true rfl, Nat.le_of_ble_eq_true rfl⟩ ?_
    refine lv_if_ne (tgt := 25) hx hb dX7_demandStrike_11 (by decide) (fun c2 => ?_) (fun c2 => ?_)
    · replace h := ite_f c2 h
      replace h := Option.some.inj h
      exact hret.1 _ _ _ _ _ _ (Nat.le_of_ble_eq_true rfl) (Nat.le_of_ble_eq_true rfl) dX7_demandStrike_25 (by rw [← h]) hP hS
    · replace h := ite_t c2 h
      exact lX7_demandStrike_14 C hE hA hZ hret ⟨hP, hD⟩ hS _ (lv_sub hl [] rfl) h

def fX7_would (f_net : Int32) (v_gw : Nat → Int32) (v_gk : Nat → Int32) (p0 : Int32) (p1 : Int32) (p2 : Int32) : Option (Nat × Int32 × Int32) :=
  (fX7_demandWhale v_gk p0).bind fun q1 =>
  if q1 = 0 then
    (fX7_demandStrike p1 p2).bind fun q3 =>
    if q3 = 0 then
      (fX0_endByCells f_net v_gw v_gk p0 p1 p2).bind fun q5 =>
      some (0, q5.1, q5.2)
    else
      some (q3, 0, f_net)
  else
    some (q1, 0, f_net)
set_option maxHeartbeats 4000000 in
set_option maxRecDepth 100000 in
theorem kX7_would (l : Launch) (hnt : l.stackTraces = false) (D : va_G) (T : Nat → ClassId) (a_g a_gw a_gk a_f a_x a_b a_v a_h a_r a_u a_t a_n : Nat) (f_net : Int32) (x_sav : Int32) (x_err : Int32) (x_rea : Int32) (x_det : Int32) (x_com : Int32) (v_gw : Nat → Int32) (v_gk : Nat → Int32) (p0 : Int32) (p1 : Int32) (p2 : Int32) (sz : Nat) (r : Nat × Int32 × Int32) (h : fX7_would f_net v_gw v_gk p0 p1 p2 = some r) : ThI l yX7_would cX7_would 4 .int ({ frames := 7, cells := 2, slots := 12, locals := 113 } : Room) D T sz [(a_g, .inr (1, [.ref a_gw, .ref a_gk])), (a_f, .inr (0, [.ref a_g, .int f_net])), (a_x, .inr (7, [.ref a_g, .ref a_b, .ref a_v, .ref a_h, .ref a_r, .ref a_f, .ref a_u, .ref a_t, .ref a_n, .int x_sav, .int x_err, .int x_rea, .int x_det, .int x_com])), (a_gw, .inl (T 0, 90, .inl v_gw)), (a_gk, .inl (T 0, 18, .inl v_gk))] [(a_g, .inr (1, [.ref a_gw, .ref a_gk])), (a_f, .inr (0, [.ref a_g, .int r.2.2])), (a_x, .inr (7, [.ref a_g, .ref a_b, .ref a_v, .ref a_h, .ref a_r, .ref a_f, .ref a_u, .ref a_t, .ref a_n, .int x_sav, .int x_err, .int x_rea, .int x_det, .int x_com])), (a_gw, .inl (T 0, 90, .inl v_gw)), (a_gk, .inl (T 0, 18, .inl v_gk))] [.ref a_x, .int p0, .int p1, .int p2] r.1 r.2.1 := by
  unfold fX7_would at h
  refine thMetI hnt (by decide +kernel) rfl (fun p e s m args below meth c Q A C hE hA hZ hP hD hS hret ls hl => ?_)
  have hx := C.1
  have hb := C.2.1
  have hl : lv_has ls 4 [(0, .ref a_x), (1, .int p0), (2, .int p1), (3, .int p2)] := hl
  refine lv_aload_n hx hb dX7_would_0 rfl (lv_at hl 0 rfl) ?_
  refine lv_iload_n hx hb dX7_would_1 rfl (lv_at hl 1 rfl) ?_
  replace h := bnd h; obtain ⟨q1, e2, h⟩ := h
  refine thVv (ws1 := [(a_g, .inr (1, [.ref a_gw, .ref a_gk])), (a_f, .inr (0, [.ref a_g, .int f_net])), (a_x, .inr (7, [.ref a_g, .ref a_b, .ref a_v, .ref a_h, .ref a_r, .ref a_f, .ref a_u, .ref a_t, .ref a_n, .int x_sav, .int x_err, .int x_rea, .int x_det, .int x_com])), (a_gw, .inl (T 0, 90, .inl v_gw)), (a_gk, .inl (T 0, 18, .inl v_gk))]) C hE hZ hP hD hS hA (kX7_demandWhale l hZ.1 D T a_g a_gw a_gk a_x a_b a_v a_h a_r a_f a_u a_t a_n x_sav x_err x_rea x_det x_com v_gk p0 _ q1 e2) mX7_demandWhale qLX7_138 [0, 2, 4] [1, 3] 2 rfl rfl rfl rfl rfl rfl rfl rfl rfl ⟨Nat.le_of_ble_eq_true rfl, Nat.le_of_ble_eq_true rfl⟩ rfl hl.1 rfl (Nat.le_of_ble_eq_true rfl) dX7_would_2 ⟨Nat.le_of_ble_eq_true rfl, Nat.le_of_ble_eq_true rfl⟩ ?_ ?_
  · clear hP hD hS; intro hx0 H locs ce q9 hP hD hS g1 g2 g3
    replace h := ite_f (Nat.ne_of_gt hx0) h
    replace h := Option.some.inj h
    exact hret.2.1 _ _ _ _ _ _ _ _ _ (Nat.le_of_ble_eq_true rfl) (Nat.le_of_ble_eq_true rfl) (by rw [← h]; exact hx0) (by rw [← h]; exact hP) hS g1 g2 (by rw [← h]; exact g3)
  · clear hP hD hS; intro hx0 H locs hP hD hS
    replace h := ite_t hx0 h
    refine lv_aload_n hx hb dX7_would_5 rfl (lv_at hl 0 rfl) ?_
    refine lv_iload_n hx hb dX7_would_6 rfl (lv_at hl 2 rfl) ?_
    refine lv_iload_n hx hb dX7_would_7 rfl (lv_at hl 3 rfl) ?_
    replace h := bnd h; obtain ⟨q3, e4, h⟩ := h
    refine thVv (ws1 := [(a_g, .inr (1, [.ref a_gw, .ref a_gk])), (a_f, .inr (0, [.ref a_g, .int f_net])), (a_x, .inr (7, [.ref a_g, .ref a_b, .ref a_v, .ref a_h, .ref a_r, .ref a_f, .ref a_u, .ref a_t, .ref a_n, .int x_sav, .int x_err, .int x_rea, .int x_det, .int x_com])), (a_gw, .inl (T 0, 90, .inl v_gw)), (a_gk, .inl (T 0, 18, .inl v_gk))]) C hE hZ hP hD hS hA (kX7_demandStrike l hZ.1 D T a_x p1 p2 _ q3 e4) mX7_demandStrike qLX7_214 [] [0, 1, 2, 3, 4] 2 rfl rfl rfl rfl rfl rfl rfl rfl rfl ⟨Nat.le_of_ble_eq_true rfl, Nat.le_of_ble_eq_true rfl⟩ rfl hl.1 rfl (Nat.le_of_ble_eq_true rfl) dX7_would_8 ⟨Nat.le_of_ble_eq_true rfl, Nat.le_of_ble_eq_true rfl⟩ ?_ ?_
    · clear hP hD hS; intro hx0 H locs ce q9 hP hD hS g1 g2 g3
      replace h := ite_f (Nat.ne_of_gt hx0) h
      replace h := Option.some.inj h
      exact hret.2.1 _ _ _ _ _ _ _ _ _ (Nat.le_of_ble_eq_true rfl) (Nat.le_of_ble_eq_true rfl) (by rw [← h]; exact hx0) (by rw [← h]; exact hP) hS g1 g2 (by rw [← h]; exact g3)
    · clear hP hD hS; intro hx0 H locs hP hD hS
      replace h := ite_t hx0 h
      refine lv_aload_n hx hb dX7_would_11 rfl (lv_at hl 0 rfl) ?_
      refine getF (q0 := 2) (k0 := 5) (v := .ref a_f) C hE hP inA7 rfl rfl (by decide) qFX7_41 rfl rfl dX7_would_12 ?_
      refine lv_iload_n hx hb dX7_would_15 rfl (lv_at hl 1 rfl) ?_
      refine lv_iload_n hx hb dX7_would_16 rfl (lv_at hl 2 rfl) ?_
      refine lv_iload_n hx hb dX7_would_17 rfl (lv_at hl 3 rfl) ?_
      replace h := bnd h; obtain ⟨q5, e6, h⟩ := h
      refine wrVi (ws1 := [(a_g, .inr (1, [.ref a_gw, .ref a_gk])), (a_f, .inr (0, [.ref a_g, .int q5.2])), (a_x, .inr (7, [.ref a_g, .ref a_b, .ref a_v, .ref a_h, .ref a_r, .ref a_f, .ref a_u, .ref a_t, .ref a_n, .int x_sav, .int x_err, .int x_rea, .int x_det, .int x_com])), (a_gw, .inl (T 0, 90, .inl v_gw)), (a_gk, .inl (T 0, 18, .inl v_gk))]) C hE hP hD hS hA (kX0_endByCells l D T a_g a_gw a_gk a_f f_net v_gw v_gk p0 p1 p2 _ q5 e6) mX0_endByCells qLX7_218 [0, 1, 3, 4] [2] 1 rfl rfl rfl rfl rfl rfl rfl rfl rfl ⟨rfl, rfl⟩ ⟨Nat.le_of_ble_eq_true rfl, Nat.le_of_ble_eq_true rfl⟩ rfl hl.1 rfl (Nat.le_of_ble_eq_true rfl) dX7_would_18 ⟨Nat.le_of_ble_eq_true rfl, Nat.le_of_ble_eq_true rfl⟩ ?_; clear hP hD hS; intro H locs hP hD hS
      replace h := Option.some.inj h
      exact hret.1 _ _ _ _ _ _ _ _ (Nat.le_of_ble_eq_true rfl) (Nat.le_of_ble_eq_true rfl) dX7_would_21 rfl (by rw [← h]) (by rw [← h] <;> rfl) (by rw [← h]; exact hP) hS

def fX7_wouldAgain (v_gw : Nat → Int32) (v_gk : Nat → Int32) (p0 : Int32) (p1 : Int32) (p2 : Int32) : Option (Nat × Int32) :=
  (fX7_demandWhale v_gk p0).bind fun q1 =>
  if q1 = 0 then
    (fX7_demandStrike p1 p2).bind fun q3 =>
    if q3 = 0 then
      (fX0_endByStops v_gw v_gk p0 p1 p2).bind fun q5 =>
      some (0, q5)
    else
      some (q3, 0)
  else
    some (q1, 0)
set_option maxHeartbeats 4000000 in
set_option maxRecDepth 100000 in
theorem kX7_wouldAgain (l : Launch) (hnt : l.stackTraces = false) (D : va_G) (T : Nat → ClassId) (a_g a_gw a_gk a_f a_x a_b a_v a_h a_r a_u a_t a_n : Nat) (f_net : Int32) (x_sav : Int32) (x_err : Int32) (x_rea : Int32) (x_det : Int32) (x_com : Int32) (v_gw : Nat → Int32) (v_gk : Nat → Int32) (p0 : Int32) (p1 : Int32) (p2 : Int32) (sz : Nat) (r : Nat × Int32) (h : fX7_wouldAgain v_gw v_gk p0 p1 p2 = some r) : ThI l yX7_wouldAgain cX7_wouldAgain 4 .int ({ frames := 7, cells := 2, slots := 12, locals := 115 } : Room) D T sz [(a_g, .inr (1, [.ref a_gw, .ref a_gk])), (a_f, .inr (0, [.ref a_g, .int f_net])), (a_x, .inr (7, [.ref a_g, .ref a_b, .ref a_v, .ref a_h, .ref a_r, .ref a_f, .ref a_u, .ref a_t, .ref a_n, .int x_sav, .int x_err, .int x_rea, .int x_det, .int x_com])), (a_gw, .inl (T 0, 90, .inl v_gw)), (a_gk, .inl (T 0, 18, .inl v_gk))] [(a_g, .inr (1, [.ref a_gw, .ref a_gk])), (a_f, .inr (0, [.ref a_g, .int f_net])), (a_x, .inr (7, [.ref a_g, .ref a_b, .ref a_v, .ref a_h, .ref a_r, .ref a_f, .ref a_u, .ref a_t, .ref a_n, .int x_sav, .int x_err, .int x_rea, .int x_det, .int x_com])), (a_gw, .inl (T 0, 90, .inl v_gw)), (a_gk, .inl (T 0, 18, .inl v_gk))] [.ref a_x, .int p0, .int p1, .int p2] r.1 r.2 := by
  unfold fX7_wouldAgain at h
  refine thMetI hnt (by decide +kernel) rfl (fun p e s m args below meth c Q A C hE hA hZ hP hD hS hret ls hl => ?_)
  have hx := C.1
  have hb := C.2.1
  have hl : lv_has ls 4 [(0, .ref a_x), (1, .int p0), (2, .int p1), (3, .int p2)] := hl
  refine lv_aload_n hx hb dX7_wouldAgain_0 rfl (lv_at hl 0 rfl) ?_
  refine lv_iload_n hx hb dX7_wouldAgain_1 rfl (lv_at hl 1 rfl) ?_
  replace h := bnd h; obtain ⟨q1, e2, h⟩ := h
  refine thVv (ws1 := [(a_g, .inr (1, [.ref a_gw, .ref a_gk])), (a_f, .inr (0, [.ref a_g, .int f_net])), (a_x, .inr (7, [.ref a_g, .ref a_b, .ref a_v, .ref a_h, .ref a_r, .ref a_f, .ref a_u, .ref a_t, .ref a_n, .int x_sav, .int x_err, .int x_rea, .int x_det, .int x_com])), (a_gw, .inl (T 0, 90, .inl v_gw)), (a_gk, .inl (T 0, 18, .inl v_gk))]) C hE hZ hP hD hS hA (kX7_demandWhale l hZ.1 D T a_g a_gw a_gk a_x a_b a_v a_h a_r a_f a_u a_t a_n x_sav x_err x_rea x_det x_com v_gk p0 _ q1 e2) mX7_demandWhale qLX7_138 [0, 2, 4] [1, 3] 2 rfl rfl rfl rfl rfl rfl rfl rfl rfl ⟨Nat.le_of_ble_eq_true rfl, Nat.le_of_ble_eq_true rfl⟩ rfl hl.1 rfl (Nat.le_of_ble_eq_true rfl) dX7_wouldAgain_2 ⟨Nat.le_of_ble_eq_true rfl, Nat.le_of_ble_eq_true rfl⟩ ?_ ?_
  · clear hP hD hS; intro hx0 H locs ce q9 hP hD hS g1 g2 g3
    replace h := ite_f (Nat.ne_of_gt hx0) h
    replace h := Option.some.inj h
    exact hret.2.1 _ _ _ _ _ _ _ _ _ (Nat.le_of_ble_eq_true rfl) (Nat.le_of_ble_eq_true rfl) (by rw [← h]; exact hx0) hP hS g1 g2 (by rw [← h]; exact g3)
  · clear hP hD hS; intro hx0 H locs hP hD hS
    replace h := ite_t hx0 h
    refine lv_aload_n hx hb dX7_wouldAgain_5 rfl (lv_at hl 0 rfl) ?_
    refine lv_iload_n hx hb dX7_wouldAgain_6 rfl (lv_at hl 2 rfl) ?_
    refine lv_iload_n hx hb dX7_wouldAgain_7 rfl (lv_at hl 3 rfl) ?_
    replace h := bnd h; obtain ⟨q3, e4, h⟩ := h
    refine thVv (ws1 := [(a_g, .inr (1, [.ref a_gw, .ref a_gk])), (a_f, .inr (0, [.ref a_g, .int f_net])), (a_x, .inr (7, [.ref a_g, .ref a_b, .ref a_v, .ref a_h, .ref a_r, .ref a_f, .ref a_u, .ref a_t, .ref a_n, .int x_sav, .int x_err, .int x_rea, .int x_det, .int x_com])), (a_gw, .inl (T 0, 90, .inl v_gw)), (a_gk, .inl (T 0, 18, .inl v_gk))]) C hE hZ hP hD hS hA (kX7_demandStrike l hZ.1 D T a_x p1 p2 _ q3 e4) mX7_demandStrike qLX7_214 [] [0, 1, 2, 3, 4] 2 rfl rfl rfl rfl rfl rfl rfl rfl rfl ⟨Nat.le_of_ble_eq_true rfl, Nat.le_of_ble_eq_true rfl⟩ rfl hl.1 rfl (Nat.le_of_ble_eq_true rfl) dX7_wouldAgain_8 ⟨Nat.le_of_ble_eq_true rfl, Nat.le_of_ble_eq_true rfl⟩ ?_ ?_
    · clear hP hD hS; intro hx0 H locs ce q9 hP hD hS g1 g2 g3
      replace h := ite_f (Nat.ne_of_gt hx0) h
      replace h := Option.some.inj h
      exact hret.2.1 _ _ _ _ _ _ _ _ _ (Nat.le_of_ble_eq_true rfl) (Nat.le_of_ble_eq_true rfl) (by rw [← h]; exact hx0) hP hS g1 g2 (by rw [← h]; exact g3)
    · clear hP hD hS; intro hx0 H locs hP hD hS
      replace h := ite_t hx0 h
      refine lv_aload_n hx hb dX7_wouldAgain_11 rfl (lv_at hl 0 rfl) ?_
      refine getF (q0 := 2) (k0 := 5) (v := .ref a_f) C hE hP inA7 rfl rfl (by decide) qFX7_41 rfl rfl dX7_wouldAgain_12 ?_
      refine lv_iload_n hx hb dX7_wouldAgain_15 rfl (lv_at hl 1 rfl) ?_
      refine lv_iload_n hx hb dX7_wouldAgain_16 rfl (lv_at hl 2 rfl) ?_
      refine lv_iload_n hx hb dX7_wouldAgain_17 rfl (lv_at hl 3 rfl) ?_
      replace h := bnd h; obtain ⟨q5, e6, h⟩ := h
      refine rdV C hE hP (kX0_endByStops l D T a_g a_gw a_gk a_f f_net v_gw v_gk p0 p1 p2 q5 e6) mX0_endByStops qLX7_221 [0, 1, 3, 4] 1 rfl rfl rfl rfl ⟨rfl, rfl⟩ ⟨Nat.le_of_ble_eq_true rfl, Nat.le_of_ble_eq_true rfl⟩ rfl hl.1 rfl (Nat.le_of_ble_eq_true rfl) dX7_wouldAgain_18 ⟨Nat.le_of_ble_eq_true rfl, Nat.le_of_ble_eq_true rfl⟩ ?_
      replace h := Option.some.inj h
      exact hret.1 _ _ _ _ _ _ _ _ (Nat.le_of_ble_eq_true rfl) (Nat.le_of_ble_eq_true rfl) dX7_wouldAgain_21 rfl (by rw [← h]) (by rw [← h] <;> rfl) hP hS

def fX7_wouldFoul (v_gw : Nat → Int32) (v_gk : Nat → Int32) (p0 : Int32) : Option (Nat × Int32) :=
  (fX7_demandWhale v_gk p0).bind fun q1 =>
  if q1 = 0 then
    (fX1_isFoulBy v_gw v_gk p0).bind fun q3 =>
    some (0, (q3 &&& 1))
  else
    some (q1, 0)
set_option maxHeartbeats 4000000 in
set_option maxRecDepth 100000 in
theorem kX7_wouldFoul (l : Launch) (hnt : l.stackTraces = false) (D : va_G) (T : Nat → ClassId) (a_g a_gw a_gk a_x a_b a_v a_h a_r a_f a_u a_t a_n : Nat) (x_sav : Int32) (x_err : Int32) (x_rea : Int32) (x_det : Int32) (x_com : Int32) (v_gw : Nat → Int32) (v_gk : Nat → Int32) (p0 : Int32) (sz : Nat) (r : Nat × Int32) (h : fX7_wouldFoul v_gw v_gk p0 = some r) : ThI l yX7_wouldFoul cX7_wouldFoul 2 .boolean ({ frames := 7, cells := 1, slots := 6, locals := 111 } : Room) D T sz [(a_g, .inr (1, [.ref a_gw, .ref a_gk])), (a_x, .inr (7, [.ref a_g, .ref a_b, .ref a_v, .ref a_h, .ref a_r, .ref a_f, .ref a_u, .ref a_t, .ref a_n, .int x_sav, .int x_err, .int x_rea, .int x_det, .int x_com])), (a_gw, .inl (T 0, 90, .inl v_gw)), (a_gk, .inl (T 0, 18, .inl v_gk))] [(a_g, .inr (1, [.ref a_gw, .ref a_gk])), (a_x, .inr (7, [.ref a_g, .ref a_b, .ref a_v, .ref a_h, .ref a_r, .ref a_f, .ref a_u, .ref a_t, .ref a_n, .int x_sav, .int x_err, .int x_rea, .int x_det, .int x_com])), (a_gw, .inl (T 0, 90, .inl v_gw)), (a_gk, .inl (T 0, 18, .inl v_gk))] [.ref a_x, .int p0] r.1 r.2 := by
  unfold fX7_wouldFoul at h
  refine thMetI hnt (by decide +kernel) rfl (fun p e s m args below meth c Q A C hE hA hZ hP hD hS hret ls hl => ?_)
  have hx := C.1
  have hb := C.2.1
  have hl : lv_has ls 2 [(0, .ref a_x), (1, .int p0)] := hl
  refine lv_aload_n hx hb dX7_wouldFoul_0 rfl (lv_at hl 0 rfl) ?_
  refine lv_iload_n hx hb dX7_wouldFoul_1 rfl (lv_at hl 1 rfl) ?_
  replace h := bnd h; obtain ⟨q1, e2, h⟩ := h
  refine thVv (ws1 := [(a_g, .inr (1, [.ref a_gw, .ref a_gk])), (a_x, .inr (7, [.ref a_g, .ref a_b, .ref a_v, .ref a_h, .ref a_r, .ref a_f, .ref a_u, .ref a_t, .ref a_n, .int x_sav, .int x_err, .int x_rea, .int x_det, .int x_com])), (a_gw, .inl (T 0, 90, .inl v_gw)), (a_gk, .inl (T 0, 18, .inl v_gk))]) C hE hZ hP hD hS hA (kX7_demandWhale l hZ.1 D T a_g a_gw a_gk a_x a_b a_v a_h a_r a_f a_u a_t a_n x_sav x_err x_rea x_det x_com v_gk p0 _ q1 e2) mX7_demandWhale qLX7_138 [0, 1, 3] [2] 1 rfl rfl rfl rfl rfl rfl rfl rfl rfl ⟨Nat.le_of_ble_eq_true rfl, Nat.le_of_ble_eq_true rfl⟩ rfl hl.1 rfl (Nat.le_of_ble_eq_true rfl) dX7_wouldFoul_2 ⟨Nat.le_of_ble_eq_true rfl, Nat.le_of_ble_eq_true rfl⟩ ?_ ?_
  · clear hP hD hS; intro hx0 H locs ce q9 hP hD hS g1 g2 g3
    replace h := ite_f (Nat.ne_of_gt hx0) h
    replace h := Option.some.inj h
    exact hret.2.1 _ _ _ _ _ _ _ _ _ (Nat.le_of_ble_eq_true rfl) (Nat.le_of_ble_eq_true rfl) (by rw [← h]; exact hx0) hP hS g1 g2 (by rw [← h]; exact g3)
  · clear hP hD hS; intro hx0 H locs hP hD hS
    replace h := ite_t hx0 h
    refine lv_aload_n hx hb dX7_wouldFoul_5 rfl (lv_at hl 0 rfl) ?_
    refine getF (q0 := 1) (k0 := 0) (v := .ref a_g) C hE hP inA7 rfl rfl (by decide) qFX7_10 rfl rfl dX7_wouldFoul_6 ?_
    refine lv_iload_n hx hb dX7_wouldFoul_9 rfl (lv_at hl 1 rfl) ?_
    replace h := bnd h; obtain ⟨q3, e4, h⟩ := h
    refine rdV C hE hP (kX1_isFoulBy l D T a_g a_gw a_gk v_gw v_gk p0 q3 e4) mX1_isFoulBy qLX7_224 [0, 2, 3] 0 rfl rfl rfl rfl ⟨rfl, rfl⟩ ⟨Nat.le_of_ble_eq_true rfl, Nat.le_of_ble_eq_true rfl⟩ rfl hl.1 rfl (Nat.le_of_ble_eq_true rfl) dX7_wouldFoul_10 ⟨Nat.le_of_ble_eq_true rfl, Nat.le_of_ble_eq_true rfl⟩ ?_
    replace h := Option.some.inj h
    exact hret.1 _ _ _ _ _ _ _ _ (Nat.le_of_ble_eq_true rfl) (Nat.le_of_ble_eq_true rfl) dX7_wouldFoul_13 rfl (by rw [← h]) (by rw [← h] <;> rfl) hP hS

def fX7_columnsToGoal (p0 : Int32) (p1 : Int32) : Int32 :=
  if p0 < 45 then
    if p1 = 0 then
      (8 - (p0 - p0 / 9 * 9))
    else
      (p0 - p0 / 9 * 9)
  else
    if p0 = (45 + p1) then
      (-1)
    else
      9
set_option maxHeartbeats 4000000 in
set_option maxRecDepth 100000 in
theorem kX7_columnsToGoal (l : Launch) (D : va_G) (T : Nat → ClassId) (p0 : Int32) (p1 : Int32) : RdI l yX7_columnsToGoal cX7_columnsToGoal 3 .int ({ frames := 0, cells := 0, slots := 0, locals := 0 } : Room) D T [] [.int p0, .int p1] (fX7_columnsToGoal p0 p1) := by
  obtain ⟨r, h⟩ : ∃ r, fX7_columnsToGoal p0 p1 = r := ⟨_, rfl⟩
  rw [h]
  unfold fX7_columnsToGoal at h
  refine rdMet (by decide +kernel) rfl (fun p e s m args below meth c Q C hE hP hret ls hl => ?_)
  have hx := C.1
  have hb := C.2.1
  have hl : lv_has ls 3 [(0, .int p0), (1, .int p1)] := hl
  refine lv_iload_n hx hb dX7_columnsToGoal_0 rfl (lv_at hl 0 rfl) ?_
  refine lv_bipush (v := 45) hx hb dX7_columnsToGoal_1 (by decide) ?_
  refine lv_icmp_lt (tgt := 21) hx hb dX7_columnsToGoal_3 (by decide) (fun c1 => ?_) (fun c1 => ?_)
  · replace h := ite_t c1 h
    refine lv_iload_n hx hb dX7_columnsToGoal_21 rfl (lv_at hl 0 rfl) ?_
    refine lv_bipush (v := 9) hx hb dX7_columnsToGoal_22 (by decide) ?_
    refine lv_irem hx hb dX7_columnsToGoal_24 (by decide) ?_
    refine lv_istore_n (lv' := [(2, .int (p0 - p0 / 9 * 9)), (0, .int p0), (1, .int p1)]) hx hb dX7_columnsToGoal_25 rfl hl (by decide) rfl (fun ls hl => ?_)
    refine lv_iload_n hx hb dX7_columnsToGoal_26 rfl (lv_at hl 2 rfl) ?_
    refine lv_if_ne (tgt := 37) hx hb dX7_columnsToGoal_27 (by decide) (fun c2 => ?_) (fun c2 => ?_)
    · replace h := ite_f c2 h
      refine lv_iload_n hx hb dX7_columnsToGoal_37 rfl (lv_at hl 0 rfl) ?_
      exact hret _ _ _ _ dX7_columnsToGoal_38 rfl h
    · replace h := ite_t c2 h
      refine lv_bipush (v := 8) hx hb dX7_columnsToGoal_30 (by decide) ?_
      refine lv_iload_n hx hb dX7_columnsToGoal_32 rfl (lv_at hl 0 rfl) ?_
      refine lv_isub hx hb dX7_columnsToGoal_33 ?_
      refine lv_goto (tgt := 38) hx hb dX7_columnsToGoal_34 (by decide) ?_
      exact hret _ _ _ _ dX7_columnsToGoal_38 rfl h
  · replace h := ite_f c1 h
    refine lv_iload_n hx hb dX7_columnsToGoal_6 rfl (lv_at hl 0 rfl) ?_
    refine lv_bipush (v := 45) hx hb dX7_columnsToGoal_7 (by decide) ?_
    refine lv_iload_n hx hb dX7_columnsToGoal_9 rfl (lv_at hl 1 rfl) ?_
    refine lv_iadd hx hb dX7_columnsToGoal_10 ?_
    refine lv_icmp_ne (tgt := 18) hx hb dX7_columnsToGoal_11 (by decide) (fun c3 => ?_) (fun c3 => ?_)
    · replace h := ite_f c3 h
      refine lv_bipush (v := 9) hx hb dX7_columnsToGoal_18 (by decide) ?_
      exact hret _ _ _ _ dX7_columnsToGoal_20 rfl h
    · replace h := ite_t c3 h
      refine lv_iconst (v := (-1)) hx hb dX7_columnsToGoal_14 (by decide) ?_
      refine lv_goto (tgt := 20) hx hb dX7_columnsToGoal_15 (by decide) ?_
      exact hret _ _ _ _ dX7_columnsToGoal_20 rfl h

def fX7_bestStrike_80 (v_gw : Nat → Int32) (v_gk : Nat → Int32) (rec19 : Int32 → Int32 → Int32 → Int32 → Int32 → Int32 → Option (Int32 × Int32)) (rec28 : Int32 → Int32 → Int32 → Int32 → Int32 → Int32 → Int32 → Option (Int32 × Int32)) (l1 : Int32) (l2 : Int32) (l3 : Int32) (l4 : Int32) (l5 : Int32) (l6 : Int32) (f_net : Int32) : Option (Int32 × Int32) :=
  rec28 l1 l2 l3 l4 l5 (l6 + 1) f_net
def fX7_bestStrike_28 (v_gw : Nat → Int32) (v_gk : Nat → Int32) (rec19 : Int32 → Int32 → Int32 → Int32 → Int32 → Int32 → Option (Int32 × Int32)) : Nat → Int32 → Int32 → Int32 → Int32 → Int32 → Int32 → Int32 → Option (Int32 × Int32)
  | 0, _, _, _, _, _, _, _ => none
  | k + 1, l1, l2, l3, l4, l5, l6, f_net =>
    (fX1_of v_gw l1 1).bind fun q4 =>
    if q4 < l6 then
      rec19 l1 l2 l3 l4 (l5 + 1) f_net
    else
      (fX0_endByCells f_net v_gw v_gk l1 l5 l6).bind fun q7 =>
      if l4 ≤ (fX7_columnsToGoal q7.1 l2) then
        fX7_bestStrike_80 v_gw v_gk rec19 (fX7_bestStrike_28 v_gw v_gk rec19 k) l1 l2 l3 l4 l5 l6 q7.2
      else
        fX7_bestStrike_80 v_gw v_gk rec19 (fX7_bestStrike_28 v_gw v_gk rec19 k) l1 l2 ((10 * l5) + l6) (fX7_columnsToGoal q7.1 l2) l5 l6 q7.2
def fX7_bestStrike_19 (v_gw : Nat → Int32) (v_gk : Nat → Int32) : Nat → Int32 → Int32 → Int32 → Int32 → Int32 → Int32 → Option (Int32 × Int32)
  | 0, _, _, _, _, _, _ => none
  | k + 1, l1, l2, l3, l4, l5, f_net =>
    if 4 ≤ l5 then
      some (l3, f_net)
    else
      fX7_bestStrike_28 v_gw v_gk (fX7_bestStrike_19 v_gw v_gk k) 64 l1 l2 l3 l4 l5 1 f_net
def fX7_bestStrike (f_net : Int32) (v_gw : Nat → Int32) (v_gk : Nat → Int32) (p0 : Int32) : Option (Int32 × Int32) :=
  (fX1_of v_gw p0 0).bind fun q1 =>
  fX7_bestStrike_19 v_gw v_gk 64 p0 q1 (-1) 9 0 f_net
set_option maxHeartbeats 4000000 in
set_option maxRecDepth 100000 in
theorem lX7_bestStrike_80 {p : Program} {l : Launch} {e : Env} {s : State} {m : MethodId} {args : Array Value} {below : List Frame} {meth : Method} {c : Code} {Q : State → Prop} {D : va_G} {T : Nat → ClassId} {a_g a_gw a_gk a_f a_x a_b a_v a_h a_r a_u a_t a_n : Nat} {x_sav : Int32} {x_err : Int32} {x_rea : Int32} {x_det : Int32} {x_com : Int32} {v_gw : Nat → Int32} {v_gk : Nat → Int32} {A : Nat → Prop} {r : Int32 × Int32} (C : CallFix p m c cX7_bestStrike 8 s args aw RX7) (hE : eK D T s) (hA : ∀ q : Nat, s.heap.size ≤ q → A q) (hret : WrRet p l e ({ frames := 5, cells := 0, slots := 0, locals := 113 } : Room) s m args below meth c Q cX7_bestStrike .int D A [(a_g, .inr (1, [.ref a_gw, .ref a_gk])), (a_f, .inr (0, [.ref a_g, .int r.2])), (a_x, .inr (7, [.ref a_g, .ref a_b, .ref a_v, .ref a_h, .ref a_r, .ref a_f, .ref a_u, .ref a_t, .ref a_n, .int x_sav, .int x_err, .int x_rea, .int x_det, .int x_com])), (a_gw, .inl (T 0, 90, .inl v_gw)), (a_gk, .inl (T 0, 18, .inl v_gk))] r.1) {rec19 : Int32 → Int32 → Int32 → Int32 → Int32 → Int32 → Option (Int32 × Int32)} (hrec19 : ∀ (l1 : Int32) (l2 : Int32) (l3 : Int32) (l4 : Int32) (l5 : Int32) (f_net : Int32) {H : Heap} {locs : List Loc} (hPD : va_PD D A [(a_g, .inr (1, [.ref a_gw, .ref a_gk])), (a_f, .inr (0, [.ref a_g, .int f_net])), (a_x, .inr (7, [.ref a_g, .ref a_b, .ref a_v, .ref a_h, .ref a_r, .ref a_f, .ref a_u, .ref a_t, .ref a_n, .int x_sav, .int x_err, .int x_rea, .int x_det, .int x_com])), (a_gw, .inl (T 0, 90, .inl v_gw)), (a_gk, .inl (T 0, 18, .inl v_gk))] H) (hS : va_S A s.heap H locs) (ls : Array Slot) (hl : lv_has ls 8 [(0, .ref a_x), (1, .int l1), (2, .int l2), (3, .int l3), (4, .int l4), (5, .int l5)]) (h : rec19 l1 l2 l3 l4 l5 f_net = some r), W p l e ({ frames := 5, cells := 0, slots := 0, locals := 113 } : Room) s m args below meth c H locs 0 0 Q (F0 m 19 ls [])) {rec28 : Int32 → Int32 → Int32 → Int32 → Int32 → Int32 → Int32 → Option (Int32 × Int32)} (hrec28 : ∀ (l1 : Int32) (l2 : Int32) (l3 : Int32) (l4 : Int32) (l5 : Int32) (l6 : Int32) (f_net : Int32) {H : Heap} {locs : List Loc} (hPD : va_PD D A [(a_g, .inr (1, [.ref a_gw, .ref a_gk])), (a_f, .inr (0, [.ref a_g, .int f_net])), (a_x, .inr (7, [.ref a_g, .ref a_b, .ref a_v, .ref a_h, .ref a_r, .ref a_f, .ref a_u, .ref a_t, .ref a_n, .int x_sav, .int x_err, .int x_rea, .int x_det, .int x_com])), (a_gw, .inl (T 0, 90, .inl v_gw)), (a_gk, .inl (T 0, 18, .inl v_gk))] H) (hS : va_S A s.heap H locs) (ls : Array Slot) (hl : lv_has ls 8 [(0, .ref a_x), (1, .int l1), (2, .int l2), (3, .int l3), (4, .int l4), (5, .int l5), (6, .int l6)]) (h : rec28 l1 l2 l3 l4 l5 l6 f_net = some r), W p l e ({ frames := 5, cells := 0, slots := 0, locals := 113 } : Room) s m args below meth c H locs 0 0 Q (F0 m 28 ls [])) (l1 : Int32) (l2 : Int32) (l3 : Int32) (l4 : Int32) (l5 : Int32) (l6 : Int32) (f_net : Int32) {H : Heap} {locs : List Loc} (hPD : va_PD D A [(a_g, .inr (1, [.ref a_gw, .ref a_gk])), (a_f, .inr (0, [.ref a_g, .int f_net])), (a_x, .inr (7, [.ref a_g, .ref a_b, .ref a_v, .ref a_h, .ref a_r, .ref a_f, .ref a_u, .ref a_t, .ref a_n, .int x_sav, .int x_err, .int x_rea, .int x_det, .int x_com])), (a_gw, .inl (T 0, 90, .inl v_gw)), (a_gk, .inl (T 0, 18, .inl v_gk))] H) (hS : va_S A s.heap H locs) (ls : Array Slot) (hl : lv_has ls 8 [(0, .ref a_x), (1, .int l1), (2, .int l2), (3, .int l3), (4, .int l4), (5, .int l5), (6, .int l6)]) (h : fX7_bestStrike_80 v_gw v_gk rec19 rec28 l1 l2 l3 l4 l5 l6 f_net = some r) : W p l e ({ frames := 5, cells := 0, slots := 0, locals := 113 } : Room) s m args below meth c H locs 0 0 Q (F0 m 80 ls []) := by
  have hx := C.1
  have hb := C.2.1
  obtain ⟨hP, hD⟩ := hPD
  unfold fX7_bestStrike_80 at h
  refine lv_iinc (v := (l6 + 1)) (lv' := [(6, .int (l6 + 1)), (0, .ref a_x), (1, .int l1), (2, .int l2), (3, .int l3), (4, .int l4), (5, .int l5)]) hx hb dX7_bestStrike_80 hl (k := 6) rfl rfl (by decide) rfl (fun ls hl => ?_)
  refine lv_goto (tgt := 28) hx hb dX7_bestStrike_83 (by decide) ?_
  exact hrec28 l1 l2 l3 l4 l5 (l6 + 1) f_net ⟨hP, hD⟩ hS _ (lv_sub hl [1, 2, 3, 4, 5, 6, 0] rfl) h
set_option maxHeartbeats 4000000 in
set_option maxRecDepth 100000 in
theorem lX7_bestStrike_28 {p : Program} {l : Launch} {e : Env} {s : State} {m : MethodId} {args : Array Value} {below : List Frame} {meth : Method} {c : Code} {Q : State → Prop} {D : va_G} {T : Nat → ClassId} {a_g a_gw a_gk a_f a_x a_b a_v a_h a_r a_u a_t a_n : Nat} {x_sav : Int32} {x_err : Int32} {x_rea : Int32} {x_det : Int32} {x_com : Int32} {v_gw : Nat → Int32} {v_gk : Nat → Int32} {A : Nat → Prop} {r : Int32 × Int32} (C : CallFix p m c cX7_bestStrike 8 s args aw RX7) (hE : eK D T s) (hA : ∀ q : Nat, s.heap.size ≤ q → A q) (hret : WrRet p l e ({ frames := 5, cells := 0, slots := 0, locals := 113 } : Room) s m args below meth c Q cX7_bestStrike .int D A [(a_g, .inr (1, [.ref a_gw, .ref a_gk])), (a_f, .inr (0, [.ref a_g, .int r.2])), (a_x, .inr (7, [.ref a_g, .ref a_b, .ref a_v, .ref a_h, .ref a_r, .ref a_f, .ref a_u, .ref a_t, .ref a_n, .int x_sav, .int x_err, .int x_rea, .int x_det, .int x_com])), (a_gw, .inl (T 0, 90, .inl v_gw)), (a_gk, .inl (T 0, 18, .inl v_gk))] r.1) {rec19 : Int32 → Int32 → Int32 → Int32 → Int32 → Int32 → Option (Int32 × Int32)} (hrec19 : ∀ (l1 : Int32) (l2 : Int32) (l3 : Int32) (l4 : Int32) (l5 : Int32) (f_net : Int32) {H : Heap} {locs : List Loc} (hPD : va_PD D A [(a_g, .inr (1, [.ref a_gw, .ref a_gk])), (a_f, .inr (0, [.ref a_g, .int f_net])), (a_x, .inr (7, [.ref a_g, .ref a_b, .ref a_v, .ref a_h, .ref a_r, .ref a_f, .ref a_u, .ref a_t, .ref a_n, .int x_sav, .int x_err, .int x_rea, .int x_det, .int x_com])), (a_gw, .inl (T 0, 90, .inl v_gw)), (a_gk, .inl (T 0, 18, .inl v_gk))] H) (hS : va_S A s.heap H locs) (ls : Array Slot) (hl : lv_has ls 8 [(0, .ref a_x), (1, .int l1), (2, .int l2), (3, .int l3), (4, .int l4), (5, .int l5)]) (h : rec19 l1 l2 l3 l4 l5 f_net = some r), W p l e ({ frames := 5, cells := 0, slots := 0, locals := 113 } : Room) s m args below meth c H locs 0 0 Q (F0 m 19 ls [])) : ∀ (k : Nat) (l1 : Int32) (l2 : Int32) (l3 : Int32) (l4 : Int32) (l5 : Int32) (l6 : Int32) (f_net : Int32) {H : Heap} {locs : List Loc} (hPD : va_PD D A [(a_g, .inr (1, [.ref a_gw, .ref a_gk])), (a_f, .inr (0, [.ref a_g, .int f_net])), (a_x, .inr (7, [.ref a_g, .ref a_b, .ref a_v, .ref a_h, .ref a_r, .ref a_f, .ref a_u, .ref a_t, .ref a_n, .int x_sav, .int x_err, .int x_rea, .int x_det, .int x_com])), (a_gw, .inl (T 0, 90, .inl v_gw)), (a_gk, .inl (T 0, 18, .inl v_gk))] H) (hS : va_S A s.heap H locs) (ls : Array Slot) (hl : lv_has ls 8 [(0, .ref a_x), (1, .int l1), (2, .int l2), (3, .int l3), (4, .int l4), (5, .int l5), (6, .int l6)]) (h : fX7_bestStrike_28 v_gw v_gk rec19 k l1 l2 l3 l4 l5 l6 f_net = some r), W p l e ({ frames := 5, cells := 0, slots := 0, locals := 113 } : Room) s m args below meth c H locs 0 0 Q (F0 m 28 ls []) := by
  have hx := C.1
  have hb := C.2.1
  intro k
  induction k with
  | zero =>
    intro l1 l2 l3 l4 l5 l6 f_net H locs hPD hS ls hl h
    exact nomatch (show (none : Option (Int32 × Int32)) = some r from h)
  | succ k ih =>
    intro l1 l2 l3 l4 l5 l6 f_net H locs hPD hS ls hl h
    obtain ⟨hP, hD⟩ := hPD
    rw [fX7_bestStrike_28] at h
    refine lv_iload hx hb dX7_bestStrike_28 (lv_at hl 6 rfl) ?_
    refine lv_aload_n hx hb dX7_bestStrike_30 rfl (lv_at hl 0 rfl) ?_
    refine getF (q0 := 2) (k0 := 0) (v := .ref a_g) C hE hP inA7 rfl rfl (by decide) qFX7_10 rfl rfl dX7_bestStrike_31 ?_
    refine lv_iload_n hx hb dX7_bestStrike_34 rfl (lv_at hl 1 rfl) ?_
    refine lv_iconst (v := 1) hx hb dX7_bestStrike_35 (by decide) ?_
    replace h := bnd h; obtain ⟨q4, e5, h⟩ := h
    refine rdV C hE hP (kX1_of l D T a_g a_gw a_gk v_gw l1 1 q4 e5) mX1_of qLX7_148 [0, 3] 0 rfl rfl rfl rfl ⟨rfl, rfl⟩ ⟨Nat.le_of_ble_eq_true rfl, Nat.le_of_ble_eq_true rfl⟩ rfl hl.1 rfl (Nat.le_of_ble_eq_true rfl) dX7_bestStrike_36 ⟨Nat.le_of_ble_eq_true rfl, Nat.le_of_ble_eq_true rfl⟩ ?_
    refine lv_icmp_gt (tgt := 86) hx hb dX7_bestStrike_39 (by decide) (fun c6 => ?_) (fun c6 => ?_)
    · replace h := ite_t c6 h
      refine lv_iinc (v := (l5 + 1)) (lv' := [(5, .int (l5 + 1)), (0, .ref a_x), (1, .int l1), (2, .int l2), (3, .int l3), (4, .int l4), (6, .int l6)]) hx hb dX7_bestStrike_86 hl (k := 5) rfl rfl (by decide) rfl (fun ls hl => ?_)
      refine lv_goto (tgt := 19) hx hb dX7_bestStrike_89 (by decide) ?_
      exact hrec19 l1 l2 l3 l4 (l5 + 1) f_net ⟨hP, hD⟩ hS _ (lv_sub hl [1, 2, 3, 4, 5, 0] rfl) h
    · replace h := ite_f c6 h
      refine lv_aload_n hx hb dX7_bestStrike_42 rfl (lv_at hl 0 rfl) ?_
      refine getF (q0 := 2) (k0 := 5) (v := .ref a_f) C hE hP inA7 rfl rfl (by decide) qFX7_41 rfl rfl dX7_bestStrike_43 ?_
      refine lv_iload_n hx hb dX7_bestStrike_46 rfl (lv_at hl 1 rfl) ?_
      refine lv_iload hx hb dX7_bestStrike_47 (lv_at hl 5 rfl) ?_
      refine lv_iload hx hb dX7_bestStrike_49 (lv_at hl 6 rfl) ?_
      replace h := bnd h; obtain ⟨q7, e8, h⟩ := h
      refine wrVi (ws1 := [(a_g, .inr (1, [.ref a_gw, .ref a_gk])), (a_f, .inr (0, [.ref a_g, .int q7.2])), (a_x, .inr (7, [.ref a_g, .ref a_b, .ref a_v, .ref a_h, .ref a_r, .ref a_f, .ref a_u, .ref a_t, .ref a_n, .int x_sav, .int x_err, .int x_rea, .int x_det, .int x_com])), (a_gw, .inl (T 0, 90, .inl v_gw)), (a_gk, .inl (T 0, 18, .inl v_gk))]) C hE hP hD hS hA (kX0_endByCells l D T a_g a_gw a_gk a_f f_net v_gw v_gk l1 l5 l6 _ q7 e8) mX0_endByCells qLX7_218 [0, 1, 3, 4] [2] 1 rfl rfl rfl rfl rfl rfl rfl rfl rfl ⟨rfl, rfl⟩ ⟨Nat.le_of_ble_eq_true rfl, Nat.le_of_ble_eq_true rfl⟩ rfl hl.1 rfl (Nat.le_of_ble_eq_true rfl) dX7_bestStrike_51 ⟨Nat.le_of_ble_eq_true rfl, Nat.le_of_ble_eq_true rfl⟩ ?_; clear hP hD hS; intro H locs hP hD hS
      refine lv_iload_n hx hb dX7_bestStrike_54 rfl (lv_at hl 2 rfl) ?_
      refine rdS C hE hP (kX7_columnsToGoal l D T q7.1 l2) mX7_columnsToGoal qLX7_433 [] rfl ⟨rfl, rfl⟩ ⟨Nat.le_of_ble_eq_true rfl, Nat.le_of_ble_eq_true rfl⟩ rfl hl.1 rfl (Nat.le_of_ble_eq_true rfl) dX7_bestStrike_55 ⟨Nat.le_of_ble_eq_true rfl, Nat.le_of_ble_eq_true rfl⟩ ?_
      refine lv_istore (lv' := [(7, .int (fX7_columnsToGoal q7.1 l2)), (0, .ref a_x), (1, .int l1), (2, .int l2), (3, .int l3), (4, .int l4), (5, .int l5), (6, .int l6)]) hx hb dX7_bestStrike_58 hl (by decide) rfl (fun ls hl => ?_)
      refine lv_iload hx hb dX7_bestStrike_60 (lv_at hl 0 rfl) ?_
      refine lv_iload hx hb dX7_bestStrike_62 (lv_at hl 5 rfl) ?_
      refine lv_icmp_ge (tgt := 80) hx hb dX7_bestStrike_64 (by decide) (fun c9 => ?_) (fun c9 => ?_)
      · replace h := ite_t c9 h
        exact lX7_bestStrike_80 C hE hA hret hrec19 ih l1 l2 l3 l4 l5 l6 q7.2 ⟨hP, hD⟩ hS _ (lv_sub hl [1, 2, 3, 4, 5, 6, 7] rfl) h
      · replace h := ite_f c9 h
        refine lv_iload hx hb dX7_bestStrike_67 (lv_at hl 0 rfl) ?_
        refine lv_istore (lv' := [(4, .int (fX7_columnsToGoal q7.1 l2)), (7, .int (fX7_columnsToGoal q7.1 l2)), (0, .ref a_x), (1, .int l1), (2, .int l2), (3, .int l3), (5, .int l5), (6, .int l6)]) hx hb dX7_bestStrike_69 hl (by decide) rfl (fun ls hl => ?_)
        refine lv_bipush (v := 10) hx hb dX7_bestStrike_71 (by decide) ?_
        refine lv_iload hx hb dX7_bestStrike_73 (lv_at hl 6 rfl) ?_
        refine lv_imul hx hb dX7_bestStrike_75 ?_
        refine lv_iload hx hb dX7_bestStrike_76 (lv_at hl 7 rfl) ?_
        refine lv_iadd hx hb dX7_bestStrike_78 ?_
        refine lv_istore_n (lv' := [(3, .int ((10 * l5) + l6)), (4, .int (fX7_columnsToGoal q7.1 l2)), (7, .int (fX7_columnsToGoal q7.1 l2)), (0, .ref a_x), (1, .int l1), (2, .int l2), (5, .int l5), (6, .int l6)]) hx hb dX7_bestStrike_79 rfl hl (by decide) rfl (fun ls hl => ?_)
        exact lX7_bestStrike_80 C hE hA hret hrec19 ih l1 l2 ((10 * l5) + l6) (fX7_columnsToGoal q7.1 l2) l5 l6 q7.2 ⟨hP, hD⟩ hS _ (lv_sub hl [3, 4, 5, 0, 1, 6, 7] rfl) h
set_option maxHeartbeats 4000000 in
set_option maxRecDepth 100000 in
theorem lX7_bestStrike_19 {p : Program} {l : Launch} {e : Env} {s : State} {m : MethodId} {args : Array Value} {below : List Frame} {meth : Method} {c : Code} {Q : State → Prop} {D : va_G} {T : Nat → ClassId} {a_g a_gw a_gk a_f a_x a_b a_v a_h a_r a_u a_t a_n : Nat} {x_sav : Int32} {x_err : Int32} {x_rea : Int32} {x_det : Int32} {x_com : Int32} {v_gw : Nat → Int32} {v_gk : Nat → Int32} {A : Nat → Prop} {r : Int32 × Int32} (C : CallFix p m c cX7_bestStrike 8 s args aw RX7) (hE : eK D T s) (hA : ∀ q : Nat, s.heap.size ≤ q → A q) (hret : WrRet p l e ({ frames := 5, cells := 0, slots := 0, locals := 113 } : Room) s m args below meth c Q cX7_bestStrike .int D A [(a_g, .inr (1, [.ref a_gw, .ref a_gk])), (a_f, .inr (0, [.ref a_g, .int r.2])), (a_x, .inr (7, [.ref a_g, .ref a_b, .ref a_v, .ref a_h, .ref a_r, .ref a_f, .ref a_u, .ref a_t, .ref a_n, .int x_sav, .int x_err, .int x_rea, .int x_det, .int x_com])), (a_gw, .inl (T 0, 90, .inl v_gw)), (a_gk, .inl (T 0, 18, .inl v_gk))] r.1) : ∀ (k : Nat) (l1 : Int32) (l2 : Int32) (l3 : Int32) (l4 : Int32) (l5 : Int32) (f_net : Int32) {H : Heap} {locs : List Loc} (hPD : va_PD D A [(a_g, .inr (1, [.ref a_gw, .ref a_gk])), (a_f, .inr (0, [.ref a_g, .int f_net])), (a_x, .inr (7, [.ref a_g, .ref a_b, .ref a_v, .ref a_h, .ref a_r, .ref a_f, .ref a_u, .ref a_t, .ref a_n, .int x_sav, .int x_err, .int x_rea, .int x_det, .int x_com])), (a_gw, .inl (T 0, 90, .inl v_gw)), (a_gk, .inl (T 0, 18, .inl v_gk))] H) (hS : va_S A s.heap H locs) (ls : Array Slot) (hl : lv_has ls 8 [(0, .ref a_x), (1, .int l1), (2, .int l2), (3, .int l3), (4, .int l4), (5, .int l5)]) (h : fX7_bestStrike_19 v_gw v_gk k l1 l2 l3 l4 l5 f_net = some r), W p l e ({ frames := 5, cells := 0, slots := 0, locals := 113 } : Room) s m args below meth c H locs 0 0 Q (F0 m 19 ls []) := by
  have hx := C.1
  have hb := C.2.1
  intro k
  induction k with
  | zero =>
    intro l1 l2 l3 l4 l5 f_net H locs hPD hS ls hl h
    exact nomatch (show (none : Option (Int32 × Int32)) = some r from h)
  | succ k ih =>
    intro l1 l2 l3 l4 l5 f_net H locs hPD hS ls hl h
    obtain ⟨hP, hD⟩ := hPD
    rw [fX7_bestStrike_19] at h
    refine lv_iload hx hb dX7_bestStrike_19 (lv_at hl 5 rfl) ?_
    refine lv_iconst (v := 4) hx hb dX7_bestStrike_21 (by decide) ?_
    refine lv_icmp_ge (tgt := 92) hx hb dX7_bestStrike_22 (by decide) (fun c3 => ?_) (fun c3 => ?_)
    · replace h := ite_t c3 h
      refine lv_iload_n hx hb dX7_bestStrike_92 rfl (lv_at hl 3 rfl) ?_
      replace h := Option.some.inj h
      exact hret _ _ _ _ _ _ dX7_bestStrike_93 rfl (by rw [← h] <;> rfl) (by rw [← h]; exact hP) hS
    · replace h := ite_f c3 h
      refine lv_iconst (v := 1) hx hb dX7_bestStrike_25 (by decide) ?_
      refine lv_istore (lv' := [(6, .int 1), (0, .ref a_x), (1, .int l1), (2, .int l2), (3, .int l3), (4, .int l4), (5, .int l5)]) hx hb dX7_bestStrike_26 hl (by decide) rfl (fun ls hl => ?_)
      exact lX7_bestStrike_28 C hE hA hret ih 64 l1 l2 l3 l4 l5 1 f_net ⟨hP, hD⟩ hS _ (lv_sub hl [1, 2, 3, 4, 5, 6, 0] rfl) h
set_option maxHeartbeats 4000000 in
set_option maxRecDepth 100000 in
theorem kX7_bestStrike (l : Launch) (D : va_G) (T : Nat → ClassId) (a_g a_gw a_gk a_f a_x a_b a_v a_h a_r a_u a_t a_n : Nat) (f_net : Int32) (x_sav : Int32) (x_err : Int32) (x_rea : Int32) (x_det : Int32) (x_com : Int32) (v_gw : Nat → Int32) (v_gk : Nat → Int32) (p0 : Int32) (sz : Nat) (r : Int32 × Int32) (h : fX7_bestStrike f_net v_gw v_gk p0 = some r) : WrI l yX7_bestStrike cX7_bestStrike 8 .int ({ frames := 5, cells := 0, slots := 0, locals := 113 } : Room) D T sz [(a_g, .inr (1, [.ref a_gw, .ref a_gk])), (a_f, .inr (0, [.ref a_g, .int f_net])), (a_x, .inr (7, [.ref a_g, .ref a_b, .ref a_v, .ref a_h, .ref a_r, .ref a_f, .ref a_u, .ref a_t, .ref a_n, .int x_sav, .int x_err, .int x_rea, .int x_det, .int x_com])), (a_gw, .inl (T 0, 90, .inl v_gw)), (a_gk, .inl (T 0, 18, .inl v_gk))] [(a_g, .inr (1, [.ref a_gw, .ref a_gk])), (a_f, .inr (0, [.ref a_g, .int r.2])), (a_x, .inr (7, [.ref a_g, .ref a_b, .ref a_v, .ref a_h, .ref a_r, .ref a_f, .ref a_u, .ref a_t, .ref a_n, .int x_sav, .int x_err, .int x_rea, .int x_det, .int x_com])), (a_gw, .inl (T 0, 90, .inl v_gw)), (a_gk, .inl (T 0, 18, .inl v_gk))] [.ref a_x, .int p0] r.1 := by
  unfold fX7_bestStrike at h
  refine wrMet (by decide +kernel) rfl (fun p e s m args below meth c Q A C hE hA hP hD hS hret ls hl => ?_)
  have hx := C.1
  have hb := C.2.1
  have hl : lv_has ls 8 [(0, .ref a_x), (1, .int p0)] := hl
  refine lv_aload_n hx hb dX7_bestStrike_0 rfl (lv_at hl 0 rfl) ?_
  refine getF (q0 := 2) (k0 := 0) (v := .ref a_g) C hE hP inA7 rfl rfl (by decide) qFX7_10 rfl rfl dX7_bestStrike_1 ?_
  refine lv_iload_n hx hb dX7_bestStrike_4 rfl (lv_at hl 1 rfl) ?_
  refine lv_iconst (v := 0) hx hb dX7_bestStrike_5 (by decide) ?_
  replace h := bnd h; obtain ⟨q1, e2, h⟩ := h
  refine rdV C hE hP (kX1_of l D T a_g a_gw a_gk v_gw p0 0 q1 e2) mX1_of qLX7_148 [0, 3] 0 rfl rfl rfl rfl ⟨rfl, rfl⟩ ⟨Nat.le_of_ble_eq_true rfl, Nat.le_of_ble_eq_true rfl⟩ rfl hl.1 rfl (Nat.le_of_ble_eq_true rfl) dX7_bestStrike_6 ⟨Nat.le_of_ble_eq_true rfl, Nat.le_of_ble_eq_true rfl⟩ ?_
  refine lv_istore_n (lv' := [(2, .int q1), (0, .ref a_x), (1, .int p0)]) hx hb dX7_bestStrike_9 rfl hl (by decide) rfl (fun ls hl => ?_)
  refine lv_iconst (v := (-1)) hx hb dX7_bestStrike_10 (by decide) ?_
  refine lv_istore_n (lv' := [(3, .int (-1)), (2, .int q1), (0, .ref a_x), (1, .int p0)]) hx hb dX7_bestStrike_11 rfl hl (by decide) rfl (fun ls hl => ?_)
  refine lv_bipush (v := 9) hx hb dX7_bestStrike_12 (by decide) ?_
  refine lv_istore (lv' := [(4, .int 9), (3, .int (-1)), (2, .int q1), (0, .ref a_x), (1, .int p0)]) hx hb dX7_bestStrike_14 hl (by decide) rfl (fun ls hl => ?_)
  refine lv_iconst (v := 0) hx hb dX7_bestStrike_16 (by decide) ?_
  refine lv_istore (lv' := [(5, .int 0), (4, .int 9), (3, .int (-1)), (2, .int q1), (0, .ref a_x), (1, .int p0)]) hx hb dX7_bestStrike_17 hl (by decide) rfl (fun ls hl => ?_)
  exact lX7_bestStrike_19 C hE hA hret 64 p0 q1 (-1) 9 0 f_net ⟨hP, hD⟩ hS _ (lv_sub hl [4, 5, 3, 2, 1, 0] rfl) h

def fX7_best_27 (v_gw : Nat → Int32) (v_gk : Nat → Int32) (x0 : Int32) (f_net : Int32) (u_det : Int32) : Option (Nat × Int32 × Int32 × Int32) :=
  if x0 = (-1) then
    some (4, 0, f_net, u_det)
  else
    some (0, x0, f_net, u_det)
def fX7_best (f_net : Int32) (u_det : Int32) (v_gw : Nat → Int32) (v_gk : Nat → Int32) (p0 : Int32) : Option (Nat × Int32 × Int32 × Int32) :=
  (fX7_demandWhale v_gk p0).bind fun q1 =>
  if q1 = 0 then
    (fX6_hitFault u_det v_gw v_gk p0 0 1).bind fun q3 =>
    if q3.1 = 0 then
      (fX7_bestStrike f_net v_gw v_gk p0).bind fun q6 =>
      fX7_best_27 v_gw v_gk q6.1 q6.2 q3.2
    else
      fX7_best_27 v_gw v_gk (-1) f_net q3.2
  else
    some (q1, 0, f_net, u_det)
set_option maxHeartbeats 4000000 in
set_option maxRecDepth 100000 in
theorem lX7_best_27 {p : Program} {l : Launch} {e : Env} {s : State} {m : MethodId} {args : Array Value} {below : List Frame} {meth : Method} {c : Code} {Q : State → Prop} {D : va_G} {T : Nat → ClassId} {a_g a_gw a_gk a_f a_u a_r a_x a_b a_v a_h a_t a_n : Nat} {x_sav : Int32} {x_err : Int32} {x_rea : Int32} {x_det : Int32} {x_com : Int32} {v_gw : Nat → Int32} {v_gk : Nat → Int32} {A : Nat → Prop} {r : Nat × Int32 × Int32 × Int32} (C : CallFix p m c cX7_best 3 s args aw RX7) (hE : eK D T s) (hA : ∀ q : Nat, s.heap.size ≤ q → A q) (hZ : eX l A s) (hret : ThRetI p l e ({ frames := 7, cells := 2, slots := 12, locals := 140 } : Room) s m args below meth c Q cX7_best .int D A [(a_g, .inr (1, [.ref a_gw, .ref a_gk])), (a_f, .inr (0, [.ref a_g, .int r.2.2.1])), (a_u, .inr (6, [.ref a_g, .ref a_r, .int r.2.2.2])), (a_x, .inr (7, [.ref a_g, .ref a_b, .ref a_v, .ref a_h, .ref a_r, .ref a_f, .ref a_u, .ref a_t, .ref a_n, .int x_sav, .int x_err, .int x_rea, .int x_det, .int x_com])), (a_gw, .inl (T 0, 90, .inl v_gw)), (a_gk, .inl (T 0, 18, .inl v_gk))] r.1 r.2.1 ∧ ThOut p l e ({ frames := 7, cells := 2, slots := 12, locals := 140 } : Room) s m args below meth c Q D A [(a_g, .inr (1, [.ref a_gw, .ref a_gk])), (a_f, .inr (0, [.ref a_g, .int r.2.2.1])), (a_u, .inr (6, [.ref a_g, .ref a_r, .int r.2.2.2])), (a_x, .inr (7, [.ref a_g, .ref a_b, .ref a_v, .ref a_h, .ref a_r, .ref a_f, .ref a_u, .ref a_t, .ref a_n, .int x_sav, .int x_err, .int x_rea, .int x_det, .int x_com])), (a_gw, .inl (T 0, 90, .inl v_gw)), (a_gk, .inl (T 0, 18, .inl v_gk))] r.1 ∧ ThThr p l e ({ frames := 7, cells := 2, slots := 12, locals := 140 } : Room) s m args below meth c Q cX7_best RX7 D A [(a_g, .inr (1, [.ref a_gw, .ref a_gk])), (a_f, .inr (0, [.ref a_g, .int r.2.2.1])), (a_u, .inr (6, [.ref a_g, .ref a_r, .int r.2.2.2])), (a_x, .inr (7, [.ref a_g, .ref a_b, .ref a_v, .ref a_h, .ref a_r, .ref a_f, .ref a_u, .ref a_t, .ref a_n, .int x_sav, .int x_err, .int x_rea, .int x_det, .int x_com])), (a_gw, .inl (T 0, 90, .inl v_gw)), (a_gk, .inl (T 0, 18, .inl v_gk))] r.1) (x0 : Int32) (f_net : Int32) (u_det : Int32) {H : Heap} {locs : List Loc} (hPD : va_PD D A [(a_g, .inr (1, [.ref a_gw, .ref a_gk])), (a_f, .inr (0, [.ref a_g, .int f_net])), (a_u, .inr (6, [.ref a_g, .ref a_r, .int u_det])), (a_x, .inr (7, [.ref a_g, .ref a_b, .ref a_v, .ref a_h, .ref a_r, .ref a_f, .ref a_u, .ref a_t, .ref a_n, .int x_sav, .int x_err, .int x_rea, .int x_det, .int x_com])), (a_gw, .inl (T 0, 90, .inl v_gw)), (a_gk, .inl (T 0, 18, .inl v_gk))] H) (hS : va_S A s.heap H locs) (ls : Array Slot) (hl : lv_has ls 3 []) (h : fX7_best_27 v_gw v_gk x0 f_net u_det = some r) : W p l e ({ frames := 7, cells := 2, slots := 12, locals := 140 } : Room) s m args below meth c H locs 1 6 Q (F0 m 27 ls [.int x0]) := by
  have hx := C.1
  have hb := C.2.1
  obtain ⟨hP, hD⟩ := hPD
  unfold fX7_best_27 at h
  refine lv_istore_n (lv' := [(2, .int x0)]) hx hb dX7_best_27 rfl hl (by decide) rfl (fun ls hl => ?_)
  refine lv_iload_n hx hb dX7_best_28 rfl (lv_at hl 0 rfl) ?_
  refine lv_iconst (v := (-1)) hx hb dX7_best_29 (by decide) ?_
  refine lv_icmp_ne (tgt := 43) hx hb dX7_best_30 (by decide) (fun c8 => ?_) (fun c8 => ?_)
  · replace h := ite_f c8 h
    refine lv_iload_n hx hb dX7_best_43 rfl (lv_at hl 0 rfl) ?_
    replace h := Option.some.inj h
    exact hret.1 _ _ _ _ _ _ _ _ (Nat.le_of_ble_eq_true rfl) (Nat.le_of_ble_eq_true rfl) dX7_best_44 rfl (by rw [← h]) (by rw [← h] <;> rfl) (by rw [← h]; exact hP) hS
  · replace h := ite_t c8 h
    replace h := Option.some.inj h
    exact hret.2.2 _ _ _ _ _ _ _ 173 177 230 _ "no strike is good for its team" (by rw [← h]; exact thrX7_173_177_4) (by decide +kernel) dX7_best_33 dX7_best_36 (Or.inl ⟨dX7_best_37, dX7_best_39, dX7_best_42⟩) (Nat.le_of_ble_eq_true rfl) (Nat.le_of_ble_eq_true rfl) (Nat.le_of_ble_eq_true rfl) (Nat.le_of_ble_eq_true rfl) (hl.1.trans C.2.2.1.symm) (by rw [← h]; exact (Nat.le_of_ble_eq_true rfl)) (by rw [← h]; exact hP) hS
set_option maxHeartbeats 4000000 in
set_option maxRecDepth 100000 in
theorem kX7_best (l : Launch) (hnt : l.stackTraces = false) (D : va_G) (T : Nat → ClassId) (a_g a_gw a_gk a_f a_u a_r a_x a_b a_v a_h a_t a_n : Nat) (f_net : Int32) (u_det : Int32) (x_sav : Int32) (x_err : Int32) (x_rea : Int32) (x_det : Int32) (x_com : Int32) (v_gw : Nat → Int32) (v_gk : Nat → Int32) (p0 : Int32) (sz : Nat) (r : Nat × Int32 × Int32 × Int32) (h : fX7_best f_net u_det v_gw v_gk p0 = some r) : ThI l yX7_best cX7_best 3 .int ({ frames := 7, cells := 2, slots := 12, locals := 140 } : Room) D T sz [(a_g, .inr (1, [.ref a_gw, .ref a_gk])), (a_f, .inr (0, [.ref a_g, .int f_net])), (a_u, .inr (6, [.ref a_g, .ref a_r, .int u_det])), (a_x, .inr (7, [.ref a_g, .ref a_b, .ref a_v, .ref a_h, .ref a_r, .ref a_f, .ref a_u, .ref a_t, .ref a_n, .int x_sav, .int x_err, .int x_rea, .int x_det, .int x_com])), (a_gw, .inl (T 0, 90, .inl v_gw)), (a_gk, .inl (T 0, 18, .inl v_gk))] [(a_g, .inr (1, [.ref a_gw, .ref a_gk])), (a_f, .inr (0, [.ref a_g, .int r.2.2.1])), (a_u, .inr (6, [.ref a_g, .ref a_r, .int r.2.2.2])), (a_x, .inr (7, [.ref a_g, .ref a_b, .ref a_v, .ref a_h, .ref a_r, .ref a_f, .ref a_u, .ref a_t, .ref a_n, .int x_sav, .int x_err, .int x_rea, .int x_det, .int x_com])), (a_gw, .inl (T 0, 90, .inl v_gw)), (a_gk, .inl (T 0, 18, .inl v_gk))] [.ref a_x, .int p0] r.1 r.2.1 := by
  unfold fX7_best at h
  refine thMetI hnt (by decide +kernel) rfl (fun p e s m args below meth c Q A C hE hA hZ hP hD hS hret ls hl => ?_)
  have hx := C.1
  have hb := C.2.1
  have hl : lv_has ls 3 [(0, .ref a_x), (1, .int p0)] := hl
  refine lv_aload_n hx hb dX7_best_0 rfl (lv_at hl 0 rfl) ?_
  refine lv_iload_n hx hb dX7_best_1 rfl (lv_at hl 1 rfl) ?_
  replace h := bnd h; obtain ⟨q1, e2, h⟩ := h
  refine thVv (ws1 := [(a_g, .inr (1, [.ref a_gw, .ref a_gk])), (a_f, .inr (0, [.ref a_g, .int f_net])), (a_u, .inr (6, [.ref a_g, .ref a_r, .int u_det])), (a_x, .inr (7, [.ref a_g, .ref a_b, .ref a_v, .ref a_h, .ref a_r, .ref a_f, .ref a_u, .ref a_t, .ref a_n, .int x_sav, .int x_err, .int x_rea, .int x_det, .int x_com])), (a_gw, .inl (T 0, 90, .inl v_gw)), (a_gk, .inl (T 0, 18, .inl v_gk))]) C hE hZ hP hD hS hA (kX7_demandWhale l hZ.1 D T a_g a_gw a_gk a_x a_b a_v a_h a_r a_f a_u a_t a_n x_sav x_err x_rea x_det x_com v_gk p0 _ q1 e2) mX7_demandWhale qLX7_138 [0, 3, 5] [1, 2, 4] 3 rfl rfl rfl rfl rfl rfl rfl rfl rfl ⟨Nat.le_of_ble_eq_true rfl, Nat.le_of_ble_eq_true rfl⟩ rfl hl.1 rfl (Nat.le_of_ble_eq_true rfl) dX7_best_2 ⟨Nat.le_of_ble_eq_true rfl, Nat.le_of_ble_eq_true rfl⟩ ?_ ?_
  · clear hP hD hS; intro hx0 H locs ce q9 hP hD hS g1 g2 g3
    replace h := ite_f (Nat.ne_of_gt hx0) h
    replace h := Option.some.inj h
    exact hret.2.1 _ _ _ _ _ _ _ _ _ (Nat.le_of_ble_eq_true rfl) (Nat.le_of_ble_eq_true rfl) (by rw [← h]; exact hx0) (by rw [← h]; exact hP) hS g1 g2 (by rw [← h]; exact g3)
  · clear hP hD hS; intro hx0 H locs hP hD hS
    replace h := ite_t hx0 h
    refine lv_aload_n hx hb dX7_best_5 rfl (lv_at hl 0 rfl) ?_
    refine getF (q0 := 3) (k0 := 6) (v := .ref a_u) C hE hP inA7 rfl rfl (by decide) qFX7_50 rfl rfl dX7_best_6 ?_
    refine lv_iload_n hx hb dX7_best_9 rfl (lv_at hl 1 rfl) ?_
    refine lv_iconst (v := 0) hx hb dX7_best_10 (by decide) ?_
    refine lv_iconst (v := 1) hx hb dX7_best_11 (by decide) ?_
    replace h := bnd h; obtain ⟨q3, e4, h⟩ := h
    refine wrVi (ws1 := [(a_g, .inr (1, [.ref a_gw, .ref a_gk])), (a_f, .inr (0, [.ref a_g, .int f_net])), (a_u, .inr (6, [.ref a_g, .ref a_r, .int q3.2])), (a_x, .inr (7, [.ref a_g, .ref a_b, .ref a_v, .ref a_h, .ref a_r, .ref a_f, .ref a_u, .ref a_t, .ref a_n, .int x_sav, .int x_err, .int x_rea, .int x_det, .int x_com])), (a_gw, .inl (T 0, 90, .inl v_gw)), (a_gk, .inl (T 0, 18, .inl v_gk))]) C hE hP hD hS hA (kX6_hitFault l D T a_g a_gw a_gk a_u a_r u_det v_gw v_gk p0 0 1 _ q3 e4) mX6_hitFault qLX7_118 [0, 2, 4, 5] [1, 3] 2 rfl rfl rfl rfl rfl rfl rfl rfl rfl ⟨rfl, rfl⟩ ⟨Nat.le_of_ble_eq_true rfl, Nat.le_of_ble_eq_true rfl⟩ rfl hl.1 rfl (Nat.le_of_ble_eq_true rfl) dX7_best_12 ⟨Nat.le_of_ble_eq_true rfl, Nat.le_of_ble_eq_true rfl⟩ ?_; clear hP hD hS; intro H locs hP hD hS
    refine lv_if_ne (tgt := 26) hx hb dX7_best_15 (by decide) (fun c5 => ?_) (fun c5 => ?_)
    · replace h := ite_f c5 h
      refine lv_iconst (v := (-1)) hx hb dX7_best_26 (by decide) ?_
      exact lX7_best_27 C hE hA hZ hret (-1) f_net q3.2 ⟨hP, hD⟩ hS _ (lv_sub hl [] rfl) h
    · replace h := ite_t c5 h
      refine lv_aload_n hx hb dX7_best_18 rfl (lv_at hl 0 rfl) ?_
      refine lv_iload_n hx hb dX7_best_19 rfl (lv_at hl 1 rfl) ?_
      replace h := bnd h; obtain ⟨q6, e7, h⟩ := h
      refine wrVi (ws1 := [(a_g, .inr (1, [.ref a_gw, .ref a_gk])), (a_f, .inr (0, [.ref a_g, .int q6.2])), (a_u, .inr (6, [.ref a_g, .ref a_r, .int q3.2])), (a_x, .inr (7, [.ref a_g, .ref a_b, .ref a_v, .ref a_h, .ref a_r, .ref a_f, .ref a_u, .ref a_t, .ref a_n, .int x_sav, .int x_err, .int x_rea, .int x_det, .int x_com])), (a_gw, .inl (T 0, 90, .inl v_gw)), (a_gk, .inl (T 0, 18, .inl v_gk))]) C hE hP hD hS hA (kX7_bestStrike l D T a_g a_gw a_gk a_f a_x a_b a_v a_h a_r a_u a_t a_n f_net x_sav x_err x_rea x_det x_com v_gw v_gk p0 _ q6 e7) mX7_bestStrike qLX7_227 [0, 1, 3, 4, 5] [2] 3 rfl rfl rfl rfl rfl rfl rfl rfl rfl ⟨rfl, rfl⟩ ⟨Nat.le_of_ble_eq_true rfl, Nat.le_of_ble_eq_true rfl⟩ rfl hl.1 rfl (Nat.le_of_ble_eq_true rfl) dX7_best_20 ⟨Nat.le_of_ble_eq_true rfl, Nat.le_of_ble_eq_true rfl⟩ ?_; clear hP hD hS; intro H locs hP hD hS
      refine lv_goto (tgt := 27) hx hb dX7_best_23 (by decide) ?_
      exact lX7_best_27 C hE hA hZ hret q6.1 q6.2 q3.2 ⟨hP, hD⟩ hS _ (lv_sub hl [] rfl) h

def fX7_demandTeam (p0 : Int32) : Option Nat :=
  if (fX7_isTeam p0) = 0 then
    some 1
  else
    some 0
set_option maxHeartbeats 4000000 in
set_option maxRecDepth 100000 in
theorem kX7_demandTeam (l : Launch) (hnt : l.stackTraces = false) (D : va_G) (T : Nat → ClassId) (a_x : Nat) (p0 : Int32) (sz : Nat) (r : Nat) (h : fX7_demandTeam p0 = some r) : ThV l yX7_demandTeam cX7_demandTeam 2 ({ frames := 6, cells := 1, slots := 6, locals := 90 } : Room) D T sz [] [] [.ref a_x, .int p0] r := by
  unfold fX7_demandTeam at h
  refine thMetV hnt (by decide +kernel) rfl (fun p e s m args below meth c Q A C hE hA hZ hP hD hS hret ls hl => ?_)
  have hx := C.1
  have hb := C.2.1
  have hl : lv_has ls 2 [(0, .ref a_x), (1, .int p0)] := hl
  refine lv_iload_n hx hb dX7_demandTeam_0 rfl (lv_at hl 1 rfl) ?_
  refine rdS C hE hP (kX7_isTeam l D T p0) mX7_isTeam qLX7_396 [] rfl ⟨rfl, rfl⟩ ⟨Nat.le_of_ble_eq_true rfl, Nat.le_of_ble_eq_true rfl⟩ rfl hl.1 rfl (Nat.le_of_ble_eq_true rfl) dX7_demandTeam_1 ⟨Nat.le_of_ble_eq_true rfl, Nat.le_of_ble_eq_true rfl⟩ ?_
  refine lv_if_ne (tgt := 18) hx hb dX7_demandTeam_4 (by decide) (fun c1 => ?_) (fun c1 => ?_)
  · replace h := ite_f c1 h
    replace h := Option.some.inj h
    exact hret.1 _ _ _ _ _ _ (Nat.le_of_ble_eq_true rfl) (Nat.le_of_ble_eq_true rfl) dX7_demandTeam_18 (by rw [← h]) hP hS
  · replace h := ite_t c1 h
    replace h := Option.some.inj h
    exact hret.2.2 _ _ _ _ _ _ _ 141 145 399 _ "no such team" (by rw [← h]; exact thrX7_141_145_1) (by decide +kernel) dX7_demandTeam_7 dX7_demandTeam_10 (Or.inr ⟨dX7_demandTeam_11, dX7_demandTeam_14, dX7_demandTeam_17⟩) (Nat.le_of_ble_eq_true rfl) (Nat.le_of_ble_eq_true rfl) (Nat.le_of_ble_eq_true rfl) (Nat.le_of_ble_eq_true rfl) (hl.1.trans C.2.2.1.symm) (by rw [← h]; exact (Nat.le_of_ble_eq_true rfl)) hP hS

def fX7_beside_48 (v_gw : Nat → Int32) (v_gk : Nat → Int32) (rec9 : Int32 → Int32 → Int32 → Option (Nat × Int32)) (l1 : Int32) (l2 : Int32) (l3 : Int32) : Option (Nat × Int32) :=
  rec9 l1 l2 (l3 + 1)
def fX7_beside_9 (v_gw : Nat → Int32) (v_gk : Nat → Int32) : Nat → Int32 → Int32 → Int32 → Option (Nat × Int32)
  | 0, _, _, _ => none
  | k + 1, l1, l2, l3 =>
    (fX1_count v_gk 0).bind fun q3 =>
    if q3 ≤ l3 then
      some (0, l2)
    else
      (fX1_of v_gw l3 0).bind fun q6 =>
      if q6 = l1 then
        (fX1_isNearBuoy v_gw v_gk l3).bind fun q9 =>
        fX7_beside_48 v_gw v_gk (fX7_beside_9 v_gw v_gk k) l1 (if q9 = 0 then l2 else (l2 + 1)) l3
      else
        fX7_beside_48 v_gw v_gk (fX7_beside_9 v_gw v_gk k) l1 l2 l3
def fX7_beside (v_gw : Nat → Int32) (v_gk : Nat → Int32) (p0 : Int32) : Option (Nat × Int32) :=
  (fX7_demandTeam p0).bind fun q1 =>
  if q1 = 0 then
    fX7_beside_9 v_gw v_gk 64 p0 0 0
  else
    some (q1, 0)
set_option maxHeartbeats 4000000 in
set_option maxRecDepth 100000 in
theorem lX7_beside_48 {p : Program} {l : Launch} {e : Env} {s : State} {m : MethodId} {args : Array Value} {below : List Frame} {meth : Method} {c : Code} {Q : State → Prop} {D : va_G} {T : Nat → ClassId} {a_g a_gw a_gk a_x a_b a_v a_h a_r a_f a_u a_t a_n : Nat} {x_sav : Int32} {x_err : Int32} {x_rea : Int32} {x_det : Int32} {x_com : Int32} {v_gw : Nat → Int32} {v_gk : Nat → Int32} {A : Nat → Prop} {r : Nat × Int32} (C : CallFix p m c cX7_beside 4 s args aw RX7) (hE : eK D T s) (hA : ∀ q : Nat, s.heap.size ≤ q → A q) (hZ : eX l A s) (hret : ThRetI p l e ({ frames := 7, cells := 1, slots := 6, locals := 111 } : Room) s m args below meth c Q cX7_beside .int D A [(a_g, .inr (1, [.ref a_gw, .ref a_gk])), (a_x, .inr (7, [.ref a_g, .ref a_b, .ref a_v, .ref a_h, .ref a_r, .ref a_f, .ref a_u, .ref a_t, .ref a_n, .int x_sav, .int x_err, .int x_rea, .int x_det, .int x_com])), (a_gw, .inl (T 0, 90, .inl v_gw)), (a_gk, .inl (T 0, 18, .inl v_gk))] r.1 r.2 ∧ ThOut p l e ({ frames := 7, cells := 1, slots := 6, locals := 111 } : Room) s m args below meth c Q D A [(a_g, .inr (1, [.ref a_gw, .ref a_gk])), (a_x, .inr (7, [.ref a_g, .ref a_b, .ref a_v, .ref a_h, .ref a_r, .ref a_f, .ref a_u, .ref a_t, .ref a_n, .int x_sav, .int x_err, .int x_rea, .int x_det, .int x_com])), (a_gw, .inl (T 0, 90, .inl v_gw)), (a_gk, .inl (T 0, 18, .inl v_gk))] r.1 ∧ ThThr p l e ({ frames := 7, cells := 1, slots := 6, locals := 111 } : Room) s m args below meth c Q cX7_beside RX7 D A [(a_g, .inr (1, [.ref a_gw, .ref a_gk])), (a_x, .inr (7, [.ref a_g, .ref a_b, .ref a_v, .ref a_h, .ref a_r, .ref a_f, .ref a_u, .ref a_t, .ref a_n, .int x_sav, .int x_err, .int x_rea, .int x_det, .int x_com])), (a_gw, .inl (T 0, 90, .inl v_gw)), (a_gk, .inl (T 0, 18, .inl v_gk))] r.1) {rec9 : Int32 → Int32 → Int32 → Option (Nat × Int32)} (hrec9 : ∀ (l1 : Int32) (l2 : Int32) (l3 : Int32) {H : Heap} {locs : List Loc} (hPD : va_PD D A [(a_g, .inr (1, [.ref a_gw, .ref a_gk])), (a_x, .inr (7, [.ref a_g, .ref a_b, .ref a_v, .ref a_h, .ref a_r, .ref a_f, .ref a_u, .ref a_t, .ref a_n, .int x_sav, .int x_err, .int x_rea, .int x_det, .int x_com])), (a_gw, .inl (T 0, 90, .inl v_gw)), (a_gk, .inl (T 0, 18, .inl v_gk))] H) (hS : va_S A s.heap H locs) (ls : Array Slot) (hl : lv_has ls 4 [(0, .ref a_x), (1, .int l1), (2, .int l2), (3, .int l3)]) (h : rec9 l1 l2 l3 = some r), W p l e ({ frames := 7, cells := 1, slots := 6, locals := 111 } : Room) s m args below meth c H locs 1 6 Q (F0 m 9 ls [])) (l1 : Int32) (l2 : Int32) (l3 : Int32) {H : Heap} {locs : List Loc} (hPD : va_PD D A [(a_g, .inr (1, [.ref a_gw, .ref a_gk])), (a_x, .inr (7, [.ref a_g, .ref a_b, .ref a_v, .ref a_h, .ref a_r, .ref a_f, .ref a_u, .ref a_t, .ref a_n, .int x_sav, .int x_err, .int x_rea, .int x_det, .int x_com])), (a_gw, .inl (T 0, 90, .inl v_gw)), (a_gk, .inl (T 0, 18, .inl v_gk))] H) (hS : va_S A s.heap H locs) (ls : Array Slot) (hl : lv_has ls 4 [(0, .ref a_x), (1, .int l1), (2, .int l2), (3, .int l3)]) (h : fX7_beside_48 v_gw v_gk rec9 l1 l2 l3 = some r) : W p l e ({ frames := 7, cells := 1, slots := 6, locals := 111 } : Room) s m args below meth c H locs 1 6 Q (F0 m 48 ls []) := by
  have hx := C.1
  have hb := C.2.1
  obtain ⟨hP, hD⟩ := hPD
  unfold fX7_beside_48 at h
  refine lv_iinc (v := (l3 + 1)) (lv' := [(3, .int (l3 + 1)), (0, .ref a_x), (1, .int l1), (2, .int l2)]) hx hb dX7_beside_48 hl (k := 3) rfl rfl (by decide) rfl (fun ls hl => ?_)
  refine lv_goto (tgt := 9) hx hb dX7_beside_51 (by decide) ?_
  exact hrec9 l1 l2 (l3 + 1) ⟨hP, hD⟩ hS _ (lv_sub hl [1, 2, 3, 0] rfl) h
set_option maxHeartbeats 4000000 in
set_option maxRecDepth 100000 in
theorem lX7_beside_9 {p : Program} {l : Launch} {e : Env} {s : State} {m : MethodId} {args : Array Value} {below : List Frame} {meth : Method} {c : Code} {Q : State → Prop} {D : va_G} {T : Nat → ClassId} {a_g a_gw a_gk a_x a_b a_v a_h a_r a_f a_u a_t a_n : Nat} {x_sav : Int32} {x_err : Int32} {x_rea : Int32} {x_det : Int32} {x_com : Int32} {v_gw : Nat → Int32} {v_gk : Nat → Int32} {A : Nat → Prop} {r : Nat × Int32} (C : CallFix p m c cX7_beside 4 s args aw RX7) (hE : eK D T s) (hA : ∀ q : Nat, s.heap.size ≤ q → A q) (hZ : eX l A s) (hret : ThRetI p l e ({ frames := 7, cells := 1, slots := 6, locals := 111 } : Room) s m args below meth c Q cX7_beside .int D A [(a_g, .inr (1, [.ref a_gw, .ref a_gk])), (a_x, .inr (7, [.ref a_g, .ref a_b, .ref a_v, .ref a_h, .ref a_r, .ref a_f, .ref a_u, .ref a_t, .ref a_n, .int x_sav, .int x_err, .int x_rea, .int x_det, .int x_com])), (a_gw, .inl (T 0, 90, .inl v_gw)), (a_gk, .inl (T 0, 18, .inl v_gk))] r.1 r.2 ∧ ThOut p l e ({ frames := 7, cells := 1, slots := 6, locals := 111 } : Room) s m args below meth c Q D A [(a_g, .inr (1, [.ref a_gw, .ref a_gk])), (a_x, .inr (7, [.ref a_g, .ref a_b, .ref a_v, .ref a_h, .ref a_r, .ref a_f, .ref a_u, .ref a_t, .ref a_n, .int x_sav, .int x_err, .int x_rea, .int x_det, .int x_com])), (a_gw, .inl (T 0, 90, .inl v_gw)), (a_gk, .inl (T 0, 18, .inl v_gk))] r.1 ∧ ThThr p l e ({ frames := 7, cells := 1, slots := 6, locals := 111 } : Room) s m args below meth c Q cX7_beside RX7 D A [(a_g, .inr (1, [.ref a_gw, .ref a_gk])), (a_x, .inr (7, [.ref a_g, .ref a_b, .ref a_v, .ref a_h, .ref a_r, .ref a_f, .ref a_u, .ref a_t, .ref a_n, .int x_sav, .int x_err, .int x_rea, .int x_det, .int x_com])), (a_gw, .inl (T 0, 90, .inl v_gw)), (a_gk, .inl (T 0, 18, .inl v_gk))] r.1) : ∀ (k : Nat) (l1 : Int32) (l2 : Int32) (l3 : Int32) {H : Heap} {locs : List Loc} (hPD : va_PD D A [(a_g, .inr (1, [.ref a_gw, .ref a_gk])), (a_x, .inr (7, [.ref a_g, .ref a_b, .ref a_v, .ref a_h, .ref a_r, .ref a_f, .ref a_u, .ref a_t, .ref a_n, .int x_sav, .int x_err, .int x_rea, .int x_det, .int x_com])), (a_gw, .inl (T 0, 90, .inl v_gw)), (a_gk, .inl (T 0, 18, .inl v_gk))] H) (hS : va_S A s.heap H locs) (ls : Array Slot) (hl : lv_has ls 4 [(0, .ref a_x), (1, .int l1), (2, .int l2), (3, .int l3)]) (h : fX7_beside_9 v_gw v_gk k l1 l2 l3 = some r), W p l e ({ frames := 7, cells := 1, slots := 6, locals := 111 } : Room) s m args below meth c H locs 1 6 Q (F0 m 9 ls []) := by
  have hx := C.1
  have hb := C.2.1
  intro k
  induction k with
  | zero =>
    intro l1 l2 l3 H locs hPD hS ls hl h
    exact nomatch (show (none : Option (Nat × Int32)) = some r from h)
  | succ k ih =>
    intro l1 l2 l3 H locs hPD hS ls hl h
    obtain ⟨hP, hD⟩ := hPD
    rw [fX7_beside_9] at h
    refine lv_iload_n hx hb dX7_beside_9 rfl (lv_at hl 3 rfl) ?_
    refine lv_aload_n hx hb dX7_beside_10 rfl (lv_at hl 0 rfl) ?_
    refine getF (q0 := 1) (k0 := 0) (v := .ref a_g) C hE hP inA7 rfl rfl (by decide) qFX7_10 rfl rfl dX7_beside_11 ?_
    refine lv_iconst (v := 0) hx hb dX7_beside_14 (by decide) ?_
    replace h := bnd h; obtain ⟨q3, e4, h⟩ := h
    refine rdV C hE hP (kX1_count l D T a_g a_gw a_gk v_gk 0 q3 e4) mX1_count qLX7_235 [0, 3] 0 rfl rfl rfl rfl ⟨rfl, rfl⟩ ⟨Nat.le_of_ble_eq_true rfl, Nat.le_of_ble_eq_true rfl⟩ rfl hl.1 rfl (Nat.le_of_ble_eq_true rfl) dX7_beside_15 ⟨Nat.le_of_ble_eq_true rfl, Nat.le_of_ble_eq_true rfl⟩ ?_
    refine lv_icmp_ge (tgt := 54) hx hb dX7_beside_18 (by decide) (fun c5 => ?_) (fun c5 => ?_)
    · replace h := ite_t c5 h
      refine lv_iload_n hx hb dX7_beside_54 rfl (lv_at hl 2 rfl) ?_
      replace h := Option.some.inj h
      exact hret.1 _ _ _ _ _ _ _ _ (Nat.le_of_ble_eq_true rfl) (Nat.le_of_ble_eq_true rfl) dX7_beside_55 rfl (by rw [← h]) (by rw [← h] <;> rfl) hP hS
    · replace h := ite_f c5 h
      refine lv_aload_n hx hb dX7_beside_21 rfl (lv_at hl 0 rfl) ?_
      refine getF (q0 := 1) (k0 := 0) (v := .ref a_g) C hE hP inA7 rfl rfl (by decide) qFX7_10 rfl rfl dX7_beside_22 ?_
      refine lv_iload_n hx hb dX7_beside_25 rfl (lv_at hl 3 rfl) ?_
      refine lv_iconst (v := 0) hx hb dX7_beside_26 (by decide) ?_
      replace h := bnd h; obtain ⟨q6, e7, h⟩ := h
      refine rdV C hE hP (kX1_of l D T a_g a_gw a_gk v_gw l3 0 q6 e7) mX1_of qLX7_148 [0, 2] 0 rfl rfl rfl rfl ⟨rfl, rfl⟩ ⟨Nat.le_of_ble_eq_true rfl, Nat.le_of_ble_eq_true rfl⟩ rfl hl.1 rfl (Nat.le_of_ble_eq_true rfl) dX7_beside_27 ⟨Nat.le_of_ble_eq_true rfl, Nat.le_of_ble_eq_true rfl⟩ ?_
      refine lv_iload_n hx hb dX7_beside_30 rfl (lv_at hl 1 rfl) ?_
      refine lv_icmp_ne (tgt := 48) hx hb dX7_beside_31 (by decide) (fun c8 => ?_) (fun c8 => ?_)
      · replace h := ite_f c8 h
        exact lX7_beside_48 C hE hA hZ hret ih l1 l2 l3 ⟨hP, hD⟩ hS _ (lv_sub hl [0, 1, 2, 3] rfl) h
      · replace h := ite_t c8 h
        refine lv_aload_n hx hb dX7_beside_34 rfl (lv_at hl 0 rfl) ?_
        refine getF (q0 := 1) (k0 := 0) (v := .ref a_g) C hE hP inA7 rfl rfl (by decide) qFX7_10 rfl rfl dX7_beside_35 ?_
        refine lv_iload_n hx hb dX7_beside_38 rfl (lv_at hl 3 rfl) ?_
        replace h := bnd h; obtain ⟨q9, e10, h⟩ := h
        refine rdV C hE hP (kX1_isNearBuoy l D T a_g a_gw a_gk v_gw v_gk l3 q9 e10) mX1_isNearBuoy qLX7_238 [0, 2, 3] 0 rfl rfl rfl rfl ⟨rfl, rfl⟩ ⟨Nat.le_of_ble_eq_true rfl, Nat.le_of_ble_eq_true rfl⟩ rfl hl.1 rfl (Nat.le_of_ble_eq_true rfl) dX7_beside_39 ⟨Nat.le_of_ble_eq_true rfl, Nat.le_of_ble_eq_true rfl⟩ ?_
        refine lv_if_eq (tgt := 48) hx hb dX7_beside_42 (by decide) (fun c11 => ?_) (fun c11 => ?_)
        · rw [if_pos c11] at h
          exact lX7_beside_48 C hE hA hZ hret ih l1 l2 l3 ⟨hP, hD⟩ hS _ (lv_sub hl [0, 1, 2, 3] rfl) h
        · rw [if_neg c11] at h
          refine lv_iinc (v := (l2 + 1)) (lv' := [(2, .int (l2 + 1)), (0, .ref a_x), (1, .int l1), (3, .int l3)]) hx hb dX7_beside_45 hl (k := 2) rfl rfl (by decide) rfl (fun ls hl => ?_)
          exact lX7_beside_48 C hE hA hZ hret ih l1 (l2 + 1) l3 ⟨hP, hD⟩ hS _ (lv_sub hl [1, 2, 0, 3] rfl) h
set_option maxHeartbeats 4000000 in
set_option maxRecDepth 100000 in
theorem kX7_beside (l : Launch) (hnt : l.stackTraces = false) (D : va_G) (T : Nat → ClassId) (a_g a_gw a_gk a_x a_b a_v a_h a_r a_f a_u a_t a_n : Nat) (x_sav : Int32) (x_err : Int32) (x_rea : Int32) (x_det : Int32) (x_com : Int32) (v_gw : Nat → Int32) (v_gk : Nat → Int32) (p0 : Int32) (sz : Nat) (r : Nat × Int32) (h : fX7_beside v_gw v_gk p0 = some r) : ThI l yX7_beside cX7_beside 4 .int ({ frames := 7, cells := 1, slots := 6, locals := 111 } : Room) D T sz [(a_g, .inr (1, [.ref a_gw, .ref a_gk])), (a_x, .inr (7, [.ref a_g, .ref a_b, .ref a_v, .ref a_h, .ref a_r, .ref a_f, .ref a_u, .ref a_t, .ref a_n, .int x_sav, .int x_err, .int x_rea, .int x_det, .int x_com])), (a_gw, .inl (T 0, 90, .inl v_gw)), (a_gk, .inl (T 0, 18, .inl v_gk))] [(a_g, .inr (1, [.ref a_gw, .ref a_gk])), (a_x, .inr (7, [.ref a_g, .ref a_b, .ref a_v, .ref a_h, .ref a_r, .ref a_f, .ref a_u, .ref a_t, .ref a_n, .int x_sav, .int x_err, .int x_rea, .int x_det, .int x_com])), (a_gw, .inl (T 0, 90, .inl v_gw)), (a_gk, .inl (T 0, 18, .inl v_gk))] [.ref a_x, .int p0] r.1 r.2 := by
  unfold fX7_beside at h
  refine thMetI hnt (by decide +kernel) rfl (fun p e s m args below meth c Q A C hE hA hZ hP hD hS hret ls hl => ?_)
  have hx := C.1
  have hb := C.2.1
  have hl : lv_has ls 4 [(0, .ref a_x), (1, .int p0)] := hl
  refine lv_aload_n hx hb dX7_beside_0 rfl (lv_at hl 0 rfl) ?_
  refine lv_iload_n hx hb dX7_beside_1 rfl (lv_at hl 1 rfl) ?_
  replace h := bnd h; obtain ⟨q1, e2, h⟩ := h
  refine thVv (ws1 := [(a_g, .inr (1, [.ref a_gw, .ref a_gk])), (a_x, .inr (7, [.ref a_g, .ref a_b, .ref a_v, .ref a_h, .ref a_r, .ref a_f, .ref a_u, .ref a_t, .ref a_n, .int x_sav, .int x_err, .int x_rea, .int x_det, .int x_com])), (a_gw, .inl (T 0, 90, .inl v_gw)), (a_gk, .inl (T 0, 18, .inl v_gk))]) C hE hZ hP hD hS hA (kX7_demandTeam l hZ.1 D T a_x p0 _ q1 e2) mX7_demandTeam qLX7_232 [] [0, 1, 2, 3] 1 rfl rfl rfl rfl rfl rfl rfl rfl rfl ⟨Nat.le_of_ble_eq_true rfl, Nat.le_of_ble_eq_true rfl⟩ rfl hl.1 rfl (Nat.le_of_ble_eq_true rfl) dX7_beside_2 ⟨Nat.le_of_ble_eq_true rfl, Nat.le_of_ble_eq_true rfl⟩ ?_ ?_
  · clear hP hD hS; intro hx0 H locs ce q9 hP hD hS g1 g2 g3
    replace h := ite_f (Nat.ne_of_gt hx0) h
    replace h := Option.some.inj h
    exact hret.2.1 _ _ _ _ _ _ _ _ _ (Nat.le_of_ble_eq_true rfl) (Nat.le_of_ble_eq_true rfl) (by rw [← h]; exact hx0) hP hS g1 g2 (by rw [← h]; exact g3)
  · clear hP hD hS; intro hx0 H locs hP hD hS
    replace h := ite_t hx0 h
    refine lv_iconst (v := 0) hx hb dX7_beside_5 (by decide) ?_
    refine lv_istore_n (lv' := [(2, .int 0), (0, .ref a_x), (1, .int p0)]) hx hb dX7_beside_6 rfl hl (by decide) rfl (fun ls hl => ?_)
    refine lv_iconst (v := 0) hx hb dX7_beside_7 (by decide) ?_
    refine lv_istore_n (lv' := [(3, .int 0), (2, .int 0), (0, .ref a_x), (1, .int p0)]) hx hb dX7_beside_8 rfl hl (by decide) rfl (fun ls hl => ?_)
    exact lX7_beside_9 C hE hA hZ hret 64 p0 0 0 ⟨hP, hD⟩ hS _ (lv_sub hl [2, 3, 1, 0] rfl) h

def fX7_measure (v_gw : Nat → Int32) (p0 : Int32) (p1 : Int32) : Option Int32 :=
  if p0 = 0 then
    (fX1_of v_gw p1 3).bind fun q2 =>
    some q2
  else
    if p0 = 1 then
      (fX1_of v_gw p1 6).bind fun q5 =>
      some q5
    else
      if p0 = 2 then
        (fX1_of v_gw p1 7).bind fun q8 =>
        some q8
      else
        if p0 = 3 then
          (fX1_of v_gw p1 8).bind fun q11 =>
          some q11
        else
          (fX1_of v_gw p1 1).bind fun q13 =>
          (fX1_of v_gw p1 2).bind fun q15 =>
          some (q13 + q15)
set_option maxHeartbeats 4000000 in
set_option maxRecDepth 100000 in
theorem kX7_measure (l : Launch) (D : va_G) (T : Nat → ClassId) (a_g a_gw a_gk a_x a_b a_v a_h a_r a_f a_u a_t a_n : Nat) (x_sav : Int32) (x_err : Int32) (x_rea : Int32) (x_det : Int32) (x_com : Int32) (v_gw : Nat → Int32) (p0 : Int32) (p1 : Int32) (r : Int32) (h : fX7_measure v_gw p0 p1 = some r) : RdI l yX7_measure cX7_measure 3 .int ({ frames := 1, cells := 0, slots := 0, locals := 23 } : Room) D T [(a_g, .inr (1, [.ref a_gw, .ref a_gk])), (a_x, .inr (7, [.ref a_g, .ref a_b, .ref a_v, .ref a_h, .ref a_r, .ref a_f, .ref a_u, .ref a_t, .ref a_n, .int x_sav, .int x_err, .int x_rea, .int x_det, .int x_com])), (a_gw, .inl (T 0, 90, .inl v_gw))] [.ref a_x, .int p0, .int p1] r := by
  unfold fX7_measure at h
  refine rdMet (by decide +kernel) rfl (fun p e s m args below meth c Q C hE hP hret ls hl => ?_)
  have hx := C.1
  have hb := C.2.1
  have hl : lv_has ls 3 [(0, .ref a_x), (1, .int p0), (2, .int p1)] := hl
  refine lv_iload_n hx hb dX7_measure_0 rfl (lv_at hl 1 rfl) ?_
  by_cases c1 : p0 = 0
  · replace h := ite_t c1 h
    refine lv_tableIn (tgt := 32) hx hb dX7_measure_1 (by rw [c1]; decide) (by rw [c1]; decide) (by rw [c1]; rfl) (by decide) ?_
    refine lv_aload_n hx hb dX7_measure_32 rfl (lv_at hl 0 rfl) ?_
    refine getF (q0 := 1) (k0 := 0) (v := .ref a_g) C hE hP inA7 rfl rfl (by decide) qFX7_10 rfl rfl dX7_measure_33 ?_
    refine lv_iload_n hx hb dX7_measure_36 rfl (lv_at hl 2 rfl) ?_
    refine lv_iconst (v := 3) hx hb dX7_measure_37 (by decide) ?_
    replace h := bnd h; obtain ⟨q2, e3, h⟩ := h
    refine rdV C hE hP (kX1_of l D T a_g a_gw a_gk v_gw p1 3 q2 e3) mX1_of qLX7_148 [0, 2] 0 rfl rfl rfl rfl ⟨rfl, rfl⟩ ⟨Nat.le_of_ble_eq_true rfl, Nat.le_of_ble_eq_true rfl⟩ rfl hl.1 rfl (Nat.le_of_ble_eq_true rfl) dX7_measure_38 ⟨Nat.le_of_ble_eq_true rfl, Nat.le_of_ble_eq_true rfl⟩ ?_
    exact hret _ _ _ _ dX7_measure_41 rfl (Option.some.inj h)
  · replace h := ite_f c1 h
    by_cases c4 : p0 = 1
    · replace h := ite_t c4 h
      refine lv_tableIn (tgt := 42) hx hb dX7_measure_1 (by rw [c4]; decide) (by rw [c4]; decide) (by rw [c4]; rfl) (by decide) ?_
      refine lv_aload_n hx hb dX7_measure_42 rfl (lv_at hl 0 rfl) ?_
      refine getF (q0 := 1) (k0 := 0) (v := .ref a_g) C hE hP inA7 rfl rfl (by decide) qFX7_10 rfl rfl dX7_measure_43 ?_
      refine lv_iload_n hx hb dX7_measure_46 rfl (lv_at hl 2 rfl) ?_
      refine lv_bipush (v := 6) hx hb dX7_measure_47 (by decide) ?_
      replace h := bnd h; obtain ⟨q5, e6, h⟩ := h
      refine rdV C hE hP (kX1_of l D T a_g a_gw a_gk v_gw p1 6 q5 e6) mX1_of qLX7_148 [0, 2] 0 rfl rfl rfl rfl ⟨rfl, rfl⟩ ⟨Nat.le_of_ble_eq_true rfl, Nat.le_of_ble_eq_true rfl⟩ rfl hl.1 rfl (Nat.le_of_ble_eq_true rfl) dX7_measure_49 ⟨Nat.le_of_ble_eq_true rfl, Nat.le_of_ble_eq_true rfl⟩ ?_
      exact hret _ _ _ _ dX7_measure_52 rfl (Option.some.inj h)
    · replace h := ite_f c4 h
      by_cases c7 : p0 = 2
      · replace h := ite_t c7 h
        refine lv_tableIn (tgt := 53) hx hb dX7_measure_1 (by rw [c7]; decide) (by rw [c7]; decide) (by rw [c7]; rfl) (by decide) ?_
        refine lv_aload_n hx hb dX7_measure_53 rfl (lv_at hl 0 rfl) ?_
        refine getF (q0 := 1) (k0 := 0) (v := .ref a_g) C hE hP inA7 rfl rfl (by decide) qFX7_10 rfl rfl dX7_measure_54 ?_
        refine lv_iload_n hx hb dX7_measure_57 rfl (lv_at hl 2 rfl) ?_
        refine lv_bipush (v := 7) hx hb dX7_measure_58 (by decide) ?_
        replace h := bnd h; obtain ⟨q8, e9, h⟩ := h
        refine rdV C hE hP (kX1_of l D T a_g a_gw a_gk v_gw p1 7 q8 e9) mX1_of qLX7_148 [0, 2] 0 rfl rfl rfl rfl ⟨rfl, rfl⟩ ⟨Nat.le_of_ble_eq_true rfl, Nat.le_of_ble_eq_true rfl⟩ rfl hl.1 rfl (Nat.le_of_ble_eq_true rfl) dX7_measure_60 ⟨Nat.le_of_ble_eq_true rfl, Nat.le_of_ble_eq_true rfl⟩ ?_
        exact hret _ _ _ _ dX7_measure_63 rfl (Option.some.inj h)
      · replace h := ite_f c7 h
        by_cases c10 : p0 = 3
        · replace h := ite_t c10 h
          refine lv_tableIn (tgt := 64) hx hb dX7_measure_1 (by rw [c10]; decide) (by rw [c10]; decide) (by rw [c10]; rfl) (by decide) ?_
          refine lv_aload_n hx hb dX7_measure_64 rfl (lv_at hl 0 rfl) ?_
          refine getF (q0 := 1) (k0 := 0) (v := .ref a_g) C hE hP inA7 rfl rfl (by decide) qFX7_10 rfl rfl dX7_measure_65 ?_
          refine lv_iload_n hx hb dX7_measure_68 rfl (lv_at hl 2 rfl) ?_
          refine lv_bipush (v := 8) hx hb dX7_measure_69 (by decide) ?_
          replace h := bnd h; obtain ⟨q11, e12, h⟩ := h
          refine rdV C hE hP (kX1_of l D T a_g a_gw a_gk v_gw p1 8 q11 e12) mX1_of qLX7_148 [0, 2] 0 rfl rfl rfl rfl ⟨rfl, rfl⟩ ⟨Nat.le_of_ble_eq_true rfl, Nat.le_of_ble_eq_true rfl⟩ rfl hl.1 rfl (Nat.le_of_ble_eq_true rfl) dX7_measure_71 ⟨Nat.le_of_ble_eq_true rfl, Nat.le_of_ble_eq_true rfl⟩ ?_
          exact hret _ _ _ _ dX7_measure_74 rfl (Option.some.inj h)
        · replace h := ite_f c10 h
          refine lv_tableOut (tgt := 75) hx hb dX7_measure_1 (by have t0 := tI 0 rfl c1; have t1 := tI 1 rfl c4; have t2 := tI 2 rfl c7; have t3 := tI 3 rfl c10; omega) (by decide) ?_
          refine lv_aload_n hx hb dX7_measure_75 rfl (lv_at hl 0 rfl) ?_
          refine getF (q0 := 1) (k0 := 0) (v := .ref a_g) C hE hP inA7 rfl rfl (by decide) qFX7_10 rfl rfl dX7_measure_76 ?_
          refine lv_iload_n hx hb dX7_measure_79 rfl (lv_at hl 2 rfl) ?_
          refine lv_iconst (v := 1) hx hb dX7_measure_80 (by decide) ?_
          replace h := bnd h; obtain ⟨q13, e14, h⟩ := h
          refine rdV C hE hP (kX1_of l D T a_g a_gw a_gk v_gw p1 1 q13 e14) mX1_of qLX7_148 [0, 2] 0 rfl rfl rfl rfl ⟨rfl, rfl⟩ ⟨Nat.le_of_ble_eq_true rfl, Nat.le_of_ble_eq_true rfl⟩ rfl hl.1 rfl (Nat.le_of_ble_eq_true rfl) dX7_measure_81 ⟨Nat.le_of_ble_eq_true rfl, Nat.le_of_ble_eq_true rfl⟩ ?_
          refine lv_aload_n hx hb dX7_measure_84 rfl (lv_at hl 0 rfl) ?_
          refine getF (q0 := 1) (k0 := 0) (v := .ref a_g) C hE hP inA7 rfl rfl (by decide) qFX7_10 rfl rfl dX7_measure_85 ?_
          refine lv_iload_n hx hb dX7_measure_88 rfl (lv_at hl 2 rfl) ?_
          refine lv_iconst (v := 2) hx hb dX7_measure_89 (by decide) ?_
          replace h := bnd h; obtain ⟨q15, e16, h⟩ := h
          refine rdV C hE hP (kX1_of l D T a_g a_gw a_gk v_gw p1 2 q15 e16) mX1_of qLX7_148 [0, 2] 0 rfl rfl rfl rfl ⟨rfl, rfl⟩ ⟨Nat.le_of_ble_eq_true rfl, Nat.le_of_ble_eq_true rfl⟩ rfl hl.1 rfl (Nat.le_of_ble_eq_true rfl) dX7_measure_90 ⟨Nat.le_of_ble_eq_true rfl, Nat.le_of_ble_eq_true rfl⟩ ?_
          refine lv_iadd hx hb dX7_measure_93 ?_
          exact hret _ _ _ _ dX7_measure_94 rfl (Option.some.inj h)

def fX7_countAhead_56 (v_gw : Nat → Int32) (v_gk : Nat → Int32) (rec13 : Int32 → Int32 → Int32 → Int32 → Int32 → Option Int32) (l1 : Int32) (l2 : Int32) (l3 : Int32) (l4 : Int32) (l5 : Int32) : Option Int32 :=
  rec13 l1 l2 l3 l4 (l5 + 1)
def fX7_countAhead_53 (v_gw : Nat → Int32) (v_gk : Nat → Int32) (rec13 : Int32 → Int32 → Int32 → Int32 → Int32 → Option Int32) (l1 : Int32) (l2 : Int32) (l3 : Int32) (l4 : Int32) (l5 : Int32) : Option Int32 :=
  fX7_countAhead_56 v_gw v_gk rec13 l1 l2 l3 (l4 + 1) l5
def fX7_countAhead_13 (v_gw : Nat → Int32) (v_gk : Nat → Int32) : Nat → Int32 → Int32 → Int32 → Int32 → Int32 → Option Int32
  | 0, _, _, _, _, _ => none
  | k + 1, l1, l2, l3, l4, l5 =>
    (fX1_count v_gk 0).bind fun q3 =>
    if q3 ≤ l5 then
      some l4
    else
      (fX7_measure v_gw l1 l5).bind fun q6 =>
      if l3 < q6 then
        fX7_countAhead_53 v_gw v_gk (fX7_countAhead_13 v_gw v_gk k) l1 l2 l3 l4 l5
      else
        if q6 = l3 then
          if l2 ≤ l5 then
            fX7_countAhead_56 v_gw v_gk (fX7_countAhead_13 v_gw v_gk k) l1 l2 l3 l4 l5
          else
            fX7_countAhead_53 v_gw v_gk (fX7_countAhead_13 v_gw v_gk k) l1 l2 l3 l4 l5
        else
          fX7_countAhead_56 v_gw v_gk (fX7_countAhead_13 v_gw v_gk k) l1 l2 l3 l4 l5
def fX7_countAhead (v_gw : Nat → Int32) (v_gk : Nat → Int32) (p0 : Int32) (p1 : Int32) : Option Int32 :=
  (fX7_measure v_gw p0 p1).bind fun q1 =>
  fX7_countAhead_13 v_gw v_gk 64 p0 p1 q1 0 0
set_option maxHeartbeats 4000000 in
set_option maxRecDepth 100000 in
theorem lX7_countAhead_56 {p : Program} {l : Launch} {e : Env} {s : State} {m : MethodId} {args : Array Value} {below : List Frame} {meth : Method} {c : Code} {Q : State → Prop} {D : va_G} {T : Nat → ClassId} {a_g a_gw a_gk a_x a_b a_v a_h a_r a_f a_u a_t a_n : Nat} {x_sav : Int32} {x_err : Int32} {x_rea : Int32} {x_det : Int32} {x_com : Int32} {v_gw : Nat → Int32} {v_gk : Nat → Int32} {r : Int32} (C : CallFix p m c cX7_countAhead 7 s args aw RX7) (hE : eK D T s) (hP : va_P D kC [(a_g, .inr (1, [.ref a_gw, .ref a_gk])), (a_x, .inr (7, [.ref a_g, .ref a_b, .ref a_v, .ref a_h, .ref a_r, .ref a_f, .ref a_u, .ref a_t, .ref a_n, .int x_sav, .int x_err, .int x_rea, .int x_det, .int x_com])), (a_gw, .inl (T 0, 90, .inl v_gw)), (a_gk, .inl (T 0, 18, .inl v_gk))] s.heap) (hret : RdRet p l e ({ frames := 2, cells := 0, slots := 0, locals := 45 } : Room) s m args below meth c Q cX7_countAhead .int r) {rec13 : Int32 → Int32 → Int32 → Int32 → Int32 → Option Int32} (hrec13 : ∀ (l1 : Int32) (l2 : Int32) (l3 : Int32) (l4 : Int32) (l5 : Int32) (ls : Array Slot) (hl : lv_has ls 7 [(0, .ref a_x), (1, .int l1), (2, .int l2), (3, .int l3), (4, .int l4), (5, .int l5)]) (h : rec13 l1 l2 l3 l4 l5 = some r), W p l e ({ frames := 2, cells := 0, slots := 0, locals := 45 } : Room) s m args below meth c s.heap [] 0 0 Q (F0 m 13 ls [])) (l1 : Int32) (l2 : Int32) (l3 : Int32) (l4 : Int32) (l5 : Int32) (ls : Array Slot) (hl : lv_has ls 7 [(0, .ref a_x), (1, .int l1), (2, .int l2), (3, .int l3), (4, .int l4), (5, .int l5)]) (h : fX7_countAhead_56 v_gw v_gk rec13 l1 l2 l3 l4 l5 = some r) : W p l e ({ frames := 2, cells := 0, slots := 0, locals := 45 } : Room) s m args below meth c s.heap [] 0 0 Q (F0 m 56 ls []) := by
  have hx := C.1
  have hb := C.2.1
  unfold fX7_countAhead_56 at h
  refine lv_iinc (v := (l5 + 1)) (lv' := [(5, .int (l5 + 1)), (0, .ref a_x), (1, .int l1), (2, .int l2), (3, .int l3), (4, .int l4)]) hx hb dX7_countAhead_56 hl (k := 5) rfl rfl (by decide) rfl (fun ls hl => ?_)
  refine lv_goto (tgt := 13) hx hb dX7_countAhead_59 (by decide) ?_
  exact hrec13 l1 l2 l3 l4 (l5 + 1) _ (lv_sub hl [1, 2, 3, 4, 5, 0] rfl) h
set_option maxHeartbeats 4000000 in
set_option maxRecDepth 100000 in
theorem lX7_countAhead_53 {p : Program} {l : Launch} {e : Env} {s : State} {m : MethodId} {args : Array Value} {below : List Frame} {meth : Method} {c : Code} {Q : State → Prop} {D : va_G} {T : Nat → ClassId} {a_g a_gw a_gk a_x a_b a_v a_h a_r a_f a_u a_t a_n : Nat} {x_sav : Int32} {x_err : Int32} {x_rea : Int32} {x_det : Int32} {x_com : Int32} {v_gw : Nat → Int32} {v_gk : Nat → Int32} {r : Int32} (C : CallFix p m c cX7_countAhead 7 s args aw RX7) (hE : eK D T s) (hP : va_P D kC [(a_g, .inr (1, [.ref a_gw, .ref a_gk])), (a_x, .inr (7, [.ref a_g, .ref a_b, .ref a_v, .ref a_h, .ref a_r, .ref a_f, .ref a_u, .ref a_t, .ref a_n, .int x_sav, .int x_err, .int x_rea, .int x_det, .int x_com])), (a_gw, .inl (T 0, 90, .inl v_gw)), (a_gk, .inl (T 0, 18, .inl v_gk))] s.heap) (hret : RdRet p l e ({ frames := 2, cells := 0, slots := 0, locals := 45 } : Room) s m args below meth c Q cX7_countAhead .int r) {rec13 : Int32 → Int32 → Int32 → Int32 → Int32 → Option Int32} (hrec13 : ∀ (l1 : Int32) (l2 : Int32) (l3 : Int32) (l4 : Int32) (l5 : Int32) (ls : Array Slot) (hl : lv_has ls 7 [(0, .ref a_x), (1, .int l1), (2, .int l2), (3, .int l3), (4, .int l4), (5, .int l5)]) (h : rec13 l1 l2 l3 l4 l5 = some r), W p l e ({ frames := 2, cells := 0, slots := 0, locals := 45 } : Room) s m args below meth c s.heap [] 0 0 Q (F0 m 13 ls [])) (l1 : Int32) (l2 : Int32) (l3 : Int32) (l4 : Int32) (l5 : Int32) (ls : Array Slot) (hl : lv_has ls 7 [(0, .ref a_x), (1, .int l1), (2, .int l2), (3, .int l3), (4, .int l4), (5, .int l5)]) (h : fX7_countAhead_53 v_gw v_gk rec13 l1 l2 l3 l4 l5 = some r) : W p l e ({ frames := 2, cells := 0, slots := 0, locals := 45 } : Room) s m args below meth c s.heap [] 0 0 Q (F0 m 53 ls []) := by
  have hx := C.1
  have hb := C.2.1
  unfold fX7_countAhead_53 at h
  refine lv_iinc (v := (l4 + 1)) (lv' := [(4, .int (l4 + 1)), (0, .ref a_x), (1, .int l1), (2, .int l2), (3, .int l3), (5, .int l5)]) hx hb dX7_countAhead_53 hl (k := 4) rfl rfl (by decide) rfl (fun ls hl => ?_)
  exact lX7_countAhead_56 C hE hP hret hrec13 l1 l2 l3 (l4 + 1) l5 _ (lv_sub hl [1, 2, 3, 4, 0, 5] rfl) h
set_option maxHeartbeats 4000000 in
set_option maxRecDepth 100000 in
theorem lX7_countAhead_13 {p : Program} {l : Launch} {e : Env} {s : State} {m : MethodId} {args : Array Value} {below : List Frame} {meth : Method} {c : Code} {Q : State → Prop} {D : va_G} {T : Nat → ClassId} {a_g a_gw a_gk a_x a_b a_v a_h a_r a_f a_u a_t a_n : Nat} {x_sav : Int32} {x_err : Int32} {x_rea : Int32} {x_det : Int32} {x_com : Int32} {v_gw : Nat → Int32} {v_gk : Nat → Int32} {r : Int32} (C : CallFix p m c cX7_countAhead 7 s args aw RX7) (hE : eK D T s) (hP : va_P D kC [(a_g, .inr (1, [.ref a_gw, .ref a_gk])), (a_x, .inr (7, [.ref a_g, .ref a_b, .ref a_v, .ref a_h, .ref a_r, .ref a_f, .ref a_u, .ref a_t, .ref a_n, .int x_sav, .int x_err, .int x_rea, .int x_det, .int x_com])), (a_gw, .inl (T 0, 90, .inl v_gw)), (a_gk, .inl (T 0, 18, .inl v_gk))] s.heap) (hret : RdRet p l e ({ frames := 2, cells := 0, slots := 0, locals := 45 } : Room) s m args below meth c Q cX7_countAhead .int r) : ∀ (k : Nat) (l1 : Int32) (l2 : Int32) (l3 : Int32) (l4 : Int32) (l5 : Int32) (ls : Array Slot) (hl : lv_has ls 7 [(0, .ref a_x), (1, .int l1), (2, .int l2), (3, .int l3), (4, .int l4), (5, .int l5)]) (h : fX7_countAhead_13 v_gw v_gk k l1 l2 l3 l4 l5 = some r), W p l e ({ frames := 2, cells := 0, slots := 0, locals := 45 } : Room) s m args below meth c s.heap [] 0 0 Q (F0 m 13 ls []) := by
  have hx := C.1
  have hb := C.2.1
  intro k
  induction k with
  | zero =>
    intro l1 l2 l3 l4 l5  ls hl h
    exact nomatch (show (none : Option Int32) = some r from h)
  | succ k ih =>
    intro l1 l2 l3 l4 l5  ls hl h
    rw [fX7_countAhead_13] at h
    refine lv_iload hx hb dX7_countAhead_13 (lv_at hl 5 rfl) ?_
    refine lv_aload_n hx hb dX7_countAhead_15 rfl (lv_at hl 0 rfl) ?_
    refine getF (q0 := 1) (k0 := 0) (v := .ref a_g) C hE hP inA7 rfl rfl (by decide) qFX7_10 rfl rfl dX7_countAhead_16 ?_
    refine lv_iconst (v := 0) hx hb dX7_countAhead_19 (by decide) ?_
    replace h := bnd h; obtain ⟨q3, e4, h⟩ := h
    refine rdV C hE hP (kX1_count l D T a_g a_gw a_gk v_gk 0 q3 e4) mX1_count qLX7_235 [0, 3] 0 rfl rfl rfl rfl ⟨rfl, rfl⟩ ⟨Nat.le_of_ble_eq_true rfl, Nat.le_of_ble_eq_true rfl⟩ rfl hl.1 rfl (Nat.le_of_ble_eq_true rfl) dX7_countAhead_20 ⟨Nat.le_of_ble_eq_true rfl, Nat.le_of_ble_eq_true rfl⟩ ?_
    refine lv_icmp_ge (tgt := 62) hx hb dX7_countAhead_23 (by decide) (fun c5 => ?_) (fun c5 => ?_)
    · replace h := ite_t c5 h
      refine lv_iload hx hb dX7_countAhead_62 (lv_at hl 4 rfl) ?_
      exact hret _ _ _ _ dX7_countAhead_64 rfl (Option.some.inj h)
    · replace h := ite_f c5 h
      refine lv_aload_n hx hb dX7_countAhead_26 rfl (lv_at hl 0 rfl) ?_
      refine lv_iload_n hx hb dX7_countAhead_27 rfl (lv_at hl 1 rfl) ?_
      refine lv_iload hx hb dX7_countAhead_28 (lv_at hl 5 rfl) ?_
      replace h := bnd h; obtain ⟨q6, e7, h⟩ := h
      refine rdV C hE hP (kX7_measure l D T a_g a_gw a_gk a_x a_b a_v a_h a_r a_f a_u a_t a_n x_sav x_err x_rea x_det x_com v_gw l1 l5 q6 e7) mX7_measure qLX7_436 [0, 1, 2] 1 rfl rfl rfl rfl ⟨rfl, rfl⟩ ⟨Nat.le_of_ble_eq_true rfl, Nat.le_of_ble_eq_true rfl⟩ rfl hl.1 rfl (Nat.le_of_ble_eq_true rfl) dX7_countAhead_30 ⟨Nat.le_of_ble_eq_true rfl, Nat.le_of_ble_eq_true rfl⟩ ?_
      refine lv_istore (lv' := [(6, .int q6), (0, .ref a_x), (1, .int l1), (2, .int l2), (3, .int l3), (4, .int l4), (5, .int l5)]) hx hb dX7_countAhead_33 hl (by decide) rfl (fun ls hl => ?_)
      refine lv_iload hx hb dX7_countAhead_35 (lv_at hl 0 rfl) ?_
      refine lv_iload_n hx hb dX7_countAhead_37 rfl (lv_at hl 4 rfl) ?_
      refine lv_icmp_gt (tgt := 53) hx hb dX7_countAhead_38 (by decide) (fun c8 => ?_) (fun c8 => ?_)
      · replace h := ite_t c8 h
        exact lX7_countAhead_53 C hE hP hret ih l1 l2 l3 l4 l5 _ (lv_sub hl [1, 2, 3, 4, 5, 6] rfl) h
      · replace h := ite_f c8 h
        refine lv_iload hx hb dX7_countAhead_41 (lv_at hl 0 rfl) ?_
        refine lv_iload_n hx hb dX7_countAhead_43 rfl (lv_at hl 4 rfl) ?_
        refine lv_icmp_ne (tgt := 56) hx hb dX7_countAhead_44 (by decide) (fun c9 => ?_) (fun c9 => ?_)
        · replace h := ite_f c9 h
          exact lX7_countAhead_56 C hE hP hret ih l1 l2 l3 l4 l5 _ (lv_sub hl [1, 2, 3, 4, 5, 6] rfl) h
        · replace h := ite_t c9 h
          refine lv_iload hx hb dX7_countAhead_47 (lv_at hl 6 rfl) ?_
          refine lv_iload_n hx hb dX7_countAhead_49 rfl (lv_at hl 3 rfl) ?_
          refine lv_icmp_ge (tgt := 56) hx hb dX7_countAhead_50 (by decide) (fun c10 => ?_) (fun c10 => ?_)
          · replace h := ite_t c10 h
            exact lX7_countAhead_56 C hE hP hret ih l1 l2 l3 l4 l5 _ (lv_sub hl [1, 2, 3, 4, 5, 6] rfl) h
          · replace h := ite_f c10 h
            exact lX7_countAhead_53 C hE hP hret ih l1 l2 l3 l4 l5 _ (lv_sub hl [1, 2, 3, 4, 5, 6] rfl) h
set_option maxHeartbeats 4000000 in
set_option maxRecDepth 100000 in
theorem kX7_countAhead (l : Launch) (D : va_G) (T : Nat → ClassId) (a_g a_gw a_gk a_x a_b a_v a_h a_r a_f a_u a_t a_n : Nat) (x_sav : Int32) (x_err : Int32) (x_rea : Int32) (x_det : Int32) (x_com : Int32) (v_gw : Nat → Int32) (v_gk : Nat → Int32) (p0 : Int32) (p1 : Int32) (r : Int32) (h : fX7_countAhead v_gw v_gk p0 p1 = some r) : RdI l yX7_countAhead cX7_countAhead 7 .int ({ frames := 2, cells := 0, slots := 0, locals := 45 } : Room) D T [(a_g, .inr (1, [.ref a_gw, .ref a_gk])), (a_x, .inr (7, [.ref a_g, .ref a_b, .ref a_v, .ref a_h, .ref a_r, .ref a_f, .ref a_u, .ref a_t, .ref a_n, .int x_sav, .int x_err, .int x_rea, .int x_det, .int x_com])), (a_gw, .inl (T 0, 90, .inl v_gw)), (a_gk, .inl (T 0, 18, .inl v_gk))] [.ref a_x, .int p0, .int p1] r := by
  unfold fX7_countAhead at h
  refine rdMet (by decide +kernel) rfl (fun p e s m args below meth c Q C hE hP hret ls hl => ?_)
  have hx := C.1
  have hb := C.2.1
  have hl : lv_has ls 7 [(0, .ref a_x), (1, .int p0), (2, .int p1)] := hl
  refine lv_aload_n hx hb dX7_countAhead_0 rfl (lv_at hl 0 rfl) ?_
  refine lv_iload_n hx hb dX7_countAhead_1 rfl (lv_at hl 1 rfl) ?_
  refine lv_iload_n hx hb dX7_countAhead_2 rfl (lv_at hl 2 rfl) ?_
  replace h := bnd h; obtain ⟨q1, e2, h⟩ := h
  refine rdV C hE hP (kX7_measure l D T a_g a_gw a_gk a_x a_b a_v a_h a_r a_f a_u a_t a_n x_sav x_err x_rea x_det x_com v_gw p0 p1 q1 e2) mX7_measure qLX7_436 [0, 1, 2] 1 rfl rfl rfl rfl ⟨rfl, rfl⟩ ⟨Nat.le_of_ble_eq_true rfl, Nat.le_of_ble_eq_true rfl⟩ rfl hl.1 rfl (Nat.le_of_ble_eq_true rfl) dX7_countAhead_3 ⟨Nat.le_of_ble_eq_true rfl, Nat.le_of_ble_eq_true rfl⟩ ?_
  refine lv_istore_n (lv' := [(3, .int q1), (0, .ref a_x), (1, .int p0), (2, .int p1)]) hx hb dX7_countAhead_6 rfl hl (by decide) rfl (fun ls hl => ?_)
  refine lv_iconst (v := 0) hx hb dX7_countAhead_7 (by decide) ?_
  refine lv_istore (lv' := [(4, .int 0), (3, .int q1), (0, .ref a_x), (1, .int p0), (2, .int p1)]) hx hb dX7_countAhead_8 hl (by decide) rfl (fun ls hl => ?_)
  refine lv_iconst (v := 0) hx hb dX7_countAhead_10 (by decide) ?_
  refine lv_istore (lv' := [(5, .int 0), (4, .int 0), (3, .int q1), (0, .ref a_x), (1, .int p0), (2, .int p1)]) hx hb dX7_countAhead_11 hl (by decide) rfl (fun ls hl => ?_)
  exact lX7_countAhead_13 C hE hP hret 64 p0 p1 q1 0 0 _ (lv_sub hl [3, 4, 5, 2, 1, 0] rfl) h

def fX7_ranked_9 (v_gw : Nat → Int32) (v_gk : Nat → Int32) : Option (Nat × Int32) :=
  some (1, 0)
def fX7_ranked_21 (v_gw : Nat → Int32) (v_gk : Nat → Int32) : Nat → Int32 → Int32 → Int32 → Option (Nat × Int32)
  | 0, _, _, _ => none
  | k + 1, l1, l2, l3 =>
    (fX1_count v_gk 0).bind fun q3 =>
    if q3 ≤ l3 then
      some (4, 0)
    else
      (fX7_countAhead v_gw v_gk l1 l3).bind fun q6 =>
      if q6 = l2 then
        some (0, l3)
      else
        fX7_ranked_21 v_gw v_gk k l1 l2 (l3 + 1)
def fX7_ranked (v_gw : Nat → Int32) (v_gk : Nat → Int32) (p0 : Int32) (p1 : Int32) : Option (Nat × Int32) :=
  if p0 < 0 then
    fX7_ranked_9 v_gw v_gk
  else
    if p0 < 5 then
      fX7_ranked_21 v_gw v_gk 64 p0 p1 0
    else
      fX7_ranked_9 v_gw v_gk
set_option maxHeartbeats 4000000 in
set_option maxRecDepth 100000 in
theorem lX7_ranked_9 {p : Program} {l : Launch} {e : Env} {s : State} {m : MethodId} {args : Array Value} {below : List Frame} {meth : Method} {c : Code} {Q : State → Prop} {D : va_G} {T : Nat → ClassId} {a_g a_gw a_gk a_x a_b a_v a_h a_r a_f a_u a_t a_n : Nat} {x_sav : Int32} {x_err : Int32} {x_rea : Int32} {x_det : Int32} {x_com : Int32} {v_gw : Nat → Int32} {v_gk : Nat → Int32} {A : Nat → Prop} {r : Nat × Int32} (C : CallFix p m c cX7_ranked 4 s args aw RX7) (hE : eK D T s) (hA : ∀ q : Nat, s.heap.size ≤ q → A q) (hZ : eX l A s) (hret : ThRetI p l e ({ frames := 6, cells := 1, slots := 6, locals := 90 } : Room) s m args below meth c Q cX7_ranked .int D A [(a_g, .inr (1, [.ref a_gw, .ref a_gk])), (a_x, .inr (7, [.ref a_g, .ref a_b, .ref a_v, .ref a_h, .ref a_r, .ref a_f, .ref a_u, .ref a_t, .ref a_n, .int x_sav, .int x_err, .int x_rea, .int x_det, .int x_com])), (a_gw, .inl (T 0, 90, .inl v_gw)), (a_gk, .inl (T 0, 18, .inl v_gk))] r.1 r.2 ∧ ThOut p l e ({ frames := 6, cells := 1, slots := 6, locals := 90 } : Room) s m args below meth c Q D A [(a_g, .inr (1, [.ref a_gw, .ref a_gk])), (a_x, .inr (7, [.ref a_g, .ref a_b, .ref a_v, .ref a_h, .ref a_r, .ref a_f, .ref a_u, .ref a_t, .ref a_n, .int x_sav, .int x_err, .int x_rea, .int x_det, .int x_com])), (a_gw, .inl (T 0, 90, .inl v_gw)), (a_gk, .inl (T 0, 18, .inl v_gk))] r.1 ∧ ThThr p l e ({ frames := 6, cells := 1, slots := 6, locals := 90 } : Room) s m args below meth c Q cX7_ranked RX7 D A [(a_g, .inr (1, [.ref a_gw, .ref a_gk])), (a_x, .inr (7, [.ref a_g, .ref a_b, .ref a_v, .ref a_h, .ref a_r, .ref a_f, .ref a_u, .ref a_t, .ref a_n, .int x_sav, .int x_err, .int x_rea, .int x_det, .int x_com])), (a_gw, .inl (T 0, 90, .inl v_gw)), (a_gk, .inl (T 0, 18, .inl v_gk))] r.1) {H : Heap} {locs : List Loc} (hPD : va_PD D A [(a_g, .inr (1, [.ref a_gw, .ref a_gk])), (a_x, .inr (7, [.ref a_g, .ref a_b, .ref a_v, .ref a_h, .ref a_r, .ref a_f, .ref a_u, .ref a_t, .ref a_n, .int x_sav, .int x_err, .int x_rea, .int x_det, .int x_com])), (a_gw, .inl (T 0, 90, .inl v_gw)), (a_gk, .inl (T 0, 18, .inl v_gk))] H) (hS : va_S A s.heap H locs) (ls : Array Slot) (hl : lv_has ls 4 []) (h : fX7_ranked_9 v_gw v_gk = some r) : W p l e ({ frames := 6, cells := 1, slots := 6, locals := 90 } : Room) s m args below meth c H locs 0 0 Q (F0 m 9 ls []) := by
  have hx := C.1
  have hb := C.2.1
  obtain ⟨hP, hD⟩ := hPD
  unfold fX7_ranked_9 at h
  replace h := Option.some.inj h
  exact hret.2.2 _ _ _ _ _ _ _ 141 145 241 _ "no such order" (by rw [← h]; exact thrX7_141_145_1) (by decide +kernel) dX7_ranked_9 dX7_ranked_12 (Or.inl ⟨dX7_ranked_13, dX7_ranked_15, dX7_ranked_18⟩) (Nat.le_of_ble_eq_true rfl) (Nat.le_of_ble_eq_true rfl) (Nat.le_of_ble_eq_true rfl) (Nat.le_of_ble_eq_true rfl) (hl.1.trans C.2.2.1.symm) (by rw [← h]; exact (Nat.le_of_ble_eq_true rfl)) hP hS
set_option maxHeartbeats 4000000 in
set_option maxRecDepth 100000 in
theorem lX7_ranked_21 {p : Program} {l : Launch} {e : Env} {s : State} {m : MethodId} {args : Array Value} {below : List Frame} {meth : Method} {c : Code} {Q : State → Prop} {D : va_G} {T : Nat → ClassId} {a_g a_gw a_gk a_x a_b a_v a_h a_r a_f a_u a_t a_n : Nat} {x_sav : Int32} {x_err : Int32} {x_rea : Int32} {x_det : Int32} {x_com : Int32} {v_gw : Nat → Int32} {v_gk : Nat → Int32} {A : Nat → Prop} {r : Nat × Int32} (C : CallFix p m c cX7_ranked 4 s args aw RX7) (hE : eK D T s) (hA : ∀ q : Nat, s.heap.size ≤ q → A q) (hZ : eX l A s) (hret : ThRetI p l e ({ frames := 6, cells := 1, slots := 6, locals := 90 } : Room) s m args below meth c Q cX7_ranked .int D A [(a_g, .inr (1, [.ref a_gw, .ref a_gk])), (a_x, .inr (7, [.ref a_g, .ref a_b, .ref a_v, .ref a_h, .ref a_r, .ref a_f, .ref a_u, .ref a_t, .ref a_n, .int x_sav, .int x_err, .int x_rea, .int x_det, .int x_com])), (a_gw, .inl (T 0, 90, .inl v_gw)), (a_gk, .inl (T 0, 18, .inl v_gk))] r.1 r.2 ∧ ThOut p l e ({ frames := 6, cells := 1, slots := 6, locals := 90 } : Room) s m args below meth c Q D A [(a_g, .inr (1, [.ref a_gw, .ref a_gk])), (a_x, .inr (7, [.ref a_g, .ref a_b, .ref a_v, .ref a_h, .ref a_r, .ref a_f, .ref a_u, .ref a_t, .ref a_n, .int x_sav, .int x_err, .int x_rea, .int x_det, .int x_com])), (a_gw, .inl (T 0, 90, .inl v_gw)), (a_gk, .inl (T 0, 18, .inl v_gk))] r.1 ∧ ThThr p l e ({ frames := 6, cells := 1, slots := 6, locals := 90 } : Room) s m args below meth c Q cX7_ranked RX7 D A [(a_g, .inr (1, [.ref a_gw, .ref a_gk])), (a_x, .inr (7, [.ref a_g, .ref a_b, .ref a_v, .ref a_h, .ref a_r, .ref a_f, .ref a_u, .ref a_t, .ref a_n, .int x_sav, .int x_err, .int x_rea, .int x_det, .int x_com])), (a_gw, .inl (T 0, 90, .inl v_gw)), (a_gk, .inl (T 0, 18, .inl v_gk))] r.1) : ∀ (k : Nat) (l1 : Int32) (l2 : Int32) (l3 : Int32) {H : Heap} {locs : List Loc} (hPD : va_PD D A [(a_g, .inr (1, [.ref a_gw, .ref a_gk])), (a_x, .inr (7, [.ref a_g, .ref a_b, .ref a_v, .ref a_h, .ref a_r, .ref a_f, .ref a_u, .ref a_t, .ref a_n, .int x_sav, .int x_err, .int x_rea, .int x_det, .int x_com])), (a_gw, .inl (T 0, 90, .inl v_gw)), (a_gk, .inl (T 0, 18, .inl v_gk))] H) (hS : va_S A s.heap H locs) (ls : Array Slot) (hl : lv_has ls 4 [(0, .ref a_x), (1, .int l1), (2, .int l2), (3, .int l3)]) (h : fX7_ranked_21 v_gw v_gk k l1 l2 l3 = some r), W p l e ({ frames := 6, cells := 1, slots := 6, locals := 90 } : Room) s m args below meth c H locs 0 0 Q (F0 m 21 ls []) := by
  have hx := C.1
  have hb := C.2.1
  intro k
  induction k with
  | zero =>
    intro l1 l2 l3 H locs hPD hS ls hl h
    exact nomatch (show (none : Option (Nat × Int32)) = some r from h)
  | succ k ih =>
    intro l1 l2 l3 H locs hPD hS ls hl h
    obtain ⟨hP, hD⟩ := hPD
    rw [fX7_ranked_21] at h
    refine lv_iload_n hx hb dX7_ranked_21 rfl (lv_at hl 3 rfl) ?_
    refine lv_aload_n hx hb dX7_ranked_22 rfl (lv_at hl 0 rfl) ?_
    refine getF (q0 := 1) (k0 := 0) (v := .ref a_g) C hE hP inA7 rfl rfl (by decide) qFX7_10 rfl rfl dX7_ranked_23 ?_
    refine lv_iconst (v := 0) hx hb dX7_ranked_26 (by decide) ?_
    replace h := bnd h; obtain ⟨q3, e4, h⟩ := h
    refine rdV C hE hP (kX1_count l D T a_g a_gw a_gk v_gk 0 q3 e4) mX1_count qLX7_235 [0, 3] 0 rfl rfl rfl rfl ⟨rfl, rfl⟩ ⟨Nat.le_of_ble_eq_true rfl, Nat.le_of_ble_eq_true rfl⟩ rfl hl.1 rfl (Nat.le_of_ble_eq_true rfl) dX7_ranked_27 ⟨Nat.le_of_ble_eq_true rfl, Nat.le_of_ble_eq_true rfl⟩ ?_
    refine lv_icmp_ge (tgt := 51) hx hb dX7_ranked_30 (by decide) (fun c5 => ?_) (fun c5 => ?_)
    · replace h := ite_t c5 h
      replace h := Option.some.inj h
      exact hret.2.2 _ _ _ _ _ _ _ 173 177 246 _ "no such place" (by rw [← h]; exact thrX7_173_177_4) (by decide +kernel) dX7_ranked_51 dX7_ranked_54 (Or.inl ⟨dX7_ranked_55, dX7_ranked_57, dX7_ranked_60⟩) (Nat.le_of_ble_eq_true rfl) (Nat.le_of_ble_eq_true rfl) (Nat.le_of_ble_eq_true rfl) (Nat.le_of_ble_eq_true rfl) (hl.1.trans C.2.2.1.symm) (by rw [← h]; exact (Nat.le_of_ble_eq_true rfl)) hP hS
    · replace h := ite_f c5 h
      refine lv_aload_n hx hb dX7_ranked_33 rfl (lv_at hl 0 rfl) ?_
      refine lv_iload_n hx hb dX7_ranked_34 rfl (lv_at hl 1 rfl) ?_
      refine lv_iload_n hx hb dX7_ranked_35 rfl (lv_at hl 3 rfl) ?_
      replace h := bnd h; obtain ⟨q6, e7, h⟩ := h
      refine rdV C hE hP (kX7_countAhead l D T a_g a_gw a_gk a_x a_b a_v a_h a_r a_f a_u a_t a_n x_sav x_err x_rea x_det x_com v_gw v_gk l1 l3 q6 e7) mX7_countAhead qLX7_243 [0, 1, 2, 3] 1 rfl rfl rfl rfl ⟨rfl, rfl⟩ ⟨Nat.le_of_ble_eq_true rfl, Nat.le_of_ble_eq_true rfl⟩ rfl hl.1 rfl (Nat.le_of_ble_eq_true rfl) dX7_ranked_36 ⟨Nat.le_of_ble_eq_true rfl, Nat.le_of_ble_eq_true rfl⟩ ?_
      refine lv_iload_n hx hb dX7_ranked_39 rfl (lv_at hl 2 rfl) ?_
      refine lv_icmp_ne (tgt := 45) hx hb dX7_ranked_40 (by decide) (fun c8 => ?_) (fun c8 => ?_)
      · replace h := ite_f c8 h
        refine lv_iinc (v := (l3 + 1)) (lv' := [(3, .int (l3 + 1)), (0, .ref a_x), (1, .int l1), (2, .int l2)]) hx hb dX7_ranked_45 hl (k := 3) rfl rfl (by decide) rfl (fun ls hl => ?_)
        refine lv_goto (tgt := 21) hx hb dX7_ranked_48 (by decide) ?_
        exact ih l1 l2 (l3 + 1) ⟨hP, hD⟩ hS _ (lv_sub hl [1, 2, 3, 0] rfl) h
      · replace h := ite_t c8 h
        refine lv_iload_n hx hb dX7_ranked_43 rfl (lv_at hl 3 rfl) ?_
        replace h := Option.some.inj h
        exact hret.1 _ _ _ _ _ _ _ _ (Nat.le_of_ble_eq_true rfl) (Nat.le_of_ble_eq_true rfl) dX7_ranked_44 rfl (by rw [← h]) (by rw [← h] <;> rfl) hP hS
set_option maxHeartbeats 4000000 in
set_option maxRecDepth 100000 in
theorem kX7_ranked (l : Launch) (hnt : l.stackTraces = false) (D : va_G) (T : Nat → ClassId) (a_g a_gw a_gk a_x a_b a_v a_h a_r a_f a_u a_t a_n : Nat) (x_sav : Int32) (x_err : Int32) (x_rea : Int32) (x_det : Int32) (x_com : Int32) (v_gw : Nat → Int32) (v_gk : Nat → Int32) (p0 : Int32) (p1 : Int32) (sz : Nat) (r : Nat × Int32) (h : fX7_ranked v_gw v_gk p0 p1 = some r) : ThI l yX7_ranked cX7_ranked 4 .int ({ frames := 6, cells := 1, slots := 6, locals := 90 } : Room) D T sz [(a_g, .inr (1, [.ref a_gw, .ref a_gk])), (a_x, .inr (7, [.ref a_g, .ref a_b, .ref a_v, .ref a_h, .ref a_r, .ref a_f, .ref a_u, .ref a_t, .ref a_n, .int x_sav, .int x_err, .int x_rea, .int x_det, .int x_com])), (a_gw, .inl (T 0, 90, .inl v_gw)), (a_gk, .inl (T 0, 18, .inl v_gk))] [(a_g, .inr (1, [.ref a_gw, .ref a_gk])), (a_x, .inr (7, [.ref a_g, .ref a_b, .ref a_v, .ref a_h, .ref a_r, .ref a_f, .ref a_u, .ref a_t, .ref a_n, .int x_sav, .int x_err, .int x_rea, .int x_det, .int x_com])), (a_gw, .inl (T 0, 90, .inl v_gw)), (a_gk, .inl (T 0, 18, .inl v_gk))] [.ref a_x, .int p0, .int p1] r.1 r.2 := by
  unfold fX7_ranked at h
  refine thMetI hnt (by decide +kernel) rfl (fun p e s m args below meth c Q A C hE hA hZ hP hD hS hret ls hl => ?_)
  have hx := C.1
  have hb := C.2.1
  have hl : lv_has ls 4 [(0, .ref a_x), (1, .int p0), (2, .int p1)] := hl
  refine lv_iload_n hx hb dX7_ranked_0 rfl (lv_at hl 1 rfl) ?_
  refine lv_if_lt (tgt := 9) hx hb dX7_ranked_1 (by decide) (fun c1 => ?_) (fun c1 => ?_)
  · replace h := ite_t c1 h
    exact lX7_ranked_9 C hE hA hZ hret ⟨hP, hD⟩ hS _ (lv_sub hl [] rfl) h
  · replace h := ite_f c1 h
    refine lv_iload_n hx hb dX7_ranked_4 rfl (lv_at hl 1 rfl) ?_
    refine lv_iconst (v := 5) hx hb dX7_ranked_5 (by decide) ?_
    refine lv_icmp_lt (tgt := 19) hx hb dX7_ranked_6 (by decide) (fun c2 => ?_) (fun c2 => ?_)
    · replace h := ite_t c2 h
      refine lv_iconst (v := 0) hx hb dX7_ranked_19 (by decide) ?_
      refine lv_istore_n (lv' := [(3, .int 0), (0, .ref a_x), (1, .int p0), (2, .int p1)]) hx hb dX7_ranked_20 rfl hl (by decide) rfl (fun ls hl => ?_)
      exact lX7_ranked_21 C hE hA hZ hret 64 p0 p1 0 ⟨hP, hD⟩ hS _ (lv_sub hl [1, 2, 3, 0] rfl) h
    · replace h := ite_f c2 h
      exact lX7_ranked_9 C hE hA hZ hret ⟨hP, hD⟩ hS _ (lv_sub hl [] rfl) h

def fX7_isFresher (v_gw : Nat → Int32) (p0 : Int32) (p1 : Int32) : Option Int32 :=
  (fX1_of v_gw p0 3).bind fun q1 =>
  (fX1_of v_gw p1 3).bind fun q3 =>
  if 0 < (q1 - q3) then
    some 1
  else
    if (q1 - q3) = 0 then
      (fX1_of v_gw p0 1).bind fun q7 =>
      (fX1_of v_gw p1 1).bind fun q9 =>
      if q7 ≤ q9 then
        some 0
      else
        some 1
    else
      some 0
set_option maxHeartbeats 4000000 in
set_option maxRecDepth 100000 in
theorem kX7_isFresher (l : Launch) (D : va_G) (T : Nat → ClassId) (a_g a_gw a_gk a_x a_b a_v a_h a_r a_f a_u a_t a_n : Nat) (x_sav : Int32) (x_err : Int32) (x_rea : Int32) (x_det : Int32) (x_com : Int32) (v_gw : Nat → Int32) (p0 : Int32) (p1 : Int32) (r : Int32) (h : fX7_isFresher v_gw p0 p1 = some r) : RdI l yX7_isFresher cX7_isFresher 4 .boolean ({ frames := 1, cells := 0, slots := 0, locals := 23 } : Room) D T [(a_g, .inr (1, [.ref a_gw, .ref a_gk])), (a_x, .inr (7, [.ref a_g, .ref a_b, .ref a_v, .ref a_h, .ref a_r, .ref a_f, .ref a_u, .ref a_t, .ref a_n, .int x_sav, .int x_err, .int x_rea, .int x_det, .int x_com])), (a_gw, .inl (T 0, 90, .inl v_gw))] [.ref a_x, .int p0, .int p1] r := by
  unfold fX7_isFresher at h
  refine rdMet (by decide +kernel) rfl (fun p e s m args below meth c Q C hE hP hret ls hl => ?_)
  have hx := C.1
  have hb := C.2.1
  have hl : lv_has ls 4 [(0, .ref a_x), (1, .int p0), (2, .int p1)] := hl
  refine lv_aload_n hx hb dX7_isFresher_0 rfl (lv_at hl 0 rfl) ?_
  refine getF (q0 := 1) (k0 := 0) (v := .ref a_g) C hE hP inA7 rfl rfl (by decide) qFX7_10 rfl rfl dX7_isFresher_1 ?_
  refine lv_iload_n hx hb dX7_isFresher_4 rfl (lv_at hl 1 rfl) ?_
  refine lv_iconst (v := 3) hx hb dX7_isFresher_5 (by decide) ?_
  replace h := bnd h; obtain ⟨q1, e2, h⟩ := h
  refine rdV C hE hP (kX1_of l D T a_g a_gw a_gk v_gw p0 3 q1 e2) mX1_of qLX7_148 [0, 2] 0 rfl rfl rfl rfl ⟨rfl, rfl⟩ ⟨Nat.le_of_ble_eq_true rfl, Nat.le_of_ble_eq_true rfl⟩ rfl hl.1 rfl (Nat.le_of_ble_eq_true rfl) dX7_isFresher_6 ⟨Nat.le_of_ble_eq_true rfl, Nat.le_of_ble_eq_true rfl⟩ ?_
  refine lv_aload_n hx hb dX7_isFresher_9 rfl (lv_at hl 0 rfl) ?_
  refine getF (q0 := 1) (k0 := 0) (v := .ref a_g) C hE hP inA7 rfl rfl (by decide) qFX7_10 rfl rfl dX7_isFresher_10 ?_
  refine lv_iload_n hx hb dX7_isFresher_13 rfl (lv_at hl 2 rfl) ?_
  refine lv_iconst (v := 3) hx hb dX7_isFresher_14 (by decide) ?_
  replace h := bnd h; obtain ⟨q3, e4, h⟩ := h
  refine rdV C hE hP (kX1_of l D T a_g a_gw a_gk v_gw p1 3 q3 e4) mX1_of qLX7_148 [0, 2] 0 rfl rfl rfl rfl ⟨rfl, rfl⟩ ⟨Nat.le_of_ble_eq_true rfl, Nat.le_of_ble_eq_true rfl⟩ rfl hl.1 rfl (Nat.le_of_ble_eq_true rfl) dX7_isFresher_15 ⟨Nat.le_of_ble_eq_true rfl, Nat.le_of_ble_eq_true rfl⟩ ?_
  refine lv_isub hx hb dX7_isFresher_18 ?_
  refine lv_istore_n (lv' := [(3, .int (q1 - q3)), (0, .ref a_x), (1, .int p0), (2, .int p1)]) hx hb dX7_isFresher_19 rfl hl (by decide) rfl (fun ls hl => ?_)
  refine lv_iload_n hx hb dX7_isFresher_20 rfl (lv_at hl 0 rfl) ?_
  refine lv_if_gt (tgt := 49) hx hb dX7_isFresher_21 (by decide) (fun c5 => ?_) (fun c5 => ?_)
  · replace h := ite_t c5 h
    refine lv_iconst (v := 1) hx hb dX7_isFresher_49 (by decide) ?_
    refine lv_goto (tgt := 54) hx hb dX7_isFresher_50 (by decide) ?_
    exact hret _ _ _ _ dX7_isFresher_54 rfl (Option.some.inj h)
  · replace h := ite_f c5 h
    refine lv_iload_n hx hb dX7_isFresher_24 rfl (lv_at hl 0 rfl) ?_
    refine lv_if_ne (tgt := 53) hx hb dX7_isFresher_25 (by decide) (fun c6 => ?_) (fun c6 => ?_)
    · replace h := ite_f c6 h
      refine lv_iconst (v := 0) hx hb dX7_isFresher_53 (by decide) ?_
      exact hret _ _ _ _ dX7_isFresher_54 rfl (Option.some.inj h)
    · replace h := ite_t c6 h
      refine lv_aload_n hx hb dX7_isFresher_28 rfl (lv_at hl 1 rfl) ?_
      refine getF (q0 := 1) (k0 := 0) (v := .ref a_g) C hE hP inA7 rfl rfl (by decide) qFX7_10 rfl rfl dX7_isFresher_29 ?_
      refine lv_iload_n hx hb dX7_isFresher_32 rfl (lv_at hl 2 rfl) ?_
      refine lv_iconst (v := 1) hx hb dX7_isFresher_33 (by decide) ?_
      replace h := bnd h; obtain ⟨q7, e8, h⟩ := h
      refine rdV C hE hP (kX1_of l D T a_g a_gw a_gk v_gw p0 1 q7 e8) mX1_of qLX7_148 [0, 2] 0 rfl rfl rfl rfl ⟨rfl, rfl⟩ ⟨Nat.le_of_ble_eq_true rfl, Nat.le_of_ble_eq_true rfl⟩ rfl hl.1 rfl (Nat.le_of_ble_eq_true rfl) dX7_isFresher_34 ⟨Nat.le_of_ble_eq_true rfl, Nat.le_of_ble_eq_true rfl⟩ ?_
      refine lv_aload_n hx hb dX7_isFresher_37 rfl (lv_at hl 1 rfl) ?_
      refine getF (q0 := 1) (k0 := 0) (v := .ref a_g) C hE hP inA7 rfl rfl (by decide) qFX7_10 rfl rfl dX7_isFresher_38 ?_
      refine lv_iload_n hx hb dX7_isFresher_41 rfl (lv_at hl 3 rfl) ?_
      refine lv_iconst (v := 1) hx hb dX7_isFresher_42 (by decide) ?_
      replace h := bnd h; obtain ⟨q9, e10, h⟩ := h
      refine rdV C hE hP (kX1_of l D T a_g a_gw a_gk v_gw p1 1 q9 e10) mX1_of qLX7_148 [0, 2] 0 rfl rfl rfl rfl ⟨rfl, rfl⟩ ⟨Nat.le_of_ble_eq_true rfl, Nat.le_of_ble_eq_true rfl⟩ rfl hl.1 rfl (Nat.le_of_ble_eq_true rfl) dX7_isFresher_43 ⟨Nat.le_of_ble_eq_true rfl, Nat.le_of_ble_eq_true rfl⟩ ?_
      refine lv_icmp_le (tgt := 53) hx hb dX7_isFresher_46 (by decide) (fun c11 => ?_) (fun c11 => ?_)
      · replace h := ite_t c11 h
        refine lv_iconst (v := 0) hx hb dX7_isFresher_53 (by decide) ?_
        exact hret _ _ _ _ dX7_isFresher_54 rfl (Option.some.inj h)
      · replace h := ite_f c11 h
        refine lv_iconst (v := 1) hx hb dX7_isFresher_49 (by decide) ?_
        refine lv_goto (tgt := 54) hx hb dX7_isFresher_50 (by decide) ?_
        exact hret _ _ _ _ dX7_isFresher_54 rfl (Option.some.inj h)
