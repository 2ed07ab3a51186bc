/-! areAlike, with turns enough for 110 numbers -/
def fL_areAlikeB_2 (n_c0 : Nat) (v_c0 : Nat → Int32) (n_c1 : Nat) (v_c1 : Nat → Int32) : Nat → Int32 → Option Int32
  | 0, _ => none
  | k + 1, l2 =>
    if (Int32.ofNat n_c0) ≤ l2 then
      some 1
    else
      if vin l2 n_c0 = true then
      if vin l2 n_c1 = true then
      if (v_c0 l2.toNatClampNeg) = (v_c1 l2.toNatClampNeg) then
        fL_areAlikeB_2 n_c0 v_c0 n_c1 v_c1 k (l2 + 1)
      else
        some 0
      else none
      else none
def fL_areAlikeB (n_c0 : Nat) (v_c0 : Nat → Int32) (n_c1 : Nat) (v_c1 : Nat → Int32) : Option Int32 :=
  fL_areAlikeB_2 n_c0 v_c0 n_c1 v_c1 128 0
set_option maxHeartbeats 4000000 in
set_option maxRecDepth 100000 in
theorem lL_areAlikeB_2 {p : Program} {l : Launch} {e : Env} {s : State} {m : MethodId} {args : Array Value} {below : List Frame} {meth : Method} {c : Code} {Q : State → Prop} {D : va_G} {T : Nat → ClassId} {a_c0 a_c1 : Nat} {n_c0 : Nat} {v_c0 : Nat → Int32} {n_c1 : Nat} {v_c1 : Nat → Int32} {r : Int32} (C : CallFix p m c cL_areAlike 3 s args aw RL) (hE : eK D T s) (hP : va_P D kC [(a_c0, .inl (T 0, n_c0, .inl v_c0)), (a_c1, .inl (T 0, n_c1, .inl v_c1))] s.heap) (hret : RdRet p l e ({ frames := 0, cells := 0, slots := 0, locals := 0 } : Room) s m args below meth c Q cL_areAlike .boolean r) : ∀ (k : Nat) (l2 : Int32) (ls : Array Slot) (hl : lv_has ls 3 [(0, .ref a_c0), (1, .ref a_c1), (2, .int l2)]) (h : fL_areAlikeB_2 n_c0 v_c0 n_c1 v_c1 k l2 = some r), W p l e ({ frames := 0, cells := 0, slots := 0, locals := 0 } : Room) s m args below meth c s.heap [] 0 0 Q (F0 m 2 ls []) := by
  have hx := C.1
  have hb := C.2.1
  intro k
  induction k with
  | zero =>
    intro l2  ls hl h
    exact nomatch (show (none : Option Int32) = some r from h)
  | succ k ih =>
    intro l2  ls hl h
    rw [fL_areAlikeB_2] at h
    refine lv_iload_n hx hb dL_areAlike_2 rfl (lv_at hl 2 rfl) ?_
    refine lv_aload_n hx hb dL_areAlike_3 rfl (lv_at hl 0 rfl) ?_
    refine alen (q0 := 0) (t0 := 0) (v := Int32.ofNat n_c0) C hE hP rfl rfl rfl dL_areAlike_4 ?_
    refine lv_icmp_ge (tgt := 25) hx hb dL_areAlike_5 (by decide) (fun c1 => ?_) (fun c1 => ?_)
    · replace h := ite_t c1 h
      refine lv_iconst (v := 1) hx hb dL_areAlike_25 (by decide) ?_
      exact hret _ _ _ _ dL_areAlike_26 rfl (Option.some.inj h)
    · replace h := ite_f c1 h
      refine lv_aload_n hx hb dL_areAlike_8 rfl (lv_at hl 0 rfl) ?_
      refine lv_iload_n hx hb dL_areAlike_9 rfl (lv_at hl 2 rfl) ?_
      replace h := gd h; obtain ⟨g2, h⟩ := h
      refine aldI (q0 := 0) C hE hP rfl g2 dL_areAlike_10 ?_
      refine lv_aload_n hx hb dL_areAlike_11 rfl (lv_at hl 1 rfl) ?_
      refine lv_iload_n hx hb dL_areAlike_12 rfl (lv_at hl 2 rfl) ?_
      replace h := gd h; obtain ⟨g3, h⟩ := h
      refine aldI (q0 := 1) C hE hP rfl g3 dL_areAlike_13 ?_
      refine lv_icmp_eq (tgt := 19) hx hb dL_areAlike_14 (by decide) (fun c4 => ?_) (fun c4 => ?_)
      · replace h := ite_t c4 h
        refine lv_iinc (v := (l2 + 1)) (lv' := [(2, .int (l2 + 1)), (0, .ref a_c0), (1, .ref a_c1)]) hx hb dL_areAlike_19 hl (k := 2) rfl rfl (by decide) rfl (fun ls hl => ?_)
        refine lv_goto (tgt := 2) hx hb dL_areAlike_22 (by decide) ?_
        exact ih (l2 + 1) _ (lv_sub hl [1, 2, 0] rfl) h
      · replace h := ite_f c4 h
        refine lv_iconst (v := 0) hx hb dL_areAlike_17 (by decide) ?_
        exact hret _ _ _ _ dL_areAlike_18 rfl (Option.some.inj h)
set_option maxHeartbeats 4000000 in
set_option maxRecDepth 100000 in
theorem kL_areAlikeB (l : Launch) (D : va_G) (T : Nat → ClassId) (a_c0 a_c1 : Nat) (n_c0 : Nat) (v_c0 : Nat → Int32) (n_c1 : Nat) (v_c1 : Nat → Int32) (r : Int32) (h : fL_areAlikeB n_c0 v_c0 n_c1 v_c1 = some r) : RdI l yL_areAlike cL_areAlike 3 .boolean ({ frames := 0, cells := 0, slots := 0, locals := 0 } : Room) D T [(a_c0, .inl (T 0, n_c0, .inl v_c0)), (a_c1, .inl (T 0, n_c1, .inl v_c1))] [.ref a_c0, .ref a_c1] r := by
  unfold fL_areAlikeB at h
  refine rdMet (by decide +kernel) rfl (fun p e s m args below meth c Q C hE hP hret ls hl => ?_)
  have hx := C.1
  have hb := C.2.1
  have hl : lv_has ls 3 [(0, .ref a_c0), (1, .ref a_c1)] := hl
  refine lv_iconst (v := 0) hx hb dL_areAlike_0 (by decide) ?_
  refine lv_istore_n (lv' := [(2, .int 0), (0, .ref a_c0), (1, .ref a_c1)]) hx hb dL_areAlike_1 rfl hl (by decide) rfl (fun ls hl => ?_)
  exact lL_areAlikeB_2 C hE hP hret 128 0 _ (lv_sub hl [1, 2, 0] rfl) h
