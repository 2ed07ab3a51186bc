/-! what holds at the entry -/
theorem kN_in : ∀ q ∈ kN, Cond.methodLinkNest q.1 q.2.1 q.2.2 RX7 ∈ lw_tbl := by decide +kernel
theorem kD_in : ∀ q ∈ kD, Cond.declares q ∈ lw_tbl := by decide +kernel
theorem kCa_in : ∀ q ∈ kCa, Cond.castable q.1 q.2 ∈ lw_tbl := by decide +kernel
def gvF : List Cond := flatC (Jvm.Cond.and given_1 narrow_1)
theorem kNc_in : ∀ q ∈ kNc, Cond.not (Cond.castable q.1 q.2) ∈ gvF := by decide +kernel
theorem kS_in : ∀ q ∈ kS, Cond.stringRef q.1 q.2.1 q.2.2 ∈ lw_tbl ∧ Cond.exactly (.string q.1 q.2.1) "java/lang/String" ∈ gvF := by decide +kernel
def kLy : List ((String × Nat × String × List Int32) × Nat) := kL.zip [757, 767, 774, 781, 788, 793, 799, 803, 657, 662, 667, 673, 688, 694, 700]
theorem kLy_fst : kLy.map Prod.fst = kL := rfl
theorem kLt_ix : ∀ p ∈ kLy, gvF[p.2]? = some (Cond.exactly (.string p.1.1 p.1.2.1) "java/lang/String") ∧ gvF[p.2 + 1]? = some (Cond.eq (.field (.string p.1.1 p.1.2.1) "java/lang/String" "coder" "B") (.int 0)) ∧ gvF[p.2 + 2]? = some (Cond.arrayOf (.field (.string p.1.1 p.1.2.1) "java/lang/String" "value" "[B") .byte) ∧ gvF[p.2 + 3]? = some (Cond.eq (.length (.field (.string p.1.1 p.1.2.1) "java/lang/String" "value" "[B")) (.int (Int32.ofNat p.1.2.2.2.length))) ∧ p.1.2.2.2.length < 2 ^ 31 := by decide +kernel
theorem kLt_sr : ∀ q ∈ kL, Cond.stringRef q.1 q.2.1 q.2.2.1 ∈ lw_tbl := by decide +kernel
theorem kLt_in : ∀ q ∈ kL, Cond.stringRef q.1 q.2.1 q.2.2.1 ∈ lw_tbl ∧ Cond.exactly (.string q.1 q.2.1) "java/lang/String" ∈ gvF ∧ Cond.eq (.field (.string q.1 q.2.1) "java/lang/String" "coder" "B") (.int 0) ∈ gvF ∧ Cond.arrayOf (.field (.string q.1 q.2.1) "java/lang/String" "value" "[B") .byte ∈ gvF ∧ Cond.eq (.length (.field (.string q.1 q.2.1) "java/lang/String" "value" "[B")) (.int (Int32.ofNat q.2.2.2.length)) ∈ gvF ∧ q.2.2.2.length < 2 ^ 31 := by
  intro q hq
  have hs := kLt_sr q hq
  rw [← kLy_fst] at hq
  obtain ⟨p, hp, rfl⟩ := List.mem_map.mp hq
  obtain ⟨h1, h2, h3, h4, h5⟩ := kLt_ix p hp
  exact ⟨hs, List.mem_of_getElem? h1, List.mem_of_getElem? h2, List.mem_of_getElem? h3, List.mem_of_getElem? h4, h5⟩
def kLz : List ((String × Nat × String × List Int32) × Nat) := kL.zip [761, 771, 778, 785, 792, 797, 0, 807, 661, 666, 671, 677, 692, 698, 704]
theorem kLz_el : ∀ p ∈ kLz, ∀ j, j < p.1.2.2.2.length → gvF[p.2 + j]? = some (Cond.eq (.elem (.field (.string p.1.1 p.1.2.1) "java/lang/String" "value" "[B") (.int (Int32.ofNat j))) (.int (p.1.2.2.2.getD j 0))) := by decide +kernel
theorem kLz_fst : kLz.map Prod.fst = kL := rfl
theorem kL_el : ∀ q ∈ kL, ∀ j, j < q.2.2.2.length → Cond.eq (.elem (.field (.string q.1 q.2.1) "java/lang/String" "value" "[B") (.int (Int32.ofNat j))) (.int (q.2.2.2.getD j 0)) ∈ gvF := by
  intro q hq j hj
  rw [← kLz_fst] at hq
  obtain ⟨p, hp, rfl⟩ := List.mem_map.mp hq
  exact List.mem_of_getElem? (kLz_el p hp j hj)
theorem arr_of {s : State} {args : Array Value} {ty : FieldType} (hp : va_RA s = va_RA s) (h : (Cond.arrayClass ty).before args s = true) (hno : ∀ C, ty ≠ .object C) : ∃ cA, ArrOfT s cA ty ∧ va_RA s cA ty := by
  obtain ⟨c, k, comp, h1, h2, h3⟩ := Cond.arrayClass_spec h
  refine ⟨c, fun N z => ⟨(fun k h => nomatch h), k, h2, comp, h3⟩, ?_⟩
  cases ty with
  | object C => exact absurd rfl (hno C)
  | _ => exact h1
theorem arr_ofO {s : State} {args : Array Value} {C : String} (h : (Cond.arrayOver (.object C)).before args s = true) : ∃ cA, ArrOfT s cA (.object C) ∧ va_RA s cA (.object C) := by
  obtain ⟨comp, c, k, h1, h2, h3, h4, h5⟩ := Cond.arrayOver_spec h
  exact ⟨c, fun N z => ⟨(fun k h => nomatch h), k, h3, comp, h4⟩, k, comp, h3, h4, h1, h5⟩
theorem exact_ref {args : Array Value} {s : State} {t : Term} {C : String} (h : (Cond.exactly t C).before args s = true) : ∃ a, t.eval args s none [] s = some (.ref a) := by
  obtain ⟨a, c, cA, kA, q1, -⟩ := Cond.exactly_spec (args := args) (first := s) (o := none) (s := s) (idx := []) (t := t) (cls := C) h
  exact ⟨a, q1⟩
theorem env_K {s : State} {args : Array Value} (hts : ∀ w ∈ lw_tbl, w.before args s = true) (hgv : ∀ w ∈ gvF, w.before args s = true) : ∃ (D : va_G) (T : Nat → ClassId), eK D T s := by
  have ha : ∀ w ∈ aw, w.before args s = true := fun w hw => hts w (List.mem_filter.mp hw).1
  obtain ⟨c0, i0, h0⟩ := u_known ha inA0 (ha _ qNX0)
  obtain ⟨c1, i1, h1⟩ := u_known ha inA1 (ha _ qNX1)
  obtain ⟨c2, i2, h2⟩ := u_known ha inA2 (ha _ qNX2)
  obtain ⟨c3, i3, h3⟩ := u_known ha inA3 (ha _ qNX3)
  obtain ⟨c4, i4, h4⟩ := u_known ha inA4 (ha _ qNX4)
  obtain ⟨c5, i5, h5⟩ := u_known ha inA5 (ha _ qNX5)
  obtain ⟨c6, i6, h6⟩ := u_known ha inA6 (ha _ qNX6)
  obtain ⟨c7, i7, h7⟩ := u_known ha inA7 (ha _ qNX7)
  obtain ⟨c8, i8, h8⟩ := u_known ha inA8 (ha _ qNJ4)
  obtain ⟨c9, i9, h9⟩ := u_known ha inA9 (ha _ qNJ0)
  obtain ⟨t0, a0, r0⟩ := arr_of rfl (ha _ qAI) (fun C h => nomatch h)
  obtain ⟨t1, a1, r1⟩ := arr_of rfl (ha _ qAZ) (fun C h => nomatch h)
  obtain ⟨t2, a2, r2⟩ := arr_of rfl (ha _ qAC) (fun C h => nomatch h)
  obtain ⟨t3, a3, r3⟩ := arr_ofO (C := RX1) (hts (Cond.arrayOver (.object RX1)) (by decide +kernel))
  obtain ⟨t4, a4, r4⟩ := arr_of rfl (ha _ qAB) (fun C h => nomatch h)
  refine ⟨(fun k => match k with | 0 => c0 | 1 => c1 | 2 => c2 | 3 => c3 | 4 => c4 | 5 => c5 | 6 => c6 | 7 => c7 | 8 => c8 | _ => c9, fun k => match k with | 0 => i0 | 1 => i1 | 2 => i2 | 3 => i3 | 4 => i4 | 5 => i5 | 6 => i6 | 7 => i7 | 8 => i8 | _ => i9), fun k => match k with | 0 => t0 | 1 => t1 | 2 => t2 | 3 => t3 | _ => t4, ⟨⟨?_, ?_⟩, fun q hq => va_Nw.of rfl (hts _ (kN_in q hq)), fun q hq => va_Nw.of rfl (hts _ (kD_in q hq)), fun q hq => va_Nw.of rfl (hts _ (kCa_in q hq)), fun q hq => va_Nc.of (hgv _ (kNc_in q hq)), fun q hq => ?_⟩⟩
  · intro c q hq
    match c, hq with
    | 0, hq => cases hq; exact h0
    | 1, hq => cases hq; exact h1
    | 2, hq => cases hq; exact h2
    | 3, hq => cases hq; exact h3
    | 4, hq => cases hq; exact h4
    | 5, hq => cases hq; exact h5
    | 6, hq => cases hq; exact h6
    | 7, hq => cases hq; exact h7
    | 8, hq => cases hq; exact h8
    | 9, hq => cases hq; exact h9
    | n + 10, hq => exact nomatch hq
  · intro k q hq
    match k, hq with
    | 0, hq => cases hq; exact ⟨a0, r0⟩
    | 1, hq => cases hq; exact ⟨a1, r1⟩
    | 2, hq => cases hq; exact ⟨a2, r2⟩
    | 3, hq => cases hq; exact ⟨a3, r3⟩
    | 4, hq => cases hq; exact ⟨a4, r4⟩
    | n + 5, hq => exact nomatch hq
  · obtain ⟨a, ea⟩ := exact_ref (hgv _ (kS_in q hq).2)
    exact ⟨a, vk_R.of (hts _ (kS_in q hq).1) (by rw [← ea])⟩
theorem env_S {s : State} {args : Array Value} {A : Nat → Prop} (hts : ∀ w ∈ lw_tbl, w.before args s = true) (hgv : ∀ w ∈ gvF, w.before args s = true) (hA : ∀ a : Nat, a < s.heap.size → ¬ A a) : eS A s s.heap := by
  intro q hq
  obtain ⟨g1, g2, g3, g4, g5, g6⟩ := kLt_in q hq
  obtain ⟨adK, adV, hS, hev⟩ := vk_Sof (A := A) (args := args) (s := s) (N := 1) (tm := fun _ => .string q.1 q.2.1) (len := [q.2.2.2.length]) (byt := [q.2.2.2]) (fun i hi => by
      have : i = 0 := by omega
      subst this
      exact g6) (fun i hi => hgv _ g2) (fun i hi => hgv _ g3) (fun i hi => hgv _ g4) (fun i hi => by
      have : i = 0 := by omega
      subst this
      exact hgv _ g5) (fun i hi j hj => by
      have : i = 0 := by omega
      subst this
      exact hgv _ (kL_el q hq j hj)) (fun i j hi hj hij => absurd (by omega) hij) hA
  have z := hS.1 0 (by decide)
  refine ⟨adK 0, adV 0, vk_R.of (hts _ g1) (by rw [← hev 0 (by decide)]), ?_, ?_, z.1, z.2.1, z.2.2.1, z.2.2.2⟩
  · exact va_Zof (hts _ (by decide +kernel)) (hts _ (by decide +kernel)) (va_eqi (hgv _ (by decide +kernel))) hA
  · exact (vx_Zqof (hts _ (by decide +kernel)) (hts _ (by decide +kernel)) (hgv _ (by decide +kernel)) hA).1
theorem env_X {s : State} {args : Array Value} {A : Nat → Prop} {l : Launch} (hfl : l.flags = flags0) (hts : ∀ w ∈ lw_tbl, w.before args s = true) (hgv : ∀ w ∈ gvF, w.before args s = true) (hA : ∀ a : Nat, a < s.heap.size → ¬ A a) : eX l A s := by
  refine ⟨?_, ?_, ?_, env_S hts hgv hA⟩
  · show (!l.flags.contains noTraceFlag) = false
    rw [hfl]
    decide +kernel
  · exact vx_Zqof (hts _ (by decide +kernel)) (hts _ (by decide +kernel)) (hgv _ (by decide +kernel)) hA
  · exact vx_Zqof (hts _ (by decide +kernel)) (hts _ (by decide +kernel)) (hgv _ (by decide +kernel)) hA
theorem eqv {args : Array Value} {s : State} {t : Term} {z : Int32} (h : (Cond.eq t (.int z)).before args s = true) : t.eval args s none [] s = some (.int z) := by
  cases hv : t.eval args s none [] s with
  | none => simp [Cond.before, Cond.holds, Cond.value, hv] at h
  | some w =>
    have hz : (Term.int z).eval args s none [] s = some (.int z) := rfl
    simp only [Cond.before, Cond.holds, Cond.value, hv, hz] at h
    cases w <;> simp_all
theorem zDigitOnes_in : Cond.arrayOf (.static "java/lang/Integer" "DigitOnes" "[B") .byte ∈ gvF ∧ Cond.eq (.length (.static "java/lang/Integer" "DigitOnes" "[B")) (.int 100) ∈ gvF ∧ Cond.laysStatic "java/lang/Integer" "DigitOnes" "[B" ∈ lw_tbl ∧ Cond.initialized "java/lang/Integer" ∈ lw_tbl := by decide +kernel
theorem zDigitOnes_ix : ∀ j, j < 100 → gvF[14 + j]? = some (Cond.eq (.elem (.static "java/lang/Integer" "DigitOnes" "[B") (.int (Int32.ofNat j))) (.int (dgO j))) := by decide +kernel
theorem zDigitOnes_el : ∀ j, j < 100 → Cond.eq (.elem (.static "java/lang/Integer" "DigitOnes" "[B") (.int (Int32.ofNat j))) (.int (dgO j)) ∈ gvF := fun j hj => List.mem_of_getElem? (zDigitOnes_ix j hj)
theorem zDigitTens_in : Cond.arrayOf (.static "java/lang/Integer" "DigitTens" "[B") .byte ∈ gvF ∧ Cond.eq (.length (.static "java/lang/Integer" "DigitTens" "[B")) (.int 100) ∈ gvF ∧ Cond.laysStatic "java/lang/Integer" "DigitTens" "[B" ∈ lw_tbl ∧ Cond.initialized "java/lang/Integer" ∈ lw_tbl := by decide +kernel
theorem zDigitTens_ix : ∀ j, j < 100 → gvF[117 + j]? = some (Cond.eq (.elem (.static "java/lang/Integer" "DigitTens" "[B") (.int (Int32.ofNat j))) (.int (dgT j))) := by decide +kernel
theorem zDigitTens_el : ∀ j, j < 100 → Cond.eq (.elem (.static "java/lang/Integer" "DigitTens" "[B") (.int (Int32.ofNat j))) (.int (dgT j)) ∈ gvF := fun j hj => List.mem_of_getElem? (zDigitTens_ix j hj)
theorem env_Z {s : State} {args : Array Value} {A : Nat → Prop} (hts : ∀ w ∈ lw_tbl, w.before args s = true) (hgv : ∀ w ∈ gvF, w.before args s = true) (hA : ∀ a : Nat, a < s.heap.size → ¬ A a) : zD A s s.heap := by
  obtain ⟨tdgO, edgO, TdgO⟩ := va_Tof (args := args) (s := s) (tm := .static "java/lang/Integer" "DigitOnes" "[B") (ty := .byte) (N := 100) (f := fun j => .int (dgO j)) (A := A) (by decide) (hgv _ zDigitOnes_in.1) (eqv (hgv _ zDigitOnes_in.2.1)) (fun j hj => eqv (hgv _ (zDigitOnes_el j hj))) hA
  obtain ⟨tdgT, edgT, TdgT⟩ := va_Tof (args := args) (s := s) (tm := .static "java/lang/Integer" "DigitTens" "[B") (ty := .byte) (N := 100) (f := fun j => .int (dgT j)) (A := A) (by decide) (hgv _ zDigitTens_in.1) (eqv (hgv _ zDigitTens_in.2.1)) (fun j hj => eqv (hgv _ (zDigitTens_el j hj))) hA
  exact ⟨⟨tdgO, va_Zof (hts _ zDigitOnes_in.2.2.1) (hts _ zDigitOnes_in.2.2.2) edgO hA, TdgO⟩, tdgT, va_Zof (hts _ zDigitTens_in.2.2.1) (hts _ zDigitTens_in.2.2.2) edgT hA, TdgT⟩
theorem pV_in : ∀ y ∈ kPv, Cond.privateMethod y ∈ lw_tbl ∧ Cond.instanceMethod y ∈ lw_tbl := by decide +kernel
theorem pV_0 : Cond.selects "java/lang/StringBuilder" yJ5_isLatin1_aae02 yJ5_isLatin1_aae02 ∈ lw_tbl := by decide +kernel
theorem env_V {s : State} {args : Array Value} (hts : ∀ w ∈ lw_tbl, w.before args s = true) : pV s := by
  intro y hy
  refine va_tabs (A := args) (A' := #[]) (u := s) (U := s) rfl rfl ?_
  refine selPriv (y0 := yJ5_isLatin1_aae02) (hts _ pV_0) ?_ ?_ (hts _ (pV_in y hy).1) (hts _ (pV_in y hy).2)
  · simp only [kPv, List.mem_cons, List.not_mem_nil, or_false] at hy
    rcases hy with rfl | rfl | rfl <;> rfl
  · simp only [kPv, List.mem_cons, List.not_mem_nil, or_false] at hy
    rcases hy with rfl | rfl | rfl <;> decide
