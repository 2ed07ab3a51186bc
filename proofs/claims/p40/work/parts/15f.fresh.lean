theorem e_vin9 {n N : Nat} (h : n < N) (hN : N < 2 ^ 31) : vin (nI n) N = true := by
  have z := vp_in_nI h hN
  rw [vin]
  exact decide_eq_true z
/-! a text that was made, as others read it -/
theorem okC_of {bs : List Int32} (ok : okB bs = true) {k : Nat} (hk : k < bs.length) : okC bs (nI k) (bs.getD k 0) = true := by
  have hlt := okB_lt ok
  have h2 := okB_all ok (bs.getD k 0) (by simp [List.getD_eq_getElem?_getD, hk])
  obtain ⟨n, hn, e⟩ := nI_of (Int32.not_lt.mpr h2.1)
  have h128 : n < 128 := by
    rcases Nat.lt_or_ge n 128 with q | q
    · exact q
    · exact absurd (e ▸ h2.2) (show ¬ nI n ≤ (127 : Int32) from nI_ge (a := 127) (by omega) (by omega))
  have f : ∀ n, n < 128 → ((nI n &&& 255).toUInt32 % 65536).toInt32 = nI n ∧ (nI n).toUInt32.toUInt16.toUInt32.toInt32 = nI n := by decide +kernel
  have hv : vin (nI k) bs.length = true := e_vin9 hk (by omega)
  rw [okC, hv, nI_clamp (by omega), e]
  simp only [Bool.true_and, Bool.and_true, decide_true, Bool.and_eq_true, decide_eq_true_eq]
  exact ⟨⟨⟨(f n h128).1, (f n h128).2⟩, Int32.not_lt.mp (nI_pos (by omega))⟩, nI_lt hk (by omega)⟩
section FRESH
variable {s : State} {args : Array Value} {l : Launch} {D : va_G} {T : Nat → ClassId} {ws wc : va_W} {A : Nat → Prop} {H : Heap} {locs : List Loc}
theorem J9.fresh {a v st sw : Nat} {b0 bs : List Int32} (hts : ∀ w ∈ aw, w.before args s = true) (hE : eK D T s) (h : J9 A a v b0 s) (hP : va_P D kC ws H) (hD : va_D A ws) (hS : va_S A s.heap H locs) (hA : ∀ q, s.heap.size ≤ q → A q) (isC : List Nat) (hC : isC.map (fun i => ws[i]?) = wc.map some) (q0 q1 : Nat) (he0 : ws[q0]? = some (st, .inr (9, [.ref sw, .int 0, .int 0, .int 0]))) (he1 : ws[q1]? = some (sw, .inl (T 4, bs.length, .inl (lF bs)))) (hq : (!isC.contains q0 && !isC.contains q1) = true) (hlt : bs.length < 100) {U : State} (hU : U.heap = H) (hW : s.WarmedH U.vm) : JS wc st sw bs U := by
  have hn : ∀ (q : Nat) (e : Nat × va_E), ws[q]? = some e → (!isC.contains q) = true → e.1 < H.size → ¬ va_A wc H.size e.1 := by
    intro q e he hc hsz hh
    rcases hh with ⟨k, y, hy⟩ | hh
    · have h1 : (isC.map (fun i => ws[i]?))[k]? = some (some (e.1, y)) := by rw [hC, List.getElem?_map, hy]; rfl
      rw [List.getElem?_map] at h1
      cases hi : isC[k]? with
      | none => rw [hi] at h1; cases h1
      | some i =>
        rw [hi] at h1
        have h2 : ws[i]? = some (e.1, y) := Option.some.inj h1
        have h3 : i = q := hD.1 i q _ _ h2 he rfl
        rw [← h3] at hc
        have h4 : isC.contains i = true := List.contains_iff_mem.mpr (List.mem_of_getElem? hi)
        rw [h4] at hc
        cases hc
    · omega
  rw [Bool.and_eq_true] at hq
  obtain ⟨r, g1, cell, g2, g3, g4, g5⟩ := hP q0 _ he0
  have hr : r = (RJ0, TJ0, 4) := Option.some.inj (g1.symm.trans (rfl : kC[9]? = some (RJ0, TJ0, 4)))
  subst hr
  have hst : st < H.size := (Array.getElem?_eq_some_iff.mp g2).1
  have hA0 := hn q0 _ he0 hq.1 hst
  have a2 : H[sw]? = some (vp_cell (T 4) (bs.length, .inl (lF bs))) := hP q1 _ he1
  have hsw : sw < H.size := (Array.getElem?_eq_some_iff.mp a2).1
  have hA1 := hn q1 _ he1 hq.2 hsw
  have hF := freeOf hD hS hA hC
  obtain ⟨hSl, hfc, kC9, hkC, hkind⟩ := hE.1.1 9 (RJ0, TJ0, 4) rfl
  have of : ∀ k, k < 4 → ∀ v9, vp_V [.ref sw, .int 0, .int 0, .int 0] k = v9 → va_OF (TJ0 k).1 (TJ0 k).2.1 (TJ0 k).2.2.1 v9 st (va_A wc H.size) s H := by
    intro k hk v9 hv9
    obtain ⟨cf, kf, fi, f, hi, hsl⟩ := hSl k hk
    refine ⟨cf, kf, fi, f, cell, hi, (u_facts hfc hkC (u_lays hts inA9 hk) hi).1, g2, by rw [g4]; exact (fun h => by cases h), ?_, hA0⟩
    rw [hsl, ← hv9]
    exact g5 k hk
  have J : JP (va_A wc H.size) st sw bs s H := by
    obtain ⟨z1, z2, -⟩ := (h.1.kept hS.2.1).narrow hF
    refine ⟨z1, z2, ⟨cell, g2, by rw [g4]; rfl, by rw [g3]; exact hfc, hA0⟩, of 1 (by decide) _ rfl, of 0 (by decide) _ rfl, vp_cell (T 4) (bs.length, .inl (lF bs)), a2, (hE.1.2 4 _ rfl).1 _ _, (fun h => by cases h), ?_, ?_, fun j hj => ?_, hA1⟩
    · show bs.length ≤ (arrV _ _ _).slots.size
      rw [arrV_size]; exact Nat.le_refl _
    · show (arrV _ _ _).slots.size.toInt32 = _
      rw [arrV_size]
    · show (arrV _ _ _).slots[j]? = _
      rw [arrV_read _ _ hj, lF_get]
  rw [JS, hU]
  refine ⟨?_, ?_, h.2.2.warm hW⟩
  · rw [hU]; exact J.mv hW.alike
  · rw [hU]; exact ((h.2.1.kept hS.2.1).narrow hF).moved hW.alike
end FRESH
