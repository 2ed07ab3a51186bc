/-! texts: what is known of letters and numbers -/
theorem nmJ0 : ∀ a, a < 4 → ∀ b, b < 4 → a ≠ b → (TJ0 a).2.1 ≠ (TJ0 b).2.1 := by decide +kernel
theorem tyJ0_ok : ∀ k, k < 4 → parseFieldDescriptor (TJ0 k).2.2.1 = some (tyJ0 k) := by decide +kernel
theorem nmJ4 : ∀ a, a < 4 → ∀ b, b < 4 → a ≠ b → (TJ4 a).2.1 ≠ (TJ4 b).2.1 := by decide +kernel
theorem tyJ4_ok : ∀ k, k < 4 → parseFieldDescriptor (TJ4 k).2.2.1 = some (tyJ4 k) := by decide +kernel
theorem shl0 (n : Nat) (h : n < 100) : nI n <<< ((0 : Int32) &&& 31) = nI n := by
  have : ∀ n, n < 100 → nI n <<< ((0 : Int32) &&& 31) = nI n := by decide +kernel
  exact this n h
theorem lF_nil : lF [] = fun _ => 0 := rfl
theorem lF_get : ∀ (l : List Int32) (j : Nat), lF l j = l.getD j 0
  | [], j => by simp [lF]
  | b :: l, 0 => rfl
  | b :: l, j + 1 => by rw [lF, lF_get l j]; simp
theorem lF_app (l bs : List Int32) : va_cpy (fun j => bs.getD j 0) (lF l) 0 l.length bs.length = lF (l ++ bs) := by
  funext j
  by_cases h : l.length ≤ j ∧ j < l.length + bs.length
  · rw [pk_cpy_in h.1 h.2, lF_get, Nat.zero_add]
    simp [List.getD_eq_getElem?_getD, List.getElem?_append_right h.1]
  · rw [pk_cpy_out (by omega), lF_get, lF_get]
    by_cases h1 : j < l.length
    · simp [List.getD_eq_getElem?_getD, List.getElem?_append_left h1]
    · simp [List.getD_eq_getElem?_getD, List.getElem?_append_right (Nat.le_of_not_lt h1)]
      rw [List.getElem?_eq_none (by omega), List.getElem?_eq_none (by omega)]
theorem lF_put (l : List Int32) (y : Int32) : upd (lF l) l.length y = lF (l ++ [y]) := by
  funext j
  rw [lF_get]
  by_cases h : j = l.length
  · rw [h, pk_us]; simp
  · rw [pk_un h, lF_get]
    by_cases h1 : j < l.length
    · simp [List.getD_eq_getElem?_getD, List.getElem?_append_left h1]
    · simp [List.getD_eq_getElem?_getD]
      rw [List.getElem?_eq_none (by omega), List.getElem?_eq_none (by simp; omega)]
theorem lF_put2 (l : List Int32) (y z : Int32) : upd (upd (lF l) (l.length + 1) z) l.length y = lF (l ++ [y, z]) := by
  rw [show l ++ [y, z] = (l ++ [y]) ++ [z] from by simp, ← lF_put, ← lF_put]
  funext j
  by_cases h : j = l.length
  · rw [h, pk_us, pk_un (by simp), pk_us]
  · rw [pk_un h]
    by_cases h1 : j = l.length + 1
    · rw [h1, pk_us, show l.length + 1 = (l ++ [y]).length from by simp, pk_us]
    · rw [pk_un h1, pk_un (by simp; omega), pk_un h]
theorem okB_fit {bs : List Int32} (ok : okB bs = true) (j : Nat) : fits .byte (.int (bs.getD j 0)) = true := by
  have : ∀ n, n < 128 → fits .byte (.int (nI n)) = true := by decide +kernel
  have h : ∃ n, n < 128 ∧ bs.getD j 0 = nI n := by
    by_cases h1 : j < bs.length
    · have h2 := okB_all ok (bs.getD j 0) (by simp [List.getD_eq_getElem?_getD, h1])
      obtain ⟨n, hn, e⟩ := nI_of (Int32.not_lt.mpr h2.1)
      refine ⟨n, ?_, e⟩
      rcases Nat.lt_or_ge n 128 with q | q
      · exact q
      · exact absurd (e ▸ h2.2) (show ¬ nI n ≤ (127 : Int32) from nI_ge (a := 127) (by omega) (by omega))
    · exact ⟨0, by omega, by simp [List.getD_eq_getElem?_getD, List.getElem?_eq_none (Nat.le_of_not_lt h1)]; rfl⟩
  obtain ⟨n, hn, e⟩ := h
  rw [e]
  exact this n hn
theorem le16 {n : Nat} (h : n ≤ 16) : nI n - 16 ≤ 0 := by
  have : ∀ n, n < 17 → nI n - 16 ≤ 0 := by decide +kernel
  exact this n (by omega)
theorem ng_10 : ∀ k, k < 10 → ¬ -(nI k) ≤ (-10 : Int32) := by decide +kernel
theorem ng_10' (k : Nat) (hk : k < 100) (h : ¬ -(nI k) ≤ (-10 : Int32)) : k < 10 := by
  have : ∀ k, k < 100 → ¬ -(nI k) ≤ (-10 : Int32) → k < 10 := by decide +kernel
  exact this k hk h
theorem ng_100 : ∀ k, k < 100 → ¬ -(nI k) ≤ (-100 : Int32) := by decide +kernel
theorem ng_gt : ∀ k, k < 100 → (-100 : Int32) < -(nI k) := by decide +kernel
theorem ng_9 : ∀ k, k < 100 → (-9 : Int32) ≤ -(nI k) → k < 10 := by decide +kernel
theorem ng_9' : ∀ k, k < 10 → (-9 : Int32) ≤ -(nI k) := by decide +kernel
theorem ng_m1 {n : Nat} (h : 0 < n) : nI n + -1 = nI (n - 1) := by
  obtain ⟨m, rfl⟩ : ∃ m, n = m + 1 := ⟨n - 1, by omega⟩
  rw [← Int32.sub_eq_add_neg]
  exact nI_pred m
theorem d_nar : ∀ k, k < 100 → vp_nar .byte (dgO k) = dgO k ∧ vp_nar .byte (dgT k) = dgT k := by decide +kernel
