/-! sums of the whales' numbers, and how deeds change them -/
theorem Gm.gd {m : Nat} {gw gk : Nat → Int32} (h : Gm m gw gk) : Gd gw gk := by
  obtain ⟨n, t, b, _, h1, h2⟩ := h
  exact ⟨n, t, b, h1, h2⟩
theorem Gm.of {gw gk : Nat → Int32} (h : Gd gw gk) : Gm 0 gw gk := by
  obtain ⟨n, t, b, h1, h2⟩ := h
  exact ⟨n, t, b, Nat.zero_le _, h1, h2⟩
theorem Gm.mono {m k : Nat} {gw gk : Nat → Int32} (h : k ≤ m) (g : Gm m gw gk) : Gm k gw gk := by
  obtain ⟨n, t, b, h0, h1, h2⟩ := g
  exact ⟨n, t, b, Nat.le_trans h h0, h1, h2⟩
theorem BD_nI {k : Nat} (h : k ≤ 800000) : BD (nI k) := by
  have e : (nI k).toInt = k := Int32.toInt_ofNat_of_lt (by omega)
  refine ⟨?_, ?_⟩ <;> rw [e] <;> omega
theorem sI_ne {gw gw' : Nat → Int32} {c : Nat} : ∀ n, (∀ q, q < n → gw' (9 * q + c) = gw (9 * q + c)) → sI gw' c n = sI gw c n := by
  intro n
  induction n with
  | zero => intro _; rfl
  | succ n ih =>
    intro h
    rw [sI, sI, ih (fun q hq => h q (by omega)), h n (by omega)]
theorem sI_up {gw : Nat → Int32} {c i : Nat} {v : Int32} (hc : c < 9) (hv : v = gw (9 * i + c) + 1) : ∀ n, i < n → sI (upd gw (9 * i + c) v) c n = sI gw c n + 1 := by
  intro n
  induction n with
  | zero => intro h; exact absurd h (Nat.not_lt_zero _)
  | succ n ih =>
    intro h
    rw [sI, sI]
    by_cases e : i = n
    · subst e
      rw [sI_ne (gw := gw) i (fun q hq => up_ne q c hc hc (Or.inl (by omega))), pk_us, hv, Int32.add_assoc]
    · rw [ih (by omega), up_ne n c hc hc (Or.inl (by omega)), Int32.add_assoc, Int32.add_comm 1, ← Int32.add_assoc]
theorem pPl_eq {gw gw' : Nat → Int32} {t : Int32} {q : Nat} (h0 : gw' (9 * q) = gw (9 * q)) (h4 : gw' (9 * q + 4) = gw (9 * q + 4)) : pPl gw' t q = pPl gw t q := by
  rw [pPl, pPl, h0, h4]
theorem Xn_mono {gw gk : Nat → Int32} {n u v : Nat} (h : Xn gw gk n u) (huv : u ≤ v) : Xn gw gk n v := by
  obtain ⟨h1, h2, h3, h4, a, b, g, h5, h6, h7, h8, h9, h10⟩ := h
  exact ⟨h1, h2, h3, h4, a, b, g, h5, h6, h7, h8, by omega, by omega⟩
theorem Xn_gen {gw gk gw' gk' : Nat → Int32} {n u : Nat} (h : Xn gw gk n u) (c0 : ∀ q, q < n → gw' (9 * q) = gw (9 * q)) (c4 : ∀ q, q < n → gw' (9 * q + 4) = gw (9 * q + 4)) (c6 : ∀ q, q < n → gw' (9 * q + 6) = gw (9 * q + 6)) (c7 : ∀ q, q < n → gw' (9 * q + 7) = gw (9 * q + 7)) (c8 : ∀ q, q < n → gw' (9 * q + 8) = gw (9 * q + 8)) (k7 : gk' 7 = gk 7) (k8 : gk' 8 = gk 8) (k3 : gk' 3 = gk 3) (k4 : gk' 4 = gk 4) : Xn gw' gk' n u := by
  obtain ⟨h1, h2, h3, h4, a, b, g, h5, h6, h7, h8, h9, h10⟩ := h
  refine ⟨by rw [k7, h1, sI_ne n c8], by rw [k8, h2, sI_ne n c7], ?_, ?_, a, b, g, by rw [k3, h5], by rw [k4, h6], by rw [sI_ne n c6, h7], h8, h9, h10⟩
  · rw [cnt_congr (Q := pPl gw 0) n 0 (fun q _ hq => pPl_eq (c0 q (by omega)) (c4 q (by omega)))]; exact h3
  · rw [cnt_congr (Q := pPl gw 1) n 0 (fun q _ hq => pPl_eq (c0 q (by omega)) (c4 q (by omega)))]; exact h4
theorem Xn_congr {gw gk gw' gk' : Nat → Int32} {n u : Nat} (h : Xn gw gk n u) (hn : n ≤ 10) (a : ∀ j, j < 90 → gw' j = gw j) (k : ∀ j, j < 18 → gk' j = gk j) : Xn gw' gk' n u :=
  Xn_gen h (fun q _ => a _ (by omega)) (fun q _ => a _ (by omega)) (fun q _ => a _ (by omega)) (fun q _ => a _ (by omega)) (fun q _ => a _ (by omega)) (k 7 (by omega)) (k 8 (by omega)) (k 3 (by omega)) (k 4 (by omega))
theorem Xn_c {gw gk : Nat → Int32} {n u c : Nat} (h : Xn gw gk n u) (hc : c = 3 ∨ c = 5) (i : Nat) (v : Int32) : Xn (upd gw (9 * i + c) v) gk n u :=
  Xn_gen h (fun q _ => pk_un (by omega)) (fun q _ => pk_un (by omega)) (fun q _ => pk_un (by omega)) (fun q _ => pk_un (by omega)) (fun q _ => pk_un (by omega)) rfl rfl rfl rfl
theorem Xn_k {gw gk : Nat → Int32} {n u j : Nat} (h : Xn gw gk n u) (hj : j ≠ 3 ∧ j ≠ 4 ∧ j ≠ 7 ∧ j ≠ 8) (v : Int32) : Xn gw (upd gk j v) n u :=
  Xn_gen h (fun _ _ => rfl) (fun _ _ => rfl) (fun _ _ => rfl) (fun _ _ => rfl) (fun _ _ => rfl) (pk_un (by omega)) (pk_un (by omega)) (pk_un (by omega)) (pk_un (by omega))
theorem Xn_k5 {gw gk : Nat → Int32} {n u : Nat} (h : Xn gw gk n u) (v : Int32) : Xn gw (upd gk 5 v) n u := Xn_k h (by omega) v
theorem Xn_k6 {gw gk : Nat → Int32} {n u : Nat} (h : Xn gw gk n u) (v : Int32) : Xn gw (upd gk 6 v) n u := Xn_k h (by omega) v
theorem Xn_k11 {gw gk : Nat → Int32} {n u : Nat} (h : Xn gw gk n u) (v : Int32) : Xn gw (upd gk 11 v) n u := Xn_k h (by omega) v
theorem Xn_s {gw gk : Nat → Int32} {n u i : Nat} {v w : Int32} (h : Xn gw gk n u) (hi : i < n) (hv : v = gw (9 * i + 8) + 1) (hw : w = gk 7 + 1) : Xn (upd gw (9 * i + 8) v) (upd gk 7 w) n u := by
  obtain ⟨h1, h2, h3, h4, a, b, g, h5, h6, h7, h8, h9, h10⟩ := h
  have e : ∀ c, c < 8 → ∀ q, upd gw (9 * i + 8) v (9 * q + c) = gw (9 * q + c) := fun c hc q => pk_un (by omega)
  refine ⟨?_, ?_, ?_, ?_, a, b, g, h5, h6, ?_, h8, h9, h10⟩
  · rw [sI_up (by omega) hv n hi, pk_us, hw, h1]
  · rw [sI_ne n (fun q _ => e 7 (by omega) q), pk_un (by omega), h2]
  · rw [cnt_congr (Q := pPl gw 0) n 0 (fun q _ hq => pPl_eq (e 0 (by omega) q) (e 4 (by omega) q))]; exact h3
  · rw [cnt_congr (Q := pPl gw 1) n 0 (fun q _ hq => pPl_eq (e 0 (by omega) q) (e 4 (by omega) q))]; exact h4
  · rw [sI_ne n (fun q _ => e 6 (by omega) q), h7]
theorem Xn_f {gw gk : Nat → Int32} {n u i : Nat} {v w : Int32} (h : Xn gw gk n u) (hi : i < n) (hv : v = gw (9 * i + 7) + 1) (hw : w = gk 8 + 1) : Xn (upd gw (9 * i + 7) v) (upd gk 8 w) n u := by
  obtain ⟨h1, h2, h3, h4, a, b, g, h5, h6, h7, h8, h9, h10⟩ := h
  have e : ∀ c, c < 9 → c ≠ 7 → ∀ q, upd gw (9 * i + 7) v (9 * q + c) = gw (9 * q + c) := fun c hc _ q => pk_un (by omega)
  refine ⟨?_, ?_, ?_, ?_, a, b, g, h5, h6, ?_, h8, h9, h10⟩
  · rw [sI_ne n (fun q _ => e 8 (by omega) (by omega) q), pk_un (by omega), h1]
  · rw [sI_up (by omega) hv n hi, pk_us, hw, h2]
  · rw [cnt_congr (Q := pPl gw 0) n 0 (fun q _ hq => pPl_eq (e 0 (by omega) (by omega) q) (e 4 (by omega) (by omega) q))]; exact h3
  · rw [cnt_congr (Q := pPl gw 1) n 0 (fun q _ hq => pPl_eq (e 0 (by omega) (by omega) q) (e 4 (by omega) (by omega) q))]; exact h4
  · rw [sI_ne n (fun q _ => e 6 (by omega) (by omega) q), h7]
theorem Xn_g3 {gw gk : Nat → Int32} {n u : Nat} {w : Int32} (h : Xn gw gk n u) (hw : w = gk 3 + 1 := by rfl) : Xn gw (upd gk 3 w) n (u + 1) := by
  obtain ⟨h1, h2, h3, h4, a, b, g, h5, h6, h7, h8, h9, h10⟩ := h
  exact ⟨h1, h2, h3, h4, a + 1, b, g, by rw [pk_us, hw, h5, nI_1], h6, h7, by omega, by omega, by omega⟩
theorem Xn_g4 {gw gk : Nat → Int32} {n u : Nat} {w : Int32} (h : Xn gw gk n u) (hw : w = gk 4 + 1 := by rfl) : Xn gw (upd gk 4 w) n (u + 1) := by
  obtain ⟨h1, h2, h3, h4, a, b, g, h5, h6, h7, h8, h9, h10⟩ := h
  exact ⟨h1, h2, h3, h4, a, b + 1, g, h5, by rw [pk_us, hw, h6, nI_1], h7, by omega, by omega, by omega⟩
theorem Xn_own {gw : Nat → Int32} {n i : Nat} {v : Int32} (hi : i < n) (hv : v = gw (9 * i + 6) + 1) : sI (upd gw (9 * i + 6) v) 8 n = sI gw 8 n ∧ sI (upd gw (9 * i + 6) v) 7 n = sI gw 7 n ∧ cntF (pPl (upd gw (9 * i + 6) v) 0) 0 n = cntF (pPl gw 0) 0 n ∧ cntF (pPl (upd gw (9 * i + 6) v) 1) 0 n = cntF (pPl gw 1) 0 n ∧ sI (upd gw (9 * i + 6) v) 6 n = sI gw 6 n + 1 := by
  have e : ∀ c, c < 9 → c ≠ 6 → ∀ q, upd gw (9 * i + 6) v (9 * q + c) = gw (9 * q + c) := fun c hc _ q => pk_un (by omega)
  exact ⟨sI_ne n (fun q _ => e 8 (by omega) (by omega) q), sI_ne n (fun q _ => e 7 (by omega) (by omega) q), cnt_congr n 0 (fun q _ hq => pPl_eq (e 0 (by omega) (by omega) q) (e 4 (by omega) (by omega) q)), cnt_congr n 0 (fun q _ hq => pPl_eq (e 0 (by omega) (by omega) q) (e 4 (by omega) (by omega) q)), sI_up (by omega) hv n hi⟩
theorem Xn_o3 {gw gk : Nat → Int32} {n u i : Nat} {v w : Int32} (h : Xn gw gk n u) (hi : i < n) (hv : v = gw (9 * i + 6) + 1) (hw : w = gk 3 + 1 := by rfl) : Xn (upd gw (9 * i + 6) v) (upd gk 3 w) n (u + 1) := by
  obtain ⟨h1, h2, h3, h4, a, b, g, h5, h6, h7, h8, h9, h10⟩ := h
  obtain ⟨e1, e2, e3, e4, e5⟩ := Xn_own hi hv
  exact ⟨h1.trans e1.symm, h2.trans e2.symm, by rw [e3]; exact h3, by rw [e4]; exact h4, a + 1, b, g + 1, by rw [pk_us, hw, h5, nI_1], h6, by rw [e5, h7, nI_1], by omega, by omega, by omega⟩
theorem Xn_o4 {gw gk : Nat → Int32} {n u i : Nat} {v w : Int32} (h : Xn gw gk n u) (hi : i < n) (hv : v = gw (9 * i + 6) + 1) (hw : w = gk 4 + 1 := by rfl) : Xn (upd gw (9 * i + 6) v) (upd gk 4 w) n (u + 1) := by
  obtain ⟨h1, h2, h3, h4, a, b, g, h5, h6, h7, h8, h9, h10⟩ := h
  obtain ⟨e1, e2, e3, e4, e5⟩ := Xn_own hi hv
  exact ⟨h1.trans e1.symm, h2.trans e2.symm, by rw [e3]; exact h3, by rw [e4]; exact h4, a, b + 1, g + 1, h5, by rw [pk_us, hw, h6, nI_1], by rw [e5, h7, nI_1], by omega, by omega, by omega⟩
/-- a whale in the water elsewhere -/
theorem Xn_4 {gw gk : Nat → Int32} {n u i : Nat} {v : Int32} (h : Xn gw gk n u) (hi : gw (9 * i + 4) ≠ -1) (hv : v ≠ -1) : Xn (upd gw (9 * i + 4) v) gk n u := by
  obtain ⟨h1, h2, h3, h4, a, b, g, h5, h6, h7, h8, h9, h10⟩ := h
  have e : ∀ c, c < 9 → c ≠ 4 → ∀ q, upd gw (9 * i + 4) v (9 * q + c) = gw (9 * q + c) := fun c hc _ q => pk_un (by omega)
  have p : ∀ t q, pPl (upd gw (9 * i + 4) v) t q = pPl gw t q := by
    intro t q
    rw [pPl, pPl, show upd gw (9 * i + 4) v (9 * q) = gw (9 * q) from e 0 (by omega) (by omega) q]
    by_cases z : q = i
    · subst z
      rw [pk_us]
      simp [hi, hv]
    · rw [up_ne q 4 (by omega) (by omega) (Or.inl z)]
  refine ⟨?_, ?_, ?_, ?_, a, b, g, h5, h6, ?_, h8, h9, h10⟩
  · rw [sI_ne n (fun q _ => e 8 (by omega) (by omega) q), h1]
  · rw [sI_ne n (fun q _ => e 7 (by omega) (by omega) q), h2]
  · rw [cnt_congr n 0 (fun q _ _ => p 0 q)]; exact h3
  · rw [cnt_congr n 0 (fun q _ _ => p 1 q)]; exact h4
  · rw [sI_ne n (fun q _ => e 6 (by omega) (by omega) q), h7]
theorem cnt_snoc (P : Nat → Bool) : ∀ (j i : Nat), cntF P i (j + 1) = cntF P i j + (if P (i + j) = true then 1 else 0) := by
  intro j
  induction j with
  | zero => intro i; rw [cntF, cntF, cntF, Nat.add_zero, Nat.add_zero, Nat.zero_add]
  | succ j ih =>
    intro i
    rw [cntF, ih (i + 1), cntF, show i + 1 + j = i + (j + 1) from by omega, Nat.add_assoc]
theorem cnt_flip {P Q : Nat → Bool} {j : Nat} (h : ∀ k, k ≠ j → Q k = P k) (hP : P j = false) (hQ : Q j = true) : ∀ (m s : Nat), s ≤ j → j < s + m → cntF Q s m = cntF P s m + 1 := by
  intro m
  induction m with
  | zero => intro s h1 h2; exact absurd h2 (by omega)
  | succ m ih =>
    intro s h1 h2
    rw [cntF, cntF]
    by_cases e : s = j
    · subst e
      rw [if_pos hQ, hP, if_neg (by decide), cnt_congr m (s + 1) (fun k k1 _ => h k (by omega))]
      omega
    · rw [ih (s + 1) (by omega) (by omega), h s e, Nat.add_assoc]
theorem cnt_sub {P Q : Nat → Bool} : ∀ (j i : Nat), (∀ k, P k = true → Q k = true) → cntF P i j ≤ cntF Q i j := by
  intro j
  induction j with
  | zero => intro i _; exact Nat.le_refl _
  | succ j ih =>
    intro i h
    have := ih (i + 1) h
    rw [cntF, cntF]
    by_cases z : P i = true
    · rw [if_pos z, if_pos (h i z)]; omega
    · rw [if_neg z]; split <;> omega
/-- one whale for another of its team -/
theorem Xn_swap {gw gk gk' : Nat → Int32} {n u i j : Nat} {v : Int32} (h : Xn gw gk n u) (hi : i < n) (hj : j < n) (ne : i ≠ j) (tj : gw (9 * j) = gw (9 * i)) (ci : gw (9 * i + 4) = v) (cj : gw (9 * j + 4) = -1) (hv : v ≠ -1) (k7 : gk' 7 = gk 7) (k8 : gk' 8 = gk 8) (k3 : gk' 3 = gk 3) (k4 : gk' 4 = gk 4) : Xn (upd (upd (upd gw (9 * j + 4) v) (9 * i + 4) (-1)) (9 * i + 5) 0) gk' n u := by
  refine Xn_c (c := 5) ?_ (by omega) i 0
  obtain ⟨h1, h2, h3, h4, a, b, g, h5, h6, h7, h8, h9, h10⟩ := h
  have e : ∀ c, c < 9 → c ≠ 4 → ∀ q, upd (upd gw (9 * j + 4) v) (9 * i + 4) (-1) (9 * q + c) = gw (9 * q + c) := fun c hc _ q => by rw [pk_un (by omega), pk_un (by omega)]
  have e1 : ∀ c, c < 9 → c ≠ 4 → ∀ q, upd gw (9 * j + 4) v (9 * q + c) = gw (9 * q + c) := fun c hc _ q => by rw [pk_un (by omega)]
  have c : ∀ t, cntF (pPl (upd (upd gw (9 * j + 4) v) (9 * i + 4) (-1)) t) 0 n = cntF (pPl gw t) 0 n := by
    intro t
    by_cases z : gw (9 * i) = t
    · have f1 : cntF (pPl (upd gw (9 * j + 4) v) t) 0 n = cntF (pPl gw t) 0 n + 1 := cnt_flip (j := j) (fun k hk => pPl_eq (e1 0 (by omega) (by omega) k) (up_ne k 4 (by omega) (by omega) (Or.inl hk))) (by rw [pPl, cj]; simp) (by rw [pPl, show upd gw (9 * j + 4) v (9 * j) = gw (9 * j) from e1 0 (by omega) (by omega) j, pk_us, tj, z]; simp [hv]) n 0 (by omega) (by omega)
      have f2 : cntF (pPl (upd gw (9 * j + 4) v) t) 0 n = cntF (pPl (upd (upd gw (9 * j + 4) v) (9 * i + 4) (-1)) t) 0 n + 1 := cnt_flip (j := i) (fun k hk => (pPl_eq (by rw [show upd (upd gw (9 * j + 4) v) (9 * i + 4) (-1) (9 * k) = gw (9 * k) from e 0 (by omega) (by omega) k]; exact (e1 0 (by omega) (by omega) k).symm) (up_ne k 4 (by omega) (by omega) (Or.inl hk))).symm) (by rw [pPl, pk_us]; simp) (by rw [pPl, show upd gw (9 * j + 4) v (9 * i) = gw (9 * i) from e1 0 (by omega) (by omega) i, up_ne i 4 (by omega) (by omega) (Or.inl ne), ci, z]; simp [hv]) n 0 (by omega) (by omega)
      omega
    · refine cnt_congr n 0 (fun k _ _ => ?_)
      by_cases ki : k = i
      · subst ki
        rw [pPl, pPl, show upd (upd gw (9 * j + 4) v) (9 * k + 4) (-1) (9 * k) = gw (9 * k) from e 0 (by omega) (by omega) k]
        simp [z]
      · by_cases kj : k = j
        · subst kj
          rw [pPl, pPl, show upd (upd gw (9 * k + 4) v) (9 * i + 4) (-1) (9 * k) = gw (9 * k) from e 0 (by omega) (by omega) k, tj]
          simp [z]
        · exact pPl_eq (e 0 (by omega) (by omega) k) (by rw [up_ne k 4 (by omega) (by omega) (Or.inl ki), up_ne k 4 (by omega) (by omega) (Or.inl kj)])
  refine ⟨?_, ?_, ?_, ?_, a, b, g, by rw [k3, h5], by rw [k4, h6], ?_, h8, h9, h10⟩
  · rw [k7, sI_ne n (fun q _ => e 8 (by omega) (by omega) q), h1]
  · rw [k8, sI_ne n (fun q _ => e 7 (by omega) (by omega) q), h2]
  · rw [c 0]; exact h3
  · rw [c 1]; exact h4
  · rw [sI_ne n (fun q _ => e 6 (by omega) (by omega) q), h7]
/-- a new whale -/
theorem Xn_new {gw gk : Nat → Int32} {n t b z : Nat} {cl s v w : Int32} (h : Xn gw gk n t) (hz : z < 2) (hV : Vg gw gk n t t b) (hn : n < 10) (hf : (if nI (cntF (pTm gw (nI z)) 0 n) < 3 then some ((if nI z = 0 then 10 else 16) + nI (cntF (pTm gw (nI z)) 0 n) * 9) else some (-1)) = some cl) : Xn (upd (upd (upd (upd (upd gw (9 * n + 4) cl) (9 * n) (nI z)) (9 * n + 1) s) (9 * n + 2) v) (9 * n + 3) w) (upd gk 0 (nI (n + 1))) (n + 1) t := by
  obtain ⟨h1, h2, h3, h4, a, b', g, h5, h6, h7, h8, h9, h10⟩ := h
  obtain ⟨_, r6, r7, r8⟩ := hV.2.2.2.2.1 n (Nat.le_refl _) hn
  have o : ∀ c, c < 9 → ∀ q, q < n → upd (upd (upd (upd (upd gw (9 * n + 4) cl) (9 * n) (nI z)) (9 * n + 1) s) (9 * n + 2) v) (9 * n + 3) w (9 * q + c) = gw (9 * q + c) := fun c hc q hq => by rw [pk_un (by omega), pk_un (by omega), pk_un (by omega), pk_un (by omega), pk_un (by omega)]
  have m : ∀ c, 5 ≤ c → c < 9 → upd (upd (upd (upd (upd gw (9 * n + 4) cl) (9 * n) (nI z)) (9 * n + 1) s) (9 * n + 2) v) (9 * n + 3) w (9 * n + c) = gw (9 * n + c) := fun c h5 hc => by rw [pk_un (by omega), pk_un (by omega), pk_un (by omega), pk_un (by omega), pk_un (by omega)]
  have m0 : upd (upd (upd (upd (upd gw (9 * n + 4) cl) (9 * n) (nI z)) (9 * n + 1) s) (9 * n + 2) v) (9 * n + 3) w (9 * n) = nI z := by rw [pk_un (by omega), pk_un (by omega), pk_un (by omega), pk_us]
  have m4 : upd (upd (upd (upd (upd gw (9 * n + 4) cl) (9 * n) (nI z)) (9 * n + 1) s) (9 * n + 2) v) (9 * n + 3) w (9 * n + 4) = cl := by rw [pk_un (by omega), pk_un (by omega), pk_un (by omega), pk_un (by omega), pk_us]
  have s8 : ∀ c, 5 ≤ c → c < 9 → gw (9 * n + c) = 0 → sI (upd (upd (upd (upd (upd gw (9 * n + 4) cl) (9 * n) (nI z)) (9 * n + 1) s) (9 * n + 2) v) (9 * n + 3) w) c (n + 1) = sI gw c n := fun c c5 c9 e => by rw [sI, sI_ne n (fun q hq => o c c9 q hq), m c c5 c9, e, Int32.add_zero]
  have cn : ∀ tt : Int32, cntF (pPl gw tt) 0 n ≤ 3 → cntF (pPl (upd (upd (upd (upd (upd gw (9 * n + 4) cl) (9 * n) (nI z)) (9 * n + 1) s) (9 * n + 2) v) (9 * n + 3) w) tt) 0 (n + 1) ≤ 3 := by
    intro tt h3
    rw [cnt_snoc, cnt_congr (Q := pPl gw tt) n 0 (fun q _ hq => pPl_eq (o 0 (by omega) q (by omega)) (o 4 (by omega) q (by omega))), Nat.zero_add]
    by_cases y : pPl (upd (upd (upd (upd (upd gw (9 * n + 4) cl) (9 * n) (nI z)) (9 * n + 1) s) (9 * n + 2) v) (9 * n + 3) w) tt n = true
    · rw [pPl, m0, m4] at y
      obtain ⟨y1, y2⟩ := of_decide_eq_true y
      subst y1
      by_cases l : nI (cntF (pTm gw (nI z)) 0 n) < 3
      · have l3 : cntF (pTm gw (nI z)) 0 n < 3 := (nI_ltI (b := 3) (by have := cnt_le (pTm gw (nI z)) n 0; omega) (by omega)).mp l
        have sb : cntF (pPl gw (nI z)) 0 n ≤ cntF (pTm gw (nI z)) 0 n := cnt_sub n 0 (fun k hk => by
          rw [pPl] at hk
          rw [pTm]
          exact decide_eq_true (of_decide_eq_true hk).1)
        split <;> omega
      · rw [if_neg l] at hf
        exact absurd (Option.some.inj hf).symm y2
    · rw [if_neg y]; omega
  exact ⟨h1.trans (s8 8 (by omega) (by omega) r8).symm, h2.trans (s8 7 (by omega) (by omega) r7).symm, cn 0 h3, cn 1 h4, a, b', g, h5, h6, (s8 6 (by omega) (by omega) r6).trans h7, h8, h9, h10⟩
