/-! walks over the field, and rows of numbers that hold how long they are -/
def Ed (d c : Nat) : Prop := ∃ w, w < 4 ∧ fX8_next (nI d) (nI w) = nI c
def Wk (op : Nat → Bool) (s : Nat) : Nat → Nat → Prop
  | 0, c => c = s
  | k + 1, c => op c = true ∧ ∃ d, d < 45 ∧ Ed d c ∧ Wk op s k d
def Nv (f : Nat → Int32) (c : Nat) : Nat := (f c).toNatClampNeg
def Snd (op : Nat → Bool) (s M : Nat) (f : Nat → Int32) : Prop := ∀ c, c < 45 → f c = nI (Nv f c) ∧ Nv f c ≤ M ∧ (Nv f c < M → Wk op s (Nv f c) c)
def Up (op : Nat → Bool) (s r : Nat) (f : Nat → Int32) : Prop := ∀ k c, k ≤ r → c < 45 → Wk op s k c → Nv f c ≤ k
def Clo (op : Nat → Bool) (M : Nat) (f : Nat → Int32) : Prop := ∀ d c, d < 45 → c < 45 → Nv f d < M → Ed d c → op c = true → Nv f c ≤ Nv f d + 1
def Lef (f g : Nat → Int32) : Prop := ∀ c, c < 45 → Nv f c ≤ Nv g c
theorem cnt_ge {P Q : Nat → Bool} : ∀ (j i : Nat), (∀ k, i ≤ k → k < i + j → P k = true → Q k = true) → cntF P i j ≤ cntF Q i j ∧ (cntF P i j = cntF Q i j → ∀ k, i ≤ k → k < i + j → Q k = true → P k = true) := by
  intro j
  induction j with
  | zero => intro i h; exact ⟨Nat.le_refl _, fun _ k h1 h2 => absurd h1 (by omega)⟩
  | succ j ih =>
    intro i h
    obtain ⟨h1, h2⟩ := ih (i + 1) (fun k a b => h k (by omega) (by omega))
    have hi := h i (Nat.le_refl _) (by omega)
    rw [cntF, cntF]
    by_cases p : P i = true
    · have q := hi p
      rw [if_pos p, if_pos q]
      refine ⟨by omega, fun e k a b c => ?_⟩
      by_cases z : k = i
      · rw [z]; exact p
      · exact h2 (by omega) k (by omega) (by omega) c
    · rw [if_neg p]
      by_cases q : Q i = true
      · rw [if_pos q]; exact ⟨by omega, fun e => absurd e (by omega)⟩
      · rw [if_neg q]
        refine ⟨by omega, fun e k a b c => ?_⟩
        by_cases z : k = i
        · rw [z] at c; exact absurd c q
        · exact h2 (by omega) k (by omega) (by omega) c
noncomputable def Sb (op : Nat → Bool) (s j c : Nat) : Bool := @decide (∃ k, k ≤ j ∧ Wk op s k c) (Classical.propDecidable _)
theorem Sb_iff {op : Nat → Bool} {s j c : Nat} : Sb op s j c = true ↔ ∃ k, k ≤ j ∧ Wk op s k c := by
  rw [Sb]
  exact @decide_eq_true_iff _ (Classical.propDecidable _)
/-- a cell that can be come to at all is come to in at most 44 steps -/
theorem wk_b {op : Nat → Bool} {s : Nat} (hs : s < 45) : ∀ k c, c < 45 → Wk op s k c → ∃ q, q ≤ 44 ∧ Wk op s q c := by
  have mono : ∀ j, cntF (Sb op s j) 0 45 ≤ cntF (Sb op s (j + 1)) 0 45 ∧ (cntF (Sb op s j) 0 45 = cntF (Sb op s (j + 1)) 0 45 → ∀ k, 0 ≤ k → k < 0 + 45 → Sb op s (j + 1) k = true → Sb op s j k = true) := fun j => cnt_ge 45 0 (fun k _ _ h => by
    obtain ⟨q, q1, q2⟩ := Sb_iff.mp h
    exact Sb_iff.mpr ⟨q, by omega, q2⟩)
  have stab : ∀ j, cntF (Sb op s j) 0 45 = cntF (Sb op s (j + 1)) 0 45 → ∀ k c, c < 45 → Wk op s k c → ∃ q, q ≤ j ∧ Wk op s q c := by
    intro j e k
    have h := (mono j).2 e
    induction k with
    | zero => intro c hc w; exact ⟨0, Nat.zero_le _, w⟩
    | succ k ih =>
      intro c hc w
      obtain ⟨o1, d, hd, ed, wd⟩ := w
      obtain ⟨q, q1, q2⟩ := ih d hd wd
      exact Sb_iff.mp (h c (Nat.zero_le _) (by omega) (Sb_iff.mpr ⟨q + 1, by omega, o1, d, hd, ed, q2⟩))
  have c0 : 1 ≤ cntF (Sb op s 0) 0 45 := by
    have z := (cnt_ge (P := fun x => decide (x = s)) (Q := Sb op s 0) 45 0 (fun k _ _ h => Sb_iff.mpr ⟨0, Nat.le_refl _, show k = s by simpa using h⟩)).1
    have y : ∀ (j i : Nat), i ≤ s → s < i + j → 1 ≤ cntF (fun x => decide (x = s)) i j := by
      intro j
      induction j with
      | zero => intro i a b; exact absurd a (by omega)
      | succ j ih =>
        intro i a b
        rw [cntF]
        by_cases q : i = s
        · rw [if_pos (decide_eq_true q)]; omega
        · have := ih (i + 1) (by omega) (by omega)
          omega
    have := y 45 0 (Nat.zero_le _) (by omega)
    omega
  have main : ∀ j, (∃ i, i ≤ j ∧ cntF (Sb op s i) 0 45 = cntF (Sb op s (i + 1)) 0 45) ∨ j + 2 ≤ cntF (Sb op s (j + 1)) 0 45 := by
    intro j
    induction j with
    | zero =>
      by_cases e : cntF (Sb op s 0) 0 45 = cntF (Sb op s (0 + 1)) 0 45
      · exact Or.inl ⟨0, Nat.le_refl _, e⟩
      · have := (mono 0).1
        exact Or.inr (by omega)
    | succ j ih =>
      rcases ih with ⟨i, i1, i2⟩ | h
      · exact Or.inl ⟨i, by omega, i2⟩
      · by_cases e : cntF (Sb op s (j + 1)) 0 45 = cntF (Sb op s (j + 1 + 1)) 0 45
        · exact Or.inl ⟨j + 1, Nat.le_refl _, e⟩
        · have := (mono (j + 1)).1
          exact Or.inr (by omega)
  intro k c hc w
  rcases main 44 with ⟨i, i1, i2⟩ | h
  · obtain ⟨q, q1, q2⟩ := stab i i2 k c hc w
    exact ⟨q, by omega, q2⟩
  · have := cnt_le (Sb op s (44 + 1)) 45 0
    omega
theorem clo_up {op : Nat → Bool} {s M : Nat} {f : Nat → Int32} (h0 : Nv f s = 0) (hc : Clo op M f) : ∀ k c, k < M → c < 45 → Wk op s k c → Nv f c ≤ k := by
  intro k
  induction k with
  | zero =>
    intro c _ _ w
    rw [show c = s from w, h0]
    exact Nat.le_refl _
  | succ k ih =>
    intro c hk c45 w
    obtain ⟨o1, d, hd, ed, wd⟩ := w
    have h1 := ih d (by omega) hd wd
    have h2 := hc d c hd c45 (by omega) ed o1
    omega
/-- two rows that hold the lengths of the shortest walks hold the same -/
theorem same_e {op : Nat → Bool} {s M M' : Nat} {f g : Nat → Int32} (hs : s < 45) (hM : 45 ≤ M) (hM' : 45 ≤ M') (hf : Snd op s M f) (uf : Up op s 44 f) (hg : Snd op s M' g) (ug : Up op s 44 g) {c : Nat} (hc : c < 45) : (Nv f c ≤ 44 ∧ Nv g c = Nv f c) ∨ (Nv f c = M ∧ Nv g c = M') := by
  obtain ⟨_, f2, f3⟩ := hf c hc
  obtain ⟨_, g2, g3⟩ := hg c hc
  by_cases zf : Nv f c < M
  · obtain ⟨q, q1, q2⟩ := wk_b hs _ c hc (f3 zf)
    have e1 := uf q c q1 hc q2
    have e2 := ug q c q1 hc q2
    have e3 := ug _ c (by omega) hc (f3 zf)
    have e4 := uf _ c (by omega) hc (g3 (by omega))
    exact Or.inl ⟨by omega, by omega⟩
  · by_cases zg : Nv g c < M'
    · obtain ⟨q, q1, q2⟩ := wk_b hs _ c hc (g3 zg)
      have e1 := uf q c q1 hc q2
      omega
    · exact Or.inr ⟨by omega, by omega⟩
theorem ed_sym : ∀ c, c < 45 → ∀ d, d < 45 → (∃ w, w < 4 ∧ fX8_next (nI c) (nI w) = nI d) → ∃ w, w < 4 ∧ fX8_next (nI d) (nI w) = nI c := by decide +kernel
theorem Nv_u {f : Nat → Int32} {c v : Nat} (hv : v < 2 ^ 31) (k : Nat) : Nv (upd f c (nI v)) k = if k = c then v else Nv f k := by
  by_cases z : k = c
  · rw [if_pos z, Nv, z, pk_us, nI_clamp hv]
  · rw [if_neg z, Nv, pk_un z]; rfl
theorem Snd_u {op : Nat → Bool} {s M c v : Nat} {f : Nat → Int32} (h : Snd op s M f) (hM : M < 2 ^ 30) (hv : v < M) (hw : Wk op s v c) : Snd op s M (upd f c (nI v)) := by
  intro k hk
  rw [Nv_u (by omega)]
  by_cases z : k = c
  · subst z
    rw [if_pos rfl, pk_us]
    exact ⟨rfl, by omega, fun _ => hw⟩
  · rw [if_neg z, pk_un z]
    exact h k hk

