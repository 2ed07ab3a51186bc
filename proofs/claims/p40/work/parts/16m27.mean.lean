/-! means -/
theorem mean_f : ∀ s, s < 201 → ∀ c, c < 10 → nn64 (FP.ddiv (FP.i2d (nI s)) (FP.i2d (nI (c + 1)))) = true ∧ Op.cmpValue (FP.dcmp (FP.ddiv (FP.i2d (nI s)) (FP.i2d (nI (c + 1)))) (FP.ddiv (FP.i2d (nI s)) (FP.i2d (nI (c + 1))))) .l = 0 := by decide +kernel
theorem share_f : ∀ f, f < 49 → ∀ s, s < 48 → nn32 (FP.fdiv (FP.i2f (nI f)) (FP.i2f (nI (s + 1)))) = true ∧ nn64 (FP.f2d (FP.fdiv (FP.i2f (nI f)) (FP.i2f (nI (s + 1))))) = true ∧ Op.cmpValue (FP.dcmp (FP.f2d (FP.fdiv (FP.i2f (nI f)) (FP.i2f (nI (s + 1))))) (FP.f2d (FP.fdiv (FP.i2f (nI f)) (FP.i2f (nI (s + 1)))))) .l = 0 := by decide +kernel
def sumN (f : Nat → Nat) : Nat → Nat → Nat
  | _, 0 => 0
  | i, j + 1 => f i + sumN f (i + 1) j
def brF (gw : Nat → Int32) (i : Nat) : Nat := if gw (9 * i + 4) = -1 then 0 else (gw (9 * i + 3)).toNatClampNeg
def pPy (gw : Nat → Int32) (i : Nat) : Bool := decide (gw (9 * i + 4) ≠ -1)
theorem sum_le {f : Nat → Nat} : ∀ (j i : Nat), (∀ k, i ≤ k → k < i + j → f k ≤ 20) → sumN f i j ≤ 20 * j := by
  intro j
  induction j with
  | zero => intro i h; exact Nat.le_refl _
  | succ j ih =>
    intro i h
    have h1 := h i (Nat.le_refl _) (by omega)
    have h2 := ih (i + 1) (fun k a b => h k (by omega) (by omega))
    rw [sumN]
    omega
theorem br_v {gw : Nat → Int32} {u i : Nat} (h : Vw u gw i) : brF gw i ≤ 20 ∧ (gw (9 * i + 4) ≠ -1 → gw (9 * i + 3) = nI (brF gw i)) ∧ (gw (9 * i + 4) = -1 → brF gw i = 0) := by
  obtain ⟨_, _, _, ⟨b, b1, b2⟩, _⟩ := h
  rw [brF]
  by_cases z : gw (9 * i + 4) = -1
  · rw [if_pos z]; exact ⟨by omega, fun q => absurd z q, fun _ => rfl⟩
  · rw [if_neg z, b2, nI_clamp (by omega)]; exact ⟨b1, fun _ => rfl, fun q => absurd q z⟩
theorem two_c {gw : Nat → Int32} {n u : Nat} (h : ∀ i, i < n → Vw u gw i) : ∀ (j i : Nat), i + j = n → cntF (pPl gw 0) i j + cntF (pPl gw 1) i j = cntF (pPy gw) i j := by
  intro j
  induction j with
  | zero => intro i _; rfl
  | succ j ih =>
    intro i hi
    have z := ih (i + 1) (by omega)
    have e : (if pPl gw 0 i = true then 1 else 0) + (if pPl gw 1 i = true then 1 else 0) = if pPy gw i = true then 1 else 0 := by
      rw [pPl, pPl, pPy]
      rcases (h i (by omega)).1 with t | t <;> by_cases c : gw (9 * i + 4) = -1 <;> simp [t, c]
    rw [cntF, cntF, cntF, ← e, ← z]
    omega
theorem m_mean {gw gk ms : Nat → Int32} {n t u b : Nat} (hR : Rg gw gk ms) (hV : Vg gw gk n t u b) (thr : Int32) : ∀ (j i k s : Nat), i + j = n → j < k → fX8_meanBreath_4 ms k (nI s) (nI i) thr = fX8_meanBreath_64 ms (if nI (cntPl gw 0 n) + nI (cntPl gw 1 n) = 0 then 1 else 0) (nI (s + sumN (brF gw) i j)) (nI (cntPl gw 0 n) + nI (cntPl gw 1 n)) thr := by
  have h0 : ms 0 = nI n := hR.2.1.trans hV.1.2.2.2.1
  have h10 := hV.1.1
  intro j
  induction j with
  | zero =>
    intro i k s h hk
    obtain ⟨k, rfl⟩ : ∃ q, k = q + 1 := ⟨k - 1, by omega⟩
    rw [fX8_meanBreath_4, if_pos v103_0, cl_0, h0, if_pos (nI_le (by omega) (by omega)), play_m hR hV, play_m hR hV, Option.bind_some, Option.bind_some]
    rfl
  | succ j ih =>
    intro i k s h hk
    obtain ⟨k, rfl⟩ : ∃ q, k = q + 1 := ⟨k - 1, by omega⟩
    have e : ∀ d, d < 9 → ms (13 + 9 * i + d) = gw (9 * i + d) := fun d hd => by rw [show 13 + 9 * i + d = 13 + (9 * i + d) from by omega]; exact hR.1 _ (by omega)
    have hw := hV.2.2.2.1 i (by omega)
    obtain ⟨b1, b2, b3⟩ := br_v hw
    rw [fX8_meanBreath_4, if_pos v103_0, cl_0, h0, if_neg (nI_ge (by omega) (by omega)), mof4 ms (by omega), Option.bind_some, mof3 ms (by omega), Option.bind_some, e 4 (by omega), e 3 (by omega), sumN, fX8_meanBreath_34, fX8_meanBreath_34, nI_1 i]
    rcases hw.2.2.2.2.1 with ⟨c0, c1⟩ | ⟨c, hc, c0⟩
    · rw [c0, if_pos (show (-1 : Int32) < 0 from by decide), Int32.add_zero, ih (i + 1) k s (by omega) (by omega), b3 c0, Nat.zero_add]
    · have c1 : gw (9 * i + 4) ≠ -1 := by rw [c0]; exact fun q => nI_pos (n := c) (by omega) (by rw [q]; decide)
      rw [b2 c1, c0, if_neg (nI_pos (by omega)), nI_add, ih (i + 1) k (s + brF gw i) (by omega) (by omega), Nat.add_assoc]
