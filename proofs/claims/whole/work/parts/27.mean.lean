/-! means -/
theorem mean_f : ∀ s, s < 201 → ∀ c, c < 10 → nn64 (FP.ddiv (FP.i2d (nI s)) (FP.i2d (nI (c + 1)))) = true ∧ Op.cmpValue (FP.dcmp (FP.ddiv (FP.i2d (nI s)) (FP.i2d (nI (c + 1)))) (FP.ddiv (FP.i2d (nI s)) (FP.i2d (nI (c + 1))))) .l = 0 := by decide +kernel
theorem share_f : ∀ f, f < 49 → ∀ s, s < 48 → nn32 (FP.fdiv (FP.i2f (nI f)) (FP.i2f (nI (s + 1)))) = true ∧ nn64 (FP.f2d (FP.fdiv (FP.i2f (nI f)) (FP.i2f (nI (s + 1))))) = true ∧ Op.cmpValue (FP.dcmp (FP.f2d (FP.fdiv (FP.i2f (nI f)) (FP.i2f (nI (s + 1))))) (FP.f2d (FP.fdiv (FP.i2f (nI f)) (FP.i2f (nI (s + 1)))))) .l = 0 := by decide +kernel
def sumN (f : Nat → Nat) : Nat → Nat → Nat
  | _, 0 => 0
  | i, j + 1 => f i + sumN f (i + 1) j
def brF (gw : Nat → Int32) (i : Nat) : Nat := if gw (9 * i + 4) = -1 then 0 else (gw (9 * i + 3)).toNatClampNeg
def pPy (gw : Nat → Int32) (i : Nat) : Bool := decide (gw (9 * i + 4) ≠ -1)
theorem sum_le {f : Nat → Nat} : ∀ (j i : Nat), (∀ k, i ≤ k → k < i + j → f k ≤ 20) → sumN f i j ≤ 20 * j := by
  intro j
  induction j with
  | zero => intro i h; exact Nat.le_refl _
  | succ j ih =>
    intro i h
    have h1 := h i (Nat.le_refl _) (by omega)
    have h2 := ih (i + 1) (fun k a b => h k (by omega) (by omega))
    rw [sumN]
    omega
theorem br_v {gw : Nat → Int32} {u i : Nat} (h : Vw u gw i) : brF gw i ≤ 20 ∧ (gw (9 * i + 4) ≠ -1 → gw (9 * i + 3) = nI (brF gw i)) ∧ (gw (9 * i + 4) = -1 → brF gw i = 0) := by
  obtain ⟨_, _, _, ⟨b, b1, b2⟩, _⟩ := h
  rw [brF]
  by_cases z : gw (9 * i + 4) = -1
  · rw [if_pos z]; exact ⟨by omega, fun q => absurd z q, fun _ => rfl⟩
  · rw [if_neg z, b2, nI_clamp (by omega)]; exact ⟨b1, fun _ => rfl, fun q => absurd q z⟩
theorem two_c {gw : Nat → Int32} {n u : Nat} (h : ∀ i, i < n → Vw u gw i) : ∀ (j i : Nat), i + j = n → cntF (pPl gw 0) i j + cntF (pPl gw 1) i j = cntF (pPy gw) i j := by
  intro j
  induction j with
  | zero => intro i _; rfl
  | succ j ih =>
    intro i hi
    have z := ih (i + 1) (by omega)
    have e : (if pPl gw 0 i = true then 1 else 0) + (if pPl gw 1 i = true then 1 else 0) = if pPy gw i = true then 1 else 0 := by
      rw [pPl, pPl, pPy]
      rcases (h i (by omega)).1 with t | t <;> by_cases c : gw (9 * i + 4) = -1 <;> simp [t, c]
    rw [cntF, cntF, cntF, ← e, ← z]
    omega
theorem c_mean {gw gk : Nat → Int32} {n t u b : Nat} (hV : Vg gw gk n t u b) : ∀ (j i k s c : Nat), i + j = n → j < k → fX7_meanBreath_6 gw gk k (nI s) (nI c) (nI i) = (if nI (c + cntF (pPy gw) i j) = 0 then some (5, FP.dconst0) else if nn64 (FP.ddiv (FP.i2d (nI (s + sumN (brF gw) i j))) (FP.i2d (nI (c + cntF (pPy gw) i j)))) = true then some (0, FP.ddiv (FP.i2d (nI (s + sumN (brF gw) i j))) (FP.i2d (nI (c + cntF (pPy gw) i j)))) else none) := by
  have hn := hV.1.2.2.2.1
  have h10 := hV.1.1
  intro j
  induction j with
  | zero =>
    intro i k s c h hk
    obtain ⟨k, rfl⟩ : ∃ q, k = q + 1 := ⟨k - 1, by omega⟩
    rw [fX7_meanBreath_6, ct0, Option.bind_some, hn, if_pos (nI_le (by omega) (by omega))]
    rfl
  | succ j ih =>
    intro i k s c h hk
    obtain ⟨k, rfl⟩ : ∃ q, k = q + 1 := ⟨k - 1, by omega⟩
    obtain ⟨b1, b2, b3⟩ := br_v (hV.2.2.2.1 i (by omega))
    rw [fX7_meanBreath_6, ct0, Option.bind_some, hn, if_neg (nI_ge (by omega) (by omega)), fX1_isPlaying, of4 gw (by omega), Option.bind_some, cntF, sumN, pPy]
    by_cases z : gw (9 * i + 4) = -1
    · rw [if_pos z, Option.bind_some, if_pos rfl, fX7_meanBreath_44, nI_1, ih (i + 1) k s c (by omega) (by omega), b3 z]; simp [z]
    · rw [if_neg z, Option.bind_some, if_neg n10, of3 gw (by omega), Option.bind_some, b2 z, fX7_meanBreath_44, nI_1 i, nI_1 c, nI_add, ih (i + 1) k (s + brF gw i) (c + 1) (by omega) (by omega)]; simp [z, Nat.add_assoc]
theorem m_mean {gw gk ms : Nat → Int32} {n t u b : Nat} (hR : Rg gw gk ms) (hV : Vg gw gk n t u b) (thr : Int32) : ∀ (j i k s : Nat), i + j = n → j < k → fX8_meanBreath_4 ms k (nI s) (nI i) thr = fX8_meanBreath_64 ms (if nI (cntPl gw 0 n) + nI (cntPl gw 1 n) = 0 then 1 else 0) (nI (s + sumN (brF gw) i j)) (nI (cntPl gw 0 n) + nI (cntPl gw 1 n)) thr := by
  have h0 : ms 0 = nI n := hR.2.1.trans hV.1.2.2.2.1
  have h10 := hV.1.1
  intro j
  induction j with
  | zero =>
    intro i k s h hk
    obtain ⟨k, rfl⟩ : ∃ q, k = q + 1 := ⟨k - 1, by omega⟩
    rw [fX8_meanBreath_4, if_pos v103_0, cl_0, h0, if_pos (nI_le (by omega) (by omega)), play_m hR hV, play_m hR hV, Option.bind_some, Option.bind_some]
    rfl
  | succ j ih =>
    intro i k s h hk
    obtain ⟨k, rfl⟩ : ∃ q, k = q + 1 := ⟨k - 1, by omega⟩
    have e : ∀ d, d < 9 → ms (13 + 9 * i + d) = gw (9 * i + d) := fun d hd => by rw [show 13 + 9 * i + d = 13 + (9 * i + d) from by omega]; exact hR.1 _ (by omega)
    have hw := hV.2.2.2.1 i (by omega)
    obtain ⟨b1, b2, b3⟩ := br_v hw
    rw [fX8_meanBreath_4, if_pos v103_0, cl_0, h0, if_neg (nI_ge (by omega) (by omega)), mof4 ms (by omega), Option.bind_some, mof3 ms (by omega), Option.bind_some, e 4 (by omega), e 3 (by omega), sumN, fX8_meanBreath_34, fX8_meanBreath_34, nI_1 i]
    rcases hw.2.2.2.2.1 with ⟨c0, c1⟩ | ⟨c, hc, c0⟩
    · rw [c0, if_pos (show (-1 : Int32) < 0 from by decide), Int32.add_zero, ih (i + 1) k s (by omega) (by omega), b3 c0, Nat.zero_add]
    · have c1 : gw (9 * i + 4) ≠ -1 := by rw [c0]; exact fun q => nI_pos (n := c) (by omega) (by rw [q]; decide)
      rw [b2 c1, c0, if_neg (nI_pos (by omega)), nI_add, ih (i + 1) k (s + brF gw i) (by omega) (by omega), Nat.add_assoc]
theorem q_mean {gw gk ms : Nat → Int32} {n t u b : Nat} (thr : Int32) (hR : Rg gw gk ms) (hV : Vg gw gk n t u b) : ∃ q r, fX7_meanBreath gw gk = some q ∧ fX8_meanBreath thr ms = some r ∧ (q.1 = 0 ∨ q.1 = 5) ∧ r.2 = lcode [5] q.1 ∧ (q.1 = 0 → Op.cmpValue (FP.dcmp q.2 r.1) .l = 0) := by
  have h10 := hV.1.1
  have e1 := c_mean hV n 0 64 0 0 (by omega) (by omega)
  have e2 := m_mean hR hV thr n 0 64 0 (by omega) (by omega)
  have e3 := two_c hV.2.2.2.1 n 0 (by omega)
  have e4 : sumN (brF gw) 0 n ≤ 20 * n := sum_le n 0 (fun k _ h => (br_v (hV.2.2.2.1 k (by omega))).1)
  have e5 := cnt_le (pPy gw) n 0
  rw [Nat.zero_add, Nat.zero_add] at e1
  rw [Nat.zero_add, nI_add, show cntPl gw 0 n + cntPl gw 1 n = _ from e3] at e2
  generalize sumN (brF gw) 0 n = s at *
  generalize cntF (pPy gw) 0 n = c at *
  have f1 : fX7_meanBreath gw gk = fX7_meanBreath_6 gw gk 64 (nI 0) (nI 0) (nI 0) := rfl
  have f2 : fX8_meanBreath thr ms = fX8_meanBreath_4 ms 64 (nI 0) (nI 0) thr := rfl
  rw [f1, f2, e1, e2]
  cases c with
  | zero => exact ⟨(5, FP.dconst0), (FP.dconst0, 1), if_pos rfl, rfl, Or.inr rfl, rfl, fun h => absurd h (show ¬ (5 : Nat) = 0 by decide)⟩
  | succ c =>
    have nz : ¬ nI (c + 1) = 0 := nI_ne0 (by omega) (by omega)
    obtain ⟨g1, g2⟩ := mean_f s (by omega) c (by omega)
    refine ⟨_, _, by rw [if_neg nz, if_pos g1], by rw [if_neg nz, fX8_meanBreath_64, th0, Option.bind_some, if_pos rfl, if_pos g1], Or.inl rfl, rfl, fun _ => g2⟩
theorem q_share {gw gk ms : Nat → Int32} {n t u b : Nat} (thr : Int32) (hR : Rg gw gk ms) (hV : Vg gw gk n t u b) (hu : u ≤ 48) : ∃ q r, fX7_foulShare gk = some q ∧ fX8_foulShare thr ms = some r ∧ (q.1 = 0 ∨ q.1 = 5) ∧ r.2 = lcode [5] q.1 ∧ (nn64 (FP.f2d q.2) = true ∨ 0 < q.1) ∧ (q.1 = 0 → nn64 (FP.f2d r.1) = true) ∧ (q.1 = 0 → Op.cmpValue (FP.dcmp (FP.f2d q.2) (FP.f2d r.1)) .l = 0) := by
  obtain ⟨s, s1, s2⟩ := hV.1.2.2.2.2.2.2.2.1
  obtain ⟨f, f1, f2⟩ := hV.1.2.2.2.2.2.2.2.2.1
  have m6 : ms 6 = nI s := hR.2.2.2.2.2.2.2.1.trans s2
  have m7 : ms 7 = nI f := hR.2.2.2.2.2.2.2.2.1.trans f2
  rw [fX7_foulShare, fX8_foulShare, ct7, ct8, Option.bind_some, Option.bind_some, if_pos v103_6, cl_6, s2, f2, m6, fX8_foulShare_16]
  cases s with
  | zero => exact ⟨(5, FP.fconst0), (FP.fconst0, 1), if_pos rfl, rfl, Or.inr rfl, rfl, Or.inr (by decide), fun h => absurd h (show ¬ (5 : Nat) = 0 by decide), fun h => absurd h (show ¬ (5 : Nat) = 0 by decide)⟩
  | succ s =>
    have nz : ¬ nI (s + 1) = 0 := nI_ne0 (by omega) (by omega)
    obtain ⟨g1, g2, g3⟩ := share_f f (by omega) s (by omega)
    rw [if_neg nz, if_neg nz, th0, Option.bind_some, if_pos rfl, if_pos v103_7, if_pos v103_6, cl_7, cl_6, m7, m6]
    generalize FP.fdiv (FP.i2f (nI f)) (FP.i2f (nI (s + 1))) = d at g1 g2 g3 ⊢
    exact ⟨(0, d), (d, 0), if_pos g1, if_pos g1, Or.inl rfl, rfl, Or.inl g2, fun _ => g2, fun _ => g3⟩
theorem sx_meanBreath : St_meanBreath Inv := by
  intro f_net u_det t_len t_cur t_kin t_tol t_don n_len h_old h_siz x_sav x_err x_rea x_det x_com v_gw v_gk v_bw v_bk v_vw v_vk v_h0w v_h0k v_h1w v_h1k v_h2w v_h2k v_h3w v_h3k v_h4w v_h4k v_h5w v_h5k v_rs v_rl v_ro v_ti v_tn v_ns m_chg m_thr m_rea m_det m_ref m_err m_ans m_sav m_net m_lin m_tap m_her m_cmd v_ms v_mw v_mv v_mp v_mf v_ml v_mt v_mc hI
  obtain ⟨n, t, b, hV⟩ := hI.2.1
  obtain ⟨q, r, h0, h1, h2, h3, h4⟩ := q_mean m_thr hI.1 hV
  exact ⟨q, r, h0, h1, h2, h3, h4, hI⟩
theorem sx_foulShare : St_foulShare Inv := by
  intro f_net u_det t_len t_cur t_kin t_tol t_don n_len h_old h_siz x_sav x_err x_rea x_det x_com v_gw v_gk v_bw v_bk v_vw v_vk v_h0w v_h0k v_h1w v_h1k v_h2w v_h2k v_h3w v_h3k v_h4w v_h4k v_h5w v_h5k v_rs v_rl v_ro v_ti v_tn v_ns m_chg m_thr m_rea m_det m_ref m_err m_ans m_sav m_net m_lin m_tap m_her m_cmd v_ms v_mw v_mv v_mp v_mf v_ml v_mt v_mc hI
  obtain ⟨n, t, b, hV⟩ := hI.2.1
  obtain ⟨q, r, h0, h1, h2, h3, h4, h5, h6⟩ := q_share m_thr hI.1 hV hV.1.2.1
  exact ⟨q, r, h0, h1, h2, h3, h4, h5, h6, hI⟩
