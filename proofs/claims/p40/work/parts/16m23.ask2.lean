/-! calls that only ask: over all whales -/
def nearB (c : Int32) (b : Nat) : Bool := decide (c ≠ -1 ∧ ¬ 1 < fX7_between c (nI b))
def pFl (gw : Nat → Int32) (r : Int32) (b i : Nat) : Bool := decide (gw (9 * i) = r ∧ gw (9 * i + 5) = 1 ∧ nearB (gw (9 * i + 4)) b = true)
def pNr (gw : Nat → Int32) (r : Int32) (b i : Nat) : Bool := decide (gw (9 * i) = r ∧ nearB (gw (9 * i + 4)) b = true)
theorem apart_f : ∀ c, c < 45 → ∀ b, b < 45 → fX8_apart (nI c) (nI b) = fX7_between (nI c) (nI b) := by decide +kernel
theorem n1n : ¬ (-1 : Int32) = 0 := by decide
theorem lt_m1 : (-1 : Int32) < 0 := by decide
theorem nI_nm1 {c : Nat} (hc : c < 2 ^ 31) : ¬ nI c = -1 := by
  intro h
  have := nI_pos hc
  rw [h] at this
  exact this lt_m1
theorem isNear_e {gw gk : Nat → Int32} {b i : Nat} (h5 : gk 5 = nI b) (hi : i < 10) : fX1_isNearBuoy gw gk (nI i) = some (if nearB (gw (9 * i + 4)) b = true then 1 else 0) := by
  rw [fX1_isNearBuoy, of4 gw hi, Option.bind_some, ct5, Option.bind_some, h5, nearB]
  by_cases h : gw (9 * i + 4) = -1
  · rw [if_pos h, if_neg]; simp [h]
  · rw [if_neg h]
    by_cases h2 : 1 < fX7_between (gw (9 * i + 4)) (nI b)
    · rw [if_pos h2, if_neg]; simp [h2]
    · rw [if_neg h2, if_pos]; exact decide_eq_true ⟨h, h2⟩
/-- what the reference asks of a whale's cell, for a whale that is one -/
theorem cell_v {gw : Nat → Int32} {u i : Nat} (h : Vw u gw i) : gw (9 * i + 4) = -1 ∧ gw (9 * i + 5) = 0 ∨ ∃ c, c < 45 ∧ gw (9 * i + 4) = nI c := h.2.2.2.2.1
theorem c_foul {gw gk : Nat → Int32} {n b : Nat} (hn : gk 0 = nI n) (h5 : gk 5 = nI b) (h10 : n ≤ 10) (r : Int32) : ∀ (j i k : Nat), i + j = n → j < k → fX1_isFoulBy_26 gw gk k r (nI i) = some (if anyF (pFl gw r b) i j = true then 1 else 0) := by
  intro j
  induction j with
  | zero =>
    intro i k h hk
    obtain ⟨k, rfl⟩ : ∃ q, k = q + 1 := ⟨k - 1, by omega⟩
    rw [fX1_isFoulBy_26, ct0, Option.bind_some, hn, if_pos (nI_le (by omega) (by omega))]
    rfl
  | succ j ih =>
    intro i k h hk
    obtain ⟨k, rfl⟩ : ∃ q, k = q + 1 := ⟨k - 1, by omega⟩
    have ih' := ih (i + 1) k (by omega) (by omega)
    rw [fX1_isFoulBy_26, ct0, Option.bind_some, hn, if_neg (nI_ge (by omega) (by omega)), of0 gw (by omega), Option.bind_some, of5 gw (by omega), Option.bind_some, isNear_e h5 (by omega), Option.bind_some, fX1_isFoulBy_65, nI_1, ih', anyF, pFl]
    by_cases z0 : gw (9 * i) = r <;> by_cases z1 : gw (9 * i + 5) = 1 <;> by_cases z2 : nearB (gw (9 * i + 4)) b = true <;> simp [z0, z1, z2]
theorem m_foul {gw gk ms : Nat → Int32} {n t u b : Nat} (hR : Rg gw gk ms) (hV : Vg gw gk n t u b) (r : Int32) : ∀ (j i k : Nat) (a : Bool), i + j = n → j < k → fX8_isFoul_14 ms k r (if a = true then 1 else 0) (nI i) = some (if (a = true ∨ anyF (pFl gw r b) i j = true) ∧ gk 6 = r then 1 else 0) := by
  have h0 : ms 0 = nI n := hR.2.1.trans hV.1.2.2.2.1
  have h5 : ms 2 = nI b := hR.2.2.2.1.trans hV.1.2.2.2.2.2.1
  have h6 : ms 3 = gk 6 := hR.2.2.2.2.1
  have h10 := hV.1.1
  have hb := hV.1.2.2.1
  intro j
  induction j with
  | zero =>
    intro i k a h hk
    obtain ⟨k, rfl⟩ : ∃ q, k = q + 1 := ⟨k - 1, by omega⟩
    rw [fX8_isFoul_14, if_pos v103_0, cl_0, h0, if_pos (nI_le (by omega) (by omega)), if_pos v103_3, cl_3, h6, anyF]
    cases a
    · simp
    · by_cases z : gk 6 = r <;> simp [z]
  | succ j ih =>
    intro i k a h hk
    obtain ⟨k, rfl⟩ : ∃ q, k = q + 1 := ⟨k - 1, by omega⟩
    have e : ∀ d, d < 9 → ms (13 + 9 * i + d) = gw (9 * i + d) := fun d hd => by rw [show 13 + 9 * i + d = 13 + (9 * i + d) from by omega]; exact hR.1 _ (by omega)
    have e0 : ms (13 + 9 * i) = gw (9 * i) := e 0 (by omega)
    have hw := hV.2.2.2.1 i (by omega)
    have ih0 := ih (i + 1) k a (by omega) (by omega)
    have ih1 := ih (i + 1) k true (by omega) (by omega)
    have q0 : (if a = true then (1 : Int32) else 0) ||| 0 = if a = true then 1 else 0 := by cases a <;> rfl
    have q1 : (if a = true then (1 : Int32) else 0) ||| 1 = if true = true then 1 else 0 := by cases a <;> rfl
    rw [fX8_isFoul_14, if_pos v103_0, cl_0, h0, if_neg (nI_ge (by omega) (by omega)), mof0 ms (by omega), Option.bind_some, mof5 ms (by omega), Option.bind_some, mof4 ms (by omega), Option.bind_some, Option.bind_some, e0, e 5 (by omega), e 4 (by omega), if_pos v103_2, cl_2, h5, fX8_isFoul_83, fX8_isFoul_83, nI_1, q0, ih0, anyF, pFl]
    by_cases z0 : gw (9 * i) = r
    · by_cases z1 : gw (9 * i + 5) = 1
      · rcases cell_v hw with ⟨c0, c1⟩ | ⟨c, hc, c0⟩
        · rw [c1] at z1; exact absurd z1 (by decide)
        · rw [if_pos z0, if_pos z1, c0, if_neg (nI_pos (by omega)), apart_f c hc b hb]
          by_cases z2 : 1 < fX7_between (nI c) (nI b)
          · have nn : nearB (nI c) b = false := by rw [nearB]; simp [z2]
            rw [if_pos z2, q0, ih0, nn]; simp
          · have nn : nearB (nI c) b = true := by rw [nearB]; exact decide_eq_true ⟨nI_nm1 (by omega), z2⟩
            rw [if_neg z2, q1, ih1, nn]; simp [z0, z1]
      · rw [if_pos z0, if_neg z1]; simp [z1]
    · rw [if_neg z0]; simp [z0]
def foulF (gw gk : Nat → Int32) (n b w : Nat) : Int32 := if anyF (pFl gw (1 - gw (9 * w)) b) 0 n = true ∧ gk 6 = 1 - gw (9 * w) then 1 else 0
theorem foul_m {gw gk ms : Nat → Int32} {n t u b w : Nat} (hR : Rg gw gk ms) (hV : Vg gw gk n t u b) (hw : w < n) : fX8_isFoul ms (nI w) = some (foulF gw gk n b w) := by
  have h10 := hV.1.1
  have e0 : ms (13 + 9 * w) = gw (9 * w) := hR.1 _ (by omega)
  have z := m_foul hR hV (1 - gw (9 * w)) n 0 64 false (by omega) (by omega)
  rw [fX8_isFoul, mof0 ms (by omega), Option.bind_some, e0, foulF]
  exact Eq.trans z (by simp)
theorem foul_c {gw gk : Nat → Int32} {n t u b w : Nat} (hV : Vg gw gk n t u b) (hw : w < n) : fX1_isFoulBy gw gk (nI w) = some (foulF gw gk n b w) := by
  have h10 := hV.1.1
  have z : ∀ r, fX1_isFoulBy_26 gw gk 64 r 0 = some (if anyF (pFl gw r b) 0 n = true then 1 else 0) := fun r => c_foul (gw := gw) hV.1.2.2.2.1 hV.1.2.2.2.2.2.1 h10 r n 0 64 (by omega) (by omega)
  have h6 := hV.1.2.2.2.2.2.2.1
  have h0 := (hV.2.2.2.1 w hw).1
  rw [fX1_isFoulBy, ct6, Option.bind_some, of0 gw (by omega), Option.bind_some, z, foulF]
  rcases h6 with h6 | h6 | h6 <;> rcases h0 with h0 | h0 <;> rw [h6, h0] <;> simp
theorem foul_01 (gw gk : Nat → Int32) (n b w : Nat) : foulF gw gk n b w = 0 ∨ foulF gw gk n b w = 1 := by
  rw [foulF]; split
  · exact Or.inr rfl
  · exact Or.inl rfl
theorem dem_w {gk : Nat → Int32} {p v : Int32} (h : fX1_has gk p = some v) : fX7_demandWhale gk p = some (if v = 0 then 3 else 0) := by
  rw [fX7_demandWhale, h, Option.bind_some]; split <;> rfl
section Q
variable {gw gk ms : Nat → Int32} {n t u b : Nat}
theorem q_wouldFoul (thr p : Int32) (hR : Rg gw gk ms) (hV : Vg gw gk n t u b) : ∃ q r, fX7_wouldFoul gw gk p = some q ∧ fX8_wouldFoul thr ms p = some r ∧ (q.1 = 0 ∨ q.1 = 3) ∧ r.2 = lcode [3] q.1 ∧ (q.1 = 0 → r.1 = q.2) := by
  rcases whale_c hR hV.1.2.2.2.1 hV.1.1 p with ⟨h1, h2⟩ | ⟨w, hw, rfl, h1, h2⟩
  · exact ⟨(3, 0), (0, 1), by rw [fX7_wouldFoul, dem_w h1]; rfl, by rw [fX8_wouldFoul, h2]; rfl, Or.inr rfl, rfl, fun h => absurd h (by decide)⟩
  · refine ⟨(0, foulF gw gk n b w), (foulF gw gk n b w, 0), ?_, ?_, Or.inl rfl, rfl, fun _ => rfl⟩
    · rw [fX7_wouldFoul, dem_w h1, Option.bind_some, if_neg n10, if_pos rfl, foul_c hV hw, Option.bind_some]
      rcases foul_01 gw gk n b w with z | z <;> rw [z] <;> rfl
    · rw [fX8_wouldFoul, h2, Option.bind_some, if_neg n10, fX8_wouldFoul_14, th0, Option.bind_some, if_pos rfl, foul_m hR hV hw, Option.bind_some]
      rcases foul_01 gw gk n b w with z | z <;> rw [z] <;> rfl
theorem q_leader (thr : Int32) (hR : Rg gw gk ms) : ∃ q r, fX7_leader gk = some q ∧ fX8_leader thr ms = some r ∧ q = r.1 := by
  have h4 : ms 4 = gk 3 := hR.2.2.2.2.2.1
  have h5 : ms 5 = gk 4 := hR.2.2.2.2.2.2.1
  rw [fX7_leader, fX8_leader, ct3, ct4, if_pos v103_4, if_pos v103_5, cl_4, cl_5, h4, h5, Option.bind_some, Option.bind_some]
  by_cases z : gk 3 - gk 4 = 0
  · exact ⟨_, _, if_pos z, if_pos z, rfl⟩
  · by_cases z2 : gk 3 - gk 4 ≤ 0
    · exact ⟨1, (1, 0), by rw [if_neg z, if_pos z2], by rw [if_neg z, if_pos z2], rfl⟩
    · exact ⟨0, (0, 0), by rw [if_neg z, if_neg z2], by rw [if_neg z, if_neg z2], rfl⟩
end Q
theorem team_c (p : Int32) : (fX7_isTeam p = 0 ∧ fX8_isIn p 0 1 = 0) ∨ (∃ z, z < 2 ∧ p = nI z ∧ fX7_isTeam p = 1 ∧ fX8_isIn p 0 1 = 1) := by
  rcases rg_lo p (m := 1) (by omega) with ⟨h, h1 | h1⟩ | ⟨j, hj, rfl, h⟩
  · exact Or.inl ⟨by rw [fX7_isTeam, if_pos h1], h⟩
  · exact Or.inl ⟨by rw [fX7_isTeam, if_neg h1.1, if_pos (show (2 : Int32) ≤ p from h1.2)], h⟩
  · exact Or.inr ⟨j, by omega, rfl, by rw [fX7_isTeam, if_neg (nI_pos (by omega)), if_neg (show ¬ (2 : Int32) ≤ nI j from nI_ge (b := 2) (by omega) (by omega))], h⟩
theorem c_near {gw gk : Nat → Int32} {n b : Nat} (hn : gk 0 = nI n) (h5 : gk 5 = nI b) (h10 : n ≤ 10) (r : Int32) : ∀ (j i k a : Nat), i + j = n → j < k → fX7_beside_9 gw gk k r (nI a) (nI i) = some (0, nI (a + cntF (pNr gw r b) i j)) := by
  intro j
  induction j with
  | zero =>
    intro i k a h hk
    obtain ⟨k, rfl⟩ : ∃ q, k = q + 1 := ⟨k - 1, by omega⟩
    rw [fX7_beside_9, ct0, Option.bind_some, hn, if_pos (nI_le (by omega) (by omega))]
    rfl
  | succ j ih =>
    intro i k a h hk
    obtain ⟨k, rfl⟩ : ∃ q, k = q + 1 := ⟨k - 1, by omega⟩
    have ih0 := ih (i + 1) k a (by omega) (by omega)
    have ih1 := ih (i + 1) k (a + 1) (by omega) (by omega)
    rw [fX7_beside_9, ct0, Option.bind_some, hn, if_neg (nI_ge (by omega) (by omega)), of0 gw (by omega), Option.bind_some, isNear_e h5 (by omega), Option.bind_some, fX7_beside_48, fX7_beside_48, nI_1 i, nI_1 a, cntF, pNr]
    by_cases z0 : gw (9 * i) = r <;> by_cases z2 : nearB (gw (9 * i + 4)) b = true <;> simp [z0, z2, ih0, ih1, Nat.add_assoc]
theorem m_near {gw gk ms : Nat → Int32} {n t u b : Nat} (hR : Rg gw gk ms) (hV : Vg gw gk n t u b) (r thr : Int32) : ∀ (j i k a : Nat), i + j = n → j < k → fX8_beside_28 ms k r (nI a) (nI i) thr = some (nI (a + cntF (pNr gw r b) i j), thr) := by
  have h0 : ms 0 = nI n := hR.2.1.trans hV.1.2.2.2.1
  have h5 : ms 2 = nI b := hR.2.2.2.1.trans hV.1.2.2.2.2.2.1
  have h10 := hV.1.1
  have hb := hV.1.2.2.1
  intro j
  induction j with
  | zero =>
    intro i k a h hk
    obtain ⟨k, rfl⟩ : ∃ q, k = q + 1 := ⟨k - 1, by omega⟩
    rw [fX8_beside_28, if_pos v103_0, cl_0, h0, if_pos (nI_le (by omega) (by omega))]
    rfl
  | succ j ih =>
    intro i k a h hk
    obtain ⟨k, rfl⟩ : ∃ q, k = q + 1 := ⟨k - 1, by omega⟩
    have e : ∀ d, d < 9 → ms (13 + 9 * i + d) = gw (9 * i + d) := fun d hd => by rw [show 13 + 9 * i + d = 13 + (9 * i + d) from by omega]; exact hR.1 _ (by omega)
    have e0 : ms (13 + 9 * i) = gw (9 * i) := e 0 (by omega)
    have hw := hV.2.2.2.1 i (by omega)
    have ih0 := ih (i + 1) k a (by omega) (by omega)
    have ih1 := ih (i + 1) k (a + 1) (by omega) (by omega)
    rw [fX8_beside_28, if_pos v103_0, cl_0, h0, if_neg (nI_ge (by omega) (by omega)), mof0 ms (by omega), Option.bind_some, mof4 ms (by omega), Option.bind_some, Option.bind_some, e0, e 4 (by omega), if_pos v103_2, cl_2, h5, fX8_beside_82, fX8_beside_82, nI_1, Int32.add_zero, ih0, cntF, pNr]
    by_cases z0 : gw (9 * i) = r
    · rcases cell_v hw with ⟨c0, c1⟩ | ⟨c, hc, c0⟩
      · have nn : nearB (-1) b = false := by rw [nearB]; simp
        rw [if_pos z0, c0, if_pos lt_m1, nn]; simp
      · rw [if_pos z0, c0, if_neg (nI_pos (by omega)), apart_f c hc b hb]
        by_cases z2 : 1 < fX7_between (nI c) (nI b)
        · have nn : nearB (nI c) b = false := by rw [nearB]; simp [z2]
          rw [if_pos z2, Int32.add_zero, ih0, nn]; simp
        · have nn : nearB (nI c) b = true := by rw [nearB]; exact decide_eq_true ⟨nI_nm1 (by omega), z2⟩
          rw [if_neg z2, nI_1, ih1, nn]; simp [z0, Nat.add_assoc]
    · rw [if_neg z0]; simp [z0]
section Q
variable {gw gk ms : Nat → Int32} {n t u b : Nat}
theorem q_beside (thr p : Int32) (hR : Rg gw gk ms) (hV : Vg gw gk n t u b) : ∃ q r, fX7_beside gw gk p = some q ∧ fX8_beside thr ms p = some r ∧ (q.1 = 0 ∨ q.1 = 1) ∧ r.2 = lcode [1] q.1 ∧ (q.1 = 0 → r.1 = q.2) := by
  rcases team_c p with ⟨h1, h2⟩ | ⟨z, hz, rfl, h1, h2⟩
  · exact ⟨(1, 0), (0, 1), by rw [fX7_beside, fX7_demandTeam, h1]; rfl, by rw [fX8_beside, h2]; rfl, Or.inr rfl, rfl, fun h => absurd h (by decide)⟩
  · refine ⟨(0, nI (0 + cntF (pNr gw (nI z) b) 0 n)), (nI (0 + cntF (pNr gw (nI z) b) 0 n), 0), ?_, ?_, Or.inl rfl, rfl, fun _ => rfl⟩
    · rw [fX7_beside, fX7_demandTeam, h1, if_neg n10, Option.bind_some, if_pos rfl]
      exact c_near hV.1.2.2.2.1 hV.1.2.2.2.2.2.1 hV.1.1 (nI z) n 0 64 0 (by omega) (by have := hV.1.1; omega)
    · rw [fX8_beside, h2, if_neg n10, fX8_beside_15, th0, Option.bind_some, if_pos rfl]
      exact m_near hR hV (nI z) 0 n 0 64 0 (by omega) (by have := hV.1.1; omega)
end Q
theorem sx_wouldFoul : St_wouldFoul Inv := by
  intro f_net u_det t_len t_cur t_kin t_tol t_don n_len h_old h_siz x_sav x_err x_rea x_det x_com v_gw v_gk v_bw v_bk v_vw v_vk v_h0w v_h0k v_h1w v_h1k v_h2w v_h2k v_h3w v_h3k v_h4w v_h4k v_h5w v_h5k v_rs v_rl v_ro v_ti v_tn v_ns m_chg m_thr m_rea m_det m_ref m_err m_ans m_sav m_net m_lin m_tap m_her m_cmd v_ms v_mw v_mv v_mp v_mf v_ml v_mt v_mc hI p0
  obtain ⟨n, t, b, hV, hX⟩ := hI.2.1
  obtain ⟨q, r, h0, h1, h2, h3, h4⟩ := q_wouldFoul m_thr p0 hI.1 hV
  exact ⟨q, r, h0, h1, h2, h3, h4, hI⟩
theorem sx_leader : St_leader Inv := by
  intro f_net u_det t_len t_cur t_kin t_tol t_don n_len h_old h_siz x_sav x_err x_rea x_det x_com v_gw v_gk v_bw v_bk v_vw v_vk v_h0w v_h0k v_h1w v_h1k v_h2w v_h2k v_h3w v_h3k v_h4w v_h4k v_h5w v_h5k v_rs v_rl v_ro v_ti v_tn v_ns m_chg m_thr m_rea m_det m_ref m_err m_ans m_sav m_net m_lin m_tap m_her m_cmd v_ms v_mw v_mv v_mp v_mf v_ml v_mt v_mc hI
  obtain ⟨n, t, b, hV, hX⟩ := hI.2.1
  obtain ⟨q, r, h0, h1, h2⟩ := q_leader m_thr hI.1
  exact ⟨q, r, h0, h1, h2, hI⟩
theorem sx_beside : St_beside Inv := by
  intro f_net u_det t_len t_cur t_kin t_tol t_don n_len h_old h_siz x_sav x_err x_rea x_det x_com v_gw v_gk v_bw v_bk v_vw v_vk v_h0w v_h0k v_h1w v_h1k v_h2w v_h2k v_h3w v_h3k v_h4w v_h4k v_h5w v_h5k v_rs v_rl v_ro v_ti v_tn v_ns m_chg m_thr m_rea m_det m_ref m_err m_ans m_sav m_net m_lin m_tap m_her m_cmd v_ms v_mw v_mv v_mp v_mf v_ml v_mt v_mc hI p0
  obtain ⟨n, t, b, hV, hX⟩ := hI.2.1
  obtain ⟨q, r, h0, h1, h2, h3, h4⟩ := q_beside m_thr p0 hI.1 hV
  exact ⟨q, r, h0, h1, h2, h3, h4, hI⟩

