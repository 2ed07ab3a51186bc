/-! calls that only ask: counts, line, reasons; saving -/
def cntPl (gw : Nat → Int32) (t : Int32) (n : Nat) : Nat := cntF (pPl gw t) 0 n
theorem c_play {gw gk : Nat → Int32} {n : Nat} (hn : gk 0 = nI n) (h10 : n ≤ 10) (r : Int32) : ∀ (j i k a : Nat), i + j = n → j < k → fX1_countPlaying_4 gw gk k r (nI a) (nI i) = some (nI (a + cntF (pPl gw r) i j)) := by
  intro j
  induction j with
  | zero =>
    intro i k a h hk
    obtain ⟨k, rfl⟩ : ∃ q, k = q + 1 := ⟨k - 1, by omega⟩
    rw [fX1_countPlaying_4, ct0, Option.bind_some, hn, if_pos (nI_le (by omega) (by omega))]
    rfl
  | succ j ih =>
    intro i k a h hk
    obtain ⟨k, rfl⟩ : ∃ q, k = q + 1 := ⟨k - 1, by omega⟩
    have ih0 := ih (i + 1) k a (by omega) (by omega)
    have ih1 := ih (i + 1) k (a + 1) (by omega) (by omega)
    rw [fX1_countPlaying_4, ct0, Option.bind_some, hn, if_neg (nI_ge (by omega) (by omega)), of0 gw (by omega), Option.bind_some, fX1_isPlaying, of4 gw (by omega), Option.bind_some, fX1_countPlaying_37, nI_1 i, Int32.add_zero, cntF, pPl]
    by_cases z0 : gw (9 * i) = r
    · by_cases z1 : gw (9 * i + 4) = -1
      · rw [if_pos z0, if_pos z1, Option.bind_some, fX1_countPlaying_37, if_pos rfl, Int32.add_zero, nI_1 i, ih0]; simp [z1]
      · rw [if_pos z0, if_neg z1, Option.bind_some, fX1_countPlaying_37, if_neg n10, nI_1 i, nI_1 a, ih1]; simp [z0, z1, Nat.add_assoc]
    · rw [if_neg z0, ih0]; simp [z0]
theorem m_play {gw gk ms : Nat → Int32} {n t u b : Nat} (hR : Rg gw gk ms) (hV : Vg gw gk n t u b) (r : Int32) : ∀ (j i k a : Nat), i + j = n → j < k → fX8_playing_4 ms k r (nI a) (nI i) = some (nI (a + cntF (pPl gw r) i j)) := by
  have h0 : ms 0 = nI n := hR.2.1.trans hV.1.2.2.2.1
  have h10 := hV.1.1
  intro j
  induction j with
  | zero =>
    intro i k a h hk
    obtain ⟨k, rfl⟩ : ∃ q, k = q + 1 := ⟨k - 1, by omega⟩
    rw [fX8_playing_4, if_pos v103_0, cl_0, h0, if_pos (nI_le (by omega) (by omega))]
    rfl
  | succ j ih =>
    intro i k a h hk
    obtain ⟨k, rfl⟩ : ∃ q, k = q + 1 := ⟨k - 1, by omega⟩
    have e : ∀ d, d < 9 → ms (13 + 9 * i + d) = gw (9 * i + d) := fun d hd => by rw [show 13 + 9 * i + d = 13 + (9 * i + d) from by omega]; exact hR.1 _ (by omega)
    have e0 : ms (13 + 9 * i) = gw (9 * i) := e 0 (by omega)
    have hw := hV.2.2.2.1 i (by omega)
    have ih0 := ih (i + 1) k a (by omega) (by omega)
    have ih1 := ih (i + 1) k (a + 1) (by omega) (by omega)
    rw [fX8_playing_4, if_pos v103_0, cl_0, h0, if_neg (nI_ge (by omega) (by omega)), mof0 ms (by omega), Option.bind_some, mof4 ms (by omega), Option.bind_some, e0, e 4 (by omega), fX8_playing_39, fX8_playing_39, nI_1 i, Int32.add_zero, cntF, pPl]
    by_cases z0 : gw (9 * i) = r
    · rcases hw.2.2.2.2.1 with ⟨c0, c1⟩ | ⟨c, hc, c0⟩
      · rw [if_pos z0, c0, if_pos (show (-1 : Int32) < 0 from by decide), Int32.add_zero, ih0]; simp
      · have c1 : ¬ nI c = -1 := fun q => nI_pos (n := c) (by omega) (by rw [q]; decide)
        rw [if_pos z0, c0, if_neg (nI_pos (by omega)), nI_1 a, ih1]; simp [z0, c1, Nat.add_assoc]
    · rw [if_neg z0, ih0]; simp [z0]
theorem play_c {gw gk : Nat → Int32} {n t u b : Nat} (hV : Vg gw gk n t u b) (r : Int32) : fX1_countPlaying gw gk r = some (nI (cntPl gw r n)) := by
  have h10 := hV.1.1
  have z := c_play (gw := gw) hV.1.2.2.2.1 hV.1.1 r n 0 64 0 (by omega) (by omega)
  rw [Nat.zero_add] at z
  exact z
theorem play_m {gw gk ms : Nat → Int32} {n t u b : Nat} (hR : Rg gw gk ms) (hV : Vg gw gk n t u b) (r : Int32) : fX8_playing ms r = some (nI (cntPl gw r n)) := by
  have h10 := hV.1.1
  have z := m_play hR hV r n 0 64 0 (by omega) (by omega)
  rw [Nat.zero_add] at z
  exact z
theorem q_account {gw gk ms : Nat → Int32} {n t u b : Nat} (tl hs mc thr p : Int32) (hR : Rg gw gk ms) (hV : Vg gw gk n t u b) (hm : mc = hs) (mt : Int32) (ht : mt = tl) : ∃ q r, fX7_account tl hs gw gk p = some q ∧ fX8_account mc thr mt ms p = some r ∧ (q.1 = 0 ∨ q.1 = 1) ∧ r.2 = lcode [1] q.1 ∧ (q.1 = 0 → r.1 = q.2) := by
  subst hm ht
  obtain ⟨a, h0, h1, h2, h3, h4, h5, h6, h7, h8, h9, h10, h11, h12, hs9⟩ := id hR
  rcases rg_lo p (m := 13) (by omega) with ⟨h, z | z⟩ | ⟨j, hj, rfl, h⟩
  · exact ⟨(1, 0), (0, 1), by rw [fX7_account, if_pos z]; rfl, by rw [fX8_account, show (13 : Int32) = nI 13 from rfl, h]; rfl, Or.inr rfl, rfl, fun h => absurd h (by decide)⟩
  · exact ⟨(1, 0), (0, 1), by rw [fX7_account, if_neg z.1, if_neg (show ¬ p < (14 : Int32) from Int32.not_lt.mpr z.2)]; rfl, by rw [fX8_account, show (13 : Int32) = nI 13 from rfl, h]; rfl, Or.inr rfl, rfl, fun h => absurd h (by decide)⟩
  · match j, hj with
    | 0, _ => exact ⟨(0, gk 0), (ms 0, 0), rfl, rfl, Or.inl rfl, rfl, fun _ => h0⟩
    | 1, _ => exact ⟨(0, gk 1), (ms 1, 0), rfl, rfl, Or.inl rfl, rfl, fun _ => h1⟩
    | 2, _ => exact ⟨(0, gk 1 / 12), (ms 1 / 12, 0), rfl, rfl, Or.inl rfl, rfl, fun _ => (by rw [h1])⟩
    | 3, _ => exact ⟨(0, gk 3), (ms 4, 0), rfl, rfl, Or.inl rfl, rfl, fun _ => h4⟩
    | 4, _ => exact ⟨(0, gk 4), (ms 5, 0), rfl, rfl, Or.inl rfl, rfl, fun _ => h5⟩
    | 5, _ => exact ⟨(0, gk 5), (ms 2, 0), rfl, rfl, Or.inl rfl, rfl, fun _ => h2⟩
    | 6, _ => exact ⟨(0, gk 6), (ms 3, 0), rfl, rfl, Or.inl rfl, rfl, fun _ => h3⟩
    | 7, _ => exact ⟨(0, gk 7), (ms 6, 0), rfl, rfl, Or.inl rfl, rfl, fun _ => h6⟩
    | 8, _ => exact ⟨(0, gk 8), (ms 7, 0), rfl, rfl, Or.inl rfl, rfl, fun _ => h7⟩
    | 9, _ => exact ⟨(0, gk 9), (ms 9 + ms 10, 0), rfl, rfl, Or.inl rfl, rfl, fun _ => (by rw [h9, h10, hs9])⟩
    | 10, _ =>
      have e1 := play_c hV 0
      have e2 := play_c hV 1
      have f1 := play_m hR hV 0
      have f2 := play_m hR hV 1
      refine ⟨(0, nI (cntPl gw 0 n) + nI (cntPl gw 1 n)), (nI (cntPl gw 0 n) + nI (cntPl gw 1 n), 0), ?_, ?_, Or.inl rfl, rfl, fun _ => rfl⟩
      · show ((fX1_countPlaying gw gk 0).bind fun q7 => (fX1_countPlaying gw gk 1).bind fun q9 => some (0, (q7 + q9))) = _
        rw [e1, e2]; rfl
      · show ((fX8_playing ms 0).bind fun q7 => (fX8_playing ms 1).bind fun q9 => some ((q7 + q9), (0 : Int32))) = _
        rw [f1, f2]; rfl
    | 11, _ => exact ⟨(0, gk 11), (ms 8, 0), rfl, rfl, Or.inl rfl, rfl, fun _ => h8⟩
    | 12, _ => exact ⟨(0, mt), (mt, 0), rfl, rfl, Or.inl rfl, rfl, fun _ => rfl⟩
    | 13, _ => exact ⟨(0, mc), (mc, 0), rfl, rfl, Or.inl rfl, rfl, fun _ => rfl⟩
    | q + 14, hj => exact absurd hj (by omega)
theorem u16_n {c : Nat} (h : c < 128) : (nI c).toUInt32.toUInt16.toUInt32.toInt32 = nI c ∧ ((nI c).toUInt32 % 65536).toInt32 = nI c := by
  have z : ∀ c, c < 128 → (nI c).toUInt32.toUInt16.toUInt32.toInt32 = nI c ∧ ((nI c).toUInt32 % 65536).toInt32 = nI c := by decide +kernel
  exact z c h
theorem isInm {n : Nat} (hn : n < 2 ^ 31 - 1) (p : Int32) : (fX8_isIn p 0 (nI n - 1) = 0 ∧ (p < 0 ∨ ¬ p < 0 ∧ ¬ p < nI n)) ∨ ∃ j, j < n ∧ p = nI j ∧ fX8_isIn p 0 (nI n - 1) = 1 ∧ ¬ p < 0 ∧ p < nI n := by
  cases n with
  | zero =>
    left
    rw [fX8_isIn]
    by_cases h : p < 0
    · exact ⟨by rw [if_pos h], Or.inl h⟩
    · refine ⟨?_, Or.inr ⟨h, fun z => h z⟩⟩
      rw [if_neg h, if_pos]
      have e : (nI 0 - 1 : Int32).toInt = -1 := rfl
      have e0 : (0 : Int32).toInt = 0 := rfl
      rw [Int32.lt_iff_toInt_lt] at h ⊢
      omega
  | succ m =>
    rw [nI_pred m]
    rcases rg_lo p (m := m) (by omega) with ⟨h, h1 | h1⟩ | ⟨j, hj, rfl, h⟩
    · exact Or.inl ⟨h, Or.inl h1⟩
    · exact Or.inl ⟨h, Or.inr ⟨h1.1, Int32.not_lt.mpr h1.2⟩⟩
    · exact Or.inr ⟨j, by omega, rfl, h, nI_pos (by omega), nI_lt (by omega) (by omega)⟩
theorem turn_g (gk : Nat → Int32) : ∀ (k : Nat) (x y z : Int32), fX1_strokesToTurn_22 gk k x y z = fX1_strokesToTurn_22 (fun _ => 0) k x y z := by
  intro k
  induction k with
  | zero => intro x y z; rfl
  | succ k ih =>
    intro x y z
    rw [fX1_strokesToTurn_22, fX1_strokesToTurn_22, fX1_strokesToTurn_43, fX1_strokesToTurn_43, ih]
theorem turn_m {ms : Nat → Int32} {t : Nat} (h1 : ms 1 = nI t) : ∀ (k : Nat) (x y z : Int32), fX8_turnsIn_40 ms k x y z = (fX8_turnsIn_40 (fun _ => nI t) k x y 0).map (fun q => (q.1, z)) := by
  intro k
  induction k with
  | zero => intro x y z; rfl
  | succ k ih =>
    intro x y z
    rw [fX8_turnsIn_40, fX8_turnsIn_40, fX8_isDryNow, fX8_isDryNow, if_pos v103_1, if_pos v103_1, if_pos v103_1, if_pos v103_1, cl_1, h1, Option.bind_some, Option.bind_some, ih]
    by_cases q : fX8_isDryAt x (nI t + y) = fX8_isDryAt x (nI t) &&& 1
    · rw [if_pos q, if_pos q]
    · rw [if_neg q, if_neg q]; rfl
theorem turn_f : ∀ t, t < 49 → ∀ c, c < 45 → (fX7_isEdge (nI c) = 0 ∧ fX8_isIn (nI c) 9 35 = 1) ∨ (fX7_isEdge (nI c) = 1 ∧ fX8_isIn (nI c) 9 35 = 0 ∧ ∃ v, v < 20 ∧ fX1_strokesToTurn_22 (fun _ => 0) 64 (nI t) (if 2 < (fX7_tideByDividing (nI t)) then 0 else 1) 1 = some (nI v) ∧ fX8_turnsIn_40 (fun _ => nI t) 64 (nI c) 0 0 = some (nI v, 0)) := by decide +kernel
theorem q_turnsIn {gw gk ms : Nat → Int32} {n t u b : Nat} (thr p : Int32) (hR : Rg gw gk ms) (hV : Vg gw gk n t u b) : ∃ q r, fX7_turnsIn gk p = some q ∧ fX8_turnsIn thr ms p = some r ∧ (q.1 = 0 ∨ q.1 = 3 ∨ q.1 = 4) ∧ r.2 = lcode [3, 4] q.1 ∧ (q.1 = 0 → r.1 = q.2 ∧ BD q.2) := by
  have ht := hV.1.2.1
  have hk : gk 1 = nI t := hV.1.2.2.2.2.1
  have h1 : ms 1 = nI t := hR.2.2.1.trans hk
  rcases cell_c p with ⟨h1, h2⟩ | ⟨c, hc, rfl, h2, h3⟩
  · exact ⟨(3, 0), (0, 1), by rw [fX7_turnsIn, fX7_demandCell, if_pos h1]; rfl, by rw [fX8_turnsIn, h2]; rfl, Or.inr (Or.inl rfl), rfl, fun h => absurd h (by decide)⟩
  · have e1 : fX7_demandCell (nI c) = some 0 := by rw [fX7_demandCell, h2, if_neg n10]
    rcases turn_f t (by omega) c hc with ⟨g1, g2⟩ | ⟨g1, g2, v, hv, g3, g4⟩
    · exact ⟨(4, 0), (0, 2), by rw [fX7_turnsIn, e1, Option.bind_some, if_pos rfl, if_pos g1], by rw [fX8_turnsIn, h3, if_neg n10, fX8_turnsIn_13, th0, Option.bind_some, if_pos rfl, g2]; rfl, Or.inr (Or.inr rfl), rfl, fun h => absurd h (by decide)⟩
    · refine ⟨(0, nI v), (nI v, 0), ?_, ?_, Or.inl rfl, rfl, fun _ => ⟨rfl, BD_nI (by omega)⟩⟩
      · rw [fX7_turnsIn, e1, Option.bind_some, if_pos rfl, g1, if_neg n10, fX1_strokesToTurn, ct1, Option.bind_some, hk, fX1_strokesToTurn_19, turn_g, g3, Option.bind_some]
      · rw [fX8_turnsIn, h3, if_neg n10, fX8_turnsIn_13, th0, Option.bind_some, if_pos rfl, g2, th0, Option.bind_some, if_pos rfl, turn_m h1, g4]; rfl
theorem sx_turnsIn : St_turnsIn Inv := by
  intro f_net u_det t_len t_cur t_kin t_tol t_don n_len h_old h_siz x_sav x_err x_rea x_det x_com v_gw v_gk v_bw v_bk v_vw v_vk v_h0w v_h0k v_h1w v_h1k v_h2w v_h2k v_h3w v_h3k v_h4w v_h4k v_h5w v_h5k v_rs v_rl v_ro v_ti v_tn v_ns m_chg m_thr m_rea m_det m_ref m_err m_ans m_sav m_net m_lin m_tap m_her m_cmd v_ms v_mw v_mv v_mp v_mf v_ml v_mt v_mc hI p0
  obtain ⟨n, t, b, hV, hX⟩ := hI.2.1
  obtain ⟨q, r, h0, h1, h2, h3, h4⟩ := q_turnsIn m_thr p0 hI.1 hV
  exact ⟨q, r, h0, h1, h2, h3, fun h => (h4 h).1, hI⟩
theorem sx_account : St_account Inv := by
  intro f_net u_det t_len t_cur t_kin t_tol t_don n_len h_old h_siz x_sav x_err x_rea x_det x_com v_gw v_gk v_bw v_bk v_vw v_vk v_h0w v_h0k v_h1w v_h1k v_h2w v_h2k v_h3w v_h3k v_h4w v_h4k v_h5w v_h5k v_rs v_rl v_ro v_ti v_tn v_ns m_chg m_thr m_rea m_det m_ref m_err m_ans m_sav m_net m_lin m_tap m_her m_cmd v_ms v_mw v_mv v_mp v_mf v_ml v_mt v_mc hI p0
  obtain ⟨n, t, b, hV, hX⟩ := hI.2.1
  obtain ⟨o, z, e1, e2, e3, _⟩ := hI.2.2.2.1
  obtain ⟨y, e4, e5, _⟩ := hI.2.2.2.2.1
  obtain ⟨q, r, h0, h1, h2, h3, h4⟩ := q_account t_len h_siz m_chg m_thr p0 hI.1 hV (e3.trans e2.symm) m_tap (e5.trans e4.symm)
  exact ⟨q, r, h0, h1, h2, h3, h4, hI⟩
