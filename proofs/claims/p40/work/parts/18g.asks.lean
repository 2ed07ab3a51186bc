/-! the questions, bounded -/
theorem lres_s (l : List Nat) (k : Nat) (v : Int32) : lres l (k + 1) v = -900000 - lcode l (k + 1) := rfl
theorem row_n_of {gw gk : Nat → Int32} : ∀ (k : Nat) (y c nl : Int32) (ns : Nat → Int32) (q), fX7_row_29 gw gk k y c nl ns = some q → fX7_row_n_29 gw gk k y c nl ns = some q.2 := by
  intro k
  induction k with
  | zero => intro y c nl ns q h; exact nomatch h
  | succ k ih =>
    intro y c nl ns q h
    rw [fX7_row_29] at h
    rw [fX7_row_n_29]
    by_cases z : 9 ≤ c
    · rw [if_pos z] at h ⊢
      cases h
      rfl
    · rw [if_neg z] at h ⊢
      obtain ⟨q6, h6, h⟩ := bnd h
      rw [h6, Option.bind_some]
      exact ih _ _ _ _ _ h
theorem tell_e {gw gk ns : Nat → Int32} {l nl : Int32} {q} (h : fX7_tell_121 gw gk l nl ns = some q) : fX7_tell_n_121 gw gk l nl ns = some q.2 ∧ q.2.1 = q.2.2.1 := by
  rw [fX7_tell_121] at h
  rw [fX7_tell_n_121]
  obtain ⟨a, ha, h⟩ := bnd h
  rw [ha, Option.bind_some]
  by_cases z : a = 1
  · rw [if_pos z] at h ⊢
    obtain ⟨c, hc, h⟩ := bnd h
    rw [hc, Option.bind_some]
    cases h
    exact ⟨rfl, rfl⟩
  · rw [if_neg z] at h ⊢
    cases h
    exact ⟨rfl, rfl⟩
theorem tell_n_of {gw gk ns : Nat → Int32} {p nl : Int32} {q} (hd : fX7_demandWhale gk p = some 0) (hn : fX7_demandWhale_n gk p = some ()) (h : fX7_tell nl gw gk ns p = some q) : fX7_tell_n nl gw gk ns p = some q.2 ∧ q.2.1 = q.2.2.1 := by
  rw [fX7_tell, hd, Option.bind_some, if_pos rfl] at h
  rw [fX7_tell_n, hn, Option.bind_some]
  obtain ⟨q3, h3, h⟩ := bnd h
  obtain ⟨q5, h5, h⟩ := bnd h
  obtain ⟨q7, h7, h⟩ := bnd h
  obtain ⟨q9, h9, h⟩ := bnd h
  obtain ⟨q11, h11, h⟩ := bnd h
  obtain ⟨q13, h13, h⟩ := bnd h
  obtain ⟨q15, h15, h⟩ := bnd h
  obtain ⟨q17, h17, h⟩ := bnd h
  obtain ⟨q19, h19, h⟩ := bnd h
  obtain ⟨q21, h21, h⟩ := bnd h
  obtain ⟨q23, h23, h⟩ := bnd h
  rw [h3, Option.bind_some, h5, Option.bind_some, h7, Option.bind_some, h9, Option.bind_some, h11, Option.bind_some, h13, Option.bind_some, h15, Option.bind_some, h17, Option.bind_some, h19, Option.bind_some, h21, Option.bind_some, h23, Option.bind_some]
  by_cases z : q23 = 0
  · rw [if_pos z] at h ⊢
    exact tell_e h
  · rw [if_neg z] at h ⊢
    obtain ⟨q26, h26, h⟩ := bnd h
    obtain ⟨q28, h28, h⟩ := bnd h
    rw [h26, Option.bind_some, h28, Option.bind_some]
    exact tell_e h
theorem cw_b {rs : Nat → Int32} : ∀ (k a j : Nat) (p r : Int32), a + k < 100000 → fX4_countWithin_4 rs k p (nI a) (nI j) = some r → ∃ a', r = nI a' ∧ a' ≤ a + k := by
  intro k
  induction k with
  | zero => intro a j p r _ h; exact nomatch h
  | succ k ih =>
    intro a j p r hk h
    rw [fX4_countWithin_4] at h
    by_cases z : 45 ≤ nI j
    · rw [if_pos z] at h
      cases h
      exact ⟨a, rfl, by omega⟩
    · rw [if_neg z] at h
      by_cases y : vin (nI j) 45 = true
      · rw [if_pos y] at h
        by_cases x : rs (nI j).toNatClampNeg ≤ 0
        · rw [if_pos x, fX4_countWithin_38, Int32.add_zero, nI_1] at h
          obtain ⟨a', h1, h2⟩ := ih _ _ _ _ (by omega) h
          exact ⟨a', h1, by omega⟩
        · rw [if_neg x, if_pos y, fX4_countWithin_38] at h
          by_cases w : p < rs (nI j).toNatClampNeg
          · rw [if_pos w, Int32.add_zero, nI_1] at h
            obtain ⟨a', h1, h2⟩ := ih _ _ _ _ (by omega) h
            exact ⟨a', h1, by omega⟩
          · rw [if_neg w, nI_1, nI_1] at h
            obtain ⟨a', h1, h2⟩ := ih _ _ _ _ (by omega) h
            exact ⟨a', h1, by omega⟩
      · rw [if_neg y] at h
        exact nomatch h
theorem reach_n_of {gw gk rs ro : Nat → Int32} {p : Int32} {q} (hd : fX7_demandWhale gk p = some 0) (hn : fX7_demandWhale_n gk p = some ()) (h : fX7_reach gw gk rs ro p = some q) : fX7_reach_n gw gk rs ro p = some q.2 ∧ BD q.2.1 := by
  have b0 : BD 0 := ⟨by decide, by decide⟩
  rw [fX7_reach, hd, Option.bind_some, if_pos rfl] at h
  rw [fX7_reach_n, hn, Option.bind_some]
  obtain ⟨q3, h3, h⟩ := bnd h
  rw [h3, Option.bind_some]
  by_cases z3 : q3 = 0
  · rw [if_pos z3] at h ⊢
    obtain ⟨q6, h6, h⟩ := bnd h
    rw [h6, Option.bind_some]
    by_cases z6 : q6 = 0
    · rw [if_pos z6] at h ⊢
      cases h
      exact ⟨rfl, b0⟩
    · rw [if_neg z6] at h ⊢
      obtain ⟨q9, h9, h⟩ := bnd h
      rw [h9, Option.bind_some]
      by_cases z9 : q9 = 0
      · rw [if_pos z9] at h ⊢
        obtain ⟨q12, h12, h⟩ := bnd h
        obtain ⟨q14, h14, h⟩ := bnd h
        obtain ⟨q16, h16, h⟩ := bnd h
        obtain ⟨q18, h18, h⟩ := bnd h
        rw [h12, Option.bind_some, h14, Option.bind_some, h16, Option.bind_some, h18, Option.bind_some]
        obtain ⟨a', h1, h2⟩ := cw_b 64 0 0 _ q18 (by omega) h18
        cases h
        exact ⟨rfl, by rw [h1]; exact BD_nI (by omega)⟩
      · rw [if_neg z9] at h ⊢
        cases h
        exact ⟨rfl, b0⟩
  · rw [if_neg z3] at h ⊢
    cases h
    exact ⟨rfl, b0⟩
set_option maxHeartbeats 4000000 in
set_option maxRecDepth 100000 in
theorem sp_t_best : Sp_t_best I9 := by
  intro f_net u_det t_len t_cur t_kin t_tol t_don n_len h_old h_siz x_sav x_err x_rea x_det x_com v_gw v_gk v_bw v_bk v_vw v_vk v_h0w v_h0k v_h1w v_h1k v_h2w v_h2k v_h3w v_h3k v_h4w v_h4k v_h5w v_h5k v_rs v_rl v_ro v_ti v_tn v_ns hJ
  obtain ⟨⟨⟨m_chg, m_thr, m_rea, m_det, m_ref, m_err, m_ans, m_sav, m_net, m_lin, m_tap, m_her, m_cmd, v_ms, v_mw, v_mv, v_mp, v_mf, v_ml, v_mt, v_mc, hI⟩, htl⟩, hN⟩ := id hJ
  obtain ⟨n, t, b, hV, hX⟩ := id hI.2.1
  have hn := hV.1.2.2.2.1
  have h10 := hV.1.1
  obtain ⟨q, r, h0, h1, h2, h3, h4⟩ := q_best f_net u_det m_net m_thr 0 hI.1 hV
  have er : fL_best f_net u_det v_gw v_gk 0 = (fX7_best f_net u_det v_gw v_gk 0).bind _ := rfl
  rw [h0, Option.bind_some, if_pos h2] at er
  refine ⟨_, er, ?_, ⟨⟨m_chg, m_thr, m_rea, m_det, m_ref, m_err, m_ans, m_sav, m_net, m_lin, m_tap, m_her, m_cmd, v_ms, v_mw, v_mv, v_mp, v_mf, v_ml, v_mt, v_mc, hI⟩, htl⟩, hN⟩
  rcases h2 with e | e | e
  · show BDL (lres [3, 4] q.1 q.2.1)
    rw [e]
    exact BDL_of (h4 e).2
  · show BDL (lres [3, 4] q.1 q.2.1)
    rw [e, lres_s]
    exact ⟨by decide, by decide⟩
  · show BDL (lres [3, 4] q.1 q.2.1)
    rw [e, lres_s]
    exact ⟨by decide, by decide⟩
set_option maxHeartbeats 4000000 in
set_option maxRecDepth 100000 in
theorem sp_t_ranked : Sp_t_ranked I9 := by
  intro f_net u_det t_len t_cur t_kin t_tol t_don n_len h_old h_siz x_sav x_err x_rea x_det x_com v_gw v_gk v_bw v_bk v_vw v_vk v_h0w v_h0k v_h1w v_h1k v_h2w v_h2k v_h3w v_h3k v_h4w v_h4k v_h5w v_h5k v_rs v_rl v_ro v_ti v_tn v_ns hJ
  obtain ⟨⟨⟨m_chg, m_thr, m_rea, m_det, m_ref, m_err, m_ans, m_sav, m_net, m_lin, m_tap, m_her, m_cmd, v_ms, v_mw, v_mv, v_mp, v_mf, v_ml, v_mt, v_mc, hI⟩, htl⟩, hN⟩ := id hJ
  obtain ⟨n, t, b, hV, hX⟩ := id hI.2.1
  have hn := hV.1.2.2.2.1
  have h10 := hV.1.1
  obtain ⟨q, r, h0, h1, h2, h3, h4⟩ := q_ranked m_thr 0 0 hI.1 hV (by have := hV.1.2.1; omega)
  have er : fL_ranked v_gw v_gk 0 0 = (fX7_ranked v_gw v_gk 0 0).bind _ := rfl
  rw [h0, Option.bind_some, if_pos h2] at er
  refine ⟨_, er, ?_, ⟨⟨m_chg, m_thr, m_rea, m_det, m_ref, m_err, m_ans, m_sav, m_net, m_lin, m_tap, m_her, m_cmd, v_ms, v_mw, v_mv, v_mp, v_mf, v_ml, v_mt, v_mc, hI⟩, htl⟩, hN⟩
  rcases h2 with e | e | e
  · show BDL (lres [1, 4] q.1 q.2)
    rw [e]
    exact BDL_of (h4 e).2
  · show BDL (lres [1, 4] q.1 q.2)
    rw [e, lres_s]
    exact ⟨by decide, by decide⟩
  · show BDL (lres [1, 4] q.1 q.2)
    rw [e, lres_s]
    exact ⟨by decide, by decide⟩
set_option maxHeartbeats 4000000 in
set_option maxRecDepth 100000 in
theorem sp_t_calf : Sp_t_calf I9 := by
  intro f_net u_det t_len t_cur t_kin t_tol t_don n_len h_old h_siz x_sav x_err x_rea x_det x_com v_gw v_gk v_bw v_bk v_vw v_vk v_h0w v_h0k v_h1w v_h1k v_h2w v_h2k v_h3w v_h3k v_h4w v_h4k v_h5w v_h5k v_rs v_rl v_ro v_ti v_tn v_ns hJ
  obtain ⟨⟨⟨m_chg, m_thr, m_rea, m_det, m_ref, m_err, m_ans, m_sav, m_net, m_lin, m_tap, m_her, m_cmd, v_ms, v_mw, v_mv, v_mp, v_mf, v_ml, v_mt, v_mc, hI⟩, htl⟩, hN⟩ := id hJ
  obtain ⟨n, t, b, hV, hX⟩ := id hI.2.1
  have hn := hV.1.2.2.2.1
  have h10 := hV.1.1
  obtain ⟨q, r, h0, h1, h2, h3, h4⟩ := q_calf m_thr 0 hI.1 hV
  have er : fL_calf v_gw v_gk 0 = (fX7_calf v_gw v_gk 0).bind _ := rfl
  rw [h0, Option.bind_some, if_pos h2] at er
  refine ⟨_, er, ?_, ⟨⟨m_chg, m_thr, m_rea, m_det, m_ref, m_err, m_ans, m_sav, m_net, m_lin, m_tap, m_her, m_cmd, v_ms, v_mw, v_mv, v_mp, v_mf, v_ml, v_mt, v_mc, hI⟩, htl⟩, hN⟩
  rcases h2 with e | e | e
  · show BDL (lres [1, 4] q.1 q.2)
    rw [e]
    exact BDL_of (h4 e).2
  · show BDL (lres [1, 4] q.1 q.2)
    rw [e, lres_s]
    exact ⟨by decide, by decide⟩
  · show BDL (lres [1, 4] q.1 q.2)
    rw [e, lres_s]
    exact ⟨by decide, by decide⟩
set_option maxHeartbeats 4000000 in
set_option maxRecDepth 100000 in
theorem sp_t_turnsIn : Sp_t_turnsIn I9 := by
  intro f_net u_det t_len t_cur t_kin t_tol t_don n_len h_old h_siz x_sav x_err x_rea x_det x_com v_gw v_gk v_bw v_bk v_vw v_vk v_h0w v_h0k v_h1w v_h1k v_h2w v_h2k v_h3w v_h3k v_h4w v_h4k v_h5w v_h5k v_rs v_rl v_ro v_ti v_tn v_ns hJ
  obtain ⟨⟨⟨m_chg, m_thr, m_rea, m_det, m_ref, m_err, m_ans, m_sav, m_net, m_lin, m_tap, m_her, m_cmd, v_ms, v_mw, v_mv, v_mp, v_mf, v_ml, v_mt, v_mc, hI⟩, htl⟩, hN⟩ := id hJ
  obtain ⟨n, t, b, hV, hX⟩ := id hI.2.1
  have hn := hV.1.2.2.2.1
  have h10 := hV.1.1
  obtain ⟨q, r, h0, h1, h2, h3, h4⟩ := q_turnsIn m_thr 3 hI.1 hV
  have er : fL_turnsIn v_gk 3 = (fX7_turnsIn v_gk 3).bind _ := rfl
  rw [h0, Option.bind_some, if_pos h2] at er
  refine ⟨_, er, ?_, ⟨⟨m_chg, m_thr, m_rea, m_det, m_ref, m_err, m_ans, m_sav, m_net, m_lin, m_tap, m_her, m_cmd, v_ms, v_mw, v_mv, v_mp, v_mf, v_ml, v_mt, v_mc, hI⟩, htl⟩, hN⟩
  rcases h2 with e | e | e
  · show BDL (lres [3, 4] q.1 q.2)
    rw [e]
    exact BDL_of (h4 e).2
  · show BDL (lres [3, 4] q.1 q.2)
    rw [e, lres_s]
    exact ⟨by decide, by decide⟩
  · show BDL (lres [3, 4] q.1 q.2)
    rw [e, lres_s]
    exact ⟨by decide, by decide⟩
set_option maxHeartbeats 4000000 in
set_option maxRecDepth 100000 in
theorem sp_t_row : Sp_t_row I9 := by
  intro f_net u_det t_len t_cur t_kin t_tol t_don n_len h_old h_siz x_sav x_err x_rea x_det x_com v_gw v_gk v_bw v_bk v_vw v_vk v_h0w v_h0k v_h1w v_h1k v_h2w v_h2k v_h3w v_h3k v_h4w v_h4k v_h5w v_h5k v_rs v_rl v_ro v_ti v_tn v_ns hJ
  obtain ⟨⟨⟨m_chg, m_thr, m_rea, m_det, m_ref, m_err, m_ans, m_sav, m_net, m_lin, m_tap, m_her, m_cmd, v_ms, v_mw, v_mv, v_mp, v_mf, v_ml, v_mt, v_mc, hI⟩, htl⟩, hN⟩ := id hJ
  obtain ⟨n, t, b, hV, hX⟩ := id hI.2.1
  have hn := hV.1.2.2.2.1
  have h10 := hV.1.1
  obtain ⟨ns', ml', i1, i2, i3⟩ := row_l hI.1 hV (y := 2) (by omega) 9 0 64 v_ns v_ml (by omega) (by omega) ⟨by omega, fun q hq => absurd hq (Nat.not_lt_zero _)⟩
  have er : fX7_row_n n_len v_gw v_gk v_ns 2 = some (nI 9, nI 9, ns') := by
    rw [fX7_row_n, if_neg (by decide), if_pos (by decide)]
    exact row_n_of 64 (nI 2) (nI 0) (nI 0) v_ns _ i1
  exact ⟨_, er, BDL_of (BD_nI (k := 9) (by omega)), ⟨⟨m_chg, m_thr, m_rea, m_det, m_ref, m_err, m_ans, m_sav, m_net, nI 9, m_tap, m_her, m_cmd, v_ms, v_mw, v_mv, v_mp, v_mf, ml', v_mt, v_mc, hI.1, hI.2.1, hI.2.2.1, hI.2.2.2.1, hI.2.2.2.2.1, ⟨9, rfl, rfl, i3⟩, hI.2.2.2.2.2.2⟩, htl⟩, hN⟩
set_option maxHeartbeats 4000000 in
set_option maxRecDepth 100000 in
theorem sp_t_tell : Sp_t_tell I9 := by
  intro f_net u_det t_len t_cur t_kin t_tol t_don n_len h_old h_siz x_sav x_err x_rea x_det x_com v_gw v_gk v_bw v_bk v_vw v_vk v_h0w v_h0k v_h1w v_h1k v_h2w v_h2k v_h3w v_h3k v_h4w v_h4k v_h5w v_h5k v_rs v_rl v_ro v_ti v_tn v_ns hJ
  obtain ⟨⟨⟨m_chg, m_thr, m_rea, m_det, m_ref, m_err, m_ans, m_sav, m_net, m_lin, m_tap, m_her, m_cmd, v_ms, v_mw, v_mv, v_mp, v_mf, v_ml, v_mt, v_mc, hI⟩, htl⟩, hN⟩ := id hJ
  obtain ⟨n, t, b, hV, hX⟩ := id hI.2.1
  have hn := hV.1.2.2.2.1
  have h10 := hV.1.1
  obtain ⟨k, k1, k2, k3⟩ := id hN
  have nk : n = k := (nI_eq (by omega) (by omega)).mp (hn.symm.trans k3)
  have hd : fX7_demandWhale v_gk (nI 0) = some 0 := by
    rcases whale_c hI.1 hn h10 (nI 0) with ⟨e, _⟩ | ⟨w, _, _, e, _⟩
    · exfalso
      rw [fX1_has, if_neg (nI_pos (by omega)), ct0, Option.bind_some, hn, if_neg (nI_ge (by omega) (by omega))] at e
      exact absurd e (by decide)
    · rw [dem_w e, if_neg n10]
  have hd2 := dw_n hn h10 (w := 0) (by omega)
  obtain ⟨q, r, h0, h1, h2, h3, h4, hI2⟩ := sx_tell f_net u_det t_len t_cur t_kin t_tol t_don n_len h_old h_siz x_sav x_err x_rea x_det x_com v_gw v_gk v_bw v_bk v_vw v_vk v_h0w v_h0k v_h1w v_h1k v_h2w v_h2k v_h3w v_h3k v_h4w v_h4k v_h5w v_h5k v_rs v_rl v_ro v_ti v_tn v_ns m_chg m_thr m_rea m_det m_ref m_err m_ans m_sav m_net m_lin m_tap m_her m_cmd v_ms v_mw v_mv v_mp v_mf v_ml v_mt v_mc hI (nI 0)
  obtain ⟨e1, e2⟩ := tell_n_of hd hd2 h0
  obtain ⟨y, y1, y2, y3⟩ := id hI2.2.2.2.2.2.1
  exact ⟨_, e1, (by rw [e2, y1]; exact BDL_of (BD_nI (by have := y3.1; omega))), ⟨⟨_, _, _, _, _, _, _, _, _, _, _, _, _, _, _, _, _, _, _, _, _, hI2⟩, htl⟩, hN⟩
set_option maxHeartbeats 4000000 in
set_option maxRecDepth 100000 in
theorem sp_t_reach : Sp_t_reach I9 := by
  intro f_net u_det t_len t_cur t_kin t_tol t_don n_len h_old h_siz x_sav x_err x_rea x_det x_com v_gw v_gk v_bw v_bk v_vw v_vk v_h0w v_h0k v_h1w v_h1k v_h2w v_h2k v_h3w v_h3k v_h4w v_h4k v_h5w v_h5k v_rs v_rl v_ro v_ti v_tn v_ns hJ
  obtain ⟨⟨⟨m_chg, m_thr, m_rea, m_det, m_ref, m_err, m_ans, m_sav, m_net, m_lin, m_tap, m_her, m_cmd, v_ms, v_mw, v_mv, v_mp, v_mf, v_ml, v_mt, v_mc, hI⟩, htl⟩, hN⟩ := id hJ
  obtain ⟨n, t, b, hV, hX⟩ := id hI.2.1
  have hn := hV.1.2.2.2.1
  have h10 := hV.1.1
  obtain ⟨k, k1, k2, k3⟩ := id hN
  have nk : n = k := (nI_eq (by omega) (by omega)).mp (hn.symm.trans k3)
  have hd : fX7_demandWhale v_gk (nI 1) = some 0 := by
    rcases whale_c hI.1 hn h10 (nI 1) with ⟨e, _⟩ | ⟨w, _, _, e, _⟩
    · exfalso
      rw [fX1_has, if_neg (nI_pos (by omega)), ct0, Option.bind_some, hn, if_neg (nI_ge (by omega) (by omega))] at e
      exact absurd e (by decide)
    · rw [dem_w e, if_neg n10]
  have hd2 := dw_n hn h10 (w := 1) (by omega)
  obtain ⟨q, r, h0, h1, h2, h3, h4⟩ := q_reach m_thr (nI 1) v_rs v_ro v_mf hI.1 hV
  obtain ⟨e1, e2⟩ := reach_n_of hd hd2 h0
  exact ⟨_, e1, BDL_of e2, ⟨⟨m_chg, m_thr, m_rea, m_det, m_ref, m_err, m_ans, m_sav, m_net, m_lin, m_tap, m_her, m_cmd, v_ms, v_mw, v_mv, v_mp, v_mf, v_ml, v_mt, v_mc, hI⟩, htl⟩, hN⟩
set_option maxHeartbeats 4000000 in
set_option maxRecDepth 100000 in
theorem sp_t_would : Sp_t_would I9 := by
  intro f_net u_det t_len t_cur t_kin t_tol t_don n_len h_old h_siz x_sav x_err x_rea x_det x_com v_gw v_gk v_bw v_bk v_vw v_vk v_h0w v_h0k v_h1w v_h1k v_h2w v_h2k v_h3w v_h3k v_h4w v_h4k v_h5w v_h5k v_rs v_rl v_ro v_ti v_tn v_ns hJ
  obtain ⟨⟨⟨m_chg, m_thr, m_rea, m_det, m_ref, m_err, m_ans, m_sav, m_net, m_lin, m_tap, m_her, m_cmd, v_ms, v_mw, v_mv, v_mp, v_mf, v_ml, v_mt, v_mc, hI⟩, htl⟩, hN⟩ := id hJ
  obtain ⟨n, t, b, hV, hX⟩ := id hI.2.1
  have hn := hV.1.2.2.2.1
  have h10 := hV.1.1
  obtain ⟨k, k1, k2, k3⟩ := id hN
  have nk : n = k := (nI_eq (by omega) (by omega)).mp (hn.symm.trans k3)
  have hd2 := dw_n hn h10 (w := 0) (by omega)
  obtain ⟨e, he, ee⟩ := end_v (w := 0) (F := 3) (gk := v_gk) hV (way := 1) (by omega)
  have er : fX7_would_n f_net v_gw v_gk 0 1 3 = some (nI e, (goF v_gw n t 0 1 3 b).2) := by
    rw [fX7_would_n, show fX7_demandWhale_n v_gk 0 = some () from hd2, Option.bind_some, show fX7_demandStrike_n 1 3 = some () from rfl, Option.bind_some, show fX0_endByCells f_net v_gw v_gk 0 1 3 = _ from endC hV (w := 0) (way := 1) (F := 3) (by omega) (by omega) (by omega) f_net, ee, Option.bind_some]
  exact ⟨_, er, BDL_of (BD_nI (by omega)), ⟨⟨m_chg, m_thr, m_rea, m_det, m_ref, m_err, m_ans, m_sav, m_net, m_lin, m_tap, m_her, m_cmd, v_ms, v_mw, v_mv, v_mp, v_mf, v_ml, v_mt, v_mc, hI⟩, htl⟩, hN⟩
theorem sp_all : SpAll I9 := ⟨sp_isWell, sp_seen, sp_acts, sp_acc12, sp_save, sp_t_best, sp_t_ranked, sp_t_calf, sp_t_row, sp_t_tell, sp_t_turnsIn, sp_t_reach, sp_t_would, sp_t_drift, sp_t_swim, sp_t_sing, sp_t_swap, sp_t_whale, sp_restore⟩
