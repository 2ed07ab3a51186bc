/-! what is owed of the numbers, proved -/
def I9 (f_net : Int32) (u_det : Int32) (t_len : Int32) (t_cur : Int32) (t_kin : Int32) (t_tol : Int32) (t_don : Int32) (n_len : Int32) (h_old : Int32) (h_siz : Int32) (x_sav : Int32) (x_err : Int32) (x_rea : Int32) (x_det : Int32) (x_com : Int32) (v_gw : Nat → Int32) (v_gk : Nat → Int32) (v_bw : Nat → Int32) (v_bk : Nat → Int32) (v_vw : Nat → Int32) (v_vk : Nat → Int32) (v_h0w : Nat → Int32) (v_h0k : Nat → Int32) (v_h1w : Nat → Int32) (v_h1k : Nat → Int32) (v_h2w : Nat → Int32) (v_h2k : Nat → Int32) (v_h3w : Nat → Int32) (v_h3k : Nat → Int32) (v_h4w : Nat → Int32) (v_h4k : Nat → Int32) (v_h5w : Nat → Int32) (v_h5k : Nat → Int32) (v_rs : Nat → Int32) (v_rl : Nat → Int32) (v_ro : Nat → Int32) (v_ti : Nat → Int32) (v_tn : Nat → Int32) (v_ns : Nat → Int32) : Prop := J9x f_net u_det t_len t_cur t_kin t_tol t_don n_len h_old h_siz x_sav x_err x_rea x_det x_com v_gw v_gk v_bw v_bk v_vw v_vk v_h0w v_h0k v_h1w v_h1k v_h2w v_h2k v_h3w v_h3k v_h4w v_h4k v_h5w v_h5k v_rs v_rl v_ro v_ti v_tn v_ns ∧ NGE 2 v_gk
theorem BD_ne {x : Int32} (h : BD x) : ¬ x = -900009 := by
  intro e
  rw [e] at h
  exact absurd h.1 (by decide)
set_option maxHeartbeats 4000000 in
set_option maxRecDepth 100000 in
theorem sp_isWell : Sp_isWell I9 := by
  intro f_net u_det t_len t_cur t_kin t_tol t_don n_len h_old h_siz x_sav x_err x_rea x_det x_com v_gw v_gk v_bw v_bk v_vw v_vk v_h0w v_h0k v_h1w v_h1k v_h2w v_h2k v_h3w v_h3k v_h4w v_h4k v_h5w v_h5k v_rs v_rl v_ro v_ti v_tn v_ns hJ
  obtain ⟨⟨⟨m_chg, m_thr, m_rea, m_det, m_ref, m_err, m_ans, m_sav, m_net, m_lin, m_tap, m_her, m_cmd, v_ms, v_mw, v_mv, v_mp, v_mf, v_ml, v_mt, v_mc, hI⟩, htl⟩, hN⟩ := id hJ
  obtain ⟨n, t, b, hV, hX⟩ := id hI.2.1
  have hn := hV.1.2.2.2.1
  have h10 := hV.1.1
  obtain ⟨r, r1, r2⟩ := well_n t_len h_siz hI.1 hV hX f_net v_rs v_rl v_ro
  exact ⟨r, r1, r2, hJ⟩
set_option maxHeartbeats 4000000 in
set_option maxRecDepth 100000 in
theorem sp_seen : Sp_seen I9 := by
  intro f_net u_det t_len t_cur t_kin t_tol t_don n_len h_old h_siz x_sav x_err x_rea x_det x_com v_gw v_gk v_bw v_bk v_vw v_vk v_h0w v_h0k v_h1w v_h1k v_h2w v_h2k v_h3w v_h3k v_h4w v_h4k v_h5w v_h5k v_rs v_rl v_ro v_ti v_tn v_ns hJ
  obtain ⟨⟨⟨m_chg, m_thr, m_rea, m_det, m_ref, m_err, m_ans, m_sav, m_net, m_lin, m_tap, m_her, m_cmd, v_ms, v_mw, v_mv, v_mp, v_mf, v_ml, v_mt, v_mc, hI⟩, htl⟩, hN⟩ := id hJ
  obtain ⟨n, t, b, hV, hX⟩ := id hI.2.1
  have hn := hV.1.2.2.2.1
  have h10 := hV.1.1
  exact seen_n t_len h_siz hV
set_option maxHeartbeats 4000000 in
set_option maxRecDepth 100000 in
theorem sp_acc12 : Sp_acc12 I9 := by
  intro f_net u_det t_len t_cur t_kin t_tol t_don n_len h_old h_siz x_sav x_err x_rea x_det x_com v_gw v_gk v_bw v_bk v_vw v_vk v_h0w v_h0k v_h1w v_h1k v_h2w v_h2k v_h3w v_h3k v_h4w v_h4k v_h5w v_h5k v_rs v_rl v_ro v_ti v_tn v_ns hJ
  obtain ⟨⟨⟨m_chg, m_thr, m_rea, m_det, m_ref, m_err, m_ans, m_sav, m_net, m_lin, m_tap, m_her, m_cmd, v_ms, v_mw, v_mv, v_mp, v_mf, v_ml, v_mt, v_mc, hI⟩, htl⟩, hN⟩ := id hJ
  obtain ⟨n, t, b, hV, hX⟩ := id hI.2.1
  have hn := hV.1.2.2.2.1
  have h10 := hV.1.1
  rw [ac12, htl]
set_option maxHeartbeats 4000000 in
set_option maxRecDepth 100000 in
theorem sp_acts : Sp_acts I9 := by
  intro f_net u_det t_len t_cur t_kin t_tol t_don n_len h_old h_siz x_sav x_err x_rea x_det x_com v_gw v_gk v_bw v_bk v_vw v_vk v_h0w v_h0k v_h1w v_h1k v_h2w v_h2k v_h3w v_h3k v_h4w v_h4k v_h5w v_h5k v_rs v_rl v_ro v_ti v_tn v_ns hJ a0 b0 c0 d0 a9 b45 c7 d24
  obtain ⟨⟨⟨m_chg, m_thr, m_rea, m_det, m_ref, m_err, m_ans, m_sav, m_net, m_lin, m_tap, m_her, m_cmd, v_ms, v_mw, v_mv, v_mp, v_mf, v_ml, v_mt, v_mc, hI⟩, htl⟩, hN⟩ := id hJ
  obtain ⟨n, t, b, hV, hX⟩ := id hI.2.1
  have hn := hV.1.2.2.2.1
  have h10 := hV.1.1
  obtain ⟨r, r1, hJ2, hO⟩ := da_all f_net u_det t_len t_cur t_kin t_tol t_don n_len h_old h_siz x_sav x_err x_rea x_det x_com v_gw v_gk v_bw v_bk v_vw v_vk v_h0w v_h0k v_h1w v_h1k v_h2w v_h2k v_h3w v_h3k v_h4w v_h4k v_h5w v_h5k v_rs v_rl v_ro v_ti v_tn v_ns hJ.1 a0 b0 c0 d0 a9 b45 c7 d24
  rcases hO with ⟨o1, o2, o3, o4⟩ | ⟨b1, n1, u1⟩
  · exact ⟨r, r1, ⟨hJ2, o4 2 hN⟩, o2, fun _ => o3, fun h => absurd h o1⟩
  · refine ⟨r, r1, ⟨hJ2, n1 2 hN⟩, BD_ne b1, fun h => absurd (BD_gt b1) h, fun _ => ?_⟩
    obtain ⟨v, gw2, gk2, e1, e2, e3, e4⟩ := u1
    obtain ⟨⟨m_chg', m_thr', m_rea', m_det', m_ref', m_err', m_ans', m_sav', m_net', m_lin', m_tap', m_her', m_cmd', v_ms', v_mw', v_mv', v_mp', v_mf', v_ml', v_mt', v_mc', hI2⟩, ht2⟩ := hJ2
    obtain ⟨q, qr, hq, hqr, _, _, _, hI3⟩ := sx_undo r.2.1 r.2.2.1 r.2.2.2.1 r.2.2.2.2.1 r.2.2.2.2.2.1 r.2.2.2.2.2.2.1 r.2.2.2.2.2.2.2.1 n_len r.2.2.2.2.2.2.2.2.1 r.2.2.2.2.2.2.2.2.2.1 x_sav r.2.2.2.2.2.2.2.2.2.2.1 r.2.2.2.2.2.2.2.2.2.2.2.1 r.2.2.2.2.2.2.2.2.2.2.2.2.1 r.2.2.2.2.2.2.2.2.2.2.2.2.2.1 r.2.2.2.2.2.2.2.2.2.2.2.2.2.2.1 r.2.2.2.2.2.2.2.2.2.2.2.2.2.2.2.1 r.2.2.2.2.2.2.2.2.2.2.2.2.2.2.2.2.1 r.2.2.2.2.2.2.2.2.2.2.2.2.2.2.2.2.2.1 v_vw v_vk r.2.2.2.2.2.2.2.2.2.2.2.2.2.2.2.2.2.2.1 r.2.2.2.2.2.2.2.2.2.2.2.2.2.2.2.2.2.2.2.1 r.2.2.2.2.2.2.2.2.2.2.2.2.2.2.2.2.2.2.2.2.1 r.2.2.2.2.2.2.2.2.2.2.2.2.2.2.2.2.2.2.2.2.2.1 r.2.2.2.2.2.2.2.2.2.2.2.2.2.2.2.2.2.2.2.2.2.2.1 r.2.2.2.2.2.2.2.2.2.2.2.2.2.2.2.2.2.2.2.2.2.2.2.1 r.2.2.2.2.2.2.2.2.2.2.2.2.2.2.2.2.2.2.2.2.2.2.2.2.1 r.2.2.2.2.2.2.2.2.2.2.2.2.2.2.2.2.2.2.2.2.2.2.2.2.2.1 r.2.2.2.2.2.2.2.2.2.2.2.2.2.2.2.2.2.2.2.2.2.2.2.2.2.2.1 r.2.2.2.2.2.2.2.2.2.2.2.2.2.2.2.2.2.2.2.2.2.2.2.2.2.2.2.1 r.2.2.2.2.2.2.2.2.2.2.2.2.2.2.2.2.2.2.2.2.2.2.2.2.2.2.2.2.1 r.2.2.2.2.2.2.2.2.2.2.2.2.2.2.2.2.2.2.2.2.2.2.2.2.2.2.2.2.2.1 r.2.2.2.2.2.2.2.2.2.2.2.2.2.2.2.2.2.2.2.2.2.2.2.2.2.2.2.2.2.2.1 v_rl r.2.2.2.2.2.2.2.2.2.2.2.2.2.2.2.2.2.2.2.2.2.2.2.2.2.2.2.2.2.2.2.1 r.2.2.2.2.2.2.2.2.2.2.2.2.2.2.2.2.2.2.2.2.2.2.2.2.2.2.2.2.2.2.2.2.1 r.2.2.2.2.2.2.2.2.2.2.2.2.2.2.2.2.2.2.2.2.2.2.2.2.2.2.2.2.2.2.2.2.2 v_ns m_chg' m_thr' m_rea' m_det' m_ref' m_err' m_ans' m_sav' m_net' m_lin' m_tap' m_her' m_cmd' v_ms' v_mw' v_mv' v_mp' v_mf' v_ml' v_mt' v_mc' hI2
    have eq := Option.some.inj (hq.symm.trans e1)
    subst eq
    have hJ3 : ∃ (m_chg : Int32) (m_thr : Int32) (m_rea : Int32) (m_det : Int32) (m_ref : Int32) (m_err : Int32) (m_ans : Int32) (m_sav : Int32) (m_net : Int32) (m_lin : Int32) (m_tap : Int32) (m_her : Int32) (m_cmd : Int32) (v_ms : Nat → Int32) (v_mw : Nat → Int32) (v_mv : Nat → Int32) (v_mp : Nat → Int32) (v_mf : Nat → Int32) (v_ml : Nat → Int32) (v_mt : Nat → Int32) (v_mc : Nat → Int32), Inv r.2.1 r.2.2.1 r.2.2.2.1 r.2.2.2.2.1 r.2.2.2.2.2.1 r.2.2.2.2.2.2.1 r.2.2.2.2.2.2.2.1 n_len r.2.2.2.2.2.2.2.2.1 v x_sav r.2.2.2.2.2.2.2.2.2.2.1 r.2.2.2.2.2.2.2.2.2.2.2.1 r.2.2.2.2.2.2.2.2.2.2.2.2.1 r.2.2.2.2.2.2.2.2.2.2.2.2.2.1 gw2 gk2 r.2.2.2.2.2.2.2.2.2.2.2.2.2.2.2.2.1 r.2.2.2.2.2.2.2.2.2.2.2.2.2.2.2.2.2.1 v_vw v_vk r.2.2.2.2.2.2.2.2.2.2.2.2.2.2.2.2.2.2.1 r.2.2.2.2.2.2.2.2.2.2.2.2.2.2.2.2.2.2.2.1 r.2.2.2.2.2.2.2.2.2.2.2.2.2.2.2.2.2.2.2.2.1 r.2.2.2.2.2.2.2.2.2.2.2.2.2.2.2.2.2.2.2.2.2.1 r.2.2.2.2.2.2.2.2.2.2.2.2.2.2.2.2.2.2.2.2.2.2.1 r.2.2.2.2.2.2.2.2.2.2.2.2.2.2.2.2.2.2.2.2.2.2.2.1 r.2.2.2.2.2.2.2.2.2.2.2.2.2.2.2.2.2.2.2.2.2.2.2.2.1 r.2.2.2.2.2.2.2.2.2.2.2.2.2.2.2.2.2.2.2.2.2.2.2.2.2.1 r.2.2.2.2.2.2.2.2.2.2.2.2.2.2.2.2.2.2.2.2.2.2.2.2.2.2.1 r.2.2.2.2.2.2.2.2.2.2.2.2.2.2.2.2.2.2.2.2.2.2.2.2.2.2.2.1 r.2.2.2.2.2.2.2.2.2.2.2.2.2.2.2.2.2.2.2.2.2.2.2.2.2.2.2.2.1 r.2.2.2.2.2.2.2.2.2.2.2.2.2.2.2.2.2.2.2.2.2.2.2.2.2.2.2.2.2.1 r.2.2.2.2.2.2.2.2.2.2.2.2.2.2.2.2.2.2.2.2.2.2.2.2.2.2.2.2.2.2.1 v_rl r.2.2.2.2.2.2.2.2.2.2.2.2.2.2.2.2.2.2.2.2.2.2.2.2.2.2.2.2.2.2.2.1 r.2.2.2.2.2.2.2.2.2.2.2.2.2.2.2.2.2.2.2.2.2.2.2.2.2.2.2.2.2.2.2.2.1 r.2.2.2.2.2.2.2.2.2.2.2.2.2.2.2.2.2.2.2.2.2.2.2.2.2.2.2.2.2.2.2.2.2 v_ns m_chg m_thr m_rea m_det m_ref m_err m_ans m_sav m_net m_lin m_tap m_her m_cmd v_ms v_mw v_mv v_mp v_mf v_ml v_mt v_mc := ⟨_, _, _, _, _, _, _, _, _, _, _, _, _, _, _, _, _, _, _, _, _, hI3⟩
    obtain ⟨w0, w1, w2, w3, w4, w5, w6, w7, w8, w9, w10, w11, w12, w13, w14, w15, w16, w17, w18, w19, w20, hI3⟩ := hJ3
    have eu : fL_undo r.2.2.2.2.2.2.2.2.1 r.2.2.2.2.2.2.2.2.2.1 r.2.2.2.2.2.2.2.2.2.2.2.2.2.2.1 r.2.2.2.2.2.2.2.2.2.2.2.2.2.2.2.1 r.2.2.2.2.2.2.2.2.2.2.2.2.2.2.2.2.2.2.1 r.2.2.2.2.2.2.2.2.2.2.2.2.2.2.2.2.2.2.2.1 r.2.2.2.2.2.2.2.2.2.2.2.2.2.2.2.2.2.2.2.2.1 r.2.2.2.2.2.2.2.2.2.2.2.2.2.2.2.2.2.2.2.2.2.1 r.2.2.2.2.2.2.2.2.2.2.2.2.2.2.2.2.2.2.2.2.2.2.1 r.2.2.2.2.2.2.2.2.2.2.2.2.2.2.2.2.2.2.2.2.2.2.2.1 r.2.2.2.2.2.2.2.2.2.2.2.2.2.2.2.2.2.2.2.2.2.2.2.2.1 r.2.2.2.2.2.2.2.2.2.2.2.2.2.2.2.2.2.2.2.2.2.2.2.2.2.1 r.2.2.2.2.2.2.2.2.2.2.2.2.2.2.2.2.2.2.2.2.2.2.2.2.2.2.1 r.2.2.2.2.2.2.2.2.2.2.2.2.2.2.2.2.2.2.2.2.2.2.2.2.2.2.2.1 r.2.2.2.2.2.2.2.2.2.2.2.2.2.2.2.2.2.2.2.2.2.2.2.2.2.2.2.2.1 r.2.2.2.2.2.2.2.2.2.2.2.2.2.2.2.2.2.2.2.2.2.2.2.2.2.2.2.2.2.1 = (fX7_undo r.2.2.2.2.2.2.2.2.1 r.2.2.2.2.2.2.2.2.2.1 r.2.2.2.2.2.2.2.2.2.2.2.2.2.2.1 r.2.2.2.2.2.2.2.2.2.2.2.2.2.2.2.1 r.2.2.2.2.2.2.2.2.2.2.2.2.2.2.2.2.2.2.1 r.2.2.2.2.2.2.2.2.2.2.2.2.2.2.2.2.2.2.2.1 r.2.2.2.2.2.2.2.2.2.2.2.2.2.2.2.2.2.2.2.2.1 r.2.2.2.2.2.2.2.2.2.2.2.2.2.2.2.2.2.2.2.2.2.1 r.2.2.2.2.2.2.2.2.2.2.2.2.2.2.2.2.2.2.2.2.2.2.1 r.2.2.2.2.2.2.2.2.2.2.2.2.2.2.2.2.2.2.2.2.2.2.2.1 r.2.2.2.2.2.2.2.2.2.2.2.2.2.2.2.2.2.2.2.2.2.2.2.2.1 r.2.2.2.2.2.2.2.2.2.2.2.2.2.2.2.2.2.2.2.2.2.2.2.2.2.1 r.2.2.2.2.2.2.2.2.2.2.2.2.2.2.2.2.2.2.2.2.2.2.2.2.2.2.1 r.2.2.2.2.2.2.2.2.2.2.2.2.2.2.2.2.2.2.2.2.2.2.2.2.2.2.2.1 r.2.2.2.2.2.2.2.2.2.2.2.2.2.2.2.2.2.2.2.2.2.2.2.2.2.2.2.2.1 r.2.2.2.2.2.2.2.2.2.2.2.2.2.2.2.2.2.2.2.2.2.2.2.2.2.2.2.2.2.1).bind _ := rfl
    rw [e1, Option.bind_some, if_pos (show (0 : Nat) = 0 ∨ (0 : Nat) = 4 from Or.inl rfl)] at eu
    exact ⟨_, eu, e2, SQ_congr hn h10 e3 e4, fun yf ys yl yo => ⟨⟨⟨w0, w1, w2, w3, w4, w5, w6, w7, w8, w9, w10, w11, w12, w13, w14, w15, w16, w17, w18, w19, w20, hI3⟩, ht2⟩, by
      obtain ⟨k, k1, k2, k3⟩ := hN
      exact ⟨k, k1, k2, (e4 0 (by omega)).trans k3⟩⟩⟩
set_option maxHeartbeats 4000000 in
set_option maxRecDepth 100000 in
theorem sp_save : Sp_save I9 := by
  intro f_net u_det t_len t_cur t_kin t_tol t_don n_len h_old h_siz x_sav x_err x_rea x_det x_com v_gw v_gk v_bw v_bk v_vw v_vk v_h0w v_h0k v_h1w v_h1k v_h2w v_h2k v_h3w v_h3k v_h4w v_h4k v_h5w v_h5k v_rs v_rl v_ro v_ti v_tn v_ns hJ
  obtain ⟨⟨⟨m_chg, m_thr, m_rea, m_det, m_ref, m_err, m_ans, m_sav, m_net, m_lin, m_tap, m_her, m_cmd, v_ms, v_mw, v_mv, v_mp, v_mf, v_ml, v_mt, v_mc, hI⟩, htl⟩, hN⟩ := id hJ
  obtain ⟨n, t, b, hV, hX⟩ := id hI.2.1
  have hn := hV.1.2.2.2.1
  have h10 := hV.1.1
  obtain ⟨q, qr, hq, hqr, _, hI3⟩ := sx_save f_net u_det t_len t_cur t_kin t_tol t_don n_len h_old h_siz x_sav x_err x_rea x_det x_com v_gw v_gk v_bw v_bk v_vw v_vk v_h0w v_h0k v_h1w v_h1k v_h2w v_h2k v_h3w v_h3k v_h4w v_h4k v_h5w v_h5k v_rs v_rl v_ro v_ti v_tn v_ns m_chg m_thr m_rea m_det m_ref m_err m_ans m_sav m_net m_lin m_tap m_her m_cmd v_ms v_mw v_mv v_mp v_mf v_ml v_mt v_mc hI
  have eq := Option.some.inj (hq.symm.trans (show fX7_save x_sav v_gw v_gk v_vw v_vk = some (v_gk 1, 1, va_cpy v_gw v_vw 0 0 90, va_cpy v_gk v_vk 0 0 18) from rfl))
  subst eq
  exact ⟨_, hq, ⟨⟨⟨_, _, _, _, _, _, _, _, _, _, _, _, _, _, _, _, _, _, _, _, _, hI3⟩, htl⟩, hN⟩, rfl, SQ_congr hn h10 (fun j h => cpy_at h) (fun j h => cpy_at h), rfl⟩
set_option maxHeartbeats 4000000 in
set_option maxRecDepth 100000 in
theorem sp_restore : Sp_restore I9 := by
  intro f_net u_det t_len t_cur t_kin t_tol t_don n_len h_old h_siz x_sav x_err x_rea x_det x_com v_gw v_gk v_bw v_bk v_vw v_vk v_h0w v_h0k v_h1w v_h1k v_h2w v_h2k v_h3w v_h3k v_h4w v_h4k v_h5w v_h5k v_rs v_rl v_ro v_ti v_tn v_ns hJ hs
  obtain ⟨⟨⟨m_chg, m_thr, m_rea, m_det, m_ref, m_err, m_ans, m_sav, m_net, m_lin, m_tap, m_her, m_cmd, v_ms, v_mw, v_mv, v_mp, v_mf, v_ml, v_mt, v_mc, hI⟩, htl⟩, hN⟩ := id hJ
  obtain ⟨n, t, b, hV, hX⟩ := id hI.2.1
  have hn := hV.1.2.2.2.1
  have h10 := hV.1.1
  have hG : Gd v_vw v_vk := by
    rcases hI.2.2.1 with ⟨s1, _⟩ | ⟨_, _, _, s4⟩
    · rw [hs] at s1; exact absurd s1 n10
    · exact s4
  obtain ⟨n2, t2, b2, hV2, hX2⟩ := Gd_congr hG (gw' := va_cpy v_vw v_gw 0 0 90) (gk' := va_cpy v_vk v_gk 0 0 18) (fun j h => cpy_at h) (fun j h => cpy_at h)
  obtain ⟨n3, t3, b3, hV3, hX3⟩ := hG
  have e7 : fX7_restore h_siz x_sav v_gw v_gk v_vw v_vk = some (0, v_vk 1, 0, va_cpy v_vw v_gw 0 0 90, va_cpy v_vk v_gk 0 0 18) := by
    rw [fX7_restore, hs, if_neg n10]; rfl
  have er : fL_restore h_siz x_sav v_gw v_gk v_vw v_vk = (fX7_restore h_siz x_sav v_gw v_gk v_vw v_vk).bind _ := rfl
  rw [e7, Option.bind_some, if_pos (show (0 : Nat) = 0 ∨ (0 : Nat) = 6 from Or.inl rfl)] at er
  exact ⟨_, er, rfl, SQ_congr hV3.1.2.2.2.1 hV3.1.1 (fun j h => cpy_at h) (fun j h => cpy_at h), rfl, seen_n _ _ hV2⟩
set_option maxHeartbeats 4000000 in
set_option maxRecDepth 100000 in
theorem sp_t_drift : Sp_t_drift I9 := by
  intro f_net u_det t_len t_cur t_kin t_tol t_don n_len h_old h_siz x_sav x_err x_rea x_det x_com v_gw v_gk v_bw v_bk v_vw v_vk v_h0w v_h0k v_h1w v_h1k v_h2w v_h2k v_h3w v_h3k v_h4w v_h4k v_h5w v_h5k v_rs v_rl v_ro v_ti v_tn v_ns hJ
  obtain ⟨⟨⟨m_chg, m_thr, m_rea, m_det, m_ref, m_err, m_ans, m_sav, m_net, m_lin, m_tap, m_her, m_cmd, v_ms, v_mw, v_mv, v_mp, v_mf, v_ml, v_mt, v_mc, hI⟩, htl⟩, hN⟩ := id hJ
  obtain ⟨n, t, b, hV, hX⟩ := id hI.2.1
  have hn := hV.1.2.2.2.1
  have h10 := hV.1.1
  obtain ⟨r, r1, hJ2, hO⟩ := do_drift f_net u_det t_len t_cur t_kin t_tol t_don n_len h_old h_siz x_sav x_err x_rea x_det x_com v_gw v_gk v_bw v_bk v_vw v_vk v_h0w v_h0k v_h1w v_h1k v_h2w v_h2k v_h3w v_h3k v_h4w v_h4k v_h5w v_h5k v_rs v_rl v_ro v_ti v_tn v_ns hJ.1 trivial
  rcases hO with ⟨_, _, o2, _, o4⟩ | ⟨b1, n1, _⟩
  · exact ⟨r, r1, o2, hJ2, o4.symm ▸ hN⟩
  · exact ⟨r, r1, BDL_of b1, hJ2, n1 2 hN⟩
set_option maxHeartbeats 4000000 in
set_option maxRecDepth 100000 in
theorem sp_t_swim : Sp_t_swim I9 := by
  intro f_net u_det t_len t_cur t_kin t_tol t_don n_len h_old h_siz x_sav x_err x_rea x_det x_com v_gw v_gk v_bw v_bk v_vw v_vk v_h0w v_h0k v_h1w v_h1k v_h2w v_h2k v_h3w v_h3k v_h4w v_h4k v_h5w v_h5k v_rs v_rl v_ro v_ti v_tn v_ns hJ
  obtain ⟨⟨⟨m_chg, m_thr, m_rea, m_det, m_ref, m_err, m_ans, m_sav, m_net, m_lin, m_tap, m_her, m_cmd, v_ms, v_mw, v_mv, v_mp, v_mf, v_ml, v_mt, v_mc, hI⟩, htl⟩, hN⟩ := id hJ
  obtain ⟨n, t, b, hV, hX⟩ := id hI.2.1
  have hn := hV.1.2.2.2.1
  have h10 := hV.1.1
  obtain ⟨r, r1, hJ2, hO⟩ := do_swim f_net u_det t_len t_cur t_kin t_tol t_don n_len h_old h_siz x_sav x_err x_rea x_det x_com v_gw v_gk v_bw v_bk v_vw v_vk v_h0w v_h0k v_h1w v_h1k v_h2w v_h2k v_h3w v_h3k v_h4w v_h4k v_h5w v_h5k v_rs v_rl v_ro v_ti v_tn v_ns hJ.1 0 23 trivial
  rcases hO with ⟨_, _, o2, _, o4⟩ | ⟨b1, n1, _⟩
  · exact ⟨r, r1, o2, hJ2, o4.symm ▸ hN⟩
  · exact ⟨r, r1, BDL_of b1, hJ2, n1 2 hN⟩
set_option maxHeartbeats 4000000 in
set_option maxRecDepth 100000 in
theorem sp_t_sing : Sp_t_sing I9 := by
  intro f_net u_det t_len t_cur t_kin t_tol t_don n_len h_old h_siz x_sav x_err x_rea x_det x_com v_gw v_gk v_bw v_bk v_vw v_vk v_h0w v_h0k v_h1w v_h1k v_h2w v_h2k v_h3w v_h3k v_h4w v_h4k v_h5w v_h5k v_rs v_rl v_ro v_ti v_tn v_ns hJ
  obtain ⟨⟨⟨m_chg, m_thr, m_rea, m_det, m_ref, m_err, m_ans, m_sav, m_net, m_lin, m_tap, m_her, m_cmd, v_ms, v_mw, v_mv, v_mp, v_mf, v_ml, v_mt, v_mc, hI⟩, htl⟩, hN⟩ := id hJ
  obtain ⟨n, t, b, hV, hX⟩ := id hI.2.1
  have hn := hV.1.2.2.2.1
  have h10 := hV.1.1
  obtain ⟨r, r1, hJ2, hO⟩ := do_sing f_net u_det t_len t_cur t_kin t_tol t_don n_len h_old h_siz x_sav x_err x_rea x_det x_com v_gw v_gk v_bw v_bk v_vw v_vk v_h0w v_h0k v_h1w v_h1k v_h2w v_h2k v_h3w v_h3k v_h4w v_h4k v_h5w v_h5k v_rs v_rl v_ro v_ti v_tn v_ns hJ.1 1 trivial
  rcases hO with ⟨_, _, o2, _, o4⟩ | ⟨b1, n1, _⟩
  · exact ⟨r, r1, o2, hJ2, o4.symm ▸ hN⟩
  · exact ⟨r, r1, BDL_of b1, hJ2, n1 2 hN⟩
set_option maxHeartbeats 4000000 in
set_option maxRecDepth 100000 in
theorem sp_t_swap : Sp_t_swap I9 := by
  intro f_net u_det t_len t_cur t_kin t_tol t_don n_len h_old h_siz x_sav x_err x_rea x_det x_com v_gw v_gk v_bw v_bk v_vw v_vk v_h0w v_h0k v_h1w v_h1k v_h2w v_h2k v_h3w v_h3k v_h4w v_h4k v_h5w v_h5k v_rs v_rl v_ro v_ti v_tn v_ns hJ
  obtain ⟨⟨⟨m_chg, m_thr, m_rea, m_det, m_ref, m_err, m_ans, m_sav, m_net, m_lin, m_tap, m_her, m_cmd, v_ms, v_mw, v_mv, v_mp, v_mf, v_ml, v_mt, v_mc, hI⟩, htl⟩, hN⟩ := id hJ
  obtain ⟨n, t, b, hV, hX⟩ := id hI.2.1
  have hn := hV.1.2.2.2.1
  have h10 := hV.1.1
  obtain ⟨r, r1, hJ2, hO⟩ := do_swap f_net u_det t_len t_cur t_kin t_tol t_don n_len h_old h_siz x_sav x_err x_rea x_det x_com v_gw v_gk v_bw v_bk v_vw v_vk v_h0w v_h0k v_h1w v_h1k v_h2w v_h2k v_h3w v_h3k v_h4w v_h4k v_h5w v_h5k v_rs v_rl v_ro v_ti v_tn v_ns hJ.1 0 6 trivial
  rcases hO with ⟨_, _, o2, _, o4⟩ | ⟨b1, n1, _⟩
  · exact ⟨r, r1, o2, hJ2, o4.symm ▸ hN⟩
  · exact ⟨r, r1, BDL_of b1, hJ2, n1 2 hN⟩
set_option maxHeartbeats 4000000 in
set_option maxRecDepth 100000 in
theorem sp_t_whale : Sp_t_whale I9 := by
  intro f_net u_det t_len t_cur t_kin t_tol t_don n_len h_old h_siz x_sav x_err x_rea x_det x_com v_gw v_gk v_bw v_bk v_vw v_vk v_h0w v_h0k v_h1w v_h1k v_h2w v_h2k v_h3w v_h3k v_h4w v_h4k v_h5w v_h5k v_rs v_rl v_ro v_ti v_tn v_ns hJ
  obtain ⟨⟨⟨m_chg, m_thr, m_rea, m_det, m_ref, m_err, m_ans, m_sav, m_net, m_lin, m_tap, m_her, m_cmd, v_ms, v_mw, v_mv, v_mp, v_mf, v_ml, v_mt, v_mc, hI⟩, htl⟩, hN⟩ := id hJ
  obtain ⟨n, t, b, hV, hX⟩ := id hI.2.1
  have hn := hV.1.2.2.2.1
  have h10 := hV.1.1
  obtain ⟨r, r1, hJ2, hO⟩ := do_whale f_net u_det t_len t_cur t_kin t_tol t_don n_len h_old h_siz x_sav x_err x_rea x_det x_com v_gw v_gk v_bw v_bk v_vw v_vk v_h0w v_h0k v_h1w v_h1k v_h2w v_h2k v_h3w v_h3k v_h4w v_h4k v_h5w v_h5k v_rs v_rl v_ro v_ti v_tn v_ns hJ.1 0 2 2 trivial
  rcases hO with ⟨_, _, o2, _, o4⟩ | ⟨b1, n1, _⟩
  · exact ⟨r, r1, o2, hJ2, o4.symm ▸ hN⟩
  · exact ⟨r, r1, BDL_of b1, hJ2, n1 2 hN⟩
