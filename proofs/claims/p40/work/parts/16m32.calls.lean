/-! the calls whale, swap, sing, drift -/
theorem sx_whale : St_whale Inv := by
  intro f_net u_det t_len t_cur t_kin t_tol t_don n_len h_old h_siz x_sav x_err x_rea x_det x_com v_gw v_gk v_bw v_bk v_vw v_vk v_h0w v_h0k v_h1w v_h1k v_h2w v_h2k v_h3w v_h3k v_h4w v_h4k v_h5w v_h5k v_rs v_rl v_ro v_ti v_tn v_ns m_chg m_thr m_rea m_det m_ref m_err m_ans m_sav m_net m_lin m_tap m_her m_cmd v_ms v_mw v_mv v_mp v_mf v_ml v_mt v_mc hI p0 p1 p2
  obtain ⟨n, t, b, hV, hX⟩ := id hI.2.1
  obtain ⟨o, z, g1, g2, g3, hH⟩ := hI.2.2.2.1
  obtain ⟨e1, e2, e3⟩ := hI.2.2.2.2.2.2.2
  subst g1 g2 g3 e1 e2 e3
  obtain ⟨f, d, hf, hD⟩ := d_come hI.1 hV hX u_det m_rea m_det m_ref p0 p1 p2
  have hw : Rg v_gw v_gk (va_cpy v_ms v_mw 0 0 103) := Rg_congr hI.1 (fun _ _ => rfl) (fun _ _ => rfl) (fun j h => cpy_at h)
  have hk := keeps_e m_thr v_ms v_mw
  rcases hD with ⟨rfl, told, gw', gk', ms', hP, hM, hR', hG'⟩ | ⟨⟨k, k1, k2, rfl⟩, hM⟩ | ⟨hc1, rfl, hM⟩ | ⟨hc2, rfl, hM⟩
  · obtain ⟨o', z', a0w, a0k, a1w, a1k, a2w, a2k, a3w, a3k, a4w, a4k, a5w, a5k, mp', h1, h2, h3⟩ := hist_e (gw := v_gw) (gk := v_gk) (mw := va_cpy v_ms v_mw 0 0 103) hH hw hI.2.1
    refine ⟨(0, told, d, nI o', nI z', m_rea, m_det, m_ref, gw', gk', a0w, a0k, a1w, a1k, a2w, a2k, a3w, a3k, a4w, a4k, a5w, a5k), (told, nI z', 0, m_rea, m_det, m_ref, ms', va_cpy v_ms v_mw 0 0 103, mp'), ?_, ?_, Or.inl rfl, rfl, fun _ => rfl, hR', Gm.gd hG'.1, hI.2.2.1, ⟨o', z', rfl, rfl, rfl, h3⟩, hI.2.2.2.2⟩
    · simp only [fX7_whale, hf, Option.bind_some, dr0, da0, if_true, h1, hP]
    · simp only [fX8_whale, hk, Option.bind_some, hM, ends0 h2]
  · obtain ⟨q1, q2, q3⟩ := dk k1 k2
    refine ⟨(2, 0, d, nI o, nI z, nI k, d, -1, v_gw, v_gk, v_h0w, v_h0k, v_h1w, v_h1k, v_h2w, v_h2k, v_h3w, v_h3k, v_h4w, v_h4k, v_h5w, v_h5k), (0, nI z, 2, nI k, d, -1, v_ms, va_cpy v_ms v_mw 0 0 103, v_mp), ?_, ?_, Or.inr (Or.inr rfl), rfl, fun h => absurd h (show ¬ (2 : Nat) = 0 by decide), hI.1, hI.2.1, hI.2.2.1, ⟨o, z, rfl, rfl, rfl, hH⟩, hI.2.2.2.2.1, hI.2.2.2.2.2.1, hI.2.2.2.2.2.2.1, rfl, rfl, rfl⟩
    · simp only [fX7_whale, hf, Option.bind_some, q1, q2, q3, if_true, show ¬ (2 : Nat) = 0 by decide, if_false]
    · simp only [fX8_whale, hk, Option.bind_some, hM, ends9]
  · exact absurd rfl hc1
  · refine ⟨(1, 0, d, nI o, nI z, m_rea, m_det, m_ref, v_gw, v_gk, v_h0w, v_h0k, v_h1w, v_h1k, v_h2w, v_h2k, v_h3w, v_h3k, v_h4w, v_h4k, v_h5w, v_h5k), (0, nI z, 1, m_rea, m_det, m_ref, v_ms, va_cpy v_ms v_mw 0 0 103, v_mp), ?_, ?_, Or.inr (Or.inl rfl), rfl, fun h => absurd h (show ¬ (1 : Nat) = 0 by decide), hI⟩
    · simp only [fX7_whale, hf, Option.bind_some, drm2, if_true, show ¬ (1 : Nat) = 0 by decide, if_false]
    · simp only [fX8_whale, hk, Option.bind_some, hM, ends1]
theorem sx_swap : St_swap Inv := by
  intro f_net u_det t_len t_cur t_kin t_tol t_don n_len h_old h_siz x_sav x_err x_rea x_det x_com v_gw v_gk v_bw v_bk v_vw v_vk v_h0w v_h0k v_h1w v_h1k v_h2w v_h2k v_h3w v_h3k v_h4w v_h4k v_h5w v_h5k v_rs v_rl v_ro v_ti v_tn v_ns m_chg m_thr m_rea m_det m_ref m_err m_ans m_sav m_net m_lin m_tap m_her m_cmd v_ms v_mw v_mv v_mp v_mf v_ml v_mt v_mc hI p0 p1
  obtain ⟨n, t, b, hV, hX⟩ := id hI.2.1
  obtain ⟨o, z, g1, g2, g3, hH⟩ := hI.2.2.2.1
  obtain ⟨e1, e2, e3⟩ := hI.2.2.2.2.2.2.2
  subst g1 g2 g3 e1 e2 e3
  obtain ⟨f, d, hf, hD⟩ := d_swap hI.1 hV hX u_det m_rea m_det m_ref p0 p1
  have hw : Rg v_gw v_gk (va_cpy v_ms v_mw 0 0 103) := Rg_congr hI.1 (fun _ _ => rfl) (fun _ _ => rfl) (fun j h => cpy_at h)
  have hk := keeps_e m_thr v_ms v_mw
  rcases hD with ⟨rfl, told, gw', gk', ms', hP, hM, hR', hG'⟩ | ⟨⟨k, k1, k2, rfl⟩, hM⟩ | ⟨hc1, rfl, hM⟩ | ⟨hc2, rfl, hM⟩
  · obtain ⟨o', z', a0w, a0k, a1w, a1k, a2w, a2k, a3w, a3k, a4w, a4k, a5w, a5k, mp', h1, h2, h3⟩ := hist_e (gw := v_gw) (gk := v_gk) (mw := va_cpy v_ms v_mw 0 0 103) hH hw hI.2.1
    refine ⟨(0, told, d, nI o', nI z', m_rea, m_det, m_ref, gw', gk', a0w, a0k, a1w, a1k, a2w, a2k, a3w, a3k, a4w, a4k, a5w, a5k), (told, nI z', 0, m_rea, m_det, m_ref, ms', va_cpy v_ms v_mw 0 0 103, mp'), ?_, ?_, Or.inl rfl, rfl, fun _ => rfl, hR', Gm.gd hG'.1, hI.2.2.1, ⟨o', z', rfl, rfl, rfl, h3⟩, hI.2.2.2.2⟩
    · simp only [fX7_swap, hf, Option.bind_some, dt0, da0, if_true, h1, hP]
    · simp only [fX8_swap, hk, Option.bind_some, hM, ends0 h2]
  · obtain ⟨q1, q2, q3⟩ := dk k1 k2
    refine ⟨(2, 0, d, nI o, nI z, nI k, d, -1, v_gw, v_gk, v_h0w, v_h0k, v_h1w, v_h1k, v_h2w, v_h2k, v_h3w, v_h3k, v_h4w, v_h4k, v_h5w, v_h5k), (0, nI z, 2, nI k, d, -1, v_ms, va_cpy v_ms v_mw 0 0 103, v_mp), ?_, ?_, Or.inr (Or.inr rfl), rfl, fun h => absurd h (show ¬ (2 : Nat) = 0 by decide), hI.1, hI.2.1, hI.2.2.1, ⟨o, z, rfl, rfl, rfl, hH⟩, hI.2.2.2.2.1, hI.2.2.2.2.2.1, hI.2.2.2.2.2.2.1, rfl, rfl, rfl⟩
    · simp only [fX7_swap, hf, Option.bind_some, q1, q2, q3, if_true, show ¬ (2 : Nat) = 0 by decide, if_false]
    · simp only [fX8_swap, hk, Option.bind_some, hM, ends9]
  · refine ⟨(3, 0, d, nI o, nI z, m_rea, m_det, m_ref, v_gw, v_gk, v_h0w, v_h0k, v_h1w, v_h1k, v_h2w, v_h2k, v_h3w, v_h3k, v_h4w, v_h4k, v_h5w, v_h5k), (0, nI z, 1, m_rea, m_det, m_ref, v_ms, va_cpy v_ms v_mw 0 0 103, v_mp), ?_, ?_, Or.inr (Or.inl rfl), rfl, fun h => absurd h (show ¬ (3 : Nat) = 0 by decide), hI⟩
    · simp only [fX7_swap, hf, Option.bind_some, dtm1, if_true, show ¬ (3 : Nat) = 0 by decide, if_false]
    · simp only [fX8_swap, hk, Option.bind_some, hM, ends1]
  · exact absurd rfl hc2
theorem sx_sing : St_sing Inv := by
  intro f_net u_det t_len t_cur t_kin t_tol t_don n_len h_old h_siz x_sav x_err x_rea x_det x_com v_gw v_gk v_bw v_bk v_vw v_vk v_h0w v_h0k v_h1w v_h1k v_h2w v_h2k v_h3w v_h3k v_h4w v_h4k v_h5w v_h5k v_rs v_rl v_ro v_ti v_tn v_ns m_chg m_thr m_rea m_det m_ref m_err m_ans m_sav m_net m_lin m_tap m_her m_cmd v_ms v_mw v_mv v_mp v_mf v_ml v_mt v_mc hI p0
  obtain ⟨n, t, b, hV, hX⟩ := id hI.2.1
  obtain ⟨o, z, g1, g2, g3, hH⟩ := hI.2.2.2.1
  obtain ⟨e1, e2, e3⟩ := hI.2.2.2.2.2.2.2
  subst g1 g2 g3 e1 e2 e3
  obtain ⟨f, d, hf, hD⟩ := d_sing hI.1 hV hX u_det m_rea m_det m_ref p0
  have hw : Rg v_gw v_gk (va_cpy v_ms v_mw 0 0 103) := Rg_congr hI.1 (fun _ _ => rfl) (fun _ _ => rfl) (fun j h => cpy_at h)
  have hk := keeps_e m_thr v_ms v_mw
  rcases hD with ⟨rfl, told, gw', gk', ms', hP, hM, hR', hG'⟩ | ⟨⟨k, k1, k2, rfl⟩, hM⟩ | ⟨hc1, rfl, hM⟩ | ⟨hc2, rfl, hM⟩
  · obtain ⟨o', z', a0w, a0k, a1w, a1k, a2w, a2k, a3w, a3k, a4w, a4k, a5w, a5k, mp', h1, h2, h3⟩ := hist_e (gw := v_gw) (gk := v_gk) (mw := va_cpy v_ms v_mw 0 0 103) hH hw hI.2.1
    refine ⟨(0, told, d, nI o', nI z', m_rea, m_det, m_ref, gw', gk', a0w, a0k, a1w, a1k, a2w, a2k, a3w, a3k, a4w, a4k, a5w, a5k), (told, nI z', 0, m_rea, m_det, m_ref, ms', va_cpy v_ms v_mw 0 0 103, mp'), ?_, ?_, Or.inl rfl, rfl, fun _ => rfl, hR', Gm.gd hG'.1, hI.2.2.1, ⟨o', z', rfl, rfl, rfl, h3⟩, hI.2.2.2.2⟩
    · simp only [fX7_sing, hf, Option.bind_some, dt0, da0, if_true, h1, hP]
    · simp only [fX8_sing, hk, Option.bind_some, hM, ends0 h2]
  · obtain ⟨q1, q2, q3⟩ := dk k1 k2
    refine ⟨(2, 0, d, nI o, nI z, nI k, d, -1, v_gw, v_gk, v_h0w, v_h0k, v_h1w, v_h1k, v_h2w, v_h2k, v_h3w, v_h3k, v_h4w, v_h4k, v_h5w, v_h5k), (0, nI z, 2, nI k, d, -1, v_ms, va_cpy v_ms v_mw 0 0 103, v_mp), ?_, ?_, Or.inr (Or.inr rfl), rfl, fun h => absurd h (show ¬ (2 : Nat) = 0 by decide), hI.1, hI.2.1, hI.2.2.1, ⟨o, z, rfl, rfl, rfl, hH⟩, hI.2.2.2.2.1, hI.2.2.2.2.2.1, hI.2.2.2.2.2.2.1, rfl, rfl, rfl⟩
    · simp only [fX7_sing, hf, Option.bind_some, q1, q2, q3, if_true, show ¬ (2 : Nat) = 0 by decide, if_false]
    · simp only [fX8_sing, hk, Option.bind_some, hM, ends9]
  · refine ⟨(3, 0, d, nI o, nI z, m_rea, m_det, m_ref, v_gw, v_gk, v_h0w, v_h0k, v_h1w, v_h1k, v_h2w, v_h2k, v_h3w, v_h3k, v_h4w, v_h4k, v_h5w, v_h5k), (0, nI z, 1, m_rea, m_det, m_ref, v_ms, va_cpy v_ms v_mw 0 0 103, v_mp), ?_, ?_, Or.inr (Or.inl rfl), rfl, fun h => absurd h (show ¬ (3 : Nat) = 0 by decide), hI⟩
    · simp only [fX7_sing, hf, Option.bind_some, dtm1, if_true, show ¬ (3 : Nat) = 0 by decide, if_false]
    · simp only [fX8_sing, hk, Option.bind_some, hM, ends1]
  · exact absurd rfl hc2
theorem sx_drift : St_drift Inv := by
  intro f_net u_det t_len t_cur t_kin t_tol t_don n_len h_old h_siz x_sav x_err x_rea x_det x_com v_gw v_gk v_bw v_bk v_vw v_vk v_h0w v_h0k v_h1w v_h1k v_h2w v_h2k v_h3w v_h3k v_h4w v_h4k v_h5w v_h5k v_rs v_rl v_ro v_ti v_tn v_ns m_chg m_thr m_rea m_det m_ref m_err m_ans m_sav m_net m_lin m_tap m_her m_cmd v_ms v_mw v_mv v_mp v_mf v_ml v_mt v_mc hI
  obtain ⟨n, t, b, hV, hX⟩ := id hI.2.1
  obtain ⟨o, z, g1, g2, g3, hH⟩ := hI.2.2.2.1
  obtain ⟨e1, e2, e3⟩ := hI.2.2.2.2.2.2.2
  subst g1 g2 g3 e1 e2 e3
  obtain ⟨f, d, hf, hD⟩ := d_drift hI.1 hV hX u_det m_rea m_det m_ref
  have hw : Rg v_gw v_gk (va_cpy v_ms v_mw 0 0 103) := Rg_congr hI.1 (fun _ _ => rfl) (fun _ _ => rfl) (fun j h => cpy_at h)
  have hk := keeps_e m_thr v_ms v_mw
  rcases hD with ⟨rfl, told, gw', gk', ms', hP, hM, hR', hG'⟩ | ⟨⟨k, k1, k2, rfl⟩, hM⟩ | ⟨hc1, rfl, hM⟩ | ⟨hc2, rfl, hM⟩
  · obtain ⟨o', z', a0w, a0k, a1w, a1k, a2w, a2k, a3w, a3k, a4w, a4k, a5w, a5k, mp', h1, h2, h3⟩ := hist_e (gw := v_gw) (gk := v_gk) (mw := va_cpy v_ms v_mw 0 0 103) hH hw hI.2.1
    refine ⟨(0, told, d, nI o', nI z', m_rea, m_det, m_ref, gw', gk', a0w, a0k, a1w, a1k, a2w, a2k, a3w, a3k, a4w, a4k, a5w, a5k), (told, nI z', 0, m_rea, m_det, m_ref, ms', va_cpy v_ms v_mw 0 0 103, mp'), ?_, ?_, Or.inl rfl, rfl, fun _ => rfl, hR', Gm.gd hG'.1, hI.2.2.1, ⟨o', z', rfl, rfl, rfl, h3⟩, hI.2.2.2.2⟩
    · simp only [fX7_drift, hf, Option.bind_some, da0, if_true, h1, hP]
    · simp only [fX8_drift, hk, Option.bind_some, hM, ends0 h2]
  · obtain ⟨q1, q2, q3⟩ := dk k1 k2
    refine ⟨(2, 0, d, nI o, nI z, nI k, d, -1, v_gw, v_gk, v_h0w, v_h0k, v_h1w, v_h1k, v_h2w, v_h2k, v_h3w, v_h3k, v_h4w, v_h4k, v_h5w, v_h5k), (0, nI z, 1, nI k, d, -1, v_ms, va_cpy v_ms v_mw 0 0 103, v_mp), ?_, ?_, Or.inr rfl, rfl, fun h => absurd h (show ¬ (2 : Nat) = 0 by decide), hI.1, hI.2.1, hI.2.2.1, ⟨o, z, rfl, rfl, rfl, hH⟩, hI.2.2.2.2.1, hI.2.2.2.2.2.1, hI.2.2.2.2.2.2.1, rfl, rfl, rfl⟩
    · simp only [fX7_drift, hf, Option.bind_some, q1, q2, q3, if_true, show ¬ (2 : Nat) = 0 by decide, if_false]
    · simp only [fX8_drift, hk, Option.bind_some, hM, ends9]
  · exact absurd rfl hc1
  · exact absurd rfl hc2

