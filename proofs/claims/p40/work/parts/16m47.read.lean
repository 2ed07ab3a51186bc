/-! the call read -/
theorem dk_2 {k : Nat} (h1 : 1 ≤ k) (h2 : k ≤ 14) : fX7_demandKnown (nI k) = some 0 := by
  have z : ∀ k, k < 15 → 1 ≤ k → fX7_demandKnown (nI k) = some 0 := by decide +kernel
  exact z k (by omega) h1
theorem Tx0 (ti mt : Nat → Int32) : Tx 0 ti mt := ⟨by omega, fun j hj => absurd hj (Nat.not_lt_zero _)⟩
set_option maxHeartbeats 4000000 in
theorem sx_read : St_read Inv := by
  intro f_net u_det t_len t_cur t_kin t_tol t_don n_len h_old h_siz x_sav x_err x_rea x_det x_com v_gw v_gk v_bw v_bk v_vw v_vk v_h0w v_h0k v_h1w v_h1k v_h2w v_h2k v_h3w v_h3k v_h4w v_h4k v_h5w v_h5k v_rs v_rl v_ro v_ti v_tn v_ns m_chg m_thr m_rea m_det m_ref m_err m_ans m_sav m_net m_lin m_tap m_her m_cmd v_ms v_mw v_mv v_mp v_mf v_ml v_mt v_mc hI
  obtain ⟨o, z, g1, g2, g3, hH⟩ := hI.2.2.2.1
  obtain ⟨e1, e2, e3⟩ := hI.2.2.2.2.2.2.2
  obtain ⟨n, t1, t2, hT⟩ := hI.2.2.2.2.1
  obtain ⟨er1, er2⟩ := hI.2.2.2.2.2.2.1
  subst g1 g2 g3 e1 e2 e3 t1 t2 er1
  have n60 := hT.1
  obtain ⟨is, here, M, mc', res, cur', kin', tol', tn', p1, p2, _, p3⟩ := parse_l hT 62 0 0 64 64 v_mc v_tn t_kin t_tol 0 (by omega) (by omega) (by omega) (by omega) (by omega)
  have tx : fX8_isText (nI n) m_her m_cmd v_mt v_mc = some (0, nI is, nI here, nI M, mc') := p1
  have er : fX5_errorAt (nI n) t_cur t_kin t_tol t_don v_ti v_tn = some (0, res, cur', kin', tol', 0, tn') := p2
  have hw : Rg (va_cpy v_gw v_bw 0 0 90) (va_cpy v_gk v_bk 0 0 18) (va_cpy v_ms v_mw 0 0 103) := Rg_congr hI.1 (fun j h => cpy_at h) (fun j h => cpy_at h) (fun j h => cpy_at h)
  have hg : Gd (va_cpy v_gw v_bw 0 0 90) (va_cpy v_gk v_bk 0 0 18) := Gd_congr hI.2.1 (fun j h => cpy_at h) (fun j h => cpy_at h)
  rcases p3 with ⟨rfl, rfl, good⟩ | ⟨rfl, rfl, h60⟩
  · have gd := good
    rw [Good] at gd
    have c0 := ((cP_v (cdN v_ti n) 0).2.2.2 gd.1).2.2.1
    obtain ⟨fl, net', ud', cur2, kin2, tol2, j, gw', gk', rs', ro', tn2, x1, x2⟩ := exec_l (mw := va_cpy v_ms v_mw 0 0 103) (mp := v_mp) hT (nI o) (nI z) m_err m_rea m_det m_ref (nI z) m_err 0 (nI here) m_rea m_det m_ref (va_cpy v_gw v_bw 0 0 90) (va_cpy v_gk v_bk 0 0 18) v_h0w v_h0k v_h1w v_h1k v_h2w v_h2k v_h3w v_h3k v_h4w v_h4k v_h5w v_h5k 62 0 0 0 M 64 64 v_gw v_gk v_ms v_rs v_ro tn' v_mf f_net u_det kin' tol' m_ans m_net good gd.2.1 (if_neg c0) (by omega) (by omega) (by omega) hI.1 (Gm.of hI.2.1)
    have ch : fX7_read f_net u_det (nI n) t_cur t_kin t_tol t_don (nI o) (nI z) m_err m_rea m_det m_ref v_gw v_gk v_bw v_bk v_h0w v_h0k v_h1w v_h1k v_h2w v_h2k v_h3w v_h3k v_h4w v_h4k v_h5w v_h5k v_rs v_ro v_ti v_tn = fX7_read_104 v_ti fl net' ud' (nI n) cur2 kin2 tol2 (nI j) (nI o) (nI z) m_err m_rea m_det m_ref gw' gk' (va_cpy v_gw v_bw 0 0 90) (va_cpy v_gk v_bk 0 0 18) v_h0w v_h0k v_h1w v_h1k v_h2w v_h2k v_h3w v_h3k v_h4w v_h4k v_h5w v_h5k rs' ro' tn2 := by
      rw [fX7_read, er, Option.bind_some, if_pos rfl, if_pos rfl, fX1_copyFrom, Option.bind_some, fX5_rewind, Option.bind_some]
      exact x1
    have mh : fX8_read (nI z) m_thr m_rea m_det m_ref m_err m_ans m_net (nI n) m_her m_cmd v_ms v_mw v_mp v_mf v_mt v_mc = fX8_read_43 v_mt 64 (nI 0) (nI z) 0 m_rea m_det m_ref m_err m_ans m_net 0 (nI here) (nI M) v_ms (va_cpy v_ms v_mw 0 0 103) v_mp v_mf mc' := by
      rw [fX8_read, tx, Option.bind_some, if_pos rfl, if_neg (show ¬ nI 1 = 0 by decide), fX8_read_20, th0, Option.bind_some, if_pos rfl, keeps_e, Option.bind_some]
      rfl
    rw [ch, mh, fX7_read_104, fX5_clear, Option.bind_some]
    rcases x2 with ⟨rfl, rfl, ans', mnet', ms', mf', y1, y2, y3⟩ | ⟨⟨q, q1, q2, rfl⟩, ans', mnet', ms', mf', y1⟩ | ⟨yf, ans', mnet', x, ms', mf', yx, y1⟩
    · obtain ⟨o', z', a0w, a0k, a1w, a1k, a2w, a2k, a3w, a3k, a4w, a4k, a5w, a5k, mp', h1, h2, h3⟩ := hist_e (gw := va_cpy v_gw v_bw 0 0 90) (gk := va_cpy v_gk v_bk 0 0 18) (mw := va_cpy v_ms v_mw 0 0 103) hH hw hg
      rw [y1, ends0 h2, if_pos rfl, h1]
      exact ⟨_, _, rfl, rfl, rfl, Or.inl rfl, rfl, fun _ => rfl, y2, Gm.gd y3, hI.2.2.1, ⟨o', z', rfl, rfl, rfl, h3⟩, ⟨0, rfl, rfl, Tx0 _ _⟩, hI.2.2.2.2.2.1, ⟨rfl, er2⟩, rfl, rfl, rfl⟩
    · have nz : ¬ nI q = 0 := nI_ne0 (by omega) (by omega)
      rw [y1, if_neg nz, fX1_copyFrom, Option.bind_some, dk_2 q1 q2, Option.bind_some, if_pos rfl, fX7_keepReason, Option.bind_some, fX8_read_105, fX8_read_123]
      exact ⟨_, _, rfl, rfl, rfl, Or.inr (Or.inr (Or.inr rfl)), rfl, fun h => absurd h (show ¬ (2 : Nat) = 0 by decide), Rg_congr hw (fun j h => cpy_at h) (fun j h => cpy_at h) (fun j h => cpy_at h), Gd_congr hg (fun j h => cpy_at h) (fun j h => cpy_at h), hI.2.2.1, ⟨o, z, rfl, rfl, rfl, hH⟩, ⟨0, rfl, rfl, Tx0 _ _⟩, hI.2.2.2.2.2.1, ⟨rfl, er2⟩, rfl, rfl, rfl⟩
    · have nz : ¬ fl = 0 := by rcases yf with q | q <;> rw [q] <;> decide
      have kn : fX7_demandKnown fl = some 6 := by rcases yf with q | q <;> rw [q] <;> rfl
      have x9 : (if x = 9 then (3 : Int32) else 2) = 2 := by rcases yx with q | q <;> rw [q] <;> rfl
      rw [y1, if_neg nz, fX1_copyFrom, Option.bind_some, kn, Option.bind_some, if_neg (show ¬ (6 : Nat) = 0 by decide), fX8_read_105, fX8_read_123, x9]
      exact ⟨_, _, rfl, rfl, rfl, Or.inr (Or.inr (Or.inl rfl)), rfl, fun h => absurd h (show ¬ (6 : Nat) = 0 by decide), Rg_congr hw (fun j h => cpy_at h) (fun j h => cpy_at h) (fun j h => cpy_at h), Gd_congr hg (fun j h => cpy_at h) (fun j h => cpy_at h), hI.2.2.1, ⟨o, z, rfl, rfl, rfl, hH⟩, ⟨0, rfl, rfl, Tx0 _ _⟩, hI.2.2.2.2.2.1, ⟨rfl, er2⟩, rfl, rfl, rfl⟩
  · have nh : ¬ nI here = -1 := nm1 (by omega)
    have ch : fX7_read f_net u_det (nI n) t_cur t_kin t_tol t_don (nI o) (nI z) m_err m_rea m_det m_ref v_gw v_gk v_bw v_bk v_h0w v_h0k v_h1w v_h1k v_h2w v_h2k v_h3w v_h3k v_h4w v_h4k v_h5w v_h5k v_rs v_ro v_ti v_tn = some (1, 0, f_net, u_det, 0, cur', kin', tol', 0, nI o, nI z, nI here, m_rea, m_det, m_ref, v_gw, v_gk, v_bw, v_bk, v_h0w, v_h0k, v_h1w, v_h1k, v_h2w, v_h2k, v_h3w, v_h3k, v_h4w, v_h4k, v_h5w, v_h5k, v_rs, v_ro, tn') := by
      rw [fX7_read, er, Option.bind_some, if_pos rfl, if_neg nh, fX5_clear, Option.bind_some]
    have mh : fX8_read (nI z) m_thr m_rea m_det m_ref m_err m_ans m_net (nI n) m_her m_cmd v_ms v_mw v_mp v_mf v_mt v_mc = some (0, 0, nI z, 1, m_rea, m_det, m_ref, nI here, m_ans, m_net, 0, nI here, nI M, v_ms, v_mw, v_mp, v_mf, mc') := by
      rw [fX8_read, tx, Option.bind_some, if_pos rfl, if_pos (show nI 0 = 0 from rfl), fX8_read_20, th1, Option.bind_some, if_neg n10]
    exact ⟨_, _, ch, mh, rfl, Or.inr (Or.inl rfl), rfl, fun h => absurd h (show ¬ (1 : Nat) = 0 by decide), hI.1, hI.2.1, hI.2.2.1, ⟨o, z, rfl, rfl, rfl, hH⟩, ⟨0, rfl, rfl, Tx0 _ _⟩, hI.2.2.2.2.2.1, ⟨rfl, Or.inr ⟨here, h60, rfl⟩⟩, rfl, rfl, rfl⟩

