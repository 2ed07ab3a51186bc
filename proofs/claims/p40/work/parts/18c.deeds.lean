/-! deeds: done or refused, and undone -/
def NGE (m : Nat) (gk : Nat → Int32) : Prop := ∃ n, m ≤ n ∧ n ≤ 10 ∧ gk 0 = nI n
def J9x (f_net : Int32) (u_det : Int32) (t_len : Int32) (t_cur : Int32) (t_kin : Int32) (t_tol : Int32) (t_don : Int32) (n_len : Int32) (h_old : Int32) (h_siz : Int32) (x_sav : Int32) (x_err : Int32) (x_rea : Int32) (x_det : Int32) (x_com : Int32) (v_gw : Nat → Int32) (v_gk : Nat → Int32) (v_bw : Nat → Int32) (v_bk : Nat → Int32) (v_vw : Nat → Int32) (v_vk : Nat → Int32) (v_h0w : Nat → Int32) (v_h0k : Nat → Int32) (v_h1w : Nat → Int32) (v_h1k : Nat → Int32) (v_h2w : Nat → Int32) (v_h2k : Nat → Int32) (v_h3w : Nat → Int32) (v_h3k : Nat → Int32) (v_h4w : Nat → Int32) (v_h4k : Nat → Int32) (v_h5w : Nat → Int32) (v_h5k : Nat → Int32) (v_rs : Nat → Int32) (v_rl : Nat → Int32) (v_ro : Nat → Int32) (v_ti : Nat → Int32) (v_tn : Nat → Int32) (v_ns : Nat → Int32) : Prop := (∃ (m_chg : Int32) (m_thr : Int32) (m_rea : Int32) (m_det : Int32) (m_ref : Int32) (m_err : Int32) (m_ans : Int32) (m_sav : Int32) (m_net : Int32) (m_lin : Int32) (m_tap : Int32) (m_her : Int32) (m_cmd : Int32) (v_ms : Nat → Int32) (v_mw : Nat → Int32) (v_mv : Nat → Int32) (v_mp : Nat → Int32) (v_mf : Nat → Int32) (v_ml : Nat → Int32) (v_mt : Nat → Int32) (v_mc : Nat → Int32), Inv f_net u_det t_len t_cur t_kin t_tol t_don n_len h_old h_siz x_sav x_err x_rea x_det x_com v_gw v_gk v_bw v_bk v_vw v_vk v_h0w v_h0k v_h1w v_h1k v_h2w v_h2k v_h3w v_h3k v_h4w v_h4k v_h5w v_h5k v_rs v_rl v_ro v_ti v_tn v_ns m_chg m_thr m_rea m_det m_ref m_err m_ans m_sav m_net m_lin m_tap m_her m_cmd v_ms v_mw v_mv v_mp v_mf v_ml v_mt v_mc) ∧ t_len = 0
def Und (gw gk : Nat → Int32) (o' z' : Int32) (gw' gk' : Nat → Int32) (a0w a0k a1w a1k a2w a2k a3w a3k a4w a4k a5w a5k : Nat → Int32) : Prop := ∃ v gw2 gk2, fX7_undo o' z' gw' gk' a0w a0k a1w a1k a2w a2k a3w a3k a4w a4k a5w a5k = some (0, v, v, gw2, gk2) ∧ ¬ v < 0 ∧ (∀ j, j < 90 → gw2 j = gw j) ∧ (∀ j, j < 18 → gk2 j = gk j)
theorem SQ_congr {gw gk gw' gk' : Nat → Int32} {n : Nat} (hn : gk 0 = nI n) (h10 : n ≤ 10) (a : ∀ j, j < 90 → gw' j = gw j) (k : ∀ j, j < 18 → gk' j = gk j) : SQ gw gk gw' gk' := by
  intro j hj
  have e : (gk 0).toNatClampNeg = n := by rw [hn, nI_clamp (by omega)]
  have e' : (gk' 0).toNatClampNeg = n := by rw [k 0 (by omega), hn, nI_clamp (by omega)]
  have c : ∀ t, cntF (pPl gw' t) 0 n = cntF (pPl gw t) 0 n := fun t => cnt_congr n 0 (fun q _ hq => pPl_eq (a _ (by omega)) (a _ (by omega)))
  rw [seF, seF, e, e']
  by_cases x : j < 12
  · rw [if_pos x, if_pos x]
    by_cases y : j = 2
    · rw [if_pos y, if_pos y, k 1 (by omega)]
    · rw [if_neg y, if_neg y]
      by_cases z : j = 10
      · rw [if_pos z, if_pos z, c, c]
      · rw [if_neg z, if_neg z, k j (by omega)]
  · rw [if_neg x, if_neg x]
    by_cases y : j < 12 + 9 * n
    · rw [if_pos y, if_pos y, a (j - 12) (by omega)]
    · rw [if_neg y, if_neg y]
theorem und_x {o z : Nat} (ho : o < 6) (hz : z < 7) {gw gk v_h0w v_h0k v_h1w v_h1k v_h2w v_h2k v_h3w v_h3k v_h4w v_h4k v_h5w v_h5k a0w a0k a1w a1k a2w a2k a3w a3k a4w a4k a5w a5k : Nat → Int32} (P : ∀ s, s < 6 → pick6 a0w a1w a2w a3w a4w a5w s = (if s = (o + z) % 6 then va_cpy gw (pick6 v_h0w v_h1w v_h2w v_h3w v_h4w v_h5w s) 0 0 90 else pick6 v_h0w v_h1w v_h2w v_h3w v_h4w v_h5w s) ∧ pick6 a0k a1k a2k a3k a4k a5k s = (if s = (o + z) % 6 then va_cpy gk (pick6 v_h0k v_h1k v_h2k v_h3k v_h4k v_h5k s) 0 0 18 else pick6 v_h0k v_h1k v_h2k v_h3k v_h4k v_h5k s)) (gw' gk' : Nat → Int32) : Und gw gk (nI (if z = 6 then (o + 1) % 6 else o)) (nI (if z = 6 then 6 else z + 1)) gw' gk' a0w a0k a1w a1k a2w a2k a3w a3k a4w a4k a5w a5k := by
  obtain ⟨o1, z1, e1, e2, h1, h2, h3⟩ : ∃ o1 z1, (if z = 6 then (o + 1) % 6 else o) = o1 ∧ (if z = 6 then 6 else z + 1) = z1 + 1 ∧ o1 < 6 ∧ z1 < 6 ∧ (o1 + z1) % 6 = (o + z) % 6 := by
    by_cases y : z = 6
    · exact ⟨(o + 1) % 6, 5, if_pos y, if_pos y, Nat.mod_lt _ (by omega), by omega, by subst y; omega⟩
    · exact ⟨o, z, if_neg y, if_neg y, ho, by omega, rfl⟩
  rw [e1, e2]
  have nz : ¬ nI (z1 + 1) = 0 := nI_ne0 (by omega) (by omega)
  obtain ⟨p1, p2⟩ := P ((o1 + z1) % 6) (Nat.mod_lt _ (by omega))
  rw [if_pos h3] at p1 p2
  refine ⟨nI z1, _, _, by rw [fX7_undo, fX2_size, if_neg nz, takeBack_e _ _ _ _ _ _ _ _ _ _ _ _ _ _ o1 h1 z1 h2]; rfl, nI_pos (by omega), fun j hj => ?_, fun j hj => ?_⟩
  · show va_cpy (pick6 a0w a1w a2w a3w a4w a5w ((o1 + z1) % 6)) gw' 0 0 90 j = gw j
    rw [cpy_at hj, p1, cpy_at hj]
  · show va_cpy (pick6 a0k a1k a2k a3k a4k a5k ((o1 + z1) % 6)) gk' 0 0 18 j = gk j
    rw [cpy_at hj, p2, cpy_at hj]
theorem NGE_of {n t b m : Nat} {gw gk gw' gk' : Nat → Int32} (hV : Vg gw gk n t t b) (h : Gm n gw' gk') (hm : NGE m gk) : NGE m gk' := by
  obtain ⟨n', t', b', h1, h2, _⟩ := h
  obtain ⟨q, q1, q2, q3⟩ := hm
  rw [hV.1.2.2.2.1] at q3
  have := (nI_eq (by have := hV.1.1; omega) (by omega)).mp q3
  exact ⟨n', by omega, h2.1.1, h2.1.2.2.2.1⟩
theorem BDL_of {x : Int32} (h : BD x) : BDL x := ⟨by have := h.1; omega, by have := h.2; omega⟩
theorem BD_gt {x : Int32} (h : BD x) : -900000 < x := by
  rw [Int32.lt_iff_toInt_lt]
  have e : (-900000 : Int32).toInt = -900000 := rfl
  have := h.1
  omega
set_option maxHeartbeats 4000000 in
theorem do_whale : ∀ (f_net : Int32) (u_det : Int32) (t_len : Int32) (t_cur : Int32) (t_kin : Int32) (t_tol : Int32) (t_don : Int32) (n_len : Int32) (h_old : Int32) (h_siz : Int32) (x_sav : Int32) (x_err : Int32) (x_rea : Int32) (x_det : Int32) (x_com : Int32) (v_gw : Nat → Int32) (v_gk : Nat → Int32) (v_bw : Nat → Int32) (v_bk : Nat → Int32) (v_vw : Nat → Int32) (v_vk : Nat → Int32) (v_h0w : Nat → Int32) (v_h0k : Nat → Int32) (v_h1w : Nat → Int32) (v_h1k : Nat → Int32) (v_h2w : Nat → Int32) (v_h2k : Nat → Int32) (v_h3w : Nat → Int32) (v_h3k : Nat → Int32) (v_h4w : Nat → Int32) (v_h4k : Nat → Int32) (v_h5w : Nat → Int32) (v_h5k : Nat → Int32) (v_rs : Nat → Int32) (v_rl : Nat → Int32) (v_ro : Nat → Int32) (v_ti : Nat → Int32) (v_tn : Nat → Int32) (v_ns : Nat → Int32), J9x f_net u_det t_len t_cur t_kin t_tol t_don n_len h_old h_siz x_sav x_err x_rea x_det x_com v_gw v_gk v_bw v_bk v_vw v_vk v_h0w v_h0k v_h1w v_h1k v_h2w v_h2k v_h3w v_h3k v_h4w v_h4k v_h5w v_h5k v_rs v_rl v_ro v_ti v_tn v_ns → ∀ (p0 p1 p2 : Int32), True → ∃ r, fL_whale u_det h_old h_siz x_rea x_det x_com v_gw v_gk v_h0w v_h0k v_h1w v_h1k v_h2w v_h2k v_h3w v_h3k v_h4w v_h4k v_h5w v_h5k p0 p1 p2 = some r ∧ J9x f_net r.2.1 t_len t_cur t_kin t_tol t_don n_len r.2.2.1 r.2.2.2.1 x_sav x_err r.2.2.2.2.1 r.2.2.2.2.2.1 r.2.2.2.2.2.2.1 r.2.2.2.2.2.2.2.1 r.2.2.2.2.2.2.2.2.1 v_bw v_bk v_vw v_vk r.2.2.2.2.2.2.2.2.2.1 r.2.2.2.2.2.2.2.2.2.2.1 r.2.2.2.2.2.2.2.2.2.2.2.1 r.2.2.2.2.2.2.2.2.2.2.2.2.1 r.2.2.2.2.2.2.2.2.2.2.2.2.2.1 r.2.2.2.2.2.2.2.2.2.2.2.2.2.2.1 r.2.2.2.2.2.2.2.2.2.2.2.2.2.2.2.1 r.2.2.2.2.2.2.2.2.2.2.2.2.2.2.2.2.1 r.2.2.2.2.2.2.2.2.2.2.2.2.2.2.2.2.2.1 r.2.2.2.2.2.2.2.2.2.2.2.2.2.2.2.2.2.2.1 r.2.2.2.2.2.2.2.2.2.2.2.2.2.2.2.2.2.2.2.1 r.2.2.2.2.2.2.2.2.2.2.2.2.2.2.2.2.2.2.2.2 v_rs v_rl v_ro v_ti v_tn v_ns ∧ ((¬ -900000 < r.1 ∧ ¬ r.1 = -900009 ∧ BDL r.1 ∧ r.2.2.2.2.2.2.2.1 = v_gw ∧ r.2.2.2.2.2.2.2.2.1 = v_gk) ∨ (BD r.1 ∧ (∀ m, NGE m v_gk → NGE m r.2.2.2.2.2.2.2.2.1) ∧ Und v_gw v_gk r.2.2.1 r.2.2.2.1 r.2.2.2.2.2.2.2.1 r.2.2.2.2.2.2.2.2.1 r.2.2.2.2.2.2.2.2.2.1 r.2.2.2.2.2.2.2.2.2.2.1 r.2.2.2.2.2.2.2.2.2.2.2.1 r.2.2.2.2.2.2.2.2.2.2.2.2.1 r.2.2.2.2.2.2.2.2.2.2.2.2.2.1 r.2.2.2.2.2.2.2.2.2.2.2.2.2.2.1 r.2.2.2.2.2.2.2.2.2.2.2.2.2.2.2.1 r.2.2.2.2.2.2.2.2.2.2.2.2.2.2.2.2.1 r.2.2.2.2.2.2.2.2.2.2.2.2.2.2.2.2.2.1 r.2.2.2.2.2.2.2.2.2.2.2.2.2.2.2.2.2.2.1 r.2.2.2.2.2.2.2.2.2.2.2.2.2.2.2.2.2.2.2.1 r.2.2.2.2.2.2.2.2.2.2.2.2.2.2.2.2.2.2.2.2)) := by
  rintro f_net u_det t_len t_cur t_kin t_tol t_don n_len h_old h_siz x_sav x_err x_rea x_det x_com v_gw v_gk v_bw v_bk v_vw v_vk v_h0w v_h0k v_h1w v_h1k v_h2w v_h2k v_h3w v_h3k v_h4w v_h4k v_h5w v_h5k v_rs v_rl v_ro v_ti v_tn v_ns ⟨⟨m_chg, m_thr, m_rea, m_det, m_ref, m_err, m_ans, m_sav, m_net, m_lin, m_tap, m_her, m_cmd, v_ms, v_mw, v_mv, v_mp, v_mf, v_ml, v_mt, v_mc, hI⟩, htl⟩ p0 p1 p2 _
  obtain ⟨n, t, b, hV, hX⟩ := id hI.2.1
  obtain ⟨o, z, g1, g2, g3, hH⟩ := id hI.2.2.2.1
  obtain ⟨q, qr, hq, hqr, _, _, _, hI2⟩ := sx_whale f_net u_det t_len t_cur t_kin t_tol t_don n_len h_old h_siz x_sav x_err x_rea x_det x_com v_gw v_gk v_bw v_bk v_vw v_vk v_h0w v_h0k v_h1w v_h1k v_h2w v_h2k v_h3w v_h3k v_h4w v_h4k v_h5w v_h5k v_rs v_rl v_ro v_ti v_tn v_ns m_chg m_thr m_rea m_det m_ref m_err m_ans m_sav m_net m_lin m_tap m_her m_cmd v_ms v_mw v_mv v_mp v_mf v_ml v_mt v_mc hI p0 p1 p2
  subst g1 g2
  obtain ⟨a0w, a0k, a1w, a1k, a2w, a2k, a3w, a3k, a4w, a4k, a5w, a5k, h1, hP9⟩ := rem_e v_gw v_gk v_h0w v_h0k v_h1w v_h1k v_h2w v_h2k v_h3w v_h3k v_h4w v_h4k v_h5w v_h5k o hH.1 z (by have := hH.2.1; omega)
  obtain ⟨f, d, hf, hD⟩ := d_come hI.1 hV hX u_det x_rea x_det x_com p0 p1 p2
  rcases hD with ⟨rfl, told, gw', gk', ms', hP, hM, hR', hG'⟩ | ⟨⟨k, k1, k2, rfl⟩, hM⟩ | ⟨hc1, rfl, hM⟩ | ⟨hc2, rfl, hM⟩
  · have e7 : fX7_whale u_det (nI o) (nI z) x_rea x_det x_com v_gw v_gk v_h0w v_h0k v_h1w v_h1k v_h2w v_h2k v_h3w v_h3k v_h4w v_h4k v_h5w v_h5k p0 p1 p2 = some (0, told, d, nI (if z = 6 then (o + 1) % 6 else o), nI (if z = 6 then 6 else z + 1), x_rea, x_det, x_com, gw', gk', a0w, a0k, a1w, a1k, a2w, a2k, a3w, a3k, a4w, a4k, a5w, a5k) := by
      simp only [fX7_whale, hf, Option.bind_some, dr0, da0, if_true, h1, hP]
    have eq := Option.some.inj (hq.symm.trans e7)
    subst eq
    have er : fL_whale u_det (nI o) (nI z) x_rea x_det x_com v_gw v_gk v_h0w v_h0k v_h1w v_h1k v_h2w v_h2k v_h3w v_h3k v_h4w v_h4k v_h5w v_h5k p0 p1 p2 = some (lres [1, 2] 0 told, d, nI (if z = 6 then (o + 1) % 6 else o), nI (if z = 6 then 6 else z + 1), x_rea, x_det, x_com, gw', gk', a0w, a0k, a1w, a1k, a2w, a2k, a3w, a3k, a4w, a4k, a5w, a5k) := by
      rw [fL_whale, e7, Option.bind_some]
      exact if_pos (show (0 : Nat) = 0 ∨ (0 : Nat) = 1 ∨ (0 : Nat) = 2 by decide)
    refine ⟨_, er, ⟨⟨_, _, _, _, _, _, _, _, _, _, _, _, _, _, _, _, _, _, _, _, _, hI2⟩, htl⟩, ?_⟩
    exact Or.inr ⟨hG'.2, fun m hm => NGE_of hV hG'.1 hm, und_x hH.1 (by have := hH.2.1; omega) hP9 gw' gk'⟩
  · obtain ⟨q1, q2, q3⟩ := dk k1 k2
    have e7 : fX7_whale u_det (nI o) (nI z) x_rea x_det x_com v_gw v_gk v_h0w v_h0k v_h1w v_h1k v_h2w v_h2k v_h3w v_h3k v_h4w v_h4k v_h5w v_h5k p0 p1 p2 = some (2, 0, d, nI o, nI z, nI k, d, -1, v_gw, v_gk, v_h0w, v_h0k, v_h1w, v_h1k, v_h2w, v_h2k, v_h3w, v_h3k, v_h4w, v_h4k, v_h5w, v_h5k) := by
      simp only [fX7_whale, hf, Option.bind_some, q1, q2, q3, if_true, show ¬ (2 : Nat) = 0 by decide, if_false]
    have eq := Option.some.inj (hq.symm.trans e7)
    subst eq
    have er : fL_whale u_det (nI o) (nI z) x_rea x_det x_com v_gw v_gk v_h0w v_h0k v_h1w v_h1k v_h2w v_h2k v_h3w v_h3k v_h4w v_h4k v_h5w v_h5k p0 p1 p2 = some (lres [1, 2] 2 0, d, nI o, nI z, nI k, d, -1, v_gw, v_gk, v_h0w, v_h0k, v_h1w, v_h1k, v_h2w, v_h2k, v_h3w, v_h3k, v_h4w, v_h4k, v_h5w, v_h5k) := by
      rw [fL_whale, e7, Option.bind_some]
      exact if_pos (show (2 : Nat) = 0 ∨ (2 : Nat) = 1 ∨ (2 : Nat) = 2 by decide)
    refine ⟨_, er, ⟨⟨_, _, _, _, _, _, _, _, _, _, _, _, _, _, _, _, _, _, _, _, _, hI2⟩, htl⟩, ?_⟩
    exact Or.inl ⟨(show ¬ (-900000 : Int32) < -900002 by decide), (show ¬ (-900002 : Int32) = -900009 by decide), (show BDL (-900002) from ⟨by decide, by decide⟩), rfl, rfl⟩
  · exact absurd rfl hc1
  · have e7 : fX7_whale u_det (nI o) (nI z) x_rea x_det x_com v_gw v_gk v_h0w v_h0k v_h1w v_h1k v_h2w v_h2k v_h3w v_h3k v_h4w v_h4k v_h5w v_h5k p0 p1 p2 = some (1, 0, d, nI o, nI z, x_rea, x_det, x_com, v_gw, v_gk, v_h0w, v_h0k, v_h1w, v_h1k, v_h2w, v_h2k, v_h3w, v_h3k, v_h4w, v_h4k, v_h5w, v_h5k) := by
      simp only [fX7_whale, hf, Option.bind_some, drm2, if_true, show ¬ (1 : Nat) = 0 by decide, if_false]
    have eq := Option.some.inj (hq.symm.trans e7)
    subst eq
    have er : fL_whale u_det (nI o) (nI z) x_rea x_det x_com v_gw v_gk v_h0w v_h0k v_h1w v_h1k v_h2w v_h2k v_h3w v_h3k v_h4w v_h4k v_h5w v_h5k p0 p1 p2 = some (lres [1, 2] 1 0, d, nI o, nI z, x_rea, x_det, x_com, v_gw, v_gk, v_h0w, v_h0k, v_h1w, v_h1k, v_h2w, v_h2k, v_h3w, v_h3k, v_h4w, v_h4k, v_h5w, v_h5k) := by
      rw [fL_whale, e7, Option.bind_some]
      exact if_pos (show (1 : Nat) = 0 ∨ (1 : Nat) = 1 ∨ (1 : Nat) = 2 by decide)
    refine ⟨_, er, ⟨⟨_, _, _, _, _, _, _, _, _, _, _, _, _, _, _, _, _, _, _, _, _, hI2⟩, htl⟩, ?_⟩
    exact Or.inl ⟨(show ¬ (-900000 : Int32) < -900001 by decide), (show ¬ (-900001 : Int32) = -900009 by decide), (show BDL (-900001) from ⟨by decide, by decide⟩), rfl, rfl⟩
set_option maxHeartbeats 4000000 in
theorem do_swap : ∀ (f_net : Int32) (u_det : Int32) (t_len : Int32) (t_cur : Int32) (t_kin : Int32) (t_tol : Int32) (t_don : Int32) (n_len : Int32) (h_old : Int32) (h_siz : Int32) (x_sav : Int32) (x_err : Int32) (x_rea : Int32) (x_det : Int32) (x_com : Int32) (v_gw : Nat → Int32) (v_gk : Nat → Int32) (v_bw : Nat → Int32) (v_bk : Nat → Int32) (v_vw : Nat → Int32) (v_vk : Nat → Int32) (v_h0w : Nat → Int32) (v_h0k : Nat → Int32) (v_h1w : Nat → Int32) (v_h1k : Nat → Int32) (v_h2w : Nat → Int32) (v_h2k : Nat → Int32) (v_h3w : Nat → Int32) (v_h3k : Nat → Int32) (v_h4w : Nat → Int32) (v_h4k : Nat → Int32) (v_h5w : Nat → Int32) (v_h5k : Nat → Int32) (v_rs : Nat → Int32) (v_rl : Nat → Int32) (v_ro : Nat → Int32) (v_ti : Nat → Int32) (v_tn : Nat → Int32) (v_ns : Nat → Int32), J9x f_net u_det t_len t_cur t_kin t_tol t_don n_len h_old h_siz x_sav x_err x_rea x_det x_com v_gw v_gk v_bw v_bk v_vw v_vk v_h0w v_h0k v_h1w v_h1k v_h2w v_h2k v_h3w v_h3k v_h4w v_h4k v_h5w v_h5k v_rs v_rl v_ro v_ti v_tn v_ns → ∀ (p0 p1 : Int32), True → ∃ r, fL_swap u_det h_old h_siz x_rea x_det x_com v_gw v_gk v_h0w v_h0k v_h1w v_h1k v_h2w v_h2k v_h3w v_h3k v_h4w v_h4k v_h5w v_h5k p0 p1 = some r ∧ J9x f_net r.2.1 t_len t_cur t_kin t_tol t_don n_len r.2.2.1 r.2.2.2.1 x_sav x_err r.2.2.2.2.1 r.2.2.2.2.2.1 r.2.2.2.2.2.2.1 r.2.2.2.2.2.2.2.1 r.2.2.2.2.2.2.2.2.1 v_bw v_bk v_vw v_vk r.2.2.2.2.2.2.2.2.2.1 r.2.2.2.2.2.2.2.2.2.2.1 r.2.2.2.2.2.2.2.2.2.2.2.1 r.2.2.2.2.2.2.2.2.2.2.2.2.1 r.2.2.2.2.2.2.2.2.2.2.2.2.2.1 r.2.2.2.2.2.2.2.2.2.2.2.2.2.2.1 r.2.2.2.2.2.2.2.2.2.2.2.2.2.2.2.1 r.2.2.2.2.2.2.2.2.2.2.2.2.2.2.2.2.1 r.2.2.2.2.2.2.2.2.2.2.2.2.2.2.2.2.2.1 r.2.2.2.2.2.2.2.2.2.2.2.2.2.2.2.2.2.2.1 r.2.2.2.2.2.2.2.2.2.2.2.2.2.2.2.2.2.2.2.1 r.2.2.2.2.2.2.2.2.2.2.2.2.2.2.2.2.2.2.2.2 v_rs v_rl v_ro v_ti v_tn v_ns ∧ ((¬ -900000 < r.1 ∧ ¬ r.1 = -900009 ∧ BDL r.1 ∧ r.2.2.2.2.2.2.2.1 = v_gw ∧ r.2.2.2.2.2.2.2.2.1 = v_gk) ∨ (BD r.1 ∧ (∀ m, NGE m v_gk → NGE m r.2.2.2.2.2.2.2.2.1) ∧ Und v_gw v_gk r.2.2.1 r.2.2.2.1 r.2.2.2.2.2.2.2.1 r.2.2.2.2.2.2.2.2.1 r.2.2.2.2.2.2.2.2.2.1 r.2.2.2.2.2.2.2.2.2.2.1 r.2.2.2.2.2.2.2.2.2.2.2.1 r.2.2.2.2.2.2.2.2.2.2.2.2.1 r.2.2.2.2.2.2.2.2.2.2.2.2.2.1 r.2.2.2.2.2.2.2.2.2.2.2.2.2.2.1 r.2.2.2.2.2.2.2.2.2.2.2.2.2.2.2.1 r.2.2.2.2.2.2.2.2.2.2.2.2.2.2.2.2.1 r.2.2.2.2.2.2.2.2.2.2.2.2.2.2.2.2.2.1 r.2.2.2.2.2.2.2.2.2.2.2.2.2.2.2.2.2.2.1 r.2.2.2.2.2.2.2.2.2.2.2.2.2.2.2.2.2.2.2.1 r.2.2.2.2.2.2.2.2.2.2.2.2.2.2.2.2.2.2.2.2)) := by
  rintro f_net u_det t_len t_cur t_kin t_tol t_don n_len h_old h_siz x_sav x_err x_rea x_det x_com v_gw v_gk v_bw v_bk v_vw v_vk v_h0w v_h0k v_h1w v_h1k v_h2w v_h2k v_h3w v_h3k v_h4w v_h4k v_h5w v_h5k v_rs v_rl v_ro v_ti v_tn v_ns ⟨⟨m_chg, m_thr, m_rea, m_det, m_ref, m_err, m_ans, m_sav, m_net, m_lin, m_tap, m_her, m_cmd, v_ms, v_mw, v_mv, v_mp, v_mf, v_ml, v_mt, v_mc, hI⟩, htl⟩ p0 p1 _
  obtain ⟨n, t, b, hV, hX⟩ := id hI.2.1
  obtain ⟨o, z, g1, g2, g3, hH⟩ := id hI.2.2.2.1
  obtain ⟨q, qr, hq, hqr, _, _, _, hI2⟩ := sx_swap f_net u_det t_len t_cur t_kin t_tol t_don n_len h_old h_siz x_sav x_err x_rea x_det x_com v_gw v_gk v_bw v_bk v_vw v_vk v_h0w v_h0k v_h1w v_h1k v_h2w v_h2k v_h3w v_h3k v_h4w v_h4k v_h5w v_h5k v_rs v_rl v_ro v_ti v_tn v_ns m_chg m_thr m_rea m_det m_ref m_err m_ans m_sav m_net m_lin m_tap m_her m_cmd v_ms v_mw v_mv v_mp v_mf v_ml v_mt v_mc hI p0 p1
  subst g1 g2
  obtain ⟨a0w, a0k, a1w, a1k, a2w, a2k, a3w, a3k, a4w, a4k, a5w, a5k, h1, hP9⟩ := rem_e v_gw v_gk v_h0w v_h0k v_h1w v_h1k v_h2w v_h2k v_h3w v_h3k v_h4w v_h4k v_h5w v_h5k o hH.1 z (by have := hH.2.1; omega)
  obtain ⟨f, d, hf, hD⟩ := d_swap hI.1 hV hX u_det x_rea x_det x_com p0 p1
  rcases hD with ⟨rfl, told, gw', gk', ms', hP, hM, hR', hG'⟩ | ⟨⟨k, k1, k2, rfl⟩, hM⟩ | ⟨hc1, rfl, hM⟩ | ⟨hc2, rfl, hM⟩
  · have e7 : fX7_swap u_det (nI o) (nI z) x_rea x_det x_com v_gw v_gk v_h0w v_h0k v_h1w v_h1k v_h2w v_h2k v_h3w v_h3k v_h4w v_h4k v_h5w v_h5k p0 p1 = some (0, told, d, nI (if z = 6 then (o + 1) % 6 else o), nI (if z = 6 then 6 else z + 1), x_rea, x_det, x_com, gw', gk', a0w, a0k, a1w, a1k, a2w, a2k, a3w, a3k, a4w, a4k, a5w, a5k) := by
      simp only [fX7_swap, hf, Option.bind_some, dt0, da0, if_true, h1, hP]
    have eq := Option.some.inj (hq.symm.trans e7)
    subst eq
    have er : fL_swap u_det (nI o) (nI z) x_rea x_det x_com v_gw v_gk v_h0w v_h0k v_h1w v_h1k v_h2w v_h2k v_h3w v_h3k v_h4w v_h4k v_h5w v_h5k p0 p1 = some (lres [3, 2] 0 told, d, nI (if z = 6 then (o + 1) % 6 else o), nI (if z = 6 then 6 else z + 1), x_rea, x_det, x_com, gw', gk', a0w, a0k, a1w, a1k, a2w, a2k, a3w, a3k, a4w, a4k, a5w, a5k) := by
      rw [fL_swap, e7, Option.bind_some]
      exact if_pos (show (0 : Nat) = 0 ∨ (0 : Nat) = 3 ∨ (0 : Nat) = 2 by decide)
    refine ⟨_, er, ⟨⟨_, _, _, _, _, _, _, _, _, _, _, _, _, _, _, _, _, _, _, _, _, hI2⟩, htl⟩, ?_⟩
    exact Or.inr ⟨hG'.2, fun m hm => NGE_of hV hG'.1 hm, und_x hH.1 (by have := hH.2.1; omega) hP9 gw' gk'⟩
  · obtain ⟨q1, q2, q3⟩ := dk k1 k2
    have e7 : fX7_swap u_det (nI o) (nI z) x_rea x_det x_com v_gw v_gk v_h0w v_h0k v_h1w v_h1k v_h2w v_h2k v_h3w v_h3k v_h4w v_h4k v_h5w v_h5k p0 p1 = some (2, 0, d, nI o, nI z, nI k, d, -1, v_gw, v_gk, v_h0w, v_h0k, v_h1w, v_h1k, v_h2w, v_h2k, v_h3w, v_h3k, v_h4w, v_h4k, v_h5w, v_h5k) := by
      simp only [fX7_swap, hf, Option.bind_some, q1, q2, q3, if_true, show ¬ (2 : Nat) = 0 by decide, if_false]
    have eq := Option.some.inj (hq.symm.trans e7)
    subst eq
    have er : fL_swap u_det (nI o) (nI z) x_rea x_det x_com v_gw v_gk v_h0w v_h0k v_h1w v_h1k v_h2w v_h2k v_h3w v_h3k v_h4w v_h4k v_h5w v_h5k p0 p1 = some (lres [3, 2] 2 0, d, nI o, nI z, nI k, d, -1, v_gw, v_gk, v_h0w, v_h0k, v_h1w, v_h1k, v_h2w, v_h2k, v_h3w, v_h3k, v_h4w, v_h4k, v_h5w, v_h5k) := by
      rw [fL_swap, e7, Option.bind_some]
      exact if_pos (show (2 : Nat) = 0 ∨ (2 : Nat) = 3 ∨ (2 : Nat) = 2 by decide)
    refine ⟨_, er, ⟨⟨_, _, _, _, _, _, _, _, _, _, _, _, _, _, _, _, _, _, _, _, _, hI2⟩, htl⟩, ?_⟩
    exact Or.inl ⟨(show ¬ (-900000 : Int32) < -900002 by decide), (show ¬ (-900002 : Int32) = -900009 by decide), (show BDL (-900002) from ⟨by decide, by decide⟩), rfl, rfl⟩
  · have e7 : fX7_swap u_det (nI o) (nI z) x_rea x_det x_com v_gw v_gk v_h0w v_h0k v_h1w v_h1k v_h2w v_h2k v_h3w v_h3k v_h4w v_h4k v_h5w v_h5k p0 p1 = some (3, 0, d, nI o, nI z, x_rea, x_det, x_com, v_gw, v_gk, v_h0w, v_h0k, v_h1w, v_h1k, v_h2w, v_h2k, v_h3w, v_h3k, v_h4w, v_h4k, v_h5w, v_h5k) := by
      simp only [fX7_swap, hf, Option.bind_some, dtm1, if_true, show ¬ (3 : Nat) = 0 by decide, if_false]
    have eq := Option.some.inj (hq.symm.trans e7)
    subst eq
    have er : fL_swap u_det (nI o) (nI z) x_rea x_det x_com v_gw v_gk v_h0w v_h0k v_h1w v_h1k v_h2w v_h2k v_h3w v_h3k v_h4w v_h4k v_h5w v_h5k p0 p1 = some (lres [3, 2] 3 0, d, nI o, nI z, x_rea, x_det, x_com, v_gw, v_gk, v_h0w, v_h0k, v_h1w, v_h1k, v_h2w, v_h2k, v_h3w, v_h3k, v_h4w, v_h4k, v_h5w, v_h5k) := by
      rw [fL_swap, e7, Option.bind_some]
      exact if_pos (show (3 : Nat) = 0 ∨ (3 : Nat) = 3 ∨ (3 : Nat) = 2 by decide)
    refine ⟨_, er, ⟨⟨_, _, _, _, _, _, _, _, _, _, _, _, _, _, _, _, _, _, _, _, _, hI2⟩, htl⟩, ?_⟩
    exact Or.inl ⟨(show ¬ (-900000 : Int32) < -900001 by decide), (show ¬ (-900001 : Int32) = -900009 by decide), (show BDL (-900001) from ⟨by decide, by decide⟩), rfl, rfl⟩
  · exact absurd rfl hc2
set_option maxHeartbeats 4000000 in
theorem do_sing : ∀ (f_net : Int32) (u_det : Int32) (t_len : Int32) (t_cur : Int32) (t_kin : Int32) (t_tol : Int32) (t_don : Int32) (n_len : Int32) (h_old : Int32) (h_siz : Int32) (x_sav : Int32) (x_err : Int32) (x_rea : Int32) (x_det : Int32) (x_com : Int32) (v_gw : Nat → Int32) (v_gk : Nat → Int32) (v_bw : Nat → Int32) (v_bk : Nat → Int32) (v_vw : Nat → Int32) (v_vk : Nat → Int32) (v_h0w : Nat → Int32) (v_h0k : Nat → Int32) (v_h1w : Nat → Int32) (v_h1k : Nat → Int32) (v_h2w : Nat → Int32) (v_h2k : Nat → Int32) (v_h3w : Nat → Int32) (v_h3k : Nat → Int32) (v_h4w : Nat → Int32) (v_h4k : Nat → Int32) (v_h5w : Nat → Int32) (v_h5k : Nat → Int32) (v_rs : Nat → Int32) (v_rl : Nat → Int32) (v_ro : Nat → Int32) (v_ti : Nat → Int32) (v_tn : Nat → Int32) (v_ns : Nat → Int32), J9x f_net u_det t_len t_cur t_kin t_tol t_don n_len h_old h_siz x_sav x_err x_rea x_det x_com v_gw v_gk v_bw v_bk v_vw v_vk v_h0w v_h0k v_h1w v_h1k v_h2w v_h2k v_h3w v_h3k v_h4w v_h4k v_h5w v_h5k v_rs v_rl v_ro v_ti v_tn v_ns → ∀ (p0 : Int32), True → ∃ r, fL_sing u_det h_old h_siz x_rea x_det x_com v_gw v_gk v_h0w v_h0k v_h1w v_h1k v_h2w v_h2k v_h3w v_h3k v_h4w v_h4k v_h5w v_h5k p0 = some r ∧ J9x f_net r.2.1 t_len t_cur t_kin t_tol t_don n_len r.2.2.1 r.2.2.2.1 x_sav x_err r.2.2.2.2.1 r.2.2.2.2.2.1 r.2.2.2.2.2.2.1 r.2.2.2.2.2.2.2.1 r.2.2.2.2.2.2.2.2.1 v_bw v_bk v_vw v_vk r.2.2.2.2.2.2.2.2.2.1 r.2.2.2.2.2.2.2.2.2.2.1 r.2.2.2.2.2.2.2.2.2.2.2.1 r.2.2.2.2.2.2.2.2.2.2.2.2.1 r.2.2.2.2.2.2.2.2.2.2.2.2.2.1 r.2.2.2.2.2.2.2.2.2.2.2.2.2.2.1 r.2.2.2.2.2.2.2.2.2.2.2.2.2.2.2.1 r.2.2.2.2.2.2.2.2.2.2.2.2.2.2.2.2.1 r.2.2.2.2.2.2.2.2.2.2.2.2.2.2.2.2.2.1 r.2.2.2.2.2.2.2.2.2.2.2.2.2.2.2.2.2.2.1 r.2.2.2.2.2.2.2.2.2.2.2.2.2.2.2.2.2.2.2.1 r.2.2.2.2.2.2.2.2.2.2.2.2.2.2.2.2.2.2.2.2 v_rs v_rl v_ro v_ti v_tn v_ns ∧ ((¬ -900000 < r.1 ∧ ¬ r.1 = -900009 ∧ BDL r.1 ∧ r.2.2.2.2.2.2.2.1 = v_gw ∧ r.2.2.2.2.2.2.2.2.1 = v_gk) ∨ (BD r.1 ∧ (∀ m, NGE m v_gk → NGE m r.2.2.2.2.2.2.2.2.1) ∧ Und v_gw v_gk r.2.2.1 r.2.2.2.1 r.2.2.2.2.2.2.2.1 r.2.2.2.2.2.2.2.2.1 r.2.2.2.2.2.2.2.2.2.1 r.2.2.2.2.2.2.2.2.2.2.1 r.2.2.2.2.2.2.2.2.2.2.2.1 r.2.2.2.2.2.2.2.2.2.2.2.2.1 r.2.2.2.2.2.2.2.2.2.2.2.2.2.1 r.2.2.2.2.2.2.2.2.2.2.2.2.2.2.1 r.2.2.2.2.2.2.2.2.2.2.2.2.2.2.2.1 r.2.2.2.2.2.2.2.2.2.2.2.2.2.2.2.2.1 r.2.2.2.2.2.2.2.2.2.2.2.2.2.2.2.2.2.1 r.2.2.2.2.2.2.2.2.2.2.2.2.2.2.2.2.2.2.1 r.2.2.2.2.2.2.2.2.2.2.2.2.2.2.2.2.2.2.2.1 r.2.2.2.2.2.2.2.2.2.2.2.2.2.2.2.2.2.2.2.2)) := by
  rintro f_net u_det t_len t_cur t_kin t_tol t_don n_len h_old h_siz x_sav x_err x_rea x_det x_com v_gw v_gk v_bw v_bk v_vw v_vk v_h0w v_h0k v_h1w v_h1k v_h2w v_h2k v_h3w v_h3k v_h4w v_h4k v_h5w v_h5k v_rs v_rl v_ro v_ti v_tn v_ns ⟨⟨m_chg, m_thr, m_rea, m_det, m_ref, m_err, m_ans, m_sav, m_net, m_lin, m_tap, m_her, m_cmd, v_ms, v_mw, v_mv, v_mp, v_mf, v_ml, v_mt, v_mc, hI⟩, htl⟩ p0 _
  obtain ⟨n, t, b, hV, hX⟩ := id hI.2.1
  obtain ⟨o, z, g1, g2, g3, hH⟩ := id hI.2.2.2.1
  obtain ⟨q, qr, hq, hqr, _, _, _, hI2⟩ := sx_sing f_net u_det t_len t_cur t_kin t_tol t_don n_len h_old h_siz x_sav x_err x_rea x_det x_com v_gw v_gk v_bw v_bk v_vw v_vk v_h0w v_h0k v_h1w v_h1k v_h2w v_h2k v_h3w v_h3k v_h4w v_h4k v_h5w v_h5k v_rs v_rl v_ro v_ti v_tn v_ns m_chg m_thr m_rea m_det m_ref m_err m_ans m_sav m_net m_lin m_tap m_her m_cmd v_ms v_mw v_mv v_mp v_mf v_ml v_mt v_mc hI p0
  subst g1 g2
  obtain ⟨a0w, a0k, a1w, a1k, a2w, a2k, a3w, a3k, a4w, a4k, a5w, a5k, h1, hP9⟩ := rem_e v_gw v_gk v_h0w v_h0k v_h1w v_h1k v_h2w v_h2k v_h3w v_h3k v_h4w v_h4k v_h5w v_h5k o hH.1 z (by have := hH.2.1; omega)
  obtain ⟨f, d, hf, hD⟩ := d_sing hI.1 hV hX u_det x_rea x_det x_com p0
  rcases hD with ⟨rfl, told, gw', gk', ms', hP, hM, hR', hG'⟩ | ⟨⟨k, k1, k2, rfl⟩, hM⟩ | ⟨hc1, rfl, hM⟩ | ⟨hc2, rfl, hM⟩
  · have e7 : fX7_sing u_det (nI o) (nI z) x_rea x_det x_com v_gw v_gk v_h0w v_h0k v_h1w v_h1k v_h2w v_h2k v_h3w v_h3k v_h4w v_h4k v_h5w v_h5k p0 = some (0, told, d, nI (if z = 6 then (o + 1) % 6 else o), nI (if z = 6 then 6 else z + 1), x_rea, x_det, x_com, gw', gk', a0w, a0k, a1w, a1k, a2w, a2k, a3w, a3k, a4w, a4k, a5w, a5k) := by
      simp only [fX7_sing, hf, Option.bind_some, dt0, da0, if_true, h1, hP]
    have eq := Option.some.inj (hq.symm.trans e7)
    subst eq
    have er : fL_sing u_det (nI o) (nI z) x_rea x_det x_com v_gw v_gk v_h0w v_h0k v_h1w v_h1k v_h2w v_h2k v_h3w v_h3k v_h4w v_h4k v_h5w v_h5k p0 = some (lres [3, 2] 0 told, d, nI (if z = 6 then (o + 1) % 6 else o), nI (if z = 6 then 6 else z + 1), x_rea, x_det, x_com, gw', gk', a0w, a0k, a1w, a1k, a2w, a2k, a3w, a3k, a4w, a4k, a5w, a5k) := by
      rw [fL_sing, e7, Option.bind_some]
      exact if_pos (show (0 : Nat) = 0 ∨ (0 : Nat) = 3 ∨ (0 : Nat) = 2 by decide)
    refine ⟨_, er, ⟨⟨_, _, _, _, _, _, _, _, _, _, _, _, _, _, _, _, _, _, _, _, _, hI2⟩, htl⟩, ?_⟩
    exact Or.inr ⟨hG'.2, fun m hm => NGE_of hV hG'.1 hm, und_x hH.1 (by have := hH.2.1; omega) hP9 gw' gk'⟩
  · obtain ⟨q1, q2, q3⟩ := dk k1 k2
    have e7 : fX7_sing u_det (nI o) (nI z) x_rea x_det x_com v_gw v_gk v_h0w v_h0k v_h1w v_h1k v_h2w v_h2k v_h3w v_h3k v_h4w v_h4k v_h5w v_h5k p0 = some (2, 0, d, nI o, nI z, nI k, d, -1, v_gw, v_gk, v_h0w, v_h0k, v_h1w, v_h1k, v_h2w, v_h2k, v_h3w, v_h3k, v_h4w, v_h4k, v_h5w, v_h5k) := by
      simp only [fX7_sing, hf, Option.bind_some, q1, q2, q3, if_true, show ¬ (2 : Nat) = 0 by decide, if_false]
    have eq := Option.some.inj (hq.symm.trans e7)
    subst eq
    have er : fL_sing u_det (nI o) (nI z) x_rea x_det x_com v_gw v_gk v_h0w v_h0k v_h1w v_h1k v_h2w v_h2k v_h3w v_h3k v_h4w v_h4k v_h5w v_h5k p0 = some (lres [3, 2] 2 0, d, nI o, nI z, nI k, d, -1, v_gw, v_gk, v_h0w, v_h0k, v_h1w, v_h1k, v_h2w, v_h2k, v_h3w, v_h3k, v_h4w, v_h4k, v_h5w, v_h5k) := by
      rw [fL_sing, e7, Option.bind_some]
      exact if_pos (show (2 : Nat) = 0 ∨ (2 : Nat) = 3 ∨ (2 : Nat) = 2 by decide)
    refine ⟨_, er, ⟨⟨_, _, _, _, _, _, _, _, _, _, _, _, _, _, _, _, _, _, _, _, _, hI2⟩, htl⟩, ?_⟩
    exact Or.inl ⟨(show ¬ (-900000 : Int32) < -900002 by decide), (show ¬ (-900002 : Int32) = -900009 by decide), (show BDL (-900002) from ⟨by decide, by decide⟩), rfl, rfl⟩
  · have e7 : fX7_sing u_det (nI o) (nI z) x_rea x_det x_com v_gw v_gk v_h0w v_h0k v_h1w v_h1k v_h2w v_h2k v_h3w v_h3k v_h4w v_h4k v_h5w v_h5k p0 = some (3, 0, d, nI o, nI z, x_rea, x_det, x_com, v_gw, v_gk, v_h0w, v_h0k, v_h1w, v_h1k, v_h2w, v_h2k, v_h3w, v_h3k, v_h4w, v_h4k, v_h5w, v_h5k) := by
      simp only [fX7_sing, hf, Option.bind_some, dtm1, if_true, show ¬ (3 : Nat) = 0 by decide, if_false]
    have eq := Option.some.inj (hq.symm.trans e7)
    subst eq
    have er : fL_sing u_det (nI o) (nI z) x_rea x_det x_com v_gw v_gk v_h0w v_h0k v_h1w v_h1k v_h2w v_h2k v_h3w v_h3k v_h4w v_h4k v_h5w v_h5k p0 = some (lres [3, 2] 3 0, d, nI o, nI z, x_rea, x_det, x_com, v_gw, v_gk, v_h0w, v_h0k, v_h1w, v_h1k, v_h2w, v_h2k, v_h3w, v_h3k, v_h4w, v_h4k, v_h5w, v_h5k) := by
      rw [fL_sing, e7, Option.bind_some]
      exact if_pos (show (3 : Nat) = 0 ∨ (3 : Nat) = 3 ∨ (3 : Nat) = 2 by decide)
    refine ⟨_, er, ⟨⟨_, _, _, _, _, _, _, _, _, _, _, _, _, _, _, _, _, _, _, _, _, hI2⟩, htl⟩, ?_⟩
    exact Or.inl ⟨(show ¬ (-900000 : Int32) < -900001 by decide), (show ¬ (-900001 : Int32) = -900009 by decide), (show BDL (-900001) from ⟨by decide, by decide⟩), rfl, rfl⟩
  · exact absurd rfl hc2
set_option maxHeartbeats 4000000 in
theorem do_drift : ∀ (f_net : Int32) (u_det : Int32) (t_len : Int32) (t_cur : Int32) (t_kin : Int32) (t_tol : Int32) (t_don : Int32) (n_len : Int32) (h_old : Int32) (h_siz : Int32) (x_sav : Int32) (x_err : Int32) (x_rea : Int32) (x_det : Int32) (x_com : Int32) (v_gw : Nat → Int32) (v_gk : Nat → Int32) (v_bw : Nat → Int32) (v_bk : Nat → Int32) (v_vw : Nat → Int32) (v_vk : Nat → Int32) (v_h0w : Nat → Int32) (v_h0k : Nat → Int32) (v_h1w : Nat → Int32) (v_h1k : Nat → Int32) (v_h2w : Nat → Int32) (v_h2k : Nat → Int32) (v_h3w : Nat → Int32) (v_h3k : Nat → Int32) (v_h4w : Nat → Int32) (v_h4k : Nat → Int32) (v_h5w : Nat → Int32) (v_h5k : Nat → Int32) (v_rs : Nat → Int32) (v_rl : Nat → Int32) (v_ro : Nat → Int32) (v_ti : Nat → Int32) (v_tn : Nat → Int32) (v_ns : Nat → Int32), J9x f_net u_det t_len t_cur t_kin t_tol t_don n_len h_old h_siz x_sav x_err x_rea x_det x_com v_gw v_gk v_bw v_bk v_vw v_vk v_h0w v_h0k v_h1w v_h1k v_h2w v_h2k v_h3w v_h3k v_h4w v_h4k v_h5w v_h5k v_rs v_rl v_ro v_ti v_tn v_ns → True → ∃ r, fL_drift u_det h_old h_siz x_rea x_det x_com v_gw v_gk v_h0w v_h0k v_h1w v_h1k v_h2w v_h2k v_h3w v_h3k v_h4w v_h4k v_h5w v_h5k = some r ∧ J9x f_net r.2.1 t_len t_cur t_kin t_tol t_don n_len r.2.2.1 r.2.2.2.1 x_sav x_err r.2.2.2.2.1 r.2.2.2.2.2.1 r.2.2.2.2.2.2.1 r.2.2.2.2.2.2.2.1 r.2.2.2.2.2.2.2.2.1 v_bw v_bk v_vw v_vk r.2.2.2.2.2.2.2.2.2.1 r.2.2.2.2.2.2.2.2.2.2.1 r.2.2.2.2.2.2.2.2.2.2.2.1 r.2.2.2.2.2.2.2.2.2.2.2.2.1 r.2.2.2.2.2.2.2.2.2.2.2.2.2.1 r.2.2.2.2.2.2.2.2.2.2.2.2.2.2.1 r.2.2.2.2.2.2.2.2.2.2.2.2.2.2.2.1 r.2.2.2.2.2.2.2.2.2.2.2.2.2.2.2.2.1 r.2.2.2.2.2.2.2.2.2.2.2.2.2.2.2.2.2.1 r.2.2.2.2.2.2.2.2.2.2.2.2.2.2.2.2.2.2.1 r.2.2.2.2.2.2.2.2.2.2.2.2.2.2.2.2.2.2.2.1 r.2.2.2.2.2.2.2.2.2.2.2.2.2.2.2.2.2.2.2.2 v_rs v_rl v_ro v_ti v_tn v_ns ∧ ((¬ -900000 < r.1 ∧ ¬ r.1 = -900009 ∧ BDL r.1 ∧ r.2.2.2.2.2.2.2.1 = v_gw ∧ r.2.2.2.2.2.2.2.2.1 = v_gk) ∨ (BD r.1 ∧ (∀ m, NGE m v_gk → NGE m r.2.2.2.2.2.2.2.2.1) ∧ Und v_gw v_gk r.2.2.1 r.2.2.2.1 r.2.2.2.2.2.2.2.1 r.2.2.2.2.2.2.2.2.1 r.2.2.2.2.2.2.2.2.2.1 r.2.2.2.2.2.2.2.2.2.2.1 r.2.2.2.2.2.2.2.2.2.2.2.1 r.2.2.2.2.2.2.2.2.2.2.2.2.1 r.2.2.2.2.2.2.2.2.2.2.2.2.2.1 r.2.2.2.2.2.2.2.2.2.2.2.2.2.2.1 r.2.2.2.2.2.2.2.2.2.2.2.2.2.2.2.1 r.2.2.2.2.2.2.2.2.2.2.2.2.2.2.2.2.1 r.2.2.2.2.2.2.2.2.2.2.2.2.2.2.2.2.2.1 r.2.2.2.2.2.2.2.2.2.2.2.2.2.2.2.2.2.2.1 r.2.2.2.2.2.2.2.2.2.2.2.2.2.2.2.2.2.2.2.1 r.2.2.2.2.2.2.2.2.2.2.2.2.2.2.2.2.2.2.2.2)) := by
  rintro f_net u_det t_len t_cur t_kin t_tol t_don n_len h_old h_siz x_sav x_err x_rea x_det x_com v_gw v_gk v_bw v_bk v_vw v_vk v_h0w v_h0k v_h1w v_h1k v_h2w v_h2k v_h3w v_h3k v_h4w v_h4k v_h5w v_h5k v_rs v_rl v_ro v_ti v_tn v_ns ⟨⟨m_chg, m_thr, m_rea, m_det, m_ref, m_err, m_ans, m_sav, m_net, m_lin, m_tap, m_her, m_cmd, v_ms, v_mw, v_mv, v_mp, v_mf, v_ml, v_mt, v_mc, hI⟩, htl⟩ _
  obtain ⟨n, t, b, hV, hX⟩ := id hI.2.1
  obtain ⟨o, z, g1, g2, g3, hH⟩ := id hI.2.2.2.1
  obtain ⟨q, qr, hq, hqr, _, _, _, hI2⟩ := sx_drift f_net u_det t_len t_cur t_kin t_tol t_don n_len h_old h_siz x_sav x_err x_rea x_det x_com v_gw v_gk v_bw v_bk v_vw v_vk v_h0w v_h0k v_h1w v_h1k v_h2w v_h2k v_h3w v_h3k v_h4w v_h4k v_h5w v_h5k v_rs v_rl v_ro v_ti v_tn v_ns m_chg m_thr m_rea m_det m_ref m_err m_ans m_sav m_net m_lin m_tap m_her m_cmd v_ms v_mw v_mv v_mp v_mf v_ml v_mt v_mc hI
  subst g1 g2
  obtain ⟨a0w, a0k, a1w, a1k, a2w, a2k, a3w, a3k, a4w, a4k, a5w, a5k, h1, hP9⟩ := rem_e v_gw v_gk v_h0w v_h0k v_h1w v_h1k v_h2w v_h2k v_h3w v_h3k v_h4w v_h4k v_h5w v_h5k o hH.1 z (by have := hH.2.1; omega)
  obtain ⟨f, d, hf, hD⟩ := d_drift hI.1 hV hX u_det x_rea x_det x_com
  rcases hD with ⟨rfl, told, gw', gk', ms', hP, hM, hR', hG'⟩ | ⟨⟨k, k1, k2, rfl⟩, hM⟩ | ⟨hc1, rfl, hM⟩ | ⟨hc2, rfl, hM⟩
  · have e7 : fX7_drift u_det (nI o) (nI z) x_rea x_det x_com v_gw v_gk v_h0w v_h0k v_h1w v_h1k v_h2w v_h2k v_h3w v_h3k v_h4w v_h4k v_h5w v_h5k = some (0, told, d, nI (if z = 6 then (o + 1) % 6 else o), nI (if z = 6 then 6 else z + 1), x_rea, x_det, x_com, gw', gk', a0w, a0k, a1w, a1k, a2w, a2k, a3w, a3k, a4w, a4k, a5w, a5k) := by
      simp only [fX7_drift, hf, Option.bind_some, da0, if_true, h1, hP]
    have eq := Option.some.inj (hq.symm.trans e7)
    subst eq
    have er : fL_drift u_det (nI o) (nI z) x_rea x_det x_com v_gw v_gk v_h0w v_h0k v_h1w v_h1k v_h2w v_h2k v_h3w v_h3k v_h4w v_h4k v_h5w v_h5k = some (lres [2] 0 told, d, nI (if z = 6 then (o + 1) % 6 else o), nI (if z = 6 then 6 else z + 1), x_rea, x_det, x_com, gw', gk', a0w, a0k, a1w, a1k, a2w, a2k, a3w, a3k, a4w, a4k, a5w, a5k) := by
      rw [fL_drift, e7, Option.bind_some]
      exact if_pos (show (0 : Nat) = 0 ∨ (0 : Nat) = 2 by decide)
    refine ⟨_, er, ⟨⟨_, _, _, _, _, _, _, _, _, _, _, _, _, _, _, _, _, _, _, _, _, hI2⟩, htl⟩, ?_⟩
    exact Or.inr ⟨hG'.2, fun m hm => NGE_of hV hG'.1 hm, und_x hH.1 (by have := hH.2.1; omega) hP9 gw' gk'⟩
  · obtain ⟨q1, q2, q3⟩ := dk k1 k2
    have e7 : fX7_drift u_det (nI o) (nI z) x_rea x_det x_com v_gw v_gk v_h0w v_h0k v_h1w v_h1k v_h2w v_h2k v_h3w v_h3k v_h4w v_h4k v_h5w v_h5k = some (2, 0, d, nI o, nI z, nI k, d, -1, v_gw, v_gk, v_h0w, v_h0k, v_h1w, v_h1k, v_h2w, v_h2k, v_h3w, v_h3k, v_h4w, v_h4k, v_h5w, v_h5k) := by
      simp only [fX7_drift, hf, Option.bind_some, q1, q2, q3, if_true, show ¬ (2 : Nat) = 0 by decide, if_false]
    have eq := Option.some.inj (hq.symm.trans e7)
    subst eq
    have er : fL_drift u_det (nI o) (nI z) x_rea x_det x_com v_gw v_gk v_h0w v_h0k v_h1w v_h1k v_h2w v_h2k v_h3w v_h3k v_h4w v_h4k v_h5w v_h5k = some (lres [2] 2 0, d, nI o, nI z, nI k, d, -1, v_gw, v_gk, v_h0w, v_h0k, v_h1w, v_h1k, v_h2w, v_h2k, v_h3w, v_h3k, v_h4w, v_h4k, v_h5w, v_h5k) := by
      rw [fL_drift, e7, Option.bind_some]
      exact if_pos (show (2 : Nat) = 0 ∨ (2 : Nat) = 2 by decide)
    refine ⟨_, er, ⟨⟨_, _, _, _, _, _, _, _, _, _, _, _, _, _, _, _, _, _, _, _, _, hI2⟩, htl⟩, ?_⟩
    exact Or.inl ⟨(show ¬ (-900000 : Int32) < -900001 by decide), (show ¬ (-900001 : Int32) = -900009 by decide), (show BDL (-900001) from ⟨by decide, by decide⟩), rfl, rfl⟩
  · exact absurd rfl hc1
  · exact absurd rfl hc2
set_option maxHeartbeats 4000000 in
theorem do_swim : ∀ (f_net : Int32) (u_det : Int32) (t_len : Int32) (t_cur : Int32) (t_kin : Int32) (t_tol : Int32) (t_don : Int32) (n_len : Int32) (h_old : Int32) (h_siz : Int32) (x_sav : Int32) (x_err : Int32) (x_rea : Int32) (x_det : Int32) (x_com : Int32) (v_gw : Nat → Int32) (v_gk : Nat → Int32) (v_bw : Nat → Int32) (v_bk : Nat → Int32) (v_vw : Nat → Int32) (v_vk : Nat → Int32) (v_h0w : Nat → Int32) (v_h0k : Nat → Int32) (v_h1w : Nat → Int32) (v_h1k : Nat → Int32) (v_h2w : Nat → Int32) (v_h2k : Nat → Int32) (v_h3w : Nat → Int32) (v_h3k : Nat → Int32) (v_h4w : Nat → Int32) (v_h4k : Nat → Int32) (v_h5w : Nat → Int32) (v_h5k : Nat → Int32) (v_rs : Nat → Int32) (v_rl : Nat → Int32) (v_ro : Nat → Int32) (v_ti : Nat → Int32) (v_tn : Nat → Int32) (v_ns : Nat → Int32), J9x f_net u_det t_len t_cur t_kin t_tol t_don n_len h_old h_siz x_sav x_err x_rea x_det x_com v_gw v_gk v_bw v_bk v_vw v_vk v_h0w v_h0k v_h1w v_h1k v_h2w v_h2k v_h3w v_h3k v_h4w v_h4k v_h5w v_h5k v_rs v_rl v_ro v_ti v_tn v_ns → ∀ (p0 p1 : Int32), True → ∃ r, fL_swim u_det h_old h_siz x_rea x_det x_com v_gw v_gk v_h0w v_h0k v_h1w v_h1k v_h2w v_h2k v_h3w v_h3k v_h4w v_h4k v_h5w v_h5k v_rs v_ro p0 p1 = some r ∧ J9x f_net r.2.1 t_len t_cur t_kin t_tol t_don n_len r.2.2.1 r.2.2.2.1 x_sav x_err r.2.2.2.2.1 r.2.2.2.2.2.1 r.2.2.2.2.2.2.1 r.2.2.2.2.2.2.2.1 r.2.2.2.2.2.2.2.2.1 v_bw v_bk v_vw v_vk r.2.2.2.2.2.2.2.2.2.1 r.2.2.2.2.2.2.2.2.2.2.1 r.2.2.2.2.2.2.2.2.2.2.2.1 r.2.2.2.2.2.2.2.2.2.2.2.2.1 r.2.2.2.2.2.2.2.2.2.2.2.2.2.1 r.2.2.2.2.2.2.2.2.2.2.2.2.2.2.1 r.2.2.2.2.2.2.2.2.2.2.2.2.2.2.2.1 r.2.2.2.2.2.2.2.2.2.2.2.2.2.2.2.2.1 r.2.2.2.2.2.2.2.2.2.2.2.2.2.2.2.2.2.1 r.2.2.2.2.2.2.2.2.2.2.2.2.2.2.2.2.2.2.1 r.2.2.2.2.2.2.2.2.2.2.2.2.2.2.2.2.2.2.2.1 r.2.2.2.2.2.2.2.2.2.2.2.2.2.2.2.2.2.2.2.2.1 r.2.2.2.2.2.2.2.2.2.2.2.2.2.2.2.2.2.2.2.2.2.1 v_rl r.2.2.2.2.2.2.2.2.2.2.2.2.2.2.2.2.2.2.2.2.2.2 v_ti v_tn v_ns ∧ ((¬ -900000 < r.1 ∧ ¬ r.1 = -900009 ∧ BDL r.1 ∧ r.2.2.2.2.2.2.2.1 = v_gw ∧ r.2.2.2.2.2.2.2.2.1 = v_gk) ∨ (BD r.1 ∧ (∀ m, NGE m v_gk → NGE m r.2.2.2.2.2.2.2.2.1) ∧ Und v_gw v_gk r.2.2.1 r.2.2.2.1 r.2.2.2.2.2.2.2.1 r.2.2.2.2.2.2.2.2.1 r.2.2.2.2.2.2.2.2.2.1 r.2.2.2.2.2.2.2.2.2.2.1 r.2.2.2.2.2.2.2.2.2.2.2.1 r.2.2.2.2.2.2.2.2.2.2.2.2.1 r.2.2.2.2.2.2.2.2.2.2.2.2.2.1 r.2.2.2.2.2.2.2.2.2.2.2.2.2.2.1 r.2.2.2.2.2.2.2.2.2.2.2.2.2.2.2.1 r.2.2.2.2.2.2.2.2.2.2.2.2.2.2.2.2.1 r.2.2.2.2.2.2.2.2.2.2.2.2.2.2.2.2.2.1 r.2.2.2.2.2.2.2.2.2.2.2.2.2.2.2.2.2.2.1 r.2.2.2.2.2.2.2.2.2.2.2.2.2.2.2.2.2.2.2.1 r.2.2.2.2.2.2.2.2.2.2.2.2.2.2.2.2.2.2.2.2.1)) := by
  rintro f_net u_det t_len t_cur t_kin t_tol t_don n_len h_old h_siz x_sav x_err x_rea x_det x_com v_gw v_gk v_bw v_bk v_vw v_vk v_h0w v_h0k v_h1w v_h1k v_h2w v_h2k v_h3w v_h3k v_h4w v_h4k v_h5w v_h5k v_rs v_rl v_ro v_ti v_tn v_ns ⟨⟨m_chg, m_thr, m_rea, m_det, m_ref, m_err, m_ans, m_sav, m_net, m_lin, m_tap, m_her, m_cmd, v_ms, v_mw, v_mv, v_mp, v_mf, v_ml, v_mt, v_mc, hI⟩, htl⟩ p0 p1 _
  obtain ⟨n, t, b, hV, hX⟩ := id hI.2.1
  obtain ⟨o, z, g1, g2, g3, hH⟩ := id hI.2.2.2.1
  obtain ⟨q, qr, hq, hqr, _, _, _, hI2⟩ := sx_swim f_net u_det t_len t_cur t_kin t_tol t_don n_len h_old h_siz x_sav x_err x_rea x_det x_com v_gw v_gk v_bw v_bk v_vw v_vk v_h0w v_h0k v_h1w v_h1k v_h2w v_h2k v_h3w v_h3k v_h4w v_h4k v_h5w v_h5k v_rs v_rl v_ro v_ti v_tn v_ns m_chg m_thr m_rea m_det m_ref m_err m_ans m_sav m_net m_lin m_tap m_her m_cmd v_ms v_mw v_mv v_mp v_mf v_ml v_mt v_mc hI p0 p1
  subst g1 g2
  obtain ⟨a0w, a0k, a1w, a1k, a2w, a2k, a3w, a3k, a4w, a4k, a5w, a5k, h1, hP9⟩ := rem_e v_gw v_gk v_h0w v_h0k v_h1w v_h1k v_h2w v_h2k v_h3w v_h3k v_h4w v_h4k v_h5w v_h5k o hH.1 z (by have := hH.2.1; omega)
  obtain ⟨f, d, rs1, ro1, hf, hD⟩ := d_swim hI.1 hV hX u_det x_rea x_det x_com p0 p1 v_rs v_ro v_mf
  rcases hD with ⟨rfl, told, gw', gk', ms', rs2, ro2, mf', hP, hM, hR', hG'⟩ | ⟨⟨k, k1, k2, rfl⟩, mf', hM⟩ | ⟨rfl, mf', hM⟩
  · have e7 : fX7_swim u_det (nI o) (nI z) x_rea x_det x_com v_gw v_gk v_h0w v_h0k v_h1w v_h1k v_h2w v_h2k v_h3w v_h3k v_h4w v_h4k v_h5w v_h5k v_rs v_ro p0 p1 = some (0, told, d, nI (if z = 6 then (o + 1) % 6 else o), nI (if z = 6 then 6 else z + 1), x_rea, x_det, x_com, gw', gk', a0w, a0k, a1w, a1k, a2w, a2k, a3w, a3k, a4w, a4k, a5w, a5k, rs2, ro2) := by
      simp only [fX7_swim, hf, Option.bind_some, dt0, da0, if_true, h1, hP]
    have eq := Option.some.inj (hq.symm.trans e7)
    subst eq
    have er : fL_swim u_det (nI o) (nI z) x_rea x_det x_com v_gw v_gk v_h0w v_h0k v_h1w v_h1k v_h2w v_h2k v_h3w v_h3k v_h4w v_h4k v_h5w v_h5k v_rs v_ro p0 p1 = some (lres [3, 2] 0 told, d, nI (if z = 6 then (o + 1) % 6 else o), nI (if z = 6 then 6 else z + 1), x_rea, x_det, x_com, gw', gk', a0w, a0k, a1w, a1k, a2w, a2k, a3w, a3k, a4w, a4k, a5w, a5k, rs2, ro2) := by
      rw [fL_swim, e7, Option.bind_some]
      exact if_pos (show (0 : Nat) = 0 ∨ (0 : Nat) = 3 ∨ (0 : Nat) = 2 by decide)
    refine ⟨_, er, ⟨⟨_, _, _, _, _, _, _, _, _, _, _, _, _, _, _, _, _, _, _, _, _, hI2⟩, htl⟩, ?_⟩
    exact Or.inr ⟨hG'.2, fun m hm => NGE_of hV hG'.1 hm, und_x hH.1 (by have := hH.2.1; omega) hP9 gw' gk'⟩
  · obtain ⟨q1, q2, q3⟩ := dk k1 k2
    have e7 : fX7_swim u_det (nI o) (nI z) x_rea x_det x_com v_gw v_gk v_h0w v_h0k v_h1w v_h1k v_h2w v_h2k v_h3w v_h3k v_h4w v_h4k v_h5w v_h5k v_rs v_ro p0 p1 = some (2, 0, d, nI o, nI z, nI k, d, -1, v_gw, v_gk, v_h0w, v_h0k, v_h1w, v_h1k, v_h2w, v_h2k, v_h3w, v_h3k, v_h4w, v_h4k, v_h5w, v_h5k, rs1, ro1) := by
      simp only [fX7_swim, hf, Option.bind_some, q1, q2, q3, if_true, show ¬ (2 : Nat) = 0 by decide, if_false]
    have eq := Option.some.inj (hq.symm.trans e7)
    subst eq
    have er : fL_swim u_det (nI o) (nI z) x_rea x_det x_com v_gw v_gk v_h0w v_h0k v_h1w v_h1k v_h2w v_h2k v_h3w v_h3k v_h4w v_h4k v_h5w v_h5k v_rs v_ro p0 p1 = some (lres [3, 2] 2 0, d, nI o, nI z, nI k, d, -1, v_gw, v_gk, v_h0w, v_h0k, v_h1w, v_h1k, v_h2w, v_h2k, v_h3w, v_h3k, v_h4w, v_h4k, v_h5w, v_h5k, rs1, ro1) := by
      rw [fL_swim, e7, Option.bind_some]
      exact if_pos (show (2 : Nat) = 0 ∨ (2 : Nat) = 3 ∨ (2 : Nat) = 2 by decide)
    refine ⟨_, er, ⟨⟨_, _, _, _, _, _, _, _, _, _, _, _, _, _, _, _, _, _, _, _, _, hI2⟩, htl⟩, ?_⟩
    exact Or.inl ⟨(show ¬ (-900000 : Int32) < -900002 by decide), (show ¬ (-900002 : Int32) = -900009 by decide), (show BDL (-900002) from ⟨by decide, by decide⟩), rfl, rfl⟩
  · have e7 : fX7_swim u_det (nI o) (nI z) x_rea x_det x_com v_gw v_gk v_h0w v_h0k v_h1w v_h1k v_h2w v_h2k v_h3w v_h3k v_h4w v_h4k v_h5w v_h5k v_rs v_ro p0 p1 = some (3, 0, d, nI o, nI z, x_rea, x_det, x_com, v_gw, v_gk, v_h0w, v_h0k, v_h1w, v_h1k, v_h2w, v_h2k, v_h3w, v_h3k, v_h4w, v_h4k, v_h5w, v_h5k, rs1, ro1) := by
      simp only [fX7_swim, hf, Option.bind_some, dtm1, show ¬ (3 : Nat) = 0 by decide, if_false]
    have eq := Option.some.inj (hq.symm.trans e7)
    subst eq
    have er : fL_swim u_det (nI o) (nI z) x_rea x_det x_com v_gw v_gk v_h0w v_h0k v_h1w v_h1k v_h2w v_h2k v_h3w v_h3k v_h4w v_h4k v_h5w v_h5k v_rs v_ro p0 p1 = some (lres [3, 2] 3 0, d, nI o, nI z, x_rea, x_det, x_com, v_gw, v_gk, v_h0w, v_h0k, v_h1w, v_h1k, v_h2w, v_h2k, v_h3w, v_h3k, v_h4w, v_h4k, v_h5w, v_h5k, rs1, ro1) := by
      rw [fL_swim, e7, Option.bind_some]
      exact if_pos (show (3 : Nat) = 0 ∨ (3 : Nat) = 3 ∨ (3 : Nat) = 2 by decide)
    refine ⟨_, er, ⟨⟨_, _, _, _, _, _, _, _, _, _, _, _, _, _, _, _, _, _, _, _, _, hI2⟩, htl⟩, ?_⟩
    exact Or.inl ⟨(show ¬ (-900000 : Int32) < -900001 by decide), (show ¬ (-900001 : Int32) = -900009 by decide), (show BDL (-900001) from ⟨by decide, by decide⟩), rfl, rfl⟩
set_option maxHeartbeats 4000000 in
theorem do_strike : ∀ (f_net : Int32) (u_det : Int32) (t_len : Int32) (t_cur : Int32) (t_kin : Int32) (t_tol : Int32) (t_don : Int32) (n_len : Int32) (h_old : Int32) (h_siz : Int32) (x_sav : Int32) (x_err : Int32) (x_rea : Int32) (x_det : Int32) (x_com : Int32) (v_gw : Nat → Int32) (v_gk : Nat → Int32) (v_bw : Nat → Int32) (v_bk : Nat → Int32) (v_vw : Nat → Int32) (v_vk : Nat → Int32) (v_h0w : Nat → Int32) (v_h0k : Nat → Int32) (v_h1w : Nat → Int32) (v_h1k : Nat → Int32) (v_h2w : Nat → Int32) (v_h2k : Nat → Int32) (v_h3w : Nat → Int32) (v_h3k : Nat → Int32) (v_h4w : Nat → Int32) (v_h4k : Nat → Int32) (v_h5w : Nat → Int32) (v_h5k : Nat → Int32) (v_rs : Nat → Int32) (v_rl : Nat → Int32) (v_ro : Nat → Int32) (v_ti : Nat → Int32) (v_tn : Nat → Int32) (v_ns : Nat → Int32), J9x f_net u_det t_len t_cur t_kin t_tol t_don n_len h_old h_siz x_sav x_err x_rea x_det x_com v_gw v_gk v_bw v_bk v_vw v_vk v_h0w v_h0k v_h1w v_h1k v_h2w v_h2k v_h3w v_h3k v_h4w v_h4k v_h5w v_h5k v_rs v_rl v_ro v_ti v_tn v_ns → ∀ (p0 p1 p2 : Int32), True → ∃ r, fL_strike f_net u_det h_old h_siz x_rea x_det x_com v_gw v_gk v_h0w v_h0k v_h1w v_h1k v_h2w v_h2k v_h3w v_h3k v_h4w v_h4k v_h5w v_h5k p0 p1 p2 = some r ∧ J9x r.2.1 r.2.2.1 t_len t_cur t_kin t_tol t_don n_len r.2.2.2.1 r.2.2.2.2.1 x_sav x_err r.2.2.2.2.2.1 r.2.2.2.2.2.2.1 r.2.2.2.2.2.2.2.1 r.2.2.2.2.2.2.2.2.1 r.2.2.2.2.2.2.2.2.2.1 v_bw v_bk v_vw v_vk r.2.2.2.2.2.2.2.2.2.2.1 r.2.2.2.2.2.2.2.2.2.2.2.1 r.2.2.2.2.2.2.2.2.2.2.2.2.1 r.2.2.2.2.2.2.2.2.2.2.2.2.2.1 r.2.2.2.2.2.2.2.2.2.2.2.2.2.2.1 r.2.2.2.2.2.2.2.2.2.2.2.2.2.2.2.1 r.2.2.2.2.2.2.2.2.2.2.2.2.2.2.2.2.1 r.2.2.2.2.2.2.2.2.2.2.2.2.2.2.2.2.2.1 r.2.2.2.2.2.2.2.2.2.2.2.2.2.2.2.2.2.2.1 r.2.2.2.2.2.2.2.2.2.2.2.2.2.2.2.2.2.2.2.1 r.2.2.2.2.2.2.2.2.2.2.2.2.2.2.2.2.2.2.2.2.1 r.2.2.2.2.2.2.2.2.2.2.2.2.2.2.2.2.2.2.2.2.2 v_rs v_rl v_ro v_ti v_tn v_ns ∧ ((¬ -900000 < r.1 ∧ ¬ r.1 = -900009 ∧ BDL r.1 ∧ r.2.2.2.2.2.2.2.2.1 = v_gw ∧ r.2.2.2.2.2.2.2.2.2.1 = v_gk) ∨ (BD r.1 ∧ (∀ m, NGE m v_gk → NGE m r.2.2.2.2.2.2.2.2.2.1) ∧ Und v_gw v_gk r.2.2.2.1 r.2.2.2.2.1 r.2.2.2.2.2.2.2.2.1 r.2.2.2.2.2.2.2.2.2.1 r.2.2.2.2.2.2.2.2.2.2.1 r.2.2.2.2.2.2.2.2.2.2.2.1 r.2.2.2.2.2.2.2.2.2.2.2.2.1 r.2.2.2.2.2.2.2.2.2.2.2.2.2.1 r.2.2.2.2.2.2.2.2.2.2.2.2.2.2.1 r.2.2.2.2.2.2.2.2.2.2.2.2.2.2.2.1 r.2.2.2.2.2.2.2.2.2.2.2.2.2.2.2.2.1 r.2.2.2.2.2.2.2.2.2.2.2.2.2.2.2.2.2.1 r.2.2.2.2.2.2.2.2.2.2.2.2.2.2.2.2.2.2.1 r.2.2.2.2.2.2.2.2.2.2.2.2.2.2.2.2.2.2.2.1 r.2.2.2.2.2.2.2.2.2.2.2.2.2.2.2.2.2.2.2.2.1 r.2.2.2.2.2.2.2.2.2.2.2.2.2.2.2.2.2.2.2.2.2)) := by
  rintro f_net u_det t_len t_cur t_kin t_tol t_don n_len h_old h_siz x_sav x_err x_rea x_det x_com v_gw v_gk v_bw v_bk v_vw v_vk v_h0w v_h0k v_h1w v_h1k v_h2w v_h2k v_h3w v_h3k v_h4w v_h4k v_h5w v_h5k v_rs v_rl v_ro v_ti v_tn v_ns ⟨⟨m_chg, m_thr, m_rea, m_det, m_ref, m_err, m_ans, m_sav, m_net, m_lin, m_tap, m_her, m_cmd, v_ms, v_mw, v_mv, v_mp, v_mf, v_ml, v_mt, v_mc, hI⟩, htl⟩ p0 p1 p2 _
  obtain ⟨n, t, b, hV, hX⟩ := id hI.2.1
  obtain ⟨o, z, g1, g2, g3, hH⟩ := id hI.2.2.2.1
  obtain ⟨q, qr, hq, hqr, _, _, _, hI2⟩ := sx_strike f_net u_det t_len t_cur t_kin t_tol t_don n_len h_old h_siz x_sav x_err x_rea x_det x_com v_gw v_gk v_bw v_bk v_vw v_vk v_h0w v_h0k v_h1w v_h1k v_h2w v_h2k v_h3w v_h3k v_h4w v_h4k v_h5w v_h5k v_rs v_rl v_ro v_ti v_tn v_ns m_chg m_thr m_rea m_det m_ref m_err m_ans m_sav m_net m_lin m_tap m_her m_cmd v_ms v_mw v_mv v_mp v_mf v_ml v_mt v_mc hI p0 p1 p2
  subst g1 g2
  obtain ⟨a0w, a0k, a1w, a1k, a2w, a2k, a3w, a3k, a4w, a4k, a5w, a5k, h1, hP9⟩ := rem_e v_gw v_gk v_h0w v_h0k v_h1w v_h1k v_h2w v_h2k v_h3w v_h3k v_h4w v_h4k v_h5w v_h5k o hH.1 z (by have := hH.2.1; omega)
  obtain ⟨f, d, hf, hD⟩ := d_hit hI.1 hV hX u_det x_rea x_det x_com f_net m_net p0 p1 p2
  rcases hD with ⟨rfl, told, gw', gk', ms', net', mnet', hP, hM, hR', hG'⟩ | ⟨⟨k, k1, k2, rfl⟩, mnet', hM⟩ | ⟨rfl, mnet', hM⟩ | ⟨rfl, mnet', hM⟩
  · have e7 : fX7_strike f_net u_det (nI o) (nI z) x_rea x_det x_com v_gw v_gk v_h0w v_h0k v_h1w v_h1k v_h2w v_h2k v_h3w v_h3k v_h4w v_h4k v_h5w v_h5k p0 p1 p2 = some (0, told, net', d, nI (if z = 6 then (o + 1) % 6 else o), nI (if z = 6 then 6 else z + 1), x_rea, x_det, x_com, gw', gk', a0w, a0k, a1w, a1k, a2w, a2k, a3w, a3k, a4w, a4k, a5w, a5k) := by
      simp only [fX7_strike, hf, Option.bind_some, dt0, dr0, da0, if_true, h1, hP]
    have eq := Option.some.inj (hq.symm.trans e7)
    subst eq
    have er : fL_strike f_net u_det (nI o) (nI z) x_rea x_det x_com v_gw v_gk v_h0w v_h0k v_h1w v_h1k v_h2w v_h2k v_h3w v_h3k v_h4w v_h4k v_h5w v_h5k p0 p1 p2 = some (lres [3, 1, 2] 0 told, net', d, nI (if z = 6 then (o + 1) % 6 else o), nI (if z = 6 then 6 else z + 1), x_rea, x_det, x_com, gw', gk', a0w, a0k, a1w, a1k, a2w, a2k, a3w, a3k, a4w, a4k, a5w, a5k) := by
      rw [fL_strike, e7, Option.bind_some]
      exact if_pos (show (0 : Nat) = 0 ∨ (0 : Nat) = 3 ∨ (0 : Nat) = 1 ∨ (0 : Nat) = 2 by decide)
    refine ⟨_, er, ⟨⟨_, _, _, _, _, _, _, _, _, _, _, _, _, _, _, _, _, _, _, _, _, hI2⟩, htl⟩, ?_⟩
    exact Or.inr ⟨hG'.2, fun m hm => NGE_of hV hG'.1 hm, und_x hH.1 (by have := hH.2.1; omega) hP9 gw' gk'⟩
  · obtain ⟨q1, q2, q3⟩ := dk k1 k2
    have e7 : fX7_strike f_net u_det (nI o) (nI z) x_rea x_det x_com v_gw v_gk v_h0w v_h0k v_h1w v_h1k v_h2w v_h2k v_h3w v_h3k v_h4w v_h4k v_h5w v_h5k p0 p1 p2 = some (2, 0, f_net, d, nI o, nI z, nI k, d, -1, v_gw, v_gk, v_h0w, v_h0k, v_h1w, v_h1k, v_h2w, v_h2k, v_h3w, v_h3k, v_h4w, v_h4k, v_h5w, v_h5k) := by
      simp only [fX7_strike, hf, Option.bind_some, q1, q2, q3, if_true, show ¬ (2 : Nat) = 0 by decide, if_false]
    have eq := Option.some.inj (hq.symm.trans e7)
    subst eq
    have er : fL_strike f_net u_det (nI o) (nI z) x_rea x_det x_com v_gw v_gk v_h0w v_h0k v_h1w v_h1k v_h2w v_h2k v_h3w v_h3k v_h4w v_h4k v_h5w v_h5k p0 p1 p2 = some (lres [3, 1, 2] 2 0, f_net, d, nI o, nI z, nI k, d, -1, v_gw, v_gk, v_h0w, v_h0k, v_h1w, v_h1k, v_h2w, v_h2k, v_h3w, v_h3k, v_h4w, v_h4k, v_h5w, v_h5k) := by
      rw [fL_strike, e7, Option.bind_some]
      exact if_pos (show (2 : Nat) = 0 ∨ (2 : Nat) = 3 ∨ (2 : Nat) = 1 ∨ (2 : Nat) = 2 by decide)
    refine ⟨_, er, ⟨⟨_, _, _, _, _, _, _, _, _, _, _, _, _, _, _, _, _, _, _, _, _, hI2⟩, htl⟩, ?_⟩
    exact Or.inl ⟨(show ¬ (-900000 : Int32) < -900003 by decide), (show ¬ (-900003 : Int32) = -900009 by decide), (show BDL (-900003) from ⟨by decide, by decide⟩), rfl, rfl⟩
  · have e7 : fX7_strike f_net u_det (nI o) (nI z) x_rea x_det x_com v_gw v_gk v_h0w v_h0k v_h1w v_h1k v_h2w v_h2k v_h3w v_h3k v_h4w v_h4k v_h5w v_h5k p0 p1 p2 = some (3, 0, f_net, d, nI o, nI z, x_rea, x_det, x_com, v_gw, v_gk, v_h0w, v_h0k, v_h1w, v_h1k, v_h2w, v_h2k, v_h3w, v_h3k, v_h4w, v_h4k, v_h5w, v_h5k) := by
      simp only [fX7_strike, hf, Option.bind_some, dtm1, show ¬ (3 : Nat) = 0 by decide, if_false]
    have eq := Option.some.inj (hq.symm.trans e7)
    subst eq
    have er : fL_strike f_net u_det (nI o) (nI z) x_rea x_det x_com v_gw v_gk v_h0w v_h0k v_h1w v_h1k v_h2w v_h2k v_h3w v_h3k v_h4w v_h4k v_h5w v_h5k p0 p1 p2 = some (lres [3, 1, 2] 3 0, f_net, d, nI o, nI z, x_rea, x_det, x_com, v_gw, v_gk, v_h0w, v_h0k, v_h1w, v_h1k, v_h2w, v_h2k, v_h3w, v_h3k, v_h4w, v_h4k, v_h5w, v_h5k) := by
      rw [fL_strike, e7, Option.bind_some]
      exact if_pos (show (3 : Nat) = 0 ∨ (3 : Nat) = 3 ∨ (3 : Nat) = 1 ∨ (3 : Nat) = 2 by decide)
    refine ⟨_, er, ⟨⟨_, _, _, _, _, _, _, _, _, _, _, _, _, _, _, _, _, _, _, _, _, hI2⟩, htl⟩, ?_⟩
    exact Or.inl ⟨(show ¬ (-900000 : Int32) < -900001 by decide), (show ¬ (-900001 : Int32) = -900009 by decide), (show BDL (-900001) from ⟨by decide, by decide⟩), rfl, rfl⟩
  · have e7 : fX7_strike f_net u_det (nI o) (nI z) x_rea x_det x_com v_gw v_gk v_h0w v_h0k v_h1w v_h1k v_h2w v_h2k v_h3w v_h3k v_h4w v_h4k v_h5w v_h5k p0 p1 p2 = some (1, 0, f_net, d, nI o, nI z, x_rea, x_det, x_com, v_gw, v_gk, v_h0w, v_h0k, v_h1w, v_h1k, v_h2w, v_h2k, v_h3w, v_h3k, v_h4w, v_h4k, v_h5w, v_h5k) := by
      simp only [fX7_strike, hf, Option.bind_some, dtm2, drm2, if_true, show ¬ (1 : Nat) = 0 by decide, if_false]
    have eq := Option.some.inj (hq.symm.trans e7)
    subst eq
    have er : fL_strike f_net u_det (nI o) (nI z) x_rea x_det x_com v_gw v_gk v_h0w v_h0k v_h1w v_h1k v_h2w v_h2k v_h3w v_h3k v_h4w v_h4k v_h5w v_h5k p0 p1 p2 = some (lres [3, 1, 2] 1 0, f_net, d, nI o, nI z, x_rea, x_det, x_com, v_gw, v_gk, v_h0w, v_h0k, v_h1w, v_h1k, v_h2w, v_h2k, v_h3w, v_h3k, v_h4w, v_h4k, v_h5w, v_h5k) := by
      rw [fL_strike, e7, Option.bind_some]
      exact if_pos (show (1 : Nat) = 0 ∨ (1 : Nat) = 3 ∨ (1 : Nat) = 1 ∨ (1 : Nat) = 2 by decide)
    refine ⟨_, er, ⟨⟨_, _, _, _, _, _, _, _, _, _, _, _, _, _, _, _, _, _, _, _, _, hI2⟩, htl⟩, ?_⟩
    exact Or.inl ⟨(show ¬ (-900000 : Int32) < -900002 by decide), (show ¬ (-900002 : Int32) = -900009 by decide), (show BDL (-900002) from ⟨by decide, by decide⟩), rfl, rfl⟩
