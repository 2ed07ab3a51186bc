/-! copies of games, and the changes that are kept -/
theorem cpy_up {f g : Nat → Int32} {sp dp i : Nat} : upd (va_cpy f g sp dp i) (dp + i) (f (sp + i)) = va_cpy f g sp dp (i + 1) := by
  funext j
  by_cases h : j = dp + i
  · subst h
    rw [pk_us, pk_cpy_in (by omega) (by omega), Nat.add_sub_cancel_left]
  · rw [pk_un h]
    by_cases h2 : dp ≤ j ∧ j < dp + i
    · rw [pk_cpy_in h2.1 h2.2, pk_cpy_in h2.1 (by omega)]
    · rw [pk_cpy_out (by omega), pk_cpy_out (by omega)]
theorem cpy_0 {f g : Nat → Int32} {sp dp : Nat} : va_cpy f g sp dp 0 = g := by
  funext j
  exact pk_cpy_out (by omega)
theorem cop_l {f g : Nat → Int32} {n0 n1 sp dp : Nat} (h0 : sp + 103 ≤ n0) (h1 : dp + 103 ≤ n1) (hn0 : n0 < 1000) (hn1 : n1 < 1000) : ∀ (d i k : Nat), i + d = 103 → d < k → fX8_copies_3 n0 f n1 k (nI sp) (nI dp) (nI i) (va_cpy f g sp dp i) = some (va_cpy f g sp dp 103) := by
  intro d
  induction d with
  | zero =>
    intro i k h hk
    obtain ⟨k, rfl⟩ : ∃ q, k = q + 1 := ⟨k - 1, by omega⟩
    rw [fX8_copies_3, if_pos (show (103 : Int32) ≤ nI i from nI_le (a := 103) (by omega) (by omega)), show i = 103 from by omega]
  | succ d ih =>
    intro i k h hk
    obtain ⟨k, rfl⟩ : ∃ q, k = q + 1 := ⟨k - 1, by omega⟩
    rw [fX8_copies_3, if_neg (show ¬ (103 : Int32) ≤ nI i from nI_ge (b := 103) (by omega) (by omega)), nI_add, nI_add, if_pos (e_vin (by omega) (by omega)), if_pos (e_vin (by omega) (by omega)), nI_clamp (by omega), nI_clamp (by omega), nI_1, cpy_up]
    exact ih (i + 1) k (by omega) (by omega)
theorem cop_e {f g : Nat → Int32} {n0 n1 sp dp : Nat} (h0 : sp + 103 ≤ n0) (h1 : dp + 103 ≤ n1) (hn0 : n0 < 1000) (hn1 : n1 < 1000) : fX8_copies n0 f n1 g (nI sp) (nI dp) = some (va_cpy f g sp dp 103) := by
  have z := cop_l (f := f) (g := g) h0 h1 hn0 hn1 103 0 128 (by omega) (by omega)
  rw [cpy_0] at z
  exact z
theorem cps_l {f : Nat → Int32} {n0 dp : Nat} (h0 : dp + 206 ≤ n0) (hn0 : n0 < 1000) : ∀ (d i k : Nat), i + d = 103 → d < k → fX8_copies_s_3 n0 k (nI (dp + 103)) (nI dp) (nI i) (va_cpy f f (dp + 103) dp i) = some (va_cpy f f (dp + 103) dp 103) := by
  intro d
  induction d with
  | zero =>
    intro i k h hk
    obtain ⟨k, rfl⟩ : ∃ q, k = q + 1 := ⟨k - 1, by omega⟩
    rw [fX8_copies_s_3, if_pos (show (103 : Int32) ≤ nI i from nI_le (a := 103) (by omega) (by omega)), show i = 103 from by omega]
  | succ d ih =>
    intro i k h hk
    obtain ⟨k, rfl⟩ : ∃ q, k = q + 1 := ⟨k - 1, by omega⟩
    rw [fX8_copies_s_3, if_neg (show ¬ (103 : Int32) ≤ nI i from nI_ge (b := 103) (by omega) (by omega)), nI_add, nI_add, if_pos (e_vin (by omega) (by omega)), if_pos (e_vin (by omega) (by omega)), nI_clamp (by omega), nI_clamp (by omega), nI_1, pk_cpy_out (j := dp + 103 + i) (by omega), cpy_up]
    exact ih (i + 1) k (by omega) (by omega)
theorem cps_e {f : Nat → Int32} {n0 dp : Nat} (h0 : dp + 206 ≤ n0) (hn0 : n0 < 1000) : fX8_copies_s n0 f (nI (dp + 103)) (nI dp) = some (va_cpy f f (dp + 103) dp 103) := by
  have z := cps_l (f := f) h0 hn0 103 0 128 (by omega) (by omega)
  rw [cpy_0] at z
  exact z
theorem Rg_congr {gw gk ms gw' gk' ms' : Nat → Int32} (h : Rg gw gk ms) (a : ∀ j, j < 90 → gw' j = gw j) (k : ∀ j, j < 18 → gk' j = gk j) (m : ∀ j, j < 103 → ms' j = ms j) : Rg gw' gk' ms' := by
  obtain ⟨a', h0, h1, h2, h3, h4, h5, h6, h7, h8, h9, h10, h11, h12, hs⟩ := h
  refine ⟨fun j hj => by rw [m _ (by omega), a' j hj, a j hj], ?_, ?_, ?_, ?_, ?_, ?_, ?_, ?_, ?_, ?_, ?_, ?_, ?_, ?_⟩
  all_goals (try rw [m _ (by omega)])
  all_goals rw [k _ (by omega)]
  all_goals first | assumption | (rw [k _ (by omega), k _ (by omega)]; assumption)
theorem Vw_congr {gw gw' : Nat → Int32} {u i : Nat} (h : Vw u gw i) (hi : i < 10) (a : ∀ j, j < 90 → gw' j = gw j) : Vw u gw' i := by
  rw [Vw, a _ (by omega), a _ (by omega), a _ (by omega), a _ (by omega), a _ (by omega), a _ (by omega), a _ (by omega), a _ (by omega), a _ (by omega)]
  exact h
theorem Vg_congr {gw gk gw' gk' : Nat → Int32} {n t u b : Nat} (h : Vg gw gk n t u b) (a : ∀ j, j < 90 → gw' j = gw j) (k : ∀ j, j < 18 → gk' j = gk j) : Vg gw' gk' n t u b := by
  obtain ⟨⟨k1, k2, k3, k4, k5, k6, k7, k8, k9, k10, k11⟩, s1, s2, s3, s4, s5⟩ := h
  have e : ∀ r i, i < 10 → pTm gw' r i = pTm gw r i := fun r i hi => by rw [pTm, pTm, a _ (by omega)]
  refine ⟨⟨k1, k2, k3, ?_, ?_, ?_, ?_, ?_, ?_, ?_, ?_⟩, ?_, ?_, fun i hi => Vw_congr (s3 i hi) (by omega) a, fun i h1 h2 => ?_, fun i j h1 h2 => ?_⟩
  · rw [k _ (by omega)]; exact k4
  · rw [k _ (by omega)]; exact k5
  · rw [k _ (by omega)]; exact k6
  · rw [k _ (by omega)]; exact k7
  · rw [k _ (by omega)]; exact k8
  · rw [k _ (by omega)]; exact k9
  · rw [k _ (by omega)]; exact k10
  · rw [k _ (by omega)]; exact k11
  · rw [cnt_congr n 0 (fun i _ hi => e 0 i (by omega))]; exact s1
  · rw [cnt_congr n 0 (fun i _ hi => e 1 i (by omega))]; exact s2
  · rw [a _ (by omega), a _ (by omega), a _ (by omega), a _ (by omega)]; exact s4 i h1 h2
  · rw [a _ (by omega), a _ (by omega)]; exact s5 i j h1 h2
theorem Gd_congr {gw gk gw' gk' : Nat → Int32} (h : Gd gw gk) (a : ∀ j, j < 90 → gw' j = gw j) (k : ∀ j, j < 18 → gk' j = gk j) : Gd gw' gk' := by
  obtain ⟨n, t, b, h, x⟩ := h
  exact ⟨n, t, b, Vg_congr h a k, Xn_congr x h.1.1 a k⟩
theorem cpy_at {f g : Nat → Int32} {n j : Nat} (h : j < n) : va_cpy f g 0 0 n j = f j := by
  rw [pk_cpy_in (by omega) (by omega), Nat.zero_add, Nat.sub_zero]
theorem sx_save : St_save Inv := by
  intro f_net u_det t_len t_cur t_kin t_tol t_don n_len h_old h_siz x_sav x_err x_rea x_det x_com v_gw v_gk v_bw v_bk v_vw v_vk v_h0w v_h0k v_h1w v_h1k v_h2w v_h2k v_h3w v_h3k v_h4w v_h4k v_h5w v_h5k v_rs v_rl v_ro v_ti v_tn v_ns m_chg m_thr m_rea m_det m_ref m_err m_ans m_sav m_net m_lin m_tap m_her m_cmd v_ms v_mw v_mv v_mp v_mf v_ml v_mt v_mc hI
  have z : fX8_copies 103 v_ms 103 v_mv 0 0 = some (va_cpy v_ms v_mv 0 0 103) := cop_e (sp := 0) (dp := 0) (by omega) (by omega) (by omega) (by omega)
  have e1 : v_ms 1 = v_gk 1 := hI.1.2.2.1
  refine ⟨(v_gk 1, 1, va_cpy v_gw v_vw 0 0 90, va_cpy v_gk v_vk 0 0 18), (v_gk 1, 0, 1, va_cpy v_ms v_mv 0 0 103), rfl, ?_, rfl, hI.1, hI.2.1, Or.inr ⟨rfl, rfl, Rg_congr hI.1 (fun j h => cpy_at h) (fun j h => cpy_at h) (fun j h => cpy_at h), Gd_congr hI.2.1 (fun j h => cpy_at h) (fun j h => cpy_at h)⟩, hI.2.2.2⟩
  rw [fX8_save, z, Option.bind_some, if_pos v103_1, cl_1, e1]
theorem sx_restore : St_restore Inv := by
  intro f_net u_det t_len t_cur t_kin t_tol t_don n_len h_old h_siz x_sav x_err x_rea x_det x_com v_gw v_gk v_bw v_bk v_vw v_vk v_h0w v_h0k v_h1w v_h1k v_h2w v_h2k v_h3w v_h3k v_h4w v_h4k v_h5w v_h5k v_rs v_rl v_ro v_ti v_tn v_ns m_chg m_thr m_rea m_det m_ref m_err m_ans m_sav m_net m_lin m_tap m_her m_cmd v_ms v_mw v_mv v_mp v_mf v_ml v_mt v_mc hI
  rcases hI.2.2.1 with ⟨s1, s2⟩ | ⟨s1, s2, s3, s4⟩
  · exact ⟨(6, 0, h_siz, v_gw, v_gk), (0, m_chg, 1, v_ms), by rw [fX7_restore, if_pos s1], by rw [fX8_restore, if_pos s2]; rfl, Or.inr rfl, rfl, fun h => absurd h (show ¬ (6 : Nat) = 0 by decide), hI⟩
  · have z : fX8_copies 103 v_mv 103 v_ms 0 0 = some (va_cpy v_mv v_ms 0 0 103) := cop_e (sp := 0) (dp := 0) (by omega) (by omega) (by omega) (by omega)
    obtain ⟨o, z2, g1, g2, g3, g4, g5, g6⟩ := hI.2.2.2.1
    refine ⟨(0, v_vk 1, 0, va_cpy v_vw v_gw 0 0 90, va_cpy v_vk v_gk 0 0 18), (v_vk 1, 0, 0, va_cpy v_mv v_ms 0 0 103), ?_, ?_, Or.inl rfl, rfl, fun _ => rfl, Rg_congr s3 (fun j h => cpy_at h) (fun j h => cpy_at h) (fun j h => cpy_at h), Gd_congr s4 (fun j h => cpy_at h) (fun j h => cpy_at h), Or.inr ⟨s1, s2, s3, s4⟩, ⟨o, 0, g1, rfl, rfl, g4, by omega, fun k hk => absurd hk (Nat.not_lt_zero _)⟩, hI.2.2.2.2⟩
    · rw [fX7_restore, s1, if_neg n10]; rfl
    · rw [fX8_restore, s2, if_neg n10, fX8_restore_13, th0, Option.bind_some, if_pos rfl, z, Option.bind_some, if_pos v103_1, cl_1, cpy_at (by omega), show v_mv 1 = v_vk 1 from s3.2.2.1]
theorem takeBack_e (gw gk h0w h0k h1w h1k h2w h2k h3w h3k h4w h4k h5w h5k : Nat → Int32) : ∀ o, o < 6 → ∀ z, z < 6 → fX2_takeBack (nI o) (nI (z + 1)) gw gk h0w h0k h1w h1k h2w h2k h3w h3k h4w h4k h5w h5k = some (nI z, va_cpy (pick6 h0w h1w h2w h3w h4w h5w ((o + z) % 6)) gw 0 0 90, va_cpy (pick6 h0k h1k h2k h3k h4k h5k ((o + z) % 6)) gk 0 0 18) := by
  intro o ho z hz
  match o, ho, z, hz with
  | 0, _, 0, _ => rfl
  | 0, _, 1, _ => rfl
  | 0, _, 2, _ => rfl
  | 0, _, 3, _ => rfl
  | 0, _, 4, _ => rfl
  | 0, _, 5, _ => rfl
  | 1, _, 0, _ => rfl
  | 1, _, 1, _ => rfl
  | 1, _, 2, _ => rfl
  | 1, _, 3, _ => rfl
  | 1, _, 4, _ => rfl
  | 1, _, 5, _ => rfl
  | 2, _, 0, _ => rfl
  | 2, _, 1, _ => rfl
  | 2, _, 2, _ => rfl
  | 2, _, 3, _ => rfl
  | 2, _, 4, _ => rfl
  | 2, _, 5, _ => rfl
  | 3, _, 0, _ => rfl
  | 3, _, 1, _ => rfl
  | 3, _, 2, _ => rfl
  | 3, _, 3, _ => rfl
  | 3, _, 4, _ => rfl
  | 3, _, 5, _ => rfl
  | 4, _, 0, _ => rfl
  | 4, _, 1, _ => rfl
  | 4, _, 2, _ => rfl
  | 4, _, 3, _ => rfl
  | 4, _, 4, _ => rfl
  | 4, _, 5, _ => rfl
  | 5, _, 0, _ => rfl
  | 5, _, 1, _ => rfl
  | 5, _, 2, _ => rfl
  | 5, _, 3, _ => rfl
  | 5, _, 4, _ => rfl
  | 5, _, 5, _ => rfl
  | a + 6, h, _, _ => exact absurd h (by omega)
  | _, _, a + 6, h => exact absurd h (by omega)
theorem sx_undo : St_undo Inv := by
  intro f_net u_det t_len t_cur t_kin t_tol t_don n_len h_old h_siz x_sav x_err x_rea x_det x_com v_gw v_gk v_bw v_bk v_vw v_vk v_h0w v_h0k v_h1w v_h1k v_h2w v_h2k v_h3w v_h3k v_h4w v_h4k v_h5w v_h5k v_rs v_rl v_ro v_ti v_tn v_ns m_chg m_thr m_rea m_det m_ref m_err m_ans m_sav m_net m_lin m_tap m_her m_cmd v_ms v_mw v_mv v_mp v_mf v_ml v_mt v_mc hI
  obtain ⟨o, z, g1, g2, g3, g4, g5, g6⟩ := hI.2.2.2.1
  cases z with
  | zero => exact ⟨(4, 0, h_siz, v_gw, v_gk), (0, m_chg, 1, v_ms), by rw [g2]; rfl, by rw [g3]; rfl, Or.inr rfl, rfl, fun h => absurd h (show ¬ (4 : Nat) = 0 by decide), hI⟩
  | succ z =>
    have nz : ¬ nI (z + 1) = 0 := nI_ne0 (by omega) (by omega)
    have e : (103 : Int32) * nI z = nI (103 * z) := pk_mul 103 z
    obtain ⟨r1, r2⟩ := g6 z (by omega)
    refine ⟨(0, nI z, nI z, va_cpy (pick6 v_h0w v_h1w v_h2w v_h3w v_h4w v_h5w ((o + z) % 6)) v_gw 0 0 90, va_cpy (pick6 v_h0k v_h1k v_h2k v_h3k v_h4k v_h5k ((o + z) % 6)) v_gk 0 0 18), (nI z, nI z, 0, va_cpy v_mp v_ms (103 * z) 0 103), ?_, ?_, Or.inl rfl, rfl, fun _ => rfl, ?_, ?_, hI.2.2.1, ⟨o, z, g1, rfl, rfl, g4, by omega, fun k hk => g6 k (by omega)⟩, hI.2.2.2.2⟩
    · rw [g1, g2, fX7_undo, fX2_size, if_neg nz, takeBack_e _ _ _ _ _ _ _ _ _ _ _ _ _ _ o g4 z (by omega)]; rfl
    · rw [g3, fX8_undo, if_neg nz, fX8_undo_13, th0, Option.bind_some, if_pos rfl, nI_pred, e, show (0 : Int32) = nI 0 from rfl, cop_e (by omega) (by omega) (by omega) (by omega)]; rfl
    · exact Rg_congr r1 (fun j h => cpy_at h) (fun j h => cpy_at h) (fun j h => by show va_cpy v_mp v_ms (103 * z) 0 103 j = _; rw [pk_cpy_in (by omega) (by omega), Nat.sub_zero])
    · exact Gd_congr r2 (fun j h => cpy_at h) (fun j h => cpy_at h)

