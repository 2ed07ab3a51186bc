/-! the game that the law begins with -/
def BS (x : Int32) (c : Nat) : Prop := -(2000000 * (c : Int)) ≤ x.toInt ∧ x.toInt ≤ 2000000 * (c : Int)
theorem BS_add {x y : Int32} {c : Nat} (h : BS x c) (g : BDL y) (hc : c < 100) : BS (x + y) (c + 1) := by
  have e : (x + y).toInt = x.toInt + y.toInt := by
    rw [Int32.toInt_add]
    have h1 := h.1
    have h2 := h.2
    have g1 := g.1
    have g2 := g.2
    rw [Int.bmod_eq_of_le] <;> omega
  have h1 := h.1
  have h2 := h.2
  have g1 := g.1
  have g2 := g.2
  refine ⟨?_, ?_⟩ <;> rw [e] <;> omega
theorem BS_n {x : Int32} {c : Nat} (h : BS x c) (hc : c ≤ 40) : (-90000000 : Int32) ≤ x := by
  rw [Int32.le_iff_toInt_le]
  have e : (-90000000 : Int32).toInt = -90000000 := rfl
  have := h.1
  omega
set_option maxHeartbeats 4000000 in
set_option maxRecDepth 100000 in
theorem bg_113 {xs : Nat → Int32} {Ln : Nat} : ∀ (d k i c : Nat) (l2 : Int32) (f_net : Int32) (u_det : Int32) (t_len : Int32) (t_cur : Int32) (t_kin : Int32) (t_tol : Int32) (t_don : Int32) (n_len : Int32) (h_old : Int32) (h_siz : Int32) (x_sav : Int32) (x_err : Int32) (x_rea : Int32) (x_det : Int32) (x_com : Int32) (v_gw : Nat → Int32) (v_gk : Nat → Int32) (v_bw : Nat → Int32) (v_bk : Nat → Int32) (v_vw : Nat → Int32) (v_vk : Nat → Int32) (v_h0w : Nat → Int32) (v_h0k : Nat → Int32) (v_h1w : Nat → Int32) (v_h1k : Nat → Int32) (v_h2w : Nat → Int32) (v_h2k : Nat → Int32) (v_h3w : Nat → Int32) (v_h3k : Nat → Int32) (v_h4w : Nat → Int32) (v_h4k : Nat → Int32) (v_h5w : Nat → Int32) (v_h5k : Nat → Int32) (v_rs : Nat → Int32) (v_rl : Nat → Int32) (v_ro : Nat → Int32) (v_ti : Nat → Int32) (v_tn : Nat → Int32) (v_ns : Nat → Int32), i + d = 3 ∧ c + d ≤ 40 → d < k → BS l2 c → I9 f_net u_det t_len t_cur t_kin t_tol t_don n_len h_old h_siz x_sav x_err x_rea x_det x_com v_gw v_gk v_bw v_bk v_vw v_vk v_h0w v_h0k v_h1w v_h1k v_h2w v_h2k v_h3w v_h3k v_h4w v_h4k v_h5w v_h5k v_rs v_rl v_ro v_ti v_tn v_ns → ∃ r, fL_begun_113 xs Ln k l2 (nI i) u_det h_old h_siz x_rea x_det x_com v_gw v_gk v_h0w v_h0k v_h1w v_h1k v_h2w v_h2k v_h3w v_h3k v_h4w v_h4k v_h5w v_h5k v_rs v_ro = some r ∧ I9 f_net r.1 t_len t_cur t_kin t_tol t_don n_len r.2.1 r.2.2.1 x_sav x_err r.2.2.2.1 r.2.2.2.2.1 r.2.2.2.2.2.1 r.2.2.2.2.2.2.1 r.2.2.2.2.2.2.2.1 v_bw v_bk v_vw v_vk r.2.2.2.2.2.2.2.2.1 r.2.2.2.2.2.2.2.2.2.1 r.2.2.2.2.2.2.2.2.2.2.1 r.2.2.2.2.2.2.2.2.2.2.2.1 r.2.2.2.2.2.2.2.2.2.2.2.2.1 r.2.2.2.2.2.2.2.2.2.2.2.2.2.1 r.2.2.2.2.2.2.2.2.2.2.2.2.2.2.1 r.2.2.2.2.2.2.2.2.2.2.2.2.2.2.2.1 r.2.2.2.2.2.2.2.2.2.2.2.2.2.2.2.2.1 r.2.2.2.2.2.2.2.2.2.2.2.2.2.2.2.2.2.1 r.2.2.2.2.2.2.2.2.2.2.2.2.2.2.2.2.2.2.1 r.2.2.2.2.2.2.2.2.2.2.2.2.2.2.2.2.2.2.2.1 r.2.2.2.2.2.2.2.2.2.2.2.2.2.2.2.2.2.2.2.2.1 v_rl r.2.2.2.2.2.2.2.2.2.2.2.2.2.2.2.2.2.2.2.2.2 v_ti v_tn v_ns := by
  intro d
  induction d with
  | zero =>
    intro k i c l2 f_net u_det t_len t_cur t_kin t_tol t_don n_len h_old h_siz x_sav x_err x_rea x_det x_com v_gw v_gk v_bw v_bk v_vw v_vk v_h0w v_h0k v_h1w v_h1k v_h2w v_h2k v_h3w v_h3k v_h4w v_h4k v_h5w v_h5k v_rs v_rl v_ro v_ti v_tn v_ns hi hk hS hJ
    obtain ⟨k, rfl⟩ : ∃ q, k = q + 1 := ⟨k - 1, by omega⟩
    obtain rfl : i = 3 := by omega
    rw [fL_begun_113, if_pos (show (3 : Int32) ≤ nI 3 from nI_le (a := 3) (by omega) (by omega)), if_pos (BS_n hS (by omega)), fL_begun_165]
    exact ⟨_, rfl, hJ⟩
  | succ d ih =>
    intro k i c l2 f_net u_det t_len t_cur t_kin t_tol t_don n_len h_old h_siz x_sav x_err x_rea x_det x_com v_gw v_gk v_bw v_bk v_vw v_vk v_h0w v_h0k v_h1w v_h1k v_h2w v_h2k v_h3w v_h3k v_h4w v_h4k v_h5w v_h5k v_rs v_rl v_ro v_ti v_tn v_ns hi hk hS hJ
    obtain ⟨k, rfl⟩ : ∃ q, k = q + 1 := ⟨k - 1, by omega⟩
    rw [fL_begun_113, if_neg (show ¬ (3 : Int32) ≤ nI i from nI_ge (b := 3) (by omega) (by omega)), if_pos (show ¬ (17 + nI i : Int32) < 0 from by rw [show (17 : Int32) = nI 17 from rfl, nI_add]; exact nI_pos (by omega)), if_pos (show ¬ (20 + nI i : Int32) < 0 from by rw [show (20 : Int32) = nI 20 from rfl, nI_add]; exact nI_pos (by omega))]
    obtain ⟨q, hq, Jq, Oq⟩ := do_swim f_net u_det t_len t_cur t_kin t_tol t_don n_len h_old h_siz x_sav x_err x_rea x_det x_com v_gw v_gk v_bw v_bk v_vw v_vk v_h0w v_h0k v_h1w v_h1k v_h2w v_h2k v_h3w v_h3k v_h4w v_h4k v_h5w v_h5k v_rs v_rl v_ro v_ti v_tn v_ns hJ.1 (fIN xs Ln (17 + nI i) 6) (fIN xs Ln (20 + nI i) 45) trivial
    have Bq : BDL q.1 := by
      rcases Oq with ⟨_, _, o2, _, _⟩ | ⟨b1, _, _⟩
      · exact o2
      · exact BDL_of b1
    have Nq : ∀ m, NGE m v_gk → NGE m q.2.2.2.2.2.2.2.2.1 := by
      rcases Oq with ⟨_, _, _, _, o4⟩ | ⟨_, n1, _⟩
      · exact fun m hm => o4.symm ▸ hm
      · exact n1
    rw [hq, Option.bind_some, nI_1]
    exact ih k (i + 1) (c + 1) _ f_net q.2.1 t_len t_cur t_kin t_tol t_don n_len q.2.2.1 q.2.2.2.1 x_sav x_err q.2.2.2.2.1 q.2.2.2.2.2.1 q.2.2.2.2.2.2.1 q.2.2.2.2.2.2.2.1 q.2.2.2.2.2.2.2.2.1 v_bw v_bk v_vw v_vk q.2.2.2.2.2.2.2.2.2.1 q.2.2.2.2.2.2.2.2.2.2.1 q.2.2.2.2.2.2.2.2.2.2.2.1 q.2.2.2.2.2.2.2.2.2.2.2.2.1 q.2.2.2.2.2.2.2.2.2.2.2.2.2.1 q.2.2.2.2.2.2.2.2.2.2.2.2.2.2.1 q.2.2.2.2.2.2.2.2.2.2.2.2.2.2.2.1 q.2.2.2.2.2.2.2.2.2.2.2.2.2.2.2.2.1 q.2.2.2.2.2.2.2.2.2.2.2.2.2.2.2.2.2.1 q.2.2.2.2.2.2.2.2.2.2.2.2.2.2.2.2.2.2.1 q.2.2.2.2.2.2.2.2.2.2.2.2.2.2.2.2.2.2.2.1 q.2.2.2.2.2.2.2.2.2.2.2.2.2.2.2.2.2.2.2.2.1 q.2.2.2.2.2.2.2.2.2.2.2.2.2.2.2.2.2.2.2.2.2.1 v_rl q.2.2.2.2.2.2.2.2.2.2.2.2.2.2.2.2.2.2.2.2.2.2 v_ti v_tn v_ns ⟨by omega, by omega⟩ (by omega) (BS_add hS Bq (by omega)) ⟨Jq, Nq 2 hJ.2⟩
set_option maxHeartbeats 4000000 in
set_option maxRecDepth 100000 in
theorem bg_91 {xs : Nat → Int32} {Ln : Nat} : ∀ (d k i c : Nat) (m : Nat) (l2 : Int32) (f_net : Int32) (u_det : Int32) (t_len : Int32) (t_cur : Int32) (t_kin : Int32) (t_tol : Int32) (t_don : Int32) (n_len : Int32) (h_old : Int32) (h_siz : Int32) (x_sav : Int32) (x_err : Int32) (x_rea : Int32) (x_det : Int32) (x_com : Int32) (v_gw : Nat → Int32) (v_gk : Nat → Int32) (v_bw : Nat → Int32) (v_bk : Nat → Int32) (v_vw : Nat → Int32) (v_vk : Nat → Int32) (v_h0w : Nat → Int32) (v_h0k : Nat → Int32) (v_h1w : Nat → Int32) (v_h1k : Nat → Int32) (v_h2w : Nat → Int32) (v_h2k : Nat → Int32) (v_h3w : Nat → Int32) (v_h3k : Nat → Int32) (v_h4w : Nat → Int32) (v_h4k : Nat → Int32) (v_h5w : Nat → Int32) (v_h5k : Nat → Int32) (v_rs : Nat → Int32) (v_rl : Nat → Int32) (v_ro : Nat → Int32) (v_ti : Nat → Int32) (v_tn : Nat → Int32) (v_ns : Nat → Int32), i + d = m ∧ m < 16 ∧ c + d + 3 ≤ 40 → d < k → BS l2 c → I9 f_net u_det t_len t_cur t_kin t_tol t_don n_len h_old h_siz x_sav x_err x_rea x_det x_com v_gw v_gk v_bw v_bk v_vw v_vk v_h0w v_h0k v_h1w v_h1k v_h2w v_h2k v_h3w v_h3k v_h4w v_h4k v_h5w v_h5k v_rs v_rl v_ro v_ti v_tn v_ns → ∃ r, fL_begun_91 xs Ln k l2 (nI m) (nI i) u_det h_old h_siz x_rea x_det x_com v_gw v_gk v_h0w v_h0k v_h1w v_h1k v_h2w v_h2k v_h3w v_h3k v_h4w v_h4k v_h5w v_h5k v_rs v_ro = some r ∧ I9 f_net r.1 t_len t_cur t_kin t_tol t_don n_len r.2.1 r.2.2.1 x_sav x_err r.2.2.2.1 r.2.2.2.2.1 r.2.2.2.2.2.1 r.2.2.2.2.2.2.1 r.2.2.2.2.2.2.2.1 v_bw v_bk v_vw v_vk r.2.2.2.2.2.2.2.2.1 r.2.2.2.2.2.2.2.2.2.1 r.2.2.2.2.2.2.2.2.2.2.1 r.2.2.2.2.2.2.2.2.2.2.2.1 r.2.2.2.2.2.2.2.2.2.2.2.2.1 r.2.2.2.2.2.2.2.2.2.2.2.2.2.1 r.2.2.2.2.2.2.2.2.2.2.2.2.2.2.1 r.2.2.2.2.2.2.2.2.2.2.2.2.2.2.2.1 r.2.2.2.2.2.2.2.2.2.2.2.2.2.2.2.2.1 r.2.2.2.2.2.2.2.2.2.2.2.2.2.2.2.2.2.1 r.2.2.2.2.2.2.2.2.2.2.2.2.2.2.2.2.2.2.1 r.2.2.2.2.2.2.2.2.2.2.2.2.2.2.2.2.2.2.2.1 r.2.2.2.2.2.2.2.2.2.2.2.2.2.2.2.2.2.2.2.2.1 v_rl r.2.2.2.2.2.2.2.2.2.2.2.2.2.2.2.2.2.2.2.2.2 v_ti v_tn v_ns := by
  intro d
  induction d with
  | zero =>
    intro k i c m l2 f_net u_det t_len t_cur t_kin t_tol t_don n_len h_old h_siz x_sav x_err x_rea x_det x_com v_gw v_gk v_bw v_bk v_vw v_vk v_h0w v_h0k v_h1w v_h1k v_h2w v_h2k v_h3w v_h3k v_h4w v_h4k v_h5w v_h5k v_rs v_rl v_ro v_ti v_tn v_ns hi hk hS hJ
    obtain ⟨k, rfl⟩ : ∃ q, k = q + 1 := ⟨k - 1, by omega⟩
    obtain rfl : i = m := by omega
    rw [fL_begun_91, if_pos (nI_le (by omega) (by omega))]
    exact bg_113 3 20 0 c l2 f_net u_det t_len t_cur t_kin t_tol t_don n_len h_old h_siz x_sav x_err x_rea x_det x_com v_gw v_gk v_bw v_bk v_vw v_vk v_h0w v_h0k v_h1w v_h1k v_h2w v_h2k v_h3w v_h3k v_h4w v_h4k v_h5w v_h5k v_rs v_rl v_ro v_ti v_tn v_ns ⟨by omega, by omega⟩ (by omega) hS hJ
  | succ d ih =>
    intro k i c m l2 f_net u_det t_len t_cur t_kin t_tol t_don n_len h_old h_siz x_sav x_err x_rea x_det x_com v_gw v_gk v_bw v_bk v_vw v_vk v_h0w v_h0k v_h1w v_h1k v_h2w v_h2k v_h3w v_h3k v_h4w v_h4k v_h5w v_h5k v_rs v_rl v_ro v_ti v_tn v_ns hi hk hS hJ
    obtain ⟨k, rfl⟩ : ∃ q, k = q + 1 := ⟨k - 1, by omega⟩
    rw [fL_begun_91, if_neg (nI_ge (by omega) (by omega))]
    obtain ⟨q, hq, Jq, Oq⟩ := do_drift f_net u_det t_len t_cur t_kin t_tol t_don n_len h_old h_siz x_sav x_err x_rea x_det x_com v_gw v_gk v_bw v_bk v_vw v_vk v_h0w v_h0k v_h1w v_h1k v_h2w v_h2k v_h3w v_h3k v_h4w v_h4k v_h5w v_h5k v_rs v_rl v_ro v_ti v_tn v_ns hJ.1 trivial
    have Bq : BDL q.1 := by
      rcases Oq with ⟨_, _, o2, _, _⟩ | ⟨b1, _, _⟩
      · exact o2
      · exact BDL_of b1
    have Nq : ∀ m, NGE m v_gk → NGE m q.2.2.2.2.2.2.2.2.1 := by
      rcases Oq with ⟨_, _, _, _, o4⟩ | ⟨_, n1, _⟩
      · exact fun m hm => o4.symm ▸ hm
      · exact n1
    rw [hq, Option.bind_some, nI_1]
    exact ih k (i + 1) (c + 1) m _ f_net q.2.1 t_len t_cur t_kin t_tol t_don n_len q.2.2.1 q.2.2.2.1 x_sav x_err q.2.2.2.2.1 q.2.2.2.2.2.1 q.2.2.2.2.2.2.1 q.2.2.2.2.2.2.2.1 q.2.2.2.2.2.2.2.2.1 v_bw v_bk v_vw v_vk q.2.2.2.2.2.2.2.2.2.1 q.2.2.2.2.2.2.2.2.2.2.1 q.2.2.2.2.2.2.2.2.2.2.2.1 q.2.2.2.2.2.2.2.2.2.2.2.2.1 q.2.2.2.2.2.2.2.2.2.2.2.2.2.1 q.2.2.2.2.2.2.2.2.2.2.2.2.2.2.1 q.2.2.2.2.2.2.2.2.2.2.2.2.2.2.2.1 q.2.2.2.2.2.2.2.2.2.2.2.2.2.2.2.2.1 q.2.2.2.2.2.2.2.2.2.2.2.2.2.2.2.2.2.1 q.2.2.2.2.2.2.2.2.2.2.2.2.2.2.2.2.2.2.1 q.2.2.2.2.2.2.2.2.2.2.2.2.2.2.2.2.2.2.2.1 q.2.2.2.2.2.2.2.2.2.2.2.2.2.2.2.2.2.2.2.2 v_rs v_rl v_ro v_ti v_tn v_ns ⟨by omega, by omega, by omega⟩ (by omega) (BS_add hS Bq (by omega)) ⟨Jq, Nq 2 hJ.2⟩
set_option maxHeartbeats 4000000 in
set_option maxRecDepth 100000 in
theorem bg_12 {xs : Nat → Int32} {Ln : Nat} : ∀ (d k i c : Nat) (l2 : Int32) (f_net : Int32) (u_det : Int32) (t_len : Int32) (t_cur : Int32) (t_kin : Int32) (t_tol : Int32) (t_don : Int32) (n_len : Int32) (h_old : Int32) (h_siz : Int32) (x_sav : Int32) (x_err : Int32) (x_rea : Int32) (x_det : Int32) (x_com : Int32) (v_gw : Nat → Int32) (v_gk : Nat → Int32) (v_bw : Nat → Int32) (v_bk : Nat → Int32) (v_vw : Nat → Int32) (v_vk : Nat → Int32) (v_h0w : Nat → Int32) (v_h0k : Nat → Int32) (v_h1w : Nat → Int32) (v_h1k : Nat → Int32) (v_h2w : Nat → Int32) (v_h2k : Nat → Int32) (v_h3w : Nat → Int32) (v_h3k : Nat → Int32) (v_h4w : Nat → Int32) (v_h4k : Nat → Int32) (v_h5w : Nat → Int32) (v_h5k : Nat → Int32) (v_rs : Nat → Int32) (v_rl : Nat → Int32) (v_ro : Nat → Int32) (v_ti : Nat → Int32) (v_tn : Nat → Int32) (v_ns : Nat → Int32), i + d = 4 ∧ c + 2 * d + 18 ≤ 40 → d < k → BS l2 c → I9 f_net u_det t_len t_cur t_kin t_tol t_don n_len h_old h_siz x_sav x_err x_rea x_det x_com v_gw v_gk v_bw v_bk v_vw v_vk v_h0w v_h0k v_h1w v_h1k v_h2w v_h2k v_h3w v_h3k v_h4w v_h4k v_h5w v_h5k v_rs v_rl v_ro v_ti v_tn v_ns → ∃ r, fL_begun_12 xs Ln k l2 (nI i) u_det h_old h_siz x_rea x_det x_com v_gw v_gk v_h0w v_h0k v_h1w v_h1k v_h2w v_h2k v_h3w v_h3k v_h4w v_h4k v_h5w v_h5k v_rs v_ro = some r ∧ I9 f_net r.1 t_len t_cur t_kin t_tol t_don n_len r.2.1 r.2.2.1 x_sav x_err r.2.2.2.1 r.2.2.2.2.1 r.2.2.2.2.2.1 r.2.2.2.2.2.2.1 r.2.2.2.2.2.2.2.1 v_bw v_bk v_vw v_vk r.2.2.2.2.2.2.2.2.1 r.2.2.2.2.2.2.2.2.2.1 r.2.2.2.2.2.2.2.2.2.2.1 r.2.2.2.2.2.2.2.2.2.2.2.1 r.2.2.2.2.2.2.2.2.2.2.2.2.1 r.2.2.2.2.2.2.2.2.2.2.2.2.2.1 r.2.2.2.2.2.2.2.2.2.2.2.2.2.2.1 r.2.2.2.2.2.2.2.2.2.2.2.2.2.2.2.1 r.2.2.2.2.2.2.2.2.2.2.2.2.2.2.2.2.1 r.2.2.2.2.2.2.2.2.2.2.2.2.2.2.2.2.2.1 r.2.2.2.2.2.2.2.2.2.2.2.2.2.2.2.2.2.2.1 r.2.2.2.2.2.2.2.2.2.2.2.2.2.2.2.2.2.2.2.1 r.2.2.2.2.2.2.2.2.2.2.2.2.2.2.2.2.2.2.2.2.1 v_rl r.2.2.2.2.2.2.2.2.2.2.2.2.2.2.2.2.2.2.2.2.2 v_ti v_tn v_ns := by
  intro d
  induction d with
  | zero =>
    intro k i c l2 f_net u_det t_len t_cur t_kin t_tol t_don n_len h_old h_siz x_sav x_err x_rea x_det x_com v_gw v_gk v_bw v_bk v_vw v_vk v_h0w v_h0k v_h1w v_h1k v_h2w v_h2k v_h3w v_h3k v_h4w v_h4k v_h5w v_h5k v_rs v_rl v_ro v_ti v_tn v_ns hi hk hS hJ
    obtain ⟨k, rfl⟩ : ∃ q, k = q + 1 := ⟨k - 1, by omega⟩
    obtain rfl : i = 4 := by omega
    obtain ⟨m, hm, hf⟩ := fIN_in xs Ln 16 (n := 16) (by decide) (by decide)
    rw [fL_begun_12, if_pos (show (4 : Int32) ≤ nI 4 from nI_le (a := 4) (by omega) (by omega)), if_pos (show ¬ (16 : Int32) < 0 by decide), show fIN xs Ln 16 16 = nI m from hf]
    exact bg_91 m 20 0 c m l2 f_net u_det t_len t_cur t_kin t_tol t_don n_len h_old h_siz x_sav x_err x_rea x_det x_com v_gw v_gk v_bw v_bk v_vw v_vk v_h0w v_h0k v_h1w v_h1k v_h2w v_h2k v_h3w v_h3k v_h4w v_h4k v_h5w v_h5k v_rs v_rl v_ro v_ti v_tn v_ns ⟨by omega, hm, by omega⟩ (by omega) hS hJ
  | succ d ih =>
    intro k i c l2 f_net u_det t_len t_cur t_kin t_tol t_don n_len h_old h_siz x_sav x_err x_rea x_det x_com v_gw v_gk v_bw v_bk v_vw v_vk v_h0w v_h0k v_h1w v_h1k v_h2w v_h2k v_h3w v_h3k v_h4w v_h4k v_h5w v_h5k v_rs v_rl v_ro v_ti v_tn v_ns hi hk hS hJ
    obtain ⟨k, rfl⟩ : ∃ q, k = q + 1 := ⟨k - 1, by omega⟩
    rw [fL_begun_12, if_neg (show ¬ (4 : Int32) ≤ nI i from nI_ge (b := 4) (by omega) (by omega)), if_pos (nI_pos (by omega)), if_pos (show ¬ (4 + nI i : Int32) < 0 from by rw [show (4 : Int32) = nI 4 from rfl, nI_add]; exact nI_pos (by omega))]
    obtain ⟨q5, hq5, Jq5, Oq5⟩ := do_whale f_net u_det t_len t_cur t_kin t_tol t_don n_len h_old h_siz x_sav x_err x_rea x_det x_com v_gw v_gk v_bw v_bk v_vw v_vk v_h0w v_h0k v_h1w v_h1k v_h2w v_h2k v_h3w v_h3k v_h4w v_h4k v_h5w v_h5k v_rs v_rl v_ro v_ti v_tn v_ns hJ.1 0 (1 + fIN xs Ln (nI i) 5) (1 + fIN xs Ln (4 + nI i) 4) trivial
    have Bq5 : BDL q5.1 := by
      rcases Oq5 with ⟨_, _, o2, _, _⟩ | ⟨b1, _, _⟩
      · exact o2
      · exact BDL_of b1
    have Nq5 : ∀ m, NGE m v_gk → NGE m q5.2.2.2.2.2.2.2.2.1 := by
      rcases Oq5 with ⟨_, _, _, _, o4⟩ | ⟨_, n1, _⟩
      · exact fun m hm => o4.symm ▸ hm
      · exact n1
    obtain ⟨q9, hq9, Jq9, Oq9⟩ := do_whale f_net q5.2.1 t_len t_cur t_kin t_tol t_don n_len q5.2.2.1 q5.2.2.2.1 x_sav x_err q5.2.2.2.2.1 q5.2.2.2.2.2.1 q5.2.2.2.2.2.2.1 q5.2.2.2.2.2.2.2.1 q5.2.2.2.2.2.2.2.2.1 v_bw v_bk v_vw v_vk q5.2.2.2.2.2.2.2.2.2.1 q5.2.2.2.2.2.2.2.2.2.2.1 q5.2.2.2.2.2.2.2.2.2.2.2.1 q5.2.2.2.2.2.2.2.2.2.2.2.2.1 q5.2.2.2.2.2.2.2.2.2.2.2.2.2.1 q5.2.2.2.2.2.2.2.2.2.2.2.2.2.2.1 q5.2.2.2.2.2.2.2.2.2.2.2.2.2.2.2.1 q5.2.2.2.2.2.2.2.2.2.2.2.2.2.2.2.2.1 q5.2.2.2.2.2.2.2.2.2.2.2.2.2.2.2.2.2.1 q5.2.2.2.2.2.2.2.2.2.2.2.2.2.2.2.2.2.2.1 q5.2.2.2.2.2.2.2.2.2.2.2.2.2.2.2.2.2.2.2.1 q5.2.2.2.2.2.2.2.2.2.2.2.2.2.2.2.2.2.2.2.2 v_rs v_rl v_ro v_ti v_tn v_ns Jq5 1 (1 + fIN xs Ln (8 + nI i) 5) (1 + fIN xs Ln (12 + nI i) 4) trivial
    have Bq9 : BDL q9.1 := by
      rcases Oq9 with ⟨_, _, o2, _, _⟩ | ⟨b1, _, _⟩
      · exact o2
      · exact BDL_of b1
    have Nq9 : ∀ m, NGE m q5.2.2.2.2.2.2.2.2.1 → NGE m q9.2.2.2.2.2.2.2.2.1 := by
      rcases Oq9 with ⟨_, _, _, _, o4⟩ | ⟨_, n1, _⟩
      · exact fun m hm => o4.symm ▸ hm
      · exact n1
    rw [hq5, Option.bind_some, if_pos (show ¬ (8 + nI i : Int32) < 0 from by rw [show (8 : Int32) = nI 8 from rfl, nI_add]; exact nI_pos (by omega)), if_pos (show ¬ (12 + nI i : Int32) < 0 from by rw [show (12 : Int32) = nI 12 from rfl, nI_add]; exact nI_pos (by omega)), hq9, Option.bind_some, nI_1]
    exact ih k (i + 1) (c + 2) _ f_net q9.2.1 t_len t_cur t_kin t_tol t_don n_len q9.2.2.1 q9.2.2.2.1 x_sav x_err q9.2.2.2.2.1 q9.2.2.2.2.2.1 q9.2.2.2.2.2.2.1 q9.2.2.2.2.2.2.2.1 q9.2.2.2.2.2.2.2.2.1 v_bw v_bk v_vw v_vk q9.2.2.2.2.2.2.2.2.2.1 q9.2.2.2.2.2.2.2.2.2.2.1 q9.2.2.2.2.2.2.2.2.2.2.2.1 q9.2.2.2.2.2.2.2.2.2.2.2.2.1 q9.2.2.2.2.2.2.2.2.2.2.2.2.2.1 q9.2.2.2.2.2.2.2.2.2.2.2.2.2.2.1 q9.2.2.2.2.2.2.2.2.2.2.2.2.2.2.2.1 q9.2.2.2.2.2.2.2.2.2.2.2.2.2.2.2.2.1 q9.2.2.2.2.2.2.2.2.2.2.2.2.2.2.2.2.2.1 q9.2.2.2.2.2.2.2.2.2.2.2.2.2.2.2.2.2.2.1 q9.2.2.2.2.2.2.2.2.2.2.2.2.2.2.2.2.2.2.2.1 q9.2.2.2.2.2.2.2.2.2.2.2.2.2.2.2.2.2.2.2.2 v_rs v_rl v_ro v_ti v_tn v_ns ⟨by omega, by omega⟩ (by omega) (BS_add (BS_add hS Bq5 (by omega)) Bq9 (by omega)) ⟨Jq9, Nq9 2 (Nq5 2 hJ.2)⟩
theorem two_0 : ∀ s, s < 5 → ∀ v, v < 4 → ∀ s2, s2 < 5 → ∀ v2, v2 < 4 → ((fL_whale 0 0 0 0 0 (-1) (fun _ => 0) (upd (upd (fun _ => 0) (5 : Int32).toNatClampNeg 22) (6 : Int32).toNatClampNeg (-1)) (fun _ => 0) (upd (upd (fun _ => 0) (5 : Int32).toNatClampNeg 22) (6 : Int32).toNatClampNeg (-1)) (fun _ => 0) (upd (upd (fun _ => 0) (5 : Int32).toNatClampNeg 22) (6 : Int32).toNatClampNeg (-1)) (fun _ => 0) (upd (upd (fun _ => 0) (5 : Int32).toNatClampNeg 22) (6 : Int32).toNatClampNeg (-1)) (fun _ => 0) (upd (upd (fun _ => 0) (5 : Int32).toNatClampNeg 22) (6 : Int32).toNatClampNeg (-1)) (fun _ => 0) (upd (upd (fun _ => 0) (5 : Int32).toNatClampNeg 22) (6 : Int32).toNatClampNeg (-1)) (fun _ => 0) (upd (upd (fun _ => 0) (5 : Int32).toNatClampNeg 22) (6 : Int32).toNatClampNeg (-1)) 0 (1 + nI s) (1 + nI v)).bind fun q => (fL_whale q.2.1 q.2.2.1 q.2.2.2.1 q.2.2.2.2.1 q.2.2.2.2.2.1 q.2.2.2.2.2.2.1 q.2.2.2.2.2.2.2.1 q.2.2.2.2.2.2.2.2.1 q.2.2.2.2.2.2.2.2.2.1 q.2.2.2.2.2.2.2.2.2.2.1 q.2.2.2.2.2.2.2.2.2.2.2.1 q.2.2.2.2.2.2.2.2.2.2.2.2.1 q.2.2.2.2.2.2.2.2.2.2.2.2.2.1 q.2.2.2.2.2.2.2.2.2.2.2.2.2.2.1 q.2.2.2.2.2.2.2.2.2.2.2.2.2.2.2.1 q.2.2.2.2.2.2.2.2.2.2.2.2.2.2.2.2.1 q.2.2.2.2.2.2.2.2.2.2.2.2.2.2.2.2.2.1 q.2.2.2.2.2.2.2.2.2.2.2.2.2.2.2.2.2.2.1 q.2.2.2.2.2.2.2.2.2.2.2.2.2.2.2.2.2.2.2.1 q.2.2.2.2.2.2.2.2.2.2.2.2.2.2.2.2.2.2.2.2 1 (1 + nI s2) (1 + nI v2)).map fun q2 => q2.2.2.2.2.2.2.2.2.1 0) = some 2 := by decide +kernel
set_option maxHeartbeats 4000000 in
set_option maxRecDepth 100000 in
theorem sp_begun : Sp_begun I9 := by
  intro xs Ln hL
  have J0 : J9x 0 0 0 0 (-1) 0 0 0 0 0 0 (-1) 0 0 (-1) (fun _ => 0) (upd (upd (fun _ => 0) (5 : Int32).toNatClampNeg 22) (6 : Int32).toNatClampNeg (-1)) (fun _ => 0) (upd (upd (fun _ => 0) (5 : Int32).toNatClampNeg 22) (6 : Int32).toNatClampNeg (-1)) (fun _ => 0) (upd (upd (fun _ => 0) (5 : Int32).toNatClampNeg 22) (6 : Int32).toNatClampNeg (-1)) (fun _ => 0) (upd (upd (fun _ => 0) (5 : Int32).toNatClampNeg 22) (6 : Int32).toNatClampNeg (-1)) (fun _ => 0) (upd (upd (fun _ => 0) (5 : Int32).toNatClampNeg 22) (6 : Int32).toNatClampNeg (-1)) (fun _ => 0) (upd (upd (fun _ => 0) (5 : Int32).toNatClampNeg 22) (6 : Int32).toNatClampNeg (-1)) (fun _ => 0) (upd (upd (fun _ => 0) (5 : Int32).toNatClampNeg 22) (6 : Int32).toNatClampNeg (-1)) (fun _ => 0) (upd (upd (fun _ => 0) (5 : Int32).toNatClampNeg 22) (6 : Int32).toNatClampNeg (-1)) (fun _ => 0) (upd (upd (fun _ => 0) (5 : Int32).toNatClampNeg 22) (6 : Int32).toNatClampNeg (-1)) (fun _ => 0) (fun _ => 0) (fun _ => 0) (fun _ => 0) (fun _ => 0) (fun _ => 0) := ⟨⟨_, _, _, _, _, _, _, _, _, _, _, _, _, _, _, _, _, _, _, _, _, inv0⟩, rfl⟩
  obtain ⟨q5, hq5, Jq5, Oq5⟩ := do_whale 0 0 0 0 (-1) 0 0 0 0 0 0 (-1) 0 0 (-1) (fun _ => 0) (upd (upd (fun _ => 0) (5 : Int32).toNatClampNeg 22) (6 : Int32).toNatClampNeg (-1)) (fun _ => 0) (upd (upd (fun _ => 0) (5 : Int32).toNatClampNeg 22) (6 : Int32).toNatClampNeg (-1)) (fun _ => 0) (upd (upd (fun _ => 0) (5 : Int32).toNatClampNeg 22) (6 : Int32).toNatClampNeg (-1)) (fun _ => 0) (upd (upd (fun _ => 0) (5 : Int32).toNatClampNeg 22) (6 : Int32).toNatClampNeg (-1)) (fun _ => 0) (upd (upd (fun _ => 0) (5 : Int32).toNatClampNeg 22) (6 : Int32).toNatClampNeg (-1)) (fun _ => 0) (upd (upd (fun _ => 0) (5 : Int32).toNatClampNeg 22) (6 : Int32).toNatClampNeg (-1)) (fun _ => 0) (upd (upd (fun _ => 0) (5 : Int32).toNatClampNeg 22) (6 : Int32).toNatClampNeg (-1)) (fun _ => 0) (upd (upd (fun _ => 0) (5 : Int32).toNatClampNeg 22) (6 : Int32).toNatClampNeg (-1)) (fun _ => 0) (upd (upd (fun _ => 0) (5 : Int32).toNatClampNeg 22) (6 : Int32).toNatClampNeg (-1)) (fun _ => 0) (fun _ => 0) (fun _ => 0) (fun _ => 0) (fun _ => 0) (fun _ => 0) J0 0 (1 + fIN xs Ln 0 5) (1 + fIN xs Ln (4 + 0) 4) trivial
  have Bq5 : BDL q5.1 := by
    rcases Oq5 with ⟨_, _, o2, _, _⟩ | ⟨b1, _, _⟩
    · exact o2
    · exact BDL_of b1
  have Nq5 : ∀ m, NGE m (upd (upd (fun _ => 0) (5 : Int32).toNatClampNeg 22) (6 : Int32).toNatClampNeg (-1)) → NGE m q5.2.2.2.2.2.2.2.2.1 := by
    rcases Oq5 with ⟨_, _, _, _, o4⟩ | ⟨_, n1, _⟩
    · exact fun m hm => o4.symm ▸ hm
    · exact n1
  obtain ⟨q9, hq9, Jq9, Oq9⟩ := do_whale 0 q5.2.1 0 0 (-1) 0 0 0 q5.2.2.1 q5.2.2.2.1 0 (-1) q5.2.2.2.2.1 q5.2.2.2.2.2.1 q5.2.2.2.2.2.2.1 q5.2.2.2.2.2.2.2.1 q5.2.2.2.2.2.2.2.2.1 (fun _ => 0) (upd (upd (fun _ => 0) (5 : Int32).toNatClampNeg 22) (6 : Int32).toNatClampNeg (-1)) (fun _ => 0) (upd (upd (fun _ => 0) (5 : Int32).toNatClampNeg 22) (6 : Int32).toNatClampNeg (-1)) q5.2.2.2.2.2.2.2.2.2.1 q5.2.2.2.2.2.2.2.2.2.2.1 q5.2.2.2.2.2.2.2.2.2.2.2.1 q5.2.2.2.2.2.2.2.2.2.2.2.2.1 q5.2.2.2.2.2.2.2.2.2.2.2.2.2.1 q5.2.2.2.2.2.2.2.2.2.2.2.2.2.2.1 q5.2.2.2.2.2.2.2.2.2.2.2.2.2.2.2.1 q5.2.2.2.2.2.2.2.2.2.2.2.2.2.2.2.2.1 q5.2.2.2.2.2.2.2.2.2.2.2.2.2.2.2.2.2.1 q5.2.2.2.2.2.2.2.2.2.2.2.2.2.2.2.2.2.2.1 q5.2.2.2.2.2.2.2.2.2.2.2.2.2.2.2.2.2.2.2.1 q5.2.2.2.2.2.2.2.2.2.2.2.2.2.2.2.2.2.2.2.2 (fun _ => 0) (fun _ => 0) (fun _ => 0) (fun _ => 0) (fun _ => 0) (fun _ => 0) Jq5 1 (1 + fIN xs Ln (8 + 0) 5) (1 + fIN xs Ln (12 + 0) 4) trivial
  have Bq9 : BDL q9.1 := by
    rcases Oq9 with ⟨_, _, o2, _, _⟩ | ⟨b1, _, _⟩
    · exact o2
    · exact BDL_of b1
  have Nq9 : ∀ m, NGE m q5.2.2.2.2.2.2.2.2.1 → NGE m q9.2.2.2.2.2.2.2.2.1 := by
    rcases Oq9 with ⟨_, _, _, _, o4⟩ | ⟨_, n1, _⟩
    · exact fun m hm => o4.symm ▸ hm
    · exact n1
  obtain ⟨s, hs, es⟩ := fIN_in xs Ln 0 (n := 5) (by decide) (by decide)
  obtain ⟨v, hv, ev⟩ := fIN_in xs Ln (4 + 0) (n := 4) (by decide) (by decide)
  obtain ⟨s2, hs2, es2⟩ := fIN_in xs Ln (8 + 0) (n := 5) (by decide) (by decide)
  obtain ⟨v2, hv2, ev2⟩ := fIN_in xs Ln (12 + 0) (n := 4) (by decide) (by decide)
  replace es : fIN xs Ln 0 5 = nI s := es
  replace ev : fIN xs Ln (4 + 0) 4 = nI v := ev
  replace es2 : fIN xs Ln (8 + 0) 5 = nI s2 := es2
  replace ev2 : fIN xs Ln (12 + 0) 4 = nI v2 := ev2
  have z := two_0 s hs v hv s2 hs2 v2 hv2
  rw [← es, ← ev, ← es2, ← ev2] at z
  have z2 := z
  rw [show fL_whale 0 0 0 0 0 (-1) (fun _ => 0) (upd (upd (fun _ => 0) (5 : Int32).toNatClampNeg 22) (6 : Int32).toNatClampNeg (-1)) (fun _ => 0) (upd (upd (fun _ => 0) (5 : Int32).toNatClampNeg 22) (6 : Int32).toNatClampNeg (-1)) (fun _ => 0) (upd (upd (fun _ => 0) (5 : Int32).toNatClampNeg 22) (6 : Int32).toNatClampNeg (-1)) (fun _ => 0) (upd (upd (fun _ => 0) (5 : Int32).toNatClampNeg 22) (6 : Int32).toNatClampNeg (-1)) (fun _ => 0) (upd (upd (fun _ => 0) (5 : Int32).toNatClampNeg 22) (6 : Int32).toNatClampNeg (-1)) (fun _ => 0) (upd (upd (fun _ => 0) (5 : Int32).toNatClampNeg 22) (6 : Int32).toNatClampNeg (-1)) (fun _ => 0) (upd (upd (fun _ => 0) (5 : Int32).toNatClampNeg 22) (6 : Int32).toNatClampNeg (-1)) 0 (1 + fIN xs Ln 0 5) (1 + fIN xs Ln (4 + 0) 4) = some q5 from hq5, Option.bind_some, show fL_whale q5.2.1 q5.2.2.1 q5.2.2.2.1 q5.2.2.2.2.1 q5.2.2.2.2.2.1 q5.2.2.2.2.2.2.1 q5.2.2.2.2.2.2.2.1 q5.2.2.2.2.2.2.2.2.1 q5.2.2.2.2.2.2.2.2.2.1 q5.2.2.2.2.2.2.2.2.2.2.1 q5.2.2.2.2.2.2.2.2.2.2.2.1 q5.2.2.2.2.2.2.2.2.2.2.2.2.1 q5.2.2.2.2.2.2.2.2.2.2.2.2.2.1 q5.2.2.2.2.2.2.2.2.2.2.2.2.2.2.1 q5.2.2.2.2.2.2.2.2.2.2.2.2.2.2.2.1 q5.2.2.2.2.2.2.2.2.2.2.2.2.2.2.2.2.1 q5.2.2.2.2.2.2.2.2.2.2.2.2.2.2.2.2.2.1 q5.2.2.2.2.2.2.2.2.2.2.2.2.2.2.2.2.2.2.1 q5.2.2.2.2.2.2.2.2.2.2.2.2.2.2.2.2.2.2.2.1 q5.2.2.2.2.2.2.2.2.2.2.2.2.2.2.2.2.2.2.2.2 1 (1 + fIN xs Ln (8 + 0) 5) (1 + fIN xs Ln (12 + 0) 4) = some q9 from hq9] at z2
  have N0 : NGE 2 q9.2.2.2.2.2.2.2.2.1 := ⟨2, by omega, by omega, Option.some.inj z2⟩
  have S0 : BS 0 0 := ⟨by decide, by decide⟩
  obtain ⟨r, r1, r2⟩ := bg_12 (xs := xs) (Ln := Ln) 3 19 1 2 _ 0 q9.2.1 0 0 (-1) 0 0 0 q9.2.2.1 q9.2.2.2.1 0 (-1) q9.2.2.2.2.1 q9.2.2.2.2.2.1 q9.2.2.2.2.2.2.1 q9.2.2.2.2.2.2.2.1 q9.2.2.2.2.2.2.2.2.1 (fun _ => 0) (upd (upd (fun _ => 0) (5 : Int32).toNatClampNeg 22) (6 : Int32).toNatClampNeg (-1)) (fun _ => 0) (upd (upd (fun _ => 0) (5 : Int32).toNatClampNeg 22) (6 : Int32).toNatClampNeg (-1)) q9.2.2.2.2.2.2.2.2.2.1 q9.2.2.2.2.2.2.2.2.2.2.1 q9.2.2.2.2.2.2.2.2.2.2.2.1 q9.2.2.2.2.2.2.2.2.2.2.2.2.1 q9.2.2.2.2.2.2.2.2.2.2.2.2.2.1 q9.2.2.2.2.2.2.2.2.2.2.2.2.2.2.1 q9.2.2.2.2.2.2.2.2.2.2.2.2.2.2.2.1 q9.2.2.2.2.2.2.2.2.2.2.2.2.2.2.2.2.1 q9.2.2.2.2.2.2.2.2.2.2.2.2.2.2.2.2.2.1 q9.2.2.2.2.2.2.2.2.2.2.2.2.2.2.2.2.2.2.1 q9.2.2.2.2.2.2.2.2.2.2.2.2.2.2.2.2.2.2.2.1 q9.2.2.2.2.2.2.2.2.2.2.2.2.2.2.2.2.2.2.2.2 (fun _ => 0) (fun _ => 0) (fun _ => 0) (fun _ => 0) (fun _ => 0) (fun _ => 0) ⟨by omega, by omega⟩ (by omega) (BS_add (BS_add S0 Bq5 (by omega)) Bq9 (by omega)) ⟨Jq9, N0⟩
  refine ⟨r, ?_, r2⟩
  rw [fL_begun_8, fL_begun_12, if_neg (show ¬ (4 : Int32) ≤ 0 by decide), if_pos (show ¬ (0 : Int32) < 0 by decide), if_pos (show ¬ (4 + 0 : Int32) < 0 by decide), show fL_whale 0 0 0 0 0 (-1) (fun _ => 0) (upd (upd (fun _ => 0) (5 : Int32).toNatClampNeg 22) (6 : Int32).toNatClampNeg (-1)) (fun _ => 0) (upd (upd (fun _ => 0) (5 : Int32).toNatClampNeg 22) (6 : Int32).toNatClampNeg (-1)) (fun _ => 0) (upd (upd (fun _ => 0) (5 : Int32).toNatClampNeg 22) (6 : Int32).toNatClampNeg (-1)) (fun _ => 0) (upd (upd (fun _ => 0) (5 : Int32).toNatClampNeg 22) (6 : Int32).toNatClampNeg (-1)) (fun _ => 0) (upd (upd (fun _ => 0) (5 : Int32).toNatClampNeg 22) (6 : Int32).toNatClampNeg (-1)) (fun _ => 0) (upd (upd (fun _ => 0) (5 : Int32).toNatClampNeg 22) (6 : Int32).toNatClampNeg (-1)) (fun _ => 0) (upd (upd (fun _ => 0) (5 : Int32).toNatClampNeg 22) (6 : Int32).toNatClampNeg (-1)) 0 (1 + fIN xs Ln 0 5) (1 + fIN xs Ln (4 + 0) 4) = some q5 from hq5, Option.bind_some, if_pos (show ¬ (8 + 0 : Int32) < 0 by decide), if_pos (show ¬ (12 + 0 : Int32) < 0 by decide), show fL_whale q5.2.1 q5.2.2.1 q5.2.2.2.1 q5.2.2.2.2.1 q5.2.2.2.2.2.1 q5.2.2.2.2.2.2.1 q5.2.2.2.2.2.2.2.1 q5.2.2.2.2.2.2.2.2.1 q5.2.2.2.2.2.2.2.2.2.1 q5.2.2.2.2.2.2.2.2.2.2.1 q5.2.2.2.2.2.2.2.2.2.2.2.1 q5.2.2.2.2.2.2.2.2.2.2.2.2.1 q5.2.2.2.2.2.2.2.2.2.2.2.2.2.1 q5.2.2.2.2.2.2.2.2.2.2.2.2.2.2.1 q5.2.2.2.2.2.2.2.2.2.2.2.2.2.2.2.1 q5.2.2.2.2.2.2.2.2.2.2.2.2.2.2.2.2.1 q5.2.2.2.2.2.2.2.2.2.2.2.2.2.2.2.2.2.1 q5.2.2.2.2.2.2.2.2.2.2.2.2.2.2.2.2.2.2.1 q5.2.2.2.2.2.2.2.2.2.2.2.2.2.2.2.2.2.2.2.1 q5.2.2.2.2.2.2.2.2.2.2.2.2.2.2.2.2.2.2.2.2 1 (1 + fIN xs Ln (8 + 0) 5) (1 + fIN xs Ln (12 + 0) 4) = some q9 from hq9, Option.bind_some]
  exact r1
