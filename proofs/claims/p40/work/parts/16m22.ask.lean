/-! calls that only ask: small ones -/
theorem rg_lo (p : Int32) {m : Nat} (hm : m < 2 ^ 31 - 1) : (fX8_isIn p 0 (nI m) = 0 ∧ (p < 0 ∨ ¬ p < 0 ∧ nI (m + 1) ≤ p)) ∨ ∃ j, j ≤ m ∧ p = nI j ∧ fX8_isIn p 0 (nI m) = 1 := by
  have e1 : (nI m).toInt = m := nI_toInt (by omega)
  have e2 : (nI (m + 1)).toInt = m + 1 := nI_toInt (by omega)
  have e0 : (0 : Int32).toInt = 0 := rfl
  by_cases h : p < 0
  · exact Or.inl ⟨by rw [fX8_isIn, if_pos h], Or.inl h⟩
  · by_cases h2 : nI m < p
    · refine Or.inl ⟨by rw [fX8_isIn, if_neg h, if_pos h2], Or.inr ⟨h, ?_⟩⟩
      rw [Int32.lt_iff_toInt_lt] at h2
      rw [Int32.le_iff_toInt_le]
      omega
    · refine Or.inr ?_
      obtain ⟨j, hj, rfl⟩ := nI_of h
      refine ⟨j, ?_, rfl, by rw [fX8_isIn, if_neg h, if_neg h2]⟩
      by_cases z : j ≤ m
      · exact z
      · exact absurd (nI_lt (by omega) hj) h2
theorem th1 (thr k : Int32) : fX8_isThrown thr 1 k = some (1, k) := rfl
theorem th0 (thr k : Int32) : fX8_isThrown thr 0 k = some (0, 0) := rfl
theorem rf1 (thr a b c k w : Int32) : fX8_isRefused thr a b c 1 k w = some (1, 9, k, w, -1) := rfl
theorem rf0 (thr a b c k w : Int32) : fX8_isRefused thr a b c 0 k w = some (0, thr, a, b, c) := rfl
theorem n10 : ¬ (1 : Int32) = 0 := by decide
theorem a10 : (1 : Int32) &&& 1 = 1 := rfl
theorem a00 : (0 : Int32) &&& 1 = 0 := rfl
theorem cell_c (p : Int32) : (fX7_isCell p = 0 ∧ fX8_isCell p = 0) ∨ ∃ c, c < 45 ∧ p = nI c ∧ fX7_isCell p = 1 ∧ fX8_isCell p = 1 := by
  rcases rg_lo p (m := 44) (by omega) with ⟨h, h1 | h1⟩ | ⟨j, hj, rfl, h⟩
  · exact Or.inl ⟨by rw [fX7_isCell, if_pos h1], by rw [fX8_isCell, show (44 : Int32) = nI 44 from rfl, h]; rfl⟩
  · exact Or.inl ⟨by rw [fX7_isCell, if_neg h1.1, if_pos (show (45 : Int32) ≤ p from h1.2)], by rw [fX8_isCell, show (44 : Int32) = nI 44 from rfl, h]; rfl⟩
  · exact Or.inr ⟨j, by omega, rfl, by rw [fX7_isCell, if_neg (nI_pos (by omega)), if_neg (show ¬ (45 : Int32) ≤ nI j from nI_ge (b := 45) (by omega) (by omega))], by rw [fX8_isCell, show (44 : Int32) = nI 44 from rfl, h]; rfl⟩
theorem whale_c {gw gk ms : Nat → Int32} {n : Nat} (hR : Rg gw gk ms) (hn : gk 0 = nI n) (h10 : n ≤ 10) (p : Int32) : (fX1_has gk p = some 0 ∧ fX8_isWhale ms p = some 0) ∨ ∃ w, w < n ∧ p = nI w ∧ fX1_has gk p = some 1 ∧ fX8_isWhale ms p = some 1 := by
  have h0 : ms 0 = nI n := hR.2.1.trans hn
  cases n with
  | zero =>
    left
    constructor
    · rw [fX1_has, ct0, Option.bind_some, hn]
      by_cases h : p < 0
      · rw [if_pos h]
      · rw [if_neg h, if_pos (show nI 0 ≤ p from Int32.not_lt.mp h)]
    · rw [fX8_isWhale, if_pos v103_0, cl_0, h0, fX8_isIn]
      by_cases h : p < 0
      · rw [if_pos h]; rfl
      · rw [if_neg h, if_pos]
        · rfl
        · have e : (nI 0 - 1 : Int32).toInt = -1 := rfl
          have e0 : (0 : Int32).toInt = 0 := rfl
          rw [Int32.lt_iff_toInt_lt] at h ⊢
          omega
  | succ m =>
    have e1 : nI (m + 1) - 1 = nI m := nI_pred m
    rcases rg_lo p (m := m) (by omega) with ⟨h, h1 | h1⟩ | ⟨j, hj, rfl, h⟩
    · exact Or.inl ⟨by rw [fX1_has, if_pos h1], by rw [fX8_isWhale, if_pos v103_0, cl_0, h0, e1, h]; rfl⟩
    · exact Or.inl ⟨by rw [fX1_has, if_neg h1.1, ct0, Option.bind_some, hn, if_pos h1.2], by rw [fX8_isWhale, if_pos v103_0, cl_0, h0, e1, h]; rfl⟩
    · exact Or.inr ⟨j, by omega, rfl, by rw [fX1_has, if_neg (nI_pos (by omega)), ct0, Option.bind_some, hn, if_neg (nI_ge (by omega) (by omega))], by rw [fX8_isWhale, if_pos v103_0, cl_0, h0, e1, h]; rfl⟩
theorem dry_f : ∀ c, c < 45 → ∀ t, t < 49 → (if fX7_isEdge (nI c) = 0 then (0 : Int32) else if 2 < fX7_tideByDividing (nI t) then 0 else 1) = fX8_isDryAt (nI c) (nI t) ∧ fX8_isDryAt (nI c) (nI t) &&& 1 = fX8_isDryAt (nI c) (nI t) ∧ (fX8_isDryAt (nI c) (nI t) = 0 ∨ fX8_isDryAt (nI c) (nI t) = 1) := by decide +kernel
theorem dry_c {gk : Nat → Int32} {c t : Nat} (hc : c < 45) (ht : t ≤ 48) (h1 : gk 1 = nI t) : fX1_isDryNow gk (nI c) = some (fX8_isDryAt (nI c) (nI t)) := by
  rw [fX1_isDryNow, ct1, Option.bind_some, h1, ← (dry_f c hc t (by omega)).1]
  split
  · rfl
  · split <;> rfl
theorem dry_m {gw gk ms : Nat → Int32} (hR : Rg gw gk ms) {c t : Nat} (hc : c < 45) (ht : t ≤ 48) (h1 : gk 1 = nI t) : fX8_isDryNow ms (nI c) = some (fX8_isDryAt (nI c) (nI t)) := by
  rw [fX8_isDryNow, if_pos v103_1, cl_1, hR.2.2.1, h1, (dry_f c hc t (by omega)).2.1]
section Q
variable {gw gk ms : Nat → Int32} {n t u b : Nat} (hR : Rg gw gk ms) (hV : Vg gw gk n t u b)
theorem q_at (thr p : Int32) (hR : Rg gw gk ms) (hV : Vg gw gk n t u b) : ∃ q r, fX7_at gw gk p = some q ∧ fX8_at thr ms p = some r ∧ (q.1 = 0 ∨ q.1 = 3) ∧ r.2 = lcode [3] q.1 ∧ (q.1 = 0 → r.1 = q.2) := by
  have hn := hV.1.2.2.2.1
  have h10 := hV.1.1
  rcases cell_c p with ⟨h1, h2⟩ | ⟨c, hc, rfl, h1, h2⟩
  · exact ⟨(3, 0), (0, 1), by rw [fX7_at, fX7_demandCell, if_pos h1]; rfl, by rw [fX8_at, fX8_at_13, h2]; rfl, Or.inr rfl, rfl, fun h => absurd h (by decide)⟩
  · exact ⟨_, _, by rw [fX7_at, fX7_demandCell, h1, if_neg n10, whaleOn_e hn h10]; rfl, by rw [fX8_at, fX8_at_13, h2, if_neg n10, th0, Option.bind_some, if_pos rfl, whaleAt_e hR hn h10]; rfl, Or.inl rfl, rfl, fun _ => rfl⟩
theorem q_isDry (thr p : Int32) (hR : Rg gw gk ms) (hV : Vg gw gk n t u b) : ∃ q r, fX7_isDry gk p = some q ∧ fX8_isDry thr ms p = some r ∧ (q.1 = 0 ∨ q.1 = 3) ∧ r.2 = lcode [3] q.1 ∧ (q.1 = 0 → r.1 = q.2) := by
  have h48 := hV.1.2.1
  have h1 := hV.1.2.2.2.2.1
  rcases cell_c p with ⟨h1, h2⟩ | ⟨c, hc, rfl, h1', h2⟩
  · exact ⟨(3, 0), (0, 1), by rw [fX7_isDry, fX7_demandCell, if_pos h1]; rfl, by rw [fX8_isDry, fX8_isDry_13, h2]; rfl, Or.inr rfl, rfl, fun h => absurd h (by decide)⟩
  · refine ⟨_, (fX8_isDryAt (nI c) (nI t), 0), by rw [fX7_isDry, fX7_demandCell, h1', if_neg n10, dry_c hc h48 h1]; rfl, ?_, Or.inl rfl, rfl, fun _ => (dry_f c hc t (by omega)).2.1.symm⟩
    rw [fX8_isDry, fX8_isDry_13, h2, if_neg n10, th0, Option.bind_some, if_pos rfl, dry_m hR hc h48 h1, Option.bind_some]
    rcases (dry_f c hc t (by omega)).2.2 with z | z <;> rw [z] <;> rfl
theorem q_whaleOf (thr p p1 : Int32) (hR : Rg gw gk ms) (hV : Vg gw gk n t u b) : ∃ q r, fX7_whaleOf gw gk p p1 = some q ∧ fX8_whaleOf thr ms p p1 = some r ∧ (q.1 = 0 ∨ q.1 = 3 ∨ q.1 = 1) ∧ r.2 = lcode [3, 1] q.1 ∧ (q.1 = 0 → r.1 = q.2) := by
  have hn := hV.1.2.2.2.1
  have h10 := hV.1.1
  rcases whale_c hR hn h10 p with ⟨h1, h2⟩ | ⟨w, hw, rfl, h1, h2⟩
  · exact ⟨(3, 0), (0, 1), by rw [fX7_whaleOf, fX7_demandWhale, h1]; rfl, by rw [fX8_whaleOf, h2]; rfl, Or.inr (Or.inl rfl), rfl, fun h => absurd h (by decide)⟩
  · have e1 : fX7_demandWhale gk (nI w) = some 0 := by rw [fX7_demandWhale, h1]; rfl
    have e2 : fX8_whaleOf thr ms (nI w) p1 = fX8_whaleOf_37 ms (if fX8_isIn p1 0 8 = 0 then 1 else 0) (nI w) p1 0 := by rw [fX8_whaleOf, h2]; rfl
    rcases rg_lo p1 (m := 8) (by omega) with ⟨h, h3 | h3⟩ | ⟨j, hj, rfl, h⟩
    · exact ⟨(1, 0), (0, 2), by rw [fX7_whaleOf, e1, Option.bind_some, if_pos rfl, if_pos h3]; rfl, by rw [e2, show (8 : Int32) = nI 8 from rfl, h]; rfl, Or.inr (Or.inr rfl), rfl, fun h => absurd h (by decide)⟩
    · exact ⟨(1, 0), (0, 2), by rw [fX7_whaleOf, e1, Option.bind_some, if_pos rfl, if_neg h3.1, if_neg (show ¬ p1 < (9 : Int32) from Int32.not_lt.mpr h3.2)]; rfl, by rw [e2, show (8 : Int32) = nI 8 from rfl, h]; rfl, Or.inr (Or.inr rfl), rfl, fun h => absurd h (by decide)⟩
    · exact ⟨_, _, by rw [fX7_whaleOf, e1, Option.bind_some, if_pos rfl, if_neg (nI_pos (by omega)), if_pos (show nI j < (9 : Int32) from nI_lt (b := 9) (by omega) (by omega)), e_of gw (by omega) (by omega)]; rfl, by rw [e2, show (8 : Int32) = nI 8 from rfl, h, fX8_whaleOf_37, if_neg n10, th0, Option.bind_some, if_pos rfl, e_mof ms (by omega) (by omega), show 13 + 9 * w + j = 13 + (9 * w + j) from by omega, hR.1 _ (by omega)]; rfl, Or.inl rfl, rfl, fun _ => rfl⟩
end Q
theorem tide_f : ∀ k, k < 1000 → fX7_tideByDividing (nI k) = fX8_tideAt (nI k) := by decide +kernel
def fallF (j : Nat) : Int32 := if j % 16 < 8 then 1 else 0
theorem tide_s : ∀ j, j < 1000 → (fX8_tideAt (nI j) + (if fallF j = 0 then 1 else -1) : Int32) = fX8_tideAt (nI (j + 1)) ∧ (if fX8_tideAt (nI (j + 1)) = 0 ∨ fX8_tideAt (nI (j + 1)) = 8 then (if fX8_tideAt (nI (j + 1)) = 8 then 1 else 0) else fallF j) = fallF (j + 1) := by decide +kernel
theorem tide_l {k : Nat} (hk : k < 1000) : ∀ (d j f : Nat), j + d = k → d < f → fX7_tideByStrokes_7 f (nI k) (fX8_tideAt (nI j)) (fallF j) (nI j) = some (fX8_tideAt (nI k)) := by
  intro d
  induction d with
  | zero =>
    intro j f h hf
    obtain ⟨f, rfl⟩ : ∃ q, f = q + 1 := ⟨f - 1, by omega⟩
    rw [fX7_tideByStrokes_7, if_pos (nI_le (by omega) (by omega)), show j = k from by omega]
  | succ d ih =>
    intro j f h hf
    obtain ⟨f, rfl⟩ : ∃ q, f = q + 1 := ⟨f - 1, by omega⟩
    obtain ⟨s1, s2⟩ := tide_s j (by omega)
    rw [fX7_tideByStrokes_7, if_neg (nI_ge (by omega) (by omega)), fX7_tideByStrokes_22, s1, ← ih (j + 1) f (by omega) (by omega), ← s2]
    by_cases z0 : fX8_tideAt (nI (j + 1)) = 0
    · rw [if_pos z0, if_pos (Or.inl z0), fX7_tideByStrokes_34, fX7_tideByStrokes_45, fX7_tideByStrokes_46, nI_1]
    · by_cases z8 : fX8_tideAt (nI (j + 1)) = 8
      · rw [if_neg z0, if_pos z8, if_pos (Or.inr z8), fX7_tideByStrokes_34, fX7_tideByStrokes_45, fX7_tideByStrokes_46, nI_1]
      · rw [if_neg z0, if_neg z8, if_neg (fun q => q.elim z0 z8), fX7_tideByStrokes_46, nI_1]
theorem strokes_e {k : Nat} (hk : k < 1000) : fX7_tideByStrokes (nI k) = some (fX8_tideAt (nI k)) := by
  rw [fX7_tideByStrokes]
  exact tide_l hk k 0 1024 (by omega) (by omega)
theorem clock_c (p : Int32) : (fX7_demandClock p = some 1 ∧ fX8_isIn p 0 999 = 0) ∨ ∃ c, c < 1000 ∧ p = nI c ∧ fX7_demandClock p = some 0 ∧ fX8_isIn p 0 999 = 1 := by
  rcases rg_lo p (m := 999) (by omega) with ⟨h, h1 | h1⟩ | ⟨j, hj, rfl, h⟩
  · exact Or.inl ⟨by rw [fX7_demandClock, if_pos h1]; rfl, h⟩
  · refine Or.inl ⟨?_, h⟩
    rw [fX7_demandClock, if_neg h1.1, if_neg]
    · rfl
    · intro z
      have h2 := h1.2
      have e2 : (nI (999 + 1)).toInt = 1000 := rfl
      have e3 : (999 : Int32).toInt = 999 := rfl
      rw [Int32.le_iff_toInt_le] at z h2
      omega
  · exact Or.inr ⟨j, by omega, rfl, by rw [fX7_demandClock, if_neg (nI_pos (by omega)), if_pos (show nI j ≤ (999 : Int32) from nI_le (b := 999) (by omega) (by omega))], h⟩
theorem q_tide (thr p : Int32) : ∃ q r, fX7_tide p = some q ∧ fX8_tide thr p = some r ∧ (q.1 = 0 ∨ q.1 = 1) ∧ r.2 = lcode [1] q.1 ∧ (q.1 = 0 → r.1 = q.2) := by
  rcases clock_c p with ⟨h1, h2⟩ | ⟨c, hc, rfl, h1, h2⟩
  · exact ⟨(1, 0), (0, 1), by rw [fX7_tide, h1]; rfl, by rw [fX8_tide, h2]; rfl, Or.inr rfl, rfl, fun h => absurd h (by decide)⟩
  · exact ⟨_, _, by rw [fX7_tide, h1, Option.bind_some, if_pos rfl, strokes_e hc]; rfl, by rw [fX8_tide, h2]; rfl, Or.inl rfl, rfl, fun _ => rfl⟩
theorem q_tideAgain (thr p : Int32) : ∃ q r, fX7_tideAgain p = some q ∧ fX8_tideAgain thr p = some r ∧ (q.1 = 0 ∨ q.1 = 1) ∧ r.2 = lcode [1] q.1 ∧ (q.1 = 0 → r.1 = q.2) := by
  rcases clock_c p with ⟨h1, h2⟩ | ⟨c, hc, rfl, h1, h2⟩
  · exact ⟨(1, 0), (0, 1), by rw [fX7_tideAgain, h1]; rfl, by rw [fX8_tideAgain, fX8_tide, h2]; rfl, Or.inr rfl, rfl, fun h => absurd h (by decide)⟩
  · exact ⟨_, _, by rw [fX7_tideAgain, h1, Option.bind_some, if_pos rfl], by rw [fX8_tideAgain, fX8_tide, h2]; rfl, Or.inl rfl, rfl, fun _ => (tide_f c hc).symm⟩
theorem sx_at : St_at Inv := by
  intro f_net u_det t_len t_cur t_kin t_tol t_don n_len h_old h_siz x_sav x_err x_rea x_det x_com v_gw v_gk v_bw v_bk v_vw v_vk v_h0w v_h0k v_h1w v_h1k v_h2w v_h2k v_h3w v_h3k v_h4w v_h4k v_h5w v_h5k v_rs v_rl v_ro v_ti v_tn v_ns m_chg m_thr m_rea m_det m_ref m_err m_ans m_sav m_net m_lin m_tap m_her m_cmd v_ms v_mw v_mv v_mp v_mf v_ml v_mt v_mc hI p0
  obtain ⟨n, t, b, hV, hX⟩ := hI.2.1
  obtain ⟨q, r, h0, h1, h2, h3, h4⟩ := q_at m_thr p0 hI.1 hV
  exact ⟨q, r, h0, h1, h2, h3, h4, hI⟩
theorem sx_isDry : St_isDry Inv := by
  intro f_net u_det t_len t_cur t_kin t_tol t_don n_len h_old h_siz x_sav x_err x_rea x_det x_com v_gw v_gk v_bw v_bk v_vw v_vk v_h0w v_h0k v_h1w v_h1k v_h2w v_h2k v_h3w v_h3k v_h4w v_h4k v_h5w v_h5k v_rs v_rl v_ro v_ti v_tn v_ns m_chg m_thr m_rea m_det m_ref m_err m_ans m_sav m_net m_lin m_tap m_her m_cmd v_ms v_mw v_mv v_mp v_mf v_ml v_mt v_mc hI p0
  obtain ⟨n, t, b, hV, hX⟩ := hI.2.1
  obtain ⟨q, r, h0, h1, h2, h3, h4⟩ := q_isDry m_thr p0 hI.1 hV
  exact ⟨q, r, h0, h1, h2, h3, h4, hI⟩
theorem sx_whaleOf : St_whaleOf Inv := by
  intro f_net u_det t_len t_cur t_kin t_tol t_don n_len h_old h_siz x_sav x_err x_rea x_det x_com v_gw v_gk v_bw v_bk v_vw v_vk v_h0w v_h0k v_h1w v_h1k v_h2w v_h2k v_h3w v_h3k v_h4w v_h4k v_h5w v_h5k v_rs v_rl v_ro v_ti v_tn v_ns m_chg m_thr m_rea m_det m_ref m_err m_ans m_sav m_net m_lin m_tap m_her m_cmd v_ms v_mw v_mv v_mp v_mf v_ml v_mt v_mc hI p0 p1
  obtain ⟨n, t, b, hV, hX⟩ := hI.2.1
  obtain ⟨q, r, h0, h1, h2, h3, h4⟩ := q_whaleOf m_thr p0 p1 hI.1 hV
  exact ⟨q, r, h0, h1, h2, h3, h4, hI⟩
theorem sx_tide : St_tide Inv := by
  intro f_net u_det t_len t_cur t_kin t_tol t_don n_len h_old h_siz x_sav x_err x_rea x_det x_com v_gw v_gk v_bw v_bk v_vw v_vk v_h0w v_h0k v_h1w v_h1k v_h2w v_h2k v_h3w v_h3k v_h4w v_h4k v_h5w v_h5k v_rs v_rl v_ro v_ti v_tn v_ns m_chg m_thr m_rea m_det m_ref m_err m_ans m_sav m_net m_lin m_tap m_her m_cmd v_ms v_mw v_mv v_mp v_mf v_ml v_mt v_mc hI p0
  obtain ⟨n, t, b, hV, hX⟩ := hI.2.1
  obtain ⟨q, r, h0, h1, h2, h3, h4⟩ := q_tide m_thr p0
  exact ⟨q, r, h0, h1, h2, h3, h4, hI⟩
theorem sx_tideAgain : St_tideAgain Inv := by
  intro f_net u_det t_len t_cur t_kin t_tol t_don n_len h_old h_siz x_sav x_err x_rea x_det x_com v_gw v_gk v_bw v_bk v_vw v_vk v_h0w v_h0k v_h1w v_h1k v_h2w v_h2k v_h3w v_h3k v_h4w v_h4k v_h5w v_h5k v_rs v_rl v_ro v_ti v_tn v_ns m_chg m_thr m_rea m_det m_ref m_err m_ans m_sav m_net m_lin m_tap m_her m_cmd v_ms v_mw v_mv v_mp v_mf v_ml v_mt v_mc hI p0
  obtain ⟨n, t, b, hV, hX⟩ := hI.2.1
  obtain ⟨q, r, h0, h1, h2, h3, h4⟩ := q_tideAgain m_thr p0
  exact ⟨q, r, h0, h1, h2, h3, h4, hI⟩

