/-! flights of the buoy -/
theorem nx_f : ∀ c, c < 45 → ∀ w, w < 4 → fX7_nextCell (nI c) (nI w) = fX8_next (nI c) (nI w) ∧ (fX8_next (nI c) (nI w) = -1 ∨ ∃ d, d < 45 ∧ fX8_next (nI c) (nI w) = nI d) := by decide +kernel
def ndF (c w : Nat) : Int32 × Int32 := if fX7_isGoalEnd (nI c) (nI w) = 0 then (nI c, 1) else (fX7_goalAt (nI w), 0)
def nd_b (c w : Nat) : Bool := !(decide (fX8_next (nI c) (nI w) = -1)) || ((decide (fX7_isGoalEnd (nI c) (nI w) = 0) && decide ((if (nI w - nI w / 2 * 2) = 1 then (if (fX8_isIn (nI c / 9) 1 3) = 0 then (0 : Int32) else 1) else 0) = 0)) || (decide (fX7_isGoalEnd (nI c) (nI w) = 1) && (decide ((if (nI w - nI w / 2 * 2) = 1 then (if (fX8_isIn (nI c / 9) 1 3) = 0 then (0 : Int32) else 1) else 0) = 1) && (decide ((45 + (if nI w = 1 then 0 else 1) : Int32) = fX7_goalAt (nI w)) && (decide (fX7_goalAt (nI w) = nI 45) || decide (fX7_goalAt (nI w) = nI 46))))))
theorem nd_0 : ∀ c, c < 45 → ∀ w, w < 4 → nd_b c w = true := by decide +kernel
theorem nd_f (c : Nat) (hc : c < 45) (w : Nat) (hw : w < 4) (h : fX8_next (nI c) (nI w) = -1) : (fX7_isGoalEnd (nI c) (nI w) = 0 ∧ (if (nI w - nI w / 2 * 2) = 1 then (if (fX8_isIn (nI c / 9) 1 3) = 0 then (0 : Int32) else 1) else 0) = 0) ∨ (fX7_isGoalEnd (nI c) (nI w) = 1 ∧ (if (nI w - nI w / 2 * 2) = 1 then (if (fX8_isIn (nI c / 9) 1 3) = 0 then (0 : Int32) else 1) else 0) = 1 ∧ (45 + (if nI w = 1 then 0 else 1) : Int32) = fX7_goalAt (nI w) ∧ (fX7_goalAt (nI w) = nI 45 ∨ fX7_goalAt (nI w) = nI 46)) := by
  have z := nd_0 c hc w hw
  rw [nd_b, decide_eq_true h] at z
  simp only [Bool.not_true, Bool.false_or, Bool.or_eq_true, Bool.and_eq_true, decide_eq_true_eq] at z
  exact z
def goF (gw : Nat → Int32) (n t w way : Nat) : Nat → Nat → Int32 × Int32
  | 0, c => (nI c, 0)
  | f + 1, c => if fX8_next (nI c) (nI way) = -1 then ndF c way
    else if fstF (pOn gw (fX8_next (nI c) (nI way))) 0 n = -1 ∨ fstF (pOn gw (fX8_next (nI c) (nI way))) 0 n = nI w then
      (if fX8_isDryAt (fX8_next (nI c) (nI way)) (nI t) = 0 then goF gw n t w way f (fX8_next (nI c) (nI way)).toNatClampNeg else (nI c, 1))
    else (nI c, 0)
theorem isCell_n {d : Nat} (h : d < 45) : fX7_isCell (nI d) = 1 := by
  rw [fX7_isCell, if_neg (nI_pos (by omega)), if_neg (show ¬ (45 : Int32) ≤ nI d from nI_ge (b := 45) (by omega) (by omega))]
theorem c_go {gw gk : Nat → Int32} {n t u b w way F : Nat} (hV : Vg gw gk n t u b) (hw : way < 4) (hF : F < 64) : ∀ (f c j k : Nat), c < 45 → j + f = F → f < k → fX0_goByCells_18 gw gk k (nI w) (nI way) (nI F) (nI c) (nI j) 0 = some (goF gw n t w way f c) := by
  have h10 := hV.1.1
  intro f
  induction f with
  | zero =>
    intro c j k hc h hk
    obtain ⟨k, rfl⟩ : ∃ q, k = q + 1 := ⟨k - 1, by omega⟩
    rw [fX0_goByCells_18, if_pos (nI_le (by omega) (by omega))]
    rfl
  | succ f ih =>
    intro c j k hc h hk
    obtain ⟨k, rfl⟩ : ∃ q, k = q + 1 := ⟨k - 1, by omega⟩
    obtain ⟨e1, e2⟩ := nx_f c hc way hw
    rw [fX0_goByCells_18, if_neg (nI_ge (by omega) (by omega)), e1, goF]
    rcases e2 with z | ⟨d, hd, z⟩
    · rw [z, if_pos (show fX7_isCell (-1) = 0 from rfl), if_pos rfl, fX0_goByCells_55, ndF]
      rcases nd_f c hc way hw z with ⟨y, _⟩ | ⟨y, _⟩
      · rw [y]; rfl
      · rw [y]; rfl
    · rw [z, isCell_n hd, if_neg n10, if_neg (nm1 (by omega)), whaleOn_e hV.1.2.2.2.1 h10, Option.bind_some, fX0_goByCells_101, dry_c hd hV.1.2.1 hV.1.2.2.2.2.1, Option.bind_some, nI_1 j, nI_clamp (by omega), ih d (j + 1) k hd (by omega) (by omega)]
      by_cases y : fstF (pOn gw (nI d)) 0 n = -1
      · rw [if_pos y, if_pos (Or.inl y)]
        split <;> rfl
      · rw [if_neg y]
        by_cases x : fstF (pOn gw (nI d)) 0 n = nI w
        · rw [if_pos x, if_pos (Or.inr x)]
          split <;> rfl
        · rw [if_neg x, if_neg (fun q => q.elim y x)]
theorem m_go {gw gk ms : Nat → Int32} {n t u b w way F : Nat} (hR : Rg gw gk ms) (hV : Vg gw gk n t u b) (hw : way < 4) (hF : F < 64) : ∀ (f c j k : Nat), c < 45 → j + f = F → f < k → fX8_goes_16 ms k (nI w) (nI way) (nI F) (nI c) (nI j) 0 = some (goF gw n t w way f c) := by
  have h10 := hV.1.1
  intro f
  induction f with
  | zero =>
    intro c j k hc h hk
    obtain ⟨k, rfl⟩ : ∃ q, k = q + 1 := ⟨k - 1, by omega⟩
    rw [fX8_goes_16, if_pos (nI_le (by omega) (by omega))]
    rfl
  | succ f ih =>
    intro c j k hc h hk
    obtain ⟨k, rfl⟩ : ∃ q, k = q + 1 := ⟨k - 1, by omega⟩
    obtain ⟨e1, e2⟩ := nx_f c hc way hw
    rw [fX8_goes_16, if_neg (nI_ge (by omega) (by omega)), goF]
    rcases e2 with z | ⟨d, hd, z⟩
    · rw [z, if_neg (show ¬ (0 : Int32) ≤ -1 from by decide), if_pos rfl, ndF, fX8_goes_60, fX8_goes_73, fX8_goes_93]
      rcases nd_f c hc way hw z with ⟨y, x⟩ | ⟨y, x, v, _⟩
      · rw [y, x]; rfl
      · rw [y, x, v]; rfl
    · rw [z, if_pos (nI_pos' (by omega)), if_neg (nm1 (by omega)), whaleAt_e hR hV.1.2.2.2.1 h10, Option.bind_some, fX8_goes_122, dry_m hR hd hV.1.2.1 hV.1.2.2.2.2.1, Option.bind_some, nI_1 j, nI_clamp (by omega), ih d (j + 1) k hd (by omega) (by omega)]
      rcases fst_spec (pOn gw (nI d)) n 0 with ⟨y, _⟩ | ⟨x, _, x1, _, y, _⟩
      · rw [y, if_pos (show (-1 : Int32) < 0 from by decide), if_pos (Or.inl rfl)]
        split <;> rfl
      · rw [y, if_neg (nI_pos (by omega))]
        by_cases v : nI x = nI w
        · rw [if_pos v, if_pos (Or.inr v)]
          split <;> rfl
        · rw [if_neg v, if_neg (fun q => q.elim (nm1 (by omega)) v)]
theorem go_v {gw : Nat → Int32} {n t w way : Nat} (hw : way < 4) : ∀ (f c : Nat), c < 45 → ((∃ e, e < 45 ∧ (goF gw n t w way f c).1 = nI e) ∨ (goF gw n t w way f c).2 = 0 ∧ ((goF gw n t w way f c).1 = nI 45 ∨ (goF gw n t w way f c).1 = nI 46)) ∧ ((goF gw n t w way f c).2 = 0 ∨ (goF gw n t w way f c).2 = 1) := by
  intro f
  induction f with
  | zero => intro c hc; exact ⟨Or.inl ⟨c, hc, rfl⟩, Or.inl rfl⟩
  | succ f ih =>
    intro c hc
    obtain ⟨e1, e2⟩ := nx_f c hc way hw
    rw [goF]
    rcases e2 with z | ⟨d, hd, z⟩
    · rw [if_pos z, ndF]
      rcases nd_f c hc way hw z with ⟨y, _⟩ | ⟨y, _, _, x⟩
      · rw [if_pos y]; exact ⟨Or.inl ⟨c, hc, rfl⟩, Or.inr rfl⟩
      · rw [y, if_neg n10]; exact ⟨Or.inr ⟨rfl, x⟩, Or.inl rfl⟩
    · rw [z, if_neg (nm1 (by omega)), nI_clamp (by omega)]
      split
      · split
        · exact ih d hd
        · exact ⟨Or.inl ⟨c, hc, rfl⟩, Or.inr rfl⟩
      · exact ⟨Or.inl ⟨c, hc, rfl⟩, Or.inl rfl⟩
section GO
variable {gw gk ms : Nat → Int32} {n t u b w way F : Nat}
theorem goC (hV : Vg gw gk n t u b) (hw : way < 4) (hF : F < 60) (net : Int32) : fX0_goByCells net gw gk (nI w) (nI way) (nI F) = some (goF gw n t w way F b) := by
  rw [fX0_goByCells, ct5, Option.bind_some, hV.1.2.2.2.2.2.1]
  exact c_go hV hw (by omega) F b 0 64 hV.1.2.2.1 (by omega) (by omega)
theorem goM (hR : Rg gw gk ms) (hV : Vg gw gk n t u b) (hw : way < 4) (hF : F < 60) (net : Int32) : fX8_goes net ms (nI w) (nI way) (nI F) = some (goF gw n t w way F b) := by
  rw [fX8_goes, if_pos v103_2, cl_2, hR.2.2.2.1, hV.1.2.2.2.2.2.1]
  exact m_go hR hV hw (by omega) F b 0 64 hV.1.2.2.1 (by omega) (by omega)
def endF (gw gk : Nat → Int32) (n t b w way F : Nat) : Int32 :=
  if (goF gw n t w way F b).1 < 45 then (goF gw n t w way F b).1 else if foulF gw gk n b w = 0 then (goF gw n t w way F b).1 else 22
theorem endC (hV : Vg gw gk n t u b) (hi : w < n) (hw : way < 4) (hF : F < 60) (net : Int32) : fX0_endByCells net gw gk (nI w) (nI way) (nI F) = some (endF gw gk n t b w way F, (goF gw n t w way F b).2) := by
  rw [fX0_endByCells, goC hV hw hF, Option.bind_some, foul_c hV hi, Option.bind_some, endF]
  split
  · rfl
  · split <;> rfl
theorem endM (hR : Rg gw gk ms) (hV : Vg gw gk n t u b) (hi : w < n) (hw : way < 4) (hF : F < 60) (net : Int32) : fX8_wouldCome net ms (nI w) (nI way) (nI F) = some (endF gw gk n t b w way F, (goF gw n t w way F b).2) := by
  rw [fX8_wouldCome, goM hR hV hw hF, Option.bind_some, foul_m hR hV hi, Option.bind_some, endF]
  split
  · rfl
  · split <;> rfl
end GO
theorem strike_c (p1 p2 : Int32) : (fX7_demandStrike p1 p2 = some 1 ∧ fX8_isStrike p1 p2 = 0 ∧ (fX7_isWay p1 = 0 ∨ fX7_isForce p2 = 0)) ∨ ∃ way F, way < 4 ∧ 1 ≤ F ∧ F ≤ 5 ∧ p1 = nI way ∧ p2 = nI F ∧ fX7_demandStrike p1 p2 = some 0 ∧ fX8_isStrike p1 p2 = 1 ∧ fX7_isWay p1 = 1 ∧ fX7_isForce p2 = 1 := by
  have fo : fX7_isForce p2 = fX8_isIn p2 1 5 := rfl
  rcases rg_lo p1 (m := 3) (by omega) with ⟨h, z⟩ | ⟨way, hw, rfl, h⟩
  · have y : fX7_isWay p1 = 0 := by
      rcases z with z | z
      · rw [fX7_isWay, if_pos z]
      · rw [fX7_isWay, if_neg z.1, if_pos (show (4 : Int32) ≤ p1 from z.2)]
    exact Or.inl ⟨by rw [fX7_demandStrike, if_pos y]; rfl, by rw [fX8_isStrike, show (3 : Int32) = nI 3 from rfl, h, if_pos rfl], Or.inl y⟩
  · have y : fX7_isWay (nI way) = 1 := by rw [fX7_isWay, if_neg (nI_pos (by omega)), if_neg (show ¬ (4 : Int32) ≤ nI way from nI_ge (b := 4) (by omega) (by omega))]
    rcases rng_c (p := p2) (lo := 1) (hi := 5) (m := 5) rfl rfl with s0 | ⟨F, s1, s2, rfl, s3⟩
    · exact Or.inl ⟨by rw [fX7_demandStrike, y, if_neg n10, fo, if_pos s0]; rfl, by rw [fX8_isStrike, show (3 : Int32) = nI 3 from rfl, h, if_neg n10, if_pos s0], Or.inr (by rw [fo]; exact s0)⟩
    · exact Or.inr ⟨way, F, by omega, s1, s2, rfl, rfl, by rw [fX7_demandStrike, y, if_neg n10, fo, s3, if_neg n10], by rw [fX8_isStrike, show (3 : Int32) = nI 3 from rfl, h, if_neg n10, s3, if_neg n10], y, by rw [fo]; exact s3⟩
theorem q_would {gw gk ms : Nat → Int32} {n t u b : Nat} (net mnet thr p p1 p2 : Int32) (hR : Rg gw gk ms) (hV : Vg gw gk n t u b) : ∃ q r, fX7_would net gw gk p p1 p2 = some q ∧ fX8_would thr mnet ms p p1 p2 = some r ∧ (q.1 = 0 ∨ q.1 = 3 ∨ q.1 = 1) ∧ r.2.1 = lcode [3, 1] q.1 ∧ (q.1 = 0 → r.1 = q.2.1) := by
  rcases whale_c hR hV.1.2.2.2.1 hV.1.1 p with ⟨h1, h2⟩ | ⟨w, hw, rfl, h1, h2⟩
  · exact ⟨(3, 0, net), (0, 1, mnet), by rw [fX7_would, dem_w h1]; rfl, by rw [fX8_would, h2]; rfl, Or.inr (Or.inl rfl), rfl, fun h => absurd h (show ¬ (3 : Nat) = 0 by decide)⟩
  · have e2 : fX8_would thr mnet ms (nI w) p1 p2 = fX8_would_35 ms (if fX8_isStrike p1 p2 = 0 then 1 else 0) (nI w) p1 p2 0 mnet := by rw [fX8_would, h2, Option.bind_some, if_neg n10, fX8_would_14, th0, Option.bind_some, if_pos rfl]
    rcases strike_c p1 p2 with ⟨g1, g2, _⟩ | ⟨way, F, f1, f2, f3, rfl, rfl, g1, g2, _⟩
    · exact ⟨(1, 0, net), (0, 2, mnet), by rw [fX7_would, dem_w h1, Option.bind_some, if_neg n10, if_pos rfl, g1]; rfl, by rw [e2, g2, if_pos rfl, fX8_would_35, th1, Option.bind_some, if_neg n10], Or.inr (Or.inr rfl), rfl, fun h => absurd h (show ¬ (1 : Nat) = 0 by decide)⟩
    · refine ⟨(0, endF gw gk n t b w way F, (goF gw n t w way F b).2), (endF gw gk n t b w way F, 0, (goF gw n t w way F b).2), ?_, ?_, Or.inl rfl, rfl, fun _ => rfl⟩
      · rw [fX7_would, dem_w h1, Option.bind_some, if_neg n10, if_pos rfl, g1, Option.bind_some, if_pos rfl, endC hV hw f1 (by omega), Option.bind_some]
      · rw [e2, g2, if_neg n10, fX8_would_35, th0, Option.bind_some, if_pos rfl, endM hR hV hw f1 (by omega), Option.bind_some]
theorem sx_would : St_would Inv := by
  intro f_net u_det t_len t_cur t_kin t_tol t_don n_len h_old h_siz x_sav x_err x_rea x_det x_com v_gw v_gk v_bw v_bk v_vw v_vk v_h0w v_h0k v_h1w v_h1k v_h2w v_h2k v_h3w v_h3k v_h4w v_h4k v_h5w v_h5k v_rs v_rl v_ro v_ti v_tn v_ns m_chg m_thr m_rea m_det m_ref m_err m_ans m_sav m_net m_lin m_tap m_her m_cmd v_ms v_mw v_mv v_mp v_mf v_ml v_mt v_mc hI p0 p1 p2
  obtain ⟨n, t, b, hV, hX⟩ := hI.2.1
  obtain ⟨q, r, h0, h1, h2, h3, h4⟩ := q_would f_net m_net m_thr p0 p1 p2 hI.1 hV
  exact ⟨q, r, h0, h1, h2, h3, h4, hI⟩

