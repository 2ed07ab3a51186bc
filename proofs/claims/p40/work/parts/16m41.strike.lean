/-! the call strike -/
theorem net_e {x : Int32} (h : x = 0 ∨ x = 1) : fX0_isNetted x = x := by
  rcases h with h | h <;> rw [h] <;> rfl
theorem d_hit {gw gk ms : Nat → Int32} {n t b : Nat} (hR : Rg gw gk ms) (hV : Vg gw gk n t t b) (hX : Xn gw gk n t) (ud rea det ref net mnet p0 p1 p2 : Int32) : ∃ f d, fX6_hitFault ud gw gk p0 p1 p2 = some (f, d) ∧
    ((f = 0 ∧ ∃ told gw' gk' ms' net' mnet', fX7_hitBuoy net gw gk p0 p1 p2 = some (told, net', gw', gk') ∧ fX8_strikesBuoy 0 rea det ref mnet ms p0 p1 p2 = some (told, 0, rea, det, ref, mnet', ms') ∧ Rg gw' gk' ms' ∧ Gb n told gw' gk') ∨
    ((∃ k, 1 ≤ k ∧ k ≤ 14 ∧ f = nI k) ∧ ∃ mnet', fX8_strikesBuoy 0 rea det ref mnet ms p0 p1 p2 = some (0, 9, f, d, -1, mnet', ms)) ∨
    (f = -1 ∧ ∃ mnet', fX8_strikesBuoy 0 rea det ref mnet ms p0 p1 p2 = some (0, 1, rea, det, ref, mnet', ms)) ∨
    (f = -2 ∧ ∃ mnet', fX8_strikesBuoy 0 rea det ref mnet ms p0 p1 p2 = some (0, 2, rea, det, ref, mnet', ms))) := by
  have h10 := hV.1.1
  have h48 := hV.1.2.1
  have hb := hV.1.2.2.1
  have hn := hV.1.2.2.2.1
  have k5 := hV.1.2.2.2.2.2.1
  rcases whale_c hR hn h10 p0 with ⟨h1, h2⟩ | ⟨w, hw, rfl, h1, h2⟩
  · exact ⟨-1, ud, by rw [fX6_hitFault, h1]; rfl, Or.inr (Or.inr (Or.inl ⟨rfl, mnet, by rw [fX8_strikesBuoy, h2, Option.bind_some, if_pos rfl, fX8_strikesBuoy_14, th1, Option.bind_some, if_neg n10]⟩))⟩
  · have e2 : ∀ x y, fX8_strikesBuoy 0 rea det ref mnet ms (nI w) x y = fX8_strikesBuoy_35 (if fX8_isStrike x y = 0 then 1 else 0) (nI w) x y 0 rea det ref mnet ms := fun x y => by rw [fX8_strikesBuoy, h2, Option.bind_some, if_neg n10, fX8_strikesBuoy_14, th0, Option.bind_some, if_pos rfl]
    rcases strike_c p1 p2 with ⟨_, g2, g3⟩ | ⟨way, F, w4, F1, F5, rfl, rfl, _, g2, g3, g4⟩
    · refine ⟨-2, ud, ?_, Or.inr (Or.inr (Or.inr ⟨rfl, mnet, by rw [e2, g2, if_pos rfl, fX8_strikesBuoy_35, th1, Option.bind_some, if_neg n10]⟩))⟩
      rw [fX6_hitFault, h1, Option.bind_some, if_neg n10]
      rcases g3 with q | q
      · rw [if_pos q]
      · rw [if_pos q]; split <;> rfl
    · obtain ⟨_, em⟩ := e_ms hR (i := w) (by omega)
      have m2 : ms 2 = nI b := hR.2.2.2.1.trans k5
      have cf0 : fX6_hitFault ud gw gk (nI w) (nI way) (nI F) = ((fX6_freeFault ud gw gk (nI w)).bind fun q6 => if q6.1 = 0 then (if nearB (gw (9 * w + 4)) b = true then (if nI F ≤ gw (9 * w + 1) then ((fX6_breathFault q6.2 gw (nI w) 1).bind fun q15 => some (q15.1, q15.2)) else some (10, gw (9 * w + 1))) else some (9, fX7_between (gw (9 * w + 4)) (nI b))) else some (q6.1, q6.2)) := by
        rw [fX6_hitFault, h1, Option.bind_some, if_neg n10, g3, if_neg n10, g4, if_neg n10, isNear_e k5 (by omega), of4 gw (by omega), of1 gw (by omega), ct5, k5]
        congr 1
        funext q6
        by_cases z : nearB (gw (9 * w + 4)) b = true
        · rw [if_pos z, if_pos z]; rfl
        · rw [if_neg z, if_neg z]; rfl
      have mf0 : fX8_strikesBuoy 0 rea det ref mnet ms (nI w) (nI way) (nI F) = (if t = 48 then some (0, 9, 2, 48, -1, mnet, ms) else if gw (9 * w + 4) = -1 then some (0, 9, 3, nI w, -1, mnet, ms) else (fX8_isDryNow ms (gw (9 * w + 4))).bind fun q22 => (fX8_isRefused 0 rea det ref q22 4 (gw (9 * w + 4))).bind fun q24 => if q24.1 = 0 then fX8_strikesBuoy_116 (if fX8_apart (gw (9 * w + 4)) (nI b) ≤ 1 then 0 else 1) (nI w) (nI way) (nI F) (fX8_apart (gw (9 * w + 4)) (nI b)) (gw (9 * w + 3)) q24.2.1 q24.2.2.1 q24.2.2.2.1 q24.2.2.2.2 mnet ms else some (0, q24.2.1, q24.2.2.1, q24.2.2.2.1, q24.2.2.2.2, mnet, ms)) := by
        rw [e2, g2, if_neg n10, fX8_strikesBuoy_35, th0, Option.bind_some, if_pos rfl, over_m hR hV, Option.bind_some]
        by_cases z : t = 48
        · rw [if_pos z, if_pos z, if_neg n10]
        · rw [if_neg z, if_neg z, if_pos rfl, bench_m hR hV hw, Option.bind_some]
          by_cases y : gw (9 * w + 4) = -1
          · rw [if_pos y, if_pos y, if_neg n10]
          · rw [if_neg y, if_neg y, if_pos rfl, mof4 ms (by omega), Option.bind_some, em 4 (by omega), if_pos v103_2, cl_2, m2, mof3 ms (by omega), Option.bind_some, em 3 (by omega)]
      by_cases z : t = 48
      · exact ⟨2, 48, by rw [cf0, fX6_freeFault, play_f hR hV hw, if_pos z]; rfl, Or.inr (Or.inl ⟨⟨2, by omega, by omega, rfl⟩, mnet, by rw [mf0, if_pos z]⟩)⟩
      · by_cases y : gw (9 * w + 4) = -1
        · exact ⟨3, nI w, by rw [cf0, fX6_freeFault, play_f hR hV hw, if_neg z, if_pos y]; rfl, Or.inr (Or.inl ⟨⟨3, by omega, by omega, rfl⟩, mnet, by rw [mf0, if_neg z, if_pos y]⟩)⟩
        · obtain ⟨T1, ⟨st, st1, st2, st3⟩, _, ⟨br, br1, br2⟩, cl, _, ⟨g, g1, g5⟩, ⟨f, f1, f2⟩, ⟨zz, z1, z2⟩⟩ := hV.2.2.2.1 w hw
          obtain ⟨s, hs, q⟩ : ∃ s, s < 45 ∧ gw (9 * w + 4) = nI s := by
            rcases cl with ⟨q, _⟩ | q
            · exact absurd q y
            · exact q
          have ff : fX6_freeFault ud gw gk (nI w) = some (if fX8_isDryAt (nI s) (nI t) = 0 then (0, ud) else (4, nI s)) := by
            rw [fX6_freeFault, play_f hR hV hw, if_neg z, if_neg y, Option.bind_some, if_pos rfl, strand_c hV hw hs q, Option.bind_some, of4 gw (by omega), q]
            by_cases x : fX8_isDryAt (nI s) (nI t) = 0
            · rw [if_pos x, if_pos x]
            · rw [if_neg x, if_neg x]; rfl
          rw [cf0, mf0, if_neg z, if_neg y, ff, q, dry_m hR hs h48 hV.1.2.2.2.2.1, Option.bind_some, Option.bind_some, apart_f s hs b hb, br2, st3]
          by_cases x : fX8_isDryAt (nI s) (nI t) = 0
          · rw [if_pos x, x, rf0, Option.bind_some, if_pos rfl, if_pos rfl, fX8_strikesBuoy_116]
            by_cases nr : fX7_between (nI s) (nI b) ≤ 1
            · have nb : nearB (nI s) b = true := by rw [nearB]; exact decide_eq_true ⟨nm1 (by omega), fun v => Int32.not_le.mpr v nr⟩
              rw [if_pos nr, if_pos nb, rf0, Option.bind_some, if_pos rfl, mof1 ms (by omega), Option.bind_some, em 1 (by omega), st3, fX8_strikesBuoy_142, mof1 ms (by omega), Option.bind_some, em 1 (by omega), st3]
              by_cases fo : nI F ≤ nI st
              · rw [if_pos fo, if_pos fo, rf0, Option.bind_some, if_pos rfl, fX8_strikesBuoy_168, fX6_breathFault, of3 gw (by omega), Option.bind_some, br2]
                by_cases bb : 1 ≤ nI br
                · have b1 : 1 ≤ br := (nI_leI (a := 1) (by omega) (by omega)).mp bb
                  obtain ⟨sk, sk1, sk2⟩ := hV.1.2.2.2.2.2.2.2.1
                  obtain ⟨fk, fk1, fk2⟩ := hV.1.2.2.2.2.2.2.2.2.1
                  have gv := (go_v (gw := gw) (n := n) (t := t) (w := w) w4 F b hb)
                  have fo2 := foul_01 gw gk n b w
                  have ne := net_e gv.2
                  have hit : ∃ told gw' gk' ms', fX1_hit gw gk (nI w) (goF gw n t w way F b).1 (goF gw n t w way F b).2 (foulF gw gk n b w) = some (told, gw', gk') ∧ fX8_strikesBuoy_216 (if (goF gw n t w way F b).1 < 45 then 0 else 1) (nI w) (nI br) (gw (9 * w)) (foulF gw gk n b w) (goF gw n t w way F b).1 0 rea det ref (goF gw n t w way F b).2 ms = some (told, 0, rea, det, ref, (goF gw n t w way F b).2, ms') ∧ Rg gw' gk' ms' ∧ Gb n told gw' gk' := by
                    have h6 : foulF gw gk n b w = 1 → gk 6 = 1 - gw (9 * w) := by
                      intro e
                      rw [foulF] at e
                      by_cases v : anyF (pFl gw (1 - gw (9 * w)) b) 0 n = true ∧ gk 6 = 1 - gw (9 * w)
                      · exact v.2
                      · rw [if_neg v] at e; exact absurd e (by decide)
                    rcases fo2 with e | e
                    · rw [e]
                      rcases gv with ⟨⟨d, hd, v⟩ | ⟨v1, v | v⟩, v2⟩
                      · rw [v]
                        rcases v2 with u | u <;> rw [u]
                        · exact hit_c00 hR hV hX hw (by omega) b1 br1 br2 z1 z2 f1 f2 g1 g5 sk1 sk2 fk1 fk2 rea det ref hd
                        · exact hit_c01 hR hV hX hw (by omega) b1 br1 br2 z1 z2 f1 f2 g1 g5 sk1 sk2 fk1 fk2 rea det ref hd
                      · rw [v, v1]
                        rcases T1 with u | u
                        · exact hit_o000 hR hV hX hw (by omega) b1 br1 br2 z1 z2 f1 f2 g1 g5 sk1 sk2 fk1 fk2 rea det ref u
                        · exact hit_o001 hR hV hX hw (by omega) b1 br1 br2 z1 z2 f1 f2 g1 g5 sk1 sk2 fk1 fk2 rea det ref u
                      · rw [v, v1]
                        rcases T1 with u | u
                        · exact hit_o010 hR hV hX hw (by omega) b1 br1 br2 z1 z2 f1 f2 g1 g5 sk1 sk2 fk1 fk2 rea det ref u
                        · exact hit_o011 hR hV hX hw (by omega) b1 br1 br2 z1 z2 f1 f2 g1 g5 sk1 sk2 fk1 fk2 rea det ref u
                    · have h6' := h6 e
                      rw [e]
                      rcases gv with ⟨⟨d, hd, v⟩ | ⟨v1, v | v⟩, v2⟩
                      · rw [v]
                        rcases v2 with u | u <;> rw [u]
                        · exact hit_c10 hR hV hX hw (by omega) b1 br1 br2 z1 z2 f1 f2 g1 g5 sk1 sk2 fk1 fk2 rea det ref hd h6'
                        · exact hit_c11 hR hV hX hw (by omega) b1 br1 br2 z1 z2 f1 f2 g1 g5 sk1 sk2 fk1 fk2 rea det ref hd h6'
                      · rw [v, v1]
                        exact hit_o10 hR hV hX hw (by omega) b1 br1 br2 z1 z2 f1 f2 g1 g5 sk1 sk2 fk1 fk2 rea det ref h6'
                      · rw [v, v1]
                        exact hit_o11 hR hV hX hw (by omega) b1 br1 br2 z1 z2 f1 f2 g1 g5 sk1 sk2 fk1 fk2 rea det ref h6'
                  obtain ⟨told, gw', gk', ms', c1, c2, c3, c4⟩ := hit
                  rw [if_pos bb, if_pos bb, rf0]
                  refine ⟨0, ud, rfl, Or.inl ⟨rfl, told, gw', gk', ms', (goF gw n t w way F b).2, (goF gw n t w way F b).2, ?_, ?_, c3, c4⟩⟩
                  · rw [fX7_hitBuoy, foul_c hV hw, Option.bind_some, goC hV w4 (by omega), Option.bind_some, ne, c1]; rfl
                  · rw [Option.bind_some, if_pos rfl, mof0 ms (by omega), Option.bind_some, foul_m hR hV hw, Option.bind_some, goM hR hV w4 (by omega), Option.bind_some, show ms (13 + 9 * w) = gw (9 * w) from (e_ms hR (i := w) (by omega)).1]
                    exact c2
                · rw [if_neg bb, if_neg bb, rf1]
                  exact ⟨6, nI br, rfl, Or.inr (Or.inl ⟨⟨6, by omega, by omega, rfl⟩, mnet, rfl⟩)⟩
              · rw [if_neg fo, if_neg fo, rf1]
                exact ⟨10, nI st, rfl, Or.inr (Or.inl ⟨⟨10, by omega, by omega, rfl⟩, mnet, rfl⟩)⟩
            · have nb : ¬ nearB (nI s) b = true := by rw [nearB]; exact fun v => (of_decide_eq_true v).2 (Int32.not_le.mp nr)
              rw [if_neg nr, if_neg nb, rf1]
              exact ⟨9, fX7_between (nI s) (nI b), rfl, Or.inr (Or.inl ⟨⟨9, by omega, by omega, rfl⟩, mnet, rfl⟩)⟩
          · have d1 : fX8_isDryAt (nI s) (nI t) = 1 := by
              rcases (dry_f s hs t (by omega)).2.2 with e | e
              · exact absurd e x
              · exact e
            rw [if_neg x, d1, rf1]
            exact ⟨4, nI s, rfl, Or.inr (Or.inl ⟨⟨4, by omega, by omega, rfl⟩, mnet, rfl⟩)⟩
theorem sx_strike : St_strike Inv := by
  intro f_net u_det t_len t_cur t_kin t_tol t_don n_len h_old h_siz x_sav x_err x_rea x_det x_com v_gw v_gk v_bw v_bk v_vw v_vk v_h0w v_h0k v_h1w v_h1k v_h2w v_h2k v_h3w v_h3k v_h4w v_h4k v_h5w v_h5k v_rs v_rl v_ro v_ti v_tn v_ns m_chg m_thr m_rea m_det m_ref m_err m_ans m_sav m_net m_lin m_tap m_her m_cmd v_ms v_mw v_mv v_mp v_mf v_ml v_mt v_mc hI p0 p1 p2
  obtain ⟨n, t, b, hV, hX⟩ := id hI.2.1
  obtain ⟨o, z, g1, g2, g3, hH⟩ := hI.2.2.2.1
  obtain ⟨e1, e2, e3⟩ := hI.2.2.2.2.2.2.2
  subst g1 g2 g3 e1 e2 e3
  obtain ⟨f, d, hf, hD⟩ := d_hit hI.1 hV hX u_det m_rea m_det m_ref f_net m_net p0 p1 p2
  have hw : Rg v_gw v_gk (va_cpy v_ms v_mw 0 0 103) := Rg_congr hI.1 (fun _ _ => rfl) (fun _ _ => rfl) (fun j h => cpy_at h)
  have hk := keeps_e m_thr v_ms v_mw
  rcases hD with ⟨rfl, told, gw', gk', ms', net', mnet', hP, hM, hR', hG'⟩ | ⟨⟨k, k1, k2, rfl⟩, mnet', hM⟩ | ⟨rfl, mnet', hM⟩ | ⟨rfl, mnet', hM⟩
  · obtain ⟨o', z', a0w, a0k, a1w, a1k, a2w, a2k, a3w, a3k, a4w, a4k, a5w, a5k, mp', h1, h2, h3⟩ := hist_e (gw := v_gw) (gk := v_gk) (mw := va_cpy v_ms v_mw 0 0 103) hH hw hI.2.1
    refine ⟨(0, told, net', d, nI o', nI z', m_rea, m_det, m_ref, gw', gk', a0w, a0k, a1w, a1k, a2w, a2k, a3w, a3k, a4w, a4k, a5w, a5k), (told, nI z', 0, m_rea, m_det, m_ref, mnet', ms', va_cpy v_ms v_mw 0 0 103, mp'), ?_, ?_, Or.inl rfl, rfl, fun _ => rfl, hR', Gm.gd hG'.1, hI.2.2.1, ⟨o', z', rfl, rfl, rfl, h3⟩, hI.2.2.2.2⟩
    · simp only [fX7_strike, hf, Option.bind_some, dt0, dr0, da0, if_true, h1, hP]
    · simp only [fX8_strike, hk, Option.bind_some, hM, ends0 h2]
  · obtain ⟨q1, q2, q3⟩ := dk k1 k2
    refine ⟨(2, 0, f_net, d, nI o, nI z, nI k, d, -1, v_gw, v_gk, v_h0w, v_h0k, v_h1w, v_h1k, v_h2w, v_h2k, v_h3w, v_h3k, v_h4w, v_h4k, v_h5w, v_h5k), (0, nI z, 3, nI k, d, -1, mnet', v_ms, va_cpy v_ms v_mw 0 0 103, v_mp), ?_, ?_, Or.inr (Or.inr (Or.inr rfl)), rfl, fun h => absurd h (show ¬ (2 : Nat) = 0 by decide), hI.1, hI.2.1, hI.2.2.1, ⟨o, z, rfl, rfl, rfl, hH⟩, hI.2.2.2.2.1, hI.2.2.2.2.2.1, hI.2.2.2.2.2.2.1, rfl, rfl, rfl⟩
    · simp only [fX7_strike, hf, Option.bind_some, q1, q2, q3, if_true, show ¬ (2 : Nat) = 0 by decide, if_false]
    · simp only [fX8_strike, hk, Option.bind_some, hM, ends9]
  · refine ⟨(3, 0, f_net, d, nI o, nI z, m_rea, m_det, m_ref, v_gw, v_gk, v_h0w, v_h0k, v_h1w, v_h1k, v_h2w, v_h2k, v_h3w, v_h3k, v_h4w, v_h4k, v_h5w, v_h5k), (0, nI z, 1, m_rea, m_det, m_ref, mnet', v_ms, va_cpy v_ms v_mw 0 0 103, v_mp), ?_, ?_, Or.inr (Or.inl rfl), rfl, fun h => absurd h (show ¬ (3 : Nat) = 0 by decide), hI⟩
    · simp only [fX7_strike, hf, Option.bind_some, dtm1, show ¬ (3 : Nat) = 0 by decide, if_false]
    · simp only [fX8_strike, hk, Option.bind_some, hM, ends1]
  · refine ⟨(1, 0, f_net, d, nI o, nI z, m_rea, m_det, m_ref, v_gw, v_gk, v_h0w, v_h0k, v_h1w, v_h1k, v_h2w, v_h2k, v_h3w, v_h3k, v_h4w, v_h4k, v_h5w, v_h5k), (0, nI z, 2, m_rea, m_det, m_ref, mnet', v_ms, va_cpy v_ms v_mw 0 0 103, v_mp), ?_, ?_, Or.inr (Or.inr (Or.inl rfl)), rfl, fun h => absurd h (show ¬ (1 : Nat) = 0 by decide), hI⟩
    · simp only [fX7_strike, hf, Option.bind_some, dtm2, drm2, if_true, show ¬ (1 : Nat) = 0 by decide, if_false]
    · simp only [fX8_strike, hk, Option.bind_some, hM, ends2]

