/-! swims -/
theorem Vs_4 {gw : Nat → Int32} {n u : Nat} (h : Vs gw n u) (h10 : n ≤ 10) {i c : Nat} (hi : i < n) (hc : c < 45) (free : ∀ k, k < n → gw (9 * k + 4) ≠ nI c) : Vs (upd gw (9 * i + 4) (nI c)) n u := by
  obtain ⟨h1, h2, h3, h4, h5⟩ := h
  have cell : ∀ k, k < n → upd gw (9 * i + 4) (nI c) (9 * k + 4) = if k = i then nI c else gw (9 * k + 4) := by
    intro k hk
    by_cases y : k = i
    · rw [if_pos y, y, pk_us]
    · rw [if_neg y, pk_un (by omega)]
  refine ⟨?_, ?_, fun k hk => ?_, fun k hk hk2 => ?_, fun k j hk hj q => ?_⟩
  · rw [cnt_congr (Q := pTm gw 0) n 0 (fun k _ _ => pTm_up (by omega) (by omega) 0 k)]; exact h1
  · rw [cnt_congr (Q := pTm gw 1) n 0 (fun k _ _ => pTm_up (by omega) (by omega) 1 k)]; exact h2
  · obtain ⟨a0, a1, a2, a3, a4, a5, a6, a7, a8⟩ := h3 k hk
    have f : ∀ d, d < 9 → d ≠ 4 → upd gw (9 * i + 4) (nI c) (9 * k + d) = gw (9 * k + d) := fun d hd ne => up_ne k d (by omega) hd (Or.inr ne)
    have f0 : upd gw (9 * i + 4) (nI c) (9 * k) = gw (9 * k) := f 0 (by omega) (by omega)
    rw [Vw, f0, f 1 (by omega) (by omega), f 2 (by omega) (by omega), f 3 (by omega) (by omega), f 5 (by omega) (by omega), f 6 (by omega) (by omega), f 7 (by omega) (by omega), f 8 (by omega) (by omega), cell k hk]
    refine ⟨a0, a1, a2, a3, ?_, a5, a6, a7, a8⟩
    by_cases y : k = i
    · rw [if_pos y]; exact Or.inr ⟨c, hc, rfl⟩
    · rw [if_neg y]; exact a4
  · rw [up_ne k 5 (by omega) (by omega) (Or.inl (by omega)), up_ne k 6 (by omega) (by omega) (Or.inl (by omega)), up_ne k 7 (by omega) (by omega) (Or.inl (by omega)), up_ne k 8 (by omega) (by omega) (Or.inl (by omega))]
    exact h4 k hk hk2
  · rw [cell k hk, cell j (by omega)] at q
    rw [cell k hk]
    by_cases y : k = i
    · rw [if_pos y, if_neg (by omega)] at q
      exact absurd q.symm (free j (by omega))
    · rw [if_neg y] at q ⊢
      by_cases x : j = i
      · rw [if_pos x] at q; exact absurd q (free k hk)
      · rw [if_neg x] at q; exact h5 k j hk hj q
theorem neg_s {b v : Nat} (h : v ≤ b) (hb : b < 1000) : nI b + -nI v = nI (b - v) ∧ nI b - nI v = nI (b - v) := by
  have e : nI b - nI v = nI (b - v) := pk_sub h
  exact ⟨by rw [← Int32.sub_eq_add_neg, e], e⟩
theorem d_swim {gw gk ms : Nat → Int32} {n t b : Nat} (hR : Rg gw gk ms) (hV : Vg gw gk n t t b) (hX : Xn gw gk n t) (ud rea det ref p0 p1 : Int32) (rs ro mf : Nat → Int32) : ∃ f d rs1 ro1, fX6_moveFault ud gw gk rs ro p0 p1 = some (f, d, rs1, ro1) ∧
    ((f = 0 ∧ ∃ told gw' gk' ms' rs2 ro2 mf', fX7_moveWhale gw gk rs1 ro1 p0 p1 = some (told, gw', gk', rs2, ro2) ∧ fX8_swims 0 rea det ref ms mf p0 p1 = some (told, 0, rea, det, ref, ms', mf') ∧ Rg gw' gk' ms' ∧ Gb n told gw' gk') ∨
    ((∃ k, 1 ≤ k ∧ k ≤ 14 ∧ f = nI k) ∧ ∃ mf', fX8_swims 0 rea det ref ms mf p0 p1 = some (0, 9, f, d, -1, ms, mf')) ∨
    (f = -1 ∧ ∃ mf', fX8_swims 0 rea det ref ms mf p0 p1 = some (0, 1, rea, det, ref, ms, mf'))) := by
  have h10 := hV.1.1
  have h48 := hV.1.2.1
  have hn := hV.1.2.2.2.1
  rcases cell_c p1 with ⟨g1, g2⟩ | ⟨c, hc, rfl, g1, g2⟩
  · refine ⟨-1, ud, rs, ro, by rw [fX6_moveFault, if_pos g1], Or.inr (Or.inr ⟨rfl, mf, ?_⟩)⟩
    rcases whale_c hR hn h10 p0 with ⟨h1, h2⟩ | ⟨w, hw, rfl, h1, h2⟩
    · rw [fX8_swims, h2, Option.bind_some, if_pos rfl, fX8_swims_21, th1, Option.bind_some, if_neg n10]
    · rw [fX8_swims, h2, Option.bind_some, if_neg n10, g2, if_pos rfl, fX8_swims_21, th1, Option.bind_some, if_neg n10]
  · rcases whale_c hR hn h10 p0 with ⟨h1, h2⟩ | ⟨w, hw, rfl, h1, h2⟩
    · exact ⟨-1, ud, rs, ro, by rw [fX6_moveFault, g1, if_neg n10, fX6_freeFault, missing_f h1]; rfl, Or.inr (Or.inr ⟨rfl, mf, by rw [fX8_swims, h2, Option.bind_some, if_pos rfl, fX8_swims_21, th1, Option.bind_some, if_neg n10]⟩)⟩
    · obtain ⟨_, em⟩ := e_ms hR (i := w) (by omega)
      have m1 : ms 1 = nI t := hR.2.2.1.trans hV.1.2.2.2.2.1
      have cf0 : fX6_moveFault ud gw gk rs ro (nI w) (nI c) = ((fX6_freeFault ud gw gk (nI w)).bind fun q2 => if q2.1 = 0 then (if fstF (pOn gw (nI c)) 0 n = -1 then (if fX8_isDryAt (nI c) (nI t) = 0 then ((fX4_findBySpreading gw gk rs ro (nI w)).bind fun q11 => (fX4_spreadTo q11.1 (nI c)).bind fun q13 => if q13 = -1 then some (5, q13, q11.1, q11.2) else if q13 ≤ gw (9 * w + 2) then ((fX6_breathFault q2.2 gw (nI w) q13).bind fun q19 => some (q19.1, q19.2, q11.1, q11.2)) else some (5, q13, q11.1, q11.2)) else some (8, fX8_tideAt (nI t), rs, ro)) else some (7, fstF (pOn gw (nI c)) 0 n, rs, ro)) else some (q2.1, q2.2, rs, ro)) := by
        rw [fX6_moveFault, g1, if_neg n10, whaleOn_e hn h10, dry_c hc h48 hV.1.2.2.2.2.1, ct1, hV.1.2.2.2.2.1, ← tide_f t (by omega), of2 gw (by omega)]
        rfl
      have mf0 : fX8_swims 0 rea det ref ms mf (nI w) (nI c) = (if t = 48 then some (0, 9, 2, 48, -1, ms, mf) else if gw (9 * w + 4) = -1 then some (0, 9, 3, nI w, -1, ms, mf) else (fX8_isStrandedNow ms (nI w)).bind fun q16 => (fX8_isRefused 0 rea det ref q16 4 (gw (9 * w + 4))).bind fun q20 => if q20.1 = 0 then fX8_swims_80 (if fstF (pOn gw (nI c)) 0 n < 0 then 0 else 1) (nI w) (nI c) (fstF (pOn gw (nI c)) 0 n) q20.2.1 q20.2.2.1 q20.2.2.2.1 q20.2.2.2.2 ms mf else some (0, q20.2.1, q20.2.2.1, q20.2.2.2.1, q20.2.2.2.2, ms, mf)) := by
        rw [fX8_swims, h2, Option.bind_some, if_neg n10, g2, if_neg n10, fX8_swims_21, th0, Option.bind_some, if_pos rfl, over_m hR hV, Option.bind_some]
        by_cases z : t = 48
        · rw [if_pos z, if_pos z, if_neg n10]
        · rw [if_neg z, if_neg z, if_pos rfl, bench_m hR hV hw, Option.bind_some]
          by_cases y : gw (9 * w + 4) = -1
          · rw [if_pos y, if_pos y, if_neg n10]
          · rw [if_neg y, if_neg y, if_pos rfl, whaleAt_e hR hn h10, Option.bind_some, mof4 ms (by omega), em 4 (by omega)]
            rfl
      by_cases z : t = 48
      · exact ⟨2, 48, rs, ro, by rw [cf0, fX6_freeFault, play_f hR hV hw, if_pos z]; rfl, Or.inr (Or.inl ⟨⟨2, by omega, by omega, rfl⟩, mf, by rw [mf0, if_pos z]⟩)⟩
      · by_cases y : gw (9 * w + 4) = -1
        · exact ⟨3, nI w, rs, ro, by rw [cf0, fX6_freeFault, play_f hR hV hw, if_neg z, if_pos y]; rfl, Or.inr (Or.inl ⟨⟨3, by omega, by omega, rfl⟩, mf, by rw [mf0, if_neg z, if_pos y]⟩)⟩
        · obtain ⟨s, hs, q⟩ : ∃ s, s < 45 ∧ gw (9 * w + 4) = nI s := by
            rcases (hV.2.2.2.1 w hw).2.2.2.2.1 with ⟨q, _⟩ | q
            · exact absurd q y
            · exact q
          have ff : fX6_freeFault ud gw gk (nI w) = some (if fX8_isDryAt (nI s) (nI t) = 0 then (0, ud) else (4, nI s)) := by
            rw [fX6_freeFault, play_f hR hV hw, if_neg z, if_neg y, Option.bind_some, if_pos rfl, strand_c hV hw hs q, Option.bind_some, of4 gw (by omega), q]
            by_cases x : fX8_isDryAt (nI s) (nI t) = 0
            · rw [if_pos x, if_pos x]
            · rw [if_neg x, if_neg x]; rfl
          rw [cf0, mf0, if_neg z, if_neg y, ff, strand_m hR hV hw hs q, Option.bind_some, Option.bind_some, q]
          by_cases x : fX8_isDryAt (nI s) (nI t) = 0
          · rw [if_pos x, x, rf0, Option.bind_some, if_pos rfl, if_pos rfl]
            rcases fst_spec (pOn gw (nI c)) n 0 with ⟨v, v2⟩ | ⟨v, _, v1, _, v2, _⟩
            · rw [v, if_pos rfl, if_pos (show (-1 : Int32) < 0 from by decide), fX8_swims_80, rf0, Option.bind_some, if_pos rfl, dry_m hR hc h48 hV.1.2.2.2.2.1, Option.bind_some, if_pos v103_1, cl_1, m1]
              have free : ∀ k, k < n → gw (9 * k + 4) ≠ nI c := fun k hk e => by
                have := v2 k (by omega) (by omega)
                rw [pOn, e] at this
                simp at this
              by_cases d : fX8_isDryAt (nI c) (nI t) = 0
              · rw [if_pos d, d, rf0, Option.bind_some, if_pos rfl]
                obtain ⟨f, ro', a1, a2⟩ := way_s hV hw hs q rs ro
                obtain ⟨g, b1, b2⟩ := way_m hR hV hw hs q mf
                obtain ⟨_, _, ⟨sp, sp1, sp2, sp3⟩, ⟨br, br1, br2⟩, _⟩ := hV.2.2.2.1 w hw
                rw [a1, b1, Option.bind_some, Option.bind_some, if_pos (e_vin (by omega) (by omega)), nI_clamp (by omega), mof3 ms (by omega), Option.bind_some, mof2 ms (by omega), Option.bind_some, em 3 (by omega), em 2 (by omega), sp3, br2, fX8_swims_152]
                rcases far_2 hs (Or.inr rfl) a2 b2 hc with ⟨vv, w1, w2, w3⟩ | ⟨w2, w3⟩
                · have n99 : ¬ nI vv = 99 := fun q => by have := (nI_eq (b := 99) (by omega) (by omega)).mp q; omega
                  have nm : ¬ nI vv = -1 := nm1 (by omega)
                  rw [(to_v hc w1 w2).1, Option.bind_some, if_neg nm, w3, if_neg n99]
                  by_cases le : nI vv ≤ nI sp
                  · rw [if_pos le, if_pos le, fX8_swims_166, rf0, Option.bind_some, if_pos rfl, fX8_swims_185, fX6_breathFault, of3 gw (by omega), Option.bind_some, br2]
                    by_cases lb : nI vv ≤ nI br
                    · have lbn : vv ≤ br := (nI_leI (by omega) (by omega)).mp lb
                      obtain ⟨e1, e2⟩ := neg_s lbn (by omega)
                      rw [if_pos lb, if_pos lb, rf0, Option.bind_some, Option.bind_some, if_pos rfl]
                      obtain ⟨f2, ro2, c1, c2⟩ := way_s hV hw hs q f ro'
                      have w4 : f2 c = nI vv := by
                        rcases far_2 hs (Or.inl rfl) a2 c2 hc with ⟨x1, x2, x3, x4⟩ | ⟨x3, x4⟩
                        · rw [x4, ← x3, w2]
                        · rw [w2] at x3; have := (nI_eq (b := 1000) (by omega) (by omega)).mp x3; omega
                      have R := Rg_w (Rg_w (Rg_w hR (j := 9 * w + 4) (by omega) (nI c)) (j := 9 * w + 3) (by omega) (nI (br - vv))) (j := 9 * w + 5) (by omega) 0
                      have V := Vs_5_0 (Vs_3 (Vs_4 hV.2 h10 hw hc free) hw (b := br - vv) (by omega)) hw
                      obtain ⟨gw', gk', ms', b', s1, s2, s3, s4, s5⟩ := stroke_e R hV.1 V (by omega) (by omega) (Xn_c (c := 5) (Xn_c (c := 3) (Xn_4 hX y (nm1 (by omega))) (by omega) w (nI (br - vv))) (by omega) w 0) (by omega)
                      refine ⟨0, ud, f, ro', rfl, Or.inl ⟨rfl, nI vv, gw', gk', ms', f2, ro2, g, ?_, ?_, s3, ⟨_, _, _, Nat.le_refl _, s4, s5⟩, BD_nI (by omega)⟩⟩
                      · have u3 : upd gw (9 * w + 4) (nI c) (9 * w + 3) = nI br := by rw [pk_un (by omega), br2]
                        rw [fX7_moveWhale, c1, Option.bind_some, (to_v hc w1 w4).1, Option.bind_some, fX1_move, set4 gw (by omega), Option.bind_some, add3 _ (by omega), Option.bind_some, u3, e1, set5 _ (by omega), Option.bind_some, s1]; rfl
                      · rw [mset4 ms (by omega), Option.bind_some, mset3 _ (by omega), Option.bind_some, mset5 _ (by omega), Option.bind_some, e2, show 13 + 9 * w + 4 = 13 + (9 * w + 4) from by omega, show 13 + 9 * w + 3 = 13 + (9 * w + 3) from by omega, show 13 + 9 * w + 5 = 13 + (9 * w + 5) from by omega, s2]; rfl
                    · rw [if_neg lb, if_neg lb, rf1, Option.bind_some, if_neg n10]
                      exact ⟨6, nI br, f, ro', rfl, Or.inr (Or.inl ⟨⟨6, by omega, by omega, rfl⟩, g, rfl⟩)⟩
                  · rw [if_neg le, if_neg le, fX8_swims_166, rf1, Option.bind_some, if_neg n10]
                    exact ⟨5, nI vv, f, ro', rfl, Or.inr (Or.inl ⟨⟨5, by omega, by omega, rfl⟩, g, rfl⟩)⟩
                · have le : ¬ nI 99 ≤ nI sp := nI_ge (by omega) (by omega)
                  rw [(to_1000 hc w2).1, Option.bind_some, if_pos rfl, w3, if_neg le, if_pos (show nI 99 = 99 from rfl), fX8_swims_166, rf1, Option.bind_some, if_neg n10]
                  exact ⟨5, -1, f, ro', rfl, Or.inr (Or.inl ⟨⟨5, by omega, by omega, rfl⟩, g, rfl⟩)⟩
              · have d1 : fX8_isDryAt (nI c) (nI t) = 1 := by
                  rcases (dry_f c hc t (by omega)).2.2 with e | e
                  · exact absurd e d
                  · exact e
                rw [if_neg d, d1, rf1, Option.bind_some, if_neg n10]
                exact ⟨8, fX8_tideAt (nI t), rs, ro, rfl, Or.inr (Or.inl ⟨⟨8, by omega, by omega, rfl⟩, mf, rfl⟩)⟩
            · rw [v2, if_neg (nm1 (by omega)), if_neg (nI_pos (by omega)), fX8_swims_80, rf1, Option.bind_some, if_neg n10]
              exact ⟨7, nI v, rs, ro, rfl, Or.inr (Or.inl ⟨⟨7, by omega, by omega, rfl⟩, mf, rfl⟩)⟩
          · have d1 : fX8_isDryAt (nI s) (nI t) = 1 := by
              rcases (dry_f s hs t (by omega)).2.2 with e | e
              · exact absurd e x
              · exact e
            rw [if_neg x, d1, rf1, Option.bind_some, if_neg n10]
            exact ⟨4, nI s, rs, ro, rfl, Or.inr (Or.inl ⟨⟨4, by omega, by omega, rfl⟩, mf, rfl⟩)⟩
theorem sx_swim : St_swim Inv := by
  intro f_net u_det t_len t_cur t_kin t_tol t_don n_len h_old h_siz x_sav x_err x_rea x_det x_com v_gw v_gk v_bw v_bk v_vw v_vk v_h0w v_h0k v_h1w v_h1k v_h2w v_h2k v_h3w v_h3k v_h4w v_h4k v_h5w v_h5k v_rs v_rl v_ro v_ti v_tn v_ns m_chg m_thr m_rea m_det m_ref m_err m_ans m_sav m_net m_lin m_tap m_her m_cmd v_ms v_mw v_mv v_mp v_mf v_ml v_mt v_mc hI p0 p1
  obtain ⟨n, t, b, hV, hX⟩ := id hI.2.1
  obtain ⟨o, z, g1, g2, g3, hH⟩ := hI.2.2.2.1
  obtain ⟨e1, e2, e3⟩ := hI.2.2.2.2.2.2.2
  subst g1 g2 g3 e1 e2 e3
  obtain ⟨f, d, rs1, ro1, hf, hD⟩ := d_swim hI.1 hV hX u_det m_rea m_det m_ref p0 p1 v_rs v_ro v_mf
  have hw : Rg v_gw v_gk (va_cpy v_ms v_mw 0 0 103) := Rg_congr hI.1 (fun _ _ => rfl) (fun _ _ => rfl) (fun j h => cpy_at h)
  have hk := keeps_e m_thr v_ms v_mw
  rcases hD with ⟨rfl, told, gw', gk', ms', rs2, ro2, mf', hP, hM, hR', hG'⟩ | ⟨⟨k, k1, k2, rfl⟩, mf', hM⟩ | ⟨rfl, mf', hM⟩
  · obtain ⟨o', z', a0w, a0k, a1w, a1k, a2w, a2k, a3w, a3k, a4w, a4k, a5w, a5k, mp', h1, h2, h3⟩ := hist_e (gw := v_gw) (gk := v_gk) (mw := va_cpy v_ms v_mw 0 0 103) hH hw hI.2.1
    refine ⟨(0, told, d, nI o', nI z', m_rea, m_det, m_ref, gw', gk', a0w, a0k, a1w, a1k, a2w, a2k, a3w, a3k, a4w, a4k, a5w, a5k, rs2, ro2), (told, nI z', 0, m_rea, m_det, m_ref, ms', va_cpy v_ms v_mw 0 0 103, mp', mf'), ?_, ?_, Or.inl rfl, rfl, fun _ => rfl, hR', Gm.gd hG'.1, hI.2.2.1, ⟨o', z', rfl, rfl, rfl, h3⟩, hI.2.2.2.2⟩
    · simp only [fX7_swim, hf, Option.bind_some, dt0, da0, if_true, h1, hP]
    · simp only [fX8_swim, hk, Option.bind_some, hM, ends0 h2]
  · obtain ⟨q1, q2, q3⟩ := dk k1 k2
    refine ⟨(2, 0, d, nI o, nI z, nI k, d, -1, v_gw, v_gk, v_h0w, v_h0k, v_h1w, v_h1k, v_h2w, v_h2k, v_h3w, v_h3k, v_h4w, v_h4k, v_h5w, v_h5k, rs1, ro1), (0, nI z, 2, nI k, d, -1, v_ms, va_cpy v_ms v_mw 0 0 103, v_mp, mf'), ?_, ?_, Or.inr (Or.inr rfl), rfl, fun h => absurd h (show ¬ (2 : Nat) = 0 by decide), hI.1, hI.2.1, hI.2.2.1, ⟨o, z, rfl, rfl, rfl, hH⟩, hI.2.2.2.2.1, hI.2.2.2.2.2.1, hI.2.2.2.2.2.2.1, rfl, rfl, rfl⟩
    · simp only [fX7_swim, hf, Option.bind_some, q1, q2, q3, if_true, show ¬ (2 : Nat) = 0 by decide, if_false]
    · simp only [fX8_swim, hk, Option.bind_some, hM, ends9]
  · refine ⟨(3, 0, d, nI o, nI z, m_rea, m_det, m_ref, v_gw, v_gk, v_h0w, v_h0k, v_h1w, v_h1k, v_h2w, v_h2k, v_h3w, v_h3k, v_h4w, v_h4k, v_h5w, v_h5k, rs1, ro1), (0, nI z, 1, m_rea, m_det, m_ref, v_ms, va_cpy v_ms v_mw 0 0 103, v_mp, mf'), ?_, ?_, Or.inr (Or.inl rfl), rfl, fun h => absurd h (show ¬ (3 : Nat) = 0 by decide), hI⟩
    · simp only [fX7_swim, hf, Option.bind_some, dtm1, show ¬ (3 : Nat) = 0 by decide, if_false]
    · simp only [fX8_swim, hk, Option.bind_some, hM, ends1]

