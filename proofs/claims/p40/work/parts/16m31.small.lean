/-! swaps, songs, drifting -/
theorem over_c {gw gk : Nat → Int32} {n t u b : Nat} (hV : Vg gw gk n t u b) : fX1_isOver gk = some (if t = 48 then 1 else 0) := by
  have h48 := hV.1.2.1
  rw [fX1_isOver, ct1, Option.bind_some, hV.1.2.2.2.2.1]
  by_cases z : t = 48
  · rw [if_pos z, if_neg (show ¬ nI t < (48 : Int32) from nI_nlt (b := 48) (by omega) (by omega))]
  · rw [if_neg z, if_pos (show nI t < (48 : Int32) from nI_lt (b := 48) (by omega) (by omega))]
theorem over_m {gw gk ms : Nat → Int32} {n t u b : Nat} (hR : Rg gw gk ms) (hV : Vg gw gk n t u b) (thr x y w : Int32) : fX8_isOver thr x y w ms = some (if t = 48 then (1, 9, 2, 48, -1) else (0, thr, x, y, w)) := by
  have h48 := hV.1.2.1
  rw [fX8_isOver, if_pos v103_1, cl_1, hR.2.2.1, hV.1.2.2.2.2.1]
  by_cases z : t = 48
  · subst z; rfl
  · rw [if_neg (show ¬ nI t = (48 : Int32) from fun q => z ((nI_eq (b := 48) (by omega) (by omega)).mp q)), if_neg z, fX8_isOver_17, rf0, Option.bind_some]
    show some ((0 : Int32) &&& 1, thr, x, y, w) = _
    rw [a00]
theorem bench_c (gw : Nat → Int32) {w : Nat} (hw : w < 10) : fX1_isPlaying gw (nI w) = some (if gw (9 * w + 4) = -1 then 0 else 1) := by
  rw [fX1_isPlaying, of4 gw hw, Option.bind_some]
  split <;> rfl
theorem e_ms {gw gk ms : Nat → Int32} (hR : Rg gw gk ms) {i : Nat} (hi : i < 10) : ms (13 + 9 * i) = gw (9 * i) ∧ ∀ d, d < 9 → ms (13 + 9 * i + d) = gw (9 * i + d) :=
  ⟨hR.1 _ (by omega), fun d hd => by rw [show 13 + 9 * i + d = 13 + (9 * i + d) from by omega]; exact hR.1 _ (by omega)⟩
theorem bench_m {gw gk ms : Nat → Int32} {n t u b w : Nat} (hR : Rg gw gk ms) (hV : Vg gw gk n t u b) (hw : w < n) (thr x y v : Int32) : fX8_isOnBench thr x y v ms (nI w) = some (if gw (9 * w + 4) = -1 then (1, 9, 3, nI w, -1) else (0, thr, x, y, v)) := by
  have h10 := hV.1.1
  rw [fX8_isOnBench, mof4 ms (by omega), Option.bind_some, (e_ms hR (i := w) (by omega)).2 4 (by omega)]
  rcases (hV.2.2.2.1 w hw).2.2.2.2.1 with ⟨c, _⟩ | ⟨c, hc, c0⟩
  · rw [c, if_pos rfl, if_neg (show ¬ (0 : Int32) ≤ -1 from by decide), fX8_isOnBench_15, rf1, Option.bind_some]
    show some ((1 : Int32) &&& 1, 9, 3, nI w, -1) = _
    rw [a10]
  · rw [c0, if_neg (nm1 (by omega)), if_pos (nI_pos' (by omega)), fX8_isOnBench_15, rf0, Option.bind_some]
    show some ((0 : Int32) &&& 1, thr, x, y, v) = _
    rw [a00]
theorem play_f {gw gk ms : Nat → Int32} {n t u b w : Nat} (hR : Rg gw gk ms) (hV : Vg gw gk n t u b) (hw : w < n) (ud : Int32) : fX6_playFault ud gw gk (nI w) = some (if t = 48 then (2, 48) else if gw (9 * w + 4) = -1 then (3, nI w) else (0, ud)) := by
  have h10 := hV.1.1
  have h1 : fX1_has gk (nI w) = some 1 := by
    rw [fX1_has, if_neg (nI_pos (by omega)), ct0, Option.bind_some, hV.1.2.2.2.1, if_neg (nI_ge (by omega) (by omega))]
  rw [fX6_playFault, h1, Option.bind_some, if_neg n10, over_c hV, Option.bind_some]
  by_cases z : t = 48
  · rw [if_pos z, if_neg n10, ct1, Option.bind_some, hV.1.2.2.2.2.1, if_pos z, z]; rfl
  · rw [if_neg z, if_pos rfl, bench_c gw (by omega), Option.bind_some, if_neg z]
    by_cases y : gw (9 * w + 4) = -1
    · rw [if_pos y, if_pos rfl, if_pos y]; rfl
    · rw [if_neg y, if_neg n10, if_neg y]
theorem dec1 {b : Nat} (h : 1 ≤ b) : nI b + -1 = nI (b - 1) ∧ nI b - 1 = nI (b - 1) := by
  obtain ⟨c, rfl⟩ : ∃ c, b = c + 1 := ⟨b - 1, by omega⟩
  exact ⟨pk_m1 c, nI_pred c⟩
theorem missing_f {gk : Nat → Int32} {p : Int32} (h : fX1_has gk p = some 0) (ud : Int32) (gw : Nat → Int32) : fX6_playFault ud gw gk p = some (-1, ud) := by
  rw [fX6_playFault, h]; rfl
theorem d_sing {gw gk ms : Nat → Int32} {n t b : Nat} (hR : Rg gw gk ms) (hV : Vg gw gk n t t b) (hX : Xn gw gk n t) (ud rea det ref p : Int32) : ∃ f d, fX6_songFault ud gw gk p = some (f, d) ∧ Dd n f d (fX1_startSong gw gk p) (fX8_sings 0 rea det ref ms p) rea det ref ms 1 0 := by
  have h10 := hV.1.1
  have h48 := hV.1.2.1
  rcases whale_c hR hV.1.2.2.2.1 hV.1.1 p with ⟨h1, h2⟩ | ⟨w, hw, rfl, h1, h2⟩
  · exact ⟨-1, ud, by rw [fX6_songFault, missing_f h1]; rfl, Or.inr (Or.inr (Or.inl ⟨by decide, rfl, by rw [fX8_sings, h2]; rfl⟩))⟩
  · obtain ⟨bb, b1, b2⟩ := (hV.2.2.2.1 w hw).2.2.2.1
    obtain ⟨_, em⟩ := e_ms hR (i := w) (by omega)
    have cf : fX6_songFault ud gw gk (nI w) = some (if t = 48 then (2, 48) else if gw (9 * w + 4) = -1 then (3, nI w) else if gw (9 * w + 5) = 1 then (11, nI w) else if 1 ≤ nI bb then (0, ud) else (6, nI bb)) := by
      rw [fX6_songFault, play_f hR hV hw, Option.bind_some]
      by_cases z : t = 48
      · rw [if_pos z, if_pos z]; rfl
      · rw [if_neg z, if_neg z]
        by_cases y : gw (9 * w + 4) = -1
        · rw [if_pos y, if_pos y]; rfl
        · rw [if_neg y, if_neg y, if_pos rfl, of5 gw (by omega), Option.bind_some]
          by_cases x : gw (9 * w + 5) = 1
          · rw [if_pos x, if_pos x]; rfl
          · rw [if_neg x, if_neg x, fX6_breathFault, of3 gw (by omega), Option.bind_some, b2]
            by_cases v : 1 ≤ nI bb
            · rw [if_pos v, if_pos v]; rfl
            · rw [if_neg v, if_neg v]; rfl
    have mf : fX8_sings 0 rea det ref ms (nI w) = (if t = 48 then some (0, 9, 2, 48, -1, ms) else if gw (9 * w + 4) = -1 then some (0, 9, 3, nI w, -1, ms) else if gw (9 * w + 5) = 1 then some (0, 9, 11, nI w, -1, ms) else if 1 ≤ nI bb then ((fX8_strokes (upd (upd ms (13 + 9 * w + 5) 1) (13 + 9 * w + 3) (nI bb - 1)) (nI bb - 1)).bind fun q29 => some (q29.1, 0, rea, det, ref, q29.2)) else some (0, 9, 6, nI bb, -1, ms)) := by
      rw [fX8_sings, h2, Option.bind_some, if_neg n10, fX8_sings_14, th0, Option.bind_some, if_pos rfl, over_m hR hV, Option.bind_some]
      by_cases z : t = 48
      · rw [if_pos z, if_pos z, if_neg n10]
      · rw [if_neg z, if_neg z, if_pos rfl, bench_m hR hV hw, Option.bind_some]
        by_cases y : gw (9 * w + 4) = -1
        · rw [if_pos y, if_pos y, if_neg n10]
        · rw [if_neg y, if_neg y, if_pos rfl, mof3 ms (by omega), Option.bind_some, mof5 ms (by omega), Option.bind_some, em 3 (by omega), em 5 (by omega), b2, fX8_sings_61]
          by_cases x : gw (9 * w + 5) = 1
          · rw [if_pos x, if_pos x, rf1, Option.bind_some, if_neg n10]
          · rw [if_neg x, if_neg x, rf0, Option.bind_some, if_pos rfl, fX8_sings_81]
            by_cases v : 1 ≤ nI bb
            · rw [if_pos v, if_pos v, rf0, Option.bind_some, if_pos rfl, mset5 ms (by omega), Option.bind_some, mset3 _ (by omega), Option.bind_some]
            · rw [if_neg v, if_neg v, rf1, Option.bind_some, if_neg n10]
    by_cases z : t = 48
    · exact ⟨2, 48, by rw [cf, if_pos z], Or.inr (Or.inl ⟨⟨2, by omega, by omega, rfl⟩, by rw [mf, if_pos z]⟩)⟩
    · by_cases y : gw (9 * w + 4) = -1
      · exact ⟨3, nI w, by rw [cf, if_neg z, if_pos y], Or.inr (Or.inl ⟨⟨3, by omega, by omega, rfl⟩, by rw [mf, if_neg z, if_pos y]⟩)⟩
      · by_cases x : gw (9 * w + 5) = 1
        · exact ⟨11, nI w, by rw [cf, if_neg z, if_neg y, if_pos x], Or.inr (Or.inl ⟨⟨11, by omega, by omega, rfl⟩, by rw [mf, if_neg z, if_neg y, if_pos x]⟩)⟩
        · by_cases v : 1 ≤ nI bb
          · have v1 : 1 ≤ bb := (nI_leI (a := 1) (by omega) (by omega)).mp v
            obtain ⟨d1, d2⟩ := dec1 v1
            have R := Rg_w (Rg_w hR (j := 9 * w + 5) (by omega) 1) (j := 9 * w + 3) (by omega) (nI (bb - 1))
            have V := Vs_3 (Vs_5_1 hV.2 hw y) hw (b := bb - 1) (by omega)
            obtain ⟨gw', gk', ms', b', s1, s2, s3, s4, s5⟩ := stroke_e R hV.1 V (by omega) (by omega) (Xn_c (c := 3) (Xn_c (c := 5) hX (by omega) w 1) (by omega) w (nI (bb - 1))) (by omega)
            have eq : upd (upd gw (9 * w + 3) (nI (bb - 1))) (9 * w + 5) 1 = upd (upd gw (9 * w + 5) 1) (9 * w + 3) (nI (bb - 1)) := by
              funext j
              by_cases j3 : j = 9 * w + 3
              · rw [j3, pk_us, pk_un (by omega), pk_us]
              · rw [pk_un (f := upd gw (9 * w + 5) 1) j3]
                by_cases j5 : j = 9 * w + 5
                · rw [j5, pk_us, pk_us]
                · rw [pk_un j5, pk_un j5, pk_un j3]
            refine ⟨0, ud, by rw [cf, if_neg z, if_neg y, if_neg x, if_pos v], Or.inl ⟨rfl, nI (bb - 1), gw', gk', ms', ?_, ?_, s3, ⟨_, _, _, Nat.le_refl _, s4, s5⟩, BD_nI (by omega)⟩⟩
            · rw [fX1_startSong, add3 gw (by omega), Option.bind_some, b2, d1, set5 _ (by omega), Option.bind_some, of3 _ (by omega), Option.bind_some, pk_un (by omega), pk_us, eq, s1]; rfl
            · rw [mf, if_neg z, if_neg y, if_neg x, if_pos v, d2, show 13 + 9 * w + 5 = 13 + (9 * w + 5) from by omega, show 13 + 9 * w + 3 = 13 + (9 * w + 3) from by omega, s2]; rfl
          · exact ⟨6, nI bb, by rw [cf, if_neg z, if_neg y, if_neg x, if_neg v], Or.inr (Or.inl ⟨⟨6, by omega, by omega, rfl⟩, by rw [mf, if_neg z, if_neg y, if_neg x, if_neg v]⟩)⟩
theorem d_drift {gw gk ms : Nat → Int32} {n t b : Nat} (hR : Rg gw gk ms) (hV : Vg gw gk n t t b) (hX : Xn gw gk n t) (ud rea det ref : Int32) : ∃ f d, fX6_passFault ud gk = some (f, d) ∧ Dd n f d (fX1_endStroke gw gk) (fX8_drifts 0 rea det ref ms) rea det ref ms 0 0 := by
  have h48 := hV.1.2.1
  have hk := hV.1.2.2.2.2.1
  have m1 : ms 1 + 1 = nI (t + 1) := by rw [hR.2.2.1, hk, nI_1]
  by_cases z : t = 48
  · exact ⟨2, 48, by rw [fX6_passFault, over_c hV, if_pos z, Option.bind_some, if_neg n10, ct1, Option.bind_some, hk, z]; rfl, Or.inr (Or.inl ⟨⟨2, by omega, by omega, rfl⟩, by rw [fX8_drifts, over_m hR hV, if_pos z, Option.bind_some, if_neg n10]⟩)⟩
  · obtain ⟨gw', gk', ms', b', s1, s2, s3, s4, s5⟩ := stroke_e hR hV.1 hV.2 (by omega) (by omega) hX (by omega)
    exact ⟨0, ud, by rw [fX6_passFault, over_c hV, if_neg z, Option.bind_some, if_pos rfl], Or.inl ⟨rfl, nI (t + 1), gw', gk', ms', s1, by rw [fX8_drifts, over_m hR hV, if_neg z, Option.bind_some, if_pos rfl, if_pos v103_1, cl_1, m1, s2]; rfl, s3, ⟨_, _, _, Nat.le_refl _, s4, s5⟩, BD_nI (by omega)⟩⟩
/-- a calf for a whale in play -/
theorem Vs_swap {gw gw' : Nat → Int32} {n u i j c : Nat} (h : Vs gw n u) (h10 : n ≤ 10) (hi : i < n) (hj : j < n) (ne : i ≠ j) (hc : c < 45) (ci : gw (9 * i + 4) = nI c) (cj : gw (9 * j + 4) = -1)
    (e : ∀ k, k < 90 → k ≠ 9 * j + 4 → k ≠ 9 * i + 4 → k ≠ 9 * i + 5 → gw' k = gw k) (e1 : gw' (9 * j + 4) = nI c) (e2 : gw' (9 * i + 4) = -1) (e3 : gw' (9 * i + 5) = 0) : Vs gw' n u := by
  obtain ⟨h1, h2, h3, h4, h5⟩ := h
  have ct : ∀ r, cntF (pTm gw' r) 0 n = cntF (pTm gw r) 0 n := fun r => cnt_congr n 0 (fun k _ hk => by rw [pTm, pTm, e (9 * k) (by omega) (by omega) (by omega) (by omega)])
  have g : ∀ k d, k < 10 → d < 9 → d ≠ 4 → d ≠ 5 → gw' (9 * k + d) = gw (9 * k + d) := fun k d _ _ _ _ => e _ (by omega) (by omega) (by omega) (by omega)
  have g0 : ∀ k, k < 10 → gw' (9 * k) = gw (9 * k) := fun k hk => g k 0 hk (by omega) (by omega) (by omega)
  have cell : ∀ k, k < n → gw' (9 * k + 4) = if k = i then -1 else if k = j then nI c else gw (9 * k + 4) := by
    intro k hk
    by_cases y : k = i
    · rw [if_pos y, y, e2]
    · rw [if_neg y]
      by_cases x : k = j
      · rw [if_pos x, x, e1]
      · rw [if_neg x, e _ (by omega) (by omega) (by omega) (by omega)]
  refine ⟨by rw [ct]; exact h1, by rw [ct]; exact h2, fun k hk => ?_, fun k hk hk2 => ?_, fun k m hk hm q => ?_⟩
  · obtain ⟨a0, a1, a2, a3, a4, a5, a6, a7, a8⟩ := h3 k hk
    have s5 : gw' (9 * k + 5) = if k = i then 0 else gw (9 * k + 5) := by
      by_cases y : k = i
      · rw [if_pos y, y, e3]
      · rw [if_neg y, e _ (by omega) (by omega) (by omega) (by omega)]
    rw [Vw, g0 k (by omega), g k 1 (by omega) (by omega) (by omega) (by omega), g k 2 (by omega) (by omega) (by omega) (by omega), g k 3 (by omega) (by omega) (by omega) (by omega), g k 6 (by omega) (by omega) (by omega) (by omega), g k 7 (by omega) (by omega) (by omega) (by omega), g k 8 (by omega) (by omega) (by omega) (by omega), cell k hk, s5]
    refine ⟨a0, a1, a2, a3, ?_, ?_, a6, a7, a8⟩
    · by_cases y : k = i
      · rw [if_pos y, if_pos y]; exact Or.inl ⟨rfl, rfl⟩
      · rw [if_neg y, if_neg y]
        by_cases x : k = j
        · rw [if_pos x]; exact Or.inr ⟨c, hc, rfl⟩
        · rw [if_neg x]; exact a4
    · by_cases y : k = i
      · rw [if_pos y]; exact Or.inl rfl
      · rw [if_neg y]; exact a5
  · rw [e _ (by omega) (by omega) (by omega) (by omega), e _ (by omega) (by omega) (by omega) (by omega), e _ (by omega) (by omega) (by omega) (by omega), e _ (by omega) (by omega) (by omega) (by omega)]
    exact h4 k hk hk2
  · have nc : ¬ nI c = -1 := nm1 (by omega)
    rw [cell k hk, cell m (by omega)] at q
    rw [cell k hk]
    by_cases ki : k = i
    · rw [if_pos ki]
    · rw [if_neg ki] at q ⊢
      by_cases mi : m = i
      · rw [if_pos mi] at q; exact q
      · rw [if_neg mi] at q
        by_cases kj : k = j
        · rw [if_pos kj] at q ⊢
          rw [if_neg (by omega)] at q
          by_cases mlt : m < i
          · have := h5 i m hi mlt (by rw [ci]; exact q)
            rw [ci] at this; exact absurd this nc
          · have := h5 m i (by omega) (by omega) (by rw [ci]; exact q.symm)
            rw [← q] at this; exact absurd this nc
        · rw [if_neg kj] at q ⊢
          by_cases mj : m = j
          · rw [if_pos mj] at q
            by_cases klt : k < i
            · have := h5 i k hi klt (by rw [ci]; exact q.symm)
              rw [ci] at this; exact absurd this nc
            · have := h5 k i hk (by omega) (by rw [ci]; exact q)
              exact this
          · rw [if_neg mj] at q
            exact h5 k m hk hm q
theorem swap_p0 {gw gk ms : Nat → Int32} {n t b i j c : Nat} (hR : Rg gw gk ms) (hV : Vg gw gk n t t b) (hX : Xn gw gk n t) (tj : gw (9 * j) = gw (9 * i)) (hi : i < n) (hj : j < n) (ne : i ≠ j) (hc : c < 45) (ti : gw (9 * i) = 0) (ci : gw (9 * i + 4) = nI c) (cj : gw (9 * j + 4) = -1) (ht : t < 48) (hm : gk 16 = 0 ∨ gk 16 = 1) (rea det ref : Int32) : ∃ told gw' gk' ms', fX1_substitute gw gk (nI i) (nI j) = some (told, gw', gk') ∧ fX8_swaps_131 0 (nI i) (nI j) 0 0 rea det ref ms = some (told, 0, rea, det, ref, ms') ∧ Rg gw' gk' ms' ∧ Gb n told gw' gk' := by
  have h10 := hV.1.1
  obtain ⟨_, ei⟩ := e_ms hR (i := i) (by omega)
  have sj : gw (9 * j + 5) = 0 := by
    rcases (hV.2.2.2.1 j hj).2.2.2.2.1 with ⟨_, q⟩ | ⟨d, hd, q⟩
    · exact q
    · rw [cj] at q; exact absurd q.symm (nm1 (by omega))
  have mk : ms 11 = gk 16 := hR.2.2.2.2.2.2.2.2.2.2.2.2.1
  have R0 := Rg_w (Rg_w (Rg_w (Rg_w hR (j := 9 * j + 4) (by omega) (nI c)) (j := 9 * j + 5) (by omega) 0) (j := 9 * i + 4) (by omega) (-1)) (j := 9 * i + 5) (by omega) 0
  have R1 := Rg_s14 (Rg_k16 R0 (gk 16 + 1))
  have fe : ∀ k, k < 90 → upd (upd (upd gw (9 * j + 4) (nI c)) (9 * i + 4) (-1)) (9 * i + 5) 0 k = upd (upd (upd (upd gw (9 * j + 4) (nI c)) (9 * j + 5) 0) (9 * i + 4) (-1)) (9 * i + 5) 0 k := by
    intro k hk
    by_cases k5 : k = 9 * i + 5
    · rw [k5, pk_us, pk_us]
    · rw [pk_un k5, pk_un k5]
      by_cases k4 : k = 9 * i + 4
      · rw [k4, pk_us, pk_us]
      · rw [pk_un k4, pk_un k4]
        by_cases j5 : k = 9 * j + 5
        · rw [j5, pk_us, pk_un (by omega), sj]
        · rw [pk_un j5]
  have V : Vs (upd (upd (upd gw (9 * j + 4) (nI c)) (9 * i + 4) (-1)) (9 * i + 5) 0) n t := Vs_swap hV.2 h10 hi hj ne hc ci cj (fun k _ a1 a2 a3 => by rw [pk_un a3, pk_un a2, pk_un a1]) (by rw [pk_un (by omega), pk_un (by omega), pk_us]) (by rw [pk_un (by omega), pk_us]) (by rw [pk_us])
  have R2 : Rg (upd (upd (upd gw (9 * j + 4) (nI c)) (9 * i + 4) (-1)) (9 * i + 5) 0) (upd (upd (upd gk 16 (gk 16 + 1)) 9 (gk 9 + 1)) 14 (gk 14 + 1)) _ := Rg_congr R1 fe (fun _ _ => rfl) (fun _ _ => rfl)
  have K : Vk (upd (upd (upd gk 16 (gk 16 + 1)) 9 (gk 9 + 1)) 14 (gk 14 + 1)) n t t b := by
    obtain ⟨k1, k2, k3, k4, k5, k6, k7, k8, k9, k10, k11⟩ := hV.1
    refine ⟨k1, k2, k3, k4, k5, k6, k7, k8, k9, ?_, ?_⟩
    · rcases hm with q | q
      · exact Or.inr (Or.inl (by show gk 16 + 1 = 1; rw [q]; rfl))
      · exact Or.inr (Or.inr (by show gk 16 + 1 = 2; rw [q]; rfl))
    · exact k11
  obtain ⟨gw', gk', ms', b', s1, s2, s3, s4, s5⟩ := stroke_e R2 K V ht (by omega) (Xn_swap hX hi hj ne tj ci cj (nm1 (by omega)) rfl rfl rfl rfl) (by omega)
  have ce : upd (upd (upd gk 9 (gk 9 + 1)) 14 (gk 14 + 1)) 16 (gk 16 + 1) = upd (upd (upd gk 16 (gk 16 + 1)) 9 (gk 9 + 1)) 14 (gk 14 + 1) := by
    funext k
    by_cases a : k = 16
    · rw [a]; rfl
    · rw [pk_un (f := upd (upd gk 9 (gk 9 + 1)) 14 (gk 14 + 1)) a]
      by_cases a2 : k = 14
      · rw [a2]; rfl
      · rw [pk_un (f := upd gk 9 (gk 9 + 1)) a2, pk_un (f := upd (upd gk 16 (gk 16 + 1)) 9 (gk 9 + 1)) a2]
        by_cases a3 : k = 9
        · rw [a3]; rfl
        · rw [pk_un a3, pk_un a3, pk_un a]
  refine ⟨2 - (gk 16 + 1), gw', gk', ms', ?_, ?_, s3, ⟨_, _, _, Nat.le_refl _, s4, s5⟩, by rcases hm with q | q <;> rw [q] <;> exact ⟨by decide, by decide⟩⟩
  · rw [fX1_substitute, of0 gw (by omega), Option.bind_some, of4 gw (by omega), Option.bind_some, ti, ci, set4 gw (by omega), Option.bind_some, set4 _ (by omega), Option.bind_some, set5 _ (by omega), Option.bind_some, ca9, Option.bind_some, show (14 + 0 : Int32) = 14 from rfl, show (16 + 0 : Int32) = 16 from rfl, ca14, Option.bind_some, ca16, Option.bind_some, ct16, Option.bind_some]
    show ((fX1_endStroke (upd (upd (upd gw (9 * j + 4) (nI c)) (9 * i + 4) (-1)) (9 * i + 5) 0) (upd (upd (upd gk 9 (gk 9 + 1)) 14 (gk 14 + 1)) 16 (gk 16 + 1))).bind fun q19 => some ((2 - (gk 16 + 1)), q19.2.1, q19.2.2)) = _
    rw [ce, s1]; rfl
  · rw [fX8_swaps_131, show (9 + 0 : Int32) = 9 from rfl, show (11 + 0 : Int32) = 11 from rfl, if_pos v103_9, rf0, Option.bind_some, if_pos rfl, mof4 ms (by omega), Option.bind_some, ei 4 (by omega), ci, mset4 ms (by omega), Option.bind_some, mset5 _ (by omega), Option.bind_some, mset4 _ (by omega), Option.bind_some, mset5 _ (by omega), Option.bind_some, if_pos v103_11, if_pos v103_11, if_pos v103_9, if_pos v103_9, if_pos v103_11, cl_11, cl_9]
    have m1 : upd (upd (upd (upd ms (13 + 9 * j + 4) (nI c)) (13 + 9 * j + 5) 0) (13 + 9 * i + 4) (-1)) (13 + 9 * i + 5) 0 11 = gk 16 := by rw [pk_un (by omega), pk_un (by omega), pk_un (by omega), pk_un (by omega), mk]
    rw [m1]
    rw [show 13 + 9 * j + 4 = 13 + (9 * j + 4) from by omega, show 13 + 9 * j + 5 = 13 + (9 * j + 5) from by omega, show 13 + 9 * i + 4 = 13 + (9 * i + 4) from by omega, show 13 + 9 * i + 5 = 13 + (9 * i + 5) from by omega]
    rw [pk_un (k := 9) (j := 11) (by omega), pk_us, s2]; rfl
theorem swap_p1 {gw gk ms : Nat → Int32} {n t b i j c : Nat} (hR : Rg gw gk ms) (hV : Vg gw gk n t t b) (hX : Xn gw gk n t) (tj : gw (9 * j) = gw (9 * i)) (hi : i < n) (hj : j < n) (ne : i ≠ j) (hc : c < 45) (ti : gw (9 * i) = 1) (ci : gw (9 * i + 4) = nI c) (cj : gw (9 * j + 4) = -1) (ht : t < 48) (hm : gk 17 = 0 ∨ gk 17 = 1) (rea det ref : Int32) : ∃ told gw' gk' ms', fX1_substitute gw gk (nI i) (nI j) = some (told, gw', gk') ∧ fX8_swaps_131 0 (nI i) (nI j) 1 0 rea det ref ms = some (told, 0, rea, det, ref, ms') ∧ Rg gw' gk' ms' ∧ Gb n told gw' gk' := by
  have h10 := hV.1.1
  obtain ⟨_, ei⟩ := e_ms hR (i := i) (by omega)
  have sj : gw (9 * j + 5) = 0 := by
    rcases (hV.2.2.2.1 j hj).2.2.2.2.1 with ⟨_, q⟩ | ⟨d, hd, q⟩
    · exact q
    · rw [cj] at q; exact absurd q.symm (nm1 (by omega))
  have mk : ms 12 = gk 17 := hR.2.2.2.2.2.2.2.2.2.2.2.2.2.1
  have R0 := Rg_w (Rg_w (Rg_w (Rg_w hR (j := 9 * j + 4) (by omega) (nI c)) (j := 9 * j + 5) (by omega) 0) (j := 9 * i + 4) (by omega) (-1)) (j := 9 * i + 5) (by omega) 0
  have R1 := Rg_s15 (Rg_k17 R0 (gk 17 + 1))
  have fe : ∀ k, k < 90 → upd (upd (upd gw (9 * j + 4) (nI c)) (9 * i + 4) (-1)) (9 * i + 5) 0 k = upd (upd (upd (upd gw (9 * j + 4) (nI c)) (9 * j + 5) 0) (9 * i + 4) (-1)) (9 * i + 5) 0 k := by
    intro k hk
    by_cases k5 : k = 9 * i + 5
    · rw [k5, pk_us, pk_us]
    · rw [pk_un k5, pk_un k5]
      by_cases k4 : k = 9 * i + 4
      · rw [k4, pk_us, pk_us]
      · rw [pk_un k4, pk_un k4]
        by_cases j5 : k = 9 * j + 5
        · rw [j5, pk_us, pk_un (by omega), sj]
        · rw [pk_un j5]
  have V : Vs (upd (upd (upd gw (9 * j + 4) (nI c)) (9 * i + 4) (-1)) (9 * i + 5) 0) n t := Vs_swap hV.2 h10 hi hj ne hc ci cj (fun k _ a1 a2 a3 => by rw [pk_un a3, pk_un a2, pk_un a1]) (by rw [pk_un (by omega), pk_un (by omega), pk_us]) (by rw [pk_un (by omega), pk_us]) (by rw [pk_us])
  have R2 : Rg (upd (upd (upd gw (9 * j + 4) (nI c)) (9 * i + 4) (-1)) (9 * i + 5) 0) (upd (upd (upd gk 17 (gk 17 + 1)) 9 (gk 9 + 1)) 15 (gk 15 + 1)) _ := Rg_congr R1 fe (fun _ _ => rfl) (fun _ _ => rfl)
  have K : Vk (upd (upd (upd gk 17 (gk 17 + 1)) 9 (gk 9 + 1)) 15 (gk 15 + 1)) n t t b := by
    obtain ⟨k1, k2, k3, k4, k5, k6, k7, k8, k9, k10, k11⟩ := hV.1
    refine ⟨k1, k2, k3, k4, k5, k6, k7, k8, k9, ?_, ?_⟩
    · exact k10
    · rcases hm with q | q
      · exact Or.inr (Or.inl (by show gk 17 + 1 = 1; rw [q]; rfl))
      · exact Or.inr (Or.inr (by show gk 17 + 1 = 2; rw [q]; rfl))
  obtain ⟨gw', gk', ms', b', s1, s2, s3, s4, s5⟩ := stroke_e R2 K V ht (by omega) (Xn_swap hX hi hj ne tj ci cj (nm1 (by omega)) rfl rfl rfl rfl) (by omega)
  have ce : upd (upd (upd gk 9 (gk 9 + 1)) 15 (gk 15 + 1)) 17 (gk 17 + 1) = upd (upd (upd gk 17 (gk 17 + 1)) 9 (gk 9 + 1)) 15 (gk 15 + 1) := by
    funext k
    by_cases a : k = 17
    · rw [a]; rfl
    · rw [pk_un (f := upd (upd gk 9 (gk 9 + 1)) 15 (gk 15 + 1)) a]
      by_cases a2 : k = 15
      · rw [a2]; rfl
      · rw [pk_un (f := upd gk 9 (gk 9 + 1)) a2, pk_un (f := upd (upd gk 17 (gk 17 + 1)) 9 (gk 9 + 1)) a2]
        by_cases a3 : k = 9
        · rw [a3]; rfl
        · rw [pk_un a3, pk_un a3, pk_un a]
  refine ⟨2 - (gk 17 + 1), gw', gk', ms', ?_, ?_, s3, ⟨_, _, _, Nat.le_refl _, s4, s5⟩, by rcases hm with q | q <;> rw [q] <;> exact ⟨by decide, by decide⟩⟩
  · rw [fX1_substitute, of0 gw (by omega), Option.bind_some, of4 gw (by omega), Option.bind_some, ti, ci, set4 gw (by omega), Option.bind_some, set4 _ (by omega), Option.bind_some, set5 _ (by omega), Option.bind_some, ca9, Option.bind_some, show (14 + 1 : Int32) = 15 from rfl, show (16 + 1 : Int32) = 17 from rfl, ca15, Option.bind_some, ca17, Option.bind_some, ct17, Option.bind_some]
    show ((fX1_endStroke (upd (upd (upd gw (9 * j + 4) (nI c)) (9 * i + 4) (-1)) (9 * i + 5) 0) (upd (upd (upd gk 9 (gk 9 + 1)) 15 (gk 15 + 1)) 17 (gk 17 + 1))).bind fun q19 => some ((2 - (gk 17 + 1)), q19.2.1, q19.2.2)) = _
    rw [ce, s1]; rfl
  · rw [fX8_swaps_131, show (9 + 1 : Int32) = 10 from rfl, show (11 + 1 : Int32) = 12 from rfl, if_pos v103_10, rf0, Option.bind_some, if_pos rfl, mof4 ms (by omega), Option.bind_some, ei 4 (by omega), ci, mset4 ms (by omega), Option.bind_some, mset5 _ (by omega), Option.bind_some, mset4 _ (by omega), Option.bind_some, mset5 _ (by omega), Option.bind_some, if_pos v103_12, if_pos v103_12, if_pos v103_10, if_pos v103_10, if_pos v103_12, cl_12, cl_10]
    have m1 : upd (upd (upd (upd ms (13 + 9 * j + 4) (nI c)) (13 + 9 * j + 5) 0) (13 + 9 * i + 4) (-1)) (13 + 9 * i + 5) 0 12 = gk 17 := by rw [pk_un (by omega), pk_un (by omega), pk_un (by omega), pk_un (by omega), mk]
    rw [m1]
    rw [show 13 + 9 * j + 4 = 13 + (9 * j + 4) from by omega, show 13 + 9 * j + 5 = 13 + (9 * j + 5) from by omega, show 13 + 9 * i + 4 = 13 + (9 * i + 4) from by omega, show 13 + 9 * i + 5 = 13 + (9 * i + 5) from by omega]
    rw [pk_un (k := 10) (j := 12) (by omega), pk_us, s2]; rfl
theorem d_swap {gw gk ms : Nat → Int32} {n t b : Nat} (hR : Rg gw gk ms) (hV : Vg gw gk n t t b) (hX : Xn gw gk n t) (ud rea det ref p0 p1 : Int32) : ∃ f d, fX6_substituteFault ud gw gk p0 p1 = some (f, d) ∧ Dd n f d (fX1_substitute gw gk p0 p1) (fX8_swaps 0 rea det ref ms p0 p1) rea det ref ms 1 0 := by
  have h10 := hV.1.1
  have h48 := hV.1.2.1
  have hn := hV.1.2.2.2.1
  rcases whale_c hR hn h10 p1 with ⟨g1, g2⟩ | ⟨j, hj, rfl, g1, g2⟩
  · refine ⟨-1, ud, by rw [fX6_substituteFault, g1]; rfl, Or.inr (Or.inr (Or.inl ⟨by decide, rfl, ?_⟩))⟩
    rcases whale_c hR hn h10 p0 with ⟨h1, h2⟩ | ⟨i, hi, rfl, h1, h2⟩
    · rw [fX8_swaps, h2]; rfl
    · rw [fX8_swaps, h2, Option.bind_some, if_neg n10, g2]; rfl
  · rcases whale_c hR hn h10 p0 with ⟨h1, h2⟩ | ⟨i, hi, rfl, h1, h2⟩
    · exact ⟨-1, ud, by rw [fX6_substituteFault, g1, Option.bind_some, if_neg n10, missing_f h1]; rfl, Or.inr (Or.inr (Or.inl ⟨by decide, rfl, by rw [fX8_swaps, h2]; rfl⟩))⟩
    · obtain ⟨ei0, ei⟩ := e_ms hR (i := i) (by omega)
      obtain ⟨ej0, ej⟩ := e_ms hR (i := j) (by omega)
      have cf : fX6_substituteFault ud gw gk (nI i) (nI j) = (if t = 48 then some (2, 48) else if gw (9 * i + 4) = -1 then some (3, nI i) else if gw (9 * i) = gw (9 * j) then (if gw (9 * j + 4) = -1 then (fX1_count gk (16 + gw (9 * j))).bind fun q15 => if q15 < 2 then some (0, ud) else (fX1_count gk (14 + gw (9 * j))).bind fun q18 => some (14, q18) else some (13, gw (9 * j + 4))) else some (12, gw (9 * j))) := by
        rw [fX6_substituteFault, g1, Option.bind_some, if_neg n10, play_f hR hV hi, Option.bind_some]
        by_cases z : t = 48
        · rw [if_pos z, if_pos z]; rfl
        · rw [if_neg z, if_neg z]
          by_cases y : gw (9 * i + 4) = -1
          · rw [if_pos y, if_pos y]; rfl
          · rw [if_neg y, if_neg y, if_pos rfl, of0 gw (by omega), Option.bind_some, of0 gw (by omega), Option.bind_some]
            by_cases x : gw (9 * i) = gw (9 * j)
            · rw [if_pos x, if_pos x, bench_c gw (by omega), Option.bind_some]
              by_cases v : gw (9 * j + 4) = -1
              · rw [if_pos v, if_pos rfl, if_pos v]; rfl
              · rw [if_neg v, if_neg n10, if_neg v, of4 gw (by omega)]; rfl
            · rw [if_neg x, if_neg x]; rfl
      have mf : fX8_swaps 0 rea det ref ms (nI i) (nI j) = (if t = 48 then some (0, 9, 2, 48, -1, ms) else if gw (9 * i + 4) = -1 then some (0, 9, 3, nI i, -1, ms) else if gw (9 * i) = gw (9 * j) then (if gw (9 * j + 4) = -1 then (if vin (11 + gw (9 * i)) 103 = true then fX8_swaps_131 (if ms (11 + gw (9 * i)).toNatClampNeg = 2 then 1 else 0) (nI i) (nI j) (gw (9 * i)) 0 rea det ref ms else none) else some (0, 9, 13, gw (9 * j + 4), -1, ms)) else some (0, 9, 12, gw (9 * j), -1, ms)) := by
        rw [fX8_swaps, h2, Option.bind_some, if_neg n10, g2, Option.bind_some, if_neg n10, fX8_swaps_22, th0, Option.bind_some, if_pos rfl, over_m hR hV, Option.bind_some]
        by_cases z : t = 48
        · rw [if_pos z, if_pos z, if_neg n10]
        · rw [if_neg z, if_neg z, if_pos rfl, bench_m hR hV hi, Option.bind_some]
          by_cases y : gw (9 * i + 4) = -1
          · rw [if_pos y, if_pos y, if_neg n10]
          · rw [if_neg y, if_neg y, if_pos rfl, mof0 ms (by omega), Option.bind_some, mof0 ms (by omega), Option.bind_some, ei0, ej0, fX8_swaps_69, mof0 ms (by omega), Option.bind_some, ej0]
            by_cases x : gw (9 * i) = gw (9 * j)
            · rw [if_pos x.symm, if_pos x, rf0, Option.bind_some, if_pos rfl, mof4 ms (by omega), Option.bind_some, ej 4 (by omega), fX8_swaps_98, mof4 ms (by omega), Option.bind_some, ej 4 (by omega)]
              by_cases v : gw (9 * j + 4) = -1
              · rw [if_pos v, v, if_pos (show (-1 : Int32) < 0 from by decide), rf0, Option.bind_some, if_pos rfl]
              · rcases (hV.2.2.2.1 j hj).2.2.2.2.1 with ⟨q, _⟩ | ⟨c, hc, q⟩
                · exact absurd q v
                · rw [if_neg v, q, if_neg (nI_pos (by omega)), rf1, Option.bind_some, if_neg n10]
            · rw [if_neg (fun q => x q.symm), if_neg x, rf1, Option.bind_some, if_neg n10]
      by_cases z : t = 48
      · exact ⟨2, 48, by rw [cf, if_pos z], Or.inr (Or.inl ⟨⟨2, by omega, by omega, rfl⟩, by rw [mf, if_pos z]⟩)⟩
      · by_cases y : gw (9 * i + 4) = -1
        · exact ⟨3, nI i, by rw [cf, if_neg z, if_pos y], Or.inr (Or.inl ⟨⟨3, by omega, by omega, rfl⟩, by rw [mf, if_neg z, if_pos y]⟩)⟩
        · by_cases x : gw (9 * i) = gw (9 * j)
          · by_cases v : gw (9 * j + 4) = -1
            · have ne : i ≠ j := fun q => by rw [q] at y; exact y v
              obtain ⟨c, hc, ci⟩ : ∃ c, c < 45 ∧ gw (9 * i + 4) = nI c := by
                rcases (hV.2.2.2.1 i hi).2.2.2.2.1 with ⟨q, _⟩ | q
                · exact absurd q y
                · exact q
              have k10 := hV.1.2.2.2.2.2.2.2.2.2.1
              have k11 := hV.1.2.2.2.2.2.2.2.2.2.2
              have m9 : ms 9 = gk 14 := hR.2.2.2.2.2.2.2.2.2.2.1
              have m10 : ms 10 = gk 15 := hR.2.2.2.2.2.2.2.2.2.2.2.1
              have m11 : ms 11 = gk 16 := hR.2.2.2.2.2.2.2.2.2.2.2.2.1
              have m12 : ms 12 = gk 17 := hR.2.2.2.2.2.2.2.2.2.2.2.2.2.1
              rw [cf, mf, if_neg z, if_neg z, if_neg y, if_neg y, if_pos x, if_pos x, if_pos v, if_pos v, ← x]
              rcases (hV.2.2.2.1 i hi).1 with T | T
              · rw [T, show (16 + 0 : Int32) = 16 from rfl, show (14 + 0 : Int32) = 14 from rfl, show (11 + 0 : Int32) = 11 from rfl, ct16, ct14, Option.bind_some, Option.bind_some, if_pos v103_11, cl_11, m11]
                by_cases s : gk 16 = 2
                · exact ⟨14, gk 14, by rw [s]; rfl, Or.inr (Or.inl ⟨⟨14, by omega, by omega, rfl⟩, by rw [if_pos s, fX8_swaps_131, show (9 + 0 : Int32) = 9 from rfl, if_pos v103_9, cl_9, m9, rf1, Option.bind_some, if_neg n10]⟩)⟩
                · have s' : gk 16 = 0 ∨ gk 16 = 1 := by
                    rcases k10 with q | q | q
                    · exact Or.inl q
                    · exact Or.inr q
                    · exact absurd q s
                  obtain ⟨told, gw', gk', ms', d1, d2, d3, d4⟩ := swap_p0 hR hV hX x.symm hi hj ne hc T ci v (by omega) s' rea det ref
                  exact ⟨0, ud, by rcases s' with q | q <;> rw [q] <;> rfl, Or.inl ⟨rfl, told, gw', gk', ms', d1, by rw [if_neg s]; exact d2, d3, d4⟩⟩
              · rw [T, show (16 + 1 : Int32) = 17 from rfl, show (14 + 1 : Int32) = 15 from rfl, show (11 + 1 : Int32) = 12 from rfl, ct17, ct15, Option.bind_some, Option.bind_some, if_pos v103_12, cl_12, m12]
                by_cases s : gk 17 = 2
                · exact ⟨14, gk 15, by rw [s]; rfl, Or.inr (Or.inl ⟨⟨14, by omega, by omega, rfl⟩, by rw [if_pos s, fX8_swaps_131, show (9 + 1 : Int32) = 10 from rfl, if_pos v103_10, cl_10, m10, rf1, Option.bind_some, if_neg n10]⟩)⟩
                · have s' : gk 17 = 0 ∨ gk 17 = 1 := by
                    rcases k11 with q | q | q
                    · exact Or.inl q
                    · exact Or.inr q
                    · exact absurd q s
                  obtain ⟨told, gw', gk', ms', d1, d2, d3, d4⟩ := swap_p1 hR hV hX x.symm hi hj ne hc T ci v (by omega) s' rea det ref
                  exact ⟨0, ud, by rcases s' with q | q <;> rw [q] <;> rfl, Or.inl ⟨rfl, told, gw', gk', ms', d1, by rw [if_neg s]; exact d2, d3, d4⟩⟩
            · exact ⟨13, gw (9 * j + 4), by rw [cf, if_neg z, if_neg y, if_pos x, if_neg v], Or.inr (Or.inl ⟨⟨13, by omega, by omega, rfl⟩, by rw [mf, if_neg z, if_neg y, if_pos x, if_neg v]⟩)⟩
          · exact ⟨12, gw (9 * j), by rw [cf, if_neg z, if_neg y, if_neg x], Or.inr (Or.inl ⟨⟨12, by omega, by omega, rfl⟩, by rw [mf, if_neg z, if_neg y, if_neg x]⟩)⟩

