/-! the commands of a text, carried out -/
theorem num_tn (tn : Nat → Int32) : fX5_number tn 0 = some (tn 0) ∧ fX5_number tn 1 = some (tn 1) ∧ fX5_number tn 2 = some (tn 2) := ⟨rfl, rfl, rfl⟩
theorem d_cmd {gw gk ms : Nat → Int32} {n t b : Nat} (hR : Rg gw gk ms) (hV : Vg gw gk n t t b) (hX : Xn gw gk n t) {p : Nat × Nat × Nat × Nat × Nat × Nat} (h1 : p.1 = 1) (hk6 : p.2.2.1 < 6) {kin : Int32} {tn mc : Nat → Int32} {m m' : Nat} (hc : cC p kin tn) (hM : cM p m m' mc) (hm : m < 31) (ud net rea det ref mnet : Int32) (rs ro mf : Nat → Int32) : ∃ f d rs1 ro1, fX7_faultOfCommand ud kin gw gk rs ro tn = some (f, d, rs1, ro1) ∧
    ((f = 0 ∧ ∃ net' gw' gk' rs' ro' told ms' mnet' mf', fX7_performCommand net kin gw gk rs1 ro1 tn = some (net', gw', gk', rs', ro') ∧ fX8_does 0 rea det ref mnet ms mf mc (nI (4 * m)) = some (told, 0, rea, det, ref, mnet', ms', mf') ∧ Rg gw' gk' ms' ∧ Gm n gw' gk') ∨
    ((∃ k, 1 ≤ k ∧ k ≤ 14 ∧ f = nI k) ∧ ∃ mnet' mf', fX8_does 0 rea det ref mnet ms mf mc (nI (4 * m)) = some (0, 9, f, d, -1, mnet', ms, mf')) ∨
    ((f = -1 ∨ f = -2) ∧ ∃ x mnet' mf', (x = 1 ∨ x = 2) ∧ fX8_does 0 rea det ref mnet ms mf mc (nI (4 * m)) = some (0, x, rea, det, ref, mnet', ms, mf'))) := by
  obtain ⟨ok, e, kd, x, y, z⟩ := p
  obtain ⟨c1, c2, c3, c4⟩ := hc h1
  obtain ⟨m0, m1, m2, m3, m4⟩ := hM h1
  simp only at c1 c2 c3 c4 m1 m2 m3 m4 hk6
  obtain ⟨n0, n1, n2⟩ := num_tn tn
  have q1 : (nI (4 * m) : Int32) + 1 = nI (4 * m + 1) := nI_1 _
  have q2 : (nI (4 * m) : Int32) + 2 = nI (4 * m + 2) := nI_add _ 2
  have q3 : (nI (4 * m) : Int32) + 3 = nI (4 * m + 3) := nI_add _ 3
  have v0 : vin (nI (4 * m)) 124 = true := e_vin (by omega) (by omega)
  have v1 : vin (nI (4 * m + 1)) 124 = true := e_vin (by omega) (by omega)
  have v2 : vin (nI (4 * m + 2)) 124 = true := e_vin (by omega) (by omega)
  have v3 : vin (nI (4 * m + 3)) 124 = true := e_vin (by omega) (by omega)
  have l0 : (nI (4 * m)).toNatClampNeg = 4 * m := nI_clamp (by omega)
  have l1 : (nI (4 * m + 1)).toNatClampNeg = 4 * m + 1 := nI_clamp (by omega)
  have l2 : (nI (4 * m + 2)).toNatClampNeg = 4 * m + 2 := nI_clamp (by omega)
  have l3 : (nI (4 * m + 3)).toNatClampNeg = 4 * m + 3 := nI_clamp (by omega)
  have lt : ∀ k, k < 6 → (if ltN k = 98 then (4 : Nat) else if ltN k = 107 then 2 else if ltN k = 109 then 1 else if ltN k = 111 then 3 else if ltN k = 119 then 0 else 5) = k := by decide +kernel
  have kk : ∀ k, k < 6 → (if nI k = 0 then (0 : Nat) else if nI k = 1 then 1 else if nI k = 2 then 2 else if nI k = 3 then 3 else if nI k = 4 then 4 else if nI k = 5 then 5 else 6) = k := by decide +kernel
  subst c1
  rw [fX7_faultOfCommand, fX5_kind, n0, n1, n2, Option.bind_some, Option.bind_some, Option.bind_some]
  have doe : fX8_does 0 rea det ref mnet ms mf mc (nI (4 * m)) = (if mc (4 * m) = 98 then (fX8_swaps 0 rea det ref ms (mc (4 * m + 1)) (mc (4 * m + 2))).bind fun q6 => some (q6.1, q6.2.1, q6.2.2.1, q6.2.2.2.1, q6.2.2.2.2.1, mnet, q6.2.2.2.2.2, mf) else if mc (4 * m) = 107 then (fX8_strikesBuoy 0 rea det ref mnet ms (mc (4 * m + 1)) (mc (4 * m + 2)) (mc (4 * m + 3))).bind fun q9 => some (q9.1, q9.2.1, q9.2.2.1, q9.2.2.2.1, q9.2.2.2.2.1, q9.2.2.2.2.2.1, q9.2.2.2.2.2.2, mf) else if mc (4 * m) = 109 then (fX8_swims 0 rea det ref ms mf (mc (4 * m + 1)) (mc (4 * m + 2))).bind fun q12 => some (q12.1, q12.2.1, q12.2.2.1, q12.2.2.2.1, q12.2.2.2.2.1, mnet, q12.2.2.2.2.2.1, q12.2.2.2.2.2.2) else if mc (4 * m) = 111 then (fX8_sings 0 rea det ref ms (mc (4 * m + 1))).bind fun q15 => some (q15.1, q15.2.1, q15.2.2.1, q15.2.2.2.1, q15.2.2.2.2.1, mnet, q15.2.2.2.2.2, mf) else if mc (4 * m) = 119 then (fX8_comes 0 rea det ref ms (mc (4 * m + 1)) (mc (4 * m + 2)) (mc (4 * m + 3))).bind fun q18 => some (q18.1, q18.2.1, q18.2.2.1, q18.2.2.2.1, q18.2.2.2.2.1, mnet, q18.2.2.2.2.2, mf) else (fX8_drifts 0 rea det ref ms).bind fun q20 => some (q20.1, q20.2.1, q20.2.2.1, q20.2.2.2.1, q20.2.2.2.2.1, mnet, q20.2.2.2.2.2, mf)) := by
    rw [fX8_does, q1, q2, q3, v0, v1, v2, v3, l0, l1, l2, l3, if_pos rfl, if_pos rfl, if_pos rfl, if_pos rfl]
  have perf : ∀ rs1 ro1 : Nat → Int32, fX7_performCommand net (nI kd) gw gk rs1 ro1 tn = (if nI kd = 0 then (fX1_addWhale gw gk (tn 0) (tn 1) (tn 2)).bind fun q8 => some (net, q8.2.1, q8.2.2, rs1, ro1) else if nI kd = 1 then (fX7_moveWhale gw gk rs1 ro1 (tn 0) (tn 1)).bind fun q11 => some (net, q11.2.1, q11.2.2.1, q11.2.2.2.1, q11.2.2.2.2) else if nI kd = 2 then (fX7_hitBuoy net gw gk (tn 0) (tn 1) (tn 2)).bind fun q14 => some (q14.2.1, q14.2.2.1, q14.2.2.2, rs1, ro1) else if nI kd = 3 then (fX1_startSong gw gk (tn 0)).bind fun q17 => some (net, q17.2.1, q17.2.2, rs1, ro1) else if nI kd = 4 then (fX1_substitute gw gk (tn 0) (tn 1)).bind fun q20 => some (net, q20.2.1, q20.2.2, rs1, ro1) else (fX1_endStroke gw gk).bind fun q22 => some (net, q22.2.1, q22.2.2, rs1, ro1)) := fun rs1 ro1 => by
    rw [fX7_performCommand, fX5_kind, n0, n1, n2, Option.bind_some, Option.bind_some, Option.bind_some]
  match kd, hk6 with
  | 0, _ =>
    obtain ⟨f, d, hf, hD⟩ := d_come hR hV hX ud rea det ref (nI x) (nI y) (nI z)
    refine ⟨f, d, rs, ro, ?_, ?_⟩
    · rw [c2 (by decide), c3 (by decide) (by decide), c4 (by decide)]; show (fX6_comeFault ud gw gk (nI x) (nI y) (nI z)).bind _ = _
      rw [hf]; rfl
    · rw [doe, m1, m2 (by decide), m3 (by decide) (by decide), m4 (by decide)]
      simp only [perf]
      rcases hD with ⟨rfl, told, gw', gk', ms', hP, hM', hR', hG'⟩ | ⟨hk, hM'⟩ | ⟨z1, hf1, hM'⟩ | ⟨z2, hf2, hM'⟩
      · refine Or.inl ⟨rfl, net, gw', gk', rs, ro, told, ms', mnet, mf, ?_, ?_, hR', hG'.1⟩
        · rw [c2 (by decide), c3 (by decide) (by decide), c4 (by decide)]; show (fX1_addWhale gw gk (nI x) (nI y) (nI z)).bind _ = _
          rw [hP]; rfl
        · show (fX8_comes 0 rea det ref ms (nI x) (nI y) (nI z)).bind _ = _
          rw [hM']; rfl
      · refine Or.inr (Or.inl ⟨hk, mnet, mf, ?_⟩)
        show (fX8_comes 0 rea det ref ms (nI x) (nI y) (nI z)).bind _ = _
        rw [hM']; rfl
      · exact absurd rfl z1
      · refine Or.inr (Or.inr ⟨Or.inr hf2, 1, mnet, mf, Or.inl rfl, ?_⟩)
        show (fX8_comes 0 rea det ref ms (nI x) (nI y) (nI z)).bind _ = _
        rw [hM']; rfl
  | 1, _ =>
    obtain ⟨f, d, rs1, ro1, hf, hD⟩ := d_swim hR hV hX ud rea det ref (nI x) (nI y) rs ro mf
    refine ⟨f, d, rs1, ro1, ?_, ?_⟩
    · rw [c2 (by decide), c3 (by decide) (by decide)]; show (fX6_moveFault ud gw gk rs ro (nI x) (nI y)).bind _ = _
      rw [hf]; rfl
    · rw [doe, m1, m2 (by decide), m3 (by decide) (by decide)]
      simp only [perf]
      rcases hD with ⟨rfl, told, gw', gk', ms', rs2, ro2, mf', hP, hM', hR', hG'⟩ | ⟨hk, mf', hM'⟩ | ⟨hf1, mf', hM'⟩
      · refine Or.inl ⟨rfl, net, gw', gk', rs2, ro2, told, ms', mnet, mf', ?_, ?_, hR', hG'.1⟩
        · rw [c2 (by decide), c3 (by decide) (by decide)]; show (fX7_moveWhale gw gk rs1 ro1 (nI x) (nI y)).bind _ = _
          rw [hP]; rfl
        · show (fX8_swims 0 rea det ref ms mf (nI x) (nI y)).bind _ = _
          rw [hM']; rfl
      · refine Or.inr (Or.inl ⟨hk, mnet, mf', ?_⟩)
        show (fX8_swims 0 rea det ref ms mf (nI x) (nI y)).bind _ = _
        rw [hM']; rfl
      · refine Or.inr (Or.inr ⟨Or.inl hf1, 1, mnet, mf', Or.inl rfl, ?_⟩)
        show (fX8_swims 0 rea det ref ms mf (nI x) (nI y)).bind _ = _
        rw [hM']; rfl
  | 2, _ =>
    obtain ⟨f, d, hf, hD⟩ := d_hit hR hV hX ud rea det ref net mnet (nI x) (nI y) (nI z)
    refine ⟨f, d, rs, ro, ?_, ?_⟩
    · rw [c2 (by decide), c3 (by decide) (by decide), c4 (by decide)]; show (fX6_hitFault ud gw gk (nI x) (nI y) (nI z)).bind _ = _
      rw [hf]; rfl
    · rw [doe, m1, m2 (by decide), m3 (by decide) (by decide), m4 (by decide)]
      simp only [perf]
      rcases hD with ⟨rfl, told, gw', gk', ms', net', mnet', hP, hM', hR', hG'⟩ | ⟨hk, mnet', hM'⟩ | ⟨hf1, mnet', hM'⟩ | ⟨hf2, mnet', hM'⟩
      · refine Or.inl ⟨rfl, net', gw', gk', rs, ro, told, ms', mnet', mf, ?_, ?_, hR', hG'.1⟩
        · rw [c2 (by decide), c3 (by decide) (by decide), c4 (by decide)]; show (fX7_hitBuoy net gw gk (nI x) (nI y) (nI z)).bind _ = _
          rw [hP]; rfl
        · show (fX8_strikesBuoy 0 rea det ref mnet ms (nI x) (nI y) (nI z)).bind _ = _
          rw [hM']; rfl
      · refine Or.inr (Or.inl ⟨hk, mnet', mf, ?_⟩)
        show (fX8_strikesBuoy 0 rea det ref mnet ms (nI x) (nI y) (nI z)).bind _ = _
        rw [hM']; rfl
      · refine Or.inr (Or.inr ⟨Or.inl hf1, 1, mnet', mf, Or.inl rfl, ?_⟩)
        show (fX8_strikesBuoy 0 rea det ref mnet ms (nI x) (nI y) (nI z)).bind _ = _
        rw [hM']; rfl
      · refine Or.inr (Or.inr ⟨Or.inr hf2, 2, mnet', mf, Or.inr rfl, ?_⟩)
        show (fX8_strikesBuoy 0 rea det ref mnet ms (nI x) (nI y) (nI z)).bind _ = _
        rw [hM']; rfl
  | 3, _ =>
    obtain ⟨f, d, hf, hD⟩ := d_sing hR hV hX ud rea det ref (nI x)
    refine ⟨f, d, rs, ro, ?_, ?_⟩
    · rw [c2 (by decide)]; show (fX6_songFault ud gw gk (nI x)).bind _ = _
      rw [hf]; rfl
    · rw [doe, m1, m2 (by decide)]
      simp only [perf]
      rcases hD with ⟨rfl, told, gw', gk', ms', hP, hM', hR', hG'⟩ | ⟨hk, hM'⟩ | ⟨z1, hf1, hM'⟩ | ⟨z2, hf2, hM'⟩
      · refine Or.inl ⟨rfl, net, gw', gk', rs, ro, told, ms', mnet, mf, ?_, ?_, hR', hG'.1⟩
        · rw [c2 (by decide)]; show (fX1_startSong gw gk (nI x)).bind _ = _
          rw [hP]; rfl
        · show (fX8_sings 0 rea det ref ms (nI x)).bind _ = _
          rw [hM']; rfl
      · refine Or.inr (Or.inl ⟨hk, mnet, mf, ?_⟩)
        show (fX8_sings 0 rea det ref ms (nI x)).bind _ = _
        rw [hM']; rfl
      · refine Or.inr (Or.inr ⟨Or.inl hf1, 1, mnet, mf, Or.inl rfl, ?_⟩)
        show (fX8_sings 0 rea det ref ms (nI x)).bind _ = _
        rw [hM']; rfl
      · exact absurd rfl z2
  | 4, _ =>
    obtain ⟨f, d, hf, hD⟩ := d_swap hR hV hX ud rea det ref (nI x) (nI y)
    refine ⟨f, d, rs, ro, ?_, ?_⟩
    · rw [c2 (by decide), c3 (by decide) (by decide)]; show (fX6_substituteFault ud gw gk (nI x) (nI y)).bind _ = _
      rw [hf]; rfl
    · rw [doe, m1, m2 (by decide), m3 (by decide) (by decide)]
      simp only [perf]
      rcases hD with ⟨rfl, told, gw', gk', ms', hP, hM', hR', hG'⟩ | ⟨hk, hM'⟩ | ⟨z1, hf1, hM'⟩ | ⟨z2, hf2, hM'⟩
      · refine Or.inl ⟨rfl, net, gw', gk', rs, ro, told, ms', mnet, mf, ?_, ?_, hR', hG'.1⟩
        · rw [c2 (by decide), c3 (by decide) (by decide)]; show (fX1_substitute gw gk (nI x) (nI y)).bind _ = _
          rw [hP]; rfl
        · show (fX8_swaps 0 rea det ref ms (nI x) (nI y)).bind _ = _
          rw [hM']; rfl
      · refine Or.inr (Or.inl ⟨hk, mnet, mf, ?_⟩)
        show (fX8_swaps 0 rea det ref ms (nI x) (nI y)).bind _ = _
        rw [hM']; rfl
      · refine Or.inr (Or.inr ⟨Or.inl hf1, 1, mnet, mf, Or.inl rfl, ?_⟩)
        show (fX8_swaps 0 rea det ref ms (nI x) (nI y)).bind _ = _
        rw [hM']; rfl
      · exact absurd rfl z2
  | 5, _ =>
    obtain ⟨f, d, hf, hD⟩ := d_drift hR hV hX ud rea det ref
    refine ⟨f, d, rs, ro, ?_, ?_⟩
    · show (fX6_passFault ud gk).bind _ = _
      rw [hf]; rfl
    · rw [doe, m1]
      simp only [perf]
      rcases hD with ⟨rfl, told, gw', gk', ms', hP, hM', hR', hG'⟩ | ⟨hk, hM'⟩ | ⟨z1, hf1, hM'⟩ | ⟨z2, hf2, hM'⟩
      · refine Or.inl ⟨rfl, net, gw', gk', rs, ro, told, ms', mnet, mf, ?_, ?_, hR', hG'.1⟩
        · show (fX1_endStroke gw gk).bind _ = _
          rw [hP]; rfl
        · show (fX8_drifts 0 rea det ref ms).bind _ = _
          rw [hM']; rfl
      · refine Or.inr (Or.inl ⟨hk, mnet, mf, ?_⟩)
        show (fX8_drifts 0 rea det ref ms).bind _ = _
        rw [hM']; rfl
      · exact absurd rfl z1
      · exact absurd rfl z2
  | q + 6, h => exact absurd h (by omega)
theorem good_lt {cd : Nat → Nat} {n : Nat} {mc : Nat → Int32} : ∀ (f c m M : Nat), Good cd n f c m M mc → m < M := by
  intro f
  induction f with
  | zero => intro c m M h; exact h.elim
  | succ f ih =>
    intro c m M h
    rw [Good] at h
    rcases h.2.2.2.2 with ⟨_, q⟩ | ⟨_, _, q⟩
    · omega
    · have := ih _ _ _ q; omega
theorem good_le {cd : Nat → Nat} {n : Nat} {mc : Nat → Int32} : ∀ (f c m M : Nat), Good cd n f c m M mc → M ≤ 31 := by
  intro f
  induction f with
  | zero => intro c m M h; exact h.elim
  | succ f ih =>
    intro c m M h
    rw [Good] at h
    rcases h.2.2.2.2 with ⟨_, q⟩ | ⟨_, _, q⟩
    · have := h.2.2.1; omega
    · exact ih _ _ _ q
theorem exec_l {n mm : Nat} {ti mt mc mw mp : Nat → Int32} (hT : Tx n ti mt) (hold hsiz xerr xrea xdet xcom chg err tap her rea det ref : Int32) (bw bk h0w h0k h1w h1k h2w h2k h3w h3k h4w h4k h5w h5k : Nat → Int32) : ∀ (f c e m M k k2 : Nat) (gw gk ms rs ro tn mf : Nat → Int32) (net ud kin tol ans mnet : Int32), Good (cdN ti n) n f c m M mc → e < n → (if cdN ti n e = 59 then e + 1 else e) = c → n - c < f → f + 1 < k → f + 1 < k2 → Rg gw gk ms → Gm mm gw gk → ∃ (fl net' ud' cur' kin' tol' : Int32) (j : Nat) (gw' gk' rs' ro' tn' : Nat → Int32),
    fX7_read_58 ti k 0 (nI m) net ud (nI n) (nI e) kin tol (nI m) hold hsiz xerr xrea xdet xcom gw gk bw bk h0w h0k h1w h1k h2w h2k h3w h3k h4w h4k h5w h5k rs ro tn = fX7_read_104 ti fl net' ud' (nI n) cur' kin' tol' (nI j) hold hsiz xerr xrea xdet xcom gw' gk' bw bk h0w h0k h1w h1k h2w h2k h3w h3k h4w h4k h5w h5k rs' ro' tn' ∧
    ((fl = 0 ∧ j = M ∧ ∃ (ans' mnet' : Int32) (ms' mf' : Nat → Int32), fX8_read_43 mt k2 (nI m) chg 0 rea det ref err ans mnet tap her (nI M) ms mw mp mf mc = ((fX8_ends chg 0 mw mp (nI M) 3).bind fun q10 => some (0, q10.1, q10.2.1, q10.2.2.1, rea, det, ref, err, ans', mnet', tap, her, nI M, ms', mw, q10.2.2.2, mf', mc)) ∧ Rg gw' gk' ms' ∧ Gm mm gw' gk') ∨
    ((∃ q, 1 ≤ q ∧ q ≤ 14 ∧ fl = nI q) ∧ ∃ (ans' mnet' : Int32) (ms' mf' : Nat → Int32), fX8_read_43 mt k2 (nI m) chg 0 rea det ref err ans mnet tap her (nI M) ms mw mp mf mc = fX8_read_105 mt (nI j) chg 9 fl ud' (-1) err ans' mnet' tap her (nI M) (va_cpy mw ms' 0 0 103) mw mp mf' mc) ∨
    ((fl = -1 ∨ fl = -2) ∧ ∃ (ans' mnet' x : Int32) (ms' mf' : Nat → Int32), (x = 1 ∨ x = 2) ∧ fX8_read_43 mt k2 (nI m) chg 0 rea det ref err ans mnet tap her (nI M) ms mw mp mf mc = fX8_read_105 mt ref chg x rea det ref err ans' mnet' tap her (nI M) (va_cpy mw ms' 0 0 103) mw mp mf' mc)) := by
  have n60 := hT.1
  intro f
  induction f with
  | zero => intro c e m M k k2 gw gk ms rs ro tn mf net ud kin tol ans mnet hg; exact hg.elim
  | succ f ih =>
    intro c e m M k k2 gw gk ms rs ro tn mf net ud kin tol ans mnet hg he hE hf hk hk2 hR hG
    obtain ⟨k, rfl⟩ : ∃ q, k = q + 1 := ⟨k - 1, by omega⟩
    obtain ⟨k2, rfl⟩ : ∃ q, k2 = q + 1 := ⟨k2 - 1, by omega⟩
    have mM := good_lt _ _ _ _ hg
    have M31 := good_le _ _ _ _ hg
    rw [Good] at hg
    obtain ⟨ok, cn, m31, ⟨m', hM⟩, rest⟩ := hg
    obtain ⟨v1, v2, v3, v4⟩ := cP_v (cdN ti n) c
    obtain ⟨w1, w2, w3, w4⟩ := v4 ok
    obtain ⟨kin1, tol1, tn1, b1, b2⟩ := c_take hT (c := c) (by omega) kin tol tn
    obtain ⟨nn, t, b, hmm, hV, hX⟩ := hG
    obtain ⟨fl, d, rs1, ro1, x1, x2⟩ := d_cmd hR hV hX ok w2 b2 hM m31 ud net rea det ref mnet rs ro mf
    have c31 : ¬ (60 : Int32) ≤ nI m := nI_ge (b := 60) (by omega) (by omega)
    have nx : fX5_takeNext (nI n) (nI e) kin tol ti tn = some (0, 1, nI (cP (cdN ti n) c).2.1, kin1, tol1, tn1) := by
      have e59 : (if nI (cdN ti n e) = 59 then nI e + 1 else nI e) = nI c := by
        have v := (cd_v hT e).1
        rw [← hE]
        by_cases s : cdN ti n e = 59
        · rw [if_pos s, if_pos (show nI (cdN ti n e) = 59 by rw [s]; rfl), nI_1]
        · rw [if_neg s, if_neg (show ¬ nI (cdN ti n e) = (59 : Int32) from fun q => s ((nI_eq (b := 59) (by omega) (by omega)).mp q))]
      rw [fX5_takeNext, if_pos (nI_lt he (by omega)), here_c hT (by omega), Option.bind_some, e59, fX5_takeNext_32, b1, Option.bind_some, if_pos rfl, ok]
      dsimp only
      rw [show (nI 1 &&& 1 : Int32) = 1 from rfl]
    have head : fX7_read_58 ti (k + 1) 0 (nI m) net ud (nI n) (nI e) kin tol (nI m) hold hsiz xerr xrea xdet xcom gw gk bw bk h0w h0k h1w h1k h2w h2k h3w h3k h4w h4k h5w h5k rs ro tn = (if fl = 0 then ((fX7_performCommand net kin1 gw gk rs1 ro1 tn1).bind fun q18 => fX7_read_58 ti k fl (nI (m + 1)) q18.1 d (nI n) (nI (cP (cdN ti n) c).2.1) kin1 tol1 (nI (m + 1)) hold hsiz xerr xrea xdet xcom q18.2.1 q18.2.2.1 bw bk h0w h0k h1w h1k h2w h2k h3w h3k h4w h4k h5w h5k q18.2.2.2.1 q18.2.2.2.2 tn1) else fX7_read_58 ti k fl (nI (m + 1)) net d (nI n) (nI (cP (cdN ti n) c).2.1) kin1 tol1 (nI m) hold hsiz xerr xrea xdet xcom gw gk bw bk h0w h0k h1w h1k h2w h2k h3w h3k h4w h4k h5w h5k rs1 ro1 tn1) := by
      rw [fX7_read_58, if_neg c31, if_pos rfl, nx, Option.bind_some, if_pos rfl, if_neg n10, x1, Option.bind_some]
      simp only [fX7_read_98, fX5_countDone, Option.bind_some, nI_1]
    have mhead : ∀ ans mnet, fX8_read_43 mt (k2 + 1) (nI m) chg 0 rea det ref err ans mnet tap her (nI M) ms mw mp mf mc = ((fX8_does 0 rea det ref mnet ms mf mc (nI (4 * m))).bind fun q12 => if q12.2.1 = 0 then fX8_read_43 mt k2 (nI (m + 1)) chg q12.2.1 q12.2.2.1 q12.2.2.2.1 q12.2.2.2.2.1 err q12.1 q12.2.2.2.2.2.1 tap her (nI M) q12.2.2.2.2.2.2.1 mw mp q12.2.2.2.2.2.2.2 mc else (fX8_copies 103 mw 103 q12.2.2.2.2.2.2.1 0 0).bind fun q15 => fX8_read_105 mt (if q12.2.1 = 9 then nI m else q12.2.2.2.2.1) chg q12.2.1 q12.2.2.1 q12.2.2.2.1 q12.2.2.2.2.1 err q12.1 q12.2.2.2.2.2.1 tap her (nI M) q15 mw mp q12.2.2.2.2.2.2.2 mc) := fun ans mnet => by
      rw [fX8_read_43, if_neg (nI_ge mM (by omega)), show (4 * nI m : Int32) = nI (4 * m) from pk_mul 4 m, nI_1]
    have cpz : ∀ g : Nat → Int32, fX8_copies 103 mw 103 g 0 0 = some (va_cpy mw g 0 0 103) := fun g => cop_e (sp := 0) (dp := 0) (by omega) (by omega) (by omega) (by omega)
    rw [head, mhead]
    rcases x2 with ⟨rfl, net', gw', gk', rs', ro', told, ms', mnet', mf', y1, y2, y3, y4⟩ | ⟨⟨q, q1, q2, rfl⟩, mnet', mf', y2⟩ | ⟨yf, x, mnet', mf', yx, y2⟩
    · have y4 := Gm.mono hmm y4
      rw [if_pos rfl, y1, Option.bind_some, y2, Option.bind_some, if_pos rfl]
      rcases rest with ⟨r1, r2⟩ | ⟨r1, r2, r3⟩
      · obtain ⟨k, rfl⟩ : ∃ q, k = q + 1 := ⟨k - 1, by omega⟩
        obtain ⟨k2, rfl⟩ : ∃ q, k2 = q + 1 := ⟨k2 - 1, by omega⟩
        refine ⟨0, net', d, nI n, kin1, tol1, m + 1, gw', gk', rs', ro', tn1, ?_, Or.inl ⟨rfl, r2.symm, told, mnet', ms', mf', ?_, y3, y4⟩⟩
        · rw [fX7_read_58, if_neg (show ¬ (60 : Int32) ≤ nI (m + 1) from nI_ge (b := 60) (by omega) (by omega)), if_pos rfl, r1, fX5_takeNext, if_neg (nI_nlt (by omega) (by omega)), Option.bind_some, if_pos rfl, if_pos rfl]
        · rw [fX8_read_43, r2, if_pos (nI_le (by omega) (by omega))]
      · obtain ⟨fl', net2, ud', cur', kin', tol', j, gw2, gk2, rs2, ro2, tn2, i1, i2⟩ := ih ((cP (cdN ti n) c).2.1 + 1) (cP (cdN ti n) c).2.1 (m + 1) M k k2 gw' gk' ms' rs' ro' tn1 mf' net' d kin1 tol1 told mnet' r3 r1 (if_pos r2) (by omega) (by omega) (by omega) y3 y4
        exact ⟨fl', net2, ud', cur', kin', tol', j, gw2, gk2, rs2, ro2, tn2, i1, i2⟩
    · obtain ⟨k, rfl⟩ : ∃ q, k = q + 1 := ⟨k - 1, by omega⟩
      have nz : ¬ nI q = 0 := nI_ne0 (by omega) (by omega)
      rw [if_neg nz, y2, Option.bind_some, if_neg (show ¬ (9 : Int32) = 0 by decide), cpz, Option.bind_some, if_pos (show (9 : Int32) = 9 from rfl)]
      refine ⟨nI q, net, d, nI (cP (cdN ti n) c).2.1, kin1, tol1, m, gw, gk, rs1, ro1, tn1, ?_, Or.inr (Or.inl ⟨⟨q, q1, q2, rfl⟩, 0, mnet', ms, mf', rfl⟩)⟩
      rw [fX7_read_58, if_neg (show ¬ (60 : Int32) ≤ nI (m + 1) from nI_ge (b := 60) (by omega) (by omega)), if_neg nz]
    · obtain ⟨k, rfl⟩ : ∃ q, k = q + 1 := ⟨k - 1, by omega⟩
      have nz : ¬ fl = 0 := by rcases yf with q | q <;> rw [q] <;> decide
      have xz : ¬ x = 0 := by rcases yx with q | q <;> rw [q] <;> decide
      have x9 : ¬ x = 9 := by rcases yx with q | q <;> rw [q] <;> decide
      rw [if_neg nz, y2, Option.bind_some, if_neg (show ¬ ((0 : Int32), x, rea, det, ref, mnet', ms, mf').2.1 = 0 from xz), cpz, Option.bind_some, if_neg (show ¬ ((0 : Int32), x, rea, det, ref, mnet', ms, mf').2.1 = 9 from x9)]
      refine ⟨fl, net, d, nI (cP (cdN ti n) c).2.1, kin1, tol1, m, gw, gk, rs1, ro1, tn1, ?_, Or.inr (Or.inr ⟨yf, 0, mnet', x, ms, mf', yx, rfl⟩)⟩
      rw [fX7_read_58, if_neg (show ¬ (60 : Int32) ≤ nI (m + 1) from nI_ge (b := 60) (by omega) (by omega)), if_neg nz]

