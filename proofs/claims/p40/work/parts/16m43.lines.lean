/-! lines -/
theorem put_e {n v : Nat} {ns ml : Nat → Int32} (h : Ln_ n ns ml) (hn : n < 32) (hv : v < 128) : fX3_add (nI n) ns (nI v) = some (nI (n + 1), upd ns n (nI v)) ∧ fX8_puts (nI n) ml (nI v) = some (nI (n + 1), upd ml n (nI v)) ∧ Ln_ (n + 1) (upd ns n (nI v)) (upd ml n (nI v)) := by
  refine ⟨?_, ?_, by omega, fun j hj => ?_⟩
  · rw [fX3_add, if_neg (nI_pos (by omega)), if_neg (show ¬ (32 : Int32) ≤ nI n from nI_ge (b := 32) (by omega) (by omega)), if_pos (e_vin (by omega) (by omega)), nI_clamp (by omega), (u16_n hv).1, nI_1]
  · rw [fX8_puts, if_pos (e_vin (by omega) (by omega)), nI_clamp (by omega), nI_1]
  · by_cases e : j = n
    · rw [e, pk_us, pk_us]; exact ⟨rfl, v, hv, rfl⟩
    · rw [pk_un e, pk_un e]; exact h.2 j (by omega)
theorem dig_f : ∀ v, v < 100 → (((48 + (nI v - nI v / 10 * 10))).toUInt32 % 65536).toInt32 = nI (48 + v % 10) ∧ ((48 + (nI v / 10)).toUInt32 % 65536).toInt32 = nI (48 + v / 10) ∧ (48 + (nI v - nI v / 10 * 10) : Int32) = nI (48 + v % 10) ∧ (nI v / 10 : Int32) = nI (v / 10) := by decide +kernel
theorem num_e {n v : Nat} {ns ml : Nat → Int32} (h : Ln_ n ns ml) (hn : n + 2 ≤ 32) (hv : v < 100) : ∃ n' ns' ml', n' ≤ n + 2 ∧ fX3_addNumber (nI n) ns (nI v) = some (nI n', ns') ∧ fX8_number_1 (nI n) ml (nI v) = some (nI n', ml') ∧ Ln_ n' ns' ml' := by
  obtain ⟨d1, d2, d3, d4⟩ := dig_f v hv
  by_cases z : v < 10
  · obtain ⟨p1, p2, p3⟩ := put_e h (by omega) (show 48 + v % 10 < 128 by omega)
    have lt : nI v < 10 := nI_lt (b := 10) z (by omega)
    refine ⟨n + 1, _, _, by omega, ?_, ?_, p3⟩
    · rw [fX3_addNumber, if_pos lt, fX3_addNumber_18, d1, p1]; rfl
    · rw [fX8_number_1, if_pos lt, fX8_number_1_14, d3, p2]; rfl
  · obtain ⟨e1, e2, e3, e4⟩ := dig_f (v / 10) (by omega)
    obtain ⟨p1, p2, p3⟩ := put_e h (by omega) (show 48 + v / 10 < 128 by omega)
    obtain ⟨q1, q2, q3⟩ := put_e p3 (by omega) (show 48 + v % 10 < 128 by omega)
    have nlt : ¬ nI v < 10 := nI_nlt (b := 10) (by omega) (by omega)
    have lt : nI (v / 10) < 10 := nI_lt (b := 10) (by omega) (by omega)
    have m10 : v / 10 % 10 = v / 10 := Nat.mod_eq_of_lt (by omega)
    rw [m10] at e3
    refine ⟨n + 2, _, _, by omega, ?_, ?_, q3⟩
    · rw [fX3_addNumber, if_neg nlt, d2, p1, Option.bind_some, fX3_addNumber_18, d1, q1]; rfl
    · rw [fX8_number_1, if_neg nlt, d4, fX8_number_0, if_pos lt, fX8_number_0_14, e3, p2, Option.bind_some, Option.bind_some, fX8_number_1_14, d3, q2]; rfl
theorem sgn_e {n v c : Nat} {ns ml : Nat → Int32} (h : Ln_ n ns ml) (hn : n + 3 ≤ 32) (hv : v < 100) (hc : c < 128) : ∃ n' ns' ml' ml1, n' ≤ n + 3 ∧ fX3_addSigned (nI n) ns (nI c) (nI v) = some (nI n', ns') ∧ fX8_puts (nI n) ml (nI c) = some (nI (n + 1), ml1) ∧ fX8_number_1 (nI (n + 1)) ml1 (nI v) = some (nI n', ml') ∧ Ln_ n' ns' ml' := by
  obtain ⟨p1, p2, p3⟩ := put_e h (by omega) hc
  obtain ⟨n', ns', ml', a1, a2, a3, a4⟩ := num_e p3 (by omega) hv
  refine ⟨n', ns', ml', _, by omega, ?_, p2, a3, a4⟩
  rw [fX3_addSigned, p1, Option.bind_some, a2]; rfl
section LINE
variable {gw gk ms : Nat → Int32} {n t u b : Nat}
theorem row_l (hR : Rg gw gk ms) (hV : Vg gw gk n t u b) {y : Nat} (hy : y < 5) : ∀ (d c k : Nat) (ns ml : Nat → Int32), c + d = 9 → d < k → Ln_ c ns ml → ∃ ns' ml', fX7_row_29 gw gk k (nI y) (nI c) (nI c) ns = some (0, nI 9, nI 9, ns') ∧ fX8_row_34 ms k (nI y) (nI (9 * y + c)) 0 (nI c) ml = some (nI 9, 0, nI 9, ml') ∧ Ln_ 9 ns' ml' := by
  have h10 := hV.1.1
  have h48 := hV.1.2.1
  have hb := hV.1.2.2.1
  have k5 := hV.1.2.2.2.2.2.1
  have m2 : ms 2 = nI b := hR.2.2.2.1.trans k5
  have stop : (9 * (nI y + 1) : Int32) = nI (9 * y + 9) := by rw [nI_1, show (9 : Int32) = nI 9 from rfl, pk_mul, Nat.mul_succ]
  intro d
  induction d with
  | zero =>
    intro c k ns ml h hk hL
    obtain ⟨k, rfl⟩ : ∃ q, k = q + 1 := ⟨k - 1, by omega⟩
    have c9 : c = 9 := by omega
    subst c9
    refine ⟨ns, ml, ?_, ?_, hL⟩
    · rw [fX7_row_29, if_pos (show (9 : Int32) ≤ nI 9 from by decide)]; rfl
    · rw [fX8_row_34, stop, if_pos (nI_le (by omega) (by omega))]
  | succ d ih =>
    intro c k ns ml h hk hL
    obtain ⟨k, rfl⟩ : ∃ q, k = q + 1 := ⟨k - 1, by omega⟩
    have hc45 : 9 * y + c < 45 := by omega
    -- one character more
    have step : ∀ v, v < 128 → ∃ ns' ml', fX3_add (nI c) ns (nI v) = some (nI (c + 1), upd ns c (nI v)) ∧ fX8_puts (nI c) ml (nI v) = some (nI (c + 1), upd ml c (nI v)) ∧ fX7_row_29 gw gk k (nI y) (nI (c + 1)) (nI (c + 1)) (upd ns c (nI v)) = some (0, nI 9, nI 9, ns') ∧ fX8_row_34 ms k (nI y) (nI (9 * y + (c + 1))) 0 (nI (c + 1)) (upd ml c (nI v)) = some (nI 9, 0, nI 9, ml') ∧ Ln_ 9 ns' ml' := by
      intro v hv
      obtain ⟨p1, p2, p3⟩ := put_e hL (by omega) hv
      obtain ⟨ns', ml', i1, i2, i3⟩ := ih (c + 1) k _ _ (by omega) (by omega) p3
      exact ⟨ns', ml', p1, p2, i1, i2, i3⟩
    have c9 : ¬ (9 : Int32) ≤ nI c := nI_ge (b := 9) (by omega) (by omega)
    have s9 : ¬ nI (9 * y + 9) ≤ nI (9 * y + c) := nI_ge (by omega) (by omega)
    rw [fX7_row_29, if_neg c9, fX8_row_34, stop, if_neg s9, e_i9, fX7_writeCell, whaleOn_e hV.1.2.2.2.1 h10, Option.bind_some, whaleAt_e hR hV.1.2.2.2.1 h10, Option.bind_some]
    rcases fst_spec (pOn gw (nI (9 * y + c))) n 0 with ⟨z, _⟩ | ⟨x, _, x1, _, z, _⟩
    · rw [z, if_pos rfl, if_pos (show (-1 : Int32) < 0 from by decide), ct5, Option.bind_some, k5, if_pos v103_2, cl_2, m2]
      by_cases e : nI (9 * y + c) = nI b
      · obtain ⟨ns', ml', p1, p2, i1, i2, i3⟩ := step 111 (by omega)
        refine ⟨ns', ml', ?_, ?_, i3⟩
        · rw [if_pos e, show (111 : Int32) = nI 111 from rfl, p1, Option.bind_some, Option.bind_some, nI_1]; exact i1
        · rw [if_pos e, fX8_row_92, show (111 : Int32) = nI 111 from rfl, p2, Option.bind_some, nI_1]; exact i2
      · rw [if_neg e, if_neg e, dry_c hc45 h48 hV.1.2.2.2.2.1, Option.bind_some, dry_m hR hc45 h48 hV.1.2.2.2.2.1, Option.bind_some, fX7_writeCell_71, fX8_row_92]
        by_cases w : fX8_isDryAt (nI (9 * y + c)) (nI t) = 0
        · obtain ⟨ns', ml', p1, p2, i1, i2, i3⟩ := step 46 (by omega)
          refine ⟨ns', ml', ?_, ?_, i3⟩
          · rw [if_pos w, show (46 : Int32) = nI 46 from rfl, p1, Option.bind_some, Option.bind_some, nI_1]; exact i1
          · rw [if_pos w, show (46 : Int32) = nI 46 from rfl, p2, Option.bind_some, nI_1]; exact i2
        · obtain ⟨ns', ml', p1, p2, i1, i2, i3⟩ := step 95 (by omega)
          refine ⟨ns', ml', ?_, ?_, i3⟩
          · rw [if_neg w, show (95 : Int32) = nI 95 from rfl, p1, Option.bind_some, Option.bind_some, nI_1]; exact i1
          · rw [if_neg w, show (95 : Int32) = nI 95 from rfl, p2, Option.bind_some, nI_1]; exact i2
    · obtain ⟨ns', ml', p1, p2, i1, i2, i3⟩ := step (48 + x) (by omega)
      have lt : nI x < 10 := nI_lt (b := 10) (by omega) (by omega)
      have dg := (dig_f x (by omega)).1
      rw [Nat.mod_eq_of_lt (show x < 10 by omega)] at dg
      refine ⟨ns', ml', ?_, ?_, i3⟩
      · rw [z, if_neg (nm1 (by omega)), fX3_addNumber, if_pos lt, fX3_addNumber_18, dg, p1, Option.bind_some, Option.bind_some, Option.bind_some, nI_1]; exact i1
      · rw [z, if_neg (nI_pos (by omega)), fX8_row_92, show (48 + nI x : Int32) = nI (48 + x) from nI_add 48 x, p2, Option.bind_some, nI_1]; exact i2
end LINE
theorem sx_row : St_row Inv := by
  intro f_net u_det t_len t_cur t_kin t_tol t_don n_len h_old h_siz x_sav x_err x_rea x_det x_com v_gw v_gk v_bw v_bk v_vw v_vk v_h0w v_h0k v_h1w v_h1k v_h2w v_h2k v_h3w v_h3k v_h4w v_h4k v_h5w v_h5k v_rs v_rl v_ro v_ti v_tn v_ns m_chg m_thr m_rea m_det m_ref m_err m_ans m_sav m_net m_lin m_tap m_her m_cmd v_ms v_mw v_mv v_mp v_mf v_ml v_mt v_mc hI p0
  obtain ⟨n, t, b, hV, hX⟩ := hI.2.1
  obtain ⟨y, e4, e5, hL⟩ := hI.2.2.2.2.2.1
  rcases rg_lo p0 (m := 4) (by omega) with ⟨h, z | z⟩ | ⟨j, hj, rfl, h⟩
  · exact ⟨(3, 0, n_len, v_ns), (0, 1, m_lin, v_ml), by rw [fX7_row, if_pos z]; rfl, by rw [fX8_row, show (4 : Int32) = nI 4 from rfl, h, if_pos rfl, fX8_row_15, th1, Option.bind_some, if_neg n10], Or.inr rfl, rfl, fun h => absurd h (show ¬ (3 : Nat) = 0 by decide), hI⟩
  · exact ⟨(3, 0, n_len, v_ns), (0, 1, m_lin, v_ml), by rw [fX7_row, if_neg z.1, if_neg (show ¬ p0 < (5 : Int32) from Int32.not_lt.mpr z.2)]; rfl, by rw [fX8_row, show (4 : Int32) = nI 4 from rfl, h, if_pos rfl, fX8_row_15, th1, Option.bind_some, if_neg n10], Or.inr rfl, rfl, fun h => absurd h (show ¬ (3 : Nat) = 0 by decide), hI⟩
  · obtain ⟨ns', ml', i1, i2, i3⟩ := row_l hI.1 hV (y := j) (by omega) 9 0 64 v_ns v_ml (by omega) (by omega) ⟨by omega, fun q hq => absurd hq (Nat.not_lt_zero _)⟩
    refine ⟨(0, nI 9, nI 9, ns'), (nI 9, 0, nI 9, ml'), ?_, ?_, Or.inl rfl, rfl, fun _ => rfl, hI.1, hI.2.1, hI.2.2.1, hI.2.2.2.1, hI.2.2.2.2.1, ⟨9, rfl, rfl, i3⟩, hI.2.2.2.2.2.2⟩
    · rw [fX7_row, if_neg (nI_pos (by omega)), if_pos (show nI j < (5 : Int32) from nI_lt (b := 5) (by omega) (by omega))]; exact i1
    · rw [fX8_row, show (4 : Int32) = nI 4 from rfl, h, if_neg n10, fX8_row_15, th0, Option.bind_some, if_pos rfl, show (9 * nI j : Int32) = nI (9 * j + 0) from pk_mul 9 j]
      exact i2
theorem sx_tell : St_tell Inv := by
  intro f_net u_det t_len t_cur t_kin t_tol t_don n_len h_old h_siz x_sav x_err x_rea x_det x_com v_gw v_gk v_bw v_bk v_vw v_vk v_h0w v_h0k v_h1w v_h1k v_h2w v_h2k v_h3w v_h3k v_h4w v_h4k v_h5w v_h5k v_rs v_rl v_ro v_ti v_tn v_ns m_chg m_thr m_rea m_det m_ref m_err m_ans m_sav m_net m_lin m_tap m_her m_cmd v_ms v_mw v_mv v_mp v_mf v_ml v_mt v_mc hI p0
  obtain ⟨n, t, b, hV, hX⟩ := hI.2.1
  obtain ⟨y, e4, e5, hL⟩ := hI.2.2.2.2.2.1
  have h10 := hV.1.1
  rcases whale_c hI.1 hV.1.2.2.2.1 hV.1.1 p0 with ⟨h1, h2⟩ | ⟨w, hw, rfl, h1, h2⟩
  · exact ⟨(3, 0, n_len, v_ns), (0, 1, m_lin, v_ml), by rw [fX7_tell, dem_w h1]; rfl, by rw [fX8_tell, h2, Option.bind_some, if_pos rfl, fX8_tell_14, th1, Option.bind_some, if_neg n10], Or.inr rfl, rfl, fun h => absurd h (show ¬ (3 : Nat) = 0 by decide), hI⟩
  · obtain ⟨em0, em⟩ := e_ms hI.1 (i := w) (by omega)
    obtain ⟨T1, ⟨sa, sa1, sa2, sa3⟩, ⟨sp, sp1, sp2, sp3⟩, ⟨br, br1, br2⟩, cl, _⟩ := hV.2.2.2.1 w hw
    obtain ⟨T, hT, tT⟩ : ∃ T, T < 2 ∧ v_gw (9 * w) = nI T := by
      rcases T1 with q | q
      · exact ⟨0, by omega, q⟩
      · exact ⟨1, by omega, q⟩
    have L0 : Ln_ 0 v_ns v_ml := ⟨by omega, fun q hq => absurd hq (Nat.not_lt_zero _)⟩
    obtain ⟨n1, ns1, ml1, a1, b1, c1, L1⟩ := num_e L0 (by omega) (show w < 100 by omega)
    obtain ⟨n2, ns2, ml2, x2, a2, b2, d2, c2, L2⟩ := sgn_e (c := 58) L1 (by omega) (show T < 100 by omega) (by omega)
    obtain ⟨n3, ns3, ml3, x3, a3, b3, d3, c3, L3⟩ := sgn_e (c := 94) L2 (by omega) (show sa < 100 by omega) (by omega)
    obtain ⟨n4, ns4, ml4, x4, a4, b4, d4, c4, L4⟩ := sgn_e (c := 47) L3 (by omega) (show sp < 100 by omega) (by omega)
    obtain ⟨n5, ns5, ml5, x5, a5, b5, d5, c5, L5⟩ := sgn_e (c := 37) L4 (by omega) (show br < 100 by omega) (by omega)
    have tail : ∀ (q : Nat) (ns ml : Nat → Int32), q + 1 ≤ 32 → Ln_ q ns ml → ∃ q' ns' ml', fX7_tell_121 v_gw v_gk (nI w) (nI q) ns = some (0, nI q', nI q', ns') ∧ fX8_tell_122 v_ms (nI w) 0 (nI q) ml = some (nI q', 0, nI q', ml') ∧ Ln_ q' ns' ml' := by
      intro q ns ml hq hL
      obtain ⟨p1, p2, p3⟩ := put_e (v := 33) hL (by omega) (by omega)
      rw [fX7_tell_121, of5 v_gw (by omega), Option.bind_some, fX8_tell_122, mof5 v_ms (by omega), Option.bind_some, em 5 (by omega)]
      by_cases z : v_gw (9 * w + 5) = 1
      · rw [if_pos z, if_pos z, show (33 : Int32) = nI 33 from rfl, p1, p2]
        exact ⟨q + 1, _, _, rfl, rfl, p3⟩
      · rw [if_neg z, if_neg z]
        exact ⟨q, ns, ml, rfl, rfl, hL⟩
    have ce : fX7_tell n_len v_gw v_gk v_ns (nI w) = (if v_gw (9 * w + 4) = -1 then fX7_tell_121 v_gw v_gk (nI w) (nI n5) ns5 else (fX3_addSigned (nI n5) ns5 64 (v_gw (9 * w + 4))).bind fun q28 => fX7_tell_121 v_gw v_gk (nI w) q28.1 q28.2) := by
      rw [fX7_tell, dem_w h1, Option.bind_some, if_neg n10, if_pos rfl, fX3_clear, Option.bind_some, show fX3_addNumber 0 v_ns (nI w) = _ from b1, Option.bind_some, of0 v_gw (by omega), Option.bind_some, tT, show (58 : Int32) = nI 58 from rfl, b2, Option.bind_some, of1 v_gw (by omega), Option.bind_some, sa3, show (94 : Int32) = nI 94 from rfl, b3, Option.bind_some, of2 v_gw (by omega), Option.bind_some, sp3, show (47 : Int32) = nI 47 from rfl, b4, Option.bind_some, of3 v_gw (by omega), Option.bind_some, br2, show (37 : Int32) = nI 37 from rfl, b5, Option.bind_some, bench_c v_gw (by omega), Option.bind_some, of4 v_gw (by omega), Option.bind_some]
      by_cases z : v_gw (9 * w + 4) = -1
      · rw [if_pos z, if_pos z, if_pos rfl]
      · rw [if_neg z, if_neg z, if_neg n10]
    have me : fX8_tell m_thr m_lin v_ms v_ml (nI w) = (if v_gw (9 * w + 4) < 0 then fX8_tell_122 v_ms (nI w) 0 (nI n5) ml5 else (fX8_puts (nI n5) ml5 64).bind fun q36 => (fX8_number_1 q36.1 q36.2 (v_gw (9 * w + 4))).bind fun q40 => fX8_tell_122 v_ms (nI w) 0 q40.1 q40.2) := by
      have f4 := em 4 (by omega)
      rw [fX8_tell, h2, Option.bind_some, if_neg n10, fX8_tell_14, th0, Option.bind_some, if_pos rfl, show fX8_number_1 0 v_ml (nI w) = _ from c1, Option.bind_some, show (58 : Int32) = nI 58 from rfl, d2, Option.bind_some, mof0 v_ms (by omega), Option.bind_some, em0, tT, c2, Option.bind_some, show (94 : Int32) = nI 94 from rfl, d3, Option.bind_some, mof1 v_ms (by omega), Option.bind_some, em 1 (by omega), sa3, c3, Option.bind_some, show (47 : Int32) = nI 47 from rfl, d4, Option.bind_some, mof2 v_ms (by omega), Option.bind_some, em 2 (by omega), sp3, c4, Option.bind_some, show (37 : Int32) = nI 37 from rfl, d5, Option.bind_some, mof3 v_ms (by omega), Option.bind_some, em 3 (by omega), br2, c5, Option.bind_some]
      simp only [mof4 v_ms (show w < 10 by omega), Option.bind_some, f4]
    rw [ce, me]
    rcases cl with ⟨q, _⟩ | ⟨c, hc, q⟩
    · obtain ⟨q', ns', ml', t1, t2, t3⟩ := tail n5 ns5 ml5 (by omega) L5
      rw [q, if_pos rfl, if_pos (show (-1 : Int32) < 0 from by decide)]
      exact ⟨_, _, t1, t2, Or.inl rfl, rfl, fun _ => rfl, hI.1, hI.2.1, hI.2.2.1, hI.2.2.2.1, hI.2.2.2.2.1, ⟨q', rfl, rfl, t3⟩, hI.2.2.2.2.2.2⟩
    · obtain ⟨n6, ns6, ml6, x6, a6, b6, d6, c6, L6⟩ := sgn_e (c := 64) L5 (by omega) (show c < 100 by omega) (by omega)
      obtain ⟨q', ns', ml', t1, t2, t3⟩ := tail n6 ns6 ml6 (by omega) L6
      rw [q, if_neg (nm1 (by omega)), if_neg (nI_pos (by omega)), show (64 : Int32) = nI 64 from rfl, b6, d6, Option.bind_some, Option.bind_some, c6, Option.bind_some]
      exact ⟨_, _, t1, t2, Or.inl rfl, rfl, fun _ => rfl, hI.1, hI.2.1, hI.2.2.1, hI.2.2.2.1, hI.2.2.2.2.1, ⟨q', rfl, rfl, t3⟩, hI.2.2.2.2.2.2⟩

