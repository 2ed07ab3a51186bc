/-! deeds: the end of a stroke, and the small deeds -/
theorem Vw_mono {gw : Nat → Int32} {u v i : Nat} (h : Vw u gw i) (huv : u ≤ v) : Vw v gw i := by
  obtain ⟨a0, a1, a2, a3, a4, a5, ⟨x, x1, x2⟩, ⟨y, y1, y2⟩, ⟨z, z1, z2⟩⟩ := h
  exact ⟨a0, a1, a2, a3, a4, a5, ⟨x, by omega, x2⟩, ⟨y, by omega, y2⟩, ⟨z, by omega, z2⟩⟩
theorem Vs_mono {gw : Nat → Int32} {n u v : Nat} (h : Vs gw n u) (huv : u ≤ v) : Vs gw n v := ⟨h.1, h.2.1, fun i hi => Vw_mono (h.2.2.1 i hi) huv, h.2.2.2.1, h.2.2.2.2⟩
theorem Vk_mono {gk : Nat → Int32} {n t u v b : Nat} (h : Vk gk n t u b) (huv : u ≤ v) : Vk gk n t v b := by
  obtain ⟨k1, k2, k3, k4, k5, k6, k7, ⟨x, x1, x2⟩, ⟨y, y1, y2⟩, k10, k11⟩ := h
  exact ⟨k1, k2, k3, k4, k5, k6, k7, ⟨x, by omega, x2⟩, ⟨y, by omega, y2⟩, k10, k11⟩
theorem min_e {x : Int32} : (if 20 < x then (20 : Int32) else x) = fX8_lesser 20 x := by
  rw [fX8_lesser]
  by_cases h : x ≤ 20
  · rw [if_pos h, if_neg (Int32.not_lt.mpr h)]
  · rw [if_neg h, if_pos (Int32.not_le.mp h)]
theorem min_v {b : Nat} (hb : b ≤ 20) : ∃ c, c ≤ 20 ∧ fX8_lesser 20 (nI b + 5) = nI c := by
  rw [show nI b + 5 = nI (b + 5) from nI_add b 5, fX8_lesser]
  by_cases h : b + 5 ≤ 20
  · exact ⟨b + 5, h, by rw [if_pos (show nI (b + 5) ≤ (20 : Int32) from nI_le (b := 20) h (by omega))]⟩
  · exact ⟨20, by omega, by rw [if_neg (show ¬ nI (b + 5) ≤ (20 : Int32) from nI_ge (a := 20) (by omega) (by omega))]; rfl⟩
theorem rest_l {gk : Nat → Int32} {n u : Nat} (hn : gk 0 = nI n) (h10 : n ≤ 10) : ∀ (j i k k2 : Nat) (gw ms : Nat → Int32), i + j = n → j < k → j < k2 → Rg gw gk ms → Vs gw n u → ∃ gw' ms', fX1_endChukka_30 k (nI i) gw gk = some (gw', gk) ∧ (∀ v, fX8_strokes_57 k2 v (nI i) ms = some (v, ms')) ∧ Rg gw' gk ms' ∧ Vs gw' n u ∧ (∀ q c, c < 9 → c ≠ 3 → c ≠ 5 → gw' (9 * q + c) = gw (9 * q + c)) := by
  intro j
  induction j with
  | zero =>
    intro i k k2 gw ms h hk hk2 hR hV
    obtain ⟨k, rfl⟩ : ∃ q, k = q + 1 := ⟨k - 1, by omega⟩
    obtain ⟨k2, rfl⟩ : ∃ q, k2 = q + 1 := ⟨k2 - 1, by omega⟩
    refine ⟨gw, ms, ?_, fun v => ?_, hR, hV, fun _ _ _ _ _ => rfl⟩
    · rw [fX1_endChukka_30, ct0, Option.bind_some, hn, if_pos (nI_le (by omega) (by omega))]
    · rw [fX8_strokes_57, if_pos v103_0, cl_0, hR.2.1, hn, if_pos (nI_le (by omega) (by omega))]
  | succ j ih =>
    intro i k k2 gw ms h hk hk2 hR hV
    obtain ⟨k, rfl⟩ : ∃ q, k = q + 1 := ⟨k - 1, by omega⟩
    obtain ⟨k2, rfl⟩ : ∃ q, k2 = q + 1 := ⟨k2 - 1, by omega⟩
    have hi : i < n := by omega
    have R1 := Rg_w hR (j := 9 * i + 5) (by omega) 0
    have V1 := Vs_5_0 hV hi
    obtain ⟨b, b1, b2⟩ := (V1.2.2.1 i hi).2.2.2.1
    obtain ⟨c, c1, c2⟩ := min_v b1
    have R2 := Rg_w R1 (j := 9 * i + 3) (by omega) (nI c)
    have V2 := Vs_3 V1 hi c1
    obtain ⟨gw', ms', e1, e2, e3, e4, e5⟩ := ih (i + 1) k k2 _ _ (by omega) (by omega) (by omega) R2 V2
    have m3 : upd ms (13 + 9 * i + 5) 0 (13 + 9 * i + 3) = nI b := by
      have := R1.1 (9 * i + 3) (by omega)
      rw [show 13 + 9 * i + 5 = 13 + (9 * i + 5) from by omega, show 13 + 9 * i + 3 = 13 + (9 * i + 3) from by omega, this, b2]
    refine ⟨gw', ms', ?_, fun v => ?_, e3, e4, fun q c c9 c3 c5 => by rw [e5 q c c9 c3 c5, up_ne q c (by omega) c9 (Or.inr c3), up_ne q c (by omega) c9 (Or.inr c5)]⟩
    · rw [fX1_endChukka_30, ct0, Option.bind_some, hn, if_neg (nI_ge (by omega) (by omega)), set5 gw (by omega), Option.bind_some, of3 _ (by omega), Option.bind_some, b2, min_e, c2, set3 _ (by omega), Option.bind_some, nI_1]
      exact e1
    · rw [fX8_strokes_57, if_pos v103_0, cl_0, hR.2.1, hn, if_neg (nI_ge (by omega) (by omega)), mset5 ms (by omega), Option.bind_some, mof3 _ (by omega), Option.bind_some, m3, c2, mset3 _ (by omega), Option.bind_some, nI_1]
      exact e2 v
theorem stroke_e {gw gk ms : Nat → Int32} {n t u b : Nat} (hR : Rg gw gk ms) (hk : Vk gk n t u b) (hs : Vs gw n u) (ht : t < 48) (hu : u ≤ t + 1) {x : Nat} (hX : Xn gw gk n x) (hx : x ≤ t + 1) : ∃ gw' gk' ms' b', fX1_endStroke gw gk = some (nI (t + 1), gw', gk') ∧ (∀ v, fX8_strokes ms v = some (v, ms')) ∧ Rg gw' gk' ms' ∧ Vg gw' gk' n (t + 1) (t + 1) b' ∧ Xn gw' gk' n (t + 1) := by
  obtain ⟨k1, k2, k3, k4, k5, k6, k7, k8, k9, k10, k11⟩ := Vk_mono hk hu
  have hs' := Vs_mono hs hu
  have e1 : gk 1 + 1 = nI (t + 1) := by rw [k5, nI_1]
  have m1 : ms 1 + 1 = nI (t + 1) := by rw [hR.2.2.1, e1]
  have R1 := Rg_k1 hR (nI (t + 1))
  have K1 : Vk (upd gk 1 (nI (t + 1))) n (t + 1) (t + 1) b := ⟨k1, by omega, k3, k4, rfl, k6, k7, k8, k9, k10, k11⟩
  have u1 : upd gk 1 (nI (t + 1)) 1 = nI (t + 1) := rfl
  have w1 : upd ms 1 (nI (t + 1)) 1 = nI (t + 1) := rfl
  by_cases z : nI (t + 1) - nI (t + 1) / 12 * 12 = 0
  · have R2 := Rg_k17 (Rg_k16 (Rg_k6 (Rg_k5 R1 22) (-1)) 0) 0
    have K2 : Vk (upd (upd (upd (upd (upd gk 1 (nI (t + 1))) 5 22) 6 (-1)) 16 0) 17 0) n (t + 1) (t + 1) 22 := ⟨k1, by omega, by omega, k4, rfl, rfl, Or.inl rfl, k8, k9, Or.inl rfl, Or.inl rfl⟩
    obtain ⟨gw', ms', f1, f2, f3, f4, f5⟩ := rest_l (u := t + 1) (show (upd (upd (upd (upd (upd gk 1 (nI (t + 1))) 5 22) 6 (-1)) 16 0) 17 0) 0 = nI n from k4) k1 n 0 64 64 gw _ (by omega) (by omega) (by omega) R2 hs'
    refine ⟨gw', _, ms', 22, ?_, fun v => ?_, f3, ⟨K2, f4⟩, Xn_mono (Xn_gen hX (fun q _ => f5 q 0 (by omega) (by omega) (by omega)) (fun q _ => f5 q 4 (by omega) (by omega) (by omega)) (fun q _ => f5 q 6 (by omega) (by omega) (by omega)) (fun q _ => f5 q 7 (by omega) (by omega) (by omega)) (fun q _ => f5 q 8 (by omega) (by omega) (by omega)) rfl rfl rfl rfl) hx⟩
    · rw [fX1_endStroke, ca1, Option.bind_some, ct1, Option.bind_some, e1, u1, if_pos z, fX1_endChukka, cs5, Option.bind_some, cs6, Option.bind_some, cs16, Option.bind_some, cs17, Option.bind_some, show fX1_endChukka_30 64 0 gw _ = _ from f1, Option.bind_some]
    · rw [fX8_strokes, if_pos v103_1, if_pos v103_1, if_pos v103_1, cl_1, m1, w1, if_pos z, if_pos v103_2, if_pos v103_3, if_pos v103_11, if_pos v103_12, cl_2, cl_3, cl_11, cl_12]
      exact f2 v
  · refine ⟨gw, _, _, b, ?_, fun v => ?_, R1, ⟨K1, hs'⟩, Xn_mono (Xn_gen hX (fun _ _ => rfl) (fun _ _ => rfl) (fun _ _ => rfl) (fun _ _ => rfl) (fun _ _ => rfl) rfl rfl rfl rfl) hx⟩
    · rw [fX1_endStroke, ca1, Option.bind_some, ct1, Option.bind_some, e1, u1, if_neg z]
    · rw [fX8_strokes, if_pos v103_1, if_pos v103_1, if_pos v103_1, cl_1, m1, w1, if_neg z]
/-- a deed, and what the reference says of it: done, refused, of no such whale or cell, out of range -/
def Dd (n : Nat) (f d : Int32) (P : Option (Int32 × (Nat → Int32) × (Nat → Int32))) (M : Option (Int32 × Int32 × Int32 × Int32 × Int32 × (Nat → Int32))) (rea det ref : Int32) (ms : Nat → Int32) (c1 c2 : Int32) : Prop :=
  (f = 0 ∧ ∃ told gw' gk' ms', P = some (told, gw', gk') ∧ M = some (told, 0, rea, det, ref, ms') ∧ Rg gw' gk' ms' ∧ Gb n told gw' gk') ∨
  ((∃ k, 1 ≤ k ∧ k ≤ 14 ∧ f = nI k) ∧ M = some (0, 9, f, d, -1, ms)) ∨
  (c1 ≠ 0 ∧ f = -1 ∧ M = some (0, c1, rea, det, ref, ms)) ∨ (c2 ≠ 0 ∧ f = -2 ∧ M = some (0, c2, rea, det, ref, ms))
theorem rng_c {p lo hi : Int32} {m : Nat} (hh : hi.toInt = m) (hl : lo.toInt = 1) : (fX8_isIn p lo hi = 0 ∨ ∃ s, 1 ≤ s ∧ s ≤ m ∧ p = nI s ∧ fX8_isIn p lo hi = 1) := by
  by_cases h : p < lo
  · exact Or.inl (by rw [fX8_isIn, if_pos h])
  · by_cases h2 : hi < p
    · exact Or.inl (by rw [fX8_isIn, if_neg h, if_pos h2])
    · have e0 : (0 : Int32).toInt = 0 := rfl
      have p0 : ¬ p < 0 := by rw [Int32.lt_iff_toInt_lt] at h ⊢; omega
      obtain ⟨s, hs, rfl⟩ := nI_of p0
      have es := nI_toInt hs
      rw [Int32.lt_iff_toInt_lt] at h h2
      exact Or.inr ⟨s, by omega, by omega, rfl, by rw [fX8_isIn, if_neg (by rw [Int32.lt_iff_toInt_lt]; exact h), if_neg (by rw [Int32.lt_iff_toInt_lt]; exact h2)]⟩
theorem nm1 {c : Nat} (hc : c < 2 ^ 31) : ¬ nI c = -1 := by
  intro h
  have := nI_pos hc
  rw [h] at this
  exact this (by decide)
theorem first_f : ∀ z, z < 2 → ∀ m, m < 3 → ((if nI z = 0 then 10 else 16) + nI m * 9 : Int32) = nI ((if z = 0 then 10 else 16) + 9 * m) ∧ ((if nI z = 0 then 10 else 16) + 9 * nI m : Int32) = nI ((if z = 0 then 10 else 16) + 9 * m) := by decide +kernel
/-- one more whale, behind the others -/
theorem Vs_new {gw gw' : Nat → Int32} {n u z s v : Nat} {cl : Int32} (h : Vs gw n u) (hn : n < 10) (hz : z < 2) (hc : cntF (pTm gw (nI z)) 0 n < 5) (hs : 1 ≤ s ∧ s ≤ 5) (hv : 1 ≤ v ∧ v ≤ 4) (hcl : cl = -1 ∨ (∃ c, c < 45 ∧ cl = nI c) ∧ ∀ i, i < n → gw (9 * i + 4) ≠ cl)
    (e : ∀ j, j < 90 → j ≠ 9 * n → j ≠ 9 * n + 1 → j ≠ 9 * n + 2 → j ≠ 9 * n + 3 → j ≠ 9 * n + 4 → gw' j = gw j) (e0 : gw' (9 * n) = nI z) (e1 : gw' (9 * n + 1) = nI s) (e2 : gw' (9 * n + 2) = nI v) (e3 : gw' (9 * n + 3) = 20) (e4 : gw' (9 * n + 4) = cl) : Vs gw' (n + 1) u := by
  obtain ⟨h1, h2, h3, h4, h5⟩ := h
  have cs : ∀ (P : Nat → Bool) (j i : Nat), cntF P i (j + 1) = cntF P i j + (if P (i + j) = true then 1 else 0) := by
    intro P j
    induction j with
    | zero => intro i; simp [cntF]
    | succ j ih => intro i; rw [cntF, ih (i + 1), cntF, show i + 1 + j = i + (j + 1) from by omega, Nat.add_assoc]
  have ct : ∀ r, cntF (pTm gw' r) 0 n = cntF (pTm gw r) 0 n := fun r => cnt_congr n 0 (fun k _ hk => by rw [pTm, pTm, e (9 * k) (by omega) (by omega) (by omega) (by omega) (by omega) (by omega)])
  have tn : ∀ r, pTm gw' r n = decide (nI z = r) := fun r => by rw [pTm, e0]
  obtain ⟨g5, g6, g7, g8⟩ := h4 n (Nat.le_refl _) hn
  have en : ∀ d, 5 ≤ d → d < 9 → gw' (9 * n + d) = gw (9 * n + d) := fun d d1 d2 => e _ (by omega) (by omega) (by omega) (by omega) (by omega) (by omega)
  have ek : ∀ k, k < 10 → k ≠ n → ∀ d, d < 9 → gw' (9 * k + d) = gw (9 * k + d) := fun k k1 k2 d d1 => e _ (by omega) (by omega) (by omega) (by omega) (by omega) (by omega)
  refine ⟨?_, ?_, fun k hk => ?_, fun k hk hk2 => ?_, fun k j hk hj q => ?_⟩
  · rw [cs, ct, Nat.zero_add, tn]
    rcases (show z = 0 ∨ z = 1 by omega) with rfl | rfl
    · have : cntF (pTm gw 0) 0 n < 5 := hc
      split <;> omega
    · simp; exact h1
  · rw [cs, ct, Nat.zero_add, tn]
    rcases (show z = 0 ∨ z = 1 by omega) with rfl | rfl
    · simp; exact h2
    · have : cntF (pTm gw 1) 0 n < 5 := hc
      split <;> omega
  · by_cases y : k = n
    · subst y
      refine ⟨?_, ⟨s, hs.1, hs.2, e1⟩, ⟨v, hv.1, hv.2, e2⟩, ⟨20, by omega, e3⟩, ?_, Or.inl (by rw [en 5 (by omega) (by omega), g5]), ⟨0, by omega, by rw [en 6 (by omega) (by omega), g6]; rfl⟩, ⟨0, by omega, by rw [en 7 (by omega) (by omega), g7]; rfl⟩, ⟨0, by omega, by rw [en 8 (by omega) (by omega), g8]; rfl⟩⟩
      · rw [e0]
        rcases (show z = 0 ∨ z = 1 by omega) with rfl | rfl
        · exact Or.inl rfl
        · exact Or.inr rfl
      · rcases hcl with q | ⟨q, _⟩
        · exact Or.inl ⟨e4.trans q, by rw [en 5 (by omega) (by omega), g5]⟩
        · obtain ⟨c, c1, c2⟩ := q
          exact Or.inr ⟨c, c1, e4.trans c2⟩
    · have z9 := ek k (by omega) y
      have z0 : gw' (9 * k) = gw (9 * k) := z9 0 (by omega)
      rw [Vw, z0, z9 1 (by omega), z9 2 (by omega), z9 3 (by omega), z9 4 (by omega), z9 5 (by omega), z9 6 (by omega), z9 7 (by omega), z9 8 (by omega)]
      exact h3 k (by omega)
  · have z9 := ek k hk2 (by omega)
    rw [z9 5 (by omega), z9 6 (by omega), z9 7 (by omega), z9 8 (by omega)]
    exact h4 k (by omega) hk2
  · by_cases y : k = n
    · subst y
      rw [e4] at q ⊢
      rw [ek j (by omega) (by omega) 4 (by omega)] at q
      rcases hcl with w | ⟨_, w⟩
      · exact w
      · exact absurd q.symm (w j hj)
    · rw [ek k (by omega) y 4 (by omega)] at q ⊢
      rw [ek j (by omega) (by omega) 4 (by omega)] at q
      exact h5 k j (by omega) hj q
theorem two_n {gw : Nat → Int32} {n u : Nat} (h : ∀ i, i < n → Vw u gw i) : ∀ (j i : Nat), i + j = n → cntF (pTm gw 0) i j + cntF (pTm gw 1) i j = j := by
  intro j
  induction j with
  | zero => intro i _; rfl
  | succ j ih =>
    intro i hi
    have z := ih (i + 1) (by omega)
    have e : (if pTm gw 0 i = true then 1 else 0) + (if pTm gw 1 i = true then 1 else 0) = 1 := by
      rw [pTm, pTm]
      rcases (h i (by omega)).1 with t | t <;> simp [t]
    rw [cntF, cntF]
    omega
theorem d_come {gw gk ms : Nat → Int32} {n t b : Nat} (hR : Rg gw gk ms) (hV : Vg gw gk n t t b) (hX : Xn gw gk n t) (ud rea det ref p0 p1 p2 : Int32) : ∃ f d, fX6_comeFault ud gw gk p0 p1 p2 = some (f, d) ∧ Dd n f d (fX1_addWhale gw gk p0 p1 p2) (fX8_comes 0 rea det ref ms p0 p1 p2) rea det ref ms 0 1 := by
  have h10 := hV.1.1
  have hn : gk 0 = nI n := hV.1.2.2.2.1
  have a : ∀ x, (if p1 < 1 then 0 else (if 5 < p1 then 0 else 1)) = x → fX8_isIn p1 1 5 = x := fun x h => h
  have a2 : ∀ x, (if p2 < 1 then 0 else (if 4 < p2 then 0 else 1)) = x → fX8_isIn p2 1 4 = x := fun x h => h
  rcases team_c p0 with ⟨h1, h2⟩ | ⟨z, hz, rfl, h1, h2⟩
  · exact ⟨-2, ud, by rw [fX6_comeFault, fX6_comeFault_15, fX6_comeFault_32, if_pos h1], Or.inr (Or.inr (Or.inr ⟨by decide, rfl, by rw [fX8_comes, h2, if_pos rfl, fX8_comes_33, th1, Option.bind_some, if_neg n10]⟩))⟩
  · rcases rng_c (p := p1) (lo := 1) (hi := 5) (m := 5) rfl rfl with s0 | ⟨s, s1, s2, rfl, s3⟩
    · exact ⟨-2, ud, by rw [fX6_comeFault, fX6_comeFault_15, fX6_comeFault_32, h1, if_neg n10, show (if p1 < 1 then (0 : Int32) else (if 5 < p1 then 0 else 1)) = 0 from s0]; rfl, Or.inr (Or.inr (Or.inr ⟨by decide, rfl, by rw [fX8_comes, h2, if_neg n10, s0, if_pos rfl, fX8_comes_33, th1, Option.bind_some, if_neg n10]⟩))⟩
    · rcases rng_c (p := p2) (lo := 1) (hi := 4) (m := 4) rfl rfl with v0 | ⟨v, v1, v2, rfl, v3⟩
      · exact ⟨-2, ud, by rw [fX6_comeFault, fX6_comeFault_15, fX6_comeFault_32, h1, if_neg n10, show (if nI s < 1 then (0 : Int32) else (if 5 < nI s then 0 else 1)) = 1 from s3, show (if p2 < 1 then (0 : Int32) else (if 4 < p2 then 0 else 1)) = 0 from v0]; rfl, Or.inr (Or.inr (Or.inr ⟨by decide, rfl, by rw [fX8_comes, h2, if_neg n10, s3, if_neg n10, v0, if_pos rfl, fX8_comes_33, th1, Option.bind_some, if_neg n10]⟩))⟩
      · have cf : fX6_comeFault ud gw gk (nI z) (nI s) (nI v) = (if nI (cntF (pTm gw (nI z)) 0 n) < 5 then (fX1_firstCell gw gk (nI z)).bind fun q11 => if q11 = -1 then fX6_comeFault_102 gw gk (-1) ud else (fX1_whaleOn gw gk q11).bind fun q14 => fX6_comeFault_102 gw gk q14 ud else some (1, 5)) := by
          rw [fX6_comeFault, fX6_comeFault_15, fX6_comeFault_32, h1, if_neg n10, show (if nI s < 1 then (0 : Int32) else (if 5 < nI s then 0 else 1)) = 1 from s3, show (if nI v < 1 then (0 : Int32) else (if 4 < nI v then 0 else 1)) = 1 from v3, if_neg n10, if_neg n10, countOf_e hn h10, Option.bind_some]
          rfl
        have mf : fX8_comes 0 rea det ref ms (nI z) (nI s) (nI v) = (if 3 ≤ nI (cntF (pTm gw (nI z)) 0 n) then fX8_comes_76 (-1) (nI z) (nI s) (nI v) (nI (cntF (pTm gw (nI z)) 0 n)) 0 rea det ref ms else fX8_comes_66 (if nI z = 0 then 10 else 16) (nI z) (nI s) (nI v) (nI (cntF (pTm gw (nI z)) 0 n)) 0 rea det ref ms) := by
          rw [fX8_comes, h2, if_neg n10, s3, if_neg n10, v3, if_neg n10, fX8_comes_33, th0, Option.bind_some, if_pos rfl, ofTeam_e hR hn h10, Option.bind_some]
        have fc : fX1_firstCell gw gk (nI z) = (if nI (cntF (pTm gw (nI z)) 0 n) < 3 then some ((if nI z = 0 then 10 else 16) + nI (cntF (pTm gw (nI z)) 0 n) * 9) else some (-1)) := by
          rw [fX1_firstCell, countOf_e hn h10, Option.bind_some]; rfl
        have c5 : cntF (pTm gw (nI z)) 0 n ≤ 5 := by
          rcases (show z = 0 ∨ z = 1 by omega) with rfl | rfl
          · exact hV.2.1
          · exact hV.2.2.1
        have tw := two_n hV.2.2.2.1 n 0 (by omega)
        have q1 := hV.2.1
        have q2 := hV.2.2.1
        have n9 : cntF (pTm gw (nI z)) 0 n < 5 → n < 10 := by
          intro y
          rcases (show z = 0 ∨ z = 1 by omega) with rfl | rfl
          · have : cntF (pTm gw 0) 0 n < 5 := y
            omega
          · have : cntF (pTm gw 1) 0 n < 5 := y
            omega
        have done : cntF (pTm gw (nI z)) 0 n < 5 → ∀ cl : Int32, fX1_firstCell gw gk (nI z) = some cl → (cl = -1 ∨ (∃ c, c < 45 ∧ cl = nI c) ∧ ∀ i, i < n → gw (9 * i + 4) ≠ cl) → ∃ told gw' gk' ms', fX1_addWhale gw gk (nI z) (nI s) (nI v) = some (told, gw', gk') ∧ fX8_comes_126 0 (nI z) (nI s) (nI v) cl (-1) 0 rea det ref ms = some (told, 0, rea, det, ref, ms') ∧ Rg gw' gk' ms' ∧ Gb n told gw' gk' := by
          intro y cl hcl hfree
          have n9' := n9 y
          have R := Rg_k0 (Rg_w (Rg_w (Rg_w (Rg_w (Rg_w hR (j := 9 * n) (by omega) (nI z)) (j := 9 * n + 1) (by omega) (nI s)) (j := 9 * n + 2) (by omega) (nI v)) (j := 9 * n + 3) (by omega) 20) (j := 9 * n + 4) (by omega) cl) (nI (n + 1))
          refine ⟨nI n, upd (upd (upd (upd (upd gw (9 * n + 4) cl) (9 * n) (nI z)) (9 * n + 1) (nI s)) (9 * n + 2) (nI v)) (9 * n + 3) 20, upd gk 0 (nI (n + 1)), _, ?_, ?_, Rg_congr R (fun j hj => ?_) (fun j _ => rfl) (fun j _ => rfl), ⟨n + 1, t, b, Nat.le_succ n, ⟨⟨by omega, hV.1.2.1, hV.1.2.2.1, rfl, hV.1.2.2.2.2.1, hV.1.2.2.2.2.2⟩, Vs_new hV.2 n9' hz y ⟨s1, s2⟩ ⟨v1, v2⟩ hfree (fun j _ j0 j1 j2 j3 j4 => by rw [pk_un j3, pk_un j2, pk_un j1, pk_un j0, pk_un j4]) ?_ ?_ ?_ ?_ ?_⟩, Xn_new hX hz hV n9' (fc.symm.trans hcl)⟩, BD_nI (by omega)⟩
          · rw [fX1_addWhale, ct0, Option.bind_some, hcl, Option.bind_some, hn, set4 gw n9', Option.bind_some, set0 _ n9', Option.bind_some, set1 _ n9', Option.bind_some, set2 _ n9', Option.bind_some, set3 _ n9', Option.bind_some, ca0, Option.bind_some, hn, nI_1]
          · have m0 : ms 0 = nI n := hR.2.1.trans hn
            have g0 : upd (upd (upd (upd (upd ms (13 + 9 * n) (nI z)) (13 + 9 * n + 1) (nI s)) (13 + 9 * n + 2) (nI v)) (13 + 9 * n + 3) 20) (13 + 9 * n + 4) cl 0 = nI n := by
              rw [pk_un (by omega), pk_un (by omega), pk_un (by omega), pk_un (by omega), pk_un (by omega), m0]
            rw [fX8_comes_126, rf0, Option.bind_some, if_pos rfl, if_pos v103_0, cl_0, m0, mset0 ms n9', Option.bind_some, mset1 _ n9', Option.bind_some, mset2 _ n9', Option.bind_some, mset3 _ n9', Option.bind_some, mset4 _ n9', Option.bind_some, if_pos v103_0, if_pos v103_0, g0, nI_1]
            rfl
          · by_cases j4 : j = 9 * n + 4
            · rw [j4, pk_us, pk_un (by omega), pk_un (by omega), pk_un (by omega), pk_un (by omega), pk_us]
            · rw [pk_un j4]
              by_cases j3 : j = 9 * n + 3
              · rw [j3, pk_us, pk_us]
              · rw [pk_un j3, pk_un j3]
                by_cases j2 : j = 9 * n + 2
                · rw [j2, pk_us, pk_us]
                · rw [pk_un j2, pk_un j2]
                  by_cases j1 : j = 9 * n + 1
                  · rw [j1, pk_us, pk_us]
                  · rw [pk_un j1, pk_un j1]
                    by_cases j0 : j = 9 * n
                    · rw [j0, pk_us, pk_us]
                    · rw [pk_un j0, pk_un j0, pk_un j4]
          · rw [pk_un (by omega), pk_un (by omega), pk_un (by omega), pk_us]
          · rw [pk_un (by omega), pk_un (by omega), pk_us]
          · rw [pk_un (by omega), pk_us]
          · rw [pk_us]
          · rw [pk_un (by omega), pk_un (by omega), pk_un (by omega), pk_un (by omega), pk_us]
        generalize hm : cntF (pTm gw (nI z)) 0 n = m at *
        by_cases y5 : m = 5
        · subst y5
          exact ⟨1, 5, by rw [cf]; rfl, Or.inr (Or.inl ⟨⟨1, by omega, by omega, rfl⟩, by rw [mf]; rfl⟩)⟩
        · have l5 : nI m < 5 := nI_lt (b := 5) (by omega) (by omega)
          have ne5 : ¬ nI m = 5 := fun q => y5 ((nI_eq (b := 5) (by omega) (by omega)).mp q)
          by_cases y3 : m < 3
          · have l3 : nI m < 3 := nI_lt (b := 3) (by omega) (by omega)
            have nl3 : ¬ (3 : Int32) ≤ nI m := nI_ge (b := 3) (by omega) (by omega)
            obtain ⟨w1, w2⟩ := first_f z hz m y3
            have w3 : (if z = 0 then 10 else 16) + 9 * m < 45 := by split <;> omega
            generalize hc0 : (if z = 0 then 10 else 16) + 9 * m = c at w1 w2 w3
            rw [w1, if_pos l3] at fc
            have cf2 : fX6_comeFault ud gw gk (nI z) (nI s) (nI v) = fX6_comeFault_102 gw gk (fstF (pOn gw (nI c)) 0 n) ud := by
              rw [cf, if_pos l5, fc, Option.bind_some, if_neg (nm1 (by omega)), whaleOn_e hn h10, Option.bind_some]
            have mf2 : fX8_comes 0 rea det ref ms (nI z) (nI s) (nI v) = fX8_comes_126 (if fstF (pOn gw (nI c)) 0 n < 0 then 0 else 1) (nI z) (nI s) (nI v) (nI c) (fstF (pOn gw (nI c)) 0 n) 0 rea det ref ms := by
              rw [mf, if_neg nl3, fX8_comes_66, w2, fX8_comes_76, if_pos (nI_pos' (by omega)), whaleAt_e hR hn h10, Option.bind_some, fX8_comes_93, fX8_comes_107, if_neg ne5, rf0, Option.bind_some, if_pos rfl]
            rcases fst_spec (pOn gw (nI c)) n 0 with ⟨x1, x2⟩ | ⟨x, _, x1, x2, x3, _⟩
            · obtain ⟨told, gw', gk', ms', d1, d2, d3, d4⟩ := done (by omega) (nI c) fc (Or.inr ⟨⟨c, w3, rfl⟩, fun i hi q => by have := x2 i (by omega) (by omega); rw [pOn, q] at this; simp at this⟩)
              refine ⟨0, ud, ?_, Or.inl ⟨rfl, told, gw', gk', ms', d1, ?_, d3, d4⟩⟩
              · rw [cf2, x1, fX6_comeFault_102, if_pos rfl]
              · rw [mf2, x1, if_pos (show (-1 : Int32) < 0 from by decide)]; exact d2
            · refine ⟨7, nI x, ?_, Or.inr (Or.inl ⟨⟨7, by omega, by omega, rfl⟩, ?_⟩)⟩
              · rw [cf2, x3, fX6_comeFault_102, if_neg (nm1 (by omega))]; rfl
              · rw [mf2, x3, if_neg (nI_pos (by omega)), fX8_comes_126, rf1, Option.bind_some, if_neg n10]
          · have nl3 : ¬ nI m < 3 := nI_nlt (b := 3) (by omega) (by omega)
            have l3 : (3 : Int32) ≤ nI m := nI_le (a := 3) (by omega) (by omega)
            rw [if_neg nl3] at fc
            obtain ⟨told, gw', gk', ms', d1, d2, d3, d4⟩ := done (by omega) (-1) fc (Or.inl rfl)
            refine ⟨0, ud, ?_, Or.inl ⟨rfl, told, gw', gk', ms', d1, ?_, d3, d4⟩⟩
            · rw [cf, if_pos l5, fc, Option.bind_some, if_pos rfl, fX6_comeFault_102, if_pos rfl]
            · rw [mf, if_pos l3, fX8_comes_76, if_neg (show ¬ (0 : Int32) ≤ -1 from by decide), fX8_comes_93, fX8_comes_107, if_neg ne5, rf0, Option.bind_some, if_pos rfl, if_pos (show (-1 : Int32) < 0 from by decide)]; exact d2

