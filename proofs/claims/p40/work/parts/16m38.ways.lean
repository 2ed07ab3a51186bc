/-! the calls that ask how far, and swims -/
theorem no_wk {op : Nat → Bool} : ∀ k c, c < 45 → ¬ Wk op 45 k c := by
  intro k
  induction k with
  | zero => intro c hc w; rw [show c = 45 from w] at hc; omega
  | succ k ih => intro c hc w; obtain ⟨_, d, hd, _, wd⟩ := w; exact ih d hd wd
theorem snd_n {op : Nat → Bool} {M : Nat} {f : Nat → Int32} (h : Snd op 45 M f) {c : Nat} (hc : c < 45) : Nv f c = M := by
  obtain ⟨_, h2, h3⟩ := h c hc
  by_cases z : Nv f c < M
  · exact absurd (h3 z) (no_wk _ c hc)
  · omega
section BENCH
variable {op : Nat → Bool} {ro : Nat → Int32} {gw gk : Nat → Int32}
theorem spr_n (hro : ∀ c, c < 45 → ro c = if op c = true then 1 else 0) : ∀ (q j k : Nat) (g : Bool) (f : Nat → Int32), j + q = 45 → q + 1 < k → Snd op 45 1000 f → ∃ f', fX4_findBySpreading_13 gw gk k (if g = true then 1 else 0) (nI j) f ro = some (f', ro) ∧ Snd op 45 1000 f' := by
  intro q
  induction q with
  | zero =>
    intro j k g f h hk hS
    obtain ⟨k, rfl⟩ : ∃ q, k = q + 1 := ⟨k - 1, by omega⟩
    exact ⟨f, by rw [fX4_findBySpreading_13, if_pos (show (45 : Int32) ≤ nI j from nI_le (a := 45) (by omega) (by omega))], hS⟩
  | succ q ih =>
    intro j k g f h hk hS
    obtain ⟨k, rfl⟩ : ∃ q, k = q + 1 := ⟨k - 1, by omega⟩
    rw [fX4_findBySpreading_13, if_neg (show ¬ (45 : Int32) ≤ nI j from nI_ge (b := 45) (by omega) (by omega))]
    cases g with
    | false => exact ⟨f, rfl, hS⟩
    | true =>
      obtain ⟨f1, g1, a1, a2, _⟩ := spr_2 (s := 45) (gw := gw) (gk := gk) hro (show j < 45 by omega) (fX4_findBySpreading_13 gw gk k) 45 0 64 false f (by omega) (by omega) hS (fun c hc => Or.inr (snd_n hS hc))
      obtain ⟨f', b1, b2⟩ := ih (j + 1) k g1 f1 (by omega) (by omega) a2
      exact ⟨f', (show fX4_findBySpreading_28 gw gk (fX4_findBySpreading_13 gw gk k) 64 0 (nI j) 0 f ro = _ from a1).trans b1, b2⟩
theorem low_n (hro : ∀ c, c < 45 → ro c = if op c = true then 1 else 0) : ∀ (q j k : Nat) (g : Bool) (f : Nat → Int32), j + q = 45 → q + 1 < k → Snd op 45 1000 f → ∃ f', fX4_findByLowering_13 gw gk k (if g = true then 1 else 0) (nI j) f ro = some (f', ro) ∧ Snd op 45 1000 f' := by
  intro q
  induction q with
  | zero =>
    intro j k g f h hk hS
    obtain ⟨k, rfl⟩ : ∃ q, k = q + 1 := ⟨k - 1, by omega⟩
    exact ⟨f, by rw [fX4_findByLowering_13, if_pos (show (45 : Int32) ≤ nI j from nI_le (a := 45) (by omega) (by omega))], hS⟩
  | succ q ih =>
    intro j k g f h hk hS
    obtain ⟨k, rfl⟩ : ∃ q, k = q + 1 := ⟨k - 1, by omega⟩
    rw [fX4_findByLowering_13, if_neg (show ¬ (45 : Int32) ≤ nI j from nI_ge (b := 45) (by omega) (by omega))]
    cases g with
    | false => exact ⟨f, rfl, hS⟩
    | true =>
      obtain ⟨f1, g1, a1, a2, _⟩ := low_2 (s := 45) (gw := gw) (gk := gk) hro j (show j < 45 by omega) (fX4_findByLowering_13 gw gk k) 45 0 64 false f (by omega) (by omega) hS
      obtain ⟨f', b1, b2⟩ := ih (j + 1) k g1 f1 (by omega) (by omega) a2
      exact ⟨f', (show fX4_findByLowering_28 gw gk (fX4_findByLowering_13 gw gk k) 64 0 (nI j) 0 f ro = _ from a1).trans b1, b2⟩
end BENCH
section WAYS
variable {gw gk ms : Nat → Int32} {n t u b w s : Nat}
theorem way_sn (hV : Vg gw gk n t u b) (hw : w < n) (cs : gw (9 * w + 4) = -1) (rs ro : Nat → Int32) : ∃ f ro', fX4_findBySpreading gw gk rs ro (nI w) = some (f, ro') ∧ ∀ c, c < 45 → f c = 1000 := by
  obtain ⟨ro', F, b1, b2, b3⟩ := begin_e hV hw ro rs
  have hF : ∀ c, c < 45 → F c = 1000 := fun c hc => by
    rw [b3 c hc, cs, if_neg (fun q => nm1 (c := c) (by omega) q.symm)]
  have i1 : Snd (opB gw n t) 45 1000 F := fun c hc => by
    have e : Nv F c = 1000 := by rw [Nv, hF c hc]; rfl
    exact ⟨by rw [e, hF c hc]; rfl, by omega, fun q => absurd q (by omega)⟩
  obtain ⟨f, c1, c2⟩ := spr_n (gw := gw) (gk := gk) b2 45 0 64 true F (by omega) (by omega) i1
  refine ⟨f, ro', ?_, fun c hc => ?_⟩
  · rw [fX4_findBySpreading, b1, Option.bind_some]; exact c1
  · rw [(c2 c hc).1, snd_n c2 hc]; rfl
theorem way_ln (hV : Vg gw gk n t u b) (hw : w < n) (cs : gw (9 * w + 4) = -1) (rl ro : Nat → Int32) : ∃ f ro', fX4_findByLowering gw gk rl ro (nI w) = some (f, ro') ∧ ∀ c, c < 45 → f c = 1000 := by
  obtain ⟨ro', F, b1, b2, b3⟩ := begin_e hV hw ro rl
  have hF : ∀ c, c < 45 → F c = 1000 := fun c hc => by
    rw [b3 c hc, cs, if_neg (fun q => nm1 (c := c) (by omega) q.symm)]
  have i1 : Snd (opB gw n t) 45 1000 F := fun c hc => by
    have e : Nv F c = 1000 := by rw [Nv, hF c hc]; rfl
    exact ⟨by rw [e, hF c hc]; rfl, by omega, fun q => absurd q (by omega)⟩
  obtain ⟨f, c1, c2⟩ := low_n (gw := gw) (gk := gk) b2 45 0 64 true F (by omega) (by omega) i1
  refine ⟨f, ro', ?_, fun c hc => ?_⟩
  · rw [fX4_findByLowering, b1, Option.bind_some]; exact c1
  · rw [(c2 c hc).1, snd_n c2 hc]; rfl
end WAYS
theorem to_1000 {f : Nat → Int32} {c : Nat} (hc : c < 45) (h : f c = 1000) : fX4_spreadTo f (nI c) = some (-1) ∧ fX4_loweredTo f (nI c) = some (-1) := by
  constructor
  · rw [fX4_spreadTo, isCell_n hc, if_neg n10, if_pos (e_vin (by omega) (by omega)), nI_clamp (by omega), h]; rfl
  · rw [fX4_loweredTo, isCell_n hc, if_neg n10, if_pos (e_vin (by omega) (by omega)), nI_clamp (by omega), h]; rfl
theorem to_v {f : Nat → Int32} {c v : Nat} (hc : c < 45) (hv : v ≤ 44) (h : f c = nI v) : fX4_spreadTo f (nI c) = some (nI v) ∧ fX4_loweredTo f (nI c) = some (nI v) := by
  have z : ¬ (1000 : Int32) ≤ nI v := nI_ge (b := 1000) (by omega) (by omega)
  constructor
  · rw [fX4_spreadTo, isCell_n hc, if_neg n10, if_pos (e_vin (by omega) (by omega)), nI_clamp (by omega), h, if_neg z, if_pos (e_vin (by omega) (by omega))]
  · rw [fX4_loweredTo, isCell_n hc, if_neg n10, if_pos (e_vin (by omega) (by omega)), nI_clamp (by omega), h, if_neg z, if_pos (e_vin (by omega) (by omega))]
/-- class's row and reference's row at a cell -/
theorem far_2 {gw f g : Nat → Int32} {n t s M c : Nat} (hs : s < 45) (hM : M = 1000 ∨ M = 99) (hf : Far gw n t s 1000 f) (hg : Far gw n t s M g) (hc : c < 45) : (∃ v, v ≤ 44 ∧ f c = nI v ∧ g c = nI v) ∨ (f c = 1000 ∧ g c = nI M) := by
  rcases same_e hs (by omega) (by omega) hf.1 hf.2 hg.1 hg.2 hc with ⟨z1, z2⟩ | ⟨z1, z2⟩
  · exact Or.inl ⟨Nv f c, z1, (hf.1 c hc).1, by rw [(hg.1 c hc).1, z2]⟩
  · exact Or.inr ⟨by rw [(hf.1 c hc).1, z1]; rfl, by rw [(hg.1 c hc).1, z2]⟩
theorem dem_c {p v : Int32} (h : fX7_isCell p = v) : fX7_demandCell p = some (if v = 0 then 3 else 0) := by
  rw [fX7_demandCell, h]; split <;> rfl
def cR (f : Nat → Int32) (m c : Nat) : Bool := decide (0 < Nv f c ∧ Nv f c ≤ m)
theorem within_c {f : Nat → Int32} {m : Nat} (hm : m < 50) (hf : ∀ c, c < 45 → f c = nI (Nv f c) ∧ Nv f c ≤ 1000) : ∀ (j i k a : Nat), i + j = 45 → j < k → fX4_countWithin_4 f k (nI m) (nI a) (nI i) = some (nI (a + cntF (cR f m) i j)) := by
  intro j
  induction j with
  | zero =>
    intro i k a h hk
    obtain ⟨k, rfl⟩ : ∃ q, k = q + 1 := ⟨k - 1, by omega⟩
    rw [fX4_countWithin_4, if_pos (show (45 : Int32) ≤ nI i from nI_le (a := 45) (by omega) (by omega))]
    rfl
  | succ j ih =>
    intro i k a h hk
    obtain ⟨k, rfl⟩ : ∃ q, k = q + 1 := ⟨k - 1, by omega⟩
    obtain ⟨f1, f2⟩ := hf i (by omega)
    have ih0 := ih (i + 1) k a (by omega) (by omega)
    have ih1 := ih (i + 1) k (a + 1) (by omega) (by omega)
    rw [fX4_countWithin_4, if_neg (show ¬ (45 : Int32) ≤ nI i from nI_ge (b := 45) (by omega) (by omega)), if_pos (e_vin (by omega) (by omega)), if_pos (e_vin (by omega) (by omega)), nI_clamp (by omega), fX4_countWithin_38, fX4_countWithin_38, nI_1 i, Int32.add_zero, ih0, cntF, cR, f1]
    by_cases z : Nv f i = 0
    · rw [z, if_pos (show nI 0 ≤ 0 from by decide)]; simp
    · rw [if_neg (nI_nle (by omega) (by omega))]
      by_cases y : m < Nv f i
      · rw [if_pos (nI_lt y (by omega)), Int32.add_zero, ih0, if_neg (by simp; omega), Nat.zero_add]
      · rw [if_neg (nI_nlt (by omega) (by omega)), nI_1 a, ih1, if_pos (by simp; omega), Nat.add_assoc]
theorem within_m {gw gk ms g : Nat → Int32} {n t u b w : Nat} (hR : Rg gw gk ms) (hV : Vg gw gk n t u b) (hw : w < n) {m : Nat} (hm : fX8_lesser (gw (9 * w + 2)) (gw (9 * w + 3)) = nI m) (hm5 : m < 50) (hf : ∀ c, c < 45 → g c = nI (Nv g c) ∧ Nv g c ≤ 1000) : ∀ (j i k a : Nat), i + j = 45 → j < k → fX8_reach_60 ms k (nI w) (nI a) (nI i) 0 g = some (nI (a + cntF (cR g m) i j), 0, g) := by
  have h10 := hV.1.1
  obtain ⟨_, em⟩ := e_ms hR (i := w) (by omega)
  intro j
  induction j with
  | zero =>
    intro i k a h hk
    obtain ⟨k, rfl⟩ : ∃ q, k = q + 1 := ⟨k - 1, by omega⟩
    rw [fX8_reach_60, if_pos (show (45 : Int32) ≤ nI i from nI_le (a := 45) (by omega) (by omega))]
    rfl
  | succ j ih =>
    intro i k a h hk
    obtain ⟨k, rfl⟩ : ∃ q, k = q + 1 := ⟨k - 1, by omega⟩
    obtain ⟨f1, f2⟩ := hf i (by omega)
    have ih0 := ih (i + 1) k a (by omega) (by omega)
    have ih1 := ih (i + 1) k (a + 1) (by omega) (by omega)
    rw [fX8_reach_60, if_neg (show ¬ (45 : Int32) ≤ nI i from nI_ge (b := 45) (by omega) (by omega)), if_pos (e_vin (by omega) (by omega)), if_pos (e_vin (by omega) (by omega)), nI_clamp (by omega), mof2 ms (by omega), Option.bind_some, mof3 ms (by omega), Option.bind_some, em 2 (by omega), em 3 (by omega), hm, fX8_reach_105, fX8_reach_105, nI_1 i, Int32.add_zero, ih0, cntF, cR, f1]
    by_cases z : Nv g i = 0
    · rw [z, if_pos (show nI 0 ≤ 0 from by decide)]; simp
    · rw [if_neg (nI_nle (by omega) (by omega))]
      by_cases y : m < Nv g i
      · rw [if_pos (nI_lt y (by omega)), Int32.add_zero, ih0, if_neg (by simp; omega), Nat.zero_add]
      · rw [if_neg (nI_nlt (by omega) (by omega)), nI_1 a, ih1, if_pos (by simp; omega), Nat.add_assoc]
theorem strand_c {gw gk : Nat → Int32} {n t u b w s : Nat} (hV : Vg gw gk n t u b) (hw : w < n) (hs : s < 45) (q : gw (9 * w + 4) = nI s) : fX1_isStranded gw gk (nI w) = some (fX8_isDryAt (nI s) (nI t)) := by
  have h10 := hV.1.1
  rw [fX1_isStranded, of4 gw (by omega), Option.bind_some, q, if_neg (nm1 (by omega)), dry_c hs hV.1.2.1 hV.1.2.2.2.2.1, Option.bind_some]
  rcases (dry_f s hs t (by have := hV.1.2.1; omega)).2.2 with z | z <;> rw [z] <;> rfl
theorem strand_m {gw gk ms : Nat → Int32} {n t u b w s : Nat} (hR : Rg gw gk ms) (hV : Vg gw gk n t u b) (hw : w < n) (hs : s < 45) (q : gw (9 * w + 4) = nI s) : fX8_isStrandedNow ms (nI w) = some (fX8_isDryAt (nI s) (nI t)) := by
  have h10 := hV.1.1
  rw [fX8_isStrandedNow, mof4 ms (by omega), Option.bind_some, Option.bind_some, (e_ms hR (i := w) (by omega)).2 4 (by omega), q, if_neg (nI_pos (by omega)), dry_m hR hs hV.1.2.1 hV.1.2.2.2.2.1, Option.bind_some]
  rcases (dry_f s hs t (by have := hV.1.2.1; omega)).2.2 with z | z <;> rw [z] <;> rfl
theorem q_reach {gw gk ms : Nat → Int32} {n t u b : Nat} (thr p : Int32) (rs ro mf : Nat → Int32) (hR : Rg gw gk ms) (hV : Vg gw gk n t u b) : ∃ q r, fX7_reach gw gk rs ro p = some q ∧ fX8_reach thr ms mf p = some r ∧ (q.1 = 0 ∨ q.1 = 3) ∧ r.2.1 = lcode [3] q.1 ∧ (q.1 = 0 → r.1 = q.2.1) := by
  have h10 := hV.1.1
  have h48 := hV.1.2.1
  rcases whale_c hR hV.1.2.2.2.1 hV.1.1 p with ⟨h1, h2⟩ | ⟨w, hw, rfl, h1, h2⟩
  · exact ⟨(3, 0, rs, ro), (0, 1, mf), by rw [fX7_reach, dem_w h1]; rfl, by rw [fX8_reach, h2]; rfl, Or.inr rfl, rfl, fun h => absurd h (show ¬ (3 : Nat) = 0 by decide)⟩
  · obtain ⟨_, em⟩ := e_ms hR (i := w) (by omega)
    have m1 : ms 1 = nI t := hR.2.2.1.trans hV.1.2.2.2.2.1
    have e2 : fX8_reach thr ms mf (nI w) = fX8_reach_14 ms 0 (nI w) thr mf := by rw [fX8_reach, h2, Option.bind_some, if_neg n10]
    rcases (hV.2.2.2.1 w hw).2.2.2.2.1 with ⟨q, _⟩ | ⟨s, hs, q⟩
    · refine ⟨(0, 0, rs, ro), (0, 0, mf), ?_, ?_, Or.inl rfl, rfl, fun _ => rfl⟩
      · rw [fX7_reach, dem_w h1, Option.bind_some, if_neg n10, if_pos rfl, over_c hV, Option.bind_some, bench_c gw (by omega), Option.bind_some, if_pos q, if_pos rfl]
        split <;> rfl
      · rw [e2, fX8_reach_14, th0, Option.bind_some, if_pos rfl, mof4 ms (by omega), Option.bind_some, em 4 (by omega), q, if_pos (show (-1 : Int32) < 0 from by decide)]
    · have ce : fX7_reach gw gk rs ro (nI w) = (if t = 48 then some (0, 0, rs, ro) else if fX8_isDryAt (nI s) (nI t) = 0 then ((fX4_findBySpreading gw gk rs ro (nI w)).bind fun q12 => (fX4_countWithin q12.1 (if gw (9 * w + 3) < gw (9 * w + 2) then gw (9 * w + 3) else gw (9 * w + 2))).bind fun q18 => some (0, q18, q12.1, q12.2)) else some (0, 0, rs, ro)) := by
        rw [fX7_reach, dem_w h1, Option.bind_some, if_neg n10, if_pos rfl, over_c hV, Option.bind_some]
        by_cases z : t = 48
        · rw [if_pos z, if_pos z, if_neg n10]
        · rw [if_neg z, if_neg z, if_pos rfl, bench_c gw (by omega), Option.bind_some, if_neg (show ¬ gw (9 * w + 4) = -1 by rw [q]; exact nm1 (by omega)), if_neg n10, strand_c hV hw hs q, Option.bind_some, of2 gw (by omega), of3 gw (by omega)]
          rfl
      have me : fX8_reach thr ms mf (nI w) = (if fX8_isDryAt (nI s) (nI t) = 0 then (if t = 48 then some (0, 0, mf) else (fX8_finds ms mf (nI w)).bind fun q15 => fX8_reach_60 ms 64 (nI w) 0 0 0 q15) else some (0, 0, mf)) := by
        rw [e2, fX8_reach_14, th0, Option.bind_some, if_pos rfl, mof4 ms (by omega), Option.bind_some, em 4 (by omega), q, if_neg (nI_pos (by omega)), strand_m hR hV hw hs q, Option.bind_some, if_pos v103_1, cl_1, m1]
        by_cases z : t = 48
        · subst z; rfl
        · rw [if_neg (show ¬ nI t = (48 : Int32) from fun q => z ((nI_eq (b := 48) (by omega) (by omega)).mp q)), if_neg z]
      rw [ce, me]
      by_cases z : t = 48
      · rw [if_pos z, if_pos z]
        exact ⟨(0, 0, rs, ro), (0, 0, mf), rfl, by split <;> rfl, Or.inl rfl, rfl, fun _ => rfl⟩
      · rw [if_neg z, if_neg z]
        by_cases y : fX8_isDryAt (nI s) (nI t) = 0
        · rw [if_pos y, if_pos y]
          obtain ⟨f, ro', a1, a2⟩ := way_s hV hw hs q rs ro
          obtain ⟨g, b1, b2⟩ := way_m hR hV hw hs q mf
          obtain ⟨_, _, ⟨v, v1, v2, v3⟩, ⟨x, x1, x2⟩, _⟩ := hV.2.2.2.1 w hw
          have mn : (if gw (9 * w + 3) < gw (9 * w + 2) then gw (9 * w + 3) else gw (9 * w + 2)) = nI (min v x) := by
            rw [v3, x2]
            by_cases l : x < v
            · rw [if_pos (nI_lt l (by omega)), show min v x = x from by omega]
            · rw [if_neg (nI_nlt (by omega) (by omega)), show min v x = v from by omega]
          have mn2 : fX8_lesser (gw (9 * w + 2)) (gw (9 * w + 3)) = nI (min v x) := by
            rw [v3, x2, fX8_lesser]
            by_cases l : x ≤ v
            · rw [if_pos (nI_le l (by omega)), show min v x = x from by omega]
            · rw [if_neg (nI_ge (by omega) (by omega)), show min v x = v from by omega]
          have c1 := within_c (f := f) (m := min v x) (by omega) (fun c hc => ⟨(a2.1 c hc).1, (a2.1 c hc).2.1⟩) 45 0 64 0 (by omega) (by omega)
          have c2 := within_m hR hV hw (g := g) mn2 (by omega) (fun c hc => ⟨(b2.1 c hc).1, by have := (b2.1 c hc).2.1; omega⟩) 45 0 64 0 (by omega) (by omega)
          have ce : cntF (cR f (min v x)) 0 45 = cntF (cR g (min v x)) 0 45 := cnt_congr 45 0 (fun k _ hk => by
            rcases same_e hs (by omega) (by omega) a2.1 a2.2 b2.1 b2.2 (show k < 45 by omega) with ⟨z1, z2⟩ | ⟨z1, z2⟩
            · rw [cR, cR, z2]
            · rw [cR, cR, z1, z2]
              have h1 : ¬ (0 < 1000 ∧ 1000 ≤ min v x) := by omega
              have h2 : ¬ (0 < 99 ∧ 99 ≤ min v x) := by omega
              rw [decide_eq_false h1, decide_eq_false h2])
          refine ⟨(0, nI (0 + cntF (cR f (min v x)) 0 45), f, ro'), (nI (0 + cntF (cR f (min v x)) 0 45), 0, g), ?_, ?_, Or.inl rfl, rfl, fun _ => rfl⟩
          · rw [a1, Option.bind_some, mn, show fX4_countWithin f (nI (min v x)) = _ from c1]; rfl
          · rw [b1, Option.bind_some, ce]; exact c2
        · rw [if_neg y, if_neg y]
          exact ⟨(0, 0, rs, ro), (0, 0, mf), rfl, rfl, Or.inl rfl, rfl, fun _ => rfl⟩
theorem sx_reach : St_reach Inv := by
  intro f_net u_det t_len t_cur t_kin t_tol t_don n_len h_old h_siz x_sav x_err x_rea x_det x_com v_gw v_gk v_bw v_bk v_vw v_vk v_h0w v_h0k v_h1w v_h1k v_h2w v_h2k v_h3w v_h3k v_h4w v_h4k v_h5w v_h5k v_rs v_rl v_ro v_ti v_tn v_ns m_chg m_thr m_rea m_det m_ref m_err m_ans m_sav m_net m_lin m_tap m_her m_cmd v_ms v_mw v_mv v_mp v_mf v_ml v_mt v_mc hI p0
  obtain ⟨n, t, b, hV, hX⟩ := hI.2.1
  obtain ⟨q, r, h0, h1, h2, h3, h4⟩ := q_reach m_thr p0 v_rs v_ro v_mf hI.1 hV
  exact ⟨q, r, h0, h1, h2, h3, h4, hI⟩

