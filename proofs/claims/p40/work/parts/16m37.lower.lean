/-! lowering, and the sweeps of the reference -/
section LOW
variable {op : Nat → Bool} {s : Nat} {ro : Nat → Int32}
theorem low_1 {c : Nat} (hc : c < 45) (ho : op c = true) : ∀ (q w k : Nat) (g : Bool) (f : Nat → Int32), w + q = 4 → q < k → Snd op s 1000 f → ∃ f' g', fX4_lowerAt_4 k (nI c) (if g = true then 1 else 0) (nI w) f = some (if g' = true then 1 else 0, f') ∧ Snd op s 1000 f' ∧ Lef f' f ∧ (g = true → g' = true) ∧ (g' = false → f' = f) ∧ (∀ x, x ≠ c → f' x = f x) ∧ (∀ v d, w ≤ v → v < 4 → d < 45 → fX8_next (nI c) (nI v) = nI d → Nv f' c ≤ Nv f d + 1) := by
  intro q
  induction q with
  | zero =>
    intro w k g f h hk hS
    obtain ⟨k, rfl⟩ : ∃ q, k = q + 1 := ⟨k - 1, by omega⟩
    refine ⟨f, g, ?_, hS, fun c _ => Nat.le_refl _, fun z => z, fun _ => rfl, fun x _ => rfl, fun v d h1 h2 => absurd h1 (by omega)⟩
    rw [fX4_lowerAt_4, if_pos (show (4 : Int32) ≤ nI w from nI_le (a := 4) (by omega) (by omega))]
    cases g <;> rfl
  | succ q ih =>
    intro w k g f h hk hS
    obtain ⟨k, rfl⟩ : ∃ q, k = q + 1 := ⟨k - 1, by omega⟩
    have w4 : w < 4 := by omega
    rw [fX4_lowerAt_4, if_neg (show ¬ (4 : Int32) ≤ nI w from nI_ge (b := 4) (by omega) (by omega)), isCell_n hc, if_neg n10]
    rcases nxc hc w4 with ⟨z, z2⟩ | ⟨d, hd, z, z2⟩
    · obtain ⟨f', g', i1, i2, i3, i5, i6, i7, i8⟩ := ih (w + 1) k g f (by omega) (by omega) hS
      refine ⟨f', g', ?_, i2, i3, i5, i6, i7, fun v d h1 h2 hd e => ?_⟩
      · rw [z2, if_pos (show fX7_isCell (-1) = 0 from rfl), fX4_lowerAt_66, nI_1]; exact i1
      · by_cases y : v = w
        · rw [y, z] at e; exact absurd e.symm (nm1 (by omega))
        · exact i8 v d (by omega) h2 hd e
    · obtain ⟨s1, s2, s3⟩ := hS c hc
      obtain ⟨t1, t2, t3⟩ := hS d hd
      have dc : d ≠ c := by
        intro x
        have zz : ∀ c, c < 45 → ∀ w, w < 4 → ¬ fX8_next (nI c) (nI w) = nI c := by decide +kernel
        rw [x] at z
        exact zz c hc w w4 z
      rw [z2, isCell_n hd, if_neg n10, if_pos (e_vin (by omega) (by omega)), if_pos (e_vin (by omega) (by omega)), nI_clamp (by omega), nI_clamp (by omega), t1, nI_1]
      by_cases y : Nv f c ≤ Nv f d + 1
      · obtain ⟨f', g', i1, i2, i3, i5, i6, i7, i8⟩ := ih (w + 1) k g f (by omega) (by omega) hS
        refine ⟨f', g', ?_, i2, i3, i5, i6, i7, fun v x h1 h2 hx e => ?_⟩
        · rw [if_pos (show f c ≤ nI (Nv f d + 1) by rw [s1]; exact nI_le y (by omega)), fX4_lowerAt_66, nI_1]; exact i1
        · by_cases v2 : v = w
          · rw [v2, z] at e
            have : d = x := (nI_eq (by omega) (by omega)).mp e
            subst this
            have := i3 c hc
            omega
          · exact i8 v x (by omega) h2 hx e
      · have wc : Wk op s (Nv f d + 1) c := ⟨ho, d, hd, ed_sym c hc d hd ⟨w, w4, z⟩, t3 (by omega)⟩
        have S1 := Snd_u hS (by omega) (v := Nv f d + 1) (by omega) wc
        obtain ⟨f', g', i1, i2, i3, i5, i6, i7, i8⟩ := ih (w + 1) k true (upd f c (nI (Nv f d + 1))) (by omega) (by omega) S1
        have g1 : g' = true := i5 rfl
        have fc := i3 c hc
        rw [Nv_u (by omega), if_pos rfl] at fc
        refine ⟨f', g', ?_, i2, fun x hx => ?_, fun _ => g1, fun v => by rw [g1] at v; exact absurd v (by decide), fun x hx => by rw [i7 x hx, pk_un hx], fun v x h1 h2 hx e => ?_⟩
        · rw [if_neg (show ¬ f c ≤ nI (Nv f d + 1) by rw [s1]; exact nI_ge (by omega) (by omega)), if_pos (e_vin (by omega) (by omega)), if_pos (e_vin (by omega) (by omega)), fX4_lowerAt_66, nI_1]; exact i1
        · have a := i3 x hx
          rw [Nv_u (by omega)] at a
          by_cases v : x = c
          · rw [if_pos v] at a; rw [v] at a ⊢; omega
          · rw [if_neg v] at a; exact a
        · by_cases v2 : v = w
          · rw [v2, z] at e
            have : d = x := (nI_eq (by omega) (by omega)).mp e
            subst this
            exact fc
          · have a := i8 v x (by omega) h2 hx e
            rw [Nv_u (f := f) (by omega)] at a
            by_cases v3 : x = c
            · rw [if_pos v3] at a; rw [v3]; omega
            · rw [if_neg v3] at a; exact a
theorem low_2 {gw gk : Nat → Int32} (hro : ∀ c, c < 45 → ro c = if op c = true then 1 else 0) (j : Nat) (hj : j < 45) (rec13 : Int32 → Int32 → (Nat → Int32) → (Nat → Int32) → Option ((Nat → Int32) × (Nat → Int32))) : ∀ (q i k : Nat) (g : Bool) (f : Nat → Int32), i + q = 45 → q < k → Snd op s 1000 f → ∃ f' g', fX4_findByLowering_28 gw gk rec13 k (if g = true then 1 else 0) (nI j) (nI i) f ro = rec13 (if g' = true then 1 else 0) (nI (j + 1)) f' ro ∧ Snd op s 1000 f' ∧ Lef f' f ∧ (g = true → g' = true) ∧ (g' = false → f' = f) ∧ (∀ c v d, i ≤ c → c < 45 → v < 4 → d < 45 → fX8_next (nI c) (nI v) = nI d → op c = true → Nv f' c ≤ Nv f d + 1) := by
  intro q
  induction q with
  | zero =>
    intro i k g f h hk hS
    obtain ⟨k, rfl⟩ : ∃ q, k = q + 1 := ⟨k - 1, by omega⟩
    refine ⟨f, g, ?_, hS, fun c _ => Nat.le_refl _, fun z => z, fun _ => rfl, fun d v c h1 h2 => absurd h1 (by omega)⟩
    rw [fX4_findByLowering_28, if_pos (show (45 : Int32) ≤ nI i from nI_le (a := 45) (by omega) (by omega)), nI_1]
  | succ q ih =>
    intro i k g f h hk hS
    obtain ⟨k, rfl⟩ : ∃ q, k = q + 1 := ⟨k - 1, by omega⟩
    have hi : i < 45 := by omega
    rw [fX4_findByLowering_28, if_neg (show ¬ (45 : Int32) ≤ nI i from nI_ge (b := 45) (by omega) (by omega)), if_pos (e_vin (by omega) (by omega)), nI_clamp (by omega), hro i hi]
    by_cases ho : op i = true
    · obtain ⟨f1, g1, a1, a2, a3, a5, a6, a7, a8⟩ := low_1 (s := s) hi ho 4 0 64 false f (by omega) (by omega) hS
      obtain ⟨f', g', i1, i2, i3, i5, i6, i7⟩ := ih (i + 1) k (g || g1) f1 (by omega) (by omega) a2
      refine ⟨f', g', ?_, i2, fun c hc => Nat.le_trans (i3 c hc) (a3 c hc), fun z => i5 (by rw [z]; rfl), fun z => ?_, fun c v d h1 h2 h4 hd e ho2 => ?_⟩
      · rw [if_pos ho, if_neg n10, show fX4_lowerAt f (nI i) = _ from a1, Option.bind_some, fX4_findByLowering_59, nI_1, ← i1]
        cases g <;> cases g1 <;> rfl
      · have gg : (g || g1) = false := by
          cases hg : (g || g1)
          · rfl
          · rw [i5 hg] at z; exact absurd z (by decide)
        have g1f : g1 = false := by cases g <;> cases g1 <;> simp at gg ⊢
        rw [i6 z, a6 g1f]
      · by_cases x : c = i
        · subst x
          have := a8 v d (Nat.zero_le _) h4 hd e
          have := i3 c h2
          omega
        · have a := i7 c v d (by omega) h2 h4 hd e ho2
          have := a3 d hd
          omega
    · obtain ⟨f', g', i1, i2, i3, i5, i6, i7⟩ := ih (i + 1) k g f (by omega) (by omega) hS
      refine ⟨f', g', ?_, i2, i3, i5, i6, fun c v d h1 h2 h4 hd e ho2 => ?_⟩
      · rw [if_neg ho, if_pos rfl, fX4_findByLowering_59, nI_1]
        exact i1
      · by_cases x : c = i
        · rw [x] at ho2; exact absurd ho2 ho
        · exact i7 c v d (by omega) h2 h4 hd e ho2
theorem low_3 {gw gk : Nat → Int32} (hs : s < 45) (hro : ∀ c, c < 45 → ro c = if op c = true then 1 else 0) : ∀ (q j k : Nat) (f : Nat → Int32), j + q = 45 → q + 1 < k → Snd op s 1000 f → Nv f s = 0 → Up op s j f → ∃ f', fX4_findByLowering_13 gw gk k 1 (nI j) f ro = some (f', ro) ∧ Snd op s 1000 f' ∧ Up op s 44 f' := by
  intro q
  induction q with
  | zero =>
    intro j k f h hk hS h0 hu
    obtain ⟨k, rfl⟩ : ∃ q, k = q + 1 := ⟨k - 1, by omega⟩
    refine ⟨f, ?_, hS, fun x c hx hc w => hu x c (by omega) hc w⟩
    rw [fX4_findByLowering_13, if_pos (show (45 : Int32) ≤ nI j from nI_le (a := 45) (by omega) (by omega))]
  | succ q ih =>
    intro j k f h hk hS h0 hu
    obtain ⟨k, rfl⟩ : ∃ q, k = q + 1 := ⟨k - 1, by omega⟩
    have hj : j < 45 := by omega
    obtain ⟨f1, g1, a1, a2, a3, a5, a6, a7⟩ := low_2 (s := s) (gw := gw) (gk := gk) hro j hj (fX4_findByLowering_13 gw gk k) 45 0 64 false f (by omega) (by omega) hS
    have near1 : ∀ d c, d < 45 → c < 45 → Ed d c → op c = true → Nv f1 c ≤ Nv f d + 1 := by
      intro d c hd hc ed ho
      obtain ⟨w, w4, e⟩ := ed_sym d hd c hc ed
      exact a7 c w d (Nat.zero_le _) hc w4 hd e ho
    have head : fX4_findByLowering_13 gw gk (k + 1) 1 (nI j) f ro = fX4_findByLowering_13 gw gk k (if g1 = true then 1 else 0) (nI (j + 1)) f1 ro := by
      rw [fX4_findByLowering_13, if_neg (show ¬ (45 : Int32) ≤ nI j from nI_ge (b := 45) (by omega) (by omega)), if_neg n10, ← a1]
      rfl
    have z1 : Nv f1 s = 0 := by have := a3 s hs; omega
    cases g1 with
    | false =>
      have e := a6 rfl
      refine ⟨f1, ?_, a2, ?_⟩
      · rw [head]
        obtain ⟨k, rfl⟩ : ∃ q, k = q + 1 := ⟨k - 1, by omega⟩
        rw [fX4_findByLowering_13]
        split
        · rfl
        · rfl
      · intro x c hx hc w
        refine clo_up (M := 1000) z1 (fun d c hd hc lt ed ho => ?_) x c (by omega) hc w
        have e2 : Nv f1 d = Nv f d := by rw [e]
        have := near1 d c hd hc ed ho
        omega
    | true =>
      obtain ⟨f', b1, b2, b3⟩ := ih (j + 1) k f1 (by omega) (by omega) a2 z1 (fun x c hx hc w => by
        by_cases y : x = j + 1
        · subst y
          obtain ⟨ho, d, hd, ed, wd⟩ := w
          have h1 := hu j d (Nat.le_refl _) hd wd
          have := near1 d c hd hc ed ho
          omega
        · have := hu x c (by omega) hc w
          have := a3 c hc
          omega)
      exact ⟨f', by rw [head]; exact b1, b2, b3⟩
end LOW
section FND
variable {gw gk ms : Nat → Int32} {n t u b s : Nat}
theorem pair_f : ∀ p, p < 180 → nI p / 4 = nI (p / 4) ∧ nI p - nI p / 4 * 4 = nI (p % 4) := by decide +kernel
/-- a sweep of the reference over all cells and ways -/
theorem fnd_1 (hR : Rg gw gk ms) (hV : Vg gw gk n t u b) (rec : Int32 → (Nat → Int32) → Option (Nat → Int32)) : ∀ (q p k : Nat) (g : Bool) (f : Nat → Int32), p + q = 180 → q < k → Snd (opB gw n t) s 99 f → ∃ f' g', fX8_finds_46 ms rec k (if g = true then 1 else 0) (nI p) f = rec (if g' = true then 1 else 0) f' ∧ Snd (opB gw n t) s 99 f' ∧ Lef f' f ∧ (g' = false → f' = f) ∧ (g' = true → g = true ∨ ∃ c, c < 45 ∧ Nv f' c < Nv f c) ∧ (∀ d v c, p ≤ 4 * d + v → d < 45 → v < 4 → c < 45 → fX8_next (nI d) (nI v) = nI c → opB gw n t c = true → Nv f' c ≤ Nv f d + 1) ∧ (g = true → g' = true) := by
  have h10 := hV.1.1
  intro q
  induction q with
  | zero =>
    intro p k g f h hk hS
    obtain ⟨k, rfl⟩ : ∃ q, k = q + 1 := ⟨k - 1, by omega⟩
    refine ⟨f, g, ?_, hS, fun c _ => Nat.le_refl _, fun _ => rfl, fun z => Or.inl z, fun d v c h1 h2 h3 => absurd h1 (by omega), fun z => z⟩
    rw [fX8_finds_46, if_pos (show (180 : Int32) ≤ nI p from nI_le (a := 180) (by omega) (by omega))]
  | succ q ih =>
    intro p k g f h hk hS
    obtain ⟨k, rfl⟩ : ∃ q, k = q + 1 := ⟨k - 1, by omega⟩
    have hd : p / 4 < 45 := by omega
    have hw : p % 4 < 4 := Nat.mod_lt _ (by decide)
    obtain ⟨e1, e2⟩ := pair_f p (by omega)
    obtain ⟨t1, t2, t3⟩ := hS (p / 4) hd
    have pe : p = 4 * (p / 4) + p % 4 := by omega
    have zero : ∀ l4 l5 : Int32, fX8_finds_115 ms rec (fX8_finds_46 ms rec k) 0 (if g = true then 1 else 0) (nI p) l4 l5 f = fX8_finds_46 ms rec k (if g = true then 1 else 0) (nI (p + 1)) f := fun l4 l5 => by
      rw [fX8_finds_115, if_pos rfl, fX8_finds_140, nI_1]
    -- what is left as it was
    have skip : (∀ c, c < 45 → fX8_next (nI (p / 4)) (nI (p % 4)) = nI c → opB gw n t c = true → Nv f c ≤ Nv f (p / 4) + 1) → fX8_finds_46 ms rec (k + 1) (if g = true then 1 else 0) (nI p) f = fX8_finds_46 ms rec k (if g = true then 1 else 0) (nI (p + 1)) f → ∃ f' g', fX8_finds_46 ms rec (k + 1) (if g = true then 1 else 0) (nI p) f = rec (if g' = true then 1 else 0) f' ∧ Snd (opB gw n t) s 99 f' ∧ Lef f' f ∧ (g' = false → f' = f) ∧ (g' = true → g = true ∨ ∃ c, c < 45 ∧ Nv f' c < Nv f c) ∧ (∀ d v c, p ≤ 4 * d + v → d < 45 → v < 4 → c < 45 → fX8_next (nI d) (nI v) = nI c → opB gw n t c = true → Nv f' c ≤ Nv f d + 1) ∧ (g = true → g' = true) := by
      intro own eq
      obtain ⟨f', g', i1, i2, i3, i4, i5, i6, i7⟩ := ih (p + 1) k g f (by omega) (by omega) hS
      refine ⟨f', g', eq.trans i1, i2, i3, i4, i5, fun d v c h1 h2 h3 hc e ho => ?_, i7⟩
      by_cases x : p = 4 * d + v
      · have xd : p / 4 = d := by omega
        have xv : p % 4 = v := by omega
        have := own c hc (by rw [xd, xv]; exact e) ho
        have := i3 c hc
        rw [xd] at *
        omega
      · exact i6 d v c (by omega) h2 h3 hc e ho
    rcases nxc hd hw with ⟨z, _⟩ | ⟨c, hc, z, _⟩
    · refine skip (fun c hc e => by rw [z] at e; exact absurd e.symm (nm1 (by omega))) ?_
      rw [fX8_finds_46, if_neg (show ¬ (180 : Int32) ≤ nI p from nI_ge (b := 180) (by omega) (by omega)), e2, e1, z, if_pos (show (-1 : Int32) < 0 from by decide), zero]
    · obtain ⟨s1, s2, s3⟩ := hS c hc
      have body : fX8_finds_46 ms rec (k + 1) (if g = true then 1 else 0) (nI p) f = (if f c ≤ nI (Nv f (p / 4) + 1) then fX8_finds_46 ms rec k (if g = true then 1 else 0) (nI (p + 1)) f else if fX8_isDryAt (nI c) (nI t) = 0 then fX8_finds_115 ms rec (fX8_finds_46 ms rec k) (if 0 ≤ fstF (pOn gw (nI c)) 0 n then 0 else 1) (if g = true then 1 else 0) (nI p) (nI (p / 4)) (nI c) f else fX8_finds_46 ms rec k (if g = true then 1 else 0) (nI (p + 1)) f) := by
        rw [fX8_finds_46, if_neg (show ¬ (180 : Int32) ≤ nI p from nI_ge (b := 180) (by omega) (by omega)), e2, e1, z, if_neg (nI_pos (by omega)), if_pos (e_vin (by omega) (by omega)), if_pos (e_vin (by omega) (by omega)), nI_clamp (by omega), nI_clamp (by omega), t1, nI_1, dry_m hR hc hV.1.2.1 hV.1.2.2.2.2.1, Option.bind_some, whaleAt_e hR hV.1.2.2.2.1 h10, Option.bind_some, zero]
      by_cases y : Nv f c ≤ Nv f (p / 4) + 1
      · refine skip (fun c2 hc2 e _ => ?_) ?_
        · rw [z] at e
          have : c = c2 := (nI_eq (by omega) (by omega)).mp e
          rw [← this]; exact y
        · rw [body, if_pos (show f c ≤ nI (Nv f (p / 4) + 1) by rw [s1]; exact nI_le y (by omega))]
      · have ny : ¬ f c ≤ nI (Nv f (p / 4) + 1) := by rw [s1]; exact nI_ge (by omega) (by omega)
        by_cases dr : fX8_isDryAt (nI c) (nI t) = 0
        · by_cases fr : fstF (pOn gw (nI c)) 0 n = -1
          · have ho : opB gw n t c = true := by rw [opB]; simp [dr, fr]
            have wc : Wk (opB gw n t) s (Nv f (p / 4) + 1) c := ⟨ho, p / 4, hd, ⟨p % 4, hw, z⟩, t3 (by omega)⟩
            have S1 := Snd_u hS (by omega) (v := Nv f (p / 4) + 1) (by omega) wc
            obtain ⟨f', g', i1, i2, i3, i4, i5, i6, i7⟩ := ih (p + 1) k true (upd f c (nI (Nv f (p / 4) + 1))) (by omega) (by omega) S1
            have g1 : g' = true := i7 rfl
            have fc := i3 c hc
            rw [Nv_u (by omega), if_pos rfl] at fc
            refine ⟨f', g', ?_, i2, fun x hx => ?_, fun v => by rw [g1] at v; exact absurd v (by decide), fun _ => Or.inr ⟨c, hc, by omega⟩, fun d v c2 h1 h2 h3 hc2 e ho2 => ?_, fun _ => g1⟩
            · rw [body, if_neg ny, if_pos dr, fr, if_neg (show ¬ (0 : Int32) ≤ -1 from by decide), fX8_finds_115, if_neg n10, if_pos (e_vin (by omega) (by omega)), if_pos (e_vin (by omega) (by omega)), nI_clamp (by omega), nI_clamp (by omega), t1, nI_1, fX8_finds_140, nI_1]
              exact i1
            · have a := i3 x hx
              rw [Nv_u (by omega)] at a
              by_cases v : x = c
              · rw [if_pos v] at a; rw [v] at a ⊢; omega
              · rw [if_neg v] at a; exact a
            · by_cases x : p = 4 * d + v
              · have xd : p / 4 = d := by omega
                have xv : p % 4 = v := by omega
                rw [← xd, ← xv, z] at e
                have : c = c2 := (nI_eq (by omega) (by omega)).mp e
                rw [← this, ← xd]; exact fc
              · have a := i6 d v c2 (by omega) h2 h3 hc2 e ho2
                rw [Nv_u (f := f) (by omega)] at a
                by_cases v3 : d = c
                · rw [if_pos v3] at a; rw [v3]; omega
                · rw [if_neg v3] at a; exact a
          · have nn : 0 ≤ fstF (pOn gw (nI c)) 0 n := by
              rcases fst_spec (pOn gw (nI c)) n 0 with ⟨x, _⟩ | ⟨x, _, x1, _, x2, _⟩
              · exact absurd x fr
              · rw [x2]; exact nI_pos' (by omega)
            refine skip (fun c2 hc2 e ho => ?_) ?_
            · rw [z] at e
              have : c = c2 := (nI_eq (by omega) (by omega)).mp e
              rw [← this, opB] at ho
              simp [fr] at ho
            · rw [body, if_neg ny, if_pos dr, if_pos nn, zero]
        · refine skip (fun c2 hc2 e ho => ?_) ?_
          · rw [z] at e
            have : c = c2 := (nI_eq (by omega) (by omega)).mp e
            rw [← this, opB] at ho
            simp [dr] at ho
          · rw [body, if_neg ny, if_neg dr]
theorem fnd_2 (hR : Rg gw gk ms) (hV : Vg gw gk n t u b) (hs : s < 45) : ∀ (k r : Nat) (f : Nat → Int32), 48 ≤ r + k → 2 ≤ k → Snd (opB gw n t) s 99 f → Nv f s = 0 → Up (opB gw n t) s r f → ∃ f', fX8_finds_38 ms k 1 f = some f' ∧ Snd (opB gw n t) s 99 f' ∧ Up (opB gw n t) s 44 f' := by
  intro k
  induction k with
  | zero => intro r f _ h2; exact absurd h2 (by omega)
  | succ k ih =>
    intro r f hr hk hS h0 hu
    obtain ⟨f1, g1, a1, a2, a3, a4, a5, a6, a7⟩ := fnd_1 (s := s) hR hV (fX8_finds_38 ms k) 180 0 256 false f (by omega) (by omega) hS
    have head : fX8_finds_38 ms (k + 1) 1 f = fX8_finds_38 ms k (if g1 = true then 1 else 0) f1 := by
      rw [fX8_finds_38, if_neg n10, ← a1]
      rfl
    have near1 : ∀ d c, d < 45 → c < 45 → Ed d c → opB gw n t c = true → Nv f1 c ≤ Nv f d + 1 := by
      intro d c hd hc ed ho
      obtain ⟨w, w4, e⟩ := ed
      exact a6 d w c (Nat.zero_le _) hd w4 hc e ho
    have z1 : Nv f1 s = 0 := by have := a3 s hs; omega
    cases g1 with
    | false =>
      have e := a4 rfl
      refine ⟨f1, ?_, a2, ?_⟩
      · rw [head]
        obtain ⟨k, rfl⟩ : ∃ q, k = q + 1 := ⟨k - 1, by omega⟩
        rw [fX8_finds_38]
        rfl
      · intro x c hx hc w
        refine clo_up (M := 99) z1 (fun d c hd hc lt ed ho => ?_) x c (by omega) hc w
        have e2 : Nv f1 d = Nv f d := by rw [e]
        have := near1 d c hd hc ed ho
        omega
    | true =>
      by_cases big : 44 ≤ r
      · obtain ⟨c, hc, lt⟩ : ∃ c, c < 45 ∧ Nv f1 c < Nv f c := by
          rcases a5 rfl with z | z
          · exact absurd z (by decide)
          · exact z
        obtain ⟨_, b2, _⟩ := hS c hc
        obtain ⟨q, q1, q2⟩ := wk_b hs _ c hc ((a2 c hc).2.2 (by omega))
        have h1 := hu q c (by omega) hc q2
        by_cases small : Nv f1 c ≤ 44
        · have := hu (Nv f1 c) c (by omega) hc ((a2 c hc).2.2 (by omega))
          omega
        · omega
      · obtain ⟨f', b1, b2, b3⟩ := ih (r + 1) f1 (by omega) (by omega) a2 z1 (fun x c hx hc w => by
          by_cases y : x = r + 1
          · subst y
            obtain ⟨ho, d, hd, ed, wd⟩ := w
            have h1 := hu r d (Nat.le_refl _) hd wd
            have := near1 d c hd hc ed ho
            omega
          · have := hu x c (by omega) hc w
            have := a3 c hc
            omega)
        exact ⟨f', by rw [head]; exact b1, b2, b3⟩
theorem fnd_0 (hR : Rg gw gk ms) {w : Nat} (hw : w < 10) : ∀ (d i k : Nat) (f : Nat → Int32), i + d = 45 → d < k → (∀ c, c < i → f c = if nI c = gw (9 * w + 4) then 0 else 99) → ∃ f', (∀ c, c < 45 → f' c = if nI c = gw (9 * w + 4) then 0 else 99) ∧ fX8_finds_2 ms k (nI w) (nI i) f = fX8_finds_38 ms 64 1 f' := by
  intro d
  induction d with
  | zero =>
    intro i k f h hk hr
    obtain ⟨k, rfl⟩ : ∃ q, k = q + 1 := ⟨k - 1, by omega⟩
    refine ⟨f, fun c hc => hr c (by omega), ?_⟩
    rw [fX8_finds_2, if_pos (show (45 : Int32) ≤ nI i from nI_le (a := 45) (by omega) (by omega))]
  | succ d ih =>
    intro i k f h hk hr
    obtain ⟨k, rfl⟩ : ∃ q, k = q + 1 := ⟨k - 1, by omega⟩
    obtain ⟨f', r1, r2⟩ := ih (i + 1) k (upd f i (if nI i = gw (9 * w + 4) then 0 else 99)) (by omega) (by omega) (fun c hc => by
      by_cases z : c = i
      · rw [z, pk_us]
      · rw [pk_un z]; exact hr c (by omega))
    refine ⟨f', r1, ?_⟩
    rw [fX8_finds_2, if_neg (show ¬ (45 : Int32) ≤ nI i from nI_ge (b := 45) (by omega) (by omega)), mof4 ms hw, Option.bind_some, (e_ms hR hw).2 4 (by omega), fX8_finds_29, if_pos (e_vin (by omega) (by omega)), nI_clamp (by omega), nI_1]
    exact r2
end FND
/-- the three ways to the lengths of the shortest walks of a whale in play -/
def Far (gw : Nat → Int32) (n t s M : Nat) (f : Nat → Int32) : Prop := Snd (opB gw n t) s M f ∧ Up (opB gw n t) s 44 f
theorem ini_e {op : Nat → Bool} {s M : Nat} {f : Nat → Int32} (hs : s < 45) (hM : 0 < M ∧ M < 2 ^ 30) (h : ∀ c, c < 45 → f c = if c = s then 0 else nI M) : Snd op s M f ∧ Nv f s = 0 ∧ Up op s 0 f ∧ ∀ c, c < 45 → Nv f c ≤ 0 ∨ Nv f c = M := by
  have e : ∀ c, c < 45 → Nv f c = if c = s then 0 else M := fun c hc => by
    rw [Nv, h c hc]
    by_cases z : c = s
    · rw [if_pos z, if_pos z]; rfl
    · rw [if_neg z, if_neg z, nI_clamp (by omega)]
  refine ⟨fun c hc => ?_, ?_, fun k c hk hc w => ?_, fun c hc => ?_⟩
  · rw [e c hc, h c hc]
    by_cases z : c = s
    · rw [if_pos z, if_pos z]; exact ⟨rfl, by omega, fun _ => z⟩
    · rw [if_neg z, if_neg z]; exact ⟨rfl, Nat.le_refl _, fun q => absurd q (by omega)⟩
  · rw [e s hs, if_pos rfl]
  · have k0 : k = 0 := by omega
    subst k0
    rw [e c hc, if_pos (show c = s from w)]; exact Nat.le_refl _
  · rw [e c hc]
    split
    · exact Or.inl (Nat.le_refl _)
    · exact Or.inr rfl
section WAYS
variable {gw gk ms : Nat → Int32} {n t u b w s : Nat}
theorem way_s (hV : Vg gw gk n t u b) (hw : w < n) (hs : s < 45) (cs : gw (9 * w + 4) = nI s) (rs ro : Nat → Int32) : ∃ f ro', fX4_findBySpreading gw gk rs ro (nI w) = some (f, ro') ∧ Far gw n t s 1000 f := by
  obtain ⟨ro', F, b1, b2, b3⟩ := begin_e hV hw ro rs
  obtain ⟨i1, i2, i3, i4⟩ := ini_e (op := opB gw n t) (f := F) (M := 1000) hs (by omega) (fun c hc => by
    rw [b3 c hc, cs]
    by_cases z : c = s
    · rw [if_pos z, if_pos (by rw [z])]
    · rw [if_neg z, if_neg (fun q => z ((nI_eq (by omega) (by omega)).mp q).symm)]; rfl)
  obtain ⟨f, c1, c2, c3⟩ := spr_3 (gw := gw) (gk := gk) hs b2 45 0 64 F (by omega) (by omega) i1 i2 i4 i3
  refine ⟨f, ro', ?_, c2, c3⟩
  rw [fX4_findBySpreading, b1, Option.bind_some]
  exact c1
theorem way_l (hV : Vg gw gk n t u b) (hw : w < n) (hs : s < 45) (cs : gw (9 * w + 4) = nI s) (rl ro : Nat → Int32) : ∃ f ro', fX4_findByLowering gw gk rl ro (nI w) = some (f, ro') ∧ Far gw n t s 1000 f := by
  obtain ⟨ro', F, b1, b2, b3⟩ := begin_e hV hw ro rl
  obtain ⟨i1, i2, i3, i4⟩ := ini_e (op := opB gw n t) (f := F) (M := 1000) hs (by omega) (fun c hc => by
    rw [b3 c hc, cs]
    by_cases z : c = s
    · rw [if_pos z, if_pos (by rw [z])]
    · rw [if_neg z, if_neg (fun q => z ((nI_eq (by omega) (by omega)).mp q).symm)]; rfl)
  obtain ⟨f, c1, c2, c3⟩ := low_3 (gw := gw) (gk := gk) hs b2 45 0 64 F (by omega) (by omega) i1 i2 i3
  refine ⟨f, ro', ?_, c2, c3⟩
  rw [fX4_findByLowering, b1, Option.bind_some]
  exact c1
theorem way_m (hR : Rg gw gk ms) (hV : Vg gw gk n t u b) (hw : w < n) (hs : s < 45) (cs : gw (9 * w + 4) = nI s) (mf : Nat → Int32) : ∃ f, fX8_finds ms mf (nI w) = some f ∧ Far gw n t s 99 f := by
  have h10 := hV.1.1
  obtain ⟨F, b3, b1⟩ := fnd_0 (w := w) hR (by omega) 45 0 64 mf (by omega) (by omega) (fun c hc => absurd hc (Nat.not_lt_zero _))
  obtain ⟨i1, i2, i3, i4⟩ := ini_e (op := opB gw n t) (f := F) (M := 99) hs (by omega) (fun c hc => by
    rw [b3 c hc, cs]
    by_cases z : c = s
    · rw [if_pos z, if_pos (by rw [z])]
    · rw [if_neg z, if_neg (fun q => z ((nI_eq (by omega) (by omega)).mp q))]; rfl)
  obtain ⟨f, c1, c2, c3⟩ := fnd_2 hR hV hs 64 0 F (by omega) (by omega) i1 i2 i3
  refine ⟨f, ?_, c2, c3⟩
  rw [fX8_finds]
  exact b1.trans c1
end WAYS

