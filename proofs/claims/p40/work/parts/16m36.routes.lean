/-! the two ways of the class to find how far the cells are -/
def opB (gw : Nat → Int32) (n t c : Nat) : Bool := decide (fX8_isDryAt (nI c) (nI t) = 0) && decide (fstF (pOn gw (nI c)) 0 n = -1)
section BEG
variable {gw gk : Nat → Int32} {n t u b : Nat}
theorem beg_1 (hV : Vg gw gk n t u b) (p : Int32) (F : Nat → Int32) : ∀ (d i k : Nat) (ro : Nat → Int32), i + d = 45 → d < k → (∀ c, c < i → ro c = if fX8_isDryAt (nI c) (nI t) = 0 then 1 else 0) → ∃ ro', (∀ c, c < 45 → ro' c = if fX8_isDryAt (nI c) (nI t) = 0 then 1 else 0) ∧ fX4_begin_2 gw gk 45 k p (nI i) ro F = fX4_begin_41 gw gk 45 64 p 0 ro' F := by
  intro d
  induction d with
  | zero =>
    intro i k ro h hk hr
    obtain ⟨k, rfl⟩ : ∃ q, k = q + 1 := ⟨k - 1, by omega⟩
    refine ⟨ro, fun c hc => hr c (by omega), ?_⟩
    rw [fX4_begin_2, if_pos (show (45 : Int32) ≤ nI i from nI_le (a := 45) (by omega) (by omega))]
  | succ d ih =>
    intro i k ro h hk hr
    obtain ⟨k, rfl⟩ : ∃ q, k = q + 1 := ⟨k - 1, by omega⟩
    obtain ⟨ro', r1, r2⟩ := ih (i + 1) k (upd ro i (if fX8_isDryAt (nI i) (nI t) = 0 then 1 else 0)) (by omega) (by omega) (fun c hc => by
      by_cases z : c = i
      · rw [z, pk_us]
      · rw [pk_un z]; exact hr c (by omega))
    refine ⟨ro', r1, ?_⟩
    have e : (if fX8_isDryAt (nI i) (nI t) = 0 then (1 : Int32) else 0) &&& 1 = if fX8_isDryAt (nI i) (nI t) = 0 then 1 else 0 := by split <;> rfl
    rw [fX4_begin_2, if_neg (show ¬ (45 : Int32) ≤ nI i from nI_ge (b := 45) (by omega) (by omega)), dry_c (by omega) hV.1.2.1 hV.1.2.2.2.2.1, Option.bind_some, fX4_begin_32, if_pos (e_vin (by omega) (by omega)), nI_clamp (by omega), e, nI_1]
    exact r2
theorem beg_2 (hV : Vg gw gk n t u b) (p : Int32) (F : Nat → Int32) : ∀ (j i k : Nat) (ro : Nat → Int32), i + j = n → j < k → (∀ c, c < 45 → ro c = if fX8_isDryAt (nI c) (nI t) = 0 ∧ (∀ x, x < i → gw (9 * x + 4) ≠ nI c) then 1 else 0) → ∃ ro', (∀ c, c < 45 → ro' c = if fX8_isDryAt (nI c) (nI t) = 0 ∧ (∀ x, x < n → gw (9 * x + 4) ≠ nI c) then 1 else 0) ∧ fX4_begin_41 gw gk 45 k p (nI i) ro F = fX4_begin_88 gw gk 45 64 p 0 ro' F := by
  have h10 := hV.1.1
  intro j
  induction j with
  | zero =>
    intro i k ro h hk hr
    obtain ⟨k, rfl⟩ : ∃ q, k = q + 1 := ⟨k - 1, by omega⟩
    refine ⟨ro, fun c hc => by rw [hr c hc, show i = n from by omega], ?_⟩
    rw [fX4_begin_41, ct0, Option.bind_some, hV.1.2.2.2.1, if_pos (nI_le (by omega) (by omega))]
  | succ j ih =>
    intro i k ro h hk hr
    obtain ⟨k, rfl⟩ : ∃ q, k = q + 1 := ⟨k - 1, by omega⟩
    rcases (hV.2.2.2.1 i (by omega)).2.2.2.2.1 with ⟨c0, _⟩ | ⟨d, hd, c0⟩
    · obtain ⟨ro', r1, r2⟩ := ih (i + 1) k ro (by omega) (by omega) (fun c hc => by
        rw [hr c hc]
        have e : (∀ x, x < i → gw (9 * x + 4) ≠ nI c) ↔ (∀ x, x < i + 1 → gw (9 * x + 4) ≠ nI c) := by
          constructor
          · intro q x hx
            by_cases z : x = i
            · rw [z, c0]; exact fun y => nm1 (c := c) (by omega) y.symm
            · exact q x (by omega)
          · intro q x hx; exact q x (by omega)
        by_cases z : fX8_isDryAt (nI c) (nI t) = 0 ∧ (∀ x, x < i → gw (9 * x + 4) ≠ nI c)
        · rw [if_pos z, if_pos ⟨z.1, e.mp z.2⟩]
        · rw [if_neg z, if_neg (fun y => z ⟨y.1, e.mpr y.2⟩)])
      refine ⟨ro', r1, ?_⟩
      rw [fX4_begin_41, ct0, Option.bind_some, hV.1.2.2.2.1, if_neg (nI_ge (by omega) (by omega)), of4 gw (by omega), Option.bind_some, c0, if_pos (show fX7_isCell (-1) = 0 from rfl), fX4_begin_80, nI_1]
      exact r2
    · obtain ⟨ro', r1, r2⟩ := ih (i + 1) k (upd ro d 0) (by omega) (by omega) (fun c hc => by
        by_cases z : c = d
        · subst z
          rw [pk_us, if_neg]
          exact fun q => q.2 i (by omega) c0
        · rw [pk_un z, hr c hc]
          have e : (∀ x, x < i → gw (9 * x + 4) ≠ nI c) ↔ (∀ x, x < i + 1 → gw (9 * x + 4) ≠ nI c) := by
            constructor
            · intro q x hx
              by_cases y : x = i
              · rw [y, c0]; exact fun v => z ((nI_eq (by omega) (by omega)).mp v).symm
              · exact q x (by omega)
            · intro q x hx; exact q x (by omega)
          by_cases y : fX8_isDryAt (nI c) (nI t) = 0 ∧ (∀ x, x < i → gw (9 * x + 4) ≠ nI c)
          · rw [if_pos y, if_pos ⟨y.1, e.mp y.2⟩]
          · rw [if_neg y, if_neg (fun v => y ⟨v.1, e.mpr v.2⟩)])
      refine ⟨ro', r1, ?_⟩
      rw [fX4_begin_41, ct0, Option.bind_some, hV.1.2.2.2.1, if_neg (nI_ge (by omega) (by omega)), of4 gw (by omega), Option.bind_some, c0, isCell_n hd, if_neg n10, if_pos (e_vin (by omega) (by omega)), nI_clamp (by omega), fX4_begin_80, nI_1, show (0 : Int32) &&& 1 = 0 from rfl]
      exact r2
theorem beg_3 {w : Nat} (hw : w < 10) (ro : Nat → Int32) : ∀ (d i k : Nat) (F : Nat → Int32), i + d = 45 → d < k → (∀ c, c < i → F c = 1000) → (gw (9 * w + 4) = -1 ∨ ∃ s, s < 45 ∧ gw (9 * w + 4) = nI s) → ∃ F', fX4_begin_88 gw gk 45 k (nI w) (nI i) ro F = some (ro, F') ∧ ∀ c, c < 45 → F' c = if gw (9 * w + 4) = nI c then 0 else 1000 := by
  intro d
  induction d with
  | zero =>
    intro i k F h hk hr hs
    obtain ⟨k, rfl⟩ : ∃ q, k = q + 1 := ⟨k - 1, by omega⟩
    rw [fX4_begin_88, if_pos (show Int32.ofNat 45 ≤ nI i from nI_le (a := 45) (by omega) (by omega)), of4 gw hw, Option.bind_some]
    rcases hs with s0 | ⟨s, s1, s0⟩
    · refine ⟨F, by rw [s0, if_pos (show (-1 : Int32) < 0 from by decide)], fun c hc => ?_⟩
      rw [s0, if_neg (fun y => nm1 (c := c) (by omega) y.symm)]
      exact hr c (by omega)
    · refine ⟨upd F s 0, ?_, fun c hc => ?_⟩
      · rw [s0, if_neg (nI_pos (by omega)), if_neg (show ¬ Int32.ofNat 45 ≤ nI s from nI_ge (b := 45) (by omega) (by omega)), if_pos (e_vin (by omega) (by omega)), nI_clamp (by omega)]
      · rw [s0]
        by_cases z : c = s
        · rw [z, pk_us, if_pos rfl]
        · rw [pk_un z, if_neg (fun y => z ((nI_eq (by omega) (by omega)).mp y).symm)]
          exact hr c (by omega)
  | succ d ih =>
    intro i k F h hk hr hs
    obtain ⟨k, rfl⟩ : ∃ q, k = q + 1 := ⟨k - 1, by omega⟩
    rw [fX4_begin_88, if_neg (show ¬ Int32.ofNat 45 ≤ nI i from nI_ge (b := 45) (by omega) (by omega)), if_pos (e_vin (by omega) (by omega)), nI_clamp (by omega), nI_1]
    exact ih (i + 1) k _ (by omega) (by omega) (fun c hc => by
      by_cases z : c = i
      · rw [z, pk_us]
      · rw [pk_un z]; exact hr c (by omega)) hs
theorem op_e (hV : Vg gw gk n t u b) {c : Nat} (hc : c < 45) : (if fX8_isDryAt (nI c) (nI t) = 0 ∧ (∀ x, x < n → gw (9 * x + 4) ≠ nI c) then (1 : Int32) else 0) = if opB gw n t c = true then 1 else 0 := by
  have h10 := hV.1.1
  have e : (∀ x, x < n → gw (9 * x + 4) ≠ nI c) ↔ fstF (pOn gw (nI c)) 0 n = -1 := by
    rcases fst_spec (pOn gw (nI c)) n 0 with ⟨y, y2⟩ | ⟨x, _, x1, x2, y, _⟩
    · exact ⟨fun _ => y, fun _ x hx q => by have := y2 x (by omega) (by omega); rw [pOn, q] at this; simp at this⟩
    · exact ⟨fun q => absurd (of_decide_eq_true x2) (q x (by omega)), fun q => by rw [y] at q; exact absurd q (nm1 (by omega))⟩
  rw [opB]
  by_cases z : fX8_isDryAt (nI c) (nI t) = 0
  · by_cases y : fstF (pOn gw (nI c)) 0 n = -1
    · rw [if_pos ⟨z, e.mpr y⟩, if_pos]; simp [z, y]
    · rw [if_neg (fun q => y (e.mp q.2)), if_neg]; simp [y]
  · rw [if_neg (fun q => z q.1), if_neg]; simp [z]
theorem begin_e (hV : Vg gw gk n t u b) {w : Nat} (hw : w < n) (ro F : Nat → Int32) : ∃ ro' F', fX4_begin gw gk ro 45 F (nI w) = some (ro', F') ∧ (∀ c, c < 45 → ro' c = if opB gw n t c = true then 1 else 0) ∧ ∀ c, c < 45 → F' c = if gw (9 * w + 4) = nI c then 0 else 1000 := by
  have h10 := hV.1.1
  obtain ⟨r1, a1, a2⟩ := beg_1 hV (nI w) F 45 0 64 ro (by omega) (by omega) (fun c hc => absurd hc (Nat.not_lt_zero _))
  obtain ⟨r2, b1, b2⟩ := beg_2 hV (nI w) F n 0 64 r1 (by omega) (by omega) (fun c hc => by
    rw [a1 c hc]
    by_cases z : fX8_isDryAt (nI c) (nI t) = 0
    · rw [if_pos z, if_pos ⟨z, fun x hx => absurd hx (Nat.not_lt_zero _)⟩]
    · rw [if_neg z, if_neg (fun q => z q.1)])
  obtain ⟨F', c1, c2⟩ := beg_3 (gw := gw) (gk := gk) (w := w) (by omega) r2 45 0 64 F (by omega) (by omega) (fun c hc => absurd hc (Nat.not_lt_zero _)) (by
    rcases (hV.2.2.2.1 w hw).2.2.2.2.1 with ⟨q, _⟩ | q
    · exact Or.inl q
    · exact Or.inr q)
  refine ⟨r2, F', ?_, fun c hc => (b1 c hc).trans (op_e hV hc), c2⟩
  rw [fX4_begin]
  exact a2.trans (b2.trans c1)
end BEG
theorem nxc {c w : Nat} (hc : c < 45) (hw : w < 4) : (fX8_next (nI c) (nI w) = -1 ∧ fX7_nextCell (nI c) (nI w) = -1) ∨ ∃ d, d < 45 ∧ fX8_next (nI c) (nI w) = nI d ∧ fX7_nextCell (nI c) (nI w) = nI d := by
  obtain ⟨e1, e2⟩ := nx_f c hc w hw
  rcases e2 with z | ⟨d, hd, z⟩
  · exact Or.inl ⟨z, e1.trans z⟩
  · exact Or.inr ⟨d, hd, z, e1.trans z⟩
section SPR
variable {op : Nat → Bool} {s : Nat} {ro : Nat → Int32}
/-- one cell spreads: all its ways -/
theorem spr_1 (hro : ∀ c, c < 45 → ro c = if op c = true then 1 else 0) {d j : Nat} (hd : d < 45) (hj : j < 45) : ∀ (q w k : Nat) (g : Bool) (f : Nat → Int32), w + q = 4 → q < k → Snd op s 1000 f → Nv f d = j → ∃ f' g', fX4_spreadFrom_5 ro k (nI d) (nI (j + 1)) (if g = true then 1 else 0) (nI w) f = some (if g' = true then 1 else 0, f') ∧ Snd op s 1000 f' ∧ Lef f' f ∧ (∀ c, c < 45 → Nv f' c = Nv f c ∨ (Nv f c = 1000 ∧ Nv f' c = j + 1)) ∧ (g = true → g' = true) ∧ (g' = false → f' = f) ∧ (∀ v c, w ≤ v → v < 4 → c < 45 → fX8_next (nI d) (nI v) = nI c → op c = true → Nv f' c < 1000) := by
  intro q
  induction q with
  | zero =>
    intro w k g f h hk hS hd0
    obtain ⟨k, rfl⟩ : ∃ q, k = q + 1 := ⟨k - 1, by omega⟩
    refine ⟨f, g, ?_, hS, fun c _ => Nat.le_refl _, fun c _ => Or.inl rfl, fun z => z, fun _ => rfl, fun v c h1 h2 => absurd h1 (by omega)⟩
    rw [fX4_spreadFrom_5, if_pos (show (4 : Int32) ≤ nI w from nI_le (a := 4) (by omega) (by omega))]
    cases g <;> rfl
  | succ q ih =>
    intro w k g f h hk hS hd0
    obtain ⟨k, rfl⟩ : ∃ q, k = q + 1 := ⟨k - 1, by omega⟩
    have w4 : w < 4 := by omega
    rw [fX4_spreadFrom_5, if_neg (show ¬ (4 : Int32) ≤ nI w from nI_ge (b := 4) (by omega) (by omega))]
    rcases nxc hd w4 with ⟨z, z2⟩ | ⟨c, hc, z, z2⟩
    · obtain ⟨f', g', i1, i2, i3, i4, i5, i6, i7⟩ := ih (w + 1) k g f (by omega) (by omega) hS hd0
      refine ⟨f', g', ?_, i2, i3, i4, i5, i6, fun v c h1 h2 hc e ho => ?_⟩
      · rw [z2, if_pos (show fX7_isCell (-1) = 0 from rfl), fX4_spreadFrom_60, nI_1]; exact i1
      · by_cases y : v = w
        · rw [y, z] at e; exact absurd e.symm (nm1 (by omega))
        · exact i7 v c (by omega) h2 hc e ho
    · rw [z2, isCell_n hc, if_neg n10, if_pos (e_vin (by omega) (by omega)), nI_clamp (by omega), hro c hc]
      by_cases ho : op c = true
      · rw [if_pos ho, if_neg n10]
        obtain ⟨s1, s2, s3⟩ := hS c hc
        by_cases y : f c = 1000
        · have e0 : Nv f c = 1000 := by rw [Nv, y]; rfl
          have wc : Wk op s (j + 1) c := ⟨ho, d, hd, ⟨w, w4, z⟩, by have := (hS d hd).2.2 (by omega); rw [hd0] at this; exact this⟩
          have S1 := Snd_u hS (by omega) (v := j + 1) (by omega) wc
          have cd : d ≠ c := fun x => by rw [x] at hd0; omega
          have d1 : Nv (upd f c (nI (j + 1))) d = j := by rw [Nv_u (by omega), if_neg cd]; exact hd0
          obtain ⟨f', g', i1, i2, i3, i4, i5, i6, i7⟩ := ih (w + 1) k true (upd f c (nI (j + 1))) (by omega) (by omega) S1 d1
          have g1 : g' = true := i5 rfl
          refine ⟨f', g', ?_, i2, fun x hx => ?_, fun x hx => ?_, fun _ => g1, fun v => by rw [g1] at v; exact absurd v (by decide), fun v x h1 h2 hx e ho => ?_⟩
          · rw [if_pos y, if_pos (e_vin (by omega) (by omega)), if_pos (e_vin (by omega) (by omega)), fX4_spreadFrom_60, nI_1]; exact i1
          · have a := i3 x hx
            rw [Nv_u (by omega)] at a
            by_cases v : x = c
            · rw [if_pos v] at a; rw [v, e0]; rw [v] at a; omega
            · rw [if_neg v] at a; exact a
          · have a := i4 x hx
            rw [Nv_u (by omega)] at a
            by_cases v : x = c
            · rw [if_pos v] at a
              rcases a with a | a
              · exact Or.inr ⟨by rw [v]; exact e0, a⟩
              · omega
            · rw [if_neg v] at a; exact a
          · by_cases v2 : v = w
            · rw [v2, z] at e
              have : c = x := (nI_eq (by omega) (by omega)).mp e
              subst this
              have a := i3 c hc
              rw [Nv_u (by omega), if_pos rfl] at a
              omega
            · exact i7 v x (by omega) h2 hx e ho
        · have e0 : Nv f c < 1000 := by
            by_cases v : Nv f c = 1000
            · rw [v] at s1; exact absurd s1 y
            · omega
          obtain ⟨f', g', i1, i2, i3, i4, i5, i6, i7⟩ := ih (w + 1) k g f (by omega) (by omega) hS hd0
          refine ⟨f', g', ?_, i2, i3, i4, i5, i6, fun v x h1 h2 hx e ho => ?_⟩
          · rw [if_neg y, if_pos (e_vin (by omega) (by omega)), fX4_spreadFrom_60, nI_1]; exact i1
          · by_cases v2 : v = w
            · rw [v2, z] at e
              have : c = x := (nI_eq (by omega) (by omega)).mp e
              subst this
              have a := i3 c hc
              omega
            · exact i7 v x (by omega) h2 hx e ho
      · rw [if_neg ho, if_pos rfl]
        obtain ⟨f', g', i1, i2, i3, i4, i5, i6, i7⟩ := ih (w + 1) k g f (by omega) (by omega) hS hd0
        refine ⟨f', g', ?_, i2, i3, i4, i5, i6, fun v x h1 h2 hx e ho2 => ?_⟩
        · rw [fX4_spreadFrom_60, nI_1]; exact i1
        · by_cases v2 : v = w
          · rw [v2, z] at e
            have : c = x := (nI_eq (by omega) (by omega)).mp e
            subst this
            exact absurd ho2 ho
          · exact i7 v x (by omega) h2 hx e ho2
/-- one sweep of a level -/
theorem spr_2 {gw gk : Nat → Int32} (hro : ∀ c, c < 45 → ro c = if op c = true then 1 else 0) {j : Nat} (hj : j < 45) (rec13 : Int32 → Int32 → (Nat → Int32) → (Nat → Int32) → Option ((Nat → Int32) × (Nat → Int32))) : ∀ (q i k : Nat) (g : Bool) (f : Nat → Int32), i + q = 45 → q < k → Snd op s 1000 f → (∀ c, c < 45 → Nv f c ≤ j + 1 ∨ Nv f c = 1000) → ∃ f' g', fX4_findBySpreading_28 gw gk rec13 k (if g = true then 1 else 0) (nI j) (nI i) f ro = rec13 (if g' = true then 1 else 0) (nI (j + 1)) f' ro ∧ Snd op s 1000 f' ∧ Lef f' f ∧ (∀ c, c < 45 → Nv f' c = Nv f c ∨ (Nv f c = 1000 ∧ Nv f' c = j + 1)) ∧ (g = true → g' = true) ∧ (g' = false → f' = f) ∧ (∀ d v c, i ≤ d → d < 45 → Nv f d = j → v < 4 → c < 45 → fX8_next (nI d) (nI v) = nI c → op c = true → Nv f' c < 1000) := by
  intro q
  induction q with
  | zero =>
    intro i k g f h hk hS hv
    obtain ⟨k, rfl⟩ : ∃ q, k = q + 1 := ⟨k - 1, by omega⟩
    refine ⟨f, g, ?_, hS, fun c _ => Nat.le_refl _, fun c _ => Or.inl rfl, fun z => z, fun _ => rfl, fun d v c h1 h2 => absurd h1 (by omega)⟩
    rw [fX4_findBySpreading_28, if_pos (show (45 : Int32) ≤ nI i from nI_le (a := 45) (by omega) (by omega)), nI_1]
  | succ q ih =>
    intro i k g f h hk hS hv
    obtain ⟨k, rfl⟩ : ∃ q, k = q + 1 := ⟨k - 1, by omega⟩
    have hi : i < 45 := by omega
    obtain ⟨s1, s2, s3⟩ := hS i hi
    rw [fX4_findBySpreading_28, if_neg (show ¬ (45 : Int32) ≤ nI i from nI_ge (b := 45) (by omega) (by omega)), if_pos (e_vin (by omega) (by omega)), nI_clamp (by omega)]
    by_cases y : Nv f i = j
    · obtain ⟨f1, g1, a1, a2, a3, a4, a5, a6, a7⟩ := spr_1 (s := s) hro hi hj 4 0 64 false f (by omega) (by omega) hS y
      obtain ⟨f', g', i1, i2, i3, i4, i5, i6, i7⟩ := ih (i + 1) k (g || g1) f1 (by omega) (by omega) a2 (fun c hc => by
        rcases a4 c hc with z | z
        · rw [z]; exact hv c hc
        · exact Or.inl (by omega))
      refine ⟨f', g', ?_, i2, fun c hc => Nat.le_trans (i3 c hc) (a3 c hc), fun c hc => ?_, fun z => i5 (by rw [z]; rfl), fun z => ?_, fun d v c h1 h2 h3 h4 hc e ho => ?_⟩
      · rw [if_pos (show f i = nI j by rw [s1, y]), nI_1, show fX4_spreadFrom f ro (nI i) (nI (j + 1)) = _ from a1, Option.bind_some, fX4_findBySpreading_63, nI_1, ← i1]
        cases g <;> cases g1 <;> rfl
      · rcases a4 c hc with z | z
        · rcases i4 c hc with x | x
          · exact Or.inl (x.trans z)
          · exact Or.inr ⟨by omega, x.2⟩
        · rcases i4 c hc with x | x
          · exact Or.inr ⟨z.1, by omega⟩
          · omega
      · have gg : (g || g1) = false := by
          cases hg : (g || g1)
          · rfl
          · rw [i5 hg] at z; exact absurd z (by decide)
        have g1f : g1 = false := by cases g <;> cases g1 <;> simp at gg ⊢
        rw [i6 z, a6 g1f]
      · by_cases x : d = i
        · subst x
          have := a7 v c (Nat.zero_le _) h4 hc e ho
          have := i3 c hc
          omega
        · have e1 : Nv f1 d = j := by
            rcases a4 d h2 with w | w
            · rw [w]; exact h3
            · omega
          exact i7 d v c (by omega) h2 e1 h4 hc e ho
    · obtain ⟨f', g', i1, i2, i3, i4, i5, i6, i7⟩ := ih (i + 1) k g f (by omega) (by omega) hS hv
      refine ⟨f', g', ?_, i2, i3, i4, i5, i6, fun d v c h1 h2 h3 h4 hc e ho => ?_⟩
      · rw [if_neg (show ¬ f i = nI j from fun z => y ((nI_eq (by omega) (by omega)).mp (s1.symm.trans z))), fX4_findBySpreading_63, nI_1]
        exact i1
      · by_cases x : d = i
        · rw [x] at h3; exact absurd h3 y
        · exact i7 d v c (by omega) h2 h3 h4 hc e ho
theorem spr_3 {gw gk : Nat → Int32} (hs : s < 45) (hro : ∀ c, c < 45 → ro c = if op c = true then 1 else 0) : ∀ (q j k : Nat) (f : Nat → Int32), j + q = 45 → q + 1 < k → Snd op s 1000 f → Nv f s = 0 → (∀ c, c < 45 → Nv f c ≤ j ∨ Nv f c = 1000) → Up op s j f → ∃ f', fX4_findBySpreading_13 gw gk k 1 (nI j) f ro = some (f', ro) ∧ Snd op s 1000 f' ∧ Up op s 44 f' := by
  intro q
  induction q with
  | zero =>
    intro j k f h hk hS h0 hv hu
    obtain ⟨k, rfl⟩ : ∃ q, k = q + 1 := ⟨k - 1, by omega⟩
    refine ⟨f, ?_, hS, fun x c hx hc w => hu x c (by omega) hc w⟩
    rw [fX4_findBySpreading_13, if_pos (show (45 : Int32) ≤ nI j from nI_le (a := 45) (by omega) (by omega))]
  | succ q ih =>
    intro j k f h hk hS h0 hv hu
    obtain ⟨k, rfl⟩ : ∃ q, k = q + 1 := ⟨k - 1, by omega⟩
    have hj : j < 45 := by omega
    obtain ⟨f1, g1, a1, a2, a3, a4, a5, a6, a7⟩ := spr_2 (s := s) (gw := gw) (gk := gk) hro hj (fX4_findBySpreading_13 gw gk k) 45 0 64 false f (by omega) (by omega) hS (fun c hc => by rcases hv c hc with z | z; exact Or.inl (by omega); exact Or.inr z)
    have v1 : ∀ c, c < 45 → Nv f1 c ≤ j + 1 ∨ Nv f1 c = 1000 := fun c hc => by
      rcases a4 c hc with z | z
      · rcases hv c hc with y | y
        · exact Or.inl (by omega)
        · exact Or.inr (by omega)
      · exact Or.inl (by omega)
    have clo : Clo op 1000 f1 ∨ True := Or.inr trivial
    have near1 : ∀ d c, d < 45 → c < 45 → Nv f d ≤ j → Ed d c → op c = true → Nv f1 c ≤ Nv f d + 1 := by
      intro d c hd hc le ed ho
      by_cases x : Nv f d = j
      · obtain ⟨w, w4, e⟩ := ed
        have := a7 d w c (Nat.zero_le _) hd x w4 hc e ho
        rcases v1 c hc with z | z <;> omega
      · have wd := (hS d hd).2.2 (by omega)
        have := hu (Nv f d + 1) c (by omega) hc ⟨ho, d, hd, ed, wd⟩
        have := a3 c hc
        omega
    have head : fX4_findBySpreading_13 gw gk (k + 1) 1 (nI j) f ro = fX4_findBySpreading_13 gw gk k (if g1 = true then 1 else 0) (nI (j + 1)) f1 ro := by
      rw [fX4_findBySpreading_13, if_neg (show ¬ (45 : Int32) ≤ nI j from nI_ge (b := 45) (by omega) (by omega)), if_neg n10, ← a1]
      rfl
    have z1 : Nv f1 s = 0 := by have := a3 s hs; omega
    cases g1 with
    | false =>
      have e := a6 rfl
      refine ⟨f1, ?_, a2, ?_⟩
      · rw [head]
        obtain ⟨k, rfl⟩ : ∃ q, k = q + 1 := ⟨k - 1, by omega⟩
        rw [fX4_findBySpreading_13]
        split
        · rfl
        · rfl
      · intro x c hx hc w
        refine clo_up (M := 1000) z1 (fun d c hd hc lt ed ho => ?_) x c (by omega) hc w
        have e2 : Nv f1 d = Nv f d := by rw [e]
        have := near1 d c hd hc (by rcases hv d hd with y | y <;> omega) ed ho
        omega
    | true =>
      obtain ⟨f', b1, b2, b3⟩ := ih (j + 1) k f1 (by omega) (by omega) a2 z1 v1 (fun x c hx hc w => by
        by_cases y : x = j + 1
        · subst y
          obtain ⟨ho, d, hd, ed, wd⟩ := w
          have h1 := hu j d (Nat.le_refl _) hd wd
          have := near1 d c hd hc h1 ed ho
          omega
        · have := hu x c (by omega) hc w
          have := a3 c hc
          omega)
      exact ⟨f', by rw [head]; exact b1, b2, b3⟩
end SPR

