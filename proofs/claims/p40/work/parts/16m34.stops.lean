/-! the flight told by what stops it -/
def An (b : Nat) : Nat → Nat
  | 0 => b / 9
  | 1 => 8 - b % 9
  | 2 => 4 - b / 9
  | _ => b % 9
def Pn (b : Nat) : Nat → Nat → Nat
  | 0, k => b - 9 * k
  | 1, k => b + k
  | 2, k => b + 9 * k
  | _, k => b - k
def Hn (b : Nat) : Nat → Nat → Nat
  | 0, c => if c % 9 = b % 9 then b / 9 - c / 9 else 0
  | 1, c => if c / 9 = b / 9 then c % 9 - b % 9 else 0
  | 2, c => if c % 9 = b % 9 then c / 9 - b / 9 else 0
  | _, c => if c / 9 = b / 9 then b % 9 - c % 9 else 0
def eN (c : Nat) : Int32 := if nI c < 9 then 1 else if nI c < 36 then 0 else 1
theorem st_1 : ∀ b, b < 45 → ∀ w, w < 4 → fX7_cellsAhead (nI b) (nI w) = nI (An b w) ∧ An b w < 9 ∧ fX8_next (nI (Pn b w (An b w))) (nI w) = -1 ∧ Pn b w 0 = b := by decide +kernel
theorem st_2 : ∀ b, b < 45 → ∀ w, w < 4 → ∀ k, k < An b w + 1 → nI b + nI k * fX7_stride (nI w) = nI (Pn b w k) ∧ Pn b w k < 45 ∧ fX7_isGoalEnd (nI (Pn b w k)) (nI w) = fX7_isGoalEnd (nI b) (nI w) := by decide +kernel
theorem st_3 : ∀ b, b < 45 → ∀ w, w < 4 → ∀ k, k < An b w → fX8_next (nI (Pn b w k)) (nI w) = nI (Pn b w (k + 1)) := by decide +kernel
theorem st_4 : ∀ b, b < 45 → ∀ w, w < 4 → ∀ c, c < 45 → fX0_howFarAhead (fun _ => nI b) (nI c) (nI w) = some (nI (Hn b w c)) ∧ Hn b w c < An b w + 1 ∧ (0 < Hn b w c → Pn b w (Hn b w c) = c) := by decide +kernel
theorem st_5 : ∀ b, b < 45 → ∀ w, w < 4 → ∀ k, k < An b w → Hn b w (Pn b w (k + 1)) = k + 1 := by decide +kernel
/-- how far the dry cells let the buoy go, at low tide -/
def dN (b w : Nat) : Nat := if w = 1 ∨ w = 3 then (if eN b = 0 then 45 else 0) else if 0 < An b w then (if eN (Pn b w (An b w)) = 0 then 45 else An b w - 1) else 45
theorem st_6 : ∀ b, b < 45 → ∀ w, w < 4 → ∀ k, k < An b w → (eN (Pn b w (k + 1)) = 0 ↔ k < dN b w) := by decide +kernel
theorem how_g {gk : Nat → Int32} {b : Nat} (h : gk 5 = nI b) (c w : Int32) : fX0_howFarAhead gk c w = fX0_howFarAhead (fun _ => nI b) c w := by
  rw [fX0_howFarAhead, fX0_howFarAhead, ct5, ct5, Option.bind_some, Option.bind_some, h, Option.bind_some, Option.bind_some]
  rfl
def tS (gw : Nat → Int32) (b w way i m : Nat) : Nat :=
  if i = w then m else if gw (9 * i + 4) = -1 then m else if Hn b way (gw (9 * i + 4)).toNatClampNeg = 0 then m else if Hn b way (gw (9 * i + 4)).toNatClampNeg - 1 < m then Hn b way (gw (9 * i + 4)).toNatClampNeg - 1 else m
def tW (gw : Nat → Int32) (b w way : Nat) : Nat → Nat → Nat → Nat
  | _, 0, m => m
  | i, j + 1, m => tW gw b w way (i + 1) j (tS gw b w way i m)
theorem tS_le {gw : Nat → Int32} {b w way i m : Nat} : tS gw b w way i m ≤ m := by
  rw [tS]
  split
  · exact Nat.le_refl _
  · split
    · exact Nat.le_refl _
    · split
      · exact Nat.le_refl _
      · split <;> omega
theorem c_toW {gw gk : Nat → Int32} {n t u b w way : Nat} (hV : Vg gw gk n t u b) (hi : w < n) (hw : way < 4) : ∀ (j i k m : Nat), i + j = n → j < k → m ≤ 45 → fX0_cellsToWhale_6 gw gk k (nI w) (nI way) (nI m) (nI i) = some (nI (tW gw b w way i j m)) := by
  have h10 := hV.1.1
  have hn := hV.1.2.2.2.1
  have hb := hV.1.2.2.1
  intro j
  induction j with
  | zero =>
    intro i k m h hk hm
    obtain ⟨k, rfl⟩ : ∃ q, k = q + 1 := ⟨k - 1, by omega⟩
    rw [fX0_cellsToWhale_6, ct0, Option.bind_some, hn, if_pos (nI_le (by omega) (by omega))]
    rfl
  | succ j ih =>
    intro i k m h hk hm
    obtain ⟨k, rfl⟩ : ∃ q, k = q + 1 := ⟨k - 1, by omega⟩
    have ih' := ih (i + 1) k (tS gw b w way i m) (by omega) (by omega) (Nat.le_trans tS_le hm)
    rw [fX0_cellsToWhale_6, ct0, Option.bind_some, hn, if_neg (nI_ge (by omega) (by omega)), tW, ← ih']
    by_cases z : i = w
    · rw [if_pos (show nI i = nI w by rw [z]), fX0_cellsToWhale_72, nI_1, tS, if_pos z]
    · rw [if_neg (show ¬ nI i = nI w from fun q => z ((nI_eq (by omega) (by omega)).mp q)), fX1_isPlaying, of4 gw (by omega), Option.bind_some]
      by_cases y : gw (9 * i + 4) = -1
      · rw [if_pos y, Option.bind_some, if_pos rfl, fX0_cellsToWhale_72, nI_1, tS, if_neg z, if_pos y]
      · obtain ⟨c, hc, c0⟩ : ∃ c, c < 45 ∧ gw (9 * i + 4) = nI c := by
          rcases (hV.2.2.2.1 i (by omega)).2.2.2.2.1 with ⟨q, _⟩ | q
          · exact absurd q y
          · exact q
        obtain ⟨s1, s2, s3⟩ := st_4 b hb way hw c hc
        have s4 := (st_1 b hb way hw).2.1
        rw [if_neg y, Option.bind_some, if_neg n10, Option.bind_some, how_g hV.1.2.2.2.2.2.1, c0, s1, Option.bind_some, fX0_cellsToWhale_71, fX0_cellsToWhale_72, nI_1 i, tS, if_neg z, if_neg y, c0, nI_clamp (by omega)]
        by_cases x : Hn b way c = 0
        · rw [if_pos x, x, if_pos (show nI 0 ≤ 0 from by decide)]
        · obtain ⟨e, he⟩ : ∃ e, Hn b way c = e + 1 := ⟨Hn b way c - 1, by omega⟩
          rw [if_neg x, he, if_neg (nI_nle (by omega) (by omega)), nI_pred, show e + 1 - 1 = e from by omega]
          by_cases v : e < m
          · rw [if_pos v, if_pos (nI_lt v (by omega))]
          · rw [if_neg v, if_neg (nI_nlt (by omega) (by omega))]
theorem tW_le {gw : Nat → Int32} {b w way : Nat} : ∀ (j i m : Nat), tW gw b w way i j m ≤ m := by
  intro j
  induction j with
  | zero => intro i m; exact Nat.le_refl _
  | succ j ih => intro i m; rw [tW]; exact Nat.le_trans (ih (i + 1) _) tS_le
theorem tW_up {gw : Nat → Int32} {b w way x c : Nat} (hc : c < 45) (hx : x ≠ w) (c0 : gw (9 * x + 4) = nI c) (h : 0 < Hn b way c) : ∀ (j i m : Nat), i ≤ x → x < i + j → tW gw b w way i j m ≤ Hn b way c - 1 := by
  intro j
  induction j with
  | zero => intro i m h1 h2; exact absurd h1 (by omega)
  | succ j ih =>
    intro i m h1 h2
    rw [tW]
    by_cases e : i = x
    · subst e
      refine Nat.le_trans (tW_le j (i + 1) _) ?_
      rw [tS, if_neg hx, c0, if_neg (nm1 (by omega)), nI_clamp (by omega), if_neg (by omega)]
      split <;> omega
    · exact ih (i + 1) _ (by omega) (by omega)
theorem tW_ex {gw : Nat → Int32} {n u b w way : Nat} (h : ∀ i, i < n → Vw u gw i) : ∀ (j i m : Nat), i + j = n → tW gw b w way i j m = m ∨ ∃ x c, x < n ∧ x ≠ w ∧ c < 45 ∧ gw (9 * x + 4) = nI c ∧ 0 < Hn b way c ∧ tW gw b w way i j m = Hn b way c - 1 := by
  intro j
  induction j with
  | zero => intro i m _; exact Or.inl rfl
  | succ j ih =>
    intro i m hi
    rw [tW]
    rcases ih (i + 1) (tS gw b w way i m) (by omega) with q | q
    · rw [q, tS]
      by_cases z : i = w
      · rw [if_pos z]; exact Or.inl rfl
      · rw [if_neg z]
        rcases (h i (by omega)).2.2.2.2.1 with ⟨y, _⟩ | ⟨c, hc, y⟩
        · rw [if_pos y]; exact Or.inl rfl
        · rw [y, if_neg (nm1 (by omega)), nI_clamp (by omega)]
          by_cases x : Hn b way c = 0
          · rw [if_pos x]; exact Or.inl rfl
          · rw [if_neg x]
            split
            · exact Or.inr ⟨i, c, by omega, z, hc, y, by omega, rfl⟩
            · exact Or.inl rfl
    · exact Or.inr q
def dT (t b w : Nat) : Nat := if 2 < fX8_tideAt (nI t) then 45 else dN b w
theorem dry_x (c t : Nat) : fX8_isDryAt (nI c) (nI t) = if 2 < fX8_tideAt (nI t) then 0 else eN c := rfl
theorem c_toD {gw gk : Nat → Int32} {n t u b way : Nat} (hV : Vg gw gk n t u b) (hw : way < 4) : fX0_cellsToDry gk (nI way) = some (nI (dT t b way)) := by
  have hb := hV.1.2.2.1
  have ht := hV.1.2.1
  have hk := hV.1.2.2.2.2.1
  obtain ⟨s1, s2, _, _⟩ := st_1 b hb way hw
  obtain ⟨p1, p2, _⟩ := st_2 b hb way hw (An b way) (by omega)
  have w13 : (way = 1 ∨ way = 3) ∨ (¬ nI way = 1 ∧ ¬ nI way = 3 ∧ ¬ (way = 1 ∨ way = 3)) := by
    have z : ∀ w, w < 4 → (w = 1 ∨ w = 3) ∨ (¬ nI w = 1 ∧ ¬ nI w = 3 ∧ ¬ (w = 1 ∨ w = 3)) := by decide +kernel
    exact z way hw
  have d19 : fX0_cellsToDry_19 gk (nI b) = some (nI (if 2 < fX8_tideAt (nI t) then 45 else if eN b = 0 then 45 else 0)) := by
    rw [fX0_cellsToDry_19, dry_c hb ht hk, Option.bind_some, dry_x]
    by_cases z : 2 < fX8_tideAt (nI t)
    · rw [if_pos z, if_pos z]; rfl
    · rw [if_neg z, if_neg z]
      by_cases y : eN b = 0
      · rw [if_pos y, if_pos y]; rfl
      · rw [if_neg y, if_neg y]; rfl
  rw [fX0_cellsToDry, ct5, Option.bind_some, hV.1.2.2.2.2.2.1, d19, dT]
  rcases w13 with z | ⟨z1, z2, z3⟩
  · rw [dN, if_pos z]
    rcases z with rfl | rfl
    · rfl
    · rfl
  · rw [if_neg z1, if_neg z2, s1, dN, if_neg z3, p1]
    by_cases a : 0 < An b way
    · rw [if_neg (nI_nle a (by omega)), dry_c p2 ht hk, Option.bind_some, dry_x, fX0_cellsToDry_70]
      by_cases y : 2 < fX8_tideAt (nI t)
      · rw [if_pos y, if_pos y]; rfl
      · rw [if_neg y, if_neg y, if_pos a]
        obtain ⟨e, he⟩ : ∃ e, An b way = e + 1 := ⟨An b way - 1, by omega⟩
        by_cases x : eN (Pn b way (An b way)) = 0
        · rw [if_pos x, if_pos x]; rfl
        · rw [if_neg x, if_neg x, if_neg n10, he, nI_pred, show e + 1 - 1 = e from by omega]
    · have a0 : An b way = 0 := by omega
      rw [a0, if_pos (show nI 0 ≤ 0 from by decide), if_neg (show ¬ 0 < 0 from by omega)]
      split <;> rfl
theorem dT_e {t b w k : Nat} (hb : b < 45) (hw : w < 4) (hk : k < An b w) : (fX8_isDryAt (nI (Pn b w (k + 1))) (nI t) = 0 ↔ k < dT t b w) := by
  have s2 := (st_1 b hb w hw).2.1
  rw [dry_x, dT]
  by_cases z : 2 < fX8_tideAt (nI t)
  · rw [if_pos z, if_pos z]; exact ⟨fun _ => by omega, fun _ => rfl⟩
  · rw [if_neg z, if_neg z]; exact st_6 b hb w hw k hk
/-- whether a whale other than the striker stands in the way -/
theorem free_e {gw gk : Nat → Int32} {n t u b w way k : Nat} (hV : Vg gw gk n t u b) (hi : w < n) (hw : way < 4) (hk : k < An b way) : (k < tW gw b w way 0 n 45 → fstF (pOn gw (nI (Pn b way (k + 1)))) 0 n = -1 ∨ fstF (pOn gw (nI (Pn b way (k + 1)))) 0 n = nI w) ∧ (k = tW gw b w way 0 n 45 → ¬ (fstF (pOn gw (nI (Pn b way (k + 1)))) 0 n = -1 ∨ fstF (pOn gw (nI (Pn b way (k + 1)))) 0 n = nI w)) := by
  have hb := hV.1.2.2.1
  have h10 := hV.1.1
  obtain ⟨s1, s2, _, _⟩ := st_1 b hb way hw
  obtain ⟨_, p2, _⟩ := st_2 b hb way hw (k + 1) (by omega)
  have hh := st_5 b hb way hw k hk
  constructor
  · intro lt
    rcases fst_spec (pOn gw (nI (Pn b way (k + 1)))) n 0 with ⟨y, _⟩ | ⟨x, _, x1, x2, y, _⟩
    · exact Or.inl y
    · refine Or.inr ?_
      rw [y]
      by_cases e : x = w
      · rw [e]
      · have := tW_up (w := w) p2 e (of_decide_eq_true x2) (by rw [hh]; omega) n 0 45 (by omega) (by omega)
        omega
  · intro eq q
    rcases tW_ex (w := w) (way := way) (b := b) hV.2.2.2.1 n 0 45 (by omega) with z | ⟨x, c, x1, x2, hc, c0, h0, z⟩
    · omega
    · obtain ⟨_, _, s3⟩ := st_4 b hb way hw c hc
      have e1 : Hn b way c = k + 1 := by omega
      have e2 : Pn b way (k + 1) = c := by rw [← e1]; exact s3 h0
      rw [e2] at q
      rcases fst_spec (pOn gw (nI c)) n 0 with ⟨_, y2⟩ | ⟨v, _, v1, v2, y, _⟩
      · have := y2 x (by omega) (by omega)
        rw [pOn, c0] at this
        simp at this
      · rw [y] at q
        rcases q with q | q
        · exact nm1 (by omega) q
        · have vw : v = w := (nI_eq (by omega) (by omega)).mp q
          have v2' : gw (9 * v + 4) = nI c := of_decide_eq_true v2
          have nc : ¬ nI c = -1 := nm1 (by omega)
          have ds := hV.2.2.2.2.2
          by_cases l : v < x
          · have := ds x v x1 l (by rw [c0, v2']); rw [c0] at this; exact nc this
          · have := ds v x (by omega) (by omega) (by rw [c0, v2']); rw [v2'] at this; exact nc this
theorem go_stop {gw gk : Nat → Int32} {n t u b w way r : Nat} (hV : Vg gw gk n t u b) (hi : w < n) (hw : way < 4) (hr : r = min (An b way) (min (tW gw b w way 0 n 45) (dT t b way))) : ∀ (f k : Nat), k ≤ r → (goF gw n t w way f (Pn b way k)).1 = if An b way < k + f ∧ r = An b way ∧ ¬ fX7_isGoalEnd (nI b) (nI way) = 0 then fX7_goalAt (nI way) else nI (Pn b way (min (k + f) r)) := by
  have hb := hV.1.2.2.1
  obtain ⟨s1, s2, s3, _⟩ := st_1 b hb way hw
  have rA : r ≤ An b way := by omega
  intro f
  induction f with
  | zero =>
    intro k hk
    rw [goF, if_neg (by omega), show min (k + 0) r = k from by omega]
  | succ f ih =>
    intro k hk
    rw [goF]
    by_cases kA : k = An b way
    · have rk : r = An b way := by omega
      obtain ⟨_, _, g3⟩ := st_2 b hb way hw k (by omega)
      rw [kA, if_pos s3, ndF, ← kA, g3]
      by_cases z : fX7_isGoalEnd (nI b) (nI way) = 0
      · rw [if_pos z, if_neg (fun q => q.2.2 z), show min (k + (f + 1)) r = k from by omega]
      · rw [if_neg z, if_pos ⟨by omega, by omega, z⟩]
    · have kl : k < An b way := by omega
      obtain ⟨_, p2, _⟩ := st_2 b hb way hw (k + 1) (by omega)
      obtain ⟨f1, f2⟩ := free_e hV hi hw kl
      have dd := dT_e (t := t) hb hw kl
      rw [st_3 b hb way hw k kl, if_neg (nm1 (by omega)), nI_clamp (by omega)]
      by_cases kr : k < r
      · rw [if_pos (f1 (by omega)), if_pos (dd.mpr (by omega)), ih (k + 1) (by omega), show k + 1 + f = k + (f + 1) from by omega]
      · have kr' : k = r := by omega
        have tgt : (if An b way < k + (f + 1) ∧ r = An b way ∧ ¬ fX7_isGoalEnd (nI b) (nI way) = 0 then fX7_goalAt (nI way) else nI (Pn b way (min (k + (f + 1)) r))) = nI (Pn b way k) := by
          rw [if_neg (by omega), show min (k + (f + 1)) r = k from by omega]
        rw [tgt]
        split
        · next fr =>
          rw [if_neg]
          intro q
          have := dd.mp q
          have nt : ¬ k = tW gw b w way 0 n 45 := fun e => f2 e fr
          omega
        · rfl
theorem stops_e {gw gk : Nat → Int32} {n t u b w way F : Nat} (hV : Vg gw gk n t u b) (hi : w < n) (hw : way < 4) (hF1 : 1 ≤ F) (hF : F < 60) : fX0_endByStops gw gk (nI w) (nI way) (nI F) = some (endF gw gk n t b w way F) := by
  have hb := hV.1.2.2.1
  have h10 := hV.1.1
  obtain ⟨s1, s2, s3, s4⟩ := st_1 b hb way hw
  have m45 : tW gw b w way 0 n 45 ≤ 45 := tW_le n 0 45
  have d45 : dT t b way ≤ 45 := by
    rw [dT, dN]
    repeat' split
    all_goals omega
  have e1 : fX0_cellsToWhale gw gk (nI w) (nI way) = some (nI (tW gw b w way 0 n 45)) := c_toW hV hi hw n 0 64 45 (by omega) (by omega) (by omega)
  have e2 := c_toD hV hw
  have gs := go_stop hV hi hw rfl F 0 (Nat.zero_le _)
  rw [s4, Nat.zero_add] at gs
  have mn : ∀ x y : Nat, x < 1000 → y < 1000 → (if nI y < nI x then nI y else nI x) = nI (min x y) := by
    intro x y hx hy
    by_cases z : y < x
    · rw [if_pos (nI_lt z (by omega)), show min x y = y from by omega]
    · rw [if_neg (nI_nlt (by omega) (by omega)), show min x y = x from by omega]
  have g45 : fX7_goalAt (nI way) = nI 45 ∨ fX7_goalAt (nI way) = nI 46 := by
    rw [fX7_goalAt]; split
    · exact Or.inl rfl
    · exact Or.inr rfl
  rw [fX0_endByStops, ct5, Option.bind_some, hV.1.2.2.2.2.2.1, e1, Option.bind_some, e2, Option.bind_some, s1, foul_c hV hi, Option.bind_some, mn _ _ (by omega) (by omega), mn _ _ (by omega) (by omega), fX0_endByStops_82]
  generalize hr : min (An b way) (min (tW gw b w way 0 n 45) (dT t b way)) = r at gs ⊢
  have rA : r ≤ An b way := by omega
  have stepv : nI b + (if nI r < nI F then nI r else nI F) * fX7_stride (nI way) = nI (Pn b way (min F r)) ∧ Pn b way (min F r) < 45 := by
    rw [mn _ _ (by omega) (by omega)]
    obtain ⟨q1, q2, _⟩ := st_2 b hb way hw (min F r) (by omega)
    exact ⟨q1, q2⟩
  rw [endF, stepv.1]
  have lt45 : nI (Pn b way (min F r)) < 45 := nI_lt (b := 45) stepv.2 (by omega)
  by_cases z : F ≤ An b way
  · have gs' : (goF gw n t w way F b).1 = nI (Pn b way (min F r)) := by rw [gs, if_neg (fun q => absurd q.1 (by omega))]
    rw [if_pos (nI_le z (by omega)), gs', if_pos lt45]
  · rw [if_neg (nI_ge (by omega) (by omega))]
    by_cases y : r = An b way
    · rw [if_pos (show nI r = nI (An b way) by rw [y])]
      by_cases x : fX7_isGoalEnd (nI b) (nI way) = 0
      · have gs' : (goF gw n t w way F b).1 = nI (Pn b way (min F r)) := by rw [gs, if_neg (fun q => q.2.2 x)]
        rw [if_pos x, gs', if_pos lt45]
      · have ng : ¬ fX7_goalAt (nI way) < 45 := by
          rcases g45 with q | q <;> rw [q] <;> decide
        have gs' : (goF gw n t w way F b).1 = fX7_goalAt (nI way) := by rw [gs, if_pos ⟨by omega, y, x⟩]
        rw [if_neg x, gs', if_neg ng]
        split <;> rfl
    · have gs' : (goF gw n t w way F b).1 = nI (Pn b way (min F r)) := by rw [gs, if_neg (fun q => y q.2.1)]
      rw [if_neg (fun q => y ((nI_eq (by omega) (by omega)).mp q)), gs', if_pos lt45]
