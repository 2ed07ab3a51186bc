/-! a text, command by command -/
def dgN (v : Nat) : Nat := if 48 ≤ v ∧ v ≤ 57 then v - 48 else 10
def wyN (v : Nat) : Nat := if v = 110 then 0 else if v = 101 then 1 else if v = 115 then 2 else if v = 119 then 3 else 4
theorem dg_c : ∀ v, v < 128 → (if nI v < 48 then (some (-1) : Option Int32) else if 57 < nI v then some (-1) else some (nI v - 48)) = some (if dgN v < 10 then nI (dgN v) else -1) := by decide +kernel
theorem wy_c : ∀ v, v < 128 → sIx [110, 101, 115, 119] (nI v) = (if wyN v < 4 then nI (wyN v) else -1) := by decide +kernel
theorem kd_c : ∀ v, v < 128 → sIx [119, 109, 107, 111, 98, 100] (nI v) = (if v = 119 then 0 else if v = 109 then 1 else if v = 107 then 2 else if v = 111 then 3 else if v = 98 then 4 else if v = 100 then 5 else -1) := by decide +kernel
theorem dgN_le (v : Nat) : dgN v ≤ 10 := by rw [dgN]; split <;> omega
theorem isIn_d : ∀ v, v < 128 → fX8_isIn (nI v) 48 57 = (if dgN v < 10 then 1 else 0) ∧ (dgN v < 10 → nI v - 48 = nI (dgN v) ∧ 48 + dgN v = v) := by decide +kernel
def cdN (ti : Nat → Int32) (n c : Nat) : Nat := if c < n then (ti c).toNatClampNeg else 0
section TXT
variable {n : Nat} {ti mt : Nat → Int32}
theorem cd_v (hT : Tx n ti mt) (c : Nat) : cdN ti n c < 128 ∧ (c < n → ti c = nI (cdN ti n c) ∧ mt c = nI (cdN ti n c) ∧ 32 ≤ cdN ti n c) ∧ (¬ c < n → cdN ti n c = 0) := by
  rw [cdN]
  by_cases h : c < n
  · obtain ⟨e, k, k1, k2, k3⟩ := hT.2 c h
    rw [if_pos h, e, k3, nI_clamp (by omega)]
    exact ⟨by omega, fun _ => ⟨rfl, rfl, k1⟩, fun q => absurd h q⟩
  · rw [if_neg h]
    exact ⟨by omega, fun q => absurd q h, fun _ => rfl⟩
theorem here_c (hT : Tx n ti mt) {c : Nat} (hc : c < 1000) : fX5_here (nI n) (nI c) ti = some (nI (cdN ti n c)) := by
  obtain ⟨a, b, d⟩ := cd_v hT c
  have n60 := hT.1
  rw [fX5_here, if_neg (nI_pos (by omega))]
  by_cases h : c < n
  · rw [if_neg (nI_ge h (by omega)), if_neg (show ¬ (60 : Int32) ≤ nI c from nI_ge (b := 60) (by omega) (by omega)), if_pos (e_vin (by omega) (by omega)), nI_clamp (by omega), (b h).1, (u16_n a).1]
  · rw [if_pos (nI_le (by omega) (by omega)), d h]; rfl
theorem sign_m (hT : Tx n ti mt) {c : Nat} (hc : c < 1000) : fX8_sign (nI n) (nI c) mt = some (if c < n then nI (cdN ti n c) else -1) := by
  obtain ⟨a, b, d⟩ := cd_v hT c
  have n60 := hT.1
  rw [fX8_sign]
  by_cases h : c < n
  · rw [if_neg (nI_ge h (by omega)), if_pos (e_vin (by omega) (by omega)), nI_clamp (by omega), (b h).2.1, if_pos h]
  · rw [if_pos (nI_le (by omega) (by omega)), if_neg h]
theorem dig_c (hT : Tx n ti mt) {c : Nat} (hc : c < 1000) : fX5_digitHere (nI n) (nI c) ti = some (if dgN (cdN ti n c) < 10 then nI (dgN (cdN ti n c)) else -1) := by
  rw [fX5_digitHere, here_c hT hc, Option.bind_some]
  exact dg_c _ (cd_v hT c).1
theorem ts63 {c k x : Nat} (hk : k < 3) (hc : c < 1000) (hx : x < 1000) (tn : Nat → Int32) : fX5_takeSign_63 (nI n) ti (nI x) (nI c) (nI k) tn = some (0, 1, nI (c + 1), nI (k + 1), upd tn k (nI x)) := by
  rw [fX5_takeSign_63, if_pos (nI_pos' (by omega)), if_neg (nI_pos (by omega)), if_neg (show ¬ (3 : Int32) ≤ nI k from nI_ge (b := 3) (by omega) (by omega)), if_pos (e_vin (by omega) (by omega)), nI_clamp (by omega), fX5_takeSign_109, nI_1, nI_1]
theorem tsD (hT : Tx n ti mt) {c k : Nat} (hc : c < 1000) (hk : k < 3) (tn : Nat → Int32) : fX5_takeSign (nI n) (nI c) (nI k) ti tn 48 = some (if dgN (cdN ti n c) < 10 then (0, 1, nI (c + 1), nI (k + 1), upd tn k (nI (dgN (cdN ti n c)))) else (0, 0, nI c, nI k, tn)) := by
  have := dgN_le (cdN ti n c)
  rw [fX5_takeSign, if_neg (by decide), if_neg (by decide), dig_c hT hc, Option.bind_some]
  by_cases z : dgN (cdN ti n c) < 10
  · rw [if_pos z, if_pos z, ts63 hk hc (by omega)]
  · rw [if_neg z, if_neg z]; rfl
theorem tsA (hT : Tx n ti mt) {c k : Nat} (hc : c < 1000) (tn : Nat → Int32) : fX5_takeSign (nI n) (nI c) (nI k) ti tn 64 = some (if cdN ti n c = 64 then (0, 1, nI (c + 1), nI k, tn) else (0, 0, nI c, nI k, tn)) := by
  rw [fX5_takeSign, if_pos rfl, here_c hT hc, Option.bind_some, fX5_takeSign_20, fX5_takeSign_35]
  by_cases z : cdN ti n c = 64
  · rw [if_pos z, z, if_pos (show nI 64 = 64 from rfl), if_neg n10, nI_1]; rfl
  · have a := (cd_v hT c).1
    rw [if_neg z, if_neg (show ¬ nI (cdN ti n c) = 64 from fun q => z ((nI_eq (b := 64) (by omega) (by omega)).mp q)), if_pos rfl, Int32.add_zero]; rfl
theorem tsW (hT : Tx n ti mt) {c k : Nat} (hc : c < 1000) (hk : k < 3) (tn : Nat → Int32) : fX5_takeSign (nI n) (nI c) (nI k) ti tn 110 = some (if wyN (cdN ti n c) < 4 then (0, 1, nI (c + 1), nI (k + 1), upd tn k (nI (wyN (cdN ti n c)))) else (0, 0, nI c, nI k, tn)) := by
  rw [fX5_takeSign, if_neg (by decide), if_pos rfl, here_c hT hc, Option.bind_some, wy_c _ (cd_v hT c).1]
  by_cases z : wyN (cdN ti n c) < 4
  · rw [if_pos z, if_pos z, ts63 hk hc (by omega)]
  · rw [if_neg z, if_neg z]; rfl
theorem sd_e (hT : Tx n ti mt) {c k : Nat} (hc : c < 1000) (hk : k < 3) (tn : Nat → Int32) : fX5_takeSecondDigit (nI n) (nI c) (nI (k + 1)) ti tn = some (if dgN (cdN ti n c) < 10 then (nI (c + 1), upd tn k (10 * tn k + nI (dgN (cdN ti n c)))) else (nI c, tn)) := by
  have := dgN_le (cdN ti n c)
  rw [fX5_takeSecondDigit, dig_c hT hc, Option.bind_some]
  by_cases z : dgN (cdN ti n c) < 10
  · rw [if_pos z, if_pos z, if_neg (nI_pos (by omega)), nI_pred, if_neg (nI_pos (by omega)), if_neg (show ¬ (3 : Int32) ≤ nI k from nI_ge (b := 3) (by omega) (by omega)), if_pos (e_vin (by omega) (by omega)), if_pos (e_vin (by omega) (by omega)), nI_clamp (by omega), nI_1]
  · rw [if_neg z, if_neg z, if_pos (by decide)]
/-- the command at a place: whether there is one, where it ends (or what is wrong), which, and its numbers -/
def cP (cd : Nat → Nat) (c : Nat) : Nat × Nat × Nat × Nat × Nat × Nat :=
  if cd c = 119 then (if dgN (cd (c + 1)) < 10 then (if dgN (cd (c + 2)) < 10 then (if dgN (cd (c + 3)) < 10 then (1, c + 4, 0, dgN (cd (c + 1)), dgN (cd (c + 2)), dgN (cd (c + 3))) else (0, c + 3, 0, 0, 0, 0)) else (0, c + 2, 0, 0, 0, 0)) else (0, c + 1, 0, 0, 0, 0))
  else if cd c = 109 then (if dgN (cd (c + 1)) < 10 then (if cd (c + 2) = 64 then (if dgN (cd (c + 3)) < 10 then (if dgN (cd (c + 4)) < 10 then (1, c + 5, 1, dgN (cd (c + 1)), 10 * dgN (cd (c + 3)) + dgN (cd (c + 4)), 0) else (1, c + 4, 1, dgN (cd (c + 1)), dgN (cd (c + 3)), 0)) else (0, c + 3, 0, 0, 0, 0)) else (0, c + 2, 0, 0, 0, 0)) else (0, c + 1, 0, 0, 0, 0))
  else if cd c = 107 then (if dgN (cd (c + 1)) < 10 then (if wyN (cd (c + 2)) < 4 then (if dgN (cd (c + 3)) < 10 then (1, c + 4, 2, dgN (cd (c + 1)), wyN (cd (c + 2)), dgN (cd (c + 3))) else (0, c + 3, 0, 0, 0, 0)) else (0, c + 2, 0, 0, 0, 0)) else (0, c + 1, 0, 0, 0, 0))
  else if cd c = 111 then (if dgN (cd (c + 1)) < 10 then (1, c + 2, 3, dgN (cd (c + 1)), 0, 0) else (0, c + 1, 0, 0, 0, 0))
  else if cd c = 98 then (if dgN (cd (c + 1)) < 10 then (if dgN (cd (c + 2)) < 10 then (1, c + 3, 4, dgN (cd (c + 1)), dgN (cd (c + 2)), 0) else (0, c + 2, 0, 0, 0, 0)) else (0, c + 1, 0, 0, 0, 0))
  else if cd c = 100 then (1, c + 1, 5, 0, 0, 0)
  else (0, c, 0, 0, 0, 0)
/-- what the class has of a command -/
def cC (p : Nat × Nat × Nat × Nat × Nat × Nat) (kin : Int32) (tn : Nat → Int32) : Prop :=
  p.1 = 1 → kin = nI p.2.2.1 ∧ (p.2.2.1 < 5 → tn 0 = nI p.2.2.2.1) ∧ (p.2.2.1 < 5 → p.2.2.1 ≠ 3 → tn 1 = nI p.2.2.2.2.1) ∧ (p.2.2.1 = 0 ∨ p.2.2.1 = 2 → tn 2 = nI p.2.2.2.2.2)
def ltN (k : Nat) : Int32 := if k = 0 then 119 else if k = 1 then 109 else if k = 2 then 107 else if k = 3 then 111 else if k = 4 then 98 else 100
/-- what the reference has of it -/
def cM (p : Nat × Nat × Nat × Nat × Nat × Nat) (m m' : Nat) (mc : Nat → Int32) : Prop :=
  p.1 = 1 → m' = m + 1 ∧ mc (4 * m) = ltN p.2.2.1 ∧ (p.2.2.1 < 5 → mc (4 * m + 1) = nI p.2.2.2.1) ∧ (p.2.2.1 < 5 → p.2.2.1 ≠ 3 → mc (4 * m + 2) = nI p.2.2.2.2.1) ∧ (p.2.2.1 = 0 ∨ p.2.2.1 = 2 → mc (4 * m + 3) = nI p.2.2.2.2.2)
theorem c_take (hT : Tx n ti mt) {c : Nat} (hc : c < 900) (kin tol : Int32) (tn : Nat → Int32) : ∃ kin' tol' tn', fX5_takeCommand (nI n) (nI c) kin tol ti tn = some (0, nI (cP (cdN ti n) c).1, nI (cP (cdN ti n) c).2.1, kin', tol', tn') ∧ cC (cP (cdN ti n) c) kin' tn' := by
  have kd := kd_c _ (cd_v hT c).1
  have D0 := fun (tn : Nat → Int32) => tsD hT (c := c + 1) (k := 0) (by omega) (by omega) tn
  have D21 := fun (tn : Nat → Int32) => tsD hT (c := c + 2) (k := 1) (by omega) (by omega) tn
  have D32 := fun (tn : Nat → Int32) => tsD hT (c := c + 3) (k := 2) (by omega) (by omega) tn
  have D31 := fun (tn : Nat → Int32) => tsD hT (c := c + 3) (k := 1) (by omega) (by omega) tn
  have A2 := fun (tn : Nat → Int32) => tsA hT (c := c + 2) (k := 1) (by omega) tn
  have W2 := fun (tn : Nat → Int32) => tsW hT (c := c + 2) (k := 1) (by omega) (by omega) tn
  have S4 := fun (tn : Nat → Int32) => sd_e hT (c := c + 4) (k := 1) (by omega) (by omega) tn
  have z0 : (0 : Int32) = nI 0 := rfl
  have c1 : nI c + 1 = nI (c + 1) := nI_1 c
  rw [fX5_takeCommand, here_c hT (by omega), Option.bind_some, kd, cP, c1]
  by_cases e0 : cdN ti n c = 119
  · rw [if_pos e0, if_neg (by decide), if_pos rfl, show fX5_takeSign (nI n) (nI (c + 1)) 0 ti tn 48 = _ from D0 tn, if_pos e0, Option.bind_some]
    by_cases a : dgN (cdN ti n (c + 1)) < 10
    · rw [if_pos a, if_pos a, if_pos rfl, if_neg n10, D21, Option.bind_some]
      by_cases b : dgN (cdN ti n (c + 2)) < 10
      · rw [if_pos b, if_pos b, if_pos rfl, if_neg n10, D32, Option.bind_some]
        by_cases d : dgN (cdN ti n (c + 3)) < 10
        · rw [if_pos d, if_pos d, if_pos rfl, if_neg n10, if_neg (by decide)]
          exact ⟨_, _, _, rfl, fun _ => ⟨rfl, fun _ => rfl, fun _ _ => rfl, fun _ => rfl⟩⟩
        · rw [if_neg d, if_neg d, if_pos rfl, if_pos rfl]
          exact ⟨_, _, _, rfl, fun q => absurd q (show ¬ (0 : Nat) = 1 by decide)⟩
      · rw [if_neg b, if_neg b, if_pos rfl, if_pos rfl]
        exact ⟨_, _, _, rfl, fun q => absurd q (show ¬ (0 : Nat) = 1 by decide)⟩
    · rw [if_neg a, if_neg a, if_pos rfl, if_pos rfl]
      exact ⟨_, _, _, rfl, fun q => absurd q (show ¬ (0 : Nat) = 1 by decide)⟩
  · rw [if_neg e0, if_neg e0]
    by_cases e1 : cdN ti n c = 109
    · rw [if_pos e1, if_neg (by decide), if_neg (by decide), if_pos rfl, show fX5_takeSign (nI n) (nI (c + 1)) 0 ti tn 48 = _ from D0 tn, if_pos e1, Option.bind_some]
      by_cases a : dgN (cdN ti n (c + 1)) < 10
      · rw [if_pos a, if_pos a, if_pos rfl, if_neg n10, A2, Option.bind_some]
        by_cases b : cdN ti n (c + 2) = 64
        · rw [if_pos b, if_pos b, if_pos rfl, if_neg n10, D31, Option.bind_some]
          by_cases d : dgN (cdN ti n (c + 3)) < 10
          · rw [if_pos d, if_pos d, if_pos rfl, if_neg n10, if_pos rfl, S4, Option.bind_some]
            by_cases f : dgN (cdN ti n (c + 4)) < 10
            · rw [if_pos f, if_pos f]
              refine ⟨_, _, _, rfl, fun _ => ⟨rfl, fun _ => rfl, fun _ _ => ?_, fun q => absurd q (show ¬ ((1 : Nat) = 0 ∨ (1 : Nat) = 2) by decide)⟩⟩
              show (10 * nI (dgN (cdN ti n (c + 3))) + nI (dgN (cdN ti n (c + 4))) : Int32) = nI (10 * dgN (cdN ti n (c + 3)) + dgN (cdN ti n (c + 4)))
              rw [show (10 : Int32) = nI 10 from rfl, pk_mul, nI_add]
            · rw [if_neg f, if_neg f]
              exact ⟨_, _, _, rfl, fun _ => ⟨rfl, fun _ => rfl, fun _ _ => rfl, fun q => absurd q (show ¬ ((1 : Nat) = 0 ∨ (1 : Nat) = 2) by decide)⟩⟩
          · rw [if_neg d, if_neg d, if_pos rfl, if_pos rfl]
            exact ⟨_, _, _, rfl, fun q => absurd q (show ¬ (0 : Nat) = 1 by decide)⟩
        · rw [if_neg b, if_neg b, if_pos rfl, if_pos rfl]
          exact ⟨_, _, _, rfl, fun q => absurd q (show ¬ (0 : Nat) = 1 by decide)⟩
      · rw [if_neg a, if_neg a, if_pos rfl, if_pos rfl]
        exact ⟨_, _, _, rfl, fun q => absurd q (show ¬ (0 : Nat) = 1 by decide)⟩
    · rw [if_neg e1, if_neg e1]
      by_cases e2 : cdN ti n c = 107
      · rw [if_pos e2, if_neg (by decide), if_neg (by decide), if_neg (by decide), if_pos rfl, show fX5_takeSign (nI n) (nI (c + 1)) 0 ti tn 48 = _ from D0 tn, if_pos e2, Option.bind_some]
        by_cases a : dgN (cdN ti n (c + 1)) < 10
        · rw [if_pos a, if_pos a, if_pos rfl, if_neg n10, W2, Option.bind_some]
          by_cases b : wyN (cdN ti n (c + 2)) < 4
          · rw [if_pos b, if_pos b, if_pos rfl, if_neg n10, D32, Option.bind_some]
            by_cases d : dgN (cdN ti n (c + 3)) < 10
            · rw [if_pos d, if_pos d, if_pos rfl, if_neg n10, if_neg (by decide)]
              exact ⟨_, _, _, rfl, fun _ => ⟨rfl, fun _ => rfl, fun _ _ => rfl, fun _ => rfl⟩⟩
            · rw [if_neg d, if_neg d, if_pos rfl, if_pos rfl]
              exact ⟨_, _, _, rfl, fun q => absurd q (show ¬ (0 : Nat) = 1 by decide)⟩
          · rw [if_neg b, if_neg b, if_pos rfl, if_pos rfl]
            exact ⟨_, _, _, rfl, fun q => absurd q (show ¬ (0 : Nat) = 1 by decide)⟩
        · rw [if_neg a, if_neg a, if_pos rfl, if_pos rfl]
          exact ⟨_, _, _, rfl, fun q => absurd q (show ¬ (0 : Nat) = 1 by decide)⟩
      · rw [if_neg e2, if_neg e2]
        by_cases e3 : cdN ti n c = 111
        · rw [if_pos e3, if_neg (by decide), if_neg (by decide), if_neg (by decide), if_neg (by decide), if_pos rfl, show fX5_takeSign (nI n) (nI (c + 1)) 0 ti tn 48 = _ from D0 tn, if_pos e3, Option.bind_some]
          by_cases a : dgN (cdN ti n (c + 1)) < 10
          · rw [if_pos a, if_pos a, if_pos rfl, if_neg n10, if_neg (by decide)]
            exact ⟨_, _, _, rfl, fun _ => ⟨rfl, fun _ => rfl, fun _ q => absurd rfl q, fun q => absurd q (show ¬ ((3 : Nat) = 0 ∨ (3 : Nat) = 2) by decide)⟩⟩
          · rw [if_neg a, if_neg a, if_pos rfl, if_pos rfl]
            exact ⟨_, _, _, rfl, fun q => absurd q (show ¬ (0 : Nat) = 1 by decide)⟩
        · rw [if_neg e3, if_neg e3]
          by_cases e4 : cdN ti n c = 98
          · rw [if_pos e4, if_neg (by decide), if_neg (by decide), if_neg (by decide), if_neg (by decide), if_neg (by decide), if_pos rfl, show fX5_takeSign (nI n) (nI (c + 1)) 0 ti tn 48 = _ from D0 tn, if_pos e4, Option.bind_some]
            by_cases a : dgN (cdN ti n (c + 1)) < 10
            · rw [if_pos a, if_pos a, if_pos rfl, if_neg n10, D21, Option.bind_some]
              by_cases b : dgN (cdN ti n (c + 2)) < 10
              · rw [if_pos b, if_pos b, if_pos rfl, if_neg n10, if_neg (by decide)]
                exact ⟨_, _, _, rfl, fun _ => ⟨rfl, fun _ => rfl, fun _ _ => rfl, fun q => absurd q (show ¬ ((4 : Nat) = 0 ∨ (4 : Nat) = 2) by decide)⟩⟩
              · rw [if_neg b, if_neg b, if_pos rfl, if_pos rfl]
                exact ⟨_, _, _, rfl, fun q => absurd q (show ¬ (0 : Nat) = 1 by decide)⟩
            · rw [if_neg a, if_neg a, if_pos rfl, if_pos rfl]
              exact ⟨_, _, _, rfl, fun q => absurd q (show ¬ (0 : Nat) = 1 by decide)⟩
          · rw [if_neg e4, if_neg e4]
            by_cases e5 : cdN ti n c = 100
            · rw [if_pos e5, if_neg (by decide), if_neg (by decide), if_neg (by decide), if_neg (by decide), if_neg (by decide), if_neg (by decide), if_neg (by decide), if_pos e5]
              exact ⟨_, _, _, rfl, fun _ => ⟨rfl, fun q => absurd q (show ¬ (5 : Nat) < 5 by decide), fun q => absurd q (show ¬ (5 : Nat) < 5 by decide), fun q => absurd q (show ¬ ((5 : Nat) = 0 ∨ (5 : Nat) = 2) by decide)⟩⟩
            · rw [if_neg e5, if_pos rfl, if_neg e5]
              exact ⟨_, _, _, rfl, fun q => absurd q (show ¬ (0 : Nat) = 1 by decide)⟩
-- the reference
theorem m_sign (hT : Tx n ti mt) {c p : Nat} (hc : c < 1000) (hp : 0 < p) (hp2 : p < 128) : fX8_isSign (nI n) (nI c) mt (nI p) = some (if cdN ti n c = p then (1, nI (c + 1)) else (0, nI c)) := by
  obtain ⟨a, b, d⟩ := cd_v hT c
  rw [fX8_isSign, sign_m hT hc, Option.bind_some, fX8_isSign_13, fX8_isSign_28]
  by_cases h : c < n
  · rw [if_pos h]
    by_cases z : cdN ti n c = p
    · rw [if_pos z, if_pos (by rw [z]), if_neg n10, nI_1]; rfl
    · rw [if_neg z, if_neg (fun q => z ((nI_eq (by omega) (by omega)).mp q)), if_pos rfl, Int32.add_zero]; rfl
  · rw [if_neg h, if_neg (fun q => nm1 (c := p) (by omega) q.symm), if_pos rfl, Int32.add_zero, d h, if_neg (by omega)]; rfl
theorem m_num1 (hT : Tx n ti mt) {c i : Nat} (hc : c < 1000) (hi : i < 124) (mc : Nat → Int32) : fX8_isNumber (nI n) (nI c) mt mc 1 (nI i) = some (if dgN (cdN ti n c) < 10 then (1, nI (c + 1), upd mc i (nI (dgN (cdN ti n c)))) else (0, nI c, upd mc i 0)) := by
  obtain ⟨a, b, d⟩ := cd_v hT c
  obtain ⟨g1, g2⟩ := isIn_d _ a
  rw [fX8_isNumber, fX8_isNumber_5, if_neg (by decide), sign_m hT hc, Option.bind_some, fX8_isNumber_54, if_pos (e_vin (by omega) (by omega)), nI_clamp (by omega)]
  by_cases h : c < n
  · rw [if_pos h, g1]
    by_cases z : dgN (cdN ti n c) < 10
    · rw [if_pos z, if_neg n10, if_pos z, Option.bind_some, fX8_isNumber_5, if_pos (by decide), fX8_isNumber_54, if_pos (e_vin (by omega) (by omega)), nI_clamp (by omega), if_neg (by decide), nI_1, show (10 * 0 + nI (cdN ti n c) - 48 : Int32) = nI (cdN ti n c) - 48 from by rw [show (10 * 0 : Int32) = 0 from rfl, Int32.zero_add], (g2 z).1]
    · rw [if_neg z, if_pos rfl, if_neg z]; rfl
  · have z : ¬ dgN (cdN ti n c) < 10 := by rw [d h]; decide
    rw [if_neg h, if_pos (by decide), if_neg z]; rfl
theorem m_num2 (hT : Tx n ti mt) {c i : Nat} (hc : c < 900) (hi : i < 124) (mc : Nat → Int32) : fX8_isNumber (nI n) (nI c) mt mc 2 (nI i) = some (if dgN (cdN ti n c) < 10 then (if dgN (cdN ti n (c + 1)) < 10 then (1, nI (c + 2), upd mc i (nI (10 * dgN (cdN ti n c) + dgN (cdN ti n (c + 1))))) else (1, nI (c + 1), upd mc i (nI (dgN (cdN ti n c))))) else (0, nI c, upd mc i 0)) := by
  obtain ⟨a, b, d⟩ := cd_v hT c
  obtain ⟨a', b', d'⟩ := cd_v hT (c + 1)
  obtain ⟨g1, g2⟩ := isIn_d _ a
  obtain ⟨k1, k2⟩ := isIn_d _ a'
  rw [fX8_isNumber, fX8_isNumber_5, if_neg (by decide), sign_m hT (by omega), Option.bind_some, fX8_isNumber_54, if_pos (e_vin (by omega) (by omega)), nI_clamp (by omega)]
  by_cases h : c < n
  · rw [if_pos h, g1]
    by_cases z : dgN (cdN ti n c) < 10
    · rw [if_pos z, if_neg n10, if_pos z, Option.bind_some, nI_1, show (10 * 0 + nI (cdN ti n c) - 48 : Int32) = nI (cdN ti n c) - 48 from by rw [show (10 * 0 : Int32) = 0 from rfl, Int32.zero_add], (g2 z).1, fX8_isNumber_5, if_neg (by decide), sign_m hT (by omega), Option.bind_some, fX8_isNumber_54, if_pos (e_vin (by omega) (by omega)), nI_clamp (by omega), if_neg (show ¬ (0 + 1 : Int32) ≤ 0 from by decide)]
      by_cases h' : c + 1 < n
      · rw [if_pos h', k1]
        by_cases y : dgN (cdN ti n (c + 1)) < 10
        · have e : (10 * nI (dgN (cdN ti n c)) + nI (cdN ti n (c + 1)) - 48 : Int32) = nI (10 * dgN (cdN ti n c) + dgN (cdN ti n (c + 1))) := by
            rw [Int32.sub_eq_add_neg, Int32.add_assoc, ← Int32.sub_eq_add_neg, (k2 y).1, show (10 : Int32) = nI 10 from rfl, pk_mul, nI_add]
          rw [if_pos y, if_neg n10, if_pos y, Option.bind_some, e, nI_1, fX8_isNumber_5, if_pos (by decide), fX8_isNumber_54, if_pos (e_vin (by omega) (by omega)), nI_clamp (by omega), if_neg (by decide)]
        · rw [if_neg y, if_pos rfl, if_neg y]
      · have y : ¬ dgN (cdN ti n (c + 1)) < 10 := by rw [d' h']; decide
        rw [if_neg h', if_pos (by decide), if_neg y]
    · rw [if_neg z, if_pos rfl, if_neg z]; rfl
  · have z : ¬ dgN (cdN ti n c) < 10 := by rw [d h]; decide
    rw [if_neg h, if_pos (by decide), if_neg z]; rfl
theorem m_way (hT : Tx n ti mt) {c i : Nat} (hc : c < 1000) (hi : i < 124) (mc : Nat → Int32) : fX8_isWay (nI n) (nI c) mt mc (nI i) = some (if wyN (cdN ti n c) < 4 then (0, 1, nI (c + 1), upd mc i (nI (wyN (cdN ti n c)))) else (0, 0, nI c, mc)) := by
  have s0 := m_sign hT hc (p := 110) (by omega) (by omega)
  have s1 := m_sign hT hc (p := 101) (by omega) (by omega)
  have s2 := m_sign hT hc (p := 115) (by omega) (by omega)
  have s3 := m_sign hT hc (p := 119) (by omega) (by omega)
  rw [fX8_isWay, show (110 : Int32) = nI 110 from rfl, show (101 : Int32) = nI 101 from rfl, show (115 : Int32) = nI 115 from rfl, show (119 : Int32) = nI 119 from rfl, s0, Option.bind_some, wyN]
  simp only [e_vin hi (show 124 < 2 ^ 31 by decide), if_true, nI_clamp (show i < 2 ^ 31 by omega)]
  by_cases z0 : cdN ti n c = 110
  · rw [if_pos z0, if_neg n10, if_pos z0, if_pos (by omega)]; rfl
  · rw [if_neg z0, if_pos rfl, s1, Option.bind_some, if_neg z0]
    by_cases z1 : cdN ti n c = 101
    · rw [if_pos z1, if_neg n10, if_pos z1, if_pos (by omega)]; rfl
    · rw [if_neg z1, if_pos rfl, s2, Option.bind_some, if_neg z1]
      by_cases z2 : cdN ti n c = 115
      · rw [if_pos z2, if_neg n10, if_pos z2, if_pos (by omega)]; rfl
      · rw [if_neg z2, if_pos rfl, s3, Option.bind_some, if_neg z2]
        by_cases z3 : cdN ti n c = 119
        · rw [if_pos z3, if_neg n10, if_pos z3, if_pos (by omega)]; rfl
        · rw [if_neg z3, if_pos rfl, if_neg z3, if_neg (by omega)]
end TXT

