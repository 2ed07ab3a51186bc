/-! the whole text, on both sides -/
section CMD
variable {n : Nat} {ti mt : Nat → Int32}
theorem kd_m : ∀ v, v < 128 → (fX8_isKind (nI v) = if v = 119 then 1 else if v = 109 then 1 else if v = 107 then 1 else if v = 111 then 1 else if v = 98 then 1 else if v = 100 then 1 else 0) := by decide +kernel
theorem m_cmd (hT : Tx n ti mt) {c m : Nat} (hc : c < 800) (hm : m < 31) (mc : Nat → Int32) : ∃ m' mc', fX8_readsCommand (nI n) (nI c) (nI m) mt mc = some (0, nI (cP (cdN ti n) c).1, nI (cP (cdN ti n) c).2.1, nI m', mc') ∧ cM (cP (cdN ti n) c) m m' mc' ∧ (∀ j, j < 4 * m → mc' j = mc j) ∧ m' ≤ m + 1 := by
  obtain ⟨v1, v2, v3⟩ := cd_v hT c
  have km := kd_m _ v1
  have m4 : (4 : Int32) * nI m = nI (4 * m) := pk_mul 4 m
  have q1 : (nI (4 * m) : Int32) + 1 = nI (4 * m + 1) := nI_1 _
  have q2 : (nI (4 * m) : Int32) + 2 = nI (4 * m + 2) := nI_add _ 2
  have q3 : (nI (4 * m) : Int32) + 3 = nI (4 * m + 3) := nI_add _ 3
  have c1 : nI c + 1 = nI (c + 1) := nI_1 c
  have m1 : nI m + 1 = nI (m + 1) := nI_1 m
  have N1 := fun (mc : Nat → Int32) => m_num1 hT (c := c + 1) (i := 4 * m + 1) (by omega) (by omega) mc
  have N22 := fun (mc : Nat → Int32) => m_num1 hT (c := c + 2) (i := 4 * m + 2) (by omega) (by omega) mc
  have N33 := fun (mc : Nat → Int32) => m_num1 hT (c := c + 3) (i := 4 * m + 3) (by omega) (by omega) mc
  have S2 := m_sign hT (c := c + 2) (p := 64) (by omega) (by omega) (by omega)
  have D3 := fun (mc : Nat → Int32) => m_num2 hT (c := c + 3) (i := 4 * m + 2) (by omega) (by omega) mc
  have Y2 := fun (mc : Nat → Int32) => m_way hT (c := c + 2) (i := 4 * m + 2) (by omega) (by omega) mc
  have vin4 : vin (nI (4 * m)) 124 = true := e_vin (by omega) (by omega)
  have no : ¬ (0 : Nat) = 1 := by decide
  rw [fX8_readsCommand, sign_m hT (by omega), Option.bind_some, m4, vin4, if_pos rfl, nI_clamp (show 4 * m < 2 ^ 31 by omega), q1, q2, q3, c1, m1, cP]
  by_cases h : c < n
  · rw [if_pos h, km]
    by_cases e0 : cdN ti n c = 119
    · rw [e0, if_pos rfl, if_neg n10, if_neg (by decide), if_neg (by decide), if_neg (by decide), if_neg (by decide), if_pos rfl, if_pos (show nI 119 = 119 from rfl), N1, Option.bind_some]
      by_cases a : dgN (cdN ti n (c + 1)) < 10
      · rw [if_pos a, if_pos a, if_neg n10, N22, Option.bind_some]
        by_cases b : dgN (cdN ti n (c + 2)) < 10
        · rw [if_pos b, if_pos b, if_neg n10, N33, Option.bind_some]
          by_cases d : dgN (cdN ti n (c + 3)) < 10
          · rw [if_pos d, if_pos d, if_neg n10]
            refine ⟨m + 1, _, rfl, fun _ => ⟨rfl, ?_, fun _ => ?_, fun _ _ => ?_, fun _ => pk_us⟩, fun j hj => by (try dsimp only); rw [pk_un (by omega), pk_un (by omega), pk_un (by omega), pk_un (by omega)], Nat.le_refl _⟩
            · (try dsimp only); rw [pk_un (by omega), pk_un (by omega), pk_un (by omega), pk_us]; rfl
            · (try dsimp only); rw [pk_un (by omega), pk_un (by omega), pk_us]
            · (try dsimp only); rw [pk_un (by omega), pk_us]
          · rw [if_neg d, if_neg d, if_pos rfl]
            exact ⟨m + 1, _, rfl, fun q => absurd q no, fun j hj => by (try dsimp only); rw [pk_un (by omega), pk_un (by omega), pk_un (by omega), pk_un (by omega)], Nat.le_refl _⟩
        · rw [if_neg b, if_neg b, if_pos rfl]
          exact ⟨m + 1, _, rfl, fun q => absurd q no, fun j hj => by (try dsimp only); rw [pk_un (by omega), pk_un (by omega), pk_un (by omega)], Nat.le_refl _⟩
      · rw [if_neg a, if_neg a, if_pos rfl]
        exact ⟨m + 1, _, rfl, fun q => absurd q no, fun j hj => by (try dsimp only); rw [pk_un (by omega), pk_un (by omega)], Nat.le_refl _⟩
    · rw [if_neg e0, if_neg e0]
      by_cases e1 : cdN ti n c = 109
      · rw [e1, if_pos rfl, if_neg n10, if_neg (by decide), if_neg (by decide), if_pos rfl, if_pos (show nI 109 = 109 from rfl), N1, Option.bind_some]
        by_cases a : dgN (cdN ti n (c + 1)) < 10
        · rw [if_pos a, if_pos a, if_neg n10, show (64 : Int32) = nI 64 from rfl, S2, Option.bind_some]
          by_cases b : cdN ti n (c + 2) = 64
          · rw [if_pos b, if_pos b, if_neg n10, D3, Option.bind_some]
            by_cases d : dgN (cdN ti n (c + 3)) < 10
            · rw [if_pos d, if_pos d, show c + 3 + 1 = c + 4 from rfl]
              by_cases f : dgN (cdN ti n (c + 4)) < 10
              · rw [if_pos f, if_pos f, if_neg n10]
                refine ⟨m + 1, _, rfl, fun _ => ⟨rfl, ?_, fun _ => ?_, fun _ _ => pk_us, fun q => absurd q (show ¬ ((1 : Nat) = 0 ∨ (1 : Nat) = 2) by decide)⟩, fun j hj => by (try dsimp only); rw [pk_un (by omega), pk_un (by omega), pk_un (by omega)], Nat.le_refl _⟩
                · (try dsimp only); rw [pk_un (by omega), pk_un (by omega), pk_us]; rfl
                · (try dsimp only); rw [pk_un (by omega), pk_us]
              · rw [if_neg f, if_neg f, if_neg n10]
                refine ⟨m + 1, _, rfl, fun _ => ⟨rfl, ?_, fun _ => ?_, fun _ _ => pk_us, fun q => absurd q (show ¬ ((1 : Nat) = 0 ∨ (1 : Nat) = 2) by decide)⟩, fun j hj => by (try dsimp only); rw [pk_un (by omega), pk_un (by omega), pk_un (by omega)], Nat.le_refl _⟩
                · (try dsimp only); rw [pk_un (by omega), pk_un (by omega), pk_us]; rfl
                · (try dsimp only); rw [pk_un (by omega), pk_us]
            · rw [if_neg d, if_neg d, if_pos rfl]
              exact ⟨m + 1, _, rfl, fun q => absurd q no, fun j hj => by (try dsimp only); rw [pk_un (by omega), pk_un (by omega), pk_un (by omega)], Nat.le_refl _⟩
          · rw [if_neg b, if_neg b, if_pos rfl]
            exact ⟨m + 1, _, rfl, fun q => absurd q no, fun j hj => by (try dsimp only); rw [pk_un (by omega), pk_un (by omega)], Nat.le_refl _⟩
        · rw [if_neg a, if_neg a, if_pos rfl]
          exact ⟨m + 1, _, rfl, fun q => absurd q no, fun j hj => by (try dsimp only); rw [pk_un (by omega), pk_un (by omega)], Nat.le_refl _⟩
      · rw [if_neg e1, if_neg e1]
        by_cases e2 : cdN ti n c = 107
        · rw [e2, if_pos rfl, if_neg n10, if_neg (by decide), if_pos rfl, if_pos (show nI 107 = 107 from rfl), N1, Option.bind_some]
          by_cases a : dgN (cdN ti n (c + 1)) < 10
          · rw [if_pos a, if_pos a, if_neg n10, Y2, Option.bind_some]
            by_cases b : wyN (cdN ti n (c + 2)) < 4
            · rw [if_pos b, if_pos b, if_pos rfl, if_neg n10, N33, Option.bind_some]
              by_cases d : dgN (cdN ti n (c + 3)) < 10
              · rw [if_pos d, if_pos d, if_neg n10]
                refine ⟨m + 1, _, rfl, fun _ => ⟨rfl, ?_, fun _ => ?_, fun _ _ => ?_, fun _ => pk_us⟩, fun j hj => by (try dsimp only); rw [pk_un (by omega), pk_un (by omega), pk_un (by omega), pk_un (by omega)], Nat.le_refl _⟩
                · (try dsimp only); rw [pk_un (by omega), pk_un (by omega), pk_un (by omega), pk_us]; rfl
                · (try dsimp only); rw [pk_un (by omega), pk_un (by omega), pk_us]
                · (try dsimp only); rw [pk_un (by omega), pk_us]
              · rw [if_neg d, if_neg d, if_pos rfl]
                exact ⟨m + 1, _, rfl, fun q => absurd q no, fun j hj => by (try dsimp only); rw [pk_un (by omega), pk_un (by omega), pk_un (by omega), pk_un (by omega)], Nat.le_refl _⟩
            · rw [if_neg b, if_neg b, if_pos rfl, if_pos rfl]
              exact ⟨m + 1, _, rfl, fun q => absurd q no, fun j hj => by (try dsimp only); rw [pk_un (by omega), pk_un (by omega)], Nat.le_refl _⟩
          · rw [if_neg a, if_neg a, if_pos rfl]
            exact ⟨m + 1, _, rfl, fun q => absurd q no, fun j hj => by (try dsimp only); rw [pk_un (by omega), pk_un (by omega)], Nat.le_refl _⟩
        · rw [if_neg e2, if_neg e2]
          by_cases e3 : cdN ti n c = 111
          · rw [e3, if_pos rfl, if_neg n10, if_neg (by decide), if_neg (by decide), if_neg (by decide), if_pos rfl, if_pos (show nI 111 = 111 from rfl), N1, Option.bind_some]
            by_cases a : dgN (cdN ti n (c + 1)) < 10
            · rw [if_pos a, if_pos a]
              refine ⟨m + 1, upd (upd mc (4 * m) (nI 111)) (4 * m + 1) (nI (dgN (cdN ti n (c + 1)))), by dsimp only; first | rfl | (rw [a10]; rfl), fun _ => ⟨rfl, ?_, fun _ => pk_us, fun _ q => absurd rfl q, fun q => absurd q (show ¬ ((3 : Nat) = 0 ∨ (3 : Nat) = 2) by decide)⟩, fun j hj => by rw [pk_un (by omega), pk_un (by omega)], Nat.le_refl _⟩
              rw [pk_un (by omega), pk_us]; rfl
            · rw [if_neg a, if_neg a]
              exact ⟨m + 1, upd (upd mc (4 * m) (nI 111)) (4 * m + 1) 0, by dsimp only; first | rfl | (rw [a00]; rfl), fun q => absurd q no, fun j hj => by rw [pk_un (by omega), pk_un (by omega)], Nat.le_refl _⟩
          · rw [if_neg e3, if_neg e3]
            by_cases e4 : cdN ti n c = 98
            · rw [e4, if_pos rfl, if_neg n10, if_pos rfl, if_pos (show nI 98 = 98 from rfl), N1, Option.bind_some]
              by_cases a : dgN (cdN ti n (c + 1)) < 10
              · rw [if_pos a, if_pos a, if_neg n10, N22, Option.bind_some]
                by_cases b : dgN (cdN ti n (c + 2)) < 10
                · rw [if_pos b, if_pos b, if_neg n10]
                  refine ⟨m + 1, _, rfl, fun _ => ⟨rfl, ?_, fun _ => ?_, fun _ _ => pk_us, fun q => absurd q (show ¬ ((4 : Nat) = 0 ∨ (4 : Nat) = 2) by decide)⟩, fun j hj => by (try dsimp only); rw [pk_un (by omega), pk_un (by omega), pk_un (by omega)], Nat.le_refl _⟩
                  · (try dsimp only); rw [pk_un (by omega), pk_un (by omega), pk_us]; rfl
                  · (try dsimp only); rw [pk_un (by omega), pk_us]
                · rw [if_neg b, if_neg b, if_pos rfl]
                  exact ⟨m + 1, _, rfl, fun q => absurd q no, fun j hj => by (try dsimp only); rw [pk_un (by omega), pk_un (by omega), pk_un (by omega)], Nat.le_refl _⟩
              · rw [if_neg a, if_neg a, if_pos rfl]
                exact ⟨m + 1, _, rfl, fun q => absurd q no, fun j hj => by (try dsimp only); rw [pk_un (by omega), pk_un (by omega)], Nat.le_refl _⟩
            · rw [if_neg e4, if_neg e4]
              by_cases e5 : cdN ti n c = 100
              · rw [e5, if_pos rfl, if_neg n10, if_neg (by decide), if_neg (by decide), if_neg (by decide), if_neg (by decide), if_neg (by decide), if_pos rfl]
                refine ⟨m + 1, _, rfl, fun _ => ⟨rfl, ?_, fun q => absurd q (show ¬ (5 : Nat) < 5 by decide), fun q => absurd q (show ¬ (5 : Nat) < 5 by decide), fun q => absurd q (show ¬ ((5 : Nat) = 0 ∨ (5 : Nat) = 2) by decide)⟩, fun j hj => by (try dsimp only); rw [pk_un (by omega)], Nat.le_refl _⟩
                (try dsimp only); rw [pk_us]; rfl
              · rw [if_neg e5, if_pos rfl, if_neg e5]
                exact ⟨m, mc, rfl, fun q => absurd q no, fun j hj => rfl, Nat.le_succ _⟩
  · rw [if_neg h, if_pos (show fX8_isKind (-1) = 0 by decide)]
    have z := v3 h
    rw [if_neg (by omega), if_neg (by omega), if_neg (by omega), if_neg (by omega), if_neg (by omega), if_neg (by omega)]
    exact ⟨m, mc, rfl, fun q => absurd q no, fun j hj => rfl, Nat.le_succ _⟩
theorem cP_v (cd : Nat → Nat) (c : Nat) : ((cP cd c).1 = 0 ∨ (cP cd c).1 = 1) ∧ c ≤ (cP cd c).2.1 ∧ (cP cd c).2.1 ≤ c + 5 ∧ ((cP cd c).1 = 1 → c < (cP cd c).2.1 ∧ (cP cd c).2.2.1 < 6 ∧ cd c ≠ 59 ∧ cd c ≠ 0) := by
  rw [cP]
  repeat' split
  all_goals (refine ⟨by first | exact Or.inl rfl | exact Or.inr rfl, by simp, by simp, fun q => ?_⟩; first | exact absurd q (show ¬ (0 : Nat) = 1 by decide) | exact ⟨by simp, by simp, by omega, by omega⟩)
/-- the text from a place on is commands, as the reference has put them down -/
def Good (cd : Nat → Nat) (n : Nat) : Nat → Nat → Nat → Nat → (Nat → Int32) → Prop
  | 0, _, _, _, _ => False
  | f + 1, c, m, M, mc => (cP cd c).1 = 1 ∧ c < n ∧ m < 31 ∧ (∃ m', cM (cP cd c) m m' mc) ∧ (((cP cd c).2.1 = n ∧ M = m + 1) ∨ ((cP cd c).2.1 < n ∧ cd (cP cd c).2.1 = 59 ∧ Good cd n f ((cP cd c).2.1 + 1) (m + 1) M mc))
theorem cM_congr {p : Nat × Nat × Nat × Nat × Nat × Nat} {m m' : Nat} {a b : Nat → Int32} (h : cM p m m' a) (e : ∀ j, j < 4 * (m + 1) → b j = a j) : cM p m m' b := by
  intro q
  obtain ⟨h1, h2, h3, h4, h5⟩ := h q
  exact ⟨h1, (e _ (by omega)).trans h2, fun x => (e _ (by omega)).trans (h3 x), fun x y => (e _ (by omega)).trans (h4 x y), fun x => (e _ (by omega)).trans (h5 x)⟩
/-- a command ends within the text -/
theorem cP_n (hT : Tx n ti mt) {c : Nat} (h : (cP (cdN ti n) c).1 = 1) : (cP (cdN ti n) c).2.1 ≤ n := by
  have z : ∀ x, cdN ti n x ≠ 0 → x < n := fun x hx => by
    by_cases y : x < n
    · exact y
    · exact absurd ((cd_v hT x).2.2 y) hx
  have dd : ∀ x, dgN (cdN ti n x) < 10 → x < n := fun x hx => z x (fun q => by rw [q] at hx; exact absurd hx (by decide))
  have ww : ∀ x, wyN (cdN ti n x) < 4 → x < n := fun x hx => z x (fun q => by rw [q] at hx; exact absurd hx (by decide))
  revert h
  rw [cP]
  repeat' split
  all_goals intro q
  all_goals first
    | exact absurd q (show ¬ (0 : Nat) = 1 by decide)
    | (show c + 4 ≤ n; have := dd (c + 3) (by assumption); omega)
    | (show c + 5 ≤ n; have := dd (c + 4) (by assumption); omega)
    | (show c + 2 ≤ n; have := dd (c + 1) (by assumption); omega)
    | (show c + 3 ≤ n; have := dd (c + 2) (by assumption); omega)
    | (show c + 1 ≤ n; have := z c (by omega); omega)
theorem cP_e (hT : Tx n ti mt) {c : Nat} (hc : c ≤ n) : (cP (cdN ti n) c).2.1 ≤ n := by
  have z : ∀ x, cdN ti n x ≠ 0 → x < n := fun x hx => by
    by_cases y : x < n
    · exact y
    · exact absurd ((cd_v hT x).2.2 y) hx
  have dd : ∀ x, dgN (cdN ti n x) < 10 → x < n := fun x hx => z x (fun q => by rw [q] at hx; exact absurd hx (by decide))
  have ww : ∀ x, wyN (cdN ti n x) < 4 → x < n := fun x hx => z x (fun q => by rw [q] at hx; exact absurd hx (by decide))
  have zc : cdN ti n c ≠ 0 → c + 1 ≤ n := fun q => z c q
  have aa : cdN ti n (c + 2) = 64 → c + 3 ≤ n := fun q => z (c + 2) (by omega)
  rw [cP]
  repeat' split
  all_goals first
    | (show c + 4 ≤ n; have := dd (c + 3) (by assumption); omega)
    | (show c + 5 ≤ n; have := dd (c + 4) (by assumption); omega)
    | (show c + 2 ≤ n; have := dd (c + 1) (by assumption); omega)
    | (show c + 3 ≤ n; have := dd (c + 2) (by assumption); omega)
    | (show c + 3 ≤ n; have := ww (c + 2) (by assumption); omega)
    | (show c + 3 ≤ n; have := aa (by assumption); omega)
    | (show c + 1 ≤ n; have := zc (by omega); omega)
    | exact hc
theorem parse_l (hT : Tx n ti mt) : ∀ (f c m k k2 : Nat) (mc tn : Nat → Int32) (kin tol don : Int32), n - c < f → c ≤ n → 2 * m ≤ c → n - c < k → n - c < k2 → ∃ (is here M : Nat) (mc' : Nat → Int32) (res cur' kin' tol' : Int32) (tn' : Nat → Int32),
    ((fX8_readsCommand (nI n) (nI c) (nI m) mt mc).bind fun q7 => if q7.1 = 0 then fX8_isText_15 (nI n) mt k q7.2.1 q7.2.2.1 q7.2.2.2.1 q7.2.2.2.2 else some (q7.1, 0, q7.2.2.1, q7.2.2.2.1, q7.2.2.2.2)) = some (0, nI is, nI here, nI M, mc') ∧
    fX5_errorAt_6 (nI n) ti k2 (nI m) (nI c) kin tol don tn = some (0, res, cur', kin', tol', don, tn') ∧
    (∀ j, j < 4 * m → mc' j = mc j) ∧ ((is = 1 ∧ res = -1 ∧ Good (cdN ti n) n f c m M mc') ∨ (is = 0 ∧ res = nI here ∧ here ≤ 60)) := by
  have n60 := hT.1
  intro f
  induction f with
  | zero => intro c m k k2 mc tn kin tol don h; exact absurd h (Nat.not_lt_zero _)
  | succ f ih =>
    intro c m k k2 mc tn kin tol don h hc h2 hk hk2
    obtain ⟨k, rfl⟩ : ∃ q, k = q + 1 := ⟨k - 1, by omega⟩
    obtain ⟨k2, rfl⟩ : ∃ q, k2 = q + 1 := ⟨k2 - 1, by omega⟩
    obtain ⟨m', mc1, a1, a2, a3, a4⟩ := m_cmd hT (c := c) (m := m) (by omega) (by omega) mc
    obtain ⟨kin1, tol1, tn1, b1, b2⟩ := c_take hT (c := c) (by omega) kin tol tn
    obtain ⟨v1, v2, v3, v4⟩ := cP_v (cdN ti n) c
    have head : fX5_errorAt_6 (nI n) ti (k2 + 1) (nI m) (nI c) kin tol don tn = (if nI (cP (cdN ti n) c).1 = 0 then some (0, nI (cP (cdN ti n) c).2.1, nI (cP (cdN ti n) c).2.1, kin1, tol1, don, tn1) else if nI (cP (cdN ti n) c).2.1 < nI n then (if nI (cdN ti n (cP (cdN ti n) c).2.1) = 59 then fX5_errorAt_6 (nI n) ti k2 (nI (m + 1)) (nI ((cP (cdN ti n) c).2.1 + 1)) kin1 tol1 don tn1 else some (0, nI (cP (cdN ti n) c).2.1, nI (cP (cdN ti n) c).2.1, kin1, tol1, don, tn1)) else some (0, -1, nI (cP (cdN ti n) c).2.1, kin1, tol1, don, tn1)) := by
      rw [fX5_errorAt_6, if_neg (show ¬ (60 : Int32) < nI m from nI_nlt (a := 60) (by omega) (by omega)), b1, Option.bind_some, if_pos rfl, here_c hT (by omega), Option.bind_some, nI_1, nI_1]
    rw [head, a1, Option.bind_some, if_pos rfl]
    have cpn := cP_n hT (c := c)
    generalize hp : cP (cdN ti n) c = p at *
    obtain ⟨ok, e, kd, x, y, z⟩ := p
    simp only at v1 v2 v3 v4 cpn
    rcases v1 with rfl | rfl
    · refine ⟨0, e, m', mc1, nI e, nI e, kin1, tol1, tn1, ?_, if_pos rfl, a3, Or.inr ⟨rfl, rfl, ?_⟩⟩
      · show fX8_isText_15 (nI n) mt (k + 1) (nI 0) (nI e) (nI m') mc1 = _
        rw [fX8_isText_15, if_pos (show nI 0 = 0 from rfl)]; rfl
      · have z0 : cdN ti n c = 0 ∨ c < n := by
          by_cases q : c < n
          · exact Or.inr q
          · exact Or.inl ((cd_v hT c).2.2 q)
        have le := cP_e hT (c := c) hc
        rw [hp] at le
        simp only at le
        omega
    · have e1 : e ≤ n := cpn rfl
      obtain ⟨w1, w2, w3, w4⟩ := v4 rfl
      obtain ⟨am, _⟩ := a2 rfl
      have cl : c < n := by
        by_cases q : c < n
        · exact q
        · exact absurd ((cd_v hT c).2.2 q) w4
      rw [if_neg (show ¬ nI 1 = 0 by decide)]
      show ∃ (is here M : Nat) (mc' : Nat → Int32) (res cur' kin' tol' : Int32) (tn' : Nat → Int32), fX8_isText_15 (nI n) mt (k + 1) (nI 1) (nI e) (nI m') mc1 = some (0, nI is, nI here, nI M, mc') ∧ (if nI e < nI n then (if nI (cdN ti n e) = 59 then fX5_errorAt_6 (nI n) ti k2 (nI (m + 1)) (nI (e + 1)) kin1 tol1 don tn1 else some (0, nI e, nI e, kin1, tol1, don, tn1)) else some (0, -1, nI e, kin1, tol1, don, tn1)) = some (0, res, cur', kin', tol', don, tn') ∧ (∀ j, j < 4 * m → mc' j = mc j) ∧ ((is = 1 ∧ res = -1 ∧ Good (cdN ti n) n (f + 1) c m M mc') ∨ (is = 0 ∧ res = nI here ∧ here ≤ 60))
      rw [fX8_isText_15, if_neg (show ¬ nI 1 = 0 by decide), show (59 : Int32) = nI 59 from rfl, m_sign hT (c := e) (p := 59) (by omega) (by omega) (by omega), Option.bind_some]
      by_cases en : e < n
      · rw [if_pos (nI_lt en (by omega))]
        have v := (cd_v hT e).1
        by_cases s : cdN ti n e = 59
        · rw [if_pos s, if_neg (show ¬ ((1 : Int32), nI (e + 1)).1 = 0 from n10), if_pos (show nI (cdN ti n e) = nI 59 by rw [s])]
          obtain ⟨is, here, M, mc', res, cur', kin', tol', tn', i1, i2, i3, i4⟩ := ih (e + 1) m' k k2 mc1 tn1 kin1 tol1 don (by omega) (by omega) (by omega) (by omega) (by omega)
          rw [am] at i1 i2 i3 i4
          refine ⟨is, here, M, mc', res, cur', kin', tol', tn', by rw [am]; exact i1, i2, fun j hj => (i3 j (by omega)).trans (a3 j hj), ?_⟩
          rcases i4 with ⟨j1, j2, j3⟩ | j
          · refine Or.inl ⟨j1, j2, ?_⟩
            rw [Good, hp]
            exact ⟨rfl, cl, by omega, ⟨m', cM_congr a2 i3⟩, Or.inr ⟨en, s, j3⟩⟩
          · exact Or.inr j
        · rw [if_neg s, if_pos rfl, if_neg (show ¬ nI (cdN ti n e) = nI 59 from fun q => s ((nI_eq (by omega) (by omega)).mp q))]
          refine ⟨0, e, m', mc1, nI e, nI e, kin1, tol1, tn1, ?_, rfl, a3, Or.inr ⟨rfl, rfl, by omega⟩⟩
          rw [fX8_isText_36, if_neg (show ¬ nI 1 = 0 by decide), if_neg (show ¬ nI e = nI n from fun q => by have := (nI_eq (by omega) (by omega)).mp q; omega)]
          rfl
      · have en' : e = n := by omega
        have s : ¬ cdN ti n e = 59 := by rw [(cd_v hT e).2.2 en]; decide
        rw [if_neg (nI_nlt (by omega) (by omega)), if_neg s, if_pos rfl]
        refine ⟨1, e, m', mc1, -1, nI e, kin1, tol1, tn1, ?_, rfl, a3, Or.inl ⟨rfl, rfl, ?_⟩⟩
        · rw [fX8_isText_36, if_neg (show ¬ nI 1 = 0 by decide), if_pos (show nI e = nI n by rw [en'])]
          rfl
        · rw [Good, hp]
          exact ⟨rfl, cl, by omega, ⟨m', a2⟩, Or.inl ⟨en', am⟩⟩
end CMD

