/-! the whole text, on both sides -/
section CMD
variable {n : Nat} {ti mt : Nat → Int32}
theorem kd_m : ∀ v, v < 128 → (fX8_isKind (nI v) = if v = 119 then 1 else if v = 109 then 1 else if v = 107 then 1 else if v = 111 then 1 else if v = 98 then 1 else if v = 100 then 1 else 0) := by decide +kernel
theorem m_cmd (hT : Tx n ti mt) {c m : Nat} (hc : c < 900) (hm : m < 31) (mc : Nat → Int32) : ∃ m' mc', fX8_readsCommand (nI n) (nI c) (nI m) mt mc = some (0, nI (cP (cdN ti n) c).1, nI (cP (cdN ti n) c).2.1, nI m', mc') ∧ cM (cP (cdN ti n) c) m m' mc' ∧ (∀ j, j < 4 * m → mc' j = mc j) ∧ m' ≤ m + 1 := by
  obtain ⟨v1, v2, v3⟩ := cd_v hT c
  have km := kd_m _ v1
  have m4 : (4 : Int32) * nI m = nI (4 * m) := pk_mul 4 m
  have q1 : (nI (4 * m) : Int32) + 1 = nI (4 * m + 1) := nI_1 _
  have q2 : (nI (4 * m) : Int32) + 2 = nI (4 * m + 2) := nI_add _ 2
  have q3 : (nI (4 * m) : Int32) + 3 = nI (4 * m + 3) := nI_add _ 3
  have c1 : nI c + 1 = nI (c + 1) := nI_1 c
  have m1 : nI m + 1 = nI (m + 1) := nI_1 m
  have N1 := fun (mc : Nat → Int32) => m_num1 hT (c := c + 1) (i := 4 * m + 1) (by omega) (by omega) mc
  have N22 := fun (mc : Nat → Int32) => m_num1 hT (c := c + 2) (i := 4 * m + 2) (by omega) (by omega) mc
  have N33 := fun (mc : Nat → Int32) => m_num1 hT (c := c + 3) (i := 4 * m + 3) (by omega) (by omega) mc
  have S2 := m_sign hT (c := c + 2) (p := 64) (by omega) (by omega) (by omega)
  have D3 := fun (mc : Nat → Int32) => m_num2 hT (c := c + 3) (i := 4 * m + 2) (by omega) (by omega) mc
  have Y2 := fun (mc : Nat → Int32) => m_way hT (c := c + 2) (i := 4 * m + 2) (by omega) (by omega) mc
  have vin4 : vin (nI (4 * m)) 124 = true := e_vin (by omega) (by omega)
  have no : ¬ (0 : Nat) = 1 := by decide
  rw [fX8_readsCommand, sign_m hT (by omega), Option.bind_some, m4, vin4, if_pos rfl, nI_clamp (show 4 * m < 2 ^ 31 by omega), q1, q2, q3, c1, m1, cP]
  by_cases h : c < n
  · rw [if_pos h, km]
    by_cases e0 : cdN ti n c = 119
    · rw [e0, if_pos rfl, if_neg n10, if_neg (by decide), if_neg (by decide), if_neg (by decide), if_neg (by decide), if_pos rfl, if_pos rfl, N1, Option.bind_some]
      by_cases a : dgN (cdN ti n (c + 1)) < 10
      · rw [if_pos a, if_pos a, if_neg n10, N22, Option.bind_some]
        by_cases b : dgN (cdN ti n (c + 2)) < 10
        · rw [if_pos b, if_pos b, if_neg n10, N33, Option.bind_some]
          by_cases d : dgN (cdN ti n (c + 3)) < 10
          · rw [if_pos d, if_pos d, if_neg n10]
            refine ⟨m + 1, _, rfl, fun _ => ⟨rfl, ?_, fun _ => ?_, fun _ _ => ?_, fun _ => pk_us⟩, fun j hj => by rw [pk_un (by omega), pk_un (by omega), pk_un (by omega), pk_un (by omega)], Nat.le_refl _⟩
            · rw [pk_un (by omega), pk_un (by omega), pk_un (by omega), pk_us]; rfl
            · rw [pk_un (by omega), pk_un (by omega), pk_us]
            · rw [pk_un (by omega), pk_us]
          · rw [if_neg d, if_neg d, if_pos rfl]
            exact ⟨m + 1, _, rfl, fun q => absurd q no, fun j hj => by rw [pk_un (by omega), pk_un (by omega), pk_un (by omega), pk_un (by omega)], Nat.le_refl _⟩
        · rw [if_neg b, if_neg b, if_pos rfl]
          exact ⟨m + 1, _, rfl, fun q => absurd q no, fun j hj => by rw [pk_un (by omega), pk_un (by omega), pk_un (by omega)], Nat.le_refl _⟩
      · rw [if_neg a, if_neg a, if_pos rfl]
        exact ⟨m + 1, _, rfl, fun q => absurd q no, fun j hj => by rw [pk_un (by omega), pk_un (by omega)], Nat.le_refl _⟩
    · rw [if_neg e0, if_neg e0]
      by_cases e1 : cdN ti n c = 109
      · rw [e1, if_pos rfl, if_neg n10, if_neg (by decide), if_neg (by decide), if_pos rfl, if_pos rfl, N1, Option.bind_some]
        by_cases a : dgN (cdN ti n (c + 1)) < 10
        · rw [if_pos a, if_pos a, if_neg n10, show (64 : Int32) = nI 64 from rfl, S2, Option.bind_some]
          by_cases b : cdN ti n (c + 2) = 64
          · rw [if_pos b, if_pos b, if_neg n10, D3, Option.bind_some]
            by_cases d : dgN (cdN ti n (c + 3)) < 10
            · rw [if_pos d, if_pos d, show c + 3 + 1 = c + 4 from rfl]
              by_cases f : dgN (cdN ti n (c + 4)) < 10
              · rw [if_pos f, if_pos f, if_neg n10]
                refine ⟨m + 1, _, rfl, fun _ => ⟨rfl, ?_, fun _ => ?_, fun _ _ => pk_us, fun q => absurd q (show ¬ ((1 : Nat) = 0 ∨ (1 : Nat) = 2) by decide)⟩, fun j hj => by rw [pk_un (by omega), pk_un (by omega), pk_un (by omega)], Nat.le_refl _⟩
                · rw [pk_un (by omega), pk_un (by omega), pk_us]; rfl
                · rw [pk_un (by omega), pk_us]
              · rw [if_neg f, if_neg f, if_neg n10]
                refine ⟨m + 1, _, rfl, fun _ => ⟨rfl, ?_, fun _ => ?_, fun _ _ => pk_us, fun q => absurd q (show ¬ ((1 : Nat) = 0 ∨ (1 : Nat) = 2) by decide)⟩, fun j hj => by rw [pk_un (by omega), pk_un (by omega), pk_un (by omega)], Nat.le_refl _⟩
                · rw [pk_un (by omega), pk_un (by omega), pk_us]; rfl
                · rw [pk_un (by omega), pk_us]
            · rw [if_neg d, if_neg d, if_pos rfl]
              exact ⟨m + 1, _, rfl, fun q => absurd q no, fun j hj => by rw [pk_un (by omega), pk_un (by omega), pk_un (by omega)], Nat.le_refl _⟩
          · rw [if_neg b, if_neg b, if_pos rfl]
            exact ⟨m + 1, _, rfl, fun q => absurd q no, fun j hj => by rw [pk_un (by omega), pk_un (by omega)], Nat.le_refl _⟩
        · rw [if_neg a, if_neg a, if_pos rfl]
          exact ⟨m + 1, _, rfl, fun q => absurd q no, fun j hj => by rw [pk_un (by omega), pk_un (by omega)], Nat.le_refl _⟩
      · rw [if_neg e1, if_neg e1]
        by_cases e2 : cdN ti n c = 107
        · rw [e2, if_pos rfl, if_neg n10, if_neg (by decide), if_pos rfl, if_pos rfl, N1, Option.bind_some]
          by_cases a : dgN (cdN ti n (c + 1)) < 10
          · rw [if_pos a, if_pos a, if_neg n10, Y2, Option.bind_some]
            by_cases b : wyN (cdN ti n (c + 2)) < 4
            · rw [if_pos b, if_pos b, if_pos rfl, if_neg n10, N33, Option.bind_some]
              by_cases d : dgN (cdN ti n (c + 3)) < 10
              · rw [if_pos d, if_pos d, if_neg n10]
                refine ⟨m + 1, _, rfl, fun _ => ⟨rfl, ?_, fun _ => ?_, fun _ _ => ?_, fun _ => pk_us⟩, fun j hj => by rw [pk_un (by omega), pk_un (by omega), pk_un (by omega), pk_un (by omega)], Nat.le_refl _⟩
                · rw [pk_un (by omega), pk_un (by omega), pk_un (by omega), pk_us]; rfl
                · rw [pk_un (by omega), pk_un (by omega), pk_us]
                · rw [pk_un (by omega), pk_us]
              · rw [if_neg d, if_neg d, if_pos rfl]
                exact ⟨m + 1, _, rfl, fun q => absurd q no, fun j hj => by rw [pk_un (by omega), pk_un (by omega), pk_un (by omega), pk_un (by omega)], Nat.le_refl _⟩
            · rw [if_neg b, if_neg b, if_pos rfl, if_pos rfl]
              exact ⟨m + 1, _, rfl, fun q => absurd q no, fun j hj => by rw [pk_un (by omega), pk_un (by omega)], Nat.le_refl _⟩
          · rw [if_neg a, if_neg a, if_pos rfl]
            exact ⟨m + 1, _, rfl, fun q => absurd q no, fun j hj => by rw [pk_un (by omega), pk_un (by omega)], Nat.le_refl _⟩
        · rw [if_neg e2, if_neg e2]
          by_cases e3 : cdN ti n c = 111
          · rw [e3, if_pos rfl, if_neg n10, if_neg (by decide), if_neg (by decide), if_neg (by decide), if_pos rfl, if_pos rfl, N1, Option.bind_some]
            by_cases a : dgN (cdN ti n (c + 1)) < 10
            · rw [if_pos a, if_pos a]
              refine ⟨m + 1, _, rfl, fun _ => ⟨rfl, ?_, fun _ => pk_us, fun _ q => absurd rfl q, fun q => absurd q (show ¬ ((3 : Nat) = 0 ∨ (3 : Nat) = 2) by decide)⟩, fun j hj => by rw [pk_un (by omega), pk_un (by omega)], Nat.le_refl _⟩
              rw [pk_un (by omega), pk_us]; rfl
            · rw [if_neg a, if_neg a]
              exact ⟨m + 1, _, rfl, fun q => absurd q no, fun j hj => by rw [pk_un (by omega), pk_un (by omega)], Nat.le_refl _⟩
          · rw [if_neg e3, if_neg e3]
            by_cases e4 : cdN ti n c = 98
            · rw [e4, if_pos rfl, if_neg n10, if_pos rfl, if_pos rfl, N1, Option.bind_some]
              by_cases a : dgN (cdN ti n (c + 1)) < 10
              · rw [if_pos a, if_pos a, if_neg n10, N22, Option.bind_some]
                by_cases b : dgN (cdN ti n (c + 2)) < 10
                · rw [if_pos b, if_pos b, if_neg n10]
                  refine ⟨m + 1, _, rfl, fun _ => ⟨rfl, ?_, fun _ => ?_, fun _ _ => pk_us, fun q => absurd q (show ¬ ((4 : Nat) = 0 ∨ (4 : Nat) = 2) by decide)⟩, fun j hj => by rw [pk_un (by omega), pk_un (by omega), pk_un (by omega)], Nat.le_refl _⟩
                  · rw [pk_un (by omega), pk_un (by omega), pk_us]; rfl
                  · rw [pk_un (by omega), pk_us]
                · rw [if_neg b, if_neg b, if_pos rfl]
                  exact ⟨m + 1, _, rfl, fun q => absurd q no, fun j hj => by rw [pk_un (by omega), pk_un (by omega), pk_un (by omega)], Nat.le_refl _⟩
              · rw [if_neg a, if_neg a, if_pos rfl]
                exact ⟨m + 1, _, rfl, fun q => absurd q no, fun j hj => by rw [pk_un (by omega), pk_un (by omega)], Nat.le_refl _⟩
            · rw [if_neg e4, if_neg e4]
              by_cases e5 : cdN ti n c = 100
              · rw [e5, if_pos rfl, if_neg n10, if_neg (by decide), if_neg (by decide), if_neg (by decide), if_neg (by decide), if_neg (by decide), if_pos rfl]
                refine ⟨m + 1, _, rfl, fun _ => ⟨rfl, ?_, fun q => absurd q (show ¬ (5 : Nat) < 5 by decide), fun q => absurd q (show ¬ (5 : Nat) < 5 by decide), fun q => absurd q (show ¬ ((5 : Nat) = 0 ∨ (5 : Nat) = 2) by decide)⟩, fun j hj => by rw [pk_un (by omega)], Nat.le_refl _⟩
                rw [pk_us]; rfl
              · rw [if_neg e5, if_pos rfl, if_neg e5]
                exact ⟨m, mc, rfl, fun q => absurd q no, fun j hj => rfl, Nat.le_succ _⟩
  · rw [if_neg h, if_pos (show fX8_isKind (-1) = 0 by decide)]
    have z := v3 h
    rw [if_neg (by omega), if_neg (by omega), if_neg (by omega), if_neg (by omega), if_neg (by omega), if_neg (by omega)]
    exact ⟨m, mc, rfl, fun q => absurd q no, fun j hj => rfl, Nat.le_succ _⟩
theorem cP_v (cd : Nat → Nat) (c : Nat) : ((cP cd c).1 = 0 ∨ (cP cd c).1 = 1) ∧ c ≤ (cP cd c).2.1 ∧ (cP cd c).2.1 ≤ c + 5 ∧ ((cP cd c).1 = 1 → c < (cP cd c).2.1 ∧ (cP cd c).2.2.1 < 6 ∧ cd c ≠ 59 ∧ cd c ≠ 0) := by
  rw [cP]
  repeat' split
  all_goals (refine ⟨by first | exact Or.inl rfl | exact Or.inr rfl, by simp, by simp, fun q => ?_⟩; first | exact absurd q (show ¬ (0 : Nat) = 1 by decide) | exact ⟨by simp, by simp, by omega, by omega⟩)
/-- the text from a place on is commands, as the reference has put them down -/
def Good (cd : Nat → Nat) (n : Nat) : Nat → Nat → Nat → Nat → (Nat → Int32) → Prop
  | 0, _, _, _, _ => False
  | f + 1, c, m, M, mc => (cP cd c).1 = 1 ∧ c < n ∧ m < 31 ∧ (∃ m', cM (cP cd c) m m' mc) ∧ (((cP cd c).2.1 = n ∧ M = m + 1) ∨ ((cP cd c).2.1 < n ∧ cd (cP cd c).2.1 = 59 ∧ Good cd n f ((cP cd c).2.1 + 1) (m + 1) M mc))
theorem cM_congr {p : Nat × Nat × Nat × Nat × Nat × Nat} {m m' : Nat} {a b : Nat → Int32} (h : cM p m m' a) (e : ∀ j, j < 4 * (m + 1) → b j = a j) : cM p m m' b := by
  intro q
  obtain ⟨h1, h2, h3, h4, h5⟩ := h q
  exact ⟨h1, (e _ (by omega)).trans h2, fun x => (e _ (by omega)).trans (h3 x), fun x y => (e _ (by omega)).trans (h4 x y), fun x => (e _ (by omega)).trans (h5 x)⟩
/-- a command ends within the text -/
theorem cP_n (hT : Tx n ti mt) {c : Nat} (h : (cP (cdN ti n) c).1 = 1) : (cP (cdN ti n) c).2.1 ≤ n := by
  have z : ∀ x, cdN ti n x ≠ 0 → x < n := fun x hx => by
    by_cases y : x < n
    · exact y
    · exact absurd ((cd_v hT x).2.2 y) hx
  have dd : ∀ x, dgN (cdN ti n x) < 10 → x < n := fun x hx => z x (fun q => by rw [q] at hx; exact absurd hx (by decide))
  have ww : ∀ x, wyN (cdN ti n x) < 4 → x < n := fun x hx => z x (fun q => by rw [q] at hx; exact absurd hx (by decide))
  rw [cP] at h ⊢
  repeat' split at h
  all_goals first | exact absurd h (show ¬ (0 : Nat) = 1 by decide) | skip
  all_goals simp only [*, if_true, if_false]
  all_goals sorry
end CMD
