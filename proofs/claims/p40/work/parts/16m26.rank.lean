/-! orders, the text -/
def oI : Option Nat → Int32
  | none => -1
  | some v => nI v
def freshB (gw : Nat → Int32) (w v : Nat) : Bool := decide (0 < gw (9 * w + 3) - gw (9 * v + 3) ∨ gw (9 * w + 3) - gw (9 * v + 3) = 0 ∧ ¬ gw (9 * w + 1) ≤ gw (9 * v + 1))
def pCf (gw : Nat → Int32) (t : Int32) (i : Nat) : Bool := decide (gw (9 * i) = t ∧ gw (9 * i + 4) = -1)
def calfT (gw : Nat → Int32) (i : Nat) : Option Nat → Option Nat
  | none => some i
  | some v => if freshB gw i v = true then some i else some v
def calfS (gw : Nat → Int32) (t : Int32) (i : Nat) (a : Option Nat) : Option Nat :=
  if pCf gw t i = true then calfT gw i a else a
def calfF (gw : Nat → Int32) (t : Int32) : Nat → Nat → Option Nat → Option Nat
  | _, 0, a => a
  | i, j + 1, a => calfF gw t (i + 1) j (calfS gw t i a)
theorem fresher_c {gw : Nat → Int32} {w v : Nat} (hw : w < 10) (hv : v < 10) : fX7_isFresher gw (nI w) (nI v) = some (if freshB gw w v = true then 1 else 0) := by
  rw [fX7_isFresher, of3 gw hw, of3 gw hv, of1 gw hw, of1 gw hv, Option.bind_some, Option.bind_some, Option.bind_some, Option.bind_some, freshB]
  by_cases z : 0 < gw (9 * w + 3) - gw (9 * v + 3)
  · rw [if_pos z, if_pos (decide_eq_true (Or.inl z))]
  · rw [if_neg z]
    by_cases z2 : gw (9 * w + 3) - gw (9 * v + 3) = 0
    · rw [if_pos z2]
      by_cases z3 : gw (9 * w + 1) ≤ gw (9 * v + 1)
      · rw [if_pos z3, if_neg]
        intro h
        rcases of_decide_eq_true h with h | h
        · exact z h
        · exact h.2 z3
      · rw [if_neg z3, if_pos (decide_eq_true (Or.inr ⟨z2, z3⟩))]
    · rw [if_neg z2, if_neg]
      intro h
      rcases of_decide_eq_true h with h | h
      · exact z h
      · exact z2 h.1
theorem better_m {gw gk ms : Nat → Int32} (hR : Rg gw gk ms) {w v : Nat} (hw : w < 10) (hv : v < 10) : fX8_isBetter ms (nI w) (nI v) = some (if freshB gw w v = true then 1 else 0) := by
  have e : ∀ i, i < 10 → ∀ d, d < 9 → ms (13 + 9 * i + d) = gw (9 * i + d) := fun i hi d hd => by rw [show 13 + 9 * i + d = 13 + (9 * i + d) from by omega]; exact hR.1 _ (by omega)
  rw [fX8_isBetter, mof3 ms hw, mof3 ms hv, mof1 ms hw, mof1 ms hv, Option.bind_some, Option.bind_some, Option.bind_some, Option.bind_some, freshB, e w hw 3 (by omega), e v hv 3 (by omega), e w hw 1 (by omega), e v hv 1 (by omega)]
  by_cases z2 : gw (9 * w + 3) - gw (9 * v + 3) = 0
  · rw [if_pos z2]
    by_cases z3 : gw (9 * w + 1) ≤ gw (9 * v + 1)
    · rw [if_pos z3, if_neg]
      intro h
      rcases of_decide_eq_true h with h | h
      · rw [z2] at h; exact absurd h (by decide)
      · exact h.2 z3
    · rw [if_neg z3, if_pos (decide_eq_true (Or.inr ⟨z2, z3⟩))]
  · rw [if_neg z2]
    by_cases z : gw (9 * w + 3) - gw (9 * v + 3) ≤ 0
    · rw [if_pos z, if_neg]
      intro h
      rcases of_decide_eq_true h with h | h
      · exact Int32.not_le.mpr h z
      · exact z2 h.1
    · rw [if_neg z, if_pos (decide_eq_true (Or.inl (Int32.not_le.mp z)))]
theorem calfS_lt {gw : Nat → Int32} {t : Int32} {i n : Nat} {a : Option Nat} (hi : i < n) (ha : ∀ v, a = some v → v < n) : ∀ v, calfS gw t i a = some v → v < n := by
  intro v h
  rw [calfS] at h
  split at h
  · cases a with
    | none => simp [calfT] at h; omega
    | some x =>
      have := ha x rfl
      rw [calfT] at h
      split at h <;> (simp at h; omega)
  · exact ha v h
theorem c_calf {gw gk : Nat → Int32} {n : Nat} (hn : gk 0 = nI n) (h10 : n ≤ 10) (t : Int32) : ∀ (j i k : Nat) (a : Option Nat), i + j = n → j < k → (∀ v, a = some v → v < n) → fX7_bestCalf_4 gw gk k t (oI a) (nI i) = some (oI (calfF gw t i j a)) := by
  intro j
  induction j with
  | zero =>
    intro i k a h hk ha
    obtain ⟨k, rfl⟩ : ∃ q, k = q + 1 := ⟨k - 1, by omega⟩
    rw [fX7_bestCalf_4, ct0, Option.bind_some, hn, if_pos (nI_le (by omega) (by omega))]
    rfl
  | succ j ih =>
    intro i k a h hk ha
    obtain ⟨k, rfl⟩ : ∃ q, k = q + 1 := ⟨k - 1, by omega⟩
    have ih' := ih (i + 1) k (calfS gw t i a) (by omega) (by omega) (calfS_lt (by omega) ha)
    rw [fX7_bestCalf_4, ct0, Option.bind_some, hn, if_neg (nI_ge (by omega) (by omega)), of0 gw (by omega), Option.bind_some, calfF, ← ih', fX1_isPlaying, of4 gw (by omega), Option.bind_some]
    by_cases z0 : gw (9 * i) = t
    · by_cases z1 : gw (9 * i + 4) = -1
      · rw [if_pos z0, if_pos z1, Option.bind_some, if_pos rfl, fX7_bestCalf_45, if_neg n10, calfS, if_pos (show pCf gw t i = true from decide_eq_true ⟨z0, z1⟩)]
        cases a with
        | none => rw [oI, if_pos rfl, fX7_bestCalf_66, fX7_bestCalf_68, nI_1 i]; rfl
        | some v =>
          have hv := ha v rfl
          have nv : ¬ nI v = -1 := fun q => nI_pos (n := v) (by omega) (by rw [q]; decide)
          rw [oI, if_neg nv, fresher_c (by omega) (by omega), Option.bind_some]
          by_cases z2 : freshB gw i v = true
          · rw [if_pos z2, if_neg n10, fX7_bestCalf_66, fX7_bestCalf_68, nI_1 i, calfT, if_pos z2]; rfl
          · rw [if_neg z2, if_pos rfl, fX7_bestCalf_68, nI_1 i, calfT, if_neg z2]; rfl
      · rw [if_pos z0, if_neg z1, Option.bind_some, if_neg n10, fX7_bestCalf_45, if_pos rfl, fX7_bestCalf_68, nI_1 i, calfS, if_neg (show ¬ pCf gw t i = true from fun q => z1 (of_decide_eq_true q).2)]
    · rw [if_neg z0, fX7_bestCalf_45, if_pos rfl, fX7_bestCalf_68, nI_1 i, calfS, if_neg (show ¬ pCf gw t i = true from fun q => z0 (of_decide_eq_true q).1)]
theorem m_calf {gw gk ms : Nat → Int32} {n t u b : Nat} (hR : Rg gw gk ms) (hV : Vg gw gk n t u b) (r : Int32) : ∀ (j i k : Nat) (a : Option Nat), i + j = n → j < k → (∀ v, a = some v → v < n) → fX8_calf_28 ms k r (oI a) (nI i) 0 = some (match calfF gw r i j a with | none => (0, 2) | some v => (nI v, 0)) := by
  have h0 : ms 0 = nI n := hR.2.1.trans hV.1.2.2.2.1
  have h10 := hV.1.1
  intro j
  induction j with
  | zero =>
    intro i k a h hk ha
    obtain ⟨k, rfl⟩ : ∃ q, k = q + 1 := ⟨k - 1, by omega⟩
    rw [fX8_calf_28, if_pos v103_0, cl_0, h0, if_pos (nI_le (by omega) (by omega)), calfF]
    cases a with
    | none => rfl
    | some v =>
      have hv := ha v rfl
      rw [oI, if_pos (nI_pos' (by omega))]; rfl
  | succ j ih =>
    intro i k a h hk ha
    obtain ⟨k, rfl⟩ : ∃ q, k = q + 1 := ⟨k - 1, by omega⟩
    have e : ∀ d, d < 9 → ms (13 + 9 * i + d) = gw (9 * i + d) := fun d hd => by rw [show 13 + 9 * i + d = 13 + (9 * i + d) from by omega]; exact hR.1 _ (by omega)
    have e0 : ms (13 + 9 * i) = gw (9 * i) := e 0 (by omega)
    have hw := hV.2.2.2.1 i (by omega)
    have ih' := ih (i + 1) k (calfS gw r i a) (by omega) (by omega) (calfS_lt (by omega) ha)
    rw [fX8_calf_28, if_pos v103_0, cl_0, h0, if_neg (nI_ge (by omega) (by omega)), mof0 ms (by omega), Option.bind_some, mof4 ms (by omega), Option.bind_some, e0, e 4 (by omega), calfF, ← ih']
    by_cases z0 : gw (9 * i) = r
    · rcases hw.2.2.2.2.1 with ⟨c0, c1⟩ | ⟨c, hc, c0⟩
      · rw [if_pos z0, c0, if_neg (show ¬ (0 : Int32) ≤ -1 from by decide), fX8_calf_62, if_neg n10, calfS, if_pos (show pCf gw r i = true from decide_eq_true ⟨z0, c0⟩)]
        cases a with
        | none => rw [oI, if_pos (show (-1 : Int32) < 0 from by decide), fX8_calf_87, nI_1 i]; rfl
        | some v =>
          have hv := ha v rfl
          rw [oI, if_neg (nI_pos (by omega)), better_m hR (by omega) (by omega), Option.bind_some, fX8_calf_87, nI_1 i]
          by_cases z2 : freshB gw i v = true
          · rw [if_pos z2, if_neg n10, calfT, if_pos z2]; rfl
          · rw [if_neg z2, if_pos rfl, calfT, if_neg z2]; rfl
      · have c1 : ¬ nI c = -1 := fun q => nI_pos (n := c) (by omega) (by rw [q]; decide)
        rw [if_pos z0, c0, if_pos (nI_pos' (by omega)), fX8_calf_62, if_pos rfl, fX8_calf_87, nI_1 i, calfS, if_neg (show ¬ pCf gw r i = true from fun q => c1 (by rw [← c0]; exact (of_decide_eq_true q).2))]
    · rw [if_neg z0, fX8_calf_62, if_pos rfl, fX8_calf_87, nI_1 i, calfS, if_neg (show ¬ pCf gw r i = true from fun q => z0 (of_decide_eq_true q).1)]
theorem q_calf {gw gk ms : Nat → Int32} {n t u b : Nat} (thr p : Int32) (hR : Rg gw gk ms) (hV : Vg gw gk n t u b) : ∃ q r, fX7_calf gw gk p = some q ∧ fX8_calf thr ms p = some r ∧ (q.1 = 0 ∨ q.1 = 1 ∨ q.1 = 4) ∧ r.2 = lcode [1, 4] q.1 ∧ (q.1 = 0 → r.1 = q.2 ∧ BD q.2) := by
  have h10 := hV.1.1
  rcases team_c p with ⟨h1, h2⟩ | ⟨z, hz, rfl, h1, h2⟩
  · exact ⟨(1, 0), (0, 1), by rw [fX7_calf, fX7_demandTeam, h1]; rfl, by rw [fX8_calf, h2]; rfl, Or.inr (Or.inl rfl), rfl, fun h => absurd h (by decide)⟩
  · have e1 : fX7_bestCalf gw gk (nI z) = some (oI (calfF gw (nI z) 0 n none)) := c_calf (gw := gw) hV.1.2.2.2.1 h10 (nI z) n 0 64 none (by omega) (by omega) (fun v h => nomatch h)
    have e2 : fX8_calf thr ms (nI z) = fX8_calf_28 ms 64 (nI z) (-1) 0 0 := by rw [fX8_calf, h2]; rfl
    have e3 := m_calf hR hV (nI z) n 0 64 none (by omega) (by omega) (fun v h => nomatch h)
    have e4 : fX7_calf gw gk (nI z) = (if oI (calfF gw (nI z) 0 n none) = -1 then some (4, 0) else some (0, oI (calfF gw (nI z) 0 n none))) := by rw [fX7_calf, fX7_demandTeam, h1, if_neg n10, Option.bind_some, if_pos rfl, e1]; rfl
    have hlt : ∀ (j i : Nat) (a : Option Nat), i + j = n → (∀ v, a = some v → v < n) → ∀ v, calfF gw (nI z) i j a = some v → v < n := by
      intro j
      induction j with
      | zero => intro i a _ ha; exact ha
      | succ j ih => intro i a h ha; rw [calfF]; exact ih (i + 1) _ (by omega) (calfS_lt (by omega) ha)
    have hl := hlt n 0 none (by omega) (fun v h => nomatch h)
    rw [e2, e4, show fX8_calf_28 ms 64 (nI z) (-1) 0 0 = _ from e3]
    cases hc : calfF gw (nI z) 0 n none with
    | none => exact ⟨(4, 0), (0, 2), if_pos rfl, rfl, Or.inr (Or.inr rfl), rfl, fun h => absurd h (by decide)⟩
    | some v =>
      have hv := hl v hc
      have nv : ¬ nI v = -1 := fun q => nI_pos (n := v) (by omega) (by rw [q]; decide)
      exact ⟨(0, nI v), (nI v, 0), if_neg nv, rfl, Or.inl rfl, rfl, fun _ => ⟨rfl, BD_nI (by omega)⟩⟩
theorem sx_calf : St_calf Inv := by
  intro f_net u_det t_len t_cur t_kin t_tol t_don n_len h_old h_siz x_sav x_err x_rea x_det x_com v_gw v_gk v_bw v_bk v_vw v_vk v_h0w v_h0k v_h1w v_h1k v_h2w v_h2k v_h3w v_h3k v_h4w v_h4k v_h5w v_h5k v_rs v_rl v_ro v_ti v_tn v_ns m_chg m_thr m_rea m_det m_ref m_err m_ans m_sav m_net m_lin m_tap m_her m_cmd v_ms v_mw v_mv v_mp v_mf v_ml v_mt v_mc hI p0
  obtain ⟨n, t, b, hV, hX⟩ := hI.2.1
  obtain ⟨q, r, h0, h1, h2, h3, h4⟩ := q_calf m_thr p0 hI.1 hV
  exact ⟨q, r, h0, h1, h2, h3, fun h => (h4 h).1, hI⟩
def mF (gw : Nat → Int32) (k i : Nat) : Int32 :=
  if k = 0 then gw (9 * i + 3) else if k = 1 then gw (9 * i + 6) else if k = 2 then gw (9 * i + 7) else if k = 3 then gw (9 * i + 8) else gw (9 * i + 1) + gw (9 * i + 2)
theorem meas_c {gw : Nat → Int32} {k i : Nat} (hk : k < 5) (hi : i < 10) : fX7_measure gw (nI k) (nI i) = some (mF gw k i) := by
  have a0 := of3 gw hi
  have a1 := of6 gw hi
  have a2 := of7 gw hi
  have a3 := of8 gw hi
  have a4 := of1 gw hi
  have a5 := of2 gw hi
  match k, hk with
  | 0, _ => show ((fX1_of gw (nI i) 3).bind fun q => some q) = _; rw [a0]; rfl
  | 1, _ => show ((fX1_of gw (nI i) 6).bind fun q => some q) = _; rw [a1]; rfl
  | 2, _ => show ((fX1_of gw (nI i) 7).bind fun q => some q) = _; rw [a2]; rfl
  | 3, _ => show ((fX1_of gw (nI i) 8).bind fun q => some q) = _; rw [a3]; rfl
  | 4, _ => show ((fX1_of gw (nI i) 1).bind fun q => (fX1_of gw (nI i) 2).bind fun r => some (q + r)) = _; rw [a4, a5]; rfl
  | q + 5, h => exact absurd h (by omega)
theorem meas_m {gw gk ms : Nat → Int32} (hR : Rg gw gk ms) {k i : Nat} (hk : k < 5) (hi : i < 10) : fX8_valueOf ms (nI k) (nI i) = some (mF gw k i) := by
  have e : ∀ d, d < 9 → fX8_of ms (nI i) (nI d) = some (gw (9 * i + d)) := fun d hd => by rw [e_mof ms hi hd, show 13 + 9 * i + d = 13 + (9 * i + d) from by omega, hR.1 _ (by omega)]
  match k, hk with
  | 0, _ => show ((fX8_of ms (nI i) (nI 3)).bind fun q => some q) = _; rw [e 3 (by omega)]; rfl
  | 1, _ => show ((fX8_of ms (nI i) (nI 6)).bind fun q => some q) = _; rw [e 6 (by omega)]; rfl
  | 2, _ => show ((fX8_of ms (nI i) (nI 7)).bind fun q => some q) = _; rw [e 7 (by omega)]; rfl
  | 3, _ => show ((fX8_of ms (nI i) (nI 8)).bind fun q => some q) = _; rw [e 8 (by omega)]; rfl
  | 4, _ => show ((fX8_of ms (nI i) (nI 1)).bind fun q => (fX8_of ms (nI i) (nI 2)).bind fun r => some (q + r)) = _; rw [e 1 (by omega), e 2 (by omega)]; rfl
  | q + 5, h => exact absurd h (by omega)
theorem mF_v {gw : Nat → Int32} {u i : Nat} (h : Vw u gw i) (hu : u ≤ 100) (k : Nat) : ∃ v, v ≤ 100 ∧ mF gw k i = nI v := by
  obtain ⟨_, ⟨s, s1, s2, s3⟩, ⟨p, p1, p2, p3⟩, ⟨b, b1, b2⟩, _, _, ⟨g, g1, g2⟩, ⟨f, f1, f2⟩, ⟨z, z1, z2⟩⟩ := h
  rw [mF]
  by_cases k0 : k = 0
  · exact ⟨b, by omega, by rw [if_pos k0, b2]⟩
  · by_cases k1 : k = 1
    · exact ⟨g, by omega, by rw [if_neg k0, if_pos k1, g2]⟩
    · by_cases k2 : k = 2
      · exact ⟨f, by omega, by rw [if_neg k0, if_neg k1, if_pos k2, f2]⟩
      · by_cases k3 : k = 3
        · exact ⟨z, by omega, by rw [if_neg k0, if_neg k1, if_neg k2, if_pos k3, z2]⟩
        · exact ⟨s + p, by omega, by rw [if_neg k0, if_neg k1, if_neg k2, if_neg k3, s3, p3, nI_add]⟩
def pAh (gw : Nat → Int32) (k w i : Nat) : Bool := decide (mF gw k w < mF gw k i ∨ mF gw k i = mF gw k w ∧ i < w)
theorem c_ahead {gw gk : Nat → Int32} {n k w : Nat} (hn : gk 0 = nI n) (h10 : n ≤ 10) (hk5 : k < 5) (hw : w < n) : ∀ (j i f a : Nat), i + j = n → j < f → fX7_countAhead_13 gw gk f (nI k) (nI w) (mF gw k w) (nI a) (nI i) = some (nI (a + cntF (pAh gw k w) i j)) := by
  intro j
  induction j with
  | zero =>
    intro i f a h hf
    obtain ⟨f, rfl⟩ : ∃ q, f = q + 1 := ⟨f - 1, by omega⟩
    rw [fX7_countAhead_13, ct0, Option.bind_some, hn, if_pos (nI_le (by omega) (by omega))]
    rfl
  | succ j ih =>
    intro i f a h hf
    obtain ⟨f, rfl⟩ : ∃ q, f = q + 1 := ⟨f - 1, by omega⟩
    have ih0 := ih (i + 1) f a (by omega) (by omega)
    have ih1 := ih (i + 1) f (a + 1) (by omega) (by omega)
    rw [fX7_countAhead_13, ct0, Option.bind_some, hn, if_neg (nI_ge (by omega) (by omega)), meas_c hk5 (by omega), Option.bind_some, fX7_countAhead_53, fX7_countAhead_56, fX7_countAhead_56, nI_1 i, nI_1 a, ih0, ih1, cntF, pAh]
    by_cases z0 : mF gw k w < mF gw k i
    · rw [if_pos z0]; simp [z0, Nat.add_assoc]
    · rw [if_neg z0]
      by_cases z1 : mF gw k i = mF gw k w
      · rw [if_pos z1]
        by_cases z2 : i < w
        · rw [if_neg (nI_ge z2 (by omega))]; simp [z1, z2, Nat.add_assoc]
        · rw [if_pos (nI_le (by omega) (by omega))]; simp [z1, z2]
      · rw [if_neg z1]; simp [z0, z1]
theorem sub_c {a b : Nat} (ha : a ≤ 100) (hb : b ≤ 100) : (0 < nI a - nI b ↔ nI b < nI a) ∧ (nI a - nI b = 0 ↔ nI a = nI b) := by
  have e := pk_sub_toInt (a := a) (b := b) (by omega) (by omega)
  have e0 : (0 : Int32).toInt = 0 := rfl
  have ea := nI_toInt (n := a) (by omega)
  have eb := nI_toInt (n := b) (by omega)
  constructor
  · rw [Int32.lt_iff_toInt_lt, Int32.lt_iff_toInt_lt]; omega
  · rw [← Int32.toInt_inj, ← Int32.toInt_inj]; omega
theorem m_ahead {gw gk ms : Nat → Int32} {n t u b k w : Nat} (hR : Rg gw gk ms) (hV : Vg gw gk n t u b) (hu : u ≤ 100) (hk5 : k < 5) (hw : w < n) (p : Int32) (rec : Int32 → Int32 → Int32 → Int32 → Option (Int32 × Int32)) : ∀ (j i f a : Nat), i + j = n → j < f → fX8_ranked_42 ms rec f (nI k) p (nI w) (nI a) (nI i) 0 = if nI (a + cntF (pAh gw k w) i j) = p then some (nI w, 0) else rec (nI k) p (nI (w + 1)) 0 := by
  have h0 : ms 0 = nI n := hR.2.1.trans hV.1.2.2.2.1
  have h10 := hV.1.1
  intro j
  induction j with
  | zero =>
    intro i f a h hf
    obtain ⟨f, rfl⟩ : ∃ q, f = q + 1 := ⟨f - 1, by omega⟩
    rw [fX8_ranked_42, if_pos v103_0, cl_0, h0, if_pos (nI_le (by omega) (by omega)), nI_1 w]
    rfl
  | succ j ih =>
    intro i f a h hf
    obtain ⟨f, rfl⟩ : ∃ q, f = q + 1 := ⟨f - 1, by omega⟩
    have ih0 := ih (i + 1) f a (by omega) (by omega)
    have ih1 := ih (i + 1) f (a + 1) (by omega) (by omega)
    obtain ⟨v, v1, v2⟩ := mF_v (hV.2.2.2.1 i (by omega)) hu k
    obtain ⟨y, y1, y2⟩ := mF_v (hV.2.2.2.1 w hw) hu k
    obtain ⟨s1, s2⟩ := sub_c v1 y1
    rw [fX8_ranked_42, if_pos v103_0, cl_0, h0, if_neg (nI_ge (by omega) (by omega)), meas_m hR hk5 (by omega), Option.bind_some, meas_m hR hk5 (by omega), Option.bind_some, fX8_ranked_92, nI_1 i, cntF, pAh]
    by_cases z0 : mF gw k w < mF gw k i
    · have z0' : 0 < mF gw k i - mF gw k w := by rw [v2, y2] at z0 ⊢; exact s1.mpr z0
      rw [if_pos z0', nI_1 a, ih1]; simp [z0, Nat.add_assoc]
    · have z0' : ¬ 0 < mF gw k i - mF gw k w := by rw [v2, y2] at z0 ⊢; exact fun q => z0 (s1.mp q)
      rw [if_neg z0']
      by_cases z1 : mF gw k i = mF gw k w
      · have z1' : mF gw k i - mF gw k w = 0 := by rw [v2, y2] at z1 ⊢; exact s2.mpr z1
        rw [if_pos z1']
        by_cases z2 : i < w
        · rw [if_neg (nI_ge z2 (by omega)), nI_1 a, ih1]; simp [z1, z2, Nat.add_assoc]
        · rw [if_pos (nI_le (by omega) (by omega)), Int32.add_zero, ih0]; simp [z1, z2]
      · have z1' : ¬ mF gw k i - mF gw k w = 0 := by rw [v2, y2] at z1 ⊢; exact fun q => z1 (s2.mp q)
        rw [if_neg z1', Int32.add_zero, ih0]; simp [z0, z1]
def pRk (gw : Nat → Int32) (k n : Nat) (p : Int32) (w : Nat) : Bool := decide (nI (cntF (pAh gw k w) 0 n) = p)
theorem c_rank {gw gk : Nat → Int32} {n k : Nat} (hn : gk 0 = nI n) (h10 : n ≤ 10) (hk5 : k < 5) (p : Int32) : ∀ (j i f : Nat), i + j = n → j < f → fX7_ranked_21 gw gk f (nI k) p (nI i) = some (if fstF (pRk gw k n p) i j = -1 then (4, 0) else (0, fstF (pRk gw k n p) i j)) := by
  intro j
  induction j with
  | zero =>
    intro i f h hf
    obtain ⟨f, rfl⟩ : ∃ q, f = q + 1 := ⟨f - 1, by omega⟩
    rw [fX7_ranked_21, ct0, Option.bind_some, hn, if_pos (nI_le (by omega) (by omega))]
    rfl
  | succ j ih =>
    intro i f h hf
    obtain ⟨f, rfl⟩ : ∃ q, f = q + 1 := ⟨f - 1, by omega⟩
    have e : fX7_countAhead gw gk (nI k) (nI i) = some (nI (cntF (pAh gw k i) 0 n)) := by
      have z := c_ahead (gw := gw) hn h10 hk5 (w := i) (by omega) n 0 64 0 (by omega) (by omega)
      rw [Nat.zero_add] at z
      rw [fX7_countAhead, meas_c hk5 (by omega), Option.bind_some]
      exact z
    rw [fX7_ranked_21, ct0, Option.bind_some, hn, if_neg (nI_ge (by omega) (by omega)), e, Option.bind_some, fstF]
    by_cases z : nI (cntF (pAh gw k i) 0 n) = p
    · have z' : pRk gw k n p i = true := decide_eq_true z
      have ni : ¬ nI i = -1 := fun q => nI_pos (n := i) (by omega) (by rw [q]; decide)
      rw [if_pos z, if_pos z', if_neg ni]
    · have z' : ¬ pRk gw k n p i = true := fun q => z (of_decide_eq_true q)
      rw [if_neg z, if_neg z', nI_1, ih (i + 1) f (by omega) (by omega)]
theorem m_rank {gw gk ms : Nat → Int32} {n t u b k : Nat} (hR : Rg gw gk ms) (hV : Vg gw gk n t u b) (hu : u ≤ 100) (hk5 : k < 5) (p : Int32) : ∀ (j i f : Nat), i + j = n → j < f → fX8_ranked_26 ms f (nI k) p (nI i) 0 = some (if fstF (pRk gw k n p) i j = -1 then (0, 2) else (fstF (pRk gw k n p) i j, 0)) := by
  have h0 : ms 0 = nI n := hR.2.1.trans hV.1.2.2.2.1
  have h10 := hV.1.1
  intro j
  induction j with
  | zero =>
    intro i f h hf
    obtain ⟨f, rfl⟩ : ∃ q, f = q + 1 := ⟨f - 1, by omega⟩
    rw [fX8_ranked_26, if_pos v103_0, cl_0, h0, if_pos (nI_le (by omega) (by omega))]
    rfl
  | succ j ih =>
    intro i f h hf
    obtain ⟨f, rfl⟩ : ∃ q, f = q + 1 := ⟨f - 1, by omega⟩
    have e := m_ahead hR hV hu hk5 (w := i) (by omega) p (fX8_ranked_26 ms f) n 0 64 0 (by omega) (by omega)
    rw [Nat.zero_add] at e
    rw [fX8_ranked_26, if_pos v103_0, cl_0, h0, if_neg (nI_ge (by omega) (by omega)), show fX8_ranked_42 ms (fX8_ranked_26 ms f) 64 (nI k) p (nI i) 0 0 0 = _ from e, fstF]
    by_cases z : nI (cntF (pAh gw k i) 0 n) = p
    · have z' : pRk gw k n p i = true := decide_eq_true z
      have ni : ¬ nI i = -1 := fun q => nI_pos (n := i) (by omega) (by rw [q]; decide)
      rw [if_pos z, if_pos z', if_neg ni]
    · have z' : ¬ pRk gw k n p i = true := fun q => z (of_decide_eq_true q)
      rw [if_neg z, if_neg z', ih (i + 1) f (by omega) (by omega)]
theorem q_ranked {gw gk ms : Nat → Int32} {n t u b : Nat} (thr p p1 : Int32) (hR : Rg gw gk ms) (hV : Vg gw gk n t u b) (hu : u ≤ 100) : ∃ q r, fX7_ranked gw gk p p1 = some q ∧ fX8_ranked thr ms p p1 = some r ∧ (q.1 = 0 ∨ q.1 = 1 ∨ q.1 = 4) ∧ r.2 = lcode [1, 4] q.1 ∧ (q.1 = 0 → r.1 = q.2 ∧ BD q.2) := by
  have h10 := hV.1.1
  rcases rg_lo p (m := 4) (by omega) with ⟨h, z | z⟩ | ⟨k, hk, rfl, h⟩
  · exact ⟨(1, 0), (0, 1), by rw [fX7_ranked, if_pos z]; rfl, by rw [fX8_ranked, show (4 : Int32) = nI 4 from rfl, h]; rfl, Or.inr (Or.inl rfl), rfl, fun h => absurd h (by decide)⟩
  · exact ⟨(1, 0), (0, 1), by rw [fX7_ranked, if_neg z.1, if_neg (show ¬ p < (5 : Int32) from Int32.not_lt.mpr z.2)]; rfl, by rw [fX8_ranked, show (4 : Int32) = nI 4 from rfl, h]; rfl, Or.inr (Or.inl rfl), rfl, fun h => absurd h (by decide)⟩
  · have e1 := c_rank (gw := gw) hV.1.2.2.2.1 h10 (k := k) (by omega) p1 n 0 64 (by omega) (by omega)
    have e2 := m_rank hR hV hu (k := k) (by omega) p1 n 0 64 (by omega) (by omega)
    have e3 : fX7_ranked gw gk (nI k) p1 = fX7_ranked_21 gw gk 64 (nI k) p1 0 := by rw [fX7_ranked, if_neg (nI_pos (by omega)), if_pos (show nI k < (5 : Int32) from nI_lt (b := 5) (by omega) (by omega))]
    have e4 : fX8_ranked thr ms (nI k) p1 = fX8_ranked_26 ms 64 (nI k) p1 0 0 := by rw [fX8_ranked, show (4 : Int32) = nI 4 from rfl, h, if_neg n10, fX8_ranked_15, th0, Option.bind_some, if_pos rfl]
    refine ⟨_, _, e3.trans e1, e4.trans e2, ?_⟩
    by_cases y : fstF (pRk gw k n p1) 0 n = -1
    · rw [if_pos y, if_pos y]; exact ⟨Or.inr (Or.inr rfl), rfl, fun h => absurd h (by decide)⟩
    · rw [if_neg y, if_neg y]; exact ⟨Or.inl rfl, rfl, fun _ => ⟨rfl, by
        rcases fst_spec (pRk gw k n p1) n 0 with ⟨w, _⟩ | ⟨v, _, hv, _, w, _⟩
        · exact absurd w y
        · show BD (fstF (pRk gw k n p1) 0 n)
          rw [w]; exact BD_nI (by omega)⟩⟩
theorem sx_ranked : St_ranked Inv := by
  intro f_net u_det t_len t_cur t_kin t_tol t_don n_len h_old h_siz x_sav x_err x_rea x_det x_com v_gw v_gk v_bw v_bk v_vw v_vk v_h0w v_h0k v_h1w v_h1k v_h2w v_h2k v_h3w v_h3k v_h4w v_h4k v_h5w v_h5k v_rs v_rl v_ro v_ti v_tn v_ns m_chg m_thr m_rea m_det m_ref m_err m_ans m_sav m_net m_lin m_tap m_her m_cmd v_ms v_mw v_mv v_mp v_mf v_ml v_mt v_mc hI p0 p1
  obtain ⟨n, t, b, hV, hX⟩ := hI.2.1
  obtain ⟨q, r, h0, h1, h2, h3, h4⟩ := q_ranked m_thr p0 p1 hI.1 hV (by have := hV.1.2.1; omega)
  exact ⟨q, r, h0, h1, h2, h3, fun h => (h4 h).1, hI⟩
theorem sx_append : St_append Inv := by
  intro f_net u_det t_len t_cur t_kin t_tol t_don n_len h_old h_siz x_sav x_err x_rea x_det x_com v_gw v_gk v_bw v_bk v_vw v_vk v_h0w v_h0k v_h1w v_h1k v_h2w v_h2k v_h3w v_h3k v_h4w v_h4k v_h5w v_h5k v_rs v_rl v_ro v_ti v_tn v_ns m_chg m_thr m_rea m_det m_ref m_err m_ans m_sav m_net m_lin m_tap m_her m_cmd v_ms v_mw v_mv v_mp v_mf v_ml v_mt v_mc hI p0
  obtain ⟨n, e1, e2, hn, hT⟩ := hI.2.2.2.2.1
  subst e1 e2
  obtain ⟨c, hc⟩ : ∃ c, c = p0.toBitVec.toNat % 65536 := ⟨_, rfl⟩
  have hc5 : c < 65536 := by omega
  rw [pk_char, ← hc]
  have bad : ((nI c < 32 ∨ ¬ nI c < 32 ∧ ¬ nI c ≤ 126) ∧ fX8_isIn (nI c) 32 126 = 0) ∨ (¬ nI c < 32 ∧ nI c ≤ 126 ∧ 32 ≤ c ∧ c ≤ 126 ∧ fX8_isIn (nI c) 32 126 = 1) := by
    by_cases z : c < 32
    · have z' : nI c < 32 := nI_lt (b := 32) z (by omega)
      exact Or.inl ⟨Or.inl z', by rw [fX8_isIn, if_pos z']⟩
    · have z' : ¬ nI c < 32 := nI_nlt (b := 32) (by omega) (by omega)
      by_cases y : c ≤ 126
      · have y' : nI c ≤ 126 := nI_le (b := 126) y (by omega)
        exact Or.inr ⟨z', y', by omega, y, by rw [fX8_isIn, if_neg z', if_neg (Int32.not_lt.mpr y')]⟩
      · have y' : ¬ nI c ≤ 126 := nI_ge (a := 126) (by omega) (by omega)
        exact Or.inl ⟨Or.inr ⟨z', y'⟩, by rw [fX8_isIn, if_neg z', if_pos (Int32.not_le.mp y')]⟩
  rcases bad with ⟨b1, b2⟩ | ⟨b1, b2, b3, b4, b5⟩
  · refine ⟨(1, 0, nI n, v_ti), (0, 1, nI n, v_mt), ?_, by rw [fX8_append, b2]; rfl, Or.inr (Or.inl rfl), rfl, fun h => absurd h (show ¬ (1 : Nat) = 0 by decide), hI⟩
    rcases b1 with b1 | b1
    · rw [fX7_append, if_pos b1]; rfl
    · rw [fX7_append, if_neg b1.1, if_neg b1.2]; rfl
  · by_cases y : n = 60
    · subst y
      exact ⟨(6, 0, nI 60, v_ti), (0, 2, nI 60, v_mt), by rw [fX7_append, if_neg b1, if_pos b2]; rfl, by rw [fX8_append, b5]; rfl, Or.inr (Or.inr rfl), rfl, fun h => absurd h (show ¬ (6 : Nat) = 0 by decide), hI⟩
    · have u1 := (u16_n (c := c) (by omega)).1
      refine ⟨(0, nI (n + 1), nI (n + 1), upd v_ti n (nI c)), (nI (n + 1), 0, nI (n + 1), upd v_mt n (nI c)), ?_, ?_, Or.inl rfl, rfl, fun _ => rfl, hI.1, hI.2.1, hI.2.2.1, hI.2.2.2.1, ⟨n + 1, rfl, rfl, by omega, fun j hj => ?_⟩, hI.2.2.2.2.2⟩
      · rw [fX7_append, if_neg b1, if_pos b2, fX5_length, if_pos (show nI n < (60 : Int32) from nI_lt (b := 60) (by omega) (by omega)), fX5_add, if_neg (nI_pos (by omega)), if_neg (show ¬ (60 : Int32) ≤ nI n from nI_ge (b := 60) (by omega) (by omega)), if_pos (e_vin (by omega) (by omega)), nI_clamp (by omega), u1, nI_1]; rfl
      · rw [fX8_append, b5, if_neg n10, fX8_append_17, th0, Option.bind_some, if_pos rfl, if_neg (show ¬ nI n = (60 : Int32) from fun q => y ((nI_eq (b := 60) (by omega) (by omega)).mp q)), fX8_append_39, th0, Option.bind_some, if_pos rfl, if_pos (e_vin (by omega) (by omega)), nI_clamp (by omega), nI_1]
      · show upd v_mt n (nI c) j = upd v_ti n (nI c) j ∧ ∃ c', 32 ≤ c' ∧ c' ≤ 126 ∧ upd v_ti n (nI c) j = nI c'
        by_cases e : j = n
        · subst e; rw [pk_us, pk_us]; exact ⟨rfl, c, b3, b4, rfl⟩
        · rw [pk_un e, pk_un e]; exact hT j (by omega)

