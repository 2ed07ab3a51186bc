/-! the best strike, and fairness -/
theorem can_e {gw gk ms : Nat → Int32} {n t b w : Nat} (hR : Rg gw gk ms) (hV : Vg gw gk n t t b) (hw : w < n) (ud : Int32) : ∃ f d, fX6_hitFault ud gw gk (nI w) 0 1 = some (f, d) ∧ fX8_canStrike ms (nI w) = some (if f = 0 then 1 else 0) := by
  have h10 := hV.1.1
  have h48 := hV.1.2.1
  have hb := hV.1.2.2.1
  have hn := hV.1.2.2.2.1
  have k5 := hV.1.2.2.2.2.2.1
  obtain ⟨_, em⟩ := e_ms hR (i := w) (by omega)
  have m1 : ms 1 = nI t := hR.2.2.1.trans hV.1.2.2.2.2.1
  have m2 : ms 2 = nI b := hR.2.2.2.1.trans k5
  have h1 : fX1_has gk (nI w) = some 1 := by
    rw [fX1_has, if_neg (nI_pos (by omega)), ct0, Option.bind_some, hn, if_neg (nI_ge (by omega) (by omega))]
  obtain ⟨T1, ⟨st, st1, st2, st3⟩, _, ⟨br, br1, br2⟩, cl, _⟩ := hV.2.2.2.1 w hw
  have stl : (1 : Int32) ≤ nI st := nI_le (a := 1) st1 (by omega)
  have cf0 : fX6_hitFault ud gw gk (nI w) 0 1 = ((fX6_freeFault ud gw gk (nI w)).bind fun q6 => if q6.1 = 0 then (if nearB (gw (9 * w + 4)) b = true then (if 1 ≤ nI br then some (0, q6.2) else some (6, nI br)) else some (9, fX7_between (gw (9 * w + 4)) (nI b))) else some (q6.1, q6.2)) := by
    rw [fX6_hitFault, h1, Option.bind_some, if_neg n10, show fX7_isWay 0 = 1 from rfl, if_neg n10, show fX7_isForce 1 = 1 from rfl, if_neg n10, isNear_e k5 (by omega), of4 gw (by omega), of1 gw (by omega), ct5, k5, st3]
    congr 1
    funext q6
    by_cases z : nearB (gw (9 * w + 4)) b = true
    · by_cases x : 1 ≤ nI br
      · simp only [z, if_true, Option.bind_some, n10, if_false, stl, fX6_breathFault, of3 gw (show w < 10 by omega), br2, x]
      · simp only [z, if_true, Option.bind_some, n10, if_false, stl, fX6_breathFault, of3 gw (show w < 10 by omega), br2, x, fX6_refuse]
    · rw [if_neg z, if_neg z]; rfl
  have ms0 : fX8_canStrike ms (nI w) = (if 48 ≤ nI t then some 0 else if gw (9 * w + 4) < 0 then some 0 else (fX8_isStrandedNow ms (nI w)).bind fun q6 => if q6 = 0 then (if 1 < fX8_apart (gw (9 * w + 4)) (nI b) then some 0 else if nI br ≤ 0 then some 0 else some 1) else some 0) := by
    have q4 := em 4 (by omega)
    have q3 := em 3 (by omega)
    rw [fX8_canStrike, if_pos v103_1, cl_1, m1]
    simp only [mof4 ms (show w < 10 by omega), mof3 ms (show w < 10 by omega), Option.bind_some, q4, q3, v103_2, cl_2, m2, br2, if_true]
  by_cases z : t = 48
  · exact ⟨2, 48, by rw [cf0, fX6_freeFault, play_f hR hV hw, if_pos z]; rfl, by rw [ms0, z]; rfl⟩
  · have t48 : ¬ (48 : Int32) ≤ nI t := nI_ge (b := 48) (by omega) (by omega)
    by_cases y : gw (9 * w + 4) = -1
    · exact ⟨3, nI w, by rw [cf0, fX6_freeFault, play_f hR hV hw, if_neg z, if_pos y]; rfl, by rw [ms0, if_neg t48, y]; rfl⟩
    · obtain ⟨s, hs, q⟩ : ∃ s, s < 45 ∧ gw (9 * w + 4) = nI s := by
        rcases cl with ⟨q, _⟩ | q
        · exact absurd q y
        · exact q
      have ff : fX6_freeFault ud gw gk (nI w) = some (if fX8_isDryAt (nI s) (nI t) = 0 then (0, ud) else (4, nI s)) := by
        rw [fX6_freeFault, play_f hR hV hw, if_neg z, if_neg y, Option.bind_some, if_pos rfl, strand_c hV hw hs q, Option.bind_some, of4 gw (by omega), q]
        by_cases x : fX8_isDryAt (nI s) (nI t) = 0
        · rw [if_pos x, if_pos x]
        · rw [if_neg x, if_neg x]; rfl
      rw [cf0, ms0, if_neg t48, q, if_neg (nI_pos (by omega)), ff, strand_m hR hV hw hs q, Option.bind_some, Option.bind_some, apart_f s hs b hb]
      by_cases x : fX8_isDryAt (nI s) (nI t) = 0
      · rw [if_pos x, if_pos x, if_pos rfl]
        by_cases nr : 1 < fX7_between (nI s) (nI b)
        · have nb : ¬ nearB (nI s) b = true := by rw [nearB]; exact fun v => (of_decide_eq_true v).2 nr
          rw [if_neg nb, if_pos nr]
          exact ⟨9, _, rfl, rfl⟩
        · have nb : nearB (nI s) b = true := by rw [nearB]; exact decide_eq_true ⟨nm1 (by omega), nr⟩
          rw [if_pos nb, if_neg nr]
          by_cases bb : 1 ≤ nI br
          · have b1 : 1 ≤ br := (nI_leI (a := 1) (by omega) (by omega)).mp bb
            rw [if_pos bb, if_neg (nI_nle (by omega) (by omega))]
            exact ⟨0, ud, rfl, rfl⟩
          · have b0 : br = 0 := by
              by_cases v : 1 ≤ br
              · exact absurd (nI_le (a := 1) v (by omega)) bb
              · omega
            rw [if_neg bb, b0]
            exact ⟨6, nI 0, rfl, rfl⟩
      · rw [if_neg x, if_neg x]
        exact ⟨4, nI s, rfl, rfl⟩
def bN (k : Nat) : Int32 := nI k - 1
def bL (k : Nat) : Int32 := if k = 10 then 99 else nI k - 1
theorem bst_f : ∀ k, k < 11 → ∀ c, c < 11 → (bN k ≤ bN c ↔ k ≤ c) ∧ (bL k ≤ bL c ↔ k ≤ c) ∧ fX8_lesser (bL k) (bL c) = bL (min k c) := by decide +kernel
def cN (e T : Nat) : Nat := if 45 ≤ e then (if e = 45 + T then 0 else 10) else if T = 0 then 9 - e % 9 else e % 9 + 1
theorem col_f : ∀ e, e < 47 → ∀ T, T < 2 → fX7_columnsToGoal (nI e) (nI T) = bN (cN e T) ∧ fX8_fromEnd (nI T) (nI e) = bL (cN e T) ∧ cN e T < 11 := by decide +kernel
theorem tfi : ∀ way, way < 4 → ∀ F, F < 6 → (10 * nI way + nI F : Int32) = nI (10 * way + F) := by decide +kernel
section BEST
variable {gw gk ms : Nat → Int32} {n t u b w : Nat}
theorem end_v (hV : Vg gw gk n t u b) {way F : Nat} (hw : way < 4) : ∃ e, e < 47 ∧ endF gw gk n t b w way F = nI e := by
  rcases (go_v (gw := gw) (n := n) (t := t) (w := w) hw F b hV.1.2.2.1).1 with ⟨e, he, z⟩ | ⟨_, z | z⟩
  · exact ⟨e, by omega, by rw [endF, z, if_pos (show nI e < (45 : Int32) from nI_lt (b := 45) he (by omega))]⟩
  · rw [endF, z, if_neg (by decide)]
    split
    · exact ⟨45, by omega, rfl⟩
    · exact ⟨22, by omega, rfl⟩
  · rw [endF, z, if_neg (by decide)]
    split
    · exact ⟨46, by omega, rfl⟩
    · exact ⟨22, by omega, rfl⟩
def eF (gw gk : Nat → Int32) (n t b w way F : Nat) : Nat := (endF gw gk n t b w way F).toNatClampNeg
def bS (gw gk : Nat → Int32) (n t b w T way F : Nat) (a : Int32 × Nat) : Int32 × Nat := if a.2 ≤ cN (eF gw gk n t b w way F) T then a else (nI (10 * way + F), cN (eF gw gk n t b w way F) T)
def bI_ (gw gk : Nat → Int32) (n t b w T way : Nat) : Nat → Nat → Int32 × Nat → Int32 × Nat
  | _, 0, a => a
  | F, j + 1, a => bI_ gw gk n t b w T way (F + 1) j (bS gw gk n t b w T way F a)
def bO (gw gk : Nat → Int32) (n t b w T st : Nat) : Nat → Nat → Int32 × Nat → Int32 × Nat
  | _, 0, a => a
  | way, j + 1, a => bO gw gk n t b w T st (way + 1) j (bI_ gw gk n t b w T way 1 st a)
def bOk (a : Int32 × Nat) : Prop := a.2 < 11 ∧ (a.1 = -1 ∨ ∃ v, v < 100 ∧ a.1 = nI v)
theorem bS_ok (hV : Vg gw gk n t u b) {T way F : Nat} (hT : T < 2) (hw : way < 4) (hF : F < 6) {a : Int32 × Nat} (h : bOk a) : bOk (bS gw gk n t b w T way F a) := by
  obtain ⟨e, he, z⟩ := end_v (w := w) (F := F) hV hw
  have ee : eF gw gk n t b w way F = e := by rw [eF, z, nI_clamp (by omega)]
  rw [bS, ee]
  split
  · exact h
  · exact ⟨(col_f e he T hT).2.2, Or.inr ⟨10 * way + F, by omega, rfl⟩⟩
theorem c_in (hV : Vg gw gk n t u b) (hi : w < n) {T way st : Nat} (hT : T < 2) (hw : way < 4) (hst : st < 6) (tT : gw (9 * w) = nI T) (sS : gw (9 * w + 1) = nI st) (rec : Int32 → Int32 → Int32 → Int32 → Int32 → Int32 → Option (Int32 × Int32)) : ∀ (j F f : Nat) (a : Int32 × Nat) (net : Int32), F + j = st + 1 → 1 ≤ F → j < f → bOk a → ∃ net', fX7_bestStrike_28 gw gk rec f (nI w) (nI T) a.1 (bN a.2) (nI way) (nI F) net = rec (nI w) (nI T) (bI_ gw gk n t b w T way F j a).1 (bN (bI_ gw gk n t b w T way F j a).2) (nI (way + 1)) net' ∧ bOk (bI_ gw gk n t b w T way F j a) := by
  have h10 := hV.1.1
  intro j
  induction j with
  | zero =>
    intro F f a net h h1 hf hk
    obtain ⟨f, rfl⟩ : ∃ q, f = q + 1 := ⟨f - 1, by omega⟩
    refine ⟨net, ?_, hk⟩
    rw [fX7_bestStrike_28, of1 gw (by omega), Option.bind_some, sS, if_pos (nI_lt (by omega) (by omega)), nI_1]
    rfl
  | succ j ih =>
    intro F f a net h h1 hf hk
    obtain ⟨f, rfl⟩ : ∃ q, f = q + 1 := ⟨f - 1, by omega⟩
    obtain ⟨e, he, z⟩ := end_v (w := w) (F := F) hV hw
    have ee : eF gw gk n t b w way F = e := by rw [eF, z, nI_clamp (by omega)]
    obtain ⟨c1, c2, c3⟩ := col_f e he T hT
    obtain ⟨b1, b2, b3⟩ := bst_f a.2 hk.1 (cN e T) c3
    obtain ⟨net', i1, i2⟩ := ih (F + 1) f (bS gw gk n t b w T way F a) (goF gw n t w way F b).2 (by omega) (by omega) (by omega) (bS_ok hV hT hw (by omega) hk)
    refine ⟨net', ?_, i2⟩
    rw [fX7_bestStrike_28, of1 gw (by omega), Option.bind_some, sS, if_neg (nI_nlt (by omega) (by omega)), endC hV hi hw (by omega), Option.bind_some, z, c1, fX7_bestStrike_80, fX7_bestStrike_80, nI_1, tfi way hw F (by omega), bI_, ← i1, bS, ee]
    by_cases y : a.2 ≤ cN e T
    · rw [if_pos (b1.mpr y), if_pos y]
    · rw [if_neg (fun q => y (b1.mp q)), if_neg y]
theorem m_in (hR : Rg gw gk ms) (hV : Vg gw gk n t u b) (hi : w < n) {T way st : Nat} (hT : T < 2) (hw : way < 4) (hst : st < 6) (tT : gw (9 * w) = nI T) (sS : gw (9 * w + 1) = nI st) (rec : Int32 → Int32 → Int32 → Int32 → Int32 → Int32 → Option (Int32 × Int32 × Int32)) : ∀ (j F f : Nat) (a : Int32 × Nat) (net : Int32), F + j = st + 1 → 1 ≤ F → j < f → bOk a → ∃ net', fX8_best_61 ms rec f (nI w) a.1 (bL a.2) (nI way) (nI F) 0 net = rec (nI w) (bI_ gw gk n t b w T way F j a).1 (bL (bI_ gw gk n t b w T way F j a).2) (nI (way + 1)) 0 net' := by
  have h10 := hV.1.1
  obtain ⟨em0, em⟩ := e_ms hR (i := w) (by omega)
  intro j
  induction j with
  | zero =>
    intro F f a net h h1 hf hk
    obtain ⟨f, rfl⟩ : ∃ q, f = q + 1 := ⟨f - 1, by omega⟩
    refine ⟨net, ?_⟩
    rw [fX8_best_61, mof1 ms (by omega), Option.bind_some, em 1 (by omega), sS, if_pos (nI_lt (by omega) (by omega)), nI_1]
    rfl
  | succ j ih =>
    intro F f a net h h1 hf hk
    obtain ⟨f, rfl⟩ : ∃ q, f = q + 1 := ⟨f - 1, by omega⟩
    obtain ⟨e, he, z⟩ := end_v (w := w) (F := F) hV hw
    have ee : eF gw gk n t b w way F = e := by rw [eF, z, nI_clamp (by omega)]
    obtain ⟨c1, c2, c3⟩ := col_f e he T hT
    obtain ⟨b1, b2, b3⟩ := bst_f a.2 hk.1 (cN e T) c3
    obtain ⟨net', i1⟩ := ih (F + 1) f (bS gw gk n t b w T way F a) (goF gw n t w way F b).2 (by omega) (by omega) (by omega) (bS_ok hV hT hw (by omega) hk)
    refine ⟨net', ?_⟩
    rw [fX8_best_61, mof1 ms (by omega), Option.bind_some, em 1 (by omega), sS, if_neg (nI_nlt (by omega) (by omega)), mof0 ms (by omega), Option.bind_some, em0, tT, endM hR hV hi hw (by omega), Option.bind_some, z, c2, fX8_best_110, nI_1, tfi way hw F (by omega), b3, bI_, ← i1, bS, ee]
    by_cases y : a.2 ≤ cN e T
    · rw [if_pos (b2.mpr y), if_pos y, show min a.2 (cN e T) = a.2 from by omega]
    · rw [if_neg (fun q => y (b2.mp q)), if_neg y, show min a.2 (cN e T) = cN e T from by omega]
theorem c_out (hV : Vg gw gk n t u b) (hi : w < n) {T st : Nat} (hT : T < 2) (hst : st < 6) (tT : gw (9 * w) = nI T) (sS : gw (9 * w + 1) = nI st) : ∀ (j way f : Nat) (a : Int32 × Nat) (net : Int32), way + j = 4 → j < f → bOk a → ∃ net', fX7_bestStrike_19 gw gk f (nI w) (nI T) a.1 (bN a.2) (nI way) net = some ((bO gw gk n t b w T st way j a).1, net') ∧ bOk (bO gw gk n t b w T st way j a) := by
  intro j
  induction j with
  | zero =>
    intro way f a net h hf hk
    obtain ⟨f, rfl⟩ : ∃ q, f = q + 1 := ⟨f - 1, by omega⟩
    refine ⟨net, ?_, hk⟩
    rw [fX7_bestStrike_19, if_pos (show (4 : Int32) ≤ nI way from nI_le (a := 4) (by omega) (by omega))]
    rfl
  | succ j ih =>
    intro way f a net h hf hk
    obtain ⟨f, rfl⟩ : ∃ q, f = q + 1 := ⟨f - 1, by omega⟩
    obtain ⟨net1, i1, i2⟩ := c_in hV hi hT (show way < 4 by omega) hst tT sS (fX7_bestStrike_19 gw gk f) st 1 64 a net (by omega) (by omega) (by omega) hk
    obtain ⟨net', j1, j2⟩ := ih (way + 1) f (bI_ gw gk n t b w T way 1 st a) net1 (by omega) (by omega) i2
    refine ⟨net', ?_, j2⟩
    rw [fX7_bestStrike_19, if_neg (show ¬ (4 : Int32) ≤ nI way from nI_ge (b := 4) (by omega) (by omega))]
    exact i1.trans j1
theorem m_out (hR : Rg gw gk ms) (hV : Vg gw gk n t u b) (hi : w < n) {T st : Nat} (hT : T < 2) (hst : st < 6) (tT : gw (9 * w) = nI T) (sS : gw (9 * w + 1) = nI st) : ∀ (j way f : Nat) (a : Int32 × Nat) (net : Int32), way + j = 4 → j < f → bOk a → ∃ net', fX8_best_52 ms f (nI w) a.1 (bL a.2) (nI way) 0 net = fX8_best_140 ms (if 0 ≤ (bO gw gk n t b w T st way j a).1 then 0 else 1) (bO gw gk n t b w T st way j a).1 0 net' := by
  intro j
  induction j with
  | zero =>
    intro way f a net h hf hk
    obtain ⟨f, rfl⟩ : ∃ q, f = q + 1 := ⟨f - 1, by omega⟩
    refine ⟨net, ?_⟩
    rw [fX8_best_52, if_pos (show (4 : Int32) ≤ nI way from nI_le (a := 4) (by omega) (by omega))]
    rfl
  | succ j ih =>
    intro way f a net h hf hk
    obtain ⟨f, rfl⟩ : ∃ q, f = q + 1 := ⟨f - 1, by omega⟩
    obtain ⟨net1, i1⟩ := m_in hR hV hi hT (show way < 4 by omega) hst tT sS (fX8_best_52 ms f) st 1 64 a net (by omega) (by omega) (by omega) hk
    obtain ⟨_, _, i2⟩ := c_in hV hi hT (show way < 4 by omega) hst tT sS (fun _ _ _ _ _ _ => none) st 1 64 a net (by omega) (by omega) (by omega) hk
    obtain ⟨net', j1⟩ := ih (way + 1) f (bI_ gw gk n t b w T way 1 st a) net1 (by omega) (by omega) i2
    refine ⟨net', ?_⟩
    rw [fX8_best_52, if_neg (show ¬ (4 : Int32) ≤ nI way from nI_ge (b := 4) (by omega) (by omega))]
    exact i1.trans j1
end BEST
theorem q_best {gw gk ms : Nat → Int32} {n t b : Nat} (net ud mnet thr p : Int32) (hR : Rg gw gk ms) (hV : Vg gw gk n t t b) : ∃ q r, fX7_best net ud gw gk p = some q ∧ fX8_best thr mnet ms p = some r ∧ (q.1 = 0 ∨ q.1 = 3 ∨ q.1 = 4) ∧ r.2.1 = lcode [3, 4] q.1 ∧ (q.1 = 0 → r.1 = q.2.1 ∧ BD q.2.1) := by
  have h10 := hV.1.1
  rcases whale_c hR hV.1.2.2.2.1 hV.1.1 p with ⟨h1, h2⟩ | ⟨w, hw, rfl, h1, h2⟩
  · exact ⟨(3, 0, net, ud), (0, 1, mnet), by rw [fX7_best, dem_w h1]; rfl, by rw [fX8_best, h2, Option.bind_some, if_pos rfl, fX8_best_14, th1, Option.bind_some, if_neg n10], Or.inr (Or.inl rfl), rfl, fun h => absurd h (show ¬ (3 : Nat) = 0 by decide)⟩
  · obtain ⟨f, d, c1, c2⟩ := can_e hR hV hw ud
    have e1 : fX7_best net ud gw gk (nI w) = (if f = 0 then (fX7_bestStrike net gw gk (nI w)).bind fun q6 => fX7_best_27 gw gk q6.1 q6.2 d else fX7_best_27 gw gk (-1) net d) := by
      rw [fX7_best, dem_w h1, Option.bind_some, if_neg n10, if_pos rfl, c1]; rfl
    have e2 : fX8_best thr mnet ms (nI w) = fX8_best_35 ms (if (if f = 0 then (1 : Int32) else 0) = 0 then 1 else 0) (nI w) 0 mnet := by
      rw [fX8_best, h2, Option.bind_some, if_neg n10, fX8_best_14, th0, Option.bind_some, if_pos rfl, c2]; rfl
    rw [e1, e2]
    by_cases z : f = 0
    · rw [if_pos z, if_pos z, if_neg n10, fX8_best_35, th0, Option.bind_some, if_pos rfl]
      obtain ⟨T1, ⟨st, st1, st2, st3⟩, _⟩ := hV.2.2.2.1 w hw
      obtain ⟨T, hT, tT⟩ : ∃ T, T < 2 ∧ gw (9 * w) = nI T := by
        rcases T1 with q | q
        · exact ⟨0, by omega, q⟩
        · exact ⟨1, by omega, q⟩
      have ok : bOk ((-1 : Int32), 10) := ⟨by decide, Or.inl rfl⟩
      obtain ⟨net', i1, i2⟩ := c_out (w := w) hV hw hT (show st < 6 by omega) tT st3 4 0 64 (-1, 10) net (by omega) (by omega) ok
      obtain ⟨mnet', j1⟩ := m_out (w := w) hR hV hw hT (show st < 6 by omega) tT st3 4 0 64 (-1, 10) mnet (by omega) (by omega) ok
      have k1 : fX7_bestStrike net gw gk (nI w) = some ((bO gw gk n t b w T st 0 4 (-1, 10)).1, net') := by
        rw [fX7_bestStrike, of0 gw (by omega), Option.bind_some, tT]
        exact i1
      rw [k1, Option.bind_some, show fX8_best_52 ms 64 (nI w) (-1) 99 0 0 mnet = _ from j1, fX7_best_27, fX8_best_140]
      rcases i2.2 with y | ⟨v, hv, y⟩
      · rw [y]
        exact ⟨(4, 0, net', d), (0, 2, mnet'), rfl, rfl, Or.inr (Or.inr rfl), rfl, fun h => absurd h (show ¬ (4 : Nat) = 0 by decide)⟩
      · have nv : ¬ nI v = -1 := nm1 (by omega)
        rw [y, if_neg nv, if_pos (nI_pos' (by omega)), th0, Option.bind_some, if_pos rfl]
        exact ⟨(0, nI v, net', d), (nI v, 0, mnet'), rfl, rfl, Or.inl rfl, rfl, fun _ => ⟨rfl, BD_nI (by omega)⟩⟩
    · rw [if_neg z, if_neg z, if_pos rfl, fX8_best_35, th1, Option.bind_some, if_neg n10]
      exact ⟨(4, 0, net, d), (0, 2, mnet), rfl, rfl, Or.inr (Or.inr rfl), rfl, fun h => absurd h (show ¬ (4 : Nat) = 0 by decide)⟩
theorem sx_best : St_best Inv := by
  intro f_net u_det t_len t_cur t_kin t_tol t_don n_len h_old h_siz x_sav x_err x_rea x_det x_com v_gw v_gk v_bw v_bk v_vw v_vk v_h0w v_h0k v_h1w v_h1k v_h2w v_h2k v_h3w v_h3k v_h4w v_h4k v_h5w v_h5k v_rs v_rl v_ro v_ti v_tn v_ns m_chg m_thr m_rea m_det m_ref m_err m_ans m_sav m_net m_lin m_tap m_her m_cmd v_ms v_mw v_mv v_mp v_mf v_ml v_mt v_mc hI p0
  obtain ⟨n, t, b, hV, hX⟩ := hI.2.1
  obtain ⟨q, r, h0, h1, h2, h3, h4⟩ := q_best f_net u_det m_net m_thr p0 hI.1 hV
  exact ⟨q, r, h0, h1, h2, h3, fun h => (h4 h).1, hI⟩
section FAIR
variable {gw gk ms : Nat → Int32} {n t b : Nat}
theorem f_tide (hV : Vg gw gk n t t b) : fX7_areTidesAlike gk = some 1 := by
  have h48 := hV.1.2.1
  have z : ∀ (d c k : Nat), c + d = t + 21 → d < k → fX7_areTidesAlike_11 gk k (nI t) (nI c) = some 1 := by
    intro d
    induction d with
    | zero =>
      intro c k h hk
      obtain ⟨k, rfl⟩ : ∃ q, k = q + 1 := ⟨k - 1, by omega⟩
      rw [fX7_areTidesAlike_11, show nI t + 20 = nI (t + 20) from nI_add t 20, if_pos (nI_lt (by omega) (by omega))]
    | succ d ih =>
      intro c k h hk
      obtain ⟨k, rfl⟩ : ∃ q, k = q + 1 := ⟨k - 1, by omega⟩
      rw [fX7_areTidesAlike_11, show nI t + 20 = nI (t + 20) from nI_add t 20, if_neg (nI_nlt (by omega) (by omega)), strokes_e (by omega), Option.bind_some, tide_f c (by omega), if_pos rfl, nI_1]
      exact ih (c + 1) k (by omega) (by omega)
  rw [fX7_areTidesAlike, ct1, Option.bind_some, hV.1.2.2.2.2.1]
  exact z 21 t 64 (by omega) (by omega)
theorem alike_e {f g : Nat → Int32} (h : ∀ c, c < 45 → fX4_spreadTo f (nI c) = fX4_loweredTo g (nI c) ∧ ∃ v, fX4_loweredTo g (nI c) = some v) : fX4_areAlike f g = some 1 := by
  have z : ∀ (d c k : Nat), c + d = 45 → d < k → fX4_areAlike_2 f g k (nI c) = some 1 := by
    intro d
    induction d with
    | zero =>
      intro c k h hk
      obtain ⟨k, rfl⟩ : ∃ q, k = q + 1 := ⟨k - 1, by omega⟩
      rw [fX4_areAlike_2, if_pos (show (45 : Int32) ≤ nI c from nI_le (a := 45) (by omega) (by omega))]
    | succ d ih =>
      intro c k hh hk
      obtain ⟨k, rfl⟩ : ∃ q, k = q + 1 := ⟨k - 1, by omega⟩
      obtain ⟨e1, v, e2⟩ := h c (by omega)
      rw [fX4_areAlike_2, if_neg (show ¬ (45 : Int32) ≤ nI c from nI_ge (b := 45) (by omega) (by omega)), e1, e2, Option.bind_some, Option.bind_some, if_pos rfl, nI_1]
      exact ih (c + 1) k (by omega) (by omega)
  exact z 45 0 64 (by omega) (by omega)
theorem f_steps (hV : Vg gw gk n t t b) : ∀ (j i k : Nat) (rs rl ro : Nat → Int32), i + j = n → j < k → ∃ rs' rl' ro', fX7_areStepsAlike_2 gw gk k (nI i) rs rl ro = some (1, rs', rl', ro') := by
  have h10 := hV.1.1
  intro j
  induction j with
  | zero =>
    intro i k rs rl ro h hk
    obtain ⟨k, rfl⟩ : ∃ q, k = q + 1 := ⟨k - 1, by omega⟩
    exact ⟨rs, rl, ro, by rw [fX7_areStepsAlike_2, ct0, Option.bind_some, hV.1.2.2.2.1, if_pos (nI_le (by omega) (by omega))]⟩
  | succ j ih =>
    intro i k rs rl ro h hk
    obtain ⟨k, rfl⟩ : ∃ q, k = q + 1 := ⟨k - 1, by omega⟩
    rw [fX7_areStepsAlike_2, ct0, Option.bind_some, hV.1.2.2.2.1, if_neg (nI_ge (by omega) (by omega)), bench_c gw (by omega), Option.bind_some]
    rcases (hV.2.2.2.1 i (by omega)).2.2.2.2.1 with ⟨q, _⟩ | ⟨s, hs, q⟩
    · obtain ⟨rs', rl', ro', e⟩ := ih (i + 1) k rs rl ro (by omega) (by omega)
      exact ⟨rs', rl', ro', by rw [if_pos q, if_pos rfl, fX7_areStepsAlike_53, nI_1]; exact e⟩
    · obtain ⟨f, ro1, a1, a2⟩ := way_s hV (show i < n by omega) hs q rs ro
      obtain ⟨g, ro2, b1, b2⟩ := way_l hV (show i < n by omega) hs q rl ro1
      have al := alike_e (f := f) (g := g) (fun c hc => by
        rcases far_2 hs (Or.inl rfl) a2 b2 hc with ⟨v, v1, v2, v3⟩ | ⟨v2, v3⟩
        · exact ⟨(to_v hc v1 v2).1.trans (to_v hc v1 v3).2.symm, _, (to_v hc v1 v3).2⟩
        · exact ⟨(to_1000 hc v2).1.trans (to_1000 hc v3).2.symm, _, (to_1000 hc v3).2⟩)
      obtain ⟨rs', rl', ro', e⟩ := ih (i + 1) k f g ro2 (by omega) (by omega)
      refine ⟨rs', rl', ro', ?_⟩
      rw [if_neg (show ¬ gw (9 * i + 4) = -1 by rw [q]; exact nm1 (by omega)), if_neg n10, a1, Option.bind_some, b1, Option.bind_some, al, Option.bind_some, if_neg n10, fX7_areStepsAlike_53, nI_1]
      exact e
theorem f_fl3 (hV : Vg gw gk n t t b) {i way : Nat} (hi : i < n) (hw : way < 4) (rec2 : Int32 → Int32 → Option (Int32 × Int32)) (rec : Int32 → Int32 → Int32 → Option (Int32 × Int32)) : ∀ (j F k : Nat) (net : Int32), F + j = 6 → 1 ≤ F → j < k → ∃ net', fX7_areFlightsAlike_23 gw gk rec2 rec k (nI i) (nI way) (nI F) net = rec (nI i) (nI (way + 1)) net' := by
  intro j
  induction j with
  | zero =>
    intro F k net h h1 hk
    obtain ⟨k, rfl⟩ : ∃ q, k = q + 1 := ⟨k - 1, by omega⟩
    exact ⟨net, by rw [fX7_areFlightsAlike_23, if_pos (show (5 : Int32) < nI F from nI_lt (a := 5) (by omega) (by omega)), nI_1]⟩
  | succ j ih =>
    intro F k net h h1 hk
    obtain ⟨k, rfl⟩ : ∃ q, k = q + 1 := ⟨k - 1, by omega⟩
    obtain ⟨net', e⟩ := ih (F + 1) k (goF gw n t i way F b).2 (by omega) (by omega) (by omega)
    refine ⟨net', ?_⟩
    rw [fX7_areFlightsAlike_23, if_neg (show ¬ (5 : Int32) < nI F from nI_nlt (a := 5) (by omega) (by omega)), endC hV hi hw (by omega), Option.bind_some, stops_e hV hi hw h1 (by omega), Option.bind_some, if_pos rfl, nI_1]
    exact e
theorem f_fl2 (hV : Vg gw gk n t t b) {i : Nat} (hi : i < n) (rec2 : Int32 → Int32 → Option (Int32 × Int32)) : ∀ (j way k : Nat) (net : Int32), way + j = 4 → j < k → ∃ net', fX7_areFlightsAlike_16 gw gk rec2 k (nI i) (nI way) net = rec2 (nI (i + 1)) net' := by
  intro j
  induction j with
  | zero =>
    intro way k net h hk
    obtain ⟨k, rfl⟩ : ∃ q, k = q + 1 := ⟨k - 1, by omega⟩
    exact ⟨net, by rw [fX7_areFlightsAlike_16, if_pos (show (4 : Int32) ≤ nI way from nI_le (a := 4) (by omega) (by omega)), nI_1]⟩
  | succ j ih =>
    intro way k net h hk
    obtain ⟨k, rfl⟩ : ∃ q, k = q + 1 := ⟨k - 1, by omega⟩
    obtain ⟨net1, e1⟩ := f_fl3 hV hi (show way < 4 by omega) rec2 (fX7_areFlightsAlike_16 gw gk rec2 k) 5 1 64 net (by omega) (by omega) (by omega)
    obtain ⟨net', e⟩ := ih (way + 1) k net1 (by omega) (by omega)
    refine ⟨net', ?_⟩
    rw [fX7_areFlightsAlike_16, if_neg (show ¬ (4 : Int32) ≤ nI way from nI_ge (b := 4) (by omega) (by omega))]
    exact e1.trans e
theorem f_fl1 (hV : Vg gw gk n t t b) : ∀ (j i k : Nat) (net : Int32), i + j = n → j < k → ∃ net', fX7_areFlightsAlike_2 gw gk k (nI i) net = some (1, net') := by
  have h10 := hV.1.1
  intro j
  induction j with
  | zero =>
    intro i k net h hk
    obtain ⟨k, rfl⟩ : ∃ q, k = q + 1 := ⟨k - 1, by omega⟩
    exact ⟨net, by rw [fX7_areFlightsAlike_2, ct0, Option.bind_some, hV.1.2.2.2.1, if_pos (nI_le (by omega) (by omega))]⟩
  | succ j ih =>
    intro i k net h hk
    obtain ⟨k, rfl⟩ : ∃ q, k = q + 1 := ⟨k - 1, by omega⟩
    obtain ⟨net1, e1⟩ := f_fl2 hV (show i < n by omega) (fX7_areFlightsAlike_2 gw gk k) 4 0 64 net (by omega) (by omega)
    obtain ⟨net', e⟩ := ih (i + 1) k net1 (by omega) (by omega)
    refine ⟨net', ?_⟩
    rw [fX7_areFlightsAlike_2, ct0, Option.bind_some, hV.1.2.2.2.1, if_neg (nI_ge (by omega) (by omega))]
    exact e1.trans e
/-- a whale in play is the one on its cell, for whales' cells are their own -/
theorem own_e (hV : Vg gw gk n t t b) {i s : Nat} (hi : i < n) (hs : s < 45) (q : gw (9 * i + 4) = nI s) : fstF (pOn gw (nI s)) 0 n = nI i := by
  have h10 := hV.1.1
  rcases fst_spec (pOn gw (nI s)) n 0 with ⟨_, y2⟩ | ⟨v, _, v1, v2, y, _⟩
  · have := y2 i (by omega) (by omega)
    rw [pOn, q] at this
    simp at this
  · have v2' : gw (9 * v + 4) = nI s := of_decide_eq_true v2
    have nc : ¬ nI s = -1 := nm1 (by omega)
    have ds := hV.2.2.2.2.2
    rw [y]
    by_cases l : v < i
    · have := ds i v hi l (by rw [q, v2']); rw [q] at this; exact absurd this nc
    · by_cases l2 : i < v
      · have := ds v i (by omega) l2 (by rw [q, v2']); rw [v2'] at this; exact absurd this nc
      · rw [show v = i from by omega]
def fairF (gw : Nat → Int32) (n : Nat) : Int32 := if 3 < cntPl gw 0 n then 0 else if 3 < cntPl gw 1 n then 0 else 1
theorem f_pl (hV : Vg gw gk n t t b) : ∀ (j i k : Nat), i + j = n → j < k → fX7_isPlaced_2 gw gk k (nI i) = some (fairF gw n) := by
  have h10 := hV.1.1
  have c0 : cntPl gw 0 n ≤ n := cnt_le (pPl gw 0) n 0
  have c1 : cntPl gw 1 n ≤ n := cnt_le (pPl gw 1) n 0
  have lt3 : ∀ x, x ≤ n → ((3 : Int32) < nI x ↔ 3 < x) := fun x hx => nI_ltI (a := 3) (by omega) (by omega)
  intro j
  induction j with
  | zero =>
    intro i k h hk
    obtain ⟨k, rfl⟩ : ∃ q, k = q + 1 := ⟨k - 1, by omega⟩
    rw [fX7_isPlaced_2, ct0, Option.bind_some, hV.1.2.2.2.1, if_pos (nI_le (by omega) (by omega)), play_c hV, play_c hV, Option.bind_some, Option.bind_some, fairF]
    by_cases z : 3 < cntPl gw 0 n
    · rw [if_pos ((lt3 _ c0).mpr z), if_pos z]
    · rw [if_neg (fun q => z ((lt3 _ c0).mp q)), if_neg z]
      by_cases y : 3 < cntPl gw 1 n
      · rw [if_pos ((lt3 _ c1).mpr y), if_pos y]
      · rw [if_neg (fun q => y ((lt3 _ c1).mp q)), if_neg y]
  | succ j ih =>
    intro i k h hk
    obtain ⟨k, rfl⟩ : ∃ q, k = q + 1 := ⟨k - 1, by omega⟩
    have e := ih (i + 1) k (by omega) (by omega)
    rw [fX7_isPlaced_2, ct0, Option.bind_some, hV.1.2.2.2.1, if_neg (nI_ge (by omega) (by omega)), bench_c gw (by omega), Option.bind_some, of4 gw (by omega), Option.bind_some, fX7_isPlaced_47, nI_1, e]
    rcases (hV.2.2.2.1 i (by omega)).2.2.2.2.1 with ⟨q, _⟩ | ⟨s, hs, q⟩
    · rw [if_pos q, if_pos rfl]
    · rw [q, if_neg (nm1 (by omega)), if_neg n10, whaleOn_e hV.1.2.2.2.1 h10, Option.bind_some, own_e hV (by omega) hs q, if_pos rfl]
theorem f_m (hR : Rg gw gk ms) (hV : Vg gw gk n t t b) (x : Int32) (hx : x = 0 ∨ x = 1) : ∀ (j i k : Nat), i + j = n → j < k → fX8_isFair_31 ms k x (nI i) 0 = some (x, 0) := by
  have h10 := hV.1.1
  have h0 : ms 0 = nI n := hR.2.1.trans hV.1.2.2.2.1
  have x1 : x &&& 1 = x := by rcases hx with z | z <;> rw [z] <;> rfl
  intro j
  induction j with
  | zero =>
    intro i k h hk
    obtain ⟨k, rfl⟩ : ∃ q, k = q + 1 := ⟨k - 1, by omega⟩
    rw [fX8_isFair_31, if_pos v103_0, cl_0, h0, if_pos (nI_le (by omega) (by omega)), x1]
  | succ j ih =>
    intro i k h hk
    obtain ⟨k, rfl⟩ : ∃ q, k = q + 1 := ⟨k - 1, by omega⟩
    have e := ih (i + 1) k (by omega) (by omega)
    rw [fX8_isFair_31, if_pos v103_0, cl_0, h0, if_neg (nI_ge (by omega) (by omega)), mof4 ms (by omega), Option.bind_some, Option.bind_some, (e_ms hR (i := i) (by omega)).2 4 (by omega), fX8_isFair_70, nI_1, x1, e]
    rcases (hV.2.2.2.1 i (by omega)).2.2.2.2.1 with ⟨q, _⟩ | ⟨s, hs, q⟩
    · rw [q, if_pos (show (-1 : Int32) < 0 from by decide)]
    · rw [q, if_neg (nI_pos (by omega)), whaleAt_e hR hV.1.2.2.2.1 h10, Option.bind_some, own_e hV (by omega) hs q, if_pos rfl, fX8_isFair_70, nI_1, x1, e]
theorem q_fair (net thr : Int32) (rs rl ro : Nat → Int32) (hR : Rg gw gk ms) (hV : Vg gw gk n t t b) : ∃ net' rs' rl' ro', fX7_isFair net gw gk rs rl ro = some (fairF gw n, net', rs', rl', ro') ∧ fX8_isFair thr ms = some (fairF gw n, 0) := by
  have h10 := hV.1.1
  obtain ⟨rs', rl', ro', e1⟩ := f_steps hV n 0 64 rs rl ro (by omega) (by omega)
  obtain ⟨net', e2⟩ := f_fl1 hV n 0 64 net (by omega) (by omega)
  have e3 := f_pl hV n 0 64 (by omega) (by omega)
  have c0 : cntPl gw 0 n ≤ n := cnt_le (pPl gw 0) n 0
  have c1 : cntPl gw 1 n ≤ n := cnt_le (pPl gw 1) n 0
  have lt3 : ∀ x, x ≤ n → ((3 : Int32) < nI x ↔ 3 < x) := fun x hx => nI_ltI (a := 3) (by omega) (by omega)
  refine ⟨net', rs', rl', ro', ?_, ?_⟩
  · rw [fX7_isFair, f_tide hV, Option.bind_some, if_neg n10, show fX7_areStepsAlike gw gk rs rl ro = _ from e1, Option.bind_some, if_neg n10, show fX7_areFlightsAlike net gw gk = _ from e2, Option.bind_some, if_neg n10, show fX7_isPlaced gw gk = _ from e3, Option.bind_some]
    by_cases z : fairF gw n = 0
    · rw [if_pos z, z]
    · rw [if_neg z]
      have : fairF gw n = 1 := by
        rw [fairF] at z ⊢
        split
        · next h => rw [if_pos h] at z; exact absurd rfl z
        · next h =>
          rw [if_neg h] at z
          split
          · next h2 => rw [if_pos h2] at z; exact absurd rfl z
          · rfl
      rw [this]
  · rw [fX8_isFair, play_m hR hV, play_m hR hV, Option.bind_some, Option.bind_some, fairF, fX8_isFair_28, fX8_isFair_28]
    by_cases z : 3 < cntPl gw 0 n
    · rw [if_pos ((lt3 _ c0).mpr z), if_pos z]; exact f_m hR hV 0 (Or.inl rfl) n 0 64 (by omega) (by omega)
    · rw [if_neg (fun q => z ((lt3 _ c0).mp q)), if_neg z]
      by_cases y : 3 < cntPl gw 1 n
      · rw [if_pos ((lt3 _ c1).mpr y), if_pos y]; exact f_m hR hV 0 (Or.inl rfl) n 0 64 (by omega) (by omega)
      · rw [if_neg (fun q => y ((lt3 _ c1).mp q)), if_neg y]; exact f_m hR hV 1 (Or.inr rfl) n 0 64 (by omega) (by omega)
end FAIR
theorem sx_isFair : St_isFair Inv := by
  intro f_net u_det t_len t_cur t_kin t_tol t_don n_len h_old h_siz x_sav x_err x_rea x_det x_com v_gw v_gk v_bw v_bk v_vw v_vk v_h0w v_h0k v_h1w v_h1k v_h2w v_h2k v_h3w v_h3k v_h4w v_h4k v_h5w v_h5k v_rs v_rl v_ro v_ti v_tn v_ns m_chg m_thr m_rea m_det m_ref m_err m_ans m_sav m_net m_lin m_tap m_her m_cmd v_ms v_mw v_mv v_mp v_mf v_ml v_mt v_mc hI
  obtain ⟨n, t, b, hV, hX⟩ := hI.2.1
  obtain ⟨net', rs', rl', ro', e1, e2⟩ := q_fair f_net m_thr v_rs v_rl v_ro hI.1 hV
  exact ⟨_, _, e1, e2, rfl, hI⟩

