/-! what is known of a game, and how it is kept -/
def Vw (u : Nat) (gw : Nat → Int32) (i : Nat) : Prop :=
  (gw (9 * i) = 0 ∨ gw (9 * i) = 1) ∧ (∃ s, 1 ≤ s ∧ s ≤ 5 ∧ gw (9 * i + 1) = nI s) ∧ (∃ s, 1 ≤ s ∧ s ≤ 4 ∧ gw (9 * i + 2) = nI s) ∧ (∃ b, b ≤ 20 ∧ gw (9 * i + 3) = nI b) ∧ (gw (9 * i + 4) = -1 ∧ gw (9 * i + 5) = 0 ∨ ∃ c, c < 45 ∧ gw (9 * i + 4) = nI c) ∧ (gw (9 * i + 5) = 0 ∨ gw (9 * i + 5) = 1) ∧ (∃ z, z ≤ u ∧ gw (9 * i + 6) = nI z) ∧ (∃ z, z ≤ u ∧ gw (9 * i + 7) = nI z) ∧ (∃ z, z ≤ u ∧ gw (9 * i + 8) = nI z)
def Vs (gw : Nat → Int32) (n u : Nat) : Prop :=
  cntF (pTm gw 0) 0 n ≤ 5 ∧ cntF (pTm gw 1) 0 n ≤ 5 ∧ (∀ i, i < n → Vw u gw i) ∧ (∀ i, n ≤ i → i < 10 → gw (9 * i + 5) = 0 ∧ gw (9 * i + 6) = 0 ∧ gw (9 * i + 7) = 0 ∧ gw (9 * i + 8) = 0) ∧ (∀ i j, i < n → j < i → gw (9 * i + 4) = gw (9 * j + 4) → gw (9 * i + 4) = -1)
def Vk (gk : Nat → Int32) (n t u b : Nat) : Prop :=
  n ≤ 10 ∧ t ≤ 48 ∧ b < 45 ∧ gk 0 = nI n ∧ gk 1 = nI t ∧ gk 5 = nI b ∧ (gk 6 = -1 ∨ gk 6 = 0 ∨ gk 6 = 1) ∧ (∃ z, z ≤ u ∧ gk 7 = nI z) ∧ (∃ z, z ≤ u ∧ gk 8 = nI z) ∧ (gk 16 = 0 ∨ gk 16 = 1 ∨ gk 16 = 2) ∧ (gk 17 = 0 ∨ gk 17 = 1 ∨ gk 17 = 2)
def Vg (gw gk : Nat → Int32) (n t u b : Nat) : Prop := Vk gk n t u b ∧ Vs gw n u
def BD (x : Int32) : Prop := -800000 ≤ x.toInt ∧ x.toInt ≤ 800000
/-- a number of all whales, summed -/
def sI (gw : Nat → Int32) (c : Nat) : Nat → Int32
  | 0 => 0
  | k + 1 => sI gw c k + gw (9 * k + c)
/-- what the law asks of a game, beyond Vg: sums, and who plays -/
def Xn (gw gk : Nat → Int32) (n u : Nat) : Prop := gk 7 = sI gw 8 n ∧ gk 8 = sI gw 7 n ∧ cntF (pPl gw 0) 0 n ≤ 3 ∧ cntF (pPl gw 1) 0 n ≤ 3 ∧ ∃ a b g, gk 3 = nI a ∧ gk 4 = nI b ∧ sI gw 6 n = nI g ∧ g ≤ a + b ∧ a ≤ u ∧ b ≤ u
def Gd (gw gk : Nat → Int32) : Prop := ∃ n t b, Vg gw gk n t t b ∧ Xn gw gk n t
def Gm (m : Nat) (gw gk : Nat → Int32) : Prop := ∃ n t b, m ≤ n ∧ Vg gw gk n t t b ∧ Xn gw gk n t
def Gb (m : Nat) (told : Int32) (gw gk : Nat → Int32) : Prop := Gm m gw gk ∧ BD told
theorem Rg_w {gw gk ms : Nat → Int32} (h : Rg gw gk ms) {j : Nat} (hj : j < 90) (v : Int32) : Rg (upd gw j v) gk (upd ms (13 + j) v) := by
  obtain ⟨a, h0, h1, h2, h3, h4, h5, h6, h7, h8, h9, h10, h11, h12, hs⟩ := h
  refine ⟨fun q hq => ?_, ?_⟩
  · by_cases z : q = j
    · subst z; rw [pk_us, pk_us]
    · rw [pk_un z, pk_un (by omega), a q hq]
  · rw [pk_un (by omega), pk_un (by omega), pk_un (by omega), pk_un (by omega), pk_un (by omega), pk_un (by omega), pk_un (by omega), pk_un (by omega), pk_un (by omega), pk_un (by omega), pk_un (by omega), pk_un (by omega), pk_un (by omega)]
    exact ⟨h0, h1, h2, h3, h4, h5, h6, h7, h8, h9, h10, h11, h12, hs⟩
theorem Rg_k0 {gw gk ms : Nat → Int32} (h : Rg gw gk ms) (v : Int32) : Rg gw (upd gk 0 v) (upd ms 0 v) := by
  obtain ⟨a, h0, h1, h2, h3, h4, h5, h6, h7, h8, h9, h10, h11, h12, hs⟩ := h
  exact ⟨fun q hq => by rw [pk_un (by omega)]; exact a q hq, rfl, h1, h2, h3, h4, h5, h6, h7, h8, h9, h10, h11, h12, hs⟩
theorem Rg_k1 {gw gk ms : Nat → Int32} (h : Rg gw gk ms) (v : Int32) : Rg gw (upd gk 1 v) (upd ms 1 v) := by
  obtain ⟨a, h0, h1, h2, h3, h4, h5, h6, h7, h8, h9, h10, h11, h12, hs⟩ := h
  exact ⟨fun q hq => by rw [pk_un (by omega)]; exact a q hq, h0, rfl, h2, h3, h4, h5, h6, h7, h8, h9, h10, h11, h12, hs⟩
theorem Rg_k5 {gw gk ms : Nat → Int32} (h : Rg gw gk ms) (v : Int32) : Rg gw (upd gk 5 v) (upd ms 2 v) := by
  obtain ⟨a, h0, h1, h2, h3, h4, h5, h6, h7, h8, h9, h10, h11, h12, hs⟩ := h
  exact ⟨fun q hq => by rw [pk_un (by omega)]; exact a q hq, h0, h1, rfl, h3, h4, h5, h6, h7, h8, h9, h10, h11, h12, hs⟩
theorem Rg_k6 {gw gk ms : Nat → Int32} (h : Rg gw gk ms) (v : Int32) : Rg gw (upd gk 6 v) (upd ms 3 v) := by
  obtain ⟨a, h0, h1, h2, h3, h4, h5, h6, h7, h8, h9, h10, h11, h12, hs⟩ := h
  exact ⟨fun q hq => by rw [pk_un (by omega)]; exact a q hq, h0, h1, h2, rfl, h4, h5, h6, h7, h8, h9, h10, h11, h12, hs⟩
theorem Rg_k3 {gw gk ms : Nat → Int32} (h : Rg gw gk ms) (v : Int32) : Rg gw (upd gk 3 v) (upd ms 4 v) := by
  obtain ⟨a, h0, h1, h2, h3, h4, h5, h6, h7, h8, h9, h10, h11, h12, hs⟩ := h
  exact ⟨fun q hq => by rw [pk_un (by omega)]; exact a q hq, h0, h1, h2, h3, rfl, h5, h6, h7, h8, h9, h10, h11, h12, hs⟩
theorem Rg_k4 {gw gk ms : Nat → Int32} (h : Rg gw gk ms) (v : Int32) : Rg gw (upd gk 4 v) (upd ms 5 v) := by
  obtain ⟨a, h0, h1, h2, h3, h4, h5, h6, h7, h8, h9, h10, h11, h12, hs⟩ := h
  exact ⟨fun q hq => by rw [pk_un (by omega)]; exact a q hq, h0, h1, h2, h3, h4, rfl, h6, h7, h8, h9, h10, h11, h12, hs⟩
theorem Rg_k7 {gw gk ms : Nat → Int32} (h : Rg gw gk ms) (v : Int32) : Rg gw (upd gk 7 v) (upd ms 6 v) := by
  obtain ⟨a, h0, h1, h2, h3, h4, h5, h6, h7, h8, h9, h10, h11, h12, hs⟩ := h
  exact ⟨fun q hq => by rw [pk_un (by omega)]; exact a q hq, h0, h1, h2, h3, h4, h5, rfl, h7, h8, h9, h10, h11, h12, hs⟩
theorem Rg_k8 {gw gk ms : Nat → Int32} (h : Rg gw gk ms) (v : Int32) : Rg gw (upd gk 8 v) (upd ms 7 v) := by
  obtain ⟨a, h0, h1, h2, h3, h4, h5, h6, h7, h8, h9, h10, h11, h12, hs⟩ := h
  exact ⟨fun q hq => by rw [pk_un (by omega)]; exact a q hq, h0, h1, h2, h3, h4, h5, h6, rfl, h8, h9, h10, h11, h12, hs⟩
theorem Rg_k11 {gw gk ms : Nat → Int32} (h : Rg gw gk ms) (v : Int32) : Rg gw (upd gk 11 v) (upd ms 8 v) := by
  obtain ⟨a, h0, h1, h2, h3, h4, h5, h6, h7, h8, h9, h10, h11, h12, hs⟩ := h
  exact ⟨fun q hq => by rw [pk_un (by omega)]; exact a q hq, h0, h1, h2, h3, h4, h5, h6, h7, rfl, h9, h10, h11, h12, hs⟩
theorem Rg_k16 {gw gk ms : Nat → Int32} (h : Rg gw gk ms) (v : Int32) : Rg gw (upd gk 16 v) (upd ms 11 v) := by
  obtain ⟨a, h0, h1, h2, h3, h4, h5, h6, h7, h8, h9, h10, h11, h12, hs⟩ := h
  exact ⟨fun q hq => by rw [pk_un (by omega)]; exact a q hq, h0, h1, h2, h3, h4, h5, h6, h7, h8, h9, h10, rfl, h12, hs⟩
theorem Rg_k17 {gw gk ms : Nat → Int32} (h : Rg gw gk ms) (v : Int32) : Rg gw (upd gk 17 v) (upd ms 12 v) := by
  obtain ⟨a, h0, h1, h2, h3, h4, h5, h6, h7, h8, h9, h10, h11, h12, hs⟩ := h
  exact ⟨fun q hq => by rw [pk_un (by omega)]; exact a q hq, h0, h1, h2, h3, h4, h5, h6, h7, h8, h9, h10, h11, rfl, hs⟩
theorem Rg_s14 {gw gk ms : Nat → Int32} (h : Rg gw gk ms) : Rg gw (upd (upd gk 9 (gk 9 + 1)) 14 (gk 14 + 1)) (upd ms 9 (ms 9 + 1)) := by
  obtain ⟨a, h0, h1, h2, h3, h4, h5, h6, h7, h8, h9, h10, h11, h12, hs⟩ := h
  refine ⟨fun q hq => by rw [pk_un (by omega)]; exact a q hq, h0, h1, h2, h3, h4, h5, h6, h7, h8, congrArg (fun z => z + 1) h9, h10, h11, h12, ?_⟩
  show gk 9 + 1 = (gk 14 + 1) + gk 15
  rw [hs]
  rw [Int32.add_assoc, Int32.add_comm (gk 15) 1, ← Int32.add_assoc]
theorem Rg_s15 {gw gk ms : Nat → Int32} (h : Rg gw gk ms) : Rg gw (upd (upd gk 9 (gk 9 + 1)) 15 (gk 15 + 1)) (upd ms 10 (ms 10 + 1)) := by
  obtain ⟨a, h0, h1, h2, h3, h4, h5, h6, h7, h8, h9, h10, h11, h12, hs⟩ := h
  refine ⟨fun q hq => by rw [pk_un (by omega)]; exact a q hq, h0, h1, h2, h3, h4, h5, h6, h7, h8, h9, congrArg (fun z => z + 1) h10, h11, h12, ?_⟩
  show gk 9 + 1 = gk 14 + (gk 15 + 1)
  rw [hs]
  rw [Int32.add_assoc]
theorem cnt_congr {P Q : Nat → Bool} : ∀ (j i : Nat), (∀ k, i ≤ k → k < i + j → P k = Q k) → cntF P i j = cntF Q i j := by
  intro j
  induction j with
  | zero => intro i h; rfl
  | succ j ih =>
    intro i h
    rw [cntF, cntF, h i (Nat.le_refl _) (by omega), ih (i + 1) (fun k h1 h2 => h k (by omega) (by omega))]
theorem fst_congr {P Q : Nat → Bool} : ∀ (j i : Nat), (∀ k, i ≤ k → k < i + j → P k = Q k) → fstF P i j = fstF Q i j := by
  intro j
  induction j with
  | zero => intro i h; rfl
  | succ j ih =>
    intro i h
    rw [fstF, fstF, h i (Nat.le_refl _) (by omega), ih (i + 1) (fun k h1 h2 => h k (by omega) (by omega))]
theorem cnt_le (P : Nat → Bool) : ∀ (j i : Nat), cntF P i j ≤ j := by
  intro j
  induction j with
  | zero => intro i; exact Nat.le_refl _
  | succ j ih =>
    intro i
    have := ih (i + 1)
    rw [cntF]
    split <;> omega
theorem fst_spec (P : Nat → Bool) : ∀ (j i : Nat), (fstF P i j = -1 ∧ ∀ k, i ≤ k → k < i + j → P k = false) ∨ ∃ k, i ≤ k ∧ k < i + j ∧ P k = true ∧ fstF P i j = nI k ∧ ∀ q, i ≤ q → q < k → P q = false := by
  intro j
  induction j with
  | zero => intro i; exact Or.inl ⟨rfl, fun k h1 h2 => absurd h1 (by omega)⟩
  | succ j ih =>
    intro i
    rw [fstF]
    by_cases z : P i = true
    · rw [if_pos z]
      exact Or.inr ⟨i, Nat.le_refl _, by omega, z, rfl, fun q h1 h2 => absurd h1 (by omega)⟩
    · rw [if_neg z]
      have z0 : P i = false := by simpa using z
      rcases ih (i + 1) with ⟨h1, h2⟩ | ⟨k, h1, h2, h3, h4, h5⟩
      · refine Or.inl ⟨h1, fun k a b => ?_⟩
        by_cases e : k = i
        · rw [e]; exact z0
        · exact h2 k (by omega) (by omega)
      · refine Or.inr ⟨k, by omega, by omega, h3, h4, fun q a b => ?_⟩
        by_cases e : q = i
        · rw [e]; exact z0
        · exact h5 q (by omega) b
/-- the row of whales, one number of one whale changed -/
theorem up_ne {gw : Nat → Int32} {i c : Nat} {v : Int32} (k d : Nat) (hc : c < 9) (hd : d < 9) (h : k ≠ i ∨ d ≠ c) : upd gw (9 * i + c) v (9 * k + d) = gw (9 * k + d) := pk_un (by omega)
theorem pTm_up {gw : Nat → Int32} {i c : Nat} {v : Int32} (h0 : 0 < c) (hc : c < 9) (t : Int32) (k : Nat) : pTm (upd gw (9 * i + c) v) t k = pTm gw t k := by
  rw [pTm, pTm, show 9 * k = 9 * k + 0 from rfl, up_ne k 0 hc (by omega) (Or.inr (by omega))]
theorem Vs_3 {gw : Nat → Int32} {n u : Nat} (h : Vs gw n u) {i : Nat} (hi : i < n) {b : Nat} (hb : b ≤ 20) : Vs (upd gw (9 * i + 3) (nI b)) n u := by
  obtain ⟨h1, h2, h3, h4, h5⟩ := h
  refine ⟨?_, ?_, fun k hk => ?_, fun k hk hk2 => ?_, fun k j hk hj => ?_⟩
  · rw [cnt_congr (Q := pTm gw 0) n 0 (fun k _ _ => pTm_up (by omega) (by omega) 0 k)]; exact h1
  · rw [cnt_congr (Q := pTm gw 1) n 0 (fun k _ _ => pTm_up (by omega) (by omega) 1 k)]; exact h2
  · obtain ⟨a0, a1, a2, a3, a4, a5, a6, a7, a8⟩ := h3 k hk
    have f : ∀ d, d < 9 → d ≠ 3 → upd gw (9 * i + 3) (nI b) (9 * k + d) = gw (9 * k + d) := fun d hd ne => up_ne k d (by omega) hd (Or.inr ne)
    have g : upd gw (9 * i + 3) (nI b) (9 * k + 3) = nI b ∨ upd gw (9 * i + 3) (nI b) (9 * k + 3) = gw (9 * k + 3) := by
      by_cases e : k = i
      · rw [e]; exact Or.inl pk_us
      · exact Or.inr (up_ne k 3 (by omega) (by omega) (Or.inl e))
    have f0 : upd gw (9 * i + 3) (nI b) (9 * k) = gw (9 * k) := f 0 (by omega) (by omega)
    rw [Vw, f0, f 1 (by omega) (by omega), f 2 (by omega) (by omega), f 4 (by omega) (by omega), f 5 (by omega) (by omega), f 6 (by omega) (by omega), f 7 (by omega) (by omega), f 8 (by omega) (by omega)]
    refine ⟨a0, a1, a2, ?_, a4, a5, a6, a7, a8⟩
    rcases g with g | g
    · exact ⟨b, hb, g⟩
    · rw [g]; exact a3
  · rw [up_ne k 5 (by omega) (by omega) (Or.inl (by omega)), up_ne k 6 (by omega) (by omega) (Or.inl (by omega)), up_ne k 7 (by omega) (by omega) (Or.inl (by omega)), up_ne k 8 (by omega) (by omega) (Or.inl (by omega))]
    exact h4 k hk hk2
  · rw [up_ne k 4 (by omega) (by omega) (Or.inr (by omega)), up_ne j 4 (by omega) (by omega) (Or.inr (by omega))]
    exact h5 k j hk hj
theorem Vs_6 {gw : Nat → Int32} {n u : Nat} (h : Vs gw n u) {i : Nat} (hi : i < n) {b : Nat} (hb : b ≤ u) : Vs (upd gw (9 * i + 6) (nI b)) n u := by
  obtain ⟨h1, h2, h3, h4, h5⟩ := h
  refine ⟨?_, ?_, fun k hk => ?_, fun k hk hk2 => ?_, fun k j hk hj => ?_⟩
  · rw [cnt_congr (Q := pTm gw 0) n 0 (fun k _ _ => pTm_up (by omega) (by omega) 0 k)]; exact h1
  · rw [cnt_congr (Q := pTm gw 1) n 0 (fun k _ _ => pTm_up (by omega) (by omega) 1 k)]; exact h2
  · obtain ⟨a0, a1, a2, a3, a4, a5, a6, a7, a8⟩ := h3 k hk
    have f : ∀ d, d < 9 → d ≠ 6 → upd gw (9 * i + 6) (nI b) (9 * k + d) = gw (9 * k + d) := fun d hd ne => up_ne k d (by omega) hd (Or.inr ne)
    have g : upd gw (9 * i + 6) (nI b) (9 * k + 6) = nI b ∨ upd gw (9 * i + 6) (nI b) (9 * k + 6) = gw (9 * k + 6) := by
      by_cases e : k = i
      · rw [e]; exact Or.inl pk_us
      · exact Or.inr (up_ne k 6 (by omega) (by omega) (Or.inl e))
    have f0 : upd gw (9 * i + 6) (nI b) (9 * k) = gw (9 * k) := f 0 (by omega) (by omega)
    rw [Vw, f0, f 1 (by omega) (by omega), f 2 (by omega) (by omega), f 3 (by omega) (by omega), f 4 (by omega) (by omega), f 5 (by omega) (by omega), f 7 (by omega) (by omega), f 8 (by omega) (by omega)]
    refine ⟨a0, a1, a2, a3, a4, a5, ?_, a7, a8⟩
    rcases g with g | g
    · exact ⟨b, hb, g⟩
    · rw [g]; exact a6
  · rw [up_ne k 5 (by omega) (by omega) (Or.inl (by omega)), up_ne k 6 (by omega) (by omega) (Or.inl (by omega)), up_ne k 7 (by omega) (by omega) (Or.inl (by omega)), up_ne k 8 (by omega) (by omega) (Or.inl (by omega))]
    exact h4 k hk hk2
  · rw [up_ne k 4 (by omega) (by omega) (Or.inr (by omega)), up_ne j 4 (by omega) (by omega) (Or.inr (by omega))]
    exact h5 k j hk hj
theorem Vs_7 {gw : Nat → Int32} {n u : Nat} (h : Vs gw n u) {i : Nat} (hi : i < n) {b : Nat} (hb : b ≤ u) : Vs (upd gw (9 * i + 7) (nI b)) n u := by
  obtain ⟨h1, h2, h3, h4, h5⟩ := h
  refine ⟨?_, ?_, fun k hk => ?_, fun k hk hk2 => ?_, fun k j hk hj => ?_⟩
  · rw [cnt_congr (Q := pTm gw 0) n 0 (fun k _ _ => pTm_up (by omega) (by omega) 0 k)]; exact h1
  · rw [cnt_congr (Q := pTm gw 1) n 0 (fun k _ _ => pTm_up (by omega) (by omega) 1 k)]; exact h2
  · obtain ⟨a0, a1, a2, a3, a4, a5, a6, a7, a8⟩ := h3 k hk
    have f : ∀ d, d < 9 → d ≠ 7 → upd gw (9 * i + 7) (nI b) (9 * k + d) = gw (9 * k + d) := fun d hd ne => up_ne k d (by omega) hd (Or.inr ne)
    have g : upd gw (9 * i + 7) (nI b) (9 * k + 7) = nI b ∨ upd gw (9 * i + 7) (nI b) (9 * k + 7) = gw (9 * k + 7) := by
      by_cases e : k = i
      · rw [e]; exact Or.inl pk_us
      · exact Or.inr (up_ne k 7 (by omega) (by omega) (Or.inl e))
    have f0 : upd gw (9 * i + 7) (nI b) (9 * k) = gw (9 * k) := f 0 (by omega) (by omega)
    rw [Vw, f0, f 1 (by omega) (by omega), f 2 (by omega) (by omega), f 3 (by omega) (by omega), f 4 (by omega) (by omega), f 5 (by omega) (by omega), f 6 (by omega) (by omega), f 8 (by omega) (by omega)]
    refine ⟨a0, a1, a2, a3, a4, a5, a6, ?_, a8⟩
    rcases g with g | g
    · exact ⟨b, hb, g⟩
    · rw [g]; exact a7
  · rw [up_ne k 5 (by omega) (by omega) (Or.inl (by omega)), up_ne k 6 (by omega) (by omega) (Or.inl (by omega)), up_ne k 7 (by omega) (by omega) (Or.inl (by omega)), up_ne k 8 (by omega) (by omega) (Or.inl (by omega))]
    exact h4 k hk hk2
  · rw [up_ne k 4 (by omega) (by omega) (Or.inr (by omega)), up_ne j 4 (by omega) (by omega) (Or.inr (by omega))]
    exact h5 k j hk hj
theorem Vs_8 {gw : Nat → Int32} {n u : Nat} (h : Vs gw n u) {i : Nat} (hi : i < n) {b : Nat} (hb : b ≤ u) : Vs (upd gw (9 * i + 8) (nI b)) n u := by
  obtain ⟨h1, h2, h3, h4, h5⟩ := h
  refine ⟨?_, ?_, fun k hk => ?_, fun k hk hk2 => ?_, fun k j hk hj => ?_⟩
  · rw [cnt_congr (Q := pTm gw 0) n 0 (fun k _ _ => pTm_up (by omega) (by omega) 0 k)]; exact h1
  · rw [cnt_congr (Q := pTm gw 1) n 0 (fun k _ _ => pTm_up (by omega) (by omega) 1 k)]; exact h2
  · obtain ⟨a0, a1, a2, a3, a4, a5, a6, a7, a8⟩ := h3 k hk
    have f : ∀ d, d < 9 → d ≠ 8 → upd gw (9 * i + 8) (nI b) (9 * k + d) = gw (9 * k + d) := fun d hd ne => up_ne k d (by omega) hd (Or.inr ne)
    have g : upd gw (9 * i + 8) (nI b) (9 * k + 8) = nI b ∨ upd gw (9 * i + 8) (nI b) (9 * k + 8) = gw (9 * k + 8) := by
      by_cases e : k = i
      · rw [e]; exact Or.inl pk_us
      · exact Or.inr (up_ne k 8 (by omega) (by omega) (Or.inl e))
    have f0 : upd gw (9 * i + 8) (nI b) (9 * k) = gw (9 * k) := f 0 (by omega) (by omega)
    rw [Vw, f0, f 1 (by omega) (by omega), f 2 (by omega) (by omega), f 3 (by omega) (by omega), f 4 (by omega) (by omega), f 5 (by omega) (by omega), f 6 (by omega) (by omega), f 7 (by omega) (by omega)]
    refine ⟨a0, a1, a2, a3, a4, a5, a6, a7, ?_⟩
    rcases g with g | g
    · exact ⟨b, hb, g⟩
    · rw [g]; exact a8
  · rw [up_ne k 5 (by omega) (by omega) (Or.inl (by omega)), up_ne k 6 (by omega) (by omega) (Or.inl (by omega)), up_ne k 7 (by omega) (by omega) (Or.inl (by omega)), up_ne k 8 (by omega) (by omega) (Or.inl (by omega))]
    exact h4 k hk hk2
  · rw [up_ne k 4 (by omega) (by omega) (Or.inr (by omega)), up_ne j 4 (by omega) (by omega) (Or.inr (by omega))]
    exact h5 k j hk hj
theorem Vs_5_0 {gw : Nat → Int32} {n u : Nat} (h : Vs gw n u) {i : Nat} (hi : i < n) : Vs (upd gw (9 * i + 5) 0) n u := by
  obtain ⟨h1, h2, h3, h4, h5⟩ := h
  refine ⟨?_, ?_, fun k hk => ?_, fun k hk hk2 => ?_, fun k j hk hj => ?_⟩
  · rw [cnt_congr (Q := pTm gw 0) n 0 (fun k _ _ => pTm_up (by omega) (by omega) 0 k)]; exact h1
  · rw [cnt_congr (Q := pTm gw 1) n 0 (fun k _ _ => pTm_up (by omega) (by omega) 1 k)]; exact h2
  · obtain ⟨a0, a1, a2, a3, a4, a5, a6, a7, a8⟩ := h3 k hk
    have f : ∀ d, d < 9 → d ≠ 5 → upd gw (9 * i + 5) 0 (9 * k + d) = gw (9 * k + d) := fun d hd ne => up_ne k d (by omega) hd (Or.inr ne)
    have g : (k = i ∧ upd gw (9 * i + 5) 0 (9 * k + 5) = 0) ∨ upd gw (9 * i + 5) 0 (9 * k + 5) = gw (9 * k + 5) := by
      by_cases e : k = i
      · rw [e]; exact Or.inl ⟨rfl, pk_us⟩
      · exact Or.inr (up_ne k 5 (by omega) (by omega) (Or.inl e))
    have f0 : upd gw (9 * i + 5) 0 (9 * k) = gw (9 * k) := f 0 (by omega) (by omega)
    rw [Vw, f0, f 1 (by omega) (by omega), f 2 (by omega) (by omega), f 3 (by omega) (by omega), f 4 (by omega) (by omega), f 6 (by omega) (by omega), f 7 (by omega) (by omega), f 8 (by omega) (by omega)]
    refine ⟨a0, a1, a2, a3, ?_, ?_, a6, a7, a8⟩
    · rcases g with ⟨e, g⟩ | g
      · rw [g]
        rcases a4 with ⟨x, _⟩ | x
        · exact Or.inl ⟨x, rfl⟩
        · exact Or.inr x
      · rw [g]; exact a4
    · rcases g with ⟨e, g⟩ | g
      · rw [g]; exact Or.inl rfl
      · rw [g]; exact a5
  · rw [up_ne k 5 (by omega) (by omega) (Or.inl (by omega)), up_ne k 6 (by omega) (by omega) (Or.inl (by omega)), up_ne k 7 (by omega) (by omega) (Or.inl (by omega)), up_ne k 8 (by omega) (by omega) (Or.inl (by omega))]
    exact h4 k hk hk2
  · rw [up_ne k 4 (by omega) (by omega) (Or.inr (by omega)), up_ne j 4 (by omega) (by omega) (Or.inr (by omega))]
    exact h5 k j hk hj
theorem Vs_5_1 {gw : Nat → Int32} {n u : Nat} (h : Vs gw n u) {i : Nat} (hi : i < n) (hc : gw (9 * i + 4) ≠ -1) : Vs (upd gw (9 * i + 5) 1) n u := by
  obtain ⟨h1, h2, h3, h4, h5⟩ := h
  refine ⟨?_, ?_, fun k hk => ?_, fun k hk hk2 => ?_, fun k j hk hj => ?_⟩
  · rw [cnt_congr (Q := pTm gw 0) n 0 (fun k _ _ => pTm_up (by omega) (by omega) 0 k)]; exact h1
  · rw [cnt_congr (Q := pTm gw 1) n 0 (fun k _ _ => pTm_up (by omega) (by omega) 1 k)]; exact h2
  · obtain ⟨a0, a1, a2, a3, a4, a5, a6, a7, a8⟩ := h3 k hk
    have f : ∀ d, d < 9 → d ≠ 5 → upd gw (9 * i + 5) 1 (9 * k + d) = gw (9 * k + d) := fun d hd ne => up_ne k d (by omega) hd (Or.inr ne)
    have g : (k = i ∧ upd gw (9 * i + 5) 1 (9 * k + 5) = 1) ∨ upd gw (9 * i + 5) 1 (9 * k + 5) = gw (9 * k + 5) := by
      by_cases e : k = i
      · rw [e]; exact Or.inl ⟨rfl, pk_us⟩
      · exact Or.inr (up_ne k 5 (by omega) (by omega) (Or.inl e))
    have f0 : upd gw (9 * i + 5) 1 (9 * k) = gw (9 * k) := f 0 (by omega) (by omega)
    rw [Vw, f0, f 1 (by omega) (by omega), f 2 (by omega) (by omega), f 3 (by omega) (by omega), f 4 (by omega) (by omega), f 6 (by omega) (by omega), f 7 (by omega) (by omega), f 8 (by omega) (by omega)]
    refine ⟨a0, a1, a2, a3, ?_, ?_, a6, a7, a8⟩
    · rcases g with ⟨e, g⟩ | g
      · rw [g]
        rcases a4 with ⟨x, _⟩ | x
        · rw [e] at x; exact absurd x hc
        · exact Or.inr x
      · rw [g]; exact a4
    · rcases g with ⟨e, g⟩ | g
      · rw [g]; exact Or.inr rfl
      · rw [g]; exact a5
  · rw [up_ne k 5 (by omega) (by omega) (Or.inl (by omega)), up_ne k 6 (by omega) (by omega) (Or.inl (by omega)), up_ne k 7 (by omega) (by omega) (Or.inl (by omega)), up_ne k 8 (by omega) (by omega) (Or.inl (by omega))]
    exact h4 k hk hk2
  · rw [up_ne k 4 (by omega) (by omega) (Or.inr (by omega)), up_ne j 4 (by omega) (by omega) (Or.inr (by omega))]
    exact h5 k j hk hj

