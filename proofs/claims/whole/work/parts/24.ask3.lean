/-! calls that only ask: counts, line, reasons; saving -/
def cntPl (gw : Nat → Int32) (t : Int32) (n : Nat) : Nat := cntF (pPl gw t) 0 n
theorem c_play {gw gk : Nat → Int32} {n : Nat} (hn : gk 0 = nI n) (h10 : n ≤ 10) (r : Int32) : ∀ (j i k a : Nat), i + j = n → j < k → fX1_countPlaying_4 gw gk k r (nI a) (nI i) = some (nI (a + cntF (pPl gw r) i j)) := by
  intro j
  induction j with
  | zero =>
    intro i k a h hk
    obtain ⟨k, rfl⟩ : ∃ q, k = q + 1 := ⟨k - 1, by omega⟩
    rw [fX1_countPlaying_4, ct0, Option.bind_some, hn, if_pos (nI_le (by omega) (by omega))]
    rfl
  | succ j ih =>
    intro i k a h hk
    obtain ⟨k, rfl⟩ : ∃ q, k = q + 1 := ⟨k - 1, by omega⟩
    have ih0 := ih (i + 1) k a (by omega) (by omega)
    have ih1 := ih (i + 1) k (a + 1) (by omega) (by omega)
    rw [fX1_countPlaying_4, ct0, Option.bind_some, hn, if_neg (nI_ge (by omega) (by omega)), of0 gw (by omega), Option.bind_some, fX1_isPlaying, of4 gw (by omega), Option.bind_some, fX1_countPlaying_37, nI_1 i, Int32.add_zero, cntF, pPl]
    by_cases z0 : gw (9 * i) = r
    · by_cases z1 : gw (9 * i + 4) = -1
      · rw [if_pos z0, if_pos z1, Option.bind_some, fX1_countPlaying_37, if_pos rfl, Int32.add_zero, nI_1 i, ih0]; simp [z1]
      · rw [if_pos z0, if_neg z1, Option.bind_some, fX1_countPlaying_37, if_neg n10, nI_1 i, nI_1 a, ih1]; simp [z0, z1, Nat.add_assoc]
    · rw [if_neg z0, ih0]; simp [z0]
theorem m_play {gw gk ms : Nat → Int32} {n t u b : Nat} (hR : Rg gw gk ms) (hV : Vg gw gk n t u b) (r : Int32) : ∀ (j i k a : Nat), i + j = n → j < k → fX8_playing_4 ms k r (nI a) (nI i) = some (nI (a + cntF (pPl gw r) i j)) := by
  have h0 : ms 0 = nI n := hR.2.1.trans hV.1.2.2.2.1
  have h10 := hV.1.1
  intro j
  induction j with
  | zero =>
    intro i k a h hk
    obtain ⟨k, rfl⟩ : ∃ q, k = q + 1 := ⟨k - 1, by omega⟩
    rw [fX8_playing_4, if_pos v103_0, cl_0, h0, if_pos (nI_le (by omega) (by omega))]
    rfl
  | succ j ih =>
    intro i k a h hk
    obtain ⟨k, rfl⟩ : ∃ q, k = q + 1 := ⟨k - 1, by omega⟩
    have e : ∀ d, d < 9 → ms (13 + 9 * i + d) = gw (9 * i + d) := fun d hd => by rw [show 13 + 9 * i + d = 13 + (9 * i + d) from by omega]; exact hR.1 _ (by omega)
    have e0 : ms (13 + 9 * i) = gw (9 * i) := e 0 (by omega)
    have hw := hV.2.2.2.1 i (by omega)
    have ih0 := ih (i + 1) k a (by omega) (by omega)
    have ih1 := ih (i + 1) k (a + 1) (by omega) (by omega)
    rw [fX8_playing_4, if_pos v103_0, cl_0, h0, if_neg (nI_ge (by omega) (by omega)), mof0 ms (by omega), Option.bind_some, mof4 ms (by omega), Option.bind_some, e0, e 4 (by omega), fX8_playing_39, fX8_playing_39, nI_1 i, Int32.add_zero, cntF, pPl]
    by_cases z0 : gw (9 * i) = r
    · rcases hw.2.2.2.2.1 with ⟨c0, c1⟩ | ⟨c, hc, c0⟩
      · rw [if_pos z0, c0, if_pos (show (-1 : Int32) < 0 from by decide), Int32.add_zero, ih0]; simp
      · have c1 : ¬ nI c = -1 := fun q => nI_pos (n := c) (by omega) (by rw [q]; decide)
        rw [if_pos z0, c0, if_neg (nI_pos (by omega)), nI_1 a, ih1]; simp [z0, c1, Nat.add_assoc]
    · rw [if_neg z0, ih0]; simp [z0]
theorem play_c {gw gk : Nat → Int32} {n t u b : Nat} (hV : Vg gw gk n t u b) (r : Int32) : fX1_countPlaying gw gk r = some (nI (cntPl gw r n)) := by
  have h10 := hV.1.1
  have z := c_play (gw := gw) hV.1.2.2.2.1 hV.1.1 r n 0 64 0 (by omega) (by omega)
  rw [Nat.zero_add] at z
  exact z
theorem play_m {gw gk ms : Nat → Int32} {n t u b : Nat} (hR : Rg gw gk ms) (hV : Vg gw gk n t u b) (r : Int32) : fX8_playing ms r = some (nI (cntPl gw r n)) := by
  have h10 := hV.1.1
  have z := m_play hR hV r n 0 64 0 (by omega) (by omega)
  rw [Nat.zero_add] at z
  exact z
theorem q_account {gw gk ms : Nat → Int32} {n t u b : Nat} (tl hs mc thr p : Int32) (hR : Rg gw gk ms) (hV : Vg gw gk n t u b) (hm : mc = hs) (mt : Int32) (ht : mt = tl) : ∃ q r, fX7_account tl hs gw gk p = some q ∧ fX8_account mc thr mt ms p = some r ∧ (q.1 = 0 ∨ q.1 = 1) ∧ r.2 = lcode [1] q.1 ∧ (q.1 = 0 → r.1 = q.2) := by
  subst hm ht
  obtain ⟨a, h0, h1, h2, h3, h4, h5, h6, h7, h8, h9, h10, h11, h12, hs9⟩ := id hR
  rcases rg_lo p (m := 13) (by omega) with ⟨h, z | z⟩ | ⟨j, hj, rfl, h⟩
  · exact ⟨(1, 0), (0, 1), by rw [fX7_account, if_pos z]; rfl, by rw [fX8_account, show (13 : Int32) = nI 13 from rfl, h]; rfl, Or.inr rfl, rfl, fun h => absurd h (by decide)⟩
  · exact ⟨(1, 0), (0, 1), by rw [fX7_account, if_neg z.1, if_neg (show ¬ p < (14 : Int32) from Int32.not_lt.mpr z.2)]; rfl, by rw [fX8_account, show (13 : Int32) = nI 13 from rfl, h]; rfl, Or.inr rfl, rfl, fun h => absurd h (by decide)⟩
  · match j, hj with
    | 0, _ => exact ⟨(0, gk 0), (ms 0, 0), rfl, rfl, Or.inl rfl, rfl, fun _ => h0⟩
    | 1, _ => exact ⟨(0, gk 1), (ms 1, 0), rfl, rfl, Or.inl rfl, rfl, fun _ => h1⟩
    | 2, _ => exact ⟨(0, gk 1 / 12), (ms 1 / 12, 0), rfl, rfl, Or.inl rfl, rfl, fun _ => (by rw [h1])⟩
    | 3, _ => exact ⟨(0, gk 3), (ms 4, 0), rfl, rfl, Or.inl rfl, rfl, fun _ => h4⟩
    | 4, _ => exact ⟨(0, gk 4), (ms 5, 0), rfl, rfl, Or.inl rfl, rfl, fun _ => h5⟩
    | 5, _ => exact ⟨(0, gk 5), (ms 2, 0), rfl, rfl, Or.inl rfl, rfl, fun _ => h2⟩
    | 6, _ => exact ⟨(0, gk 6), (ms 3, 0), rfl, rfl, Or.inl rfl, rfl, fun _ => h3⟩
    | 7, _ => exact ⟨(0, gk 7), (ms 6, 0), rfl, rfl, Or.inl rfl, rfl, fun _ => h6⟩
    | 8, _ => exact ⟨(0, gk 8), (ms 7, 0), rfl, rfl, Or.inl rfl, rfl, fun _ => h7⟩
    | 9, _ => exact ⟨(0, gk 9), (ms 9 + ms 10, 0), rfl, rfl, Or.inl rfl, rfl, fun _ => (by rw [h9, h10, hs9])⟩
    | 10, _ =>
      have e1 := play_c hV 0
      have e2 := play_c hV 1
      have f1 := play_m hR hV 0
      have f2 := play_m hR hV 1
      refine ⟨(0, nI (cntPl gw 0 n) + nI (cntPl gw 1 n)), (nI (cntPl gw 0 n) + nI (cntPl gw 1 n), 0), ?_, ?_, Or.inl rfl, rfl, fun _ => rfl⟩
      · show ((fX1_countPlaying gw gk 0).bind fun q7 => (fX1_countPlaying gw gk 1).bind fun q9 => some (0, (q7 + q9))) = _
        rw [e1, e2]; rfl
      · show ((fX8_playing ms 0).bind fun q7 => (fX8_playing ms 1).bind fun q9 => some ((q7 + q9), (0 : Int32))) = _
        rw [f1, f2]; rfl
    | 11, _ => exact ⟨(0, gk 11), (ms 8, 0), rfl, rfl, Or.inl rfl, rfl, fun _ => h8⟩
    | 12, _ => exact ⟨(0, mt), (mt, 0), rfl, rfl, Or.inl rfl, rfl, fun _ => rfl⟩
    | 13, _ => exact ⟨(0, mc), (mc, 0), rfl, rfl, Or.inl rfl, rfl, fun _ => rfl⟩
    | q + 14, hj => exact absurd hj (by omega)
theorem u16_n {c : Nat} (h : c < 128) : (nI c).toUInt32.toUInt16.toUInt32.toInt32 = nI c ∧ ((nI c).toUInt32 % 65536).toInt32 = nI c := by
  have z : ∀ c, c < 128 → (nI c).toUInt32.toUInt16.toUInt32.toInt32 = nI c ∧ ((nI c).toUInt32 % 65536).toInt32 = nI c := by decide +kernel
  exact z c h
