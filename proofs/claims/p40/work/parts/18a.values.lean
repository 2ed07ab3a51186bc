/-! the law's questions, in numbers -/
section NUM
variable {gw gk : Nat → Int32} {n t u b : Nat}
theorem dw_n (hn : gk 0 = nI n) {w : Nat} (h10 : n ≤ 10) (hw : w < n) : fX7_demandWhale_n gk (nI w) = some () := by
  rw [fX7_demandWhale_n, fX1_has, if_neg (nI_pos (by omega)), ct0, Option.bind_some, hn, if_neg (nI_ge (by omega) (by omega)), Option.bind_some, if_neg n10]
theorem wo_n (hV : Vg gw gk n t u b) {w c : Nat} (hw : w < n) (hc : c < 9) : fX7_whaleOf_n gw gk (nI w) (nI c) = some (gw (9 * w + c)) := by
  have h10 := hV.1.1
  rw [fX7_whaleOf_n, dw_n hV.1.2.2.2.1 h10 hw, Option.bind_some, if_neg (nI_pos (by omega)), if_pos (show nI c < 9 from nI_lt (b := 9) hc (by omega)), e_of gw (by omega) hc, Option.bind_some]
theorem wo0 (hV : Vg gw gk n t u b) {w : Nat} (hw : w < n) : fX7_whaleOf_n gw gk (nI w) 0 = some (gw (9 * w)) := wo_n hV hw (c := 0) (by omega)
theorem wo3 (hV : Vg gw gk n t u b) {w : Nat} (hw : w < n) : fX7_whaleOf_n gw gk (nI w) 3 = some (gw (9 * w + 3)) := wo_n hV hw (c := 3) (by omega)
theorem wo4 (hV : Vg gw gk n t u b) {w : Nat} (hw : w < n) : fX7_whaleOf_n gw gk (nI w) 4 = some (gw (9 * w + 4)) := wo_n hV hw (c := 4) (by omega)
theorem wo5 (hV : Vg gw gk n t u b) {w : Nat} (hw : w < n) : fX7_whaleOf_n gw gk (nI w) 5 = some (gw (9 * w + 5)) := wo_n hV hw (c := 5) (by omega)
theorem wo6 (hV : Vg gw gk n t u b) {w : Nat} (hw : w < n) : fX7_whaleOf_n gw gk (nI w) 6 = some (gw (9 * w + 6)) := wo_n hV hw (c := 6) (by omega)
theorem wo7 (hV : Vg gw gk n t u b) {w : Nat} (hw : w < n) : fX7_whaleOf_n gw gk (nI w) 7 = some (gw (9 * w + 7)) := wo_n hV hw (c := 7) (by omega)
theorem wo8 (hV : Vg gw gk n t u b) {w : Nat} (hw : w < n) : fX7_whaleOf_n gw gk (nI w) 8 = some (gw (9 * w + 8)) := wo_n hV hw (c := 8) (by omega)
theorem ac0 (tl hs : Int32) (gw gk : Nat → Int32) : fX7_account_n tl hs gw gk 0 = some (gk 0) := rfl
theorem ac1 (tl hs : Int32) (gw gk : Nat → Int32) : fX7_account_n tl hs gw gk 1 = some (gk 1) := rfl
theorem ac2 (tl hs : Int32) (gw gk : Nat → Int32) : fX7_account_n tl hs gw gk 2 = some (gk 1 / 12) := rfl
theorem ac3 (tl hs : Int32) (gw gk : Nat → Int32) : fX7_account_n tl hs gw gk 3 = some (gk 3) := rfl
theorem ac4 (tl hs : Int32) (gw gk : Nat → Int32) : fX7_account_n tl hs gw gk 4 = some (gk 4) := rfl
theorem ac5 (tl hs : Int32) (gw gk : Nat → Int32) : fX7_account_n tl hs gw gk 5 = some (gk 5) := rfl
theorem ac6 (tl hs : Int32) (gw gk : Nat → Int32) : fX7_account_n tl hs gw gk 6 = some (gk 6) := rfl
theorem ac7 (tl hs : Int32) (gw gk : Nat → Int32) : fX7_account_n tl hs gw gk 7 = some (gk 7) := rfl
theorem ac8 (tl hs : Int32) (gw gk : Nat → Int32) : fX7_account_n tl hs gw gk 8 = some (gk 8) := rfl
theorem ac9 (tl hs : Int32) (gw gk : Nat → Int32) : fX7_account_n tl hs gw gk 9 = some (gk 9) := rfl
theorem ac11 (tl hs : Int32) (gw gk : Nat → Int32) : fX7_account_n tl hs gw gk 11 = some (gk 11) := rfl
theorem ac12 (tl hs : Int32) (gw gk : Nat → Int32) : fX7_account_n tl hs gw gk 12 = some tl := rfl
theorem ac13 (tl hs : Int32) (gw gk : Nat → Int32) : fX7_account_n tl hs gw gk 13 = some hs := rfl
theorem ac10 (tl hs : Int32) (hV : Vg gw gk n t u b) : fX7_account_n tl hs gw gk 10 = some (nI (cntPl gw 0 n) + nI (cntPl gw 1 n)) := by
  show ((fX1_countPlaying gw gk 0).bind fun q7 => (fX1_countPlaying gw gk 1).bind fun q9 => some (q7 + q9)) = _
  rw [play_c hV, Option.bind_some, play_c hV, Option.bind_some]
theorem seF_12 (hV : Vg gw gk n t u b) (tl hs : Int32) : ∀ j, j < 12 → fX7_account_n tl hs gw gk (nI j) = some (seF gw gk j) := by
  intro j hj
  have h10 := hV.1.1
  have e : (gk 0).toNatClampNeg = n := by rw [hV.1.2.2.2.1, nI_clamp (by omega)]
  match j, hj with
  | 0, _ => exact ac0 tl hs gw gk
  | 1, _ => exact ac1 tl hs gw gk
  | 2, _ => exact ac2 tl hs gw gk
  | 3, _ => exact ac3 tl hs gw gk
  | 4, _ => exact ac4 tl hs gw gk
  | 5, _ => exact ac5 tl hs gw gk
  | 6, _ => exact ac6 tl hs gw gk
  | 7, _ => exact ac7 tl hs gw gk
  | 8, _ => exact ac8 tl hs gw gk
  | 9, _ => exact ac9 tl hs gw gk
  | 10, _ => exact (ac10 tl hs hV).trans (by rw [seF, if_pos (by omega), if_neg (by omega), if_pos rfl, e]; rfl)
  | 11, _ => exact ac11 tl hs gw gk
theorem seen_i (tl hs : Int32) (hV : Vg gw gk n t u b) {w : Nat} (hw : w < n) (rec : Int32 → (Nat → Int32) → Option (Nat → Int32)) : ∀ (d c k : Nat) (pn : Nat → Int32), c + d = 9 → d < k → ∃ pn', fL_seen_40 tl hs gw gk rec k (nI w) (nI c) pn = rec (nI (w + 1)) pn' ∧ ∀ j, pn' j = if 12 + 9 * w + c ≤ j ∧ j < 12 + 9 * w + 9 then gw (j - 12) else pn j := by
  have h10 := hV.1.1
  intro d
  induction d with
  | zero =>
    intro c k pn hc hk
    obtain ⟨k, rfl⟩ : ∃ q, k = q + 1 := ⟨k - 1, by omega⟩
    obtain rfl : c = 9 := by omega
    refine ⟨pn, ?_, fun j => ?_⟩
    · rw [fL_seen_40, if_pos (show (9 : Int32) ≤ nI 9 from nI_le (a := 9) (by omega) (by omega)), nI_1]
    · rw [if_neg (by omega)]
  | succ d ih =>
    intro c k pn hc hk
    obtain ⟨k, rfl⟩ : ∃ q, k = q + 1 := ⟨k - 1, by omega⟩
    obtain ⟨pn', h1, h2⟩ := ih (c + 1) k (upd pn (12 + 9 * w + c) (gw (9 * w + c))) (by omega) (by omega)
    refine ⟨pn', ?_, fun j => ?_⟩
    · have e : (12 + 9 * nI w + nI c : Int32) = nI (12 + 9 * w + c) := by
        rw [show (12 : Int32) = nI 12 from rfl, show (9 : Int32) = nI 9 from rfl, pk_mul, nI_add, nI_add]
      rw [fL_seen_40, if_neg (show ¬ (9 : Int32) ≤ nI c from nI_ge (b := 9) (by omega) (by omega)), wo_n hV hw (by omega), Option.bind_some, e, if_pos (e_vin (by omega) (by omega)), nI_clamp (by omega), nI_1, h1]
    · rw [h2 j]
      by_cases z : j = 12 + 9 * w + c
      · subst z
        rw [if_neg (by omega), if_pos (by omega), pk_us]
        congr 1
        omega
      · rw [pk_un z]
        by_cases y : 12 + 9 * w + c ≤ j ∧ j < 12 + 9 * w + 9
        · rw [if_pos y, if_pos (by omega)]
        · rw [if_neg y, if_neg (by omega)]
theorem seen_o (tl hs : Int32) (hV : Vg gw gk n t u b) : ∀ (d w k : Nat) (pn : Nat → Int32), w + d = n → d < k → ∃ pn', fL_seen_29 tl hs gw gk k (nI w) pn = some pn' ∧ ∀ j, pn' j = if 12 + 9 * w ≤ j ∧ j < 12 + 9 * n then gw (j - 12) else pn j := by
  have h10 := hV.1.1
  have hn := hV.1.2.2.2.1
  intro d
  induction d with
  | zero =>
    intro w k pn hw hk
    obtain ⟨k, rfl⟩ : ∃ q, k = q + 1 := ⟨k - 1, by omega⟩
    refine ⟨pn, ?_, fun j => ?_⟩
    · rw [fL_seen_29, ac0, Option.bind_some, hn, if_pos (nI_le (by omega) (by omega))]
    · rw [if_neg (by omega)]
  | succ d ih =>
    intro w k pn hw hk
    obtain ⟨k, rfl⟩ : ∃ q, k = q + 1 := ⟨k - 1, by omega⟩
    obtain ⟨p1, a1, a2⟩ := seen_i tl hs hV (w := w) (by omega) (fL_seen_29 tl hs gw gk k) 9 0 64 pn (by omega) (by omega)
    obtain ⟨p2, b1, b2⟩ := ih (w + 1) k p1 (by omega) (by omega)
    refine ⟨p2, ?_, fun j => ?_⟩
    · rw [fL_seen_29, ac0, Option.bind_some, hn, if_neg (nI_ge (by omega) (by omega))]
      exact a1.trans b1
    · rw [b2 j, a2 j]
      by_cases y : 12 + 9 * (w + 1) ≤ j ∧ j < 12 + 9 * n
      · rw [if_pos y, if_pos (by omega)]
      · rw [if_neg y]
        by_cases x : 12 + 9 * w + 0 ≤ j ∧ j < 12 + 9 * w + 9
        · rw [if_pos x, if_pos (by omega)]
        · rw [if_neg x, if_neg (by omega)]
theorem seen_a (tl hs : Int32) (hV : Vg gw gk n t u b) : ∀ (d i k : Nat) (pn : Nat → Int32), i + d = 12 → d < k → ∃ pn', fL_seen_7 tl hs gw gk k (nI i) pn = fL_seen_29 tl hs gw gk 64 0 pn' ∧ ∀ j, pn' j = if i ≤ j ∧ j < 12 then seF gw gk j else pn j := by
  intro d
  induction d with
  | zero =>
    intro i k pn hi hk
    obtain ⟨k, rfl⟩ : ∃ q, k = q + 1 := ⟨k - 1, by omega⟩
    obtain rfl : i = 12 := by omega
    refine ⟨pn, ?_, fun j => ?_⟩
    · rw [fL_seen_7, if_pos (show (12 : Int32) ≤ nI 12 from nI_le (a := 12) (by omega) (by omega))]
    · rw [if_neg (by omega)]
  | succ d ih =>
    intro i k pn hi hk
    obtain ⟨k, rfl⟩ : ∃ q, k = q + 1 := ⟨k - 1, by omega⟩
    obtain ⟨pn', h1, h2⟩ := ih (i + 1) k (upd pn i (seF gw gk i)) (by omega) (by omega)
    refine ⟨pn', ?_, fun j => ?_⟩
    · rw [fL_seen_7, if_neg (show ¬ (12 : Int32) ≤ nI i from nI_ge (b := 12) (by omega) (by omega)), seF_12 hV tl hs i (by omega), Option.bind_some, if_pos (e_vin (by omega) (by omega)), nI_clamp (by omega), nI_1, h1]
    · rw [h2 j]
      by_cases z : j = i
      · subst z
        rw [if_neg (by omega), if_pos (by omega), pk_us]
      · rw [pk_un z]
        by_cases y : i ≤ j ∧ j < 12
        · rw [if_pos y, if_pos (by omega)]
        · rw [if_neg y, if_neg (by omega)]
/-- what seen shows -/
theorem seen_n (tl hs : Int32) (hV : Vg gw gk n t u b) : ∃ z, fL_seen tl hs gw gk = some z ∧ SE gw gk z := by
  have h10 := hV.1.1
  have e : (gk 0).toNatClampNeg = n := by rw [hV.1.2.2.2.1, nI_clamp (by omega)]
  obtain ⟨p1, a1, a2⟩ := seen_a tl hs hV 12 0 64 (fun _ => 0) (by omega) (by omega)
  obtain ⟨p2, b1, b2⟩ := seen_o tl hs hV n 0 64 p1 (by omega) (by omega)
  refine ⟨p2, a1.trans b1, fun j hj => ?_⟩
  rw [b2 j, a2 j]
  by_cases x : j < 12
  · rw [if_neg (by omega), if_pos (by omega)]
  · rw [seF, if_neg x, e]
    by_cases y : j < 12 + 9 * n
    · rw [if_pos (by omega), if_pos y]
    · rw [if_neg (by omega), if_neg (by omega), if_neg y]
end NUM
