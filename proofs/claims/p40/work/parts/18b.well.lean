/-! isWell is 1 -/
section WELL
variable {gw gk : Nat → Int32} {n t b : Nat}
theorem near_f : ∀ c, c < 45 → ∀ b, b < 45 → (if (2 : Int32) ≤ fL_apart (nI c) (nI b) then (0 : Int32) else 1) = (if nearB (nI c) b = true then 1 else 0) := by decide +kernel
theorem near_99 : (if (2 : Int32) ≤ 99 then (0 : Int32) else 1) = 0 := by decide
theorem near_m1 (b : Nat) : (if nearB (-1) b = true then (1 : Int32) else 0) = 0 := by
  rw [if_neg]
  rw [nearB]
  simp
theorem far_n (tl hs : Int32) (hV : Vg gw gk n t t b) {w : Nat} (hw : w < n) : ∃ f, fL_far tl hs gw gk (nI w) = some f ∧ (if (2 : Int32) ≤ f then (0 : Int32) else 1) = (if nearB (gw (9 * w + 4)) b = true then 1 else 0) := by
  rcases cell_v (hV.2.2.2.1 w hw) with ⟨q, _⟩ | ⟨c, hc, q⟩
  · refine ⟨99, ?_, ?_⟩
    · rw [fL_far, wo4 hV hw, Option.bind_some, q, if_neg (show ¬ (0 : Int32) ≤ -1 by decide)]
    · rw [q, near_99, near_m1]
  · refine ⟨fL_apart (nI c) (nI b), ?_, ?_⟩
    · rw [fL_far, wo4 hV hw, Option.bind_some, q, if_pos (nI_pos' (by omega)), Option.bind_some, ac5, Option.bind_some, hV.1.2.2.2.2.2.1]
    · rw [q]; exact near_f c hc b hV.1.2.2.1
theorem at_w (hV : Vg gw gk n t t b) {w c : Nat} (hw : w < n) (hc : c < 45) (q : gw (9 * w + 4) = nI c) : fX7_at_n gw gk (nI c) = some (nI w) := by
  have h10 := hV.1.1
  have hcell : fX7_demandCell_n (nI c) = some () := by
    rw [fX7_demandCell_n, fX7_isCell, if_neg (nI_pos (by omega)), if_neg (show ¬ (45 : Int32) ≤ nI c from nI_ge (b := 45) hc (by omega)), if_neg n10]
  rw [fX7_at_n, hcell, Option.bind_some, whaleOn_e hV.1.2.2.2.1 h10, Option.bind_some]
  rcases fst_spec (pOn gw (nI c)) n 0 with ⟨_, h⟩ | ⟨k, _, hk, h3, h4, _⟩
  · have := h w (by omega) (by omega)
    rw [pOn, q] at this
    simp at this
  · rw [h4]
    rw [pOn] at h3
    have e := of_decide_eq_true h3
    by_cases z : k = w
    · rw [z]
    · have d := hV.2.2.2.2.2
      rcases Nat.lt_or_gt_of_ne z with l | l
      · have := d w k hw l (by rw [q, e])
        rw [q] at this
        exact absurd this (nm1 (by omega))
      · have := d k w (by omega) l (by rw [q, e])
        rw [e] at this
        exact absurd this (nm1 (by omega))
theorem foul_n (hV : Vg gw gk n t t b) {w : Nat} (hw : w < n) : fX7_wouldFoul_n gw gk (nI w) = some (foulF gw gk n b w) := by
  rw [fX7_wouldFoul_n, dw_n hV.1.2.2.2.1 hV.1.1 hw, Option.bind_some, foul_c hV hw, Option.bind_some]
  rcases foul_01 gw gk n b w with e | e <;> rw [e] <;> rfl
theorem team_o {x y : Int32} (hx : x = 0 ∨ x = 1) (hy : y = 0 ∨ y = 1) : (x = 1 - y ↔ ¬ x = y) := by
  rcases hx with rfl | rfl <;> rcases hy with rfl | rfl <;> decide
variable {RT : Type} 
theorem in_l (tl hs : Int32) (hV : Vg gw gk n t t b) {w : Nat} (hw : w < n) (rec) (l1 l2 l3 l6 l7 net : Int32) (rs rl ro p0 p1 : Nat → Int32) : ∀ (j i k : Nat) (a : Bool), i + j = n → j < k → fL_isWell_203 tl hs gw gk rec k l1 l2 l3 l6 l7 (nI w) (gw (9 * w)) (if a = true then 1 else 0) (nI i) net rs rl ro p0 p1 = fL_isWell_291 tl hs gw gk rec (foulF gw gk n b w) (if (a = true ∨ anyF (pFl gw (1 - gw (9 * w)) b) i j = true) ∧ gk 6 = 1 - gw (9 * w) then 1 else 0) l1 l2 l3 l6 l7 (nI w) net rs rl ro p0 p1 := by
  have h10 := hV.1.1
  have hn := hV.1.2.2.2.1
  intro j
  induction j with
  | zero =>
    intro i k a hi hk
    obtain ⟨k, rfl⟩ : ∃ q, k = q + 1 := ⟨k - 1, by omega⟩
    rw [fL_isWell_203, ac0, Option.bind_some, hn, if_pos (nI_le (by omega) (by omega)), foul_n hV hw, Option.bind_some]
    cases a with
    | false =>
      rw [if_pos (by rfl)]
      congr 1
    | true =>
      rw [if_neg (show ¬ (if true = true then (1 : Int32) else 0) = 0 by decide), ac6, Option.bind_some]
      congr 1
      by_cases z : gk 6 = 1 - gw (9 * w)
      · rw [if_pos z, if_pos ⟨Or.inl rfl, z⟩]
      · rw [if_neg z, if_neg (fun h => z h.2)]
  | succ j ih =>
    intro i k a hi hk
    obtain ⟨k, rfl⟩ : ∃ q, k = q + 1 := ⟨k - 1, by omega⟩
    have key : ∀ x : Int32, x = (if pFl gw (1 - gw (9 * w)) b i = true then 1 else 0) → fL_isWell_253 tl hs gw gk rec (fL_isWell_203 tl hs gw gk rec k) (if a = true then 1 else 0) x l1 l2 l3 l6 l7 (nI w) (gw (9 * w)) (nI i) net rs rl ro p0 p1 = fL_isWell_291 tl hs gw gk rec (foulF gw gk n b w) (if (a = true ∨ anyF (pFl gw (1 - gw (9 * w)) b) i (j + 1) = true) ∧ gk 6 = 1 - gw (9 * w) then 1 else 0) l1 l2 l3 l6 l7 (nI w) net rs rl ro p0 p1 := by
      intro x hx
      have e : ((if a = true then (1 : Int32) else 0) ||| x) = (if (a || pFl gw (1 - gw (9 * w)) b i) = true then 1 else 0) := by
        rw [hx]
        cases a <;> cases pFl gw (1 - gw (9 * w)) b i <;> rfl
      rw [fL_isWell_253, e, nI_1, ih (i + 1) k _ (by omega) (by omega)]
      congr 1
      rw [anyF]
      cases a <;> cases pFl gw (1 - gw (9 * w)) b i <;> simp
    have hT := (hV.2.2.2.1 i (by omega)).1
    have hW := (hV.2.2.2.1 w hw).1
    rw [fL_isWell_203, ac0, Option.bind_some, hn, if_neg (nI_ge (by omega) (by omega)), wo0 hV (by omega), Option.bind_some]
    by_cases z : gw (9 * i) = gw (9 * w)
    · rw [if_pos z]
      refine key 0 ?_
      rw [if_neg]
      rw [pFl]
      intro h
      exact (team_o hT hW).mp (of_decide_eq_true h).1 z
    · rw [if_neg z, wo5 hV (by omega), Option.bind_some]
      by_cases y : gw (9 * i + 5) = 1
      · obtain ⟨f, f1, f2⟩ := far_n tl hs hV (w := i) (by omega)
        rw [if_pos y, f1, Option.bind_some]
        refine key _ ?_
        rw [f2, pFl]
        by_cases x : nearB (gw (9 * i + 4)) b = true
        · rw [if_pos x, if_pos (decide_eq_true ⟨(team_o hT hW).mpr z, y, x⟩)]
        · rw [if_neg x, if_neg (fun h => x (of_decide_eq_true h).2.2)]
      · rw [if_neg y]
        refine key 0 ?_
        rw [if_neg]
        rw [pFl]
        exact fun h => y (of_decide_eq_true h).2.1
/-- one whale is well -/
theorem one_w (tl hs : Int32) (hV : Vg gw gk n t t b) {w : Nat} (hw : w < n) (rec) (l1 l2 l3 l6 l7 net : Int32) (rs rl ro p0 p1 : Nat → Int32) : fL_isWell_197 tl hs gw gk rec l1 l2 l3 l6 l7 (nI w) (gw (9 * w)) net rs rl ro p0 p1 = rec l1 l2 l3 l6 l7 (nI (w + 1)) net rs rl ro p0 p1 := by
  have := in_l tl hs hV hw rec l1 l2 l3 l6 l7 net rs rl ro p0 p1 n 0 64 false (by omega) (by have := hV.1.1; omega)
  rw [fL_isWell_197]
  refine Eq.trans this ?_
  rw [fL_isWell_291, foulF]
  rw [if_pos (by simp), nI_1]
theorem one_157 (tl hs : Int32) (hV : Vg gw gk n t t b) {w : Nat} (hw : w < n) (rec) (l1 l2 l3 l6 l7 net : Int32) (rs rl ro p0 p1 : Nat → Int32) : fL_isWell_157 tl hs gw gk rec l1 l2 l3 l6 l7 (nI w) (gw (9 * w + 4)) (gw (9 * w)) net rs rl ro p0 p1 = rec l1 l2 l3 l6 l7 (nI (w + 1)) net rs rl ro p0 p1 := by
  obtain ⟨_, _, _, ⟨br, b1, b2⟩, cl, sg, _⟩ := hV.2.2.2.1 w hw
  rw [fL_isWell_157, wo3 hV hw, Option.bind_some, b2, if_neg (nI_pos (by omega)), Option.bind_some, if_neg (show ¬ (20 : Int32) < nI br from fun h => by
    have := (nI_ltI (a := 20) (by omega) (by omega)).mp h
    omega), wo5 hV hw, Option.bind_some]
  by_cases y : gw (9 * w + 5) = 1
  · rw [if_pos y]
    rcases cl with ⟨_, q⟩ | ⟨c, hc, q⟩
    · rw [q] at y; exact absurd y (by decide)
    · rw [q, if_pos (nI_pos' (by omega)), one_w tl hs hV hw]
  · rw [if_neg y, one_w tl hs hV hw]
theorem vin2 {x : Int32} (h : x = 0 ∨ x = 1) : vin x 2 = true := by
  rcases h with rfl | rfl <;> rfl
theorem one_83 (tl hs : Int32) (hV : Vg gw gk n t t b) {w : Nat} (hw : w < n) (rec) (v l1 l2 l3 l6 l7 net : Int32) (rs rl ro p0 p1 : Nat → Int32) : fL_isWell_83 tl hs gw gk rec (gw (9 * w)) (p0 (gw (9 * w)).toNatClampNeg) v l1 l2 l3 l6 l7 (nI w) (gw (9 * w + 4)) (gw (9 * w)) net rs rl ro p0 p1 = rec (l1 + gw (9 * w + 8)) (l2 + gw (9 * w + 7)) (l3 + gw (9 * w + 6)) l6 l7 (nI (w + 1)) net rs rl ro (upd p0 (gw (9 * w)).toNatClampNeg (p0 (gw (9 * w)).toNatClampNeg + v)) (upd p1 (gw (9 * w)).toNatClampNeg (p1 (gw (9 * w)).toNatClampNeg + (if nearB (gw (9 * w + 4)) b = true then 1 else 0))) := by
  have hW := hV.2.2.2.1 w hw
  obtain ⟨f, f1, f2⟩ := far_n tl hs hV hw
  rw [fL_isWell_83, if_pos (vin2 hW.1), if_pos (vin2 hW.1), f1, Option.bind_some, f2, fL_isWell_106, if_pos (vin2 hW.1), wo8 hV hw, Option.bind_some, wo7 hV hw, Option.bind_some, wo6 hV hw, Option.bind_some]
  rcases cell_v hW with ⟨q, _⟩ | ⟨c, hc, q⟩
  · rw [if_pos (by rw [q]; decide), one_157 tl hs hV hw]
  · rw [if_neg (by rw [q]; exact nI_pos (by omega)), show fX7_at_n gw gk (gw (9 * w + 4)) = some (nI w) from by rw [q]; exact at_w hV hw hc q, Option.bind_some, if_pos rfl, one_157 tl hs hV hw]
theorem cnt_n {gw : Nat → Int32} (tt : Int32) (w : Nat) (p : Nat → Int32) (h : ∀ z, z < 2 → p z = nI (cntF (pPl gw (nI z)) 0 w)) (hW : gw (9 * w) = 0 ∨ gw (9 * w) = 1) {v : Int32} (hv : v = (if gw (9 * w + 4) = -1 then 0 else 1)) : ∀ z, z < 2 → upd p (gw (9 * w)).toNatClampNeg (p (gw (9 * w)).toNatClampNeg + v) z = nI (cntF (pPl gw (nI z)) 0 (w + 1)) := by
  intro z hz
  rw [cnt_snoc, Nat.zero_add]
  have e : ∀ y, y < 2 → gw (9 * w) = nI y → (gw (9 * w)).toNatClampNeg = y := fun y hy q => by rw [q, nI_clamp (by omega)]
  obtain ⟨y, hy, q⟩ : ∃ y, y < 2 ∧ gw (9 * w) = nI y := by
    rcases hW with q | q
    · exact ⟨0, by omega, q⟩
    · exact ⟨1, by omega, q⟩
  rw [e y hy q]
  by_cases zy : z = y
  · subst zy
    rw [pk_us, h z hz, hv, pPl, q]
    by_cases x : gw (9 * w + 4) = -1
    · rw [if_pos x, if_neg (by simp [x]), Int32.add_zero, Nat.add_zero]
    · rw [if_neg x, if_pos (decide_eq_true ⟨rfl, x⟩), nI_1]
  · rw [pk_un zy, h z hz, pPl, q, if_neg (fun k => zy ((nI_eq (by omega) (by omega)).mp (of_decide_eq_true k).1).symm), Nat.add_zero]
theorem cnt_r {gw : Nat → Int32} {b : Nat} (w : Nat) (p : Nat → Int32) (h : ∀ z, z < 2 → p z = nI (cntF (pNr gw (nI z) b) 0 w)) (hW : gw (9 * w) = 0 ∨ gw (9 * w) = 1) : ∀ z, z < 2 → upd p (gw (9 * w)).toNatClampNeg (p (gw (9 * w)).toNatClampNeg + (if nearB (gw (9 * w + 4)) b = true then 1 else 0)) z = nI (cntF (pNr gw (nI z) b) 0 (w + 1)) := by
  intro z hz
  rw [cnt_snoc, Nat.zero_add]
  have e : ∀ y, y < 2 → gw (9 * w) = nI y → (gw (9 * w)).toNatClampNeg = y := fun y hy q => by rw [q, nI_clamp (by omega)]
  obtain ⟨y, hy, q⟩ : ∃ y, y < 2 ∧ gw (9 * w) = nI y := by
    rcases hW with q | q
    · exact ⟨0, by omega, q⟩
    · exact ⟨1, by omega, q⟩
  rw [e y hy q]
  by_cases zy : z = y
  · subst zy
    rw [pk_us, h z hz, pNr, q]
    by_cases x : nearB (gw (9 * w + 4)) b = true
    · rw [if_pos x, if_pos (decide_eq_true ⟨rfl, x⟩), nI_1]
    · rw [if_neg x, if_neg (fun k => x (of_decide_eq_true k).2), Int32.add_zero, Nat.add_zero]
  · rw [pk_un zy, h z hz, pNr, q, if_neg (fun k => zy ((nI_eq (by omega) (by omega)).mp (of_decide_eq_true k).1).symm), Nat.add_zero]
/-- all whales are well -/
theorem well_l (tl hs : Int32) (hV : Vg gw gk n t t b) (l6 l7 net : Int32) (rs rl ro : Nat → Int32) : ∀ (j w k : Nat) (p0 p1 : Nat → Int32), w + j = n → j < k → (∀ z, z < 2 → p0 z = nI (cntF (pPl gw (nI z)) 0 w)) → (∀ z, z < 2 → p1 z = nI (cntF (pNr gw (nI z) b) 0 w)) → ∃ p0' p1', fL_isWell_39 tl hs gw gk k (sI gw 8 w) (sI gw 7 w) (sI gw 6 w) l6 l7 (nI w) net rs rl ro p0 p1 = fL_isWell_305 tl hs gw gk 64 (sI gw 8 n) (sI gw 7 n) (sI gw 6 n) l6 l7 0 net rs rl ro p0' p1' ∧ (∀ z, z < 2 → p0' z = nI (cntF (pPl gw (nI z)) 0 n)) ∧ (∀ z, z < 2 → p1' z = nI (cntF (pNr gw (nI z) b) 0 n)) := by
  have h10 := hV.1.1
  have hn := hV.1.2.2.2.1
  intro j
  induction j with
  | zero =>
    intro w k p0 p1 hw hk h0 h1
    obtain ⟨k, rfl⟩ : ∃ q, k = q + 1 := ⟨k - 1, by omega⟩
    obtain rfl : w = n := by omega
    exact ⟨p0, p1, by rw [fL_isWell_39, ac0, Option.bind_some, hn, if_pos (nI_le (by omega) (by omega))], h0, h1⟩
  | succ j ih =>
    intro w k p0 p1 hw hk h0 h1
    obtain ⟨k, rfl⟩ : ∃ q, k = q + 1 := ⟨k - 1, by omega⟩
    have hW := (hV.2.2.2.1 w (by omega))
    have hv : (if gw (9 * w + 4) < 0 then (0 : Int32) else 1) = (if gw (9 * w + 4) = -1 then 0 else 1) := by
      rcases cell_v hW with ⟨q, _⟩ | ⟨c, hc, q⟩
      · rw [q]; decide
      · rw [q, if_neg (nI_pos (by omega)), if_neg (nm1 (by omega))]
    obtain ⟨q0, q1, e, f0, f1⟩ := ih (w + 1) k _ _ (by omega) (by omega) (cnt_n 0 w p0 h0 hW.1 hv) (cnt_r w p1 h1 hW.1)
    refine ⟨q0, q1, ?_, f0, f1⟩
    rw [fL_isWell_39, ac0, Option.bind_some, hn, if_neg (nI_ge (by omega) (by omega)), wo4 hV (by omega), Option.bind_some, wo0 hV (by omega), Option.bind_some, if_pos (vin2 hW.1), one_83 tl hs hV (by omega)]
    exact e
def tvF (t : Nat) : Int32 := if 0 ≤ (8 - (nI t - nI t / 16 * 16)) then (8 - (nI t - nI t / 16 * 16)) else 0 - (8 - (nI t - nI t / 16 * 16))
theorem tv_f : ∀ t, t < 49 → fX8_tideAt (nI t) = tvF t := by decide +kernel
theorem dw_f : ∀ c, c < 45 → ∀ t, t < 49 → fX8_isDryAt (nI c) (nI t) &&& 1 = (if (3 : Int32) ≤ tvF t then 0 else (if nI c < 9 then 1 else (if nI c ≤ 35 then 0 else 1))) := by decide +kernel
theorem dry_n (hV : Vg gw gk n t t b) {c : Nat} (hc : c < 45) : fX7_isDry_n gk (nI c) = some (fX8_isDryAt (nI c) (nI t) &&& 1) := by
  have hcell : fX7_demandCell_n (nI c) = some () := by
    rw [fX7_demandCell_n, fX7_isCell, if_neg (nI_pos (by omega)), if_neg (show ¬ (45 : Int32) ≤ nI c from nI_ge (b := 45) hc (by omega)), if_neg n10]
  rw [fX7_isDry_n, hcell, Option.bind_some, dry_c hc hV.1.2.1 hV.1.2.2.2.2.1, Option.bind_some]
theorem near_l (hn : gk 0 = nI n) (h5 : gk 5 = nI b) (h10 : n ≤ 10) (r : Int32) : ∀ (j i k a : Nat), i + j = n → j < k → fX7_beside_n_9 gw gk k r (nI a) (nI i) = some (nI (a + cntF (pNr gw r b) i j)) := by
  intro j
  induction j with
  | zero =>
    intro i k a h hk
    obtain ⟨k, rfl⟩ : ∃ q, k = q + 1 := ⟨k - 1, by omega⟩
    rw [fX7_beside_n_9, ct0, Option.bind_some, hn, if_pos (nI_le (by omega) (by omega))]
    rfl
  | succ j ih =>
    intro i k a h hk
    obtain ⟨k, rfl⟩ : ∃ q, k = q + 1 := ⟨k - 1, by omega⟩
    rw [fX7_beside_n_9, ct0, Option.bind_some, hn, if_neg (nI_ge (by omega) (by omega)), of0 gw (by omega), Option.bind_some, cntF, pNr]
    by_cases z : gw (9 * i) = r
    · rw [if_pos z, isNear_e h5 (by omega), Option.bind_some, fX7_beside_n_48, nI_1]
      by_cases x : nearB (gw (9 * i + 4)) b = true
      · rw [if_pos x, if_neg n10, if_pos (decide_eq_true ⟨z, x⟩), nI_1, ih (i + 1) k (a + 1) (by omega) (by omega), Nat.add_assoc]
      · rw [if_neg x, if_pos rfl, if_neg (fun k => x (of_decide_eq_true k).2), nI_1, ih (i + 1) k a (by omega) (by omega), Nat.zero_add]
    · rw [if_neg z, fX7_beside_n_48, nI_1, if_neg (fun k => z (of_decide_eq_true k).1), ih (i + 1) k a (by omega) (by omega), Nat.zero_add]
theorem beside_e (hV : Vg gw gk n t t b) {z : Nat} (hz : z < 2) : fX7_beside_n gw gk (nI z) = some (nI (cntF (pNr gw (nI z) b) 0 n)) := by
  have h10 := hV.1.1
  have ht : fX7_demandTeam_n (nI z) = some () := by
    rw [fX7_demandTeam_n, fX7_isTeam, if_neg (nI_pos (by omega)), if_neg (show ¬ (2 : Int32) ≤ nI z from nI_ge (b := 2) hz (by omega)), if_neg n10]
  rw [fX7_beside_n, ht, Option.bind_some, show (0 : Int32) = nI 0 from rfl, near_l hV.1.2.2.2.1 hV.1.2.2.2.2.2.1 h10 _ n 0 64 0 (by omega) (by omega), Nat.zero_add]
theorem clock_n {t : Nat} (ht : t < 1000) : fX7_demandClock_n (nI t) = some () := by
  rw [fX7_demandClock_n, if_neg (nI_pos (by omega)), if_pos (show nI t ≤ 999 from nI_le (b := 999) (by omega) (by omega))]
theorem leader_e (gk : Nat → Int32) : fX7_leader gk = some (if (gk 3 - gk 4) = 0 then (-1) else (if (gk 3 - gk 4) ≤ 0 then 1 else 0)) := by
  rw [fX7_leader, ct3, Option.bind_some, ct4, Option.bind_some]
  split
  · rfl
  · split <;> rfl
/-- behind the cells: the rest is well -/
theorem end_w (tl hs : Int32) {ms : Nat → Int32} (hR : Rg gw gk ms) (hV : Vg gw gk n t t b) (hX : Xn gw gk n t) (k : Nat) (net : Int32) (rs rl ro p0 p1 : Nat → Int32) (h0 : ∀ z, z < 2 → p0 z = nI (cntF (pPl gw (nI z)) 0 n)) (h1 : ∀ z, z < 2 → p1 z = nI (cntF (pNr gw (nI z) b) 0 n)) : ∃ r, fL_isWell_305 tl hs gw gk (k + 1) (sI gw 8 n) (sI gw 7 n) (sI gw 6 n) (nI t) (tvF t) (nI 45) net rs rl ro p0 p1 = some r ∧ r.1 = 1 := by
  have h10 := hV.1.1
  have h48 := hV.1.2.1
  have hb := hV.1.2.2.1
  obtain ⟨x1, x2, x3, x4, ga, gb, gg, x5, x6, x7, x8, x9, x10⟩ := hX
  obtain ⟨net', rs', rl', ro', f1, f2⟩ := q_fair net 0 rs rl ro hR hV
  have c0 : p0 (0 : Int32).toNatClampNeg = nI (cntF (pPl gw 0) 0 n) := h0 0 (by omega)
  have c1 : p0 (1 : Int32).toNatClampNeg = nI (cntF (pPl gw 1) 0 n) := h0 1 (by omega)
  have d0 : p1 (0 : Int32).toNatClampNeg = nI (cntF (pNr gw 0 b) 0 n) := h1 0 (by omega)
  have d1 : p1 (1 : Int32).toNatClampNeg = nI (cntF (pNr gw 1 b) 0 n) := h1 1 (by omega)
  have b0 : fX7_beside_n gw gk 0 = some (nI (cntF (pNr gw 0 b) 0 n)) := beside_e hV (z := 0) (by omega)
  have b1 : fX7_beside_n gw gk 1 = some (nI (cntF (pNr gw 1 b) 0 n)) := beside_e hV (z := 1) (by omega)
  have n3 : ∀ m, m ≤ 3 → ¬ (3 : Int32) < nI m := fun m hm h => by
    have := (nI_ltI (a := 3) (by omega) (by omega)).mp h
    omega
  have fe : fairF gw n = 1 := by
    rw [fairF, if_neg (show ¬ 3 < cntPl gw 0 n from by rw [cntPl]; omega), if_neg (show ¬ 3 < cntPl gw 1 n from by rw [cntPl]; omega)]
  have gl : ¬ (gk 3 + gk 4) < sI gw 6 n := by
    rw [x5, x6, x7, nI_add]
    intro h
    have := (nI_ltI (by omega) (by omega)).mp h
    omega
  have v0 : vin 0 2 = true := rfl
  have v1 : vin 1 2 = true := rfl
  have l48 : ¬ (48 : Int32) < nI t := fun h => by
    have := (nI_ltI (a := 48) (by omega) (by omega)).mp h
    omega
  have e10 : nI (cntF (pPl gw 0) 0 n) + nI (cntF (pPl gw 1) 0 n) = nI (cntPl gw 0 n) + nI (cntPl gw 1 n) := rfl
  have t1 : fX7_tide_n (nI t) = some (tvF t) := by
    rw [fX7_tide_n, clock_n (by omega), Option.bind_some, strokes_e (by omega), Option.bind_some, tv_f t (by omega)]
  have t2 : fX7_tideAgain_n (nI t) = some (tvF t) := by
    rw [fX7_tideAgain_n, clock_n (by omega), Option.bind_some, tide_f t (by omega), tv_f t (by omega)]
  have i45 : (45 : Int32) ≤ nI 45 := nI_le (a := 45) (by omega) (by omega)
  have b45 : ¬ (45 : Int32) ≤ nI b := nI_ge (b := 45) hb (by omega)
  have bp : ¬ nI b < 0 := nI_pos (by omega)
  rw [x5, x6] at gl
  simp only [fL_isWell_305, if_pos i45, ac3, ac4, ac5, ac7, ac8, ac10 tl hs hV, Option.bind_some, if_pos x1.symm, if_pos x2.symm, x5, x6, if_neg gl, if_pos v0, if_pos v1, c0, c1, d0, d1, if_neg (n3 _ x3), if_neg (n3 _ x4), if_pos e10, b0, b1, if_true, t1, t2, if_neg l48, hV.1.2.2.2.2.2.1, if_neg b45, if_neg bp, leader_e, fL_isWell_530, f1, fe, if_neg n10]
  exact ⟨_, rfl, rfl⟩
theorem cells_w (tl hs : Int32) {ms : Nat → Int32} (hR : Rg gw gk ms) (hV : Vg gw gk n t t b) (hX : Xn gw gk n t) (net : Int32) (rs rl ro p0 p1 : Nat → Int32) (h0 : ∀ z, z < 2 → p0 z = nI (cntF (pPl gw (nI z)) 0 n)) (h1 : ∀ z, z < 2 → p1 z = nI (cntF (pNr gw (nI z) b) 0 n)) : ∀ (d c k : Nat), c + d = 45 → d < k → ∃ r, fL_isWell_305 tl hs gw gk k (sI gw 8 n) (sI gw 7 n) (sI gw 6 n) (nI t) (tvF t) (nI c) net rs rl ro p0 p1 = some r ∧ r.1 = 1 := by
  intro d
  induction d with
  | zero =>
    intro c k hc hk
    obtain ⟨k, rfl⟩ : ∃ q, k = q + 1 := ⟨k - 1, by omega⟩
    obtain rfl : c = 45 := by omega
    exact end_w tl hs hR hV hX k net rs rl ro p0 p1 h0 h1
  | succ d ih =>
    intro c k hc hk
    obtain ⟨k, rfl⟩ : ∃ q, k = q + 1 := ⟨k - 1, by omega⟩
    rw [fL_isWell_305, if_neg (show ¬ (45 : Int32) ≤ nI c from nI_ge (b := 45) (by omega) (by omega)), dry_n hV (by omega), Option.bind_some, fL_isWell_343, if_pos (dw_f c (by omega) t (by have := hV.1.2.1; omega)), nI_1]
    exact ih (c + 1) k (by omega) (by omega)
/-- the law's isWell says yes -/
theorem well_n (tl hs : Int32) {ms : Nat → Int32} (hR : Rg gw gk ms) (hV : Vg gw gk n t t b) (hX : Xn gw gk n t) (net : Int32) (rs rl ro : Nat → Int32) : ∃ r, fL_isWell net tl hs gw gk rs rl ro = some r ∧ r.1 = 1 := by
  have h10 := hV.1.1
  obtain ⟨p0, p1, e, f0, f1⟩ := well_l tl hs hV (nI t) (tvF t) net rs rl ro n 0 64 (fun _ => 0) (fun _ => 0) (by omega) (by omega) (fun z _ => rfl) (fun z _ => rfl)
  obtain ⟨r, r1, r2⟩ := cells_w tl hs hR hV hX net rs rl ro p0 p1 f0 f1 45 0 64 (by omega) (by omega)
  refine ⟨r, ?_, r2⟩
  rw [fL_isWell, ac1, Option.bind_some, hV.1.2.2.2.2.1]
  exact e.trans r1
end WELL
