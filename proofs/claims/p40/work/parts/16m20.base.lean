/-! the game as numbers: class and reference side by side -/
theorem e_vin {n N : Nat} (h : n < N) (hN : N < 2 ^ 31) : vin (nI n) N = true := by
  have z := vp_in_nI h hN
  rw [vin]
  exact decide_eq_true z
/-- a number's place in the row of whales: the class's row, and the reference's -/
theorem e_i9 (i c : Nat) : nI i * 9 + nI c = nI (9 * i + c) := by
  rw [show (9 : Int32) = nI 9 from rfl, pk_mul, nI_add, Nat.mul_comm]
theorem e_m9 (i c : Nat) : 13 + 9 * nI i + nI c = nI (13 + 9 * i + c) := by
  rw [show (9 : Int32) = nI 9 from rfl, show (13 : Int32) = nI 13 from rfl, pk_mul, nI_add, nI_add]
theorem e_of (gw : Nat → Int32) {i c : Nat} (hi : i < 10) (hc : c < 9) : fX1_of gw (nI i) (nI c) = some (gw (9 * i + c)) := by
  rw [fX1_of, e_i9, if_neg (nI_pos (by omega)), if_neg (show ¬ (90 : Int32) ≤ nI (9 * i + c) from nI_ge (b := 90) (by omega) (by omega)), if_pos (e_vin (by omega) (by omega)), nI_clamp (by omega)]
theorem e_set (gw : Nat → Int32) {i c : Nat} (hi : i < 10) (hc : c < 9) (v : Int32) : fX1_set gw (nI i) (nI c) v = some (upd gw (9 * i + c) v) := by
  rw [fX1_set, e_i9, if_neg (nI_pos (by omega)), if_neg (show ¬ (90 : Int32) ≤ nI (9 * i + c) from nI_ge (b := 90) (by omega) (by omega)), if_pos (e_vin (by omega) (by omega)), nI_clamp (by omega)]
theorem e_add (gw : Nat → Int32) {i c : Nat} (hi : i < 10) (hc : c < 9) (v : Int32) : fX1_add gw (nI i) (nI c) v = some (upd gw (9 * i + c) (gw (9 * i + c) + v)) := by
  rw [fX1_add, e_of gw hi hc, Option.bind_some, e_set gw hi hc, Option.bind_some]
theorem e_mof (ms : Nat → Int32) {i c : Nat} (hi : i < 10) (hc : c < 9) : fX8_of ms (nI i) (nI c) = some (ms (13 + 9 * i + c)) := by
  rw [fX8_of, e_m9, if_pos (e_vin (by omega) (by omega)), nI_clamp (by omega)]
theorem e_mset (ms : Nat → Int32) {i c : Nat} (hi : i < 10) (hc : c < 9) (v : Int32) : fX8_sets ms (nI i) (nI c) v = some (upd ms (13 + 9 * i + c) v) := by
  rw [fX8_sets, e_m9, if_pos (e_vin (by omega) (by omega)), nI_clamp (by omega)]
theorem of0 (gw : Nat → Int32) {i : Nat} (hi : i < 10) : fX1_of gw (nI i) 0 = some (gw (9 * i)) := e_of gw (c := 0) hi (by decide)
theorem set0 (gw : Nat → Int32) {i : Nat} (hi : i < 10) (v : Int32) : fX1_set gw (nI i) 0 v = some (upd gw (9 * i) v) := e_set gw (c := 0) hi (by decide) v
theorem add0 (gw : Nat → Int32) {i : Nat} (hi : i < 10) (v : Int32) : fX1_add gw (nI i) 0 v = some (upd gw (9 * i) (gw (9 * i) + v)) := e_add gw (c := 0) hi (by decide) v
theorem mof0 (ms : Nat → Int32) {i : Nat} (hi : i < 10) : fX8_of ms (nI i) 0 = some (ms (13 + 9 * i)) := e_mof ms (c := 0) hi (by decide)
theorem mset0 (ms : Nat → Int32) {i : Nat} (hi : i < 10) (v : Int32) : fX8_sets ms (nI i) 0 v = some (upd ms (13 + 9 * i) v) := e_mset ms (c := 0) hi (by decide) v
theorem of1 (gw : Nat → Int32) {i : Nat} (hi : i < 10) : fX1_of gw (nI i) 1 = some (gw (9 * i + 1)) := e_of gw (c := 1) hi (by decide)
theorem set1 (gw : Nat → Int32) {i : Nat} (hi : i < 10) (v : Int32) : fX1_set gw (nI i) 1 v = some (upd gw (9 * i + 1) v) := e_set gw (c := 1) hi (by decide) v
theorem add1 (gw : Nat → Int32) {i : Nat} (hi : i < 10) (v : Int32) : fX1_add gw (nI i) 1 v = some (upd gw (9 * i + 1) (gw (9 * i + 1) + v)) := e_add gw (c := 1) hi (by decide) v
theorem mof1 (ms : Nat → Int32) {i : Nat} (hi : i < 10) : fX8_of ms (nI i) 1 = some (ms (13 + 9 * i + 1)) := e_mof ms (c := 1) hi (by decide)
theorem mset1 (ms : Nat → Int32) {i : Nat} (hi : i < 10) (v : Int32) : fX8_sets ms (nI i) 1 v = some (upd ms (13 + 9 * i + 1) v) := e_mset ms (c := 1) hi (by decide) v
theorem of2 (gw : Nat → Int32) {i : Nat} (hi : i < 10) : fX1_of gw (nI i) 2 = some (gw (9 * i + 2)) := e_of gw (c := 2) hi (by decide)
theorem set2 (gw : Nat → Int32) {i : Nat} (hi : i < 10) (v : Int32) : fX1_set gw (nI i) 2 v = some (upd gw (9 * i + 2) v) := e_set gw (c := 2) hi (by decide) v
theorem add2 (gw : Nat → Int32) {i : Nat} (hi : i < 10) (v : Int32) : fX1_add gw (nI i) 2 v = some (upd gw (9 * i + 2) (gw (9 * i + 2) + v)) := e_add gw (c := 2) hi (by decide) v
theorem mof2 (ms : Nat → Int32) {i : Nat} (hi : i < 10) : fX8_of ms (nI i) 2 = some (ms (13 + 9 * i + 2)) := e_mof ms (c := 2) hi (by decide)
theorem mset2 (ms : Nat → Int32) {i : Nat} (hi : i < 10) (v : Int32) : fX8_sets ms (nI i) 2 v = some (upd ms (13 + 9 * i + 2) v) := e_mset ms (c := 2) hi (by decide) v
theorem of3 (gw : Nat → Int32) {i : Nat} (hi : i < 10) : fX1_of gw (nI i) 3 = some (gw (9 * i + 3)) := e_of gw (c := 3) hi (by decide)
theorem set3 (gw : Nat → Int32) {i : Nat} (hi : i < 10) (v : Int32) : fX1_set gw (nI i) 3 v = some (upd gw (9 * i + 3) v) := e_set gw (c := 3) hi (by decide) v
theorem add3 (gw : Nat → Int32) {i : Nat} (hi : i < 10) (v : Int32) : fX1_add gw (nI i) 3 v = some (upd gw (9 * i + 3) (gw (9 * i + 3) + v)) := e_add gw (c := 3) hi (by decide) v
theorem mof3 (ms : Nat → Int32) {i : Nat} (hi : i < 10) : fX8_of ms (nI i) 3 = some (ms (13 + 9 * i + 3)) := e_mof ms (c := 3) hi (by decide)
theorem mset3 (ms : Nat → Int32) {i : Nat} (hi : i < 10) (v : Int32) : fX8_sets ms (nI i) 3 v = some (upd ms (13 + 9 * i + 3) v) := e_mset ms (c := 3) hi (by decide) v
theorem of4 (gw : Nat → Int32) {i : Nat} (hi : i < 10) : fX1_of gw (nI i) 4 = some (gw (9 * i + 4)) := e_of gw (c := 4) hi (by decide)
theorem set4 (gw : Nat → Int32) {i : Nat} (hi : i < 10) (v : Int32) : fX1_set gw (nI i) 4 v = some (upd gw (9 * i + 4) v) := e_set gw (c := 4) hi (by decide) v
theorem add4 (gw : Nat → Int32) {i : Nat} (hi : i < 10) (v : Int32) : fX1_add gw (nI i) 4 v = some (upd gw (9 * i + 4) (gw (9 * i + 4) + v)) := e_add gw (c := 4) hi (by decide) v
theorem mof4 (ms : Nat → Int32) {i : Nat} (hi : i < 10) : fX8_of ms (nI i) 4 = some (ms (13 + 9 * i + 4)) := e_mof ms (c := 4) hi (by decide)
theorem mset4 (ms : Nat → Int32) {i : Nat} (hi : i < 10) (v : Int32) : fX8_sets ms (nI i) 4 v = some (upd ms (13 + 9 * i + 4) v) := e_mset ms (c := 4) hi (by decide) v
theorem of5 (gw : Nat → Int32) {i : Nat} (hi : i < 10) : fX1_of gw (nI i) 5 = some (gw (9 * i + 5)) := e_of gw (c := 5) hi (by decide)
theorem set5 (gw : Nat → Int32) {i : Nat} (hi : i < 10) (v : Int32) : fX1_set gw (nI i) 5 v = some (upd gw (9 * i + 5) v) := e_set gw (c := 5) hi (by decide) v
theorem add5 (gw : Nat → Int32) {i : Nat} (hi : i < 10) (v : Int32) : fX1_add gw (nI i) 5 v = some (upd gw (9 * i + 5) (gw (9 * i + 5) + v)) := e_add gw (c := 5) hi (by decide) v
theorem mof5 (ms : Nat → Int32) {i : Nat} (hi : i < 10) : fX8_of ms (nI i) 5 = some (ms (13 + 9 * i + 5)) := e_mof ms (c := 5) hi (by decide)
theorem mset5 (ms : Nat → Int32) {i : Nat} (hi : i < 10) (v : Int32) : fX8_sets ms (nI i) 5 v = some (upd ms (13 + 9 * i + 5) v) := e_mset ms (c := 5) hi (by decide) v
theorem of6 (gw : Nat → Int32) {i : Nat} (hi : i < 10) : fX1_of gw (nI i) 6 = some (gw (9 * i + 6)) := e_of gw (c := 6) hi (by decide)
theorem set6 (gw : Nat → Int32) {i : Nat} (hi : i < 10) (v : Int32) : fX1_set gw (nI i) 6 v = some (upd gw (9 * i + 6) v) := e_set gw (c := 6) hi (by decide) v
theorem add6 (gw : Nat → Int32) {i : Nat} (hi : i < 10) (v : Int32) : fX1_add gw (nI i) 6 v = some (upd gw (9 * i + 6) (gw (9 * i + 6) + v)) := e_add gw (c := 6) hi (by decide) v
theorem mof6 (ms : Nat → Int32) {i : Nat} (hi : i < 10) : fX8_of ms (nI i) 6 = some (ms (13 + 9 * i + 6)) := e_mof ms (c := 6) hi (by decide)
theorem mset6 (ms : Nat → Int32) {i : Nat} (hi : i < 10) (v : Int32) : fX8_sets ms (nI i) 6 v = some (upd ms (13 + 9 * i + 6) v) := e_mset ms (c := 6) hi (by decide) v
theorem of7 (gw : Nat → Int32) {i : Nat} (hi : i < 10) : fX1_of gw (nI i) 7 = some (gw (9 * i + 7)) := e_of gw (c := 7) hi (by decide)
theorem set7 (gw : Nat → Int32) {i : Nat} (hi : i < 10) (v : Int32) : fX1_set gw (nI i) 7 v = some (upd gw (9 * i + 7) v) := e_set gw (c := 7) hi (by decide) v
theorem add7 (gw : Nat → Int32) {i : Nat} (hi : i < 10) (v : Int32) : fX1_add gw (nI i) 7 v = some (upd gw (9 * i + 7) (gw (9 * i + 7) + v)) := e_add gw (c := 7) hi (by decide) v
theorem mof7 (ms : Nat → Int32) {i : Nat} (hi : i < 10) : fX8_of ms (nI i) 7 = some (ms (13 + 9 * i + 7)) := e_mof ms (c := 7) hi (by decide)
theorem mset7 (ms : Nat → Int32) {i : Nat} (hi : i < 10) (v : Int32) : fX8_sets ms (nI i) 7 v = some (upd ms (13 + 9 * i + 7) v) := e_mset ms (c := 7) hi (by decide) v
theorem of8 (gw : Nat → Int32) {i : Nat} (hi : i < 10) : fX1_of gw (nI i) 8 = some (gw (9 * i + 8)) := e_of gw (c := 8) hi (by decide)
theorem set8 (gw : Nat → Int32) {i : Nat} (hi : i < 10) (v : Int32) : fX1_set gw (nI i) 8 v = some (upd gw (9 * i + 8) v) := e_set gw (c := 8) hi (by decide) v
theorem add8 (gw : Nat → Int32) {i : Nat} (hi : i < 10) (v : Int32) : fX1_add gw (nI i) 8 v = some (upd gw (9 * i + 8) (gw (9 * i + 8) + v)) := e_add gw (c := 8) hi (by decide) v
theorem mof8 (ms : Nat → Int32) {i : Nat} (hi : i < 10) : fX8_of ms (nI i) 8 = some (ms (13 + 9 * i + 8)) := e_mof ms (c := 8) hi (by decide)
theorem mset8 (ms : Nat → Int32) {i : Nat} (hi : i < 10) (v : Int32) : fX8_sets ms (nI i) 8 v = some (upd ms (13 + 9 * i + 8) v) := e_mset ms (c := 8) hi (by decide) v
theorem ct0 (gk : Nat → Int32) : fX1_count gk 0 = some (gk 0) := rfl
theorem cs0 (gk : Nat → Int32) (v : Int32) : fX1_setCount gk 0 v = some (upd gk 0 v) := rfl
theorem ca0 (gk : Nat → Int32) (v : Int32) : fX1_addCount gk 0 v = some (upd gk 0 (gk 0 + v)) := rfl
theorem ct1 (gk : Nat → Int32) : fX1_count gk 1 = some (gk 1) := rfl
theorem cs1 (gk : Nat → Int32) (v : Int32) : fX1_setCount gk 1 v = some (upd gk 1 v) := rfl
theorem ca1 (gk : Nat → Int32) (v : Int32) : fX1_addCount gk 1 v = some (upd gk 1 (gk 1 + v)) := rfl
theorem ct2 (gk : Nat → Int32) : fX1_count gk 2 = some (gk 2) := rfl
theorem cs2 (gk : Nat → Int32) (v : Int32) : fX1_setCount gk 2 v = some (upd gk 2 v) := rfl
theorem ca2 (gk : Nat → Int32) (v : Int32) : fX1_addCount gk 2 v = some (upd gk 2 (gk 2 + v)) := rfl
theorem ct3 (gk : Nat → Int32) : fX1_count gk 3 = some (gk 3) := rfl
theorem cs3 (gk : Nat → Int32) (v : Int32) : fX1_setCount gk 3 v = some (upd gk 3 v) := rfl
theorem ca3 (gk : Nat → Int32) (v : Int32) : fX1_addCount gk 3 v = some (upd gk 3 (gk 3 + v)) := rfl
theorem ct4 (gk : Nat → Int32) : fX1_count gk 4 = some (gk 4) := rfl
theorem cs4 (gk : Nat → Int32) (v : Int32) : fX1_setCount gk 4 v = some (upd gk 4 v) := rfl
theorem ca4 (gk : Nat → Int32) (v : Int32) : fX1_addCount gk 4 v = some (upd gk 4 (gk 4 + v)) := rfl
theorem ct5 (gk : Nat → Int32) : fX1_count gk 5 = some (gk 5) := rfl
theorem cs5 (gk : Nat → Int32) (v : Int32) : fX1_setCount gk 5 v = some (upd gk 5 v) := rfl
theorem ca5 (gk : Nat → Int32) (v : Int32) : fX1_addCount gk 5 v = some (upd gk 5 (gk 5 + v)) := rfl
theorem ct6 (gk : Nat → Int32) : fX1_count gk 6 = some (gk 6) := rfl
theorem cs6 (gk : Nat → Int32) (v : Int32) : fX1_setCount gk 6 v = some (upd gk 6 v) := rfl
theorem ca6 (gk : Nat → Int32) (v : Int32) : fX1_addCount gk 6 v = some (upd gk 6 (gk 6 + v)) := rfl
theorem ct7 (gk : Nat → Int32) : fX1_count gk 7 = some (gk 7) := rfl
theorem cs7 (gk : Nat → Int32) (v : Int32) : fX1_setCount gk 7 v = some (upd gk 7 v) := rfl
theorem ca7 (gk : Nat → Int32) (v : Int32) : fX1_addCount gk 7 v = some (upd gk 7 (gk 7 + v)) := rfl
theorem ct8 (gk : Nat → Int32) : fX1_count gk 8 = some (gk 8) := rfl
theorem cs8 (gk : Nat → Int32) (v : Int32) : fX1_setCount gk 8 v = some (upd gk 8 v) := rfl
theorem ca8 (gk : Nat → Int32) (v : Int32) : fX1_addCount gk 8 v = some (upd gk 8 (gk 8 + v)) := rfl
theorem ct9 (gk : Nat → Int32) : fX1_count gk 9 = some (gk 9) := rfl
theorem cs9 (gk : Nat → Int32) (v : Int32) : fX1_setCount gk 9 v = some (upd gk 9 v) := rfl
theorem ca9 (gk : Nat → Int32) (v : Int32) : fX1_addCount gk 9 v = some (upd gk 9 (gk 9 + v)) := rfl
theorem ct10 (gk : Nat → Int32) : fX1_count gk 10 = some (gk 10) := rfl
theorem cs10 (gk : Nat → Int32) (v : Int32) : fX1_setCount gk 10 v = some (upd gk 10 v) := rfl
theorem ca10 (gk : Nat → Int32) (v : Int32) : fX1_addCount gk 10 v = some (upd gk 10 (gk 10 + v)) := rfl
theorem ct11 (gk : Nat → Int32) : fX1_count gk 11 = some (gk 11) := rfl
theorem cs11 (gk : Nat → Int32) (v : Int32) : fX1_setCount gk 11 v = some (upd gk 11 v) := rfl
theorem ca11 (gk : Nat → Int32) (v : Int32) : fX1_addCount gk 11 v = some (upd gk 11 (gk 11 + v)) := rfl
theorem ct12 (gk : Nat → Int32) : fX1_count gk 12 = some (gk 12) := rfl
theorem cs12 (gk : Nat → Int32) (v : Int32) : fX1_setCount gk 12 v = some (upd gk 12 v) := rfl
theorem ca12 (gk : Nat → Int32) (v : Int32) : fX1_addCount gk 12 v = some (upd gk 12 (gk 12 + v)) := rfl
theorem ct13 (gk : Nat → Int32) : fX1_count gk 13 = some (gk 13) := rfl
theorem cs13 (gk : Nat → Int32) (v : Int32) : fX1_setCount gk 13 v = some (upd gk 13 v) := rfl
theorem ca13 (gk : Nat → Int32) (v : Int32) : fX1_addCount gk 13 v = some (upd gk 13 (gk 13 + v)) := rfl
theorem ct14 (gk : Nat → Int32) : fX1_count gk 14 = some (gk 14) := rfl
theorem cs14 (gk : Nat → Int32) (v : Int32) : fX1_setCount gk 14 v = some (upd gk 14 v) := rfl
theorem ca14 (gk : Nat → Int32) (v : Int32) : fX1_addCount gk 14 v = some (upd gk 14 (gk 14 + v)) := rfl
theorem ct15 (gk : Nat → Int32) : fX1_count gk 15 = some (gk 15) := rfl
theorem cs15 (gk : Nat → Int32) (v : Int32) : fX1_setCount gk 15 v = some (upd gk 15 v) := rfl
theorem ca15 (gk : Nat → Int32) (v : Int32) : fX1_addCount gk 15 v = some (upd gk 15 (gk 15 + v)) := rfl
theorem ct16 (gk : Nat → Int32) : fX1_count gk 16 = some (gk 16) := rfl
theorem cs16 (gk : Nat → Int32) (v : Int32) : fX1_setCount gk 16 v = some (upd gk 16 v) := rfl
theorem ca16 (gk : Nat → Int32) (v : Int32) : fX1_addCount gk 16 v = some (upd gk 16 (gk 16 + v)) := rfl
theorem ct17 (gk : Nat → Int32) : fX1_count gk 17 = some (gk 17) := rfl
theorem cs17 (gk : Nat → Int32) (v : Int32) : fX1_setCount gk 17 v = some (upd gk 17 v) := rfl
theorem ca17 (gk : Nat → Int32) (v : Int32) : fX1_addCount gk 17 v = some (upd gk 17 (gk 17 + v)) := rfl
theorem v103_0 : vin 0 103 = true := rfl
theorem cl_0 : (0 : Int32).toNatClampNeg = 0 := rfl
theorem v103_1 : vin 1 103 = true := rfl
theorem cl_1 : (1 : Int32).toNatClampNeg = 1 := rfl
theorem v103_2 : vin 2 103 = true := rfl
theorem cl_2 : (2 : Int32).toNatClampNeg = 2 := rfl
theorem v103_3 : vin 3 103 = true := rfl
theorem cl_3 : (3 : Int32).toNatClampNeg = 3 := rfl
theorem v103_4 : vin 4 103 = true := rfl
theorem cl_4 : (4 : Int32).toNatClampNeg = 4 := rfl
theorem v103_5 : vin 5 103 = true := rfl
theorem cl_5 : (5 : Int32).toNatClampNeg = 5 := rfl
theorem v103_6 : vin 6 103 = true := rfl
theorem cl_6 : (6 : Int32).toNatClampNeg = 6 := rfl
theorem v103_7 : vin 7 103 = true := rfl
theorem cl_7 : (7 : Int32).toNatClampNeg = 7 := rfl
theorem v103_8 : vin 8 103 = true := rfl
theorem cl_8 : (8 : Int32).toNatClampNeg = 8 := rfl
theorem v103_9 : vin 9 103 = true := rfl
theorem cl_9 : (9 : Int32).toNatClampNeg = 9 := rfl
theorem v103_10 : vin 10 103 = true := rfl
theorem cl_10 : (10 : Int32).toNatClampNeg = 10 := rfl
theorem v103_11 : vin 11 103 = true := rfl
theorem cl_11 : (11 : Int32).toNatClampNeg = 11 := rfl
theorem v103_12 : vin 12 103 = true := rfl
theorem cl_12 : (12 : Int32).toNatClampNeg = 12 := rfl
/-- one game, kept two ways -/
def Rg (gw gk ms : Nat → Int32) : Prop :=
  (∀ j, j < 90 → ms (13 + j) = gw j) ∧ ms 0 = gk 0 ∧ ms 1 = gk 1 ∧ ms 2 = gk 5 ∧ ms 3 = gk 6 ∧ ms 4 = gk 3 ∧ ms 5 = gk 4 ∧ ms 6 = gk 7 ∧ ms 7 = gk 8 ∧ ms 8 = gk 11 ∧ ms 9 = gk 14 ∧ ms 10 = gk 15 ∧ ms 11 = gk 16 ∧ ms 12 = gk 17 ∧ gk 9 = gk 14 + gk 15
def fstF (P : Nat → Bool) : Nat → Nat → Int32
  | _, 0 => -1
  | i, j + 1 => if P i = true then nI i else fstF P (i + 1) j
def cntF (P : Nat → Bool) : Nat → Nat → Nat
  | _, 0 => 0
  | i, j + 1 => (if P i = true then 1 else 0) + cntF P (i + 1) j
def anyF (P : Nat → Bool) : Nat → Nat → Bool
  | _, 0 => false
  | i, j + 1 => if P i = true then true else anyF P (i + 1) j
def pOn (gw : Nat → Int32) (c : Int32) (i : Nat) : Bool := decide (gw (9 * i + 4) = c)
def pTm (gw : Nat → Int32) (t : Int32) (i : Nat) : Bool := decide (gw (9 * i) = t)
def pPl (gw : Nat → Int32) (t : Int32) (i : Nat) : Bool := decide (gw (9 * i) = t ∧ gw (9 * i + 4) ≠ -1)
def near (c b : Int32) : Prop := c ≠ -1 ∧ ¬ 1 < fX7_between c b
/-- the bits that the two sides make of a question -/
def bI (p : Prop) [Decidable p] : Int32 := if p then 1 else 0
theorem c_whaleOn {gw gk : Nat → Int32} {n : Nat} (hn : gk 0 = nI n) (h10 : n ≤ 10) (c : Int32) : ∀ (j i k : Nat), i + j = n → j < k → fX1_whaleOn_2 gw gk k c (nI i) = some (fstF (pOn gw c) i j) := by
  intro j
  induction j with
  | zero =>
    intro i k h hk
    obtain ⟨k, rfl⟩ : ∃ q, k = q + 1 := ⟨k - 1, by omega⟩
    rw [fX1_whaleOn_2, ct0, Option.bind_some, hn, if_pos (nI_le (by omega) (by omega))]
    rfl
  | succ j ih =>
    intro i k h hk
    obtain ⟨k, rfl⟩ : ∃ q, k = q + 1 := ⟨k - 1, by omega⟩
    rw [fX1_whaleOn_2, ct0, Option.bind_some, hn, if_neg (nI_ge (by omega) (by omega)), of4 gw (by omega), Option.bind_some, fstF, pOn]
    by_cases z : gw (9 * i + 4) = c
    · rw [if_pos z, if_pos (decide_eq_true z)]
    · rw [if_neg z, if_neg (by simpa using z), nI_1, ih (i + 1) k (by omega) (by omega)]
theorem m_whaleAt {gw gk ms : Nat → Int32} {n : Nat} (hR : Rg gw gk ms) (hn : gk 0 = nI n) (h10 : n ≤ 10) (c : Int32) : ∀ (j i k : Nat), i + j = n → j < k → fX8_whaleAt_2 ms k c (nI i) = some (fstF (pOn gw c) i j) := by
  intro j
  have h0 : ms 0 = nI n := hR.2.1.trans hn
  induction j with
  | zero =>
    intro i k h hk
    obtain ⟨k, rfl⟩ : ∃ q, k = q + 1 := ⟨k - 1, by omega⟩
    rw [fX8_whaleAt_2, if_pos v103_0, cl_0, h0, if_pos (nI_le (by omega) (by omega))]
    rfl
  | succ j ih =>
    intro i k h hk
    obtain ⟨k, rfl⟩ : ∃ q, k = q + 1 := ⟨k - 1, by omega⟩
    rw [fX8_whaleAt_2, if_pos v103_0, cl_0, h0, if_neg (nI_ge (by omega) (by omega)), mof4 ms (by omega), Option.bind_some, show 13 + 9 * i + 4 = 13 + (9 * i + 4) from by omega, hR.1 _ (by omega), fstF, pOn]
    by_cases z : gw (9 * i + 4) = c
    · rw [if_pos z, if_pos (decide_eq_true z)]
    · rw [if_neg z, if_neg (by simpa using z), nI_1, ih (i + 1) k (by omega) (by omega)]
theorem whaleOn_e {gw gk : Nat → Int32} {n : Nat} (hn : gk 0 = nI n) (h10 : n ≤ 10) (c : Int32) : fX1_whaleOn gw gk c = some (fstF (pOn gw c) 0 n) := c_whaleOn hn h10 c n 0 64 (by omega) (by omega)
theorem whaleAt_e {gw gk ms : Nat → Int32} {n : Nat} (hR : Rg gw gk ms) (hn : gk 0 = nI n) (h10 : n ≤ 10) (c : Int32) : fX8_whaleAt ms c = some (fstF (pOn gw c) 0 n) := m_whaleAt hR hn h10 c n 0 64 (by omega) (by omega)
theorem c_countOf {gw gk : Nat → Int32} {n : Nat} (hn : gk 0 = nI n) (h10 : n ≤ 10) (t : Int32) : ∀ (j i k a : Nat), i + j = n → j < k → fX1_countOf_4 gw gk k t (nI a) (nI i) = some (nI (a + cntF (pTm gw t) i j)) := by
  intro j
  induction j with
  | zero =>
    intro i k a h hk
    obtain ⟨k, rfl⟩ : ∃ q, k = q + 1 := ⟨k - 1, by omega⟩
    rw [fX1_countOf_4, ct0, Option.bind_some, hn, if_pos (nI_le (by omega) (by omega))]
    rfl
  | succ j ih =>
    intro i k a h hk
    obtain ⟨k, rfl⟩ : ∃ q, k = q + 1 := ⟨k - 1, by omega⟩
    rw [fX1_countOf_4, ct0, Option.bind_some, hn, if_neg (nI_ge (by omega) (by omega)), of0 gw (by omega), Option.bind_some, fX1_countOf_29, cntF, pTm, nI_1]
    by_cases z : gw (9 * i) = t
    · rw [if_pos z, if_pos (decide_eq_true z), nI_1, ih (i + 1) k (a + 1) (by omega) (by omega), Nat.add_assoc]
    · rw [if_neg z, if_neg (by simpa using z), Int32.add_zero, ih (i + 1) k a (by omega) (by omega), Nat.zero_add]
theorem m_ofTeam {gw gk ms : Nat → Int32} {n : Nat} (hR : Rg gw gk ms) (hn : gk 0 = nI n) (h10 : n ≤ 10) (t : Int32) : ∀ (j i k a : Nat), i + j = n → j < k → fX8_ofTeam_4 ms k t (nI a) (nI i) = some (nI (a + cntF (pTm gw t) i j)) := by
  intro j
  have h0 : ms 0 = nI n := hR.2.1.trans hn
  induction j with
  | zero =>
    intro i k a h hk
    obtain ⟨k, rfl⟩ : ∃ q, k = q + 1 := ⟨k - 1, by omega⟩
    rw [fX8_ofTeam_4, if_pos v103_0, cl_0, h0, if_pos (nI_le (by omega) (by omega))]
    rfl
  | succ j ih =>
    intro i k a h hk
    obtain ⟨k, rfl⟩ : ∃ q, k = q + 1 := ⟨k - 1, by omega⟩
    rw [fX8_ofTeam_4, if_pos v103_0, cl_0, h0, if_neg (nI_ge (by omega) (by omega)), mof0 ms (by omega), Option.bind_some, hR.1 _ (by omega), fX8_ofTeam_30, cntF, pTm, nI_1]
    by_cases z : gw (9 * i) = t
    · rw [if_pos z, if_pos (decide_eq_true z), nI_1, ih (i + 1) k (a + 1) (by omega) (by omega), Nat.add_assoc]
    · rw [if_neg z, if_neg (by simpa using z), Int32.add_zero, ih (i + 1) k a (by omega) (by omega), Nat.zero_add]
theorem countOf_e {gw gk : Nat → Int32} {n : Nat} (hn : gk 0 = nI n) (h10 : n ≤ 10) (t : Int32) : fX1_countOf gw gk t = some (nI (cntF (pTm gw t) 0 n)) := by
  rw [fX1_countOf, show (0 : Int32) = nI 0 from rfl, c_countOf hn h10 t n 0 64 0 (by omega) (by omega), Nat.zero_add]
theorem ofTeam_e {gw gk ms : Nat → Int32} {n : Nat} (hR : Rg gw gk ms) (hn : gk 0 = nI n) (h10 : n ≤ 10) (t : Int32) : fX8_ofTeam ms t = some (nI (cntF (pTm gw t) 0 n)) := by
  rw [fX8_ofTeam, show (0 : Int32) = nI 0 from rfl, m_ofTeam hR hn h10 t n 0 64 0 (by omega) (by omega), Nat.zero_add]

