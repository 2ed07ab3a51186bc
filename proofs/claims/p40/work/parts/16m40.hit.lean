/-! strikes -/
theorem lt45n {d : Nat} (h : d < 45) : (nI d < 45) = True := eq_true (nI_lt (b := 45) h (by omega))
theorem ge45a : (nI 45 < 45) = False := eq_false (by decide)
theorem ge45b : (nI 46 < 45) = False := eq_false (by decide)
theorem f10 : ((1 : Int32) = 0) = False := eq_false (by decide)
theorem t00 : ((0 : Int32) = 0) = True := eq_true rfl
set_option maxHeartbeats 4000000 in
theorem hit_c00 {gw gk ms : Nat → Int32} {n t b w br z f g s8 f8 : Nat} (hR : Rg gw gk ms) (hV : Vg gw gk n t t b) (hX : Xn gw gk n t) (hw : w < n) (ht : t < 48) (b1 : 1 ≤ br) (b20 : br ≤ 20) (b2 : gw (9 * w + 3) = nI br) (z1 : z ≤ t) (z2 : gw (9 * w + 8) = nI z) (f1 : f ≤ t) (f2 : gw (9 * w + 7) = nI f) (g1 : g ≤ t) (g2 : gw (9 * w + 6) = nI g) (s1 : s8 ≤ t) (s2 : gk 7 = nI s8) (e1 : f8 ≤ t) (e2 : gk 8 = nI f8) (rea det ref : Int32) {d : Nat} (hd : d < 45) : ∃ told gw' gk' ms', fX1_hit gw gk (nI w) (nI d) 0 0 = some (told, gw', gk') ∧ fX8_strikesBuoy_216 (if (nI d) < 45 then 0 else 1) (nI w) (nI br) (gw (9 * w)) 0 (nI d) 0 rea det ref 0 ms = some (told, 0, rea, det, ref, 0, ms') ∧ Rg gw' gk' ms' ∧ Gb n told gw' gk' := by
  have h10 := hV.1.1
  have w10 : w < 10 := by omega
  obtain ⟨k1, k2, k3, k4, k5, k6, k7, k8, k9, k10, k11⟩ := hV.1
  obtain ⟨d1, d2⟩ := dec1 b1
  obtain ⟨em0, em⟩ := e_ms hR w10
  have A0 := fun g => of0 g w10
  have A3 := fun g v => add3 g w10 v
  have A8 := fun g v => add8 g w10 v
  have A7 := fun g v => add7 g w10 v
  have A6 := fun g v => add6 g w10 v
  have N3 := fun g v => mset3 g w10 v
  have N8 := fun g v => mset8 g w10 v
  have N7 := fun g v => mset7 g w10 v
  have N6 := fun g v => mset6 g w10 v
  have O8 := fun g => mof8 g w10
  have O7 := fun g => mof7 g w10
  have O6 := fun g => mof6 g w10
  have U8 : ∀ x, upd gw (9 * w + 3) x (9 * w + 8) = nI z := fun x => by rw [pk_un (by omega)]; exact z2
  have U7 : ∀ x y, upd (upd gw (9 * w + 3) x) (9 * w + 8) y (9 * w + 7) = nI f := fun x y => by rw [pk_un (by omega), pk_un (by omega)]; exact f2
  have U6 : ∀ x y, upd (upd gw (9 * w + 3) x) (9 * w + 8) y (9 * w + 6) = nI g := fun x y => by rw [pk_un (by omega), pk_un (by omega)]; exact g2
  have U0 : ∀ x y, upd (upd gw (9 * w + 3) x) (9 * w + 8) y (9 * w) = gw (9 * w) := fun x y => by rw [pk_un (by omega), pk_un (by omega)]
  have M8 : ∀ x, upd ms (13 + 9 * w + 3) x (13 + 9 * w + 8) = nI z := fun x => by rw [pk_un (by omega), em 8 (by omega)]; exact z2
  have M7 : ∀ x y, upd (upd ms (13 + 9 * w + 3) x) (13 + 9 * w + 8) y (13 + 9 * w + 7) = nI f := fun x y => by rw [pk_un (by omega), pk_un (by omega), em 7 (by omega)]; exact f2
  have M6 : ∀ x y v, upd (upd (upd ms (13 + 9 * w + 3) x) (13 + 9 * w + 8) y) (13 + 9 * w + 7) v (13 + 9 * w + 6) = nI g := fun x y v => by rw [pk_un (by omega), pk_un (by omega), pk_un (by omega), em 6 (by omega)]; exact g2
  have MK : ∀ x y v q k, k < 13 → upd (upd (upd (upd ms (13 + 9 * w + 3) x) (13 + 9 * w + 8) y) (13 + 9 * w + 7) v) (13 + 9 * w + 6) q k = ms k := fun x y v q k hk => by rw [pk_un (by omega), pk_un (by omega), pk_un (by omega), pk_un (by omega)]
  have ms6 : ms 6 = nI s8 := hR.2.2.2.2.2.2.2.1.trans s2
  have ms7 : ms 7 = nI f8 := hR.2.2.2.2.2.2.2.2.1.trans e2
  have ms8 : ms 8 = gk 11 := hR.2.2.2.2.2.2.2.2.2.1
  have ms4 : ms 4 = gk 3 := hR.2.2.2.2.2.1
  have ms5 : ms 5 = gk 4 := hR.2.2.2.2.2.2.1
  have K6 : ∀ x y v q, upd (upd (upd (upd ms (13 + 9 * w + 3) x) (13 + 9 * w + 8) y) (13 + 9 * w + 7) v) (13 + 9 * w + 6) q 6 = nI s8 := fun x y v q => (MK x y v q 6 (by omega)).trans ms6
  have K7 : ∀ x y v q a, upd (upd (upd (upd (upd ms (13 + 9 * w + 3) x) (13 + 9 * w + 8) y) (13 + 9 * w + 7) v) (13 + 9 * w + 6) q) 6 a 7 = nI f8 := fun x y v q a => by rw [pk_un (by omega)]; exact (MK x y v q 7 (by omega)).trans ms7
  have K8 : ∀ x y v q a c, upd (upd (upd (upd (upd (upd ms (13 + 9 * w + 3) x) (13 + 9 * w + 8) y) (13 + 9 * w + 7) v) (13 + 9 * w + 6) q) 6 a) 7 c 8 = gk 11 := fun x y v q a c => by rw [pk_un (by omega), pk_un (by omega)]; exact (MK x y v q 8 (by omega)).trans ms8
  have K4 : ∀ x y v q a c d, upd (upd (upd (upd (upd (upd (upd ms (13 + 9 * w + 3) x) (13 + 9 * w + 8) y) (13 + 9 * w + 7) v) (13 + 9 * w + 6) q) 6 a) 7 c) 8 d 4 = gk 3 := fun x y v q a c d => by rw [pk_un (by omega), pk_un (by omega), pk_un (by omega)]; exact (MK x y v q 4 (by omega)).trans ms4
  have K5 : ∀ x y v q a c d, upd (upd (upd (upd (upd (upd (upd ms (13 + 9 * w + 3) x) (13 + 9 * w + 8) y) (13 + 9 * w + 7) v) (13 + 9 * w + 6) q) 6 a) 7 c) 8 d 5 = gk 4 := fun x y v q a c d => by rw [pk_un (by omega), pk_un (by omega), pk_un (by omega)]; exact (MK x y v q 5 (by omega)).trans ms5
  have G8 : ∀ x, upd gk 7 x 8 = nI f8 := fun x => e2
  have G11a : ∀ x, upd gk 7 x 11 = gk 11 := fun x => rfl
  have G11b : ∀ x y, upd (upd gk 7 x) 8 y 11 = gk 11 := fun x y => rfl
  have G3 : ∀ x y v, upd (upd (upd gk 7 x) 11 y) 5 v 3 = gk 3 := fun x y v => rfl
  have G4 : ∀ x y v, upd (upd (upd gk 7 x) 11 y) 5 v 4 = gk 4 := fun x y v => rfl
  have G5a : ∀ (g : Nat → Int32) x, upd g 5 x 5 = x := fun g x => rfl
  have G5b : ∀ (g : Nat → Int32) x y, upd (upd g 5 x) 6 y 5 = x := fun g x y => rfl
  have V0 := Vs_mono hV.2 (Nat.le_succ t)
  have L := lt45n hd
  have i45 : (3 + (nI 45 - 45) : Int32) = 3 := rfl
  have i46 : (3 + (nI 46 - 45) : Int32) = 4 := rfl
  have j45 : (4 + nI 45 - 45 : Int32) = 4 := rfl
  have j46 : (4 + nI 46 - 45 : Int32) = 5 := rfl
  have l45 : (nI 45 - 45 : Int32) = 0 := rfl
  have l46 : (nI 46 - 45 : Int32) = 1 := rfl
  have tne : (nI d = 45 + gw (9 * w)) = False := eq_false (fun q => by
    rcases (hV.2.2.2.1 w hw).1 with y | y
    · rw [y, show (45 + 0 : Int32) = nI 45 from rfl] at q; have := (nI_eq (by omega) (by omega)).mp q; omega
    · rw [y, show (45 + 1 : Int32) = nI 46 from rfl] at q; have := (nI_eq (by omega) (by omega)).mp q; omega)
  have hc : fX1_hit gw gk (nI w) (nI d) 0 0 = (fX1_endStroke (upd (upd gw (9 * w + 3) (nI (br - 1))) (9 * w + 8) (nI (z + 1))) (upd (upd (upd (upd gk 7 (nI (s8 + 1))) 11 (gk 11 + 0)) 5 (nI d)) 6 (gw (9 * w)))).bind fun q => some ((nI d), q.2.1, q.2.2) := by
    simp only [fX1_hit, fX1_hit_11, fX1_hit_28, fX1_countStrike, fX1_countGoal, fX1_hit_57, fX1_hit_73, fX1_hit_121, fX1_hit_124, fX1_hit_138, A0, A3, A8, A7, A6, L, f10, t00, if_true, if_false, Option.bind_some, b2, d1, U8, U7, U6, U0, nI_1, ca7, ca8, ca11, ca3, ca4, cs5, cs6, ct5, s2, G8, G11a, G11b, G3, G4, G5a, G5b, i45, i46, l45, l46, show (3 + 0 : Int32) = 3 from rfl, show (3 + 1 : Int32) = 4 from rfl]
  have hm : fX8_strikesBuoy_216 (if (nI d) < 45 then 0 else 1) (nI w) (nI br) (gw (9 * w)) 0 (nI d) 0 rea det ref 0 ms = (fX8_strokes (upd (upd (upd (upd (upd (upd (upd (upd (upd ms (13 + 9 * w + 3) (nI (br - 1))) (13 + 9 * w + 8) (nI (z + 1))) (13 + 9 * w + 7) (nI (f + 0))) (13 + 9 * w + 6) (nI (g + 0))) 6 (nI (s8 + 1))) 7 (nI (f8 + 0))) 8 (gk 11 + 0)) 2 (nI d)) 3 (gw (9 * w))) (nI d)).bind fun q => some (q.1, 0, rea, det, ref, 0, q.2) := by
    simp only [fX8_strikesBuoy_216, fX8_strikesBuoy_265, fX8_strikesBuoy_300, fX8_strikesBuoy_333, fX8_strikesBuoy_355, fX8_strikesBuoy_383, fX8_strikesBuoy_400, fX8_strikesBuoy_418, fX8_strikesBuoy_436, fX8_strikesBuoy_455, N3, N8, N7, N6, O8, O7, O6, L, f10, t00, if_true, if_false, Option.bind_some, d2, M8, M7, M6, nI_1, v103_2, v103_3, v103_4, v103_5, v103_6, v103_7, v103_8, cl_2, cl_3, cl_4, cl_5, cl_6, cl_7, cl_8, K6, K7, K8, K4, K5, j45, j46, Int32.add_zero, Nat.add_zero, ite_self, tne]
  have R := Rg_k6 (Rg_k5 (Rg_k11 (Rg_k8 (Rg_k7 (Rg_w (Rg_w (Rg_w (Rg_w hR (j := 9 * w + 3) (by omega) (nI (br - 1))) (j := 9 * w + 8) (by omega) (nI (z + 1))) (j := 9 * w + 7) (by omega) (nI (f + 0))) (j := 9 * w + 6) (by omega) (nI (g + 0))) (nI (s8 + 1))) (nI (f8 + 0))) (gk 11 + 0)) (nI d)) (gw (9 * w))
  have R2 : Rg (upd (upd gw (9 * w + 3) (nI (br - 1))) (9 * w + 8) (nI (z + 1))) (upd (upd (upd (upd gk 7 (nI (s8 + 1))) 11 (gk 11 + 0)) 5 (nI d)) 6 (gw (9 * w))) (upd (upd (upd (upd (upd (upd (upd (upd (upd ms (13 + 9 * w + 3) (nI (br - 1))) (13 + 9 * w + 8) (nI (z + 1))) (13 + 9 * w + 7) (nI (f + 0))) (13 + 9 * w + 6) (nI (g + 0))) 6 (nI (s8 + 1))) 7 (nI (f8 + 0))) 8 (gk 11 + 0)) 2 (nI d)) 3 (gw (9 * w))) := Rg_congr R (fun j hj => by first | rfl | (simp only [upd]; grind)) (fun j hj => by first | rfl | (simp only [upd]; grind)) (fun j _ => by first | rfl | (simp only [upd]; grind))
  have K : Vk (upd (upd (upd (upd gk 7 (nI (s8 + 1))) 11 (gk 11 + 0)) 5 (nI d)) 6 (gw (9 * w))) n t (t + 1) d := by
    refine ⟨k1, k2, hd, k4, k5, rfl, ?_, ⟨s8 + 1, by omega, rfl⟩, ⟨f8, by omega, e2⟩, k10, k11⟩
    show gw (9 * w) = -1 ∨ _ = 0 ∨ _ = 1
    rcases (hV.2.2.2.1 w hw).1 with y | y <;> rw [y]
    · exact Or.inr (Or.inl rfl)
    · exact Or.inr (Or.inr rfl)
  obtain ⟨gw', gk', ms', b', p1, p2, p3, p4, p5⟩ := stroke_e R2 K (Vs_8 (Vs_3 V0 hw (b := br - 1) (by omega)) hw (b := z + 1) (by omega)) ht (by omega) (Xn_k6 (Xn_mono (Xn_k5 (Xn_k11 (Xn_s (Xn_c (c := 3) hX (by omega) w (nI (br - 1))) hw (by rw [pk_un (by omega), z2, nI_1]) (by rw [s2, nI_1])) _) _) (Nat.le_succ t)) _) (by omega)
  exact ⟨(nI d), gw', gk', ms', by rw [hc, p1]; rfl, by rw [hm, p2]; rfl, p3, ⟨_, _, _, Nat.le_refl _, p4, p5⟩, BD_nI (by omega)⟩
set_option maxHeartbeats 4000000 in
theorem hit_c01 {gw gk ms : Nat → Int32} {n t b w br z f g s8 f8 : Nat} (hR : Rg gw gk ms) (hV : Vg gw gk n t t b) (hX : Xn gw gk n t) (hw : w < n) (ht : t < 48) (b1 : 1 ≤ br) (b20 : br ≤ 20) (b2 : gw (9 * w + 3) = nI br) (z1 : z ≤ t) (z2 : gw (9 * w + 8) = nI z) (f1 : f ≤ t) (f2 : gw (9 * w + 7) = nI f) (g1 : g ≤ t) (g2 : gw (9 * w + 6) = nI g) (s1 : s8 ≤ t) (s2 : gk 7 = nI s8) (e1 : f8 ≤ t) (e2 : gk 8 = nI f8) (rea det ref : Int32) {d : Nat} (hd : d < 45) : ∃ told gw' gk' ms', fX1_hit gw gk (nI w) (nI d) 1 0 = some (told, gw', gk') ∧ fX8_strikesBuoy_216 (if (nI d) < 45 then 0 else 1) (nI w) (nI br) (gw (9 * w)) 0 (nI d) 0 rea det ref 1 ms = some (told, 0, rea, det, ref, 1, ms') ∧ Rg gw' gk' ms' ∧ Gb n told gw' gk' := by
  have h10 := hV.1.1
  have w10 : w < 10 := by omega
  obtain ⟨k1, k2, k3, k4, k5, k6, k7, k8, k9, k10, k11⟩ := hV.1
  obtain ⟨d1, d2⟩ := dec1 b1
  obtain ⟨em0, em⟩ := e_ms hR w10
  have A0 := fun g => of0 g w10
  have A3 := fun g v => add3 g w10 v
  have A8 := fun g v => add8 g w10 v
  have A7 := fun g v => add7 g w10 v
  have A6 := fun g v => add6 g w10 v
  have N3 := fun g v => mset3 g w10 v
  have N8 := fun g v => mset8 g w10 v
  have N7 := fun g v => mset7 g w10 v
  have N6 := fun g v => mset6 g w10 v
  have O8 := fun g => mof8 g w10
  have O7 := fun g => mof7 g w10
  have O6 := fun g => mof6 g w10
  have U8 : ∀ x, upd gw (9 * w + 3) x (9 * w + 8) = nI z := fun x => by rw [pk_un (by omega)]; exact z2
  have U7 : ∀ x y, upd (upd gw (9 * w + 3) x) (9 * w + 8) y (9 * w + 7) = nI f := fun x y => by rw [pk_un (by omega), pk_un (by omega)]; exact f2
  have U6 : ∀ x y, upd (upd gw (9 * w + 3) x) (9 * w + 8) y (9 * w + 6) = nI g := fun x y => by rw [pk_un (by omega), pk_un (by omega)]; exact g2
  have U0 : ∀ x y, upd (upd gw (9 * w + 3) x) (9 * w + 8) y (9 * w) = gw (9 * w) := fun x y => by rw [pk_un (by omega), pk_un (by omega)]
  have M8 : ∀ x, upd ms (13 + 9 * w + 3) x (13 + 9 * w + 8) = nI z := fun x => by rw [pk_un (by omega), em 8 (by omega)]; exact z2
  have M7 : ∀ x y, upd (upd ms (13 + 9 * w + 3) x) (13 + 9 * w + 8) y (13 + 9 * w + 7) = nI f := fun x y => by rw [pk_un (by omega), pk_un (by omega), em 7 (by omega)]; exact f2
  have M6 : ∀ x y v, upd (upd (upd ms (13 + 9 * w + 3) x) (13 + 9 * w + 8) y) (13 + 9 * w + 7) v (13 + 9 * w + 6) = nI g := fun x y v => by rw [pk_un (by omega), pk_un (by omega), pk_un (by omega), em 6 (by omega)]; exact g2
  have MK : ∀ x y v q k, k < 13 → upd (upd (upd (upd ms (13 + 9 * w + 3) x) (13 + 9 * w + 8) y) (13 + 9 * w + 7) v) (13 + 9 * w + 6) q k = ms k := fun x y v q k hk => by rw [pk_un (by omega), pk_un (by omega), pk_un (by omega), pk_un (by omega)]
  have ms6 : ms 6 = nI s8 := hR.2.2.2.2.2.2.2.1.trans s2
  have ms7 : ms 7 = nI f8 := hR.2.2.2.2.2.2.2.2.1.trans e2
  have ms8 : ms 8 = gk 11 := hR.2.2.2.2.2.2.2.2.2.1
  have ms4 : ms 4 = gk 3 := hR.2.2.2.2.2.1
  have ms5 : ms 5 = gk 4 := hR.2.2.2.2.2.2.1
  have K6 : ∀ x y v q, upd (upd (upd (upd ms (13 + 9 * w + 3) x) (13 + 9 * w + 8) y) (13 + 9 * w + 7) v) (13 + 9 * w + 6) q 6 = nI s8 := fun x y v q => (MK x y v q 6 (by omega)).trans ms6
  have K7 : ∀ x y v q a, upd (upd (upd (upd (upd ms (13 + 9 * w + 3) x) (13 + 9 * w + 8) y) (13 + 9 * w + 7) v) (13 + 9 * w + 6) q) 6 a 7 = nI f8 := fun x y v q a => by rw [pk_un (by omega)]; exact (MK x y v q 7 (by omega)).trans ms7
  have K8 : ∀ x y v q a c, upd (upd (upd (upd (upd (upd ms (13 + 9 * w + 3) x) (13 + 9 * w + 8) y) (13 + 9 * w + 7) v) (13 + 9 * w + 6) q) 6 a) 7 c 8 = gk 11 := fun x y v q a c => by rw [pk_un (by omega), pk_un (by omega)]; exact (MK x y v q 8 (by omega)).trans ms8
  have K4 : ∀ x y v q a c d, upd (upd (upd (upd (upd (upd (upd ms (13 + 9 * w + 3) x) (13 + 9 * w + 8) y) (13 + 9 * w + 7) v) (13 + 9 * w + 6) q) 6 a) 7 c) 8 d 4 = gk 3 := fun x y v q a c d => by rw [pk_un (by omega), pk_un (by omega), pk_un (by omega)]; exact (MK x y v q 4 (by omega)).trans ms4
  have K5 : ∀ x y v q a c d, upd (upd (upd (upd (upd (upd (upd ms (13 + 9 * w + 3) x) (13 + 9 * w + 8) y) (13 + 9 * w + 7) v) (13 + 9 * w + 6) q) 6 a) 7 c) 8 d 5 = gk 4 := fun x y v q a c d => by rw [pk_un (by omega), pk_un (by omega), pk_un (by omega)]; exact (MK x y v q 5 (by omega)).trans ms5
  have G8 : ∀ x, upd gk 7 x 8 = nI f8 := fun x => e2
  have G11a : ∀ x, upd gk 7 x 11 = gk 11 := fun x => rfl
  have G11b : ∀ x y, upd (upd gk 7 x) 8 y 11 = gk 11 := fun x y => rfl
  have G3 : ∀ x y v, upd (upd (upd gk 7 x) 11 y) 5 v 3 = gk 3 := fun x y v => rfl
  have G4 : ∀ x y v, upd (upd (upd gk 7 x) 11 y) 5 v 4 = gk 4 := fun x y v => rfl
  have G5a : ∀ (g : Nat → Int32) x, upd g 5 x 5 = x := fun g x => rfl
  have G5b : ∀ (g : Nat → Int32) x y, upd (upd g 5 x) 6 y 5 = x := fun g x y => rfl
  have V0 := Vs_mono hV.2 (Nat.le_succ t)
  have L := lt45n hd
  have i45 : (3 + (nI 45 - 45) : Int32) = 3 := rfl
  have i46 : (3 + (nI 46 - 45) : Int32) = 4 := rfl
  have j45 : (4 + nI 45 - 45 : Int32) = 4 := rfl
  have j46 : (4 + nI 46 - 45 : Int32) = 5 := rfl
  have l45 : (nI 45 - 45 : Int32) = 0 := rfl
  have l46 : (nI 46 - 45 : Int32) = 1 := rfl
  have tne : (nI d = 45 + gw (9 * w)) = False := eq_false (fun q => by
    rcases (hV.2.2.2.1 w hw).1 with y | y
    · rw [y, show (45 + 0 : Int32) = nI 45 from rfl] at q; have := (nI_eq (by omega) (by omega)).mp q; omega
    · rw [y, show (45 + 1 : Int32) = nI 46 from rfl] at q; have := (nI_eq (by omega) (by omega)).mp q; omega)
  have hc : fX1_hit gw gk (nI w) (nI d) 1 0 = (fX1_endStroke (upd (upd gw (9 * w + 3) (nI (br - 1))) (9 * w + 8) (nI (z + 1))) (upd (upd (upd (upd gk 7 (nI (s8 + 1))) 11 (gk 11 + 1)) 5 (nI d)) 6 (1 - gw (9 * w)))).bind fun q => some ((nI d), q.2.1, q.2.2) := by
    simp only [fX1_hit, fX1_hit_11, fX1_hit_28, fX1_countStrike, fX1_countGoal, fX1_hit_57, fX1_hit_73, fX1_hit_121, fX1_hit_124, fX1_hit_138, A0, A3, A8, A7, A6, L, f10, t00, if_true, if_false, Option.bind_some, b2, d1, U8, U7, U6, U0, nI_1, ca7, ca8, ca11, ca3, ca4, cs5, cs6, ct5, s2, G8, G11a, G11b, G3, G4, G5a, G5b, i45, i46, l45, l46, show (3 + 0 : Int32) = 3 from rfl, show (3 + 1 : Int32) = 4 from rfl]
  have hm : fX8_strikesBuoy_216 (if (nI d) < 45 then 0 else 1) (nI w) (nI br) (gw (9 * w)) 0 (nI d) 0 rea det ref 1 ms = (fX8_strokes (upd (upd (upd (upd (upd (upd (upd (upd (upd ms (13 + 9 * w + 3) (nI (br - 1))) (13 + 9 * w + 8) (nI (z + 1))) (13 + 9 * w + 7) (nI (f + 0))) (13 + 9 * w + 6) (nI (g + 0))) 6 (nI (s8 + 1))) 7 (nI (f8 + 0))) 8 (gk 11 + 1)) 2 (nI d)) 3 (1 - gw (9 * w))) (nI d)).bind fun q => some (q.1, 0, rea, det, ref, 1, q.2) := by
    simp only [fX8_strikesBuoy_216, fX8_strikesBuoy_265, fX8_strikesBuoy_300, fX8_strikesBuoy_333, fX8_strikesBuoy_355, fX8_strikesBuoy_383, fX8_strikesBuoy_400, fX8_strikesBuoy_418, fX8_strikesBuoy_436, fX8_strikesBuoy_455, N3, N8, N7, N6, O8, O7, O6, L, f10, t00, if_true, if_false, Option.bind_some, d2, M8, M7, M6, nI_1, v103_2, v103_3, v103_4, v103_5, v103_6, v103_7, v103_8, cl_2, cl_3, cl_4, cl_5, cl_6, cl_7, cl_8, K6, K7, K8, K4, K5, j45, j46, Int32.add_zero, Nat.add_zero, ite_self, tne]
  have R := Rg_k6 (Rg_k5 (Rg_k11 (Rg_k8 (Rg_k7 (Rg_w (Rg_w (Rg_w (Rg_w hR (j := 9 * w + 3) (by omega) (nI (br - 1))) (j := 9 * w + 8) (by omega) (nI (z + 1))) (j := 9 * w + 7) (by omega) (nI (f + 0))) (j := 9 * w + 6) (by omega) (nI (g + 0))) (nI (s8 + 1))) (nI (f8 + 0))) (gk 11 + 1)) (nI d)) (1 - gw (9 * w))
  have R2 : Rg (upd (upd gw (9 * w + 3) (nI (br - 1))) (9 * w + 8) (nI (z + 1))) (upd (upd (upd (upd gk 7 (nI (s8 + 1))) 11 (gk 11 + 1)) 5 (nI d)) 6 (1 - gw (9 * w))) (upd (upd (upd (upd (upd (upd (upd (upd (upd ms (13 + 9 * w + 3) (nI (br - 1))) (13 + 9 * w + 8) (nI (z + 1))) (13 + 9 * w + 7) (nI (f + 0))) (13 + 9 * w + 6) (nI (g + 0))) 6 (nI (s8 + 1))) 7 (nI (f8 + 0))) 8 (gk 11 + 1)) 2 (nI d)) 3 (1 - gw (9 * w))) := Rg_congr R (fun j hj => by first | rfl | (simp only [upd]; grind)) (fun j hj => by first | rfl | (simp only [upd]; grind)) (fun j _ => by first | rfl | (simp only [upd]; grind))
  have K : Vk (upd (upd (upd (upd gk 7 (nI (s8 + 1))) 11 (gk 11 + 1)) 5 (nI d)) 6 (1 - gw (9 * w))) n t (t + 1) d := by
    refine ⟨k1, k2, hd, k4, k5, rfl, ?_, ⟨s8 + 1, by omega, rfl⟩, ⟨f8, by omega, e2⟩, k10, k11⟩
    show 1 - gw (9 * w) = -1 ∨ _ = 0 ∨ _ = 1
    rcases (hV.2.2.2.1 w hw).1 with y | y <;> rw [y]
    · exact Or.inr (Or.inr rfl)
    · exact Or.inr (Or.inl rfl)
  obtain ⟨gw', gk', ms', b', p1, p2, p3, p4, p5⟩ := stroke_e R2 K (Vs_8 (Vs_3 V0 hw (b := br - 1) (by omega)) hw (b := z + 1) (by omega)) ht (by omega) (Xn_k6 (Xn_mono (Xn_k5 (Xn_k11 (Xn_s (Xn_c (c := 3) hX (by omega) w (nI (br - 1))) hw (by rw [pk_un (by omega), z2, nI_1]) (by rw [s2, nI_1])) _) _) (Nat.le_succ t)) _) (by omega)
  exact ⟨(nI d), gw', gk', ms', by rw [hc, p1]; rfl, by rw [hm, p2]; rfl, p3, ⟨_, _, _, Nat.le_refl _, p4, p5⟩, BD_nI (by omega)⟩
set_option maxHeartbeats 4000000 in
theorem hit_o000 {gw gk ms : Nat → Int32} {n t b w br z f g s8 f8 : Nat} (hR : Rg gw gk ms) (hV : Vg gw gk n t t b) (hX : Xn gw gk n t) (hw : w < n) (ht : t < 48) (b1 : 1 ≤ br) (b20 : br ≤ 20) (b2 : gw (9 * w + 3) = nI br) (z1 : z ≤ t) (z2 : gw (9 * w + 8) = nI z) (f1 : f ≤ t) (f2 : gw (9 * w + 7) = nI f) (g1 : g ≤ t) (g2 : gw (9 * w + 6) = nI g) (s1 : s8 ≤ t) (s2 : gk 7 = nI s8) (e1 : f8 ≤ t) (e2 : gk 8 = nI f8) (rea det ref : Int32) (hT : gw (9 * w) = 0) : ∃ told gw' gk' ms', fX1_hit gw gk (nI w) (nI 45) 0 0 = some (told, gw', gk') ∧ fX8_strikesBuoy_216 (if (nI 45) < 45 then 0 else 1) (nI w) (nI br) (gw (9 * w)) 0 (nI 45) 0 rea det ref 0 ms = some (told, 0, rea, det, ref, 0, ms') ∧ Rg gw' gk' ms' ∧ Gb n told gw' gk' := by
  have h10 := hV.1.1
  have w10 : w < 10 := by omega
  obtain ⟨k1, k2, k3, k4, k5, k6, k7, k8, k9, k10, k11⟩ := hV.1
  obtain ⟨d1, d2⟩ := dec1 b1
  obtain ⟨em0, em⟩ := e_ms hR w10
  have A0 := fun g => of0 g w10
  have A3 := fun g v => add3 g w10 v
  have A8 := fun g v => add8 g w10 v
  have A7 := fun g v => add7 g w10 v
  have A6 := fun g v => add6 g w10 v
  have N3 := fun g v => mset3 g w10 v
  have N8 := fun g v => mset8 g w10 v
  have N7 := fun g v => mset7 g w10 v
  have N6 := fun g v => mset6 g w10 v
  have O8 := fun g => mof8 g w10
  have O7 := fun g => mof7 g w10
  have O6 := fun g => mof6 g w10
  have U8 : ∀ x, upd gw (9 * w + 3) x (9 * w + 8) = nI z := fun x => by rw [pk_un (by omega)]; exact z2
  have U7 : ∀ x y, upd (upd gw (9 * w + 3) x) (9 * w + 8) y (9 * w + 7) = nI f := fun x y => by rw [pk_un (by omega), pk_un (by omega)]; exact f2
  have U6 : ∀ x y, upd (upd gw (9 * w + 3) x) (9 * w + 8) y (9 * w + 6) = nI g := fun x y => by rw [pk_un (by omega), pk_un (by omega)]; exact g2
  have U0 : ∀ x y, upd (upd gw (9 * w + 3) x) (9 * w + 8) y (9 * w) = gw (9 * w) := fun x y => by rw [pk_un (by omega), pk_un (by omega)]
  have M8 : ∀ x, upd ms (13 + 9 * w + 3) x (13 + 9 * w + 8) = nI z := fun x => by rw [pk_un (by omega), em 8 (by omega)]; exact z2
  have M7 : ∀ x y, upd (upd ms (13 + 9 * w + 3) x) (13 + 9 * w + 8) y (13 + 9 * w + 7) = nI f := fun x y => by rw [pk_un (by omega), pk_un (by omega), em 7 (by omega)]; exact f2
  have M6 : ∀ x y v, upd (upd (upd ms (13 + 9 * w + 3) x) (13 + 9 * w + 8) y) (13 + 9 * w + 7) v (13 + 9 * w + 6) = nI g := fun x y v => by rw [pk_un (by omega), pk_un (by omega), pk_un (by omega), em 6 (by omega)]; exact g2
  have MK : ∀ x y v q k, k < 13 → upd (upd (upd (upd ms (13 + 9 * w + 3) x) (13 + 9 * w + 8) y) (13 + 9 * w + 7) v) (13 + 9 * w + 6) q k = ms k := fun x y v q k hk => by rw [pk_un (by omega), pk_un (by omega), pk_un (by omega), pk_un (by omega)]
  have ms6 : ms 6 = nI s8 := hR.2.2.2.2.2.2.2.1.trans s2
  have ms7 : ms 7 = nI f8 := hR.2.2.2.2.2.2.2.2.1.trans e2
  have ms8 : ms 8 = gk 11 := hR.2.2.2.2.2.2.2.2.2.1
  have ms4 : ms 4 = gk 3 := hR.2.2.2.2.2.1
  have ms5 : ms 5 = gk 4 := hR.2.2.2.2.2.2.1
  have K6 : ∀ x y v q, upd (upd (upd (upd ms (13 + 9 * w + 3) x) (13 + 9 * w + 8) y) (13 + 9 * w + 7) v) (13 + 9 * w + 6) q 6 = nI s8 := fun x y v q => (MK x y v q 6 (by omega)).trans ms6
  have K7 : ∀ x y v q a, upd (upd (upd (upd (upd ms (13 + 9 * w + 3) x) (13 + 9 * w + 8) y) (13 + 9 * w + 7) v) (13 + 9 * w + 6) q) 6 a 7 = nI f8 := fun x y v q a => by rw [pk_un (by omega)]; exact (MK x y v q 7 (by omega)).trans ms7
  have K8 : ∀ x y v q a c, upd (upd (upd (upd (upd (upd ms (13 + 9 * w + 3) x) (13 + 9 * w + 8) y) (13 + 9 * w + 7) v) (13 + 9 * w + 6) q) 6 a) 7 c 8 = gk 11 := fun x y v q a c => by rw [pk_un (by omega), pk_un (by omega)]; exact (MK x y v q 8 (by omega)).trans ms8
  have K4 : ∀ x y v q a c d, upd (upd (upd (upd (upd (upd (upd ms (13 + 9 * w + 3) x) (13 + 9 * w + 8) y) (13 + 9 * w + 7) v) (13 + 9 * w + 6) q) 6 a) 7 c) 8 d 4 = gk 3 := fun x y v q a c d => by rw [pk_un (by omega), pk_un (by omega), pk_un (by omega)]; exact (MK x y v q 4 (by omega)).trans ms4
  have K5 : ∀ x y v q a c d, upd (upd (upd (upd (upd (upd (upd ms (13 + 9 * w + 3) x) (13 + 9 * w + 8) y) (13 + 9 * w + 7) v) (13 + 9 * w + 6) q) 6 a) 7 c) 8 d 5 = gk 4 := fun x y v q a c d => by rw [pk_un (by omega), pk_un (by omega), pk_un (by omega)]; exact (MK x y v q 5 (by omega)).trans ms5
  have G8 : ∀ x, upd gk 7 x 8 = nI f8 := fun x => e2
  have G11a : ∀ x, upd gk 7 x 11 = gk 11 := fun x => rfl
  have G11b : ∀ x y, upd (upd gk 7 x) 8 y 11 = gk 11 := fun x y => rfl
  have G3 : ∀ x y v, upd (upd (upd gk 7 x) 11 y) 5 v 3 = gk 3 := fun x y v => rfl
  have G4 : ∀ x y v, upd (upd (upd gk 7 x) 11 y) 5 v 4 = gk 4 := fun x y v => rfl
  have G5a : ∀ (g : Nat → Int32) x, upd g 5 x 5 = x := fun g x => rfl
  have G5b : ∀ (g : Nat → Int32) x y, upd (upd g 5 x) 6 y 5 = x := fun g x y => rfl
  have V0 := Vs_mono hV.2 (Nat.le_succ t)
  have L := ge45a
  have i45 : (3 + (nI 45 - 45) : Int32) = 3 := rfl
  have i46 : (3 + (nI 46 - 45) : Int32) = 4 := rfl
  have j45 : (4 + nI 45 - 45 : Int32) = 4 := rfl
  have j46 : (4 + nI 46 - 45 : Int32) = 5 := rfl
  have l45 : (nI 45 - 45 : Int32) = 0 := rfl
  have l46 : (nI 46 - 45 : Int32) = 1 := rfl
  have TT : gw (9 * w) = 0 := hT
  have hc : fX1_hit gw gk (nI w) (nI 45) 0 0 = (fX1_endStroke (upd (upd (upd gw (9 * w + 3) (nI (br - 1))) (9 * w + 8) (nI (z + 1))) (9 * w + 6) (nI (g + 1))) (upd (upd (upd (upd (upd gk 7 (nI (s8 + 1))) 11 (gk 11 + 0)) 5 22) 3 (gk 3 + 1)) 6 (-1))).bind fun q => some ((nI 45), q.2.1, q.2.2) := by
    simp only [fX1_hit, fX1_hit_11, fX1_hit_28, fX1_countStrike, fX1_countGoal, fX1_hit_57, fX1_hit_73, fX1_hit_121, fX1_hit_124, fX1_hit_138, A0, A3, A8, A7, A6, L, f10, t00, if_true, if_false, Option.bind_some, b2, d1, U8, U7, U6, U0, nI_1, ca7, ca8, ca11, ca3, ca4, cs5, cs6, ct5, s2, G8, G11a, G11b, G3, G4, G5a, G5b, i45, i46, l45, l46, show (3 + 0 : Int32) = 3 from rfl, show (3 + 1 : Int32) = 4 from rfl, TT, t00, show ((1 : Int32) = 1) = True from eq_true rfl]
  have hm : fX8_strikesBuoy_216 (if (nI 45) < 45 then 0 else 1) (nI w) (nI br) (gw (9 * w)) 0 (nI 45) 0 rea det ref 0 ms = (fX8_strokes (upd (upd (upd (upd (upd (upd (upd (upd (upd (upd ms (13 + 9 * w + 3) (nI (br - 1))) (13 + 9 * w + 8) (nI (z + 1))) (13 + 9 * w + 7) (nI (f + 0))) (13 + 9 * w + 6) (nI (g + 1))) 6 (nI (s8 + 1))) 7 (nI (f8 + 0))) 8 (gk 11 + 0)) 4 (gk 3 + 1)) 2 22) 3 (-1)) (nI 45)).bind fun q => some (q.1, 0, rea, det, ref, 0, q.2) := by
    simp only [fX8_strikesBuoy_216, fX8_strikesBuoy_265, fX8_strikesBuoy_300, fX8_strikesBuoy_333, fX8_strikesBuoy_355, fX8_strikesBuoy_383, fX8_strikesBuoy_400, fX8_strikesBuoy_418, fX8_strikesBuoy_436, fX8_strikesBuoy_455, N3, N8, N7, N6, O8, O7, O6, L, f10, t00, if_true, if_false, Option.bind_some, d2, M8, M7, M6, nI_1, v103_2, v103_3, v103_4, v103_5, v103_6, v103_7, v103_8, cl_2, cl_3, cl_4, cl_5, cl_6, cl_7, cl_8, K6, K7, K8, K4, K5, j45, j46, Int32.add_zero, Nat.add_zero, ite_self, TT, show (nI 45 = 45 + 0) = True from eq_true rfl, show (nI 45 = 45) = True from eq_true rfl]
  have R := Rg_k6 (Rg_k5 (Rg_k3 (Rg_k11 (Rg_k8 (Rg_k7 (Rg_w (Rg_w (Rg_w (Rg_w hR (j := 9 * w + 3) (by omega) (nI (br - 1))) (j := 9 * w + 8) (by omega) (nI (z + 1))) (j := 9 * w + 7) (by omega) (nI (f + 0))) (j := 9 * w + 6) (by omega) (nI (g + 1))) (nI (s8 + 1))) (nI (f8 + 0))) (gk 11 + 0)) (gk 3 + 1)) 22) (-1)
  have R2 : Rg (upd (upd (upd gw (9 * w + 3) (nI (br - 1))) (9 * w + 8) (nI (z + 1))) (9 * w + 6) (nI (g + 1))) (upd (upd (upd (upd (upd gk 7 (nI (s8 + 1))) 11 (gk 11 + 0)) 5 22) 3 (gk 3 + 1)) 6 (-1)) (upd (upd (upd (upd (upd (upd (upd (upd (upd (upd ms (13 + 9 * w + 3) (nI (br - 1))) (13 + 9 * w + 8) (nI (z + 1))) (13 + 9 * w + 7) (nI (f + 0))) (13 + 9 * w + 6) (nI (g + 1))) 6 (nI (s8 + 1))) 7 (nI (f8 + 0))) 8 (gk 11 + 0)) 4 (gk 3 + 1)) 2 22) 3 (-1)) := Rg_congr R (fun j hj => by first | rfl | (simp only [upd]; grind)) (fun j hj => by first | rfl | (simp only [upd]; grind)) (fun j _ => by first | rfl | (simp only [upd]; grind))
  have K : Vk (upd (upd (upd (upd (upd gk 7 (nI (s8 + 1))) 11 (gk 11 + 0)) 5 22) 3 (gk 3 + 1)) 6 (-1)) n t (t + 1) 22 := by
    refine ⟨k1, k2, by omega, k4, k5, rfl, ?_, ⟨s8 + 1, by omega, rfl⟩, ⟨f8, by omega, e2⟩, k10, k11⟩
    exact Or.inl rfl
  obtain ⟨gw', gk', ms', b', p1, p2, p3, p4, p5⟩ := stroke_e R2 K (Vs_6 (Vs_8 (Vs_3 V0 hw (b := br - 1) (by omega)) hw (b := z + 1) (by omega)) hw (b := g + 1) (by omega)) ht (by omega) (Xn_k6 (Xn_o3 (Xn_k5 (Xn_k11 (Xn_s (Xn_c (c := 3) hX (by omega) w (nI (br - 1))) hw (by rw [pk_un (by omega), z2, nI_1]) (by rw [s2, nI_1])) _) _) hw (by rw [pk_un (by omega), pk_un (by omega), g2, nI_1])) _) (by omega)
  exact ⟨(nI 45), gw', gk', ms', by rw [hc, p1]; rfl, by rw [hm, p2]; rfl, p3, ⟨_, _, _, Nat.le_refl _, p4, p5⟩, by exact ⟨by decide, by decide⟩⟩
set_option maxHeartbeats 4000000 in
theorem hit_o001 {gw gk ms : Nat → Int32} {n t b w br z f g s8 f8 : Nat} (hR : Rg gw gk ms) (hV : Vg gw gk n t t b) (hX : Xn gw gk n t) (hw : w < n) (ht : t < 48) (b1 : 1 ≤ br) (b20 : br ≤ 20) (b2 : gw (9 * w + 3) = nI br) (z1 : z ≤ t) (z2 : gw (9 * w + 8) = nI z) (f1 : f ≤ t) (f2 : gw (9 * w + 7) = nI f) (g1 : g ≤ t) (g2 : gw (9 * w + 6) = nI g) (s1 : s8 ≤ t) (s2 : gk 7 = nI s8) (e1 : f8 ≤ t) (e2 : gk 8 = nI f8) (rea det ref : Int32) (hT : gw (9 * w) = 1) : ∃ told gw' gk' ms', fX1_hit gw gk (nI w) (nI 45) 0 0 = some (told, gw', gk') ∧ fX8_strikesBuoy_216 (if (nI 45) < 45 then 0 else 1) (nI w) (nI br) (gw (9 * w)) 0 (nI 45) 0 rea det ref 0 ms = some (told, 0, rea, det, ref, 0, ms') ∧ Rg gw' gk' ms' ∧ Gb n told gw' gk' := by
  have h10 := hV.1.1
  have w10 : w < 10 := by omega
  obtain ⟨k1, k2, k3, k4, k5, k6, k7, k8, k9, k10, k11⟩ := hV.1
  obtain ⟨d1, d2⟩ := dec1 b1
  obtain ⟨em0, em⟩ := e_ms hR w10
  have A0 := fun g => of0 g w10
  have A3 := fun g v => add3 g w10 v
  have A8 := fun g v => add8 g w10 v
  have A7 := fun g v => add7 g w10 v
  have A6 := fun g v => add6 g w10 v
  have N3 := fun g v => mset3 g w10 v
  have N8 := fun g v => mset8 g w10 v
  have N7 := fun g v => mset7 g w10 v
  have N6 := fun g v => mset6 g w10 v
  have O8 := fun g => mof8 g w10
  have O7 := fun g => mof7 g w10
  have O6 := fun g => mof6 g w10
  have U8 : ∀ x, upd gw (9 * w + 3) x (9 * w + 8) = nI z := fun x => by rw [pk_un (by omega)]; exact z2
  have U7 : ∀ x y, upd (upd gw (9 * w + 3) x) (9 * w + 8) y (9 * w + 7) = nI f := fun x y => by rw [pk_un (by omega), pk_un (by omega)]; exact f2
  have U6 : ∀ x y, upd (upd gw (9 * w + 3) x) (9 * w + 8) y (9 * w + 6) = nI g := fun x y => by rw [pk_un (by omega), pk_un (by omega)]; exact g2
  have U0 : ∀ x y, upd (upd gw (9 * w + 3) x) (9 * w + 8) y (9 * w) = gw (9 * w) := fun x y => by rw [pk_un (by omega), pk_un (by omega)]
  have M8 : ∀ x, upd ms (13 + 9 * w + 3) x (13 + 9 * w + 8) = nI z := fun x => by rw [pk_un (by omega), em 8 (by omega)]; exact z2
  have M7 : ∀ x y, upd (upd ms (13 + 9 * w + 3) x) (13 + 9 * w + 8) y (13 + 9 * w + 7) = nI f := fun x y => by rw [pk_un (by omega), pk_un (by omega), em 7 (by omega)]; exact f2
  have M6 : ∀ x y v, upd (upd (upd ms (13 + 9 * w + 3) x) (13 + 9 * w + 8) y) (13 + 9 * w + 7) v (13 + 9 * w + 6) = nI g := fun x y v => by rw [pk_un (by omega), pk_un (by omega), pk_un (by omega), em 6 (by omega)]; exact g2
  have MK : ∀ x y v q k, k < 13 → upd (upd (upd (upd ms (13 + 9 * w + 3) x) (13 + 9 * w + 8) y) (13 + 9 * w + 7) v) (13 + 9 * w + 6) q k = ms k := fun x y v q k hk => by rw [pk_un (by omega), pk_un (by omega), pk_un (by omega), pk_un (by omega)]
  have ms6 : ms 6 = nI s8 := hR.2.2.2.2.2.2.2.1.trans s2
  have ms7 : ms 7 = nI f8 := hR.2.2.2.2.2.2.2.2.1.trans e2
  have ms8 : ms 8 = gk 11 := hR.2.2.2.2.2.2.2.2.2.1
  have ms4 : ms 4 = gk 3 := hR.2.2.2.2.2.1
  have ms5 : ms 5 = gk 4 := hR.2.2.2.2.2.2.1
  have K6 : ∀ x y v q, upd (upd (upd (upd ms (13 + 9 * w + 3) x) (13 + 9 * w + 8) y) (13 + 9 * w + 7) v) (13 + 9 * w + 6) q 6 = nI s8 := fun x y v q => (MK x y v q 6 (by omega)).trans ms6
  have K7 : ∀ x y v q a, upd (upd (upd (upd (upd ms (13 + 9 * w + 3) x) (13 + 9 * w + 8) y) (13 + 9 * w + 7) v) (13 + 9 * w + 6) q) 6 a 7 = nI f8 := fun x y v q a => by rw [pk_un (by omega)]; exact (MK x y v q 7 (by omega)).trans ms7
  have K8 : ∀ x y v q a c, upd (upd (upd (upd (upd (upd ms (13 + 9 * w + 3) x) (13 + 9 * w + 8) y) (13 + 9 * w + 7) v) (13 + 9 * w + 6) q) 6 a) 7 c 8 = gk 11 := fun x y v q a c => by rw [pk_un (by omega), pk_un (by omega)]; exact (MK x y v q 8 (by omega)).trans ms8
  have K4 : ∀ x y v q a c d, upd (upd (upd (upd (upd (upd (upd ms (13 + 9 * w + 3) x) (13 + 9 * w + 8) y) (13 + 9 * w + 7) v) (13 + 9 * w + 6) q) 6 a) 7 c) 8 d 4 = gk 3 := fun x y v q a c d => by rw [pk_un (by omega), pk_un (by omega), pk_un (by omega)]; exact (MK x y v q 4 (by omega)).trans ms4
  have K5 : ∀ x y v q a c d, upd (upd (upd (upd (upd (upd (upd ms (13 + 9 * w + 3) x) (13 + 9 * w + 8) y) (13 + 9 * w + 7) v) (13 + 9 * w + 6) q) 6 a) 7 c) 8 d 5 = gk 4 := fun x y v q a c d => by rw [pk_un (by omega), pk_un (by omega), pk_un (by omega)]; exact (MK x y v q 5 (by omega)).trans ms5
  have G8 : ∀ x, upd gk 7 x 8 = nI f8 := fun x => e2
  have G11a : ∀ x, upd gk 7 x 11 = gk 11 := fun x => rfl
  have G11b : ∀ x y, upd (upd gk 7 x) 8 y 11 = gk 11 := fun x y => rfl
  have G3 : ∀ x y v, upd (upd (upd gk 7 x) 11 y) 5 v 3 = gk 3 := fun x y v => rfl
  have G4 : ∀ x y v, upd (upd (upd gk 7 x) 11 y) 5 v 4 = gk 4 := fun x y v => rfl
  have G5a : ∀ (g : Nat → Int32) x, upd g 5 x 5 = x := fun g x => rfl
  have G5b : ∀ (g : Nat → Int32) x y, upd (upd g 5 x) 6 y 5 = x := fun g x y => rfl
  have V0 := Vs_mono hV.2 (Nat.le_succ t)
  have L := ge45a
  have i45 : (3 + (nI 45 - 45) : Int32) = 3 := rfl
  have i46 : (3 + (nI 46 - 45) : Int32) = 4 := rfl
  have j45 : (4 + nI 45 - 45 : Int32) = 4 := rfl
  have j46 : (4 + nI 46 - 45 : Int32) = 5 := rfl
  have l45 : (nI 45 - 45 : Int32) = 0 := rfl
  have l46 : (nI 46 - 45 : Int32) = 1 := rfl
  have TT : gw (9 * w) = 1 := hT
  have hc : fX1_hit gw gk (nI w) (nI 45) 0 0 = (fX1_endStroke (upd (upd gw (9 * w + 3) (nI (br - 1))) (9 * w + 8) (nI (z + 1))) (upd (upd (upd (upd (upd gk 7 (nI (s8 + 1))) 11 (gk 11 + 0)) 5 22) 3 (gk 3 + 1)) 6 (-1))).bind fun q => some ((nI 45), q.2.1, q.2.2) := by
    simp only [fX1_hit, fX1_hit_11, fX1_hit_28, fX1_countStrike, fX1_countGoal, fX1_hit_57, fX1_hit_73, fX1_hit_121, fX1_hit_124, fX1_hit_138, A0, A3, A8, A7, A6, L, f10, t00, if_true, if_false, Option.bind_some, b2, d1, U8, U7, U6, U0, nI_1, ca7, ca8, ca11, ca3, ca4, cs5, cs6, ct5, s2, G8, G11a, G11b, G3, G4, G5a, G5b, i45, i46, l45, l46, show (3 + 0 : Int32) = 3 from rfl, show (3 + 1 : Int32) = 4 from rfl, TT, show ((1 : Int32) = 0) = False from eq_false (by decide)]
  have hm : fX8_strikesBuoy_216 (if (nI 45) < 45 then 0 else 1) (nI w) (nI br) (gw (9 * w)) 0 (nI 45) 0 rea det ref 0 ms = (fX8_strokes (upd (upd (upd (upd (upd (upd (upd (upd (upd (upd ms (13 + 9 * w + 3) (nI (br - 1))) (13 + 9 * w + 8) (nI (z + 1))) (13 + 9 * w + 7) (nI (f + 0))) (13 + 9 * w + 6) (nI (g + 0))) 6 (nI (s8 + 1))) 7 (nI (f8 + 0))) 8 (gk 11 + 0)) 4 (gk 3 + 1)) 2 22) 3 (-1)) (nI 45)).bind fun q => some (q.1, 0, rea, det, ref, 0, q.2) := by
    simp only [fX8_strikesBuoy_216, fX8_strikesBuoy_265, fX8_strikesBuoy_300, fX8_strikesBuoy_333, fX8_strikesBuoy_355, fX8_strikesBuoy_383, fX8_strikesBuoy_400, fX8_strikesBuoy_418, fX8_strikesBuoy_436, fX8_strikesBuoy_455, N3, N8, N7, N6, O8, O7, O6, L, f10, t00, if_true, if_false, Option.bind_some, d2, M8, M7, M6, nI_1, v103_2, v103_3, v103_4, v103_5, v103_6, v103_7, v103_8, cl_2, cl_3, cl_4, cl_5, cl_6, cl_7, cl_8, K6, K7, K8, K4, K5, j45, j46, Int32.add_zero, Nat.add_zero, ite_self, TT, show (nI 45 = 45 + 1) = False from eq_false (by decide)]
  have R := Rg_k6 (Rg_k5 (Rg_k3 (Rg_k11 (Rg_k8 (Rg_k7 (Rg_w (Rg_w (Rg_w (Rg_w hR (j := 9 * w + 3) (by omega) (nI (br - 1))) (j := 9 * w + 8) (by omega) (nI (z + 1))) (j := 9 * w + 7) (by omega) (nI (f + 0))) (j := 9 * w + 6) (by omega) (nI (g + 0))) (nI (s8 + 1))) (nI (f8 + 0))) (gk 11 + 0)) (gk 3 + 1)) 22) (-1)
  have R2 : Rg (upd (upd gw (9 * w + 3) (nI (br - 1))) (9 * w + 8) (nI (z + 1))) (upd (upd (upd (upd (upd gk 7 (nI (s8 + 1))) 11 (gk 11 + 0)) 5 22) 3 (gk 3 + 1)) 6 (-1)) (upd (upd (upd (upd (upd (upd (upd (upd (upd (upd ms (13 + 9 * w + 3) (nI (br - 1))) (13 + 9 * w + 8) (nI (z + 1))) (13 + 9 * w + 7) (nI (f + 0))) (13 + 9 * w + 6) (nI (g + 0))) 6 (nI (s8 + 1))) 7 (nI (f8 + 0))) 8 (gk 11 + 0)) 4 (gk 3 + 1)) 2 22) 3 (-1)) := Rg_congr R (fun j hj => by first | rfl | (simp only [upd]; grind)) (fun j hj => by first | rfl | (simp only [upd]; grind)) (fun j _ => by first | rfl | (simp only [upd]; grind))
  have K : Vk (upd (upd (upd (upd (upd gk 7 (nI (s8 + 1))) 11 (gk 11 + 0)) 5 22) 3 (gk 3 + 1)) 6 (-1)) n t (t + 1) 22 := by
    refine ⟨k1, k2, by omega, k4, k5, rfl, ?_, ⟨s8 + 1, by omega, rfl⟩, ⟨f8, by omega, e2⟩, k10, k11⟩
    exact Or.inl rfl
  obtain ⟨gw', gk', ms', b', p1, p2, p3, p4, p5⟩ := stroke_e R2 K (Vs_8 (Vs_3 V0 hw (b := br - 1) (by omega)) hw (b := z + 1) (by omega)) ht (by omega) (Xn_k6 (Xn_g3 (Xn_k5 (Xn_k11 (Xn_s (Xn_c (c := 3) hX (by omega) w (nI (br - 1))) hw (by rw [pk_un (by omega), z2, nI_1]) (by rw [s2, nI_1])) _) _)) _) (by omega)
  exact ⟨(nI 45), gw', gk', ms', by rw [hc, p1]; rfl, by rw [hm, p2]; rfl, p3, ⟨_, _, _, Nat.le_refl _, p4, p5⟩, by exact ⟨by decide, by decide⟩⟩
set_option maxHeartbeats 4000000 in
theorem hit_o010 {gw gk ms : Nat → Int32} {n t b w br z f g s8 f8 : Nat} (hR : Rg gw gk ms) (hV : Vg gw gk n t t b) (hX : Xn gw gk n t) (hw : w < n) (ht : t < 48) (b1 : 1 ≤ br) (b20 : br ≤ 20) (b2 : gw (9 * w + 3) = nI br) (z1 : z ≤ t) (z2 : gw (9 * w + 8) = nI z) (f1 : f ≤ t) (f2 : gw (9 * w + 7) = nI f) (g1 : g ≤ t) (g2 : gw (9 * w + 6) = nI g) (s1 : s8 ≤ t) (s2 : gk 7 = nI s8) (e1 : f8 ≤ t) (e2 : gk 8 = nI f8) (rea det ref : Int32) (hT : gw (9 * w) = 0) : ∃ told gw' gk' ms', fX1_hit gw gk (nI w) (nI 46) 0 0 = some (told, gw', gk') ∧ fX8_strikesBuoy_216 (if (nI 46) < 45 then 0 else 1) (nI w) (nI br) (gw (9 * w)) 0 (nI 46) 0 rea det ref 0 ms = some (told, 0, rea, det, ref, 0, ms') ∧ Rg gw' gk' ms' ∧ Gb n told gw' gk' := by
  have h10 := hV.1.1
  have w10 : w < 10 := by omega
  obtain ⟨k1, k2, k3, k4, k5, k6, k7, k8, k9, k10, k11⟩ := hV.1
  obtain ⟨d1, d2⟩ := dec1 b1
  obtain ⟨em0, em⟩ := e_ms hR w10
  have A0 := fun g => of0 g w10
  have A3 := fun g v => add3 g w10 v
  have A8 := fun g v => add8 g w10 v
  have A7 := fun g v => add7 g w10 v
  have A6 := fun g v => add6 g w10 v
  have N3 := fun g v => mset3 g w10 v
  have N8 := fun g v => mset8 g w10 v
  have N7 := fun g v => mset7 g w10 v
  have N6 := fun g v => mset6 g w10 v
  have O8 := fun g => mof8 g w10
  have O7 := fun g => mof7 g w10
  have O6 := fun g => mof6 g w10
  have U8 : ∀ x, upd gw (9 * w + 3) x (9 * w + 8) = nI z := fun x => by rw [pk_un (by omega)]; exact z2
  have U7 : ∀ x y, upd (upd gw (9 * w + 3) x) (9 * w + 8) y (9 * w + 7) = nI f := fun x y => by rw [pk_un (by omega), pk_un (by omega)]; exact f2
  have U6 : ∀ x y, upd (upd gw (9 * w + 3) x) (9 * w + 8) y (9 * w + 6) = nI g := fun x y => by rw [pk_un (by omega), pk_un (by omega)]; exact g2
  have U0 : ∀ x y, upd (upd gw (9 * w + 3) x) (9 * w + 8) y (9 * w) = gw (9 * w) := fun x y => by rw [pk_un (by omega), pk_un (by omega)]
  have M8 : ∀ x, upd ms (13 + 9 * w + 3) x (13 + 9 * w + 8) = nI z := fun x => by rw [pk_un (by omega), em 8 (by omega)]; exact z2
  have M7 : ∀ x y, upd (upd ms (13 + 9 * w + 3) x) (13 + 9 * w + 8) y (13 + 9 * w + 7) = nI f := fun x y => by rw [pk_un (by omega), pk_un (by omega), em 7 (by omega)]; exact f2
  have M6 : ∀ x y v, upd (upd (upd ms (13 + 9 * w + 3) x) (13 + 9 * w + 8) y) (13 + 9 * w + 7) v (13 + 9 * w + 6) = nI g := fun x y v => by rw [pk_un (by omega), pk_un (by omega), pk_un (by omega), em 6 (by omega)]; exact g2
  have MK : ∀ x y v q k, k < 13 → upd (upd (upd (upd ms (13 + 9 * w + 3) x) (13 + 9 * w + 8) y) (13 + 9 * w + 7) v) (13 + 9 * w + 6) q k = ms k := fun x y v q k hk => by rw [pk_un (by omega), pk_un (by omega), pk_un (by omega), pk_un (by omega)]
  have ms6 : ms 6 = nI s8 := hR.2.2.2.2.2.2.2.1.trans s2
  have ms7 : ms 7 = nI f8 := hR.2.2.2.2.2.2.2.2.1.trans e2
  have ms8 : ms 8 = gk 11 := hR.2.2.2.2.2.2.2.2.2.1
  have ms4 : ms 4 = gk 3 := hR.2.2.2.2.2.1
  have ms5 : ms 5 = gk 4 := hR.2.2.2.2.2.2.1
  have K6 : ∀ x y v q, upd (upd (upd (upd ms (13 + 9 * w + 3) x) (13 + 9 * w + 8) y) (13 + 9 * w + 7) v) (13 + 9 * w + 6) q 6 = nI s8 := fun x y v q => (MK x y v q 6 (by omega)).trans ms6
  have K7 : ∀ x y v q a, upd (upd (upd (upd (upd ms (13 + 9 * w + 3) x) (13 + 9 * w + 8) y) (13 + 9 * w + 7) v) (13 + 9 * w + 6) q) 6 a 7 = nI f8 := fun x y v q a => by rw [pk_un (by omega)]; exact (MK x y v q 7 (by omega)).trans ms7
  have K8 : ∀ x y v q a c, upd (upd (upd (upd (upd (upd ms (13 + 9 * w + 3) x) (13 + 9 * w + 8) y) (13 + 9 * w + 7) v) (13 + 9 * w + 6) q) 6 a) 7 c 8 = gk 11 := fun x y v q a c => by rw [pk_un (by omega), pk_un (by omega)]; exact (MK x y v q 8 (by omega)).trans ms8
  have K4 : ∀ x y v q a c d, upd (upd (upd (upd (upd (upd (upd ms (13 + 9 * w + 3) x) (13 + 9 * w + 8) y) (13 + 9 * w + 7) v) (13 + 9 * w + 6) q) 6 a) 7 c) 8 d 4 = gk 3 := fun x y v q a c d => by rw [pk_un (by omega), pk_un (by omega), pk_un (by omega)]; exact (MK x y v q 4 (by omega)).trans ms4
  have K5 : ∀ x y v q a c d, upd (upd (upd (upd (upd (upd (upd ms (13 + 9 * w + 3) x) (13 + 9 * w + 8) y) (13 + 9 * w + 7) v) (13 + 9 * w + 6) q) 6 a) 7 c) 8 d 5 = gk 4 := fun x y v q a c d => by rw [pk_un (by omega), pk_un (by omega), pk_un (by omega)]; exact (MK x y v q 5 (by omega)).trans ms5
  have G8 : ∀ x, upd gk 7 x 8 = nI f8 := fun x => e2
  have G11a : ∀ x, upd gk 7 x 11 = gk 11 := fun x => rfl
  have G11b : ∀ x y, upd (upd gk 7 x) 8 y 11 = gk 11 := fun x y => rfl
  have G3 : ∀ x y v, upd (upd (upd gk 7 x) 11 y) 5 v 3 = gk 3 := fun x y v => rfl
  have G4 : ∀ x y v, upd (upd (upd gk 7 x) 11 y) 5 v 4 = gk 4 := fun x y v => rfl
  have G5a : ∀ (g : Nat → Int32) x, upd g 5 x 5 = x := fun g x => rfl
  have G5b : ∀ (g : Nat → Int32) x y, upd (upd g 5 x) 6 y 5 = x := fun g x y => rfl
  have V0 := Vs_mono hV.2 (Nat.le_succ t)
  have L := ge45b
  have i45 : (3 + (nI 45 - 45) : Int32) = 3 := rfl
  have i46 : (3 + (nI 46 - 45) : Int32) = 4 := rfl
  have j45 : (4 + nI 45 - 45 : Int32) = 4 := rfl
  have j46 : (4 + nI 46 - 45 : Int32) = 5 := rfl
  have l45 : (nI 45 - 45 : Int32) = 0 := rfl
  have l46 : (nI 46 - 45 : Int32) = 1 := rfl
  have TT : gw (9 * w) = 0 := hT
  have hc : fX1_hit gw gk (nI w) (nI 46) 0 0 = (fX1_endStroke (upd (upd gw (9 * w + 3) (nI (br - 1))) (9 * w + 8) (nI (z + 1))) (upd (upd (upd (upd (upd gk 7 (nI (s8 + 1))) 11 (gk 11 + 0)) 5 22) 4 (gk 4 + 1)) 6 (-1))).bind fun q => some ((nI 46), q.2.1, q.2.2) := by
    simp only [fX1_hit, fX1_hit_11, fX1_hit_28, fX1_countStrike, fX1_countGoal, fX1_hit_57, fX1_hit_73, fX1_hit_121, fX1_hit_124, fX1_hit_138, A0, A3, A8, A7, A6, L, f10, t00, if_true, if_false, Option.bind_some, b2, d1, U8, U7, U6, U0, nI_1, ca7, ca8, ca11, ca3, ca4, cs5, cs6, ct5, s2, G8, G11a, G11b, G3, G4, G5a, G5b, i45, i46, l45, l46, show (3 + 0 : Int32) = 3 from rfl, show (3 + 1 : Int32) = 4 from rfl, TT, show ((0 : Int32) = 1) = False from eq_false (by decide)]
  have hm : fX8_strikesBuoy_216 (if (nI 46) < 45 then 0 else 1) (nI w) (nI br) (gw (9 * w)) 0 (nI 46) 0 rea det ref 0 ms = (fX8_strokes (upd (upd (upd (upd (upd (upd (upd (upd (upd (upd ms (13 + 9 * w + 3) (nI (br - 1))) (13 + 9 * w + 8) (nI (z + 1))) (13 + 9 * w + 7) (nI (f + 0))) (13 + 9 * w + 6) (nI (g + 0))) 6 (nI (s8 + 1))) 7 (nI (f8 + 0))) 8 (gk 11 + 0)) 5 (gk 4 + 1)) 2 22) 3 (-1)) (nI 46)).bind fun q => some (q.1, 0, rea, det, ref, 0, q.2) := by
    simp only [fX8_strikesBuoy_216, fX8_strikesBuoy_265, fX8_strikesBuoy_300, fX8_strikesBuoy_333, fX8_strikesBuoy_355, fX8_strikesBuoy_383, fX8_strikesBuoy_400, fX8_strikesBuoy_418, fX8_strikesBuoy_436, fX8_strikesBuoy_455, N3, N8, N7, N6, O8, O7, O6, L, f10, t00, if_true, if_false, Option.bind_some, d2, M8, M7, M6, nI_1, v103_2, v103_3, v103_4, v103_5, v103_6, v103_7, v103_8, cl_2, cl_3, cl_4, cl_5, cl_6, cl_7, cl_8, K6, K7, K8, K4, K5, j45, j46, Int32.add_zero, Nat.add_zero, ite_self, TT, show (nI 46 = 45 + 0) = False from eq_false (by decide), show (nI 46 = 45) = False from eq_false (by decide)]
  have R := Rg_k6 (Rg_k5 (Rg_k4 (Rg_k11 (Rg_k8 (Rg_k7 (Rg_w (Rg_w (Rg_w (Rg_w hR (j := 9 * w + 3) (by omega) (nI (br - 1))) (j := 9 * w + 8) (by omega) (nI (z + 1))) (j := 9 * w + 7) (by omega) (nI (f + 0))) (j := 9 * w + 6) (by omega) (nI (g + 0))) (nI (s8 + 1))) (nI (f8 + 0))) (gk 11 + 0)) (gk 4 + 1)) 22) (-1)
  have R2 : Rg (upd (upd gw (9 * w + 3) (nI (br - 1))) (9 * w + 8) (nI (z + 1))) (upd (upd (upd (upd (upd gk 7 (nI (s8 + 1))) 11 (gk 11 + 0)) 5 22) 4 (gk 4 + 1)) 6 (-1)) (upd (upd (upd (upd (upd (upd (upd (upd (upd (upd ms (13 + 9 * w + 3) (nI (br - 1))) (13 + 9 * w + 8) (nI (z + 1))) (13 + 9 * w + 7) (nI (f + 0))) (13 + 9 * w + 6) (nI (g + 0))) 6 (nI (s8 + 1))) 7 (nI (f8 + 0))) 8 (gk 11 + 0)) 5 (gk 4 + 1)) 2 22) 3 (-1)) := Rg_congr R (fun j hj => by first | rfl | (simp only [upd]; grind)) (fun j hj => by first | rfl | (simp only [upd]; grind)) (fun j _ => by first | rfl | (simp only [upd]; grind))
  have K : Vk (upd (upd (upd (upd (upd gk 7 (nI (s8 + 1))) 11 (gk 11 + 0)) 5 22) 4 (gk 4 + 1)) 6 (-1)) n t (t + 1) 22 := by
    refine ⟨k1, k2, by omega, k4, k5, rfl, ?_, ⟨s8 + 1, by omega, rfl⟩, ⟨f8, by omega, e2⟩, k10, k11⟩
    exact Or.inl rfl
  obtain ⟨gw', gk', ms', b', p1, p2, p3, p4, p5⟩ := stroke_e R2 K (Vs_8 (Vs_3 V0 hw (b := br - 1) (by omega)) hw (b := z + 1) (by omega)) ht (by omega) (Xn_k6 (Xn_g4 (Xn_k5 (Xn_k11 (Xn_s (Xn_c (c := 3) hX (by omega) w (nI (br - 1))) hw (by rw [pk_un (by omega), z2, nI_1]) (by rw [s2, nI_1])) _) _)) _) (by omega)
  exact ⟨(nI 46), gw', gk', ms', by rw [hc, p1]; rfl, by rw [hm, p2]; rfl, p3, ⟨_, _, _, Nat.le_refl _, p4, p5⟩, by exact ⟨by decide, by decide⟩⟩
set_option maxHeartbeats 4000000 in
theorem hit_o011 {gw gk ms : Nat → Int32} {n t b w br z f g s8 f8 : Nat} (hR : Rg gw gk ms) (hV : Vg gw gk n t t b) (hX : Xn gw gk n t) (hw : w < n) (ht : t < 48) (b1 : 1 ≤ br) (b20 : br ≤ 20) (b2 : gw (9 * w + 3) = nI br) (z1 : z ≤ t) (z2 : gw (9 * w + 8) = nI z) (f1 : f ≤ t) (f2 : gw (9 * w + 7) = nI f) (g1 : g ≤ t) (g2 : gw (9 * w + 6) = nI g) (s1 : s8 ≤ t) (s2 : gk 7 = nI s8) (e1 : f8 ≤ t) (e2 : gk 8 = nI f8) (rea det ref : Int32) (hT : gw (9 * w) = 1) : ∃ told gw' gk' ms', fX1_hit gw gk (nI w) (nI 46) 0 0 = some (told, gw', gk') ∧ fX8_strikesBuoy_216 (if (nI 46) < 45 then 0 else 1) (nI w) (nI br) (gw (9 * w)) 0 (nI 46) 0 rea det ref 0 ms = some (told, 0, rea, det, ref, 0, ms') ∧ Rg gw' gk' ms' ∧ Gb n told gw' gk' := by
  have h10 := hV.1.1
  have w10 : w < 10 := by omega
  obtain ⟨k1, k2, k3, k4, k5, k6, k7, k8, k9, k10, k11⟩ := hV.1
  obtain ⟨d1, d2⟩ := dec1 b1
  obtain ⟨em0, em⟩ := e_ms hR w10
  have A0 := fun g => of0 g w10
  have A3 := fun g v => add3 g w10 v
  have A8 := fun g v => add8 g w10 v
  have A7 := fun g v => add7 g w10 v
  have A6 := fun g v => add6 g w10 v
  have N3 := fun g v => mset3 g w10 v
  have N8 := fun g v => mset8 g w10 v
  have N7 := fun g v => mset7 g w10 v
  have N6 := fun g v => mset6 g w10 v
  have O8 := fun g => mof8 g w10
  have O7 := fun g => mof7 g w10
  have O6 := fun g => mof6 g w10
  have U8 : ∀ x, upd gw (9 * w + 3) x (9 * w + 8) = nI z := fun x => by rw [pk_un (by omega)]; exact z2
  have U7 : ∀ x y, upd (upd gw (9 * w + 3) x) (9 * w + 8) y (9 * w + 7) = nI f := fun x y => by rw [pk_un (by omega), pk_un (by omega)]; exact f2
  have U6 : ∀ x y, upd (upd gw (9 * w + 3) x) (9 * w + 8) y (9 * w + 6) = nI g := fun x y => by rw [pk_un (by omega), pk_un (by omega)]; exact g2
  have U0 : ∀ x y, upd (upd gw (9 * w + 3) x) (9 * w + 8) y (9 * w) = gw (9 * w) := fun x y => by rw [pk_un (by omega), pk_un (by omega)]
  have M8 : ∀ x, upd ms (13 + 9 * w + 3) x (13 + 9 * w + 8) = nI z := fun x => by rw [pk_un (by omega), em 8 (by omega)]; exact z2
  have M7 : ∀ x y, upd (upd ms (13 + 9 * w + 3) x) (13 + 9 * w + 8) y (13 + 9 * w + 7) = nI f := fun x y => by rw [pk_un (by omega), pk_un (by omega), em 7 (by omega)]; exact f2
  have M6 : ∀ x y v, upd (upd (upd ms (13 + 9 * w + 3) x) (13 + 9 * w + 8) y) (13 + 9 * w + 7) v (13 + 9 * w + 6) = nI g := fun x y v => by rw [pk_un (by omega), pk_un (by omega), pk_un (by omega), em 6 (by omega)]; exact g2
  have MK : ∀ x y v q k, k < 13 → upd (upd (upd (upd ms (13 + 9 * w + 3) x) (13 + 9 * w + 8) y) (13 + 9 * w + 7) v) (13 + 9 * w + 6) q k = ms k := fun x y v q k hk => by rw [pk_un (by omega), pk_un (by omega), pk_un (by omega), pk_un (by omega)]
  have ms6 : ms 6 = nI s8 := hR.2.2.2.2.2.2.2.1.trans s2
  have ms7 : ms 7 = nI f8 := hR.2.2.2.2.2.2.2.2.1.trans e2
  have ms8 : ms 8 = gk 11 := hR.2.2.2.2.2.2.2.2.2.1
  have ms4 : ms 4 = gk 3 := hR.2.2.2.2.2.1
  have ms5 : ms 5 = gk 4 := hR.2.2.2.2.2.2.1
  have K6 : ∀ x y v q, upd (upd (upd (upd ms (13 + 9 * w + 3) x) (13 + 9 * w + 8) y) (13 + 9 * w + 7) v) (13 + 9 * w + 6) q 6 = nI s8 := fun x y v q => (MK x y v q 6 (by omega)).trans ms6
  have K7 : ∀ x y v q a, upd (upd (upd (upd (upd ms (13 + 9 * w + 3) x) (13 + 9 * w + 8) y) (13 + 9 * w + 7) v) (13 + 9 * w + 6) q) 6 a 7 = nI f8 := fun x y v q a => by rw [pk_un (by omega)]; exact (MK x y v q 7 (by omega)).trans ms7
  have K8 : ∀ x y v q a c, upd (upd (upd (upd (upd (upd ms (13 + 9 * w + 3) x) (13 + 9 * w + 8) y) (13 + 9 * w + 7) v) (13 + 9 * w + 6) q) 6 a) 7 c 8 = gk 11 := fun x y v q a c => by rw [pk_un (by omega), pk_un (by omega)]; exact (MK x y v q 8 (by omega)).trans ms8
  have K4 : ∀ x y v q a c d, upd (upd (upd (upd (upd (upd (upd ms (13 + 9 * w + 3) x) (13 + 9 * w + 8) y) (13 + 9 * w + 7) v) (13 + 9 * w + 6) q) 6 a) 7 c) 8 d 4 = gk 3 := fun x y v q a c d => by rw [pk_un (by omega), pk_un (by omega), pk_un (by omega)]; exact (MK x y v q 4 (by omega)).trans ms4
  have K5 : ∀ x y v q a c d, upd (upd (upd (upd (upd (upd (upd ms (13 + 9 * w + 3) x) (13 + 9 * w + 8) y) (13 + 9 * w + 7) v) (13 + 9 * w + 6) q) 6 a) 7 c) 8 d 5 = gk 4 := fun x y v q a c d => by rw [pk_un (by omega), pk_un (by omega), pk_un (by omega)]; exact (MK x y v q 5 (by omega)).trans ms5
  have G8 : ∀ x, upd gk 7 x 8 = nI f8 := fun x => e2
  have G11a : ∀ x, upd gk 7 x 11 = gk 11 := fun x => rfl
  have G11b : ∀ x y, upd (upd gk 7 x) 8 y 11 = gk 11 := fun x y => rfl
  have G3 : ∀ x y v, upd (upd (upd gk 7 x) 11 y) 5 v 3 = gk 3 := fun x y v => rfl
  have G4 : ∀ x y v, upd (upd (upd gk 7 x) 11 y) 5 v 4 = gk 4 := fun x y v => rfl
  have G5a : ∀ (g : Nat → Int32) x, upd g 5 x 5 = x := fun g x => rfl
  have G5b : ∀ (g : Nat → Int32) x y, upd (upd g 5 x) 6 y 5 = x := fun g x y => rfl
  have V0 := Vs_mono hV.2 (Nat.le_succ t)
  have L := ge45b
  have i45 : (3 + (nI 45 - 45) : Int32) = 3 := rfl
  have i46 : (3 + (nI 46 - 45) : Int32) = 4 := rfl
  have j45 : (4 + nI 45 - 45 : Int32) = 4 := rfl
  have j46 : (4 + nI 46 - 45 : Int32) = 5 := rfl
  have l45 : (nI 45 - 45 : Int32) = 0 := rfl
  have l46 : (nI 46 - 45 : Int32) = 1 := rfl
  have TT : gw (9 * w) = 1 := hT
  have hc : fX1_hit gw gk (nI w) (nI 46) 0 0 = (fX1_endStroke (upd (upd (upd gw (9 * w + 3) (nI (br - 1))) (9 * w + 8) (nI (z + 1))) (9 * w + 6) (nI (g + 1))) (upd (upd (upd (upd (upd gk 7 (nI (s8 + 1))) 11 (gk 11 + 0)) 5 22) 4 (gk 4 + 1)) 6 (-1))).bind fun q => some ((nI 46), q.2.1, q.2.2) := by
    simp only [fX1_hit, fX1_hit_11, fX1_hit_28, fX1_countStrike, fX1_countGoal, fX1_hit_57, fX1_hit_73, fX1_hit_121, fX1_hit_124, fX1_hit_138, A0, A3, A8, A7, A6, L, f10, t00, if_true, if_false, Option.bind_some, b2, d1, U8, U7, U6, U0, nI_1, ca7, ca8, ca11, ca3, ca4, cs5, cs6, ct5, s2, G8, G11a, G11b, G3, G4, G5a, G5b, i45, i46, l45, l46, show (3 + 0 : Int32) = 3 from rfl, show (3 + 1 : Int32) = 4 from rfl, TT, t00, show ((1 : Int32) = 1) = True from eq_true rfl]
  have hm : fX8_strikesBuoy_216 (if (nI 46) < 45 then 0 else 1) (nI w) (nI br) (gw (9 * w)) 0 (nI 46) 0 rea det ref 0 ms = (fX8_strokes (upd (upd (upd (upd (upd (upd (upd (upd (upd (upd ms (13 + 9 * w + 3) (nI (br - 1))) (13 + 9 * w + 8) (nI (z + 1))) (13 + 9 * w + 7) (nI (f + 0))) (13 + 9 * w + 6) (nI (g + 1))) 6 (nI (s8 + 1))) 7 (nI (f8 + 0))) 8 (gk 11 + 0)) 5 (gk 4 + 1)) 2 22) 3 (-1)) (nI 46)).bind fun q => some (q.1, 0, rea, det, ref, 0, q.2) := by
    simp only [fX8_strikesBuoy_216, fX8_strikesBuoy_265, fX8_strikesBuoy_300, fX8_strikesBuoy_333, fX8_strikesBuoy_355, fX8_strikesBuoy_383, fX8_strikesBuoy_400, fX8_strikesBuoy_418, fX8_strikesBuoy_436, fX8_strikesBuoy_455, N3, N8, N7, N6, O8, O7, O6, L, f10, t00, if_true, if_false, Option.bind_some, d2, M8, M7, M6, nI_1, v103_2, v103_3, v103_4, v103_5, v103_6, v103_7, v103_8, cl_2, cl_3, cl_4, cl_5, cl_6, cl_7, cl_8, K6, K7, K8, K4, K5, j45, j46, Int32.add_zero, Nat.add_zero, ite_self, TT, show (nI 46 = 45 + 1) = True from eq_true rfl]
  have R := Rg_k6 (Rg_k5 (Rg_k4 (Rg_k11 (Rg_k8 (Rg_k7 (Rg_w (Rg_w (Rg_w (Rg_w hR (j := 9 * w + 3) (by omega) (nI (br - 1))) (j := 9 * w + 8) (by omega) (nI (z + 1))) (j := 9 * w + 7) (by omega) (nI (f + 0))) (j := 9 * w + 6) (by omega) (nI (g + 1))) (nI (s8 + 1))) (nI (f8 + 0))) (gk 11 + 0)) (gk 4 + 1)) 22) (-1)
  have R2 : Rg (upd (upd (upd gw (9 * w + 3) (nI (br - 1))) (9 * w + 8) (nI (z + 1))) (9 * w + 6) (nI (g + 1))) (upd (upd (upd (upd (upd gk 7 (nI (s8 + 1))) 11 (gk 11 + 0)) 5 22) 4 (gk 4 + 1)) 6 (-1)) (upd (upd (upd (upd (upd (upd (upd (upd (upd (upd ms (13 + 9 * w + 3) (nI (br - 1))) (13 + 9 * w + 8) (nI (z + 1))) (13 + 9 * w + 7) (nI (f + 0))) (13 + 9 * w + 6) (nI (g + 1))) 6 (nI (s8 + 1))) 7 (nI (f8 + 0))) 8 (gk 11 + 0)) 5 (gk 4 + 1)) 2 22) 3 (-1)) := Rg_congr R (fun j hj => by first | rfl | (simp only [upd]; grind)) (fun j hj => by first | rfl | (simp only [upd]; grind)) (fun j _ => by first | rfl | (simp only [upd]; grind))
  have K : Vk (upd (upd (upd (upd (upd gk 7 (nI (s8 + 1))) 11 (gk 11 + 0)) 5 22) 4 (gk 4 + 1)) 6 (-1)) n t (t + 1) 22 := by
    refine ⟨k1, k2, by omega, k4, k5, rfl, ?_, ⟨s8 + 1, by omega, rfl⟩, ⟨f8, by omega, e2⟩, k10, k11⟩
    exact Or.inl rfl
  obtain ⟨gw', gk', ms', b', p1, p2, p3, p4, p5⟩ := stroke_e R2 K (Vs_6 (Vs_8 (Vs_3 V0 hw (b := br - 1) (by omega)) hw (b := z + 1) (by omega)) hw (b := g + 1) (by omega)) ht (by omega) (Xn_k6 (Xn_o4 (Xn_k5 (Xn_k11 (Xn_s (Xn_c (c := 3) hX (by omega) w (nI (br - 1))) hw (by rw [pk_un (by omega), z2, nI_1]) (by rw [s2, nI_1])) _) _) hw (by rw [pk_un (by omega), pk_un (by omega), g2, nI_1])) _) (by omega)
  exact ⟨(nI 46), gw', gk', ms', by rw [hc, p1]; rfl, by rw [hm, p2]; rfl, p3, ⟨_, _, _, Nat.le_refl _, p4, p5⟩, by exact ⟨by decide, by decide⟩⟩
set_option maxHeartbeats 4000000 in
theorem hit_c10 {gw gk ms : Nat → Int32} {n t b w br z f g s8 f8 : Nat} (hR : Rg gw gk ms) (hV : Vg gw gk n t t b) (hX : Xn gw gk n t) (hw : w < n) (ht : t < 48) (b1 : 1 ≤ br) (b20 : br ≤ 20) (b2 : gw (9 * w + 3) = nI br) (z1 : z ≤ t) (z2 : gw (9 * w + 8) = nI z) (f1 : f ≤ t) (f2 : gw (9 * w + 7) = nI f) (g1 : g ≤ t) (g2 : gw (9 * w + 6) = nI g) (s1 : s8 ≤ t) (s2 : gk 7 = nI s8) (e1 : f8 ≤ t) (e2 : gk 8 = nI f8) (rea det ref : Int32) {d : Nat} (hd : d < 45) (h6 : gk 6 = 1 - gw (9 * w)) : ∃ told gw' gk' ms', fX1_hit gw gk (nI w) (nI d) 0 1 = some (told, gw', gk') ∧ fX8_strikesBuoy_216 (if (nI d) < 45 then 0 else 1) (nI w) (nI br) (gw (9 * w)) 1 (nI d) 0 rea det ref 0 ms = some (told, 0, rea, det, ref, 0, ms') ∧ Rg gw' gk' ms' ∧ Gb n told gw' gk' := by
  have h10 := hV.1.1
  have w10 : w < 10 := by omega
  obtain ⟨k1, k2, k3, k4, k5, k6, k7, k8, k9, k10, k11⟩ := hV.1
  obtain ⟨d1, d2⟩ := dec1 b1
  obtain ⟨em0, em⟩ := e_ms hR w10
  have A0 := fun g => of0 g w10
  have A3 := fun g v => add3 g w10 v
  have A8 := fun g v => add8 g w10 v
  have A7 := fun g v => add7 g w10 v
  have A6 := fun g v => add6 g w10 v
  have N3 := fun g v => mset3 g w10 v
  have N8 := fun g v => mset8 g w10 v
  have N7 := fun g v => mset7 g w10 v
  have N6 := fun g v => mset6 g w10 v
  have O8 := fun g => mof8 g w10
  have O7 := fun g => mof7 g w10
  have O6 := fun g => mof6 g w10
  have U8 : ∀ x, upd gw (9 * w + 3) x (9 * w + 8) = nI z := fun x => by rw [pk_un (by omega)]; exact z2
  have U7 : ∀ x y, upd (upd gw (9 * w + 3) x) (9 * w + 8) y (9 * w + 7) = nI f := fun x y => by rw [pk_un (by omega), pk_un (by omega)]; exact f2
  have U6 : ∀ x y, upd (upd gw (9 * w + 3) x) (9 * w + 8) y (9 * w + 6) = nI g := fun x y => by rw [pk_un (by omega), pk_un (by omega)]; exact g2
  have U0 : ∀ x y, upd (upd gw (9 * w + 3) x) (9 * w + 8) y (9 * w) = gw (9 * w) := fun x y => by rw [pk_un (by omega), pk_un (by omega)]
  have M8 : ∀ x, upd ms (13 + 9 * w + 3) x (13 + 9 * w + 8) = nI z := fun x => by rw [pk_un (by omega), em 8 (by omega)]; exact z2
  have M7 : ∀ x y, upd (upd ms (13 + 9 * w + 3) x) (13 + 9 * w + 8) y (13 + 9 * w + 7) = nI f := fun x y => by rw [pk_un (by omega), pk_un (by omega), em 7 (by omega)]; exact f2
  have M6 : ∀ x y v, upd (upd (upd ms (13 + 9 * w + 3) x) (13 + 9 * w + 8) y) (13 + 9 * w + 7) v (13 + 9 * w + 6) = nI g := fun x y v => by rw [pk_un (by omega), pk_un (by omega), pk_un (by omega), em 6 (by omega)]; exact g2
  have MK : ∀ x y v q k, k < 13 → upd (upd (upd (upd ms (13 + 9 * w + 3) x) (13 + 9 * w + 8) y) (13 + 9 * w + 7) v) (13 + 9 * w + 6) q k = ms k := fun x y v q k hk => by rw [pk_un (by omega), pk_un (by omega), pk_un (by omega), pk_un (by omega)]
  have ms6 : ms 6 = nI s8 := hR.2.2.2.2.2.2.2.1.trans s2
  have ms7 : ms 7 = nI f8 := hR.2.2.2.2.2.2.2.2.1.trans e2
  have ms8 : ms 8 = gk 11 := hR.2.2.2.2.2.2.2.2.2.1
  have ms4 : ms 4 = gk 3 := hR.2.2.2.2.2.1
  have ms5 : ms 5 = gk 4 := hR.2.2.2.2.2.2.1
  have K6 : ∀ x y v q, upd (upd (upd (upd ms (13 + 9 * w + 3) x) (13 + 9 * w + 8) y) (13 + 9 * w + 7) v) (13 + 9 * w + 6) q 6 = nI s8 := fun x y v q => (MK x y v q 6 (by omega)).trans ms6
  have K7 : ∀ x y v q a, upd (upd (upd (upd (upd ms (13 + 9 * w + 3) x) (13 + 9 * w + 8) y) (13 + 9 * w + 7) v) (13 + 9 * w + 6) q) 6 a 7 = nI f8 := fun x y v q a => by rw [pk_un (by omega)]; exact (MK x y v q 7 (by omega)).trans ms7
  have K8 : ∀ x y v q a c, upd (upd (upd (upd (upd (upd ms (13 + 9 * w + 3) x) (13 + 9 * w + 8) y) (13 + 9 * w + 7) v) (13 + 9 * w + 6) q) 6 a) 7 c 8 = gk 11 := fun x y v q a c => by rw [pk_un (by omega), pk_un (by omega)]; exact (MK x y v q 8 (by omega)).trans ms8
  have K4 : ∀ x y v q a c d, upd (upd (upd (upd (upd (upd (upd ms (13 + 9 * w + 3) x) (13 + 9 * w + 8) y) (13 + 9 * w + 7) v) (13 + 9 * w + 6) q) 6 a) 7 c) 8 d 4 = gk 3 := fun x y v q a c d => by rw [pk_un (by omega), pk_un (by omega), pk_un (by omega)]; exact (MK x y v q 4 (by omega)).trans ms4
  have K5 : ∀ x y v q a c d, upd (upd (upd (upd (upd (upd (upd ms (13 + 9 * w + 3) x) (13 + 9 * w + 8) y) (13 + 9 * w + 7) v) (13 + 9 * w + 6) q) 6 a) 7 c) 8 d 5 = gk 4 := fun x y v q a c d => by rw [pk_un (by omega), pk_un (by omega), pk_un (by omega)]; exact (MK x y v q 5 (by omega)).trans ms5
  have G8 : ∀ x, upd gk 7 x 8 = nI f8 := fun x => e2
  have G11a : ∀ x, upd gk 7 x 11 = gk 11 := fun x => rfl
  have G11b : ∀ x y, upd (upd gk 7 x) 8 y 11 = gk 11 := fun x y => rfl
  have G3 : ∀ x y v, upd (upd (upd gk 7 x) 11 y) 5 v 3 = gk 3 := fun x y v => rfl
  have G4 : ∀ x y v, upd (upd (upd gk 7 x) 11 y) 5 v 4 = gk 4 := fun x y v => rfl
  have G5a : ∀ (g : Nat → Int32) x, upd g 5 x 5 = x := fun g x => rfl
  have G5b : ∀ (g : Nat → Int32) x y, upd (upd g 5 x) 6 y 5 = x := fun g x y => rfl
  have V0 := Vs_mono hV.2 (Nat.le_succ t)
  have L := lt45n hd
  have i45 : (3 + (nI 45 - 45) : Int32) = 3 := rfl
  have i46 : (3 + (nI 46 - 45) : Int32) = 4 := rfl
  have j45 : (4 + nI 45 - 45 : Int32) = 4 := rfl
  have j46 : (4 + nI 46 - 45 : Int32) = 5 := rfl
  have l45 : (nI 45 - 45 : Int32) = 0 := rfl
  have l46 : (nI 46 - 45 : Int32) = 1 := rfl
  have hc : fX1_hit gw gk (nI w) (nI d) 0 1 = (fX1_endStroke (upd (upd (upd gw (9 * w + 3) (nI (br - 1))) (9 * w + 8) (nI (z + 1))) (9 * w + 7) (nI (f + 1))) (upd (upd (upd (upd gk 7 (nI (s8 + 1))) 8 (nI (f8 + 1))) 11 (gk 11 + 0)) 5 (nI d))).bind fun q => some ((nI d), q.2.1, q.2.2) := by
    simp only [fX1_hit, fX1_hit_11, fX1_hit_28, fX1_countStrike, fX1_countGoal, fX1_hit_57, fX1_hit_73, fX1_hit_121, fX1_hit_124, fX1_hit_138, A0, A3, A8, A7, A6, L, f10, t00, if_true, if_false, Option.bind_some, b2, d1, U8, U7, U6, U0, nI_1, ca7, ca8, ca11, ca3, ca4, cs5, cs6, ct5, s2, G8, G11a, G11b, G3, G4, G5a, G5b, i45, i46, l45, l46, show (3 + 0 : Int32) = 3 from rfl, show (3 + 1 : Int32) = 4 from rfl]
  have hm : fX8_strikesBuoy_216 (if (nI d) < 45 then 0 else 1) (nI w) (nI br) (gw (9 * w)) 1 (nI d) 0 rea det ref 0 ms = (fX8_strokes (upd (upd (upd (upd (upd (upd (upd (upd (upd ms (13 + 9 * w + 3) (nI (br - 1))) (13 + 9 * w + 8) (nI (z + 1))) (13 + 9 * w + 7) (nI (f + 1))) (13 + 9 * w + 6) (nI (g + 0))) 6 (nI (s8 + 1))) 7 (nI (f8 + 1))) 8 (gk 11 + 0)) 2 (nI d)) 3 (1 - gw (9 * w))) (nI d)).bind fun q => some (q.1, 0, rea, det, ref, 0, q.2) := by
    simp only [fX8_strikesBuoy_216, fX8_strikesBuoy_265, fX8_strikesBuoy_300, fX8_strikesBuoy_333, fX8_strikesBuoy_355, fX8_strikesBuoy_383, fX8_strikesBuoy_400, fX8_strikesBuoy_418, fX8_strikesBuoy_436, fX8_strikesBuoy_455, N3, N8, N7, N6, O8, O7, O6, L, f10, t00, if_true, if_false, Option.bind_some, d2, M8, M7, M6, nI_1, v103_2, v103_3, v103_4, v103_5, v103_6, v103_7, v103_8, cl_2, cl_3, cl_4, cl_5, cl_6, cl_7, cl_8, K6, K7, K8, K4, K5, j45, j46, Int32.add_zero, Nat.add_zero, ite_self]
  have R := Rg_k6 (Rg_k5 (Rg_k11 (Rg_k8 (Rg_k7 (Rg_w (Rg_w (Rg_w (Rg_w hR (j := 9 * w + 3) (by omega) (nI (br - 1))) (j := 9 * w + 8) (by omega) (nI (z + 1))) (j := 9 * w + 7) (by omega) (nI (f + 1))) (j := 9 * w + 6) (by omega) (nI (g + 0))) (nI (s8 + 1))) (nI (f8 + 1))) (gk 11 + 0)) (nI d)) (1 - gw (9 * w))
  have R2 : Rg (upd (upd (upd gw (9 * w + 3) (nI (br - 1))) (9 * w + 8) (nI (z + 1))) (9 * w + 7) (nI (f + 1))) (upd (upd (upd (upd gk 7 (nI (s8 + 1))) 8 (nI (f8 + 1))) 11 (gk 11 + 0)) 5 (nI d)) (upd (upd (upd (upd (upd (upd (upd (upd (upd ms (13 + 9 * w + 3) (nI (br - 1))) (13 + 9 * w + 8) (nI (z + 1))) (13 + 9 * w + 7) (nI (f + 1))) (13 + 9 * w + 6) (nI (g + 0))) 6 (nI (s8 + 1))) 7 (nI (f8 + 1))) 8 (gk 11 + 0)) 2 (nI d)) 3 (1 - gw (9 * w))) := Rg_congr R (fun j hj => by first | rfl | (simp only [upd]; grind)) (fun j hj => by first | rfl | (simp only [upd]; grind)) (fun j _ => by first | rfl | (simp only [upd]; grind))
  have K : Vk (upd (upd (upd (upd gk 7 (nI (s8 + 1))) 8 (nI (f8 + 1))) 11 (gk 11 + 0)) 5 (nI d)) n t (t + 1) d := by
    refine ⟨k1, k2, hd, k4, k5, rfl, ?_, ⟨s8 + 1, by omega, rfl⟩, ⟨f8 + 1, by omega, rfl⟩, k10, k11⟩
    exact k7
  obtain ⟨gw', gk', ms', b', p1, p2, p3, p4, p5⟩ := stroke_e R2 K (Vs_7 (Vs_8 (Vs_3 V0 hw (b := br - 1) (by omega)) hw (b := z + 1) (by omega)) hw (b := f + 1) (by omega)) ht (by omega) (Xn_mono (Xn_k5 (Xn_k11 (Xn_f (Xn_s (Xn_c (c := 3) hX (by omega) w (nI (br - 1))) hw (by rw [pk_un (by omega), z2, nI_1]) (by rw [s2, nI_1])) hw (by rw [pk_un (by omega), pk_un (by omega), f2, nI_1]) (by rw [pk_un (by omega), e2, nI_1])) _) _) (Nat.le_succ t)) (by omega)
  exact ⟨(nI d), gw', gk', ms', by rw [hc, p1]; rfl, by rw [hm, p2]; rfl, p3, ⟨_, _, _, Nat.le_refl _, p4, p5⟩, BD_nI (by omega)⟩
set_option maxHeartbeats 4000000 in
theorem hit_c11 {gw gk ms : Nat → Int32} {n t b w br z f g s8 f8 : Nat} (hR : Rg gw gk ms) (hV : Vg gw gk n t t b) (hX : Xn gw gk n t) (hw : w < n) (ht : t < 48) (b1 : 1 ≤ br) (b20 : br ≤ 20) (b2 : gw (9 * w + 3) = nI br) (z1 : z ≤ t) (z2 : gw (9 * w + 8) = nI z) (f1 : f ≤ t) (f2 : gw (9 * w + 7) = nI f) (g1 : g ≤ t) (g2 : gw (9 * w + 6) = nI g) (s1 : s8 ≤ t) (s2 : gk 7 = nI s8) (e1 : f8 ≤ t) (e2 : gk 8 = nI f8) (rea det ref : Int32) {d : Nat} (hd : d < 45) (h6 : gk 6 = 1 - gw (9 * w)) : ∃ told gw' gk' ms', fX1_hit gw gk (nI w) (nI d) 1 1 = some (told, gw', gk') ∧ fX8_strikesBuoy_216 (if (nI d) < 45 then 0 else 1) (nI w) (nI br) (gw (9 * w)) 1 (nI d) 0 rea det ref 1 ms = some (told, 0, rea, det, ref, 1, ms') ∧ Rg gw' gk' ms' ∧ Gb n told gw' gk' := by
  have h10 := hV.1.1
  have w10 : w < 10 := by omega
  obtain ⟨k1, k2, k3, k4, k5, k6, k7, k8, k9, k10, k11⟩ := hV.1
  obtain ⟨d1, d2⟩ := dec1 b1
  obtain ⟨em0, em⟩ := e_ms hR w10
  have A0 := fun g => of0 g w10
  have A3 := fun g v => add3 g w10 v
  have A8 := fun g v => add8 g w10 v
  have A7 := fun g v => add7 g w10 v
  have A6 := fun g v => add6 g w10 v
  have N3 := fun g v => mset3 g w10 v
  have N8 := fun g v => mset8 g w10 v
  have N7 := fun g v => mset7 g w10 v
  have N6 := fun g v => mset6 g w10 v
  have O8 := fun g => mof8 g w10
  have O7 := fun g => mof7 g w10
  have O6 := fun g => mof6 g w10
  have U8 : ∀ x, upd gw (9 * w + 3) x (9 * w + 8) = nI z := fun x => by rw [pk_un (by omega)]; exact z2
  have U7 : ∀ x y, upd (upd gw (9 * w + 3) x) (9 * w + 8) y (9 * w + 7) = nI f := fun x y => by rw [pk_un (by omega), pk_un (by omega)]; exact f2
  have U6 : ∀ x y, upd (upd gw (9 * w + 3) x) (9 * w + 8) y (9 * w + 6) = nI g := fun x y => by rw [pk_un (by omega), pk_un (by omega)]; exact g2
  have U0 : ∀ x y, upd (upd gw (9 * w + 3) x) (9 * w + 8) y (9 * w) = gw (9 * w) := fun x y => by rw [pk_un (by omega), pk_un (by omega)]
  have M8 : ∀ x, upd ms (13 + 9 * w + 3) x (13 + 9 * w + 8) = nI z := fun x => by rw [pk_un (by omega), em 8 (by omega)]; exact z2
  have M7 : ∀ x y, upd (upd ms (13 + 9 * w + 3) x) (13 + 9 * w + 8) y (13 + 9 * w + 7) = nI f := fun x y => by rw [pk_un (by omega), pk_un (by omega), em 7 (by omega)]; exact f2
  have M6 : ∀ x y v, upd (upd (upd ms (13 + 9 * w + 3) x) (13 + 9 * w + 8) y) (13 + 9 * w + 7) v (13 + 9 * w + 6) = nI g := fun x y v => by rw [pk_un (by omega), pk_un (by omega), pk_un (by omega), em 6 (by omega)]; exact g2
  have MK : ∀ x y v q k, k < 13 → upd (upd (upd (upd ms (13 + 9 * w + 3) x) (13 + 9 * w + 8) y) (13 + 9 * w + 7) v) (13 + 9 * w + 6) q k = ms k := fun x y v q k hk => by rw [pk_un (by omega), pk_un (by omega), pk_un (by omega), pk_un (by omega)]
  have ms6 : ms 6 = nI s8 := hR.2.2.2.2.2.2.2.1.trans s2
  have ms7 : ms 7 = nI f8 := hR.2.2.2.2.2.2.2.2.1.trans e2
  have ms8 : ms 8 = gk 11 := hR.2.2.2.2.2.2.2.2.2.1
  have ms4 : ms 4 = gk 3 := hR.2.2.2.2.2.1
  have ms5 : ms 5 = gk 4 := hR.2.2.2.2.2.2.1
  have K6 : ∀ x y v q, upd (upd (upd (upd ms (13 + 9 * w + 3) x) (13 + 9 * w + 8) y) (13 + 9 * w + 7) v) (13 + 9 * w + 6) q 6 = nI s8 := fun x y v q => (MK x y v q 6 (by omega)).trans ms6
  have K7 : ∀ x y v q a, upd (upd (upd (upd (upd ms (13 + 9 * w + 3) x) (13 + 9 * w + 8) y) (13 + 9 * w + 7) v) (13 + 9 * w + 6) q) 6 a 7 = nI f8 := fun x y v q a => by rw [pk_un (by omega)]; exact (MK x y v q 7 (by omega)).trans ms7
  have K8 : ∀ x y v q a c, upd (upd (upd (upd (upd (upd ms (13 + 9 * w + 3) x) (13 + 9 * w + 8) y) (13 + 9 * w + 7) v) (13 + 9 * w + 6) q) 6 a) 7 c 8 = gk 11 := fun x y v q a c => by rw [pk_un (by omega), pk_un (by omega)]; exact (MK x y v q 8 (by omega)).trans ms8
  have K4 : ∀ x y v q a c d, upd (upd (upd (upd (upd (upd (upd ms (13 + 9 * w + 3) x) (13 + 9 * w + 8) y) (13 + 9 * w + 7) v) (13 + 9 * w + 6) q) 6 a) 7 c) 8 d 4 = gk 3 := fun x y v q a c d => by rw [pk_un (by omega), pk_un (by omega), pk_un (by omega)]; exact (MK x y v q 4 (by omega)).trans ms4
  have K5 : ∀ x y v q a c d, upd (upd (upd (upd (upd (upd (upd ms (13 + 9 * w + 3) x) (13 + 9 * w + 8) y) (13 + 9 * w + 7) v) (13 + 9 * w + 6) q) 6 a) 7 c) 8 d 5 = gk 4 := fun x y v q a c d => by rw [pk_un (by omega), pk_un (by omega), pk_un (by omega)]; exact (MK x y v q 5 (by omega)).trans ms5
  have G8 : ∀ x, upd gk 7 x 8 = nI f8 := fun x => e2
  have G11a : ∀ x, upd gk 7 x 11 = gk 11 := fun x => rfl
  have G11b : ∀ x y, upd (upd gk 7 x) 8 y 11 = gk 11 := fun x y => rfl
  have G3 : ∀ x y v, upd (upd (upd gk 7 x) 11 y) 5 v 3 = gk 3 := fun x y v => rfl
  have G4 : ∀ x y v, upd (upd (upd gk 7 x) 11 y) 5 v 4 = gk 4 := fun x y v => rfl
  have G5a : ∀ (g : Nat → Int32) x, upd g 5 x 5 = x := fun g x => rfl
  have G5b : ∀ (g : Nat → Int32) x y, upd (upd g 5 x) 6 y 5 = x := fun g x y => rfl
  have V0 := Vs_mono hV.2 (Nat.le_succ t)
  have L := lt45n hd
  have i45 : (3 + (nI 45 - 45) : Int32) = 3 := rfl
  have i46 : (3 + (nI 46 - 45) : Int32) = 4 := rfl
  have j45 : (4 + nI 45 - 45 : Int32) = 4 := rfl
  have j46 : (4 + nI 46 - 45 : Int32) = 5 := rfl
  have l45 : (nI 45 - 45 : Int32) = 0 := rfl
  have l46 : (nI 46 - 45 : Int32) = 1 := rfl
  have hc : fX1_hit gw gk (nI w) (nI d) 1 1 = (fX1_endStroke (upd (upd (upd gw (9 * w + 3) (nI (br - 1))) (9 * w + 8) (nI (z + 1))) (9 * w + 7) (nI (f + 1))) (upd (upd (upd (upd gk 7 (nI (s8 + 1))) 8 (nI (f8 + 1))) 11 (gk 11 + 1)) 5 (nI d))).bind fun q => some ((nI d), q.2.1, q.2.2) := by
    simp only [fX1_hit, fX1_hit_11, fX1_hit_28, fX1_countStrike, fX1_countGoal, fX1_hit_57, fX1_hit_73, fX1_hit_121, fX1_hit_124, fX1_hit_138, A0, A3, A8, A7, A6, L, f10, t00, if_true, if_false, Option.bind_some, b2, d1, U8, U7, U6, U0, nI_1, ca7, ca8, ca11, ca3, ca4, cs5, cs6, ct5, s2, G8, G11a, G11b, G3, G4, G5a, G5b, i45, i46, l45, l46, show (3 + 0 : Int32) = 3 from rfl, show (3 + 1 : Int32) = 4 from rfl]
  have hm : fX8_strikesBuoy_216 (if (nI d) < 45 then 0 else 1) (nI w) (nI br) (gw (9 * w)) 1 (nI d) 0 rea det ref 1 ms = (fX8_strokes (upd (upd (upd (upd (upd (upd (upd (upd (upd ms (13 + 9 * w + 3) (nI (br - 1))) (13 + 9 * w + 8) (nI (z + 1))) (13 + 9 * w + 7) (nI (f + 1))) (13 + 9 * w + 6) (nI (g + 0))) 6 (nI (s8 + 1))) 7 (nI (f8 + 1))) 8 (gk 11 + 1)) 2 (nI d)) 3 (1 - gw (9 * w))) (nI d)).bind fun q => some (q.1, 0, rea, det, ref, 1, q.2) := by
    simp only [fX8_strikesBuoy_216, fX8_strikesBuoy_265, fX8_strikesBuoy_300, fX8_strikesBuoy_333, fX8_strikesBuoy_355, fX8_strikesBuoy_383, fX8_strikesBuoy_400, fX8_strikesBuoy_418, fX8_strikesBuoy_436, fX8_strikesBuoy_455, N3, N8, N7, N6, O8, O7, O6, L, f10, t00, if_true, if_false, Option.bind_some, d2, M8, M7, M6, nI_1, v103_2, v103_3, v103_4, v103_5, v103_6, v103_7, v103_8, cl_2, cl_3, cl_4, cl_5, cl_6, cl_7, cl_8, K6, K7, K8, K4, K5, j45, j46, Int32.add_zero, Nat.add_zero, ite_self]
  have R := Rg_k6 (Rg_k5 (Rg_k11 (Rg_k8 (Rg_k7 (Rg_w (Rg_w (Rg_w (Rg_w hR (j := 9 * w + 3) (by omega) (nI (br - 1))) (j := 9 * w + 8) (by omega) (nI (z + 1))) (j := 9 * w + 7) (by omega) (nI (f + 1))) (j := 9 * w + 6) (by omega) (nI (g + 0))) (nI (s8 + 1))) (nI (f8 + 1))) (gk 11 + 1)) (nI d)) (1 - gw (9 * w))
  have R2 : Rg (upd (upd (upd gw (9 * w + 3) (nI (br - 1))) (9 * w + 8) (nI (z + 1))) (9 * w + 7) (nI (f + 1))) (upd (upd (upd (upd gk 7 (nI (s8 + 1))) 8 (nI (f8 + 1))) 11 (gk 11 + 1)) 5 (nI d)) (upd (upd (upd (upd (upd (upd (upd (upd (upd ms (13 + 9 * w + 3) (nI (br - 1))) (13 + 9 * w + 8) (nI (z + 1))) (13 + 9 * w + 7) (nI (f + 1))) (13 + 9 * w + 6) (nI (g + 0))) 6 (nI (s8 + 1))) 7 (nI (f8 + 1))) 8 (gk 11 + 1)) 2 (nI d)) 3 (1 - gw (9 * w))) := Rg_congr R (fun j hj => by first | rfl | (simp only [upd]; grind)) (fun j hj => by first | rfl | (simp only [upd]; grind)) (fun j _ => by first | rfl | (simp only [upd]; grind))
  have K : Vk (upd (upd (upd (upd gk 7 (nI (s8 + 1))) 8 (nI (f8 + 1))) 11 (gk 11 + 1)) 5 (nI d)) n t (t + 1) d := by
    refine ⟨k1, k2, hd, k4, k5, rfl, ?_, ⟨s8 + 1, by omega, rfl⟩, ⟨f8 + 1, by omega, rfl⟩, k10, k11⟩
    exact k7
  obtain ⟨gw', gk', ms', b', p1, p2, p3, p4, p5⟩ := stroke_e R2 K (Vs_7 (Vs_8 (Vs_3 V0 hw (b := br - 1) (by omega)) hw (b := z + 1) (by omega)) hw (b := f + 1) (by omega)) ht (by omega) (Xn_mono (Xn_k5 (Xn_k11 (Xn_f (Xn_s (Xn_c (c := 3) hX (by omega) w (nI (br - 1))) hw (by rw [pk_un (by omega), z2, nI_1]) (by rw [s2, nI_1])) hw (by rw [pk_un (by omega), pk_un (by omega), f2, nI_1]) (by rw [pk_un (by omega), e2, nI_1])) _) _) (Nat.le_succ t)) (by omega)
  exact ⟨(nI d), gw', gk', ms', by rw [hc, p1]; rfl, by rw [hm, p2]; rfl, p3, ⟨_, _, _, Nat.le_refl _, p4, p5⟩, BD_nI (by omega)⟩
set_option maxHeartbeats 4000000 in
theorem hit_o10 {gw gk ms : Nat → Int32} {n t b w br z f g s8 f8 : Nat} (hR : Rg gw gk ms) (hV : Vg gw gk n t t b) (hX : Xn gw gk n t) (hw : w < n) (ht : t < 48) (b1 : 1 ≤ br) (b20 : br ≤ 20) (b2 : gw (9 * w + 3) = nI br) (z1 : z ≤ t) (z2 : gw (9 * w + 8) = nI z) (f1 : f ≤ t) (f2 : gw (9 * w + 7) = nI f) (g1 : g ≤ t) (g2 : gw (9 * w + 6) = nI g) (s1 : s8 ≤ t) (s2 : gk 7 = nI s8) (e1 : f8 ≤ t) (e2 : gk 8 = nI f8) (rea det ref : Int32)  (h6 : gk 6 = 1 - gw (9 * w)) : ∃ told gw' gk' ms', fX1_hit gw gk (nI w) (nI 45) 0 1 = some (told, gw', gk') ∧ fX8_strikesBuoy_216 (if (nI 45) < 45 then 0 else 1) (nI w) (nI br) (gw (9 * w)) 1 (nI 45) 0 rea det ref 0 ms = some (told, 0, rea, det, ref, 0, ms') ∧ Rg gw' gk' ms' ∧ Gb n told gw' gk' := by
  have h10 := hV.1.1
  have w10 : w < 10 := by omega
  obtain ⟨k1, k2, k3, k4, k5, k6, k7, k8, k9, k10, k11⟩ := hV.1
  obtain ⟨d1, d2⟩ := dec1 b1
  obtain ⟨em0, em⟩ := e_ms hR w10
  have A0 := fun g => of0 g w10
  have A3 := fun g v => add3 g w10 v
  have A8 := fun g v => add8 g w10 v
  have A7 := fun g v => add7 g w10 v
  have A6 := fun g v => add6 g w10 v
  have N3 := fun g v => mset3 g w10 v
  have N8 := fun g v => mset8 g w10 v
  have N7 := fun g v => mset7 g w10 v
  have N6 := fun g v => mset6 g w10 v
  have O8 := fun g => mof8 g w10
  have O7 := fun g => mof7 g w10
  have O6 := fun g => mof6 g w10
  have U8 : ∀ x, upd gw (9 * w + 3) x (9 * w + 8) = nI z := fun x => by rw [pk_un (by omega)]; exact z2
  have U7 : ∀ x y, upd (upd gw (9 * w + 3) x) (9 * w + 8) y (9 * w + 7) = nI f := fun x y => by rw [pk_un (by omega), pk_un (by omega)]; exact f2
  have U6 : ∀ x y, upd (upd gw (9 * w + 3) x) (9 * w + 8) y (9 * w + 6) = nI g := fun x y => by rw [pk_un (by omega), pk_un (by omega)]; exact g2
  have U0 : ∀ x y, upd (upd gw (9 * w + 3) x) (9 * w + 8) y (9 * w) = gw (9 * w) := fun x y => by rw [pk_un (by omega), pk_un (by omega)]
  have M8 : ∀ x, upd ms (13 + 9 * w + 3) x (13 + 9 * w + 8) = nI z := fun x => by rw [pk_un (by omega), em 8 (by omega)]; exact z2
  have M7 : ∀ x y, upd (upd ms (13 + 9 * w + 3) x) (13 + 9 * w + 8) y (13 + 9 * w + 7) = nI f := fun x y => by rw [pk_un (by omega), pk_un (by omega), em 7 (by omega)]; exact f2
  have M6 : ∀ x y v, upd (upd (upd ms (13 + 9 * w + 3) x) (13 + 9 * w + 8) y) (13 + 9 * w + 7) v (13 + 9 * w + 6) = nI g := fun x y v => by rw [pk_un (by omega), pk_un (by omega), pk_un (by omega), em 6 (by omega)]; exact g2
  have MK : ∀ x y v q k, k < 13 → upd (upd (upd (upd ms (13 + 9 * w + 3) x) (13 + 9 * w + 8) y) (13 + 9 * w + 7) v) (13 + 9 * w + 6) q k = ms k := fun x y v q k hk => by rw [pk_un (by omega), pk_un (by omega), pk_un (by omega), pk_un (by omega)]
  have ms6 : ms 6 = nI s8 := hR.2.2.2.2.2.2.2.1.trans s2
  have ms7 : ms 7 = nI f8 := hR.2.2.2.2.2.2.2.2.1.trans e2
  have ms8 : ms 8 = gk 11 := hR.2.2.2.2.2.2.2.2.2.1
  have ms4 : ms 4 = gk 3 := hR.2.2.2.2.2.1
  have ms5 : ms 5 = gk 4 := hR.2.2.2.2.2.2.1
  have K6 : ∀ x y v q, upd (upd (upd (upd ms (13 + 9 * w + 3) x) (13 + 9 * w + 8) y) (13 + 9 * w + 7) v) (13 + 9 * w + 6) q 6 = nI s8 := fun x y v q => (MK x y v q 6 (by omega)).trans ms6
  have K7 : ∀ x y v q a, upd (upd (upd (upd (upd ms (13 + 9 * w + 3) x) (13 + 9 * w + 8) y) (13 + 9 * w + 7) v) (13 + 9 * w + 6) q) 6 a 7 = nI f8 := fun x y v q a => by rw [pk_un (by omega)]; exact (MK x y v q 7 (by omega)).trans ms7
  have K8 : ∀ x y v q a c, upd (upd (upd (upd (upd (upd ms (13 + 9 * w + 3) x) (13 + 9 * w + 8) y) (13 + 9 * w + 7) v) (13 + 9 * w + 6) q) 6 a) 7 c 8 = gk 11 := fun x y v q a c => by rw [pk_un (by omega), pk_un (by omega)]; exact (MK x y v q 8 (by omega)).trans ms8
  have K4 : ∀ x y v q a c d, upd (upd (upd (upd (upd (upd (upd ms (13 + 9 * w + 3) x) (13 + 9 * w + 8) y) (13 + 9 * w + 7) v) (13 + 9 * w + 6) q) 6 a) 7 c) 8 d 4 = gk 3 := fun x y v q a c d => by rw [pk_un (by omega), pk_un (by omega), pk_un (by omega)]; exact (MK x y v q 4 (by omega)).trans ms4
  have K5 : ∀ x y v q a c d, upd (upd (upd (upd (upd (upd (upd ms (13 + 9 * w + 3) x) (13 + 9 * w + 8) y) (13 + 9 * w + 7) v) (13 + 9 * w + 6) q) 6 a) 7 c) 8 d 5 = gk 4 := fun x y v q a c d => by rw [pk_un (by omega), pk_un (by omega), pk_un (by omega)]; exact (MK x y v q 5 (by omega)).trans ms5
  have G8 : ∀ x, upd gk 7 x 8 = nI f8 := fun x => e2
  have G11a : ∀ x, upd gk 7 x 11 = gk 11 := fun x => rfl
  have G11b : ∀ x y, upd (upd gk 7 x) 8 y 11 = gk 11 := fun x y => rfl
  have G3 : ∀ x y v, upd (upd (upd gk 7 x) 11 y) 5 v 3 = gk 3 := fun x y v => rfl
  have G4 : ∀ x y v, upd (upd (upd gk 7 x) 11 y) 5 v 4 = gk 4 := fun x y v => rfl
  have G5a : ∀ (g : Nat → Int32) x, upd g 5 x 5 = x := fun g x => rfl
  have G5b : ∀ (g : Nat → Int32) x y, upd (upd g 5 x) 6 y 5 = x := fun g x y => rfl
  have V0 := Vs_mono hV.2 (Nat.le_succ t)
  have L := ge45a
  have i45 : (3 + (nI 45 - 45) : Int32) = 3 := rfl
  have i46 : (3 + (nI 46 - 45) : Int32) = 4 := rfl
  have j45 : (4 + nI 45 - 45 : Int32) = 4 := rfl
  have j46 : (4 + nI 46 - 45 : Int32) = 5 := rfl
  have l45 : (nI 45 - 45 : Int32) = 0 := rfl
  have l46 : (nI 46 - 45 : Int32) = 1 := rfl
  have hc : fX1_hit gw gk (nI w) (nI 45) 0 1 = (fX1_endStroke (upd (upd (upd gw (9 * w + 3) (nI (br - 1))) (9 * w + 8) (nI (z + 1))) (9 * w + 7) (nI (f + 1))) (upd (upd (upd (upd gk 7 (nI (s8 + 1))) 8 (nI (f8 + 1))) 11 (gk 11 + 0)) 5 22)).bind fun q => some (22, q.2.1, q.2.2) := by
    simp only [fX1_hit, fX1_hit_11, fX1_hit_28, fX1_countStrike, fX1_countGoal, fX1_hit_57, fX1_hit_73, fX1_hit_121, fX1_hit_124, fX1_hit_138, A0, A3, A8, A7, A6, L, f10, t00, if_true, if_false, Option.bind_some, b2, d1, U8, U7, U6, U0, nI_1, ca7, ca8, ca11, ca3, ca4, cs5, cs6, ct5, s2, G8, G11a, G11b, G3, G4, G5a, G5b, i45, i46, l45, l46, show (3 + 0 : Int32) = 3 from rfl, show (3 + 1 : Int32) = 4 from rfl]
  have hm : fX8_strikesBuoy_216 (if (nI 45) < 45 then 0 else 1) (nI w) (nI br) (gw (9 * w)) 1 (nI 45) 0 rea det ref 0 ms = (fX8_strokes (upd (upd (upd (upd (upd (upd (upd (upd (upd ms (13 + 9 * w + 3) (nI (br - 1))) (13 + 9 * w + 8) (nI (z + 1))) (13 + 9 * w + 7) (nI (f + 1))) (13 + 9 * w + 6) (nI (g + 0))) 6 (nI (s8 + 1))) 7 (nI (f8 + 1))) 8 (gk 11 + 0)) 2 22) 3 (1 - gw (9 * w))) 22).bind fun q => some (q.1, 0, rea, det, ref, 0, q.2) := by
    simp only [fX8_strikesBuoy_216, fX8_strikesBuoy_265, fX8_strikesBuoy_300, fX8_strikesBuoy_333, fX8_strikesBuoy_355, fX8_strikesBuoy_383, fX8_strikesBuoy_400, fX8_strikesBuoy_418, fX8_strikesBuoy_436, fX8_strikesBuoy_455, N3, N8, N7, N6, O8, O7, O6, L, f10, t00, if_true, if_false, Option.bind_some, d2, M8, M7, M6, nI_1, v103_2, v103_3, v103_4, v103_5, v103_6, v103_7, v103_8, cl_2, cl_3, cl_4, cl_5, cl_6, cl_7, cl_8, K6, K7, K8, K4, K5, j45, j46, Int32.add_zero, Nat.add_zero, ite_self]
  have R := Rg_k6 (Rg_k5 (Rg_k11 (Rg_k8 (Rg_k7 (Rg_w (Rg_w (Rg_w (Rg_w hR (j := 9 * w + 3) (by omega) (nI (br - 1))) (j := 9 * w + 8) (by omega) (nI (z + 1))) (j := 9 * w + 7) (by omega) (nI (f + 1))) (j := 9 * w + 6) (by omega) (nI (g + 0))) (nI (s8 + 1))) (nI (f8 + 1))) (gk 11 + 0)) 22) (1 - gw (9 * w))
  have R2 : Rg (upd (upd (upd gw (9 * w + 3) (nI (br - 1))) (9 * w + 8) (nI (z + 1))) (9 * w + 7) (nI (f + 1))) (upd (upd (upd (upd gk 7 (nI (s8 + 1))) 8 (nI (f8 + 1))) 11 (gk 11 + 0)) 5 22) (upd (upd (upd (upd (upd (upd (upd (upd (upd ms (13 + 9 * w + 3) (nI (br - 1))) (13 + 9 * w + 8) (nI (z + 1))) (13 + 9 * w + 7) (nI (f + 1))) (13 + 9 * w + 6) (nI (g + 0))) 6 (nI (s8 + 1))) 7 (nI (f8 + 1))) 8 (gk 11 + 0)) 2 22) 3 (1 - gw (9 * w))) := Rg_congr R (fun j hj => by first | rfl | (simp only [upd]; grind)) (fun j hj => by first | rfl | (simp only [upd]; grind)) (fun j _ => by first | rfl | (simp only [upd]; grind))
  have K : Vk (upd (upd (upd (upd gk 7 (nI (s8 + 1))) 8 (nI (f8 + 1))) 11 (gk 11 + 0)) 5 22) n t (t + 1) 22 := by
    refine ⟨k1, k2, by omega, k4, k5, rfl, ?_, ⟨s8 + 1, by omega, rfl⟩, ⟨f8 + 1, by omega, rfl⟩, k10, k11⟩
    exact k7
  obtain ⟨gw', gk', ms', b', p1, p2, p3, p4, p5⟩ := stroke_e R2 K (Vs_7 (Vs_8 (Vs_3 V0 hw (b := br - 1) (by omega)) hw (b := z + 1) (by omega)) hw (b := f + 1) (by omega)) ht (by omega) (Xn_mono (Xn_k5 (Xn_k11 (Xn_f (Xn_s (Xn_c (c := 3) hX (by omega) w (nI (br - 1))) hw (by rw [pk_un (by omega), z2, nI_1]) (by rw [s2, nI_1])) hw (by rw [pk_un (by omega), pk_un (by omega), f2, nI_1]) (by rw [pk_un (by omega), e2, nI_1])) _) _) (Nat.le_succ t)) (by omega)
  exact ⟨22, gw', gk', ms', by rw [hc, p1]; rfl, by rw [hm, p2]; rfl, p3, ⟨_, _, _, Nat.le_refl _, p4, p5⟩, by exact ⟨by decide, by decide⟩⟩
set_option maxHeartbeats 4000000 in
theorem hit_o11 {gw gk ms : Nat → Int32} {n t b w br z f g s8 f8 : Nat} (hR : Rg gw gk ms) (hV : Vg gw gk n t t b) (hX : Xn gw gk n t) (hw : w < n) (ht : t < 48) (b1 : 1 ≤ br) (b20 : br ≤ 20) (b2 : gw (9 * w + 3) = nI br) (z1 : z ≤ t) (z2 : gw (9 * w + 8) = nI z) (f1 : f ≤ t) (f2 : gw (9 * w + 7) = nI f) (g1 : g ≤ t) (g2 : gw (9 * w + 6) = nI g) (s1 : s8 ≤ t) (s2 : gk 7 = nI s8) (e1 : f8 ≤ t) (e2 : gk 8 = nI f8) (rea det ref : Int32)  (h6 : gk 6 = 1 - gw (9 * w)) : ∃ told gw' gk' ms', fX1_hit gw gk (nI w) (nI 46) 0 1 = some (told, gw', gk') ∧ fX8_strikesBuoy_216 (if (nI 46) < 45 then 0 else 1) (nI w) (nI br) (gw (9 * w)) 1 (nI 46) 0 rea det ref 0 ms = some (told, 0, rea, det, ref, 0, ms') ∧ Rg gw' gk' ms' ∧ Gb n told gw' gk' := by
  have h10 := hV.1.1
  have w10 : w < 10 := by omega
  obtain ⟨k1, k2, k3, k4, k5, k6, k7, k8, k9, k10, k11⟩ := hV.1
  obtain ⟨d1, d2⟩ := dec1 b1
  obtain ⟨em0, em⟩ := e_ms hR w10
  have A0 := fun g => of0 g w10
  have A3 := fun g v => add3 g w10 v
  have A8 := fun g v => add8 g w10 v
  have A7 := fun g v => add7 g w10 v
  have A6 := fun g v => add6 g w10 v
  have N3 := fun g v => mset3 g w10 v
  have N8 := fun g v => mset8 g w10 v
  have N7 := fun g v => mset7 g w10 v
  have N6 := fun g v => mset6 g w10 v
  have O8 := fun g => mof8 g w10
  have O7 := fun g => mof7 g w10
  have O6 := fun g => mof6 g w10
  have U8 : ∀ x, upd gw (9 * w + 3) x (9 * w + 8) = nI z := fun x => by rw [pk_un (by omega)]; exact z2
  have U7 : ∀ x y, upd (upd gw (9 * w + 3) x) (9 * w + 8) y (9 * w + 7) = nI f := fun x y => by rw [pk_un (by omega), pk_un (by omega)]; exact f2
  have U6 : ∀ x y, upd (upd gw (9 * w + 3) x) (9 * w + 8) y (9 * w + 6) = nI g := fun x y => by rw [pk_un (by omega), pk_un (by omega)]; exact g2
  have U0 : ∀ x y, upd (upd gw (9 * w + 3) x) (9 * w + 8) y (9 * w) = gw (9 * w) := fun x y => by rw [pk_un (by omega), pk_un (by omega)]
  have M8 : ∀ x, upd ms (13 + 9 * w + 3) x (13 + 9 * w + 8) = nI z := fun x => by rw [pk_un (by omega), em 8 (by omega)]; exact z2
  have M7 : ∀ x y, upd (upd ms (13 + 9 * w + 3) x) (13 + 9 * w + 8) y (13 + 9 * w + 7) = nI f := fun x y => by rw [pk_un (by omega), pk_un (by omega), em 7 (by omega)]; exact f2
  have M6 : ∀ x y v, upd (upd (upd ms (13 + 9 * w + 3) x) (13 + 9 * w + 8) y) (13 + 9 * w + 7) v (13 + 9 * w + 6) = nI g := fun x y v => by rw [pk_un (by omega), pk_un (by omega), pk_un (by omega), em 6 (by omega)]; exact g2
  have MK : ∀ x y v q k, k < 13 → upd (upd (upd (upd ms (13 + 9 * w + 3) x) (13 + 9 * w + 8) y) (13 + 9 * w + 7) v) (13 + 9 * w + 6) q k = ms k := fun x y v q k hk => by rw [pk_un (by omega), pk_un (by omega), pk_un (by omega), pk_un (by omega)]
  have ms6 : ms 6 = nI s8 := hR.2.2.2.2.2.2.2.1.trans s2
  have ms7 : ms 7 = nI f8 := hR.2.2.2.2.2.2.2.2.1.trans e2
  have ms8 : ms 8 = gk 11 := hR.2.2.2.2.2.2.2.2.2.1
  have ms4 : ms 4 = gk 3 := hR.2.2.2.2.2.1
  have ms5 : ms 5 = gk 4 := hR.2.2.2.2.2.2.1
  have K6 : ∀ x y v q, upd (upd (upd (upd ms (13 + 9 * w + 3) x) (13 + 9 * w + 8) y) (13 + 9 * w + 7) v) (13 + 9 * w + 6) q 6 = nI s8 := fun x y v q => (MK x y v q 6 (by omega)).trans ms6
  have K7 : ∀ x y v q a, upd (upd (upd (upd (upd ms (13 + 9 * w + 3) x) (13 + 9 * w + 8) y) (13 + 9 * w + 7) v) (13 + 9 * w + 6) q) 6 a 7 = nI f8 := fun x y v q a => by rw [pk_un (by omega)]; exact (MK x y v q 7 (by omega)).trans ms7
  have K8 : ∀ x y v q a c, upd (upd (upd (upd (upd (upd ms (13 + 9 * w + 3) x) (13 + 9 * w + 8) y) (13 + 9 * w + 7) v) (13 + 9 * w + 6) q) 6 a) 7 c 8 = gk 11 := fun x y v q a c => by rw [pk_un (by omega), pk_un (by omega)]; exact (MK x y v q 8 (by omega)).trans ms8
  have K4 : ∀ x y v q a c d, upd (upd (upd (upd (upd (upd (upd ms (13 + 9 * w + 3) x) (13 + 9 * w + 8) y) (13 + 9 * w + 7) v) (13 + 9 * w + 6) q) 6 a) 7 c) 8 d 4 = gk 3 := fun x y v q a c d => by rw [pk_un (by omega), pk_un (by omega), pk_un (by omega)]; exact (MK x y v q 4 (by omega)).trans ms4
  have K5 : ∀ x y v q a c d, upd (upd (upd (upd (upd (upd (upd ms (13 + 9 * w + 3) x) (13 + 9 * w + 8) y) (13 + 9 * w + 7) v) (13 + 9 * w + 6) q) 6 a) 7 c) 8 d 5 = gk 4 := fun x y v q a c d => by rw [pk_un (by omega), pk_un (by omega), pk_un (by omega)]; exact (MK x y v q 5 (by omega)).trans ms5
  have G8 : ∀ x, upd gk 7 x 8 = nI f8 := fun x => e2
  have G11a : ∀ x, upd gk 7 x 11 = gk 11 := fun x => rfl
  have G11b : ∀ x y, upd (upd gk 7 x) 8 y 11 = gk 11 := fun x y => rfl
  have G3 : ∀ x y v, upd (upd (upd gk 7 x) 11 y) 5 v 3 = gk 3 := fun x y v => rfl
  have G4 : ∀ x y v, upd (upd (upd gk 7 x) 11 y) 5 v 4 = gk 4 := fun x y v => rfl
  have G5a : ∀ (g : Nat → Int32) x, upd g 5 x 5 = x := fun g x => rfl
  have G5b : ∀ (g : Nat → Int32) x y, upd (upd g 5 x) 6 y 5 = x := fun g x y => rfl
  have V0 := Vs_mono hV.2 (Nat.le_succ t)
  have L := ge45b
  have i45 : (3 + (nI 45 - 45) : Int32) = 3 := rfl
  have i46 : (3 + (nI 46 - 45) : Int32) = 4 := rfl
  have j45 : (4 + nI 45 - 45 : Int32) = 4 := rfl
  have j46 : (4 + nI 46 - 45 : Int32) = 5 := rfl
  have l45 : (nI 45 - 45 : Int32) = 0 := rfl
  have l46 : (nI 46 - 45 : Int32) = 1 := rfl
  have hc : fX1_hit gw gk (nI w) (nI 46) 0 1 = (fX1_endStroke (upd (upd (upd gw (9 * w + 3) (nI (br - 1))) (9 * w + 8) (nI (z + 1))) (9 * w + 7) (nI (f + 1))) (upd (upd (upd (upd gk 7 (nI (s8 + 1))) 8 (nI (f8 + 1))) 11 (gk 11 + 0)) 5 22)).bind fun q => some (22, q.2.1, q.2.2) := by
    simp only [fX1_hit, fX1_hit_11, fX1_hit_28, fX1_countStrike, fX1_countGoal, fX1_hit_57, fX1_hit_73, fX1_hit_121, fX1_hit_124, fX1_hit_138, A0, A3, A8, A7, A6, L, f10, t00, if_true, if_false, Option.bind_some, b2, d1, U8, U7, U6, U0, nI_1, ca7, ca8, ca11, ca3, ca4, cs5, cs6, ct5, s2, G8, G11a, G11b, G3, G4, G5a, G5b, i45, i46, l45, l46, show (3 + 0 : Int32) = 3 from rfl, show (3 + 1 : Int32) = 4 from rfl]
  have hm : fX8_strikesBuoy_216 (if (nI 46) < 45 then 0 else 1) (nI w) (nI br) (gw (9 * w)) 1 (nI 46) 0 rea det ref 0 ms = (fX8_strokes (upd (upd (upd (upd (upd (upd (upd (upd (upd ms (13 + 9 * w + 3) (nI (br - 1))) (13 + 9 * w + 8) (nI (z + 1))) (13 + 9 * w + 7) (nI (f + 1))) (13 + 9 * w + 6) (nI (g + 0))) 6 (nI (s8 + 1))) 7 (nI (f8 + 1))) 8 (gk 11 + 0)) 2 22) 3 (1 - gw (9 * w))) 22).bind fun q => some (q.1, 0, rea, det, ref, 0, q.2) := by
    simp only [fX8_strikesBuoy_216, fX8_strikesBuoy_265, fX8_strikesBuoy_300, fX8_strikesBuoy_333, fX8_strikesBuoy_355, fX8_strikesBuoy_383, fX8_strikesBuoy_400, fX8_strikesBuoy_418, fX8_strikesBuoy_436, fX8_strikesBuoy_455, N3, N8, N7, N6, O8, O7, O6, L, f10, t00, if_true, if_false, Option.bind_some, d2, M8, M7, M6, nI_1, v103_2, v103_3, v103_4, v103_5, v103_6, v103_7, v103_8, cl_2, cl_3, cl_4, cl_5, cl_6, cl_7, cl_8, K6, K7, K8, K4, K5, j45, j46, Int32.add_zero, Nat.add_zero, ite_self]
  have R := Rg_k6 (Rg_k5 (Rg_k11 (Rg_k8 (Rg_k7 (Rg_w (Rg_w (Rg_w (Rg_w hR (j := 9 * w + 3) (by omega) (nI (br - 1))) (j := 9 * w + 8) (by omega) (nI (z + 1))) (j := 9 * w + 7) (by omega) (nI (f + 1))) (j := 9 * w + 6) (by omega) (nI (g + 0))) (nI (s8 + 1))) (nI (f8 + 1))) (gk 11 + 0)) 22) (1 - gw (9 * w))
  have R2 : Rg (upd (upd (upd gw (9 * w + 3) (nI (br - 1))) (9 * w + 8) (nI (z + 1))) (9 * w + 7) (nI (f + 1))) (upd (upd (upd (upd gk 7 (nI (s8 + 1))) 8 (nI (f8 + 1))) 11 (gk 11 + 0)) 5 22) (upd (upd (upd (upd (upd (upd (upd (upd (upd ms (13 + 9 * w + 3) (nI (br - 1))) (13 + 9 * w + 8) (nI (z + 1))) (13 + 9 * w + 7) (nI (f + 1))) (13 + 9 * w + 6) (nI (g + 0))) 6 (nI (s8 + 1))) 7 (nI (f8 + 1))) 8 (gk 11 + 0)) 2 22) 3 (1 - gw (9 * w))) := Rg_congr R (fun j hj => by first | rfl | (simp only [upd]; grind)) (fun j hj => by first | rfl | (simp only [upd]; grind)) (fun j _ => by first | rfl | (simp only [upd]; grind))
  have K : Vk (upd (upd (upd (upd gk 7 (nI (s8 + 1))) 8 (nI (f8 + 1))) 11 (gk 11 + 0)) 5 22) n t (t + 1) 22 := by
    refine ⟨k1, k2, by omega, k4, k5, rfl, ?_, ⟨s8 + 1, by omega, rfl⟩, ⟨f8 + 1, by omega, rfl⟩, k10, k11⟩
    exact k7
  obtain ⟨gw', gk', ms', b', p1, p2, p3, p4, p5⟩ := stroke_e R2 K (Vs_7 (Vs_8 (Vs_3 V0 hw (b := br - 1) (by omega)) hw (b := z + 1) (by omega)) hw (b := f + 1) (by omega)) ht (by omega) (Xn_mono (Xn_k5 (Xn_k11 (Xn_f (Xn_s (Xn_c (c := 3) hX (by omega) w (nI (br - 1))) hw (by rw [pk_un (by omega), z2, nI_1]) (by rw [s2, nI_1])) hw (by rw [pk_un (by omega), pk_un (by omega), f2, nI_1]) (by rw [pk_un (by omega), e2, nI_1])) _) _) (Nat.le_succ t)) (by omega)
  exact ⟨22, gw', gk', ms', by rw [hc, p1]; rfl, by rw [hm, p2]; rfl, p3, ⟨_, _, _, Nat.le_refl _, p4, p5⟩, by exact ⟨by decide, by decide⟩⟩

