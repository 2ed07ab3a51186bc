/-! the reference as numbers: the same functions over which whole is proved (no code of it is here: only what it answers) -/
def fX8_thrown (m_thr : Int32) : Int32 :=
  m_thr
def fX8_isIn (p0 : Int32) (p1 : Int32) (p2 : Int32) : Int32 :=
  if p0 < p1 then
    0
  else
    if p2 < p0 then
      0
    else
      1
def fX8_lesser (p0 : Int32) (p1 : Int32) : Int32 :=
  if p1 ≤ p0 then
    p1
  else
    p0
def fX8_between (p0 : Int32) (p1 : Int32) : Int32 :=
  if p0 ≤ p1 then
    (p1 - p0)
  else
    (p0 - p1)
def fX8_copies_s_3 (n_c0 : Nat) : Nat → Int32 → Int32 → Int32 → (Nat → Int32) → Option ((Nat → Int32))
  | 0, _, _, _, _ => none
  | k + 1, l1, l3, l4, v_c0 =>
    if 103 ≤ l4 then
      some v_c0
    else
      if vin (l1 + l4) n_c0 = true then
      if vin (l3 + l4) n_c0 = true then
      fX8_copies_s_3 n_c0 k l1 l3 (l4 + 1) (upd v_c0 (l3 + l4).toNatClampNeg (v_c0 (l1 + l4).toNatClampNeg))
      else none
      else none
def fX8_copies_s (n_c0 : Nat) (v_c0 : Nat → Int32) (p0 : Int32) (p1 : Int32) : Option ((Nat → Int32)) :=
  fX8_copies_s_3 n_c0 128 p0 p1 0 v_c0
def fX8_copies_3 (n_c0 : Nat) (v_c0 : Nat → Int32) (n_c1 : Nat) : Nat → Int32 → Int32 → Int32 → (Nat → Int32) → Option ((Nat → Int32))
  | 0, _, _, _, _ => none
  | k + 1, l1, l3, l4, v_c1 =>
    if 103 ≤ l4 then
      some v_c1
    else
      if vin (l1 + l4) n_c0 = true then
      if vin (l3 + l4) n_c1 = true then
      fX8_copies_3 n_c0 v_c0 n_c1 k l1 l3 (l4 + 1) (upd v_c1 (l3 + l4).toNatClampNeg (v_c0 (l1 + l4).toNatClampNeg))
      else none
      else none
def fX8_copies (n_c0 : Nat) (v_c0 : Nat → Int32) (n_c1 : Nat) (v_c1 : Nat → Int32) (p0 : Int32) (p1 : Int32) : Option ((Nat → Int32)) :=
  fX8_copies_3 n_c0 v_c0 n_c1 128 p0 p1 0 v_c1
def fX8_keeps (m_thr : Int32) (v_ms : Nat → Int32) (v_mw : Nat → Int32) : Option (Int32 × (Nat → Int32)) :=
  (fX8_copies 103 v_ms 103 v_mw 0 0).bind fun q1 =>
  some (0, q1)
def fX8_changed_54 (v_mw : Nat → Int32) (m_chg : Int32) (v_mp : Nat → Int32) : Option (Int32 × (Nat → Int32)) :=
  (fX8_copies 103 v_mw 618 v_mp 0 (103 * m_chg)).bind fun q5 =>
  some ((m_chg + 1), q5)
def fX8_changed_11 (v_mw : Nat → Int32) : Nat → Int32 → Int32 → (Nat → Int32) → Option (Int32 × (Nat → Int32))
  | 0, _, _, _ => none
  | k + 1, l1, m_chg, v_mp =>
    if 6 ≤ l1 then
      fX8_changed_54 v_mw (m_chg - 1) v_mp
    else
      (fX8_copies_s 618 v_mp (103 * l1) (103 * (l1 - 1))).bind fun q3 =>
      fX8_changed_11 v_mw k (l1 + 1) m_chg q3
def fX8_changed (m_chg : Int32) (v_mw : Nat → Int32) (v_mp : Nat → Int32) : Option (Int32 × (Nat → Int32)) :=
  if m_chg = 6 then
    fX8_changed_11 v_mw 64 1 m_chg v_mp
  else
    fX8_changed_54 v_mw m_chg v_mp
def fX8_ends_25 (v_mw : Nat → Int32) (x1 : Int32) (m_chg : Int32) (m_thr : Int32) (v_mp : Nat → Int32) : Option (Int32 × Int32 × Int32 × (Nat → Int32)) :=
  some (0, m_chg, x1, v_mp)
def fX8_ends (m_chg : Int32) (m_thr : Int32) (v_mw : Nat → Int32) (v_mp : Nat → Int32) (p0 : Int32) (p1 : Int32) : Option (Int32 × Int32 × Int32 × (Nat → Int32)) :=
  if m_thr = 0 then
    (fX8_changed m_chg v_mw v_mp).bind fun q2 =>
    some (p0, q2.1, m_thr, q2.2)
  else
    fX8_ends_25 v_mw (if m_thr = 9 then p1 else m_thr) m_chg m_thr v_mp
def fX8_isThrown_10 (x1 : Int32) (l1 : Int32) (m_thr : Int32) : Option (Int32 × Int32) :=
  some ((l1 &&& 1), x1)
def fX8_isThrown (m_thr : Int32) (p0 : Int32) (p1 : Int32) : Option (Int32 × Int32) :=
  fX8_isThrown_10 (if p0 = 0 then 0 else p1) p0 m_thr
def fX8_isRefused (m_thr : Int32) (m_rea : Int32) (m_det : Int32) (m_ref : Int32) (p0 : Int32) (p1 : Int32) (p2 : Int32) : Option (Int32 × Int32 × Int32 × Int32 × Int32) :=
  if p0 = 0 then
    some ((p0 &&& 1), m_thr, m_rea, m_det, m_ref)
  else
    some ((p0 &&& 1), 9, p1, p2, (-1))
def fX8_of (v_ms : Nat → Int32) (p0 : Int32) (p1 : Int32) : Option Int32 :=
  if vin ((13 + (9 * p0)) + p1) 103 = true then
  some (v_ms ((13 + (9 * p0)) + p1).toNatClampNeg)
  else none
def fX8_sets (v_ms : Nat → Int32) (p0 : Int32) (p1 : Int32) (p2 : Int32) : Option ((Nat → Int32)) :=
  if vin ((13 + (9 * p0)) + p1) 103 = true then
  some (upd v_ms ((13 + (9 * p0)) + p1).toNatClampNeg p2)
  else none
def fX8_isWhale (v_ms : Nat → Int32) (p0 : Int32) : Option Int32 :=
  if vin 0 103 = true then
  some ((fX8_isIn p0 0 ((v_ms (0 : Int32).toNatClampNeg) - 1)) &&& 1)
  else none
def fX8_isCell (p0 : Int32) : Int32 :=
  ((fX8_isIn p0 0 44) &&& 1)
def fX8_apart (p0 : Int32) (p1 : Int32) : Int32 :=
  ((fX8_between (p0 / 9) (p1 / 9)) + (fX8_between (p0 - p0 / 9 * 9) (p1 - p1 / 9 * 9)))
def fX8_tideAt (p0 : Int32) : Int32 :=
  (fX8_between 8 (p0 - p0 / 16 * 16))
def fX8_isDryAt (p0 : Int32) (p1 : Int32) : Int32 :=
  if 2 < (fX8_tideAt p1) then
    0
  else
    if p0 < 9 then
      1
    else
      if p0 < 36 then
        0
      else
        1
def fX8_isDryNow (v_ms : Nat → Int32) (p0 : Int32) : Option Int32 :=
  if vin 1 103 = true then
  some ((fX8_isDryAt p0 (v_ms (1 : Int32).toNatClampNeg)) &&& 1)
  else none
def fX8_isDry_13 (v_ms : Nat → Int32) (x1 : Int32) (l1 : Int32) (m_thr : Int32) : Option (Int32 × Int32) :=
  (fX8_isThrown m_thr x1 1).bind fun q2 =>
  if q2.1 = 0 then
    (fX8_isDryNow v_ms l1).bind fun q5 =>
    if q5 = 0 then
      some (0, q2.2)
    else
      some (1, q2.2)
  else
    some (0, q2.2)
def fX8_isDry (m_thr : Int32) (v_ms : Nat → Int32) (p0 : Int32) : Option (Int32 × Int32) :=
  fX8_isDry_13 v_ms (if (fX8_isCell p0) = 0 then 1 else 0) p0 m_thr
def fX8_tide_17 (x1 : Int32) (l1 : Int32) (m_thr : Int32) : Option (Int32 × Int32) :=
  (fX8_isThrown m_thr x1 1).bind fun q2 =>
  if q2.1 = 0 then
    some ((fX8_tideAt l1), q2.2)
  else
    some (0, q2.2)
def fX8_tide (m_thr : Int32) (p0 : Int32) : Option (Int32 × Int32) :=
  fX8_tide_17 (if (fX8_isIn p0 0 999) = 0 then 1 else 0) p0 m_thr
def fX8_tideAgain (m_thr : Int32) (p0 : Int32) : Option (Int32 × Int32) :=
  (fX8_tide m_thr p0).bind fun q1 =>
  some (q1.1, q1.2)
def fX8_turnsIn_40 (v_ms : Nat → Int32) : Nat → Int32 → Int32 → Int32 → Option (Int32 × Int32)
  | 0, _, _, _ => none
  | k + 1, l1, l2, m_thr =>
    if vin 1 103 = true then
    (fX8_isDryNow v_ms l1).bind fun q9 =>
    if (fX8_isDryAt l1 ((v_ms (1 : Int32).toNatClampNeg) + l2)) = q9 then
      fX8_turnsIn_40 v_ms k l1 (l2 + 1) m_thr
    else
      some (l2, m_thr)
    else none
def fX8_turnsIn_13 (v_ms : Nat → Int32) (x1 : Int32) (l1 : Int32) (m_thr : Int32) : Option (Int32 × Int32) :=
  (fX8_isThrown m_thr x1 1).bind fun q2 =>
  if q2.1 = 0 then
    (fX8_isThrown q2.2 (fX8_isIn l1 9 35) 2).bind fun q5 =>
    if q5.1 = 0 then
      fX8_turnsIn_40 v_ms 64 l1 0 q5.2
    else
      some (0, q5.2)
  else
    some (0, q2.2)
def fX8_turnsIn (m_thr : Int32) (v_ms : Nat → Int32) (p0 : Int32) : Option (Int32 × Int32) :=
  fX8_turnsIn_13 v_ms (if (fX8_isCell p0) = 0 then 1 else 0) p0 m_thr
def fX8_whaleAt_2 (v_ms : Nat → Int32) : Nat → Int32 → Int32 → Option Int32
  | 0, _, _ => none
  | k + 1, l1, l2 =>
    if vin 0 103 = true then
    if (v_ms (0 : Int32).toNatClampNeg) ≤ l2 then
      some (-1)
    else
      (fX8_of v_ms l2 4).bind fun q3 =>
      if q3 = l1 then
        some l2
      else
        fX8_whaleAt_2 v_ms k l1 (l2 + 1)
    else none
def fX8_whaleAt (v_ms : Nat → Int32) (p0 : Int32) : Option Int32 :=
  fX8_whaleAt_2 v_ms 64 p0 0
def fX8_at_13 (v_ms : Nat → Int32) (x1 : Int32) (l1 : Int32) (m_thr : Int32) : Option (Int32 × Int32) :=
  (fX8_isThrown m_thr x1 1).bind fun q2 =>
  if q2.1 = 0 then
    (fX8_whaleAt v_ms l1).bind fun q5 =>
    some (q5, q2.2)
  else
    some (0, q2.2)
def fX8_at (m_thr : Int32) (v_ms : Nat → Int32) (p0 : Int32) : Option (Int32 × Int32) :=
  fX8_at_13 v_ms (if (fX8_isCell p0) = 0 then 1 else 0) p0 m_thr
def fX8_ofTeam_30 (v_ms : Nat → Int32) (rec4 : Int32 → Int32 → Int32 → Option Int32) (x0 : Int32) (x1 : Int32) (l1 : Int32) (l3 : Int32) : Option Int32 :=
  rec4 l1 (x0 + x1) (l3 + 1)
def fX8_ofTeam_4 (v_ms : Nat → Int32) : Nat → Int32 → Int32 → Int32 → Option Int32
  | 0, _, _, _ => none
  | k + 1, l1, l2, l3 =>
    if vin 0 103 = true then
    if (v_ms (0 : Int32).toNatClampNeg) ≤ l3 then
      some l2
    else
      (fX8_of v_ms l3 0).bind fun q3 =>
      fX8_ofTeam_30 v_ms (fX8_ofTeam_4 v_ms k) l2 (if q3 = l1 then 1 else 0) l1 l3
    else none
def fX8_ofTeam (v_ms : Nat → Int32) (p0 : Int32) : Option Int32 :=
  fX8_ofTeam_4 v_ms 64 p0 0 0
def fX8_comes_126 (x1 : Int32) (l1 : Int32) (l2 : Int32) (l3 : Int32) (l5 : Int32) (l6 : Int32) (m_thr : Int32) (m_rea : Int32) (m_det : Int32) (m_ref : Int32) (v_ms : Nat → Int32) : Option (Int32 × Int32 × Int32 × Int32 × Int32 × (Nat → Int32)) :=
  (fX8_isRefused m_thr m_rea m_det m_ref x1 7 l6).bind fun q19 =>
  if q19.1 = 0 then
    if vin 0 103 = true then
    (fX8_sets v_ms (v_ms (0 : Int32).toNatClampNeg) 0 l1).bind fun q23 =>
    (fX8_sets q23 (v_ms (0 : Int32).toNatClampNeg) 1 l2).bind fun q25 =>
    (fX8_sets q25 (v_ms (0 : Int32).toNatClampNeg) 2 l3).bind fun q27 =>
    (fX8_sets q27 (v_ms (0 : Int32).toNatClampNeg) 3 20).bind fun q29 =>
    (fX8_sets q29 (v_ms (0 : Int32).toNatClampNeg) 4 l5).bind fun q31 =>
    if vin 0 103 = true then
    if vin 0 103 = true then
    some ((v_ms (0 : Int32).toNatClampNeg), q19.2.1, q19.2.2.1, q19.2.2.2.1, q19.2.2.2.2, (upd q31 (0 : Int32).toNatClampNeg ((q31 (0 : Int32).toNatClampNeg) + 1)))
    else none
    else none
    else none
  else
    some (0, q19.2.1, q19.2.2.1, q19.2.2.2.1, q19.2.2.2.2, v_ms)
def fX8_comes_107 (x1 : Int32) (l1 : Int32) (l2 : Int32) (l3 : Int32) (l5 : Int32) (l6 : Int32) (m_thr : Int32) (m_rea : Int32) (m_det : Int32) (m_ref : Int32) (v_ms : Nat → Int32) : Option (Int32 × Int32 × Int32 × Int32 × Int32 × (Nat → Int32)) :=
  (fX8_isRefused m_thr m_rea m_det m_ref x1 1 5).bind fun q15 =>
  if q15.1 = 0 then
    fX8_comes_126 (if l6 < 0 then 0 else 1) l1 l2 l3 l5 l6 q15.2.1 q15.2.2.1 q15.2.2.2.1 q15.2.2.2.2 v_ms
  else
    some (0, q15.2.1, q15.2.2.1, q15.2.2.2.1, q15.2.2.2.2, v_ms)
def fX8_comes_93 (x0 : Int32) (l1 : Int32) (l2 : Int32) (l3 : Int32) (l4 : Int32) (l5 : Int32) (m_thr : Int32) (m_rea : Int32) (m_det : Int32) (m_ref : Int32) (v_ms : Nat → Int32) : Option (Int32 × Int32 × Int32 × Int32 × Int32 × (Nat → Int32)) :=
  fX8_comes_107 (if l4 = 5 then 1 else 0) l1 l2 l3 l5 x0 m_thr m_rea m_det m_ref v_ms
def fX8_comes_76 (x0 : Int32) (l1 : Int32) (l2 : Int32) (l3 : Int32) (l4 : Int32) (m_thr : Int32) (m_rea : Int32) (m_det : Int32) (m_ref : Int32) (v_ms : Nat → Int32) : Option (Int32 × Int32 × Int32 × Int32 × Int32 × (Nat → Int32)) :=
  if 0 ≤ x0 then
    (fX8_whaleAt v_ms x0).bind fun q12 =>
    fX8_comes_93 q12 l1 l2 l3 l4 x0 m_thr m_rea m_det m_ref v_ms
  else
    fX8_comes_93 (-1) l1 l2 l3 l4 x0 m_thr m_rea m_det m_ref v_ms
def fX8_comes_66 (x0 : Int32) (l1 : Int32) (l2 : Int32) (l3 : Int32) (l4 : Int32) (m_thr : Int32) (m_rea : Int32) (m_det : Int32) (m_ref : Int32) (v_ms : Nat → Int32) : Option (Int32 × Int32 × Int32 × Int32 × Int32 × (Nat → Int32)) :=
  fX8_comes_76 (x0 + (9 * l4)) l1 l2 l3 l4 m_thr m_rea m_det m_ref v_ms
def fX8_comes_33 (x1 : Int32) (l1 : Int32) (l2 : Int32) (l3 : Int32) (m_thr : Int32) (m_rea : Int32) (m_det : Int32) (m_ref : Int32) (v_ms : Nat → Int32) : Option (Int32 × Int32 × Int32 × Int32 × Int32 × (Nat → Int32)) :=
  (fX8_isThrown m_thr x1 1).bind fun q4 =>
  if q4.1 = 0 then
    (fX8_ofTeam v_ms l1).bind fun q7 =>
    if 3 ≤ q7 then
      fX8_comes_76 (-1) l1 l2 l3 q7 q4.2 m_rea m_det m_ref v_ms
    else
      fX8_comes_66 (if l1 = 0 then 10 else 16) l1 l2 l3 q7 q4.2 m_rea m_det m_ref v_ms
  else
    some (0, q4.2, m_rea, m_det, m_ref, v_ms)
def fX8_comes (m_thr : Int32) (m_rea : Int32) (m_det : Int32) (m_ref : Int32) (v_ms : Nat → Int32) (p0 : Int32) (p1 : Int32) (p2 : Int32) : Option (Int32 × Int32 × Int32 × Int32 × Int32 × (Nat → Int32)) :=
  fX8_comes_33 (if (fX8_isIn p0 0 1) = 0 then 1 else (if (fX8_isIn p1 1 5) = 0 then 1 else (if (fX8_isIn p2 1 4) = 0 then 1 else 0))) p0 p1 p2 m_thr m_rea m_det m_ref v_ms
def fX8_whale (m_chg : Int32) (m_thr : Int32) (m_rea : Int32) (m_det : Int32) (m_ref : Int32) (v_ms : Nat → Int32) (v_mw : Nat → Int32) (v_mp : Nat → Int32) (p0 : Int32) (p1 : Int32) (p2 : Int32) : Option (Int32 × Int32 × Int32 × Int32 × Int32 × Int32 × (Nat → Int32) × (Nat → Int32) × (Nat → Int32)) :=
  (fX8_keeps m_thr v_ms v_mw).bind fun q1 =>
  (fX8_comes q1.1 m_rea m_det m_ref v_ms p0 p1 p2).bind fun q3 =>
  (fX8_ends m_chg q3.2.1 q1.2 v_mp q3.1 2).bind fun q5 =>
  some (q5.1, q5.2.1, q5.2.2.1, q3.2.2.1, q3.2.2.2.1, q3.2.2.2.2.1, q3.2.2.2.2.2, q1.2, q5.2.2.2)
def fX8_strokes_57 : Nat → Int32 → Int32 → (Nat → Int32) → Option (Int32 × (Nat → Int32))
  | 0, _, _, _ => none
  | k + 1, l1, l2, v_ms =>
    if vin 0 103 = true then
    if (v_ms (0 : Int32).toNatClampNeg) ≤ l2 then
      some (l1, v_ms)
    else
      (fX8_sets v_ms l2 5 0).bind fun q11 =>
      (fX8_of q11 l2 3).bind fun q13 =>
      (fX8_sets q11 l2 3 (fX8_lesser 20 (q13 + 5))).bind fun q15 =>
      fX8_strokes_57 k l1 (l2 + 1) q15
    else none
def fX8_strokes (v_ms : Nat → Int32) (p0 : Int32) : Option (Int32 × (Nat → Int32)) :=
  if vin 1 103 = true then
  if vin 1 103 = true then
  if vin 1 103 = true then
  if (((upd v_ms (1 : Int32).toNatClampNeg ((v_ms (1 : Int32).toNatClampNeg) + 1)) (1 : Int32).toNatClampNeg) - ((upd v_ms (1 : Int32).toNatClampNeg ((v_ms (1 : Int32).toNatClampNeg) + 1)) (1 : Int32).toNatClampNeg) / 12 * 12) = 0 then
    if vin 2 103 = true then
    if vin 3 103 = true then
    if vin 11 103 = true then
    if vin 12 103 = true then
    fX8_strokes_57 64 p0 0 (upd (upd (upd (upd (upd v_ms (1 : Int32).toNatClampNeg ((v_ms (1 : Int32).toNatClampNeg) + 1)) (2 : Int32).toNatClampNeg 22) (3 : Int32).toNatClampNeg (-1)) (11 : Int32).toNatClampNeg 0) (12 : Int32).toNatClampNeg 0)
    else none
    else none
    else none
    else none
  else
    some (p0, (upd v_ms (1 : Int32).toNatClampNeg ((v_ms (1 : Int32).toNatClampNeg) + 1)))
  else none
  else none
  else none
def fX8_isOver_17 (v_ms : Nat → Int32) (x1 : Int32) (m_thr : Int32) (m_rea : Int32) (m_det : Int32) (m_ref : Int32) : Option (Int32 × Int32 × Int32 × Int32 × Int32) :=
  (fX8_isRefused m_thr m_rea m_det m_ref x1 2 48).bind fun q3 =>
  some ((q3.1 &&& 1), q3.2.1, q3.2.2.1, q3.2.2.2.1, q3.2.2.2.2)
def fX8_isOver (m_thr : Int32) (m_rea : Int32) (m_det : Int32) (m_ref : Int32) (v_ms : Nat → Int32) : Option (Int32 × Int32 × Int32 × Int32 × Int32) :=
  if vin 1 103 = true then
  fX8_isOver_17 v_ms (if (v_ms (1 : Int32).toNatClampNeg) = 48 then 1 else 0) m_thr m_rea m_det m_ref
  else none
def fX8_isOnBench_15 (v_ms : Nat → Int32) (x1 : Int32) (l1 : Int32) (m_thr : Int32) (m_rea : Int32) (m_det : Int32) (m_ref : Int32) : Option (Int32 × Int32 × Int32 × Int32 × Int32) :=
  (fX8_isRefused m_thr m_rea m_det m_ref x1 3 l1).bind fun q4 =>
  some ((q4.1 &&& 1), q4.2.1, q4.2.2.1, q4.2.2.2.1, q4.2.2.2.2)
def fX8_isOnBench (m_thr : Int32) (m_rea : Int32) (m_det : Int32) (m_ref : Int32) (v_ms : Nat → Int32) (p0 : Int32) : Option (Int32 × Int32 × Int32 × Int32 × Int32) :=
  (fX8_of v_ms p0 4).bind fun q1 =>
  fX8_isOnBench_15 v_ms (if 0 ≤ q1 then 0 else 1) p0 m_thr m_rea m_det m_ref
def fX8_isStrandedNow (v_ms : Nat → Int32) (p0 : Int32) : Option Int32 :=
  (fX8_of v_ms p0 4).bind fun q1 =>
  if q1 < 0 then
    some 0
  else
    (fX8_of v_ms p0 4).bind fun q4 =>
    (fX8_isDryNow v_ms q4).bind fun q6 =>
    if q6 = 0 then
      some 0
    else
      some 1
def fX8_swaps_131 (x1 : Int32) (l1 : Int32) (l2 : Int32) (l3 : Int32) (m_thr : Int32) (m_rea : Int32) (m_det : Int32) (m_ref : Int32) (v_ms : Nat → Int32) : Option (Int32 × Int32 × Int32 × Int32 × Int32 × (Nat → Int32)) :=
  if vin (9 + l3) 103 = true then
  (fX8_isRefused m_thr m_rea m_det m_ref x1 14 (v_ms (9 + l3).toNatClampNeg)).bind fun q37 =>
  if q37.1 = 0 then
    (fX8_of v_ms l1 4).bind fun q40 =>
    (fX8_sets v_ms l2 4 q40).bind fun q42 =>
    (fX8_sets q42 l2 5 0).bind fun q44 =>
    (fX8_sets q44 l1 4 (-1)).bind fun q46 =>
    (fX8_sets q46 l1 5 0).bind fun q48 =>
    if vin (11 + l3) 103 = true then
    if vin (11 + l3) 103 = true then
    if vin (9 + l3) 103 = true then
    if vin (9 + l3) 103 = true then
    if vin (11 + l3) 103 = true then
    (fX8_strokes (upd (upd q48 (11 + l3).toNatClampNeg ((q48 (11 + l3).toNatClampNeg) + 1)) (9 + l3).toNatClampNeg (((upd q48 (11 + l3).toNatClampNeg ((q48 (11 + l3).toNatClampNeg) + 1)) (9 + l3).toNatClampNeg) + 1)) (2 - ((upd (upd q48 (11 + l3).toNatClampNeg ((q48 (11 + l3).toNatClampNeg) + 1)) (9 + l3).toNatClampNeg (((upd q48 (11 + l3).toNatClampNeg ((q48 (11 + l3).toNatClampNeg) + 1)) (9 + l3).toNatClampNeg) + 1)) (11 + l3).toNatClampNeg))).bind fun q55 =>
    some (q55.1, q37.2.1, q37.2.2.1, q37.2.2.2.1, q37.2.2.2.2, q55.2)
    else none
    else none
    else none
    else none
    else none
  else
    some (0, q37.2.1, q37.2.2.1, q37.2.2.2.1, q37.2.2.2.2, v_ms)
  else none
def fX8_swaps_98 (x1 : Int32) (l1 : Int32) (l2 : Int32) (l3 : Int32) (m_thr : Int32) (m_rea : Int32) (m_det : Int32) (m_ref : Int32) (v_ms : Nat → Int32) : Option (Int32 × Int32 × Int32 × Int32 × Int32 × (Nat → Int32)) :=
  (fX8_of v_ms l2 4).bind fun q29 =>
  (fX8_isRefused m_thr m_rea m_det m_ref x1 13 q29).bind fun q31 =>
  if q31.1 = 0 then
    if vin (11 + l3) 103 = true then
    fX8_swaps_131 (if (v_ms (11 + l3).toNatClampNeg) = 2 then 1 else 0) l1 l2 l3 q31.2.1 q31.2.2.1 q31.2.2.2.1 q31.2.2.2.2 v_ms
    else none
  else
    some (0, q31.2.1, q31.2.2.1, q31.2.2.2.1, q31.2.2.2.2, v_ms)
def fX8_swaps_69 (x1 : Int32) (l1 : Int32) (l2 : Int32) (l3 : Int32) (m_thr : Int32) (m_rea : Int32) (m_det : Int32) (m_ref : Int32) (v_ms : Nat → Int32) : Option (Int32 × Int32 × Int32 × Int32 × Int32 × (Nat → Int32)) :=
  (fX8_of v_ms l2 0).bind fun q21 =>
  (fX8_isRefused m_thr m_rea m_det m_ref x1 12 q21).bind fun q23 =>
  if q23.1 = 0 then
    (fX8_of v_ms l2 4).bind fun q26 =>
    fX8_swaps_98 (if q26 < 0 then 0 else 1) l1 l2 l3 q23.2.1 q23.2.2.1 q23.2.2.2.1 q23.2.2.2.2 v_ms
  else
    some (0, q23.2.1, q23.2.2.1, q23.2.2.2.1, q23.2.2.2.2, v_ms)
def fX8_swaps_22 (x1 : Int32) (l1 : Int32) (l2 : Int32) (m_thr : Int32) (m_rea : Int32) (m_det : Int32) (m_ref : Int32) (v_ms : Nat → Int32) : Option (Int32 × Int32 × Int32 × Int32 × Int32 × (Nat → Int32)) :=
  (fX8_isThrown m_thr x1 1).bind fun q7 =>
  if q7.1 = 0 then
    (fX8_isOver q7.2 m_rea m_det m_ref v_ms).bind fun q10 =>
    if q10.1 = 0 then
      (fX8_isOnBench q10.2.1 q10.2.2.1 q10.2.2.2.1 q10.2.2.2.2 v_ms l1).bind fun q13 =>
      if q13.1 = 0 then
        (fX8_of v_ms l1 0).bind fun q16 =>
        (fX8_of v_ms l2 0).bind fun q18 =>
        fX8_swaps_69 (if q18 = q16 then 0 else 1) l1 l2 q16 q13.2.1 q13.2.2.1 q13.2.2.2.1 q13.2.2.2.2 v_ms
      else
        some (0, q13.2.1, q13.2.2.1, q13.2.2.2.1, q13.2.2.2.2, v_ms)
    else
      some (0, q10.2.1, q10.2.2.1, q10.2.2.2.1, q10.2.2.2.2, v_ms)
  else
    some (0, q7.2, m_rea, m_det, m_ref, v_ms)
def fX8_swaps (m_thr : Int32) (m_rea : Int32) (m_det : Int32) (m_ref : Int32) (v_ms : Nat → Int32) (p0 : Int32) (p1 : Int32) : Option (Int32 × Int32 × Int32 × Int32 × Int32 × (Nat → Int32)) :=
  (fX8_isWhale v_ms p0).bind fun q1 =>
  if q1 = 0 then
    fX8_swaps_22 1 p0 p1 m_thr m_rea m_det m_ref v_ms
  else
    (fX8_isWhale v_ms p1).bind fun q4 =>
    fX8_swaps_22 (if q4 = 0 then 1 else 0) p0 p1 m_thr m_rea m_det m_ref v_ms
def fX8_swap (m_chg : Int32) (m_thr : Int32) (m_rea : Int32) (m_det : Int32) (m_ref : Int32) (v_ms : Nat → Int32) (v_mw : Nat → Int32) (v_mp : Nat → Int32) (p0 : Int32) (p1 : Int32) : Option (Int32 × Int32 × Int32 × Int32 × Int32 × Int32 × (Nat → Int32) × (Nat → Int32) × (Nat → Int32)) :=
  (fX8_keeps m_thr v_ms v_mw).bind fun q1 =>
  (fX8_swaps q1.1 m_rea m_det m_ref v_ms p0 p1).bind fun q3 =>
  (fX8_ends m_chg q3.2.1 q1.2 v_mp q3.1 2).bind fun q5 =>
  some (q5.1, q5.2.1, q5.2.2.1, q3.2.2.1, q3.2.2.2.1, q3.2.2.2.2.1, q3.2.2.2.2.2, q1.2, q5.2.2.2)
def fX8_next (p0 : Int32) (p1 : Int32) : Int32 :=
  if p1 = 0 then
    if 9 ≤ p0 then
      (p0 - 9)
    else
      (-1)
  else
    if p1 = 1 then
      if (p0 - p0 / 9 * 9) = 8 then
        (-1)
      else
        (p0 + 1)
    else
      if p1 = 2 then
        if (p0 + 9) < 45 then
          (p0 + 9)
        else
          (-1)
      else
        if (p0 - p0 / 9 * 9) = 0 then
          (-1)
        else
          (p0 - 1)
def fX8_finds_29 (v_ms : Nat → Int32) (rec2 : Int32 → Int32 → (Nat → Int32) → Option ((Nat → Int32))) (x1 : Int32) (x2 : Int32) (l1 : Int32) (l2 : Int32) (v_mf : Nat → Int32) : Option ((Nat → Int32)) :=
  if vin x1 45 = true then
  rec2 l1 (l2 + 1) (upd v_mf x1.toNatClampNeg x2)
  else none
def fX8_finds_140 (v_ms : Nat → Int32) (rec38 : Int32 → (Nat → Int32) → Option ((Nat → Int32))) (rec46 : Int32 → Int32 → (Nat → Int32) → Option ((Nat → Int32))) (l2 : Int32) (l3 : Int32) (v_mf : Nat → Int32) : Option ((Nat → Int32)) :=
  rec46 l2 (l3 + 1) v_mf
def fX8_finds_115 (v_ms : Nat → Int32) (rec38 : Int32 → (Nat → Int32) → Option ((Nat → Int32))) (rec46 : Int32 → Int32 → (Nat → Int32) → Option ((Nat → Int32))) (x0 : Int32) (l2 : Int32) (l3 : Int32) (l4 : Int32) (l5 : Int32) (v_mf : Nat → Int32) : Option ((Nat → Int32)) :=
  if x0 = 0 then
    fX8_finds_140 v_ms rec38 rec46 l2 l3 v_mf
  else
    if vin l4 45 = true then
    if vin l5 45 = true then
    fX8_finds_140 v_ms rec38 rec46 1 l3 (upd v_mf l5.toNatClampNeg ((v_mf l4.toNatClampNeg) + 1))
    else none
    else none
def fX8_finds_46 (v_ms : Nat → Int32) (rec38 : Int32 → (Nat → Int32) → Option ((Nat → Int32))) : Nat → Int32 → Int32 → (Nat → Int32) → Option ((Nat → Int32))
  | 0, _, _, _ => none
  | k + 1, l2, l3, v_mf =>
    if 180 ≤ l3 then
      rec38 l2 v_mf
    else
      if (fX8_next (l3 / 4) (l3 - l3 / 4 * 4)) < 0 then
        fX8_finds_115 v_ms rec38 (fX8_finds_46 v_ms rec38 k) 0 l2 l3 (l3 / 4) (fX8_next (l3 / 4) (l3 - l3 / 4 * 4)) v_mf
      else
        if vin (l3 / 4) 45 = true then
        if vin (fX8_next (l3 / 4) (l3 - l3 / 4 * 4)) 45 = true then
        if (v_mf (fX8_next (l3 / 4) (l3 - l3 / 4 * 4)).toNatClampNeg) ≤ ((v_mf (l3 / 4).toNatClampNeg) + 1) then
          fX8_finds_115 v_ms rec38 (fX8_finds_46 v_ms rec38 k) 0 l2 l3 (l3 / 4) (fX8_next (l3 / 4) (l3 - l3 / 4 * 4)) v_mf
        else
          (fX8_isDryNow v_ms (fX8_next (l3 / 4) (l3 - l3 / 4 * 4))).bind fun q12 =>
          if q12 = 0 then
            (fX8_whaleAt v_ms (fX8_next (l3 / 4) (l3 - l3 / 4 * 4))).bind fun q15 =>
            fX8_finds_115 v_ms rec38 (fX8_finds_46 v_ms rec38 k) (if 0 ≤ q15 then 0 else 1) l2 l3 (l3 / 4) (fX8_next (l3 / 4) (l3 - l3 / 4 * 4)) v_mf
          else
            fX8_finds_115 v_ms rec38 (fX8_finds_46 v_ms rec38 k) 0 l2 l3 (l3 / 4) (fX8_next (l3 / 4) (l3 - l3 / 4 * 4)) v_mf
        else none
        else none
def fX8_finds_38 (v_ms : Nat → Int32) : Nat → Int32 → (Nat → Int32) → Option ((Nat → Int32))
  | 0, _, _ => none
  | k + 1, l2, v_mf =>
    if l2 = 0 then
      some v_mf
    else
      fX8_finds_46 v_ms (fX8_finds_38 v_ms k) 256 0 0 v_mf
def fX8_finds_2 (v_ms : Nat → Int32) : Nat → Int32 → Int32 → (Nat → Int32) → Option ((Nat → Int32))
  | 0, _, _, _ => none
  | k + 1, l1, l2, v_mf =>
    if 45 ≤ l2 then
      fX8_finds_38 v_ms 64 1 v_mf
    else
      (fX8_of v_ms l1 4).bind fun q2 =>
      fX8_finds_29 v_ms (fX8_finds_2 v_ms k) l2 (if l2 = q2 then 0 else 99) l1 l2 v_mf
def fX8_finds (v_ms : Nat → Int32) (v_mf : Nat → Int32) (p0 : Int32) : Option ((Nat → Int32)) :=
  fX8_finds_2 v_ms 64 p0 0 v_mf
def fX8_steps_74 (v_ms : Nat → Int32) (x1 : Int32) (l2 : Int32) (m_thr : Int32) (v_mf : Nat → Int32) : Option (Int32 × Int32 × (Nat → Int32)) :=
  (fX8_isThrown m_thr x1 2).bind fun q18 =>
  if q18.1 = 0 then
    if vin l2 45 = true then
    some ((v_mf l2.toNatClampNeg), q18.2, v_mf)
    else none
  else
    some (0, q18.2, v_mf)
def fX8_steps_43 (v_ms : Nat → Int32) (x1 : Int32) (l1 : Int32) (l2 : Int32) (m_thr : Int32) (v_mf : Nat → Int32) : Option (Int32 × Int32 × (Nat → Int32)) :=
  (fX8_isThrown m_thr x1 2).bind fun q11 =>
  if q11.1 = 0 then
    (fX8_finds v_ms v_mf l1).bind fun q14 =>
    if vin l2 45 = true then
    fX8_steps_74 v_ms (if (q14 l2.toNatClampNeg) = 99 then 1 else 0) l2 q11.2 q14
    else none
  else
    some (0, q11.2, v_mf)
def fX8_steps_21 (v_ms : Nat → Int32) (x1 : Int32) (l1 : Int32) (l2 : Int32) (m_thr : Int32) (v_mf : Nat → Int32) : Option (Int32 × Int32 × (Nat → Int32)) :=
  (fX8_isThrown m_thr x1 1).bind fun q5 =>
  if q5.1 = 0 then
    (fX8_of v_ms l1 4).bind fun q8 =>
    fX8_steps_43 v_ms (if 0 ≤ q8 then 0 else 1) l1 l2 q5.2 v_mf
  else
    some (0, q5.2, v_mf)
def fX8_steps (m_thr : Int32) (v_ms : Nat → Int32) (v_mf : Nat → Int32) (p0 : Int32) (p1 : Int32) : Option (Int32 × Int32 × (Nat → Int32)) :=
  (fX8_isWhale v_ms p0).bind fun q1 =>
  fX8_steps_21 v_ms (if q1 = 0 then 1 else (if (fX8_isCell p1) = 0 then 1 else 0)) p0 p1 m_thr v_mf
def fX8_stepsAgain (m_thr : Int32) (v_ms : Nat → Int32) (v_mf : Nat → Int32) (p0 : Int32) (p1 : Int32) : Option (Int32 × Int32 × (Nat → Int32)) :=
  (fX8_steps m_thr v_ms v_mf p0 p1).bind fun q1 =>
  some (q1.1, q1.2.1, q1.2.2)
def fX8_reach_105 (v_ms : Nat → Int32) (rec60 : Int32 → Int32 → Int32 → Int32 → (Nat → Int32) → Option (Int32 × Int32 × (Nat → Int32))) (x0 : Int32) (x1 : Int32) (l1 : Int32) (l3 : Int32) (m_thr : Int32) (v_mf : Nat → Int32) : Option (Int32 × Int32 × (Nat → Int32)) :=
  rec60 l1 (x0 + x1) (l3 + 1) m_thr v_mf
def fX8_reach_60 (v_ms : Nat → Int32) : Nat → Int32 → Int32 → Int32 → Int32 → (Nat → Int32) → Option (Int32 × Int32 × (Nat → Int32))
  | 0, _, _, _, _, _ => none
  | k + 1, l1, l2, l3, m_thr, v_mf =>
    if 45 ≤ l3 then
      some (l2, m_thr, v_mf)
    else
      if vin l3 45 = true then
      if (v_mf l3.toNatClampNeg) ≤ 0 then
        fX8_reach_105 v_ms (fX8_reach_60 v_ms k) l2 0 l1 l3 m_thr v_mf
      else
        if vin l3 45 = true then
        (fX8_of v_ms l1 2).bind fun q21 =>
        (fX8_of v_ms l1 3).bind fun q23 =>
        fX8_reach_105 v_ms (fX8_reach_60 v_ms k) l2 (if (fX8_lesser q21 q23) < (v_mf l3.toNatClampNeg) then 0 else 1) l1 l3 m_thr v_mf
        else none
      else none
def fX8_reach_14 (v_ms : Nat → Int32) (x1 : Int32) (l1 : Int32) (m_thr : Int32) (v_mf : Nat → Int32) : Option (Int32 × Int32 × (Nat → Int32)) :=
  (fX8_isThrown m_thr x1 1).bind fun q4 =>
  if q4.1 = 0 then
    (fX8_of v_ms l1 4).bind fun q7 =>
    if q7 < 0 then
      some (0, q4.2, v_mf)
    else
      (fX8_isStrandedNow v_ms l1).bind fun q10 =>
      if q10 = 0 then
        if vin 1 103 = true then
        if (v_ms (1 : Int32).toNatClampNeg) = 48 then
          some (0, q4.2, v_mf)
        else
          (fX8_finds v_ms v_mf l1).bind fun q15 =>
          fX8_reach_60 v_ms 64 l1 0 0 q4.2 q15
        else none
      else
        some (0, q4.2, v_mf)
  else
    some (0, q4.2, v_mf)
def fX8_reach (m_thr : Int32) (v_ms : Nat → Int32) (v_mf : Nat → Int32) (p0 : Int32) : Option (Int32 × Int32 × (Nat → Int32)) :=
  (fX8_isWhale v_ms p0).bind fun q1 =>
  fX8_reach_14 v_ms (if q1 = 0 then 1 else 0) p0 m_thr v_mf
def fX8_swims_185 (x1 : Int32) (l1 : Int32) (l2 : Int32) (l4 : Int32) (l5 : Int32) (m_thr : Int32) (m_rea : Int32) (m_det : Int32) (m_ref : Int32) (v_ms : Nat → Int32) (v_mf : Nat → Int32) : Option (Int32 × Int32 × Int32 × Int32 × Int32 × (Nat → Int32) × (Nat → Int32)) :=
  (fX8_isRefused m_thr m_rea m_det m_ref x1 6 l5).bind fun q46 =>
  if q46.1 = 0 then
    (fX8_sets v_ms l1 4 l2).bind fun q49 =>
    (fX8_sets q49 l1 3 (l5 - l4)).bind fun q51 =>
    (fX8_sets q51 l1 5 0).bind fun q53 =>
    (fX8_strokes q53 l4).bind fun q55 =>
    some (q55.1, q46.2.1, q46.2.2.1, q46.2.2.2.1, q46.2.2.2.2, q55.2, v_mf)
  else
    some (0, q46.2.1, q46.2.2.1, q46.2.2.2.1, q46.2.2.2.2, v_ms, v_mf)
def fX8_swims_166 (x1 : Int32) (x2 : Int32) (x3 : Int32) (l1 : Int32) (l2 : Int32) (l4 : Int32) (l5 : Int32) (m_thr : Int32) (m_rea : Int32) (m_det : Int32) (m_ref : Int32) (v_ms : Nat → Int32) (v_mf : Nat → Int32) : Option (Int32 × Int32 × Int32 × Int32 × Int32 × (Nat → Int32) × (Nat → Int32)) :=
  (fX8_isRefused m_thr m_rea m_det m_ref x1 x2 x3).bind fun q42 =>
  if q42.1 = 0 then
    fX8_swims_185 (if l4 ≤ l5 then 0 else 1) l1 l2 l4 l5 q42.2.1 q42.2.2.1 q42.2.2.2.1 q42.2.2.2.2 v_ms v_mf
  else
    some (0, q42.2.1, q42.2.2.1, q42.2.2.2.1, q42.2.2.2.2, v_ms, v_mf)
def fX8_swims_152 (x1 : Int32) (l1 : Int32) (l2 : Int32) (l4 : Int32) (l5 : Int32) (m_thr : Int32) (m_rea : Int32) (m_det : Int32) (m_ref : Int32) (v_ms : Nat → Int32) (v_mf : Nat → Int32) : Option (Int32 × Int32 × Int32 × Int32 × Int32 × (Nat → Int32) × (Nat → Int32)) :=
  fX8_swims_166 x1 5 (if l4 = 99 then (-1) else l4) l1 l2 l4 l5 m_thr m_rea m_det m_ref v_ms v_mf
def fX8_swims_80 (x1 : Int32) (l1 : Int32) (l2 : Int32) (l3 : Int32) (m_thr : Int32) (m_rea : Int32) (m_det : Int32) (m_ref : Int32) (v_ms : Nat → Int32) (v_mf : Nat → Int32) : Option (Int32 × Int32 × Int32 × Int32 × Int32 × (Nat → Int32) × (Nat → Int32)) :=
  (fX8_isRefused m_thr m_rea m_det m_ref x1 7 l3).bind fun q24 =>
  if q24.1 = 0 then
    (fX8_isDryNow v_ms l2).bind fun q27 =>
    if vin 1 103 = true then
    (fX8_isRefused q24.2.1 q24.2.2.1 q24.2.2.2.1 q24.2.2.2.2 q27 8 (fX8_tideAt (v_ms (1 : Int32).toNatClampNeg))).bind fun q30 =>
    if q30.1 = 0 then
      (fX8_finds v_ms v_mf l1).bind fun q33 =>
      if vin l2 45 = true then
      (fX8_of v_ms l1 3).bind fun q36 =>
      (fX8_of v_ms l1 2).bind fun q38 =>
      fX8_swims_152 (if (q33 l2.toNatClampNeg) ≤ q38 then 0 else 1) l1 l2 (q33 l2.toNatClampNeg) q36 q30.2.1 q30.2.2.1 q30.2.2.2.1 q30.2.2.2.2 v_ms q33
      else none
    else
      some (0, q30.2.1, q30.2.2.1, q30.2.2.2.1, q30.2.2.2.2, v_ms, v_mf)
    else none
  else
    some (0, q24.2.1, q24.2.2.1, q24.2.2.2.1, q24.2.2.2.2, v_ms, v_mf)
def fX8_swims_21 (x1 : Int32) (l1 : Int32) (l2 : Int32) (m_thr : Int32) (m_rea : Int32) (m_det : Int32) (m_ref : Int32) (v_ms : Nat → Int32) (v_mf : Nat → Int32) : Option (Int32 × Int32 × Int32 × Int32 × Int32 × (Nat → Int32) × (Nat → Int32)) :=
  (fX8_isThrown m_thr x1 1).bind fun q5 =>
  if q5.1 = 0 then
    (fX8_isOver q5.2 m_rea m_det m_ref v_ms).bind fun q8 =>
    if q8.1 = 0 then
      (fX8_isOnBench q8.2.1 q8.2.2.1 q8.2.2.2.1 q8.2.2.2.2 v_ms l1).bind fun q11 =>
      if q11.1 = 0 then
        (fX8_whaleAt v_ms l2).bind fun q14 =>
        (fX8_isStrandedNow v_ms l1).bind fun q16 =>
        (fX8_of v_ms l1 4).bind fun q18 =>
        (fX8_isRefused q11.2.1 q11.2.2.1 q11.2.2.2.1 q11.2.2.2.2 q16 4 q18).bind fun q20 =>
        if q20.1 = 0 then
          fX8_swims_80 (if q14 < 0 then 0 else 1) l1 l2 q14 q20.2.1 q20.2.2.1 q20.2.2.2.1 q20.2.2.2.2 v_ms v_mf
        else
          some (0, q20.2.1, q20.2.2.1, q20.2.2.2.1, q20.2.2.2.2, v_ms, v_mf)
      else
        some (0, q11.2.1, q11.2.2.1, q11.2.2.2.1, q11.2.2.2.2, v_ms, v_mf)
    else
      some (0, q8.2.1, q8.2.2.1, q8.2.2.2.1, q8.2.2.2.2, v_ms, v_mf)
  else
    some (0, q5.2, m_rea, m_det, m_ref, v_ms, v_mf)
def fX8_swims (m_thr : Int32) (m_rea : Int32) (m_det : Int32) (m_ref : Int32) (v_ms : Nat → Int32) (v_mf : Nat → Int32) (p0 : Int32) (p1 : Int32) : Option (Int32 × Int32 × Int32 × Int32 × Int32 × (Nat → Int32) × (Nat → Int32)) :=
  (fX8_isWhale v_ms p0).bind fun q1 =>
  fX8_swims_21 (if q1 = 0 then 1 else (if (fX8_isCell p1) = 0 then 1 else 0)) p0 p1 m_thr m_rea m_det m_ref v_ms v_mf
def fX8_swim (m_chg : Int32) (m_thr : Int32) (m_rea : Int32) (m_det : Int32) (m_ref : Int32) (v_ms : Nat → Int32) (v_mw : Nat → Int32) (v_mp : Nat → Int32) (v_mf : Nat → Int32) (p0 : Int32) (p1 : Int32) : Option (Int32 × Int32 × Int32 × Int32 × Int32 × Int32 × (Nat → Int32) × (Nat → Int32) × (Nat → Int32) × (Nat → Int32)) :=
  (fX8_keeps m_thr v_ms v_mw).bind fun q1 =>
  (fX8_swims q1.1 m_rea m_det m_ref v_ms v_mf p0 p1).bind fun q3 =>
  (fX8_ends m_chg q3.2.1 q1.2 v_mp q3.1 2).bind fun q5 =>
  some (q5.1, q5.2.1, q5.2.2.1, q3.2.2.1, q3.2.2.2.1, q3.2.2.2.2.1, q3.2.2.2.2.2.1, q1.2, q5.2.2.2, q3.2.2.2.2.2.2)
def fX8_isFoul_83 (v_ms : Nat → Int32) (rec14 : Int32 → Int32 → Int32 → Option Int32) (x0 : Int32) (x1 : Int32) (l2 : Int32) (l4 : Int32) : Option Int32 :=
  rec14 l2 (x0 ||| x1) (l4 + 1)
def fX8_isFoul_14 (v_ms : Nat → Int32) : Nat → Int32 → Int32 → Int32 → Option Int32
  | 0, _, _, _ => none
  | k + 1, l2, l3, l4 =>
    if vin 0 103 = true then
    if (v_ms (0 : Int32).toNatClampNeg) ≤ l4 then
      if l3 = 0 then
        some 0
      else
        if vin 3 103 = true then
        if (v_ms (3 : Int32).toNatClampNeg) = l2 then
          some 1
        else
          some 0
        else none
    else
      (fX8_of v_ms l4 0).bind fun q8 =>
      if q8 = l2 then
        (fX8_of v_ms l4 5).bind fun q11 =>
        if q11 = 1 then
          (fX8_of v_ms l4 4).bind fun q14 =>
          if q14 < 0 then
            fX8_isFoul_83 v_ms (fX8_isFoul_14 v_ms k) l3 0 l2 l4
          else
            (fX8_of v_ms l4 4).bind fun q17 =>
            if vin 2 103 = true then
            fX8_isFoul_83 v_ms (fX8_isFoul_14 v_ms k) l3 (if 1 < (fX8_apart q17 (v_ms (2 : Int32).toNatClampNeg)) then 0 else 1) l2 l4
            else none
        else
          fX8_isFoul_83 v_ms (fX8_isFoul_14 v_ms k) l3 0 l2 l4
      else
        fX8_isFoul_83 v_ms (fX8_isFoul_14 v_ms k) l3 0 l2 l4
    else none
def fX8_isFoul (v_ms : Nat → Int32) (p0 : Int32) : Option Int32 :=
  (fX8_of v_ms p0 0).bind fun q1 =>
  fX8_isFoul_14 v_ms 64 (1 - q1) 0 0
def fX8_goes_93 (v_ms : Nat → Int32) (x0 : Int32) (x1 : Int32) (m_net : Int32) : Option (Int32 × Int32) :=
  some ((x0 + x1), m_net)
def fX8_goes_73 (v_ms : Nat → Int32) (x1 : Int32) (l2 : Int32) (l4 : Int32) (l7 : Int32) (m_net : Int32) : Option (Int32 × Int32) :=
  if l7 = 0 then
    some (l4, x1)
  else
    fX8_goes_93 v_ms 45 (if l2 = 1 then 0 else 1) x1
def fX8_goes_60 (v_ms : Nat → Int32) (x0 : Int32) (l2 : Int32) (l4 : Int32) (m_net : Int32) : Option (Int32 × Int32) :=
  fX8_goes_73 v_ms (if x0 = 0 then 1 else 0) l2 l4 x0 m_net
def fX8_goes_122 (v_ms : Nat → Int32) (rec16 : Int32 → Int32 → Int32 → Int32 → Int32 → Int32 → Option (Int32 × Int32)) (l1 : Int32) (l2 : Int32) (l3 : Int32) (l4 : Int32) (l5 : Int32) (l6 : Int32) (m_net : Int32) : Option (Int32 × Int32) :=
  (fX8_isDryNow v_ms l6).bind fun q13 =>
  if q13 = 0 then
    rec16 l1 l2 l3 l6 (l5 + 1) m_net
  else
    some (l4, 1)
def fX8_goes_16 (v_ms : Nat → Int32) : Nat → Int32 → Int32 → Int32 → Int32 → Int32 → Int32 → Option (Int32 × Int32)
  | 0, _, _, _, _, _, _ => none
  | k + 1, l1, l2, l3, l4, l5, m_net =>
    if l3 ≤ l5 then
      some (l4, m_net)
    else
      if 0 ≤ (fX8_next l4 l2) then
        (fX8_whaleAt v_ms (fX8_next l4 l2)).bind fun q4 =>
        if q4 < 0 then
          fX8_goes_122 v_ms (fX8_goes_16 v_ms k) l1 l2 l3 l4 l5 (fX8_next l4 l2) m_net
        else
          if q4 = l1 then
            fX8_goes_122 v_ms (fX8_goes_16 v_ms k) l1 l2 l3 l4 l5 (fX8_next l4 l2) m_net
          else
            some (l4, m_net)
      else
        fX8_goes_60 v_ms (if (l2 - l2 / 2 * 2) = 1 then (if (fX8_isIn (l4 / 9) 1 3) = 0 then 0 else 1) else 0) l2 l4 m_net
def fX8_goes (m_net : Int32) (v_ms : Nat → Int32) (p0 : Int32) (p1 : Int32) (p2 : Int32) : Option (Int32 × Int32) :=
  if vin 2 103 = true then
  fX8_goes_16 v_ms 64 p0 p1 p2 (v_ms (2 : Int32).toNatClampNeg) 0 0
  else none
def fX8_wouldCome (m_net : Int32) (v_ms : Nat → Int32) (p0 : Int32) (p1 : Int32) (p2 : Int32) : Option (Int32 × Int32) :=
  (fX8_goes m_net v_ms p0 p1 p2).bind fun q1 =>
  if q1.1 < 45 then
    some (q1.1, q1.2)
  else
    (fX8_isFoul v_ms p0).bind fun q4 =>
    if q4 = 0 then
      some (q1.1, q1.2)
    else
      some (22, q1.2)
def fX8_isStrike (p0 : Int32) (p1 : Int32) : Int32 :=
  if (fX8_isIn p0 0 3) = 0 then
    0
  else
    if (fX8_isIn p1 1 5) = 0 then
      0
    else
      1
def fX8_strikesBuoy_455 (x1 : Int32) (m_thr : Int32) (m_rea : Int32) (m_det : Int32) (m_ref : Int32) (m_net : Int32) (v_ms : Nat → Int32) : Option (Int32 × Int32 × Int32 × Int32 × Int32 × Int32 × (Nat → Int32)) :=
  (fX8_strokes v_ms x1).bind fun q87 =>
  some (q87.1, m_thr, m_rea, m_det, m_ref, m_net, q87.2)
def fX8_strikesBuoy_436 (x1 : Int32) (x2 : Int32) (l8 : Int32) (l9 : Int32) (l10 : Int32) (m_thr : Int32) (m_rea : Int32) (m_det : Int32) (m_ref : Int32) (m_net : Int32) (v_ms : Nat → Int32) : Option (Int32 × Int32 × Int32 × Int32 × Int32 × Int32 × (Nat → Int32)) :=
  if vin x1 103 = true then
  fX8_strikesBuoy_455 (if l10 = 0 then l9 else (if l8 = 0 then l9 else 22)) m_thr m_rea m_det m_ref m_net (upd v_ms x1.toNatClampNeg x2)
  else none
def fX8_strikesBuoy_418 (x1 : Int32) (l7 : Int32) (l8 : Int32) (l9 : Int32) (l10 : Int32) (m_thr : Int32) (m_rea : Int32) (m_det : Int32) (m_ref : Int32) (m_net : Int32) (v_ms : Nat → Int32) : Option (Int32 × Int32 × Int32 × Int32 × Int32 × Int32 × (Nat → Int32)) :=
  fX8_strikesBuoy_436 x1 (1 - l7) l8 l9 l10 m_thr m_rea m_det m_ref m_net v_ms
def fX8_strikesBuoy_400 (x1 : Int32) (x2 : Int32) (l7 : Int32) (l8 : Int32) (l9 : Int32) (l10 : Int32) (m_thr : Int32) (m_rea : Int32) (m_det : Int32) (m_ref : Int32) (m_net : Int32) (v_ms : Nat → Int32) : Option (Int32 × Int32 × Int32 × Int32 × Int32 × Int32 × (Nat → Int32)) :=
  if vin x1 103 = true then
  if l8 = 0 then
    if m_net = 0 then
      fX8_strikesBuoy_436 3 (if l10 = 0 then l7 else (-1)) l8 l9 l10 m_thr m_rea m_det m_ref m_net (upd v_ms x1.toNatClampNeg x2)
    else
      fX8_strikesBuoy_418 3 l7 l8 l9 l10 m_thr m_rea m_det m_ref m_net (upd v_ms x1.toNatClampNeg x2)
  else
    fX8_strikesBuoy_418 3 l7 l8 l9 l10 m_thr m_rea m_det m_ref m_net (upd v_ms x1.toNatClampNeg x2)
  else none
def fX8_strikesBuoy_383 (l7 : Int32) (l8 : Int32) (l9 : Int32) (l10 : Int32) (m_thr : Int32) (m_rea : Int32) (m_det : Int32) (m_ref : Int32) (m_net : Int32) (v_ms : Nat → Int32) : Option (Int32 × Int32 × Int32 × Int32 × Int32 × Int32 × (Nat → Int32)) :=
  fX8_strikesBuoy_400 2 (if l10 = 0 then l9 else 22) l7 l8 l9 l10 m_thr m_rea m_det m_ref m_net v_ms
def fX8_strikesBuoy_355 (x1 : Int32) (x2 : Int32) (x3 : Int32) (l7 : Int32) (l8 : Int32) (l9 : Int32) (l10 : Int32) (m_thr : Int32) (m_rea : Int32) (m_det : Int32) (m_ref : Int32) (m_net : Int32) (v_ms : Nat → Int32) : Option (Int32 × Int32 × Int32 × Int32 × Int32 × Int32 × (Nat → Int32)) :=
  if vin x1 103 = true then
  if l10 = 0 then
    fX8_strikesBuoy_383 l7 l8 l9 l10 m_thr m_rea m_det m_ref m_net (upd v_ms x1.toNatClampNeg (x2 + x3))
  else
    if l8 = 0 then
      if vin ((4 + l9) - 45) 103 = true then
      if vin ((4 + l9) - 45) 103 = true then
      fX8_strikesBuoy_383 l7 l8 l9 l10 m_thr m_rea m_det m_ref m_net (upd (upd v_ms x1.toNatClampNeg (x2 + x3)) ((4 + l9) - 45).toNatClampNeg (((upd v_ms x1.toNatClampNeg (x2 + x3)) ((4 + l9) - 45).toNatClampNeg) + 1))
      else none
      else none
    else
      fX8_strikesBuoy_383 l7 l8 l9 l10 m_thr m_rea m_det m_ref m_net (upd v_ms x1.toNatClampNeg (x2 + x3))
  else none
def fX8_strikesBuoy_333 (x1 : Int32) (x2 : Int32) (x3 : Int32) (l7 : Int32) (l8 : Int32) (l9 : Int32) (l10 : Int32) (m_thr : Int32) (m_rea : Int32) (m_det : Int32) (m_ref : Int32) (m_net : Int32) (v_ms : Nat → Int32) : Option (Int32 × Int32 × Int32 × Int32 × Int32 × Int32 × (Nat → Int32)) :=
  if vin x1 103 = true then
  if vin 8 103 = true then
  fX8_strikesBuoy_355 8 ((upd v_ms x1.toNatClampNeg (x2 + x3)) (8 : Int32).toNatClampNeg) (if m_net = 0 then 0 else 1) l7 l8 l9 l10 m_thr m_rea m_det m_ref m_net (upd v_ms x1.toNatClampNeg (x2 + x3))
  else none
  else none
def fX8_strikesBuoy_300 (x1 : Int32) (x2 : Int32) (x3 : Int32) (x4 : Int32) (l7 : Int32) (l8 : Int32) (l9 : Int32) (l10 : Int32) (m_thr : Int32) (m_rea : Int32) (m_det : Int32) (m_ref : Int32) (m_net : Int32) (v_ms : Nat → Int32) : Option (Int32 × Int32 × Int32 × Int32 × Int32 × Int32 × (Nat → Int32)) :=
  (fX8_sets v_ms x1 x2 (x3 + x4)).bind fun q65 =>
  if vin 6 103 = true then
  if vin 6 103 = true then
  if vin 7 103 = true then
  fX8_strikesBuoy_333 7 ((upd q65 (6 : Int32).toNatClampNeg ((q65 (6 : Int32).toNatClampNeg) + 1)) (7 : Int32).toNatClampNeg) (if l8 = 0 then 0 else 1) l7 l8 l9 l10 m_thr m_rea m_det m_ref m_net (upd q65 (6 : Int32).toNatClampNeg ((q65 (6 : Int32).toNatClampNeg) + 1))
  else none
  else none
  else none
def fX8_strikesBuoy_265 (x1 : Int32) (x2 : Int32) (x3 : Int32) (x4 : Int32) (l1 : Int32) (l7 : Int32) (l8 : Int32) (l9 : Int32) (l10 : Int32) (m_thr : Int32) (m_rea : Int32) (m_det : Int32) (m_ref : Int32) (m_net : Int32) (v_ms : Nat → Int32) : Option (Int32 × Int32 × Int32 × Int32 × Int32 × Int32 × (Nat → Int32)) :=
  (fX8_sets v_ms x1 x2 (x3 + x4)).bind fun q59 =>
  (fX8_of q59 l1 6).bind fun q61 =>
  fX8_strikesBuoy_300 l1 6 q61 (if l8 = 0 then (if l9 = (45 + l7) then 1 else 0) else 0) l7 l8 l9 l10 m_thr m_rea m_det m_ref m_net q59
def fX8_strikesBuoy_216 (x0 : Int32) (l1 : Int32) (l6 : Int32) (l7 : Int32) (l8 : Int32) (l9 : Int32) (m_thr : Int32) (m_rea : Int32) (m_det : Int32) (m_ref : Int32) (m_net : Int32) (v_ms : Nat → Int32) : Option (Int32 × Int32 × Int32 × Int32 × Int32 × Int32 × (Nat → Int32)) :=
  (fX8_sets v_ms l1 3 (l6 - 1)).bind fun q50 =>
  (fX8_of q50 l1 8).bind fun q52 =>
  (fX8_sets q50 l1 8 (q52 + 1)).bind fun q54 =>
  (fX8_of q54 l1 7).bind fun q56 =>
  fX8_strikesBuoy_265 l1 7 q56 (if l8 = 0 then 0 else 1) l1 l7 l8 l9 x0 m_thr m_rea m_det m_ref m_net q54
def fX8_strikesBuoy_168 (x1 : Int32) (l1 : Int32) (l2 : Int32) (l3 : Int32) (l6 : Int32) (m_thr : Int32) (m_rea : Int32) (m_det : Int32) (m_ref : Int32) (m_net : Int32) (v_ms : Nat → Int32) : Option (Int32 × Int32 × Int32 × Int32 × Int32 × Int32 × (Nat → Int32)) :=
  (fX8_isRefused m_thr m_rea m_det m_ref x1 6 l6).bind fun q40 =>
  if q40.1 = 0 then
    (fX8_of v_ms l1 0).bind fun q43 =>
    (fX8_isFoul v_ms l1).bind fun q45 =>
    (fX8_goes m_net v_ms l1 l2 l3).bind fun q47 =>
    fX8_strikesBuoy_216 (if q47.1 < 45 then 0 else 1) l1 l6 q43 q45 q47.1 q40.2.1 q40.2.2.1 q40.2.2.2.1 q40.2.2.2.2 q47.2 v_ms
  else
    some (0, q40.2.1, q40.2.2.1, q40.2.2.2.1, q40.2.2.2.2, m_net, v_ms)
def fX8_strikesBuoy_142 (x1 : Int32) (l1 : Int32) (l2 : Int32) (l3 : Int32) (l6 : Int32) (m_thr : Int32) (m_rea : Int32) (m_det : Int32) (m_ref : Int32) (m_net : Int32) (v_ms : Nat → Int32) : Option (Int32 × Int32 × Int32 × Int32 × Int32 × Int32 × (Nat → Int32)) :=
  (fX8_of v_ms l1 1).bind fun q34 =>
  (fX8_isRefused m_thr m_rea m_det m_ref x1 10 q34).bind fun q36 =>
  if q36.1 = 0 then
    fX8_strikesBuoy_168 (if 1 ≤ l6 then 0 else 1) l1 l2 l3 l6 q36.2.1 q36.2.2.1 q36.2.2.2.1 q36.2.2.2.2 m_net v_ms
  else
    some (0, q36.2.1, q36.2.2.1, q36.2.2.2.1, q36.2.2.2.2, m_net, v_ms)
def fX8_strikesBuoy_116 (x1 : Int32) (l1 : Int32) (l2 : Int32) (l3 : Int32) (l5 : Int32) (l6 : Int32) (m_thr : Int32) (m_rea : Int32) (m_det : Int32) (m_ref : Int32) (m_net : Int32) (v_ms : Nat → Int32) : Option (Int32 × Int32 × Int32 × Int32 × Int32 × Int32 × (Nat → Int32)) :=
  (fX8_isRefused m_thr m_rea m_det m_ref x1 9 l5).bind fun q28 =>
  if q28.1 = 0 then
    (fX8_of v_ms l1 1).bind fun q31 =>
    fX8_strikesBuoy_142 (if l3 ≤ q31 then 0 else 1) l1 l2 l3 l6 q28.2.1 q28.2.2.1 q28.2.2.2.1 q28.2.2.2.2 m_net v_ms
  else
    some (0, q28.2.1, q28.2.2.1, q28.2.2.2.1, q28.2.2.2.2, m_net, v_ms)
def fX8_strikesBuoy_35 (x1 : Int32) (l1 : Int32) (l2 : Int32) (l3 : Int32) (m_thr : Int32) (m_rea : Int32) (m_det : Int32) (m_ref : Int32) (m_net : Int32) (v_ms : Nat → Int32) : Option (Int32 × Int32 × Int32 × Int32 × Int32 × Int32 × (Nat → Int32)) :=
  (fX8_isThrown m_thr x1 2).bind fun q8 =>
  if q8.1 = 0 then
    (fX8_isOver q8.2 m_rea m_det m_ref v_ms).bind fun q11 =>
    if q11.1 = 0 then
      (fX8_isOnBench q11.2.1 q11.2.2.1 q11.2.2.2.1 q11.2.2.2.2 v_ms l1).bind fun q14 =>
      if q14.1 = 0 then
        (fX8_of v_ms l1 4).bind fun q17 =>
        if vin 2 103 = true then
        (fX8_of v_ms l1 3).bind fun q20 =>
        (fX8_isDryNow v_ms q17).bind fun q22 =>
        (fX8_isRefused q14.2.1 q14.2.2.1 q14.2.2.2.1 q14.2.2.2.2 q22 4 q17).bind fun q24 =>
        if q24.1 = 0 then
          fX8_strikesBuoy_116 (if (fX8_apart q17 (v_ms (2 : Int32).toNatClampNeg)) ≤ 1 then 0 else 1) l1 l2 l3 (fX8_apart q17 (v_ms (2 : Int32).toNatClampNeg)) q20 q24.2.1 q24.2.2.1 q24.2.2.2.1 q24.2.2.2.2 m_net v_ms
        else
          some (0, q24.2.1, q24.2.2.1, q24.2.2.2.1, q24.2.2.2.2, m_net, v_ms)
        else none
      else
        some (0, q14.2.1, q14.2.2.1, q14.2.2.2.1, q14.2.2.2.2, m_net, v_ms)
    else
      some (0, q11.2.1, q11.2.2.1, q11.2.2.2.1, q11.2.2.2.2, m_net, v_ms)
  else
    some (0, q8.2, m_rea, m_det, m_ref, m_net, v_ms)
def fX8_strikesBuoy_14 (x1 : Int32) (l1 : Int32) (l2 : Int32) (l3 : Int32) (m_thr : Int32) (m_rea : Int32) (m_det : Int32) (m_ref : Int32) (m_net : Int32) (v_ms : Nat → Int32) : Option (Int32 × Int32 × Int32 × Int32 × Int32 × Int32 × (Nat → Int32)) :=
  (fX8_isThrown m_thr x1 1).bind fun q4 =>
  if q4.1 = 0 then
    fX8_strikesBuoy_35 (if (fX8_isStrike l2 l3) = 0 then 1 else 0) l1 l2 l3 q4.2 m_rea m_det m_ref m_net v_ms
  else
    some (0, q4.2, m_rea, m_det, m_ref, m_net, v_ms)
def fX8_strikesBuoy (m_thr : Int32) (m_rea : Int32) (m_det : Int32) (m_ref : Int32) (m_net : Int32) (v_ms : Nat → Int32) (p0 : Int32) (p1 : Int32) (p2 : Int32) : Option (Int32 × Int32 × Int32 × Int32 × Int32 × Int32 × (Nat → Int32)) :=
  (fX8_isWhale v_ms p0).bind fun q1 =>
  fX8_strikesBuoy_14 (if q1 = 0 then 1 else 0) p0 p1 p2 m_thr m_rea m_det m_ref m_net v_ms
def fX8_strike (m_chg : Int32) (m_thr : Int32) (m_rea : Int32) (m_det : Int32) (m_ref : Int32) (m_net : Int32) (v_ms : Nat → Int32) (v_mw : Nat → Int32) (v_mp : Nat → Int32) (p0 : Int32) (p1 : Int32) (p2 : Int32) : Option (Int32 × Int32 × Int32 × Int32 × Int32 × Int32 × Int32 × (Nat → Int32) × (Nat → Int32) × (Nat → Int32)) :=
  (fX8_keeps m_thr v_ms v_mw).bind fun q1 =>
  (fX8_strikesBuoy q1.1 m_rea m_det m_ref m_net v_ms p0 p1 p2).bind fun q3 =>
  (fX8_ends m_chg q3.2.1 q1.2 v_mp q3.1 3).bind fun q5 =>
  some (q5.1, q5.2.1, q5.2.2.1, q3.2.2.1, q3.2.2.2.1, q3.2.2.2.2.1, q3.2.2.2.2.2.1, q3.2.2.2.2.2.2, q1.2, q5.2.2.2)
def fX8_would_35 (v_ms : Nat → Int32) (x1 : Int32) (l1 : Int32) (l2 : Int32) (l3 : Int32) (m_thr : Int32) (m_net : Int32) : Option (Int32 × Int32 × Int32) :=
  (fX8_isThrown m_thr x1 2).bind fun q8 =>
  if q8.1 = 0 then
    (fX8_wouldCome m_net v_ms l1 l2 l3).bind fun q11 =>
    some (q11.1, q8.2, q11.2)
  else
    some (0, q8.2, m_net)
def fX8_would_14 (v_ms : Nat → Int32) (x1 : Int32) (l1 : Int32) (l2 : Int32) (l3 : Int32) (m_thr : Int32) (m_net : Int32) : Option (Int32 × Int32 × Int32) :=
  (fX8_isThrown m_thr x1 1).bind fun q4 =>
  if q4.1 = 0 then
    fX8_would_35 v_ms (if (fX8_isStrike l2 l3) = 0 then 1 else 0) l1 l2 l3 q4.2 m_net
  else
    some (0, q4.2, m_net)
def fX8_would (m_thr : Int32) (m_net : Int32) (v_ms : Nat → Int32) (p0 : Int32) (p1 : Int32) (p2 : Int32) : Option (Int32 × Int32 × Int32) :=
  (fX8_isWhale v_ms p0).bind fun q1 =>
  fX8_would_14 v_ms (if q1 = 0 then 1 else 0) p0 p1 p2 m_thr m_net
def fX8_wouldAgain (m_thr : Int32) (m_net : Int32) (v_ms : Nat → Int32) (p0 : Int32) (p1 : Int32) (p2 : Int32) : Option (Int32 × Int32 × Int32) :=
  (fX8_would m_thr m_net v_ms p0 p1 p2).bind fun q1 =>
  some (q1.1, q1.2.1, q1.2.2)
def fX8_wouldFoul_14 (v_ms : Nat → Int32) (x1 : Int32) (l1 : Int32) (m_thr : Int32) : Option (Int32 × Int32) :=
  (fX8_isThrown m_thr x1 1).bind fun q4 =>
  if q4.1 = 0 then
    (fX8_isFoul v_ms l1).bind fun q7 =>
    if q7 = 0 then
      some (0, q4.2)
    else
      some (1, q4.2)
  else
    some (0, q4.2)
def fX8_wouldFoul (m_thr : Int32) (v_ms : Nat → Int32) (p0 : Int32) : Option (Int32 × Int32) :=
  (fX8_isWhale v_ms p0).bind fun q1 =>
  fX8_wouldFoul_14 v_ms (if q1 = 0 then 1 else 0) p0 m_thr
def fX8_fromEnd (p0 : Int32) (p1 : Int32) : Int32 :=
  if p1 < 45 then
    if p0 = 0 then
      (8 - (p1 - p1 / 9 * 9))
    else
      (p1 - p1 / 9 * 9)
  else
    if p1 = (45 + p0) then
      (-1)
    else
      99
def fX8_canStrike (v_ms : Nat → Int32) (p0 : Int32) : Option Int32 :=
  if vin 1 103 = true then
  if 48 ≤ (v_ms (1 : Int32).toNatClampNeg) then
    some 0
  else
    (fX8_of v_ms p0 4).bind fun q3 =>
    if q3 < 0 then
      some 0
    else
      (fX8_isStrandedNow v_ms p0).bind fun q6 =>
      if q6 = 0 then
        (fX8_of v_ms p0 4).bind fun q9 =>
        if vin 2 103 = true then
        if 1 < (fX8_apart q9 (v_ms (2 : Int32).toNatClampNeg)) then
          some 0
        else
          (fX8_of v_ms p0 3).bind fun q13 =>
          if q13 ≤ 0 then
            some 0
          else
            some 1
        else none
      else
        some 0
  else none
def fX8_best_110 (v_ms : Nat → Int32) (rec52 : Int32 → Int32 → Int32 → Int32 → Int32 → Int32 → Option (Int32 × Int32 × Int32)) (rec61 : Int32 → Int32 → Int32 → Int32 → Int32 → Int32 → Int32 → Option (Int32 × Int32 × Int32)) (x0 : Int32) (l1 : Int32) (l3 : Int32) (l4 : Int32) (l5 : Int32) (l6 : Int32) (m_thr : Int32) (m_net : Int32) : Option (Int32 × Int32 × Int32) :=
  rec61 l1 x0 (fX8_lesser l3 l6) l4 (l5 + 1) m_thr m_net
def fX8_best_61 (v_ms : Nat → Int32) (rec52 : Int32 → Int32 → Int32 → Int32 → Int32 → Int32 → Option (Int32 × Int32 × Int32)) : Nat → Int32 → Int32 → Int32 → Int32 → Int32 → Int32 → Int32 → Option (Int32 × Int32 × Int32)
  | 0, _, _, _, _, _, _, _ => none
  | k + 1, l1, l2, l3, l4, l5, m_thr, m_net =>
    (fX8_of v_ms l1 1).bind fun q15 =>
    if q15 < l5 then
      rec52 l1 l2 l3 (l4 + 1) m_thr m_net
    else
      (fX8_of v_ms l1 0).bind fun q18 =>
      (fX8_wouldCome m_net v_ms l1 l4 l5).bind fun q20 =>
      fX8_best_110 v_ms rec52 (fX8_best_61 v_ms rec52 k) (if l3 ≤ (fX8_fromEnd q18 q20.1) then l2 else ((10 * l4) + l5)) l1 l3 l4 l5 (fX8_fromEnd q18 q20.1) m_thr q20.2
def fX8_best_140 (v_ms : Nat → Int32) (x1 : Int32) (l2 : Int32) (m_thr : Int32) (m_net : Int32) : Option (Int32 × Int32 × Int32) :=
  (fX8_isThrown m_thr x1 2).bind fun q23 =>
  if q23.1 = 0 then
    some (l2, q23.2, m_net)
  else
    some (0, q23.2, m_net)
def fX8_best_52 (v_ms : Nat → Int32) : Nat → Int32 → Int32 → Int32 → Int32 → Int32 → Int32 → Option (Int32 × Int32 × Int32)
  | 0, _, _, _, _, _, _ => none
  | k + 1, l1, l2, l3, l4, m_thr, m_net =>
    if 4 ≤ l4 then
      fX8_best_140 v_ms (if 0 ≤ l2 then 0 else 1) l2 m_thr m_net
    else
      fX8_best_61 v_ms (fX8_best_52 v_ms k) 64 l1 l2 l3 l4 1 m_thr m_net
def fX8_best_35 (v_ms : Nat → Int32) (x1 : Int32) (l1 : Int32) (m_thr : Int32) (m_net : Int32) : Option (Int32 × Int32 × Int32) :=
  (fX8_isThrown m_thr x1 2).bind fun q10 =>
  if q10.1 = 0 then
    fX8_best_52 v_ms 64 l1 (-1) 99 0 q10.2 m_net
  else
    some (0, q10.2, m_net)
def fX8_best_14 (v_ms : Nat → Int32) (x1 : Int32) (l1 : Int32) (m_thr : Int32) (m_net : Int32) : Option (Int32 × Int32 × Int32) :=
  (fX8_isThrown m_thr x1 1).bind fun q4 =>
  if q4.1 = 0 then
    (fX8_canStrike v_ms l1).bind fun q7 =>
    fX8_best_35 v_ms (if q7 = 0 then 1 else 0) l1 q4.2 m_net
  else
    some (0, q4.2, m_net)
def fX8_best (m_thr : Int32) (m_net : Int32) (v_ms : Nat → Int32) (p0 : Int32) : Option (Int32 × Int32 × Int32) :=
  (fX8_isWhale v_ms p0).bind fun q1 =>
  fX8_best_14 v_ms (if q1 = 0 then 1 else 0) p0 m_thr m_net
def fX8_sings_81 (x1 : Int32) (l1 : Int32) (l2 : Int32) (m_thr : Int32) (m_rea : Int32) (m_det : Int32) (m_ref : Int32) (v_ms : Nat → Int32) : Option (Int32 × Int32 × Int32 × Int32 × Int32 × (Nat → Int32)) :=
  (fX8_isRefused m_thr m_rea m_det m_ref x1 6 l2).bind fun q22 =>
  if q22.1 = 0 then
    (fX8_sets v_ms l1 5 1).bind fun q25 =>
    (fX8_sets q25 l1 3 (l2 - 1)).bind fun q27 =>
    (fX8_strokes q27 (l2 - 1)).bind fun q29 =>
    some (q29.1, q22.2.1, q22.2.2.1, q22.2.2.2.1, q22.2.2.2.2, q29.2)
  else
    some (0, q22.2.1, q22.2.2.1, q22.2.2.2.1, q22.2.2.2.2, v_ms)
def fX8_sings_61 (x1 : Int32) (l1 : Int32) (l2 : Int32) (m_thr : Int32) (m_rea : Int32) (m_det : Int32) (m_ref : Int32) (v_ms : Nat → Int32) : Option (Int32 × Int32 × Int32 × Int32 × Int32 × (Nat → Int32)) :=
  (fX8_isRefused m_thr m_rea m_det m_ref x1 11 l1).bind fun q18 =>
  if q18.1 = 0 then
    fX8_sings_81 (if 1 ≤ l2 then 0 else 1) l1 l2 q18.2.1 q18.2.2.1 q18.2.2.2.1 q18.2.2.2.2 v_ms
  else
    some (0, q18.2.1, q18.2.2.1, q18.2.2.2.1, q18.2.2.2.2, v_ms)
def fX8_sings_14 (x1 : Int32) (l1 : Int32) (m_thr : Int32) (m_rea : Int32) (m_det : Int32) (m_ref : Int32) (v_ms : Nat → Int32) : Option (Int32 × Int32 × Int32 × Int32 × Int32 × (Nat → Int32)) :=
  (fX8_isThrown m_thr x1 1).bind fun q4 =>
  if q4.1 = 0 then
    (fX8_isOver q4.2 m_rea m_det m_ref v_ms).bind fun q7 =>
    if q7.1 = 0 then
      (fX8_isOnBench q7.2.1 q7.2.2.1 q7.2.2.2.1 q7.2.2.2.2 v_ms l1).bind fun q10 =>
      if q10.1 = 0 then
        (fX8_of v_ms l1 3).bind fun q13 =>
        (fX8_of v_ms l1 5).bind fun q15 =>
        fX8_sings_61 (if q15 = 1 then 1 else 0) l1 q13 q10.2.1 q10.2.2.1 q10.2.2.2.1 q10.2.2.2.2 v_ms
      else
        some (0, q10.2.1, q10.2.2.1, q10.2.2.2.1, q10.2.2.2.2, v_ms)
    else
      some (0, q7.2.1, q7.2.2.1, q7.2.2.2.1, q7.2.2.2.2, v_ms)
  else
    some (0, q4.2, m_rea, m_det, m_ref, v_ms)
def fX8_sings (m_thr : Int32) (m_rea : Int32) (m_det : Int32) (m_ref : Int32) (v_ms : Nat → Int32) (p0 : Int32) : Option (Int32 × Int32 × Int32 × Int32 × Int32 × (Nat → Int32)) :=
  (fX8_isWhale v_ms p0).bind fun q1 =>
  fX8_sings_14 (if q1 = 0 then 1 else 0) p0 m_thr m_rea m_det m_ref v_ms
def fX8_sing (m_chg : Int32) (m_thr : Int32) (m_rea : Int32) (m_det : Int32) (m_ref : Int32) (v_ms : Nat → Int32) (v_mw : Nat → Int32) (v_mp : Nat → Int32) (p0 : Int32) : Option (Int32 × Int32 × Int32 × Int32 × Int32 × Int32 × (Nat → Int32) × (Nat → Int32) × (Nat → Int32)) :=
  (fX8_keeps m_thr v_ms v_mw).bind fun q1 =>
  (fX8_sings q1.1 m_rea m_det m_ref v_ms p0).bind fun q3 =>
  (fX8_ends m_chg q3.2.1 q1.2 v_mp q3.1 2).bind fun q5 =>
  some (q5.1, q5.2.1, q5.2.2.1, q3.2.2.1, q3.2.2.2.1, q3.2.2.2.2.1, q3.2.2.2.2.2, q1.2, q5.2.2.2)
def fX8_drifts (m_thr : Int32) (m_rea : Int32) (m_det : Int32) (m_ref : Int32) (v_ms : Nat → Int32) : Option (Int32 × Int32 × Int32 × Int32 × Int32 × (Nat → Int32)) :=
  (fX8_isOver m_thr m_rea m_det m_ref v_ms).bind fun q1 =>
  if q1.1 = 0 then
    if vin 1 103 = true then
    (fX8_strokes v_ms ((v_ms (1 : Int32).toNatClampNeg) + 1)).bind fun q5 =>
    some (q5.1, q1.2.1, q1.2.2.1, q1.2.2.2.1, q1.2.2.2.2, q5.2)
    else none
  else
    some (0, q1.2.1, q1.2.2.1, q1.2.2.2.1, q1.2.2.2.2, v_ms)
def fX8_drift (m_chg : Int32) (m_thr : Int32) (m_rea : Int32) (m_det : Int32) (m_ref : Int32) (v_ms : Nat → Int32) (v_mw : Nat → Int32) (v_mp : Nat → Int32) : Option (Int32 × Int32 × Int32 × Int32 × Int32 × Int32 × (Nat → Int32) × (Nat → Int32) × (Nat → Int32)) :=
  (fX8_keeps m_thr v_ms v_mw).bind fun q1 =>
  (fX8_drifts q1.1 m_rea m_det m_ref v_ms).bind fun q3 =>
  (fX8_ends m_chg q3.2.1 q1.2 v_mp q3.1 1).bind fun q5 =>
  some (q5.1, q5.2.1, q5.2.2.1, q3.2.2.1, q3.2.2.2.1, q3.2.2.2.2.1, q3.2.2.2.2.2, q1.2, q5.2.2.2)
def fX8_whaleOf_37 (v_ms : Nat → Int32) (x1 : Int32) (l1 : Int32) (l2 : Int32) (m_thr : Int32) : Option (Int32 × Int32) :=
  (fX8_isThrown m_thr x1 2).bind fun q8 =>
  if q8.1 = 0 then
    (fX8_of v_ms l1 l2).bind fun q11 =>
    some (q11, q8.2)
  else
    some (0, q8.2)
def fX8_whaleOf_14 (v_ms : Nat → Int32) (x1 : Int32) (l1 : Int32) (l2 : Int32) (m_thr : Int32) : Option (Int32 × Int32) :=
  (fX8_isThrown m_thr x1 1).bind fun q4 =>
  if q4.1 = 0 then
    fX8_whaleOf_37 v_ms (if (fX8_isIn l2 0 8) = 0 then 1 else 0) l1 l2 q4.2
  else
    some (0, q4.2)
def fX8_whaleOf (m_thr : Int32) (v_ms : Nat → Int32) (p0 : Int32) (p1 : Int32) : Option (Int32 × Int32) :=
  (fX8_isWhale v_ms p0).bind fun q1 =>
  fX8_whaleOf_14 v_ms (if q1 = 0 then 1 else 0) p0 p1 m_thr
def fX8_beside_82 (v_ms : Nat → Int32) (rec28 : Int32 → Int32 → Int32 → Int32 → Option (Int32 × Int32)) (x0 : Int32) (x1 : Int32) (l1 : Int32) (l3 : Int32) (m_thr : Int32) : Option (Int32 × Int32) :=
  rec28 l1 (x0 + x1) (l3 + 1) m_thr
def fX8_beside_28 (v_ms : Nat → Int32) : Nat → Int32 → Int32 → Int32 → Int32 → Option (Int32 × Int32)
  | 0, _, _, _, _ => none
  | k + 1, l1, l2, l3, m_thr =>
    if vin 0 103 = true then
    if (v_ms (0 : Int32).toNatClampNeg) ≤ l3 then
      some (l2, m_thr)
    else
      (fX8_of v_ms l3 0).bind fun q7 =>
      if q7 = l1 then
        (fX8_of v_ms l3 4).bind fun q10 =>
        if q10 < 0 then
          fX8_beside_82 v_ms (fX8_beside_28 v_ms k) l2 0 l1 l3 m_thr
        else
          (fX8_of v_ms l3 4).bind fun q13 =>
          if vin 2 103 = true then
          fX8_beside_82 v_ms (fX8_beside_28 v_ms k) l2 (if 1 < (fX8_apart q13 (v_ms (2 : Int32).toNatClampNeg)) then 0 else 1) l1 l3 m_thr
          else none
      else
        fX8_beside_82 v_ms (fX8_beside_28 v_ms k) l2 0 l1 l3 m_thr
    else none
def fX8_beside_15 (v_ms : Nat → Int32) (x1 : Int32) (l1 : Int32) (m_thr : Int32) : Option (Int32 × Int32) :=
  (fX8_isThrown m_thr x1 1).bind fun q2 =>
  if q2.1 = 0 then
    fX8_beside_28 v_ms 64 l1 0 0 q2.2
  else
    some (0, q2.2)
def fX8_beside (m_thr : Int32) (v_ms : Nat → Int32) (p0 : Int32) : Option (Int32 × Int32) :=
  fX8_beside_15 v_ms (if (fX8_isIn p0 0 1) = 0 then 1 else 0) p0 m_thr
def fX8_valueOf_39 (v_ms : Nat → Int32) (l1 : Int32) (l2 : Int32) : Option Int32 :=
  (fX8_of v_ms l2 ((l1 - 1) + 6)).bind fun q11 =>
  some q11
def fX8_valueOf (v_ms : Nat → Int32) (p0 : Int32) (p1 : Int32) : Option Int32 :=
  if p0 = 0 then
    (fX8_of v_ms p1 3).bind fun q2 =>
    some q2
  else
    if p0 = 1 then
      fX8_valueOf_39 v_ms p0 p1
    else
      if p0 = 2 then
        fX8_valueOf_39 v_ms p0 p1
      else
        if p0 = 3 then
          fX8_valueOf_39 v_ms p0 p1
        else
          (fX8_of v_ms p1 1).bind fun q7 =>
          (fX8_of v_ms p1 2).bind fun q9 =>
          some (q7 + q9)
def fX8_ranked_92 (v_ms : Nat → Int32) (rec26 : Int32 → Int32 → Int32 → Int32 → Option (Int32 × Int32)) (rec42 : Int32 → Int32 → Int32 → Int32 → Int32 → Int32 → Option (Int32 × Int32)) (x0 : Int32) (x1 : Int32) (l1 : Int32) (l2 : Int32) (l3 : Int32) (l5 : Int32) (m_thr : Int32) : Option (Int32 × Int32) :=
  rec42 l1 l2 l3 (x0 + x1) (l5 + 1) m_thr
def fX8_ranked_42 (v_ms : Nat → Int32) (rec26 : Int32 → Int32 → Int32 → Int32 → Option (Int32 × Int32)) : Nat → Int32 → Int32 → Int32 → Int32 → Int32 → Int32 → Option (Int32 × Int32)
  | 0, _, _, _, _, _, _ => none
  | k + 1, l1, l2, l3, l4, l5, m_thr =>
    if vin 0 103 = true then
    if (v_ms (0 : Int32).toNatClampNeg) ≤ l5 then
      if l4 = l2 then
        some (l3, m_thr)
      else
        rec26 l1 l2 (l3 + 1) m_thr
    else
      (fX8_valueOf v_ms l1 l5).bind fun q10 =>
      (fX8_valueOf v_ms l1 l3).bind fun q12 =>
      fX8_ranked_92 v_ms rec26 (fX8_ranked_42 v_ms rec26 k) l4 (if 0 < (q10 - q12) then 1 else (if (q10 - q12) = 0 then (if l3 ≤ l5 then 0 else 1) else 0)) l1 l2 l3 l5 m_thr
    else none
def fX8_ranked_26 (v_ms : Nat → Int32) : Nat → Int32 → Int32 → Int32 → Int32 → Option (Int32 × Int32)
  | 0, _, _, _, _ => none
  | k + 1, l1, l2, l3, m_thr =>
    if vin 0 103 = true then
    if (v_ms (0 : Int32).toNatClampNeg) ≤ l3 then
      some (0, 2)
    else
      fX8_ranked_42 v_ms (fX8_ranked_26 v_ms k) 64 l1 l2 l3 0 0 m_thr
    else none
def fX8_ranked_15 (v_ms : Nat → Int32) (x1 : Int32) (l1 : Int32) (l2 : Int32) (m_thr : Int32) : Option (Int32 × Int32) :=
  (fX8_isThrown m_thr x1 1).bind fun q2 =>
  if q2.1 = 0 then
    fX8_ranked_26 v_ms 64 l1 l2 0 q2.2
  else
    some (0, q2.2)
def fX8_ranked (m_thr : Int32) (v_ms : Nat → Int32) (p0 : Int32) (p1 : Int32) : Option (Int32 × Int32) :=
  fX8_ranked_15 v_ms (if (fX8_isIn p0 0 4) = 0 then 1 else 0) p0 p1 m_thr
def fX8_isBetter (v_ms : Nat → Int32) (p0 : Int32) (p1 : Int32) : Option Int32 :=
  (fX8_of v_ms p0 3).bind fun q1 =>
  (fX8_of v_ms p1 3).bind fun q3 =>
  if (q1 - q3) = 0 then
    (fX8_of v_ms p0 1).bind fun q6 =>
    (fX8_of v_ms p1 1).bind fun q8 =>
    if q6 ≤ q8 then
      some 0
    else
      some 1
  else
    if (q1 - q3) ≤ 0 then
      some 0
    else
      some 1
def fX8_calf_87 (v_ms : Nat → Int32) (rec28 : Int32 → Int32 → Int32 → Int32 → Option (Int32 × Int32)) (x0 : Int32) (l1 : Int32) (l3 : Int32) (m_thr : Int32) : Option (Int32 × Int32) :=
  rec28 l1 x0 (l3 + 1) m_thr
def fX8_calf_62 (v_ms : Nat → Int32) (rec28 : Int32 → Int32 → Int32 → Int32 → Option (Int32 × Int32)) (x0 : Int32) (l1 : Int32) (l2 : Int32) (l3 : Int32) (m_thr : Int32) : Option (Int32 × Int32) :=
  if x0 = 0 then
    fX8_calf_87 v_ms rec28 l2 l1 l3 m_thr
  else
    if l2 < 0 then
      fX8_calf_87 v_ms rec28 l3 l1 l3 m_thr
    else
      (fX8_isBetter v_ms l3 l2).bind fun q16 =>
      fX8_calf_87 v_ms rec28 (if q16 = 0 then l2 else l3) l1 l3 m_thr
def fX8_calf_104 (v_ms : Nat → Int32) (x1 : Int32) (l2 : Int32) (m_thr : Int32) : Option (Int32 × Int32) :=
  (fX8_isThrown m_thr x1 2).bind fun q19 =>
  if q19.1 = 0 then
    some (l2, q19.2)
  else
    some (0, q19.2)
def fX8_calf_28 (v_ms : Nat → Int32) : Nat → Int32 → Int32 → Int32 → Int32 → Option (Int32 × Int32)
  | 0, _, _, _, _ => none
  | k + 1, l1, l2, l3, m_thr =>
    if vin 0 103 = true then
    if (v_ms (0 : Int32).toNatClampNeg) ≤ l3 then
      fX8_calf_104 v_ms (if 0 ≤ l2 then 0 else 1) l2 m_thr
    else
      (fX8_of v_ms l3 0).bind fun q8 =>
      if q8 = l1 then
        (fX8_of v_ms l3 4).bind fun q11 =>
        fX8_calf_62 v_ms (fX8_calf_28 v_ms k) (if 0 ≤ q11 then 0 else 1) l1 l2 l3 m_thr
      else
        fX8_calf_62 v_ms (fX8_calf_28 v_ms k) 0 l1 l2 l3 m_thr
    else none
def fX8_calf_15 (v_ms : Nat → Int32) (x1 : Int32) (l1 : Int32) (m_thr : Int32) : Option (Int32 × Int32) :=
  (fX8_isThrown m_thr x1 1).bind fun q2 =>
  if q2.1 = 0 then
    fX8_calf_28 v_ms 64 l1 (-1) 0 q2.2
  else
    some (0, q2.2)
def fX8_calf (m_thr : Int32) (v_ms : Nat → Int32) (p0 : Int32) : Option (Int32 × Int32) :=
  fX8_calf_15 v_ms (if (fX8_isIn p0 0 1) = 0 then 1 else 0) p0 m_thr
def fX8_leader (m_thr : Int32) (v_ms : Nat → Int32) : Option (Int32 × Int32) :=
  if vin 4 103 = true then
  if vin 5 103 = true then
  if ((v_ms (4 : Int32).toNatClampNeg) - (v_ms (5 : Int32).toNatClampNeg)) = 0 then
    some ((-1), 0)
  else
    if ((v_ms (4 : Int32).toNatClampNeg) - (v_ms (5 : Int32).toNatClampNeg)) ≤ 0 then
      some (1, 0)
    else
      some (0, 0)
  else none
  else none
def fX8_playing_39 (v_ms : Nat → Int32) (rec4 : Int32 → Int32 → Int32 → Option Int32) (x0 : Int32) (x1 : Int32) (l1 : Int32) (l3 : Int32) : Option Int32 :=
  rec4 l1 (x0 + x1) (l3 + 1)
def fX8_playing_4 (v_ms : Nat → Int32) : Nat → Int32 → Int32 → Int32 → Option Int32
  | 0, _, _, _ => none
  | k + 1, l1, l2, l3 =>
    if vin 0 103 = true then
    if (v_ms (0 : Int32).toNatClampNeg) ≤ l3 then
      some l2
    else
      (fX8_of v_ms l3 0).bind fun q3 =>
      if q3 = l1 then
        (fX8_of v_ms l3 4).bind fun q6 =>
        fX8_playing_39 v_ms (fX8_playing_4 v_ms k) l2 (if q6 < 0 then 0 else 1) l1 l3
      else
        fX8_playing_39 v_ms (fX8_playing_4 v_ms k) l2 0 l1 l3
    else none
def fX8_playing (v_ms : Nat → Int32) (p0 : Int32) : Option Int32 :=
  fX8_playing_4 v_ms 64 p0 0 0
def fX8_isFair_70 (v_ms : Nat → Int32) (rec31 : Int32 → Int32 → Int32 → Option (Int32 × Int32)) (x0 : Int32) (x1 : Int32) (l2 : Int32) (m_thr : Int32) : Option (Int32 × Int32) :=
  rec31 (x0 &&& x1) (l2 + 1) m_thr
def fX8_isFair_31 (v_ms : Nat → Int32) : Nat → Int32 → Int32 → Int32 → Option (Int32 × Int32)
  | 0, _, _, _ => none
  | k + 1, l1, l2, m_thr =>
    if vin 0 103 = true then
    if (v_ms (0 : Int32).toNatClampNeg) ≤ l2 then
      some ((l1 &&& 1), m_thr)
    else
      (fX8_of v_ms l2 4).bind fun q9 =>
      if q9 < 0 then
        fX8_isFair_70 v_ms (fX8_isFair_31 v_ms k) l1 1 l2 m_thr
      else
        (fX8_of v_ms l2 4).bind fun q12 =>
        (fX8_whaleAt v_ms q12).bind fun q14 =>
        fX8_isFair_70 v_ms (fX8_isFair_31 v_ms k) l1 (if q14 = l2 then 1 else 0) l2 m_thr
    else none
def fX8_isFair_28 (v_ms : Nat → Int32) (x0 : Int32) (m_thr : Int32) : Option (Int32 × Int32) :=
  fX8_isFair_31 v_ms 64 x0 0 m_thr
def fX8_isFair (m_thr : Int32) (v_ms : Nat → Int32) : Option (Int32 × Int32) :=
  (fX8_playing v_ms 0).bind fun q1 =>
  if 3 < q1 then
    fX8_isFair_28 v_ms 0 0
  else
    (fX8_playing v_ms 1).bind fun q4 =>
    fX8_isFair_28 v_ms (if 3 < q4 then 0 else 1) 0
def fX8_puts (m_lin : Int32) (v_ml : Nat → Int32) (p0 : Int32) : Option (Int32 × (Nat → Int32)) :=
  if vin m_lin 40 = true then
  some ((m_lin + 1), (upd v_ml m_lin.toNatClampNeg p0))
  else none
def fX8_number_0_14 (l1 : Int32) (m_lin : Int32) (v_ml : Nat → Int32) : Option (Int32 × (Nat → Int32)) :=
  (fX8_puts m_lin v_ml (48 + (l1 - l1 / 10 * 10))).bind fun q2 =>
  some (q2.1, q2.2)
def fX8_number_0 (m_lin : Int32) (v_ml : Nat → Int32) (p0 : Int32) : Option (Int32 × (Nat → Int32)) :=
  if p0 < 10 then
    fX8_number_0_14 p0 m_lin v_ml
  else
    none
def fX8_number_1_14 (l1 : Int32) (m_lin : Int32) (v_ml : Nat → Int32) : Option (Int32 × (Nat → Int32)) :=
  (fX8_puts m_lin v_ml (48 + (l1 - l1 / 10 * 10))).bind fun q4 =>
  some (q4.1, q4.2)
def fX8_number_1 (m_lin : Int32) (v_ml : Nat → Int32) (p0 : Int32) : Option (Int32 × (Nat → Int32)) :=
  if p0 < 10 then
    fX8_number_1_14 p0 m_lin v_ml
  else
    (fX8_number_0 m_lin v_ml (p0 / 10)).bind fun q2 =>
    fX8_number_1_14 p0 q2.1 q2.2
def fX8_row_92 (v_ms : Nat → Int32) (rec34 : Int32 → Int32 → Int32 → Int32 → (Nat → Int32) → Option (Int32 × Int32 × Int32 × (Nat → Int32))) (x1 : Int32) (l1 : Int32) (l2 : Int32) (m_thr : Int32) (m_lin : Int32) (v_ml : Nat → Int32) : Option (Int32 × Int32 × Int32 × (Nat → Int32)) :=
  (fX8_puts m_lin v_ml x1).bind fun q14 =>
  rec34 l1 (l2 + 1) m_thr q14.1 q14.2
def fX8_row_34 (v_ms : Nat → Int32) : Nat → Int32 → Int32 → Int32 → Int32 → (Nat → Int32) → Option (Int32 × Int32 × Int32 × (Nat → Int32))
  | 0, _, _, _, _, _ => none
  | k + 1, l1, l2, m_thr, m_lin, v_ml =>
    if (9 * (l1 + 1)) ≤ l2 then
      some (m_lin, m_thr, m_lin, v_ml)
    else
      (fX8_whaleAt v_ms l2).bind fun q6 =>
      if q6 < 0 then
        if vin 2 103 = true then
        if l2 = (v_ms (2 : Int32).toNatClampNeg) then
          fX8_row_92 v_ms (fX8_row_34 v_ms k) 111 l1 l2 m_thr m_lin v_ml
        else
          (fX8_isDryNow v_ms l2).bind fun q11 =>
          fX8_row_92 v_ms (fX8_row_34 v_ms k) (if q11 = 0 then 46 else 95) l1 l2 m_thr m_lin v_ml
        else none
      else
        fX8_row_92 v_ms (fX8_row_34 v_ms k) (48 + q6) l1 l2 m_thr m_lin v_ml
def fX8_row_15 (v_ms : Nat → Int32) (x1 : Int32) (l1 : Int32) (m_thr : Int32) (m_lin : Int32) (v_ml : Nat → Int32) : Option (Int32 × Int32 × Int32 × (Nat → Int32)) :=
  (fX8_isThrown m_thr x1 1).bind fun q2 =>
  if q2.1 = 0 then
    fX8_row_34 v_ms 64 l1 (9 * l1) q2.2 0 v_ml
  else
    some (0, q2.2, m_lin, v_ml)
def fX8_row (m_thr : Int32) (m_lin : Int32) (v_ms : Nat → Int32) (v_ml : Nat → Int32) (p0 : Int32) : Option (Int32 × Int32 × Int32 × (Nat → Int32)) :=
  fX8_row_15 v_ms (if (fX8_isIn p0 0 4) = 0 then 1 else 0) p0 m_thr m_lin v_ml
def fX8_tell_138 (v_ms : Nat → Int32) (m_thr : Int32) (m_lin : Int32) (v_ml : Nat → Int32) : Option (Int32 × Int32 × Int32 × (Nat → Int32)) :=
  some (m_lin, m_thr, m_lin, v_ml)
def fX8_tell_122 (v_ms : Nat → Int32) (l1 : Int32) (m_thr : Int32) (m_lin : Int32) (v_ml : Nat → Int32) : Option (Int32 × Int32 × Int32 × (Nat → Int32)) :=
  (fX8_of v_ms l1 5).bind fun q42 =>
  if q42 = 1 then
    (fX8_puts m_lin v_ml 33).bind fun q45 =>
    fX8_tell_138 v_ms m_thr q45.1 q45.2
  else
    fX8_tell_138 v_ms m_thr m_lin v_ml
def fX8_tell_14 (v_ms : Nat → Int32) (x1 : Int32) (l1 : Int32) (m_thr : Int32) (m_lin : Int32) (v_ml : Nat → Int32) : Option (Int32 × Int32 × Int32 × (Nat → Int32)) :=
  (fX8_isThrown m_thr x1 1).bind fun q4 =>
  if q4.1 = 0 then
    (fX8_number_1 0 v_ml l1).bind fun q7 =>
    (fX8_puts q7.1 q7.2 58).bind fun q9 =>
    (fX8_of v_ms l1 0).bind fun q11 =>
    (fX8_number_1 q9.1 q9.2 q11).bind fun q13 =>
    (fX8_puts q13.1 q13.2 94).bind fun q15 =>
    (fX8_of v_ms l1 1).bind fun q17 =>
    (fX8_number_1 q15.1 q15.2 q17).bind fun q19 =>
    (fX8_puts q19.1 q19.2 47).bind fun q21 =>
    (fX8_of v_ms l1 2).bind fun q23 =>
    (fX8_number_1 q21.1 q21.2 q23).bind fun q25 =>
    (fX8_puts q25.1 q25.2 37).bind fun q27 =>
    (fX8_of v_ms l1 3).bind fun q29 =>
    (fX8_number_1 q27.1 q27.2 q29).bind fun q31 =>
    (fX8_of v_ms l1 4).bind fun q33 =>
    if q33 < 0 then
      fX8_tell_122 v_ms l1 q4.2 q31.1 q31.2
    else
      (fX8_puts q31.1 q31.2 64).bind fun q36 =>
      (fX8_of v_ms l1 4).bind fun q38 =>
      (fX8_number_1 q36.1 q36.2 q38).bind fun q40 =>
      fX8_tell_122 v_ms l1 q4.2 q40.1 q40.2
  else
    some (0, q4.2, m_lin, v_ml)
def fX8_tell (m_thr : Int32) (m_lin : Int32) (v_ms : Nat → Int32) (v_ml : Nat → Int32) (p0 : Int32) : Option (Int32 × Int32 × Int32 × (Nat → Int32)) :=
  (fX8_isWhale v_ms p0).bind fun q1 =>
  fX8_tell_14 v_ms (if q1 = 0 then 1 else 0) p0 m_thr m_lin v_ml
def fX8_character_20 (m_lin : Int32) (v_ml : Nat → Int32) (x1 : Int32) (l1 : Int32) (m_thr : Int32) : Option (Int32 × Int32) :=
  (fX8_isThrown m_thr x1 1).bind fun q2 =>
  if q2.1 = 0 then
    if vin l1 40 = true then
    some (((((v_ml l1.toNatClampNeg)).toUInt32 % 65536).toInt32).toUInt32.toUInt16.toUInt32.toInt32, q2.2)
    else none
  else
    some ((0 : Int32).toUInt32.toUInt16.toUInt32.toInt32, q2.2)
def fX8_character (m_thr : Int32) (m_lin : Int32) (v_ml : Nat → Int32) (p0 : Int32) : Option (Int32 × Int32) :=
  fX8_character_20 m_lin v_ml (if (fX8_isIn p0 0 (m_lin - 1)) = 0 then 1 else 0) p0 m_thr
def fX8_account_92 (m_chg : Int32) (m_tap : Int32) (v_ms : Nat → Int32) (l1 : Int32) (m_thr : Int32) : Option (Int32 × Int32) :=
  if vin l1 103 = true then
  some ((v_ms l1.toNatClampNeg), m_thr)
  else none
def fX8_account_109 (m_chg : Int32) (m_tap : Int32) (v_ms : Nat → Int32) (l1 : Int32) (m_thr : Int32) : Option (Int32 × Int32) :=
  if vin ((4 + l1) - 3) 103 = true then
  some ((v_ms ((4 + l1) - 3).toNatClampNeg), m_thr)
  else none
def fX8_account_120 (m_chg : Int32) (m_tap : Int32) (v_ms : Nat → Int32) (l1 : Int32) (m_thr : Int32) : Option (Int32 × Int32) :=
  if vin ((2 + l1) - 5) 103 = true then
  some ((v_ms ((2 + l1) - 5).toNatClampNeg), m_thr)
  else none
def fX8_account_131 (m_chg : Int32) (m_tap : Int32) (v_ms : Nat → Int32) (l1 : Int32) (m_thr : Int32) : Option (Int32 × Int32) :=
  if vin ((6 + l1) - 7) 103 = true then
  some ((v_ms ((6 + l1) - 7).toNatClampNeg), m_thr)
  else none
def fX8_account_16 (m_chg : Int32) (m_tap : Int32) (v_ms : Nat → Int32) (x1 : Int32) (l1 : Int32) (m_thr : Int32) : Option (Int32 × Int32) :=
  (fX8_isThrown m_thr x1 1).bind fun q2 =>
  if q2.1 = 0 then
    if l1 = 0 then
      fX8_account_92 m_chg m_tap v_ms l1 q2.2
    else
      if l1 = 1 then
        fX8_account_92 m_chg m_tap v_ms l1 q2.2
      else
        if l1 = 2 then
          if vin 1 103 = true then
          some (((v_ms (1 : Int32).toNatClampNeg) / 12), q2.2)
          else none
        else
          if l1 = 3 then
            fX8_account_109 m_chg m_tap v_ms l1 q2.2
          else
            if l1 = 4 then
              fX8_account_109 m_chg m_tap v_ms l1 q2.2
            else
              if l1 = 5 then
                fX8_account_120 m_chg m_tap v_ms l1 q2.2
              else
                if l1 = 6 then
                  fX8_account_120 m_chg m_tap v_ms l1 q2.2
                else
                  if l1 = 7 then
                    fX8_account_131 m_chg m_tap v_ms l1 q2.2
                  else
                    if l1 = 8 then
                      fX8_account_131 m_chg m_tap v_ms l1 q2.2
                    else
                      if l1 = 9 then
                        if vin 9 103 = true then
                        if vin 10 103 = true then
                        some (((v_ms (9 : Int32).toNatClampNeg) + (v_ms (10 : Int32).toNatClampNeg)), q2.2)
                        else none
                        else none
                      else
                        if l1 = 10 then
                          (fX8_playing v_ms 0).bind fun q19 =>
                          (fX8_playing v_ms 1).bind fun q21 =>
                          some ((q19 + q21), q2.2)
                        else
                          if l1 = 11 then
                            if vin 8 103 = true then
                            some ((v_ms (8 : Int32).toNatClampNeg), q2.2)
                            else none
                          else
                            if l1 = 12 then
                              some (m_tap, q2.2)
                            else
                              some (m_chg, q2.2)
  else
    some (0, q2.2)
def fX8_account (m_chg : Int32) (m_thr : Int32) (m_tap : Int32) (v_ms : Nat → Int32) (p0 : Int32) : Option (Int32 × Int32) :=
  fX8_account_16 m_chg m_tap v_ms (if (fX8_isIn p0 0 13) = 0 then 1 else 0) p0 m_thr
def fX8_append_39 (x1 : Int32) (l1 : Int32) (m_thr : Int32) (m_tap : Int32) (v_mt : Nat → Int32) : Option (Int32 × Int32 × Int32 × (Nat → Int32)) :=
  (fX8_isThrown m_thr x1 2).bind fun q6 =>
  if q6.1 = 0 then
    if vin m_tap 60 = true then
    some ((m_tap + 1), q6.2, (m_tap + 1), (upd v_mt m_tap.toNatClampNeg l1))
    else none
  else
    some (0, q6.2, m_tap, v_mt)
def fX8_append_17 (x1 : Int32) (l1 : Int32) (m_thr : Int32) (m_tap : Int32) (v_mt : Nat → Int32) : Option (Int32 × Int32 × Int32 × (Nat → Int32)) :=
  (fX8_isThrown m_thr x1 1).bind fun q2 =>
  if q2.1 = 0 then
    fX8_append_39 (if m_tap = 60 then 1 else 0) l1 q2.2 m_tap v_mt
  else
    some (0, q2.2, m_tap, v_mt)
def fX8_append (m_thr : Int32) (m_tap : Int32) (v_mt : Nat → Int32) (p0 : Int32) : Option (Int32 × Int32 × Int32 × (Nat → Int32)) :=
  fX8_append_17 (if (fX8_isIn p0 32 126) = 0 then 1 else 0) p0 m_thr m_tap v_mt
def fX8_sign (m_tap : Int32) (m_her : Int32) (v_mt : Nat → Int32) : Option Int32 :=
  if m_tap ≤ m_her then
    some (-1)
  else
    if vin m_her 60 = true then
    some (v_mt m_her.toNatClampNeg)
    else none
def fX8_isSign_28 (m_tap : Int32) (v_mt : Nat → Int32) (x1 : Int32) (x2 : Int32) (l2 : Int32) (m_her : Int32) : Option (Int32 × Int32) :=
  some ((l2 &&& 1), (x1 + x2))
def fX8_isSign_13 (m_tap : Int32) (v_mt : Nat → Int32) (x0 : Int32) (m_her : Int32) : Option (Int32 × Int32) :=
  fX8_isSign_28 m_tap v_mt m_her (if x0 = 0 then 0 else 1) x0 m_her
def fX8_isSign (m_tap : Int32) (m_her : Int32) (v_mt : Nat → Int32) (p0 : Int32) : Option (Int32 × Int32) :=
  (fX8_sign m_tap m_her v_mt).bind fun q1 =>
  fX8_isSign_13 m_tap v_mt (if q1 = p0 then 1 else 0) m_her
def fX8_isNumber_54 (m_tap : Int32) (v_mt : Nat → Int32) (l2 : Int32) (l3 : Int32) (l4 : Int32) (m_her : Int32) (v_mc : Nat → Int32) : Option (Int32 × Int32 × (Nat → Int32)) :=
  if vin l2 124 = true then
  if l4 ≤ 0 then
    some (0, m_her, (upd v_mc l2.toNatClampNeg l3))
  else
    some (1, m_her, (upd v_mc l2.toNatClampNeg l3))
  else none
def fX8_isNumber_5 (m_tap : Int32) (v_mt : Nat → Int32) : Nat → Int32 → Int32 → Int32 → Int32 → Int32 → (Nat → Int32) → Option (Int32 × Int32 × (Nat → Int32))
  | 0, _, _, _, _, _, _ => none
  | k + 1, l1, l2, l3, l4, m_her, v_mc =>
    if l1 ≤ l4 then
      fX8_isNumber_54 m_tap v_mt l2 l3 l4 m_her v_mc
    else
      (fX8_sign m_tap m_her v_mt).bind fun q2 =>
      if (fX8_isIn q2 48 57) = 0 then
        fX8_isNumber_54 m_tap v_mt l2 l3 l4 m_her v_mc
      else
        (fX8_sign m_tap m_her v_mt).bind fun q5 =>
        fX8_isNumber_5 m_tap v_mt k l1 l2 (((10 * l3) + q5) - 48) (l4 + 1) (m_her + 1) v_mc
def fX8_isNumber (m_tap : Int32) (m_her : Int32) (v_mt : Nat → Int32) (v_mc : Nat → Int32) (p0 : Int32) (p1 : Int32) : Option (Int32 × Int32 × (Nat → Int32)) :=
  fX8_isNumber_5 m_tap v_mt 64 p0 p1 0 0 m_her v_mc
def fX8_isKind (p0 : Int32) : Int32 :=
  if p0 = 119 then
    1
  else
    if p0 = 109 then
      1
    else
      if p0 = 107 then
        1
      else
        if p0 = 111 then
          1
        else
          if p0 = 98 then
            1
          else
            if p0 = 100 then
              1
            else
              0
def fX8_does (m_thr : Int32) (m_rea : Int32) (m_det : Int32) (m_ref : Int32) (m_net : Int32) (v_ms : Nat → Int32) (v_mf : Nat → Int32) (v_mc : Nat → Int32) (p0 : Int32) : Option (Int32 × Int32 × Int32 × Int32 × Int32 × Int32 × (Nat → Int32) × (Nat → Int32)) :=
  if vin (p0 + 1) 124 = true then
  if vin (p0 + 2) 124 = true then
  if vin (p0 + 3) 124 = true then
  if vin p0 124 = true then
  if (v_mc p0.toNatClampNeg) = 98 then
    (fX8_swaps m_thr m_rea m_det m_ref v_ms (v_mc (p0 + 1).toNatClampNeg) (v_mc (p0 + 2).toNatClampNeg)).bind fun q6 =>
    some (q6.1, q6.2.1, q6.2.2.1, q6.2.2.2.1, q6.2.2.2.2.1, m_net, q6.2.2.2.2.2, v_mf)
  else
    if (v_mc p0.toNatClampNeg) = 107 then
      (fX8_strikesBuoy m_thr m_rea m_det m_ref m_net v_ms (v_mc (p0 + 1).toNatClampNeg) (v_mc (p0 + 2).toNatClampNeg) (v_mc (p0 + 3).toNatClampNeg)).bind fun q9 =>
      some (q9.1, q9.2.1, q9.2.2.1, q9.2.2.2.1, q9.2.2.2.2.1, q9.2.2.2.2.2.1, q9.2.2.2.2.2.2, v_mf)
    else
      if (v_mc p0.toNatClampNeg) = 109 then
        (fX8_swims m_thr m_rea m_det m_ref v_ms v_mf (v_mc (p0 + 1).toNatClampNeg) (v_mc (p0 + 2).toNatClampNeg)).bind fun q12 =>
        some (q12.1, q12.2.1, q12.2.2.1, q12.2.2.2.1, q12.2.2.2.2.1, m_net, q12.2.2.2.2.2.1, q12.2.2.2.2.2.2)
      else
        if (v_mc p0.toNatClampNeg) = 111 then
          (fX8_sings m_thr m_rea m_det m_ref v_ms (v_mc (p0 + 1).toNatClampNeg)).bind fun q15 =>
          some (q15.1, q15.2.1, q15.2.2.1, q15.2.2.2.1, q15.2.2.2.2.1, m_net, q15.2.2.2.2.2, v_mf)
        else
          if (v_mc p0.toNatClampNeg) = 119 then
            (fX8_comes m_thr m_rea m_det m_ref v_ms (v_mc (p0 + 1).toNatClampNeg) (v_mc (p0 + 2).toNatClampNeg) (v_mc (p0 + 3).toNatClampNeg)).bind fun q18 =>
            some (q18.1, q18.2.1, q18.2.2.1, q18.2.2.2.1, q18.2.2.2.2.1, m_net, q18.2.2.2.2.2, v_mf)
          else
            (fX8_drifts m_thr m_rea m_det m_ref v_ms).bind fun q20 =>
            some (q20.1, q20.2.1, q20.2.2.1, q20.2.2.2.1, q20.2.2.2.2.1, m_net, q20.2.2.2.2.2, v_mf)
  else none
  else none
  else none
  else none
def fX8_errorPosition_13 (m_err : Int32) (x1 : Int32) (m_thr : Int32) : Option (Int32 × Int32) :=
  (fX8_isThrown m_thr x1 1).bind fun q2 =>
  if q2.1 = 0 then
    some (m_err, q2.2)
  else
    some (0, q2.2)
def fX8_errorPosition (m_thr : Int32) (m_err : Int32) : Option (Int32 × Int32) :=
  fX8_errorPosition_13 m_err (if 0 ≤ m_err then 0 else 1) m_thr
def fX8_reason_35 (m_rea : Int32) (m_det : Int32) (m_ref : Int32) (x1 : Int32) (l1 : Int32) (m_thr : Int32) : Option (Int32 × Int32) :=
  (fX8_isThrown m_thr x1 2).bind fun q6 =>
  if q6.1 = 0 then
    if l1 = 0 then
      some (m_rea, q6.2)
    else
      if l1 = 1 then
        some (m_det, q6.2)
      else
        some (m_ref, q6.2)
  else
    some (0, q6.2)
def fX8_reason_15 (m_rea : Int32) (m_det : Int32) (m_ref : Int32) (x1 : Int32) (l1 : Int32) (m_thr : Int32) : Option (Int32 × Int32) :=
  (fX8_isThrown m_thr x1 1).bind fun q2 =>
  if q2.1 = 0 then
    fX8_reason_35 m_rea m_det m_ref (if m_rea = 0 then 1 else 0) l1 q2.2
  else
    some (0, q2.2)
def fX8_reason (m_thr : Int32) (m_rea : Int32) (m_det : Int32) (m_ref : Int32) (p0 : Int32) : Option (Int32 × Int32) :=
  fX8_reason_15 m_rea m_det m_ref (if (fX8_isIn p0 0 2) = 0 then 1 else 0) p0 m_thr
def fX8_undo_13 (v_mp : Nat → Int32) (x1 : Int32) (m_chg : Int32) (m_thr : Int32) (v_ms : Nat → Int32) : Option (Int32 × Int32 × Int32 × (Nat → Int32)) :=
  (fX8_isThrown m_thr x1 1).bind fun q2 =>
  if q2.1 = 0 then
    (fX8_copies 618 v_mp 103 v_ms (103 * (m_chg - 1)) 0).bind fun q5 =>
    some ((m_chg - 1), (m_chg - 1), q2.2, q5)
  else
    some (0, m_chg, q2.2, v_ms)
def fX8_undo (m_chg : Int32) (m_thr : Int32) (v_ms : Nat → Int32) (v_mp : Nat → Int32) : Option (Int32 × Int32 × Int32 × (Nat → Int32)) :=
  fX8_undo_13 v_mp (if m_chg = 0 then 1 else 0) m_chg m_thr v_ms
def fX8_save (m_thr : Int32) (m_sav : Int32) (v_ms : Nat → Int32) (v_mv : Nat → Int32) : Option (Int32 × Int32 × Int32 × (Nat → Int32)) :=
  (fX8_copies 103 v_ms 103 v_mv 0 0).bind fun q1 =>
  if vin 1 103 = true then
  some ((v_ms (1 : Int32).toNatClampNeg), 0, 1, q1)
  else none
def fX8_restore_13 (m_sav : Int32) (v_mv : Nat → Int32) (x1 : Int32) (m_chg : Int32) (m_thr : Int32) (v_ms : Nat → Int32) : Option (Int32 × Int32 × Int32 × (Nat → Int32)) :=
  (fX8_isThrown m_thr x1 1).bind fun q2 =>
  if q2.1 = 0 then
    (fX8_copies 103 v_mv 103 v_ms 0 0).bind fun q5 =>
    if vin 1 103 = true then
    some ((q5 (1 : Int32).toNatClampNeg), 0, q2.2, q5)
    else none
  else
    some (0, m_chg, q2.2, v_ms)
def fX8_restore (m_chg : Int32) (m_thr : Int32) (m_sav : Int32) (v_ms : Nat → Int32) (v_mv : Nat → Int32) : Option (Int32 × Int32 × Int32 × (Nat → Int32)) :=
  fX8_restore_13 m_sav v_mv (if m_sav = 0 then 1 else 0) m_chg m_thr v_ms
def fX8_meanBreath_34 (v_ms : Nat → Int32) (rec4 : Int32 → Int32 → Int32 → Option (UInt64 × Int32)) (x0 : Int32) (x1 : Int32) (l2 : Int32) (m_thr : Int32) : Option (UInt64 × Int32) :=
  rec4 (x0 + x1) (l2 + 1) m_thr
def fX8_meanBreath_64 (v_ms : Nat → Int32) (x1 : Int32) (l1 : Int32) (l2 : Int32) (m_thr : Int32) : Option (UInt64 × Int32) :=
  (fX8_isThrown m_thr x1 1).bind fun q13 =>
  if q13.1 = 0 then
    if nn64 (FP.ddiv (FP.i2d l1) (FP.i2d l2)) = true then
    some ((FP.ddiv (FP.i2d l1) (FP.i2d l2)), q13.2)
    else none
  else
    some (FP.dconst0, q13.2)
def fX8_meanBreath_4 (v_ms : Nat → Int32) : Nat → Int32 → Int32 → Int32 → Option (UInt64 × Int32)
  | 0, _, _, _ => none
  | k + 1, l1, l2, m_thr =>
    if vin 0 103 = true then
    if (v_ms (0 : Int32).toNatClampNeg) ≤ l2 then
      (fX8_playing v_ms 0).bind fun q3 =>
      (fX8_playing v_ms 1).bind fun q5 =>
      fX8_meanBreath_64 v_ms (if (q3 + q5) = 0 then 1 else 0) l1 (q3 + q5) m_thr
    else
      (fX8_of v_ms l2 4).bind fun q8 =>
      if q8 < 0 then
        fX8_meanBreath_34 v_ms (fX8_meanBreath_4 v_ms k) l1 0 l2 m_thr
      else
        (fX8_of v_ms l2 3).bind fun q11 =>
        fX8_meanBreath_34 v_ms (fX8_meanBreath_4 v_ms k) l1 q11 l2 m_thr
    else none
def fX8_meanBreath (m_thr : Int32) (v_ms : Nat → Int32) : Option (UInt64 × Int32) :=
  fX8_meanBreath_4 v_ms 64 0 0 m_thr
def fX8_foulShare_16 (v_ms : Nat → Int32) (x1 : Int32) (m_thr : Int32) : Option (UInt32 × Int32) :=
  (fX8_isThrown m_thr x1 1).bind fun q3 =>
  if q3.1 = 0 then
    if vin 7 103 = true then
    if vin 6 103 = true then
    if nn32 (FP.fdiv (FP.i2f (v_ms (7 : Int32).toNatClampNeg)) (FP.i2f (v_ms (6 : Int32).toNatClampNeg))) = true then
    some ((FP.fdiv (FP.i2f (v_ms (7 : Int32).toNatClampNeg)) (FP.i2f (v_ms (6 : Int32).toNatClampNeg))), q3.2)
    else none
    else none
    else none
  else
    some (FP.fconst0, q3.2)
def fX8_foulShare (m_thr : Int32) (v_ms : Nat → Int32) : Option (UInt32 × Int32) :=
  if vin 6 103 = true then
  fX8_foulShare_16 v_ms (if (v_ms (6 : Int32).toNatClampNeg) = 0 then 1 else 0) m_thr
  else none
def fX8_isWay (m_tap : Int32) (m_her : Int32) (v_mt : Nat → Int32) (v_mc : Nat → Int32) (p0 : Int32) : Option (Nat × Int32 × Int32 × (Nat → Int32)) :=
  (fX8_isSign m_tap m_her v_mt 110).bind fun q3 =>
  if q3.1 = 0 then
    (fX8_isSign m_tap q3.2 v_mt 101).bind fun q8 =>
    if q8.1 = 0 then
      (fX8_isSign m_tap q8.2 v_mt 115).bind fun q13 =>
      if q13.1 = 0 then
        (fX8_isSign m_tap q13.2 v_mt 119).bind fun q18 =>
        if q18.1 = 0 then
          some (0, 0, q18.2, v_mc)
        else
          if vin p0 124 = true then
          some (0, 1, q18.2, (upd v_mc p0.toNatClampNeg 3))
          else none
      else
        if vin p0 124 = true then
        some (0, 1, q13.2, (upd v_mc p0.toNatClampNeg 2))
        else none
    else
      if vin p0 124 = true then
      some (0, 1, q8.2, (upd v_mc p0.toNatClampNeg 1))
      else none
  else
    if vin p0 124 = true then
    some (0, 1, q3.2, (upd v_mc p0.toNatClampNeg 0))
    else none
def fX8_readsCommand (m_tap : Int32) (m_her : Int32) (m_cmd : Int32) (v_mt : Nat → Int32) (v_mc : Nat → Int32) : Option (Nat × Int32 × Int32 × Int32 × (Nat → Int32)) :=
  (fX8_sign m_tap m_her v_mt).bind fun q1 =>
  if (fX8_isKind q1) = 0 then
    some (0, 0, m_her, m_cmd, v_mc)
  else
    if vin (4 * m_cmd) 124 = true then
    if q1 = 98 then
      (fX8_isNumber m_tap (m_her + 1) v_mt (upd v_mc (4 * m_cmd).toNatClampNeg q1) 1 ((4 * m_cmd) + 1)).bind fun q6 =>
      if q6.1 = 0 then
        some (0, 0, q6.2.1, (m_cmd + 1), q6.2.2)
      else
        (fX8_isNumber m_tap q6.2.1 v_mt q6.2.2 1 ((4 * m_cmd) + 2)).bind fun q9 =>
        if q9.1 = 0 then
          some (0, 0, q9.2.1, (m_cmd + 1), q9.2.2)
        else
          some (0, 1, q9.2.1, (m_cmd + 1), q9.2.2)
    else
      if q1 = 107 then
        (fX8_isNumber m_tap (m_her + 1) v_mt (upd v_mc (4 * m_cmd).toNatClampNeg q1) 1 ((4 * m_cmd) + 1)).bind fun q13 =>
        if q13.1 = 0 then
          some (0, 0, q13.2.1, (m_cmd + 1), q13.2.2)
        else
          (fX8_isWay m_tap q13.2.1 v_mt q13.2.2 ((4 * m_cmd) + 2)).bind fun q16 =>
          if q16.1 = 0 then
            if q16.2.1 = 0 then
              some (0, 0, q16.2.2.1, (m_cmd + 1), q16.2.2.2)
            else
              (fX8_isNumber m_tap q16.2.2.1 v_mt q16.2.2.2 1 ((4 * m_cmd) + 3)).bind fun q19 =>
              if q19.1 = 0 then
                some (0, 0, q19.2.1, (m_cmd + 1), q19.2.2)
              else
                some (0, 1, q19.2.1, (m_cmd + 1), q19.2.2)
          else
            some (q16.1, 0, q16.2.2.1, (m_cmd + 1), q16.2.2.2)
      else
        if q1 = 109 then
          (fX8_isNumber m_tap (m_her + 1) v_mt (upd v_mc (4 * m_cmd).toNatClampNeg q1) 1 ((4 * m_cmd) + 1)).bind fun q23 =>
          if q23.1 = 0 then
            some (0, 0, q23.2.1, (m_cmd + 1), q23.2.2)
          else
            (fX8_isSign m_tap q23.2.1 v_mt 64).bind fun q26 =>
            if q26.1 = 0 then
              some (0, 0, q26.2, (m_cmd + 1), q23.2.2)
            else
              (fX8_isNumber m_tap q26.2 v_mt q23.2.2 2 ((4 * m_cmd) + 2)).bind fun q29 =>
              if q29.1 = 0 then
                some (0, 0, q29.2.1, (m_cmd + 1), q29.2.2)
              else
                some (0, 1, q29.2.1, (m_cmd + 1), q29.2.2)
        else
          if q1 = 111 then
            (fX8_isNumber m_tap (m_her + 1) v_mt (upd v_mc (4 * m_cmd).toNatClampNeg q1) 1 ((4 * m_cmd) + 1)).bind fun q33 =>
            some (0, (q33.1 &&& 1), q33.2.1, (m_cmd + 1), q33.2.2)
          else
            if q1 = 119 then
              (fX8_isNumber m_tap (m_her + 1) v_mt (upd v_mc (4 * m_cmd).toNatClampNeg q1) 1 ((4 * m_cmd) + 1)).bind fun q36 =>
              if q36.1 = 0 then
                some (0, 0, q36.2.1, (m_cmd + 1), q36.2.2)
              else
                (fX8_isNumber m_tap q36.2.1 v_mt q36.2.2 1 ((4 * m_cmd) + 2)).bind fun q39 =>
                if q39.1 = 0 then
                  some (0, 0, q39.2.1, (m_cmd + 1), q39.2.2)
                else
                  (fX8_isNumber m_tap q39.2.1 v_mt q39.2.2 1 ((4 * m_cmd) + 3)).bind fun q42 =>
                  if q42.1 = 0 then
                    some (0, 0, q42.2.1, (m_cmd + 1), q42.2.2)
                  else
                    some (0, 1, q42.2.1, (m_cmd + 1), q42.2.2)
            else
              some (0, 1, (m_her + 1), (m_cmd + 1), (upd v_mc (4 * m_cmd).toNatClampNeg q1))
    else none
def fX8_isText_36 (m_tap : Int32) (v_mt : Nat → Int32) (l1 : Int32) (m_her : Int32) (m_cmd : Int32) (v_mc : Nat → Int32) : Option (Nat × Int32 × Int32 × Int32 × (Nat → Int32)) :=
  if l1 = 0 then
    some (0, 0, m_her, m_cmd, v_mc)
  else
    if m_her = m_tap then
      some (0, 1, m_her, m_cmd, v_mc)
    else
      some (0, 0, m_her, m_cmd, v_mc)
def fX8_isText_15 (m_tap : Int32) (v_mt : Nat → Int32) : Nat → Int32 → Int32 → Int32 → (Nat → Int32) → Option (Nat × Int32 × Int32 × Int32 × (Nat → Int32))
  | 0, _, _, _, _ => none
  | k + 1, l1, m_her, m_cmd, v_mc =>
    if l1 = 0 then
      fX8_isText_36 m_tap v_mt l1 m_her m_cmd v_mc
    else
      (fX8_isSign m_tap m_her v_mt 59).bind fun q4 =>
      if q4.1 = 0 then
        fX8_isText_36 m_tap v_mt l1 q4.2 m_cmd v_mc
      else
        (fX8_readsCommand m_tap q4.2 m_cmd v_mt v_mc).bind fun q7 =>
        if q7.1 = 0 then
          fX8_isText_15 m_tap v_mt k q7.2.1 q7.2.2.1 q7.2.2.2.1 q7.2.2.2.2
        else
          some (q7.1, 0, q7.2.2.1, q7.2.2.2.1, q7.2.2.2.2)
def fX8_isText (m_tap : Int32) (m_her : Int32) (m_cmd : Int32) (v_mt : Nat → Int32) (v_mc : Nat → Int32) : Option (Nat × Int32 × Int32 × Int32 × (Nat → Int32)) :=
  (fX8_readsCommand m_tap 0 0 v_mt v_mc).bind fun q1 =>
  if q1.1 = 0 then
    fX8_isText_15 m_tap v_mt 64 q1.2.1 q1.2.2.1 q1.2.2.2.1 q1.2.2.2.2
  else
    some (q1.1, 0, q1.2.2.1, q1.2.2.2.1, q1.2.2.2.2)
def fX8_read_123 (v_mt : Nat → Int32) (x1 : Int32) (m_chg : Int32) (m_thr : Int32) (m_rea : Int32) (m_det : Int32) (m_ref : Int32) (m_err : Int32) (m_ans : Int32) (m_net : Int32) (m_tap : Int32) (m_her : Int32) (m_cmd : Int32) (v_ms : Nat → Int32) (v_mw : Nat → Int32) (v_mp : Nat → Int32) (v_mf : Nat → Int32) (v_mc : Nat → Int32) : Option (Nat × Int32 × Int32 × Int32 × Int32 × Int32 × Int32 × Int32 × Int32 × Int32 × Int32 × Int32 × Int32 × (Nat → Int32) × (Nat → Int32) × (Nat → Int32) × (Nat → Int32) × (Nat → Int32)) :=
  some (0, 0, m_chg, x1, m_rea, m_det, m_ref, m_err, m_ans, m_net, m_tap, m_her, m_cmd, v_ms, v_mw, v_mp, v_mf, v_mc)
def fX8_read_105 (v_mt : Nat → Int32) (x1 : Int32) (m_chg : Int32) (m_thr : Int32) (m_rea : Int32) (m_det : Int32) (m_ref : Int32) (m_err : Int32) (m_ans : Int32) (m_net : Int32) (m_tap : Int32) (m_her : Int32) (m_cmd : Int32) (v_ms : Nat → Int32) (v_mw : Nat → Int32) (v_mp : Nat → Int32) (v_mf : Nat → Int32) (v_mc : Nat → Int32) : Option (Nat × Int32 × Int32 × Int32 × Int32 × Int32 × Int32 × Int32 × Int32 × Int32 × Int32 × Int32 × Int32 × (Nat → Int32) × (Nat → Int32) × (Nat → Int32) × (Nat → Int32) × (Nat → Int32)) :=
  fX8_read_123 v_mt (if m_thr = 9 then 3 else 2) m_chg m_thr m_rea m_det x1 m_err m_ans m_net m_tap m_her m_cmd v_ms v_mw v_mp v_mf v_mc
def fX8_read_43 (v_mt : Nat → Int32) : Nat → Int32 → Int32 → Int32 → Int32 → Int32 → Int32 → Int32 → Int32 → Int32 → Int32 → Int32 → Int32 → (Nat → Int32) → (Nat → Int32) → (Nat → Int32) → (Nat → Int32) → (Nat → Int32) → Option (Nat × Int32 × Int32 × Int32 × Int32 × Int32 × Int32 × Int32 × Int32 × Int32 × Int32 × Int32 × Int32 × (Nat → Int32) × (Nat → Int32) × (Nat → Int32) × (Nat → Int32) × (Nat → Int32))
  | 0, _, _, _, _, _, _, _, _, _, _, _, _, _, _, _, _, _ => none
  | k + 1, l2, m_chg, m_thr, m_rea, m_det, m_ref, m_err, m_ans, m_net, m_tap, m_her, m_cmd, v_ms, v_mw, v_mp, v_mf, v_mc =>
    if m_cmd ≤ l2 then
      (fX8_ends m_chg m_thr v_mw v_mp m_cmd 3).bind fun q10 =>
      some (0, q10.1, q10.2.1, q10.2.2.1, m_rea, m_det, m_ref, m_err, m_ans, m_net, m_tap, m_her, m_cmd, v_ms, v_mw, q10.2.2.2, v_mf, v_mc)
    else
      (fX8_does 0 m_rea m_det m_ref m_net v_ms v_mf v_mc (4 * l2)).bind fun q12 =>
      if q12.2.1 = 0 then
        fX8_read_43 v_mt k (l2 + 1) m_chg q12.2.1 q12.2.2.1 q12.2.2.2.1 q12.2.2.2.2.1 m_err q12.1 q12.2.2.2.2.2.1 m_tap m_her m_cmd q12.2.2.2.2.2.2.1 v_mw v_mp q12.2.2.2.2.2.2.2 v_mc
      else
        (fX8_copies 103 v_mw 103 q12.2.2.2.2.2.2.1 0 0).bind fun q15 =>
        fX8_read_105 v_mt (if q12.2.1 = 9 then l2 else q12.2.2.2.2.1) m_chg q12.2.1 q12.2.2.1 q12.2.2.2.1 q12.2.2.2.2.1 m_err q12.1 q12.2.2.2.2.2.1 m_tap m_her m_cmd q15 v_mw v_mp q12.2.2.2.2.2.2.2 v_mc
def fX8_read_20 (v_mt : Nat → Int32) (x1 : Int32) (m_chg : Int32) (m_thr : Int32) (m_rea : Int32) (m_det : Int32) (m_ref : Int32) (m_err : Int32) (m_ans : Int32) (m_net : Int32) (m_tap : Int32) (m_her : Int32) (m_cmd : Int32) (v_ms : Nat → Int32) (v_mw : Nat → Int32) (v_mp : Nat → Int32) (v_mf : Nat → Int32) (v_mc : Nat → Int32) : Option (Nat × Int32 × Int32 × Int32 × Int32 × Int32 × Int32 × Int32 × Int32 × Int32 × Int32 × Int32 × Int32 × (Nat → Int32) × (Nat → Int32) × (Nat → Int32) × (Nat → Int32) × (Nat → Int32)) :=
  (fX8_isThrown m_thr x1 1).bind fun q4 =>
  if q4.1 = 0 then
    (fX8_keeps q4.2 v_ms v_mw).bind fun q7 =>
    fX8_read_43 v_mt 64 0 m_chg q7.1 m_rea m_det m_ref m_err m_ans m_net m_tap m_her m_cmd v_ms q7.2 v_mp v_mf v_mc
  else
    some (0, 0, m_chg, q4.2, m_rea, m_det, m_ref, m_her, m_ans, m_net, m_tap, m_her, m_cmd, v_ms, v_mw, v_mp, v_mf, v_mc)
def fX8_read (m_chg : Int32) (m_thr : Int32) (m_rea : Int32) (m_det : Int32) (m_ref : Int32) (m_err : Int32) (m_ans : Int32) (m_net : Int32) (m_tap : Int32) (m_her : Int32) (m_cmd : Int32) (v_ms : Nat → Int32) (v_mw : Nat → Int32) (v_mp : Nat → Int32) (v_mf : Nat → Int32) (v_mt : Nat → Int32) (v_mc : Nat → Int32) : Option (Nat × Int32 × Int32 × Int32 × Int32 × Int32 × Int32 × Int32 × Int32 × Int32 × Int32 × Int32 × Int32 × (Nat → Int32) × (Nat → Int32) × (Nat → Int32) × (Nat → Int32) × (Nat → Int32)) :=
  (fX8_isText m_tap m_her m_cmd v_mt v_mc).bind fun q1 =>
  if q1.1 = 0 then
    fX8_read_20 v_mt (if q1.2.1 = 0 then 1 else 0) m_chg m_thr m_rea m_det m_ref m_err m_ans m_net 0 q1.2.2.1 q1.2.2.2.1 v_ms v_mw v_mp v_mf q1.2.2.2.2
  else
    some (q1.1, 0, m_chg, m_thr, m_rea, m_det, m_ref, m_err, m_ans, m_net, m_tap, q1.2.2.1, q1.2.2.2.1, v_ms, v_mw, v_mp, v_mf, q1.2.2.2.2)

