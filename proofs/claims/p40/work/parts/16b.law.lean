def fL_isWell_253 (t_len : Int32) (h_siz : Int32) (v_gw : Nat → Int32) (v_gk : Nat → Int32) (rec39 : Int32 → Int32 → Int32 → Int32 → Int32 → Int32 → Int32 → (Nat → Int32) → (Nat → Int32) → (Nat → Int32) → (Nat → Int32) → (Nat → Int32) → Option (Int32 × Int32 × (Nat → Int32) × (Nat → Int32) × (Nat → Int32) × (Nat → Int32) × (Nat → Int32))) (rec203 : Int32 → Int32 → Int32 → Int32 → Int32 → Int32 → Int32 → Int32 → Int32 → Int32 → (Nat → Int32) → (Nat → Int32) → (Nat → Int32) → (Nat → Int32) → (Nat → Int32) → Option (Int32 × Int32 × (Nat → Int32) × (Nat → Int32) × (Nat → Int32) × (Nat → Int32) × (Nat → Int32))) (x0 : Int32) (x1 : Int32) (l1 : Int32) (l2 : Int32) (l3 : Int32) (l6 : Int32) (l7 : Int32) (l8 : Int32) (l10 : Int32) (l12 : Int32) (f_net : Int32) (v_rs : Nat → Int32) (v_rl : Nat → Int32) (v_ro : Nat → Int32) (v_p0 : Nat → Int32) (v_p1 : Nat → Int32) : Option (Int32 × Int32 × (Nat → Int32) × (Nat → Int32) × (Nat → Int32) × (Nat → Int32) × (Nat → Int32)) :=
  rec203 l1 l2 l3 l6 l7 l8 l10 (x0 ||| x1) (l12 + 1) f_net v_rs v_rl v_ro v_p0 v_p1
def fL_isWell_291 (t_len : Int32) (h_siz : Int32) (v_gw : Nat → Int32) (v_gk : Nat → Int32) (rec39 : Int32 → Int32 → Int32 → Int32 → Int32 → Int32 → Int32 → (Nat → Int32) → (Nat → Int32) → (Nat → Int32) → (Nat → Int32) → (Nat → Int32) → Option (Int32 × Int32 × (Nat → Int32) × (Nat → Int32) × (Nat → Int32) × (Nat → Int32) × (Nat → Int32))) (x0 : Int32) (x1 : Int32) (l1 : Int32) (l2 : Int32) (l3 : Int32) (l6 : Int32) (l7 : Int32) (l8 : Int32) (f_net : Int32) (v_rs : Nat → Int32) (v_rl : Nat → Int32) (v_ro : Nat → Int32) (v_p0 : Nat → Int32) (v_p1 : Nat → Int32) : Option (Int32 × Int32 × (Nat → Int32) × (Nat → Int32) × (Nat → Int32) × (Nat → Int32) × (Nat → Int32)) :=
  if x0 = x1 then
    rec39 l1 l2 l3 l6 l7 (l8 + 1) f_net v_rs v_rl v_ro v_p0 v_p1
  else
    some (0, f_net, v_rs, v_rl, v_ro, v_p0, v_p1)
def fL_isWell_203 (t_len : Int32) (h_siz : Int32) (v_gw : Nat → Int32) (v_gk : Nat → Int32) (rec39 : Int32 → Int32 → Int32 → Int32 → Int32 → Int32 → Int32 → (Nat → Int32) → (Nat → Int32) → (Nat → Int32) → (Nat → Int32) → (Nat → Int32) → Option (Int32 × Int32 × (Nat → Int32) × (Nat → Int32) × (Nat → Int32) × (Nat → Int32) × (Nat → Int32))) : Nat → Int32 → Int32 → Int32 → Int32 → Int32 → Int32 → Int32 → Int32 → Int32 → Int32 → (Nat → Int32) → (Nat → Int32) → (Nat → Int32) → (Nat → Int32) → (Nat → Int32) → Option (Int32 × Int32 × (Nat → Int32) × (Nat → Int32) × (Nat → Int32) × (Nat → Int32) × (Nat → Int32))
  | 0, _, _, _, _, _, _, _, _, _, _, _, _, _, _, _ => none
  | k + 1, l1, l2, l3, l6, l7, l8, l10, l11, l12, f_net, v_rs, v_rl, v_ro, v_p0, v_p1 =>
    (fX7_account_n t_len h_siz v_gw v_gk 0).bind fun q38 =>
    if q38 ≤ l12 then
      (fX7_wouldFoul_n v_gw v_gk l8).bind fun q41 =>
      if l11 = 0 then
        fL_isWell_291 t_len h_siz v_gw v_gk rec39 q41 0 l1 l2 l3 l6 l7 l8 f_net v_rs v_rl v_ro v_p0 v_p1
      else
        (fX7_account_n t_len h_siz v_gw v_gk 6).bind fun q44 =>
        fL_isWell_291 t_len h_siz v_gw v_gk rec39 q41 (if q44 = (1 - l10) then 1 else 0) l1 l2 l3 l6 l7 l8 f_net v_rs v_rl v_ro v_p0 v_p1
    else
      (fX7_whaleOf_n v_gw v_gk l12 0).bind fun q47 =>
      if q47 = l10 then
        fL_isWell_253 t_len h_siz v_gw v_gk rec39 (fL_isWell_203 t_len h_siz v_gw v_gk rec39 k) l11 0 l1 l2 l3 l6 l7 l8 l10 l12 f_net v_rs v_rl v_ro v_p0 v_p1
      else
        (fX7_whaleOf_n v_gw v_gk l12 5).bind fun q50 =>
        if q50 = 1 then
          (fL_far t_len h_siz v_gw v_gk l12).bind fun q53 =>
          fL_isWell_253 t_len h_siz v_gw v_gk rec39 (fL_isWell_203 t_len h_siz v_gw v_gk rec39 k) l11 (if 2 ≤ q53 then 0 else 1) l1 l2 l3 l6 l7 l8 l10 l12 f_net v_rs v_rl v_ro v_p0 v_p1
        else
          fL_isWell_253 t_len h_siz v_gw v_gk rec39 (fL_isWell_203 t_len h_siz v_gw v_gk rec39 k) l11 0 l1 l2 l3 l6 l7 l8 l10 l12 f_net v_rs v_rl v_ro v_p0 v_p1
def fL_isWell_197 (t_len : Int32) (h_siz : Int32) (v_gw : Nat → Int32) (v_gk : Nat → Int32) (rec39 : Int32 → Int32 → Int32 → Int32 → Int32 → Int32 → Int32 → (Nat → Int32) → (Nat → Int32) → (Nat → Int32) → (Nat → Int32) → (Nat → Int32) → Option (Int32 × Int32 × (Nat → Int32) × (Nat → Int32) × (Nat → Int32) × (Nat → Int32) × (Nat → Int32))) (l1 : Int32) (l2 : Int32) (l3 : Int32) (l6 : Int32) (l7 : Int32) (l8 : Int32) (l10 : Int32) (f_net : Int32) (v_rs : Nat → Int32) (v_rl : Nat → Int32) (v_ro : Nat → Int32) (v_p0 : Nat → Int32) (v_p1 : Nat → Int32) : Option (Int32 × Int32 × (Nat → Int32) × (Nat → Int32) × (Nat → Int32) × (Nat → Int32) × (Nat → Int32)) :=
  fL_isWell_203 t_len h_siz v_gw v_gk rec39 64 l1 l2 l3 l6 l7 l8 l10 0 0 f_net v_rs v_rl v_ro v_p0 v_p1
def fL_isWell_157 (t_len : Int32) (h_siz : Int32) (v_gw : Nat → Int32) (v_gk : Nat → Int32) (rec39 : Int32 → Int32 → Int32 → Int32 → Int32 → Int32 → Int32 → (Nat → Int32) → (Nat → Int32) → (Nat → Int32) → (Nat → Int32) → (Nat → Int32) → Option (Int32 × Int32 × (Nat → Int32) × (Nat → Int32) × (Nat → Int32) × (Nat → Int32) × (Nat → Int32))) (l1 : Int32) (l2 : Int32) (l3 : Int32) (l6 : Int32) (l7 : Int32) (l8 : Int32) (l9 : Int32) (l10 : Int32) (f_net : Int32) (v_rs : Nat → Int32) (v_rl : Nat → Int32) (v_ro : Nat → Int32) (v_p0 : Nat → Int32) (v_p1 : Nat → Int32) : Option (Int32 × Int32 × (Nat → Int32) × (Nat → Int32) × (Nat → Int32) × (Nat → Int32) × (Nat → Int32)) :=
  (fX7_whaleOf_n v_gw v_gk l8 3).bind fun q28 =>
  if q28 < 0 then
    some (0, f_net, v_rs, v_rl, v_ro, v_p0, v_p1)
  else
    (fX7_whaleOf_n v_gw v_gk l8 3).bind fun q31 =>
    if 20 < q31 then
      some (0, f_net, v_rs, v_rl, v_ro, v_p0, v_p1)
    else
      (fX7_whaleOf_n v_gw v_gk l8 5).bind fun q34 =>
      if q34 = 1 then
        if 0 ≤ l9 then
          fL_isWell_197 t_len h_siz v_gw v_gk rec39 l1 l2 l3 l6 l7 l8 l10 f_net v_rs v_rl v_ro v_p0 v_p1
        else
          some (0, f_net, v_rs, v_rl, v_ro, v_p0, v_p1)
      else
        fL_isWell_197 t_len h_siz v_gw v_gk rec39 l1 l2 l3 l6 l7 l8 l10 f_net v_rs v_rl v_ro v_p0 v_p1
def fL_isWell_106 (t_len : Int32) (h_siz : Int32) (v_gw : Nat → Int32) (v_gk : Nat → Int32) (rec39 : Int32 → Int32 → Int32 → Int32 → Int32 → Int32 → Int32 → (Nat → Int32) → (Nat → Int32) → (Nat → Int32) → (Nat → Int32) → (Nat → Int32) → Option (Int32 × Int32 × (Nat → Int32) × (Nat → Int32) × (Nat → Int32) × (Nat → Int32) × (Nat → Int32))) (x1 : Int32) (x2 : Int32) (x3 : Int32) (l1 : Int32) (l2 : Int32) (l3 : Int32) (l6 : Int32) (l7 : Int32) (l8 : Int32) (l9 : Int32) (l10 : Int32) (f_net : Int32) (v_rs : Nat → Int32) (v_rl : Nat → Int32) (v_ro : Nat → Int32) (v_p0 : Nat → Int32) (v_p1 : Nat → Int32) : Option (Int32 × Int32 × (Nat → Int32) × (Nat → Int32) × (Nat → Int32) × (Nat → Int32) × (Nat → Int32)) :=
  if vin x1 2 = true then
  (fX7_whaleOf_n v_gw v_gk l8 8).bind fun q18 =>
  (fX7_whaleOf_n v_gw v_gk l8 7).bind fun q20 =>
  (fX7_whaleOf_n v_gw v_gk l8 6).bind fun q22 =>
  if l9 < 0 then
    fL_isWell_157 t_len h_siz v_gw v_gk rec39 (l1 + q18) (l2 + q20) (l3 + q22) l6 l7 l8 l9 l10 f_net v_rs v_rl v_ro v_p0 (upd v_p1 x1.toNatClampNeg (x2 + x3))
  else
    (fX7_at_n v_gw v_gk l9).bind fun q25 =>
    if q25 = l8 then
      fL_isWell_157 t_len h_siz v_gw v_gk rec39 (l1 + q18) (l2 + q20) (l3 + q22) l6 l7 l8 l9 l10 f_net v_rs v_rl v_ro v_p0 (upd v_p1 x1.toNatClampNeg (x2 + x3))
    else
      some (0, f_net, v_rs, v_rl, v_ro, v_p0, (upd v_p1 x1.toNatClampNeg (x2 + x3)))
  else none
def fL_isWell_83 (t_len : Int32) (h_siz : Int32) (v_gw : Nat → Int32) (v_gk : Nat → Int32) (rec39 : Int32 → Int32 → Int32 → Int32 → Int32 → Int32 → Int32 → (Nat → Int32) → (Nat → Int32) → (Nat → Int32) → (Nat → Int32) → (Nat → Int32) → Option (Int32 × Int32 × (Nat → Int32) × (Nat → Int32) × (Nat → Int32) × (Nat → Int32) × (Nat → Int32))) (x1 : Int32) (x2 : Int32) (x3 : Int32) (l1 : Int32) (l2 : Int32) (l3 : Int32) (l6 : Int32) (l7 : Int32) (l8 : Int32) (l9 : Int32) (l10 : Int32) (f_net : Int32) (v_rs : Nat → Int32) (v_rl : Nat → Int32) (v_ro : Nat → Int32) (v_p0 : Nat → Int32) (v_p1 : Nat → Int32) : Option (Int32 × Int32 × (Nat → Int32) × (Nat → Int32) × (Nat → Int32) × (Nat → Int32) × (Nat → Int32)) :=
  if vin x1 2 = true then
  if vin l10 2 = true then
  (fL_far t_len h_siz v_gw v_gk l8).bind fun q14 =>
  fL_isWell_106 t_len h_siz v_gw v_gk rec39 l10 (v_p1 l10.toNatClampNeg) (if 2 ≤ q14 then 0 else 1) l1 l2 l3 l6 l7 l8 l9 l10 f_net v_rs v_rl v_ro (upd v_p0 x1.toNatClampNeg (x2 + x3)) v_p1
  else none
  else none
def fL_isWell_343 (t_len : Int32) (h_siz : Int32) (v_gw : Nat → Int32) (v_gk : Nat → Int32) (rec305 : Int32 → Int32 → Int32 → Int32 → Int32 → Int32 → Int32 → (Nat → Int32) → (Nat → Int32) → (Nat → Int32) → (Nat → Int32) → (Nat → Int32) → Option (Int32 × Int32 × (Nat → Int32) × (Nat → Int32) × (Nat → Int32) × (Nat → Int32) × (Nat → Int32))) (x0 : Int32) (x1 : Int32) (l1 : Int32) (l2 : Int32) (l3 : Int32) (l6 : Int32) (l7 : Int32) (l8 : Int32) (f_net : Int32) (v_rs : Nat → Int32) (v_rl : Nat → Int32) (v_ro : Nat → Int32) (v_p0 : Nat → Int32) (v_p1 : Nat → Int32) : Option (Int32 × Int32 × (Nat → Int32) × (Nat → Int32) × (Nat → Int32) × (Nat → Int32) × (Nat → Int32)) :=
  if x0 = x1 then
    rec305 l1 l2 l3 l6 l7 (l8 + 1) f_net v_rs v_rl v_ro v_p0 v_p1
  else
    some (0, f_net, v_rs, v_rl, v_ro, v_p0, v_p1)
def fL_isWell_530 (t_len : Int32) (h_siz : Int32) (v_gw : Nat → Int32) (v_gk : Nat → Int32) (x0 : Int32) (x1 : Int32) (f_net : Int32) (v_rs : Nat → Int32) (v_rl : Nat → Int32) (v_ro : Nat → Int32) (v_p0 : Nat → Int32) (v_p1 : Nat → Int32) : Option (Int32 × Int32 × (Nat → Int32) × (Nat → Int32) × (Nat → Int32) × (Nat → Int32) × (Nat → Int32)) :=
  if x0 = x1 then
    (fX7_isFair f_net v_gw v_gk v_rs v_rl v_ro).bind fun q114 =>
    if q114.1 = 0 then
      some (0, q114.2.1, q114.2.2.1, q114.2.2.2.1, q114.2.2.2.2, v_p0, v_p1)
    else
      some (1, q114.2.1, q114.2.2.1, q114.2.2.2.1, q114.2.2.2.2, v_p0, v_p1)
  else
    some (0, f_net, v_rs, v_rl, v_ro, v_p0, v_p1)
def fL_isWell_305 (t_len : Int32) (h_siz : Int32) (v_gw : Nat → Int32) (v_gk : Nat → Int32) : Nat → Int32 → Int32 → Int32 → Int32 → Int32 → Int32 → Int32 → (Nat → Int32) → (Nat → Int32) → (Nat → Int32) → (Nat → Int32) → (Nat → Int32) → Option (Int32 × Int32 × (Nat → Int32) × (Nat → Int32) × (Nat → Int32) × (Nat → Int32) × (Nat → Int32))
  | 0, _, _, _, _, _, _, _, _, _, _, _, _ => none
  | k + 1, l1, l2, l3, l6, l7, l8, f_net, v_rs, v_rl, v_ro, v_p0, v_p1 =>
    if 45 ≤ l8 then
      (fX7_account_n t_len h_siz v_gw v_gk 3).bind fun q58 =>
      (fX7_account_n t_len h_siz v_gw v_gk 4).bind fun q60 =>
      (fX7_account_n t_len h_siz v_gw v_gk 7).bind fun q62 =>
      if l1 = q62 then
        (fX7_account_n t_len h_siz v_gw v_gk 8).bind fun q65 =>
        if l2 = q65 then
          (fX7_account_n t_len h_siz v_gw v_gk 3).bind fun q68 =>
          (fX7_account_n t_len h_siz v_gw v_gk 4).bind fun q70 =>
          if (q68 + q70) < l3 then
            some (0, f_net, v_rs, v_rl, v_ro, v_p0, v_p1)
          else
            if vin 0 2 = true then
            if 3 < (v_p0 (0 : Int32).toNatClampNeg) then
              some (0, f_net, v_rs, v_rl, v_ro, v_p0, v_p1)
            else
              if vin 1 2 = true then
              if 3 < (v_p0 (1 : Int32).toNatClampNeg) then
                some (0, f_net, v_rs, v_rl, v_ro, v_p0, v_p1)
              else
                if vin 0 2 = true then
                if vin 1 2 = true then
                (fX7_account_n t_len h_siz v_gw v_gk 10).bind fun q79 =>
                if ((v_p0 (0 : Int32).toNatClampNeg) + (v_p0 (1 : Int32).toNatClampNeg)) = q79 then
                  if vin 0 2 = true then
                  (fX7_beside_n v_gw v_gk 0).bind fun q83 =>
                  if (v_p1 (0 : Int32).toNatClampNeg) = q83 then
                    if vin 1 2 = true then
                    (fX7_beside_n v_gw v_gk 1).bind fun q87 =>
                    if (v_p1 (1 : Int32).toNatClampNeg) = q87 then
                      (fX7_tide_n l6).bind fun q90 =>
                      if q90 = l7 then
                        (fX7_tideAgain_n l6).bind fun q93 =>
                        if q93 = l7 then
                          if 48 < l6 then
                            some (0, f_net, v_rs, v_rl, v_ro, v_p0, v_p1)
                          else
                            (fX7_account_n t_len h_siz v_gw v_gk 5).bind fun q97 =>
                            if q97 < 0 then
                              some (0, f_net, v_rs, v_rl, v_ro, v_p0, v_p1)
                            else
                              (fX7_account_n t_len h_siz v_gw v_gk 5).bind fun q100 =>
                              if 45 ≤ q100 then
                                some (0, f_net, v_rs, v_rl, v_ro, v_p0, v_p1)
                              else
                                (fX7_leader v_gk).bind fun q103 =>
                                fL_isWell_530 t_len h_siz v_gw v_gk q103 (if (q58 - q60) = 0 then (-1) else (if (q58 - q60) ≤ 0 then 1 else 0)) f_net v_rs v_rl v_ro v_p0 v_p1
                        else
                          some (0, f_net, v_rs, v_rl, v_ro, v_p0, v_p1)
                      else
                        some (0, f_net, v_rs, v_rl, v_ro, v_p0, v_p1)
                    else
                      some (0, f_net, v_rs, v_rl, v_ro, v_p0, v_p1)
                    else none
                  else
                    some (0, f_net, v_rs, v_rl, v_ro, v_p0, v_p1)
                  else none
                else
                  some (0, f_net, v_rs, v_rl, v_ro, v_p0, v_p1)
                else none
                else none
              else none
            else none
        else
          some (0, f_net, v_rs, v_rl, v_ro, v_p0, v_p1)
      else
        some (0, f_net, v_rs, v_rl, v_ro, v_p0, v_p1)
    else
      (fX7_isDry_n v_gk l8).bind fun q107 =>
      fL_isWell_343 t_len h_siz v_gw v_gk (fL_isWell_305 t_len h_siz v_gw v_gk k) q107 (if 3 ≤ l7 then 0 else (if l8 < 9 then 1 else (if l8 ≤ 35 then 0 else 1))) l1 l2 l3 l6 l7 l8 f_net v_rs v_rl v_ro v_p0 v_p1
def fL_isWell_39 (t_len : Int32) (h_siz : Int32) (v_gw : Nat → Int32) (v_gk : Nat → Int32) : Nat → Int32 → Int32 → Int32 → Int32 → Int32 → Int32 → Int32 → (Nat → Int32) → (Nat → Int32) → (Nat → Int32) → (Nat → Int32) → (Nat → Int32) → Option (Int32 × Int32 × (Nat → Int32) × (Nat → Int32) × (Nat → Int32) × (Nat → Int32) × (Nat → Int32))
  | 0, _, _, _, _, _, _, _, _, _, _, _, _ => none
  | k + 1, l1, l2, l3, l6, l7, l8, f_net, v_rs, v_rl, v_ro, v_p0, v_p1 =>
    (fX7_account_n t_len h_siz v_gw v_gk 0).bind fun q3 =>
    if q3 ≤ l8 then
      fL_isWell_305 t_len h_siz v_gw v_gk 64 l1 l2 l3 l6 l7 0 f_net v_rs v_rl v_ro v_p0 v_p1
    else
      (fX7_whaleOf_n v_gw v_gk l8 4).bind fun q6 =>
      (fX7_whaleOf_n v_gw v_gk l8 0).bind fun q8 =>
      if vin q8 2 = true then
      fL_isWell_83 t_len h_siz v_gw v_gk (fL_isWell_39 t_len h_siz v_gw v_gk k) q8 (v_p0 q8.toNatClampNeg) (if q6 < 0 then 0 else 1) l1 l2 l3 l6 l7 l8 q6 q8 f_net v_rs v_rl v_ro v_p0 v_p1
      else none
def fL_isWell (f_net : Int32) (t_len : Int32) (h_siz : Int32) (v_gw : Nat → Int32) (v_gk : Nat → Int32) (v_rs : Nat → Int32) (v_rl : Nat → Int32) (v_ro : Nat → Int32) : Option (Int32 × Int32 × (Nat → Int32) × (Nat → Int32) × (Nat → Int32) × (Nat → Int32) × (Nat → Int32)) :=
  (fX7_account_n t_len h_siz v_gw v_gk 1).bind fun q1 =>
  fL_isWell_39 t_len h_siz v_gw v_gk 64 0 0 0 q1 (if 0 ≤ (8 - (q1 - q1 / 16 * 16)) then (8 - (q1 - q1 / 16 * 16)) else 0 - (8 - (q1 - q1 / 16 * 16))) 0 f_net v_rs v_rl v_ro (fun _ => 0) (fun _ => 0)
set_option maxHeartbeats 4000000 in
set_option maxRecDepth 100000 in
theorem lL_isWell_253 {p : Program} {l : Launch} {e : Env} {s : State} {m : MethodId} {args : Array Value} {below : List Frame} {meth : Method} {c : Code} {Q : State → Prop} {D : va_G} {T : Nat → ClassId} {a_g a_gw a_gk a_r a_rs a_rl a_ro a_f a_t a_ti a_tn a_h a_hp a_x a_b a_v a_u a_n a_p0 a_p1 : Nat} {t_len : Int32} {t_cur : Int32} {t_kin : Int32} {t_tol : Int32} {t_don : Int32} {h_old : Int32} {h_siz : Int32} {x_sav : Int32} {x_err : Int32} {x_rea : Int32} {x_det : Int32} {x_com : Int32} {v_gw : Nat → Int32} {v_gk : Nat → Int32} {A : Nat → Prop} {r : Int32 × Int32 × (Nat → Int32) × (Nat → Int32) × (Nat → Int32) × (Nat → Int32) × (Nat → Int32)} (C : CallFix p m c cL_isWell 13 s args aw RL) (hE : eK D T s) (hA : ∀ q : Nat, s.heap.size ≤ q → A q) (hZ : eX l A s) (hret : LnRet p l e ({ frames := 7, cells := 2, slots := 4, locals := 158 } : Room) s m args below meth c Q cL_isWell .boolean D A [(a_g, .inr (1, [.ref a_gw, .ref a_gk])), (a_r, .inr (4, [.ref a_g, .ref a_rs, .ref a_rl, .ref a_ro])), (a_f, .inr (0, [.ref a_g, .int r.2.1])), (a_t, .inr (5, [.ref a_ti, .ref a_tn, .int t_len, .int t_cur, .int t_kin, .int t_tol, .int t_don])), (a_h, .inr (2, [.ref a_hp, .int h_old, .int h_siz])), (a_x, .inr (7, [.ref a_g, .ref a_b, .ref a_v, .ref a_h, .ref a_r, .ref a_f, .ref a_u, .ref a_t, .ref a_n, .int x_sav, .int x_err, .int x_rea, .int x_det, .int x_com])), (a_gw, .inl (T 0, 90, .inl v_gw)), (a_gk, .inl (T 0, 18, .inl v_gk)), (a_rs, .inl (T 0, 45, .inl r.2.2.1)), (a_rl, .inl (T 0, 45, .inl r.2.2.2.1)), (a_ro, .inl (T 1, 45, .inl r.2.2.2.2.1))] r.1) {rec39 : Int32 → Int32 → Int32 → Int32 → Int32 → Int32 → Int32 → (Nat → Int32) → (Nat → Int32) → (Nat → Int32) → (Nat → Int32) → (Nat → Int32) → Option (Int32 × Int32 × (Nat → Int32) × (Nat → Int32) × (Nat → Int32) × (Nat → Int32) × (Nat → Int32))} (hrec39 : ∀ (l1 : Int32) (l2 : Int32) (l3 : Int32) (l6 : Int32) (l7 : Int32) (l8 : Int32) (f_net : Int32) (v_rs : Nat → Int32) (v_rl : Nat → Int32) (v_ro : Nat → Int32) (v_p0 : Nat → Int32) (v_p1 : Nat → Int32) {H : Heap} {locs : List Loc} (hPD : va_PD D A [(a_g, .inr (1, [.ref a_gw, .ref a_gk])), (a_r, .inr (4, [.ref a_g, .ref a_rs, .ref a_rl, .ref a_ro])), (a_f, .inr (0, [.ref a_g, .int f_net])), (a_t, .inr (5, [.ref a_ti, .ref a_tn, .int t_len, .int t_cur, .int t_kin, .int t_tol, .int t_don])), (a_h, .inr (2, [.ref a_hp, .int h_old, .int h_siz])), (a_x, .inr (7, [.ref a_g, .ref a_b, .ref a_v, .ref a_h, .ref a_r, .ref a_f, .ref a_u, .ref a_t, .ref a_n, .int x_sav, .int x_err, .int x_rea, .int x_det, .int x_com])), (a_gw, .inl (T 0, 90, .inl v_gw)), (a_gk, .inl (T 0, 18, .inl v_gk)), (a_rs, .inl (T 0, 45, .inl v_rs)), (a_rl, .inl (T 0, 45, .inl v_rl)), (a_ro, .inl (T 1, 45, .inl v_ro)), (a_p0, .inl (T 0, 2, .inl v_p0)), (a_p1, .inl (T 0, 2, .inl v_p1))] H) (hS : va_S A s.heap H locs) (ls : Array Slot) (hl : lv_has ls 13 [(0, .ref a_x), (1, .int l1), (2, .int l2), (3, .int l3), (4, .ref a_p0), (5, .ref a_p1), (6, .int l6), (7, .int l7), (8, .int l8)]) (h : rec39 l1 l2 l3 l6 l7 l8 f_net v_rs v_rl v_ro v_p0 v_p1 = some r), W p l e ({ frames := 7, cells := 2, slots := 4, locals := 158 } : Room) s m args below meth c H locs 2 4 Q (F0 m 39 ls [])) {rec203 : Int32 → Int32 → Int32 → Int32 → Int32 → Int32 → Int32 → Int32 → Int32 → Int32 → (Nat → Int32) → (Nat → Int32) → (Nat → Int32) → (Nat → Int32) → (Nat → Int32) → Option (Int32 × Int32 × (Nat → Int32) × (Nat → Int32) × (Nat → Int32) × (Nat → Int32) × (Nat → Int32))} (hrec203 : ∀ (l1 : Int32) (l2 : Int32) (l3 : Int32) (l6 : Int32) (l7 : Int32) (l8 : Int32) (l10 : Int32) (l11 : Int32) (l12 : Int32) (f_net : Int32) (v_rs : Nat → Int32) (v_rl : Nat → Int32) (v_ro : Nat → Int32) (v_p0 : Nat → Int32) (v_p1 : Nat → Int32) {H : Heap} {locs : List Loc} (hPD : va_PD D A [(a_g, .inr (1, [.ref a_gw, .ref a_gk])), (a_r, .inr (4, [.ref a_g, .ref a_rs, .ref a_rl, .ref a_ro])), (a_f, .inr (0, [.ref a_g, .int f_net])), (a_t, .inr (5, [.ref a_ti, .ref a_tn, .int t_len, .int t_cur, .int t_kin, .int t_tol, .int t_don])), (a_h, .inr (2, [.ref a_hp, .int h_old, .int h_siz])), (a_x, .inr (7, [.ref a_g, .ref a_b, .ref a_v, .ref a_h, .ref a_r, .ref a_f, .ref a_u, .ref a_t, .ref a_n, .int x_sav, .int x_err, .int x_rea, .int x_det, .int x_com])), (a_gw, .inl (T 0, 90, .inl v_gw)), (a_gk, .inl (T 0, 18, .inl v_gk)), (a_rs, .inl (T 0, 45, .inl v_rs)), (a_rl, .inl (T 0, 45, .inl v_rl)), (a_ro, .inl (T 1, 45, .inl v_ro)), (a_p0, .inl (T 0, 2, .inl v_p0)), (a_p1, .inl (T 0, 2, .inl v_p1))] H) (hS : va_S A s.heap H locs) (ls : Array Slot) (hl : lv_has ls 13 [(0, .ref a_x), (1, .int l1), (2, .int l2), (3, .int l3), (4, .ref a_p0), (5, .ref a_p1), (6, .int l6), (7, .int l7), (8, .int l8), (10, .int l10), (11, .int l11), (12, .int l12)]) (h : rec203 l1 l2 l3 l6 l7 l8 l10 l11 l12 f_net v_rs v_rl v_ro v_p0 v_p1 = some r), W p l e ({ frames := 7, cells := 2, slots := 4, locals := 158 } : Room) s m args below meth c H locs 2 4 Q (F0 m 203 ls [])) (x0 : Int32) (x1 : Int32) (l1 : Int32) (l2 : Int32) (l3 : Int32) (l6 : Int32) (l7 : Int32) (l8 : Int32) (l10 : Int32) (l12 : Int32) (f_net : Int32) (v_rs : Nat → Int32) (v_rl : Nat → Int32) (v_ro : Nat → Int32) (v_p0 : Nat → Int32) (v_p1 : Nat → Int32) {H : Heap} {locs : List Loc} (hPD : va_PD D A [(a_g, .inr (1, [.ref a_gw, .ref a_gk])), (a_r, .inr (4, [.ref a_g, .ref a_rs, .ref a_rl, .ref a_ro])), (a_f, .inr (0, [.ref a_g, .int f_net])), (a_t, .inr (5, [.ref a_ti, .ref a_tn, .int t_len, .int t_cur, .int t_kin, .int t_tol, .int t_don])), (a_h, .inr (2, [.ref a_hp, .int h_old, .int h_siz])), (a_x, .inr (7, [.ref a_g, .ref a_b, .ref a_v, .ref a_h, .ref a_r, .ref a_f, .ref a_u, .ref a_t, .ref a_n, .int x_sav, .int x_err, .int x_rea, .int x_det, .int x_com])), (a_gw, .inl (T 0, 90, .inl v_gw)), (a_gk, .inl (T 0, 18, .inl v_gk)), (a_rs, .inl (T 0, 45, .inl v_rs)), (a_rl, .inl (T 0, 45, .inl v_rl)), (a_ro, .inl (T 1, 45, .inl v_ro)), (a_p0, .inl (T 0, 2, .inl v_p0)), (a_p1, .inl (T 0, 2, .inl v_p1))] H) (hS : va_S A s.heap H locs) (ls : Array Slot) (hl : lv_has ls 13 [(0, .ref a_x), (1, .int l1), (2, .int l2), (3, .int l3), (4, .ref a_p0), (5, .ref a_p1), (6, .int l6), (7, .int l7), (8, .int l8), (10, .int l10), (12, .int l12)]) (h : fL_isWell_253 t_len h_siz v_gw v_gk rec39 rec203 x0 x1 l1 l2 l3 l6 l7 l8 l10 l12 f_net v_rs v_rl v_ro v_p0 v_p1 = some r) : W p l e ({ frames := 7, cells := 2, slots := 4, locals := 158 } : Room) s m args below meth c H locs 2 4 Q (F0 m 253 ls [.int x1, .int x0]) := by
  have hx := C.1
  have hb := C.2.1
  obtain ⟨hP, hD⟩ := hPD
  unfold fL_isWell_253 at h
  refine lv_ior hx hb dL_isWell_253 ?_
  refine lv_istore (lv' := [(11, .int (x0 ||| x1)), (0, .ref a_x), (1, .int l1), (2, .int l2), (3, .int l3), (4, .ref a_p0), (5, .ref a_p1), (6, .int l6), (7, .int l7), (8, .int l8), (10, .int l10), (12, .int l12)]) hx hb dL_isWell_254 hl (by decide) rfl (fun ls hl => ?_)
  refine lv_iinc (v := (l12 + 1)) (lv' := [(12, .int (l12 + 1)), (11, .int (x0 ||| x1)), (0, .ref a_x), (1, .int l1), (2, .int l2), (3, .int l3), (4, .ref a_p0), (5, .ref a_p1), (6, .int l6), (7, .int l7), (8, .int l8), (10, .int l10)]) hx hb dL_isWell_256 hl (k := 11) rfl rfl (by decide) rfl (fun ls hl => ?_)
  refine lv_goto (tgt := 203) hx hb dL_isWell_259 (by decide) ?_
  exact hrec203 l1 l2 l3 l6 l7 l8 l10 (x0 ||| x1) (l12 + 1) f_net v_rs v_rl v_ro v_p0 v_p1 ⟨hP, hD⟩ hS _ (lv_sub hl [2, 3, 4, 5, 6, 7, 8, 9, 10, 11, 1, 0] rfl) h
set_option maxHeartbeats 4000000 in
set_option maxRecDepth 100000 in
theorem lL_isWell_291 {p : Program} {l : Launch} {e : Env} {s : State} {m : MethodId} {args : Array Value} {below : List Frame} {meth : Method} {c : Code} {Q : State → Prop} {D : va_G} {T : Nat → ClassId} {a_g a_gw a_gk a_r a_rs a_rl a_ro a_f a_t a_ti a_tn a_h a_hp a_x a_b a_v a_u a_n a_p0 a_p1 : Nat} {t_len : Int32} {t_cur : Int32} {t_kin : Int32} {t_tol : Int32} {t_don : Int32} {h_old : Int32} {h_siz : Int32} {x_sav : Int32} {x_err : Int32} {x_rea : Int32} {x_det : Int32} {x_com : Int32} {v_gw : Nat → Int32} {v_gk : Nat → Int32} {A : Nat → Prop} {r : Int32 × Int32 × (Nat → Int32) × (Nat → Int32) × (Nat → Int32) × (Nat → Int32) × (Nat → Int32)} (C : CallFix p m c cL_isWell 13 s args aw RL) (hE : eK D T s) (hA : ∀ q : Nat, s.heap.size ≤ q → A q) (hZ : eX l A s) (hret : LnRet p l e ({ frames := 7, cells := 2, slots := 4, locals := 158 } : Room) s m args below meth c Q cL_isWell .boolean D A [(a_g, .inr (1, [.ref a_gw, .ref a_gk])), (a_r, .inr (4, [.ref a_g, .ref a_rs, .ref a_rl, .ref a_ro])), (a_f, .inr (0, [.ref a_g, .int r.2.1])), (a_t, .inr (5, [.ref a_ti, .ref a_tn, .int t_len, .int t_cur, .int t_kin, .int t_tol, .int t_don])), (a_h, .inr (2, [.ref a_hp, .int h_old, .int h_siz])), (a_x, .inr (7, [.ref a_g, .ref a_b, .ref a_v, .ref a_h, .ref a_r, .ref a_f, .ref a_u, .ref a_t, .ref a_n, .int x_sav, .int x_err, .int x_rea, .int x_det, .int x_com])), (a_gw, .inl (T 0, 90, .inl v_gw)), (a_gk, .inl (T 0, 18, .inl v_gk)), (a_rs, .inl (T 0, 45, .inl r.2.2.1)), (a_rl, .inl (T 0, 45, .inl r.2.2.2.1)), (a_ro, .inl (T 1, 45, .inl r.2.2.2.2.1))] r.1) {rec39 : Int32 → Int32 → Int32 → Int32 → Int32 → Int32 → Int32 → (Nat → Int32) → (Nat → Int32) → (Nat → Int32) → (Nat → Int32) → (Nat → Int32) → Option (Int32 × Int32 × (Nat → Int32) × (Nat → Int32) × (Nat → Int32) × (Nat → Int32) × (Nat → Int32))} (hrec39 : ∀ (l1 : Int32) (l2 : Int32) (l3 : Int32) (l6 : Int32) (l7 : Int32) (l8 : Int32) (f_net : Int32) (v_rs : Nat → Int32) (v_rl : Nat → Int32) (v_ro : Nat → Int32) (v_p0 : Nat → Int32) (v_p1 : Nat → Int32) {H : Heap} {locs : List Loc} (hPD : va_PD D A [(a_g, .inr (1, [.ref a_gw, .ref a_gk])), (a_r, .inr (4, [.ref a_g, .ref a_rs, .ref a_rl, .ref a_ro])), (a_f, .inr (0, [.ref a_g, .int f_net])), (a_t, .inr (5, [.ref a_ti, .ref a_tn, .int t_len, .int t_cur, .int t_kin, .int t_tol, .int t_don])), (a_h, .inr (2, [.ref a_hp, .int h_old, .int h_siz])), (a_x, .inr (7, [.ref a_g, .ref a_b, .ref a_v, .ref a_h, .ref a_r, .ref a_f, .ref a_u, .ref a_t, .ref a_n, .int x_sav, .int x_err, .int x_rea, .int x_det, .int x_com])), (a_gw, .inl (T 0, 90, .inl v_gw)), (a_gk, .inl (T 0, 18, .inl v_gk)), (a_rs, .inl (T 0, 45, .inl v_rs)), (a_rl, .inl (T 0, 45, .inl v_rl)), (a_ro, .inl (T 1, 45, .inl v_ro)), (a_p0, .inl (T 0, 2, .inl v_p0)), (a_p1, .inl (T 0, 2, .inl v_p1))] H) (hS : va_S A s.heap H locs) (ls : Array Slot) (hl : lv_has ls 13 [(0, .ref a_x), (1, .int l1), (2, .int l2), (3, .int l3), (4, .ref a_p0), (5, .ref a_p1), (6, .int l6), (7, .int l7), (8, .int l8)]) (h : rec39 l1 l2 l3 l6 l7 l8 f_net v_rs v_rl v_ro v_p0 v_p1 = some r), W p l e ({ frames := 7, cells := 2, slots := 4, locals := 158 } : Room) s m args below meth c H locs 2 4 Q (F0 m 39 ls [])) (x0 : Int32) (x1 : Int32) (l1 : Int32) (l2 : Int32) (l3 : Int32) (l6 : Int32) (l7 : Int32) (l8 : Int32) (f_net : Int32) (v_rs : Nat → Int32) (v_rl : Nat → Int32) (v_ro : Nat → Int32) (v_p0 : Nat → Int32) (v_p1 : Nat → Int32) {H : Heap} {locs : List Loc} (hPD : va_PD D A [(a_g, .inr (1, [.ref a_gw, .ref a_gk])), (a_r, .inr (4, [.ref a_g, .ref a_rs, .ref a_rl, .ref a_ro])), (a_f, .inr (0, [.ref a_g, .int f_net])), (a_t, .inr (5, [.ref a_ti, .ref a_tn, .int t_len, .int t_cur, .int t_kin, .int t_tol, .int t_don])), (a_h, .inr (2, [.ref a_hp, .int h_old, .int h_siz])), (a_x, .inr (7, [.ref a_g, .ref a_b, .ref a_v, .ref a_h, .ref a_r, .ref a_f, .ref a_u, .ref a_t, .ref a_n, .int x_sav, .int x_err, .int x_rea, .int x_det, .int x_com])), (a_gw, .inl (T 0, 90, .inl v_gw)), (a_gk, .inl (T 0, 18, .inl v_gk)), (a_rs, .inl (T 0, 45, .inl v_rs)), (a_rl, .inl (T 0, 45, .inl v_rl)), (a_ro, .inl (T 1, 45, .inl v_ro)), (a_p0, .inl (T 0, 2, .inl v_p0)), (a_p1, .inl (T 0, 2, .inl v_p1))] H) (hS : va_S A s.heap H locs) (ls : Array Slot) (hl : lv_has ls 13 [(0, .ref a_x), (1, .int l1), (2, .int l2), (3, .int l3), (4, .ref a_p0), (5, .ref a_p1), (6, .int l6), (7, .int l7), (8, .int l8)]) (h : fL_isWell_291 t_len h_siz v_gw v_gk rec39 x0 x1 l1 l2 l3 l6 l7 l8 f_net v_rs v_rl v_ro v_p0 v_p1 = some r) : W p l e ({ frames := 7, cells := 2, slots := 4, locals := 158 } : Room) s m args below meth c H locs 2 4 Q (F0 m 291 ls [.int x1, .int x0]) := by
  have hx := C.1
  have hb := C.2.1
  obtain ⟨hP, hD⟩ := hPD
  unfold fL_isWell_291 at h
  refine lv_icmp_eq (tgt := 296) hx hb dL_isWell_291 (by decide) (fun c56 => ?_) (fun c56 => ?_)
  · replace h := ite_t c56 h
    refine lv_iinc (v := (l8 + 1)) (lv' := [(8, .int (l8 + 1)), (0, .ref a_x), (1, .int l1), (2, .int l2), (3, .int l3), (4, .ref a_p0), (5, .ref a_p1), (6, .int l6), (7, .int l7)]) hx hb dL_isWell_296 hl (k := 8) rfl rfl (by decide) rfl (fun ls hl => ?_)
    refine lv_goto (tgt := 39) hx hb dL_isWell_299 (by decide) ?_
    exact hrec39 l1 l2 l3 l6 l7 (l8 + 1) f_net v_rs v_rl v_ro v_p0 v_p1 ⟨hP, hD⟩ hS _ (lv_sub hl [1, 2, 3, 4, 5, 6, 7, 8, 0] rfl) h
  · replace h := ite_f c56 h
    refine lv_iconst (v := 0) hx hb dL_isWell_294 (by decide) ?_
    replace h := Option.some.inj h
    exact hret _ _ _ _ _ _ _ _ (Nat.le_of_ble_eq_true rfl) (Nat.le_of_ble_eq_true rfl) dL_isWell_295 rfl (by rw [← h] <;> rfl) (by rw [← h]; exact hP.sub [0, 1, 2, 3, 4, 5, 6, 7, 8, 9, 10] rfl) hS
set_option maxHeartbeats 4000000 in
set_option maxRecDepth 100000 in
theorem lL_isWell_203 {p : Program} {l : Launch} {e : Env} {s : State} {m : MethodId} {args : Array Value} {below : List Frame} {meth : Method} {c : Code} {Q : State → Prop} {D : va_G} {T : Nat → ClassId} {a_g a_gw a_gk a_r a_rs a_rl a_ro a_f a_t a_ti a_tn a_h a_hp a_x a_b a_v a_u a_n a_p0 a_p1 : Nat} {t_len : Int32} {t_cur : Int32} {t_kin : Int32} {t_tol : Int32} {t_don : Int32} {h_old : Int32} {h_siz : Int32} {x_sav : Int32} {x_err : Int32} {x_rea : Int32} {x_det : Int32} {x_com : Int32} {v_gw : Nat → Int32} {v_gk : Nat → Int32} {A : Nat → Prop} {r : Int32 × Int32 × (Nat → Int32) × (Nat → Int32) × (Nat → Int32) × (Nat → Int32) × (Nat → Int32)} (C : CallFix p m c cL_isWell 13 s args aw RL) (hE : eK D T s) (hA : ∀ q : Nat, s.heap.size ≤ q → A q) (hZ : eX l A s) (hret : LnRet p l e ({ frames := 7, cells := 2, slots := 4, locals := 158 } : Room) s m args below meth c Q cL_isWell .boolean D A [(a_g, .inr (1, [.ref a_gw, .ref a_gk])), (a_r, .inr (4, [.ref a_g, .ref a_rs, .ref a_rl, .ref a_ro])), (a_f, .inr (0, [.ref a_g, .int r.2.1])), (a_t, .inr (5, [.ref a_ti, .ref a_tn, .int t_len, .int t_cur, .int t_kin, .int t_tol, .int t_don])), (a_h, .inr (2, [.ref a_hp, .int h_old, .int h_siz])), (a_x, .inr (7, [.ref a_g, .ref a_b, .ref a_v, .ref a_h, .ref a_r, .ref a_f, .ref a_u, .ref a_t, .ref a_n, .int x_sav, .int x_err, .int x_rea, .int x_det, .int x_com])), (a_gw, .inl (T 0, 90, .inl v_gw)), (a_gk, .inl (T 0, 18, .inl v_gk)), (a_rs, .inl (T 0, 45, .inl r.2.2.1)), (a_rl, .inl (T 0, 45, .inl r.2.2.2.1)), (a_ro, .inl (T 1, 45, .inl r.2.2.2.2.1))] r.1) {rec39 : Int32 → Int32 → Int32 → Int32 → Int32 → Int32 → Int32 → (Nat → Int32) → (Nat → Int32) → (Nat → Int32) → (Nat → Int32) → (Nat → Int32) → Option (Int32 × Int32 × (Nat → Int32) × (Nat → Int32) × (Nat → Int32) × (Nat → Int32) × (Nat → Int32))} (hrec39 : ∀ (l1 : Int32) (l2 : Int32) (l3 : Int32) (l6 : Int32) (l7 : Int32) (l8 : Int32) (f_net : Int32) (v_rs : Nat → Int32) (v_rl : Nat → Int32) (v_ro : Nat → Int32) (v_p0 : Nat → Int32) (v_p1 : Nat → Int32) {H : Heap} {locs : List Loc} (hPD : va_PD D A [(a_g, .inr (1, [.ref a_gw, .ref a_gk])), (a_r, .inr (4, [.ref a_g, .ref a_rs, .ref a_rl, .ref a_ro])), (a_f, .inr (0, [.ref a_g, .int f_net])), (a_t, .inr (5, [.ref a_ti, .ref a_tn, .int t_len, .int t_cur, .int t_kin, .int t_tol, .int t_don])), (a_h, .inr (2, [.ref a_hp, .int h_old, .int h_siz])), (a_x, .inr (7, [.ref a_g, .ref a_b, .ref a_v, .ref a_h, .ref a_r, .ref a_f, .ref a_u, .ref a_t, .ref a_n, .int x_sav, .int x_err, .int x_rea, .int x_det, .int x_com])), (a_gw, .inl (T 0, 90, .inl v_gw)), (a_gk, .inl (T 0, 18, .inl v_gk)), (a_rs, .inl (T 0, 45, .inl v_rs)), (a_rl, .inl (T 0, 45, .inl v_rl)), (a_ro, .inl (T 1, 45, .inl v_ro)), (a_p0, .inl (T 0, 2, .inl v_p0)), (a_p1, .inl (T 0, 2, .inl v_p1))] H) (hS : va_S A s.heap H locs) (ls : Array Slot) (hl : lv_has ls 13 [(0, .ref a_x), (1, .int l1), (2, .int l2), (3, .int l3), (4, .ref a_p0), (5, .ref a_p1), (6, .int l6), (7, .int l7), (8, .int l8)]) (h : rec39 l1 l2 l3 l6 l7 l8 f_net v_rs v_rl v_ro v_p0 v_p1 = some r), W p l e ({ frames := 7, cells := 2, slots := 4, locals := 158 } : Room) s m args below meth c H locs 2 4 Q (F0 m 39 ls [])) : ∀ (k : Nat) (l1 : Int32) (l2 : Int32) (l3 : Int32) (l6 : Int32) (l7 : Int32) (l8 : Int32) (l10 : Int32) (l11 : Int32) (l12 : Int32) (f_net : Int32) (v_rs : Nat → Int32) (v_rl : Nat → Int32) (v_ro : Nat → Int32) (v_p0 : Nat → Int32) (v_p1 : Nat → Int32) {H : Heap} {locs : List Loc} (hPD : va_PD D A [(a_g, .inr (1, [.ref a_gw, .ref a_gk])), (a_r, .inr (4, [.ref a_g, .ref a_rs, .ref a_rl, .ref a_ro])), (a_f, .inr (0, [.ref a_g, .int f_net])), (a_t, .inr (5, [.ref a_ti, .ref a_tn, .int t_len, .int t_cur, .int t_kin, .int t_tol, .int t_don])), (a_h, .inr (2, [.ref a_hp, .int h_old, .int h_siz])), (a_x, .inr (7, [.ref a_g, .ref a_b, .ref a_v, .ref a_h, .ref a_r, .ref a_f, .ref a_u, .ref a_t, .ref a_n, .int x_sav, .int x_err, .int x_rea, .int x_det, .int x_com])), (a_gw, .inl (T 0, 90, .inl v_gw)), (a_gk, .inl (T 0, 18, .inl v_gk)), (a_rs, .inl (T 0, 45, .inl v_rs)), (a_rl, .inl (T 0, 45, .inl v_rl)), (a_ro, .inl (T 1, 45, .inl v_ro)), (a_p0, .inl (T 0, 2, .inl v_p0)), (a_p1, .inl (T 0, 2, .inl v_p1))] H) (hS : va_S A s.heap H locs) (ls : Array Slot) (hl : lv_has ls 13 [(0, .ref a_x), (1, .int l1), (2, .int l2), (3, .int l3), (4, .ref a_p0), (5, .ref a_p1), (6, .int l6), (7, .int l7), (8, .int l8), (10, .int l10), (11, .int l11), (12, .int l12)]) (h : fL_isWell_203 t_len h_siz v_gw v_gk rec39 k l1 l2 l3 l6 l7 l8 l10 l11 l12 f_net v_rs v_rl v_ro v_p0 v_p1 = some r), W p l e ({ frames := 7, cells := 2, slots := 4, locals := 158 } : Room) s m args below meth c H locs 2 4 Q (F0 m 203 ls []) := by
  have hx := C.1
  have hb := C.2.1
  intro k
  induction k with
  | zero =>
    intro l1 l2 l3 l6 l7 l8 l10 l11 l12 f_net v_rs v_rl v_ro v_p0 v_p1 H locs hPD hS ls hl h
    exact nomatch (show (none : Option (Int32 × Int32 × (Nat → Int32) × (Nat → Int32) × (Nat → Int32) × (Nat → Int32) × (Nat → Int32))) = some r from h)
  | succ k ih =>
    intro l1 l2 l3 l6 l7 l8 l10 l11 l12 f_net v_rs v_rl v_ro v_p0 v_p1 H locs hPD hS ls hl h
    obtain ⟨hP, hD⟩ := hPD
    rw [fL_isWell_203] at h
    refine lv_iload hx hb dL_isWell_203 (lv_at hl 11 rfl) ?_
    refine lv_aload_n hx hb dL_isWell_205 rfl (lv_at hl 0 rfl) ?_
    refine lv_iconst (v := 0) hx hb dL_isWell_206 (by decide) ?_
    replace h := bnd h; obtain ⟨q38, e39, h⟩ := h
    refine wrVi (ws1 := [(a_g, .inr (1, [.ref a_gw, .ref a_gk])), (a_r, .inr (4, [.ref a_g, .ref a_rs, .ref a_rl, .ref a_ro])), (a_f, .inr (0, [.ref a_g, .int f_net])), (a_t, .inr (5, [.ref a_ti, .ref a_tn, .int t_len, .int t_cur, .int t_kin, .int t_tol, .int t_don])), (a_h, .inr (2, [.ref a_hp, .int h_old, .int h_siz])), (a_x, .inr (7, [.ref a_g, .ref a_b, .ref a_v, .ref a_h, .ref a_r, .ref a_f, .ref a_u, .ref a_t, .ref a_n, .int x_sav, .int x_err, .int x_rea, .int x_det, .int x_com])), (a_gw, .inl (T 0, 90, .inl v_gw)), (a_gk, .inl (T 0, 18, .inl v_gk)), (a_rs, .inl (T 0, 45, .inl v_rs)), (a_rl, .inl (T 0, 45, .inl v_rl)), (a_ro, .inl (T 1, 45, .inl v_ro)), (a_p0, .inl (T 0, 2, .inl v_p0)), (a_p1, .inl (T 0, 2, .inl v_p1))]) C hE hP hD hS hA (kX7_account_n l D T a_g a_gw a_gk a_t a_ti a_tn a_h a_hp a_x a_b a_v a_r a_f a_u a_n t_len t_cur t_kin t_tol t_don h_old h_siz x_sav x_err x_rea x_det x_com v_gw v_gk 0 _ q38 e39) mX7_account qLL_105 [0, 3, 4, 5, 6, 7] [1, 2, 8, 9, 10, 11, 12] 5 rfl rfl rfl rfl rfl rfl rfl rfl rfl ⟨rfl, rfl⟩ ⟨Nat.le_of_ble_eq_true rfl, Nat.le_of_ble_eq_true rfl⟩ rfl hl.1 rfl (Nat.le_of_ble_eq_true rfl) dL_isWell_207 ⟨Nat.le_of_ble_eq_true rfl, Nat.le_of_ble_eq_true rfl⟩ ?_; clear hP hD hS; intro H locs hP hD hS
    refine lv_icmp_ge (tgt := 262) hx hb dL_isWell_210 (by decide) (fun c40 => ?_) (fun c40 => ?_)
    · replace h := ite_t c40 h
      refine lv_aload_n hx hb dL_isWell_262 rfl (lv_at hl 0 rfl) ?_
      refine lv_iload hx hb dL_isWell_263 (lv_at hl 8 rfl) ?_
      replace h := bnd h; obtain ⟨q41, e42, h⟩ := h
      refine wrVi (ws1 := [(a_g, .inr (1, [.ref a_gw, .ref a_gk])), (a_r, .inr (4, [.ref a_g, .ref a_rs, .ref a_rl, .ref a_ro])), (a_f, .inr (0, [.ref a_g, .int f_net])), (a_t, .inr (5, [.ref a_ti, .ref a_tn, .int t_len, .int t_cur, .int t_kin, .int t_tol, .int t_don])), (a_h, .inr (2, [.ref a_hp, .int h_old, .int h_siz])), (a_x, .inr (7, [.ref a_g, .ref a_b, .ref a_v, .ref a_h, .ref a_r, .ref a_f, .ref a_u, .ref a_t, .ref a_n, .int x_sav, .int x_err, .int x_rea, .int x_det, .int x_com])), (a_gw, .inl (T 0, 90, .inl v_gw)), (a_gk, .inl (T 0, 18, .inl v_gk)), (a_rs, .inl (T 0, 45, .inl v_rs)), (a_rl, .inl (T 0, 45, .inl v_rl)), (a_ro, .inl (T 1, 45, .inl v_ro)), (a_p0, .inl (T 0, 2, .inl v_p0)), (a_p1, .inl (T 0, 2, .inl v_p1))]) C hE hP hD hS hA (kX7_wouldFoul_n l D T a_g a_gw a_gk a_x a_b a_v a_h a_r a_f a_u a_t a_n x_sav x_err x_rea x_det x_com v_gw v_gk l8 _ q41 e42) mX7_wouldFoul qLL_175 [0, 5, 6, 7] [1, 2, 3, 4, 8, 9, 10, 11, 12] 5 rfl rfl rfl rfl rfl rfl rfl rfl rfl ⟨rfl, rfl⟩ ⟨Nat.le_of_ble_eq_true rfl, Nat.le_of_ble_eq_true rfl⟩ rfl hl.1 rfl (Nat.le_of_ble_eq_true rfl) dL_isWell_265 ⟨Nat.le_of_ble_eq_true rfl, Nat.le_of_ble_eq_true rfl⟩ ?_; clear hP hD hS; intro H locs hP hD hS
      refine lv_iload hx hb dL_isWell_268 (lv_at hl 10 rfl) ?_
      refine lv_if_eq (tgt := 290) hx hb dL_isWell_270 (by decide) (fun c43 => ?_) (fun c43 => ?_)
      · replace h := ite_t c43 h
        refine lv_iconst (v := 0) hx hb dL_isWell_290 (by decide) ?_
        exact lL_isWell_291 C hE hA hZ hret hrec39 q41 0 l1 l2 l3 l6 l7 l8 f_net v_rs v_rl v_ro v_p0 v_p1 ⟨hP, hD⟩ hS _ (lv_sub hl [0, 1, 2, 3, 4, 5, 6, 7, 8] rfl) h
      · replace h := ite_f c43 h
        refine lv_aload_n hx hb dL_isWell_273 rfl (lv_at hl 0 rfl) ?_
        refine lv_bipush (v := 6) hx hb dL_isWell_274 (by decide) ?_
        replace h := bnd h; obtain ⟨q44, e45, h⟩ := h
        refine wrVi (ws1 := [(a_g, .inr (1, [.ref a_gw, .ref a_gk])), (a_r, .inr (4, [.ref a_g, .ref a_rs, .ref a_rl, .ref a_ro])), (a_f, .inr (0, [.ref a_g, .int f_net])), (a_t, .inr (5, [.ref a_ti, .ref a_tn, .int t_len, .int t_cur, .int t_kin, .int t_tol, .int t_don])), (a_h, .inr (2, [.ref a_hp, .int h_old, .int h_siz])), (a_x, .inr (7, [.ref a_g, .ref a_b, .ref a_v, .ref a_h, .ref a_r, .ref a_f, .ref a_u, .ref a_t, .ref a_n, .int x_sav, .int x_err, .int x_rea, .int x_det, .int x_com])), (a_gw, .inl (T 0, 90, .inl v_gw)), (a_gk, .inl (T 0, 18, .inl v_gk)), (a_rs, .inl (T 0, 45, .inl v_rs)), (a_rl, .inl (T 0, 45, .inl v_rl)), (a_ro, .inl (T 1, 45, .inl v_ro)), (a_p0, .inl (T 0, 2, .inl v_p0)), (a_p1, .inl (T 0, 2, .inl v_p1))]) C hE hP hD hS hA (kX7_account_n l D T a_g a_gw a_gk a_t a_ti a_tn a_h a_hp a_x a_b a_v a_r a_f a_u a_n t_len t_cur t_kin t_tol t_don h_old h_siz x_sav x_err x_rea x_det x_com v_gw v_gk 6 _ q44 e45) mX7_account qLL_105 [0, 3, 4, 5, 6, 7] [1, 2, 8, 9, 10, 11, 12] 5 rfl rfl rfl rfl rfl rfl rfl rfl rfl ⟨rfl, rfl⟩ ⟨Nat.le_of_ble_eq_true rfl, Nat.le_of_ble_eq_true rfl⟩ rfl hl.1 rfl (Nat.le_of_ble_eq_true rfl) dL_isWell_276 ⟨Nat.le_of_ble_eq_true rfl, Nat.le_of_ble_eq_true rfl⟩ ?_; clear hP hD hS; intro H locs hP hD hS
        refine lv_iconst (v := 1) hx hb dL_isWell_279 (by decide) ?_
        refine lv_iload hx hb dL_isWell_280 (lv_at hl 9 rfl) ?_
        refine lv_isub hx hb dL_isWell_282 ?_
        refine lv_icmp_ne (tgt := 290) hx hb dL_isWell_283 (by decide) (fun c46 => ?_) (fun c46 => ?_)
        · rw [if_neg c46] at h
          refine lv_iconst (v := 0) hx hb dL_isWell_290 (by decide) ?_
          exact lL_isWell_291 C hE hA hZ hret hrec39 q41 0 l1 l2 l3 l6 l7 l8 f_net v_rs v_rl v_ro v_p0 v_p1 ⟨hP, hD⟩ hS _ (lv_sub hl [0, 1, 2, 3, 4, 5, 6, 7, 8] rfl) h
        · rw [if_pos c46] at h
          refine lv_iconst (v := 1) hx hb dL_isWell_286 (by decide) ?_
          refine lv_goto (tgt := 291) hx hb dL_isWell_287 (by decide) ?_
          exact lL_isWell_291 C hE hA hZ hret hrec39 q41 1 l1 l2 l3 l6 l7 l8 f_net v_rs v_rl v_ro v_p0 v_p1 ⟨hP, hD⟩ hS _ (lv_sub hl [0, 1, 2, 3, 4, 5, 6, 7, 8] rfl) h
    · replace h := ite_f c40 h
      refine lv_iload hx hb dL_isWell_213 (lv_at hl 10 rfl) ?_
      refine lv_aload_n hx hb dL_isWell_215 rfl (lv_at hl 0 rfl) ?_
      refine lv_iload hx hb dL_isWell_216 (lv_at hl 11 rfl) ?_
      refine lv_iconst (v := 0) hx hb dL_isWell_218 (by decide) ?_
      replace h := bnd h; obtain ⟨q47, e48, h⟩ := h
      refine wrVi (ws1 := [(a_g, .inr (1, [.ref a_gw, .ref a_gk])), (a_r, .inr (4, [.ref a_g, .ref a_rs, .ref a_rl, .ref a_ro])), (a_f, .inr (0, [.ref a_g, .int f_net])), (a_t, .inr (5, [.ref a_ti, .ref a_tn, .int t_len, .int t_cur, .int t_kin, .int t_tol, .int t_don])), (a_h, .inr (2, [.ref a_hp, .int h_old, .int h_siz])), (a_x, .inr (7, [.ref a_g, .ref a_b, .ref a_v, .ref a_h, .ref a_r, .ref a_f, .ref a_u, .ref a_t, .ref a_n, .int x_sav, .int x_err, .int x_rea, .int x_det, .int x_com])), (a_gw, .inl (T 0, 90, .inl v_gw)), (a_gk, .inl (T 0, 18, .inl v_gk)), (a_rs, .inl (T 0, 45, .inl v_rs)), (a_rl, .inl (T 0, 45, .inl v_rl)), (a_ro, .inl (T 1, 45, .inl v_ro)), (a_p0, .inl (T 0, 2, .inl v_p0)), (a_p1, .inl (T 0, 2, .inl v_p1))]) C hE hP hD hS hA (kX7_whaleOf_n l D T a_g a_gw a_gk a_x a_b a_v a_h a_r a_f a_u a_t a_n x_sav x_err x_rea x_det x_com v_gw v_gk l12 0 _ q47 e48) mX7_whaleOf qLL_120 [0, 5, 6, 7] [1, 2, 3, 4, 8, 9, 10, 11, 12] 5 rfl rfl rfl rfl rfl rfl rfl rfl rfl ⟨rfl, rfl⟩ ⟨Nat.le_of_ble_eq_true rfl, Nat.le_of_ble_eq_true rfl⟩ rfl hl.1 rfl (Nat.le_of_ble_eq_true rfl) dL_isWell_219 ⟨Nat.le_of_ble_eq_true rfl, Nat.le_of_ble_eq_true rfl⟩ ?_; clear hP hD hS; intro H locs hP hD hS
      refine lv_iload hx hb dL_isWell_222 (lv_at hl 9 rfl) ?_
      refine lv_icmp_eq (tgt := 252) hx hb dL_isWell_224 (by decide) (fun c49 => ?_) (fun c49 => ?_)
      · replace h := ite_t c49 h
        refine lv_iconst (v := 0) hx hb dL_isWell_252 (by decide) ?_
        exact lL_isWell_253 C hE hA hZ hret hrec39 ih l11 0 l1 l2 l3 l6 l7 l8 l10 l12 f_net v_rs v_rl v_ro v_p0 v_p1 ⟨hP, hD⟩ hS _ (lv_sub hl [0, 1, 2, 3, 4, 5, 6, 7, 8, 9, 11] rfl) h
      · replace h := ite_f c49 h
        refine lv_aload_n hx hb dL_isWell_227 rfl (lv_at hl 0 rfl) ?_
        refine lv_iload hx hb dL_isWell_228 (lv_at hl 11 rfl) ?_
        refine lv_iconst (v := 5) hx hb dL_isWell_230 (by decide) ?_
        replace h := bnd h; obtain ⟨q50, e51, h⟩ := h
        refine wrVi (ws1 := [(a_g, .inr (1, [.ref a_gw, .ref a_gk])), (a_r, .inr (4, [.ref a_g, .ref a_rs, .ref a_rl, .ref a_ro])), (a_f, .inr (0, [.ref a_g, .int f_net])), (a_t, .inr (5, [.ref a_ti, .ref a_tn, .int t_len, .int t_cur, .int t_kin, .int t_tol, .int t_don])), (a_h, .inr (2, [.ref a_hp, .int h_old, .int h_siz])), (a_x, .inr (7, [.ref a_g, .ref a_b, .ref a_v, .ref a_h, .ref a_r, .ref a_f, .ref a_u, .ref a_t, .ref a_n, .int x_sav, .int x_err, .int x_rea, .int x_det, .int x_com])), (a_gw, .inl (T 0, 90, .inl v_gw)), (a_gk, .inl (T 0, 18, .inl v_gk)), (a_rs, .inl (T 0, 45, .inl v_rs)), (a_rl, .inl (T 0, 45, .inl v_rl)), (a_ro, .inl (T 1, 45, .inl v_ro)), (a_p0, .inl (T 0, 2, .inl v_p0)), (a_p1, .inl (T 0, 2, .inl v_p1))]) C hE hP hD hS hA (kX7_whaleOf_n l D T a_g a_gw a_gk a_x a_b a_v a_h a_r a_f a_u a_t a_n x_sav x_err x_rea x_det x_com v_gw v_gk l12 5 _ q50 e51) mX7_whaleOf qLL_120 [0, 5, 6, 7] [1, 2, 3, 4, 8, 9, 10, 11, 12] 5 rfl rfl rfl rfl rfl rfl rfl rfl rfl ⟨rfl, rfl⟩ ⟨Nat.le_of_ble_eq_true rfl, Nat.le_of_ble_eq_true rfl⟩ rfl hl.1 rfl (Nat.le_of_ble_eq_true rfl) dL_isWell_231 ⟨Nat.le_of_ble_eq_true rfl, Nat.le_of_ble_eq_true rfl⟩ ?_; clear hP hD hS; intro H locs hP hD hS
        refine lv_iconst (v := 1) hx hb dL_isWell_234 (by decide) ?_
        refine lv_icmp_ne (tgt := 252) hx hb dL_isWell_235 (by decide) (fun c52 => ?_) (fun c52 => ?_)
        · replace h := ite_f c52 h
          refine lv_iconst (v := 0) hx hb dL_isWell_252 (by decide) ?_
          exact lL_isWell_253 C hE hA hZ hret hrec39 ih l11 0 l1 l2 l3 l6 l7 l8 l10 l12 f_net v_rs v_rl v_ro v_p0 v_p1 ⟨hP, hD⟩ hS _ (lv_sub hl [0, 1, 2, 3, 4, 5, 6, 7, 8, 9, 11] rfl) h
        · replace h := ite_t c52 h
          refine lv_aload_n hx hb dL_isWell_238 rfl (lv_at hl 0 rfl) ?_
          refine lv_iload hx hb dL_isWell_239 (lv_at hl 11 rfl) ?_
          replace h := bnd h; obtain ⟨q53, e54, h⟩ := h
          refine lnS (ws1 := [(a_g, .inr (1, [.ref a_gw, .ref a_gk])), (a_r, .inr (4, [.ref a_g, .ref a_rs, .ref a_rl, .ref a_ro])), (a_f, .inr (0, [.ref a_g, .int f_net])), (a_t, .inr (5, [.ref a_ti, .ref a_tn, .int t_len, .int t_cur, .int t_kin, .int t_tol, .int t_don])), (a_h, .inr (2, [.ref a_hp, .int h_old, .int h_siz])), (a_x, .inr (7, [.ref a_g, .ref a_b, .ref a_v, .ref a_h, .ref a_r, .ref a_f, .ref a_u, .ref a_t, .ref a_n, .int x_sav, .int x_err, .int x_rea, .int x_det, .int x_com])), (a_gw, .inl (T 0, 90, .inl v_gw)), (a_gk, .inl (T 0, 18, .inl v_gk)), (a_rs, .inl (T 0, 45, .inl v_rs)), (a_rl, .inl (T 0, 45, .inl v_rl)), (a_ro, .inl (T 1, 45, .inl v_ro)), (a_p0, .inl (T 0, 2, .inl v_p0)), (a_p1, .inl (T 0, 2, .inl v_p1))]) C hE hZ hP hD hS hA Jb.tt (fun U hU hW => trivial) (kL_far l hZ.1 D T a_g a_gw a_gk a_t a_ti a_tn a_h a_hp a_x a_b a_v a_r a_f a_u a_n t_len t_cur t_kin t_tol t_don h_old h_siz x_sav x_err x_rea x_det x_com v_gw v_gk l12 _ q53 e54) mL_far qLL_108 [0, 3, 4, 5, 6, 7] [1, 2, 8, 9, 10, 11, 12] rfl rfl rfl rfl rfl rfl ⟨Nat.le_of_ble_eq_true rfl, Nat.le_of_ble_eq_true rfl⟩ rfl hl.1 rfl (Nat.le_of_ble_eq_true rfl) dL_isWell_241 ⟨Nat.le_of_ble_eq_true rfl, Nat.le_of_ble_eq_true rfl⟩ ?_; clear hP hD hS; intro H locs hP hD hS
          refine lv_iconst (v := 2) hx hb dL_isWell_244 (by decide) ?_
          refine lv_icmp_ge (tgt := 252) hx hb dL_isWell_245 (by decide) (fun c55 => ?_) (fun c55 => ?_)
          · rw [if_pos c55] at h
            refine lv_iconst (v := 0) hx hb dL_isWell_252 (by decide) ?_
            exact lL_isWell_253 C hE hA hZ hret hrec39 ih l11 0 l1 l2 l3 l6 l7 l8 l10 l12 f_net v_rs v_rl v_ro v_p0 v_p1 ⟨hP, hD⟩ hS _ (lv_sub hl [0, 1, 2, 3, 4, 5, 6, 7, 8, 9, 11] rfl) h
          · rw [if_neg c55] at h
            refine lv_iconst (v := 1) hx hb dL_isWell_248 (by decide) ?_
            refine lv_goto (tgt := 253) hx hb dL_isWell_249 (by decide) ?_
            exact lL_isWell_253 C hE hA hZ hret hrec39 ih l11 1 l1 l2 l3 l6 l7 l8 l10 l12 f_net v_rs v_rl v_ro v_p0 v_p1 ⟨hP, hD⟩ hS _ (lv_sub hl [0, 1, 2, 3, 4, 5, 6, 7, 8, 9, 11] rfl) h
set_option maxHeartbeats 4000000 in
set_option maxRecDepth 100000 in
theorem lL_isWell_197 {p : Program} {l : Launch} {e : Env} {s : State} {m : MethodId} {args : Array Value} {below : List Frame} {meth : Method} {c : Code} {Q : State → Prop} {D : va_G} {T : Nat → ClassId} {a_g a_gw a_gk a_r a_rs a_rl a_ro a_f a_t a_ti a_tn a_h a_hp a_x a_b a_v a_u a_n a_p0 a_p1 : Nat} {t_len : Int32} {t_cur : Int32} {t_kin : Int32} {t_tol : Int32} {t_don : Int32} {h_old : Int32} {h_siz : Int32} {x_sav : Int32} {x_err : Int32} {x_rea : Int32} {x_det : Int32} {x_com : Int32} {v_gw : Nat → Int32} {v_gk : Nat → Int32} {A : Nat → Prop} {r : Int32 × Int32 × (Nat → Int32) × (Nat → Int32) × (Nat → Int32) × (Nat → Int32) × (Nat → Int32)} (C : CallFix p m c cL_isWell 13 s args aw RL) (hE : eK D T s) (hA : ∀ q : Nat, s.heap.size ≤ q → A q) (hZ : eX l A s) (hret : LnRet p l e ({ frames := 7, cells := 2, slots := 4, locals := 158 } : Room) s m args below meth c Q cL_isWell .boolean D A [(a_g, .inr (1, [.ref a_gw, .ref a_gk])), (a_r, .inr (4, [.ref a_g, .ref a_rs, .ref a_rl, .ref a_ro])), (a_f, .inr (0, [.ref a_g, .int r.2.1])), (a_t, .inr (5, [.ref a_ti, .ref a_tn, .int t_len, .int t_cur, .int t_kin, .int t_tol, .int t_don])), (a_h, .inr (2, [.ref a_hp, .int h_old, .int h_siz])), (a_x, .inr (7, [.ref a_g, .ref a_b, .ref a_v, .ref a_h, .ref a_r, .ref a_f, .ref a_u, .ref a_t, .ref a_n, .int x_sav, .int x_err, .int x_rea, .int x_det, .int x_com])), (a_gw, .inl (T 0, 90, .inl v_gw)), (a_gk, .inl (T 0, 18, .inl v_gk)), (a_rs, .inl (T 0, 45, .inl r.2.2.1)), (a_rl, .inl (T 0, 45, .inl r.2.2.2.1)), (a_ro, .inl (T 1, 45, .inl r.2.2.2.2.1))] r.1) {rec39 : Int32 → Int32 → Int32 → Int32 → Int32 → Int32 → Int32 → (Nat → Int32) → (Nat → Int32) → (Nat → Int32) → (Nat → Int32) → (Nat → Int32) → Option (Int32 × Int32 × (Nat → Int32) × (Nat → Int32) × (Nat → Int32) × (Nat → Int32) × (Nat → Int32))} (hrec39 : ∀ (l1 : Int32) (l2 : Int32) (l3 : Int32) (l6 : Int32) (l7 : Int32) (l8 : Int32) (f_net : Int32) (v_rs : Nat → Int32) (v_rl : Nat → Int32) (v_ro : Nat → Int32) (v_p0 : Nat → Int32) (v_p1 : Nat → Int32) {H : Heap} {locs : List Loc} (hPD : va_PD D A [(a_g, .inr (1, [.ref a_gw, .ref a_gk])), (a_r, .inr (4, [.ref a_g, .ref a_rs, .ref a_rl, .ref a_ro])), (a_f, .inr (0, [.ref a_g, .int f_net])), (a_t, .inr (5, [.ref a_ti, .ref a_tn, .int t_len, .int t_cur, .int t_kin, .int t_tol, .int t_don])), (a_h, .inr (2, [.ref a_hp, .int h_old, .int h_siz])), (a_x, .inr (7, [.ref a_g, .ref a_b, .ref a_v, .ref a_h, .ref a_r, .ref a_f, .ref a_u, .ref a_t, .ref a_n, .int x_sav, .int x_err, .int x_rea, .int x_det, .int x_com])), (a_gw, .inl (T 0, 90, .inl v_gw)), (a_gk, .inl (T 0, 18, .inl v_gk)), (a_rs, .inl (T 0, 45, .inl v_rs)), (a_rl, .inl (T 0, 45, .inl v_rl)), (a_ro, .inl (T 1, 45, .inl v_ro)), (a_p0, .inl (T 0, 2, .inl v_p0)), (a_p1, .inl (T 0, 2, .inl v_p1))] H) (hS : va_S A s.heap H locs) (ls : Array Slot) (hl : lv_has ls 13 [(0, .ref a_x), (1, .int l1), (2, .int l2), (3, .int l3), (4, .ref a_p0), (5, .ref a_p1), (6, .int l6), (7, .int l7), (8, .int l8)]) (h : rec39 l1 l2 l3 l6 l7 l8 f_net v_rs v_rl v_ro v_p0 v_p1 = some r), W p l e ({ frames := 7, cells := 2, slots := 4, locals := 158 } : Room) s m args below meth c H locs 2 4 Q (F0 m 39 ls [])) (l1 : Int32) (l2 : Int32) (l3 : Int32) (l6 : Int32) (l7 : Int32) (l8 : Int32) (l10 : Int32) (f_net : Int32) (v_rs : Nat → Int32) (v_rl : Nat → Int32) (v_ro : Nat → Int32) (v_p0 : Nat → Int32) (v_p1 : Nat → Int32) {H : Heap} {locs : List Loc} (hPD : va_PD D A [(a_g, .inr (1, [.ref a_gw, .ref a_gk])), (a_r, .inr (4, [.ref a_g, .ref a_rs, .ref a_rl, .ref a_ro])), (a_f, .inr (0, [.ref a_g, .int f_net])), (a_t, .inr (5, [.ref a_ti, .ref a_tn, .int t_len, .int t_cur, .int t_kin, .int t_tol, .int t_don])), (a_h, .inr (2, [.ref a_hp, .int h_old, .int h_siz])), (a_x, .inr (7, [.ref a_g, .ref a_b, .ref a_v, .ref a_h, .ref a_r, .ref a_f, .ref a_u, .ref a_t, .ref a_n, .int x_sav, .int x_err, .int x_rea, .int x_det, .int x_com])), (a_gw, .inl (T 0, 90, .inl v_gw)), (a_gk, .inl (T 0, 18, .inl v_gk)), (a_rs, .inl (T 0, 45, .inl v_rs)), (a_rl, .inl (T 0, 45, .inl v_rl)), (a_ro, .inl (T 1, 45, .inl v_ro)), (a_p0, .inl (T 0, 2, .inl v_p0)), (a_p1, .inl (T 0, 2, .inl v_p1))] H) (hS : va_S A s.heap H locs) (ls : Array Slot) (hl : lv_has ls 13 [(0, .ref a_x), (1, .int l1), (2, .int l2), (3, .int l3), (4, .ref a_p0), (5, .ref a_p1), (6, .int l6), (7, .int l7), (8, .int l8), (10, .int l10)]) (h : fL_isWell_197 t_len h_siz v_gw v_gk rec39 l1 l2 l3 l6 l7 l8 l10 f_net v_rs v_rl v_ro v_p0 v_p1 = some r) : W p l e ({ frames := 7, cells := 2, slots := 4, locals := 158 } : Room) s m args below meth c H locs 2 4 Q (F0 m 197 ls []) := by
  have hx := C.1
  have hb := C.2.1
  obtain ⟨hP, hD⟩ := hPD
  unfold fL_isWell_197 at h
  refine lv_iconst (v := 0) hx hb dL_isWell_197 (by decide) ?_
  refine lv_istore (lv' := [(11, .int 0), (0, .ref a_x), (1, .int l1), (2, .int l2), (3, .int l3), (4, .ref a_p0), (5, .ref a_p1), (6, .int l6), (7, .int l7), (8, .int l8), (10, .int l10)]) hx hb dL_isWell_198 hl (by decide) rfl (fun ls hl => ?_)
  refine lv_iconst (v := 0) hx hb dL_isWell_200 (by decide) ?_
  refine lv_istore (lv' := [(12, .int 0), (11, .int 0), (0, .ref a_x), (1, .int l1), (2, .int l2), (3, .int l3), (4, .ref a_p0), (5, .ref a_p1), (6, .int l6), (7, .int l7), (8, .int l8), (10, .int l10)]) hx hb dL_isWell_201 hl (by decide) rfl (fun ls hl => ?_)
  exact lL_isWell_203 C hE hA hZ hret hrec39 64 l1 l2 l3 l6 l7 l8 l10 0 0 f_net v_rs v_rl v_ro v_p0 v_p1 ⟨hP, hD⟩ hS _ (lv_sub hl [2, 3, 4, 5, 6, 7, 8, 9, 10, 11, 1, 0] rfl) h
set_option maxHeartbeats 4000000 in
set_option maxRecDepth 100000 in
theorem lL_isWell_157 {p : Program} {l : Launch} {e : Env} {s : State} {m : MethodId} {args : Array Value} {below : List Frame} {meth : Method} {c : Code} {Q : State → Prop} {D : va_G} {T : Nat → ClassId} {a_g a_gw a_gk a_r a_rs a_rl a_ro a_f a_t a_ti a_tn a_h a_hp a_x a_b a_v a_u a_n a_p0 a_p1 : Nat} {t_len : Int32} {t_cur : Int32} {t_kin : Int32} {t_tol : Int32} {t_don : Int32} {h_old : Int32} {h_siz : Int32} {x_sav : Int32} {x_err : Int32} {x_rea : Int32} {x_det : Int32} {x_com : Int32} {v_gw : Nat → Int32} {v_gk : Nat → Int32} {A : Nat → Prop} {r : Int32 × Int32 × (Nat → Int32) × (Nat → Int32) × (Nat → Int32) × (Nat → Int32) × (Nat → Int32)} (C : CallFix p m c cL_isWell 13 s args aw RL) (hE : eK D T s) (hA : ∀ q : Nat, s.heap.size ≤ q → A q) (hZ : eX l A s) (hret : LnRet p l e ({ frames := 7, cells := 2, slots := 4, locals := 158 } : Room) s m args below meth c Q cL_isWell .boolean D A [(a_g, .inr (1, [.ref a_gw, .ref a_gk])), (a_r, .inr (4, [.ref a_g, .ref a_rs, .ref a_rl, .ref a_ro])), (a_f, .inr (0, [.ref a_g, .int r.2.1])), (a_t, .inr (5, [.ref a_ti, .ref a_tn, .int t_len, .int t_cur, .int t_kin, .int t_tol, .int t_don])), (a_h, .inr (2, [.ref a_hp, .int h_old, .int h_siz])), (a_x, .inr (7, [.ref a_g, .ref a_b, .ref a_v, .ref a_h, .ref a_r, .ref a_f, .ref a_u, .ref a_t, .ref a_n, .int x_sav, .int x_err, .int x_rea, .int x_det, .int x_com])), (a_gw, .inl (T 0, 90, .inl v_gw)), (a_gk, .inl (T 0, 18, .inl v_gk)), (a_rs, .inl (T 0, 45, .inl r.2.2.1)), (a_rl, .inl (T 0, 45, .inl r.2.2.2.1)), (a_ro, .inl (T 1, 45, .inl r.2.2.2.2.1))] r.1) {rec39 : Int32 → Int32 → Int32 → Int32 → Int32 → Int32 → Int32 → (Nat → Int32) → (Nat → Int32) → (Nat → Int32) → (Nat → Int32) → (Nat → Int32) → Option (Int32 × Int32 × (Nat → Int32) × (Nat → Int32) × (Nat → Int32) × (Nat → Int32) × (Nat → Int32))} (hrec39 : ∀ (l1 : Int32) (l2 : Int32) (l3 : Int32) (l6 : Int32) (l7 : Int32) (l8 : Int32) (f_net : Int32) (v_rs : Nat → Int32) (v_rl : Nat → Int32) (v_ro : Nat → Int32) (v_p0 : Nat → Int32) (v_p1 : Nat → Int32) {H : Heap} {locs : List Loc} (hPD : va_PD D A [(a_g, .inr (1, [.ref a_gw, .ref a_gk])), (a_r, .inr (4, [.ref a_g, .ref a_rs, .ref a_rl, .ref a_ro])), (a_f, .inr (0, [.ref a_g, .int f_net])), (a_t, .inr (5, [.ref a_ti, .ref a_tn, .int t_len, .int t_cur, .int t_kin, .int t_tol, .int t_don])), (a_h, .inr (2, [.ref a_hp, .int h_old, .int h_siz])), (a_x, .inr (7, [.ref a_g, .ref a_b, .ref a_v, .ref a_h, .ref a_r, .ref a_f, .ref a_u, .ref a_t, .ref a_n, .int x_sav, .int x_err, .int x_rea, .int x_det, .int x_com])), (a_gw, .inl (T 0, 90, .inl v_gw)), (a_gk, .inl (T 0, 18, .inl v_gk)), (a_rs, .inl (T 0, 45, .inl v_rs)), (a_rl, .inl (T 0, 45, .inl v_rl)), (a_ro, .inl (T 1, 45, .inl v_ro)), (a_p0, .inl (T 0, 2, .inl v_p0)), (a_p1, .inl (T 0, 2, .inl v_p1))] H) (hS : va_S A s.heap H locs) (ls : Array Slot) (hl : lv_has ls 13 [(0, .ref a_x), (1, .int l1), (2, .int l2), (3, .int l3), (4, .ref a_p0), (5, .ref a_p1), (6, .int l6), (7, .int l7), (8, .int l8)]) (h : rec39 l1 l2 l3 l6 l7 l8 f_net v_rs v_rl v_ro v_p0 v_p1 = some r), W p l e ({ frames := 7, cells := 2, slots := 4, locals := 158 } : Room) s m args below meth c H locs 2 4 Q (F0 m 39 ls [])) (l1 : Int32) (l2 : Int32) (l3 : Int32) (l6 : Int32) (l7 : Int32) (l8 : Int32) (l9 : Int32) (l10 : Int32) (f_net : Int32) (v_rs : Nat → Int32) (v_rl : Nat → Int32) (v_ro : Nat → Int32) (v_p0 : Nat → Int32) (v_p1 : Nat → Int32) {H : Heap} {locs : List Loc} (hPD : va_PD D A [(a_g, .inr (1, [.ref a_gw, .ref a_gk])), (a_r, .inr (4, [.ref a_g, .ref a_rs, .ref a_rl, .ref a_ro])), (a_f, .inr (0, [.ref a_g, .int f_net])), (a_t, .inr (5, [.ref a_ti, .ref a_tn, .int t_len, .int t_cur, .int t_kin, .int t_tol, .int t_don])), (a_h, .inr (2, [.ref a_hp, .int h_old, .int h_siz])), (a_x, .inr (7, [.ref a_g, .ref a_b, .ref a_v, .ref a_h, .ref a_r, .ref a_f, .ref a_u, .ref a_t, .ref a_n, .int x_sav, .int x_err, .int x_rea, .int x_det, .int x_com])), (a_gw, .inl (T 0, 90, .inl v_gw)), (a_gk, .inl (T 0, 18, .inl v_gk)), (a_rs, .inl (T 0, 45, .inl v_rs)), (a_rl, .inl (T 0, 45, .inl v_rl)), (a_ro, .inl (T 1, 45, .inl v_ro)), (a_p0, .inl (T 0, 2, .inl v_p0)), (a_p1, .inl (T 0, 2, .inl v_p1))] H) (hS : va_S A s.heap H locs) (ls : Array Slot) (hl : lv_has ls 13 [(0, .ref a_x), (1, .int l1), (2, .int l2), (3, .int l3), (4, .ref a_p0), (5, .ref a_p1), (6, .int l6), (7, .int l7), (8, .int l8), (9, .int l9), (10, .int l10)]) (h : fL_isWell_157 t_len h_siz v_gw v_gk rec39 l1 l2 l3 l6 l7 l8 l9 l10 f_net v_rs v_rl v_ro v_p0 v_p1 = some r) : W p l e ({ frames := 7, cells := 2, slots := 4, locals := 158 } : Room) s m args below meth c H locs 2 4 Q (F0 m 157 ls []) := by
  have hx := C.1
  have hb := C.2.1
  obtain ⟨hP, hD⟩ := hPD
  unfold fL_isWell_157 at h
  refine lv_aload_n hx hb dL_isWell_157 rfl (lv_at hl 0 rfl) ?_
  refine lv_iload hx hb dL_isWell_158 (lv_at hl 8 rfl) ?_
  refine lv_iconst (v := 3) hx hb dL_isWell_160 (by decide) ?_
  replace h := bnd h; obtain ⟨q28, e29, h⟩ := h
  refine wrVi (ws1 := [(a_g, .inr (1, [.ref a_gw, .ref a_gk])), (a_r, .inr (4, [.ref a_g, .ref a_rs, .ref a_rl, .ref a_ro])), (a_f, .inr (0, [.ref a_g, .int f_net])), (a_t, .inr (5, [.ref a_ti, .ref a_tn, .int t_len, .int t_cur, .int t_kin, .int t_tol, .int t_don])), (a_h, .inr (2, [.ref a_hp, .int h_old, .int h_siz])), (a_x, .inr (7, [.ref a_g, .ref a_b, .ref a_v, .ref a_h, .ref a_r, .ref a_f, .ref a_u, .ref a_t, .ref a_n, .int x_sav, .int x_err, .int x_rea, .int x_det, .int x_com])), (a_gw, .inl (T 0, 90, .inl v_gw)), (a_gk, .inl (T 0, 18, .inl v_gk)), (a_rs, .inl (T 0, 45, .inl v_rs)), (a_rl, .inl (T 0, 45, .inl v_rl)), (a_ro, .inl (T 1, 45, .inl v_ro)), (a_p0, .inl (T 0, 2, .inl v_p0)), (a_p1, .inl (T 0, 2, .inl v_p1))]) C hE hP hD hS hA (kX7_whaleOf_n l D T a_g a_gw a_gk a_x a_b a_v a_h a_r a_f a_u a_t a_n x_sav x_err x_rea x_det x_com v_gw v_gk l8 3 _ q28 e29) mX7_whaleOf qLL_120 [0, 5, 6, 7] [1, 2, 3, 4, 8, 9, 10, 11, 12] 5 rfl rfl rfl rfl rfl rfl rfl rfl rfl ⟨rfl, rfl⟩ ⟨Nat.le_of_ble_eq_true rfl, Nat.le_of_ble_eq_true rfl⟩ rfl hl.1 rfl (Nat.le_of_ble_eq_true rfl) dL_isWell_161 ⟨Nat.le_of_ble_eq_true rfl, Nat.le_of_ble_eq_true rfl⟩ ?_; clear hP hD hS; intro H locs hP hD hS
  refine lv_if_lt (tgt := 195) hx hb dL_isWell_164 (by decide) (fun c30 => ?_) (fun c30 => ?_)
  · replace h := ite_t c30 h
    refine lv_iconst (v := 0) hx hb dL_isWell_195 (by decide) ?_
    replace h := Option.some.inj h
    exact hret _ _ _ _ _ _ _ _ (Nat.le_of_ble_eq_true rfl) (Nat.le_of_ble_eq_true rfl) dL_isWell_196 rfl (by rw [← h] <;> rfl) (by rw [← h]; exact hP.sub [0, 1, 2, 3, 4, 5, 6, 7, 8, 9, 10] rfl) hS
  · replace h := ite_f c30 h
    refine lv_aload_n hx hb dL_isWell_167 rfl (lv_at hl 0 rfl) ?_
    refine lv_iload hx hb dL_isWell_168 (lv_at hl 8 rfl) ?_
    refine lv_iconst (v := 3) hx hb dL_isWell_170 (by decide) ?_
    replace h := bnd h; obtain ⟨q31, e32, h⟩ := h
    refine wrVi (ws1 := [(a_g, .inr (1, [.ref a_gw, .ref a_gk])), (a_r, .inr (4, [.ref a_g, .ref a_rs, .ref a_rl, .ref a_ro])), (a_f, .inr (0, [.ref a_g, .int f_net])), (a_t, .inr (5, [.ref a_ti, .ref a_tn, .int t_len, .int t_cur, .int t_kin, .int t_tol, .int t_don])), (a_h, .inr (2, [.ref a_hp, .int h_old, .int h_siz])), (a_x, .inr (7, [.ref a_g, .ref a_b, .ref a_v, .ref a_h, .ref a_r, .ref a_f, .ref a_u, .ref a_t, .ref a_n, .int x_sav, .int x_err, .int x_rea, .int x_det, .int x_com])), (a_gw, .inl (T 0, 90, .inl v_gw)), (a_gk, .inl (T 0, 18, .inl v_gk)), (a_rs, .inl (T 0, 45, .inl v_rs)), (a_rl, .inl (T 0, 45, .inl v_rl)), (a_ro, .inl (T 1, 45, .inl v_ro)), (a_p0, .inl (T 0, 2, .inl v_p0)), (a_p1, .inl (T 0, 2, .inl v_p1))]) C hE hP hD hS hA (kX7_whaleOf_n l D T a_g a_gw a_gk a_x a_b a_v a_h a_r a_f a_u a_t a_n x_sav x_err x_rea x_det x_com v_gw v_gk l8 3 _ q31 e32) mX7_whaleOf qLL_120 [0, 5, 6, 7] [1, 2, 3, 4, 8, 9, 10, 11, 12] 5 rfl rfl rfl rfl rfl rfl rfl rfl rfl ⟨rfl, rfl⟩ ⟨Nat.le_of_ble_eq_true rfl, Nat.le_of_ble_eq_true rfl⟩ rfl hl.1 rfl (Nat.le_of_ble_eq_true rfl) dL_isWell_171 ⟨Nat.le_of_ble_eq_true rfl, Nat.le_of_ble_eq_true rfl⟩ ?_; clear hP hD hS; intro H locs hP hD hS
    refine lv_bipush (v := 20) hx hb dL_isWell_174 (by decide) ?_
    refine lv_icmp_gt (tgt := 195) hx hb dL_isWell_176 (by decide) (fun c33 => ?_) (fun c33 => ?_)
    · replace h := ite_t c33 h
      refine lv_iconst (v := 0) hx hb dL_isWell_195 (by decide) ?_
      replace h := Option.some.inj h
      exact hret _ _ _ _ _ _ _ _ (Nat.le_of_ble_eq_true rfl) (Nat.le_of_ble_eq_true rfl) dL_isWell_196 rfl (by rw [← h] <;> rfl) (by rw [← h]; exact hP.sub [0, 1, 2, 3, 4, 5, 6, 7, 8, 9, 10] rfl) hS
    · replace h := ite_f c33 h
      refine lv_aload_n hx hb dL_isWell_179 rfl (lv_at hl 0 rfl) ?_
      refine lv_iload hx hb dL_isWell_180 (lv_at hl 8 rfl) ?_
      refine lv_iconst (v := 5) hx hb dL_isWell_182 (by decide) ?_
      replace h := bnd h; obtain ⟨q34, e35, h⟩ := h
      refine wrVi (ws1 := [(a_g, .inr (1, [.ref a_gw, .ref a_gk])), (a_r, .inr (4, [.ref a_g, .ref a_rs, .ref a_rl, .ref a_ro])), (a_f, .inr (0, [.ref a_g, .int f_net])), (a_t, .inr (5, [.ref a_ti, .ref a_tn, .int t_len, .int t_cur, .int t_kin, .int t_tol, .int t_don])), (a_h, .inr (2, [.ref a_hp, .int h_old, .int h_siz])), (a_x, .inr (7, [.ref a_g, .ref a_b, .ref a_v, .ref a_h, .ref a_r, .ref a_f, .ref a_u, .ref a_t, .ref a_n, .int x_sav, .int x_err, .int x_rea, .int x_det, .int x_com])), (a_gw, .inl (T 0, 90, .inl v_gw)), (a_gk, .inl (T 0, 18, .inl v_gk)), (a_rs, .inl (T 0, 45, .inl v_rs)), (a_rl, .inl (T 0, 45, .inl v_rl)), (a_ro, .inl (T 1, 45, .inl v_ro)), (a_p0, .inl (T 0, 2, .inl v_p0)), (a_p1, .inl (T 0, 2, .inl v_p1))]) C hE hP hD hS hA (kX7_whaleOf_n l D T a_g a_gw a_gk a_x a_b a_v a_h a_r a_f a_u a_t a_n x_sav x_err x_rea x_det x_com v_gw v_gk l8 5 _ q34 e35) mX7_whaleOf qLL_120 [0, 5, 6, 7] [1, 2, 3, 4, 8, 9, 10, 11, 12] 5 rfl rfl rfl rfl rfl rfl rfl rfl rfl ⟨rfl, rfl⟩ ⟨Nat.le_of_ble_eq_true rfl, Nat.le_of_ble_eq_true rfl⟩ rfl hl.1 rfl (Nat.le_of_ble_eq_true rfl) dL_isWell_183 ⟨Nat.le_of_ble_eq_true rfl, Nat.le_of_ble_eq_true rfl⟩ ?_; clear hP hD hS; intro H locs hP hD hS
      refine lv_iconst (v := 1) hx hb dL_isWell_186 (by decide) ?_
      refine lv_icmp_ne (tgt := 197) hx hb dL_isWell_187 (by decide) (fun c36 => ?_) (fun c36 => ?_)
      · replace h := ite_f c36 h
        exact lL_isWell_197 C hE hA hZ hret hrec39 l1 l2 l3 l6 l7 l8 l10 f_net v_rs v_rl v_ro v_p0 v_p1 ⟨hP, hD⟩ hS _ (lv_sub hl [0, 1, 2, 3, 4, 5, 6, 7, 8, 10] rfl) h
      · replace h := ite_t c36 h
        refine lv_iload hx hb dL_isWell_190 (lv_at hl 9 rfl) ?_
        refine lv_if_ge (tgt := 197) hx hb dL_isWell_192 (by decide) (fun c37 => ?_) (fun c37 => ?_)
        · replace h := ite_t c37 h
          exact lL_isWell_197 C hE hA hZ hret hrec39 l1 l2 l3 l6 l7 l8 l10 f_net v_rs v_rl v_ro v_p0 v_p1 ⟨hP, hD⟩ hS _ (lv_sub hl [0, 1, 2, 3, 4, 5, 6, 7, 8, 10] rfl) h
        · replace h := ite_f c37 h
          refine lv_iconst (v := 0) hx hb dL_isWell_195 (by decide) ?_
          replace h := Option.some.inj h
          exact hret _ _ _ _ _ _ _ _ (Nat.le_of_ble_eq_true rfl) (Nat.le_of_ble_eq_true rfl) dL_isWell_196 rfl (by rw [← h] <;> rfl) (by rw [← h]; exact hP.sub [0, 1, 2, 3, 4, 5, 6, 7, 8, 9, 10] rfl) hS
set_option maxHeartbeats 4000000 in
set_option maxRecDepth 100000 in
theorem lL_isWell_106 {p : Program} {l : Launch} {e : Env} {s : State} {m : MethodId} {args : Array Value} {below : List Frame} {meth : Method} {c : Code} {Q : State → Prop} {D : va_G} {T : Nat → ClassId} {a_g a_gw a_gk a_r a_rs a_rl a_ro a_f a_t a_ti a_tn a_h a_hp a_x a_b a_v a_u a_n a_p0 a_p1 : Nat} {t_len : Int32} {t_cur : Int32} {t_kin : Int32} {t_tol : Int32} {t_don : Int32} {h_old : Int32} {h_siz : Int32} {x_sav : Int32} {x_err : Int32} {x_rea : Int32} {x_det : Int32} {x_com : Int32} {v_gw : Nat → Int32} {v_gk : Nat → Int32} {A : Nat → Prop} {r : Int32 × Int32 × (Nat → Int32) × (Nat → Int32) × (Nat → Int32) × (Nat → Int32) × (Nat → Int32)} (C : CallFix p m c cL_isWell 13 s args aw RL) (hE : eK D T s) (hA : ∀ q : Nat, s.heap.size ≤ q → A q) (hZ : eX l A s) (hret : LnRet p l e ({ frames := 7, cells := 2, slots := 4, locals := 158 } : Room) s m args below meth c Q cL_isWell .boolean D A [(a_g, .inr (1, [.ref a_gw, .ref a_gk])), (a_r, .inr (4, [.ref a_g, .ref a_rs, .ref a_rl, .ref a_ro])), (a_f, .inr (0, [.ref a_g, .int r.2.1])), (a_t, .inr (5, [.ref a_ti, .ref a_tn, .int t_len, .int t_cur, .int t_kin, .int t_tol, .int t_don])), (a_h, .inr (2, [.ref a_hp, .int h_old, .int h_siz])), (a_x, .inr (7, [.ref a_g, .ref a_b, .ref a_v, .ref a_h, .ref a_r, .ref a_f, .ref a_u, .ref a_t, .ref a_n, .int x_sav, .int x_err, .int x_rea, .int x_det, .int x_com])), (a_gw, .inl (T 0, 90, .inl v_gw)), (a_gk, .inl (T 0, 18, .inl v_gk)), (a_rs, .inl (T 0, 45, .inl r.2.2.1)), (a_rl, .inl (T 0, 45, .inl r.2.2.2.1)), (a_ro, .inl (T 1, 45, .inl r.2.2.2.2.1))] r.1) {rec39 : Int32 → Int32 → Int32 → Int32 → Int32 → Int32 → Int32 → (Nat → Int32) → (Nat → Int32) → (Nat → Int32) → (Nat → Int32) → (Nat → Int32) → Option (Int32 × Int32 × (Nat → Int32) × (Nat → Int32) × (Nat → Int32) × (Nat → Int32) × (Nat → Int32))} (hrec39 : ∀ (l1 : Int32) (l2 : Int32) (l3 : Int32) (l6 : Int32) (l7 : Int32) (l8 : Int32) (f_net : Int32) (v_rs : Nat → Int32) (v_rl : Nat → Int32) (v_ro : Nat → Int32) (v_p0 : Nat → Int32) (v_p1 : Nat → Int32) {H : Heap} {locs : List Loc} (hPD : va_PD D A [(a_g, .inr (1, [.ref a_gw, .ref a_gk])), (a_r, .inr (4, [.ref a_g, .ref a_rs, .ref a_rl, .ref a_ro])), (a_f, .inr (0, [.ref a_g, .int f_net])), (a_t, .inr (5, [.ref a_ti, .ref a_tn, .int t_len, .int t_cur, .int t_kin, .int t_tol, .int t_don])), (a_h, .inr (2, [.ref a_hp, .int h_old, .int h_siz])), (a_x, .inr (7, [.ref a_g, .ref a_b, .ref a_v, .ref a_h, .ref a_r, .ref a_f, .ref a_u, .ref a_t, .ref a_n, .int x_sav, .int x_err, .int x_rea, .int x_det, .int x_com])), (a_gw, .inl (T 0, 90, .inl v_gw)), (a_gk, .inl (T 0, 18, .inl v_gk)), (a_rs, .inl (T 0, 45, .inl v_rs)), (a_rl, .inl (T 0, 45, .inl v_rl)), (a_ro, .inl (T 1, 45, .inl v_ro)), (a_p0, .inl (T 0, 2, .inl v_p0)), (a_p1, .inl (T 0, 2, .inl v_p1))] H) (hS : va_S A s.heap H locs) (ls : Array Slot) (hl : lv_has ls 13 [(0, .ref a_x), (1, .int l1), (2, .int l2), (3, .int l3), (4, .ref a_p0), (5, .ref a_p1), (6, .int l6), (7, .int l7), (8, .int l8)]) (h : rec39 l1 l2 l3 l6 l7 l8 f_net v_rs v_rl v_ro v_p0 v_p1 = some r), W p l e ({ frames := 7, cells := 2, slots := 4, locals := 158 } : Room) s m args below meth c H locs 2 4 Q (F0 m 39 ls [])) (x1 : Int32) (x2 : Int32) (x3 : Int32) (l1 : Int32) (l2 : Int32) (l3 : Int32) (l6 : Int32) (l7 : Int32) (l8 : Int32) (l9 : Int32) (l10 : Int32) (f_net : Int32) (v_rs : Nat → Int32) (v_rl : Nat → Int32) (v_ro : Nat → Int32) (v_p0 : Nat → Int32) (v_p1 : Nat → Int32) {H : Heap} {locs : List Loc} (hPD : va_PD D A [(a_g, .inr (1, [.ref a_gw, .ref a_gk])), (a_r, .inr (4, [.ref a_g, .ref a_rs, .ref a_rl, .ref a_ro])), (a_f, .inr (0, [.ref a_g, .int f_net])), (a_t, .inr (5, [.ref a_ti, .ref a_tn, .int t_len, .int t_cur, .int t_kin, .int t_tol, .int t_don])), (a_h, .inr (2, [.ref a_hp, .int h_old, .int h_siz])), (a_x, .inr (7, [.ref a_g, .ref a_b, .ref a_v, .ref a_h, .ref a_r, .ref a_f, .ref a_u, .ref a_t, .ref a_n, .int x_sav, .int x_err, .int x_rea, .int x_det, .int x_com])), (a_gw, .inl (T 0, 90, .inl v_gw)), (a_gk, .inl (T 0, 18, .inl v_gk)), (a_rs, .inl (T 0, 45, .inl v_rs)), (a_rl, .inl (T 0, 45, .inl v_rl)), (a_ro, .inl (T 1, 45, .inl v_ro)), (a_p0, .inl (T 0, 2, .inl v_p0)), (a_p1, .inl (T 0, 2, .inl v_p1))] H) (hS : va_S A s.heap H locs) (ls : Array Slot) (hl : lv_has ls 13 [(0, .ref a_x), (1, .int l1), (2, .int l2), (3, .int l3), (4, .ref a_p0), (5, .ref a_p1), (6, .int l6), (7, .int l7), (8, .int l8), (9, .int l9), (10, .int l10)]) (h : fL_isWell_106 t_len h_siz v_gw v_gk rec39 x1 x2 x3 l1 l2 l3 l6 l7 l8 l9 l10 f_net v_rs v_rl v_ro v_p0 v_p1 = some r) : W p l e ({ frames := 7, cells := 2, slots := 4, locals := 158 } : Room) s m args below meth c H locs 2 4 Q (F0 m 106 ls [.int x3, .int x2, .int x1, .ref a_p1]) := by
  have hx := C.1
  have hb := C.2.1
  obtain ⟨hP, hD⟩ := hPD
  unfold fL_isWell_106 at h
  refine lv_iadd hx hb dL_isWell_106 ?_
  replace h := gd h; obtain ⟨g17, h⟩ := h
  refine astI (q0 := 12) (ws1 := [(a_g, .inr (1, [.ref a_gw, .ref a_gk])), (a_r, .inr (4, [.ref a_g, .ref a_rs, .ref a_rl, .ref a_ro])), (a_f, .inr (0, [.ref a_g, .int f_net])), (a_t, .inr (5, [.ref a_ti, .ref a_tn, .int t_len, .int t_cur, .int t_kin, .int t_tol, .int t_don])), (a_h, .inr (2, [.ref a_hp, .int h_old, .int h_siz])), (a_x, .inr (7, [.ref a_g, .ref a_b, .ref a_v, .ref a_h, .ref a_r, .ref a_f, .ref a_u, .ref a_t, .ref a_n, .int x_sav, .int x_err, .int x_rea, .int x_det, .int x_com])), (a_gw, .inl (T 0, 90, .inl v_gw)), (a_gk, .inl (T 0, 18, .inl v_gk)), (a_rs, .inl (T 0, 45, .inl v_rs)), (a_rl, .inl (T 0, 45, .inl v_rl)), (a_ro, .inl (T 1, 45, .inl v_ro)), (a_p0, .inl (T 0, 2, .inl v_p0)), (a_p1, .inl (T 0, 2, .inl (upd v_p1 x1.toNatClampNeg (x2 + x3))))]) C hE hP hD hS rfl g17 rfl dL_isWell_107 ?_; clear hP hD hS; intro H locs hP hD hS
  refine lv_iload_n hx hb dL_isWell_108 rfl (lv_at hl 1 rfl) ?_
  refine lv_aload_n hx hb dL_isWell_109 rfl (lv_at hl 0 rfl) ?_
  refine lv_iload hx hb dL_isWell_110 (lv_at hl 8 rfl) ?_
  refine lv_bipush (v := 8) hx hb dL_isWell_112 (by decide) ?_
  replace h := bnd h; obtain ⟨q18, e19, h⟩ := h
  refine wrVi (ws1 := [(a_g, .inr (1, [.ref a_gw, .ref a_gk])), (a_r, .inr (4, [.ref a_g, .ref a_rs, .ref a_rl, .ref a_ro])), (a_f, .inr (0, [.ref a_g, .int f_net])), (a_t, .inr (5, [.ref a_ti, .ref a_tn, .int t_len, .int t_cur, .int t_kin, .int t_tol, .int t_don])), (a_h, .inr (2, [.ref a_hp, .int h_old, .int h_siz])), (a_x, .inr (7, [.ref a_g, .ref a_b, .ref a_v, .ref a_h, .ref a_r, .ref a_f, .ref a_u, .ref a_t, .ref a_n, .int x_sav, .int x_err, .int x_rea, .int x_det, .int x_com])), (a_gw, .inl (T 0, 90, .inl v_gw)), (a_gk, .inl (T 0, 18, .inl v_gk)), (a_rs, .inl (T 0, 45, .inl v_rs)), (a_rl, .inl (T 0, 45, .inl v_rl)), (a_ro, .inl (T 1, 45, .inl v_ro)), (a_p0, .inl (T 0, 2, .inl v_p0)), (a_p1, .inl (T 0, 2, .inl (upd v_p1 x1.toNatClampNeg (x2 + x3))))]) C hE hP hD hS hA (kX7_whaleOf_n l D T a_g a_gw a_gk a_x a_b a_v a_h a_r a_f a_u a_t a_n x_sav x_err x_rea x_det x_com v_gw v_gk l8 8 _ q18 e19) mX7_whaleOf qLL_120 [0, 5, 6, 7] [1, 2, 3, 4, 8, 9, 10, 11, 12] 5 rfl rfl rfl rfl rfl rfl rfl rfl rfl ⟨rfl, rfl⟩ ⟨Nat.le_of_ble_eq_true rfl, Nat.le_of_ble_eq_true rfl⟩ rfl hl.1 rfl (Nat.le_of_ble_eq_true rfl) dL_isWell_114 ⟨Nat.le_of_ble_eq_true rfl, Nat.le_of_ble_eq_true rfl⟩ ?_; clear hP hD hS; intro H locs hP hD hS
  refine lv_iadd hx hb dL_isWell_117 ?_
  refine lv_istore_n (lv' := [(1, .int (l1 + q18)), (0, .ref a_x), (2, .int l2), (3, .int l3), (4, .ref a_p0), (5, .ref a_p1), (6, .int l6), (7, .int l7), (8, .int l8), (9, .int l9), (10, .int l10)]) hx hb dL_isWell_118 rfl hl (by decide) rfl (fun ls hl => ?_)
  refine lv_iload_n hx hb dL_isWell_119 rfl (lv_at hl 2 rfl) ?_
  refine lv_aload_n hx hb dL_isWell_120 rfl (lv_at hl 1 rfl) ?_
  refine lv_iload hx hb dL_isWell_121 (lv_at hl 8 rfl) ?_
  refine lv_bipush (v := 7) hx hb dL_isWell_123 (by decide) ?_
  replace h := bnd h; obtain ⟨q20, e21, h⟩ := h
  refine wrVi (ws1 := [(a_g, .inr (1, [.ref a_gw, .ref a_gk])), (a_r, .inr (4, [.ref a_g, .ref a_rs, .ref a_rl, .ref a_ro])), (a_f, .inr (0, [.ref a_g, .int f_net])), (a_t, .inr (5, [.ref a_ti, .ref a_tn, .int t_len, .int t_cur, .int t_kin, .int t_tol, .int t_don])), (a_h, .inr (2, [.ref a_hp, .int h_old, .int h_siz])), (a_x, .inr (7, [.ref a_g, .ref a_b, .ref a_v, .ref a_h, .ref a_r, .ref a_f, .ref a_u, .ref a_t, .ref a_n, .int x_sav, .int x_err, .int x_rea, .int x_det, .int x_com])), (a_gw, .inl (T 0, 90, .inl v_gw)), (a_gk, .inl (T 0, 18, .inl v_gk)), (a_rs, .inl (T 0, 45, .inl v_rs)), (a_rl, .inl (T 0, 45, .inl v_rl)), (a_ro, .inl (T 1, 45, .inl v_ro)), (a_p0, .inl (T 0, 2, .inl v_p0)), (a_p1, .inl (T 0, 2, .inl (upd v_p1 x1.toNatClampNeg (x2 + x3))))]) C hE hP hD hS hA (kX7_whaleOf_n l D T a_g a_gw a_gk a_x a_b a_v a_h a_r a_f a_u a_t a_n x_sav x_err x_rea x_det x_com v_gw v_gk l8 7 _ q20 e21) mX7_whaleOf qLL_120 [0, 5, 6, 7] [1, 2, 3, 4, 8, 9, 10, 11, 12] 5 rfl rfl rfl rfl rfl rfl rfl rfl rfl ⟨rfl, rfl⟩ ⟨Nat.le_of_ble_eq_true rfl, Nat.le_of_ble_eq_true rfl⟩ rfl hl.1 rfl (Nat.le_of_ble_eq_true rfl) dL_isWell_125 ⟨Nat.le_of_ble_eq_true rfl, Nat.le_of_ble_eq_true rfl⟩ ?_; clear hP hD hS; intro H locs hP hD hS
  refine lv_iadd hx hb dL_isWell_128 ?_
  refine lv_istore_n (lv' := [(2, .int (l2 + q20)), (1, .int (l1 + q18)), (0, .ref a_x), (3, .int l3), (4, .ref a_p0), (5, .ref a_p1), (6, .int l6), (7, .int l7), (8, .int l8), (9, .int l9), (10, .int l10)]) hx hb dL_isWell_129 rfl hl (by decide) rfl (fun ls hl => ?_)
  refine lv_iload_n hx hb dL_isWell_130 rfl (lv_at hl 3 rfl) ?_
  refine lv_aload_n hx hb dL_isWell_131 rfl (lv_at hl 2 rfl) ?_
  refine lv_iload hx hb dL_isWell_132 (lv_at hl 8 rfl) ?_
  refine lv_bipush (v := 6) hx hb dL_isWell_134 (by decide) ?_
  replace h := bnd h; obtain ⟨q22, e23, h⟩ := h
  refine wrVi (ws1 := [(a_g, .inr (1, [.ref a_gw, .ref a_gk])), (a_r, .inr (4, [.ref a_g, .ref a_rs, .ref a_rl, .ref a_ro])), (a_f, .inr (0, [.ref a_g, .int f_net])), (a_t, .inr (5, [.ref a_ti, .ref a_tn, .int t_len, .int t_cur, .int t_kin, .int t_tol, .int t_don])), (a_h, .inr (2, [.ref a_hp, .int h_old, .int h_siz])), (a_x, .inr (7, [.ref a_g, .ref a_b, .ref a_v, .ref a_h, .ref a_r, .ref a_f, .ref a_u, .ref a_t, .ref a_n, .int x_sav, .int x_err, .int x_rea, .int x_det, .int x_com])), (a_gw, .inl (T 0, 90, .inl v_gw)), (a_gk, .inl (T 0, 18, .inl v_gk)), (a_rs, .inl (T 0, 45, .inl v_rs)), (a_rl, .inl (T 0, 45, .inl v_rl)), (a_ro, .inl (T 1, 45, .inl v_ro)), (a_p0, .inl (T 0, 2, .inl v_p0)), (a_p1, .inl (T 0, 2, .inl (upd v_p1 x1.toNatClampNeg (x2 + x3))))]) C hE hP hD hS hA (kX7_whaleOf_n l D T a_g a_gw a_gk a_x a_b a_v a_h a_r a_f a_u a_t a_n x_sav x_err x_rea x_det x_com v_gw v_gk l8 6 _ q22 e23) mX7_whaleOf qLL_120 [0, 5, 6, 7] [1, 2, 3, 4, 8, 9, 10, 11, 12] 5 rfl rfl rfl rfl rfl rfl rfl rfl rfl ⟨rfl, rfl⟩ ⟨Nat.le_of_ble_eq_true rfl, Nat.le_of_ble_eq_true rfl⟩ rfl hl.1 rfl (Nat.le_of_ble_eq_true rfl) dL_isWell_136 ⟨Nat.le_of_ble_eq_true rfl, Nat.le_of_ble_eq_true rfl⟩ ?_; clear hP hD hS; intro H locs hP hD hS
  refine lv_iadd hx hb dL_isWell_139 ?_
  refine lv_istore_n (lv' := [(3, .int (l3 + q22)), (2, .int (l2 + q20)), (1, .int (l1 + q18)), (0, .ref a_x), (4, .ref a_p0), (5, .ref a_p1), (6, .int l6), (7, .int l7), (8, .int l8), (9, .int l9), (10, .int l10)]) hx hb dL_isWell_140 rfl hl (by decide) rfl (fun ls hl => ?_)
  refine lv_iload hx hb dL_isWell_141 (lv_at hl 9 rfl) ?_
  refine lv_if_lt (tgt := 157) hx hb dL_isWell_143 (by decide) (fun c24 => ?_) (fun c24 => ?_)
  · replace h := ite_t c24 h
    exact lL_isWell_157 C hE hA hZ hret hrec39 (l1 + q18) (l2 + q20) (l3 + q22) l6 l7 l8 l9 l10 f_net v_rs v_rl v_ro v_p0 (upd v_p1 x1.toNatClampNeg (x2 + x3)) ⟨hP, hD⟩ hS _ (lv_sub hl [3, 2, 1, 0, 4, 5, 6, 7, 8, 9, 10] rfl) h
  · replace h := ite_f c24 h
    refine lv_aload_n hx hb dL_isWell_146 rfl (lv_at hl 3 rfl) ?_
    refine lv_iload hx hb dL_isWell_147 (lv_at hl 9 rfl) ?_
    replace h := bnd h; obtain ⟨q25, e26, h⟩ := h
    refine wrVi (ws1 := [(a_g, .inr (1, [.ref a_gw, .ref a_gk])), (a_r, .inr (4, [.ref a_g, .ref a_rs, .ref a_rl, .ref a_ro])), (a_f, .inr (0, [.ref a_g, .int f_net])), (a_t, .inr (5, [.ref a_ti, .ref a_tn, .int t_len, .int t_cur, .int t_kin, .int t_tol, .int t_don])), (a_h, .inr (2, [.ref a_hp, .int h_old, .int h_siz])), (a_x, .inr (7, [.ref a_g, .ref a_b, .ref a_v, .ref a_h, .ref a_r, .ref a_f, .ref a_u, .ref a_t, .ref a_n, .int x_sav, .int x_err, .int x_rea, .int x_det, .int x_com])), (a_gw, .inl (T 0, 90, .inl v_gw)), (a_gk, .inl (T 0, 18, .inl v_gk)), (a_rs, .inl (T 0, 45, .inl v_rs)), (a_rl, .inl (T 0, 45, .inl v_rl)), (a_ro, .inl (T 1, 45, .inl v_ro)), (a_p0, .inl (T 0, 2, .inl v_p0)), (a_p1, .inl (T 0, 2, .inl (upd v_p1 x1.toNatClampNeg (x2 + x3))))]) C hE hP hD hS hA (kX7_at_n l D T a_g a_gw a_gk a_x a_b a_v a_h a_r a_f a_u a_t a_n x_sav x_err x_rea x_det x_com v_gw v_gk l9 _ q25 e26) mX7_at qLL_172 [0, 5, 6, 7] [1, 2, 3, 4, 8, 9, 10, 11, 12] 5 rfl rfl rfl rfl rfl rfl rfl rfl rfl ⟨rfl, rfl⟩ ⟨Nat.le_of_ble_eq_true rfl, Nat.le_of_ble_eq_true rfl⟩ rfl hl.1 rfl (Nat.le_of_ble_eq_true rfl) dL_isWell_149 ⟨Nat.le_of_ble_eq_true rfl, Nat.le_of_ble_eq_true rfl⟩ ?_; clear hP hD hS; intro H locs hP hD hS
    refine lv_iload hx hb dL_isWell_152 (lv_at hl 8 rfl) ?_
    refine lv_icmp_ne (tgt := 195) hx hb dL_isWell_154 (by decide) (fun c27 => ?_) (fun c27 => ?_)
    · replace h := ite_f c27 h
      refine lv_iconst (v := 0) hx hb dL_isWell_195 (by decide) ?_
      replace h := Option.some.inj h
      exact hret _ _ _ _ _ _ _ _ (Nat.le_of_ble_eq_true rfl) (Nat.le_of_ble_eq_true rfl) dL_isWell_196 rfl (by rw [← h] <;> rfl) (by rw [← h]; exact hP.sub [0, 1, 2, 3, 4, 5, 6, 7, 8, 9, 10] rfl) hS
    · replace h := ite_t c27 h
      exact lL_isWell_157 C hE hA hZ hret hrec39 (l1 + q18) (l2 + q20) (l3 + q22) l6 l7 l8 l9 l10 f_net v_rs v_rl v_ro v_p0 (upd v_p1 x1.toNatClampNeg (x2 + x3)) ⟨hP, hD⟩ hS _ (lv_sub hl [3, 2, 1, 0, 4, 5, 6, 7, 8, 9, 10] rfl) h
set_option maxHeartbeats 4000000 in
set_option maxRecDepth 100000 in
theorem lL_isWell_83 {p : Program} {l : Launch} {e : Env} {s : State} {m : MethodId} {args : Array Value} {below : List Frame} {meth : Method} {c : Code} {Q : State → Prop} {D : va_G} {T : Nat → ClassId} {a_g a_gw a_gk a_r a_rs a_rl a_ro a_f a_t a_ti a_tn a_h a_hp a_x a_b a_v a_u a_n a_p0 a_p1 : Nat} {t_len : Int32} {t_cur : Int32} {t_kin : Int32} {t_tol : Int32} {t_don : Int32} {h_old : Int32} {h_siz : Int32} {x_sav : Int32} {x_err : Int32} {x_rea : Int32} {x_det : Int32} {x_com : Int32} {v_gw : Nat → Int32} {v_gk : Nat → Int32} {A : Nat → Prop} {r : Int32 × Int32 × (Nat → Int32) × (Nat → Int32) × (Nat → Int32) × (Nat → Int32) × (Nat → Int32)} (C : CallFix p m c cL_isWell 13 s args aw RL) (hE : eK D T s) (hA : ∀ q : Nat, s.heap.size ≤ q → A q) (hZ : eX l A s) (hret : LnRet p l e ({ frames := 7, cells := 2, slots := 4, locals := 158 } : Room) s m args below meth c Q cL_isWell .boolean D A [(a_g, .inr (1, [.ref a_gw, .ref a_gk])), (a_r, .inr (4, [.ref a_g, .ref a_rs, .ref a_rl, .ref a_ro])), (a_f, .inr (0, [.ref a_g, .int r.2.1])), (a_t, .inr (5, [.ref a_ti, .ref a_tn, .int t_len, .int t_cur, .int t_kin, .int t_tol, .int t_don])), (a_h, .inr (2, [.ref a_hp, .int h_old, .int h_siz])), (a_x, .inr (7, [.ref a_g, .ref a_b, .ref a_v, .ref a_h, .ref a_r, .ref a_f, .ref a_u, .ref a_t, .ref a_n, .int x_sav, .int x_err, .int x_rea, .int x_det, .int x_com])), (a_gw, .inl (T 0, 90, .inl v_gw)), (a_gk, .inl (T 0, 18, .inl v_gk)), (a_rs, .inl (T 0, 45, .inl r.2.2.1)), (a_rl, .inl (T 0, 45, .inl r.2.2.2.1)), (a_ro, .inl (T 1, 45, .inl r.2.2.2.2.1))] r.1) {rec39 : Int32 → Int32 → Int32 → Int32 → Int32 → Int32 → Int32 → (Nat → Int32) → (Nat → Int32) → (Nat → Int32) → (Nat → Int32) → (Nat → Int32) → Option (Int32 × Int32 × (Nat → Int32) × (Nat → Int32) × (Nat → Int32) × (Nat → Int32) × (Nat → Int32))} (hrec39 : ∀ (l1 : Int32) (l2 : Int32) (l3 : Int32) (l6 : Int32) (l7 : Int32) (l8 : Int32) (f_net : Int32) (v_rs : Nat → Int32) (v_rl : Nat → Int32) (v_ro : Nat → Int32) (v_p0 : Nat → Int32) (v_p1 : Nat → Int32) {H : Heap} {locs : List Loc} (hPD : va_PD D A [(a_g, .inr (1, [.ref a_gw, .ref a_gk])), (a_r, .inr (4, [.ref a_g, .ref a_rs, .ref a_rl, .ref a_ro])), (a_f, .inr (0, [.ref a_g, .int f_net])), (a_t, .inr (5, [.ref a_ti, .ref a_tn, .int t_len, .int t_cur, .int t_kin, .int t_tol, .int t_don])), (a_h, .inr (2, [.ref a_hp, .int h_old, .int h_siz])), (a_x, .inr (7, [.ref a_g, .ref a_b, .ref a_v, .ref a_h, .ref a_r, .ref a_f, .ref a_u, .ref a_t, .ref a_n, .int x_sav, .int x_err, .int x_rea, .int x_det, .int x_com])), (a_gw, .inl (T 0, 90, .inl v_gw)), (a_gk, .inl (T 0, 18, .inl v_gk)), (a_rs, .inl (T 0, 45, .inl v_rs)), (a_rl, .inl (T 0, 45, .inl v_rl)), (a_ro, .inl (T 1, 45, .inl v_ro)), (a_p0, .inl (T 0, 2, .inl v_p0)), (a_p1, .inl (T 0, 2, .inl v_p1))] H) (hS : va_S A s.heap H locs) (ls : Array Slot) (hl : lv_has ls 13 [(0, .ref a_x), (1, .int l1), (2, .int l2), (3, .int l3), (4, .ref a_p0), (5, .ref a_p1), (6, .int l6), (7, .int l7), (8, .int l8)]) (h : rec39 l1 l2 l3 l6 l7 l8 f_net v_rs v_rl v_ro v_p0 v_p1 = some r), W p l e ({ frames := 7, cells := 2, slots := 4, locals := 158 } : Room) s m args below meth c H locs 2 4 Q (F0 m 39 ls [])) (x1 : Int32) (x2 : Int32) (x3 : Int32) (l1 : Int32) (l2 : Int32) (l3 : Int32) (l6 : Int32) (l7 : Int32) (l8 : Int32) (l9 : Int32) (l10 : Int32) (f_net : Int32) (v_rs : Nat → Int32) (v_rl : Nat → Int32) (v_ro : Nat → Int32) (v_p0 : Nat → Int32) (v_p1 : Nat → Int32) {H : Heap} {locs : List Loc} (hPD : va_PD D A [(a_g, .inr (1, [.ref a_gw, .ref a_gk])), (a_r, .inr (4, [.ref a_g, .ref a_rs, .ref a_rl, .ref a_ro])), (a_f, .inr (0, [.ref a_g, .int f_net])), (a_t, .inr (5, [.ref a_ti, .ref a_tn, .int t_len, .int t_cur, .int t_kin, .int t_tol, .int t_don])), (a_h, .inr (2, [.ref a_hp, .int h_old, .int h_siz])), (a_x, .inr (7, [.ref a_g, .ref a_b, .ref a_v, .ref a_h, .ref a_r, .ref a_f, .ref a_u, .ref a_t, .ref a_n, .int x_sav, .int x_err, .int x_rea, .int x_det, .int x_com])), (a_gw, .inl (T 0, 90, .inl v_gw)), (a_gk, .inl (T 0, 18, .inl v_gk)), (a_rs, .inl (T 0, 45, .inl v_rs)), (a_rl, .inl (T 0, 45, .inl v_rl)), (a_ro, .inl (T 1, 45, .inl v_ro)), (a_p0, .inl (T 0, 2, .inl v_p0)), (a_p1, .inl (T 0, 2, .inl v_p1))] H) (hS : va_S A s.heap H locs) (ls : Array Slot) (hl : lv_has ls 13 [(0, .ref a_x), (1, .int l1), (2, .int l2), (3, .int l3), (4, .ref a_p0), (5, .ref a_p1), (6, .int l6), (7, .int l7), (8, .int l8), (9, .int l9), (10, .int l10)]) (h : fL_isWell_83 t_len h_siz v_gw v_gk rec39 x1 x2 x3 l1 l2 l3 l6 l7 l8 l9 l10 f_net v_rs v_rl v_ro v_p0 v_p1 = some r) : W p l e ({ frames := 7, cells := 2, slots := 4, locals := 158 } : Room) s m args below meth c H locs 2 4 Q (F0 m 83 ls [.int x3, .int x2, .int x1, .ref a_p0]) := by
  have hx := C.1
  have hb := C.2.1
  obtain ⟨hP, hD⟩ := hPD
  unfold fL_isWell_83 at h
  refine lv_iadd hx hb dL_isWell_83 ?_
  replace h := gd h; obtain ⟨g12, h⟩ := h
  refine astI (q0 := 11) (ws1 := [(a_g, .inr (1, [.ref a_gw, .ref a_gk])), (a_r, .inr (4, [.ref a_g, .ref a_rs, .ref a_rl, .ref a_ro])), (a_f, .inr (0, [.ref a_g, .int f_net])), (a_t, .inr (5, [.ref a_ti, .ref a_tn, .int t_len, .int t_cur, .int t_kin, .int t_tol, .int t_don])), (a_h, .inr (2, [.ref a_hp, .int h_old, .int h_siz])), (a_x, .inr (7, [.ref a_g, .ref a_b, .ref a_v, .ref a_h, .ref a_r, .ref a_f, .ref a_u, .ref a_t, .ref a_n, .int x_sav, .int x_err, .int x_rea, .int x_det, .int x_com])), (a_gw, .inl (T 0, 90, .inl v_gw)), (a_gk, .inl (T 0, 18, .inl v_gk)), (a_rs, .inl (T 0, 45, .inl v_rs)), (a_rl, .inl (T 0, 45, .inl v_rl)), (a_ro, .inl (T 1, 45, .inl v_ro)), (a_p0, .inl (T 0, 2, .inl (upd v_p0 x1.toNatClampNeg (x2 + x3)))), (a_p1, .inl (T 0, 2, .inl v_p1))]) C hE hP hD hS rfl g12 rfl dL_isWell_84 ?_; clear hP hD hS; intro H locs hP hD hS
  refine lv_aload hx hb dL_isWell_85 (lv_at hl 5 rfl) ?_
  refine lv_iload hx hb dL_isWell_87 (lv_at hl 10 rfl) ?_
  refine lv_dup2_11 hx hb dL_isWell_89 rfl rfl ?_
  replace h := gd h; obtain ⟨g13, h⟩ := h
  refine aldI (q0 := 12) C hE hP rfl g13 dL_isWell_90 ?_
  refine lv_aload_n hx hb dL_isWell_91 rfl (lv_at hl 0 rfl) ?_
  refine lv_iload hx hb dL_isWell_92 (lv_at hl 8 rfl) ?_
  replace h := bnd h; obtain ⟨q14, e15, h⟩ := h
  refine lnS (ws1 := [(a_g, .inr (1, [.ref a_gw, .ref a_gk])), (a_r, .inr (4, [.ref a_g, .ref a_rs, .ref a_rl, .ref a_ro])), (a_f, .inr (0, [.ref a_g, .int f_net])), (a_t, .inr (5, [.ref a_ti, .ref a_tn, .int t_len, .int t_cur, .int t_kin, .int t_tol, .int t_don])), (a_h, .inr (2, [.ref a_hp, .int h_old, .int h_siz])), (a_x, .inr (7, [.ref a_g, .ref a_b, .ref a_v, .ref a_h, .ref a_r, .ref a_f, .ref a_u, .ref a_t, .ref a_n, .int x_sav, .int x_err, .int x_rea, .int x_det, .int x_com])), (a_gw, .inl (T 0, 90, .inl v_gw)), (a_gk, .inl (T 0, 18, .inl v_gk)), (a_rs, .inl (T 0, 45, .inl v_rs)), (a_rl, .inl (T 0, 45, .inl v_rl)), (a_ro, .inl (T 1, 45, .inl v_ro)), (a_p0, .inl (T 0, 2, .inl (upd v_p0 x1.toNatClampNeg (x2 + x3)))), (a_p1, .inl (T 0, 2, .inl v_p1))]) C hE hZ hP hD hS hA Jb.tt (fun U hU hW => trivial) (kL_far l hZ.1 D T a_g a_gw a_gk a_t a_ti a_tn a_h a_hp a_x a_b a_v a_r a_f a_u a_n t_len t_cur t_kin t_tol t_don h_old h_siz x_sav x_err x_rea x_det x_com v_gw v_gk l8 _ q14 e15) mL_far qLL_108 [0, 3, 4, 5, 6, 7] [1, 2, 8, 9, 10, 11, 12] rfl rfl rfl rfl rfl rfl ⟨Nat.le_of_ble_eq_true rfl, Nat.le_of_ble_eq_true rfl⟩ rfl hl.1 rfl (Nat.le_of_ble_eq_true rfl) dL_isWell_94 ⟨Nat.le_of_ble_eq_true rfl, Nat.le_of_ble_eq_true rfl⟩ ?_; clear hP hD hS; intro H locs hP hD hS
  refine lv_iconst (v := 2) hx hb dL_isWell_97 (by decide) ?_
  refine lv_icmp_ge (tgt := 105) hx hb dL_isWell_98 (by decide) (fun c16 => ?_) (fun c16 => ?_)
  · rw [if_pos c16] at h
    refine lv_iconst (v := 0) hx hb dL_isWell_105 (by decide) ?_
    exact lL_isWell_106 C hE hA hZ hret hrec39 l10 (v_p1 l10.toNatClampNeg) 0 l1 l2 l3 l6 l7 l8 l9 l10 f_net v_rs v_rl v_ro (upd v_p0 x1.toNatClampNeg (x2 + x3)) v_p1 ⟨hP, hD⟩ hS _ (lv_sub hl [0, 1, 2, 3, 4, 5, 6, 7, 8, 9, 10] rfl) h
  · rw [if_neg c16] at h
    refine lv_iconst (v := 1) hx hb dL_isWell_101 (by decide) ?_
    refine lv_goto (tgt := 106) hx hb dL_isWell_102 (by decide) ?_
    exact lL_isWell_106 C hE hA hZ hret hrec39 l10 (v_p1 l10.toNatClampNeg) 1 l1 l2 l3 l6 l7 l8 l9 l10 f_net v_rs v_rl v_ro (upd v_p0 x1.toNatClampNeg (x2 + x3)) v_p1 ⟨hP, hD⟩ hS _ (lv_sub hl [0, 1, 2, 3, 4, 5, 6, 7, 8, 9, 10] rfl) h
set_option maxHeartbeats 4000000 in
set_option maxRecDepth 100000 in
theorem lL_isWell_343 {p : Program} {l : Launch} {e : Env} {s : State} {m : MethodId} {args : Array Value} {below : List Frame} {meth : Method} {c : Code} {Q : State → Prop} {D : va_G} {T : Nat → ClassId} {a_g a_gw a_gk a_r a_rs a_rl a_ro a_f a_t a_ti a_tn a_h a_hp a_x a_b a_v a_u a_n a_p0 a_p1 : Nat} {t_len : Int32} {t_cur : Int32} {t_kin : Int32} {t_tol : Int32} {t_don : Int32} {h_old : Int32} {h_siz : Int32} {x_sav : Int32} {x_err : Int32} {x_rea : Int32} {x_det : Int32} {x_com : Int32} {v_gw : Nat → Int32} {v_gk : Nat → Int32} {A : Nat → Prop} {r : Int32 × Int32 × (Nat → Int32) × (Nat → Int32) × (Nat → Int32) × (Nat → Int32) × (Nat → Int32)} (C : CallFix p m c cL_isWell 13 s args aw RL) (hE : eK D T s) (hA : ∀ q : Nat, s.heap.size ≤ q → A q) (hZ : eX l A s) (hret : LnRet p l e ({ frames := 7, cells := 2, slots := 4, locals := 158 } : Room) s m args below meth c Q cL_isWell .boolean D A [(a_g, .inr (1, [.ref a_gw, .ref a_gk])), (a_r, .inr (4, [.ref a_g, .ref a_rs, .ref a_rl, .ref a_ro])), (a_f, .inr (0, [.ref a_g, .int r.2.1])), (a_t, .inr (5, [.ref a_ti, .ref a_tn, .int t_len, .int t_cur, .int t_kin, .int t_tol, .int t_don])), (a_h, .inr (2, [.ref a_hp, .int h_old, .int h_siz])), (a_x, .inr (7, [.ref a_g, .ref a_b, .ref a_v, .ref a_h, .ref a_r, .ref a_f, .ref a_u, .ref a_t, .ref a_n, .int x_sav, .int x_err, .int x_rea, .int x_det, .int x_com])), (a_gw, .inl (T 0, 90, .inl v_gw)), (a_gk, .inl (T 0, 18, .inl v_gk)), (a_rs, .inl (T 0, 45, .inl r.2.2.1)), (a_rl, .inl (T 0, 45, .inl r.2.2.2.1)), (a_ro, .inl (T 1, 45, .inl r.2.2.2.2.1))] r.1) {rec305 : Int32 → Int32 → Int32 → Int32 → Int32 → Int32 → Int32 → (Nat → Int32) → (Nat → Int32) → (Nat → Int32) → (Nat → Int32) → (Nat → Int32) → Option (Int32 × Int32 × (Nat → Int32) × (Nat → Int32) × (Nat → Int32) × (Nat → Int32) × (Nat → Int32))} (hrec305 : ∀ (l1 : Int32) (l2 : Int32) (l3 : Int32) (l6 : Int32) (l7 : Int32) (l8 : Int32) (f_net : Int32) (v_rs : Nat → Int32) (v_rl : Nat → Int32) (v_ro : Nat → Int32) (v_p0 : Nat → Int32) (v_p1 : Nat → Int32) {H : Heap} {locs : List Loc} (hPD : va_PD D A [(a_g, .inr (1, [.ref a_gw, .ref a_gk])), (a_r, .inr (4, [.ref a_g, .ref a_rs, .ref a_rl, .ref a_ro])), (a_f, .inr (0, [.ref a_g, .int f_net])), (a_t, .inr (5, [.ref a_ti, .ref a_tn, .int t_len, .int t_cur, .int t_kin, .int t_tol, .int t_don])), (a_h, .inr (2, [.ref a_hp, .int h_old, .int h_siz])), (a_x, .inr (7, [.ref a_g, .ref a_b, .ref a_v, .ref a_h, .ref a_r, .ref a_f, .ref a_u, .ref a_t, .ref a_n, .int x_sav, .int x_err, .int x_rea, .int x_det, .int x_com])), (a_gw, .inl (T 0, 90, .inl v_gw)), (a_gk, .inl (T 0, 18, .inl v_gk)), (a_rs, .inl (T 0, 45, .inl v_rs)), (a_rl, .inl (T 0, 45, .inl v_rl)), (a_ro, .inl (T 1, 45, .inl v_ro)), (a_p0, .inl (T 0, 2, .inl v_p0)), (a_p1, .inl (T 0, 2, .inl v_p1))] H) (hS : va_S A s.heap H locs) (ls : Array Slot) (hl : lv_has ls 13 [(0, .ref a_x), (1, .int l1), (2, .int l2), (3, .int l3), (4, .ref a_p0), (5, .ref a_p1), (6, .int l6), (7, .int l7), (8, .int l8)]) (h : rec305 l1 l2 l3 l6 l7 l8 f_net v_rs v_rl v_ro v_p0 v_p1 = some r), W p l e ({ frames := 7, cells := 2, slots := 4, locals := 158 } : Room) s m args below meth c H locs 2 4 Q (F0 m 305 ls [])) (x0 : Int32) (x1 : Int32) (l1 : Int32) (l2 : Int32) (l3 : Int32) (l6 : Int32) (l7 : Int32) (l8 : Int32) (f_net : Int32) (v_rs : Nat → Int32) (v_rl : Nat → Int32) (v_ro : Nat → Int32) (v_p0 : Nat → Int32) (v_p1 : Nat → Int32) {H : Heap} {locs : List Loc} (hPD : va_PD D A [(a_g, .inr (1, [.ref a_gw, .ref a_gk])), (a_r, .inr (4, [.ref a_g, .ref a_rs, .ref a_rl, .ref a_ro])), (a_f, .inr (0, [.ref a_g, .int f_net])), (a_t, .inr (5, [.ref a_ti, .ref a_tn, .int t_len, .int t_cur, .int t_kin, .int t_tol, .int t_don])), (a_h, .inr (2, [.ref a_hp, .int h_old, .int h_siz])), (a_x, .inr (7, [.ref a_g, .ref a_b, .ref a_v, .ref a_h, .ref a_r, .ref a_f, .ref a_u, .ref a_t, .ref a_n, .int x_sav, .int x_err, .int x_rea, .int x_det, .int x_com])), (a_gw, .inl (T 0, 90, .inl v_gw)), (a_gk, .inl (T 0, 18, .inl v_gk)), (a_rs, .inl (T 0, 45, .inl v_rs)), (a_rl, .inl (T 0, 45, .inl v_rl)), (a_ro, .inl (T 1, 45, .inl v_ro)), (a_p0, .inl (T 0, 2, .inl v_p0)), (a_p1, .inl (T 0, 2, .inl v_p1))] H) (hS : va_S A s.heap H locs) (ls : Array Slot) (hl : lv_has ls 13 [(0, .ref a_x), (1, .int l1), (2, .int l2), (3, .int l3), (4, .ref a_p0), (5, .ref a_p1), (6, .int l6), (7, .int l7), (8, .int l8)]) (h : fL_isWell_343 t_len h_siz v_gw v_gk rec305 x0 x1 l1 l2 l3 l6 l7 l8 f_net v_rs v_rl v_ro v_p0 v_p1 = some r) : W p l e ({ frames := 7, cells := 2, slots := 4, locals := 158 } : Room) s m args below meth c H locs 2 4 Q (F0 m 343 ls [.int x1, .int x0]) := by
  have hx := C.1
  have hb := C.2.1
  obtain ⟨hP, hD⟩ := hPD
  unfold fL_isWell_343 at h
  refine lv_icmp_eq (tgt := 348) hx hb dL_isWell_343 (by decide) (fun c112 => ?_) (fun c112 => ?_)
  · replace h := ite_t c112 h
    refine lv_iinc (v := (l8 + 1)) (lv' := [(8, .int (l8 + 1)), (0, .ref a_x), (1, .int l1), (2, .int l2), (3, .int l3), (4, .ref a_p0), (5, .ref a_p1), (6, .int l6), (7, .int l7)]) hx hb dL_isWell_348 hl (k := 8) rfl rfl (by decide) rfl (fun ls hl => ?_)
    refine lv_goto (tgt := 305) hx hb dL_isWell_351 (by decide) ?_
    exact hrec305 l1 l2 l3 l6 l7 (l8 + 1) f_net v_rs v_rl v_ro v_p0 v_p1 ⟨hP, hD⟩ hS _ (lv_sub hl [1, 2, 3, 4, 5, 6, 7, 8, 0] rfl) h
  · replace h := ite_f c112 h
    refine lv_iconst (v := 0) hx hb dL_isWell_346 (by decide) ?_
    replace h := Option.some.inj h
    exact hret _ _ _ _ _ _ _ _ (Nat.le_of_ble_eq_true rfl) (Nat.le_of_ble_eq_true rfl) dL_isWell_347 rfl (by rw [← h] <;> rfl) (by rw [← h]; exact hP.sub [0, 1, 2, 3, 4, 5, 6, 7, 8, 9, 10] rfl) hS
set_option maxHeartbeats 4000000 in
set_option maxRecDepth 100000 in
theorem lL_isWell_530 {p : Program} {l : Launch} {e : Env} {s : State} {m : MethodId} {args : Array Value} {below : List Frame} {meth : Method} {c : Code} {Q : State → Prop} {D : va_G} {T : Nat → ClassId} {a_g a_gw a_gk a_r a_rs a_rl a_ro a_f a_t a_ti a_tn a_h a_hp a_x a_b a_v a_u a_n a_p0 a_p1 : Nat} {t_len : Int32} {t_cur : Int32} {t_kin : Int32} {t_tol : Int32} {t_don : Int32} {h_old : Int32} {h_siz : Int32} {x_sav : Int32} {x_err : Int32} {x_rea : Int32} {x_det : Int32} {x_com : Int32} {v_gw : Nat → Int32} {v_gk : Nat → Int32} {A : Nat → Prop} {r : Int32 × Int32 × (Nat → Int32) × (Nat → Int32) × (Nat → Int32) × (Nat → Int32) × (Nat → Int32)} (C : CallFix p m c cL_isWell 13 s args aw RL) (hE : eK D T s) (hA : ∀ q : Nat, s.heap.size ≤ q → A q) (hZ : eX l A s) (hret : LnRet p l e ({ frames := 7, cells := 2, slots := 4, locals := 158 } : Room) s m args below meth c Q cL_isWell .boolean D A [(a_g, .inr (1, [.ref a_gw, .ref a_gk])), (a_r, .inr (4, [.ref a_g, .ref a_rs, .ref a_rl, .ref a_ro])), (a_f, .inr (0, [.ref a_g, .int r.2.1])), (a_t, .inr (5, [.ref a_ti, .ref a_tn, .int t_len, .int t_cur, .int t_kin, .int t_tol, .int t_don])), (a_h, .inr (2, [.ref a_hp, .int h_old, .int h_siz])), (a_x, .inr (7, [.ref a_g, .ref a_b, .ref a_v, .ref a_h, .ref a_r, .ref a_f, .ref a_u, .ref a_t, .ref a_n, .int x_sav, .int x_err, .int x_rea, .int x_det, .int x_com])), (a_gw, .inl (T 0, 90, .inl v_gw)), (a_gk, .inl (T 0, 18, .inl v_gk)), (a_rs, .inl (T 0, 45, .inl r.2.2.1)), (a_rl, .inl (T 0, 45, .inl r.2.2.2.1)), (a_ro, .inl (T 1, 45, .inl r.2.2.2.2.1))] r.1) (x0 : Int32) (x1 : Int32) (f_net : Int32) (v_rs : Nat → Int32) (v_rl : Nat → Int32) (v_ro : Nat → Int32) (v_p0 : Nat → Int32) (v_p1 : Nat → Int32) {H : Heap} {locs : List Loc} (hPD : va_PD D A [(a_g, .inr (1, [.ref a_gw, .ref a_gk])), (a_r, .inr (4, [.ref a_g, .ref a_rs, .ref a_rl, .ref a_ro])), (a_f, .inr (0, [.ref a_g, .int f_net])), (a_t, .inr (5, [.ref a_ti, .ref a_tn, .int t_len, .int t_cur, .int t_kin, .int t_tol, .int t_don])), (a_h, .inr (2, [.ref a_hp, .int h_old, .int h_siz])), (a_x, .inr (7, [.ref a_g, .ref a_b, .ref a_v, .ref a_h, .ref a_r, .ref a_f, .ref a_u, .ref a_t, .ref a_n, .int x_sav, .int x_err, .int x_rea, .int x_det, .int x_com])), (a_gw, .inl (T 0, 90, .inl v_gw)), (a_gk, .inl (T 0, 18, .inl v_gk)), (a_rs, .inl (T 0, 45, .inl v_rs)), (a_rl, .inl (T 0, 45, .inl v_rl)), (a_ro, .inl (T 1, 45, .inl v_ro)), (a_p0, .inl (T 0, 2, .inl v_p0)), (a_p1, .inl (T 0, 2, .inl v_p1))] H) (hS : va_S A s.heap H locs) (ls : Array Slot) (hl : lv_has ls 13 [(0, .ref a_x)]) (h : fL_isWell_530 t_len h_siz v_gw v_gk x0 x1 f_net v_rs v_rl v_ro v_p0 v_p1 = some r) : W p l e ({ frames := 7, cells := 2, slots := 4, locals := 158 } : Room) s m args below meth c H locs 2 4 Q (F0 m 530 ls [.int x1, .int x0]) := by
  have hx := C.1
  have hb := C.2.1
  obtain ⟨hP, hD⟩ := hPD
  unfold fL_isWell_530 at h
  refine lv_icmp_ne (tgt := 544) hx hb dL_isWell_530 (by decide) (fun c113 => ?_) (fun c113 => ?_)
  · replace h := ite_f c113 h
    refine lv_iconst (v := 0) hx hb dL_isWell_544 (by decide) ?_
    replace h := Option.some.inj h
    exact hret _ _ _ _ _ _ _ _ (Nat.le_of_ble_eq_true rfl) (Nat.le_of_ble_eq_true rfl) dL_isWell_545 rfl (by rw [← h] <;> rfl) (by rw [← h]; exact hP.sub [0, 1, 2, 3, 4, 5, 6, 7, 8, 9, 10] rfl) hS
  · replace h := ite_t c113 h
    refine lv_aload_n hx hb dL_isWell_533 rfl (lv_at hl 0 rfl) ?_
    replace h := bnd h; obtain ⟨q114, e115, h⟩ := h
    refine wrVi (ws1 := [(a_g, .inr (1, [.ref a_gw, .ref a_gk])), (a_r, .inr (4, [.ref a_g, .ref a_rs, .ref a_rl, .ref a_ro])), (a_f, .inr (0, [.ref a_g, .int q114.2.1])), (a_t, .inr (5, [.ref a_ti, .ref a_tn, .int t_len, .int t_cur, .int t_kin, .int t_tol, .int t_don])), (a_h, .inr (2, [.ref a_hp, .int h_old, .int h_siz])), (a_x, .inr (7, [.ref a_g, .ref a_b, .ref a_v, .ref a_h, .ref a_r, .ref a_f, .ref a_u, .ref a_t, .ref a_n, .int x_sav, .int x_err, .int x_rea, .int x_det, .int x_com])), (a_gw, .inl (T 0, 90, .inl v_gw)), (a_gk, .inl (T 0, 18, .inl v_gk)), (a_rs, .inl (T 0, 45, .inl q114.2.2.1)), (a_rl, .inl (T 0, 45, .inl q114.2.2.2.1)), (a_ro, .inl (T 1, 45, .inl q114.2.2.2.2)), (a_p0, .inl (T 0, 2, .inl v_p0)), (a_p1, .inl (T 0, 2, .inl v_p1))]) C hE hP hD hS hA (kX7_isFair l D T a_g a_gw a_gk a_r a_rs a_rl a_ro a_f a_x a_b a_v a_h a_u a_t a_n f_net x_sav x_err x_rea x_det x_com v_gw v_gk v_rs v_rl v_ro _ q114 e115) mX7_isFair qLL_194 [0, 1, 2, 5, 6, 7, 8, 9, 10] [3, 4, 11, 12] 5 rfl rfl rfl rfl rfl rfl rfl rfl rfl ⟨rfl, rfl⟩ ⟨Nat.le_of_ble_eq_true rfl, Nat.le_of_ble_eq_true rfl⟩ rfl hl.1 rfl (Nat.le_of_ble_eq_true rfl) dL_isWell_534 ⟨Nat.le_of_ble_eq_true rfl, Nat.le_of_ble_eq_true rfl⟩ ?_; clear hP hD hS; intro H locs hP hD hS
    refine lv_if_eq (tgt := 544) hx hb dL_isWell_537 (by decide) (fun c116 => ?_) (fun c116 => ?_)
    · replace h := ite_t c116 h
      refine lv_iconst (v := 0) hx hb dL_isWell_544 (by decide) ?_
      replace h := Option.some.inj h
      exact hret _ _ _ _ _ _ _ _ (Nat.le_of_ble_eq_true rfl) (Nat.le_of_ble_eq_true rfl) dL_isWell_545 rfl (by rw [← h] <;> rfl) (by rw [← h]; exact hP.sub [0, 1, 2, 3, 4, 5, 6, 7, 8, 9, 10] rfl) hS
    · replace h := ite_f c116 h
      refine lv_iconst (v := 1) hx hb dL_isWell_540 (by decide) ?_
      refine lv_goto (tgt := 545) hx hb dL_isWell_541 (by decide) ?_
      replace h := Option.some.inj h
      exact hret _ _ _ _ _ _ _ _ (Nat.le_of_ble_eq_true rfl) (Nat.le_of_ble_eq_true rfl) dL_isWell_545 rfl (by rw [← h] <;> rfl) (by rw [← h]; exact hP.sub [0, 1, 2, 3, 4, 5, 6, 7, 8, 9, 10] rfl) hS
set_option maxHeartbeats 4000000 in
set_option maxRecDepth 100000 in
theorem lL_isWell_305 {p : Program} {l : Launch} {e : Env} {s : State} {m : MethodId} {args : Array Value} {below : List Frame} {meth : Method} {c : Code} {Q : State → Prop} {D : va_G} {T : Nat → ClassId} {a_g a_gw a_gk a_r a_rs a_rl a_ro a_f a_t a_ti a_tn a_h a_hp a_x a_b a_v a_u a_n a_p0 a_p1 : Nat} {t_len : Int32} {t_cur : Int32} {t_kin : Int32} {t_tol : Int32} {t_don : Int32} {h_old : Int32} {h_siz : Int32} {x_sav : Int32} {x_err : Int32} {x_rea : Int32} {x_det : Int32} {x_com : Int32} {v_gw : Nat → Int32} {v_gk : Nat → Int32} {A : Nat → Prop} {r : Int32 × Int32 × (Nat → Int32) × (Nat → Int32) × (Nat → Int32) × (Nat → Int32) × (Nat → Int32)} (C : CallFix p m c cL_isWell 13 s args aw RL) (hE : eK D T s) (hA : ∀ q : Nat, s.heap.size ≤ q → A q) (hZ : eX l A s) (hret : LnRet p l e ({ frames := 7, cells := 2, slots := 4, locals := 158 } : Room) s m args below meth c Q cL_isWell .boolean D A [(a_g, .inr (1, [.ref a_gw, .ref a_gk])), (a_r, .inr (4, [.ref a_g, .ref a_rs, .ref a_rl, .ref a_ro])), (a_f, .inr (0, [.ref a_g, .int r.2.1])), (a_t, .inr (5, [.ref a_ti, .ref a_tn, .int t_len, .int t_cur, .int t_kin, .int t_tol, .int t_don])), (a_h, .inr (2, [.ref a_hp, .int h_old, .int h_siz])), (a_x, .inr (7, [.ref a_g, .ref a_b, .ref a_v, .ref a_h, .ref a_r, .ref a_f, .ref a_u, .ref a_t, .ref a_n, .int x_sav, .int x_err, .int x_rea, .int x_det, .int x_com])), (a_gw, .inl (T 0, 90, .inl v_gw)), (a_gk, .inl (T 0, 18, .inl v_gk)), (a_rs, .inl (T 0, 45, .inl r.2.2.1)), (a_rl, .inl (T 0, 45, .inl r.2.2.2.1)), (a_ro, .inl (T 1, 45, .inl r.2.2.2.2.1))] r.1) : ∀ (k : Nat) (l1 : Int32) (l2 : Int32) (l3 : Int32) (l6 : Int32) (l7 : Int32) (l8 : Int32) (f_net : Int32) (v_rs : Nat → Int32) (v_rl : Nat → Int32) (v_ro : Nat → Int32) (v_p0 : Nat → Int32) (v_p1 : Nat → Int32) {H : Heap} {locs : List Loc} (hPD : va_PD D A [(a_g, .inr (1, [.ref a_gw, .ref a_gk])), (a_r, .inr (4, [.ref a_g, .ref a_rs, .ref a_rl, .ref a_ro])), (a_f, .inr (0, [.ref a_g, .int f_net])), (a_t, .inr (5, [.ref a_ti, .ref a_tn, .int t_len, .int t_cur, .int t_kin, .int t_tol, .int t_don])), (a_h, .inr (2, [.ref a_hp, .int h_old, .int h_siz])), (a_x, .inr (7, [.ref a_g, .ref a_b, .ref a_v, .ref a_h, .ref a_r, .ref a_f, .ref a_u, .ref a_t, .ref a_n, .int x_sav, .int x_err, .int x_rea, .int x_det, .int x_com])), (a_gw, .inl (T 0, 90, .inl v_gw)), (a_gk, .inl (T 0, 18, .inl v_gk)), (a_rs, .inl (T 0, 45, .inl v_rs)), (a_rl, .inl (T 0, 45, .inl v_rl)), (a_ro, .inl (T 1, 45, .inl v_ro)), (a_p0, .inl (T 0, 2, .inl v_p0)), (a_p1, .inl (T 0, 2, .inl v_p1))] H) (hS : va_S A s.heap H locs) (ls : Array Slot) (hl : lv_has ls 13 [(0, .ref a_x), (1, .int l1), (2, .int l2), (3, .int l3), (4, .ref a_p0), (5, .ref a_p1), (6, .int l6), (7, .int l7), (8, .int l8)]) (h : fL_isWell_305 t_len h_siz v_gw v_gk k l1 l2 l3 l6 l7 l8 f_net v_rs v_rl v_ro v_p0 v_p1 = some r), W p l e ({ frames := 7, cells := 2, slots := 4, locals := 158 } : Room) s m args below meth c H locs 2 4 Q (F0 m 305 ls []) := by
  have hx := C.1
  have hb := C.2.1
  intro k
  induction k with
  | zero =>
    intro l1 l2 l3 l6 l7 l8 f_net v_rs v_rl v_ro v_p0 v_p1 H locs hPD hS ls hl h
    exact nomatch (show (none : Option (Int32 × Int32 × (Nat → Int32) × (Nat → Int32) × (Nat → Int32) × (Nat → Int32) × (Nat → Int32))) = some r from h)
  | succ k ih =>
    intro l1 l2 l3 l6 l7 l8 f_net v_rs v_rl v_ro v_p0 v_p1 H locs hPD hS ls hl h
    obtain ⟨hP, hD⟩ := hPD
    rw [fL_isWell_305] at h
    refine lv_iload hx hb dL_isWell_305 (lv_at hl 8 rfl) ?_
    refine lv_bipush (v := 45) hx hb dL_isWell_307 (by decide) ?_
    refine lv_icmp_ge (tgt := 354) hx hb dL_isWell_309 (by decide) (fun c57 => ?_) (fun c57 => ?_)
    · replace h := ite_t c57 h
      refine lv_aload_n hx hb dL_isWell_354 rfl (lv_at hl 0 rfl) ?_
      refine lv_iconst (v := 3) hx hb dL_isWell_355 (by decide) ?_
      replace h := bnd h; obtain ⟨q58, e59, h⟩ := h
      refine wrVi (ws1 := [(a_g, .inr (1, [.ref a_gw, .ref a_gk])), (a_r, .inr (4, [.ref a_g, .ref a_rs, .ref a_rl, .ref a_ro])), (a_f, .inr (0, [.ref a_g, .int f_net])), (a_t, .inr (5, [.ref a_ti, .ref a_tn, .int t_len, .int t_cur, .int t_kin, .int t_tol, .int t_don])), (a_h, .inr (2, [.ref a_hp, .int h_old, .int h_siz])), (a_x, .inr (7, [.ref a_g, .ref a_b, .ref a_v, .ref a_h, .ref a_r, .ref a_f, .ref a_u, .ref a_t, .ref a_n, .int x_sav, .int x_err, .int x_rea, .int x_det, .int x_com])), (a_gw, .inl (T 0, 90, .inl v_gw)), (a_gk, .inl (T 0, 18, .inl v_gk)), (a_rs, .inl (T 0, 45, .inl v_rs)), (a_rl, .inl (T 0, 45, .inl v_rl)), (a_ro, .inl (T 1, 45, .inl v_ro)), (a_p0, .inl (T 0, 2, .inl v_p0)), (a_p1, .inl (T 0, 2, .inl v_p1))]) C hE hP hD hS hA (kX7_account_n l D T a_g a_gw a_gk a_t a_ti a_tn a_h a_hp a_x a_b a_v a_r a_f a_u a_n t_len t_cur t_kin t_tol t_don h_old h_siz x_sav x_err x_rea x_det x_com v_gw v_gk 3 _ q58 e59) mX7_account qLL_105 [0, 3, 4, 5, 6, 7] [1, 2, 8, 9, 10, 11, 12] 5 rfl rfl rfl rfl rfl rfl rfl rfl rfl ⟨rfl, rfl⟩ ⟨Nat.le_of_ble_eq_true rfl, Nat.le_of_ble_eq_true rfl⟩ rfl hl.1 rfl (Nat.le_of_ble_eq_true rfl) dL_isWell_356 ⟨Nat.le_of_ble_eq_true rfl, Nat.le_of_ble_eq_true rfl⟩ ?_; clear hP hD hS; intro H locs hP hD hS
      refine lv_aload_n hx hb dL_isWell_359 rfl (lv_at hl 0 rfl) ?_
      refine lv_iconst (v := 4) hx hb dL_isWell_360 (by decide) ?_
      replace h := bnd h; obtain ⟨q60, e61, h⟩ := h
      refine wrVi (ws1 := [(a_g, .inr (1, [.ref a_gw, .ref a_gk])), (a_r, .inr (4, [.ref a_g, .ref a_rs, .ref a_rl, .ref a_ro])), (a_f, .inr (0, [.ref a_g, .int f_net])), (a_t, .inr (5, [.ref a_ti, .ref a_tn, .int t_len, .int t_cur, .int t_kin, .int t_tol, .int t_don])), (a_h, .inr (2, [.ref a_hp, .int h_old, .int h_siz])), (a_x, .inr (7, [.ref a_g, .ref a_b, .ref a_v, .ref a_h, .ref a_r, .ref a_f, .ref a_u, .ref a_t, .ref a_n, .int x_sav, .int x_err, .int x_rea, .int x_det, .int x_com])), (a_gw, .inl (T 0, 90, .inl v_gw)), (a_gk, .inl (T 0, 18, .inl v_gk)), (a_rs, .inl (T 0, 45, .inl v_rs)), (a_rl, .inl (T 0, 45, .inl v_rl)), (a_ro, .inl (T 1, 45, .inl v_ro)), (a_p0, .inl (T 0, 2, .inl v_p0)), (a_p1, .inl (T 0, 2, .inl v_p1))]) C hE hP hD hS hA (kX7_account_n l D T a_g a_gw a_gk a_t a_ti a_tn a_h a_hp a_x a_b a_v a_r a_f a_u a_n t_len t_cur t_kin t_tol t_don h_old h_siz x_sav x_err x_rea x_det x_com v_gw v_gk 4 _ q60 e61) mX7_account qLL_105 [0, 3, 4, 5, 6, 7] [1, 2, 8, 9, 10, 11, 12] 5 rfl rfl rfl rfl rfl rfl rfl rfl rfl ⟨rfl, rfl⟩ ⟨Nat.le_of_ble_eq_true rfl, Nat.le_of_ble_eq_true rfl⟩ rfl hl.1 rfl (Nat.le_of_ble_eq_true rfl) dL_isWell_361 ⟨Nat.le_of_ble_eq_true rfl, Nat.le_of_ble_eq_true rfl⟩ ?_; clear hP hD hS; intro H locs hP hD hS
      refine lv_isub hx hb dL_isWell_364 ?_
      refine lv_istore (lv' := [(8, .int (q58 - q60)), (0, .ref a_x), (1, .int l1), (2, .int l2), (3, .int l3), (4, .ref a_p0), (5, .ref a_p1), (6, .int l6), (7, .int l7)]) hx hb dL_isWell_365 hl (by decide) rfl (fun ls hl => ?_)
      refine lv_iload_n hx hb dL_isWell_367 rfl (lv_at hl 2 rfl) ?_
      refine lv_aload_n hx hb dL_isWell_368 rfl (lv_at hl 1 rfl) ?_
      refine lv_bipush (v := 7) hx hb dL_isWell_369 (by decide) ?_
      replace h := bnd h; obtain ⟨q62, e63, h⟩ := h
      refine wrVi (ws1 := [(a_g, .inr (1, [.ref a_gw, .ref a_gk])), (a_r, .inr (4, [.ref a_g, .ref a_rs, .ref a_rl, .ref a_ro])), (a_f, .inr (0, [.ref a_g, .int f_net])), (a_t, .inr (5, [.ref a_ti, .ref a_tn, .int t_len, .int t_cur, .int t_kin, .int t_tol, .int t_don])), (a_h, .inr (2, [.ref a_hp, .int h_old, .int h_siz])), (a_x, .inr (7, [.ref a_g, .ref a_b, .ref a_v, .ref a_h, .ref a_r, .ref a_f, .ref a_u, .ref a_t, .ref a_n, .int x_sav, .int x_err, .int x_rea, .int x_det, .int x_com])), (a_gw, .inl (T 0, 90, .inl v_gw)), (a_gk, .inl (T 0, 18, .inl v_gk)), (a_rs, .inl (T 0, 45, .inl v_rs)), (a_rl, .inl (T 0, 45, .inl v_rl)), (a_ro, .inl (T 1, 45, .inl v_ro)), (a_p0, .inl (T 0, 2, .inl v_p0)), (a_p1, .inl (T 0, 2, .inl v_p1))]) C hE hP hD hS hA (kX7_account_n l D T a_g a_gw a_gk a_t a_ti a_tn a_h a_hp a_x a_b a_v a_r a_f a_u a_n t_len t_cur t_kin t_tol t_don h_old h_siz x_sav x_err x_rea x_det x_com v_gw v_gk 7 _ q62 e63) mX7_account qLL_105 [0, 3, 4, 5, 6, 7] [1, 2, 8, 9, 10, 11, 12] 5 rfl rfl rfl rfl rfl rfl rfl rfl rfl ⟨rfl, rfl⟩ ⟨Nat.le_of_ble_eq_true rfl, Nat.le_of_ble_eq_true rfl⟩ rfl hl.1 rfl (Nat.le_of_ble_eq_true rfl) dL_isWell_371 ⟨Nat.le_of_ble_eq_true rfl, Nat.le_of_ble_eq_true rfl⟩ ?_; clear hP hD hS; intro H locs hP hD hS
      refine lv_icmp_ne (tgt := 544) hx hb dL_isWell_374 (by decide) (fun c64 => ?_) (fun c64 => ?_)
      · replace h := ite_f c64 h
        refine lv_iconst (v := 0) hx hb dL_isWell_544 (by decide) ?_
        replace h := Option.some.inj h
        exact hret _ _ _ _ _ _ _ _ (Nat.le_of_ble_eq_true rfl) (Nat.le_of_ble_eq_true rfl) dL_isWell_545 rfl (by rw [← h] <;> rfl) (by rw [← h]; exact hP.sub [0, 1, 2, 3, 4, 5, 6, 7, 8, 9, 10] rfl) hS
      · replace h := ite_t c64 h
        refine lv_iload_n hx hb dL_isWell_377 rfl (lv_at hl 3 rfl) ?_
        refine lv_aload_n hx hb dL_isWell_378 rfl (lv_at hl 1 rfl) ?_
        refine lv_bipush (v := 8) hx hb dL_isWell_379 (by decide) ?_
        replace h := bnd h; obtain ⟨q65, e66, h⟩ := h
        refine wrVi (ws1 := [(a_g, .inr (1, [.ref a_gw, .ref a_gk])), (a_r, .inr (4, [.ref a_g, .ref a_rs, .ref a_rl, .ref a_ro])), (a_f, .inr (0, [.ref a_g, .int f_net])), (a_t, .inr (5, [.ref a_ti, .ref a_tn, .int t_len, .int t_cur, .int t_kin, .int t_tol, .int t_don])), (a_h, .inr (2, [.ref a_hp, .int h_old, .int h_siz])), (a_x, .inr (7, [.ref a_g, .ref a_b, .ref a_v, .ref a_h, .ref a_r, .ref a_f, .ref a_u, .ref a_t, .ref a_n, .int x_sav, .int x_err, .int x_rea, .int x_det, .int x_com])), (a_gw, .inl (T 0, 90, .inl v_gw)), (a_gk, .inl (T 0, 18, .inl v_gk)), (a_rs, .inl (T 0, 45, .inl v_rs)), (a_rl, .inl (T 0, 45, .inl v_rl)), (a_ro, .inl (T 1, 45, .inl v_ro)), (a_p0, .inl (T 0, 2, .inl v_p0)), (a_p1, .inl (T 0, 2, .inl v_p1))]) C hE hP hD hS hA (kX7_account_n l D T a_g a_gw a_gk a_t a_ti a_tn a_h a_hp a_x a_b a_v a_r a_f a_u a_n t_len t_cur t_kin t_tol t_don h_old h_siz x_sav x_err x_rea x_det x_com v_gw v_gk 8 _ q65 e66) mX7_account qLL_105 [0, 3, 4, 5, 6, 7] [1, 2, 8, 9, 10, 11, 12] 5 rfl rfl rfl rfl rfl rfl rfl rfl rfl ⟨rfl, rfl⟩ ⟨Nat.le_of_ble_eq_true rfl, Nat.le_of_ble_eq_true rfl⟩ rfl hl.1 rfl (Nat.le_of_ble_eq_true rfl) dL_isWell_381 ⟨Nat.le_of_ble_eq_true rfl, Nat.le_of_ble_eq_true rfl⟩ ?_; clear hP hD hS; intro H locs hP hD hS
        refine lv_icmp_ne (tgt := 544) hx hb dL_isWell_384 (by decide) (fun c67 => ?_) (fun c67 => ?_)
        · replace h := ite_f c67 h
          refine lv_iconst (v := 0) hx hb dL_isWell_544 (by decide) ?_
          replace h := Option.some.inj h
          exact hret _ _ _ _ _ _ _ _ (Nat.le_of_ble_eq_true rfl) (Nat.le_of_ble_eq_true rfl) dL_isWell_545 rfl (by rw [← h] <;> rfl) (by rw [← h]; exact hP.sub [0, 1, 2, 3, 4, 5, 6, 7, 8, 9, 10] rfl) hS
        · replace h := ite_t c67 h
          refine lv_iload_n hx hb dL_isWell_387 rfl (lv_at hl 4 rfl) ?_
          refine lv_aload_n hx hb dL_isWell_388 rfl (lv_at hl 1 rfl) ?_
          refine lv_iconst (v := 3) hx hb dL_isWell_389 (by decide) ?_
          replace h := bnd h; obtain ⟨q68, e69, h⟩ := h
          refine wrVi (ws1 := [(a_g, .inr (1, [.ref a_gw, .ref a_gk])), (a_r, .inr (4, [.ref a_g, .ref a_rs, .ref a_rl, .ref a_ro])), (a_f, .inr (0, [.ref a_g, .int f_net])), (a_t, .inr (5, [.ref a_ti, .ref a_tn, .int t_len, .int t_cur, .int t_kin, .int t_tol, .int t_don])), (a_h, .inr (2, [.ref a_hp, .int h_old, .int h_siz])), (a_x, .inr (7, [.ref a_g, .ref a_b, .ref a_v, .ref a_h, .ref a_r, .ref a_f, .ref a_u, .ref a_t, .ref a_n, .int x_sav, .int x_err, .int x_rea, .int x_det, .int x_com])), (a_gw, .inl (T 0, 90, .inl v_gw)), (a_gk, .inl (T 0, 18, .inl v_gk)), (a_rs, .inl (T 0, 45, .inl v_rs)), (a_rl, .inl (T 0, 45, .inl v_rl)), (a_ro, .inl (T 1, 45, .inl v_ro)), (a_p0, .inl (T 0, 2, .inl v_p0)), (a_p1, .inl (T 0, 2, .inl v_p1))]) C hE hP hD hS hA (kX7_account_n l D T a_g a_gw a_gk a_t a_ti a_tn a_h a_hp a_x a_b a_v a_r a_f a_u a_n t_len t_cur t_kin t_tol t_don h_old h_siz x_sav x_err x_rea x_det x_com v_gw v_gk 3 _ q68 e69) mX7_account qLL_105 [0, 3, 4, 5, 6, 7] [1, 2, 8, 9, 10, 11, 12] 5 rfl rfl rfl rfl rfl rfl rfl rfl rfl ⟨rfl, rfl⟩ ⟨Nat.le_of_ble_eq_true rfl, Nat.le_of_ble_eq_true rfl⟩ rfl hl.1 rfl (Nat.le_of_ble_eq_true rfl) dL_isWell_390 ⟨Nat.le_of_ble_eq_true rfl, Nat.le_of_ble_eq_true rfl⟩ ?_; clear hP hD hS; intro H locs hP hD hS
          refine lv_aload_n hx hb dL_isWell_393 rfl (lv_at hl 1 rfl) ?_
          refine lv_iconst (v := 4) hx hb dL_isWell_394 (by decide) ?_
          replace h := bnd h; obtain ⟨q70, e71, h⟩ := h
          refine wrVi (ws1 := [(a_g, .inr (1, [.ref a_gw, .ref a_gk])), (a_r, .inr (4, [.ref a_g, .ref a_rs, .ref a_rl, .ref a_ro])), (a_f, .inr (0, [.ref a_g, .int f_net])), (a_t, .inr (5, [.ref a_ti, .ref a_tn, .int t_len, .int t_cur, .int t_kin, .int t_tol, .int t_don])), (a_h, .inr (2, [.ref a_hp, .int h_old, .int h_siz])), (a_x, .inr (7, [.ref a_g, .ref a_b, .ref a_v, .ref a_h, .ref a_r, .ref a_f, .ref a_u, .ref a_t, .ref a_n, .int x_sav, .int x_err, .int x_rea, .int x_det, .int x_com])), (a_gw, .inl (T 0, 90, .inl v_gw)), (a_gk, .inl (T 0, 18, .inl v_gk)), (a_rs, .inl (T 0, 45, .inl v_rs)), (a_rl, .inl (T 0, 45, .inl v_rl)), (a_ro, .inl (T 1, 45, .inl v_ro)), (a_p0, .inl (T 0, 2, .inl v_p0)), (a_p1, .inl (T 0, 2, .inl v_p1))]) C hE hP hD hS hA (kX7_account_n l D T a_g a_gw a_gk a_t a_ti a_tn a_h a_hp a_x a_b a_v a_r a_f a_u a_n t_len t_cur t_kin t_tol t_don h_old h_siz x_sav x_err x_rea x_det x_com v_gw v_gk 4 _ q70 e71) mX7_account qLL_105 [0, 3, 4, 5, 6, 7] [1, 2, 8, 9, 10, 11, 12] 5 rfl rfl rfl rfl rfl rfl rfl rfl rfl ⟨rfl, rfl⟩ ⟨Nat.le_of_ble_eq_true rfl, Nat.le_of_ble_eq_true rfl⟩ rfl hl.1 rfl (Nat.le_of_ble_eq_true rfl) dL_isWell_395 ⟨Nat.le_of_ble_eq_true rfl, Nat.le_of_ble_eq_true rfl⟩ ?_; clear hP hD hS; intro H locs hP hD hS
          refine lv_iadd hx hb dL_isWell_398 ?_
          refine lv_icmp_gt (tgt := 544) hx hb dL_isWell_399 (by decide) (fun c72 => ?_) (fun c72 => ?_)
          · replace h := ite_t c72 h
            refine lv_iconst (v := 0) hx hb dL_isWell_544 (by decide) ?_
            replace h := Option.some.inj h
            exact hret _ _ _ _ _ _ _ _ (Nat.le_of_ble_eq_true rfl) (Nat.le_of_ble_eq_true rfl) dL_isWell_545 rfl (by rw [← h] <;> rfl) (by rw [← h]; exact hP.sub [0, 1, 2, 3, 4, 5, 6, 7, 8, 9, 10] rfl) hS
          · replace h := ite_f c72 h
            refine lv_aload hx hb dL_isWell_402 (lv_at hl 5 rfl) ?_
            refine lv_iconst (v := 0) hx hb dL_isWell_404 (by decide) ?_
            replace h := gd h; obtain ⟨g73, h⟩ := h
            refine aldI (q0 := 11) C hE hP rfl g73 dL_isWell_405 ?_
            refine lv_iconst (v := 3) hx hb dL_isWell_406 (by decide) ?_
            refine lv_icmp_gt (tgt := 544) hx hb dL_isWell_407 (by decide) (fun c74 => ?_) (fun c74 => ?_)
            · replace h := ite_t c74 h
              refine lv_iconst (v := 0) hx hb dL_isWell_544 (by decide) ?_
              replace h := Option.some.inj h
              exact hret _ _ _ _ _ _ _ _ (Nat.le_of_ble_eq_true rfl) (Nat.le_of_ble_eq_true rfl) dL_isWell_545 rfl (by rw [← h] <;> rfl) (by rw [← h]; exact hP.sub [0, 1, 2, 3, 4, 5, 6, 7, 8, 9, 10] rfl) hS
            · replace h := ite_f c74 h
              refine lv_aload hx hb dL_isWell_410 (lv_at hl 5 rfl) ?_
              refine lv_iconst (v := 1) hx hb dL_isWell_412 (by decide) ?_
              replace h := gd h; obtain ⟨g75, h⟩ := h
              refine aldI (q0 := 11) C hE hP rfl g75 dL_isWell_413 ?_
              refine lv_iconst (v := 3) hx hb dL_isWell_414 (by decide) ?_
              refine lv_icmp_gt (tgt := 544) hx hb dL_isWell_415 (by decide) (fun c76 => ?_) (fun c76 => ?_)
              · replace h := ite_t c76 h
                refine lv_iconst (v := 0) hx hb dL_isWell_544 (by decide) ?_
                replace h := Option.some.inj h
                exact hret _ _ _ _ _ _ _ _ (Nat.le_of_ble_eq_true rfl) (Nat.le_of_ble_eq_true rfl) dL_isWell_545 rfl (by rw [← h] <;> rfl) (by rw [← h]; exact hP.sub [0, 1, 2, 3, 4, 5, 6, 7, 8, 9, 10] rfl) hS
              · replace h := ite_f c76 h
                refine lv_aload hx hb dL_isWell_418 (lv_at hl 5 rfl) ?_
                refine lv_iconst (v := 0) hx hb dL_isWell_420 (by decide) ?_
                replace h := gd h; obtain ⟨g77, h⟩ := h
                refine aldI (q0 := 11) C hE hP rfl g77 dL_isWell_421 ?_
                refine lv_aload hx hb dL_isWell_422 (lv_at hl 5 rfl) ?_
                refine lv_iconst (v := 1) hx hb dL_isWell_424 (by decide) ?_
                replace h := gd h; obtain ⟨g78, h⟩ := h
                refine aldI (q0 := 11) C hE hP rfl g78 dL_isWell_425 ?_
                refine lv_iadd hx hb dL_isWell_426 ?_
                refine lv_aload_n hx hb dL_isWell_427 rfl (lv_at hl 1 rfl) ?_
                refine lv_bipush (v := 10) hx hb dL_isWell_428 (by decide) ?_
                replace h := bnd h; obtain ⟨q79, e80, h⟩ := h
                refine wrVi (ws1 := [(a_g, .inr (1, [.ref a_gw, .ref a_gk])), (a_r, .inr (4, [.ref a_g, .ref a_rs, .ref a_rl, .ref a_ro])), (a_f, .inr (0, [.ref a_g, .int f_net])), (a_t, .inr (5, [.ref a_ti, .ref a_tn, .int t_len, .int t_cur, .int t_kin, .int t_tol, .int t_don])), (a_h, .inr (2, [.ref a_hp, .int h_old, .int h_siz])), (a_x, .inr (7, [.ref a_g, .ref a_b, .ref a_v, .ref a_h, .ref a_r, .ref a_f, .ref a_u, .ref a_t, .ref a_n, .int x_sav, .int x_err, .int x_rea, .int x_det, .int x_com])), (a_gw, .inl (T 0, 90, .inl v_gw)), (a_gk, .inl (T 0, 18, .inl v_gk)), (a_rs, .inl (T 0, 45, .inl v_rs)), (a_rl, .inl (T 0, 45, .inl v_rl)), (a_ro, .inl (T 1, 45, .inl v_ro)), (a_p0, .inl (T 0, 2, .inl v_p0)), (a_p1, .inl (T 0, 2, .inl v_p1))]) C hE hP hD hS hA (kX7_account_n l D T a_g a_gw a_gk a_t a_ti a_tn a_h a_hp a_x a_b a_v a_r a_f a_u a_n t_len t_cur t_kin t_tol t_don h_old h_siz x_sav x_err x_rea x_det x_com v_gw v_gk 10 _ q79 e80) mX7_account qLL_105 [0, 3, 4, 5, 6, 7] [1, 2, 8, 9, 10, 11, 12] 5 rfl rfl rfl rfl rfl rfl rfl rfl rfl ⟨rfl, rfl⟩ ⟨Nat.le_of_ble_eq_true rfl, Nat.le_of_ble_eq_true rfl⟩ rfl hl.1 rfl (Nat.le_of_ble_eq_true rfl) dL_isWell_430 ⟨Nat.le_of_ble_eq_true rfl, Nat.le_of_ble_eq_true rfl⟩ ?_; clear hP hD hS; intro H locs hP hD hS
                refine lv_icmp_ne (tgt := 544) hx hb dL_isWell_433 (by decide) (fun c81 => ?_) (fun c81 => ?_)
                · replace h := ite_f c81 h
                  refine lv_iconst (v := 0) hx hb dL_isWell_544 (by decide) ?_
                  replace h := Option.some.inj h
                  exact hret _ _ _ _ _ _ _ _ (Nat.le_of_ble_eq_true rfl) (Nat.le_of_ble_eq_true rfl) dL_isWell_545 rfl (by rw [← h] <;> rfl) (by rw [← h]; exact hP.sub [0, 1, 2, 3, 4, 5, 6, 7, 8, 9, 10] rfl) hS
                · replace h := ite_t c81 h
                  refine lv_aload hx hb dL_isWell_436 (lv_at hl 6 rfl) ?_
                  refine lv_iconst (v := 0) hx hb dL_isWell_438 (by decide) ?_
                  replace h := gd h; obtain ⟨g82, h⟩ := h
                  refine aldI (q0 := 12) C hE hP rfl g82 dL_isWell_439 ?_
                  refine lv_aload_n hx hb dL_isWell_440 rfl (lv_at hl 1 rfl) ?_
                  refine lv_iconst (v := 0) hx hb dL_isWell_441 (by decide) ?_
                  replace h := bnd h; obtain ⟨q83, e84, h⟩ := h
                  refine wrVi (ws1 := [(a_g, .inr (1, [.ref a_gw, .ref a_gk])), (a_r, .inr (4, [.ref a_g, .ref a_rs, .ref a_rl, .ref a_ro])), (a_f, .inr (0, [.ref a_g, .int f_net])), (a_t, .inr (5, [.ref a_ti, .ref a_tn, .int t_len, .int t_cur, .int t_kin, .int t_tol, .int t_don])), (a_h, .inr (2, [.ref a_hp, .int h_old, .int h_siz])), (a_x, .inr (7, [.ref a_g, .ref a_b, .ref a_v, .ref a_h, .ref a_r, .ref a_f, .ref a_u, .ref a_t, .ref a_n, .int x_sav, .int x_err, .int x_rea, .int x_det, .int x_com])), (a_gw, .inl (T 0, 90, .inl v_gw)), (a_gk, .inl (T 0, 18, .inl v_gk)), (a_rs, .inl (T 0, 45, .inl v_rs)), (a_rl, .inl (T 0, 45, .inl v_rl)), (a_ro, .inl (T 1, 45, .inl v_ro)), (a_p0, .inl (T 0, 2, .inl v_p0)), (a_p1, .inl (T 0, 2, .inl v_p1))]) C hE hP hD hS hA (kX7_beside_n l D T a_g a_gw a_gk a_x a_b a_v a_h a_r a_f a_u a_t a_n x_sav x_err x_rea x_det x_com v_gw v_gk 0 _ q83 e84) mX7_beside qLL_182 [0, 5, 6, 7] [1, 2, 3, 4, 8, 9, 10, 11, 12] 5 rfl rfl rfl rfl rfl rfl rfl rfl rfl ⟨rfl, rfl⟩ ⟨Nat.le_of_ble_eq_true rfl, Nat.le_of_ble_eq_true rfl⟩ rfl hl.1 rfl (Nat.le_of_ble_eq_true rfl) dL_isWell_442 ⟨Nat.le_of_ble_eq_true rfl, Nat.le_of_ble_eq_true rfl⟩ ?_; clear hP hD hS; intro H locs hP hD hS
                  refine lv_icmp_ne (tgt := 544) hx hb dL_isWell_445 (by decide) (fun c85 => ?_) (fun c85 => ?_)
                  · replace h := ite_f c85 h
                    refine lv_iconst (v := 0) hx hb dL_isWell_544 (by decide) ?_
                    replace h := Option.some.inj h
                    exact hret _ _ _ _ _ _ _ _ (Nat.le_of_ble_eq_true rfl) (Nat.le_of_ble_eq_true rfl) dL_isWell_545 rfl (by rw [← h] <;> rfl) (by rw [← h]; exact hP.sub [0, 1, 2, 3, 4, 5, 6, 7, 8, 9, 10] rfl) hS
                  · replace h := ite_t c85 h
                    refine lv_aload hx hb dL_isWell_448 (lv_at hl 6 rfl) ?_
                    refine lv_iconst (v := 1) hx hb dL_isWell_450 (by decide) ?_
                    replace h := gd h; obtain ⟨g86, h⟩ := h
                    refine aldI (q0 := 12) C hE hP rfl g86 dL_isWell_451 ?_
                    refine lv_aload_n hx hb dL_isWell_452 rfl (lv_at hl 1 rfl) ?_
                    refine lv_iconst (v := 1) hx hb dL_isWell_453 (by decide) ?_
                    replace h := bnd h; obtain ⟨q87, e88, h⟩ := h
                    refine wrVi (ws1 := [(a_g, .inr (1, [.ref a_gw, .ref a_gk])), (a_r, .inr (4, [.ref a_g, .ref a_rs, .ref a_rl, .ref a_ro])), (a_f, .inr (0, [.ref a_g, .int f_net])), (a_t, .inr (5, [.ref a_ti, .ref a_tn, .int t_len, .int t_cur, .int t_kin, .int t_tol, .int t_don])), (a_h, .inr (2, [.ref a_hp, .int h_old, .int h_siz])), (a_x, .inr (7, [.ref a_g, .ref a_b, .ref a_v, .ref a_h, .ref a_r, .ref a_f, .ref a_u, .ref a_t, .ref a_n, .int x_sav, .int x_err, .int x_rea, .int x_det, .int x_com])), (a_gw, .inl (T 0, 90, .inl v_gw)), (a_gk, .inl (T 0, 18, .inl v_gk)), (a_rs, .inl (T 0, 45, .inl v_rs)), (a_rl, .inl (T 0, 45, .inl v_rl)), (a_ro, .inl (T 1, 45, .inl v_ro)), (a_p0, .inl (T 0, 2, .inl v_p0)), (a_p1, .inl (T 0, 2, .inl v_p1))]) C hE hP hD hS hA (kX7_beside_n l D T a_g a_gw a_gk a_x a_b a_v a_h a_r a_f a_u a_t a_n x_sav x_err x_rea x_det x_com v_gw v_gk 1 _ q87 e88) mX7_beside qLL_182 [0, 5, 6, 7] [1, 2, 3, 4, 8, 9, 10, 11, 12] 5 rfl rfl rfl rfl rfl rfl rfl rfl rfl ⟨rfl, rfl⟩ ⟨Nat.le_of_ble_eq_true rfl, Nat.le_of_ble_eq_true rfl⟩ rfl hl.1 rfl (Nat.le_of_ble_eq_true rfl) dL_isWell_454 ⟨Nat.le_of_ble_eq_true rfl, Nat.le_of_ble_eq_true rfl⟩ ?_; clear hP hD hS; intro H locs hP hD hS
                    refine lv_icmp_ne (tgt := 544) hx hb dL_isWell_457 (by decide) (fun c89 => ?_) (fun c89 => ?_)
                    · replace h := ite_f c89 h
                      refine lv_iconst (v := 0) hx hb dL_isWell_544 (by decide) ?_
                      replace h := Option.some.inj h
                      exact hret _ _ _ _ _ _ _ _ (Nat.le_of_ble_eq_true rfl) (Nat.le_of_ble_eq_true rfl) dL_isWell_545 rfl (by rw [← h] <;> rfl) (by rw [← h]; exact hP.sub [0, 1, 2, 3, 4, 5, 6, 7, 8, 9, 10] rfl) hS
                    · replace h := ite_t c89 h
                      refine lv_aload_n hx hb dL_isWell_460 rfl (lv_at hl 1 rfl) ?_
                      refine lv_iload hx hb dL_isWell_461 (lv_at hl 7 rfl) ?_
                      replace h := bnd h; obtain ⟨q90, e91, h⟩ := h
                      refine wrVi (ws1 := [(a_g, .inr (1, [.ref a_gw, .ref a_gk])), (a_r, .inr (4, [.ref a_g, .ref a_rs, .ref a_rl, .ref a_ro])), (a_f, .inr (0, [.ref a_g, .int f_net])), (a_t, .inr (5, [.ref a_ti, .ref a_tn, .int t_len, .int t_cur, .int t_kin, .int t_tol, .int t_don])), (a_h, .inr (2, [.ref a_hp, .int h_old, .int h_siz])), (a_x, .inr (7, [.ref a_g, .ref a_b, .ref a_v, .ref a_h, .ref a_r, .ref a_f, .ref a_u, .ref a_t, .ref a_n, .int x_sav, .int x_err, .int x_rea, .int x_det, .int x_com])), (a_gw, .inl (T 0, 90, .inl v_gw)), (a_gk, .inl (T 0, 18, .inl v_gk)), (a_rs, .inl (T 0, 45, .inl v_rs)), (a_rl, .inl (T 0, 45, .inl v_rl)), (a_ro, .inl (T 1, 45, .inl v_ro)), (a_p0, .inl (T 0, 2, .inl v_p0)), (a_p1, .inl (T 0, 2, .inl v_p1))]) C hE hP hD hS hA (kX7_tide_n l D T a_x a_g a_b a_v a_h a_r a_f a_u a_t a_n x_sav x_err x_rea x_det x_com l6 _ q90 e91) mX7_tide qLL_185 [5] [0, 1, 2, 3, 4, 6, 7, 8, 9, 10, 11, 12] 5 rfl rfl rfl rfl rfl rfl rfl rfl rfl ⟨rfl, rfl⟩ ⟨Nat.le_of_ble_eq_true rfl, Nat.le_of_ble_eq_true rfl⟩ rfl hl.1 rfl (Nat.le_of_ble_eq_true rfl) dL_isWell_463 ⟨Nat.le_of_ble_eq_true rfl, Nat.le_of_ble_eq_true rfl⟩ ?_; clear hP hD hS; intro H locs hP hD hS
                      refine lv_iload hx hb dL_isWell_466 (lv_at hl 8 rfl) ?_
                      refine lv_icmp_ne (tgt := 544) hx hb dL_isWell_468 (by decide) (fun c92 => ?_) (fun c92 => ?_)
                      · replace h := ite_f c92 h
                        refine lv_iconst (v := 0) hx hb dL_isWell_544 (by decide) ?_
                        replace h := Option.some.inj h
                        exact hret _ _ _ _ _ _ _ _ (Nat.le_of_ble_eq_true rfl) (Nat.le_of_ble_eq_true rfl) dL_isWell_545 rfl (by rw [← h] <;> rfl) (by rw [← h]; exact hP.sub [0, 1, 2, 3, 4, 5, 6, 7, 8, 9, 10] rfl) hS
                      · replace h := ite_t c92 h
                        refine lv_aload_n hx hb dL_isWell_471 rfl (lv_at hl 1 rfl) ?_
                        refine lv_iload hx hb dL_isWell_472 (lv_at hl 7 rfl) ?_
                        replace h := bnd h; obtain ⟨q93, e94, h⟩ := h
                        refine wrVi (ws1 := [(a_g, .inr (1, [.ref a_gw, .ref a_gk])), (a_r, .inr (4, [.ref a_g, .ref a_rs, .ref a_rl, .ref a_ro])), (a_f, .inr (0, [.ref a_g, .int f_net])), (a_t, .inr (5, [.ref a_ti, .ref a_tn, .int t_len, .int t_cur, .int t_kin, .int t_tol, .int t_don])), (a_h, .inr (2, [.ref a_hp, .int h_old, .int h_siz])), (a_x, .inr (7, [.ref a_g, .ref a_b, .ref a_v, .ref a_h, .ref a_r, .ref a_f, .ref a_u, .ref a_t, .ref a_n, .int x_sav, .int x_err, .int x_rea, .int x_det, .int x_com])), (a_gw, .inl (T 0, 90, .inl v_gw)), (a_gk, .inl (T 0, 18, .inl v_gk)), (a_rs, .inl (T 0, 45, .inl v_rs)), (a_rl, .inl (T 0, 45, .inl v_rl)), (a_ro, .inl (T 1, 45, .inl v_ro)), (a_p0, .inl (T 0, 2, .inl v_p0)), (a_p1, .inl (T 0, 2, .inl v_p1))]) C hE hP hD hS hA (kX7_tideAgain_n l D T a_x a_g a_b a_v a_h a_r a_f a_u a_t a_n x_sav x_err x_rea x_det x_com l6 _ q93 e94) mX7_tideAgain qLL_188 [5] [0, 1, 2, 3, 4, 6, 7, 8, 9, 10, 11, 12] 5 rfl rfl rfl rfl rfl rfl rfl rfl rfl ⟨rfl, rfl⟩ ⟨Nat.le_of_ble_eq_true rfl, Nat.le_of_ble_eq_true rfl⟩ rfl hl.1 rfl (Nat.le_of_ble_eq_true rfl) dL_isWell_474 ⟨Nat.le_of_ble_eq_true rfl, Nat.le_of_ble_eq_true rfl⟩ ?_; clear hP hD hS; intro H locs hP hD hS
                        refine lv_iload hx hb dL_isWell_477 (lv_at hl 8 rfl) ?_
                        refine lv_icmp_ne (tgt := 544) hx hb dL_isWell_479 (by decide) (fun c95 => ?_) (fun c95 => ?_)
                        · replace h := ite_f c95 h
                          refine lv_iconst (v := 0) hx hb dL_isWell_544 (by decide) ?_
                          replace h := Option.some.inj h
                          exact hret _ _ _ _ _ _ _ _ (Nat.le_of_ble_eq_true rfl) (Nat.le_of_ble_eq_true rfl) dL_isWell_545 rfl (by rw [← h] <;> rfl) (by rw [← h]; exact hP.sub [0, 1, 2, 3, 4, 5, 6, 7, 8, 9, 10] rfl) hS
                        · replace h := ite_t c95 h
                          refine lv_iload hx hb dL_isWell_482 (lv_at hl 7 rfl) ?_
                          refine lv_bipush (v := 48) hx hb dL_isWell_484 (by decide) ?_
                          refine lv_icmp_gt (tgt := 544) hx hb dL_isWell_486 (by decide) (fun c96 => ?_) (fun c96 => ?_)
                          · replace h := ite_t c96 h
                            refine lv_iconst (v := 0) hx hb dL_isWell_544 (by decide) ?_
                            replace h := Option.some.inj h
                            exact hret _ _ _ _ _ _ _ _ (Nat.le_of_ble_eq_true rfl) (Nat.le_of_ble_eq_true rfl) dL_isWell_545 rfl (by rw [← h] <;> rfl) (by rw [← h]; exact hP.sub [0, 1, 2, 3, 4, 5, 6, 7, 8, 9, 10] rfl) hS
                          · replace h := ite_f c96 h
                            refine lv_aload_n hx hb dL_isWell_489 rfl (lv_at hl 1 rfl) ?_
                            refine lv_iconst (v := 5) hx hb dL_isWell_490 (by decide) ?_
                            replace h := bnd h; obtain ⟨q97, e98, h⟩ := h
                            refine wrVi (ws1 := [(a_g, .inr (1, [.ref a_gw, .ref a_gk])), (a_r, .inr (4, [.ref a_g, .ref a_rs, .ref a_rl, .ref a_ro])), (a_f, .inr (0, [.ref a_g, .int f_net])), (a_t, .inr (5, [.ref a_ti, .ref a_tn, .int t_len, .int t_cur, .int t_kin, .int t_tol, .int t_don])), (a_h, .inr (2, [.ref a_hp, .int h_old, .int h_siz])), (a_x, .inr (7, [.ref a_g, .ref a_b, .ref a_v, .ref a_h, .ref a_r, .ref a_f, .ref a_u, .ref a_t, .ref a_n, .int x_sav, .int x_err, .int x_rea, .int x_det, .int x_com])), (a_gw, .inl (T 0, 90, .inl v_gw)), (a_gk, .inl (T 0, 18, .inl v_gk)), (a_rs, .inl (T 0, 45, .inl v_rs)), (a_rl, .inl (T 0, 45, .inl v_rl)), (a_ro, .inl (T 1, 45, .inl v_ro)), (a_p0, .inl (T 0, 2, .inl v_p0)), (a_p1, .inl (T 0, 2, .inl v_p1))]) C hE hP hD hS hA (kX7_account_n l D T a_g a_gw a_gk a_t a_ti a_tn a_h a_hp a_x a_b a_v a_r a_f a_u a_n t_len t_cur t_kin t_tol t_don h_old h_siz x_sav x_err x_rea x_det x_com v_gw v_gk 5 _ q97 e98) mX7_account qLL_105 [0, 3, 4, 5, 6, 7] [1, 2, 8, 9, 10, 11, 12] 5 rfl rfl rfl rfl rfl rfl rfl rfl rfl ⟨rfl, rfl⟩ ⟨Nat.le_of_ble_eq_true rfl, Nat.le_of_ble_eq_true rfl⟩ rfl hl.1 rfl (Nat.le_of_ble_eq_true rfl) dL_isWell_491 ⟨Nat.le_of_ble_eq_true rfl, Nat.le_of_ble_eq_true rfl⟩ ?_; clear hP hD hS; intro H locs hP hD hS
                            refine lv_if_lt (tgt := 544) hx hb dL_isWell_494 (by decide) (fun c99 => ?_) (fun c99 => ?_)
                            · replace h := ite_t c99 h
                              refine lv_iconst (v := 0) hx hb dL_isWell_544 (by decide) ?_
                              replace h := Option.some.inj h
                              exact hret _ _ _ _ _ _ _ _ (Nat.le_of_ble_eq_true rfl) (Nat.le_of_ble_eq_true rfl) dL_isWell_545 rfl (by rw [← h] <;> rfl) (by rw [← h]; exact hP.sub [0, 1, 2, 3, 4, 5, 6, 7, 8, 9, 10] rfl) hS
                            · replace h := ite_f c99 h
                              refine lv_aload_n hx hb dL_isWell_497 rfl (lv_at hl 1 rfl) ?_
                              refine lv_iconst (v := 5) hx hb dL_isWell_498 (by decide) ?_
                              replace h := bnd h; obtain ⟨q100, e101, h⟩ := h
                              refine wrVi (ws1 := [(a_g, .inr (1, [.ref a_gw, .ref a_gk])), (a_r, .inr (4, [.ref a_g, .ref a_rs, .ref a_rl, .ref a_ro])), (a_f, .inr (0, [.ref a_g, .int f_net])), (a_t, .inr (5, [.ref a_ti, .ref a_tn, .int t_len, .int t_cur, .int t_kin, .int t_tol, .int t_don])), (a_h, .inr (2, [.ref a_hp, .int h_old, .int h_siz])), (a_x, .inr (7, [.ref a_g, .ref a_b, .ref a_v, .ref a_h, .ref a_r, .ref a_f, .ref a_u, .ref a_t, .ref a_n, .int x_sav, .int x_err, .int x_rea, .int x_det, .int x_com])), (a_gw, .inl (T 0, 90, .inl v_gw)), (a_gk, .inl (T 0, 18, .inl v_gk)), (a_rs, .inl (T 0, 45, .inl v_rs)), (a_rl, .inl (T 0, 45, .inl v_rl)), (a_ro, .inl (T 1, 45, .inl v_ro)), (a_p0, .inl (T 0, 2, .inl v_p0)), (a_p1, .inl (T 0, 2, .inl v_p1))]) C hE hP hD hS hA (kX7_account_n l D T a_g a_gw a_gk a_t a_ti a_tn a_h a_hp a_x a_b a_v a_r a_f a_u a_n t_len t_cur t_kin t_tol t_don h_old h_siz x_sav x_err x_rea x_det x_com v_gw v_gk 5 _ q100 e101) mX7_account qLL_105 [0, 3, 4, 5, 6, 7] [1, 2, 8, 9, 10, 11, 12] 5 rfl rfl rfl rfl rfl rfl rfl rfl rfl ⟨rfl, rfl⟩ ⟨Nat.le_of_ble_eq_true rfl, Nat.le_of_ble_eq_true rfl⟩ rfl hl.1 rfl (Nat.le_of_ble_eq_true rfl) dL_isWell_499 ⟨Nat.le_of_ble_eq_true rfl, Nat.le_of_ble_eq_true rfl⟩ ?_; clear hP hD hS; intro H locs hP hD hS
                              refine lv_bipush (v := 45) hx hb dL_isWell_502 (by decide) ?_
                              refine lv_icmp_ge (tgt := 544) hx hb dL_isWell_504 (by decide) (fun c102 => ?_) (fun c102 => ?_)
                              · replace h := ite_t c102 h
                                refine lv_iconst (v := 0) hx hb dL_isWell_544 (by decide) ?_
                                replace h := Option.some.inj h
                                exact hret _ _ _ _ _ _ _ _ (Nat.le_of_ble_eq_true rfl) (Nat.le_of_ble_eq_true rfl) dL_isWell_545 rfl (by rw [← h] <;> rfl) (by rw [← h]; exact hP.sub [0, 1, 2, 3, 4, 5, 6, 7, 8, 9, 10] rfl) hS
                              · replace h := ite_f c102 h
                                refine lv_aload_n hx hb dL_isWell_507 rfl (lv_at hl 1 rfl) ?_
                                replace h := bnd h; obtain ⟨q103, e104, h⟩ := h
                                refine rdV C hE hP (kX7_leader l D T a_g a_gw a_gk a_x a_b a_v a_h a_r a_f a_u a_t a_n x_sav x_err x_rea x_det x_com v_gk q103 e104) mX7_leader qLL_191 [0, 5, 7] 5 rfl rfl rfl rfl ⟨rfl, rfl⟩ ⟨Nat.le_of_ble_eq_true rfl, Nat.le_of_ble_eq_true rfl⟩ rfl hl.1 rfl (Nat.le_of_ble_eq_true rfl) dL_isWell_508 ⟨Nat.le_of_ble_eq_true rfl, Nat.le_of_ble_eq_true rfl⟩ ?_
                                refine lv_iload hx hb dL_isWell_511 (lv_at hl 0 rfl) ?_
                                refine lv_if_ne (tgt := 520) hx hb dL_isWell_513 (by decide) (fun c105 => ?_) (fun c105 => ?_)
                                · rw [if_neg c105] at h
                                  refine lv_iload hx hb dL_isWell_520 (lv_at hl 0 rfl) ?_
                                  refine lv_if_le (tgt := 529) hx hb dL_isWell_522 (by decide) (fun c106 => ?_) (fun c106 => ?_)
                                  · rw [if_pos c106] at h
                                    refine lv_iconst (v := 1) hx hb dL_isWell_529 (by decide) ?_
                                    exact lL_isWell_530 C hE hA hZ hret q103 1 f_net v_rs v_rl v_ro v_p0 v_p1 ⟨hP, hD⟩ hS _ (lv_sub hl [1] rfl) h
                                  · rw [if_neg c106] at h
                                    refine lv_iconst (v := 0) hx hb dL_isWell_525 (by decide) ?_
                                    refine lv_goto (tgt := 530) hx hb dL_isWell_526 (by decide) ?_
                                    exact lL_isWell_530 C hE hA hZ hret q103 0 f_net v_rs v_rl v_ro v_p0 v_p1 ⟨hP, hD⟩ hS _ (lv_sub hl [1] rfl) h
                                · rw [if_pos c105] at h
                                  refine lv_iconst (v := (-1)) hx hb dL_isWell_516 (by decide) ?_
                                  refine lv_goto (tgt := 530) hx hb dL_isWell_517 (by decide) ?_
                                  exact lL_isWell_530 C hE hA hZ hret q103 (-1) f_net v_rs v_rl v_ro v_p0 v_p1 ⟨hP, hD⟩ hS _ (lv_sub hl [1] rfl) h
    · replace h := ite_f c57 h
      refine lv_aload_n hx hb dL_isWell_312 rfl (lv_at hl 0 rfl) ?_
      refine lv_iload hx hb dL_isWell_313 (lv_at hl 8 rfl) ?_
      replace h := bnd h; obtain ⟨q107, e108, h⟩ := h
      refine wrVi (ws1 := [(a_g, .inr (1, [.ref a_gw, .ref a_gk])), (a_r, .inr (4, [.ref a_g, .ref a_rs, .ref a_rl, .ref a_ro])), (a_f, .inr (0, [.ref a_g, .int f_net])), (a_t, .inr (5, [.ref a_ti, .ref a_tn, .int t_len, .int t_cur, .int t_kin, .int t_tol, .int t_don])), (a_h, .inr (2, [.ref a_hp, .int h_old, .int h_siz])), (a_x, .inr (7, [.ref a_g, .ref a_b, .ref a_v, .ref a_h, .ref a_r, .ref a_f, .ref a_u, .ref a_t, .ref a_n, .int x_sav, .int x_err, .int x_rea, .int x_det, .int x_com])), (a_gw, .inl (T 0, 90, .inl v_gw)), (a_gk, .inl (T 0, 18, .inl v_gk)), (a_rs, .inl (T 0, 45, .inl v_rs)), (a_rl, .inl (T 0, 45, .inl v_rl)), (a_ro, .inl (T 1, 45, .inl v_ro)), (a_p0, .inl (T 0, 2, .inl v_p0)), (a_p1, .inl (T 0, 2, .inl v_p1))]) C hE hP hD hS hA (kX7_isDry_n l D T a_g a_gw a_gk a_x a_b a_v a_h a_r a_f a_u a_t a_n x_sav x_err x_rea x_det x_com v_gk l8 _ q107 e108) mX7_isDry qLL_179 [0, 5, 7] [1, 2, 3, 4, 6, 8, 9, 10, 11, 12] 5 rfl rfl rfl rfl rfl rfl rfl rfl rfl ⟨rfl, rfl⟩ ⟨Nat.le_of_ble_eq_true rfl, Nat.le_of_ble_eq_true rfl⟩ rfl hl.1 rfl (Nat.le_of_ble_eq_true rfl) dL_isWell_315 ⟨Nat.le_of_ble_eq_true rfl, Nat.le_of_ble_eq_true rfl⟩ ?_; clear hP hD hS; intro H locs hP hD hS
      refine lv_iload hx hb dL_isWell_318 (lv_at hl 7 rfl) ?_
      refine lv_iconst (v := 3) hx hb dL_isWell_320 (by decide) ?_
      refine lv_icmp_ge (tgt := 342) hx hb dL_isWell_321 (by decide) (fun c109 => ?_) (fun c109 => ?_)
      · rw [if_pos c109] at h
        refine lv_iconst (v := 0) hx hb dL_isWell_342 (by decide) ?_
        exact lL_isWell_343 C hE hA hZ hret ih q107 0 l1 l2 l3 l6 l7 l8 f_net v_rs v_rl v_ro v_p0 v_p1 ⟨hP, hD⟩ hS _ (lv_sub hl [0, 1, 2, 3, 4, 5, 6, 7, 8] rfl) h
      · rw [if_neg c109] at h
        refine lv_iload hx hb dL_isWell_324 (lv_at hl 8 rfl) ?_
        refine lv_bipush (v := 9) hx hb dL_isWell_326 (by decide) ?_
        refine lv_icmp_lt (tgt := 338) hx hb dL_isWell_328 (by decide) (fun c110 => ?_) (fun c110 => ?_)
        · rw [if_pos c110] at h
          refine lv_iconst (v := 1) hx hb dL_isWell_338 (by decide) ?_
          refine lv_goto (tgt := 343) hx hb dL_isWell_339 (by decide) ?_
          exact lL_isWell_343 C hE hA hZ hret ih q107 1 l1 l2 l3 l6 l7 l8 f_net v_rs v_rl v_ro v_p0 v_p1 ⟨hP, hD⟩ hS _ (lv_sub hl [0, 1, 2, 3, 4, 5, 6, 7, 8] rfl) h
        · rw [if_neg c110] at h
          refine lv_iload hx hb dL_isWell_331 (lv_at hl 8 rfl) ?_
          refine lv_bipush (v := 35) hx hb dL_isWell_333 (by decide) ?_
          refine lv_icmp_le (tgt := 342) hx hb dL_isWell_335 (by decide) (fun c111 => ?_) (fun c111 => ?_)
          · rw [if_pos c111] at h
            refine lv_iconst (v := 0) hx hb dL_isWell_342 (by decide) ?_
            exact lL_isWell_343 C hE hA hZ hret ih q107 0 l1 l2 l3 l6 l7 l8 f_net v_rs v_rl v_ro v_p0 v_p1 ⟨hP, hD⟩ hS _ (lv_sub hl [0, 1, 2, 3, 4, 5, 6, 7, 8] rfl) h
          · rw [if_neg c111] at h
            refine lv_iconst (v := 1) hx hb dL_isWell_338 (by decide) ?_
            refine lv_goto (tgt := 343) hx hb dL_isWell_339 (by decide) ?_
            exact lL_isWell_343 C hE hA hZ hret ih q107 1 l1 l2 l3 l6 l7 l8 f_net v_rs v_rl v_ro v_p0 v_p1 ⟨hP, hD⟩ hS _ (lv_sub hl [0, 1, 2, 3, 4, 5, 6, 7, 8] rfl) h
set_option maxHeartbeats 4000000 in
set_option maxRecDepth 100000 in
theorem lL_isWell_39 {p : Program} {l : Launch} {e : Env} {s : State} {m : MethodId} {args : Array Value} {below : List Frame} {meth : Method} {c : Code} {Q : State → Prop} {D : va_G} {T : Nat → ClassId} {a_g a_gw a_gk a_r a_rs a_rl a_ro a_f a_t a_ti a_tn a_h a_hp a_x a_b a_v a_u a_n a_p0 a_p1 : Nat} {t_len : Int32} {t_cur : Int32} {t_kin : Int32} {t_tol : Int32} {t_don : Int32} {h_old : Int32} {h_siz : Int32} {x_sav : Int32} {x_err : Int32} {x_rea : Int32} {x_det : Int32} {x_com : Int32} {v_gw : Nat → Int32} {v_gk : Nat → Int32} {A : Nat → Prop} {r : Int32 × Int32 × (Nat → Int32) × (Nat → Int32) × (Nat → Int32) × (Nat → Int32) × (Nat → Int32)} (C : CallFix p m c cL_isWell 13 s args aw RL) (hE : eK D T s) (hA : ∀ q : Nat, s.heap.size ≤ q → A q) (hZ : eX l A s) (hret : LnRet p l e ({ frames := 7, cells := 2, slots := 4, locals := 158 } : Room) s m args below meth c Q cL_isWell .boolean D A [(a_g, .inr (1, [.ref a_gw, .ref a_gk])), (a_r, .inr (4, [.ref a_g, .ref a_rs, .ref a_rl, .ref a_ro])), (a_f, .inr (0, [.ref a_g, .int r.2.1])), (a_t, .inr (5, [.ref a_ti, .ref a_tn, .int t_len, .int t_cur, .int t_kin, .int t_tol, .int t_don])), (a_h, .inr (2, [.ref a_hp, .int h_old, .int h_siz])), (a_x, .inr (7, [.ref a_g, .ref a_b, .ref a_v, .ref a_h, .ref a_r, .ref a_f, .ref a_u, .ref a_t, .ref a_n, .int x_sav, .int x_err, .int x_rea, .int x_det, .int x_com])), (a_gw, .inl (T 0, 90, .inl v_gw)), (a_gk, .inl (T 0, 18, .inl v_gk)), (a_rs, .inl (T 0, 45, .inl r.2.2.1)), (a_rl, .inl (T 0, 45, .inl r.2.2.2.1)), (a_ro, .inl (T 1, 45, .inl r.2.2.2.2.1))] r.1) : ∀ (k : Nat) (l1 : Int32) (l2 : Int32) (l3 : Int32) (l6 : Int32) (l7 : Int32) (l8 : Int32) (f_net : Int32) (v_rs : Nat → Int32) (v_rl : Nat → Int32) (v_ro : Nat → Int32) (v_p0 : Nat → Int32) (v_p1 : Nat → Int32) {H : Heap} {locs : List Loc} (hPD : va_PD D A [(a_g, .inr (1, [.ref a_gw, .ref a_gk])), (a_r, .inr (4, [.ref a_g, .ref a_rs, .ref a_rl, .ref a_ro])), (a_f, .inr (0, [.ref a_g, .int f_net])), (a_t, .inr (5, [.ref a_ti, .ref a_tn, .int t_len, .int t_cur, .int t_kin, .int t_tol, .int t_don])), (a_h, .inr (2, [.ref a_hp, .int h_old, .int h_siz])), (a_x, .inr (7, [.ref a_g, .ref a_b, .ref a_v, .ref a_h, .ref a_r, .ref a_f, .ref a_u, .ref a_t, .ref a_n, .int x_sav, .int x_err, .int x_rea, .int x_det, .int x_com])), (a_gw, .inl (T 0, 90, .inl v_gw)), (a_gk, .inl (T 0, 18, .inl v_gk)), (a_rs, .inl (T 0, 45, .inl v_rs)), (a_rl, .inl (T 0, 45, .inl v_rl)), (a_ro, .inl (T 1, 45, .inl v_ro)), (a_p0, .inl (T 0, 2, .inl v_p0)), (a_p1, .inl (T 0, 2, .inl v_p1))] H) (hS : va_S A s.heap H locs) (ls : Array Slot) (hl : lv_has ls 13 [(0, .ref a_x), (1, .int l1), (2, .int l2), (3, .int l3), (4, .ref a_p0), (5, .ref a_p1), (6, .int l6), (7, .int l7), (8, .int l8)]) (h : fL_isWell_39 t_len h_siz v_gw v_gk k l1 l2 l3 l6 l7 l8 f_net v_rs v_rl v_ro v_p0 v_p1 = some r), W p l e ({ frames := 7, cells := 2, slots := 4, locals := 158 } : Room) s m args below meth c H locs 2 4 Q (F0 m 39 ls []) := by
  have hx := C.1
  have hb := C.2.1
  intro k
  induction k with
  | zero =>
    intro l1 l2 l3 l6 l7 l8 f_net v_rs v_rl v_ro v_p0 v_p1 H locs hPD hS ls hl h
    exact nomatch (show (none : Option (Int32 × Int32 × (Nat → Int32) × (Nat → Int32) × (Nat → Int32) × (Nat → Int32) × (Nat → Int32))) = some r from h)
  | succ k ih =>
    intro l1 l2 l3 l6 l7 l8 f_net v_rs v_rl v_ro v_p0 v_p1 H locs hPD hS ls hl h
    obtain ⟨hP, hD⟩ := hPD
    rw [fL_isWell_39] at h
    refine lv_iload hx hb dL_isWell_39 (lv_at hl 8 rfl) ?_
    refine lv_aload_n hx hb dL_isWell_41 rfl (lv_at hl 0 rfl) ?_
    refine lv_iconst (v := 0) hx hb dL_isWell_42 (by decide) ?_
    replace h := bnd h; obtain ⟨q3, e4, h⟩ := h
    refine wrVi (ws1 := [(a_g, .inr (1, [.ref a_gw, .ref a_gk])), (a_r, .inr (4, [.ref a_g, .ref a_rs, .ref a_rl, .ref a_ro])), (a_f, .inr (0, [.ref a_g, .int f_net])), (a_t, .inr (5, [.ref a_ti, .ref a_tn, .int t_len, .int t_cur, .int t_kin, .int t_tol, .int t_don])), (a_h, .inr (2, [.ref a_hp, .int h_old, .int h_siz])), (a_x, .inr (7, [.ref a_g, .ref a_b, .ref a_v, .ref a_h, .ref a_r, .ref a_f, .ref a_u, .ref a_t, .ref a_n, .int x_sav, .int x_err, .int x_rea, .int x_det, .int x_com])), (a_gw, .inl (T 0, 90, .inl v_gw)), (a_gk, .inl (T 0, 18, .inl v_gk)), (a_rs, .inl (T 0, 45, .inl v_rs)), (a_rl, .inl (T 0, 45, .inl v_rl)), (a_ro, .inl (T 1, 45, .inl v_ro)), (a_p0, .inl (T 0, 2, .inl v_p0)), (a_p1, .inl (T 0, 2, .inl v_p1))]) C hE hP hD hS hA (kX7_account_n l D T a_g a_gw a_gk a_t a_ti a_tn a_h a_hp a_x a_b a_v a_r a_f a_u a_n t_len t_cur t_kin t_tol t_don h_old h_siz x_sav x_err x_rea x_det x_com v_gw v_gk 0 _ q3 e4) mX7_account qLL_105 [0, 3, 4, 5, 6, 7] [1, 2, 8, 9, 10, 11, 12] 5 rfl rfl rfl rfl rfl rfl rfl rfl rfl ⟨rfl, rfl⟩ ⟨Nat.le_of_ble_eq_true rfl, Nat.le_of_ble_eq_true rfl⟩ rfl hl.1 rfl (Nat.le_of_ble_eq_true rfl) dL_isWell_43 ⟨Nat.le_of_ble_eq_true rfl, Nat.le_of_ble_eq_true rfl⟩ ?_; clear hP hD hS; intro H locs hP hD hS
    refine lv_icmp_ge (tgt := 302) hx hb dL_isWell_46 (by decide) (fun c5 => ?_) (fun c5 => ?_)
    · replace h := ite_t c5 h
      refine lv_iconst (v := 0) hx hb dL_isWell_302 (by decide) ?_
      refine lv_istore (lv' := [(8, .int 0), (0, .ref a_x), (1, .int l1), (2, .int l2), (3, .int l3), (4, .ref a_p0), (5, .ref a_p1), (6, .int l6), (7, .int l7)]) hx hb dL_isWell_303 hl (by decide) rfl (fun ls hl => ?_)
      exact lL_isWell_305 C hE hA hZ hret 64 l1 l2 l3 l6 l7 0 f_net v_rs v_rl v_ro v_p0 v_p1 ⟨hP, hD⟩ hS _ (lv_sub hl [1, 2, 3, 4, 5, 6, 7, 8, 0] rfl) h
    · replace h := ite_f c5 h
      refine lv_aload_n hx hb dL_isWell_49 rfl (lv_at hl 0 rfl) ?_
      refine lv_iload hx hb dL_isWell_50 (lv_at hl 8 rfl) ?_
      refine lv_iconst (v := 4) hx hb dL_isWell_52 (by decide) ?_
      replace h := bnd h; obtain ⟨q6, e7, h⟩ := h
      refine wrVi (ws1 := [(a_g, .inr (1, [.ref a_gw, .ref a_gk])), (a_r, .inr (4, [.ref a_g, .ref a_rs, .ref a_rl, .ref a_ro])), (a_f, .inr (0, [.ref a_g, .int f_net])), (a_t, .inr (5, [.ref a_ti, .ref a_tn, .int t_len, .int t_cur, .int t_kin, .int t_tol, .int t_don])), (a_h, .inr (2, [.ref a_hp, .int h_old, .int h_siz])), (a_x, .inr (7, [.ref a_g, .ref a_b, .ref a_v, .ref a_h, .ref a_r, .ref a_f, .ref a_u, .ref a_t, .ref a_n, .int x_sav, .int x_err, .int x_rea, .int x_det, .int x_com])), (a_gw, .inl (T 0, 90, .inl v_gw)), (a_gk, .inl (T 0, 18, .inl v_gk)), (a_rs, .inl (T 0, 45, .inl v_rs)), (a_rl, .inl (T 0, 45, .inl v_rl)), (a_ro, .inl (T 1, 45, .inl v_ro)), (a_p0, .inl (T 0, 2, .inl v_p0)), (a_p1, .inl (T 0, 2, .inl v_p1))]) C hE hP hD hS hA (kX7_whaleOf_n l D T a_g a_gw a_gk a_x a_b a_v a_h a_r a_f a_u a_t a_n x_sav x_err x_rea x_det x_com v_gw v_gk l8 4 _ q6 e7) mX7_whaleOf qLL_120 [0, 5, 6, 7] [1, 2, 3, 4, 8, 9, 10, 11, 12] 5 rfl rfl rfl rfl rfl rfl rfl rfl rfl ⟨rfl, rfl⟩ ⟨Nat.le_of_ble_eq_true rfl, Nat.le_of_ble_eq_true rfl⟩ rfl hl.1 rfl (Nat.le_of_ble_eq_true rfl) dL_isWell_53 ⟨Nat.le_of_ble_eq_true rfl, Nat.le_of_ble_eq_true rfl⟩ ?_; clear hP hD hS; intro H locs hP hD hS
      refine lv_istore (lv' := [(9, .int q6), (0, .ref a_x), (1, .int l1), (2, .int l2), (3, .int l3), (4, .ref a_p0), (5, .ref a_p1), (6, .int l6), (7, .int l7), (8, .int l8)]) hx hb dL_isWell_56 hl (by decide) rfl (fun ls hl => ?_)
      refine lv_aload_n hx hb dL_isWell_58 rfl (lv_at hl 1 rfl) ?_
      refine lv_iload hx hb dL_isWell_59 (lv_at hl 9 rfl) ?_
      refine lv_iconst (v := 0) hx hb dL_isWell_61 (by decide) ?_
      replace h := bnd h; obtain ⟨q8, e9, h⟩ := h
      refine wrVi (ws1 := [(a_g, .inr (1, [.ref a_gw, .ref a_gk])), (a_r, .inr (4, [.ref a_g, .ref a_rs, .ref a_rl, .ref a_ro])), (a_f, .inr (0, [.ref a_g, .int f_net])), (a_t, .inr (5, [.ref a_ti, .ref a_tn, .int t_len, .int t_cur, .int t_kin, .int t_tol, .int t_don])), (a_h, .inr (2, [.ref a_hp, .int h_old, .int h_siz])), (a_x, .inr (7, [.ref a_g, .ref a_b, .ref a_v, .ref a_h, .ref a_r, .ref a_f, .ref a_u, .ref a_t, .ref a_n, .int x_sav, .int x_err, .int x_rea, .int x_det, .int x_com])), (a_gw, .inl (T 0, 90, .inl v_gw)), (a_gk, .inl (T 0, 18, .inl v_gk)), (a_rs, .inl (T 0, 45, .inl v_rs)), (a_rl, .inl (T 0, 45, .inl v_rl)), (a_ro, .inl (T 1, 45, .inl v_ro)), (a_p0, .inl (T 0, 2, .inl v_p0)), (a_p1, .inl (T 0, 2, .inl v_p1))]) C hE hP hD hS hA (kX7_whaleOf_n l D T a_g a_gw a_gk a_x a_b a_v a_h a_r a_f a_u a_t a_n x_sav x_err x_rea x_det x_com v_gw v_gk l8 0 _ q8 e9) mX7_whaleOf qLL_120 [0, 5, 6, 7] [1, 2, 3, 4, 8, 9, 10, 11, 12] 5 rfl rfl rfl rfl rfl rfl rfl rfl rfl ⟨rfl, rfl⟩ ⟨Nat.le_of_ble_eq_true rfl, Nat.le_of_ble_eq_true rfl⟩ rfl hl.1 rfl (Nat.le_of_ble_eq_true rfl) dL_isWell_62 ⟨Nat.le_of_ble_eq_true rfl, Nat.le_of_ble_eq_true rfl⟩ ?_; clear hP hD hS; intro H locs hP hD hS
      refine lv_istore (lv' := [(10, .int q8), (9, .int q6), (0, .ref a_x), (1, .int l1), (2, .int l2), (3, .int l3), (4, .ref a_p0), (5, .ref a_p1), (6, .int l6), (7, .int l7), (8, .int l8)]) hx hb dL_isWell_65 hl (by decide) rfl (fun ls hl => ?_)
      refine lv_aload hx hb dL_isWell_67 (lv_at hl 6 rfl) ?_
      refine lv_iload hx hb dL_isWell_69 (lv_at hl 0 rfl) ?_
      refine lv_dup2_11 hx hb dL_isWell_71 rfl rfl ?_
      replace h := gd h; obtain ⟨g10, h⟩ := h
      refine aldI (q0 := 11) C hE hP rfl g10 dL_isWell_72 ?_
      refine lv_iload hx hb dL_isWell_73 (lv_at hl 1 rfl) ?_
      refine lv_if_lt (tgt := 82) hx hb dL_isWell_75 (by decide) (fun c11 => ?_) (fun c11 => ?_)
      · rw [if_pos c11] at h
        refine lv_iconst (v := 0) hx hb dL_isWell_82 (by decide) ?_
        exact lL_isWell_83 C hE hA hZ hret ih q8 (v_p0 q8.toNatClampNeg) 0 l1 l2 l3 l6 l7 l8 q6 q8 f_net v_rs v_rl v_ro v_p0 v_p1 ⟨hP, hD⟩ hS _ (lv_sub hl [2, 3, 4, 5, 6, 7, 8, 9, 10, 1, 0] rfl) h
      · rw [if_neg c11] at h
        refine lv_iconst (v := 1) hx hb dL_isWell_78 (by decide) ?_
        refine lv_goto (tgt := 83) hx hb dL_isWell_79 (by decide) ?_
        exact lL_isWell_83 C hE hA hZ hret ih q8 (v_p0 q8.toNatClampNeg) 1 l1 l2 l3 l6 l7 l8 q6 q8 f_net v_rs v_rl v_ro v_p0 v_p1 ⟨hP, hD⟩ hS _ (lv_sub hl [2, 3, 4, 5, 6, 7, 8, 9, 10, 1, 0] rfl) h
set_option maxHeartbeats 4000000 in
set_option maxRecDepth 100000 in
theorem kL_isWell (l : Launch) (hnt : l.stackTraces = false) (D : va_G) (T : Nat → ClassId) (a_g a_gw a_gk a_r a_rs a_rl a_ro a_f a_t a_ti a_tn a_h a_hp a_x a_b a_v a_u a_n : Nat) (f_net : Int32) (t_len : Int32) (t_cur : Int32) (t_kin : Int32) (t_tol : Int32) (t_don : Int32) (h_old : Int32) (h_siz : Int32) (x_sav : Int32) (x_err : Int32) (x_rea : Int32) (x_det : Int32) (x_com : Int32) (v_gw : Nat → Int32) (v_gk : Nat → Int32) (v_rs : Nat → Int32) (v_rl : Nat → Int32) (v_ro : Nat → Int32) (sz : Nat) (r : Int32 × Int32 × (Nat → Int32) × (Nat → Int32) × (Nat → Int32) × (Nat → Int32) × (Nat → Int32)) (h : fL_isWell f_net t_len h_siz v_gw v_gk v_rs v_rl v_ro = some r) : LnI (fun _ => True) l yL_isWell cL_isWell 13 .boolean ({ frames := 7, cells := 2, slots := 4, locals := 158 } : Room) D T sz [(a_g, .inr (1, [.ref a_gw, .ref a_gk])), (a_r, .inr (4, [.ref a_g, .ref a_rs, .ref a_rl, .ref a_ro])), (a_f, .inr (0, [.ref a_g, .int f_net])), (a_t, .inr (5, [.ref a_ti, .ref a_tn, .int t_len, .int t_cur, .int t_kin, .int t_tol, .int t_don])), (a_h, .inr (2, [.ref a_hp, .int h_old, .int h_siz])), (a_x, .inr (7, [.ref a_g, .ref a_b, .ref a_v, .ref a_h, .ref a_r, .ref a_f, .ref a_u, .ref a_t, .ref a_n, .int x_sav, .int x_err, .int x_rea, .int x_det, .int x_com])), (a_gw, .inl (T 0, 90, .inl v_gw)), (a_gk, .inl (T 0, 18, .inl v_gk)), (a_rs, .inl (T 0, 45, .inl v_rs)), (a_rl, .inl (T 0, 45, .inl v_rl)), (a_ro, .inl (T 1, 45, .inl v_ro))] [(a_g, .inr (1, [.ref a_gw, .ref a_gk])), (a_r, .inr (4, [.ref a_g, .ref a_rs, .ref a_rl, .ref a_ro])), (a_f, .inr (0, [.ref a_g, .int r.2.1])), (a_t, .inr (5, [.ref a_ti, .ref a_tn, .int t_len, .int t_cur, .int t_kin, .int t_tol, .int t_don])), (a_h, .inr (2, [.ref a_hp, .int h_old, .int h_siz])), (a_x, .inr (7, [.ref a_g, .ref a_b, .ref a_v, .ref a_h, .ref a_r, .ref a_f, .ref a_u, .ref a_t, .ref a_n, .int x_sav, .int x_err, .int x_rea, .int x_det, .int x_com])), (a_gw, .inl (T 0, 90, .inl v_gw)), (a_gk, .inl (T 0, 18, .inl v_gk)), (a_rs, .inl (T 0, 45, .inl r.2.2.1)), (a_rl, .inl (T 0, 45, .inl r.2.2.2.1)), (a_ro, .inl (T 1, 45, .inl r.2.2.2.2.1))] [.ref a_x] r.1 := by
  unfold fL_isWell at h
  refine lnMet hnt (by decide +kernel) rfl (fun p e s m args below meth c Q A _ C hE hA hZ hJ hP hD hS hret ls hl => ?_)
  have hx := C.1
  have hb := C.2.1
  have hl : lv_has ls 13 [(0, .ref a_x)] := hl
  refine lv_iconst (v := 0) hx hb dL_isWell_0 (by decide) ?_
  refine lv_istore_n (lv' := [(1, .int 0), (0, .ref a_x)]) hx hb dL_isWell_1 rfl hl (by decide) rfl (fun ls hl => ?_)
  refine lv_iconst (v := 0) hx hb dL_isWell_2 (by decide) ?_
  refine lv_istore_n (lv' := [(2, .int 0), (1, .int 0), (0, .ref a_x)]) hx hb dL_isWell_3 rfl hl (by decide) rfl (fun ls hl => ?_)
  refine lv_iconst (v := 0) hx hb dL_isWell_4 (by decide) ?_
  refine lv_istore_n (lv' := [(3, .int 0), (2, .int 0), (1, .int 0), (0, .ref a_x)]) hx hb dL_isWell_5 rfl hl (by decide) rfl (fun ls hl => ?_)
  refine lv_iconst (v := 2) hx hb dL_isWell_6 (by decide) ?_
  refine newA (N := 2) (atype := .int) 0 (2, .inl (fun _ => 0)) C hE hP hD hS hA qAI rfl rfl (fun _ => rfl) (by decide) (by decide) (Nat.le_of_ble_eq_true rfl) (Nat.le_of_ble_eq_true rfl) (Nat.le_of_ble_eq_true rfl) dL_isWell_7 (fun a_p0 H hP hD hS => ?_)
  have hP : va_P D kC [(a_g, .inr (1, [.ref a_gw, .ref a_gk])), (a_r, .inr (4, [.ref a_g, .ref a_rs, .ref a_rl, .ref a_ro])), (a_f, .inr (0, [.ref a_g, .int f_net])), (a_t, .inr (5, [.ref a_ti, .ref a_tn, .int t_len, .int t_cur, .int t_kin, .int t_tol, .int t_don])), (a_h, .inr (2, [.ref a_hp, .int h_old, .int h_siz])), (a_x, .inr (7, [.ref a_g, .ref a_b, .ref a_v, .ref a_h, .ref a_r, .ref a_f, .ref a_u, .ref a_t, .ref a_n, .int x_sav, .int x_err, .int x_rea, .int x_det, .int x_com])), (a_gw, .inl (T 0, 90, .inl v_gw)), (a_gk, .inl (T 0, 18, .inl v_gk)), (a_rs, .inl (T 0, 45, .inl v_rs)), (a_rl, .inl (T 0, 45, .inl v_rl)), (a_ro, .inl (T 1, 45, .inl v_ro)), (a_p0, .inl (T 0, 2, .inl (fun _ => 0)))] H := hP
  have hD : va_D A [(a_g, .inr (1, [.ref a_gw, .ref a_gk])), (a_r, .inr (4, [.ref a_g, .ref a_rs, .ref a_rl, .ref a_ro])), (a_f, .inr (0, [.ref a_g, .int f_net])), (a_t, .inr (5, [.ref a_ti, .ref a_tn, .int t_len, .int t_cur, .int t_kin, .int t_tol, .int t_don])), (a_h, .inr (2, [.ref a_hp, .int h_old, .int h_siz])), (a_x, .inr (7, [.ref a_g, .ref a_b, .ref a_v, .ref a_h, .ref a_r, .ref a_f, .ref a_u, .ref a_t, .ref a_n, .int x_sav, .int x_err, .int x_rea, .int x_det, .int x_com])), (a_gw, .inl (T 0, 90, .inl v_gw)), (a_gk, .inl (T 0, 18, .inl v_gk)), (a_rs, .inl (T 0, 45, .inl v_rs)), (a_rl, .inl (T 0, 45, .inl v_rl)), (a_ro, .inl (T 1, 45, .inl v_ro)), (a_p0, .inl (T 0, 2, .inl (fun _ => 0)))] := hD
  refine W.widen (k := 1) (n := 2) (Nat.le_of_ble_eq_true rfl) (Nat.le_of_ble_eq_true rfl) ?_
  refine lv_astore (lv' := [(4, .ref a_p0), (3, .int 0), (2, .int 0), (1, .int 0), (0, .ref a_x)]) hx hb dL_isWell_9 hl (by decide) rfl (fun ls hl => ?_)
  refine lv_iconst (v := 2) hx hb dL_isWell_11 (by decide) ?_
  refine newA (N := 2) (atype := .int) 0 (2, .inl (fun _ => 0)) C hE hP hD hS hA qAI rfl rfl (fun _ => rfl) (by decide) (by decide) (Nat.le_of_ble_eq_true rfl) (Nat.le_of_ble_eq_true rfl) (Nat.le_of_ble_eq_true rfl) dL_isWell_12 (fun a_p1 H hP hD hS => ?_)
  have hP : va_P D kC [(a_g, .inr (1, [.ref a_gw, .ref a_gk])), (a_r, .inr (4, [.ref a_g, .ref a_rs, .ref a_rl, .ref a_ro])), (a_f, .inr (0, [.ref a_g, .int f_net])), (a_t, .inr (5, [.ref a_ti, .ref a_tn, .int t_len, .int t_cur, .int t_kin, .int t_tol, .int t_don])), (a_h, .inr (2, [.ref a_hp, .int h_old, .int h_siz])), (a_x, .inr (7, [.ref a_g, .ref a_b, .ref a_v, .ref a_h, .ref a_r, .ref a_f, .ref a_u, .ref a_t, .ref a_n, .int x_sav, .int x_err, .int x_rea, .int x_det, .int x_com])), (a_gw, .inl (T 0, 90, .inl v_gw)), (a_gk, .inl (T 0, 18, .inl v_gk)), (a_rs, .inl (T 0, 45, .inl v_rs)), (a_rl, .inl (T 0, 45, .inl v_rl)), (a_ro, .inl (T 1, 45, .inl v_ro)), (a_p0, .inl (T 0, 2, .inl (fun _ => 0))), (a_p1, .inl (T 0, 2, .inl (fun _ => 0)))] H := hP
  have hD : va_D A [(a_g, .inr (1, [.ref a_gw, .ref a_gk])), (a_r, .inr (4, [.ref a_g, .ref a_rs, .ref a_rl, .ref a_ro])), (a_f, .inr (0, [.ref a_g, .int f_net])), (a_t, .inr (5, [.ref a_ti, .ref a_tn, .int t_len, .int t_cur, .int t_kin, .int t_tol, .int t_don])), (a_h, .inr (2, [.ref a_hp, .int h_old, .int h_siz])), (a_x, .inr (7, [.ref a_g, .ref a_b, .ref a_v, .ref a_h, .ref a_r, .ref a_f, .ref a_u, .ref a_t, .ref a_n, .int x_sav, .int x_err, .int x_rea, .int x_det, .int x_com])), (a_gw, .inl (T 0, 90, .inl v_gw)), (a_gk, .inl (T 0, 18, .inl v_gk)), (a_rs, .inl (T 0, 45, .inl v_rs)), (a_rl, .inl (T 0, 45, .inl v_rl)), (a_ro, .inl (T 1, 45, .inl v_ro)), (a_p0, .inl (T 0, 2, .inl (fun _ => 0))), (a_p1, .inl (T 0, 2, .inl (fun _ => 0)))] := hD
  refine W.widen (k := 2) (n := 4) (Nat.le_of_ble_eq_true rfl) (Nat.le_of_ble_eq_true rfl) ?_
  refine lv_astore (lv' := [(5, .ref a_p1), (4, .ref a_p0), (3, .int 0), (2, .int 0), (1, .int 0), (0, .ref a_x)]) hx hb dL_isWell_14 hl (by decide) rfl (fun ls hl => ?_)
  refine lv_aload_n hx hb dL_isWell_16 rfl (lv_at hl 5 rfl) ?_
  refine lv_iconst (v := 1) hx hb dL_isWell_17 (by decide) ?_
  replace h := bnd h; obtain ⟨q1, e2, h⟩ := h
  refine wrVi (ws1 := [(a_g, .inr (1, [.ref a_gw, .ref a_gk])), (a_r, .inr (4, [.ref a_g, .ref a_rs, .ref a_rl, .ref a_ro])), (a_f, .inr (0, [.ref a_g, .int f_net])), (a_t, .inr (5, [.ref a_ti, .ref a_tn, .int t_len, .int t_cur, .int t_kin, .int t_tol, .int t_don])), (a_h, .inr (2, [.ref a_hp, .int h_old, .int h_siz])), (a_x, .inr (7, [.ref a_g, .ref a_b, .ref a_v, .ref a_h, .ref a_r, .ref a_f, .ref a_u, .ref a_t, .ref a_n, .int x_sav, .int x_err, .int x_rea, .int x_det, .int x_com])), (a_gw, .inl (T 0, 90, .inl v_gw)), (a_gk, .inl (T 0, 18, .inl v_gk)), (a_rs, .inl (T 0, 45, .inl v_rs)), (a_rl, .inl (T 0, 45, .inl v_rl)), (a_ro, .inl (T 1, 45, .inl v_ro)), (a_p0, .inl (T 0, 2, .inl (fun _ => 0))), (a_p1, .inl (T 0, 2, .inl (fun _ => 0)))]) C hE hP hD hS hA (kX7_account_n l D T a_g a_gw a_gk a_t a_ti a_tn a_h a_hp a_x a_b a_v a_r a_f a_u a_n t_len t_cur t_kin t_tol t_don h_old h_siz x_sav x_err x_rea x_det x_com v_gw v_gk 1 _ q1 e2) mX7_account qLL_105 [0, 3, 4, 5, 6, 7] [1, 2, 8, 9, 10, 11, 12] 5 rfl rfl rfl rfl rfl rfl rfl rfl rfl ⟨rfl, rfl⟩ ⟨Nat.le_of_ble_eq_true rfl, Nat.le_of_ble_eq_true rfl⟩ rfl hl.1 rfl (Nat.le_of_ble_eq_true rfl) dL_isWell_18 ⟨Nat.le_of_ble_eq_true rfl, Nat.le_of_ble_eq_true rfl⟩ ?_; clear hP hD hS; intro H locs hP hD hS
  refine lv_istore (lv' := [(6, .int q1), (5, .ref a_p1), (4, .ref a_p0), (3, .int 0), (2, .int 0), (1, .int 0), (0, .ref a_x)]) hx hb dL_isWell_21 hl (by decide) rfl (fun ls hl => ?_)
  refine lv_bipush (v := 8) hx hb dL_isWell_23 (by decide) ?_
  refine lv_iload hx hb dL_isWell_25 (lv_at hl 0 rfl) ?_
  refine lv_bipush (v := 16) hx hb dL_isWell_27 (by decide) ?_
  refine lv_irem hx hb dL_isWell_29 (by decide) ?_
  refine lv_isub hx hb dL_isWell_30 ?_
  refine va_mabs hx hb (C.2.2.1.trans hl.1.symm) C.2.2.2.1 (C.2.2.2.2 _ qLL_117) (C.2.2.2.2 _ qMs_abs) (C.2.2.2.2 _ qMi) (C.2.2.2.2 _ qMc_abs) (Nat.le_of_ble_eq_true rfl) (Nat.le_of_ble_eq_true rfl) (Nat.le_of_ble_eq_true rfl) (Nat.le_of_ble_eq_true rfl) dL_isWell_31 ?_
  refine lv_istore (lv' := [(7, .int (if 0 ≤ (8 - (q1 - q1 / 16 * 16)) then (8 - (q1 - q1 / 16 * 16)) else 0 - (8 - (q1 - q1 / 16 * 16)))), (6, .int q1), (5, .ref a_p1), (4, .ref a_p0), (3, .int 0), (2, .int 0), (1, .int 0), (0, .ref a_x)]) hx hb dL_isWell_34 hl (by decide) rfl (fun ls hl => ?_)
  refine lv_iconst (v := 0) hx hb dL_isWell_36 (by decide) ?_
  refine lv_istore (lv' := [(8, .int 0), (7, .int (if 0 ≤ (8 - (q1 - q1 / 16 * 16)) then (8 - (q1 - q1 / 16 * 16)) else 0 - (8 - (q1 - q1 / 16 * 16)))), (6, .int q1), (5, .ref a_p1), (4, .ref a_p0), (3, .int 0), (2, .int 0), (1, .int 0), (0, .ref a_x)]) hx hb dL_isWell_37 hl (by decide) rfl (fun ls hl => ?_)
  exact lL_isWell_39 C hE hA hZ hret 64 0 0 0 q1 (if 0 ≤ (8 - (q1 - q1 / 16 * 16)) then (8 - (q1 - q1 / 16 * 16)) else 0 - (8 - (q1 - q1 / 16 * 16))) 0 f_net v_rs v_rl v_ro (fun _ => 0) (fun _ => 0) ⟨hP, hD⟩ hS _ (lv_sub hl [8, 7, 6, 5, 4, 3, 2, 1, 0] rfl) h
