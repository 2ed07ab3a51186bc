def fX5_takeCommand (t_len : Int32) (t_cur : Int32) (t_kin : Int32) (t_tol : Int32) (v_ti : Nat → Int32) (v_tn : Nat → Int32) : Option (Nat × Int32 × Int32 × Int32 × Int32 × (Nat → Int32)) :=
  (fX5_here t_len t_cur v_ti).bind fun q2 =>
  if (sIx [119, 109, 107, 111, 98, 100] q2) = (-1) then
    some (0, 0, t_cur, (sIx [119, 109, 107, 111, 98, 100] q2), 0, v_tn)
  else
    if (sIx [119, 109, 107, 111, 98, 100] q2) = 0 then
      (fX5_takeSign t_len (t_cur + 1) 0 v_ti v_tn 48).bind fun q8 =>
      if q8.1 = 0 then
        if q8.2.1 = 0 then
          some (0, 0, q8.2.2.1, (sIx [119, 109, 107, 111, 98, 100] q2), q8.2.2.2.1, q8.2.2.2.2)
        else
          (fX5_takeSign t_len q8.2.2.1 q8.2.2.2.1 v_ti q8.2.2.2.2 48).bind fun q12 =>
          if q12.1 = 0 then
            if q12.2.1 = 0 then
              some (0, 0, q12.2.2.1, (sIx [119, 109, 107, 111, 98, 100] q2), q12.2.2.2.1, q12.2.2.2.2)
            else
              (fX5_takeSign t_len q12.2.2.1 q12.2.2.2.1 v_ti q12.2.2.2.2 48).bind fun q16 =>
              if q16.1 = 0 then
                if q16.2.1 = 0 then
                  some (0, 0, q16.2.2.1, (sIx [119, 109, 107, 111, 98, 100] q2), q16.2.2.2.1, q16.2.2.2.2)
                else
                  if (sIx [119, 109, 107, 111, 98, 100] q2) = 1 then
                    (fX5_takeSecondDigit t_len q16.2.2.1 q16.2.2.2.1 v_ti q16.2.2.2.2).bind fun q21 =>
                    some (0, 1, q21.1, (sIx [119, 109, 107, 111, 98, 100] q2), q16.2.2.2.1, q21.2)
                  else
                    some (0, 1, q16.2.2.1, (sIx [119, 109, 107, 111, 98, 100] q2), q16.2.2.2.1, q16.2.2.2.2)
              else
                some (q16.1, 0, q16.2.2.1, (sIx [119, 109, 107, 111, 98, 100] q2), q16.2.2.2.1, q16.2.2.2.2)
          else
            some (q12.1, 0, q12.2.2.1, (sIx [119, 109, 107, 111, 98, 100] q2), q12.2.2.2.1, q12.2.2.2.2)
      else
        some (q8.1, 0, q8.2.2.1, (sIx [119, 109, 107, 111, 98, 100] q2), q8.2.2.2.1, q8.2.2.2.2)
    else
      if (sIx [119, 109, 107, 111, 98, 100] q2) = 1 then
        (fX5_takeSign t_len (t_cur + 1) 0 v_ti v_tn 48).bind fun q26 =>
        if q26.1 = 0 then
          if q26.2.1 = 0 then
            some (0, 0, q26.2.2.1, (sIx [119, 109, 107, 111, 98, 100] q2), q26.2.2.2.1, q26.2.2.2.2)
          else
            (fX5_takeSign t_len q26.2.2.1 q26.2.2.2.1 v_ti q26.2.2.2.2 64).bind fun q30 =>
            if q30.1 = 0 then
              if q30.2.1 = 0 then
                some (0, 0, q30.2.2.1, (sIx [119, 109, 107, 111, 98, 100] q2), q30.2.2.2.1, q30.2.2.2.2)
              else
                (fX5_takeSign t_len q30.2.2.1 q30.2.2.2.1 v_ti q30.2.2.2.2 48).bind fun q34 =>
                if q34.1 = 0 then
                  if q34.2.1 = 0 then
                    some (0, 0, q34.2.2.1, (sIx [119, 109, 107, 111, 98, 100] q2), q34.2.2.2.1, q34.2.2.2.2)
                  else
                    if (sIx [119, 109, 107, 111, 98, 100] q2) = 1 then
                      (fX5_takeSecondDigit t_len q34.2.2.1 q34.2.2.2.1 v_ti q34.2.2.2.2).bind fun q39 =>
                      some (0, 1, q39.1, (sIx [119, 109, 107, 111, 98, 100] q2), q34.2.2.2.1, q39.2)
                    else
                      some (0, 1, q34.2.2.1, (sIx [119, 109, 107, 111, 98, 100] q2), q34.2.2.2.1, q34.2.2.2.2)
                else
                  some (q34.1, 0, q34.2.2.1, (sIx [119, 109, 107, 111, 98, 100] q2), q34.2.2.2.1, q34.2.2.2.2)
            else
              some (q30.1, 0, q30.2.2.1, (sIx [119, 109, 107, 111, 98, 100] q2), q30.2.2.2.1, q30.2.2.2.2)
        else
          some (q26.1, 0, q26.2.2.1, (sIx [119, 109, 107, 111, 98, 100] q2), q26.2.2.2.1, q26.2.2.2.2)
      else
        if (sIx [119, 109, 107, 111, 98, 100] q2) = 2 then
          (fX5_takeSign t_len (t_cur + 1) 0 v_ti v_tn 48).bind fun q44 =>
          if q44.1 = 0 then
            if q44.2.1 = 0 then
              some (0, 0, q44.2.2.1, (sIx [119, 109, 107, 111, 98, 100] q2), q44.2.2.2.1, q44.2.2.2.2)
            else
              (fX5_takeSign t_len q44.2.2.1 q44.2.2.2.1 v_ti q44.2.2.2.2 110).bind fun q48 =>
              if q48.1 = 0 then
                if q48.2.1 = 0 then
                  some (0, 0, q48.2.2.1, (sIx [119, 109, 107, 111, 98, 100] q2), q48.2.2.2.1, q48.2.2.2.2)
                else
                  (fX5_takeSign t_len q48.2.2.1 q48.2.2.2.1 v_ti q48.2.2.2.2 48).bind fun q52 =>
                  if q52.1 = 0 then
                    if q52.2.1 = 0 then
                      some (0, 0, q52.2.2.1, (sIx [119, 109, 107, 111, 98, 100] q2), q52.2.2.2.1, q52.2.2.2.2)
                    else
                      if (sIx [119, 109, 107, 111, 98, 100] q2) = 1 then
                        (fX5_takeSecondDigit t_len q52.2.2.1 q52.2.2.2.1 v_ti q52.2.2.2.2).bind fun q57 =>
                        some (0, 1, q57.1, (sIx [119, 109, 107, 111, 98, 100] q2), q52.2.2.2.1, q57.2)
                      else
                        some (0, 1, q52.2.2.1, (sIx [119, 109, 107, 111, 98, 100] q2), q52.2.2.2.1, q52.2.2.2.2)
                  else
                    some (q52.1, 0, q52.2.2.1, (sIx [119, 109, 107, 111, 98, 100] q2), q52.2.2.2.1, q52.2.2.2.2)
              else
                some (q48.1, 0, q48.2.2.1, (sIx [119, 109, 107, 111, 98, 100] q2), q48.2.2.2.1, q48.2.2.2.2)
          else
            some (q44.1, 0, q44.2.2.1, (sIx [119, 109, 107, 111, 98, 100] q2), q44.2.2.2.1, q44.2.2.2.2)
        else
          if (sIx [119, 109, 107, 111, 98, 100] q2) = 3 then
            (fX5_takeSign t_len (t_cur + 1) 0 v_ti v_tn 48).bind fun q62 =>
            if q62.1 = 0 then
              if q62.2.1 = 0 then
                some (0, 0, q62.2.2.1, (sIx [119, 109, 107, 111, 98, 100] q2), q62.2.2.2.1, q62.2.2.2.2)
              else
                if (sIx [119, 109, 107, 111, 98, 100] q2) = 1 then
                  (fX5_takeSecondDigit t_len q62.2.2.1 q62.2.2.2.1 v_ti q62.2.2.2.2).bind fun q67 =>
                  some (0, 1, q67.1, (sIx [119, 109, 107, 111, 98, 100] q2), q62.2.2.2.1, q67.2)
                else
                  some (0, 1, q62.2.2.1, (sIx [119, 109, 107, 111, 98, 100] q2), q62.2.2.2.1, q62.2.2.2.2)
            else
              some (q62.1, 0, q62.2.2.1, (sIx [119, 109, 107, 111, 98, 100] q2), q62.2.2.2.1, q62.2.2.2.2)
          else
            if (sIx [119, 109, 107, 111, 98, 100] q2) = 4 then
              (fX5_takeSign t_len (t_cur + 1) 0 v_ti v_tn 48).bind fun q72 =>
              if q72.1 = 0 then
                if q72.2.1 = 0 then
                  some (0, 0, q72.2.2.1, (sIx [119, 109, 107, 111, 98, 100] q2), q72.2.2.2.1, q72.2.2.2.2)
                else
                  (fX5_takeSign t_len q72.2.2.1 q72.2.2.2.1 v_ti q72.2.2.2.2 48).bind fun q76 =>
                  if q76.1 = 0 then
                    if q76.2.1 = 0 then
                      some (0, 0, q76.2.2.1, (sIx [119, 109, 107, 111, 98, 100] q2), q76.2.2.2.1, q76.2.2.2.2)
                    else
                      if (sIx [119, 109, 107, 111, 98, 100] q2) = 1 then
                        (fX5_takeSecondDigit t_len q76.2.2.1 q76.2.2.2.1 v_ti q76.2.2.2.2).bind fun q81 =>
                        some (0, 1, q81.1, (sIx [119, 109, 107, 111, 98, 100] q2), q76.2.2.2.1, q81.2)
                      else
                        some (0, 1, q76.2.2.1, (sIx [119, 109, 107, 111, 98, 100] q2), q76.2.2.2.1, q76.2.2.2.2)
                  else
                    some (q76.1, 0, q76.2.2.1, (sIx [119, 109, 107, 111, 98, 100] q2), q76.2.2.2.1, q76.2.2.2.2)
              else
                some (q72.1, 0, q72.2.2.1, (sIx [119, 109, 107, 111, 98, 100] q2), q72.2.2.2.1, q72.2.2.2.2)
            else
              if (sIx [119, 109, 107, 111, 98, 100] q2) = 1 then
                (fX5_takeSecondDigit t_len (t_cur + 1) 0 v_ti v_tn).bind fun q87 =>
                some (0, 1, q87.1, (sIx [119, 109, 107, 111, 98, 100] q2), 0, q87.2)
              else
                some (0, 1, (t_cur + 1), (sIx [119, 109, 107, 111, 98, 100] q2), 0, v_tn)
set_option maxHeartbeats 4000000 in
set_option maxRecDepth 100000 in
theorem kX5_takeCommand (l : Launch) (hnt : l.stackTraces = false) (D : va_G) (T : Nat → ClassId) (a_t a_ti a_tn : Nat) (t_len : Int32) (t_cur : Int32) (t_kin : Int32) (t_tol : Int32) (t_don : Int32) (v_ti : Nat → Int32) (v_tn : Nat → Int32) (sz : Nat) (r : Nat × Int32 × Int32 × Int32 × Int32 × (Nat → Int32)) (h : fX5_takeCommand t_len t_cur t_kin t_tol v_ti v_tn = some r) : ThI l yX5_takeCommand cX5_takeCommand 3 .boolean ({ frames := 5, cells := 0, slots := 0, locals := 128 } : Room) D T sz [(a_t, .inr (5, [.ref a_ti, .ref a_tn, .int t_len, .int t_cur, .int t_kin, .int t_tol, .int t_don])), (a_ti, .inl (T 2, 60, .inl v_ti)), (a_tn, .inl (T 0, 3, .inl v_tn))] [(a_t, .inr (5, [.ref a_ti, .ref a_tn, .int t_len, .int r.2.2.1, .int r.2.2.2.1, .int r.2.2.2.2.1, .int t_don])), (a_ti, .inl (T 2, 60, .inl v_ti)), (a_tn, .inl (T 0, 3, .inl r.2.2.2.2.2))] [.ref a_t] r.1 r.2.1 := by
  unfold fX5_takeCommand at h
  refine thMetI hnt (by decide +kernel) rfl (fun p e s m args below meth c Q A C hE hA hZ hP hD hS hret ls hl => ?_)
  have hx := C.1
  have hb := C.2.1
  have hl : lv_has ls 3 [(0, .ref a_t)] := hl
  refine lv_aload_n hx hb dX5_takeCommand_0 rfl (lv_at hl 0 rfl) ?_
  obtain ⟨as1, vs1, hrs1, hjs1⟩ := eS_at (own := RX5) (k := 46) (tx := "wmkobd") (bs := [119, 109, 107, 111, 98, 100]) hZ 0 rfl
  refine va_ldcS hx hb C.2.2.2.1 hrs1 dX5_takeCommand_1 ?_
  refine lv_aload_n hx hb dX5_takeCommand_3 rfl (lv_at hl 0 rfl) ?_
  replace h := bnd h; obtain ⟨q2, e3, h⟩ := h
  refine rdV C hE hP (kX5_here l D T a_t a_ti a_tn t_len t_cur t_kin t_tol t_don v_ti q2 e3) mX5_here qLX5_42 [0, 1] 0 rfl rfl rfl rfl ⟨rfl, rfl⟩ ⟨Nat.le_of_ble_eq_true rfl, Nat.le_of_ble_eq_true rfl⟩ rfl hl.1 rfl (Nat.le_of_ble_eq_true rfl) dX5_takeCommand_4 ⟨Nat.le_of_ble_eq_true rfl, Nat.le_of_ble_eq_true rfl⟩ ?_
  refine prV (r := (sIx [119, 109, 107, 111, 98, 100] q2)) C JP.blind (JP.recv hjs1 hS) (fun U hU hW => JP.use hjs1 hS hU hW) (kJ0_indexOf_0f7a4 l as1 vs1 [119, 109, 107, 111, 98, 100] q2 (by decide)) mJ0_indexOf_0f7a4 qLX5_48 ⟨rfl, rfl⟩ ⟨Nat.le_of_ble_eq_true rfl, Nat.le_of_ble_eq_true rfl⟩ rfl hl.1 rfl (Nat.le_of_ble_eq_true rfl) dX5_takeCommand_7 ⟨Nat.le_of_ble_eq_true rfl, Nat.le_of_ble_eq_true rfl⟩ ?_
  refine putF (q0 := 0) (k0 := 4) (ws1 := [(a_t, .inr (5, [.ref a_ti, .ref a_tn, .int t_len, .int t_cur, .int (sIx [119, 109, 107, 111, 98, 100] q2), .int t_tol, .int t_don])), (a_ti, .inl (T 2, 60, .inl v_ti)), (a_tn, .inl (T 0, 3, .inl v_tn))]) C hE hP hD hS inA5 tyX5_ok nmX5 rfl rfl (by decide) qFX5_26 rfl rfl rfl rfl (Nat.le_of_ble_eq_true rfl) rfl dX5_takeCommand_10 ?_; clear hP hD hS; intro H locs hP hD hS
  refine lv_aload_n hx hb dX5_takeCommand_13 rfl (lv_at hl 0 rfl) ?_
  refine lv_iconst (v := 0) hx hb dX5_takeCommand_14 (by decide) ?_
  refine putF (q0 := 0) (k0 := 5) (ws1 := [(a_t, .inr (5, [.ref a_ti, .ref a_tn, .int t_len, .int t_cur, .int (sIx [119, 109, 107, 111, 98, 100] q2), .int 0, .int t_don])), (a_ti, .inl (T 2, 60, .inl v_ti)), (a_tn, .inl (T 0, 3, .inl v_tn))]) C hE hP hD hS inA5 tyX5_ok nmX5 rfl rfl (by decide) qFX5_29 rfl rfl rfl rfl (Nat.le_of_ble_eq_true rfl) rfl dX5_takeCommand_15 ?_; clear hP hD hS; intro H locs hP hD hS
  refine lv_aload_n hx hb dX5_takeCommand_18 rfl (lv_at hl 0 rfl) ?_
  refine getF (q0 := 0) (k0 := 4) (v := .int (sIx [119, 109, 107, 111, 98, 100] q2)) C hE hP inA5 rfl rfl (by decide) qFX5_26 rfl rfl dX5_takeCommand_19 ?_
  refine lv_iconst (v := (-1)) hx hb dX5_takeCommand_22 (by decide) ?_
  refine lv_icmp_ne (tgt := 28) hx hb dX5_takeCommand_23 (by decide) (fun c4 => ?_) (fun c4 => ?_)
  · replace h := ite_f c4 h
    refine lv_aload_n hx hb dX5_takeCommand_28 rfl (lv_at hl 0 rfl) ?_
    refine lv_dup hx hb dX5_takeCommand_29 rfl ?_
    refine getF (q0 := 0) (k0 := 3) (v := .int t_cur) C hE hP inA5 rfl rfl (by decide) qFX5_23 rfl rfl dX5_takeCommand_30 ?_
    refine lv_iconst (v := 1) hx hb dX5_takeCommand_33 (by decide) ?_
    refine lv_iadd hx hb dX5_takeCommand_34 ?_
    refine putF (q0 := 0) (k0 := 3) (ws1 := [(a_t, .inr (5, [.ref a_ti, .ref a_tn, .int t_len, .int (t_cur + 1), .int (sIx [119, 109, 107, 111, 98, 100] q2), .int 0, .int t_don])), (a_ti, .inl (T 2, 60, .inl v_ti)), (a_tn, .inl (T 0, 3, .inl v_tn))]) C hE hP hD hS inA5 tyX5_ok nmX5 rfl rfl (by decide) qFX5_23 rfl rfl rfl rfl (Nat.le_of_ble_eq_true rfl) rfl dX5_takeCommand_35 ?_; clear hP hD hS; intro H locs hP hD hS
    refine lv_aload_n hx hb dX5_takeCommand_38 rfl (lv_at hl 0 rfl) ?_
    refine getF (q0 := 0) (k0 := 4) (v := .int (sIx [119, 109, 107, 111, 98, 100] q2)) C hE hP inA5 rfl rfl (by decide) qFX5_26 rfl rfl dX5_takeCommand_39 ?_
    by_cases c6 : (sIx [119, 109, 107, 111, 98, 100] q2) = 0
    · replace h := ite_t c6 h
      obtain ⟨as5, vs5, hrs5, hjs5⟩ := eS_at (own := RX5) (k := 72) (tx := "000") (bs := [48, 48, 48]) hZ 1 rfl
      refine prSR C vkR_blind (fun U hU hW => hrs5.warm hW) (kX5_signsOf_0 l as5 (sIx [119, 109, 107, 111, 98, 100] q2) c6) mX5_signsOf qLX5_54 ⟨rfl, rfl⟩ ⟨Nat.le_of_ble_eq_true rfl, Nat.le_of_ble_eq_true rfl⟩ rfl hl.1 rfl (Nat.le_of_ble_eq_true rfl) dX5_takeCommand_42 ⟨Nat.le_of_ble_eq_true rfl, Nat.le_of_ble_eq_true rfl⟩ ?_
      refine lv_astore_n (lv' := [(1, .ref as5), (0, .ref a_t)]) hx hb dX5_takeCommand_45 rfl hl (by decide) rfl (fun ls hl => ?_)
      refine lv_iconst (v := 0) hx hb dX5_takeCommand_46 (by decide) ?_
      refine lv_istore_n (lv' := [(2, .int 0), (1, .ref as5), (0, .ref a_t)]) hx hb dX5_takeCommand_47 rfl hl (by decide) rfl (fun ls hl => ?_)
      refine lv_iload_n hx hb dX5_takeCommand_48 rfl (lv_at hl 0 rfl) ?_
      refine lv_aload_n hx hb dX5_takeCommand_49 rfl (lv_at hl 1 rfl) ?_
      refine prV (r := 3) C JP.blind (JP.recv hjs5 hS) (fun U hU hW => JP.use hjs5 hS hU hW) (kJ0_length_8abf5 l as5 vs5 [48, 48, 48] (by decide)) mJ0_length_8abf5 qLX5_58 ⟨rfl, rfl⟩ ⟨Nat.le_of_ble_eq_true rfl, Nat.le_of_ble_eq_true rfl⟩ rfl hl.1 rfl (Nat.le_of_ble_eq_true rfl) dX5_takeCommand_50 ⟨Nat.le_of_ble_eq_true rfl, Nat.le_of_ble_eq_true rfl⟩ ?_
      refine lv_icmp_ge (tgt := 76) hx hb dX5_takeCommand_53 (by decide) (fun c7 => absurd c7 (by decide)) (fun c7 => ?_)
      refine lv_aload_n hx hb dX5_takeCommand_56 rfl (lv_at hl 2 rfl) ?_
      refine lv_aload_n hx hb dX5_takeCommand_57 rfl (lv_at hl 1 rfl) ?_
      refine lv_iload_n hx hb dX5_takeCommand_58 rfl (lv_at hl 0 rfl) ?_
      refine prV (r := 48) C JP.blind (JP.recv hjs5 hS) (fun U hU hW => JP.use hjs5 hS hU hW) (kJ0_charAt_5068e l as5 vs5 [48, 48, 48] 0 48 (by decide)) mJ0_charAt_5068e qLX5_61 ⟨rfl, rfl⟩ ⟨Nat.le_of_ble_eq_true rfl, Nat.le_of_ble_eq_true rfl⟩ rfl hl.1 rfl (Nat.le_of_ble_eq_true rfl) dX5_takeCommand_59 ⟨Nat.le_of_ble_eq_true rfl, Nat.le_of_ble_eq_true rfl⟩ ?_
      replace h := bnd h; obtain ⟨q8, e9, h⟩ := h
      refine thVi (ws1 := [(a_t, .inr (5, [.ref a_ti, .ref a_tn, .int t_len, .int q8.2.2.1, .int (sIx [119, 109, 107, 111, 98, 100] q2), .int q8.2.2.2.1, .int t_don])), (a_ti, .inl (T 2, 60, .inl v_ti)), (a_tn, .inl (T 0, 3, .inl q8.2.2.2.2))]) C hE hZ hP hD hS hA (kX5_takeSign l hZ.1 D T a_t a_ti a_tn t_len (t_cur + 1) (sIx [119, 109, 107, 111, 98, 100] q2) 0 t_don v_ti v_tn 48 _ q8 e9) mX5_takeSign qLX5_65 [0, 1, 2] [] 0 rfl rfl rfl rfl rfl rfl rfl rfl rfl ⟨Nat.le_of_ble_eq_true rfl, Nat.le_of_ble_eq_true rfl⟩ rfl hl.1 rfl (Nat.le_of_ble_eq_true rfl) dX5_takeCommand_62 ⟨Nat.le_of_ble_eq_true rfl, Nat.le_of_ble_eq_true rfl⟩ ?_ ?_
      · clear hP hD hS; intro hx0 H locs ce q9 hP hD hS g1 g2 g3
        replace h := ite_f (Nat.ne_of_gt hx0) h
        replace h := Option.some.inj h
        exact hret.2.1 _ _ _ _ _ _ _ _ _ (Nat.le_of_ble_eq_true rfl) (Nat.le_of_ble_eq_true rfl) (by rw [← h]; exact hx0) (by rw [← h]; exact hP) hS g1 g2 (by rw [← h]; exact g3)
      · clear hP hD hS; intro hx0 H locs hP hD hS
        replace h := ite_t hx0 h
        refine lv_if_ne (tgt := 70) hx hb dX5_takeCommand_65 (by decide) (fun c10 => ?_) (fun c10 => ?_)
        · replace h := ite_f c10 h
          refine lv_iinc (v := 1) (lv' := [(2, .int 1), (1, .ref as5), (0, .ref a_t)]) hx hb dX5_takeCommand_70 hl (k := 0) rfl rfl (by decide) rfl (fun ls hl => ?_)
          refine lv_goto (tgt := 48) hx hb dX5_takeCommand_73 (by decide) ?_
          refine lv_iload_n hx hb dX5_takeCommand_48 rfl (lv_at hl 0 rfl) ?_
          refine lv_aload_n hx hb dX5_takeCommand_49 rfl (lv_at hl 1 rfl) ?_
          refine prV (r := 3) C JP.blind (JP.recv hjs5 hS) (fun U hU hW => JP.use hjs5 hS hU hW) (kJ0_length_8abf5 l as5 vs5 [48, 48, 48] (by decide)) mJ0_length_8abf5 qLX5_58 ⟨rfl, rfl⟩ ⟨Nat.le_of_ble_eq_true rfl, Nat.le_of_ble_eq_true rfl⟩ rfl hl.1 rfl (Nat.le_of_ble_eq_true rfl) dX5_takeCommand_50 ⟨Nat.le_of_ble_eq_true rfl, Nat.le_of_ble_eq_true rfl⟩ ?_
          refine lv_icmp_ge (tgt := 76) hx hb dX5_takeCommand_53 (by decide) (fun c11 => absurd c11 (by decide)) (fun c11 => ?_)
          refine lv_aload_n hx hb dX5_takeCommand_56 rfl (lv_at hl 2 rfl) ?_
          refine lv_aload_n hx hb dX5_takeCommand_57 rfl (lv_at hl 1 rfl) ?_
          refine lv_iload_n hx hb dX5_takeCommand_58 rfl (lv_at hl 0 rfl) ?_
          refine prV (r := 48) C JP.blind (JP.recv hjs5 hS) (fun U hU hW => JP.use hjs5 hS hU hW) (kJ0_charAt_5068e l as5 vs5 [48, 48, 48] 1 48 (by decide)) mJ0_charAt_5068e qLX5_61 ⟨rfl, rfl⟩ ⟨Nat.le_of_ble_eq_true rfl, Nat.le_of_ble_eq_true rfl⟩ rfl hl.1 rfl (Nat.le_of_ble_eq_true rfl) dX5_takeCommand_59 ⟨Nat.le_of_ble_eq_true rfl, Nat.le_of_ble_eq_true rfl⟩ ?_
          replace h := bnd h; obtain ⟨q12, e13, h⟩ := h
          refine thVi (ws1 := [(a_t, .inr (5, [.ref a_ti, .ref a_tn, .int t_len, .int q12.2.2.1, .int (sIx [119, 109, 107, 111, 98, 100] q2), .int q12.2.2.2.1, .int t_don])), (a_ti, .inl (T 2, 60, .inl v_ti)), (a_tn, .inl (T 0, 3, .inl q12.2.2.2.2))]) C hE hZ hP hD hS hA (kX5_takeSign l hZ.1 D T a_t a_ti a_tn t_len q8.2.2.1 (sIx [119, 109, 107, 111, 98, 100] q2) q8.2.2.2.1 t_don v_ti q8.2.2.2.2 48 _ q12 e13) mX5_takeSign qLX5_65 [0, 1, 2] [] 0 rfl rfl rfl rfl rfl rfl rfl rfl rfl ⟨Nat.le_of_ble_eq_true rfl, Nat.le_of_ble_eq_true rfl⟩ rfl hl.1 rfl (Nat.le_of_ble_eq_true rfl) dX5_takeCommand_62 ⟨Nat.le_of_ble_eq_true rfl, Nat.le_of_ble_eq_true rfl⟩ ?_ ?_
          · clear hP hD hS; intro hx0 H locs ce q9 hP hD hS g1 g2 g3
            replace h := ite_f (Nat.ne_of_gt hx0) h
            replace h := Option.some.inj h
            exact hret.2.1 _ _ _ _ _ _ _ _ _ (Nat.le_of_ble_eq_true rfl) (Nat.le_of_ble_eq_true rfl) (by rw [← h]; exact hx0) (by rw [← h]; exact hP) hS g1 g2 (by rw [← h]; exact g3)
          · clear hP hD hS; intro hx0 H locs hP hD hS
            replace h := ite_t hx0 h
            refine lv_if_ne (tgt := 70) hx hb dX5_takeCommand_65 (by decide) (fun c14 => ?_) (fun c14 => ?_)
            · replace h := ite_f c14 h
              refine lv_iinc (v := 2) (lv' := [(2, .int 2), (1, .ref as5), (0, .ref a_t)]) hx hb dX5_takeCommand_70 hl (k := 0) rfl rfl (by decide) rfl (fun ls hl => ?_)
              refine lv_goto (tgt := 48) hx hb dX5_takeCommand_73 (by decide) ?_
              refine lv_iload_n hx hb dX5_takeCommand_48 rfl (lv_at hl 0 rfl) ?_
              refine lv_aload_n hx hb dX5_takeCommand_49 rfl (lv_at hl 1 rfl) ?_
              refine prV (r := 3) C JP.blind (JP.recv hjs5 hS) (fun U hU hW => JP.use hjs5 hS hU hW) (kJ0_length_8abf5 l as5 vs5 [48, 48, 48] (by decide)) mJ0_length_8abf5 qLX5_58 ⟨rfl, rfl⟩ ⟨Nat.le_of_ble_eq_true rfl, Nat.le_of_ble_eq_true rfl⟩ rfl hl.1 rfl (Nat.le_of_ble_eq_true rfl) dX5_takeCommand_50 ⟨Nat.le_of_ble_eq_true rfl, Nat.le_of_ble_eq_true rfl⟩ ?_
              refine lv_icmp_ge (tgt := 76) hx hb dX5_takeCommand_53 (by decide) (fun c15 => absurd c15 (by decide)) (fun c15 => ?_)
              refine lv_aload_n hx hb dX5_takeCommand_56 rfl (lv_at hl 2 rfl) ?_
              refine lv_aload_n hx hb dX5_takeCommand_57 rfl (lv_at hl 1 rfl) ?_
              refine lv_iload_n hx hb dX5_takeCommand_58 rfl (lv_at hl 0 rfl) ?_
              refine prV (r := 48) C JP.blind (JP.recv hjs5 hS) (fun U hU hW => JP.use hjs5 hS hU hW) (kJ0_charAt_5068e l as5 vs5 [48, 48, 48] 2 48 (by decide)) mJ0_charAt_5068e qLX5_61 ⟨rfl, rfl⟩ ⟨Nat.le_of_ble_eq_true rfl, Nat.le_of_ble_eq_true rfl⟩ rfl hl.1 rfl (Nat.le_of_ble_eq_true rfl) dX5_takeCommand_59 ⟨Nat.le_of_ble_eq_true rfl, Nat.le_of_ble_eq_true rfl⟩ ?_
              replace h := bnd h; obtain ⟨q16, e17, h⟩ := h
              refine thVi (ws1 := [(a_t, .inr (5, [.ref a_ti, .ref a_tn, .int t_len, .int q16.2.2.1, .int (sIx [119, 109, 107, 111, 98, 100] q2), .int q16.2.2.2.1, .int t_don])), (a_ti, .inl (T 2, 60, .inl v_ti)), (a_tn, .inl (T 0, 3, .inl q16.2.2.2.2))]) C hE hZ hP hD hS hA (kX5_takeSign l hZ.1 D T a_t a_ti a_tn t_len q12.2.2.1 (sIx [119, 109, 107, 111, 98, 100] q2) q12.2.2.2.1 t_don v_ti q12.2.2.2.2 48 _ q16 e17) mX5_takeSign qLX5_65 [0, 1, 2] [] 0 rfl rfl rfl rfl rfl rfl rfl rfl rfl ⟨Nat.le_of_ble_eq_true rfl, Nat.le_of_ble_eq_true rfl⟩ rfl hl.1 rfl (Nat.le_of_ble_eq_true rfl) dX5_takeCommand_62 ⟨Nat.le_of_ble_eq_true rfl, Nat.le_of_ble_eq_true rfl⟩ ?_ ?_
              · clear hP hD hS; intro hx0 H locs ce q9 hP hD hS g1 g2 g3
                replace h := ite_f (Nat.ne_of_gt hx0) h
                replace h := Option.some.inj h
                exact hret.2.1 _ _ _ _ _ _ _ _ _ (Nat.le_of_ble_eq_true rfl) (Nat.le_of_ble_eq_true rfl) (by rw [← h]; exact hx0) (by rw [← h]; exact hP) hS g1 g2 (by rw [← h]; exact g3)
              · clear hP hD hS; intro hx0 H locs hP hD hS
                replace h := ite_t hx0 h
                refine lv_if_ne (tgt := 70) hx hb dX5_takeCommand_65 (by decide) (fun c18 => ?_) (fun c18 => ?_)
                · replace h := ite_f c18 h
                  refine lv_iinc (v := 3) (lv' := [(2, .int 3), (1, .ref as5), (0, .ref a_t)]) hx hb dX5_takeCommand_70 hl (k := 0) rfl rfl (by decide) rfl (fun ls hl => ?_)
                  refine lv_goto (tgt := 48) hx hb dX5_takeCommand_73 (by decide) ?_
                  refine lv_iload_n hx hb dX5_takeCommand_48 rfl (lv_at hl 0 rfl) ?_
                  refine lv_aload_n hx hb dX5_takeCommand_49 rfl (lv_at hl 1 rfl) ?_
                  refine prV (r := 3) C JP.blind (JP.recv hjs5 hS) (fun U hU hW => JP.use hjs5 hS hU hW) (kJ0_length_8abf5 l as5 vs5 [48, 48, 48] (by decide)) mJ0_length_8abf5 qLX5_58 ⟨rfl, rfl⟩ ⟨Nat.le_of_ble_eq_true rfl, Nat.le_of_ble_eq_true rfl⟩ rfl hl.1 rfl (Nat.le_of_ble_eq_true rfl) dX5_takeCommand_50 ⟨Nat.le_of_ble_eq_true rfl, Nat.le_of_ble_eq_true rfl⟩ ?_
                  refine lv_icmp_ge (tgt := 76) hx hb dX5_takeCommand_53 (by decide) (fun c19 => ?_) (fun c19 => absurd c19 (by decide))
                  refine lv_aload_n hx hb dX5_takeCommand_76 rfl (lv_at hl 2 rfl) ?_
                  refine getF (q0 := 0) (k0 := 4) (v := .int (sIx [119, 109, 107, 111, 98, 100] q2)) C hE hP inA5 rfl rfl (by decide) qFX5_26 rfl rfl dX5_takeCommand_77 ?_
                  refine lv_iconst (v := 1) hx hb dX5_takeCommand_80 (by decide) ?_
                  refine lv_icmp_ne (tgt := 88) hx hb dX5_takeCommand_81 (by decide) (fun c20 => ?_) (fun c20 => ?_)
                  · replace h := ite_f c20 h
                    refine lv_iconst (v := 1) hx hb dX5_takeCommand_88 (by decide) ?_
                    replace h := Option.some.inj h
                    exact hret.1 _ _ _ _ _ _ _ _ (Nat.le_of_ble_eq_true rfl) (Nat.le_of_ble_eq_true rfl) dX5_takeCommand_89 rfl (by rw [← h]) (by rw [← h] <;> rfl) (by rw [← h]; exact hP) hS
                  · replace h := ite_t c20 h
                    refine lv_aload_n hx hb dX5_takeCommand_84 rfl (lv_at hl 2 rfl) ?_
                    replace h := bnd h; obtain ⟨q21, e22, h⟩ := h
                    refine wrVv (ws1 := [(a_t, .inr (5, [.ref a_ti, .ref a_tn, .int t_len, .int q21.1, .int (sIx [119, 109, 107, 111, 98, 100] q2), .int q16.2.2.2.1, .int t_don])), (a_ti, .inl (T 2, 60, .inl v_ti)), (a_tn, .inl (T 0, 3, .inl q21.2))]) C hE hP hD hS hA (kX5_takeSecondDigit l D T a_t a_ti a_tn t_len q16.2.2.1 (sIx [119, 109, 107, 111, 98, 100] q2) q16.2.2.2.1 t_don v_ti q16.2.2.2.2 _ q21 e22) mX5_takeSecondDigit qLX5_69 [0, 1, 2] [] 0 rfl rfl rfl rfl rfl rfl rfl rfl rfl ⟨rfl, rfl⟩ ⟨Nat.le_of_ble_eq_true rfl, Nat.le_of_ble_eq_true rfl⟩ rfl hl.1 rfl (Nat.le_of_ble_eq_true rfl) dX5_takeCommand_85 ⟨Nat.le_of_ble_eq_true rfl, Nat.le_of_ble_eq_true rfl⟩ ?_; clear hP hD hS; intro H locs hP hD hS
                    refine lv_iconst (v := 1) hx hb dX5_takeCommand_88 (by decide) ?_
                    replace h := Option.some.inj h
                    exact hret.1 _ _ _ _ _ _ _ _ (Nat.le_of_ble_eq_true rfl) (Nat.le_of_ble_eq_true rfl) dX5_takeCommand_89 rfl (by rw [← h]) (by rw [← h] <;> rfl) (by rw [← h]; exact hP) hS
                · replace h := ite_t c18 h
                  refine lv_iconst (v := 0) hx hb dX5_takeCommand_68 (by decide) ?_
                  replace h := Option.some.inj h
                  exact hret.1 _ _ _ _ _ _ _ _ (Nat.le_of_ble_eq_true rfl) (Nat.le_of_ble_eq_true rfl) dX5_takeCommand_69 rfl (by rw [← h]) (by rw [← h] <;> rfl) (by rw [← h]; exact hP) hS
            · replace h := ite_t c14 h
              refine lv_iconst (v := 0) hx hb dX5_takeCommand_68 (by decide) ?_
              replace h := Option.some.inj h
              exact hret.1 _ _ _ _ _ _ _ _ (Nat.le_of_ble_eq_true rfl) (Nat.le_of_ble_eq_true rfl) dX5_takeCommand_69 rfl (by rw [← h]) (by rw [← h] <;> rfl) (by rw [← h]; exact hP) hS
        · replace h := ite_t c10 h
          refine lv_iconst (v := 0) hx hb dX5_takeCommand_68 (by decide) ?_
          replace h := Option.some.inj h
          exact hret.1 _ _ _ _ _ _ _ _ (Nat.le_of_ble_eq_true rfl) (Nat.le_of_ble_eq_true rfl) dX5_takeCommand_69 rfl (by rw [← h]) (by rw [← h] <;> rfl) (by rw [← h]; exact hP) hS
    · replace h := ite_f c6 h
      by_cases c24 : (sIx [119, 109, 107, 111, 98, 100] q2) = 1
      · replace h := ite_t c24 h
        obtain ⟨as23, vs23, hrs23, hjs23⟩ := eS_at (own := RX5) (k := 74) (tx := "0@0") (bs := [48, 64, 48]) hZ 2 rfl
        refine prSR C vkR_blind (fun U hU hW => hrs23.warm hW) (kX5_signsOf_1 l as23 (sIx [119, 109, 107, 111, 98, 100] q2) c24) mX5_signsOf qLX5_54 ⟨rfl, rfl⟩ ⟨Nat.le_of_ble_eq_true rfl, Nat.le_of_ble_eq_true rfl⟩ rfl hl.1 rfl (Nat.le_of_ble_eq_true rfl) dX5_takeCommand_42 ⟨Nat.le_of_ble_eq_true rfl, Nat.le_of_ble_eq_true rfl⟩ ?_
        refine lv_astore_n (lv' := [(1, .ref as23), (0, .ref a_t)]) hx hb dX5_takeCommand_45 rfl hl (by decide) rfl (fun ls hl => ?_)
        refine lv_iconst (v := 0) hx hb dX5_takeCommand_46 (by decide) ?_
        refine lv_istore_n (lv' := [(2, .int 0), (1, .ref as23), (0, .ref a_t)]) hx hb dX5_takeCommand_47 rfl hl (by decide) rfl (fun ls hl => ?_)
        refine lv_iload_n hx hb dX5_takeCommand_48 rfl (lv_at hl 0 rfl) ?_
        refine lv_aload_n hx hb dX5_takeCommand_49 rfl (lv_at hl 1 rfl) ?_
        refine prV (r := 3) C JP.blind (JP.recv hjs23 hS) (fun U hU hW => JP.use hjs23 hS hU hW) (kJ0_length_8abf5 l as23 vs23 [48, 64, 48] (by decide)) mJ0_length_8abf5 qLX5_58 ⟨rfl, rfl⟩ ⟨Nat.le_of_ble_eq_true rfl, Nat.le_of_ble_eq_true rfl⟩ rfl hl.1 rfl (Nat.le_of_ble_eq_true rfl) dX5_takeCommand_50 ⟨Nat.le_of_ble_eq_true rfl, Nat.le_of_ble_eq_true rfl⟩ ?_
        refine lv_icmp_ge (tgt := 76) hx hb dX5_takeCommand_53 (by decide) (fun c25 => absurd c25 (by decide)) (fun c25 => ?_)
        refine lv_aload_n hx hb dX5_takeCommand_56 rfl (lv_at hl 2 rfl) ?_
        refine lv_aload_n hx hb dX5_takeCommand_57 rfl (lv_at hl 1 rfl) ?_
        refine lv_iload_n hx hb dX5_takeCommand_58 rfl (lv_at hl 0 rfl) ?_
        refine prV (r := 48) C JP.blind (JP.recv hjs23 hS) (fun U hU hW => JP.use hjs23 hS hU hW) (kJ0_charAt_5068e l as23 vs23 [48, 64, 48] 0 48 (by decide)) mJ0_charAt_5068e qLX5_61 ⟨rfl, rfl⟩ ⟨Nat.le_of_ble_eq_true rfl, Nat.le_of_ble_eq_true rfl⟩ rfl hl.1 rfl (Nat.le_of_ble_eq_true rfl) dX5_takeCommand_59 ⟨Nat.le_of_ble_eq_true rfl, Nat.le_of_ble_eq_true rfl⟩ ?_
        replace h := bnd h; obtain ⟨q26, e27, h⟩ := h
        refine thVi (ws1 := [(a_t, .inr (5, [.ref a_ti, .ref a_tn, .int t_len, .int q26.2.2.1, .int (sIx [119, 109, 107, 111, 98, 100] q2), .int q26.2.2.2.1, .int t_don])), (a_ti, .inl (T 2, 60, .inl v_ti)), (a_tn, .inl (T 0, 3, .inl q26.2.2.2.2))]) C hE hZ hP hD hS hA (kX5_takeSign l hZ.1 D T a_t a_ti a_tn t_len (t_cur + 1) (sIx [119, 109, 107, 111, 98, 100] q2) 0 t_don v_ti v_tn 48 _ q26 e27) mX5_takeSign qLX5_65 [0, 1, 2] [] 0 rfl rfl rfl rfl rfl rfl rfl rfl rfl ⟨Nat.le_of_ble_eq_true rfl, Nat.le_of_ble_eq_true rfl⟩ rfl hl.1 rfl (Nat.le_of_ble_eq_true rfl) dX5_takeCommand_62 ⟨Nat.le_of_ble_eq_true rfl, Nat.le_of_ble_eq_true rfl⟩ ?_ ?_
        · clear hP hD hS; intro hx0 H locs ce q9 hP hD hS g1 g2 g3
          replace h := ite_f (Nat.ne_of_gt hx0) h
          replace h := Option.some.inj h
          exact hret.2.1 _ _ _ _ _ _ _ _ _ (Nat.le_of_ble_eq_true rfl) (Nat.le_of_ble_eq_true rfl) (by rw [← h]; exact hx0) (by rw [← h]; exact hP) hS g1 g2 (by rw [← h]; exact g3)
        · clear hP hD hS; intro hx0 H locs hP hD hS
          replace h := ite_t hx0 h
          refine lv_if_ne (tgt := 70) hx hb dX5_takeCommand_65 (by decide) (fun c28 => ?_) (fun c28 => ?_)
          · replace h := ite_f c28 h
            refine lv_iinc (v := 1) (lv' := [(2, .int 1), (1, .ref as23), (0, .ref a_t)]) hx hb dX5_takeCommand_70 hl (k := 0) rfl rfl (by decide) rfl (fun ls hl => ?_)
            refine lv_goto (tgt := 48) hx hb dX5_takeCommand_73 (by decide) ?_
            refine lv_iload_n hx hb dX5_takeCommand_48 rfl (lv_at hl 0 rfl) ?_
            refine lv_aload_n hx hb dX5_takeCommand_49 rfl (lv_at hl 1 rfl) ?_
            refine prV (r := 3) C JP.blind (JP.recv hjs23 hS) (fun U hU hW => JP.use hjs23 hS hU hW) (kJ0_length_8abf5 l as23 vs23 [48, 64, 48] (by decide)) mJ0_length_8abf5 qLX5_58 ⟨rfl, rfl⟩ ⟨Nat.le_of_ble_eq_true rfl, Nat.le_of_ble_eq_true rfl⟩ rfl hl.1 rfl (Nat.le_of_ble_eq_true rfl) dX5_takeCommand_50 ⟨Nat.le_of_ble_eq_true rfl, Nat.le_of_ble_eq_true rfl⟩ ?_
            refine lv_icmp_ge (tgt := 76) hx hb dX5_takeCommand_53 (by decide) (fun c29 => absurd c29 (by decide)) (fun c29 => ?_)
            refine lv_aload_n hx hb dX5_takeCommand_56 rfl (lv_at hl 2 rfl) ?_
            refine lv_aload_n hx hb dX5_takeCommand_57 rfl (lv_at hl 1 rfl) ?_
            refine lv_iload_n hx hb dX5_takeCommand_58 rfl (lv_at hl 0 rfl) ?_
            refine prV (r := 64) C JP.blind (JP.recv hjs23 hS) (fun U hU hW => JP.use hjs23 hS hU hW) (kJ0_charAt_5068e l as23 vs23 [48, 64, 48] 1 64 (by decide)) mJ0_charAt_5068e qLX5_61 ⟨rfl, rfl⟩ ⟨Nat.le_of_ble_eq_true rfl, Nat.le_of_ble_eq_true rfl⟩ rfl hl.1 rfl (Nat.le_of_ble_eq_true rfl) dX5_takeCommand_59 ⟨Nat.le_of_ble_eq_true rfl, Nat.le_of_ble_eq_true rfl⟩ ?_
            replace h := bnd h; obtain ⟨q30, e31, h⟩ := h
            refine thVi (ws1 := [(a_t, .inr (5, [.ref a_ti, .ref a_tn, .int t_len, .int q30.2.2.1, .int (sIx [119, 109, 107, 111, 98, 100] q2), .int q30.2.2.2.1, .int t_don])), (a_ti, .inl (T 2, 60, .inl v_ti)), (a_tn, .inl (T 0, 3, .inl q30.2.2.2.2))]) C hE hZ hP hD hS hA (kX5_takeSign l hZ.1 D T a_t a_ti a_tn t_len q26.2.2.1 (sIx [119, 109, 107, 111, 98, 100] q2) q26.2.2.2.1 t_don v_ti q26.2.2.2.2 64 _ q30 e31) mX5_takeSign qLX5_65 [0, 1, 2] [] 0 rfl rfl rfl rfl rfl rfl rfl rfl rfl ⟨Nat.le_of_ble_eq_true rfl, Nat.le_of_ble_eq_true rfl⟩ rfl hl.1 rfl (Nat.le_of_ble_eq_true rfl) dX5_takeCommand_62 ⟨Nat.le_of_ble_eq_true rfl, Nat.le_of_ble_eq_true rfl⟩ ?_ ?_
            · clear hP hD hS; intro hx0 H locs ce q9 hP hD hS g1 g2 g3
              replace h := ite_f (Nat.ne_of_gt hx0) h
              replace h := Option.some.inj h
              exact hret.2.1 _ _ _ _ _ _ _ _ _ (Nat.le_of_ble_eq_true rfl) (Nat.le_of_ble_eq_true rfl) (by rw [← h]; exact hx0) (by rw [← h]; exact hP) hS g1 g2 (by rw [← h]; exact g3)
            · clear hP hD hS; intro hx0 H locs hP hD hS
              replace h := ite_t hx0 h
              refine lv_if_ne (tgt := 70) hx hb dX5_takeCommand_65 (by decide) (fun c32 => ?_) (fun c32 => ?_)
              · replace h := ite_f c32 h
                refine lv_iinc (v := 2) (lv' := [(2, .int 2), (1, .ref as23), (0, .ref a_t)]) hx hb dX5_takeCommand_70 hl (k := 0) rfl rfl (by decide) rfl (fun ls hl => ?_)
                refine lv_goto (tgt := 48) hx hb dX5_takeCommand_73 (by decide) ?_
                refine lv_iload_n hx hb dX5_takeCommand_48 rfl (lv_at hl 0 rfl) ?_
                refine lv_aload_n hx hb dX5_takeCommand_49 rfl (lv_at hl 1 rfl) ?_
                refine prV (r := 3) C JP.blind (JP.recv hjs23 hS) (fun U hU hW => JP.use hjs23 hS hU hW) (kJ0_length_8abf5 l as23 vs23 [48, 64, 48] (by decide)) mJ0_length_8abf5 qLX5_58 ⟨rfl, rfl⟩ ⟨Nat.le_of_ble_eq_true rfl, Nat.le_of_ble_eq_true rfl⟩ rfl hl.1 rfl (Nat.le_of_ble_eq_true rfl) dX5_takeCommand_50 ⟨Nat.le_of_ble_eq_true rfl, Nat.le_of_ble_eq_true rfl⟩ ?_
                refine lv_icmp_ge (tgt := 76) hx hb dX5_takeCommand_53 (by decide) (fun c33 => absurd c33 (by decide)) (fun c33 => ?_)
                refine lv_aload_n hx hb dX5_takeCommand_56 rfl (lv_at hl 2 rfl) ?_
                refine lv_aload_n hx hb dX5_takeCommand_57 rfl (lv_at hl 1 rfl) ?_
                refine lv_iload_n hx hb dX5_takeCommand_58 rfl (lv_at hl 0 rfl) ?_
                refine prV (r := 48) C JP.blind (JP.recv hjs23 hS) (fun U hU hW => JP.use hjs23 hS hU hW) (kJ0_charAt_5068e l as23 vs23 [48, 64, 48] 2 48 (by decide)) mJ0_charAt_5068e qLX5_61 ⟨rfl, rfl⟩ ⟨Nat.le_of_ble_eq_true rfl, Nat.le_of_ble_eq_true rfl⟩ rfl hl.1 rfl (Nat.le_of_ble_eq_true rfl) dX5_takeCommand_59 ⟨Nat.le_of_ble_eq_true rfl, Nat.le_of_ble_eq_true rfl⟩ ?_
                replace h := bnd h; obtain ⟨q34, e35, h⟩ := h
                refine thVi (ws1 := [(a_t, .inr (5, [.ref a_ti, .ref a_tn, .int t_len, .int q34.2.2.1, .int (sIx [119, 109, 107, 111, 98, 100] q2), .int q34.2.2.2.1, .int t_don])), (a_ti, .inl (T 2, 60, .inl v_ti)), (a_tn, .inl (T 0, 3, .inl q34.2.2.2.2))]) C hE hZ hP hD hS hA (kX5_takeSign l hZ.1 D T a_t a_ti a_tn t_len q30.2.2.1 (sIx [119, 109, 107, 111, 98, 100] q2) q30.2.2.2.1 t_don v_ti q30.2.2.2.2 48 _ q34 e35) mX5_takeSign qLX5_65 [0, 1, 2] [] 0 rfl rfl rfl rfl rfl rfl rfl rfl rfl ⟨Nat.le_of_ble_eq_true rfl, Nat.le_of_ble_eq_true rfl⟩ rfl hl.1 rfl (Nat.le_of_ble_eq_true rfl) dX5_takeCommand_62 ⟨Nat.le_of_ble_eq_true rfl, Nat.le_of_ble_eq_true rfl⟩ ?_ ?_
                · clear hP hD hS; intro hx0 H locs ce q9 hP hD hS g1 g2 g3
                  replace h := ite_f (Nat.ne_of_gt hx0) h
                  replace h := Option.some.inj h
                  exact hret.2.1 _ _ _ _ _ _ _ _ _ (Nat.le_of_ble_eq_true rfl) (Nat.le_of_ble_eq_true rfl) (by rw [← h]; exact hx0) (by rw [← h]; exact hP) hS g1 g2 (by rw [← h]; exact g3)
                · clear hP hD hS; intro hx0 H locs hP hD hS
                  replace h := ite_t hx0 h
                  refine lv_if_ne (tgt := 70) hx hb dX5_takeCommand_65 (by decide) (fun c36 => ?_) (fun c36 => ?_)
                  · replace h := ite_f c36 h
                    refine lv_iinc (v := 3) (lv' := [(2, .int 3), (1, .ref as23), (0, .ref a_t)]) hx hb dX5_takeCommand_70 hl (k := 0) rfl rfl (by decide) rfl (fun ls hl => ?_)
                    refine lv_goto (tgt := 48) hx hb dX5_takeCommand_73 (by decide) ?_
                    refine lv_iload_n hx hb dX5_takeCommand_48 rfl (lv_at hl 0 rfl) ?_
                    refine lv_aload_n hx hb dX5_takeCommand_49 rfl (lv_at hl 1 rfl) ?_
                    refine prV (r := 3) C JP.blind (JP.recv hjs23 hS) (fun U hU hW => JP.use hjs23 hS hU hW) (kJ0_length_8abf5 l as23 vs23 [48, 64, 48] (by decide)) mJ0_length_8abf5 qLX5_58 ⟨rfl, rfl⟩ ⟨Nat.le_of_ble_eq_true rfl, Nat.le_of_ble_eq_true rfl⟩ rfl hl.1 rfl (Nat.le_of_ble_eq_true rfl) dX5_takeCommand_50 ⟨Nat.le_of_ble_eq_true rfl, Nat.le_of_ble_eq_true rfl⟩ ?_
                    refine lv_icmp_ge (tgt := 76) hx hb dX5_takeCommand_53 (by decide) (fun c37 => ?_) (fun c37 => absurd c37 (by decide))
                    refine lv_aload_n hx hb dX5_takeCommand_76 rfl (lv_at hl 2 rfl) ?_
                    refine getF (q0 := 0) (k0 := 4) (v := .int (sIx [119, 109, 107, 111, 98, 100] q2)) C hE hP inA5 rfl rfl (by decide) qFX5_26 rfl rfl dX5_takeCommand_77 ?_
                    refine lv_iconst (v := 1) hx hb dX5_takeCommand_80 (by decide) ?_
                    refine lv_icmp_ne (tgt := 88) hx hb dX5_takeCommand_81 (by decide) (fun c38 => ?_) (fun c38 => ?_)
                    · replace h := ite_f c38 h
                      refine lv_iconst (v := 1) hx hb dX5_takeCommand_88 (by decide) ?_
                      replace h := Option.some.inj h
                      exact hret.1 _ _ _ _ _ _ _ _ (Nat.le_of_ble_eq_true rfl) (Nat.le_of_ble_eq_true rfl) dX5_takeCommand_89 rfl (by rw [← h]) (by rw [← h] <;> rfl) (by rw [← h]; exact hP) hS
                    · replace h := ite_t c38 h
                      refine lv_aload_n hx hb dX5_takeCommand_84 rfl (lv_at hl 2 rfl) ?_
                      replace h := bnd h; obtain ⟨q39, e40, h⟩ := h
                      refine wrVv (ws1 := [(a_t, .inr (5, [.ref a_ti, .ref a_tn, .int t_len, .int q39.1, .int (sIx [119, 109, 107, 111, 98, 100] q2), .int q34.2.2.2.1, .int t_don])), (a_ti, .inl (T 2, 60, .inl v_ti)), (a_tn, .inl (T 0, 3, .inl q39.2))]) C hE hP hD hS hA (kX5_takeSecondDigit l D T a_t a_ti a_tn t_len q34.2.2.1 (sIx [119, 109, 107, 111, 98, 100] q2) q34.2.2.2.1 t_don v_ti q34.2.2.2.2 _ q39 e40) mX5_takeSecondDigit qLX5_69 [0, 1, 2] [] 0 rfl rfl rfl rfl rfl rfl rfl rfl rfl ⟨rfl, rfl⟩ ⟨Nat.le_of_ble_eq_true rfl, Nat.le_of_ble_eq_true rfl⟩ rfl hl.1 rfl (Nat.le_of_ble_eq_true rfl) dX5_takeCommand_85 ⟨Nat.le_of_ble_eq_true rfl, Nat.le_of_ble_eq_true rfl⟩ ?_; clear hP hD hS; intro H locs hP hD hS
                      refine lv_iconst (v := 1) hx hb dX5_takeCommand_88 (by decide) ?_
                      replace h := Option.some.inj h
                      exact hret.1 _ _ _ _ _ _ _ _ (Nat.le_of_ble_eq_true rfl) (Nat.le_of_ble_eq_true rfl) dX5_takeCommand_89 rfl (by rw [← h]) (by rw [← h] <;> rfl) (by rw [← h]; exact hP) hS
                  · replace h := ite_t c36 h
                    refine lv_iconst (v := 0) hx hb dX5_takeCommand_68 (by decide) ?_
                    replace h := Option.some.inj h
                    exact hret.1 _ _ _ _ _ _ _ _ (Nat.le_of_ble_eq_true rfl) (Nat.le_of_ble_eq_true rfl) dX5_takeCommand_69 rfl (by rw [← h]) (by rw [← h] <;> rfl) (by rw [← h]; exact hP) hS
              · replace h := ite_t c32 h
                refine lv_iconst (v := 0) hx hb dX5_takeCommand_68 (by decide) ?_
                replace h := Option.some.inj h
                exact hret.1 _ _ _ _ _ _ _ _ (Nat.le_of_ble_eq_true rfl) (Nat.le_of_ble_eq_true rfl) dX5_takeCommand_69 rfl (by rw [← h]) (by rw [← h] <;> rfl) (by rw [← h]; exact hP) hS
          · replace h := ite_t c28 h
            refine lv_iconst (v := 0) hx hb dX5_takeCommand_68 (by decide) ?_
            replace h := Option.some.inj h
            exact hret.1 _ _ _ _ _ _ _ _ (Nat.le_of_ble_eq_true rfl) (Nat.le_of_ble_eq_true rfl) dX5_takeCommand_69 rfl (by rw [← h]) (by rw [← h] <;> rfl) (by rw [← h]; exact hP) hS
      · replace h := ite_f c24 h
        by_cases c42 : (sIx [119, 109, 107, 111, 98, 100] q2) = 2
        · replace h := ite_t c42 h
          obtain ⟨as41, vs41, hrs41, hjs41⟩ := eS_at (own := RX5) (k := 76) (tx := "0n0") (bs := [48, 110, 48]) hZ 3 rfl
          refine prSR C vkR_blind (fun U hU hW => hrs41.warm hW) (kX5_signsOf_2 l as41 (sIx [119, 109, 107, 111, 98, 100] q2) c42) mX5_signsOf qLX5_54 ⟨rfl, rfl⟩ ⟨Nat.le_of_ble_eq_true rfl, Nat.le_of_ble_eq_true rfl⟩ rfl hl.1 rfl (Nat.le_of_ble_eq_true rfl) dX5_takeCommand_42 ⟨Nat.le_of_ble_eq_true rfl, Nat.le_of_ble_eq_true rfl⟩ ?_
          refine lv_astore_n (lv' := [(1, .ref as41), (0, .ref a_t)]) hx hb dX5_takeCommand_45 rfl hl (by decide) rfl (fun ls hl => ?_)
          refine lv_iconst (v := 0) hx hb dX5_takeCommand_46 (by decide) ?_
          refine lv_istore_n (lv' := [(2, .int 0), (1, .ref as41), (0, .ref a_t)]) hx hb dX5_takeCommand_47 rfl hl (by decide) rfl (fun ls hl => ?_)
          refine lv_iload_n hx hb dX5_takeCommand_48 rfl (lv_at hl 0 rfl) ?_
          refine lv_aload_n hx hb dX5_takeCommand_49 rfl (lv_at hl 1 rfl) ?_
          refine prV (r := 3) C JP.blind (JP.recv hjs41 hS) (fun U hU hW => JP.use hjs41 hS hU hW) (kJ0_length_8abf5 l as41 vs41 [48, 110, 48] (by decide)) mJ0_length_8abf5 qLX5_58 ⟨rfl, rfl⟩ ⟨Nat.le_of_ble_eq_true rfl, Nat.le_of_ble_eq_true rfl⟩ rfl hl.1 rfl (Nat.le_of_ble_eq_true rfl) dX5_takeCommand_50 ⟨Nat.le_of_ble_eq_true rfl, Nat.le_of_ble_eq_true rfl⟩ ?_
          refine lv_icmp_ge (tgt := 76) hx hb dX5_takeCommand_53 (by decide) (fun c43 => absurd c43 (by decide)) (fun c43 => ?_)
          refine lv_aload_n hx hb dX5_takeCommand_56 rfl (lv_at hl 2 rfl) ?_
          refine lv_aload_n hx hb dX5_takeCommand_57 rfl (lv_at hl 1 rfl) ?_
          refine lv_iload_n hx hb dX5_takeCommand_58 rfl (lv_at hl 0 rfl) ?_
          refine prV (r := 48) C JP.blind (JP.recv hjs41 hS) (fun U hU hW => JP.use hjs41 hS hU hW) (kJ0_charAt_5068e l as41 vs41 [48, 110, 48] 0 48 (by decide)) mJ0_charAt_5068e qLX5_61 ⟨rfl, rfl⟩ ⟨Nat.le_of_ble_eq_true rfl, Nat.le_of_ble_eq_true rfl⟩ rfl hl.1 rfl (Nat.le_of_ble_eq_true rfl) dX5_takeCommand_59 ⟨Nat.le_of_ble_eq_true rfl, Nat.le_of_ble_eq_true rfl⟩ ?_
          replace h := bnd h; obtain ⟨q44, e45, h⟩ := h
          refine thVi (ws1 := [(a_t, .inr (5, [.ref a_ti, .ref a_tn, .int t_len, .int q44.2.2.1, .int (sIx [119, 109, 107, 111, 98, 100] q2), .int q44.2.2.2.1, .int t_don])), (a_ti, .inl (T 2, 60, .inl v_ti)), (a_tn, .inl (T 0, 3, .inl q44.2.2.2.2))]) C hE hZ hP hD hS hA (kX5_takeSign l hZ.1 D T a_t a_ti a_tn t_len (t_cur + 1) (sIx [119, 109, 107, 111, 98, 100] q2) 0 t_don v_ti v_tn 48 _ q44 e45) mX5_takeSign qLX5_65 [0, 1, 2] [] 0 rfl rfl rfl rfl rfl rfl rfl rfl rfl ⟨Nat.le_of_ble_eq_true rfl, Nat.le_of_ble_eq_true rfl⟩ rfl hl.1 rfl (Nat.le_of_ble_eq_true rfl) dX5_takeCommand_62 ⟨Nat.le_of_ble_eq_true rfl, Nat.le_of_ble_eq_true rfl⟩ ?_ ?_
          · clear hP hD hS; intro hx0 H locs ce q9 hP hD hS g1 g2 g3
            replace h := ite_f (Nat.ne_of_gt hx0) h
            replace h := Option.some.inj h
            exact hret.2.1 _ _ _ _ _ _ _ _ _ (Nat.le_of_ble_eq_true rfl) (Nat.le_of_ble_eq_true rfl) (by rw [← h]; exact hx0) (by rw [← h]; exact hP) hS g1 g2 (by rw [← h]; exact g3)
          · clear hP hD hS; intro hx0 H locs hP hD hS
            replace h := ite_t hx0 h
            refine lv_if_ne (tgt := 70) hx hb dX5_takeCommand_65 (by decide) (fun c46 => ?_) (fun c46 => ?_)
            · replace h := ite_f c46 h
              refine lv_iinc (v := 1) (lv' := [(2, .int 1), (1, .ref as41), (0, .ref a_t)]) hx hb dX5_takeCommand_70 hl (k := 0) rfl rfl (by decide) rfl (fun ls hl => ?_)
              refine lv_goto (tgt := 48) hx hb dX5_takeCommand_73 (by decide) ?_
              refine lv_iload_n hx hb dX5_takeCommand_48 rfl (lv_at hl 0 rfl) ?_
              refine lv_aload_n hx hb dX5_takeCommand_49 rfl (lv_at hl 1 rfl) ?_
              refine prV (r := 3) C JP.blind (JP.recv hjs41 hS) (fun U hU hW => JP.use hjs41 hS hU hW) (kJ0_length_8abf5 l as41 vs41 [48, 110, 48] (by decide)) mJ0_length_8abf5 qLX5_58 ⟨rfl, rfl⟩ ⟨Nat.le_of_ble_eq_true rfl, Nat.le_of_ble_eq_true rfl⟩ rfl hl.1 rfl (Nat.le_of_ble_eq_true rfl) dX5_takeCommand_50 ⟨Nat.le_of_ble_eq_true rfl, Nat.le_of_ble_eq_true rfl⟩ ?_
              refine lv_icmp_ge (tgt := 76) hx hb dX5_takeCommand_53 (by decide) (fun c47 => absurd c47 (by decide)) (fun c47 => ?_)
              refine lv_aload_n hx hb dX5_takeCommand_56 rfl (lv_at hl 2 rfl) ?_
              refine lv_aload_n hx hb dX5_takeCommand_57 rfl (lv_at hl 1 rfl) ?_
              refine lv_iload_n hx hb dX5_takeCommand_58 rfl (lv_at hl 0 rfl) ?_
              refine prV (r := 110) C JP.blind (JP.recv hjs41 hS) (fun U hU hW => JP.use hjs41 hS hU hW) (kJ0_charAt_5068e l as41 vs41 [48, 110, 48] 1 110 (by decide)) mJ0_charAt_5068e qLX5_61 ⟨rfl, rfl⟩ ⟨Nat.le_of_ble_eq_true rfl, Nat.le_of_ble_eq_true rfl⟩ rfl hl.1 rfl (Nat.le_of_ble_eq_true rfl) dX5_takeCommand_59 ⟨Nat.le_of_ble_eq_true rfl, Nat.le_of_ble_eq_true rfl⟩ ?_
              replace h := bnd h; obtain ⟨q48, e49, h⟩ := h
              refine thVi (ws1 := [(a_t, .inr (5, [.ref a_ti, .ref a_tn, .int t_len, .int q48.2.2.1, .int (sIx [119, 109, 107, 111, 98, 100] q2), .int q48.2.2.2.1, .int t_don])), (a_ti, .inl (T 2, 60, .inl v_ti)), (a_tn, .inl (T 0, 3, .inl q48.2.2.2.2))]) C hE hZ hP hD hS hA (kX5_takeSign l hZ.1 D T a_t a_ti a_tn t_len q44.2.2.1 (sIx [119, 109, 107, 111, 98, 100] q2) q44.2.2.2.1 t_don v_ti q44.2.2.2.2 110 _ q48 e49) mX5_takeSign qLX5_65 [0, 1, 2] [] 0 rfl rfl rfl rfl rfl rfl rfl rfl rfl ⟨Nat.le_of_ble_eq_true rfl, Nat.le_of_ble_eq_true rfl⟩ rfl hl.1 rfl (Nat.le_of_ble_eq_true rfl) dX5_takeCommand_62 ⟨Nat.le_of_ble_eq_true rfl, Nat.le_of_ble_eq_true rfl⟩ ?_ ?_
              · clear hP hD hS; intro hx0 H locs ce q9 hP hD hS g1 g2 g3
                replace h := ite_f (Nat.ne_of_gt hx0) h
                replace h := Option.some.inj h
                exact hret.2.1 _ _ _ _ _ _ _ _ _ (Nat.le_of_ble_eq_true rfl) (Nat.le_of_ble_eq_true rfl) (by rw [← h]; exact hx0) (by rw [← h]; exact hP) hS g1 g2 (by rw [← h]; exact g3)
              · clear hP hD hS; intro hx0 H locs hP hD hS
                replace h := ite_t hx0 h
                refine lv_if_ne (tgt := 70) hx hb dX5_takeCommand_65 (by decide) (fun c50 => ?_) (fun c50 => ?_)
                · replace h := ite_f c50 h
                  refine lv_iinc (v := 2) (lv' := [(2, .int 2), (1, .ref as41), (0, .ref a_t)]) hx hb dX5_takeCommand_70 hl (k := 0) rfl rfl (by decide) rfl (fun ls hl => ?_)
                  refine lv_goto (tgt := 48) hx hb dX5_takeCommand_73 (by decide) ?_
                  refine lv_iload_n hx hb dX5_takeCommand_48 rfl (lv_at hl 0 rfl) ?_
                  refine lv_aload_n hx hb dX5_takeCommand_49 rfl (lv_at hl 1 rfl) ?_
                  refine prV (r := 3) C JP.blind (JP.recv hjs41 hS) (fun U hU hW => JP.use hjs41 hS hU hW) (kJ0_length_8abf5 l as41 vs41 [48, 110, 48] (by decide)) mJ0_length_8abf5 qLX5_58 ⟨rfl, rfl⟩ ⟨Nat.le_of_ble_eq_true rfl, Nat.le_of_ble_eq_true rfl⟩ rfl hl.1 rfl (Nat.le_of_ble_eq_true rfl) dX5_takeCommand_50 ⟨Nat.le_of_ble_eq_true rfl, Nat.le_of_ble_eq_true rfl⟩ ?_
                  refine lv_icmp_ge (tgt := 76) hx hb dX5_takeCommand_53 (by decide) (fun c51 => absurd c51 (by decide)) (fun c51 => ?_)
                  refine lv_aload_n hx hb dX5_takeCommand_56 rfl (lv_at hl 2 rfl) ?_
                  refine lv_aload_n hx hb dX5_takeCommand_57 rfl (lv_at hl 1 rfl) ?_
                  refine lv_iload_n hx hb dX5_takeCommand_58 rfl (lv_at hl 0 rfl) ?_
                  refine prV (r := 48) C JP.blind (JP.recv hjs41 hS) (fun U hU hW => JP.use hjs41 hS hU hW) (kJ0_charAt_5068e l as41 vs41 [48, 110, 48] 2 48 (by decide)) mJ0_charAt_5068e qLX5_61 ⟨rfl, rfl⟩ ⟨Nat.le_of_ble_eq_true rfl, Nat.le_of_ble_eq_true rfl⟩ rfl hl.1 rfl (Nat.le_of_ble_eq_true rfl) dX5_takeCommand_59 ⟨Nat.le_of_ble_eq_true rfl, Nat.le_of_ble_eq_true rfl⟩ ?_
                  replace h := bnd h; obtain ⟨q52, e53, h⟩ := h
                  refine thVi (ws1 := [(a_t, .inr (5, [.ref a_ti, .ref a_tn, .int t_len, .int q52.2.2.1, .int (sIx [119, 109, 107, 111, 98, 100] q2), .int q52.2.2.2.1, .int t_don])), (a_ti, .inl (T 2, 60, .inl v_ti)), (a_tn, .inl (T 0, 3, .inl q52.2.2.2.2))]) C hE hZ hP hD hS hA (kX5_takeSign l hZ.1 D T a_t a_ti a_tn t_len q48.2.2.1 (sIx [119, 109, 107, 111, 98, 100] q2) q48.2.2.2.1 t_don v_ti q48.2.2.2.2 48 _ q52 e53) mX5_takeSign qLX5_65 [0, 1, 2] [] 0 rfl rfl rfl rfl rfl rfl rfl rfl rfl ⟨Nat.le_of_ble_eq_true rfl, Nat.le_of_ble_eq_true rfl⟩ rfl hl.1 rfl (Nat.le_of_ble_eq_true rfl) dX5_takeCommand_62 ⟨Nat.le_of_ble_eq_true rfl, Nat.le_of_ble_eq_true rfl⟩ ?_ ?_
                  · clear hP hD hS; intro hx0 H locs ce q9 hP hD hS g1 g2 g3
                    replace h := ite_f (Nat.ne_of_gt hx0) h
                    replace h := Option.some.inj h
                    exact hret.2.1 _ _ _ _ _ _ _ _ _ (Nat.le_of_ble_eq_true rfl) (Nat.le_of_ble_eq_true rfl) (by rw [← h]; exact hx0) (by rw [← h]; exact hP) hS g1 g2 (by rw [← h]; exact g3)
                  · clear hP hD hS; intro hx0 H locs hP hD hS
                    replace h := ite_t hx0 h
                    refine lv_if_ne (tgt := 70) hx hb dX5_takeCommand_65 (by decide) (fun c54 => ?_) (fun c54 => ?_)
                    · replace h := ite_f c54 h
                      refine lv_iinc (v := 3) (lv' := [(2, .int 3), (1, .ref as41), (0, .ref a_t)]) hx hb dX5_takeCommand_70 hl (k := 0) rfl rfl (by decide) rfl (fun ls hl => ?_)
                      refine lv_goto (tgt := 48) hx hb dX5_takeCommand_73 (by decide) ?_
                      refine lv_iload_n hx hb dX5_takeCommand_48 rfl (lv_at hl 0 rfl) ?_
                      refine lv_aload_n hx hb dX5_takeCommand_49 rfl (lv_at hl 1 rfl) ?_
                      refine prV (r := 3) C JP.blind (JP.recv hjs41 hS) (fun U hU hW => JP.use hjs41 hS hU hW) (kJ0_length_8abf5 l as41 vs41 [48, 110, 48] (by decide)) mJ0_length_8abf5 qLX5_58 ⟨rfl, rfl⟩ ⟨Nat.le_of_ble_eq_true rfl, Nat.le_of_ble_eq_true rfl⟩ rfl hl.1 rfl (Nat.le_of_ble_eq_true rfl) dX5_takeCommand_50 ⟨Nat.le_of_ble_eq_true rfl, Nat.le_of_ble_eq_true rfl⟩ ?_
                      refine lv_icmp_ge (tgt := 76) hx hb dX5_takeCommand_53 (by decide) (fun c55 => ?_) (fun c55 => absurd c55 (by decide))
                      refine lv_aload_n hx hb dX5_takeCommand_76 rfl (lv_at hl 2 rfl) ?_
                      refine getF (q0 := 0) (k0 := 4) (v := .int (sIx [119, 109, 107, 111, 98, 100] q2)) C hE hP inA5 rfl rfl (by decide) qFX5_26 rfl rfl dX5_takeCommand_77 ?_
                      refine lv_iconst (v := 1) hx hb dX5_takeCommand_80 (by decide) ?_
                      refine lv_icmp_ne (tgt := 88) hx hb dX5_takeCommand_81 (by decide) (fun c56 => ?_) (fun c56 => ?_)
                      · replace h := ite_f c56 h
                        refine lv_iconst (v := 1) hx hb dX5_takeCommand_88 (by decide) ?_
                        replace h := Option.some.inj h
                        exact hret.1 _ _ _ _ _ _ _ _ (Nat.le_of_ble_eq_true rfl) (Nat.le_of_ble_eq_true rfl) dX5_takeCommand_89 rfl (by rw [← h]) (by rw [← h] <;> rfl) (by rw [← h]; exact hP) hS
                      · replace h := ite_t c56 h
                        refine lv_aload_n hx hb dX5_takeCommand_84 rfl (lv_at hl 2 rfl) ?_
                        replace h := bnd h; obtain ⟨q57, e58, h⟩ := h
                        refine wrVv (ws1 := [(a_t, .inr (5, [.ref a_ti, .ref a_tn, .int t_len, .int q57.1, .int (sIx [119, 109, 107, 111, 98, 100] q2), .int q52.2.2.2.1, .int t_don])), (a_ti, .inl (T 2, 60, .inl v_ti)), (a_tn, .inl (T 0, 3, .inl q57.2))]) C hE hP hD hS hA (kX5_takeSecondDigit l D T a_t a_ti a_tn t_len q52.2.2.1 (sIx [119, 109, 107, 111, 98, 100] q2) q52.2.2.2.1 t_don v_ti q52.2.2.2.2 _ q57 e58) mX5_takeSecondDigit qLX5_69 [0, 1, 2] [] 0 rfl rfl rfl rfl rfl rfl rfl rfl rfl ⟨rfl, rfl⟩ ⟨Nat.le_of_ble_eq_true rfl, Nat.le_of_ble_eq_true rfl⟩ rfl hl.1 rfl (Nat.le_of_ble_eq_true rfl) dX5_takeCommand_85 ⟨Nat.le_of_ble_eq_true rfl, Nat.le_of_ble_eq_true rfl⟩ ?_; clear hP hD hS; intro H locs hP hD hS
                        refine lv_iconst (v := 1) hx hb dX5_takeCommand_88 (by decide) ?_
                        replace h := Option.some.inj h
                        exact hret.1 _ _ _ _ _ _ _ _ (Nat.le_of_ble_eq_true rfl) (Nat.le_of_ble_eq_true rfl) dX5_takeCommand_89 rfl (by rw [← h]) (by rw [← h] <;> rfl) (by rw [← h]; exact hP) hS
                    · replace h := ite_t c54 h
                      refine lv_iconst (v := 0) hx hb dX5_takeCommand_68 (by decide) ?_
                      replace h := Option.some.inj h
                      exact hret.1 _ _ _ _ _ _ _ _ (Nat.le_of_ble_eq_true rfl) (Nat.le_of_ble_eq_true rfl) dX5_takeCommand_69 rfl (by rw [← h]) (by rw [← h] <;> rfl) (by rw [← h]; exact hP) hS
                · replace h := ite_t c50 h
                  refine lv_iconst (v := 0) hx hb dX5_takeCommand_68 (by decide) ?_
                  replace h := Option.some.inj h
                  exact hret.1 _ _ _ _ _ _ _ _ (Nat.le_of_ble_eq_true rfl) (Nat.le_of_ble_eq_true rfl) dX5_takeCommand_69 rfl (by rw [← h]) (by rw [← h] <;> rfl) (by rw [← h]; exact hP) hS
            · replace h := ite_t c46 h
              refine lv_iconst (v := 0) hx hb dX5_takeCommand_68 (by decide) ?_
              replace h := Option.some.inj h
              exact hret.1 _ _ _ _ _ _ _ _ (Nat.le_of_ble_eq_true rfl) (Nat.le_of_ble_eq_true rfl) dX5_takeCommand_69 rfl (by rw [← h]) (by rw [← h] <;> rfl) (by rw [← h]; exact hP) hS
        · replace h := ite_f c42 h
          by_cases c60 : (sIx [119, 109, 107, 111, 98, 100] q2) = 3
          · replace h := ite_t c60 h
            obtain ⟨as59, vs59, hrs59, hjs59⟩ := eS_at (own := RX5) (k := 78) (tx := "0") (bs := [48]) hZ 4 rfl
            refine prSR C vkR_blind (fun U hU hW => hrs59.warm hW) (kX5_signsOf_3 l as59 (sIx [119, 109, 107, 111, 98, 100] q2) c60) mX5_signsOf qLX5_54 ⟨rfl, rfl⟩ ⟨Nat.le_of_ble_eq_true rfl, Nat.le_of_ble_eq_true rfl⟩ rfl hl.1 rfl (Nat.le_of_ble_eq_true rfl) dX5_takeCommand_42 ⟨Nat.le_of_ble_eq_true rfl, Nat.le_of_ble_eq_true rfl⟩ ?_
            refine lv_astore_n (lv' := [(1, .ref as59), (0, .ref a_t)]) hx hb dX5_takeCommand_45 rfl hl (by decide) rfl (fun ls hl => ?_)
            refine lv_iconst (v := 0) hx hb dX5_takeCommand_46 (by decide) ?_
            refine lv_istore_n (lv' := [(2, .int 0), (1, .ref as59), (0, .ref a_t)]) hx hb dX5_takeCommand_47 rfl hl (by decide) rfl (fun ls hl => ?_)
            refine lv_iload_n hx hb dX5_takeCommand_48 rfl (lv_at hl 0 rfl) ?_
            refine lv_aload_n hx hb dX5_takeCommand_49 rfl (lv_at hl 1 rfl) ?_
            refine prV (r := 1) C JP.blind (JP.recv hjs59 hS) (fun U hU hW => JP.use hjs59 hS hU hW) (kJ0_length_8abf5 l as59 vs59 [48] (by decide)) mJ0_length_8abf5 qLX5_58 ⟨rfl, rfl⟩ ⟨Nat.le_of_ble_eq_true rfl, Nat.le_of_ble_eq_true rfl⟩ rfl hl.1 rfl (Nat.le_of_ble_eq_true rfl) dX5_takeCommand_50 ⟨Nat.le_of_ble_eq_true rfl, Nat.le_of_ble_eq_true rfl⟩ ?_
            refine lv_icmp_ge (tgt := 76) hx hb dX5_takeCommand_53 (by decide) (fun c61 => absurd c61 (by decide)) (fun c61 => ?_)
            refine lv_aload_n hx hb dX5_takeCommand_56 rfl (lv_at hl 2 rfl) ?_
            refine lv_aload_n hx hb dX5_takeCommand_57 rfl (lv_at hl 1 rfl) ?_
            refine lv_iload_n hx hb dX5_takeCommand_58 rfl (lv_at hl 0 rfl) ?_
            refine prV (r := 48) C JP.blind (JP.recv hjs59 hS) (fun U hU hW => JP.use hjs59 hS hU hW) (kJ0_charAt_5068e l as59 vs59 [48] 0 48 (by decide)) mJ0_charAt_5068e qLX5_61 ⟨rfl, rfl⟩ ⟨Nat.le_of_ble_eq_true rfl, Nat.le_of_ble_eq_true rfl⟩ rfl hl.1 rfl (Nat.le_of_ble_eq_true rfl) dX5_takeCommand_59 ⟨Nat.le_of_ble_eq_true rfl, Nat.le_of_ble_eq_true rfl⟩ ?_
            replace h := bnd h; obtain ⟨q62, e63, h⟩ := h
            refine thVi (ws1 := [(a_t, .inr (5, [.ref a_ti, .ref a_tn, .int t_len, .int q62.2.2.1, .int (sIx [119, 109, 107, 111, 98, 100] q2), .int q62.2.2.2.1, .int t_don])), (a_ti, .inl (T 2, 60, .inl v_ti)), (a_tn, .inl (T 0, 3, .inl q62.2.2.2.2))]) C hE hZ hP hD hS hA (kX5_takeSign l hZ.1 D T a_t a_ti a_tn t_len (t_cur + 1) (sIx [119, 109, 107, 111, 98, 100] q2) 0 t_don v_ti v_tn 48 _ q62 e63) mX5_takeSign qLX5_65 [0, 1, 2] [] 0 rfl rfl rfl rfl rfl rfl rfl rfl rfl ⟨Nat.le_of_ble_eq_true rfl, Nat.le_of_ble_eq_true rfl⟩ rfl hl.1 rfl (Nat.le_of_ble_eq_true rfl) dX5_takeCommand_62 ⟨Nat.le_of_ble_eq_true rfl, Nat.le_of_ble_eq_true rfl⟩ ?_ ?_
            · clear hP hD hS; intro hx0 H locs ce q9 hP hD hS g1 g2 g3
              replace h := ite_f (Nat.ne_of_gt hx0) h
              replace h := Option.some.inj h
              exact hret.2.1 _ _ _ _ _ _ _ _ _ (Nat.le_of_ble_eq_true rfl) (Nat.le_of_ble_eq_true rfl) (by rw [← h]; exact hx0) (by rw [← h]; exact hP) hS g1 g2 (by rw [← h]; exact g3)
            · clear hP hD hS; intro hx0 H locs hP hD hS
              replace h := ite_t hx0 h
              refine lv_if_ne (tgt := 70) hx hb dX5_takeCommand_65 (by decide) (fun c64 => ?_) (fun c64 => ?_)
              · replace h := ite_f c64 h
                refine lv_iinc (v := 1) (lv' := [(2, .int 1), (1, .ref as59), (0, .ref a_t)]) hx hb dX5_takeCommand_70 hl (k := 0) rfl rfl (by decide) rfl (fun ls hl => ?_)
                refine lv_goto (tgt := 48) hx hb dX5_takeCommand_73 (by decide) ?_
                refine lv_iload_n hx hb dX5_takeCommand_48 rfl (lv_at hl 0 rfl) ?_
                refine lv_aload_n hx hb dX5_takeCommand_49 rfl (lv_at hl 1 rfl) ?_
                refine prV (r := 1) C JP.blind (JP.recv hjs59 hS) (fun U hU hW => JP.use hjs59 hS hU hW) (kJ0_length_8abf5 l as59 vs59 [48] (by decide)) mJ0_length_8abf5 qLX5_58 ⟨rfl, rfl⟩ ⟨Nat.le_of_ble_eq_true rfl, Nat.le_of_ble_eq_true rfl⟩ rfl hl.1 rfl (Nat.le_of_ble_eq_true rfl) dX5_takeCommand_50 ⟨Nat.le_of_ble_eq_true rfl, Nat.le_of_ble_eq_true rfl⟩ ?_
                refine lv_icmp_ge (tgt := 76) hx hb dX5_takeCommand_53 (by decide) (fun c65 => ?_) (fun c65 => absurd c65 (by decide))
                refine lv_aload_n hx hb dX5_takeCommand_76 rfl (lv_at hl 2 rfl) ?_
                refine getF (q0 := 0) (k0 := 4) (v := .int (sIx [119, 109, 107, 111, 98, 100] q2)) C hE hP inA5 rfl rfl (by decide) qFX5_26 rfl rfl dX5_takeCommand_77 ?_
                refine lv_iconst (v := 1) hx hb dX5_takeCommand_80 (by decide) ?_
                refine lv_icmp_ne (tgt := 88) hx hb dX5_takeCommand_81 (by decide) (fun c66 => ?_) (fun c66 => ?_)
                · replace h := ite_f c66 h
                  refine lv_iconst (v := 1) hx hb dX5_takeCommand_88 (by decide) ?_
                  replace h := Option.some.inj h
                  exact hret.1 _ _ _ _ _ _ _ _ (Nat.le_of_ble_eq_true rfl) (Nat.le_of_ble_eq_true rfl) dX5_takeCommand_89 rfl (by rw [← h]) (by rw [← h] <;> rfl) (by rw [← h]; exact hP) hS
                · replace h := ite_t c66 h
                  refine lv_aload_n hx hb dX5_takeCommand_84 rfl (lv_at hl 2 rfl) ?_
                  replace h := bnd h; obtain ⟨q67, e68, h⟩ := h
                  refine wrVv (ws1 := [(a_t, .inr (5, [.ref a_ti, .ref a_tn, .int t_len, .int q67.1, .int (sIx [119, 109, 107, 111, 98, 100] q2), .int q62.2.2.2.1, .int t_don])), (a_ti, .inl (T 2, 60, .inl v_ti)), (a_tn, .inl (T 0, 3, .inl q67.2))]) C hE hP hD hS hA (kX5_takeSecondDigit l D T a_t a_ti a_tn t_len q62.2.2.1 (sIx [119, 109, 107, 111, 98, 100] q2) q62.2.2.2.1 t_don v_ti q62.2.2.2.2 _ q67 e68) mX5_takeSecondDigit qLX5_69 [0, 1, 2] [] 0 rfl rfl rfl rfl rfl rfl rfl rfl rfl ⟨rfl, rfl⟩ ⟨Nat.le_of_ble_eq_true rfl, Nat.le_of_ble_eq_true rfl⟩ rfl hl.1 rfl (Nat.le_of_ble_eq_true rfl) dX5_takeCommand_85 ⟨Nat.le_of_ble_eq_true rfl, Nat.le_of_ble_eq_true rfl⟩ ?_; clear hP hD hS; intro H locs hP hD hS
                  refine lv_iconst (v := 1) hx hb dX5_takeCommand_88 (by decide) ?_
                  replace h := Option.some.inj h
                  exact hret.1 _ _ _ _ _ _ _ _ (Nat.le_of_ble_eq_true rfl) (Nat.le_of_ble_eq_true rfl) dX5_takeCommand_89 rfl (by rw [← h]) (by rw [← h] <;> rfl) (by rw [← h]; exact hP) hS
              · replace h := ite_t c64 h
                refine lv_iconst (v := 0) hx hb dX5_takeCommand_68 (by decide) ?_
                replace h := Option.some.inj h
                exact hret.1 _ _ _ _ _ _ _ _ (Nat.le_of_ble_eq_true rfl) (Nat.le_of_ble_eq_true rfl) dX5_takeCommand_69 rfl (by rw [← h]) (by rw [← h] <;> rfl) (by rw [← h]; exact hP) hS
          · replace h := ite_f c60 h
            by_cases c70 : (sIx [119, 109, 107, 111, 98, 100] q2) = 4
            · replace h := ite_t c70 h
              obtain ⟨as69, vs69, hrs69, hjs69⟩ := eS_at (own := RX5) (k := 80) (tx := "00") (bs := [48, 48]) hZ 5 rfl
              refine prSR C vkR_blind (fun U hU hW => hrs69.warm hW) (kX5_signsOf_4 l as69 (sIx [119, 109, 107, 111, 98, 100] q2) c70) mX5_signsOf qLX5_54 ⟨rfl, rfl⟩ ⟨Nat.le_of_ble_eq_true rfl, Nat.le_of_ble_eq_true rfl⟩ rfl hl.1 rfl (Nat.le_of_ble_eq_true rfl) dX5_takeCommand_42 ⟨Nat.le_of_ble_eq_true rfl, Nat.le_of_ble_eq_true rfl⟩ ?_
              refine lv_astore_n (lv' := [(1, .ref as69), (0, .ref a_t)]) hx hb dX5_takeCommand_45 rfl hl (by decide) rfl (fun ls hl => ?_)
              refine lv_iconst (v := 0) hx hb dX5_takeCommand_46 (by decide) ?_
              refine lv_istore_n (lv' := [(2, .int 0), (1, .ref as69), (0, .ref a_t)]) hx hb dX5_takeCommand_47 rfl hl (by decide) rfl (fun ls hl => ?_)
              refine lv_iload_n hx hb dX5_takeCommand_48 rfl (lv_at hl 0 rfl) ?_
              refine lv_aload_n hx hb dX5_takeCommand_49 rfl (lv_at hl 1 rfl) ?_
              refine prV (r := 2) C JP.blind (JP.recv hjs69 hS) (fun U hU hW => JP.use hjs69 hS hU hW) (kJ0_length_8abf5 l as69 vs69 [48, 48] (by decide)) mJ0_length_8abf5 qLX5_58 ⟨rfl, rfl⟩ ⟨Nat.le_of_ble_eq_true rfl, Nat.le_of_ble_eq_true rfl⟩ rfl hl.1 rfl (Nat.le_of_ble_eq_true rfl) dX5_takeCommand_50 ⟨Nat.le_of_ble_eq_true rfl, Nat.le_of_ble_eq_true rfl⟩ ?_
              refine lv_icmp_ge (tgt := 76) hx hb dX5_takeCommand_53 (by decide) (fun c71 => absurd c71 (by decide)) (fun c71 => ?_)
              refine lv_aload_n hx hb dX5_takeCommand_56 rfl (lv_at hl 2 rfl) ?_
              refine lv_aload_n hx hb dX5_takeCommand_57 rfl (lv_at hl 1 rfl) ?_
              refine lv_iload_n hx hb dX5_takeCommand_58 rfl (lv_at hl 0 rfl) ?_
              refine prV (r := 48) C JP.blind (JP.recv hjs69 hS) (fun U hU hW => JP.use hjs69 hS hU hW) (kJ0_charAt_5068e l as69 vs69 [48, 48] 0 48 (by decide)) mJ0_charAt_5068e qLX5_61 ⟨rfl, rfl⟩ ⟨Nat.le_of_ble_eq_true rfl, Nat.le_of_ble_eq_true rfl⟩ rfl hl.1 rfl (Nat.le_of_ble_eq_true rfl) dX5_takeCommand_59 ⟨Nat.le_of_ble_eq_true rfl, Nat.le_of_ble_eq_true rfl⟩ ?_
              replace h := bnd h; obtain ⟨q72, e73, h⟩ := h
              refine thVi (ws1 := [(a_t, .inr (5, [.ref a_ti, .ref a_tn, .int t_len, .int q72.2.2.1, .int (sIx [119, 109, 107, 111, 98, 100] q2), .int q72.2.2.2.1, .int t_don])), (a_ti, .inl (T 2, 60, .inl v_ti)), (a_tn, .inl (T 0, 3, .inl q72.2.2.2.2))]) C hE hZ hP hD hS hA (kX5_takeSign l hZ.1 D T a_t a_ti a_tn t_len (t_cur + 1) (sIx [119, 109, 107, 111, 98, 100] q2) 0 t_don v_ti v_tn 48 _ q72 e73) mX5_takeSign qLX5_65 [0, 1, 2] [] 0 rfl rfl rfl rfl rfl rfl rfl rfl rfl ⟨Nat.le_of_ble_eq_true rfl, Nat.le_of_ble_eq_true rfl⟩ rfl hl.1 rfl (Nat.le_of_ble_eq_true rfl) dX5_takeCommand_62 ⟨Nat.le_of_ble_eq_true rfl, Nat.le_of_ble_eq_true rfl⟩ ?_ ?_
              · clear hP hD hS; intro hx0 H locs ce q9 hP hD hS g1 g2 g3
                replace h := ite_f (Nat.ne_of_gt hx0) h
                replace h := Option.some.inj h
                exact hret.2.1 _ _ _ _ _ _ _ _ _ (Nat.le_of_ble_eq_true rfl) (Nat.le_of_ble_eq_true rfl) (by rw [← h]; exact hx0) (by rw [← h]; exact hP) hS g1 g2 (by rw [← h]; exact g3)
              · clear hP hD hS; intro hx0 H locs hP hD hS
                replace h := ite_t hx0 h
                refine lv_if_ne (tgt := 70) hx hb dX5_takeCommand_65 (by decide) (fun c74 => ?_) (fun c74 => ?_)
                · replace h := ite_f c74 h
                  refine lv_iinc (v := 1) (lv' := [(2, .int 1), (1, .ref as69), (0, .ref a_t)]) hx hb dX5_takeCommand_70 hl (k := 0) rfl rfl (by decide) rfl (fun ls hl => ?_)
                  refine lv_goto (tgt := 48) hx hb dX5_takeCommand_73 (by decide) ?_
                  refine lv_iload_n hx hb dX5_takeCommand_48 rfl (lv_at hl 0 rfl) ?_
                  refine lv_aload_n hx hb dX5_takeCommand_49 rfl (lv_at hl 1 rfl) ?_
                  refine prV (r := 2) C JP.blind (JP.recv hjs69 hS) (fun U hU hW => JP.use hjs69 hS hU hW) (kJ0_length_8abf5 l as69 vs69 [48, 48] (by decide)) mJ0_length_8abf5 qLX5_58 ⟨rfl, rfl⟩ ⟨Nat.le_of_ble_eq_true rfl, Nat.le_of_ble_eq_true rfl⟩ rfl hl.1 rfl (Nat.le_of_ble_eq_true rfl) dX5_takeCommand_50 ⟨Nat.le_of_ble_eq_true rfl, Nat.le_of_ble_eq_true rfl⟩ ?_
                  refine lv_icmp_ge (tgt := 76) hx hb dX5_takeCommand_53 (by decide) (fun c75 => absurd c75 (by decide)) (fun c75 => ?_)
                  refine lv_aload_n hx hb dX5_takeCommand_56 rfl (lv_at hl 2 rfl) ?_
                  refine lv_aload_n hx hb dX5_takeCommand_57 rfl (lv_at hl 1 rfl) ?_
                  refine lv_iload_n hx hb dX5_takeCommand_58 rfl (lv_at hl 0 rfl) ?_
                  refine prV (r := 48) C JP.blind (JP.recv hjs69 hS) (fun U hU hW => JP.use hjs69 hS hU hW) (kJ0_charAt_5068e l as69 vs69 [48, 48] 1 48 (by decide)) mJ0_charAt_5068e qLX5_61 ⟨rfl, rfl⟩ ⟨Nat.le_of_ble_eq_true rfl, Nat.le_of_ble_eq_true rfl⟩ rfl hl.1 rfl (Nat.le_of_ble_eq_true rfl) dX5_takeCommand_59 ⟨Nat.le_of_ble_eq_true rfl, Nat.le_of_ble_eq_true rfl⟩ ?_
                  replace h := bnd h; obtain ⟨q76, e77, h⟩ := h
                  refine thVi (ws1 := [(a_t, .inr (5, [.ref a_ti, .ref a_tn, .int t_len, .int q76.2.2.1, .int (sIx [119, 109, 107, 111, 98, 100] q2), .int q76.2.2.2.1, .int t_don])), (a_ti, .inl (T 2, 60, .inl v_ti)), (a_tn, .inl (T 0, 3, .inl q76.2.2.2.2))]) C hE hZ hP hD hS hA (kX5_takeSign l hZ.1 D T a_t a_ti a_tn t_len q72.2.2.1 (sIx [119, 109, 107, 111, 98, 100] q2) q72.2.2.2.1 t_don v_ti q72.2.2.2.2 48 _ q76 e77) mX5_takeSign qLX5_65 [0, 1, 2] [] 0 rfl rfl rfl rfl rfl rfl rfl rfl rfl ⟨Nat.le_of_ble_eq_true rfl, Nat.le_of_ble_eq_true rfl⟩ rfl hl.1 rfl (Nat.le_of_ble_eq_true rfl) dX5_takeCommand_62 ⟨Nat.le_of_ble_eq_true rfl, Nat.le_of_ble_eq_true rfl⟩ ?_ ?_
                  · clear hP hD hS; intro hx0 H locs ce q9 hP hD hS g1 g2 g3
                    replace h := ite_f (Nat.ne_of_gt hx0) h
                    replace h := Option.some.inj h
                    exact hret.2.1 _ _ _ _ _ _ _ _ _ (Nat.le_of_ble_eq_true rfl) (Nat.le_of_ble_eq_true rfl) (by rw [← h]; exact hx0) (by rw [← h]; exact hP) hS g1 g2 (by rw [← h]; exact g3)
                  · clear hP hD hS; intro hx0 H locs hP hD hS
                    replace h := ite_t hx0 h
                    refine lv_if_ne (tgt := 70) hx hb dX5_takeCommand_65 (by decide) (fun c78 => ?_) (fun c78 => ?_)
                    · replace h := ite_f c78 h
                      refine lv_iinc (v := 2) (lv' := [(2, .int 2), (1, .ref as69), (0, .ref a_t)]) hx hb dX5_takeCommand_70 hl (k := 0) rfl rfl (by decide) rfl (fun ls hl => ?_)
                      refine lv_goto (tgt := 48) hx hb dX5_takeCommand_73 (by decide) ?_
                      refine lv_iload_n hx hb dX5_takeCommand_48 rfl (lv_at hl 0 rfl) ?_
                      refine lv_aload_n hx hb dX5_takeCommand_49 rfl (lv_at hl 1 rfl) ?_
                      refine prV (r := 2) C JP.blind (JP.recv hjs69 hS) (fun U hU hW => JP.use hjs69 hS hU hW) (kJ0_length_8abf5 l as69 vs69 [48, 48] (by decide)) mJ0_length_8abf5 qLX5_58 ⟨rfl, rfl⟩ ⟨Nat.le_of_ble_eq_true rfl, Nat.le_of_ble_eq_true rfl⟩ rfl hl.1 rfl (Nat.le_of_ble_eq_true rfl) dX5_takeCommand_50 ⟨Nat.le_of_ble_eq_true rfl, Nat.le_of_ble_eq_true rfl⟩ ?_
                      refine lv_icmp_ge (tgt := 76) hx hb dX5_takeCommand_53 (by decide) (fun c79 => ?_) (fun c79 => absurd c79 (by decide))
                      refine lv_aload_n hx hb dX5_takeCommand_76 rfl (lv_at hl 2 rfl) ?_
                      refine getF (q0 := 0) (k0 := 4) (v := .int (sIx [119, 109, 107, 111, 98, 100] q2)) C hE hP inA5 rfl rfl (by decide) qFX5_26 rfl rfl dX5_takeCommand_77 ?_
                      refine lv_iconst (v := 1) hx hb dX5_takeCommand_80 (by decide) ?_
                      refine lv_icmp_ne (tgt := 88) hx hb dX5_takeCommand_81 (by decide) (fun c80 => ?_) (fun c80 => ?_)
                      · replace h := ite_f c80 h
                        refine lv_iconst (v := 1) hx hb dX5_takeCommand_88 (by decide) ?_
                        replace h := Option.some.inj h
                        exact hret.1 _ _ _ _ _ _ _ _ (Nat.le_of_ble_eq_true rfl) (Nat.le_of_ble_eq_true rfl) dX5_takeCommand_89 rfl (by rw [← h]) (by rw [← h] <;> rfl) (by rw [← h]; exact hP) hS
                      · replace h := ite_t c80 h
                        refine lv_aload_n hx hb dX5_takeCommand_84 rfl (lv_at hl 2 rfl) ?_
                        replace h := bnd h; obtain ⟨q81, e82, h⟩ := h
                        refine wrVv (ws1 := [(a_t, .inr (5, [.ref a_ti, .ref a_tn, .int t_len, .int q81.1, .int (sIx [119, 109, 107, 111, 98, 100] q2), .int q76.2.2.2.1, .int t_don])), (a_ti, .inl (T 2, 60, .inl v_ti)), (a_tn, .inl (T 0, 3, .inl q81.2))]) C hE hP hD hS hA (kX5_takeSecondDigit l D T a_t a_ti a_tn t_len q76.2.2.1 (sIx [119, 109, 107, 111, 98, 100] q2) q76.2.2.2.1 t_don v_ti q76.2.2.2.2 _ q81 e82) mX5_takeSecondDigit qLX5_69 [0, 1, 2] [] 0 rfl rfl rfl rfl rfl rfl rfl rfl rfl ⟨rfl, rfl⟩ ⟨Nat.le_of_ble_eq_true rfl, Nat.le_of_ble_eq_true rfl⟩ rfl hl.1 rfl (Nat.le_of_ble_eq_true rfl) dX5_takeCommand_85 ⟨Nat.le_of_ble_eq_true rfl, Nat.le_of_ble_eq_true rfl⟩ ?_; clear hP hD hS; intro H locs hP hD hS
                        refine lv_iconst (v := 1) hx hb dX5_takeCommand_88 (by decide) ?_
                        replace h := Option.some.inj h
                        exact hret.1 _ _ _ _ _ _ _ _ (Nat.le_of_ble_eq_true rfl) (Nat.le_of_ble_eq_true rfl) dX5_takeCommand_89 rfl (by rw [← h]) (by rw [← h] <;> rfl) (by rw [← h]; exact hP) hS
                    · replace h := ite_t c78 h
                      refine lv_iconst (v := 0) hx hb dX5_takeCommand_68 (by decide) ?_
                      replace h := Option.some.inj h
                      exact hret.1 _ _ _ _ _ _ _ _ (Nat.le_of_ble_eq_true rfl) (Nat.le_of_ble_eq_true rfl) dX5_takeCommand_69 rfl (by rw [← h]) (by rw [← h] <;> rfl) (by rw [← h]; exact hP) hS
                · replace h := ite_t c74 h
                  refine lv_iconst (v := 0) hx hb dX5_takeCommand_68 (by decide) ?_
                  replace h := Option.some.inj h
                  exact hret.1 _ _ _ _ _ _ _ _ (Nat.le_of_ble_eq_true rfl) (Nat.le_of_ble_eq_true rfl) dX5_takeCommand_69 rfl (by rw [← h]) (by rw [← h] <;> rfl) (by rw [← h]; exact hP) hS
            · replace h := ite_f c70 h
              obtain ⟨as83, vs83, hrs83, hjs83⟩ := eS_at (own := RX5) (k := 82) (tx := "") (bs := []) hZ 6 rfl
              refine prSR C vkR_blind (fun U hU hW => hrs83.warm hW) (kX5_signsOf_5 l as83 (sIx [119, 109, 107, 111, 98, 100] q2) c6 c24 c42 c60 c70) mX5_signsOf qLX5_54 ⟨rfl, rfl⟩ ⟨Nat.le_of_ble_eq_true rfl, Nat.le_of_ble_eq_true rfl⟩ rfl hl.1 rfl (Nat.le_of_ble_eq_true rfl) dX5_takeCommand_42 ⟨Nat.le_of_ble_eq_true rfl, Nat.le_of_ble_eq_true rfl⟩ ?_
              refine lv_astore_n (lv' := [(1, .ref as83), (0, .ref a_t)]) hx hb dX5_takeCommand_45 rfl hl (by decide) rfl (fun ls hl => ?_)
              refine lv_iconst (v := 0) hx hb dX5_takeCommand_46 (by decide) ?_
              refine lv_istore_n (lv' := [(2, .int 0), (1, .ref as83), (0, .ref a_t)]) hx hb dX5_takeCommand_47 rfl hl (by decide) rfl (fun ls hl => ?_)
              refine lv_iload_n hx hb dX5_takeCommand_48 rfl (lv_at hl 0 rfl) ?_
              refine lv_aload_n hx hb dX5_takeCommand_49 rfl (lv_at hl 1 rfl) ?_
              refine prV (r := 0) C JP.blind (JP.recv hjs83 hS) (fun U hU hW => JP.use hjs83 hS hU hW) (kJ0_length_8abf5 l as83 vs83 [] (by decide)) mJ0_length_8abf5 qLX5_58 ⟨rfl, rfl⟩ ⟨Nat.le_of_ble_eq_true rfl, Nat.le_of_ble_eq_true rfl⟩ rfl hl.1 rfl (Nat.le_of_ble_eq_true rfl) dX5_takeCommand_50 ⟨Nat.le_of_ble_eq_true rfl, Nat.le_of_ble_eq_true rfl⟩ ?_
              refine lv_icmp_ge (tgt := 76) hx hb dX5_takeCommand_53 (by decide) (fun c85 => ?_) (fun c85 => absurd c85 (by decide))
              refine lv_aload_n hx hb dX5_takeCommand_76 rfl (lv_at hl 2 rfl) ?_
              refine getF (q0 := 0) (k0 := 4) (v := .int (sIx [119, 109, 107, 111, 98, 100] q2)) C hE hP inA5 rfl rfl (by decide) qFX5_26 rfl rfl dX5_takeCommand_77 ?_
              refine lv_iconst (v := 1) hx hb dX5_takeCommand_80 (by decide) ?_
              refine lv_icmp_ne (tgt := 88) hx hb dX5_takeCommand_81 (by decide) (fun c86 => ?_) (fun c86 => ?_)
              · replace h := ite_f c86 h
                refine lv_iconst (v := 1) hx hb dX5_takeCommand_88 (by decide) ?_
                replace h := Option.some.inj h
                exact hret.1 _ _ _ _ _ _ _ _ (Nat.le_of_ble_eq_true rfl) (Nat.le_of_ble_eq_true rfl) dX5_takeCommand_89 rfl (by rw [← h]) (by rw [← h] <;> rfl) (by rw [← h]; exact hP) hS
              · replace h := ite_t c86 h
                refine lv_aload_n hx hb dX5_takeCommand_84 rfl (lv_at hl 2 rfl) ?_
                replace h := bnd h; obtain ⟨q87, e88, h⟩ := h
                refine wrVv (ws1 := [(a_t, .inr (5, [.ref a_ti, .ref a_tn, .int t_len, .int q87.1, .int (sIx [119, 109, 107, 111, 98, 100] q2), .int 0, .int t_don])), (a_ti, .inl (T 2, 60, .inl v_ti)), (a_tn, .inl (T 0, 3, .inl q87.2))]) C hE hP hD hS hA (kX5_takeSecondDigit l D T a_t a_ti a_tn t_len (t_cur + 1) (sIx [119, 109, 107, 111, 98, 100] q2) 0 t_don v_ti v_tn _ q87 e88) mX5_takeSecondDigit qLX5_69 [0, 1, 2] [] 0 rfl rfl rfl rfl rfl rfl rfl rfl rfl ⟨rfl, rfl⟩ ⟨Nat.le_of_ble_eq_true rfl, Nat.le_of_ble_eq_true rfl⟩ rfl hl.1 rfl (Nat.le_of_ble_eq_true rfl) dX5_takeCommand_85 ⟨Nat.le_of_ble_eq_true rfl, Nat.le_of_ble_eq_true rfl⟩ ?_; clear hP hD hS; intro H locs hP hD hS
                refine lv_iconst (v := 1) hx hb dX5_takeCommand_88 (by decide) ?_
                replace h := Option.some.inj h
                exact hret.1 _ _ _ _ _ _ _ _ (Nat.le_of_ble_eq_true rfl) (Nat.le_of_ble_eq_true rfl) dX5_takeCommand_89 rfl (by rw [← h]) (by rw [← h] <;> rfl) (by rw [← h]; exact hP) hS
  · replace h := ite_t c4 h
    refine lv_iconst (v := 0) hx hb dX5_takeCommand_26 (by decide) ?_
    replace h := Option.some.inj h
    exact hret.1 _ _ _ _ _ _ _ _ (Nat.le_of_ble_eq_true rfl) (Nat.le_of_ble_eq_true rfl) dX5_takeCommand_27 rfl (by rw [← h]) (by rw [← h] <;> rfl) (by rw [← h]; exact hP) hS

def fX5_errorAt_6 (t_len : Int32) (v_ti : Nat → Int32) : Nat → Int32 → Int32 → Int32 → Int32 → Int32 → (Nat → Int32) → Option (Nat × Int32 × Int32 × Int32 × Int32 × Int32 × (Nat → Int32))
  | 0, _, _, _, _, _, _ => none
  | k + 1, l1, t_cur, t_kin, t_tol, t_don, v_tn =>
    if 60 < l1 then
      some (0, t_cur, t_cur, t_kin, t_tol, t_don, v_tn)
    else
      (fX5_takeCommand t_len t_cur t_kin t_tol v_ti v_tn).bind fun q4 =>
      if q4.1 = 0 then
        if q4.2.1 = 0 then
          some (0, q4.2.2.1, q4.2.2.1, q4.2.2.2.1, q4.2.2.2.2.1, t_don, q4.2.2.2.2.2)
        else
          if q4.2.2.1 < t_len then
            (fX5_here t_len q4.2.2.1 v_ti).bind fun q8 =>
            if q8 = 59 then
              fX5_errorAt_6 t_len v_ti k (l1 + 1) (q4.2.2.1 + 1) q4.2.2.2.1 q4.2.2.2.2.1 t_don q4.2.2.2.2.2
            else
              some (0, q4.2.2.1, q4.2.2.1, q4.2.2.2.1, q4.2.2.2.2.1, t_don, q4.2.2.2.2.2)
          else
            some (0, (-1), q4.2.2.1, q4.2.2.2.1, q4.2.2.2.2.1, t_don, q4.2.2.2.2.2)
      else
        some (q4.1, 0, q4.2.2.1, q4.2.2.2.1, q4.2.2.2.2.1, t_don, q4.2.2.2.2.2)
def fX5_errorAt (t_len : Int32) (t_cur : Int32) (t_kin : Int32) (t_tol : Int32) (t_don : Int32) (v_ti : Nat → Int32) (v_tn : Nat → Int32) : Option (Nat × Int32 × Int32 × Int32 × Int32 × Int32 × (Nat → Int32)) :=
  (fX5_rewind t_cur t_don).bind fun q1 =>
  fX5_errorAt_6 t_len v_ti 64 0 q1.1 t_kin t_tol q1.2 v_tn
set_option maxHeartbeats 4000000 in
set_option maxRecDepth 100000 in
theorem lX5_errorAt_6 {p : Program} {l : Launch} {e : Env} {s : State} {m : MethodId} {args : Array Value} {below : List Frame} {meth : Method} {c : Code} {Q : State → Prop} {D : va_G} {T : Nat → ClassId} {a_t a_ti a_tn : Nat} {t_len : Int32} {v_ti : Nat → Int32} {A : Nat → Prop} {r : Nat × Int32 × Int32 × Int32 × Int32 × Int32 × (Nat → Int32)} (C : CallFix p m c cX5_errorAt 2 s args aw RX5) (hE : eK D T s) (hA : ∀ q : Nat, s.heap.size ≤ q → A q) (hZ : eX l A s) (hret : ThRetI p l e ({ frames := 6, cells := 0, slots := 0, locals := 150 } : Room) s m args below meth c Q cX5_errorAt .int D A [(a_t, .inr (5, [.ref a_ti, .ref a_tn, .int t_len, .int r.2.2.1, .int r.2.2.2.1, .int r.2.2.2.2.1, .int r.2.2.2.2.2.1])), (a_ti, .inl (T 2, 60, .inl v_ti)), (a_tn, .inl (T 0, 3, .inl r.2.2.2.2.2.2))] r.1 r.2.1 ∧ ThOut p l e ({ frames := 6, cells := 0, slots := 0, locals := 150 } : Room) s m args below meth c Q D A [(a_t, .inr (5, [.ref a_ti, .ref a_tn, .int t_len, .int r.2.2.1, .int r.2.2.2.1, .int r.2.2.2.2.1, .int r.2.2.2.2.2.1])), (a_ti, .inl (T 2, 60, .inl v_ti)), (a_tn, .inl (T 0, 3, .inl r.2.2.2.2.2.2))] r.1 ∧ ThThr p l e ({ frames := 6, cells := 0, slots := 0, locals := 150 } : Room) s m args below meth c Q cX5_errorAt RX5 D A [(a_t, .inr (5, [.ref a_ti, .ref a_tn, .int t_len, .int r.2.2.1, .int r.2.2.2.1, .int r.2.2.2.2.1, .int r.2.2.2.2.2.1])), (a_ti, .inl (T 2, 60, .inl v_ti)), (a_tn, .inl (T 0, 3, .inl r.2.2.2.2.2.2))] r.1) : ∀ (k : Nat) (l1 : Int32) (t_cur : Int32) (t_kin : Int32) (t_tol : Int32) (t_don : Int32) (v_tn : Nat → Int32) {H : Heap} {locs : List Loc} (hPD : va_PD D A [(a_t, .inr (5, [.ref a_ti, .ref a_tn, .int t_len, .int t_cur, .int t_kin, .int t_tol, .int t_don])), (a_ti, .inl (T 2, 60, .inl v_ti)), (a_tn, .inl (T 0, 3, .inl v_tn))] H) (hS : va_S A s.heap H locs) (ls : Array Slot) (hl : lv_has ls 2 [(0, .ref a_t), (1, .int l1)]) (h : fX5_errorAt_6 t_len v_ti k l1 t_cur t_kin t_tol t_don v_tn = some r), W p l e ({ frames := 6, cells := 0, slots := 0, locals := 150 } : Room) s m args below meth c H locs 0 0 Q (F0 m 6 ls []) := by
  have hx := C.1
  have hb := C.2.1
  intro k
  induction k with
  | zero =>
    intro l1 t_cur t_kin t_tol t_don v_tn H locs hPD hS ls hl h
    exact nomatch (show (none : Option (Nat × Int32 × Int32 × Int32 × Int32 × Int32 × (Nat → Int32))) = some r from h)
  | succ k ih =>
    intro l1 t_cur t_kin t_tol t_don v_tn H locs hPD hS ls hl h
    obtain ⟨hP, hD⟩ := hPD
    rw [fX5_errorAt_6] at h
    refine lv_iload_n hx hb dX5_errorAt_6 rfl (lv_at hl 1 rfl) ?_
    refine lv_bipush (v := 60) hx hb dX5_errorAt_7 (by decide) ?_
    refine lv_icmp_gt (tgt := 67) hx hb dX5_errorAt_9 (by decide) (fun c3 => ?_) (fun c3 => ?_)
    · replace h := ite_t c3 h
      refine lv_aload_n hx hb dX5_errorAt_67 rfl (lv_at hl 0 rfl) ?_
      refine getF (q0 := 0) (k0 := 3) (v := .int t_cur) C hE hP inA5 rfl rfl (by decide) qFX5_23 rfl rfl dX5_errorAt_68 ?_
      replace h := Option.some.inj h
      exact hret.1 _ _ _ _ _ _ _ _ (Nat.le_of_ble_eq_true rfl) (Nat.le_of_ble_eq_true rfl) dX5_errorAt_71 rfl (by rw [← h]) (by rw [← h] <;> rfl) (by rw [← h]; exact hP) hS
    · replace h := ite_f c3 h
      refine lv_aload_n hx hb dX5_errorAt_12 rfl (lv_at hl 0 rfl) ?_
      replace h := bnd h; obtain ⟨q4, e5, h⟩ := h
      refine thVi (ws1 := [(a_t, .inr (5, [.ref a_ti, .ref a_tn, .int t_len, .int q4.2.2.1, .int q4.2.2.2.1, .int q4.2.2.2.2.1, .int t_don])), (a_ti, .inl (T 2, 60, .inl v_ti)), (a_tn, .inl (T 0, 3, .inl q4.2.2.2.2.2))]) C hE hZ hP hD hS hA (kX5_takeCommand l hZ.1 D T a_t a_ti a_tn t_len t_cur t_kin t_tol t_don v_ti v_tn _ q4 e5) mX5_takeCommand qLX5_38 [0, 1, 2] [] 0 rfl rfl rfl rfl rfl rfl rfl rfl rfl ⟨Nat.le_of_ble_eq_true rfl, Nat.le_of_ble_eq_true rfl⟩ rfl hl.1 rfl (Nat.le_of_ble_eq_true rfl) dX5_errorAt_13 ⟨Nat.le_of_ble_eq_true rfl, Nat.le_of_ble_eq_true rfl⟩ ?_ ?_
      · clear hP hD hS; intro hx0 H locs ce q9 hP hD hS g1 g2 g3
        replace h := ite_f (Nat.ne_of_gt hx0) h
        replace h := Option.some.inj h
        exact hret.2.1 _ _ _ _ _ _ _ _ _ (Nat.le_of_ble_eq_true rfl) (Nat.le_of_ble_eq_true rfl) (by rw [← h]; exact hx0) (by rw [← h]; exact hP) hS g1 g2 (by rw [← h]; exact g3)
      · clear hP hD hS; intro hx0 H locs hP hD hS
        replace h := ite_t hx0 h
        refine lv_if_ne (tgt := 24) hx hb dX5_errorAt_16 (by decide) (fun c6 => ?_) (fun c6 => ?_)
        · replace h := ite_f c6 h
          refine lv_aload_n hx hb dX5_errorAt_24 rfl (lv_at hl 0 rfl) ?_
          refine getF (q0 := 0) (k0 := 3) (v := .int q4.2.2.1) C hE hP inA5 rfl rfl (by decide) qFX5_23 rfl rfl dX5_errorAt_25 ?_
          refine lv_aload_n hx hb dX5_errorAt_28 rfl (lv_at hl 0 rfl) ?_
          refine getF (q0 := 0) (k0 := 2) (v := .int t_len) C hE hP inA5 rfl rfl (by decide) qFX5_19 rfl rfl dX5_errorAt_29 ?_
          refine lv_icmp_lt (tgt := 37) hx hb dX5_errorAt_32 (by decide) (fun c7 => ?_) (fun c7 => ?_)
          · replace h := ite_t c7 h
            refine lv_aload_n hx hb dX5_errorAt_37 rfl (lv_at hl 0 rfl) ?_
            replace h := bnd h; obtain ⟨q8, e9, h⟩ := h
            refine rdV C hE hP (kX5_here l D T a_t a_ti a_tn t_len q4.2.2.1 q4.2.2.2.1 q4.2.2.2.2.1 t_don v_ti q8 e9) mX5_here qLX5_42 [0, 1] 0 rfl rfl rfl rfl ⟨rfl, rfl⟩ ⟨Nat.le_of_ble_eq_true rfl, Nat.le_of_ble_eq_true rfl⟩ rfl hl.1 rfl (Nat.le_of_ble_eq_true rfl) dX5_errorAt_38 ⟨Nat.le_of_ble_eq_true rfl, Nat.le_of_ble_eq_true rfl⟩ ?_
            refine lv_bipush (v := 59) hx hb dX5_errorAt_41 (by decide) ?_
            refine lv_icmp_eq (tgt := 51) hx hb dX5_errorAt_43 (by decide) (fun c10 => ?_) (fun c10 => ?_)
            · replace h := ite_t c10 h
              refine lv_aload_n hx hb dX5_errorAt_51 rfl (lv_at hl 0 rfl) ?_
              refine lv_dup hx hb dX5_errorAt_52 rfl ?_
              refine getF (q0 := 0) (k0 := 3) (v := .int q4.2.2.1) C hE hP inA5 rfl rfl (by decide) qFX5_23 rfl rfl dX5_errorAt_53 ?_
              refine lv_iconst (v := 1) hx hb dX5_errorAt_56 (by decide) ?_
              refine lv_iadd hx hb dX5_errorAt_57 ?_
              refine putF (q0 := 0) (k0 := 3) (ws1 := [(a_t, .inr (5, [.ref a_ti, .ref a_tn, .int t_len, .int (q4.2.2.1 + 1), .int q4.2.2.2.1, .int q4.2.2.2.2.1, .int t_don])), (a_ti, .inl (T 2, 60, .inl v_ti)), (a_tn, .inl (T 0, 3, .inl q4.2.2.2.2.2))]) C hE hP hD hS inA5 tyX5_ok nmX5 rfl rfl (by decide) qFX5_23 rfl rfl rfl rfl (Nat.le_of_ble_eq_true rfl) rfl dX5_errorAt_58 ?_; clear hP hD hS; intro H locs hP hD hS
              refine lv_iinc (v := (l1 + 1)) (lv' := [(1, .int (l1 + 1)), (0, .ref a_t)]) hx hb dX5_errorAt_61 hl (k := 1) rfl rfl (by decide) rfl (fun ls hl => ?_)
              refine lv_goto (tgt := 6) hx hb dX5_errorAt_64 (by decide) ?_
              exact ih (l1 + 1) (q4.2.2.1 + 1) q4.2.2.2.1 q4.2.2.2.2.1 t_don q4.2.2.2.2.2 ⟨hP, hD⟩ hS _ (lv_sub hl [1, 0] rfl) h
            · replace h := ite_f c10 h
              refine lv_aload_n hx hb dX5_errorAt_46 rfl (lv_at hl 0 rfl) ?_
              refine getF (q0 := 0) (k0 := 3) (v := .int q4.2.2.1) C hE hP inA5 rfl rfl (by decide) qFX5_23 rfl rfl dX5_errorAt_47 ?_
              replace h := Option.some.inj h
              exact hret.1 _ _ _ _ _ _ _ _ (Nat.le_of_ble_eq_true rfl) (Nat.le_of_ble_eq_true rfl) dX5_errorAt_50 rfl (by rw [← h]) (by rw [← h] <;> rfl) (by rw [← h]; exact hP) hS
          · replace h := ite_f c7 h
            refine lv_iconst (v := (-1)) hx hb dX5_errorAt_35 (by decide) ?_
            replace h := Option.some.inj h
            exact hret.1 _ _ _ _ _ _ _ _ (Nat.le_of_ble_eq_true rfl) (Nat.le_of_ble_eq_true rfl) dX5_errorAt_36 rfl (by rw [← h]) (by rw [← h] <;> rfl) (by rw [← h]; exact hP) hS
        · replace h := ite_t c6 h
          refine lv_aload_n hx hb dX5_errorAt_19 rfl (lv_at hl 0 rfl) ?_
          refine getF (q0 := 0) (k0 := 3) (v := .int q4.2.2.1) C hE hP inA5 rfl rfl (by decide) qFX5_23 rfl rfl dX5_errorAt_20 ?_
          replace h := Option.some.inj h
          exact hret.1 _ _ _ _ _ _ _ _ (Nat.le_of_ble_eq_true rfl) (Nat.le_of_ble_eq_true rfl) dX5_errorAt_23 rfl (by rw [← h]) (by rw [← h] <;> rfl) (by rw [← h]; exact hP) hS
set_option maxHeartbeats 4000000 in
set_option maxRecDepth 100000 in
theorem kX5_errorAt (l : Launch) (hnt : l.stackTraces = false) (D : va_G) (T : Nat → ClassId) (a_t a_ti a_tn : Nat) (t_len : Int32) (t_cur : Int32) (t_kin : Int32) (t_tol : Int32) (t_don : Int32) (v_ti : Nat → Int32) (v_tn : Nat → Int32) (sz : Nat) (r : Nat × Int32 × Int32 × Int32 × Int32 × Int32 × (Nat → Int32)) (h : fX5_errorAt t_len t_cur t_kin t_tol t_don v_ti v_tn = some r) : ThI l yX5_errorAt cX5_errorAt 2 .int ({ frames := 6, cells := 0, slots := 0, locals := 150 } : Room) D T sz [(a_t, .inr (5, [.ref a_ti, .ref a_tn, .int t_len, .int t_cur, .int t_kin, .int t_tol, .int t_don])), (a_ti, .inl (T 2, 60, .inl v_ti)), (a_tn, .inl (T 0, 3, .inl v_tn))] [(a_t, .inr (5, [.ref a_ti, .ref a_tn, .int t_len, .int r.2.2.1, .int r.2.2.2.1, .int r.2.2.2.2.1, .int r.2.2.2.2.2.1])), (a_ti, .inl (T 2, 60, .inl v_ti)), (a_tn, .inl (T 0, 3, .inl r.2.2.2.2.2.2))] [.ref a_t] r.1 r.2.1 := by
  unfold fX5_errorAt at h
  refine thMetI hnt (by decide +kernel) rfl (fun p e s m args below meth c Q A C hE hA hZ hP hD hS hret ls hl => ?_)
  have hx := C.1
  have hb := C.2.1
  have hl : lv_has ls 2 [(0, .ref a_t)] := hl
  refine lv_aload_n hx hb dX5_errorAt_0 rfl (lv_at hl 0 rfl) ?_
  replace h := bnd h; obtain ⟨q1, e2, h⟩ := h
  refine wrVv (ws1 := [(a_t, .inr (5, [.ref a_ti, .ref a_tn, .int t_len, .int q1.1, .int t_kin, .int t_tol, .int q1.2])), (a_ti, .inl (T 2, 60, .inl v_ti)), (a_tn, .inl (T 0, 3, .inl v_tn))]) C hE hP hD hS hA (kX5_rewind l D T a_t a_ti a_tn t_len t_cur t_kin t_tol t_don _ q1 e2) mX5_rewind qLX5_35 [0] [1, 2] 0 rfl rfl rfl rfl rfl rfl rfl rfl rfl ⟨rfl, rfl⟩ ⟨Nat.le_of_ble_eq_true rfl, Nat.le_of_ble_eq_true rfl⟩ rfl hl.1 rfl (Nat.le_of_ble_eq_true rfl) dX5_errorAt_1 ⟨Nat.le_of_ble_eq_true rfl, Nat.le_of_ble_eq_true rfl⟩ ?_; clear hP hD hS; intro H locs hP hD hS
  refine lv_iconst (v := 0) hx hb dX5_errorAt_4 (by decide) ?_
  refine lv_istore_n (lv' := [(1, .int 0), (0, .ref a_t)]) hx hb dX5_errorAt_5 rfl hl (by decide) rfl (fun ls hl => ?_)
  exact lX5_errorAt_6 C hE hA hZ hret 64 0 q1.1 t_kin t_tol q1.2 v_tn ⟨hP, hD⟩ hS _ (lv_sub hl [1, 0] rfl) h
