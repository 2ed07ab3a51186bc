/-! the law: what changes, in two rows of numbers -/
/-- the world of the law: the class, the reference, the two rows for answers -/
def wL (a : Nat → Nat) (T : Nat → ClassId) (f_net : Int32) (u_det : Int32) (t_len : Int32) (t_cur : Int32) (t_kin : Int32) (t_tol : Int32) (t_don : Int32) (n_len : Int32) (h_old : Int32) (h_siz : Int32) (x_sav : Int32) (x_err : Int32) (x_rea : Int32) (x_det : Int32) (x_com : Int32) (v_gw : Nat → Int32) (v_gk : Nat → Int32) (v_bw : Nat → Int32) (v_bk : Nat → Int32) (v_vw : Nat → Int32) (v_vk : Nat → Int32) (v_h0w : Nat → Int32) (v_h0k : Nat → Int32) (v_h1w : Nat → Int32) (v_h1k : Nat → Int32) (v_h2w : Nat → Int32) (v_h2k : Nat → Int32) (v_h3w : Nat → Int32) (v_h3k : Nat → Int32) (v_h4w : Nat → Int32) (v_h4k : Nat → Int32) (v_h5w : Nat → Int32) (v_h5k : Nat → Int32) (v_rs : Nat → Int32) (v_rl : Nat → Int32) (v_ro : Nat → Int32) (v_ti : Nat → Int32) (v_tn : Nat → Int32) (v_ns : Nat → Int32) (m_chg : Int32) (m_thr : Int32) (m_rea : Int32) (m_det : Int32) (m_ref : Int32) (m_err : Int32) (m_ans : Int32) (m_sav : Int32) (m_net : Int32) (m_lin : Int32) (m_tap : Int32) (m_her : Int32) (m_cmd : Int32) (v_ms : Nat → Int32) (v_mw : Nat → Int32) (v_mv : Nat → Int32) (v_mp : Nat → Int32) (v_mf : Nat → Int32) (v_ml : Nat → Int32) (v_mt : Nat → Int32) (v_mc : Nat → Int32) (f : Nat → Int64) (fD : Nat → UInt64) : va_W := [
  ((a 0), .inr (1, [.ref (a 16), .ref (a 17)])),
  ((a 1), .inr (1, [.ref (a 18), .ref (a 19)])),
  ((a 2), .inr (1, [.ref (a 20), .ref (a 21)])),
  ((a 3), .inr (1, [.ref (a 22), .ref (a 23)])),
  ((a 4), .inr (1, [.ref (a 24), .ref (a 25)])),
  ((a 5), .inr (1, [.ref (a 26), .ref (a 27)])),
  ((a 6), .inr (1, [.ref (a 28), .ref (a 29)])),
  ((a 7), .inr (1, [.ref (a 30), .ref (a 31)])),
  ((a 8), .inr (1, [.ref (a 32), .ref (a 33)])),
  ((a 9), .inr (4, [.ref (a 0), .ref (a 34), .ref (a 35), .ref (a 36)])),
  ((a 10), .inr (0, [.ref (a 0), .int f_net])),
  ((a 11), .inr (6, [.ref (a 0), .ref (a 9), .int u_det])),
  ((a 12), .inr (5, [.ref (a 37), .ref (a 38), .int t_len, .int t_cur, .int t_kin, .int t_tol, .int t_don])),
  ((a 13), .inr (3, [.ref (a 39), .int n_len])),
  ((a 14), .inr (2, [.ref (a 40), .int h_old, .int h_siz])),
  ((a 15), .inr (7, [.ref (a 0), .ref (a 1), .ref (a 2), .ref (a 14), .ref (a 9), .ref (a 10), .ref (a 11), .ref (a 12), .ref (a 13), .int x_sav, .int x_err, .int x_rea, .int x_det, .int x_com])),
  ((a 16), .inl (T 0, 90, .inl v_gw)),
  ((a 17), .inl (T 0, 18, .inl v_gk)),
  ((a 18), .inl (T 0, 90, .inl v_bw)),
  ((a 19), .inl (T 0, 18, .inl v_bk)),
  ((a 20), .inl (T 0, 90, .inl v_vw)),
  ((a 21), .inl (T 0, 18, .inl v_vk)),
  ((a 22), .inl (T 0, 90, .inl v_h0w)),
  ((a 23), .inl (T 0, 18, .inl v_h0k)),
  ((a 24), .inl (T 0, 90, .inl v_h1w)),
  ((a 25), .inl (T 0, 18, .inl v_h1k)),
  ((a 26), .inl (T 0, 90, .inl v_h2w)),
  ((a 27), .inl (T 0, 18, .inl v_h2k)),
  ((a 28), .inl (T 0, 90, .inl v_h3w)),
  ((a 29), .inl (T 0, 18, .inl v_h3k)),
  ((a 30), .inl (T 0, 90, .inl v_h4w)),
  ((a 31), .inl (T 0, 18, .inl v_h4k)),
  ((a 32), .inl (T 0, 90, .inl v_h5w)),
  ((a 33), .inl (T 0, 18, .inl v_h5k)),
  ((a 34), .inl (T 0, 45, .inl v_rs)),
  ((a 35), .inl (T 0, 45, .inl v_rl)),
  ((a 36), .inl (T 1, 45, .inl v_ro)),
  ((a 37), .inl (T 2, 60, .inl v_ti)),
  ((a 38), .inl (T 0, 3, .inl v_tn)),
  ((a 39), .inl (T 2, 32, .inl v_ns)),
  ((a 40), .inl (T 3, 6, .inr (.inr (.inr (.inr (hpF (a 3) (a 4) (a 5) (a 6) (a 7) (a 8))))))),
  ((a 41), .inr (8, [.ref (a 42), .ref (a 43), .ref (a 44), .ref (a 45), .ref (a 46), .int m_chg, .int m_thr, .int m_rea, .int m_det, .int m_ref, .int m_err, .int m_ans, .int m_sav, .int m_net, .ref (a 47), .int m_lin, .ref (a 48), .ref (a 49), .int m_tap, .int m_her, .int m_cmd])),
  ((a 42), .inl (T 0, 103, .inl v_ms)),
  ((a 43), .inl (T 0, 103, .inl v_mw)),
  ((a 44), .inl (T 0, 103, .inl v_mv)),
  ((a 45), .inl (T 0, 618, .inl v_mp)),
  ((a 46), .inl (T 0, 45, .inl v_mf)),
  ((a 47), .inl (T 0, 40, .inl v_ml)),
  ((a 48), .inl (T 0, 60, .inl v_mt)),
  ((a 49), .inl (T 0, 124, .inl v_mc)),
  (a 50, .inl (T 4, 1, .inr (.inl f))),
  (a 51, .inl (T 5, 1, .inr (.inr (.inr (.inl fD)))))]
theorem lcF_ge {ex : Nat} : ∀ (l : List Nat) (k : Nat), 1 ≤ k → k + l.length < 100 → ex ∈ l → lcF ex l k ≠ 0
  | [], _, _, _, h => by cases h
  | x :: l, k, hk, hl, h => by
    rw [lcF]
    by_cases c : ex = x
    · rw [if_pos c]
      simp only [List.length_cons] at hl
      exact fun e => by
        have h1 : (Int32.ofNat k).toInt = k := Int32.toInt_ofNat_of_lt (by omega)
        rw [e] at h1
        have h2 : (0 : Int32).toInt = 0 := rfl
        omega
    · rw [if_neg c]
      simp only [List.length_cons] at hl
      exact lcF_ge l (k + 1) (by omega) (by omega) ((List.mem_cons.mp h).resolve_left c)
section LCODE
variable {ex a1 a2 a3 : Nat}
theorem lcode0_1 (h : ex = 0 ∨ ex = a1) (hc : lcode [a1] ex = 0) : ex = 0 := h.resolve_right (fun e => lcF_ge [a1] 1 (by decide) (Nat.le_of_ble_eq_true rfl) (by simp [e]) hc)
theorem lcode0_2 (h : ex = 0 ∨ ex = a1 ∨ ex = a2) (hc : lcode [a1, a2] ex = 0) : ex = 0 := h.resolve_right (fun e => lcF_ge [a1, a2] 1 (by decide) (Nat.le_of_ble_eq_true rfl) (by rcases e with e | e <;> simp [e]) hc)
theorem lcode0_3 (h : ex = 0 ∨ ex = a1 ∨ ex = a2 ∨ ex = a3) (hc : lcode [a1, a2, a3] ex = 0) : ex = 0 := h.resolve_right (fun e => lcF_ge [a1, a2, a3] 1 (by decide) (Nat.le_of_ble_eq_true rfl) (by rcases e with e | e | e <;> simp [e]) hc)
end LCODE
section LDS
variable {p : Program} {l : Launch} {e : Env} {R : Room} {s : State} {m : MethodId} {args : Array Value} {below : List Frame} {meth : Method} {c : Code} {H : Heap} {locs : List Loc} {cells slots : Nat} {Q : State → Prop} {pc : Nat} {ls : Array Slot} {rest st : List Value}
variable {D : va_G} {T : Nat → ClassId} {ws wc wc1 ws1 : va_W} {cc b : ByteArray} {nL n k idx mc ms : Nat} {own : String} {y : MethodName} {ty : FieldType} {ret : Option FieldType} {rm : Room} {as : List Value} {r : Int32} {A : Nat → Prop} {H0 : Heap} {hh : List (Nat × Nat × Nat × Nat)} {ex : Nat}
theorem ldJ {a q0 N : Nat} {f : Nat → Int64} {i : Int32} (C : CallFix p m c cc nL s args aw own) (hE : eK D T s) (hP : va_P D kC ws H) (ha : ws[q0]? = some (a, .inl (T 4, N, .inr (.inl f)))) (hin : vin i N = true) (hd : decode cc pc = .ok (.laload, 1))
    (kk : W p l e R s m args below meth c H locs cells slots Q (F0 m (pc + 1) ls (.long (f i.toNatClampNeg) :: rest))) : W p l e R s m args below meth c H locs cells slots Q (F0 m pc ls (.int i :: .ref a :: rest)) :=
  va_lald C.1 C.2.1 hE.1 hP q0 4 ha rfl (vin_in hin) hd kk
theorem ldD {a q0 N : Nat} {f : Nat → UInt64} {i : Int32} (C : CallFix p m c cc nL s args aw own) (hE : eK D T s) (hP : va_P D kC ws H) (ha : ws[q0]? = some (a, .inl (T 5, N, .inr (.inr (.inr (.inl f)))))) (hin : vin i N = true) (hd : decode cc pc = .ok (.daload, 1))
    (kk : W p l e R s m args below meth c H locs cells slots Q (F0 m (pc + 1) ls (.double (f i.toNatClampNeg) :: rest))) : W p l e R s m args below meth c H locs cells slots Q (F0 m pc ls (.int i :: .ref a :: rest)) :=
  va_dald C.1 C.2.1 hE.1 hP q0 5 ha rfl (vin_in hin) hd kk
end LDS
