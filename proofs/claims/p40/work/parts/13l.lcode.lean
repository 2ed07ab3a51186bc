/-! what a handler answers -/
def lcF (ex : Nat) : List Nat → Nat → Int32
  | [], _ => 0
  | x :: l, k => if ex = x then Int32.ofNat k else lcF ex l (k + 1)
/-- what a wrapper answers of an exception: its place in the list, from 1 on; 0 of none -/
def lcode (l : List Nat) (ex : Nat) : Int32 := lcF ex l 1
theorem lcF_ge {ex : Nat} : ∀ (l : List Nat) (k : Nat), 1 ≤ k → k + l.length < 100 → ex ∈ l → lcF ex l k ≠ 0
  | [], _, _, _, h => by cases h
  | x :: l, k, hk, hl, h => by
    rw [lcF]
    by_cases c : ex = x
    · rw [if_pos c]
      simp only [List.length_cons] at hl
      exact fun e => by
        have h1 : (Int32.ofNat k).toInt = k := Int32.toInt_ofNat_of_lt (by omega)
        rw [e] at h1
        have h2 : (0 : Int32).toInt = 0 := rfl
        omega
    · rw [if_neg c]
      simp only [List.length_cons] at hl
      exact lcF_ge l (k + 1) (by omega) (by omega) ((List.mem_cons.mp h).resolve_left c)
