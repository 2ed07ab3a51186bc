/-! the changes kept, one more -/
theorem rem_e (gw gk h0w h0k h1w h1k h2w h2k h3w h3k h4w h4k h5w h5k : Nat → Int32) : ∀ o, o < 6 → ∀ z, z < 7 → ∃ a0w a0k a1w a1k a2w a2k a3w a3k a4w a4k a5w a5k, fX2_remember (nI o) (nI z) gw gk h0w h0k h1w h1k h2w h2k h3w h3k h4w h4k h5w h5k = some (nI (if z = 6 then (o + 1) % 6 else o), nI (if z = 6 then 6 else z + 1), a0w, a0k, a1w, a1k, a2w, a2k, a3w, a3k, a4w, a4k, a5w, a5k) ∧ (∀ s, s < 6 → pick6 a0w a1w a2w a3w a4w a5w s = (if s = (o + z) % 6 then va_cpy gw (pick6 h0w h1w h2w h3w h4w h5w s) 0 0 90 else pick6 h0w h1w h2w h3w h4w h5w s) ∧ pick6 a0k a1k a2k a3k a4k a5k s = (if s = (o + z) % 6 then va_cpy gk (pick6 h0k h1k h2k h3k h4k h5k s) 0 0 18 else pick6 h0k h1k h2k h3k h4k h5k s)) := by
  intro o ho z hz
  match o, ho, z, hz with
  | 0, _, 0, _ => exact ⟨va_cpy gw h0w 0 0 90, va_cpy gk h0k 0 0 18, h1w, h1k, h2w, h2k, h3w, h3k, h4w, h4k, h5w, h5k, rfl, fun s hs => match s, hs with
    | 0, _ => ⟨rfl, rfl⟩
    | 1, _ => ⟨rfl, rfl⟩
    | 2, _ => ⟨rfl, rfl⟩
    | 3, _ => ⟨rfl, rfl⟩
    | 4, _ => ⟨rfl, rfl⟩
    | 5, _ => ⟨rfl, rfl⟩
    | s + 6, h => absurd h (by omega)⟩
  | 0, _, 1, _ => exact ⟨h0w, h0k, va_cpy gw h1w 0 0 90, va_cpy gk h1k 0 0 18, h2w, h2k, h3w, h3k, h4w, h4k, h5w, h5k, rfl, fun s hs => match s, hs with
    | 0, _ => ⟨rfl, rfl⟩
    | 1, _ => ⟨rfl, rfl⟩
    | 2, _ => ⟨rfl, rfl⟩
    | 3, _ => ⟨rfl, rfl⟩
    | 4, _ => ⟨rfl, rfl⟩
    | 5, _ => ⟨rfl, rfl⟩
    | s + 6, h => absurd h (by omega)⟩
  | 0, _, 2, _ => exact ⟨h0w, h0k, h1w, h1k, va_cpy gw h2w 0 0 90, va_cpy gk h2k 0 0 18, h3w, h3k, h4w, h4k, h5w, h5k, rfl, fun s hs => match s, hs with
    | 0, _ => ⟨rfl, rfl⟩
    | 1, _ => ⟨rfl, rfl⟩
    | 2, _ => ⟨rfl, rfl⟩
    | 3, _ => ⟨rfl, rfl⟩
    | 4, _ => ⟨rfl, rfl⟩
    | 5, _ => ⟨rfl, rfl⟩
    | s + 6, h => absurd h (by omega)⟩
  | 0, _, 3, _ => exact ⟨h0w, h0k, h1w, h1k, h2w, h2k, va_cpy gw h3w 0 0 90, va_cpy gk h3k 0 0 18, h4w, h4k, h5w, h5k, rfl, fun s hs => match s, hs with
    | 0, _ => ⟨rfl, rfl⟩
    | 1, _ => ⟨rfl, rfl⟩
    | 2, _ => ⟨rfl, rfl⟩
    | 3, _ => ⟨rfl, rfl⟩
    | 4, _ => ⟨rfl, rfl⟩
    | 5, _ => ⟨rfl, rfl⟩
    | s + 6, h => absurd h (by omega)⟩
  | 0, _, 4, _ => exact ⟨h0w, h0k, h1w, h1k, h2w, h2k, h3w, h3k, va_cpy gw h4w 0 0 90, va_cpy gk h4k 0 0 18, h5w, h5k, rfl, fun s hs => match s, hs with
    | 0, _ => ⟨rfl, rfl⟩
    | 1, _ => ⟨rfl, rfl⟩
    | 2, _ => ⟨rfl, rfl⟩
    | 3, _ => ⟨rfl, rfl⟩
    | 4, _ => ⟨rfl, rfl⟩
    | 5, _ => ⟨rfl, rfl⟩
    | s + 6, h => absurd h (by omega)⟩
  | 0, _, 5, _ => exact ⟨h0w, h0k, h1w, h1k, h2w, h2k, h3w, h3k, h4w, h4k, va_cpy gw h5w 0 0 90, va_cpy gk h5k 0 0 18, rfl, fun s hs => match s, hs with
    | 0, _ => ⟨rfl, rfl⟩
    | 1, _ => ⟨rfl, rfl⟩
    | 2, _ => ⟨rfl, rfl⟩
    | 3, _ => ⟨rfl, rfl⟩
    | 4, _ => ⟨rfl, rfl⟩
    | 5, _ => ⟨rfl, rfl⟩
    | s + 6, h => absurd h (by omega)⟩
  | 0, _, 6, _ => exact ⟨va_cpy gw h0w 0 0 90, va_cpy gk h0k 0 0 18, h1w, h1k, h2w, h2k, h3w, h3k, h4w, h4k, h5w, h5k, rfl, fun s hs => match s, hs with
    | 0, _ => ⟨rfl, rfl⟩
    | 1, _ => ⟨rfl, rfl⟩
    | 2, _ => ⟨rfl, rfl⟩
    | 3, _ => ⟨rfl, rfl⟩
    | 4, _ => ⟨rfl, rfl⟩
    | 5, _ => ⟨rfl, rfl⟩
    | s + 6, h => absurd h (by omega)⟩
  | 1, _, 0, _ => exact ⟨h0w, h0k, va_cpy gw h1w 0 0 90, va_cpy gk h1k 0 0 18, h2w, h2k, h3w, h3k, h4w, h4k, h5w, h5k, rfl, fun s hs => match s, hs with
    | 0, _ => ⟨rfl, rfl⟩
    | 1, _ => ⟨rfl, rfl⟩
    | 2, _ => ⟨rfl, rfl⟩
    | 3, _ => ⟨rfl, rfl⟩
    | 4, _ => ⟨rfl, rfl⟩
    | 5, _ => ⟨rfl, rfl⟩
    | s + 6, h => absurd h (by omega)⟩
  | 1, _, 1, _ => exact ⟨h0w, h0k, h1w, h1k, va_cpy gw h2w 0 0 90, va_cpy gk h2k 0 0 18, h3w, h3k, h4w, h4k, h5w, h5k, rfl, fun s hs => match s, hs with
    | 0, _ => ⟨rfl, rfl⟩
    | 1, _ => ⟨rfl, rfl⟩
    | 2, _ => ⟨rfl, rfl⟩
    | 3, _ => ⟨rfl, rfl⟩
    | 4, _ => ⟨rfl, rfl⟩
    | 5, _ => ⟨rfl, rfl⟩
    | s + 6, h => absurd h (by omega)⟩
  | 1, _, 2, _ => exact ⟨h0w, h0k, h1w, h1k, h2w, h2k, va_cpy gw h3w 0 0 90, va_cpy gk h3k 0 0 18, h4w, h4k, h5w, h5k, rfl, fun s hs => match s, hs with
    | 0, _ => ⟨rfl, rfl⟩
    | 1, _ => ⟨rfl, rfl⟩
    | 2, _ => ⟨rfl, rfl⟩
    | 3, _ => ⟨rfl, rfl⟩
    | 4, _ => ⟨rfl, rfl⟩
    | 5, _ => ⟨rfl, rfl⟩
    | s + 6, h => absurd h (by omega)⟩
  | 1, _, 3, _ => exact ⟨h0w, h0k, h1w, h1k, h2w, h2k, h3w, h3k, va_cpy gw h4w 0 0 90, va_cpy gk h4k 0 0 18, h5w, h5k, rfl, fun s hs => match s, hs with
    | 0, _ => ⟨rfl, rfl⟩
    | 1, _ => ⟨rfl, rfl⟩
    | 2, _ => ⟨rfl, rfl⟩
    | 3, _ => ⟨rfl, rfl⟩
    | 4, _ => ⟨rfl, rfl⟩
    | 5, _ => ⟨rfl, rfl⟩
    | s + 6, h => absurd h (by omega)⟩
  | 1, _, 4, _ => exact ⟨h0w, h0k, h1w, h1k, h2w, h2k, h3w, h3k, h4w, h4k, va_cpy gw h5w 0 0 90, va_cpy gk h5k 0 0 18, rfl, fun s hs => match s, hs with
    | 0, _ => ⟨rfl, rfl⟩
    | 1, _ => ⟨rfl, rfl⟩
    | 2, _ => ⟨rfl, rfl⟩
    | 3, _ => ⟨rfl, rfl⟩
    | 4, _ => ⟨rfl, rfl⟩
    | 5, _ => ⟨rfl, rfl⟩
    | s + 6, h => absurd h (by omega)⟩
  | 1, _, 5, _ => exact ⟨va_cpy gw h0w 0 0 90, va_cpy gk h0k 0 0 18, h1w, h1k, h2w, h2k, h3w, h3k, h4w, h4k, h5w, h5k, rfl, fun s hs => match s, hs with
    | 0, _ => ⟨rfl, rfl⟩
    | 1, _ => ⟨rfl, rfl⟩
    | 2, _ => ⟨rfl, rfl⟩
    | 3, _ => ⟨rfl, rfl⟩
    | 4, _ => ⟨rfl, rfl⟩
    | 5, _ => ⟨rfl, rfl⟩
    | s + 6, h => absurd h (by omega)⟩
  | 1, _, 6, _ => exact ⟨h0w, h0k, va_cpy gw h1w 0 0 90, va_cpy gk h1k 0 0 18, h2w, h2k, h3w, h3k, h4w, h4k, h5w, h5k, rfl, fun s hs => match s, hs with
    | 0, _ => ⟨rfl, rfl⟩
    | 1, _ => ⟨rfl, rfl⟩
    | 2, _ => ⟨rfl, rfl⟩
    | 3, _ => ⟨rfl, rfl⟩
    | 4, _ => ⟨rfl, rfl⟩
    | 5, _ => ⟨rfl, rfl⟩
    | s + 6, h => absurd h (by omega)⟩
  | 2, _, 0, _ => exact ⟨h0w, h0k, h1w, h1k, va_cpy gw h2w 0 0 90, va_cpy gk h2k 0 0 18, h3w, h3k, h4w, h4k, h5w, h5k, rfl, fun s hs => match s, hs with
    | 0, _ => ⟨rfl, rfl⟩
    | 1, _ => ⟨rfl, rfl⟩
    | 2, _ => ⟨rfl, rfl⟩
    | 3, _ => ⟨rfl, rfl⟩
    | 4, _ => ⟨rfl, rfl⟩
    | 5, _ => ⟨rfl, rfl⟩
    | s + 6, h => absurd h (by omega)⟩
  | 2, _, 1, _ => exact ⟨h0w, h0k, h1w, h1k, h2w, h2k, va_cpy gw h3w 0 0 90, va_cpy gk h3k 0 0 18, h4w, h4k, h5w, h5k, rfl, fun s hs => match s, hs with
    | 0, _ => ⟨rfl, rfl⟩
    | 1, _ => ⟨rfl, rfl⟩
    | 2, _ => ⟨rfl, rfl⟩
    | 3, _ => ⟨rfl, rfl⟩
    | 4, _ => ⟨rfl, rfl⟩
    | 5, _ => ⟨rfl, rfl⟩
    | s + 6, h => absurd h (by omega)⟩
  | 2, _, 2, _ => exact ⟨h0w, h0k, h1w, h1k, h2w, h2k, h3w, h3k, va_cpy gw h4w 0 0 90, va_cpy gk h4k 0 0 18, h5w, h5k, rfl, fun s hs => match s, hs with
    | 0, _ => ⟨rfl, rfl⟩
    | 1, _ => ⟨rfl, rfl⟩
    | 2, _ => ⟨rfl, rfl⟩
    | 3, _ => ⟨rfl, rfl⟩
    | 4, _ => ⟨rfl, rfl⟩
    | 5, _ => ⟨rfl, rfl⟩
    | s + 6, h => absurd h (by omega)⟩
  | 2, _, 3, _ => exact ⟨h0w, h0k, h1w, h1k, h2w, h2k, h3w, h3k, h4w, h4k, va_cpy gw h5w 0 0 90, va_cpy gk h5k 0 0 18, rfl, fun s hs => match s, hs with
    | 0, _ => ⟨rfl, rfl⟩
    | 1, _ => ⟨rfl, rfl⟩
    | 2, _ => ⟨rfl, rfl⟩
    | 3, _ => ⟨rfl, rfl⟩
    | 4, _ => ⟨rfl, rfl⟩
    | 5, _ => ⟨rfl, rfl⟩
    | s + 6, h => absurd h (by omega)⟩
  | 2, _, 4, _ => exact ⟨va_cpy gw h0w 0 0 90, va_cpy gk h0k 0 0 18, h1w, h1k, h2w, h2k, h3w, h3k, h4w, h4k, h5w, h5k, rfl, fun s hs => match s, hs with
    | 0, _ => ⟨rfl, rfl⟩
    | 1, _ => ⟨rfl, rfl⟩
    | 2, _ => ⟨rfl, rfl⟩
    | 3, _ => ⟨rfl, rfl⟩
    | 4, _ => ⟨rfl, rfl⟩
    | 5, _ => ⟨rfl, rfl⟩
    | s + 6, h => absurd h (by omega)⟩
  | 2, _, 5, _ => exact ⟨h0w, h0k, va_cpy gw h1w 0 0 90, va_cpy gk h1k 0 0 18, h2w, h2k, h3w, h3k, h4w, h4k, h5w, h5k, rfl, fun s hs => match s, hs with
    | 0, _ => ⟨rfl, rfl⟩
    | 1, _ => ⟨rfl, rfl⟩
    | 2, _ => ⟨rfl, rfl⟩
    | 3, _ => ⟨rfl, rfl⟩
    | 4, _ => ⟨rfl, rfl⟩
    | 5, _ => ⟨rfl, rfl⟩
    | s + 6, h => absurd h (by omega)⟩
  | 2, _, 6, _ => exact ⟨h0w, h0k, h1w, h1k, va_cpy gw h2w 0 0 90, va_cpy gk h2k 0 0 18, h3w, h3k, h4w, h4k, h5w, h5k, rfl, fun s hs => match s, hs with
    | 0, _ => ⟨rfl, rfl⟩
    | 1, _ => ⟨rfl, rfl⟩
    | 2, _ => ⟨rfl, rfl⟩
    | 3, _ => ⟨rfl, rfl⟩
    | 4, _ => ⟨rfl, rfl⟩
    | 5, _ => ⟨rfl, rfl⟩
    | s + 6, h => absurd h (by omega)⟩
  | 3, _, 0, _ => exact ⟨h0w, h0k, h1w, h1k, h2w, h2k, va_cpy gw h3w 0 0 90, va_cpy gk h3k 0 0 18, h4w, h4k, h5w, h5k, rfl, fun s hs => match s, hs with
    | 0, _ => ⟨rfl, rfl⟩
    | 1, _ => ⟨rfl, rfl⟩
    | 2, _ => ⟨rfl, rfl⟩
    | 3, _ => ⟨rfl, rfl⟩
    | 4, _ => ⟨rfl, rfl⟩
    | 5, _ => ⟨rfl, rfl⟩
    | s + 6, h => absurd h (by omega)⟩
  | 3, _, 1, _ => exact ⟨h0w, h0k, h1w, h1k, h2w, h2k, h3w, h3k, va_cpy gw h4w 0 0 90, va_cpy gk h4k 0 0 18, h5w, h5k, rfl, fun s hs => match s, hs with
    | 0, _ => ⟨rfl, rfl⟩
    | 1, _ => ⟨rfl, rfl⟩
    | 2, _ => ⟨rfl, rfl⟩
    | 3, _ => ⟨rfl, rfl⟩
    | 4, _ => ⟨rfl, rfl⟩
    | 5, _ => ⟨rfl, rfl⟩
    | s + 6, h => absurd h (by omega)⟩
  | 3, _, 2, _ => exact ⟨h0w, h0k, h1w, h1k, h2w, h2k, h3w, h3k, h4w, h4k, va_cpy gw h5w 0 0 90, va_cpy gk h5k 0 0 18, rfl, fun s hs => match s, hs with
    | 0, _ => ⟨rfl, rfl⟩
    | 1, _ => ⟨rfl, rfl⟩
    | 2, _ => ⟨rfl, rfl⟩
    | 3, _ => ⟨rfl, rfl⟩
    | 4, _ => ⟨rfl, rfl⟩
    | 5, _ => ⟨rfl, rfl⟩
    | s + 6, h => absurd h (by omega)⟩
  | 3, _, 3, _ => exact ⟨va_cpy gw h0w 0 0 90, va_cpy gk h0k 0 0 18, h1w, h1k, h2w, h2k, h3w, h3k, h4w, h4k, h5w, h5k, rfl, fun s hs => match s, hs with
    | 0, _ => ⟨rfl, rfl⟩
    | 1, _ => ⟨rfl, rfl⟩
    | 2, _ => ⟨rfl, rfl⟩
    | 3, _ => ⟨rfl, rfl⟩
    | 4, _ => ⟨rfl, rfl⟩
    | 5, _ => ⟨rfl, rfl⟩
    | s + 6, h => absurd h (by omega)⟩
  | 3, _, 4, _ => exact ⟨h0w, h0k, va_cpy gw h1w 0 0 90, va_cpy gk h1k 0 0 18, h2w, h2k, h3w, h3k, h4w, h4k, h5w, h5k, rfl, fun s hs => match s, hs with
    | 0, _ => ⟨rfl, rfl⟩
    | 1, _ => ⟨rfl, rfl⟩
    | 2, _ => ⟨rfl, rfl⟩
    | 3, _ => ⟨rfl, rfl⟩
    | 4, _ => ⟨rfl, rfl⟩
    | 5, _ => ⟨rfl, rfl⟩
    | s + 6, h => absurd h (by omega)⟩
  | 3, _, 5, _ => exact ⟨h0w, h0k, h1w, h1k, va_cpy gw h2w 0 0 90, va_cpy gk h2k 0 0 18, h3w, h3k, h4w, h4k, h5w, h5k, rfl, fun s hs => match s, hs with
    | 0, _ => ⟨rfl, rfl⟩
    | 1, _ => ⟨rfl, rfl⟩
    | 2, _ => ⟨rfl, rfl⟩
    | 3, _ => ⟨rfl, rfl⟩
    | 4, _ => ⟨rfl, rfl⟩
    | 5, _ => ⟨rfl, rfl⟩
    | s + 6, h => absurd h (by omega)⟩
  | 3, _, 6, _ => exact ⟨h0w, h0k, h1w, h1k, h2w, h2k, va_cpy gw h3w 0 0 90, va_cpy gk h3k 0 0 18, h4w, h4k, h5w, h5k, rfl, fun s hs => match s, hs with
    | 0, _ => ⟨rfl, rfl⟩
    | 1, _ => ⟨rfl, rfl⟩
    | 2, _ => ⟨rfl, rfl⟩
    | 3, _ => ⟨rfl, rfl⟩
    | 4, _ => ⟨rfl, rfl⟩
    | 5, _ => ⟨rfl, rfl⟩
    | s + 6, h => absurd h (by omega)⟩
  | 4, _, 0, _ => exact ⟨h0w, h0k, h1w, h1k, h2w, h2k, h3w, h3k, va_cpy gw h4w 0 0 90, va_cpy gk h4k 0 0 18, h5w, h5k, rfl, fun s hs => match s, hs with
    | 0, _ => ⟨rfl, rfl⟩
    | 1, _ => ⟨rfl, rfl⟩
    | 2, _ => ⟨rfl, rfl⟩
    | 3, _ => ⟨rfl, rfl⟩
    | 4, _ => ⟨rfl, rfl⟩
    | 5, _ => ⟨rfl, rfl⟩
    | s + 6, h => absurd h (by omega)⟩
  | 4, _, 1, _ => exact ⟨h0w, h0k, h1w, h1k, h2w, h2k, h3w, h3k, h4w, h4k, va_cpy gw h5w 0 0 90, va_cpy gk h5k 0 0 18, rfl, fun s hs => match s, hs with
    | 0, _ => ⟨rfl, rfl⟩
    | 1, _ => ⟨rfl, rfl⟩
    | 2, _ => ⟨rfl, rfl⟩
    | 3, _ => ⟨rfl, rfl⟩
    | 4, _ => ⟨rfl, rfl⟩
    | 5, _ => ⟨rfl, rfl⟩
    | s + 6, h => absurd h (by omega)⟩
  | 4, _, 2, _ => exact ⟨va_cpy gw h0w 0 0 90, va_cpy gk h0k 0 0 18, h1w, h1k, h2w, h2k, h3w, h3k, h4w, h4k, h5w, h5k, rfl, fun s hs => match s, hs with
    | 0, _ => ⟨rfl, rfl⟩
    | 1, _ => ⟨rfl, rfl⟩
    | 2, _ => ⟨rfl, rfl⟩
    | 3, _ => ⟨rfl, rfl⟩
    | 4, _ => ⟨rfl, rfl⟩
    | 5, _ => ⟨rfl, rfl⟩
    | s + 6, h => absurd h (by omega)⟩
  | 4, _, 3, _ => exact ⟨h0w, h0k, va_cpy gw h1w 0 0 90, va_cpy gk h1k 0 0 18, h2w, h2k, h3w, h3k, h4w, h4k, h5w, h5k, rfl, fun s hs => match s, hs with
    | 0, _ => ⟨rfl, rfl⟩
    | 1, _ => ⟨rfl, rfl⟩
    | 2, _ => ⟨rfl, rfl⟩
    | 3, _ => ⟨rfl, rfl⟩
    | 4, _ => ⟨rfl, rfl⟩
    | 5, _ => ⟨rfl, rfl⟩
    | s + 6, h => absurd h (by omega)⟩
  | 4, _, 4, _ => exact ⟨h0w, h0k, h1w, h1k, va_cpy gw h2w 0 0 90, va_cpy gk h2k 0 0 18, h3w, h3k, h4w, h4k, h5w, h5k, rfl, fun s hs => match s, hs with
    | 0, _ => ⟨rfl, rfl⟩
    | 1, _ => ⟨rfl, rfl⟩
    | 2, _ => ⟨rfl, rfl⟩
    | 3, _ => ⟨rfl, rfl⟩
    | 4, _ => ⟨rfl, rfl⟩
    | 5, _ => ⟨rfl, rfl⟩
    | s + 6, h => absurd h (by omega)⟩
  | 4, _, 5, _ => exact ⟨h0w, h0k, h1w, h1k, h2w, h2k, va_cpy gw h3w 0 0 90, va_cpy gk h3k 0 0 18, h4w, h4k, h5w, h5k, rfl, fun s hs => match s, hs with
    | 0, _ => ⟨rfl, rfl⟩
    | 1, _ => ⟨rfl, rfl⟩
    | 2, _ => ⟨rfl, rfl⟩
    | 3, _ => ⟨rfl, rfl⟩
    | 4, _ => ⟨rfl, rfl⟩
    | 5, _ => ⟨rfl, rfl⟩
    | s + 6, h => absurd h (by omega)⟩
  | 4, _, 6, _ => exact ⟨h0w, h0k, h1w, h1k, h2w, h2k, h3w, h3k, va_cpy gw h4w 0 0 90, va_cpy gk h4k 0 0 18, h5w, h5k, rfl, fun s hs => match s, hs with
    | 0, _ => ⟨rfl, rfl⟩
    | 1, _ => ⟨rfl, rfl⟩
    | 2, _ => ⟨rfl, rfl⟩
    | 3, _ => ⟨rfl, rfl⟩
    | 4, _ => ⟨rfl, rfl⟩
    | 5, _ => ⟨rfl, rfl⟩
    | s + 6, h => absurd h (by omega)⟩
  | 5, _, 0, _ => exact ⟨h0w, h0k, h1w, h1k, h2w, h2k, h3w, h3k, h4w, h4k, va_cpy gw h5w 0 0 90, va_cpy gk h5k 0 0 18, rfl, fun s hs => match s, hs with
    | 0, _ => ⟨rfl, rfl⟩
    | 1, _ => ⟨rfl, rfl⟩
    | 2, _ => ⟨rfl, rfl⟩
    | 3, _ => ⟨rfl, rfl⟩
    | 4, _ => ⟨rfl, rfl⟩
    | 5, _ => ⟨rfl, rfl⟩
    | s + 6, h => absurd h (by omega)⟩
  | 5, _, 1, _ => exact ⟨va_cpy gw h0w 0 0 90, va_cpy gk h0k 0 0 18, h1w, h1k, h2w, h2k, h3w, h3k, h4w, h4k, h5w, h5k, rfl, fun s hs => match s, hs with
    | 0, _ => ⟨rfl, rfl⟩
    | 1, _ => ⟨rfl, rfl⟩
    | 2, _ => ⟨rfl, rfl⟩
    | 3, _ => ⟨rfl, rfl⟩
    | 4, _ => ⟨rfl, rfl⟩
    | 5, _ => ⟨rfl, rfl⟩
    | s + 6, h => absurd h (by omega)⟩
  | 5, _, 2, _ => exact ⟨h0w, h0k, va_cpy gw h1w 0 0 90, va_cpy gk h1k 0 0 18, h2w, h2k, h3w, h3k, h4w, h4k, h5w, h5k, rfl, fun s hs => match s, hs with
    | 0, _ => ⟨rfl, rfl⟩
    | 1, _ => ⟨rfl, rfl⟩
    | 2, _ => ⟨rfl, rfl⟩
    | 3, _ => ⟨rfl, rfl⟩
    | 4, _ => ⟨rfl, rfl⟩
    | 5, _ => ⟨rfl, rfl⟩
    | s + 6, h => absurd h (by omega)⟩
  | 5, _, 3, _ => exact ⟨h0w, h0k, h1w, h1k, va_cpy gw h2w 0 0 90, va_cpy gk h2k 0 0 18, h3w, h3k, h4w, h4k, h5w, h5k, rfl, fun s hs => match s, hs with
    | 0, _ => ⟨rfl, rfl⟩
    | 1, _ => ⟨rfl, rfl⟩
    | 2, _ => ⟨rfl, rfl⟩
    | 3, _ => ⟨rfl, rfl⟩
    | 4, _ => ⟨rfl, rfl⟩
    | 5, _ => ⟨rfl, rfl⟩
    | s + 6, h => absurd h (by omega)⟩
  | 5, _, 4, _ => exact ⟨h0w, h0k, h1w, h1k, h2w, h2k, va_cpy gw h3w 0 0 90, va_cpy gk h3k 0 0 18, h4w, h4k, h5w, h5k, rfl, fun s hs => match s, hs with
    | 0, _ => ⟨rfl, rfl⟩
    | 1, _ => ⟨rfl, rfl⟩
    | 2, _ => ⟨rfl, rfl⟩
    | 3, _ => ⟨rfl, rfl⟩
    | 4, _ => ⟨rfl, rfl⟩
    | 5, _ => ⟨rfl, rfl⟩
    | s + 6, h => absurd h (by omega)⟩
  | 5, _, 5, _ => exact ⟨h0w, h0k, h1w, h1k, h2w, h2k, h3w, h3k, va_cpy gw h4w 0 0 90, va_cpy gk h4k 0 0 18, h5w, h5k, rfl, fun s hs => match s, hs with
    | 0, _ => ⟨rfl, rfl⟩
    | 1, _ => ⟨rfl, rfl⟩
    | 2, _ => ⟨rfl, rfl⟩
    | 3, _ => ⟨rfl, rfl⟩
    | 4, _ => ⟨rfl, rfl⟩
    | 5, _ => ⟨rfl, rfl⟩
    | s + 6, h => absurd h (by omega)⟩
  | 5, _, 6, _ => exact ⟨h0w, h0k, h1w, h1k, h2w, h2k, h3w, h3k, h4w, h4k, va_cpy gw h5w 0 0 90, va_cpy gk h5k 0 0 18, rfl, fun s hs => match s, hs with
    | 0, _ => ⟨rfl, rfl⟩
    | 1, _ => ⟨rfl, rfl⟩
    | 2, _ => ⟨rfl, rfl⟩
    | 3, _ => ⟨rfl, rfl⟩
    | 4, _ => ⟨rfl, rfl⟩
    | 5, _ => ⟨rfl, rfl⟩
    | s + 6, h => absurd h (by omega)⟩
  | a + 6, h, _, _ => exact absurd h (by omega)
  | _, _, a + 7, h => exact absurd h (by omega)
def shP (mp f : Nat → Int32) (m : Nat) : Prop := ∀ k j, k < 6 → j < 103 → f (103 * k + j) = if k < m then mp (103 * (k + 1) + j) else mp (103 * k + j)
theorem sh_s {mp f : Nat → Int32} {m : Nat} (h : shP mp f m) (hm : m < 5) : shP mp (va_cpy f f (103 * m + 103) (103 * m) 103) (m + 1) := by
  intro k j hk hj
  by_cases e : k = m
  · subst e
    rw [pk_cpy_in (by omega) (by omega), show 103 * k + 103 + (103 * k + j - 103 * k) = 103 * (k + 1) + j from by omega, h (k + 1) j (by omega) hj, if_neg (by omega), if_pos (by omega)]
  · rw [pk_cpy_out (by omega), h k j hk hj]
    by_cases l : k < m
    · rw [if_pos l, if_pos (by omega)]
    · rw [if_neg l, if_neg (by omega)]
theorem chg_l {mw mp : Nat → Int32} : ∀ (d m f : Nat) (g : Nat → Int32), m + d = 5 → d < f → shP mp g m → ∃ g', shP mp g' 5 ∧ fX8_changed_11 mw f (nI (m + 1)) 6 g = fX8_changed_54 mw 5 g' := by
  intro d
  induction d with
  | zero =>
    intro m f g h hf hs
    obtain ⟨f, rfl⟩ : ∃ q, f = q + 1 := ⟨f - 1, by omega⟩
    refine ⟨g, by rw [show 5 = m from by omega]; exact hs, ?_⟩
    rw [fX8_changed_11, if_pos (show (6 : Int32) ≤ nI (m + 1) from nI_le (a := 6) (by omega) (by omega))]
    rfl
  | succ d ih =>
    intro m f g h hf hs
    obtain ⟨f, rfl⟩ : ∃ q, f = q + 1 := ⟨f - 1, by omega⟩
    obtain ⟨g', h1, h2⟩ := ih (m + 1) f _ (by omega) (by omega) (sh_s hs (by omega))
    refine ⟨g', h1, ?_⟩
    have e1 : (103 : Int32) * nI (m + 1) = nI (103 * m + 103) := by rw [show (103 : Int32) = nI 103 from rfl, pk_mul, Nat.mul_succ]
    have e2 : (103 : Int32) * (nI (m + 1) - 1) = nI (103 * m) := by rw [nI_pred, show (103 : Int32) = nI 103 from rfl, pk_mul]
    rw [fX8_changed_11, if_neg (show ¬ (6 : Int32) ≤ nI (m + 1) from nI_ge (b := 6) (by omega) (by omega)), e1, e2, cps_e (by omega) (by omega), Option.bind_some, nI_1]
    exact h2
theorem chg_e (mw mp : Nat → Int32) {z : Nat} (hz : z < 7) : ∃ mp', fX8_changed (nI z) mw mp = some (nI (if z = 6 then 6 else z + 1), mp') ∧ (∀ k j, k < z → k < 5 → j < 103 → mp' (103 * k + j) = if z = 6 then mp (103 * (k + 1) + j) else mp (103 * k + j)) ∧ (∀ j, j < 103 → mp' (103 * (if z = 6 then 5 else z) + j) = mw j) := by
  have cp : ∀ (g : Nat → Int32) (y : Nat), y < 6 → fX8_changed_54 mw (nI y) g = some (nI (y + 1), va_cpy mw g 0 (103 * y) 103) := by
    intro g y hy
    have e : (103 : Int32) * nI y = nI (103 * y) := pk_mul 103 y
    rw [fX8_changed_54, e, show (0 : Int32) = nI 0 from rfl, cop_e (by omega) (by omega) (by omega) (by omega), Option.bind_some, nI_1]
  by_cases y : z = 6
  · subst y
    obtain ⟨g', h1, h2⟩ := chg_l (mw := mw) (mp := mp) 5 0 64 mp (by omega) (by omega) (fun k j _ _ => by rw [if_neg (by omega)])
    refine ⟨va_cpy mw g' 0 (103 * 5) 103, ?_, fun k j hk hk5 hj => ?_, fun j hj => ?_⟩
    · have e : fX8_changed (nI 6) mw mp = fX8_changed_11 mw 64 (nI (0 + 1)) 6 mp := rfl
      rw [e, h2, show (5 : Int32) = nI 5 from rfl, cp g' 5 (by omega)]
      rfl
    · rw [pk_cpy_out (by omega), h1 k j (by omega) hj, if_pos hk5, if_pos rfl]
    · rw [if_pos rfl, pk_cpy_in (by omega) (by omega), show 0 + (103 * 5 + j - 103 * 5) = j from by omega]
  · refine ⟨va_cpy mw mp 0 (103 * z) 103, ?_, fun k j hk hk5 hj => ?_, fun j hj => ?_⟩
    · rw [fX8_changed, if_neg (show ¬ nI z = (6 : Int32) from fun q => y ((nI_eq (b := 6) (by omega) (by omega)).mp q)), cp mp z (by omega), if_neg y]
    · rw [pk_cpy_out (by omega), if_neg y]
    · rw [if_neg y, pk_cpy_in (by omega) (by omega), show 0 + (103 * z + j - 103 * z) = j from by omega]
theorem hist_e {gw gk mw mp h0w h0k h1w h1k h2w h2k h3w h3k h4w h4k h5w h5k : Nat → Int32} {o z : Nat} (h : Hs o z (pick6 h0w h1w h2w h3w h4w h5w) (pick6 h0k h1k h2k h3k h4k h5k) mp) (hR : Rg gw gk mw) (hG : Gd gw gk) : ∃ o' z' a0w a0k a1w a1k a2w a2k a3w a3k a4w a4k a5w a5k mp', fX2_remember (nI o) (nI z) gw gk h0w h0k h1w h1k h2w h2k h3w h3k h4w h4k h5w h5k = some (nI o', nI z', a0w, a0k, a1w, a1k, a2w, a2k, a3w, a3k, a4w, a4k, a5w, a5k) ∧ fX8_changed (nI z) mw mp = some (nI z', mp') ∧ Hs o' z' (pick6 a0w a1w a2w a3w a4w a5w) (pick6 a0k a1k a2k a3k a4k a5k) mp' := by
  obtain ⟨ho, hz, hk⟩ := h
  obtain ⟨a0w, a0k, a1w, a1k, a2w, a2k, a3w, a3k, a4w, a4k, a5w, a5k, e1, e2⟩ := rem_e gw gk h0w h0k h1w h1k h2w h2k h3w h3k h4w h4k h5w h5k o ho z (by omega)
  obtain ⟨mp', f1, f2, f3⟩ := chg_e mw mp (z := z) (by omega)
  refine ⟨_, _, a0w, a0k, a1w, a1k, a2w, a2k, a3w, a3k, a4w, a4k, a5w, a5k, mp', e1, f1, ?_, ?_, fun k hk2 => ?_⟩
  · split <;> omega
  · split <;> omega
  · by_cases y : z = 6
    · subst y
      simp only [if_true] at hk2 f3 f2 ⊢
      have hs : ((o + 1) % 6 + k) % 6 < 6 := Nat.mod_lt _ (by decide)
      obtain ⟨p1, p2⟩ := e2 (((o + 1) % 6 + k) % 6) hs
      rw [p1, p2]
      by_cases l : k = 5
      · subst l
        rw [if_pos (by omega), if_pos (by omega)]
        exact ⟨Rg_congr hR (fun j h => cpy_at h) (fun j h => cpy_at h) (fun j h => f3 j h), Gd_congr hG (fun j h => cpy_at h) (fun j h => cpy_at h)⟩
      · rw [if_neg (by omega), if_neg (by omega), show ((o + 1) % 6 + k) % 6 = (o + (k + 1)) % 6 from by omega]
        obtain ⟨r1, r2⟩ := hk (k + 1) (by omega)
        exact ⟨Rg_congr r1 (fun j _ => rfl) (fun j _ => rfl) (fun j h => f2 k j (by omega) (by omega) h), r2⟩
    · simp only [if_neg y] at hk2 f3 f2 ⊢
      have hs : (o + k) % 6 < 6 := Nat.mod_lt _ (by decide)
      obtain ⟨p1, p2⟩ := e2 ((o + k) % 6) hs
      rw [p1, p2]
      by_cases l : k = z
      · subst l
        rw [if_pos rfl, if_pos rfl]
        exact ⟨Rg_congr hR (fun j h => cpy_at h) (fun j h => cpy_at h) (fun j h => f3 j h), Gd_congr hG (fun j h => cpy_at h) (fun j h => cpy_at h)⟩
      · rw [if_neg (by omega), if_neg (by omega)]
        obtain ⟨r1, r2⟩ := hk k (by omega)
        exact ⟨Rg_congr r1 (fun j _ => rfl) (fun j _ => rfl) (fun j h => f2 k j (by omega) (by omega) h), r2⟩
theorem keeps_e (thr : Int32) (ms mw : Nat → Int32) : fX8_keeps thr ms mw = some (0, va_cpy ms mw 0 0 103) := by
  rw [fX8_keeps, show fX8_copies 103 ms 103 mw 0 0 = _ from cop_e (sp := 0) (dp := 0) (by omega) (by omega) (by omega) (by omega)]
  rfl
theorem ends0 {chg chg' told as : Int32} {mw mp mp' : Nat → Int32} (h : fX8_changed chg mw mp = some (chg', mp')) : fX8_ends chg 0 mw mp told as = some (told, chg', 0, mp') := by
  rw [fX8_ends, if_pos rfl, h]; rfl
theorem ends9 (chg told as : Int32) (mw mp : Nat → Int32) : fX8_ends chg 9 mw mp told as = some (0, chg, as, mp) := rfl
theorem ends1 (chg told as : Int32) (mw mp : Nat → Int32) : fX8_ends chg 1 mw mp told as = some (0, chg, 1, mp) := rfl
theorem ends2 (chg told as : Int32) (mw mp : Nat → Int32) : fX8_ends chg 2 mw mp told as = some (0, chg, 2, mp) := rfl
theorem dr0 : fX7_demandRange 0 = some 0 := rfl
theorem drm1 : fX7_demandRange (-1) = some 0 := rfl
theorem drm2 : fX7_demandRange (-2) = some 1 := rfl
theorem dt0 : fX7_demandThere 0 = some 0 := rfl
theorem dtm1 : fX7_demandThere (-1) = some 3 := rfl
theorem dtm2 : fX7_demandThere (-2) = some 0 := rfl
theorem da0 (u a b c : Int32) : fX7_demandAllowed u a b c 0 = some (0, a, b, c) := rfl
theorem dam1 (u a b c : Int32) : fX7_demandAllowed u a b c (-1) = some (0, a, b, c) := rfl
theorem dam2 (u a b c : Int32) : fX7_demandAllowed u a b c (-2) = some (0, a, b, c) := rfl
theorem dk {k : Nat} (h1 : 1 ≤ k) (h2 : k ≤ 14) : fX7_demandRange (nI k) = some 0 ∧ fX7_demandThere (nI k) = some 0 ∧ (∀ u a b c, fX7_demandAllowed u a b c (nI k) = some (2, nI k, u, -1)) := by
  have z : ∀ k, k < 15 → 1 ≤ k → ¬ nI k = -2 ∧ ¬ nI k = -1 ∧ ¬ nI k ≤ 0 := by decide +kernel
  obtain ⟨a, b, c⟩ := z k (by omega) h1
  refine ⟨by rw [fX7_demandRange, if_neg a], by rw [fX7_demandThere, if_neg b], fun u x y w => ?_⟩
  rw [fX7_demandAllowed, if_neg c]; rfl

