/-! every call -/
theorem sx_read : St_read Inv := by sorry
theorem sx_all : StAll Inv := ⟨sx_whale, sx_swap, sx_swim, sx_strike, sx_sing, sx_drift, sx_whaleOf, sx_at, sx_isDry, sx_tide, sx_tideAgain, sx_turnsIn, sx_steps, sx_stepsAgain, sx_reach, sx_would, sx_wouldAgain, sx_wouldFoul, sx_best, sx_beside, sx_ranked, sx_calf, sx_leader, sx_isFair, sx_row, sx_tell, sx_character, sx_meanBreath, sx_foulShare, sx_account, sx_append, sx_read, sx_errorPosition, sx_reason, sx_undo, sx_save, sx_restore⟩
