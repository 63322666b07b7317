/-- THE LAW in the abstract machine (owed) -/
theorem am_law {L : Nat} (hL : L ≤ 3072) (xs : Nat → Int32) : am_W am_all (am_run 200) e_Law_law (fun r _ _ _ => r = some (.int 1)) 0 [.ref 1, .null, .null, .null] [] (am_I0 xs) am_L0 (am_G0 L) 0 0 := by
  sorry
