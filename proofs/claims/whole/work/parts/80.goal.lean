/-- the pure half: the two programs answer alike on every script -/
theorem pure_law (B L : Nat) (xs : Nat → Int32) (hL : L ≤ 256) : ∃ hz, f_L_law L xs (B, fun _ => none) = some (1, hz) := by
  sorry
