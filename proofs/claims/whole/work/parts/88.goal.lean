/-- the pure half: the two programs answer alike on every script -/
theorem pure_law (B L : Nat) (xs : Nat → Int32) (hL : L ≤ 256) : ∃ hz, f_L_law L xs (B, fun _ => none) = some (1, hz) := by
  obtain ⟨h3, h6, e1, n1, e2, iv⟩ := inv_0 B
  obtain ⟨hz, ez⟩ := law_go B L xs hL 64 0 lots h6 (by omega) (by simp only [lots]; omega) iv
  refine ⟨hz, ?_⟩
  rw [Nat.mul_zero, nI_0] at ez
  show (f_X7_init (hnew (B, fun _ => none) _) B).bind _ = _
  rw [e1, b_some]
  show (f_X8_init (hnew h3 _) h3.1).bind _ = _
  rw [n1, e2, b_some]
  exact ez
