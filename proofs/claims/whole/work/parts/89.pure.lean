/-- THE PURE CLAIM: class and model answer alike, on every script -/
theorem law_pure (Ln : Nat) (xs : Nat → Int32) (hL : Ln ≤ 3072) : f_law 1000000 Ln xs = some 1 := by
  sorry
