/-- THE PURE CLAIM: class and model answer alike, on every script -/
theorem law_pure (Ln : Nat) (xs : Nat → Int32) (hL : Ln ≤ 3072) : f_law 1000000 Ln xs = some 1 := by
  obtain ⟨w1, w2, a1, a2, a3, d⟩ := start_C
  obtain ⟨w3, b1, b2, al, b3, b4⟩ := start_M d (fu := 1000000) (by omega)
  have hI := start_Inv d b4
  rw [f_law, a1, some_bind', a2, a3, some_bind', b1, some_bind', bnd_eq, d.2.1, b2, b3, some_bind', bnd_eq]
  exact law_loop Ln xs hL (by omega) 1000000 0 _ hI (by omega) (by omega)
