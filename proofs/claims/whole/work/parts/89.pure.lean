/-- WHAT IS LEFT: the function of the law answers 1 on every script -/
theorem ax_pure (n : Nat) (hn : n ≤ 3072) (xs : Nat → Int32) : ∃ q, fi_L_law (some 6) (ax_s0 n xs) = some q ∧ q.1 = 1 := by
  sorry
