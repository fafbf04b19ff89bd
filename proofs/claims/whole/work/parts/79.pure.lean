/-- what is left: the pure texts agree on every script -/
theorem law_pure (L : Nat) (xs : Nat → Int32) (hL : L ≤ 2560) : fL L xs 5000 (cl63 M0C) M0R 0 = some 1 := sorry
