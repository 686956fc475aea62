/-! what is left: the law's function ends well for every script -/
theorem pure_law (L : Nat) (xs : Nat → Int32) (hL : L ≤ 2560) : ∃ wh, f_L_law L xs h00 = some wh := by
  sorry
