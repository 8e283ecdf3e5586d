/-- the law's model answers true for every script: what is left to prove -/
theorem fm_Law_one (L : Nat) (xi : Nat → Int) (hL : L ≤ 3072) : fm_Law L xi = some 1 := by
  sorry
