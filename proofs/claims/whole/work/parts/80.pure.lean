theorem law_pure (L : Nat) (hL : L ≤ 2560) (xs : Nat → Int32) : ∃ S' : AS, f_L_law L xs S00 = some ((0, 1, none), S') := by
  sorry
