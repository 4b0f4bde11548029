theorem g_law_ok (L : Nat) (xs : Nat → Int32) (hL : L ≤ 2048) : ∃ N : Nat, g_Law_law_0 N L xs = some 1 := by
  sorry
