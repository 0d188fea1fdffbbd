theorem pure_law (N : Nat) (xs : Nat → Int32) (hN : N ≤ 3072) : f_whole N xs = some () := by
  sorry
