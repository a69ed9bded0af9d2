theorem law_pure (L : Nat) (hL : L ≤ 3072) (xs : Nat → Int) : pL_law_L18 L xs FUEL h00 0 := sorry
