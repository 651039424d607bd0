theorem law_ok (L : Nat) (xs : Nat → Int32) (hL : L ≤ 2560) : f_L_law_b18 L xs 4096 in_X5 in_X6 0 = some 1 := by sorry
