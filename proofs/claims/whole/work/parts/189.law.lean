theorem law_pure (L : Nat) (xs : Nat → Int32) (hL : L ≤ 3586) : wpLw_start L xs := sorry
