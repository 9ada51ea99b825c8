theorem pure_law (L : Nat) (xs : Nat → Int32) (z : Int32) (hL : L ≤ 2048) : ∃ s', La_run L (sgS L xs z) = some (1, s') := sorry
