theorem pure_all (xs : Nat → Int32) (L : Nat) (hL : L ≤ 260) : LawPure xs L := sorry
