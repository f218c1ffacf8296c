theorem pure_all (xs : Nat → Int32) (L : Nat) (hL : L ≤ 260) : ∃ gh, LawPure gh xs L := sorry
