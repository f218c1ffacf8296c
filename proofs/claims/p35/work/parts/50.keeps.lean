/-! the class side of keeps -/
def rk (c : Nat → Int) : Int := Int.gcd (Int.gcd (Int.gcd (c 0) (c 1)) (Int.gcd (c 2) (c 3))) (c 4)
def rg (c : Nat → Int) : Int := if 0 ≤ c 4 then rk c else -(rk c)
