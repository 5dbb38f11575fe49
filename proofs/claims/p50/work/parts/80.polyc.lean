/-! polynomials in arrays: the class -/
/-- a loop that goes down and may end early -/
/-- an array of n longs -/
/-- what it holds -/
/-! quotients -/
/-- the rest, less a multiple of the divisor -/
/-- what is common of both -/
/-- the two halves of the places -/
def hA (P : sP) : Nat → nb_F := fun i => if i < 4 then pP P i else 0
def hB (P : sP) : Nat → nb_F := fun i => if i < 4 then pP P (4 + i) else 0
