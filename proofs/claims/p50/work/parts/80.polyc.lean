/-! polynomials in arrays: the class -/
/-! quotients -/
/-- the two halves of the places -/
def hA (P : sP) : Nat → nb_F := fun i => if i < 4 then pP P i else 0
def hB (P : sP) : Nat → nb_F := fun i => if i < 4 then pP P (4 + i) else 0
