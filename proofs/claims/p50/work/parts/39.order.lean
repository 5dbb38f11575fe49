/-! orders -/
/-- the model's primes -/
def nq (k : Nat) : Nat := [3, 5, 17, 257, 641, 65537, 6700417].getD k 1
def np_ok (m : qm_M) : Prop := ∀ k, k < 7 → m.2 118 k = bn (BitVec.ofNat 64 (nq k))
/-- the product of the primes of a set, the first n of them -/
/-- what is left of the set after k primes -/
/-! the class's is the same -/
/-- the class's places of the primes -/
/-- the product of a level's primes -/
/-- the class's order is the model's -/
/-- the order -/
