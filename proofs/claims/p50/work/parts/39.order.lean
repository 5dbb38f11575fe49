/-! orders -/
/-- the model's primes -/
def nq (k : Nat) : Nat := [3, 5, 17, 257, 641, 65537, 6700417].getD k 1
def np_ok (m : qm_M) : Prop := ∀ k, k < 7 → m.2 118 k = bn (BitVec.ofNat 64 (nq k))
/-! the class's is the same -/
