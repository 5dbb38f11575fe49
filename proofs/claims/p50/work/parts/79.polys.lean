/-! polynomials: lengths, products, what is common -/
theorem bN_inj {i j : Nat} (hi : i < 2 ^ 64) (hj : j < 2 ^ 64) (h : bN i = bN j) : i = j := by
  have e := congrArg BitVec.toNat h
  unfold bN at e
  rw [BitVec.toNat_ofNat, BitVec.toNat_ofNat, Nat.mod_eq_of_lt hi, Nat.mod_eq_of_lt hj] at e
  exact e
