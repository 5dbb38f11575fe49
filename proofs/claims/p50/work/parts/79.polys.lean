/-! polynomials: lengths, products, what is common -/
theorem bN_inj {i j : Nat} (hi : i < 2 ^ 64) (hj : j < 2 ^ 64) (h : bN i = bN j) : i = j := by
  have e := congrArg BitVec.toNat h
  unfold bN at e
  rw [BitVec.toNat_ofNat, BitVec.toNat_ofNat, Nat.mod_eq_of_lt hi, Nat.mod_eq_of_lt hj] at e
  exact e
/-- alike everywhere: alike in each coefficient -/
/-- coefficients of a product -/
/-- lengths of a product -/
/-- monic, or none -/
/-- what two have in common -/
/-- it is one -/
/-- on the way: two that tell what A, B tell -/
/-- less a multiple of the other -/
/-- none is left: the other one is common -/
