/-! a level's numbers as roots; what is common with x^q + x; traces part roots -/
theorem bN_toNat {i : Nat} (h : i < 2 ^ 64) : (bN i).toNat = i := by
  unfold bN
  rw [BitVec.toNat_ofNat, Nat.mod_eq_of_lt h]
