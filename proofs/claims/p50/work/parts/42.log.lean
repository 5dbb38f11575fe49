/-! logarithms -/
theorem no_zB (y : nb_F) : (lg_cmp (bn y) 0 = 0) ↔ y = 0 := no_cmpz (bn y)
/-! the class: what is left by a prime, and both joined -/
theorem nb_lN {n : Nat} (h : n < 2 ^ 64) : (nb (lN n)).toNat = n := by
  show (BitVec.ofNat 64 n).toNat = n
  rw [BitVec.toNat_ofNat, Nat.mod_eq_of_lt h]
/-! both answer alike -/
