/-! trace and level of the calls -/
theorem nw_ex (k : Int32) (h0 : ¬ k < 0) : ∃ j, j < 2 ^ 31 ∧ k = nI j := by
  refine ⟨k.toInt.toNat, ?_, ?_⟩
  · have h1 := Int32.toInt_lt k
    omega
  · apply Int32.toInt_inj.mp
    have h1 := Int32.toInt_lt k
    have h2 : 0 ≤ k.toInt := by
      have : ¬ k.toInt < (0 : Int32).toInt := fun q => h0 (Int32.lt_iff_toInt_lt.mpr q)
      have e : (0 : Int32).toInt = 0 := by decide
      omega
    rw [nI_toInt (by omega)]
    omega
