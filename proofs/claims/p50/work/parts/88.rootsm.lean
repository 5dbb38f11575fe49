/-! the model's roots; roots as both answer -/
theorem nI_m1 {j : Nat} (h : j < 2 ^ 31) : ¬ nI j = -1 := fun z => nI_pos h (z ▸ (by decide : (-1 : Int32) < 0))
