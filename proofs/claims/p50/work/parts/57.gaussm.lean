/-! step forms: the model's -/
/-- only the form changes -/
theorem nI_8 (i j : Nat) : (8 : Int32) * nI i + nI j = nI (8 * i + j) := by
  have e : (8 : Int32) * nI i = nI (8 * i) := pk_mul 8 i
  rw [e, nI_add]
