/-! polynomials by coefficients, as functions -/
theorem nb_xc {a b c d : nb_F} (h : a = b) (g : c = d) : a ^^^ c = b ^^^ d := by rw [h, g]
theorem nb_0x (x : nb_F) : 0 ^^^ x = x := BitVec.zero_xor
