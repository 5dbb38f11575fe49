/-! polynomials by coefficients, as functions -/
theorem nb_xc {a b c d : nb_F} (h : a = b) (g : c = d) : a ^^^ c = b ^^^ d := by rw [h, g]
theorem nb_0x (x : nb_F) : 0 ^^^ x = x := BitVec.zero_xor
/-- the first n coefficients, at x -/
/-- the highest one apart -/
/-- less its value at a: times x less a -/
/-- more roots than its degree: all coefficients are 0 -/
/-- as many points as coefficients: they are told by the values -/
/-- a function that is a polynomial of less than n coefficients -/
/-- times x -/
/-- times x less a -/
