/-! step forms: what both compute -/
abbrev gA : Type := Nat → Nat → nb_F
