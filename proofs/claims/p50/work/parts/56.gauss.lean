/-! step forms: what both compute -/
abbrev gA : Type := Nat → Nat → nb_F
/-- others are cleared: the first n rows -/
/-- the first row from p on that has something there -/
/-- what stands ahead of it is 0; itself it is not, if it is a row -/
/-- nothing to the left below, nothing far right -/
/-- the pivot's row stays -/
/-- rows not yet reached stay -/
/-- behind it the column is 0 but for the pivot, which is 1 -/
