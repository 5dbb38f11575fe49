/-! the class: images, sums of traces -/
/-- the images of x -/
theorem xs_z {n : Nat} {f : Nat → nb_F} (h : ∀ i, i < n → f i = 0) : xs n f = 0 := by
  induction n with
  | zero => rfl
  | succ n ih => rw [xs_s, ih (fun i hi => h i (by omega)), h n (by omega), nb_xx]
