/-! count -/
theorem sRow_lt (x : nb_F) (r : Nat) : sRow x r < 64 := Nat.mod_lt _ (by decide)
theorem sRow_hi (x : nb_F) (r : Nat) {i : Nat} (hi : 6 ≤ i) : (sRow x r).testBit i = false := Nat.testBit_lt_two_pow (Nat.lt_of_lt_of_le (sRow_lt x r) (Nat.pow_le_pow_right (n := 2) (by decide) hi))
theorem sRow_any (x : nb_F) (r : Nat) : (List.range 6).any (fun c => (sRow x r).testBit c) = !decide (sRow x r = 0) := by
  by_cases h : sRow x r = 0
  · rw [h]; simp
  · have e : decide (sRow x r = 0) = false := decide_eq_false h
    rw [e]
    obtain ⟨i, hi⟩ := Nat.exists_testBit_of_ne_zero h
    have h6 : i < 6 := by
      by_cases q : i < 6
      · exact q
      · rw [sRow_hi x r (by omega)] at hi; cases hi
    exact List.any_eq_true.mpr ⟨i, List.mem_range.mpr h6, hi⟩
theorem sRows_bit (x : nb_F) : ∀ r i, (sRows x r).testBit i = (decide (i < r) && !decide (sRow x i = 0))
  | 0, i => by show Nat.testBit 0 i = _; simp
  | r + 1, i => by
    have ih := sRows_bit x r i
    show (if sRow x r = 0 then sRows x r else sRows x r + 2 ^ r).testBit i = _
    by_cases h : sRow x r = 0
    · rw [if_pos h, ih]
      by_cases q : i = r
      · subst q; simp [h]
      · have : decide (i < r + 1) = decide (i < r) := by rw [decide_eq_decide]; omega
        rw [this]
    · rw [if_neg h, ← nb_orp (sRows_lt x r), Nat.testBit_or, ih, Nat.testBit_two_pow]
      by_cases q : i = r
      · subst q; simp [h]
      · have q2 : ¬ r = i := fun z => q z.symm
        have : decide (i < r + 1) = decide (i < r) := by rw [decide_eq_decide]; omega
        rw [this]
        simp [q2]
theorem sAll_rows (x : nb_F) : ∀ r i, (sAll true x r).testBit i = (sRows x r).testBit i
  | 0, i => rfl
  | r + 1, i => by
    show (sAdd true x r 6 (sAll true x r)).testBit i = _
    rw [sAdd_bit true x r _ 6 (by omega), sAll_rows x r i, sRows_bit, sRows_bit, sRow_any]
    simp only [if_true]
    by_cases q : i = r
    · subst q; simp
    · have : decide (i < r + 1) = decide (i < r) := by rw [decide_eq_decide]; omega
      rw [this]
      simp [q]
theorem sAll_cols (x : nb_F) : ∀ r i, (sAll false x r).testBit i = (sCols x r).testBit i
  | 0, i => rfl
  | r + 1, i => by
    show (sAdd false x r 6 (sAll false x r)).testBit i = (sCols x r ||| sRow x r).testBit i
    rw [sAdd_bit false x r _ 6 (by omega), sAll_cols x r i, Nat.testBit_or]
    simp only [Bool.false_eq_true, if_false]
    by_cases q : i < 6
    · simp [q]
    · rw [sRow_hi x r (by omega)]; simp
/-- shelves that are kept, as bits -/
def sKs (f : Nat → Bool) : Int32 := (if f 0 then 1 else 0) ||| (if f 1 then 2 else 0)
