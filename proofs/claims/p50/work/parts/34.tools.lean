/-! loops; memory; numbers as a ring for grind -/
/-- a loop by fuel: what holds of its end, out of one turn of it -/
theorem me_1I (m : qm_M) (o j : Nat) (x : Int32) (a i : Nat) : (qm_sI m o j x).1 a i = if a = o then (if i = j then x else m.1 a i) else m.1 a i := by
  by_cases h : a = o
  · subst h
    rw [if_pos rfl, qm_sI_self]
    unfold upd
    rfl
  · rw [if_neg h, (qm_sI_other a h).1]
theorem me_2I (m : qm_M) (o j : Nat) (x : Int32) : (qm_sI m o j x).2 = m.2 := rfl
theorem me_1L (m : qm_M) (o j : Nat) (x : Int64) : (qm_sL m o j x).1 = m.1 := rfl
theorem me_2L (m : qm_M) (o j : Nat) (x : Int64) (a i : Nat) : (qm_sL m o j x).2 a i = if a = o then (if i = j then x else m.2 a i) else m.2 a i := by
  by_cases h : a = o
  · subst h
    rw [if_pos rfl, qm_sL_self]
    rfl
  · rw [if_neg h, (qm_sL_other a h).2]
/-! the ring -/
