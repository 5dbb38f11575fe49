/-! halves: z with z times z and z together a; the class's -/
theorem nb_bit0 (r : nb_F) (k : Nat) : (r >>> k) &&& 1 = 0 ↔ r.getLsbD k = false := by
  rw [nb_low1]
  have e : (r >>> k).getLsbD 0 = r.getLsbD k := by rw [BitVec.getLsbD_ushiftRight, Nat.add_zero]
  rw [e]
  cases r.getLsbD k
  · simp
  · simp
/-! the class computes it -/
theorem no_cmp0b (x : nb_F) (k : Nat) (hk : k < 64) : (lg_cmp (qo_lushr (bn x) (nI k) &&& 1) 0 = 0) ↔ x.getLsbD k = false := by
  rw [no_cmpz, no_and, no_lushr _ hk]
  exact nb_bit0 x k
theorem no_lshl1 {k : Nat} (hk : k < 64) : qo_lshl 1 (nI k) = bn (nb_e k) := nb_inj (no_lshl _ hk)
