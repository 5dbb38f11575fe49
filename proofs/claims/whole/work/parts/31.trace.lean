/-! trace and level of the calls -/
theorem nw_ex (k : Int32) (h0 : ¬ k < 0) : ∃ j, j < 2 ^ 31 ∧ k = nI j := by
  refine ⟨k.toInt.toNat, ?_, ?_⟩
  · have h1 := Int32.toInt_lt k
    omega
  · apply Int32.toInt_inj.mp
    have h1 := Int32.toInt_lt k
    have h2 : 0 ≤ k.toInt := by
      have : ¬ k.toInt < (0 : Int32).toInt := fun q => h0 (Int32.lt_iff_toInt_lt.mpr q)
      have e : (0 : Int32).toInt = 0 := by decide
      omega
    rw [nI_toInt (by omega)]
    omega
/-- the trace over the level told; -1 where there is none -/
def nw_trace (x : Int64) (k : Int32) : Int32 :=
  if k < 0 then -1 else if 6 < k then -1 else if k < nI (nb_lev (nb x)) then -1 else Int64.toInt32 (bn (nb_has k.toNatClampNeg (nb x)))
theorem nw_has_shr {j : Nat} (hj : j < 7) (x : Int64) : qo_lushr x (qo_ishl 1 (nI j) - 1) &&& 1 = bn (nb_has j (nb x)) := by
  have h : (List.range 7).all (fun j => decide (qo_ishl 1 (nI j) - 1 = nI (2 ^ j - 1) ∧ 2 ^ j - 1 < 64)) = true := by decide +kernel
  have h1 := of_decide_eq_true (List.all_eq_true.mp h j (List.mem_range.mpr hj))
  apply nb_inj
  rw [h1.1, no_and, no_lushr _ h1.2]
  rfl
theorem tw_trace (x : Int64) (k : Int32) (m : qm_M) : F_T_trace x k m = some (some (.int (nw_trace x k)), m) := by
  unfold F_T_trace X_T_trace_e nw_trace
  by_cases h1 : k < 0
  · rw [if_pos h1, if_pos h1]
  · by_cases h2 : 6 < k
    · rw [if_neg h1, if_neg h1, if_pos h2, if_pos h2]
    · rw [if_neg h1, if_neg h1, if_neg h2, if_neg h2, nu_levelOf]
      dsimp only [qe_rI]
      by_cases h3 : k < nI (nb_lev (nb x))
      · rw [if_pos h3, if_pos h3]
      · rw [if_neg h3, if_neg h3]
        obtain ⟨j, hj, rfl⟩ := nw_ex k h1
        have hj7 : j < 7 := by
          by_cases q : j < 7
          · exact q
          · exact absurd (nI_lt (a := 6) (b := j) (by omega) hj) h2
        unfold F_Nu_traceOf X_Nu_traceOf_e
        dsimp only [qe_rI]
        rw [nw_has_shr hj7, nI_clamp hj]
theorem mt_trace_loop {m : qm_M} (hm : nt_ok 64 m) {j : Nat} (hj : j < 7) (x : nb_F) (d : Nat) : ∀ (f i : Nat), 2 ^ j - i = d → i ≤ 2 ^ j → d < f → L_M_trace_31 f (nI j) (bn (nb_tr i x)) (bn (nb_sqN i x)) (nI i) m = some (some (.int (Int64.toInt32 (bn (nb_tr (2 ^ j) x)))), m) := by
  have hp : 2 ^ j ≤ 2 ^ 6 := Nat.pow_le_pow_right (by decide) (by omega)
  induction d with
  | zero =>
    intro f i h1 h2 h3
    obtain ⟨f, rfl⟩ : ∃ g, f = g + 1 := ⟨f - 1, by omega⟩
    have e : i = 2 ^ j := by omega
    show X_M_trace_31 _ _ _ _ _ _ _ _ _ = _
    unfold X_M_trace_31
    rw [no_ishl1 (by omega), e, if_neg (nI_nlt (Nat.le_refl _) (by omega))]
  | succ d ih =>
    intro f i h1 h2 h3
    obtain ⟨f, rfl⟩ : ∃ g, f = g + 1 := ⟨f - 1, by omega⟩
    show X_M_trace_31 _ _ _ _ _ _ _ _ _ = _
    unfold X_M_trace_31
    rw [no_ishl1 (by omega), if_pos (nI_lt (by omega) (by omega)), mt_square hm]
    dsimp only [qe_rL]
    have e1 : nb_mul (nb_sqN i x) (nb_sqN i x) = nb_sqN (i + 1) x := by
      rw [Nat.add_comm i 1, nb_sqN_add 0 1 i x, nb_sqN_s, nb_sqN_0]
      unfold nb_sq
      with_reducible rfl
    rw [nb_bn, e1, bn_xor, ← nb_tr_s, ← nI_succ]
    exact ih f (i + 1) (by omega) (by omega) (by omega)
theorem nb_in_mono {a b : Nat} (h : a ≤ b) {x : nb_F} (hx : nb_in a x) : nb_in b x :=
  nb_in_bit.mpr (fun i hi hb => nb_in_bit.mp hx i hi (Nat.le_trans (Nat.pow_le_pow_right (by decide) h) hb))
theorem mt_isIn6 (k : Int32) (m : qm_M) : F_M_isIn k.toInt64 0 6 m = some (some (.int (if k < 0 then 0 else if 6 < k then 0 else 1)), m) := by
  have h1 : (lg_cmp k.toInt64 0 < 0) ↔ k < 0 := by
    rw [lg_cmp_lt, Int64.lt_iff_toInt_lt, Int32.lt_iff_toInt_lt, Int32.toInt_toInt64]
    exact Iff.rfl
  have h2 : (0 < lg_cmp k.toInt64 6) ↔ 6 < k := by
    rw [lg_cmp_gt, Int64.lt_iff_toInt_lt, Int32.lt_iff_toInt_lt, Int32.toInt_toInt64]
    exact Iff.rfl
  unfold F_M_isIn X_M_isIn_e
  by_cases q1 : k < 0
  · rw [if_pos (h1.mpr q1), if_pos q1]
  · rw [if_neg (fun z => q1 (h1.mp z)), if_neg q1]
    by_cases q2 : 6 < k
    · rw [if_pos (h2.mpr q2), if_pos q2]
    · rw [if_neg (fun z => q2 (h2.mp z)), if_neg q2]
theorem mw_trace {m : qm_M} (hm : nt_ok 64 m) (x : Int64) (k : Int32) : F_M_trace x k m = some (some (.int (nw_trace x k)), m) := by
  unfold F_M_trace X_M_trace_e nw_trace
  rw [mt_isIn6]
  dsimp only [qe_rI]
  by_cases h1 : k < 0
  · rw [if_pos h1, if_pos h1, if_pos (by decide)]
  · by_cases h2 : 6 < k
    · rw [if_neg h1, if_neg h1, if_pos h2, if_pos h2, if_pos (by decide)]
    · rw [if_neg h1, if_neg h1, if_neg h2, if_neg h2, if_neg (by decide), mt_levelOf]
      dsimp only [qe_rI]
      by_cases h3 : k < nI (nb_lev (nb x))
      · rw [if_pos h3, if_pos h3]
      · rw [if_neg h3, if_neg h3]
        obtain ⟨j, hj, rfl⟩ := nw_ex k h1
        have hj7 : j < 7 := by
          by_cases q : j < 7
          · exact q
          · exact absurd (nI_lt (a := 6) (b := j) (by omega) hj) h2
        have hle : nb_lev (nb x) ≤ j := by
          by_cases q : nb_lev (nb x) ≤ j
          · exact q
          · exact absurd (nI_lt (a := j) (b := nb_lev (nb x)) (by omega) (by have := nb_lev_lt (nb x); omega)) h3
        have hp : 2 ^ j ≤ 2 ^ 6 := Nat.pow_le_pow_right (by decide) (by omega)
        have h := mt_trace_loop hm hj7 (nb x) (2 ^ j) 1000000 0 rfl (Nat.zero_le _) (by omega)
        rw [nb_tr_bit j hj7 _ (nb_in_mono hle (nb_lev_in _)), nb_tr_0, nb_sqN_0] at h
        rw [nI_clamp hj]
        exact h
