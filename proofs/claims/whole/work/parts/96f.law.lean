/-! the law's loop: printed by g/gen_law.py -/
theorem le_L_law_18 (kp : pm_K) (n : Nat) (v3 : Int32) (m : qm_M) : L_L_law_18 kp (n + 1) v3 m = X_L_law_18 kp (L_L_law_18 kp n) (L_L_law_236 kp (L_L_law_18 kp n)) (L_L_law_299 kp (L_L_law_18 kp n)) (L_L_law_322 kp (L_L_law_18 kp n)) (L_L_law_335 kp (L_L_law_18 kp n)) (L_L_law_368 kp (L_L_law_18 kp n)) (L_L_law_401 kp (L_L_law_18 kp n)) (L_L_law_414 kp (L_L_law_18 kp n)) (L_L_law_477 kp (L_L_law_18 kp n)) (L_L_law_530 kp (L_L_law_18 kp n)) (L_L_law_543 kp (L_L_law_18 kp n)) (L_L_law_566 kp (L_L_law_18 kp n)) (L_L_law_589 kp (L_L_law_18 kp n)) (L_L_law_622 kp (L_L_law_18 kp n)) (L_L_law_695 kp (L_L_law_18 kp n)) (L_L_law_718 kp (L_L_law_18 kp n)) (L_L_law_731 kp (L_L_law_18 kp n)) (L_L_law_775 kp (L_L_law_18 kp n)) (L_L_law_789 kp (L_L_law_18 kp n)) (L_L_law_812 kp (L_L_law_18 kp n)) (L_L_law_836 kp (L_L_law_18 kp n)) (L_L_law_869 kp (L_L_law_18 kp n)) (L_L_law_893 kp (L_L_law_18 kp n)) (L_L_law_917 kp (L_L_law_18 kp n)) (L_L_law_971 kp (L_L_law_18 kp n)) (L_L_law_994 kp (L_L_law_18 kp n)) (L_L_law_1028 kp (L_L_law_18 kp n)) (L_L_law_1052 kp (L_L_law_18 kp n)) (L_L_law_1075 kp (L_L_law_18 kp n)) (L_L_law_1169 kp (L_L_law_18 kp n)) (L_L_law_1223 kp (L_L_law_18 kp n)) (L_L_law_1277 kp (L_L_law_18 kp n)) (L_L_law_1371 kp (L_L_law_18 kp n)) (L_L_law_1425 kp (L_L_law_18 kp n)) (L_L_law_1488 kp (L_L_law_18 kp n)) (L_L_law_1542 kp (L_L_law_18 kp n)) (L_L_law_1605 kp (L_L_law_18 kp n)) (L_L_law_1659 kp (L_L_law_18 kp n)) (L_L_law_1763 kp (L_L_law_18 kp n)) (L_L_law_1856 kp (L_L_law_18 kp n)) (L_L_law_1880 kp (L_L_law_18 kp n)) (L_L_law_1944 kp (L_L_law_18 kp n)) (L_L_law_1977 kp (L_L_law_18 kp n)) (L_L_law_2020 kp (L_L_law_18 kp n)) (L_L_law_2034 kp (L_L_law_18 kp n)) (L_L_law_2057 kp (L_L_law_18 kp n)) (L_L_law_2100 kp (L_L_law_18 kp n)) (L_L_law_2133 kp (L_L_law_18 kp n)) v3 m := rfl
theorem lw_end {n t : Nat} (hn : n ≤ 3072) (ht : t ≤ 512) : ((Int32.ofNat n) - (6 : Int32) < nI (6 * t)) ↔ n < 6 * t + 6 := by
  by_cases q : 6 ≤ n
  · have e : (Int32.ofNat n) - (6 : Int32) = nI (n - 6) := nI_sub (a := n) (b := 6) q
    rw [e]
    constructor
    · intro h
      by_cases z : n < 6 * t + 6
      · exact z
      · exact absurd h (nI_nlt (by omega) (by omega))
    · intro h
      exact nI_lt (by omega) (by omega)
  · have c : (List.range 6).all (fun n => decide ((Int32.ofNat n) - (6 : Int32) < 0)) = true := by decide +kernel
    have c1 : (Int32.ofNat n) - (6 : Int32) < 0 := of_decide_eq_true (List.all_eq_true.mp c n (List.mem_range.mpr (by omega)))
    have c2 : ¬ nI (6 * t) < 0 := nI_pos (by omega)
    constructor
    · intro _
      omega
    · intro _
      rw [Int32.lt_iff_toInt_lt] at c1 c2 ⊢
      have i0 : (0 : Int32).toInt = 0 := by decide
      omega
theorem lk_236 {kp : pm_K} {K : Int32 → qm_M → Option qm_R} {t : Nat} {m : qm_M} (hK : ∀ m2, wb_IV m2 → ∃ m3, K (nI (6 * (t + 1))) m2 = some (some (.int 1), m3)) (hm : wb_IV m) (hn : kp.1 ≤ 3072) (ht : 6 * t + 6 ≤ kp.1) : ∃ m3, L_L_law_236 kp K (nI (6 * t)) m = some (some (.int 1), m3) := by
  have e1 : nI (6 * t) + (1 : Int32) = nI (6 * t + 1) := nI_add _ 1
  have q1 : qm_in (nI (6 * t + 1)) kp.1 = true := qm_in_nI (by omega) (by omega)
  have e2 : nI (6 * t) + (2 : Int32) = nI (6 * t + 2) := nI_add _ 2
  have q2 : qm_in (nI (6 * t + 2)) kp.1 = true := qm_in_nI (by omega) (by omega)
  have e3 : nI (6 * t) + (3 : Int32) = nI (6 * t + 3) := nI_add _ 3
  have q3 : qm_in (nI (6 * t + 3)) kp.1 = true := qm_in_nI (by omega) (by omega)
  have e4 : nI (6 * t) + (4 : Int32) = nI (6 * t + 4) := nI_add _ 4
  have q4 : qm_in (nI (6 * t + 4)) kp.1 = true := qm_in_nI (by omega) (by omega)
  have e5 : nI (6 * t) + (5 : Int32) = nI (6 * t + 5) := nI_add _ 5
  have q5 : qm_in (nI (6 * t + 5)) kp.1 = true := qm_in_nI (by omega) (by omega)
  have e6 : nI (6 * t) + (6 : Int32) = nI (6 * (t + 1)) := by rw [Nat.mul_succ]; exact nI_add _ 6
  obtain ⟨r, m1, m2, h1, h2, h3⟩ := wb_feed (kp.2 (Int32.toNatClampNeg (nI (6 * t + 1)))) (kp.2 (Int32.toNatClampNeg (nI (6 * t + 2)))) (kp.2 (Int32.toNatClampNeg (nI (6 * t + 3)))) (kp.2 (Int32.toNatClampNeg (nI (6 * t + 4)))) (kp.2 (Int32.toNatClampNeg (nI (6 * t + 5)))) m hm
  obtain ⟨m3, h4⟩ := hK m2 h3
  refine ⟨m3, ?_⟩
  unfold L_L_law_236 X_L_law_236
  rw [e1, e2, e3, e4, e5, q1, q2, q3, q4, q5, qe_b_e, qe_b_e, qe_b_e, qe_b_e, qe_b_e, h1, qe_rI_e, qe_b_e, qe_b_e, qe_b_e, qe_b_e, qe_b_e, h2, qe_rI_e, if_pos rfl, e6]
  exact h4
theorem lk_299 {kp : pm_K} {K : Int32 → qm_M → Option qm_R} {t : Nat} {m : qm_M} (hK : ∀ m2, wb_IV m2 → ∃ m3, K (nI (6 * (t + 1))) m2 = some (some (.int 1), m3)) (hm : wb_IV m) (hn : kp.1 ≤ 3072) (ht : 6 * t + 6 ≤ kp.1) : ∃ m3, L_L_law_299 kp K (nI (6 * t)) m = some (some (.int 1), m3) := by
  have e1 : nI (6 * t) + (1 : Int32) = nI (6 * t + 1) := nI_add _ 1
  have q1 : qm_in (nI (6 * t + 1)) kp.1 = true := qm_in_nI (by omega) (by omega)
  have e6 : nI (6 * t) + (6 : Int32) = nI (6 * (t + 1)) := by rw [Nat.mul_succ]; exact nI_add _ 6
  obtain ⟨r, m1, m2, h1, h2, h3⟩ := wb_end (kp.2 (Int32.toNatClampNeg (nI (6 * t + 1)))) m hm
  obtain ⟨m3, h4⟩ := hK m2 h3
  refine ⟨m3, ?_⟩
  unfold L_L_law_299 X_L_law_299
  rw [e1, q1, qe_b_e, h1, qe_rI_e, qe_b_e, h2, qe_rI_e, if_pos rfl, e6]
  exact h4
theorem lk_322 {kp : pm_K} {K : Int32 → qm_M → Option qm_R} {t : Nat} {m : qm_M} (hK : ∀ m2, wb_IV m2 → ∃ m3, K (nI (6 * (t + 1))) m2 = some (some (.int 1), m3)) (hm : wb_IV m) (hn : kp.1 ≤ 3072) (ht : 6 * t + 6 ≤ kp.1) : ∃ m3, L_L_law_322 kp K (nI (6 * t)) m = some (some (.int 1), m3) := by
  have e6 : nI (6 * t) + (6 : Int32) = nI (6 * (t + 1)) := by rw [Nat.mul_succ]; exact nI_add _ 6
  obtain ⟨r, m1, m2, h1, h2, h3⟩ := wb_tell m hm
  obtain ⟨m3, h4⟩ := hK m2 h3
  refine ⟨m3, ?_⟩
  unfold L_L_law_322 X_L_law_322
  rw [h1, qe_rI_e, h2, qe_rI_e, if_pos rfl, e6]
  exact h4
theorem lk_335 {kp : pm_K} {K : Int32 → qm_M → Option qm_R} {t : Nat} {m : qm_M} (hK : ∀ m2, wb_IV m2 → ∃ m3, K (nI (6 * (t + 1))) m2 = some (some (.int 1), m3)) (hm : wb_IV m) (hn : kp.1 ≤ 3072) (ht : 6 * t + 6 ≤ kp.1) : ∃ m3, L_L_law_335 kp K (nI (6 * t)) m = some (some (.int 1), m3) := by
  have e1 : nI (6 * t) + (1 : Int32) = nI (6 * t + 1) := nI_add _ 1
  have q1 : qm_in (nI (6 * t + 1)) kp.1 = true := qm_in_nI (by omega) (by omega)
  have e2 : nI (6 * t) + (2 : Int32) = nI (6 * t + 2) := nI_add _ 2
  have q2 : qm_in (nI (6 * t + 2)) kp.1 = true := qm_in_nI (by omega) (by omega)
  have e6 : nI (6 * t) + (6 : Int32) = nI (6 * (t + 1)) := by rw [Nat.mul_succ]; exact nI_add _ 6
  obtain ⟨r, m1, m2, h1, h2, h3⟩ := wb_turn (kp.2 (Int32.toNatClampNeg (nI (6 * t + 1)))) (kp.2 (Int32.toNatClampNeg (nI (6 * t + 2)))) m hm
  obtain ⟨m3, h4⟩ := hK m2 h3
  refine ⟨m3, ?_⟩
  unfold L_L_law_335 X_L_law_335
  rw [e1, e2, q1, q2, qe_b_e, qe_b_e, h1, qe_rI_e, qe_b_e, qe_b_e, h2, qe_rI_e, if_pos rfl, e6]
  exact h4
theorem lk_368 {kp : pm_K} {K : Int32 → qm_M → Option qm_R} {t : Nat} {m : qm_M} (hK : ∀ m2, wb_IV m2 → ∃ m3, K (nI (6 * (t + 1))) m2 = some (some (.int 1), m3)) (hm : wb_IV m) (hn : kp.1 ≤ 3072) (ht : 6 * t + 6 ≤ kp.1) : ∃ m3, L_L_law_368 kp K (nI (6 * t)) m = some (some (.int 1), m3) := by
  have e1 : nI (6 * t) + (1 : Int32) = nI (6 * t + 1) := nI_add _ 1
  have q1 : qm_in (nI (6 * t + 1)) kp.1 = true := qm_in_nI (by omega) (by omega)
  have e2 : nI (6 * t) + (2 : Int32) = nI (6 * t + 2) := nI_add _ 2
  have q2 : qm_in (nI (6 * t + 2)) kp.1 = true := qm_in_nI (by omega) (by omega)
  have e6 : nI (6 * t) + (6 : Int32) = nI (6 * (t + 1)) := by rw [Nat.mul_succ]; exact nI_add _ 6
  obtain ⟨r, m1, m2, h1, h2, h3⟩ := wb_play (kp.2 (Int32.toNatClampNeg (nI (6 * t + 1)))) (kp.2 (Int32.toNatClampNeg (nI (6 * t + 2)))) m hm
  obtain ⟨m3, h4⟩ := hK m2 h3
  refine ⟨m3, ?_⟩
  unfold L_L_law_368 X_L_law_368
  rw [e1, e2, q1, q2, qe_b_e, qe_b_e, h1, qe_rI_e, qe_b_e, qe_b_e, h2, qe_rI_e, if_pos rfl, e6]
  exact h4
theorem lk_401 {kp : pm_K} {K : Int32 → qm_M → Option qm_R} {t : Nat} {m : qm_M} (hK : ∀ m2, wb_IV m2 → ∃ m3, K (nI (6 * (t + 1))) m2 = some (some (.int 1), m3)) (hm : wb_IV m) (hn : kp.1 ≤ 3072) (ht : 6 * t + 6 ≤ kp.1) : ∃ m3, L_L_law_401 kp K (nI (6 * t)) m = some (some (.int 1), m3) := by
  have e6 : nI (6 * t) + (6 : Int32) = nI (6 * (t + 1)) := by rw [Nat.mul_succ]; exact nI_add _ 6
  obtain ⟨r, m1, m2, h1, h2, h3⟩ := wb_answer m hm
  obtain ⟨m3, h4⟩ := hK m2 h3
  refine ⟨m3, ?_⟩
  unfold L_L_law_401 X_L_law_401
  rw [h1, qe_rI_e, h2, qe_rI_e, if_pos rfl, e6]
  exact h4
theorem lk_414 {kp : pm_K} {K : Int32 → qm_M → Option qm_R} {t : Nat} {m : qm_M} (hK : ∀ m2, wb_IV m2 → ∃ m3, K (nI (6 * (t + 1))) m2 = some (some (.int 1), m3)) (hm : wb_IV m) (hn : kp.1 ≤ 3072) (ht : 6 * t + 6 ≤ kp.1) : ∃ m3, L_L_law_414 kp K (nI (6 * t)) m = some (some (.int 1), m3) := by
  have e1 : nI (6 * t) + (1 : Int32) = nI (6 * t + 1) := nI_add _ 1
  have q1 : qm_in (nI (6 * t + 1)) kp.1 = true := qm_in_nI (by omega) (by omega)
  have e2 : nI (6 * t) + (2 : Int32) = nI (6 * t + 2) := nI_add _ 2
  have q2 : qm_in (nI (6 * t + 2)) kp.1 = true := qm_in_nI (by omega) (by omega)
  have e3 : nI (6 * t) + (3 : Int32) = nI (6 * t + 3) := nI_add _ 3
  have q3 : qm_in (nI (6 * t + 3)) kp.1 = true := qm_in_nI (by omega) (by omega)
  have e6 : nI (6 * t) + (6 : Int32) = nI (6 * (t + 1)) := by rw [Nat.mul_succ]; exact nI_add _ 6
  obtain ⟨r, m1, m2, h1, h2, h3⟩ := wb_put (kp.2 (Int32.toNatClampNeg (nI (6 * t + 1)))) ((qo_lshl (Int32.toInt64 (kp.2 (Int32.toNatClampNeg (nI (6 * t + 2))))) (32 : Int32)) ||| ((Int32.toInt64 (kp.2 (Int32.toNatClampNeg (nI (6 * t + 3))))) &&& (4294967295 : Int64))) m hm
  obtain ⟨m3, h4⟩ := hK m2 h3
  refine ⟨m3, ?_⟩
  unfold L_L_law_414 X_L_law_414
  rw [e1, e2, e3, q1, q2, q3, qe_b_e, qe_b_e, qe_b_e, h1, qe_rI_e, qe_b_e, qe_b_e, qe_b_e, h2, qe_rI_e, if_pos rfl, e6]
  exact h4
theorem lk_477 {kp : pm_K} {K : Int32 → qm_M → Option qm_R} {t : Nat} {m : qm_M} (hK : ∀ m2, wb_IV m2 → ∃ m3, K (nI (6 * (t + 1))) m2 = some (some (.int 1), m3)) (hm : wb_IV m) (hn : kp.1 ≤ 3072) (ht : 6 * t + 6 ≤ kp.1) : ∃ m3, L_L_law_477 kp K (nI (6 * t)) m = some (some (.int 1), m3) := by
  have e1 : nI (6 * t) + (1 : Int32) = nI (6 * t + 1) := nI_add _ 1
  have q1 : qm_in (nI (6 * t + 1)) kp.1 = true := qm_in_nI (by omega) (by omega)
  have e2 : nI (6 * t) + (2 : Int32) = nI (6 * t + 2) := nI_add _ 2
  have q2 : qm_in (nI (6 * t + 2)) kp.1 = true := qm_in_nI (by omega) (by omega)
  have e3 : nI (6 * t) + (3 : Int32) = nI (6 * t + 3) := nI_add _ 3
  have q3 : qm_in (nI (6 * t + 3)) kp.1 = true := qm_in_nI (by omega) (by omega)
  have e4 : nI (6 * t) + (4 : Int32) = nI (6 * t + 4) := nI_add _ 4
  have q4 : qm_in (nI (6 * t + 4)) kp.1 = true := qm_in_nI (by omega) (by omega)
  have e6 : nI (6 * t) + (6 : Int32) = nI (6 * (t + 1)) := by rw [Nat.mul_succ]; exact nI_add _ 6
  obtain ⟨r, m1, m2, h1, h2, h3⟩ := wb_reckon (kp.2 (Int32.toNatClampNeg (nI (6 * t + 1)))) (kp.2 (Int32.toNatClampNeg (nI (6 * t + 2)))) (kp.2 (Int32.toNatClampNeg (nI (6 * t + 3)))) (kp.2 (Int32.toNatClampNeg (nI (6 * t + 4)))) m hm
  obtain ⟨m3, h4⟩ := hK m2 h3
  refine ⟨m3, ?_⟩
  unfold L_L_law_477 X_L_law_477
  rw [e1, e2, e3, e4, q1, q2, q3, q4, qe_b_e, qe_b_e, qe_b_e, qe_b_e, h1, qe_rI_e, qe_b_e, qe_b_e, qe_b_e, qe_b_e, h2, qe_rI_e, if_pos rfl, e6]
  exact h4
theorem lk_530 {kp : pm_K} {K : Int32 → qm_M → Option qm_R} {t : Nat} {m : qm_M} (hK : ∀ m2, wb_IV m2 → ∃ m3, K (nI (6 * (t + 1))) m2 = some (some (.int 1), m3)) (hm : wb_IV m) (hn : kp.1 ≤ 3072) (ht : 6 * t + 6 ≤ kp.1) : ∃ m3, L_L_law_530 kp K (nI (6 * t)) m = some (some (.int 1), m3) := by
  have e6 : nI (6 * t) + (6 : Int32) = nI (6 * (t + 1)) := by rw [Nat.mul_succ]; exact nI_add _ 6
  obtain ⟨r, m1, m2, h1, h2, h3⟩ := wb_undo m hm
  obtain ⟨m3, h4⟩ := hK m2 h3
  refine ⟨m3, ?_⟩
  unfold L_L_law_530 X_L_law_530
  rw [h1, qe_rI_e, h2, qe_rI_e, if_pos rfl, e6]
  exact h4
theorem lk_543 {kp : pm_K} {K : Int32 → qm_M → Option qm_R} {t : Nat} {m : qm_M} (hK : ∀ m2, wb_IV m2 → ∃ m3, K (nI (6 * (t + 1))) m2 = some (some (.int 1), m3)) (hm : wb_IV m) (hn : kp.1 ≤ 3072) (ht : 6 * t + 6 ≤ kp.1) : ∃ m3, L_L_law_543 kp K (nI (6 * t)) m = some (some (.int 1), m3) := by
  have e1 : nI (6 * t) + (1 : Int32) = nI (6 * t + 1) := nI_add _ 1
  have q1 : qm_in (nI (6 * t + 1)) kp.1 = true := qm_in_nI (by omega) (by omega)
  have e6 : nI (6 * t) + (6 : Int32) = nI (6 * (t + 1)) := by rw [Nat.mul_succ]; exact nI_add _ 6
  obtain ⟨r, m1, m2, h1, h2, h3⟩ := wb_keep (kp.2 (Int32.toNatClampNeg (nI (6 * t + 1)))) m hm
  obtain ⟨m3, h4⟩ := hK m2 h3
  refine ⟨m3, ?_⟩
  unfold L_L_law_543 X_L_law_543
  rw [e1, q1, qe_b_e, h1, qe_rI_e, qe_b_e, h2, qe_rI_e, if_pos rfl, e6]
  exact h4
theorem lk_566 {kp : pm_K} {K : Int32 → qm_M → Option qm_R} {t : Nat} {m : qm_M} (hK : ∀ m2, wb_IV m2 → ∃ m3, K (nI (6 * (t + 1))) m2 = some (some (.int 1), m3)) (hm : wb_IV m) (hn : kp.1 ≤ 3072) (ht : 6 * t + 6 ≤ kp.1) : ∃ m3, L_L_law_566 kp K (nI (6 * t)) m = some (some (.int 1), m3) := by
  have e1 : nI (6 * t) + (1 : Int32) = nI (6 * t + 1) := nI_add _ 1
  have q1 : qm_in (nI (6 * t + 1)) kp.1 = true := qm_in_nI (by omega) (by omega)
  have e6 : nI (6 * t) + (6 : Int32) = nI (6 * (t + 1)) := by rw [Nat.mul_succ]; exact nI_add _ 6
  obtain ⟨r, m1, m2, h1, h2, h3⟩ := wb_back (kp.2 (Int32.toNatClampNeg (nI (6 * t + 1)))) m hm
  obtain ⟨m3, h4⟩ := hK m2 h3
  refine ⟨m3, ?_⟩
  unfold L_L_law_566 X_L_law_566
  rw [e1, q1, qe_b_e, h1, qe_rI_e, qe_b_e, h2, qe_rI_e, if_pos rfl, e6]
  exact h4
theorem lk_589 {kp : pm_K} {K : Int32 → qm_M → Option qm_R} {t : Nat} {m : qm_M} (hK : ∀ m2, wb_IV m2 → ∃ m3, K (nI (6 * (t + 1))) m2 = some (some (.int 1), m3)) (hm : wb_IV m) (hn : kp.1 ≤ 3072) (ht : 6 * t + 6 ≤ kp.1) : ∃ m3, L_L_law_589 kp K (nI (6 * t)) m = some (some (.int 1), m3) := by
  have e1 : nI (6 * t) + (1 : Int32) = nI (6 * t + 1) := nI_add _ 1
  have q1 : qm_in (nI (6 * t + 1)) kp.1 = true := qm_in_nI (by omega) (by omega)
  have e2 : nI (6 * t) + (2 : Int32) = nI (6 * t + 2) := nI_add _ 2
  have q2 : qm_in (nI (6 * t + 2)) kp.1 = true := qm_in_nI (by omega) (by omega)
  have e6 : nI (6 * t) + (6 : Int32) = nI (6 * (t + 1)) := by rw [Nat.mul_succ]; exact nI_add _ 6
  obtain ⟨r, m1, m2, h1, h2, h3⟩ := wb_grid (kp.2 (Int32.toNatClampNeg (nI (6 * t + 1)))) (kp.2 (Int32.toNatClampNeg (nI (6 * t + 2)))) m hm
  obtain ⟨m3, h4⟩ := hK m2 h3
  refine ⟨m3, ?_⟩
  unfold L_L_law_589 X_L_law_589
  rw [e1, e2, q1, q2, qe_b_e, qe_b_e, h1, qe_rI_e, qe_b_e, qe_b_e, h2, qe_rI_e, if_pos rfl, e6]
  exact h4
theorem lk_622 {kp : pm_K} {K : Int32 → qm_M → Option qm_R} {t : Nat} {m : qm_M} (hK : ∀ m2, wb_IV m2 → ∃ m3, K (nI (6 * (t + 1))) m2 = some (some (.int 1), m3)) (hm : wb_IV m) (hn : kp.1 ≤ 3072) (ht : 6 * t + 6 ≤ kp.1) : ∃ m3, L_L_law_622 kp K (nI (6 * t)) m = some (some (.int 1), m3) := by
  have e1 : nI (6 * t) + (1 : Int32) = nI (6 * t + 1) := nI_add _ 1
  have q1 : qm_in (nI (6 * t + 1)) kp.1 = true := qm_in_nI (by omega) (by omega)
  have e2 : nI (6 * t) + (2 : Int32) = nI (6 * t + 2) := nI_add _ 2
  have q2 : qm_in (nI (6 * t + 2)) kp.1 = true := qm_in_nI (by omega) (by omega)
  have e3 : nI (6 * t) + (3 : Int32) = nI (6 * t + 3) := nI_add _ 3
  have q3 : qm_in (nI (6 * t + 3)) kp.1 = true := qm_in_nI (by omega) (by omega)
  have e4 : nI (6 * t) + (4 : Int32) = nI (6 * t + 4) := nI_add _ 4
  have q4 : qm_in (nI (6 * t + 4)) kp.1 = true := qm_in_nI (by omega) (by omega)
  have e6 : nI (6 * t) + (6 : Int32) = nI (6 * (t + 1)) := by rw [Nat.mul_succ]; exact nI_add _ 6
  obtain ⟨r, m1, m2, h1, h2, h3⟩ := wb_enter (kp.2 (Int32.toNatClampNeg (nI (6 * t + 1)))) (kp.2 (Int32.toNatClampNeg (nI (6 * t + 2)))) ((qo_lshl (Int32.toInt64 (kp.2 (Int32.toNatClampNeg (nI (6 * t + 3))))) (32 : Int32)) ||| ((Int32.toInt64 (kp.2 (Int32.toNatClampNeg (nI (6 * t + 4))))) &&& (4294967295 : Int64))) m hm
  obtain ⟨m3, h4⟩ := hK m2 h3
  refine ⟨m3, ?_⟩
  unfold L_L_law_622 X_L_law_622
  rw [e1, e2, e3, e4, q1, q2, q3, q4, qe_b_e, qe_b_e, qe_b_e, qe_b_e, h1, qe_rI_e, qe_b_e, qe_b_e, qe_b_e, qe_b_e, h2, qe_rI_e, if_pos rfl, e6]
  exact h4
theorem lk_695 {kp : pm_K} {K : Int32 → qm_M → Option qm_R} {t : Nat} {m : qm_M} (hK : ∀ m2, wb_IV m2 → ∃ m3, K (nI (6 * (t + 1))) m2 = some (some (.int 1), m3)) (hm : wb_IV m) (hn : kp.1 ≤ 3072) (ht : 6 * t + 6 ≤ kp.1) : ∃ m3, L_L_law_695 kp K (nI (6 * t)) m = some (some (.int 1), m3) := by
  have e1 : nI (6 * t) + (1 : Int32) = nI (6 * t + 1) := nI_add _ 1
  have q1 : qm_in (nI (6 * t + 1)) kp.1 = true := qm_in_nI (by omega) (by omega)
  have e6 : nI (6 * t) + (6 : Int32) = nI (6 * (t + 1)) := by rw [Nat.mul_succ]; exact nI_add _ 6
  obtain ⟨r, m1, m2, h1, h2, h3⟩ := wb_multiply (kp.2 (Int32.toNatClampNeg (nI (6 * t + 1)))) m hm
  obtain ⟨m3, h4⟩ := hK m2 h3
  refine ⟨m3, ?_⟩
  unfold L_L_law_695 X_L_law_695
  rw [e1, q1, qe_b_e, h1, qe_rI_e, qe_b_e, h2, qe_rI_e, if_pos rfl, e6]
  exact h4
theorem lk_718 {kp : pm_K} {K : Int32 → qm_M → Option qm_R} {t : Nat} {m : qm_M} (hK : ∀ m2, wb_IV m2 → ∃ m3, K (nI (6 * (t + 1))) m2 = some (some (.int 1), m3)) (hm : wb_IV m) (hn : kp.1 ≤ 3072) (ht : 6 * t + 6 ≤ kp.1) : ∃ m3, L_L_law_718 kp K (nI (6 * t)) m = some (some (.int 1), m3) := by
  have e6 : nI (6 * t) + (6 : Int32) = nI (6 * (t + 1)) := by rw [Nat.mul_succ]; exact nI_add _ 6
  obtain ⟨r, m1, m2, h1, h2, h3⟩ := wb_invert m hm
  obtain ⟨m3, h4⟩ := hK m2 h3
  refine ⟨m3, ?_⟩
  unfold L_L_law_718 X_L_law_718
  rw [h1, qe_rI_e, h2, qe_rI_e, if_pos rfl, e6]
  exact h4
theorem lk_731 {kp : pm_K} {K : Int32 → qm_M → Option qm_R} {t : Nat} {m : qm_M} (hK : ∀ m2, wb_IV m2 → ∃ m3, K (nI (6 * (t + 1))) m2 = some (some (.int 1), m3)) (hm : wb_IV m) (hn : kp.1 ≤ 3072) (ht : 6 * t + 6 ≤ kp.1) : ∃ m3, L_L_law_731 kp K (nI (6 * t)) m = some (some (.int 1), m3) := by
  have e1 : nI (6 * t) + (1 : Int32) = nI (6 * t + 1) := nI_add _ 1
  have q1 : qm_in (nI (6 * t + 1)) kp.1 = true := qm_in_nI (by omega) (by omega)
  have e2 : nI (6 * t) + (2 : Int32) = nI (6 * t + 2) := nI_add _ 2
  have q2 : qm_in (nI (6 * t + 2)) kp.1 = true := qm_in_nI (by omega) (by omega)
  have e3 : nI (6 * t) + (3 : Int32) = nI (6 * t + 3) := nI_add _ 3
  have q3 : qm_in (nI (6 * t + 3)) kp.1 = true := qm_in_nI (by omega) (by omega)
  have e6 : nI (6 * t) + (6 : Int32) = nI (6 * (t + 1)) := by rw [Nat.mul_succ]; exact nI_add _ 6
  obtain ⟨r, m1, m2, h1, h2, h3⟩ := wb_entry (kp.2 (Int32.toNatClampNeg (nI (6 * t + 1)))) (kp.2 (Int32.toNatClampNeg (nI (6 * t + 2)))) (kp.2 (Int32.toNatClampNeg (nI (6 * t + 3)))) m hm
  obtain ⟨m3, h4⟩ := hK m2 h3
  refine ⟨m3, ?_⟩
  unfold L_L_law_731 X_L_law_731
  rw [e1, e2, e3, q1, q2, q3, qe_b_e, qe_b_e, qe_b_e, h1, qe_rL_e, qe_b_e, qe_b_e, qe_b_e, h2, qe_rL_e, if_pos ((lg_cmp_eq r r).mpr rfl), e6]
  exact h4
theorem lk_775 {kp : pm_K} {K : Int32 → qm_M → Option qm_R} {t : Nat} {m : qm_M} (hK : ∀ m2, wb_IV m2 → ∃ m3, K (nI (6 * (t + 1))) m2 = some (some (.int 1), m3)) (hm : wb_IV m) (hn : kp.1 ≤ 3072) (ht : 6 * t + 6 ≤ kp.1) : ∃ m3, L_L_law_775 kp K (nI (6 * t)) m = some (some (.int 1), m3) := by
  have e6 : nI (6 * t) + (6 : Int32) = nI (6 * (t + 1)) := by rw [Nat.mul_succ]; exact nI_add _ 6
  obtain ⟨r, m1, m2, h1, h2, h3⟩ := wb_determinant m hm
  obtain ⟨m3, h4⟩ := hK m2 h3
  refine ⟨m3, ?_⟩
  unfold L_L_law_775 X_L_law_775
  rw [h1, qe_rL_e, h2, qe_rL_e, if_pos ((lg_cmp_eq r r).mpr rfl), e6]
  exact h4
theorem lk_789 {kp : pm_K} {K : Int32 → qm_M → Option qm_R} {t : Nat} {m : qm_M} (hK : ∀ m2, wb_IV m2 → ∃ m3, K (nI (6 * (t + 1))) m2 = some (some (.int 1), m3)) (hm : wb_IV m) (hn : kp.1 ≤ 3072) (ht : 6 * t + 6 ≤ kp.1) : ∃ m3, L_L_law_789 kp K (nI (6 * t)) m = some (some (.int 1), m3) := by
  have e1 : nI (6 * t) + (1 : Int32) = nI (6 * t + 1) := nI_add _ 1
  have q1 : qm_in (nI (6 * t + 1)) kp.1 = true := qm_in_nI (by omega) (by omega)
  have e6 : nI (6 * t) + (6 : Int32) = nI (6 * (t + 1)) := by rw [Nat.mul_succ]; exact nI_add _ 6
  obtain ⟨r, m1, m2, h1, h2, h3⟩ := wb_shape (kp.2 (Int32.toNatClampNeg (nI (6 * t + 1)))) m hm
  obtain ⟨m3, h4⟩ := hK m2 h3
  refine ⟨m3, ?_⟩
  unfold L_L_law_789 X_L_law_789
  rw [e1, q1, qe_b_e, h1, qe_rI_e, qe_b_e, h2, qe_rI_e, if_pos rfl, e6]
  exact h4
theorem lk_812 {kp : pm_K} {K : Int32 → qm_M → Option qm_R} {t : Nat} {m : qm_M} (hK : ∀ m2, wb_IV m2 → ∃ m3, K (nI (6 * (t + 1))) m2 = some (some (.int 1), m3)) (hm : wb_IV m) (hn : kp.1 ≤ 3072) (ht : 6 * t + 6 ≤ kp.1) : ∃ m3, L_L_law_812 kp K (nI (6 * t)) m = some (some (.int 1), m3) := by
  have e1 : nI (6 * t) + (1 : Int32) = nI (6 * t + 1) := nI_add _ 1
  have q1 : qm_in (nI (6 * t + 1)) kp.1 = true := qm_in_nI (by omega) (by omega)
  have e6 : nI (6 * t) + (6 : Int32) = nI (6 * (t + 1)) := by rw [Nat.mul_succ]; exact nI_add _ 6
  obtain ⟨r, m1, m2, h1, h2, h3⟩ := wb_solution (kp.2 (Int32.toNatClampNeg (nI (6 * t + 1)))) m hm
  obtain ⟨m3, h4⟩ := hK m2 h3
  refine ⟨m3, ?_⟩
  unfold L_L_law_812 X_L_law_812
  rw [e1, q1, qe_b_e, h1, qe_rL_e, qe_b_e, h2, qe_rL_e, if_pos ((lg_cmp_eq r r).mpr rfl), e6]
  exact h4
theorem lk_836 {kp : pm_K} {K : Int32 → qm_M → Option qm_R} {t : Nat} {m : qm_M} (hK : ∀ m2, wb_IV m2 → ∃ m3, K (nI (6 * (t + 1))) m2 = some (some (.int 1), m3)) (hm : wb_IV m) (hn : kp.1 ≤ 3072) (ht : 6 * t + 6 ≤ kp.1) : ∃ m3, L_L_law_836 kp K (nI (6 * t)) m = some (some (.int 1), m3) := by
  have e1 : nI (6 * t) + (1 : Int32) = nI (6 * t + 1) := nI_add _ 1
  have q1 : qm_in (nI (6 * t + 1)) kp.1 = true := qm_in_nI (by omega) (by omega)
  have e2 : nI (6 * t) + (2 : Int32) = nI (6 * t + 2) := nI_add _ 2
  have q2 : qm_in (nI (6 * t + 2)) kp.1 = true := qm_in_nI (by omega) (by omega)
  have e6 : nI (6 * t) + (6 : Int32) = nI (6 * (t + 1)) := by rw [Nat.mul_succ]; exact nI_add _ 6
  obtain ⟨r, m1, m2, h1, h2, h3⟩ := wb_roots (kp.2 (Int32.toNatClampNeg (nI (6 * t + 1)))) (kp.2 (Int32.toNatClampNeg (nI (6 * t + 2)))) m hm
  obtain ⟨m3, h4⟩ := hK m2 h3
  refine ⟨m3, ?_⟩
  unfold L_L_law_836 X_L_law_836
  rw [e1, e2, q1, q2, qe_b_e, qe_b_e, h1, qe_rI_e, qe_b_e, qe_b_e, h2, qe_rI_e, if_pos rfl, e6]
  exact h4
theorem lk_869 {kp : pm_K} {K : Int32 → qm_M → Option qm_R} {t : Nat} {m : qm_M} (hK : ∀ m2, wb_IV m2 → ∃ m3, K (nI (6 * (t + 1))) m2 = some (some (.int 1), m3)) (hm : wb_IV m) (hn : kp.1 ≤ 3072) (ht : 6 * t + 6 ≤ kp.1) : ∃ m3, L_L_law_869 kp K (nI (6 * t)) m = some (some (.int 1), m3) := by
  have e1 : nI (6 * t) + (1 : Int32) = nI (6 * t + 1) := nI_add _ 1
  have q1 : qm_in (nI (6 * t + 1)) kp.1 = true := qm_in_nI (by omega) (by omega)
  have e6 : nI (6 * t) + (6 : Int32) = nI (6 * (t + 1)) := by rw [Nat.mul_succ]; exact nI_add _ 6
  obtain ⟨r, m1, m2, h1, h2, h3⟩ := wb_common (kp.2 (Int32.toNatClampNeg (nI (6 * t + 1)))) m hm
  obtain ⟨m3, h4⟩ := hK m2 h3
  refine ⟨m3, ?_⟩
  unfold L_L_law_869 X_L_law_869
  rw [e1, q1, qe_b_e, h1, qe_rL_e, qe_b_e, h2, qe_rL_e, if_pos ((lg_cmp_eq r r).mpr rfl), e6]
  exact h4
theorem lk_893 {kp : pm_K} {K : Int32 → qm_M → Option qm_R} {t : Nat} {m : qm_M} (hK : ∀ m2, wb_IV m2 → ∃ m3, K (nI (6 * (t + 1))) m2 = some (some (.int 1), m3)) (hm : wb_IV m) (hn : kp.1 ≤ 3072) (ht : 6 * t + 6 ≤ kp.1) : ∃ m3, L_L_law_893 kp K (nI (6 * t)) m = some (some (.int 1), m3) := by
  have e1 : nI (6 * t) + (1 : Int32) = nI (6 * t + 1) := nI_add _ 1
  have q1 : qm_in (nI (6 * t + 1)) kp.1 = true := qm_in_nI (by omega) (by omega)
  have e6 : nI (6 * t) + (6 : Int32) = nI (6 * (t + 1)) := by rw [Nat.mul_succ]; exact nI_add _ 6
  obtain ⟨r, m1, m2, h1, h2, h3⟩ := wb_mended (kp.2 (Int32.toNatClampNeg (nI (6 * t + 1)))) m hm
  obtain ⟨m3, h4⟩ := hK m2 h3
  refine ⟨m3, ?_⟩
  unfold L_L_law_893 X_L_law_893
  rw [e1, q1, qe_b_e, h1, qe_rL_e, qe_b_e, h2, qe_rL_e, if_pos ((lg_cmp_eq r r).mpr rfl), e6]
  exact h4
theorem lk_917 {kp : pm_K} {K : Int32 → qm_M → Option qm_R} {t : Nat} {m : qm_M} (hK : ∀ m2, wb_IV m2 → ∃ m3, K (nI (6 * (t + 1))) m2 = some (some (.int 1), m3)) (hm : wb_IV m) (hn : kp.1 ≤ 3072) (ht : 6 * t + 6 ≤ kp.1) : ∃ m3, L_L_law_917 kp K (nI (6 * t)) m = some (some (.int 1), m3) := by
  have e1 : nI (6 * t) + (1 : Int32) = nI (6 * t + 1) := nI_add _ 1
  have q1 : qm_in (nI (6 * t + 1)) kp.1 = true := qm_in_nI (by omega) (by omega)
  have e2 : nI (6 * t) + (2 : Int32) = nI (6 * t + 2) := nI_add _ 2
  have q2 : qm_in (nI (6 * t + 2)) kp.1 = true := qm_in_nI (by omega) (by omega)
  have e6 : nI (6 * t) + (6 : Int32) = nI (6 * (t + 1)) := by rw [Nat.mul_succ]; exact nI_add _ 6
  obtain ⟨r, m1, m2, h1, h2, h3⟩ := wb_mendedAt ((qo_lshl (Int32.toInt64 (kp.2 (Int32.toNatClampNeg (nI (6 * t + 1))))) (32 : Int32)) ||| ((Int32.toInt64 (kp.2 (Int32.toNatClampNeg (nI (6 * t + 2))))) &&& (4294967295 : Int64))) m hm
  obtain ⟨m3, h4⟩ := hK m2 h3
  refine ⟨m3, ?_⟩
  unfold L_L_law_917 X_L_law_917
  rw [e1, e2, q1, q2, qe_b_e, qe_b_e, h1, qe_rL_e, qe_b_e, qe_b_e, h2, qe_rL_e, if_pos ((lg_cmp_eq r r).mpr rfl), e6]
  exact h4
theorem lk_971 {kp : pm_K} {K : Int32 → qm_M → Option qm_R} {t : Nat} {m : qm_M} (hK : ∀ m2, wb_IV m2 → ∃ m3, K (nI (6 * (t + 1))) m2 = some (some (.int 1), m3)) (hm : wb_IV m) (hn : kp.1 ≤ 3072) (ht : 6 * t + 6 ≤ kp.1) : ∃ m3, L_L_law_971 kp K (nI (6 * t)) m = some (some (.int 1), m3) := by
  have e1 : nI (6 * t) + (1 : Int32) = nI (6 * t + 1) := nI_add _ 1
  have q1 : qm_in (nI (6 * t + 1)) kp.1 = true := qm_in_nI (by omega) (by omega)
  have e6 : nI (6 * t) + (6 : Int32) = nI (6 * (t + 1)) := by rw [Nat.mul_succ]; exact nI_add _ 6
  obtain ⟨r, m1, m2, h1, h2, h3⟩ := wb_agrees (kp.2 (Int32.toNatClampNeg (nI (6 * t + 1)))) m hm
  obtain ⟨m3, h4⟩ := hK m2 h3
  refine ⟨m3, ?_⟩
  unfold L_L_law_971 X_L_law_971
  rw [e1, q1, qe_b_e, h1, qe_rI_e, qe_b_e, h2, qe_rI_e, if_pos rfl, e6]
  exact h4
theorem lk_994 {kp : pm_K} {K : Int32 → qm_M → Option qm_R} {t : Nat} {m : qm_M} (hK : ∀ m2, wb_IV m2 → ∃ m3, K (nI (6 * (t + 1))) m2 = some (some (.int 1), m3)) (hm : wb_IV m) (hn : kp.1 ≤ 3072) (ht : 6 * t + 6 ≤ kp.1) : ∃ m3, L_L_law_994 kp K (nI (6 * t)) m = some (some (.int 1), m3) := by
  have e1 : nI (6 * t) + (1 : Int32) = nI (6 * t + 1) := nI_add _ 1
  have q1 : qm_in (nI (6 * t + 1)) kp.1 = true := qm_in_nI (by omega) (by omega)
  have e2 : nI (6 * t) + (2 : Int32) = nI (6 * t + 2) := nI_add _ 2
  have q2 : qm_in (nI (6 * t + 2)) kp.1 = true := qm_in_nI (by omega) (by omega)
  have e6 : nI (6 * t) + (6 : Int32) = nI (6 * (t + 1)) := by rw [Nat.mul_succ]; exact nI_add _ 6
  obtain ⟨r, m1, m2, h1, h2, h3⟩ := wb_full (kp.2 (Int32.toNatClampNeg (nI (6 * t + 1)))) (kp.2 (Int32.toNatClampNeg (nI (6 * t + 2)))) m hm
  obtain ⟨m3, h4⟩ := hK m2 h3
  refine ⟨m3, ?_⟩
  unfold L_L_law_994 X_L_law_994
  rw [e1, e2, q1, q2, qe_b_e, qe_b_e, h1, qe_rL_e, qe_b_e, qe_b_e, h2, qe_rL_e, if_pos ((lg_cmp_eq r r).mpr rfl), e6]
  exact h4
theorem lk_1028 {kp : pm_K} {K : Int32 → qm_M → Option qm_R} {t : Nat} {m : qm_M} (hK : ∀ m2, wb_IV m2 → ∃ m3, K (nI (6 * (t + 1))) m2 = some (some (.int 1), m3)) (hm : wb_IV m) (hn : kp.1 ≤ 3072) (ht : 6 * t + 6 ≤ kp.1) : ∃ m3, L_L_law_1028 kp K (nI (6 * t)) m = some (some (.int 1), m3) := by
  have e1 : nI (6 * t) + (1 : Int32) = nI (6 * t + 1) := nI_add _ 1
  have q1 : qm_in (nI (6 * t + 1)) kp.1 = true := qm_in_nI (by omega) (by omega)
  have e6 : nI (6 * t) + (6 : Int32) = nI (6 * (t + 1)) := by rw [Nat.mul_succ]; exact nI_add _ 6
  obtain ⟨r, m1, m2, h1, h2, h3⟩ := wb_boards (kp.2 (Int32.toNatClampNeg (nI (6 * t + 1)))) m hm
  obtain ⟨m3, h4⟩ := hK m2 h3
  refine ⟨m3, ?_⟩
  unfold L_L_law_1028 X_L_law_1028
  rw [e1, q1, qe_b_e, h1, qe_rL_e, qe_b_e, h2, qe_rL_e, if_pos ((lg_cmp_eq r r).mpr rfl), e6]
  exact h4
theorem lk_1052 {kp : pm_K} {K : Int32 → qm_M → Option qm_R} {t : Nat} {m : qm_M} (hK : ∀ m2, wb_IV m2 → ∃ m3, K (nI (6 * (t + 1))) m2 = some (some (.int 1), m3)) (hm : wb_IV m) (hn : kp.1 ≤ 3072) (ht : 6 * t + 6 ≤ kp.1) : ∃ m3, L_L_law_1052 kp K (nI (6 * t)) m = some (some (.int 1), m3) := by
  have e1 : nI (6 * t) + (1 : Int32) = nI (6 * t + 1) := nI_add _ 1
  have q1 : qm_in (nI (6 * t + 1)) kp.1 = true := qm_in_nI (by omega) (by omega)
  have e6 : nI (6 * t) + (6 : Int32) = nI (6 * (t + 1)) := by rw [Nat.mul_succ]; exact nI_add _ 6
  obtain ⟨r, m1, m2, h1, h2, h3⟩ := wb_game (kp.2 (Int32.toNatClampNeg (nI (6 * t + 1)))) m hm
  obtain ⟨m3, h4⟩ := hK m2 h3
  refine ⟨m3, ?_⟩
  unfold L_L_law_1052 X_L_law_1052
  rw [e1, q1, qe_b_e, h1, qe_rI_e, qe_b_e, h2, qe_rI_e, if_pos rfl, e6]
  exact h4
theorem lk_1075 {kp : pm_K} {K : Int32 → qm_M → Option qm_R} {t : Nat} {m : qm_M} (hK : ∀ m2, wb_IV m2 → ∃ m3, K (nI (6 * (t + 1))) m2 = some (some (.int 1), m3)) (hm : wb_IV m) (hn : kp.1 ≤ 3072) (ht : 6 * t + 6 ≤ kp.1) : ∃ m3, L_L_law_1075 kp K (nI (6 * t)) m = some (some (.int 1), m3) := by
  have e1 : nI (6 * t) + (1 : Int32) = nI (6 * t + 1) := nI_add _ 1
  have q1 : qm_in (nI (6 * t + 1)) kp.1 = true := qm_in_nI (by omega) (by omega)
  have e2 : nI (6 * t) + (2 : Int32) = nI (6 * t + 2) := nI_add _ 2
  have q2 : qm_in (nI (6 * t + 2)) kp.1 = true := qm_in_nI (by omega) (by omega)
  have e3 : nI (6 * t) + (3 : Int32) = nI (6 * t + 3) := nI_add _ 3
  have q3 : qm_in (nI (6 * t + 3)) kp.1 = true := qm_in_nI (by omega) (by omega)
  have e4 : nI (6 * t) + (4 : Int32) = nI (6 * t + 4) := nI_add _ 4
  have q4 : qm_in (nI (6 * t + 4)) kp.1 = true := qm_in_nI (by omega) (by omega)
  have e6 : nI (6 * t) + (6 : Int32) = nI (6 * (t + 1)) := by rw [Nat.mul_succ]; exact nI_add _ 6
  obtain ⟨r, m1, m2, h1, h2, h3⟩ := wb_times ((qo_lshl (Int32.toInt64 (kp.2 (Int32.toNatClampNeg (nI (6 * t + 1))))) (32 : Int32)) ||| ((Int32.toInt64 (kp.2 (Int32.toNatClampNeg (nI (6 * t + 2))))) &&& (4294967295 : Int64))) ((qo_lshl (Int32.toInt64 (kp.2 (Int32.toNatClampNeg (nI (6 * t + 3))))) (32 : Int32)) ||| ((Int32.toInt64 (kp.2 (Int32.toNatClampNeg (nI (6 * t + 4))))) &&& (4294967295 : Int64))) m hm
  obtain ⟨m3, h4⟩ := hK m2 h3
  refine ⟨m3, ?_⟩
  unfold L_L_law_1075 X_L_law_1075
  rw [e1, e2, e3, e4, q1, q2, q3, q4, qe_b_e, qe_b_e, qe_b_e, qe_b_e, h1, qe_rL_e, qe_b_e, qe_b_e, qe_b_e, qe_b_e, h2, qe_rL_e, if_pos ((lg_cmp_eq r r).mpr rfl), e6]
  exact h4
theorem lk_1169 {kp : pm_K} {K : Int32 → qm_M → Option qm_R} {t : Nat} {m : qm_M} (hK : ∀ m2, wb_IV m2 → ∃ m3, K (nI (6 * (t + 1))) m2 = some (some (.int 1), m3)) (hm : wb_IV m) (hn : kp.1 ≤ 3072) (ht : 6 * t + 6 ≤ kp.1) : ∃ m3, L_L_law_1169 kp K (nI (6 * t)) m = some (some (.int 1), m3) := by
  have e1 : nI (6 * t) + (1 : Int32) = nI (6 * t + 1) := nI_add _ 1
  have q1 : qm_in (nI (6 * t + 1)) kp.1 = true := qm_in_nI (by omega) (by omega)
  have e2 : nI (6 * t) + (2 : Int32) = nI (6 * t + 2) := nI_add _ 2
  have q2 : qm_in (nI (6 * t + 2)) kp.1 = true := qm_in_nI (by omega) (by omega)
  have e6 : nI (6 * t) + (6 : Int32) = nI (6 * (t + 1)) := by rw [Nat.mul_succ]; exact nI_add _ 6
  obtain ⟨r, m1, m2, h1, h2, h3⟩ := wb_inverse ((qo_lshl (Int32.toInt64 (kp.2 (Int32.toNatClampNeg (nI (6 * t + 1))))) (32 : Int32)) ||| ((Int32.toInt64 (kp.2 (Int32.toNatClampNeg (nI (6 * t + 2))))) &&& (4294967295 : Int64))) m hm
  obtain ⟨m3, h4⟩ := hK m2 h3
  refine ⟨m3, ?_⟩
  unfold L_L_law_1169 X_L_law_1169
  rw [e1, e2, q1, q2, qe_b_e, qe_b_e, h1, qe_rL_e, qe_b_e, qe_b_e, h2, qe_rL_e, if_pos ((lg_cmp_eq r r).mpr rfl), e6]
  exact h4
theorem lk_1223 {kp : pm_K} {K : Int32 → qm_M → Option qm_R} {t : Nat} {m : qm_M} (hK : ∀ m2, wb_IV m2 → ∃ m3, K (nI (6 * (t + 1))) m2 = some (some (.int 1), m3)) (hm : wb_IV m) (hn : kp.1 ≤ 3072) (ht : 6 * t + 6 ≤ kp.1) : ∃ m3, L_L_law_1223 kp K (nI (6 * t)) m = some (some (.int 1), m3) := by
  have e1 : nI (6 * t) + (1 : Int32) = nI (6 * t + 1) := nI_add _ 1
  have q1 : qm_in (nI (6 * t + 1)) kp.1 = true := qm_in_nI (by omega) (by omega)
  have e2 : nI (6 * t) + (2 : Int32) = nI (6 * t + 2) := nI_add _ 2
  have q2 : qm_in (nI (6 * t + 2)) kp.1 = true := qm_in_nI (by omega) (by omega)
  have e6 : nI (6 * t) + (6 : Int32) = nI (6 * (t + 1)) := by rw [Nat.mul_succ]; exact nI_add _ 6
  obtain ⟨r, m1, m2, h1, h2, h3⟩ := wb_root ((qo_lshl (Int32.toInt64 (kp.2 (Int32.toNatClampNeg (nI (6 * t + 1))))) (32 : Int32)) ||| ((Int32.toInt64 (kp.2 (Int32.toNatClampNeg (nI (6 * t + 2))))) &&& (4294967295 : Int64))) m hm
  obtain ⟨m3, h4⟩ := hK m2 h3
  refine ⟨m3, ?_⟩
  unfold L_L_law_1223 X_L_law_1223
  rw [e1, e2, q1, q2, qe_b_e, qe_b_e, h1, qe_rL_e, qe_b_e, qe_b_e, h2, qe_rL_e, if_pos ((lg_cmp_eq r r).mpr rfl), e6]
  exact h4
theorem lk_1277 {kp : pm_K} {K : Int32 → qm_M → Option qm_R} {t : Nat} {m : qm_M} (hK : ∀ m2, wb_IV m2 → ∃ m3, K (nI (6 * (t + 1))) m2 = some (some (.int 1), m3)) (hm : wb_IV m) (hn : kp.1 ≤ 3072) (ht : 6 * t + 6 ≤ kp.1) : ∃ m3, L_L_law_1277 kp K (nI (6 * t)) m = some (some (.int 1), m3) := by
  have e1 : nI (6 * t) + (1 : Int32) = nI (6 * t + 1) := nI_add _ 1
  have q1 : qm_in (nI (6 * t + 1)) kp.1 = true := qm_in_nI (by omega) (by omega)
  have e2 : nI (6 * t) + (2 : Int32) = nI (6 * t + 2) := nI_add _ 2
  have q2 : qm_in (nI (6 * t + 2)) kp.1 = true := qm_in_nI (by omega) (by omega)
  have e3 : nI (6 * t) + (3 : Int32) = nI (6 * t + 3) := nI_add _ 3
  have q3 : qm_in (nI (6 * t + 3)) kp.1 = true := qm_in_nI (by omega) (by omega)
  have e4 : nI (6 * t) + (4 : Int32) = nI (6 * t + 4) := nI_add _ 4
  have q4 : qm_in (nI (6 * t + 4)) kp.1 = true := qm_in_nI (by omega) (by omega)
  have e6 : nI (6 * t) + (6 : Int32) = nI (6 * (t + 1)) := by rw [Nat.mul_succ]; exact nI_add _ 6
  obtain ⟨r, m1, m2, h1, h2, h3⟩ := wb_power ((qo_lshl (Int32.toInt64 (kp.2 (Int32.toNatClampNeg (nI (6 * t + 1))))) (32 : Int32)) ||| ((Int32.toInt64 (kp.2 (Int32.toNatClampNeg (nI (6 * t + 2))))) &&& (4294967295 : Int64))) ((qo_lshl (Int32.toInt64 (kp.2 (Int32.toNatClampNeg (nI (6 * t + 3))))) (32 : Int32)) ||| ((Int32.toInt64 (kp.2 (Int32.toNatClampNeg (nI (6 * t + 4))))) &&& (4294967295 : Int64))) m hm
  obtain ⟨m3, h4⟩ := hK m2 h3
  refine ⟨m3, ?_⟩
  unfold L_L_law_1277 X_L_law_1277
  rw [e1, e2, e3, e4, q1, q2, q3, q4, qe_b_e, qe_b_e, qe_b_e, qe_b_e, h1, qe_rL_e, qe_b_e, qe_b_e, qe_b_e, qe_b_e, h2, qe_rL_e, if_pos ((lg_cmp_eq r r).mpr rfl), e6]
  exact h4
theorem lk_1371 {kp : pm_K} {K : Int32 → qm_M → Option qm_R} {t : Nat} {m : qm_M} (hK : ∀ m2, wb_IV m2 → ∃ m3, K (nI (6 * (t + 1))) m2 = some (some (.int 1), m3)) (hm : wb_IV m) (hn : kp.1 ≤ 3072) (ht : 6 * t + 6 ≤ kp.1) : ∃ m3, L_L_law_1371 kp K (nI (6 * t)) m = some (some (.int 1), m3) := by
  have e1 : nI (6 * t) + (1 : Int32) = nI (6 * t + 1) := nI_add _ 1
  have q1 : qm_in (nI (6 * t + 1)) kp.1 = true := qm_in_nI (by omega) (by omega)
  have e2 : nI (6 * t) + (2 : Int32) = nI (6 * t + 2) := nI_add _ 2
  have q2 : qm_in (nI (6 * t + 2)) kp.1 = true := qm_in_nI (by omega) (by omega)
  have e6 : nI (6 * t) + (6 : Int32) = nI (6 * (t + 1)) := by rw [Nat.mul_succ]; exact nI_add _ 6
  obtain ⟨r, m1, m2, h1, h2, h3⟩ := wb_order ((qo_lshl (Int32.toInt64 (kp.2 (Int32.toNatClampNeg (nI (6 * t + 1))))) (32 : Int32)) ||| ((Int32.toInt64 (kp.2 (Int32.toNatClampNeg (nI (6 * t + 2))))) &&& (4294967295 : Int64))) m hm
  obtain ⟨m3, h4⟩ := hK m2 h3
  refine ⟨m3, ?_⟩
  unfold L_L_law_1371 X_L_law_1371
  rw [e1, e2, q1, q2, qe_b_e, qe_b_e, h1, qe_rL_e, qe_b_e, qe_b_e, h2, qe_rL_e, if_pos ((lg_cmp_eq r r).mpr rfl), e6]
  exact h4
theorem lk_1425 {kp : pm_K} {K : Int32 → qm_M → Option qm_R} {t : Nat} {m : qm_M} (hK : ∀ m2, wb_IV m2 → ∃ m3, K (nI (6 * (t + 1))) m2 = some (some (.int 1), m3)) (hm : wb_IV m) (hn : kp.1 ≤ 3072) (ht : 6 * t + 6 ≤ kp.1) : ∃ m3, L_L_law_1425 kp K (nI (6 * t)) m = some (some (.int 1), m3) := by
  have e1 : nI (6 * t) + (1 : Int32) = nI (6 * t + 1) := nI_add _ 1
  have q1 : qm_in (nI (6 * t + 1)) kp.1 = true := qm_in_nI (by omega) (by omega)
  have e2 : nI (6 * t) + (2 : Int32) = nI (6 * t + 2) := nI_add _ 2
  have q2 : qm_in (nI (6 * t + 2)) kp.1 = true := qm_in_nI (by omega) (by omega)
  have e3 : nI (6 * t) + (3 : Int32) = nI (6 * t + 3) := nI_add _ 3
  have q3 : qm_in (nI (6 * t + 3)) kp.1 = true := qm_in_nI (by omega) (by omega)
  have e6 : nI (6 * t) + (6 : Int32) = nI (6 * (t + 1)) := by rw [Nat.mul_succ]; exact nI_add _ 6
  obtain ⟨r, m1, m2, h1, h2, h3⟩ := wb_level ((qo_lshl (Int32.toInt64 (kp.2 (Int32.toNatClampNeg (nI (6 * t + 1))))) (32 : Int32)) ||| ((Int32.toInt64 (kp.2 (Int32.toNatClampNeg (nI (6 * t + 2))))) &&& (4294967295 : Int64))) (kp.2 (Int32.toNatClampNeg (nI (6 * t + 3)))) m hm
  obtain ⟨m3, h4⟩ := hK m2 h3
  refine ⟨m3, ?_⟩
  unfold L_L_law_1425 X_L_law_1425
  rw [e1, e2, e3, q1, q2, q3, qe_b_e, qe_b_e, qe_b_e, h1, qe_rI_e, qe_b_e, qe_b_e, qe_b_e, h2, qe_rI_e, if_pos rfl, e6]
  exact h4
theorem lk_1488 {kp : pm_K} {K : Int32 → qm_M → Option qm_R} {t : Nat} {m : qm_M} (hK : ∀ m2, wb_IV m2 → ∃ m3, K (nI (6 * (t + 1))) m2 = some (some (.int 1), m3)) (hm : wb_IV m) (hn : kp.1 ≤ 3072) (ht : 6 * t + 6 ≤ kp.1) : ∃ m3, L_L_law_1488 kp K (nI (6 * t)) m = some (some (.int 1), m3) := by
  have e1 : nI (6 * t) + (1 : Int32) = nI (6 * t + 1) := nI_add _ 1
  have q1 : qm_in (nI (6 * t + 1)) kp.1 = true := qm_in_nI (by omega) (by omega)
  have e2 : nI (6 * t) + (2 : Int32) = nI (6 * t + 2) := nI_add _ 2
  have q2 : qm_in (nI (6 * t + 2)) kp.1 = true := qm_in_nI (by omega) (by omega)
  have e6 : nI (6 * t) + (6 : Int32) = nI (6 * (t + 1)) := by rw [Nat.mul_succ]; exact nI_add _ 6
  obtain ⟨r, m1, m2, h1, h2, h3⟩ := wb_least ((qo_lshl (Int32.toInt64 (kp.2 (Int32.toNatClampNeg (nI (6 * t + 1))))) (32 : Int32)) ||| ((Int32.toInt64 (kp.2 (Int32.toNatClampNeg (nI (6 * t + 2))))) &&& (4294967295 : Int64))) m hm
  obtain ⟨m3, h4⟩ := hK m2 h3
  refine ⟨m3, ?_⟩
  unfold L_L_law_1488 X_L_law_1488
  rw [e1, e2, q1, q2, qe_b_e, qe_b_e, h1, qe_rL_e, qe_b_e, qe_b_e, h2, qe_rL_e, if_pos ((lg_cmp_eq r r).mpr rfl), e6]
  exact h4
theorem lk_1542 {kp : pm_K} {K : Int32 → qm_M → Option qm_R} {t : Nat} {m : qm_M} (hK : ∀ m2, wb_IV m2 → ∃ m3, K (nI (6 * (t + 1))) m2 = some (some (.int 1), m3)) (hm : wb_IV m) (hn : kp.1 ≤ 3072) (ht : 6 * t + 6 ≤ kp.1) : ∃ m3, L_L_law_1542 kp K (nI (6 * t)) m = some (some (.int 1), m3) := by
  have e1 : nI (6 * t) + (1 : Int32) = nI (6 * t + 1) := nI_add _ 1
  have q1 : qm_in (nI (6 * t + 1)) kp.1 = true := qm_in_nI (by omega) (by omega)
  have e2 : nI (6 * t) + (2 : Int32) = nI (6 * t + 2) := nI_add _ 2
  have q2 : qm_in (nI (6 * t + 2)) kp.1 = true := qm_in_nI (by omega) (by omega)
  have e3 : nI (6 * t) + (3 : Int32) = nI (6 * t + 3) := nI_add _ 3
  have q3 : qm_in (nI (6 * t + 3)) kp.1 = true := qm_in_nI (by omega) (by omega)
  have e6 : nI (6 * t) + (6 : Int32) = nI (6 * (t + 1)) := by rw [Nat.mul_succ]; exact nI_add _ 6
  obtain ⟨r, m1, m2, h1, h2, h3⟩ := wb_trace ((qo_lshl (Int32.toInt64 (kp.2 (Int32.toNatClampNeg (nI (6 * t + 1))))) (32 : Int32)) ||| ((Int32.toInt64 (kp.2 (Int32.toNatClampNeg (nI (6 * t + 2))))) &&& (4294967295 : Int64))) (kp.2 (Int32.toNatClampNeg (nI (6 * t + 3)))) m hm
  obtain ⟨m3, h4⟩ := hK m2 h3
  refine ⟨m3, ?_⟩
  unfold L_L_law_1542 X_L_law_1542
  rw [e1, e2, e3, q1, q2, q3, qe_b_e, qe_b_e, qe_b_e, h1, qe_rI_e, qe_b_e, qe_b_e, qe_b_e, h2, qe_rI_e, if_pos rfl, e6]
  exact h4
theorem lk_1605 {kp : pm_K} {K : Int32 → qm_M → Option qm_R} {t : Nat} {m : qm_M} (hK : ∀ m2, wb_IV m2 → ∃ m3, K (nI (6 * (t + 1))) m2 = some (some (.int 1), m3)) (hm : wb_IV m) (hn : kp.1 ≤ 3072) (ht : 6 * t + 6 ≤ kp.1) : ∃ m3, L_L_law_1605 kp K (nI (6 * t)) m = some (some (.int 1), m3) := by
  have e1 : nI (6 * t) + (1 : Int32) = nI (6 * t + 1) := nI_add _ 1
  have q1 : qm_in (nI (6 * t + 1)) kp.1 = true := qm_in_nI (by omega) (by omega)
  have e2 : nI (6 * t) + (2 : Int32) = nI (6 * t + 2) := nI_add _ 2
  have q2 : qm_in (nI (6 * t + 2)) kp.1 = true := qm_in_nI (by omega) (by omega)
  have e6 : nI (6 * t) + (6 : Int32) = nI (6 * (t + 1)) := by rw [Nat.mul_succ]; exact nI_add _ 6
  obtain ⟨r, m1, m2, h1, h2, h3⟩ := wb_half ((qo_lshl (Int32.toInt64 (kp.2 (Int32.toNatClampNeg (nI (6 * t + 1))))) (32 : Int32)) ||| ((Int32.toInt64 (kp.2 (Int32.toNatClampNeg (nI (6 * t + 2))))) &&& (4294967295 : Int64))) m hm
  obtain ⟨m3, h4⟩ := hK m2 h3
  refine ⟨m3, ?_⟩
  unfold L_L_law_1605 X_L_law_1605
  rw [e1, e2, q1, q2, qe_b_e, qe_b_e, h1, qe_rL_e, qe_b_e, qe_b_e, h2, qe_rL_e, if_pos ((lg_cmp_eq r r).mpr rfl), e6]
  exact h4
theorem lk_1659 {kp : pm_K} {K : Int32 → qm_M → Option qm_R} {t : Nat} {m : qm_M} (hK : ∀ m2, wb_IV m2 → ∃ m3, K (nI (6 * (t + 1))) m2 = some (some (.int 1), m3)) (hm : wb_IV m) (hn : kp.1 ≤ 3072) (ht : 6 * t + 6 ≤ kp.1) : ∃ m3, L_L_law_1659 kp K (nI (6 * t)) m = some (some (.int 1), m3) := by
  have e1 : nI (6 * t) + (1 : Int32) = nI (6 * t + 1) := nI_add _ 1
  have q1 : qm_in (nI (6 * t + 1)) kp.1 = true := qm_in_nI (by omega) (by omega)
  have e2 : nI (6 * t) + (2 : Int32) = nI (6 * t + 2) := nI_add _ 2
  have q2 : qm_in (nI (6 * t + 2)) kp.1 = true := qm_in_nI (by omega) (by omega)
  have e3 : nI (6 * t) + (3 : Int32) = nI (6 * t + 3) := nI_add _ 3
  have q3 : qm_in (nI (6 * t + 3)) kp.1 = true := qm_in_nI (by omega) (by omega)
  have e4 : nI (6 * t) + (4 : Int32) = nI (6 * t + 4) := nI_add _ 4
  have q4 : qm_in (nI (6 * t + 4)) kp.1 = true := qm_in_nI (by omega) (by omega)
  have e5 : nI (6 * t) + (5 : Int32) = nI (6 * t + 5) := nI_add _ 5
  have q5 : qm_in (nI (6 * t + 5)) kp.1 = true := qm_in_nI (by omega) (by omega)
  have e6 : nI (6 * t) + (6 : Int32) = nI (6 * (t + 1)) := by rw [Nat.mul_succ]; exact nI_add _ 6
  obtain ⟨r, m1, m2, h1, h2, h3⟩ := wb_solve ((qo_lshl (Int32.toInt64 (kp.2 (Int32.toNatClampNeg (nI (6 * t + 1))))) (32 : Int32)) ||| ((Int32.toInt64 (kp.2 (Int32.toNatClampNeg (nI (6 * t + 2))))) &&& (4294967295 : Int64))) ((qo_lshl (Int32.toInt64 (kp.2 (Int32.toNatClampNeg (nI (6 * t + 3))))) (32 : Int32)) ||| ((Int32.toInt64 (kp.2 (Int32.toNatClampNeg (nI (6 * t + 4))))) &&& (4294967295 : Int64))) (kp.2 (Int32.toNatClampNeg (nI (6 * t + 5)))) m hm
  obtain ⟨m3, h4⟩ := hK m2 h3
  refine ⟨m3, ?_⟩
  unfold L_L_law_1659 X_L_law_1659
  rw [e1, e2, e3, e4, e5, q1, q2, q3, q4, q5, qe_b_e, qe_b_e, qe_b_e, qe_b_e, qe_b_e, h1, qe_rL_e, qe_b_e, qe_b_e, qe_b_e, qe_b_e, qe_b_e, h2, qe_rL_e, if_pos ((lg_cmp_eq r r).mpr rfl), e6]
  exact h4
theorem lk_1763 {kp : pm_K} {K : Int32 → qm_M → Option qm_R} {t : Nat} {m : qm_M} (hK : ∀ m2, wb_IV m2 → ∃ m3, K (nI (6 * (t + 1))) m2 = some (some (.int 1), m3)) (hm : wb_IV m) (hn : kp.1 ≤ 3072) (ht : 6 * t + 6 ≤ kp.1) : ∃ m3, L_L_law_1763 kp K (nI (6 * t)) m = some (some (.int 1), m3) := by
  have e1 : nI (6 * t) + (1 : Int32) = nI (6 * t + 1) := nI_add _ 1
  have q1 : qm_in (nI (6 * t + 1)) kp.1 = true := qm_in_nI (by omega) (by omega)
  have e2 : nI (6 * t) + (2 : Int32) = nI (6 * t + 2) := nI_add _ 2
  have q2 : qm_in (nI (6 * t + 2)) kp.1 = true := qm_in_nI (by omega) (by omega)
  have e3 : nI (6 * t) + (3 : Int32) = nI (6 * t + 3) := nI_add _ 3
  have q3 : qm_in (nI (6 * t + 3)) kp.1 = true := qm_in_nI (by omega) (by omega)
  have e4 : nI (6 * t) + (4 : Int32) = nI (6 * t + 4) := nI_add _ 4
  have q4 : qm_in (nI (6 * t + 4)) kp.1 = true := qm_in_nI (by omega) (by omega)
  have e6 : nI (6 * t) + (6 : Int32) = nI (6 * (t + 1)) := by rw [Nat.mul_succ]; exact nI_add _ 6
  obtain ⟨r, m1, m2, h1, h2, h3⟩ := wb_log ((qo_lshl (Int32.toInt64 (kp.2 (Int32.toNatClampNeg (nI (6 * t + 1))))) (32 : Int32)) ||| ((Int32.toInt64 (kp.2 (Int32.toNatClampNeg (nI (6 * t + 2))))) &&& (4294967295 : Int64))) ((qo_lshl (Int32.toInt64 (kp.2 (Int32.toNatClampNeg (nI (6 * t + 3))))) (32 : Int32)) ||| ((Int32.toInt64 (kp.2 (Int32.toNatClampNeg (nI (6 * t + 4))))) &&& (4294967295 : Int64))) m hm
  obtain ⟨m3, h4⟩ := hK m2 h3
  refine ⟨m3, ?_⟩
  unfold L_L_law_1763 X_L_law_1763
  rw [e1, e2, e3, e4, q1, q2, q3, q4, qe_b_e, qe_b_e, qe_b_e, qe_b_e, h1, qe_rI_e, qe_b_e, qe_b_e, qe_b_e, qe_b_e, h2, qe_rI_e, if_pos rfl, e6]
  exact h4
theorem lk_1856 {kp : pm_K} {K : Int32 → qm_M → Option qm_R} {t : Nat} {m : qm_M} (hK : ∀ m2, wb_IV m2 → ∃ m3, K (nI (6 * (t + 1))) m2 = some (some (.int 1), m3)) (hm : wb_IV m) (hn : kp.1 ≤ 3072) (ht : 6 * t + 6 ≤ kp.1) : ∃ m3, L_L_law_1856 kp K (nI (6 * t)) m = some (some (.int 1), m3) := by
  have e1 : nI (6 * t) + (1 : Int32) = nI (6 * t + 1) := nI_add _ 1
  have q1 : qm_in (nI (6 * t + 1)) kp.1 = true := qm_in_nI (by omega) (by omega)
  have e6 : nI (6 * t) + (6 : Int32) = nI (6 * (t + 1)) := by rw [Nat.mul_succ]; exact nI_add _ 6
  obtain ⟨r, m1, m2, h1, h2, h3⟩ := wb_place (kp.2 (Int32.toNatClampNeg (nI (6 * t + 1)))) m hm
  obtain ⟨m3, h4⟩ := hK m2 h3
  refine ⟨m3, ?_⟩
  unfold L_L_law_1856 X_L_law_1856
  rw [e1, q1, qe_b_e, h1, qe_rL_e, qe_b_e, h2, qe_rL_e, if_pos ((lg_cmp_eq r r).mpr rfl), e6]
  exact h4
theorem lk_1880 {kp : pm_K} {K : Int32 → qm_M → Option qm_R} {t : Nat} {m : qm_M} (hK : ∀ m2, wb_IV m2 → ∃ m3, K (nI (6 * (t + 1))) m2 = some (some (.int 1), m3)) (hm : wb_IV m) (hn : kp.1 ≤ 3072) (ht : 6 * t + 6 ≤ kp.1) : ∃ m3, L_L_law_1880 kp K (nI (6 * t)) m = some (some (.int 1), m3) := by
  have e1 : nI (6 * t) + (1 : Int32) = nI (6 * t + 1) := nI_add _ 1
  have q1 : qm_in (nI (6 * t + 1)) kp.1 = true := qm_in_nI (by omega) (by omega)
  have e2 : nI (6 * t) + (2 : Int32) = nI (6 * t + 2) := nI_add _ 2
  have q2 : qm_in (nI (6 * t + 2)) kp.1 = true := qm_in_nI (by omega) (by omega)
  have e3 : nI (6 * t) + (3 : Int32) = nI (6 * t + 3) := nI_add _ 3
  have q3 : qm_in (nI (6 * t + 3)) kp.1 = true := qm_in_nI (by omega) (by omega)
  have e6 : nI (6 * t) + (6 : Int32) = nI (6 * (t + 1)) := by rw [Nat.mul_succ]; exact nI_add _ 6
  obtain ⟨r, m1, m2, h1, h2, h3⟩ := wb_at ((qo_lshl (Int32.toInt64 (kp.2 (Int32.toNatClampNeg (nI (6 * t + 1))))) (32 : Int32)) ||| ((Int32.toInt64 (kp.2 (Int32.toNatClampNeg (nI (6 * t + 2))))) &&& (4294967295 : Int64))) (kp.2 (Int32.toNatClampNeg (nI (6 * t + 3)))) m hm
  obtain ⟨m3, h4⟩ := hK m2 h3
  refine ⟨m3, ?_⟩
  unfold L_L_law_1880 X_L_law_1880
  rw [e1, e2, e3, q1, q2, q3, qe_b_e, qe_b_e, qe_b_e, h1, qe_rL_e, qe_b_e, qe_b_e, qe_b_e, h2, qe_rL_e, if_pos ((lg_cmp_eq r r).mpr rfl), e6]
  exact h4
theorem lk_1944 {kp : pm_K} {K : Int32 → qm_M → Option qm_R} {t : Nat} {m : qm_M} (hK : ∀ m2, wb_IV m2 → ∃ m3, K (nI (6 * (t + 1))) m2 = some (some (.int 1), m3)) (hm : wb_IV m) (hn : kp.1 ≤ 3072) (ht : 6 * t + 6 ≤ kp.1) : ∃ m3, L_L_law_1944 kp K (nI (6 * t)) m = some (some (.int 1), m3) := by
  have e1 : nI (6 * t) + (1 : Int32) = nI (6 * t + 1) := nI_add _ 1
  have q1 : qm_in (nI (6 * t + 1)) kp.1 = true := qm_in_nI (by omega) (by omega)
  have e2 : nI (6 * t) + (2 : Int32) = nI (6 * t + 2) := nI_add _ 2
  have q2 : qm_in (nI (6 * t + 2)) kp.1 = true := qm_in_nI (by omega) (by omega)
  have e6 : nI (6 * t) + (6 : Int32) = nI (6 * (t + 1)) := by rw [Nat.mul_succ]; exact nI_add _ 6
  obtain ⟨r, m1, m2, h1, h2, h3⟩ := wb_worth (kp.2 (Int32.toNatClampNeg (nI (6 * t + 1)))) (kp.2 (Int32.toNatClampNeg (nI (6 * t + 2)))) m hm
  obtain ⟨m3, h4⟩ := hK m2 h3
  refine ⟨m3, ?_⟩
  unfold L_L_law_1944 X_L_law_1944
  rw [e1, e2, q1, q2, qe_b_e, qe_b_e, h1, qe_rI_e, qe_b_e, qe_b_e, h2, qe_rI_e, if_pos rfl, e6]
  exact h4
theorem lk_1977 {kp : pm_K} {K : Int32 → qm_M → Option qm_R} {t : Nat} {m : qm_M} (hK : ∀ m2, wb_IV m2 → ∃ m3, K (nI (6 * (t + 1))) m2 = some (some (.int 1), m3)) (hm : wb_IV m) (hn : kp.1 ≤ 3072) (ht : 6 * t + 6 ≤ kp.1) : ∃ m3, L_L_law_1977 kp K (nI (6 * t)) m = some (some (.int 1), m3) := by
  have e1 : nI (6 * t) + (1 : Int32) = nI (6 * t + 1) := nI_add _ 1
  have q1 : qm_in (nI (6 * t + 1)) kp.1 = true := qm_in_nI (by omega) (by omega)
  have e2 : nI (6 * t) + (2 : Int32) = nI (6 * t + 2) := nI_add _ 2
  have q2 : qm_in (nI (6 * t + 2)) kp.1 = true := qm_in_nI (by omega) (by omega)
  have e3 : nI (6 * t) + (3 : Int32) = nI (6 * t + 3) := nI_add _ 3
  have q3 : qm_in (nI (6 * t + 3)) kp.1 = true := qm_in_nI (by omega) (by omega)
  have e6 : nI (6 * t) + (6 : Int32) = nI (6 * (t + 1)) := by rw [Nat.mul_succ]; exact nI_add _ 6
  obtain ⟨r, m1, m2, h1, h2, h3⟩ := wb_cell (kp.2 (Int32.toNatClampNeg (nI (6 * t + 1)))) (kp.2 (Int32.toNatClampNeg (nI (6 * t + 2)))) (kp.2 (Int32.toNatClampNeg (nI (6 * t + 3)))) m hm
  obtain ⟨m3, h4⟩ := hK m2 h3
  refine ⟨m3, ?_⟩
  unfold L_L_law_1977 X_L_law_1977
  rw [e1, e2, e3, q1, q2, q3, qe_b_e, qe_b_e, qe_b_e, h1, qe_rI_e, qe_b_e, qe_b_e, qe_b_e, h2, qe_rI_e, if_pos rfl, e6]
  exact h4
theorem lk_2020 {kp : pm_K} {K : Int32 → qm_M → Option qm_R} {t : Nat} {m : qm_M} (hK : ∀ m2, wb_IV m2 → ∃ m3, K (nI (6 * (t + 1))) m2 = some (some (.int 1), m3)) (hm : wb_IV m) (hn : kp.1 ≤ 3072) (ht : 6 * t + 6 ≤ kp.1) : ∃ m3, L_L_law_2020 kp K (nI (6 * t)) m = some (some (.int 1), m3) := by
  have e6 : nI (6 * t) + (6 : Int32) = nI (6 * (t + 1)) := by rw [Nat.mul_succ]; exact nI_add _ 6
  obtain ⟨r, m1, m2, h1, h2, h3⟩ := wb_total m hm
  obtain ⟨m3, h4⟩ := hK m2 h3
  refine ⟨m3, ?_⟩
  unfold L_L_law_2020 X_L_law_2020
  rw [h1, qe_rL_e, h2, qe_rL_e, if_pos ((lg_cmp_eq r r).mpr rfl), e6]
  exact h4
theorem lk_2034 {kp : pm_K} {K : Int32 → qm_M → Option qm_R} {t : Nat} {m : qm_M} (hK : ∀ m2, wb_IV m2 → ∃ m3, K (nI (6 * (t + 1))) m2 = some (some (.int 1), m3)) (hm : wb_IV m) (hn : kp.1 ≤ 3072) (ht : 6 * t + 6 ≤ kp.1) : ∃ m3, L_L_law_2034 kp K (nI (6 * t)) m = some (some (.int 1), m3) := by
  have e1 : nI (6 * t) + (1 : Int32) = nI (6 * t + 1) := nI_add _ 1
  have q1 : qm_in (nI (6 * t + 1)) kp.1 = true := qm_in_nI (by omega) (by omega)
  have e6 : nI (6 * t) + (6 : Int32) = nI (6 * (t + 1)) := by rw [Nat.mul_succ]; exact nI_add _ 6
  obtain ⟨r, m1, m2, h1, h2, h3⟩ := wb_moves (kp.2 (Int32.toNatClampNeg (nI (6 * t + 1)))) m hm
  obtain ⟨m3, h4⟩ := hK m2 h3
  refine ⟨m3, ?_⟩
  unfold L_L_law_2034 X_L_law_2034
  rw [e1, q1, qe_b_e, h1, qe_rI_e, qe_b_e, h2, qe_rI_e, if_pos rfl, e6]
  exact h4
theorem lk_2057 {kp : pm_K} {K : Int32 → qm_M → Option qm_R} {t : Nat} {m : qm_M} (hK : ∀ m2, wb_IV m2 → ∃ m3, K (nI (6 * (t + 1))) m2 = some (some (.int 1), m3)) (hm : wb_IV m) (hn : kp.1 ≤ 3072) (ht : 6 * t + 6 ≤ kp.1) : ∃ m3, L_L_law_2057 kp K (nI (6 * t)) m = some (some (.int 1), m3) := by
  have e1 : nI (6 * t) + (1 : Int32) = nI (6 * t + 1) := nI_add _ 1
  have q1 : qm_in (nI (6 * t + 1)) kp.1 = true := qm_in_nI (by omega) (by omega)
  have e2 : nI (6 * t) + (2 : Int32) = nI (6 * t + 2) := nI_add _ 2
  have q2 : qm_in (nI (6 * t + 2)) kp.1 = true := qm_in_nI (by omega) (by omega)
  have e3 : nI (6 * t) + (3 : Int32) = nI (6 * t + 3) := nI_add _ 3
  have q3 : qm_in (nI (6 * t + 3)) kp.1 = true := qm_in_nI (by omega) (by omega)
  have e6 : nI (6 * t) + (6 : Int32) = nI (6 * (t + 1)) := by rw [Nat.mul_succ]; exact nI_add _ 6
  obtain ⟨r, m1, m2, h1, h2, h3⟩ := wb_move (kp.2 (Int32.toNatClampNeg (nI (6 * t + 1)))) (kp.2 (Int32.toNatClampNeg (nI (6 * t + 2)))) (kp.2 (Int32.toNatClampNeg (nI (6 * t + 3)))) m hm
  obtain ⟨m3, h4⟩ := hK m2 h3
  refine ⟨m3, ?_⟩
  unfold L_L_law_2057 X_L_law_2057
  rw [e1, e2, e3, q1, q2, q3, qe_b_e, qe_b_e, qe_b_e, h1, qe_rI_e, qe_b_e, qe_b_e, qe_b_e, h2, qe_rI_e, if_pos rfl, e6]
  exact h4
theorem lk_2100 {kp : pm_K} {K : Int32 → qm_M → Option qm_R} {t : Nat} {m : qm_M} (hK : ∀ m2, wb_IV m2 → ∃ m3, K (nI (6 * (t + 1))) m2 = some (some (.int 1), m3)) (hm : wb_IV m) (hn : kp.1 ≤ 3072) (ht : 6 * t + 6 ≤ kp.1) : ∃ m3, L_L_law_2100 kp K (nI (6 * t)) m = some (some (.int 1), m3) := by
  have e1 : nI (6 * t) + (1 : Int32) = nI (6 * t + 1) := nI_add _ 1
  have q1 : qm_in (nI (6 * t + 1)) kp.1 = true := qm_in_nI (by omega) (by omega)
  have e2 : nI (6 * t) + (2 : Int32) = nI (6 * t + 2) := nI_add _ 2
  have q2 : qm_in (nI (6 * t + 2)) kp.1 = true := qm_in_nI (by omega) (by omega)
  have e6 : nI (6 * t) + (6 : Int32) = nI (6 * (t + 1)) := by rw [Nat.mul_succ]; exact nI_add _ 6
  obtain ⟨r, m1, m2, h1, h2, h3⟩ := wb_sets (kp.2 (Int32.toNatClampNeg (nI (6 * t + 1)))) (kp.2 (Int32.toNatClampNeg (nI (6 * t + 2)))) m hm
  obtain ⟨m3, h4⟩ := hK m2 h3
  refine ⟨m3, ?_⟩
  unfold L_L_law_2100 X_L_law_2100
  rw [e1, e2, q1, q2, qe_b_e, qe_b_e, h1, qe_rI_e, qe_b_e, qe_b_e, h2, qe_rI_e, if_pos rfl, e6]
  exact h4
theorem lk_2133 {kp : pm_K} {K : Int32 → qm_M → Option qm_R} {t : Nat} {m : qm_M} (hK : ∀ m2, wb_IV m2 → ∃ m3, K (nI (6 * (t + 1))) m2 = some (some (.int 1), m3)) (hm : wb_IV m) (hn : kp.1 ≤ 3072) (ht : 6 * t + 6 ≤ kp.1) : ∃ m3, L_L_law_2133 kp K (nI (6 * t)) m = some (some (.int 1), m3) := by
  have e1 : nI (6 * t) + (1 : Int32) = nI (6 * t + 1) := nI_add _ 1
  have q1 : qm_in (nI (6 * t + 1)) kp.1 = true := qm_in_nI (by omega) (by omega)
  have e6 : nI (6 * t) + (6 : Int32) = nI (6 * (t + 1)) := by rw [Nat.mul_succ]; exact nI_add _ 6
  obtain ⟨r, m1, m2, h1, h2, h3⟩ := wb_count (kp.2 (Int32.toNatClampNeg (nI (6 * t + 1)))) m hm
  obtain ⟨m3, h4⟩ := hK m2 h3
  refine ⟨m3, ?_⟩
  unfold L_L_law_2133 X_L_law_2133
  rw [e1, q1, qe_b_e, h1, qe_rI_e, qe_b_e, h2, qe_rI_e, if_pos rfl, e6]
  exact h4
theorem lw_main {kp : pm_K} (hn : kp.1 ≤ 3072) : ∀ (f t : Nat) (m : qm_M), wb_IV m → t ≤ 512 → 600 < f + t → ∃ m3, L_L_law_18 kp f (nI (6 * t)) m = some (some (.int 1), m3)
  | 0, t, m, _, ht, hf => by omega
  | f + 1, t, m, hm, ht, hf => by
    rw [le_L_law_18]
    unfold X_L_law_18
    by_cases q : kp.1 < 6 * t + 6
    · rw [if_pos ((lw_end hn ht).mpr q)]
      exact ⟨m, rfl⟩
    · have hq : 6 * t + 6 ≤ kp.1 := by omega
      have hK : ∀ m2, wb_IV m2 → ∃ m3, L_L_law_18 kp f (nI (6 * (t + 1))) m2 = some (some (.int 1), m3) := fun m2 h2 => lw_main hn f (t + 1) m2 h2 (by omega) (by omega)
      have e6 : nI (6 * t) + (6 : Int32) = nI (6 * (t + 1)) := by rw [Nat.mul_succ]; exact nI_add _ 6
      have q0 : qm_in (nI (6 * t)) kp.1 = true := qm_in_nI (by omega) (by omega)
      rw [if_neg (fun z => q ((lw_end hn ht).mp z)), q0, qe_b_e]
      generalize L_L_law_18 kp f = K at *
      generalize Int32.toInt ((kp.2 (Int32.toNatClampNeg (nI (6 * t)))) &&& (63 : Int32)) = z
      by_cases c0 : z = 0
      · rw [if_pos c0]
        exact lk_236 hK hm hn hq
      rw [if_neg c0]
      by_cases c1 : z = 1
      · rw [if_pos c1]
        exact lk_299 hK hm hn hq
      rw [if_neg c1]
      by_cases c2 : z = 2
      · rw [if_pos c2]
        exact lk_322 hK hm hn hq
      rw [if_neg c2]
      by_cases c3 : z = 3
      · rw [if_pos c3]
        exact lk_335 hK hm hn hq
      rw [if_neg c3]
      by_cases c4 : z = 4
      · rw [if_pos c4]
        exact lk_368 hK hm hn hq
      rw [if_neg c4]
      by_cases c5 : z = 5
      · rw [if_pos c5]
        exact lk_401 hK hm hn hq
      rw [if_neg c5]
      by_cases c6 : z = 6
      · rw [if_pos c6]
        exact lk_414 hK hm hn hq
      rw [if_neg c6]
      by_cases c7 : z = 7
      · rw [if_pos c7]
        exact lk_477 hK hm hn hq
      rw [if_neg c7]
      by_cases c8 : z = 8
      · rw [if_pos c8]
        exact lk_530 hK hm hn hq
      rw [if_neg c8]
      by_cases c9 : z = 9
      · rw [if_pos c9]
        exact lk_543 hK hm hn hq
      rw [if_neg c9]
      by_cases c10 : z = 10
      · rw [if_pos c10]
        exact lk_566 hK hm hn hq
      rw [if_neg c10]
      by_cases c11 : z = 11
      · rw [if_pos c11]
        exact lk_589 hK hm hn hq
      rw [if_neg c11]
      by_cases c12 : z = 12
      · rw [if_pos c12]
        exact lk_622 hK hm hn hq
      rw [if_neg c12]
      by_cases c13 : z = 13
      · rw [if_pos c13]
        exact lk_695 hK hm hn hq
      rw [if_neg c13]
      by_cases c14 : z = 14
      · rw [if_pos c14]
        exact lk_718 hK hm hn hq
      rw [if_neg c14]
      by_cases c15 : z = 15
      · rw [if_pos c15]
        exact lk_731 hK hm hn hq
      rw [if_neg c15]
      by_cases c16 : z = 16
      · rw [if_pos c16]
        exact lk_775 hK hm hn hq
      rw [if_neg c16]
      by_cases c17 : z = 17
      · rw [if_pos c17]
        exact lk_789 hK hm hn hq
      rw [if_neg c17]
      by_cases c18 : z = 18
      · rw [if_pos c18]
        exact lk_812 hK hm hn hq
      rw [if_neg c18]
      by_cases c19 : z = 19
      · rw [if_pos c19]
        exact lk_836 hK hm hn hq
      rw [if_neg c19]
      by_cases c20 : z = 20
      · rw [if_pos c20]
        exact lk_869 hK hm hn hq
      rw [if_neg c20]
      by_cases c21 : z = 21
      · rw [if_pos c21]
        exact lk_893 hK hm hn hq
      rw [if_neg c21]
      by_cases c22 : z = 22
      · rw [if_pos c22]
        exact lk_917 hK hm hn hq
      rw [if_neg c22]
      by_cases c23 : z = 23
      · rw [if_pos c23]
        exact lk_971 hK hm hn hq
      rw [if_neg c23]
      by_cases c24 : z = 24
      · rw [if_pos c24]
        exact lk_994 hK hm hn hq
      rw [if_neg c24]
      by_cases c25 : z = 25
      · rw [if_pos c25]
        exact lk_1028 hK hm hn hq
      rw [if_neg c25]
      by_cases c26 : z = 26
      · rw [if_pos c26]
        exact lk_1052 hK hm hn hq
      rw [if_neg c26]
      by_cases c27 : z = 27
      · rw [if_pos c27]
        exact lk_1075 hK hm hn hq
      rw [if_neg c27]
      by_cases c28 : z = 28
      · rw [if_pos c28]
        exact lk_1169 hK hm hn hq
      rw [if_neg c28]
      by_cases c29 : z = 29
      · rw [if_pos c29]
        exact lk_1223 hK hm hn hq
      rw [if_neg c29]
      by_cases c30 : z = 30
      · rw [if_pos c30]
        exact lk_1277 hK hm hn hq
      rw [if_neg c30]
      by_cases c31 : z = 31
      · rw [if_pos c31]
        exact lk_1371 hK hm hn hq
      rw [if_neg c31]
      by_cases c32 : z = 32
      · rw [if_pos c32]
        exact lk_1425 hK hm hn hq
      rw [if_neg c32]
      by_cases c33 : z = 33
      · rw [if_pos c33]
        exact lk_1488 hK hm hn hq
      rw [if_neg c33]
      by_cases c34 : z = 34
      · rw [if_pos c34]
        exact lk_1542 hK hm hn hq
      rw [if_neg c34]
      by_cases c35 : z = 35
      · rw [if_pos c35]
        exact lk_1605 hK hm hn hq
      rw [if_neg c35]
      by_cases c36 : z = 36
      · rw [if_pos c36]
        exact lk_1659 hK hm hn hq
      rw [if_neg c36]
      by_cases c37 : z = 37
      · rw [if_pos c37]
        exact lk_1763 hK hm hn hq
      rw [if_neg c37]
      by_cases c38 : z = 38
      · rw [if_pos c38]
        exact lk_1856 hK hm hn hq
      rw [if_neg c38]
      by_cases c39 : z = 39
      · rw [if_pos c39]
        exact lk_1880 hK hm hn hq
      rw [if_neg c39]
      by_cases c40 : z = 40
      · rw [if_pos c40]
        exact lk_1944 hK hm hn hq
      rw [if_neg c40]
      by_cases c41 : z = 41
      · rw [if_pos c41]
        exact lk_1977 hK hm hn hq
      rw [if_neg c41]
      by_cases c42 : z = 42
      · rw [if_pos c42]
        exact lk_2020 hK hm hn hq
      rw [if_neg c42]
      by_cases c43 : z = 43
      · rw [if_pos c43]
        exact lk_2034 hK hm hn hq
      rw [if_neg c43]
      by_cases c44 : z = 44
      · rw [if_pos c44]
        exact lk_2057 hK hm hn hq
      rw [if_neg c44]
      by_cases c45 : z = 45
      · rw [if_pos c45]
        exact lk_2100 hK hm hn hq
      rw [if_neg c45]
      by_cases c46 : z = 46
      · rw [if_pos c46]
        exact lk_2133 hK hm hn hq
      rw [if_neg c46]
      rw [e6]
      exact hK m hm
/-! the start -/
def p0_l : List Int64 := [3, 3, 0, 0, 2, 2, 0, 0, 0, 0, 0, 0, 0, 0, 0, 1, 1]
def p0 : sP := fun k => qm_nth p0_l k 0
theorem p0_ok : px_ok p0 := ⟨3, 3, 0, 0, 2, 2, 1, 1, by decide, ⟨rfl, rfl, rfl, rfl, rfl, rfl, rfl, rfl⟩, fun i hi => by
  have e : nb (p0 6) = 0#64 := rfl
  rw [e, BitVec.getLsbD_zero] at hi
  cases hi⟩
def s0_T : sT := (p0, (0, fun _ => p0), (fun _ => false, fun _ => p0), (0, fun _ => 0))
theorem st_chk : (List.range 33).all (fun k => decide (px_c qm_m1 1 k = p0 k ∧ qm_m1.2 113 k = p0 k)) = true := by decide +kernel
theorem st_prm : (List.range 7).all (fun k => decide (qm_m1.2 118 k = bn (BitVec.ofNat 64 (nq k)))) = true := by decide +kernel
theorem st_shl : (List.range 2).all (fun z => decide (qm_m1.1 (37 + 3 * z) 11 = 0 ∧ qm_m1.1 116 z = 0)) = true := by decide +kernel
theorem st_one : qm_m1.1 4 1 = 0 ∧ qm_m1.1 4 2 = 0 ∧ qm_m1.1 43 2 = 0 ∧ qm_m1.1 112 2 = 0 ∧ qm_m1.1 112 24 = 0 ∧ qm_m1.1 52 0 = 0 ∧ qm_m1.1 49 4 = -1 ∧ qm_m1.1 57 0 = 0 ∧ qm_m1.1 54 4 = -1 ∧ qm_m1.1 48 3 = -1 ∧ qm_m1.1 60 3 = -1 ∧ qm_m1.1 70 12 = -1 ∧ qm_m1.1 107 4 = 0 := by decide +kernel
theorem st_59 (x : Nat) : qm_m1.1 59 x = 0 := rfl
theorem st_iv {m2 : qm_M} (h1 : nt_ok 64 m2) (h2 : nt_fr qm_m1 m2) : wb_IV m2 := by
  obtain ⟨e1, e2⟩ := h2
  obtain ⟨o1, o2, o3, o4, o5, o6, o7, o8, o9, o10, o11, o12, o13⟩ := st_one
  have pc1 : ∀ k, k < 33 → px_c m2 1 k = p0 k ∧ m2.2 113 k = p0 k := fun k hk => by
    have c := of_decide_eq_true (List.all_eq_true.mp st_chk k (List.mem_range.mpr hk))
    rw [e2 113 (by decide)]
    unfold px_c at c ⊢
    rw [e1, e2 1 (by decide), e2 (1 + 1) (by decide), e2 (1 + 2) (by decide)]
    exact c
  have hsh : ∀ z, z < 2 → m2.1 (37 + 3 * z) 11 = 0 ∧ m2.1 116 z = 0 := fun z hz => by
    rw [e1]
    exact of_decide_eq_true (List.all_eq_true.mp st_shl z (List.mem_range.mpr hz))
  have hno : ∀ z, ¬ s0_T.2.2.1.1 z = true := fun z q => absurd (show false = true from q) (by decide)
  have hcs : cs m2 s0_T := by
    refine ⟨fun k hk => (pc1 k hk).1, ⟨0, by omega, ?_, ?_, fun i hi => absurd hi (Nat.not_lt_zero _)⟩, fun z hz => ⟨?_, fun q => absurd q (hno z)⟩, ?_, fun k hk => absurd hk (Nat.not_lt_zero _)⟩
    · rw [e1, o1]
      rfl
    · rw [e1, o2]
      rfl
    · rw [if_neg (hno z)]
      exact (hsh z hz).1
    · rw [e1, o3]
      rfl
  have hms : ms m2 s0_T := by
    refine ⟨⟨h1, fun k hk => ?_⟩, fun k hk => (pc1 k hk).2, ⟨?_, fun i hi => absurd hi (Nat.not_lt_zero _)⟩, fun z hz => ⟨?_, fun q => absurd q (hno z)⟩, ?_, fun k hk => absurd hk (Nat.not_lt_zero _)⟩
    · rw [e2 118 (by decide)]
      exact of_decide_eq_true (List.all_eq_true.mp st_prm k (List.mem_range.mpr hk))
    · rw [e1, o4]
      rfl
    · rw [if_neg (hno z)]
      exact (hsh z hz).2
    · rw [e1, o5]
      rfl
  have hgd : gd s0_T := ⟨p0_ok, Nat.zero_le 10, fun i hi => absurd hi (Nat.not_lt_zero _), fun z _ q => absurd q (hno z), Nat.zero_le 120, fun k hk => absurd hk (Nat.not_lt_zero _)⟩
  have hP : cvPl m2 := by
    refine ⟨⟨?_, Or.inl ?_⟩, ⟨?_, Or.inl ?_⟩, fun x hx => ⟨?_, ?_⟩, Or.inl ?_⟩
    · rw [e1]
      exact o6
    · rw [e1]
      exact o7
    · rw [e1]
      exact o8
    · rw [e1]
      exact o9
    · rw [e1]
      exact st_59 _
    · rw [e1]
      exact st_59 _
    · rw [e1]
      exact o10
  exact ⟨s0_T, hcs, hms, hgd, hP, Or.inl (by rw [e1]; exact o11), Or.inl (by rw [e1]; exact o12), Or.inl (by rw [e1]; exact o13)⟩
