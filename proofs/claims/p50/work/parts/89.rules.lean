/-! rules: which sets of coins may be -/
theorem nI_shr {n k : Nat} (hn : n < 2 ^ 31) (hk : k < 32) : qo_ishr (nI n) (nI k) = nI (n / 2 ^ k) := by
  have c : (List.range 32).all (fun k => decide ((nI k &&& 31).toBitVec.smod 32 = BitVec.ofNat 32 k)) = true := by decide +kernel
  have c1 := of_decide_eq_true (List.all_eq_true.mp c k (List.mem_range.mpr hk))
  refine Int32.toBitVec_inj.1 ?_
  unfold qo_ishr
  rw [Int32.toBitVec_shiftRight, c1]
  show (BitVec.ofNat 32 n).sshiftRight (BitVec.ofNat 32 k).toNat = BitVec.ofNat 32 (n / 2 ^ k)
  have hm : (BitVec.ofNat 32 n).msb = false := by
    rw [BitVec.msb_eq_decide, BitVec.toNat_ofNat, Nat.mod_eq_of_lt (by omega)]
    exact decide_eq_false (by omega)
  rw [BitVec.sshiftRight_eq_of_msb_false hm]
  apply BitVec.eq_of_toNat_eq
  rw [BitVec.toNat_ushiftRight, BitVec.toNat_ofNat, BitVec.toNat_ofNat, BitVec.toNat_ofNat, Nat.mod_eq_of_lt (show n < 2 ^ 32 by omega), Nat.mod_eq_of_lt (show k < 2 ^ 32 by omega), Nat.shiftRight_eq_div_pow, Nat.mod_eq_of_lt (Nat.lt_of_le_of_lt (Nat.div_le_self _ _) (by omega))]
def sRun (S : Nat) : Bool := decide (S = (2 ^ pc 12 S - 1) * 2 ^ (Nat.log2 S + 1 - pc 12 S))
def sGap (S : Nat) : Nat := Nat.log2 S - Nat.log2 (S - 2 ^ Nat.log2 S)
/-- which sets may be: by a kind and its number -/
def al (κ l S : Nat) : Bool :=
  if κ = 0 then decide (1 ≤ pc 12 S ∧ pc 12 S ≤ l)
  else if κ = 1 then decide (pc 12 S = l)
  else if κ = 2 then decide (1 ≤ pc 12 S ∧ pc 12 S ≤ l) && sRun S
  else decide (pc 12 S = 1) || (decide (pc 12 S = 2) && decide (sGap S ≤ l))
theorem run_chk : (List.range 4096).all (fun S => (S == 0) || ((decide ((nI S &&& (nI S + (nI S &&& -(nI S)))) = 0) == sRun S) && (decide (nI S = qo_ishl (qo_ishl 1 (nI (pc 12 S)) - 1) (nI (Nat.log2 S) + 1 - nI (pc 12 S))) == sRun S) && decide (Nat.log2 S < 12))) = true := by decide +kernel
theorem gap_chk : (List.range 4096).all (fun S => !(pc 12 S == 2) || (decide (nI S &&& (qo_ishl 1 (nI (Nat.log2 S)) ^^^ -1) = nI (S - 2 ^ Nat.log2 S) ∧ 0 < S - 2 ^ Nat.log2 S ∧ Nat.log2 (S - 2 ^ Nat.log2 S) < Nat.log2 S) && (List.range 9).all (fun l => decide (qo_ishl (nI S &&& -(nI S)) (nI l) < (nI S ^^^ (nI S &&& -(nI S)))) == !decide (sGap S ≤ l)))) = true := by decide +kernel
theorem run_c {S : Nat} (h0 : 0 < S) (h : S < 4096) : (((nI S &&& (nI S + (nI S &&& -(nI S)))) = 0) ↔ sRun S = true) ∧ ((nI S = qo_ishl (qo_ishl 1 (nI (pc 12 S)) - 1) (nI (Nat.log2 S) + 1 - nI (pc 12 S))) ↔ sRun S = true) ∧ Nat.log2 S < 12 := by
  have c := List.all_eq_true.mp run_chk S (List.mem_range.mpr h)
  rw [Bool.or_eq_true, Bool.and_eq_true, Bool.and_eq_true] at c
  rcases c with c | ⟨⟨c1, c2⟩, c3⟩
  · have : S = 0 := by simpa using c
    omega
  · rw [beq_iff_eq] at c1 c2
    exact ⟨by rw [← c1, decide_eq_true_iff], by rw [← c2, decide_eq_true_iff], of_decide_eq_true c3⟩
theorem gap_c {S : Nat} (h : S < 4096) (h2 : pc 12 S = 2) : (nI S &&& (qo_ishl 1 (nI (Nat.log2 S)) ^^^ -1) = nI (S - 2 ^ Nat.log2 S) ∧ 0 < S - 2 ^ Nat.log2 S ∧ Nat.log2 (S - 2 ^ Nat.log2 S) < Nat.log2 S) ∧ ∀ l, l < 9 → (qo_ishl (nI S &&& -(nI S)) (nI l) < (nI S ^^^ (nI S &&& -(nI S))) ↔ ¬ sGap S ≤ l) := by
  have c := List.all_eq_true.mp gap_chk S (List.mem_range.mpr h)
  rw [Bool.or_eq_true, Bool.and_eq_true] at c
  rcases c with c | ⟨c1, c2⟩
  · rw [h2] at c
    cases c
  · refine ⟨of_decide_eq_true c1, fun l hl => ?_⟩
    have c3 := List.all_eq_true.mp c2 l (List.mem_range.mpr hl)
    rw [beq_iff_eq] at c3
    by_cases q : sGap S ≤ l
    · rw [decide_eq_true q] at c3
      have c4 := of_decide_eq_false (c3.trans rfl)
      exact ⟨fun z => absurd z c4, fun z => absurd q z⟩
    · rw [decide_eq_false q] at c3
      exact ⟨fun _ => q, fun _ => of_decide_eq_true (c3.trans rfl)⟩
theorem al_if (b : Bool) : (if b = true then (1 : Int32) else 0) = 0 ↔ b = false := by cases b <;> decide
/-- the class's rule -/
theorem nu_allows {m : qm_M} {o κ l S : Nat} (ho : qm_isO o 6 = true) (h4 : m.1 o 4 = nI κ) (h5 : m.1 o 5 = nI l) (hκ : κ ≤ 3) (hl : 1 ≤ l ∧ l ≤ 8) (hS : S < 4096) : F_Ru_allows o (nI S) m = some (some (.int (if al κ l S = true then 1 else 0)), m) := by
  have hp := pc_le 12 S
  have e0 : S = 0 → pc 12 S = 0 := fun z => by rw [z]; exact pc_z 12
  have l1 : (1 : Int32) = nI 1 := rfl
  have l2 : (2 : Int32) = nI 2 := rfl
  unfold F_Ru_allows X_Ru_allows_e al
  rw [nu_bitCountI hS, qe_rI_e, ho, qe_b_e, h4, h5]
  have t0 : (nI κ).toInt = 0 ↔ κ = 0 := nI_tI (k := 0) (by omega)
  have t1 : (nI κ).toInt = 1 ↔ κ = 1 := nI_tI (k := 1) (by omega)
  have t2 : (nI κ).toInt = 2 ↔ κ = 2 := nI_tI (k := 2) (by omega)
  by_cases k0 : κ = 0
  · rw [if_pos (t0.mpr k0), if_pos k0]
    by_cases q1 : pc 12 S < 1
    · have g : nI (pc 12 S) < 1 := nI_lt (b := 1) q1 (by omega)
      rw [if_pos g, if_neg (by rw [decide_eq_true_iff]; omega)]
    · have g : ¬ nI (pc 12 S) < 1 := nI_nlt (b := 1) (by omega) (by omega)
      rw [if_neg g, qe_b_e]
      by_cases q2 : l < pc 12 S
      · rw [if_pos (nI_lt q2 (by omega)), if_neg (by rw [decide_eq_true_iff]; omega)]
      · rw [if_neg (nI_nlt (by omega) (by omega)), if_pos (by rw [decide_eq_true_iff]; omega)]
  · rw [if_neg (fun z => k0 (t0.mp z)), if_neg k0]
    by_cases k1 : κ = 1
    · rw [if_pos (t1.mpr k1), if_pos k1, qe_b_e]
      by_cases q1 : pc 12 S = l
      · rw [if_pos (by rw [q1]), if_pos (decide_eq_true q1)]
      · rw [if_neg (fun z => q1 ((nI_eq (by omega) (by omega)).mp z)), if_neg (by rw [decide_eq_true_iff]; exact q1)]
    · rw [if_neg (fun z => k1 (t1.mp z)), if_neg k1]
      by_cases k2 : κ = 2
      · rw [if_pos (t2.mpr k2), if_pos k2]
        by_cases q1 : pc 12 S < 1
        · have g : nI (pc 12 S) < 1 := nI_lt (b := 1) q1 (by omega)
          rw [if_pos g, if_neg (by rw [Bool.and_eq_true, decide_eq_true_iff]; omega)]
        · have g : ¬ nI (pc 12 S) < 1 := nI_nlt (b := 1) (by omega) (by omega)
          rw [if_neg g, qe_b_e]
          by_cases q2 : l < pc 12 S
          · rw [if_pos (nI_lt q2 (by omega)), if_neg (by rw [Bool.and_eq_true, decide_eq_true_iff]; omega)]
          · rw [if_neg (nI_nlt (by omega) (by omega)), decide_eq_true (by omega), Bool.true_and]
            have r := (run_c (by omega) hS).1
            by_cases q3 : sRun S = true
            · rw [if_pos (r.mpr q3), if_pos q3]
            · rw [if_neg (fun z => q3 (r.mp z)), if_neg q3]
      · rw [if_neg (fun z => k2 (t2.mp z)), if_neg k2]
        by_cases q1 : pc 12 S = 1
        · rw [if_pos (by rw [q1, l1]), decide_eq_true q1, Bool.true_or, if_pos rfl]
        · have g : ¬ nI (pc 12 S) = 1 := fun z => q1 ((nI_eq (b := 1) (by omega) (by omega)).mp z)
          rw [if_neg g, decide_eq_false q1, Bool.false_or]
          by_cases q2 : pc 12 S = 2
          · rw [if_pos (by rw [q2, l2]), qe_b_e, decide_eq_true q2, Bool.true_and]
            have r := (gap_c hS q2).2 l (by omega)
            unfold F_Ru_areNear X_Ru_areNear_e
            rw [ho, qe_b_e, h5]
            by_cases q3 : sGap S ≤ l
            · rw [if_neg (fun z => r.mp z q3), qe_rI_e, if_neg n10, if_pos (decide_eq_true q3)]
            · rw [if_pos (r.mpr q3), qe_rI_e, if_pos rfl, if_neg (by rw [decide_eq_true_iff]; exact q3)]
          · have g2 : ¬ nI (pc 12 S) = 2 := fun z => q2 ((nI_eq (b := 2) (by omega) (by omega)).mp z)
            rw [if_neg g2, decide_eq_false q2, Bool.false_and, if_neg (by decide)]
