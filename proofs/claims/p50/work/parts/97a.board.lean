/-! THE LAW'S BOARD over a memory: its methods -/
theorem it_e {c : Prop} [Decidable c] (a b : Int32) (m : qm_M) : (if c then some (some (Value.int a), m) else some (some (Value.int b), m)) = some (some (Value.int (if c then a else b)), m) := by
  by_cases h : c
  · rw [if_pos h, if_pos h]
  · rw [if_neg h, if_neg h]
def lz61 (v0 v1 : Int32) : Int32 := if v0 < (4 : Int32) then v1 - (qo_iushr v0 (1 : Int32)) else (v1 + (-2 : Int32)) - (qo_iushr (qo_iushr v0 (2 : Int32)) (1 : Int32))
def lz48 (v0 v1 : Int32) : Int32 := if v0 < (16 : Int32) then lz61 v0 v1 else lz61 (qo_iushr v0 (4 : Int32)) (v1 + (-4 : Int32))
def lz33 (v0 v1 : Int32) : Int32 := if v0 < (256 : Int32) then lz48 v0 v1 else lz48 (qo_iushr v0 (8 : Int32)) (v1 + (-8 : Int32))
def lzV (v0 : Int32) : Int32 := if 0 < v0 then (if v0 < (65536 : Int32) then lz33 v0 31 else lz33 (qo_iushr v0 (16 : Int32)) ((31 : Int32) + (-16 : Int32))) else (if v0 = 0 then 32 else 0)
theorem lz_e61 (v0 v1 : Int32) (m : qm_M) : L_JI_numberOfLeadingZeros_61 v0 v1 m = some (some (.int (lz61 v0 v1)), m) := it_e _ _ m
theorem lz_e48 (v0 v1 : Int32) (m : qm_M) : L_JI_numberOfLeadingZeros_48 v0 v1 m = some (some (.int (lz48 v0 v1)), m) := by
  unfold L_JI_numberOfLeadingZeros_48 X_JI_numberOfLeadingZeros_48
  rw [lz_e61, lz_e61]
  exact it_e _ _ m
theorem lz_e33 (v0 v1 : Int32) (m : qm_M) : L_JI_numberOfLeadingZeros_33 v0 v1 m = some (some (.int (lz33 v0 v1)), m) := by
  unfold L_JI_numberOfLeadingZeros_33 X_JI_numberOfLeadingZeros_33
  rw [lz_e48, lz_e48]
  exact it_e _ _ m
theorem lz_e (v0 : Int32) (m : qm_M) : F_JI_numberOfLeadingZeros v0 m = some (some (.int (lzV v0)), m) := by
  unfold F_JI_numberOfLeadingZeros X_JI_numberOfLeadingZeros_e
  rw [lz_e33, lz_e33, it_e, it_e]
  exact it_e _ _ m
def tz62 (v0 v1 : Int32) : Int32 := if (4 : Int32) < v0 then (v1 + (2 : Int32)) + (qo_iushr (qo_iushr v0 (2 : Int32)) (1 : Int32)) else v1 + (qo_iushr v0 (1 : Int32))
def tz49 (v0 v1 : Int32) : Int32 := if (16 : Int32) < v0 then tz62 (qo_iushr v0 (4 : Int32)) (v1 + (4 : Int32)) else tz62 v0 v1
def tz34 (v0 v1 : Int32) : Int32 := if (256 : Int32) < v0 then tz49 (qo_iushr v0 (8 : Int32)) (v1 + (8 : Int32)) else tz49 v0 v1
def tzW (x1 : Int32) : Int32 := if 0 < x1 then (if (65536 : Int32) < x1 then tz34 (qo_iushr x1 (16 : Int32)) ((1 : Int32) + (16 : Int32)) else tz34 x1 1) else x1 &&& (32 : Int32)
def tzV (v0 : Int32) : Int32 := tzW ((v0 ^^^ (-1 : Int32)) &&& (v0 - (1 : Int32)))
theorem tz_e62 (v0 v1 : Int32) (m : qm_M) : L_JI_numberOfTrailingZeros_62 v0 v1 m = some (some (.int (tz62 v0 v1)), m) := it_e _ _ m
theorem tz_e49 (v0 v1 : Int32) (m : qm_M) : L_JI_numberOfTrailingZeros_49 v0 v1 m = some (some (.int (tz49 v0 v1)), m) := by
  unfold L_JI_numberOfTrailingZeros_49 X_JI_numberOfTrailingZeros_49
  rw [tz_e62, tz_e62]
  exact it_e _ _ m
theorem tz_e34 (v0 v1 : Int32) (m : qm_M) : L_JI_numberOfTrailingZeros_34 v0 v1 m = some (some (.int (tz34 v0 v1)), m) := by
  unfold L_JI_numberOfTrailingZeros_34 X_JI_numberOfTrailingZeros_34
  rw [tz_e49, tz_e49]
  exact it_e _ _ m
theorem tz_e (v0 : Int32) (m : qm_M) : F_JI_numberOfTrailingZeros v0 m = some (some (.int (tzV v0)), m) := by
  unfold F_JI_numberOfTrailingZeros X_JI_numberOfTrailingZeros_e
  dsimp only
  rw [tz_e34, tz_e34, it_e]
  exact it_e _ _ m
/-- from the greatest to the least -/
def sprd (S : Nat) : Int32 := nI (Nat.log2 S) - tzV (nI S)
theorem may_chk : (List.range 4096).all (fun S => (S == 0) || (decide ((31 : Int32) - lzV (nI S) = nI (Nat.log2 S) ∧ 1 ≤ pc 12 S) && (decide (sprd S = nI (pc 12 S) - 1) == sRun S) && (!(pc 12 S == 2) || decide (sprd S = nI (sGap S) ∧ sGap S < 4096)))) = true := by decide +kernel
theorem may_c {S : Nat} (h0 : 0 < S) (h : S < 4096) : ((31 : Int32) - lzV (nI S) = nI (Nat.log2 S) ∧ 1 ≤ pc 12 S) ∧ ((sprd S = nI (pc 12 S) - 1) ↔ sRun S = true) ∧ (pc 12 S = 2 → sprd S = nI (sGap S) ∧ sGap S < 4096) := by
  have c := List.all_eq_true.mp may_chk S (List.mem_range.mpr h)
  rw [Bool.or_eq_true, Bool.and_eq_true, Bool.and_eq_true] at c
  rcases c with c | ⟨⟨c1, c2⟩, c3⟩
  · have : S = 0 := by simpa using c
    omega
  · rw [beq_iff_eq] at c2
    refine ⟨of_decide_eq_true c1, by rw [← c2, decide_eq_true_iff], fun q => ?_⟩
    rw [q] at c3
    exact of_decide_eq_true c3
theorem nu_top {S : Nat} (h0 : 0 < S) (h : S < 4096) (m : qm_M) : F_B_top (nI S) m = some (some (.int (nI (Nat.log2 S))), m) := by
  unfold F_B_top X_B_top_e
  rw [lz_e, qe_rI_e, (may_c h0 h).1.1]
/-- the law's board holds what the state holds -/
def bd (m : qm_M) (s : sT) : Prop := (m.1 113 0 = nI (bR s.1) ∧ m.1 113 1 = nI (bC s.1)) ∧ (∀ j, j < 2 → m.1 114 j = nI (bK s.1 j) ∧ m.1 115 j = nI (bL s.1 j)) ∧ ∀ r c, r < 6 → c < 6 → m.1 (117 + r) c = if (nb (s.1 6)).getLsbD (6 * r + c) = true then 1 else 0
theorem bd.ou {m m1 : qm_M} {s : sT} (h : bd m s) (g : ou 48 59 m m1) : bd m1 s := ⟨⟨by rw [(g 113 (by omega)).1]; exact h.1.1, by rw [(g 113 (by omega)).1]; exact h.1.2⟩, fun j hj => ⟨by rw [(g 114 (by omega)).1]; exact (h.2.1 j hj).1, by rw [(g 115 (by omega)).1]; exact (h.2.1 j hj).2⟩, fun r c hr hc => by rw [(g (117 + r) (by omega)).1]; exact h.2.2 r c hr hc⟩
theorem nu_may {m : qm_M} {s : sT} (hb : bd m s) (g : px_ok s.1) {j S : Nat} (hj : j < 2) (h0 : 0 < S) (hS : S < 4096) : F_B_may (nI j) (nI S) m = some (some (.int (if al (bK s.1 j) (bL s.1 j) S = true then 1 else 0)), m) := by
  obtain ⟨hp, -, -⟩ := g.prl
  obtain ⟨-, -, hk, hl1, hl2⟩ := hp j hj
  obtain ⟨e1, e2⟩ := hb.2.1 j hj
  obtain ⟨⟨c1, c2⟩, c3, c4⟩ := may_c h0 hS
  have hpc := pc_le 12 S
  generalize bK s.1 j = κ at *
  generalize bL s.1 j = l at *
  have q0 : qm_in (nI j) 2 = true := qm_in_nI hj (by omega)
  have t0 : (nI κ).toInt = 0 ↔ κ = 0 := nI_tI (k := 0) (by omega)
  have t1 : (nI κ).toInt = 1 ↔ κ = 1 := nI_tI (k := 1) (by omega)
  have t2 : (nI κ).toInt = 2 ↔ κ = 2 := nI_tI (k := 2) (by omega)
  unfold F_B_may X_B_may_e al
  rw [nu_bitCountI hS, qe_rI_e, nu_top h0 hS, qe_rI_e, tz_e, qe_rI_e, q0, qe_b_e, nI_clamp (by omega), e1, e2]
  have es : nI (Nat.log2 S) - tzV (nI S) = sprd S := rfl
  rw [es]
  by_cases k0 : κ = 0
  · rw [if_pos (t0.mpr k0), if_pos k0, qe_b_e]
    by_cases q2 : l < pc 12 S
    · rw [if_pos (nI_lt q2 (by omega)), if_neg (by rw [decide_eq_true_iff]; omega)]
    · rw [if_neg (nI_nlt (by omega) (by omega)), if_pos (by rw [decide_eq_true_iff]; omega)]
  · rw [if_neg (fun z => k0 (t0.mp z)), if_neg k0]
    by_cases k1 : κ = 1
    · rw [if_pos (t1.mpr k1), if_pos k1, qe_b_e]
      by_cases q1 : pc 12 S = l
      · rw [if_pos (by rw [q1]), if_pos (decide_eq_true q1)]
      · rw [if_neg (fun z => q1 ((nI_eq (by omega) (by omega)).mp z)), if_neg (by rw [decide_eq_true_iff]; exact q1)]
    · rw [if_neg (fun z => k1 (t1.mp z)), if_neg k1]
      by_cases k2 : κ = 2
      · rw [if_pos (t2.mpr k2), if_pos k2, qe_b_e]
        by_cases q2 : l < pc 12 S
        · rw [if_pos (nI_lt q2 (by omega)), if_neg (by rw [Bool.and_eq_true, decide_eq_true_iff]; omega)]
        · rw [if_neg (nI_nlt (by omega) (by omega))]
          by_cases q3 : sRun S = true
          · rw [if_pos (c3.mpr q3), if_pos (by rw [Bool.and_eq_true, decide_eq_true_iff]; exact ⟨by omega, q3⟩)]
          · rw [if_neg (fun z => q3 (c3.mp z)), if_neg (by rw [Bool.and_eq_true]; exact fun z => q3 z.2)]
      · rw [if_neg (fun z => k2 (t2.mp z)), if_neg k2]
        by_cases p1 : pc 12 S = 1
        · rw [if_pos (by rw [p1]; rfl), if_pos (by rw [Bool.or_eq_true, decide_eq_true_iff]; exact Or.inl p1)]
        · have n1 : ¬ nI (pc 12 S) = 1 := fun z => p1 ((nI_eq (b := 1) (by omega) (by omega)).mp z)
          rw [if_neg n1]
          by_cases p2 : pc 12 S = 2
          · obtain ⟨d1, d2⟩ := c4 p2
            rw [if_pos (by rw [p2]; rfl), qe_b_e, d1]
            by_cases q3 : l < sGap S
            · rw [if_pos (nI_lt q3 (by omega)), if_neg (by rw [Bool.or_eq_true, Bool.and_eq_true, decide_eq_true_iff, decide_eq_true_iff, decide_eq_true_iff]; omega)]
            · rw [if_neg (nI_nlt (by omega) (by omega)), if_pos (by rw [Bool.or_eq_true, Bool.and_eq_true, decide_eq_true_iff, decide_eq_true_iff, decide_eq_true_iff]; omega)]
          · have n2 : ¬ nI (pc 12 S) = 2 := fun z => p2 ((nI_eq (b := 2) (by omega) (by omega)).mp z)
            rw [if_neg n2, if_neg (by rw [Bool.or_eq_true, Bool.and_eq_true, decide_eq_true_iff, decide_eq_true_iff, decide_eq_true_iff]; omega)]
/-! its cells -/
theorem bb_chk : (List.range 6).all (fun r => decide (qm_rf 116 r = 117 + r ∧ (qm_isA (117 + r) 2 || qm_isL (117 + r) 3) = true ∧ qm_n (117 + r) = 6 ∧ Nat.ble (qm_gk (117 + r)).1 6 = true ∧ qm_isL (117 + r) 2 = false ∧ qm_isL (117 + r) 3 = true ∧ qm_nl (117 + r) = 6 ∧ Nat.ble 1000000 (117 + r) = false)) = true := by decide +kernel
theorem bb_f {r : Nat} (hr : r < 6) : qm_rf 116 r = 117 + r ∧ (qm_isA (117 + r) 2 || qm_isL (117 + r) 3) = true ∧ qm_n (117 + r) = 6 ∧ Nat.ble (qm_gk (117 + r)).1 6 = true ∧ qm_isL (117 + r) 2 = false ∧ qm_isL (117 + r) 3 = true ∧ qm_nl (117 + r) = 6 ∧ Nat.ble 1000000 (117 + r) = false := of_decide_eq_true (List.all_eq_true.mp bb_chk r (List.mem_range.mpr hr))
theorem bb_g {r : Nat} (hr : r < 6) (m : qm_M) (c : Nat) : qm_gI m (117 + r) c = m.1 (117 + r) c := by
  unfold qm_gI
  rw [(bb_f hr).2.2.2.2.2.2.2]
  rfl
theorem nu_can {m : qm_M} {s : sT} (hb : bd m s) (g : px_ok s.1) {S U : Nat} (h0 : 0 < S) (hS : S < 64) (h1 : 0 < U) (hU : U < 64) : F_B_can (nI S) (nI U) m = some (some (.int (if al (bK s.1 0) (bL s.1 0) S = true ∧ al (bK s.1 1) (bL s.1 1) U = true ∧ (nb (s.1 6)).getLsbD (6 * Nat.log2 S + Nat.log2 U) = true then 1 else 0)), m) := by
  have l1 : Nat.log2 S < 6 := (Nat.log2_lt (by omega)).mpr hS
  have l2 : Nat.log2 U < 6 := (Nat.log2_lt (by omega)).mpr hU
  obtain ⟨f1, f2, f3, -⟩ := bb_f l1
  have m0 : F_B_may 0 (nI S) m = some (some (.int (if al (bK s.1 0) (bL s.1 0) S = true then 1 else 0)), m) := nu_may hb g (j := 0) (by omega) h0 (show S < 4096 by omega)
  have m1 : F_B_may 1 (nI U) m = some (some (.int (if al (bK s.1 1) (bL s.1 1) U = true then 1 else 0)), m) := nu_may hb g (j := 1) (by omega) h1 (show U < 4096 by omega)
  unfold F_B_can X_B_can_e
  rw [m0, qe_rI_e]
  by_cases q1 : al (bK s.1 0) (bL s.1 0) S = true
  · rw [if_pos q1, if_neg n10, m1, qe_rI_e]
    by_cases q2 : al (bK s.1 1) (bL s.1 1) U = true
    · rw [if_pos q2, if_neg n10, nu_top h0 (by omega), qe_rI_e, qm_in_nI l1 (by omega), qe_b_e, nu_top h1 (by omega), qe_rI_e, nI_clamp (by omega), f1, f2, qe_b_e, f3, qm_in_nI l2 (by omega), qe_b_e, nI_clamp (by omega), bb_g l1, hb.2.2 _ _ l1 l2]
      by_cases q3 : (nb (s.1 6)).getLsbD (6 * Nat.log2 S + Nat.log2 U) = true
      · rw [if_pos q3, if_neg n10, if_pos ⟨q1, q2, q3⟩]
      · rw [if_neg q3, if_pos rfl, if_neg (fun z => q3 z.2.2)]
    · rw [if_neg q2, if_pos rfl, if_neg (fun z => q2 z.2.1)]
  · rw [if_neg q1, if_pos rfl, if_neg (fun z => q1 z.1)]
