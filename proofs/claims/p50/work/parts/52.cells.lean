/-! calls on both sides: cells turned, grids made, entries told -/
theorem nI_6 (i j : Nat) : (6 : Int32) * nI i + nI j = nI (6 * i + j) := by
  have e : (6 : Int32) * nI i = nI (6 * i) := pk_mul 6 i
  rw [e, nI_add]
theorem nI_4 (i j : Nat) : (4 : Int32) * nI i + nI j = nI (4 * i + j) := by
  have e : (4 : Int32) * nI i = nI (4 * i) := pk_mul 4 i
  rw [e, nI_add]
/-- in range or not, both ways of asking -/
theorem nu_hasCell {m : qm_M} {s : sT} (h : cs m s) {r c : Nat} (e0 : s.1 0 = lN r) (e1 : s.1 1 = lN c) (hr : 0 < r ∧ r ≤ 6) (hc : 0 < c ∧ c ≤ 6) (v w : Int32) : (∃ i j, i < r ∧ j < c ∧ v = nI i ∧ w = nI j ∧ F_Ps_hasCell 1 v w m = some (some (.int 1), m)) ∨ (F_Ps_hasCell 1 v w m = some (some (.int 0), m) ∧ ((v < nI 0 ∨ nI (r - 1) < v) ∨ (w < nI 0 ∨ nI (c - 1) < w) ∧ ∃ i, i < r ∧ v = nI i)) := by
  have f0 := cs_i h (k := 0) (by omega) e0
  have f1 := cs_i h (k := 1) (by omega) e1
  have e : qm_isO 1 5 = true := (po_f po_1).1.1
  unfold F_Ps_hasCell X_Ps_hasCell_e
  rw [e, f0, f1]
  dsimp only [qe_b, cond_true]
  rcases nw_lt v (N := r) (by omega) (by omega) with ⟨i, hi, rfl⟩ | ⟨h1, h2⟩
  · rw [if_neg (nI_pos (by omega)), if_pos (nI_lt hi (by omega))]
    rcases nw_lt w (N := c) (by omega) (by omega) with ⟨j, hj, rfl⟩ | ⟨k1, k2⟩
    · rw [if_neg (nI_pos (by omega)), if_pos (nI_lt hj (by omega))]
      exact Or.inl ⟨i, j, hi, hj, rfl, rfl, rfl⟩
    · refine Or.inr ⟨?_, Or.inr ⟨k2, i, hi, rfl⟩⟩
      by_cases q : w < 0
      · rw [if_pos q]
      · rw [if_neg q, if_neg (k1.resolve_left q)]
  · refine Or.inr ⟨?_, Or.inl h2⟩
    by_cases q : v < 0
    · rw [if_pos q]
    · rw [if_neg q, if_neg (h1.resolve_left q)]
theorem nI_m1L {r : Nat} (h : 0 < r) (hr : r < 2 ^ 31) : (nI r - 1).toInt64 = lN (r - 1) := by
  have e : nI r - 1 = nI (r - 1) := pk_sub (a := r) (b := 1) (by omega)
  rw [e, nI_l (by omega)]
/-- heads that differ at one cell of the board -/
theorem px_ok.turn {P : sP} (h : px_ok P) {x : Int64} (hx : ∀ i, (nb x).getLsbD i = true → i < 36 ∧ ∃ r c, P 0 = lN r ∧ P 1 = lN c ∧ i / 6 < r ∧ i % 6 < c ∧ r ≤ 6 ∧ c ≤ 6) : px_ok (sS P 6 (P 6 ^^^ x)) := by
  obtain ⟨r, c, k1, k2, l1, l2, g1, g2, h1, h2, h3⟩ := h
  refine ⟨r, c, k1, k2, l1, l2, g1, g2, h1, h2, fun i hi => ?_⟩
  have e : sS P 6 (P 6 ^^^ x) 6 = P 6 ^^^ x := if_pos rfl
  rw [e, no_xor, BitVec.getLsbD_xor] at hi
  by_cases q : (nb (P 6)).getLsbD i = true
  · exact h3 i q
  · have q2 : (nb x).getLsbD i = true := by
      cases hb : (nb x).getLsbD i with
      | true => rfl
      | false =>
        have q3 : (nb (P 6)).getLsbD i = false := by simpa using q
        rw [hb, q3] at hi
        cases hi
    obtain ⟨-, r2, c2, z1, z2, z3, z4, z5, z6⟩ := hx i q2
    have er : r2 = r := (pk_lEQ (by omega) (by omega)).mp (z1.symm.trans h2.1)
    have ec : c2 = c := (pk_lEQ (by omega) (by omega)).mp (z2.symm.trans h2.2.1)
    rw [← er, ← ec]
    exact ⟨z3, z4⟩
/-! grids -/
def sG (P : sP) (r c : Nat) : sP := fun k => if k = 15 then lN r else if k = 16 then lN c else if 17 ≤ k then 0 else P k
theorem px_ok.grid {P : sP} (h : px_ok P) {r c : Nat} (hr : 1 ≤ r ∧ r ≤ 4) (hc : 1 ≤ c ∧ c ≤ 4) : px_ok (sG P r c) := by
  obtain ⟨r0, c0, k1, k2, l1, l2, g1, g2, h1, h2, h3⟩ := h
  exact ⟨r0, c0, k1, k2, l1, l2, r, c, by omega, ⟨h2.1, h2.2.1, h2.2.2.1, h2.2.2.2.1, h2.2.2.2.2.1, h2.2.2.2.2.2.1, rfl, rfl⟩, h3⟩
theorem nw_14 (v : Int32) : (∃ j, 1 ≤ j ∧ j ≤ 4 ∧ v = nI j) ∨ ((v < 1 ∨ 4 < v) ∧ (v < nI 1 ∨ nI 4 < v)) := by
  by_cases h1 : v < 1
  · exact Or.inr ⟨Or.inl h1, Or.inl h1⟩
  · by_cases h2 : 4 < v
    · exact Or.inr ⟨Or.inr h2, Or.inr h2⟩
    · have h0 : ¬ v < 0 := fun z => h1 (Int32.lt_trans z (by decide))
      obtain ⟨j, hj, rfl⟩ := nw_ex v h0
      refine Or.inl ⟨j, ?_, ?_, rfl⟩
      · by_cases q : 1 ≤ j
        · exact q
        · exact absurd (nI_lt (a := j) (b := 1) (by omega) (by omega)) h1
      · by_cases q : j ≤ 4
        · exact q
        · exact absurd (nI_lt (a := 4) (b := j) (by omega) (by omega)) h2
