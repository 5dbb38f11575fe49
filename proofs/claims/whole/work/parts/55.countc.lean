/-! count -/
theorem sRow_lt (x : nb_F) (r : Nat) : sRow x r < 64 := Nat.mod_lt _ (by decide)
theorem sRow_hi (x : nb_F) (r : Nat) {i : Nat} (hi : 6 ≤ i) : (sRow x r).testBit i = false := Nat.testBit_lt_two_pow (Nat.lt_of_lt_of_le (sRow_lt x r) (Nat.pow_le_pow_right (n := 2) (by decide) hi))
theorem sRow_any (x : nb_F) (r : Nat) : (List.range 6).any (fun c => (sRow x r).testBit c) = !decide (sRow x r = 0) := by
  by_cases h : sRow x r = 0
  · rw [h]; simp
  · have e : decide (sRow x r = 0) = false := decide_eq_false h
    rw [e]
    obtain ⟨i, hi⟩ := Nat.exists_testBit_of_ne_zero h
    have h6 : i < 6 := by
      by_cases q : i < 6
      · exact q
      · rw [sRow_hi x r (by omega)] at hi; cases hi
    exact List.any_eq_true.mpr ⟨i, List.mem_range.mpr h6, hi⟩
theorem sRows_bit (x : nb_F) : ∀ r i, (sRows x r).testBit i = (decide (i < r) && !decide (sRow x i = 0))
  | 0, i => by show Nat.testBit 0 i = _; simp
  | r + 1, i => by
    have ih := sRows_bit x r i
    show (if sRow x r = 0 then sRows x r else sRows x r + 2 ^ r).testBit i = _
    by_cases h : sRow x r = 0
    · rw [if_pos h, ih]
      by_cases q : i = r
      · subst q; simp [h]
      · have : decide (i < r + 1) = decide (i < r) := by rw [decide_eq_decide]; omega
        rw [this]
    · rw [if_neg h, ← nb_orp (sRows_lt x r), Nat.testBit_or, ih, Nat.testBit_two_pow]
      by_cases q : i = r
      · subst q; simp [h]
      · have q2 : ¬ r = i := fun z => q z.symm
        have : decide (i < r + 1) = decide (i < r) := by rw [decide_eq_decide]; omega
        rw [this]
        simp [q2]
theorem sAll_rows (x : nb_F) : ∀ r i, (sAll true x r).testBit i = (sRows x r).testBit i
  | 0, i => rfl
  | r + 1, i => by
    show (sAdd true x r 6 (sAll true x r)).testBit i = _
    rw [sAdd_bit true x r _ 6 (by omega), sAll_rows x r i, sRows_bit, sRows_bit, sRow_any]
    simp only [if_true]
    by_cases q : i = r
    · subst q; simp
    · have : decide (i < r + 1) = decide (i < r) := by rw [decide_eq_decide]; omega
      rw [this]
      simp [q]
theorem sAll_cols (x : nb_F) : ∀ r i, (sAll false x r).testBit i = (sCols x r).testBit i
  | 0, i => rfl
  | r + 1, i => by
    show (sAdd false x r 6 (sAll false x r)).testBit i = (sCols x r ||| sRow x r).testBit i
    rw [sAdd_bit false x r _ 6 (by omega), sAll_cols x r i, Nat.testBit_or]
    simp only [Bool.false_eq_true, if_false]
    by_cases q : i < 6
    · simp [q]
    · rw [sRow_hi x r (by omega)]; simp
theorem mt_sides {m : qm_M} {P : sP} (h : ms_now m P) : F_M_sidesWithHeads 1 m = some (some (.int (nI (sRows (nb (P 6)) 6))), m) ∧ F_M_sidesWithHeads 0 m = some (some (.int (nI (sCols (nb (P 6)) 6))), m) := by
  have e1 : sAll true (nb (P 6)) 6 = sRows (nb (P 6)) 6 := Nat.eq_of_testBit_eq (sAll_rows _ 6)
  have e2 : sAll false (nb (P 6)) 6 = sCols (nb (P 6)) 6 := Nat.eq_of_testBit_eq (sAll_cols _ 6)
  constructor
  · unfold F_M_sidesWithHeads X_M_sidesWithHeads_e
    have := mt_sides4 h true (w := 1) (by decide) 6 1000000 0 rfl (by omega) (by omega)
    rw [e1] at this
    exact this
  · unfold F_M_sidesWithHeads X_M_sidesWithHeads_e
    have := mt_sides4 h false (w := 0) (by decide) 6 1000000 0 rfl (by omega) (by omega)
    rw [e2] at this
    exact this
/-- shelves that are kept, as bits -/
def sKs (f : Nat → Bool) : Int32 := (if f 0 then 1 else 0) ||| (if f 1 then 2 else 0)
theorem mt_keptSet {m : qm_M} {s : sT} (h : ms m s) : F_M_keptSet m = some (some (.int (sKs s.2.2.1.1)), m) := by
  have k0 := (h.2.2.2.1 0 (by omega)).1
  have k1 := (h.2.2.2.1 1 (by omega)).1
  unfold F_M_keptSet X_M_keptSet_e
  have step : ∀ (f z : Nat) (v : Int32), z < 2 → L_M_keptSet_4 (f + 1) v (nI z) m = L_M_keptSet_4 f (v ||| (if s.2.2.1.1 z then qo_ishl 1 (nI z) else 0)) (nI (z + 1)) m := fun f z v hz => by
    show X_M_keptSet_4 _ _ _ _ = _
    unfold X_M_keptSet_4
    have e1 : nI z < (2 : Int32) := nI_lt (a := z) (b := 2) hz (by omega)
    have k := (h.2.2.2.1 z hz).1
    rw [if_pos e1, qm_in_nI hz (by omega), nI_clamp (by omega), qe_b_e, k, nI_1]
    cases hb : s.2.2.1.1 z with
    | false => rw [if_neg (show ¬ false = true by decide), if_pos rfl, if_neg (show ¬ false = true by decide)]
    | true => rw [if_pos rfl, if_neg n10, if_pos rfl]
  have e0 : L_M_keptSet_4 1000000 0 0 m = L_M_keptSet_4 (999999 + 1) 0 (nI 0) m := rfl
  rw [e0, step 999999 0 0 (by omega)]
  have e2 : ∀ v w, L_M_keptSet_4 999999 v w m = L_M_keptSet_4 (999998 + 1) v w m := fun _ _ => rfl
  rw [e2, step 999998 1 _ (by omega)]
  have e3 : ∀ v w, L_M_keptSet_4 999998 v w m = X_M_keptSet_4 (L_M_keptSet_4 999997) v w m := fun _ _ => rfl
  rw [e3]
  unfold X_M_keptSet_4
  rw [if_neg (by decide)]
  unfold sKs
  cases s.2.2.1.1 0 <;> cases s.2.2.1.1 1 <;> rfl
theorem w_count (v : Int32) {mc mm : qm_M} {s : sT} (hc : cs mc s) (hm : ms mm s) (g : gd s) : ∃ r, F_T_count v mc = some (some (.int r), mc) ∧ F_M_count v mm = some (some (.int r), mm) := by
  obtain ⟨r, c, k1, k2, l1, l2, g1, g2, h1, h2, h3⟩ := id g.1
  obtain ⟨x, hx, c2, c3, c4⟩ := hc.2.1
  obtain ⟨u1, u2⟩ := hm.2.2.1
  obtain ⟨t1, t2⟩ := hc.2.2.2
  obtain ⟨y1, y2⟩ := hm.2.2.2.2
  have hd := g.2.1
  unfold F_T_count X_T_count_e F_M_count X_M_count_e
  by_cases hv : v < 0 ∨ ¬ v < nI 12
  · have ne : ∀ k : Nat, k < 12 → ¬ v.toInt = (k : Int) := fun k hk z => by
      have e : v = nI k := by
        apply Int32.toInt_inj.mp
        rw [nI_toInt (by omega)]
        exact z
      rw [e] at hv
      rcases hv with q | q
      · exact nI_pos (by omega) q
      · exact q (nI_lt (by omega) (by omega))
    have n0 : ¬ v.toInt = 0 := ne 0 (by omega)
    have n1 : ¬ v.toInt = 1 := ne 1 (by omega)
    have n2 : ¬ v.toInt = 2 := ne 2 (by omega)
    have n3 : ¬ v.toInt = 3 := ne 3 (by omega)
    have n4 : ¬ v.toInt = 4 := ne 4 (by omega)
    have n5 : ¬ v.toInt = 5 := ne 5 (by omega)
    have n6 : ¬ v.toInt = 6 := ne 6 (by omega)
    have n7 : ¬ v.toInt = 7 := ne 7 (by omega)
    have n8 : ¬ v.toInt = 8 := ne 8 (by omega)
    have n9 : ¬ v.toInt = 9 := ne 9 (by omega)
    have n10' : ¬ v.toInt = 10 := ne 10 (by omega)
    have n11 : ¬ v.toInt = 11 := ne 11 (by omega)
    refine ⟨-1, ?_, ?_⟩
    · rw [if_neg n0, if_neg n1, if_neg n2, if_neg n3, if_neg n4, if_neg n5, if_neg n6, if_neg n7, if_neg n8, if_neg n9, if_neg n10', if_neg n11]
    · rw [if_neg n0, if_neg n1, if_neg n2, if_neg n3, if_neg n4, if_neg n5, if_neg n6, if_neg n7, if_neg n8, if_neg n9, if_neg n10', if_neg n11]
  · obtain ⟨j, hj, rfl⟩ : ∃ j, j < 12 ∧ v = nI j := by
      rcases nw_lt v (N := 12) (by omega) (by omega) with q | q
      · exact q
      · exact absurd q.1 hv
    have ej : (nI j).toInt = (j : Int) := nI_toInt (by omega)
    rw [ej]
    have hm1 : ∀ k, k < 33 → mm.2 113 k = s.1 k := hm.2.1
    have e40 : L_T_count_153 0 mc = some (some (.int (0 ||| (if s.2.2.1.1 1 then 2 else 0))), mc) := by
      unfold L_T_count_153 X_T_count_153
      have k := (hc.2.2.1 1 (by omega)).1
      rw [show 37 + 3 * 1 = 40 from rfl] at k
      rw [k]
      cases s.2.2.1.1 1 <;> rfl
    have e41 : L_T_count_153 1 mc = some (some (.int (1 ||| (if s.2.2.1.1 1 then 2 else 0))), mc) := by
      unfold L_T_count_153 X_T_count_153
      have k := (hc.2.2.1 1 (by omega)).1
      rw [show 37 + 3 * 1 = 40 from rfl] at k
      rw [k]
      cases s.2.2.1.1 1 <;> rfl
    have cR : F_Ps_rowsWithHeads 1 mc = some (some (.int (nI (sRows (nb (s.1 6)) r))), mc) := by
      unfold F_Ps_rowsWithHeads X_Ps_rowsWithHeads_e
      exact nu_rows_loop hc (by omega) h2.1 r 1000000 0 rfl (Nat.zero_le _) (by omega)
    have cC : F_Ps_columnsWithHeads 1 mc = some (some (.int (nI (sCols (nb (s.1 6)) r))), mc) := by
      unfold F_Ps_columnsWithHeads X_Ps_columnsWithHeads_e
      exact nu_cols_loop hc (by omega) h2.1 r 1000000 0 rfl (Nat.zero_le _) (by omega)
    have uR := sRows_up h3 (6 - r)
    have uC := sCols_up h3 (6 - r)
    rw [show r + (6 - r) = 6 by omega] at uR uC
    have q70 : ∀ i n, 2 ≤ i → i < 4 → s.1 i = lN n → L_M_count_70 (nI i) mm = some (some (.int (nI n)), mm) := fun i n h1 h2 e => by
      unfold L_M_count_70 X_M_count_70
      have e1 : (2 : Int32) + nI i - 2 = nI i := by
        have z1 : (2 : Int32) + nI i = nI (2 + i) := nI_add 2 i
        have z2 : nI (2 + i) - 2 = nI (2 + i - 2) := pk_sub (a := 2 + i) (b := 2) (by omega)
        rw [z1, z2, Nat.add_sub_cancel_left]
      rw [e1, qm_in_nI (by omega) (by omega), nI_clamp (by omega), qe_b_e, hm1 i (by omega), e, lN_i]
    have q82 : ∀ i n, 4 ≤ i → i < 6 → s.1 i = lN n → L_M_count_82 (nI i) mm = some (some (.int (nI n)), mm) := fun i n h1 h2 e => by
      unfold L_M_count_82 X_M_count_82
      have e1 : (4 : Int32) + nI i - 4 = nI i := by
        have z1 : (4 : Int32) + nI i = nI (4 + i) := nI_add 4 i
        have z2 : nI (4 + i) - 4 = nI (4 + i - 4) := pk_sub (a := 4 + i) (b := 4) (by omega)
        rw [z1, z2, Nat.add_sub_cancel_left]
      rw [e1, qm_in_nI (by omega) (by omega), nI_clamp (by omega), qe_b_e, hm1 i (by omega), e, lN_i]
    rcases (by omega : j = 0 ∨ j = 1 ∨ j = 2 ∨ j = 3 ∨ j = 4 ∨ j = 5 ∨ j = 6 ∨ j = 7 ∨ j = 8 ∨ j = 9 ∨ j = 10 ∨ j = 11) with rfl | rfl | rfl | rfl | rfl | rfl | rfl | rfl | rfl | rfl | rfl | rfl
    · refine ⟨nI r, ?_, ?_⟩
      · rw [if_pos (by decide), cs_i hc (k := 0) (by omega) h2.1]
      · rw [if_pos (by decide), mt_manyOf hm.2.1 (k := 0) (by omega) h2.1]; rfl
    · refine ⟨nI c, ?_, ?_⟩
      · rw [if_neg (by decide), if_pos (by decide), cs_i hc (k := 1) (by omega) h2.2.1]
      · rw [if_neg (by decide), if_pos (by decide), mt_manyOf hm.2.1 (k := 1) (by omega) h2.2.1]; rfl
    · refine ⟨nI k1, ?_, ?_⟩
      · rw [if_neg (by decide), if_neg (by decide), if_pos (by decide), cs_i hc (k := 2) (by omega) h2.2.2.1]
      · rw [if_neg (by decide), if_neg (by decide), if_pos (by decide), q70 2 k1 (by omega) (by omega) h2.2.2.1]
    · refine ⟨nI k2, ?_, ?_⟩
      · rw [if_neg (by decide), if_neg (by decide), if_neg (by decide), if_pos (by decide), cs_i hc (k := 3) (by omega) h2.2.2.2.1]
      · rw [if_neg (by decide), if_neg (by decide), if_neg (by decide), if_pos (by decide), q70 3 k2 (by omega) (by omega) h2.2.2.2.1]
    · refine ⟨nI l1, ?_, ?_⟩
      · rw [if_neg (by decide), if_neg (by decide), if_neg (by decide), if_neg (by decide), if_pos (by decide), cs_i hc (k := 4) (by omega) h2.2.2.2.2.1]
      · rw [if_neg (by decide), if_neg (by decide), if_neg (by decide), if_neg (by decide), if_pos (by decide), q82 4 l1 (by omega) (by omega) h2.2.2.2.2.1]
    · refine ⟨nI l2, ?_, ?_⟩
      · rw [if_neg (by decide), if_neg (by decide), if_neg (by decide), if_neg (by decide), if_neg (by decide), if_pos (by decide), cs_i hc (k := 5) (by omega) h2.2.2.2.2.2.1]
      · rw [if_neg (by decide), if_neg (by decide), if_neg (by decide), if_neg (by decide), if_neg (by decide), if_pos (by decide), q82 5 l2 (by omega) (by omega) h2.2.2.2.2.2.1]
    · refine ⟨sH s.1, ?_, ?_⟩
      · rw [if_neg (by decide), if_neg (by decide), if_neg (by decide), if_neg (by decide), if_neg (by decide), if_neg (by decide), if_pos (by decide), nu_headsShown hc]; rfl
      · rw [if_neg (by decide), if_neg (by decide), if_neg (by decide), if_neg (by decide), if_neg (by decide), if_neg (by decide), if_pos (by decide), mt_heads hm.2.1]; rfl
    · refine ⟨nI s.2.1.1, ?_, ?_⟩
      · rw [if_neg (by decide), if_neg (by decide), if_neg (by decide), if_neg (by decide), if_neg (by decide), if_neg (by decide), if_neg (by decide), if_pos (by decide), c3]
      · rw [if_neg (by decide), if_neg (by decide), if_neg (by decide), if_neg (by decide), if_neg (by decide), if_neg (by decide), if_neg (by decide), if_pos (by decide), u1]
    · refine ⟨nI s.2.2.2.1, ?_, ?_⟩
      · rw [if_neg (by decide), if_neg (by decide), if_neg (by decide), if_neg (by decide), if_neg (by decide), if_neg (by decide), if_neg (by decide), if_neg (by decide), if_pos (by decide), t1]
      · rw [if_neg (by decide), if_neg (by decide), if_neg (by decide), if_neg (by decide), if_neg (by decide), if_neg (by decide), if_neg (by decide), if_neg (by decide), if_pos (by decide), y1]
    · refine ⟨sKs s.2.2.1.1, ?_, ?_⟩
      · have k := (hc.2.2.1 0 (by omega)).1
        rw [show 37 + 3 * 0 = 37 from rfl] at k
        rw [if_neg (by decide), if_neg (by decide), if_neg (by decide), if_neg (by decide), if_neg (by decide), if_neg (by decide), if_neg (by decide), if_neg (by decide), if_neg (by decide), if_pos (by decide), k, e40, e41]
        unfold sKs
        cases s.2.2.1.1 0 <;> rfl
      · rw [if_neg (by decide), if_neg (by decide), if_neg (by decide), if_neg (by decide), if_neg (by decide), if_neg (by decide), if_neg (by decide), if_neg (by decide), if_neg (by decide), if_pos (by decide), mt_keptSet hm]; rfl
    · refine ⟨nI (sRows (nb (s.1 6)) 6), ?_, ?_⟩
      · rw [if_neg (by decide), if_neg (by decide), if_neg (by decide), if_neg (by decide), if_neg (by decide), if_neg (by decide), if_neg (by decide), if_neg (by decide), if_neg (by decide), if_neg (by decide), if_pos (by decide), cR, ← uR]; rfl
      · rw [if_neg (by decide), if_neg (by decide), if_neg (by decide), if_neg (by decide), if_neg (by decide), if_neg (by decide), if_neg (by decide), if_neg (by decide), if_neg (by decide), if_neg (by decide), if_pos (by decide), (mt_sides hm.2.1).1]; rfl
    · refine ⟨nI (sCols (nb (s.1 6)) 6), ?_, ?_⟩
      · rw [if_neg (by decide), if_neg (by decide), if_neg (by decide), if_neg (by decide), if_neg (by decide), if_neg (by decide), if_neg (by decide), if_neg (by decide), if_neg (by decide), if_neg (by decide), if_neg (by decide), if_pos (by decide), cC, ← uC]; rfl
      · rw [if_neg (by decide), if_neg (by decide), if_neg (by decide), if_neg (by decide), if_neg (by decide), if_neg (by decide), if_neg (by decide), if_neg (by decide), if_neg (by decide), if_neg (by decide), if_neg (by decide), if_pos (by decide), (mt_sides hm.2.1).2]; rfl
