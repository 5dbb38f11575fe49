/-! THE CALLS OF THE CLASS, each with what it answers and the state behind it -/
/-- what stands between calls -/
def CI (m : qm_M) (s : sT) : Prop := cs m s ∧ cvPl m ∧ gd s
theorem CI.ou {m m1 : qm_M} {s : sT} (h : CI m s) (g : cvPl m1) (o : ou 48 59 m m1) : CI m1 s := ⟨o.cs (by omega) h.1, g, h.2.2⟩
theorem nw_two {j : Nat} (hj : j < 2) : ¬ nI j < 0 ∧ ¬ (1 : Int32) < nI j := ⟨nI_pos (by omega), nI_nlt (a := 1) (b := j) (by omega) (by omega)⟩
theorem tc_sets {m : qm_M} {s : sT} (h : CI m s) {j n : Nat} (hj : j < 2) (hn : n < 12) : ∃ m1, F_T_sets (nI j) (nI n) m = some (some (.int (nI (os (bK s.1 j) (bL s.1 j) n).length)), m1) ∧ cvPl m1 ∧ ou 48 59 m m1 := by
  obtain ⟨hc, hv, g⟩ := h
  unfold F_T_sets X_T_sets_e
  obtain ⟨mc1, a1, a2, a3, a4⟩ := nu_tuneP hc g.1 hv
  obtain ⟨o, o1, o2, o3, o4⟩ := nu_ruleOf hj mc1
  rw [if_neg (nw_two hj).1, if_neg (nw_two hj).2, a1, qe_rV_e, o4, qe_rR_e, (ru_f o1).1.1, qe_b_e, nu_setsOf o1 (a2.tab hj o2 o3) hn, qe_rI_e]
  exact ⟨_, rfl, a3, a4⟩
theorem tc_setsW {m : qm_M} {s : sT} (h : CI m s) {j : Nat} (hj : j < 2) {w : Int32} (hw : w < 0 ∨ ¬ w < 12) : ∃ m1, F_T_sets (nI j) w m = some (some (.int (-1)), m1) ∧ cvPl m1 ∧ ou 48 59 m m1 := by
  obtain ⟨hc, hv, g⟩ := h
  unfold F_T_sets X_T_sets_e
  obtain ⟨mc1, a1, a2, a3, a4⟩ := nu_tuneP hc g.1 hv
  obtain ⟨o, o1, o2, o3, o4⟩ := nu_ruleOf hj mc1
  have eT : F_Ru_setsOf o w mc1 = some (some (.int (-1)), mc1) := by
    unfold F_Ru_setsOf X_Ru_setsOf_e
    by_cases q : w < 0
    · rw [if_pos q]
    · rw [if_neg q, if_neg (hw.resolve_left q)]
  rw [if_neg (nw_two hj).1, if_neg (nw_two hj).2, a1, qe_rV_e, o4, qe_rR_e, (ru_f o1).1.1, qe_b_e, eT, qe_rI_e]
  exact ⟨_, rfl, a3, a4⟩
theorem tc_sets2 (w : Int32) (m : qm_M) : F_T_sets 2 w m = some (some (.int (-1)), m) := by
  unfold F_T_sets X_T_sets_e
  rw [if_neg (by decide), if_pos (by decide)]
theorem tc_total {m : qm_M} {s : sT} (h : CI m s) : ∃ m1, F_T_total m = some (some (.long (Int32.toInt64 (iB (tW s)))), m1) ∧ cvPl m1 ∧ ou 48 59 m m1 := by
  obtain ⟨hc, hv, g⟩ := h
  obtain ⟨mc1, a1, a2, a3, a4⟩ := nu_tuneP hc g.1 hv
  unfold F_T_total X_T_total_e
  rw [a1, qe_rV_e, nu_boardWorth (a4.cs (by omega) hc) g.1 a2.2.2, qe_rI_e]
  exact ⟨_, rfl, a3, a4⟩
/-- the worth of a cell -/
theorem tc_cell0 {m : qm_M} {s : sT} (h : CI m s) {i j : Nat} (hi : i < bR s.1) (hj : j < bC s.1) : ∃ m1, F_T_cell (nI i) (nI j) 0 m = some (some (.int (iB (ef (bK s.1) (bL s.1) (2 ^ i) (2 ^ j)))), m1) ∧ cvPl m1 ∧ ou 48 59 m m1 := by
  obtain ⟨hc, hv, g⟩ := h
  obtain ⟨hp, ⟨r1, r2, r3⟩, ⟨c1, c2, c3⟩⟩ := g.1.prl
  unfold F_T_cell X_T_cell_e
  rcases nu_hasCell hc r1 c1 ⟨by omega, r3⟩ ⟨by omega, c3⟩ (nI i) (nI j) with ⟨i', j', hi', hj', ei, ej, e⟩ | ⟨-, q⟩
  · obtain ⟨mc1, a1, a2, a3, a4⟩ := nu_tuneP hc g.1 hv
    have pi := (p2_6 (show i < 6 by omega)).2.2
    have pj := (p2_6 (show j < 6 by omega)).2.2
    rw [e, qe_rI_e, if_neg n10, if_neg (show ¬ (0 : Int32) < 0 by decide), if_neg (show ¬ (2 : Int32) < 0 by decide), if_neg (show ¬ (0 : Int32) = 2 by decide), a1, qe_rV_e, no_ishl1 (by omega), no_ishl1 (by omega), nu_effectOf pi pj (a2.2.2 _ _ pi pj), qe_rI_e]
    exact ⟨_, rfl, a3, a4⟩
  · exfalso
    rcases q with q | ⟨q, -⟩
    · rcases q with q | q
      · exact nI_pos (by omega) q
      · exact nI_nlt (a := bR s.1 - 1) (b := i) (by omega) (by omega) q
    · rcases q with q | q
      · exact nI_pos (by omega) q
      · exact nI_nlt (a := bC s.1 - 1) (b := j) (by omega) (by omega) q
/-- its side -/
theorem tc_cell2 {m : qm_M} {s : sT} (h : CI m s) {i j : Nat} (hi : i < 6) (hj : j < 6) : F_T_cell (nI i) (nI j) 2 m = some (some (.int (if i < bR s.1 ∧ j < bC s.1 then (if (nb (s.1 6)).getLsbD (6 * i + j) = true then 1 else 0) else -1)), m) := by
  obtain ⟨hc, hv, g⟩ := h
  obtain ⟨hp, ⟨r1, r2, r3⟩, ⟨c1, c2, c3⟩⟩ := g.1.prl
  unfold F_T_cell X_T_cell_e
  rcases nu_hasCell hc r1 c1 ⟨by omega, r3⟩ ⟨by omega, c3⟩ (nI i) (nI j) with ⟨i', j', hi', hj', ei, ej, e⟩ | ⟨e, q⟩
  · have ei : i = i' := (nI_eq (by omega) (by omega)).mp ei
    have ej : j = j' := (nI_eq (by omega) (by omega)).mp ej
    subst ei
    subst ej
    rw [e, qe_rI_e, if_neg n10, if_neg (show ¬ (2 : Int32) < 0 by decide), if_neg (show ¬ (2 : Int32) < 2 by decide), if_pos rfl, nu_showsHeads hc (by omega) (by omega), qe_rI_e, if_pos (show i < bR s.1 ∧ j < bC s.1 from ⟨hi', hj'⟩)]
    by_cases z : (nb (s.1 6)).getLsbD (6 * i + j) = true
    · rw [if_pos z, if_neg n10]
    · rw [if_neg z, if_pos rfl]
  · rw [e, qe_rI_e, if_pos rfl]
    have hn : ¬ (i < bR s.1 ∧ j < bC s.1) := fun ⟨z1, z2⟩ => by
      rcases q with q | ⟨q, -⟩
      · rcases q with q | q
        · exact nI_pos (by omega) q
        · exact nI_nlt (a := bR s.1 - 1) (b := i) (by omega) (by omega) q
      · rcases q with q | q
        · exact nI_pos (by omega) q
        · exact nI_nlt (a := bC s.1 - 1) (b := j) (by omega) (by omega) q
    rw [if_neg hn]
/-! moves -/
theorem wk_k {α : Type} (K : Nat) (hK : K < 2 ^ 31) : ∀ (l : List α) (p : Nat), p ≤ K → p + l.length < 2 ^ 31 → wk (fun p => decide (nI p = nI K)) l p = (match l[K - p]? with
  | some a => .inl a
  | none => .inr (p + l.length))
  | [], p, h, h2 => rfl
  | a :: l, p, h, h2 => by
    rw [wk_c]
    have hl : (a :: l).length = l.length + 1 := rfl
    by_cases q : p = K
    · subst q
      rw [if_pos (by simp), Nat.sub_self]
      rfl
    · have hne : ¬ decide (nI p = nI K) = true := by
        rw [decide_eq_true_iff]
        exact fun z => q ((nI_eq (by omega) hK).mp z)
      rw [if_neg hne, wk_k K hK l (p + 1) (by omega) (by omega), show K - p = (K - (p + 1)) + 1 by omega, List.getElem?_cons_succ, show p + (a :: l).length = p + 1 + l.length by omega]
/-- the moves of which a call speaks: all, or those that win -/
noncomputable def mvs (s : sT) (j : Nat) : List (Nat × Nat) := mvA s (eW s (nI j))
theorem mvs_len {s : sT} (g : px_ok s.1) (j : Nat) : (mvs s j).length ≤ 65536 := mvA_len g
theorem tc_moves {m : qm_M} {s : sT} (h : CI m s) {j : Nat} (hj : j < 2) : ∃ m1, F_T_moves (nI j) m = some (some (.int (nI (mvs s j).length)), m1) ∧ cvPl m1 ∧ ou 48 59 m m1 := by
  obtain ⟨hc, hv, g⟩ := h
  unfold F_T_moves X_T_moves_e
  obtain ⟨mc1, a1, a2, a3, a4⟩ := nu_tuneP hc g.1 hv
  have hc1 := a4.cs (by omega) hc
  rw [if_neg (nw_two hj).1, if_neg (nw_two hj).2, a1, qe_rV_e]
  have fin : ∀ w : Int32, ∃ mc2, L_T_moves_40 w mc1 = some (some (.int (nI (mvA s (eW s w)).length)), mc2) ∧ cvPl mc2 ∧ ou 48 59 m mc2 := fun w => by
    have hl := mvA_len (s := s) (e := eW s w) g.1
    have w1 := wk_all (q := fun p => decide (nI p = (1073741824 : Int32))) (mvA s (eW s w)) 0 (fun i _ hi => by
      rw [decide_eq_true_iff]
      intro z
      have := (nI_eq (b := 1073741824) (by omega) (by omega)).mp z
      omega)
    unfold L_T_moves_40 X_T_moves_40
    rcases nu_find hc1 g.1 a2 w (1073741824 : Int32) with ⟨p, mc2, x1, x2, x3⟩ | ⟨a, x1, -⟩
    · have ep : p = (mvA s (eW s w)).length := by
        rw [w1, Nat.zero_add] at x1
        cases x1
        rfl
      rw [x3, qe_rI_e, x2.2, ep]
      exact ⟨_, rfl, x2.1.cv a3, a4.tr x2.1.ou⟩
    · rw [w1] at x1
      cases x1
  unfold mvs
  by_cases q : nI j = 1
  · rw [if_pos q, q]
    exact fin 1
  · rw [if_neg q]
    have ej : nI j = 0 := by
      have : j = 0 := by
        rcases (by omega : j = 0 ∨ j = 1) with z | z
        · exact z
        · exact absurd (by rw [z]; rfl) q
      rw [this]; rfl
    rw [ej]
    exact fin 0
theorem tc_moves2 (m : qm_M) : F_T_moves 2 m = some (some (.int (-1)), m) := by
  unfold F_T_moves X_T_moves_e
  rw [if_neg (by decide), if_pos (by decide)]
/-- what a call of move tells -/
noncomputable def mvT (s : sT) (a : Nat × Nat) (u : Nat) : Int32 := if u = 1 then nI a.1 else if u = 2 then nI a.2 else iB (tW s ^^^ ef (bK s.1) (bL s.1) a.1 a.2)
theorem tc_find {m0 : qm_M} {s : sT} (hc : cs m0 s) (g : px_ok s.1) (hT : plT m0 (bK s.1) (bL s.1)) (w : Int32) {K : Nat} (hK : K < 2 ^ 30) :
    (∃ m', (mvA s (eW s w))[K]? = none ∧ F_Pl_find w (nI K) m0 = some (some (.int 0), m') ∧ pfr m0 m') ∨ ∃ a m', (mvA s (eW s w))[K]? = some a ∧ F_Pl_find w (nI K) m0 = some (some (.int 1), m') ∧ m'.1 48 4 = nI a.1 ∧ m'.1 48 5 = nI a.2 ∧ pfr m0 m' := by
  have hl := mvA_len (s := s) (e := eW s w) g
  have hw := wk_k K (by omega) (mvA s (eW s w)) 0 (Nat.zero_le _) (by omega)
  rw [Nat.sub_zero] at hw
  rcases nu_find hc g hT w (nI K) with ⟨p, m', x1, x2, x3⟩ | ⟨a, x1, m', x2, x3, x4, x5⟩
  · refine Or.inl ⟨m', ?_, x3, x2.1⟩
    rw [hw] at x1
    cases hz : (mvA s (eW s w))[K]? with
    | none => rfl
    | some b => rw [hz] at x1; cases x1
  · refine Or.inr ⟨a, m', ?_, x2, x3, x4, x5⟩
    rw [hw] at x1
    cases hz : (mvA s (eW s w))[K]? with
    | none => rw [hz] at x1; cases x1
    | some b => rw [hz] at x1; cases x1; rfl
theorem tc_move {m : qm_M} {s : sT} (h : CI m s) {j K u : Nat} (hj : j < 2) (hK : K < 2 ^ 30) (hu : 1 ≤ u ∧ u ≤ 3) : ∃ m1, F_T_move (nI j) (nI K) (nI u) m = some (some (.int (match (mvs s j)[K]? with
    | some a => mvT s a u
    | none => -2)), m1) ∧ cvPl m1 ∧ ou 48 59 m m1 := by
  obtain ⟨hc, hv, g⟩ := h
  unfold F_T_move X_T_move_e
  obtain ⟨mc1, a1, a2, a3, a4⟩ := nu_tuneP hc g.1 hv
  have hc1 := a4.cs (by omega) hc
  have f1 : ¬ nI u < 1 := nI_nlt (b := 1) hu.1 (by omega)
  have f3 : ¬ (3 : Int32) < nI u := nI_nlt (a := 3) hu.2 (by omega)
  rw [if_neg (nw_two hj).1, if_neg (nw_two hj).2, if_neg (nI_pos (by omega)), if_neg f1, if_neg f3, a1, qe_rV_e]
  have fin : ∀ w : Int32, ∃ mc2, L_T_move_54 (nI K) (nI u) w mc1 = some (some (.int (match (mvA s (eW s w))[K]? with
    | some a => mvT s a u
    | none => -2)), mc2) ∧ cvPl mc2 ∧ ou 48 59 m mc2 := fun w => by
    unfold L_T_move_54 X_T_move_54
    rcases tc_find hc1 g.1 a2 w hK with ⟨m', x1, x2, x3⟩ | ⟨a, m', x1, x2, x3, x4, x5⟩
    · rw [x2, qe_rI_e, if_pos rfl, x1]
      exact ⟨_, rfl, x3.cv a3, a4.tr x3.ou⟩
    · obtain ⟨-, -, hR, hC⟩ := mvA_mem g.1 (List.mem_of_getElem? x1)
      rw [x2, qe_rI_e, if_neg n10, x1]
      have hT2 := x5.T a2
      unfold mvT
      by_cases z3 : u = 3
      · have g3 : nI u = 3 := by rw [z3]; rfl
        rw [if_pos g3, nu_boardWorth (x5.cs hc1) g.1 hT2.2.2, qe_rI_e, x3, x4, nu_effectOf hR hC (hT2.2.2 _ _ hR hC), qe_rI_e, iB_x]
        subst z3
        exact ⟨_, rfl, x5.cv a3, a4.tr x5.ou⟩
      · have g3 : ¬ nI u = 3 := fun z => z3 ((nI_eq (b := 3) (by omega) (by omega)).mp z)
        rw [if_neg g3]
        by_cases z1 : u = 1
        · have g1 : nI u = 1 := by rw [z1]; rfl
          rw [if_pos g1, x3]
          subst z1
          exact ⟨_, rfl, x5.cv a3, a4.tr x5.ou⟩
        · have g1 : ¬ nI u = 1 := fun z => z1 ((nI_eq (b := 1) (by omega) (by omega)).mp z)
          rw [if_neg g1, x4]
          have z2 : u = 2 := by omega
          subst z2
          exact ⟨_, rfl, x5.cv a3, a4.tr x5.ou⟩
  unfold mvs
  by_cases q : nI j = 1
  · rw [if_pos q, q]
    exact fin 1
  · rw [if_neg q]
    have ej : nI j = 0 := by
      have : j = 0 := by
        rcases (by omega : j = 0 ∨ j = 1) with z | z
        · exact z
        · exact absurd (by rw [z]; rfl) q
      rw [this]; rfl
    rw [ej]
    exact fin 0
theorem tc_move2 (m : qm_M) : F_T_move 2 0 1 m = some (some (.int (-1)), m) := by
  unfold F_T_move X_T_move_e
  rw [if_neg (by decide), if_pos (by decide)]
theorem tc_move0 (m : qm_M) : F_T_move 0 0 0 m = some (some (.int (-1)), m) := by
  unfold F_T_move X_T_move_e
  rw [if_neg (by decide), if_neg (by decide), if_neg (by decide), if_pos (by decide)]
/-! acts -/
/-- heads turned -/
noncomputable def st_heads (s : sT) (x : nb_F) : sT := st_act s (sS s.1 6 (s.1 6 ^^^ bn x))
theorem tc_turn {m : qm_M} {s : sT} (h : CI m s) {i j : Nat} (hi : i < bR s.1) (hj : j < bC s.1) : ∃ m1, F_T_turn (nI i) (nI j) m = some (some (.int (sH (st_heads s (nb_e (6 * i + j))).1)), m1) ∧ CI m1 (st_heads s (nb_e (6 * i + j))) ∧ hi_fr m m1 := by
  obtain ⟨hc, hv, g⟩ := h
  obtain ⟨hp, ⟨r1, r2, r3⟩, ⟨c1, c2, c3⟩⟩ := g.1.prl
  unfold F_T_turn X_T_turn_e
  have hP : px_ok (sS s.1 6 (s.1 6 ^^^ bn (nb_e (6 * i + j)))) := g.1.turn (fun k hk => by
    have hk64 : k < 64 := by
      rcases Nat.lt_or_ge k 64 with z | z
      · exact z
      · rw [BitVec.getLsbD_of_ge _ _ z] at hk; cases hk
    rw [nb_bn, BitVec.getLsbD_eq_getElem hk64, nb_e_bit _ k hk64] at hk
    have hk := of_decide_eq_true hk
    exact ⟨by omega, bR s.1, bC s.1, r1, c1, by omega, by omega, by omega, by omega⟩)
  rcases nu_hasCell hc r1 c1 ⟨by omega, r3⟩ ⟨by omega, c3⟩ (nI i) (nI j) with ⟨i', j', hi', hj', ei, ej, e⟩ | ⟨-, q⟩
  · obtain ⟨mc1, p1, p2, p3⟩ := nu_push hc g.2.1
    have c6 : mc1.2 1 6 = s.1 6 := cs_h (s := (s.1, st_past s.1 s.2.1, s.2.2)) p2
    have hcs : cs (qm_sL mc1 1 6 (s.1 6 ^^^ bn (nb_e (6 * i + j)))) (st_heads s (nb_e (6 * i + j))) := p2.setH _
    have hh := p3.tr (hi_fr.L mc1 (o := 1) (j := 6) (x := s.1 6 ^^^ bn (nb_e (6 * i + j))) (by omega))
    rw [e, qe_rI_e, if_neg n10, p1, qe_rV_e]
    unfold F_Ps_bitOf X_Ps_bitOf_e
    rw [qe_rL_e, nI_6, no_lshl1 (by omega)]
    dsimp only
    rw [c6, nu_headsShown hcs]
    exact ⟨_, rfl, ⟨hcs, hv.hi (fun a h1 _ => hh.1 a (by omega)), g.act hP⟩, hh⟩
  · exfalso
    rcases q with q | ⟨q, -⟩
    · rcases q with q | q
      · exact nI_pos (by omega) q
      · exact nI_nlt (a := bR s.1 - 1) (b := i) (by omega) (by omega) q
    · rcases q with q | q
      · exact nI_pos (by omega) q
      · exact nI_nlt (a := bC s.1 - 1) (b := j) (by omega) (by omega) q
theorem tc_turn0 {m : qm_M} {s : sT} (h : CI m s) {v w : Int32} (q : (v < 0 ∨ ¬ v < nI (bR s.1)) ∨ (w < 0 ∨ ¬ w < nI (bC s.1))) : F_T_turn v w m = some (some (.int (-1)), m) := by
  obtain ⟨hc, hv, g⟩ := h
  obtain ⟨hp, ⟨r1, r2, r3⟩, ⟨c1, c2, c3⟩⟩ := g.1.prl
  unfold F_T_turn X_T_turn_e
  rcases nu_hasCell hc r1 c1 ⟨by omega, r3⟩ ⟨by omega, c3⟩ v w with ⟨i', j', hi', hj', rfl, rfl, e⟩ | ⟨e, -⟩
  · exfalso
    rcases q with q | q
    · rcases q with q | q
      · exact nI_pos (by omega) q
      · exact q (nI_lt hi' (by omega))
    · rcases q with q | q
      · exact nI_pos (by omega) q
      · exact q (nI_lt hj' (by omega))
  · rw [e, qe_rI_e, if_pos rfl]
/-- a move played -/
theorem tc_played {m : qm_M} {s : sT} (hc : cs m s) (hv : cvPl m) (g : gd s) {R C : Nat} (hR : R < 2 ^ bR s.1) (hC : C < 2 ^ bC s.1) (hR6 : R < 64) (hC6 : C < 64) : ∃ m1, F_T_played (nI R) (nI C) m = some (some (.int (sH (st_heads s (sC R C 6)).1)), m1) ∧ CI m1 (st_heads s (sC R C 6)) ∧ hi_fr m m1 := by
  have hP := cells_ok g.1 hR hC
  obtain ⟨mc1, p1, p2, p3⟩ := nu_push hc g.2.1
  have c6 : mc1.2 1 6 = s.1 6 := cs_h (s := (s.1, st_past s.1 s.2.1, s.2.2)) p2
  have hcs : cs (qm_sL mc1 1 6 (s.1 6 ^^^ bn (sC R C 6))) (st_heads s (sC R C 6)) := p2.setH _
  have hh := p3.tr (hi_fr.L mc1 (o := 1) (j := 6) (x := s.1 6 ^^^ bn (sC R C 6)) (by omega))
  refine ⟨_, ?_, ⟨hcs, hv.hi (fun a h1 _ => hh.1 a (by omega)), g.act hP⟩, hh⟩
  unfold F_T_played X_T_played_e
  rw [p1, qe_rV_e, nu_bitsOf hR6 hC6, qe_rL_e]
  dsimp only
  rw [c6, nu_headsShown hcs, qe_rI_e]
theorem p64 {n : Nat} (hn : n ≤ 6) : 2 ^ n ≤ 64 := Nat.le_trans (Nat.pow_le_pow_right (by omega) hn) (by decide)
/-- a move that may be -/
noncomputable def mayM (s : sT) (R C : Nat) : Prop := al (bK s.1 0) (bL s.1 0) R = true ∧ al (bK s.1 1) (bL s.1 1) C = true ∧ (nb (s.1 6)).getLsbD (6 * Nat.log2 R + Nat.log2 C) = true
/-- all but the acts' cells stays -/
def up59 (m m1 : qm_M) : Prop := ∀ a, 59 < a → m1.1 a = m.1 a ∧ m1.2 a = m.2 a
theorem hi_fr.u59 {m m1 : qm_M} (h : hi_fr m m1) : up59 m m1 := fun a ha => ⟨h.1 a (by omega), h.2 a (by omega)⟩
theorem tc_play {m : qm_M} {s : sT} (h : CI m s) {R C : Nat} (R0 : 0 < R) (hR : R < 2 ^ bR s.1) (C0 : 0 < C) (hC : C < 2 ^ bC s.1) :
    (mayM s R C ∧ ∃ m1, F_T_play (nI R) (nI C) m = some (some (.int (sH (st_heads s (sC R C 6)).1)), m1) ∧ CI m1 (st_heads s (sC R C 6)) ∧ up59 m m1) ∨ (¬ mayM s R C ∧ ∃ m1, F_T_play (nI R) (nI C) m = some (some (.int (-2)), m1) ∧ CI m1 s ∧ up59 m m1) := by
  obtain ⟨hc, hv, g⟩ := h
  obtain ⟨hp, ⟨r1, r2, r3⟩, ⟨c1, c2, c3⟩⟩ := g.1.prl
  have hR0 := cs_i hc (k := 0) (by omega) r1
  have hC0 := cs_i hc (k := 1) (by omega) c1
  have pR := p64 r3
  have pC := p64 c3
  unfold F_T_play X_T_play_e
  rw [hR0, hC0, no_ishl1 (by omega), no_ishl1 (by omega)]
  obtain ⟨mc1, a1, a2, a3, a4⟩ := nu_tuneP hc g.1 hv
  have hc1 := a4.cs (by omega) hc
  obtain ⟨t1, -⟩ := nu_alR hp.b a2 (pfr.rf mc1) (S := R) (by omega)
  obtain ⟨-, t2⟩ := nu_alR hp.b a2 (pfr.rf mc1) (S := C) (by omega)
  obtain ⟨g1, g2⟩ := nu_greatest R0 (show R < 64 by omega) mc1
  obtain ⟨g3, g4⟩ := nu_greatest C0 (show C < 64 by omega) mc1
  have sh := nu_showsHeads hc1 g2 g4
  have e0 : (0 : Int32) < nI R := nI_lt (a := 0) R0 (by omega)
  have f0 : (0 : Int32) < nI C := nI_lt (a := 0) C0 (by omega)
  rw [if_pos e0, if_pos f0, if_pos (nI_lt hR (by omega)), if_pos (nI_lt hC (by omega)), a1, qe_rV_e]
  unfold F_Pl_mayBe X_Pl_mayBe_e F_Pl_areSets X_Pl_areSets_e
  rw [t1, qe_rI_e]
  have fr : up59 m mc1 := fun a ha => a4 a (Or.inr ha)
  by_cases q1 : al (bK s.1 0) (bL s.1 0) R = true
  · rw [if_pos q1, if_neg n10, t2, qe_rI_e]
    by_cases q2 : al (bK s.1 1) (bL s.1 1) C = true
    · rw [if_pos q2, if_neg n10, qe_rI_e, if_neg n10, g1, qe_rI_e, g3, qe_rI_e, sh, qe_rI_e]
      by_cases q3 : (nb (s.1 6)).getLsbD (6 * Nat.log2 R + Nat.log2 C) = true
      · have nb1 : qm_ni .boolean 1 = true := rfl
        obtain ⟨mc2, y1, y2, y3⟩ := tc_played hc1 a3 g hR hC (by omega) (by omega)
        rw [if_pos q3, nb1, qe_b_e, qe_rI_e, if_neg n10, y1, qe_rI_e]
        exact Or.inl ⟨⟨q1, q2, q3⟩, _, rfl, y2, fun a ha => ⟨(y3.u59 a ha).1.trans (fr a ha).1, (y3.u59 a ha).2.trans (fr a ha).2⟩⟩
      · have nb0 : qm_ni .boolean 0 = true := rfl
        rw [if_neg q3, nb0, qe_b_e, qe_rI_e, if_pos rfl]
        exact Or.inr ⟨fun z => q3 z.2.2, _, rfl, ⟨hc1, a3, g⟩, fr⟩
    · rw [if_neg q2, if_pos rfl, qe_rI_e, if_pos rfl, qe_rI_e, if_pos rfl]
      exact Or.inr ⟨fun z => q2 z.2.1, _, rfl, ⟨hc1, a3, g⟩, fr⟩
  · rw [if_neg q1, if_pos rfl, qe_rI_e, if_pos rfl, qe_rI_e, if_pos rfl]
    exact Or.inr ⟨fun z => q1 z.1, _, rfl, ⟨hc1, a3, g⟩, fr⟩
/-- the first move that wins, else the first one -/
theorem tc_answer {m : qm_M} {s : sT} (h : CI m s) :
    (mvs s 0 = [] ∧ mvs s 1 = [] ∧ ∃ m1, F_T_answer m = some (some (.int (-2)), m1) ∧ CI m1 s ∧ up59 m m1) ∨
    (∃ a, (mvs s 1)[0]? = some a ∧ ∃ m1, F_T_answer m = some (some (.int 1), m1) ∧ CI m1 (st_heads s (sC a.1 a.2 6)) ∧ up59 m m1) ∨
    (mvs s 1 = [] ∧ ∃ a, (mvs s 0)[0]? = some a ∧ ∃ m1, F_T_answer m = some (some (.int 0), m1) ∧ CI m1 (st_heads s (sC a.1 a.2 6)) ∧ up59 m m1) := by
  obtain ⟨hc, hv, g⟩ := h
  obtain ⟨mc1, a1, a2, a3, a4⟩ := nu_tuneP hc g.1 hv
  have hc1 := a4.cs (by omega) hc
  have nil : ∀ {l : List (Nat × Nat)}, l[0]? = none → l = [] := fun {l} z => by
    cases l with
    | nil => rfl
    | cons a l => cases z
  have fin : ∀ (x : Int32) (mc2 : qm_M) (a : Nat × Nat), (a.1 < 2 ^ bR s.1 ∧ a.2 < 2 ^ bC s.1 ∧ a.1 < 64 ∧ a.2 < 64) → mc2.1 48 4 = nI a.1 → mc2.1 48 5 = nI a.2 → pfr mc1 mc2 → (x = 0 ∨ x = 1) → ∃ mc3, L_T_answer_56 x mc2 = some (some (.int x), mc3) ∧ CI mc3 (st_heads s (sC a.1 a.2 6)) ∧ up59 m mc3 := by
    intro x mc2 a ⟨h1, h2, h3, h4⟩ h5 h6 h9 hx
    obtain ⟨mc3, y1, y2, y3⟩ := tc_played (h9.cs hc1) (h9.cv a3) g h1 h2 h3 h4
    unfold L_T_answer_56 X_T_answer_56
    rw [h5, h6, y1, qe_rI_e]
    exact ⟨_, rfl, y2, fun b hb => ⟨((y3.u59 b hb).1.trans (h9.ou b (Or.inr hb)).1).trans (a4 b (Or.inr hb)).1, ((y3.u59 b hb).2.trans (h9.ou b (Or.inr hb)).2).trans (a4 b (Or.inr hb)).2⟩⟩
  unfold F_T_answer X_T_answer_e
  rw [a1, qe_rV_e]
  rcases tc_find hc1 g.1 a2 1 (K := 0) (by omega) with ⟨m', x1, x2, x3⟩ | ⟨a, m', x1, x2, x3, x4, x5⟩
  · have x2 : F_Pl_find 1 0 mc1 = some (some (.int 0), m') := x2
    rw [x2, qe_rI_e, if_pos rfl]
    unfold L_T_answer_32 X_T_answer_32
    rw [if_pos rfl]
    rcases tc_find (x3.cs hc1) g.1 (x3.T a2) 0 (K := 0) (by omega) with ⟨m2, y1, y2, y3⟩ | ⟨a, m2, y1, y2, y3, y4, y5⟩
    · have y2 : F_Pl_find 0 0 m' = some (some (.int 0), m2) := y2
      rw [y2, qe_rI_e, if_pos rfl]
      have h3 := x3.tr y3
      exact Or.inl ⟨nil y1, nil x1, _, rfl, ⟨h3.cs hc1, h3.cv a3, g⟩, fun b hb => ⟨(h3.ou b (Or.inr hb)).1.trans (a4 b (Or.inr hb)).1, (h3.ou b (Or.inr hb)).2.trans (a4 b (Or.inr hb)).2⟩⟩
    · have y2 : F_Pl_find 0 0 m' = some (some (.int 1), m2) := y2
      rw [y2, qe_rI_e, if_neg n10]
      obtain ⟨mc3, z1, z2, z3⟩ := fin 0 m2 a (mvA_mem g.1 (List.mem_of_getElem? y1)) y3 y4 (x3.tr y5) (Or.inl rfl)
      rw [z1]
      exact Or.inr (Or.inr ⟨nil x1, a, y1, _, rfl, z2, z3⟩)
  · rw [show (0 : Int32) = nI 0 from rfl, x2, qe_rI_e, if_neg (show ¬ (1 : Int32) = nI 0 by decide)]
    unfold L_T_answer_32 X_T_answer_32
    rw [if_neg n10]
    obtain ⟨mc3, z1, z2, z3⟩ := fin 1 m' a (mvA_mem g.1 (List.mem_of_getElem? x1)) x3 x4 x5 (Or.inr rfl)
    rw [z1]
    exact Or.inr (Or.inl ⟨a, x1, _, rfl, z2, z3⟩)
theorem tc_undo {m : qm_M} {s : sT} (h : CI m s) : ∃ m1, F_T_undo m = some (some (.int (if s.2.1.1 = 0 then -1 else nI (s.2.1.1 - 1))), m1) ∧ CI m1 (if s.2.1.1 = 0 then s else st_undo s) ∧ hi_fr m m1 := by
  obtain ⟨hc, hv, g⟩ := h
  obtain ⟨m1, a1, a2, a3⟩ := tw_undo hc g
  refine ⟨m1, a1, ⟨a2, hv.hi (fun a h1 _ => a3.1 a (by omega)), ?_⟩, a3⟩
  by_cases q : s.2.1.1 = 0
  · rw [if_pos q]; exact g
  · rw [if_neg q]; exact g.undo (by omega)
theorem tc_back0 {m : qm_M} {s : sT} (h : CI m s) (q : s.2.2.1.1 0 = false) : ∃ m1, F_T_back 0 m = some (some (.int (-2)), m1) ∧ CI m1 s ∧ hi_fr m m1 := by
  obtain ⟨hc, hv, g⟩ := h
  obtain ⟨m1, a1, a2, a3⟩ := tw_back hc g (z := 0) (by omega)
  rw [q] at a1 a2
  exact ⟨m1, a1, ⟨a2, hv.hi (fun a h1 _ => a3.1 a (by omega)), g⟩, a3⟩
theorem tc_keep2 (m : qm_M) : F_T_keep 2 m = some (some (.int (-1)), m) := tw_keep0 (v := 2) (Or.inr (by decide)) m
/-! the tape -/
theorem tc_feed {m : qm_M} {s : sT} (h : CI m s) (q : s.2.2.2.1 ≤ 100) (a b c d e : Int32) : ∃ m1, F_T_feed a b c d e m = some (some (.int (nI (s.2.2.2.1 + 20))), m1) ∧ CI m1 (st_feed s a b c d e) ∧ hi_fr m m1 := by
  obtain ⟨hc, hv, g⟩ := h
  obtain ⟨t1, t2⟩ := hc.2.2.2
  unfold F_T_feed X_T_feed_e
  have eT : F_Ta_hasRoom 20 m = some (some (.int 1), m) := by
    unfold F_Ta_hasRoom X_Ta_hasRoom_e
    have e1 : nI s.2.2.2.1 + (20 : Int32) = nI (s.2.2.2.1 + 20) := nI_add _ 20
    have e2 : ¬ (120 : Int32) < nI (s.2.2.2.1 + 20) := nI_nlt (a := 120) (b := s.2.2.2.1 + 20) (by omega) (by omega)
    rw [t1, e1, if_neg e2]
  obtain ⟨m1, p1, p2, p3, p4, p5⟩ := nu_append (t := s.2.2.2.1) (by omega) a m t1
  obtain ⟨m2, r1, r2, r3, r4, r5⟩ := nu_append (t := s.2.2.2.1 + 4) (by omega) b m1 p2
  obtain ⟨m3, v1, v2, v3, v4, v5⟩ := nu_append (t := s.2.2.2.1 + 4 + 4) (by omega) c m2 r2
  obtain ⟨m4, w1, w2, w3, w4, w5⟩ := nu_append (t := s.2.2.2.1 + 4 + 4 + 4) (by omega) d m3 v2
  obtain ⟨m5, x1, x2, x3, x4, x5⟩ := nu_append (t := s.2.2.2.1 + 4 + 4 + 4 + 4) (by omega) e m4 w2
  have hcs : cs m5 (st_feed s a b c d e) := hc.tp (fun k h1 h2 => by rw [x4 k h1 h2, w4 k h1 h2, v4 k h1 h2, r4 k h1 h2, p4 k h1 h2]) (by rw [x3, w3, v3, r3, p3]) ⟨x2, fun k hk => by
    show m5.1 44 k = if s.2.2.2.1 ≤ k then st_byte (st_arg a b c d e (k - s.2.2.2.1)) ((k - s.2.2.2.1) % 4) else s.2.2.2.2 k
    have hk' : k < s.2.2.2.1 + 20 := hk
    rw [x5, w5, v5, r5, p5]
    unfold st_arg
    by_cases z : s.2.2.2.1 ≤ k
    · rw [if_pos z]
      by_cases y4 : s.2.2.2.1 + 4 + 4 + 4 + 4 ≤ k
      · rw [if_pos (by omega), if_neg (by omega), if_neg (by omega), if_neg (by omega), if_neg (by omega), show (k - s.2.2.2.1) % 4 = k - (s.2.2.2.1 + 4 + 4 + 4 + 4) by omega]
      · rw [if_neg (by omega)]
        by_cases y3 : s.2.2.2.1 + 4 + 4 + 4 ≤ k
        · rw [if_pos (by omega), if_neg (by omega), if_neg (by omega), if_neg (by omega), if_pos (by omega), show (k - s.2.2.2.1) % 4 = k - (s.2.2.2.1 + 4 + 4 + 4) by omega]
        · rw [if_neg (by omega)]
          by_cases y2 : s.2.2.2.1 + 4 + 4 ≤ k
          · rw [if_pos (by omega), if_neg (by omega), if_neg (by omega), if_pos (by omega), show (k - s.2.2.2.1) % 4 = k - (s.2.2.2.1 + 4 + 4) by omega]
          · rw [if_neg (by omega)]
            by_cases y1 : s.2.2.2.1 + 4 ≤ k
            · rw [if_pos (by omega), if_neg (by omega), if_pos (by omega), show (k - s.2.2.2.1) % 4 = k - (s.2.2.2.1 + 4) by omega]
            · rw [if_neg (by omega), if_pos (by omega), if_pos (by omega), show (k - s.2.2.2.1) % 4 = k - s.2.2.2.1 by omega]
    · rw [if_neg (by omega), if_neg (by omega), if_neg (by omega), if_neg (by omega), if_neg (by omega), if_neg z]
      exact t2 k (by omega)⟩
  have hh : hi_fr m m5 := ⟨fun k hk => by rw [x4 k (by omega) (by omega), w4 k (by omega) (by omega), v4 k (by omega) (by omega), r4 k (by omega) (by omega), p4 k (by omega) (by omega)], fun k hk => by rw [x3, w3, v3, r3, p3]⟩
  rw [eT, qe_rI_e, if_neg n10, p1, qe_rV_e, r1, qe_rV_e, v1, qe_rV_e, w1, qe_rV_e, x1, qe_rV_e, x2]
  exact ⟨m5, rfl, ⟨hcs, hv.hi (fun k h1 _ => hh.1 k (by omega)), g.feed q a b c d e⟩, hh⟩
def st_cut (s : sT) (n : Nat) : sT := (s.1, s.2.1, s.2.2.1, (n, s.2.2.2.2))
theorem tc_end {m : qm_M} {s : sT} (h : CI m s) {n : Nat} (hn : n ≤ s.2.2.2.1) : ∃ m1, F_T_end (nI n) m = some (some (.int (nI n)), m1) ∧ CI m1 (st_cut s n) ∧ hi_fr m m1 := by
  obtain ⟨hc, hv, g⟩ := h
  have ht := g.2.2.2.2.1
  obtain ⟨t1, t2⟩ := hc.2.2.2
  unfold F_T_end X_T_end_e
  have hcs : cs (qm_sI m 43 2 (nI n)) (st_cut s n) := hc.tp (fun a h1 _ => (qm_sI_other a h1).1) rfl ⟨by rw [me_1I, if_pos rfl, if_pos rfl], fun k hk => by
    have hk' : k < n := hk
    rw [me_1I, if_neg (by omega)]; exact t2 k (by omega)⟩
  have hh : hi_fr m (qm_sI m 43 2 (nI n)) := hi_fr.I m (by omega)
  rw [t1, if_neg (nI_pos (by omega)), if_neg (nI_nlt (by omega) (by omega))]
  exact ⟨_, rfl, ⟨hcs, hv.hi (fun k h1 _ => hh.1 k (by omega)), g.cut hn⟩, hh⟩
/-- a text that tells a board -/
theorem tc_tell {m : qm_M} {s : sT} (h : CI m s) {T : Nat → Nat} (hT : ∀ k, k < s.2.2.2.1 → T k < 256 ∧ s.2.2.2.2 k = sx (T k)) {r k l c kc lc : Nat} {H : nb_F} (hr : rT s.2.2.2.1 T = .inr ((r, k, l), (c, kc, lc), H)) :
    ∃ m1, F_T_tell m = some (some (.int (sH (sB s.1 r k l c kc lc H))), m1) ∧ CI m1 (st_act (st_cut s 0) (sB s.1 r k l c kc lc H)) ∧ hi_fr m m1 := by
  obtain ⟨hc, hv, g⟩ := h
  obtain ⟨g1, g2, g3, g4, g5, g6⟩ := id g
  have hct : ct s.2.2.2.1 T m := ⟨g5, hc.2.2.2.1, fun k hk => ⟨(hT k hk).1, (hc.2.2.2.2 k hk).trans (hT k hk).2⟩⟩
  obtain ⟨a1, a2⟩ := nu_read hct
  have gs : gd (st_cut s 0) := ⟨g1, g2, g3, g4, Nat.zero_le _, fun k hk => absurd hk (Nat.not_lt_zero _)⟩
  unfold F_T_tell X_T_tell_e
  obtain ⟨mc1, r1, d0, d2, d4, d1, d3, d5, d6, r2⟩ := a2 r k l c kc lc H hr
  obtain ⟨v1, v2, v3⟩ := rT_v hr
  have hc1 := hc.tape0 r2
  obtain ⟨mc2, p1, p2, p3⟩ := nu_push hc1 gs.2.1
  obtain ⟨i45, l45⟩ := nu_push45 hc1 p1
  have po45 : po 45 := by show 45 ∈ po_l; decide
  obtain ⟨mc3, q1, q2, q3, q4, q5⟩ := nu_becomeBoard po_1 po45 (by decide) mc2
  have o45 : ∀ i, mc2.1 45 i = mc1.1 45 i := fun i => by rw [i45, me_oth _ _ _ _ (Or.inl (by decide))]
  have fr1 : px_fr 1 mc2 mc3 := ⟨fun x hx => q3 x hx, fun x hx _ _ => q5 x hx⟩
  have hcs : cs mc3 (st_act (st_cut s 0) (sB s.1 r k l c kc lc H)) := p2.now fr1 (fun j hj => by
    have hj' := p2.1 j hj
    show px_c mc3 1 j = sB s.1 r k l c kc lc H j
    unfold px_c at hj' ⊢
    unfold sB
    by_cases c1 : j < 6
    · rw [if_pos c1, q2, if_pos c1, o45]
      by_cases j0 : j = 0
      · subst j0; rw [d0, if_pos rfl, nI_l (by omega)]
      · by_cases j1 : j = 1
        · subst j1; rw [d1, if_neg j0, if_pos rfl, nI_l (by omega)]
        · by_cases j2 : j = 2
          · subst j2; rw [d2, if_neg j0, if_neg j1, if_pos rfl, nI_l (by omega)]
          · by_cases j3 : j = 3
            · subst j3; rw [d3, if_neg j0, if_neg j1, if_neg j2, if_pos rfl, nI_l (by omega)]
            · by_cases j4 : j = 4
              · subst j4; rw [d4, if_neg j0, if_neg j1, if_neg j2, if_neg j3, if_pos rfl, nI_l (by omega)]
              · have j5 : j = 5 := by omega
                subst j5; rw [d5, if_neg j0, if_neg j1, if_neg j2, if_neg j3, if_neg j4, if_pos rfl, nI_l (by omega)]
    · rw [if_neg c1] at hj' ⊢
      rw [if_neg (show ¬ j = 0 by omega), if_neg (show ¬ j = 1 by omega), if_neg (show ¬ j = 2 by omega), if_neg (show ¬ j = 3 by omega), if_neg (show ¬ j = 4 by omega), if_neg (show ¬ j = 5 by omega)]
      by_cases c2 : j = 6
      · rw [if_pos c2, if_pos c2, q4, l45]
        exact d6
      · rw [if_neg c2] at hj' ⊢
        rw [if_neg c2]
        by_cases c3 : j < 15
        · rw [if_pos c3] at hj' ⊢
          rw [q5 _ (by omega)]; exact hj'
        · rw [if_neg c3] at hj' ⊢
          by_cases c4 : j < 17
          · rw [if_pos c4] at hj' ⊢
            rw [q2, if_neg (by omega)]; exact hj'
          · rw [if_neg c4] at hj' ⊢
            rw [q5 _ (by omega)]; exact hj')
  have hh : hi_fr m mc3 := ((r2.hi.tr (hi_fr.I _ (by omega))).tr p3).tr (fr1.hi (by omega))
  rw [r1, qe_rI_e]
  dsimp only
  rw [if_pos rfl, p1, qe_rV_e, q1, qe_rV_e, nu_headsShown hcs, qe_rI_e]
  exact ⟨mc3, rfl, ⟨hcs, hv.hi (fun k h1 _ => hh.1 k (by omega)), gs.act (g1.board (by omega) (by omega) v3)⟩, hh⟩
/-! count -/
theorem tc_count {m : qm_M} {s : sT} (h : CI m s) : (∀ j, j < 2 → F_T_count (nI j) m = some (some (.int (nI (if j = 0 then bR s.1 else bC s.1))), m) ∧ F_T_count (nI (2 + j)) m = some (some (.int (nI (bK s.1 j))), m) ∧ F_T_count (nI (4 + j)) m = some (some (.int (nI (bL s.1 j))), m)) ∧
    F_T_count 6 m = some (some (.int (sH s.1)), m) ∧ F_T_count 7 m = some (some (.int (nI s.2.1.1)), m) ∧ F_T_count 8 m = some (some (.int (nI s.2.2.2.1)), m) ∧ F_T_count 10 m = some (some (.int (nI (sRows (nb (s.1 6)) 6))), m) ∧ F_T_count 11 m = some (some (.int (nI (sCols (nb (s.1 6)) 6))), m) ∧ F_T_count 12 m = some (some (.int (-1)), m) := by
  obtain ⟨hc, hv, g⟩ := h
  obtain ⟨hp, ⟨r1, r2, r3⟩, ⟨c1, c2, c3⟩⟩ := g.1.prl
  obtain ⟨k1, k2, k3, k4⟩ := hp 0 (by omega)
  obtain ⟨l1, l2, l3, l4⟩ := hp 1 (by omega)
  obtain ⟨x, hx, d2, d3, d4⟩ := hc.2.1
  obtain ⟨t1, t2⟩ := hc.2.2.2
  have cR : F_Ps_rowsWithHeads 1 m = some (some (.int (nI (sRows (nb (s.1 6)) (bR s.1)))), m) := by
    unfold F_Ps_rowsWithHeads X_Ps_rowsWithHeads_e
    exact nu_rows_loop hc r3 r1 (bR s.1) 1000000 0 rfl (Nat.zero_le _) (by omega)
  have cC : F_Ps_columnsWithHeads 1 m = some (some (.int (nI (sCols (nb (s.1 6)) (bR s.1)))), m) := by
    unfold F_Ps_columnsWithHeads X_Ps_columnsWithHeads_e
    exact nu_cols_loop hc r3 r1 (bR s.1) 1000000 0 rfl (Nat.zero_le _) (by omega)
  have uR := sRows_up g.1.heads (6 - bR s.1)
  have uC := sCols_up g.1.heads (6 - bR s.1)
  rw [show bR s.1 + (6 - bR s.1) = 6 by omega] at uR uC
  refine ⟨fun j hj => ?_, ?_, ?_, ?_, ?_, ?_, ?_⟩
  · rcases (by omega : j = 0 ∨ j = 1) with rfl | rfl
    · refine ⟨?_, ?_, ?_⟩
      · unfold F_T_count X_T_count_e
        rw [if_pos (by decide), cs_i hc (k := 0) (by omega) r1]; rfl
      · unfold F_T_count X_T_count_e
        rw [if_neg (by decide), if_neg (by decide), if_pos (by decide), cs_i hc (k := 2) (by omega) k1]
      · unfold F_T_count X_T_count_e
        rw [if_neg (by decide), if_neg (by decide), if_neg (by decide), if_neg (by decide), if_pos (by decide), cs_i hc (k := 4) (by omega) k2]
    · refine ⟨?_, ?_, ?_⟩
      · unfold F_T_count X_T_count_e
        rw [if_neg (by decide), if_pos (by decide), cs_i hc (k := 1) (by omega) c1]; rfl
      · unfold F_T_count X_T_count_e
        rw [if_neg (by decide), if_neg (by decide), if_neg (by decide), if_pos (by decide), cs_i hc (k := 3) (by omega) l1]
      · unfold F_T_count X_T_count_e
        rw [if_neg (by decide), if_neg (by decide), if_neg (by decide), if_neg (by decide), if_neg (by decide), if_pos (by decide), cs_i hc (k := 5) (by omega) l2]
  · unfold F_T_count X_T_count_e
    rw [if_neg (by decide), if_neg (by decide), if_neg (by decide), if_neg (by decide), if_neg (by decide), if_neg (by decide), if_pos (by decide), nu_headsShown hc]; rfl
  · unfold F_T_count X_T_count_e
    rw [if_neg (by decide), if_neg (by decide), if_neg (by decide), if_neg (by decide), if_neg (by decide), if_neg (by decide), if_neg (by decide), if_pos (by decide), d3]
  · unfold F_T_count X_T_count_e
    rw [if_neg (by decide), if_neg (by decide), if_neg (by decide), if_neg (by decide), if_neg (by decide), if_neg (by decide), if_neg (by decide), if_neg (by decide), if_pos (by decide), t1]
  · unfold F_T_count X_T_count_e
    rw [if_neg (by decide), if_neg (by decide), if_neg (by decide), if_neg (by decide), if_neg (by decide), if_neg (by decide), if_neg (by decide), if_neg (by decide), if_neg (by decide), if_neg (by decide), if_pos (by decide), cR, ← uR]; rfl
  · unfold F_T_count X_T_count_e
    rw [if_neg (by decide), if_neg (by decide), if_neg (by decide), if_neg (by decide), if_neg (by decide), if_neg (by decide), if_neg (by decide), if_neg (by decide), if_neg (by decide), if_neg (by decide), if_neg (by decide), if_pos (by decide), cC, ← uC]; rfl
  · unfold F_T_count X_T_count_e
    rw [if_neg (by decide), if_neg (by decide), if_neg (by decide), if_neg (by decide), if_neg (by decide), if_neg (by decide), if_neg (by decide), if_neg (by decide), if_neg (by decide), if_neg (by decide), if_neg (by decide), if_neg (by decide)]
/-! the game's length -/
theorem tc_game {m : qm_M} {s : sT} (h : CI m s) (hl : cvLe m) (hrc : bR s.1 * bC s.1 ≤ 12) {j : Nat} (hj : j < 2) : ∃ m1, F_T_game (nI j) m = some (some (.int (if j = 0 then nI (ln (bK s.1) (bL s.1) (bR s.1) (bC s.1) (pkR (bC s.1) (nb (s.1 6)) (bR s.1))) &&& 1 else nI (ln (bK s.1) (bL s.1) (bR s.1) (bC s.1) (pkR (bC s.1) (nb (s.1 6)) (bR s.1))))), m1) ∧ CI m1 s ∧ cvLe m1 ∧ ou 48 63 m m1 := by
  obtain ⟨hc, hv, g⟩ := h
  obtain ⟨hp, ⟨r1, r2, r3⟩, ⟨c1, c2, c3⟩⟩ := g.1.prl
  have hR := cs_i hc (k := 0) (by omega) r1
  have hC := cs_i hc (k := 1) (by omega) c1
  unfold F_T_game X_T_game_e
  obtain ⟨mc1, a1, a2, a3, a4, a5⟩ := nu_tuneL hc g.1 hv hl hrc
  have hx := hd_row g.1
  have hlen := nu_lengthOf a2 r3 hrc (X := s.1 6) (by rw [(a5 1 (by omega)).2]; exact cs_h hc) hx
  rw [if_neg (nw_two hj).1, if_neg (nw_two hj).2, nu_canHold hR hC r3 c3, qe_rI_e, if_neg (show ¬ 12 < bR s.1 * bC s.1 by omega), if_neg n10, a1, qe_rV_e, hlen, qe_rI_e]
  refine ⟨mc1, ?_, ⟨a5.cs (by omega) hc, a3, g⟩, a4, a5⟩
  rcases (by omega : j = 0 ∨ j = 1) with rfl | rfl
  · rw [if_pos (show nI 0 = 0 from rfl), if_pos rfl]
  · rw [if_neg (by decide), if_neg (by decide)]
theorem tc_game2 (m : qm_M) : F_T_game 2 m = some (some (.int (-1)), m) := by
  unfold F_T_game X_T_game_e
  rw [if_neg (by decide), if_pos (by decide)]
