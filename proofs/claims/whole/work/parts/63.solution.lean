/-! solutions -/
theorem mt_sol_loop {m : qm_M} {R C : Nat} {t : gT} (h : gMS m R t) (hR : R ≤ 4) (hr : t.2.1 ≤ R) (hC : 0 < C ∧ C ≤ 4) (h18 : m.1 112 18 = nI C) (v : Int32) (d : Nat) : ∀ (f i : Nat), t.2.1 - i = d → i ≤ t.2.1 → d < f → (∀ j, i ≤ j → j < t.2.1 → nI (t.2.2.2 j) = v → (∀ k, i ≤ k → k < j → ¬ nI (t.2.2.2 k) = v) → L_M_solution_27 f v (nI i) m = some (some (.long (bn (t.1 j (C - 1)))), m)) ∧ ((∀ j, i ≤ j → j < t.2.1 → ¬ nI (t.2.2.2 j) = v) → L_M_solution_27 f v (nI i) m = some (some (.long 0), m)) := by
  obtain ⟨hA, h17, h21, hv, h128⟩ := h
  have e2' : nI C - 1 = nI (C - 1) := pk_sub (a := C) (b := 1) (by omega)
  induction d with
  | zero =>
    intro f i h1 h2 h3
    obtain ⟨f, rfl⟩ : ∃ g, f = g + 1 := ⟨f - 1, by omega⟩
    refine ⟨fun j a b => by omega, fun _ => ?_⟩
    show X_M_solution_27 _ _ _ _ _ _ _ = _
    unfold X_M_solution_27
    rw [h21, if_neg (nI_nlt (by omega) (by omega))]
  | succ d ih =>
    intro f i h1 h2 h3
    obtain ⟨f, rfl⟩ : ∃ g, f = g + 1 := ⟨f - 1, by omega⟩
    have hi : i < t.2.1 := by omega
    obtain ⟨i1, i2⟩ := ih f (i + 1) (by omega) (by omega) (by omega)
    have st : L_M_solution_27 (f + 1) v (nI i) m = if nI (t.2.2.2 i) = v then some (some (.long (bn (t.1 i (C - 1)))), m) else L_M_solution_27 f v (nI (i + 1)) m := by
      show X_M_solution_27 _ _ _ _ _ _ _ = _
      unfold X_M_solution_27
      rw [h21, if_pos (nI_lt hi (by omega)), qm_in_nI (by omega) (by omega), nI_clamp (by omega), qe_b_e, h128 i hi, h18, e2', mt_cellAt, qe_rI_e, qm_in_nI (by omega) (by omega), nI_clamp (by omega), qe_b_e, hA i (C - 1) (by omega) (by omega), nI_1]
    rw [st]
    refine ⟨fun j a b e k => ?_, fun q => ?_⟩
    · by_cases y : j = i
      · rw [← y, if_pos e]
      · rw [if_neg (k i (Nat.le_refl _) (by omega))]
        exact i1 j (by omega) b e (fun k2 a2 b2 => k k2 (by omega) b2)
    · rw [if_neg (q i (Nat.le_refl _) hi)]
      exact i2 (fun j a b => q j (by omega) b)
theorem w_solution (v : Int32) : rd2 (F_T_solution v) (F_M_solution v) := by
  intro mc mm s hc hm g
  obtain ⟨r0, c0, k1, k2, l1, l2, R, C, h1, h2, h3⟩ := id g.1
  have e0 := h2.2.2.2.2.2.2.1
  have e1 := h2.2.2.2.2.2.2.2
  have f1 : mc.1 1 9 = nI C := cs_g hc (k := 1) (by omega) e1
  unfold F_T_solution X_T_solution_e F_M_solution X_M_solution_e
  obtain ⟨mc1, a1, a2, a3⟩ := nu_reduceGrid hc e0 e1 (by omega) (by omega)
  obtain ⟨mm2, d1, d2, d3, d4, d5⟩ := mt_isSolved hm e0 e1 (by omega) (by omega)
  have e2' : nI C - 1 = nI (C - 1) := pk_sub (a := C) (b := 1) (by omega)
  have hle := gs_run_le (R := R) (A := gG s.1 R C) C
  have hl := (gs_lead R (gG s.1 R C) C).2
  have hb := gs_bad_iff (R := R) (A := gG s.1 R C) (C := C) (by omega)
  rw [f1, a1, qe_rV_e, e2', nu_hasLeadC (by omega) (by omega) a2, qe_rI_e, d1, qe_rI_e]
  by_cases y : gs_bad C (gs_run R (gG s.1 R C) C) = true
  · rw [if_pos y, if_pos y, if_neg n10, if_pos rfl]
    exact ⟨_, _, _, rfl, rfl, a3, d4, d5⟩
  · rw [if_neg y, if_neg y, if_pos rfl, if_neg n10, d3]
    obtain ⟨i1, i2⟩ := nu_besideLead a2 (by omega) hle v (c := C - 1) (by omega) (gs_run R (gG s.1 R C) C).2.1 1000000 0 rfl (Nat.zero_le _) (by omega)
    obtain ⟨j1, j2⟩ := mt_sol_loop d2 (by omega) hle (C := C) (by omega) d3 v (gs_run R (gG s.1 R C) C).2.1 1000000 0 rfl (Nat.zero_le _) (by omega)
    -- the model asks first whether there is that unknown
    have ei := mt_isInI v 0 (nI C - 2) mm2
    rw [show (0 : Int32).toInt64 = 0 from rfl] at ei
    by_cases hin : v < 0 ∨ nI C - 2 < v
    · have hno : ∀ j, 0 ≤ j → j < (gs_run R (gG s.1 R C) C).2.1 → ¬ nI ((gs_run R (gG s.1 R C) C).2.2.2 j) = v := fun j _ hj z => by
        have hlt := (hl j hj).1
        have hne : (gs_run R (gG s.1 R C) C).2.2.2 j ≠ C - 1 := fun q => y (hb.mpr ⟨j, hj, q⟩)
        rcases hin with q | q
        · rw [← z] at q; exact nI_pos (by omega) q
        · have e3 : nI C - 2 = nI (C - 2) := pk_sub (a := C) (b := 2) (by omega)
          rw [e3, ← z] at q
          exact nI_nlt (by omega) (by omega) q
      have eB : F_St_besideLead v (nI (C - 1)) mc1 = some (some (.long 0), mc1) := i2 hno
      have eI : F_M_isIn v.toInt64 0 (nI C - 2).toInt64 mm2 = some (some (.int 0), mm2) := by
        rw [ei]
        by_cases q : v < 0
        · rw [if_pos q]
        · rw [if_neg q, if_pos (hin.resolve_left q)]
      rw [eB, qe_rL_e, eI, qe_rI_e, if_pos rfl]
      exact ⟨_, _, _, rfl, rfl, a3, d4, d5⟩
    · have q1 : ¬ v < 0 := fun z => hin (Or.inl z)
      have q2 : ¬ nI C - 2 < v := fun z => hin (Or.inr z)
      have eI : F_M_isIn v.toInt64 0 (nI C - 2).toInt64 mm2 = some (some (.int 1), mm2) := by
        rw [ei, if_neg q1, if_neg q2]
      rw [eI, qe_rI_e, if_neg n10]
      by_cases ex : ∃ j, j < (gs_run R (gG s.1 R C) C).2.1 ∧ nI ((gs_run R (gG s.1 R C) C).2.2.2 j) = v
      · obtain ⟨j, hj, ej⟩ := ex
        have hun : ∀ k, 0 ≤ k → k < j → ¬ nI ((gs_run R (gG s.1 R C) C).2.2.2 k) = v := fun k _ hk z => by
          have a := (hl j hj).2 k hk
          have b := (hl j hj).1
          have := (nI_eq (by omega) (by omega)).mp (z.trans ej.symm)
          omega
        have eB : F_St_besideLead v (nI (C - 1)) mc1 = _ := i1 j (Nat.zero_le _) hj ej hun
        have eM : L_M_solution_27 1000000 v 0 mm2 = _ := j1 j (Nat.zero_le _) hj ej hun
        rw [eB, qe_rL_e, eM]
        exact ⟨_, _, _, rfl, rfl, a3, d4, d5⟩
      · have hno : ∀ j, 0 ≤ j → j < (gs_run R (gG s.1 R C) C).2.1 → ¬ nI ((gs_run R (gG s.1 R C) C).2.2.2 j) = v := fun j _ hj z => ex ⟨j, hj, z⟩
        have eB : F_St_besideLead v (nI (C - 1)) mc1 = some (some (.long 0), mc1) := i2 hno
        have eM : L_M_solution_27 1000000 v 0 mm2 = some (some (.long 0), mm2) := j2 hno
        rw [eB, qe_rL_e, eM]
        exact ⟨_, _, _, rfl, rfl, a3, d4, d5⟩
