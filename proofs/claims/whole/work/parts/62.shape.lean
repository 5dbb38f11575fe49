/-! calls on both sides: shapes, solutions -/
/-- the last column has a first one -/
def gs_bad (C : Nat) (t : gT) : Bool := decide (0 < t.2.1) && decide (t.2.2.2 (t.2.1 - 1) = C - 1)
theorem gs_bad_iff {R C : Nat} {A : gA} (hC : 0 < C) : gs_bad C (gs_run R A C) = true ↔ ∃ j, j < (gs_run R A C).2.1 ∧ (gs_run R A C).2.2.2 j = C - 1 := by
  have hl := (gs_lead R A C).2
  unfold gs_bad
  rw [Bool.and_eq_true_iff, decide_eq_true_iff, decide_eq_true_iff]
  constructor
  · intro h
    exact ⟨_, by omega, h.2⟩
  · rintro ⟨j, h1, h2⟩
    refine ⟨by omega, ?_⟩
    by_cases q : j = (gs_run R A C).2.1 - 1
    · rw [← q]; exact h2
    · have a := (hl ((gs_run R A C).2.1 - 1) (by omega)).2 j (by omega)
      have b := (hl ((gs_run R A C).2.1 - 1) (by omega)).1
      omega
theorem mt_isSolved {m : qm_M} {s : sT} (h : ms m s) {R C : Nat} (e0 : s.1 15 = lN R) (e1 : s.1 16 = lN C) (hR : 0 < R ∧ R ≤ 4) (hC : 0 < C ∧ C ≤ 4) : ∃ m1, F_M_isSolved m = some (some (.int (if gs_bad C (gs_run R (gG s.1 R C) C) = true then 0 else 1)), m1) ∧ gMS m1 R (gs_run R (gG s.1 R C) C) ∧ m1.1 112 18 = nI C ∧ ms m1 s ∧ lo_fr m m1 := by
  unfold F_M_isSolved X_M_isSolved_e
  obtain ⟨m1, b1, b2, b3, b4, b5⟩ := mt_laysStepForm h e0 e1 hR hC
  have hle := gs_run_le (R := R) (A := gG s.1 R C) C
  have hl := (gs_lead R (gG s.1 R C) C).2
  refine ⟨m1, ?_, b2, b3, b4, b5⟩
  obtain ⟨c1, c2, c3, c4, c5⟩ := id b2
  generalize gs_run R (gG s.1 R C) C = t at b2 c1 c2 c3 c4 c5 hle hl ⊢
  have ez : (nI t.2.1 = 0) ↔ t.2.1 = 0 := nI_eq (a := t.2.1) (b := 0) (by omega) (by omega)
  rw [b1, qe_rV_e, c3]
  unfold gs_bad
  by_cases q : t.2.1 = 0
  · rw [if_pos (ez.mpr q), if_neg (by rw [q]; simp)]
  · have e1' : nI t.2.1 - 1 = nI (t.2.1 - 1) := pk_sub (a := t.2.1) (b := 1) (by omega)
    have e2' : nI C - 1 = nI (C - 1) := pk_sub (a := C) (b := 1) (by omega)
    have hlt := (hl (t.2.1 - 1) (by omega)).1
    rw [if_neg (fun z => q (ez.mp z)), e1', qm_in_nI (by omega) (by omega), nI_clamp (by omega), qe_b_e, c5 _ (by omega), b3, e2']
    have e3 : decide (0 < t.2.1) = true := decide_eq_true (by omega)
    rw [e3, Bool.true_and]
    by_cases y : t.2.2.2 (t.2.1 - 1) = C - 1
    · rw [if_pos (by rw [y]), if_pos (decide_eq_true y)]
    · rw [if_neg (fun z => y ((nI_eq (by omega) (by omega)).mp z)), if_neg (fun z => y (of_decide_eq_true z))]
theorem nu_hasLeadC {m : qm_M} {R C : Nat} {A : gA} (hC : 0 < C ∧ C ≤ 4) (hR : R ≤ 4) (h : cMS m R (gs_run R A C)) : F_St_hasLead (nI (C - 1)) m = some (some (.int (if gs_bad C (gs_run R A C) = true then 1 else 0)), m) := by
  have hle := gs_run_le (R := R) (A := A) C
  have hl := (gs_lead R A C).2
  have hb := gs_bad_iff (R := R) (A := A) hC.1
  obtain ⟨i1, i2⟩ := nu_hasLead h (by omega) (nI (C - 1)) (gs_run R A C).2.1 1000000 0 rfl (Nat.zero_le _) (by omega)
  unfold F_St_hasLead X_St_hasLead_e
  by_cases q : gs_bad C (gs_run R A C) = true
  · obtain ⟨j, h1, h2⟩ := hb.mp q
    rw [if_pos q]
    exact i1 ⟨j, Nat.zero_le _, h1, by rw [h2]⟩
  · rw [if_neg q]
    exact i2 (fun j _ h1 z => q (hb.mpr ⟨j, h1, (nI_eq (by have := (hl j h1).1; omega) (by omega)).mp z⟩))
theorem w_shape (v : Int32) : rd2 (F_T_shape v) (F_M_shape v) := by
  intro mc mm s hc hm g
  obtain ⟨r0, c0, k1, k2, l1, l2, R, C, h1, h2, h3⟩ := id g.1
  have e0 := h2.2.2.2.2.2.2.1
  have e1 := h2.2.2.2.2.2.2.2
  have f0 : mc.1 1 8 = nI R := cs_g hc (k := 0) (by omega) e0
  have f1 : mc.1 1 9 = nI C := cs_g hc (k := 1) (by omega) e1
  unfold F_T_shape X_T_shape_e F_M_shape X_M_shape_e
  rw [hm.2.1 15 (by omega), hm.2.1 16 (by omega), e0, e1, lN_i, lN_i, f0, f1]
  obtain ⟨mc1, a1, a2, a3⟩ := nu_reduceGrid hc e0 e1 (by omega) (by omega)
  obtain ⟨mm1, b1, b2, b3, b4, b5⟩ := mt_laysStepForm hm e0 e1 (by omega) (by omega)
  obtain ⟨mm2, d1, d2, d3, d4, d5⟩ := mt_isSolved hm e0 e1 (by omega) (by omega)
  have e2' : nI C - 1 = nI (C - 1) := pk_sub (a := C) (b := 1) (by omega)
  have f2 : mc1.1 1 9 = nI C := by rw [a3.1 1 (by omega) (by omega)]; exact f1
  by_cases q0 : v.toInt = 0
  · rw [if_pos q0, if_pos q0]
    exact rd2.no hm rfl rfl
  · rw [if_neg q0, if_neg q0]
    by_cases q1 : v.toInt = 1
    · rw [if_pos q1, if_pos q1]
      exact rd2.no hm rfl rfl
    · rw [if_neg q1, if_neg q1]
      by_cases q2 : v.toInt = 2
      · rw [if_pos q2, if_pos q2, a1, qe_rV_e, b1, qe_rV_e, a2.2.1, b2.2.2.1]
        exact ⟨_, _, _, rfl, rfl, a3, b4, b5⟩
      · rw [if_neg q2, if_neg q2]
        by_cases q3 : v.toInt = 3
        · rw [if_pos q3, if_pos q3, a1, qe_rV_e, f2, e2', nu_hasLeadC (by omega) (by omega) a2, qe_rI_e, d1, qe_rI_e]
          by_cases y : gs_bad C (gs_run R (gG s.1 R C) C) = true
          · rw [if_pos y, if_pos y, if_neg n10, if_pos rfl]
            exact ⟨_, _, _, rfl, rfl, a3, d4, d5⟩
          · rw [if_neg y, if_neg y, if_pos rfl, if_neg n10, f2, e2', a2.2.1, d3, d2.2.2.1, e2']
            exact ⟨_, _, _, rfl, rfl, a3, d4, d5⟩
        · rw [if_neg q3, if_neg q3]
          exact rd2.no hm rfl rfl
