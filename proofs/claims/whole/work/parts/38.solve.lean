/-! roots of quadratics -/
theorem mt_isInI (v a b : Int32) (m : qm_M) : F_M_isIn v.toInt64 a.toInt64 b.toInt64 m = some (some (.int (if v < a then 0 else if b < v then 0 else 1)), m) := by
  have h1 : (lg_cmp v.toInt64 a.toInt64 < 0) ↔ v < a := by
    rw [lg_cmp_lt, Int64.lt_iff_toInt_lt, Int32.lt_iff_toInt_lt, Int32.toInt_toInt64, Int32.toInt_toInt64]
  have h2 : (0 < lg_cmp v.toInt64 b.toInt64) ↔ b < v := by
    rw [lg_cmp_gt, Int64.lt_iff_toInt_lt, Int32.lt_iff_toInt_lt, Int32.toInt_toInt64, Int32.toInt_toInt64]
  unfold F_M_isIn X_M_isIn_e
  by_cases q1 : v < a
  · rw [if_pos (h1.mpr q1), if_pos q1]
  · rw [if_neg (fun z => q1 (h1.mp z)), if_neg q1]
    by_cases q2 : b < v
    · rw [if_pos (h2.mpr q2), if_pos q2]
    · rw [if_neg (fun z => q2 (h2.mp z)), if_neg q2]
/-- below, without sign, as the class and the model say it -/
def nw_below (x y : Int64) : Int32 := if lg_cmp (x ^^^ -9223372036854775808) (y ^^^ -9223372036854775808) < 0 then 1 else 0
theorem nu_belowE (x y : Int64) (m : qm_M) : F_Nu_below x y m = some (some (.int (nw_below x y)), m) := by
  unfold F_Nu_below X_Nu_below_e nw_below
  split <;> rfl
theorem mt_isLess (x y : Int64) (m : qm_M) : F_M_isLess x y m = some (some (.int (nw_below x y)), m) := by
  unfold F_M_isLess X_M_isLess_e nw_below
  split <;> rfl
noncomputable def nw_solveR (p a : nb_F) : nb_F := nb_mul a (nb_inv (nb_sq p))
noncomputable def nw_solve (p q : Int64) (w : Int32) : Int64 :=
  if w < 0 then 0 else if 2 < w then 0 else if nb p = 0 then (if w = 0 then 1 else bn (nb_rt (nb q))) else
  if (nw_solveR (nb p) (nb q)).getLsbD 63 = true then 0 else if w = 0 then 2 else
  if w = 1 then (if nw_below (bn (nb_mul (nb p) (nb_hv 6 (nw_solveR (nb p) (nb q))))) (bn (nb_mul (nb p) (nb_hv 6 (nw_solveR (nb p) (nb q)))) ^^^ p) = 1 then bn (nb_mul (nb p) (nb_hv 6 (nw_solveR (nb p) (nb q)))) else bn (nb_mul (nb p) (nb_hv 6 (nw_solveR (nb p) (nb q)))) ^^^ p)
  else (if nw_below (bn (nb_mul (nb p) (nb_hv 6 (nw_solveR (nb p) (nb q))))) (bn (nb_mul (nb p) (nb_hv 6 (nw_solveR (nb p) (nb q)))) ^^^ p) = 0 then bn (nb_mul (nb p) (nb_hv 6 (nw_solveR (nb p) (nb q)))) else bn (nb_mul (nb p) (nb_hv 6 (nw_solveR (nb p) (nb q)))) ^^^ p)
theorem tw_solve (p q : Int64) (w : Int32) (m : qm_M) : F_T_solve p q w m = some (some (.long (nw_solve p q w)), m) := by
  unfold F_T_solve X_T_solve_e nw_solve
  by_cases h1 : w < 0
  · rw [if_pos h1, if_pos h1]
  · by_cases h2 : 2 < w
    · rw [if_neg h1, if_neg h1, if_pos h2, if_pos h2]
    · rw [if_neg h1, if_neg h1, if_neg h2, if_neg h2]
      by_cases h3 : nb p = 0
      · rw [if_pos ((no_cmpz p).mpr h3), if_pos h3]
        by_cases h4 : w = 0
        · rw [if_pos h4, if_pos h4]
        · rw [if_neg h4, if_neg h4, nu_rootOf]
          rfl
      · rw [if_neg (fun z => h3 ((no_cmpz p).mp z)), if_neg h3, nu_square]
        dsimp only [qe_rL]
        rw [nu_inverted]
        dsimp only [qe_rL]
        rw [nu_product]
        dsimp only [qe_rL]
        rw [nb_bn, nb_bn, nu_hasHalf, nb_bn]
        dsimp only [qe_rI]
        have e : nb_mul (nb q) (nb_inv (nb_sq (nb p))) = nw_solveR (nb p) (nb q) := rfl
        rw [e]
        generalize nw_solveR (nb p) (nb q) = r
        by_cases h5 : r.getLsbD 63 = true
        · rw [if_pos h5, if_pos h5, if_pos rfl]
        · rw [if_neg h5, if_neg h5, if_neg (by decide)]
          by_cases h4 : w = 0
          · rw [if_pos h4, if_pos h4]
          · rw [if_neg h4, if_neg h4, nu_halved]
            dsimp only [qe_rL]
            rw [nu_product]
            dsimp only [qe_rL]
            rw [nu_belowE, nb_bn, nb_bn]
            dsimp only [qe_rI]
            generalize bn (nb_mul (nb p) (nb_hv 6 r)) = x
            generalize nw_below x (x ^^^ p) = y
            repeat' split
            all_goals rfl
theorem mt_solve76 {m : qm_M} (hm : nt_ok 64 m) (p y : Int64) (w : Int32) : L_M_solve_76 p w y m = some (some (.long (if w = 0 then 2 else
  if w = 1 then (if nw_below (bn (nb_mul (nb p) (nb y))) (bn (nb_mul (nb p) (nb y)) ^^^ p) = 1 then bn (nb_mul (nb p) (nb y)) else bn (nb_mul (nb p) (nb y)) ^^^ p)
  else (if nw_below (bn (nb_mul (nb p) (nb y))) (bn (nb_mul (nb p) (nb y)) ^^^ p) = 0 then bn (nb_mul (nb p) (nb y)) else bn (nb_mul (nb p) (nb y)) ^^^ p))), m) := by
  unfold L_M_solve_76 X_M_solve_76
  rw [mt_product hm]
  dsimp only [qe_rL]
  rw [mt_isLess]
  dsimp only [qe_rI]
  generalize bn (nb_mul (nb p) (nb y)) = x
  generalize nw_below x (x ^^^ p) = y
  repeat' split
  all_goals rfl
theorem mw_solve {m : qm_M} (hm : nt_ok 64 m) (p q : Int64) (w : Int32) : ∃ m1, F_M_solve p q w m = some (some (.long (nw_solve p q w)), m1) ∧ fr no_S nh_T m m1 := by
  unfold F_M_solve X_M_solve_e nw_solve
  have ei := mt_isInI w 0 2 m
  rw [show (0 : Int32).toInt64 = 0 from rfl, show (2 : Int32).toInt64 = 2 from rfl] at ei
  rw [ei]
  dsimp only [qe_rI]
  by_cases h1 : w < 0
  · rw [if_pos h1, if_pos rfl, if_pos h1]
    exact ⟨m, rfl, fr.rf m⟩
  · by_cases h2 : 2 < w
    · rw [if_neg h1, if_pos h2, if_pos rfl, if_neg h1, if_pos h2]
      exact ⟨m, rfl, fr.rf m⟩
    · rw [if_neg h1, if_neg h2, if_neg (by decide), if_neg h1, if_neg h2]
      by_cases h3 : nb p = 0
      · rw [if_pos ((no_cmpz p).mpr h3), if_pos h3]
        refine ⟨m, ?_, fr.rf m⟩
        by_cases h4 : w = 0
        · rw [if_pos h4, if_pos h4]
        · rw [if_neg h4, if_neg h4, mt_rootOf hm]
          rfl
      · rw [if_neg (fun z => h3 ((no_cmpz p).mp z)), if_neg h3, mt_square hm]
        dsimp only [qe_rL]
        rw [mt_inverseOf hm]
        dsimp only [qe_rL]
        rw [mt_product hm]
        dsimp only [qe_rL]
        rw [nb_bn, nb_bn]
        have e : nb_mul (nb q) (nb_inv (nb_mul (nb p) (nb p))) = nw_solveR (nb p) (nb q) := rfl
        rw [e]
        generalize nw_solveR (nb p) (nb q) = r
        obtain ⟨m1, g1, g2⟩ := mt_halfOf hm (bn r)
        have hm1 := hm.fr g2 (by decide)
        rw [g1, nb_bn]
        dsimp only [qe_rL]
        refine ⟨m1, ?_, g2⟩
        unfold nw_half
        by_cases h5 : r.getLsbD 63 = true
        · have hr : r ≠ 0 := fun z => by rw [z] at h5; simp at h5
          have c0 : lg_cmp (bn 0) 0 = 0 := (no_cmpz _).mpr rfl
          rw [if_pos h5, if_pos h5, if_neg (fun z => hr ((no_cmpz (bn r)).mp z)), if_pos c0]
        · rw [if_neg h5, if_neg h5, mt_solve76 hm1]
          have hk := nb_hv_ok 6 (by omega) r (nb_in6 r) (by simpa using h5)
          rw [nb_bn]
          by_cases hr : r = 0
          · have c0 : lg_cmp (bn r) 0 = 0 := (no_cmpz _).mpr hr
            rw [if_pos c0]
          · have c1 : ¬ lg_cmp (bn (nb_hv 6 r)) 0 = 0 := fun z => by
              have z1 : nb_hv 6 r = 0 := (no_cmpz _).mp z
              rw [z1] at hk
              exact hr (hk.2.1.symm.trans (by decide +kernel))
            have c0 : ¬ lg_cmp (bn r) 0 = 0 := fun z => hr ((no_cmpz _).mp z)
            rw [if_neg c0, if_neg c1]
