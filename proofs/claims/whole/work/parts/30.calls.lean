/-! the calls: what class and model answer. The numbers first -/
theorem tw_times (x y : Int64) (m : qm_M) : F_T_times x y m = some (some (.long (bn (nb_mul (nb x) (nb y)))), m) := by
  unfold F_T_times X_T_times_e
  rw [nu_product]
  dsimp only [qe_rL]
theorem mw_times {m : qm_M} (hm : nt_ok 64 m) (x y : Int64) : F_M_times x y m = some (some (.long (bn (nb_mul (nb x) (nb y)))), m) := by
  unfold F_M_times X_M_times_e
  rw [mt_product hm]
  dsimp only [qe_rL]
theorem tw_inverse (x : Int64) (m : qm_M) : F_T_inverse x m = some (some (.long (bn (nb_inv (nb x)))), m) := by
  unfold F_T_inverse X_T_inverse_e
  rw [nu_inverted]
  dsimp only [qe_rL]
theorem mw_inverse {m : qm_M} (hm : nt_ok 64 m) (x : Int64) : F_M_inverse x m = some (some (.long (bn (nb_inv (nb x)))), m) := by
  unfold F_M_inverse X_M_inverse_e
  rw [mt_inverseOf hm]
  dsimp only [qe_rL]
theorem tw_root (x : Int64) (m : qm_M) : F_T_root x m = some (some (.long (bn (nb_rt (nb x)))), m) := by
  unfold F_T_root X_T_root_e
  rw [nu_rootOf]
  dsimp only [qe_rL]
theorem mw_root {m : qm_M} (hm : nt_ok 64 m) (x : Int64) : F_M_root x m = some (some (.long (bn (nb_rt (nb x)))), m) := by
  unfold F_M_root X_M_root_e
  rw [mt_rootOf hm]
  dsimp only [qe_rL]
/-- the power by a long, of the inverse when it is below 0 -/
noncomputable def nw_power (x n : Int64) : nb_F := if lg_cmp n 0 < 0 then nb_inv (nb_pow (nb (-n)).toNat (nb x)) else nb_pow (nb n).toNat (nb x)
theorem tw_power (x n : Int64) (m : qm_M) : F_T_power x n m = some (some (.long (bn (nw_power x n))), m) := by
  unfold F_T_power X_T_power_e nw_power
  by_cases h : lg_cmp n 0 < 0
  · rw [if_pos h, if_pos h, nu_raisedTo]
    dsimp only [qe_rL]
    rw [nu_inverted]
    dsimp only [qe_rL]
    rw [nb_bn]
  · rw [if_neg h, if_neg h, nu_raisedTo]
    dsimp only [qe_rL]
theorem mw_power {m : qm_M} (hm : nt_ok 64 m) (x n : Int64) : F_M_power x n m = some (some (.long (bn (nw_power x n))), m) := by
  unfold F_M_power X_M_power_e nw_power
  by_cases h : lg_cmp n 0 < 0
  · rw [if_pos h, if_pos h, mt_powerOf hm]
    dsimp only [qe_rL]
    rw [mt_inverseOf hm]
    dsimp only [qe_rL]
    rw [nb_bn]
  · rw [if_neg h, if_neg h, mt_powerOf hm]
    dsimp only [qe_rL]
