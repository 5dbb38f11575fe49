/-! TurnFieldModel.shape(I)I -/
noncomputable def T_M_shape (f_M_laysStepForm : qm_M → Option qm_R) (f_M_isSolved : qm_M → Option qm_R) : qe_T := [(246, 0, 11, 0, qw_c 112 f_M_laysStepForm), (250, 0, 11, 1, qw_c 112 f_M_isSolved)]
def X_M_shape_e (f_M_laysStepForm : qm_M → Option qm_R) (f_M_isSolved : qm_M → Option qm_R) (v1 : Int32) (m : qm_M) : Option qm_R :=
  if Int32.toInt v1 = 0 then
    some (some (.int (Int64.toInt32 (m.2 113 15))), m)
  else
   if Int32.toInt v1 = 1 then
     some (some (.int (Int64.toInt32 (m.2 113 16))), m)
   else
    if Int32.toInt v1 = 2 then
      qe_rV (f_M_laysStepForm m) fun m1 =>
      some (some (.int (m1.1 112 21)), m1)
    else
     if Int32.toInt v1 = 3 then
       qe_rI (f_M_isSolved m) fun x1 m2 =>
       if x1 = 0 then
         some (some (.int (-2 : Int32)), m2)
       else
         some (some (.int (((m2.1 112 18) - (1 : Int32)) - (m2.1 112 21))), m2)
     else
       some (some (.int (-1 : Int32)), m)
set_option maxRecDepth 100000 in
theorem xg_M_shape_e {kp : pm_K} {d : Nat} {f_M_laysStepForm : qm_M → Option qm_R} {f_M_isSolved : qm_M → Option qm_R} (hT : qe_G kp d (T_M_shape f_M_laysStepForm f_M_isSolved)) (v1 : Int32) (m : qm_M) : qe_J kp md_M_shape d (X_M_shape_e f_M_laysStepForm f_M_isSolved v1 m) 0 [(0, .ref 112), (1, .int v1)] [] m := qe_run (B := []) (n := 1000) hT qe_B0 rfl
def F_M_shape (v1 : Int32) (m : qm_M) : Option qm_R := X_M_shape_e F_M_laysStepForm F_M_isSolved v1 m
theorem fj_M_shape {kp : pm_K} {d : Nat} (hT : qe_G kp d (T_M_shape F_M_laysStepForm F_M_isSolved)) (v1 : Int32) (m : qm_M) : qe_J kp md_M_shape d (F_M_shape v1 m) 0 [(0, .ref 112), (1, .int v1)] [] m := xg_M_shape_e hT v1 m
theorem fg_M_shape {kp : pm_K} (d : Nat) : qe_GE kp (d + 10) (251, 0, 11, 1, qw_ci 112 F_M_shape) := qe_entry (by decide +kernel) (qw_ci_ok (d := d + 9) rfl rfl (fj_M_shape (qe_G1 (fg_M_laysStepForm (d + 1)) (qe_G1 (fg_M_isSolved (d + 0)) qe_G0))))
/-! TurnFieldModel.solution(I)J -/
noncomputable def T_M_solution (f_M_isSolved : qm_M → Option qm_R) (f_M_isIn : Int64 → Int64 → Int64 → qm_M → Option qm_R) (f_M_cellAt : Int32 → Int32 → qm_M → Option qm_R) : qe_T := [(250, 0, 11, 1, qw_c 112 f_M_isSolved), (185, 1, 0, 1, qw_lll f_M_isIn), (240, 1, 0, 1, qw_ii f_M_cellAt)]
def X_M_solution_27 (f_M_isSolved : qm_M → Option qm_R) (f_M_isIn : Int64 → Int64 → Int64 → qm_M → Option qm_R) (f_M_cellAt : Int32 → Int32 → qm_M → Option qm_R) (l27 : Int32 → Int32 → qm_M → Option qm_R) (v1 : Int32) (v2 : Int32) (m : qm_M) : Option qm_R :=
  if v2 < (m.1 112 21) then
    qe_b (qm_in v2 4) (
    if (m.1 128 (Int32.toNatClampNeg v2)) = v1 then
      qe_rI (f_M_cellAt v2 ((m.1 112 18) - (1 : Int32)) m) fun x1 m1 =>
      qe_b (qm_in x1 32) (
      some (some (.long (m1.2 127 (Int32.toNatClampNeg x1))), m1))
    else
      l27 v1 (v2 + (1 : Int32)) m)
  else
    some (some (.long (0 : Int64)), m)
set_option maxRecDepth 100000 in
theorem xg_M_solution_27 {kp : pm_K} {d : Nat} {f_M_isSolved : qm_M → Option qm_R} {f_M_isIn : Int64 → Int64 → Int64 → qm_M → Option qm_R} {f_M_cellAt : Int32 → Int32 → qm_M → Option qm_R} {l27 : Int32 → Int32 → qm_M → Option qm_R} (hT : qe_G kp d (T_M_solution f_M_isSolved f_M_isIn f_M_cellAt)) (h27 : ∀ (v1 : Int32) (v2 : Int32) (m : qm_M), qe_J kp md_M_solution d (l27 v1 v2 m) 27 [(0, .ref 112), (1, .int v1), (2, .int v2)] [] m) (v1 : Int32) (v2 : Int32) (m : qm_M) : qe_J kp md_M_solution d (X_M_solution_27 f_M_isSolved f_M_isIn f_M_cellAt l27 v1 v2 m) 27 [(0, .ref 112), (1, .int v1), (2, .int v2)] [] m := qe_run (B := [(27, [0, 1, 2], qp_cii_ 112 l27)]) (n := 1000) hT (qe_B1 (qp_cii__ok h27) qe_B0) rfl
def L_M_solution_27 : Nat → Int32 → Int32 → qm_M → Option qm_R
  | 0, _, _, _ => none
  | n + 1, v1, v2, m => X_M_solution_27 F_M_isSolved F_M_isIn F_M_cellAt (L_M_solution_27 n) v1 v2 m
theorem lg_M_solution_27 {kp : pm_K} {d : Nat} (hT : qe_G kp d (T_M_solution F_M_isSolved F_M_isIn F_M_cellAt)) : ∀ (n : Nat) (v1 : Int32) (v2 : Int32) (m : qm_M), qe_J kp md_M_solution d (L_M_solution_27 n v1 v2 m) 27 [(0, .ref 112), (1, .int v1), (2, .int v2)] [] m
  | 0, v1, v2, m => qe_none rfl
  | n + 1, v1, v2, m => xg_M_solution_27 hT (lg_M_solution_27 hT n) v1 v2 m
def X_M_solution_e (f_M_isSolved : qm_M → Option qm_R) (f_M_isIn : Int64 → Int64 → Int64 → qm_M → Option qm_R) (f_M_cellAt : Int32 → Int32 → qm_M → Option qm_R) (l27 : Int32 → Int32 → qm_M → Option qm_R) (v1 : Int32) (m : qm_M) : Option qm_R :=
  qe_rI (f_M_isSolved m) fun x1 m1 =>
  if x1 = 0 then
    some (some (.long (0 : Int64)), m1)
  else
    qe_rI (f_M_isIn (Int32.toInt64 v1) (0 : Int64) (Int32.toInt64 ((m1.1 112 18) - (2 : Int32))) m1) fun x2 m2 =>
    if x2 = 0 then
      some (some (.long (0 : Int64)), m2)
    else
      l27 v1 (0 : Int32) m2
set_option maxRecDepth 100000 in
theorem xg_M_solution_e {kp : pm_K} {d : Nat} {f_M_isSolved : qm_M → Option qm_R} {f_M_isIn : Int64 → Int64 → Int64 → qm_M → Option qm_R} {f_M_cellAt : Int32 → Int32 → qm_M → Option qm_R} {l27 : Int32 → Int32 → qm_M → Option qm_R} (hT : qe_G kp d (T_M_solution f_M_isSolved f_M_isIn f_M_cellAt)) (h27 : ∀ (v1 : Int32) (v2 : Int32) (m : qm_M), qe_J kp md_M_solution d (l27 v1 v2 m) 27 [(0, .ref 112), (1, .int v1), (2, .int v2)] [] m) (v1 : Int32) (m : qm_M) : qe_J kp md_M_solution d (X_M_solution_e f_M_isSolved f_M_isIn f_M_cellAt l27 v1 m) 0 [(0, .ref 112), (1, .int v1)] [] m := qe_run (B := [(27, [0, 1, 2], qp_cii_ 112 l27)]) (n := 1000) hT (qe_B1 (qp_cii__ok h27) qe_B0) rfl
def F_M_solution (v1 : Int32) (m : qm_M) : Option qm_R := X_M_solution_e F_M_isSolved F_M_isIn F_M_cellAt (L_M_solution_27 1000000) v1 m
theorem fj_M_solution {kp : pm_K} {d : Nat} (hT : qe_G kp d (T_M_solution F_M_isSolved F_M_isIn F_M_cellAt)) (v1 : Int32) (m : qm_M) : qe_J kp md_M_solution d (F_M_solution v1 m) 0 [(0, .ref 112), (1, .int v1)] [] m := xg_M_solution_e hT (lg_M_solution_27 hT 1000000) v1 m
theorem fg_M_solution {kp : pm_K} (d : Nat) : qe_GE kp (d + 10) (252, 0, 11, 2, qw_ci 112 F_M_solution) := qe_entry (by decide +kernel) (qw_ci_ok (d := d + 9) rfl rfl (fj_M_solution (qe_G1 (fg_M_isSolved (d + 0)) (qe_G1 (fg_M_isIn (d + 8)) (qe_G1 (fg_M_cellAt (d + 8)) qe_G0)))))
/-! TurnFieldModel.keepsAct()V -/
noncomputable def T_M_keepsAct : qe_T := []
def X_M_keepsAct_52 (l52 : Int32 → qm_M → Option qm_R) (v1 : Int32) (m : qm_M) : Option qm_R :=
  if v1 < (33 : Int32) then
    qe_b (qm_in v1 33) (
    qe_b (qm_in (((33 : Int32) * (m.1 112 2)) + v1) 330) (
    let m1 : qm_M := qm_sL m 114 (Int32.toNatClampNeg (((33 : Int32) * (m.1 112 2)) + v1)) (m.2 113 (Int32.toNatClampNeg v1))
    l52 (v1 + (1 : Int32)) m1))
  else
    let m2 : qm_M := qm_sI m 112 2 ((m.1 112 2) + (1 : Int32))
    some (none, m2)
set_option maxRecDepth 100000 in
theorem xg_M_keepsAct_52 {kp : pm_K} {d : Nat} {l52 : Int32 → qm_M → Option qm_R} (hT : qe_G kp d (T_M_keepsAct)) (h52 : ∀ (v1 : Int32) (m : qm_M), qe_J kp md_M_keepsAct d (l52 v1 m) 52 [(0, .ref 112), (1, .int v1)] [] m) (v1 : Int32) (m : qm_M) : qe_J kp md_M_keepsAct d (X_M_keepsAct_52 l52 v1 m) 52 [(0, .ref 112), (1, .int v1)] [] m := qe_run (B := [(52, [0, 1], qp_ci_ 112 l52)]) (n := 1000) hT (qe_B1 (qp_ci__ok h52) qe_B0) rfl
def L_M_keepsAct_52 : Nat → Int32 → qm_M → Option qm_R
  | 0, _, _ => none
  | n + 1, v1, m => X_M_keepsAct_52 (L_M_keepsAct_52 n) v1 m
theorem lg_M_keepsAct_52 {kp : pm_K} {d : Nat} (hT : qe_G kp d (T_M_keepsAct)) : ∀ (n : Nat) (v1 : Int32) (m : qm_M), qe_J kp md_M_keepsAct d (L_M_keepsAct_52 n v1 m) 52 [(0, .ref 112), (1, .int v1)] [] m
  | 0, v1, m => qe_none rfl
  | n + 1, v1, m => xg_M_keepsAct_52 hT (lg_M_keepsAct_52 hT n) v1 m
def X_M_keepsAct_12 (l12 : Int32 → qm_M → Option qm_R) (l52 : Int32 → qm_M → Option qm_R) (v1 : Int32) (m : qm_M) : Option qm_R :=
  if v1 < (330 : Int32) then
    qe_b (qm_in v1 330) (
    qe_b (qm_in (v1 - (33 : Int32)) 330) (
    let m1 : qm_M := qm_sL m 114 (Int32.toNatClampNeg (v1 - (33 : Int32))) (m.2 114 (Int32.toNatClampNeg v1))
    l12 (v1 + (1 : Int32)) m1))
  else
    let m2 : qm_M := qm_sI m 112 2 ((m.1 112 2) - (1 : Int32))
    l52 (0 : Int32) m2
set_option maxRecDepth 100000 in
theorem xg_M_keepsAct_12 {kp : pm_K} {d : Nat} {l12 : Int32 → qm_M → Option qm_R} {l52 : Int32 → qm_M → Option qm_R} (hT : qe_G kp d (T_M_keepsAct)) (h12 : ∀ (v1 : Int32) (m : qm_M), qe_J kp md_M_keepsAct d (l12 v1 m) 12 [(0, .ref 112), (1, .int v1)] [] m) (h52 : ∀ (v1 : Int32) (m : qm_M), qe_J kp md_M_keepsAct d (l52 v1 m) 52 [(0, .ref 112), (1, .int v1)] [] m) (v1 : Int32) (m : qm_M) : qe_J kp md_M_keepsAct d (X_M_keepsAct_12 l12 l52 v1 m) 12 [(0, .ref 112), (1, .int v1)] [] m := qe_run (B := [(12, [0, 1], qp_ci_ 112 l12), (52, [0, 1], qp_ci_ 112 l52)]) (n := 1000) hT (qe_B1 (qp_ci__ok h12) (qe_B1 (qp_ci__ok h52) qe_B0)) rfl
def L_M_keepsAct_12 : Nat → Int32 → qm_M → Option qm_R
  | 0, _, _ => none
  | n + 1, v1, m => X_M_keepsAct_12 (L_M_keepsAct_12 n) (L_M_keepsAct_52 1000000) v1 m
theorem lg_M_keepsAct_12 {kp : pm_K} {d : Nat} (hT : qe_G kp d (T_M_keepsAct)) : ∀ (n : Nat) (v1 : Int32) (m : qm_M), qe_J kp md_M_keepsAct d (L_M_keepsAct_12 n v1 m) 12 [(0, .ref 112), (1, .int v1)] [] m
  | 0, v1, m => qe_none rfl
  | n + 1, v1, m => xg_M_keepsAct_12 hT (lg_M_keepsAct_12 hT n) (lg_M_keepsAct_52 hT 1000000) v1 m
def X_M_keepsAct_e (l12 : Int32 → qm_M → Option qm_R) (l52 : Int32 → qm_M → Option qm_R)  (m : qm_M) : Option qm_R :=
  if (m.1 112 2) = (10 : Int32) then
    l12 (33 : Int32) m
  else
    l52 (0 : Int32) m
set_option maxRecDepth 100000 in
theorem xg_M_keepsAct_e {kp : pm_K} {d : Nat} {l12 : Int32 → qm_M → Option qm_R} {l52 : Int32 → qm_M → Option qm_R} (hT : qe_G kp d (T_M_keepsAct)) (h12 : ∀ (v1 : Int32) (m : qm_M), qe_J kp md_M_keepsAct d (l12 v1 m) 12 [(0, .ref 112), (1, .int v1)] [] m) (h52 : ∀ (v1 : Int32) (m : qm_M), qe_J kp md_M_keepsAct d (l52 v1 m) 52 [(0, .ref 112), (1, .int v1)] [] m) (m : qm_M) : qe_J kp md_M_keepsAct d (X_M_keepsAct_e l12 l52 m) 0 [(0, .ref 112)] [] m := qe_run (B := [(12, [0, 1], qp_ci_ 112 l12), (52, [0, 1], qp_ci_ 112 l52)]) (n := 1000) hT (qe_B1 (qp_ci__ok h12) (qe_B1 (qp_ci__ok h52) qe_B0)) rfl
def F_M_keepsAct (m : qm_M) : Option qm_R := X_M_keepsAct_e (L_M_keepsAct_12 1000000) (L_M_keepsAct_52 1000000) m
theorem fj_M_keepsAct {kp : pm_K} {d : Nat} (hT : qe_G kp d (T_M_keepsAct)) (m : qm_M) : qe_J kp md_M_keepsAct d (F_M_keepsAct m) 0 [(0, .ref 112)] [] m := xg_M_keepsAct_e hT (lg_M_keepsAct_12 hT 1000000) (lg_M_keepsAct_52 hT 1000000) m
theorem fg_M_keepsAct {kp : pm_K} (d : Nat) : qe_GE kp (d + 1) (253, 0, 11, 0, qw_c 112 F_M_keepsAct) := qe_entry (by decide +kernel) (qw_c_ok (d := d + 0) rfl rfl (fj_M_keepsAct qe_G0))
/-! TurnFieldModel.undo()I -/
noncomputable def T_M_undo : qe_T := []
def X_M_undo_21 (l21 : Int32 → qm_M → Option qm_R) (v1 : Int32) (m : qm_M) : Option qm_R :=
  if v1 < (33 : Int32) then
    qe_b (qm_in (((33 : Int32) * (m.1 112 2)) + v1) 330) (
    qe_b (qm_in v1 33) (
    let m1 : qm_M := qm_sL m 113 (Int32.toNatClampNeg v1) (m.2 114 (Int32.toNatClampNeg (((33 : Int32) * (m.1 112 2)) + v1)))
    l21 (v1 + (1 : Int32)) m1))
  else
    some (some (.int (m.1 112 2)), m)
set_option maxRecDepth 100000 in
theorem xg_M_undo_21 {kp : pm_K} {d : Nat} {l21 : Int32 → qm_M → Option qm_R} (hT : qe_G kp d (T_M_undo)) (h21 : ∀ (v1 : Int32) (m : qm_M), qe_J kp md_M_undo d (l21 v1 m) 21 [(0, .ref 112), (1, .int v1)] [] m) (v1 : Int32) (m : qm_M) : qe_J kp md_M_undo d (X_M_undo_21 l21 v1 m) 21 [(0, .ref 112), (1, .int v1)] [] m := qe_run (B := [(21, [0, 1], qp_ci_ 112 l21)]) (n := 1000) hT (qe_B1 (qp_ci__ok h21) qe_B0) rfl
def L_M_undo_21 : Nat → Int32 → qm_M → Option qm_R
  | 0, _, _ => none
  | n + 1, v1, m => X_M_undo_21 (L_M_undo_21 n) v1 m
theorem lg_M_undo_21 {kp : pm_K} {d : Nat} (hT : qe_G kp d (T_M_undo)) : ∀ (n : Nat) (v1 : Int32) (m : qm_M), qe_J kp md_M_undo d (L_M_undo_21 n v1 m) 21 [(0, .ref 112), (1, .int v1)] [] m
  | 0, v1, m => qe_none rfl
  | n + 1, v1, m => xg_M_undo_21 hT (lg_M_undo_21 hT n) v1 m
def X_M_undo_e (l21 : Int32 → qm_M → Option qm_R)  (m : qm_M) : Option qm_R :=
  if (m.1 112 2) = 0 then
    some (some (.int (-1 : Int32)), m)
  else
    let m1 : qm_M := qm_sI m 112 2 ((m.1 112 2) - (1 : Int32))
    l21 (0 : Int32) m1
set_option maxRecDepth 100000 in
theorem xg_M_undo_e {kp : pm_K} {d : Nat} {l21 : Int32 → qm_M → Option qm_R} (hT : qe_G kp d (T_M_undo)) (h21 : ∀ (v1 : Int32) (m : qm_M), qe_J kp md_M_undo d (l21 v1 m) 21 [(0, .ref 112), (1, .int v1)] [] m) (m : qm_M) : qe_J kp md_M_undo d (X_M_undo_e l21 m) 0 [(0, .ref 112)] [] m := qe_run (B := [(21, [0, 1], qp_ci_ 112 l21)]) (n := 1000) hT (qe_B1 (qp_ci__ok h21) qe_B0) rfl
def F_M_undo (m : qm_M) : Option qm_R := X_M_undo_e (L_M_undo_21 1000000) m
theorem fj_M_undo {kp : pm_K} {d : Nat} (hT : qe_G kp d (T_M_undo)) (m : qm_M) : qe_J kp md_M_undo d (F_M_undo m) 0 [(0, .ref 112)] [] m := xg_M_undo_e hT (lg_M_undo_21 hT 1000000) m
theorem fg_M_undo {kp : pm_K} (d : Nat) : qe_GE kp (d + 1) (254, 0, 11, 1, qw_c 112 F_M_undo) := qe_entry (by decide +kernel) (qw_c_ok (d := d + 0) rfl rfl (fj_M_undo qe_G0))
/-! TurnFieldModel.isShelf(I)Z -/
noncomputable def T_M_isShelf (f_M_isIn : Int64 → Int64 → Int64 → qm_M → Option qm_R) : qe_T := [(185, 1, 0, 1, qw_lll f_M_isIn)]
def X_M_isShelf_e (f_M_isIn : Int64 → Int64 → Int64 → qm_M → Option qm_R) (v0 : Int32) (m : qm_M) : Option qm_R :=
  qe_rI (f_M_isIn (Int32.toInt64 v0) (0 : Int64) (1 : Int64) m) fun x1 m1 =>
  qe_b (qm_ni .boolean x1) (
  some (some (.int x1), m1))
set_option maxRecDepth 100000 in
theorem xg_M_isShelf_e {kp : pm_K} {d : Nat} {f_M_isIn : Int64 → Int64 → Int64 → qm_M → Option qm_R} (hT : qe_G kp d (T_M_isShelf f_M_isIn)) (v0 : Int32) (m : qm_M) : qe_J kp md_M_isShelf d (X_M_isShelf_e f_M_isIn v0 m) 0 [(0, .int v0)] [] m := qe_run (B := []) (n := 1000) hT qe_B0 rfl
def F_M_isShelf (v0 : Int32) (m : qm_M) : Option qm_R := X_M_isShelf_e F_M_isIn v0 m
theorem fj_M_isShelf {kp : pm_K} {d : Nat} (hT : qe_G kp d (T_M_isShelf F_M_isIn)) (v0 : Int32) (m : qm_M) : qe_J kp md_M_isShelf d (F_M_isShelf v0 m) 0 [(0, .int v0)] [] m := xg_M_isShelf_e hT v0 m
theorem fg_M_isShelf {kp : pm_K} (d : Nat) : qe_GE kp (d + 2) (255, 1, 0, 1, qw_i F_M_isShelf) := qe_entry (by decide +kernel) (qw_i_ok (d := d + 1) rfl rfl (fj_M_isShelf (qe_G1 (fg_M_isIn (d + 0)) qe_G0)))
/-! TurnFieldModel.heads()I -/
noncomputable def T_M_heads (f_M_size : Int64 → qm_M → Option qm_R) : qe_T := [(256, 1, 0, 1, qw_l f_M_size)]
def X_M_heads_e (f_M_size : Int64 → qm_M → Option qm_R)  (m : qm_M) : Option qm_R :=
  qe_rI (f_M_size (m.2 113 6) m) fun x1 m1 =>
  some (some (.int x1), m1)
set_option maxRecDepth 100000 in
theorem xg_M_heads_e {kp : pm_K} {d : Nat} {f_M_size : Int64 → qm_M → Option qm_R} (hT : qe_G kp d (T_M_heads f_M_size)) (m : qm_M) : qe_J kp md_M_heads d (X_M_heads_e f_M_size m) 0 [(0, .ref 112)] [] m := qe_run (B := []) (n := 1000) hT qe_B0 rfl
def F_M_heads (m : qm_M) : Option qm_R := X_M_heads_e F_M_size m
theorem fj_M_heads {kp : pm_K} {d : Nat} (hT : qe_G kp d (T_M_heads F_M_size)) (m : qm_M) : qe_J kp md_M_heads d (F_M_heads m) 0 [(0, .ref 112)] [] m := xg_M_heads_e hT m
theorem fg_M_heads {kp : pm_K} (d : Nat) : qe_GE kp (d + 2) (257, 0, 11, 1, qw_c 112 F_M_heads) := qe_entry (by decide +kernel) (qw_c_ok (d := d + 1) rfl rfl (fj_M_heads (qe_G1 (fg_M_size (d + 0)) qe_G0)))
/-! TurnFieldModel.keep(I)I -/
noncomputable def T_M_keep (f_M_isShelf : Int32 → qm_M → Option qm_R) (f_M_heads : qm_M → Option qm_R) : qe_T := [(255, 1, 0, 1, qw_i f_M_isShelf), (257, 0, 11, 1, qw_c 112 f_M_heads)]
def X_M_keep_11 (f_M_isShelf : Int32 → qm_M → Option qm_R) (f_M_heads : qm_M → Option qm_R) (l11 : Int32 → Int32 → qm_M → Option qm_R) (v1 : Int32) (v2 : Int32) (m : qm_M) : Option qm_R :=
  if v2 < (33 : Int32) then
    qe_b (qm_in v2 33) (
    qe_b (qm_in (((33 : Int32) * v1) + v2) 66) (
    let m1 : qm_M := qm_sL m 115 (Int32.toNatClampNeg (((33 : Int32) * v1) + v2)) (m.2 113 (Int32.toNatClampNeg v2))
    l11 v1 (v2 + (1 : Int32)) m1))
  else
    qe_b (qm_in v1 2) (
    let m2 : qm_M := qm_sI m 116 (Int32.toNatClampNeg v1) ((1 : Int32) &&& 1)
    qe_rI (f_M_heads m2) fun x1 m3 =>
    some (some (.int x1), m3))
set_option maxRecDepth 100000 in
theorem xg_M_keep_11 {kp : pm_K} {d : Nat} {f_M_isShelf : Int32 → qm_M → Option qm_R} {f_M_heads : qm_M → Option qm_R} {l11 : Int32 → Int32 → qm_M → Option qm_R} (hT : qe_G kp d (T_M_keep f_M_isShelf f_M_heads)) (h11 : ∀ (v1 : Int32) (v2 : Int32) (m : qm_M), qe_J kp md_M_keep d (l11 v1 v2 m) 11 [(0, .ref 112), (1, .int v1), (2, .int v2)] [] m) (v1 : Int32) (v2 : Int32) (m : qm_M) : qe_J kp md_M_keep d (X_M_keep_11 f_M_isShelf f_M_heads l11 v1 v2 m) 11 [(0, .ref 112), (1, .int v1), (2, .int v2)] [] m := qe_run (B := [(11, [0, 1, 2], qp_cii_ 112 l11)]) (n := 1000) hT (qe_B1 (qp_cii__ok h11) qe_B0) rfl
def L_M_keep_11 : Nat → Int32 → Int32 → qm_M → Option qm_R
  | 0, _, _, _ => none
  | n + 1, v1, v2, m => X_M_keep_11 F_M_isShelf F_M_heads (L_M_keep_11 n) v1 v2 m
theorem lg_M_keep_11 {kp : pm_K} {d : Nat} (hT : qe_G kp d (T_M_keep F_M_isShelf F_M_heads)) : ∀ (n : Nat) (v1 : Int32) (v2 : Int32) (m : qm_M), qe_J kp md_M_keep d (L_M_keep_11 n v1 v2 m) 11 [(0, .ref 112), (1, .int v1), (2, .int v2)] [] m
  | 0, v1, v2, m => qe_none rfl
  | n + 1, v1, v2, m => xg_M_keep_11 hT (lg_M_keep_11 hT n) v1 v2 m
def X_M_keep_e (f_M_isShelf : Int32 → qm_M → Option qm_R) (f_M_heads : qm_M → Option qm_R) (l11 : Int32 → Int32 → qm_M → Option qm_R) (v1 : Int32) (m : qm_M) : Option qm_R :=
  qe_rI (f_M_isShelf v1 m) fun x1 m1 =>
  if x1 = 0 then
    some (some (.int (-1 : Int32)), m1)
  else
    l11 v1 (0 : Int32) m1
set_option maxRecDepth 100000 in
theorem xg_M_keep_e {kp : pm_K} {d : Nat} {f_M_isShelf : Int32 → qm_M → Option qm_R} {f_M_heads : qm_M → Option qm_R} {l11 : Int32 → Int32 → qm_M → Option qm_R} (hT : qe_G kp d (T_M_keep f_M_isShelf f_M_heads)) (h11 : ∀ (v1 : Int32) (v2 : Int32) (m : qm_M), qe_J kp md_M_keep d (l11 v1 v2 m) 11 [(0, .ref 112), (1, .int v1), (2, .int v2)] [] m) (v1 : Int32) (m : qm_M) : qe_J kp md_M_keep d (X_M_keep_e f_M_isShelf f_M_heads l11 v1 m) 0 [(0, .ref 112), (1, .int v1)] [] m := qe_run (B := [(11, [0, 1, 2], qp_cii_ 112 l11)]) (n := 1000) hT (qe_B1 (qp_cii__ok h11) qe_B0) rfl
def F_M_keep (v1 : Int32) (m : qm_M) : Option qm_R := X_M_keep_e F_M_isShelf F_M_heads (L_M_keep_11 1000000) v1 m
theorem fj_M_keep {kp : pm_K} {d : Nat} (hT : qe_G kp d (T_M_keep F_M_isShelf F_M_heads)) (v1 : Int32) (m : qm_M) : qe_J kp md_M_keep d (F_M_keep v1 m) 0 [(0, .ref 112), (1, .int v1)] [] m := xg_M_keep_e hT (lg_M_keep_11 hT 1000000) v1 m
theorem fg_M_keep {kp : pm_K} (d : Nat) : qe_GE kp (d + 3) (258, 0, 11, 1, qw_ci 112 F_M_keep) := qe_entry (by decide +kernel) (qw_ci_ok (d := d + 2) rfl rfl (fj_M_keep (qe_G1 (fg_M_isShelf (d + 0)) (qe_G1 (fg_M_heads (d + 0)) qe_G0))))
/-! TurnFieldModel.back(I)I -/
noncomputable def T_M_back (f_M_isShelf : Int32 → qm_M → Option qm_R) (f_M_keepsAct : qm_M → Option qm_R) (f_M_heads : qm_M → Option qm_R) : qe_T := [(255, 1, 0, 1, qw_i f_M_isShelf), (253, 0, 11, 0, qw_c 112 f_M_keepsAct), (257, 0, 11, 1, qw_c 112 f_M_heads)]
def X_M_back_27 (f_M_isShelf : Int32 → qm_M → Option qm_R) (f_M_keepsAct : qm_M → Option qm_R) (f_M_heads : qm_M → Option qm_R) (l27 : Int32 → Int32 → qm_M → Option qm_R) (v1 : Int32) (v2 : Int32) (m : qm_M) : Option qm_R :=
  if v2 < (33 : Int32) then
    qe_b (qm_in (((33 : Int32) * v1) + v2) 66) (
    qe_b (qm_in v2 33) (
    let m1 : qm_M := qm_sL m 113 (Int32.toNatClampNeg v2) (m.2 115 (Int32.toNatClampNeg (((33 : Int32) * v1) + v2)))
    l27 v1 (v2 + (1 : Int32)) m1))
  else
    qe_rI (f_M_heads m) fun x1 m2 =>
    some (some (.int x1), m2)
set_option maxRecDepth 100000 in
theorem xg_M_back_27 {kp : pm_K} {d : Nat} {f_M_isShelf : Int32 → qm_M → Option qm_R} {f_M_keepsAct : qm_M → Option qm_R} {f_M_heads : qm_M → Option qm_R} {l27 : Int32 → Int32 → qm_M → Option qm_R} (hT : qe_G kp d (T_M_back f_M_isShelf f_M_keepsAct f_M_heads)) (h27 : ∀ (v1 : Int32) (v2 : Int32) (m : qm_M), qe_J kp md_M_back d (l27 v1 v2 m) 27 [(0, .ref 112), (1, .int v1), (2, .int v2)] [] m) (v1 : Int32) (v2 : Int32) (m : qm_M) : qe_J kp md_M_back d (X_M_back_27 f_M_isShelf f_M_keepsAct f_M_heads l27 v1 v2 m) 27 [(0, .ref 112), (1, .int v1), (2, .int v2)] [] m := qe_run (B := [(27, [0, 1, 2], qp_cii_ 112 l27)]) (n := 1000) hT (qe_B1 (qp_cii__ok h27) qe_B0) rfl
def L_M_back_27 : Nat → Int32 → Int32 → qm_M → Option qm_R
  | 0, _, _, _ => none
  | n + 1, v1, v2, m => X_M_back_27 F_M_isShelf F_M_keepsAct F_M_heads (L_M_back_27 n) v1 v2 m
theorem lg_M_back_27 {kp : pm_K} {d : Nat} (hT : qe_G kp d (T_M_back F_M_isShelf F_M_keepsAct F_M_heads)) : ∀ (n : Nat) (v1 : Int32) (v2 : Int32) (m : qm_M), qe_J kp md_M_back d (L_M_back_27 n v1 v2 m) 27 [(0, .ref 112), (1, .int v1), (2, .int v2)] [] m
  | 0, v1, v2, m => qe_none rfl
  | n + 1, v1, v2, m => xg_M_back_27 hT (lg_M_back_27 hT n) v1 v2 m
def X_M_back_e (f_M_isShelf : Int32 → qm_M → Option qm_R) (f_M_keepsAct : qm_M → Option qm_R) (f_M_heads : qm_M → Option qm_R) (l27 : Int32 → Int32 → qm_M → Option qm_R) (v1 : Int32) (m : qm_M) : Option qm_R :=
  qe_rI (f_M_isShelf v1 m) fun x1 m1 =>
  if x1 = 0 then
    some (some (.int (-1 : Int32)), m1)
  else
    qe_b (qm_in v1 2) (
    if (m1.1 116 (Int32.toNatClampNeg v1)) = 0 then
      some (some (.int (-2 : Int32)), m1)
    else
      qe_rV (f_M_keepsAct m1) fun m2 =>
      l27 v1 (0 : Int32) m2)
set_option maxRecDepth 100000 in
theorem xg_M_back_e {kp : pm_K} {d : Nat} {f_M_isShelf : Int32 → qm_M → Option qm_R} {f_M_keepsAct : qm_M → Option qm_R} {f_M_heads : qm_M → Option qm_R} {l27 : Int32 → Int32 → qm_M → Option qm_R} (hT : qe_G kp d (T_M_back f_M_isShelf f_M_keepsAct f_M_heads)) (h27 : ∀ (v1 : Int32) (v2 : Int32) (m : qm_M), qe_J kp md_M_back d (l27 v1 v2 m) 27 [(0, .ref 112), (1, .int v1), (2, .int v2)] [] m) (v1 : Int32) (m : qm_M) : qe_J kp md_M_back d (X_M_back_e f_M_isShelf f_M_keepsAct f_M_heads l27 v1 m) 0 [(0, .ref 112), (1, .int v1)] [] m := qe_run (B := [(27, [0, 1, 2], qp_cii_ 112 l27)]) (n := 1000) hT (qe_B1 (qp_cii__ok h27) qe_B0) rfl
def F_M_back (v1 : Int32) (m : qm_M) : Option qm_R := X_M_back_e F_M_isShelf F_M_keepsAct F_M_heads (L_M_back_27 1000000) v1 m
theorem fj_M_back {kp : pm_K} {d : Nat} (hT : qe_G kp d (T_M_back F_M_isShelf F_M_keepsAct F_M_heads)) (v1 : Int32) (m : qm_M) : qe_J kp md_M_back d (F_M_back v1 m) 0 [(0, .ref 112), (1, .int v1)] [] m := xg_M_back_e hT (lg_M_back_27 hT 1000000) v1 m
theorem fg_M_back {kp : pm_K} (d : Nat) : qe_GE kp (d + 3) (259, 0, 11, 1, qw_ci 112 F_M_back) := qe_entry (by decide +kernel) (qw_ci_ok (d := d + 2) rfl rfl (fj_M_back (qe_G1 (fg_M_isShelf (d + 0)) (qe_G1 (fg_M_keepsAct (d + 1)) (qe_G1 (fg_M_heads (d + 0)) qe_G0)))))
/-! TurnFieldModel.put(IJ)I -/
noncomputable def T_M_put (f_M_isIn : Int64 → Int64 → Int64 → qm_M → Option qm_R) (f_M_placeOf : Int32 → qm_M → Option qm_R) (f_M_keepsAct : qm_M → Option qm_R) : qe_T := [(185, 1, 0, 1, qw_lll f_M_isIn), (217, 0, 11, 2, qw_ci 112 f_M_placeOf), (253, 0, 11, 0, qw_c 112 f_M_keepsAct)]
def X_M_put_e (f_M_isIn : Int64 → Int64 → Int64 → qm_M → Option qm_R) (f_M_placeOf : Int32 → qm_M → Option qm_R) (f_M_keepsAct : qm_M → Option qm_R) (v1 : Int32) (v2 : Int64) (m : qm_M) : Option qm_R :=
  qe_rI (f_M_isIn (Int32.toInt64 v1) (0 : Int64) (7 : Int64) m) fun x1 m1 =>
  if x1 = 0 then
    some (some (.int (-1 : Int32)), m1)
  else
    qe_rL (f_M_placeOf v1 m1) fun x2 m2 =>
    if (lg_cmp x2 v2) = 0 then
      some (some (.int (-2 : Int32)), m2)
    else
      qe_rV (f_M_keepsAct m2) fun m3 =>
      qe_b (qm_in ((7 : Int32) + v1) 33) (
      let m4 : qm_M := qm_sL m3 113 (Int32.toNatClampNeg ((7 : Int32) + v1)) v2
      some (some (.int (1 : Int32)), m4))
set_option maxRecDepth 100000 in
theorem xg_M_put_e {kp : pm_K} {d : Nat} {f_M_isIn : Int64 → Int64 → Int64 → qm_M → Option qm_R} {f_M_placeOf : Int32 → qm_M → Option qm_R} {f_M_keepsAct : qm_M → Option qm_R} (hT : qe_G kp d (T_M_put f_M_isIn f_M_placeOf f_M_keepsAct)) (v1 : Int32) (v2 : Int64) (m : qm_M) : qe_J kp md_M_put d (X_M_put_e f_M_isIn f_M_placeOf f_M_keepsAct v1 v2 m) 0 [(0, .ref 112), (1, .int v1), (2, .long v2)] [] m := qe_run (B := []) (n := 1000) hT qe_B0 rfl
def F_M_put (v1 : Int32) (v2 : Int64) (m : qm_M) : Option qm_R := X_M_put_e F_M_isIn F_M_placeOf F_M_keepsAct v1 v2 m
theorem fj_M_put {kp : pm_K} {d : Nat} (hT : qe_G kp d (T_M_put F_M_isIn F_M_placeOf F_M_keepsAct)) (v1 : Int32) (v2 : Int64) (m : qm_M) : qe_J kp md_M_put d (F_M_put v1 v2 m) 0 [(0, .ref 112), (1, .int v1), (2, .long v2)] [] m := xg_M_put_e hT v1 v2 m
theorem fg_M_put {kp : pm_K} (d : Nat) : qe_GE kp (d + 2) (260, 0, 11, 1, qw_cil 112 F_M_put) := qe_entry (by decide +kernel) (qw_cil_ok (d := d + 1) rfl rfl (fj_M_put (qe_G1 (fg_M_isIn (d + 0)) (qe_G1 (fg_M_placeOf (d + 0)) (qe_G1 (fg_M_keepsAct (d + 0)) qe_G0)))))
/-! TurnFieldModel.reckoned(JJI)J -/
noncomputable def T_M_reckoned (f_M_product : Int64 → Int64 → qm_M → Option qm_R) (f_M_inverseOf : Int64 → qm_M → Option qm_R) (f_M_rootOf : Int64 → qm_M → Option qm_R) (f_M_powerOf : Int64 → Int64 → qm_M → Option qm_R) : qe_T := [(192, 0, 11, 2, qw_cll 112 f_M_product), (197, 0, 11, 2, qw_cl 112 f_M_inverseOf), (198, 0, 11, 2, qw_cl 112 f_M_rootOf), (194, 0, 11, 2, qw_cll 112 f_M_powerOf)]
def X_M_reckoned_e (f_M_product : Int64 → Int64 → qm_M → Option qm_R) (f_M_inverseOf : Int64 → qm_M → Option qm_R) (f_M_rootOf : Int64 → qm_M → Option qm_R) (f_M_powerOf : Int64 → Int64 → qm_M → Option qm_R) (v1 : Int64) (v3 : Int64) (v5 : Int32) (m : qm_M) : Option qm_R :=
  if Int32.toInt v5 = 0 then
    some (some (.long (v1 ^^^ v3)), m)
  else
   if Int32.toInt v5 = 1 then
     qe_rL (f_M_product v1 v3 m) fun x1 m1 =>
     some (some (.long x1), m1)
   else
    if Int32.toInt v5 = 2 then
      qe_rL (f_M_inverseOf v3 m) fun x2 m2 =>
      qe_rL (f_M_product v1 x2 m2) fun x3 m3 =>
      some (some (.long x3), m3)
    else
     if Int32.toInt v5 = 3 then
       qe_rL (f_M_rootOf v1 m) fun x4 m4 =>
       some (some (.long x4), m4)
     else
       qe_rL (f_M_powerOf v1 v3 m) fun x5 m5 =>
       some (some (.long x5), m5)
set_option maxRecDepth 100000 in
theorem xg_M_reckoned_e {kp : pm_K} {d : Nat} {f_M_product : Int64 → Int64 → qm_M → Option qm_R} {f_M_inverseOf : Int64 → qm_M → Option qm_R} {f_M_rootOf : Int64 → qm_M → Option qm_R} {f_M_powerOf : Int64 → Int64 → qm_M → Option qm_R} (hT : qe_G kp d (T_M_reckoned f_M_product f_M_inverseOf f_M_rootOf f_M_powerOf)) (v1 : Int64) (v3 : Int64) (v5 : Int32) (m : qm_M) : qe_J kp md_M_reckoned d (X_M_reckoned_e f_M_product f_M_inverseOf f_M_rootOf f_M_powerOf v1 v3 v5 m) 0 [(0, .ref 112), (1, .long v1), (3, .long v3), (5, .int v5)] [] m := qe_run (B := []) (n := 1000) hT qe_B0 rfl
def F_M_reckoned (v1 : Int64) (v3 : Int64) (v5 : Int32) (m : qm_M) : Option qm_R := X_M_reckoned_e F_M_product F_M_inverseOf F_M_rootOf F_M_powerOf v1 v3 v5 m
theorem fj_M_reckoned {kp : pm_K} {d : Nat} (hT : qe_G kp d (T_M_reckoned F_M_product F_M_inverseOf F_M_rootOf F_M_powerOf)) (v1 : Int64) (v3 : Int64) (v5 : Int32) (m : qm_M) : qe_J kp md_M_reckoned d (F_M_reckoned v1 v3 v5 m) 0 [(0, .ref 112), (1, .long v1), (3, .long v3), (5, .int v5)] [] m := xg_M_reckoned_e hT v1 v3 v5 m
theorem fg_M_reckoned {kp : pm_K} (d : Nat) : qe_GE kp (d + 6) (261, 0, 11, 2, qw_clli 112 F_M_reckoned) := qe_entry (by decide +kernel) (qw_clli_ok (d := d + 5) rfl rfl (fj_M_reckoned (qe_G1 (fg_M_product (d + 3)) (qe_G1 (fg_M_inverseOf (d + 0)) (qe_G1 (fg_M_rootOf (d + 1)) (qe_G1 (fg_M_powerOf (d + 1)) qe_G0))))))
/-! TurnFieldModel.reckon(IIII)I -/
noncomputable def T_M_reckon (f_M_isIn : Int64 → Int64 → Int64 → qm_M → Option qm_R) (f_M_placeOf : Int32 → qm_M → Option qm_R) (f_M_reckoned : Int64 → Int64 → Int32 → qm_M → Option qm_R) (f_M_keepsAct : qm_M → Option qm_R) : qe_T := [(185, 1, 0, 1, qw_lll f_M_isIn), (217, 0, 11, 2, qw_ci 112 f_M_placeOf), (261, 0, 11, 2, qw_clli 112 f_M_reckoned), (253, 0, 11, 0, qw_c 112 f_M_keepsAct)]
def X_M_reckon_99 (f_M_isIn : Int64 → Int64 → Int64 → qm_M → Option qm_R) (f_M_placeOf : Int32 → qm_M → Option qm_R) (f_M_reckoned : Int64 → Int64 → Int32 → qm_M → Option qm_R) (f_M_keepsAct : qm_M → Option qm_R) (v1 : Int32) (v4 : Int32) (s0 : Int64) (s1 : Int64) (m : qm_M) : Option qm_R :=
  qe_rL (f_M_reckoned s1 s0 v4 m) fun x1 m1 =>
  qe_rV (f_M_keepsAct m1) fun m2 =>
  qe_b (qm_in ((7 : Int32) + v1) 33) (
  let m3 : qm_M := qm_sL m2 113 (Int32.toNatClampNeg ((7 : Int32) + v1)) x1
  some (some (.int (1 : Int32)), m3))
set_option maxRecDepth 100000 in
theorem xg_M_reckon_99 {kp : pm_K} {d : Nat} {f_M_isIn : Int64 → Int64 → Int64 → qm_M → Option qm_R} {f_M_placeOf : Int32 → qm_M → Option qm_R} {f_M_reckoned : Int64 → Int64 → Int32 → qm_M → Option qm_R} {f_M_keepsAct : qm_M → Option qm_R} (hT : qe_G kp d (T_M_reckon f_M_isIn f_M_placeOf f_M_reckoned f_M_keepsAct)) (v1 : Int32) (v4 : Int32) (s0 : Int64) (s1 : Int64) (m : qm_M) : qe_J kp md_M_reckon d (X_M_reckon_99 f_M_isIn f_M_placeOf f_M_reckoned f_M_keepsAct v1 v4 s0 s1 m) 99 [(0, .ref 112), (1, .int v1), (4, .int v4)] [.long s0, .long s1, .ref 112] m := qe_run (B := []) (n := 1000) hT qe_B0 rfl
def L_M_reckon_99 (v1 : Int32) (v4 : Int32) (s0 : Int64) (s1 : Int64) (m : qm_M) : Option qm_R := X_M_reckon_99 F_M_isIn F_M_placeOf F_M_reckoned F_M_keepsAct v1 v4 s0 s1 m
theorem lg_M_reckon_99 {kp : pm_K} {d : Nat} (hT : qe_G kp d (T_M_reckon F_M_isIn F_M_placeOf F_M_reckoned F_M_keepsAct)) (v1 : Int32) (v4 : Int32) (s0 : Int64) (s1 : Int64) (m : qm_M) : qe_J kp md_M_reckon d (L_M_reckon_99 v1 v4 s0 s1 m) 99 [(0, .ref 112), (1, .int v1), (4, .int v4)] [.long s0, .long s1, .ref 112] m := xg_M_reckon_99 hT v1 v4 s0 s1 m
def X_M_reckon_78 (f_M_isIn : Int64 → Int64 → Int64 → qm_M → Option qm_R) (f_M_placeOf : Int32 → qm_M → Option qm_R) (f_M_reckoned : Int64 → Int64 → Int32 → qm_M → Option qm_R) (f_M_keepsAct : qm_M → Option qm_R) (l99 : Int32 → Int32 → Int64 → Int64 → qm_M → Option qm_R) (v1 : Int32) (v2 : Int32) (v3 : Int32) (v4 : Int32) (m : qm_M) : Option qm_R :=
  qe_rL (f_M_placeOf v2 m) fun x1 m1 =>
  if v4 = (3 : Int32) then
    l99 v1 v4 (0 : Int64) x1 m1
  else
    qe_rL (f_M_placeOf v3 m1) fun x2 m2 =>
    l99 v1 v4 x2 x1 m2
set_option maxRecDepth 100000 in
theorem xg_M_reckon_78 {kp : pm_K} {d : Nat} {f_M_isIn : Int64 → Int64 → Int64 → qm_M → Option qm_R} {f_M_placeOf : Int32 → qm_M → Option qm_R} {f_M_reckoned : Int64 → Int64 → Int32 → qm_M → Option qm_R} {f_M_keepsAct : qm_M → Option qm_R} {l99 : Int32 → Int32 → Int64 → Int64 → qm_M → Option qm_R} (hT : qe_G kp d (T_M_reckon f_M_isIn f_M_placeOf f_M_reckoned f_M_keepsAct)) (h99 : ∀ (v1 : Int32) (v4 : Int32) (s0 : Int64) (s1 : Int64) (m : qm_M), qe_J kp md_M_reckon d (l99 v1 v4 s0 s1 m) 99 [(0, .ref 112), (1, .int v1), (4, .int v4)] [.long s0, .long s1, .ref 112] m) (v1 : Int32) (v2 : Int32) (v3 : Int32) (v4 : Int32) (m : qm_M) : qe_J kp md_M_reckon d (X_M_reckon_78 f_M_isIn f_M_placeOf f_M_reckoned f_M_keepsAct l99 v1 v2 v3 v4 m) 78 [(0, .ref 112), (1, .int v1), (2, .int v2), (3, .int v3), (4, .int v4)] [] m := qe_run (B := [(99, [0, 1, 4], qp_cii_llc 112 112 l99)]) (n := 1000) hT (qe_B1 (qp_cii_llc_ok h99) qe_B0) rfl
def L_M_reckon_78 (v1 : Int32) (v2 : Int32) (v3 : Int32) (v4 : Int32) (m : qm_M) : Option qm_R := X_M_reckon_78 F_M_isIn F_M_placeOf F_M_reckoned F_M_keepsAct (L_M_reckon_99) v1 v2 v3 v4 m
theorem lg_M_reckon_78 {kp : pm_K} {d : Nat} (hT : qe_G kp d (T_M_reckon F_M_isIn F_M_placeOf F_M_reckoned F_M_keepsAct)) (v1 : Int32) (v2 : Int32) (v3 : Int32) (v4 : Int32) (m : qm_M) : qe_J kp md_M_reckon d (L_M_reckon_78 v1 v2 v3 v4 m) 78 [(0, .ref 112), (1, .int v1), (2, .int v2), (3, .int v3), (4, .int v4)] [] m := xg_M_reckon_78 hT (lg_M_reckon_99 hT) v1 v2 v3 v4 m
def X_M_reckon_59 (f_M_isIn : Int64 → Int64 → Int64 → qm_M → Option qm_R) (f_M_placeOf : Int32 → qm_M → Option qm_R) (f_M_reckoned : Int64 → Int64 → Int32 → qm_M → Option qm_R) (f_M_keepsAct : qm_M → Option qm_R) (l78 : Int32 → Int32 → Int32 → Int32 → qm_M → Option qm_R) (v1 : Int32) (v2 : Int32) (v3 : Int32) (v4 : Int32) (m : qm_M) : Option qm_R :=
  if v4 = (2 : Int32) then
    qe_rL (f_M_placeOf v3 m) fun x1 m1 =>
    if (lg_cmp x1 (0 : Int64)) = 0 then
      some (some (.int (-2 : Int32)), m1)
    else
      l78 v1 v2 v3 v4 m1
  else
    l78 v1 v2 v3 v4 m
set_option maxRecDepth 100000 in
theorem xg_M_reckon_59 {kp : pm_K} {d : Nat} {f_M_isIn : Int64 → Int64 → Int64 → qm_M → Option qm_R} {f_M_placeOf : Int32 → qm_M → Option qm_R} {f_M_reckoned : Int64 → Int64 → Int32 → qm_M → Option qm_R} {f_M_keepsAct : qm_M → Option qm_R} {l78 : Int32 → Int32 → Int32 → Int32 → qm_M → Option qm_R} (hT : qe_G kp d (T_M_reckon f_M_isIn f_M_placeOf f_M_reckoned f_M_keepsAct)) (h78 : ∀ (v1 : Int32) (v2 : Int32) (v3 : Int32) (v4 : Int32) (m : qm_M), qe_J kp md_M_reckon d (l78 v1 v2 v3 v4 m) 78 [(0, .ref 112), (1, .int v1), (2, .int v2), (3, .int v3), (4, .int v4)] [] m) (v1 : Int32) (v2 : Int32) (v3 : Int32) (v4 : Int32) (m : qm_M) : qe_J kp md_M_reckon d (X_M_reckon_59 f_M_isIn f_M_placeOf f_M_reckoned f_M_keepsAct l78 v1 v2 v3 v4 m) 59 [(0, .ref 112), (1, .int v1), (2, .int v2), (3, .int v3), (4, .int v4)] [] m := qe_run (B := [(78, [0, 1, 2, 3, 4], qp_ciiii_ 112 l78)]) (n := 1000) hT (qe_B1 (qp_ciiii__ok h78) qe_B0) rfl
def L_M_reckon_59 (v1 : Int32) (v2 : Int32) (v3 : Int32) (v4 : Int32) (m : qm_M) : Option qm_R := X_M_reckon_59 F_M_isIn F_M_placeOf F_M_reckoned F_M_keepsAct (L_M_reckon_78) v1 v2 v3 v4 m
theorem lg_M_reckon_59 {kp : pm_K} {d : Nat} (hT : qe_G kp d (T_M_reckon F_M_isIn F_M_placeOf F_M_reckoned F_M_keepsAct)) (v1 : Int32) (v2 : Int32) (v3 : Int32) (v4 : Int32) (m : qm_M) : qe_J kp md_M_reckon d (L_M_reckon_59 v1 v2 v3 v4 m) 59 [(0, .ref 112), (1, .int v1), (2, .int v2), (3, .int v3), (4, .int v4)] [] m := xg_M_reckon_59 hT (lg_M_reckon_78 hT) v1 v2 v3 v4 m
def X_M_reckon_e (f_M_isIn : Int64 → Int64 → Int64 → qm_M → Option qm_R) (f_M_placeOf : Int32 → qm_M → Option qm_R) (f_M_reckoned : Int64 → Int64 → Int32 → qm_M → Option qm_R) (f_M_keepsAct : qm_M → Option qm_R) (l59 : Int32 → Int32 → Int32 → Int32 → qm_M → Option qm_R) (v1 : Int32) (v2 : Int32) (v3 : Int32) (v4 : Int32) (m : qm_M) : Option qm_R :=
  qe_rI (f_M_isIn (Int32.toInt64 v1) (0 : Int64) (7 : Int64) m) fun x1 m1 =>
  if x1 = 0 then
    some (some (.int (-1 : Int32)), m1)
  else
    qe_rI (f_M_isIn (Int32.toInt64 v2) (0 : Int64) (7 : Int64) m1) fun x2 m2 =>
    if x2 = 0 then
      some (some (.int (-1 : Int32)), m2)
    else
      qe_rI (f_M_isIn (Int32.toInt64 v4) (0 : Int64) (4 : Int64) m2) fun x3 m3 =>
      if x3 = 0 then
        some (some (.int (-1 : Int32)), m3)
      else
        if v4 = (3 : Int32) then
          l59 v1 v2 v3 v4 m3
        else
          qe_rI (f_M_isIn (Int32.toInt64 v3) (0 : Int64) (7 : Int64) m3) fun x4 m4 =>
          if x4 = 0 then
            some (some (.int (-1 : Int32)), m4)
          else
            l59 v1 v2 v3 v4 m4
set_option maxRecDepth 100000 in
theorem xg_M_reckon_e {kp : pm_K} {d : Nat} {f_M_isIn : Int64 → Int64 → Int64 → qm_M → Option qm_R} {f_M_placeOf : Int32 → qm_M → Option qm_R} {f_M_reckoned : Int64 → Int64 → Int32 → qm_M → Option qm_R} {f_M_keepsAct : qm_M → Option qm_R} {l59 : Int32 → Int32 → Int32 → Int32 → qm_M → Option qm_R} (hT : qe_G kp d (T_M_reckon f_M_isIn f_M_placeOf f_M_reckoned f_M_keepsAct)) (h59 : ∀ (v1 : Int32) (v2 : Int32) (v3 : Int32) (v4 : Int32) (m : qm_M), qe_J kp md_M_reckon d (l59 v1 v2 v3 v4 m) 59 [(0, .ref 112), (1, .int v1), (2, .int v2), (3, .int v3), (4, .int v4)] [] m) (v1 : Int32) (v2 : Int32) (v3 : Int32) (v4 : Int32) (m : qm_M) : qe_J kp md_M_reckon d (X_M_reckon_e f_M_isIn f_M_placeOf f_M_reckoned f_M_keepsAct l59 v1 v2 v3 v4 m) 0 [(0, .ref 112), (1, .int v1), (2, .int v2), (3, .int v3), (4, .int v4)] [] m := qe_run (B := [(59, [0, 1, 2, 3, 4], qp_ciiii_ 112 l59)]) (n := 1000) hT (qe_B1 (qp_ciiii__ok h59) qe_B0) rfl
def F_M_reckon (v1 : Int32) (v2 : Int32) (v3 : Int32) (v4 : Int32) (m : qm_M) : Option qm_R := X_M_reckon_e F_M_isIn F_M_placeOf F_M_reckoned F_M_keepsAct (L_M_reckon_59) v1 v2 v3 v4 m
theorem fj_M_reckon {kp : pm_K} {d : Nat} (hT : qe_G kp d (T_M_reckon F_M_isIn F_M_placeOf F_M_reckoned F_M_keepsAct)) (v1 : Int32) (v2 : Int32) (v3 : Int32) (v4 : Int32) (m : qm_M) : qe_J kp md_M_reckon d (F_M_reckon v1 v2 v3 v4 m) 0 [(0, .ref 112), (1, .int v1), (2, .int v2), (3, .int v3), (4, .int v4)] [] m := xg_M_reckon_e hT (lg_M_reckon_59 hT) v1 v2 v3 v4 m
theorem fg_M_reckon {kp : pm_K} (d : Nat) : qe_GE kp (d + 7) (262, 0, 11, 1, qw_ciiii 112 F_M_reckon) := qe_entry (by decide +kernel) (qw_ciiii_ok (d := d + 6) rfl rfl (fj_M_reckon (qe_G1 (fg_M_isIn (d + 5)) (qe_G1 (fg_M_placeOf (d + 5)) (qe_G1 (fg_M_reckoned (d + 0)) (qe_G1 (fg_M_keepsAct (d + 5)) qe_G0))))))
/-! TurnFieldModel.grid(II)I -/
noncomputable def T_M_grid (f_M_isIn : Int64 → Int64 → Int64 → qm_M → Option qm_R) (f_M_keepsAct : qm_M → Option qm_R) : qe_T := [(185, 1, 0, 1, qw_lll f_M_isIn), (253, 0, 11, 0, qw_c 112 f_M_keepsAct)]
def X_M_grid_50 (f_M_isIn : Int64 → Int64 → Int64 → qm_M → Option qm_R) (f_M_keepsAct : qm_M → Option qm_R) (l50 : Int32 → Int32 → Int32 → qm_M → Option qm_R) (v1 : Int32) (v2 : Int32) (v3 : Int32) (m : qm_M) : Option qm_R :=
  if v3 < (16 : Int32) then
    qe_b (qm_in ((17 : Int32) + v3) 33) (
    let m1 : qm_M := qm_sL m 113 (Int32.toNatClampNeg ((17 : Int32) + v3)) (0 : Int64)
    l50 v1 v2 (v3 + (1 : Int32)) m1)
  else
    some (some (.int (v1 * v2)), m)
set_option maxRecDepth 100000 in
theorem xg_M_grid_50 {kp : pm_K} {d : Nat} {f_M_isIn : Int64 → Int64 → Int64 → qm_M → Option qm_R} {f_M_keepsAct : qm_M → Option qm_R} {l50 : Int32 → Int32 → Int32 → qm_M → Option qm_R} (hT : qe_G kp d (T_M_grid f_M_isIn f_M_keepsAct)) (h50 : ∀ (v1 : Int32) (v2 : Int32) (v3 : Int32) (m : qm_M), qe_J kp md_M_grid d (l50 v1 v2 v3 m) 50 [(0, .ref 112), (1, .int v1), (2, .int v2), (3, .int v3)] [] m) (v1 : Int32) (v2 : Int32) (v3 : Int32) (m : qm_M) : qe_J kp md_M_grid d (X_M_grid_50 f_M_isIn f_M_keepsAct l50 v1 v2 v3 m) 50 [(0, .ref 112), (1, .int v1), (2, .int v2), (3, .int v3)] [] m := qe_run (B := [(50, [0, 1, 2, 3], qp_ciii_ 112 l50)]) (n := 1000) hT (qe_B1 (qp_ciii__ok h50) qe_B0) rfl
def L_M_grid_50 : Nat → Int32 → Int32 → Int32 → qm_M → Option qm_R
  | 0, _, _, _, _ => none
  | n + 1, v1, v2, v3, m => X_M_grid_50 F_M_isIn F_M_keepsAct (L_M_grid_50 n) v1 v2 v3 m
theorem lg_M_grid_50 {kp : pm_K} {d : Nat} (hT : qe_G kp d (T_M_grid F_M_isIn F_M_keepsAct)) : ∀ (n : Nat) (v1 : Int32) (v2 : Int32) (v3 : Int32) (m : qm_M), qe_J kp md_M_grid d (L_M_grid_50 n v1 v2 v3 m) 50 [(0, .ref 112), (1, .int v1), (2, .int v2), (3, .int v3)] [] m
  | 0, v1, v2, v3, m => qe_none rfl
  | n + 1, v1, v2, v3, m => xg_M_grid_50 hT (lg_M_grid_50 hT n) v1 v2 v3 m
def X_M_grid_e (f_M_isIn : Int64 → Int64 → Int64 → qm_M → Option qm_R) (f_M_keepsAct : qm_M → Option qm_R) (l50 : Int32 → Int32 → Int32 → qm_M → Option qm_R) (v1 : Int32) (v2 : Int32) (m : qm_M) : Option qm_R :=
  qe_rI (f_M_isIn (Int32.toInt64 v1) (1 : Int64) (4 : Int64) m) fun x1 m1 =>
  if x1 = 0 then
    some (some (.int (-1 : Int32)), m1)
  else
    qe_rI (f_M_isIn (Int32.toInt64 v2) (1 : Int64) (4 : Int64) m1) fun x2 m2 =>
    if x2 = 0 then
      some (some (.int (-1 : Int32)), m2)
    else
      qe_rV (f_M_keepsAct m2) fun m3 =>
      let m4 : qm_M := qm_sL m3 113 15 (Int32.toInt64 v1)
      let m5 : qm_M := qm_sL m4 113 16 (Int32.toInt64 v2)
      l50 v1 v2 (0 : Int32) m5
set_option maxRecDepth 100000 in
theorem xg_M_grid_e {kp : pm_K} {d : Nat} {f_M_isIn : Int64 → Int64 → Int64 → qm_M → Option qm_R} {f_M_keepsAct : qm_M → Option qm_R} {l50 : Int32 → Int32 → Int32 → qm_M → Option qm_R} (hT : qe_G kp d (T_M_grid f_M_isIn f_M_keepsAct)) (h50 : ∀ (v1 : Int32) (v2 : Int32) (v3 : Int32) (m : qm_M), qe_J kp md_M_grid d (l50 v1 v2 v3 m) 50 [(0, .ref 112), (1, .int v1), (2, .int v2), (3, .int v3)] [] m) (v1 : Int32) (v2 : Int32) (m : qm_M) : qe_J kp md_M_grid d (X_M_grid_e f_M_isIn f_M_keepsAct l50 v1 v2 m) 0 [(0, .ref 112), (1, .int v1), (2, .int v2)] [] m := qe_run (B := [(50, [0, 1, 2, 3], qp_ciii_ 112 l50)]) (n := 1000) hT (qe_B1 (qp_ciii__ok h50) qe_B0) rfl
def F_M_grid (v1 : Int32) (v2 : Int32) (m : qm_M) : Option qm_R := X_M_grid_e F_M_isIn F_M_keepsAct (L_M_grid_50 1000000) v1 v2 m
theorem fj_M_grid {kp : pm_K} {d : Nat} (hT : qe_G kp d (T_M_grid F_M_isIn F_M_keepsAct)) (v1 : Int32) (v2 : Int32) (m : qm_M) : qe_J kp md_M_grid d (F_M_grid v1 v2 m) 0 [(0, .ref 112), (1, .int v1), (2, .int v2)] [] m := xg_M_grid_e hT (lg_M_grid_50 hT 1000000) v1 v2 m
theorem fg_M_grid {kp : pm_K} (d : Nat) : qe_GE kp (d + 2) (263, 0, 11, 1, qw_cii 112 F_M_grid) := qe_entry (by decide +kernel) (qw_cii_ok (d := d + 1) rfl rfl (fj_M_grid (qe_G1 (fg_M_isIn (d + 0)) (qe_G1 (fg_M_keepsAct (d + 0)) qe_G0))))
/-! TurnFieldModel.enter(IIJ)I -/
noncomputable def T_M_enter (f_M_isEntry : Int32 → Int32 → qm_M → Option qm_R) (f_M_entryOf : Int32 → Int32 → qm_M → Option qm_R) (f_M_keepsAct : qm_M → Option qm_R) : qe_T := [(247, 0, 11, 1, qw_cii 112 f_M_isEntry), (239, 0, 11, 2, qw_cii 112 f_M_entryOf), (253, 0, 11, 0, qw_c 112 f_M_keepsAct)]
def X_M_enter_e (f_M_isEntry : Int32 → Int32 → qm_M → Option qm_R) (f_M_entryOf : Int32 → Int32 → qm_M → Option qm_R) (f_M_keepsAct : qm_M → Option qm_R) (v1 : Int32) (v2 : Int32) (v3 : Int64) (m : qm_M) : Option qm_R :=
  qe_rI (f_M_isEntry v1 v2 m) fun x1 m1 =>
  if x1 = 0 then
    some (some (.int (-1 : Int32)), m1)
  else
    qe_rL (f_M_entryOf v1 v2 m1) fun x2 m2 =>
    if (lg_cmp x2 v3) = 0 then
      some (some (.int (-2 : Int32)), m2)
    else
      qe_rV (f_M_keepsAct m2) fun m3 =>
      qe_b (qm_in (((17 : Int32) + ((4 : Int32) * v1)) + v2) 33) (
      let m4 : qm_M := qm_sL m3 113 (Int32.toNatClampNeg (((17 : Int32) + ((4 : Int32) * v1)) + v2)) v3
      some (some (.int (1 : Int32)), m4))
set_option maxRecDepth 100000 in
theorem xg_M_enter_e {kp : pm_K} {d : Nat} {f_M_isEntry : Int32 → Int32 → qm_M → Option qm_R} {f_M_entryOf : Int32 → Int32 → qm_M → Option qm_R} {f_M_keepsAct : qm_M → Option qm_R} (hT : qe_G kp d (T_M_enter f_M_isEntry f_M_entryOf f_M_keepsAct)) (v1 : Int32) (v2 : Int32) (v3 : Int64) (m : qm_M) : qe_J kp md_M_enter d (X_M_enter_e f_M_isEntry f_M_entryOf f_M_keepsAct v1 v2 v3 m) 0 [(0, .ref 112), (1, .int v1), (2, .int v2), (3, .long v3)] [] m := qe_run (B := []) (n := 1000) hT qe_B0 rfl
def F_M_enter (v1 : Int32) (v2 : Int32) (v3 : Int64) (m : qm_M) : Option qm_R := X_M_enter_e F_M_isEntry F_M_entryOf F_M_keepsAct v1 v2 v3 m
theorem fj_M_enter {kp : pm_K} {d : Nat} (hT : qe_G kp d (T_M_enter F_M_isEntry F_M_entryOf F_M_keepsAct)) (v1 : Int32) (v2 : Int32) (v3 : Int64) (m : qm_M) : qe_J kp md_M_enter d (F_M_enter v1 v2 v3 m) 0 [(0, .ref 112), (1, .int v1), (2, .int v2), (3, .long v3)] [] m := xg_M_enter_e hT v1 v2 v3 m
theorem fg_M_enter {kp : pm_K} (d : Nat) : qe_GE kp (d + 3) (264, 0, 11, 1, qw_ciil 112 F_M_enter) := qe_entry (by decide +kernel) (qw_ciil_ok (d := d + 2) rfl rfl (fj_M_enter (qe_G1 (fg_M_isEntry (d + 0)) (qe_G1 (fg_M_entryOf (d + 1)) (qe_G1 (fg_M_keepsAct (d + 1)) qe_G0)))))
/-! TurnFieldModel.keptEntry(III)J -/
noncomputable def T_M_keptEntry : qe_T := []
def X_M_keptEntry_e (v1 : Int32) (v2 : Int32) (v3 : Int32) (m : qm_M) : Option qm_R :=
  qe_b (qm_in (((((33 : Int32) * v1) + (17 : Int32)) + ((4 : Int32) * v2)) + v3) 66) (
  some (some (.long (m.2 115 (Int32.toNatClampNeg (((((33 : Int32) * v1) + (17 : Int32)) + ((4 : Int32) * v2)) + v3)))), m))
set_option maxRecDepth 100000 in
theorem xg_M_keptEntry_e {kp : pm_K} {d : Nat} (hT : qe_G kp d (T_M_keptEntry)) (v1 : Int32) (v2 : Int32) (v3 : Int32) (m : qm_M) : qe_J kp md_M_keptEntry d (X_M_keptEntry_e v1 v2 v3 m) 0 [(0, .ref 112), (1, .int v1), (2, .int v2), (3, .int v3)] [] m := qe_run (B := []) (n := 1000) hT qe_B0 rfl
def F_M_keptEntry (v1 : Int32) (v2 : Int32) (v3 : Int32) (m : qm_M) : Option qm_R := X_M_keptEntry_e v1 v2 v3 m
theorem fj_M_keptEntry {kp : pm_K} {d : Nat} (hT : qe_G kp d (T_M_keptEntry)) (v1 : Int32) (v2 : Int32) (v3 : Int32) (m : qm_M) : qe_J kp md_M_keptEntry d (F_M_keptEntry v1 v2 v3 m) 0 [(0, .ref 112), (1, .int v1), (2, .int v2), (3, .int v3)] [] m := xg_M_keptEntry_e hT v1 v2 v3 m
theorem fg_M_keptEntry {kp : pm_K} (d : Nat) : qe_GE kp (d + 1) (265, 0, 11, 2, qw_ciii 112 F_M_keptEntry) := qe_entry (by decide +kernel) (qw_ciii_ok (d := d + 0) rfl rfl (fj_M_keptEntry qe_G0))
/-! TurnFieldModel.multiply(I)I -/
noncomputable def T_M_multiply (f_M_isShelf : Int32 → qm_M → Option qm_R) (f_M_laysForm : qm_M → Option qm_R) (f_M_keepsAct : qm_M → Option qm_R) (f_M_cellAt : Int32 → Int32 → qm_M → Option qm_R) (f_M_keptEntry : Int32 → Int32 → Int32 → qm_M → Option qm_R) (f_M_product : Int64 → Int64 → qm_M → Option qm_R) : qe_T := [(255, 1, 0, 1, qw_i f_M_isShelf), (241, 0, 11, 0, qw_c 112 f_M_laysForm), (253, 0, 11, 0, qw_c 112 f_M_keepsAct), (240, 1, 0, 1, qw_ii f_M_cellAt), (265, 0, 11, 2, qw_ciii 112 f_M_keptEntry), (192, 0, 11, 2, qw_cll 112 f_M_product)]
def X_M_multiply_148 (f_M_isShelf : Int32 → qm_M → Option qm_R) (f_M_laysForm : qm_M → Option qm_R) (f_M_keepsAct : qm_M → Option qm_R) (f_M_cellAt : Int32 → Int32 → qm_M → Option qm_R) (f_M_keptEntry : Int32 → Int32 → Int32 → qm_M → Option qm_R) (f_M_product : Int64 → Int64 → qm_M → Option qm_R) (l78 : Int32 → Int32 → Int32 → Int32 → qm_M → Option qm_R) (v1 : Int32) (v2 : Int32) (v3 : Int32) (v4 : Int32) (v5 : Int64) (m : qm_M) : Option qm_R :=
  qe_b (qm_in (((17 : Int32) + ((4 : Int32) * v3)) + v4) 33) (
  let m1 : qm_M := qm_sL m 113 (Int32.toNatClampNeg (((17 : Int32) + ((4 : Int32) * v3)) + v4)) v5
  l78 v1 v2 v3 (v4 + (1 : Int32)) m1)
set_option maxRecDepth 100000 in
theorem xg_M_multiply_148 {kp : pm_K} {d : Nat} {f_M_isShelf : Int32 → qm_M → Option qm_R} {f_M_laysForm : qm_M → Option qm_R} {f_M_keepsAct : qm_M → Option qm_R} {f_M_cellAt : Int32 → Int32 → qm_M → Option qm_R} {f_M_keptEntry : Int32 → Int32 → Int32 → qm_M → Option qm_R} {f_M_product : Int64 → Int64 → qm_M → Option qm_R} {l78 : Int32 → Int32 → Int32 → Int32 → qm_M → Option qm_R} (hT : qe_G kp d (T_M_multiply f_M_isShelf f_M_laysForm f_M_keepsAct f_M_cellAt f_M_keptEntry f_M_product)) (h78 : ∀ (v1 : Int32) (v2 : Int32) (v3 : Int32) (v4 : Int32) (m : qm_M), qe_J kp md_M_multiply d (l78 v1 v2 v3 v4 m) 78 [(0, .ref 112), (1, .int v1), (2, .int v2), (3, .int v3), (4, .int v4)] [] m) (v1 : Int32) (v2 : Int32) (v3 : Int32) (v4 : Int32) (v5 : Int64) (m : qm_M) : qe_J kp md_M_multiply d (X_M_multiply_148 f_M_isShelf f_M_laysForm f_M_keepsAct f_M_cellAt f_M_keptEntry f_M_product l78 v1 v2 v3 v4 v5 m) 148 [(0, .ref 112), (1, .int v1), (2, .int v2), (3, .int v3), (4, .int v4), (5, .long v5)] [] m := qe_run (B := [(78, [0, 1, 2, 3, 4], qp_ciiii_ 112 l78)]) (n := 1000) hT (qe_B1 (qp_ciiii__ok h78) qe_B0) rfl
def L_M_multiply_148 (K70 : Int32 → Int32 → Int32 → qm_M → Option qm_R) (K78 : Int32 → Int32 → Int32 → Int32 → qm_M → Option qm_R) (v1 : Int32) (v2 : Int32) (v3 : Int32) (v4 : Int32) (v5 : Int64) (m : qm_M) : Option qm_R := X_M_multiply_148 F_M_isShelf F_M_laysForm F_M_keepsAct F_M_cellAt F_M_keptEntry F_M_product K78 v1 v2 v3 v4 v5 m
theorem lg_M_multiply_148 {kp : pm_K} {d : Nat} (hT : qe_G kp d (T_M_multiply F_M_isShelf F_M_laysForm F_M_keepsAct F_M_cellAt F_M_keptEntry F_M_product)) {K70 : Int32 → Int32 → Int32 → qm_M → Option qm_R} (hK70 : ∀ (v1 : Int32) (v2 : Int32) (v3 : Int32) (m : qm_M), qe_J kp md_M_multiply d (K70 v1 v2 v3 m) 70 [(0, .ref 112), (1, .int v1), (2, .int v2), (3, .int v3)] [] m) {K78 : Int32 → Int32 → Int32 → Int32 → qm_M → Option qm_R} (hK78 : ∀ (v1 : Int32) (v2 : Int32) (v3 : Int32) (v4 : Int32) (m : qm_M), qe_J kp md_M_multiply d (K78 v1 v2 v3 v4 m) 78 [(0, .ref 112), (1, .int v1), (2, .int v2), (3, .int v3), (4, .int v4)] [] m) (v1 : Int32) (v2 : Int32) (v3 : Int32) (v4 : Int32) (v5 : Int64) (m : qm_M) : qe_J kp md_M_multiply d (L_M_multiply_148 K70 K78 v1 v2 v3 v4 v5 m) 148 [(0, .ref 112), (1, .int v1), (2, .int v2), (3, .int v3), (4, .int v4), (5, .long v5)] [] m := xg_M_multiply_148 hT hK78 v1 v2 v3 v4 v5 m
def X_M_multiply_90 (f_M_isShelf : Int32 → qm_M → Option qm_R) (f_M_laysForm : qm_M → Option qm_R) (f_M_keepsAct : qm_M → Option qm_R) (f_M_cellAt : Int32 → Int32 → qm_M → Option qm_R) (f_M_keptEntry : Int32 → Int32 → Int32 → qm_M → Option qm_R) (f_M_product : Int64 → Int64 → qm_M → Option qm_R) (l90 : Int32 → Int32 → Int32 → Int32 → Int64 → Int32 → qm_M → Option qm_R) (l148 : Int32 → Int32 → Int32 → Int32 → Int64 → qm_M → Option qm_R) (v1 : Int32) (v2 : Int32) (v3 : Int32) (v4 : Int32) (v5 : Int64) (v7 : Int32) (m : qm_M) : Option qm_R :=
  if v7 < (m.1 112 18) then
    if v3 < (m.1 112 17) then
      if v4 < v2 then
        qe_rI (f_M_cellAt v3 v7 m) fun x1 m1 =>
        qe_b (qm_in x1 32) (
        qe_rL (f_M_keptEntry v1 v7 v4 m1) fun x2 m2 =>
        qe_rL (f_M_product (m1.2 127 (Int32.toNatClampNeg x1)) x2 m2) fun x3 m3 =>
        l90 v1 v2 v3 v4 (v5 ^^^ x3) (v7 + (1 : Int32)) m3)
      else
        l148 v1 v2 v3 v4 v5 m
    else
      l148 v1 v2 v3 v4 v5 m
  else
    l148 v1 v2 v3 v4 v5 m
set_option maxRecDepth 100000 in
theorem xg_M_multiply_90 {kp : pm_K} {d : Nat} {f_M_isShelf : Int32 → qm_M → Option qm_R} {f_M_laysForm : qm_M → Option qm_R} {f_M_keepsAct : qm_M → Option qm_R} {f_M_cellAt : Int32 → Int32 → qm_M → Option qm_R} {f_M_keptEntry : Int32 → Int32 → Int32 → qm_M → Option qm_R} {f_M_product : Int64 → Int64 → qm_M → Option qm_R} {l90 : Int32 → Int32 → Int32 → Int32 → Int64 → Int32 → qm_M → Option qm_R} {l148 : Int32 → Int32 → Int32 → Int32 → Int64 → qm_M → Option qm_R} (hT : qe_G kp d (T_M_multiply f_M_isShelf f_M_laysForm f_M_keepsAct f_M_cellAt f_M_keptEntry f_M_product)) (h90 : ∀ (v1 : Int32) (v2 : Int32) (v3 : Int32) (v4 : Int32) (v5 : Int64) (v7 : Int32) (m : qm_M), qe_J kp md_M_multiply d (l90 v1 v2 v3 v4 v5 v7 m) 90 [(0, .ref 112), (1, .int v1), (2, .int v2), (3, .int v3), (4, .int v4), (5, .long v5), (7, .int v7)] [] m) (h148 : ∀ (v1 : Int32) (v2 : Int32) (v3 : Int32) (v4 : Int32) (v5 : Int64) (m : qm_M), qe_J kp md_M_multiply d (l148 v1 v2 v3 v4 v5 m) 148 [(0, .ref 112), (1, .int v1), (2, .int v2), (3, .int v3), (4, .int v4), (5, .long v5)] [] m) (v1 : Int32) (v2 : Int32) (v3 : Int32) (v4 : Int32) (v5 : Int64) (v7 : Int32) (m : qm_M) : qe_J kp md_M_multiply d (X_M_multiply_90 f_M_isShelf f_M_laysForm f_M_keepsAct f_M_cellAt f_M_keptEntry f_M_product l90 l148 v1 v2 v3 v4 v5 v7 m) 90 [(0, .ref 112), (1, .int v1), (2, .int v2), (3, .int v3), (4, .int v4), (5, .long v5), (7, .int v7)] [] m := qe_run (B := [(90, [0, 1, 2, 3, 4, 5, 7], qp_ciiiili_ 112 l90), (148, [0, 1, 2, 3, 4, 5], qp_ciiiil_ 112 l148)]) (n := 1000) hT (qe_B1 (qp_ciiiili__ok h90) (qe_B1 (qp_ciiiil__ok h148) qe_B0)) rfl
def L_M_multiply_90 (K70 : Int32 → Int32 → Int32 → qm_M → Option qm_R) (K78 : Int32 → Int32 → Int32 → Int32 → qm_M → Option qm_R) : Nat → Int32 → Int32 → Int32 → Int32 → Int64 → Int32 → qm_M → Option qm_R
  | 0, _, _, _, _, _, _, _ => none
  | n + 1, v1, v2, v3, v4, v5, v7, m => X_M_multiply_90 F_M_isShelf F_M_laysForm F_M_keepsAct F_M_cellAt F_M_keptEntry F_M_product (L_M_multiply_90 K70 K78 n) (L_M_multiply_148 K70 K78) v1 v2 v3 v4 v5 v7 m
theorem lg_M_multiply_90 {kp : pm_K} {d : Nat} (hT : qe_G kp d (T_M_multiply F_M_isShelf F_M_laysForm F_M_keepsAct F_M_cellAt F_M_keptEntry F_M_product)) {K70 : Int32 → Int32 → Int32 → qm_M → Option qm_R} (hK70 : ∀ (v1 : Int32) (v2 : Int32) (v3 : Int32) (m : qm_M), qe_J kp md_M_multiply d (K70 v1 v2 v3 m) 70 [(0, .ref 112), (1, .int v1), (2, .int v2), (3, .int v3)] [] m) {K78 : Int32 → Int32 → Int32 → Int32 → qm_M → Option qm_R} (hK78 : ∀ (v1 : Int32) (v2 : Int32) (v3 : Int32) (v4 : Int32) (m : qm_M), qe_J kp md_M_multiply d (K78 v1 v2 v3 v4 m) 78 [(0, .ref 112), (1, .int v1), (2, .int v2), (3, .int v3), (4, .int v4)] [] m) : ∀ (n : Nat) (v1 : Int32) (v2 : Int32) (v3 : Int32) (v4 : Int32) (v5 : Int64) (v7 : Int32) (m : qm_M), qe_J kp md_M_multiply d (L_M_multiply_90 K70 K78 n v1 v2 v3 v4 v5 v7 m) 90 [(0, .ref 112), (1, .int v1), (2, .int v2), (3, .int v3), (4, .int v4), (5, .long v5), (7, .int v7)] [] m
  | 0, v1, v2, v3, v4, v5, v7, m => qe_none rfl
  | n + 1, v1, v2, v3, v4, v5, v7, m => xg_M_multiply_90 hT (lg_M_multiply_90 hT hK70 hK78 n) (lg_M_multiply_148 hT hK70 hK78) v1 v2 v3 v4 v5 v7 m
def X_M_multiply_78 (f_M_isShelf : Int32 → qm_M → Option qm_R) (f_M_laysForm : qm_M → Option qm_R) (f_M_keepsAct : qm_M → Option qm_R) (f_M_cellAt : Int32 → Int32 → qm_M → Option qm_R) (f_M_keptEntry : Int32 → Int32 → Int32 → qm_M → Option qm_R) (f_M_product : Int64 → Int64 → qm_M → Option qm_R) (l70 : Int32 → Int32 → Int32 → qm_M → Option qm_R) (l90 : Int32 → Int32 → Int32 → Int32 → Int64 → Int32 → qm_M → Option qm_R) (v1 : Int32) (v2 : Int32) (v3 : Int32) (v4 : Int32) (m : qm_M) : Option qm_R :=
  if v4 < (4 : Int32) then
    l90 v1 v2 v3 v4 (0 : Int64) (0 : Int32) m
  else
    l70 v1 v2 (v3 + (1 : Int32)) m
set_option maxRecDepth 100000 in
theorem xg_M_multiply_78 {kp : pm_K} {d : Nat} {f_M_isShelf : Int32 → qm_M → Option qm_R} {f_M_laysForm : qm_M → Option qm_R} {f_M_keepsAct : qm_M → Option qm_R} {f_M_cellAt : Int32 → Int32 → qm_M → Option qm_R} {f_M_keptEntry : Int32 → Int32 → Int32 → qm_M → Option qm_R} {f_M_product : Int64 → Int64 → qm_M → Option qm_R} {l70 : Int32 → Int32 → Int32 → qm_M → Option qm_R} {l90 : Int32 → Int32 → Int32 → Int32 → Int64 → Int32 → qm_M → Option qm_R} (hT : qe_G kp d (T_M_multiply f_M_isShelf f_M_laysForm f_M_keepsAct f_M_cellAt f_M_keptEntry f_M_product)) (h70 : ∀ (v1 : Int32) (v2 : Int32) (v3 : Int32) (m : qm_M), qe_J kp md_M_multiply d (l70 v1 v2 v3 m) 70 [(0, .ref 112), (1, .int v1), (2, .int v2), (3, .int v3)] [] m) (h90 : ∀ (v1 : Int32) (v2 : Int32) (v3 : Int32) (v4 : Int32) (v5 : Int64) (v7 : Int32) (m : qm_M), qe_J kp md_M_multiply d (l90 v1 v2 v3 v4 v5 v7 m) 90 [(0, .ref 112), (1, .int v1), (2, .int v2), (3, .int v3), (4, .int v4), (5, .long v5), (7, .int v7)] [] m) (v1 : Int32) (v2 : Int32) (v3 : Int32) (v4 : Int32) (m : qm_M) : qe_J kp md_M_multiply d (X_M_multiply_78 f_M_isShelf f_M_laysForm f_M_keepsAct f_M_cellAt f_M_keptEntry f_M_product l70 l90 v1 v2 v3 v4 m) 78 [(0, .ref 112), (1, .int v1), (2, .int v2), (3, .int v3), (4, .int v4)] [] m := qe_run (B := [(70, [0, 1, 2, 3], qp_ciii_ 112 l70), (90, [0, 1, 2, 3, 4, 5, 7], qp_ciiiili_ 112 l90)]) (n := 1000) hT (qe_B1 (qp_ciii__ok h70) (qe_B1 (qp_ciiiili__ok h90) qe_B0)) rfl
def L_M_multiply_78 (K70 : Int32 → Int32 → Int32 → qm_M → Option qm_R) : Nat → Int32 → Int32 → Int32 → Int32 → qm_M → Option qm_R
  | 0, _, _, _, _, _ => none
  | n + 1, v1, v2, v3, v4, m => X_M_multiply_78 F_M_isShelf F_M_laysForm F_M_keepsAct F_M_cellAt F_M_keptEntry F_M_product K70 (L_M_multiply_90 K70 (L_M_multiply_78 K70 n) 1000000) v1 v2 v3 v4 m
theorem lg_M_multiply_78 {kp : pm_K} {d : Nat} (hT : qe_G kp d (T_M_multiply F_M_isShelf F_M_laysForm F_M_keepsAct F_M_cellAt F_M_keptEntry F_M_product)) {K70 : Int32 → Int32 → Int32 → qm_M → Option qm_R} (hK70 : ∀ (v1 : Int32) (v2 : Int32) (v3 : Int32) (m : qm_M), qe_J kp md_M_multiply d (K70 v1 v2 v3 m) 70 [(0, .ref 112), (1, .int v1), (2, .int v2), (3, .int v3)] [] m) : ∀ (n : Nat) (v1 : Int32) (v2 : Int32) (v3 : Int32) (v4 : Int32) (m : qm_M), qe_J kp md_M_multiply d (L_M_multiply_78 K70 n v1 v2 v3 v4 m) 78 [(0, .ref 112), (1, .int v1), (2, .int v2), (3, .int v3), (4, .int v4)] [] m
  | 0, v1, v2, v3, v4, m => qe_none rfl
  | n + 1, v1, v2, v3, v4, m => xg_M_multiply_78 hT hK70 (lg_M_multiply_90 hT hK70 (lg_M_multiply_78 hT hK70 n) 1000000) v1 v2 v3 v4 m
def X_M_multiply_70 (f_M_isShelf : Int32 → qm_M → Option qm_R) (f_M_laysForm : qm_M → Option qm_R) (f_M_keepsAct : qm_M → Option qm_R) (f_M_cellAt : Int32 → Int32 → qm_M → Option qm_R) (f_M_keptEntry : Int32 → Int32 → Int32 → qm_M → Option qm_R) (f_M_product : Int64 → Int64 → qm_M → Option qm_R) (l78 : Int32 → Int32 → Int32 → Int32 → qm_M → Option qm_R) (v1 : Int32) (v2 : Int32) (v3 : Int32) (m : qm_M) : Option qm_R :=
  if v3 < (4 : Int32) then
    l78 v1 v2 v3 (0 : Int32) m
  else
    let m1 : qm_M := qm_sL m 113 16 (Int32.toInt64 v2)
    some (some (.int ((m1.1 112 17) * v2)), m1)
set_option maxRecDepth 100000 in
theorem xg_M_multiply_70 {kp : pm_K} {d : Nat} {f_M_isShelf : Int32 → qm_M → Option qm_R} {f_M_laysForm : qm_M → Option qm_R} {f_M_keepsAct : qm_M → Option qm_R} {f_M_cellAt : Int32 → Int32 → qm_M → Option qm_R} {f_M_keptEntry : Int32 → Int32 → Int32 → qm_M → Option qm_R} {f_M_product : Int64 → Int64 → qm_M → Option qm_R} {l78 : Int32 → Int32 → Int32 → Int32 → qm_M → Option qm_R} (hT : qe_G kp d (T_M_multiply f_M_isShelf f_M_laysForm f_M_keepsAct f_M_cellAt f_M_keptEntry f_M_product)) (h78 : ∀ (v1 : Int32) (v2 : Int32) (v3 : Int32) (v4 : Int32) (m : qm_M), qe_J kp md_M_multiply d (l78 v1 v2 v3 v4 m) 78 [(0, .ref 112), (1, .int v1), (2, .int v2), (3, .int v3), (4, .int v4)] [] m) (v1 : Int32) (v2 : Int32) (v3 : Int32) (m : qm_M) : qe_J kp md_M_multiply d (X_M_multiply_70 f_M_isShelf f_M_laysForm f_M_keepsAct f_M_cellAt f_M_keptEntry f_M_product l78 v1 v2 v3 m) 70 [(0, .ref 112), (1, .int v1), (2, .int v2), (3, .int v3)] [] m := qe_run (B := [(78, [0, 1, 2, 3, 4], qp_ciiii_ 112 l78)]) (n := 1000) hT (qe_B1 (qp_ciiii__ok h78) qe_B0) rfl
def L_M_multiply_70 : Nat → Int32 → Int32 → Int32 → qm_M → Option qm_R
  | 0, _, _, _, _ => none
  | n + 1, v1, v2, v3, m => X_M_multiply_70 F_M_isShelf F_M_laysForm F_M_keepsAct F_M_cellAt F_M_keptEntry F_M_product (L_M_multiply_78 (L_M_multiply_70 n) 1000000) v1 v2 v3 m
theorem lg_M_multiply_70 {kp : pm_K} {d : Nat} (hT : qe_G kp d (T_M_multiply F_M_isShelf F_M_laysForm F_M_keepsAct F_M_cellAt F_M_keptEntry F_M_product)) : ∀ (n : Nat) (v1 : Int32) (v2 : Int32) (v3 : Int32) (m : qm_M), qe_J kp md_M_multiply d (L_M_multiply_70 n v1 v2 v3 m) 70 [(0, .ref 112), (1, .int v1), (2, .int v2), (3, .int v3)] [] m
  | 0, v1, v2, v3, m => qe_none rfl
  | n + 1, v1, v2, v3, m => xg_M_multiply_70 hT (lg_M_multiply_78 hT (lg_M_multiply_70 hT n) 1000000) v1 v2 v3 m
def X_M_multiply_e (f_M_isShelf : Int32 → qm_M → Option qm_R) (f_M_laysForm : qm_M → Option qm_R) (f_M_keepsAct : qm_M → Option qm_R) (f_M_cellAt : Int32 → Int32 → qm_M → Option qm_R) (f_M_keptEntry : Int32 → Int32 → Int32 → qm_M → Option qm_R) (f_M_product : Int64 → Int64 → qm_M → Option qm_R) (l70 : Int32 → Int32 → Int32 → qm_M → Option qm_R) (v1 : Int32) (m : qm_M) : Option qm_R :=
  qe_rI (f_M_isShelf v1 m) fun x1 m1 =>
  if x1 = 0 then
    some (some (.int (-1 : Int32)), m1)
  else
    qe_b (qm_in v1 2) (
    if (m1.1 116 (Int32.toNatClampNeg v1)) = 0 then
      some (some (.int (-1 : Int32)), m1)
    else
      qe_b (qm_in (((33 : Int32) * v1) + (15 : Int32)) 66) (
      if (lg_cmp (m1.2 113 16) (m1.2 115 (Int32.toNatClampNeg (((33 : Int32) * v1) + (15 : Int32))))) = 0 then
        qe_rV (f_M_laysForm m1) fun m2 =>
        qe_b (qm_in ((((33 : Int32) * v1) + (15 : Int32)) + (1 : Int32)) 66) (
        let x2 : Int32 := (Int64.toInt32 (m2.2 115 (Int32.toNatClampNeg ((((33 : Int32) * v1) + (15 : Int32)) + (1 : Int32)))))
        qe_rV (f_M_keepsAct m2) fun m3 =>
        l70 v1 x2 (0 : Int32) m3)
      else
        some (some (.int (-2 : Int32)), m1)))
set_option maxRecDepth 100000 in
theorem xg_M_multiply_e {kp : pm_K} {d : Nat} {f_M_isShelf : Int32 → qm_M → Option qm_R} {f_M_laysForm : qm_M → Option qm_R} {f_M_keepsAct : qm_M → Option qm_R} {f_M_cellAt : Int32 → Int32 → qm_M → Option qm_R} {f_M_keptEntry : Int32 → Int32 → Int32 → qm_M → Option qm_R} {f_M_product : Int64 → Int64 → qm_M → Option qm_R} {l70 : Int32 → Int32 → Int32 → qm_M → Option qm_R} (hT : qe_G kp d (T_M_multiply f_M_isShelf f_M_laysForm f_M_keepsAct f_M_cellAt f_M_keptEntry f_M_product)) (h70 : ∀ (v1 : Int32) (v2 : Int32) (v3 : Int32) (m : qm_M), qe_J kp md_M_multiply d (l70 v1 v2 v3 m) 70 [(0, .ref 112), (1, .int v1), (2, .int v2), (3, .int v3)] [] m) (v1 : Int32) (m : qm_M) : qe_J kp md_M_multiply d (X_M_multiply_e f_M_isShelf f_M_laysForm f_M_keepsAct f_M_cellAt f_M_keptEntry f_M_product l70 v1 m) 0 [(0, .ref 112), (1, .int v1)] [] m := qe_run (B := [(70, [0, 1, 2, 3], qp_ciii_ 112 l70)]) (n := 1000) hT (qe_B1 (qp_ciii__ok h70) qe_B0) rfl
def F_M_multiply (v1 : Int32) (m : qm_M) : Option qm_R := X_M_multiply_e F_M_isShelf F_M_laysForm F_M_keepsAct F_M_cellAt F_M_keptEntry F_M_product (L_M_multiply_70 1000000) v1 m
theorem fj_M_multiply {kp : pm_K} {d : Nat} (hT : qe_G kp d (T_M_multiply F_M_isShelf F_M_laysForm F_M_keepsAct F_M_cellAt F_M_keptEntry F_M_product)) (v1 : Int32) (m : qm_M) : qe_J kp md_M_multiply d (F_M_multiply v1 m) 0 [(0, .ref 112), (1, .int v1)] [] m := xg_M_multiply_e hT (lg_M_multiply_70 hT 1000000) v1 m
theorem fg_M_multiply {kp : pm_K} (d : Nat) : qe_GE kp (d + 3) (266, 0, 11, 1, qw_ci 112 F_M_multiply) := qe_entry (by decide +kernel) (qw_ci_ok (d := d + 2) rfl rfl (fj_M_multiply (qe_G1 (fg_M_isShelf (d + 0)) (qe_G1 (fg_M_laysForm (d + 0)) (qe_G1 (fg_M_keepsAct (d + 1)) (qe_G1 (fg_M_cellAt (d + 1)) (qe_G1 (fg_M_keptEntry (d + 1)) (qe_G1 (fg_M_product (d + 0)) qe_G0))))))))
/-! TurnFieldModel.invert()I -/
noncomputable def T_M_invert (f_M_laysForm : qm_M → Option qm_R) (f_M_cellAt : Int32 → Int32 → qm_M → Option qm_R) (f_M_clears : Int32 → qm_M → Option qm_R) (f_M_keepsAct : qm_M → Option qm_R) : qe_T := [(241, 0, 11, 0, qw_c 112 f_M_laysForm), (240, 1, 0, 1, qw_ii f_M_cellAt), (245, 0, 11, 0, qw_ci 112 f_M_clears), (253, 0, 11, 0, qw_c 112 f_M_keepsAct)]
def X_M_invert_95 (f_M_laysForm : qm_M → Option qm_R) (f_M_cellAt : Int32 → Int32 → qm_M → Option qm_R) (f_M_clears : Int32 → qm_M → Option qm_R) (f_M_keepsAct : qm_M → Option qm_R) (l85 : Int32 → qm_M → Option qm_R) (l95 : Int32 → Int32 → qm_M → Option qm_R) (v1 : Int32) (v2 : Int32) (m : qm_M) : Option qm_R :=
  if v2 < (m.1 112 18) then
    qe_rI (f_M_cellAt v1 ((m.1 112 18) + v2) m) fun x1 m1 =>
    qe_b (qm_in x1 32) (
    qe_b (qm_in (((17 : Int32) + ((4 : Int32) * v1)) + v2) 33) (
    let m2 : qm_M := qm_sL m1 113 (Int32.toNatClampNeg (((17 : Int32) + ((4 : Int32) * v1)) + v2)) (m1.2 127 (Int32.toNatClampNeg x1))
    l95 v1 (v2 + (1 : Int32)) m2))
  else
    l85 (v1 + (1 : Int32)) m
set_option maxRecDepth 100000 in
theorem xg_M_invert_95 {kp : pm_K} {d : Nat} {f_M_laysForm : qm_M → Option qm_R} {f_M_cellAt : Int32 → Int32 → qm_M → Option qm_R} {f_M_clears : Int32 → qm_M → Option qm_R} {f_M_keepsAct : qm_M → Option qm_R} {l85 : Int32 → qm_M → Option qm_R} {l95 : Int32 → Int32 → qm_M → Option qm_R} (hT : qe_G kp d (T_M_invert f_M_laysForm f_M_cellAt f_M_clears f_M_keepsAct)) (h85 : ∀ (v1 : Int32) (m : qm_M), qe_J kp md_M_invert d (l85 v1 m) 85 [(0, .ref 112), (1, .int v1)] [] m) (h95 : ∀ (v1 : Int32) (v2 : Int32) (m : qm_M), qe_J kp md_M_invert d (l95 v1 v2 m) 95 [(0, .ref 112), (1, .int v1), (2, .int v2)] [] m) (v1 : Int32) (v2 : Int32) (m : qm_M) : qe_J kp md_M_invert d (X_M_invert_95 f_M_laysForm f_M_cellAt f_M_clears f_M_keepsAct l85 l95 v1 v2 m) 95 [(0, .ref 112), (1, .int v1), (2, .int v2)] [] m := qe_run (B := [(85, [0, 1], qp_ci_ 112 l85), (95, [0, 1, 2], qp_cii_ 112 l95)]) (n := 1000) hT (qe_B1 (qp_ci__ok h85) (qe_B1 (qp_cii__ok h95) qe_B0)) rfl
def L_M_invert_95 (K85 : Int32 → qm_M → Option qm_R) : Nat → Int32 → Int32 → qm_M → Option qm_R
  | 0, _, _, _ => none
  | n + 1, v1, v2, m => X_M_invert_95 F_M_laysForm F_M_cellAt F_M_clears F_M_keepsAct K85 (L_M_invert_95 K85 n) v1 v2 m
theorem lg_M_invert_95 {kp : pm_K} {d : Nat} (hT : qe_G kp d (T_M_invert F_M_laysForm F_M_cellAt F_M_clears F_M_keepsAct)) {K85 : Int32 → qm_M → Option qm_R} (hK85 : ∀ (v1 : Int32) (m : qm_M), qe_J kp md_M_invert d (K85 v1 m) 85 [(0, .ref 112), (1, .int v1)] [] m) : ∀ (n : Nat) (v1 : Int32) (v2 : Int32) (m : qm_M), qe_J kp md_M_invert d (L_M_invert_95 K85 n v1 v2 m) 95 [(0, .ref 112), (1, .int v1), (2, .int v2)] [] m
  | 0, v1, v2, m => qe_none rfl
  | n + 1, v1, v2, m => xg_M_invert_95 hT hK85 (lg_M_invert_95 hT hK85 n) v1 v2 m
def X_M_invert_85 (f_M_laysForm : qm_M → Option qm_R) (f_M_cellAt : Int32 → Int32 → qm_M → Option qm_R) (f_M_clears : Int32 → qm_M → Option qm_R) (f_M_keepsAct : qm_M → Option qm_R) (l95 : Int32 → Int32 → qm_M → Option qm_R) (v1 : Int32) (m : qm_M) : Option qm_R :=
  if v1 < (m.1 112 17) then
    l95 v1 (0 : Int32) m
  else
    some (some (.int (1 : Int32)), m)
set_option maxRecDepth 100000 in
theorem xg_M_invert_85 {kp : pm_K} {d : Nat} {f_M_laysForm : qm_M → Option qm_R} {f_M_cellAt : Int32 → Int32 → qm_M → Option qm_R} {f_M_clears : Int32 → qm_M → Option qm_R} {f_M_keepsAct : qm_M → Option qm_R} {l95 : Int32 → Int32 → qm_M → Option qm_R} (hT : qe_G kp d (T_M_invert f_M_laysForm f_M_cellAt f_M_clears f_M_keepsAct)) (h95 : ∀ (v1 : Int32) (v2 : Int32) (m : qm_M), qe_J kp md_M_invert d (l95 v1 v2 m) 95 [(0, .ref 112), (1, .int v1), (2, .int v2)] [] m) (v1 : Int32) (m : qm_M) : qe_J kp md_M_invert d (X_M_invert_85 f_M_laysForm f_M_cellAt f_M_clears f_M_keepsAct l95 v1 m) 85 [(0, .ref 112), (1, .int v1)] [] m := qe_run (B := [(95, [0, 1, 2], qp_cii_ 112 l95)]) (n := 1000) hT (qe_B1 (qp_cii__ok h95) qe_B0) rfl
def L_M_invert_85 : Nat → Int32 → qm_M → Option qm_R
  | 0, _, _ => none
  | n + 1, v1, m => X_M_invert_85 F_M_laysForm F_M_cellAt F_M_clears F_M_keepsAct (L_M_invert_95 (L_M_invert_85 n) 1000000) v1 m
theorem lg_M_invert_85 {kp : pm_K} {d : Nat} (hT : qe_G kp d (T_M_invert F_M_laysForm F_M_cellAt F_M_clears F_M_keepsAct)) : ∀ (n : Nat) (v1 : Int32) (m : qm_M), qe_J kp md_M_invert d (L_M_invert_85 n v1 m) 85 [(0, .ref 112), (1, .int v1)] [] m
  | 0, v1, m => qe_none rfl
  | n + 1, v1, m => xg_M_invert_85 hT (lg_M_invert_95 hT (lg_M_invert_85 hT n) 1000000) v1 m
def X_M_invert_27 (f_M_laysForm : qm_M → Option qm_R) (f_M_cellAt : Int32 → Int32 → qm_M → Option qm_R) (f_M_clears : Int32 → qm_M → Option qm_R) (f_M_keepsAct : qm_M → Option qm_R) (l27 : Int32 → qm_M → Option qm_R) (l85 : Int32 → qm_M → Option qm_R) (v1 : Int32) (m : qm_M) : Option qm_R :=
  if v1 < (m.1 112 17) then
    qe_rI (f_M_cellAt v1 ((m.1 112 18) + v1) m) fun x1 m1 =>
    qe_b (qm_in x1 32) (
    let m2 : qm_M := qm_sL m1 127 (Int32.toNatClampNeg x1) (1 : Int64)
    l27 (v1 + (1 : Int32)) m2)
  else
    qe_rV (f_M_clears (m.1 112 18) m) fun m3 =>
    if (m3.1 112 21) < (m3.1 112 17) then
      some (some (.int (-2 : Int32)), m3)
    else
      qe_rV (f_M_keepsAct m3) fun m4 =>
      l85 (0 : Int32) m4
set_option maxRecDepth 100000 in
theorem xg_M_invert_27 {kp : pm_K} {d : Nat} {f_M_laysForm : qm_M → Option qm_R} {f_M_cellAt : Int32 → Int32 → qm_M → Option qm_R} {f_M_clears : Int32 → qm_M → Option qm_R} {f_M_keepsAct : qm_M → Option qm_R} {l27 : Int32 → qm_M → Option qm_R} {l85 : Int32 → qm_M → Option qm_R} (hT : qe_G kp d (T_M_invert f_M_laysForm f_M_cellAt f_M_clears f_M_keepsAct)) (h27 : ∀ (v1 : Int32) (m : qm_M), qe_J kp md_M_invert d (l27 v1 m) 27 [(0, .ref 112), (1, .int v1)] [] m) (h85 : ∀ (v1 : Int32) (m : qm_M), qe_J kp md_M_invert d (l85 v1 m) 85 [(0, .ref 112), (1, .int v1)] [] m) (v1 : Int32) (m : qm_M) : qe_J kp md_M_invert d (X_M_invert_27 f_M_laysForm f_M_cellAt f_M_clears f_M_keepsAct l27 l85 v1 m) 27 [(0, .ref 112), (1, .int v1)] [] m := qe_run (B := [(27, [0, 1], qp_ci_ 112 l27), (85, [0, 1], qp_ci_ 112 l85)]) (n := 1000) hT (qe_B1 (qp_ci__ok h27) (qe_B1 (qp_ci__ok h85) qe_B0)) rfl
def L_M_invert_27 : Nat → Int32 → qm_M → Option qm_R
  | 0, _, _ => none
  | n + 1, v1, m => X_M_invert_27 F_M_laysForm F_M_cellAt F_M_clears F_M_keepsAct (L_M_invert_27 n) (L_M_invert_85 1000000) v1 m
theorem lg_M_invert_27 {kp : pm_K} {d : Nat} (hT : qe_G kp d (T_M_invert F_M_laysForm F_M_cellAt F_M_clears F_M_keepsAct)) : ∀ (n : Nat) (v1 : Int32) (m : qm_M), qe_J kp md_M_invert d (L_M_invert_27 n v1 m) 27 [(0, .ref 112), (1, .int v1)] [] m
  | 0, v1, m => qe_none rfl
  | n + 1, v1, m => xg_M_invert_27 hT (lg_M_invert_27 hT n) (lg_M_invert_85 hT 1000000) v1 m
def X_M_invert_e (f_M_laysForm : qm_M → Option qm_R) (f_M_cellAt : Int32 → Int32 → qm_M → Option qm_R) (f_M_clears : Int32 → qm_M → Option qm_R) (f_M_keepsAct : qm_M → Option qm_R) (l27 : Int32 → qm_M → Option qm_R)  (m : qm_M) : Option qm_R :=
  if (lg_cmp (m.2 113 15) (m.2 113 16)) = 0 then
    qe_rV (f_M_laysForm m) fun m1 =>
    l27 (0 : Int32) m1
  else
    some (some (.int (-2 : Int32)), m)
set_option maxRecDepth 100000 in
theorem xg_M_invert_e {kp : pm_K} {d : Nat} {f_M_laysForm : qm_M → Option qm_R} {f_M_cellAt : Int32 → Int32 → qm_M → Option qm_R} {f_M_clears : Int32 → qm_M → Option qm_R} {f_M_keepsAct : qm_M → Option qm_R} {l27 : Int32 → qm_M → Option qm_R} (hT : qe_G kp d (T_M_invert f_M_laysForm f_M_cellAt f_M_clears f_M_keepsAct)) (h27 : ∀ (v1 : Int32) (m : qm_M), qe_J kp md_M_invert d (l27 v1 m) 27 [(0, .ref 112), (1, .int v1)] [] m) (m : qm_M) : qe_J kp md_M_invert d (X_M_invert_e f_M_laysForm f_M_cellAt f_M_clears f_M_keepsAct l27 m) 0 [(0, .ref 112)] [] m := qe_run (B := [(27, [0, 1], qp_ci_ 112 l27)]) (n := 1000) hT (qe_B1 (qp_ci__ok h27) qe_B0) rfl
def F_M_invert (m : qm_M) : Option qm_R := X_M_invert_e F_M_laysForm F_M_cellAt F_M_clears F_M_keepsAct (L_M_invert_27 1000000) m
theorem fj_M_invert {kp : pm_K} {d : Nat} (hT : qe_G kp d (T_M_invert F_M_laysForm F_M_cellAt F_M_clears F_M_keepsAct)) (m : qm_M) : qe_J kp md_M_invert d (F_M_invert m) 0 [(0, .ref 112)] [] m := xg_M_invert_e hT (lg_M_invert_27 hT 1000000) m
theorem fg_M_invert {kp : pm_K} (d : Nat) : qe_GE kp (d + 8) (267, 0, 11, 1, qw_c 112 F_M_invert) := qe_entry (by decide +kernel) (qw_c_ok (d := d + 7) rfl rfl (fj_M_invert (qe_G1 (fg_M_laysForm (d + 5)) (qe_G1 (fg_M_cellAt (d + 6)) (qe_G1 (fg_M_clears (d + 0)) (qe_G1 (fg_M_keepsAct (d + 6)) qe_G0))))))
/-! TurnFieldModel.feed(IIIII)I -/
noncomputable def T_M_feed : qe_T := []
def X_M_feed_67 (l14 : Int32 → Int32 → Int32 → Int32 → Int32 → Int32 → qm_M → Option qm_R) (v1 : Int32) (v2 : Int32) (v3 : Int32) (v4 : Int32) (v5 : Int32) (v6 : Int32) (s0 : Int32) (m : qm_M) : Option qm_R :=
  qe_b (!decide ((4 : Int32) = 0)) (
  qe_b (qm_in ((m.1 112 24) + v6) 120) (
  let m1 : qm_M := qm_sI m 129 (Int32.toNatClampNeg ((m.1 112 24) + v6)) (Int8.toInt32 (Int32.toInt8 (Int8.toInt32 (Int32.toInt8 (qo_ishr s0 ((24 : Int32) - ((8 : Int32) * (qo_irem v6 (4 : Int32)))))))))
  l14 v1 v2 v3 v4 v5 (v6 + (1 : Int32)) m1))
set_option maxRecDepth 100000 in
theorem xg_M_feed_67 {kp : pm_K} {d : Nat} {l14 : Int32 → Int32 → Int32 → Int32 → Int32 → Int32 → qm_M → Option qm_R} (hT : qe_G kp d (T_M_feed)) (h14 : ∀ (v1 : Int32) (v2 : Int32) (v3 : Int32) (v4 : Int32) (v5 : Int32) (v6 : Int32) (m : qm_M), qe_J kp md_M_feed d (l14 v1 v2 v3 v4 v5 v6 m) 14 [(0, .ref 112), (1, .int v1), (2, .int v2), (3, .int v3), (4, .int v4), (5, .int v5), (6, .int v6)] [] m) (v1 : Int32) (v2 : Int32) (v3 : Int32) (v4 : Int32) (v5 : Int32) (v6 : Int32) (s0 : Int32) (m : qm_M) : qe_J kp md_M_feed d (X_M_feed_67 l14 v1 v2 v3 v4 v5 v6 s0 m) 67 [(0, .ref 112), (1, .int v1), (2, .int v2), (3, .int v3), (4, .int v4), (5, .int v5), (6, .int v6)] [.int s0] m := qe_run (B := [(14, [0, 1, 2, 3, 4, 5, 6], qp_ciiiiii_ 112 l14)]) (n := 1000) hT (qe_B1 (qp_ciiiiii__ok h14) qe_B0) rfl
def L_M_feed_67 (K14 : Int32 → Int32 → Int32 → Int32 → Int32 → Int32 → qm_M → Option qm_R) (v1 : Int32) (v2 : Int32) (v3 : Int32) (v4 : Int32) (v5 : Int32) (v6 : Int32) (s0 : Int32) (m : qm_M) : Option qm_R := X_M_feed_67 K14 v1 v2 v3 v4 v5 v6 s0 m
theorem lg_M_feed_67 {kp : pm_K} {d : Nat} (hT : qe_G kp d (T_M_feed)) {K14 : Int32 → Int32 → Int32 → Int32 → Int32 → Int32 → qm_M → Option qm_R} (hK14 : ∀ (v1 : Int32) (v2 : Int32) (v3 : Int32) (v4 : Int32) (v5 : Int32) (v6 : Int32) (m : qm_M), qe_J kp md_M_feed d (K14 v1 v2 v3 v4 v5 v6 m) 14 [(0, .ref 112), (1, .int v1), (2, .int v2), (3, .int v3), (4, .int v4), (5, .int v5), (6, .int v6)] [] m) (v1 : Int32) (v2 : Int32) (v3 : Int32) (v4 : Int32) (v5 : Int32) (v6 : Int32) (s0 : Int32) (m : qm_M) : qe_J kp md_M_feed d (L_M_feed_67 K14 v1 v2 v3 v4 v5 v6 s0 m) 67 [(0, .ref 112), (1, .int v1), (2, .int v2), (3, .int v3), (4, .int v4), (5, .int v5), (6, .int v6)] [.int s0] m := xg_M_feed_67 hT hK14 v1 v2 v3 v4 v5 v6 s0 m
def X_M_feed_14 (l67 : Int32 → Int32 → Int32 → Int32 → Int32 → Int32 → Int32 → qm_M → Option qm_R) (v1 : Int32) (v2 : Int32) (v3 : Int32) (v4 : Int32) (v5 : Int32) (v6 : Int32) (m : qm_M) : Option qm_R :=
  if v6 < (20 : Int32) then
    if v6 < (4 : Int32) then
      l67 v1 v2 v3 v4 v5 v6 v1 m
    else
      if v6 < (8 : Int32) then
        l67 v1 v2 v3 v4 v5 v6 v2 m
      else
        if v6 < (12 : Int32) then
          l67 v1 v2 v3 v4 v5 v6 v3 m
        else
          if v6 < (16 : Int32) then
            l67 v1 v2 v3 v4 v5 v6 v4 m
          else
            l67 v1 v2 v3 v4 v5 v6 v5 m
  else
    let m1 : qm_M := qm_sI m 112 24 ((m.1 112 24) + (20 : Int32))
    some (some (.int (m1.1 112 24)), m1)
set_option maxRecDepth 100000 in
theorem xg_M_feed_14 {kp : pm_K} {d : Nat} {l67 : Int32 → Int32 → Int32 → Int32 → Int32 → Int32 → Int32 → qm_M → Option qm_R} (hT : qe_G kp d (T_M_feed)) (h67 : ∀ (v1 : Int32) (v2 : Int32) (v3 : Int32) (v4 : Int32) (v5 : Int32) (v6 : Int32) (s0 : Int32) (m : qm_M), qe_J kp md_M_feed d (l67 v1 v2 v3 v4 v5 v6 s0 m) 67 [(0, .ref 112), (1, .int v1), (2, .int v2), (3, .int v3), (4, .int v4), (5, .int v5), (6, .int v6)] [.int s0] m) (v1 : Int32) (v2 : Int32) (v3 : Int32) (v4 : Int32) (v5 : Int32) (v6 : Int32) (m : qm_M) : qe_J kp md_M_feed d (X_M_feed_14 l67 v1 v2 v3 v4 v5 v6 m) 14 [(0, .ref 112), (1, .int v1), (2, .int v2), (3, .int v3), (4, .int v4), (5, .int v5), (6, .int v6)] [] m := qe_run (B := [(67, [0, 1, 2, 3, 4, 5, 6], qp_ciiiiii_i 112 l67)]) (n := 1000) hT (qe_B1 (qp_ciiiiii_i_ok h67) qe_B0) rfl
def L_M_feed_14 : Nat → Int32 → Int32 → Int32 → Int32 → Int32 → Int32 → qm_M → Option qm_R
  | 0, _, _, _, _, _, _, _ => none
  | n + 1, v1, v2, v3, v4, v5, v6, m => X_M_feed_14 (L_M_feed_67 (L_M_feed_14 n)) v1 v2 v3 v4 v5 v6 m
theorem lg_M_feed_14 {kp : pm_K} {d : Nat} (hT : qe_G kp d (T_M_feed)) : ∀ (n : Nat) (v1 : Int32) (v2 : Int32) (v3 : Int32) (v4 : Int32) (v5 : Int32) (v6 : Int32) (m : qm_M), qe_J kp md_M_feed d (L_M_feed_14 n v1 v2 v3 v4 v5 v6 m) 14 [(0, .ref 112), (1, .int v1), (2, .int v2), (3, .int v3), (4, .int v4), (5, .int v5), (6, .int v6)] [] m
  | 0, v1, v2, v3, v4, v5, v6, m => qe_none rfl
  | n + 1, v1, v2, v3, v4, v5, v6, m => xg_M_feed_14 hT (lg_M_feed_67 hT (lg_M_feed_14 hT n)) v1 v2 v3 v4 v5 v6 m
def X_M_feed_e (l14 : Int32 → Int32 → Int32 → Int32 → Int32 → Int32 → qm_M → Option qm_R) (v1 : Int32) (v2 : Int32) (v3 : Int32) (v4 : Int32) (v5 : Int32) (m : qm_M) : Option qm_R :=
  if (100 : Int32) < (m.1 112 24) then
    some (some (.int (-1 : Int32)), m)
  else
    l14 v1 v2 v3 v4 v5 (0 : Int32) m
set_option maxRecDepth 100000 in
theorem xg_M_feed_e {kp : pm_K} {d : Nat} {l14 : Int32 → Int32 → Int32 → Int32 → Int32 → Int32 → qm_M → Option qm_R} (hT : qe_G kp d (T_M_feed)) (h14 : ∀ (v1 : Int32) (v2 : Int32) (v3 : Int32) (v4 : Int32) (v5 : Int32) (v6 : Int32) (m : qm_M), qe_J kp md_M_feed d (l14 v1 v2 v3 v4 v5 v6 m) 14 [(0, .ref 112), (1, .int v1), (2, .int v2), (3, .int v3), (4, .int v4), (5, .int v5), (6, .int v6)] [] m) (v1 : Int32) (v2 : Int32) (v3 : Int32) (v4 : Int32) (v5 : Int32) (m : qm_M) : qe_J kp md_M_feed d (X_M_feed_e l14 v1 v2 v3 v4 v5 m) 0 [(0, .ref 112), (1, .int v1), (2, .int v2), (3, .int v3), (4, .int v4), (5, .int v5)] [] m := qe_run (B := [(14, [0, 1, 2, 3, 4, 5, 6], qp_ciiiiii_ 112 l14)]) (n := 1000) hT (qe_B1 (qp_ciiiiii__ok h14) qe_B0) rfl
def F_M_feed (v1 : Int32) (v2 : Int32) (v3 : Int32) (v4 : Int32) (v5 : Int32) (m : qm_M) : Option qm_R := X_M_feed_e (L_M_feed_14 1000000) v1 v2 v3 v4 v5 m
theorem fj_M_feed {kp : pm_K} {d : Nat} (hT : qe_G kp d (T_M_feed)) (v1 : Int32) (v2 : Int32) (v3 : Int32) (v4 : Int32) (v5 : Int32) (m : qm_M) : qe_J kp md_M_feed d (F_M_feed v1 v2 v3 v4 v5 m) 0 [(0, .ref 112), (1, .int v1), (2, .int v2), (3, .int v3), (4, .int v4), (5, .int v5)] [] m := xg_M_feed_e hT (lg_M_feed_14 hT 1000000) v1 v2 v3 v4 v5 m
theorem fg_M_feed {kp : pm_K} (d : Nat) : qe_GE kp (d + 1) (268, 0, 11, 1, qw_ciiiii 112 F_M_feed) := qe_entry (by decide +kernel) (qw_ciiiii_ok (d := d + 0) rfl rfl (fj_M_feed qe_G0))
/-! TurnFieldModel.end(I)I -/
noncomputable def T_M_end (f_M_isIn : Int64 → Int64 → Int64 → qm_M → Option qm_R) : qe_T := [(185, 1, 0, 1, qw_lll f_M_isIn)]
def X_M_end_e (f_M_isIn : Int64 → Int64 → Int64 → qm_M → Option qm_R) (v1 : Int32) (m : qm_M) : Option qm_R :=
  qe_rI (f_M_isIn (Int32.toInt64 v1) (0 : Int64) (Int32.toInt64 (m.1 112 24)) m) fun x1 m1 =>
  if x1 = 0 then
    some (some (.int (-1 : Int32)), m1)
  else
    let m2 : qm_M := qm_sI m1 112 24 v1
    some (some (.int v1), m2)
set_option maxRecDepth 100000 in
theorem xg_M_end_e {kp : pm_K} {d : Nat} {f_M_isIn : Int64 → Int64 → Int64 → qm_M → Option qm_R} (hT : qe_G kp d (T_M_end f_M_isIn)) (v1 : Int32) (m : qm_M) : qe_J kp md_M_end d (X_M_end_e f_M_isIn v1 m) 0 [(0, .ref 112), (1, .int v1)] [] m := qe_run (B := []) (n := 1000) hT qe_B0 rfl
def F_M_end (v1 : Int32) (m : qm_M) : Option qm_R := X_M_end_e F_M_isIn v1 m
theorem fj_M_end {kp : pm_K} {d : Nat} (hT : qe_G kp d (T_M_end F_M_isIn)) (v1 : Int32) (m : qm_M) : qe_J kp md_M_end d (F_M_end v1 m) 0 [(0, .ref 112), (1, .int v1)] [] m := xg_M_end_e hT v1 m
theorem fg_M_end {kp : pm_K} (d : Nat) : qe_GE kp (d + 2) (269, 0, 11, 1, qw_ci 112 F_M_end) := qe_entry (by decide +kernel) (qw_ci_ok (d := d + 1) rfl rfl (fj_M_end (qe_G1 (fg_M_isIn (d + 0)) qe_G0)))
/-! TurnFieldModel.byteAt(I)I -/
noncomputable def T_M_byteAt : qe_T := []
def X_M_byteAt_e (v1 : Int32) (m : qm_M) : Option qm_R :=
  if v1 < (m.1 112 24) then
    qe_b (qm_in v1 120) (
    some (some (.int ((m.1 129 (Int32.toNatClampNeg v1)) &&& (255 : Int32))), m))
  else
    some (some (.int (-1 : Int32)), m)
set_option maxRecDepth 100000 in
theorem xg_M_byteAt_e {kp : pm_K} {d : Nat} (hT : qe_G kp d (T_M_byteAt)) (v1 : Int32) (m : qm_M) : qe_J kp md_M_byteAt d (X_M_byteAt_e v1 m) 0 [(0, .ref 112), (1, .int v1)] [] m := qe_run (B := []) (n := 1000) hT qe_B0 rfl
def F_M_byteAt (v1 : Int32) (m : qm_M) : Option qm_R := X_M_byteAt_e v1 m
theorem fj_M_byteAt {kp : pm_K} {d : Nat} (hT : qe_G kp d (T_M_byteAt)) (v1 : Int32) (m : qm_M) : qe_J kp md_M_byteAt d (F_M_byteAt v1 m) 0 [(0, .ref 112), (1, .int v1)] [] m := xg_M_byteAt_e hT v1 m
theorem fg_M_byteAt {kp : pm_K} (d : Nat) : qe_GE kp (d + 1) (270, 0, 11, 1, qw_ci 112 F_M_byteAt) := qe_entry (by decide +kernel) (qw_ci_ok (d := d + 0) rfl rfl (fj_M_byteAt qe_G0))
/-! TurnFieldModel.next()I -/
noncomputable def T_M_next (f_M_byteAt : Int32 → qm_M → Option qm_R) : qe_T := [(270, 0, 11, 1, qw_ci 112 f_M_byteAt)]
def X_M_next_0 (f_M_byteAt : Int32 → qm_M → Option qm_R) (l0 : qm_M → Option qm_R)  (m : qm_M) : Option qm_R :=
  qe_rI (f_M_byteAt (m.1 112 25) m) fun x1 m1 =>
  if x1 = (32 : Int32) then
    let m2 : qm_M := qm_sI m1 112 25 ((m1.1 112 25) + (1 : Int32))
    l0 m2
  else
    qe_rI (f_M_byteAt (m1.1 112 25) m1) fun x2 m3 =>
    if x2 = (59 : Int32) then
      let m4 : qm_M := qm_sI m3 112 25 ((m3.1 112 25) + (1 : Int32))
      l0 m4
    else
      qe_rI (f_M_byteAt (m3.1 112 25) m3) fun x3 m5 =>
      some (some (.int x3), m5)
set_option maxRecDepth 100000 in
theorem xg_M_next_0 {kp : pm_K} {d : Nat} {f_M_byteAt : Int32 → qm_M → Option qm_R} {l0 : qm_M → Option qm_R} (hT : qe_G kp d (T_M_next f_M_byteAt)) (h0 : ∀ (m : qm_M), qe_J kp md_M_next d (l0 m) 0 [(0, .ref 112)] [] m) (m : qm_M) : qe_J kp md_M_next d (X_M_next_0 f_M_byteAt l0 m) 0 [(0, .ref 112)] [] m := qe_run (B := [(0, [0], qp_c_ 112 l0)]) (n := 1000) hT (qe_B1 (qp_c__ok h0) qe_B0) rfl
def L_M_next_0 : Nat → qm_M → Option qm_R
  | 0, _ => none
  | n + 1, m => X_M_next_0 F_M_byteAt (L_M_next_0 n) m
theorem lg_M_next_0 {kp : pm_K} {d : Nat} (hT : qe_G kp d (T_M_next F_M_byteAt)) : ∀ (n : Nat) (m : qm_M), qe_J kp md_M_next d (L_M_next_0 n m) 0 [(0, .ref 112)] [] m
  | 0, m => qe_none rfl
  | n + 1, m => xg_M_next_0 hT (lg_M_next_0 hT n) m
def F_M_next (m : qm_M) : Option qm_R := (L_M_next_0 1000000) m
theorem fj_M_next {kp : pm_K} {d : Nat} (hT : qe_G kp d (T_M_next F_M_byteAt)) (m : qm_M) : qe_J kp md_M_next d (F_M_next m) 0 [(0, .ref 112)] [] m := qe_sub (by simp) ((lg_M_next_0 hT 1000000) m)
theorem fg_M_next {kp : pm_K} (d : Nat) : qe_GE kp (d + 2) (271, 0, 11, 1, qw_c 112 F_M_next) := qe_entry (by decide +kernel) (qw_c_ok (d := d + 1) rfl rfl (fj_M_next (qe_G1 (fg_M_byteAt (d + 0)) qe_G0)))
/-! TurnFieldModel.fails(II)Z -/
noncomputable def T_M_fails : qe_T := []
def X_M_fails_e (v1 : Int32) (v2 : Int32) (m : qm_M) : Option qm_R :=
  let m1 : qm_M := qm_sI m 112 26 (((8 : Int32) * v2) + v1)
  some (some (.int (0 : Int32)), m1)
set_option maxRecDepth 100000 in
theorem xg_M_fails_e {kp : pm_K} {d : Nat} (hT : qe_G kp d (T_M_fails)) (v1 : Int32) (v2 : Int32) (m : qm_M) : qe_J kp md_M_fails d (X_M_fails_e v1 v2 m) 0 [(0, .ref 112), (1, .int v1), (2, .int v2)] [] m := qe_run (B := []) (n := 1000) hT qe_B0 rfl
def F_M_fails (v1 : Int32) (v2 : Int32) (m : qm_M) : Option qm_R := X_M_fails_e v1 v2 m
theorem fj_M_fails {kp : pm_K} {d : Nat} (hT : qe_G kp d (T_M_fails)) (v1 : Int32) (v2 : Int32) (m : qm_M) : qe_J kp md_M_fails d (F_M_fails v1 v2 m) 0 [(0, .ref 112), (1, .int v1), (2, .int v2)] [] m := xg_M_fails_e hT v1 v2 m
theorem fg_M_fails {kp : pm_K} (d : Nat) : qe_GE kp (d + 1) (272, 0, 11, 1, qw_cii 112 F_M_fails) := qe_entry (by decide +kernel) (qw_cii_ok (d := d + 0) rfl rfl (fj_M_fails qe_G0))
/-! TurnFieldModel.readsNumber(II)Z -/
noncomputable def T_M_readsNumber (f_M_next : qm_M → Option qm_R) (f_M_isIn : Int64 → Int64 → Int64 → qm_M → Option qm_R) (f_M_fails : Int32 → Int32 → qm_M → Option qm_R) (f_M_byteAt : Int32 → qm_M → Option qm_R) : qe_T := [(271, 0, 11, 1, qw_c 112 f_M_next), (185, 1, 0, 1, qw_lll f_M_isIn), (272, 0, 11, 1, qw_cii 112 f_M_fails), (270, 0, 11, 1, qw_ci 112 f_M_byteAt)]
def X_M_readsNumber_38 (f_M_next : qm_M → Option qm_R) (f_M_isIn : Int64 → Int64 → Int64 → qm_M → Option qm_R) (f_M_fails : Int32 → Int32 → qm_M → Option qm_R) (f_M_byteAt : Int32 → qm_M → Option qm_R) (l38 : Int32 → Int32 → Int32 → Int32 → qm_M → Option qm_R) (v1 : Int32) (v2 : Int32) (v4 : Int32) (v5 : Int32) (m : qm_M) : Option qm_R :=
  qe_rI (f_M_byteAt (m.1 112 25) m) fun x1 m1 =>
  qe_rI (f_M_isIn (Int32.toInt64 x1) (48 : Int64) (57 : Int64) m1) fun x2 m2 =>
  if x2 = 0 then
    let m3 : qm_M := qm_sI m2 112 27 v5
    qe_rI (f_M_isIn (Int32.toInt64 v5) (Int32.toInt64 v1) (Int32.toInt64 v2) m3) fun x3 m4 =>
    if x3 = 0 then
      qe_rI (f_M_fails (2 : Int32) v4 m4) fun x4 m5 =>
      if x4 = 0 then
        some (some (.int (0 : Int32)), m5)
      else
        some (some (.int (1 : Int32)), m5)
    else
      some (some (.int (1 : Int32)), m4)
  else
    if (999 : Int32) < v5 then
      let m6 : qm_M := qm_sI m2 112 25 ((m2.1 112 25) + (1 : Int32))
      l38 v1 v2 v4 v5 m6
    else
      qe_rI (f_M_byteAt (m2.1 112 25) m2) fun x5 m7 =>
      let x6 : Int32 := ((((10 : Int32) * v5) + x5) - (48 : Int32))
      let m8 : qm_M := qm_sI m7 112 25 ((m7.1 112 25) + (1 : Int32))
      l38 v1 v2 v4 x6 m8
set_option maxRecDepth 100000 in
theorem xg_M_readsNumber_38 {kp : pm_K} {d : Nat} {f_M_next : qm_M → Option qm_R} {f_M_isIn : Int64 → Int64 → Int64 → qm_M → Option qm_R} {f_M_fails : Int32 → Int32 → qm_M → Option qm_R} {f_M_byteAt : Int32 → qm_M → Option qm_R} {l38 : Int32 → Int32 → Int32 → Int32 → qm_M → Option qm_R} (hT : qe_G kp d (T_M_readsNumber f_M_next f_M_isIn f_M_fails f_M_byteAt)) (h38 : ∀ (v1 : Int32) (v2 : Int32) (v4 : Int32) (v5 : Int32) (m : qm_M), qe_J kp md_M_readsNumber d (l38 v1 v2 v4 v5 m) 38 [(0, .ref 112), (1, .int v1), (2, .int v2), (4, .int v4), (5, .int v5)] [] m) (v1 : Int32) (v2 : Int32) (v4 : Int32) (v5 : Int32) (m : qm_M) : qe_J kp md_M_readsNumber d (X_M_readsNumber_38 f_M_next f_M_isIn f_M_fails f_M_byteAt l38 v1 v2 v4 v5 m) 38 [(0, .ref 112), (1, .int v1), (2, .int v2), (4, .int v4), (5, .int v5)] [] m := qe_run (B := [(38, [0, 1, 2, 4, 5], qp_ciiii_ 112 l38)]) (n := 1000) hT (qe_B1 (qp_ciiii__ok h38) qe_B0) rfl
def L_M_readsNumber_38 : Nat → Int32 → Int32 → Int32 → Int32 → qm_M → Option qm_R
  | 0, _, _, _, _, _ => none
  | n + 1, v1, v2, v4, v5, m => X_M_readsNumber_38 F_M_next F_M_isIn F_M_fails F_M_byteAt (L_M_readsNumber_38 n) v1 v2 v4 v5 m
theorem lg_M_readsNumber_38 {kp : pm_K} {d : Nat} (hT : qe_G kp d (T_M_readsNumber F_M_next F_M_isIn F_M_fails F_M_byteAt)) : ∀ (n : Nat) (v1 : Int32) (v2 : Int32) (v4 : Int32) (v5 : Int32) (m : qm_M), qe_J kp md_M_readsNumber d (L_M_readsNumber_38 n v1 v2 v4 v5 m) 38 [(0, .ref 112), (1, .int v1), (2, .int v2), (4, .int v4), (5, .int v5)] [] m
  | 0, v1, v2, v4, v5, m => qe_none rfl
  | n + 1, v1, v2, v4, v5, m => xg_M_readsNumber_38 hT (lg_M_readsNumber_38 hT n) v1 v2 v4 v5 m
def X_M_readsNumber_e (f_M_next : qm_M → Option qm_R) (f_M_isIn : Int64 → Int64 → Int64 → qm_M → Option qm_R) (f_M_fails : Int32 → Int32 → qm_M → Option qm_R) (f_M_byteAt : Int32 → qm_M → Option qm_R) (l38 : Int32 → Int32 → Int32 → Int32 → qm_M → Option qm_R) (v1 : Int32) (v2 : Int32) (m : qm_M) : Option qm_R :=
  qe_rI (f_M_next m) fun x1 m1 =>
  qe_rI (f_M_isIn (Int32.toInt64 x1) (48 : Int64) (57 : Int64) m1) fun x2 m2 =>
  if x2 = 0 then
    qe_rI (f_M_fails (1 : Int32) (m2.1 112 25) m2) fun x3 m3 =>
    qe_b (qm_ni .boolean x3) (
    some (some (.int x3), m3))
  else
    l38 v1 v2 (m1.1 112 25) (0 : Int32) m2
set_option maxRecDepth 100000 in
theorem xg_M_readsNumber_e {kp : pm_K} {d : Nat} {f_M_next : qm_M → Option qm_R} {f_M_isIn : Int64 → Int64 → Int64 → qm_M → Option qm_R} {f_M_fails : Int32 → Int32 → qm_M → Option qm_R} {f_M_byteAt : Int32 → qm_M → Option qm_R} {l38 : Int32 → Int32 → Int32 → Int32 → qm_M → Option qm_R} (hT : qe_G kp d (T_M_readsNumber f_M_next f_M_isIn f_M_fails f_M_byteAt)) (h38 : ∀ (v1 : Int32) (v2 : Int32) (v4 : Int32) (v5 : Int32) (m : qm_M), qe_J kp md_M_readsNumber d (l38 v1 v2 v4 v5 m) 38 [(0, .ref 112), (1, .int v1), (2, .int v2), (4, .int v4), (5, .int v5)] [] m) (v1 : Int32) (v2 : Int32) (m : qm_M) : qe_J kp md_M_readsNumber d (X_M_readsNumber_e f_M_next f_M_isIn f_M_fails f_M_byteAt l38 v1 v2 m) 0 [(0, .ref 112), (1, .int v1), (2, .int v2)] [] m := qe_run (B := [(38, [0, 1, 2, 4, 5], qp_ciiii_ 112 l38)]) (n := 1000) hT (qe_B1 (qp_ciiii__ok h38) qe_B0) rfl
def F_M_readsNumber (v1 : Int32) (v2 : Int32) (m : qm_M) : Option qm_R := X_M_readsNumber_e F_M_next F_M_isIn F_M_fails F_M_byteAt (L_M_readsNumber_38 1000000) v1 v2 m
theorem fj_M_readsNumber {kp : pm_K} {d : Nat} (hT : qe_G kp d (T_M_readsNumber F_M_next F_M_isIn F_M_fails F_M_byteAt)) (v1 : Int32) (v2 : Int32) (m : qm_M) : qe_J kp md_M_readsNumber d (F_M_readsNumber v1 v2 m) 0 [(0, .ref 112), (1, .int v1), (2, .int v2)] [] m := xg_M_readsNumber_e hT (lg_M_readsNumber_38 hT 1000000) v1 v2 m
theorem fg_M_readsNumber {kp : pm_K} (d : Nat) : qe_GE kp (d + 3) (273, 0, 11, 1, qw_cii 112 F_M_readsNumber) := qe_entry (by decide +kernel) (qw_cii_ok (d := d + 2) rfl rfl (fj_M_readsNumber (qe_G1 (fg_M_next (d + 0)) (qe_G1 (fg_M_isIn (d + 1)) (qe_G1 (fg_M_fails (d + 1)) (qe_G1 (fg_M_byteAt (d + 1)) qe_G0))))))
/-! TurnFieldModel.takesWord(Ljava/lang/String;)Z -/
noncomputable def T_M_takesWord (f_M_next : qm_M → Option qm_R) (f_JS_length : Nat → qm_M → Option qm_R) (f_M_byteAt : Int32 → qm_M → Option qm_R) (f_JS_charAt : Nat → Int32 → qm_M → Option qm_R) (f_M_isIn : Int64 → Int64 → Int64 → qm_M → Option qm_R) : qe_T := [(271, 0, 11, 1, qw_c 112 f_M_next), (320, 3, 0, 1, qw_r f_JS_length), (270, 0, 11, 1, qw_ci 112 f_M_byteAt), (321, 3, 0, 1, qw_ri f_JS_charAt), (185, 1, 0, 1, qw_lll f_M_isIn)]
def X_M_takesWord_75 (f_M_next : qm_M → Option qm_R) (f_JS_length : Nat → qm_M → Option qm_R) (f_M_byteAt : Int32 → qm_M → Option qm_R) (f_JS_charAt : Nat → Int32 → qm_M → Option qm_R) (f_M_isIn : Int64 → Int64 → Int64 → qm_M → Option qm_R) (v3 : Int32) (s0 : Int32) (m : qm_M) : Option qm_R :=
  if s0 = 0 then
    qe_b (qm_ni .boolean s0) (
    some (some (.int s0), m))
  else
    let m1 : qm_M := qm_sI m 112 25 ((m.1 112 25) + v3)
    qe_b (qm_ni .boolean s0) (
    some (some (.int s0), m1))
set_option maxRecDepth 100000 in
theorem xg_M_takesWord_75 {kp : pm_K} {d : Nat} {f_M_next : qm_M → Option qm_R} {f_JS_length : Nat → qm_M → Option qm_R} {f_M_byteAt : Int32 → qm_M → Option qm_R} {f_JS_charAt : Nat → Int32 → qm_M → Option qm_R} {f_M_isIn : Int64 → Int64 → Int64 → qm_M → Option qm_R} (hT : qe_G kp d (T_M_takesWord f_M_next f_JS_length f_M_byteAt f_JS_charAt f_M_isIn)) (v3 : Int32) (s0 : Int32) (m : qm_M) : qe_J kp md_M_takesWord d (X_M_takesWord_75 f_M_next f_JS_length f_M_byteAt f_JS_charAt f_M_isIn v3 s0 m) 75 [(0, .ref 112), (3, .int v3)] [.int s0] m := qe_run (B := []) (n := 1000) hT qe_B0 rfl
def L_M_takesWord_75 (v3 : Int32) (s0 : Int32) (m : qm_M) : Option qm_R := X_M_takesWord_75 F_M_next F_JS_length F_M_byteAt F_JS_charAt F_M_isIn v3 s0 m
theorem lg_M_takesWord_75 {kp : pm_K} {d : Nat} (hT : qe_G kp d (T_M_takesWord F_M_next F_JS_length F_M_byteAt F_JS_charAt F_M_isIn)) (v3 : Int32) (s0 : Int32) (m : qm_M) : qe_J kp md_M_takesWord d (L_M_takesWord_75 v3 s0 m) 75 [(0, .ref 112), (3, .int v3)] [.int s0] m := xg_M_takesWord_75 hT v3 s0 m
def X_M_takesWord_39 (f_M_next : qm_M → Option qm_R) (f_JS_length : Nat → qm_M → Option qm_R) (f_M_byteAt : Int32 → qm_M → Option qm_R) (f_JS_charAt : Nat → Int32 → qm_M → Option qm_R) (f_M_isIn : Int64 → Int64 → Int64 → qm_M → Option qm_R) (l75 : Int32 → Int32 → qm_M → Option qm_R) (v1 : Nat) (v3 : Int32) (m : qm_M) : Option qm_R :=
  qe_b (Nat.ble 1000010 v1 && Nat.ble v1 1000014) (
  qe_rI (f_JS_length v1 m) fun x1 m1 =>
  if v3 = x1 then
    qe_rI (f_M_byteAt ((m1.1 112 25) + v3) m1) fun x2 m2 =>
    qe_rI (f_M_isIn (Int32.toInt64 x2) (97 : Int64) (122 : Int64) m2) fun x3 m3 =>
    if x3 = 0 then
      l75 v3 (1 : Int32) m3
    else
      l75 v3 (0 : Int32) m3
  else
    l75 v3 (0 : Int32) m1)
set_option maxRecDepth 100000 in
theorem xg_M_takesWord_39 {kp : pm_K} {d : Nat} {f_M_next : qm_M → Option qm_R} {f_JS_length : Nat → qm_M → Option qm_R} {f_M_byteAt : Int32 → qm_M → Option qm_R} {f_JS_charAt : Nat → Int32 → qm_M → Option qm_R} {f_M_isIn : Int64 → Int64 → Int64 → qm_M → Option qm_R} {l75 : Int32 → Int32 → qm_M → Option qm_R} (hT : qe_G kp d (T_M_takesWord f_M_next f_JS_length f_M_byteAt f_JS_charAt f_M_isIn)) (h75 : ∀ (v3 : Int32) (s0 : Int32) (m : qm_M), qe_J kp md_M_takesWord d (l75 v3 s0 m) 75 [(0, .ref 112), (3, .int v3)] [.int s0] m) (v1 : Nat) (v3 : Int32) (m : qm_M) : qe_J kp md_M_takesWord d (X_M_takesWord_39 f_M_next f_JS_length f_M_byteAt f_JS_charAt f_M_isIn l75 v1 v3 m) 39 [(0, .ref 112), (1, .ref v1), (3, .int v3)] [] m := qe_run (B := [(75, [0, 3], qp_ci_i 112 l75)]) (n := 1000) hT (qe_B1 (qp_ci_i_ok h75) qe_B0) rfl
def L_M_takesWord_39 (v1 : Nat) (v3 : Int32) (m : qm_M) : Option qm_R := X_M_takesWord_39 F_M_next F_JS_length F_M_byteAt F_JS_charAt F_M_isIn (L_M_takesWord_75) v1 v3 m
theorem lg_M_takesWord_39 {kp : pm_K} {d : Nat} (hT : qe_G kp d (T_M_takesWord F_M_next F_JS_length F_M_byteAt F_JS_charAt F_M_isIn)) (v1 : Nat) (v3 : Int32) (m : qm_M) : qe_J kp md_M_takesWord d (L_M_takesWord_39 v1 v3 m) 39 [(0, .ref 112), (1, .ref v1), (3, .int v3)] [] m := xg_M_takesWord_39 hT (lg_M_takesWord_75 hT) v1 v3 m
def X_M_takesWord_7 (f_M_next : qm_M → Option qm_R) (f_JS_length : Nat → qm_M → Option qm_R) (f_M_byteAt : Int32 → qm_M → Option qm_R) (f_JS_charAt : Nat → Int32 → qm_M → Option qm_R) (f_M_isIn : Int64 → Int64 → Int64 → qm_M → Option qm_R) (l7 : Nat → Int32 → qm_M → Option qm_R) (l39 : Nat → Int32 → qm_M → Option qm_R) (v1 : Nat) (v3 : Int32) (m : qm_M) : Option qm_R :=
  qe_b (Nat.ble 1000010 v1 && Nat.ble v1 1000014) (
  qe_rI (f_JS_length v1 m) fun x1 m1 =>
  if v3 < x1 then
    qe_rI (f_M_byteAt ((m1.1 112 25) + v3) m1) fun x2 m2 =>
    qe_b (Nat.ble 1000010 v1 && Nat.ble v1 1000014) (
    qe_rI (f_JS_charAt v1 v3 m2) fun x3 m3 =>
    if x2 = x3 then
      l7 v1 (v3 + (1 : Int32)) m3
    else
      l39 v1 v3 m3)
  else
    l39 v1 v3 m1)
set_option maxRecDepth 100000 in
theorem xg_M_takesWord_7 {kp : pm_K} {d : Nat} {f_M_next : qm_M → Option qm_R} {f_JS_length : Nat → qm_M → Option qm_R} {f_M_byteAt : Int32 → qm_M → Option qm_R} {f_JS_charAt : Nat → Int32 → qm_M → Option qm_R} {f_M_isIn : Int64 → Int64 → Int64 → qm_M → Option qm_R} {l7 : Nat → Int32 → qm_M → Option qm_R} {l39 : Nat → Int32 → qm_M → Option qm_R} (hT : qe_G kp d (T_M_takesWord f_M_next f_JS_length f_M_byteAt f_JS_charAt f_M_isIn)) (h7 : ∀ (v1 : Nat) (v3 : Int32) (m : qm_M), qe_J kp md_M_takesWord d (l7 v1 v3 m) 7 [(0, .ref 112), (1, .ref v1), (3, .int v3)] [] m) (h39 : ∀ (v1 : Nat) (v3 : Int32) (m : qm_M), qe_J kp md_M_takesWord d (l39 v1 v3 m) 39 [(0, .ref 112), (1, .ref v1), (3, .int v3)] [] m) (v1 : Nat) (v3 : Int32) (m : qm_M) : qe_J kp md_M_takesWord d (X_M_takesWord_7 f_M_next f_JS_length f_M_byteAt f_JS_charAt f_M_isIn l7 l39 v1 v3 m) 7 [(0, .ref 112), (1, .ref v1), (3, .int v3)] [] m := qe_run (B := [(7, [0, 1, 3], qp_cri_ 112 l7), (39, [0, 1, 3], qp_cri_ 112 l39)]) (n := 1000) hT (qe_B1 (qp_cri__ok h7) (qe_B1 (qp_cri__ok h39) qe_B0)) rfl
def L_M_takesWord_7 : Nat → Nat → Int32 → qm_M → Option qm_R
  | 0, _, _, _ => none
  | n + 1, v1, v3, m => X_M_takesWord_7 F_M_next F_JS_length F_M_byteAt F_JS_charAt F_M_isIn (L_M_takesWord_7 n) (L_M_takesWord_39) v1 v3 m
theorem lg_M_takesWord_7 {kp : pm_K} {d : Nat} (hT : qe_G kp d (T_M_takesWord F_M_next F_JS_length F_M_byteAt F_JS_charAt F_M_isIn)) : ∀ (n : Nat) (v1 : Nat) (v3 : Int32) (m : qm_M), qe_J kp md_M_takesWord d (L_M_takesWord_7 n v1 v3 m) 7 [(0, .ref 112), (1, .ref v1), (3, .int v3)] [] m
  | 0, v1, v3, m => qe_none rfl
  | n + 1, v1, v3, m => xg_M_takesWord_7 hT (lg_M_takesWord_7 hT n) (lg_M_takesWord_39 hT) v1 v3 m
def X_M_takesWord_e (f_M_next : qm_M → Option qm_R) (f_JS_length : Nat → qm_M → Option qm_R) (f_M_byteAt : Int32 → qm_M → Option qm_R) (f_JS_charAt : Nat → Int32 → qm_M → Option qm_R) (f_M_isIn : Int64 → Int64 → Int64 → qm_M → Option qm_R) (l7 : Nat → Int32 → qm_M → Option qm_R) (v1 : Nat) (m : qm_M) : Option qm_R :=
  qe_rI (f_M_next m) fun x1 m1 =>
  l7 v1 (0 : Int32) m1
set_option maxRecDepth 100000 in
theorem xg_M_takesWord_e {kp : pm_K} {d : Nat} {f_M_next : qm_M → Option qm_R} {f_JS_length : Nat → qm_M → Option qm_R} {f_M_byteAt : Int32 → qm_M → Option qm_R} {f_JS_charAt : Nat → Int32 → qm_M → Option qm_R} {f_M_isIn : Int64 → Int64 → Int64 → qm_M → Option qm_R} {l7 : Nat → Int32 → qm_M → Option qm_R} (hT : qe_G kp d (T_M_takesWord f_M_next f_JS_length f_M_byteAt f_JS_charAt f_M_isIn)) (h7 : ∀ (v1 : Nat) (v3 : Int32) (m : qm_M), qe_J kp md_M_takesWord d (l7 v1 v3 m) 7 [(0, .ref 112), (1, .ref v1), (3, .int v3)] [] m) (v1 : Nat) (m : qm_M) : qe_J kp md_M_takesWord d (X_M_takesWord_e f_M_next f_JS_length f_M_byteAt f_JS_charAt f_M_isIn l7 v1 m) 0 [(0, .ref 112), (1, .ref v1)] [] m := qe_run (B := [(7, [0, 1, 3], qp_cri_ 112 l7)]) (n := 1000) hT (qe_B1 (qp_cri__ok h7) qe_B0) rfl
def F_M_takesWord (v1 : Nat) (m : qm_M) : Option qm_R := X_M_takesWord_e F_M_next F_JS_length F_M_byteAt F_JS_charAt F_M_isIn (L_M_takesWord_7 1000000) v1 m
theorem fj_M_takesWord {kp : pm_K} {d : Nat} (hT : qe_G kp d (T_M_takesWord F_M_next F_JS_length F_M_byteAt F_JS_charAt F_M_isIn)) (v1 : Nat) (m : qm_M) : qe_J kp md_M_takesWord d (F_M_takesWord v1 m) 0 [(0, .ref 112), (1, .ref v1)] [] m := xg_M_takesWord_e hT (lg_M_takesWord_7 hT 1000000) v1 m
theorem fg_M_takesWord {kp : pm_K} (d : Nat) : qe_GE kp (d + 5) (274, 0, 11, 1, qw_cr 112 F_M_takesWord) := qe_entry (by decide +kernel) (qw_cr_ok (d := d + 4) rfl rfl (fj_M_takesWord (qe_G1 (fg_M_next (d + 2)) (qe_G1 (fg_JS_length (d + 2)) (qe_G1 (fg_M_byteAt (d + 3)) (qe_G1 (fg_JS_charAt (d + 0)) (qe_G1 (fg_M_isIn (d + 3)) qe_G0)))))))
/-! TurnFieldModel.kindHere()I -/
noncomputable def T_M_kindHere (f_M_takesWord : Nat → qm_M → Option qm_R) : qe_T := [(274, 0, 11, 1, qw_cr 112 f_M_takesWord)]
def X_M_kindHere_e (f_M_takesWord : Nat → qm_M → Option qm_R)  (m : qm_M) : Option qm_R :=
  qe_rI (f_M_takesWord 1000010 m) fun x1 m1 =>
  if x1 = 0 then
    qe_rI (f_M_takesWord 1000011 m1) fun x2 m2 =>
    if x2 = 0 then
      qe_rI (f_M_takesWord 1000012 m2) fun x3 m3 =>
      if x3 = 0 then
        qe_rI (f_M_takesWord 1000013 m3) fun x4 m4 =>
        if x4 = 0 then
          some (some (.int (-1 : Int32)), m4)
        else
          some (some (.int (3 : Int32)), m4)
      else
        some (some (.int (2 : Int32)), m3)
    else
      some (some (.int (1 : Int32)), m2)
  else
    some (some (.int (0 : Int32)), m1)
set_option maxRecDepth 100000 in
theorem xg_M_kindHere_e {kp : pm_K} {d : Nat} {f_M_takesWord : Nat → qm_M → Option qm_R} (hT : qe_G kp d (T_M_kindHere f_M_takesWord)) (m : qm_M) : qe_J kp md_M_kindHere d (X_M_kindHere_e f_M_takesWord m) 0 [(0, .ref 112)] [] m := qe_run (B := []) (n := 1000) hT qe_B0 rfl
def F_M_kindHere (m : qm_M) : Option qm_R := X_M_kindHere_e F_M_takesWord m
theorem fj_M_kindHere {kp : pm_K} {d : Nat} (hT : qe_G kp d (T_M_kindHere F_M_takesWord)) (m : qm_M) : qe_J kp md_M_kindHere d (F_M_kindHere m) 0 [(0, .ref 112)] [] m := xg_M_kindHere_e hT m
theorem fg_M_kindHere {kp : pm_K} (d : Nat) : qe_GE kp (d + 6) (275, 0, 11, 1, qw_c 112 F_M_kindHere) := qe_entry (by decide +kernel) (qw_c_ok (d := d + 5) rfl rfl (fj_M_kindHere (qe_G1 (fg_M_takesWord (d + 0)) qe_G0)))
/-! TurnFieldModel.readsSide(I)Z -/
noncomputable def T_M_readsSide (f_M_readsNumber : Int32 → Int32 → qm_M → Option qm_R) (f_M_kindHere : qm_M → Option qm_R) (f_M_fails : Int32 → Int32 → qm_M → Option qm_R) : qe_T := [(273, 0, 11, 1, qw_cii 112 f_M_readsNumber), (275, 0, 11, 1, qw_c 112 f_M_kindHere), (272, 0, 11, 1, qw_cii 112 f_M_fails)]
def X_M_readsSide_e (f_M_readsNumber : Int32 → Int32 → qm_M → Option qm_R) (f_M_kindHere : qm_M → Option qm_R) (f_M_fails : Int32 → Int32 → qm_M → Option qm_R) (v1 : Int32) (m : qm_M) : Option qm_R :=
  qe_rI (f_M_readsNumber (1 : Int32) (6 : Int32) m) fun x1 m1 =>
  if x1 = 0 then
    some (some (.int (0 : Int32)), m1)
  else
    qe_b (qm_in v1 2) (
    let m2 : qm_M := qm_sI m1 130 (Int32.toNatClampNeg v1) (m1.1 112 27)
    qe_rI (f_M_kindHere m2) fun x2 m3 =>
    qe_b (qm_in v1 2) (
    let m4 : qm_M := qm_sI m3 131 (Int32.toNatClampNeg v1) x2
    qe_b (qm_in v1 2) (
    if (m4.1 131 (Int32.toNatClampNeg v1)) = (-1 : Int32) then
      qe_rI (f_M_fails (1 : Int32) (m4.1 112 25) m4) fun x3 m5 =>
      qe_b (qm_ni .boolean x3) (
      some (some (.int x3), m5))
    else
      qe_rI (f_M_readsNumber (1 : Int32) (8 : Int32) m4) fun x4 m6 =>
      if x4 = 0 then
        some (some (.int (0 : Int32)), m6)
      else
        qe_b (qm_in v1 2) (
        let m7 : qm_M := qm_sI m6 132 (Int32.toNatClampNeg v1) (m6.1 112 27)
        some (some (.int (1 : Int32)), m7)))))
set_option maxRecDepth 100000 in
theorem xg_M_readsSide_e {kp : pm_K} {d : Nat} {f_M_readsNumber : Int32 → Int32 → qm_M → Option qm_R} {f_M_kindHere : qm_M → Option qm_R} {f_M_fails : Int32 → Int32 → qm_M → Option qm_R} (hT : qe_G kp d (T_M_readsSide f_M_readsNumber f_M_kindHere f_M_fails)) (v1 : Int32) (m : qm_M) : qe_J kp md_M_readsSide d (X_M_readsSide_e f_M_readsNumber f_M_kindHere f_M_fails v1 m) 0 [(0, .ref 112), (1, .int v1)] [] m := qe_run (B := []) (n := 1000) hT qe_B0 rfl
def F_M_readsSide (v1 : Int32) (m : qm_M) : Option qm_R := X_M_readsSide_e F_M_readsNumber F_M_kindHere F_M_fails v1 m
theorem fj_M_readsSide {kp : pm_K} {d : Nat} (hT : qe_G kp d (T_M_readsSide F_M_readsNumber F_M_kindHere F_M_fails)) (v1 : Int32) (m : qm_M) : qe_J kp md_M_readsSide d (F_M_readsSide v1 m) 0 [(0, .ref 112), (1, .int v1)] [] m := xg_M_readsSide_e hT v1 m
theorem fg_M_readsSide {kp : pm_K} (d : Nat) : qe_GE kp (d + 7) (276, 0, 11, 1, qw_ci 112 F_M_readsSide) := qe_entry (by decide +kernel) (qw_ci_ok (d := d + 6) rfl rfl (fj_M_readsSide (qe_G1 (fg_M_readsNumber (d + 3)) (qe_G1 (fg_M_kindHere (d + 0)) (qe_G1 (fg_M_fails (d + 5)) qe_G0)))))
/-! TurnFieldModel.readsText()Z -/
noncomputable def T_M_readsText (f_M_readsSide : Int32 → qm_M → Option qm_R) (f_M_takesWord : Nat → qm_M → Option qm_R) (f_M_next : qm_M → Option qm_R) (f_M_fails : Int32 → Int32 → qm_M → Option qm_R) (f_M_readsNumber : Int32 → Int32 → qm_M → Option qm_R) : qe_T := [(276, 0, 11, 1, qw_ci 112 f_M_readsSide), (274, 0, 11, 1, qw_cr 112 f_M_takesWord), (271, 0, 11, 1, qw_c 112 f_M_next), (272, 0, 11, 1, qw_cii 112 f_M_fails), (273, 0, 11, 1, qw_cii 112 f_M_readsNumber)]
def X_M_readsText_28 (f_M_readsSide : Int32 → qm_M → Option qm_R) (f_M_takesWord : Nat → qm_M → Option qm_R) (f_M_next : qm_M → Option qm_R) (f_M_fails : Int32 → Int32 → qm_M → Option qm_R) (f_M_readsNumber : Int32 → Int32 → qm_M → Option qm_R) (l28 : qm_M → Option qm_R)  (m : qm_M) : Option qm_R :=
  qe_rI (f_M_takesWord 1000014 m) fun x1 m1 =>
  if x1 = 0 then
    qe_rI (f_M_next m1) fun x2 m2 =>
    if x2 = (-1 : Int32) then
      some (some (.int (1 : Int32)), m2)
    else
      qe_rI (f_M_fails (1 : Int32) (m2.1 112 25) m2) fun x3 m3 =>
      if x3 = 0 then
        some (some (.int (0 : Int32)), m3)
      else
        some (some (.int (1 : Int32)), m3)
  else
    qe_rI (f_M_readsNumber (0 : Int32) ((m1.1 130 0) - (1 : Int32)) m1) fun x4 m4 =>
    if x4 = 0 then
      some (some (.int (0 : Int32)), m4)
    else
      qe_rI (f_M_readsNumber (0 : Int32) ((m4.1 130 1) - (1 : Int32)) m4) fun x5 m5 =>
      if x5 = 0 then
        some (some (.int (0 : Int32)), m5)
      else
        let m6 : qm_M := qm_sL m5 112 31 ((m5.2 112 31) ||| (qo_lshl (1 : Int64) (((6 : Int32) * (m4.1 112 27)) + (m5.1 112 27))))
        l28 m6
set_option maxRecDepth 100000 in
theorem xg_M_readsText_28 {kp : pm_K} {d : Nat} {f_M_readsSide : Int32 → qm_M → Option qm_R} {f_M_takesWord : Nat → qm_M → Option qm_R} {f_M_next : qm_M → Option qm_R} {f_M_fails : Int32 → Int32 → qm_M → Option qm_R} {f_M_readsNumber : Int32 → Int32 → qm_M → Option qm_R} {l28 : qm_M → Option qm_R} (hT : qe_G kp d (T_M_readsText f_M_readsSide f_M_takesWord f_M_next f_M_fails f_M_readsNumber)) (h28 : ∀ (m : qm_M), qe_J kp md_M_readsText d (l28 m) 28 [(0, .ref 112)] [] m) (m : qm_M) : qe_J kp md_M_readsText d (X_M_readsText_28 f_M_readsSide f_M_takesWord f_M_next f_M_fails f_M_readsNumber l28 m) 28 [(0, .ref 112)] [] m := qe_run (B := [(28, [0], qp_c_ 112 l28)]) (n := 1000) hT (qe_B1 (qp_c__ok h28) qe_B0) rfl
def L_M_readsText_28 : Nat → qm_M → Option qm_R
  | 0, _ => none
  | n + 1, m => X_M_readsText_28 F_M_readsSide F_M_takesWord F_M_next F_M_fails F_M_readsNumber (L_M_readsText_28 n) m
theorem lg_M_readsText_28 {kp : pm_K} {d : Nat} (hT : qe_G kp d (T_M_readsText F_M_readsSide F_M_takesWord F_M_next F_M_fails F_M_readsNumber)) : ∀ (n : Nat) (m : qm_M), qe_J kp md_M_readsText d (L_M_readsText_28 n m) 28 [(0, .ref 112)] [] m
  | 0, m => qe_none rfl
  | n + 1, m => xg_M_readsText_28 hT (lg_M_readsText_28 hT n) m
def X_M_readsText_e (f_M_readsSide : Int32 → qm_M → Option qm_R) (f_M_takesWord : Nat → qm_M → Option qm_R) (f_M_next : qm_M → Option qm_R) (f_M_fails : Int32 → Int32 → qm_M → Option qm_R) (f_M_readsNumber : Int32 → Int32 → qm_M → Option qm_R) (l28 : qm_M → Option qm_R)  (m : qm_M) : Option qm_R :=
  let m1 : qm_M := qm_sI m 112 25 (0 : Int32)
  let m2 : qm_M := qm_sL m1 112 31 (0 : Int64)
  qe_rI (f_M_readsSide (0 : Int32) m2) fun x1 m3 =>
  if x1 = 0 then
    some (some (.int (0 : Int32)), m3)
  else
    qe_rI (f_M_readsSide (1 : Int32) m3) fun x2 m4 =>
    if x2 = 0 then
      some (some (.int (0 : Int32)), m4)
    else
      l28 m4
set_option maxRecDepth 100000 in
theorem xg_M_readsText_e {kp : pm_K} {d : Nat} {f_M_readsSide : Int32 → qm_M → Option qm_R} {f_M_takesWord : Nat → qm_M → Option qm_R} {f_M_next : qm_M → Option qm_R} {f_M_fails : Int32 → Int32 → qm_M → Option qm_R} {f_M_readsNumber : Int32 → Int32 → qm_M → Option qm_R} {l28 : qm_M → Option qm_R} (hT : qe_G kp d (T_M_readsText f_M_readsSide f_M_takesWord f_M_next f_M_fails f_M_readsNumber)) (h28 : ∀ (m : qm_M), qe_J kp md_M_readsText d (l28 m) 28 [(0, .ref 112)] [] m) (m : qm_M) : qe_J kp md_M_readsText d (X_M_readsText_e f_M_readsSide f_M_takesWord f_M_next f_M_fails f_M_readsNumber l28 m) 0 [(0, .ref 112)] [] m := qe_run (B := [(28, [0], qp_c_ 112 l28)]) (n := 1000) hT (qe_B1 (qp_c__ok h28) qe_B0) rfl
def F_M_readsText (m : qm_M) : Option qm_R := X_M_readsText_e F_M_readsSide F_M_takesWord F_M_next F_M_fails F_M_readsNumber (L_M_readsText_28 1000000) m
theorem fj_M_readsText {kp : pm_K} {d : Nat} (hT : qe_G kp d (T_M_readsText F_M_readsSide F_M_takesWord F_M_next F_M_fails F_M_readsNumber)) (m : qm_M) : qe_J kp md_M_readsText d (F_M_readsText m) 0 [(0, .ref 112)] [] m := xg_M_readsText_e hT (lg_M_readsText_28 hT 1000000) m
theorem fg_M_readsText {kp : pm_K} (d : Nat) : qe_GE kp (d + 8) (277, 0, 11, 1, qw_c 112 F_M_readsText) := qe_entry (by decide +kernel) (qw_c_ok (d := d + 7) rfl rfl (fj_M_readsText (qe_G1 (fg_M_readsSide (d + 0)) (qe_G1 (fg_M_takesWord (d + 2)) (qe_G1 (fg_M_next (d + 5)) (qe_G1 (fg_M_fails (d + 6)) (qe_G1 (fg_M_readsNumber (d + 4)) qe_G0)))))))
/-! TurnFieldModel.tell()I -/
noncomputable def T_M_tell (f_M_readsText : qm_M → Option qm_R) (f_M_keepsAct : qm_M → Option qm_R) (f_M_heads : qm_M → Option qm_R) : qe_T := [(277, 0, 11, 1, qw_c 112 f_M_readsText), (253, 0, 11, 0, qw_c 112 f_M_keepsAct), (257, 0, 11, 1, qw_c 112 f_M_heads)]
def X_M_tell_28 (f_M_readsText : qm_M → Option qm_R) (f_M_keepsAct : qm_M → Option qm_R) (f_M_heads : qm_M → Option qm_R) (l28 : Int32 → qm_M → Option qm_R) (v2 : Int32) (m : qm_M) : Option qm_R :=
  if v2 < (2 : Int32) then
    qe_b (qm_in v2 2) (
    qe_b (qm_in ((0 : Int32) + v2) 33) (
    let m1 : qm_M := qm_sL m 113 (Int32.toNatClampNeg ((0 : Int32) + v2)) (Int32.toInt64 (m.1 130 (Int32.toNatClampNeg v2)))
    qe_b (qm_in v2 2) (
    qe_b (qm_in ((2 : Int32) + v2) 33) (
    let m2 : qm_M := qm_sL m1 113 (Int32.toNatClampNeg ((2 : Int32) + v2)) (Int32.toInt64 (m1.1 131 (Int32.toNatClampNeg v2)))
    qe_b (qm_in v2 2) (
    qe_b (qm_in ((4 : Int32) + v2) 33) (
    let m3 : qm_M := qm_sL m2 113 (Int32.toNatClampNeg ((4 : Int32) + v2)) (Int32.toInt64 (m2.1 132 (Int32.toNatClampNeg v2)))
    l28 (v2 + (1 : Int32)) m3))))))
  else
    let m4 : qm_M := qm_sL m 113 6 (m.2 112 31)
    qe_rI (f_M_heads m4) fun x1 m5 =>
    some (some (.int x1), m5)
set_option maxRecDepth 100000 in
theorem xg_M_tell_28 {kp : pm_K} {d : Nat} {f_M_readsText : qm_M → Option qm_R} {f_M_keepsAct : qm_M → Option qm_R} {f_M_heads : qm_M → Option qm_R} {l28 : Int32 → qm_M → Option qm_R} (hT : qe_G kp d (T_M_tell f_M_readsText f_M_keepsAct f_M_heads)) (h28 : ∀ (v2 : Int32) (m : qm_M), qe_J kp md_M_tell d (l28 v2 m) 28 [(0, .ref 112), (2, .int v2)] [] m) (v2 : Int32) (m : qm_M) : qe_J kp md_M_tell d (X_M_tell_28 f_M_readsText f_M_keepsAct f_M_heads l28 v2 m) 28 [(0, .ref 112), (2, .int v2)] [] m := qe_run (B := [(28, [0, 2], qp_ci_ 112 l28)]) (n := 1000) hT (qe_B1 (qp_ci__ok h28) qe_B0) rfl
def L_M_tell_28 : Nat → Int32 → qm_M → Option qm_R
  | 0, _, _ => none
  | n + 1, v2, m => X_M_tell_28 F_M_readsText F_M_keepsAct F_M_heads (L_M_tell_28 n) v2 m
theorem lg_M_tell_28 {kp : pm_K} {d : Nat} (hT : qe_G kp d (T_M_tell F_M_readsText F_M_keepsAct F_M_heads)) : ∀ (n : Nat) (v2 : Int32) (m : qm_M), qe_J kp md_M_tell d (L_M_tell_28 n v2 m) 28 [(0, .ref 112), (2, .int v2)] [] m
  | 0, v2, m => qe_none rfl
  | n + 1, v2, m => xg_M_tell_28 hT (lg_M_tell_28 hT n) v2 m
def X_M_tell_e (f_M_readsText : qm_M → Option qm_R) (f_M_keepsAct : qm_M → Option qm_R) (f_M_heads : qm_M → Option qm_R) (l28 : Int32 → qm_M → Option qm_R)  (m : qm_M) : Option qm_R :=
  qe_rI (f_M_readsText m) fun x1 m1 =>
  let m2 : qm_M := qm_sI m1 112 24 (0 : Int32)
  if x1 = 0 then
    some (some (.int ((-2 : Int32) - (m2.1 112 26))), m2)
  else
    qe_rV (f_M_keepsAct m2) fun m3 =>
    l28 (0 : Int32) m3
set_option maxRecDepth 100000 in
theorem xg_M_tell_e {kp : pm_K} {d : Nat} {f_M_readsText : qm_M → Option qm_R} {f_M_keepsAct : qm_M → Option qm_R} {f_M_heads : qm_M → Option qm_R} {l28 : Int32 → qm_M → Option qm_R} (hT : qe_G kp d (T_M_tell f_M_readsText f_M_keepsAct f_M_heads)) (h28 : ∀ (v2 : Int32) (m : qm_M), qe_J kp md_M_tell d (l28 v2 m) 28 [(0, .ref 112), (2, .int v2)] [] m) (m : qm_M) : qe_J kp md_M_tell d (X_M_tell_e f_M_readsText f_M_keepsAct f_M_heads l28 m) 0 [(0, .ref 112)] [] m := qe_run (B := [(28, [0, 2], qp_ci_ 112 l28)]) (n := 1000) hT (qe_B1 (qp_ci__ok h28) qe_B0) rfl
def F_M_tell (m : qm_M) : Option qm_R := X_M_tell_e F_M_readsText F_M_keepsAct F_M_heads (L_M_tell_28 1000000) m
theorem fj_M_tell {kp : pm_K} {d : Nat} (hT : qe_G kp d (T_M_tell F_M_readsText F_M_keepsAct F_M_heads)) (m : qm_M) : qe_J kp md_M_tell d (F_M_tell m) 0 [(0, .ref 112)] [] m := xg_M_tell_e hT (lg_M_tell_28 hT 1000000) m
theorem fg_M_tell {kp : pm_K} (d : Nat) : qe_GE kp (d + 9) (278, 0, 11, 1, qw_c 112 F_M_tell) := qe_entry (by decide +kernel) (qw_c_ok (d := d + 8) rfl rfl (fj_M_tell (qe_G1 (fg_M_readsText (d + 0)) (qe_G1 (fg_M_keepsAct (d + 7)) (qe_G1 (fg_M_heads (d + 6)) qe_G0)))))
/-! TurnFieldModel.manyOf(I)I -/
noncomputable def T_M_manyOf : qe_T := []
def X_M_manyOf_e (v1 : Int32) (m : qm_M) : Option qm_R :=
  qe_b (qm_in ((0 : Int32) + v1) 33) (
  some (some (.int (Int64.toInt32 (m.2 113 (Int32.toNatClampNeg ((0 : Int32) + v1))))), m))
set_option maxRecDepth 100000 in
theorem xg_M_manyOf_e {kp : pm_K} {d : Nat} (hT : qe_G kp d (T_M_manyOf)) (v1 : Int32) (m : qm_M) : qe_J kp md_M_manyOf d (X_M_manyOf_e v1 m) 0 [(0, .ref 112), (1, .int v1)] [] m := qe_run (B := []) (n := 1000) hT qe_B0 rfl
def F_M_manyOf (v1 : Int32) (m : qm_M) : Option qm_R := X_M_manyOf_e v1 m
theorem fj_M_manyOf {kp : pm_K} {d : Nat} (hT : qe_G kp d (T_M_manyOf)) (v1 : Int32) (m : qm_M) : qe_J kp md_M_manyOf d (F_M_manyOf v1 m) 0 [(0, .ref 112), (1, .int v1)] [] m := xg_M_manyOf_e hT v1 m
theorem fg_M_manyOf {kp : pm_K} (d : Nat) : qe_GE kp (d + 1) (279, 0, 11, 1, qw_ci 112 F_M_manyOf) := qe_entry (by decide +kernel) (qw_ci_ok (d := d + 0) rfl rfl (fj_M_manyOf qe_G0))
/-! TurnFieldModel.greatestOf(I)I -/
noncomputable def T_M_greatestOf : qe_T := []
def X_M_greatestOf_2 (l2 : Int32 → Int32 → qm_M → Option qm_R) (v0 : Int32) (v1 : Int32) (m : qm_M) : Option qm_R :=
  if (qo_ishr v0 (v1 + (1 : Int32))) = 0 then
    some (some (.int v1), m)
  else
    l2 v0 (v1 + (1 : Int32)) m
set_option maxRecDepth 100000 in
theorem xg_M_greatestOf_2 {kp : pm_K} {d : Nat} {l2 : Int32 → Int32 → qm_M → Option qm_R} (hT : qe_G kp d (T_M_greatestOf)) (h2 : ∀ (v0 : Int32) (v1 : Int32) (m : qm_M), qe_J kp md_M_greatestOf d (l2 v0 v1 m) 2 [(0, .int v0), (1, .int v1)] [] m) (v0 : Int32) (v1 : Int32) (m : qm_M) : qe_J kp md_M_greatestOf d (X_M_greatestOf_2 l2 v0 v1 m) 2 [(0, .int v0), (1, .int v1)] [] m := qe_run (B := [(2, [0, 1], qp_ii_ l2)]) (n := 1000) hT (qe_B1 (qp_ii__ok h2) qe_B0) rfl
def L_M_greatestOf_2 : Nat → Int32 → Int32 → qm_M → Option qm_R
  | 0, _, _, _ => none
  | n + 1, v0, v1, m => X_M_greatestOf_2 (L_M_greatestOf_2 n) v0 v1 m
theorem lg_M_greatestOf_2 {kp : pm_K} {d : Nat} (hT : qe_G kp d (T_M_greatestOf)) : ∀ (n : Nat) (v0 : Int32) (v1 : Int32) (m : qm_M), qe_J kp md_M_greatestOf d (L_M_greatestOf_2 n v0 v1 m) 2 [(0, .int v0), (1, .int v1)] [] m
  | 0, v0, v1, m => qe_none rfl
  | n + 1, v0, v1, m => xg_M_greatestOf_2 hT (lg_M_greatestOf_2 hT n) v0 v1 m
def X_M_greatestOf_e (l2 : Int32 → Int32 → qm_M → Option qm_R) (v0 : Int32) (m : qm_M) : Option qm_R :=
  l2 v0 (0 : Int32) m
set_option maxRecDepth 100000 in
theorem xg_M_greatestOf_e {kp : pm_K} {d : Nat} {l2 : Int32 → Int32 → qm_M → Option qm_R} (hT : qe_G kp d (T_M_greatestOf)) (h2 : ∀ (v0 : Int32) (v1 : Int32) (m : qm_M), qe_J kp md_M_greatestOf d (l2 v0 v1 m) 2 [(0, .int v0), (1, .int v1)] [] m) (v0 : Int32) (m : qm_M) : qe_J kp md_M_greatestOf d (X_M_greatestOf_e l2 v0 m) 0 [(0, .int v0)] [] m := qe_run (B := [(2, [0, 1], qp_ii_ l2)]) (n := 1000) hT (qe_B1 (qp_ii__ok h2) qe_B0) rfl
def F_M_greatestOf (v0 : Int32) (m : qm_M) : Option qm_R := X_M_greatestOf_e (L_M_greatestOf_2 1000000) v0 m
theorem fj_M_greatestOf {kp : pm_K} {d : Nat} (hT : qe_G kp d (T_M_greatestOf)) (v0 : Int32) (m : qm_M) : qe_J kp md_M_greatestOf d (F_M_greatestOf v0 m) 0 [(0, .int v0)] [] m := xg_M_greatestOf_e hT (lg_M_greatestOf_2 hT 1000000) v0 m
theorem fg_M_greatestOf {kp : pm_K} (d : Nat) : qe_GE kp (d + 1) (280, 1, 0, 1, qw_i F_M_greatestOf) := qe_entry (by decide +kernel) (qw_i_ok (d := d + 0) rfl rfl (fj_M_greatestOf qe_G0))
/-! TurnFieldModel.isNear(II)Z -/
noncomputable def T_M_isNear (f_M_size : Int64 → qm_M → Option qm_R) (f_M_greatestOf : Int32 → qm_M → Option qm_R) : qe_T := [(256, 1, 0, 1, qw_l f_M_size), (280, 1, 0, 1, qw_i f_M_greatestOf)]
def X_M_isNear_e (f_M_size : Int64 → qm_M → Option qm_R) (f_M_greatestOf : Int32 → qm_M → Option qm_R) (v0 : Int32) (v1 : Int32) (m : qm_M) : Option qm_R :=
  qe_rI (f_M_size (Int32.toInt64 v0) m) fun x1 m1 =>
  if x1 = (1 : Int32) then
    some (some (.int (1 : Int32)), m1)
  else
    qe_rI (f_M_greatestOf v0 m1) fun x2 m2 =>
    let x3 : Int32 := (v0 &&& ((qo_ishl (1 : Int32) x2) ^^^ (-1 : Int32)))
    qe_rI (f_M_size (Int32.toInt64 v0) m2) fun x4 m3 =>
    if x4 = (2 : Int32) then
      qe_rI (f_M_greatestOf x3 m3) fun x5 m4 =>
      if v1 < (x2 - x5) then
        some (some (.int (0 : Int32)), m4)
      else
        some (some (.int (1 : Int32)), m4)
    else
      some (some (.int (0 : Int32)), m3)
set_option maxRecDepth 100000 in
theorem xg_M_isNear_e {kp : pm_K} {d : Nat} {f_M_size : Int64 → qm_M → Option qm_R} {f_M_greatestOf : Int32 → qm_M → Option qm_R} (hT : qe_G kp d (T_M_isNear f_M_size f_M_greatestOf)) (v0 : Int32) (v1 : Int32) (m : qm_M) : qe_J kp md_M_isNear d (X_M_isNear_e f_M_size f_M_greatestOf v0 v1 m) 0 [(0, .int v0), (1, .int v1)] [] m := qe_run (B := []) (n := 1000) hT qe_B0 rfl
def F_M_isNear (v0 : Int32) (v1 : Int32) (m : qm_M) : Option qm_R := X_M_isNear_e F_M_size F_M_greatestOf v0 v1 m
theorem fj_M_isNear {kp : pm_K} {d : Nat} (hT : qe_G kp d (T_M_isNear F_M_size F_M_greatestOf)) (v0 : Int32) (v1 : Int32) (m : qm_M) : qe_J kp md_M_isNear d (F_M_isNear v0 v1 m) 0 [(0, .int v0), (1, .int v1)] [] m := xg_M_isNear_e hT v0 v1 m
theorem fg_M_isNear {kp : pm_K} (d : Nat) : qe_GE kp (d + 2) (281, 1, 0, 1, qw_ii F_M_isNear) := qe_entry (by decide +kernel) (qw_ii_ok (d := d + 1) rfl rfl (fj_M_isNear (qe_G1 (fg_M_size (d + 0)) (qe_G1 (fg_M_greatestOf (d + 0)) qe_G0))))
/-! TurnFieldModel.isRow(II)Z -/
noncomputable def T_M_isRow (f_M_size : Int64 → qm_M → Option qm_R) (f_M_greatestOf : Int32 → qm_M → Option qm_R) : qe_T := [(256, 1, 0, 1, qw_l f_M_size), (280, 1, 0, 1, qw_i f_M_greatestOf)]
def X_M_isRow_e (f_M_size : Int64 → qm_M → Option qm_R) (f_M_greatestOf : Int32 → qm_M → Option qm_R) (v0 : Int32) (v1 : Int32) (m : qm_M) : Option qm_R :=
  qe_rI (f_M_size (Int32.toInt64 v0) m) fun x1 m1 =>
  qe_rI (f_M_greatestOf v0 m1) fun x2 m2 =>
  if v1 < x1 then
    some (some (.int (0 : Int32)), m2)
  else
    if v0 = (qo_ishl ((qo_ishl (1 : Int32) x1) - (1 : Int32)) ((x2 + (1 : Int32)) - x1)) then
      some (some (.int (1 : Int32)), m2)
    else
      some (some (.int (0 : Int32)), m2)
set_option maxRecDepth 100000 in
theorem xg_M_isRow_e {kp : pm_K} {d : Nat} {f_M_size : Int64 → qm_M → Option qm_R} {f_M_greatestOf : Int32 → qm_M → Option qm_R} (hT : qe_G kp d (T_M_isRow f_M_size f_M_greatestOf)) (v0 : Int32) (v1 : Int32) (m : qm_M) : qe_J kp md_M_isRow d (X_M_isRow_e f_M_size f_M_greatestOf v0 v1 m) 0 [(0, .int v0), (1, .int v1)] [] m := qe_run (B := []) (n := 1000) hT qe_B0 rfl
def F_M_isRow (v0 : Int32) (v1 : Int32) (m : qm_M) : Option qm_R := X_M_isRow_e F_M_size F_M_greatestOf v0 v1 m
theorem fj_M_isRow {kp : pm_K} {d : Nat} (hT : qe_G kp d (T_M_isRow F_M_size F_M_greatestOf)) (v0 : Int32) (v1 : Int32) (m : qm_M) : qe_J kp md_M_isRow d (F_M_isRow v0 v1 m) 0 [(0, .int v0), (1, .int v1)] [] m := xg_M_isRow_e hT v0 v1 m
theorem fg_M_isRow {kp : pm_K} (d : Nat) : qe_GE kp (d + 2) (282, 1, 0, 1, qw_ii F_M_isRow) := qe_entry (by decide +kernel) (qw_ii_ok (d := d + 1) rfl rfl (fj_M_isRow (qe_G1 (fg_M_size (d + 0)) (qe_G1 (fg_M_greatestOf (d + 0)) qe_G0))))
/-! TurnFieldModel.maySet(II)Z -/
noncomputable def T_M_maySet (f_M_size : Int64 → qm_M → Option qm_R) (f_M_isRow : Int32 → Int32 → qm_M → Option qm_R) (f_M_isNear : Int32 → Int32 → qm_M → Option qm_R) : qe_T := [(256, 1, 0, 1, qw_l f_M_size), (282, 1, 0, 1, qw_ii f_M_isRow), (281, 1, 0, 1, qw_ii f_M_isNear)]
def X_M_maySet_e (f_M_size : Int64 → qm_M → Option qm_R) (f_M_isRow : Int32 → Int32 → qm_M → Option qm_R) (f_M_isNear : Int32 → Int32 → qm_M → Option qm_R) (v1 : Int32) (v2 : Int32) (m : qm_M) : Option qm_R :=
  qe_b (qm_in ((4 : Int32) + v1) 33) (
  let x1 : Int32 := (Int64.toInt32 (m.2 113 (Int32.toNatClampNeg ((4 : Int32) + v1))))
  qe_b (qm_in ((2 : Int32) + v1) 33) (
  if Int32.toInt (Int64.toInt32 (m.2 113 (Int32.toNatClampNeg ((2 : Int32) + v1)))) = 0 then
    qe_rI (f_M_size (Int32.toInt64 v2) m) fun x2 m1 =>
    if x1 < x2 then
      some (some (.int (0 : Int32)), m1)
    else
      some (some (.int (1 : Int32)), m1)
  else
   if Int32.toInt (Int64.toInt32 (m.2 113 (Int32.toNatClampNeg ((2 : Int32) + v1)))) = 1 then
     qe_rI (f_M_size (Int32.toInt64 v2) m) fun x3 m2 =>
     if x3 = x1 then
       some (some (.int (1 : Int32)), m2)
     else
       some (some (.int (0 : Int32)), m2)
   else
    if Int32.toInt (Int64.toInt32 (m.2 113 (Int32.toNatClampNeg ((2 : Int32) + v1)))) = 2 then
      qe_rI (f_M_isRow v2 x1 m) fun x4 m3 =>
      qe_b (qm_ni .boolean x4) (
      some (some (.int x4), m3))
    else
      qe_rI (f_M_isNear v2 x1 m) fun x5 m4 =>
      qe_b (qm_ni .boolean x5) (
      some (some (.int x5), m4))))
set_option maxRecDepth 100000 in
theorem xg_M_maySet_e {kp : pm_K} {d : Nat} {f_M_size : Int64 → qm_M → Option qm_R} {f_M_isRow : Int32 → Int32 → qm_M → Option qm_R} {f_M_isNear : Int32 → Int32 → qm_M → Option qm_R} (hT : qe_G kp d (T_M_maySet f_M_size f_M_isRow f_M_isNear)) (v1 : Int32) (v2 : Int32) (m : qm_M) : qe_J kp md_M_maySet d (X_M_maySet_e f_M_size f_M_isRow f_M_isNear v1 v2 m) 0 [(0, .ref 112), (1, .int v1), (2, .int v2)] [] m := qe_run (B := []) (n := 1000) hT qe_B0 rfl
def F_M_maySet (v1 : Int32) (v2 : Int32) (m : qm_M) : Option qm_R := X_M_maySet_e F_M_size F_M_isRow F_M_isNear v1 v2 m
theorem fj_M_maySet {kp : pm_K} {d : Nat} (hT : qe_G kp d (T_M_maySet F_M_size F_M_isRow F_M_isNear)) (v1 : Int32) (v2 : Int32) (m : qm_M) : qe_J kp md_M_maySet d (F_M_maySet v1 v2 m) 0 [(0, .ref 112), (1, .int v1), (2, .int v2)] [] m := xg_M_maySet_e hT v1 v2 m
theorem fg_M_maySet {kp : pm_K} (d : Nat) : qe_GE kp (d + 3) (283, 0, 11, 1, qw_cii 112 F_M_maySet) := qe_entry (by decide +kernel) (qw_cii_ok (d := d + 2) rfl rfl (fj_M_maySet (qe_G1 (fg_M_size (d + 1)) (qe_G1 (fg_M_isRow (d + 0)) (qe_G1 (fg_M_isNear (d + 0)) qe_G0)))))
/-! TurnFieldModel.sets(II)I -/
noncomputable def T_M_sets (f_M_isIn : Int64 → Int64 → Int64 → qm_M → Option qm_R) (f_M_maySet : Int32 → Int32 → qm_M → Option qm_R) : qe_T := [(185, 1, 0, 1, qw_lll f_M_isIn), (283, 0, 11, 1, qw_cii 112 f_M_maySet)]
def X_M_sets_31 (f_M_isIn : Int64 → Int64 → Int64 → qm_M → Option qm_R) (f_M_maySet : Int32 → Int32 → qm_M → Option qm_R) (l31 : Int32 → Int32 → Int32 → Int32 → qm_M → Option qm_R) (v1 : Int32) (v2 : Int32) (v3 : Int32) (v4 : Int32) (m : qm_M) : Option qm_R :=
  if v4 < (qo_ishl (2 : Int32) v2) then
    qe_rI (f_M_maySet v1 v4 m) fun x1 m1 =>
    if x1 = 0 then
      l31 v1 v2 (v3 + (0 : Int32)) (v4 + (1 : Int32)) m1
    else
      l31 v1 v2 (v3 + (1 : Int32)) (v4 + (1 : Int32)) m1
  else
    some (some (.int v3), m)
set_option maxRecDepth 100000 in
theorem xg_M_sets_31 {kp : pm_K} {d : Nat} {f_M_isIn : Int64 → Int64 → Int64 → qm_M → Option qm_R} {f_M_maySet : Int32 → Int32 → qm_M → Option qm_R} {l31 : Int32 → Int32 → Int32 → Int32 → qm_M → Option qm_R} (hT : qe_G kp d (T_M_sets f_M_isIn f_M_maySet)) (h31 : ∀ (v1 : Int32) (v2 : Int32) (v3 : Int32) (v4 : Int32) (m : qm_M), qe_J kp md_M_sets d (l31 v1 v2 v3 v4 m) 31 [(0, .ref 112), (1, .int v1), (2, .int v2), (3, .int v3), (4, .int v4)] [] m) (v1 : Int32) (v2 : Int32) (v3 : Int32) (v4 : Int32) (m : qm_M) : qe_J kp md_M_sets d (X_M_sets_31 f_M_isIn f_M_maySet l31 v1 v2 v3 v4 m) 31 [(0, .ref 112), (1, .int v1), (2, .int v2), (3, .int v3), (4, .int v4)] [] m := qe_run (B := [(31, [0, 1, 2, 3, 4], qp_ciiii_ 112 l31)]) (n := 1000) hT (qe_B1 (qp_ciiii__ok h31) qe_B0) rfl
def L_M_sets_31 : Nat → Int32 → Int32 → Int32 → Int32 → qm_M → Option qm_R
  | 0, _, _, _, _, _ => none
  | n + 1, v1, v2, v3, v4, m => X_M_sets_31 F_M_isIn F_M_maySet (L_M_sets_31 n) v1 v2 v3 v4 m
theorem lg_M_sets_31 {kp : pm_K} {d : Nat} (hT : qe_G kp d (T_M_sets F_M_isIn F_M_maySet)) : ∀ (n : Nat) (v1 : Int32) (v2 : Int32) (v3 : Int32) (v4 : Int32) (m : qm_M), qe_J kp md_M_sets d (L_M_sets_31 n v1 v2 v3 v4 m) 31 [(0, .ref 112), (1, .int v1), (2, .int v2), (3, .int v3), (4, .int v4)] [] m
  | 0, v1, v2, v3, v4, m => qe_none rfl
  | n + 1, v1, v2, v3, v4, m => xg_M_sets_31 hT (lg_M_sets_31 hT n) v1 v2 v3 v4 m
def X_M_sets_e (f_M_isIn : Int64 → Int64 → Int64 → qm_M → Option qm_R) (f_M_maySet : Int32 → Int32 → qm_M → Option qm_R) (l31 : Int32 → Int32 → Int32 → Int32 → qm_M → Option qm_R) (v1 : Int32) (v2 : Int32) (m : qm_M) : Option qm_R :=
  qe_rI (f_M_isIn (Int32.toInt64 v1) (0 : Int64) (1 : Int64) m) fun x1 m1 =>
  if x1 = 0 then
    some (some (.int (-1 : Int32)), m1)
  else
    qe_rI (f_M_isIn (Int32.toInt64 v2) (0 : Int64) (11 : Int64) m1) fun x2 m2 =>
    if x2 = 0 then
      some (some (.int (-1 : Int32)), m2)
    else
      l31 v1 v2 (0 : Int32) (qo_ishl (1 : Int32) v2) m2
set_option maxRecDepth 100000 in
theorem xg_M_sets_e {kp : pm_K} {d : Nat} {f_M_isIn : Int64 → Int64 → Int64 → qm_M → Option qm_R} {f_M_maySet : Int32 → Int32 → qm_M → Option qm_R} {l31 : Int32 → Int32 → Int32 → Int32 → qm_M → Option qm_R} (hT : qe_G kp d (T_M_sets f_M_isIn f_M_maySet)) (h31 : ∀ (v1 : Int32) (v2 : Int32) (v3 : Int32) (v4 : Int32) (m : qm_M), qe_J kp md_M_sets d (l31 v1 v2 v3 v4 m) 31 [(0, .ref 112), (1, .int v1), (2, .int v2), (3, .int v3), (4, .int v4)] [] m) (v1 : Int32) (v2 : Int32) (m : qm_M) : qe_J kp md_M_sets d (X_M_sets_e f_M_isIn f_M_maySet l31 v1 v2 m) 0 [(0, .ref 112), (1, .int v1), (2, .int v2)] [] m := qe_run (B := [(31, [0, 1, 2, 3, 4], qp_ciiii_ 112 l31)]) (n := 1000) hT (qe_B1 (qp_ciiii__ok h31) qe_B0) rfl
def F_M_sets (v1 : Int32) (v2 : Int32) (m : qm_M) : Option qm_R := X_M_sets_e F_M_isIn F_M_maySet (L_M_sets_31 1000000) v1 v2 m
theorem fj_M_sets {kp : pm_K} {d : Nat} (hT : qe_G kp d (T_M_sets F_M_isIn F_M_maySet)) (v1 : Int32) (v2 : Int32) (m : qm_M) : qe_J kp md_M_sets d (F_M_sets v1 v2 m) 0 [(0, .ref 112), (1, .int v1), (2, .int v2)] [] m := xg_M_sets_e hT (lg_M_sets_31 hT 1000000) v1 v2 m
theorem fg_M_sets {kp : pm_K} (d : Nat) : qe_GE kp (d + 4) (284, 0, 11, 1, qw_cii 112 F_M_sets) := qe_entry (by decide +kernel) (qw_cii_ok (d := d + 3) rfl rfl (fj_M_sets (qe_G1 (fg_M_isIn (d + 2)) (qe_G1 (fg_M_maySet (d + 0)) qe_G0))))
/-! TurnFieldModel.sumOf(II)I -/
noncomputable def T_M_sumOf : qe_T := []
def X_M_sumOf_5 (l5 : Int32 → Int32 → Int32 → Int32 → qm_M → Option qm_R) (v1 : Int32) (v2 : Int32) (v3 : Int32) (v4 : Int32) (m : qm_M) : Option qm_R :=
  if (qo_ishr v2 v4) = 0 then
    some (some (.int v3), m)
  else
    if ((qo_ishr v2 v4) &&& (1 : Int32)) = (1 : Int32) then
      qe_b (qm_in (((12 : Int32) * v1) + v4) 24) (
      let x1 : Int32 := (v3 ^^^ (m.1 133 (Int32.toNatClampNeg (((12 : Int32) * v1) + v4))))
      l5 v1 v2 x1 (v4 + (1 : Int32)) m)
    else
      l5 v1 v2 (v3 ^^^ (0 : Int32)) (v4 + (1 : Int32)) m
set_option maxRecDepth 100000 in
theorem xg_M_sumOf_5 {kp : pm_K} {d : Nat} {l5 : Int32 → Int32 → Int32 → Int32 → qm_M → Option qm_R} (hT : qe_G kp d (T_M_sumOf)) (h5 : ∀ (v1 : Int32) (v2 : Int32) (v3 : Int32) (v4 : Int32) (m : qm_M), qe_J kp md_M_sumOf d (l5 v1 v2 v3 v4 m) 5 [(0, .ref 112), (1, .int v1), (2, .int v2), (3, .int v3), (4, .int v4)] [] m) (v1 : Int32) (v2 : Int32) (v3 : Int32) (v4 : Int32) (m : qm_M) : qe_J kp md_M_sumOf d (X_M_sumOf_5 l5 v1 v2 v3 v4 m) 5 [(0, .ref 112), (1, .int v1), (2, .int v2), (3, .int v3), (4, .int v4)] [] m := qe_run (B := [(5, [0, 1, 2, 3, 4], qp_ciiii_ 112 l5)]) (n := 1000) hT (qe_B1 (qp_ciiii__ok h5) qe_B0) rfl
def L_M_sumOf_5 : Nat → Int32 → Int32 → Int32 → Int32 → qm_M → Option qm_R
  | 0, _, _, _, _, _ => none
  | n + 1, v1, v2, v3, v4, m => X_M_sumOf_5 (L_M_sumOf_5 n) v1 v2 v3 v4 m
theorem lg_M_sumOf_5 {kp : pm_K} {d : Nat} (hT : qe_G kp d (T_M_sumOf)) : ∀ (n : Nat) (v1 : Int32) (v2 : Int32) (v3 : Int32) (v4 : Int32) (m : qm_M), qe_J kp md_M_sumOf d (L_M_sumOf_5 n v1 v2 v3 v4 m) 5 [(0, .ref 112), (1, .int v1), (2, .int v2), (3, .int v3), (4, .int v4)] [] m
  | 0, v1, v2, v3, v4, m => qe_none rfl
  | n + 1, v1, v2, v3, v4, m => xg_M_sumOf_5 hT (lg_M_sumOf_5 hT n) v1 v2 v3 v4 m
def X_M_sumOf_e (l5 : Int32 → Int32 → Int32 → Int32 → qm_M → Option qm_R) (v1 : Int32) (v2 : Int32) (m : qm_M) : Option qm_R :=
  l5 v1 v2 (0 : Int32) (0 : Int32) m
set_option maxRecDepth 100000 in
theorem xg_M_sumOf_e {kp : pm_K} {d : Nat} {l5 : Int32 → Int32 → Int32 → Int32 → qm_M → Option qm_R} (hT : qe_G kp d (T_M_sumOf)) (h5 : ∀ (v1 : Int32) (v2 : Int32) (v3 : Int32) (v4 : Int32) (m : qm_M), qe_J kp md_M_sumOf d (l5 v1 v2 v3 v4 m) 5 [(0, .ref 112), (1, .int v1), (2, .int v2), (3, .int v3), (4, .int v4)] [] m) (v1 : Int32) (v2 : Int32) (m : qm_M) : qe_J kp md_M_sumOf d (X_M_sumOf_e l5 v1 v2 m) 0 [(0, .ref 112), (1, .int v1), (2, .int v2)] [] m := qe_run (B := [(5, [0, 1, 2, 3, 4], qp_ciiii_ 112 l5)]) (n := 1000) hT (qe_B1 (qp_ciiii__ok h5) qe_B0) rfl
def F_M_sumOf (v1 : Int32) (v2 : Int32) (m : qm_M) : Option qm_R := X_M_sumOf_e (L_M_sumOf_5 1000000) v1 v2 m
theorem fj_M_sumOf {kp : pm_K} {d : Nat} (hT : qe_G kp d (T_M_sumOf)) (v1 : Int32) (v2 : Int32) (m : qm_M) : qe_J kp md_M_sumOf d (F_M_sumOf v1 v2 m) 0 [(0, .ref 112), (1, .int v1), (2, .int v2)] [] m := xg_M_sumOf_e hT (lg_M_sumOf_5 hT 1000000) v1 v2 m
theorem fg_M_sumOf {kp : pm_K} (d : Nat) : qe_GE kp (d + 1) (285, 0, 11, 1, qw_cii 112 F_M_sumOf) := qe_entry (by decide +kernel) (qw_cii_ok (d := d + 0) rfl rfl (fj_M_sumOf qe_G0))
/-! TurnFieldModel.leastNot(I)I -/
noncomputable def T_M_leastNot : qe_T := []
def X_M_leastNot_2 (l2 : Int32 → Int32 → qm_M → Option qm_R) (v1 : Int32) (v2 : Int32) (m : qm_M) : Option qm_R :=
  if v1 < v2 then
    some (some (.int v2), m)
  else
    qe_b (qm_in v2 65536) (
    if (m.1 134 (Int32.toNatClampNeg v2)) = 0 then
      some (some (.int v2), m)
    else
      l2 v1 (v2 + (1 : Int32)) m)
set_option maxRecDepth 100000 in
theorem xg_M_leastNot_2 {kp : pm_K} {d : Nat} {l2 : Int32 → Int32 → qm_M → Option qm_R} (hT : qe_G kp d (T_M_leastNot)) (h2 : ∀ (v1 : Int32) (v2 : Int32) (m : qm_M), qe_J kp md_M_leastNot d (l2 v1 v2 m) 2 [(0, .ref 112), (1, .int v1), (2, .int v2)] [] m) (v1 : Int32) (v2 : Int32) (m : qm_M) : qe_J kp md_M_leastNot d (X_M_leastNot_2 l2 v1 v2 m) 2 [(0, .ref 112), (1, .int v1), (2, .int v2)] [] m := qe_run (B := [(2, [0, 1, 2], qp_cii_ 112 l2)]) (n := 1000) hT (qe_B1 (qp_cii__ok h2) qe_B0) rfl
def L_M_leastNot_2 : Nat → Int32 → Int32 → qm_M → Option qm_R
  | 0, _, _, _ => none
  | n + 1, v1, v2, m => X_M_leastNot_2 (L_M_leastNot_2 n) v1 v2 m
theorem lg_M_leastNot_2 {kp : pm_K} {d : Nat} (hT : qe_G kp d (T_M_leastNot)) : ∀ (n : Nat) (v1 : Int32) (v2 : Int32) (m : qm_M), qe_J kp md_M_leastNot d (L_M_leastNot_2 n v1 v2 m) 2 [(0, .ref 112), (1, .int v1), (2, .int v2)] [] m
  | 0, v1, v2, m => qe_none rfl
  | n + 1, v1, v2, m => xg_M_leastNot_2 hT (lg_M_leastNot_2 hT n) v1 v2 m
def X_M_leastNot_e (l2 : Int32 → Int32 → qm_M → Option qm_R) (v1 : Int32) (m : qm_M) : Option qm_R :=
  l2 v1 (0 : Int32) m
set_option maxRecDepth 100000 in
theorem xg_M_leastNot_e {kp : pm_K} {d : Nat} {l2 : Int32 → Int32 → qm_M → Option qm_R} (hT : qe_G kp d (T_M_leastNot)) (h2 : ∀ (v1 : Int32) (v2 : Int32) (m : qm_M), qe_J kp md_M_leastNot d (l2 v1 v2 m) 2 [(0, .ref 112), (1, .int v1), (2, .int v2)] [] m) (v1 : Int32) (m : qm_M) : qe_J kp md_M_leastNot d (X_M_leastNot_e l2 v1 m) 0 [(0, .ref 112), (1, .int v1)] [] m := qe_run (B := [(2, [0, 1, 2], qp_cii_ 112 l2)]) (n := 1000) hT (qe_B1 (qp_cii__ok h2) qe_B0) rfl
def F_M_leastNot (v1 : Int32) (m : qm_M) : Option qm_R := X_M_leastNot_e (L_M_leastNot_2 1000000) v1 m
theorem fj_M_leastNot {kp : pm_K} {d : Nat} (hT : qe_G kp d (T_M_leastNot)) (v1 : Int32) (m : qm_M) : qe_J kp md_M_leastNot d (F_M_leastNot v1 m) 0 [(0, .ref 112), (1, .int v1)] [] m := xg_M_leastNot_e hT (lg_M_leastNot_2 hT 1000000) v1 m
theorem fg_M_leastNot {kp : pm_K} (d : Nat) : qe_GE kp (d + 1) (286, 0, 11, 1, qw_ci 112 F_M_leastNot) := qe_entry (by decide +kernel) (qw_ci_ok (d := d + 0) rfl rfl (fj_M_leastNot qe_G0))
/-! TurnFieldModel.laysWorth(II)V -/
noncomputable def T_M_laysWorth (f_M_maySet : Int32 → Int32 → qm_M → Option qm_R) (f_M_sumOf : Int32 → Int32 → qm_M → Option qm_R) (f_M_leastNot : Int32 → qm_M → Option qm_R) : qe_T := [(283, 0, 11, 1, qw_cii 112 f_M_maySet), (285, 0, 11, 1, qw_cii 112 f_M_sumOf), (286, 0, 11, 1, qw_ci 112 f_M_leastNot)]
def X_M_laysWorth_29 (f_M_maySet : Int32 → Int32 → qm_M → Option qm_R) (f_M_sumOf : Int32 → Int32 → qm_M → Option qm_R) (f_M_leastNot : Int32 → qm_M → Option qm_R) (l29 : Int32 → Int32 → Int32 → Int32 → qm_M → Option qm_R) (v1 : Int32) (v2 : Int32) (v3 : Int32) (v4 : Int32) (m : qm_M) : Option qm_R :=
  if v4 < (qo_ishl (2 : Int32) v2) then
    qe_rI (f_M_maySet v1 v4 m) fun x1 m1 =>
    if x1 = 0 then
      l29 v1 v2 v3 (v4 + (1 : Int32)) m1
    else
      qe_rI (f_M_sumOf v1 (v4 &&& ((qo_ishl (1 : Int32) v2) ^^^ (-1 : Int32))) m1) fun x2 m2 =>
      qe_b (qm_in x2 65536) (
      let m3 : qm_M := qm_sI m2 134 (Int32.toNatClampNeg x2) ((1 : Int32) &&& 1)
      l29 v1 v2 (v3 + (1 : Int32)) (v4 + (1 : Int32)) m3)
  else
    qe_rI (f_M_leastNot v3 m) fun x3 m4 =>
    qe_b (qm_in (((12 : Int32) * v1) + v2) 24) (
    let m5 : qm_M := qm_sI m4 133 (Int32.toNatClampNeg (((12 : Int32) * v1) + v2)) x3
    some (none, m5))
set_option maxRecDepth 100000 in
theorem xg_M_laysWorth_29 {kp : pm_K} {d : Nat} {f_M_maySet : Int32 → Int32 → qm_M → Option qm_R} {f_M_sumOf : Int32 → Int32 → qm_M → Option qm_R} {f_M_leastNot : Int32 → qm_M → Option qm_R} {l29 : Int32 → Int32 → Int32 → Int32 → qm_M → Option qm_R} (hT : qe_G kp d (T_M_laysWorth f_M_maySet f_M_sumOf f_M_leastNot)) (h29 : ∀ (v1 : Int32) (v2 : Int32) (v3 : Int32) (v4 : Int32) (m : qm_M), qe_J kp md_M_laysWorth d (l29 v1 v2 v3 v4 m) 29 [(0, .ref 112), (1, .int v1), (2, .int v2), (3, .int v3), (4, .int v4)] [] m) (v1 : Int32) (v2 : Int32) (v3 : Int32) (v4 : Int32) (m : qm_M) : qe_J kp md_M_laysWorth d (X_M_laysWorth_29 f_M_maySet f_M_sumOf f_M_leastNot l29 v1 v2 v3 v4 m) 29 [(0, .ref 112), (1, .int v1), (2, .int v2), (3, .int v3), (4, .int v4)] [] m := qe_run (B := [(29, [0, 1, 2, 3, 4], qp_ciiii_ 112 l29)]) (n := 1000) hT (qe_B1 (qp_ciiii__ok h29) qe_B0) rfl
def L_M_laysWorth_29 : Nat → Int32 → Int32 → Int32 → Int32 → qm_M → Option qm_R
  | 0, _, _, _, _, _ => none
  | n + 1, v1, v2, v3, v4, m => X_M_laysWorth_29 F_M_maySet F_M_sumOf F_M_leastNot (L_M_laysWorth_29 n) v1 v2 v3 v4 m
theorem lg_M_laysWorth_29 {kp : pm_K} {d : Nat} (hT : qe_G kp d (T_M_laysWorth F_M_maySet F_M_sumOf F_M_leastNot)) : ∀ (n : Nat) (v1 : Int32) (v2 : Int32) (v3 : Int32) (v4 : Int32) (m : qm_M), qe_J kp md_M_laysWorth d (L_M_laysWorth_29 n v1 v2 v3 v4 m) 29 [(0, .ref 112), (1, .int v1), (2, .int v2), (3, .int v3), (4, .int v4)] [] m
  | 0, v1, v2, v3, v4, m => qe_none rfl
  | n + 1, v1, v2, v3, v4, m => xg_M_laysWorth_29 hT (lg_M_laysWorth_29 hT n) v1 v2 v3 v4 m
def X_M_laysWorth_2 (f_M_maySet : Int32 → Int32 → qm_M → Option qm_R) (f_M_sumOf : Int32 → Int32 → qm_M → Option qm_R) (f_M_leastNot : Int32 → qm_M → Option qm_R) (l2 : Int32 → Int32 → Int32 → qm_M → Option qm_R) (l29 : Int32 → Int32 → Int32 → Int32 → qm_M → Option qm_R) (v1 : Int32) (v2 : Int32) (v3 : Int32) (m : qm_M) : Option qm_R :=
  if v3 < (4096 : Int32) then
    qe_b (qm_in v3 65536) (
    let m1 : qm_M := qm_sI m 134 (Int32.toNatClampNeg v3) ((0 : Int32) &&& 1)
    l2 v1 v2 (v3 + (1 : Int32)) m1)
  else
    l29 v1 v2 (0 : Int32) (qo_ishl (1 : Int32) v2) m
set_option maxRecDepth 100000 in
theorem xg_M_laysWorth_2 {kp : pm_K} {d : Nat} {f_M_maySet : Int32 → Int32 → qm_M → Option qm_R} {f_M_sumOf : Int32 → Int32 → qm_M → Option qm_R} {f_M_leastNot : Int32 → qm_M → Option qm_R} {l2 : Int32 → Int32 → Int32 → qm_M → Option qm_R} {l29 : Int32 → Int32 → Int32 → Int32 → qm_M → Option qm_R} (hT : qe_G kp d (T_M_laysWorth f_M_maySet f_M_sumOf f_M_leastNot)) (h2 : ∀ (v1 : Int32) (v2 : Int32) (v3 : Int32) (m : qm_M), qe_J kp md_M_laysWorth d (l2 v1 v2 v3 m) 2 [(0, .ref 112), (1, .int v1), (2, .int v2), (3, .int v3)] [] m) (h29 : ∀ (v1 : Int32) (v2 : Int32) (v3 : Int32) (v4 : Int32) (m : qm_M), qe_J kp md_M_laysWorth d (l29 v1 v2 v3 v4 m) 29 [(0, .ref 112), (1, .int v1), (2, .int v2), (3, .int v3), (4, .int v4)] [] m) (v1 : Int32) (v2 : Int32) (v3 : Int32) (m : qm_M) : qe_J kp md_M_laysWorth d (X_M_laysWorth_2 f_M_maySet f_M_sumOf f_M_leastNot l2 l29 v1 v2 v3 m) 2 [(0, .ref 112), (1, .int v1), (2, .int v2), (3, .int v3)] [] m := qe_run (B := [(2, [0, 1, 2, 3], qp_ciii_ 112 l2), (29, [0, 1, 2, 3, 4], qp_ciiii_ 112 l29)]) (n := 1000) hT (qe_B1 (qp_ciii__ok h2) (qe_B1 (qp_ciiii__ok h29) qe_B0)) rfl
def L_M_laysWorth_2 : Nat → Int32 → Int32 → Int32 → qm_M → Option qm_R
  | 0, _, _, _, _ => none
  | n + 1, v1, v2, v3, m => X_M_laysWorth_2 F_M_maySet F_M_sumOf F_M_leastNot (L_M_laysWorth_2 n) (L_M_laysWorth_29 1000000) v1 v2 v3 m
theorem lg_M_laysWorth_2 {kp : pm_K} {d : Nat} (hT : qe_G kp d (T_M_laysWorth F_M_maySet F_M_sumOf F_M_leastNot)) : ∀ (n : Nat) (v1 : Int32) (v2 : Int32) (v3 : Int32) (m : qm_M), qe_J kp md_M_laysWorth d (L_M_laysWorth_2 n v1 v2 v3 m) 2 [(0, .ref 112), (1, .int v1), (2, .int v2), (3, .int v3)] [] m
  | 0, v1, v2, v3, m => qe_none rfl
  | n + 1, v1, v2, v3, m => xg_M_laysWorth_2 hT (lg_M_laysWorth_2 hT n) (lg_M_laysWorth_29 hT 1000000) v1 v2 v3 m
def X_M_laysWorth_e (f_M_maySet : Int32 → Int32 → qm_M → Option qm_R) (f_M_sumOf : Int32 → Int32 → qm_M → Option qm_R) (f_M_leastNot : Int32 → qm_M → Option qm_R) (l2 : Int32 → Int32 → Int32 → qm_M → Option qm_R) (v1 : Int32) (v2 : Int32) (m : qm_M) : Option qm_R :=
  l2 v1 v2 (0 : Int32) m
set_option maxRecDepth 100000 in
theorem xg_M_laysWorth_e {kp : pm_K} {d : Nat} {f_M_maySet : Int32 → Int32 → qm_M → Option qm_R} {f_M_sumOf : Int32 → Int32 → qm_M → Option qm_R} {f_M_leastNot : Int32 → qm_M → Option qm_R} {l2 : Int32 → Int32 → Int32 → qm_M → Option qm_R} (hT : qe_G kp d (T_M_laysWorth f_M_maySet f_M_sumOf f_M_leastNot)) (h2 : ∀ (v1 : Int32) (v2 : Int32) (v3 : Int32) (m : qm_M), qe_J kp md_M_laysWorth d (l2 v1 v2 v3 m) 2 [(0, .ref 112), (1, .int v1), (2, .int v2), (3, .int v3)] [] m) (v1 : Int32) (v2 : Int32) (m : qm_M) : qe_J kp md_M_laysWorth d (X_M_laysWorth_e f_M_maySet f_M_sumOf f_M_leastNot l2 v1 v2 m) 0 [(0, .ref 112), (1, .int v1), (2, .int v2)] [] m := qe_run (B := [(2, [0, 1, 2, 3], qp_ciii_ 112 l2)]) (n := 1000) hT (qe_B1 (qp_ciii__ok h2) qe_B0) rfl
def F_M_laysWorth (v1 : Int32) (v2 : Int32) (m : qm_M) : Option qm_R := X_M_laysWorth_e F_M_maySet F_M_sumOf F_M_leastNot (L_M_laysWorth_2 1000000) v1 v2 m
theorem fj_M_laysWorth {kp : pm_K} {d : Nat} (hT : qe_G kp d (T_M_laysWorth F_M_maySet F_M_sumOf F_M_leastNot)) (v1 : Int32) (v2 : Int32) (m : qm_M) : qe_J kp md_M_laysWorth d (F_M_laysWorth v1 v2 m) 0 [(0, .ref 112), (1, .int v1), (2, .int v2)] [] m := xg_M_laysWorth_e hT (lg_M_laysWorth_2 hT 1000000) v1 v2 m
theorem fg_M_laysWorth {kp : pm_K} (d : Nat) : qe_GE kp (d + 4) (287, 0, 11, 0, qw_cii 112 F_M_laysWorth) := qe_entry (by decide +kernel) (qw_cii_ok (d := d + 3) rfl rfl (fj_M_laysWorth (qe_G1 (fg_M_maySet (d + 0)) (qe_G1 (fg_M_sumOf (d + 2)) (qe_G1 (fg_M_leastNot (d + 2)) qe_G0)))))
/-! TurnFieldModel.laysWorths(I)V -/
noncomputable def T_M_laysWorths (f_M_laysWorth : Int32 → Int32 → qm_M → Option qm_R) : qe_T := [(287, 0, 11, 0, qw_cii 112 f_M_laysWorth)]
def X_M_laysWorths_9 (f_M_laysWorth : Int32 → Int32 → qm_M → Option qm_R) (l2 : Int32 → Int32 → qm_M → Option qm_R) (l9 : Int32 → Int32 → Int32 → qm_M → Option qm_R) (v1 : Int32) (v2 : Int32) (v3 : Int32) (m : qm_M) : Option qm_R :=
  if v3 < v1 then
    qe_rV (f_M_laysWorth v2 v3 m) fun m1 =>
    l9 v1 v2 (v3 + (1 : Int32)) m1
  else
    l2 v1 (v2 + (1 : Int32)) m
set_option maxRecDepth 100000 in
theorem xg_M_laysWorths_9 {kp : pm_K} {d : Nat} {f_M_laysWorth : Int32 → Int32 → qm_M → Option qm_R} {l2 : Int32 → Int32 → qm_M → Option qm_R} {l9 : Int32 → Int32 → Int32 → qm_M → Option qm_R} (hT : qe_G kp d (T_M_laysWorths f_M_laysWorth)) (h2 : ∀ (v1 : Int32) (v2 : Int32) (m : qm_M), qe_J kp md_M_laysWorths d (l2 v1 v2 m) 2 [(0, .ref 112), (1, .int v1), (2, .int v2)] [] m) (h9 : ∀ (v1 : Int32) (v2 : Int32) (v3 : Int32) (m : qm_M), qe_J kp md_M_laysWorths d (l9 v1 v2 v3 m) 9 [(0, .ref 112), (1, .int v1), (2, .int v2), (3, .int v3)] [] m) (v1 : Int32) (v2 : Int32) (v3 : Int32) (m : qm_M) : qe_J kp md_M_laysWorths d (X_M_laysWorths_9 f_M_laysWorth l2 l9 v1 v2 v3 m) 9 [(0, .ref 112), (1, .int v1), (2, .int v2), (3, .int v3)] [] m := qe_run (B := [(2, [0, 1, 2], qp_cii_ 112 l2), (9, [0, 1, 2, 3], qp_ciii_ 112 l9)]) (n := 1000) hT (qe_B1 (qp_cii__ok h2) (qe_B1 (qp_ciii__ok h9) qe_B0)) rfl
def L_M_laysWorths_9 (K2 : Int32 → Int32 → qm_M → Option qm_R) : Nat → Int32 → Int32 → Int32 → qm_M → Option qm_R
  | 0, _, _, _, _ => none
  | n + 1, v1, v2, v3, m => X_M_laysWorths_9 F_M_laysWorth K2 (L_M_laysWorths_9 K2 n) v1 v2 v3 m
theorem lg_M_laysWorths_9 {kp : pm_K} {d : Nat} (hT : qe_G kp d (T_M_laysWorths F_M_laysWorth)) {K2 : Int32 → Int32 → qm_M → Option qm_R} (hK2 : ∀ (v1 : Int32) (v2 : Int32) (m : qm_M), qe_J kp md_M_laysWorths d (K2 v1 v2 m) 2 [(0, .ref 112), (1, .int v1), (2, .int v2)] [] m) : ∀ (n : Nat) (v1 : Int32) (v2 : Int32) (v3 : Int32) (m : qm_M), qe_J kp md_M_laysWorths d (L_M_laysWorths_9 K2 n v1 v2 v3 m) 9 [(0, .ref 112), (1, .int v1), (2, .int v2), (3, .int v3)] [] m
  | 0, v1, v2, v3, m => qe_none rfl
  | n + 1, v1, v2, v3, m => xg_M_laysWorths_9 hT hK2 (lg_M_laysWorths_9 hT hK2 n) v1 v2 v3 m
def X_M_laysWorths_2 (f_M_laysWorth : Int32 → Int32 → qm_M → Option qm_R) (l9 : Int32 → Int32 → Int32 → qm_M → Option qm_R) (v1 : Int32) (v2 : Int32) (m : qm_M) : Option qm_R :=
  if v2 < (2 : Int32) then
    l9 v1 v2 (0 : Int32) m
  else
    some (none, m)
set_option maxRecDepth 100000 in
theorem xg_M_laysWorths_2 {kp : pm_K} {d : Nat} {f_M_laysWorth : Int32 → Int32 → qm_M → Option qm_R} {l9 : Int32 → Int32 → Int32 → qm_M → Option qm_R} (hT : qe_G kp d (T_M_laysWorths f_M_laysWorth)) (h9 : ∀ (v1 : Int32) (v2 : Int32) (v3 : Int32) (m : qm_M), qe_J kp md_M_laysWorths d (l9 v1 v2 v3 m) 9 [(0, .ref 112), (1, .int v1), (2, .int v2), (3, .int v3)] [] m) (v1 : Int32) (v2 : Int32) (m : qm_M) : qe_J kp md_M_laysWorths d (X_M_laysWorths_2 f_M_laysWorth l9 v1 v2 m) 2 [(0, .ref 112), (1, .int v1), (2, .int v2)] [] m := qe_run (B := [(9, [0, 1, 2, 3], qp_ciii_ 112 l9)]) (n := 1000) hT (qe_B1 (qp_ciii__ok h9) qe_B0) rfl
def L_M_laysWorths_2 : Nat → Int32 → Int32 → qm_M → Option qm_R
  | 0, _, _, _ => none
  | n + 1, v1, v2, m => X_M_laysWorths_2 F_M_laysWorth (L_M_laysWorths_9 (L_M_laysWorths_2 n) 1000000) v1 v2 m
theorem lg_M_laysWorths_2 {kp : pm_K} {d : Nat} (hT : qe_G kp d (T_M_laysWorths F_M_laysWorth)) : ∀ (n : Nat) (v1 : Int32) (v2 : Int32) (m : qm_M), qe_J kp md_M_laysWorths d (L_M_laysWorths_2 n v1 v2 m) 2 [(0, .ref 112), (1, .int v1), (2, .int v2)] [] m
  | 0, v1, v2, m => qe_none rfl
  | n + 1, v1, v2, m => xg_M_laysWorths_2 hT (lg_M_laysWorths_9 hT (lg_M_laysWorths_2 hT n) 1000000) v1 v2 m
def X_M_laysWorths_e (f_M_laysWorth : Int32 → Int32 → qm_M → Option qm_R) (l2 : Int32 → Int32 → qm_M → Option qm_R) (v1 : Int32) (m : qm_M) : Option qm_R :=
  l2 v1 (0 : Int32) m
set_option maxRecDepth 100000 in
theorem xg_M_laysWorths_e {kp : pm_K} {d : Nat} {f_M_laysWorth : Int32 → Int32 → qm_M → Option qm_R} {l2 : Int32 → Int32 → qm_M → Option qm_R} (hT : qe_G kp d (T_M_laysWorths f_M_laysWorth)) (h2 : ∀ (v1 : Int32) (v2 : Int32) (m : qm_M), qe_J kp md_M_laysWorths d (l2 v1 v2 m) 2 [(0, .ref 112), (1, .int v1), (2, .int v2)] [] m) (v1 : Int32) (m : qm_M) : qe_J kp md_M_laysWorths d (X_M_laysWorths_e f_M_laysWorth l2 v1 m) 0 [(0, .ref 112), (1, .int v1)] [] m := qe_run (B := [(2, [0, 1, 2], qp_cii_ 112 l2)]) (n := 1000) hT (qe_B1 (qp_cii__ok h2) qe_B0) rfl
def F_M_laysWorths (v1 : Int32) (m : qm_M) : Option qm_R := X_M_laysWorths_e F_M_laysWorth (L_M_laysWorths_2 1000000) v1 m
theorem fj_M_laysWorths {kp : pm_K} {d : Nat} (hT : qe_G kp d (T_M_laysWorths F_M_laysWorth)) (v1 : Int32) (m : qm_M) : qe_J kp md_M_laysWorths d (F_M_laysWorths v1 m) 0 [(0, .ref 112), (1, .int v1)] [] m := xg_M_laysWorths_e hT (lg_M_laysWorths_2 hT 1000000) v1 m
theorem fg_M_laysWorths {kp : pm_K} (d : Nat) : qe_GE kp (d + 5) (288, 0, 11, 0, qw_ci 112 F_M_laysWorths) := qe_entry (by decide +kernel) (qw_ci_ok (d := d + 4) rfl rfl (fj_M_laysWorths (qe_G1 (fg_M_laysWorth (d + 0)) qe_G0)))
/-! TurnFieldModel.worth(II)I -/
noncomputable def T_M_worth (f_M_isIn : Int64 → Int64 → Int64 → qm_M → Option qm_R) (f_M_laysWorth : Int32 → Int32 → qm_M → Option qm_R) : qe_T := [(185, 1, 0, 1, qw_lll f_M_isIn), (287, 0, 11, 0, qw_cii 112 f_M_laysWorth)]
def X_M_worth_26 (f_M_isIn : Int64 → Int64 → Int64 → qm_M → Option qm_R) (f_M_laysWorth : Int32 → Int32 → qm_M → Option qm_R) (l26 : Int32 → Int32 → Int32 → qm_M → Option qm_R) (v1 : Int32) (v2 : Int32) (v3 : Int32) (m : qm_M) : Option qm_R :=
  if v2 < v3 then
    qe_b (qm_in (((12 : Int32) * v1) + v2) 24) (
    some (some (.int (m.1 133 (Int32.toNatClampNeg (((12 : Int32) * v1) + v2)))), m))
  else
    qe_rV (f_M_laysWorth v1 v3 m) fun m1 =>
    l26 v1 v2 (v3 + (1 : Int32)) m1
set_option maxRecDepth 100000 in
theorem xg_M_worth_26 {kp : pm_K} {d : Nat} {f_M_isIn : Int64 → Int64 → Int64 → qm_M → Option qm_R} {f_M_laysWorth : Int32 → Int32 → qm_M → Option qm_R} {l26 : Int32 → Int32 → Int32 → qm_M → Option qm_R} (hT : qe_G kp d (T_M_worth f_M_isIn f_M_laysWorth)) (h26 : ∀ (v1 : Int32) (v2 : Int32) (v3 : Int32) (m : qm_M), qe_J kp md_M_worth d (l26 v1 v2 v3 m) 26 [(0, .ref 112), (1, .int v1), (2, .int v2), (3, .int v3)] [] m) (v1 : Int32) (v2 : Int32) (v3 : Int32) (m : qm_M) : qe_J kp md_M_worth d (X_M_worth_26 f_M_isIn f_M_laysWorth l26 v1 v2 v3 m) 26 [(0, .ref 112), (1, .int v1), (2, .int v2), (3, .int v3)] [] m := qe_run (B := [(26, [0, 1, 2, 3], qp_ciii_ 112 l26)]) (n := 1000) hT (qe_B1 (qp_ciii__ok h26) qe_B0) rfl
def L_M_worth_26 : Nat → Int32 → Int32 → Int32 → qm_M → Option qm_R
  | 0, _, _, _, _ => none
  | n + 1, v1, v2, v3, m => X_M_worth_26 F_M_isIn F_M_laysWorth (L_M_worth_26 n) v1 v2 v3 m
theorem lg_M_worth_26 {kp : pm_K} {d : Nat} (hT : qe_G kp d (T_M_worth F_M_isIn F_M_laysWorth)) : ∀ (n : Nat) (v1 : Int32) (v2 : Int32) (v3 : Int32) (m : qm_M), qe_J kp md_M_worth d (L_M_worth_26 n v1 v2 v3 m) 26 [(0, .ref 112), (1, .int v1), (2, .int v2), (3, .int v3)] [] m
  | 0, v1, v2, v3, m => qe_none rfl
  | n + 1, v1, v2, v3, m => xg_M_worth_26 hT (lg_M_worth_26 hT n) v1 v2 v3 m
def X_M_worth_e (f_M_isIn : Int64 → Int64 → Int64 → qm_M → Option qm_R) (f_M_laysWorth : Int32 → Int32 → qm_M → Option qm_R) (l26 : Int32 → Int32 → Int32 → qm_M → Option qm_R) (v1 : Int32) (v2 : Int32) (m : qm_M) : Option qm_R :=
  qe_rI (f_M_isIn (Int32.toInt64 v1) (0 : Int64) (1 : Int64) m) fun x1 m1 =>
  if x1 = 0 then
    some (some (.int (-1 : Int32)), m1)
  else
    qe_rI (f_M_isIn (Int32.toInt64 v2) (0 : Int64) (11 : Int64) m1) fun x2 m2 =>
    if x2 = 0 then
      some (some (.int (-1 : Int32)), m2)
    else
      l26 v1 v2 (0 : Int32) m2
set_option maxRecDepth 100000 in
theorem xg_M_worth_e {kp : pm_K} {d : Nat} {f_M_isIn : Int64 → Int64 → Int64 → qm_M → Option qm_R} {f_M_laysWorth : Int32 → Int32 → qm_M → Option qm_R} {l26 : Int32 → Int32 → Int32 → qm_M → Option qm_R} (hT : qe_G kp d (T_M_worth f_M_isIn f_M_laysWorth)) (h26 : ∀ (v1 : Int32) (v2 : Int32) (v3 : Int32) (m : qm_M), qe_J kp md_M_worth d (l26 v1 v2 v3 m) 26 [(0, .ref 112), (1, .int v1), (2, .int v2), (3, .int v3)] [] m) (v1 : Int32) (v2 : Int32) (m : qm_M) : qe_J kp md_M_worth d (X_M_worth_e f_M_isIn f_M_laysWorth l26 v1 v2 m) 0 [(0, .ref 112), (1, .int v1), (2, .int v2)] [] m := qe_run (B := [(26, [0, 1, 2, 3], qp_ciii_ 112 l26)]) (n := 1000) hT (qe_B1 (qp_ciii__ok h26) qe_B0) rfl
def F_M_worth (v1 : Int32) (v2 : Int32) (m : qm_M) : Option qm_R := X_M_worth_e F_M_isIn F_M_laysWorth (L_M_worth_26 1000000) v1 v2 m
theorem fj_M_worth {kp : pm_K} {d : Nat} (hT : qe_G kp d (T_M_worth F_M_isIn F_M_laysWorth)) (v1 : Int32) (v2 : Int32) (m : qm_M) : qe_J kp md_M_worth d (F_M_worth v1 v2 m) 0 [(0, .ref 112), (1, .int v1), (2, .int v2)] [] m := xg_M_worth_e hT (lg_M_worth_26 hT 1000000) v1 v2 m
theorem fg_M_worth {kp : pm_K} (d : Nat) : qe_GE kp (d + 5) (289, 0, 11, 1, qw_cii 112 F_M_worth) := qe_entry (by decide +kernel) (qw_cii_ok (d := d + 4) rfl rfl (fj_M_worth (qe_G1 (fg_M_isIn (d + 3)) (qe_G1 (fg_M_laysWorth (d + 0)) qe_G0))))
/-! TurnFieldModel.place(II)I -/
noncomputable def T_M_place_III : qe_T := []
def X_M_place_III_e (v0 : Int32) (v1 : Int32) (m : qm_M) : Option qm_R :=
  some (some (.int (((6 : Int32) * v0) + v1)), m)
set_option maxRecDepth 100000 in
theorem xg_M_place_III_e {kp : pm_K} {d : Nat} (hT : qe_G kp d (T_M_place_III)) (v0 : Int32) (v1 : Int32) (m : qm_M) : qe_J kp md_M_place_III d (X_M_place_III_e v0 v1 m) 0 [(0, .int v0), (1, .int v1)] [] m := qe_run (B := []) (n := 1000) hT qe_B0 rfl
def F_M_place_III (v0 : Int32) (v1 : Int32) (m : qm_M) : Option qm_R := X_M_place_III_e v0 v1 m
theorem fj_M_place_III {kp : pm_K} {d : Nat} (hT : qe_G kp d (T_M_place_III)) (v0 : Int32) (v1 : Int32) (m : qm_M) : qe_J kp md_M_place_III d (F_M_place_III v0 v1 m) 0 [(0, .int v0), (1, .int v1)] [] m := xg_M_place_III_e hT v0 v1 m
theorem fg_M_place_III {kp : pm_K} (d : Nat) : qe_GE kp (d + 1) (290, 1, 0, 1, qw_ii F_M_place_III) := qe_entry (by decide +kernel) (qw_ii_ok (d := d + 0) rfl rfl (fj_M_place_III qe_G0))
/-! TurnFieldModel.isCell(II)Z -/
noncomputable def T_M_isCell (f_M_manyOf : Int32 → qm_M → Option qm_R) (f_M_isIn : Int64 → Int64 → Int64 → qm_M → Option qm_R) : qe_T := [(279, 0, 11, 1, qw_ci 112 f_M_manyOf), (185, 1, 0, 1, qw_lll f_M_isIn)]
def X_M_isCell_e (f_M_manyOf : Int32 → qm_M → Option qm_R) (f_M_isIn : Int64 → Int64 → Int64 → qm_M → Option qm_R) (v1 : Int32) (v2 : Int32) (m : qm_M) : Option qm_R :=
  qe_rI (f_M_manyOf (0 : Int32) m) fun x1 m1 =>
  qe_rI (f_M_isIn (Int32.toInt64 v1) (0 : Int64) (Int32.toInt64 (x1 - (1 : Int32))) m1) fun x2 m2 =>
  if x2 = 0 then
    some (some (.int (0 : Int32)), m2)
  else
    qe_rI (f_M_manyOf (1 : Int32) m2) fun x3 m3 =>
    qe_rI (f_M_isIn (Int32.toInt64 v2) (0 : Int64) (Int32.toInt64 (x3 - (1 : Int32))) m3) fun x4 m4 =>
    if x4 = 0 then
      some (some (.int (0 : Int32)), m4)
    else
      some (some (.int (1 : Int32)), m4)
set_option maxRecDepth 100000 in
theorem xg_M_isCell_e {kp : pm_K} {d : Nat} {f_M_manyOf : Int32 → qm_M → Option qm_R} {f_M_isIn : Int64 → Int64 → Int64 → qm_M → Option qm_R} (hT : qe_G kp d (T_M_isCell f_M_manyOf f_M_isIn)) (v1 : Int32) (v2 : Int32) (m : qm_M) : qe_J kp md_M_isCell d (X_M_isCell_e f_M_manyOf f_M_isIn v1 v2 m) 0 [(0, .ref 112), (1, .int v1), (2, .int v2)] [] m := qe_run (B := []) (n := 1000) hT qe_B0 rfl
def F_M_isCell (v1 : Int32) (v2 : Int32) (m : qm_M) : Option qm_R := X_M_isCell_e F_M_manyOf F_M_isIn v1 v2 m
theorem fj_M_isCell {kp : pm_K} {d : Nat} (hT : qe_G kp d (T_M_isCell F_M_manyOf F_M_isIn)) (v1 : Int32) (v2 : Int32) (m : qm_M) : qe_J kp md_M_isCell d (F_M_isCell v1 v2 m) 0 [(0, .ref 112), (1, .int v1), (2, .int v2)] [] m := xg_M_isCell_e hT v1 v2 m
theorem fg_M_isCell {kp : pm_K} (d : Nat) : qe_GE kp (d + 2) (291, 0, 11, 1, qw_cii 112 F_M_isCell) := qe_entry (by decide +kernel) (qw_cii_ok (d := d + 1) rfl rfl (fj_M_isCell (qe_G1 (fg_M_manyOf (d + 0)) (qe_G1 (fg_M_isIn (d + 0)) qe_G0))))
/-! TurnFieldModel.worthOf(II)I -/
noncomputable def T_M_worthOf (f_M_product : Int64 → Int64 → qm_M → Option qm_R) : qe_T := [(192, 0, 11, 2, qw_cll 112 f_M_product)]
def X_M_worthOf_e (f_M_product : Int64 → Int64 → qm_M → Option qm_R) (v1 : Int32) (v2 : Int32) (m : qm_M) : Option qm_R :=
  qe_b (qm_in v1 24) (
  qe_b (qm_in ((12 : Int32) + v2) 24) (
  qe_rL (f_M_product (Int32.toInt64 (m.1 133 (Int32.toNatClampNeg v1))) (Int32.toInt64 (m.1 133 (Int32.toNatClampNeg ((12 : Int32) + v2)))) m) fun x1 m1 =>
  some (some (.int (Int64.toInt32 x1)), m1)))
set_option maxRecDepth 100000 in
theorem xg_M_worthOf_e {kp : pm_K} {d : Nat} {f_M_product : Int64 → Int64 → qm_M → Option qm_R} (hT : qe_G kp d (T_M_worthOf f_M_product)) (v1 : Int32) (v2 : Int32) (m : qm_M) : qe_J kp md_M_worthOf d (X_M_worthOf_e f_M_product v1 v2 m) 0 [(0, .ref 112), (1, .int v1), (2, .int v2)] [] m := qe_run (B := []) (n := 1000) hT qe_B0 rfl
def F_M_worthOf (v1 : Int32) (v2 : Int32) (m : qm_M) : Option qm_R := X_M_worthOf_e F_M_product v1 v2 m
theorem fj_M_worthOf {kp : pm_K} {d : Nat} (hT : qe_G kp d (T_M_worthOf F_M_product)) (v1 : Int32) (v2 : Int32) (m : qm_M) : qe_J kp md_M_worthOf d (F_M_worthOf v1 v2 m) 0 [(0, .ref 112), (1, .int v1), (2, .int v2)] [] m := xg_M_worthOf_e hT v1 v2 m
theorem fg_M_worthOf {kp : pm_K} (d : Nat) : qe_GE kp (d + 3) (292, 0, 11, 1, qw_cii 112 F_M_worthOf) := qe_entry (by decide +kernel) (qw_cii_ok (d := d + 2) rfl rfl (fj_M_worthOf (qe_G1 (fg_M_product (d + 0)) qe_G0)))
/-! TurnFieldModel.cellsOf(II)J -/
noncomputable def T_M_cellsOf : qe_T := []
def X_M_cellsOf_5 (l5 : Int32 → Int32 → Int64 → Int32 → qm_M → Option qm_R) (v0 : Int32) (v1 : Int32) (v2 : Int64) (v4 : Int32) (m : qm_M) : Option qm_R :=
  if v4 < (6 : Int32) then
    if ((qo_ishr v0 v4) &&& (1 : Int32)) = (1 : Int32) then
      let x1 : Int64 := (v2 ||| (qo_lshl (Int32.toInt64 v1) ((6 : Int32) * v4)))
      l5 v0 v1 x1 (v4 + (1 : Int32)) m
    else
      l5 v0 v1 v2 (v4 + (1 : Int32)) m
  else
    some (some (.long v2), m)
set_option maxRecDepth 100000 in
theorem xg_M_cellsOf_5 {kp : pm_K} {d : Nat} {l5 : Int32 → Int32 → Int64 → Int32 → qm_M → Option qm_R} (hT : qe_G kp d (T_M_cellsOf)) (h5 : ∀ (v0 : Int32) (v1 : Int32) (v2 : Int64) (v4 : Int32) (m : qm_M), qe_J kp md_M_cellsOf d (l5 v0 v1 v2 v4 m) 5 [(0, .int v0), (1, .int v1), (2, .long v2), (4, .int v4)] [] m) (v0 : Int32) (v1 : Int32) (v2 : Int64) (v4 : Int32) (m : qm_M) : qe_J kp md_M_cellsOf d (X_M_cellsOf_5 l5 v0 v1 v2 v4 m) 5 [(0, .int v0), (1, .int v1), (2, .long v2), (4, .int v4)] [] m := qe_run (B := [(5, [0, 1, 2, 4], qp_iili_ l5)]) (n := 1000) hT (qe_B1 (qp_iili__ok h5) qe_B0) rfl
def L_M_cellsOf_5 : Nat → Int32 → Int32 → Int64 → Int32 → qm_M → Option qm_R
  | 0, _, _, _, _, _ => none
  | n + 1, v0, v1, v2, v4, m => X_M_cellsOf_5 (L_M_cellsOf_5 n) v0 v1 v2 v4 m
theorem lg_M_cellsOf_5 {kp : pm_K} {d : Nat} (hT : qe_G kp d (T_M_cellsOf)) : ∀ (n : Nat) (v0 : Int32) (v1 : Int32) (v2 : Int64) (v4 : Int32) (m : qm_M), qe_J kp md_M_cellsOf d (L_M_cellsOf_5 n v0 v1 v2 v4 m) 5 [(0, .int v0), (1, .int v1), (2, .long v2), (4, .int v4)] [] m
  | 0, v0, v1, v2, v4, m => qe_none rfl
  | n + 1, v0, v1, v2, v4, m => xg_M_cellsOf_5 hT (lg_M_cellsOf_5 hT n) v0 v1 v2 v4 m
def X_M_cellsOf_e (l5 : Int32 → Int32 → Int64 → Int32 → qm_M → Option qm_R) (v0 : Int32) (v1 : Int32) (m : qm_M) : Option qm_R :=
  l5 v0 v1 (0 : Int64) (0 : Int32) m
set_option maxRecDepth 100000 in
theorem xg_M_cellsOf_e {kp : pm_K} {d : Nat} {l5 : Int32 → Int32 → Int64 → Int32 → qm_M → Option qm_R} (hT : qe_G kp d (T_M_cellsOf)) (h5 : ∀ (v0 : Int32) (v1 : Int32) (v2 : Int64) (v4 : Int32) (m : qm_M), qe_J kp md_M_cellsOf d (l5 v0 v1 v2 v4 m) 5 [(0, .int v0), (1, .int v1), (2, .long v2), (4, .int v4)] [] m) (v0 : Int32) (v1 : Int32) (m : qm_M) : qe_J kp md_M_cellsOf d (X_M_cellsOf_e l5 v0 v1 m) 0 [(0, .int v0), (1, .int v1)] [] m := qe_run (B := [(5, [0, 1, 2, 4], qp_iili_ l5)]) (n := 1000) hT (qe_B1 (qp_iili__ok h5) qe_B0) rfl
def F_M_cellsOf (v0 : Int32) (v1 : Int32) (m : qm_M) : Option qm_R := X_M_cellsOf_e (L_M_cellsOf_5 1000000) v0 v1 m
theorem fj_M_cellsOf {kp : pm_K} {d : Nat} (hT : qe_G kp d (T_M_cellsOf)) (v0 : Int32) (v1 : Int32) (m : qm_M) : qe_J kp md_M_cellsOf d (F_M_cellsOf v0 v1 m) 0 [(0, .int v0), (1, .int v1)] [] m := xg_M_cellsOf_e hT (lg_M_cellsOf_5 hT 1000000) v0 v1 m
theorem fg_M_cellsOf {kp : pm_K} (d : Nat) : qe_GE kp (d + 1) (293, 1, 0, 2, qw_ii F_M_cellsOf) := qe_entry (by decide +kernel) (qw_ii_ok (d := d + 0) rfl rfl (fj_M_cellsOf qe_G0))
/-! TurnFieldModel.sumExcluded(J)I -/
noncomputable def T_M_sumExcluded (f_M_has : Int64 → Int32 → qm_M → Option qm_R) : qe_T := [(186, 1, 0, 1, qw_li f_M_has)]
def X_M_sumExcluded_5 (f_M_has : Int64 → Int32 → qm_M → Option qm_R) (l5 : Int64 → Int32 → Int32 → qm_M → Option qm_R) (v1 : Int64) (v3 : Int32) (v4 : Int32) (m : qm_M) : Option qm_R :=
  if v4 < (36 : Int32) then
    qe_rI (f_M_has v1 v4 m) fun x1 m1 =>
    if x1 = 0 then
      l5 v1 (v3 ^^^ (0 : Int32)) (v4 + (1 : Int32)) m1
    else
      qe_b (qm_in v4 36) (
      let x2 : Int32 := (v3 ^^^ (m1.1 135 (Int32.toNatClampNeg v4)))
      l5 v1 x2 (v4 + (1 : Int32)) m1)
  else
    some (some (.int v3), m)
set_option maxRecDepth 100000 in
theorem xg_M_sumExcluded_5 {kp : pm_K} {d : Nat} {f_M_has : Int64 → Int32 → qm_M → Option qm_R} {l5 : Int64 → Int32 → Int32 → qm_M → Option qm_R} (hT : qe_G kp d (T_M_sumExcluded f_M_has)) (h5 : ∀ (v1 : Int64) (v3 : Int32) (v4 : Int32) (m : qm_M), qe_J kp md_M_sumExcluded d (l5 v1 v3 v4 m) 5 [(0, .ref 112), (1, .long v1), (3, .int v3), (4, .int v4)] [] m) (v1 : Int64) (v3 : Int32) (v4 : Int32) (m : qm_M) : qe_J kp md_M_sumExcluded d (X_M_sumExcluded_5 f_M_has l5 v1 v3 v4 m) 5 [(0, .ref 112), (1, .long v1), (3, .int v3), (4, .int v4)] [] m := qe_run (B := [(5, [0, 1, 3, 4], qp_clii_ 112 l5)]) (n := 1000) hT (qe_B1 (qp_clii__ok h5) qe_B0) rfl
def L_M_sumExcluded_5 : Nat → Int64 → Int32 → Int32 → qm_M → Option qm_R
  | 0, _, _, _, _ => none
  | n + 1, v1, v3, v4, m => X_M_sumExcluded_5 F_M_has (L_M_sumExcluded_5 n) v1 v3 v4 m
theorem lg_M_sumExcluded_5 {kp : pm_K} {d : Nat} (hT : qe_G kp d (T_M_sumExcluded F_M_has)) : ∀ (n : Nat) (v1 : Int64) (v3 : Int32) (v4 : Int32) (m : qm_M), qe_J kp md_M_sumExcluded d (L_M_sumExcluded_5 n v1 v3 v4 m) 5 [(0, .ref 112), (1, .long v1), (3, .int v3), (4, .int v4)] [] m
  | 0, v1, v3, v4, m => qe_none rfl
  | n + 1, v1, v3, v4, m => xg_M_sumExcluded_5 hT (lg_M_sumExcluded_5 hT n) v1 v3 v4 m
def X_M_sumExcluded_e (f_M_has : Int64 → Int32 → qm_M → Option qm_R) (l5 : Int64 → Int32 → Int32 → qm_M → Option qm_R) (v1 : Int64) (m : qm_M) : Option qm_R :=
  l5 v1 (0 : Int32) (0 : Int32) m
set_option maxRecDepth 100000 in
theorem xg_M_sumExcluded_e {kp : pm_K} {d : Nat} {f_M_has : Int64 → Int32 → qm_M → Option qm_R} {l5 : Int64 → Int32 → Int32 → qm_M → Option qm_R} (hT : qe_G kp d (T_M_sumExcluded f_M_has)) (h5 : ∀ (v1 : Int64) (v3 : Int32) (v4 : Int32) (m : qm_M), qe_J kp md_M_sumExcluded d (l5 v1 v3 v4 m) 5 [(0, .ref 112), (1, .long v1), (3, .int v3), (4, .int v4)] [] m) (v1 : Int64) (m : qm_M) : qe_J kp md_M_sumExcluded d (X_M_sumExcluded_e f_M_has l5 v1 m) 0 [(0, .ref 112), (1, .long v1)] [] m := qe_run (B := [(5, [0, 1, 3, 4], qp_clii_ 112 l5)]) (n := 1000) hT (qe_B1 (qp_clii__ok h5) qe_B0) rfl
def F_M_sumExcluded (v1 : Int64) (m : qm_M) : Option qm_R := X_M_sumExcluded_e F_M_has (L_M_sumExcluded_5 1000000) v1 m
theorem fj_M_sumExcluded {kp : pm_K} {d : Nat} (hT : qe_G kp d (T_M_sumExcluded F_M_has)) (v1 : Int64) (m : qm_M) : qe_J kp md_M_sumExcluded d (F_M_sumExcluded v1 m) 0 [(0, .ref 112), (1, .long v1)] [] m := xg_M_sumExcluded_e hT (lg_M_sumExcluded_5 hT 1000000) v1 m
theorem fg_M_sumExcluded {kp : pm_K} (d : Nat) : qe_GE kp (d + 2) (294, 0, 11, 1, qw_cl 112 F_M_sumExcluded) := qe_entry (by decide +kernel) (qw_cl_ok (d := d + 1) rfl rfl (fj_M_sumExcluded (qe_G1 (fg_M_has (d + 0)) qe_G0)))
/-! TurnFieldModel.laysExcluded(II)V -/
noncomputable def T_M_laysExcluded (f_M_place_III : Int32 → Int32 → qm_M → Option qm_R) (f_M_leastNot : Int32 → qm_M → Option qm_R) (f_M_maySet : Int32 → Int32 → qm_M → Option qm_R) (f_M_cellsOf : Int32 → Int32 → qm_M → Option qm_R) (f_M_sumExcluded : Int64 → qm_M → Option qm_R) : qe_T := [(290, 1, 0, 1, qw_ii f_M_place_III), (286, 0, 11, 1, qw_ci 112 f_M_leastNot), (283, 0, 11, 1, qw_cii 112 f_M_maySet), (293, 1, 0, 2, qw_ii f_M_cellsOf), (294, 0, 11, 1, qw_cl 112 f_M_sumExcluded)]
def X_M_laysExcluded_41 (f_M_place_III : Int32 → Int32 → qm_M → Option qm_R) (f_M_leastNot : Int32 → qm_M → Option qm_R) (f_M_maySet : Int32 → Int32 → qm_M → Option qm_R) (f_M_cellsOf : Int32 → Int32 → qm_M → Option qm_R) (f_M_sumExcluded : Int64 → qm_M → Option qm_R) (l28 : Int32 → Int32 → Int32 → Int32 → qm_M → Option qm_R) (l41 : Int32 → Int32 → Int32 → Int32 → Int32 → qm_M → Option qm_R) (v1 : Int32) (v2 : Int32) (v3 : Int32) (v4 : Int32) (v5 : Int32) (m : qm_M) : Option qm_R :=
  if v5 < (qo_ishl (2 : Int32) v2) then
    qe_rI (f_M_maySet (0 : Int32) v4 m) fun x1 m1 =>
    if x1 = 0 then
      l41 v1 v2 v3 v4 (v5 + (1 : Int32)) m1
    else
      qe_rI (f_M_maySet (1 : Int32) v5 m1) fun x2 m2 =>
      if x2 = 0 then
        l41 v1 v2 v3 v4 (v5 + (1 : Int32)) m2
      else
        qe_rL (f_M_cellsOf v4 v5 m2) fun x3 m3 =>
        qe_rI (f_M_place_III v1 v2 m3) fun x4 m4 =>
        qe_rI (f_M_sumExcluded (x3 &&& ((qo_lshl (1 : Int64) x4) ^^^ (-1 : Int64))) m4) fun x5 m5 =>
        qe_b (qm_in x5 65536) (
        let m6 : qm_M := qm_sI m5 134 (Int32.toNatClampNeg x5) ((1 : Int32) &&& 1)
        l41 v1 v2 (v3 + (1 : Int32)) v4 (v5 + (1 : Int32)) m6)
  else
    l28 v1 v2 v3 (v4 + (1 : Int32)) m
set_option maxRecDepth 100000 in
theorem xg_M_laysExcluded_41 {kp : pm_K} {d : Nat} {f_M_place_III : Int32 → Int32 → qm_M → Option qm_R} {f_M_leastNot : Int32 → qm_M → Option qm_R} {f_M_maySet : Int32 → Int32 → qm_M → Option qm_R} {f_M_cellsOf : Int32 → Int32 → qm_M → Option qm_R} {f_M_sumExcluded : Int64 → qm_M → Option qm_R} {l28 : Int32 → Int32 → Int32 → Int32 → qm_M → Option qm_R} {l41 : Int32 → Int32 → Int32 → Int32 → Int32 → qm_M → Option qm_R} (hT : qe_G kp d (T_M_laysExcluded f_M_place_III f_M_leastNot f_M_maySet f_M_cellsOf f_M_sumExcluded)) (h28 : ∀ (v1 : Int32) (v2 : Int32) (v3 : Int32) (v4 : Int32) (m : qm_M), qe_J kp md_M_laysExcluded d (l28 v1 v2 v3 v4 m) 28 [(0, .ref 112), (1, .int v1), (2, .int v2), (3, .int v3), (4, .int v4)] [] m) (h41 : ∀ (v1 : Int32) (v2 : Int32) (v3 : Int32) (v4 : Int32) (v5 : Int32) (m : qm_M), qe_J kp md_M_laysExcluded d (l41 v1 v2 v3 v4 v5 m) 41 [(0, .ref 112), (1, .int v1), (2, .int v2), (3, .int v3), (4, .int v4), (5, .int v5)] [] m) (v1 : Int32) (v2 : Int32) (v3 : Int32) (v4 : Int32) (v5 : Int32) (m : qm_M) : qe_J kp md_M_laysExcluded d (X_M_laysExcluded_41 f_M_place_III f_M_leastNot f_M_maySet f_M_cellsOf f_M_sumExcluded l28 l41 v1 v2 v3 v4 v5 m) 41 [(0, .ref 112), (1, .int v1), (2, .int v2), (3, .int v3), (4, .int v4), (5, .int v5)] [] m := qe_run (B := [(28, [0, 1, 2, 3, 4], qp_ciiii_ 112 l28), (41, [0, 1, 2, 3, 4, 5], qp_ciiiii_ 112 l41)]) (n := 1000) hT (qe_B1 (qp_ciiii__ok h28) (qe_B1 (qp_ciiiii__ok h41) qe_B0)) rfl
def L_M_laysExcluded_41 (K28 : Int32 → Int32 → Int32 → Int32 → qm_M → Option qm_R) : Nat → Int32 → Int32 → Int32 → Int32 → Int32 → qm_M → Option qm_R
  | 0, _, _, _, _, _, _ => none
  | n + 1, v1, v2, v3, v4, v5, m => X_M_laysExcluded_41 F_M_place_III F_M_leastNot F_M_maySet F_M_cellsOf F_M_sumExcluded K28 (L_M_laysExcluded_41 K28 n) v1 v2 v3 v4 v5 m
theorem lg_M_laysExcluded_41 {kp : pm_K} {d : Nat} (hT : qe_G kp d (T_M_laysExcluded F_M_place_III F_M_leastNot F_M_maySet F_M_cellsOf F_M_sumExcluded)) {K28 : Int32 → Int32 → Int32 → Int32 → qm_M → Option qm_R} (hK28 : ∀ (v1 : Int32) (v2 : Int32) (v3 : Int32) (v4 : Int32) (m : qm_M), qe_J kp md_M_laysExcluded d (K28 v1 v2 v3 v4 m) 28 [(0, .ref 112), (1, .int v1), (2, .int v2), (3, .int v3), (4, .int v4)] [] m) : ∀ (n : Nat) (v1 : Int32) (v2 : Int32) (v3 : Int32) (v4 : Int32) (v5 : Int32) (m : qm_M), qe_J kp md_M_laysExcluded d (L_M_laysExcluded_41 K28 n v1 v2 v3 v4 v5 m) 41 [(0, .ref 112), (1, .int v1), (2, .int v2), (3, .int v3), (4, .int v4), (5, .int v5)] [] m
  | 0, v1, v2, v3, v4, v5, m => qe_none rfl
  | n + 1, v1, v2, v3, v4, v5, m => xg_M_laysExcluded_41 hT hK28 (lg_M_laysExcluded_41 hT hK28 n) v1 v2 v3 v4 v5 m
def X_M_laysExcluded_28 (f_M_place_III : Int32 → Int32 → qm_M → Option qm_R) (f_M_leastNot : Int32 → qm_M → Option qm_R) (f_M_maySet : Int32 → Int32 → qm_M → Option qm_R) (f_M_cellsOf : Int32 → Int32 → qm_M → Option qm_R) (f_M_sumExcluded : Int64 → qm_M → Option qm_R) (l41 : Int32 → Int32 → Int32 → Int32 → Int32 → qm_M → Option qm_R) (v1 : Int32) (v2 : Int32) (v3 : Int32) (v4 : Int32) (m : qm_M) : Option qm_R :=
  if v4 < (qo_ishl (2 : Int32) v1) then
    l41 v1 v2 v3 v4 (qo_ishl (1 : Int32) v2) m
  else
    qe_rI (f_M_place_III v1 v2 m) fun x1 m1 =>
    qe_rI (f_M_leastNot v3 m1) fun x2 m2 =>
    qe_b (qm_in x1 36) (
    let m3 : qm_M := qm_sI m2 135 (Int32.toNatClampNeg x1) x2
    some (none, m3))
set_option maxRecDepth 100000 in
theorem xg_M_laysExcluded_28 {kp : pm_K} {d : Nat} {f_M_place_III : Int32 → Int32 → qm_M → Option qm_R} {f_M_leastNot : Int32 → qm_M → Option qm_R} {f_M_maySet : Int32 → Int32 → qm_M → Option qm_R} {f_M_cellsOf : Int32 → Int32 → qm_M → Option qm_R} {f_M_sumExcluded : Int64 → qm_M → Option qm_R} {l41 : Int32 → Int32 → Int32 → Int32 → Int32 → qm_M → Option qm_R} (hT : qe_G kp d (T_M_laysExcluded f_M_place_III f_M_leastNot f_M_maySet f_M_cellsOf f_M_sumExcluded)) (h41 : ∀ (v1 : Int32) (v2 : Int32) (v3 : Int32) (v4 : Int32) (v5 : Int32) (m : qm_M), qe_J kp md_M_laysExcluded d (l41 v1 v2 v3 v4 v5 m) 41 [(0, .ref 112), (1, .int v1), (2, .int v2), (3, .int v3), (4, .int v4), (5, .int v5)] [] m) (v1 : Int32) (v2 : Int32) (v3 : Int32) (v4 : Int32) (m : qm_M) : qe_J kp md_M_laysExcluded d (X_M_laysExcluded_28 f_M_place_III f_M_leastNot f_M_maySet f_M_cellsOf f_M_sumExcluded l41 v1 v2 v3 v4 m) 28 [(0, .ref 112), (1, .int v1), (2, .int v2), (3, .int v3), (4, .int v4)] [] m := qe_run (B := [(41, [0, 1, 2, 3, 4, 5], qp_ciiiii_ 112 l41)]) (n := 1000) hT (qe_B1 (qp_ciiiii__ok h41) qe_B0) rfl
def L_M_laysExcluded_28 : Nat → Int32 → Int32 → Int32 → Int32 → qm_M → Option qm_R
  | 0, _, _, _, _, _ => none
  | n + 1, v1, v2, v3, v4, m => X_M_laysExcluded_28 F_M_place_III F_M_leastNot F_M_maySet F_M_cellsOf F_M_sumExcluded (L_M_laysExcluded_41 (L_M_laysExcluded_28 n) 1000000) v1 v2 v3 v4 m
theorem lg_M_laysExcluded_28 {kp : pm_K} {d : Nat} (hT : qe_G kp d (T_M_laysExcluded F_M_place_III F_M_leastNot F_M_maySet F_M_cellsOf F_M_sumExcluded)) : ∀ (n : Nat) (v1 : Int32) (v2 : Int32) (v3 : Int32) (v4 : Int32) (m : qm_M), qe_J kp md_M_laysExcluded d (L_M_laysExcluded_28 n v1 v2 v3 v4 m) 28 [(0, .ref 112), (1, .int v1), (2, .int v2), (3, .int v3), (4, .int v4)] [] m
  | 0, v1, v2, v3, v4, m => qe_none rfl
  | n + 1, v1, v2, v3, v4, m => xg_M_laysExcluded_28 hT (lg_M_laysExcluded_41 hT (lg_M_laysExcluded_28 hT n) 1000000) v1 v2 v3 v4 m
def X_M_laysExcluded_2 (f_M_place_III : Int32 → Int32 → qm_M → Option qm_R) (f_M_leastNot : Int32 → qm_M → Option qm_R) (f_M_maySet : Int32 → Int32 → qm_M → Option qm_R) (f_M_cellsOf : Int32 → Int32 → qm_M → Option qm_R) (f_M_sumExcluded : Int64 → qm_M → Option qm_R) (l2 : Int32 → Int32 → Int32 → qm_M → Option qm_R) (l28 : Int32 → Int32 → Int32 → Int32 → qm_M → Option qm_R) (v1 : Int32) (v2 : Int32) (v3 : Int32) (m : qm_M) : Option qm_R :=
  if v3 < (65536 : Int32) then
    qe_b (qm_in v3 65536) (
    let m1 : qm_M := qm_sI m 134 (Int32.toNatClampNeg v3) ((0 : Int32) &&& 1)
    l2 v1 v2 (v3 + (1 : Int32)) m1)
  else
    l28 v1 v2 (0 : Int32) (qo_ishl (1 : Int32) v1) m
set_option maxRecDepth 100000 in
theorem xg_M_laysExcluded_2 {kp : pm_K} {d : Nat} {f_M_place_III : Int32 → Int32 → qm_M → Option qm_R} {f_M_leastNot : Int32 → qm_M → Option qm_R} {f_M_maySet : Int32 → Int32 → qm_M → Option qm_R} {f_M_cellsOf : Int32 → Int32 → qm_M → Option qm_R} {f_M_sumExcluded : Int64 → qm_M → Option qm_R} {l2 : Int32 → Int32 → Int32 → qm_M → Option qm_R} {l28 : Int32 → Int32 → Int32 → Int32 → qm_M → Option qm_R} (hT : qe_G kp d (T_M_laysExcluded f_M_place_III f_M_leastNot f_M_maySet f_M_cellsOf f_M_sumExcluded)) (h2 : ∀ (v1 : Int32) (v2 : Int32) (v3 : Int32) (m : qm_M), qe_J kp md_M_laysExcluded d (l2 v1 v2 v3 m) 2 [(0, .ref 112), (1, .int v1), (2, .int v2), (3, .int v3)] [] m) (h28 : ∀ (v1 : Int32) (v2 : Int32) (v3 : Int32) (v4 : Int32) (m : qm_M), qe_J kp md_M_laysExcluded d (l28 v1 v2 v3 v4 m) 28 [(0, .ref 112), (1, .int v1), (2, .int v2), (3, .int v3), (4, .int v4)] [] m) (v1 : Int32) (v2 : Int32) (v3 : Int32) (m : qm_M) : qe_J kp md_M_laysExcluded d (X_M_laysExcluded_2 f_M_place_III f_M_leastNot f_M_maySet f_M_cellsOf f_M_sumExcluded l2 l28 v1 v2 v3 m) 2 [(0, .ref 112), (1, .int v1), (2, .int v2), (3, .int v3)] [] m := qe_run (B := [(2, [0, 1, 2, 3], qp_ciii_ 112 l2), (28, [0, 1, 2, 3, 4], qp_ciiii_ 112 l28)]) (n := 1000) hT (qe_B1 (qp_ciii__ok h2) (qe_B1 (qp_ciiii__ok h28) qe_B0)) rfl
def L_M_laysExcluded_2 : Nat → Int32 → Int32 → Int32 → qm_M → Option qm_R
  | 0, _, _, _, _ => none
  | n + 1, v1, v2, v3, m => X_M_laysExcluded_2 F_M_place_III F_M_leastNot F_M_maySet F_M_cellsOf F_M_sumExcluded (L_M_laysExcluded_2 n) (L_M_laysExcluded_28 1000000) v1 v2 v3 m
theorem lg_M_laysExcluded_2 {kp : pm_K} {d : Nat} (hT : qe_G kp d (T_M_laysExcluded F_M_place_III F_M_leastNot F_M_maySet F_M_cellsOf F_M_sumExcluded)) : ∀ (n : Nat) (v1 : Int32) (v2 : Int32) (v3 : Int32) (m : qm_M), qe_J kp md_M_laysExcluded d (L_M_laysExcluded_2 n v1 v2 v3 m) 2 [(0, .ref 112), (1, .int v1), (2, .int v2), (3, .int v3)] [] m
  | 0, v1, v2, v3, m => qe_none rfl
  | n + 1, v1, v2, v3, m => xg_M_laysExcluded_2 hT (lg_M_laysExcluded_2 hT n) (lg_M_laysExcluded_28 hT 1000000) v1 v2 v3 m
def X_M_laysExcluded_e (f_M_place_III : Int32 → Int32 → qm_M → Option qm_R) (f_M_leastNot : Int32 → qm_M → Option qm_R) (f_M_maySet : Int32 → Int32 → qm_M → Option qm_R) (f_M_cellsOf : Int32 → Int32 → qm_M → Option qm_R) (f_M_sumExcluded : Int64 → qm_M → Option qm_R) (l2 : Int32 → Int32 → Int32 → qm_M → Option qm_R) (v1 : Int32) (v2 : Int32) (m : qm_M) : Option qm_R :=
  l2 v1 v2 (0 : Int32) m
set_option maxRecDepth 100000 in
theorem xg_M_laysExcluded_e {kp : pm_K} {d : Nat} {f_M_place_III : Int32 → Int32 → qm_M → Option qm_R} {f_M_leastNot : Int32 → qm_M → Option qm_R} {f_M_maySet : Int32 → Int32 → qm_M → Option qm_R} {f_M_cellsOf : Int32 → Int32 → qm_M → Option qm_R} {f_M_sumExcluded : Int64 → qm_M → Option qm_R} {l2 : Int32 → Int32 → Int32 → qm_M → Option qm_R} (hT : qe_G kp d (T_M_laysExcluded f_M_place_III f_M_leastNot f_M_maySet f_M_cellsOf f_M_sumExcluded)) (h2 : ∀ (v1 : Int32) (v2 : Int32) (v3 : Int32) (m : qm_M), qe_J kp md_M_laysExcluded d (l2 v1 v2 v3 m) 2 [(0, .ref 112), (1, .int v1), (2, .int v2), (3, .int v3)] [] m) (v1 : Int32) (v2 : Int32) (m : qm_M) : qe_J kp md_M_laysExcluded d (X_M_laysExcluded_e f_M_place_III f_M_leastNot f_M_maySet f_M_cellsOf f_M_sumExcluded l2 v1 v2 m) 0 [(0, .ref 112), (1, .int v1), (2, .int v2)] [] m := qe_run (B := [(2, [0, 1, 2, 3], qp_ciii_ 112 l2)]) (n := 1000) hT (qe_B1 (qp_ciii__ok h2) qe_B0) rfl
def F_M_laysExcluded (v1 : Int32) (v2 : Int32) (m : qm_M) : Option qm_R := X_M_laysExcluded_e F_M_place_III F_M_leastNot F_M_maySet F_M_cellsOf F_M_sumExcluded (L_M_laysExcluded_2 1000000) v1 v2 m
theorem fj_M_laysExcluded {kp : pm_K} {d : Nat} (hT : qe_G kp d (T_M_laysExcluded F_M_place_III F_M_leastNot F_M_maySet F_M_cellsOf F_M_sumExcluded)) (v1 : Int32) (v2 : Int32) (m : qm_M) : qe_J kp md_M_laysExcluded d (F_M_laysExcluded v1 v2 m) 0 [(0, .ref 112), (1, .int v1), (2, .int v2)] [] m := xg_M_laysExcluded_e hT (lg_M_laysExcluded_2 hT 1000000) v1 v2 m
theorem fg_M_laysExcluded {kp : pm_K} (d : Nat) : qe_GE kp (d + 4) (295, 0, 11, 0, qw_cii 112 F_M_laysExcluded) := qe_entry (by decide +kernel) (qw_cii_ok (d := d + 3) rfl rfl (fj_M_laysExcluded (qe_G1 (fg_M_place_III (d + 2)) (qe_G1 (fg_M_leastNot (d + 2)) (qe_G1 (fg_M_maySet (d + 0)) (qe_G1 (fg_M_cellsOf (d + 2)) (qe_G1 (fg_M_sumExcluded (d + 1)) qe_G0)))))))
/-! TurnFieldModel.excludedOf(II)I -/
noncomputable def T_M_excludedOf (f_M_place_III : Int32 → Int32 → qm_M → Option qm_R) (f_M_laysExcluded : Int32 → Int32 → qm_M → Option qm_R) : qe_T := [(290, 1, 0, 1, qw_ii f_M_place_III), (295, 0, 11, 0, qw_cii 112 f_M_laysExcluded)]
def X_M_excludedOf_10 (f_M_place_III : Int32 → Int32 → qm_M → Option qm_R) (f_M_laysExcluded : Int32 → Int32 → qm_M → Option qm_R) (l2 : Int32 → Int32 → Int32 → qm_M → Option qm_R) (l10 : Int32 → Int32 → Int32 → Int32 → qm_M → Option qm_R) (v1 : Int32) (v2 : Int32) (v3 : Int32) (v4 : Int32) (m : qm_M) : Option qm_R :=
  if v2 < v4 then
    l2 v1 v2 (v3 + (1 : Int32)) m
  else
    qe_rV (f_M_laysExcluded v3 v4 m) fun m1 =>
    l10 v1 v2 v3 (v4 + (1 : Int32)) m1
set_option maxRecDepth 100000 in
theorem xg_M_excludedOf_10 {kp : pm_K} {d : Nat} {f_M_place_III : Int32 → Int32 → qm_M → Option qm_R} {f_M_laysExcluded : Int32 → Int32 → qm_M → Option qm_R} {l2 : Int32 → Int32 → Int32 → qm_M → Option qm_R} {l10 : Int32 → Int32 → Int32 → Int32 → qm_M → Option qm_R} (hT : qe_G kp d (T_M_excludedOf f_M_place_III f_M_laysExcluded)) (h2 : ∀ (v1 : Int32) (v2 : Int32) (v3 : Int32) (m : qm_M), qe_J kp md_M_excludedOf d (l2 v1 v2 v3 m) 2 [(0, .ref 112), (1, .int v1), (2, .int v2), (3, .int v3)] [] m) (h10 : ∀ (v1 : Int32) (v2 : Int32) (v3 : Int32) (v4 : Int32) (m : qm_M), qe_J kp md_M_excludedOf d (l10 v1 v2 v3 v4 m) 10 [(0, .ref 112), (1, .int v1), (2, .int v2), (3, .int v3), (4, .int v4)] [] m) (v1 : Int32) (v2 : Int32) (v3 : Int32) (v4 : Int32) (m : qm_M) : qe_J kp md_M_excludedOf d (X_M_excludedOf_10 f_M_place_III f_M_laysExcluded l2 l10 v1 v2 v3 v4 m) 10 [(0, .ref 112), (1, .int v1), (2, .int v2), (3, .int v3), (4, .int v4)] [] m := qe_run (B := [(2, [0, 1, 2, 3], qp_ciii_ 112 l2), (10, [0, 1, 2, 3, 4], qp_ciiii_ 112 l10)]) (n := 1000) hT (qe_B1 (qp_ciii__ok h2) (qe_B1 (qp_ciiii__ok h10) qe_B0)) rfl
def L_M_excludedOf_10 (K2 : Int32 → Int32 → Int32 → qm_M → Option qm_R) : Nat → Int32 → Int32 → Int32 → Int32 → qm_M → Option qm_R
  | 0, _, _, _, _, _ => none
  | n + 1, v1, v2, v3, v4, m => X_M_excludedOf_10 F_M_place_III F_M_laysExcluded K2 (L_M_excludedOf_10 K2 n) v1 v2 v3 v4 m
theorem lg_M_excludedOf_10 {kp : pm_K} {d : Nat} (hT : qe_G kp d (T_M_excludedOf F_M_place_III F_M_laysExcluded)) {K2 : Int32 → Int32 → Int32 → qm_M → Option qm_R} (hK2 : ∀ (v1 : Int32) (v2 : Int32) (v3 : Int32) (m : qm_M), qe_J kp md_M_excludedOf d (K2 v1 v2 v3 m) 2 [(0, .ref 112), (1, .int v1), (2, .int v2), (3, .int v3)] [] m) : ∀ (n : Nat) (v1 : Int32) (v2 : Int32) (v3 : Int32) (v4 : Int32) (m : qm_M), qe_J kp md_M_excludedOf d (L_M_excludedOf_10 K2 n v1 v2 v3 v4 m) 10 [(0, .ref 112), (1, .int v1), (2, .int v2), (3, .int v3), (4, .int v4)] [] m
  | 0, v1, v2, v3, v4, m => qe_none rfl
  | n + 1, v1, v2, v3, v4, m => xg_M_excludedOf_10 hT hK2 (lg_M_excludedOf_10 hT hK2 n) v1 v2 v3 v4 m
def X_M_excludedOf_2 (f_M_place_III : Int32 → Int32 → qm_M → Option qm_R) (f_M_laysExcluded : Int32 → Int32 → qm_M → Option qm_R) (l10 : Int32 → Int32 → Int32 → Int32 → qm_M → Option qm_R) (v1 : Int32) (v2 : Int32) (v3 : Int32) (m : qm_M) : Option qm_R :=
  if v1 < v3 then
    qe_rI (f_M_place_III v1 v2 m) fun x1 m1 =>
    qe_b (qm_in x1 36) (
    some (some (.int (m1.1 135 (Int32.toNatClampNeg x1))), m1))
  else
    l10 v1 v2 v3 (0 : Int32) m
set_option maxRecDepth 100000 in
theorem xg_M_excludedOf_2 {kp : pm_K} {d : Nat} {f_M_place_III : Int32 → Int32 → qm_M → Option qm_R} {f_M_laysExcluded : Int32 → Int32 → qm_M → Option qm_R} {l10 : Int32 → Int32 → Int32 → Int32 → qm_M → Option qm_R} (hT : qe_G kp d (T_M_excludedOf f_M_place_III f_M_laysExcluded)) (h10 : ∀ (v1 : Int32) (v2 : Int32) (v3 : Int32) (v4 : Int32) (m : qm_M), qe_J kp md_M_excludedOf d (l10 v1 v2 v3 v4 m) 10 [(0, .ref 112), (1, .int v1), (2, .int v2), (3, .int v3), (4, .int v4)] [] m) (v1 : Int32) (v2 : Int32) (v3 : Int32) (m : qm_M) : qe_J kp md_M_excludedOf d (X_M_excludedOf_2 f_M_place_III f_M_laysExcluded l10 v1 v2 v3 m) 2 [(0, .ref 112), (1, .int v1), (2, .int v2), (3, .int v3)] [] m := qe_run (B := [(10, [0, 1, 2, 3, 4], qp_ciiii_ 112 l10)]) (n := 1000) hT (qe_B1 (qp_ciiii__ok h10) qe_B0) rfl
def L_M_excludedOf_2 : Nat → Int32 → Int32 → Int32 → qm_M → Option qm_R
  | 0, _, _, _, _ => none
  | n + 1, v1, v2, v3, m => X_M_excludedOf_2 F_M_place_III F_M_laysExcluded (L_M_excludedOf_10 (L_M_excludedOf_2 n) 1000000) v1 v2 v3 m
theorem lg_M_excludedOf_2 {kp : pm_K} {d : Nat} (hT : qe_G kp d (T_M_excludedOf F_M_place_III F_M_laysExcluded)) : ∀ (n : Nat) (v1 : Int32) (v2 : Int32) (v3 : Int32) (m : qm_M), qe_J kp md_M_excludedOf d (L_M_excludedOf_2 n v1 v2 v3 m) 2 [(0, .ref 112), (1, .int v1), (2, .int v2), (3, .int v3)] [] m
  | 0, v1, v2, v3, m => qe_none rfl
  | n + 1, v1, v2, v3, m => xg_M_excludedOf_2 hT (lg_M_excludedOf_10 hT (lg_M_excludedOf_2 hT n) 1000000) v1 v2 v3 m
def X_M_excludedOf_e (f_M_place_III : Int32 → Int32 → qm_M → Option qm_R) (f_M_laysExcluded : Int32 → Int32 → qm_M → Option qm_R) (l2 : Int32 → Int32 → Int32 → qm_M → Option qm_R) (v1 : Int32) (v2 : Int32) (m : qm_M) : Option qm_R :=
  l2 v1 v2 (0 : Int32) m
set_option maxRecDepth 100000 in
theorem xg_M_excludedOf_e {kp : pm_K} {d : Nat} {f_M_place_III : Int32 → Int32 → qm_M → Option qm_R} {f_M_laysExcluded : Int32 → Int32 → qm_M → Option qm_R} {l2 : Int32 → Int32 → Int32 → qm_M → Option qm_R} (hT : qe_G kp d (T_M_excludedOf f_M_place_III f_M_laysExcluded)) (h2 : ∀ (v1 : Int32) (v2 : Int32) (v3 : Int32) (m : qm_M), qe_J kp md_M_excludedOf d (l2 v1 v2 v3 m) 2 [(0, .ref 112), (1, .int v1), (2, .int v2), (3, .int v3)] [] m) (v1 : Int32) (v2 : Int32) (m : qm_M) : qe_J kp md_M_excludedOf d (X_M_excludedOf_e f_M_place_III f_M_laysExcluded l2 v1 v2 m) 0 [(0, .ref 112), (1, .int v1), (2, .int v2)] [] m := qe_run (B := [(2, [0, 1, 2, 3], qp_ciii_ 112 l2)]) (n := 1000) hT (qe_B1 (qp_ciii__ok h2) qe_B0) rfl
def F_M_excludedOf (v1 : Int32) (v2 : Int32) (m : qm_M) : Option qm_R := X_M_excludedOf_e F_M_place_III F_M_laysExcluded (L_M_excludedOf_2 1000000) v1 v2 m
theorem fj_M_excludedOf {kp : pm_K} {d : Nat} (hT : qe_G kp d (T_M_excludedOf F_M_place_III F_M_laysExcluded)) (v1 : Int32) (v2 : Int32) (m : qm_M) : qe_J kp md_M_excludedOf d (F_M_excludedOf v1 v2 m) 0 [(0, .ref 112), (1, .int v1), (2, .int v2)] [] m := xg_M_excludedOf_e hT (lg_M_excludedOf_2 hT 1000000) v1 v2 m
theorem fg_M_excludedOf {kp : pm_K} (d : Nat) : qe_GE kp (d + 5) (296, 0, 11, 1, qw_cii 112 F_M_excludedOf) := qe_entry (by decide +kernel) (qw_cii_ok (d := d + 4) rfl rfl (fj_M_excludedOf (qe_G1 (fg_M_place_III (d + 3)) (qe_G1 (fg_M_laysExcluded (d + 0)) qe_G0))))
/-! TurnFieldModel.cell(III)I -/
noncomputable def T_M_cell (f_M_isCell : Int32 → Int32 → qm_M → Option qm_R) (f_M_laysWorths : Int32 → qm_M → Option qm_R) (f_M_worthOf : Int32 → Int32 → qm_M → Option qm_R) (f_M_excludedOf : Int32 → Int32 → qm_M → Option qm_R) (f_M_place_III : Int32 → Int32 → qm_M → Option qm_R) (f_M_has : Int64 → Int32 → qm_M → Option qm_R) : qe_T := [(291, 0, 11, 1, qw_cii 112 f_M_isCell), (288, 0, 11, 0, qw_ci 112 f_M_laysWorths), (292, 0, 11, 1, qw_cii 112 f_M_worthOf), (296, 0, 11, 1, qw_cii 112 f_M_excludedOf), (290, 1, 0, 1, qw_ii f_M_place_III), (186, 1, 0, 1, qw_li f_M_has)]
def X_M_cell_e (f_M_isCell : Int32 → Int32 → qm_M → Option qm_R) (f_M_laysWorths : Int32 → qm_M → Option qm_R) (f_M_worthOf : Int32 → Int32 → qm_M → Option qm_R) (f_M_excludedOf : Int32 → Int32 → qm_M → Option qm_R) (f_M_place_III : Int32 → Int32 → qm_M → Option qm_R) (f_M_has : Int64 → Int32 → qm_M → Option qm_R) (v1 : Int32) (v2 : Int32) (v3 : Int32) (m : qm_M) : Option qm_R :=
  qe_rI (f_M_isCell v1 v2 m) fun x1 m1 =>
  if x1 = 0 then
    some (some (.int (-1 : Int32)), m1)
  else
    if Int32.toInt v3 = 0 then
      qe_rV (f_M_laysWorths (6 : Int32) m1) fun m2 =>
      qe_rI (f_M_worthOf v1 v2 m2) fun x2 m3 =>
      some (some (.int x2), m3)
    else
     if Int32.toInt v3 = 1 then
       qe_rI (f_M_excludedOf v1 v2 m1) fun x3 m4 =>
       some (some (.int x3), m4)
     else
      if Int32.toInt v3 = 2 then
        qe_rI (f_M_place_III v1 v2 m1) fun x4 m5 =>
        qe_rI (f_M_has (m1.2 113 6) x4 m5) fun x5 m6 =>
        if x5 = 0 then
          some (some (.int (0 : Int32)), m6)
        else
          some (some (.int (1 : Int32)), m6)
      else
        some (some (.int (-1 : Int32)), m1)
set_option maxRecDepth 100000 in
theorem xg_M_cell_e {kp : pm_K} {d : Nat} {f_M_isCell : Int32 → Int32 → qm_M → Option qm_R} {f_M_laysWorths : Int32 → qm_M → Option qm_R} {f_M_worthOf : Int32 → Int32 → qm_M → Option qm_R} {f_M_excludedOf : Int32 → Int32 → qm_M → Option qm_R} {f_M_place_III : Int32 → Int32 → qm_M → Option qm_R} {f_M_has : Int64 → Int32 → qm_M → Option qm_R} (hT : qe_G kp d (T_M_cell f_M_isCell f_M_laysWorths f_M_worthOf f_M_excludedOf f_M_place_III f_M_has)) (v1 : Int32) (v2 : Int32) (v3 : Int32) (m : qm_M) : qe_J kp md_M_cell d (X_M_cell_e f_M_isCell f_M_laysWorths f_M_worthOf f_M_excludedOf f_M_place_III f_M_has v1 v2 v3 m) 0 [(0, .ref 112), (1, .int v1), (2, .int v2), (3, .int v3)] [] m := qe_run (B := []) (n := 1000) hT qe_B0 rfl
def F_M_cell (v1 : Int32) (v2 : Int32) (v3 : Int32) (m : qm_M) : Option qm_R := X_M_cell_e F_M_isCell F_M_laysWorths F_M_worthOf F_M_excludedOf F_M_place_III F_M_has v1 v2 v3 m
theorem fj_M_cell {kp : pm_K} {d : Nat} (hT : qe_G kp d (T_M_cell F_M_isCell F_M_laysWorths F_M_worthOf F_M_excludedOf F_M_place_III F_M_has)) (v1 : Int32) (v2 : Int32) (v3 : Int32) (m : qm_M) : qe_J kp md_M_cell d (F_M_cell v1 v2 v3 m) 0 [(0, .ref 112), (1, .int v1), (2, .int v2), (3, .int v3)] [] m := xg_M_cell_e hT v1 v2 v3 m
theorem fg_M_cell {kp : pm_K} (d : Nat) : qe_GE kp (d + 6) (297, 0, 11, 1, qw_ciii 112 F_M_cell) := qe_entry (by decide +kernel) (qw_ciii_ok (d := d + 5) rfl rfl (fj_M_cell (qe_G1 (fg_M_isCell (d + 3)) (qe_G1 (fg_M_laysWorths (d + 0)) (qe_G1 (fg_M_worthOf (d + 2)) (qe_G1 (fg_M_excludedOf (d + 0)) (qe_G1 (fg_M_place_III (d + 4)) (qe_G1 (fg_M_has (d + 4)) qe_G0))))))))
/-! TurnFieldModel.laysCells()V -/
noncomputable def T_M_laysCells (f_M_laysWorths : Int32 → qm_M → Option qm_R) (f_M_place_III : Int32 → Int32 → qm_M → Option qm_R) (f_M_worthOf : Int32 → Int32 → qm_M → Option qm_R) : qe_T := [(288, 0, 11, 0, qw_ci 112 f_M_laysWorths), (290, 1, 0, 1, qw_ii f_M_place_III), (292, 0, 11, 1, qw_cii 112 f_M_worthOf)]
def X_M_laysCells_16 (f_M_laysWorths : Int32 → qm_M → Option qm_R) (f_M_place_III : Int32 → Int32 → qm_M → Option qm_R) (f_M_worthOf : Int32 → Int32 → qm_M → Option qm_R) (l8 : Int32 → qm_M → Option qm_R) (l16 : Int32 → Int32 → qm_M → Option qm_R) (v1 : Int32) (v2 : Int32) (m : qm_M) : Option qm_R :=
  if v2 < (6 : Int32) then
    qe_rI (f_M_place_III v1 v2 m) fun x1 m1 =>
    qe_rI (f_M_worthOf v1 v2 m1) fun x2 m2 =>
    qe_b (qm_in x1 36) (
    let m3 : qm_M := qm_sI m2 136 (Int32.toNatClampNeg x1) x2
    l16 v1 (v2 + (1 : Int32)) m3)
  else
    l8 (v1 + (1 : Int32)) m
set_option maxRecDepth 100000 in
theorem xg_M_laysCells_16 {kp : pm_K} {d : Nat} {f_M_laysWorths : Int32 → qm_M → Option qm_R} {f_M_place_III : Int32 → Int32 → qm_M → Option qm_R} {f_M_worthOf : Int32 → Int32 → qm_M → Option qm_R} {l8 : Int32 → qm_M → Option qm_R} {l16 : Int32 → Int32 → qm_M → Option qm_R} (hT : qe_G kp d (T_M_laysCells f_M_laysWorths f_M_place_III f_M_worthOf)) (h8 : ∀ (v1 : Int32) (m : qm_M), qe_J kp md_M_laysCells d (l8 v1 m) 8 [(0, .ref 112), (1, .int v1)] [] m) (h16 : ∀ (v1 : Int32) (v2 : Int32) (m : qm_M), qe_J kp md_M_laysCells d (l16 v1 v2 m) 16 [(0, .ref 112), (1, .int v1), (2, .int v2)] [] m) (v1 : Int32) (v2 : Int32) (m : qm_M) : qe_J kp md_M_laysCells d (X_M_laysCells_16 f_M_laysWorths f_M_place_III f_M_worthOf l8 l16 v1 v2 m) 16 [(0, .ref 112), (1, .int v1), (2, .int v2)] [] m := qe_run (B := [(8, [0, 1], qp_ci_ 112 l8), (16, [0, 1, 2], qp_cii_ 112 l16)]) (n := 1000) hT (qe_B1 (qp_ci__ok h8) (qe_B1 (qp_cii__ok h16) qe_B0)) rfl
def L_M_laysCells_16 (K8 : Int32 → qm_M → Option qm_R) : Nat → Int32 → Int32 → qm_M → Option qm_R
  | 0, _, _, _ => none
  | n + 1, v1, v2, m => X_M_laysCells_16 F_M_laysWorths F_M_place_III F_M_worthOf K8 (L_M_laysCells_16 K8 n) v1 v2 m
theorem lg_M_laysCells_16 {kp : pm_K} {d : Nat} (hT : qe_G kp d (T_M_laysCells F_M_laysWorths F_M_place_III F_M_worthOf)) {K8 : Int32 → qm_M → Option qm_R} (hK8 : ∀ (v1 : Int32) (m : qm_M), qe_J kp md_M_laysCells d (K8 v1 m) 8 [(0, .ref 112), (1, .int v1)] [] m) : ∀ (n : Nat) (v1 : Int32) (v2 : Int32) (m : qm_M), qe_J kp md_M_laysCells d (L_M_laysCells_16 K8 n v1 v2 m) 16 [(0, .ref 112), (1, .int v1), (2, .int v2)] [] m
  | 0, v1, v2, m => qe_none rfl
  | n + 1, v1, v2, m => xg_M_laysCells_16 hT hK8 (lg_M_laysCells_16 hT hK8 n) v1 v2 m
def X_M_laysCells_8 (f_M_laysWorths : Int32 → qm_M → Option qm_R) (f_M_place_III : Int32 → Int32 → qm_M → Option qm_R) (f_M_worthOf : Int32 → Int32 → qm_M → Option qm_R) (l16 : Int32 → Int32 → qm_M → Option qm_R) (v1 : Int32) (m : qm_M) : Option qm_R :=
  if v1 < (6 : Int32) then
    l16 v1 (0 : Int32) m
  else
    some (none, m)
set_option maxRecDepth 100000 in
theorem xg_M_laysCells_8 {kp : pm_K} {d : Nat} {f_M_laysWorths : Int32 → qm_M → Option qm_R} {f_M_place_III : Int32 → Int32 → qm_M → Option qm_R} {f_M_worthOf : Int32 → Int32 → qm_M → Option qm_R} {l16 : Int32 → Int32 → qm_M → Option qm_R} (hT : qe_G kp d (T_M_laysCells f_M_laysWorths f_M_place_III f_M_worthOf)) (h16 : ∀ (v1 : Int32) (v2 : Int32) (m : qm_M), qe_J kp md_M_laysCells d (l16 v1 v2 m) 16 [(0, .ref 112), (1, .int v1), (2, .int v2)] [] m) (v1 : Int32) (m : qm_M) : qe_J kp md_M_laysCells d (X_M_laysCells_8 f_M_laysWorths f_M_place_III f_M_worthOf l16 v1 m) 8 [(0, .ref 112), (1, .int v1)] [] m := qe_run (B := [(16, [0, 1, 2], qp_cii_ 112 l16)]) (n := 1000) hT (qe_B1 (qp_cii__ok h16) qe_B0) rfl
def L_M_laysCells_8 : Nat → Int32 → qm_M → Option qm_R
  | 0, _, _ => none
  | n + 1, v1, m => X_M_laysCells_8 F_M_laysWorths F_M_place_III F_M_worthOf (L_M_laysCells_16 (L_M_laysCells_8 n) 1000000) v1 m
theorem lg_M_laysCells_8 {kp : pm_K} {d : Nat} (hT : qe_G kp d (T_M_laysCells F_M_laysWorths F_M_place_III F_M_worthOf)) : ∀ (n : Nat) (v1 : Int32) (m : qm_M), qe_J kp md_M_laysCells d (L_M_laysCells_8 n v1 m) 8 [(0, .ref 112), (1, .int v1)] [] m
  | 0, v1, m => qe_none rfl
  | n + 1, v1, m => xg_M_laysCells_8 hT (lg_M_laysCells_16 hT (lg_M_laysCells_8 hT n) 1000000) v1 m
def X_M_laysCells_e (f_M_laysWorths : Int32 → qm_M → Option qm_R) (f_M_place_III : Int32 → Int32 → qm_M → Option qm_R) (f_M_worthOf : Int32 → Int32 → qm_M → Option qm_R) (l8 : Int32 → qm_M → Option qm_R)  (m : qm_M) : Option qm_R :=
  qe_rV (f_M_laysWorths (6 : Int32) m) fun m1 =>
  l8 (0 : Int32) m1
set_option maxRecDepth 100000 in
theorem xg_M_laysCells_e {kp : pm_K} {d : Nat} {f_M_laysWorths : Int32 → qm_M → Option qm_R} {f_M_place_III : Int32 → Int32 → qm_M → Option qm_R} {f_M_worthOf : Int32 → Int32 → qm_M → Option qm_R} {l8 : Int32 → qm_M → Option qm_R} (hT : qe_G kp d (T_M_laysCells f_M_laysWorths f_M_place_III f_M_worthOf)) (h8 : ∀ (v1 : Int32) (m : qm_M), qe_J kp md_M_laysCells d (l8 v1 m) 8 [(0, .ref 112), (1, .int v1)] [] m) (m : qm_M) : qe_J kp md_M_laysCells d (X_M_laysCells_e f_M_laysWorths f_M_place_III f_M_worthOf l8 m) 0 [(0, .ref 112)] [] m := qe_run (B := [(8, [0, 1], qp_ci_ 112 l8)]) (n := 1000) hT (qe_B1 (qp_ci__ok h8) qe_B0) rfl
def F_M_laysCells (m : qm_M) : Option qm_R := X_M_laysCells_e F_M_laysWorths F_M_place_III F_M_worthOf (L_M_laysCells_8 1000000) m
theorem fj_M_laysCells {kp : pm_K} {d : Nat} (hT : qe_G kp d (T_M_laysCells F_M_laysWorths F_M_place_III F_M_worthOf)) (m : qm_M) : qe_J kp md_M_laysCells d (F_M_laysCells m) 0 [(0, .ref 112)] [] m := xg_M_laysCells_e hT (lg_M_laysCells_8 hT 1000000) m
theorem fg_M_laysCells {kp : pm_K} (d : Nat) : qe_GE kp (d + 6) (298, 0, 11, 0, qw_c 112 F_M_laysCells) := qe_entry (by decide +kernel) (qw_c_ok (d := d + 5) rfl rfl (fj_M_laysCells (qe_G1 (fg_M_laysWorths (d + 0)) (qe_G1 (fg_M_place_III (d + 4)) (qe_G1 (fg_M_worthOf (d + 2)) qe_G0)))))
/-! TurnFieldModel.worthOfAll(J)I -/
noncomputable def T_M_worthOfAll (f_M_has : Int64 → Int32 → qm_M → Option qm_R) : qe_T := [(186, 1, 0, 1, qw_li f_M_has)]
def X_M_worthOfAll_5 (f_M_has : Int64 → Int32 → qm_M → Option qm_R) (l5 : Int64 → Int32 → Int32 → qm_M → Option qm_R) (v1 : Int64) (v3 : Int32) (v4 : Int32) (m : qm_M) : Option qm_R :=
  if v4 < (36 : Int32) then
    qe_rI (f_M_has v1 v4 m) fun x1 m1 =>
    if x1 = 0 then
      l5 v1 (v3 ^^^ (0 : Int32)) (v4 + (1 : Int32)) m1
    else
      qe_b (qm_in v4 36) (
      let x2 : Int32 := (v3 ^^^ (m1.1 136 (Int32.toNatClampNeg v4)))
      l5 v1 x2 (v4 + (1 : Int32)) m1)
  else
    some (some (.int v3), m)
set_option maxRecDepth 100000 in
theorem xg_M_worthOfAll_5 {kp : pm_K} {d : Nat} {f_M_has : Int64 → Int32 → qm_M → Option qm_R} {l5 : Int64 → Int32 → Int32 → qm_M → Option qm_R} (hT : qe_G kp d (T_M_worthOfAll f_M_has)) (h5 : ∀ (v1 : Int64) (v3 : Int32) (v4 : Int32) (m : qm_M), qe_J kp md_M_worthOfAll d (l5 v1 v3 v4 m) 5 [(0, .ref 112), (1, .long v1), (3, .int v3), (4, .int v4)] [] m) (v1 : Int64) (v3 : Int32) (v4 : Int32) (m : qm_M) : qe_J kp md_M_worthOfAll d (X_M_worthOfAll_5 f_M_has l5 v1 v3 v4 m) 5 [(0, .ref 112), (1, .long v1), (3, .int v3), (4, .int v4)] [] m := qe_run (B := [(5, [0, 1, 3, 4], qp_clii_ 112 l5)]) (n := 1000) hT (qe_B1 (qp_clii__ok h5) qe_B0) rfl
def L_M_worthOfAll_5 : Nat → Int64 → Int32 → Int32 → qm_M → Option qm_R
  | 0, _, _, _, _ => none
  | n + 1, v1, v3, v4, m => X_M_worthOfAll_5 F_M_has (L_M_worthOfAll_5 n) v1 v3 v4 m
theorem lg_M_worthOfAll_5 {kp : pm_K} {d : Nat} (hT : qe_G kp d (T_M_worthOfAll F_M_has)) : ∀ (n : Nat) (v1 : Int64) (v3 : Int32) (v4 : Int32) (m : qm_M), qe_J kp md_M_worthOfAll d (L_M_worthOfAll_5 n v1 v3 v4 m) 5 [(0, .ref 112), (1, .long v1), (3, .int v3), (4, .int v4)] [] m
  | 0, v1, v3, v4, m => qe_none rfl
  | n + 1, v1, v3, v4, m => xg_M_worthOfAll_5 hT (lg_M_worthOfAll_5 hT n) v1 v3 v4 m
def X_M_worthOfAll_e (f_M_has : Int64 → Int32 → qm_M → Option qm_R) (l5 : Int64 → Int32 → Int32 → qm_M → Option qm_R) (v1 : Int64) (m : qm_M) : Option qm_R :=
  l5 v1 (0 : Int32) (0 : Int32) m
set_option maxRecDepth 100000 in
theorem xg_M_worthOfAll_e {kp : pm_K} {d : Nat} {f_M_has : Int64 → Int32 → qm_M → Option qm_R} {l5 : Int64 → Int32 → Int32 → qm_M → Option qm_R} (hT : qe_G kp d (T_M_worthOfAll f_M_has)) (h5 : ∀ (v1 : Int64) (v3 : Int32) (v4 : Int32) (m : qm_M), qe_J kp md_M_worthOfAll d (l5 v1 v3 v4 m) 5 [(0, .ref 112), (1, .long v1), (3, .int v3), (4, .int v4)] [] m) (v1 : Int64) (m : qm_M) : qe_J kp md_M_worthOfAll d (X_M_worthOfAll_e f_M_has l5 v1 m) 0 [(0, .ref 112), (1, .long v1)] [] m := qe_run (B := [(5, [0, 1, 3, 4], qp_clii_ 112 l5)]) (n := 1000) hT (qe_B1 (qp_clii__ok h5) qe_B0) rfl
def F_M_worthOfAll (v1 : Int64) (m : qm_M) : Option qm_R := X_M_worthOfAll_e F_M_has (L_M_worthOfAll_5 1000000) v1 m
theorem fj_M_worthOfAll {kp : pm_K} {d : Nat} (hT : qe_G kp d (T_M_worthOfAll F_M_has)) (v1 : Int64) (m : qm_M) : qe_J kp md_M_worthOfAll d (F_M_worthOfAll v1 m) 0 [(0, .ref 112), (1, .long v1)] [] m := xg_M_worthOfAll_e hT (lg_M_worthOfAll_5 hT 1000000) v1 m
theorem fg_M_worthOfAll {kp : pm_K} (d : Nat) : qe_GE kp (d + 2) (299, 0, 11, 1, qw_cl 112 F_M_worthOfAll) := qe_entry (by decide +kernel) (qw_cl_ok (d := d + 1) rfl rfl (fj_M_worthOfAll (qe_G1 (fg_M_has (d + 0)) qe_G0)))
/-! TurnFieldModel.total()J -/
noncomputable def T_M_total (f_M_laysCells : qm_M → Option qm_R) (f_M_worthOfAll : Int64 → qm_M → Option qm_R) : qe_T := [(298, 0, 11, 0, qw_c 112 f_M_laysCells), (299, 0, 11, 1, qw_cl 112 f_M_worthOfAll)]
def X_M_total_e (f_M_laysCells : qm_M → Option qm_R) (f_M_worthOfAll : Int64 → qm_M → Option qm_R)  (m : qm_M) : Option qm_R :=
  qe_rV (f_M_laysCells m) fun m1 =>
  qe_rI (f_M_worthOfAll (m1.2 113 6) m1) fun x1 m2 =>
  some (some (.long (Int32.toInt64 x1)), m2)
set_option maxRecDepth 100000 in
theorem xg_M_total_e {kp : pm_K} {d : Nat} {f_M_laysCells : qm_M → Option qm_R} {f_M_worthOfAll : Int64 → qm_M → Option qm_R} (hT : qe_G kp d (T_M_total f_M_laysCells f_M_worthOfAll)) (m : qm_M) : qe_J kp md_M_total d (X_M_total_e f_M_laysCells f_M_worthOfAll m) 0 [(0, .ref 112)] [] m := qe_run (B := []) (n := 1000) hT qe_B0 rfl
def F_M_total (m : qm_M) : Option qm_R := X_M_total_e F_M_laysCells F_M_worthOfAll m
theorem fj_M_total {kp : pm_K} {d : Nat} (hT : qe_G kp d (T_M_total F_M_laysCells F_M_worthOfAll)) (m : qm_M) : qe_J kp md_M_total d (F_M_total m) 0 [(0, .ref 112)] [] m := xg_M_total_e hT m
theorem fg_M_total {kp : pm_K} (d : Nat) : qe_GE kp (d + 7) (300, 0, 11, 2, qw_c 112 F_M_total) := qe_entry (by decide +kernel) (qw_c_ok (d := d + 6) rfl rfl (fj_M_total (qe_G1 (fg_M_laysCells (d + 0)) (qe_G1 (fg_M_worthOfAll (d + 4)) qe_G0))))
/-! TurnFieldModel.turn(II)I -/
noncomputable def T_M_turn (f_M_isCell : Int32 → Int32 → qm_M → Option qm_R) (f_M_keepsAct : qm_M → Option qm_R) (f_M_place_III : Int32 → Int32 → qm_M → Option qm_R) (f_M_heads : qm_M → Option qm_R) : qe_T := [(291, 0, 11, 1, qw_cii 112 f_M_isCell), (253, 0, 11, 0, qw_c 112 f_M_keepsAct), (290, 1, 0, 1, qw_ii f_M_place_III), (257, 0, 11, 1, qw_c 112 f_M_heads)]
def X_M_turn_e (f_M_isCell : Int32 → Int32 → qm_M → Option qm_R) (f_M_keepsAct : qm_M → Option qm_R) (f_M_place_III : Int32 → Int32 → qm_M → Option qm_R) (f_M_heads : qm_M → Option qm_R) (v1 : Int32) (v2 : Int32) (m : qm_M) : Option qm_R :=
  qe_rI (f_M_isCell v1 v2 m) fun x1 m1 =>
  if x1 = 0 then
    some (some (.int (-1 : Int32)), m1)
  else
    qe_rV (f_M_keepsAct m1) fun m2 =>
    qe_rI (f_M_place_III v1 v2 m2) fun x2 m3 =>
    let m4 : qm_M := qm_sL m3 113 6 ((m2.2 113 6) ^^^ (qo_lshl (1 : Int64) x2))
    qe_rI (f_M_heads m4) fun x3 m5 =>
    some (some (.int x3), m5)
set_option maxRecDepth 100000 in
theorem xg_M_turn_e {kp : pm_K} {d : Nat} {f_M_isCell : Int32 → Int32 → qm_M → Option qm_R} {f_M_keepsAct : qm_M → Option qm_R} {f_M_place_III : Int32 → Int32 → qm_M → Option qm_R} {f_M_heads : qm_M → Option qm_R} (hT : qe_G kp d (T_M_turn f_M_isCell f_M_keepsAct f_M_place_III f_M_heads)) (v1 : Int32) (v2 : Int32) (m : qm_M) : qe_J kp md_M_turn d (X_M_turn_e f_M_isCell f_M_keepsAct f_M_place_III f_M_heads v1 v2 m) 0 [(0, .ref 112), (1, .int v1), (2, .int v2)] [] m := qe_run (B := []) (n := 1000) hT qe_B0 rfl
def F_M_turn (v1 : Int32) (v2 : Int32) (m : qm_M) : Option qm_R := X_M_turn_e F_M_isCell F_M_keepsAct F_M_place_III F_M_heads v1 v2 m
theorem fj_M_turn {kp : pm_K} {d : Nat} (hT : qe_G kp d (T_M_turn F_M_isCell F_M_keepsAct F_M_place_III F_M_heads)) (v1 : Int32) (v2 : Int32) (m : qm_M) : qe_J kp md_M_turn d (F_M_turn v1 v2 m) 0 [(0, .ref 112), (1, .int v1), (2, .int v2)] [] m := xg_M_turn_e hT v1 v2 m
theorem fg_M_turn {kp : pm_K} (d : Nat) : qe_GE kp (d + 3) (301, 0, 11, 1, qw_cii 112 F_M_turn) := qe_entry (by decide +kernel) (qw_cii_ok (d := d + 2) rfl rfl (fj_M_turn (qe_G1 (fg_M_isCell (d + 0)) (qe_G1 (fg_M_keepsAct (d + 1)) (qe_G1 (fg_M_place_III (d + 1)) (qe_G1 (fg_M_heads (d + 0)) qe_G0))))))
/-! TurnFieldModel.isMove(II)Z -/
noncomputable def T_M_isMove (f_M_maySet : Int32 → Int32 → qm_M → Option qm_R) (f_M_greatestOf : Int32 → qm_M → Option qm_R) (f_M_place_III : Int32 → Int32 → qm_M → Option qm_R) (f_M_has : Int64 → Int32 → qm_M → Option qm_R) : qe_T := [(283, 0, 11, 1, qw_cii 112 f_M_maySet), (280, 1, 0, 1, qw_i f_M_greatestOf), (290, 1, 0, 1, qw_ii f_M_place_III), (186, 1, 0, 1, qw_li f_M_has)]
def X_M_isMove_e (f_M_maySet : Int32 → Int32 → qm_M → Option qm_R) (f_M_greatestOf : Int32 → qm_M → Option qm_R) (f_M_place_III : Int32 → Int32 → qm_M → Option qm_R) (f_M_has : Int64 → Int32 → qm_M → Option qm_R) (v1 : Int32) (v2 : Int32) (m : qm_M) : Option qm_R :=
  qe_rI (f_M_maySet (0 : Int32) v1 m) fun x1 m1 =>
  if x1 = 0 then
    some (some (.int (0 : Int32)), m1)
  else
    qe_rI (f_M_maySet (1 : Int32) v2 m1) fun x2 m2 =>
    if x2 = 0 then
      some (some (.int (0 : Int32)), m2)
    else
      qe_rI (f_M_greatestOf v1 m2) fun x3 m3 =>
      qe_rI (f_M_greatestOf v2 m3) fun x4 m4 =>
      qe_rI (f_M_place_III x3 x4 m4) fun x5 m5 =>
      qe_rI (f_M_has (m2.2 113 6) x5 m5) fun x6 m6 =>
      if x6 = 0 then
        some (some (.int (0 : Int32)), m6)
      else
        some (some (.int (1 : Int32)), m6)
set_option maxRecDepth 100000 in
theorem xg_M_isMove_e {kp : pm_K} {d : Nat} {f_M_maySet : Int32 → Int32 → qm_M → Option qm_R} {f_M_greatestOf : Int32 → qm_M → Option qm_R} {f_M_place_III : Int32 → Int32 → qm_M → Option qm_R} {f_M_has : Int64 → Int32 → qm_M → Option qm_R} (hT : qe_G kp d (T_M_isMove f_M_maySet f_M_greatestOf f_M_place_III f_M_has)) (v1 : Int32) (v2 : Int32) (m : qm_M) : qe_J kp md_M_isMove d (X_M_isMove_e f_M_maySet f_M_greatestOf f_M_place_III f_M_has v1 v2 m) 0 [(0, .ref 112), (1, .int v1), (2, .int v2)] [] m := qe_run (B := []) (n := 1000) hT qe_B0 rfl
def F_M_isMove (v1 : Int32) (v2 : Int32) (m : qm_M) : Option qm_R := X_M_isMove_e F_M_maySet F_M_greatestOf F_M_place_III F_M_has v1 v2 m
theorem fj_M_isMove {kp : pm_K} {d : Nat} (hT : qe_G kp d (T_M_isMove F_M_maySet F_M_greatestOf F_M_place_III F_M_has)) (v1 : Int32) (v2 : Int32) (m : qm_M) : qe_J kp md_M_isMove d (F_M_isMove v1 v2 m) 0 [(0, .ref 112), (1, .int v1), (2, .int v2)] [] m := xg_M_isMove_e hT v1 v2 m
theorem fg_M_isMove {kp : pm_K} (d : Nat) : qe_GE kp (d + 4) (302, 0, 11, 1, qw_cii 112 F_M_isMove) := qe_entry (by decide +kernel) (qw_cii_ok (d := d + 3) rfl rfl (fj_M_isMove (qe_G1 (fg_M_maySet (d + 0)) (qe_G1 (fg_M_greatestOf (d + 2)) (qe_G1 (fg_M_place_III (d + 2)) (qe_G1 (fg_M_has (d + 2)) qe_G0))))))
/-! TurnFieldModel.play(II)I -/
noncomputable def T_M_play (f_M_manyOf : Int32 → qm_M → Option qm_R) (f_M_isIn : Int64 → Int64 → Int64 → qm_M → Option qm_R) (f_M_isMove : Int32 → Int32 → qm_M → Option qm_R) (f_M_keepsAct : qm_M → Option qm_R) (f_M_cellsOf : Int32 → Int32 → qm_M → Option qm_R) (f_M_heads : qm_M → Option qm_R) : qe_T := [(279, 0, 11, 1, qw_ci 112 f_M_manyOf), (185, 1, 0, 1, qw_lll f_M_isIn), (302, 0, 11, 1, qw_cii 112 f_M_isMove), (253, 0, 11, 0, qw_c 112 f_M_keepsAct), (293, 1, 0, 2, qw_ii f_M_cellsOf), (257, 0, 11, 1, qw_c 112 f_M_heads)]
def X_M_play_e (f_M_manyOf : Int32 → qm_M → Option qm_R) (f_M_isIn : Int64 → Int64 → Int64 → qm_M → Option qm_R) (f_M_isMove : Int32 → Int32 → qm_M → Option qm_R) (f_M_keepsAct : qm_M → Option qm_R) (f_M_cellsOf : Int32 → Int32 → qm_M → Option qm_R) (f_M_heads : qm_M → Option qm_R) (v1 : Int32) (v2 : Int32) (m : qm_M) : Option qm_R :=
  qe_rI (f_M_manyOf (0 : Int32) m) fun x1 m1 =>
  qe_rI (f_M_isIn (Int32.toInt64 v1) (1 : Int64) (Int32.toInt64 ((qo_ishl (1 : Int32) x1) - (1 : Int32))) m1) fun x2 m2 =>
  if x2 = 0 then
    some (some (.int (-1 : Int32)), m2)
  else
    qe_rI (f_M_manyOf (1 : Int32) m2) fun x3 m3 =>
    qe_rI (f_M_isIn (Int32.toInt64 v2) (1 : Int64) (Int32.toInt64 ((qo_ishl (1 : Int32) x3) - (1 : Int32))) m3) fun x4 m4 =>
    if x4 = 0 then
      some (some (.int (-1 : Int32)), m4)
    else
      qe_rI (f_M_isMove v1 v2 m4) fun x5 m5 =>
      if x5 = 0 then
        some (some (.int (-2 : Int32)), m5)
      else
        qe_rV (f_M_keepsAct m5) fun m6 =>
        qe_rL (f_M_cellsOf v1 v2 m6) fun x6 m7 =>
        let m8 : qm_M := qm_sL m7 113 6 ((m6.2 113 6) ^^^ x6)
        qe_rI (f_M_heads m8) fun x7 m9 =>
        some (some (.int x7), m9)
set_option maxRecDepth 100000 in
theorem xg_M_play_e {kp : pm_K} {d : Nat} {f_M_manyOf : Int32 → qm_M → Option qm_R} {f_M_isIn : Int64 → Int64 → Int64 → qm_M → Option qm_R} {f_M_isMove : Int32 → Int32 → qm_M → Option qm_R} {f_M_keepsAct : qm_M → Option qm_R} {f_M_cellsOf : Int32 → Int32 → qm_M → Option qm_R} {f_M_heads : qm_M → Option qm_R} (hT : qe_G kp d (T_M_play f_M_manyOf f_M_isIn f_M_isMove f_M_keepsAct f_M_cellsOf f_M_heads)) (v1 : Int32) (v2 : Int32) (m : qm_M) : qe_J kp md_M_play d (X_M_play_e f_M_manyOf f_M_isIn f_M_isMove f_M_keepsAct f_M_cellsOf f_M_heads v1 v2 m) 0 [(0, .ref 112), (1, .int v1), (2, .int v2)] [] m := qe_run (B := []) (n := 1000) hT qe_B0 rfl
def F_M_play (v1 : Int32) (v2 : Int32) (m : qm_M) : Option qm_R := X_M_play_e F_M_manyOf F_M_isIn F_M_isMove F_M_keepsAct F_M_cellsOf F_M_heads v1 v2 m
theorem fj_M_play {kp : pm_K} {d : Nat} (hT : qe_G kp d (T_M_play F_M_manyOf F_M_isIn F_M_isMove F_M_keepsAct F_M_cellsOf F_M_heads)) (v1 : Int32) (v2 : Int32) (m : qm_M) : qe_J kp md_M_play d (F_M_play v1 v2 m) 0 [(0, .ref 112), (1, .int v1), (2, .int v2)] [] m := xg_M_play_e hT v1 v2 m
theorem fg_M_play {kp : pm_K} (d : Nat) : qe_GE kp (d + 5) (303, 0, 11, 1, qw_cii 112 F_M_play) := qe_entry (by decide +kernel) (qw_cii_ok (d := d + 4) rfl rfl (fj_M_play (qe_G1 (fg_M_manyOf (d + 3)) (qe_G1 (fg_M_isIn (d + 3)) (qe_G1 (fg_M_isMove (d + 0)) (qe_G1 (fg_M_keepsAct (d + 3)) (qe_G1 (fg_M_cellsOf (d + 3)) (qe_G1 (fg_M_heads (d + 2)) qe_G0))))))))
/-! TurnFieldModel.findsOf(IIZI)Z -/
noncomputable def T_M_findsOf (f_M_maySet : Int32 → Int32 → qm_M → Option qm_R) (f_M_cellsOf : Int32 → Int32 → qm_M → Option qm_R) (f_M_worthOfAll : Int64 → qm_M → Option qm_R) : qe_T := [(283, 0, 11, 1, qw_cii 112 f_M_maySet), (293, 1, 0, 2, qw_ii f_M_cellsOf), (299, 0, 11, 1, qw_cl 112 f_M_worthOfAll)]
def X_M_findsOf_85 (f_M_maySet : Int32 → Int32 → qm_M → Option qm_R) (f_M_cellsOf : Int32 → Int32 → qm_M → Option qm_R) (f_M_worthOfAll : Int64 → qm_M → Option qm_R) (l31 : Int32 → Int32 → Int32 → Int32 → Int32 → Int32 → qm_M → Option qm_R) (v1 : Int32) (v2 : Int32) (v3 : Int32) (v4 : Int32) (v5 : Int32) (v6 : Int32) (v7 : Int32) (m : qm_M) : Option qm_R :=
  let m1 : qm_M := qm_sI m 112 36 v5
  let m2 : qm_M := qm_sI m1 112 37 v6
  let m3 : qm_M := qm_sI m2 112 38 v7
  if (m3.1 112 39) = v4 then
    some (some (.int (1 : Int32)), m3)
  else
    let m4 : qm_M := qm_sI m3 112 39 ((m3.1 112 39) + (1 : Int32))
    l31 v1 v2 v3 v4 v5 (v6 + (1 : Int32)) m4
set_option maxRecDepth 100000 in
theorem xg_M_findsOf_85 {kp : pm_K} {d : Nat} {f_M_maySet : Int32 → Int32 → qm_M → Option qm_R} {f_M_cellsOf : Int32 → Int32 → qm_M → Option qm_R} {f_M_worthOfAll : Int64 → qm_M → Option qm_R} {l31 : Int32 → Int32 → Int32 → Int32 → Int32 → Int32 → qm_M → Option qm_R} (hT : qe_G kp d (T_M_findsOf f_M_maySet f_M_cellsOf f_M_worthOfAll)) (h31 : ∀ (v1 : Int32) (v2 : Int32) (v3 : Int32) (v4 : Int32) (v5 : Int32) (v6 : Int32) (m : qm_M), qe_J kp md_M_findsOf d (l31 v1 v2 v3 v4 v5 v6 m) 31 [(0, .ref 112), (1, .int v1), (2, .int v2), (3, .int v3), (4, .int v4), (5, .int v5), (6, .int v6)] [] m) (v1 : Int32) (v2 : Int32) (v3 : Int32) (v4 : Int32) (v5 : Int32) (v6 : Int32) (v7 : Int32) (m : qm_M) : qe_J kp md_M_findsOf d (X_M_findsOf_85 f_M_maySet f_M_cellsOf f_M_worthOfAll l31 v1 v2 v3 v4 v5 v6 v7 m) 85 [(0, .ref 112), (1, .int v1), (2, .int v2), (3, .int v3), (4, .int v4), (5, .int v5), (6, .int v6), (7, .int v7)] [] m := qe_run (B := [(31, [0, 1, 2, 3, 4, 5, 6], qp_ciiiiii_ 112 l31)]) (n := 1000) hT (qe_B1 (qp_ciiiiii__ok h31) qe_B0) rfl
def L_M_findsOf_85 (K5 : Int32 → Int32 → Int32 → Int32 → Int32 → qm_M → Option qm_R) (K31 : Int32 → Int32 → Int32 → Int32 → Int32 → Int32 → qm_M → Option qm_R) (v1 : Int32) (v2 : Int32) (v3 : Int32) (v4 : Int32) (v5 : Int32) (v6 : Int32) (v7 : Int32) (m : qm_M) : Option qm_R := X_M_findsOf_85 F_M_maySet F_M_cellsOf F_M_worthOfAll K31 v1 v2 v3 v4 v5 v6 v7 m
theorem lg_M_findsOf_85 {kp : pm_K} {d : Nat} (hT : qe_G kp d (T_M_findsOf F_M_maySet F_M_cellsOf F_M_worthOfAll)) {K5 : Int32 → Int32 → Int32 → Int32 → Int32 → qm_M → Option qm_R} (hK5 : ∀ (v1 : Int32) (v2 : Int32) (v3 : Int32) (v4 : Int32) (v5 : Int32) (m : qm_M), qe_J kp md_M_findsOf d (K5 v1 v2 v3 v4 v5 m) 5 [(0, .ref 112), (1, .int v1), (2, .int v2), (3, .int v3), (4, .int v4), (5, .int v5)] [] m) {K31 : Int32 → Int32 → Int32 → Int32 → Int32 → Int32 → qm_M → Option qm_R} (hK31 : ∀ (v1 : Int32) (v2 : Int32) (v3 : Int32) (v4 : Int32) (v5 : Int32) (v6 : Int32) (m : qm_M), qe_J kp md_M_findsOf d (K31 v1 v2 v3 v4 v5 v6 m) 31 [(0, .ref 112), (1, .int v1), (2, .int v2), (3, .int v3), (4, .int v4), (5, .int v5), (6, .int v6)] [] m) (v1 : Int32) (v2 : Int32) (v3 : Int32) (v4 : Int32) (v5 : Int32) (v6 : Int32) (v7 : Int32) (m : qm_M) : qe_J kp md_M_findsOf d (L_M_findsOf_85 K5 K31 v1 v2 v3 v4 v5 v6 v7 m) 85 [(0, .ref 112), (1, .int v1), (2, .int v2), (3, .int v3), (4, .int v4), (5, .int v5), (6, .int v6), (7, .int v7)] [] m := xg_M_findsOf_85 hT hK31 v1 v2 v3 v4 v5 v6 v7 m
def X_M_findsOf_31 (f_M_maySet : Int32 → Int32 → qm_M → Option qm_R) (f_M_cellsOf : Int32 → Int32 → qm_M → Option qm_R) (f_M_worthOfAll : Int64 → qm_M → Option qm_R) (l5 : Int32 → Int32 → Int32 → Int32 → Int32 → qm_M → Option qm_R) (l31 : Int32 → Int32 → Int32 → Int32 → Int32 → Int32 → qm_M → Option qm_R) (l85 : Int32 → Int32 → Int32 → Int32 → Int32 → Int32 → Int32 → qm_M → Option qm_R) (v1 : Int32) (v2 : Int32) (v3 : Int32) (v4 : Int32) (v5 : Int32) (v6 : Int32) (m : qm_M) : Option qm_R :=
  if v6 < (qo_ishl (2 : Int32) v2) then
    qe_rI (f_M_maySet (1 : Int32) v6 m) fun x1 m1 =>
    if x1 = 0 then
      l31 v1 v2 v3 v4 v5 (v6 + (1 : Int32)) m1
    else
      qe_rL (f_M_cellsOf v5 v6 m1) fun x2 m2 =>
      qe_rI (f_M_worthOfAll ((m1.2 113 6) ^^^ x2) m2) fun x3 m3 =>
      if v3 = 0 then
        l85 v1 v2 v3 v4 v5 v6 x3 m3
      else
        if x3 = 0 then
          l85 v1 v2 v3 v4 v5 v6 x3 m3
        else
          l31 v1 v2 v3 v4 v5 (v6 + (1 : Int32)) m3
  else
    l5 v1 v2 v3 v4 (v5 + (1 : Int32)) m
set_option maxRecDepth 100000 in
theorem xg_M_findsOf_31 {kp : pm_K} {d : Nat} {f_M_maySet : Int32 → Int32 → qm_M → Option qm_R} {f_M_cellsOf : Int32 → Int32 → qm_M → Option qm_R} {f_M_worthOfAll : Int64 → qm_M → Option qm_R} {l5 : Int32 → Int32 → Int32 → Int32 → Int32 → qm_M → Option qm_R} {l31 : Int32 → Int32 → Int32 → Int32 → Int32 → Int32 → qm_M → Option qm_R} {l85 : Int32 → Int32 → Int32 → Int32 → Int32 → Int32 → Int32 → qm_M → Option qm_R} (hT : qe_G kp d (T_M_findsOf f_M_maySet f_M_cellsOf f_M_worthOfAll)) (h5 : ∀ (v1 : Int32) (v2 : Int32) (v3 : Int32) (v4 : Int32) (v5 : Int32) (m : qm_M), qe_J kp md_M_findsOf d (l5 v1 v2 v3 v4 v5 m) 5 [(0, .ref 112), (1, .int v1), (2, .int v2), (3, .int v3), (4, .int v4), (5, .int v5)] [] m) (h31 : ∀ (v1 : Int32) (v2 : Int32) (v3 : Int32) (v4 : Int32) (v5 : Int32) (v6 : Int32) (m : qm_M), qe_J kp md_M_findsOf d (l31 v1 v2 v3 v4 v5 v6 m) 31 [(0, .ref 112), (1, .int v1), (2, .int v2), (3, .int v3), (4, .int v4), (5, .int v5), (6, .int v6)] [] m) (h85 : ∀ (v1 : Int32) (v2 : Int32) (v3 : Int32) (v4 : Int32) (v5 : Int32) (v6 : Int32) (v7 : Int32) (m : qm_M), qe_J kp md_M_findsOf d (l85 v1 v2 v3 v4 v5 v6 v7 m) 85 [(0, .ref 112), (1, .int v1), (2, .int v2), (3, .int v3), (4, .int v4), (5, .int v5), (6, .int v6), (7, .int v7)] [] m) (v1 : Int32) (v2 : Int32) (v3 : Int32) (v4 : Int32) (v5 : Int32) (v6 : Int32) (m : qm_M) : qe_J kp md_M_findsOf d (X_M_findsOf_31 f_M_maySet f_M_cellsOf f_M_worthOfAll l5 l31 l85 v1 v2 v3 v4 v5 v6 m) 31 [(0, .ref 112), (1, .int v1), (2, .int v2), (3, .int v3), (4, .int v4), (5, .int v5), (6, .int v6)] [] m := qe_run (B := [(5, [0, 1, 2, 3, 4, 5], qp_ciiiii_ 112 l5), (31, [0, 1, 2, 3, 4, 5, 6], qp_ciiiiii_ 112 l31), (85, [0, 1, 2, 3, 4, 5, 6, 7], qp_ciiiiiii_ 112 l85)]) (n := 1000) hT (qe_B1 (qp_ciiiii__ok h5) (qe_B1 (qp_ciiiiii__ok h31) (qe_B1 (qp_ciiiiiii__ok h85) qe_B0))) rfl
def L_M_findsOf_31 (K5 : Int32 → Int32 → Int32 → Int32 → Int32 → qm_M → Option qm_R) : Nat → Int32 → Int32 → Int32 → Int32 → Int32 → Int32 → qm_M → Option qm_R
  | 0, _, _, _, _, _, _, _ => none
  | n + 1, v1, v2, v3, v4, v5, v6, m => X_M_findsOf_31 F_M_maySet F_M_cellsOf F_M_worthOfAll K5 (L_M_findsOf_31 K5 n) (L_M_findsOf_85 K5 (L_M_findsOf_31 K5 n)) v1 v2 v3 v4 v5 v6 m
theorem lg_M_findsOf_31 {kp : pm_K} {d : Nat} (hT : qe_G kp d (T_M_findsOf F_M_maySet F_M_cellsOf F_M_worthOfAll)) {K5 : Int32 → Int32 → Int32 → Int32 → Int32 → qm_M → Option qm_R} (hK5 : ∀ (v1 : Int32) (v2 : Int32) (v3 : Int32) (v4 : Int32) (v5 : Int32) (m : qm_M), qe_J kp md_M_findsOf d (K5 v1 v2 v3 v4 v5 m) 5 [(0, .ref 112), (1, .int v1), (2, .int v2), (3, .int v3), (4, .int v4), (5, .int v5)] [] m) : ∀ (n : Nat) (v1 : Int32) (v2 : Int32) (v3 : Int32) (v4 : Int32) (v5 : Int32) (v6 : Int32) (m : qm_M), qe_J kp md_M_findsOf d (L_M_findsOf_31 K5 n v1 v2 v3 v4 v5 v6 m) 31 [(0, .ref 112), (1, .int v1), (2, .int v2), (3, .int v3), (4, .int v4), (5, .int v5), (6, .int v6)] [] m
  | 0, v1, v2, v3, v4, v5, v6, m => qe_none rfl
  | n + 1, v1, v2, v3, v4, v5, v6, m => xg_M_findsOf_31 hT hK5 (lg_M_findsOf_31 hT hK5 n) (lg_M_findsOf_85 hT hK5 (lg_M_findsOf_31 hT hK5 n)) v1 v2 v3 v4 v5 v6 m
def X_M_findsOf_5 (f_M_maySet : Int32 → Int32 → qm_M → Option qm_R) (f_M_cellsOf : Int32 → Int32 → qm_M → Option qm_R) (f_M_worthOfAll : Int64 → qm_M → Option qm_R) (l5 : Int32 → Int32 → Int32 → Int32 → Int32 → qm_M → Option qm_R) (l31 : Int32 → Int32 → Int32 → Int32 → Int32 → Int32 → qm_M → Option qm_R) (v1 : Int32) (v2 : Int32) (v3 : Int32) (v4 : Int32) (v5 : Int32) (m : qm_M) : Option qm_R :=
  if v5 < (qo_ishl (2 : Int32) v1) then
    qe_rI (f_M_maySet (0 : Int32) v5 m) fun x1 m1 =>
    if x1 = 0 then
      l5 v1 v2 v3 v4 (v5 + (1 : Int32)) m1
    else
      l31 v1 v2 v3 v4 v5 (qo_ishl (1 : Int32) v2) m1
  else
    some (some (.int (0 : Int32)), m)
set_option maxRecDepth 100000 in
theorem xg_M_findsOf_5 {kp : pm_K} {d : Nat} {f_M_maySet : Int32 → Int32 → qm_M → Option qm_R} {f_M_cellsOf : Int32 → Int32 → qm_M → Option qm_R} {f_M_worthOfAll : Int64 → qm_M → Option qm_R} {l5 : Int32 → Int32 → Int32 → Int32 → Int32 → qm_M → Option qm_R} {l31 : Int32 → Int32 → Int32 → Int32 → Int32 → Int32 → qm_M → Option qm_R} (hT : qe_G kp d (T_M_findsOf f_M_maySet f_M_cellsOf f_M_worthOfAll)) (h5 : ∀ (v1 : Int32) (v2 : Int32) (v3 : Int32) (v4 : Int32) (v5 : Int32) (m : qm_M), qe_J kp md_M_findsOf d (l5 v1 v2 v3 v4 v5 m) 5 [(0, .ref 112), (1, .int v1), (2, .int v2), (3, .int v3), (4, .int v4), (5, .int v5)] [] m) (h31 : ∀ (v1 : Int32) (v2 : Int32) (v3 : Int32) (v4 : Int32) (v5 : Int32) (v6 : Int32) (m : qm_M), qe_J kp md_M_findsOf d (l31 v1 v2 v3 v4 v5 v6 m) 31 [(0, .ref 112), (1, .int v1), (2, .int v2), (3, .int v3), (4, .int v4), (5, .int v5), (6, .int v6)] [] m) (v1 : Int32) (v2 : Int32) (v3 : Int32) (v4 : Int32) (v5 : Int32) (m : qm_M) : qe_J kp md_M_findsOf d (X_M_findsOf_5 f_M_maySet f_M_cellsOf f_M_worthOfAll l5 l31 v1 v2 v3 v4 v5 m) 5 [(0, .ref 112), (1, .int v1), (2, .int v2), (3, .int v3), (4, .int v4), (5, .int v5)] [] m := qe_run (B := [(5, [0, 1, 2, 3, 4, 5], qp_ciiiii_ 112 l5), (31, [0, 1, 2, 3, 4, 5, 6], qp_ciiiiii_ 112 l31)]) (n := 1000) hT (qe_B1 (qp_ciiiii__ok h5) (qe_B1 (qp_ciiiiii__ok h31) qe_B0)) rfl
def L_M_findsOf_5 : Nat → Int32 → Int32 → Int32 → Int32 → Int32 → qm_M → Option qm_R
  | 0, _, _, _, _, _, _ => none
  | n + 1, v1, v2, v3, v4, v5, m => X_M_findsOf_5 F_M_maySet F_M_cellsOf F_M_worthOfAll (L_M_findsOf_5 n) (L_M_findsOf_31 (L_M_findsOf_5 n) 1000000) v1 v2 v3 v4 v5 m
theorem lg_M_findsOf_5 {kp : pm_K} {d : Nat} (hT : qe_G kp d (T_M_findsOf F_M_maySet F_M_cellsOf F_M_worthOfAll)) : ∀ (n : Nat) (v1 : Int32) (v2 : Int32) (v3 : Int32) (v4 : Int32) (v5 : Int32) (m : qm_M), qe_J kp md_M_findsOf d (L_M_findsOf_5 n v1 v2 v3 v4 v5 m) 5 [(0, .ref 112), (1, .int v1), (2, .int v2), (3, .int v3), (4, .int v4), (5, .int v5)] [] m
  | 0, v1, v2, v3, v4, v5, m => qe_none rfl
  | n + 1, v1, v2, v3, v4, v5, m => xg_M_findsOf_5 hT (lg_M_findsOf_5 hT n) (lg_M_findsOf_31 hT (lg_M_findsOf_5 hT n) 1000000) v1 v2 v3 v4 v5 m
def X_M_findsOf_e (f_M_maySet : Int32 → Int32 → qm_M → Option qm_R) (f_M_cellsOf : Int32 → Int32 → qm_M → Option qm_R) (f_M_worthOfAll : Int64 → qm_M → Option qm_R) (l5 : Int32 → Int32 → Int32 → Int32 → Int32 → qm_M → Option qm_R) (v1 : Int32) (v2 : Int32) (v3 : Int32) (v4 : Int32) (m : qm_M) : Option qm_R :=
  l5 v1 v2 v3 v4 (qo_ishl (1 : Int32) v1) m
set_option maxRecDepth 100000 in
theorem xg_M_findsOf_e {kp : pm_K} {d : Nat} {f_M_maySet : Int32 → Int32 → qm_M → Option qm_R} {f_M_cellsOf : Int32 → Int32 → qm_M → Option qm_R} {f_M_worthOfAll : Int64 → qm_M → Option qm_R} {l5 : Int32 → Int32 → Int32 → Int32 → Int32 → qm_M → Option qm_R} (hT : qe_G kp d (T_M_findsOf f_M_maySet f_M_cellsOf f_M_worthOfAll)) (h5 : ∀ (v1 : Int32) (v2 : Int32) (v3 : Int32) (v4 : Int32) (v5 : Int32) (m : qm_M), qe_J kp md_M_findsOf d (l5 v1 v2 v3 v4 v5 m) 5 [(0, .ref 112), (1, .int v1), (2, .int v2), (3, .int v3), (4, .int v4), (5, .int v5)] [] m) (v1 : Int32) (v2 : Int32) (v3 : Int32) (v4 : Int32) (m : qm_M) : qe_J kp md_M_findsOf d (X_M_findsOf_e f_M_maySet f_M_cellsOf f_M_worthOfAll l5 v1 v2 v3 v4 m) 0 [(0, .ref 112), (1, .int v1), (2, .int v2), (3, .int v3), (4, .int v4)] [] m := qe_run (B := [(5, [0, 1, 2, 3, 4, 5], qp_ciiiii_ 112 l5)]) (n := 1000) hT (qe_B1 (qp_ciiiii__ok h5) qe_B0) rfl
def F_M_findsOf (v1 : Int32) (v2 : Int32) (v3 : Int32) (v4 : Int32) (m : qm_M) : Option qm_R := X_M_findsOf_e F_M_maySet F_M_cellsOf F_M_worthOfAll (L_M_findsOf_5 1000000) v1 v2 v3 v4 m
theorem fj_M_findsOf {kp : pm_K} {d : Nat} (hT : qe_G kp d (T_M_findsOf F_M_maySet F_M_cellsOf F_M_worthOfAll)) (v1 : Int32) (v2 : Int32) (v3 : Int32) (v4 : Int32) (m : qm_M) : qe_J kp md_M_findsOf d (F_M_findsOf v1 v2 v3 v4 m) 0 [(0, .ref 112), (1, .int v1), (2, .int v2), (3, .int v3), (4, .int v4)] [] m := xg_M_findsOf_e hT (lg_M_findsOf_5 hT 1000000) v1 v2 v3 v4 m
theorem fg_M_findsOf {kp : pm_K} (d : Nat) : qe_GE kp (d + 4) (304, 0, 11, 1, qw_ciiii 112 F_M_findsOf) := qe_entry (by decide +kernel) (qw_ciiii_ok (d := d + 3) rfl rfl (fj_M_findsOf (qe_G1 (fg_M_maySet (d + 0)) (qe_G1 (fg_M_cellsOf (d + 2)) (qe_G1 (fg_M_worthOfAll (d + 1)) qe_G0)))))
/-! TurnFieldModel.finds(ZI)Z -/
noncomputable def T_M_finds (f_M_laysCells : qm_M → Option qm_R) (f_M_manyOf : Int32 → qm_M → Option qm_R) (f_M_place_III : Int32 → Int32 → qm_M → Option qm_R) (f_M_has : Int64 → Int32 → qm_M → Option qm_R) (f_M_findsOf : Int32 → Int32 → Int32 → Int32 → qm_M → Option qm_R) : qe_T := [(298, 0, 11, 0, qw_c 112 f_M_laysCells), (279, 0, 11, 1, qw_ci 112 f_M_manyOf), (290, 1, 0, 1, qw_ii f_M_place_III), (186, 1, 0, 1, qw_li f_M_has), (304, 0, 11, 1, qw_ciiii 112 f_M_findsOf)]
def X_M_finds_23 (f_M_laysCells : qm_M → Option qm_R) (f_M_manyOf : Int32 → qm_M → Option qm_R) (f_M_place_III : Int32 → Int32 → qm_M → Option qm_R) (f_M_has : Int64 → Int32 → qm_M → Option qm_R) (f_M_findsOf : Int32 → Int32 → Int32 → Int32 → qm_M → Option qm_R) (l11 : Int32 → Int32 → Int32 → qm_M → Option qm_R) (l23 : Int32 → Int32 → Int32 → Int32 → qm_M → Option qm_R) (v1 : Int32) (v2 : Int32) (v3 : Int32) (v4 : Int32) (m : qm_M) : Option qm_R :=
  qe_rI (f_M_manyOf (1 : Int32) m) fun x1 m1 =>
  if v4 < x1 then
    qe_rI (f_M_place_III v3 v4 m1) fun x2 m2 =>
    qe_rI (f_M_has (m1.2 113 6) x2 m2) fun x3 m3 =>
    if x3 = 0 then
      l23 v1 v2 v3 (v4 + (1 : Int32)) m3
    else
      qe_rI (f_M_findsOf v3 v4 v1 v2 m3) fun x4 m4 =>
      if x4 = 0 then
        l23 v1 v2 v3 (v4 + (1 : Int32)) m4
      else
        some (some (.int (1 : Int32)), m4)
  else
    l11 v1 v2 (v3 + (1 : Int32)) m1
set_option maxRecDepth 100000 in
theorem xg_M_finds_23 {kp : pm_K} {d : Nat} {f_M_laysCells : qm_M → Option qm_R} {f_M_manyOf : Int32 → qm_M → Option qm_R} {f_M_place_III : Int32 → Int32 → qm_M → Option qm_R} {f_M_has : Int64 → Int32 → qm_M → Option qm_R} {f_M_findsOf : Int32 → Int32 → Int32 → Int32 → qm_M → Option qm_R} {l11 : Int32 → Int32 → Int32 → qm_M → Option qm_R} {l23 : Int32 → Int32 → Int32 → Int32 → qm_M → Option qm_R} (hT : qe_G kp d (T_M_finds f_M_laysCells f_M_manyOf f_M_place_III f_M_has f_M_findsOf)) (h11 : ∀ (v1 : Int32) (v2 : Int32) (v3 : Int32) (m : qm_M), qe_J kp md_M_finds d (l11 v1 v2 v3 m) 11 [(0, .ref 112), (1, .int v1), (2, .int v2), (3, .int v3)] [] m) (h23 : ∀ (v1 : Int32) (v2 : Int32) (v3 : Int32) (v4 : Int32) (m : qm_M), qe_J kp md_M_finds d (l23 v1 v2 v3 v4 m) 23 [(0, .ref 112), (1, .int v1), (2, .int v2), (3, .int v3), (4, .int v4)] [] m) (v1 : Int32) (v2 : Int32) (v3 : Int32) (v4 : Int32) (m : qm_M) : qe_J kp md_M_finds d (X_M_finds_23 f_M_laysCells f_M_manyOf f_M_place_III f_M_has f_M_findsOf l11 l23 v1 v2 v3 v4 m) 23 [(0, .ref 112), (1, .int v1), (2, .int v2), (3, .int v3), (4, .int v4)] [] m := qe_run (B := [(11, [0, 1, 2, 3], qp_ciii_ 112 l11), (23, [0, 1, 2, 3, 4], qp_ciiii_ 112 l23)]) (n := 1000) hT (qe_B1 (qp_ciii__ok h11) (qe_B1 (qp_ciiii__ok h23) qe_B0)) rfl
def L_M_finds_23 (K11 : Int32 → Int32 → Int32 → qm_M → Option qm_R) : Nat → Int32 → Int32 → Int32 → Int32 → qm_M → Option qm_R
  | 0, _, _, _, _, _ => none
  | n + 1, v1, v2, v3, v4, m => X_M_finds_23 F_M_laysCells F_M_manyOf F_M_place_III F_M_has F_M_findsOf K11 (L_M_finds_23 K11 n) v1 v2 v3 v4 m
theorem lg_M_finds_23 {kp : pm_K} {d : Nat} (hT : qe_G kp d (T_M_finds F_M_laysCells F_M_manyOf F_M_place_III F_M_has F_M_findsOf)) {K11 : Int32 → Int32 → Int32 → qm_M → Option qm_R} (hK11 : ∀ (v1 : Int32) (v2 : Int32) (v3 : Int32) (m : qm_M), qe_J kp md_M_finds d (K11 v1 v2 v3 m) 11 [(0, .ref 112), (1, .int v1), (2, .int v2), (3, .int v3)] [] m) : ∀ (n : Nat) (v1 : Int32) (v2 : Int32) (v3 : Int32) (v4 : Int32) (m : qm_M), qe_J kp md_M_finds d (L_M_finds_23 K11 n v1 v2 v3 v4 m) 23 [(0, .ref 112), (1, .int v1), (2, .int v2), (3, .int v3), (4, .int v4)] [] m
  | 0, v1, v2, v3, v4, m => qe_none rfl
  | n + 1, v1, v2, v3, v4, m => xg_M_finds_23 hT hK11 (lg_M_finds_23 hT hK11 n) v1 v2 v3 v4 m
def X_M_finds_11 (f_M_laysCells : qm_M → Option qm_R) (f_M_manyOf : Int32 → qm_M → Option qm_R) (f_M_place_III : Int32 → Int32 → qm_M → Option qm_R) (f_M_has : Int64 → Int32 → qm_M → Option qm_R) (f_M_findsOf : Int32 → Int32 → Int32 → Int32 → qm_M → Option qm_R) (l23 : Int32 → Int32 → Int32 → Int32 → qm_M → Option qm_R) (v1 : Int32) (v2 : Int32) (v3 : Int32) (m : qm_M) : Option qm_R :=
  qe_rI (f_M_manyOf (0 : Int32) m) fun x1 m1 =>
  if v3 < x1 then
    l23 v1 v2 v3 (0 : Int32) m1
  else
    some (some (.int (0 : Int32)), m1)
set_option maxRecDepth 100000 in
theorem xg_M_finds_11 {kp : pm_K} {d : Nat} {f_M_laysCells : qm_M → Option qm_R} {f_M_manyOf : Int32 → qm_M → Option qm_R} {f_M_place_III : Int32 → Int32 → qm_M → Option qm_R} {f_M_has : Int64 → Int32 → qm_M → Option qm_R} {f_M_findsOf : Int32 → Int32 → Int32 → Int32 → qm_M → Option qm_R} {l23 : Int32 → Int32 → Int32 → Int32 → qm_M → Option qm_R} (hT : qe_G kp d (T_M_finds f_M_laysCells f_M_manyOf f_M_place_III f_M_has f_M_findsOf)) (h23 : ∀ (v1 : Int32) (v2 : Int32) (v3 : Int32) (v4 : Int32) (m : qm_M), qe_J kp md_M_finds d (l23 v1 v2 v3 v4 m) 23 [(0, .ref 112), (1, .int v1), (2, .int v2), (3, .int v3), (4, .int v4)] [] m) (v1 : Int32) (v2 : Int32) (v3 : Int32) (m : qm_M) : qe_J kp md_M_finds d (X_M_finds_11 f_M_laysCells f_M_manyOf f_M_place_III f_M_has f_M_findsOf l23 v1 v2 v3 m) 11 [(0, .ref 112), (1, .int v1), (2, .int v2), (3, .int v3)] [] m := qe_run (B := [(23, [0, 1, 2, 3, 4], qp_ciiii_ 112 l23)]) (n := 1000) hT (qe_B1 (qp_ciiii__ok h23) qe_B0) rfl
def L_M_finds_11 : Nat → Int32 → Int32 → Int32 → qm_M → Option qm_R
  | 0, _, _, _, _ => none
  | n + 1, v1, v2, v3, m => X_M_finds_11 F_M_laysCells F_M_manyOf F_M_place_III F_M_has F_M_findsOf (L_M_finds_23 (L_M_finds_11 n) 1000000) v1 v2 v3 m
theorem lg_M_finds_11 {kp : pm_K} {d : Nat} (hT : qe_G kp d (T_M_finds F_M_laysCells F_M_manyOf F_M_place_III F_M_has F_M_findsOf)) : ∀ (n : Nat) (v1 : Int32) (v2 : Int32) (v3 : Int32) (m : qm_M), qe_J kp md_M_finds d (L_M_finds_11 n v1 v2 v3 m) 11 [(0, .ref 112), (1, .int v1), (2, .int v2), (3, .int v3)] [] m
  | 0, v1, v2, v3, m => qe_none rfl
  | n + 1, v1, v2, v3, m => xg_M_finds_11 hT (lg_M_finds_23 hT (lg_M_finds_11 hT n) 1000000) v1 v2 v3 m
def X_M_finds_e (f_M_laysCells : qm_M → Option qm_R) (f_M_manyOf : Int32 → qm_M → Option qm_R) (f_M_place_III : Int32 → Int32 → qm_M → Option qm_R) (f_M_has : Int64 → Int32 → qm_M → Option qm_R) (f_M_findsOf : Int32 → Int32 → Int32 → Int32 → qm_M → Option qm_R) (l11 : Int32 → Int32 → Int32 → qm_M → Option qm_R) (v1 : Int32) (v2 : Int32) (m : qm_M) : Option qm_R :=
  qe_rV (f_M_laysCells m) fun m1 =>
  let m2 : qm_M := qm_sI m1 112 39 (0 : Int32)
  l11 v1 v2 (0 : Int32) m2
set_option maxRecDepth 100000 in
theorem xg_M_finds_e {kp : pm_K} {d : Nat} {f_M_laysCells : qm_M → Option qm_R} {f_M_manyOf : Int32 → qm_M → Option qm_R} {f_M_place_III : Int32 → Int32 → qm_M → Option qm_R} {f_M_has : Int64 → Int32 → qm_M → Option qm_R} {f_M_findsOf : Int32 → Int32 → Int32 → Int32 → qm_M → Option qm_R} {l11 : Int32 → Int32 → Int32 → qm_M → Option qm_R} (hT : qe_G kp d (T_M_finds f_M_laysCells f_M_manyOf f_M_place_III f_M_has f_M_findsOf)) (h11 : ∀ (v1 : Int32) (v2 : Int32) (v3 : Int32) (m : qm_M), qe_J kp md_M_finds d (l11 v1 v2 v3 m) 11 [(0, .ref 112), (1, .int v1), (2, .int v2), (3, .int v3)] [] m) (v1 : Int32) (v2 : Int32) (m : qm_M) : qe_J kp md_M_finds d (X_M_finds_e f_M_laysCells f_M_manyOf f_M_place_III f_M_has f_M_findsOf l11 v1 v2 m) 0 [(0, .ref 112), (1, .int v1), (2, .int v2)] [] m := qe_run (B := [(11, [0, 1, 2, 3], qp_ciii_ 112 l11)]) (n := 1000) hT (qe_B1 (qp_ciii__ok h11) qe_B0) rfl
def F_M_finds (v1 : Int32) (v2 : Int32) (m : qm_M) : Option qm_R := X_M_finds_e F_M_laysCells F_M_manyOf F_M_place_III F_M_has F_M_findsOf (L_M_finds_11 1000000) v1 v2 m
theorem fj_M_finds {kp : pm_K} {d : Nat} (hT : qe_G kp d (T_M_finds F_M_laysCells F_M_manyOf F_M_place_III F_M_has F_M_findsOf)) (v1 : Int32) (v2 : Int32) (m : qm_M) : qe_J kp md_M_finds d (F_M_finds v1 v2 m) 0 [(0, .ref 112), (1, .int v1), (2, .int v2)] [] m := xg_M_finds_e hT (lg_M_finds_11 hT 1000000) v1 v2 m
theorem fg_M_finds {kp : pm_K} (d : Nat) : qe_GE kp (d + 7) (305, 0, 11, 1, qw_cii 112 F_M_finds) := qe_entry (by decide +kernel) (qw_cii_ok (d := d + 6) rfl rfl (fj_M_finds (qe_G1 (fg_M_laysCells (d + 0)) (qe_G1 (fg_M_manyOf (d + 5)) (qe_G1 (fg_M_place_III (d + 5)) (qe_G1 (fg_M_has (d + 5)) (qe_G1 (fg_M_findsOf (d + 2)) qe_G0)))))))
/-! TurnFieldModel.answer()I -/
noncomputable def T_M_answer (f_M_finds : Int32 → Int32 → qm_M → Option qm_R) (f_M_keepsAct : qm_M → Option qm_R) (f_M_cellsOf : Int32 → Int32 → qm_M → Option qm_R) : qe_T := [(305, 0, 11, 1, qw_cii 112 f_M_finds), (253, 0, 11, 0, qw_c 112 f_M_keepsAct), (293, 1, 0, 2, qw_ii f_M_cellsOf)]
def X_M_answer_23 (f_M_finds : Int32 → Int32 → qm_M → Option qm_R) (f_M_keepsAct : qm_M → Option qm_R) (f_M_cellsOf : Int32 → Int32 → qm_M → Option qm_R) (v1 : Int32) (m : qm_M) : Option qm_R :=
  qe_rV (f_M_keepsAct m) fun m1 =>
  qe_rL (f_M_cellsOf (m1.1 112 36) (m1.1 112 37) m1) fun x1 m2 =>
  let m3 : qm_M := qm_sL m2 113 6 ((m1.2 113 6) ^^^ x1)
  if v1 = 0 then
    some (some (.int (0 : Int32)), m3)
  else
    some (some (.int (1 : Int32)), m3)
set_option maxRecDepth 100000 in
theorem xg_M_answer_23 {kp : pm_K} {d : Nat} {f_M_finds : Int32 → Int32 → qm_M → Option qm_R} {f_M_keepsAct : qm_M → Option qm_R} {f_M_cellsOf : Int32 → Int32 → qm_M → Option qm_R} (hT : qe_G kp d (T_M_answer f_M_finds f_M_keepsAct f_M_cellsOf)) (v1 : Int32) (m : qm_M) : qe_J kp md_M_answer d (X_M_answer_23 f_M_finds f_M_keepsAct f_M_cellsOf v1 m) 23 [(0, .ref 112), (1, .int v1)] [] m := qe_run (B := []) (n := 1000) hT qe_B0 rfl
def L_M_answer_23 (v1 : Int32) (m : qm_M) : Option qm_R := X_M_answer_23 F_M_finds F_M_keepsAct F_M_cellsOf v1 m
theorem lg_M_answer_23 {kp : pm_K} {d : Nat} (hT : qe_G kp d (T_M_answer F_M_finds F_M_keepsAct F_M_cellsOf)) (v1 : Int32) (m : qm_M) : qe_J kp md_M_answer d (L_M_answer_23 v1 m) 23 [(0, .ref 112), (1, .int v1)] [] m := xg_M_answer_23 hT v1 m
def X_M_answer_e (f_M_finds : Int32 → Int32 → qm_M → Option qm_R) (f_M_keepsAct : qm_M → Option qm_R) (f_M_cellsOf : Int32 → Int32 → qm_M → Option qm_R) (l23 : Int32 → qm_M → Option qm_R)  (m : qm_M) : Option qm_R :=
  qe_rI (f_M_finds (1 : Int32) (0 : Int32) m) fun x1 m1 =>
  if x1 = 0 then
    qe_rI (f_M_finds (0 : Int32) (0 : Int32) m1) fun x2 m2 =>
    if x2 = 0 then
      some (some (.int (-2 : Int32)), m2)
    else
      l23 x1 m2
  else
    l23 x1 m1
set_option maxRecDepth 100000 in
theorem xg_M_answer_e {kp : pm_K} {d : Nat} {f_M_finds : Int32 → Int32 → qm_M → Option qm_R} {f_M_keepsAct : qm_M → Option qm_R} {f_M_cellsOf : Int32 → Int32 → qm_M → Option qm_R} {l23 : Int32 → qm_M → Option qm_R} (hT : qe_G kp d (T_M_answer f_M_finds f_M_keepsAct f_M_cellsOf)) (h23 : ∀ (v1 : Int32) (m : qm_M), qe_J kp md_M_answer d (l23 v1 m) 23 [(0, .ref 112), (1, .int v1)] [] m) (m : qm_M) : qe_J kp md_M_answer d (X_M_answer_e f_M_finds f_M_keepsAct f_M_cellsOf l23 m) 0 [(0, .ref 112)] [] m := qe_run (B := [(23, [0, 1], qp_ci_ 112 l23)]) (n := 1000) hT (qe_B1 (qp_ci__ok h23) qe_B0) rfl
def F_M_answer (m : qm_M) : Option qm_R := X_M_answer_e F_M_finds F_M_keepsAct F_M_cellsOf (L_M_answer_23) m
theorem fj_M_answer {kp : pm_K} {d : Nat} (hT : qe_G kp d (T_M_answer F_M_finds F_M_keepsAct F_M_cellsOf)) (m : qm_M) : qe_J kp md_M_answer d (F_M_answer m) 0 [(0, .ref 112)] [] m := xg_M_answer_e hT (lg_M_answer_23 hT) m
theorem fg_M_answer {kp : pm_K} (d : Nat) : qe_GE kp (d + 8) (306, 0, 11, 1, qw_c 112 F_M_answer) := qe_entry (by decide +kernel) (qw_c_ok (d := d + 7) rfl rfl (fj_M_answer (qe_G1 (fg_M_finds (d + 0)) (qe_G1 (fg_M_keepsAct (d + 6)) (qe_G1 (fg_M_cellsOf (d + 6)) qe_G0)))))
/-! TurnFieldModel.moves(I)I -/
noncomputable def T_M_moves (f_M_isIn : Int64 → Int64 → Int64 → qm_M → Option qm_R) (f_M_finds : Int32 → Int32 → qm_M → Option qm_R) : qe_T := [(185, 1, 0, 1, qw_lll f_M_isIn), (305, 0, 11, 1, qw_cii 112 f_M_finds)]
def X_M_moves_23 (f_M_isIn : Int64 → Int64 → Int64 → qm_M → Option qm_R) (f_M_finds : Int32 → Int32 → qm_M → Option qm_R) (s0 : Int32) (m : qm_M) : Option qm_R :=
  qe_rI (f_M_finds s0 (-1 : Int32) m) fun x1 m1 =>
  some (some (.int (m1.1 112 39)), m1)
set_option maxRecDepth 100000 in
theorem xg_M_moves_23 {kp : pm_K} {d : Nat} {f_M_isIn : Int64 → Int64 → Int64 → qm_M → Option qm_R} {f_M_finds : Int32 → Int32 → qm_M → Option qm_R} (hT : qe_G kp d (T_M_moves f_M_isIn f_M_finds)) (s0 : Int32) (m : qm_M) : qe_J kp md_M_moves d (X_M_moves_23 f_M_isIn f_M_finds s0 m) 23 [(0, .ref 112)] [.int s0, .ref 112] m := qe_run (B := []) (n := 1000) hT qe_B0 rfl
def L_M_moves_23 (s0 : Int32) (m : qm_M) : Option qm_R := X_M_moves_23 F_M_isIn F_M_finds s0 m
theorem lg_M_moves_23 {kp : pm_K} {d : Nat} (hT : qe_G kp d (T_M_moves F_M_isIn F_M_finds)) (s0 : Int32) (m : qm_M) : qe_J kp md_M_moves d (L_M_moves_23 s0 m) 23 [(0, .ref 112)] [.int s0, .ref 112] m := xg_M_moves_23 hT s0 m
def X_M_moves_e (f_M_isIn : Int64 → Int64 → Int64 → qm_M → Option qm_R) (f_M_finds : Int32 → Int32 → qm_M → Option qm_R) (l23 : Int32 → qm_M → Option qm_R) (v1 : Int32) (m : qm_M) : Option qm_R :=
  qe_rI (f_M_isIn (Int32.toInt64 v1) (0 : Int64) (1 : Int64) m) fun x1 m1 =>
  if x1 = 0 then
    some (some (.int (-1 : Int32)), m1)
  else
    if v1 = (1 : Int32) then
      l23 (1 : Int32) m1
    else
      l23 (0 : Int32) m1
set_option maxRecDepth 100000 in
theorem xg_M_moves_e {kp : pm_K} {d : Nat} {f_M_isIn : Int64 → Int64 → Int64 → qm_M → Option qm_R} {f_M_finds : Int32 → Int32 → qm_M → Option qm_R} {l23 : Int32 → qm_M → Option qm_R} (hT : qe_G kp d (T_M_moves f_M_isIn f_M_finds)) (h23 : ∀ (s0 : Int32) (m : qm_M), qe_J kp md_M_moves d (l23 s0 m) 23 [(0, .ref 112)] [.int s0, .ref 112] m) (v1 : Int32) (m : qm_M) : qe_J kp md_M_moves d (X_M_moves_e f_M_isIn f_M_finds l23 v1 m) 0 [(0, .ref 112), (1, .int v1)] [] m := qe_run (B := [(23, [0], qp_c_ic 112 112 l23)]) (n := 1000) hT (qe_B1 (qp_c_ic_ok h23) qe_B0) rfl
def F_M_moves (v1 : Int32) (m : qm_M) : Option qm_R := X_M_moves_e F_M_isIn F_M_finds (L_M_moves_23) v1 m
theorem fj_M_moves {kp : pm_K} {d : Nat} (hT : qe_G kp d (T_M_moves F_M_isIn F_M_finds)) (v1 : Int32) (m : qm_M) : qe_J kp md_M_moves d (F_M_moves v1 m) 0 [(0, .ref 112), (1, .int v1)] [] m := xg_M_moves_e hT (lg_M_moves_23 hT) v1 m
theorem fg_M_moves {kp : pm_K} (d : Nat) : qe_GE kp (d + 8) (307, 0, 11, 1, qw_ci 112 F_M_moves) := qe_entry (by decide +kernel) (qw_ci_ok (d := d + 7) rfl rfl (fj_M_moves (qe_G1 (fg_M_isIn (d + 6)) (qe_G1 (fg_M_finds (d + 0)) qe_G0))))
/-! TurnFieldModel.move(III)I -/
noncomputable def T_M_move (f_M_isIn : Int64 → Int64 → Int64 → qm_M → Option qm_R) (f_M_finds : Int32 → Int32 → qm_M → Option qm_R) : qe_T := [(185, 1, 0, 1, qw_lll f_M_isIn), (305, 0, 11, 1, qw_cii 112 f_M_finds)]
def X_M_move_39 (f_M_isIn : Int64 → Int64 → Int64 → qm_M → Option qm_R) (f_M_finds : Int32 → Int32 → qm_M → Option qm_R) (v2 : Int32) (v3 : Int32) (s0 : Int32) (m : qm_M) : Option qm_R :=
  qe_rI (f_M_finds s0 v2 m) fun x1 m1 =>
  if x1 = 0 then
    some (some (.int (-2 : Int32)), m1)
  else
    if v3 = (1 : Int32) then
      some (some (.int (m1.1 112 36)), m1)
    else
      if v3 = (2 : Int32) then
        some (some (.int (m1.1 112 37)), m1)
      else
        some (some (.int (m1.1 112 38)), m1)
set_option maxRecDepth 100000 in
theorem xg_M_move_39 {kp : pm_K} {d : Nat} {f_M_isIn : Int64 → Int64 → Int64 → qm_M → Option qm_R} {f_M_finds : Int32 → Int32 → qm_M → Option qm_R} (hT : qe_G kp d (T_M_move f_M_isIn f_M_finds)) (v2 : Int32) (v3 : Int32) (s0 : Int32) (m : qm_M) : qe_J kp md_M_move d (X_M_move_39 f_M_isIn f_M_finds v2 v3 s0 m) 39 [(0, .ref 112), (2, .int v2), (3, .int v3)] [.int s0, .ref 112] m := qe_run (B := []) (n := 1000) hT qe_B0 rfl
def L_M_move_39 (v2 : Int32) (v3 : Int32) (s0 : Int32) (m : qm_M) : Option qm_R := X_M_move_39 F_M_isIn F_M_finds v2 v3 s0 m
theorem lg_M_move_39 {kp : pm_K} {d : Nat} (hT : qe_G kp d (T_M_move F_M_isIn F_M_finds)) (v2 : Int32) (v3 : Int32) (s0 : Int32) (m : qm_M) : qe_J kp md_M_move d (L_M_move_39 v2 v3 s0 m) 39 [(0, .ref 112), (2, .int v2), (3, .int v3)] [.int s0, .ref 112] m := xg_M_move_39 hT v2 v3 s0 m
def X_M_move_e (f_M_isIn : Int64 → Int64 → Int64 → qm_M → Option qm_R) (f_M_finds : Int32 → Int32 → qm_M → Option qm_R) (l39 : Int32 → Int32 → Int32 → qm_M → Option qm_R) (v1 : Int32) (v2 : Int32) (v3 : Int32) (m : qm_M) : Option qm_R :=
  qe_rI (f_M_isIn (Int32.toInt64 v1) (0 : Int64) (1 : Int64) m) fun x1 m1 =>
  if x1 = 0 then
    some (some (.int (-1 : Int32)), m1)
  else
    if v2 < 0 then
      some (some (.int (-1 : Int32)), m1)
    else
      qe_rI (f_M_isIn (Int32.toInt64 v3) (1 : Int64) (3 : Int64) m1) fun x2 m2 =>
      if x2 = 0 then
        some (some (.int (-1 : Int32)), m2)
      else
        if v1 = (1 : Int32) then
          l39 v2 v3 (1 : Int32) m2
        else
          l39 v2 v3 (0 : Int32) m2
set_option maxRecDepth 100000 in
theorem xg_M_move_e {kp : pm_K} {d : Nat} {f_M_isIn : Int64 → Int64 → Int64 → qm_M → Option qm_R} {f_M_finds : Int32 → Int32 → qm_M → Option qm_R} {l39 : Int32 → Int32 → Int32 → qm_M → Option qm_R} (hT : qe_G kp d (T_M_move f_M_isIn f_M_finds)) (h39 : ∀ (v2 : Int32) (v3 : Int32) (s0 : Int32) (m : qm_M), qe_J kp md_M_move d (l39 v2 v3 s0 m) 39 [(0, .ref 112), (2, .int v2), (3, .int v3)] [.int s0, .ref 112] m) (v1 : Int32) (v2 : Int32) (v3 : Int32) (m : qm_M) : qe_J kp md_M_move d (X_M_move_e f_M_isIn f_M_finds l39 v1 v2 v3 m) 0 [(0, .ref 112), (1, .int v1), (2, .int v2), (3, .int v3)] [] m := qe_run (B := [(39, [0, 2, 3], qp_cii_ic 112 112 l39)]) (n := 1000) hT (qe_B1 (qp_cii_ic_ok h39) qe_B0) rfl
def F_M_move (v1 : Int32) (v2 : Int32) (v3 : Int32) (m : qm_M) : Option qm_R := X_M_move_e F_M_isIn F_M_finds (L_M_move_39) v1 v2 v3 m
theorem fj_M_move {kp : pm_K} {d : Nat} (hT : qe_G kp d (T_M_move F_M_isIn F_M_finds)) (v1 : Int32) (v2 : Int32) (v3 : Int32) (m : qm_M) : qe_J kp md_M_move d (F_M_move v1 v2 v3 m) 0 [(0, .ref 112), (1, .int v1), (2, .int v2), (3, .int v3)] [] m := xg_M_move_e hT (lg_M_move_39 hT) v1 v2 v3 m
theorem fg_M_move {kp : pm_K} (d : Nat) : qe_GE kp (d + 8) (308, 0, 11, 1, qw_ciii 112 F_M_move) := qe_entry (by decide +kernel) (qw_ciii_ok (d := d + 7) rfl rfl (fj_M_move (qe_G1 (fg_M_isIn (d + 6)) (qe_G1 (fg_M_finds (d + 0)) qe_G0))))
/-! TurnFieldModel.close(J)I -/
noncomputable def T_M_close (f_M_manyOf : Int32 → qm_M → Option qm_R) (f_M_place_III : Int32 → Int32 → qm_M → Option qm_R) (f_M_has : Int64 → Int32 → qm_M → Option qm_R) : qe_T := [(279, 0, 11, 1, qw_ci 112 f_M_manyOf), (290, 1, 0, 1, qw_ii f_M_place_III), (186, 1, 0, 1, qw_li f_M_has)]
def X_M_close_18 (f_M_manyOf : Int32 → qm_M → Option qm_R) (f_M_place_III : Int32 → Int32 → qm_M → Option qm_R) (f_M_has : Int64 → Int32 → qm_M → Option qm_R) (l5 : Int64 → Int32 → Int32 → qm_M → Option qm_R) (l18 : Int64 → Int32 → Int32 → Int32 → qm_M → Option qm_R) (v1 : Int64) (v3 : Int32) (v4 : Int32) (v5 : Int32) (m : qm_M) : Option qm_R :=
  qe_rI (f_M_manyOf (1 : Int32) m) fun x1 m1 =>
  if v5 < x1 then
    qe_rI (f_M_place_III v4 v5 m1) fun x2 m2 =>
    qe_rI (f_M_has v1 x2 m2) fun x3 m3 =>
    if x3 = 0 then
      l18 v1 v3 v4 (v5 + (1 : Int32)) m3
    else
      qe_rI (f_M_manyOf (1 : Int32) m3) fun x4 m4 =>
      let x5 : Int32 := (v3 ||| (qo_ishl (1 : Int32) ((x4 * v4) + v5)))
      l18 v1 x5 v4 (v5 + (1 : Int32)) m4
  else
    l5 v1 v3 (v4 + (1 : Int32)) m1
set_option maxRecDepth 100000 in
theorem xg_M_close_18 {kp : pm_K} {d : Nat} {f_M_manyOf : Int32 → qm_M → Option qm_R} {f_M_place_III : Int32 → Int32 → qm_M → Option qm_R} {f_M_has : Int64 → Int32 → qm_M → Option qm_R} {l5 : Int64 → Int32 → Int32 → qm_M → Option qm_R} {l18 : Int64 → Int32 → Int32 → Int32 → qm_M → Option qm_R} (hT : qe_G kp d (T_M_close f_M_manyOf f_M_place_III f_M_has)) (h5 : ∀ (v1 : Int64) (v3 : Int32) (v4 : Int32) (m : qm_M), qe_J kp md_M_close d (l5 v1 v3 v4 m) 5 [(0, .ref 112), (1, .long v1), (3, .int v3), (4, .int v4)] [] m) (h18 : ∀ (v1 : Int64) (v3 : Int32) (v4 : Int32) (v5 : Int32) (m : qm_M), qe_J kp md_M_close d (l18 v1 v3 v4 v5 m) 18 [(0, .ref 112), (1, .long v1), (3, .int v3), (4, .int v4), (5, .int v5)] [] m) (v1 : Int64) (v3 : Int32) (v4 : Int32) (v5 : Int32) (m : qm_M) : qe_J kp md_M_close d (X_M_close_18 f_M_manyOf f_M_place_III f_M_has l5 l18 v1 v3 v4 v5 m) 18 [(0, .ref 112), (1, .long v1), (3, .int v3), (4, .int v4), (5, .int v5)] [] m := qe_run (B := [(5, [0, 1, 3, 4], qp_clii_ 112 l5), (18, [0, 1, 3, 4, 5], qp_cliii_ 112 l18)]) (n := 1000) hT (qe_B1 (qp_clii__ok h5) (qe_B1 (qp_cliii__ok h18) qe_B0)) rfl
def L_M_close_18 (K5 : Int64 → Int32 → Int32 → qm_M → Option qm_R) : Nat → Int64 → Int32 → Int32 → Int32 → qm_M → Option qm_R
  | 0, _, _, _, _, _ => none
  | n + 1, v1, v3, v4, v5, m => X_M_close_18 F_M_manyOf F_M_place_III F_M_has K5 (L_M_close_18 K5 n) v1 v3 v4 v5 m
theorem lg_M_close_18 {kp : pm_K} {d : Nat} (hT : qe_G kp d (T_M_close F_M_manyOf F_M_place_III F_M_has)) {K5 : Int64 → Int32 → Int32 → qm_M → Option qm_R} (hK5 : ∀ (v1 : Int64) (v3 : Int32) (v4 : Int32) (m : qm_M), qe_J kp md_M_close d (K5 v1 v3 v4 m) 5 [(0, .ref 112), (1, .long v1), (3, .int v3), (4, .int v4)] [] m) : ∀ (n : Nat) (v1 : Int64) (v3 : Int32) (v4 : Int32) (v5 : Int32) (m : qm_M), qe_J kp md_M_close d (L_M_close_18 K5 n v1 v3 v4 v5 m) 18 [(0, .ref 112), (1, .long v1), (3, .int v3), (4, .int v4), (5, .int v5)] [] m
  | 0, v1, v3, v4, v5, m => qe_none rfl
  | n + 1, v1, v3, v4, v5, m => xg_M_close_18 hT hK5 (lg_M_close_18 hT hK5 n) v1 v3 v4 v5 m
def X_M_close_5 (f_M_manyOf : Int32 → qm_M → Option qm_R) (f_M_place_III : Int32 → Int32 → qm_M → Option qm_R) (f_M_has : Int64 → Int32 → qm_M → Option qm_R) (l18 : Int64 → Int32 → Int32 → Int32 → qm_M → Option qm_R) (v1 : Int64) (v3 : Int32) (v4 : Int32) (m : qm_M) : Option qm_R :=
  qe_rI (f_M_manyOf (0 : Int32) m) fun x1 m1 =>
  if v4 < x1 then
    l18 v1 v3 v4 (0 : Int32) m1
  else
    some (some (.int v3), m1)
set_option maxRecDepth 100000 in
theorem xg_M_close_5 {kp : pm_K} {d : Nat} {f_M_manyOf : Int32 → qm_M → Option qm_R} {f_M_place_III : Int32 → Int32 → qm_M → Option qm_R} {f_M_has : Int64 → Int32 → qm_M → Option qm_R} {l18 : Int64 → Int32 → Int32 → Int32 → qm_M → Option qm_R} (hT : qe_G kp d (T_M_close f_M_manyOf f_M_place_III f_M_has)) (h18 : ∀ (v1 : Int64) (v3 : Int32) (v4 : Int32) (v5 : Int32) (m : qm_M), qe_J kp md_M_close d (l18 v1 v3 v4 v5 m) 18 [(0, .ref 112), (1, .long v1), (3, .int v3), (4, .int v4), (5, .int v5)] [] m) (v1 : Int64) (v3 : Int32) (v4 : Int32) (m : qm_M) : qe_J kp md_M_close d (X_M_close_5 f_M_manyOf f_M_place_III f_M_has l18 v1 v3 v4 m) 5 [(0, .ref 112), (1, .long v1), (3, .int v3), (4, .int v4)] [] m := qe_run (B := [(18, [0, 1, 3, 4, 5], qp_cliii_ 112 l18)]) (n := 1000) hT (qe_B1 (qp_cliii__ok h18) qe_B0) rfl
def L_M_close_5 : Nat → Int64 → Int32 → Int32 → qm_M → Option qm_R
  | 0, _, _, _, _ => none
  | n + 1, v1, v3, v4, m => X_M_close_5 F_M_manyOf F_M_place_III F_M_has (L_M_close_18 (L_M_close_5 n) 1000000) v1 v3 v4 m
theorem lg_M_close_5 {kp : pm_K} {d : Nat} (hT : qe_G kp d (T_M_close F_M_manyOf F_M_place_III F_M_has)) : ∀ (n : Nat) (v1 : Int64) (v3 : Int32) (v4 : Int32) (m : qm_M), qe_J kp md_M_close d (L_M_close_5 n v1 v3 v4 m) 5 [(0, .ref 112), (1, .long v1), (3, .int v3), (4, .int v4)] [] m
  | 0, v1, v3, v4, m => qe_none rfl
  | n + 1, v1, v3, v4, m => xg_M_close_5 hT (lg_M_close_18 hT (lg_M_close_5 hT n) 1000000) v1 v3 v4 m
def X_M_close_e (f_M_manyOf : Int32 → qm_M → Option qm_R) (f_M_place_III : Int32 → Int32 → qm_M → Option qm_R) (f_M_has : Int64 → Int32 → qm_M → Option qm_R) (l5 : Int64 → Int32 → Int32 → qm_M → Option qm_R) (v1 : Int64) (m : qm_M) : Option qm_R :=
  l5 v1 (0 : Int32) (0 : Int32) m
set_option maxRecDepth 100000 in
theorem xg_M_close_e {kp : pm_K} {d : Nat} {f_M_manyOf : Int32 → qm_M → Option qm_R} {f_M_place_III : Int32 → Int32 → qm_M → Option qm_R} {f_M_has : Int64 → Int32 → qm_M → Option qm_R} {l5 : Int64 → Int32 → Int32 → qm_M → Option qm_R} (hT : qe_G kp d (T_M_close f_M_manyOf f_M_place_III f_M_has)) (h5 : ∀ (v1 : Int64) (v3 : Int32) (v4 : Int32) (m : qm_M), qe_J kp md_M_close d (l5 v1 v3 v4 m) 5 [(0, .ref 112), (1, .long v1), (3, .int v3), (4, .int v4)] [] m) (v1 : Int64) (m : qm_M) : qe_J kp md_M_close d (X_M_close_e f_M_manyOf f_M_place_III f_M_has l5 v1 m) 0 [(0, .ref 112), (1, .long v1)] [] m := qe_run (B := [(5, [0, 1, 3, 4], qp_clii_ 112 l5)]) (n := 1000) hT (qe_B1 (qp_clii__ok h5) qe_B0) rfl
def F_M_close (v1 : Int64) (m : qm_M) : Option qm_R := X_M_close_e F_M_manyOf F_M_place_III F_M_has (L_M_close_5 1000000) v1 m
theorem fj_M_close {kp : pm_K} {d : Nat} (hT : qe_G kp d (T_M_close F_M_manyOf F_M_place_III F_M_has)) (v1 : Int64) (m : qm_M) : qe_J kp md_M_close d (F_M_close v1 m) 0 [(0, .ref 112), (1, .long v1)] [] m := xg_M_close_e hT (lg_M_close_5 hT 1000000) v1 m
theorem fg_M_close {kp : pm_K} (d : Nat) : qe_GE kp (d + 2) (309, 0, 11, 1, qw_cl 112 F_M_close) := qe_entry (by decide +kernel) (qw_cl_ok (d := d + 1) rfl rfl (fj_M_close (qe_G1 (fg_M_manyOf (d + 0)) (qe_G1 (fg_M_place_III (d + 0)) (qe_G1 (fg_M_has (d + 0)) qe_G0)))))
/-! TurnFieldModel.laysMoves()V -/
noncomputable def T_M_laysMoves (f_M_manyOf : Int32 → qm_M → Option qm_R) (f_M_maySet : Int32 → Int32 → qm_M → Option qm_R) (f_M_cellsOf : Int32 → Int32 → qm_M → Option qm_R) (f_M_close : Int64 → qm_M → Option qm_R) : qe_T := [(279, 0, 11, 1, qw_ci 112 f_M_manyOf), (283, 0, 11, 1, qw_cii 112 f_M_maySet), (293, 1, 0, 2, qw_ii f_M_cellsOf), (309, 0, 11, 1, qw_cl 112 f_M_close)]
def X_M_laysMoves_62 (f_M_manyOf : Int32 → qm_M → Option qm_R) (f_M_maySet : Int32 → Int32 → qm_M → Option qm_R) (f_M_cellsOf : Int32 → Int32 → qm_M → Option qm_R) (f_M_close : Int64 → qm_M → Option qm_R) (l48 : Int32 → Int32 → Int32 → Int32 → Int32 → qm_M → Option qm_R) (l62 : Int32 → Int32 → Int32 → Int32 → Int32 → Int32 → qm_M → Option qm_R) (v1 : Int32) (v2 : Int32) (v3 : Int32) (v4 : Int32) (v5 : Int32) (v6 : Int32) (m : qm_M) : Option qm_R :=
  if v6 < (qo_ishl (2 : Int32) v4) then
    qe_rI (f_M_maySet (0 : Int32) v5 m) fun x1 m1 =>
    if x1 = 0 then
      l62 v1 v2 v3 v4 v5 (v6 + (1 : Int32)) m1
    else
      qe_rI (f_M_maySet (1 : Int32) v6 m1) fun x2 m2 =>
      if x2 = 0 then
        l62 v1 v2 v3 v4 v5 (v6 + (1 : Int32)) m2
      else
        qe_rL (f_M_cellsOf v5 v6 m2) fun x3 m3 =>
        qe_rI (f_M_close x3 m3) fun x4 m4 =>
        qe_b (qm_in v1 4096) (
        let m5 : qm_M := qm_sI m4 140 (Int32.toNatClampNeg v1) x4
        l62 (v1 + (1 : Int32)) v2 v3 v4 v5 (v6 + (1 : Int32)) m5)
  else
    l48 v1 v2 v3 v4 (v5 + (1 : Int32)) m
set_option maxRecDepth 100000 in
theorem xg_M_laysMoves_62 {kp : pm_K} {d : Nat} {f_M_manyOf : Int32 → qm_M → Option qm_R} {f_M_maySet : Int32 → Int32 → qm_M → Option qm_R} {f_M_cellsOf : Int32 → Int32 → qm_M → Option qm_R} {f_M_close : Int64 → qm_M → Option qm_R} {l48 : Int32 → Int32 → Int32 → Int32 → Int32 → qm_M → Option qm_R} {l62 : Int32 → Int32 → Int32 → Int32 → Int32 → Int32 → qm_M → Option qm_R} (hT : qe_G kp d (T_M_laysMoves f_M_manyOf f_M_maySet f_M_cellsOf f_M_close)) (h48 : ∀ (v1 : Int32) (v2 : Int32) (v3 : Int32) (v4 : Int32) (v5 : Int32) (m : qm_M), qe_J kp md_M_laysMoves d (l48 v1 v2 v3 v4 v5 m) 48 [(0, .ref 112), (1, .int v1), (2, .int v2), (3, .int v3), (4, .int v4), (5, .int v5)] [] m) (h62 : ∀ (v1 : Int32) (v2 : Int32) (v3 : Int32) (v4 : Int32) (v5 : Int32) (v6 : Int32) (m : qm_M), qe_J kp md_M_laysMoves d (l62 v1 v2 v3 v4 v5 v6 m) 62 [(0, .ref 112), (1, .int v1), (2, .int v2), (3, .int v3), (4, .int v4), (5, .int v5), (6, .int v6)] [] m) (v1 : Int32) (v2 : Int32) (v3 : Int32) (v4 : Int32) (v5 : Int32) (v6 : Int32) (m : qm_M) : qe_J kp md_M_laysMoves d (X_M_laysMoves_62 f_M_manyOf f_M_maySet f_M_cellsOf f_M_close l48 l62 v1 v2 v3 v4 v5 v6 m) 62 [(0, .ref 112), (1, .int v1), (2, .int v2), (3, .int v3), (4, .int v4), (5, .int v5), (6, .int v6)] [] m := qe_run (B := [(48, [0, 1, 2, 3, 4, 5], qp_ciiiii_ 112 l48), (62, [0, 1, 2, 3, 4, 5, 6], qp_ciiiiii_ 112 l62)]) (n := 1000) hT (qe_B1 (qp_ciiiii__ok h48) (qe_B1 (qp_ciiiiii__ok h62) qe_B0)) rfl
def L_M_laysMoves_62 (K4 : Int32 → Int32 → qm_M → Option qm_R) (K48 : Int32 → Int32 → Int32 → Int32 → Int32 → qm_M → Option qm_R) : Nat → Int32 → Int32 → Int32 → Int32 → Int32 → Int32 → qm_M → Option qm_R
  | 0, _, _, _, _, _, _, _ => none
  | n + 1, v1, v2, v3, v4, v5, v6, m => X_M_laysMoves_62 F_M_manyOf F_M_maySet F_M_cellsOf F_M_close K48 (L_M_laysMoves_62 K4 K48 n) v1 v2 v3 v4 v5 v6 m
theorem lg_M_laysMoves_62 {kp : pm_K} {d : Nat} (hT : qe_G kp d (T_M_laysMoves F_M_manyOf F_M_maySet F_M_cellsOf F_M_close)) {K4 : Int32 → Int32 → qm_M → Option qm_R} (hK4 : ∀ (v1 : Int32) (v2 : Int32) (m : qm_M), qe_J kp md_M_laysMoves d (K4 v1 v2 m) 4 [(0, .ref 112), (1, .int v1), (2, .int v2)] [] m) {K48 : Int32 → Int32 → Int32 → Int32 → Int32 → qm_M → Option qm_R} (hK48 : ∀ (v1 : Int32) (v2 : Int32) (v3 : Int32) (v4 : Int32) (v5 : Int32) (m : qm_M), qe_J kp md_M_laysMoves d (K48 v1 v2 v3 v4 v5 m) 48 [(0, .ref 112), (1, .int v1), (2, .int v2), (3, .int v3), (4, .int v4), (5, .int v5)] [] m) : ∀ (n : Nat) (v1 : Int32) (v2 : Int32) (v3 : Int32) (v4 : Int32) (v5 : Int32) (v6 : Int32) (m : qm_M), qe_J kp md_M_laysMoves d (L_M_laysMoves_62 K4 K48 n v1 v2 v3 v4 v5 v6 m) 62 [(0, .ref 112), (1, .int v1), (2, .int v2), (3, .int v3), (4, .int v4), (5, .int v5), (6, .int v6)] [] m
  | 0, v1, v2, v3, v4, v5, v6, m => qe_none rfl
  | n + 1, v1, v2, v3, v4, v5, v6, m => xg_M_laysMoves_62 hT hK48 (lg_M_laysMoves_62 hT hK4 hK48 n) v1 v2 v3 v4 v5 v6 m
def X_M_laysMoves_48 (f_M_manyOf : Int32 → qm_M → Option qm_R) (f_M_maySet : Int32 → Int32 → qm_M → Option qm_R) (f_M_cellsOf : Int32 → Int32 → qm_M → Option qm_R) (f_M_close : Int64 → qm_M → Option qm_R) (l4 : Int32 → Int32 → qm_M → Option qm_R) (l62 : Int32 → Int32 → Int32 → Int32 → Int32 → Int32 → qm_M → Option qm_R) (v1 : Int32) (v2 : Int32) (v3 : Int32) (v4 : Int32) (v5 : Int32) (m : qm_M) : Option qm_R :=
  if v5 < (qo_ishl (2 : Int32) v3) then
    l62 v1 v2 v3 v4 v5 (qo_ishl (1 : Int32) v4) m
  else
    qe_b (qm_in (v2 + (1 : Int32)) 13) (
    let m1 : qm_M := qm_sI m 139 (Int32.toNatClampNeg (v2 + (1 : Int32))) v1
    l4 v1 (v2 + (1 : Int32)) m1)
set_option maxRecDepth 100000 in
theorem xg_M_laysMoves_48 {kp : pm_K} {d : Nat} {f_M_manyOf : Int32 → qm_M → Option qm_R} {f_M_maySet : Int32 → Int32 → qm_M → Option qm_R} {f_M_cellsOf : Int32 → Int32 → qm_M → Option qm_R} {f_M_close : Int64 → qm_M → Option qm_R} {l4 : Int32 → Int32 → qm_M → Option qm_R} {l62 : Int32 → Int32 → Int32 → Int32 → Int32 → Int32 → qm_M → Option qm_R} (hT : qe_G kp d (T_M_laysMoves f_M_manyOf f_M_maySet f_M_cellsOf f_M_close)) (h4 : ∀ (v1 : Int32) (v2 : Int32) (m : qm_M), qe_J kp md_M_laysMoves d (l4 v1 v2 m) 4 [(0, .ref 112), (1, .int v1), (2, .int v2)] [] m) (h62 : ∀ (v1 : Int32) (v2 : Int32) (v3 : Int32) (v4 : Int32) (v5 : Int32) (v6 : Int32) (m : qm_M), qe_J kp md_M_laysMoves d (l62 v1 v2 v3 v4 v5 v6 m) 62 [(0, .ref 112), (1, .int v1), (2, .int v2), (3, .int v3), (4, .int v4), (5, .int v5), (6, .int v6)] [] m) (v1 : Int32) (v2 : Int32) (v3 : Int32) (v4 : Int32) (v5 : Int32) (m : qm_M) : qe_J kp md_M_laysMoves d (X_M_laysMoves_48 f_M_manyOf f_M_maySet f_M_cellsOf f_M_close l4 l62 v1 v2 v3 v4 v5 m) 48 [(0, .ref 112), (1, .int v1), (2, .int v2), (3, .int v3), (4, .int v4), (5, .int v5)] [] m := qe_run (B := [(4, [0, 1, 2], qp_cii_ 112 l4), (62, [0, 1, 2, 3, 4, 5, 6], qp_ciiiiii_ 112 l62)]) (n := 1000) hT (qe_B1 (qp_cii__ok h4) (qe_B1 (qp_ciiiiii__ok h62) qe_B0)) rfl
def L_M_laysMoves_48 (K4 : Int32 → Int32 → qm_M → Option qm_R) : Nat → Int32 → Int32 → Int32 → Int32 → Int32 → qm_M → Option qm_R
  | 0, _, _, _, _, _, _ => none
  | n + 1, v1, v2, v3, v4, v5, m => X_M_laysMoves_48 F_M_manyOf F_M_maySet F_M_cellsOf F_M_close K4 (L_M_laysMoves_62 K4 (L_M_laysMoves_48 K4 n) 1000000) v1 v2 v3 v4 v5 m
theorem lg_M_laysMoves_48 {kp : pm_K} {d : Nat} (hT : qe_G kp d (T_M_laysMoves F_M_manyOf F_M_maySet F_M_cellsOf F_M_close)) {K4 : Int32 → Int32 → qm_M → Option qm_R} (hK4 : ∀ (v1 : Int32) (v2 : Int32) (m : qm_M), qe_J kp md_M_laysMoves d (K4 v1 v2 m) 4 [(0, .ref 112), (1, .int v1), (2, .int v2)] [] m) : ∀ (n : Nat) (v1 : Int32) (v2 : Int32) (v3 : Int32) (v4 : Int32) (v5 : Int32) (m : qm_M), qe_J kp md_M_laysMoves d (L_M_laysMoves_48 K4 n v1 v2 v3 v4 v5 m) 48 [(0, .ref 112), (1, .int v1), (2, .int v2), (3, .int v3), (4, .int v4), (5, .int v5)] [] m
  | 0, v1, v2, v3, v4, v5, m => qe_none rfl
  | n + 1, v1, v2, v3, v4, v5, m => xg_M_laysMoves_48 hT hK4 (lg_M_laysMoves_62 hT hK4 (lg_M_laysMoves_48 hT hK4 n) 1000000) v1 v2 v3 v4 v5 m
def X_M_laysMoves_4 (f_M_manyOf : Int32 → qm_M → Option qm_R) (f_M_maySet : Int32 → Int32 → qm_M → Option qm_R) (f_M_cellsOf : Int32 → Int32 → qm_M → Option qm_R) (f_M_close : Int64 → qm_M → Option qm_R) (l48 : Int32 → Int32 → Int32 → Int32 → Int32 → qm_M → Option qm_R) (v1 : Int32) (v2 : Int32) (m : qm_M) : Option qm_R :=
  qe_rI (f_M_manyOf (0 : Int32) m) fun x1 m1 =>
  qe_rI (f_M_manyOf (1 : Int32) m1) fun x2 m2 =>
  if v2 < (x1 * x2) then
    qe_b (qm_in v2 13) (
    let m3 : qm_M := qm_sI m2 139 (Int32.toNatClampNeg v2) v1
    qe_rI (f_M_manyOf (1 : Int32) m3) fun x3 m4 =>
    qe_b (!decide (x3 = 0)) (
    qe_rI (f_M_manyOf (1 : Int32) m4) fun x4 m5 =>
    qe_b (!decide (x4 = 0)) (
    l48 v1 v2 (v2 / x3) (qo_irem v2 x4) (qo_ishl (1 : Int32) (v2 / x3)) m5)))
  else
    some (none, m2)
set_option maxRecDepth 100000 in
theorem xg_M_laysMoves_4 {kp : pm_K} {d : Nat} {f_M_manyOf : Int32 → qm_M → Option qm_R} {f_M_maySet : Int32 → Int32 → qm_M → Option qm_R} {f_M_cellsOf : Int32 → Int32 → qm_M → Option qm_R} {f_M_close : Int64 → qm_M → Option qm_R} {l48 : Int32 → Int32 → Int32 → Int32 → Int32 → qm_M → Option qm_R} (hT : qe_G kp d (T_M_laysMoves f_M_manyOf f_M_maySet f_M_cellsOf f_M_close)) (h48 : ∀ (v1 : Int32) (v2 : Int32) (v3 : Int32) (v4 : Int32) (v5 : Int32) (m : qm_M), qe_J kp md_M_laysMoves d (l48 v1 v2 v3 v4 v5 m) 48 [(0, .ref 112), (1, .int v1), (2, .int v2), (3, .int v3), (4, .int v4), (5, .int v5)] [] m) (v1 : Int32) (v2 : Int32) (m : qm_M) : qe_J kp md_M_laysMoves d (X_M_laysMoves_4 f_M_manyOf f_M_maySet f_M_cellsOf f_M_close l48 v1 v2 m) 4 [(0, .ref 112), (1, .int v1), (2, .int v2)] [] m := qe_run (B := [(48, [0, 1, 2, 3, 4, 5], qp_ciiiii_ 112 l48)]) (n := 1000) hT (qe_B1 (qp_ciiiii__ok h48) qe_B0) rfl
def L_M_laysMoves_4 : Nat → Int32 → Int32 → qm_M → Option qm_R
  | 0, _, _, _ => none
  | n + 1, v1, v2, m => X_M_laysMoves_4 F_M_manyOf F_M_maySet F_M_cellsOf F_M_close (L_M_laysMoves_48 (L_M_laysMoves_4 n) 1000000) v1 v2 m
theorem lg_M_laysMoves_4 {kp : pm_K} {d : Nat} (hT : qe_G kp d (T_M_laysMoves F_M_manyOf F_M_maySet F_M_cellsOf F_M_close)) : ∀ (n : Nat) (v1 : Int32) (v2 : Int32) (m : qm_M), qe_J kp md_M_laysMoves d (L_M_laysMoves_4 n v1 v2 m) 4 [(0, .ref 112), (1, .int v1), (2, .int v2)] [] m
  | 0, v1, v2, m => qe_none rfl
  | n + 1, v1, v2, m => xg_M_laysMoves_4 hT (lg_M_laysMoves_48 hT (lg_M_laysMoves_4 hT n) 1000000) v1 v2 m
def X_M_laysMoves_e (f_M_manyOf : Int32 → qm_M → Option qm_R) (f_M_maySet : Int32 → Int32 → qm_M → Option qm_R) (f_M_cellsOf : Int32 → Int32 → qm_M → Option qm_R) (f_M_close : Int64 → qm_M → Option qm_R) (l4 : Int32 → Int32 → qm_M → Option qm_R)  (m : qm_M) : Option qm_R :=
  l4 (0 : Int32) (0 : Int32) m
set_option maxRecDepth 100000 in
theorem xg_M_laysMoves_e {kp : pm_K} {d : Nat} {f_M_manyOf : Int32 → qm_M → Option qm_R} {f_M_maySet : Int32 → Int32 → qm_M → Option qm_R} {f_M_cellsOf : Int32 → Int32 → qm_M → Option qm_R} {f_M_close : Int64 → qm_M → Option qm_R} {l4 : Int32 → Int32 → qm_M → Option qm_R} (hT : qe_G kp d (T_M_laysMoves f_M_manyOf f_M_maySet f_M_cellsOf f_M_close)) (h4 : ∀ (v1 : Int32) (v2 : Int32) (m : qm_M), qe_J kp md_M_laysMoves d (l4 v1 v2 m) 4 [(0, .ref 112), (1, .int v1), (2, .int v2)] [] m) (m : qm_M) : qe_J kp md_M_laysMoves d (X_M_laysMoves_e f_M_manyOf f_M_maySet f_M_cellsOf f_M_close l4 m) 0 [(0, .ref 112)] [] m := qe_run (B := [(4, [0, 1, 2], qp_cii_ 112 l4)]) (n := 1000) hT (qe_B1 (qp_cii__ok h4) qe_B0) rfl
def F_M_laysMoves (m : qm_M) : Option qm_R := X_M_laysMoves_e F_M_manyOf F_M_maySet F_M_cellsOf F_M_close (L_M_laysMoves_4 1000000) m
theorem fj_M_laysMoves {kp : pm_K} {d : Nat} (hT : qe_G kp d (T_M_laysMoves F_M_manyOf F_M_maySet F_M_cellsOf F_M_close)) (m : qm_M) : qe_J kp md_M_laysMoves d (F_M_laysMoves m) 0 [(0, .ref 112)] [] m := xg_M_laysMoves_e hT (lg_M_laysMoves_4 hT 1000000) m
theorem fg_M_laysMoves {kp : pm_K} (d : Nat) : qe_GE kp (d + 4) (310, 0, 11, 0, qw_c 112 F_M_laysMoves) := qe_entry (by decide +kernel) (qw_c_ok (d := d + 3) rfl rfl (fj_M_laysMoves (qe_G1 (fg_M_manyOf (d + 2)) (qe_G1 (fg_M_maySet (d + 0)) (qe_G1 (fg_M_cellsOf (d + 2)) (qe_G1 (fg_M_close (d + 1)) qe_G0))))))
/-! TurnFieldModel.laysGame(I)V -/
noncomputable def T_M_laysGame (f_M_manyOf : Int32 → qm_M → Option qm_R) : qe_T := [(279, 0, 11, 1, qw_ci 112 f_M_manyOf)]
def X_M_laysGame_114 (f_M_manyOf : Int32 → qm_M → Option qm_R) (l47 : Int32 → Int32 → Int32 → Int32 → Int32 → Int32 → qm_M → Option qm_R) (v1 : Int32) (v2 : Int32) (v3 : Int32) (v4 : Int32) (v5 : Int32) (v6 : Int32) (v8 : Int32) (m : qm_M) : Option qm_R :=
  if v3 < v8 then
    l47 v1 v2 v8 v4 v5 (v6 + (1 : Int32)) m
  else
    l47 v1 v2 v3 v4 v5 (v6 + (1 : Int32)) m
set_option maxRecDepth 100000 in
theorem xg_M_laysGame_114 {kp : pm_K} {d : Nat} {f_M_manyOf : Int32 → qm_M → Option qm_R} {l47 : Int32 → Int32 → Int32 → Int32 → Int32 → Int32 → qm_M → Option qm_R} (hT : qe_G kp d (T_M_laysGame f_M_manyOf)) (h47 : ∀ (v1 : Int32) (v2 : Int32) (v3 : Int32) (v4 : Int32) (v5 : Int32) (v6 : Int32) (m : qm_M), qe_J kp md_M_laysGame d (l47 v1 v2 v3 v4 v5 v6 m) 47 [(0, .ref 112), (1, .int v1), (2, .int v2), (3, .int v3), (4, .int v4), (5, .int v5), (6, .int v6)] [] m) (v1 : Int32) (v2 : Int32) (v3 : Int32) (v4 : Int32) (v5 : Int32) (v6 : Int32) (v8 : Int32) (m : qm_M) : qe_J kp md_M_laysGame d (X_M_laysGame_114 f_M_manyOf l47 v1 v2 v3 v4 v5 v6 v8 m) 114 [(0, .ref 112), (1, .int v1), (2, .int v2), (3, .int v3), (4, .int v4), (5, .int v5), (6, .int v6), (8, .int v8)] [] m := qe_run (B := [(47, [0, 1, 2, 3, 4, 5, 6], qp_ciiiiii_ 112 l47)]) (n := 1000) hT (qe_B1 (qp_ciiiiii__ok h47) qe_B0) rfl
def L_M_laysGame_114 (K10 : Int32 → Int32 → Int32 → Int32 → Int32 → qm_M → Option qm_R) (K47 : Int32 → Int32 → Int32 → Int32 → Int32 → Int32 → qm_M → Option qm_R) (v1 : Int32) (v2 : Int32) (v3 : Int32) (v4 : Int32) (v5 : Int32) (v6 : Int32) (v8 : Int32) (m : qm_M) : Option qm_R := X_M_laysGame_114 F_M_manyOf K47 v1 v2 v3 v4 v5 v6 v8 m
theorem lg_M_laysGame_114 {kp : pm_K} {d : Nat} (hT : qe_G kp d (T_M_laysGame F_M_manyOf)) {K10 : Int32 → Int32 → Int32 → Int32 → Int32 → qm_M → Option qm_R} (hK10 : ∀ (v1 : Int32) (v2 : Int32) (v3 : Int32) (v4 : Int32) (v5 : Int32) (m : qm_M), qe_J kp md_M_laysGame d (K10 v1 v2 v3 v4 v5 m) 10 [(0, .ref 112), (1, .int v1), (2, .int v2), (3, .int v3), (4, .int v4), (5, .int v5)] [] m) {K47 : Int32 → Int32 → Int32 → Int32 → Int32 → Int32 → qm_M → Option qm_R} (hK47 : ∀ (v1 : Int32) (v2 : Int32) (v3 : Int32) (v4 : Int32) (v5 : Int32) (v6 : Int32) (m : qm_M), qe_J kp md_M_laysGame d (K47 v1 v2 v3 v4 v5 v6 m) 47 [(0, .ref 112), (1, .int v1), (2, .int v2), (3, .int v3), (4, .int v4), (5, .int v5), (6, .int v6)] [] m) (v1 : Int32) (v2 : Int32) (v3 : Int32) (v4 : Int32) (v5 : Int32) (v6 : Int32) (v8 : Int32) (m : qm_M) : qe_J kp md_M_laysGame d (L_M_laysGame_114 K10 K47 v1 v2 v3 v4 v5 v6 v8 m) 114 [(0, .ref 112), (1, .int v1), (2, .int v2), (3, .int v3), (4, .int v4), (5, .int v5), (6, .int v6), (8, .int v8)] [] m := xg_M_laysGame_114 hT hK47 v1 v2 v3 v4 v5 v6 v8 m
def X_M_laysGame_47 (f_M_manyOf : Int32 → qm_M → Option qm_R) (l10 : Int32 → Int32 → Int32 → Int32 → Int32 → qm_M → Option qm_R) (l114 : Int32 → Int32 → Int32 → Int32 → Int32 → Int32 → Int32 → qm_M → Option qm_R) (v1 : Int32) (v2 : Int32) (v3 : Int32) (v4 : Int32) (v5 : Int32) (v6 : Int32) (m : qm_M) : Option qm_R :=
  qe_b (qm_in (v5 + (1 : Int32)) 13) (
  if v6 < (m.1 139 (Int32.toNatClampNeg (v5 + (1 : Int32)))) then
    qe_b (qm_in v6 4096) (
    let x1 : Int32 := (v1 ^^^ (m.1 140 (Int32.toNatClampNeg v6)))
    qe_b (qm_in x1 4096) (
    let x2 : Int32 := ((1 : Int32) + (m.1 138 (Int32.toNatClampNeg x1)))
    qe_b (qm_in x1 4096) (
    if (m.1 137 (Int32.toNatClampNeg x1)) = 0 then
      if v4 = 0 then
        l114 v1 x2 v3 (1 : Int32) v5 v6 x2 m
      else
        if x2 < v2 then
          l114 v1 x2 v3 (1 : Int32) v5 v6 x2 m
        else
          l114 v1 v2 v3 (1 : Int32) v5 v6 x2 m
    else
      l114 v1 v2 v3 v4 v5 v6 x2 m)))
  else
    l10 v1 v2 v3 v4 (v5 + (1 : Int32)) m)
set_option maxRecDepth 100000 in
theorem xg_M_laysGame_47 {kp : pm_K} {d : Nat} {f_M_manyOf : Int32 → qm_M → Option qm_R} {l10 : Int32 → Int32 → Int32 → Int32 → Int32 → qm_M → Option qm_R} {l114 : Int32 → Int32 → Int32 → Int32 → Int32 → Int32 → Int32 → qm_M → Option qm_R} (hT : qe_G kp d (T_M_laysGame f_M_manyOf)) (h10 : ∀ (v1 : Int32) (v2 : Int32) (v3 : Int32) (v4 : Int32) (v5 : Int32) (m : qm_M), qe_J kp md_M_laysGame d (l10 v1 v2 v3 v4 v5 m) 10 [(0, .ref 112), (1, .int v1), (2, .int v2), (3, .int v3), (4, .int v4), (5, .int v5)] [] m) (h114 : ∀ (v1 : Int32) (v2 : Int32) (v3 : Int32) (v4 : Int32) (v5 : Int32) (v6 : Int32) (v8 : Int32) (m : qm_M), qe_J kp md_M_laysGame d (l114 v1 v2 v3 v4 v5 v6 v8 m) 114 [(0, .ref 112), (1, .int v1), (2, .int v2), (3, .int v3), (4, .int v4), (5, .int v5), (6, .int v6), (8, .int v8)] [] m) (v1 : Int32) (v2 : Int32) (v3 : Int32) (v4 : Int32) (v5 : Int32) (v6 : Int32) (m : qm_M) : qe_J kp md_M_laysGame d (X_M_laysGame_47 f_M_manyOf l10 l114 v1 v2 v3 v4 v5 v6 m) 47 [(0, .ref 112), (1, .int v1), (2, .int v2), (3, .int v3), (4, .int v4), (5, .int v5), (6, .int v6)] [] m := qe_run (B := [(10, [0, 1, 2, 3, 4, 5], qp_ciiiii_ 112 l10), (114, [0, 1, 2, 3, 4, 5, 6, 8], qp_ciiiiiii_ 112 l114)]) (n := 1000) hT (qe_B1 (qp_ciiiii__ok h10) (qe_B1 (qp_ciiiiiii__ok h114) qe_B0)) rfl
def L_M_laysGame_47 (K10 : Int32 → Int32 → Int32 → Int32 → Int32 → qm_M → Option qm_R) : Nat → Int32 → Int32 → Int32 → Int32 → Int32 → Int32 → qm_M → Option qm_R
  | 0, _, _, _, _, _, _, _ => none
  | n + 1, v1, v2, v3, v4, v5, v6, m => X_M_laysGame_47 F_M_manyOf K10 (L_M_laysGame_114 K10 (L_M_laysGame_47 K10 n)) v1 v2 v3 v4 v5 v6 m
theorem lg_M_laysGame_47 {kp : pm_K} {d : Nat} (hT : qe_G kp d (T_M_laysGame F_M_manyOf)) {K10 : Int32 → Int32 → Int32 → Int32 → Int32 → qm_M → Option qm_R} (hK10 : ∀ (v1 : Int32) (v2 : Int32) (v3 : Int32) (v4 : Int32) (v5 : Int32) (m : qm_M), qe_J kp md_M_laysGame d (K10 v1 v2 v3 v4 v5 m) 10 [(0, .ref 112), (1, .int v1), (2, .int v2), (3, .int v3), (4, .int v4), (5, .int v5)] [] m) : ∀ (n : Nat) (v1 : Int32) (v2 : Int32) (v3 : Int32) (v4 : Int32) (v5 : Int32) (v6 : Int32) (m : qm_M), qe_J kp md_M_laysGame d (L_M_laysGame_47 K10 n v1 v2 v3 v4 v5 v6 m) 47 [(0, .ref 112), (1, .int v1), (2, .int v2), (3, .int v3), (4, .int v4), (5, .int v5), (6, .int v6)] [] m
  | 0, v1, v2, v3, v4, v5, v6, m => qe_none rfl
  | n + 1, v1, v2, v3, v4, v5, v6, m => xg_M_laysGame_47 hT hK10 (lg_M_laysGame_114 hT hK10 (lg_M_laysGame_47 hT hK10 n)) v1 v2 v3 v4 v5 v6 m
def X_M_laysGame_10 (f_M_manyOf : Int32 → qm_M → Option qm_R) (l10 : Int32 → Int32 → Int32 → Int32 → Int32 → qm_M → Option qm_R) (l47 : Int32 → Int32 → Int32 → Int32 → Int32 → Int32 → qm_M → Option qm_R) (v1 : Int32) (v2 : Int32) (v3 : Int32) (v4 : Int32) (v5 : Int32) (m : qm_M) : Option qm_R :=
  qe_rI (f_M_manyOf (0 : Int32) m) fun x1 m1 =>
  qe_rI (f_M_manyOf (1 : Int32) m1) fun x2 m2 =>
  if v5 < (x1 * x2) then
    if ((qo_ishr v1 v5) &&& (1 : Int32)) = 0 then
      l10 v1 v2 v3 v4 (v5 + (1 : Int32)) m2
    else
      qe_b (qm_in v5 13) (
      l47 v1 v2 v3 v4 v5 (m2.1 139 (Int32.toNatClampNeg v5)) m2)
  else
    qe_b (qm_in v1 4096) (
    let m3 : qm_M := qm_sI m2 137 (Int32.toNatClampNeg v1) (v4 &&& 1)
    if v4 = 0 then
      qe_b (qm_in v1 4096) (
      let m4 : qm_M := qm_sI m3 138 (Int32.toNatClampNeg v1) v3
      some (none, m4))
    else
      qe_b (qm_in v1 4096) (
      let m5 : qm_M := qm_sI m3 138 (Int32.toNatClampNeg v1) v2
      some (none, m5)))
set_option maxRecDepth 100000 in
theorem xg_M_laysGame_10 {kp : pm_K} {d : Nat} {f_M_manyOf : Int32 → qm_M → Option qm_R} {l10 : Int32 → Int32 → Int32 → Int32 → Int32 → qm_M → Option qm_R} {l47 : Int32 → Int32 → Int32 → Int32 → Int32 → Int32 → qm_M → Option qm_R} (hT : qe_G kp d (T_M_laysGame f_M_manyOf)) (h10 : ∀ (v1 : Int32) (v2 : Int32) (v3 : Int32) (v4 : Int32) (v5 : Int32) (m : qm_M), qe_J kp md_M_laysGame d (l10 v1 v2 v3 v4 v5 m) 10 [(0, .ref 112), (1, .int v1), (2, .int v2), (3, .int v3), (4, .int v4), (5, .int v5)] [] m) (h47 : ∀ (v1 : Int32) (v2 : Int32) (v3 : Int32) (v4 : Int32) (v5 : Int32) (v6 : Int32) (m : qm_M), qe_J kp md_M_laysGame d (l47 v1 v2 v3 v4 v5 v6 m) 47 [(0, .ref 112), (1, .int v1), (2, .int v2), (3, .int v3), (4, .int v4), (5, .int v5), (6, .int v6)] [] m) (v1 : Int32) (v2 : Int32) (v3 : Int32) (v4 : Int32) (v5 : Int32) (m : qm_M) : qe_J kp md_M_laysGame d (X_M_laysGame_10 f_M_manyOf l10 l47 v1 v2 v3 v4 v5 m) 10 [(0, .ref 112), (1, .int v1), (2, .int v2), (3, .int v3), (4, .int v4), (5, .int v5)] [] m := qe_run (B := [(10, [0, 1, 2, 3, 4, 5], qp_ciiiii_ 112 l10), (47, [0, 1, 2, 3, 4, 5, 6], qp_ciiiiii_ 112 l47)]) (n := 1000) hT (qe_B1 (qp_ciiiii__ok h10) (qe_B1 (qp_ciiiiii__ok h47) qe_B0)) rfl
def L_M_laysGame_10 : Nat → Int32 → Int32 → Int32 → Int32 → Int32 → qm_M → Option qm_R
  | 0, _, _, _, _, _, _ => none
  | n + 1, v1, v2, v3, v4, v5, m => X_M_laysGame_10 F_M_manyOf (L_M_laysGame_10 n) (L_M_laysGame_47 (L_M_laysGame_10 n) 1000000) v1 v2 v3 v4 v5 m
theorem lg_M_laysGame_10 {kp : pm_K} {d : Nat} (hT : qe_G kp d (T_M_laysGame F_M_manyOf)) : ∀ (n : Nat) (v1 : Int32) (v2 : Int32) (v3 : Int32) (v4 : Int32) (v5 : Int32) (m : qm_M), qe_J kp md_M_laysGame d (L_M_laysGame_10 n v1 v2 v3 v4 v5 m) 10 [(0, .ref 112), (1, .int v1), (2, .int v2), (3, .int v3), (4, .int v4), (5, .int v5)] [] m
  | 0, v1, v2, v3, v4, v5, m => qe_none rfl
  | n + 1, v1, v2, v3, v4, v5, m => xg_M_laysGame_10 hT (lg_M_laysGame_10 hT n) (lg_M_laysGame_47 hT (lg_M_laysGame_10 hT n) 1000000) v1 v2 v3 v4 v5 m
def X_M_laysGame_e (f_M_manyOf : Int32 → qm_M → Option qm_R) (l10 : Int32 → Int32 → Int32 → Int32 → Int32 → qm_M → Option qm_R) (v1 : Int32) (m : qm_M) : Option qm_R :=
  l10 v1 (0 : Int32) (0 : Int32) (0 : Int32) (0 : Int32) m
set_option maxRecDepth 100000 in
theorem xg_M_laysGame_e {kp : pm_K} {d : Nat} {f_M_manyOf : Int32 → qm_M → Option qm_R} {l10 : Int32 → Int32 → Int32 → Int32 → Int32 → qm_M → Option qm_R} (hT : qe_G kp d (T_M_laysGame f_M_manyOf)) (h10 : ∀ (v1 : Int32) (v2 : Int32) (v3 : Int32) (v4 : Int32) (v5 : Int32) (m : qm_M), qe_J kp md_M_laysGame d (l10 v1 v2 v3 v4 v5 m) 10 [(0, .ref 112), (1, .int v1), (2, .int v2), (3, .int v3), (4, .int v4), (5, .int v5)] [] m) (v1 : Int32) (m : qm_M) : qe_J kp md_M_laysGame d (X_M_laysGame_e f_M_manyOf l10 v1 m) 0 [(0, .ref 112), (1, .int v1)] [] m := qe_run (B := [(10, [0, 1, 2, 3, 4, 5], qp_ciiiii_ 112 l10)]) (n := 1000) hT (qe_B1 (qp_ciiiii__ok h10) qe_B0) rfl
def F_M_laysGame (v1 : Int32) (m : qm_M) : Option qm_R := X_M_laysGame_e F_M_manyOf (L_M_laysGame_10 1000000) v1 m
theorem fj_M_laysGame {kp : pm_K} {d : Nat} (hT : qe_G kp d (T_M_laysGame F_M_manyOf)) (v1 : Int32) (m : qm_M) : qe_J kp md_M_laysGame d (F_M_laysGame v1 m) 0 [(0, .ref 112), (1, .int v1)] [] m := xg_M_laysGame_e hT (lg_M_laysGame_10 hT 1000000) v1 m
theorem fg_M_laysGame {kp : pm_K} (d : Nat) : qe_GE kp (d + 2) (311, 0, 11, 0, qw_ci 112 F_M_laysGame) := qe_entry (by decide +kernel) (qw_ci_ok (d := d + 1) rfl rfl (fj_M_laysGame (qe_G1 (fg_M_manyOf (d + 0)) qe_G0)))
/-! TurnFieldModel.game(I)I -/
noncomputable def T_M_game (f_M_isIn : Int64 → Int64 → Int64 → qm_M → Option qm_R) (f_M_manyOf : Int32 → qm_M → Option qm_R) (f_M_laysMoves : qm_M → Option qm_R) (f_M_close : Int64 → qm_M → Option qm_R) (f_M_laysGame : Int32 → qm_M → Option qm_R) : qe_T := [(185, 1, 0, 1, qw_lll f_M_isIn), (279, 0, 11, 1, qw_ci 112 f_M_manyOf), (310, 0, 11, 0, qw_c 112 f_M_laysMoves), (309, 0, 11, 1, qw_cl 112 f_M_close), (311, 0, 11, 0, qw_ci 112 f_M_laysGame)]
def X_M_game_49 (f_M_isIn : Int64 → Int64 → Int64 → qm_M → Option qm_R) (f_M_manyOf : Int32 → qm_M → Option qm_R) (f_M_laysMoves : qm_M → Option qm_R) (f_M_close : Int64 → qm_M → Option qm_R) (f_M_laysGame : Int32 → qm_M → Option qm_R) (l49 : Int32 → Int32 → Int32 → qm_M → Option qm_R) (v1 : Int32) (v2 : Int32) (v3 : Int32) (m : qm_M) : Option qm_R :=
  if v2 < v3 then
    if v1 = 0 then
      qe_b (qm_in v2 4096) (
      if (m.1 137 (Int32.toNatClampNeg v2)) = 0 then
        some (some (.int (0 : Int32)), m)
      else
        some (some (.int (1 : Int32)), m))
    else
      qe_b (qm_in v2 4096) (
      some (some (.int (m.1 138 (Int32.toNatClampNeg v2))), m))
  else
    qe_rV (f_M_laysGame v3 m) fun m1 =>
    l49 v1 v2 (v3 + (1 : Int32)) m1
set_option maxRecDepth 100000 in
theorem xg_M_game_49 {kp : pm_K} {d : Nat} {f_M_isIn : Int64 → Int64 → Int64 → qm_M → Option qm_R} {f_M_manyOf : Int32 → qm_M → Option qm_R} {f_M_laysMoves : qm_M → Option qm_R} {f_M_close : Int64 → qm_M → Option qm_R} {f_M_laysGame : Int32 → qm_M → Option qm_R} {l49 : Int32 → Int32 → Int32 → qm_M → Option qm_R} (hT : qe_G kp d (T_M_game f_M_isIn f_M_manyOf f_M_laysMoves f_M_close f_M_laysGame)) (h49 : ∀ (v1 : Int32) (v2 : Int32) (v3 : Int32) (m : qm_M), qe_J kp md_M_game d (l49 v1 v2 v3 m) 49 [(0, .ref 112), (1, .int v1), (2, .int v2), (3, .int v3)] [] m) (v1 : Int32) (v2 : Int32) (v3 : Int32) (m : qm_M) : qe_J kp md_M_game d (X_M_game_49 f_M_isIn f_M_manyOf f_M_laysMoves f_M_close f_M_laysGame l49 v1 v2 v3 m) 49 [(0, .ref 112), (1, .int v1), (2, .int v2), (3, .int v3)] [] m := qe_run (B := [(49, [0, 1, 2, 3], qp_ciii_ 112 l49)]) (n := 1000) hT (qe_B1 (qp_ciii__ok h49) qe_B0) rfl
def L_M_game_49 : Nat → Int32 → Int32 → Int32 → qm_M → Option qm_R
  | 0, _, _, _, _ => none
  | n + 1, v1, v2, v3, m => X_M_game_49 F_M_isIn F_M_manyOf F_M_laysMoves F_M_close F_M_laysGame (L_M_game_49 n) v1 v2 v3 m
theorem lg_M_game_49 {kp : pm_K} {d : Nat} (hT : qe_G kp d (T_M_game F_M_isIn F_M_manyOf F_M_laysMoves F_M_close F_M_laysGame)) : ∀ (n : Nat) (v1 : Int32) (v2 : Int32) (v3 : Int32) (m : qm_M), qe_J kp md_M_game d (L_M_game_49 n v1 v2 v3 m) 49 [(0, .ref 112), (1, .int v1), (2, .int v2), (3, .int v3)] [] m
  | 0, v1, v2, v3, m => qe_none rfl
  | n + 1, v1, v2, v3, m => xg_M_game_49 hT (lg_M_game_49 hT n) v1 v2 v3 m
def X_M_game_e (f_M_isIn : Int64 → Int64 → Int64 → qm_M → Option qm_R) (f_M_manyOf : Int32 → qm_M → Option qm_R) (f_M_laysMoves : qm_M → Option qm_R) (f_M_close : Int64 → qm_M → Option qm_R) (f_M_laysGame : Int32 → qm_M → Option qm_R) (l49 : Int32 → Int32 → Int32 → qm_M → Option qm_R) (v1 : Int32) (m : qm_M) : Option qm_R :=
  qe_rI (f_M_isIn (Int32.toInt64 v1) (0 : Int64) (1 : Int64) m) fun x1 m1 =>
  if x1 = 0 then
    some (some (.int (-1 : Int32)), m1)
  else
    qe_rI (f_M_manyOf (0 : Int32) m1) fun x2 m2 =>
    qe_rI (f_M_manyOf (1 : Int32) m2) fun x3 m3 =>
    if (12 : Int32) < (x2 * x3) then
      some (some (.int (-2 : Int32)), m3)
    else
      qe_rV (f_M_laysMoves m3) fun m4 =>
      qe_rI (f_M_close (m4.2 113 6) m4) fun x4 m5 =>
      l49 v1 x4 (0 : Int32) m5
set_option maxRecDepth 100000 in
theorem xg_M_game_e {kp : pm_K} {d : Nat} {f_M_isIn : Int64 → Int64 → Int64 → qm_M → Option qm_R} {f_M_manyOf : Int32 → qm_M → Option qm_R} {f_M_laysMoves : qm_M → Option qm_R} {f_M_close : Int64 → qm_M → Option qm_R} {f_M_laysGame : Int32 → qm_M → Option qm_R} {l49 : Int32 → Int32 → Int32 → qm_M → Option qm_R} (hT : qe_G kp d (T_M_game f_M_isIn f_M_manyOf f_M_laysMoves f_M_close f_M_laysGame)) (h49 : ∀ (v1 : Int32) (v2 : Int32) (v3 : Int32) (m : qm_M), qe_J kp md_M_game d (l49 v1 v2 v3 m) 49 [(0, .ref 112), (1, .int v1), (2, .int v2), (3, .int v3)] [] m) (v1 : Int32) (m : qm_M) : qe_J kp md_M_game d (X_M_game_e f_M_isIn f_M_manyOf f_M_laysMoves f_M_close f_M_laysGame l49 v1 m) 0 [(0, .ref 112), (1, .int v1)] [] m := qe_run (B := [(49, [0, 1, 2, 3], qp_ciii_ 112 l49)]) (n := 1000) hT (qe_B1 (qp_ciii__ok h49) qe_B0) rfl
def F_M_game (v1 : Int32) (m : qm_M) : Option qm_R := X_M_game_e F_M_isIn F_M_manyOf F_M_laysMoves F_M_close F_M_laysGame (L_M_game_49 1000000) v1 m
theorem fj_M_game {kp : pm_K} {d : Nat} (hT : qe_G kp d (T_M_game F_M_isIn F_M_manyOf F_M_laysMoves F_M_close F_M_laysGame)) (v1 : Int32) (m : qm_M) : qe_J kp md_M_game d (F_M_game v1 m) 0 [(0, .ref 112), (1, .int v1)] [] m := xg_M_game_e hT (lg_M_game_49 hT 1000000) v1 m
theorem fg_M_game {kp : pm_K} (d : Nat) : qe_GE kp (d + 5) (312, 0, 11, 1, qw_ci 112 F_M_game) := qe_entry (by decide +kernel) (qw_ci_ok (d := d + 4) rfl rfl (fj_M_game (qe_G1 (fg_M_isIn (d + 3)) (qe_G1 (fg_M_manyOf (d + 3)) (qe_G1 (fg_M_laysMoves (d + 0)) (qe_G1 (fg_M_close (d + 2)) (qe_G1 (fg_M_laysGame (d + 2)) qe_G0)))))))
/-! TurnFieldModel.spread(I)J -/
noncomputable def T_M_spread (f_M_manyOf : Int32 → qm_M → Option qm_R) (f_M_place_III : Int32 → Int32 → qm_M → Option qm_R) : qe_T := [(279, 0, 11, 1, qw_ci 112 f_M_manyOf), (290, 1, 0, 1, qw_ii f_M_place_III)]
def X_M_spread_18 (f_M_manyOf : Int32 → qm_M → Option qm_R) (f_M_place_III : Int32 → Int32 → qm_M → Option qm_R) (l5 : Int32 → Int64 → Int32 → qm_M → Option qm_R) (l18 : Int32 → Int64 → Int32 → Int32 → qm_M → Option qm_R) (v1 : Int32) (v2 : Int64) (v4 : Int32) (v5 : Int32) (m : qm_M) : Option qm_R :=
  qe_rI (f_M_manyOf (1 : Int32) m) fun x1 m1 =>
  if v5 < x1 then
    qe_rI (f_M_manyOf (1 : Int32) m1) fun x2 m2 =>
    if ((qo_ishr v1 ((x2 * v4) + v5)) &&& (1 : Int32)) = (1 : Int32) then
      qe_rI (f_M_place_III v4 v5 m2) fun x3 m3 =>
      l18 v1 (v2 ||| (qo_lshl (1 : Int64) x3)) v4 (v5 + (1 : Int32)) m3
    else
      l18 v1 v2 v4 (v5 + (1 : Int32)) m2
  else
    l5 v1 v2 (v4 + (1 : Int32)) m1
set_option maxRecDepth 100000 in
theorem xg_M_spread_18 {kp : pm_K} {d : Nat} {f_M_manyOf : Int32 → qm_M → Option qm_R} {f_M_place_III : Int32 → Int32 → qm_M → Option qm_R} {l5 : Int32 → Int64 → Int32 → qm_M → Option qm_R} {l18 : Int32 → Int64 → Int32 → Int32 → qm_M → Option qm_R} (hT : qe_G kp d (T_M_spread f_M_manyOf f_M_place_III)) (h5 : ∀ (v1 : Int32) (v2 : Int64) (v4 : Int32) (m : qm_M), qe_J kp md_M_spread d (l5 v1 v2 v4 m) 5 [(0, .ref 112), (1, .int v1), (2, .long v2), (4, .int v4)] [] m) (h18 : ∀ (v1 : Int32) (v2 : Int64) (v4 : Int32) (v5 : Int32) (m : qm_M), qe_J kp md_M_spread d (l18 v1 v2 v4 v5 m) 18 [(0, .ref 112), (1, .int v1), (2, .long v2), (4, .int v4), (5, .int v5)] [] m) (v1 : Int32) (v2 : Int64) (v4 : Int32) (v5 : Int32) (m : qm_M) : qe_J kp md_M_spread d (X_M_spread_18 f_M_manyOf f_M_place_III l5 l18 v1 v2 v4 v5 m) 18 [(0, .ref 112), (1, .int v1), (2, .long v2), (4, .int v4), (5, .int v5)] [] m := qe_run (B := [(5, [0, 1, 2, 4], qp_cili_ 112 l5), (18, [0, 1, 2, 4, 5], qp_cilii_ 112 l18)]) (n := 1000) hT (qe_B1 (qp_cili__ok h5) (qe_B1 (qp_cilii__ok h18) qe_B0)) rfl
def L_M_spread_18 (K5 : Int32 → Int64 → Int32 → qm_M → Option qm_R) : Nat → Int32 → Int64 → Int32 → Int32 → qm_M → Option qm_R
  | 0, _, _, _, _, _ => none
  | n + 1, v1, v2, v4, v5, m => X_M_spread_18 F_M_manyOf F_M_place_III K5 (L_M_spread_18 K5 n) v1 v2 v4 v5 m
theorem lg_M_spread_18 {kp : pm_K} {d : Nat} (hT : qe_G kp d (T_M_spread F_M_manyOf F_M_place_III)) {K5 : Int32 → Int64 → Int32 → qm_M → Option qm_R} (hK5 : ∀ (v1 : Int32) (v2 : Int64) (v4 : Int32) (m : qm_M), qe_J kp md_M_spread d (K5 v1 v2 v4 m) 5 [(0, .ref 112), (1, .int v1), (2, .long v2), (4, .int v4)] [] m) : ∀ (n : Nat) (v1 : Int32) (v2 : Int64) (v4 : Int32) (v5 : Int32) (m : qm_M), qe_J kp md_M_spread d (L_M_spread_18 K5 n v1 v2 v4 v5 m) 18 [(0, .ref 112), (1, .int v1), (2, .long v2), (4, .int v4), (5, .int v5)] [] m
  | 0, v1, v2, v4, v5, m => qe_none rfl
  | n + 1, v1, v2, v4, v5, m => xg_M_spread_18 hT hK5 (lg_M_spread_18 hT hK5 n) v1 v2 v4 v5 m
def X_M_spread_5 (f_M_manyOf : Int32 → qm_M → Option qm_R) (f_M_place_III : Int32 → Int32 → qm_M → Option qm_R) (l18 : Int32 → Int64 → Int32 → Int32 → qm_M → Option qm_R) (v1 : Int32) (v2 : Int64) (v4 : Int32) (m : qm_M) : Option qm_R :=
  qe_rI (f_M_manyOf (0 : Int32) m) fun x1 m1 =>
  if v4 < x1 then
    l18 v1 v2 v4 (0 : Int32) m1
  else
    some (some (.long v2), m1)
set_option maxRecDepth 100000 in
theorem xg_M_spread_5 {kp : pm_K} {d : Nat} {f_M_manyOf : Int32 → qm_M → Option qm_R} {f_M_place_III : Int32 → Int32 → qm_M → Option qm_R} {l18 : Int32 → Int64 → Int32 → Int32 → qm_M → Option qm_R} (hT : qe_G kp d (T_M_spread f_M_manyOf f_M_place_III)) (h18 : ∀ (v1 : Int32) (v2 : Int64) (v4 : Int32) (v5 : Int32) (m : qm_M), qe_J kp md_M_spread d (l18 v1 v2 v4 v5 m) 18 [(0, .ref 112), (1, .int v1), (2, .long v2), (4, .int v4), (5, .int v5)] [] m) (v1 : Int32) (v2 : Int64) (v4 : Int32) (m : qm_M) : qe_J kp md_M_spread d (X_M_spread_5 f_M_manyOf f_M_place_III l18 v1 v2 v4 m) 5 [(0, .ref 112), (1, .int v1), (2, .long v2), (4, .int v4)] [] m := qe_run (B := [(18, [0, 1, 2, 4, 5], qp_cilii_ 112 l18)]) (n := 1000) hT (qe_B1 (qp_cilii__ok h18) qe_B0) rfl
def L_M_spread_5 : Nat → Int32 → Int64 → Int32 → qm_M → Option qm_R
  | 0, _, _, _, _ => none
  | n + 1, v1, v2, v4, m => X_M_spread_5 F_M_manyOf F_M_place_III (L_M_spread_18 (L_M_spread_5 n) 1000000) v1 v2 v4 m
theorem lg_M_spread_5 {kp : pm_K} {d : Nat} (hT : qe_G kp d (T_M_spread F_M_manyOf F_M_place_III)) : ∀ (n : Nat) (v1 : Int32) (v2 : Int64) (v4 : Int32) (m : qm_M), qe_J kp md_M_spread d (L_M_spread_5 n v1 v2 v4 m) 5 [(0, .ref 112), (1, .int v1), (2, .long v2), (4, .int v4)] [] m
  | 0, v1, v2, v4, m => qe_none rfl
  | n + 1, v1, v2, v4, m => xg_M_spread_5 hT (lg_M_spread_18 hT (lg_M_spread_5 hT n) 1000000) v1 v2 v4 m
def X_M_spread_e (f_M_manyOf : Int32 → qm_M → Option qm_R) (f_M_place_III : Int32 → Int32 → qm_M → Option qm_R) (l5 : Int32 → Int64 → Int32 → qm_M → Option qm_R) (v1 : Int32) (m : qm_M) : Option qm_R :=
  l5 v1 (0 : Int64) (0 : Int32) m
set_option maxRecDepth 100000 in
theorem xg_M_spread_e {kp : pm_K} {d : Nat} {f_M_manyOf : Int32 → qm_M → Option qm_R} {f_M_place_III : Int32 → Int32 → qm_M → Option qm_R} {l5 : Int32 → Int64 → Int32 → qm_M → Option qm_R} (hT : qe_G kp d (T_M_spread f_M_manyOf f_M_place_III)) (h5 : ∀ (v1 : Int32) (v2 : Int64) (v4 : Int32) (m : qm_M), qe_J kp md_M_spread d (l5 v1 v2 v4 m) 5 [(0, .ref 112), (1, .int v1), (2, .long v2), (4, .int v4)] [] m) (v1 : Int32) (m : qm_M) : qe_J kp md_M_spread d (X_M_spread_e f_M_manyOf f_M_place_III l5 v1 m) 0 [(0, .ref 112), (1, .int v1)] [] m := qe_run (B := [(5, [0, 1, 2, 4], qp_cili_ 112 l5)]) (n := 1000) hT (qe_B1 (qp_cili__ok h5) qe_B0) rfl
def F_M_spread (v1 : Int32) (m : qm_M) : Option qm_R := X_M_spread_e F_M_manyOf F_M_place_III (L_M_spread_5 1000000) v1 m
theorem fj_M_spread {kp : pm_K} {d : Nat} (hT : qe_G kp d (T_M_spread F_M_manyOf F_M_place_III)) (v1 : Int32) (m : qm_M) : qe_J kp md_M_spread d (F_M_spread v1 m) 0 [(0, .ref 112), (1, .int v1)] [] m := xg_M_spread_e hT (lg_M_spread_5 hT 1000000) v1 m
theorem fg_M_spread {kp : pm_K} (d : Nat) : qe_GE kp (d + 2) (313, 0, 11, 2, qw_ci 112 F_M_spread) := qe_entry (by decide +kernel) (qw_ci_ok (d := d + 1) rfl rfl (fj_M_spread (qe_G1 (fg_M_manyOf (d + 0)) (qe_G1 (fg_M_place_III (d + 0)) qe_G0))))
/-! TurnFieldModel.boards(I)J -/
noncomputable def T_M_boards (f_M_isIn : Int64 → Int64 → Int64 → qm_M → Option qm_R) (f_M_manyOf : Int32 → qm_M → Option qm_R) (f_M_laysMoves : qm_M → Option qm_R) (f_M_laysGame : Int32 → qm_M → Option qm_R) (f_M_spread : Int32 → qm_M → Option qm_R) : qe_T := [(185, 1, 0, 1, qw_lll f_M_isIn), (279, 0, 11, 1, qw_ci 112 f_M_manyOf), (310, 0, 11, 0, qw_c 112 f_M_laysMoves), (311, 0, 11, 0, qw_ci 112 f_M_laysGame), (313, 0, 11, 2, qw_ci 112 f_M_spread)]
def X_M_boards_80 (f_M_isIn : Int64 → Int64 → Int64 → qm_M → Option qm_R) (f_M_manyOf : Int32 → qm_M → Option qm_R) (f_M_laysMoves : qm_M → Option qm_R) (f_M_laysGame : Int32 → qm_M → Option qm_R) (f_M_spread : Int32 → qm_M → Option qm_R) (l50 : Int32 → Int32 → Int32 → Int32 → Int32 → qm_M → Option qm_R) (v1 : Int32) (v2 : Int32) (v4 : Int32) (v5 : Int32) (s0 : Int32) (s1 : Int32) (m : qm_M) : Option qm_R :=
  qe_b (qm_in v5 4096) (
  qe_b (qm_in v4 4096) (
  if (m.1 138 (Int32.toNatClampNeg v4)) < (m.1 138 (Int32.toNatClampNeg v5)) then
    l50 v1 v2 (s1 + s0) v5 (v5 + (1 : Int32)) m
  else
    l50 v1 v2 (s1 + s0) v4 (v5 + (1 : Int32)) m))
set_option maxRecDepth 100000 in
theorem xg_M_boards_80 {kp : pm_K} {d : Nat} {f_M_isIn : Int64 → Int64 → Int64 → qm_M → Option qm_R} {f_M_manyOf : Int32 → qm_M → Option qm_R} {f_M_laysMoves : qm_M → Option qm_R} {f_M_laysGame : Int32 → qm_M → Option qm_R} {f_M_spread : Int32 → qm_M → Option qm_R} {l50 : Int32 → Int32 → Int32 → Int32 → Int32 → qm_M → Option qm_R} (hT : qe_G kp d (T_M_boards f_M_isIn f_M_manyOf f_M_laysMoves f_M_laysGame f_M_spread)) (h50 : ∀ (v1 : Int32) (v2 : Int32) (v3 : Int32) (v4 : Int32) (v5 : Int32) (m : qm_M), qe_J kp md_M_boards d (l50 v1 v2 v3 v4 v5 m) 50 [(0, .ref 112), (1, .int v1), (2, .int v2), (3, .int v3), (4, .int v4), (5, .int v5)] [] m) (v1 : Int32) (v2 : Int32) (v4 : Int32) (v5 : Int32) (s0 : Int32) (s1 : Int32) (m : qm_M) : qe_J kp md_M_boards d (X_M_boards_80 f_M_isIn f_M_manyOf f_M_laysMoves f_M_laysGame f_M_spread l50 v1 v2 v4 v5 s0 s1 m) 80 [(0, .ref 112), (1, .int v1), (2, .int v2), (4, .int v4), (5, .int v5)] [.int s0, .int s1] m := qe_run (B := [(50, [0, 1, 2, 3, 4, 5], qp_ciiiii_ 112 l50)]) (n := 1000) hT (qe_B1 (qp_ciiiii__ok h50) qe_B0) rfl
def L_M_boards_80 (K50 : Int32 → Int32 → Int32 → Int32 → Int32 → qm_M → Option qm_R) (v1 : Int32) (v2 : Int32) (v4 : Int32) (v5 : Int32) (s0 : Int32) (s1 : Int32) (m : qm_M) : Option qm_R := X_M_boards_80 F_M_isIn F_M_manyOf F_M_laysMoves F_M_laysGame F_M_spread K50 v1 v2 v4 v5 s0 s1 m
theorem lg_M_boards_80 {kp : pm_K} {d : Nat} (hT : qe_G kp d (T_M_boards F_M_isIn F_M_manyOf F_M_laysMoves F_M_laysGame F_M_spread)) {K50 : Int32 → Int32 → Int32 → Int32 → Int32 → qm_M → Option qm_R} (hK50 : ∀ (v1 : Int32) (v2 : Int32) (v3 : Int32) (v4 : Int32) (v5 : Int32) (m : qm_M), qe_J kp md_M_boards d (K50 v1 v2 v3 v4 v5 m) 50 [(0, .ref 112), (1, .int v1), (2, .int v2), (3, .int v3), (4, .int v4), (5, .int v5)] [] m) (v1 : Int32) (v2 : Int32) (v4 : Int32) (v5 : Int32) (s0 : Int32) (s1 : Int32) (m : qm_M) : qe_J kp md_M_boards d (L_M_boards_80 K50 v1 v2 v4 v5 s0 s1 m) 80 [(0, .ref 112), (1, .int v1), (2, .int v2), (4, .int v4), (5, .int v5)] [.int s0, .int s1] m := xg_M_boards_80 hT hK50 v1 v2 v4 v5 s0 s1 m
def X_M_boards_50 (f_M_isIn : Int64 → Int64 → Int64 → qm_M → Option qm_R) (f_M_manyOf : Int32 → qm_M → Option qm_R) (f_M_laysMoves : qm_M → Option qm_R) (f_M_laysGame : Int32 → qm_M → Option qm_R) (f_M_spread : Int32 → qm_M → Option qm_R) (l80 : Int32 → Int32 → Int32 → Int32 → Int32 → Int32 → qm_M → Option qm_R) (v1 : Int32) (v2 : Int32) (v3 : Int32) (v4 : Int32) (v5 : Int32) (m : qm_M) : Option qm_R :=
  if v5 < (qo_ishl (1 : Int32) v2) then
    qe_rV (f_M_laysGame v5 m) fun m1 =>
    qe_b (qm_in v5 4096) (
    if (m1.1 137 (Int32.toNatClampNeg v5)) = 0 then
      l80 v1 v2 v4 v5 (1 : Int32) v3 m1
    else
      l80 v1 v2 v4 v5 (0 : Int32) v3 m1)
  else
    if v1 = 0 then
      some (some (.long (Int32.toInt64 v3)), m)
    else
      if v1 = (1 : Int32) then
        qe_b (qm_in v4 4096) (
        some (some (.long (Int32.toInt64 (m.1 138 (Int32.toNatClampNeg v4)))), m))
      else
        qe_rL (f_M_spread v4 m) fun x1 m2 =>
        some (some (.long x1), m2)
set_option maxRecDepth 100000 in
theorem xg_M_boards_50 {kp : pm_K} {d : Nat} {f_M_isIn : Int64 → Int64 → Int64 → qm_M → Option qm_R} {f_M_manyOf : Int32 → qm_M → Option qm_R} {f_M_laysMoves : qm_M → Option qm_R} {f_M_laysGame : Int32 → qm_M → Option qm_R} {f_M_spread : Int32 → qm_M → Option qm_R} {l80 : Int32 → Int32 → Int32 → Int32 → Int32 → Int32 → qm_M → Option qm_R} (hT : qe_G kp d (T_M_boards f_M_isIn f_M_manyOf f_M_laysMoves f_M_laysGame f_M_spread)) (h80 : ∀ (v1 : Int32) (v2 : Int32) (v4 : Int32) (v5 : Int32) (s0 : Int32) (s1 : Int32) (m : qm_M), qe_J kp md_M_boards d (l80 v1 v2 v4 v5 s0 s1 m) 80 [(0, .ref 112), (1, .int v1), (2, .int v2), (4, .int v4), (5, .int v5)] [.int s0, .int s1] m) (v1 : Int32) (v2 : Int32) (v3 : Int32) (v4 : Int32) (v5 : Int32) (m : qm_M) : qe_J kp md_M_boards d (X_M_boards_50 f_M_isIn f_M_manyOf f_M_laysMoves f_M_laysGame f_M_spread l80 v1 v2 v3 v4 v5 m) 50 [(0, .ref 112), (1, .int v1), (2, .int v2), (3, .int v3), (4, .int v4), (5, .int v5)] [] m := qe_run (B := [(80, [0, 1, 2, 4, 5], qp_ciiii_ii 112 l80)]) (n := 1000) hT (qe_B1 (qp_ciiii_ii_ok h80) qe_B0) rfl
def L_M_boards_50 : Nat → Int32 → Int32 → Int32 → Int32 → Int32 → qm_M → Option qm_R
  | 0, _, _, _, _, _, _ => none
  | n + 1, v1, v2, v3, v4, v5, m => X_M_boards_50 F_M_isIn F_M_manyOf F_M_laysMoves F_M_laysGame F_M_spread (L_M_boards_80 (L_M_boards_50 n)) v1 v2 v3 v4 v5 m
theorem lg_M_boards_50 {kp : pm_K} {d : Nat} (hT : qe_G kp d (T_M_boards F_M_isIn F_M_manyOf F_M_laysMoves F_M_laysGame F_M_spread)) : ∀ (n : Nat) (v1 : Int32) (v2 : Int32) (v3 : Int32) (v4 : Int32) (v5 : Int32) (m : qm_M), qe_J kp md_M_boards d (L_M_boards_50 n v1 v2 v3 v4 v5 m) 50 [(0, .ref 112), (1, .int v1), (2, .int v2), (3, .int v3), (4, .int v4), (5, .int v5)] [] m
  | 0, v1, v2, v3, v4, v5, m => qe_none rfl
  | n + 1, v1, v2, v3, v4, v5, m => xg_M_boards_50 hT (lg_M_boards_80 hT (lg_M_boards_50 hT n)) v1 v2 v3 v4 v5 m
def X_M_boards_e (f_M_isIn : Int64 → Int64 → Int64 → qm_M → Option qm_R) (f_M_manyOf : Int32 → qm_M → Option qm_R) (f_M_laysMoves : qm_M → Option qm_R) (f_M_laysGame : Int32 → qm_M → Option qm_R) (f_M_spread : Int32 → qm_M → Option qm_R) (l50 : Int32 → Int32 → Int32 → Int32 → Int32 → qm_M → Option qm_R) (v1 : Int32) (m : qm_M) : Option qm_R :=
  qe_rI (f_M_isIn (Int32.toInt64 v1) (0 : Int64) (2 : Int64) m) fun x1 m1 =>
  if x1 = 0 then
    some (some (.long (-1 : Int64)), m1)
  else
    qe_rI (f_M_manyOf (0 : Int32) m1) fun x2 m2 =>
    qe_rI (f_M_manyOf (1 : Int32) m2) fun x3 m3 =>
    if (12 : Int32) < (x2 * x3) then
      some (some (.long (-2 : Int64)), m3)
    else
      qe_rV (f_M_laysMoves m3) fun m4 =>
      l50 v1 (x2 * x3) (0 : Int32) (0 : Int32) (0 : Int32) m4
set_option maxRecDepth 100000 in
theorem xg_M_boards_e {kp : pm_K} {d : Nat} {f_M_isIn : Int64 → Int64 → Int64 → qm_M → Option qm_R} {f_M_manyOf : Int32 → qm_M → Option qm_R} {f_M_laysMoves : qm_M → Option qm_R} {f_M_laysGame : Int32 → qm_M → Option qm_R} {f_M_spread : Int32 → qm_M → Option qm_R} {l50 : Int32 → Int32 → Int32 → Int32 → Int32 → qm_M → Option qm_R} (hT : qe_G kp d (T_M_boards f_M_isIn f_M_manyOf f_M_laysMoves f_M_laysGame f_M_spread)) (h50 : ∀ (v1 : Int32) (v2 : Int32) (v3 : Int32) (v4 : Int32) (v5 : Int32) (m : qm_M), qe_J kp md_M_boards d (l50 v1 v2 v3 v4 v5 m) 50 [(0, .ref 112), (1, .int v1), (2, .int v2), (3, .int v3), (4, .int v4), (5, .int v5)] [] m) (v1 : Int32) (m : qm_M) : qe_J kp md_M_boards d (X_M_boards_e f_M_isIn f_M_manyOf f_M_laysMoves f_M_laysGame f_M_spread l50 v1 m) 0 [(0, .ref 112), (1, .int v1)] [] m := qe_run (B := [(50, [0, 1, 2, 3, 4, 5], qp_ciiiii_ 112 l50)]) (n := 1000) hT (qe_B1 (qp_ciiiii__ok h50) qe_B0) rfl
def F_M_boards (v1 : Int32) (m : qm_M) : Option qm_R := X_M_boards_e F_M_isIn F_M_manyOf F_M_laysMoves F_M_laysGame F_M_spread (L_M_boards_50 1000000) v1 m
theorem fj_M_boards {kp : pm_K} {d : Nat} (hT : qe_G kp d (T_M_boards F_M_isIn F_M_manyOf F_M_laysMoves F_M_laysGame F_M_spread)) (v1 : Int32) (m : qm_M) : qe_J kp md_M_boards d (F_M_boards v1 m) 0 [(0, .ref 112), (1, .int v1)] [] m := xg_M_boards_e hT (lg_M_boards_50 hT 1000000) v1 m
theorem fg_M_boards {kp : pm_K} (d : Nat) : qe_GE kp (d + 5) (314, 0, 11, 2, qw_ci 112 F_M_boards) := qe_entry (by decide +kernel) (qw_ci_ok (d := d + 4) rfl rfl (fj_M_boards (qe_G1 (fg_M_isIn (d + 3)) (qe_G1 (fg_M_manyOf (d + 3)) (qe_G1 (fg_M_laysMoves (d + 0)) (qe_G1 (fg_M_laysGame (d + 2)) (qe_G1 (fg_M_spread (d + 2)) qe_G0)))))))
/-! TurnFieldModel.sidesWithHeads(Z)I -/
noncomputable def T_M_sidesWithHeads (f_M_place_III : Int32 → Int32 → qm_M → Option qm_R) (f_M_has : Int64 → Int32 → qm_M → Option qm_R) : qe_T := [(290, 1, 0, 1, qw_ii f_M_place_III), (186, 1, 0, 1, qw_li f_M_has)]
def X_M_sidesWithHeads_13 (f_M_place_III : Int32 → Int32 → qm_M → Option qm_R) (f_M_has : Int64 → Int32 → qm_M → Option qm_R) (l4 : Int32 → Int32 → Int32 → qm_M → Option qm_R) (l13 : Int32 → Int32 → Int32 → Int32 → qm_M → Option qm_R) (v1 : Int32) (v2 : Int32) (v3 : Int32) (v4 : Int32) (m : qm_M) : Option qm_R :=
  if v4 < (6 : Int32) then
    qe_rI (f_M_place_III v3 v4 m) fun x1 m1 =>
    qe_rI (f_M_has (m.2 113 6) x1 m1) fun x2 m2 =>
    if x2 = 0 then
      l13 v1 v2 v3 (v4 + (1 : Int32)) m2
    else
      if v1 = 0 then
        l13 v1 (v2 ||| (qo_ishl (1 : Int32) v4)) v3 (v4 + (1 : Int32)) m2
      else
        l13 v1 (v2 ||| (qo_ishl (1 : Int32) v3)) v3 (v4 + (1 : Int32)) m2
  else
    l4 v1 v2 (v3 + (1 : Int32)) m
set_option maxRecDepth 100000 in
theorem xg_M_sidesWithHeads_13 {kp : pm_K} {d : Nat} {f_M_place_III : Int32 → Int32 → qm_M → Option qm_R} {f_M_has : Int64 → Int32 → qm_M → Option qm_R} {l4 : Int32 → Int32 → Int32 → qm_M → Option qm_R} {l13 : Int32 → Int32 → Int32 → Int32 → qm_M → Option qm_R} (hT : qe_G kp d (T_M_sidesWithHeads f_M_place_III f_M_has)) (h4 : ∀ (v1 : Int32) (v2 : Int32) (v3 : Int32) (m : qm_M), qe_J kp md_M_sidesWithHeads d (l4 v1 v2 v3 m) 4 [(0, .ref 112), (1, .int v1), (2, .int v2), (3, .int v3)] [] m) (h13 : ∀ (v1 : Int32) (v2 : Int32) (v3 : Int32) (v4 : Int32) (m : qm_M), qe_J kp md_M_sidesWithHeads d (l13 v1 v2 v3 v4 m) 13 [(0, .ref 112), (1, .int v1), (2, .int v2), (3, .int v3), (4, .int v4)] [] m) (v1 : Int32) (v2 : Int32) (v3 : Int32) (v4 : Int32) (m : qm_M) : qe_J kp md_M_sidesWithHeads d (X_M_sidesWithHeads_13 f_M_place_III f_M_has l4 l13 v1 v2 v3 v4 m) 13 [(0, .ref 112), (1, .int v1), (2, .int v2), (3, .int v3), (4, .int v4)] [] m := qe_run (B := [(4, [0, 1, 2, 3], qp_ciii_ 112 l4), (13, [0, 1, 2, 3, 4], qp_ciiii_ 112 l13)]) (n := 1000) hT (qe_B1 (qp_ciii__ok h4) (qe_B1 (qp_ciiii__ok h13) qe_B0)) rfl
def L_M_sidesWithHeads_13 (K4 : Int32 → Int32 → Int32 → qm_M → Option qm_R) : Nat → Int32 → Int32 → Int32 → Int32 → qm_M → Option qm_R
  | 0, _, _, _, _, _ => none
  | n + 1, v1, v2, v3, v4, m => X_M_sidesWithHeads_13 F_M_place_III F_M_has K4 (L_M_sidesWithHeads_13 K4 n) v1 v2 v3 v4 m
theorem lg_M_sidesWithHeads_13 {kp : pm_K} {d : Nat} (hT : qe_G kp d (T_M_sidesWithHeads F_M_place_III F_M_has)) {K4 : Int32 → Int32 → Int32 → qm_M → Option qm_R} (hK4 : ∀ (v1 : Int32) (v2 : Int32) (v3 : Int32) (m : qm_M), qe_J kp md_M_sidesWithHeads d (K4 v1 v2 v3 m) 4 [(0, .ref 112), (1, .int v1), (2, .int v2), (3, .int v3)] [] m) : ∀ (n : Nat) (v1 : Int32) (v2 : Int32) (v3 : Int32) (v4 : Int32) (m : qm_M), qe_J kp md_M_sidesWithHeads d (L_M_sidesWithHeads_13 K4 n v1 v2 v3 v4 m) 13 [(0, .ref 112), (1, .int v1), (2, .int v2), (3, .int v3), (4, .int v4)] [] m
  | 0, v1, v2, v3, v4, m => qe_none rfl
  | n + 1, v1, v2, v3, v4, m => xg_M_sidesWithHeads_13 hT hK4 (lg_M_sidesWithHeads_13 hT hK4 n) v1 v2 v3 v4 m
def X_M_sidesWithHeads_4 (f_M_place_III : Int32 → Int32 → qm_M → Option qm_R) (f_M_has : Int64 → Int32 → qm_M → Option qm_R) (l13 : Int32 → Int32 → Int32 → Int32 → qm_M → Option qm_R) (v1 : Int32) (v2 : Int32) (v3 : Int32) (m : qm_M) : Option qm_R :=
  if v3 < (6 : Int32) then
    l13 v1 v2 v3 (0 : Int32) m
  else
    some (some (.int v2), m)
set_option maxRecDepth 100000 in
theorem xg_M_sidesWithHeads_4 {kp : pm_K} {d : Nat} {f_M_place_III : Int32 → Int32 → qm_M → Option qm_R} {f_M_has : Int64 → Int32 → qm_M → Option qm_R} {l13 : Int32 → Int32 → Int32 → Int32 → qm_M → Option qm_R} (hT : qe_G kp d (T_M_sidesWithHeads f_M_place_III f_M_has)) (h13 : ∀ (v1 : Int32) (v2 : Int32) (v3 : Int32) (v4 : Int32) (m : qm_M), qe_J kp md_M_sidesWithHeads d (l13 v1 v2 v3 v4 m) 13 [(0, .ref 112), (1, .int v1), (2, .int v2), (3, .int v3), (4, .int v4)] [] m) (v1 : Int32) (v2 : Int32) (v3 : Int32) (m : qm_M) : qe_J kp md_M_sidesWithHeads d (X_M_sidesWithHeads_4 f_M_place_III f_M_has l13 v1 v2 v3 m) 4 [(0, .ref 112), (1, .int v1), (2, .int v2), (3, .int v3)] [] m := qe_run (B := [(13, [0, 1, 2, 3, 4], qp_ciiii_ 112 l13)]) (n := 1000) hT (qe_B1 (qp_ciiii__ok h13) qe_B0) rfl
def L_M_sidesWithHeads_4 : Nat → Int32 → Int32 → Int32 → qm_M → Option qm_R
  | 0, _, _, _, _ => none
  | n + 1, v1, v2, v3, m => X_M_sidesWithHeads_4 F_M_place_III F_M_has (L_M_sidesWithHeads_13 (L_M_sidesWithHeads_4 n) 1000000) v1 v2 v3 m
theorem lg_M_sidesWithHeads_4 {kp : pm_K} {d : Nat} (hT : qe_G kp d (T_M_sidesWithHeads F_M_place_III F_M_has)) : ∀ (n : Nat) (v1 : Int32) (v2 : Int32) (v3 : Int32) (m : qm_M), qe_J kp md_M_sidesWithHeads d (L_M_sidesWithHeads_4 n v1 v2 v3 m) 4 [(0, .ref 112), (1, .int v1), (2, .int v2), (3, .int v3)] [] m
  | 0, v1, v2, v3, m => qe_none rfl
  | n + 1, v1, v2, v3, m => xg_M_sidesWithHeads_4 hT (lg_M_sidesWithHeads_13 hT (lg_M_sidesWithHeads_4 hT n) 1000000) v1 v2 v3 m
def X_M_sidesWithHeads_e (f_M_place_III : Int32 → Int32 → qm_M → Option qm_R) (f_M_has : Int64 → Int32 → qm_M → Option qm_R) (l4 : Int32 → Int32 → Int32 → qm_M → Option qm_R) (v1 : Int32) (m : qm_M) : Option qm_R :=
  l4 v1 (0 : Int32) (0 : Int32) m
set_option maxRecDepth 100000 in
theorem xg_M_sidesWithHeads_e {kp : pm_K} {d : Nat} {f_M_place_III : Int32 → Int32 → qm_M → Option qm_R} {f_M_has : Int64 → Int32 → qm_M → Option qm_R} {l4 : Int32 → Int32 → Int32 → qm_M → Option qm_R} (hT : qe_G kp d (T_M_sidesWithHeads f_M_place_III f_M_has)) (h4 : ∀ (v1 : Int32) (v2 : Int32) (v3 : Int32) (m : qm_M), qe_J kp md_M_sidesWithHeads d (l4 v1 v2 v3 m) 4 [(0, .ref 112), (1, .int v1), (2, .int v2), (3, .int v3)] [] m) (v1 : Int32) (m : qm_M) : qe_J kp md_M_sidesWithHeads d (X_M_sidesWithHeads_e f_M_place_III f_M_has l4 v1 m) 0 [(0, .ref 112), (1, .int v1)] [] m := qe_run (B := [(4, [0, 1, 2, 3], qp_ciii_ 112 l4)]) (n := 1000) hT (qe_B1 (qp_ciii__ok h4) qe_B0) rfl
def F_M_sidesWithHeads (v1 : Int32) (m : qm_M) : Option qm_R := X_M_sidesWithHeads_e F_M_place_III F_M_has (L_M_sidesWithHeads_4 1000000) v1 m
theorem fj_M_sidesWithHeads {kp : pm_K} {d : Nat} (hT : qe_G kp d (T_M_sidesWithHeads F_M_place_III F_M_has)) (v1 : Int32) (m : qm_M) : qe_J kp md_M_sidesWithHeads d (F_M_sidesWithHeads v1 m) 0 [(0, .ref 112), (1, .int v1)] [] m := xg_M_sidesWithHeads_e hT (lg_M_sidesWithHeads_4 hT 1000000) v1 m
theorem fg_M_sidesWithHeads {kp : pm_K} (d : Nat) : qe_GE kp (d + 2) (315, 0, 11, 1, qw_ci 112 F_M_sidesWithHeads) := qe_entry (by decide +kernel) (qw_ci_ok (d := d + 1) rfl rfl (fj_M_sidesWithHeads (qe_G1 (fg_M_place_III (d + 0)) (qe_G1 (fg_M_has (d + 0)) qe_G0))))
/-! TurnFieldModel.keptSet()I -/
noncomputable def T_M_keptSet : qe_T := []
def X_M_keptSet_4 (l4 : Int32 → Int32 → qm_M → Option qm_R) (v1 : Int32) (v2 : Int32) (m : qm_M) : Option qm_R :=
  if v2 < (2 : Int32) then
    qe_b (qm_in v2 2) (
    if (m.1 116 (Int32.toNatClampNeg v2)) = 0 then
      l4 (v1 ||| (0 : Int32)) (v2 + (1 : Int32)) m
    else
      l4 (v1 ||| (qo_ishl (1 : Int32) v2)) (v2 + (1 : Int32)) m)
  else
    some (some (.int v1), m)
set_option maxRecDepth 100000 in
theorem xg_M_keptSet_4 {kp : pm_K} {d : Nat} {l4 : Int32 → Int32 → qm_M → Option qm_R} (hT : qe_G kp d (T_M_keptSet)) (h4 : ∀ (v1 : Int32) (v2 : Int32) (m : qm_M), qe_J kp md_M_keptSet d (l4 v1 v2 m) 4 [(0, .ref 112), (1, .int v1), (2, .int v2)] [] m) (v1 : Int32) (v2 : Int32) (m : qm_M) : qe_J kp md_M_keptSet d (X_M_keptSet_4 l4 v1 v2 m) 4 [(0, .ref 112), (1, .int v1), (2, .int v2)] [] m := qe_run (B := [(4, [0, 1, 2], qp_cii_ 112 l4)]) (n := 1000) hT (qe_B1 (qp_cii__ok h4) qe_B0) rfl
def L_M_keptSet_4 : Nat → Int32 → Int32 → qm_M → Option qm_R
  | 0, _, _, _ => none
  | n + 1, v1, v2, m => X_M_keptSet_4 (L_M_keptSet_4 n) v1 v2 m
theorem lg_M_keptSet_4 {kp : pm_K} {d : Nat} (hT : qe_G kp d (T_M_keptSet)) : ∀ (n : Nat) (v1 : Int32) (v2 : Int32) (m : qm_M), qe_J kp md_M_keptSet d (L_M_keptSet_4 n v1 v2 m) 4 [(0, .ref 112), (1, .int v1), (2, .int v2)] [] m
  | 0, v1, v2, m => qe_none rfl
  | n + 1, v1, v2, m => xg_M_keptSet_4 hT (lg_M_keptSet_4 hT n) v1 v2 m
def X_M_keptSet_e (l4 : Int32 → Int32 → qm_M → Option qm_R)  (m : qm_M) : Option qm_R :=
  l4 (0 : Int32) (0 : Int32) m
set_option maxRecDepth 100000 in
theorem xg_M_keptSet_e {kp : pm_K} {d : Nat} {l4 : Int32 → Int32 → qm_M → Option qm_R} (hT : qe_G kp d (T_M_keptSet)) (h4 : ∀ (v1 : Int32) (v2 : Int32) (m : qm_M), qe_J kp md_M_keptSet d (l4 v1 v2 m) 4 [(0, .ref 112), (1, .int v1), (2, .int v2)] [] m) (m : qm_M) : qe_J kp md_M_keptSet d (X_M_keptSet_e l4 m) 0 [(0, .ref 112)] [] m := qe_run (B := [(4, [0, 1, 2], qp_cii_ 112 l4)]) (n := 1000) hT (qe_B1 (qp_cii__ok h4) qe_B0) rfl
def F_M_keptSet (m : qm_M) : Option qm_R := X_M_keptSet_e (L_M_keptSet_4 1000000) m
theorem fj_M_keptSet {kp : pm_K} {d : Nat} (hT : qe_G kp d (T_M_keptSet)) (m : qm_M) : qe_J kp md_M_keptSet d (F_M_keptSet m) 0 [(0, .ref 112)] [] m := xg_M_keptSet_e hT (lg_M_keptSet_4 hT 1000000) m
theorem fg_M_keptSet {kp : pm_K} (d : Nat) : qe_GE kp (d + 1) (316, 0, 11, 1, qw_c 112 F_M_keptSet) := qe_entry (by decide +kernel) (qw_c_ok (d := d + 0) rfl rfl (fj_M_keptSet qe_G0))
/-! TurnFieldModel.count(I)I -/
noncomputable def T_M_count (f_M_manyOf : Int32 → qm_M → Option qm_R) (f_M_heads : qm_M → Option qm_R) (f_M_keptSet : qm_M → Option qm_R) (f_M_sidesWithHeads : Int32 → qm_M → Option qm_R) : qe_T := [(279, 0, 11, 1, qw_ci 112 f_M_manyOf), (257, 0, 11, 1, qw_c 112 f_M_heads), (316, 0, 11, 1, qw_c 112 f_M_keptSet), (315, 0, 11, 1, qw_ci 112 f_M_sidesWithHeads)]
def X_M_count_82 (f_M_manyOf : Int32 → qm_M → Option qm_R) (f_M_heads : qm_M → Option qm_R) (f_M_keptSet : qm_M → Option qm_R) (f_M_sidesWithHeads : Int32 → qm_M → Option qm_R) (v1 : Int32) (m : qm_M) : Option qm_R :=
  qe_b (qm_in (((4 : Int32) + v1) - (4 : Int32)) 33) (
  some (some (.int (Int64.toInt32 (m.2 113 (Int32.toNatClampNeg (((4 : Int32) + v1) - (4 : Int32)))))), m))
set_option maxRecDepth 100000 in
theorem xg_M_count_82 {kp : pm_K} {d : Nat} {f_M_manyOf : Int32 → qm_M → Option qm_R} {f_M_heads : qm_M → Option qm_R} {f_M_keptSet : qm_M → Option qm_R} {f_M_sidesWithHeads : Int32 → qm_M → Option qm_R} (hT : qe_G kp d (T_M_count f_M_manyOf f_M_heads f_M_keptSet f_M_sidesWithHeads)) (v1 : Int32) (m : qm_M) : qe_J kp md_M_count d (X_M_count_82 f_M_manyOf f_M_heads f_M_keptSet f_M_sidesWithHeads v1 m) 82 [(0, .ref 112), (1, .int v1)] [] m := qe_run (B := []) (n := 1000) hT qe_B0 rfl
def L_M_count_82 (v1 : Int32) (m : qm_M) : Option qm_R := X_M_count_82 F_M_manyOf F_M_heads F_M_keptSet F_M_sidesWithHeads v1 m
theorem lg_M_count_82 {kp : pm_K} {d : Nat} (hT : qe_G kp d (T_M_count F_M_manyOf F_M_heads F_M_keptSet F_M_sidesWithHeads)) (v1 : Int32) (m : qm_M) : qe_J kp md_M_count d (L_M_count_82 v1 m) 82 [(0, .ref 112), (1, .int v1)] [] m := xg_M_count_82 hT v1 m
def X_M_count_70 (f_M_manyOf : Int32 → qm_M → Option qm_R) (f_M_heads : qm_M → Option qm_R) (f_M_keptSet : qm_M → Option qm_R) (f_M_sidesWithHeads : Int32 → qm_M → Option qm_R) (v1 : Int32) (m : qm_M) : Option qm_R :=
  qe_b (qm_in (((2 : Int32) + v1) - (2 : Int32)) 33) (
  some (some (.int (Int64.toInt32 (m.2 113 (Int32.toNatClampNeg (((2 : Int32) + v1) - (2 : Int32)))))), m))
set_option maxRecDepth 100000 in
theorem xg_M_count_70 {kp : pm_K} {d : Nat} {f_M_manyOf : Int32 → qm_M → Option qm_R} {f_M_heads : qm_M → Option qm_R} {f_M_keptSet : qm_M → Option qm_R} {f_M_sidesWithHeads : Int32 → qm_M → Option qm_R} (hT : qe_G kp d (T_M_count f_M_manyOf f_M_heads f_M_keptSet f_M_sidesWithHeads)) (v1 : Int32) (m : qm_M) : qe_J kp md_M_count d (X_M_count_70 f_M_manyOf f_M_heads f_M_keptSet f_M_sidesWithHeads v1 m) 70 [(0, .ref 112), (1, .int v1)] [] m := qe_run (B := []) (n := 1000) hT qe_B0 rfl
def L_M_count_70 (v1 : Int32) (m : qm_M) : Option qm_R := X_M_count_70 F_M_manyOf F_M_heads F_M_keptSet F_M_sidesWithHeads v1 m
theorem lg_M_count_70 {kp : pm_K} {d : Nat} (hT : qe_G kp d (T_M_count F_M_manyOf F_M_heads F_M_keptSet F_M_sidesWithHeads)) (v1 : Int32) (m : qm_M) : qe_J kp md_M_count d (L_M_count_70 v1 m) 70 [(0, .ref 112), (1, .int v1)] [] m := xg_M_count_70 hT v1 m
def X_M_count_e (f_M_manyOf : Int32 → qm_M → Option qm_R) (f_M_heads : qm_M → Option qm_R) (f_M_keptSet : qm_M → Option qm_R) (f_M_sidesWithHeads : Int32 → qm_M → Option qm_R) (l70 : Int32 → qm_M → Option qm_R) (l82 : Int32 → qm_M → Option qm_R) (v1 : Int32) (m : qm_M) : Option qm_R :=
  if Int32.toInt v1 = 0 then
    qe_rI (f_M_manyOf v1 m) fun x1 m1 =>
    some (some (.int x1), m1)
  else
   if Int32.toInt v1 = 1 then
     qe_rI (f_M_manyOf v1 m) fun x2 m2 =>
     some (some (.int x2), m2)
   else
    if Int32.toInt v1 = 2 then
      l70 v1 m
    else
     if Int32.toInt v1 = 3 then
       l70 v1 m
     else
      if Int32.toInt v1 = 4 then
        l82 v1 m
      else
       if Int32.toInt v1 = 5 then
         l82 v1 m
       else
        if Int32.toInt v1 = 6 then
          qe_rI (f_M_heads m) fun x3 m3 =>
          some (some (.int x3), m3)
        else
         if Int32.toInt v1 = 7 then
           some (some (.int (m.1 112 2)), m)
         else
          if Int32.toInt v1 = 8 then
            some (some (.int (m.1 112 24)), m)
          else
           if Int32.toInt v1 = 9 then
             qe_rI (f_M_keptSet m) fun x4 m4 =>
             some (some (.int x4), m4)
           else
            if Int32.toInt v1 = 10 then
              qe_rI (f_M_sidesWithHeads (1 : Int32) m) fun x5 m5 =>
              some (some (.int x5), m5)
            else
             if Int32.toInt v1 = 11 then
               qe_rI (f_M_sidesWithHeads (0 : Int32) m) fun x6 m6 =>
               some (some (.int x6), m6)
             else
               some (some (.int (-1 : Int32)), m)
set_option maxRecDepth 100000 in
theorem xg_M_count_e {kp : pm_K} {d : Nat} {f_M_manyOf : Int32 → qm_M → Option qm_R} {f_M_heads : qm_M → Option qm_R} {f_M_keptSet : qm_M → Option qm_R} {f_M_sidesWithHeads : Int32 → qm_M → Option qm_R} {l70 : Int32 → qm_M → Option qm_R} {l82 : Int32 → qm_M → Option qm_R} (hT : qe_G kp d (T_M_count f_M_manyOf f_M_heads f_M_keptSet f_M_sidesWithHeads)) (h70 : ∀ (v1 : Int32) (m : qm_M), qe_J kp md_M_count d (l70 v1 m) 70 [(0, .ref 112), (1, .int v1)] [] m) (h82 : ∀ (v1 : Int32) (m : qm_M), qe_J kp md_M_count d (l82 v1 m) 82 [(0, .ref 112), (1, .int v1)] [] m) (v1 : Int32) (m : qm_M) : qe_J kp md_M_count d (X_M_count_e f_M_manyOf f_M_heads f_M_keptSet f_M_sidesWithHeads l70 l82 v1 m) 0 [(0, .ref 112), (1, .int v1)] [] m := qe_run (B := [(70, [0, 1], qp_ci_ 112 l70), (82, [0, 1], qp_ci_ 112 l82)]) (n := 1000) hT (qe_B1 (qp_ci__ok h70) (qe_B1 (qp_ci__ok h82) qe_B0)) rfl
def F_M_count (v1 : Int32) (m : qm_M) : Option qm_R := X_M_count_e F_M_manyOf F_M_heads F_M_keptSet F_M_sidesWithHeads (L_M_count_70) (L_M_count_82) v1 m
theorem fj_M_count {kp : pm_K} {d : Nat} (hT : qe_G kp d (T_M_count F_M_manyOf F_M_heads F_M_keptSet F_M_sidesWithHeads)) (v1 : Int32) (m : qm_M) : qe_J kp md_M_count d (F_M_count v1 m) 0 [(0, .ref 112), (1, .int v1)] [] m := xg_M_count_e hT (lg_M_count_70 hT) (lg_M_count_82 hT) v1 m
theorem fg_M_count {kp : pm_K} (d : Nat) : qe_GE kp (d + 3) (317, 0, 11, 1, qw_ci 112 F_M_count) := qe_entry (by decide +kernel) (qw_ci_ok (d := d + 2) rfl rfl (fj_M_count (qe_G1 (fg_M_manyOf (d + 1)) (qe_G1 (fg_M_heads (d + 0)) (qe_G1 (fg_M_keptSet (d + 1)) (qe_G1 (fg_M_sidesWithHeads (d + 0)) qe_G0))))))
