/-! TurnFieldLaw.moves(LTurnField;LTurnFieldLaw$Board;)Z -/
noncomputable def T_L_moves (f_T_cell : Int32 → Int32 → Int32 → qm_M → Option qm_R) (f_T_total : qm_M → Option qm_R) (f_T_moves : Int32 → qm_M → Option qm_R) (f_T_move : Int32 → Int32 → Int32 → qm_M → Option qm_R) (f_B_can : Int32 → Int32 → qm_M → Option qm_R) : qe_T := [(79, 0, 10, 1, qw_ciii 0 f_T_cell), (80, 0, 10, 2, qw_c 0 f_T_total), (81, 0, 10, 1, qw_ci 0 f_T_moves), (82, 0, 10, 1, qw_ciii 0 f_T_move), (90, 0, 11, 1, qw_cii 112 f_B_can)]
def X_L_moves_497 (f_T_cell : Int32 → Int32 → Int32 → qm_M → Option qm_R) (f_T_total : qm_M → Option qm_R) (f_T_moves : Int32 → qm_M → Option qm_R) (f_T_move : Int32 → Int32 → Int32 → qm_M → Option qm_R) (f_B_can : Int32 → Int32 → qm_M → Option qm_R) (v5 : Int32) (v6 : Int32) (s0 : Int32) (s1 : Int32) (m : qm_M) : Option qm_R :=
  if s1 = s0 then
    qe_rI (f_T_move (0 : Int32) v5 (1 : Int32) m) fun x1 m1 =>
    if x1 = (-2 : Int32) then
      qe_rI (f_T_move (1 : Int32) v6 (1 : Int32) m1) fun x2 m2 =>
      if x2 = (-2 : Int32) then
        qe_rI (f_T_move (2 : Int32) (0 : Int32) (1 : Int32) m2) fun x3 m3 =>
        if x3 = (-1 : Int32) then
          qe_rI (f_T_move (0 : Int32) (0 : Int32) (0 : Int32) m3) fun x4 m4 =>
          if x4 = (-1 : Int32) then
            qe_rI (f_T_moves (2 : Int32) m4) fun x5 m5 =>
            if x5 = (-1 : Int32) then
              some (some (.int (1 : Int32)), m5)
            else
              some (some (.int (0 : Int32)), m5)
          else
            some (some (.int (0 : Int32)), m4)
        else
          some (some (.int (0 : Int32)), m3)
      else
        some (some (.int (0 : Int32)), m2)
    else
      some (some (.int (0 : Int32)), m1)
  else
    some (some (.int (0 : Int32)), m)
set_option maxRecDepth 100000 in
theorem xg_L_moves_497 {kp : pm_K} {d : Nat} {f_T_cell : Int32 → Int32 → Int32 → qm_M → Option qm_R} {f_T_total : qm_M → Option qm_R} {f_T_moves : Int32 → qm_M → Option qm_R} {f_T_move : Int32 → Int32 → Int32 → qm_M → Option qm_R} {f_B_can : Int32 → Int32 → qm_M → Option qm_R} (hT : qe_G kp d (T_L_moves f_T_cell f_T_total f_T_moves f_T_move f_B_can)) (v5 : Int32) (v6 : Int32) (s0 : Int32) (s1 : Int32) (m : qm_M) : qe_J kp md_L_moves0 d (X_L_moves_497 f_T_cell f_T_total f_T_moves f_T_move f_B_can v5 v6 s0 s1 m) 497 [(0, .ref 0), (5, .int v5), (6, .int v6)] [.int s0, .int s1] m := qe_run (B := []) (n := 1000) hT qe_B0 rfl
def L_L_moves_497 (v5 : Int32) (v6 : Int32) (s0 : Int32) (s1 : Int32) (m : qm_M) : Option qm_R := X_L_moves_497 F_T_cell F_T_total F_T_moves F_T_move F_B_can v5 v6 s0 s1 m
theorem lg_L_moves_497 {kp : pm_K} {d : Nat} (hT : qe_G kp d (T_L_moves F_T_cell F_T_total F_T_moves F_T_move F_B_can)) (v5 : Int32) (v6 : Int32) (s0 : Int32) (s1 : Int32) (m : qm_M) : qe_J kp md_L_moves0 d (L_L_moves_497 v5 v6 s0 s1 m) 497 [(0, .ref 0), (5, .int v5), (6, .int v6)] [.int s0, .int s1] m := xg_L_moves_497 hT v5 v6 s0 s1 m
def X_L_moves_453 (f_T_cell : Int32 → Int32 → Int32 → qm_M → Option qm_R) (f_T_total : qm_M → Option qm_R) (f_T_moves : Int32 → qm_M → Option qm_R) (f_T_move : Int32 → Int32 → Int32 → qm_M → Option qm_R) (f_B_can : Int32 → Int32 → qm_M → Option qm_R) (l497 : Int32 → Int32 → Int32 → Int32 → qm_M → Option qm_R) (v3 : Int32) (v4 : Int32) (v5 : Int32) (v6 : Int32) (m : qm_M) : Option qm_R :=
  if v4 = 0 then
    some (some (.int (0 : Int32)), m)
  else
    qe_rI (f_T_moves (0 : Int32) m) fun x1 m1 =>
    if x1 = v5 then
      qe_rI (f_T_moves (1 : Int32) m1) fun x2 m2 =>
      if x2 = v6 then
        if 0 < v6 then
          if v3 = 0 then
            l497 v5 v6 (0 : Int32) (1 : Int32) m2
          else
            l497 v5 v6 (1 : Int32) (1 : Int32) m2
        else
          if v3 = 0 then
            l497 v5 v6 (0 : Int32) (0 : Int32) m2
          else
            l497 v5 v6 (1 : Int32) (0 : Int32) m2
      else
        some (some (.int (0 : Int32)), m2)
    else
      some (some (.int (0 : Int32)), m1)
set_option maxRecDepth 100000 in
theorem xg_L_moves_453 {kp : pm_K} {d : Nat} {f_T_cell : Int32 → Int32 → Int32 → qm_M → Option qm_R} {f_T_total : qm_M → Option qm_R} {f_T_moves : Int32 → qm_M → Option qm_R} {f_T_move : Int32 → Int32 → Int32 → qm_M → Option qm_R} {f_B_can : Int32 → Int32 → qm_M → Option qm_R} {l497 : Int32 → Int32 → Int32 → Int32 → qm_M → Option qm_R} (hT : qe_G kp d (T_L_moves f_T_cell f_T_total f_T_moves f_T_move f_B_can)) (h497 : ∀ (v5 : Int32) (v6 : Int32) (s0 : Int32) (s1 : Int32) (m : qm_M), qe_J kp md_L_moves0 d (l497 v5 v6 s0 s1 m) 497 [(0, .ref 0), (5, .int v5), (6, .int v6)] [.int s0, .int s1] m) (v3 : Int32) (v4 : Int32) (v5 : Int32) (v6 : Int32) (m : qm_M) : qe_J kp md_L_moves0 d (X_L_moves_453 f_T_cell f_T_total f_T_moves f_T_move f_B_can l497 v3 v4 v5 v6 m) 453 [(0, .ref 0), (3, .int v3), (4, .int v4), (5, .int v5), (6, .int v6)] [] m := qe_run (B := [(497, [0, 5, 6], qp_cii_ii 0 l497)]) (n := 1000) hT (qe_B1 (qp_cii_ii_ok h497) qe_B0) rfl
def L_L_moves_453 (v3 : Int32) (v4 : Int32) (v5 : Int32) (v6 : Int32) (m : qm_M) : Option qm_R := X_L_moves_453 F_T_cell F_T_total F_T_moves F_T_move F_B_can (L_L_moves_497) v3 v4 v5 v6 m
theorem lg_L_moves_453 {kp : pm_K} {d : Nat} (hT : qe_G kp d (T_L_moves F_T_cell F_T_total F_T_moves F_T_move F_B_can)) (v3 : Int32) (v4 : Int32) (v5 : Int32) (v6 : Int32) (m : qm_M) : qe_J kp md_L_moves0 d (L_L_moves_453 v3 v4 v5 v6 m) 453 [(0, .ref 0), (3, .int v3), (4, .int v4), (5, .int v5), (6, .int v6)] [] m := xg_L_moves_453 hT (lg_L_moves_497 hT) v3 v4 v5 v6 m
def X_L_moves_417 (f_T_cell : Int32 → Int32 → Int32 → qm_M → Option qm_R) (f_T_total : qm_M → Option qm_R) (f_T_moves : Int32 → qm_M → Option qm_R) (f_T_move : Int32 → Int32 → Int32 → qm_M → Option qm_R) (f_B_can : Int32 → Int32 → qm_M → Option qm_R) (l219 : Int32 → Int32 → Int32 → Int32 → Int32 → Int32 → Int32 → Int32 → Int32 → qm_M → Option qm_R) (v3 : Int32) (v4 : Int32) (v5 : Int32) (v6 : Int32) (v7 : Int32) (v8 : Int32) (v9 : Int32) (v10 : Int32) (v11 : Int32) (v12 : Int32) (m : qm_M) : Option qm_R :=
  if v12 = 0 then
    l219 v3 v4 (v5 + (1 : Int32)) (v6 + (1 : Int32)) v7 v8 v9 v10 (v11 + (1 : Int32)) m
  else
    l219 v3 v4 (v5 + (1 : Int32)) (v6 + (0 : Int32)) v7 v8 v9 v10 (v11 + (1 : Int32)) m
set_option maxRecDepth 100000 in
theorem xg_L_moves_417 {kp : pm_K} {d : Nat} {f_T_cell : Int32 → Int32 → Int32 → qm_M → Option qm_R} {f_T_total : qm_M → Option qm_R} {f_T_moves : Int32 → qm_M → Option qm_R} {f_T_move : Int32 → Int32 → Int32 → qm_M → Option qm_R} {f_B_can : Int32 → Int32 → qm_M → Option qm_R} {l219 : Int32 → Int32 → Int32 → Int32 → Int32 → Int32 → Int32 → Int32 → Int32 → qm_M → Option qm_R} (hT : qe_G kp d (T_L_moves f_T_cell f_T_total f_T_moves f_T_move f_B_can)) (h219 : ∀ (v3 : Int32) (v4 : Int32) (v5 : Int32) (v6 : Int32) (v7 : Int32) (v8 : Int32) (v9 : Int32) (v10 : Int32) (v11 : Int32) (m : qm_M), qe_J kp md_L_moves0 d (l219 v3 v4 v5 v6 v7 v8 v9 v10 v11 m) 219 [(0, .ref 0), (1, .ref 112), (2, .ref 123), (3, .int v3), (4, .int v4), (5, .int v5), (6, .int v6), (7, .int v7), (8, .int v8), (9, .int v9), (10, .int v10), (11, .int v11)] [] m) (v3 : Int32) (v4 : Int32) (v5 : Int32) (v6 : Int32) (v7 : Int32) (v8 : Int32) (v9 : Int32) (v10 : Int32) (v11 : Int32) (v12 : Int32) (m : qm_M) : qe_J kp md_L_moves0 d (X_L_moves_417 f_T_cell f_T_total f_T_moves f_T_move f_B_can l219 v3 v4 v5 v6 v7 v8 v9 v10 v11 v12 m) 417 [(0, .ref 0), (1, .ref 112), (2, .ref 123), (3, .int v3), (4, .int v4), (5, .int v5), (6, .int v6), (7, .int v7), (8, .int v8), (9, .int v9), (10, .int v10), (11, .int v11), (12, .int v12)] [] m := qe_run (B := [(219, [0, 1, 2, 3, 4, 5, 6, 7, 8, 9, 10, 11], qp_ccciiiiiiiii_ 0 112 123 l219)]) (n := 1000) hT (qe_B1 (qp_ccciiiiiiiii__ok h219) qe_B0) rfl
def L_L_moves_417 (K129 : Int32 → Int32 → Int32 → Int32 → Int32 → qm_M → Option qm_R) (K199 : Int32 → Int32 → Int32 → Int32 → Int32 → Int32 → Int32 → Int32 → qm_M → Option qm_R) (K219 : Int32 → Int32 → Int32 → Int32 → Int32 → Int32 → Int32 → Int32 → Int32 → qm_M → Option qm_R) (v3 : Int32) (v4 : Int32) (v5 : Int32) (v6 : Int32) (v7 : Int32) (v8 : Int32) (v9 : Int32) (v10 : Int32) (v11 : Int32) (v12 : Int32) (m : qm_M) : Option qm_R := X_L_moves_417 F_T_cell F_T_total F_T_moves F_T_move F_B_can K219 v3 v4 v5 v6 v7 v8 v9 v10 v11 v12 m
theorem lg_L_moves_417 {kp : pm_K} {d : Nat} (hT : qe_G kp d (T_L_moves F_T_cell F_T_total F_T_moves F_T_move F_B_can)) {K129 : Int32 → Int32 → Int32 → Int32 → Int32 → qm_M → Option qm_R} (hK129 : ∀ (v3 : Int32) (v4 : Int32) (v5 : Int32) (v6 : Int32) (v7 : Int32) (m : qm_M), qe_J kp md_L_moves0 d (K129 v3 v4 v5 v6 v7 m) 129 [(0, .ref 0), (1, .ref 112), (2, .ref 123), (3, .int v3), (4, .int v4), (5, .int v5), (6, .int v6), (7, .int v7)] [] m) {K199 : Int32 → Int32 → Int32 → Int32 → Int32 → Int32 → Int32 → Int32 → qm_M → Option qm_R} (hK199 : ∀ (v3 : Int32) (v4 : Int32) (v5 : Int32) (v6 : Int32) (v7 : Int32) (v8 : Int32) (v9 : Int32) (v10 : Int32) (m : qm_M), qe_J kp md_L_moves0 d (K199 v3 v4 v5 v6 v7 v8 v9 v10 m) 199 [(0, .ref 0), (1, .ref 112), (2, .ref 123), (3, .int v3), (4, .int v4), (5, .int v5), (6, .int v6), (7, .int v7), (8, .int v8), (9, .int v9), (10, .int v10)] [] m) {K219 : Int32 → Int32 → Int32 → Int32 → Int32 → Int32 → Int32 → Int32 → Int32 → qm_M → Option qm_R} (hK219 : ∀ (v3 : Int32) (v4 : Int32) (v5 : Int32) (v6 : Int32) (v7 : Int32) (v8 : Int32) (v9 : Int32) (v10 : Int32) (v11 : Int32) (m : qm_M), qe_J kp md_L_moves0 d (K219 v3 v4 v5 v6 v7 v8 v9 v10 v11 m) 219 [(0, .ref 0), (1, .ref 112), (2, .ref 123), (3, .int v3), (4, .int v4), (5, .int v5), (6, .int v6), (7, .int v7), (8, .int v8), (9, .int v9), (10, .int v10), (11, .int v11)] [] m) (v3 : Int32) (v4 : Int32) (v5 : Int32) (v6 : Int32) (v7 : Int32) (v8 : Int32) (v9 : Int32) (v10 : Int32) (v11 : Int32) (v12 : Int32) (m : qm_M) : qe_J kp md_L_moves0 d (L_L_moves_417 K129 K199 K219 v3 v4 v5 v6 v7 v8 v9 v10 v11 v12 m) 417 [(0, .ref 0), (1, .ref 112), (2, .ref 123), (3, .int v3), (4, .int v4), (5, .int v5), (6, .int v6), (7, .int v7), (8, .int v8), (9, .int v9), (10, .int v10), (11, .int v11), (12, .int v12)] [] m := xg_L_moves_417 hT hK219 v3 v4 v5 v6 v7 v8 v9 v10 v11 v12 m
def X_L_moves_356 (f_T_cell : Int32 → Int32 → Int32 → qm_M → Option qm_R) (f_T_total : qm_M → Option qm_R) (f_T_moves : Int32 → qm_M → Option qm_R) (f_T_move : Int32 → Int32 → Int32 → qm_M → Option qm_R) (f_B_can : Int32 → Int32 → qm_M → Option qm_R) (l417 : Int32 → Int32 → Int32 → Int32 → Int32 → Int32 → Int32 → Int32 → Int32 → Int32 → qm_M → Option qm_R) (v3 : Int32) (v4 : Int32) (v5 : Int32) (v6 : Int32) (v7 : Int32) (v8 : Int32) (v9 : Int32) (v10 : Int32) (v11 : Int32) (v12 : Int32) (m : qm_M) : Option qm_R :=
  if v12 = 0 then
    if v6 < (20 : Int32) then
      if v4 = 0 then
        l417 v3 (0 : Int32) v5 v6 v7 v8 v9 v10 v11 v12 m
      else
        qe_rI (f_T_move (1 : Int32) v6 (1 : Int32) m) fun x1 m1 =>
        if x1 = v10 then
          qe_rI (f_T_move (1 : Int32) v6 (2 : Int32) m1) fun x2 m2 =>
          if x2 = v11 then
            qe_rI (f_T_move (1 : Int32) v6 (3 : Int32) m2) fun x3 m3 =>
            if x3 = 0 then
              l417 v3 (1 : Int32) v5 v6 v7 v8 v9 v10 v11 v12 m3
            else
              l417 v3 (0 : Int32) v5 v6 v7 v8 v9 v10 v11 v12 m3
          else
            l417 v3 (0 : Int32) v5 v6 v7 v8 v9 v10 v11 v12 m2
        else
          l417 v3 (0 : Int32) v5 v6 v7 v8 v9 v10 v11 v12 m1
    else
      l417 v3 v4 v5 v6 v7 v8 v9 v10 v11 v12 m
  else
    l417 v3 v4 v5 v6 v7 v8 v9 v10 v11 v12 m
set_option maxRecDepth 100000 in
theorem xg_L_moves_356 {kp : pm_K} {d : Nat} {f_T_cell : Int32 → Int32 → Int32 → qm_M → Option qm_R} {f_T_total : qm_M → Option qm_R} {f_T_moves : Int32 → qm_M → Option qm_R} {f_T_move : Int32 → Int32 → Int32 → qm_M → Option qm_R} {f_B_can : Int32 → Int32 → qm_M → Option qm_R} {l417 : Int32 → Int32 → Int32 → Int32 → Int32 → Int32 → Int32 → Int32 → Int32 → Int32 → qm_M → Option qm_R} (hT : qe_G kp d (T_L_moves f_T_cell f_T_total f_T_moves f_T_move f_B_can)) (h417 : ∀ (v3 : Int32) (v4 : Int32) (v5 : Int32) (v6 : Int32) (v7 : Int32) (v8 : Int32) (v9 : Int32) (v10 : Int32) (v11 : Int32) (v12 : Int32) (m : qm_M), qe_J kp md_L_moves0 d (l417 v3 v4 v5 v6 v7 v8 v9 v10 v11 v12 m) 417 [(0, .ref 0), (1, .ref 112), (2, .ref 123), (3, .int v3), (4, .int v4), (5, .int v5), (6, .int v6), (7, .int v7), (8, .int v8), (9, .int v9), (10, .int v10), (11, .int v11), (12, .int v12)] [] m) (v3 : Int32) (v4 : Int32) (v5 : Int32) (v6 : Int32) (v7 : Int32) (v8 : Int32) (v9 : Int32) (v10 : Int32) (v11 : Int32) (v12 : Int32) (m : qm_M) : qe_J kp md_L_moves0 d (X_L_moves_356 f_T_cell f_T_total f_T_moves f_T_move f_B_can l417 v3 v4 v5 v6 v7 v8 v9 v10 v11 v12 m) 356 [(0, .ref 0), (1, .ref 112), (2, .ref 123), (3, .int v3), (4, .int v4), (5, .int v5), (6, .int v6), (7, .int v7), (8, .int v8), (9, .int v9), (10, .int v10), (11, .int v11), (12, .int v12)] [] m := qe_run (B := [(417, [0, 1, 2, 3, 4, 5, 6, 7, 8, 9, 10, 11, 12], qp_ccciiiiiiiiii_ 0 112 123 l417)]) (n := 1000) hT (qe_B1 (qp_ccciiiiiiiiii__ok h417) qe_B0) rfl
def L_L_moves_356 (K129 : Int32 → Int32 → Int32 → Int32 → Int32 → qm_M → Option qm_R) (K199 : Int32 → Int32 → Int32 → Int32 → Int32 → Int32 → Int32 → Int32 → qm_M → Option qm_R) (K219 : Int32 → Int32 → Int32 → Int32 → Int32 → Int32 → Int32 → Int32 → Int32 → qm_M → Option qm_R) (v3 : Int32) (v4 : Int32) (v5 : Int32) (v6 : Int32) (v7 : Int32) (v8 : Int32) (v9 : Int32) (v10 : Int32) (v11 : Int32) (v12 : Int32) (m : qm_M) : Option qm_R := X_L_moves_356 F_T_cell F_T_total F_T_moves F_T_move F_B_can (L_L_moves_417 K129 K199 K219) v3 v4 v5 v6 v7 v8 v9 v10 v11 v12 m
theorem lg_L_moves_356 {kp : pm_K} {d : Nat} (hT : qe_G kp d (T_L_moves F_T_cell F_T_total F_T_moves F_T_move F_B_can)) {K129 : Int32 → Int32 → Int32 → Int32 → Int32 → qm_M → Option qm_R} (hK129 : ∀ (v3 : Int32) (v4 : Int32) (v5 : Int32) (v6 : Int32) (v7 : Int32) (m : qm_M), qe_J kp md_L_moves0 d (K129 v3 v4 v5 v6 v7 m) 129 [(0, .ref 0), (1, .ref 112), (2, .ref 123), (3, .int v3), (4, .int v4), (5, .int v5), (6, .int v6), (7, .int v7)] [] m) {K199 : Int32 → Int32 → Int32 → Int32 → Int32 → Int32 → Int32 → Int32 → qm_M → Option qm_R} (hK199 : ∀ (v3 : Int32) (v4 : Int32) (v5 : Int32) (v6 : Int32) (v7 : Int32) (v8 : Int32) (v9 : Int32) (v10 : Int32) (m : qm_M), qe_J kp md_L_moves0 d (K199 v3 v4 v5 v6 v7 v8 v9 v10 m) 199 [(0, .ref 0), (1, .ref 112), (2, .ref 123), (3, .int v3), (4, .int v4), (5, .int v5), (6, .int v6), (7, .int v7), (8, .int v8), (9, .int v9), (10, .int v10)] [] m) {K219 : Int32 → Int32 → Int32 → Int32 → Int32 → Int32 → Int32 → Int32 → Int32 → qm_M → Option qm_R} (hK219 : ∀ (v3 : Int32) (v4 : Int32) (v5 : Int32) (v6 : Int32) (v7 : Int32) (v8 : Int32) (v9 : Int32) (v10 : Int32) (v11 : Int32) (m : qm_M), qe_J kp md_L_moves0 d (K219 v3 v4 v5 v6 v7 v8 v9 v10 v11 m) 219 [(0, .ref 0), (1, .ref 112), (2, .ref 123), (3, .int v3), (4, .int v4), (5, .int v5), (6, .int v6), (7, .int v7), (8, .int v8), (9, .int v9), (10, .int v10), (11, .int v11)] [] m) (v3 : Int32) (v4 : Int32) (v5 : Int32) (v6 : Int32) (v7 : Int32) (v8 : Int32) (v9 : Int32) (v10 : Int32) (v11 : Int32) (v12 : Int32) (m : qm_M) : qe_J kp md_L_moves0 d (L_L_moves_356 K129 K199 K219 v3 v4 v5 v6 v7 v8 v9 v10 v11 v12 m) 356 [(0, .ref 0), (1, .ref 112), (2, .ref 123), (3, .int v3), (4, .int v4), (5, .int v5), (6, .int v6), (7, .int v7), (8, .int v8), (9, .int v9), (10, .int v10), (11, .int v11), (12, .int v12)] [] m := xg_L_moves_356 hT (lg_L_moves_417 hT hK129 hK199 hK219) v3 v4 v5 v6 v7 v8 v9 v10 v11 v12 m
def X_L_moves_253 (f_T_cell : Int32 → Int32 → Int32 → qm_M → Option qm_R) (f_T_total : qm_M → Option qm_R) (f_T_moves : Int32 → qm_M → Option qm_R) (f_T_move : Int32 → Int32 → Int32 → qm_M → Option qm_R) (f_B_can : Int32 → Int32 → qm_M → Option qm_R) (l253 : Int32 → Int32 → Int32 → Int32 → Int32 → Int32 → Int32 → Int32 → Int32 → Int32 → Int32 → qm_M → Option qm_R) (l356 : Int32 → Int32 → Int32 → Int32 → Int32 → Int32 → Int32 → Int32 → Int32 → Int32 → qm_M → Option qm_R) (v3 : Int32) (v4 : Int32) (v5 : Int32) (v6 : Int32) (v7 : Int32) (v8 : Int32) (v9 : Int32) (v10 : Int32) (v11 : Int32) (v12 : Int32) (v13 : Int32) (m : qm_M) : Option qm_R :=
  if v13 < (36 : Int32) then
    qe_b (!decide ((6 : Int32) = 0)) (
    if ((qo_ishr v10 (v13 / (6 : Int32))) &&& (1 : Int32)) = (1 : Int32) then
      qe_b (!decide ((6 : Int32) = 0)) (
      if ((qo_ishr v11 (qo_irem v13 (6 : Int32))) &&& (1 : Int32)) = (1 : Int32) then
        qe_b (qm_in v13 36) (
        let x1 : Int32 := (v12 ^^^ (m.1 123 (Int32.toNatClampNeg v13)))
        l253 v3 v4 v5 v6 v7 v8 v9 v10 v11 x1 (v13 + (1 : Int32)) m)
      else
        l253 v3 v4 v5 v6 v7 v8 v9 v10 v11 v12 (v13 + (1 : Int32)) m)
    else
      l253 v3 v4 v5 v6 v7 v8 v9 v10 v11 v12 (v13 + (1 : Int32)) m)
  else
    if v5 < (40 : Int32) then
      qe_rI (f_T_move (0 : Int32) v5 (1 : Int32) m) fun x2 m1 =>
      if x2 = v10 then
        qe_rI (f_T_move (0 : Int32) v5 (2 : Int32) m1) fun x3 m2 =>
        if x3 = v11 then
          qe_rI (f_T_move (0 : Int32) v5 (3 : Int32) m2) fun x4 m3 =>
          if x4 = v12 then
            l356 v3 (1 : Int32) v5 v6 v7 v8 v9 v10 v11 v12 m3
          else
            l356 v3 (0 : Int32) v5 v6 v7 v8 v9 v10 v11 v12 m3
        else
          l356 v3 (0 : Int32) v5 v6 v7 v8 v9 v10 v11 v12 m2
      else
        l356 v3 (0 : Int32) v5 v6 v7 v8 v9 v10 v11 v12 m1
    else
      l356 v3 v4 v5 v6 v7 v8 v9 v10 v11 v12 m
set_option maxRecDepth 100000 in
theorem xg_L_moves_253 {kp : pm_K} {d : Nat} {f_T_cell : Int32 → Int32 → Int32 → qm_M → Option qm_R} {f_T_total : qm_M → Option qm_R} {f_T_moves : Int32 → qm_M → Option qm_R} {f_T_move : Int32 → Int32 → Int32 → qm_M → Option qm_R} {f_B_can : Int32 → Int32 → qm_M → Option qm_R} {l253 : Int32 → Int32 → Int32 → Int32 → Int32 → Int32 → Int32 → Int32 → Int32 → Int32 → Int32 → qm_M → Option qm_R} {l356 : Int32 → Int32 → Int32 → Int32 → Int32 → Int32 → Int32 → Int32 → Int32 → Int32 → qm_M → Option qm_R} (hT : qe_G kp d (T_L_moves f_T_cell f_T_total f_T_moves f_T_move f_B_can)) (h253 : ∀ (v3 : Int32) (v4 : Int32) (v5 : Int32) (v6 : Int32) (v7 : Int32) (v8 : Int32) (v9 : Int32) (v10 : Int32) (v11 : Int32) (v12 : Int32) (v13 : Int32) (m : qm_M), qe_J kp md_L_moves0 d (l253 v3 v4 v5 v6 v7 v8 v9 v10 v11 v12 v13 m) 253 [(0, .ref 0), (1, .ref 112), (2, .ref 123), (3, .int v3), (4, .int v4), (5, .int v5), (6, .int v6), (7, .int v7), (8, .int v8), (9, .int v9), (10, .int v10), (11, .int v11), (12, .int v12), (13, .int v13)] [] m) (h356 : ∀ (v3 : Int32) (v4 : Int32) (v5 : Int32) (v6 : Int32) (v7 : Int32) (v8 : Int32) (v9 : Int32) (v10 : Int32) (v11 : Int32) (v12 : Int32) (m : qm_M), qe_J kp md_L_moves0 d (l356 v3 v4 v5 v6 v7 v8 v9 v10 v11 v12 m) 356 [(0, .ref 0), (1, .ref 112), (2, .ref 123), (3, .int v3), (4, .int v4), (5, .int v5), (6, .int v6), (7, .int v7), (8, .int v8), (9, .int v9), (10, .int v10), (11, .int v11), (12, .int v12)] [] m) (v3 : Int32) (v4 : Int32) (v5 : Int32) (v6 : Int32) (v7 : Int32) (v8 : Int32) (v9 : Int32) (v10 : Int32) (v11 : Int32) (v12 : Int32) (v13 : Int32) (m : qm_M) : qe_J kp md_L_moves0 d (X_L_moves_253 f_T_cell f_T_total f_T_moves f_T_move f_B_can l253 l356 v3 v4 v5 v6 v7 v8 v9 v10 v11 v12 v13 m) 253 [(0, .ref 0), (1, .ref 112), (2, .ref 123), (3, .int v3), (4, .int v4), (5, .int v5), (6, .int v6), (7, .int v7), (8, .int v8), (9, .int v9), (10, .int v10), (11, .int v11), (12, .int v12), (13, .int v13)] [] m := qe_run (B := [(253, [0, 1, 2, 3, 4, 5, 6, 7, 8, 9, 10, 11, 12, 13], qp_ccciiiiiiiiiii_ 0 112 123 l253), (356, [0, 1, 2, 3, 4, 5, 6, 7, 8, 9, 10, 11, 12], qp_ccciiiiiiiiii_ 0 112 123 l356)]) (n := 1000) hT (qe_B1 (qp_ccciiiiiiiiiii__ok h253) (qe_B1 (qp_ccciiiiiiiiii__ok h356) qe_B0)) rfl
def L_L_moves_253 (K129 : Int32 → Int32 → Int32 → Int32 → Int32 → qm_M → Option qm_R) (K199 : Int32 → Int32 → Int32 → Int32 → Int32 → Int32 → Int32 → Int32 → qm_M → Option qm_R) (K219 : Int32 → Int32 → Int32 → Int32 → Int32 → Int32 → Int32 → Int32 → Int32 → qm_M → Option qm_R) : Nat → Int32 → Int32 → Int32 → Int32 → Int32 → Int32 → Int32 → Int32 → Int32 → Int32 → Int32 → qm_M → Option qm_R
  | 0, _, _, _, _, _, _, _, _, _, _, _, _ => none
  | n + 1, v3, v4, v5, v6, v7, v8, v9, v10, v11, v12, v13, m => X_L_moves_253 F_T_cell F_T_total F_T_moves F_T_move F_B_can (L_L_moves_253 K129 K199 K219 n) (L_L_moves_356 K129 K199 K219) v3 v4 v5 v6 v7 v8 v9 v10 v11 v12 v13 m
theorem lg_L_moves_253 {kp : pm_K} {d : Nat} (hT : qe_G kp d (T_L_moves F_T_cell F_T_total F_T_moves F_T_move F_B_can)) {K129 : Int32 → Int32 → Int32 → Int32 → Int32 → qm_M → Option qm_R} (hK129 : ∀ (v3 : Int32) (v4 : Int32) (v5 : Int32) (v6 : Int32) (v7 : Int32) (m : qm_M), qe_J kp md_L_moves0 d (K129 v3 v4 v5 v6 v7 m) 129 [(0, .ref 0), (1, .ref 112), (2, .ref 123), (3, .int v3), (4, .int v4), (5, .int v5), (6, .int v6), (7, .int v7)] [] m) {K199 : Int32 → Int32 → Int32 → Int32 → Int32 → Int32 → Int32 → Int32 → qm_M → Option qm_R} (hK199 : ∀ (v3 : Int32) (v4 : Int32) (v5 : Int32) (v6 : Int32) (v7 : Int32) (v8 : Int32) (v9 : Int32) (v10 : Int32) (m : qm_M), qe_J kp md_L_moves0 d (K199 v3 v4 v5 v6 v7 v8 v9 v10 m) 199 [(0, .ref 0), (1, .ref 112), (2, .ref 123), (3, .int v3), (4, .int v4), (5, .int v5), (6, .int v6), (7, .int v7), (8, .int v8), (9, .int v9), (10, .int v10)] [] m) {K219 : Int32 → Int32 → Int32 → Int32 → Int32 → Int32 → Int32 → Int32 → Int32 → qm_M → Option qm_R} (hK219 : ∀ (v3 : Int32) (v4 : Int32) (v5 : Int32) (v6 : Int32) (v7 : Int32) (v8 : Int32) (v9 : Int32) (v10 : Int32) (v11 : Int32) (m : qm_M), qe_J kp md_L_moves0 d (K219 v3 v4 v5 v6 v7 v8 v9 v10 v11 m) 219 [(0, .ref 0), (1, .ref 112), (2, .ref 123), (3, .int v3), (4, .int v4), (5, .int v5), (6, .int v6), (7, .int v7), (8, .int v8), (9, .int v9), (10, .int v10), (11, .int v11)] [] m) : ∀ (n : Nat) (v3 : Int32) (v4 : Int32) (v5 : Int32) (v6 : Int32) (v7 : Int32) (v8 : Int32) (v9 : Int32) (v10 : Int32) (v11 : Int32) (v12 : Int32) (v13 : Int32) (m : qm_M), qe_J kp md_L_moves0 d (L_L_moves_253 K129 K199 K219 n v3 v4 v5 v6 v7 v8 v9 v10 v11 v12 v13 m) 253 [(0, .ref 0), (1, .ref 112), (2, .ref 123), (3, .int v3), (4, .int v4), (5, .int v5), (6, .int v6), (7, .int v7), (8, .int v8), (9, .int v9), (10, .int v10), (11, .int v11), (12, .int v12), (13, .int v13)] [] m
  | 0, v3, v4, v5, v6, v7, v8, v9, v10, v11, v12, v13, m => qe_none rfl
  | n + 1, v3, v4, v5, v6, v7, v8, v9, v10, v11, v12, v13, m => xg_L_moves_253 hT (lg_L_moves_253 hT hK129 hK199 hK219 n) (lg_L_moves_356 hT hK129 hK199 hK219) v3 v4 v5 v6 v7 v8 v9 v10 v11 v12 v13 m
def X_L_moves_219 (f_T_cell : Int32 → Int32 → Int32 → qm_M → Option qm_R) (f_T_total : qm_M → Option qm_R) (f_T_moves : Int32 → qm_M → Option qm_R) (f_T_move : Int32 → Int32 → Int32 → qm_M → Option qm_R) (f_B_can : Int32 → Int32 → qm_M → Option qm_R) (l199 : Int32 → Int32 → Int32 → Int32 → Int32 → Int32 → Int32 → Int32 → qm_M → Option qm_R) (l219 : Int32 → Int32 → Int32 → Int32 → Int32 → Int32 → Int32 → Int32 → Int32 → qm_M → Option qm_R) (l253 : Int32 → Int32 → Int32 → Int32 → Int32 → Int32 → Int32 → Int32 → Int32 → Int32 → Int32 → qm_M → Option qm_R) (v3 : Int32) (v4 : Int32) (v5 : Int32) (v6 : Int32) (v7 : Int32) (v8 : Int32) (v9 : Int32) (v10 : Int32) (v11 : Int32) (m : qm_M) : Option qm_R :=
  if v11 < (qo_ishl (2 : Int32) v9) then
    if v4 = 0 then
      l199 v3 v4 v5 v6 v7 v8 v9 (v10 + (1 : Int32)) m
    else
      qe_rI (f_B_can v10 v11 m) fun x1 m1 =>
      if x1 = 0 then
        l219 v3 v4 v5 v6 v7 v8 v9 v10 (v11 + (1 : Int32)) m1
      else
        l253 v3 v4 v5 v6 v7 v8 v9 v10 v11 v3 (0 : Int32) m1
  else
    l199 v3 v4 v5 v6 v7 v8 v9 (v10 + (1 : Int32)) m
set_option maxRecDepth 100000 in
theorem xg_L_moves_219 {kp : pm_K} {d : Nat} {f_T_cell : Int32 → Int32 → Int32 → qm_M → Option qm_R} {f_T_total : qm_M → Option qm_R} {f_T_moves : Int32 → qm_M → Option qm_R} {f_T_move : Int32 → Int32 → Int32 → qm_M → Option qm_R} {f_B_can : Int32 → Int32 → qm_M → Option qm_R} {l199 : Int32 → Int32 → Int32 → Int32 → Int32 → Int32 → Int32 → Int32 → qm_M → Option qm_R} {l219 : Int32 → Int32 → Int32 → Int32 → Int32 → Int32 → Int32 → Int32 → Int32 → qm_M → Option qm_R} {l253 : Int32 → Int32 → Int32 → Int32 → Int32 → Int32 → Int32 → Int32 → Int32 → Int32 → Int32 → qm_M → Option qm_R} (hT : qe_G kp d (T_L_moves f_T_cell f_T_total f_T_moves f_T_move f_B_can)) (h199 : ∀ (v3 : Int32) (v4 : Int32) (v5 : Int32) (v6 : Int32) (v7 : Int32) (v8 : Int32) (v9 : Int32) (v10 : Int32) (m : qm_M), qe_J kp md_L_moves0 d (l199 v3 v4 v5 v6 v7 v8 v9 v10 m) 199 [(0, .ref 0), (1, .ref 112), (2, .ref 123), (3, .int v3), (4, .int v4), (5, .int v5), (6, .int v6), (7, .int v7), (8, .int v8), (9, .int v9), (10, .int v10)] [] m) (h219 : ∀ (v3 : Int32) (v4 : Int32) (v5 : Int32) (v6 : Int32) (v7 : Int32) (v8 : Int32) (v9 : Int32) (v10 : Int32) (v11 : Int32) (m : qm_M), qe_J kp md_L_moves0 d (l219 v3 v4 v5 v6 v7 v8 v9 v10 v11 m) 219 [(0, .ref 0), (1, .ref 112), (2, .ref 123), (3, .int v3), (4, .int v4), (5, .int v5), (6, .int v6), (7, .int v7), (8, .int v8), (9, .int v9), (10, .int v10), (11, .int v11)] [] m) (h253 : ∀ (v3 : Int32) (v4 : Int32) (v5 : Int32) (v6 : Int32) (v7 : Int32) (v8 : Int32) (v9 : Int32) (v10 : Int32) (v11 : Int32) (v12 : Int32) (v13 : Int32) (m : qm_M), qe_J kp md_L_moves0 d (l253 v3 v4 v5 v6 v7 v8 v9 v10 v11 v12 v13 m) 253 [(0, .ref 0), (1, .ref 112), (2, .ref 123), (3, .int v3), (4, .int v4), (5, .int v5), (6, .int v6), (7, .int v7), (8, .int v8), (9, .int v9), (10, .int v10), (11, .int v11), (12, .int v12), (13, .int v13)] [] m) (v3 : Int32) (v4 : Int32) (v5 : Int32) (v6 : Int32) (v7 : Int32) (v8 : Int32) (v9 : Int32) (v10 : Int32) (v11 : Int32) (m : qm_M) : qe_J kp md_L_moves0 d (X_L_moves_219 f_T_cell f_T_total f_T_moves f_T_move f_B_can l199 l219 l253 v3 v4 v5 v6 v7 v8 v9 v10 v11 m) 219 [(0, .ref 0), (1, .ref 112), (2, .ref 123), (3, .int v3), (4, .int v4), (5, .int v5), (6, .int v6), (7, .int v7), (8, .int v8), (9, .int v9), (10, .int v10), (11, .int v11)] [] m := qe_run (B := [(199, [0, 1, 2, 3, 4, 5, 6, 7, 8, 9, 10], qp_ccciiiiiiii_ 0 112 123 l199), (219, [0, 1, 2, 3, 4, 5, 6, 7, 8, 9, 10, 11], qp_ccciiiiiiiii_ 0 112 123 l219), (253, [0, 1, 2, 3, 4, 5, 6, 7, 8, 9, 10, 11, 12, 13], qp_ccciiiiiiiiiii_ 0 112 123 l253)]) (n := 1000) hT (qe_B1 (qp_ccciiiiiiii__ok h199) (qe_B1 (qp_ccciiiiiiiii__ok h219) (qe_B1 (qp_ccciiiiiiiiiii__ok h253) qe_B0))) rfl
def L_L_moves_219 (K129 : Int32 → Int32 → Int32 → Int32 → Int32 → qm_M → Option qm_R) (K199 : Int32 → Int32 → Int32 → Int32 → Int32 → Int32 → Int32 → Int32 → qm_M → Option qm_R) : Nat → Int32 → Int32 → Int32 → Int32 → Int32 → Int32 → Int32 → Int32 → Int32 → qm_M → Option qm_R
  | 0, _, _, _, _, _, _, _, _, _, _ => none
  | n + 1, v3, v4, v5, v6, v7, v8, v9, v10, v11, m => X_L_moves_219 F_T_cell F_T_total F_T_moves F_T_move F_B_can K199 (L_L_moves_219 K129 K199 n) (L_L_moves_253 K129 K199 (L_L_moves_219 K129 K199 n) 1000000) v3 v4 v5 v6 v7 v8 v9 v10 v11 m
theorem lg_L_moves_219 {kp : pm_K} {d : Nat} (hT : qe_G kp d (T_L_moves F_T_cell F_T_total F_T_moves F_T_move F_B_can)) {K129 : Int32 → Int32 → Int32 → Int32 → Int32 → qm_M → Option qm_R} (hK129 : ∀ (v3 : Int32) (v4 : Int32) (v5 : Int32) (v6 : Int32) (v7 : Int32) (m : qm_M), qe_J kp md_L_moves0 d (K129 v3 v4 v5 v6 v7 m) 129 [(0, .ref 0), (1, .ref 112), (2, .ref 123), (3, .int v3), (4, .int v4), (5, .int v5), (6, .int v6), (7, .int v7)] [] m) {K199 : Int32 → Int32 → Int32 → Int32 → Int32 → Int32 → Int32 → Int32 → qm_M → Option qm_R} (hK199 : ∀ (v3 : Int32) (v4 : Int32) (v5 : Int32) (v6 : Int32) (v7 : Int32) (v8 : Int32) (v9 : Int32) (v10 : Int32) (m : qm_M), qe_J kp md_L_moves0 d (K199 v3 v4 v5 v6 v7 v8 v9 v10 m) 199 [(0, .ref 0), (1, .ref 112), (2, .ref 123), (3, .int v3), (4, .int v4), (5, .int v5), (6, .int v6), (7, .int v7), (8, .int v8), (9, .int v9), (10, .int v10)] [] m) : ∀ (n : Nat) (v3 : Int32) (v4 : Int32) (v5 : Int32) (v6 : Int32) (v7 : Int32) (v8 : Int32) (v9 : Int32) (v10 : Int32) (v11 : Int32) (m : qm_M), qe_J kp md_L_moves0 d (L_L_moves_219 K129 K199 n v3 v4 v5 v6 v7 v8 v9 v10 v11 m) 219 [(0, .ref 0), (1, .ref 112), (2, .ref 123), (3, .int v3), (4, .int v4), (5, .int v5), (6, .int v6), (7, .int v7), (8, .int v8), (9, .int v9), (10, .int v10), (11, .int v11)] [] m
  | 0, v3, v4, v5, v6, v7, v8, v9, v10, v11, m => qe_none rfl
  | n + 1, v3, v4, v5, v6, v7, v8, v9, v10, v11, m => xg_L_moves_219 hT hK199 (lg_L_moves_219 hT hK129 hK199 n) (lg_L_moves_253 hT hK129 hK199 (lg_L_moves_219 hT hK129 hK199 n) 1000000) v3 v4 v5 v6 v7 v8 v9 v10 v11 m
def X_L_moves_199 (f_T_cell : Int32 → Int32 → Int32 → qm_M → Option qm_R) (f_T_total : qm_M → Option qm_R) (f_T_moves : Int32 → qm_M → Option qm_R) (f_T_move : Int32 → Int32 → Int32 → qm_M → Option qm_R) (f_B_can : Int32 → Int32 → qm_M → Option qm_R) (l129 : Int32 → Int32 → Int32 → Int32 → Int32 → qm_M → Option qm_R) (l219 : Int32 → Int32 → Int32 → Int32 → Int32 → Int32 → Int32 → Int32 → Int32 → qm_M → Option qm_R) (v3 : Int32) (v4 : Int32) (v5 : Int32) (v6 : Int32) (v7 : Int32) (v8 : Int32) (v9 : Int32) (v10 : Int32) (m : qm_M) : Option qm_R :=
  if v10 < (qo_ishl (2 : Int32) v8) then
    if v4 = 0 then
      l129 v3 v4 v5 v6 (v7 + (1 : Int32)) m
    else
      l219 v3 v4 v5 v6 v7 v8 v9 v10 (qo_ishl (1 : Int32) v9) m
  else
    l129 v3 v4 v5 v6 (v7 + (1 : Int32)) m
set_option maxRecDepth 100000 in
theorem xg_L_moves_199 {kp : pm_K} {d : Nat} {f_T_cell : Int32 → Int32 → Int32 → qm_M → Option qm_R} {f_T_total : qm_M → Option qm_R} {f_T_moves : Int32 → qm_M → Option qm_R} {f_T_move : Int32 → Int32 → Int32 → qm_M → Option qm_R} {f_B_can : Int32 → Int32 → qm_M → Option qm_R} {l129 : Int32 → Int32 → Int32 → Int32 → Int32 → qm_M → Option qm_R} {l219 : Int32 → Int32 → Int32 → Int32 → Int32 → Int32 → Int32 → Int32 → Int32 → qm_M → Option qm_R} (hT : qe_G kp d (T_L_moves f_T_cell f_T_total f_T_moves f_T_move f_B_can)) (h129 : ∀ (v3 : Int32) (v4 : Int32) (v5 : Int32) (v6 : Int32) (v7 : Int32) (m : qm_M), qe_J kp md_L_moves0 d (l129 v3 v4 v5 v6 v7 m) 129 [(0, .ref 0), (1, .ref 112), (2, .ref 123), (3, .int v3), (4, .int v4), (5, .int v5), (6, .int v6), (7, .int v7)] [] m) (h219 : ∀ (v3 : Int32) (v4 : Int32) (v5 : Int32) (v6 : Int32) (v7 : Int32) (v8 : Int32) (v9 : Int32) (v10 : Int32) (v11 : Int32) (m : qm_M), qe_J kp md_L_moves0 d (l219 v3 v4 v5 v6 v7 v8 v9 v10 v11 m) 219 [(0, .ref 0), (1, .ref 112), (2, .ref 123), (3, .int v3), (4, .int v4), (5, .int v5), (6, .int v6), (7, .int v7), (8, .int v8), (9, .int v9), (10, .int v10), (11, .int v11)] [] m) (v3 : Int32) (v4 : Int32) (v5 : Int32) (v6 : Int32) (v7 : Int32) (v8 : Int32) (v9 : Int32) (v10 : Int32) (m : qm_M) : qe_J kp md_L_moves0 d (X_L_moves_199 f_T_cell f_T_total f_T_moves f_T_move f_B_can l129 l219 v3 v4 v5 v6 v7 v8 v9 v10 m) 199 [(0, .ref 0), (1, .ref 112), (2, .ref 123), (3, .int v3), (4, .int v4), (5, .int v5), (6, .int v6), (7, .int v7), (8, .int v8), (9, .int v9), (10, .int v10)] [] m := qe_run (B := [(129, [0, 1, 2, 3, 4, 5, 6, 7], qp_ccciiiii_ 0 112 123 l129), (219, [0, 1, 2, 3, 4, 5, 6, 7, 8, 9, 10, 11], qp_ccciiiiiiiii_ 0 112 123 l219)]) (n := 1000) hT (qe_B1 (qp_ccciiiii__ok h129) (qe_B1 (qp_ccciiiiiiiii__ok h219) qe_B0)) rfl
def L_L_moves_199 (K129 : Int32 → Int32 → Int32 → Int32 → Int32 → qm_M → Option qm_R) : Nat → Int32 → Int32 → Int32 → Int32 → Int32 → Int32 → Int32 → Int32 → qm_M → Option qm_R
  | 0, _, _, _, _, _, _, _, _, _ => none
  | n + 1, v3, v4, v5, v6, v7, v8, v9, v10, m => X_L_moves_199 F_T_cell F_T_total F_T_moves F_T_move F_B_can K129 (L_L_moves_219 K129 (L_L_moves_199 K129 n) 1000000) v3 v4 v5 v6 v7 v8 v9 v10 m
theorem lg_L_moves_199 {kp : pm_K} {d : Nat} (hT : qe_G kp d (T_L_moves F_T_cell F_T_total F_T_moves F_T_move F_B_can)) {K129 : Int32 → Int32 → Int32 → Int32 → Int32 → qm_M → Option qm_R} (hK129 : ∀ (v3 : Int32) (v4 : Int32) (v5 : Int32) (v6 : Int32) (v7 : Int32) (m : qm_M), qe_J kp md_L_moves0 d (K129 v3 v4 v5 v6 v7 m) 129 [(0, .ref 0), (1, .ref 112), (2, .ref 123), (3, .int v3), (4, .int v4), (5, .int v5), (6, .int v6), (7, .int v7)] [] m) : ∀ (n : Nat) (v3 : Int32) (v4 : Int32) (v5 : Int32) (v6 : Int32) (v7 : Int32) (v8 : Int32) (v9 : Int32) (v10 : Int32) (m : qm_M), qe_J kp md_L_moves0 d (L_L_moves_199 K129 n v3 v4 v5 v6 v7 v8 v9 v10 m) 199 [(0, .ref 0), (1, .ref 112), (2, .ref 123), (3, .int v3), (4, .int v4), (5, .int v5), (6, .int v6), (7, .int v7), (8, .int v8), (9, .int v9), (10, .int v10)] [] m
  | 0, v3, v4, v5, v6, v7, v8, v9, v10, m => qe_none rfl
  | n + 1, v3, v4, v5, v6, v7, v8, v9, v10, m => xg_L_moves_199 hT hK129 (lg_L_moves_219 hT hK129 (lg_L_moves_199 hT hK129 n) 1000000) v3 v4 v5 v6 v7 v8 v9 v10 m
def X_L_moves_129 (f_T_cell : Int32 → Int32 → Int32 → qm_M → Option qm_R) (f_T_total : qm_M → Option qm_R) (f_T_moves : Int32 → qm_M → Option qm_R) (f_T_move : Int32 → Int32 → Int32 → qm_M → Option qm_R) (f_B_can : Int32 → Int32 → qm_M → Option qm_R) (l129 : Int32 → Int32 → Int32 → Int32 → Int32 → qm_M → Option qm_R) (l199 : Int32 → Int32 → Int32 → Int32 → Int32 → Int32 → Int32 → Int32 → qm_M → Option qm_R) (l453 : Int32 → Int32 → Int32 → Int32 → qm_M → Option qm_R) (v3 : Int32) (v4 : Int32) (v5 : Int32) (v6 : Int32) (v7 : Int32) (m : qm_M) : Option qm_R :=
  if v7 < (36 : Int32) then
    if v4 = 0 then
      l453 v3 v4 v5 v6 m
    else
      qe_b (!decide ((6 : Int32) = 0)) (
      qe_b (!decide ((6 : Int32) = 0)) (
      if (v7 / (6 : Int32)) < (m.1 113 0) then
        if (qo_irem v7 (6 : Int32)) < (m.1 113 1) then
          qe_b (qm_in (v7 / (6 : Int32)) 6) (
          qe_b (qm_isA (qm_rf 116 (Int32.toNatClampNeg (v7 / (6 : Int32)))) 2 || qm_isL (qm_rf 116 (Int32.toNatClampNeg (v7 / (6 : Int32)))) 3) (
          qe_b (qm_in (qo_irem v7 (6 : Int32)) (qm_n (qm_rf 116 (Int32.toNatClampNeg (v7 / (6 : Int32)))))) (
          if (qm_gI m (qm_rf 116 (Int32.toNatClampNeg (v7 / (6 : Int32)))) (Int32.toNatClampNeg (qo_irem v7 (6 : Int32)))) = 0 then
            l129 v3 v4 v5 v6 (v7 + (1 : Int32)) m
          else
            l199 v3 v4 v5 v6 v7 (v7 / (6 : Int32)) (qo_irem v7 (6 : Int32)) (qo_ishl (1 : Int32) (v7 / (6 : Int32))) m)))
        else
          l129 v3 v4 v5 v6 (v7 + (1 : Int32)) m
      else
        l129 v3 v4 v5 v6 (v7 + (1 : Int32)) m))
  else
    l453 v3 v4 v5 v6 m
set_option maxRecDepth 100000 in
theorem xg_L_moves_129 {kp : pm_K} {d : Nat} {f_T_cell : Int32 → Int32 → Int32 → qm_M → Option qm_R} {f_T_total : qm_M → Option qm_R} {f_T_moves : Int32 → qm_M → Option qm_R} {f_T_move : Int32 → Int32 → Int32 → qm_M → Option qm_R} {f_B_can : Int32 → Int32 → qm_M → Option qm_R} {l129 : Int32 → Int32 → Int32 → Int32 → Int32 → qm_M → Option qm_R} {l199 : Int32 → Int32 → Int32 → Int32 → Int32 → Int32 → Int32 → Int32 → qm_M → Option qm_R} {l453 : Int32 → Int32 → Int32 → Int32 → qm_M → Option qm_R} (hT : qe_G kp d (T_L_moves f_T_cell f_T_total f_T_moves f_T_move f_B_can)) (h129 : ∀ (v3 : Int32) (v4 : Int32) (v5 : Int32) (v6 : Int32) (v7 : Int32) (m : qm_M), qe_J kp md_L_moves0 d (l129 v3 v4 v5 v6 v7 m) 129 [(0, .ref 0), (1, .ref 112), (2, .ref 123), (3, .int v3), (4, .int v4), (5, .int v5), (6, .int v6), (7, .int v7)] [] m) (h199 : ∀ (v3 : Int32) (v4 : Int32) (v5 : Int32) (v6 : Int32) (v7 : Int32) (v8 : Int32) (v9 : Int32) (v10 : Int32) (m : qm_M), qe_J kp md_L_moves0 d (l199 v3 v4 v5 v6 v7 v8 v9 v10 m) 199 [(0, .ref 0), (1, .ref 112), (2, .ref 123), (3, .int v3), (4, .int v4), (5, .int v5), (6, .int v6), (7, .int v7), (8, .int v8), (9, .int v9), (10, .int v10)] [] m) (h453 : ∀ (v3 : Int32) (v4 : Int32) (v5 : Int32) (v6 : Int32) (m : qm_M), qe_J kp md_L_moves0 d (l453 v3 v4 v5 v6 m) 453 [(0, .ref 0), (3, .int v3), (4, .int v4), (5, .int v5), (6, .int v6)] [] m) (v3 : Int32) (v4 : Int32) (v5 : Int32) (v6 : Int32) (v7 : Int32) (m : qm_M) : qe_J kp md_L_moves0 d (X_L_moves_129 f_T_cell f_T_total f_T_moves f_T_move f_B_can l129 l199 l453 v3 v4 v5 v6 v7 m) 129 [(0, .ref 0), (1, .ref 112), (2, .ref 123), (3, .int v3), (4, .int v4), (5, .int v5), (6, .int v6), (7, .int v7)] [] m := qe_run (B := [(129, [0, 1, 2, 3, 4, 5, 6, 7], qp_ccciiiii_ 0 112 123 l129), (199, [0, 1, 2, 3, 4, 5, 6, 7, 8, 9, 10], qp_ccciiiiiiii_ 0 112 123 l199), (453, [0, 3, 4, 5, 6], qp_ciiii_ 0 l453)]) (n := 1000) hT (qe_B1 (qp_ccciiiii__ok h129) (qe_B1 (qp_ccciiiiiiii__ok h199) (qe_B1 (qp_ciiii__ok h453) qe_B0))) rfl
def L_L_moves_129 : Nat → Int32 → Int32 → Int32 → Int32 → Int32 → qm_M → Option qm_R
  | 0, _, _, _, _, _, _ => none
  | n + 1, v3, v4, v5, v6, v7, m => X_L_moves_129 F_T_cell F_T_total F_T_moves F_T_move F_B_can (L_L_moves_129 n) (L_L_moves_199 (L_L_moves_129 n) 1000000) (L_L_moves_453) v3 v4 v5 v6 v7 m
theorem lg_L_moves_129 {kp : pm_K} {d : Nat} (hT : qe_G kp d (T_L_moves F_T_cell F_T_total F_T_moves F_T_move F_B_can)) : ∀ (n : Nat) (v3 : Int32) (v4 : Int32) (v5 : Int32) (v6 : Int32) (v7 : Int32) (m : qm_M), qe_J kp md_L_moves0 d (L_L_moves_129 n v3 v4 v5 v6 v7 m) 129 [(0, .ref 0), (1, .ref 112), (2, .ref 123), (3, .int v3), (4, .int v4), (5, .int v5), (6, .int v6), (7, .int v7)] [] m
  | 0, v3, v4, v5, v6, v7, m => qe_none rfl
  | n + 1, v3, v4, v5, v6, v7, m => xg_L_moves_129 hT (lg_L_moves_129 hT n) (lg_L_moves_199 hT (lg_L_moves_129 hT n) 1000000) (lg_L_moves_453 hT) v3 v4 v5 v6 v7 m
def X_L_moves_10 (f_T_cell : Int32 → Int32 → Int32 → qm_M → Option qm_R) (f_T_total : qm_M → Option qm_R) (f_T_moves : Int32 → qm_M → Option qm_R) (f_T_move : Int32 → Int32 → Int32 → qm_M → Option qm_R) (f_B_can : Int32 → Int32 → qm_M → Option qm_R) (l10 : Int32 → Int32 → qm_M → Option qm_R) (l129 : Int32 → Int32 → Int32 → Int32 → Int32 → qm_M → Option qm_R) (v3 : Int32) (v4 : Int32) (m : qm_M) : Option qm_R :=
  if v4 < (36 : Int32) then
    qe_b (!decide ((6 : Int32) = 0)) (
    if (v4 / (6 : Int32)) < (m.1 113 0) then
      qe_b (!decide ((6 : Int32) = 0)) (
      if (qo_irem v4 (6 : Int32)) < (m.1 113 1) then
        qe_b (!decide ((6 : Int32) = 0)) (
        qe_b (!decide ((6 : Int32) = 0)) (
        qe_rI (f_T_cell (v4 / (6 : Int32)) (qo_irem v4 (6 : Int32)) (0 : Int32) m) fun x1 m1 =>
        qe_b (qm_in v4 36) (
        let m2 : qm_M := qm_sI m1 123 (Int32.toNatClampNeg v4) x1
        qe_b (!decide ((6 : Int32) = 0)) (
        qe_b (qm_in (v4 / (6 : Int32)) 6) (
        qe_b (!decide ((6 : Int32) = 0)) (
        qe_b (qm_isA (qm_rf 116 (Int32.toNatClampNeg (v4 / (6 : Int32)))) 2 || qm_isL (qm_rf 116 (Int32.toNatClampNeg (v4 / (6 : Int32)))) 3) (
        qe_b (qm_in (qo_irem v4 (6 : Int32)) (qm_n (qm_rf 116 (Int32.toNatClampNeg (v4 / (6 : Int32)))))) (
        if (qm_gI m2 (qm_rf 116 (Int32.toNatClampNeg (v4 / (6 : Int32)))) (Int32.toNatClampNeg (qo_irem v4 (6 : Int32)))) = 0 then
          l10 (v3 ^^^ (0 : Int32)) (v4 + (1 : Int32)) m2
        else
          qe_b (qm_in v4 36) (
          let x2 : Int32 := (v3 ^^^ (m2.1 123 (Int32.toNatClampNeg v4)))
          l10 x2 (v4 + (1 : Int32)) m2)))))))))
      else
        l10 v3 (v4 + (1 : Int32)) m)
    else
      l10 v3 (v4 + (1 : Int32)) m)
  else
    qe_rL (f_T_total m) fun x3 m3 =>
    if (lg_cmp x3 (Int32.toInt64 v3)) = 0 then
      l129 v3 (1 : Int32) (0 : Int32) (0 : Int32) (0 : Int32) m3
    else
      l129 v3 (0 : Int32) (0 : Int32) (0 : Int32) (0 : Int32) m3
set_option maxRecDepth 100000 in
theorem xg_L_moves_10 {kp : pm_K} {d : Nat} {f_T_cell : Int32 → Int32 → Int32 → qm_M → Option qm_R} {f_T_total : qm_M → Option qm_R} {f_T_moves : Int32 → qm_M → Option qm_R} {f_T_move : Int32 → Int32 → Int32 → qm_M → Option qm_R} {f_B_can : Int32 → Int32 → qm_M → Option qm_R} {l10 : Int32 → Int32 → qm_M → Option qm_R} {l129 : Int32 → Int32 → Int32 → Int32 → Int32 → qm_M → Option qm_R} (hT : qe_G kp d (T_L_moves f_T_cell f_T_total f_T_moves f_T_move f_B_can)) (h10 : ∀ (v3 : Int32) (v4 : Int32) (m : qm_M), qe_J kp md_L_moves0 d (l10 v3 v4 m) 10 [(0, .ref 0), (1, .ref 112), (2, .ref 123), (3, .int v3), (4, .int v4)] [] m) (h129 : ∀ (v3 : Int32) (v4 : Int32) (v5 : Int32) (v6 : Int32) (v7 : Int32) (m : qm_M), qe_J kp md_L_moves0 d (l129 v3 v4 v5 v6 v7 m) 129 [(0, .ref 0), (1, .ref 112), (2, .ref 123), (3, .int v3), (4, .int v4), (5, .int v5), (6, .int v6), (7, .int v7)] [] m) (v3 : Int32) (v4 : Int32) (m : qm_M) : qe_J kp md_L_moves0 d (X_L_moves_10 f_T_cell f_T_total f_T_moves f_T_move f_B_can l10 l129 v3 v4 m) 10 [(0, .ref 0), (1, .ref 112), (2, .ref 123), (3, .int v3), (4, .int v4)] [] m := qe_run (B := [(10, [0, 1, 2, 3, 4], qp_cccii_ 0 112 123 l10), (129, [0, 1, 2, 3, 4, 5, 6, 7], qp_ccciiiii_ 0 112 123 l129)]) (n := 1000) hT (qe_B1 (qp_cccii__ok h10) (qe_B1 (qp_ccciiiii__ok h129) qe_B0)) rfl
def L_L_moves_10 : Nat → Int32 → Int32 → qm_M → Option qm_R
  | 0, _, _, _ => none
  | n + 1, v3, v4, m => X_L_moves_10 F_T_cell F_T_total F_T_moves F_T_move F_B_can (L_L_moves_10 n) (L_L_moves_129 1000000) v3 v4 m
theorem lg_L_moves_10 {kp : pm_K} {d : Nat} (hT : qe_G kp d (T_L_moves F_T_cell F_T_total F_T_moves F_T_move F_B_can)) : ∀ (n : Nat) (v3 : Int32) (v4 : Int32) (m : qm_M), qe_J kp md_L_moves0 d (L_L_moves_10 n v3 v4 m) 10 [(0, .ref 0), (1, .ref 112), (2, .ref 123), (3, .int v3), (4, .int v4)] [] m
  | 0, v3, v4, m => qe_none rfl
  | n + 1, v3, v4, m => xg_L_moves_10 hT (lg_L_moves_10 hT n) (lg_L_moves_129 hT 1000000) v3 v4 m
def X_L_moves_e (f_T_cell : Int32 → Int32 → Int32 → qm_M → Option qm_R) (f_T_total : qm_M → Option qm_R) (f_T_moves : Int32 → qm_M → Option qm_R) (f_T_move : Int32 → Int32 → Int32 → qm_M → Option qm_R) (f_B_can : Int32 → Int32 → qm_M → Option qm_R) (l10 : Int32 → Int32 → qm_M → Option qm_R)  (m : qm_M) : Option qm_R :=
  l10 (0 : Int32) (0 : Int32) m
set_option maxRecDepth 100000 in
theorem xg_L_moves_e {kp : pm_K} {d : Nat} {f_T_cell : Int32 → Int32 → Int32 → qm_M → Option qm_R} {f_T_total : qm_M → Option qm_R} {f_T_moves : Int32 → qm_M → Option qm_R} {f_T_move : Int32 → Int32 → Int32 → qm_M → Option qm_R} {f_B_can : Int32 → Int32 → qm_M → Option qm_R} {l10 : Int32 → Int32 → qm_M → Option qm_R} (hT : qe_G kp d (T_L_moves f_T_cell f_T_total f_T_moves f_T_move f_B_can)) (h10 : ∀ (v3 : Int32) (v4 : Int32) (m : qm_M), qe_J kp md_L_moves0 d (l10 v3 v4 m) 10 [(0, .ref 0), (1, .ref 112), (2, .ref 123), (3, .int v3), (4, .int v4)] [] m) (m : qm_M) : qe_J kp md_L_moves0 d (X_L_moves_e f_T_cell f_T_total f_T_moves f_T_move f_B_can l10 m) 5 [(0, .ref 0), (1, .ref 112), (2, .ref 123)] [] m := qe_run (B := [(10, [0, 1, 2, 3, 4], qp_cccii_ 0 112 123 l10)]) (n := 1000) hT (qe_B1 (qp_cccii__ok h10) qe_B0) rfl
def F_L_moves (m : qm_M) : Option qm_R := X_L_moves_e F_T_cell F_T_total F_T_moves F_T_move F_B_can (L_L_moves_10 1000000) m
theorem fj_L_moves {kp : pm_K} {d : Nat} (hT : qe_G kp d (T_L_moves F_T_cell F_T_total F_T_moves F_T_move F_B_can)) (m : qm_M) : qe_J kp md_L_moves0 d (F_L_moves m) 5 [(0, .ref 0), (1, .ref 112), (2, .ref 123)] [] m := xg_L_moves_e hT (lg_L_moves_10 hT 1000000) m
theorem fs_L_moves {kp : pm_K} (d : Nat) (m : qm_M) : qe_J kp md_L_moves0 (d + 35) (F_L_moves m) 5 [(0, .ref 0), (1, .ref 112), (2, .ref 123)] [] m := fj_L_moves (d := d + 35) (qe_G1 (fg_T_cell (d + 0)) (qe_G1 (fg_T_total (d + 0)) (qe_G1 (fg_T_moves (d + 0)) (qe_G1 (fg_T_move (d + 0)) (qe_G1 (fg_B_can (d + 31)) qe_G0))))) m
