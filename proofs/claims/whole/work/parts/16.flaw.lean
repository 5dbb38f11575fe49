/-! the law -/
def X_L_law_2133 (kp : pm_K) (f_T_count : Int32 → qm_M → Option qm_R) (f_M_count : Int32 → qm_M → Option qm_R) (l18 : Int32 → qm_M → Option qm_R) (v3 : Int32) (m : qm_M) : Option qm_R :=
  qe_b (qm_in (v3 + (1 : Int32)) kp.1) (
  qe_rI (f_T_count (kp.2 (Int32.toNatClampNeg (v3 + (1 : Int32)))) m) fun x1 m1 =>
  qe_b (qm_in (v3 + (1 : Int32)) kp.1) (
  qe_rI (f_M_count (kp.2 (Int32.toNatClampNeg (v3 + (1 : Int32)))) m1) fun x2 m2 =>
  if x1 = x2 then
    l18 (v3 + (6 : Int32)) m2
  else
    some (some (.int (0 : Int32)), m2)))
set_option maxRecDepth 100000 in
set_option maxHeartbeats 8000000 in
theorem xg_L_law_2133 {kp : pm_K} {d : Nat} {f_T_count : Int32 → qm_M → Option qm_R} {f_M_count : Int32 → qm_M → Option qm_R} {l18 : Int32 → qm_M → Option qm_R} (hT : qe_G kp d [(183, 0, 10, 1, qw_ci 0 f_T_count), (317, 0, 11, 1, qw_ci 112 f_M_count)]) (h18 : ∀ (v3 : Int32) (m : qm_M), qe_J kp md_L_law d (l18 v3 m) 18 [(0, .ref 1000000), (1, .ref 0), (2, .ref 112), (3, .int v3)] [] m) (v3 : Int32) (m : qm_M) : qe_J kp md_L_law d (X_L_law_2133 kp f_T_count f_M_count l18 v3 m) 2133 [(0, .ref 1000000), (1, .ref 0), (2, .ref 112), (3, .int v3)] [] m := qe_runs (B := [(18, [0, 1, 2, 3], qp_ccci_ 1000000 0 112 l18)]) (n := 1000) hT (qe_B1 (qp_ccci__ok h18) qe_B0) rfl
def X_L_law_2100 (kp : pm_K) (f_T_sets : Int32 → Int32 → qm_M → Option qm_R) (f_M_sets : Int32 → Int32 → qm_M → Option qm_R) (l18 : Int32 → qm_M → Option qm_R) (v3 : Int32) (m : qm_M) : Option qm_R :=
  qe_b (qm_in (v3 + (1 : Int32)) kp.1) (
  qe_b (qm_in (v3 + (2 : Int32)) kp.1) (
  qe_rI (f_T_sets (kp.2 (Int32.toNatClampNeg (v3 + (1 : Int32)))) (kp.2 (Int32.toNatClampNeg (v3 + (2 : Int32)))) m) fun x1 m1 =>
  qe_b (qm_in (v3 + (1 : Int32)) kp.1) (
  qe_b (qm_in (v3 + (2 : Int32)) kp.1) (
  qe_rI (f_M_sets (kp.2 (Int32.toNatClampNeg (v3 + (1 : Int32)))) (kp.2 (Int32.toNatClampNeg (v3 + (2 : Int32)))) m1) fun x2 m2 =>
  if x1 = x2 then
    l18 (v3 + (6 : Int32)) m2
  else
    some (some (.int (0 : Int32)), m2)))))
set_option maxRecDepth 100000 in
set_option maxHeartbeats 8000000 in
theorem xg_L_law_2100 {kp : pm_K} {d : Nat} {f_T_sets : Int32 → Int32 → qm_M → Option qm_R} {f_M_sets : Int32 → Int32 → qm_M → Option qm_R} {l18 : Int32 → qm_M → Option qm_R} (hT : qe_G kp d [(182, 0, 10, 1, qw_cii 0 f_T_sets), (284, 0, 11, 1, qw_cii 112 f_M_sets)]) (h18 : ∀ (v3 : Int32) (m : qm_M), qe_J kp md_L_law d (l18 v3 m) 18 [(0, .ref 1000000), (1, .ref 0), (2, .ref 112), (3, .int v3)] [] m) (v3 : Int32) (m : qm_M) : qe_J kp md_L_law d (X_L_law_2100 kp f_T_sets f_M_sets l18 v3 m) 2100 [(0, .ref 1000000), (1, .ref 0), (2, .ref 112), (3, .int v3)] [] m := qe_runs (B := [(18, [0, 1, 2, 3], qp_ccci_ 1000000 0 112 l18)]) (n := 1000) hT (qe_B1 (qp_ccci__ok h18) qe_B0) rfl
def X_L_law_2057 (kp : pm_K) (f_T_move : Int32 → Int32 → Int32 → qm_M → Option qm_R) (f_M_move : Int32 → Int32 → Int32 → qm_M → Option qm_R) (l18 : Int32 → qm_M → Option qm_R) (v3 : Int32) (m : qm_M) : Option qm_R :=
  qe_b (qm_in (v3 + (1 : Int32)) kp.1) (
  qe_b (qm_in (v3 + (2 : Int32)) kp.1) (
  qe_b (qm_in (v3 + (3 : Int32)) kp.1) (
  qe_rI (f_T_move (kp.2 (Int32.toNatClampNeg (v3 + (1 : Int32)))) (kp.2 (Int32.toNatClampNeg (v3 + (2 : Int32)))) (kp.2 (Int32.toNatClampNeg (v3 + (3 : Int32)))) m) fun x1 m1 =>
  qe_b (qm_in (v3 + (1 : Int32)) kp.1) (
  qe_b (qm_in (v3 + (2 : Int32)) kp.1) (
  qe_b (qm_in (v3 + (3 : Int32)) kp.1) (
  qe_rI (f_M_move (kp.2 (Int32.toNatClampNeg (v3 + (1 : Int32)))) (kp.2 (Int32.toNatClampNeg (v3 + (2 : Int32)))) (kp.2 (Int32.toNatClampNeg (v3 + (3 : Int32)))) m1) fun x2 m2 =>
  if x1 = x2 then
    l18 (v3 + (6 : Int32)) m2
  else
    some (some (.int (0 : Int32)), m2)))))))
set_option maxRecDepth 100000 in
set_option maxHeartbeats 8000000 in
theorem xg_L_law_2057 {kp : pm_K} {d : Nat} {f_T_move : Int32 → Int32 → Int32 → qm_M → Option qm_R} {f_M_move : Int32 → Int32 → Int32 → qm_M → Option qm_R} {l18 : Int32 → qm_M → Option qm_R} (hT : qe_G kp d [(181, 0, 10, 1, qw_ciii 0 f_T_move), (308, 0, 11, 1, qw_ciii 112 f_M_move)]) (h18 : ∀ (v3 : Int32) (m : qm_M), qe_J kp md_L_law d (l18 v3 m) 18 [(0, .ref 1000000), (1, .ref 0), (2, .ref 112), (3, .int v3)] [] m) (v3 : Int32) (m : qm_M) : qe_J kp md_L_law d (X_L_law_2057 kp f_T_move f_M_move l18 v3 m) 2057 [(0, .ref 1000000), (1, .ref 0), (2, .ref 112), (3, .int v3)] [] m := qe_runs (B := [(18, [0, 1, 2, 3], qp_ccci_ 1000000 0 112 l18)]) (n := 1000) hT (qe_B1 (qp_ccci__ok h18) qe_B0) rfl
def X_L_law_2034 (kp : pm_K) (f_T_moves : Int32 → qm_M → Option qm_R) (f_M_moves : Int32 → qm_M → Option qm_R) (l18 : Int32 → qm_M → Option qm_R) (v3 : Int32) (m : qm_M) : Option qm_R :=
  qe_b (qm_in (v3 + (1 : Int32)) kp.1) (
  qe_rI (f_T_moves (kp.2 (Int32.toNatClampNeg (v3 + (1 : Int32)))) m) fun x1 m1 =>
  qe_b (qm_in (v3 + (1 : Int32)) kp.1) (
  qe_rI (f_M_moves (kp.2 (Int32.toNatClampNeg (v3 + (1 : Int32)))) m1) fun x2 m2 =>
  if x1 = x2 then
    l18 (v3 + (6 : Int32)) m2
  else
    some (some (.int (0 : Int32)), m2)))
set_option maxRecDepth 100000 in
set_option maxHeartbeats 8000000 in
theorem xg_L_law_2034 {kp : pm_K} {d : Nat} {f_T_moves : Int32 → qm_M → Option qm_R} {f_M_moves : Int32 → qm_M → Option qm_R} {l18 : Int32 → qm_M → Option qm_R} (hT : qe_G kp d [(180, 0, 10, 1, qw_ci 0 f_T_moves), (307, 0, 11, 1, qw_ci 112 f_M_moves)]) (h18 : ∀ (v3 : Int32) (m : qm_M), qe_J kp md_L_law d (l18 v3 m) 18 [(0, .ref 1000000), (1, .ref 0), (2, .ref 112), (3, .int v3)] [] m) (v3 : Int32) (m : qm_M) : qe_J kp md_L_law d (X_L_law_2034 kp f_T_moves f_M_moves l18 v3 m) 2034 [(0, .ref 1000000), (1, .ref 0), (2, .ref 112), (3, .int v3)] [] m := qe_runs (B := [(18, [0, 1, 2, 3], qp_ccci_ 1000000 0 112 l18)]) (n := 1000) hT (qe_B1 (qp_ccci__ok h18) qe_B0) rfl
def X_L_law_2020 (kp : pm_K) (f_T_total : qm_M → Option qm_R) (f_M_total : qm_M → Option qm_R) (l18 : Int32 → qm_M → Option qm_R) (v3 : Int32) (m : qm_M) : Option qm_R :=
  qe_rL (f_T_total m) fun x1 m1 =>
  qe_rL (f_M_total m1) fun x2 m2 =>
  if (lg_cmp x1 x2) = 0 then
    l18 (v3 + (6 : Int32)) m2
  else
    some (some (.int (0 : Int32)), m2)
set_option maxRecDepth 100000 in
set_option maxHeartbeats 8000000 in
theorem xg_L_law_2020 {kp : pm_K} {d : Nat} {f_T_total : qm_M → Option qm_R} {f_M_total : qm_M → Option qm_R} {l18 : Int32 → qm_M → Option qm_R} (hT : qe_G kp d [(179, 0, 10, 2, qw_c 0 f_T_total), (300, 0, 11, 2, qw_c 112 f_M_total)]) (h18 : ∀ (v3 : Int32) (m : qm_M), qe_J kp md_L_law d (l18 v3 m) 18 [(0, .ref 1000000), (1, .ref 0), (2, .ref 112), (3, .int v3)] [] m) (v3 : Int32) (m : qm_M) : qe_J kp md_L_law d (X_L_law_2020 kp f_T_total f_M_total l18 v3 m) 2020 [(0, .ref 1000000), (1, .ref 0), (2, .ref 112), (3, .int v3)] [] m := qe_runs (B := [(18, [0, 1, 2, 3], qp_ccci_ 1000000 0 112 l18)]) (n := 1000) hT (qe_B1 (qp_ccci__ok h18) qe_B0) rfl
def X_L_law_1977 (kp : pm_K) (f_T_cell : Int32 → Int32 → Int32 → qm_M → Option qm_R) (f_M_cell : Int32 → Int32 → Int32 → qm_M → Option qm_R) (l18 : Int32 → qm_M → Option qm_R) (v3 : Int32) (m : qm_M) : Option qm_R :=
  qe_b (qm_in (v3 + (1 : Int32)) kp.1) (
  qe_b (qm_in (v3 + (2 : Int32)) kp.1) (
  qe_b (qm_in (v3 + (3 : Int32)) kp.1) (
  qe_rI (f_T_cell (kp.2 (Int32.toNatClampNeg (v3 + (1 : Int32)))) (kp.2 (Int32.toNatClampNeg (v3 + (2 : Int32)))) (kp.2 (Int32.toNatClampNeg (v3 + (3 : Int32)))) m) fun x1 m1 =>
  qe_b (qm_in (v3 + (1 : Int32)) kp.1) (
  qe_b (qm_in (v3 + (2 : Int32)) kp.1) (
  qe_b (qm_in (v3 + (3 : Int32)) kp.1) (
  qe_rI (f_M_cell (kp.2 (Int32.toNatClampNeg (v3 + (1 : Int32)))) (kp.2 (Int32.toNatClampNeg (v3 + (2 : Int32)))) (kp.2 (Int32.toNatClampNeg (v3 + (3 : Int32)))) m1) fun x2 m2 =>
  if x1 = x2 then
    l18 (v3 + (6 : Int32)) m2
  else
    some (some (.int (0 : Int32)), m2)))))))
set_option maxRecDepth 100000 in
set_option maxHeartbeats 8000000 in
theorem xg_L_law_1977 {kp : pm_K} {d : Nat} {f_T_cell : Int32 → Int32 → Int32 → qm_M → Option qm_R} {f_M_cell : Int32 → Int32 → Int32 → qm_M → Option qm_R} {l18 : Int32 → qm_M → Option qm_R} (hT : qe_G kp d [(178, 0, 10, 1, qw_ciii 0 f_T_cell), (297, 0, 11, 1, qw_ciii 112 f_M_cell)]) (h18 : ∀ (v3 : Int32) (m : qm_M), qe_J kp md_L_law d (l18 v3 m) 18 [(0, .ref 1000000), (1, .ref 0), (2, .ref 112), (3, .int v3)] [] m) (v3 : Int32) (m : qm_M) : qe_J kp md_L_law d (X_L_law_1977 kp f_T_cell f_M_cell l18 v3 m) 1977 [(0, .ref 1000000), (1, .ref 0), (2, .ref 112), (3, .int v3)] [] m := qe_runs (B := [(18, [0, 1, 2, 3], qp_ccci_ 1000000 0 112 l18)]) (n := 1000) hT (qe_B1 (qp_ccci__ok h18) qe_B0) rfl
def X_L_law_1944 (kp : pm_K) (f_T_worth : Int32 → Int32 → qm_M → Option qm_R) (f_M_worth : Int32 → Int32 → qm_M → Option qm_R) (l18 : Int32 → qm_M → Option qm_R) (v3 : Int32) (m : qm_M) : Option qm_R :=
  qe_b (qm_in (v3 + (1 : Int32)) kp.1) (
  qe_b (qm_in (v3 + (2 : Int32)) kp.1) (
  qe_rI (f_T_worth (kp.2 (Int32.toNatClampNeg (v3 + (1 : Int32)))) (kp.2 (Int32.toNatClampNeg (v3 + (2 : Int32)))) m) fun x1 m1 =>
  qe_b (qm_in (v3 + (1 : Int32)) kp.1) (
  qe_b (qm_in (v3 + (2 : Int32)) kp.1) (
  qe_rI (f_M_worth (kp.2 (Int32.toNatClampNeg (v3 + (1 : Int32)))) (kp.2 (Int32.toNatClampNeg (v3 + (2 : Int32)))) m1) fun x2 m2 =>
  if x1 = x2 then
    l18 (v3 + (6 : Int32)) m2
  else
    some (some (.int (0 : Int32)), m2)))))
set_option maxRecDepth 100000 in
set_option maxHeartbeats 8000000 in
theorem xg_L_law_1944 {kp : pm_K} {d : Nat} {f_T_worth : Int32 → Int32 → qm_M → Option qm_R} {f_M_worth : Int32 → Int32 → qm_M → Option qm_R} {l18 : Int32 → qm_M → Option qm_R} (hT : qe_G kp d [(177, 0, 10, 1, qw_cii 0 f_T_worth), (289, 0, 11, 1, qw_cii 112 f_M_worth)]) (h18 : ∀ (v3 : Int32) (m : qm_M), qe_J kp md_L_law d (l18 v3 m) 18 [(0, .ref 1000000), (1, .ref 0), (2, .ref 112), (3, .int v3)] [] m) (v3 : Int32) (m : qm_M) : qe_J kp md_L_law d (X_L_law_1944 kp f_T_worth f_M_worth l18 v3 m) 1944 [(0, .ref 1000000), (1, .ref 0), (2, .ref 112), (3, .int v3)] [] m := qe_runs (B := [(18, [0, 1, 2, 3], qp_ccci_ 1000000 0 112 l18)]) (n := 1000) hT (qe_B1 (qp_ccci__ok h18) qe_B0) rfl
def X_L_law_1880 (kp : pm_K) (f_T_at : Int64 → Int32 → qm_M → Option qm_R) (f_M_at : Int64 → Int32 → qm_M → Option qm_R) (l18 : Int32 → qm_M → Option qm_R) (v3 : Int32) (m : qm_M) : Option qm_R :=
  qe_b (qm_in (v3 + (1 : Int32)) kp.1) (
  qe_b (qm_in (v3 + (2 : Int32)) kp.1) (
  qe_b (qm_in (v3 + (3 : Int32)) kp.1) (
  qe_rL (f_T_at ((qo_lshl (Int32.toInt64 (kp.2 (Int32.toNatClampNeg (v3 + (1 : Int32))))) (32 : Int32)) ||| ((Int32.toInt64 (kp.2 (Int32.toNatClampNeg (v3 + (2 : Int32))))) &&& (4294967295 : Int64))) (kp.2 (Int32.toNatClampNeg (v3 + (3 : Int32)))) m) fun x1 m1 =>
  qe_b (qm_in (v3 + (1 : Int32)) kp.1) (
  qe_b (qm_in (v3 + (2 : Int32)) kp.1) (
  qe_b (qm_in (v3 + (3 : Int32)) kp.1) (
  qe_rL (f_M_at ((qo_lshl (Int32.toInt64 (kp.2 (Int32.toNatClampNeg (v3 + (1 : Int32))))) (32 : Int32)) ||| ((Int32.toInt64 (kp.2 (Int32.toNatClampNeg (v3 + (2 : Int32))))) &&& (4294967295 : Int64))) (kp.2 (Int32.toNatClampNeg (v3 + (3 : Int32)))) m1) fun x2 m2 =>
  if (lg_cmp x1 x2) = 0 then
    l18 (v3 + (6 : Int32)) m2
  else
    some (some (.int (0 : Int32)), m2)))))))
set_option maxRecDepth 100000 in
set_option maxHeartbeats 8000000 in
theorem xg_L_law_1880 {kp : pm_K} {d : Nat} {f_T_at : Int64 → Int32 → qm_M → Option qm_R} {f_M_at : Int64 → Int32 → qm_M → Option qm_R} {l18 : Int32 → qm_M → Option qm_R} (hT : qe_G kp d [(162, 0, 10, 2, qw_cli 0 f_T_at), (221, 0, 11, 2, qw_cli 112 f_M_at)]) (h18 : ∀ (v3 : Int32) (m : qm_M), qe_J kp md_L_law d (l18 v3 m) 18 [(0, .ref 1000000), (1, .ref 0), (2, .ref 112), (3, .int v3)] [] m) (v3 : Int32) (m : qm_M) : qe_J kp md_L_law d (X_L_law_1880 kp f_T_at f_M_at l18 v3 m) 1880 [(0, .ref 1000000), (1, .ref 0), (2, .ref 112), (3, .int v3)] [] m := qe_runs (B := [(18, [0, 1, 2, 3], qp_ccci_ 1000000 0 112 l18)]) (n := 1000) hT (qe_B1 (qp_ccci__ok h18) qe_B0) rfl
def X_L_law_1856 (kp : pm_K) (f_T_place : Int32 → qm_M → Option qm_R) (f_M_place_IJ : Int32 → qm_M → Option qm_R) (l18 : Int32 → qm_M → Option qm_R) (v3 : Int32) (m : qm_M) : Option qm_R :=
  qe_b (qm_in (v3 + (1 : Int32)) kp.1) (
  qe_rL (f_T_place (kp.2 (Int32.toNatClampNeg (v3 + (1 : Int32)))) m) fun x1 m1 =>
  qe_b (qm_in (v3 + (1 : Int32)) kp.1) (
  qe_rL (f_M_place_IJ (kp.2 (Int32.toNatClampNeg (v3 + (1 : Int32)))) m1) fun x2 m2 =>
  if (lg_cmp x1 x2) = 0 then
    l18 (v3 + (6 : Int32)) m2
  else
    some (some (.int (0 : Int32)), m2)))
set_option maxRecDepth 100000 in
set_option maxHeartbeats 8000000 in
theorem xg_L_law_1856 {kp : pm_K} {d : Nat} {f_T_place : Int32 → qm_M → Option qm_R} {f_M_place_IJ : Int32 → qm_M → Option qm_R} {l18 : Int32 → qm_M → Option qm_R} (hT : qe_G kp d [(161, 0, 10, 2, qw_ci 0 f_T_place), (218, 0, 11, 2, qw_ci 112 f_M_place_IJ)]) (h18 : ∀ (v3 : Int32) (m : qm_M), qe_J kp md_L_law d (l18 v3 m) 18 [(0, .ref 1000000), (1, .ref 0), (2, .ref 112), (3, .int v3)] [] m) (v3 : Int32) (m : qm_M) : qe_J kp md_L_law d (X_L_law_1856 kp f_T_place f_M_place_IJ l18 v3 m) 1856 [(0, .ref 1000000), (1, .ref 0), (2, .ref 112), (3, .int v3)] [] m := qe_runs (B := [(18, [0, 1, 2, 3], qp_ccci_ 1000000 0 112 l18)]) (n := 1000) hT (qe_B1 (qp_ccci__ok h18) qe_B0) rfl
def X_L_law_1763 (kp : pm_K) (f_T_log : Int64 → Int64 → qm_M → Option qm_R) (f_M_log : Int64 → Int64 → qm_M → Option qm_R) (l18 : Int32 → qm_M → Option qm_R) (v3 : Int32) (m : qm_M) : Option qm_R :=
  qe_b (qm_in (v3 + (1 : Int32)) kp.1) (
  qe_b (qm_in (v3 + (2 : Int32)) kp.1) (
  qe_b (qm_in (v3 + (3 : Int32)) kp.1) (
  qe_b (qm_in (v3 + (4 : Int32)) kp.1) (
  qe_rI (f_T_log ((qo_lshl (Int32.toInt64 (kp.2 (Int32.toNatClampNeg (v3 + (1 : Int32))))) (32 : Int32)) ||| ((Int32.toInt64 (kp.2 (Int32.toNatClampNeg (v3 + (2 : Int32))))) &&& (4294967295 : Int64))) ((qo_lshl (Int32.toInt64 (kp.2 (Int32.toNatClampNeg (v3 + (3 : Int32))))) (32 : Int32)) ||| ((Int32.toInt64 (kp.2 (Int32.toNatClampNeg (v3 + (4 : Int32))))) &&& (4294967295 : Int64))) m) fun x1 m1 =>
  qe_b (qm_in (v3 + (1 : Int32)) kp.1) (
  qe_b (qm_in (v3 + (2 : Int32)) kp.1) (
  qe_b (qm_in (v3 + (3 : Int32)) kp.1) (
  qe_b (qm_in (v3 + (4 : Int32)) kp.1) (
  qe_rI (f_M_log ((qo_lshl (Int32.toInt64 (kp.2 (Int32.toNatClampNeg (v3 + (1 : Int32))))) (32 : Int32)) ||| ((Int32.toInt64 (kp.2 (Int32.toNatClampNeg (v3 + (2 : Int32))))) &&& (4294967295 : Int64))) ((qo_lshl (Int32.toInt64 (kp.2 (Int32.toNatClampNeg (v3 + (3 : Int32))))) (32 : Int32)) ||| ((Int32.toInt64 (kp.2 (Int32.toNatClampNeg (v3 + (4 : Int32))))) &&& (4294967295 : Int64))) m1) fun x2 m2 =>
  if x1 = x2 then
    l18 (v3 + (6 : Int32)) m2
  else
    some (some (.int (0 : Int32)), m2)))))))))
set_option maxRecDepth 100000 in
set_option maxHeartbeats 8000000 in
theorem xg_L_law_1763 {kp : pm_K} {d : Nat} {f_T_log : Int64 → Int64 → qm_M → Option qm_R} {f_M_log : Int64 → Int64 → qm_M → Option qm_R} {l18 : Int32 → qm_M → Option qm_R} (hT : qe_G kp d [(174, 0, 10, 1, qw_cll 0 f_T_log), (216, 0, 11, 1, qw_cll 112 f_M_log)]) (h18 : ∀ (v3 : Int32) (m : qm_M), qe_J kp md_L_law d (l18 v3 m) 18 [(0, .ref 1000000), (1, .ref 0), (2, .ref 112), (3, .int v3)] [] m) (v3 : Int32) (m : qm_M) : qe_J kp md_L_law d (X_L_law_1763 kp f_T_log f_M_log l18 v3 m) 1763 [(0, .ref 1000000), (1, .ref 0), (2, .ref 112), (3, .int v3)] [] m := qe_runs (B := [(18, [0, 1, 2, 3], qp_ccci_ 1000000 0 112 l18)]) (n := 1000) hT (qe_B1 (qp_ccci__ok h18) qe_B0) rfl
def X_L_law_1659 (kp : pm_K) (f_T_solve : Int64 → Int64 → Int32 → qm_M → Option qm_R) (f_M_solve : Int64 → Int64 → Int32 → qm_M → Option qm_R) (l18 : Int32 → qm_M → Option qm_R) (v3 : Int32) (m : qm_M) : Option qm_R :=
  qe_b (qm_in (v3 + (1 : Int32)) kp.1) (
  qe_b (qm_in (v3 + (2 : Int32)) kp.1) (
  qe_b (qm_in (v3 + (3 : Int32)) kp.1) (
  qe_b (qm_in (v3 + (4 : Int32)) kp.1) (
  qe_b (qm_in (v3 + (5 : Int32)) kp.1) (
  qe_rL (f_T_solve ((qo_lshl (Int32.toInt64 (kp.2 (Int32.toNatClampNeg (v3 + (1 : Int32))))) (32 : Int32)) ||| ((Int32.toInt64 (kp.2 (Int32.toNatClampNeg (v3 + (2 : Int32))))) &&& (4294967295 : Int64))) ((qo_lshl (Int32.toInt64 (kp.2 (Int32.toNatClampNeg (v3 + (3 : Int32))))) (32 : Int32)) ||| ((Int32.toInt64 (kp.2 (Int32.toNatClampNeg (v3 + (4 : Int32))))) &&& (4294967295 : Int64))) (kp.2 (Int32.toNatClampNeg (v3 + (5 : Int32)))) m) fun x1 m1 =>
  qe_b (qm_in (v3 + (1 : Int32)) kp.1) (
  qe_b (qm_in (v3 + (2 : Int32)) kp.1) (
  qe_b (qm_in (v3 + (3 : Int32)) kp.1) (
  qe_b (qm_in (v3 + (4 : Int32)) kp.1) (
  qe_b (qm_in (v3 + (5 : Int32)) kp.1) (
  qe_rL (f_M_solve ((qo_lshl (Int32.toInt64 (kp.2 (Int32.toNatClampNeg (v3 + (1 : Int32))))) (32 : Int32)) ||| ((Int32.toInt64 (kp.2 (Int32.toNatClampNeg (v3 + (2 : Int32))))) &&& (4294967295 : Int64))) ((qo_lshl (Int32.toInt64 (kp.2 (Int32.toNatClampNeg (v3 + (3 : Int32))))) (32 : Int32)) ||| ((Int32.toInt64 (kp.2 (Int32.toNatClampNeg (v3 + (4 : Int32))))) &&& (4294967295 : Int64))) (kp.2 (Int32.toNatClampNeg (v3 + (5 : Int32)))) m1) fun x2 m2 =>
  if (lg_cmp x1 x2) = 0 then
    l18 (v3 + (6 : Int32)) m2
  else
    some (some (.int (0 : Int32)), m2)))))))))))
set_option maxRecDepth 100000 in
set_option maxHeartbeats 8000000 in
theorem xg_L_law_1659 {kp : pm_K} {d : Nat} {f_T_solve : Int64 → Int64 → Int32 → qm_M → Option qm_R} {f_M_solve : Int64 → Int64 → Int32 → qm_M → Option qm_R} {l18 : Int32 → qm_M → Option qm_R} (hT : qe_G kp d [(173, 0, 10, 2, qw_clli 0 f_T_solve), (213, 0, 11, 2, qw_clli 112 f_M_solve)]) (h18 : ∀ (v3 : Int32) (m : qm_M), qe_J kp md_L_law d (l18 v3 m) 18 [(0, .ref 1000000), (1, .ref 0), (2, .ref 112), (3, .int v3)] [] m) (v3 : Int32) (m : qm_M) : qe_J kp md_L_law d (X_L_law_1659 kp f_T_solve f_M_solve l18 v3 m) 1659 [(0, .ref 1000000), (1, .ref 0), (2, .ref 112), (3, .int v3)] [] m := qe_runs (B := [(18, [0, 1, 2, 3], qp_ccci_ 1000000 0 112 l18)]) (n := 1000) hT (qe_B1 (qp_ccci__ok h18) qe_B0) rfl
def X_L_law_1605 (kp : pm_K) (f_T_half : Int64 → qm_M → Option qm_R) (f_M_half : Int64 → qm_M → Option qm_R) (l18 : Int32 → qm_M → Option qm_R) (v3 : Int32) (m : qm_M) : Option qm_R :=
  qe_b (qm_in (v3 + (1 : Int32)) kp.1) (
  qe_b (qm_in (v3 + (2 : Int32)) kp.1) (
  qe_rL (f_T_half ((qo_lshl (Int32.toInt64 (kp.2 (Int32.toNatClampNeg (v3 + (1 : Int32))))) (32 : Int32)) ||| ((Int32.toInt64 (kp.2 (Int32.toNatClampNeg (v3 + (2 : Int32))))) &&& (4294967295 : Int64))) m) fun x1 m1 =>
  qe_b (qm_in (v3 + (1 : Int32)) kp.1) (
  qe_b (qm_in (v3 + (2 : Int32)) kp.1) (
  qe_rL (f_M_half ((qo_lshl (Int32.toInt64 (kp.2 (Int32.toNatClampNeg (v3 + (1 : Int32))))) (32 : Int32)) ||| ((Int32.toInt64 (kp.2 (Int32.toNatClampNeg (v3 + (2 : Int32))))) &&& (4294967295 : Int64))) m1) fun x2 m2 =>
  if (lg_cmp x1 x2) = 0 then
    l18 (v3 + (6 : Int32)) m2
  else
    some (some (.int (0 : Int32)), m2)))))
set_option maxRecDepth 100000 in
set_option maxHeartbeats 8000000 in
theorem xg_L_law_1605 {kp : pm_K} {d : Nat} {f_T_half : Int64 → qm_M → Option qm_R} {f_M_half : Int64 → qm_M → Option qm_R} {l18 : Int32 → qm_M → Option qm_R} (hT : qe_G kp d [(172, 0, 10, 2, qw_cl 0 f_T_half), (212, 0, 11, 2, qw_cl 112 f_M_half)]) (h18 : ∀ (v3 : Int32) (m : qm_M), qe_J kp md_L_law d (l18 v3 m) 18 [(0, .ref 1000000), (1, .ref 0), (2, .ref 112), (3, .int v3)] [] m) (v3 : Int32) (m : qm_M) : qe_J kp md_L_law d (X_L_law_1605 kp f_T_half f_M_half l18 v3 m) 1605 [(0, .ref 1000000), (1, .ref 0), (2, .ref 112), (3, .int v3)] [] m := qe_runs (B := [(18, [0, 1, 2, 3], qp_ccci_ 1000000 0 112 l18)]) (n := 1000) hT (qe_B1 (qp_ccci__ok h18) qe_B0) rfl
def X_L_law_1542 (kp : pm_K) (f_T_trace : Int64 → Int32 → qm_M → Option qm_R) (f_M_trace : Int64 → Int32 → qm_M → Option qm_R) (l18 : Int32 → qm_M → Option qm_R) (v3 : Int32) (m : qm_M) : Option qm_R :=
  qe_b (qm_in (v3 + (1 : Int32)) kp.1) (
  qe_b (qm_in (v3 + (2 : Int32)) kp.1) (
  qe_b (qm_in (v3 + (3 : Int32)) kp.1) (
  qe_rI (f_T_trace ((qo_lshl (Int32.toInt64 (kp.2 (Int32.toNatClampNeg (v3 + (1 : Int32))))) (32 : Int32)) ||| ((Int32.toInt64 (kp.2 (Int32.toNatClampNeg (v3 + (2 : Int32))))) &&& (4294967295 : Int64))) (kp.2 (Int32.toNatClampNeg (v3 + (3 : Int32)))) m) fun x1 m1 =>
  qe_b (qm_in (v3 + (1 : Int32)) kp.1) (
  qe_b (qm_in (v3 + (2 : Int32)) kp.1) (
  qe_b (qm_in (v3 + (3 : Int32)) kp.1) (
  qe_rI (f_M_trace ((qo_lshl (Int32.toInt64 (kp.2 (Int32.toNatClampNeg (v3 + (1 : Int32))))) (32 : Int32)) ||| ((Int32.toInt64 (kp.2 (Int32.toNatClampNeg (v3 + (2 : Int32))))) &&& (4294967295 : Int64))) (kp.2 (Int32.toNatClampNeg (v3 + (3 : Int32)))) m1) fun x2 m2 =>
  if x1 = x2 then
    l18 (v3 + (6 : Int32)) m2
  else
    some (some (.int (0 : Int32)), m2)))))))
set_option maxRecDepth 100000 in
set_option maxHeartbeats 8000000 in
theorem xg_L_law_1542 {kp : pm_K} {d : Nat} {f_T_trace : Int64 → Int32 → qm_M → Option qm_R} {f_M_trace : Int64 → Int32 → qm_M → Option qm_R} {l18 : Int32 → qm_M → Option qm_R} (hT : qe_G kp d [(171, 0, 10, 1, qw_cli 0 f_T_trace), (208, 0, 11, 1, qw_cli 112 f_M_trace)]) (h18 : ∀ (v3 : Int32) (m : qm_M), qe_J kp md_L_law d (l18 v3 m) 18 [(0, .ref 1000000), (1, .ref 0), (2, .ref 112), (3, .int v3)] [] m) (v3 : Int32) (m : qm_M) : qe_J kp md_L_law d (X_L_law_1542 kp f_T_trace f_M_trace l18 v3 m) 1542 [(0, .ref 1000000), (1, .ref 0), (2, .ref 112), (3, .int v3)] [] m := qe_runs (B := [(18, [0, 1, 2, 3], qp_ccci_ 1000000 0 112 l18)]) (n := 1000) hT (qe_B1 (qp_ccci__ok h18) qe_B0) rfl
def X_L_law_1488 (kp : pm_K) (f_T_least : Int64 → qm_M → Option qm_R) (f_M_least : Int64 → qm_M → Option qm_R) (l18 : Int32 → qm_M → Option qm_R) (v3 : Int32) (m : qm_M) : Option qm_R :=
  qe_b (qm_in (v3 + (1 : Int32)) kp.1) (
  qe_b (qm_in (v3 + (2 : Int32)) kp.1) (
  qe_rL (f_T_least ((qo_lshl (Int32.toInt64 (kp.2 (Int32.toNatClampNeg (v3 + (1 : Int32))))) (32 : Int32)) ||| ((Int32.toInt64 (kp.2 (Int32.toNatClampNeg (v3 + (2 : Int32))))) &&& (4294967295 : Int64))) m) fun x1 m1 =>
  qe_b (qm_in (v3 + (1 : Int32)) kp.1) (
  qe_b (qm_in (v3 + (2 : Int32)) kp.1) (
  qe_rL (f_M_least ((qo_lshl (Int32.toInt64 (kp.2 (Int32.toNatClampNeg (v3 + (1 : Int32))))) (32 : Int32)) ||| ((Int32.toInt64 (kp.2 (Int32.toNatClampNeg (v3 + (2 : Int32))))) &&& (4294967295 : Int64))) m1) fun x2 m2 =>
  if (lg_cmp x1 x2) = 0 then
    l18 (v3 + (6 : Int32)) m2
  else
    some (some (.int (0 : Int32)), m2)))))
set_option maxRecDepth 100000 in
set_option maxHeartbeats 8000000 in
theorem xg_L_law_1488 {kp : pm_K} {d : Nat} {f_T_least : Int64 → qm_M → Option qm_R} {f_M_least : Int64 → qm_M → Option qm_R} {l18 : Int32 → qm_M → Option qm_R} (hT : qe_G kp d [(170, 0, 10, 2, qw_cl 0 f_T_least), (207, 0, 11, 2, qw_cl 112 f_M_least)]) (h18 : ∀ (v3 : Int32) (m : qm_M), qe_J kp md_L_law d (l18 v3 m) 18 [(0, .ref 1000000), (1, .ref 0), (2, .ref 112), (3, .int v3)] [] m) (v3 : Int32) (m : qm_M) : qe_J kp md_L_law d (X_L_law_1488 kp f_T_least f_M_least l18 v3 m) 1488 [(0, .ref 1000000), (1, .ref 0), (2, .ref 112), (3, .int v3)] [] m := qe_runs (B := [(18, [0, 1, 2, 3], qp_ccci_ 1000000 0 112 l18)]) (n := 1000) hT (qe_B1 (qp_ccci__ok h18) qe_B0) rfl
def X_L_law_1425 (kp : pm_K) (f_T_level : Int64 → Int32 → qm_M → Option qm_R) (f_M_level : Int64 → Int32 → qm_M → Option qm_R) (l18 : Int32 → qm_M → Option qm_R) (v3 : Int32) (m : qm_M) : Option qm_R :=
  qe_b (qm_in (v3 + (1 : Int32)) kp.1) (
  qe_b (qm_in (v3 + (2 : Int32)) kp.1) (
  qe_b (qm_in (v3 + (3 : Int32)) kp.1) (
  qe_rI (f_T_level ((qo_lshl (Int32.toInt64 (kp.2 (Int32.toNatClampNeg (v3 + (1 : Int32))))) (32 : Int32)) ||| ((Int32.toInt64 (kp.2 (Int32.toNatClampNeg (v3 + (2 : Int32))))) &&& (4294967295 : Int64))) (kp.2 (Int32.toNatClampNeg (v3 + (3 : Int32)))) m) fun x1 m1 =>
  qe_b (qm_in (v3 + (1 : Int32)) kp.1) (
  qe_b (qm_in (v3 + (2 : Int32)) kp.1) (
  qe_b (qm_in (v3 + (3 : Int32)) kp.1) (
  qe_rI (f_M_level ((qo_lshl (Int32.toInt64 (kp.2 (Int32.toNatClampNeg (v3 + (1 : Int32))))) (32 : Int32)) ||| ((Int32.toInt64 (kp.2 (Int32.toNatClampNeg (v3 + (2 : Int32))))) &&& (4294967295 : Int64))) (kp.2 (Int32.toNatClampNeg (v3 + (3 : Int32)))) m1) fun x2 m2 =>
  if x1 = x2 then
    l18 (v3 + (6 : Int32)) m2
  else
    some (some (.int (0 : Int32)), m2)))))))
set_option maxRecDepth 100000 in
set_option maxHeartbeats 8000000 in
theorem xg_L_law_1425 {kp : pm_K} {d : Nat} {f_T_level : Int64 → Int32 → qm_M → Option qm_R} {f_M_level : Int64 → Int32 → qm_M → Option qm_R} {l18 : Int32 → qm_M → Option qm_R} (hT : qe_G kp d [(169, 0, 10, 1, qw_cli 0 f_T_level), (206, 0, 11, 1, qw_cli 112 f_M_level)]) (h18 : ∀ (v3 : Int32) (m : qm_M), qe_J kp md_L_law d (l18 v3 m) 18 [(0, .ref 1000000), (1, .ref 0), (2, .ref 112), (3, .int v3)] [] m) (v3 : Int32) (m : qm_M) : qe_J kp md_L_law d (X_L_law_1425 kp f_T_level f_M_level l18 v3 m) 1425 [(0, .ref 1000000), (1, .ref 0), (2, .ref 112), (3, .int v3)] [] m := qe_runs (B := [(18, [0, 1, 2, 3], qp_ccci_ 1000000 0 112 l18)]) (n := 1000) hT (qe_B1 (qp_ccci__ok h18) qe_B0) rfl
def X_L_law_1371 (kp : pm_K) (f_T_order : Int64 → qm_M → Option qm_R) (f_M_order : Int64 → qm_M → Option qm_R) (l18 : Int32 → qm_M → Option qm_R) (v3 : Int32) (m : qm_M) : Option qm_R :=
  qe_b (qm_in (v3 + (1 : Int32)) kp.1) (
  qe_b (qm_in (v3 + (2 : Int32)) kp.1) (
  qe_rL (f_T_order ((qo_lshl (Int32.toInt64 (kp.2 (Int32.toNatClampNeg (v3 + (1 : Int32))))) (32 : Int32)) ||| ((Int32.toInt64 (kp.2 (Int32.toNatClampNeg (v3 + (2 : Int32))))) &&& (4294967295 : Int64))) m) fun x1 m1 =>
  qe_b (qm_in (v3 + (1 : Int32)) kp.1) (
  qe_b (qm_in (v3 + (2 : Int32)) kp.1) (
  qe_rL (f_M_order ((qo_lshl (Int32.toInt64 (kp.2 (Int32.toNatClampNeg (v3 + (1 : Int32))))) (32 : Int32)) ||| ((Int32.toInt64 (kp.2 (Int32.toNatClampNeg (v3 + (2 : Int32))))) &&& (4294967295 : Int64))) m1) fun x2 m2 =>
  if (lg_cmp x1 x2) = 0 then
    l18 (v3 + (6 : Int32)) m2
  else
    some (some (.int (0 : Int32)), m2)))))
set_option maxRecDepth 100000 in
set_option maxHeartbeats 8000000 in
theorem xg_L_law_1371 {kp : pm_K} {d : Nat} {f_T_order : Int64 → qm_M → Option qm_R} {f_M_order : Int64 → qm_M → Option qm_R} {l18 : Int32 → qm_M → Option qm_R} (hT : qe_G kp d [(168, 0, 10, 2, qw_cl 0 f_T_order), (204, 0, 11, 2, qw_cl 112 f_M_order)]) (h18 : ∀ (v3 : Int32) (m : qm_M), qe_J kp md_L_law d (l18 v3 m) 18 [(0, .ref 1000000), (1, .ref 0), (2, .ref 112), (3, .int v3)] [] m) (v3 : Int32) (m : qm_M) : qe_J kp md_L_law d (X_L_law_1371 kp f_T_order f_M_order l18 v3 m) 1371 [(0, .ref 1000000), (1, .ref 0), (2, .ref 112), (3, .int v3)] [] m := qe_runs (B := [(18, [0, 1, 2, 3], qp_ccci_ 1000000 0 112 l18)]) (n := 1000) hT (qe_B1 (qp_ccci__ok h18) qe_B0) rfl
def X_L_law_1277 (kp : pm_K) (f_T_power : Int64 → Int64 → qm_M → Option qm_R) (f_M_power : Int64 → Int64 → qm_M → Option qm_R) (l18 : Int32 → qm_M → Option qm_R) (v3 : Int32) (m : qm_M) : Option qm_R :=
  qe_b (qm_in (v3 + (1 : Int32)) kp.1) (
  qe_b (qm_in (v3 + (2 : Int32)) kp.1) (
  qe_b (qm_in (v3 + (3 : Int32)) kp.1) (
  qe_b (qm_in (v3 + (4 : Int32)) kp.1) (
  qe_rL (f_T_power ((qo_lshl (Int32.toInt64 (kp.2 (Int32.toNatClampNeg (v3 + (1 : Int32))))) (32 : Int32)) ||| ((Int32.toInt64 (kp.2 (Int32.toNatClampNeg (v3 + (2 : Int32))))) &&& (4294967295 : Int64))) ((qo_lshl (Int32.toInt64 (kp.2 (Int32.toNatClampNeg (v3 + (3 : Int32))))) (32 : Int32)) ||| ((Int32.toInt64 (kp.2 (Int32.toNatClampNeg (v3 + (4 : Int32))))) &&& (4294967295 : Int64))) m) fun x1 m1 =>
  qe_b (qm_in (v3 + (1 : Int32)) kp.1) (
  qe_b (qm_in (v3 + (2 : Int32)) kp.1) (
  qe_b (qm_in (v3 + (3 : Int32)) kp.1) (
  qe_b (qm_in (v3 + (4 : Int32)) kp.1) (
  qe_rL (f_M_power ((qo_lshl (Int32.toInt64 (kp.2 (Int32.toNatClampNeg (v3 + (1 : Int32))))) (32 : Int32)) ||| ((Int32.toInt64 (kp.2 (Int32.toNatClampNeg (v3 + (2 : Int32))))) &&& (4294967295 : Int64))) ((qo_lshl (Int32.toInt64 (kp.2 (Int32.toNatClampNeg (v3 + (3 : Int32))))) (32 : Int32)) ||| ((Int32.toInt64 (kp.2 (Int32.toNatClampNeg (v3 + (4 : Int32))))) &&& (4294967295 : Int64))) m1) fun x2 m2 =>
  if (lg_cmp x1 x2) = 0 then
    l18 (v3 + (6 : Int32)) m2
  else
    some (some (.int (0 : Int32)), m2)))))))))
set_option maxRecDepth 100000 in
set_option maxHeartbeats 8000000 in
theorem xg_L_law_1277 {kp : pm_K} {d : Nat} {f_T_power : Int64 → Int64 → qm_M → Option qm_R} {f_M_power : Int64 → Int64 → qm_M → Option qm_R} {l18 : Int32 → qm_M → Option qm_R} (hT : qe_G kp d [(167, 0, 10, 2, qw_cll 0 f_T_power), (202, 0, 11, 2, qw_cll 112 f_M_power)]) (h18 : ∀ (v3 : Int32) (m : qm_M), qe_J kp md_L_law d (l18 v3 m) 18 [(0, .ref 1000000), (1, .ref 0), (2, .ref 112), (3, .int v3)] [] m) (v3 : Int32) (m : qm_M) : qe_J kp md_L_law d (X_L_law_1277 kp f_T_power f_M_power l18 v3 m) 1277 [(0, .ref 1000000), (1, .ref 0), (2, .ref 112), (3, .int v3)] [] m := qe_runs (B := [(18, [0, 1, 2, 3], qp_ccci_ 1000000 0 112 l18)]) (n := 1000) hT (qe_B1 (qp_ccci__ok h18) qe_B0) rfl
def X_L_law_1223 (kp : pm_K) (f_T_root : Int64 → qm_M → Option qm_R) (f_M_root : Int64 → qm_M → Option qm_R) (l18 : Int32 → qm_M → Option qm_R) (v3 : Int32) (m : qm_M) : Option qm_R :=
  qe_b (qm_in (v3 + (1 : Int32)) kp.1) (
  qe_b (qm_in (v3 + (2 : Int32)) kp.1) (
  qe_rL (f_T_root ((qo_lshl (Int32.toInt64 (kp.2 (Int32.toNatClampNeg (v3 + (1 : Int32))))) (32 : Int32)) ||| ((Int32.toInt64 (kp.2 (Int32.toNatClampNeg (v3 + (2 : Int32))))) &&& (4294967295 : Int64))) m) fun x1 m1 =>
  qe_b (qm_in (v3 + (1 : Int32)) kp.1) (
  qe_b (qm_in (v3 + (2 : Int32)) kp.1) (
  qe_rL (f_M_root ((qo_lshl (Int32.toInt64 (kp.2 (Int32.toNatClampNeg (v3 + (1 : Int32))))) (32 : Int32)) ||| ((Int32.toInt64 (kp.2 (Int32.toNatClampNeg (v3 + (2 : Int32))))) &&& (4294967295 : Int64))) m1) fun x2 m2 =>
  if (lg_cmp x1 x2) = 0 then
    l18 (v3 + (6 : Int32)) m2
  else
    some (some (.int (0 : Int32)), m2)))))
set_option maxRecDepth 100000 in
set_option maxHeartbeats 8000000 in
theorem xg_L_law_1223 {kp : pm_K} {d : Nat} {f_T_root : Int64 → qm_M → Option qm_R} {f_M_root : Int64 → qm_M → Option qm_R} {l18 : Int32 → qm_M → Option qm_R} (hT : qe_G kp d [(166, 0, 10, 2, qw_cl 0 f_T_root), (201, 0, 11, 2, qw_cl 112 f_M_root)]) (h18 : ∀ (v3 : Int32) (m : qm_M), qe_J kp md_L_law d (l18 v3 m) 18 [(0, .ref 1000000), (1, .ref 0), (2, .ref 112), (3, .int v3)] [] m) (v3 : Int32) (m : qm_M) : qe_J kp md_L_law d (X_L_law_1223 kp f_T_root f_M_root l18 v3 m) 1223 [(0, .ref 1000000), (1, .ref 0), (2, .ref 112), (3, .int v3)] [] m := qe_runs (B := [(18, [0, 1, 2, 3], qp_ccci_ 1000000 0 112 l18)]) (n := 1000) hT (qe_B1 (qp_ccci__ok h18) qe_B0) rfl
def X_L_law_1169 (kp : pm_K) (f_T_inverse : Int64 → qm_M → Option qm_R) (f_M_inverse : Int64 → qm_M → Option qm_R) (l18 : Int32 → qm_M → Option qm_R) (v3 : Int32) (m : qm_M) : Option qm_R :=
  qe_b (qm_in (v3 + (1 : Int32)) kp.1) (
  qe_b (qm_in (v3 + (2 : Int32)) kp.1) (
  qe_rL (f_T_inverse ((qo_lshl (Int32.toInt64 (kp.2 (Int32.toNatClampNeg (v3 + (1 : Int32))))) (32 : Int32)) ||| ((Int32.toInt64 (kp.2 (Int32.toNatClampNeg (v3 + (2 : Int32))))) &&& (4294967295 : Int64))) m) fun x1 m1 =>
  qe_b (qm_in (v3 + (1 : Int32)) kp.1) (
  qe_b (qm_in (v3 + (2 : Int32)) kp.1) (
  qe_rL (f_M_inverse ((qo_lshl (Int32.toInt64 (kp.2 (Int32.toNatClampNeg (v3 + (1 : Int32))))) (32 : Int32)) ||| ((Int32.toInt64 (kp.2 (Int32.toNatClampNeg (v3 + (2 : Int32))))) &&& (4294967295 : Int64))) m1) fun x2 m2 =>
  if (lg_cmp x1 x2) = 0 then
    l18 (v3 + (6 : Int32)) m2
  else
    some (some (.int (0 : Int32)), m2)))))
set_option maxRecDepth 100000 in
set_option maxHeartbeats 8000000 in
theorem xg_L_law_1169 {kp : pm_K} {d : Nat} {f_T_inverse : Int64 → qm_M → Option qm_R} {f_M_inverse : Int64 → qm_M → Option qm_R} {l18 : Int32 → qm_M → Option qm_R} (hT : qe_G kp d [(165, 0, 10, 2, qw_cl 0 f_T_inverse), (200, 0, 11, 2, qw_cl 112 f_M_inverse)]) (h18 : ∀ (v3 : Int32) (m : qm_M), qe_J kp md_L_law d (l18 v3 m) 18 [(0, .ref 1000000), (1, .ref 0), (2, .ref 112), (3, .int v3)] [] m) (v3 : Int32) (m : qm_M) : qe_J kp md_L_law d (X_L_law_1169 kp f_T_inverse f_M_inverse l18 v3 m) 1169 [(0, .ref 1000000), (1, .ref 0), (2, .ref 112), (3, .int v3)] [] m := qe_runs (B := [(18, [0, 1, 2, 3], qp_ccci_ 1000000 0 112 l18)]) (n := 1000) hT (qe_B1 (qp_ccci__ok h18) qe_B0) rfl
def X_L_law_1075 (kp : pm_K) (f_T_times : Int64 → Int64 → qm_M → Option qm_R) (f_M_times : Int64 → Int64 → qm_M → Option qm_R) (l18 : Int32 → qm_M → Option qm_R) (v3 : Int32) (m : qm_M) : Option qm_R :=
  qe_b (qm_in (v3 + (1 : Int32)) kp.1) (
  qe_b (qm_in (v3 + (2 : Int32)) kp.1) (
  qe_b (qm_in (v3 + (3 : Int32)) kp.1) (
  qe_b (qm_in (v3 + (4 : Int32)) kp.1) (
  qe_rL (f_T_times ((qo_lshl (Int32.toInt64 (kp.2 (Int32.toNatClampNeg (v3 + (1 : Int32))))) (32 : Int32)) ||| ((Int32.toInt64 (kp.2 (Int32.toNatClampNeg (v3 + (2 : Int32))))) &&& (4294967295 : Int64))) ((qo_lshl (Int32.toInt64 (kp.2 (Int32.toNatClampNeg (v3 + (3 : Int32))))) (32 : Int32)) ||| ((Int32.toInt64 (kp.2 (Int32.toNatClampNeg (v3 + (4 : Int32))))) &&& (4294967295 : Int64))) m) fun x1 m1 =>
  qe_b (qm_in (v3 + (1 : Int32)) kp.1) (
  qe_b (qm_in (v3 + (2 : Int32)) kp.1) (
  qe_b (qm_in (v3 + (3 : Int32)) kp.1) (
  qe_b (qm_in (v3 + (4 : Int32)) kp.1) (
  qe_rL (f_M_times ((qo_lshl (Int32.toInt64 (kp.2 (Int32.toNatClampNeg (v3 + (1 : Int32))))) (32 : Int32)) ||| ((Int32.toInt64 (kp.2 (Int32.toNatClampNeg (v3 + (2 : Int32))))) &&& (4294967295 : Int64))) ((qo_lshl (Int32.toInt64 (kp.2 (Int32.toNatClampNeg (v3 + (3 : Int32))))) (32 : Int32)) ||| ((Int32.toInt64 (kp.2 (Int32.toNatClampNeg (v3 + (4 : Int32))))) &&& (4294967295 : Int64))) m1) fun x2 m2 =>
  if (lg_cmp x1 x2) = 0 then
    l18 (v3 + (6 : Int32)) m2
  else
    some (some (.int (0 : Int32)), m2)))))))))
set_option maxRecDepth 100000 in
set_option maxHeartbeats 8000000 in
theorem xg_L_law_1075 {kp : pm_K} {d : Nat} {f_T_times : Int64 → Int64 → qm_M → Option qm_R} {f_M_times : Int64 → Int64 → qm_M → Option qm_R} {l18 : Int32 → qm_M → Option qm_R} (hT : qe_G kp d [(164, 0, 10, 2, qw_cll 0 f_T_times), (199, 0, 11, 2, qw_cll 112 f_M_times)]) (h18 : ∀ (v3 : Int32) (m : qm_M), qe_J kp md_L_law d (l18 v3 m) 18 [(0, .ref 1000000), (1, .ref 0), (2, .ref 112), (3, .int v3)] [] m) (v3 : Int32) (m : qm_M) : qe_J kp md_L_law d (X_L_law_1075 kp f_T_times f_M_times l18 v3 m) 1075 [(0, .ref 1000000), (1, .ref 0), (2, .ref 112), (3, .int v3)] [] m := qe_runs (B := [(18, [0, 1, 2, 3], qp_ccci_ 1000000 0 112 l18)]) (n := 1000) hT (qe_B1 (qp_ccci__ok h18) qe_B0) rfl
def X_L_law_1052 (kp : pm_K) (f_T_game : Int32 → qm_M → Option qm_R) (f_M_game : Int32 → qm_M → Option qm_R) (l18 : Int32 → qm_M → Option qm_R) (v3 : Int32) (m : qm_M) : Option qm_R :=
  qe_b (qm_in (v3 + (1 : Int32)) kp.1) (
  qe_rI (f_T_game (kp.2 (Int32.toNatClampNeg (v3 + (1 : Int32)))) m) fun x1 m1 =>
  qe_b (qm_in (v3 + (1 : Int32)) kp.1) (
  qe_rI (f_M_game (kp.2 (Int32.toNatClampNeg (v3 + (1 : Int32)))) m1) fun x2 m2 =>
  if x1 = x2 then
    l18 (v3 + (6 : Int32)) m2
  else
    some (some (.int (0 : Int32)), m2)))
set_option maxRecDepth 100000 in
set_option maxHeartbeats 8000000 in
theorem xg_L_law_1052 {kp : pm_K} {d : Nat} {f_T_game : Int32 → qm_M → Option qm_R} {f_M_game : Int32 → qm_M → Option qm_R} {l18 : Int32 → qm_M → Option qm_R} (hT : qe_G kp d [(176, 0, 10, 1, qw_ci 0 f_T_game), (312, 0, 11, 1, qw_ci 112 f_M_game)]) (h18 : ∀ (v3 : Int32) (m : qm_M), qe_J kp md_L_law d (l18 v3 m) 18 [(0, .ref 1000000), (1, .ref 0), (2, .ref 112), (3, .int v3)] [] m) (v3 : Int32) (m : qm_M) : qe_J kp md_L_law d (X_L_law_1052 kp f_T_game f_M_game l18 v3 m) 1052 [(0, .ref 1000000), (1, .ref 0), (2, .ref 112), (3, .int v3)] [] m := qe_runs (B := [(18, [0, 1, 2, 3], qp_ccci_ 1000000 0 112 l18)]) (n := 1000) hT (qe_B1 (qp_ccci__ok h18) qe_B0) rfl
def X_L_law_1028 (kp : pm_K) (f_T_boards : Int32 → qm_M → Option qm_R) (f_M_boards : Int32 → qm_M → Option qm_R) (l18 : Int32 → qm_M → Option qm_R) (v3 : Int32) (m : qm_M) : Option qm_R :=
  qe_b (qm_in (v3 + (1 : Int32)) kp.1) (
  qe_rL (f_T_boards (kp.2 (Int32.toNatClampNeg (v3 + (1 : Int32)))) m) fun x1 m1 =>
  qe_b (qm_in (v3 + (1 : Int32)) kp.1) (
  qe_rL (f_M_boards (kp.2 (Int32.toNatClampNeg (v3 + (1 : Int32)))) m1) fun x2 m2 =>
  if (lg_cmp x1 x2) = 0 then
    l18 (v3 + (6 : Int32)) m2
  else
    some (some (.int (0 : Int32)), m2)))
set_option maxRecDepth 100000 in
set_option maxHeartbeats 8000000 in
theorem xg_L_law_1028 {kp : pm_K} {d : Nat} {f_T_boards : Int32 → qm_M → Option qm_R} {f_M_boards : Int32 → qm_M → Option qm_R} {l18 : Int32 → qm_M → Option qm_R} (hT : qe_G kp d [(175, 0, 10, 2, qw_ci 0 f_T_boards), (314, 0, 11, 2, qw_ci 112 f_M_boards)]) (h18 : ∀ (v3 : Int32) (m : qm_M), qe_J kp md_L_law d (l18 v3 m) 18 [(0, .ref 1000000), (1, .ref 0), (2, .ref 112), (3, .int v3)] [] m) (v3 : Int32) (m : qm_M) : qe_J kp md_L_law d (X_L_law_1028 kp f_T_boards f_M_boards l18 v3 m) 1028 [(0, .ref 1000000), (1, .ref 0), (2, .ref 112), (3, .int v3)] [] m := qe_runs (B := [(18, [0, 1, 2, 3], qp_ccci_ 1000000 0 112 l18)]) (n := 1000) hT (qe_B1 (qp_ccci__ok h18) qe_B0) rfl
def X_L_law_994 (kp : pm_K) (f_T_full : Int32 → Int32 → qm_M → Option qm_R) (f_M_full : Int32 → Int32 → qm_M → Option qm_R) (l18 : Int32 → qm_M → Option qm_R) (v3 : Int32) (m : qm_M) : Option qm_R :=
  qe_b (qm_in (v3 + (1 : Int32)) kp.1) (
  qe_b (qm_in (v3 + (2 : Int32)) kp.1) (
  qe_rL (f_T_full (kp.2 (Int32.toNatClampNeg (v3 + (1 : Int32)))) (kp.2 (Int32.toNatClampNeg (v3 + (2 : Int32)))) m) fun x1 m1 =>
  qe_b (qm_in (v3 + (1 : Int32)) kp.1) (
  qe_b (qm_in (v3 + (2 : Int32)) kp.1) (
  qe_rL (f_M_full (kp.2 (Int32.toNatClampNeg (v3 + (1 : Int32)))) (kp.2 (Int32.toNatClampNeg (v3 + (2 : Int32)))) m1) fun x2 m2 =>
  if (lg_cmp x1 x2) = 0 then
    l18 (v3 + (6 : Int32)) m2
  else
    some (some (.int (0 : Int32)), m2)))))
set_option maxRecDepth 100000 in
set_option maxHeartbeats 8000000 in
theorem xg_L_law_994 {kp : pm_K} {d : Nat} {f_T_full : Int32 → Int32 → qm_M → Option qm_R} {f_M_full : Int32 → Int32 → qm_M → Option qm_R} {l18 : Int32 → qm_M → Option qm_R} (hT : qe_G kp d [(163, 0, 10, 2, qw_cii 0 f_T_full), (238, 0, 11, 2, qw_cii 112 f_M_full)]) (h18 : ∀ (v3 : Int32) (m : qm_M), qe_J kp md_L_law d (l18 v3 m) 18 [(0, .ref 1000000), (1, .ref 0), (2, .ref 112), (3, .int v3)] [] m) (v3 : Int32) (m : qm_M) : qe_J kp md_L_law d (X_L_law_994 kp f_T_full f_M_full l18 v3 m) 994 [(0, .ref 1000000), (1, .ref 0), (2, .ref 112), (3, .int v3)] [] m := qe_runs (B := [(18, [0, 1, 2, 3], qp_ccci_ 1000000 0 112 l18)]) (n := 1000) hT (qe_B1 (qp_ccci__ok h18) qe_B0) rfl
def X_L_law_971 (kp : pm_K) (f_T_agrees : Int32 → qm_M → Option qm_R) (f_M_agrees : Int32 → qm_M → Option qm_R) (l18 : Int32 → qm_M → Option qm_R) (v3 : Int32) (m : qm_M) : Option qm_R :=
  qe_b (qm_in (v3 + (1 : Int32)) kp.1) (
  qe_rI (f_T_agrees (kp.2 (Int32.toNatClampNeg (v3 + (1 : Int32)))) m) fun x1 m1 =>
  qe_b (qm_in (v3 + (1 : Int32)) kp.1) (
  qe_rI (f_M_agrees (kp.2 (Int32.toNatClampNeg (v3 + (1 : Int32)))) m1) fun x2 m2 =>
  if x1 = x2 then
    l18 (v3 + (6 : Int32)) m2
  else
    some (some (.int (0 : Int32)), m2)))
set_option maxRecDepth 100000 in
set_option maxHeartbeats 8000000 in
theorem xg_L_law_971 {kp : pm_K} {d : Nat} {f_T_agrees : Int32 → qm_M → Option qm_R} {f_M_agrees : Int32 → qm_M → Option qm_R} {l18 : Int32 → qm_M → Option qm_R} (hT : qe_G kp d [(160, 0, 10, 1, qw_ci 0 f_T_agrees), (235, 0, 11, 1, qw_ci 112 f_M_agrees)]) (h18 : ∀ (v3 : Int32) (m : qm_M), qe_J kp md_L_law d (l18 v3 m) 18 [(0, .ref 1000000), (1, .ref 0), (2, .ref 112), (3, .int v3)] [] m) (v3 : Int32) (m : qm_M) : qe_J kp md_L_law d (X_L_law_971 kp f_T_agrees f_M_agrees l18 v3 m) 971 [(0, .ref 1000000), (1, .ref 0), (2, .ref 112), (3, .int v3)] [] m := qe_runs (B := [(18, [0, 1, 2, 3], qp_ccci_ 1000000 0 112 l18)]) (n := 1000) hT (qe_B1 (qp_ccci__ok h18) qe_B0) rfl
def X_L_law_917 (kp : pm_K) (f_T_mendedAt : Int64 → qm_M → Option qm_R) (f_M_mendedAt : Int64 → qm_M → Option qm_R) (l18 : Int32 → qm_M → Option qm_R) (v3 : Int32) (m : qm_M) : Option qm_R :=
  qe_b (qm_in (v3 + (1 : Int32)) kp.1) (
  qe_b (qm_in (v3 + (2 : Int32)) kp.1) (
  qe_rL (f_T_mendedAt ((qo_lshl (Int32.toInt64 (kp.2 (Int32.toNatClampNeg (v3 + (1 : Int32))))) (32 : Int32)) ||| ((Int32.toInt64 (kp.2 (Int32.toNatClampNeg (v3 + (2 : Int32))))) &&& (4294967295 : Int64))) m) fun x1 m1 =>
  qe_b (qm_in (v3 + (1 : Int32)) kp.1) (
  qe_b (qm_in (v3 + (2 : Int32)) kp.1) (
  qe_rL (f_M_mendedAt ((qo_lshl (Int32.toInt64 (kp.2 (Int32.toNatClampNeg (v3 + (1 : Int32))))) (32 : Int32)) ||| ((Int32.toInt64 (kp.2 (Int32.toNatClampNeg (v3 + (2 : Int32))))) &&& (4294967295 : Int64))) m1) fun x2 m2 =>
  if (lg_cmp x1 x2) = 0 then
    l18 (v3 + (6 : Int32)) m2
  else
    some (some (.int (0 : Int32)), m2)))))
set_option maxRecDepth 100000 in
set_option maxHeartbeats 8000000 in
theorem xg_L_law_917 {kp : pm_K} {d : Nat} {f_T_mendedAt : Int64 → qm_M → Option qm_R} {f_M_mendedAt : Int64 → qm_M → Option qm_R} {l18 : Int32 → qm_M → Option qm_R} (hT : qe_G kp d [(159, 0, 10, 2, qw_cl 0 f_T_mendedAt), (234, 0, 11, 2, qw_cl 112 f_M_mendedAt)]) (h18 : ∀ (v3 : Int32) (m : qm_M), qe_J kp md_L_law d (l18 v3 m) 18 [(0, .ref 1000000), (1, .ref 0), (2, .ref 112), (3, .int v3)] [] m) (v3 : Int32) (m : qm_M) : qe_J kp md_L_law d (X_L_law_917 kp f_T_mendedAt f_M_mendedAt l18 v3 m) 917 [(0, .ref 1000000), (1, .ref 0), (2, .ref 112), (3, .int v3)] [] m := qe_runs (B := [(18, [0, 1, 2, 3], qp_ccci_ 1000000 0 112 l18)]) (n := 1000) hT (qe_B1 (qp_ccci__ok h18) qe_B0) rfl
def X_L_law_893 (kp : pm_K) (f_T_mended : Int32 → qm_M → Option qm_R) (f_M_mended : Int32 → qm_M → Option qm_R) (l18 : Int32 → qm_M → Option qm_R) (v3 : Int32) (m : qm_M) : Option qm_R :=
  qe_b (qm_in (v3 + (1 : Int32)) kp.1) (
  qe_rL (f_T_mended (kp.2 (Int32.toNatClampNeg (v3 + (1 : Int32)))) m) fun x1 m1 =>
  qe_b (qm_in (v3 + (1 : Int32)) kp.1) (
  qe_rL (f_M_mended (kp.2 (Int32.toNatClampNeg (v3 + (1 : Int32)))) m1) fun x2 m2 =>
  if (lg_cmp x1 x2) = 0 then
    l18 (v3 + (6 : Int32)) m2
  else
    some (some (.int (0 : Int32)), m2)))
set_option maxRecDepth 100000 in
set_option maxHeartbeats 8000000 in
theorem xg_L_law_893 {kp : pm_K} {d : Nat} {f_T_mended : Int32 → qm_M → Option qm_R} {f_M_mended : Int32 → qm_M → Option qm_R} {l18 : Int32 → qm_M → Option qm_R} (hT : qe_G kp d [(158, 0, 10, 2, qw_ci 0 f_T_mended), (233, 0, 11, 2, qw_ci 112 f_M_mended)]) (h18 : ∀ (v3 : Int32) (m : qm_M), qe_J kp md_L_law d (l18 v3 m) 18 [(0, .ref 1000000), (1, .ref 0), (2, .ref 112), (3, .int v3)] [] m) (v3 : Int32) (m : qm_M) : qe_J kp md_L_law d (X_L_law_893 kp f_T_mended f_M_mended l18 v3 m) 893 [(0, .ref 1000000), (1, .ref 0), (2, .ref 112), (3, .int v3)] [] m := qe_runs (B := [(18, [0, 1, 2, 3], qp_ccci_ 1000000 0 112 l18)]) (n := 1000) hT (qe_B1 (qp_ccci__ok h18) qe_B0) rfl
def X_L_law_869 (kp : pm_K) (f_T_common : Int32 → qm_M → Option qm_R) (f_M_common : Int32 → qm_M → Option qm_R) (l18 : Int32 → qm_M → Option qm_R) (v3 : Int32) (m : qm_M) : Option qm_R :=
  qe_b (qm_in (v3 + (1 : Int32)) kp.1) (
  qe_rL (f_T_common (kp.2 (Int32.toNatClampNeg (v3 + (1 : Int32)))) m) fun x1 m1 =>
  qe_b (qm_in (v3 + (1 : Int32)) kp.1) (
  qe_rL (f_M_common (kp.2 (Int32.toNatClampNeg (v3 + (1 : Int32)))) m1) fun x2 m2 =>
  if (lg_cmp x1 x2) = 0 then
    l18 (v3 + (6 : Int32)) m2
  else
    some (some (.int (0 : Int32)), m2)))
set_option maxRecDepth 100000 in
set_option maxHeartbeats 8000000 in
theorem xg_L_law_869 {kp : pm_K} {d : Nat} {f_T_common : Int32 → qm_M → Option qm_R} {f_M_common : Int32 → qm_M → Option qm_R} {l18 : Int32 → qm_M → Option qm_R} (hT : qe_G kp d [(157, 0, 10, 2, qw_ci 0 f_T_common), (227, 0, 11, 2, qw_ci 112 f_M_common)]) (h18 : ∀ (v3 : Int32) (m : qm_M), qe_J kp md_L_law d (l18 v3 m) 18 [(0, .ref 1000000), (1, .ref 0), (2, .ref 112), (3, .int v3)] [] m) (v3 : Int32) (m : qm_M) : qe_J kp md_L_law d (X_L_law_869 kp f_T_common f_M_common l18 v3 m) 869 [(0, .ref 1000000), (1, .ref 0), (2, .ref 112), (3, .int v3)] [] m := qe_runs (B := [(18, [0, 1, 2, 3], qp_ccci_ 1000000 0 112 l18)]) (n := 1000) hT (qe_B1 (qp_ccci__ok h18) qe_B0) rfl
def X_L_law_836 (kp : pm_K) (f_T_roots : Int32 → Int32 → qm_M → Option qm_R) (f_M_roots : Int32 → Int32 → qm_M → Option qm_R) (l18 : Int32 → qm_M → Option qm_R) (v3 : Int32) (m : qm_M) : Option qm_R :=
  qe_b (qm_in (v3 + (1 : Int32)) kp.1) (
  qe_b (qm_in (v3 + (2 : Int32)) kp.1) (
  qe_rI (f_T_roots (kp.2 (Int32.toNatClampNeg (v3 + (1 : Int32)))) (kp.2 (Int32.toNatClampNeg (v3 + (2 : Int32)))) m) fun x1 m1 =>
  qe_b (qm_in (v3 + (1 : Int32)) kp.1) (
  qe_b (qm_in (v3 + (2 : Int32)) kp.1) (
  qe_rI (f_M_roots (kp.2 (Int32.toNatClampNeg (v3 + (1 : Int32)))) (kp.2 (Int32.toNatClampNeg (v3 + (2 : Int32)))) m1) fun x2 m2 =>
  if x1 = x2 then
    l18 (v3 + (6 : Int32)) m2
  else
    some (some (.int (0 : Int32)), m2)))))
set_option maxRecDepth 100000 in
set_option maxHeartbeats 8000000 in
theorem xg_L_law_836 {kp : pm_K} {d : Nat} {f_T_roots : Int32 → Int32 → qm_M → Option qm_R} {f_M_roots : Int32 → Int32 → qm_M → Option qm_R} {l18 : Int32 → qm_M → Option qm_R} (hT : qe_G kp d [(156, 0, 10, 1, qw_cii 0 f_T_roots), (223, 0, 11, 1, qw_cii 112 f_M_roots)]) (h18 : ∀ (v3 : Int32) (m : qm_M), qe_J kp md_L_law d (l18 v3 m) 18 [(0, .ref 1000000), (1, .ref 0), (2, .ref 112), (3, .int v3)] [] m) (v3 : Int32) (m : qm_M) : qe_J kp md_L_law d (X_L_law_836 kp f_T_roots f_M_roots l18 v3 m) 836 [(0, .ref 1000000), (1, .ref 0), (2, .ref 112), (3, .int v3)] [] m := qe_runs (B := [(18, [0, 1, 2, 3], qp_ccci_ 1000000 0 112 l18)]) (n := 1000) hT (qe_B1 (qp_ccci__ok h18) qe_B0) rfl
def X_L_law_812 (kp : pm_K) (f_T_solution : Int32 → qm_M → Option qm_R) (f_M_solution : Int32 → qm_M → Option qm_R) (l18 : Int32 → qm_M → Option qm_R) (v3 : Int32) (m : qm_M) : Option qm_R :=
  qe_b (qm_in (v3 + (1 : Int32)) kp.1) (
  qe_rL (f_T_solution (kp.2 (Int32.toNatClampNeg (v3 + (1 : Int32)))) m) fun x1 m1 =>
  qe_b (qm_in (v3 + (1 : Int32)) kp.1) (
  qe_rL (f_M_solution (kp.2 (Int32.toNatClampNeg (v3 + (1 : Int32)))) m1) fun x2 m2 =>
  if (lg_cmp x1 x2) = 0 then
    l18 (v3 + (6 : Int32)) m2
  else
    some (some (.int (0 : Int32)), m2)))
set_option maxRecDepth 100000 in
set_option maxHeartbeats 8000000 in
theorem xg_L_law_812 {kp : pm_K} {d : Nat} {f_T_solution : Int32 → qm_M → Option qm_R} {f_M_solution : Int32 → qm_M → Option qm_R} {l18 : Int32 → qm_M → Option qm_R} (hT : qe_G kp d [(155, 0, 10, 2, qw_ci 0 f_T_solution), (252, 0, 11, 2, qw_ci 112 f_M_solution)]) (h18 : ∀ (v3 : Int32) (m : qm_M), qe_J kp md_L_law d (l18 v3 m) 18 [(0, .ref 1000000), (1, .ref 0), (2, .ref 112), (3, .int v3)] [] m) (v3 : Int32) (m : qm_M) : qe_J kp md_L_law d (X_L_law_812 kp f_T_solution f_M_solution l18 v3 m) 812 [(0, .ref 1000000), (1, .ref 0), (2, .ref 112), (3, .int v3)] [] m := qe_runs (B := [(18, [0, 1, 2, 3], qp_ccci_ 1000000 0 112 l18)]) (n := 1000) hT (qe_B1 (qp_ccci__ok h18) qe_B0) rfl
def X_L_law_789 (kp : pm_K) (f_T_shape : Int32 → qm_M → Option qm_R) (f_M_shape : Int32 → qm_M → Option qm_R) (l18 : Int32 → qm_M → Option qm_R) (v3 : Int32) (m : qm_M) : Option qm_R :=
  qe_b (qm_in (v3 + (1 : Int32)) kp.1) (
  qe_rI (f_T_shape (kp.2 (Int32.toNatClampNeg (v3 + (1 : Int32)))) m) fun x1 m1 =>
  qe_b (qm_in (v3 + (1 : Int32)) kp.1) (
  qe_rI (f_M_shape (kp.2 (Int32.toNatClampNeg (v3 + (1 : Int32)))) m1) fun x2 m2 =>
  if x1 = x2 then
    l18 (v3 + (6 : Int32)) m2
  else
    some (some (.int (0 : Int32)), m2)))
set_option maxRecDepth 100000 in
set_option maxHeartbeats 8000000 in
theorem xg_L_law_789 {kp : pm_K} {d : Nat} {f_T_shape : Int32 → qm_M → Option qm_R} {f_M_shape : Int32 → qm_M → Option qm_R} {l18 : Int32 → qm_M → Option qm_R} (hT : qe_G kp d [(154, 0, 10, 1, qw_ci 0 f_T_shape), (251, 0, 11, 1, qw_ci 112 f_M_shape)]) (h18 : ∀ (v3 : Int32) (m : qm_M), qe_J kp md_L_law d (l18 v3 m) 18 [(0, .ref 1000000), (1, .ref 0), (2, .ref 112), (3, .int v3)] [] m) (v3 : Int32) (m : qm_M) : qe_J kp md_L_law d (X_L_law_789 kp f_T_shape f_M_shape l18 v3 m) 789 [(0, .ref 1000000), (1, .ref 0), (2, .ref 112), (3, .int v3)] [] m := qe_runs (B := [(18, [0, 1, 2, 3], qp_ccci_ 1000000 0 112 l18)]) (n := 1000) hT (qe_B1 (qp_ccci__ok h18) qe_B0) rfl
def X_L_law_775 (kp : pm_K) (f_T_determinant : qm_M → Option qm_R) (f_M_determinant : qm_M → Option qm_R) (l18 : Int32 → qm_M → Option qm_R) (v3 : Int32) (m : qm_M) : Option qm_R :=
  qe_rL (f_T_determinant m) fun x1 m1 =>
  qe_rL (f_M_determinant m1) fun x2 m2 =>
  if (lg_cmp x1 x2) = 0 then
    l18 (v3 + (6 : Int32)) m2
  else
    some (some (.int (0 : Int32)), m2)
set_option maxRecDepth 100000 in
set_option maxHeartbeats 8000000 in
theorem xg_L_law_775 {kp : pm_K} {d : Nat} {f_T_determinant : qm_M → Option qm_R} {f_M_determinant : qm_M → Option qm_R} {l18 : Int32 → qm_M → Option qm_R} (hT : qe_G kp d [(153, 0, 10, 2, qw_c 0 f_T_determinant), (249, 0, 11, 2, qw_c 112 f_M_determinant)]) (h18 : ∀ (v3 : Int32) (m : qm_M), qe_J kp md_L_law d (l18 v3 m) 18 [(0, .ref 1000000), (1, .ref 0), (2, .ref 112), (3, .int v3)] [] m) (v3 : Int32) (m : qm_M) : qe_J kp md_L_law d (X_L_law_775 kp f_T_determinant f_M_determinant l18 v3 m) 775 [(0, .ref 1000000), (1, .ref 0), (2, .ref 112), (3, .int v3)] [] m := qe_runs (B := [(18, [0, 1, 2, 3], qp_ccci_ 1000000 0 112 l18)]) (n := 1000) hT (qe_B1 (qp_ccci__ok h18) qe_B0) rfl
def X_L_law_731 (kp : pm_K) (f_T_entry : Int32 → Int32 → Int32 → qm_M → Option qm_R) (f_M_entry : Int32 → Int32 → Int32 → qm_M → Option qm_R) (l18 : Int32 → qm_M → Option qm_R) (v3 : Int32) (m : qm_M) : Option qm_R :=
  qe_b (qm_in (v3 + (1 : Int32)) kp.1) (
  qe_b (qm_in (v3 + (2 : Int32)) kp.1) (
  qe_b (qm_in (v3 + (3 : Int32)) kp.1) (
  qe_rL (f_T_entry (kp.2 (Int32.toNatClampNeg (v3 + (1 : Int32)))) (kp.2 (Int32.toNatClampNeg (v3 + (2 : Int32)))) (kp.2 (Int32.toNatClampNeg (v3 + (3 : Int32)))) m) fun x1 m1 =>
  qe_b (qm_in (v3 + (1 : Int32)) kp.1) (
  qe_b (qm_in (v3 + (2 : Int32)) kp.1) (
  qe_b (qm_in (v3 + (3 : Int32)) kp.1) (
  qe_rL (f_M_entry (kp.2 (Int32.toNatClampNeg (v3 + (1 : Int32)))) (kp.2 (Int32.toNatClampNeg (v3 + (2 : Int32)))) (kp.2 (Int32.toNatClampNeg (v3 + (3 : Int32)))) m1) fun x2 m2 =>
  if (lg_cmp x1 x2) = 0 then
    l18 (v3 + (6 : Int32)) m2
  else
    some (some (.int (0 : Int32)), m2)))))))
set_option maxRecDepth 100000 in
set_option maxHeartbeats 8000000 in
theorem xg_L_law_731 {kp : pm_K} {d : Nat} {f_T_entry : Int32 → Int32 → Int32 → qm_M → Option qm_R} {f_M_entry : Int32 → Int32 → Int32 → qm_M → Option qm_R} {l18 : Int32 → qm_M → Option qm_R} (hT : qe_G kp d [(152, 0, 10, 2, qw_ciii 0 f_T_entry), (248, 0, 11, 2, qw_ciii 112 f_M_entry)]) (h18 : ∀ (v3 : Int32) (m : qm_M), qe_J kp md_L_law d (l18 v3 m) 18 [(0, .ref 1000000), (1, .ref 0), (2, .ref 112), (3, .int v3)] [] m) (v3 : Int32) (m : qm_M) : qe_J kp md_L_law d (X_L_law_731 kp f_T_entry f_M_entry l18 v3 m) 731 [(0, .ref 1000000), (1, .ref 0), (2, .ref 112), (3, .int v3)] [] m := qe_runs (B := [(18, [0, 1, 2, 3], qp_ccci_ 1000000 0 112 l18)]) (n := 1000) hT (qe_B1 (qp_ccci__ok h18) qe_B0) rfl
def X_L_law_718 (kp : pm_K) (f_T_invert : qm_M → Option qm_R) (f_M_invert : qm_M → Option qm_R) (l18 : Int32 → qm_M → Option qm_R) (v3 : Int32) (m : qm_M) : Option qm_R :=
  qe_rI (f_T_invert m) fun x1 m1 =>
  qe_rI (f_M_invert m1) fun x2 m2 =>
  if x1 = x2 then
    l18 (v3 + (6 : Int32)) m2
  else
    some (some (.int (0 : Int32)), m2)
set_option maxRecDepth 100000 in
set_option maxHeartbeats 8000000 in
theorem xg_L_law_718 {kp : pm_K} {d : Nat} {f_T_invert : qm_M → Option qm_R} {f_M_invert : qm_M → Option qm_R} {l18 : Int32 → qm_M → Option qm_R} (hT : qe_G kp d [(151, 0, 10, 1, qw_c 0 f_T_invert), (267, 0, 11, 1, qw_c 112 f_M_invert)]) (h18 : ∀ (v3 : Int32) (m : qm_M), qe_J kp md_L_law d (l18 v3 m) 18 [(0, .ref 1000000), (1, .ref 0), (2, .ref 112), (3, .int v3)] [] m) (v3 : Int32) (m : qm_M) : qe_J kp md_L_law d (X_L_law_718 kp f_T_invert f_M_invert l18 v3 m) 718 [(0, .ref 1000000), (1, .ref 0), (2, .ref 112), (3, .int v3)] [] m := qe_runs (B := [(18, [0, 1, 2, 3], qp_ccci_ 1000000 0 112 l18)]) (n := 1000) hT (qe_B1 (qp_ccci__ok h18) qe_B0) rfl
def X_L_law_695 (kp : pm_K) (f_T_multiply : Int32 → qm_M → Option qm_R) (f_M_multiply : Int32 → qm_M → Option qm_R) (l18 : Int32 → qm_M → Option qm_R) (v3 : Int32) (m : qm_M) : Option qm_R :=
  qe_b (qm_in (v3 + (1 : Int32)) kp.1) (
  qe_rI (f_T_multiply (kp.2 (Int32.toNatClampNeg (v3 + (1 : Int32)))) m) fun x1 m1 =>
  qe_b (qm_in (v3 + (1 : Int32)) kp.1) (
  qe_rI (f_M_multiply (kp.2 (Int32.toNatClampNeg (v3 + (1 : Int32)))) m1) fun x2 m2 =>
  if x1 = x2 then
    l18 (v3 + (6 : Int32)) m2
  else
    some (some (.int (0 : Int32)), m2)))
set_option maxRecDepth 100000 in
set_option maxHeartbeats 8000000 in
theorem xg_L_law_695 {kp : pm_K} {d : Nat} {f_T_multiply : Int32 → qm_M → Option qm_R} {f_M_multiply : Int32 → qm_M → Option qm_R} {l18 : Int32 → qm_M → Option qm_R} (hT : qe_G kp d [(149, 0, 10, 1, qw_ci 0 f_T_multiply), (266, 0, 11, 1, qw_ci 112 f_M_multiply)]) (h18 : ∀ (v3 : Int32) (m : qm_M), qe_J kp md_L_law d (l18 v3 m) 18 [(0, .ref 1000000), (1, .ref 0), (2, .ref 112), (3, .int v3)] [] m) (v3 : Int32) (m : qm_M) : qe_J kp md_L_law d (X_L_law_695 kp f_T_multiply f_M_multiply l18 v3 m) 695 [(0, .ref 1000000), (1, .ref 0), (2, .ref 112), (3, .int v3)] [] m := qe_runs (B := [(18, [0, 1, 2, 3], qp_ccci_ 1000000 0 112 l18)]) (n := 1000) hT (qe_B1 (qp_ccci__ok h18) qe_B0) rfl
def X_L_law_622 (kp : pm_K) (f_T_enter : Int32 → Int32 → Int64 → qm_M → Option qm_R) (f_M_enter : Int32 → Int32 → Int64 → qm_M → Option qm_R) (l18 : Int32 → qm_M → Option qm_R) (v3 : Int32) (m : qm_M) : Option qm_R :=
  qe_b (qm_in (v3 + (1 : Int32)) kp.1) (
  qe_b (qm_in (v3 + (2 : Int32)) kp.1) (
  qe_b (qm_in (v3 + (3 : Int32)) kp.1) (
  qe_b (qm_in (v3 + (4 : Int32)) kp.1) (
  qe_rI (f_T_enter (kp.2 (Int32.toNatClampNeg (v3 + (1 : Int32)))) (kp.2 (Int32.toNatClampNeg (v3 + (2 : Int32)))) ((qo_lshl (Int32.toInt64 (kp.2 (Int32.toNatClampNeg (v3 + (3 : Int32))))) (32 : Int32)) ||| ((Int32.toInt64 (kp.2 (Int32.toNatClampNeg (v3 + (4 : Int32))))) &&& (4294967295 : Int64))) m) fun x1 m1 =>
  qe_b (qm_in (v3 + (1 : Int32)) kp.1) (
  qe_b (qm_in (v3 + (2 : Int32)) kp.1) (
  qe_b (qm_in (v3 + (3 : Int32)) kp.1) (
  qe_b (qm_in (v3 + (4 : Int32)) kp.1) (
  qe_rI (f_M_enter (kp.2 (Int32.toNatClampNeg (v3 + (1 : Int32)))) (kp.2 (Int32.toNatClampNeg (v3 + (2 : Int32)))) ((qo_lshl (Int32.toInt64 (kp.2 (Int32.toNatClampNeg (v3 + (3 : Int32))))) (32 : Int32)) ||| ((Int32.toInt64 (kp.2 (Int32.toNatClampNeg (v3 + (4 : Int32))))) &&& (4294967295 : Int64))) m1) fun x2 m2 =>
  if x1 = x2 then
    l18 (v3 + (6 : Int32)) m2
  else
    some (some (.int (0 : Int32)), m2)))))))))
set_option maxRecDepth 100000 in
set_option maxHeartbeats 8000000 in
theorem xg_L_law_622 {kp : pm_K} {d : Nat} {f_T_enter : Int32 → Int32 → Int64 → qm_M → Option qm_R} {f_M_enter : Int32 → Int32 → Int64 → qm_M → Option qm_R} {l18 : Int32 → qm_M → Option qm_R} (hT : qe_G kp d [(148, 0, 10, 1, qw_ciil 0 f_T_enter), (264, 0, 11, 1, qw_ciil 112 f_M_enter)]) (h18 : ∀ (v3 : Int32) (m : qm_M), qe_J kp md_L_law d (l18 v3 m) 18 [(0, .ref 1000000), (1, .ref 0), (2, .ref 112), (3, .int v3)] [] m) (v3 : Int32) (m : qm_M) : qe_J kp md_L_law d (X_L_law_622 kp f_T_enter f_M_enter l18 v3 m) 622 [(0, .ref 1000000), (1, .ref 0), (2, .ref 112), (3, .int v3)] [] m := qe_runs (B := [(18, [0, 1, 2, 3], qp_ccci_ 1000000 0 112 l18)]) (n := 1000) hT (qe_B1 (qp_ccci__ok h18) qe_B0) rfl
def X_L_law_589 (kp : pm_K) (f_T_grid : Int32 → Int32 → qm_M → Option qm_R) (f_M_grid : Int32 → Int32 → qm_M → Option qm_R) (l18 : Int32 → qm_M → Option qm_R) (v3 : Int32) (m : qm_M) : Option qm_R :=
  qe_b (qm_in (v3 + (1 : Int32)) kp.1) (
  qe_b (qm_in (v3 + (2 : Int32)) kp.1) (
  qe_rI (f_T_grid (kp.2 (Int32.toNatClampNeg (v3 + (1 : Int32)))) (kp.2 (Int32.toNatClampNeg (v3 + (2 : Int32)))) m) fun x1 m1 =>
  qe_b (qm_in (v3 + (1 : Int32)) kp.1) (
  qe_b (qm_in (v3 + (2 : Int32)) kp.1) (
  qe_rI (f_M_grid (kp.2 (Int32.toNatClampNeg (v3 + (1 : Int32)))) (kp.2 (Int32.toNatClampNeg (v3 + (2 : Int32)))) m1) fun x2 m2 =>
  if x1 = x2 then
    l18 (v3 + (6 : Int32)) m2
  else
    some (some (.int (0 : Int32)), m2)))))
set_option maxRecDepth 100000 in
set_option maxHeartbeats 8000000 in
theorem xg_L_law_589 {kp : pm_K} {d : Nat} {f_T_grid : Int32 → Int32 → qm_M → Option qm_R} {f_M_grid : Int32 → Int32 → qm_M → Option qm_R} {l18 : Int32 → qm_M → Option qm_R} (hT : qe_G kp d [(147, 0, 10, 1, qw_cii 0 f_T_grid), (263, 0, 11, 1, qw_cii 112 f_M_grid)]) (h18 : ∀ (v3 : Int32) (m : qm_M), qe_J kp md_L_law d (l18 v3 m) 18 [(0, .ref 1000000), (1, .ref 0), (2, .ref 112), (3, .int v3)] [] m) (v3 : Int32) (m : qm_M) : qe_J kp md_L_law d (X_L_law_589 kp f_T_grid f_M_grid l18 v3 m) 589 [(0, .ref 1000000), (1, .ref 0), (2, .ref 112), (3, .int v3)] [] m := qe_runs (B := [(18, [0, 1, 2, 3], qp_ccci_ 1000000 0 112 l18)]) (n := 1000) hT (qe_B1 (qp_ccci__ok h18) qe_B0) rfl
def X_L_law_566 (kp : pm_K) (f_T_back : Int32 → qm_M → Option qm_R) (f_M_back : Int32 → qm_M → Option qm_R) (l18 : Int32 → qm_M → Option qm_R) (v3 : Int32) (m : qm_M) : Option qm_R :=
  qe_b (qm_in (v3 + (1 : Int32)) kp.1) (
  qe_rI (f_T_back (kp.2 (Int32.toNatClampNeg (v3 + (1 : Int32)))) m) fun x1 m1 =>
  qe_b (qm_in (v3 + (1 : Int32)) kp.1) (
  qe_rI (f_M_back (kp.2 (Int32.toNatClampNeg (v3 + (1 : Int32)))) m1) fun x2 m2 =>
  if x1 = x2 then
    l18 (v3 + (6 : Int32)) m2
  else
    some (some (.int (0 : Int32)), m2)))
set_option maxRecDepth 100000 in
set_option maxHeartbeats 8000000 in
theorem xg_L_law_566 {kp : pm_K} {d : Nat} {f_T_back : Int32 → qm_M → Option qm_R} {f_M_back : Int32 → qm_M → Option qm_R} {l18 : Int32 → qm_M → Option qm_R} (hT : qe_G kp d [(145, 0, 10, 1, qw_ci 0 f_T_back), (259, 0, 11, 1, qw_ci 112 f_M_back)]) (h18 : ∀ (v3 : Int32) (m : qm_M), qe_J kp md_L_law d (l18 v3 m) 18 [(0, .ref 1000000), (1, .ref 0), (2, .ref 112), (3, .int v3)] [] m) (v3 : Int32) (m : qm_M) : qe_J kp md_L_law d (X_L_law_566 kp f_T_back f_M_back l18 v3 m) 566 [(0, .ref 1000000), (1, .ref 0), (2, .ref 112), (3, .int v3)] [] m := qe_runs (B := [(18, [0, 1, 2, 3], qp_ccci_ 1000000 0 112 l18)]) (n := 1000) hT (qe_B1 (qp_ccci__ok h18) qe_B0) rfl
def X_L_law_543 (kp : pm_K) (f_T_keep : Int32 → qm_M → Option qm_R) (f_M_keep : Int32 → qm_M → Option qm_R) (l18 : Int32 → qm_M → Option qm_R) (v3 : Int32) (m : qm_M) : Option qm_R :=
  qe_b (qm_in (v3 + (1 : Int32)) kp.1) (
  qe_rI (f_T_keep (kp.2 (Int32.toNatClampNeg (v3 + (1 : Int32)))) m) fun x1 m1 =>
  qe_b (qm_in (v3 + (1 : Int32)) kp.1) (
  qe_rI (f_M_keep (kp.2 (Int32.toNatClampNeg (v3 + (1 : Int32)))) m1) fun x2 m2 =>
  if x1 = x2 then
    l18 (v3 + (6 : Int32)) m2
  else
    some (some (.int (0 : Int32)), m2)))
set_option maxRecDepth 100000 in
set_option maxHeartbeats 8000000 in
theorem xg_L_law_543 {kp : pm_K} {d : Nat} {f_T_keep : Int32 → qm_M → Option qm_R} {f_M_keep : Int32 → qm_M → Option qm_R} {l18 : Int32 → qm_M → Option qm_R} (hT : qe_G kp d [(144, 0, 10, 1, qw_ci 0 f_T_keep), (258, 0, 11, 1, qw_ci 112 f_M_keep)]) (h18 : ∀ (v3 : Int32) (m : qm_M), qe_J kp md_L_law d (l18 v3 m) 18 [(0, .ref 1000000), (1, .ref 0), (2, .ref 112), (3, .int v3)] [] m) (v3 : Int32) (m : qm_M) : qe_J kp md_L_law d (X_L_law_543 kp f_T_keep f_M_keep l18 v3 m) 543 [(0, .ref 1000000), (1, .ref 0), (2, .ref 112), (3, .int v3)] [] m := qe_runs (B := [(18, [0, 1, 2, 3], qp_ccci_ 1000000 0 112 l18)]) (n := 1000) hT (qe_B1 (qp_ccci__ok h18) qe_B0) rfl
def X_L_law_530 (kp : pm_K) (f_T_undo : qm_M → Option qm_R) (f_M_undo : qm_M → Option qm_R) (l18 : Int32 → qm_M → Option qm_R) (v3 : Int32) (m : qm_M) : Option qm_R :=
  qe_rI (f_T_undo m) fun x1 m1 =>
  qe_rI (f_M_undo m1) fun x2 m2 =>
  if x1 = x2 then
    l18 (v3 + (6 : Int32)) m2
  else
    some (some (.int (0 : Int32)), m2)
set_option maxRecDepth 100000 in
set_option maxHeartbeats 8000000 in
theorem xg_L_law_530 {kp : pm_K} {d : Nat} {f_T_undo : qm_M → Option qm_R} {f_M_undo : qm_M → Option qm_R} {l18 : Int32 → qm_M → Option qm_R} (hT : qe_G kp d [(143, 0, 10, 1, qw_c 0 f_T_undo), (254, 0, 11, 1, qw_c 112 f_M_undo)]) (h18 : ∀ (v3 : Int32) (m : qm_M), qe_J kp md_L_law d (l18 v3 m) 18 [(0, .ref 1000000), (1, .ref 0), (2, .ref 112), (3, .int v3)] [] m) (v3 : Int32) (m : qm_M) : qe_J kp md_L_law d (X_L_law_530 kp f_T_undo f_M_undo l18 v3 m) 530 [(0, .ref 1000000), (1, .ref 0), (2, .ref 112), (3, .int v3)] [] m := qe_runs (B := [(18, [0, 1, 2, 3], qp_ccci_ 1000000 0 112 l18)]) (n := 1000) hT (qe_B1 (qp_ccci__ok h18) qe_B0) rfl
def X_L_law_477 (kp : pm_K) (f_T_reckon : Int32 → Int32 → Int32 → Int32 → qm_M → Option qm_R) (f_M_reckon : Int32 → Int32 → Int32 → Int32 → qm_M → Option qm_R) (l18 : Int32 → qm_M → Option qm_R) (v3 : Int32) (m : qm_M) : Option qm_R :=
  qe_b (qm_in (v3 + (1 : Int32)) kp.1) (
  qe_b (qm_in (v3 + (2 : Int32)) kp.1) (
  qe_b (qm_in (v3 + (3 : Int32)) kp.1) (
  qe_b (qm_in (v3 + (4 : Int32)) kp.1) (
  qe_rI (f_T_reckon (kp.2 (Int32.toNatClampNeg (v3 + (1 : Int32)))) (kp.2 (Int32.toNatClampNeg (v3 + (2 : Int32)))) (kp.2 (Int32.toNatClampNeg (v3 + (3 : Int32)))) (kp.2 (Int32.toNatClampNeg (v3 + (4 : Int32)))) m) fun x1 m1 =>
  qe_b (qm_in (v3 + (1 : Int32)) kp.1) (
  qe_b (qm_in (v3 + (2 : Int32)) kp.1) (
  qe_b (qm_in (v3 + (3 : Int32)) kp.1) (
  qe_b (qm_in (v3 + (4 : Int32)) kp.1) (
  qe_rI (f_M_reckon (kp.2 (Int32.toNatClampNeg (v3 + (1 : Int32)))) (kp.2 (Int32.toNatClampNeg (v3 + (2 : Int32)))) (kp.2 (Int32.toNatClampNeg (v3 + (3 : Int32)))) (kp.2 (Int32.toNatClampNeg (v3 + (4 : Int32)))) m1) fun x2 m2 =>
  if x1 = x2 then
    l18 (v3 + (6 : Int32)) m2
  else
    some (some (.int (0 : Int32)), m2)))))))))
set_option maxRecDepth 100000 in
set_option maxHeartbeats 8000000 in
theorem xg_L_law_477 {kp : pm_K} {d : Nat} {f_T_reckon : Int32 → Int32 → Int32 → Int32 → qm_M → Option qm_R} {f_M_reckon : Int32 → Int32 → Int32 → Int32 → qm_M → Option qm_R} {l18 : Int32 → qm_M → Option qm_R} (hT : qe_G kp d [(141, 0, 10, 1, qw_ciiii 0 f_T_reckon), (262, 0, 11, 1, qw_ciiii 112 f_M_reckon)]) (h18 : ∀ (v3 : Int32) (m : qm_M), qe_J kp md_L_law d (l18 v3 m) 18 [(0, .ref 1000000), (1, .ref 0), (2, .ref 112), (3, .int v3)] [] m) (v3 : Int32) (m : qm_M) : qe_J kp md_L_law d (X_L_law_477 kp f_T_reckon f_M_reckon l18 v3 m) 477 [(0, .ref 1000000), (1, .ref 0), (2, .ref 112), (3, .int v3)] [] m := qe_runs (B := [(18, [0, 1, 2, 3], qp_ccci_ 1000000 0 112 l18)]) (n := 1000) hT (qe_B1 (qp_ccci__ok h18) qe_B0) rfl
def X_L_law_414 (kp : pm_K) (f_T_put : Int32 → Int64 → qm_M → Option qm_R) (f_M_put : Int32 → Int64 → qm_M → Option qm_R) (l18 : Int32 → qm_M → Option qm_R) (v3 : Int32) (m : qm_M) : Option qm_R :=
  qe_b (qm_in (v3 + (1 : Int32)) kp.1) (
  qe_b (qm_in (v3 + (2 : Int32)) kp.1) (
  qe_b (qm_in (v3 + (3 : Int32)) kp.1) (
  qe_rI (f_T_put (kp.2 (Int32.toNatClampNeg (v3 + (1 : Int32)))) ((qo_lshl (Int32.toInt64 (kp.2 (Int32.toNatClampNeg (v3 + (2 : Int32))))) (32 : Int32)) ||| ((Int32.toInt64 (kp.2 (Int32.toNatClampNeg (v3 + (3 : Int32))))) &&& (4294967295 : Int64))) m) fun x1 m1 =>
  qe_b (qm_in (v3 + (1 : Int32)) kp.1) (
  qe_b (qm_in (v3 + (2 : Int32)) kp.1) (
  qe_b (qm_in (v3 + (3 : Int32)) kp.1) (
  qe_rI (f_M_put (kp.2 (Int32.toNatClampNeg (v3 + (1 : Int32)))) ((qo_lshl (Int32.toInt64 (kp.2 (Int32.toNatClampNeg (v3 + (2 : Int32))))) (32 : Int32)) ||| ((Int32.toInt64 (kp.2 (Int32.toNatClampNeg (v3 + (3 : Int32))))) &&& (4294967295 : Int64))) m1) fun x2 m2 =>
  if x1 = x2 then
    l18 (v3 + (6 : Int32)) m2
  else
    some (some (.int (0 : Int32)), m2)))))))
set_option maxRecDepth 100000 in
set_option maxHeartbeats 8000000 in
theorem xg_L_law_414 {kp : pm_K} {d : Nat} {f_T_put : Int32 → Int64 → qm_M → Option qm_R} {f_M_put : Int32 → Int64 → qm_M → Option qm_R} {l18 : Int32 → qm_M → Option qm_R} (hT : qe_G kp d [(140, 0, 10, 1, qw_cil 0 f_T_put), (260, 0, 11, 1, qw_cil 112 f_M_put)]) (h18 : ∀ (v3 : Int32) (m : qm_M), qe_J kp md_L_law d (l18 v3 m) 18 [(0, .ref 1000000), (1, .ref 0), (2, .ref 112), (3, .int v3)] [] m) (v3 : Int32) (m : qm_M) : qe_J kp md_L_law d (X_L_law_414 kp f_T_put f_M_put l18 v3 m) 414 [(0, .ref 1000000), (1, .ref 0), (2, .ref 112), (3, .int v3)] [] m := qe_runs (B := [(18, [0, 1, 2, 3], qp_ccci_ 1000000 0 112 l18)]) (n := 1000) hT (qe_B1 (qp_ccci__ok h18) qe_B0) rfl
def X_L_law_401 (kp : pm_K) (f_T_answer : qm_M → Option qm_R) (f_M_answer : qm_M → Option qm_R) (l18 : Int32 → qm_M → Option qm_R) (v3 : Int32) (m : qm_M) : Option qm_R :=
  qe_rI (f_T_answer m) fun x1 m1 =>
  qe_rI (f_M_answer m1) fun x2 m2 =>
  if x1 = x2 then
    l18 (v3 + (6 : Int32)) m2
  else
    some (some (.int (0 : Int32)), m2)
set_option maxRecDepth 100000 in
set_option maxHeartbeats 8000000 in
theorem xg_L_law_401 {kp : pm_K} {d : Nat} {f_T_answer : qm_M → Option qm_R} {f_M_answer : qm_M → Option qm_R} {l18 : Int32 → qm_M → Option qm_R} (hT : qe_G kp d [(139, 0, 10, 1, qw_c 0 f_T_answer), (306, 0, 11, 1, qw_c 112 f_M_answer)]) (h18 : ∀ (v3 : Int32) (m : qm_M), qe_J kp md_L_law d (l18 v3 m) 18 [(0, .ref 1000000), (1, .ref 0), (2, .ref 112), (3, .int v3)] [] m) (v3 : Int32) (m : qm_M) : qe_J kp md_L_law d (X_L_law_401 kp f_T_answer f_M_answer l18 v3 m) 401 [(0, .ref 1000000), (1, .ref 0), (2, .ref 112), (3, .int v3)] [] m := qe_runs (B := [(18, [0, 1, 2, 3], qp_ccci_ 1000000 0 112 l18)]) (n := 1000) hT (qe_B1 (qp_ccci__ok h18) qe_B0) rfl
def X_L_law_368 (kp : pm_K) (f_T_play : Int32 → Int32 → qm_M → Option qm_R) (f_M_play : Int32 → Int32 → qm_M → Option qm_R) (l18 : Int32 → qm_M → Option qm_R) (v3 : Int32) (m : qm_M) : Option qm_R :=
  qe_b (qm_in (v3 + (1 : Int32)) kp.1) (
  qe_b (qm_in (v3 + (2 : Int32)) kp.1) (
  qe_rI (f_T_play (kp.2 (Int32.toNatClampNeg (v3 + (1 : Int32)))) (kp.2 (Int32.toNatClampNeg (v3 + (2 : Int32)))) m) fun x1 m1 =>
  qe_b (qm_in (v3 + (1 : Int32)) kp.1) (
  qe_b (qm_in (v3 + (2 : Int32)) kp.1) (
  qe_rI (f_M_play (kp.2 (Int32.toNatClampNeg (v3 + (1 : Int32)))) (kp.2 (Int32.toNatClampNeg (v3 + (2 : Int32)))) m1) fun x2 m2 =>
  if x1 = x2 then
    l18 (v3 + (6 : Int32)) m2
  else
    some (some (.int (0 : Int32)), m2)))))
set_option maxRecDepth 100000 in
set_option maxHeartbeats 8000000 in
theorem xg_L_law_368 {kp : pm_K} {d : Nat} {f_T_play : Int32 → Int32 → qm_M → Option qm_R} {f_M_play : Int32 → Int32 → qm_M → Option qm_R} {l18 : Int32 → qm_M → Option qm_R} (hT : qe_G kp d [(137, 0, 10, 1, qw_cii 0 f_T_play), (303, 0, 11, 1, qw_cii 112 f_M_play)]) (h18 : ∀ (v3 : Int32) (m : qm_M), qe_J kp md_L_law d (l18 v3 m) 18 [(0, .ref 1000000), (1, .ref 0), (2, .ref 112), (3, .int v3)] [] m) (v3 : Int32) (m : qm_M) : qe_J kp md_L_law d (X_L_law_368 kp f_T_play f_M_play l18 v3 m) 368 [(0, .ref 1000000), (1, .ref 0), (2, .ref 112), (3, .int v3)] [] m := qe_runs (B := [(18, [0, 1, 2, 3], qp_ccci_ 1000000 0 112 l18)]) (n := 1000) hT (qe_B1 (qp_ccci__ok h18) qe_B0) rfl
def X_L_law_335 (kp : pm_K) (f_T_turn : Int32 → Int32 → qm_M → Option qm_R) (f_M_turn : Int32 → Int32 → qm_M → Option qm_R) (l18 : Int32 → qm_M → Option qm_R) (v3 : Int32) (m : qm_M) : Option qm_R :=
  qe_b (qm_in (v3 + (1 : Int32)) kp.1) (
  qe_b (qm_in (v3 + (2 : Int32)) kp.1) (
  qe_rI (f_T_turn (kp.2 (Int32.toNatClampNeg (v3 + (1 : Int32)))) (kp.2 (Int32.toNatClampNeg (v3 + (2 : Int32)))) m) fun x1 m1 =>
  qe_b (qm_in (v3 + (1 : Int32)) kp.1) (
  qe_b (qm_in (v3 + (2 : Int32)) kp.1) (
  qe_rI (f_M_turn (kp.2 (Int32.toNatClampNeg (v3 + (1 : Int32)))) (kp.2 (Int32.toNatClampNeg (v3 + (2 : Int32)))) m1) fun x2 m2 =>
  if x1 = x2 then
    l18 (v3 + (6 : Int32)) m2
  else
    some (some (.int (0 : Int32)), m2)))))
set_option maxRecDepth 100000 in
set_option maxHeartbeats 8000000 in
theorem xg_L_law_335 {kp : pm_K} {d : Nat} {f_T_turn : Int32 → Int32 → qm_M → Option qm_R} {f_M_turn : Int32 → Int32 → qm_M → Option qm_R} {l18 : Int32 → qm_M → Option qm_R} (hT : qe_G kp d [(136, 0, 10, 1, qw_cii 0 f_T_turn), (301, 0, 11, 1, qw_cii 112 f_M_turn)]) (h18 : ∀ (v3 : Int32) (m : qm_M), qe_J kp md_L_law d (l18 v3 m) 18 [(0, .ref 1000000), (1, .ref 0), (2, .ref 112), (3, .int v3)] [] m) (v3 : Int32) (m : qm_M) : qe_J kp md_L_law d (X_L_law_335 kp f_T_turn f_M_turn l18 v3 m) 335 [(0, .ref 1000000), (1, .ref 0), (2, .ref 112), (3, .int v3)] [] m := qe_runs (B := [(18, [0, 1, 2, 3], qp_ccci_ 1000000 0 112 l18)]) (n := 1000) hT (qe_B1 (qp_ccci__ok h18) qe_B0) rfl
def X_L_law_322 (kp : pm_K) (f_T_tell : qm_M → Option qm_R) (f_M_tell : qm_M → Option qm_R) (l18 : Int32 → qm_M → Option qm_R) (v3 : Int32) (m : qm_M) : Option qm_R :=
  qe_rI (f_T_tell m) fun x1 m1 =>
  qe_rI (f_M_tell m1) fun x2 m2 =>
  if x1 = x2 then
    l18 (v3 + (6 : Int32)) m2
  else
    some (some (.int (0 : Int32)), m2)
set_option maxRecDepth 100000 in
set_option maxHeartbeats 8000000 in
theorem xg_L_law_322 {kp : pm_K} {d : Nat} {f_T_tell : qm_M → Option qm_R} {f_M_tell : qm_M → Option qm_R} {l18 : Int32 → qm_M → Option qm_R} (hT : qe_G kp d [(135, 0, 10, 1, qw_c 0 f_T_tell), (278, 0, 11, 1, qw_c 112 f_M_tell)]) (h18 : ∀ (v3 : Int32) (m : qm_M), qe_J kp md_L_law d (l18 v3 m) 18 [(0, .ref 1000000), (1, .ref 0), (2, .ref 112), (3, .int v3)] [] m) (v3 : Int32) (m : qm_M) : qe_J kp md_L_law d (X_L_law_322 kp f_T_tell f_M_tell l18 v3 m) 322 [(0, .ref 1000000), (1, .ref 0), (2, .ref 112), (3, .int v3)] [] m := qe_runs (B := [(18, [0, 1, 2, 3], qp_ccci_ 1000000 0 112 l18)]) (n := 1000) hT (qe_B1 (qp_ccci__ok h18) qe_B0) rfl
def X_L_law_299 (kp : pm_K) (f_T_end : Int32 → qm_M → Option qm_R) (f_M_end : Int32 → qm_M → Option qm_R) (l18 : Int32 → qm_M → Option qm_R) (v3 : Int32) (m : qm_M) : Option qm_R :=
  qe_b (qm_in (v3 + (1 : Int32)) kp.1) (
  qe_rI (f_T_end (kp.2 (Int32.toNatClampNeg (v3 + (1 : Int32)))) m) fun x1 m1 =>
  qe_b (qm_in (v3 + (1 : Int32)) kp.1) (
  qe_rI (f_M_end (kp.2 (Int32.toNatClampNeg (v3 + (1 : Int32)))) m1) fun x2 m2 =>
  if x1 = x2 then
    l18 (v3 + (6 : Int32)) m2
  else
    some (some (.int (0 : Int32)), m2)))
set_option maxRecDepth 100000 in
set_option maxHeartbeats 8000000 in
theorem xg_L_law_299 {kp : pm_K} {d : Nat} {f_T_end : Int32 → qm_M → Option qm_R} {f_M_end : Int32 → qm_M → Option qm_R} {l18 : Int32 → qm_M → Option qm_R} (hT : qe_G kp d [(134, 0, 10, 1, qw_ci 0 f_T_end), (269, 0, 11, 1, qw_ci 112 f_M_end)]) (h18 : ∀ (v3 : Int32) (m : qm_M), qe_J kp md_L_law d (l18 v3 m) 18 [(0, .ref 1000000), (1, .ref 0), (2, .ref 112), (3, .int v3)] [] m) (v3 : Int32) (m : qm_M) : qe_J kp md_L_law d (X_L_law_299 kp f_T_end f_M_end l18 v3 m) 299 [(0, .ref 1000000), (1, .ref 0), (2, .ref 112), (3, .int v3)] [] m := qe_runs (B := [(18, [0, 1, 2, 3], qp_ccci_ 1000000 0 112 l18)]) (n := 1000) hT (qe_B1 (qp_ccci__ok h18) qe_B0) rfl
def X_L_law_236 (kp : pm_K) (f_T_feed : Int32 → Int32 → Int32 → Int32 → Int32 → qm_M → Option qm_R) (f_M_feed : Int32 → Int32 → Int32 → Int32 → Int32 → qm_M → Option qm_R) (l18 : Int32 → qm_M → Option qm_R) (v3 : Int32) (m : qm_M) : Option qm_R :=
  qe_b (qm_in (v3 + (1 : Int32)) kp.1) (
  qe_b (qm_in (v3 + (2 : Int32)) kp.1) (
  qe_b (qm_in (v3 + (3 : Int32)) kp.1) (
  qe_b (qm_in (v3 + (4 : Int32)) kp.1) (
  qe_b (qm_in (v3 + (5 : Int32)) kp.1) (
  qe_rI (f_T_feed (kp.2 (Int32.toNatClampNeg (v3 + (1 : Int32)))) (kp.2 (Int32.toNatClampNeg (v3 + (2 : Int32)))) (kp.2 (Int32.toNatClampNeg (v3 + (3 : Int32)))) (kp.2 (Int32.toNatClampNeg (v3 + (4 : Int32)))) (kp.2 (Int32.toNatClampNeg (v3 + (5 : Int32)))) m) fun x1 m1 =>
  qe_b (qm_in (v3 + (1 : Int32)) kp.1) (
  qe_b (qm_in (v3 + (2 : Int32)) kp.1) (
  qe_b (qm_in (v3 + (3 : Int32)) kp.1) (
  qe_b (qm_in (v3 + (4 : Int32)) kp.1) (
  qe_b (qm_in (v3 + (5 : Int32)) kp.1) (
  qe_rI (f_M_feed (kp.2 (Int32.toNatClampNeg (v3 + (1 : Int32)))) (kp.2 (Int32.toNatClampNeg (v3 + (2 : Int32)))) (kp.2 (Int32.toNatClampNeg (v3 + (3 : Int32)))) (kp.2 (Int32.toNatClampNeg (v3 + (4 : Int32)))) (kp.2 (Int32.toNatClampNeg (v3 + (5 : Int32)))) m1) fun x2 m2 =>
  if x1 = x2 then
    l18 (v3 + (6 : Int32)) m2
  else
    some (some (.int (0 : Int32)), m2)))))))))))
set_option maxRecDepth 100000 in
set_option maxHeartbeats 8000000 in
theorem xg_L_law_236 {kp : pm_K} {d : Nat} {f_T_feed : Int32 → Int32 → Int32 → Int32 → Int32 → qm_M → Option qm_R} {f_M_feed : Int32 → Int32 → Int32 → Int32 → Int32 → qm_M → Option qm_R} {l18 : Int32 → qm_M → Option qm_R} (hT : qe_G kp d [(133, 0, 10, 1, qw_ciiiii 0 f_T_feed), (268, 0, 11, 1, qw_ciiiii 112 f_M_feed)]) (h18 : ∀ (v3 : Int32) (m : qm_M), qe_J kp md_L_law d (l18 v3 m) 18 [(0, .ref 1000000), (1, .ref 0), (2, .ref 112), (3, .int v3)] [] m) (v3 : Int32) (m : qm_M) : qe_J kp md_L_law d (X_L_law_236 kp f_T_feed f_M_feed l18 v3 m) 236 [(0, .ref 1000000), (1, .ref 0), (2, .ref 112), (3, .int v3)] [] m := qe_runs (B := [(18, [0, 1, 2, 3], qp_ccci_ 1000000 0 112 l18)]) (n := 1000) hT (qe_B1 (qp_ccci__ok h18) qe_B0) rfl
def X_L_law_18 (kp : pm_K) (l18 : Int32 → qm_M → Option qm_R) (l236 : Int32 → qm_M → Option qm_R) (l299 : Int32 → qm_M → Option qm_R) (l322 : Int32 → qm_M → Option qm_R) (l335 : Int32 → qm_M → Option qm_R) (l368 : Int32 → qm_M → Option qm_R) (l401 : Int32 → qm_M → Option qm_R) (l414 : Int32 → qm_M → Option qm_R) (l477 : Int32 → qm_M → Option qm_R) (l530 : Int32 → qm_M → Option qm_R) (l543 : Int32 → qm_M → Option qm_R) (l566 : Int32 → qm_M → Option qm_R) (l589 : Int32 → qm_M → Option qm_R) (l622 : Int32 → qm_M → Option qm_R) (l695 : Int32 → qm_M → Option qm_R) (l718 : Int32 → qm_M → Option qm_R) (l731 : Int32 → qm_M → Option qm_R) (l775 : Int32 → qm_M → Option qm_R) (l789 : Int32 → qm_M → Option qm_R) (l812 : Int32 → qm_M → Option qm_R) (l836 : Int32 → qm_M → Option qm_R) (l869 : Int32 → qm_M → Option qm_R) (l893 : Int32 → qm_M → Option qm_R) (l917 : Int32 → qm_M → Option qm_R) (l971 : Int32 → qm_M → Option qm_R) (l994 : Int32 → qm_M → Option qm_R) (l1028 : Int32 → qm_M → Option qm_R) (l1052 : Int32 → qm_M → Option qm_R) (l1075 : Int32 → qm_M → Option qm_R) (l1169 : Int32 → qm_M → Option qm_R) (l1223 : Int32 → qm_M → Option qm_R) (l1277 : Int32 → qm_M → Option qm_R) (l1371 : Int32 → qm_M → Option qm_R) (l1425 : Int32 → qm_M → Option qm_R) (l1488 : Int32 → qm_M → Option qm_R) (l1542 : Int32 → qm_M → Option qm_R) (l1605 : Int32 → qm_M → Option qm_R) (l1659 : Int32 → qm_M → Option qm_R) (l1763 : Int32 → qm_M → Option qm_R) (l1856 : Int32 → qm_M → Option qm_R) (l1880 : Int32 → qm_M → Option qm_R) (l1944 : Int32 → qm_M → Option qm_R) (l1977 : Int32 → qm_M → Option qm_R) (l2020 : Int32 → qm_M → Option qm_R) (l2034 : Int32 → qm_M → Option qm_R) (l2057 : Int32 → qm_M → Option qm_R) (l2100 : Int32 → qm_M → Option qm_R) (l2133 : Int32 → qm_M → Option qm_R) (v3 : Int32) (m : qm_M) : Option qm_R :=
  if ((Int32.ofNat kp.1) - (6 : Int32)) < v3 then
    some (some (.int (1 : Int32)), m)
  else
    qe_b (qm_in v3 kp.1) (
    if Int32.toInt ((kp.2 (Int32.toNatClampNeg v3)) &&& (63 : Int32)) = 0 then
      l236 v3 m
    else
     if Int32.toInt ((kp.2 (Int32.toNatClampNeg v3)) &&& (63 : Int32)) = 1 then
       l299 v3 m
     else
      if Int32.toInt ((kp.2 (Int32.toNatClampNeg v3)) &&& (63 : Int32)) = 2 then
        l322 v3 m
      else
       if Int32.toInt ((kp.2 (Int32.toNatClampNeg v3)) &&& (63 : Int32)) = 3 then
         l335 v3 m
       else
        if Int32.toInt ((kp.2 (Int32.toNatClampNeg v3)) &&& (63 : Int32)) = 4 then
          l368 v3 m
        else
         if Int32.toInt ((kp.2 (Int32.toNatClampNeg v3)) &&& (63 : Int32)) = 5 then
           l401 v3 m
         else
          if Int32.toInt ((kp.2 (Int32.toNatClampNeg v3)) &&& (63 : Int32)) = 6 then
            l414 v3 m
          else
           if Int32.toInt ((kp.2 (Int32.toNatClampNeg v3)) &&& (63 : Int32)) = 7 then
             l477 v3 m
           else
            if Int32.toInt ((kp.2 (Int32.toNatClampNeg v3)) &&& (63 : Int32)) = 8 then
              l530 v3 m
            else
             if Int32.toInt ((kp.2 (Int32.toNatClampNeg v3)) &&& (63 : Int32)) = 9 then
               l543 v3 m
             else
              if Int32.toInt ((kp.2 (Int32.toNatClampNeg v3)) &&& (63 : Int32)) = 10 then
                l566 v3 m
              else
               if Int32.toInt ((kp.2 (Int32.toNatClampNeg v3)) &&& (63 : Int32)) = 11 then
                 l589 v3 m
               else
                if Int32.toInt ((kp.2 (Int32.toNatClampNeg v3)) &&& (63 : Int32)) = 12 then
                  l622 v3 m
                else
                 if Int32.toInt ((kp.2 (Int32.toNatClampNeg v3)) &&& (63 : Int32)) = 13 then
                   l695 v3 m
                 else
                  if Int32.toInt ((kp.2 (Int32.toNatClampNeg v3)) &&& (63 : Int32)) = 14 then
                    l718 v3 m
                  else
                   if Int32.toInt ((kp.2 (Int32.toNatClampNeg v3)) &&& (63 : Int32)) = 15 then
                     l731 v3 m
                   else
                    if Int32.toInt ((kp.2 (Int32.toNatClampNeg v3)) &&& (63 : Int32)) = 16 then
                      l775 v3 m
                    else
                     if Int32.toInt ((kp.2 (Int32.toNatClampNeg v3)) &&& (63 : Int32)) = 17 then
                       l789 v3 m
                     else
                      if Int32.toInt ((kp.2 (Int32.toNatClampNeg v3)) &&& (63 : Int32)) = 18 then
                        l812 v3 m
                      else
                       if Int32.toInt ((kp.2 (Int32.toNatClampNeg v3)) &&& (63 : Int32)) = 19 then
                         l836 v3 m
                       else
                        if Int32.toInt ((kp.2 (Int32.toNatClampNeg v3)) &&& (63 : Int32)) = 20 then
                          l869 v3 m
                        else
                         if Int32.toInt ((kp.2 (Int32.toNatClampNeg v3)) &&& (63 : Int32)) = 21 then
                           l893 v3 m
                         else
                          if Int32.toInt ((kp.2 (Int32.toNatClampNeg v3)) &&& (63 : Int32)) = 22 then
                            l917 v3 m
                          else
                           if Int32.toInt ((kp.2 (Int32.toNatClampNeg v3)) &&& (63 : Int32)) = 23 then
                             l971 v3 m
                           else
                            if Int32.toInt ((kp.2 (Int32.toNatClampNeg v3)) &&& (63 : Int32)) = 24 then
                              l994 v3 m
                            else
                             if Int32.toInt ((kp.2 (Int32.toNatClampNeg v3)) &&& (63 : Int32)) = 25 then
                               l1028 v3 m
                             else
                              if Int32.toInt ((kp.2 (Int32.toNatClampNeg v3)) &&& (63 : Int32)) = 26 then
                                l1052 v3 m
                              else
                               if Int32.toInt ((kp.2 (Int32.toNatClampNeg v3)) &&& (63 : Int32)) = 27 then
                                 l1075 v3 m
                               else
                                if Int32.toInt ((kp.2 (Int32.toNatClampNeg v3)) &&& (63 : Int32)) = 28 then
                                  l1169 v3 m
                                else
                                 if Int32.toInt ((kp.2 (Int32.toNatClampNeg v3)) &&& (63 : Int32)) = 29 then
                                   l1223 v3 m
                                 else
                                  if Int32.toInt ((kp.2 (Int32.toNatClampNeg v3)) &&& (63 : Int32)) = 30 then
                                    l1277 v3 m
                                  else
                                   if Int32.toInt ((kp.2 (Int32.toNatClampNeg v3)) &&& (63 : Int32)) = 31 then
                                     l1371 v3 m
                                   else
                                    if Int32.toInt ((kp.2 (Int32.toNatClampNeg v3)) &&& (63 : Int32)) = 32 then
                                      l1425 v3 m
                                    else
                                     if Int32.toInt ((kp.2 (Int32.toNatClampNeg v3)) &&& (63 : Int32)) = 33 then
                                       l1488 v3 m
                                     else
                                      if Int32.toInt ((kp.2 (Int32.toNatClampNeg v3)) &&& (63 : Int32)) = 34 then
                                        l1542 v3 m
                                      else
                                       if Int32.toInt ((kp.2 (Int32.toNatClampNeg v3)) &&& (63 : Int32)) = 35 then
                                         l1605 v3 m
                                       else
                                        if Int32.toInt ((kp.2 (Int32.toNatClampNeg v3)) &&& (63 : Int32)) = 36 then
                                          l1659 v3 m
                                        else
                                         if Int32.toInt ((kp.2 (Int32.toNatClampNeg v3)) &&& (63 : Int32)) = 37 then
                                           l1763 v3 m
                                         else
                                          if Int32.toInt ((kp.2 (Int32.toNatClampNeg v3)) &&& (63 : Int32)) = 38 then
                                            l1856 v3 m
                                          else
                                           if Int32.toInt ((kp.2 (Int32.toNatClampNeg v3)) &&& (63 : Int32)) = 39 then
                                             l1880 v3 m
                                           else
                                            if Int32.toInt ((kp.2 (Int32.toNatClampNeg v3)) &&& (63 : Int32)) = 40 then
                                              l1944 v3 m
                                            else
                                             if Int32.toInt ((kp.2 (Int32.toNatClampNeg v3)) &&& (63 : Int32)) = 41 then
                                               l1977 v3 m
                                             else
                                              if Int32.toInt ((kp.2 (Int32.toNatClampNeg v3)) &&& (63 : Int32)) = 42 then
                                                l2020 v3 m
                                              else
                                               if Int32.toInt ((kp.2 (Int32.toNatClampNeg v3)) &&& (63 : Int32)) = 43 then
                                                 l2034 v3 m
                                               else
                                                if Int32.toInt ((kp.2 (Int32.toNatClampNeg v3)) &&& (63 : Int32)) = 44 then
                                                  l2057 v3 m
                                                else
                                                 if Int32.toInt ((kp.2 (Int32.toNatClampNeg v3)) &&& (63 : Int32)) = 45 then
                                                   l2100 v3 m
                                                 else
                                                  if Int32.toInt ((kp.2 (Int32.toNatClampNeg v3)) &&& (63 : Int32)) = 46 then
                                                    l2133 v3 m
                                                  else
                                                    l18 (v3 + (6 : Int32)) m)
set_option maxRecDepth 100000 in
set_option maxHeartbeats 8000000 in
theorem xg_L_law_18 {kp : pm_K} {d : Nat} {l18 : Int32 → qm_M → Option qm_R} {l236 : Int32 → qm_M → Option qm_R} {l299 : Int32 → qm_M → Option qm_R} {l322 : Int32 → qm_M → Option qm_R} {l335 : Int32 → qm_M → Option qm_R} {l368 : Int32 → qm_M → Option qm_R} {l401 : Int32 → qm_M → Option qm_R} {l414 : Int32 → qm_M → Option qm_R} {l477 : Int32 → qm_M → Option qm_R} {l530 : Int32 → qm_M → Option qm_R} {l543 : Int32 → qm_M → Option qm_R} {l566 : Int32 → qm_M → Option qm_R} {l589 : Int32 → qm_M → Option qm_R} {l622 : Int32 → qm_M → Option qm_R} {l695 : Int32 → qm_M → Option qm_R} {l718 : Int32 → qm_M → Option qm_R} {l731 : Int32 → qm_M → Option qm_R} {l775 : Int32 → qm_M → Option qm_R} {l789 : Int32 → qm_M → Option qm_R} {l812 : Int32 → qm_M → Option qm_R} {l836 : Int32 → qm_M → Option qm_R} {l869 : Int32 → qm_M → Option qm_R} {l893 : Int32 → qm_M → Option qm_R} {l917 : Int32 → qm_M → Option qm_R} {l971 : Int32 → qm_M → Option qm_R} {l994 : Int32 → qm_M → Option qm_R} {l1028 : Int32 → qm_M → Option qm_R} {l1052 : Int32 → qm_M → Option qm_R} {l1075 : Int32 → qm_M → Option qm_R} {l1169 : Int32 → qm_M → Option qm_R} {l1223 : Int32 → qm_M → Option qm_R} {l1277 : Int32 → qm_M → Option qm_R} {l1371 : Int32 → qm_M → Option qm_R} {l1425 : Int32 → qm_M → Option qm_R} {l1488 : Int32 → qm_M → Option qm_R} {l1542 : Int32 → qm_M → Option qm_R} {l1605 : Int32 → qm_M → Option qm_R} {l1659 : Int32 → qm_M → Option qm_R} {l1763 : Int32 → qm_M → Option qm_R} {l1856 : Int32 → qm_M → Option qm_R} {l1880 : Int32 → qm_M → Option qm_R} {l1944 : Int32 → qm_M → Option qm_R} {l1977 : Int32 → qm_M → Option qm_R} {l2020 : Int32 → qm_M → Option qm_R} {l2034 : Int32 → qm_M → Option qm_R} {l2057 : Int32 → qm_M → Option qm_R} {l2100 : Int32 → qm_M → Option qm_R} {l2133 : Int32 → qm_M → Option qm_R} (hT : qe_G kp d []) (h18 : ∀ (v3 : Int32) (m : qm_M), qe_J kp md_L_law d (l18 v3 m) 18 [(0, .ref 1000000), (1, .ref 0), (2, .ref 112), (3, .int v3)] [] m) (h236 : ∀ (v3 : Int32) (m : qm_M), qe_J kp md_L_law d (l236 v3 m) 236 [(0, .ref 1000000), (1, .ref 0), (2, .ref 112), (3, .int v3)] [] m) (h299 : ∀ (v3 : Int32) (m : qm_M), qe_J kp md_L_law d (l299 v3 m) 299 [(0, .ref 1000000), (1, .ref 0), (2, .ref 112), (3, .int v3)] [] m) (h322 : ∀ (v3 : Int32) (m : qm_M), qe_J kp md_L_law d (l322 v3 m) 322 [(0, .ref 1000000), (1, .ref 0), (2, .ref 112), (3, .int v3)] [] m) (h335 : ∀ (v3 : Int32) (m : qm_M), qe_J kp md_L_law d (l335 v3 m) 335 [(0, .ref 1000000), (1, .ref 0), (2, .ref 112), (3, .int v3)] [] m) (h368 : ∀ (v3 : Int32) (m : qm_M), qe_J kp md_L_law d (l368 v3 m) 368 [(0, .ref 1000000), (1, .ref 0), (2, .ref 112), (3, .int v3)] [] m) (h401 : ∀ (v3 : Int32) (m : qm_M), qe_J kp md_L_law d (l401 v3 m) 401 [(0, .ref 1000000), (1, .ref 0), (2, .ref 112), (3, .int v3)] [] m) (h414 : ∀ (v3 : Int32) (m : qm_M), qe_J kp md_L_law d (l414 v3 m) 414 [(0, .ref 1000000), (1, .ref 0), (2, .ref 112), (3, .int v3)] [] m) (h477 : ∀ (v3 : Int32) (m : qm_M), qe_J kp md_L_law d (l477 v3 m) 477 [(0, .ref 1000000), (1, .ref 0), (2, .ref 112), (3, .int v3)] [] m) (h530 : ∀ (v3 : Int32) (m : qm_M), qe_J kp md_L_law d (l530 v3 m) 530 [(0, .ref 1000000), (1, .ref 0), (2, .ref 112), (3, .int v3)] [] m) (h543 : ∀ (v3 : Int32) (m : qm_M), qe_J kp md_L_law d (l543 v3 m) 543 [(0, .ref 1000000), (1, .ref 0), (2, .ref 112), (3, .int v3)] [] m) (h566 : ∀ (v3 : Int32) (m : qm_M), qe_J kp md_L_law d (l566 v3 m) 566 [(0, .ref 1000000), (1, .ref 0), (2, .ref 112), (3, .int v3)] [] m) (h589 : ∀ (v3 : Int32) (m : qm_M), qe_J kp md_L_law d (l589 v3 m) 589 [(0, .ref 1000000), (1, .ref 0), (2, .ref 112), (3, .int v3)] [] m) (h622 : ∀ (v3 : Int32) (m : qm_M), qe_J kp md_L_law d (l622 v3 m) 622 [(0, .ref 1000000), (1, .ref 0), (2, .ref 112), (3, .int v3)] [] m) (h695 : ∀ (v3 : Int32) (m : qm_M), qe_J kp md_L_law d (l695 v3 m) 695 [(0, .ref 1000000), (1, .ref 0), (2, .ref 112), (3, .int v3)] [] m) (h718 : ∀ (v3 : Int32) (m : qm_M), qe_J kp md_L_law d (l718 v3 m) 718 [(0, .ref 1000000), (1, .ref 0), (2, .ref 112), (3, .int v3)] [] m) (h731 : ∀ (v3 : Int32) (m : qm_M), qe_J kp md_L_law d (l731 v3 m) 731 [(0, .ref 1000000), (1, .ref 0), (2, .ref 112), (3, .int v3)] [] m) (h775 : ∀ (v3 : Int32) (m : qm_M), qe_J kp md_L_law d (l775 v3 m) 775 [(0, .ref 1000000), (1, .ref 0), (2, .ref 112), (3, .int v3)] [] m) (h789 : ∀ (v3 : Int32) (m : qm_M), qe_J kp md_L_law d (l789 v3 m) 789 [(0, .ref 1000000), (1, .ref 0), (2, .ref 112), (3, .int v3)] [] m) (h812 : ∀ (v3 : Int32) (m : qm_M), qe_J kp md_L_law d (l812 v3 m) 812 [(0, .ref 1000000), (1, .ref 0), (2, .ref 112), (3, .int v3)] [] m) (h836 : ∀ (v3 : Int32) (m : qm_M), qe_J kp md_L_law d (l836 v3 m) 836 [(0, .ref 1000000), (1, .ref 0), (2, .ref 112), (3, .int v3)] [] m) (h869 : ∀ (v3 : Int32) (m : qm_M), qe_J kp md_L_law d (l869 v3 m) 869 [(0, .ref 1000000), (1, .ref 0), (2, .ref 112), (3, .int v3)] [] m) (h893 : ∀ (v3 : Int32) (m : qm_M), qe_J kp md_L_law d (l893 v3 m) 893 [(0, .ref 1000000), (1, .ref 0), (2, .ref 112), (3, .int v3)] [] m) (h917 : ∀ (v3 : Int32) (m : qm_M), qe_J kp md_L_law d (l917 v3 m) 917 [(0, .ref 1000000), (1, .ref 0), (2, .ref 112), (3, .int v3)] [] m) (h971 : ∀ (v3 : Int32) (m : qm_M), qe_J kp md_L_law d (l971 v3 m) 971 [(0, .ref 1000000), (1, .ref 0), (2, .ref 112), (3, .int v3)] [] m) (h994 : ∀ (v3 : Int32) (m : qm_M), qe_J kp md_L_law d (l994 v3 m) 994 [(0, .ref 1000000), (1, .ref 0), (2, .ref 112), (3, .int v3)] [] m) (h1028 : ∀ (v3 : Int32) (m : qm_M), qe_J kp md_L_law d (l1028 v3 m) 1028 [(0, .ref 1000000), (1, .ref 0), (2, .ref 112), (3, .int v3)] [] m) (h1052 : ∀ (v3 : Int32) (m : qm_M), qe_J kp md_L_law d (l1052 v3 m) 1052 [(0, .ref 1000000), (1, .ref 0), (2, .ref 112), (3, .int v3)] [] m) (h1075 : ∀ (v3 : Int32) (m : qm_M), qe_J kp md_L_law d (l1075 v3 m) 1075 [(0, .ref 1000000), (1, .ref 0), (2, .ref 112), (3, .int v3)] [] m) (h1169 : ∀ (v3 : Int32) (m : qm_M), qe_J kp md_L_law d (l1169 v3 m) 1169 [(0, .ref 1000000), (1, .ref 0), (2, .ref 112), (3, .int v3)] [] m) (h1223 : ∀ (v3 : Int32) (m : qm_M), qe_J kp md_L_law d (l1223 v3 m) 1223 [(0, .ref 1000000), (1, .ref 0), (2, .ref 112), (3, .int v3)] [] m) (h1277 : ∀ (v3 : Int32) (m : qm_M), qe_J kp md_L_law d (l1277 v3 m) 1277 [(0, .ref 1000000), (1, .ref 0), (2, .ref 112), (3, .int v3)] [] m) (h1371 : ∀ (v3 : Int32) (m : qm_M), qe_J kp md_L_law d (l1371 v3 m) 1371 [(0, .ref 1000000), (1, .ref 0), (2, .ref 112), (3, .int v3)] [] m) (h1425 : ∀ (v3 : Int32) (m : qm_M), qe_J kp md_L_law d (l1425 v3 m) 1425 [(0, .ref 1000000), (1, .ref 0), (2, .ref 112), (3, .int v3)] [] m) (h1488 : ∀ (v3 : Int32) (m : qm_M), qe_J kp md_L_law d (l1488 v3 m) 1488 [(0, .ref 1000000), (1, .ref 0), (2, .ref 112), (3, .int v3)] [] m) (h1542 : ∀ (v3 : Int32) (m : qm_M), qe_J kp md_L_law d (l1542 v3 m) 1542 [(0, .ref 1000000), (1, .ref 0), (2, .ref 112), (3, .int v3)] [] m) (h1605 : ∀ (v3 : Int32) (m : qm_M), qe_J kp md_L_law d (l1605 v3 m) 1605 [(0, .ref 1000000), (1, .ref 0), (2, .ref 112), (3, .int v3)] [] m) (h1659 : ∀ (v3 : Int32) (m : qm_M), qe_J kp md_L_law d (l1659 v3 m) 1659 [(0, .ref 1000000), (1, .ref 0), (2, .ref 112), (3, .int v3)] [] m) (h1763 : ∀ (v3 : Int32) (m : qm_M), qe_J kp md_L_law d (l1763 v3 m) 1763 [(0, .ref 1000000), (1, .ref 0), (2, .ref 112), (3, .int v3)] [] m) (h1856 : ∀ (v3 : Int32) (m : qm_M), qe_J kp md_L_law d (l1856 v3 m) 1856 [(0, .ref 1000000), (1, .ref 0), (2, .ref 112), (3, .int v3)] [] m) (h1880 : ∀ (v3 : Int32) (m : qm_M), qe_J kp md_L_law d (l1880 v3 m) 1880 [(0, .ref 1000000), (1, .ref 0), (2, .ref 112), (3, .int v3)] [] m) (h1944 : ∀ (v3 : Int32) (m : qm_M), qe_J kp md_L_law d (l1944 v3 m) 1944 [(0, .ref 1000000), (1, .ref 0), (2, .ref 112), (3, .int v3)] [] m) (h1977 : ∀ (v3 : Int32) (m : qm_M), qe_J kp md_L_law d (l1977 v3 m) 1977 [(0, .ref 1000000), (1, .ref 0), (2, .ref 112), (3, .int v3)] [] m) (h2020 : ∀ (v3 : Int32) (m : qm_M), qe_J kp md_L_law d (l2020 v3 m) 2020 [(0, .ref 1000000), (1, .ref 0), (2, .ref 112), (3, .int v3)] [] m) (h2034 : ∀ (v3 : Int32) (m : qm_M), qe_J kp md_L_law d (l2034 v3 m) 2034 [(0, .ref 1000000), (1, .ref 0), (2, .ref 112), (3, .int v3)] [] m) (h2057 : ∀ (v3 : Int32) (m : qm_M), qe_J kp md_L_law d (l2057 v3 m) 2057 [(0, .ref 1000000), (1, .ref 0), (2, .ref 112), (3, .int v3)] [] m) (h2100 : ∀ (v3 : Int32) (m : qm_M), qe_J kp md_L_law d (l2100 v3 m) 2100 [(0, .ref 1000000), (1, .ref 0), (2, .ref 112), (3, .int v3)] [] m) (h2133 : ∀ (v3 : Int32) (m : qm_M), qe_J kp md_L_law d (l2133 v3 m) 2133 [(0, .ref 1000000), (1, .ref 0), (2, .ref 112), (3, .int v3)] [] m) (v3 : Int32) (m : qm_M) : qe_J kp md_L_law d (X_L_law_18 kp l18 l236 l299 l322 l335 l368 l401 l414 l477 l530 l543 l566 l589 l622 l695 l718 l731 l775 l789 l812 l836 l869 l893 l917 l971 l994 l1028 l1052 l1075 l1169 l1223 l1277 l1371 l1425 l1488 l1542 l1605 l1659 l1763 l1856 l1880 l1944 l1977 l2020 l2034 l2057 l2100 l2133 v3 m) 18 [(0, .ref 1000000), (1, .ref 0), (2, .ref 112), (3, .int v3)] [] m := qe_runs (B := [(18, [0, 1, 2, 3], qp_ccci_ 1000000 0 112 l18), (236, [0, 1, 2, 3], qp_ccci_ 1000000 0 112 l236), (299, [0, 1, 2, 3], qp_ccci_ 1000000 0 112 l299), (322, [0, 1, 2, 3], qp_ccci_ 1000000 0 112 l322), (335, [0, 1, 2, 3], qp_ccci_ 1000000 0 112 l335), (368, [0, 1, 2, 3], qp_ccci_ 1000000 0 112 l368), (401, [0, 1, 2, 3], qp_ccci_ 1000000 0 112 l401), (414, [0, 1, 2, 3], qp_ccci_ 1000000 0 112 l414), (477, [0, 1, 2, 3], qp_ccci_ 1000000 0 112 l477), (530, [0, 1, 2, 3], qp_ccci_ 1000000 0 112 l530), (543, [0, 1, 2, 3], qp_ccci_ 1000000 0 112 l543), (566, [0, 1, 2, 3], qp_ccci_ 1000000 0 112 l566), (589, [0, 1, 2, 3], qp_ccci_ 1000000 0 112 l589), (622, [0, 1, 2, 3], qp_ccci_ 1000000 0 112 l622), (695, [0, 1, 2, 3], qp_ccci_ 1000000 0 112 l695), (718, [0, 1, 2, 3], qp_ccci_ 1000000 0 112 l718), (731, [0, 1, 2, 3], qp_ccci_ 1000000 0 112 l731), (775, [0, 1, 2, 3], qp_ccci_ 1000000 0 112 l775), (789, [0, 1, 2, 3], qp_ccci_ 1000000 0 112 l789), (812, [0, 1, 2, 3], qp_ccci_ 1000000 0 112 l812), (836, [0, 1, 2, 3], qp_ccci_ 1000000 0 112 l836), (869, [0, 1, 2, 3], qp_ccci_ 1000000 0 112 l869), (893, [0, 1, 2, 3], qp_ccci_ 1000000 0 112 l893), (917, [0, 1, 2, 3], qp_ccci_ 1000000 0 112 l917), (971, [0, 1, 2, 3], qp_ccci_ 1000000 0 112 l971), (994, [0, 1, 2, 3], qp_ccci_ 1000000 0 112 l994), (1028, [0, 1, 2, 3], qp_ccci_ 1000000 0 112 l1028), (1052, [0, 1, 2, 3], qp_ccci_ 1000000 0 112 l1052), (1075, [0, 1, 2, 3], qp_ccci_ 1000000 0 112 l1075), (1169, [0, 1, 2, 3], qp_ccci_ 1000000 0 112 l1169), (1223, [0, 1, 2, 3], qp_ccci_ 1000000 0 112 l1223), (1277, [0, 1, 2, 3], qp_ccci_ 1000000 0 112 l1277), (1371, [0, 1, 2, 3], qp_ccci_ 1000000 0 112 l1371), (1425, [0, 1, 2, 3], qp_ccci_ 1000000 0 112 l1425), (1488, [0, 1, 2, 3], qp_ccci_ 1000000 0 112 l1488), (1542, [0, 1, 2, 3], qp_ccci_ 1000000 0 112 l1542), (1605, [0, 1, 2, 3], qp_ccci_ 1000000 0 112 l1605), (1659, [0, 1, 2, 3], qp_ccci_ 1000000 0 112 l1659), (1763, [0, 1, 2, 3], qp_ccci_ 1000000 0 112 l1763), (1856, [0, 1, 2, 3], qp_ccci_ 1000000 0 112 l1856), (1880, [0, 1, 2, 3], qp_ccci_ 1000000 0 112 l1880), (1944, [0, 1, 2, 3], qp_ccci_ 1000000 0 112 l1944), (1977, [0, 1, 2, 3], qp_ccci_ 1000000 0 112 l1977), (2020, [0, 1, 2, 3], qp_ccci_ 1000000 0 112 l2020), (2034, [0, 1, 2, 3], qp_ccci_ 1000000 0 112 l2034), (2057, [0, 1, 2, 3], qp_ccci_ 1000000 0 112 l2057), (2100, [0, 1, 2, 3], qp_ccci_ 1000000 0 112 l2100), (2133, [0, 1, 2, 3], qp_ccci_ 1000000 0 112 l2133)]) (n := 1000) hT (qe_B1 (qp_ccci__ok h18) (qe_B1 (qp_ccci__ok h236) (qe_B1 (qp_ccci__ok h299) (qe_B1 (qp_ccci__ok h322) (qe_B1 (qp_ccci__ok h335) (qe_B1 (qp_ccci__ok h368) (qe_B1 (qp_ccci__ok h401) (qe_B1 (qp_ccci__ok h414) (qe_B1 (qp_ccci__ok h477) (qe_B1 (qp_ccci__ok h530) (qe_B1 (qp_ccci__ok h543) (qe_B1 (qp_ccci__ok h566) (qe_B1 (qp_ccci__ok h589) (qe_B1 (qp_ccci__ok h622) (qe_B1 (qp_ccci__ok h695) (qe_B1 (qp_ccci__ok h718) (qe_B1 (qp_ccci__ok h731) (qe_B1 (qp_ccci__ok h775) (qe_B1 (qp_ccci__ok h789) (qe_B1 (qp_ccci__ok h812) (qe_B1 (qp_ccci__ok h836) (qe_B1 (qp_ccci__ok h869) (qe_B1 (qp_ccci__ok h893) (qe_B1 (qp_ccci__ok h917) (qe_B1 (qp_ccci__ok h971) (qe_B1 (qp_ccci__ok h994) (qe_B1 (qp_ccci__ok h1028) (qe_B1 (qp_ccci__ok h1052) (qe_B1 (qp_ccci__ok h1075) (qe_B1 (qp_ccci__ok h1169) (qe_B1 (qp_ccci__ok h1223) (qe_B1 (qp_ccci__ok h1277) (qe_B1 (qp_ccci__ok h1371) (qe_B1 (qp_ccci__ok h1425) (qe_B1 (qp_ccci__ok h1488) (qe_B1 (qp_ccci__ok h1542) (qe_B1 (qp_ccci__ok h1605) (qe_B1 (qp_ccci__ok h1659) (qe_B1 (qp_ccci__ok h1763) (qe_B1 (qp_ccci__ok h1856) (qe_B1 (qp_ccci__ok h1880) (qe_B1 (qp_ccci__ok h1944) (qe_B1 (qp_ccci__ok h1977) (qe_B1 (qp_ccci__ok h2020) (qe_B1 (qp_ccci__ok h2034) (qe_B1 (qp_ccci__ok h2057) (qe_B1 (qp_ccci__ok h2100) (qe_B1 (qp_ccci__ok h2133) qe_B0)))))))))))))))))))))))))))))))))))))))))))))))) rfl
def L_L_law_2133 (kp : pm_K) (K18 : Int32 → qm_M → Option qm_R) (v3 : Int32) (m : qm_M) : Option qm_R := X_L_law_2133 kp F_T_count F_M_count K18 v3 m
def L_L_law_2100 (kp : pm_K) (K18 : Int32 → qm_M → Option qm_R) (v3 : Int32) (m : qm_M) : Option qm_R := X_L_law_2100 kp F_T_sets F_M_sets K18 v3 m
def L_L_law_2057 (kp : pm_K) (K18 : Int32 → qm_M → Option qm_R) (v3 : Int32) (m : qm_M) : Option qm_R := X_L_law_2057 kp F_T_move F_M_move K18 v3 m
def L_L_law_2034 (kp : pm_K) (K18 : Int32 → qm_M → Option qm_R) (v3 : Int32) (m : qm_M) : Option qm_R := X_L_law_2034 kp F_T_moves F_M_moves K18 v3 m
def L_L_law_2020 (kp : pm_K) (K18 : Int32 → qm_M → Option qm_R) (v3 : Int32) (m : qm_M) : Option qm_R := X_L_law_2020 kp F_T_total F_M_total K18 v3 m
def L_L_law_1977 (kp : pm_K) (K18 : Int32 → qm_M → Option qm_R) (v3 : Int32) (m : qm_M) : Option qm_R := X_L_law_1977 kp F_T_cell F_M_cell K18 v3 m
def L_L_law_1944 (kp : pm_K) (K18 : Int32 → qm_M → Option qm_R) (v3 : Int32) (m : qm_M) : Option qm_R := X_L_law_1944 kp F_T_worth F_M_worth K18 v3 m
def L_L_law_1880 (kp : pm_K) (K18 : Int32 → qm_M → Option qm_R) (v3 : Int32) (m : qm_M) : Option qm_R := X_L_law_1880 kp F_T_at F_M_at K18 v3 m
def L_L_law_1856 (kp : pm_K) (K18 : Int32 → qm_M → Option qm_R) (v3 : Int32) (m : qm_M) : Option qm_R := X_L_law_1856 kp F_T_place F_M_place_IJ K18 v3 m
def L_L_law_1763 (kp : pm_K) (K18 : Int32 → qm_M → Option qm_R) (v3 : Int32) (m : qm_M) : Option qm_R := X_L_law_1763 kp F_T_log F_M_log K18 v3 m
def L_L_law_1659 (kp : pm_K) (K18 : Int32 → qm_M → Option qm_R) (v3 : Int32) (m : qm_M) : Option qm_R := X_L_law_1659 kp F_T_solve F_M_solve K18 v3 m
def L_L_law_1605 (kp : pm_K) (K18 : Int32 → qm_M → Option qm_R) (v3 : Int32) (m : qm_M) : Option qm_R := X_L_law_1605 kp F_T_half F_M_half K18 v3 m
def L_L_law_1542 (kp : pm_K) (K18 : Int32 → qm_M → Option qm_R) (v3 : Int32) (m : qm_M) : Option qm_R := X_L_law_1542 kp F_T_trace F_M_trace K18 v3 m
def L_L_law_1488 (kp : pm_K) (K18 : Int32 → qm_M → Option qm_R) (v3 : Int32) (m : qm_M) : Option qm_R := X_L_law_1488 kp F_T_least F_M_least K18 v3 m
def L_L_law_1425 (kp : pm_K) (K18 : Int32 → qm_M → Option qm_R) (v3 : Int32) (m : qm_M) : Option qm_R := X_L_law_1425 kp F_T_level F_M_level K18 v3 m
def L_L_law_1371 (kp : pm_K) (K18 : Int32 → qm_M → Option qm_R) (v3 : Int32) (m : qm_M) : Option qm_R := X_L_law_1371 kp F_T_order F_M_order K18 v3 m
def L_L_law_1277 (kp : pm_K) (K18 : Int32 → qm_M → Option qm_R) (v3 : Int32) (m : qm_M) : Option qm_R := X_L_law_1277 kp F_T_power F_M_power K18 v3 m
def L_L_law_1223 (kp : pm_K) (K18 : Int32 → qm_M → Option qm_R) (v3 : Int32) (m : qm_M) : Option qm_R := X_L_law_1223 kp F_T_root F_M_root K18 v3 m
def L_L_law_1169 (kp : pm_K) (K18 : Int32 → qm_M → Option qm_R) (v3 : Int32) (m : qm_M) : Option qm_R := X_L_law_1169 kp F_T_inverse F_M_inverse K18 v3 m
def L_L_law_1075 (kp : pm_K) (K18 : Int32 → qm_M → Option qm_R) (v3 : Int32) (m : qm_M) : Option qm_R := X_L_law_1075 kp F_T_times F_M_times K18 v3 m
def L_L_law_1052 (kp : pm_K) (K18 : Int32 → qm_M → Option qm_R) (v3 : Int32) (m : qm_M) : Option qm_R := X_L_law_1052 kp F_T_game F_M_game K18 v3 m
def L_L_law_1028 (kp : pm_K) (K18 : Int32 → qm_M → Option qm_R) (v3 : Int32) (m : qm_M) : Option qm_R := X_L_law_1028 kp F_T_boards F_M_boards K18 v3 m
def L_L_law_994 (kp : pm_K) (K18 : Int32 → qm_M → Option qm_R) (v3 : Int32) (m : qm_M) : Option qm_R := X_L_law_994 kp F_T_full F_M_full K18 v3 m
def L_L_law_971 (kp : pm_K) (K18 : Int32 → qm_M → Option qm_R) (v3 : Int32) (m : qm_M) : Option qm_R := X_L_law_971 kp F_T_agrees F_M_agrees K18 v3 m
def L_L_law_917 (kp : pm_K) (K18 : Int32 → qm_M → Option qm_R) (v3 : Int32) (m : qm_M) : Option qm_R := X_L_law_917 kp F_T_mendedAt F_M_mendedAt K18 v3 m
def L_L_law_893 (kp : pm_K) (K18 : Int32 → qm_M → Option qm_R) (v3 : Int32) (m : qm_M) : Option qm_R := X_L_law_893 kp F_T_mended F_M_mended K18 v3 m
def L_L_law_869 (kp : pm_K) (K18 : Int32 → qm_M → Option qm_R) (v3 : Int32) (m : qm_M) : Option qm_R := X_L_law_869 kp F_T_common F_M_common K18 v3 m
def L_L_law_836 (kp : pm_K) (K18 : Int32 → qm_M → Option qm_R) (v3 : Int32) (m : qm_M) : Option qm_R := X_L_law_836 kp F_T_roots F_M_roots K18 v3 m
def L_L_law_812 (kp : pm_K) (K18 : Int32 → qm_M → Option qm_R) (v3 : Int32) (m : qm_M) : Option qm_R := X_L_law_812 kp F_T_solution F_M_solution K18 v3 m
def L_L_law_789 (kp : pm_K) (K18 : Int32 → qm_M → Option qm_R) (v3 : Int32) (m : qm_M) : Option qm_R := X_L_law_789 kp F_T_shape F_M_shape K18 v3 m
def L_L_law_775 (kp : pm_K) (K18 : Int32 → qm_M → Option qm_R) (v3 : Int32) (m : qm_M) : Option qm_R := X_L_law_775 kp F_T_determinant F_M_determinant K18 v3 m
def L_L_law_731 (kp : pm_K) (K18 : Int32 → qm_M → Option qm_R) (v3 : Int32) (m : qm_M) : Option qm_R := X_L_law_731 kp F_T_entry F_M_entry K18 v3 m
def L_L_law_718 (kp : pm_K) (K18 : Int32 → qm_M → Option qm_R) (v3 : Int32) (m : qm_M) : Option qm_R := X_L_law_718 kp F_T_invert F_M_invert K18 v3 m
def L_L_law_695 (kp : pm_K) (K18 : Int32 → qm_M → Option qm_R) (v3 : Int32) (m : qm_M) : Option qm_R := X_L_law_695 kp F_T_multiply F_M_multiply K18 v3 m
def L_L_law_622 (kp : pm_K) (K18 : Int32 → qm_M → Option qm_R) (v3 : Int32) (m : qm_M) : Option qm_R := X_L_law_622 kp F_T_enter F_M_enter K18 v3 m
def L_L_law_589 (kp : pm_K) (K18 : Int32 → qm_M → Option qm_R) (v3 : Int32) (m : qm_M) : Option qm_R := X_L_law_589 kp F_T_grid F_M_grid K18 v3 m
def L_L_law_566 (kp : pm_K) (K18 : Int32 → qm_M → Option qm_R) (v3 : Int32) (m : qm_M) : Option qm_R := X_L_law_566 kp F_T_back F_M_back K18 v3 m
def L_L_law_543 (kp : pm_K) (K18 : Int32 → qm_M → Option qm_R) (v3 : Int32) (m : qm_M) : Option qm_R := X_L_law_543 kp F_T_keep F_M_keep K18 v3 m
def L_L_law_530 (kp : pm_K) (K18 : Int32 → qm_M → Option qm_R) (v3 : Int32) (m : qm_M) : Option qm_R := X_L_law_530 kp F_T_undo F_M_undo K18 v3 m
def L_L_law_477 (kp : pm_K) (K18 : Int32 → qm_M → Option qm_R) (v3 : Int32) (m : qm_M) : Option qm_R := X_L_law_477 kp F_T_reckon F_M_reckon K18 v3 m
def L_L_law_414 (kp : pm_K) (K18 : Int32 → qm_M → Option qm_R) (v3 : Int32) (m : qm_M) : Option qm_R := X_L_law_414 kp F_T_put F_M_put K18 v3 m
def L_L_law_401 (kp : pm_K) (K18 : Int32 → qm_M → Option qm_R) (v3 : Int32) (m : qm_M) : Option qm_R := X_L_law_401 kp F_T_answer F_M_answer K18 v3 m
def L_L_law_368 (kp : pm_K) (K18 : Int32 → qm_M → Option qm_R) (v3 : Int32) (m : qm_M) : Option qm_R := X_L_law_368 kp F_T_play F_M_play K18 v3 m
def L_L_law_335 (kp : pm_K) (K18 : Int32 → qm_M → Option qm_R) (v3 : Int32) (m : qm_M) : Option qm_R := X_L_law_335 kp F_T_turn F_M_turn K18 v3 m
def L_L_law_322 (kp : pm_K) (K18 : Int32 → qm_M → Option qm_R) (v3 : Int32) (m : qm_M) : Option qm_R := X_L_law_322 kp F_T_tell F_M_tell K18 v3 m
def L_L_law_299 (kp : pm_K) (K18 : Int32 → qm_M → Option qm_R) (v3 : Int32) (m : qm_M) : Option qm_R := X_L_law_299 kp F_T_end F_M_end K18 v3 m
def L_L_law_236 (kp : pm_K) (K18 : Int32 → qm_M → Option qm_R) (v3 : Int32) (m : qm_M) : Option qm_R := X_L_law_236 kp F_T_feed F_M_feed K18 v3 m
def L_L_law_18 (kp : pm_K) : Nat → Int32 → qm_M → Option qm_R
  | 0, _, _ => none
  | n + 1, v3, m => X_L_law_18 kp (L_L_law_18 kp n) (L_L_law_236 kp (L_L_law_18 kp n)) (L_L_law_299 kp (L_L_law_18 kp n)) (L_L_law_322 kp (L_L_law_18 kp n)) (L_L_law_335 kp (L_L_law_18 kp n)) (L_L_law_368 kp (L_L_law_18 kp n)) (L_L_law_401 kp (L_L_law_18 kp n)) (L_L_law_414 kp (L_L_law_18 kp n)) (L_L_law_477 kp (L_L_law_18 kp n)) (L_L_law_530 kp (L_L_law_18 kp n)) (L_L_law_543 kp (L_L_law_18 kp n)) (L_L_law_566 kp (L_L_law_18 kp n)) (L_L_law_589 kp (L_L_law_18 kp n)) (L_L_law_622 kp (L_L_law_18 kp n)) (L_L_law_695 kp (L_L_law_18 kp n)) (L_L_law_718 kp (L_L_law_18 kp n)) (L_L_law_731 kp (L_L_law_18 kp n)) (L_L_law_775 kp (L_L_law_18 kp n)) (L_L_law_789 kp (L_L_law_18 kp n)) (L_L_law_812 kp (L_L_law_18 kp n)) (L_L_law_836 kp (L_L_law_18 kp n)) (L_L_law_869 kp (L_L_law_18 kp n)) (L_L_law_893 kp (L_L_law_18 kp n)) (L_L_law_917 kp (L_L_law_18 kp n)) (L_L_law_971 kp (L_L_law_18 kp n)) (L_L_law_994 kp (L_L_law_18 kp n)) (L_L_law_1028 kp (L_L_law_18 kp n)) (L_L_law_1052 kp (L_L_law_18 kp n)) (L_L_law_1075 kp (L_L_law_18 kp n)) (L_L_law_1169 kp (L_L_law_18 kp n)) (L_L_law_1223 kp (L_L_law_18 kp n)) (L_L_law_1277 kp (L_L_law_18 kp n)) (L_L_law_1371 kp (L_L_law_18 kp n)) (L_L_law_1425 kp (L_L_law_18 kp n)) (L_L_law_1488 kp (L_L_law_18 kp n)) (L_L_law_1542 kp (L_L_law_18 kp n)) (L_L_law_1605 kp (L_L_law_18 kp n)) (L_L_law_1659 kp (L_L_law_18 kp n)) (L_L_law_1763 kp (L_L_law_18 kp n)) (L_L_law_1856 kp (L_L_law_18 kp n)) (L_L_law_1880 kp (L_L_law_18 kp n)) (L_L_law_1944 kp (L_L_law_18 kp n)) (L_L_law_1977 kp (L_L_law_18 kp n)) (L_L_law_2020 kp (L_L_law_18 kp n)) (L_L_law_2034 kp (L_L_law_18 kp n)) (L_L_law_2057 kp (L_L_law_18 kp n)) (L_L_law_2100 kp (L_L_law_18 kp n)) (L_L_law_2133 kp (L_L_law_18 kp n)) v3 m
theorem lg_L_law_18 {kp : pm_K} (d : Nat) : ∀ (n : Nat) (v3 : Int32) (m : qm_M), qe_J kp md_L_law (d + 38) (L_L_law_18 kp n v3 m) 18 [(0, .ref 1000000), (1, .ref 0), (2, .ref 112), (3, .int v3)] [] m
  | 0, v3, m => qe_none rfl
  | n + 1, v3, m => xg_L_law_18 (d := d + 38) qe_G0 (lg_L_law_18 d n) (xg_L_law_236 (qe_G1 (fg_T_feed (d + 36)) (qe_G1 (fg_M_feed (d + 37)) qe_G0)) (lg_L_law_18 d n)) (xg_L_law_299 (qe_G1 (fg_T_end (d + 37)) (qe_G1 (fg_M_end (d + 36)) qe_G0)) (lg_L_law_18 d n)) (xg_L_law_322 (qe_G1 (fg_T_tell (d + 30)) (qe_G1 (fg_M_tell (d + 29)) qe_G0)) (lg_L_law_18 d n)) (xg_L_law_335 (qe_G1 (fg_T_turn (d + 34)) (qe_G1 (fg_M_turn (d + 35)) qe_G0)) (lg_L_law_18 d n)) (xg_L_law_368 (qe_G1 (fg_T_play (d + 3)) (qe_G1 (fg_M_play (d + 33)) qe_G0)) (lg_L_law_18 d n)) (xg_L_law_401 (qe_G1 (fg_T_answer (d + 3)) (qe_G1 (fg_M_answer (d + 30)) qe_G0)) (lg_L_law_18 d n)) (xg_L_law_414 (qe_G1 (fg_T_put (d + 34)) (qe_G1 (fg_M_put (d + 36)) qe_G0)) (lg_L_law_18 d n)) (xg_L_law_477 (qe_G1 (fg_T_reckon (d + 2)) (qe_G1 (fg_M_reckon (d + 31)) qe_G0)) (lg_L_law_18 d n)) (xg_L_law_530 (qe_G1 (fg_T_undo (d + 34)) (qe_G1 (fg_M_undo (d + 37)) qe_G0)) (lg_L_law_18 d n)) (xg_L_law_543 (qe_G1 (fg_T_keep (d + 35)) (qe_G1 (fg_M_keep (d + 35)) qe_G0)) (lg_L_law_18 d n)) (xg_L_law_566 (qe_G1 (fg_T_back (d + 34)) (qe_G1 (fg_M_back (d + 35)) qe_G0)) (lg_L_law_18 d n)) (xg_L_law_589 (qe_G1 (fg_T_grid (d + 34)) (qe_G1 (fg_M_grid (d + 36)) qe_G0)) (lg_L_law_18 d n)) (xg_L_law_622 (qe_G1 (fg_T_enter (d + 34)) (qe_G1 (fg_M_enter (d + 35)) qe_G0)) (lg_L_law_18 d n)) (xg_L_law_695 (qe_G1 (fg_T_multiply (d + 3)) (qe_G1 (fg_M_multiply (d + 35)) qe_G0)) (lg_L_law_18 d n)) (xg_L_law_718 (qe_G1 (fg_T_invert (d + 1)) (qe_G1 (fg_M_invert (d + 30)) qe_G0)) (lg_L_law_18 d n)) (xg_L_law_731 (qe_G1 (fg_T_entry (d + 1)) (qe_G1 (fg_M_entry (d + 29)) qe_G0)) (lg_L_law_18 d n)) (xg_L_law_775 (qe_G1 (fg_T_determinant (d + 1)) (qe_G1 (fg_M_determinant (d + 29)) qe_G0)) (lg_L_law_18 d n)) (xg_L_law_789 (qe_G1 (fg_T_shape (d + 1)) (qe_G1 (fg_M_shape (d + 28)) qe_G0)) (lg_L_law_18 d n)) (xg_L_law_812 (qe_G1 (fg_T_solution (d + 1)) (qe_G1 (fg_M_solution (d + 28)) qe_G0)) (lg_L_law_18 d n)) (xg_L_law_836 (qe_G1 (fg_T_roots (d + 0)) (qe_G1 (fg_M_roots (d + 34)) qe_G0)) (lg_L_law_18 d n)) (xg_L_law_869 (qe_G1 (fg_T_common (d + 1)) (qe_G1 (fg_M_common (d + 30)) qe_G0)) (lg_L_law_18 d n)) (xg_L_law_893 (qe_G1 (fg_T_mended (d + 1)) (qe_G1 (fg_M_mended (d + 28)) qe_G0)) (lg_L_law_18 d n)) (xg_L_law_917 (qe_G1 (fg_T_mendedAt (d + 1)) (qe_G1 (fg_M_mendedAt (d + 28)) qe_G0)) (lg_L_law_18 d n)) (xg_L_law_971 (qe_G1 (fg_T_agrees (d + 1)) (qe_G1 (fg_M_agrees (d + 29)) qe_G0)) (lg_L_law_18 d n)) (xg_L_law_994 (qe_G1 (fg_T_full (d + 0)) (qe_G1 (fg_M_full (d + 32)) qe_G0)) (lg_L_law_18 d n)) (xg_L_law_1028 (qe_G1 (fg_T_boards (d + 2)) (qe_G1 (fg_M_boards (d + 33)) qe_G0)) (lg_L_law_18 d n)) (xg_L_law_1052 (qe_G1 (fg_T_game (d + 2)) (qe_G1 (fg_M_game (d + 33)) qe_G0)) (lg_L_law_18 d n)) (xg_L_law_1075 (qe_G1 (fg_T_times (d + 4)) (qe_G1 (fg_M_times (d + 35)) qe_G0)) (lg_L_law_18 d n)) (xg_L_law_1169 (qe_G1 (fg_T_inverse (d + 4)) (qe_G1 (fg_M_inverse (d + 32)) qe_G0)) (lg_L_law_18 d n)) (xg_L_law_1223 (qe_G1 (fg_T_root (d + 14)) (qe_G1 (fg_M_root (d + 33)) qe_G0)) (lg_L_law_18 d n)) (xg_L_law_1277 (qe_G1 (fg_T_power (d + 3)) (qe_G1 (fg_M_power (d + 32)) qe_G0)) (lg_L_law_18 d n)) (xg_L_law_1371 (qe_G1 (fg_T_order (d + 1)) (qe_G1 (fg_M_order (d + 33)) qe_G0)) (lg_L_law_18 d n)) (xg_L_law_1425 (qe_G1 (fg_T_level (d + 36)) (qe_G1 (fg_M_level (d + 33)) qe_G0)) (lg_L_law_18 d n)) (xg_L_law_1488 (qe_G1 (fg_T_least (d + 3)) (qe_G1 (fg_M_least (d + 33)) qe_G0)) (lg_L_law_18 d n)) (xg_L_law_1542 (qe_G1 (fg_T_trace (d + 36)) (qe_G1 (fg_M_trace (d + 34)) qe_G0)) (lg_L_law_18 d n)) (xg_L_law_1605 (qe_G1 (fg_T_half (d + 3)) (qe_G1 (fg_M_half (d + 33)) qe_G0)) (lg_L_law_18 d n)) (xg_L_law_1659 (qe_G1 (fg_T_solve (d + 3)) (qe_G1 (fg_M_solve (d + 32)) qe_G0)) (lg_L_law_18 d n)) (xg_L_law_1763 (qe_G1 (fg_T_log (d + 0)) (qe_G1 (fg_M_log (d + 35)) qe_G0)) (lg_L_law_18 d n)) (xg_L_law_1856 (qe_G1 (fg_T_place (d + 36)) (qe_G1 (fg_M_place_IJ (d + 36)) qe_G0)) (lg_L_law_18 d n)) (xg_L_law_1880 (qe_G1 (fg_T_at (d + 2)) (qe_G1 (fg_M_at (d + 31)) qe_G0)) (lg_L_law_18 d n)) (xg_L_law_1944 (qe_G1 (fg_T_worth (d + 3)) (qe_G1 (fg_M_worth (d + 33)) qe_G0)) (lg_L_law_18 d n)) (xg_L_law_1977 (qe_G1 (fg_T_cell (d + 3)) (qe_G1 (fg_M_cell (d + 32)) qe_G0)) (lg_L_law_18 d n)) (xg_L_law_2020 (qe_G1 (fg_T_total (d + 3)) (qe_G1 (fg_M_total (d + 31)) qe_G0)) (lg_L_law_18 d n)) (xg_L_law_2034 (qe_G1 (fg_T_moves (d + 3)) (qe_G1 (fg_M_moves (d + 30)) qe_G0)) (lg_L_law_18 d n)) (xg_L_law_2057 (qe_G1 (fg_T_move (d + 3)) (qe_G1 (fg_M_move (d + 30)) qe_G0)) (lg_L_law_18 d n)) (xg_L_law_2100 (qe_G1 (fg_T_sets (d + 3)) (qe_G1 (fg_M_sets (d + 34)) qe_G0)) (lg_L_law_18 d n)) (xg_L_law_2133 (qe_G1 (fg_T_count (d + 35)) (qe_G1 (fg_M_count (d + 35)) qe_G0)) (lg_L_law_18 d n)) v3 m
