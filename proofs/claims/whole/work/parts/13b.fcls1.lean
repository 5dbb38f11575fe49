/-! TurnField$Curve.differ(I)V -/
noncomputable def T_Cu_differ (f_Nu_inverted : Int64 → qm_M → Option qm_R) (f_Nu_product : Int64 → Int64 → qm_M → Option qm_R) : qe_T := [(28, 1, 0, 2, qw_l f_Nu_inverted), (22, 1, 0, 2, qw_ll f_Nu_product)]
def X_Cu_differ_11 (f_Nu_inverted : Int64 → qm_M → Option qm_R) (f_Nu_product : Int64 → Int64 → qm_M → Option qm_R) (l2 : Int32 → Int32 → qm_M → Option qm_R) (l11 : Int32 → Int32 → Int32 → qm_M → Option qm_R) (v1 : Int32) (v2 : Int32) (v3 : Int32) (m : qm_M) : Option qm_R :=
  if v3 < v2 then
    l2 v1 (v2 + (1 : Int32)) m
  else
    qe_b (qm_in v3 8) (
    qe_b (qm_in (v3 - v2) 8) (
    qe_rL (f_Nu_inverted ((m.2 108 (Int32.toNatClampNeg v3)) ^^^ (m.2 108 (Int32.toNatClampNeg (v3 - v2)))) m) fun x1 m1 =>
    qe_b (qm_in v3 8) (
    qe_b (qm_in (v3 - (1 : Int32)) 8) (
    qe_rL (f_Nu_product ((m1.2 109 (Int32.toNatClampNeg v3)) ^^^ (m1.2 109 (Int32.toNatClampNeg (v3 - (1 : Int32))))) x1 m1) fun x2 m2 =>
    qe_b (qm_in v3 8) (
    let m3 : qm_M := qm_sL m2 109 (Int32.toNatClampNeg v3) x2
    l11 v1 v2 (v3 + (-1 : Int32)) m3)))))
set_option maxRecDepth 100000 in
theorem xg_Cu_differ_11 {kp : pm_K} {d : Nat} {f_Nu_inverted : Int64 → qm_M → Option qm_R} {f_Nu_product : Int64 → Int64 → qm_M → Option qm_R} {l2 : Int32 → Int32 → qm_M → Option qm_R} {l11 : Int32 → Int32 → Int32 → qm_M → Option qm_R} (hT : qe_G kp d (T_Cu_differ f_Nu_inverted f_Nu_product)) (h2 : ∀ (v1 : Int32) (v2 : Int32) (m : qm_M), qe_J kp md_Cu_differ d (l2 v1 v2 m) 2 [(0, .ref 107), (1, .int v1), (2, .int v2)] [] m) (h11 : ∀ (v1 : Int32) (v2 : Int32) (v3 : Int32) (m : qm_M), qe_J kp md_Cu_differ d (l11 v1 v2 v3 m) 11 [(0, .ref 107), (1, .int v1), (2, .int v2), (3, .int v3)] [] m) (v1 : Int32) (v2 : Int32) (v3 : Int32) (m : qm_M) : qe_J kp md_Cu_differ d (X_Cu_differ_11 f_Nu_inverted f_Nu_product l2 l11 v1 v2 v3 m) 11 [(0, .ref 107), (1, .int v1), (2, .int v2), (3, .int v3)] [] m := qe_run (B := [(2, [0, 1, 2], qp_cii_ 107 l2), (11, [0, 1, 2, 3], qp_ciii_ 107 l11)]) (n := 1000) hT (qe_B1 (qp_cii__ok h2) (qe_B1 (qp_ciii__ok h11) qe_B0)) rfl
def L_Cu_differ_11 (K2 : Int32 → Int32 → qm_M → Option qm_R) : Nat → Int32 → Int32 → Int32 → qm_M → Option qm_R
  | 0, _, _, _, _ => none
  | n + 1, v1, v2, v3, m => X_Cu_differ_11 F_Nu_inverted F_Nu_product K2 (L_Cu_differ_11 K2 n) v1 v2 v3 m
theorem lg_Cu_differ_11 {kp : pm_K} {d : Nat} (hT : qe_G kp d (T_Cu_differ F_Nu_inverted F_Nu_product)) {K2 : Int32 → Int32 → qm_M → Option qm_R} (hK2 : ∀ (v1 : Int32) (v2 : Int32) (m : qm_M), qe_J kp md_Cu_differ d (K2 v1 v2 m) 2 [(0, .ref 107), (1, .int v1), (2, .int v2)] [] m) : ∀ (n : Nat) (v1 : Int32) (v2 : Int32) (v3 : Int32) (m : qm_M), qe_J kp md_Cu_differ d (L_Cu_differ_11 K2 n v1 v2 v3 m) 11 [(0, .ref 107), (1, .int v1), (2, .int v2), (3, .int v3)] [] m
  | 0, v1, v2, v3, m => qe_none rfl
  | n + 1, v1, v2, v3, m => xg_Cu_differ_11 hT hK2 (lg_Cu_differ_11 hT hK2 n) v1 v2 v3 m
def X_Cu_differ_2 (f_Nu_inverted : Int64 → qm_M → Option qm_R) (f_Nu_product : Int64 → Int64 → qm_M → Option qm_R) (l11 : Int32 → Int32 → Int32 → qm_M → Option qm_R) (v1 : Int32) (v2 : Int32) (m : qm_M) : Option qm_R :=
  if v2 < v1 then
    l11 v1 v2 (v1 - (1 : Int32)) m
  else
    some (none, m)
set_option maxRecDepth 100000 in
theorem xg_Cu_differ_2 {kp : pm_K} {d : Nat} {f_Nu_inverted : Int64 → qm_M → Option qm_R} {f_Nu_product : Int64 → Int64 → qm_M → Option qm_R} {l11 : Int32 → Int32 → Int32 → qm_M → Option qm_R} (hT : qe_G kp d (T_Cu_differ f_Nu_inverted f_Nu_product)) (h11 : ∀ (v1 : Int32) (v2 : Int32) (v3 : Int32) (m : qm_M), qe_J kp md_Cu_differ d (l11 v1 v2 v3 m) 11 [(0, .ref 107), (1, .int v1), (2, .int v2), (3, .int v3)] [] m) (v1 : Int32) (v2 : Int32) (m : qm_M) : qe_J kp md_Cu_differ d (X_Cu_differ_2 f_Nu_inverted f_Nu_product l11 v1 v2 m) 2 [(0, .ref 107), (1, .int v1), (2, .int v2)] [] m := qe_run (B := [(11, [0, 1, 2, 3], qp_ciii_ 107 l11)]) (n := 1000) hT (qe_B1 (qp_ciii__ok h11) qe_B0) rfl
def L_Cu_differ_2 : Nat → Int32 → Int32 → qm_M → Option qm_R
  | 0, _, _, _ => none
  | n + 1, v1, v2, m => X_Cu_differ_2 F_Nu_inverted F_Nu_product (L_Cu_differ_11 (L_Cu_differ_2 n) 1000000) v1 v2 m
theorem lg_Cu_differ_2 {kp : pm_K} {d : Nat} (hT : qe_G kp d (T_Cu_differ F_Nu_inverted F_Nu_product)) : ∀ (n : Nat) (v1 : Int32) (v2 : Int32) (m : qm_M), qe_J kp md_Cu_differ d (L_Cu_differ_2 n v1 v2 m) 2 [(0, .ref 107), (1, .int v1), (2, .int v2)] [] m
  | 0, v1, v2, m => qe_none rfl
  | n + 1, v1, v2, m => xg_Cu_differ_2 hT (lg_Cu_differ_11 hT (lg_Cu_differ_2 hT n) 1000000) v1 v2 m
def X_Cu_differ_e (f_Nu_inverted : Int64 → qm_M → Option qm_R) (f_Nu_product : Int64 → Int64 → qm_M → Option qm_R) (l2 : Int32 → Int32 → qm_M → Option qm_R) (v1 : Int32) (m : qm_M) : Option qm_R :=
  l2 v1 (1 : Int32) m
set_option maxRecDepth 100000 in
theorem xg_Cu_differ_e {kp : pm_K} {d : Nat} {f_Nu_inverted : Int64 → qm_M → Option qm_R} {f_Nu_product : Int64 → Int64 → qm_M → Option qm_R} {l2 : Int32 → Int32 → qm_M → Option qm_R} (hT : qe_G kp d (T_Cu_differ f_Nu_inverted f_Nu_product)) (h2 : ∀ (v1 : Int32) (v2 : Int32) (m : qm_M), qe_J kp md_Cu_differ d (l2 v1 v2 m) 2 [(0, .ref 107), (1, .int v1), (2, .int v2)] [] m) (v1 : Int32) (m : qm_M) : qe_J kp md_Cu_differ d (X_Cu_differ_e f_Nu_inverted f_Nu_product l2 v1 m) 0 [(0, .ref 107), (1, .int v1)] [] m := qe_run (B := [(2, [0, 1, 2], qp_cii_ 107 l2)]) (n := 1000) hT (qe_B1 (qp_cii__ok h2) qe_B0) rfl
def F_Cu_differ (v1 : Int32) (m : qm_M) : Option qm_R := X_Cu_differ_e F_Nu_inverted F_Nu_product (L_Cu_differ_2 1000000) v1 m
theorem fj_Cu_differ {kp : pm_K} {d : Nat} (hT : qe_G kp d (T_Cu_differ F_Nu_inverted F_Nu_product)) (v1 : Int32) (m : qm_M) : qe_J kp md_Cu_differ d (F_Cu_differ v1 m) 0 [(0, .ref 107), (1, .int v1)] [] m := xg_Cu_differ_e hT (lg_Cu_differ_2 hT 1000000) v1 m
theorem fg_Cu_differ {kp : pm_K} (d : Nat) : qe_GE kp (d + 34) (2, 0, 0, 0, qw_ci 107 F_Cu_differ) := qe_entry (by decide +kernel) (qw_ci_ok (d := d + 33) rfl rfl (fj_Cu_differ (qe_G1 (fg_Nu_inverted (d + 0)) (qe_G1 (fg_Nu_product (d + 0)) qe_G0))))
/-! TurnField$Curve.through([JJ)J -/
noncomputable def T_Cu_through (f_Cu_differ : Int32 → qm_M → Option qm_R) (f_Nu_product : Int64 → Int64 → qm_M → Option qm_R) : qe_T := [(2, 0, 0, 0, qw_ci 107 f_Cu_differ), (22, 1, 0, 2, qw_ll f_Nu_product)]
def X_Cu_through_53 (f_Cu_differ : Int32 → qm_M → Option qm_R) (f_Nu_product : Int64 → Int64 → qm_M → Option qm_R) (l53 : Int64 → Int64 → Int32 → qm_M → Option qm_R) (v2 : Int64) (v4 : Int64) (v6 : Int32) (m : qm_M) : Option qm_R :=
  if v6 < 0 then
    some (some (.long v4), m)
  else
    qe_b (qm_in v6 8) (
    qe_rL (f_Nu_product v4 (v2 ^^^ (m.2 108 (Int32.toNatClampNeg v6))) m) fun x1 m1 =>
    qe_b (qm_in v6 8) (
    let x2 : Int64 := (x1 ^^^ (m1.2 109 (Int32.toNatClampNeg v6)))
    l53 v2 x2 (v6 + (-1 : Int32)) m1))
set_option maxRecDepth 100000 in
theorem xg_Cu_through_53 {kp : pm_K} {d : Nat} {f_Cu_differ : Int32 → qm_M → Option qm_R} {f_Nu_product : Int64 → Int64 → qm_M → Option qm_R} {l53 : Int64 → Int64 → Int32 → qm_M → Option qm_R} (hT : qe_G kp d (T_Cu_through f_Cu_differ f_Nu_product)) (h53 : ∀ (v2 : Int64) (v4 : Int64) (v6 : Int32) (m : qm_M), qe_J kp md_Cu_through d (l53 v2 v4 v6 m) 53 [(0, .ref 107), (2, .long v2), (4, .long v4), (6, .int v6)] [] m) (v2 : Int64) (v4 : Int64) (v6 : Int32) (m : qm_M) : qe_J kp md_Cu_through d (X_Cu_through_53 f_Cu_differ f_Nu_product l53 v2 v4 v6 m) 53 [(0, .ref 107), (2, .long v2), (4, .long v4), (6, .int v6)] [] m := qe_run (B := [(53, [0, 2, 4, 6], qp_clli_ 107 l53)]) (n := 1000) hT (qe_B1 (qp_clli__ok h53) qe_B0) rfl
def L_Cu_through_53 : Nat → Int64 → Int64 → Int32 → qm_M → Option qm_R
  | 0, _, _, _, _ => none
  | n + 1, v2, v4, v6, m => X_Cu_through_53 F_Cu_differ F_Nu_product (L_Cu_through_53 n) v2 v4 v6 m
theorem lg_Cu_through_53 {kp : pm_K} {d : Nat} (hT : qe_G kp d (T_Cu_through F_Cu_differ F_Nu_product)) : ∀ (n : Nat) (v2 : Int64) (v4 : Int64) (v6 : Int32) (m : qm_M), qe_J kp md_Cu_through d (L_Cu_through_53 n v2 v4 v6 m) 53 [(0, .ref 107), (2, .long v2), (4, .long v4), (6, .int v6)] [] m
  | 0, v2, v4, v6, m => qe_none rfl
  | n + 1, v2, v4, v6, m => xg_Cu_through_53 hT (lg_Cu_through_53 hT n) v2 v4 v6 m
def X_Cu_through_3 (f_Cu_differ : Int32 → qm_M → Option qm_R) (f_Nu_product : Int64 → Int64 → qm_M → Option qm_R) (l3 : Int64 → Int32 → qm_M → Option qm_R) (l53 : Int64 → Int64 → Int32 → qm_M → Option qm_R) (v2 : Int64) (v4 : Int32) (m : qm_M) : Option qm_R :=
  if v4 < (8 : Int32) then
    qe_b (qm_in v4 8) (
    let m1 : qm_M := qm_sL m 108 (Int32.toNatClampNeg v4) (Int32.toInt64 v4)
    qe_b (qm_in v4 8) (
    qe_b (qm_in v4 8) (
    let m2 : qm_M := qm_sL m1 109 (Int32.toNatClampNeg v4) (m1.2 2 (Int32.toNatClampNeg v4))
    l3 v2 (v4 + (1 : Int32)) m2)))
  else
    qe_rV (f_Cu_differ (8 : Int32) m) fun m3 =>
    l53 v2 (0 : Int64) (7 : Int32) m3
set_option maxRecDepth 100000 in
theorem xg_Cu_through_3 {kp : pm_K} {d : Nat} {f_Cu_differ : Int32 → qm_M → Option qm_R} {f_Nu_product : Int64 → Int64 → qm_M → Option qm_R} {l3 : Int64 → Int32 → qm_M → Option qm_R} {l53 : Int64 → Int64 → Int32 → qm_M → Option qm_R} (hT : qe_G kp d (T_Cu_through f_Cu_differ f_Nu_product)) (h3 : ∀ (v2 : Int64) (v4 : Int32) (m : qm_M), qe_J kp md_Cu_through d (l3 v2 v4 m) 3 [(0, .ref 107), (1, .ref 2), (2, .long v2), (4, .int v4)] [] m) (h53 : ∀ (v2 : Int64) (v4 : Int64) (v6 : Int32) (m : qm_M), qe_J kp md_Cu_through d (l53 v2 v4 v6 m) 53 [(0, .ref 107), (2, .long v2), (4, .long v4), (6, .int v6)] [] m) (v2 : Int64) (v4 : Int32) (m : qm_M) : qe_J kp md_Cu_through d (X_Cu_through_3 f_Cu_differ f_Nu_product l3 l53 v2 v4 m) 3 [(0, .ref 107), (1, .ref 2), (2, .long v2), (4, .int v4)] [] m := qe_run (B := [(3, [0, 1, 2, 4], qp_ccli_ 107 2 l3), (53, [0, 2, 4, 6], qp_clli_ 107 l53)]) (n := 1000) hT (qe_B1 (qp_ccli__ok h3) (qe_B1 (qp_clli__ok h53) qe_B0)) rfl
def L_Cu_through_3 : Nat → Int64 → Int32 → qm_M → Option qm_R
  | 0, _, _, _ => none
  | n + 1, v2, v4, m => X_Cu_through_3 F_Cu_differ F_Nu_product (L_Cu_through_3 n) (L_Cu_through_53 1000000) v2 v4 m
theorem lg_Cu_through_3 {kp : pm_K} {d : Nat} (hT : qe_G kp d (T_Cu_through F_Cu_differ F_Nu_product)) : ∀ (n : Nat) (v2 : Int64) (v4 : Int32) (m : qm_M), qe_J kp md_Cu_through d (L_Cu_through_3 n v2 v4 m) 3 [(0, .ref 107), (1, .ref 2), (2, .long v2), (4, .int v4)] [] m
  | 0, v2, v4, m => qe_none rfl
  | n + 1, v2, v4, m => xg_Cu_through_3 hT (lg_Cu_through_3 hT n) (lg_Cu_through_53 hT 1000000) v2 v4 m
def X_Cu_through_e (f_Cu_differ : Int32 → qm_M → Option qm_R) (f_Nu_product : Int64 → Int64 → qm_M → Option qm_R) (l3 : Int64 → Int32 → qm_M → Option qm_R) (v2 : Int64) (m : qm_M) : Option qm_R :=
  l3 v2 (0 : Int32) m
set_option maxRecDepth 100000 in
theorem xg_Cu_through_e {kp : pm_K} {d : Nat} {f_Cu_differ : Int32 → qm_M → Option qm_R} {f_Nu_product : Int64 → Int64 → qm_M → Option qm_R} {l3 : Int64 → Int32 → qm_M → Option qm_R} (hT : qe_G kp d (T_Cu_through f_Cu_differ f_Nu_product)) (h3 : ∀ (v2 : Int64) (v4 : Int32) (m : qm_M), qe_J kp md_Cu_through d (l3 v2 v4 m) 3 [(0, .ref 107), (1, .ref 2), (2, .long v2), (4, .int v4)] [] m) (v2 : Int64) (m : qm_M) : qe_J kp md_Cu_through d (X_Cu_through_e f_Cu_differ f_Nu_product l3 v2 m) 0 [(0, .ref 107), (1, .ref 2), (2, .long v2)] [] m := qe_run (B := [(3, [0, 1, 2, 4], qp_ccli_ 107 2 l3)]) (n := 1000) hT (qe_B1 (qp_ccli__ok h3) qe_B0) rfl
def F_Cu_through (v2 : Int64) (m : qm_M) : Option qm_R := X_Cu_through_e F_Cu_differ F_Nu_product (L_Cu_through_3 1000000) v2 m
theorem fj_Cu_through {kp : pm_K} {d : Nat} (hT : qe_G kp d (T_Cu_through F_Cu_differ F_Nu_product)) (v2 : Int64) (m : qm_M) : qe_J kp md_Cu_through d (F_Cu_through v2 m) 0 [(0, .ref 107), (1, .ref 2), (2, .long v2)] [] m := xg_Cu_through_e hT (lg_Cu_through_3 hT 1000000) v2 m
theorem fg_Cu_through {kp : pm_K} (d : Nat) : qe_GE kp (d + 35) (1, 0, 0, 2, qw_ccl 107 2 F_Cu_through) := qe_entry (by decide +kernel) (qw_ccl_ok (d := d + 34) rfl rfl (fj_Cu_through (qe_G1 (fg_Cu_differ (d + 0)) (qe_G1 (fg_Nu_product (d + 1)) qe_G0))))
/-! TurnField$Polynomials.areAlike([J[J)Z -/
noncomputable def T_Po_areAlike : qe_T := []
def X_Po_areAlike_2 (l2 : Nat → Nat → Int32 → qm_M → Option qm_R) (v0 : Nat) (v1 : Nat) (v2 : Int32) (m : qm_M) : Option qm_R :=
  qe_b (Nat.ble (qm_gk v0).1 5) (
  if v2 < (Int32.ofNat (qm_n v0)) then
    qe_b (Nat.ble (qm_gk v1).1 5) (
    if v2 < (Int32.ofNat (qm_n v1)) then
      qe_b (qm_isA v0 1) (
      qe_b (qm_in v2 (qm_n v0)) (
      qe_b (qm_isA v1 1) (
      qe_b (qm_in v2 (qm_n v1)) (
      if (lg_cmp (qm_gL m v0 (Int32.toNatClampNeg v2)) (qm_gL m v1 (Int32.toNatClampNeg v2))) = 0 then
        l2 v0 v1 (v2 + (1 : Int32)) m
      else
        some (some (.int (0 : Int32)), m)))))
    else
      some (some (.int (1 : Int32)), m))
  else
    some (some (.int (1 : Int32)), m))
set_option maxRecDepth 100000 in
theorem xg_Po_areAlike_2 {kp : pm_K} {d : Nat} {l2 : Nat → Nat → Int32 → qm_M → Option qm_R} (hT : qe_G kp d (T_Po_areAlike)) (h2 : ∀ (v0 : Nat) (v1 : Nat) (v2 : Int32) (m : qm_M), qe_J kp md_Po_areAlike d (l2 v0 v1 v2 m) 2 [(0, .ref v0), (1, .ref v1), (2, .int v2)] [] m) (v0 : Nat) (v1 : Nat) (v2 : Int32) (m : qm_M) : qe_J kp md_Po_areAlike d (X_Po_areAlike_2 l2 v0 v1 v2 m) 2 [(0, .ref v0), (1, .ref v1), (2, .int v2)] [] m := qe_run (B := [(2, [0, 1, 2], qp_rri_ l2)]) (n := 1000) hT (qe_B1 (qp_rri__ok h2) qe_B0) rfl
def L_Po_areAlike_2 : Nat → Nat → Nat → Int32 → qm_M → Option qm_R
  | 0, _, _, _, _ => none
  | n + 1, v0, v1, v2, m => X_Po_areAlike_2 (L_Po_areAlike_2 n) v0 v1 v2 m
theorem lg_Po_areAlike_2 {kp : pm_K} {d : Nat} (hT : qe_G kp d (T_Po_areAlike)) : ∀ (n : Nat) (v0 : Nat) (v1 : Nat) (v2 : Int32) (m : qm_M), qe_J kp md_Po_areAlike d (L_Po_areAlike_2 n v0 v1 v2 m) 2 [(0, .ref v0), (1, .ref v1), (2, .int v2)] [] m
  | 0, v0, v1, v2, m => qe_none rfl
  | n + 1, v0, v1, v2, m => xg_Po_areAlike_2 hT (lg_Po_areAlike_2 hT n) v0 v1 v2 m
def X_Po_areAlike_e (l2 : Nat → Nat → Int32 → qm_M → Option qm_R) (v0 : Nat) (v1 : Nat) (m : qm_M) : Option qm_R :=
  l2 v0 v1 (0 : Int32) m
set_option maxRecDepth 100000 in
theorem xg_Po_areAlike_e {kp : pm_K} {d : Nat} {l2 : Nat → Nat → Int32 → qm_M → Option qm_R} (hT : qe_G kp d (T_Po_areAlike)) (h2 : ∀ (v0 : Nat) (v1 : Nat) (v2 : Int32) (m : qm_M), qe_J kp md_Po_areAlike d (l2 v0 v1 v2 m) 2 [(0, .ref v0), (1, .ref v1), (2, .int v2)] [] m) (v0 : Nat) (v1 : Nat) (m : qm_M) : qe_J kp md_Po_areAlike d (X_Po_areAlike_e l2 v0 v1 m) 0 [(0, .ref v0), (1, .ref v1)] [] m := qe_run (B := [(2, [0, 1, 2], qp_rri_ l2)]) (n := 1000) hT (qe_B1 (qp_rri__ok h2) qe_B0) rfl
def F_Po_areAlike (v0 : Nat) (v1 : Nat) (m : qm_M) : Option qm_R := X_Po_areAlike_e (L_Po_areAlike_2 1000000) v0 v1 m
theorem fj_Po_areAlike {kp : pm_K} {d : Nat} (hT : qe_G kp d (T_Po_areAlike)) (v0 : Nat) (v1 : Nat) (m : qm_M) : qe_J kp md_Po_areAlike d (F_Po_areAlike v0 v1 m) 0 [(0, .ref v0), (1, .ref v1)] [] m := xg_Po_areAlike_e hT (lg_Po_areAlike_2 hT 1000000) v0 v1 m
theorem fg_Po_areAlike {kp : pm_K} (d : Nat) : qe_GE kp (d + 1) (65, 1, 0, 1, qw_rr F_Po_areAlike) := qe_entry (by decide +kernel) (qw_rr_ok (d := d + 0) rfl rfl (fj_Po_areAlike qe_G0))
/-! TurnField$Polynomials.copy([J[J)V -/
noncomputable def T_Po_copy : qe_T := []
def X_Po_copy_2 (l2 : Nat → Nat → Int32 → qm_M → Option qm_R) (v0 : Nat) (v1 : Nat) (v2 : Int32) (m : qm_M) : Option qm_R :=
  qe_b (Nat.ble (qm_gk v1).1 5) (
  if v2 < (Int32.ofNat (qm_n v1)) then
    qe_b (Nat.ble (qm_gk v0).1 5) (
    if v2 < (Int32.ofNat (qm_n v0)) then
      qe_b (qm_isA v0 1) (
      qe_b (qm_in v2 (qm_n v0)) (
      qe_b (qm_isL v1 1) (
      qe_b (qm_in v2 (qm_nl v1)) (
      let m1 : qm_M := qm_sL m v1 (Int32.toNatClampNeg v2) (qm_gL m v0 (Int32.toNatClampNeg v2))
      l2 v0 v1 (v2 + (1 : Int32)) m1))))
    else
      qe_b (qm_isL v1 1) (
      qe_b (qm_in v2 (qm_nl v1)) (
      let m2 : qm_M := qm_sL m v1 (Int32.toNatClampNeg v2) (0 : Int64)
      l2 v0 v1 (v2 + (1 : Int32)) m2)))
  else
    some (none, m))
set_option maxRecDepth 100000 in
theorem xg_Po_copy_2 {kp : pm_K} {d : Nat} {l2 : Nat → Nat → Int32 → qm_M → Option qm_R} (hT : qe_G kp d (T_Po_copy)) (h2 : ∀ (v0 : Nat) (v1 : Nat) (v2 : Int32) (m : qm_M), qe_J kp md_Po_copy d (l2 v0 v1 v2 m) 2 [(0, .ref v0), (1, .ref v1), (2, .int v2)] [] m) (v0 : Nat) (v1 : Nat) (v2 : Int32) (m : qm_M) : qe_J kp md_Po_copy d (X_Po_copy_2 l2 v0 v1 v2 m) 2 [(0, .ref v0), (1, .ref v1), (2, .int v2)] [] m := qe_run (B := [(2, [0, 1, 2], qp_rri_ l2)]) (n := 1000) hT (qe_B1 (qp_rri__ok h2) qe_B0) rfl
def L_Po_copy_2 : Nat → Nat → Nat → Int32 → qm_M → Option qm_R
  | 0, _, _, _, _ => none
  | n + 1, v0, v1, v2, m => X_Po_copy_2 (L_Po_copy_2 n) v0 v1 v2 m
theorem lg_Po_copy_2 {kp : pm_K} {d : Nat} (hT : qe_G kp d (T_Po_copy)) : ∀ (n : Nat) (v0 : Nat) (v1 : Nat) (v2 : Int32) (m : qm_M), qe_J kp md_Po_copy d (L_Po_copy_2 n v0 v1 v2 m) 2 [(0, .ref v0), (1, .ref v1), (2, .int v2)] [] m
  | 0, v0, v1, v2, m => qe_none rfl
  | n + 1, v0, v1, v2, m => xg_Po_copy_2 hT (lg_Po_copy_2 hT n) v0 v1 v2 m
def X_Po_copy_e (l2 : Nat → Nat → Int32 → qm_M → Option qm_R) (v0 : Nat) (v1 : Nat) (m : qm_M) : Option qm_R :=
  l2 v0 v1 (0 : Int32) m
set_option maxRecDepth 100000 in
theorem xg_Po_copy_e {kp : pm_K} {d : Nat} {l2 : Nat → Nat → Int32 → qm_M → Option qm_R} (hT : qe_G kp d (T_Po_copy)) (h2 : ∀ (v0 : Nat) (v1 : Nat) (v2 : Int32) (m : qm_M), qe_J kp md_Po_copy d (l2 v0 v1 v2 m) 2 [(0, .ref v0), (1, .ref v1), (2, .int v2)] [] m) (v0 : Nat) (v1 : Nat) (m : qm_M) : qe_J kp md_Po_copy d (X_Po_copy_e l2 v0 v1 m) 0 [(0, .ref v0), (1, .ref v1)] [] m := qe_run (B := [(2, [0, 1, 2], qp_rri_ l2)]) (n := 1000) hT (qe_B1 (qp_rri__ok h2) qe_B0) rfl
def F_Po_copy (v0 : Nat) (v1 : Nat) (m : qm_M) : Option qm_R := X_Po_copy_e (L_Po_copy_2 1000000) v0 v1 m
theorem fj_Po_copy {kp : pm_K} {d : Nat} (hT : qe_G kp d (T_Po_copy)) (v0 : Nat) (v1 : Nat) (m : qm_M) : qe_J kp md_Po_copy d (F_Po_copy v0 v1 m) 0 [(0, .ref v0), (1, .ref v1)] [] m := xg_Po_copy_e hT (lg_Po_copy_2 hT 1000000) v0 v1 m
theorem fg_Po_copy {kp : pm_K} (d : Nat) : qe_GE kp (d + 1) (64, 1, 0, 0, qw_rr F_Po_copy) := qe_entry (by decide +kernel) (qw_rr_ok (d := d + 0) rfl rfl (fj_Po_copy qe_G0))
/-! TurnField$Polynomials.clear([J)V -/
noncomputable def T_Po_clear : qe_T := []
def X_Po_clear_2 (l2 : Nat → Int32 → qm_M → Option qm_R) (v0 : Nat) (v1 : Int32) (m : qm_M) : Option qm_R :=
  qe_b (Nat.ble (qm_gk v0).1 5) (
  if v1 < (Int32.ofNat (qm_n v0)) then
    qe_b (qm_isL v0 1) (
    qe_b (qm_in v1 (qm_nl v0)) (
    let m1 : qm_M := qm_sL m v0 (Int32.toNatClampNeg v1) (0 : Int64)
    l2 v0 (v1 + (1 : Int32)) m1))
  else
    some (none, m))
set_option maxRecDepth 100000 in
theorem xg_Po_clear_2 {kp : pm_K} {d : Nat} {l2 : Nat → Int32 → qm_M → Option qm_R} (hT : qe_G kp d (T_Po_clear)) (h2 : ∀ (v0 : Nat) (v1 : Int32) (m : qm_M), qe_J kp md_Po_clear d (l2 v0 v1 m) 2 [(0, .ref v0), (1, .int v1)] [] m) (v0 : Nat) (v1 : Int32) (m : qm_M) : qe_J kp md_Po_clear d (X_Po_clear_2 l2 v0 v1 m) 2 [(0, .ref v0), (1, .int v1)] [] m := qe_run (B := [(2, [0, 1], qp_ri_ l2)]) (n := 1000) hT (qe_B1 (qp_ri__ok h2) qe_B0) rfl
def L_Po_clear_2 : Nat → Nat → Int32 → qm_M → Option qm_R
  | 0, _, _, _ => none
  | n + 1, v0, v1, m => X_Po_clear_2 (L_Po_clear_2 n) v0 v1 m
theorem lg_Po_clear_2 {kp : pm_K} {d : Nat} (hT : qe_G kp d (T_Po_clear)) : ∀ (n : Nat) (v0 : Nat) (v1 : Int32) (m : qm_M), qe_J kp md_Po_clear d (L_Po_clear_2 n v0 v1 m) 2 [(0, .ref v0), (1, .int v1)] [] m
  | 0, v0, v1, m => qe_none rfl
  | n + 1, v0, v1, m => xg_Po_clear_2 hT (lg_Po_clear_2 hT n) v0 v1 m
def X_Po_clear_e (l2 : Nat → Int32 → qm_M → Option qm_R) (v0 : Nat) (m : qm_M) : Option qm_R :=
  l2 v0 (0 : Int32) m
set_option maxRecDepth 100000 in
theorem xg_Po_clear_e {kp : pm_K} {d : Nat} {l2 : Nat → Int32 → qm_M → Option qm_R} (hT : qe_G kp d (T_Po_clear)) (h2 : ∀ (v0 : Nat) (v1 : Int32) (m : qm_M), qe_J kp md_Po_clear d (l2 v0 v1 m) 2 [(0, .ref v0), (1, .int v1)] [] m) (v0 : Nat) (m : qm_M) : qe_J kp md_Po_clear d (X_Po_clear_e l2 v0 m) 0 [(0, .ref v0)] [] m := qe_run (B := [(2, [0, 1], qp_ri_ l2)]) (n := 1000) hT (qe_B1 (qp_ri__ok h2) qe_B0) rfl
def F_Po_clear (v0 : Nat) (m : qm_M) : Option qm_R := X_Po_clear_e (L_Po_clear_2 1000000) v0 m
theorem fj_Po_clear {kp : pm_K} {d : Nat} (hT : qe_G kp d (T_Po_clear)) (v0 : Nat) (m : qm_M) : qe_J kp md_Po_clear d (F_Po_clear v0 m) 0 [(0, .ref v0)] [] m := xg_Po_clear_e hT (lg_Po_clear_2 hT 1000000) v0 m
theorem fg_Po_clear {kp : pm_K} (d : Nat) : qe_GE kp (d + 1) (63, 1, 0, 0, qw_r F_Po_clear) := qe_entry (by decide +kernel) (qw_r_ok (d := d + 0) rfl rfl (fj_Po_clear qe_G0))
/-! TurnField$Curve.setPoint(I[JI)V -/
noncomputable def T_Cu_setPoint : qe_T := []
def X_Cu_setPoint_e (v1 : Int32) (v3 : Int32) (m : qm_M) : Option qm_R :=
  qe_b (qm_in v1 8) (
  let m1 : qm_M := qm_sL m 108 (Int32.toNatClampNeg v1) (Int32.toInt64 v3)
  qe_b (qm_in v3 8) (
  qe_b (qm_in v1 8) (
  let m2 : qm_M := qm_sL m1 109 (Int32.toNatClampNeg v1) (m1.2 2 (Int32.toNatClampNeg v3))
  some (none, m2))))
set_option maxRecDepth 100000 in
theorem xg_Cu_setPoint_e {kp : pm_K} {d : Nat} (hT : qe_G kp d (T_Cu_setPoint)) (v1 : Int32) (v3 : Int32) (m : qm_M) : qe_J kp md_Cu_setPoint d (X_Cu_setPoint_e v1 v3 m) 0 [(0, .ref 107), (1, .int v1), (2, .ref 2), (3, .int v3)] [] m := qe_run (B := []) (n := 1000) hT qe_B0 rfl
def F_Cu_setPoint (v1 : Int32) (v3 : Int32) (m : qm_M) : Option qm_R := X_Cu_setPoint_e v1 v3 m
theorem fj_Cu_setPoint {kp : pm_K} {d : Nat} (hT : qe_G kp d (T_Cu_setPoint)) (v1 : Int32) (v3 : Int32) (m : qm_M) : qe_J kp md_Cu_setPoint d (F_Cu_setPoint v1 v3 m) 0 [(0, .ref 107), (1, .int v1), (2, .ref 2), (3, .int v3)] [] m := xg_Cu_setPoint_e hT v1 v3 m
theorem fg_Cu_setPoint {kp : pm_K} (d : Nat) : qe_GE kp (d + 1) (5, 0, 0, 0, qw_cici 107 2 F_Cu_setPoint) := qe_entry (by decide +kernel) (qw_cici_ok (d := d + 0) rfl rfl (fj_Cu_setPoint qe_G0))
/-! TurnField$Curve.fit([JII)V -/
noncomputable def T_Cu_fit (f_Cu_setPoint : Int32 → Int32 → qm_M → Option qm_R) (f_Cu_differ : Int32 → qm_M → Option qm_R) (f_Po_clear : Nat → qm_M → Option qm_R) (f_Nu_product : Int64 → Int64 → qm_M → Option qm_R) : qe_T := [(5, 0, 0, 0, qw_cici 107 2 f_Cu_setPoint), (2, 0, 0, 0, qw_ci 107 f_Cu_differ), (63, 1, 0, 0, qw_r f_Po_clear), (22, 1, 0, 2, qw_ll f_Nu_product)]
def X_Cu_fit_66 (f_Cu_setPoint : Int32 → Int32 → qm_M → Option qm_R) (f_Cu_differ : Int32 → qm_M → Option qm_R) (f_Po_clear : Nat → qm_M → Option qm_R) (f_Nu_product : Int64 → Int64 → qm_M → Option qm_R) (l58 : Int32 → qm_M → Option qm_R) (l66 : Int32 → Int32 → qm_M → Option qm_R) (v4 : Int32) (v5 : Int32) (m : qm_M) : Option qm_R :=
  if 0 < v5 then
    qe_b (qm_in (v5 - (1 : Int32)) 4) (
    qe_b (qm_in v5 4) (
    qe_b (qm_in v4 8) (
    qe_rL (f_Nu_product (m.2 110 (Int32.toNatClampNeg v5)) (m.2 108 (Int32.toNatClampNeg v4)) m) fun x1 m1 =>
    qe_b (qm_in v5 4) (
    let m2 : qm_M := qm_sL m1 110 (Int32.toNatClampNeg v5) ((m.2 110 (Int32.toNatClampNeg (v5 - (1 : Int32)))) ^^^ x1)
    l66 v4 (v5 + (-1 : Int32)) m2))))
  else
    qe_b (qm_in v4 8) (
    qe_rL (f_Nu_product (m.2 110 0) (m.2 108 (Int32.toNatClampNeg v4)) m) fun x2 m3 =>
    qe_b (qm_in v4 8) (
    let m4 : qm_M := qm_sL m3 110 0 (x2 ^^^ (m3.2 109 (Int32.toNatClampNeg v4)))
    l58 (v4 + (-1 : Int32)) m4))
set_option maxRecDepth 100000 in
theorem xg_Cu_fit_66 {kp : pm_K} {d : Nat} {f_Cu_setPoint : Int32 → Int32 → qm_M → Option qm_R} {f_Cu_differ : Int32 → qm_M → Option qm_R} {f_Po_clear : Nat → qm_M → Option qm_R} {f_Nu_product : Int64 → Int64 → qm_M → Option qm_R} {l58 : Int32 → qm_M → Option qm_R} {l66 : Int32 → Int32 → qm_M → Option qm_R} (hT : qe_G kp d (T_Cu_fit f_Cu_setPoint f_Cu_differ f_Po_clear f_Nu_product)) (h58 : ∀ (v4 : Int32) (m : qm_M), qe_J kp md_Cu_fit d (l58 v4 m) 58 [(0, .ref 107), (4, .int v4)] [] m) (h66 : ∀ (v4 : Int32) (v5 : Int32) (m : qm_M), qe_J kp md_Cu_fit d (l66 v4 v5 m) 66 [(0, .ref 107), (4, .int v4), (5, .int v5)] [] m) (v4 : Int32) (v5 : Int32) (m : qm_M) : qe_J kp md_Cu_fit d (X_Cu_fit_66 f_Cu_setPoint f_Cu_differ f_Po_clear f_Nu_product l58 l66 v4 v5 m) 66 [(0, .ref 107), (4, .int v4), (5, .int v5)] [] m := qe_run (B := [(58, [0, 4], qp_ci_ 107 l58), (66, [0, 4, 5], qp_cii_ 107 l66)]) (n := 1000) hT (qe_B1 (qp_ci__ok h58) (qe_B1 (qp_cii__ok h66) qe_B0)) rfl
def L_Cu_fit_66 (K58 : Int32 → qm_M → Option qm_R) : Nat → Int32 → Int32 → qm_M → Option qm_R
  | 0, _, _, _ => none
  | n + 1, v4, v5, m => X_Cu_fit_66 F_Cu_setPoint F_Cu_differ F_Po_clear F_Nu_product K58 (L_Cu_fit_66 K58 n) v4 v5 m
theorem lg_Cu_fit_66 {kp : pm_K} {d : Nat} (hT : qe_G kp d (T_Cu_fit F_Cu_setPoint F_Cu_differ F_Po_clear F_Nu_product)) {K58 : Int32 → qm_M → Option qm_R} (hK58 : ∀ (v4 : Int32) (m : qm_M), qe_J kp md_Cu_fit d (K58 v4 m) 58 [(0, .ref 107), (4, .int v4)] [] m) : ∀ (n : Nat) (v4 : Int32) (v5 : Int32) (m : qm_M), qe_J kp md_Cu_fit d (L_Cu_fit_66 K58 n v4 v5 m) 66 [(0, .ref 107), (4, .int v4), (5, .int v5)] [] m
  | 0, v4, v5, m => qe_none rfl
  | n + 1, v4, v5, m => xg_Cu_fit_66 hT hK58 (lg_Cu_fit_66 hT hK58 n) v4 v5 m
def X_Cu_fit_58 (f_Cu_setPoint : Int32 → Int32 → qm_M → Option qm_R) (f_Cu_differ : Int32 → qm_M → Option qm_R) (f_Po_clear : Nat → qm_M → Option qm_R) (f_Nu_product : Int64 → Int64 → qm_M → Option qm_R) (l66 : Int32 → Int32 → qm_M → Option qm_R) (v4 : Int32) (m : qm_M) : Option qm_R :=
  if v4 < 0 then
    some (none, m)
  else
    l66 v4 (3 : Int32) m
set_option maxRecDepth 100000 in
theorem xg_Cu_fit_58 {kp : pm_K} {d : Nat} {f_Cu_setPoint : Int32 → Int32 → qm_M → Option qm_R} {f_Cu_differ : Int32 → qm_M → Option qm_R} {f_Po_clear : Nat → qm_M → Option qm_R} {f_Nu_product : Int64 → Int64 → qm_M → Option qm_R} {l66 : Int32 → Int32 → qm_M → Option qm_R} (hT : qe_G kp d (T_Cu_fit f_Cu_setPoint f_Cu_differ f_Po_clear f_Nu_product)) (h66 : ∀ (v4 : Int32) (v5 : Int32) (m : qm_M), qe_J kp md_Cu_fit d (l66 v4 v5 m) 66 [(0, .ref 107), (4, .int v4), (5, .int v5)] [] m) (v4 : Int32) (m : qm_M) : qe_J kp md_Cu_fit d (X_Cu_fit_58 f_Cu_setPoint f_Cu_differ f_Po_clear f_Nu_product l66 v4 m) 58 [(0, .ref 107), (4, .int v4)] [] m := qe_run (B := [(66, [0, 4, 5], qp_cii_ 107 l66)]) (n := 1000) hT (qe_B1 (qp_cii__ok h66) qe_B0) rfl
def L_Cu_fit_58 : Nat → Int32 → qm_M → Option qm_R
  | 0, _, _ => none
  | n + 1, v4, m => X_Cu_fit_58 F_Cu_setPoint F_Cu_differ F_Po_clear F_Nu_product (L_Cu_fit_66 (L_Cu_fit_58 n) 1000000) v4 m
theorem lg_Cu_fit_58 {kp : pm_K} {d : Nat} (hT : qe_G kp d (T_Cu_fit F_Cu_setPoint F_Cu_differ F_Po_clear F_Nu_product)) : ∀ (n : Nat) (v4 : Int32) (m : qm_M), qe_J kp md_Cu_fit d (L_Cu_fit_58 n v4 m) 58 [(0, .ref 107), (4, .int v4)] [] m
  | 0, v4, m => qe_none rfl
  | n + 1, v4, m => xg_Cu_fit_58 hT (lg_Cu_fit_66 hT (lg_Cu_fit_58 hT n) 1000000) v4 m
def X_Cu_fit_3 (f_Cu_setPoint : Int32 → Int32 → qm_M → Option qm_R) (f_Cu_differ : Int32 → qm_M → Option qm_R) (f_Po_clear : Nat → qm_M → Option qm_R) (f_Nu_product : Int64 → Int64 → qm_M → Option qm_R) (l3 : Int32 → Int32 → Int32 → qm_M → Option qm_R) (l58 : Int32 → qm_M → Option qm_R) (v2 : Int32) (v3 : Int32) (v4 : Int32) (m : qm_M) : Option qm_R :=
  if v4 < (2 : Int32) then
    qe_rV (f_Cu_setPoint v4 (((2 : Int32) * v2) + v4) m) fun m1 =>
    qe_rV (f_Cu_setPoint ((2 : Int32) + v4) (((2 : Int32) * v3) + v4) m1) fun m2 =>
    l3 v2 v3 (v4 + (1 : Int32)) m2
  else
    qe_rV (f_Cu_differ (4 : Int32) m) fun m3 =>
    qe_rV (f_Po_clear 110 m3) fun m4 =>
    l58 (3 : Int32) m4
set_option maxRecDepth 100000 in
theorem xg_Cu_fit_3 {kp : pm_K} {d : Nat} {f_Cu_setPoint : Int32 → Int32 → qm_M → Option qm_R} {f_Cu_differ : Int32 → qm_M → Option qm_R} {f_Po_clear : Nat → qm_M → Option qm_R} {f_Nu_product : Int64 → Int64 → qm_M → Option qm_R} {l3 : Int32 → Int32 → Int32 → qm_M → Option qm_R} {l58 : Int32 → qm_M → Option qm_R} (hT : qe_G kp d (T_Cu_fit f_Cu_setPoint f_Cu_differ f_Po_clear f_Nu_product)) (h3 : ∀ (v2 : Int32) (v3 : Int32) (v4 : Int32) (m : qm_M), qe_J kp md_Cu_fit d (l3 v2 v3 v4 m) 3 [(0, .ref 107), (1, .ref 2), (2, .int v2), (3, .int v3), (4, .int v4)] [] m) (h58 : ∀ (v4 : Int32) (m : qm_M), qe_J kp md_Cu_fit d (l58 v4 m) 58 [(0, .ref 107), (4, .int v4)] [] m) (v2 : Int32) (v3 : Int32) (v4 : Int32) (m : qm_M) : qe_J kp md_Cu_fit d (X_Cu_fit_3 f_Cu_setPoint f_Cu_differ f_Po_clear f_Nu_product l3 l58 v2 v3 v4 m) 3 [(0, .ref 107), (1, .ref 2), (2, .int v2), (3, .int v3), (4, .int v4)] [] m := qe_run (B := [(3, [0, 1, 2, 3, 4], qp_cciii_ 107 2 l3), (58, [0, 4], qp_ci_ 107 l58)]) (n := 1000) hT (qe_B1 (qp_cciii__ok h3) (qe_B1 (qp_ci__ok h58) qe_B0)) rfl
def L_Cu_fit_3 : Nat → Int32 → Int32 → Int32 → qm_M → Option qm_R
  | 0, _, _, _, _ => none
  | n + 1, v2, v3, v4, m => X_Cu_fit_3 F_Cu_setPoint F_Cu_differ F_Po_clear F_Nu_product (L_Cu_fit_3 n) (L_Cu_fit_58 1000000) v2 v3 v4 m
theorem lg_Cu_fit_3 {kp : pm_K} {d : Nat} (hT : qe_G kp d (T_Cu_fit F_Cu_setPoint F_Cu_differ F_Po_clear F_Nu_product)) : ∀ (n : Nat) (v2 : Int32) (v3 : Int32) (v4 : Int32) (m : qm_M), qe_J kp md_Cu_fit d (L_Cu_fit_3 n v2 v3 v4 m) 3 [(0, .ref 107), (1, .ref 2), (2, .int v2), (3, .int v3), (4, .int v4)] [] m
  | 0, v2, v3, v4, m => qe_none rfl
  | n + 1, v2, v3, v4, m => xg_Cu_fit_3 hT (lg_Cu_fit_3 hT n) (lg_Cu_fit_58 hT 1000000) v2 v3 v4 m
def X_Cu_fit_e (f_Cu_setPoint : Int32 → Int32 → qm_M → Option qm_R) (f_Cu_differ : Int32 → qm_M → Option qm_R) (f_Po_clear : Nat → qm_M → Option qm_R) (f_Nu_product : Int64 → Int64 → qm_M → Option qm_R) (l3 : Int32 → Int32 → Int32 → qm_M → Option qm_R) (v2 : Int32) (v3 : Int32) (m : qm_M) : Option qm_R :=
  l3 v2 v3 (0 : Int32) m
set_option maxRecDepth 100000 in
theorem xg_Cu_fit_e {kp : pm_K} {d : Nat} {f_Cu_setPoint : Int32 → Int32 → qm_M → Option qm_R} {f_Cu_differ : Int32 → qm_M → Option qm_R} {f_Po_clear : Nat → qm_M → Option qm_R} {f_Nu_product : Int64 → Int64 → qm_M → Option qm_R} {l3 : Int32 → Int32 → Int32 → qm_M → Option qm_R} (hT : qe_G kp d (T_Cu_fit f_Cu_setPoint f_Cu_differ f_Po_clear f_Nu_product)) (h3 : ∀ (v2 : Int32) (v3 : Int32) (v4 : Int32) (m : qm_M), qe_J kp md_Cu_fit d (l3 v2 v3 v4 m) 3 [(0, .ref 107), (1, .ref 2), (2, .int v2), (3, .int v3), (4, .int v4)] [] m) (v2 : Int32) (v3 : Int32) (m : qm_M) : qe_J kp md_Cu_fit d (X_Cu_fit_e f_Cu_setPoint f_Cu_differ f_Po_clear f_Nu_product l3 v2 v3 m) 0 [(0, .ref 107), (1, .ref 2), (2, .int v2), (3, .int v3)] [] m := qe_run (B := [(3, [0, 1, 2, 3, 4], qp_cciii_ 107 2 l3)]) (n := 1000) hT (qe_B1 (qp_cciii__ok h3) qe_B0) rfl
def F_Cu_fit (v2 : Int32) (v3 : Int32) (m : qm_M) : Option qm_R := X_Cu_fit_e F_Cu_setPoint F_Cu_differ F_Po_clear F_Nu_product (L_Cu_fit_3 1000000) v2 v3 m
theorem fj_Cu_fit {kp : pm_K} {d : Nat} (hT : qe_G kp d (T_Cu_fit F_Cu_setPoint F_Cu_differ F_Po_clear F_Nu_product)) (v2 : Int32) (v3 : Int32) (m : qm_M) : qe_J kp md_Cu_fit d (F_Cu_fit v2 v3 m) 0 [(0, .ref 107), (1, .ref 2), (2, .int v2), (3, .int v3)] [] m := xg_Cu_fit_e hT (lg_Cu_fit_3 hT 1000000) v2 v3 m
theorem fg_Cu_fit {kp : pm_K} (d : Nat) : qe_GE kp (d + 35) (4, 0, 0, 0, qw_ccii 107 2 F_Cu_fit) := qe_entry (by decide +kernel) (qw_ccii_ok (d := d + 34) rfl rfl (fj_Cu_fit (qe_G1 (fg_Cu_setPoint (d + 33)) (qe_G1 (fg_Cu_differ (d + 0)) (qe_G1 (fg_Po_clear (d + 33)) (qe_G1 (fg_Nu_product (d + 1)) qe_G0))))))
/-! TurnField$Polynomials.valueAt([JJ)J -/
noncomputable def T_Po_valueAt (f_Nu_product : Int64 → Int64 → qm_M → Option qm_R) : qe_T := [(22, 1, 0, 2, qw_ll f_Nu_product)]
def X_Po_valueAt_8 (f_Nu_product : Int64 → Int64 → qm_M → Option qm_R) (l8 : Nat → Int64 → Int64 → Int32 → qm_M → Option qm_R) (v0 : Nat) (v1 : Int64) (v3 : Int64) (v5 : Int32) (m : qm_M) : Option qm_R :=
  if v5 < 0 then
    some (some (.long v3), m)
  else
    qe_rL (f_Nu_product v3 v1 m) fun x1 m1 =>
    qe_b (qm_isA v0 1) (
    qe_b (qm_in v5 (qm_n v0)) (
    let x2 : Int64 := (x1 ^^^ (qm_gL m1 v0 (Int32.toNatClampNeg v5)))
    l8 v0 v1 x2 (v5 + (-1 : Int32)) m1))
set_option maxRecDepth 100000 in
theorem xg_Po_valueAt_8 {kp : pm_K} {d : Nat} {f_Nu_product : Int64 → Int64 → qm_M → Option qm_R} {l8 : Nat → Int64 → Int64 → Int32 → qm_M → Option qm_R} (hT : qe_G kp d (T_Po_valueAt f_Nu_product)) (h8 : ∀ (v0 : Nat) (v1 : Int64) (v3 : Int64) (v5 : Int32) (m : qm_M), qe_J kp md_Po_valueAt d (l8 v0 v1 v3 v5 m) 8 [(0, .ref v0), (1, .long v1), (3, .long v3), (5, .int v5)] [] m) (v0 : Nat) (v1 : Int64) (v3 : Int64) (v5 : Int32) (m : qm_M) : qe_J kp md_Po_valueAt d (X_Po_valueAt_8 f_Nu_product l8 v0 v1 v3 v5 m) 8 [(0, .ref v0), (1, .long v1), (3, .long v3), (5, .int v5)] [] m := qe_run (B := [(8, [0, 1, 3, 5], qp_rlli_ l8)]) (n := 1000) hT (qe_B1 (qp_rlli__ok h8) qe_B0) rfl
def L_Po_valueAt_8 : Nat → Nat → Int64 → Int64 → Int32 → qm_M → Option qm_R
  | 0, _, _, _, _, _ => none
  | n + 1, v0, v1, v3, v5, m => X_Po_valueAt_8 F_Nu_product (L_Po_valueAt_8 n) v0 v1 v3 v5 m
theorem lg_Po_valueAt_8 {kp : pm_K} {d : Nat} (hT : qe_G kp d (T_Po_valueAt F_Nu_product)) : ∀ (n : Nat) (v0 : Nat) (v1 : Int64) (v3 : Int64) (v5 : Int32) (m : qm_M), qe_J kp md_Po_valueAt d (L_Po_valueAt_8 n v0 v1 v3 v5 m) 8 [(0, .ref v0), (1, .long v1), (3, .long v3), (5, .int v5)] [] m
  | 0, v0, v1, v3, v5, m => qe_none rfl
  | n + 1, v0, v1, v3, v5, m => xg_Po_valueAt_8 hT (lg_Po_valueAt_8 hT n) v0 v1 v3 v5 m
def X_Po_valueAt_e (f_Nu_product : Int64 → Int64 → qm_M → Option qm_R) (l8 : Nat → Int64 → Int64 → Int32 → qm_M → Option qm_R) (v0 : Nat) (v1 : Int64) (m : qm_M) : Option qm_R :=
  qe_b (Nat.ble (qm_gk v0).1 5) (
  l8 v0 v1 (0 : Int64) ((Int32.ofNat (qm_n v0)) - (1 : Int32)) m)
set_option maxRecDepth 100000 in
theorem xg_Po_valueAt_e {kp : pm_K} {d : Nat} {f_Nu_product : Int64 → Int64 → qm_M → Option qm_R} {l8 : Nat → Int64 → Int64 → Int32 → qm_M → Option qm_R} (hT : qe_G kp d (T_Po_valueAt f_Nu_product)) (h8 : ∀ (v0 : Nat) (v1 : Int64) (v3 : Int64) (v5 : Int32) (m : qm_M), qe_J kp md_Po_valueAt d (l8 v0 v1 v3 v5 m) 8 [(0, .ref v0), (1, .long v1), (3, .long v3), (5, .int v5)] [] m) (v0 : Nat) (v1 : Int64) (m : qm_M) : qe_J kp md_Po_valueAt d (X_Po_valueAt_e f_Nu_product l8 v0 v1 m) 0 [(0, .ref v0), (1, .long v1)] [] m := qe_run (B := [(8, [0, 1, 3, 5], qp_rlli_ l8)]) (n := 1000) hT (qe_B1 (qp_rlli__ok h8) qe_B0) rfl
def F_Po_valueAt (v0 : Nat) (v1 : Int64) (m : qm_M) : Option qm_R := X_Po_valueAt_e F_Nu_product (L_Po_valueAt_8 1000000) v0 v1 m
theorem fj_Po_valueAt {kp : pm_K} {d : Nat} (hT : qe_G kp d (T_Po_valueAt F_Nu_product)) (v0 : Nat) (v1 : Int64) (m : qm_M) : qe_J kp md_Po_valueAt d (F_Po_valueAt v0 v1 m) 0 [(0, .ref v0), (1, .long v1)] [] m := xg_Po_valueAt_e hT (lg_Po_valueAt_8 hT 1000000) v0 v1 m
theorem fg_Po_valueAt {kp : pm_K} (d : Nat) : qe_GE kp (d + 34) (62, 1, 0, 2, qw_rl F_Po_valueAt) := qe_entry (by decide +kernel) (qw_rl_ok (d := d + 33) rfl rfl (fj_Po_valueAt (qe_G1 (fg_Nu_product (d + 0)) qe_G0)))
/-! TurnField$Curve.agreement([J)I -/
noncomputable def T_Cu_agreement (f_Po_valueAt : Nat → Int64 → qm_M → Option qm_R) : qe_T := [(62, 1, 0, 2, qw_rl f_Po_valueAt)]
def X_Cu_agreement_4 (f_Po_valueAt : Nat → Int64 → qm_M → Option qm_R) (l4 : Int32 → Int32 → qm_M → Option qm_R) (v2 : Int32) (v3 : Int32) (m : qm_M) : Option qm_R :=
  if v3 < (8 : Int32) then
    qe_rL (f_Po_valueAt 110 (Int32.toInt64 v3) m) fun x1 m1 =>
    qe_b (qm_in v3 8) (
    if (lg_cmp x1 (m1.2 2 (Int32.toNatClampNeg v3))) = 0 then
      l4 (v2 ||| (qo_ishl (1 : Int32) v3)) (v3 + (1 : Int32)) m1
    else
      l4 (v2 ||| (0 : Int32)) (v3 + (1 : Int32)) m1)
  else
    some (some (.int v2), m)
set_option maxRecDepth 100000 in
theorem xg_Cu_agreement_4 {kp : pm_K} {d : Nat} {f_Po_valueAt : Nat → Int64 → qm_M → Option qm_R} {l4 : Int32 → Int32 → qm_M → Option qm_R} (hT : qe_G kp d (T_Cu_agreement f_Po_valueAt)) (h4 : ∀ (v2 : Int32) (v3 : Int32) (m : qm_M), qe_J kp md_Cu_agreement d (l4 v2 v3 m) 4 [(0, .ref 107), (1, .ref 2), (2, .int v2), (3, .int v3)] [] m) (v2 : Int32) (v3 : Int32) (m : qm_M) : qe_J kp md_Cu_agreement d (X_Cu_agreement_4 f_Po_valueAt l4 v2 v3 m) 4 [(0, .ref 107), (1, .ref 2), (2, .int v2), (3, .int v3)] [] m := qe_run (B := [(4, [0, 1, 2, 3], qp_ccii_ 107 2 l4)]) (n := 1000) hT (qe_B1 (qp_ccii__ok h4) qe_B0) rfl
def L_Cu_agreement_4 : Nat → Int32 → Int32 → qm_M → Option qm_R
  | 0, _, _, _ => none
  | n + 1, v2, v3, m => X_Cu_agreement_4 F_Po_valueAt (L_Cu_agreement_4 n) v2 v3 m
theorem lg_Cu_agreement_4 {kp : pm_K} {d : Nat} (hT : qe_G kp d (T_Cu_agreement F_Po_valueAt)) : ∀ (n : Nat) (v2 : Int32) (v3 : Int32) (m : qm_M), qe_J kp md_Cu_agreement d (L_Cu_agreement_4 n v2 v3 m) 4 [(0, .ref 107), (1, .ref 2), (2, .int v2), (3, .int v3)] [] m
  | 0, v2, v3, m => qe_none rfl
  | n + 1, v2, v3, m => xg_Cu_agreement_4 hT (lg_Cu_agreement_4 hT n) v2 v3 m
def X_Cu_agreement_e (f_Po_valueAt : Nat → Int64 → qm_M → Option qm_R) (l4 : Int32 → Int32 → qm_M → Option qm_R)  (m : qm_M) : Option qm_R :=
  l4 (0 : Int32) (0 : Int32) m
set_option maxRecDepth 100000 in
theorem xg_Cu_agreement_e {kp : pm_K} {d : Nat} {f_Po_valueAt : Nat → Int64 → qm_M → Option qm_R} {l4 : Int32 → Int32 → qm_M → Option qm_R} (hT : qe_G kp d (T_Cu_agreement f_Po_valueAt)) (h4 : ∀ (v2 : Int32) (v3 : Int32) (m : qm_M), qe_J kp md_Cu_agreement d (l4 v2 v3 m) 4 [(0, .ref 107), (1, .ref 2), (2, .int v2), (3, .int v3)] [] m) (m : qm_M) : qe_J kp md_Cu_agreement d (X_Cu_agreement_e f_Po_valueAt l4 m) 0 [(0, .ref 107), (1, .ref 2)] [] m := qe_run (B := [(4, [0, 1, 2, 3], qp_ccii_ 107 2 l4)]) (n := 1000) hT (qe_B1 (qp_ccii__ok h4) qe_B0) rfl
def F_Cu_agreement (m : qm_M) : Option qm_R := X_Cu_agreement_e F_Po_valueAt (L_Cu_agreement_4 1000000) m
theorem fj_Cu_agreement {kp : pm_K} {d : Nat} (hT : qe_G kp d (T_Cu_agreement F_Po_valueAt)) (m : qm_M) : qe_J kp md_Cu_agreement d (F_Cu_agreement m) 0 [(0, .ref 107), (1, .ref 2)] [] m := xg_Cu_agreement_e hT (lg_Cu_agreement_4 hT 1000000) m
theorem fg_Cu_agreement {kp : pm_K} (d : Nat) : qe_GE kp (d + 35) (6, 0, 0, 1, qw_cc 107 2 F_Cu_agreement) := qe_entry (by decide +kernel) (qw_cc_ok (d := d + 34) rfl rfl (fj_Cu_agreement (qe_G1 (fg_Po_valueAt (d + 0)) qe_G0)))
/-! TurnField$Curve.isMended()Z -/
noncomputable def T_Cu_isMended (f_JI_bitCount : Int32 → qm_M → Option qm_R) : qe_T := [(318, 1, 0, 1, qw_i f_JI_bitCount)]
def X_Cu_isMended_e (f_JI_bitCount : Int32 → qm_M → Option qm_R)  (m : qm_M) : Option qm_R :=
  qe_rI (f_JI_bitCount (m.1 107 5) m) fun x1 m1 =>
  if x1 < (6 : Int32) then
    some (some (.int (0 : Int32)), m1)
  else
    some (some (.int (1 : Int32)), m1)
set_option maxRecDepth 100000 in
theorem xg_Cu_isMended_e {kp : pm_K} {d : Nat} {f_JI_bitCount : Int32 → qm_M → Option qm_R} (hT : qe_G kp d (T_Cu_isMended f_JI_bitCount)) (m : qm_M) : qe_J kp md_Cu_isMended d (X_Cu_isMended_e f_JI_bitCount m) 0 [(0, .ref 107)] [] m := qe_run (B := []) (n := 1000) hT qe_B0 rfl
def F_Cu_isMended (m : qm_M) : Option qm_R := X_Cu_isMended_e F_JI_bitCount m
theorem fj_Cu_isMended {kp : pm_K} {d : Nat} (hT : qe_G kp d (T_Cu_isMended F_JI_bitCount)) (m : qm_M) : qe_J kp md_Cu_isMended d (F_Cu_isMended m) 0 [(0, .ref 107)] [] m := xg_Cu_isMended_e hT m
theorem fg_Cu_isMended {kp : pm_K} (d : Nat) : qe_GE kp (d + 2) (7, 0, 0, 1, qw_c 107 F_Cu_isMended) := qe_entry (by decide +kernel) (qw_c_ok (d := d + 1) rfl rfl (fj_Cu_isMended (qe_G1 (fg_JI_bitCount (d + 0)) qe_G0)))
/-! TurnField$Curve.mend([J)V -/
noncomputable def T_Cu_mend (f_Po_areAlike : Nat → Nat → qm_M → Option qm_R) (f_Po_copy : Nat → Nat → qm_M → Option qm_R) (f_Po_clear : Nat → qm_M → Option qm_R) (f_Cu_fit : Int32 → Int32 → qm_M → Option qm_R) (f_Cu_agreement : qm_M → Option qm_R) (f_Cu_isMended : qm_M → Option qm_R) : qe_T := [(65, 1, 0, 1, qw_rr f_Po_areAlike), (64, 1, 0, 0, qw_rr f_Po_copy), (63, 1, 0, 0, qw_r f_Po_clear), (4, 0, 0, 0, qw_ccii 107 2 f_Cu_fit), (6, 0, 0, 1, qw_cc 107 2 f_Cu_agreement), (7, 0, 0, 1, qw_c 107 f_Cu_isMended)]
def X_Cu_mend_43 (f_Po_areAlike : Nat → Nat → qm_M → Option qm_R) (f_Po_copy : Nat → Nat → qm_M → Option qm_R) (f_Po_clear : Nat → qm_M → Option qm_R) (f_Cu_fit : Int32 → Int32 → qm_M → Option qm_R) (f_Cu_agreement : qm_M → Option qm_R) (f_Cu_isMended : qm_M → Option qm_R) (l34 : Int32 → qm_M → Option qm_R) (l43 : Int32 → Int32 → qm_M → Option qm_R) (v2 : Int32) (v3 : Int32) (m : qm_M) : Option qm_R :=
  if v3 < (4 : Int32) then
    qe_rV (f_Cu_fit v2 v3 m) fun m1 =>
    qe_rI (f_Cu_agreement m1) fun x1 m2 =>
    let m3 : qm_M := qm_sI m2 107 5 x1
    qe_rI (f_Cu_isMended m3) fun x2 m4 =>
    if x2 = 0 then
      l43 v2 (v3 + (1 : Int32)) m4
    else
      some (none, m4)
  else
    l34 (v2 + (1 : Int32)) m
set_option maxRecDepth 100000 in
theorem xg_Cu_mend_43 {kp : pm_K} {d : Nat} {f_Po_areAlike : Nat → Nat → qm_M → Option qm_R} {f_Po_copy : Nat → Nat → qm_M → Option qm_R} {f_Po_clear : Nat → qm_M → Option qm_R} {f_Cu_fit : Int32 → Int32 → qm_M → Option qm_R} {f_Cu_agreement : qm_M → Option qm_R} {f_Cu_isMended : qm_M → Option qm_R} {l34 : Int32 → qm_M → Option qm_R} {l43 : Int32 → Int32 → qm_M → Option qm_R} (hT : qe_G kp d (T_Cu_mend f_Po_areAlike f_Po_copy f_Po_clear f_Cu_fit f_Cu_agreement f_Cu_isMended)) (h34 : ∀ (v2 : Int32) (m : qm_M), qe_J kp md_Cu_mend d (l34 v2 m) 34 [(0, .ref 107), (1, .ref 2), (2, .int v2)] [] m) (h43 : ∀ (v2 : Int32) (v3 : Int32) (m : qm_M), qe_J kp md_Cu_mend d (l43 v2 v3 m) 43 [(0, .ref 107), (1, .ref 2), (2, .int v2), (3, .int v3)] [] m) (v2 : Int32) (v3 : Int32) (m : qm_M) : qe_J kp md_Cu_mend d (X_Cu_mend_43 f_Po_areAlike f_Po_copy f_Po_clear f_Cu_fit f_Cu_agreement f_Cu_isMended l34 l43 v2 v3 m) 43 [(0, .ref 107), (1, .ref 2), (2, .int v2), (3, .int v3)] [] m := qe_run (B := [(34, [0, 1, 2], qp_cci_ 107 2 l34), (43, [0, 1, 2, 3], qp_ccii_ 107 2 l43)]) (n := 1000) hT (qe_B1 (qp_cci__ok h34) (qe_B1 (qp_ccii__ok h43) qe_B0)) rfl
def L_Cu_mend_43 (K34 : Int32 → qm_M → Option qm_R) : Nat → Int32 → Int32 → qm_M → Option qm_R
  | 0, _, _, _ => none
  | n + 1, v2, v3, m => X_Cu_mend_43 F_Po_areAlike F_Po_copy F_Po_clear F_Cu_fit F_Cu_agreement F_Cu_isMended K34 (L_Cu_mend_43 K34 n) v2 v3 m
theorem lg_Cu_mend_43 {kp : pm_K} {d : Nat} (hT : qe_G kp d (T_Cu_mend F_Po_areAlike F_Po_copy F_Po_clear F_Cu_fit F_Cu_agreement F_Cu_isMended)) {K34 : Int32 → qm_M → Option qm_R} (hK34 : ∀ (v2 : Int32) (m : qm_M), qe_J kp md_Cu_mend d (K34 v2 m) 34 [(0, .ref 107), (1, .ref 2), (2, .int v2)] [] m) : ∀ (n : Nat) (v2 : Int32) (v3 : Int32) (m : qm_M), qe_J kp md_Cu_mend d (L_Cu_mend_43 K34 n v2 v3 m) 43 [(0, .ref 107), (1, .ref 2), (2, .int v2), (3, .int v3)] [] m
  | 0, v2, v3, m => qe_none rfl
  | n + 1, v2, v3, m => xg_Cu_mend_43 hT hK34 (lg_Cu_mend_43 hT hK34 n) v2 v3 m
def X_Cu_mend_34 (f_Po_areAlike : Nat → Nat → qm_M → Option qm_R) (f_Po_copy : Nat → Nat → qm_M → Option qm_R) (f_Po_clear : Nat → qm_M → Option qm_R) (f_Cu_fit : Int32 → Int32 → qm_M → Option qm_R) (f_Cu_agreement : qm_M → Option qm_R) (f_Cu_isMended : qm_M → Option qm_R) (l43 : Int32 → Int32 → qm_M → Option qm_R) (v2 : Int32) (m : qm_M) : Option qm_R :=
  if v2 < (4 : Int32) then
    l43 v2 (v2 + (1 : Int32)) m
  else
    let m1 : qm_M := qm_sI m 107 5 (0 : Int32)
    qe_rV (f_Po_clear 110 m1) fun m2 =>
    some (none, m2)
set_option maxRecDepth 100000 in
theorem xg_Cu_mend_34 {kp : pm_K} {d : Nat} {f_Po_areAlike : Nat → Nat → qm_M → Option qm_R} {f_Po_copy : Nat → Nat → qm_M → Option qm_R} {f_Po_clear : Nat → qm_M → Option qm_R} {f_Cu_fit : Int32 → Int32 → qm_M → Option qm_R} {f_Cu_agreement : qm_M → Option qm_R} {f_Cu_isMended : qm_M → Option qm_R} {l43 : Int32 → Int32 → qm_M → Option qm_R} (hT : qe_G kp d (T_Cu_mend f_Po_areAlike f_Po_copy f_Po_clear f_Cu_fit f_Cu_agreement f_Cu_isMended)) (h43 : ∀ (v2 : Int32) (v3 : Int32) (m : qm_M), qe_J kp md_Cu_mend d (l43 v2 v3 m) 43 [(0, .ref 107), (1, .ref 2), (2, .int v2), (3, .int v3)] [] m) (v2 : Int32) (m : qm_M) : qe_J kp md_Cu_mend d (X_Cu_mend_34 f_Po_areAlike f_Po_copy f_Po_clear f_Cu_fit f_Cu_agreement f_Cu_isMended l43 v2 m) 34 [(0, .ref 107), (1, .ref 2), (2, .int v2)] [] m := qe_run (B := [(43, [0, 1, 2, 3], qp_ccii_ 107 2 l43)]) (n := 1000) hT (qe_B1 (qp_ccii__ok h43) qe_B0) rfl
def L_Cu_mend_34 : Nat → Int32 → qm_M → Option qm_R
  | 0, _, _ => none
  | n + 1, v2, m => X_Cu_mend_34 F_Po_areAlike F_Po_copy F_Po_clear F_Cu_fit F_Cu_agreement F_Cu_isMended (L_Cu_mend_43 (L_Cu_mend_34 n) 1000000) v2 m
theorem lg_Cu_mend_34 {kp : pm_K} {d : Nat} (hT : qe_G kp d (T_Cu_mend F_Po_areAlike F_Po_copy F_Po_clear F_Cu_fit F_Cu_agreement F_Cu_isMended)) : ∀ (n : Nat) (v2 : Int32) (m : qm_M), qe_J kp md_Cu_mend d (L_Cu_mend_34 n v2 m) 34 [(0, .ref 107), (1, .ref 2), (2, .int v2)] [] m
  | 0, v2, m => qe_none rfl
  | n + 1, v2, m => xg_Cu_mend_34 hT (lg_Cu_mend_43 hT (lg_Cu_mend_34 hT n) 1000000) v2 m
def X_Cu_mend_19 (f_Po_areAlike : Nat → Nat → qm_M → Option qm_R) (f_Po_copy : Nat → Nat → qm_M → Option qm_R) (f_Po_clear : Nat → qm_M → Option qm_R) (f_Cu_fit : Int32 → Int32 → qm_M → Option qm_R) (f_Cu_agreement : qm_M → Option qm_R) (f_Cu_isMended : qm_M → Option qm_R) (l34 : Int32 → qm_M → Option qm_R)  (m : qm_M) : Option qm_R :=
  let m1 : qm_M := qm_sI m 107 4 (1 : Int32)
  qe_rV (f_Po_copy 2 111 m1) fun m2 =>
  l34 (0 : Int32) m2
set_option maxRecDepth 100000 in
theorem xg_Cu_mend_19 {kp : pm_K} {d : Nat} {f_Po_areAlike : Nat → Nat → qm_M → Option qm_R} {f_Po_copy : Nat → Nat → qm_M → Option qm_R} {f_Po_clear : Nat → qm_M → Option qm_R} {f_Cu_fit : Int32 → Int32 → qm_M → Option qm_R} {f_Cu_agreement : qm_M → Option qm_R} {f_Cu_isMended : qm_M → Option qm_R} {l34 : Int32 → qm_M → Option qm_R} (hT : qe_G kp d (T_Cu_mend f_Po_areAlike f_Po_copy f_Po_clear f_Cu_fit f_Cu_agreement f_Cu_isMended)) (h34 : ∀ (v2 : Int32) (m : qm_M), qe_J kp md_Cu_mend d (l34 v2 m) 34 [(0, .ref 107), (1, .ref 2), (2, .int v2)] [] m) (m : qm_M) : qe_J kp md_Cu_mend d (X_Cu_mend_19 f_Po_areAlike f_Po_copy f_Po_clear f_Cu_fit f_Cu_agreement f_Cu_isMended l34 m) 19 [(0, .ref 107), (1, .ref 2)] [] m := qe_run (B := [(34, [0, 1, 2], qp_cci_ 107 2 l34)]) (n := 1000) hT (qe_B1 (qp_cci__ok h34) qe_B0) rfl
def L_Cu_mend_19  (m : qm_M) : Option qm_R := X_Cu_mend_19 F_Po_areAlike F_Po_copy F_Po_clear F_Cu_fit F_Cu_agreement F_Cu_isMended (L_Cu_mend_34 1000000) m
theorem lg_Cu_mend_19 {kp : pm_K} {d : Nat} (hT : qe_G kp d (T_Cu_mend F_Po_areAlike F_Po_copy F_Po_clear F_Cu_fit F_Cu_agreement F_Cu_isMended)) (m : qm_M) : qe_J kp md_Cu_mend d (L_Cu_mend_19 m) 19 [(0, .ref 107), (1, .ref 2)] [] m := xg_Cu_mend_19 hT (lg_Cu_mend_34 hT 1000000) m
def X_Cu_mend_e (f_Po_areAlike : Nat → Nat → qm_M → Option qm_R) (f_Po_copy : Nat → Nat → qm_M → Option qm_R) (f_Po_clear : Nat → qm_M → Option qm_R) (f_Cu_fit : Int32 → Int32 → qm_M → Option qm_R) (f_Cu_agreement : qm_M → Option qm_R) (f_Cu_isMended : qm_M → Option qm_R) (l19 : qm_M → Option qm_R)  (m : qm_M) : Option qm_R :=
  if (m.1 107 4) = 0 then
    l19 m
  else
    qe_rI (f_Po_areAlike 2 111 m) fun x1 m1 =>
    if x1 = 0 then
      l19 m1
    else
      some (none, m1)
set_option maxRecDepth 100000 in
theorem xg_Cu_mend_e {kp : pm_K} {d : Nat} {f_Po_areAlike : Nat → Nat → qm_M → Option qm_R} {f_Po_copy : Nat → Nat → qm_M → Option qm_R} {f_Po_clear : Nat → qm_M → Option qm_R} {f_Cu_fit : Int32 → Int32 → qm_M → Option qm_R} {f_Cu_agreement : qm_M → Option qm_R} {f_Cu_isMended : qm_M → Option qm_R} {l19 : qm_M → Option qm_R} (hT : qe_G kp d (T_Cu_mend f_Po_areAlike f_Po_copy f_Po_clear f_Cu_fit f_Cu_agreement f_Cu_isMended)) (h19 : ∀ (m : qm_M), qe_J kp md_Cu_mend d (l19 m) 19 [(0, .ref 107), (1, .ref 2)] [] m) (m : qm_M) : qe_J kp md_Cu_mend d (X_Cu_mend_e f_Po_areAlike f_Po_copy f_Po_clear f_Cu_fit f_Cu_agreement f_Cu_isMended l19 m) 0 [(0, .ref 107), (1, .ref 2)] [] m := qe_run (B := [(19, [0, 1], qp_cc_ 107 2 l19)]) (n := 1000) hT (qe_B1 (qp_cc__ok h19) qe_B0) rfl
def F_Cu_mend (m : qm_M) : Option qm_R := X_Cu_mend_e F_Po_areAlike F_Po_copy F_Po_clear F_Cu_fit F_Cu_agreement F_Cu_isMended (L_Cu_mend_19) m
theorem fj_Cu_mend {kp : pm_K} {d : Nat} (hT : qe_G kp d (T_Cu_mend F_Po_areAlike F_Po_copy F_Po_clear F_Cu_fit F_Cu_agreement F_Cu_isMended)) (m : qm_M) : qe_J kp md_Cu_mend d (F_Cu_mend m) 0 [(0, .ref 107), (1, .ref 2)] [] m := xg_Cu_mend_e hT (lg_Cu_mend_19 hT) m
theorem fg_Cu_mend {kp : pm_K} (d : Nat) : qe_GE kp (d + 36) (3, 0, 0, 0, qw_cc 107 2 F_Cu_mend) := qe_entry (by decide +kernel) (qw_cc_ok (d := d + 35) rfl rfl (fj_Cu_mend (qe_G1 (fg_Po_areAlike (d + 34)) (qe_G1 (fg_Po_copy (d + 34)) (qe_G1 (fg_Po_clear (d + 34)) (qe_G1 (fg_Cu_fit (d + 0)) (qe_G1 (fg_Cu_agreement (d + 0)) (qe_G1 (fg_Cu_isMended (d + 33)) qe_G0))))))))
/-! TurnField$Curve.coefficient(I)J -/
noncomputable def T_Cu_coefficient : qe_T := []
def X_Cu_coefficient_e (v1 : Int32) (m : qm_M) : Option qm_R :=
  if v1 < 0 then
    some (some (.long (0 : Int64)), m)
  else
    if v1 < (4 : Int32) then
      qe_b (qm_in v1 4) (
      some (some (.long (m.2 110 (Int32.toNatClampNeg v1))), m))
    else
      some (some (.long (0 : Int64)), m)
set_option maxRecDepth 100000 in
theorem xg_Cu_coefficient_e {kp : pm_K} {d : Nat} (hT : qe_G kp d (T_Cu_coefficient)) (v1 : Int32) (m : qm_M) : qe_J kp md_Cu_coefficient d (X_Cu_coefficient_e v1 m) 0 [(0, .ref 107), (1, .int v1)] [] m := qe_run (B := []) (n := 1000) hT qe_B0 rfl
def F_Cu_coefficient (v1 : Int32) (m : qm_M) : Option qm_R := X_Cu_coefficient_e v1 m
theorem fj_Cu_coefficient {kp : pm_K} {d : Nat} (hT : qe_G kp d (T_Cu_coefficient)) (v1 : Int32) (m : qm_M) : qe_J kp md_Cu_coefficient d (F_Cu_coefficient v1 m) 0 [(0, .ref 107), (1, .int v1)] [] m := xg_Cu_coefficient_e hT v1 m
theorem fg_Cu_coefficient {kp : pm_K} (d : Nat) : qe_GE kp (d + 1) (8, 0, 0, 2, qw_ci 107 F_Cu_coefficient) := qe_entry (by decide +kernel) (qw_ci_ok (d := d + 0) rfl rfl (fj_Cu_coefficient qe_G0))
/-! TurnField$Curve.mendedValue(J)J -/
noncomputable def T_Cu_mendedValue (f_Po_valueAt : Nat → Int64 → qm_M → Option qm_R) : qe_T := [(62, 1, 0, 2, qw_rl f_Po_valueAt)]
def X_Cu_mendedValue_e (f_Po_valueAt : Nat → Int64 → qm_M → Option qm_R) (v1 : Int64) (m : qm_M) : Option qm_R :=
  qe_rL (f_Po_valueAt 110 v1 m) fun x1 m1 =>
  some (some (.long x1), m1)
set_option maxRecDepth 100000 in
theorem xg_Cu_mendedValue_e {kp : pm_K} {d : Nat} {f_Po_valueAt : Nat → Int64 → qm_M → Option qm_R} (hT : qe_G kp d (T_Cu_mendedValue f_Po_valueAt)) (v1 : Int64) (m : qm_M) : qe_J kp md_Cu_mendedValue d (X_Cu_mendedValue_e f_Po_valueAt v1 m) 0 [(0, .ref 107), (1, .long v1)] [] m := qe_run (B := []) (n := 1000) hT qe_B0 rfl
def F_Cu_mendedValue (v1 : Int64) (m : qm_M) : Option qm_R := X_Cu_mendedValue_e F_Po_valueAt v1 m
theorem fj_Cu_mendedValue {kp : pm_K} {d : Nat} (hT : qe_G kp d (T_Cu_mendedValue F_Po_valueAt)) (v1 : Int64) (m : qm_M) : qe_J kp md_Cu_mendedValue d (F_Cu_mendedValue v1 m) 0 [(0, .ref 107), (1, .long v1)] [] m := xg_Cu_mendedValue_e hT v1 m
theorem fg_Cu_mendedValue {kp : pm_K} (d : Nat) : qe_GE kp (d + 35) (9, 0, 0, 2, qw_cl 107 F_Cu_mendedValue) := qe_entry (by decide +kernel) (qw_cl_ok (d := d + 34) rfl rfl (fj_Cu_mendedValue (qe_G1 (fg_Po_valueAt (d + 0)) qe_G0)))
/-! TurnField$Position.becomeBoard(LTurnField$Position;)V -/
noncomputable def T_Ps_becomeBoard : qe_T := []
def X_Ps_becomeBoard_e (v0 : Nat) (v1 : Nat) (m : qm_M) : Option qm_R :=
  qe_b (qm_isO v1 5) (
  qe_b (qm_isO v0 5) (
  let m1 : qm_M := qm_sI m v0 0 (m.1 v1 0)
  qe_b (qm_isO v1 5) (
  qe_b (qm_isO v0 5) (
  let m2 : qm_M := qm_sI m1 v0 1 (m1.1 v1 1)
  qe_b (qm_isO v1 5) (
  qe_b (qm_isO v0 5) (
  let m3 : qm_M := qm_sI m2 v0 2 (m2.1 v1 2)
  qe_b (qm_isO v1 5) (
  qe_b (qm_isO v0 5) (
  let m4 : qm_M := qm_sI m3 v0 3 (m3.1 v1 3)
  qe_b (qm_isO v1 5) (
  qe_b (qm_isO v0 5) (
  let m5 : qm_M := qm_sI m4 v0 4 (m4.1 v1 4)
  qe_b (qm_isO v1 5) (
  qe_b (qm_isO v0 5) (
  let m6 : qm_M := qm_sI m5 v0 5 (m5.1 v1 5)
  qe_b (qm_isO v1 5) (
  qe_b (qm_isO v0 5) (
  let m7 : qm_M := qm_sL m6 v0 6 (m6.2 v1 6)
  some (none, m7)))))))))))))))
set_option maxRecDepth 100000 in
theorem xg_Ps_becomeBoard_e {kp : pm_K} {d : Nat} (hT : qe_G kp d (T_Ps_becomeBoard)) (v0 : Nat) (v1 : Nat) (m : qm_M) : qe_J kp md_Ps_becomeBoard d (X_Ps_becomeBoard_e v0 v1 m) 0 [(0, .ref v0), (1, .ref v1)] [] m := qe_run (B := []) (n := 1000) hT qe_B0 rfl
def F_Ps_becomeBoard (v0 : Nat) (v1 : Nat) (m : qm_M) : Option qm_R := X_Ps_becomeBoard_e v0 v1 m
theorem fj_Ps_becomeBoard {kp : pm_K} {d : Nat} (hT : qe_G kp d (T_Ps_becomeBoard)) (v0 : Nat) (v1 : Nat) (m : qm_M) : qe_J kp md_Ps_becomeBoard d (F_Ps_becomeBoard v0 v1 m) 0 [(0, .ref v0), (1, .ref v1)] [] m := xg_Ps_becomeBoard_e hT v0 v1 m
theorem fg_Ps_becomeBoard {kp : pm_K} (d : Nat) : qe_GE kp (d + 1) (79, 0, 5, 0, qw_rr F_Ps_becomeBoard) := qe_entry (by decide +kernel) (qw_rr_ok (d := d + 0) rfl rfl (fj_Ps_becomeBoard qe_G0))
/-! TurnField$Position.become(LTurnField$Position;)V -/
noncomputable def T_Ps_become (f_Ps_becomeBoard : Nat → Nat → qm_M → Option qm_R) : qe_T := [(79, 0, 5, 0, qw_rr f_Ps_becomeBoard)]
def X_Ps_become_52 (f_Ps_becomeBoard : Nat → Nat → qm_M → Option qm_R) (l52 : Nat → Nat → Int32 → qm_M → Option qm_R) (v0 : Nat) (v1 : Nat) (v2 : Int32) (m : qm_M) : Option qm_R :=
  qe_b (qm_isO v0 5) (
  qe_b (Nat.ble (qm_gk (qm_rf v0 10)).1 5) (
  if v2 < (Int32.ofNat (qm_n (qm_rf v0 10))) then
    qe_b (qm_isO v0 5) (
    qe_b (qm_isO v1 5) (
    qe_b (qm_isA (qm_rf v1 10) 1) (
    qe_b (qm_in v2 (qm_n (qm_rf v1 10))) (
    qe_b (qm_isL (qm_rf v0 10) 1) (
    qe_b (qm_in v2 (qm_nl (qm_rf v0 10))) (
    let m1 : qm_M := qm_sL m (qm_rf v0 10) (Int32.toNatClampNeg v2) (qm_gL m (qm_rf v1 10) (Int32.toNatClampNeg v2))
    l52 v0 v1 (v2 + (1 : Int32)) m1))))))
  else
    some (none, m)))
set_option maxRecDepth 100000 in
theorem xg_Ps_become_52 {kp : pm_K} {d : Nat} {f_Ps_becomeBoard : Nat → Nat → qm_M → Option qm_R} {l52 : Nat → Nat → Int32 → qm_M → Option qm_R} (hT : qe_G kp d (T_Ps_become f_Ps_becomeBoard)) (h52 : ∀ (v0 : Nat) (v1 : Nat) (v2 : Int32) (m : qm_M), qe_J kp md_Ps_become d (l52 v0 v1 v2 m) 52 [(0, .ref v0), (1, .ref v1), (2, .int v2)] [] m) (v0 : Nat) (v1 : Nat) (v2 : Int32) (m : qm_M) : qe_J kp md_Ps_become d (X_Ps_become_52 f_Ps_becomeBoard l52 v0 v1 v2 m) 52 [(0, .ref v0), (1, .ref v1), (2, .int v2)] [] m := qe_run (B := [(52, [0, 1, 2], qp_rri_ l52)]) (n := 1000) hT (qe_B1 (qp_rri__ok h52) qe_B0) rfl
def L_Ps_become_52 : Nat → Nat → Nat → Int32 → qm_M → Option qm_R
  | 0, _, _, _, _ => none
  | n + 1, v0, v1, v2, m => X_Ps_become_52 F_Ps_becomeBoard (L_Ps_become_52 n) v0 v1 v2 m
theorem lg_Ps_become_52 {kp : pm_K} {d : Nat} (hT : qe_G kp d (T_Ps_become F_Ps_becomeBoard)) : ∀ (n : Nat) (v0 : Nat) (v1 : Nat) (v2 : Int32) (m : qm_M), qe_J kp md_Ps_become d (L_Ps_become_52 n v0 v1 v2 m) 52 [(0, .ref v0), (1, .ref v1), (2, .int v2)] [] m
  | 0, v0, v1, v2, m => qe_none rfl
  | n + 1, v0, v1, v2, m => xg_Ps_become_52 hT (lg_Ps_become_52 hT n) v0 v1 v2 m
def X_Ps_become_7 (f_Ps_becomeBoard : Nat → Nat → qm_M → Option qm_R) (l7 : Nat → Nat → Int32 → qm_M → Option qm_R) (l52 : Nat → Nat → Int32 → qm_M → Option qm_R) (v0 : Nat) (v1 : Nat) (v2 : Int32) (m : qm_M) : Option qm_R :=
  qe_b (qm_isO v0 5) (
  qe_b (Nat.ble (qm_gk (qm_rf v0 7)).1 5) (
  if v2 < (Int32.ofNat (qm_n (qm_rf v0 7))) then
    qe_b (qm_isO v0 5) (
    qe_b (qm_isO v1 5) (
    qe_b (qm_isA (qm_rf v1 7) 1) (
    qe_b (qm_in v2 (qm_n (qm_rf v1 7))) (
    qe_b (qm_isL (qm_rf v0 7) 1) (
    qe_b (qm_in v2 (qm_nl (qm_rf v0 7))) (
    let m1 : qm_M := qm_sL m (qm_rf v0 7) (Int32.toNatClampNeg v2) (qm_gL m (qm_rf v1 7) (Int32.toNatClampNeg v2))
    l7 v0 v1 (v2 + (1 : Int32)) m1))))))
  else
    qe_b (qm_isO v1 5) (
    qe_b (qm_isO v0 5) (
    let m2 : qm_M := qm_sI m v0 8 (m.1 v1 8)
    qe_b (qm_isO v1 5) (
    qe_b (qm_isO v0 5) (
    let m3 : qm_M := qm_sI m2 v0 9 (m2.1 v1 9)
    l52 v0 v1 (0 : Int32) m3))))))
set_option maxRecDepth 100000 in
theorem xg_Ps_become_7 {kp : pm_K} {d : Nat} {f_Ps_becomeBoard : Nat → Nat → qm_M → Option qm_R} {l7 : Nat → Nat → Int32 → qm_M → Option qm_R} {l52 : Nat → Nat → Int32 → qm_M → Option qm_R} (hT : qe_G kp d (T_Ps_become f_Ps_becomeBoard)) (h7 : ∀ (v0 : Nat) (v1 : Nat) (v2 : Int32) (m : qm_M), qe_J kp md_Ps_become d (l7 v0 v1 v2 m) 7 [(0, .ref v0), (1, .ref v1), (2, .int v2)] [] m) (h52 : ∀ (v0 : Nat) (v1 : Nat) (v2 : Int32) (m : qm_M), qe_J kp md_Ps_become d (l52 v0 v1 v2 m) 52 [(0, .ref v0), (1, .ref v1), (2, .int v2)] [] m) (v0 : Nat) (v1 : Nat) (v2 : Int32) (m : qm_M) : qe_J kp md_Ps_become d (X_Ps_become_7 f_Ps_becomeBoard l7 l52 v0 v1 v2 m) 7 [(0, .ref v0), (1, .ref v1), (2, .int v2)] [] m := qe_run (B := [(7, [0, 1, 2], qp_rri_ l7), (52, [0, 1, 2], qp_rri_ l52)]) (n := 1000) hT (qe_B1 (qp_rri__ok h7) (qe_B1 (qp_rri__ok h52) qe_B0)) rfl
def L_Ps_become_7 : Nat → Nat → Nat → Int32 → qm_M → Option qm_R
  | 0, _, _, _, _ => none
  | n + 1, v0, v1, v2, m => X_Ps_become_7 F_Ps_becomeBoard (L_Ps_become_7 n) (L_Ps_become_52 1000000) v0 v1 v2 m
theorem lg_Ps_become_7 {kp : pm_K} {d : Nat} (hT : qe_G kp d (T_Ps_become F_Ps_becomeBoard)) : ∀ (n : Nat) (v0 : Nat) (v1 : Nat) (v2 : Int32) (m : qm_M), qe_J kp md_Ps_become d (L_Ps_become_7 n v0 v1 v2 m) 7 [(0, .ref v0), (1, .ref v1), (2, .int v2)] [] m
  | 0, v0, v1, v2, m => qe_none rfl
  | n + 1, v0, v1, v2, m => xg_Ps_become_7 hT (lg_Ps_become_7 hT n) (lg_Ps_become_52 hT 1000000) v0 v1 v2 m
def X_Ps_become_e (f_Ps_becomeBoard : Nat → Nat → qm_M → Option qm_R) (l7 : Nat → Nat → Int32 → qm_M → Option qm_R) (v0 : Nat) (v1 : Nat) (m : qm_M) : Option qm_R :=
  qe_b (qm_isO v0 5) (
  qe_rV (f_Ps_becomeBoard v0 v1 m) fun m1 =>
  l7 v0 v1 (0 : Int32) m1)
set_option maxRecDepth 100000 in
theorem xg_Ps_become_e {kp : pm_K} {d : Nat} {f_Ps_becomeBoard : Nat → Nat → qm_M → Option qm_R} {l7 : Nat → Nat → Int32 → qm_M → Option qm_R} (hT : qe_G kp d (T_Ps_become f_Ps_becomeBoard)) (h7 : ∀ (v0 : Nat) (v1 : Nat) (v2 : Int32) (m : qm_M), qe_J kp md_Ps_become d (l7 v0 v1 v2 m) 7 [(0, .ref v0), (1, .ref v1), (2, .int v2)] [] m) (v0 : Nat) (v1 : Nat) (m : qm_M) : qe_J kp md_Ps_become d (X_Ps_become_e f_Ps_becomeBoard l7 v0 v1 m) 0 [(0, .ref v0), (1, .ref v1)] [] m := qe_run (B := [(7, [0, 1, 2], qp_rri_ l7)]) (n := 1000) hT (qe_B1 (qp_rri__ok h7) qe_B0) rfl
def F_Ps_become (v0 : Nat) (v1 : Nat) (m : qm_M) : Option qm_R := X_Ps_become_e F_Ps_becomeBoard (L_Ps_become_7 1000000) v0 v1 m
theorem fj_Ps_become {kp : pm_K} {d : Nat} (hT : qe_G kp d (T_Ps_become F_Ps_becomeBoard)) (v0 : Nat) (v1 : Nat) (m : qm_M) : qe_J kp md_Ps_become d (F_Ps_become v0 v1 m) 0 [(0, .ref v0), (1, .ref v1)] [] m := xg_Ps_become_e hT (lg_Ps_become_7 hT 1000000) v0 v1 m
theorem fg_Ps_become {kp : pm_K} (d : Nat) : qe_GE kp (d + 2) (80, 0, 5, 0, qw_rr F_Ps_become) := qe_entry (by decide +kernel) (qw_rr_ok (d := d + 1) rfl rfl (fj_Ps_become (qe_G1 (fg_Ps_becomeBoard (d + 0)) qe_G0)))
/-! TurnField$Past.push(LTurnField$Position;)V -/
noncomputable def T_Pa_push (f_Ps_become : Nat → Nat → qm_M → Option qm_R) : qe_T := [(80, 0, 5, 0, qw_rr f_Ps_become)]
def X_Pa_push_35 (f_Ps_become : Nat → Nat → qm_M → Option qm_R) (s0 : Int32) (m : qm_M) : Option qm_R :=
  let m1 : qm_M := qm_sI m 4 1 s0
  if (m1.1 4 2) < (10 : Int32) then
    let m2 : qm_M := qm_sI m1 4 2 ((m1.1 4 2) + (1 : Int32))
    some (none, m2)
  else
    let m3 : qm_M := qm_sI m1 4 2 (10 : Int32)
    some (none, m3)
set_option maxRecDepth 100000 in
theorem xg_Pa_push_35 {kp : pm_K} {d : Nat} {f_Ps_become : Nat → Nat → qm_M → Option qm_R} (hT : qe_G kp d (T_Pa_push f_Ps_become)) (s0 : Int32) (m : qm_M) : qe_J kp md_Pa_push d (X_Pa_push_35 f_Ps_become s0 m) 35 [(0, .ref 4)] [.int s0, .ref 4] m := qe_run (B := []) (n := 1000) hT qe_B0 rfl
def L_Pa_push_35 (s0 : Int32) (m : qm_M) : Option qm_R := X_Pa_push_35 F_Ps_become s0 m
theorem lg_Pa_push_35 {kp : pm_K} {d : Nat} (hT : qe_G kp d (T_Pa_push F_Ps_become)) (s0 : Int32) (m : qm_M) : qe_J kp md_Pa_push d (L_Pa_push_35 s0 m) 35 [(0, .ref 4)] [.int s0, .ref 4] m := xg_Pa_push_35 hT s0 m
def X_Pa_push_e (f_Ps_become : Nat → Nat → qm_M → Option qm_R) (l35 : Int32 → qm_M → Option qm_R)  (m : qm_M) : Option qm_R :=
  qe_b (qm_in (m.1 4 1) 10) (
  qe_b (qm_isO (qm_rf 5 (Int32.toNatClampNeg (m.1 4 1))) 5) (
  qe_rV (f_Ps_become (qm_rf 5 (Int32.toNatClampNeg (m.1 4 1))) 1 m) fun m1 =>
  if ((m1.1 4 1) + (1 : Int32)) < (10 : Int32) then
    l35 ((m1.1 4 1) + (1 : Int32)) m1
  else
    l35 (0 : Int32) m1))
set_option maxRecDepth 100000 in
theorem xg_Pa_push_e {kp : pm_K} {d : Nat} {f_Ps_become : Nat → Nat → qm_M → Option qm_R} {l35 : Int32 → qm_M → Option qm_R} (hT : qe_G kp d (T_Pa_push f_Ps_become)) (h35 : ∀ (s0 : Int32) (m : qm_M), qe_J kp md_Pa_push d (l35 s0 m) 35 [(0, .ref 4)] [.int s0, .ref 4] m) (m : qm_M) : qe_J kp md_Pa_push d (X_Pa_push_e f_Ps_become l35 m) 0 [(0, .ref 4), (1, .ref 1)] [] m := qe_run (B := [(35, [0], qp_c_ic 4 4 l35)]) (n := 1000) hT (qe_B1 (qp_c_ic_ok h35) qe_B0) rfl
def F_Pa_push (m : qm_M) : Option qm_R := X_Pa_push_e F_Ps_become (L_Pa_push_35) m
theorem fj_Pa_push {kp : pm_K} {d : Nat} (hT : qe_G kp d (T_Pa_push F_Ps_become)) (m : qm_M) : qe_J kp md_Pa_push d (F_Pa_push m) 0 [(0, .ref 4), (1, .ref 1)] [] m := xg_Pa_push_e hT (lg_Pa_push_35 hT) m
theorem fg_Pa_push {kp : pm_K} (d : Nat) : qe_GE kp (d + 3) (44, 0, 2, 0, qw_cc 4 1 F_Pa_push) := qe_entry (by decide +kernel) (qw_cc_ok (d := d + 2) rfl rfl (fj_Pa_push (qe_G1 (fg_Ps_become (d + 0)) qe_G0)))
/-! TurnField$Past.newest()I -/
noncomputable def T_Pa_newest : qe_T := []
def X_Pa_newest_e  (m : qm_M) : Option qm_R :=
  if 0 < (m.1 4 1) then
    some (some (.int ((m.1 4 1) - (1 : Int32))), m)
  else
    some (some (.int (9 : Int32)), m)
set_option maxRecDepth 100000 in
theorem xg_Pa_newest_e {kp : pm_K} {d : Nat} (hT : qe_G kp d (T_Pa_newest)) (m : qm_M) : qe_J kp md_Pa_newest d (X_Pa_newest_e m) 0 [(0, .ref 4)] [] m := qe_run (B := []) (n := 1000) hT qe_B0 rfl
def F_Pa_newest (m : qm_M) : Option qm_R := X_Pa_newest_e m
theorem fj_Pa_newest {kp : pm_K} {d : Nat} (hT : qe_G kp d (T_Pa_newest)) (m : qm_M) : qe_J kp md_Pa_newest d (F_Pa_newest m) 0 [(0, .ref 4)] [] m := xg_Pa_newest_e hT m
theorem fg_Pa_newest {kp : pm_K} (d : Nat) : qe_GE kp (d + 1) (45, 0, 2, 1, qw_c 4 F_Pa_newest) := qe_entry (by decide +kernel) (qw_c_ok (d := d + 0) rfl rfl (fj_Pa_newest qe_G0))
/-! TurnField$Past.last()LTurnField$Position; -/
noncomputable def T_Pa_last (f_Pa_newest : qm_M → Option qm_R) : qe_T := [(45, 0, 2, 1, qw_c 4 f_Pa_newest)]
def X_Pa_last_e (f_Pa_newest : qm_M → Option qm_R)  (m : qm_M) : Option qm_R :=
  qe_rI (f_Pa_newest m) fun x1 m1 =>
  qe_b (qm_in x1 10) (
  some (some (.ref (qm_rf 5 (Int32.toNatClampNeg x1))), m1))
set_option maxRecDepth 100000 in
theorem xg_Pa_last_e {kp : pm_K} {d : Nat} {f_Pa_newest : qm_M → Option qm_R} (hT : qe_G kp d (T_Pa_last f_Pa_newest)) (m : qm_M) : qe_J kp md_Pa_last d (X_Pa_last_e f_Pa_newest m) 0 [(0, .ref 4)] [] m := qe_run (B := []) (n := 1000) hT qe_B0 rfl
def F_Pa_last (m : qm_M) : Option qm_R := X_Pa_last_e F_Pa_newest m
theorem fj_Pa_last {kp : pm_K} {d : Nat} (hT : qe_G kp d (T_Pa_last F_Pa_newest)) (m : qm_M) : qe_J kp md_Pa_last d (F_Pa_last m) 0 [(0, .ref 4)] [] m := xg_Pa_last_e hT m
theorem fg_Pa_last {kp : pm_K} (d : Nat) : qe_GE kp (d + 2) (46, 0, 2, 3, qw_c 4 F_Pa_last) := qe_entry (by decide +kernel) (qw_c_ok (d := d + 1) rfl rfl (fj_Pa_last (qe_G1 (fg_Pa_newest (d + 0)) qe_G0)))
/-! TurnField$Past.pop(LTurnField$Position;)V -/
noncomputable def T_Pa_pop (f_Pa_newest : qm_M → Option qm_R) (f_Ps_become : Nat → Nat → qm_M → Option qm_R) : qe_T := [(45, 0, 2, 1, qw_c 4 f_Pa_newest), (80, 0, 5, 0, qw_rr f_Ps_become)]
def X_Pa_pop_e (f_Pa_newest : qm_M → Option qm_R) (f_Ps_become : Nat → Nat → qm_M → Option qm_R)  (m : qm_M) : Option qm_R :=
  if 0 < (m.1 4 2) then
    qe_rI (f_Pa_newest m) fun x1 m1 =>
    let m2 : qm_M := qm_sI m1 4 1 x1
    let m3 : qm_M := qm_sI m2 4 2 ((m2.1 4 2) - (1 : Int32))
    qe_b (qm_in (m3.1 4 1) 10) (
    qe_rV (f_Ps_become 1 (qm_rf 5 (Int32.toNatClampNeg (m3.1 4 1))) m3) fun m4 =>
    some (none, m4))
  else
    some (none, m)
set_option maxRecDepth 100000 in
theorem xg_Pa_pop_e {kp : pm_K} {d : Nat} {f_Pa_newest : qm_M → Option qm_R} {f_Ps_become : Nat → Nat → qm_M → Option qm_R} (hT : qe_G kp d (T_Pa_pop f_Pa_newest f_Ps_become)) (m : qm_M) : qe_J kp md_Pa_pop d (X_Pa_pop_e f_Pa_newest f_Ps_become m) 0 [(0, .ref 4), (1, .ref 1)] [] m := qe_run (B := []) (n := 1000) hT qe_B0 rfl
def F_Pa_pop (m : qm_M) : Option qm_R := X_Pa_pop_e F_Pa_newest F_Ps_become m
theorem fj_Pa_pop {kp : pm_K} {d : Nat} (hT : qe_G kp d (T_Pa_pop F_Pa_newest F_Ps_become)) (m : qm_M) : qe_J kp md_Pa_pop d (F_Pa_pop m) 0 [(0, .ref 4), (1, .ref 1)] [] m := xg_Pa_pop_e hT m
theorem fg_Pa_pop {kp : pm_K} (d : Nat) : qe_GE kp (d + 3) (47, 0, 2, 0, qw_cc 4 1 F_Pa_pop) := qe_entry (by decide +kernel) (qw_cc_ok (d := d + 2) rfl rfl (fj_Pa_pop (qe_G1 (fg_Pa_newest (d + 1)) (qe_G1 (fg_Ps_become (d + 0)) qe_G0))))
/-! TurnField$Position.hasPlace(I)Z -/
noncomputable def T_Ps_hasPlace : qe_T := []
def X_Ps_hasPlace_e (v0 : Int32) (m : qm_M) : Option qm_R :=
  if v0 < 0 then
    some (some (.int (0 : Int32)), m)
  else
    if v0 < (8 : Int32) then
      some (some (.int (1 : Int32)), m)
    else
      some (some (.int (0 : Int32)), m)
set_option maxRecDepth 100000 in
theorem xg_Ps_hasPlace_e {kp : pm_K} {d : Nat} (hT : qe_G kp d (T_Ps_hasPlace)) (v0 : Int32) (m : qm_M) : qe_J kp md_Ps_hasPlace d (X_Ps_hasPlace_e v0 m) 0 [(0, .int v0)] [] m := qe_run (B := []) (n := 1000) hT qe_B0 rfl
def F_Ps_hasPlace (v0 : Int32) (m : qm_M) : Option qm_R := X_Ps_hasPlace_e v0 m
theorem fj_Ps_hasPlace {kp : pm_K} {d : Nat} (hT : qe_G kp d (T_Ps_hasPlace)) (v0 : Int32) (m : qm_M) : qe_J kp md_Ps_hasPlace d (F_Ps_hasPlace v0 m) 0 [(0, .int v0)] [] m := xg_Ps_hasPlace_e hT v0 m
theorem fg_Ps_hasPlace {kp : pm_K} (d : Nat) : qe_GE kp (d + 1) (81, 1, 0, 1, qw_i F_Ps_hasPlace) := qe_entry (by decide +kernel) (qw_i_ok (d := d + 0) rfl rfl (fj_Ps_hasPlace qe_G0))
/-! TurnField$Position.hasCell(II)Z -/
noncomputable def T_Ps_hasCell : qe_T := []
def X_Ps_hasCell_e (v0 : Nat) (v1 : Int32) (v2 : Int32) (m : qm_M) : Option qm_R :=
  if v1 < 0 then
    some (some (.int (0 : Int32)), m)
  else
    qe_b (qm_isO v0 5) (
    if v1 < (m.1 v0 0) then
      if v2 < 0 then
        some (some (.int (0 : Int32)), m)
      else
        qe_b (qm_isO v0 5) (
        if v2 < (m.1 v0 1) then
          some (some (.int (1 : Int32)), m)
        else
          some (some (.int (0 : Int32)), m))
    else
      some (some (.int (0 : Int32)), m))
set_option maxRecDepth 100000 in
theorem xg_Ps_hasCell_e {kp : pm_K} {d : Nat} (hT : qe_G kp d (T_Ps_hasCell)) (v0 : Nat) (v1 : Int32) (v2 : Int32) (m : qm_M) : qe_J kp md_Ps_hasCell d (X_Ps_hasCell_e v0 v1 v2 m) 0 [(0, .ref v0), (1, .int v1), (2, .int v2)] [] m := qe_run (B := []) (n := 1000) hT qe_B0 rfl
def F_Ps_hasCell (v0 : Nat) (v1 : Int32) (v2 : Int32) (m : qm_M) : Option qm_R := X_Ps_hasCell_e v0 v1 v2 m
theorem fj_Ps_hasCell {kp : pm_K} {d : Nat} (hT : qe_G kp d (T_Ps_hasCell)) (v0 : Nat) (v1 : Int32) (v2 : Int32) (m : qm_M) : qe_J kp md_Ps_hasCell d (F_Ps_hasCell v0 v1 v2 m) 0 [(0, .ref v0), (1, .int v1), (2, .int v2)] [] m := xg_Ps_hasCell_e hT v0 v1 v2 m
theorem fg_Ps_hasCell {kp : pm_K} (d : Nat) : qe_GE kp (d + 1) (82, 0, 5, 1, qw_rii F_Ps_hasCell) := qe_entry (by decide +kernel) (qw_rii_ok (d := d + 0) rfl rfl (fj_Ps_hasCell qe_G0))
/-! TurnField$Position.bitOf(II)J -/
noncomputable def T_Ps_bitOf : qe_T := []
def X_Ps_bitOf_e (v0 : Int32) (v1 : Int32) (m : qm_M) : Option qm_R :=
  some (some (.long (qo_lshl (1 : Int64) (((6 : Int32) * v0) + v1))), m)
set_option maxRecDepth 100000 in
theorem xg_Ps_bitOf_e {kp : pm_K} {d : Nat} (hT : qe_G kp d (T_Ps_bitOf)) (v0 : Int32) (v1 : Int32) (m : qm_M) : qe_J kp md_Ps_bitOf d (X_Ps_bitOf_e v0 v1 m) 0 [(0, .int v0), (1, .int v1)] [] m := qe_run (B := []) (n := 1000) hT qe_B0 rfl
def F_Ps_bitOf (v0 : Int32) (v1 : Int32) (m : qm_M) : Option qm_R := X_Ps_bitOf_e v0 v1 m
theorem fj_Ps_bitOf {kp : pm_K} {d : Nat} (hT : qe_G kp d (T_Ps_bitOf)) (v0 : Int32) (v1 : Int32) (m : qm_M) : qe_J kp md_Ps_bitOf d (F_Ps_bitOf v0 v1 m) 0 [(0, .int v0), (1, .int v1)] [] m := xg_Ps_bitOf_e hT v0 v1 m
theorem fg_Ps_bitOf {kp : pm_K} (d : Nat) : qe_GE kp (d + 1) (83, 1, 0, 2, qw_ii F_Ps_bitOf) := qe_entry (by decide +kernel) (qw_ii_ok (d := d + 0) rfl rfl (fj_Ps_bitOf qe_G0))
/-! TurnField$Position.bitsOf(II)J -/
noncomputable def T_Ps_bitsOf : qe_T := []
def X_Ps_bitsOf_5 (l5 : Int32 → Int32 → Int64 → Int32 → qm_M → Option qm_R) (v0 : Int32) (v1 : Int32) (v2 : Int64) (v4 : Int32) (m : qm_M) : Option qm_R :=
  if v4 < (6 : Int32) then
    if ((qo_ishr v0 v4) &&& (1 : Int32)) = 0 then
      l5 v0 v1 v2 (v4 + (1 : Int32)) m
    else
      let x1 : Int64 := (v2 ||| (qo_lshl (Int32.toInt64 v1) ((6 : Int32) * v4)))
      l5 v0 v1 x1 (v4 + (1 : Int32)) m
  else
    some (some (.long v2), m)
set_option maxRecDepth 100000 in
theorem xg_Ps_bitsOf_5 {kp : pm_K} {d : Nat} {l5 : Int32 → Int32 → Int64 → Int32 → qm_M → Option qm_R} (hT : qe_G kp d (T_Ps_bitsOf)) (h5 : ∀ (v0 : Int32) (v1 : Int32) (v2 : Int64) (v4 : Int32) (m : qm_M), qe_J kp md_Ps_bitsOf d (l5 v0 v1 v2 v4 m) 5 [(0, .int v0), (1, .int v1), (2, .long v2), (4, .int v4)] [] m) (v0 : Int32) (v1 : Int32) (v2 : Int64) (v4 : Int32) (m : qm_M) : qe_J kp md_Ps_bitsOf d (X_Ps_bitsOf_5 l5 v0 v1 v2 v4 m) 5 [(0, .int v0), (1, .int v1), (2, .long v2), (4, .int v4)] [] m := qe_run (B := [(5, [0, 1, 2, 4], qp_iili_ l5)]) (n := 1000) hT (qe_B1 (qp_iili__ok h5) qe_B0) rfl
def L_Ps_bitsOf_5 : Nat → Int32 → Int32 → Int64 → Int32 → qm_M → Option qm_R
  | 0, _, _, _, _, _ => none
  | n + 1, v0, v1, v2, v4, m => X_Ps_bitsOf_5 (L_Ps_bitsOf_5 n) v0 v1 v2 v4 m
theorem lg_Ps_bitsOf_5 {kp : pm_K} {d : Nat} (hT : qe_G kp d (T_Ps_bitsOf)) : ∀ (n : Nat) (v0 : Int32) (v1 : Int32) (v2 : Int64) (v4 : Int32) (m : qm_M), qe_J kp md_Ps_bitsOf d (L_Ps_bitsOf_5 n v0 v1 v2 v4 m) 5 [(0, .int v0), (1, .int v1), (2, .long v2), (4, .int v4)] [] m
  | 0, v0, v1, v2, v4, m => qe_none rfl
  | n + 1, v0, v1, v2, v4, m => xg_Ps_bitsOf_5 hT (lg_Ps_bitsOf_5 hT n) v0 v1 v2 v4 m
def X_Ps_bitsOf_e (l5 : Int32 → Int32 → Int64 → Int32 → qm_M → Option qm_R) (v0 : Int32) (v1 : Int32) (m : qm_M) : Option qm_R :=
  l5 v0 v1 (0 : Int64) (0 : Int32) m
set_option maxRecDepth 100000 in
theorem xg_Ps_bitsOf_e {kp : pm_K} {d : Nat} {l5 : Int32 → Int32 → Int64 → Int32 → qm_M → Option qm_R} (hT : qe_G kp d (T_Ps_bitsOf)) (h5 : ∀ (v0 : Int32) (v1 : Int32) (v2 : Int64) (v4 : Int32) (m : qm_M), qe_J kp md_Ps_bitsOf d (l5 v0 v1 v2 v4 m) 5 [(0, .int v0), (1, .int v1), (2, .long v2), (4, .int v4)] [] m) (v0 : Int32) (v1 : Int32) (m : qm_M) : qe_J kp md_Ps_bitsOf d (X_Ps_bitsOf_e l5 v0 v1 m) 0 [(0, .int v0), (1, .int v1)] [] m := qe_run (B := [(5, [0, 1, 2, 4], qp_iili_ l5)]) (n := 1000) hT (qe_B1 (qp_iili__ok h5) qe_B0) rfl
def F_Ps_bitsOf (v0 : Int32) (v1 : Int32) (m : qm_M) : Option qm_R := X_Ps_bitsOf_e (L_Ps_bitsOf_5 1000000) v0 v1 m
theorem fj_Ps_bitsOf {kp : pm_K} {d : Nat} (hT : qe_G kp d (T_Ps_bitsOf)) (v0 : Int32) (v1 : Int32) (m : qm_M) : qe_J kp md_Ps_bitsOf d (F_Ps_bitsOf v0 v1 m) 0 [(0, .int v0), (1, .int v1)] [] m := xg_Ps_bitsOf_e hT (lg_Ps_bitsOf_5 hT 1000000) v0 v1 m
theorem fg_Ps_bitsOf {kp : pm_K} (d : Nat) : qe_GE kp (d + 1) (84, 1, 0, 2, qw_ii F_Ps_bitsOf) := qe_entry (by decide +kernel) (qw_ii_ok (d := d + 0) rfl rfl (fj_Ps_bitsOf qe_G0))
/-! TurnField$Position.showsHeads(II)Z -/
noncomputable def T_Ps_showsHeads (f_Ps_bitOf : Int32 → Int32 → qm_M → Option qm_R) : qe_T := [(83, 1, 0, 2, qw_ii f_Ps_bitOf)]
def X_Ps_showsHeads_e (f_Ps_bitOf : Int32 → Int32 → qm_M → Option qm_R) (v0 : Nat) (v1 : Int32) (v2 : Int32) (m : qm_M) : Option qm_R :=
  qe_b (qm_isO v0 5) (
  qe_rL (f_Ps_bitOf v1 v2 m) fun x1 m1 =>
  if (lg_cmp ((m.2 v0 6) &&& x1) (0 : Int64)) = 0 then
    some (some (.int (0 : Int32)), m1)
  else
    some (some (.int (1 : Int32)), m1))
set_option maxRecDepth 100000 in
theorem xg_Ps_showsHeads_e {kp : pm_K} {d : Nat} {f_Ps_bitOf : Int32 → Int32 → qm_M → Option qm_R} (hT : qe_G kp d (T_Ps_showsHeads f_Ps_bitOf)) (v0 : Nat) (v1 : Int32) (v2 : Int32) (m : qm_M) : qe_J kp md_Ps_showsHeads d (X_Ps_showsHeads_e f_Ps_bitOf v0 v1 v2 m) 0 [(0, .ref v0), (1, .int v1), (2, .int v2)] [] m := qe_run (B := []) (n := 1000) hT qe_B0 rfl
def F_Ps_showsHeads (v0 : Nat) (v1 : Int32) (v2 : Int32) (m : qm_M) : Option qm_R := X_Ps_showsHeads_e F_Ps_bitOf v0 v1 v2 m
theorem fj_Ps_showsHeads {kp : pm_K} {d : Nat} (hT : qe_G kp d (T_Ps_showsHeads F_Ps_bitOf)) (v0 : Nat) (v1 : Int32) (v2 : Int32) (m : qm_M) : qe_J kp md_Ps_showsHeads d (F_Ps_showsHeads v0 v1 v2 m) 0 [(0, .ref v0), (1, .int v1), (2, .int v2)] [] m := xg_Ps_showsHeads_e hT v0 v1 v2 m
theorem fg_Ps_showsHeads {kp : pm_K} (d : Nat) : qe_GE kp (d + 2) (85, 0, 5, 1, qw_rii F_Ps_showsHeads) := qe_entry (by decide +kernel) (qw_rii_ok (d := d + 1) rfl rfl (fj_Ps_showsHeads (qe_G1 (fg_Ps_bitOf (d + 0)) qe_G0)))
/-! TurnField$Position.headsShown()I -/
noncomputable def T_Ps_headsShown (f_JL_bitCount : Int64 → qm_M → Option qm_R) : qe_T := [(319, 1, 0, 1, qw_l f_JL_bitCount)]
def X_Ps_headsShown_e (f_JL_bitCount : Int64 → qm_M → Option qm_R) (v0 : Nat) (m : qm_M) : Option qm_R :=
  qe_b (qm_isO v0 5) (
  qe_rI (f_JL_bitCount (m.2 v0 6) m) fun x1 m1 =>
  some (some (.int x1), m1))
set_option maxRecDepth 100000 in
theorem xg_Ps_headsShown_e {kp : pm_K} {d : Nat} {f_JL_bitCount : Int64 → qm_M → Option qm_R} (hT : qe_G kp d (T_Ps_headsShown f_JL_bitCount)) (v0 : Nat) (m : qm_M) : qe_J kp md_Ps_headsShown d (X_Ps_headsShown_e f_JL_bitCount v0 m) 0 [(0, .ref v0)] [] m := qe_run (B := []) (n := 1000) hT qe_B0 rfl
def F_Ps_headsShown (v0 : Nat) (m : qm_M) : Option qm_R := X_Ps_headsShown_e F_JL_bitCount v0 m
theorem fj_Ps_headsShown {kp : pm_K} {d : Nat} (hT : qe_G kp d (T_Ps_headsShown F_JL_bitCount)) (v0 : Nat) (m : qm_M) : qe_J kp md_Ps_headsShown d (F_Ps_headsShown v0 m) 0 [(0, .ref v0)] [] m := xg_Ps_headsShown_e hT v0 m
theorem fg_Ps_headsShown {kp : pm_K} (d : Nat) : qe_GE kp (d + 2) (86, 0, 5, 1, qw_r F_Ps_headsShown) := qe_entry (by decide +kernel) (qw_r_ok (d := d + 1) rfl rfl (fj_Ps_headsShown (qe_G1 (fg_JL_bitCount (d + 0)) qe_G0)))
/-! TurnField$Position.headsOfRow(I)I -/
noncomputable def T_Ps_headsOfRow : qe_T := []
def X_Ps_headsOfRow_e (v0 : Nat) (v1 : Int32) (m : qm_M) : Option qm_R :=
  qe_b (qm_isO v0 5) (
  some (some (.int (Int64.toInt32 ((qo_lushr (m.2 v0 6) ((6 : Int32) * v1)) &&& (63 : Int64)))), m))
set_option maxRecDepth 100000 in
theorem xg_Ps_headsOfRow_e {kp : pm_K} {d : Nat} (hT : qe_G kp d (T_Ps_headsOfRow)) (v0 : Nat) (v1 : Int32) (m : qm_M) : qe_J kp md_Ps_headsOfRow d (X_Ps_headsOfRow_e v0 v1 m) 0 [(0, .ref v0), (1, .int v1)] [] m := qe_run (B := []) (n := 1000) hT qe_B0 rfl
def F_Ps_headsOfRow (v0 : Nat) (v1 : Int32) (m : qm_M) : Option qm_R := X_Ps_headsOfRow_e v0 v1 m
theorem fj_Ps_headsOfRow {kp : pm_K} {d : Nat} (hT : qe_G kp d (T_Ps_headsOfRow)) (v0 : Nat) (v1 : Int32) (m : qm_M) : qe_J kp md_Ps_headsOfRow d (F_Ps_headsOfRow v0 v1 m) 0 [(0, .ref v0), (1, .int v1)] [] m := xg_Ps_headsOfRow_e hT v0 v1 m
theorem fg_Ps_headsOfRow {kp : pm_K} (d : Nat) : qe_GE kp (d + 1) (87, 0, 5, 1, qw_ri F_Ps_headsOfRow) := qe_entry (by decide +kernel) (qw_ri_ok (d := d + 0) rfl rfl (fj_Ps_headsOfRow qe_G0))
/-! TurnField$Position.rowsWithHeads()I -/
noncomputable def T_Ps_rowsWithHeads (f_Ps_headsOfRow : Nat → Int32 → qm_M → Option qm_R) : qe_T := [(87, 0, 5, 1, qw_ri f_Ps_headsOfRow)]
def X_Ps_rowsWithHeads_4 (f_Ps_headsOfRow : Nat → Int32 → qm_M → Option qm_R) (l4 : Nat → Int32 → Int32 → qm_M → Option qm_R) (v0 : Nat) (v1 : Int32) (v2 : Int32) (m : qm_M) : Option qm_R :=
  qe_b (qm_isO v0 5) (
  if v2 < (m.1 v0 0) then
    qe_b (qm_isO v0 5) (
    qe_rI (f_Ps_headsOfRow v0 v2 m) fun x1 m1 =>
    if x1 = 0 then
      l4 v0 (v1 ||| (0 : Int32)) (v2 + (1 : Int32)) m1
    else
      l4 v0 (v1 ||| (qo_ishl (1 : Int32) v2)) (v2 + (1 : Int32)) m1)
  else
    some (some (.int v1), m))
set_option maxRecDepth 100000 in
theorem xg_Ps_rowsWithHeads_4 {kp : pm_K} {d : Nat} {f_Ps_headsOfRow : Nat → Int32 → qm_M → Option qm_R} {l4 : Nat → Int32 → Int32 → qm_M → Option qm_R} (hT : qe_G kp d (T_Ps_rowsWithHeads f_Ps_headsOfRow)) (h4 : ∀ (v0 : Nat) (v1 : Int32) (v2 : Int32) (m : qm_M), qe_J kp md_Ps_rowsWithHeads d (l4 v0 v1 v2 m) 4 [(0, .ref v0), (1, .int v1), (2, .int v2)] [] m) (v0 : Nat) (v1 : Int32) (v2 : Int32) (m : qm_M) : qe_J kp md_Ps_rowsWithHeads d (X_Ps_rowsWithHeads_4 f_Ps_headsOfRow l4 v0 v1 v2 m) 4 [(0, .ref v0), (1, .int v1), (2, .int v2)] [] m := qe_run (B := [(4, [0, 1, 2], qp_rii_ l4)]) (n := 1000) hT (qe_B1 (qp_rii__ok h4) qe_B0) rfl
def L_Ps_rowsWithHeads_4 : Nat → Nat → Int32 → Int32 → qm_M → Option qm_R
  | 0, _, _, _, _ => none
  | n + 1, v0, v1, v2, m => X_Ps_rowsWithHeads_4 F_Ps_headsOfRow (L_Ps_rowsWithHeads_4 n) v0 v1 v2 m
theorem lg_Ps_rowsWithHeads_4 {kp : pm_K} {d : Nat} (hT : qe_G kp d (T_Ps_rowsWithHeads F_Ps_headsOfRow)) : ∀ (n : Nat) (v0 : Nat) (v1 : Int32) (v2 : Int32) (m : qm_M), qe_J kp md_Ps_rowsWithHeads d (L_Ps_rowsWithHeads_4 n v0 v1 v2 m) 4 [(0, .ref v0), (1, .int v1), (2, .int v2)] [] m
  | 0, v0, v1, v2, m => qe_none rfl
  | n + 1, v0, v1, v2, m => xg_Ps_rowsWithHeads_4 hT (lg_Ps_rowsWithHeads_4 hT n) v0 v1 v2 m
def X_Ps_rowsWithHeads_e (f_Ps_headsOfRow : Nat → Int32 → qm_M → Option qm_R) (l4 : Nat → Int32 → Int32 → qm_M → Option qm_R) (v0 : Nat) (m : qm_M) : Option qm_R :=
  l4 v0 (0 : Int32) (0 : Int32) m
set_option maxRecDepth 100000 in
theorem xg_Ps_rowsWithHeads_e {kp : pm_K} {d : Nat} {f_Ps_headsOfRow : Nat → Int32 → qm_M → Option qm_R} {l4 : Nat → Int32 → Int32 → qm_M → Option qm_R} (hT : qe_G kp d (T_Ps_rowsWithHeads f_Ps_headsOfRow)) (h4 : ∀ (v0 : Nat) (v1 : Int32) (v2 : Int32) (m : qm_M), qe_J kp md_Ps_rowsWithHeads d (l4 v0 v1 v2 m) 4 [(0, .ref v0), (1, .int v1), (2, .int v2)] [] m) (v0 : Nat) (m : qm_M) : qe_J kp md_Ps_rowsWithHeads d (X_Ps_rowsWithHeads_e f_Ps_headsOfRow l4 v0 m) 0 [(0, .ref v0)] [] m := qe_run (B := [(4, [0, 1, 2], qp_rii_ l4)]) (n := 1000) hT (qe_B1 (qp_rii__ok h4) qe_B0) rfl
def F_Ps_rowsWithHeads (v0 : Nat) (m : qm_M) : Option qm_R := X_Ps_rowsWithHeads_e F_Ps_headsOfRow (L_Ps_rowsWithHeads_4 1000000) v0 m
theorem fj_Ps_rowsWithHeads {kp : pm_K} {d : Nat} (hT : qe_G kp d (T_Ps_rowsWithHeads F_Ps_headsOfRow)) (v0 : Nat) (m : qm_M) : qe_J kp md_Ps_rowsWithHeads d (F_Ps_rowsWithHeads v0 m) 0 [(0, .ref v0)] [] m := xg_Ps_rowsWithHeads_e hT (lg_Ps_rowsWithHeads_4 hT 1000000) v0 m
theorem fg_Ps_rowsWithHeads {kp : pm_K} (d : Nat) : qe_GE kp (d + 2) (88, 0, 5, 1, qw_r F_Ps_rowsWithHeads) := qe_entry (by decide +kernel) (qw_r_ok (d := d + 1) rfl rfl (fj_Ps_rowsWithHeads (qe_G1 (fg_Ps_headsOfRow (d + 0)) qe_G0)))
/-! TurnField$Position.columnsWithHeads()I -/
noncomputable def T_Ps_columnsWithHeads (f_Ps_headsOfRow : Nat → Int32 → qm_M → Option qm_R) : qe_T := [(87, 0, 5, 1, qw_ri f_Ps_headsOfRow)]
def X_Ps_columnsWithHeads_4 (f_Ps_headsOfRow : Nat → Int32 → qm_M → Option qm_R) (l4 : Nat → Int32 → Int32 → qm_M → Option qm_R) (v0 : Nat) (v1 : Int32) (v2 : Int32) (m : qm_M) : Option qm_R :=
  qe_b (qm_isO v0 5) (
  if v2 < (m.1 v0 0) then
    qe_b (qm_isO v0 5) (
    qe_rI (f_Ps_headsOfRow v0 v2 m) fun x1 m1 =>
    l4 v0 (v1 ||| x1) (v2 + (1 : Int32)) m1)
  else
    some (some (.int v1), m))
set_option maxRecDepth 100000 in
theorem xg_Ps_columnsWithHeads_4 {kp : pm_K} {d : Nat} {f_Ps_headsOfRow : Nat → Int32 → qm_M → Option qm_R} {l4 : Nat → Int32 → Int32 → qm_M → Option qm_R} (hT : qe_G kp d (T_Ps_columnsWithHeads f_Ps_headsOfRow)) (h4 : ∀ (v0 : Nat) (v1 : Int32) (v2 : Int32) (m : qm_M), qe_J kp md_Ps_columnsWithHeads d (l4 v0 v1 v2 m) 4 [(0, .ref v0), (1, .int v1), (2, .int v2)] [] m) (v0 : Nat) (v1 : Int32) (v2 : Int32) (m : qm_M) : qe_J kp md_Ps_columnsWithHeads d (X_Ps_columnsWithHeads_4 f_Ps_headsOfRow l4 v0 v1 v2 m) 4 [(0, .ref v0), (1, .int v1), (2, .int v2)] [] m := qe_run (B := [(4, [0, 1, 2], qp_rii_ l4)]) (n := 1000) hT (qe_B1 (qp_rii__ok h4) qe_B0) rfl
def L_Ps_columnsWithHeads_4 : Nat → Nat → Int32 → Int32 → qm_M → Option qm_R
  | 0, _, _, _, _ => none
  | n + 1, v0, v1, v2, m => X_Ps_columnsWithHeads_4 F_Ps_headsOfRow (L_Ps_columnsWithHeads_4 n) v0 v1 v2 m
theorem lg_Ps_columnsWithHeads_4 {kp : pm_K} {d : Nat} (hT : qe_G kp d (T_Ps_columnsWithHeads F_Ps_headsOfRow)) : ∀ (n : Nat) (v0 : Nat) (v1 : Int32) (v2 : Int32) (m : qm_M), qe_J kp md_Ps_columnsWithHeads d (L_Ps_columnsWithHeads_4 n v0 v1 v2 m) 4 [(0, .ref v0), (1, .int v1), (2, .int v2)] [] m
  | 0, v0, v1, v2, m => qe_none rfl
  | n + 1, v0, v1, v2, m => xg_Ps_columnsWithHeads_4 hT (lg_Ps_columnsWithHeads_4 hT n) v0 v1 v2 m
def X_Ps_columnsWithHeads_e (f_Ps_headsOfRow : Nat → Int32 → qm_M → Option qm_R) (l4 : Nat → Int32 → Int32 → qm_M → Option qm_R) (v0 : Nat) (m : qm_M) : Option qm_R :=
  l4 v0 (0 : Int32) (0 : Int32) m
set_option maxRecDepth 100000 in
theorem xg_Ps_columnsWithHeads_e {kp : pm_K} {d : Nat} {f_Ps_headsOfRow : Nat → Int32 → qm_M → Option qm_R} {l4 : Nat → Int32 → Int32 → qm_M → Option qm_R} (hT : qe_G kp d (T_Ps_columnsWithHeads f_Ps_headsOfRow)) (h4 : ∀ (v0 : Nat) (v1 : Int32) (v2 : Int32) (m : qm_M), qe_J kp md_Ps_columnsWithHeads d (l4 v0 v1 v2 m) 4 [(0, .ref v0), (1, .int v1), (2, .int v2)] [] m) (v0 : Nat) (m : qm_M) : qe_J kp md_Ps_columnsWithHeads d (X_Ps_columnsWithHeads_e f_Ps_headsOfRow l4 v0 m) 0 [(0, .ref v0)] [] m := qe_run (B := [(4, [0, 1, 2], qp_rii_ l4)]) (n := 1000) hT (qe_B1 (qp_rii__ok h4) qe_B0) rfl
def F_Ps_columnsWithHeads (v0 : Nat) (m : qm_M) : Option qm_R := X_Ps_columnsWithHeads_e F_Ps_headsOfRow (L_Ps_columnsWithHeads_4 1000000) v0 m
theorem fj_Ps_columnsWithHeads {kp : pm_K} {d : Nat} (hT : qe_G kp d (T_Ps_columnsWithHeads F_Ps_headsOfRow)) (v0 : Nat) (m : qm_M) : qe_J kp md_Ps_columnsWithHeads d (F_Ps_columnsWithHeads v0 m) 0 [(0, .ref v0)] [] m := xg_Ps_columnsWithHeads_e hT (lg_Ps_columnsWithHeads_4 hT 1000000) v0 m
theorem fg_Ps_columnsWithHeads {kp : pm_K} (d : Nat) : qe_GE kp (d + 2) (89, 0, 5, 1, qw_r F_Ps_columnsWithHeads) := qe_entry (by decide +kernel) (qw_r_ok (d := d + 1) rfl rfl (fj_Ps_columnsWithHeads (qe_G1 (fg_Ps_headsOfRow (d + 0)) qe_G0)))
/-! TurnField$Position.rulesKey()I -/
noncomputable def T_Ps_rulesKey : qe_T := []
def X_Ps_rulesKey_e (v0 : Nat) (m : qm_M) : Option qm_R :=
  qe_b (qm_isO v0 5) (
  qe_b (qm_isO v0 5) (
  let x1 : Int32 := ((qo_ishl (m.1 v0 0) (3 : Int32)) ||| (m.1 v0 1))
  qe_b (qm_isO v0 5) (
  qe_b (qm_isO v0 5) (
  let x2 : Int32 := ((qo_ishl (m.1 v0 2) (2 : Int32)) ||| (m.1 v0 3))
  qe_b (qm_isO v0 5) (
  qe_b (qm_isO v0 5) (
  some (some (.int ((((qo_ishl x1 (12 : Int32)) ||| (qo_ishl x2 (8 : Int32))) ||| (qo_ishl (m.1 v0 4) (4 : Int32))) ||| (m.1 v0 5))), m)))))))
set_option maxRecDepth 100000 in
theorem xg_Ps_rulesKey_e {kp : pm_K} {d : Nat} (hT : qe_G kp d (T_Ps_rulesKey)) (v0 : Nat) (m : qm_M) : qe_J kp md_Ps_rulesKey d (X_Ps_rulesKey_e v0 m) 0 [(0, .ref v0)] [] m := qe_run (B := []) (n := 1000) hT qe_B0 rfl
def F_Ps_rulesKey (v0 : Nat) (m : qm_M) : Option qm_R := X_Ps_rulesKey_e v0 m
theorem fj_Ps_rulesKey {kp : pm_K} {d : Nat} (hT : qe_G kp d (T_Ps_rulesKey)) (v0 : Nat) (m : qm_M) : qe_J kp md_Ps_rulesKey d (F_Ps_rulesKey v0 m) 0 [(0, .ref v0)] [] m := xg_Ps_rulesKey_e hT v0 m
theorem fg_Ps_rulesKey {kp : pm_K} (d : Nat) : qe_GE kp (d + 1) (90, 0, 5, 1, qw_r F_Ps_rulesKey) := qe_entry (by decide +kernel) (qw_r_ok (d := d + 0) rfl rfl (fj_Ps_rulesKey qe_G0))
/-! TurnField$Position.hasEntry(II)Z -/
noncomputable def T_Ps_hasEntry : qe_T := []
def X_Ps_hasEntry_e (v0 : Nat) (v1 : Int32) (v2 : Int32) (m : qm_M) : Option qm_R :=
  if v1 < 0 then
    some (some (.int (0 : Int32)), m)
  else
    qe_b (qm_isO v0 5) (
    if v1 < (m.1 v0 8) then
      if v2 < 0 then
        some (some (.int (0 : Int32)), m)
      else
        qe_b (qm_isO v0 5) (
        if v2 < (m.1 v0 9) then
          some (some (.int (1 : Int32)), m)
        else
          some (some (.int (0 : Int32)), m))
    else
      some (some (.int (0 : Int32)), m))
set_option maxRecDepth 100000 in
theorem xg_Ps_hasEntry_e {kp : pm_K} {d : Nat} (hT : qe_G kp d (T_Ps_hasEntry)) (v0 : Nat) (v1 : Int32) (v2 : Int32) (m : qm_M) : qe_J kp md_Ps_hasEntry d (X_Ps_hasEntry_e v0 v1 v2 m) 0 [(0, .ref v0), (1, .int v1), (2, .int v2)] [] m := qe_run (B := []) (n := 1000) hT qe_B0 rfl
def F_Ps_hasEntry (v0 : Nat) (v1 : Int32) (v2 : Int32) (m : qm_M) : Option qm_R := X_Ps_hasEntry_e v0 v1 v2 m
theorem fj_Ps_hasEntry {kp : pm_K} {d : Nat} (hT : qe_G kp d (T_Ps_hasEntry)) (v0 : Nat) (v1 : Int32) (v2 : Int32) (m : qm_M) : qe_J kp md_Ps_hasEntry d (F_Ps_hasEntry v0 v1 v2 m) 0 [(0, .ref v0), (1, .int v1), (2, .int v2)] [] m := xg_Ps_hasEntry_e hT v0 v1 v2 m
theorem fg_Ps_hasEntry {kp : pm_K} (d : Nat) : qe_GE kp (d + 1) (91, 0, 5, 1, qw_rii F_Ps_hasEntry) := qe_entry (by decide +kernel) (qw_rii_ok (d := d + 0) rfl rfl (fj_Ps_hasEntry qe_G0))
/-! TurnField$Position.entryAt(II)J -/
noncomputable def T_Ps_entryAt (f_Ps_hasEntry : Nat → Int32 → Int32 → qm_M → Option qm_R) : qe_T := [(91, 0, 5, 1, qw_rii f_Ps_hasEntry)]
def X_Ps_entryAt_e (f_Ps_hasEntry : Nat → Int32 → Int32 → qm_M → Option qm_R) (v0 : Nat) (v1 : Int32) (v2 : Int32) (m : qm_M) : Option qm_R :=
  qe_b (qm_isO v0 5) (
  qe_rI (f_Ps_hasEntry v0 v1 v2 m) fun x1 m1 =>
  if x1 = 0 then
    some (some (.long (0 : Int64)), m1)
  else
    qe_b (qm_isO v0 5) (
    qe_b (qm_isA (qm_rf v0 10) 1) (
    qe_b (qm_in (((4 : Int32) * v1) + v2) (qm_n (qm_rf v0 10))) (
    some (some (.long (qm_gL m1 (qm_rf v0 10) (Int32.toNatClampNeg (((4 : Int32) * v1) + v2)))), m1)))))
set_option maxRecDepth 100000 in
theorem xg_Ps_entryAt_e {kp : pm_K} {d : Nat} {f_Ps_hasEntry : Nat → Int32 → Int32 → qm_M → Option qm_R} (hT : qe_G kp d (T_Ps_entryAt f_Ps_hasEntry)) (v0 : Nat) (v1 : Int32) (v2 : Int32) (m : qm_M) : qe_J kp md_Ps_entryAt d (X_Ps_entryAt_e f_Ps_hasEntry v0 v1 v2 m) 0 [(0, .ref v0), (1, .int v1), (2, .int v2)] [] m := qe_run (B := []) (n := 1000) hT qe_B0 rfl
def F_Ps_entryAt (v0 : Nat) (v1 : Int32) (v2 : Int32) (m : qm_M) : Option qm_R := X_Ps_entryAt_e F_Ps_hasEntry v0 v1 v2 m
theorem fj_Ps_entryAt {kp : pm_K} {d : Nat} (hT : qe_G kp d (T_Ps_entryAt F_Ps_hasEntry)) (v0 : Nat) (v1 : Int32) (v2 : Int32) (m : qm_M) : qe_J kp md_Ps_entryAt d (F_Ps_entryAt v0 v1 v2 m) 0 [(0, .ref v0), (1, .int v1), (2, .int v2)] [] m := xg_Ps_entryAt_e hT v0 v1 v2 m
theorem fg_Ps_entryAt {kp : pm_K} (d : Nat) : qe_GE kp (d + 2) (92, 0, 5, 2, qw_rii F_Ps_entryAt) := qe_entry (by decide +kernel) (qw_rii_ok (d := d + 1) rfl rfl (fj_Ps_entryAt (qe_G1 (fg_Ps_hasEntry (d + 0)) qe_G0)))
/-! TurnField$Position.setEntry(IIJ)V -/
noncomputable def T_Ps_setEntry (f_Ps_hasEntry : Nat → Int32 → Int32 → qm_M → Option qm_R) : qe_T := [(91, 0, 5, 1, qw_rii f_Ps_hasEntry)]
def X_Ps_setEntry_e (f_Ps_hasEntry : Nat → Int32 → Int32 → qm_M → Option qm_R) (v0 : Nat) (v1 : Int32) (v2 : Int32) (v3 : Int64) (m : qm_M) : Option qm_R :=
  qe_b (qm_isO v0 5) (
  qe_rI (f_Ps_hasEntry v0 v1 v2 m) fun x1 m1 =>
  if x1 = 0 then
    some (none, m1)
  else
    qe_b (qm_isO v0 5) (
    qe_b (qm_isL (qm_rf v0 10) 1) (
    qe_b (qm_in (((4 : Int32) * v1) + v2) (qm_nl (qm_rf v0 10))) (
    let m2 : qm_M := qm_sL m1 (qm_rf v0 10) (Int32.toNatClampNeg (((4 : Int32) * v1) + v2)) v3
    some (none, m2)))))
set_option maxRecDepth 100000 in
theorem xg_Ps_setEntry_e {kp : pm_K} {d : Nat} {f_Ps_hasEntry : Nat → Int32 → Int32 → qm_M → Option qm_R} (hT : qe_G kp d (T_Ps_setEntry f_Ps_hasEntry)) (v0 : Nat) (v1 : Int32) (v2 : Int32) (v3 : Int64) (m : qm_M) : qe_J kp md_Ps_setEntry d (X_Ps_setEntry_e f_Ps_hasEntry v0 v1 v2 v3 m) 0 [(0, .ref v0), (1, .int v1), (2, .int v2), (3, .long v3)] [] m := qe_run (B := []) (n := 1000) hT qe_B0 rfl
def F_Ps_setEntry (v0 : Nat) (v1 : Int32) (v2 : Int32) (v3 : Int64) (m : qm_M) : Option qm_R := X_Ps_setEntry_e F_Ps_hasEntry v0 v1 v2 v3 m
theorem fj_Ps_setEntry {kp : pm_K} {d : Nat} (hT : qe_G kp d (T_Ps_setEntry F_Ps_hasEntry)) (v0 : Nat) (v1 : Int32) (v2 : Int32) (v3 : Int64) (m : qm_M) : qe_J kp md_Ps_setEntry d (F_Ps_setEntry v0 v1 v2 v3 m) 0 [(0, .ref v0), (1, .int v1), (2, .int v2), (3, .long v3)] [] m := xg_Ps_setEntry_e hT v0 v1 v2 v3 m
theorem fg_Ps_setEntry {kp : pm_K} (d : Nat) : qe_GE kp (d + 2) (93, 0, 5, 0, qw_riil F_Ps_setEntry) := qe_entry (by decide +kernel) (qw_riil_ok (d := d + 1) rfl rfl (fj_Ps_setEntry (qe_G1 (fg_Ps_hasEntry (d + 0)) qe_G0)))
/-! TurnField$Position.clearGrid(II)V -/
noncomputable def T_Ps_clearGrid : qe_T := []
def X_Ps_clearGrid_12 (l12 : Nat → Int32 → qm_M → Option qm_R) (v0 : Nat) (v3 : Int32) (m : qm_M) : Option qm_R :=
  qe_b (qm_isO v0 5) (
  qe_b (Nat.ble (qm_gk (qm_rf v0 10)).1 5) (
  if v3 < (Int32.ofNat (qm_n (qm_rf v0 10))) then
    qe_b (qm_isO v0 5) (
    qe_b (qm_isL (qm_rf v0 10) 1) (
    qe_b (qm_in v3 (qm_nl (qm_rf v0 10))) (
    let m1 : qm_M := qm_sL m (qm_rf v0 10) (Int32.toNatClampNeg v3) (0 : Int64)
    l12 v0 (v3 + (1 : Int32)) m1)))
  else
    some (none, m)))
set_option maxRecDepth 100000 in
theorem xg_Ps_clearGrid_12 {kp : pm_K} {d : Nat} {l12 : Nat → Int32 → qm_M → Option qm_R} (hT : qe_G kp d (T_Ps_clearGrid)) (h12 : ∀ (v0 : Nat) (v3 : Int32) (m : qm_M), qe_J kp md_Ps_clearGrid d (l12 v0 v3 m) 12 [(0, .ref v0), (3, .int v3)] [] m) (v0 : Nat) (v3 : Int32) (m : qm_M) : qe_J kp md_Ps_clearGrid d (X_Ps_clearGrid_12 l12 v0 v3 m) 12 [(0, .ref v0), (3, .int v3)] [] m := qe_run (B := [(12, [0, 3], qp_ri_ l12)]) (n := 1000) hT (qe_B1 (qp_ri__ok h12) qe_B0) rfl
def L_Ps_clearGrid_12 : Nat → Nat → Int32 → qm_M → Option qm_R
  | 0, _, _, _ => none
  | n + 1, v0, v3, m => X_Ps_clearGrid_12 (L_Ps_clearGrid_12 n) v0 v3 m
theorem lg_Ps_clearGrid_12 {kp : pm_K} {d : Nat} (hT : qe_G kp d (T_Ps_clearGrid)) : ∀ (n : Nat) (v0 : Nat) (v3 : Int32) (m : qm_M), qe_J kp md_Ps_clearGrid d (L_Ps_clearGrid_12 n v0 v3 m) 12 [(0, .ref v0), (3, .int v3)] [] m
  | 0, v0, v3, m => qe_none rfl
  | n + 1, v0, v3, m => xg_Ps_clearGrid_12 hT (lg_Ps_clearGrid_12 hT n) v0 v3 m
def X_Ps_clearGrid_e (l12 : Nat → Int32 → qm_M → Option qm_R) (v0 : Nat) (v1 : Int32) (v2 : Int32) (m : qm_M) : Option qm_R :=
  qe_b (qm_isO v0 5) (
  let m1 : qm_M := qm_sI m v0 8 v1
  qe_b (qm_isO v0 5) (
  let m2 : qm_M := qm_sI m1 v0 9 v2
  l12 v0 (0 : Int32) m2))
set_option maxRecDepth 100000 in
theorem xg_Ps_clearGrid_e {kp : pm_K} {d : Nat} {l12 : Nat → Int32 → qm_M → Option qm_R} (hT : qe_G kp d (T_Ps_clearGrid)) (h12 : ∀ (v0 : Nat) (v3 : Int32) (m : qm_M), qe_J kp md_Ps_clearGrid d (l12 v0 v3 m) 12 [(0, .ref v0), (3, .int v3)] [] m) (v0 : Nat) (v1 : Int32) (v2 : Int32) (m : qm_M) : qe_J kp md_Ps_clearGrid d (X_Ps_clearGrid_e l12 v0 v1 v2 m) 0 [(0, .ref v0), (1, .int v1), (2, .int v2)] [] m := qe_run (B := [(12, [0, 3], qp_ri_ l12)]) (n := 1000) hT (qe_B1 (qp_ri__ok h12) qe_B0) rfl
def F_Ps_clearGrid (v0 : Nat) (v1 : Int32) (v2 : Int32) (m : qm_M) : Option qm_R := X_Ps_clearGrid_e (L_Ps_clearGrid_12 1000000) v0 v1 v2 m
theorem fj_Ps_clearGrid {kp : pm_K} {d : Nat} (hT : qe_G kp d (T_Ps_clearGrid)) (v0 : Nat) (v1 : Int32) (v2 : Int32) (m : qm_M) : qe_J kp md_Ps_clearGrid d (F_Ps_clearGrid v0 v1 v2 m) 0 [(0, .ref v0), (1, .int v1), (2, .int v2)] [] m := xg_Ps_clearGrid_e hT (lg_Ps_clearGrid_12 hT 1000000) v0 v1 v2 m
theorem fg_Ps_clearGrid {kp : pm_K} (d : Nat) : qe_GE kp (d + 1) (94, 0, 5, 0, qw_rii F_Ps_clearGrid) := qe_entry (by decide +kernel) (qw_rii_ok (d := d + 0) rfl rfl (fj_Ps_clearGrid qe_G0))
/-! TurnField$Rule.areNear(I)Z -/
noncomputable def T_Ru_areNear : qe_T := []
def X_Ru_areNear_e (v0 : Nat) (v1 : Int32) (m : qm_M) : Option qm_R :=
  qe_b (qm_isO v0 6) (
  if (qo_ishl (v1 &&& (-v1)) (m.1 v0 5)) < (v1 ^^^ (v1 &&& (-v1))) then
    some (some (.int (0 : Int32)), m)
  else
    some (some (.int (1 : Int32)), m))
set_option maxRecDepth 100000 in
theorem xg_Ru_areNear_e {kp : pm_K} {d : Nat} (hT : qe_G kp d (T_Ru_areNear)) (v0 : Nat) (v1 : Int32) (m : qm_M) : qe_J kp md_Ru_areNear d (X_Ru_areNear_e v0 v1 m) 0 [(0, .ref v0), (1, .int v1)] [] m := qe_run (B := []) (n := 1000) hT qe_B0 rfl
def F_Ru_areNear (v0 : Nat) (v1 : Int32) (m : qm_M) : Option qm_R := X_Ru_areNear_e v0 v1 m
theorem fj_Ru_areNear {kp : pm_K} {d : Nat} (hT : qe_G kp d (T_Ru_areNear)) (v0 : Nat) (v1 : Int32) (m : qm_M) : qe_J kp md_Ru_areNear d (F_Ru_areNear v0 v1 m) 0 [(0, .ref v0), (1, .int v1)] [] m := xg_Ru_areNear_e hT v0 v1 m
theorem fg_Ru_areNear {kp : pm_K} (d : Nat) : qe_GE kp (d + 1) (100, 0, 6, 1, qw_ri F_Ru_areNear) := qe_entry (by decide +kernel) (qw_ri_ok (d := d + 0) rfl rfl (fj_Ru_areNear qe_G0))
/-! TurnField$Rule.allows(I)Z -/
noncomputable def T_Ru_allows (f_JI_bitCount : Int32 → qm_M → Option qm_R) (f_Ru_areNear : Nat → Int32 → qm_M → Option qm_R) : qe_T := [(318, 1, 0, 1, qw_i f_JI_bitCount), (100, 0, 6, 1, qw_ri f_Ru_areNear)]
def X_Ru_allows_e (f_JI_bitCount : Int32 → qm_M → Option qm_R) (f_Ru_areNear : Nat → Int32 → qm_M → Option qm_R) (v0 : Nat) (v1 : Int32) (m : qm_M) : Option qm_R :=
  qe_rI (f_JI_bitCount v1 m) fun x1 m1 =>
  qe_b (qm_isO v0 6) (
  if Int32.toInt (m1.1 v0 4) = 0 then
    if x1 < (1 : Int32) then
      some (some (.int (0 : Int32)), m1)
    else
      qe_b (qm_isO v0 6) (
      if (m1.1 v0 5) < x1 then
        some (some (.int (0 : Int32)), m1)
      else
        some (some (.int (1 : Int32)), m1))
  else
   if Int32.toInt (m1.1 v0 4) = 1 then
     qe_b (qm_isO v0 6) (
     if x1 = (m1.1 v0 5) then
       some (some (.int (1 : Int32)), m1)
     else
       some (some (.int (0 : Int32)), m1))
   else
    if Int32.toInt (m1.1 v0 4) = 2 then
      if x1 < (1 : Int32) then
        some (some (.int (0 : Int32)), m1)
      else
        qe_b (qm_isO v0 6) (
        if (m1.1 v0 5) < x1 then
          some (some (.int (0 : Int32)), m1)
        else
          if (v1 &&& (v1 + (v1 &&& (-v1)))) = 0 then
            some (some (.int (1 : Int32)), m1)
          else
            some (some (.int (0 : Int32)), m1))
    else
      if x1 = (1 : Int32) then
        some (some (.int (1 : Int32)), m1)
      else
        if x1 = (2 : Int32) then
          qe_b (qm_isO v0 6) (
          qe_rI (f_Ru_areNear v0 v1 m1) fun x2 m2 =>
          if x2 = 0 then
            some (some (.int (0 : Int32)), m2)
          else
            some (some (.int (1 : Int32)), m2))
        else
          some (some (.int (0 : Int32)), m1))
set_option maxRecDepth 100000 in
theorem xg_Ru_allows_e {kp : pm_K} {d : Nat} {f_JI_bitCount : Int32 → qm_M → Option qm_R} {f_Ru_areNear : Nat → Int32 → qm_M → Option qm_R} (hT : qe_G kp d (T_Ru_allows f_JI_bitCount f_Ru_areNear)) (v0 : Nat) (v1 : Int32) (m : qm_M) : qe_J kp md_Ru_allows d (X_Ru_allows_e f_JI_bitCount f_Ru_areNear v0 v1 m) 0 [(0, .ref v0), (1, .int v1)] [] m := qe_run (B := []) (n := 1000) hT qe_B0 rfl
def F_Ru_allows (v0 : Nat) (v1 : Int32) (m : qm_M) : Option qm_R := X_Ru_allows_e F_JI_bitCount F_Ru_areNear v0 v1 m
theorem fj_Ru_allows {kp : pm_K} {d : Nat} (hT : qe_G kp d (T_Ru_allows F_JI_bitCount F_Ru_areNear)) (v0 : Nat) (v1 : Int32) (m : qm_M) : qe_J kp md_Ru_allows d (F_Ru_allows v0 v1 m) 0 [(0, .ref v0), (1, .int v1)] [] m := xg_Ru_allows_e hT v0 v1 m
theorem fg_Ru_allows {kp : pm_K} (d : Nat) : qe_GE kp (d + 2) (99, 0, 6, 1, qw_ri F_Ru_allows) := qe_entry (by decide +kernel) (qw_ri_ok (d := d + 1) rfl rfl (fj_Ru_allows (qe_G1 (fg_JI_bitCount (d + 0)) (qe_G1 (fg_Ru_areNear (d + 0)) qe_G0))))
/-! TurnField$Rule.leastUnmet()I -/
noncomputable def T_Ru_leastUnmet : qe_T := []
def X_Ru_leastUnmet_2 (l2 : Nat → Int32 → qm_M → Option qm_R) (v0 : Nat) (v1 : Int32) (m : qm_M) : Option qm_R :=
  if v1 < (4096 : Int32) then
    qe_b (qm_isO v0 6) (
    qe_b (qm_isA (qm_rf v0 3) 1) (
    qe_b (qm_in (qo_ishr v1 (6 : Int32)) (qm_n (qm_rf v0 3))) (
    if (lg_cmp ((qo_lushr (qm_gL m (qm_rf v0 3) (Int32.toNatClampNeg (qo_ishr v1 (6 : Int32)))) (v1 &&& (63 : Int32))) &&& (1 : Int64)) (0 : Int64)) = 0 then
      some (some (.int v1), m)
    else
      l2 v0 (v1 + (1 : Int32)) m)))
  else
    some (some (.int (0 : Int32)), m)
set_option maxRecDepth 100000 in
theorem xg_Ru_leastUnmet_2 {kp : pm_K} {d : Nat} {l2 : Nat → Int32 → qm_M → Option qm_R} (hT : qe_G kp d (T_Ru_leastUnmet)) (h2 : ∀ (v0 : Nat) (v1 : Int32) (m : qm_M), qe_J kp md_Ru_leastUnmet d (l2 v0 v1 m) 2 [(0, .ref v0), (1, .int v1)] [] m) (v0 : Nat) (v1 : Int32) (m : qm_M) : qe_J kp md_Ru_leastUnmet d (X_Ru_leastUnmet_2 l2 v0 v1 m) 2 [(0, .ref v0), (1, .int v1)] [] m := qe_run (B := [(2, [0, 1], qp_ri_ l2)]) (n := 1000) hT (qe_B1 (qp_ri__ok h2) qe_B0) rfl
def L_Ru_leastUnmet_2 : Nat → Nat → Int32 → qm_M → Option qm_R
  | 0, _, _, _ => none
  | n + 1, v0, v1, m => X_Ru_leastUnmet_2 (L_Ru_leastUnmet_2 n) v0 v1 m
theorem lg_Ru_leastUnmet_2 {kp : pm_K} {d : Nat} (hT : qe_G kp d (T_Ru_leastUnmet)) : ∀ (n : Nat) (v0 : Nat) (v1 : Int32) (m : qm_M), qe_J kp md_Ru_leastUnmet d (L_Ru_leastUnmet_2 n v0 v1 m) 2 [(0, .ref v0), (1, .int v1)] [] m
  | 0, v0, v1, m => qe_none rfl
  | n + 1, v0, v1, m => xg_Ru_leastUnmet_2 hT (lg_Ru_leastUnmet_2 hT n) v0 v1 m
def X_Ru_leastUnmet_e (l2 : Nat → Int32 → qm_M → Option qm_R) (v0 : Nat) (m : qm_M) : Option qm_R :=
  l2 v0 (0 : Int32) m
set_option maxRecDepth 100000 in
theorem xg_Ru_leastUnmet_e {kp : pm_K} {d : Nat} {l2 : Nat → Int32 → qm_M → Option qm_R} (hT : qe_G kp d (T_Ru_leastUnmet)) (h2 : ∀ (v0 : Nat) (v1 : Int32) (m : qm_M), qe_J kp md_Ru_leastUnmet d (l2 v0 v1 m) 2 [(0, .ref v0), (1, .int v1)] [] m) (v0 : Nat) (m : qm_M) : qe_J kp md_Ru_leastUnmet d (X_Ru_leastUnmet_e l2 v0 m) 0 [(0, .ref v0)] [] m := qe_run (B := [(2, [0, 1], qp_ri_ l2)]) (n := 1000) hT (qe_B1 (qp_ri__ok h2) qe_B0) rfl
def F_Ru_leastUnmet (v0 : Nat) (m : qm_M) : Option qm_R := X_Ru_leastUnmet_e (L_Ru_leastUnmet_2 1000000) v0 m
theorem fj_Ru_leastUnmet {kp : pm_K} {d : Nat} (hT : qe_G kp d (T_Ru_leastUnmet)) (v0 : Nat) (m : qm_M) : qe_J kp md_Ru_leastUnmet d (F_Ru_leastUnmet v0 m) 0 [(0, .ref v0)] [] m := xg_Ru_leastUnmet_e hT (lg_Ru_leastUnmet_2 hT 1000000) v0 m
theorem fg_Ru_leastUnmet {kp : pm_K} (d : Nat) : qe_GE kp (d + 1) (98, 0, 6, 1, qw_r F_Ru_leastUnmet) := qe_entry (by decide +kernel) (qw_r_ok (d := d + 0) rfl rfl (fj_Ru_leastUnmet qe_G0))
/-! TurnField$Rule.weigh(I)V -/
noncomputable def T_Ru_weigh (f_Ru_allows : Nat → Int32 → qm_M → Option qm_R) (f_Ru_leastUnmet : Nat → qm_M → Option qm_R) : qe_T := [(99, 0, 6, 1, qw_ri f_Ru_allows), (98, 0, 6, 1, qw_r f_Ru_leastUnmet)]
def X_Ru_weigh_111 (f_Ru_allows : Nat → Int32 → qm_M → Option qm_R) (f_Ru_leastUnmet : Nat → qm_M → Option qm_R) (l111 : Nat → Int32 → Int32 → Int32 → qm_M → Option qm_R) (v0 : Nat) (v1 : Int32) (v2 : Int32) (v3 : Int32) (m : qm_M) : Option qm_R :=
  if v3 < v2 then
    if v1 < (11 : Int32) then
      qe_b (qm_isO v0 6) (
      qe_b (qm_isO v0 6) (
      qe_b (qm_isL (qm_rf v0 2) 0) (
      qe_b (qm_in v3 (qm_nl (qm_rf v0 2))) (
      qe_b (qm_isO v0 6) (
      qe_b (qm_isL (qm_rf v0 0) 0) (
      qe_b (qm_in v1 (qm_nl (qm_rf v0 0))) (
      qe_b (qm_isL (qm_rf v0 2) 0) (
      qe_b (qm_in (v2 ||| v3) (qm_nl (qm_rf v0 2))) (
      let m1 : qm_M := qm_sI m (qm_rf v0 2) (Int32.toNatClampNeg (v2 ||| v3)) ((m.1 (qm_rf v0 2) (Int32.toNatClampNeg v3)) ^^^ (m.1 (qm_rf v0 0) (Int32.toNatClampNeg v1)))
      l111 v0 v1 v2 (v3 + (1 : Int32)) m1)))))))))
    else
      some (none, m)
  else
    some (none, m)
set_option maxRecDepth 100000 in
theorem xg_Ru_weigh_111 {kp : pm_K} {d : Nat} {f_Ru_allows : Nat → Int32 → qm_M → Option qm_R} {f_Ru_leastUnmet : Nat → qm_M → Option qm_R} {l111 : Nat → Int32 → Int32 → Int32 → qm_M → Option qm_R} (hT : qe_G kp d (T_Ru_weigh f_Ru_allows f_Ru_leastUnmet)) (h111 : ∀ (v0 : Nat) (v1 : Int32) (v2 : Int32) (v3 : Int32) (m : qm_M), qe_J kp md_Ru_weigh d (l111 v0 v1 v2 v3 m) 111 [(0, .ref v0), (1, .int v1), (2, .int v2), (3, .int v3)] [] m) (v0 : Nat) (v1 : Int32) (v2 : Int32) (v3 : Int32) (m : qm_M) : qe_J kp md_Ru_weigh d (X_Ru_weigh_111 f_Ru_allows f_Ru_leastUnmet l111 v0 v1 v2 v3 m) 111 [(0, .ref v0), (1, .int v1), (2, .int v2), (3, .int v3)] [] m := qe_run (B := [(111, [0, 1, 2, 3], qp_riii_ l111)]) (n := 1000) hT (qe_B1 (qp_riii__ok h111) qe_B0) rfl
def L_Ru_weigh_111 : Nat → Nat → Int32 → Int32 → Int32 → qm_M → Option qm_R
  | 0, _, _, _, _, _ => none
  | n + 1, v0, v1, v2, v3, m => X_Ru_weigh_111 F_Ru_allows F_Ru_leastUnmet (L_Ru_weigh_111 n) v0 v1 v2 v3 m
theorem lg_Ru_weigh_111 {kp : pm_K} {d : Nat} (hT : qe_G kp d (T_Ru_weigh F_Ru_allows F_Ru_leastUnmet)) : ∀ (n : Nat) (v0 : Nat) (v1 : Int32) (v2 : Int32) (v3 : Int32) (m : qm_M), qe_J kp md_Ru_weigh d (L_Ru_weigh_111 n v0 v1 v2 v3 m) 111 [(0, .ref v0), (1, .int v1), (2, .int v2), (3, .int v3)] [] m
  | 0, v0, v1, v2, v3, m => qe_none rfl
  | n + 1, v0, v1, v2, v3, m => xg_Ru_weigh_111 hT (lg_Ru_weigh_111 hT n) v0 v1 v2 v3 m
def X_Ru_weigh_37 (f_Ru_allows : Nat → Int32 → qm_M → Option qm_R) (f_Ru_leastUnmet : Nat → qm_M → Option qm_R) (l37 : Nat → Int32 → Int32 → Int32 → qm_M → Option qm_R) (l111 : Nat → Int32 → Int32 → Int32 → qm_M → Option qm_R) (v0 : Nat) (v1 : Int32) (v2 : Int32) (v3 : Int32) (m : qm_M) : Option qm_R :=
  if v3 < v2 then
    qe_b (qm_isO v0 6) (
    qe_rI (f_Ru_allows v0 (v2 ||| v3) m) fun x1 m1 =>
    if x1 = 0 then
      l37 v0 v1 v2 (v3 + (1 : Int32)) m1
    else
      qe_b (qm_isO v0 6) (
      qe_b (qm_isL (qm_rf v0 1) 0) (
      qe_b (qm_in v1 (qm_nl (qm_rf v0 1))) (
      qe_b (qm_isL (qm_rf v0 1) 0) (
      qe_b (qm_in v1 (qm_nl (qm_rf v0 1))) (
      let m2 : qm_M := qm_sI m1 (qm_rf v0 1) (Int32.toNatClampNeg v1) ((m1.1 (qm_rf v0 1) (Int32.toNatClampNeg v1)) + (1 : Int32))
      qe_b (qm_isO v0 6) (
      qe_b (qm_isO v0 6) (
      qe_b (qm_isL (qm_rf v0 2) 0) (
      qe_b (qm_in v3 (qm_nl (qm_rf v0 2))) (
      qe_b (qm_isA (qm_rf v0 3) 1) (
      qe_b (qm_in ((qo_ishr (m2.1 (qm_rf v0 2) (Int32.toNatClampNeg v3)) (6 : Int32)) &&& (63 : Int32)) (qm_n (qm_rf v0 3))) (
      qe_b (qm_isO v0 6) (
      qe_b (qm_isL (qm_rf v0 2) 0) (
      qe_b (qm_in v3 (qm_nl (qm_rf v0 2))) (
      qe_b (qm_isL (qm_rf v0 3) 1) (
      qe_b (qm_in ((qo_ishr (m2.1 (qm_rf v0 2) (Int32.toNatClampNeg v3)) (6 : Int32)) &&& (63 : Int32)) (qm_nl (qm_rf v0 3))) (
      let m3 : qm_M := qm_sL m2 (qm_rf v0 3) (Int32.toNatClampNeg ((qo_ishr (m2.1 (qm_rf v0 2) (Int32.toNatClampNeg v3)) (6 : Int32)) &&& (63 : Int32))) ((qm_gL m2 (qm_rf v0 3) (Int32.toNatClampNeg ((qo_ishr (m2.1 (qm_rf v0 2) (Int32.toNatClampNeg v3)) (6 : Int32)) &&& (63 : Int32)))) ||| (qo_lshl (1 : Int64) ((m2.1 (qm_rf v0 2) (Int32.toNatClampNeg v3)) &&& (63 : Int32))))
      l37 v0 v1 v2 (v3 + (1 : Int32)) m3)))))))))))))))))
  else
    qe_b (qm_isO v0 6) (
    qe_b (qm_isO v0 6) (
    qe_rI (f_Ru_leastUnmet v0 m) fun x2 m4 =>
    qe_b (qm_isL (qm_rf v0 0) 0) (
    qe_b (qm_in v1 (qm_nl (qm_rf v0 0))) (
    let m5 : qm_M := qm_sI m4 (qm_rf v0 0) (Int32.toNatClampNeg v1) x2
    l111 v0 v1 v2 (0 : Int32) m5))))
set_option maxRecDepth 100000 in
theorem xg_Ru_weigh_37 {kp : pm_K} {d : Nat} {f_Ru_allows : Nat → Int32 → qm_M → Option qm_R} {f_Ru_leastUnmet : Nat → qm_M → Option qm_R} {l37 : Nat → Int32 → Int32 → Int32 → qm_M → Option qm_R} {l111 : Nat → Int32 → Int32 → Int32 → qm_M → Option qm_R} (hT : qe_G kp d (T_Ru_weigh f_Ru_allows f_Ru_leastUnmet)) (h37 : ∀ (v0 : Nat) (v1 : Int32) (v2 : Int32) (v3 : Int32) (m : qm_M), qe_J kp md_Ru_weigh d (l37 v0 v1 v2 v3 m) 37 [(0, .ref v0), (1, .int v1), (2, .int v2), (3, .int v3)] [] m) (h111 : ∀ (v0 : Nat) (v1 : Int32) (v2 : Int32) (v3 : Int32) (m : qm_M), qe_J kp md_Ru_weigh d (l111 v0 v1 v2 v3 m) 111 [(0, .ref v0), (1, .int v1), (2, .int v2), (3, .int v3)] [] m) (v0 : Nat) (v1 : Int32) (v2 : Int32) (v3 : Int32) (m : qm_M) : qe_J kp md_Ru_weigh d (X_Ru_weigh_37 f_Ru_allows f_Ru_leastUnmet l37 l111 v0 v1 v2 v3 m) 37 [(0, .ref v0), (1, .int v1), (2, .int v2), (3, .int v3)] [] m := qe_run (B := [(37, [0, 1, 2, 3], qp_riii_ l37), (111, [0, 1, 2, 3], qp_riii_ l111)]) (n := 1000) hT (qe_B1 (qp_riii__ok h37) (qe_B1 (qp_riii__ok h111) qe_B0)) rfl
def L_Ru_weigh_37 : Nat → Nat → Int32 → Int32 → Int32 → qm_M → Option qm_R
  | 0, _, _, _, _, _ => none
  | n + 1, v0, v1, v2, v3, m => X_Ru_weigh_37 F_Ru_allows F_Ru_leastUnmet (L_Ru_weigh_37 n) (L_Ru_weigh_111 1000000) v0 v1 v2 v3 m
theorem lg_Ru_weigh_37 {kp : pm_K} {d : Nat} (hT : qe_G kp d (T_Ru_weigh F_Ru_allows F_Ru_leastUnmet)) : ∀ (n : Nat) (v0 : Nat) (v1 : Int32) (v2 : Int32) (v3 : Int32) (m : qm_M), qe_J kp md_Ru_weigh d (L_Ru_weigh_37 n v0 v1 v2 v3 m) 37 [(0, .ref v0), (1, .int v1), (2, .int v2), (3, .int v3)] [] m
  | 0, v0, v1, v2, v3, m => qe_none rfl
  | n + 1, v0, v1, v2, v3, m => xg_Ru_weigh_37 hT (lg_Ru_weigh_37 hT n) (lg_Ru_weigh_111 hT 1000000) v0 v1 v2 v3 m
def X_Ru_weigh_2 (f_Ru_allows : Nat → Int32 → qm_M → Option qm_R) (f_Ru_leastUnmet : Nat → qm_M → Option qm_R) (l2 : Nat → Int32 → Int32 → qm_M → Option qm_R) (l37 : Nat → Int32 → Int32 → Int32 → qm_M → Option qm_R) (v0 : Nat) (v1 : Int32) (v2 : Int32) (m : qm_M) : Option qm_R :=
  qe_b (qm_isO v0 6) (
  qe_b (Nat.ble (qm_gk (qm_rf v0 3)).1 5) (
  if v2 < (Int32.ofNat (qm_n (qm_rf v0 3))) then
    qe_b (qm_isO v0 6) (
    qe_b (qm_isL (qm_rf v0 3) 1) (
    qe_b (qm_in v2 (qm_nl (qm_rf v0 3))) (
    let m1 : qm_M := qm_sL m (qm_rf v0 3) (Int32.toNatClampNeg v2) (0 : Int64)
    l2 v0 v1 (v2 + (1 : Int32)) m1)))
  else
    qe_b (qm_isO v0 6) (
    qe_b (qm_isL (qm_rf v0 1) 0) (
    qe_b (qm_in v1 (qm_nl (qm_rf v0 1))) (
    let m2 : qm_M := qm_sI m (qm_rf v0 1) (Int32.toNatClampNeg v1) (0 : Int32)
    l37 v0 v1 (qo_ishl (1 : Int32) v1) (0 : Int32) m2)))))
set_option maxRecDepth 100000 in
theorem xg_Ru_weigh_2 {kp : pm_K} {d : Nat} {f_Ru_allows : Nat → Int32 → qm_M → Option qm_R} {f_Ru_leastUnmet : Nat → qm_M → Option qm_R} {l2 : Nat → Int32 → Int32 → qm_M → Option qm_R} {l37 : Nat → Int32 → Int32 → Int32 → qm_M → Option qm_R} (hT : qe_G kp d (T_Ru_weigh f_Ru_allows f_Ru_leastUnmet)) (h2 : ∀ (v0 : Nat) (v1 : Int32) (v2 : Int32) (m : qm_M), qe_J kp md_Ru_weigh d (l2 v0 v1 v2 m) 2 [(0, .ref v0), (1, .int v1), (2, .int v2)] [] m) (h37 : ∀ (v0 : Nat) (v1 : Int32) (v2 : Int32) (v3 : Int32) (m : qm_M), qe_J kp md_Ru_weigh d (l37 v0 v1 v2 v3 m) 37 [(0, .ref v0), (1, .int v1), (2, .int v2), (3, .int v3)] [] m) (v0 : Nat) (v1 : Int32) (v2 : Int32) (m : qm_M) : qe_J kp md_Ru_weigh d (X_Ru_weigh_2 f_Ru_allows f_Ru_leastUnmet l2 l37 v0 v1 v2 m) 2 [(0, .ref v0), (1, .int v1), (2, .int v2)] [] m := qe_run (B := [(2, [0, 1, 2], qp_rii_ l2), (37, [0, 1, 2, 3], qp_riii_ l37)]) (n := 1000) hT (qe_B1 (qp_rii__ok h2) (qe_B1 (qp_riii__ok h37) qe_B0)) rfl
def L_Ru_weigh_2 : Nat → Nat → Int32 → Int32 → qm_M → Option qm_R
  | 0, _, _, _, _ => none
  | n + 1, v0, v1, v2, m => X_Ru_weigh_2 F_Ru_allows F_Ru_leastUnmet (L_Ru_weigh_2 n) (L_Ru_weigh_37 1000000) v0 v1 v2 m
theorem lg_Ru_weigh_2 {kp : pm_K} {d : Nat} (hT : qe_G kp d (T_Ru_weigh F_Ru_allows F_Ru_leastUnmet)) : ∀ (n : Nat) (v0 : Nat) (v1 : Int32) (v2 : Int32) (m : qm_M), qe_J kp md_Ru_weigh d (L_Ru_weigh_2 n v0 v1 v2 m) 2 [(0, .ref v0), (1, .int v1), (2, .int v2)] [] m
  | 0, v0, v1, v2, m => qe_none rfl
  | n + 1, v0, v1, v2, m => xg_Ru_weigh_2 hT (lg_Ru_weigh_2 hT n) (lg_Ru_weigh_37 hT 1000000) v0 v1 v2 m
def X_Ru_weigh_e (f_Ru_allows : Nat → Int32 → qm_M → Option qm_R) (f_Ru_leastUnmet : Nat → qm_M → Option qm_R) (l2 : Nat → Int32 → Int32 → qm_M → Option qm_R) (v0 : Nat) (v1 : Int32) (m : qm_M) : Option qm_R :=
  l2 v0 v1 (0 : Int32) m
set_option maxRecDepth 100000 in
theorem xg_Ru_weigh_e {kp : pm_K} {d : Nat} {f_Ru_allows : Nat → Int32 → qm_M → Option qm_R} {f_Ru_leastUnmet : Nat → qm_M → Option qm_R} {l2 : Nat → Int32 → Int32 → qm_M → Option qm_R} (hT : qe_G kp d (T_Ru_weigh f_Ru_allows f_Ru_leastUnmet)) (h2 : ∀ (v0 : Nat) (v1 : Int32) (v2 : Int32) (m : qm_M), qe_J kp md_Ru_weigh d (l2 v0 v1 v2 m) 2 [(0, .ref v0), (1, .int v1), (2, .int v2)] [] m) (v0 : Nat) (v1 : Int32) (m : qm_M) : qe_J kp md_Ru_weigh d (X_Ru_weigh_e f_Ru_allows f_Ru_leastUnmet l2 v0 v1 m) 0 [(0, .ref v0), (1, .int v1)] [] m := qe_run (B := [(2, [0, 1, 2], qp_rii_ l2)]) (n := 1000) hT (qe_B1 (qp_rii__ok h2) qe_B0) rfl
def F_Ru_weigh (v0 : Nat) (v1 : Int32) (m : qm_M) : Option qm_R := X_Ru_weigh_e F_Ru_allows F_Ru_leastUnmet (L_Ru_weigh_2 1000000) v0 v1 m
theorem fj_Ru_weigh {kp : pm_K} {d : Nat} (hT : qe_G kp d (T_Ru_weigh F_Ru_allows F_Ru_leastUnmet)) (v0 : Nat) (v1 : Int32) (m : qm_M) : qe_J kp md_Ru_weigh d (F_Ru_weigh v0 v1 m) 0 [(0, .ref v0), (1, .int v1)] [] m := xg_Ru_weigh_e hT (lg_Ru_weigh_2 hT 1000000) v0 v1 m
theorem fg_Ru_weigh {kp : pm_K} (d : Nat) : qe_GE kp (d + 3) (97, 0, 6, 0, qw_ri F_Ru_weigh) := qe_entry (by decide +kernel) (qw_ri_ok (d := d + 2) rfl rfl (fj_Ru_weigh (qe_G1 (fg_Ru_allows (d + 0)) (qe_G1 (fg_Ru_leastUnmet (d + 1)) qe_G0))))
/-! TurnField$Rule.tune(II)V -/
noncomputable def T_Ru_tune (f_Ru_weigh : Nat → Int32 → qm_M → Option qm_R) : qe_T := [(97, 0, 6, 0, qw_ri f_Ru_weigh)]
def X_Ru_tune_29 (f_Ru_weigh : Nat → Int32 → qm_M → Option qm_R) (l29 : Nat → Int32 → qm_M → Option qm_R) (v0 : Nat) (v3 : Int32) (m : qm_M) : Option qm_R :=
  if v3 < (12 : Int32) then
    qe_b (qm_isO v0 6) (
    qe_rV (f_Ru_weigh v0 v3 m) fun m1 =>
    l29 v0 (v3 + (1 : Int32)) m1)
  else
    some (none, m)
set_option maxRecDepth 100000 in
theorem xg_Ru_tune_29 {kp : pm_K} {d : Nat} {f_Ru_weigh : Nat → Int32 → qm_M → Option qm_R} {l29 : Nat → Int32 → qm_M → Option qm_R} (hT : qe_G kp d (T_Ru_tune f_Ru_weigh)) (h29 : ∀ (v0 : Nat) (v3 : Int32) (m : qm_M), qe_J kp md_Ru_tune d (l29 v0 v3 m) 29 [(0, .ref v0), (3, .int v3)] [] m) (v0 : Nat) (v3 : Int32) (m : qm_M) : qe_J kp md_Ru_tune d (X_Ru_tune_29 f_Ru_weigh l29 v0 v3 m) 29 [(0, .ref v0), (3, .int v3)] [] m := qe_run (B := [(29, [0, 3], qp_ri_ l29)]) (n := 1000) hT (qe_B1 (qp_ri__ok h29) qe_B0) rfl
def L_Ru_tune_29 : Nat → Nat → Int32 → qm_M → Option qm_R
  | 0, _, _, _ => none
  | n + 1, v0, v3, m => X_Ru_tune_29 F_Ru_weigh (L_Ru_tune_29 n) v0 v3 m
theorem lg_Ru_tune_29 {kp : pm_K} {d : Nat} (hT : qe_G kp d (T_Ru_tune F_Ru_weigh)) : ∀ (n : Nat) (v0 : Nat) (v3 : Int32) (m : qm_M), qe_J kp md_Ru_tune d (L_Ru_tune_29 n v0 v3 m) 29 [(0, .ref v0), (3, .int v3)] [] m
  | 0, v0, v3, m => qe_none rfl
  | n + 1, v0, v3, m => xg_Ru_tune_29 hT (lg_Ru_tune_29 hT n) v0 v3 m
def X_Ru_tune_e (f_Ru_weigh : Nat → Int32 → qm_M → Option qm_R) (l29 : Nat → Int32 → qm_M → Option qm_R) (v0 : Nat) (v1 : Int32) (v2 : Int32) (m : qm_M) : Option qm_R :=
  qe_b (qm_isO v0 6) (
  if (m.1 v0 4) = v1 then
    qe_b (qm_isO v0 6) (
    if (m.1 v0 5) = v2 then
      some (none, m)
    else
      qe_b (qm_isO v0 6) (
      let m1 : qm_M := qm_sI m v0 4 v1
      qe_b (qm_isO v0 6) (
      let m2 : qm_M := qm_sI m1 v0 5 v2
      l29 v0 (0 : Int32) m2)))
  else
    qe_b (qm_isO v0 6) (
    let m3 : qm_M := qm_sI m v0 4 v1
    qe_b (qm_isO v0 6) (
    let m4 : qm_M := qm_sI m3 v0 5 v2
    l29 v0 (0 : Int32) m4)))
set_option maxRecDepth 100000 in
theorem xg_Ru_tune_e {kp : pm_K} {d : Nat} {f_Ru_weigh : Nat → Int32 → qm_M → Option qm_R} {l29 : Nat → Int32 → qm_M → Option qm_R} (hT : qe_G kp d (T_Ru_tune f_Ru_weigh)) (h29 : ∀ (v0 : Nat) (v3 : Int32) (m : qm_M), qe_J kp md_Ru_tune d (l29 v0 v3 m) 29 [(0, .ref v0), (3, .int v3)] [] m) (v0 : Nat) (v1 : Int32) (v2 : Int32) (m : qm_M) : qe_J kp md_Ru_tune d (X_Ru_tune_e f_Ru_weigh l29 v0 v1 v2 m) 0 [(0, .ref v0), (1, .int v1), (2, .int v2)] [] m := qe_run (B := [(29, [0, 3], qp_ri_ l29)]) (n := 1000) hT (qe_B1 (qp_ri__ok h29) qe_B0) rfl
def F_Ru_tune (v0 : Nat) (v1 : Int32) (v2 : Int32) (m : qm_M) : Option qm_R := X_Ru_tune_e F_Ru_weigh (L_Ru_tune_29 1000000) v0 v1 v2 m
theorem fj_Ru_tune {kp : pm_K} {d : Nat} (hT : qe_G kp d (T_Ru_tune F_Ru_weigh)) (v0 : Nat) (v1 : Int32) (v2 : Int32) (m : qm_M) : qe_J kp md_Ru_tune d (F_Ru_tune v0 v1 v2 m) 0 [(0, .ref v0), (1, .int v1), (2, .int v2)] [] m := xg_Ru_tune_e hT (lg_Ru_tune_29 hT 1000000) v0 v1 v2 m
theorem fg_Ru_tune {kp : pm_K} (d : Nat) : qe_GE kp (d + 4) (96, 0, 6, 0, qw_rii F_Ru_tune) := qe_entry (by decide +kernel) (qw_rii_ok (d := d + 3) rfl rfl (fj_Ru_tune (qe_G1 (fg_Ru_weigh (d + 0)) qe_G0)))
/-! TurnField$Rule.worthOf(I)I -/
noncomputable def T_Ru_worthOf : qe_T := []
def X_Ru_worthOf_e (v0 : Nat) (v1 : Int32) (m : qm_M) : Option qm_R :=
  if v1 < 0 then
    some (some (.int (-1 : Int32)), m)
  else
    if v1 < (12 : Int32) then
      qe_b (qm_isO v0 6) (
      qe_b (qm_isL (qm_rf v0 0) 0) (
      qe_b (qm_in v1 (qm_nl (qm_rf v0 0))) (
      some (some (.int (m.1 (qm_rf v0 0) (Int32.toNatClampNeg v1))), m))))
    else
      some (some (.int (-1 : Int32)), m)
set_option maxRecDepth 100000 in
theorem xg_Ru_worthOf_e {kp : pm_K} {d : Nat} (hT : qe_G kp d (T_Ru_worthOf)) (v0 : Nat) (v1 : Int32) (m : qm_M) : qe_J kp md_Ru_worthOf d (X_Ru_worthOf_e v0 v1 m) 0 [(0, .ref v0), (1, .int v1)] [] m := qe_run (B := []) (n := 1000) hT qe_B0 rfl
def F_Ru_worthOf (v0 : Nat) (v1 : Int32) (m : qm_M) : Option qm_R := X_Ru_worthOf_e v0 v1 m
theorem fj_Ru_worthOf {kp : pm_K} {d : Nat} (hT : qe_G kp d (T_Ru_worthOf)) (v0 : Nat) (v1 : Int32) (m : qm_M) : qe_J kp md_Ru_worthOf d (F_Ru_worthOf v0 v1 m) 0 [(0, .ref v0), (1, .int v1)] [] m := xg_Ru_worthOf_e hT v0 v1 m
theorem fg_Ru_worthOf {kp : pm_K} (d : Nat) : qe_GE kp (d + 1) (101, 0, 6, 1, qw_ri F_Ru_worthOf) := qe_entry (by decide +kernel) (qw_ri_ok (d := d + 0) rfl rfl (fj_Ru_worthOf qe_G0))
/-! TurnField$Rule.setsOf(I)I -/
noncomputable def T_Ru_setsOf : qe_T := []
def X_Ru_setsOf_e (v0 : Nat) (v1 : Int32) (m : qm_M) : Option qm_R :=
  if v1 < 0 then
    some (some (.int (-1 : Int32)), m)
  else
    if v1 < (12 : Int32) then
      qe_b (qm_isO v0 6) (
      qe_b (qm_isL (qm_rf v0 1) 0) (
      qe_b (qm_in v1 (qm_nl (qm_rf v0 1))) (
      some (some (.int (m.1 (qm_rf v0 1) (Int32.toNatClampNeg v1))), m))))
    else
      some (some (.int (-1 : Int32)), m)
set_option maxRecDepth 100000 in
theorem xg_Ru_setsOf_e {kp : pm_K} {d : Nat} (hT : qe_G kp d (T_Ru_setsOf)) (v0 : Nat) (v1 : Int32) (m : qm_M) : qe_J kp md_Ru_setsOf d (X_Ru_setsOf_e v0 v1 m) 0 [(0, .ref v0), (1, .int v1)] [] m := qe_run (B := []) (n := 1000) hT qe_B0 rfl
def F_Ru_setsOf (v0 : Nat) (v1 : Int32) (m : qm_M) : Option qm_R := X_Ru_setsOf_e v0 v1 m
theorem fj_Ru_setsOf {kp : pm_K} {d : Nat} (hT : qe_G kp d (T_Ru_setsOf)) (v0 : Nat) (v1 : Int32) (m : qm_M) : qe_J kp md_Ru_setsOf d (F_Ru_setsOf v0 v1 m) 0 [(0, .ref v0), (1, .int v1)] [] m := xg_Ru_setsOf_e hT v0 v1 m
theorem fg_Ru_setsOf {kp : pm_K} (d : Nat) : qe_GE kp (d + 1) (102, 0, 6, 1, qw_ri F_Ru_setsOf) := qe_entry (by decide +kernel) (qw_ri_ok (d := d + 0) rfl rfl (fj_Ru_setsOf qe_G0))
/-! TurnField$Span.clear()V -/
noncomputable def T_Sp_clear : qe_T := []
def X_Sp_clear_2 (l2 : Int32 → qm_M → Option qm_R) (v1 : Int32) (m : qm_M) : Option qm_R :=
  if v1 < (64 : Int32) then
    qe_b (qm_in v1 64) (
    let m1 : qm_M := qm_sL m 65 (Int32.toNatClampNeg v1) (0 : Int64)
    l2 (v1 + (1 : Int32)) m1)
  else
    some (none, m)
set_option maxRecDepth 100000 in
theorem xg_Sp_clear_2 {kp : pm_K} {d : Nat} {l2 : Int32 → qm_M → Option qm_R} (hT : qe_G kp d (T_Sp_clear)) (h2 : ∀ (v1 : Int32) (m : qm_M), qe_J kp md_Sp_clear d (l2 v1 m) 2 [(0, .ref 64), (1, .int v1)] [] m) (v1 : Int32) (m : qm_M) : qe_J kp md_Sp_clear d (X_Sp_clear_2 l2 v1 m) 2 [(0, .ref 64), (1, .int v1)] [] m := qe_run (B := [(2, [0, 1], qp_ci_ 64 l2)]) (n := 1000) hT (qe_B1 (qp_ci__ok h2) qe_B0) rfl
def L_Sp_clear_2 : Nat → Int32 → qm_M → Option qm_R
  | 0, _, _ => none
  | n + 1, v1, m => X_Sp_clear_2 (L_Sp_clear_2 n) v1 m
theorem lg_Sp_clear_2 {kp : pm_K} {d : Nat} (hT : qe_G kp d (T_Sp_clear)) : ∀ (n : Nat) (v1 : Int32) (m : qm_M), qe_J kp md_Sp_clear d (L_Sp_clear_2 n v1 m) 2 [(0, .ref 64), (1, .int v1)] [] m
  | 0, v1, m => qe_none rfl
  | n + 1, v1, m => xg_Sp_clear_2 hT (lg_Sp_clear_2 hT n) v1 m
def X_Sp_clear_e (l2 : Int32 → qm_M → Option qm_R)  (m : qm_M) : Option qm_R :=
  l2 (0 : Int32) m
set_option maxRecDepth 100000 in
theorem xg_Sp_clear_e {kp : pm_K} {d : Nat} {l2 : Int32 → qm_M → Option qm_R} (hT : qe_G kp d (T_Sp_clear)) (h2 : ∀ (v1 : Int32) (m : qm_M), qe_J kp md_Sp_clear d (l2 v1 m) 2 [(0, .ref 64), (1, .int v1)] [] m) (m : qm_M) : qe_J kp md_Sp_clear d (X_Sp_clear_e l2 m) 0 [(0, .ref 64)] [] m := qe_run (B := [(2, [0, 1], qp_ci_ 64 l2)]) (n := 1000) hT (qe_B1 (qp_ci__ok h2) qe_B0) rfl
def F_Sp_clear (m : qm_M) : Option qm_R := X_Sp_clear_e (L_Sp_clear_2 1000000) m
theorem fj_Sp_clear {kp : pm_K} {d : Nat} (hT : qe_G kp d (T_Sp_clear)) (m : qm_M) : qe_J kp md_Sp_clear d (F_Sp_clear m) 0 [(0, .ref 64)] [] m := xg_Sp_clear_e hT (lg_Sp_clear_2 hT 1000000) m
theorem fg_Sp_clear {kp : pm_K} (d : Nat) : qe_GE kp (d + 1) (105, 0, 7, 0, qw_c 64 F_Sp_clear) := qe_entry (by decide +kernel) (qw_c_ok (d := d + 0) rfl rfl (fj_Sp_clear qe_G0))
/-! TurnField$Span.add(JJ)V -/
noncomputable def T_Sp_add : qe_T := []
def X_Sp_add_10 (l10 : Int64 → Int64 → Int32 → qm_M → Option qm_R) (v5 : Int64) (v7 : Int64) (v9 : Int32) (m : qm_M) : Option qm_R :=
  if v9 < 0 then
    some (none, m)
  else
    if (lg_cmp ((qo_lushr v5 v9) &&& (1 : Int64)) (0 : Int64)) = 0 then
      l10 v5 v7 (v9 + (-1 : Int32)) m
    else
      qe_b (qm_in v9 64) (
      if (lg_cmp (m.2 65 (Int32.toNatClampNeg v9)) (0 : Int64)) = 0 then
        qe_b (qm_in v9 64) (
        let m1 : qm_M := qm_sL m 65 (Int32.toNatClampNeg v9) v5
        qe_b (qm_in v9 64) (
        let m2 : qm_M := qm_sL m1 66 (Int32.toNatClampNeg v9) v7
        some (none, m2)))
      else
        qe_b (qm_in v9 64) (
        let x1 : Int64 := (v5 ^^^ (m.2 65 (Int32.toNatClampNeg v9)))
        qe_b (qm_in v9 64) (
        let x2 : Int64 := (v7 ^^^ (m.2 66 (Int32.toNatClampNeg v9)))
        l10 x1 x2 (v9 + (-1 : Int32)) m)))
set_option maxRecDepth 100000 in
theorem xg_Sp_add_10 {kp : pm_K} {d : Nat} {l10 : Int64 → Int64 → Int32 → qm_M → Option qm_R} (hT : qe_G kp d (T_Sp_add)) (h10 : ∀ (v5 : Int64) (v7 : Int64) (v9 : Int32) (m : qm_M), qe_J kp md_Sp_add d (l10 v5 v7 v9 m) 10 [(0, .ref 64), (5, .long v5), (7, .long v7), (9, .int v9)] [] m) (v5 : Int64) (v7 : Int64) (v9 : Int32) (m : qm_M) : qe_J kp md_Sp_add d (X_Sp_add_10 l10 v5 v7 v9 m) 10 [(0, .ref 64), (5, .long v5), (7, .long v7), (9, .int v9)] [] m := qe_run (B := [(10, [0, 5, 7, 9], qp_clli_ 64 l10)]) (n := 1000) hT (qe_B1 (qp_clli__ok h10) qe_B0) rfl
def L_Sp_add_10 : Nat → Int64 → Int64 → Int32 → qm_M → Option qm_R
  | 0, _, _, _, _ => none
  | n + 1, v5, v7, v9, m => X_Sp_add_10 (L_Sp_add_10 n) v5 v7 v9 m
theorem lg_Sp_add_10 {kp : pm_K} {d : Nat} (hT : qe_G kp d (T_Sp_add)) : ∀ (n : Nat) (v5 : Int64) (v7 : Int64) (v9 : Int32) (m : qm_M), qe_J kp md_Sp_add d (L_Sp_add_10 n v5 v7 v9 m) 10 [(0, .ref 64), (5, .long v5), (7, .long v7), (9, .int v9)] [] m
  | 0, v5, v7, v9, m => qe_none rfl
  | n + 1, v5, v7, v9, m => xg_Sp_add_10 hT (lg_Sp_add_10 hT n) v5 v7 v9 m
def X_Sp_add_e (l10 : Int64 → Int64 → Int32 → qm_M → Option qm_R) (v1 : Int64) (v3 : Int64) (m : qm_M) : Option qm_R :=
  l10 v1 v3 (63 : Int32) m
set_option maxRecDepth 100000 in
theorem xg_Sp_add_e {kp : pm_K} {d : Nat} {l10 : Int64 → Int64 → Int32 → qm_M → Option qm_R} (hT : qe_G kp d (T_Sp_add)) (h10 : ∀ (v5 : Int64) (v7 : Int64) (v9 : Int32) (m : qm_M), qe_J kp md_Sp_add d (l10 v5 v7 v9 m) 10 [(0, .ref 64), (5, .long v5), (7, .long v7), (9, .int v9)] [] m) (v1 : Int64) (v3 : Int64) (m : qm_M) : qe_J kp md_Sp_add d (X_Sp_add_e l10 v1 v3 m) 0 [(0, .ref 64), (1, .long v1), (3, .long v3)] [] m := qe_run (B := [(10, [0, 5, 7, 9], qp_clli_ 64 l10)]) (n := 1000) hT (qe_B1 (qp_clli__ok h10) qe_B0) rfl
def F_Sp_add (v1 : Int64) (v3 : Int64) (m : qm_M) : Option qm_R := X_Sp_add_e (L_Sp_add_10 1000000) v1 v3 m
theorem fj_Sp_add {kp : pm_K} {d : Nat} (hT : qe_G kp d (T_Sp_add)) (v1 : Int64) (v3 : Int64) (m : qm_M) : qe_J kp md_Sp_add d (F_Sp_add v1 v3 m) 0 [(0, .ref 64), (1, .long v1), (3, .long v3)] [] m := xg_Sp_add_e hT (lg_Sp_add_10 hT 1000000) v1 v3 m
theorem fg_Sp_add {kp : pm_K} (d : Nat) : qe_GE kp (d + 1) (106, 0, 7, 0, qw_cll 64 F_Sp_add) := qe_entry (by decide +kernel) (qw_cll_ok (d := d + 0) rfl rfl (fj_Sp_add qe_G0))
/-! TurnField$Span.tagOf(J)J -/
noncomputable def T_Sp_tagOf : qe_T := []
def X_Sp_tagOf_9 (l9 : Int64 → Int64 → Int32 → qm_M → Option qm_R) (v3 : Int64) (v5 : Int64) (v7 : Int32) (m : qm_M) : Option qm_R :=
  if v7 < 0 then
    some (some (.long v5), m)
  else
    if (lg_cmp ((qo_lushr v3 v7) &&& (1 : Int64)) (0 : Int64)) = 0 then
      l9 v3 v5 (v7 + (-1 : Int32)) m
    else
      qe_b (qm_in v7 64) (
      let x1 : Int64 := (v3 ^^^ (m.2 65 (Int32.toNatClampNeg v7)))
      qe_b (qm_in v7 64) (
      let x2 : Int64 := (v5 ^^^ (m.2 66 (Int32.toNatClampNeg v7)))
      l9 x1 x2 (v7 + (-1 : Int32)) m))
set_option maxRecDepth 100000 in
theorem xg_Sp_tagOf_9 {kp : pm_K} {d : Nat} {l9 : Int64 → Int64 → Int32 → qm_M → Option qm_R} (hT : qe_G kp d (T_Sp_tagOf)) (h9 : ∀ (v3 : Int64) (v5 : Int64) (v7 : Int32) (m : qm_M), qe_J kp md_Sp_tagOf d (l9 v3 v5 v7 m) 9 [(0, .ref 64), (3, .long v3), (5, .long v5), (7, .int v7)] [] m) (v3 : Int64) (v5 : Int64) (v7 : Int32) (m : qm_M) : qe_J kp md_Sp_tagOf d (X_Sp_tagOf_9 l9 v3 v5 v7 m) 9 [(0, .ref 64), (3, .long v3), (5, .long v5), (7, .int v7)] [] m := qe_run (B := [(9, [0, 3, 5, 7], qp_clli_ 64 l9)]) (n := 1000) hT (qe_B1 (qp_clli__ok h9) qe_B0) rfl
def L_Sp_tagOf_9 : Nat → Int64 → Int64 → Int32 → qm_M → Option qm_R
  | 0, _, _, _, _ => none
  | n + 1, v3, v5, v7, m => X_Sp_tagOf_9 (L_Sp_tagOf_9 n) v3 v5 v7 m
theorem lg_Sp_tagOf_9 {kp : pm_K} {d : Nat} (hT : qe_G kp d (T_Sp_tagOf)) : ∀ (n : Nat) (v3 : Int64) (v5 : Int64) (v7 : Int32) (m : qm_M), qe_J kp md_Sp_tagOf d (L_Sp_tagOf_9 n v3 v5 v7 m) 9 [(0, .ref 64), (3, .long v3), (5, .long v5), (7, .int v7)] [] m
  | 0, v3, v5, v7, m => qe_none rfl
  | n + 1, v3, v5, v7, m => xg_Sp_tagOf_9 hT (lg_Sp_tagOf_9 hT n) v3 v5 v7 m
def X_Sp_tagOf_e (l9 : Int64 → Int64 → Int32 → qm_M → Option qm_R) (v1 : Int64) (m : qm_M) : Option qm_R :=
  l9 v1 (0 : Int64) (63 : Int32) m
set_option maxRecDepth 100000 in
theorem xg_Sp_tagOf_e {kp : pm_K} {d : Nat} {l9 : Int64 → Int64 → Int32 → qm_M → Option qm_R} (hT : qe_G kp d (T_Sp_tagOf)) (h9 : ∀ (v3 : Int64) (v5 : Int64) (v7 : Int32) (m : qm_M), qe_J kp md_Sp_tagOf d (l9 v3 v5 v7 m) 9 [(0, .ref 64), (3, .long v3), (5, .long v5), (7, .int v7)] [] m) (v1 : Int64) (m : qm_M) : qe_J kp md_Sp_tagOf d (X_Sp_tagOf_e l9 v1 m) 0 [(0, .ref 64), (1, .long v1)] [] m := qe_run (B := [(9, [0, 3, 5, 7], qp_clli_ 64 l9)]) (n := 1000) hT (qe_B1 (qp_clli__ok h9) qe_B0) rfl
def F_Sp_tagOf (v1 : Int64) (m : qm_M) : Option qm_R := X_Sp_tagOf_e (L_Sp_tagOf_9 1000000) v1 m
theorem fj_Sp_tagOf {kp : pm_K} {d : Nat} (hT : qe_G kp d (T_Sp_tagOf)) (v1 : Int64) (m : qm_M) : qe_J kp md_Sp_tagOf d (F_Sp_tagOf v1 m) 0 [(0, .ref 64), (1, .long v1)] [] m := xg_Sp_tagOf_e hT (lg_Sp_tagOf_9 hT 1000000) v1 m
theorem fg_Sp_tagOf {kp : pm_K} (d : Nat) : qe_GE kp (d + 1) (107, 0, 7, 2, qw_cl 64 F_Sp_tagOf) := qe_entry (by decide +kernel) (qw_cl_ok (d := d + 0) rfl rfl (fj_Sp_tagOf qe_G0))
/-! TurnField$Span.leastPolynomial(J)J -/
noncomputable def T_Sp_leastPolynomial (f_Sp_clear : qm_M → Option qm_R) (f_Nu_levelOf : Int64 → qm_M → Option qm_R) (f_Sp_add : Int64 → Int64 → qm_M → Option qm_R) (f_Nu_product : Int64 → Int64 → qm_M → Option qm_R) (f_Sp_tagOf : Int64 → qm_M → Option qm_R) : qe_T := [(105, 0, 7, 0, qw_c 64 f_Sp_clear), (21, 1, 0, 1, qw_l f_Nu_levelOf), (106, 0, 7, 0, qw_cll 64 f_Sp_add), (22, 1, 0, 2, qw_ll f_Nu_product), (107, 0, 7, 2, qw_cl 64 f_Sp_tagOf)]
def X_Sp_leastPolynomial_17 (f_Sp_clear : qm_M → Option qm_R) (f_Nu_levelOf : Int64 → qm_M → Option qm_R) (f_Sp_add : Int64 → Int64 → qm_M → Option qm_R) (f_Nu_product : Int64 → Int64 → qm_M → Option qm_R) (f_Sp_tagOf : Int64 → qm_M → Option qm_R) (l17 : Int64 → Int32 → Int64 → Int32 → qm_M → Option qm_R) (v1 : Int64) (v3 : Int32) (v4 : Int64) (v6 : Int32) (m : qm_M) : Option qm_R :=
  if v6 < v3 then
    qe_rV (f_Sp_add v4 (qo_lshl (1 : Int64) v6) m) fun m1 =>
    qe_rL (f_Nu_product v4 v1 m1) fun x1 m2 =>
    l17 v1 v3 x1 (v6 + (1 : Int32)) m2
  else
    qe_rL (f_Sp_tagOf v4 m) fun x2 m3 =>
    some (some (.long x2), m3)
set_option maxRecDepth 100000 in
theorem xg_Sp_leastPolynomial_17 {kp : pm_K} {d : Nat} {f_Sp_clear : qm_M → Option qm_R} {f_Nu_levelOf : Int64 → qm_M → Option qm_R} {f_Sp_add : Int64 → Int64 → qm_M → Option qm_R} {f_Nu_product : Int64 → Int64 → qm_M → Option qm_R} {f_Sp_tagOf : Int64 → qm_M → Option qm_R} {l17 : Int64 → Int32 → Int64 → Int32 → qm_M → Option qm_R} (hT : qe_G kp d (T_Sp_leastPolynomial f_Sp_clear f_Nu_levelOf f_Sp_add f_Nu_product f_Sp_tagOf)) (h17 : ∀ (v1 : Int64) (v3 : Int32) (v4 : Int64) (v6 : Int32) (m : qm_M), qe_J kp md_Sp_leastPolynomial d (l17 v1 v3 v4 v6 m) 17 [(0, .ref 64), (1, .long v1), (3, .int v3), (4, .long v4), (6, .int v6)] [] m) (v1 : Int64) (v3 : Int32) (v4 : Int64) (v6 : Int32) (m : qm_M) : qe_J kp md_Sp_leastPolynomial d (X_Sp_leastPolynomial_17 f_Sp_clear f_Nu_levelOf f_Sp_add f_Nu_product f_Sp_tagOf l17 v1 v3 v4 v6 m) 17 [(0, .ref 64), (1, .long v1), (3, .int v3), (4, .long v4), (6, .int v6)] [] m := qe_run (B := [(17, [0, 1, 3, 4, 6], qp_clili_ 64 l17)]) (n := 1000) hT (qe_B1 (qp_clili__ok h17) qe_B0) rfl
def L_Sp_leastPolynomial_17 : Nat → Int64 → Int32 → Int64 → Int32 → qm_M → Option qm_R
  | 0, _, _, _, _, _ => none
  | n + 1, v1, v3, v4, v6, m => X_Sp_leastPolynomial_17 F_Sp_clear F_Nu_levelOf F_Sp_add F_Nu_product F_Sp_tagOf (L_Sp_leastPolynomial_17 n) v1 v3 v4 v6 m
theorem lg_Sp_leastPolynomial_17 {kp : pm_K} {d : Nat} (hT : qe_G kp d (T_Sp_leastPolynomial F_Sp_clear F_Nu_levelOf F_Sp_add F_Nu_product F_Sp_tagOf)) : ∀ (n : Nat) (v1 : Int64) (v3 : Int32) (v4 : Int64) (v6 : Int32) (m : qm_M), qe_J kp md_Sp_leastPolynomial d (L_Sp_leastPolynomial_17 n v1 v3 v4 v6 m) 17 [(0, .ref 64), (1, .long v1), (3, .int v3), (4, .long v4), (6, .int v6)] [] m
  | 0, v1, v3, v4, v6, m => qe_none rfl
  | n + 1, v1, v3, v4, v6, m => xg_Sp_leastPolynomial_17 hT (lg_Sp_leastPolynomial_17 hT n) v1 v3 v4 v6 m
def X_Sp_leastPolynomial_e (f_Sp_clear : qm_M → Option qm_R) (f_Nu_levelOf : Int64 → qm_M → Option qm_R) (f_Sp_add : Int64 → Int64 → qm_M → Option qm_R) (f_Nu_product : Int64 → Int64 → qm_M → Option qm_R) (f_Sp_tagOf : Int64 → qm_M → Option qm_R) (l17 : Int64 → Int32 → Int64 → Int32 → qm_M → Option qm_R) (v1 : Int64) (m : qm_M) : Option qm_R :=
  qe_rV (f_Sp_clear m) fun m1 =>
  qe_rI (f_Nu_levelOf v1 m1) fun x1 m2 =>
  l17 v1 (qo_ishl (1 : Int32) x1) (1 : Int64) (0 : Int32) m2
set_option maxRecDepth 100000 in
theorem xg_Sp_leastPolynomial_e {kp : pm_K} {d : Nat} {f_Sp_clear : qm_M → Option qm_R} {f_Nu_levelOf : Int64 → qm_M → Option qm_R} {f_Sp_add : Int64 → Int64 → qm_M → Option qm_R} {f_Nu_product : Int64 → Int64 → qm_M → Option qm_R} {f_Sp_tagOf : Int64 → qm_M → Option qm_R} {l17 : Int64 → Int32 → Int64 → Int32 → qm_M → Option qm_R} (hT : qe_G kp d (T_Sp_leastPolynomial f_Sp_clear f_Nu_levelOf f_Sp_add f_Nu_product f_Sp_tagOf)) (h17 : ∀ (v1 : Int64) (v3 : Int32) (v4 : Int64) (v6 : Int32) (m : qm_M), qe_J kp md_Sp_leastPolynomial d (l17 v1 v3 v4 v6 m) 17 [(0, .ref 64), (1, .long v1), (3, .int v3), (4, .long v4), (6, .int v6)] [] m) (v1 : Int64) (m : qm_M) : qe_J kp md_Sp_leastPolynomial d (X_Sp_leastPolynomial_e f_Sp_clear f_Nu_levelOf f_Sp_add f_Nu_product f_Sp_tagOf l17 v1 m) 0 [(0, .ref 64), (1, .long v1)] [] m := qe_run (B := [(17, [0, 1, 3, 4, 6], qp_clili_ 64 l17)]) (n := 1000) hT (qe_B1 (qp_clili__ok h17) qe_B0) rfl
def F_Sp_leastPolynomial (v1 : Int64) (m : qm_M) : Option qm_R := X_Sp_leastPolynomial_e F_Sp_clear F_Nu_levelOf F_Sp_add F_Nu_product F_Sp_tagOf (L_Sp_leastPolynomial_17 1000000) v1 m
theorem fj_Sp_leastPolynomial {kp : pm_K} {d : Nat} (hT : qe_G kp d (T_Sp_leastPolynomial F_Sp_clear F_Nu_levelOf F_Sp_add F_Nu_product F_Sp_tagOf)) (v1 : Int64) (m : qm_M) : qe_J kp md_Sp_leastPolynomial d (F_Sp_leastPolynomial v1 m) 0 [(0, .ref 64), (1, .long v1)] [] m := xg_Sp_leastPolynomial_e hT (lg_Sp_leastPolynomial_17 hT 1000000) v1 m
theorem fg_Sp_leastPolynomial {kp : pm_K} (d : Nat) : qe_GE kp (d + 34) (104, 0, 7, 2, qw_cl 64 F_Sp_leastPolynomial) := qe_entry (by decide +kernel) (qw_cl_ok (d := d + 33) rfl rfl (fj_Sp_leastPolynomial (qe_G1 (fg_Sp_clear (d + 32)) (qe_G1 (fg_Nu_levelOf (d + 32)) (qe_G1 (fg_Sp_add (d + 32)) (qe_G1 (fg_Nu_product (d + 0)) (qe_G1 (fg_Sp_tagOf (d + 32)) qe_G0)))))))
/-! TurnField$Steps.load(LTurnField$Position;)V -/
noncomputable def T_St_load (f_Ps_entryAt : Nat → Int32 → Int32 → qm_M → Option qm_R) : qe_T := [(92, 0, 5, 2, qw_rii f_Ps_entryAt)]
def X_St_load_9 (f_Ps_entryAt : Nat → Int32 → Int32 → qm_M → Option qm_R) (l2 : Int32 → qm_M → Option qm_R) (l9 : Int32 → Int32 → qm_M → Option qm_R) (v2 : Int32) (v3 : Int32) (m : qm_M) : Option qm_R :=
  if v3 < (8 : Int32) then
    qe_rL (f_Ps_entryAt 1 v2 v3 m) fun x1 m1 =>
    qe_b (qm_in (((8 : Int32) * v2) + v3) 32) (
    let m2 : qm_M := qm_sL m1 68 (Int32.toNatClampNeg (((8 : Int32) * v2) + v3)) x1
    l9 v2 (v3 + (1 : Int32)) m2)
  else
    l2 (v2 + (1 : Int32)) m
set_option maxRecDepth 100000 in
theorem xg_St_load_9 {kp : pm_K} {d : Nat} {f_Ps_entryAt : Nat → Int32 → Int32 → qm_M → Option qm_R} {l2 : Int32 → qm_M → Option qm_R} {l9 : Int32 → Int32 → qm_M → Option qm_R} (hT : qe_G kp d (T_St_load f_Ps_entryAt)) (h2 : ∀ (v2 : Int32) (m : qm_M), qe_J kp md_St_load d (l2 v2 m) 2 [(0, .ref 67), (1, .ref 1), (2, .int v2)] [] m) (h9 : ∀ (v2 : Int32) (v3 : Int32) (m : qm_M), qe_J kp md_St_load d (l9 v2 v3 m) 9 [(0, .ref 67), (1, .ref 1), (2, .int v2), (3, .int v3)] [] m) (v2 : Int32) (v3 : Int32) (m : qm_M) : qe_J kp md_St_load d (X_St_load_9 f_Ps_entryAt l2 l9 v2 v3 m) 9 [(0, .ref 67), (1, .ref 1), (2, .int v2), (3, .int v3)] [] m := qe_run (B := [(2, [0, 1, 2], qp_cci_ 67 1 l2), (9, [0, 1, 2, 3], qp_ccii_ 67 1 l9)]) (n := 1000) hT (qe_B1 (qp_cci__ok h2) (qe_B1 (qp_ccii__ok h9) qe_B0)) rfl
def L_St_load_9 (K2 : Int32 → qm_M → Option qm_R) : Nat → Int32 → Int32 → qm_M → Option qm_R
  | 0, _, _, _ => none
  | n + 1, v2, v3, m => X_St_load_9 F_Ps_entryAt K2 (L_St_load_9 K2 n) v2 v3 m
theorem lg_St_load_9 {kp : pm_K} {d : Nat} (hT : qe_G kp d (T_St_load F_Ps_entryAt)) {K2 : Int32 → qm_M → Option qm_R} (hK2 : ∀ (v2 : Int32) (m : qm_M), qe_J kp md_St_load d (K2 v2 m) 2 [(0, .ref 67), (1, .ref 1), (2, .int v2)] [] m) : ∀ (n : Nat) (v2 : Int32) (v3 : Int32) (m : qm_M), qe_J kp md_St_load d (L_St_load_9 K2 n v2 v3 m) 9 [(0, .ref 67), (1, .ref 1), (2, .int v2), (3, .int v3)] [] m
  | 0, v2, v3, m => qe_none rfl
  | n + 1, v2, v3, m => xg_St_load_9 hT hK2 (lg_St_load_9 hT hK2 n) v2 v3 m
def X_St_load_2 (f_Ps_entryAt : Nat → Int32 → Int32 → qm_M → Option qm_R) (l9 : Int32 → Int32 → qm_M → Option qm_R) (v2 : Int32) (m : qm_M) : Option qm_R :=
  if v2 < (4 : Int32) then
    l9 v2 (0 : Int32) m
  else
    some (none, m)
set_option maxRecDepth 100000 in
theorem xg_St_load_2 {kp : pm_K} {d : Nat} {f_Ps_entryAt : Nat → Int32 → Int32 → qm_M → Option qm_R} {l9 : Int32 → Int32 → qm_M → Option qm_R} (hT : qe_G kp d (T_St_load f_Ps_entryAt)) (h9 : ∀ (v2 : Int32) (v3 : Int32) (m : qm_M), qe_J kp md_St_load d (l9 v2 v3 m) 9 [(0, .ref 67), (1, .ref 1), (2, .int v2), (3, .int v3)] [] m) (v2 : Int32) (m : qm_M) : qe_J kp md_St_load d (X_St_load_2 f_Ps_entryAt l9 v2 m) 2 [(0, .ref 67), (1, .ref 1), (2, .int v2)] [] m := qe_run (B := [(9, [0, 1, 2, 3], qp_ccii_ 67 1 l9)]) (n := 1000) hT (qe_B1 (qp_ccii__ok h9) qe_B0) rfl
def L_St_load_2 : Nat → Int32 → qm_M → Option qm_R
  | 0, _, _ => none
  | n + 1, v2, m => X_St_load_2 F_Ps_entryAt (L_St_load_9 (L_St_load_2 n) 1000000) v2 m
theorem lg_St_load_2 {kp : pm_K} {d : Nat} (hT : qe_G kp d (T_St_load F_Ps_entryAt)) : ∀ (n : Nat) (v2 : Int32) (m : qm_M), qe_J kp md_St_load d (L_St_load_2 n v2 m) 2 [(0, .ref 67), (1, .ref 1), (2, .int v2)] [] m
  | 0, v2, m => qe_none rfl
  | n + 1, v2, m => xg_St_load_2 hT (lg_St_load_9 hT (lg_St_load_2 hT n) 1000000) v2 m
def X_St_load_e (f_Ps_entryAt : Nat → Int32 → Int32 → qm_M → Option qm_R) (l2 : Int32 → qm_M → Option qm_R)  (m : qm_M) : Option qm_R :=
  l2 (0 : Int32) m
set_option maxRecDepth 100000 in
theorem xg_St_load_e {kp : pm_K} {d : Nat} {f_Ps_entryAt : Nat → Int32 → Int32 → qm_M → Option qm_R} {l2 : Int32 → qm_M → Option qm_R} (hT : qe_G kp d (T_St_load f_Ps_entryAt)) (h2 : ∀ (v2 : Int32) (m : qm_M), qe_J kp md_St_load d (l2 v2 m) 2 [(0, .ref 67), (1, .ref 1), (2, .int v2)] [] m) (m : qm_M) : qe_J kp md_St_load d (X_St_load_e f_Ps_entryAt l2 m) 0 [(0, .ref 67), (1, .ref 1)] [] m := qe_run (B := [(2, [0, 1, 2], qp_cci_ 67 1 l2)]) (n := 1000) hT (qe_B1 (qp_cci__ok h2) qe_B0) rfl
def F_St_load (m : qm_M) : Option qm_R := X_St_load_e F_Ps_entryAt (L_St_load_2 1000000) m
theorem fj_St_load {kp : pm_K} {d : Nat} (hT : qe_G kp d (T_St_load F_Ps_entryAt)) (m : qm_M) : qe_J kp md_St_load d (F_St_load m) 0 [(0, .ref 67), (1, .ref 1)] [] m := xg_St_load_e hT (lg_St_load_2 hT 1000000) m
theorem fg_St_load {kp : pm_K} (d : Nat) : qe_GE kp (d + 3) (111, 0, 8, 0, qw_cc 67 1 F_St_load) := qe_entry (by decide +kernel) (qw_cc_ok (d := d + 2) rfl rfl (fj_St_load (qe_G1 (fg_Ps_entryAt (d + 0)) qe_G0)))
/-! TurnField$Steps.firstWith(II)I -/
noncomputable def T_St_firstWith : qe_T := []
def X_St_firstWith_5 (l5 : Int32 → Int32 → Int32 → qm_M → Option qm_R) (v1 : Int32) (v2 : Int32) (v3 : Int32) (m : qm_M) : Option qm_R :=
  if v3 < v2 then
    qe_b (qm_in (((8 : Int32) * v3) + v1) 32) (
    if (lg_cmp (m.2 68 (Int32.toNatClampNeg (((8 : Int32) * v3) + v1))) (0 : Int64)) = 0 then
      l5 v1 v2 (v3 + (1 : Int32)) m
    else
      some (some (.int v3), m))
  else
    some (some (.int v3), m)
set_option maxRecDepth 100000 in
theorem xg_St_firstWith_5 {kp : pm_K} {d : Nat} {l5 : Int32 → Int32 → Int32 → qm_M → Option qm_R} (hT : qe_G kp d (T_St_firstWith)) (h5 : ∀ (v1 : Int32) (v2 : Int32) (v3 : Int32) (m : qm_M), qe_J kp md_St_firstWith d (l5 v1 v2 v3 m) 5 [(0, .ref 67), (1, .int v1), (2, .int v2), (3, .int v3)] [] m) (v1 : Int32) (v2 : Int32) (v3 : Int32) (m : qm_M) : qe_J kp md_St_firstWith d (X_St_firstWith_5 l5 v1 v2 v3 m) 5 [(0, .ref 67), (1, .int v1), (2, .int v2), (3, .int v3)] [] m := qe_run (B := [(5, [0, 1, 2, 3], qp_ciii_ 67 l5)]) (n := 1000) hT (qe_B1 (qp_ciii__ok h5) qe_B0) rfl
def L_St_firstWith_5 : Nat → Int32 → Int32 → Int32 → qm_M → Option qm_R
  | 0, _, _, _, _ => none
  | n + 1, v1, v2, v3, m => X_St_firstWith_5 (L_St_firstWith_5 n) v1 v2 v3 m
theorem lg_St_firstWith_5 {kp : pm_K} {d : Nat} (hT : qe_G kp d (T_St_firstWith)) : ∀ (n : Nat) (v1 : Int32) (v2 : Int32) (v3 : Int32) (m : qm_M), qe_J kp md_St_firstWith d (L_St_firstWith_5 n v1 v2 v3 m) 5 [(0, .ref 67), (1, .int v1), (2, .int v2), (3, .int v3)] [] m
  | 0, v1, v2, v3, m => qe_none rfl
  | n + 1, v1, v2, v3, m => xg_St_firstWith_5 hT (lg_St_firstWith_5 hT n) v1 v2 v3 m
def X_St_firstWith_e (l5 : Int32 → Int32 → Int32 → qm_M → Option qm_R) (v1 : Int32) (v2 : Int32) (m : qm_M) : Option qm_R :=
  l5 v1 v2 (m.1 67 2) m
set_option maxRecDepth 100000 in
theorem xg_St_firstWith_e {kp : pm_K} {d : Nat} {l5 : Int32 → Int32 → Int32 → qm_M → Option qm_R} (hT : qe_G kp d (T_St_firstWith)) (h5 : ∀ (v1 : Int32) (v2 : Int32) (v3 : Int32) (m : qm_M), qe_J kp md_St_firstWith d (l5 v1 v2 v3 m) 5 [(0, .ref 67), (1, .int v1), (2, .int v2), (3, .int v3)] [] m) (v1 : Int32) (v2 : Int32) (m : qm_M) : qe_J kp md_St_firstWith d (X_St_firstWith_e l5 v1 v2 m) 0 [(0, .ref 67), (1, .int v1), (2, .int v2)] [] m := qe_run (B := [(5, [0, 1, 2, 3], qp_ciii_ 67 l5)]) (n := 1000) hT (qe_B1 (qp_ciii__ok h5) qe_B0) rfl
def F_St_firstWith (v1 : Int32) (v2 : Int32) (m : qm_M) : Option qm_R := X_St_firstWith_e (L_St_firstWith_5 1000000) v1 v2 m
theorem fj_St_firstWith {kp : pm_K} {d : Nat} (hT : qe_G kp d (T_St_firstWith)) (v1 : Int32) (v2 : Int32) (m : qm_M) : qe_J kp md_St_firstWith d (F_St_firstWith v1 v2 m) 0 [(0, .ref 67), (1, .int v1), (2, .int v2)] [] m := xg_St_firstWith_e hT (lg_St_firstWith_5 hT 1000000) v1 v2 m
theorem fg_St_firstWith {kp : pm_K} (d : Nat) : qe_GE kp (d + 1) (113, 0, 8, 1, qw_cii 67 F_St_firstWith) := qe_entry (by decide +kernel) (qw_cii_ok (d := d + 0) rfl rfl (fj_St_firstWith qe_G0))
/-! TurnField$Steps.swap(III)V -/
noncomputable def T_St_swap : qe_T := []
def X_St_swap_3 (l3 : Int32 → Int32 → Int32 → Int32 → qm_M → Option qm_R) (v1 : Int32) (v2 : Int32) (v3 : Int32) (v4 : Int32) (m : qm_M) : Option qm_R :=
  if v4 < v3 then
    qe_b (qm_in (((8 : Int32) * v1) + v4) 32) (
    let x1 : Int64 := (m.2 68 (Int32.toNatClampNeg (((8 : Int32) * v1) + v4)))
    qe_b (qm_in (((8 : Int32) * v2) + v4) 32) (
    qe_b (qm_in (((8 : Int32) * v1) + v4) 32) (
    let m1 : qm_M := qm_sL m 68 (Int32.toNatClampNeg (((8 : Int32) * v1) + v4)) (m.2 68 (Int32.toNatClampNeg (((8 : Int32) * v2) + v4)))
    qe_b (qm_in (((8 : Int32) * v2) + v4) 32) (
    let m2 : qm_M := qm_sL m1 68 (Int32.toNatClampNeg (((8 : Int32) * v2) + v4)) x1
    l3 v1 v2 v3 (v4 + (1 : Int32)) m2))))
  else
    some (none, m)
set_option maxRecDepth 100000 in
theorem xg_St_swap_3 {kp : pm_K} {d : Nat} {l3 : Int32 → Int32 → Int32 → Int32 → qm_M → Option qm_R} (hT : qe_G kp d (T_St_swap)) (h3 : ∀ (v1 : Int32) (v2 : Int32) (v3 : Int32) (v4 : Int32) (m : qm_M), qe_J kp md_St_swap d (l3 v1 v2 v3 v4 m) 3 [(0, .ref 67), (1, .int v1), (2, .int v2), (3, .int v3), (4, .int v4)] [] m) (v1 : Int32) (v2 : Int32) (v3 : Int32) (v4 : Int32) (m : qm_M) : qe_J kp md_St_swap d (X_St_swap_3 l3 v1 v2 v3 v4 m) 3 [(0, .ref 67), (1, .int v1), (2, .int v2), (3, .int v3), (4, .int v4)] [] m := qe_run (B := [(3, [0, 1, 2, 3, 4], qp_ciiii_ 67 l3)]) (n := 1000) hT (qe_B1 (qp_ciiii__ok h3) qe_B0) rfl
def L_St_swap_3 : Nat → Int32 → Int32 → Int32 → Int32 → qm_M → Option qm_R
  | 0, _, _, _, _, _ => none
  | n + 1, v1, v2, v3, v4, m => X_St_swap_3 (L_St_swap_3 n) v1 v2 v3 v4 m
theorem lg_St_swap_3 {kp : pm_K} {d : Nat} (hT : qe_G kp d (T_St_swap)) : ∀ (n : Nat) (v1 : Int32) (v2 : Int32) (v3 : Int32) (v4 : Int32) (m : qm_M), qe_J kp md_St_swap d (L_St_swap_3 n v1 v2 v3 v4 m) 3 [(0, .ref 67), (1, .int v1), (2, .int v2), (3, .int v3), (4, .int v4)] [] m
  | 0, v1, v2, v3, v4, m => qe_none rfl
  | n + 1, v1, v2, v3, v4, m => xg_St_swap_3 hT (lg_St_swap_3 hT n) v1 v2 v3 v4 m
def X_St_swap_e (l3 : Int32 → Int32 → Int32 → Int32 → qm_M → Option qm_R) (v1 : Int32) (v2 : Int32) (v3 : Int32) (m : qm_M) : Option qm_R :=
  l3 v1 v2 v3 (0 : Int32) m
set_option maxRecDepth 100000 in
theorem xg_St_swap_e {kp : pm_K} {d : Nat} {l3 : Int32 → Int32 → Int32 → Int32 → qm_M → Option qm_R} (hT : qe_G kp d (T_St_swap)) (h3 : ∀ (v1 : Int32) (v2 : Int32) (v3 : Int32) (v4 : Int32) (m : qm_M), qe_J kp md_St_swap d (l3 v1 v2 v3 v4 m) 3 [(0, .ref 67), (1, .int v1), (2, .int v2), (3, .int v3), (4, .int v4)] [] m) (v1 : Int32) (v2 : Int32) (v3 : Int32) (m : qm_M) : qe_J kp md_St_swap d (X_St_swap_e l3 v1 v2 v3 m) 0 [(0, .ref 67), (1, .int v1), (2, .int v2), (3, .int v3)] [] m := qe_run (B := [(3, [0, 1, 2, 3, 4], qp_ciiii_ 67 l3)]) (n := 1000) hT (qe_B1 (qp_ciiii__ok h3) qe_B0) rfl
def F_St_swap (v1 : Int32) (v2 : Int32) (v3 : Int32) (m : qm_M) : Option qm_R := X_St_swap_e (L_St_swap_3 1000000) v1 v2 v3 m
theorem fj_St_swap {kp : pm_K} {d : Nat} (hT : qe_G kp d (T_St_swap)) (v1 : Int32) (v2 : Int32) (v3 : Int32) (m : qm_M) : qe_J kp md_St_swap d (F_St_swap v1 v2 v3 m) 0 [(0, .ref 67), (1, .int v1), (2, .int v2), (3, .int v3)] [] m := xg_St_swap_e hT (lg_St_swap_3 hT 1000000) v1 v2 v3 m
theorem fg_St_swap {kp : pm_K} (d : Nat) : qe_GE kp (d + 1) (114, 0, 8, 0, qw_ciii 67 F_St_swap) := qe_entry (by decide +kernel) (qw_ciii_ok (d := d + 0) rfl rfl (fj_St_swap qe_G0))
/-! TurnField$Steps.lead(II)V -/
noncomputable def T_St_lead (f_Nu_inverted : Int64 → qm_M → Option qm_R) (f_Nu_product : Int64 → Int64 → qm_M → Option qm_R) : qe_T := [(28, 1, 0, 2, qw_l f_Nu_inverted), (22, 1, 0, 2, qw_ll f_Nu_product)]
def X_St_lead_36 (f_Nu_inverted : Int64 → qm_M → Option qm_R) (f_Nu_product : Int64 → Int64 → qm_M → Option qm_R) (l36 : Int32 → Int64 → Int32 → qm_M → Option qm_R) (v2 : Int32) (v5 : Int64) (v7 : Int32) (m : qm_M) : Option qm_R :=
  if v7 < v2 then
    qe_b (qm_in (((8 : Int32) * (m.1 67 2)) + v7) 32) (
    qe_rL (f_Nu_product (m.2 68 (Int32.toNatClampNeg (((8 : Int32) * (m.1 67 2)) + v7))) v5 m) fun x1 m1 =>
    qe_b (qm_in (((8 : Int32) * (m.1 67 2)) + v7) 32) (
    let m2 : qm_M := qm_sL m1 68 (Int32.toNatClampNeg (((8 : Int32) * (m.1 67 2)) + v7)) x1
    l36 v2 v5 (v7 + (1 : Int32)) m2))
  else
    some (none, m)
set_option maxRecDepth 100000 in
theorem xg_St_lead_36 {kp : pm_K} {d : Nat} {f_Nu_inverted : Int64 → qm_M → Option qm_R} {f_Nu_product : Int64 → Int64 → qm_M → Option qm_R} {l36 : Int32 → Int64 → Int32 → qm_M → Option qm_R} (hT : qe_G kp d (T_St_lead f_Nu_inverted f_Nu_product)) (h36 : ∀ (v2 : Int32) (v5 : Int64) (v7 : Int32) (m : qm_M), qe_J kp md_St_lead d (l36 v2 v5 v7 m) 36 [(0, .ref 67), (2, .int v2), (5, .long v5), (7, .int v7)] [] m) (v2 : Int32) (v5 : Int64) (v7 : Int32) (m : qm_M) : qe_J kp md_St_lead d (X_St_lead_36 f_Nu_inverted f_Nu_product l36 v2 v5 v7 m) 36 [(0, .ref 67), (2, .int v2), (5, .long v5), (7, .int v7)] [] m := qe_run (B := [(36, [0, 2, 5, 7], qp_cili_ 67 l36)]) (n := 1000) hT (qe_B1 (qp_cili__ok h36) qe_B0) rfl
def L_St_lead_36 : Nat → Int32 → Int64 → Int32 → qm_M → Option qm_R
  | 0, _, _, _, _ => none
  | n + 1, v2, v5, v7, m => X_St_lead_36 F_Nu_inverted F_Nu_product (L_St_lead_36 n) v2 v5 v7 m
theorem lg_St_lead_36 {kp : pm_K} {d : Nat} (hT : qe_G kp d (T_St_lead F_Nu_inverted F_Nu_product)) : ∀ (n : Nat) (v2 : Int32) (v5 : Int64) (v7 : Int32) (m : qm_M), qe_J kp md_St_lead d (L_St_lead_36 n v2 v5 v7 m) 36 [(0, .ref 67), (2, .int v2), (5, .long v5), (7, .int v7)] [] m
  | 0, v2, v5, v7, m => qe_none rfl
  | n + 1, v2, v5, v7, m => xg_St_lead_36 hT (lg_St_lead_36 hT n) v2 v5 v7 m
def X_St_lead_e (f_Nu_inverted : Int64 → qm_M → Option qm_R) (f_Nu_product : Int64 → Int64 → qm_M → Option qm_R) (l36 : Int32 → Int64 → Int32 → qm_M → Option qm_R) (v1 : Int32) (v2 : Int32) (m : qm_M) : Option qm_R :=
  qe_b (qm_in (((8 : Int32) * (m.1 67 2)) + v1) 32) (
  let x1 : Int64 := (m.2 68 (Int32.toNatClampNeg (((8 : Int32) * (m.1 67 2)) + v1)))
  qe_rL (f_Nu_inverted x1 m) fun x2 m1 =>
  qe_rL (f_Nu_product (m1.2 67 3) x1 m1) fun x3 m2 =>
  let m3 : qm_M := qm_sL m2 67 3 x3
  l36 v2 x2 v1 m3)
set_option maxRecDepth 100000 in
theorem xg_St_lead_e {kp : pm_K} {d : Nat} {f_Nu_inverted : Int64 → qm_M → Option qm_R} {f_Nu_product : Int64 → Int64 → qm_M → Option qm_R} {l36 : Int32 → Int64 → Int32 → qm_M → Option qm_R} (hT : qe_G kp d (T_St_lead f_Nu_inverted f_Nu_product)) (h36 : ∀ (v2 : Int32) (v5 : Int64) (v7 : Int32) (m : qm_M), qe_J kp md_St_lead d (l36 v2 v5 v7 m) 36 [(0, .ref 67), (2, .int v2), (5, .long v5), (7, .int v7)] [] m) (v1 : Int32) (v2 : Int32) (m : qm_M) : qe_J kp md_St_lead d (X_St_lead_e f_Nu_inverted f_Nu_product l36 v1 v2 m) 0 [(0, .ref 67), (1, .int v1), (2, .int v2)] [] m := qe_run (B := [(36, [0, 2, 5, 7], qp_cili_ 67 l36)]) (n := 1000) hT (qe_B1 (qp_cili__ok h36) qe_B0) rfl
def F_St_lead (v1 : Int32) (v2 : Int32) (m : qm_M) : Option qm_R := X_St_lead_e F_Nu_inverted F_Nu_product (L_St_lead_36 1000000) v1 v2 m
theorem fj_St_lead {kp : pm_K} {d : Nat} (hT : qe_G kp d (T_St_lead F_Nu_inverted F_Nu_product)) (v1 : Int32) (v2 : Int32) (m : qm_M) : qe_J kp md_St_lead d (F_St_lead v1 v2 m) 0 [(0, .ref 67), (1, .int v1), (2, .int v2)] [] m := xg_St_lead_e hT (lg_St_lead_36 hT 1000000) v1 v2 m
theorem fg_St_lead {kp : pm_K} (d : Nat) : qe_GE kp (d + 34) (115, 0, 8, 0, qw_cii 67 F_St_lead) := qe_entry (by decide +kernel) (qw_cii_ok (d := d + 33) rfl rfl (fj_St_lead (qe_G1 (fg_Nu_inverted (d + 0)) (qe_G1 (fg_Nu_product (d + 0)) qe_G0))))
/-! TurnField$Steps.clearOthers(III)V -/
noncomputable def T_St_clearOthers (f_Nu_product : Int64 → Int64 → qm_M → Option qm_R) : qe_T := [(22, 1, 0, 2, qw_ll f_Nu_product)]
def X_St_clearOthers_26 (f_Nu_product : Int64 → Int64 → qm_M → Option qm_R) (l3 : Int32 → Int32 → Int32 → Int32 → qm_M → Option qm_R) (l26 : Int32 → Int32 → Int32 → Int32 → Int64 → Int32 → qm_M → Option qm_R) (v1 : Int32) (v2 : Int32) (v3 : Int32) (v4 : Int32) (v5 : Int64) (v7 : Int32) (m : qm_M) : Option qm_R :=
  if v4 = (m.1 67 2) then
    l3 v1 v2 v3 (v4 + (1 : Int32)) m
  else
    if v7 < v3 then
      qe_b (qm_in (((8 : Int32) * v4) + v7) 32) (
      qe_b (qm_in (((8 : Int32) * (m.1 67 2)) + v7) 32) (
      qe_rL (f_Nu_product v5 (m.2 68 (Int32.toNatClampNeg (((8 : Int32) * (m.1 67 2)) + v7))) m) fun x1 m1 =>
      qe_b (qm_in (((8 : Int32) * v4) + v7) 32) (
      let m2 : qm_M := qm_sL m1 68 (Int32.toNatClampNeg (((8 : Int32) * v4) + v7)) ((m.2 68 (Int32.toNatClampNeg (((8 : Int32) * v4) + v7))) ^^^ x1)
      l26 v1 v2 v3 v4 v5 (v7 + (1 : Int32)) m2)))
    else
      l3 v1 v2 v3 (v4 + (1 : Int32)) m
set_option maxRecDepth 100000 in
theorem xg_St_clearOthers_26 {kp : pm_K} {d : Nat} {f_Nu_product : Int64 → Int64 → qm_M → Option qm_R} {l3 : Int32 → Int32 → Int32 → Int32 → qm_M → Option qm_R} {l26 : Int32 → Int32 → Int32 → Int32 → Int64 → Int32 → qm_M → Option qm_R} (hT : qe_G kp d (T_St_clearOthers f_Nu_product)) (h3 : ∀ (v1 : Int32) (v2 : Int32) (v3 : Int32) (v4 : Int32) (m : qm_M), qe_J kp md_St_clearOthers d (l3 v1 v2 v3 v4 m) 3 [(0, .ref 67), (1, .int v1), (2, .int v2), (3, .int v3), (4, .int v4)] [] m) (h26 : ∀ (v1 : Int32) (v2 : Int32) (v3 : Int32) (v4 : Int32) (v5 : Int64) (v7 : Int32) (m : qm_M), qe_J kp md_St_clearOthers d (l26 v1 v2 v3 v4 v5 v7 m) 26 [(0, .ref 67), (1, .int v1), (2, .int v2), (3, .int v3), (4, .int v4), (5, .long v5), (7, .int v7)] [] m) (v1 : Int32) (v2 : Int32) (v3 : Int32) (v4 : Int32) (v5 : Int64) (v7 : Int32) (m : qm_M) : qe_J kp md_St_clearOthers d (X_St_clearOthers_26 f_Nu_product l3 l26 v1 v2 v3 v4 v5 v7 m) 26 [(0, .ref 67), (1, .int v1), (2, .int v2), (3, .int v3), (4, .int v4), (5, .long v5), (7, .int v7)] [] m := qe_run (B := [(3, [0, 1, 2, 3, 4], qp_ciiii_ 67 l3), (26, [0, 1, 2, 3, 4, 5, 7], qp_ciiiili_ 67 l26)]) (n := 1000) hT (qe_B1 (qp_ciiii__ok h3) (qe_B1 (qp_ciiiili__ok h26) qe_B0)) rfl
def L_St_clearOthers_26 (K3 : Int32 → Int32 → Int32 → Int32 → qm_M → Option qm_R) : Nat → Int32 → Int32 → Int32 → Int32 → Int64 → Int32 → qm_M → Option qm_R
  | 0, _, _, _, _, _, _, _ => none
  | n + 1, v1, v2, v3, v4, v5, v7, m => X_St_clearOthers_26 F_Nu_product K3 (L_St_clearOthers_26 K3 n) v1 v2 v3 v4 v5 v7 m
theorem lg_St_clearOthers_26 {kp : pm_K} {d : Nat} (hT : qe_G kp d (T_St_clearOthers F_Nu_product)) {K3 : Int32 → Int32 → Int32 → Int32 → qm_M → Option qm_R} (hK3 : ∀ (v1 : Int32) (v2 : Int32) (v3 : Int32) (v4 : Int32) (m : qm_M), qe_J kp md_St_clearOthers d (K3 v1 v2 v3 v4 m) 3 [(0, .ref 67), (1, .int v1), (2, .int v2), (3, .int v3), (4, .int v4)] [] m) : ∀ (n : Nat) (v1 : Int32) (v2 : Int32) (v3 : Int32) (v4 : Int32) (v5 : Int64) (v7 : Int32) (m : qm_M), qe_J kp md_St_clearOthers d (L_St_clearOthers_26 K3 n v1 v2 v3 v4 v5 v7 m) 26 [(0, .ref 67), (1, .int v1), (2, .int v2), (3, .int v3), (4, .int v4), (5, .long v5), (7, .int v7)] [] m
  | 0, v1, v2, v3, v4, v5, v7, m => qe_none rfl
  | n + 1, v1, v2, v3, v4, v5, v7, m => xg_St_clearOthers_26 hT hK3 (lg_St_clearOthers_26 hT hK3 n) v1 v2 v3 v4 v5 v7 m
def X_St_clearOthers_3 (f_Nu_product : Int64 → Int64 → qm_M → Option qm_R) (l26 : Int32 → Int32 → Int32 → Int32 → Int64 → Int32 → qm_M → Option qm_R) (v1 : Int32) (v2 : Int32) (v3 : Int32) (v4 : Int32) (m : qm_M) : Option qm_R :=
  if v4 < v2 then
    qe_b (qm_in (((8 : Int32) * v4) + v1) 32) (
    let x1 : Int64 := (m.2 68 (Int32.toNatClampNeg (((8 : Int32) * v4) + v1)))
    l26 v1 v2 v3 v4 x1 v1 m)
  else
    some (none, m)
set_option maxRecDepth 100000 in
theorem xg_St_clearOthers_3 {kp : pm_K} {d : Nat} {f_Nu_product : Int64 → Int64 → qm_M → Option qm_R} {l26 : Int32 → Int32 → Int32 → Int32 → Int64 → Int32 → qm_M → Option qm_R} (hT : qe_G kp d (T_St_clearOthers f_Nu_product)) (h26 : ∀ (v1 : Int32) (v2 : Int32) (v3 : Int32) (v4 : Int32) (v5 : Int64) (v7 : Int32) (m : qm_M), qe_J kp md_St_clearOthers d (l26 v1 v2 v3 v4 v5 v7 m) 26 [(0, .ref 67), (1, .int v1), (2, .int v2), (3, .int v3), (4, .int v4), (5, .long v5), (7, .int v7)] [] m) (v1 : Int32) (v2 : Int32) (v3 : Int32) (v4 : Int32) (m : qm_M) : qe_J kp md_St_clearOthers d (X_St_clearOthers_3 f_Nu_product l26 v1 v2 v3 v4 m) 3 [(0, .ref 67), (1, .int v1), (2, .int v2), (3, .int v3), (4, .int v4)] [] m := qe_run (B := [(26, [0, 1, 2, 3, 4, 5, 7], qp_ciiiili_ 67 l26)]) (n := 1000) hT (qe_B1 (qp_ciiiili__ok h26) qe_B0) rfl
def L_St_clearOthers_3 : Nat → Int32 → Int32 → Int32 → Int32 → qm_M → Option qm_R
  | 0, _, _, _, _, _ => none
  | n + 1, v1, v2, v3, v4, m => X_St_clearOthers_3 F_Nu_product (L_St_clearOthers_26 (L_St_clearOthers_3 n) 1000000) v1 v2 v3 v4 m
theorem lg_St_clearOthers_3 {kp : pm_K} {d : Nat} (hT : qe_G kp d (T_St_clearOthers F_Nu_product)) : ∀ (n : Nat) (v1 : Int32) (v2 : Int32) (v3 : Int32) (v4 : Int32) (m : qm_M), qe_J kp md_St_clearOthers d (L_St_clearOthers_3 n v1 v2 v3 v4 m) 3 [(0, .ref 67), (1, .int v1), (2, .int v2), (3, .int v3), (4, .int v4)] [] m
  | 0, v1, v2, v3, v4, m => qe_none rfl
  | n + 1, v1, v2, v3, v4, m => xg_St_clearOthers_3 hT (lg_St_clearOthers_26 hT (lg_St_clearOthers_3 hT n) 1000000) v1 v2 v3 v4 m
def X_St_clearOthers_e (f_Nu_product : Int64 → Int64 → qm_M → Option qm_R) (l3 : Int32 → Int32 → Int32 → Int32 → qm_M → Option qm_R) (v1 : Int32) (v2 : Int32) (v3 : Int32) (m : qm_M) : Option qm_R :=
  l3 v1 v2 v3 (0 : Int32) m
set_option maxRecDepth 100000 in
theorem xg_St_clearOthers_e {kp : pm_K} {d : Nat} {f_Nu_product : Int64 → Int64 → qm_M → Option qm_R} {l3 : Int32 → Int32 → Int32 → Int32 → qm_M → Option qm_R} (hT : qe_G kp d (T_St_clearOthers f_Nu_product)) (h3 : ∀ (v1 : Int32) (v2 : Int32) (v3 : Int32) (v4 : Int32) (m : qm_M), qe_J kp md_St_clearOthers d (l3 v1 v2 v3 v4 m) 3 [(0, .ref 67), (1, .int v1), (2, .int v2), (3, .int v3), (4, .int v4)] [] m) (v1 : Int32) (v2 : Int32) (v3 : Int32) (m : qm_M) : qe_J kp md_St_clearOthers d (X_St_clearOthers_e f_Nu_product l3 v1 v2 v3 m) 0 [(0, .ref 67), (1, .int v1), (2, .int v2), (3, .int v3)] [] m := qe_run (B := [(3, [0, 1, 2, 3, 4], qp_ciiii_ 67 l3)]) (n := 1000) hT (qe_B1 (qp_ciiii__ok h3) qe_B0) rfl
def F_St_clearOthers (v1 : Int32) (v2 : Int32) (v3 : Int32) (m : qm_M) : Option qm_R := X_St_clearOthers_e F_Nu_product (L_St_clearOthers_3 1000000) v1 v2 v3 m
theorem fj_St_clearOthers {kp : pm_K} {d : Nat} (hT : qe_G kp d (T_St_clearOthers F_Nu_product)) (v1 : Int32) (v2 : Int32) (v3 : Int32) (m : qm_M) : qe_J kp md_St_clearOthers d (F_St_clearOthers v1 v2 v3 m) 0 [(0, .ref 67), (1, .int v1), (2, .int v2), (3, .int v3)] [] m := xg_St_clearOthers_e hT (lg_St_clearOthers_3 hT 1000000) v1 v2 v3 m
theorem fg_St_clearOthers {kp : pm_K} (d : Nat) : qe_GE kp (d + 34) (116, 0, 8, 0, qw_ciii 67 F_St_clearOthers) := qe_entry (by decide +kernel) (qw_ciii_ok (d := d + 33) rfl rfl (fj_St_clearOthers (qe_G1 (fg_Nu_product (d + 0)) qe_G0)))
/-! TurnField$Steps.reduce(III)V -/
noncomputable def T_St_reduce (f_St_firstWith : Int32 → Int32 → qm_M → Option qm_R) (f_St_swap : Int32 → Int32 → Int32 → qm_M → Option qm_R) (f_St_lead : Int32 → Int32 → qm_M → Option qm_R) (f_St_clearOthers : Int32 → Int32 → Int32 → qm_M → Option qm_R) : qe_T := [(113, 0, 8, 1, qw_cii 67 f_St_firstWith), (114, 0, 8, 0, qw_ciii 67 f_St_swap), (115, 0, 8, 0, qw_cii 67 f_St_lead), (116, 0, 8, 0, qw_ciii 67 f_St_clearOthers)]
def X_St_reduce_13 (f_St_firstWith : Int32 → Int32 → qm_M → Option qm_R) (f_St_swap : Int32 → Int32 → Int32 → qm_M → Option qm_R) (f_St_lead : Int32 → Int32 → qm_M → Option qm_R) (f_St_clearOthers : Int32 → Int32 → Int32 → qm_M → Option qm_R) (l13 : Int32 → Int32 → Int32 → Int32 → qm_M → Option qm_R) (v1 : Int32) (v2 : Int32) (v3 : Int32) (v4 : Int32) (m : qm_M) : Option qm_R :=
  if v4 < v2 then
    if (m.1 67 2) < v1 then
      qe_rI (f_St_firstWith v4 v1 m) fun x1 m1 =>
      if x1 < v1 then
        qe_rV (f_St_swap x1 (m1.1 67 2) v3 m1) fun m2 =>
        qe_rV (f_St_lead v4 v3 m2) fun m3 =>
        qe_rV (f_St_clearOthers v4 v1 v3 m3) fun m4 =>
        qe_b (qm_in (m4.1 67 2) 4) (
        let m5 : qm_M := qm_sI m4 69 (Int32.toNatClampNeg (m4.1 67 2)) v4
        let m6 : qm_M := qm_sI m5 67 2 ((m5.1 67 2) + (1 : Int32))
        l13 v1 v2 v3 (v4 + (1 : Int32)) m6)
      else
        l13 v1 v2 v3 (v4 + (1 : Int32)) m1
    else
      some (none, m)
  else
    some (none, m)
set_option maxRecDepth 100000 in
theorem xg_St_reduce_13 {kp : pm_K} {d : Nat} {f_St_firstWith : Int32 → Int32 → qm_M → Option qm_R} {f_St_swap : Int32 → Int32 → Int32 → qm_M → Option qm_R} {f_St_lead : Int32 → Int32 → qm_M → Option qm_R} {f_St_clearOthers : Int32 → Int32 → Int32 → qm_M → Option qm_R} {l13 : Int32 → Int32 → Int32 → Int32 → qm_M → Option qm_R} (hT : qe_G kp d (T_St_reduce f_St_firstWith f_St_swap f_St_lead f_St_clearOthers)) (h13 : ∀ (v1 : Int32) (v2 : Int32) (v3 : Int32) (v4 : Int32) (m : qm_M), qe_J kp md_St_reduce d (l13 v1 v2 v3 v4 m) 13 [(0, .ref 67), (1, .int v1), (2, .int v2), (3, .int v3), (4, .int v4)] [] m) (v1 : Int32) (v2 : Int32) (v3 : Int32) (v4 : Int32) (m : qm_M) : qe_J kp md_St_reduce d (X_St_reduce_13 f_St_firstWith f_St_swap f_St_lead f_St_clearOthers l13 v1 v2 v3 v4 m) 13 [(0, .ref 67), (1, .int v1), (2, .int v2), (3, .int v3), (4, .int v4)] [] m := qe_run (B := [(13, [0, 1, 2, 3, 4], qp_ciiii_ 67 l13)]) (n := 1000) hT (qe_B1 (qp_ciiii__ok h13) qe_B0) rfl
def L_St_reduce_13 : Nat → Int32 → Int32 → Int32 → Int32 → qm_M → Option qm_R
  | 0, _, _, _, _, _ => none
  | n + 1, v1, v2, v3, v4, m => X_St_reduce_13 F_St_firstWith F_St_swap F_St_lead F_St_clearOthers (L_St_reduce_13 n) v1 v2 v3 v4 m
theorem lg_St_reduce_13 {kp : pm_K} {d : Nat} (hT : qe_G kp d (T_St_reduce F_St_firstWith F_St_swap F_St_lead F_St_clearOthers)) : ∀ (n : Nat) (v1 : Int32) (v2 : Int32) (v3 : Int32) (v4 : Int32) (m : qm_M), qe_J kp md_St_reduce d (L_St_reduce_13 n v1 v2 v3 v4 m) 13 [(0, .ref 67), (1, .int v1), (2, .int v2), (3, .int v3), (4, .int v4)] [] m
  | 0, v1, v2, v3, v4, m => qe_none rfl
  | n + 1, v1, v2, v3, v4, m => xg_St_reduce_13 hT (lg_St_reduce_13 hT n) v1 v2 v3 v4 m
def X_St_reduce_e (f_St_firstWith : Int32 → Int32 → qm_M → Option qm_R) (f_St_swap : Int32 → Int32 → Int32 → qm_M → Option qm_R) (f_St_lead : Int32 → Int32 → qm_M → Option qm_R) (f_St_clearOthers : Int32 → Int32 → Int32 → qm_M → Option qm_R) (l13 : Int32 → Int32 → Int32 → Int32 → qm_M → Option qm_R) (v1 : Int32) (v2 : Int32) (v3 : Int32) (m : qm_M) : Option qm_R :=
  let m1 : qm_M := qm_sI m 67 2 (0 : Int32)
  let m2 : qm_M := qm_sL m1 67 3 (1 : Int64)
  l13 v1 v2 v3 (0 : Int32) m2
set_option maxRecDepth 100000 in
theorem xg_St_reduce_e {kp : pm_K} {d : Nat} {f_St_firstWith : Int32 → Int32 → qm_M → Option qm_R} {f_St_swap : Int32 → Int32 → Int32 → qm_M → Option qm_R} {f_St_lead : Int32 → Int32 → qm_M → Option qm_R} {f_St_clearOthers : Int32 → Int32 → Int32 → qm_M → Option qm_R} {l13 : Int32 → Int32 → Int32 → Int32 → qm_M → Option qm_R} (hT : qe_G kp d (T_St_reduce f_St_firstWith f_St_swap f_St_lead f_St_clearOthers)) (h13 : ∀ (v1 : Int32) (v2 : Int32) (v3 : Int32) (v4 : Int32) (m : qm_M), qe_J kp md_St_reduce d (l13 v1 v2 v3 v4 m) 13 [(0, .ref 67), (1, .int v1), (2, .int v2), (3, .int v3), (4, .int v4)] [] m) (v1 : Int32) (v2 : Int32) (v3 : Int32) (m : qm_M) : qe_J kp md_St_reduce d (X_St_reduce_e f_St_firstWith f_St_swap f_St_lead f_St_clearOthers l13 v1 v2 v3 m) 0 [(0, .ref 67), (1, .int v1), (2, .int v2), (3, .int v3)] [] m := qe_run (B := [(13, [0, 1, 2, 3, 4], qp_ciiii_ 67 l13)]) (n := 1000) hT (qe_B1 (qp_ciiii__ok h13) qe_B0) rfl
def F_St_reduce (v1 : Int32) (v2 : Int32) (v3 : Int32) (m : qm_M) : Option qm_R := X_St_reduce_e F_St_firstWith F_St_swap F_St_lead F_St_clearOthers (L_St_reduce_13 1000000) v1 v2 v3 m
theorem fj_St_reduce {kp : pm_K} {d : Nat} (hT : qe_G kp d (T_St_reduce F_St_firstWith F_St_swap F_St_lead F_St_clearOthers)) (v1 : Int32) (v2 : Int32) (v3 : Int32) (m : qm_M) : qe_J kp md_St_reduce d (F_St_reduce v1 v2 v3 m) 0 [(0, .ref 67), (1, .int v1), (2, .int v2), (3, .int v3)] [] m := xg_St_reduce_e hT (lg_St_reduce_13 hT 1000000) v1 v2 v3 m
theorem fg_St_reduce {kp : pm_K} (d : Nat) : qe_GE kp (d + 35) (112, 0, 8, 0, qw_ciii 67 F_St_reduce) := qe_entry (by decide +kernel) (qw_ciii_ok (d := d + 34) rfl rfl (fj_St_reduce (qe_G1 (fg_St_firstWith (d + 33)) (qe_G1 (fg_St_swap (d + 33)) (qe_G1 (fg_St_lead (d + 0)) (qe_G1 (fg_St_clearOthers (d + 0)) qe_G0))))))
/-! TurnField$Steps.reduceGrid(LTurnField$Position;)V -/
noncomputable def T_St_reduceGrid (f_St_load : qm_M → Option qm_R) (f_St_reduce : Int32 → Int32 → Int32 → qm_M → Option qm_R) : qe_T := [(111, 0, 8, 0, qw_cc 67 1 f_St_load), (112, 0, 8, 0, qw_ciii 67 f_St_reduce)]
def X_St_reduceGrid_e (f_St_load : qm_M → Option qm_R) (f_St_reduce : Int32 → Int32 → Int32 → qm_M → Option qm_R)  (m : qm_M) : Option qm_R :=
  qe_rV (f_St_load m) fun m1 =>
  qe_rV (f_St_reduce (m1.1 1 8) (m1.1 1 9) (m1.1 1 9) m1) fun m2 =>
  some (none, m2)
set_option maxRecDepth 100000 in
theorem xg_St_reduceGrid_e {kp : pm_K} {d : Nat} {f_St_load : qm_M → Option qm_R} {f_St_reduce : Int32 → Int32 → Int32 → qm_M → Option qm_R} (hT : qe_G kp d (T_St_reduceGrid f_St_load f_St_reduce)) (m : qm_M) : qe_J kp md_St_reduceGrid d (X_St_reduceGrid_e f_St_load f_St_reduce m) 0 [(0, .ref 67), (1, .ref 1)] [] m := qe_run (B := []) (n := 1000) hT qe_B0 rfl
def F_St_reduceGrid (m : qm_M) : Option qm_R := X_St_reduceGrid_e F_St_load F_St_reduce m
theorem fj_St_reduceGrid {kp : pm_K} {d : Nat} (hT : qe_G kp d (T_St_reduceGrid F_St_load F_St_reduce)) (m : qm_M) : qe_J kp md_St_reduceGrid d (F_St_reduceGrid m) 0 [(0, .ref 67), (1, .ref 1)] [] m := xg_St_reduceGrid_e hT m
theorem fg_St_reduceGrid {kp : pm_K} (d : Nat) : qe_GE kp (d + 36) (109, 0, 8, 0, qw_cc 67 1 F_St_reduceGrid) := qe_entry (by decide +kernel) (qw_cc_ok (d := d + 35) rfl rfl (fj_St_reduceGrid (qe_G1 (fg_St_load (d + 32)) (qe_G1 (fg_St_reduce (d + 0)) qe_G0))))
/-! TurnField$Steps.reduceBesideUnit(LTurnField$Position;)Z -/
noncomputable def T_St_reduceBesideUnit (f_St_load : qm_M → Option qm_R) (f_St_reduce : Int32 → Int32 → Int32 → qm_M → Option qm_R) : qe_T := [(111, 0, 8, 0, qw_cc 67 1 f_St_load), (112, 0, 8, 0, qw_ciii 67 f_St_reduce)]
def X_St_reduceBesideUnit_12 (f_St_load : qm_M → Option qm_R) (f_St_reduce : Int32 → Int32 → Int32 → qm_M → Option qm_R) (l12 : Int32 → Int32 → qm_M → Option qm_R) (v2 : Int32) (v3 : Int32) (m : qm_M) : Option qm_R :=
  if v3 < v2 then
    qe_b (qm_in ((((8 : Int32) * v3) + v2) + v3) 32) (
    let m1 : qm_M := qm_sL m 68 (Int32.toNatClampNeg ((((8 : Int32) * v3) + v2) + v3)) (1 : Int64)
    l12 v2 (v3 + (1 : Int32)) m1)
  else
    qe_rV (f_St_reduce v2 v2 ((2 : Int32) * v2) m) fun m2 =>
    if (m2.1 67 2) = v2 then
      some (some (.int (1 : Int32)), m2)
    else
      some (some (.int (0 : Int32)), m2)
set_option maxRecDepth 100000 in
theorem xg_St_reduceBesideUnit_12 {kp : pm_K} {d : Nat} {f_St_load : qm_M → Option qm_R} {f_St_reduce : Int32 → Int32 → Int32 → qm_M → Option qm_R} {l12 : Int32 → Int32 → qm_M → Option qm_R} (hT : qe_G kp d (T_St_reduceBesideUnit f_St_load f_St_reduce)) (h12 : ∀ (v2 : Int32) (v3 : Int32) (m : qm_M), qe_J kp md_St_reduceBesideUnit d (l12 v2 v3 m) 12 [(0, .ref 67), (2, .int v2), (3, .int v3)] [] m) (v2 : Int32) (v3 : Int32) (m : qm_M) : qe_J kp md_St_reduceBesideUnit d (X_St_reduceBesideUnit_12 f_St_load f_St_reduce l12 v2 v3 m) 12 [(0, .ref 67), (2, .int v2), (3, .int v3)] [] m := qe_run (B := [(12, [0, 2, 3], qp_cii_ 67 l12)]) (n := 1000) hT (qe_B1 (qp_cii__ok h12) qe_B0) rfl
def L_St_reduceBesideUnit_12 : Nat → Int32 → Int32 → qm_M → Option qm_R
  | 0, _, _, _ => none
  | n + 1, v2, v3, m => X_St_reduceBesideUnit_12 F_St_load F_St_reduce (L_St_reduceBesideUnit_12 n) v2 v3 m
theorem lg_St_reduceBesideUnit_12 {kp : pm_K} {d : Nat} (hT : qe_G kp d (T_St_reduceBesideUnit F_St_load F_St_reduce)) : ∀ (n : Nat) (v2 : Int32) (v3 : Int32) (m : qm_M), qe_J kp md_St_reduceBesideUnit d (L_St_reduceBesideUnit_12 n v2 v3 m) 12 [(0, .ref 67), (2, .int v2), (3, .int v3)] [] m
  | 0, v2, v3, m => qe_none rfl
  | n + 1, v2, v3, m => xg_St_reduceBesideUnit_12 hT (lg_St_reduceBesideUnit_12 hT n) v2 v3 m
def X_St_reduceBesideUnit_e (f_St_load : qm_M → Option qm_R) (f_St_reduce : Int32 → Int32 → Int32 → qm_M → Option qm_R) (l12 : Int32 → Int32 → qm_M → Option qm_R)  (m : qm_M) : Option qm_R :=
  qe_rV (f_St_load m) fun m1 =>
  l12 (m.1 1 8) (0 : Int32) m1
set_option maxRecDepth 100000 in
theorem xg_St_reduceBesideUnit_e {kp : pm_K} {d : Nat} {f_St_load : qm_M → Option qm_R} {f_St_reduce : Int32 → Int32 → Int32 → qm_M → Option qm_R} {l12 : Int32 → Int32 → qm_M → Option qm_R} (hT : qe_G kp d (T_St_reduceBesideUnit f_St_load f_St_reduce)) (h12 : ∀ (v2 : Int32) (v3 : Int32) (m : qm_M), qe_J kp md_St_reduceBesideUnit d (l12 v2 v3 m) 12 [(0, .ref 67), (2, .int v2), (3, .int v3)] [] m) (m : qm_M) : qe_J kp md_St_reduceBesideUnit d (X_St_reduceBesideUnit_e f_St_load f_St_reduce l12 m) 0 [(0, .ref 67), (1, .ref 1)] [] m := qe_run (B := [(12, [0, 2, 3], qp_cii_ 67 l12)]) (n := 1000) hT (qe_B1 (qp_cii__ok h12) qe_B0) rfl
def F_St_reduceBesideUnit (m : qm_M) : Option qm_R := X_St_reduceBesideUnit_e F_St_load F_St_reduce (L_St_reduceBesideUnit_12 1000000) m
theorem fj_St_reduceBesideUnit {kp : pm_K} {d : Nat} (hT : qe_G kp d (T_St_reduceBesideUnit F_St_load F_St_reduce)) (m : qm_M) : qe_J kp md_St_reduceBesideUnit d (F_St_reduceBesideUnit m) 0 [(0, .ref 67), (1, .ref 1)] [] m := xg_St_reduceBesideUnit_e hT (lg_St_reduceBesideUnit_12 hT 1000000) m
theorem fg_St_reduceBesideUnit {kp : pm_K} (d : Nat) : qe_GE kp (d + 36) (110, 0, 8, 1, qw_cc 67 1 F_St_reduceBesideUnit) := qe_entry (by decide +kernel) (qw_cc_ok (d := d + 35) rfl rfl (fj_St_reduceBesideUnit (qe_G1 (fg_St_load (d + 32)) (qe_G1 (fg_St_reduce (d + 0)) qe_G0))))
/-! TurnField$Steps.cellAt(II)J -/
noncomputable def T_St_cellAt : qe_T := []
def X_St_cellAt_e (v1 : Int32) (v2 : Int32) (m : qm_M) : Option qm_R :=
  if v1 < 0 then
    some (some (.long (0 : Int64)), m)
  else
    if v1 < (4 : Int32) then
      if v2 < 0 then
        some (some (.long (0 : Int64)), m)
      else
        if v2 < (8 : Int32) then
          qe_b (qm_in (((8 : Int32) * v1) + v2) 32) (
          some (some (.long (m.2 68 (Int32.toNatClampNeg (((8 : Int32) * v1) + v2)))), m))
        else
          some (some (.long (0 : Int64)), m)
    else
      some (some (.long (0 : Int64)), m)
set_option maxRecDepth 100000 in
theorem xg_St_cellAt_e {kp : pm_K} {d : Nat} (hT : qe_G kp d (T_St_cellAt)) (v1 : Int32) (v2 : Int32) (m : qm_M) : qe_J kp md_St_cellAt d (X_St_cellAt_e v1 v2 m) 0 [(0, .ref 67), (1, .int v1), (2, .int v2)] [] m := qe_run (B := []) (n := 1000) hT qe_B0 rfl
def F_St_cellAt (v1 : Int32) (v2 : Int32) (m : qm_M) : Option qm_R := X_St_cellAt_e v1 v2 m
theorem fj_St_cellAt {kp : pm_K} {d : Nat} (hT : qe_G kp d (T_St_cellAt)) (v1 : Int32) (v2 : Int32) (m : qm_M) : qe_J kp md_St_cellAt d (F_St_cellAt v1 v2 m) 0 [(0, .ref 67), (1, .int v1), (2, .int v2)] [] m := xg_St_cellAt_e hT v1 v2 m
theorem fg_St_cellAt {kp : pm_K} (d : Nat) : qe_GE kp (d + 1) (117, 0, 8, 2, qw_cii 67 F_St_cellAt) := qe_entry (by decide +kernel) (qw_cii_ok (d := d + 0) rfl rfl (fj_St_cellAt qe_G0))
/-! TurnField$Steps.hasLead(I)Z -/
noncomputable def T_St_hasLead : qe_T := []
def X_St_hasLead_2 (l2 : Int32 → Int32 → qm_M → Option qm_R) (v1 : Int32) (v2 : Int32) (m : qm_M) : Option qm_R :=
  if v2 < (m.1 67 2) then
    qe_b (qm_in v2 4) (
    if (m.1 69 (Int32.toNatClampNeg v2)) = v1 then
      some (some (.int (1 : Int32)), m)
    else
      l2 v1 (v2 + (1 : Int32)) m)
  else
    some (some (.int (0 : Int32)), m)
set_option maxRecDepth 100000 in
theorem xg_St_hasLead_2 {kp : pm_K} {d : Nat} {l2 : Int32 → Int32 → qm_M → Option qm_R} (hT : qe_G kp d (T_St_hasLead)) (h2 : ∀ (v1 : Int32) (v2 : Int32) (m : qm_M), qe_J kp md_St_hasLead d (l2 v1 v2 m) 2 [(0, .ref 67), (1, .int v1), (2, .int v2)] [] m) (v1 : Int32) (v2 : Int32) (m : qm_M) : qe_J kp md_St_hasLead d (X_St_hasLead_2 l2 v1 v2 m) 2 [(0, .ref 67), (1, .int v1), (2, .int v2)] [] m := qe_run (B := [(2, [0, 1, 2], qp_cii_ 67 l2)]) (n := 1000) hT (qe_B1 (qp_cii__ok h2) qe_B0) rfl
def L_St_hasLead_2 : Nat → Int32 → Int32 → qm_M → Option qm_R
  | 0, _, _, _ => none
  | n + 1, v1, v2, m => X_St_hasLead_2 (L_St_hasLead_2 n) v1 v2 m
theorem lg_St_hasLead_2 {kp : pm_K} {d : Nat} (hT : qe_G kp d (T_St_hasLead)) : ∀ (n : Nat) (v1 : Int32) (v2 : Int32) (m : qm_M), qe_J kp md_St_hasLead d (L_St_hasLead_2 n v1 v2 m) 2 [(0, .ref 67), (1, .int v1), (2, .int v2)] [] m
  | 0, v1, v2, m => qe_none rfl
  | n + 1, v1, v2, m => xg_St_hasLead_2 hT (lg_St_hasLead_2 hT n) v1 v2 m
def X_St_hasLead_e (l2 : Int32 → Int32 → qm_M → Option qm_R) (v1 : Int32) (m : qm_M) : Option qm_R :=
  l2 v1 (0 : Int32) m
set_option maxRecDepth 100000 in
theorem xg_St_hasLead_e {kp : pm_K} {d : Nat} {l2 : Int32 → Int32 → qm_M → Option qm_R} (hT : qe_G kp d (T_St_hasLead)) (h2 : ∀ (v1 : Int32) (v2 : Int32) (m : qm_M), qe_J kp md_St_hasLead d (l2 v1 v2 m) 2 [(0, .ref 67), (1, .int v1), (2, .int v2)] [] m) (v1 : Int32) (m : qm_M) : qe_J kp md_St_hasLead d (X_St_hasLead_e l2 v1 m) 0 [(0, .ref 67), (1, .int v1)] [] m := qe_run (B := [(2, [0, 1, 2], qp_cii_ 67 l2)]) (n := 1000) hT (qe_B1 (qp_cii__ok h2) qe_B0) rfl
def F_St_hasLead (v1 : Int32) (m : qm_M) : Option qm_R := X_St_hasLead_e (L_St_hasLead_2 1000000) v1 m
theorem fj_St_hasLead {kp : pm_K} {d : Nat} (hT : qe_G kp d (T_St_hasLead)) (v1 : Int32) (m : qm_M) : qe_J kp md_St_hasLead d (F_St_hasLead v1 m) 0 [(0, .ref 67), (1, .int v1)] [] m := xg_St_hasLead_e hT (lg_St_hasLead_2 hT 1000000) v1 m
theorem fg_St_hasLead {kp : pm_K} (d : Nat) : qe_GE kp (d + 1) (118, 0, 8, 1, qw_ci 67 F_St_hasLead) := qe_entry (by decide +kernel) (qw_ci_ok (d := d + 0) rfl rfl (fj_St_hasLead qe_G0))
/-! TurnField$Steps.besideLead(II)J -/
noncomputable def T_St_besideLead (f_St_cellAt : Int32 → Int32 → qm_M → Option qm_R) : qe_T := [(117, 0, 8, 2, qw_cii 67 f_St_cellAt)]
def X_St_besideLead_2 (f_St_cellAt : Int32 → Int32 → qm_M → Option qm_R) (l2 : Int32 → Int32 → Int32 → qm_M → Option qm_R) (v1 : Int32) (v2 : Int32) (v3 : Int32) (m : qm_M) : Option qm_R :=
  if v3 < (m.1 67 2) then
    qe_b (qm_in v3 4) (
    if (m.1 69 (Int32.toNatClampNeg v3)) = v1 then
      qe_rL (f_St_cellAt v3 v2 m) fun x1 m1 =>
      some (some (.long x1), m1)
    else
      l2 v1 v2 (v3 + (1 : Int32)) m)
  else
    some (some (.long (0 : Int64)), m)
set_option maxRecDepth 100000 in
theorem xg_St_besideLead_2 {kp : pm_K} {d : Nat} {f_St_cellAt : Int32 → Int32 → qm_M → Option qm_R} {l2 : Int32 → Int32 → Int32 → qm_M → Option qm_R} (hT : qe_G kp d (T_St_besideLead f_St_cellAt)) (h2 : ∀ (v1 : Int32) (v2 : Int32) (v3 : Int32) (m : qm_M), qe_J kp md_St_besideLead d (l2 v1 v2 v3 m) 2 [(0, .ref 67), (1, .int v1), (2, .int v2), (3, .int v3)] [] m) (v1 : Int32) (v2 : Int32) (v3 : Int32) (m : qm_M) : qe_J kp md_St_besideLead d (X_St_besideLead_2 f_St_cellAt l2 v1 v2 v3 m) 2 [(0, .ref 67), (1, .int v1), (2, .int v2), (3, .int v3)] [] m := qe_run (B := [(2, [0, 1, 2, 3], qp_ciii_ 67 l2)]) (n := 1000) hT (qe_B1 (qp_ciii__ok h2) qe_B0) rfl
def L_St_besideLead_2 : Nat → Int32 → Int32 → Int32 → qm_M → Option qm_R
  | 0, _, _, _, _ => none
  | n + 1, v1, v2, v3, m => X_St_besideLead_2 F_St_cellAt (L_St_besideLead_2 n) v1 v2 v3 m
theorem lg_St_besideLead_2 {kp : pm_K} {d : Nat} (hT : qe_G kp d (T_St_besideLead F_St_cellAt)) : ∀ (n : Nat) (v1 : Int32) (v2 : Int32) (v3 : Int32) (m : qm_M), qe_J kp md_St_besideLead d (L_St_besideLead_2 n v1 v2 v3 m) 2 [(0, .ref 67), (1, .int v1), (2, .int v2), (3, .int v3)] [] m
  | 0, v1, v2, v3, m => qe_none rfl
  | n + 1, v1, v2, v3, m => xg_St_besideLead_2 hT (lg_St_besideLead_2 hT n) v1 v2 v3 m
def X_St_besideLead_e (f_St_cellAt : Int32 → Int32 → qm_M → Option qm_R) (l2 : Int32 → Int32 → Int32 → qm_M → Option qm_R) (v1 : Int32) (v2 : Int32) (m : qm_M) : Option qm_R :=
  l2 v1 v2 (0 : Int32) m
set_option maxRecDepth 100000 in
theorem xg_St_besideLead_e {kp : pm_K} {d : Nat} {f_St_cellAt : Int32 → Int32 → qm_M → Option qm_R} {l2 : Int32 → Int32 → Int32 → qm_M → Option qm_R} (hT : qe_G kp d (T_St_besideLead f_St_cellAt)) (h2 : ∀ (v1 : Int32) (v2 : Int32) (v3 : Int32) (m : qm_M), qe_J kp md_St_besideLead d (l2 v1 v2 v3 m) 2 [(0, .ref 67), (1, .int v1), (2, .int v2), (3, .int v3)] [] m) (v1 : Int32) (v2 : Int32) (m : qm_M) : qe_J kp md_St_besideLead d (X_St_besideLead_e f_St_cellAt l2 v1 v2 m) 0 [(0, .ref 67), (1, .int v1), (2, .int v2)] [] m := qe_run (B := [(2, [0, 1, 2, 3], qp_ciii_ 67 l2)]) (n := 1000) hT (qe_B1 (qp_ciii__ok h2) qe_B0) rfl
def F_St_besideLead (v1 : Int32) (v2 : Int32) (m : qm_M) : Option qm_R := X_St_besideLead_e F_St_cellAt (L_St_besideLead_2 1000000) v1 v2 m
theorem fj_St_besideLead {kp : pm_K} {d : Nat} (hT : qe_G kp d (T_St_besideLead F_St_cellAt)) (v1 : Int32) (v2 : Int32) (m : qm_M) : qe_J kp md_St_besideLead d (F_St_besideLead v1 v2 m) 0 [(0, .ref 67), (1, .int v1), (2, .int v2)] [] m := xg_St_besideLead_e hT (lg_St_besideLead_2 hT 1000000) v1 v2 m
theorem fg_St_besideLead {kp : pm_K} (d : Nat) : qe_GE kp (d + 2) (119, 0, 8, 2, qw_cii 67 F_St_besideLead) := qe_entry (by decide +kernel) (qw_cii_ok (d := d + 1) rfl rfl (fj_St_besideLead (qe_G1 (fg_St_cellAt (d + 0)) qe_G0)))
/-! TurnField$Tape.hasRoom(I)Z -/
noncomputable def T_Ta_hasRoom : qe_T := []
def X_Ta_hasRoom_e (v1 : Int32) (m : qm_M) : Option qm_R :=
  if (120 : Int32) < ((m.1 43 2) + v1) then
    some (some (.int (0 : Int32)), m)
  else
    some (some (.int (1 : Int32)), m)
set_option maxRecDepth 100000 in
theorem xg_Ta_hasRoom_e {kp : pm_K} {d : Nat} (hT : qe_G kp d (T_Ta_hasRoom)) (v1 : Int32) (m : qm_M) : qe_J kp md_Ta_hasRoom d (X_Ta_hasRoom_e v1 m) 0 [(0, .ref 43), (1, .int v1)] [] m := qe_run (B := []) (n := 1000) hT qe_B0 rfl
def F_Ta_hasRoom (v1 : Int32) (m : qm_M) : Option qm_R := X_Ta_hasRoom_e v1 m
theorem fj_Ta_hasRoom {kp : pm_K} {d : Nat} (hT : qe_G kp d (T_Ta_hasRoom)) (v1 : Int32) (m : qm_M) : qe_J kp md_Ta_hasRoom d (F_Ta_hasRoom v1 m) 0 [(0, .ref 43), (1, .int v1)] [] m := xg_Ta_hasRoom_e hT v1 m
theorem fg_Ta_hasRoom {kp : pm_K} (d : Nat) : qe_GE kp (d + 1) (121, 0, 9, 1, qw_ci 43 F_Ta_hasRoom) := qe_entry (by decide +kernel) (qw_ci_ok (d := d + 0) rfl rfl (fj_Ta_hasRoom qe_G0))
/-! TurnField$Tape.append(I)V -/
noncomputable def T_Ta_append : qe_T := []
def X_Ta_append_3 (l3 : Int32 → Int32 → qm_M → Option qm_R) (v1 : Int32) (v2 : Int32) (m : qm_M) : Option qm_R :=
  if v2 < 0 then
    some (none, m)
  else
    if (m.1 43 2) < (120 : Int32) then
      qe_b (qm_in (m.1 43 2) 120) (
      let m1 : qm_M := qm_sI m 44 (Int32.toNatClampNeg (m.1 43 2)) (Int8.toInt32 (Int32.toInt8 (Int8.toInt32 (Int32.toInt8 (qo_ishr v1 v2)))))
      let m2 : qm_M := qm_sI m1 43 2 ((m1.1 43 2) + (1 : Int32))
      l3 v1 (v2 + (-8 : Int32)) m2)
    else
      some (none, m)
set_option maxRecDepth 100000 in
theorem xg_Ta_append_3 {kp : pm_K} {d : Nat} {l3 : Int32 → Int32 → qm_M → Option qm_R} (hT : qe_G kp d (T_Ta_append)) (h3 : ∀ (v1 : Int32) (v2 : Int32) (m : qm_M), qe_J kp md_Ta_append d (l3 v1 v2 m) 3 [(0, .ref 43), (1, .int v1), (2, .int v2)] [] m) (v1 : Int32) (v2 : Int32) (m : qm_M) : qe_J kp md_Ta_append d (X_Ta_append_3 l3 v1 v2 m) 3 [(0, .ref 43), (1, .int v1), (2, .int v2)] [] m := qe_run (B := [(3, [0, 1, 2], qp_cii_ 43 l3)]) (n := 1000) hT (qe_B1 (qp_cii__ok h3) qe_B0) rfl
def L_Ta_append_3 : Nat → Int32 → Int32 → qm_M → Option qm_R
  | 0, _, _, _ => none
  | n + 1, v1, v2, m => X_Ta_append_3 (L_Ta_append_3 n) v1 v2 m
theorem lg_Ta_append_3 {kp : pm_K} {d : Nat} (hT : qe_G kp d (T_Ta_append)) : ∀ (n : Nat) (v1 : Int32) (v2 : Int32) (m : qm_M), qe_J kp md_Ta_append d (L_Ta_append_3 n v1 v2 m) 3 [(0, .ref 43), (1, .int v1), (2, .int v2)] [] m
  | 0, v1, v2, m => qe_none rfl
  | n + 1, v1, v2, m => xg_Ta_append_3 hT (lg_Ta_append_3 hT n) v1 v2 m
def X_Ta_append_e (l3 : Int32 → Int32 → qm_M → Option qm_R) (v1 : Int32) (m : qm_M) : Option qm_R :=
  l3 v1 (24 : Int32) m
set_option maxRecDepth 100000 in
theorem xg_Ta_append_e {kp : pm_K} {d : Nat} {l3 : Int32 → Int32 → qm_M → Option qm_R} (hT : qe_G kp d (T_Ta_append)) (h3 : ∀ (v1 : Int32) (v2 : Int32) (m : qm_M), qe_J kp md_Ta_append d (l3 v1 v2 m) 3 [(0, .ref 43), (1, .int v1), (2, .int v2)] [] m) (v1 : Int32) (m : qm_M) : qe_J kp md_Ta_append d (X_Ta_append_e l3 v1 m) 0 [(0, .ref 43), (1, .int v1)] [] m := qe_run (B := [(3, [0, 1, 2], qp_cii_ 43 l3)]) (n := 1000) hT (qe_B1 (qp_cii__ok h3) qe_B0) rfl
def F_Ta_append (v1 : Int32) (m : qm_M) : Option qm_R := X_Ta_append_e (L_Ta_append_3 1000000) v1 m
theorem fj_Ta_append {kp : pm_K} {d : Nat} (hT : qe_G kp d (T_Ta_append)) (v1 : Int32) (m : qm_M) : qe_J kp md_Ta_append d (F_Ta_append v1 m) 0 [(0, .ref 43), (1, .int v1)] [] m := xg_Ta_append_e hT (lg_Ta_append_3 hT 1000000) v1 m
theorem fg_Ta_append {kp : pm_K} (d : Nat) : qe_GE kp (d + 1) (122, 0, 9, 0, qw_ci 43 F_Ta_append) := qe_entry (by decide +kernel) (qw_ci_ok (d := d + 0) rfl rfl (fj_Ta_append qe_G0))
/-! TurnField$Tape.skipBlanks()V -/
noncomputable def T_Ta_skipBlanks : qe_T := []
def X_Ta_skipBlanks_0 (l0 : qm_M → Option qm_R)  (m : qm_M) : Option qm_R :=
  if (m.1 43 3) < (m.1 43 2) then
    qe_b (qm_in (m.1 43 3) 120) (
    if (m.1 44 (Int32.toNatClampNeg (m.1 43 3))) = (32 : Int32) then
      let m1 : qm_M := qm_sI m 43 3 ((m.1 43 3) + (1 : Int32))
      l0 m1
    else
      qe_b (qm_in (m.1 43 3) 120) (
      if (m.1 44 (Int32.toNatClampNeg (m.1 43 3))) = (59 : Int32) then
        let m2 : qm_M := qm_sI m 43 3 ((m.1 43 3) + (1 : Int32))
        l0 m2
      else
        some (none, m)))
  else
    some (none, m)
set_option maxRecDepth 100000 in
theorem xg_Ta_skipBlanks_0 {kp : pm_K} {d : Nat} {l0 : qm_M → Option qm_R} (hT : qe_G kp d (T_Ta_skipBlanks)) (h0 : ∀ (m : qm_M), qe_J kp md_Ta_skipBlanks d (l0 m) 0 [(0, .ref 43)] [] m) (m : qm_M) : qe_J kp md_Ta_skipBlanks d (X_Ta_skipBlanks_0 l0 m) 0 [(0, .ref 43)] [] m := qe_run (B := [(0, [0], qp_c_ 43 l0)]) (n := 1000) hT (qe_B1 (qp_c__ok h0) qe_B0) rfl
def L_Ta_skipBlanks_0 : Nat → qm_M → Option qm_R
  | 0, _ => none
  | n + 1, m => X_Ta_skipBlanks_0 (L_Ta_skipBlanks_0 n) m
theorem lg_Ta_skipBlanks_0 {kp : pm_K} {d : Nat} (hT : qe_G kp d (T_Ta_skipBlanks)) : ∀ (n : Nat) (m : qm_M), qe_J kp md_Ta_skipBlanks d (L_Ta_skipBlanks_0 n m) 0 [(0, .ref 43)] [] m
  | 0, m => qe_none rfl
  | n + 1, m => xg_Ta_skipBlanks_0 hT (lg_Ta_skipBlanks_0 hT n) m
def F_Ta_skipBlanks (m : qm_M) : Option qm_R := (L_Ta_skipBlanks_0 1000000) m
theorem fj_Ta_skipBlanks {kp : pm_K} {d : Nat} (hT : qe_G kp d (T_Ta_skipBlanks)) (m : qm_M) : qe_J kp md_Ta_skipBlanks d (F_Ta_skipBlanks m) 0 [(0, .ref 43)] [] m := qe_sub (by simp) ((lg_Ta_skipBlanks_0 hT 1000000) m)
theorem fg_Ta_skipBlanks {kp : pm_K} (d : Nat) : qe_GE kp (d + 1) (126, 0, 9, 0, qw_c 43 F_Ta_skipBlanks) := qe_entry (by decide +kernel) (qw_c_ok (d := d + 0) rfl rfl (fj_Ta_skipBlanks qe_G0))
/-! TurnField$Tape.isBetween(BCC)Z -/
noncomputable def T_Ta_isBetween : qe_T := []
def X_Ta_isBetween_e (v0 : Int32) (v1 : Int32) (v2 : Int32) (m : qm_M) : Option qm_R :=
  if v0 < v1 then
    some (some (.int (0 : Int32)), m)
  else
    if v2 < v0 then
      some (some (.int (0 : Int32)), m)
    else
      some (some (.int (1 : Int32)), m)
set_option maxRecDepth 100000 in
theorem xg_Ta_isBetween_e {kp : pm_K} {d : Nat} (hT : qe_G kp d (T_Ta_isBetween)) (v0 : Int32) (v1 : Int32) (v2 : Int32) (m : qm_M) : qe_J kp md_Ta_isBetween d (X_Ta_isBetween_e v0 v1 v2 m) 0 [(0, .int v0), (1, .int v1), (2, .int v2)] [] m := qe_run (B := []) (n := 1000) hT qe_B0 rfl
def F_Ta_isBetween (v0 : Int32) (v1 : Int32) (v2 : Int32) (m : qm_M) : Option qm_R := X_Ta_isBetween_e v0 v1 v2 m
theorem fj_Ta_isBetween {kp : pm_K} {d : Nat} (hT : qe_G kp d (T_Ta_isBetween)) (v0 : Int32) (v1 : Int32) (v2 : Int32) (m : qm_M) : qe_J kp md_Ta_isBetween d (F_Ta_isBetween v0 v1 v2 m) 0 [(0, .int v0), (1, .int v1), (2, .int v2)] [] m := xg_Ta_isBetween_e hT v0 v1 v2 m
theorem fg_Ta_isBetween {kp : pm_K} (d : Nat) : qe_GE kp (d + 1) (127, 1, 0, 1, qw_iii F_Ta_isBetween) := qe_entry (by decide +kernel) (qw_iii_ok (d := d + 0) rfl rfl (fj_Ta_isBetween qe_G0))
/-! TurnField$Tape.blame(II)V -/
noncomputable def T_Ta_blame : qe_T := []
def X_Ta_blame_e (v1 : Int32) (v2 : Int32) (m : qm_M) : Option qm_R :=
  if (m.1 43 4) = 0 then
    let m1 : qm_M := qm_sI m 43 4 (((8 : Int32) * v1) + v2)
    some (none, m1)
  else
    some (none, m)
set_option maxRecDepth 100000 in
theorem xg_Ta_blame_e {kp : pm_K} {d : Nat} (hT : qe_G kp d (T_Ta_blame)) (v1 : Int32) (v2 : Int32) (m : qm_M) : qe_J kp md_Ta_blame d (X_Ta_blame_e v1 v2 m) 0 [(0, .ref 43), (1, .int v1), (2, .int v2)] [] m := qe_run (B := []) (n := 1000) hT qe_B0 rfl
def F_Ta_blame (v1 : Int32) (v2 : Int32) (m : qm_M) : Option qm_R := X_Ta_blame_e v1 v2 m
theorem fj_Ta_blame {kp : pm_K} {d : Nat} (hT : qe_G kp d (T_Ta_blame)) (v1 : Int32) (v2 : Int32) (m : qm_M) : qe_J kp md_Ta_blame d (F_Ta_blame v1 v2 m) 0 [(0, .ref 43), (1, .int v1), (2, .int v2)] [] m := xg_Ta_blame_e hT v1 v2 m
theorem fg_Ta_blame {kp : pm_K} (d : Nat) : qe_GE kp (d + 1) (125, 0, 9, 0, qw_cii 43 F_Ta_blame) := qe_entry (by decide +kernel) (qw_cii_ok (d := d + 0) rfl rfl (fj_Ta_blame qe_G0))
/-! TurnField$Tape.readNumber(II)I -/
noncomputable def T_Ta_readNumber (f_Ta_skipBlanks : qm_M → Option qm_R) (f_Ta_isBetween : Int32 → Int32 → Int32 → qm_M → Option qm_R) (f_Ta_blame : Int32 → Int32 → qm_M → Option qm_R) : qe_T := [(126, 0, 9, 0, qw_c 43 f_Ta_skipBlanks), (127, 1, 0, 1, qw_iii f_Ta_isBetween), (125, 0, 9, 0, qw_cii 43 f_Ta_blame)]
def X_Ta_readNumber_119 (f_Ta_skipBlanks : qm_M → Option qm_R) (f_Ta_isBetween : Int32 → Int32 → Int32 → qm_M → Option qm_R) (f_Ta_blame : Int32 → Int32 → qm_M → Option qm_R) (v3 : Int32) (v4 : Int32) (m : qm_M) : Option qm_R :=
  qe_rV (f_Ta_blame v3 (2 : Int32) m) fun m1 =>
  some (some (.int v4), m1)
set_option maxRecDepth 100000 in
theorem xg_Ta_readNumber_119 {kp : pm_K} {d : Nat} {f_Ta_skipBlanks : qm_M → Option qm_R} {f_Ta_isBetween : Int32 → Int32 → Int32 → qm_M → Option qm_R} {f_Ta_blame : Int32 → Int32 → qm_M → Option qm_R} (hT : qe_G kp d (T_Ta_readNumber f_Ta_skipBlanks f_Ta_isBetween f_Ta_blame)) (v3 : Int32) (v4 : Int32) (m : qm_M) : qe_J kp md_Ta_readNumber d (X_Ta_readNumber_119 f_Ta_skipBlanks f_Ta_isBetween f_Ta_blame v3 v4 m) 119 [(0, .ref 43), (3, .int v3), (4, .int v4)] [] m := qe_run (B := []) (n := 1000) hT qe_B0 rfl
def L_Ta_readNumber_119 (v3 : Int32) (v4 : Int32) (m : qm_M) : Option qm_R := X_Ta_readNumber_119 F_Ta_skipBlanks F_Ta_isBetween F_Ta_blame v3 v4 m
theorem lg_Ta_readNumber_119 {kp : pm_K} {d : Nat} (hT : qe_G kp d (T_Ta_readNumber F_Ta_skipBlanks F_Ta_isBetween F_Ta_blame)) (v3 : Int32) (v4 : Int32) (m : qm_M) : qe_J kp md_Ta_readNumber d (L_Ta_readNumber_119 v3 v4 m) 119 [(0, .ref 43), (3, .int v3), (4, .int v4)] [] m := xg_Ta_readNumber_119 hT v3 v4 m
def X_Ta_readNumber_90 (f_Ta_skipBlanks : qm_M → Option qm_R) (f_Ta_isBetween : Int32 → Int32 → Int32 → qm_M → Option qm_R) (f_Ta_blame : Int32 → Int32 → qm_M → Option qm_R) (l119 : Int32 → Int32 → qm_M → Option qm_R) (v1 : Int32) (v2 : Int32) (v3 : Int32) (v4 : Int32) (m : qm_M) : Option qm_R :=
  if (m.1 43 3) = v3 then
    qe_rV (f_Ta_blame v3 (1 : Int32) m) fun m1 =>
    some (some (.int v4), m1)
  else
    if v4 < v1 then
      l119 v3 v4 m
    else
      if v2 < v4 then
        l119 v3 v4 m
      else
        some (some (.int v4), m)
set_option maxRecDepth 100000 in
theorem xg_Ta_readNumber_90 {kp : pm_K} {d : Nat} {f_Ta_skipBlanks : qm_M → Option qm_R} {f_Ta_isBetween : Int32 → Int32 → Int32 → qm_M → Option qm_R} {f_Ta_blame : Int32 → Int32 → qm_M → Option qm_R} {l119 : Int32 → Int32 → qm_M → Option qm_R} (hT : qe_G kp d (T_Ta_readNumber f_Ta_skipBlanks f_Ta_isBetween f_Ta_blame)) (h119 : ∀ (v3 : Int32) (v4 : Int32) (m : qm_M), qe_J kp md_Ta_readNumber d (l119 v3 v4 m) 119 [(0, .ref 43), (3, .int v3), (4, .int v4)] [] m) (v1 : Int32) (v2 : Int32) (v3 : Int32) (v4 : Int32) (m : qm_M) : qe_J kp md_Ta_readNumber d (X_Ta_readNumber_90 f_Ta_skipBlanks f_Ta_isBetween f_Ta_blame l119 v1 v2 v3 v4 m) 90 [(0, .ref 43), (1, .int v1), (2, .int v2), (3, .int v3), (4, .int v4)] [] m := qe_run (B := [(119, [0, 3, 4], qp_cii_ 43 l119)]) (n := 1000) hT (qe_B1 (qp_cii__ok h119) qe_B0) rfl
def L_Ta_readNumber_90 (v1 : Int32) (v2 : Int32) (v3 : Int32) (v4 : Int32) (m : qm_M) : Option qm_R := X_Ta_readNumber_90 F_Ta_skipBlanks F_Ta_isBetween F_Ta_blame (L_Ta_readNumber_119) v1 v2 v3 v4 m
theorem lg_Ta_readNumber_90 {kp : pm_K} {d : Nat} (hT : qe_G kp d (T_Ta_readNumber F_Ta_skipBlanks F_Ta_isBetween F_Ta_blame)) (v1 : Int32) (v2 : Int32) (v3 : Int32) (v4 : Int32) (m : qm_M) : qe_J kp md_Ta_readNumber d (L_Ta_readNumber_90 v1 v2 v3 v4 m) 90 [(0, .ref 43), (1, .int v1), (2, .int v2), (3, .int v3), (4, .int v4)] [] m := xg_Ta_readNumber_90 hT (lg_Ta_readNumber_119 hT) v1 v2 v3 v4 m
def X_Ta_readNumber_21 (f_Ta_skipBlanks : qm_M → Option qm_R) (f_Ta_isBetween : Int32 → Int32 → Int32 → qm_M → Option qm_R) (f_Ta_blame : Int32 → Int32 → qm_M → Option qm_R) (l21 : Int32 → Int32 → Int32 → Int32 → qm_M → Option qm_R) (l90 : Int32 → Int32 → Int32 → Int32 → qm_M → Option qm_R) (v1 : Int32) (v2 : Int32) (v3 : Int32) (v4 : Int32) (m : qm_M) : Option qm_R :=
  if (m.1 43 3) < (m.1 43 2) then
    qe_b (qm_in (m.1 43 3) 120) (
    qe_rI (f_Ta_isBetween (m.1 44 (Int32.toNatClampNeg (m.1 43 3))) (48 : Int32) (57 : Int32) m) fun x1 m1 =>
    if x1 = 0 then
      l90 v1 v2 v3 v4 m1
    else
      qe_b (qm_in (m1.1 43 3) 120) (
      let x2 : Int32 := (qo_min (1000 : Int32) ((((10 : Int32) * v4) + (m1.1 44 (Int32.toNatClampNeg (m1.1 43 3)))) - (48 : Int32)))
      let m2 : qm_M := qm_sI m1 43 3 ((m1.1 43 3) + (1 : Int32))
      l21 v1 v2 v3 x2 m2))
  else
    l90 v1 v2 v3 v4 m
set_option maxRecDepth 100000 in
theorem xg_Ta_readNumber_21 {kp : pm_K} {d : Nat} {f_Ta_skipBlanks : qm_M → Option qm_R} {f_Ta_isBetween : Int32 → Int32 → Int32 → qm_M → Option qm_R} {f_Ta_blame : Int32 → Int32 → qm_M → Option qm_R} {l21 : Int32 → Int32 → Int32 → Int32 → qm_M → Option qm_R} {l90 : Int32 → Int32 → Int32 → Int32 → qm_M → Option qm_R} (hT : qe_G kp d (T_Ta_readNumber f_Ta_skipBlanks f_Ta_isBetween f_Ta_blame)) (h21 : ∀ (v1 : Int32) (v2 : Int32) (v3 : Int32) (v4 : Int32) (m : qm_M), qe_J kp md_Ta_readNumber d (l21 v1 v2 v3 v4 m) 21 [(0, .ref 43), (1, .int v1), (2, .int v2), (3, .int v3), (4, .int v4)] [] m) (h90 : ∀ (v1 : Int32) (v2 : Int32) (v3 : Int32) (v4 : Int32) (m : qm_M), qe_J kp md_Ta_readNumber d (l90 v1 v2 v3 v4 m) 90 [(0, .ref 43), (1, .int v1), (2, .int v2), (3, .int v3), (4, .int v4)] [] m) (v1 : Int32) (v2 : Int32) (v3 : Int32) (v4 : Int32) (m : qm_M) : qe_J kp md_Ta_readNumber d (X_Ta_readNumber_21 f_Ta_skipBlanks f_Ta_isBetween f_Ta_blame l21 l90 v1 v2 v3 v4 m) 21 [(0, .ref 43), (1, .int v1), (2, .int v2), (3, .int v3), (4, .int v4)] [] m := qe_run (B := [(21, [0, 1, 2, 3, 4], qp_ciiii_ 43 l21), (90, [0, 1, 2, 3, 4], qp_ciiii_ 43 l90)]) (n := 1000) hT (qe_B1 (qp_ciiii__ok h21) (qe_B1 (qp_ciiii__ok h90) qe_B0)) rfl
def L_Ta_readNumber_21 : Nat → Int32 → Int32 → Int32 → Int32 → qm_M → Option qm_R
  | 0, _, _, _, _, _ => none
  | n + 1, v1, v2, v3, v4, m => X_Ta_readNumber_21 F_Ta_skipBlanks F_Ta_isBetween F_Ta_blame (L_Ta_readNumber_21 n) (L_Ta_readNumber_90) v1 v2 v3 v4 m
theorem lg_Ta_readNumber_21 {kp : pm_K} {d : Nat} (hT : qe_G kp d (T_Ta_readNumber F_Ta_skipBlanks F_Ta_isBetween F_Ta_blame)) : ∀ (n : Nat) (v1 : Int32) (v2 : Int32) (v3 : Int32) (v4 : Int32) (m : qm_M), qe_J kp md_Ta_readNumber d (L_Ta_readNumber_21 n v1 v2 v3 v4 m) 21 [(0, .ref 43), (1, .int v1), (2, .int v2), (3, .int v3), (4, .int v4)] [] m
  | 0, v1, v2, v3, v4, m => qe_none rfl
  | n + 1, v1, v2, v3, v4, m => xg_Ta_readNumber_21 hT (lg_Ta_readNumber_21 hT n) (lg_Ta_readNumber_90 hT) v1 v2 v3 v4 m
def X_Ta_readNumber_e (f_Ta_skipBlanks : qm_M → Option qm_R) (f_Ta_isBetween : Int32 → Int32 → Int32 → qm_M → Option qm_R) (f_Ta_blame : Int32 → Int32 → qm_M → Option qm_R) (l21 : Int32 → Int32 → Int32 → Int32 → qm_M → Option qm_R) (v1 : Int32) (v2 : Int32) (m : qm_M) : Option qm_R :=
  if (m.1 43 4) = 0 then
    qe_rV (f_Ta_skipBlanks m) fun m1 =>
    l21 v1 v2 (m1.1 43 3) (0 : Int32) m1
  else
    some (some (.int (0 : Int32)), m)
set_option maxRecDepth 100000 in
theorem xg_Ta_readNumber_e {kp : pm_K} {d : Nat} {f_Ta_skipBlanks : qm_M → Option qm_R} {f_Ta_isBetween : Int32 → Int32 → Int32 → qm_M → Option qm_R} {f_Ta_blame : Int32 → Int32 → qm_M → Option qm_R} {l21 : Int32 → Int32 → Int32 → Int32 → qm_M → Option qm_R} (hT : qe_G kp d (T_Ta_readNumber f_Ta_skipBlanks f_Ta_isBetween f_Ta_blame)) (h21 : ∀ (v1 : Int32) (v2 : Int32) (v3 : Int32) (v4 : Int32) (m : qm_M), qe_J kp md_Ta_readNumber d (l21 v1 v2 v3 v4 m) 21 [(0, .ref 43), (1, .int v1), (2, .int v2), (3, .int v3), (4, .int v4)] [] m) (v1 : Int32) (v2 : Int32) (m : qm_M) : qe_J kp md_Ta_readNumber d (X_Ta_readNumber_e f_Ta_skipBlanks f_Ta_isBetween f_Ta_blame l21 v1 v2 m) 0 [(0, .ref 43), (1, .int v1), (2, .int v2)] [] m := qe_run (B := [(21, [0, 1, 2, 3, 4], qp_ciiii_ 43 l21)]) (n := 1000) hT (qe_B1 (qp_ciiii__ok h21) qe_B0) rfl
def F_Ta_readNumber (v1 : Int32) (v2 : Int32) (m : qm_M) : Option qm_R := X_Ta_readNumber_e F_Ta_skipBlanks F_Ta_isBetween F_Ta_blame (L_Ta_readNumber_21 1000000) v1 v2 m
theorem fj_Ta_readNumber {kp : pm_K} {d : Nat} (hT : qe_G kp d (T_Ta_readNumber F_Ta_skipBlanks F_Ta_isBetween F_Ta_blame)) (v1 : Int32) (v2 : Int32) (m : qm_M) : qe_J kp md_Ta_readNumber d (F_Ta_readNumber v1 v2 m) 0 [(0, .ref 43), (1, .int v1), (2, .int v2)] [] m := xg_Ta_readNumber_e hT (lg_Ta_readNumber_21 hT 1000000) v1 v2 m
theorem fg_Ta_readNumber {kp : pm_K} (d : Nat) : qe_GE kp (d + 2) (128, 0, 9, 1, qw_cii 43 F_Ta_readNumber) := qe_entry (by decide +kernel) (qw_cii_ok (d := d + 1) rfl rfl (fj_Ta_readNumber (qe_G1 (fg_Ta_skipBlanks (d + 0)) (qe_G1 (fg_Ta_isBetween (d + 0)) (qe_G1 (fg_Ta_blame (d + 0)) qe_G0)))))
/-! TurnField$Tape.readWord()V -/
noncomputable def T_Ta_readWord (f_Ta_isBetween : Int32 → Int32 → Int32 → qm_M → Option qm_R) : qe_T := [(127, 1, 0, 1, qw_iii f_Ta_isBetween)]
def X_Ta_readWord_0 (f_Ta_isBetween : Int32 → Int32 → Int32 → qm_M → Option qm_R) (l0 : qm_M → Option qm_R)  (m : qm_M) : Option qm_R :=
  if (m.1 43 3) < (m.1 43 2) then
    qe_b (qm_in (m.1 43 3) 120) (
    qe_rI (f_Ta_isBetween (m.1 44 (Int32.toNatClampNeg (m.1 43 3))) (97 : Int32) (122 : Int32) m) fun x1 m1 =>
    if x1 = 0 then
      some (none, m1)
    else
      let m2 : qm_M := qm_sI m1 43 3 ((m1.1 43 3) + (1 : Int32))
      l0 m2)
  else
    some (none, m)
set_option maxRecDepth 100000 in
theorem xg_Ta_readWord_0 {kp : pm_K} {d : Nat} {f_Ta_isBetween : Int32 → Int32 → Int32 → qm_M → Option qm_R} {l0 : qm_M → Option qm_R} (hT : qe_G kp d (T_Ta_readWord f_Ta_isBetween)) (h0 : ∀ (m : qm_M), qe_J kp md_Ta_readWord d (l0 m) 0 [(0, .ref 43)] [] m) (m : qm_M) : qe_J kp md_Ta_readWord d (X_Ta_readWord_0 f_Ta_isBetween l0 m) 0 [(0, .ref 43)] [] m := qe_run (B := [(0, [0], qp_c_ 43 l0)]) (n := 1000) hT (qe_B1 (qp_c__ok h0) qe_B0) rfl
def L_Ta_readWord_0 : Nat → qm_M → Option qm_R
  | 0, _ => none
  | n + 1, m => X_Ta_readWord_0 F_Ta_isBetween (L_Ta_readWord_0 n) m
theorem lg_Ta_readWord_0 {kp : pm_K} {d : Nat} (hT : qe_G kp d (T_Ta_readWord F_Ta_isBetween)) : ∀ (n : Nat) (m : qm_M), qe_J kp md_Ta_readWord d (L_Ta_readWord_0 n m) 0 [(0, .ref 43)] [] m
  | 0, m => qe_none rfl
  | n + 1, m => xg_Ta_readWord_0 hT (lg_Ta_readWord_0 hT n) m
def F_Ta_readWord (m : qm_M) : Option qm_R := (L_Ta_readWord_0 1000000) m
theorem fj_Ta_readWord {kp : pm_K} {d : Nat} (hT : qe_G kp d (T_Ta_readWord F_Ta_isBetween)) (m : qm_M) : qe_J kp md_Ta_readWord d (F_Ta_readWord m) 0 [(0, .ref 43)] [] m := qe_sub (by simp) ((lg_Ta_readWord_0 hT 1000000) m)
theorem fg_Ta_readWord {kp : pm_K} (d : Nat) : qe_GE kp (d + 2) (130, 0, 9, 0, qw_c 43 F_Ta_readWord) := qe_entry (by decide +kernel) (qw_c_ok (d := d + 1) rfl rfl (fj_Ta_readWord (qe_G1 (fg_Ta_isBetween (d + 0)) qe_G0)))
/-! TurnField$Tape.isWord(ILjava/lang/String;)Z -/
noncomputable def T_Ta_isWord (f_JS_length : Nat → qm_M → Option qm_R) (f_JS_charAt : Nat → Int32 → qm_M → Option qm_R) : qe_T := [(320, 3, 0, 1, qw_r f_JS_length), (321, 3, 0, 1, qw_ri f_JS_charAt)]
def X_Ta_isWord_17 (f_JS_length : Nat → qm_M → Option qm_R) (f_JS_charAt : Nat → Int32 → qm_M → Option qm_R) (l17 : Int32 → Nat → Int32 → qm_M → Option qm_R) (v1 : Int32) (v2 : Nat) (v3 : Int32) (m : qm_M) : Option qm_R :=
  qe_b (Nat.ble 1000010 v2 && Nat.ble v2 1000014) (
  qe_rI (f_JS_length v2 m) fun x1 m1 =>
  if v3 < x1 then
    qe_b (qm_in (v1 + v3) 120) (
    qe_b (Nat.ble 1000010 v2 && Nat.ble v2 1000014) (
    qe_rI (f_JS_charAt v2 v3 m1) fun x2 m2 =>
    if (m1.1 44 (Int32.toNatClampNeg (v1 + v3))) = x2 then
      l17 v1 v2 (v3 + (1 : Int32)) m2
    else
      some (some (.int (0 : Int32)), m2)))
  else
    some (some (.int (1 : Int32)), m1))
set_option maxRecDepth 100000 in
theorem xg_Ta_isWord_17 {kp : pm_K} {d : Nat} {f_JS_length : Nat → qm_M → Option qm_R} {f_JS_charAt : Nat → Int32 → qm_M → Option qm_R} {l17 : Int32 → Nat → Int32 → qm_M → Option qm_R} (hT : qe_G kp d (T_Ta_isWord f_JS_length f_JS_charAt)) (h17 : ∀ (v1 : Int32) (v2 : Nat) (v3 : Int32) (m : qm_M), qe_J kp md_Ta_isWord d (l17 v1 v2 v3 m) 17 [(0, .ref 43), (1, .int v1), (2, .ref v2), (3, .int v3)] [] m) (v1 : Int32) (v2 : Nat) (v3 : Int32) (m : qm_M) : qe_J kp md_Ta_isWord d (X_Ta_isWord_17 f_JS_length f_JS_charAt l17 v1 v2 v3 m) 17 [(0, .ref 43), (1, .int v1), (2, .ref v2), (3, .int v3)] [] m := qe_run (B := [(17, [0, 1, 2, 3], qp_ciri_ 43 l17)]) (n := 1000) hT (qe_B1 (qp_ciri__ok h17) qe_B0) rfl
def L_Ta_isWord_17 : Nat → Int32 → Nat → Int32 → qm_M → Option qm_R
  | 0, _, _, _, _ => none
  | n + 1, v1, v2, v3, m => X_Ta_isWord_17 F_JS_length F_JS_charAt (L_Ta_isWord_17 n) v1 v2 v3 m
theorem lg_Ta_isWord_17 {kp : pm_K} {d : Nat} (hT : qe_G kp d (T_Ta_isWord F_JS_length F_JS_charAt)) : ∀ (n : Nat) (v1 : Int32) (v2 : Nat) (v3 : Int32) (m : qm_M), qe_J kp md_Ta_isWord d (L_Ta_isWord_17 n v1 v2 v3 m) 17 [(0, .ref 43), (1, .int v1), (2, .ref v2), (3, .int v3)] [] m
  | 0, v1, v2, v3, m => qe_none rfl
  | n + 1, v1, v2, v3, m => xg_Ta_isWord_17 hT (lg_Ta_isWord_17 hT n) v1 v2 v3 m
def X_Ta_isWord_e (f_JS_length : Nat → qm_M → Option qm_R) (f_JS_charAt : Nat → Int32 → qm_M → Option qm_R) (l17 : Int32 → Nat → Int32 → qm_M → Option qm_R) (v1 : Int32) (v2 : Nat) (m : qm_M) : Option qm_R :=
  qe_b (Nat.ble 1000010 v2 && Nat.ble v2 1000014) (
  qe_rI (f_JS_length v2 m) fun x1 m1 =>
  if ((m.1 43 3) - v1) = x1 then
    l17 v1 v2 (0 : Int32) m1
  else
    some (some (.int (0 : Int32)), m1))
set_option maxRecDepth 100000 in
theorem xg_Ta_isWord_e {kp : pm_K} {d : Nat} {f_JS_length : Nat → qm_M → Option qm_R} {f_JS_charAt : Nat → Int32 → qm_M → Option qm_R} {l17 : Int32 → Nat → Int32 → qm_M → Option qm_R} (hT : qe_G kp d (T_Ta_isWord f_JS_length f_JS_charAt)) (h17 : ∀ (v1 : Int32) (v2 : Nat) (v3 : Int32) (m : qm_M), qe_J kp md_Ta_isWord d (l17 v1 v2 v3 m) 17 [(0, .ref 43), (1, .int v1), (2, .ref v2), (3, .int v3)] [] m) (v1 : Int32) (v2 : Nat) (m : qm_M) : qe_J kp md_Ta_isWord d (X_Ta_isWord_e f_JS_length f_JS_charAt l17 v1 v2 m) 0 [(0, .ref 43), (1, .int v1), (2, .ref v2)] [] m := qe_run (B := [(17, [0, 1, 2, 3], qp_ciri_ 43 l17)]) (n := 1000) hT (qe_B1 (qp_ciri__ok h17) qe_B0) rfl
def F_Ta_isWord (v1 : Int32) (v2 : Nat) (m : qm_M) : Option qm_R := X_Ta_isWord_e F_JS_length F_JS_charAt (L_Ta_isWord_17 1000000) v1 v2 m
theorem fj_Ta_isWord {kp : pm_K} {d : Nat} (hT : qe_G kp d (T_Ta_isWord F_JS_length F_JS_charAt)) (v1 : Int32) (v2 : Nat) (m : qm_M) : qe_J kp md_Ta_isWord d (F_Ta_isWord v1 v2 m) 0 [(0, .ref 43), (1, .int v1), (2, .ref v2)] [] m := xg_Ta_isWord_e hT (lg_Ta_isWord_17 hT 1000000) v1 v2 m
theorem fg_Ta_isWord {kp : pm_K} (d : Nat) : qe_GE kp (d + 5) (131, 0, 9, 1, qw_cir 43 F_Ta_isWord) := qe_entry (by decide +kernel) (qw_cir_ok (d := d + 4) rfl rfl (fj_Ta_isWord (qe_G1 (fg_JS_length (d + 2)) (qe_G1 (fg_JS_charAt (d + 0)) qe_G0))))
/-! TurnField$Tape.readKind()I -/
noncomputable def T_Ta_readKind (f_Ta_skipBlanks : qm_M → Option qm_R) (f_Ta_readWord : qm_M → Option qm_R) (f_Ta_isWord : Int32 → Nat → qm_M → Option qm_R) (f_Ta_blame : Int32 → Int32 → qm_M → Option qm_R) : qe_T := [(126, 0, 9, 0, qw_c 43 f_Ta_skipBlanks), (130, 0, 9, 0, qw_c 43 f_Ta_readWord), (131, 0, 9, 1, qw_cir 43 f_Ta_isWord), (125, 0, 9, 0, qw_cii 43 f_Ta_blame)]
def X_Ta_readKind_e (f_Ta_skipBlanks : qm_M → Option qm_R) (f_Ta_readWord : qm_M → Option qm_R) (f_Ta_isWord : Int32 → Nat → qm_M → Option qm_R) (f_Ta_blame : Int32 → Int32 → qm_M → Option qm_R)  (m : qm_M) : Option qm_R :=
  if (m.1 43 4) = 0 then
    qe_rV (f_Ta_skipBlanks m) fun m1 =>
    qe_rV (f_Ta_readWord m1) fun m2 =>
    qe_rI (f_Ta_isWord (m1.1 43 3) 1000010 m2) fun x1 m3 =>
    if x1 = 0 then
      qe_rI (f_Ta_isWord (m1.1 43 3) 1000011 m3) fun x2 m4 =>
      if x2 = 0 then
        qe_rI (f_Ta_isWord (m1.1 43 3) 1000012 m4) fun x3 m5 =>
        if x3 = 0 then
          qe_rI (f_Ta_isWord (m1.1 43 3) 1000013 m5) fun x4 m6 =>
          if x4 = 0 then
            qe_rV (f_Ta_blame (m1.1 43 3) (1 : Int32) m6) fun m7 =>
            some (some (.int (0 : Int32)), m7)
          else
            some (some (.int (3 : Int32)), m6)
        else
          some (some (.int (2 : Int32)), m5)
      else
        some (some (.int (1 : Int32)), m4)
    else
      some (some (.int (0 : Int32)), m3)
  else
    some (some (.int (0 : Int32)), m)
set_option maxRecDepth 100000 in
theorem xg_Ta_readKind_e {kp : pm_K} {d : Nat} {f_Ta_skipBlanks : qm_M → Option qm_R} {f_Ta_readWord : qm_M → Option qm_R} {f_Ta_isWord : Int32 → Nat → qm_M → Option qm_R} {f_Ta_blame : Int32 → Int32 → qm_M → Option qm_R} (hT : qe_G kp d (T_Ta_readKind f_Ta_skipBlanks f_Ta_readWord f_Ta_isWord f_Ta_blame)) (m : qm_M) : qe_J kp md_Ta_readKind d (X_Ta_readKind_e f_Ta_skipBlanks f_Ta_readWord f_Ta_isWord f_Ta_blame m) 0 [(0, .ref 43)] [] m := qe_run (B := []) (n := 1000) hT qe_B0 rfl
def F_Ta_readKind (m : qm_M) : Option qm_R := X_Ta_readKind_e F_Ta_skipBlanks F_Ta_readWord F_Ta_isWord F_Ta_blame m
theorem fj_Ta_readKind {kp : pm_K} {d : Nat} (hT : qe_G kp d (T_Ta_readKind F_Ta_skipBlanks F_Ta_readWord F_Ta_isWord F_Ta_blame)) (m : qm_M) : qe_J kp md_Ta_readKind d (F_Ta_readKind m) 0 [(0, .ref 43)] [] m := xg_Ta_readKind_e hT m
theorem fg_Ta_readKind {kp : pm_K} (d : Nat) : qe_GE kp (d + 6) (129, 0, 9, 1, qw_c 43 F_Ta_readKind) := qe_entry (by decide +kernel) (qw_c_ok (d := d + 5) rfl rfl (fj_Ta_readKind (qe_G1 (fg_Ta_skipBlanks (d + 4)) (qe_G1 (fg_Ta_readWord (d + 3)) (qe_G1 (fg_Ta_isWord (d + 0)) (qe_G1 (fg_Ta_blame (d + 4)) qe_G0))))))
/-! TurnField$Tape.readHeads()V -/
noncomputable def T_Ta_readHeads (f_Ta_readWord : qm_M → Option qm_R) (f_Ta_isWord : Int32 → Nat → qm_M → Option qm_R) (f_Ta_blame : Int32 → Int32 → qm_M → Option qm_R) (f_Ta_readNumber : Int32 → Int32 → qm_M → Option qm_R) (f_Ps_bitOf : Int32 → Int32 → qm_M → Option qm_R) : qe_T := [(130, 0, 9, 0, qw_c 43 f_Ta_readWord), (131, 0, 9, 1, qw_cir 43 f_Ta_isWord), (125, 0, 9, 0, qw_cii 43 f_Ta_blame), (128, 0, 9, 1, qw_cii 43 f_Ta_readNumber), (83, 1, 0, 2, qw_ii f_Ps_bitOf)]
def X_Ta_readHeads_25 (f_Ta_readWord : qm_M → Option qm_R) (f_Ta_isWord : Int32 → Nat → qm_M → Option qm_R) (f_Ta_blame : Int32 → Int32 → qm_M → Option qm_R) (f_Ta_readNumber : Int32 → Int32 → qm_M → Option qm_R) (f_Ps_bitOf : Int32 → Int32 → qm_M → Option qm_R)  (m : qm_M) : Option qm_R :=
  qe_rI (f_Ta_readNumber (0 : Int32) ((m.1 45 0) - (1 : Int32)) m) fun x1 m1 =>
  qe_rI (f_Ta_readNumber (0 : Int32) ((m1.1 45 1) - (1 : Int32)) m1) fun x2 m2 =>
  if (m2.1 43 4) = 0 then
    qe_rL (f_Ps_bitOf x1 x2 m2) fun x3 m3 =>
    let m4 : qm_M := qm_sL m3 45 6 ((m2.2 45 6) ||| x3)
    some (none, m4)
  else
    some (none, m2)
set_option maxRecDepth 100000 in
theorem xg_Ta_readHeads_25 {kp : pm_K} {d : Nat} {f_Ta_readWord : qm_M → Option qm_R} {f_Ta_isWord : Int32 → Nat → qm_M → Option qm_R} {f_Ta_blame : Int32 → Int32 → qm_M → Option qm_R} {f_Ta_readNumber : Int32 → Int32 → qm_M → Option qm_R} {f_Ps_bitOf : Int32 → Int32 → qm_M → Option qm_R} (hT : qe_G kp d (T_Ta_readHeads f_Ta_readWord f_Ta_isWord f_Ta_blame f_Ta_readNumber f_Ps_bitOf)) (m : qm_M) : qe_J kp md_Ta_readHeads d (X_Ta_readHeads_25 f_Ta_readWord f_Ta_isWord f_Ta_blame f_Ta_readNumber f_Ps_bitOf m) 25 [(0, .ref 43)] [] m := qe_run (B := []) (n := 1000) hT qe_B0 rfl
def L_Ta_readHeads_25  (m : qm_M) : Option qm_R := X_Ta_readHeads_25 F_Ta_readWord F_Ta_isWord F_Ta_blame F_Ta_readNumber F_Ps_bitOf m
theorem lg_Ta_readHeads_25 {kp : pm_K} {d : Nat} (hT : qe_G kp d (T_Ta_readHeads F_Ta_readWord F_Ta_isWord F_Ta_blame F_Ta_readNumber F_Ps_bitOf)) (m : qm_M) : qe_J kp md_Ta_readHeads d (L_Ta_readHeads_25 m) 25 [(0, .ref 43)] [] m := xg_Ta_readHeads_25 hT m
def X_Ta_readHeads_e (f_Ta_readWord : qm_M → Option qm_R) (f_Ta_isWord : Int32 → Nat → qm_M → Option qm_R) (f_Ta_blame : Int32 → Int32 → qm_M → Option qm_R) (f_Ta_readNumber : Int32 → Int32 → qm_M → Option qm_R) (f_Ps_bitOf : Int32 → Int32 → qm_M → Option qm_R) (l25 : qm_M → Option qm_R)  (m : qm_M) : Option qm_R :=
  qe_rV (f_Ta_readWord m) fun m1 =>
  qe_rI (f_Ta_isWord (m.1 43 3) 1000014 m1) fun x1 m2 =>
  if x1 = 0 then
    qe_rV (f_Ta_blame (m.1 43 3) (1 : Int32) m2) fun m3 =>
    l25 m3
  else
    l25 m2
set_option maxRecDepth 100000 in
theorem xg_Ta_readHeads_e {kp : pm_K} {d : Nat} {f_Ta_readWord : qm_M → Option qm_R} {f_Ta_isWord : Int32 → Nat → qm_M → Option qm_R} {f_Ta_blame : Int32 → Int32 → qm_M → Option qm_R} {f_Ta_readNumber : Int32 → Int32 → qm_M → Option qm_R} {f_Ps_bitOf : Int32 → Int32 → qm_M → Option qm_R} {l25 : qm_M → Option qm_R} (hT : qe_G kp d (T_Ta_readHeads f_Ta_readWord f_Ta_isWord f_Ta_blame f_Ta_readNumber f_Ps_bitOf)) (h25 : ∀ (m : qm_M), qe_J kp md_Ta_readHeads d (l25 m) 25 [(0, .ref 43)] [] m) (m : qm_M) : qe_J kp md_Ta_readHeads d (X_Ta_readHeads_e f_Ta_readWord f_Ta_isWord f_Ta_blame f_Ta_readNumber f_Ps_bitOf l25 m) 0 [(0, .ref 43)] [] m := qe_run (B := [(25, [0], qp_c_ 43 l25)]) (n := 1000) hT (qe_B1 (qp_c__ok h25) qe_B0) rfl
def F_Ta_readHeads (m : qm_M) : Option qm_R := X_Ta_readHeads_e F_Ta_readWord F_Ta_isWord F_Ta_blame F_Ta_readNumber F_Ps_bitOf (L_Ta_readHeads_25) m
theorem fj_Ta_readHeads {kp : pm_K} {d : Nat} (hT : qe_G kp d (T_Ta_readHeads F_Ta_readWord F_Ta_isWord F_Ta_blame F_Ta_readNumber F_Ps_bitOf)) (m : qm_M) : qe_J kp md_Ta_readHeads d (F_Ta_readHeads m) 0 [(0, .ref 43)] [] m := xg_Ta_readHeads_e hT (lg_Ta_readHeads_25 hT) m
theorem fg_Ta_readHeads {kp : pm_K} (d : Nat) : qe_GE kp (d + 6) (124, 0, 9, 0, qw_c 43 F_Ta_readHeads) := qe_entry (by decide +kernel) (qw_c_ok (d := d + 5) rfl rfl (fj_Ta_readHeads (qe_G1 (fg_Ta_readWord (d + 3)) (qe_G1 (fg_Ta_isWord (d + 0)) (qe_G1 (fg_Ta_blame (d + 4)) (qe_G1 (fg_Ta_readNumber (d + 3)) (qe_G1 (fg_Ps_bitOf (d + 4)) qe_G0)))))))
/-! TurnField$Tape.read()I -/
noncomputable def T_Ta_read (f_Ta_readNumber : Int32 → Int32 → qm_M → Option qm_R) (f_Ta_readKind : qm_M → Option qm_R) (f_Ta_skipBlanks : qm_M → Option qm_R) (f_Ta_readHeads : qm_M → Option qm_R) : qe_T := [(128, 0, 9, 1, qw_cii 43 f_Ta_readNumber), (129, 0, 9, 1, qw_c 43 f_Ta_readKind), (126, 0, 9, 0, qw_c 43 f_Ta_skipBlanks), (124, 0, 9, 0, qw_c 43 f_Ta_readHeads)]
def X_Ta_read_98 (f_Ta_readNumber : Int32 → Int32 → qm_M → Option qm_R) (f_Ta_readKind : qm_M → Option qm_R) (f_Ta_skipBlanks : qm_M → Option qm_R) (f_Ta_readHeads : qm_M → Option qm_R) (l98 : Int32 → qm_M → Option qm_R) (v1 : Int32) (m : qm_M) : Option qm_R :=
  if v1 < (120 : Int32) then
    if (m.1 43 4) = 0 then
      qe_rV (f_Ta_skipBlanks m) fun m1 =>
      if (m1.1 43 3) < (m1.1 43 2) then
        qe_rV (f_Ta_readHeads m1) fun m2 =>
        l98 (v1 + (1 : Int32)) m2
      else
        some (some (.int (0 : Int32)), m1)
    else
      some (some (.int (m.1 43 4)), m)
  else
    some (some (.int (m.1 43 4)), m)
set_option maxRecDepth 100000 in
theorem xg_Ta_read_98 {kp : pm_K} {d : Nat} {f_Ta_readNumber : Int32 → Int32 → qm_M → Option qm_R} {f_Ta_readKind : qm_M → Option qm_R} {f_Ta_skipBlanks : qm_M → Option qm_R} {f_Ta_readHeads : qm_M → Option qm_R} {l98 : Int32 → qm_M → Option qm_R} (hT : qe_G kp d (T_Ta_read f_Ta_readNumber f_Ta_readKind f_Ta_skipBlanks f_Ta_readHeads)) (h98 : ∀ (v1 : Int32) (m : qm_M), qe_J kp md_Ta_read d (l98 v1 m) 98 [(0, .ref 43), (1, .int v1)] [] m) (v1 : Int32) (m : qm_M) : qe_J kp md_Ta_read d (X_Ta_read_98 f_Ta_readNumber f_Ta_readKind f_Ta_skipBlanks f_Ta_readHeads l98 v1 m) 98 [(0, .ref 43), (1, .int v1)] [] m := qe_run (B := [(98, [0, 1], qp_ci_ 43 l98)]) (n := 1000) hT (qe_B1 (qp_ci__ok h98) qe_B0) rfl
def L_Ta_read_98 : Nat → Int32 → qm_M → Option qm_R
  | 0, _, _ => none
  | n + 1, v1, m => X_Ta_read_98 F_Ta_readNumber F_Ta_readKind F_Ta_skipBlanks F_Ta_readHeads (L_Ta_read_98 n) v1 m
theorem lg_Ta_read_98 {kp : pm_K} {d : Nat} (hT : qe_G kp d (T_Ta_read F_Ta_readNumber F_Ta_readKind F_Ta_skipBlanks F_Ta_readHeads)) : ∀ (n : Nat) (v1 : Int32) (m : qm_M), qe_J kp md_Ta_read d (L_Ta_read_98 n v1 m) 98 [(0, .ref 43), (1, .int v1)] [] m
  | 0, v1, m => qe_none rfl
  | n + 1, v1, m => xg_Ta_read_98 hT (lg_Ta_read_98 hT n) v1 m
def X_Ta_read_e (f_Ta_readNumber : Int32 → Int32 → qm_M → Option qm_R) (f_Ta_readKind : qm_M → Option qm_R) (f_Ta_skipBlanks : qm_M → Option qm_R) (f_Ta_readHeads : qm_M → Option qm_R) (l98 : Int32 → qm_M → Option qm_R)  (m : qm_M) : Option qm_R :=
  let m1 : qm_M := qm_sI m 43 3 (0 : Int32)
  let m2 : qm_M := qm_sI m1 43 4 (0 : Int32)
  qe_rI (f_Ta_readNumber (1 : Int32) (6 : Int32) m2) fun x1 m3 =>
  let m4 : qm_M := qm_sI m3 45 0 x1
  qe_rI (f_Ta_readKind m4) fun x2 m5 =>
  let m6 : qm_M := qm_sI m5 45 2 x2
  qe_rI (f_Ta_readNumber (1 : Int32) (8 : Int32) m6) fun x3 m7 =>
  let m8 : qm_M := qm_sI m7 45 4 x3
  qe_rI (f_Ta_readNumber (1 : Int32) (6 : Int32) m8) fun x4 m9 =>
  let m10 : qm_M := qm_sI m9 45 1 x4
  qe_rI (f_Ta_readKind m10) fun x5 m11 =>
  let m12 : qm_M := qm_sI m11 45 3 x5
  qe_rI (f_Ta_readNumber (1 : Int32) (8 : Int32) m12) fun x6 m13 =>
  let m14 : qm_M := qm_sI m13 45 5 x6
  let m15 : qm_M := qm_sL m14 45 6 (0 : Int64)
  l98 (0 : Int32) m15
set_option maxRecDepth 100000 in
theorem xg_Ta_read_e {kp : pm_K} {d : Nat} {f_Ta_readNumber : Int32 → Int32 → qm_M → Option qm_R} {f_Ta_readKind : qm_M → Option qm_R} {f_Ta_skipBlanks : qm_M → Option qm_R} {f_Ta_readHeads : qm_M → Option qm_R} {l98 : Int32 → qm_M → Option qm_R} (hT : qe_G kp d (T_Ta_read f_Ta_readNumber f_Ta_readKind f_Ta_skipBlanks f_Ta_readHeads)) (h98 : ∀ (v1 : Int32) (m : qm_M), qe_J kp md_Ta_read d (l98 v1 m) 98 [(0, .ref 43), (1, .int v1)] [] m) (m : qm_M) : qe_J kp md_Ta_read d (X_Ta_read_e f_Ta_readNumber f_Ta_readKind f_Ta_skipBlanks f_Ta_readHeads l98 m) 0 [(0, .ref 43)] [] m := qe_run (B := [(98, [0, 1], qp_ci_ 43 l98)]) (n := 1000) hT (qe_B1 (qp_ci__ok h98) qe_B0) rfl
def F_Ta_read (m : qm_M) : Option qm_R := X_Ta_read_e F_Ta_readNumber F_Ta_readKind F_Ta_skipBlanks F_Ta_readHeads (L_Ta_read_98 1000000) m
theorem fj_Ta_read {kp : pm_K} {d : Nat} (hT : qe_G kp d (T_Ta_read F_Ta_readNumber F_Ta_readKind F_Ta_skipBlanks F_Ta_readHeads)) (m : qm_M) : qe_J kp md_Ta_read d (F_Ta_read m) 0 [(0, .ref 43)] [] m := xg_Ta_read_e hT (lg_Ta_read_98 hT 1000000) m
theorem fg_Ta_read {kp : pm_K} (d : Nat) : qe_GE kp (d + 7) (123, 0, 9, 1, qw_c 43 F_Ta_read) := qe_entry (by decide +kernel) (qw_c_ok (d := d + 6) rfl rfl (fj_Ta_read (qe_G1 (fg_Ta_readNumber (d + 4)) (qe_G1 (fg_Ta_readKind (d + 0)) (qe_G1 (fg_Ta_skipBlanks (d + 5)) (qe_G1 (fg_Ta_readHeads (d + 0)) qe_G0))))))
