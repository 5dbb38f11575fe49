/-! TurnField$Lengths.canHold(LTurnField$Position;)Z -/
noncomputable def T_Le_canHold : qe_T := []
def X_Le_canHold_e  (m : qm_M) : Option qm_R :=
  if (12 : Int32) < ((m.1 1 0) * (m.1 1 1)) then
    some (some (.int (0 : Int32)), m)
  else
    some (some (.int (1 : Int32)), m)
set_option maxRecDepth 100000 in
theorem xg_Le_canHold_e {kp : pm_K} {d : Nat} (hT : qe_G kp d (T_Le_canHold)) (m : qm_M) : qe_J kp md_Le_canHold d (X_Le_canHold_e m) 0 [(0, .ref 1)] [] m := qe_run (B := []) (n := 1000) hT qe_B0 rfl
def F_Le_canHold (m : qm_M) : Option qm_R := X_Le_canHold_e m
theorem fj_Le_canHold {kp : pm_K} {d : Nat} (hT : qe_G kp d (T_Le_canHold)) (m : qm_M) : qe_J kp md_Le_canHold d (F_Le_canHold m) 0 [(0, .ref 1)] [] m := xg_Le_canHold_e hT m
theorem fg_Le_canHold {kp : pm_K} (d : Nat) : qe_GE kp (d + 1) (2, 1, 0, 1, qw_c 1 F_Le_canHold) := qe_entry (by decide +kernel) (qw_c_ok (d := d + 0) rfl rfl (fj_Le_canHold qe_G0))
/-! TurnField$Play.effectOf(II)I -/
noncomputable def T_Pl_effectOf : qe_T := []
def X_Pl_effectOf_e (v1 : Int32) (v2 : Int32) (m : qm_M) : Option qm_R :=
  qe_b (qm_in (((v1 &&& (63 : Int32)) * (64 : Int32)) + (v2 &&& (63 : Int32))) 4096) (
  some (some (.int (m.1 59 (Int32.toNatClampNeg (((v1 &&& (63 : Int32)) * (64 : Int32)) + (v2 &&& (63 : Int32)))))), m))
set_option maxRecDepth 100000 in
theorem xg_Pl_effectOf_e {kp : pm_K} {d : Nat} (hT : qe_G kp d (T_Pl_effectOf)) (v1 : Int32) (v2 : Int32) (m : qm_M) : qe_J kp md_Pl_effectOf d (X_Pl_effectOf_e v1 v2 m) 0 [(0, .ref 48), (1, .int v1), (2, .int v2)] [] m := qe_run (B := []) (n := 1000) hT qe_B0 rfl
def F_Pl_effectOf (v1 : Int32) (v2 : Int32) (m : qm_M) : Option qm_R := X_Pl_effectOf_e v1 v2 m
theorem fj_Pl_effectOf {kp : pm_K} {d : Nat} (hT : qe_G kp d (T_Pl_effectOf)) (v1 : Int32) (v2 : Int32) (m : qm_M) : qe_J kp md_Pl_effectOf d (F_Pl_effectOf v1 v2 m) 0 [(0, .ref 48), (1, .int v1), (2, .int v2)] [] m := xg_Pl_effectOf_e hT v1 v2 m
theorem fg_Pl_effectOf {kp : pm_K} (d : Nat) : qe_GE kp (d + 1) (23, 0, 3, 1, qw_cii 48 F_Pl_effectOf) := qe_entry (by decide +kernel) (qw_cii_ok (d := d + 0) rfl rfl (fj_Pl_effectOf qe_G0))
/-! TurnField$Play.joinEffects()V -/
noncomputable def T_Pl_joinEffects (f_Pl_effectOf : Int32 → Int32 → qm_M → Option qm_R) : qe_T := [(23, 0, 3, 1, qw_cii 48 f_Pl_effectOf)]
def X_Pl_joinEffects_15 (f_Pl_effectOf : Int32 → Int32 → qm_M → Option qm_R) (l2 : Int32 → qm_M → Option qm_R) (l15 : Int32 → Int32 → Int32 → qm_M → Option qm_R) (v1 : Int32) (v2 : Int32) (v3 : Int32) (m : qm_M) : Option qm_R :=
  if v3 < (64 : Int32) then
    if v1 = v2 then
      if v3 = (v3 &&& (-v3)) then
        l15 v1 v2 (v3 + (1 : Int32)) m
      else
        qe_rI (f_Pl_effectOf v2 (v3 &&& (-v3)) m) fun x1 m1 =>
        qe_rI (f_Pl_effectOf v2 (v3 ^^^ (v3 &&& (-v3))) m1) fun x2 m2 =>
        qe_b (qm_in ((v1 * (64 : Int32)) + v3) 4096) (
        let m3 : qm_M := qm_sI m2 59 (Int32.toNatClampNeg ((v1 * (64 : Int32)) + v3)) (x1 ^^^ x2)
        l15 v1 v2 (v3 + (1 : Int32)) m3)
    else
      qe_rI (f_Pl_effectOf v2 v3 m) fun x3 m4 =>
      qe_rI (f_Pl_effectOf (v1 ^^^ v2) v3 m4) fun x4 m5 =>
      qe_b (qm_in ((v1 * (64 : Int32)) + v3) 4096) (
      let m6 : qm_M := qm_sI m5 59 (Int32.toNatClampNeg ((v1 * (64 : Int32)) + v3)) (x3 ^^^ x4)
      l15 v1 v2 (v3 + (1 : Int32)) m6)
  else
    l2 (v1 + (1 : Int32)) m
set_option maxRecDepth 100000 in
theorem xg_Pl_joinEffects_15 {kp : pm_K} {d : Nat} {f_Pl_effectOf : Int32 → Int32 → qm_M → Option qm_R} {l2 : Int32 → qm_M → Option qm_R} {l15 : Int32 → Int32 → Int32 → qm_M → Option qm_R} (hT : qe_G kp d (T_Pl_joinEffects f_Pl_effectOf)) (h2 : ∀ (v1 : Int32) (m : qm_M), qe_J kp md_Pl_joinEffects d (l2 v1 m) 2 [(0, .ref 48), (1, .int v1)] [] m) (h15 : ∀ (v1 : Int32) (v2 : Int32) (v3 : Int32) (m : qm_M), qe_J kp md_Pl_joinEffects d (l15 v1 v2 v3 m) 15 [(0, .ref 48), (1, .int v1), (2, .int v2), (3, .int v3)] [] m) (v1 : Int32) (v2 : Int32) (v3 : Int32) (m : qm_M) : qe_J kp md_Pl_joinEffects d (X_Pl_joinEffects_15 f_Pl_effectOf l2 l15 v1 v2 v3 m) 15 [(0, .ref 48), (1, .int v1), (2, .int v2), (3, .int v3)] [] m := qe_run (B := [(2, [0, 1], qp_ci_ 48 l2), (15, [0, 1, 2, 3], qp_ciii_ 48 l15)]) (n := 1000) hT (qe_B1 (qp_ci__ok h2) (qe_B1 (qp_ciii__ok h15) qe_B0)) rfl
def L_Pl_joinEffects_15 (K2 : Int32 → qm_M → Option qm_R) : Nat → Int32 → Int32 → Int32 → qm_M → Option qm_R
  | 0, _, _, _, _ => none
  | n + 1, v1, v2, v3, m => X_Pl_joinEffects_15 F_Pl_effectOf K2 (L_Pl_joinEffects_15 K2 n) v1 v2 v3 m
theorem lg_Pl_joinEffects_15 {kp : pm_K} {d : Nat} (hT : qe_G kp d (T_Pl_joinEffects F_Pl_effectOf)) {K2 : Int32 → qm_M → Option qm_R} (hK2 : ∀ (v1 : Int32) (m : qm_M), qe_J kp md_Pl_joinEffects d (K2 v1 m) 2 [(0, .ref 48), (1, .int v1)] [] m) : ∀ (n : Nat) (v1 : Int32) (v2 : Int32) (v3 : Int32) (m : qm_M), qe_J kp md_Pl_joinEffects d (L_Pl_joinEffects_15 K2 n v1 v2 v3 m) 15 [(0, .ref 48), (1, .int v1), (2, .int v2), (3, .int v3)] [] m
  | 0, v1, v2, v3, m => qe_none rfl
  | n + 1, v1, v2, v3, m => xg_Pl_joinEffects_15 hT hK2 (lg_Pl_joinEffects_15 hT hK2 n) v1 v2 v3 m
def X_Pl_joinEffects_2 (f_Pl_effectOf : Int32 → Int32 → qm_M → Option qm_R) (l15 : Int32 → Int32 → Int32 → qm_M → Option qm_R) (v1 : Int32) (m : qm_M) : Option qm_R :=
  if v1 < (64 : Int32) then
    l15 v1 (v1 &&& (-v1)) (1 : Int32) m
  else
    some (none, m)
set_option maxRecDepth 100000 in
theorem xg_Pl_joinEffects_2 {kp : pm_K} {d : Nat} {f_Pl_effectOf : Int32 → Int32 → qm_M → Option qm_R} {l15 : Int32 → Int32 → Int32 → qm_M → Option qm_R} (hT : qe_G kp d (T_Pl_joinEffects f_Pl_effectOf)) (h15 : ∀ (v1 : Int32) (v2 : Int32) (v3 : Int32) (m : qm_M), qe_J kp md_Pl_joinEffects d (l15 v1 v2 v3 m) 15 [(0, .ref 48), (1, .int v1), (2, .int v2), (3, .int v3)] [] m) (v1 : Int32) (m : qm_M) : qe_J kp md_Pl_joinEffects d (X_Pl_joinEffects_2 f_Pl_effectOf l15 v1 m) 2 [(0, .ref 48), (1, .int v1)] [] m := qe_run (B := [(15, [0, 1, 2, 3], qp_ciii_ 48 l15)]) (n := 1000) hT (qe_B1 (qp_ciii__ok h15) qe_B0) rfl
def L_Pl_joinEffects_2 : Nat → Int32 → qm_M → Option qm_R
  | 0, _, _ => none
  | n + 1, v1, m => X_Pl_joinEffects_2 F_Pl_effectOf (L_Pl_joinEffects_15 (L_Pl_joinEffects_2 n) 1000000) v1 m
theorem lg_Pl_joinEffects_2 {kp : pm_K} {d : Nat} (hT : qe_G kp d (T_Pl_joinEffects F_Pl_effectOf)) : ∀ (n : Nat) (v1 : Int32) (m : qm_M), qe_J kp md_Pl_joinEffects d (L_Pl_joinEffects_2 n v1 m) 2 [(0, .ref 48), (1, .int v1)] [] m
  | 0, v1, m => qe_none rfl
  | n + 1, v1, m => xg_Pl_joinEffects_2 hT (lg_Pl_joinEffects_15 hT (lg_Pl_joinEffects_2 hT n) 1000000) v1 m
def X_Pl_joinEffects_e (f_Pl_effectOf : Int32 → Int32 → qm_M → Option qm_R) (l2 : Int32 → qm_M → Option qm_R)  (m : qm_M) : Option qm_R :=
  l2 (1 : Int32) m
set_option maxRecDepth 100000 in
theorem xg_Pl_joinEffects_e {kp : pm_K} {d : Nat} {f_Pl_effectOf : Int32 → Int32 → qm_M → Option qm_R} {l2 : Int32 → qm_M → Option qm_R} (hT : qe_G kp d (T_Pl_joinEffects f_Pl_effectOf)) (h2 : ∀ (v1 : Int32) (m : qm_M), qe_J kp md_Pl_joinEffects d (l2 v1 m) 2 [(0, .ref 48), (1, .int v1)] [] m) (m : qm_M) : qe_J kp md_Pl_joinEffects d (X_Pl_joinEffects_e f_Pl_effectOf l2 m) 0 [(0, .ref 48)] [] m := qe_run (B := [(2, [0, 1], qp_ci_ 48 l2)]) (n := 1000) hT (qe_B1 (qp_ci__ok h2) qe_B0) rfl
def F_Pl_joinEffects (m : qm_M) : Option qm_R := X_Pl_joinEffects_e F_Pl_effectOf (L_Pl_joinEffects_2 1000000) m
theorem fj_Pl_joinEffects {kp : pm_K} {d : Nat} (hT : qe_G kp d (T_Pl_joinEffects F_Pl_effectOf)) (m : qm_M) : qe_J kp md_Pl_joinEffects d (F_Pl_joinEffects m) 0 [(0, .ref 48)] [] m := xg_Pl_joinEffects_e hT (lg_Pl_joinEffects_2 hT 1000000) m
theorem fg_Pl_joinEffects {kp : pm_K} (d : Nat) : qe_GE kp (d + 2) (22, 0, 3, 0, qw_c 48 F_Pl_joinEffects) := qe_entry (by decide +kernel) (qw_c_ok (d := d + 1) rfl rfl (fj_Pl_joinEffects (qe_G1 (fg_Pl_effectOf (d + 0)) qe_G0)))
/-! TurnField$Play.worthOfBit(LTurnField$Rule;I)I -/
noncomputable def T_Pl_worthOfBit (f_JI_bitCount : Int32 → qm_M → Option qm_R) (f_Ru_worthOf : Nat → Int32 → qm_M → Option qm_R) : qe_T := [(106, 1, 0, 1, qw_i f_JI_bitCount), (50, 0, 6, 1, qw_ri f_Ru_worthOf)]
def X_Pl_worthOfBit_e (f_JI_bitCount : Int32 → qm_M → Option qm_R) (f_Ru_worthOf : Nat → Int32 → qm_M → Option qm_R) (v0 : Nat) (v1 : Int32) (m : qm_M) : Option qm_R :=
  qe_rI (f_JI_bitCount (v1 - (1 : Int32)) m) fun x1 m1 =>
  qe_b (qm_isO v0 6) (
  qe_rI (f_Ru_worthOf v0 x1 m1) fun x2 m2 =>
  some (some (.int x2), m2))
set_option maxRecDepth 100000 in
theorem xg_Pl_worthOfBit_e {kp : pm_K} {d : Nat} {f_JI_bitCount : Int32 → qm_M → Option qm_R} {f_Ru_worthOf : Nat → Int32 → qm_M → Option qm_R} (hT : qe_G kp d (T_Pl_worthOfBit f_JI_bitCount f_Ru_worthOf)) (v0 : Nat) (v1 : Int32) (m : qm_M) : qe_J kp md_Pl_worthOfBit d (X_Pl_worthOfBit_e f_JI_bitCount f_Ru_worthOf v0 v1 m) 0 [(0, .ref v0), (1, .int v1)] [] m := qe_run (B := []) (n := 1000) hT qe_B0 rfl
def F_Pl_worthOfBit (v0 : Nat) (v1 : Int32) (m : qm_M) : Option qm_R := X_Pl_worthOfBit_e F_JI_bitCount F_Ru_worthOf v0 v1 m
theorem fj_Pl_worthOfBit {kp : pm_K} {d : Nat} (hT : qe_G kp d (T_Pl_worthOfBit F_JI_bitCount F_Ru_worthOf)) (v0 : Nat) (v1 : Int32) (m : qm_M) : qe_J kp md_Pl_worthOfBit d (F_Pl_worthOfBit v0 v1 m) 0 [(0, .ref v0), (1, .int v1)] [] m := xg_Pl_worthOfBit_e hT v0 v1 m
theorem fg_Pl_worthOfBit {kp : pm_K} (d : Nat) : qe_GE kp (d + 2) (21, 1, 0, 1, qw_ri F_Pl_worthOfBit) := qe_entry (by decide +kernel) (qw_ri_ok (d := d + 1) rfl rfl (fj_Pl_worthOfBit (qe_G1 (fg_JI_bitCount (d + 0)) (qe_G1 (fg_Ru_worthOf (d + 0)) qe_G0))))
/-! TurnField$Play.tune(LTurnField$Position;)V -/
noncomputable def T_Pl_tune (f_Ps_rulesKey : Nat → qm_M → Option qm_R) (f_Ru_tune : Nat → Int32 → Int32 → qm_M → Option qm_R) (f_Pl_joinEffects : qm_M → Option qm_R) (f_Pl_worthOfBit : Nat → Int32 → qm_M → Option qm_R) (f_Nu_product : Int64 → Int64 → qm_M → Option qm_R) : qe_T := [(43, 0, 5, 1, qw_r f_Ps_rulesKey), (45, 0, 6, 0, qw_rii f_Ru_tune), (22, 0, 3, 0, qw_c 48 f_Pl_joinEffects), (21, 1, 0, 1, qw_ri f_Pl_worthOfBit), (11, 1, 0, 2, qw_ll f_Nu_product)]
def X_Pl_tune_60 (f_Ps_rulesKey : Nat → qm_M → Option qm_R) (f_Ru_tune : Nat → Int32 → Int32 → qm_M → Option qm_R) (f_Pl_joinEffects : qm_M → Option qm_R) (f_Pl_worthOfBit : Nat → Int32 → qm_M → Option qm_R) (f_Nu_product : Int64 → Int64 → qm_M → Option qm_R) (l51 : Int32 → qm_M → Option qm_R) (l60 : Int32 → Int32 → qm_M → Option qm_R) (v3 : Int32) (v4 : Int32) (m : qm_M) : Option qm_R :=
  if v4 < (64 : Int32) then
    qe_rI (f_Pl_worthOfBit 49 v3 m) fun x1 m1 =>
    qe_rI (f_Pl_worthOfBit 54 v4 m1) fun x2 m2 =>
    qe_rL (f_Nu_product (Int32.toInt64 x1) (Int32.toInt64 x2) m2) fun x3 m3 =>
    qe_b (qm_in ((v3 * (64 : Int32)) + v4) 4096) (
    let m4 : qm_M := qm_sI m3 59 (Int32.toNatClampNeg ((v3 * (64 : Int32)) + v4)) (Int64.toInt32 x3)
    l60 v3 (qo_ishl v4 (1 : Int32)) m4)
  else
    l51 (qo_ishl v3 (1 : Int32)) m
set_option maxRecDepth 100000 in
theorem xg_Pl_tune_60 {kp : pm_K} {d : Nat} {f_Ps_rulesKey : Nat → qm_M → Option qm_R} {f_Ru_tune : Nat → Int32 → Int32 → qm_M → Option qm_R} {f_Pl_joinEffects : qm_M → Option qm_R} {f_Pl_worthOfBit : Nat → Int32 → qm_M → Option qm_R} {f_Nu_product : Int64 → Int64 → qm_M → Option qm_R} {l51 : Int32 → qm_M → Option qm_R} {l60 : Int32 → Int32 → qm_M → Option qm_R} (hT : qe_G kp d (T_Pl_tune f_Ps_rulesKey f_Ru_tune f_Pl_joinEffects f_Pl_worthOfBit f_Nu_product)) (h51 : ∀ (v3 : Int32) (m : qm_M), qe_J kp md_Pl_tune d (l51 v3 m) 51 [(0, .ref 48), (3, .int v3)] [] m) (h60 : ∀ (v3 : Int32) (v4 : Int32) (m : qm_M), qe_J kp md_Pl_tune d (l60 v3 v4 m) 60 [(0, .ref 48), (3, .int v3), (4, .int v4)] [] m) (v3 : Int32) (v4 : Int32) (m : qm_M) : qe_J kp md_Pl_tune d (X_Pl_tune_60 f_Ps_rulesKey f_Ru_tune f_Pl_joinEffects f_Pl_worthOfBit f_Nu_product l51 l60 v3 v4 m) 60 [(0, .ref 48), (3, .int v3), (4, .int v4)] [] m := qe_run (B := [(51, [0, 3], qp_ci_ 48 l51), (60, [0, 3, 4], qp_cii_ 48 l60)]) (n := 1000) hT (qe_B1 (qp_ci__ok h51) (qe_B1 (qp_cii__ok h60) qe_B0)) rfl
def L_Pl_tune_60 (K51 : Int32 → qm_M → Option qm_R) : Nat → Int32 → Int32 → qm_M → Option qm_R
  | 0, _, _, _ => none
  | n + 1, v3, v4, m => X_Pl_tune_60 F_Ps_rulesKey F_Ru_tune F_Pl_joinEffects F_Pl_worthOfBit F_Nu_product K51 (L_Pl_tune_60 K51 n) v3 v4 m
theorem lg_Pl_tune_60 {kp : pm_K} {d : Nat} (hT : qe_G kp d (T_Pl_tune F_Ps_rulesKey F_Ru_tune F_Pl_joinEffects F_Pl_worthOfBit F_Nu_product)) {K51 : Int32 → qm_M → Option qm_R} (hK51 : ∀ (v3 : Int32) (m : qm_M), qe_J kp md_Pl_tune d (K51 v3 m) 51 [(0, .ref 48), (3, .int v3)] [] m) : ∀ (n : Nat) (v3 : Int32) (v4 : Int32) (m : qm_M), qe_J kp md_Pl_tune d (L_Pl_tune_60 K51 n v3 v4 m) 60 [(0, .ref 48), (3, .int v3), (4, .int v4)] [] m
  | 0, v3, v4, m => qe_none rfl
  | n + 1, v3, v4, m => xg_Pl_tune_60 hT hK51 (lg_Pl_tune_60 hT hK51 n) v3 v4 m
def X_Pl_tune_51 (f_Ps_rulesKey : Nat → qm_M → Option qm_R) (f_Ru_tune : Nat → Int32 → Int32 → qm_M → Option qm_R) (f_Pl_joinEffects : qm_M → Option qm_R) (f_Pl_worthOfBit : Nat → Int32 → qm_M → Option qm_R) (f_Nu_product : Int64 → Int64 → qm_M → Option qm_R) (l60 : Int32 → Int32 → qm_M → Option qm_R) (v3 : Int32) (m : qm_M) : Option qm_R :=
  if v3 < (64 : Int32) then
    l60 v3 (1 : Int32) m
  else
    qe_rV (f_Pl_joinEffects m) fun m1 =>
    some (none, m1)
set_option maxRecDepth 100000 in
theorem xg_Pl_tune_51 {kp : pm_K} {d : Nat} {f_Ps_rulesKey : Nat → qm_M → Option qm_R} {f_Ru_tune : Nat → Int32 → Int32 → qm_M → Option qm_R} {f_Pl_joinEffects : qm_M → Option qm_R} {f_Pl_worthOfBit : Nat → Int32 → qm_M → Option qm_R} {f_Nu_product : Int64 → Int64 → qm_M → Option qm_R} {l60 : Int32 → Int32 → qm_M → Option qm_R} (hT : qe_G kp d (T_Pl_tune f_Ps_rulesKey f_Ru_tune f_Pl_joinEffects f_Pl_worthOfBit f_Nu_product)) (h60 : ∀ (v3 : Int32) (v4 : Int32) (m : qm_M), qe_J kp md_Pl_tune d (l60 v3 v4 m) 60 [(0, .ref 48), (3, .int v3), (4, .int v4)] [] m) (v3 : Int32) (m : qm_M) : qe_J kp md_Pl_tune d (X_Pl_tune_51 f_Ps_rulesKey f_Ru_tune f_Pl_joinEffects f_Pl_worthOfBit f_Nu_product l60 v3 m) 51 [(0, .ref 48), (3, .int v3)] [] m := qe_run (B := [(60, [0, 3, 4], qp_cii_ 48 l60)]) (n := 1000) hT (qe_B1 (qp_cii__ok h60) qe_B0) rfl
def L_Pl_tune_51 : Nat → Int32 → qm_M → Option qm_R
  | 0, _, _ => none
  | n + 1, v3, m => X_Pl_tune_51 F_Ps_rulesKey F_Ru_tune F_Pl_joinEffects F_Pl_worthOfBit F_Nu_product (L_Pl_tune_60 (L_Pl_tune_51 n) 1000000) v3 m
theorem lg_Pl_tune_51 {kp : pm_K} {d : Nat} (hT : qe_G kp d (T_Pl_tune F_Ps_rulesKey F_Ru_tune F_Pl_joinEffects F_Pl_worthOfBit F_Nu_product)) : ∀ (n : Nat) (v3 : Int32) (m : qm_M), qe_J kp md_Pl_tune d (L_Pl_tune_51 n v3 m) 51 [(0, .ref 48), (3, .int v3)] [] m
  | 0, v3, m => qe_none rfl
  | n + 1, v3, m => xg_Pl_tune_51 hT (lg_Pl_tune_60 hT (lg_Pl_tune_51 hT n) 1000000) v3 m
def X_Pl_tune_e (f_Ps_rulesKey : Nat → qm_M → Option qm_R) (f_Ru_tune : Nat → Int32 → Int32 → qm_M → Option qm_R) (f_Pl_joinEffects : qm_M → Option qm_R) (f_Pl_worthOfBit : Nat → Int32 → qm_M → Option qm_R) (f_Nu_product : Int64 → Int64 → qm_M → Option qm_R) (l51 : Int32 → qm_M → Option qm_R)  (m : qm_M) : Option qm_R :=
  qe_rI (f_Ps_rulesKey 1 m) fun x1 m1 =>
  if (m1.1 48 3) = x1 then
    some (none, m1)
  else
    let m2 : qm_M := qm_sI m1 48 3 x1
    qe_rV (f_Ru_tune 49 (m2.1 1 2) (m2.1 1 4) m2) fun m3 =>
    qe_rV (f_Ru_tune 54 (m3.1 1 3) (m3.1 1 5) m3) fun m4 =>
    l51 (1 : Int32) m4
set_option maxRecDepth 100000 in
theorem xg_Pl_tune_e {kp : pm_K} {d : Nat} {f_Ps_rulesKey : Nat → qm_M → Option qm_R} {f_Ru_tune : Nat → Int32 → Int32 → qm_M → Option qm_R} {f_Pl_joinEffects : qm_M → Option qm_R} {f_Pl_worthOfBit : Nat → Int32 → qm_M → Option qm_R} {f_Nu_product : Int64 → Int64 → qm_M → Option qm_R} {l51 : Int32 → qm_M → Option qm_R} (hT : qe_G kp d (T_Pl_tune f_Ps_rulesKey f_Ru_tune f_Pl_joinEffects f_Pl_worthOfBit f_Nu_product)) (h51 : ∀ (v3 : Int32) (m : qm_M), qe_J kp md_Pl_tune d (l51 v3 m) 51 [(0, .ref 48), (3, .int v3)] [] m) (m : qm_M) : qe_J kp md_Pl_tune d (X_Pl_tune_e f_Ps_rulesKey f_Ru_tune f_Pl_joinEffects f_Pl_worthOfBit f_Nu_product l51 m) 0 [(0, .ref 48), (1, .ref 1)] [] m := qe_run (B := [(51, [0, 3], qp_ci_ 48 l51)]) (n := 1000) hT (qe_B1 (qp_ci__ok h51) qe_B0) rfl
def F_Pl_tune (m : qm_M) : Option qm_R := X_Pl_tune_e F_Ps_rulesKey F_Ru_tune F_Pl_joinEffects F_Pl_worthOfBit F_Nu_product (L_Pl_tune_51 1000000) m
theorem fj_Pl_tune {kp : pm_K} {d : Nat} (hT : qe_G kp d (T_Pl_tune F_Ps_rulesKey F_Ru_tune F_Pl_joinEffects F_Pl_worthOfBit F_Nu_product)) (m : qm_M) : qe_J kp md_Pl_tune d (F_Pl_tune m) 0 [(0, .ref 48), (1, .ref 1)] [] m := xg_Pl_tune_e hT (lg_Pl_tune_51 hT 1000000) m
theorem fg_Pl_tune {kp : pm_K} (d : Nat) : qe_GE kp (d + 34) (20, 0, 3, 0, qw_cc 48 1 F_Pl_tune) := qe_entry (by decide +kernel) (qw_cc_ok (d := d + 33) rfl rfl (fj_Pl_tune (qe_G1 (fg_Ps_rulesKey (d + 32)) (qe_G1 (fg_Ru_tune (d + 29)) (qe_G1 (fg_Pl_joinEffects (d + 31)) (qe_G1 (fg_Pl_worthOfBit (d + 31)) (qe_G1 (fg_Nu_product (d + 0)) qe_G0)))))))
/-! TurnField$Play.areSets(II)Z -/
noncomputable def T_Pl_areSets (f_Ru_allows : Nat → Int32 → qm_M → Option qm_R) : qe_T := [(48, 0, 6, 1, qw_ri f_Ru_allows)]
def X_Pl_areSets_e (f_Ru_allows : Nat → Int32 → qm_M → Option qm_R) (v1 : Int32) (v2 : Int32) (m : qm_M) : Option qm_R :=
  qe_rI (f_Ru_allows 49 v1 m) fun x1 m1 =>
  if x1 = 0 then
    some (some (.int (0 : Int32)), m1)
  else
    qe_rI (f_Ru_allows 54 v2 m1) fun x2 m2 =>
    if x2 = 0 then
      some (some (.int (0 : Int32)), m2)
    else
      some (some (.int (1 : Int32)), m2)
set_option maxRecDepth 100000 in
theorem xg_Pl_areSets_e {kp : pm_K} {d : Nat} {f_Ru_allows : Nat → Int32 → qm_M → Option qm_R} (hT : qe_G kp d (T_Pl_areSets f_Ru_allows)) (v1 : Int32) (v2 : Int32) (m : qm_M) : qe_J kp md_Pl_areSets d (X_Pl_areSets_e f_Ru_allows v1 v2 m) 0 [(0, .ref 48), (1, .int v1), (2, .int v2)] [] m := qe_run (B := []) (n := 1000) hT qe_B0 rfl
def F_Pl_areSets (v1 : Int32) (v2 : Int32) (m : qm_M) : Option qm_R := X_Pl_areSets_e F_Ru_allows v1 v2 m
theorem fj_Pl_areSets {kp : pm_K} {d : Nat} (hT : qe_G kp d (T_Pl_areSets F_Ru_allows)) (v1 : Int32) (v2 : Int32) (m : qm_M) : qe_J kp md_Pl_areSets d (F_Pl_areSets v1 v2 m) 0 [(0, .ref 48), (1, .int v1), (2, .int v2)] [] m := xg_Pl_areSets_e hT v1 v2 m
theorem fg_Pl_areSets {kp : pm_K} (d : Nat) : qe_GE kp (d + 3) (26, 0, 3, 1, qw_cii 48 F_Pl_areSets) := qe_entry (by decide +kernel) (qw_cii_ok (d := d + 2) rfl rfl (fj_Pl_areSets (qe_G1 (fg_Ru_allows (d + 0)) qe_G0)))
/-! TurnField$Lengths.packed(J)I -/
noncomputable def T_Le_packed : qe_T := []
def X_Le_packed_5 (l5 : Int64 → Int32 → Int32 → qm_M → Option qm_R) (v1 : Int64) (v3 : Int32) (v4 : Int32) (m : qm_M) : Option qm_R :=
  if v4 < (m.1 60 4) then
    let x1 : Int32 := (v3 ||| (qo_ishl (Int64.toInt32 ((qo_lushr v1 ((6 : Int32) * v4)) &&& (63 : Int64))) ((m.1 60 5) * v4)))
    l5 v1 x1 (v4 + (1 : Int32)) m
  else
    some (some (.int v3), m)
set_option maxRecDepth 100000 in
theorem xg_Le_packed_5 {kp : pm_K} {d : Nat} {l5 : Int64 → Int32 → Int32 → qm_M → Option qm_R} (hT : qe_G kp d (T_Le_packed)) (h5 : ∀ (v1 : Int64) (v3 : Int32) (v4 : Int32) (m : qm_M), qe_J kp md_Le_packed d (l5 v1 v3 v4 m) 5 [(0, .ref 60), (1, .long v1), (3, .int v3), (4, .int v4)] [] m) (v1 : Int64) (v3 : Int32) (v4 : Int32) (m : qm_M) : qe_J kp md_Le_packed d (X_Le_packed_5 l5 v1 v3 v4 m) 5 [(0, .ref 60), (1, .long v1), (3, .int v3), (4, .int v4)] [] m := qe_run (B := [(5, [0, 1, 3, 4], qp_clii_ 60 l5)]) (n := 1000) hT (qe_B1 (qp_clii__ok h5) qe_B0) rfl
def L_Le_packed_5 : Nat → Int64 → Int32 → Int32 → qm_M → Option qm_R
  | 0, _, _, _, _ => none
  | n + 1, v1, v3, v4, m => X_Le_packed_5 (L_Le_packed_5 n) v1 v3 v4 m
theorem lg_Le_packed_5 {kp : pm_K} {d : Nat} (hT : qe_G kp d (T_Le_packed)) : ∀ (n : Nat) (v1 : Int64) (v3 : Int32) (v4 : Int32) (m : qm_M), qe_J kp md_Le_packed d (L_Le_packed_5 n v1 v3 v4 m) 5 [(0, .ref 60), (1, .long v1), (3, .int v3), (4, .int v4)] [] m
  | 0, v1, v3, v4, m => qe_none rfl
  | n + 1, v1, v3, v4, m => xg_Le_packed_5 hT (lg_Le_packed_5 hT n) v1 v3 v4 m
def X_Le_packed_e (l5 : Int64 → Int32 → Int32 → qm_M → Option qm_R) (v1 : Int64) (m : qm_M) : Option qm_R :=
  l5 v1 (0 : Int32) (0 : Int32) m
set_option maxRecDepth 100000 in
theorem xg_Le_packed_e {kp : pm_K} {d : Nat} {l5 : Int64 → Int32 → Int32 → qm_M → Option qm_R} (hT : qe_G kp d (T_Le_packed)) (h5 : ∀ (v1 : Int64) (v3 : Int32) (v4 : Int32) (m : qm_M), qe_J kp md_Le_packed d (l5 v1 v3 v4 m) 5 [(0, .ref 60), (1, .long v1), (3, .int v3), (4, .int v4)] [] m) (v1 : Int64) (m : qm_M) : qe_J kp md_Le_packed d (X_Le_packed_e l5 v1 m) 0 [(0, .ref 60), (1, .long v1)] [] m := qe_run (B := [(5, [0, 1, 3, 4], qp_clii_ 60 l5)]) (n := 1000) hT (qe_B1 (qp_clii__ok h5) qe_B0) rfl
def F_Le_packed (v1 : Int64) (m : qm_M) : Option qm_R := X_Le_packed_e (L_Le_packed_5 1000000) v1 m
theorem fj_Le_packed {kp : pm_K} {d : Nat} (hT : qe_G kp d (T_Le_packed)) (v1 : Int64) (m : qm_M) : qe_J kp md_Le_packed d (F_Le_packed v1 m) 0 [(0, .ref 60), (1, .long v1)] [] m := xg_Le_packed_e hT (lg_Le_packed_5 hT 1000000) v1 m
theorem fg_Le_packed {kp : pm_K} (d : Nat) : qe_GE kp (d + 1) (8, 0, 1, 1, qw_cl 60 F_Le_packed) := qe_entry (by decide +kernel) (qw_cl_ok (d := d + 0) rfl rfl (fj_Le_packed qe_G0))
/-! TurnField$Lengths.listMovesAt(IILTurnField$Play;)V -/
noncomputable def T_Le_listMovesAt (f_Pl_areSets : Int32 → Int32 → qm_M → Option qm_R) (f_Ps_bitsOf : Int32 → Int32 → qm_M → Option qm_R) (f_Le_packed : Int64 → qm_M → Option qm_R) : qe_T := [(26, 0, 3, 1, qw_cii 48 f_Pl_areSets), (37, 1, 0, 2, qw_ii f_Ps_bitsOf), (8, 0, 1, 1, qw_cl 60 f_Le_packed)]
def X_Le_listMovesAt_14 (f_Pl_areSets : Int32 → Int32 → qm_M → Option qm_R) (f_Ps_bitsOf : Int32 → Int32 → qm_M → Option qm_R) (f_Le_packed : Int64 → qm_M → Option qm_R) (l3 : Int32 → Int32 → Int32 → qm_M → Option qm_R) (l14 : Int32 → Int32 → Int32 → Int32 → qm_M → Option qm_R) (v1 : Int32) (v2 : Int32) (v4 : Int32) (v5 : Int32) (m : qm_M) : Option qm_R :=
  if v5 < (qo_ishl v2 (1 : Int32)) then
    if (m.1 60 6) < (256 : Int32) then
      qe_rI (f_Pl_areSets v4 v5 m) fun x1 m1 =>
      if x1 = 0 then
        l14 v1 v2 v4 (v5 + (1 : Int32)) m1
      else
        qe_rL (f_Ps_bitsOf v4 v5 m1) fun x2 m2 =>
        qe_rI (f_Le_packed x2 m2) fun x3 m3 =>
        qe_b (qm_in (m1.1 60 6) 256) (
        let m4 : qm_M := qm_sI m3 62 (Int32.toNatClampNeg (m1.1 60 6)) x3
        let m5 : qm_M := qm_sI m4 60 6 ((m4.1 60 6) + (1 : Int32))
        l14 v1 v2 v4 (v5 + (1 : Int32)) m5)
    else
      l14 v1 v2 v4 (v5 + (1 : Int32)) m
  else
    l3 v1 v2 (v4 + (1 : Int32)) m
set_option maxRecDepth 100000 in
theorem xg_Le_listMovesAt_14 {kp : pm_K} {d : Nat} {f_Pl_areSets : Int32 → Int32 → qm_M → Option qm_R} {f_Ps_bitsOf : Int32 → Int32 → qm_M → Option qm_R} {f_Le_packed : Int64 → qm_M → Option qm_R} {l3 : Int32 → Int32 → Int32 → qm_M → Option qm_R} {l14 : Int32 → Int32 → Int32 → Int32 → qm_M → Option qm_R} (hT : qe_G kp d (T_Le_listMovesAt f_Pl_areSets f_Ps_bitsOf f_Le_packed)) (h3 : ∀ (v1 : Int32) (v2 : Int32) (v4 : Int32) (m : qm_M), qe_J kp md_Le_listMovesAt d (l3 v1 v2 v4 m) 3 [(0, .ref 60), (1, .int v1), (2, .int v2), (3, .ref 48), (4, .int v4)] [] m) (h14 : ∀ (v1 : Int32) (v2 : Int32) (v4 : Int32) (v5 : Int32) (m : qm_M), qe_J kp md_Le_listMovesAt d (l14 v1 v2 v4 v5 m) 14 [(0, .ref 60), (1, .int v1), (2, .int v2), (3, .ref 48), (4, .int v4), (5, .int v5)] [] m) (v1 : Int32) (v2 : Int32) (v4 : Int32) (v5 : Int32) (m : qm_M) : qe_J kp md_Le_listMovesAt d (X_Le_listMovesAt_14 f_Pl_areSets f_Ps_bitsOf f_Le_packed l3 l14 v1 v2 v4 v5 m) 14 [(0, .ref 60), (1, .int v1), (2, .int v2), (3, .ref 48), (4, .int v4), (5, .int v5)] [] m := qe_run (B := [(3, [0, 1, 2, 3, 4], qp_ciici_ 60 48 l3), (14, [0, 1, 2, 3, 4, 5], qp_ciicii_ 60 48 l14)]) (n := 1000) hT (qe_B1 (qp_ciici__ok h3) (qe_B1 (qp_ciicii__ok h14) qe_B0)) rfl
def L_Le_listMovesAt_14 (K3 : Int32 → Int32 → Int32 → qm_M → Option qm_R) : Nat → Int32 → Int32 → Int32 → Int32 → qm_M → Option qm_R
  | 0, _, _, _, _, _ => none
  | n + 1, v1, v2, v4, v5, m => X_Le_listMovesAt_14 F_Pl_areSets F_Ps_bitsOf F_Le_packed K3 (L_Le_listMovesAt_14 K3 n) v1 v2 v4 v5 m
theorem lg_Le_listMovesAt_14 {kp : pm_K} {d : Nat} (hT : qe_G kp d (T_Le_listMovesAt F_Pl_areSets F_Ps_bitsOf F_Le_packed)) {K3 : Int32 → Int32 → Int32 → qm_M → Option qm_R} (hK3 : ∀ (v1 : Int32) (v2 : Int32) (v4 : Int32) (m : qm_M), qe_J kp md_Le_listMovesAt d (K3 v1 v2 v4 m) 3 [(0, .ref 60), (1, .int v1), (2, .int v2), (3, .ref 48), (4, .int v4)] [] m) : ∀ (n : Nat) (v1 : Int32) (v2 : Int32) (v4 : Int32) (v5 : Int32) (m : qm_M), qe_J kp md_Le_listMovesAt d (L_Le_listMovesAt_14 K3 n v1 v2 v4 v5 m) 14 [(0, .ref 60), (1, .int v1), (2, .int v2), (3, .ref 48), (4, .int v4), (5, .int v5)] [] m
  | 0, v1, v2, v4, v5, m => qe_none rfl
  | n + 1, v1, v2, v4, v5, m => xg_Le_listMovesAt_14 hT hK3 (lg_Le_listMovesAt_14 hT hK3 n) v1 v2 v4 v5 m
def X_Le_listMovesAt_3 (f_Pl_areSets : Int32 → Int32 → qm_M → Option qm_R) (f_Ps_bitsOf : Int32 → Int32 → qm_M → Option qm_R) (f_Le_packed : Int64 → qm_M → Option qm_R) (l14 : Int32 → Int32 → Int32 → Int32 → qm_M → Option qm_R) (v1 : Int32) (v2 : Int32) (v4 : Int32) (m : qm_M) : Option qm_R :=
  if v4 < (qo_ishl v1 (1 : Int32)) then
    l14 v1 v2 v4 v2 m
  else
    some (none, m)
set_option maxRecDepth 100000 in
theorem xg_Le_listMovesAt_3 {kp : pm_K} {d : Nat} {f_Pl_areSets : Int32 → Int32 → qm_M → Option qm_R} {f_Ps_bitsOf : Int32 → Int32 → qm_M → Option qm_R} {f_Le_packed : Int64 → qm_M → Option qm_R} {l14 : Int32 → Int32 → Int32 → Int32 → qm_M → Option qm_R} (hT : qe_G kp d (T_Le_listMovesAt f_Pl_areSets f_Ps_bitsOf f_Le_packed)) (h14 : ∀ (v1 : Int32) (v2 : Int32) (v4 : Int32) (v5 : Int32) (m : qm_M), qe_J kp md_Le_listMovesAt d (l14 v1 v2 v4 v5 m) 14 [(0, .ref 60), (1, .int v1), (2, .int v2), (3, .ref 48), (4, .int v4), (5, .int v5)] [] m) (v1 : Int32) (v2 : Int32) (v4 : Int32) (m : qm_M) : qe_J kp md_Le_listMovesAt d (X_Le_listMovesAt_3 f_Pl_areSets f_Ps_bitsOf f_Le_packed l14 v1 v2 v4 m) 3 [(0, .ref 60), (1, .int v1), (2, .int v2), (3, .ref 48), (4, .int v4)] [] m := qe_run (B := [(14, [0, 1, 2, 3, 4, 5], qp_ciicii_ 60 48 l14)]) (n := 1000) hT (qe_B1 (qp_ciicii__ok h14) qe_B0) rfl
def L_Le_listMovesAt_3 : Nat → Int32 → Int32 → Int32 → qm_M → Option qm_R
  | 0, _, _, _, _ => none
  | n + 1, v1, v2, v4, m => X_Le_listMovesAt_3 F_Pl_areSets F_Ps_bitsOf F_Le_packed (L_Le_listMovesAt_14 (L_Le_listMovesAt_3 n) 1000000) v1 v2 v4 m
theorem lg_Le_listMovesAt_3 {kp : pm_K} {d : Nat} (hT : qe_G kp d (T_Le_listMovesAt F_Pl_areSets F_Ps_bitsOf F_Le_packed)) : ∀ (n : Nat) (v1 : Int32) (v2 : Int32) (v4 : Int32) (m : qm_M), qe_J kp md_Le_listMovesAt d (L_Le_listMovesAt_3 n v1 v2 v4 m) 3 [(0, .ref 60), (1, .int v1), (2, .int v2), (3, .ref 48), (4, .int v4)] [] m
  | 0, v1, v2, v4, m => qe_none rfl
  | n + 1, v1, v2, v4, m => xg_Le_listMovesAt_3 hT (lg_Le_listMovesAt_14 hT (lg_Le_listMovesAt_3 hT n) 1000000) v1 v2 v4 m
def X_Le_listMovesAt_e (f_Pl_areSets : Int32 → Int32 → qm_M → Option qm_R) (f_Ps_bitsOf : Int32 → Int32 → qm_M → Option qm_R) (f_Le_packed : Int64 → qm_M → Option qm_R) (l3 : Int32 → Int32 → Int32 → qm_M → Option qm_R) (v1 : Int32) (v2 : Int32) (m : qm_M) : Option qm_R :=
  l3 v1 v2 v1 m
set_option maxRecDepth 100000 in
theorem xg_Le_listMovesAt_e {kp : pm_K} {d : Nat} {f_Pl_areSets : Int32 → Int32 → qm_M → Option qm_R} {f_Ps_bitsOf : Int32 → Int32 → qm_M → Option qm_R} {f_Le_packed : Int64 → qm_M → Option qm_R} {l3 : Int32 → Int32 → Int32 → qm_M → Option qm_R} (hT : qe_G kp d (T_Le_listMovesAt f_Pl_areSets f_Ps_bitsOf f_Le_packed)) (h3 : ∀ (v1 : Int32) (v2 : Int32) (v4 : Int32) (m : qm_M), qe_J kp md_Le_listMovesAt d (l3 v1 v2 v4 m) 3 [(0, .ref 60), (1, .int v1), (2, .int v2), (3, .ref 48), (4, .int v4)] [] m) (v1 : Int32) (v2 : Int32) (m : qm_M) : qe_J kp md_Le_listMovesAt d (X_Le_listMovesAt_e f_Pl_areSets f_Ps_bitsOf f_Le_packed l3 v1 v2 m) 0 [(0, .ref 60), (1, .int v1), (2, .int v2), (3, .ref 48)] [] m := qe_run (B := [(3, [0, 1, 2, 3, 4], qp_ciici_ 60 48 l3)]) (n := 1000) hT (qe_B1 (qp_ciici__ok h3) qe_B0) rfl
def F_Le_listMovesAt (v1 : Int32) (v2 : Int32) (m : qm_M) : Option qm_R := X_Le_listMovesAt_e F_Pl_areSets F_Ps_bitsOf F_Le_packed (L_Le_listMovesAt_3 1000000) v1 v2 m
theorem fj_Le_listMovesAt {kp : pm_K} {d : Nat} (hT : qe_G kp d (T_Le_listMovesAt F_Pl_areSets F_Ps_bitsOf F_Le_packed)) (v1 : Int32) (v2 : Int32) (m : qm_M) : qe_J kp md_Le_listMovesAt d (F_Le_listMovesAt v1 v2 m) 0 [(0, .ref 60), (1, .int v1), (2, .int v2), (3, .ref 48)] [] m := xg_Le_listMovesAt_e hT (lg_Le_listMovesAt_3 hT 1000000) v1 v2 m
theorem fg_Le_listMovesAt {kp : pm_K} (d : Nat) : qe_GE kp (d + 4) (5, 0, 1, 0, qw_ciic 60 48 F_Le_listMovesAt) := qe_entry (by decide +kernel) (qw_ciic_ok (d := d + 3) rfl rfl (fj_Le_listMovesAt (qe_G1 (fg_Pl_areSets (d + 0)) (qe_G1 (fg_Ps_bitsOf (d + 2)) (qe_G1 (fg_Le_packed (d + 2)) qe_G0)))))
/-! TurnField$Lengths.listMoves(LTurnField$Play;)V -/
noncomputable def T_Le_listMoves (f_Le_listMovesAt : Int32 → Int32 → qm_M → Option qm_R) : qe_T := [(5, 0, 1, 0, qw_ciic 60 48 f_Le_listMovesAt)]
def X_Le_listMoves_20 (f_Le_listMovesAt : Int32 → Int32 → qm_M → Option qm_R) (l9 : Int32 → Int32 → qm_M → Option qm_R) (l20 : Int32 → Int32 → Int32 → qm_M → Option qm_R) (v2 : Int32) (v3 : Int32) (v4 : Int32) (m : qm_M) : Option qm_R :=
  if v4 < (m.1 60 5) then
    qe_b (qm_in v2 13) (
    let m1 : qm_M := qm_sI m 63 (Int32.toNatClampNeg v2) (m.1 60 6)
    qe_rV (f_Le_listMovesAt (qo_ishl (1 : Int32) v3) (qo_ishl (1 : Int32) v4) m1) fun m2 =>
    l20 (v2 + (1 : Int32)) v3 (v4 + (1 : Int32)) m2)
  else
    l9 v2 (v3 + (1 : Int32)) m
set_option maxRecDepth 100000 in
theorem xg_Le_listMoves_20 {kp : pm_K} {d : Nat} {f_Le_listMovesAt : Int32 → Int32 → qm_M → Option qm_R} {l9 : Int32 → Int32 → qm_M → Option qm_R} {l20 : Int32 → Int32 → Int32 → qm_M → Option qm_R} (hT : qe_G kp d (T_Le_listMoves f_Le_listMovesAt)) (h9 : ∀ (v2 : Int32) (v3 : Int32) (m : qm_M), qe_J kp md_Le_listMoves d (l9 v2 v3 m) 9 [(0, .ref 60), (1, .ref 48), (2, .int v2), (3, .int v3)] [] m) (h20 : ∀ (v2 : Int32) (v3 : Int32) (v4 : Int32) (m : qm_M), qe_J kp md_Le_listMoves d (l20 v2 v3 v4 m) 20 [(0, .ref 60), (1, .ref 48), (2, .int v2), (3, .int v3), (4, .int v4)] [] m) (v2 : Int32) (v3 : Int32) (v4 : Int32) (m : qm_M) : qe_J kp md_Le_listMoves d (X_Le_listMoves_20 f_Le_listMovesAt l9 l20 v2 v3 v4 m) 20 [(0, .ref 60), (1, .ref 48), (2, .int v2), (3, .int v3), (4, .int v4)] [] m := qe_run (B := [(9, [0, 1, 2, 3], qp_ccii_ 60 48 l9), (20, [0, 1, 2, 3, 4], qp_cciii_ 60 48 l20)]) (n := 1000) hT (qe_B1 (qp_ccii__ok h9) (qe_B1 (qp_cciii__ok h20) qe_B0)) rfl
def L_Le_listMoves_20 (K9 : Int32 → Int32 → qm_M → Option qm_R) : Nat → Int32 → Int32 → Int32 → qm_M → Option qm_R
  | 0, _, _, _, _ => none
  | n + 1, v2, v3, v4, m => X_Le_listMoves_20 F_Le_listMovesAt K9 (L_Le_listMoves_20 K9 n) v2 v3 v4 m
theorem lg_Le_listMoves_20 {kp : pm_K} {d : Nat} (hT : qe_G kp d (T_Le_listMoves F_Le_listMovesAt)) {K9 : Int32 → Int32 → qm_M → Option qm_R} (hK9 : ∀ (v2 : Int32) (v3 : Int32) (m : qm_M), qe_J kp md_Le_listMoves d (K9 v2 v3 m) 9 [(0, .ref 60), (1, .ref 48), (2, .int v2), (3, .int v3)] [] m) : ∀ (n : Nat) (v2 : Int32) (v3 : Int32) (v4 : Int32) (m : qm_M), qe_J kp md_Le_listMoves d (L_Le_listMoves_20 K9 n v2 v3 v4 m) 20 [(0, .ref 60), (1, .ref 48), (2, .int v2), (3, .int v3), (4, .int v4)] [] m
  | 0, v2, v3, v4, m => qe_none rfl
  | n + 1, v2, v3, v4, m => xg_Le_listMoves_20 hT hK9 (lg_Le_listMoves_20 hT hK9 n) v2 v3 v4 m
def X_Le_listMoves_9 (f_Le_listMovesAt : Int32 → Int32 → qm_M → Option qm_R) (l20 : Int32 → Int32 → Int32 → qm_M → Option qm_R) (v2 : Int32) (v3 : Int32) (m : qm_M) : Option qm_R :=
  if v3 < (m.1 60 4) then
    l20 v2 v3 (0 : Int32) m
  else
    qe_b (qm_in v2 13) (
    let m1 : qm_M := qm_sI m 63 (Int32.toNatClampNeg v2) (m.1 60 6)
    some (none, m1))
set_option maxRecDepth 100000 in
theorem xg_Le_listMoves_9 {kp : pm_K} {d : Nat} {f_Le_listMovesAt : Int32 → Int32 → qm_M → Option qm_R} {l20 : Int32 → Int32 → Int32 → qm_M → Option qm_R} (hT : qe_G kp d (T_Le_listMoves f_Le_listMovesAt)) (h20 : ∀ (v2 : Int32) (v3 : Int32) (v4 : Int32) (m : qm_M), qe_J kp md_Le_listMoves d (l20 v2 v3 v4 m) 20 [(0, .ref 60), (1, .ref 48), (2, .int v2), (3, .int v3), (4, .int v4)] [] m) (v2 : Int32) (v3 : Int32) (m : qm_M) : qe_J kp md_Le_listMoves d (X_Le_listMoves_9 f_Le_listMovesAt l20 v2 v3 m) 9 [(0, .ref 60), (1, .ref 48), (2, .int v2), (3, .int v3)] [] m := qe_run (B := [(20, [0, 1, 2, 3, 4], qp_cciii_ 60 48 l20)]) (n := 1000) hT (qe_B1 (qp_cciii__ok h20) qe_B0) rfl
def L_Le_listMoves_9 : Nat → Int32 → Int32 → qm_M → Option qm_R
  | 0, _, _, _ => none
  | n + 1, v2, v3, m => X_Le_listMoves_9 F_Le_listMovesAt (L_Le_listMoves_20 (L_Le_listMoves_9 n) 1000000) v2 v3 m
theorem lg_Le_listMoves_9 {kp : pm_K} {d : Nat} (hT : qe_G kp d (T_Le_listMoves F_Le_listMovesAt)) : ∀ (n : Nat) (v2 : Int32) (v3 : Int32) (m : qm_M), qe_J kp md_Le_listMoves d (L_Le_listMoves_9 n v2 v3 m) 9 [(0, .ref 60), (1, .ref 48), (2, .int v2), (3, .int v3)] [] m
  | 0, v2, v3, m => qe_none rfl
  | n + 1, v2, v3, m => xg_Le_listMoves_9 hT (lg_Le_listMoves_20 hT (lg_Le_listMoves_9 hT n) 1000000) v2 v3 m
def X_Le_listMoves_e (f_Le_listMovesAt : Int32 → Int32 → qm_M → Option qm_R) (l9 : Int32 → Int32 → qm_M → Option qm_R)  (m : qm_M) : Option qm_R :=
  let m1 : qm_M := qm_sI m 60 6 (0 : Int32)
  l9 (0 : Int32) (0 : Int32) m1
set_option maxRecDepth 100000 in
theorem xg_Le_listMoves_e {kp : pm_K} {d : Nat} {f_Le_listMovesAt : Int32 → Int32 → qm_M → Option qm_R} {l9 : Int32 → Int32 → qm_M → Option qm_R} (hT : qe_G kp d (T_Le_listMoves f_Le_listMovesAt)) (h9 : ∀ (v2 : Int32) (v3 : Int32) (m : qm_M), qe_J kp md_Le_listMoves d (l9 v2 v3 m) 9 [(0, .ref 60), (1, .ref 48), (2, .int v2), (3, .int v3)] [] m) (m : qm_M) : qe_J kp md_Le_listMoves d (X_Le_listMoves_e f_Le_listMovesAt l9 m) 0 [(0, .ref 60), (1, .ref 48)] [] m := qe_run (B := [(9, [0, 1, 2, 3], qp_ccii_ 60 48 l9)]) (n := 1000) hT (qe_B1 (qp_ccii__ok h9) qe_B0) rfl
def F_Le_listMoves (m : qm_M) : Option qm_R := X_Le_listMoves_e F_Le_listMovesAt (L_Le_listMoves_9 1000000) m
theorem fj_Le_listMoves {kp : pm_K} {d : Nat} (hT : qe_G kp d (T_Le_listMoves F_Le_listMovesAt)) (m : qm_M) : qe_J kp md_Le_listMoves d (F_Le_listMoves m) 0 [(0, .ref 60), (1, .ref 48)] [] m := xg_Le_listMoves_e hT (lg_Le_listMoves_9 hT 1000000) m
theorem fg_Le_listMoves {kp : pm_K} (d : Nat) : qe_GE kp (d + 5) (4, 0, 1, 0, qw_cc 60 48 F_Le_listMoves) := qe_entry (by decide +kernel) (qw_cc_ok (d := d + 4) rfl rfl (fj_Le_listMoves (qe_G1 (fg_Le_listMovesAt (d + 0)) qe_G0)))
/-! TurnField$Lengths.measured(I)I -/
noncomputable def T_Le_measured : qe_T := []
def X_Le_measured_30 (l7 : Int32 → Int32 → Int32 → Int32 → qm_M → Option qm_R) (l30 : Int32 → Int32 → Int32 → Int32 → Int32 → qm_M → Option qm_R) (v1 : Int32) (v2 : Int32) (v3 : Int32) (v4 : Int32) (v5 : Int32) (m : qm_M) : Option qm_R :=
  if ((qo_ishr v1 v4) &&& (1 : Int32)) = 0 then
    l7 v1 v2 v3 (v4 + (1 : Int32)) m
  else
    qe_b (qm_in (v4 + (1 : Int32)) 13) (
    if v5 < (m.1 63 (Int32.toNatClampNeg (v4 + (1 : Int32)))) then
      qe_b (qm_in v5 256) (
      qe_b (qm_in (v1 ^^^ (m.1 62 (Int32.toNatClampNeg v5))) 4096) (
      let x1 : Int32 := ((1 : Int32) + (m.1 61 (Int32.toNatClampNeg (v1 ^^^ (m.1 62 (Int32.toNatClampNeg v5))))))
      if (x1 &&& (1 : Int32)) = 0 then
        l30 v1 v2 (qo_max v3 x1) v4 (v5 + (1 : Int32)) m
      else
        if v2 = 0 then
          l30 v1 x1 v3 v4 (v5 + (1 : Int32)) m
        else
          l30 v1 (qo_min v2 x1) v3 v4 (v5 + (1 : Int32)) m))
    else
      l7 v1 v2 v3 (v4 + (1 : Int32)) m)
set_option maxRecDepth 100000 in
theorem xg_Le_measured_30 {kp : pm_K} {d : Nat} {l7 : Int32 → Int32 → Int32 → Int32 → qm_M → Option qm_R} {l30 : Int32 → Int32 → Int32 → Int32 → Int32 → qm_M → Option qm_R} (hT : qe_G kp d (T_Le_measured)) (h7 : ∀ (v1 : Int32) (v2 : Int32) (v3 : Int32) (v4 : Int32) (m : qm_M), qe_J kp md_Le_measured d (l7 v1 v2 v3 v4 m) 7 [(0, .ref 60), (1, .int v1), (2, .int v2), (3, .int v3), (4, .int v4)] [] m) (h30 : ∀ (v1 : Int32) (v2 : Int32) (v3 : Int32) (v4 : Int32) (v5 : Int32) (m : qm_M), qe_J kp md_Le_measured d (l30 v1 v2 v3 v4 v5 m) 30 [(0, .ref 60), (1, .int v1), (2, .int v2), (3, .int v3), (4, .int v4), (5, .int v5)] [] m) (v1 : Int32) (v2 : Int32) (v3 : Int32) (v4 : Int32) (v5 : Int32) (m : qm_M) : qe_J kp md_Le_measured d (X_Le_measured_30 l7 l30 v1 v2 v3 v4 v5 m) 30 [(0, .ref 60), (1, .int v1), (2, .int v2), (3, .int v3), (4, .int v4), (5, .int v5)] [] m := qe_run (B := [(7, [0, 1, 2, 3, 4], qp_ciiii_ 60 l7), (30, [0, 1, 2, 3, 4, 5], qp_ciiiii_ 60 l30)]) (n := 1000) hT (qe_B1 (qp_ciiii__ok h7) (qe_B1 (qp_ciiiii__ok h30) qe_B0)) rfl
def L_Le_measured_30 (K7 : Int32 → Int32 → Int32 → Int32 → qm_M → Option qm_R) : Nat → Int32 → Int32 → Int32 → Int32 → Int32 → qm_M → Option qm_R
  | 0, _, _, _, _, _, _ => none
  | n + 1, v1, v2, v3, v4, v5, m => X_Le_measured_30 K7 (L_Le_measured_30 K7 n) v1 v2 v3 v4 v5 m
theorem lg_Le_measured_30 {kp : pm_K} {d : Nat} (hT : qe_G kp d (T_Le_measured)) {K7 : Int32 → Int32 → Int32 → Int32 → qm_M → Option qm_R} (hK7 : ∀ (v1 : Int32) (v2 : Int32) (v3 : Int32) (v4 : Int32) (m : qm_M), qe_J kp md_Le_measured d (K7 v1 v2 v3 v4 m) 7 [(0, .ref 60), (1, .int v1), (2, .int v2), (3, .int v3), (4, .int v4)] [] m) : ∀ (n : Nat) (v1 : Int32) (v2 : Int32) (v3 : Int32) (v4 : Int32) (v5 : Int32) (m : qm_M), qe_J kp md_Le_measured d (L_Le_measured_30 K7 n v1 v2 v3 v4 v5 m) 30 [(0, .ref 60), (1, .int v1), (2, .int v2), (3, .int v3), (4, .int v4), (5, .int v5)] [] m
  | 0, v1, v2, v3, v4, v5, m => qe_none rfl
  | n + 1, v1, v2, v3, v4, v5, m => xg_Le_measured_30 hT hK7 (lg_Le_measured_30 hT hK7 n) v1 v2 v3 v4 v5 m
def X_Le_measured_7 (l30 : Int32 → Int32 → Int32 → Int32 → Int32 → qm_M → Option qm_R) (v1 : Int32) (v2 : Int32) (v3 : Int32) (v4 : Int32) (m : qm_M) : Option qm_R :=
  if v4 < ((m.1 60 4) * (m.1 60 5)) then
    qe_b (qm_in v4 13) (
    l30 v1 v2 v3 v4 (m.1 63 (Int32.toNatClampNeg v4)) m)
  else
    if 0 < v2 then
      some (some (.int v2), m)
    else
      some (some (.int v3), m)
set_option maxRecDepth 100000 in
theorem xg_Le_measured_7 {kp : pm_K} {d : Nat} {l30 : Int32 → Int32 → Int32 → Int32 → Int32 → qm_M → Option qm_R} (hT : qe_G kp d (T_Le_measured)) (h30 : ∀ (v1 : Int32) (v2 : Int32) (v3 : Int32) (v4 : Int32) (v5 : Int32) (m : qm_M), qe_J kp md_Le_measured d (l30 v1 v2 v3 v4 v5 m) 30 [(0, .ref 60), (1, .int v1), (2, .int v2), (3, .int v3), (4, .int v4), (5, .int v5)] [] m) (v1 : Int32) (v2 : Int32) (v3 : Int32) (v4 : Int32) (m : qm_M) : qe_J kp md_Le_measured d (X_Le_measured_7 l30 v1 v2 v3 v4 m) 7 [(0, .ref 60), (1, .int v1), (2, .int v2), (3, .int v3), (4, .int v4)] [] m := qe_run (B := [(30, [0, 1, 2, 3, 4, 5], qp_ciiiii_ 60 l30)]) (n := 1000) hT (qe_B1 (qp_ciiiii__ok h30) qe_B0) rfl
def L_Le_measured_7 : Nat → Int32 → Int32 → Int32 → Int32 → qm_M → Option qm_R
  | 0, _, _, _, _, _ => none
  | n + 1, v1, v2, v3, v4, m => X_Le_measured_7 (L_Le_measured_30 (L_Le_measured_7 n) 1000000) v1 v2 v3 v4 m
theorem lg_Le_measured_7 {kp : pm_K} {d : Nat} (hT : qe_G kp d (T_Le_measured)) : ∀ (n : Nat) (v1 : Int32) (v2 : Int32) (v3 : Int32) (v4 : Int32) (m : qm_M), qe_J kp md_Le_measured d (L_Le_measured_7 n v1 v2 v3 v4 m) 7 [(0, .ref 60), (1, .int v1), (2, .int v2), (3, .int v3), (4, .int v4)] [] m
  | 0, v1, v2, v3, v4, m => qe_none rfl
  | n + 1, v1, v2, v3, v4, m => xg_Le_measured_7 hT (lg_Le_measured_30 hT (lg_Le_measured_7 hT n) 1000000) v1 v2 v3 v4 m
def X_Le_measured_e (l7 : Int32 → Int32 → Int32 → Int32 → qm_M → Option qm_R) (v1 : Int32) (m : qm_M) : Option qm_R :=
  l7 v1 (0 : Int32) (0 : Int32) (0 : Int32) m
set_option maxRecDepth 100000 in
theorem xg_Le_measured_e {kp : pm_K} {d : Nat} {l7 : Int32 → Int32 → Int32 → Int32 → qm_M → Option qm_R} (hT : qe_G kp d (T_Le_measured)) (h7 : ∀ (v1 : Int32) (v2 : Int32) (v3 : Int32) (v4 : Int32) (m : qm_M), qe_J kp md_Le_measured d (l7 v1 v2 v3 v4 m) 7 [(0, .ref 60), (1, .int v1), (2, .int v2), (3, .int v3), (4, .int v4)] [] m) (v1 : Int32) (m : qm_M) : qe_J kp md_Le_measured d (X_Le_measured_e l7 v1 m) 0 [(0, .ref 60), (1, .int v1)] [] m := qe_run (B := [(7, [0, 1, 2, 3, 4], qp_ciiii_ 60 l7)]) (n := 1000) hT (qe_B1 (qp_ciiii__ok h7) qe_B0) rfl
def F_Le_measured (v1 : Int32) (m : qm_M) : Option qm_R := X_Le_measured_e (L_Le_measured_7 1000000) v1 m
theorem fj_Le_measured {kp : pm_K} {d : Nat} (hT : qe_G kp d (T_Le_measured)) (v1 : Int32) (m : qm_M) : qe_J kp md_Le_measured d (F_Le_measured v1 m) 0 [(0, .ref 60), (1, .int v1)] [] m := xg_Le_measured_e hT (lg_Le_measured_7 hT 1000000) v1 m
theorem fg_Le_measured {kp : pm_K} (d : Nat) : qe_GE kp (d + 1) (7, 0, 1, 1, qw_ci 60 F_Le_measured) := qe_entry (by decide +kernel) (qw_ci_ok (d := d + 0) rfl rfl (fj_Le_measured qe_G0))
/-! TurnField$Lengths.measure()V -/
noncomputable def T_Le_measure (f_Le_measured : Int32 → qm_M → Option qm_R) : qe_T := [(7, 0, 1, 1, qw_ci 60 f_Le_measured)]
def X_Le_measure_17 (f_Le_measured : Int32 → qm_M → Option qm_R) (l17 : Int32 → qm_M → Option qm_R) (v1 : Int32) (m : qm_M) : Option qm_R :=
  if v1 < (qo_ishl (1 : Int32) ((m.1 60 4) * (m.1 60 5))) then
    qe_rI (f_Le_measured v1 m) fun x1 m1 =>
    qe_b (qm_in v1 4096) (
    let m2 : qm_M := qm_sI m1 61 (Int32.toNatClampNeg v1) x1
    let m3 : qm_M := qm_sI m2 60 7 ((m2.1 60 7) + ((1 : Int32) - (x1 &&& (1 : Int32))))
    if (m3.1 60 8) < x1 then
      let m4 : qm_M := qm_sI m3 60 8 x1
      let m5 : qm_M := qm_sI m4 60 9 v1
      l17 (v1 + (1 : Int32)) m5
    else
      l17 (v1 + (1 : Int32)) m3)
  else
    some (none, m)
set_option maxRecDepth 100000 in
theorem xg_Le_measure_17 {kp : pm_K} {d : Nat} {f_Le_measured : Int32 → qm_M → Option qm_R} {l17 : Int32 → qm_M → Option qm_R} (hT : qe_G kp d (T_Le_measure f_Le_measured)) (h17 : ∀ (v1 : Int32) (m : qm_M), qe_J kp md_Le_measure d (l17 v1 m) 17 [(0, .ref 60), (1, .int v1)] [] m) (v1 : Int32) (m : qm_M) : qe_J kp md_Le_measure d (X_Le_measure_17 f_Le_measured l17 v1 m) 17 [(0, .ref 60), (1, .int v1)] [] m := qe_run (B := [(17, [0, 1], qp_ci_ 60 l17)]) (n := 1000) hT (qe_B1 (qp_ci__ok h17) qe_B0) rfl
def L_Le_measure_17 : Nat → Int32 → qm_M → Option qm_R
  | 0, _, _ => none
  | n + 1, v1, m => X_Le_measure_17 F_Le_measured (L_Le_measure_17 n) v1 m
theorem lg_Le_measure_17 {kp : pm_K} {d : Nat} (hT : qe_G kp d (T_Le_measure F_Le_measured)) : ∀ (n : Nat) (v1 : Int32) (m : qm_M), qe_J kp md_Le_measure d (L_Le_measure_17 n v1 m) 17 [(0, .ref 60), (1, .int v1)] [] m
  | 0, v1, m => qe_none rfl
  | n + 1, v1, m => xg_Le_measure_17 hT (lg_Le_measure_17 hT n) v1 m
def X_Le_measure_e (f_Le_measured : Int32 → qm_M → Option qm_R) (l17 : Int32 → qm_M → Option qm_R)  (m : qm_M) : Option qm_R :=
  let m1 : qm_M := qm_sI m 60 7 (0 : Int32)
  let m2 : qm_M := qm_sI m1 60 8 (0 : Int32)
  let m3 : qm_M := qm_sI m2 60 9 (0 : Int32)
  l17 (0 : Int32) m3
set_option maxRecDepth 100000 in
theorem xg_Le_measure_e {kp : pm_K} {d : Nat} {f_Le_measured : Int32 → qm_M → Option qm_R} {l17 : Int32 → qm_M → Option qm_R} (hT : qe_G kp d (T_Le_measure f_Le_measured)) (h17 : ∀ (v1 : Int32) (m : qm_M), qe_J kp md_Le_measure d (l17 v1 m) 17 [(0, .ref 60), (1, .int v1)] [] m) (m : qm_M) : qe_J kp md_Le_measure d (X_Le_measure_e f_Le_measured l17 m) 0 [(0, .ref 60)] [] m := qe_run (B := [(17, [0, 1], qp_ci_ 60 l17)]) (n := 1000) hT (qe_B1 (qp_ci__ok h17) qe_B0) rfl
def F_Le_measure (m : qm_M) : Option qm_R := X_Le_measure_e F_Le_measured (L_Le_measure_17 1000000) m
theorem fj_Le_measure {kp : pm_K} {d : Nat} (hT : qe_G kp d (T_Le_measure F_Le_measured)) (m : qm_M) : qe_J kp md_Le_measure d (F_Le_measure m) 0 [(0, .ref 60)] [] m := xg_Le_measure_e hT (lg_Le_measure_17 hT 1000000) m
theorem fg_Le_measure {kp : pm_K} (d : Nat) : qe_GE kp (d + 2) (6, 0, 1, 0, qw_c 60 F_Le_measure) := qe_entry (by decide +kernel) (qw_c_ok (d := d + 1) rfl rfl (fj_Le_measure (qe_G1 (fg_Le_measured (d + 0)) qe_G0)))
/-! TurnField$Lengths.tune(LTurnField$Position;LTurnField$Play;)V -/
noncomputable def T_Le_tune (f_Ps_rulesKey : Nat → qm_M → Option qm_R) (f_Le_canHold : qm_M → Option qm_R) (f_Pl_tune : qm_M → Option qm_R) (f_Le_listMoves : qm_M → Option qm_R) (f_Le_measure : qm_M → Option qm_R) : qe_T := [(43, 0, 5, 1, qw_r f_Ps_rulesKey), (2, 1, 0, 1, qw_c 1 f_Le_canHold), (20, 0, 3, 0, qw_cc 48 1 f_Pl_tune), (4, 0, 1, 0, qw_cc 60 48 f_Le_listMoves), (6, 0, 1, 0, qw_c 60 f_Le_measure)]
def X_Le_tune_e (f_Ps_rulesKey : Nat → qm_M → Option qm_R) (f_Le_canHold : qm_M → Option qm_R) (f_Pl_tune : qm_M → Option qm_R) (f_Le_listMoves : qm_M → Option qm_R) (f_Le_measure : qm_M → Option qm_R)  (m : qm_M) : Option qm_R :=
  qe_rI (f_Ps_rulesKey 1 m) fun x1 m1 =>
  if (m1.1 60 3) = x1 then
    some (none, m1)
  else
    qe_rI (f_Le_canHold m1) fun x2 m2 =>
    if x2 = 0 then
      some (none, m2)
    else
      let m3 : qm_M := qm_sI m2 60 3 x1
      let m4 : qm_M := qm_sI m3 60 4 (m3.1 1 0)
      let m5 : qm_M := qm_sI m4 60 5 (m4.1 1 1)
      qe_rV (f_Pl_tune m5) fun m6 =>
      qe_rV (f_Le_listMoves m6) fun m7 =>
      qe_rV (f_Le_measure m7) fun m8 =>
      some (none, m8)
set_option maxRecDepth 100000 in
theorem xg_Le_tune_e {kp : pm_K} {d : Nat} {f_Ps_rulesKey : Nat → qm_M → Option qm_R} {f_Le_canHold : qm_M → Option qm_R} {f_Pl_tune : qm_M → Option qm_R} {f_Le_listMoves : qm_M → Option qm_R} {f_Le_measure : qm_M → Option qm_R} (hT : qe_G kp d (T_Le_tune f_Ps_rulesKey f_Le_canHold f_Pl_tune f_Le_listMoves f_Le_measure)) (m : qm_M) : qe_J kp md_Le_tune d (X_Le_tune_e f_Ps_rulesKey f_Le_canHold f_Pl_tune f_Le_listMoves f_Le_measure m) 0 [(0, .ref 60), (1, .ref 1), (2, .ref 48)] [] m := qe_run (B := []) (n := 1000) hT qe_B0 rfl
def F_Le_tune (m : qm_M) : Option qm_R := X_Le_tune_e F_Ps_rulesKey F_Le_canHold F_Pl_tune F_Le_listMoves F_Le_measure m
theorem fj_Le_tune {kp : pm_K} {d : Nat} (hT : qe_G kp d (T_Le_tune F_Ps_rulesKey F_Le_canHold F_Pl_tune F_Le_listMoves F_Le_measure)) (m : qm_M) : qe_J kp md_Le_tune d (F_Le_tune m) 0 [(0, .ref 60), (1, .ref 1), (2, .ref 48)] [] m := xg_Le_tune_e hT m
theorem fg_Le_tune {kp : pm_K} (d : Nat) : qe_GE kp (d + 35) (3, 0, 1, 0, qw_ccc 60 1 48 F_Le_tune) := qe_entry (by decide +kernel) (qw_ccc_ok (d := d + 34) rfl rfl (fj_Le_tune (qe_G1 (fg_Ps_rulesKey (d + 33)) (qe_G1 (fg_Le_canHold (d + 33)) (qe_G1 (fg_Pl_tune (d + 0)) (qe_G1 (fg_Le_listMoves (d + 29)) (qe_G1 (fg_Le_measure (d + 32)) qe_G0)))))))
/-! TurnField$Lengths.lengthOf(LTurnField$Position;)I -/
noncomputable def T_Le_lengthOf (f_Le_packed : Int64 → qm_M → Option qm_R) : qe_T := [(8, 0, 1, 1, qw_cl 60 f_Le_packed)]
def X_Le_lengthOf_e (f_Le_packed : Int64 → qm_M → Option qm_R)  (m : qm_M) : Option qm_R :=
  qe_rI (f_Le_packed (m.2 1 6) m) fun x1 m1 =>
  qe_b (qm_in (x1 &&& ((4096 : Int32) - (1 : Int32))) 4096) (
  some (some (.int (m1.1 61 (Int32.toNatClampNeg (x1 &&& ((4096 : Int32) - (1 : Int32)))))), m1))
set_option maxRecDepth 100000 in
theorem xg_Le_lengthOf_e {kp : pm_K} {d : Nat} {f_Le_packed : Int64 → qm_M → Option qm_R} (hT : qe_G kp d (T_Le_lengthOf f_Le_packed)) (m : qm_M) : qe_J kp md_Le_lengthOf d (X_Le_lengthOf_e f_Le_packed m) 0 [(0, .ref 60), (1, .ref 1)] [] m := qe_run (B := []) (n := 1000) hT qe_B0 rfl
def F_Le_lengthOf (m : qm_M) : Option qm_R := X_Le_lengthOf_e F_Le_packed m
theorem fj_Le_lengthOf {kp : pm_K} {d : Nat} (hT : qe_G kp d (T_Le_lengthOf F_Le_packed)) (m : qm_M) : qe_J kp md_Le_lengthOf d (F_Le_lengthOf m) 0 [(0, .ref 60), (1, .ref 1)] [] m := xg_Le_lengthOf_e hT m
theorem fg_Le_lengthOf {kp : pm_K} (d : Nat) : qe_GE kp (d + 2) (9, 0, 1, 1, qw_cc 60 1 F_Le_lengthOf) := qe_entry (by decide +kernel) (qw_cc_ok (d := d + 1) rfl rfl (fj_Le_lengthOf (qe_G1 (fg_Le_packed (d + 0)) qe_G0)))
/-! TurnField$Play.ruleOf(I)LTurnField$Rule; -/
noncomputable def T_Pl_ruleOf : qe_T := []
def X_Pl_ruleOf_e (v1 : Int32) (m : qm_M) : Option qm_R :=
  if v1 = 0 then
    some (some (.ref 49), m)
  else
    some (some (.ref 54), m)
set_option maxRecDepth 100000 in
theorem xg_Pl_ruleOf_e {kp : pm_K} {d : Nat} (hT : qe_G kp d (T_Pl_ruleOf)) (v1 : Int32) (m : qm_M) : qe_J kp md_Pl_ruleOf d (X_Pl_ruleOf_e v1 m) 0 [(0, .ref 48), (1, .int v1)] [] m := qe_run (B := []) (n := 1000) hT qe_B0 rfl
def F_Pl_ruleOf (v1 : Int32) (m : qm_M) : Option qm_R := X_Pl_ruleOf_e v1 m
theorem fj_Pl_ruleOf {kp : pm_K} {d : Nat} (hT : qe_G kp d (T_Pl_ruleOf)) (v1 : Int32) (m : qm_M) : qe_J kp md_Pl_ruleOf d (F_Pl_ruleOf v1 m) 0 [(0, .ref 48), (1, .int v1)] [] m := xg_Pl_ruleOf_e hT v1 m
theorem fg_Pl_ruleOf {kp : pm_K} (d : Nat) : qe_GE kp (d + 1) (24, 0, 3, 3, qw_ci 48 F_Pl_ruleOf) := qe_entry (by decide +kernel) (qw_ci_ok (d := d + 0) rfl rfl (fj_Pl_ruleOf qe_G0))
/-! TurnField$Play.boardWorth(LTurnField$Position;)I -/
noncomputable def T_Pl_boardWorth (f_Ps_headsOfRow : Nat → Int32 → qm_M → Option qm_R) (f_Pl_effectOf : Int32 → Int32 → qm_M → Option qm_R) : qe_T := [(40, 0, 5, 1, qw_ri f_Ps_headsOfRow), (23, 0, 3, 1, qw_cii 48 f_Pl_effectOf)]
def X_Pl_boardWorth_4 (f_Ps_headsOfRow : Nat → Int32 → qm_M → Option qm_R) (f_Pl_effectOf : Int32 → Int32 → qm_M → Option qm_R) (l4 : Int32 → Int32 → qm_M → Option qm_R) (v2 : Int32) (v3 : Int32) (m : qm_M) : Option qm_R :=
  if v3 < (m.1 1 0) then
    qe_rI (f_Ps_headsOfRow 1 v3 m) fun x1 m1 =>
    qe_rI (f_Pl_effectOf (qo_ishl (1 : Int32) v3) x1 m1) fun x2 m2 =>
    l4 (v2 ^^^ x2) (v3 + (1 : Int32)) m2
  else
    some (some (.int v2), m)
set_option maxRecDepth 100000 in
theorem xg_Pl_boardWorth_4 {kp : pm_K} {d : Nat} {f_Ps_headsOfRow : Nat → Int32 → qm_M → Option qm_R} {f_Pl_effectOf : Int32 → Int32 → qm_M → Option qm_R} {l4 : Int32 → Int32 → qm_M → Option qm_R} (hT : qe_G kp d (T_Pl_boardWorth f_Ps_headsOfRow f_Pl_effectOf)) (h4 : ∀ (v2 : Int32) (v3 : Int32) (m : qm_M), qe_J kp md_Pl_boardWorth d (l4 v2 v3 m) 4 [(0, .ref 48), (1, .ref 1), (2, .int v2), (3, .int v3)] [] m) (v2 : Int32) (v3 : Int32) (m : qm_M) : qe_J kp md_Pl_boardWorth d (X_Pl_boardWorth_4 f_Ps_headsOfRow f_Pl_effectOf l4 v2 v3 m) 4 [(0, .ref 48), (1, .ref 1), (2, .int v2), (3, .int v3)] [] m := qe_run (B := [(4, [0, 1, 2, 3], qp_ccii_ 48 1 l4)]) (n := 1000) hT (qe_B1 (qp_ccii__ok h4) qe_B0) rfl
def L_Pl_boardWorth_4 : Nat → Int32 → Int32 → qm_M → Option qm_R
  | 0, _, _, _ => none
  | n + 1, v2, v3, m => X_Pl_boardWorth_4 F_Ps_headsOfRow F_Pl_effectOf (L_Pl_boardWorth_4 n) v2 v3 m
theorem lg_Pl_boardWorth_4 {kp : pm_K} {d : Nat} (hT : qe_G kp d (T_Pl_boardWorth F_Ps_headsOfRow F_Pl_effectOf)) : ∀ (n : Nat) (v2 : Int32) (v3 : Int32) (m : qm_M), qe_J kp md_Pl_boardWorth d (L_Pl_boardWorth_4 n v2 v3 m) 4 [(0, .ref 48), (1, .ref 1), (2, .int v2), (3, .int v3)] [] m
  | 0, v2, v3, m => qe_none rfl
  | n + 1, v2, v3, m => xg_Pl_boardWorth_4 hT (lg_Pl_boardWorth_4 hT n) v2 v3 m
def X_Pl_boardWorth_e (f_Ps_headsOfRow : Nat → Int32 → qm_M → Option qm_R) (f_Pl_effectOf : Int32 → Int32 → qm_M → Option qm_R) (l4 : Int32 → Int32 → qm_M → Option qm_R)  (m : qm_M) : Option qm_R :=
  l4 (0 : Int32) (0 : Int32) m
set_option maxRecDepth 100000 in
theorem xg_Pl_boardWorth_e {kp : pm_K} {d : Nat} {f_Ps_headsOfRow : Nat → Int32 → qm_M → Option qm_R} {f_Pl_effectOf : Int32 → Int32 → qm_M → Option qm_R} {l4 : Int32 → Int32 → qm_M → Option qm_R} (hT : qe_G kp d (T_Pl_boardWorth f_Ps_headsOfRow f_Pl_effectOf)) (h4 : ∀ (v2 : Int32) (v3 : Int32) (m : qm_M), qe_J kp md_Pl_boardWorth d (l4 v2 v3 m) 4 [(0, .ref 48), (1, .ref 1), (2, .int v2), (3, .int v3)] [] m) (m : qm_M) : qe_J kp md_Pl_boardWorth d (X_Pl_boardWorth_e f_Ps_headsOfRow f_Pl_effectOf l4 m) 0 [(0, .ref 48), (1, .ref 1)] [] m := qe_run (B := [(4, [0, 1, 2, 3], qp_ccii_ 48 1 l4)]) (n := 1000) hT (qe_B1 (qp_ccii__ok h4) qe_B0) rfl
def F_Pl_boardWorth (m : qm_M) : Option qm_R := X_Pl_boardWorth_e F_Ps_headsOfRow F_Pl_effectOf (L_Pl_boardWorth_4 1000000) m
theorem fj_Pl_boardWorth {kp : pm_K} {d : Nat} (hT : qe_G kp d (T_Pl_boardWorth F_Ps_headsOfRow F_Pl_effectOf)) (m : qm_M) : qe_J kp md_Pl_boardWorth d (F_Pl_boardWorth m) 0 [(0, .ref 48), (1, .ref 1)] [] m := xg_Pl_boardWorth_e hT (lg_Pl_boardWorth_4 hT 1000000) m
theorem fg_Pl_boardWorth {kp : pm_K} (d : Nat) : qe_GE kp (d + 2) (25, 0, 3, 1, qw_cc 48 1 F_Pl_boardWorth) := qe_entry (by decide +kernel) (qw_cc_ok (d := d + 1) rfl rfl (fj_Pl_boardWorth (qe_G1 (fg_Ps_headsOfRow (d + 0)) (qe_G1 (fg_Pl_effectOf (d + 0)) qe_G0))))
/-! TurnField$Play.greatestOf(I)I -/
noncomputable def T_Pl_greatestOf : qe_T := []
def X_Pl_greatestOf_4 (l4 : Int32 → Int32 → Int32 → qm_M → Option qm_R) (v0 : Int32) (v1 : Int32) (v2 : Int32) (m : qm_M) : Option qm_R :=
  if v2 < (6 : Int32) then
    if ((qo_ishr v0 v2) &&& (1 : Int32)) = 0 then
      l4 v0 v1 (v2 + (1 : Int32)) m
    else
      l4 v0 v2 (v2 + (1 : Int32)) m
  else
    some (some (.int v1), m)
set_option maxRecDepth 100000 in
theorem xg_Pl_greatestOf_4 {kp : pm_K} {d : Nat} {l4 : Int32 → Int32 → Int32 → qm_M → Option qm_R} (hT : qe_G kp d (T_Pl_greatestOf)) (h4 : ∀ (v0 : Int32) (v1 : Int32) (v2 : Int32) (m : qm_M), qe_J kp md_Pl_greatestOf d (l4 v0 v1 v2 m) 4 [(0, .int v0), (1, .int v1), (2, .int v2)] [] m) (v0 : Int32) (v1 : Int32) (v2 : Int32) (m : qm_M) : qe_J kp md_Pl_greatestOf d (X_Pl_greatestOf_4 l4 v0 v1 v2 m) 4 [(0, .int v0), (1, .int v1), (2, .int v2)] [] m := qe_run (B := [(4, [0, 1, 2], qp_iii_ l4)]) (n := 1000) hT (qe_B1 (qp_iii__ok h4) qe_B0) rfl
def L_Pl_greatestOf_4 : Nat → Int32 → Int32 → Int32 → qm_M → Option qm_R
  | 0, _, _, _, _ => none
  | n + 1, v0, v1, v2, m => X_Pl_greatestOf_4 (L_Pl_greatestOf_4 n) v0 v1 v2 m
theorem lg_Pl_greatestOf_4 {kp : pm_K} {d : Nat} (hT : qe_G kp d (T_Pl_greatestOf)) : ∀ (n : Nat) (v0 : Int32) (v1 : Int32) (v2 : Int32) (m : qm_M), qe_J kp md_Pl_greatestOf d (L_Pl_greatestOf_4 n v0 v1 v2 m) 4 [(0, .int v0), (1, .int v1), (2, .int v2)] [] m
  | 0, v0, v1, v2, m => qe_none rfl
  | n + 1, v0, v1, v2, m => xg_Pl_greatestOf_4 hT (lg_Pl_greatestOf_4 hT n) v0 v1 v2 m
def X_Pl_greatestOf_e (l4 : Int32 → Int32 → Int32 → qm_M → Option qm_R) (v0 : Int32) (m : qm_M) : Option qm_R :=
  l4 v0 (0 : Int32) (0 : Int32) m
set_option maxRecDepth 100000 in
theorem xg_Pl_greatestOf_e {kp : pm_K} {d : Nat} {l4 : Int32 → Int32 → Int32 → qm_M → Option qm_R} (hT : qe_G kp d (T_Pl_greatestOf)) (h4 : ∀ (v0 : Int32) (v1 : Int32) (v2 : Int32) (m : qm_M), qe_J kp md_Pl_greatestOf d (l4 v0 v1 v2 m) 4 [(0, .int v0), (1, .int v1), (2, .int v2)] [] m) (v0 : Int32) (m : qm_M) : qe_J kp md_Pl_greatestOf d (X_Pl_greatestOf_e l4 v0 m) 0 [(0, .int v0)] [] m := qe_run (B := [(4, [0, 1, 2], qp_iii_ l4)]) (n := 1000) hT (qe_B1 (qp_iii__ok h4) qe_B0) rfl
def F_Pl_greatestOf (v0 : Int32) (m : qm_M) : Option qm_R := X_Pl_greatestOf_e (L_Pl_greatestOf_4 1000000) v0 m
theorem fj_Pl_greatestOf {kp : pm_K} {d : Nat} (hT : qe_G kp d (T_Pl_greatestOf)) (v0 : Int32) (m : qm_M) : qe_J kp md_Pl_greatestOf d (F_Pl_greatestOf v0 m) 0 [(0, .int v0)] [] m := xg_Pl_greatestOf_e hT (lg_Pl_greatestOf_4 hT 1000000) v0 m
theorem fg_Pl_greatestOf {kp : pm_K} (d : Nat) : qe_GE kp (d + 1) (28, 1, 0, 1, qw_i F_Pl_greatestOf) := qe_entry (by decide +kernel) (qw_i_ok (d := d + 0) rfl rfl (fj_Pl_greatestOf qe_G0))
/-! TurnField$Play.mayBe(LTurnField$Position;II)Z -/
noncomputable def T_Pl_mayBe (f_Pl_areSets : Int32 → Int32 → qm_M → Option qm_R) (f_Pl_greatestOf : Int32 → qm_M → Option qm_R) (f_Ps_showsHeads : Nat → Int32 → Int32 → qm_M → Option qm_R) : qe_T := [(26, 0, 3, 1, qw_cii 48 f_Pl_areSets), (28, 1, 0, 1, qw_i f_Pl_greatestOf), (38, 0, 5, 1, qw_rii f_Ps_showsHeads)]
def X_Pl_mayBe_e (f_Pl_areSets : Int32 → Int32 → qm_M → Option qm_R) (f_Pl_greatestOf : Int32 → qm_M → Option qm_R) (f_Ps_showsHeads : Nat → Int32 → Int32 → qm_M → Option qm_R) (v2 : Int32) (v3 : Int32) (m : qm_M) : Option qm_R :=
  qe_rI (f_Pl_areSets v2 v3 m) fun x1 m1 =>
  if x1 = 0 then
    some (some (.int (0 : Int32)), m1)
  else
    qe_rI (f_Pl_greatestOf v2 m1) fun x2 m2 =>
    qe_rI (f_Pl_greatestOf v3 m2) fun x3 m3 =>
    qe_rI (f_Ps_showsHeads 1 x2 x3 m3) fun x4 m4 =>
    qe_b (qm_ni .boolean x4) (
    some (some (.int x4), m4))
set_option maxRecDepth 100000 in
theorem xg_Pl_mayBe_e {kp : pm_K} {d : Nat} {f_Pl_areSets : Int32 → Int32 → qm_M → Option qm_R} {f_Pl_greatestOf : Int32 → qm_M → Option qm_R} {f_Ps_showsHeads : Nat → Int32 → Int32 → qm_M → Option qm_R} (hT : qe_G kp d (T_Pl_mayBe f_Pl_areSets f_Pl_greatestOf f_Ps_showsHeads)) (v2 : Int32) (v3 : Int32) (m : qm_M) : qe_J kp md_Pl_mayBe d (X_Pl_mayBe_e f_Pl_areSets f_Pl_greatestOf f_Ps_showsHeads v2 v3 m) 0 [(0, .ref 48), (1, .ref 1), (2, .int v2), (3, .int v3)] [] m := qe_run (B := []) (n := 1000) hT qe_B0 rfl
def F_Pl_mayBe (v2 : Int32) (v3 : Int32) (m : qm_M) : Option qm_R := X_Pl_mayBe_e F_Pl_areSets F_Pl_greatestOf F_Ps_showsHeads v2 v3 m
theorem fj_Pl_mayBe {kp : pm_K} {d : Nat} (hT : qe_G kp d (T_Pl_mayBe F_Pl_areSets F_Pl_greatestOf F_Ps_showsHeads)) (v2 : Int32) (v3 : Int32) (m : qm_M) : qe_J kp md_Pl_mayBe d (F_Pl_mayBe v2 v3 m) 0 [(0, .ref 48), (1, .ref 1), (2, .int v2), (3, .int v3)] [] m := xg_Pl_mayBe_e hT v2 v3 m
theorem fg_Pl_mayBe {kp : pm_K} (d : Nat) : qe_GE kp (d + 4) (27, 0, 3, 1, qw_ccii 48 1 F_Pl_mayBe) := qe_entry (by decide +kernel) (qw_ccii_ok (d := d + 3) rfl rfl (fj_Pl_mayBe (qe_G1 (fg_Pl_areSets (d + 0)) (qe_G1 (fg_Pl_greatestOf (d + 2)) (qe_G1 (fg_Ps_showsHeads (d + 1)) qe_G0)))))
/-! TurnField$Play.findAt(IIII)Z -/
noncomputable def T_Pl_findAt (f_Ru_allows : Nat → Int32 → qm_M → Option qm_R) (f_Pl_effectOf : Int32 → Int32 → qm_M → Option qm_R) : qe_T := [(48, 0, 6, 1, qw_ri f_Ru_allows), (23, 0, 3, 1, qw_cii 48 f_Pl_effectOf)]
def X_Pl_findAt_56 (f_Ru_allows : Nat → Int32 → qm_M → Option qm_R) (f_Pl_effectOf : Int32 → Int32 → qm_M → Option qm_R) (l14 : Int32 → Int32 → Int32 → Int32 → Int32 → Int32 → qm_M → Option qm_R) (v1 : Int32) (v2 : Int32) (v3 : Int32) (v4 : Int32) (v5 : Int32) (v6 : Int32) (s0 : Int32) (m : qm_M) : Option qm_R :=
  if s0 = 0 then
    l14 v1 v2 v3 v4 v5 (v6 + (1 : Int32)) m
  else
    qe_rI (f_Ru_allows 54 v6 m) fun x1 m1 =>
    if x1 = 0 then
      l14 v1 v2 v3 v4 v5 (v6 + (1 : Int32)) m1
    else
      if (m1.1 48 6) = v4 then
        let m2 : qm_M := qm_sI m1 48 4 v5
        let m3 : qm_M := qm_sI m2 48 5 v6
        some (some (.int (1 : Int32)), m3)
      else
        let m4 : qm_M := qm_sI m1 48 6 ((m1.1 48 6) + (1 : Int32))
        l14 v1 v2 v3 v4 v5 (v6 + (1 : Int32)) m4
set_option maxRecDepth 100000 in
theorem xg_Pl_findAt_56 {kp : pm_K} {d : Nat} {f_Ru_allows : Nat → Int32 → qm_M → Option qm_R} {f_Pl_effectOf : Int32 → Int32 → qm_M → Option qm_R} {l14 : Int32 → Int32 → Int32 → Int32 → Int32 → Int32 → qm_M → Option qm_R} (hT : qe_G kp d (T_Pl_findAt f_Ru_allows f_Pl_effectOf)) (h14 : ∀ (v1 : Int32) (v2 : Int32) (v3 : Int32) (v4 : Int32) (v5 : Int32) (v6 : Int32) (m : qm_M), qe_J kp md_Pl_findAt d (l14 v1 v2 v3 v4 v5 v6 m) 14 [(0, .ref 48), (1, .int v1), (2, .int v2), (3, .int v3), (4, .int v4), (5, .int v5), (6, .int v6)] [] m) (v1 : Int32) (v2 : Int32) (v3 : Int32) (v4 : Int32) (v5 : Int32) (v6 : Int32) (s0 : Int32) (m : qm_M) : qe_J kp md_Pl_findAt d (X_Pl_findAt_56 f_Ru_allows f_Pl_effectOf l14 v1 v2 v3 v4 v5 v6 s0 m) 56 [(0, .ref 48), (1, .int v1), (2, .int v2), (3, .int v3), (4, .int v4), (5, .int v5), (6, .int v6)] [.int s0] m := qe_run (B := [(14, [0, 1, 2, 3, 4, 5, 6], qp_ciiiiii_ 48 l14)]) (n := 1000) hT (qe_B1 (qp_ciiiiii__ok h14) qe_B0) rfl
def L_Pl_findAt_56 (K3 : Int32 → Int32 → Int32 → Int32 → Int32 → qm_M → Option qm_R) (K14 : Int32 → Int32 → Int32 → Int32 → Int32 → Int32 → qm_M → Option qm_R) (v1 : Int32) (v2 : Int32) (v3 : Int32) (v4 : Int32) (v5 : Int32) (v6 : Int32) (s0 : Int32) (m : qm_M) : Option qm_R := X_Pl_findAt_56 F_Ru_allows F_Pl_effectOf K14 v1 v2 v3 v4 v5 v6 s0 m
theorem lg_Pl_findAt_56 {kp : pm_K} {d : Nat} (hT : qe_G kp d (T_Pl_findAt F_Ru_allows F_Pl_effectOf)) {K3 : Int32 → Int32 → Int32 → Int32 → Int32 → qm_M → Option qm_R} (hK3 : ∀ (v1 : Int32) (v2 : Int32) (v3 : Int32) (v4 : Int32) (v5 : Int32) (m : qm_M), qe_J kp md_Pl_findAt d (K3 v1 v2 v3 v4 v5 m) 3 [(0, .ref 48), (1, .int v1), (2, .int v2), (3, .int v3), (4, .int v4), (5, .int v5)] [] m) {K14 : Int32 → Int32 → Int32 → Int32 → Int32 → Int32 → qm_M → Option qm_R} (hK14 : ∀ (v1 : Int32) (v2 : Int32) (v3 : Int32) (v4 : Int32) (v5 : Int32) (v6 : Int32) (m : qm_M), qe_J kp md_Pl_findAt d (K14 v1 v2 v3 v4 v5 v6 m) 14 [(0, .ref 48), (1, .int v1), (2, .int v2), (3, .int v3), (4, .int v4), (5, .int v5), (6, .int v6)] [] m) (v1 : Int32) (v2 : Int32) (v3 : Int32) (v4 : Int32) (v5 : Int32) (v6 : Int32) (s0 : Int32) (m : qm_M) : qe_J kp md_Pl_findAt d (L_Pl_findAt_56 K3 K14 v1 v2 v3 v4 v5 v6 s0 m) 56 [(0, .ref 48), (1, .int v1), (2, .int v2), (3, .int v3), (4, .int v4), (5, .int v5), (6, .int v6)] [.int s0] m := xg_Pl_findAt_56 hT hK14 v1 v2 v3 v4 v5 v6 s0 m
def X_Pl_findAt_14 (f_Ru_allows : Nat → Int32 → qm_M → Option qm_R) (f_Pl_effectOf : Int32 → Int32 → qm_M → Option qm_R) (l3 : Int32 → Int32 → Int32 → Int32 → Int32 → qm_M → Option qm_R) (l56 : Int32 → Int32 → Int32 → Int32 → Int32 → Int32 → Int32 → qm_M → Option qm_R) (v1 : Int32) (v2 : Int32) (v3 : Int32) (v4 : Int32) (v5 : Int32) (v6 : Int32) (m : qm_M) : Option qm_R :=
  qe_rI (f_Ru_allows 49 v5 m) fun x1 m1 =>
  if x1 = 0 then
    l3 v1 v2 v3 v4 (v5 + (1 : Int32)) m1
  else
    if v6 < (qo_ishl v2 (1 : Int32)) then
      if v3 = (-1 : Int32) then
        l56 v1 v2 v3 v4 v5 v6 (1 : Int32) m1
      else
        qe_rI (f_Pl_effectOf v5 v6 m1) fun x2 m2 =>
        if x2 = v3 then
          l56 v1 v2 v3 v4 v5 v6 (1 : Int32) m2
        else
          l56 v1 v2 v3 v4 v5 v6 (0 : Int32) m2
    else
      l3 v1 v2 v3 v4 (v5 + (1 : Int32)) m1
set_option maxRecDepth 100000 in
theorem xg_Pl_findAt_14 {kp : pm_K} {d : Nat} {f_Ru_allows : Nat → Int32 → qm_M → Option qm_R} {f_Pl_effectOf : Int32 → Int32 → qm_M → Option qm_R} {l3 : Int32 → Int32 → Int32 → Int32 → Int32 → qm_M → Option qm_R} {l56 : Int32 → Int32 → Int32 → Int32 → Int32 → Int32 → Int32 → qm_M → Option qm_R} (hT : qe_G kp d (T_Pl_findAt f_Ru_allows f_Pl_effectOf)) (h3 : ∀ (v1 : Int32) (v2 : Int32) (v3 : Int32) (v4 : Int32) (v5 : Int32) (m : qm_M), qe_J kp md_Pl_findAt d (l3 v1 v2 v3 v4 v5 m) 3 [(0, .ref 48), (1, .int v1), (2, .int v2), (3, .int v3), (4, .int v4), (5, .int v5)] [] m) (h56 : ∀ (v1 : Int32) (v2 : Int32) (v3 : Int32) (v4 : Int32) (v5 : Int32) (v6 : Int32) (s0 : Int32) (m : qm_M), qe_J kp md_Pl_findAt d (l56 v1 v2 v3 v4 v5 v6 s0 m) 56 [(0, .ref 48), (1, .int v1), (2, .int v2), (3, .int v3), (4, .int v4), (5, .int v5), (6, .int v6)] [.int s0] m) (v1 : Int32) (v2 : Int32) (v3 : Int32) (v4 : Int32) (v5 : Int32) (v6 : Int32) (m : qm_M) : qe_J kp md_Pl_findAt d (X_Pl_findAt_14 f_Ru_allows f_Pl_effectOf l3 l56 v1 v2 v3 v4 v5 v6 m) 14 [(0, .ref 48), (1, .int v1), (2, .int v2), (3, .int v3), (4, .int v4), (5, .int v5), (6, .int v6)] [] m := qe_run (B := [(3, [0, 1, 2, 3, 4, 5], qp_ciiiii_ 48 l3), (56, [0, 1, 2, 3, 4, 5, 6], qp_ciiiiii_i 48 l56)]) (n := 1000) hT (qe_B1 (qp_ciiiii__ok h3) (qe_B1 (qp_ciiiiii_i_ok h56) qe_B0)) rfl
def L_Pl_findAt_14 (K3 : Int32 → Int32 → Int32 → Int32 → Int32 → qm_M → Option qm_R) : Nat → Int32 → Int32 → Int32 → Int32 → Int32 → Int32 → qm_M → Option qm_R
  | 0, _, _, _, _, _, _, _ => none
  | n + 1, v1, v2, v3, v4, v5, v6, m => X_Pl_findAt_14 F_Ru_allows F_Pl_effectOf K3 (L_Pl_findAt_56 K3 (L_Pl_findAt_14 K3 n)) v1 v2 v3 v4 v5 v6 m
theorem lg_Pl_findAt_14 {kp : pm_K} {d : Nat} (hT : qe_G kp d (T_Pl_findAt F_Ru_allows F_Pl_effectOf)) {K3 : Int32 → Int32 → Int32 → Int32 → Int32 → qm_M → Option qm_R} (hK3 : ∀ (v1 : Int32) (v2 : Int32) (v3 : Int32) (v4 : Int32) (v5 : Int32) (m : qm_M), qe_J kp md_Pl_findAt d (K3 v1 v2 v3 v4 v5 m) 3 [(0, .ref 48), (1, .int v1), (2, .int v2), (3, .int v3), (4, .int v4), (5, .int v5)] [] m) : ∀ (n : Nat) (v1 : Int32) (v2 : Int32) (v3 : Int32) (v4 : Int32) (v5 : Int32) (v6 : Int32) (m : qm_M), qe_J kp md_Pl_findAt d (L_Pl_findAt_14 K3 n v1 v2 v3 v4 v5 v6 m) 14 [(0, .ref 48), (1, .int v1), (2, .int v2), (3, .int v3), (4, .int v4), (5, .int v5), (6, .int v6)] [] m
  | 0, v1, v2, v3, v4, v5, v6, m => qe_none rfl
  | n + 1, v1, v2, v3, v4, v5, v6, m => xg_Pl_findAt_14 hT hK3 (lg_Pl_findAt_56 hT hK3 (lg_Pl_findAt_14 hT hK3 n)) v1 v2 v3 v4 v5 v6 m
def X_Pl_findAt_3 (f_Ru_allows : Nat → Int32 → qm_M → Option qm_R) (f_Pl_effectOf : Int32 → Int32 → qm_M → Option qm_R) (l14 : Int32 → Int32 → Int32 → Int32 → Int32 → Int32 → qm_M → Option qm_R) (v1 : Int32) (v2 : Int32) (v3 : Int32) (v4 : Int32) (v5 : Int32) (m : qm_M) : Option qm_R :=
  if v5 < (qo_ishl v1 (1 : Int32)) then
    l14 v1 v2 v3 v4 v5 v2 m
  else
    some (some (.int (0 : Int32)), m)
set_option maxRecDepth 100000 in
theorem xg_Pl_findAt_3 {kp : pm_K} {d : Nat} {f_Ru_allows : Nat → Int32 → qm_M → Option qm_R} {f_Pl_effectOf : Int32 → Int32 → qm_M → Option qm_R} {l14 : Int32 → Int32 → Int32 → Int32 → Int32 → Int32 → qm_M → Option qm_R} (hT : qe_G kp d (T_Pl_findAt f_Ru_allows f_Pl_effectOf)) (h14 : ∀ (v1 : Int32) (v2 : Int32) (v3 : Int32) (v4 : Int32) (v5 : Int32) (v6 : Int32) (m : qm_M), qe_J kp md_Pl_findAt d (l14 v1 v2 v3 v4 v5 v6 m) 14 [(0, .ref 48), (1, .int v1), (2, .int v2), (3, .int v3), (4, .int v4), (5, .int v5), (6, .int v6)] [] m) (v1 : Int32) (v2 : Int32) (v3 : Int32) (v4 : Int32) (v5 : Int32) (m : qm_M) : qe_J kp md_Pl_findAt d (X_Pl_findAt_3 f_Ru_allows f_Pl_effectOf l14 v1 v2 v3 v4 v5 m) 3 [(0, .ref 48), (1, .int v1), (2, .int v2), (3, .int v3), (4, .int v4), (5, .int v5)] [] m := qe_run (B := [(14, [0, 1, 2, 3, 4, 5, 6], qp_ciiiiii_ 48 l14)]) (n := 1000) hT (qe_B1 (qp_ciiiiii__ok h14) qe_B0) rfl
def L_Pl_findAt_3 : Nat → Int32 → Int32 → Int32 → Int32 → Int32 → qm_M → Option qm_R
  | 0, _, _, _, _, _, _ => none
  | n + 1, v1, v2, v3, v4, v5, m => X_Pl_findAt_3 F_Ru_allows F_Pl_effectOf (L_Pl_findAt_14 (L_Pl_findAt_3 n) 1000000) v1 v2 v3 v4 v5 m
theorem lg_Pl_findAt_3 {kp : pm_K} {d : Nat} (hT : qe_G kp d (T_Pl_findAt F_Ru_allows F_Pl_effectOf)) : ∀ (n : Nat) (v1 : Int32) (v2 : Int32) (v3 : Int32) (v4 : Int32) (v5 : Int32) (m : qm_M), qe_J kp md_Pl_findAt d (L_Pl_findAt_3 n v1 v2 v3 v4 v5 m) 3 [(0, .ref 48), (1, .int v1), (2, .int v2), (3, .int v3), (4, .int v4), (5, .int v5)] [] m
  | 0, v1, v2, v3, v4, v5, m => qe_none rfl
  | n + 1, v1, v2, v3, v4, v5, m => xg_Pl_findAt_3 hT (lg_Pl_findAt_14 hT (lg_Pl_findAt_3 hT n) 1000000) v1 v2 v3 v4 v5 m
def X_Pl_findAt_e (f_Ru_allows : Nat → Int32 → qm_M → Option qm_R) (f_Pl_effectOf : Int32 → Int32 → qm_M → Option qm_R) (l3 : Int32 → Int32 → Int32 → Int32 → Int32 → qm_M → Option qm_R) (v1 : Int32) (v2 : Int32) (v3 : Int32) (v4 : Int32) (m : qm_M) : Option qm_R :=
  l3 v1 v2 v3 v4 v1 m
set_option maxRecDepth 100000 in
theorem xg_Pl_findAt_e {kp : pm_K} {d : Nat} {f_Ru_allows : Nat → Int32 → qm_M → Option qm_R} {f_Pl_effectOf : Int32 → Int32 → qm_M → Option qm_R} {l3 : Int32 → Int32 → Int32 → Int32 → Int32 → qm_M → Option qm_R} (hT : qe_G kp d (T_Pl_findAt f_Ru_allows f_Pl_effectOf)) (h3 : ∀ (v1 : Int32) (v2 : Int32) (v3 : Int32) (v4 : Int32) (v5 : Int32) (m : qm_M), qe_J kp md_Pl_findAt d (l3 v1 v2 v3 v4 v5 m) 3 [(0, .ref 48), (1, .int v1), (2, .int v2), (3, .int v3), (4, .int v4), (5, .int v5)] [] m) (v1 : Int32) (v2 : Int32) (v3 : Int32) (v4 : Int32) (m : qm_M) : qe_J kp md_Pl_findAt d (X_Pl_findAt_e f_Ru_allows f_Pl_effectOf l3 v1 v2 v3 v4 m) 0 [(0, .ref 48), (1, .int v1), (2, .int v2), (3, .int v3), (4, .int v4)] [] m := qe_run (B := [(3, [0, 1, 2, 3, 4, 5], qp_ciiiii_ 48 l3)]) (n := 1000) hT (qe_B1 (qp_ciiiii__ok h3) qe_B0) rfl
def F_Pl_findAt (v1 : Int32) (v2 : Int32) (v3 : Int32) (v4 : Int32) (m : qm_M) : Option qm_R := X_Pl_findAt_e F_Ru_allows F_Pl_effectOf (L_Pl_findAt_3 1000000) v1 v2 v3 v4 m
theorem fj_Pl_findAt {kp : pm_K} {d : Nat} (hT : qe_G kp d (T_Pl_findAt F_Ru_allows F_Pl_effectOf)) (v1 : Int32) (v2 : Int32) (v3 : Int32) (v4 : Int32) (m : qm_M) : qe_J kp md_Pl_findAt d (F_Pl_findAt v1 v2 v3 v4 m) 0 [(0, .ref 48), (1, .int v1), (2, .int v2), (3, .int v3), (4, .int v4)] [] m := xg_Pl_findAt_e hT (lg_Pl_findAt_3 hT 1000000) v1 v2 v3 v4 m
theorem fg_Pl_findAt {kp : pm_K} (d : Nat) : qe_GE kp (d + 3) (30, 0, 3, 1, qw_ciiii 48 F_Pl_findAt) := qe_entry (by decide +kernel) (qw_ciiii_ok (d := d + 2) rfl rfl (fj_Pl_findAt (qe_G1 (fg_Ru_allows (d + 0)) (qe_G1 (fg_Pl_effectOf (d + 1)) qe_G0))))
/-! TurnField$Play.find(LTurnField$Position;ZI)Z -/
noncomputable def T_Pl_find (f_Pl_boardWorth : qm_M → Option qm_R) (f_Ps_showsHeads : Nat → Int32 → Int32 → qm_M → Option qm_R) (f_Pl_findAt : Int32 → Int32 → Int32 → Int32 → qm_M → Option qm_R) : qe_T := [(25, 0, 3, 1, qw_cc 48 1 f_Pl_boardWorth), (38, 0, 5, 1, qw_rii f_Ps_showsHeads), (30, 0, 3, 1, qw_ciiii 48 f_Pl_findAt)]
def X_Pl_find_66 (f_Pl_boardWorth : qm_M → Option qm_R) (f_Ps_showsHeads : Nat → Int32 → Int32 → qm_M → Option qm_R) (f_Pl_findAt : Int32 → Int32 → Int32 → Int32 → qm_M → Option qm_R) (l27 : Int32 → Int32 → Int32 → Int32 → Int32 → qm_M → Option qm_R) (v2 : Int32) (v3 : Int32) (v4 : Int32) (v5 : Int32) (v6 : Int32) (s0 : Int32) (s1 : Int32) (s2 : Int32) (m : qm_M) : Option qm_R :=
  qe_rI (f_Pl_findAt s2 s1 s0 v3 m) fun x1 m1 =>
  if x1 = 0 then
    l27 v2 v3 v4 v5 (v6 + (1 : Int32)) m1
  else
    some (some (.int (1 : Int32)), m1)
set_option maxRecDepth 100000 in
theorem xg_Pl_find_66 {kp : pm_K} {d : Nat} {f_Pl_boardWorth : qm_M → Option qm_R} {f_Ps_showsHeads : Nat → Int32 → Int32 → qm_M → Option qm_R} {f_Pl_findAt : Int32 → Int32 → Int32 → Int32 → qm_M → Option qm_R} {l27 : Int32 → Int32 → Int32 → Int32 → Int32 → qm_M → Option qm_R} (hT : qe_G kp d (T_Pl_find f_Pl_boardWorth f_Ps_showsHeads f_Pl_findAt)) (h27 : ∀ (v2 : Int32) (v3 : Int32) (v4 : Int32) (v5 : Int32) (v6 : Int32) (m : qm_M), qe_J kp md_Pl_find d (l27 v2 v3 v4 v5 v6 m) 27 [(0, .ref 48), (1, .ref 1), (2, .int v2), (3, .int v3), (4, .int v4), (5, .int v5), (6, .int v6)] [] m) (v2 : Int32) (v3 : Int32) (v4 : Int32) (v5 : Int32) (v6 : Int32) (s0 : Int32) (s1 : Int32) (s2 : Int32) (m : qm_M) : qe_J kp md_Pl_find d (X_Pl_find_66 f_Pl_boardWorth f_Ps_showsHeads f_Pl_findAt l27 v2 v3 v4 v5 v6 s0 s1 s2 m) 66 [(0, .ref 48), (1, .ref 1), (2, .int v2), (3, .int v3), (4, .int v4), (5, .int v5), (6, .int v6)] [.int s0, .int s1, .int s2, .ref 48] m := qe_run (B := [(27, [0, 1, 2, 3, 4, 5, 6], qp_cciiiii_ 48 1 l27)]) (n := 1000) hT (qe_B1 (qp_cciiiii__ok h27) qe_B0) rfl
def L_Pl_find_66 (K15 : Int32 → Int32 → Int32 → Int32 → qm_M → Option qm_R) (K27 : Int32 → Int32 → Int32 → Int32 → Int32 → qm_M → Option qm_R) (v2 : Int32) (v3 : Int32) (v4 : Int32) (v5 : Int32) (v6 : Int32) (s0 : Int32) (s1 : Int32) (s2 : Int32) (m : qm_M) : Option qm_R := X_Pl_find_66 F_Pl_boardWorth F_Ps_showsHeads F_Pl_findAt K27 v2 v3 v4 v5 v6 s0 s1 s2 m
theorem lg_Pl_find_66 {kp : pm_K} {d : Nat} (hT : qe_G kp d (T_Pl_find F_Pl_boardWorth F_Ps_showsHeads F_Pl_findAt)) {K15 : Int32 → Int32 → Int32 → Int32 → qm_M → Option qm_R} (hK15 : ∀ (v2 : Int32) (v3 : Int32) (v4 : Int32) (v5 : Int32) (m : qm_M), qe_J kp md_Pl_find d (K15 v2 v3 v4 v5 m) 15 [(0, .ref 48), (1, .ref 1), (2, .int v2), (3, .int v3), (4, .int v4), (5, .int v5)] [] m) {K27 : Int32 → Int32 → Int32 → Int32 → Int32 → qm_M → Option qm_R} (hK27 : ∀ (v2 : Int32) (v3 : Int32) (v4 : Int32) (v5 : Int32) (v6 : Int32) (m : qm_M), qe_J kp md_Pl_find d (K27 v2 v3 v4 v5 v6 m) 27 [(0, .ref 48), (1, .ref 1), (2, .int v2), (3, .int v3), (4, .int v4), (5, .int v5), (6, .int v6)] [] m) (v2 : Int32) (v3 : Int32) (v4 : Int32) (v5 : Int32) (v6 : Int32) (s0 : Int32) (s1 : Int32) (s2 : Int32) (m : qm_M) : qe_J kp md_Pl_find d (L_Pl_find_66 K15 K27 v2 v3 v4 v5 v6 s0 s1 s2 m) 66 [(0, .ref 48), (1, .ref 1), (2, .int v2), (3, .int v3), (4, .int v4), (5, .int v5), (6, .int v6)] [.int s0, .int s1, .int s2, .ref 48] m := xg_Pl_find_66 hT hK27 v2 v3 v4 v5 v6 s0 s1 s2 m
def X_Pl_find_27 (f_Pl_boardWorth : qm_M → Option qm_R) (f_Ps_showsHeads : Nat → Int32 → Int32 → qm_M → Option qm_R) (f_Pl_findAt : Int32 → Int32 → Int32 → Int32 → qm_M → Option qm_R) (l15 : Int32 → Int32 → Int32 → Int32 → qm_M → Option qm_R) (l27 : Int32 → Int32 → Int32 → Int32 → Int32 → qm_M → Option qm_R) (l66 : Int32 → Int32 → Int32 → Int32 → Int32 → Int32 → Int32 → Int32 → qm_M → Option qm_R) (v2 : Int32) (v3 : Int32) (v4 : Int32) (v5 : Int32) (v6 : Int32) (m : qm_M) : Option qm_R :=
  if v6 < (m.1 1 1) then
    qe_rI (f_Ps_showsHeads 1 v5 v6 m) fun x1 m1 =>
    if x1 = 0 then
      l27 v2 v3 v4 v5 (v6 + (1 : Int32)) m1
    else
      if v2 = 0 then
        l66 v2 v3 v4 v5 v6 (-1 : Int32) (qo_ishl (1 : Int32) v6) (qo_ishl (1 : Int32) v5) m1
      else
        l66 v2 v3 v4 v5 v6 v4 (qo_ishl (1 : Int32) v6) (qo_ishl (1 : Int32) v5) m1
  else
    l15 v2 v3 v4 (v5 + (1 : Int32)) m
set_option maxRecDepth 100000 in
theorem xg_Pl_find_27 {kp : pm_K} {d : Nat} {f_Pl_boardWorth : qm_M → Option qm_R} {f_Ps_showsHeads : Nat → Int32 → Int32 → qm_M → Option qm_R} {f_Pl_findAt : Int32 → Int32 → Int32 → Int32 → qm_M → Option qm_R} {l15 : Int32 → Int32 → Int32 → Int32 → qm_M → Option qm_R} {l27 : Int32 → Int32 → Int32 → Int32 → Int32 → qm_M → Option qm_R} {l66 : Int32 → Int32 → Int32 → Int32 → Int32 → Int32 → Int32 → Int32 → qm_M → Option qm_R} (hT : qe_G kp d (T_Pl_find f_Pl_boardWorth f_Ps_showsHeads f_Pl_findAt)) (h15 : ∀ (v2 : Int32) (v3 : Int32) (v4 : Int32) (v5 : Int32) (m : qm_M), qe_J kp md_Pl_find d (l15 v2 v3 v4 v5 m) 15 [(0, .ref 48), (1, .ref 1), (2, .int v2), (3, .int v3), (4, .int v4), (5, .int v5)] [] m) (h27 : ∀ (v2 : Int32) (v3 : Int32) (v4 : Int32) (v5 : Int32) (v6 : Int32) (m : qm_M), qe_J kp md_Pl_find d (l27 v2 v3 v4 v5 v6 m) 27 [(0, .ref 48), (1, .ref 1), (2, .int v2), (3, .int v3), (4, .int v4), (5, .int v5), (6, .int v6)] [] m) (h66 : ∀ (v2 : Int32) (v3 : Int32) (v4 : Int32) (v5 : Int32) (v6 : Int32) (s0 : Int32) (s1 : Int32) (s2 : Int32) (m : qm_M), qe_J kp md_Pl_find d (l66 v2 v3 v4 v5 v6 s0 s1 s2 m) 66 [(0, .ref 48), (1, .ref 1), (2, .int v2), (3, .int v3), (4, .int v4), (5, .int v5), (6, .int v6)] [.int s0, .int s1, .int s2, .ref 48] m) (v2 : Int32) (v3 : Int32) (v4 : Int32) (v5 : Int32) (v6 : Int32) (m : qm_M) : qe_J kp md_Pl_find d (X_Pl_find_27 f_Pl_boardWorth f_Ps_showsHeads f_Pl_findAt l15 l27 l66 v2 v3 v4 v5 v6 m) 27 [(0, .ref 48), (1, .ref 1), (2, .int v2), (3, .int v3), (4, .int v4), (5, .int v5), (6, .int v6)] [] m := qe_run (B := [(15, [0, 1, 2, 3, 4, 5], qp_cciiii_ 48 1 l15), (27, [0, 1, 2, 3, 4, 5, 6], qp_cciiiii_ 48 1 l27), (66, [0, 1, 2, 3, 4, 5, 6], qp_cciiiii_iiic 48 1 48 l66)]) (n := 1000) hT (qe_B1 (qp_cciiii__ok h15) (qe_B1 (qp_cciiiii__ok h27) (qe_B1 (qp_cciiiii_iiic_ok h66) qe_B0))) rfl
def L_Pl_find_27 (K15 : Int32 → Int32 → Int32 → Int32 → qm_M → Option qm_R) : Nat → Int32 → Int32 → Int32 → Int32 → Int32 → qm_M → Option qm_R
  | 0, _, _, _, _, _, _ => none
  | n + 1, v2, v3, v4, v5, v6, m => X_Pl_find_27 F_Pl_boardWorth F_Ps_showsHeads F_Pl_findAt K15 (L_Pl_find_27 K15 n) (L_Pl_find_66 K15 (L_Pl_find_27 K15 n)) v2 v3 v4 v5 v6 m
theorem lg_Pl_find_27 {kp : pm_K} {d : Nat} (hT : qe_G kp d (T_Pl_find F_Pl_boardWorth F_Ps_showsHeads F_Pl_findAt)) {K15 : Int32 → Int32 → Int32 → Int32 → qm_M → Option qm_R} (hK15 : ∀ (v2 : Int32) (v3 : Int32) (v4 : Int32) (v5 : Int32) (m : qm_M), qe_J kp md_Pl_find d (K15 v2 v3 v4 v5 m) 15 [(0, .ref 48), (1, .ref 1), (2, .int v2), (3, .int v3), (4, .int v4), (5, .int v5)] [] m) : ∀ (n : Nat) (v2 : Int32) (v3 : Int32) (v4 : Int32) (v5 : Int32) (v6 : Int32) (m : qm_M), qe_J kp md_Pl_find d (L_Pl_find_27 K15 n v2 v3 v4 v5 v6 m) 27 [(0, .ref 48), (1, .ref 1), (2, .int v2), (3, .int v3), (4, .int v4), (5, .int v5), (6, .int v6)] [] m
  | 0, v2, v3, v4, v5, v6, m => qe_none rfl
  | n + 1, v2, v3, v4, v5, v6, m => xg_Pl_find_27 hT hK15 (lg_Pl_find_27 hT hK15 n) (lg_Pl_find_66 hT hK15 (lg_Pl_find_27 hT hK15 n)) v2 v3 v4 v5 v6 m
def X_Pl_find_15 (f_Pl_boardWorth : qm_M → Option qm_R) (f_Ps_showsHeads : Nat → Int32 → Int32 → qm_M → Option qm_R) (f_Pl_findAt : Int32 → Int32 → Int32 → Int32 → qm_M → Option qm_R) (l27 : Int32 → Int32 → Int32 → Int32 → Int32 → qm_M → Option qm_R) (v2 : Int32) (v3 : Int32) (v4 : Int32) (v5 : Int32) (m : qm_M) : Option qm_R :=
  if v5 < (m.1 1 0) then
    l27 v2 v3 v4 v5 (0 : Int32) m
  else
    some (some (.int (0 : Int32)), m)
set_option maxRecDepth 100000 in
theorem xg_Pl_find_15 {kp : pm_K} {d : Nat} {f_Pl_boardWorth : qm_M → Option qm_R} {f_Ps_showsHeads : Nat → Int32 → Int32 → qm_M → Option qm_R} {f_Pl_findAt : Int32 → Int32 → Int32 → Int32 → qm_M → Option qm_R} {l27 : Int32 → Int32 → Int32 → Int32 → Int32 → qm_M → Option qm_R} (hT : qe_G kp d (T_Pl_find f_Pl_boardWorth f_Ps_showsHeads f_Pl_findAt)) (h27 : ∀ (v2 : Int32) (v3 : Int32) (v4 : Int32) (v5 : Int32) (v6 : Int32) (m : qm_M), qe_J kp md_Pl_find d (l27 v2 v3 v4 v5 v6 m) 27 [(0, .ref 48), (1, .ref 1), (2, .int v2), (3, .int v3), (4, .int v4), (5, .int v5), (6, .int v6)] [] m) (v2 : Int32) (v3 : Int32) (v4 : Int32) (v5 : Int32) (m : qm_M) : qe_J kp md_Pl_find d (X_Pl_find_15 f_Pl_boardWorth f_Ps_showsHeads f_Pl_findAt l27 v2 v3 v4 v5 m) 15 [(0, .ref 48), (1, .ref 1), (2, .int v2), (3, .int v3), (4, .int v4), (5, .int v5)] [] m := qe_run (B := [(27, [0, 1, 2, 3, 4, 5, 6], qp_cciiiii_ 48 1 l27)]) (n := 1000) hT (qe_B1 (qp_cciiiii__ok h27) qe_B0) rfl
def L_Pl_find_15 : Nat → Int32 → Int32 → Int32 → Int32 → qm_M → Option qm_R
  | 0, _, _, _, _, _ => none
  | n + 1, v2, v3, v4, v5, m => X_Pl_find_15 F_Pl_boardWorth F_Ps_showsHeads F_Pl_findAt (L_Pl_find_27 (L_Pl_find_15 n) 1000000) v2 v3 v4 v5 m
theorem lg_Pl_find_15 {kp : pm_K} {d : Nat} (hT : qe_G kp d (T_Pl_find F_Pl_boardWorth F_Ps_showsHeads F_Pl_findAt)) : ∀ (n : Nat) (v2 : Int32) (v3 : Int32) (v4 : Int32) (v5 : Int32) (m : qm_M), qe_J kp md_Pl_find d (L_Pl_find_15 n v2 v3 v4 v5 m) 15 [(0, .ref 48), (1, .ref 1), (2, .int v2), (3, .int v3), (4, .int v4), (5, .int v5)] [] m
  | 0, v2, v3, v4, v5, m => qe_none rfl
  | n + 1, v2, v3, v4, v5, m => xg_Pl_find_15 hT (lg_Pl_find_27 hT (lg_Pl_find_15 hT n) 1000000) v2 v3 v4 v5 m
def X_Pl_find_e (f_Pl_boardWorth : qm_M → Option qm_R) (f_Ps_showsHeads : Nat → Int32 → Int32 → qm_M → Option qm_R) (f_Pl_findAt : Int32 → Int32 → Int32 → Int32 → qm_M → Option qm_R) (l15 : Int32 → Int32 → Int32 → Int32 → qm_M → Option qm_R) (v2 : Int32) (v3 : Int32) (m : qm_M) : Option qm_R :=
  qe_rI (f_Pl_boardWorth m) fun x1 m1 =>
  let m2 : qm_M := qm_sI m1 48 6 (0 : Int32)
  l15 v2 v3 x1 (0 : Int32) m2
set_option maxRecDepth 100000 in
theorem xg_Pl_find_e {kp : pm_K} {d : Nat} {f_Pl_boardWorth : qm_M → Option qm_R} {f_Ps_showsHeads : Nat → Int32 → Int32 → qm_M → Option qm_R} {f_Pl_findAt : Int32 → Int32 → Int32 → Int32 → qm_M → Option qm_R} {l15 : Int32 → Int32 → Int32 → Int32 → qm_M → Option qm_R} (hT : qe_G kp d (T_Pl_find f_Pl_boardWorth f_Ps_showsHeads f_Pl_findAt)) (h15 : ∀ (v2 : Int32) (v3 : Int32) (v4 : Int32) (v5 : Int32) (m : qm_M), qe_J kp md_Pl_find d (l15 v2 v3 v4 v5 m) 15 [(0, .ref 48), (1, .ref 1), (2, .int v2), (3, .int v3), (4, .int v4), (5, .int v5)] [] m) (v2 : Int32) (v3 : Int32) (m : qm_M) : qe_J kp md_Pl_find d (X_Pl_find_e f_Pl_boardWorth f_Ps_showsHeads f_Pl_findAt l15 v2 v3 m) 0 [(0, .ref 48), (1, .ref 1), (2, .int v2), (3, .int v3)] [] m := qe_run (B := [(15, [0, 1, 2, 3, 4, 5], qp_cciiii_ 48 1 l15)]) (n := 1000) hT (qe_B1 (qp_cciiii__ok h15) qe_B0) rfl
def F_Pl_find (v2 : Int32) (v3 : Int32) (m : qm_M) : Option qm_R := X_Pl_find_e F_Pl_boardWorth F_Ps_showsHeads F_Pl_findAt (L_Pl_find_15 1000000) v2 v3 m
theorem fj_Pl_find {kp : pm_K} {d : Nat} (hT : qe_G kp d (T_Pl_find F_Pl_boardWorth F_Ps_showsHeads F_Pl_findAt)) (v2 : Int32) (v3 : Int32) (m : qm_M) : qe_J kp md_Pl_find d (F_Pl_find v2 v3 m) 0 [(0, .ref 48), (1, .ref 1), (2, .int v2), (3, .int v3)] [] m := xg_Pl_find_e hT (lg_Pl_find_15 hT 1000000) v2 v3 m
theorem fg_Pl_find {kp : pm_K} (d : Nat) : qe_GE kp (d + 4) (29, 0, 3, 1, qw_ccii 48 1 F_Pl_find) := qe_entry (by decide +kernel) (qw_ccii_ok (d := d + 3) rfl rfl (fj_Pl_find (qe_G1 (fg_Pl_boardWorth (d + 1)) (qe_G1 (fg_Ps_showsHeads (d + 1)) (qe_G1 (fg_Pl_findAt (d + 0)) qe_G0)))))
