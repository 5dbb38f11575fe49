/-! TurnField$Lengths.canHold(LTurnField$Position;)Z -/
noncomputable def T_Le_canHold : qe_T := []
def X_Le_canHold_e  (m : qm_M) : Option qm_R :=
  if (12 : Int32) < ((m.1 1 0) * (m.1 1 1)) then
    some (some (.int (0 : Int32)), m)
  else
    some (some (.int (1 : Int32)), m)
set_option maxRecDepth 100000 in
theorem xg_Le_canHold_e {kp : pm_K} {d : Nat} (hT : qe_G kp d (T_Le_canHold)) (m : qm_M) : qe_J kp md_Le_canHold d (X_Le_canHold_e m) 0 [(0, .ref 1)] [] m := qe_run (B := []) (n := 1000) hT qe_B0 rfl
def F_Le_canHold (m : qm_M) : Option qm_R := X_Le_canHold_e m
theorem fj_Le_canHold {kp : pm_K} {d : Nat} (hT : qe_G kp d (T_Le_canHold)) (m : qm_M) : qe_J kp md_Le_canHold d (F_Le_canHold m) 0 [(0, .ref 1)] [] m := xg_Le_canHold_e hT m
theorem fg_Le_canHold {kp : pm_K} (d : Nat) : qe_GE kp (d + 1) (11, 1, 0, 1, qw_c 1 F_Le_canHold) := qe_entry (by decide +kernel) (qw_c_ok (d := d + 0) rfl rfl (fj_Le_canHold qe_G0))
/-! TurnField$Play.effectOf(II)I -/
noncomputable def T_Pl_effectOf : qe_T := []
def X_Pl_effectOf_e (v1 : Int32) (v2 : Int32) (m : qm_M) : Option qm_R :=
  qe_b (qm_in (((v1 &&& (63 : Int32)) * (64 : Int32)) + (v2 &&& (63 : Int32))) 4096) (
  some (some (.int (m.1 59 (Int32.toNatClampNeg (((v1 &&& (63 : Int32)) * (64 : Int32)) + (v2 &&& (63 : Int32)))))), m))
set_option maxRecDepth 100000 in
theorem xg_Pl_effectOf_e {kp : pm_K} {d : Nat} (hT : qe_G kp d (T_Pl_effectOf)) (v1 : Int32) (v2 : Int32) (m : qm_M) : qe_J kp md_Pl_effectOf d (X_Pl_effectOf_e v1 v2 m) 0 [(0, .ref 48), (1, .int v1), (2, .int v2)] [] m := qe_run (B := []) (n := 1000) hT qe_B0 rfl
def F_Pl_effectOf (v1 : Int32) (v2 : Int32) (m : qm_M) : Option qm_R := X_Pl_effectOf_e v1 v2 m
theorem fj_Pl_effectOf {kp : pm_K} {d : Nat} (hT : qe_G kp d (T_Pl_effectOf)) (v1 : Int32) (v2 : Int32) (m : qm_M) : qe_J kp md_Pl_effectOf d (F_Pl_effectOf v1 v2 m) 0 [(0, .ref 48), (1, .int v1), (2, .int v2)] [] m := xg_Pl_effectOf_e hT v1 v2 m
theorem fg_Pl_effectOf {kp : pm_K} (d : Nat) : qe_GE kp (d + 1) (52, 0, 3, 1, qw_cii 48 F_Pl_effectOf) := qe_entry (by decide +kernel) (qw_cii_ok (d := d + 0) rfl rfl (fj_Pl_effectOf qe_G0))
/-! TurnField$Play.joinEffects()V -/
noncomputable def T_Pl_joinEffects (f_Pl_effectOf : Int32 → Int32 → qm_M → Option qm_R) : qe_T := [(52, 0, 3, 1, qw_cii 48 f_Pl_effectOf)]
def X_Pl_joinEffects_15 (f_Pl_effectOf : Int32 → Int32 → qm_M → Option qm_R) (l2 : Int32 → qm_M → Option qm_R) (l15 : Int32 → Int32 → Int32 → qm_M → Option qm_R) (v1 : Int32) (v2 : Int32) (v3 : Int32) (m : qm_M) : Option qm_R :=
  if v3 < (64 : Int32) then
    if v1 = v2 then
      if v3 = (v3 &&& (-v3)) then
        l15 v1 v2 (v3 + (1 : Int32)) m
      else
        qe_rI (f_Pl_effectOf v2 (v3 &&& (-v3)) m) fun x1 m1 =>
        qe_rI (f_Pl_effectOf v2 (v3 ^^^ (v3 &&& (-v3))) m1) fun x2 m2 =>
        qe_b (qm_in ((v1 * (64 : Int32)) + v3) 4096) (
        let m3 : qm_M := qm_sI m2 59 (Int32.toNatClampNeg ((v1 * (64 : Int32)) + v3)) (x1 ^^^ x2)
        l15 v1 v2 (v3 + (1 : Int32)) m3)
    else
      qe_rI (f_Pl_effectOf v2 v3 m) fun x3 m4 =>
      qe_rI (f_Pl_effectOf (v1 ^^^ v2) v3 m4) fun x4 m5 =>
      qe_b (qm_in ((v1 * (64 : Int32)) + v3) 4096) (
      let m6 : qm_M := qm_sI m5 59 (Int32.toNatClampNeg ((v1 * (64 : Int32)) + v3)) (x3 ^^^ x4)
      l15 v1 v2 (v3 + (1 : Int32)) m6)
  else
    l2 (v1 + (1 : Int32)) m
set_option maxRecDepth 100000 in
theorem xg_Pl_joinEffects_15 {kp : pm_K} {d : Nat} {f_Pl_effectOf : Int32 → Int32 → qm_M → Option qm_R} {l2 : Int32 → qm_M → Option qm_R} {l15 : Int32 → Int32 → Int32 → qm_M → Option qm_R} (hT : qe_G kp d (T_Pl_joinEffects f_Pl_effectOf)) (h2 : ∀ (v1 : Int32) (m : qm_M), qe_J kp md_Pl_joinEffects d (l2 v1 m) 2 [(0, .ref 48), (1, .int v1)] [] m) (h15 : ∀ (v1 : Int32) (v2 : Int32) (v3 : Int32) (m : qm_M), qe_J kp md_Pl_joinEffects d (l15 v1 v2 v3 m) 15 [(0, .ref 48), (1, .int v1), (2, .int v2), (3, .int v3)] [] m) (v1 : Int32) (v2 : Int32) (v3 : Int32) (m : qm_M) : qe_J kp md_Pl_joinEffects d (X_Pl_joinEffects_15 f_Pl_effectOf l2 l15 v1 v2 v3 m) 15 [(0, .ref 48), (1, .int v1), (2, .int v2), (3, .int v3)] [] m := qe_run (B := [(2, [0, 1], qp_ci_ 48 l2), (15, [0, 1, 2, 3], qp_ciii_ 48 l15)]) (n := 1000) hT (qe_B1 (qp_ci__ok h2) (qe_B1 (qp_ciii__ok h15) qe_B0)) rfl
def L_Pl_joinEffects_15 (K2 : Int32 → qm_M → Option qm_R) : Nat → Int32 → Int32 → Int32 → qm_M → Option qm_R
  | 0, _, _, _, _ => none
  | n + 1, v1, v2, v3, m => X_Pl_joinEffects_15 F_Pl_effectOf K2 (L_Pl_joinEffects_15 K2 n) v1 v2 v3 m
theorem lg_Pl_joinEffects_15 {kp : pm_K} {d : Nat} (hT : qe_G kp d (T_Pl_joinEffects F_Pl_effectOf)) {K2 : Int32 → qm_M → Option qm_R} (hK2 : ∀ (v1 : Int32) (m : qm_M), qe_J kp md_Pl_joinEffects d (K2 v1 m) 2 [(0, .ref 48), (1, .int v1)] [] m) : ∀ (n : Nat) (v1 : Int32) (v2 : Int32) (v3 : Int32) (m : qm_M), qe_J kp md_Pl_joinEffects d (L_Pl_joinEffects_15 K2 n v1 v2 v3 m) 15 [(0, .ref 48), (1, .int v1), (2, .int v2), (3, .int v3)] [] m
  | 0, v1, v2, v3, m => qe_none rfl
  | n + 1, v1, v2, v3, m => xg_Pl_joinEffects_15 hT hK2 (lg_Pl_joinEffects_15 hT hK2 n) v1 v2 v3 m
def X_Pl_joinEffects_2 (f_Pl_effectOf : Int32 → Int32 → qm_M → Option qm_R) (l15 : Int32 → Int32 → Int32 → qm_M → Option qm_R) (v1 : Int32) (m : qm_M) : Option qm_R :=
  if v1 < (64 : Int32) then
    l15 v1 (v1 &&& (-v1)) (1 : Int32) m
  else
    some (none, m)
set_option maxRecDepth 100000 in
theorem xg_Pl_joinEffects_2 {kp : pm_K} {d : Nat} {f_Pl_effectOf : Int32 → Int32 → qm_M → Option qm_R} {l15 : Int32 → Int32 → Int32 → qm_M → Option qm_R} (hT : qe_G kp d (T_Pl_joinEffects f_Pl_effectOf)) (h15 : ∀ (v1 : Int32) (v2 : Int32) (v3 : Int32) (m : qm_M), qe_J kp md_Pl_joinEffects d (l15 v1 v2 v3 m) 15 [(0, .ref 48), (1, .int v1), (2, .int v2), (3, .int v3)] [] m) (v1 : Int32) (m : qm_M) : qe_J kp md_Pl_joinEffects d (X_Pl_joinEffects_2 f_Pl_effectOf l15 v1 m) 2 [(0, .ref 48), (1, .int v1)] [] m := qe_run (B := [(15, [0, 1, 2, 3], qp_ciii_ 48 l15)]) (n := 1000) hT (qe_B1 (qp_ciii__ok h15) qe_B0) rfl
def L_Pl_joinEffects_2 : Nat → Int32 → qm_M → Option qm_R
  | 0, _, _ => none
  | n + 1, v1, m => X_Pl_joinEffects_2 F_Pl_effectOf (L_Pl_joinEffects_15 (L_Pl_joinEffects_2 n) 1000000) v1 m
theorem lg_Pl_joinEffects_2 {kp : pm_K} {d : Nat} (hT : qe_G kp d (T_Pl_joinEffects F_Pl_effectOf)) : ∀ (n : Nat) (v1 : Int32) (m : qm_M), qe_J kp md_Pl_joinEffects d (L_Pl_joinEffects_2 n v1 m) 2 [(0, .ref 48), (1, .int v1)] [] m
  | 0, v1, m => qe_none rfl
  | n + 1, v1, m => xg_Pl_joinEffects_2 hT (lg_Pl_joinEffects_15 hT (lg_Pl_joinEffects_2 hT n) 1000000) v1 m
def X_Pl_joinEffects_e (f_Pl_effectOf : Int32 → Int32 → qm_M → Option qm_R) (l2 : Int32 → qm_M → Option qm_R)  (m : qm_M) : Option qm_R :=
  l2 (1 : Int32) m
set_option maxRecDepth 100000 in
theorem xg_Pl_joinEffects_e {kp : pm_K} {d : Nat} {f_Pl_effectOf : Int32 → Int32 → qm_M → Option qm_R} {l2 : Int32 → qm_M → Option qm_R} (hT : qe_G kp d (T_Pl_joinEffects f_Pl_effectOf)) (h2 : ∀ (v1 : Int32) (m : qm_M), qe_J kp md_Pl_joinEffects d (l2 v1 m) 2 [(0, .ref 48), (1, .int v1)] [] m) (m : qm_M) : qe_J kp md_Pl_joinEffects d (X_Pl_joinEffects_e f_Pl_effectOf l2 m) 0 [(0, .ref 48)] [] m := qe_run (B := [(2, [0, 1], qp_ci_ 48 l2)]) (n := 1000) hT (qe_B1 (qp_ci__ok h2) qe_B0) rfl
def F_Pl_joinEffects (m : qm_M) : Option qm_R := X_Pl_joinEffects_e F_Pl_effectOf (L_Pl_joinEffects_2 1000000) m
theorem fj_Pl_joinEffects {kp : pm_K} {d : Nat} (hT : qe_G kp d (T_Pl_joinEffects F_Pl_effectOf)) (m : qm_M) : qe_J kp md_Pl_joinEffects d (F_Pl_joinEffects m) 0 [(0, .ref 48)] [] m := xg_Pl_joinEffects_e hT (lg_Pl_joinEffects_2 hT 1000000) m
theorem fg_Pl_joinEffects {kp : pm_K} (d : Nat) : qe_GE kp (d + 2) (51, 0, 3, 0, qw_c 48 F_Pl_joinEffects) := qe_entry (by decide +kernel) (qw_c_ok (d := d + 1) rfl rfl (fj_Pl_joinEffects (qe_G1 (fg_Pl_effectOf (d + 0)) qe_G0)))
/-! TurnField$Play.worthOfBit(LTurnField$Rule;I)I -/
noncomputable def T_Pl_worthOfBit (f_JI_bitCount : Int32 → qm_M → Option qm_R) (f_Ru_worthOf : Nat → Int32 → qm_M → Option qm_R) : qe_T := [(318, 1, 0, 1, qw_i f_JI_bitCount), (101, 0, 6, 1, qw_ri f_Ru_worthOf)]
def X_Pl_worthOfBit_e (f_JI_bitCount : Int32 → qm_M → Option qm_R) (f_Ru_worthOf : Nat → Int32 → qm_M → Option qm_R) (v0 : Nat) (v1 : Int32) (m : qm_M) : Option qm_R :=
  qe_rI (f_JI_bitCount (v1 - (1 : Int32)) m) fun x1 m1 =>
  qe_b (qm_isO v0 6) (
  qe_rI (f_Ru_worthOf v0 x1 m1) fun x2 m2 =>
  some (some (.int x2), m2))
set_option maxRecDepth 100000 in
theorem xg_Pl_worthOfBit_e {kp : pm_K} {d : Nat} {f_JI_bitCount : Int32 → qm_M → Option qm_R} {f_Ru_worthOf : Nat → Int32 → qm_M → Option qm_R} (hT : qe_G kp d (T_Pl_worthOfBit f_JI_bitCount f_Ru_worthOf)) (v0 : Nat) (v1 : Int32) (m : qm_M) : qe_J kp md_Pl_worthOfBit d (X_Pl_worthOfBit_e f_JI_bitCount f_Ru_worthOf v0 v1 m) 0 [(0, .ref v0), (1, .int v1)] [] m := qe_run (B := []) (n := 1000) hT qe_B0 rfl
def F_Pl_worthOfBit (v0 : Nat) (v1 : Int32) (m : qm_M) : Option qm_R := X_Pl_worthOfBit_e F_JI_bitCount F_Ru_worthOf v0 v1 m
theorem fj_Pl_worthOfBit {kp : pm_K} {d : Nat} (hT : qe_G kp d (T_Pl_worthOfBit F_JI_bitCount F_Ru_worthOf)) (v0 : Nat) (v1 : Int32) (m : qm_M) : qe_J kp md_Pl_worthOfBit d (F_Pl_worthOfBit v0 v1 m) 0 [(0, .ref v0), (1, .int v1)] [] m := xg_Pl_worthOfBit_e hT v0 v1 m
theorem fg_Pl_worthOfBit {kp : pm_K} (d : Nat) : qe_GE kp (d + 2) (50, 1, 0, 1, qw_ri F_Pl_worthOfBit) := qe_entry (by decide +kernel) (qw_ri_ok (d := d + 1) rfl rfl (fj_Pl_worthOfBit (qe_G1 (fg_JI_bitCount (d + 0)) (qe_G1 (fg_Ru_worthOf (d + 0)) qe_G0))))
/-! TurnField$Play.tune(LTurnField$Position;)V -/
noncomputable def T_Pl_tune (f_Ps_rulesKey : Nat → qm_M → Option qm_R) (f_Ru_tune : Nat → Int32 → Int32 → qm_M → Option qm_R) (f_Pl_joinEffects : qm_M → Option qm_R) (f_Pl_worthOfBit : Nat → Int32 → qm_M → Option qm_R) (f_Nu_product : Int64 → Int64 → qm_M → Option qm_R) : qe_T := [(90, 0, 5, 1, qw_r f_Ps_rulesKey), (96, 0, 6, 0, qw_rii f_Ru_tune), (51, 0, 3, 0, qw_c 48 f_Pl_joinEffects), (50, 1, 0, 1, qw_ri f_Pl_worthOfBit), (22, 1, 0, 2, qw_ll f_Nu_product)]
def X_Pl_tune_60 (f_Ps_rulesKey : Nat → qm_M → Option qm_R) (f_Ru_tune : Nat → Int32 → Int32 → qm_M → Option qm_R) (f_Pl_joinEffects : qm_M → Option qm_R) (f_Pl_worthOfBit : Nat → Int32 → qm_M → Option qm_R) (f_Nu_product : Int64 → Int64 → qm_M → Option qm_R) (l51 : Int32 → qm_M → Option qm_R) (l60 : Int32 → Int32 → qm_M → Option qm_R) (v3 : Int32) (v4 : Int32) (m : qm_M) : Option qm_R :=
  if v4 < (64 : Int32) then
    qe_rI (f_Pl_worthOfBit 49 v3 m) fun x1 m1 =>
    qe_rI (f_Pl_worthOfBit 54 v4 m1) fun x2 m2 =>
    qe_rL (f_Nu_product (Int32.toInt64 x1) (Int32.toInt64 x2) m2) fun x3 m3 =>
    qe_b (qm_in ((v3 * (64 : Int32)) + v4) 4096) (
    let m4 : qm_M := qm_sI m3 59 (Int32.toNatClampNeg ((v3 * (64 : Int32)) + v4)) (Int64.toInt32 x3)
    l60 v3 (qo_ishl v4 (1 : Int32)) m4)
  else
    l51 (qo_ishl v3 (1 : Int32)) m
set_option maxRecDepth 100000 in
theorem xg_Pl_tune_60 {kp : pm_K} {d : Nat} {f_Ps_rulesKey : Nat → qm_M → Option qm_R} {f_Ru_tune : Nat → Int32 → Int32 → qm_M → Option qm_R} {f_Pl_joinEffects : qm_M → Option qm_R} {f_Pl_worthOfBit : Nat → Int32 → qm_M → Option qm_R} {f_Nu_product : Int64 → Int64 → qm_M → Option qm_R} {l51 : Int32 → qm_M → Option qm_R} {l60 : Int32 → Int32 → qm_M → Option qm_R} (hT : qe_G kp d (T_Pl_tune f_Ps_rulesKey f_Ru_tune f_Pl_joinEffects f_Pl_worthOfBit f_Nu_product)) (h51 : ∀ (v3 : Int32) (m : qm_M), qe_J kp md_Pl_tune d (l51 v3 m) 51 [(0, .ref 48), (3, .int v3)] [] m) (h60 : ∀ (v3 : Int32) (v4 : Int32) (m : qm_M), qe_J kp md_Pl_tune d (l60 v3 v4 m) 60 [(0, .ref 48), (3, .int v3), (4, .int v4)] [] m) (v3 : Int32) (v4 : Int32) (m : qm_M) : qe_J kp md_Pl_tune d (X_Pl_tune_60 f_Ps_rulesKey f_Ru_tune f_Pl_joinEffects f_Pl_worthOfBit f_Nu_product l51 l60 v3 v4 m) 60 [(0, .ref 48), (3, .int v3), (4, .int v4)] [] m := qe_run (B := [(51, [0, 3], qp_ci_ 48 l51), (60, [0, 3, 4], qp_cii_ 48 l60)]) (n := 1000) hT (qe_B1 (qp_ci__ok h51) (qe_B1 (qp_cii__ok h60) qe_B0)) rfl
def L_Pl_tune_60 (K51 : Int32 → qm_M → Option qm_R) : Nat → Int32 → Int32 → qm_M → Option qm_R
  | 0, _, _, _ => none
  | n + 1, v3, v4, m => X_Pl_tune_60 F_Ps_rulesKey F_Ru_tune F_Pl_joinEffects F_Pl_worthOfBit F_Nu_product K51 (L_Pl_tune_60 K51 n) v3 v4 m
theorem lg_Pl_tune_60 {kp : pm_K} {d : Nat} (hT : qe_G kp d (T_Pl_tune F_Ps_rulesKey F_Ru_tune F_Pl_joinEffects F_Pl_worthOfBit F_Nu_product)) {K51 : Int32 → qm_M → Option qm_R} (hK51 : ∀ (v3 : Int32) (m : qm_M), qe_J kp md_Pl_tune d (K51 v3 m) 51 [(0, .ref 48), (3, .int v3)] [] m) : ∀ (n : Nat) (v3 : Int32) (v4 : Int32) (m : qm_M), qe_J kp md_Pl_tune d (L_Pl_tune_60 K51 n v3 v4 m) 60 [(0, .ref 48), (3, .int v3), (4, .int v4)] [] m
  | 0, v3, v4, m => qe_none rfl
  | n + 1, v3, v4, m => xg_Pl_tune_60 hT hK51 (lg_Pl_tune_60 hT hK51 n) v3 v4 m
def X_Pl_tune_51 (f_Ps_rulesKey : Nat → qm_M → Option qm_R) (f_Ru_tune : Nat → Int32 → Int32 → qm_M → Option qm_R) (f_Pl_joinEffects : qm_M → Option qm_R) (f_Pl_worthOfBit : Nat → Int32 → qm_M → Option qm_R) (f_Nu_product : Int64 → Int64 → qm_M → Option qm_R) (l60 : Int32 → Int32 → qm_M → Option qm_R) (v3 : Int32) (m : qm_M) : Option qm_R :=
  if v3 < (64 : Int32) then
    l60 v3 (1 : Int32) m
  else
    qe_rV (f_Pl_joinEffects m) fun m1 =>
    some (none, m1)
set_option maxRecDepth 100000 in
theorem xg_Pl_tune_51 {kp : pm_K} {d : Nat} {f_Ps_rulesKey : Nat → qm_M → Option qm_R} {f_Ru_tune : Nat → Int32 → Int32 → qm_M → Option qm_R} {f_Pl_joinEffects : qm_M → Option qm_R} {f_Pl_worthOfBit : Nat → Int32 → qm_M → Option qm_R} {f_Nu_product : Int64 → Int64 → qm_M → Option qm_R} {l60 : Int32 → Int32 → qm_M → Option qm_R} (hT : qe_G kp d (T_Pl_tune f_Ps_rulesKey f_Ru_tune f_Pl_joinEffects f_Pl_worthOfBit f_Nu_product)) (h60 : ∀ (v3 : Int32) (v4 : Int32) (m : qm_M), qe_J kp md_Pl_tune d (l60 v3 v4 m) 60 [(0, .ref 48), (3, .int v3), (4, .int v4)] [] m) (v3 : Int32) (m : qm_M) : qe_J kp md_Pl_tune d (X_Pl_tune_51 f_Ps_rulesKey f_Ru_tune f_Pl_joinEffects f_Pl_worthOfBit f_Nu_product l60 v3 m) 51 [(0, .ref 48), (3, .int v3)] [] m := qe_run (B := [(60, [0, 3, 4], qp_cii_ 48 l60)]) (n := 1000) hT (qe_B1 (qp_cii__ok h60) qe_B0) rfl
def L_Pl_tune_51 : Nat → Int32 → qm_M → Option qm_R
  | 0, _, _ => none
  | n + 1, v3, m => X_Pl_tune_51 F_Ps_rulesKey F_Ru_tune F_Pl_joinEffects F_Pl_worthOfBit F_Nu_product (L_Pl_tune_60 (L_Pl_tune_51 n) 1000000) v3 m
theorem lg_Pl_tune_51 {kp : pm_K} {d : Nat} (hT : qe_G kp d (T_Pl_tune F_Ps_rulesKey F_Ru_tune F_Pl_joinEffects F_Pl_worthOfBit F_Nu_product)) : ∀ (n : Nat) (v3 : Int32) (m : qm_M), qe_J kp md_Pl_tune d (L_Pl_tune_51 n v3 m) 51 [(0, .ref 48), (3, .int v3)] [] m
  | 0, v3, m => qe_none rfl
  | n + 1, v3, m => xg_Pl_tune_51 hT (lg_Pl_tune_60 hT (lg_Pl_tune_51 hT n) 1000000) v3 m
def X_Pl_tune_e (f_Ps_rulesKey : Nat → qm_M → Option qm_R) (f_Ru_tune : Nat → Int32 → Int32 → qm_M → Option qm_R) (f_Pl_joinEffects : qm_M → Option qm_R) (f_Pl_worthOfBit : Nat → Int32 → qm_M → Option qm_R) (f_Nu_product : Int64 → Int64 → qm_M → Option qm_R) (l51 : Int32 → qm_M → Option qm_R)  (m : qm_M) : Option qm_R :=
  qe_rI (f_Ps_rulesKey 1 m) fun x1 m1 =>
  if (m1.1 48 3) = x1 then
    some (none, m1)
  else
    let m2 : qm_M := qm_sI m1 48 3 x1
    qe_rV (f_Ru_tune 49 (m2.1 1 2) (m2.1 1 4) m2) fun m3 =>
    qe_rV (f_Ru_tune 54 (m3.1 1 3) (m3.1 1 5) m3) fun m4 =>
    l51 (1 : Int32) m4
set_option maxRecDepth 100000 in
theorem xg_Pl_tune_e {kp : pm_K} {d : Nat} {f_Ps_rulesKey : Nat → qm_M → Option qm_R} {f_Ru_tune : Nat → Int32 → Int32 → qm_M → Option qm_R} {f_Pl_joinEffects : qm_M → Option qm_R} {f_Pl_worthOfBit : Nat → Int32 → qm_M → Option qm_R} {f_Nu_product : Int64 → Int64 → qm_M → Option qm_R} {l51 : Int32 → qm_M → Option qm_R} (hT : qe_G kp d (T_Pl_tune f_Ps_rulesKey f_Ru_tune f_Pl_joinEffects f_Pl_worthOfBit f_Nu_product)) (h51 : ∀ (v3 : Int32) (m : qm_M), qe_J kp md_Pl_tune d (l51 v3 m) 51 [(0, .ref 48), (3, .int v3)] [] m) (m : qm_M) : qe_J kp md_Pl_tune d (X_Pl_tune_e f_Ps_rulesKey f_Ru_tune f_Pl_joinEffects f_Pl_worthOfBit f_Nu_product l51 m) 0 [(0, .ref 48), (1, .ref 1)] [] m := qe_run (B := [(51, [0, 3], qp_ci_ 48 l51)]) (n := 1000) hT (qe_B1 (qp_ci__ok h51) qe_B0) rfl
def F_Pl_tune (m : qm_M) : Option qm_R := X_Pl_tune_e F_Ps_rulesKey F_Ru_tune F_Pl_joinEffects F_Pl_worthOfBit F_Nu_product (L_Pl_tune_51 1000000) m
theorem fj_Pl_tune {kp : pm_K} {d : Nat} (hT : qe_G kp d (T_Pl_tune F_Ps_rulesKey F_Ru_tune F_Pl_joinEffects F_Pl_worthOfBit F_Nu_product)) (m : qm_M) : qe_J kp md_Pl_tune d (F_Pl_tune m) 0 [(0, .ref 48), (1, .ref 1)] [] m := xg_Pl_tune_e hT (lg_Pl_tune_51 hT 1000000) m
theorem fg_Pl_tune {kp : pm_K} (d : Nat) : qe_GE kp (d + 34) (49, 0, 3, 0, qw_cc 48 1 F_Pl_tune) := qe_entry (by decide +kernel) (qw_cc_ok (d := d + 33) rfl rfl (fj_Pl_tune (qe_G1 (fg_Ps_rulesKey (d + 32)) (qe_G1 (fg_Ru_tune (d + 29)) (qe_G1 (fg_Pl_joinEffects (d + 31)) (qe_G1 (fg_Pl_worthOfBit (d + 31)) (qe_G1 (fg_Nu_product (d + 0)) qe_G0)))))))
/-! TurnField$Play.areSets(II)Z -/
noncomputable def T_Pl_areSets (f_Ru_allows : Nat → Int32 → qm_M → Option qm_R) : qe_T := [(99, 0, 6, 1, qw_ri f_Ru_allows)]
def X_Pl_areSets_e (f_Ru_allows : Nat → Int32 → qm_M → Option qm_R) (v1 : Int32) (v2 : Int32) (m : qm_M) : Option qm_R :=
  qe_rI (f_Ru_allows 49 v1 m) fun x1 m1 =>
  if x1 = 0 then
    some (some (.int (0 : Int32)), m1)
  else
    qe_rI (f_Ru_allows 54 v2 m1) fun x2 m2 =>
    if x2 = 0 then
      some (some (.int (0 : Int32)), m2)
    else
      some (some (.int (1 : Int32)), m2)
set_option maxRecDepth 100000 in
theorem xg_Pl_areSets_e {kp : pm_K} {d : Nat} {f_Ru_allows : Nat → Int32 → qm_M → Option qm_R} (hT : qe_G kp d (T_Pl_areSets f_Ru_allows)) (v1 : Int32) (v2 : Int32) (m : qm_M) : qe_J kp md_Pl_areSets d (X_Pl_areSets_e f_Ru_allows v1 v2 m) 0 [(0, .ref 48), (1, .int v1), (2, .int v2)] [] m := qe_run (B := []) (n := 1000) hT qe_B0 rfl
def F_Pl_areSets (v1 : Int32) (v2 : Int32) (m : qm_M) : Option qm_R := X_Pl_areSets_e F_Ru_allows v1 v2 m
theorem fj_Pl_areSets {kp : pm_K} {d : Nat} (hT : qe_G kp d (T_Pl_areSets F_Ru_allows)) (v1 : Int32) (v2 : Int32) (m : qm_M) : qe_J kp md_Pl_areSets d (F_Pl_areSets v1 v2 m) 0 [(0, .ref 48), (1, .int v1), (2, .int v2)] [] m := xg_Pl_areSets_e hT v1 v2 m
theorem fg_Pl_areSets {kp : pm_K} (d : Nat) : qe_GE kp (d + 3) (55, 0, 3, 1, qw_cii 48 F_Pl_areSets) := qe_entry (by decide +kernel) (qw_cii_ok (d := d + 2) rfl rfl (fj_Pl_areSets (qe_G1 (fg_Ru_allows (d + 0)) qe_G0)))
/-! TurnField$Lengths.packed(J)I -/
noncomputable def T_Le_packed : qe_T := []
def X_Le_packed_5 (l5 : Int64 → Int32 → Int32 → qm_M → Option qm_R) (v1 : Int64) (v3 : Int32) (v4 : Int32) (m : qm_M) : Option qm_R :=
  if v4 < (m.1 60 4) then
    let x1 : Int32 := (v3 ||| (qo_ishl (Int64.toInt32 ((qo_lushr v1 ((6 : Int32) * v4)) &&& (63 : Int64))) ((m.1 60 5) * v4)))
    l5 v1 x1 (v4 + (1 : Int32)) m
  else
    some (some (.int v3), m)
set_option maxRecDepth 100000 in
theorem xg_Le_packed_5 {kp : pm_K} {d : Nat} {l5 : Int64 → Int32 → Int32 → qm_M → Option qm_R} (hT : qe_G kp d (T_Le_packed)) (h5 : ∀ (v1 : Int64) (v3 : Int32) (v4 : Int32) (m : qm_M), qe_J kp md_Le_packed d (l5 v1 v3 v4 m) 5 [(0, .ref 60), (1, .long v1), (3, .int v3), (4, .int v4)] [] m) (v1 : Int64) (v3 : Int32) (v4 : Int32) (m : qm_M) : qe_J kp md_Le_packed d (X_Le_packed_5 l5 v1 v3 v4 m) 5 [(0, .ref 60), (1, .long v1), (3, .int v3), (4, .int v4)] [] m := qe_run (B := [(5, [0, 1, 3, 4], qp_clii_ 60 l5)]) (n := 1000) hT (qe_B1 (qp_clii__ok h5) qe_B0) rfl
def L_Le_packed_5 : Nat → Int64 → Int32 → Int32 → qm_M → Option qm_R
  | 0, _, _, _, _ => none
  | n + 1, v1, v3, v4, m => X_Le_packed_5 (L_Le_packed_5 n) v1 v3 v4 m
theorem lg_Le_packed_5 {kp : pm_K} {d : Nat} (hT : qe_G kp d (T_Le_packed)) : ∀ (n : Nat) (v1 : Int64) (v3 : Int32) (v4 : Int32) (m : qm_M), qe_J kp md_Le_packed d (L_Le_packed_5 n v1 v3 v4 m) 5 [(0, .ref 60), (1, .long v1), (3, .int v3), (4, .int v4)] [] m
  | 0, v1, v3, v4, m => qe_none rfl
  | n + 1, v1, v3, v4, m => xg_Le_packed_5 hT (lg_Le_packed_5 hT n) v1 v3 v4 m
def X_Le_packed_e (l5 : Int64 → Int32 → Int32 → qm_M → Option qm_R) (v1 : Int64) (m : qm_M) : Option qm_R :=
  l5 v1 (0 : Int32) (0 : Int32) m
set_option maxRecDepth 100000 in
theorem xg_Le_packed_e {kp : pm_K} {d : Nat} {l5 : Int64 → Int32 → Int32 → qm_M → Option qm_R} (hT : qe_G kp d (T_Le_packed)) (h5 : ∀ (v1 : Int64) (v3 : Int32) (v4 : Int32) (m : qm_M), qe_J kp md_Le_packed d (l5 v1 v3 v4 m) 5 [(0, .ref 60), (1, .long v1), (3, .int v3), (4, .int v4)] [] m) (v1 : Int64) (m : qm_M) : qe_J kp md_Le_packed d (X_Le_packed_e l5 v1 m) 0 [(0, .ref 60), (1, .long v1)] [] m := qe_run (B := [(5, [0, 1, 3, 4], qp_clii_ 60 l5)]) (n := 1000) hT (qe_B1 (qp_clii__ok h5) qe_B0) rfl
def F_Le_packed (v1 : Int64) (m : qm_M) : Option qm_R := X_Le_packed_e (L_Le_packed_5 1000000) v1 m
theorem fj_Le_packed {kp : pm_K} {d : Nat} (hT : qe_G kp d (T_Le_packed)) (v1 : Int64) (m : qm_M) : qe_J kp md_Le_packed d (F_Le_packed v1 m) 0 [(0, .ref 60), (1, .long v1)] [] m := xg_Le_packed_e hT (lg_Le_packed_5 hT 1000000) v1 m
theorem fg_Le_packed {kp : pm_K} (d : Nat) : qe_GE kp (d + 1) (17, 0, 1, 1, qw_cl 60 F_Le_packed) := qe_entry (by decide +kernel) (qw_cl_ok (d := d + 0) rfl rfl (fj_Le_packed qe_G0))
/-! TurnField$Lengths.listMovesAt(IILTurnField$Play;)V -/
noncomputable def T_Le_listMovesAt (f_Pl_areSets : Int32 → Int32 → qm_M → Option qm_R) (f_Ps_bitsOf : Int32 → Int32 → qm_M → Option qm_R) (f_Le_packed : Int64 → qm_M → Option qm_R) : qe_T := [(55, 0, 3, 1, qw_cii 48 f_Pl_areSets), (84, 1, 0, 2, qw_ii f_Ps_bitsOf), (17, 0, 1, 1, qw_cl 60 f_Le_packed)]
def X_Le_listMovesAt_14 (f_Pl_areSets : Int32 → Int32 → qm_M → Option qm_R) (f_Ps_bitsOf : Int32 → Int32 → qm_M → Option qm_R) (f_Le_packed : Int64 → qm_M → Option qm_R) (l3 : Int32 → Int32 → Int32 → qm_M → Option qm_R) (l14 : Int32 → Int32 → Int32 → Int32 → qm_M → Option qm_R) (v1 : Int32) (v2 : Int32) (v4 : Int32) (v5 : Int32) (m : qm_M) : Option qm_R :=
  if v5 < (qo_ishl v2 (1 : Int32)) then
    if (m.1 60 6) < (256 : Int32) then
      qe_rI (f_Pl_areSets v4 v5 m) fun x1 m1 =>
      if x1 = 0 then
        l14 v1 v2 v4 (v5 + (1 : Int32)) m1
      else
        qe_rL (f_Ps_bitsOf v4 v5 m1) fun x2 m2 =>
        qe_rI (f_Le_packed x2 m2) fun x3 m3 =>
        qe_b (qm_in (m1.1 60 6) 256) (
        let m4 : qm_M := qm_sI m3 62 (Int32.toNatClampNeg (m1.1 60 6)) x3
        let m5 : qm_M := qm_sI m4 60 6 ((m4.1 60 6) + (1 : Int32))
        l14 v1 v2 v4 (v5 + (1 : Int32)) m5)
    else
      l14 v1 v2 v4 (v5 + (1 : Int32)) m
  else
    l3 v1 v2 (v4 + (1 : Int32)) m
set_option maxRecDepth 100000 in
theorem xg_Le_listMovesAt_14 {kp : pm_K} {d : Nat} {f_Pl_areSets : Int32 → Int32 → qm_M → Option qm_R} {f_Ps_bitsOf : Int32 → Int32 → qm_M → Option qm_R} {f_Le_packed : Int64 → qm_M → Option qm_R} {l3 : Int32 → Int32 → Int32 → qm_M → Option qm_R} {l14 : Int32 → Int32 → Int32 → Int32 → qm_M → Option qm_R} (hT : qe_G kp d (T_Le_listMovesAt f_Pl_areSets f_Ps_bitsOf f_Le_packed)) (h3 : ∀ (v1 : Int32) (v2 : Int32) (v4 : Int32) (m : qm_M), qe_J kp md_Le_listMovesAt d (l3 v1 v2 v4 m) 3 [(0, .ref 60), (1, .int v1), (2, .int v2), (3, .ref 48), (4, .int v4)] [] m) (h14 : ∀ (v1 : Int32) (v2 : Int32) (v4 : Int32) (v5 : Int32) (m : qm_M), qe_J kp md_Le_listMovesAt d (l14 v1 v2 v4 v5 m) 14 [(0, .ref 60), (1, .int v1), (2, .int v2), (3, .ref 48), (4, .int v4), (5, .int v5)] [] m) (v1 : Int32) (v2 : Int32) (v4 : Int32) (v5 : Int32) (m : qm_M) : qe_J kp md_Le_listMovesAt d (X_Le_listMovesAt_14 f_Pl_areSets f_Ps_bitsOf f_Le_packed l3 l14 v1 v2 v4 v5 m) 14 [(0, .ref 60), (1, .int v1), (2, .int v2), (3, .ref 48), (4, .int v4), (5, .int v5)] [] m := qe_run (B := [(3, [0, 1, 2, 3, 4], qp_ciici_ 60 48 l3), (14, [0, 1, 2, 3, 4, 5], qp_ciicii_ 60 48 l14)]) (n := 1000) hT (qe_B1 (qp_ciici__ok h3) (qe_B1 (qp_ciicii__ok h14) qe_B0)) rfl
def L_Le_listMovesAt_14 (K3 : Int32 → Int32 → Int32 → qm_M → Option qm_R) : Nat → Int32 → Int32 → Int32 → Int32 → qm_M → Option qm_R
  | 0, _, _, _, _, _ => none
  | n + 1, v1, v2, v4, v5, m => X_Le_listMovesAt_14 F_Pl_areSets F_Ps_bitsOf F_Le_packed K3 (L_Le_listMovesAt_14 K3 n) v1 v2 v4 v5 m
theorem lg_Le_listMovesAt_14 {kp : pm_K} {d : Nat} (hT : qe_G kp d (T_Le_listMovesAt F_Pl_areSets F_Ps_bitsOf F_Le_packed)) {K3 : Int32 → Int32 → Int32 → qm_M → Option qm_R} (hK3 : ∀ (v1 : Int32) (v2 : Int32) (v4 : Int32) (m : qm_M), qe_J kp md_Le_listMovesAt d (K3 v1 v2 v4 m) 3 [(0, .ref 60), (1, .int v1), (2, .int v2), (3, .ref 48), (4, .int v4)] [] m) : ∀ (n : Nat) (v1 : Int32) (v2 : Int32) (v4 : Int32) (v5 : Int32) (m : qm_M), qe_J kp md_Le_listMovesAt d (L_Le_listMovesAt_14 K3 n v1 v2 v4 v5 m) 14 [(0, .ref 60), (1, .int v1), (2, .int v2), (3, .ref 48), (4, .int v4), (5, .int v5)] [] m
  | 0, v1, v2, v4, v5, m => qe_none rfl
  | n + 1, v1, v2, v4, v5, m => xg_Le_listMovesAt_14 hT hK3 (lg_Le_listMovesAt_14 hT hK3 n) v1 v2 v4 v5 m
def X_Le_listMovesAt_3 (f_Pl_areSets : Int32 → Int32 → qm_M → Option qm_R) (f_Ps_bitsOf : Int32 → Int32 → qm_M → Option qm_R) (f_Le_packed : Int64 → qm_M → Option qm_R) (l14 : Int32 → Int32 → Int32 → Int32 → qm_M → Option qm_R) (v1 : Int32) (v2 : Int32) (v4 : Int32) (m : qm_M) : Option qm_R :=
  if v4 < (qo_ishl v1 (1 : Int32)) then
    l14 v1 v2 v4 v2 m
  else
    some (none, m)
set_option maxRecDepth 100000 in
theorem xg_Le_listMovesAt_3 {kp : pm_K} {d : Nat} {f_Pl_areSets : Int32 → Int32 → qm_M → Option qm_R} {f_Ps_bitsOf : Int32 → Int32 → qm_M → Option qm_R} {f_Le_packed : Int64 → qm_M → Option qm_R} {l14 : Int32 → Int32 → Int32 → Int32 → qm_M → Option qm_R} (hT : qe_G kp d (T_Le_listMovesAt f_Pl_areSets f_Ps_bitsOf f_Le_packed)) (h14 : ∀ (v1 : Int32) (v2 : Int32) (v4 : Int32) (v5 : Int32) (m : qm_M), qe_J kp md_Le_listMovesAt d (l14 v1 v2 v4 v5 m) 14 [(0, .ref 60), (1, .int v1), (2, .int v2), (3, .ref 48), (4, .int v4), (5, .int v5)] [] m) (v1 : Int32) (v2 : Int32) (v4 : Int32) (m : qm_M) : qe_J kp md_Le_listMovesAt d (X_Le_listMovesAt_3 f_Pl_areSets f_Ps_bitsOf f_Le_packed l14 v1 v2 v4 m) 3 [(0, .ref 60), (1, .int v1), (2, .int v2), (3, .ref 48), (4, .int v4)] [] m := qe_run (B := [(14, [0, 1, 2, 3, 4, 5], qp_ciicii_ 60 48 l14)]) (n := 1000) hT (qe_B1 (qp_ciicii__ok h14) qe_B0) rfl
def L_Le_listMovesAt_3 : Nat → Int32 → Int32 → Int32 → qm_M → Option qm_R
  | 0, _, _, _, _ => none
  | n + 1, v1, v2, v4, m => X_Le_listMovesAt_3 F_Pl_areSets F_Ps_bitsOf F_Le_packed (L_Le_listMovesAt_14 (L_Le_listMovesAt_3 n) 1000000) v1 v2 v4 m
theorem lg_Le_listMovesAt_3 {kp : pm_K} {d : Nat} (hT : qe_G kp d (T_Le_listMovesAt F_Pl_areSets F_Ps_bitsOf F_Le_packed)) : ∀ (n : Nat) (v1 : Int32) (v2 : Int32) (v4 : Int32) (m : qm_M), qe_J kp md_Le_listMovesAt d (L_Le_listMovesAt_3 n v1 v2 v4 m) 3 [(0, .ref 60), (1, .int v1), (2, .int v2), (3, .ref 48), (4, .int v4)] [] m
  | 0, v1, v2, v4, m => qe_none rfl
  | n + 1, v1, v2, v4, m => xg_Le_listMovesAt_3 hT (lg_Le_listMovesAt_14 hT (lg_Le_listMovesAt_3 hT n) 1000000) v1 v2 v4 m
def X_Le_listMovesAt_e (f_Pl_areSets : Int32 → Int32 → qm_M → Option qm_R) (f_Ps_bitsOf : Int32 → Int32 → qm_M → Option qm_R) (f_Le_packed : Int64 → qm_M → Option qm_R) (l3 : Int32 → Int32 → Int32 → qm_M → Option qm_R) (v1 : Int32) (v2 : Int32) (m : qm_M) : Option qm_R :=
  l3 v1 v2 v1 m
set_option maxRecDepth 100000 in
theorem xg_Le_listMovesAt_e {kp : pm_K} {d : Nat} {f_Pl_areSets : Int32 → Int32 → qm_M → Option qm_R} {f_Ps_bitsOf : Int32 → Int32 → qm_M → Option qm_R} {f_Le_packed : Int64 → qm_M → Option qm_R} {l3 : Int32 → Int32 → Int32 → qm_M → Option qm_R} (hT : qe_G kp d (T_Le_listMovesAt f_Pl_areSets f_Ps_bitsOf f_Le_packed)) (h3 : ∀ (v1 : Int32) (v2 : Int32) (v4 : Int32) (m : qm_M), qe_J kp md_Le_listMovesAt d (l3 v1 v2 v4 m) 3 [(0, .ref 60), (1, .int v1), (2, .int v2), (3, .ref 48), (4, .int v4)] [] m) (v1 : Int32) (v2 : Int32) (m : qm_M) : qe_J kp md_Le_listMovesAt d (X_Le_listMovesAt_e f_Pl_areSets f_Ps_bitsOf f_Le_packed l3 v1 v2 m) 0 [(0, .ref 60), (1, .int v1), (2, .int v2), (3, .ref 48)] [] m := qe_run (B := [(3, [0, 1, 2, 3, 4], qp_ciici_ 60 48 l3)]) (n := 1000) hT (qe_B1 (qp_ciici__ok h3) qe_B0) rfl
def F_Le_listMovesAt (v1 : Int32) (v2 : Int32) (m : qm_M) : Option qm_R := X_Le_listMovesAt_e F_Pl_areSets F_Ps_bitsOf F_Le_packed (L_Le_listMovesAt_3 1000000) v1 v2 m
theorem fj_Le_listMovesAt {kp : pm_K} {d : Nat} (hT : qe_G kp d (T_Le_listMovesAt F_Pl_areSets F_Ps_bitsOf F_Le_packed)) (v1 : Int32) (v2 : Int32) (m : qm_M) : qe_J kp md_Le_listMovesAt d (F_Le_listMovesAt v1 v2 m) 0 [(0, .ref 60), (1, .int v1), (2, .int v2), (3, .ref 48)] [] m := xg_Le_listMovesAt_e hT (lg_Le_listMovesAt_3 hT 1000000) v1 v2 m
theorem fg_Le_listMovesAt {kp : pm_K} (d : Nat) : qe_GE kp (d + 4) (14, 0, 1, 0, qw_ciic 60 48 F_Le_listMovesAt) := qe_entry (by decide +kernel) (qw_ciic_ok (d := d + 3) rfl rfl (fj_Le_listMovesAt (qe_G1 (fg_Pl_areSets (d + 0)) (qe_G1 (fg_Ps_bitsOf (d + 2)) (qe_G1 (fg_Le_packed (d + 2)) qe_G0)))))
/-! TurnField$Lengths.listMoves(LTurnField$Play;)V -/
noncomputable def T_Le_listMoves (f_Le_listMovesAt : Int32 → Int32 → qm_M → Option qm_R) : qe_T := [(14, 0, 1, 0, qw_ciic 60 48 f_Le_listMovesAt)]
def X_Le_listMoves_20 (f_Le_listMovesAt : Int32 → Int32 → qm_M → Option qm_R) (l9 : Int32 → Int32 → qm_M → Option qm_R) (l20 : Int32 → Int32 → Int32 → qm_M → Option qm_R) (v2 : Int32) (v3 : Int32) (v4 : Int32) (m : qm_M) : Option qm_R :=
  if v4 < (m.1 60 5) then
    qe_b (qm_in v2 13) (
    let m1 : qm_M := qm_sI m 63 (Int32.toNatClampNeg v2) (m.1 60 6)
    qe_rV (f_Le_listMovesAt (qo_ishl (1 : Int32) v3) (qo_ishl (1 : Int32) v4) m1) fun m2 =>
    l20 (v2 + (1 : Int32)) v3 (v4 + (1 : Int32)) m2)
  else
    l9 v2 (v3 + (1 : Int32)) m
set_option maxRecDepth 100000 in
theorem xg_Le_listMoves_20 {kp : pm_K} {d : Nat} {f_Le_listMovesAt : Int32 → Int32 → qm_M → Option qm_R} {l9 : Int32 → Int32 → qm_M → Option qm_R} {l20 : Int32 → Int32 → Int32 → qm_M → Option qm_R} (hT : qe_G kp d (T_Le_listMoves f_Le_listMovesAt)) (h9 : ∀ (v2 : Int32) (v3 : Int32) (m : qm_M), qe_J kp md_Le_listMoves d (l9 v2 v3 m) 9 [(0, .ref 60), (1, .ref 48), (2, .int v2), (3, .int v3)] [] m) (h20 : ∀ (v2 : Int32) (v3 : Int32) (v4 : Int32) (m : qm_M), qe_J kp md_Le_listMoves d (l20 v2 v3 v4 m) 20 [(0, .ref 60), (1, .ref 48), (2, .int v2), (3, .int v3), (4, .int v4)] [] m) (v2 : Int32) (v3 : Int32) (v4 : Int32) (m : qm_M) : qe_J kp md_Le_listMoves d (X_Le_listMoves_20 f_Le_listMovesAt l9 l20 v2 v3 v4 m) 20 [(0, .ref 60), (1, .ref 48), (2, .int v2), (3, .int v3), (4, .int v4)] [] m := qe_run (B := [(9, [0, 1, 2, 3], qp_ccii_ 60 48 l9), (20, [0, 1, 2, 3, 4], qp_cciii_ 60 48 l20)]) (n := 1000) hT (qe_B1 (qp_ccii__ok h9) (qe_B1 (qp_cciii__ok h20) qe_B0)) rfl
def L_Le_listMoves_20 (K9 : Int32 → Int32 → qm_M → Option qm_R) : Nat → Int32 → Int32 → Int32 → qm_M → Option qm_R
  | 0, _, _, _, _ => none
  | n + 1, v2, v3, v4, m => X_Le_listMoves_20 F_Le_listMovesAt K9 (L_Le_listMoves_20 K9 n) v2 v3 v4 m
theorem lg_Le_listMoves_20 {kp : pm_K} {d : Nat} (hT : qe_G kp d (T_Le_listMoves F_Le_listMovesAt)) {K9 : Int32 → Int32 → qm_M → Option qm_R} (hK9 : ∀ (v2 : Int32) (v3 : Int32) (m : qm_M), qe_J kp md_Le_listMoves d (K9 v2 v3 m) 9 [(0, .ref 60), (1, .ref 48), (2, .int v2), (3, .int v3)] [] m) : ∀ (n : Nat) (v2 : Int32) (v3 : Int32) (v4 : Int32) (m : qm_M), qe_J kp md_Le_listMoves d (L_Le_listMoves_20 K9 n v2 v3 v4 m) 20 [(0, .ref 60), (1, .ref 48), (2, .int v2), (3, .int v3), (4, .int v4)] [] m
  | 0, v2, v3, v4, m => qe_none rfl
  | n + 1, v2, v3, v4, m => xg_Le_listMoves_20 hT hK9 (lg_Le_listMoves_20 hT hK9 n) v2 v3 v4 m
def X_Le_listMoves_9 (f_Le_listMovesAt : Int32 → Int32 → qm_M → Option qm_R) (l20 : Int32 → Int32 → Int32 → qm_M → Option qm_R) (v2 : Int32) (v3 : Int32) (m : qm_M) : Option qm_R :=
  if v3 < (m.1 60 4) then
    l20 v2 v3 (0 : Int32) m
  else
    qe_b (qm_in v2 13) (
    let m1 : qm_M := qm_sI m 63 (Int32.toNatClampNeg v2) (m.1 60 6)
    some (none, m1))
set_option maxRecDepth 100000 in
theorem xg_Le_listMoves_9 {kp : pm_K} {d : Nat} {f_Le_listMovesAt : Int32 → Int32 → qm_M → Option qm_R} {l20 : Int32 → Int32 → Int32 → qm_M → Option qm_R} (hT : qe_G kp d (T_Le_listMoves f_Le_listMovesAt)) (h20 : ∀ (v2 : Int32) (v3 : Int32) (v4 : Int32) (m : qm_M), qe_J kp md_Le_listMoves d (l20 v2 v3 v4 m) 20 [(0, .ref 60), (1, .ref 48), (2, .int v2), (3, .int v3), (4, .int v4)] [] m) (v2 : Int32) (v3 : Int32) (m : qm_M) : qe_J kp md_Le_listMoves d (X_Le_listMoves_9 f_Le_listMovesAt l20 v2 v3 m) 9 [(0, .ref 60), (1, .ref 48), (2, .int v2), (3, .int v3)] [] m := qe_run (B := [(20, [0, 1, 2, 3, 4], qp_cciii_ 60 48 l20)]) (n := 1000) hT (qe_B1 (qp_cciii__ok h20) qe_B0) rfl
def L_Le_listMoves_9 : Nat → Int32 → Int32 → qm_M → Option qm_R
  | 0, _, _, _ => none
  | n + 1, v2, v3, m => X_Le_listMoves_9 F_Le_listMovesAt (L_Le_listMoves_20 (L_Le_listMoves_9 n) 1000000) v2 v3 m
theorem lg_Le_listMoves_9 {kp : pm_K} {d : Nat} (hT : qe_G kp d (T_Le_listMoves F_Le_listMovesAt)) : ∀ (n : Nat) (v2 : Int32) (v3 : Int32) (m : qm_M), qe_J kp md_Le_listMoves d (L_Le_listMoves_9 n v2 v3 m) 9 [(0, .ref 60), (1, .ref 48), (2, .int v2), (3, .int v3)] [] m
  | 0, v2, v3, m => qe_none rfl
  | n + 1, v2, v3, m => xg_Le_listMoves_9 hT (lg_Le_listMoves_20 hT (lg_Le_listMoves_9 hT n) 1000000) v2 v3 m
def X_Le_listMoves_e (f_Le_listMovesAt : Int32 → Int32 → qm_M → Option qm_R) (l9 : Int32 → Int32 → qm_M → Option qm_R)  (m : qm_M) : Option qm_R :=
  let m1 : qm_M := qm_sI m 60 6 (0 : Int32)
  l9 (0 : Int32) (0 : Int32) m1
set_option maxRecDepth 100000 in
theorem xg_Le_listMoves_e {kp : pm_K} {d : Nat} {f_Le_listMovesAt : Int32 → Int32 → qm_M → Option qm_R} {l9 : Int32 → Int32 → qm_M → Option qm_R} (hT : qe_G kp d (T_Le_listMoves f_Le_listMovesAt)) (h9 : ∀ (v2 : Int32) (v3 : Int32) (m : qm_M), qe_J kp md_Le_listMoves d (l9 v2 v3 m) 9 [(0, .ref 60), (1, .ref 48), (2, .int v2), (3, .int v3)] [] m) (m : qm_M) : qe_J kp md_Le_listMoves d (X_Le_listMoves_e f_Le_listMovesAt l9 m) 0 [(0, .ref 60), (1, .ref 48)] [] m := qe_run (B := [(9, [0, 1, 2, 3], qp_ccii_ 60 48 l9)]) (n := 1000) hT (qe_B1 (qp_ccii__ok h9) qe_B0) rfl
def F_Le_listMoves (m : qm_M) : Option qm_R := X_Le_listMoves_e F_Le_listMovesAt (L_Le_listMoves_9 1000000) m
theorem fj_Le_listMoves {kp : pm_K} {d : Nat} (hT : qe_G kp d (T_Le_listMoves F_Le_listMovesAt)) (m : qm_M) : qe_J kp md_Le_listMoves d (F_Le_listMoves m) 0 [(0, .ref 60), (1, .ref 48)] [] m := xg_Le_listMoves_e hT (lg_Le_listMoves_9 hT 1000000) m
theorem fg_Le_listMoves {kp : pm_K} (d : Nat) : qe_GE kp (d + 5) (13, 0, 1, 0, qw_cc 60 48 F_Le_listMoves) := qe_entry (by decide +kernel) (qw_cc_ok (d := d + 4) rfl rfl (fj_Le_listMoves (qe_G1 (fg_Le_listMovesAt (d + 0)) qe_G0)))
/-! TurnField$Lengths.measured(I)I -/
noncomputable def T_Le_measured : qe_T := []
def X_Le_measured_30 (l7 : Int32 → Int32 → Int32 → Int32 → qm_M → Option qm_R) (l30 : Int32 → Int32 → Int32 → Int32 → Int32 → qm_M → Option qm_R) (v1 : Int32) (v2 : Int32) (v3 : Int32) (v4 : Int32) (v5 : Int32) (m : qm_M) : Option qm_R :=
  if ((qo_ishr v1 v4) &&& (1 : Int32)) = 0 then
    l7 v1 v2 v3 (v4 + (1 : Int32)) m
  else
    qe_b (qm_in (v4 + (1 : Int32)) 13) (
    if v5 < (m.1 63 (Int32.toNatClampNeg (v4 + (1 : Int32)))) then
      qe_b (qm_in v5 256) (
      qe_b (qm_in (v1 ^^^ (m.1 62 (Int32.toNatClampNeg v5))) 4096) (
      let x1 : Int32 := ((1 : Int32) + (m.1 61 (Int32.toNatClampNeg (v1 ^^^ (m.1 62 (Int32.toNatClampNeg v5))))))
      if (x1 &&& (1 : Int32)) = 0 then
        l30 v1 v2 (qo_max v3 x1) v4 (v5 + (1 : Int32)) m
      else
        if v2 = 0 then
          l30 v1 x1 v3 v4 (v5 + (1 : Int32)) m
        else
          l30 v1 (qo_min v2 x1) v3 v4 (v5 + (1 : Int32)) m))
    else
      l7 v1 v2 v3 (v4 + (1 : Int32)) m)
set_option maxRecDepth 100000 in
theorem xg_Le_measured_30 {kp : pm_K} {d : Nat} {l7 : Int32 → Int32 → Int32 → Int32 → qm_M → Option qm_R} {l30 : Int32 → Int32 → Int32 → Int32 → Int32 → qm_M → Option qm_R} (hT : qe_G kp d (T_Le_measured)) (h7 : ∀ (v1 : Int32) (v2 : Int32) (v3 : Int32) (v4 : Int32) (m : qm_M), qe_J kp md_Le_measured d (l7 v1 v2 v3 v4 m) 7 [(0, .ref 60), (1, .int v1), (2, .int v2), (3, .int v3), (4, .int v4)] [] m) (h30 : ∀ (v1 : Int32) (v2 : Int32) (v3 : Int32) (v4 : Int32) (v5 : Int32) (m : qm_M), qe_J kp md_Le_measured d (l30 v1 v2 v3 v4 v5 m) 30 [(0, .ref 60), (1, .int v1), (2, .int v2), (3, .int v3), (4, .int v4), (5, .int v5)] [] m) (v1 : Int32) (v2 : Int32) (v3 : Int32) (v4 : Int32) (v5 : Int32) (m : qm_M) : qe_J kp md_Le_measured d (X_Le_measured_30 l7 l30 v1 v2 v3 v4 v5 m) 30 [(0, .ref 60), (1, .int v1), (2, .int v2), (3, .int v3), (4, .int v4), (5, .int v5)] [] m := qe_run (B := [(7, [0, 1, 2, 3, 4], qp_ciiii_ 60 l7), (30, [0, 1, 2, 3, 4, 5], qp_ciiiii_ 60 l30)]) (n := 1000) hT (qe_B1 (qp_ciiii__ok h7) (qe_B1 (qp_ciiiii__ok h30) qe_B0)) rfl
def L_Le_measured_30 (K7 : Int32 → Int32 → Int32 → Int32 → qm_M → Option qm_R) : Nat → Int32 → Int32 → Int32 → Int32 → Int32 → qm_M → Option qm_R
  | 0, _, _, _, _, _, _ => none
  | n + 1, v1, v2, v3, v4, v5, m => X_Le_measured_30 K7 (L_Le_measured_30 K7 n) v1 v2 v3 v4 v5 m
theorem lg_Le_measured_30 {kp : pm_K} {d : Nat} (hT : qe_G kp d (T_Le_measured)) {K7 : Int32 → Int32 → Int32 → Int32 → qm_M → Option qm_R} (hK7 : ∀ (v1 : Int32) (v2 : Int32) (v3 : Int32) (v4 : Int32) (m : qm_M), qe_J kp md_Le_measured d (K7 v1 v2 v3 v4 m) 7 [(0, .ref 60), (1, .int v1), (2, .int v2), (3, .int v3), (4, .int v4)] [] m) : ∀ (n : Nat) (v1 : Int32) (v2 : Int32) (v3 : Int32) (v4 : Int32) (v5 : Int32) (m : qm_M), qe_J kp md_Le_measured d (L_Le_measured_30 K7 n v1 v2 v3 v4 v5 m) 30 [(0, .ref 60), (1, .int v1), (2, .int v2), (3, .int v3), (4, .int v4), (5, .int v5)] [] m
  | 0, v1, v2, v3, v4, v5, m => qe_none rfl
  | n + 1, v1, v2, v3, v4, v5, m => xg_Le_measured_30 hT hK7 (lg_Le_measured_30 hT hK7 n) v1 v2 v3 v4 v5 m
def X_Le_measured_7 (l30 : Int32 → Int32 → Int32 → Int32 → Int32 → qm_M → Option qm_R) (v1 : Int32) (v2 : Int32) (v3 : Int32) (v4 : Int32) (m : qm_M) : Option qm_R :=
  if v4 < ((m.1 60 4) * (m.1 60 5)) then
    qe_b (qm_in v4 13) (
    l30 v1 v2 v3 v4 (m.1 63 (Int32.toNatClampNeg v4)) m)
  else
    if 0 < v2 then
      some (some (.int v2), m)
    else
      some (some (.int v3), m)
set_option maxRecDepth 100000 in
theorem xg_Le_measured_7 {kp : pm_K} {d : Nat} {l30 : Int32 → Int32 → Int32 → Int32 → Int32 → qm_M → Option qm_R} (hT : qe_G kp d (T_Le_measured)) (h30 : ∀ (v1 : Int32) (v2 : Int32) (v3 : Int32) (v4 : Int32) (v5 : Int32) (m : qm_M), qe_J kp md_Le_measured d (l30 v1 v2 v3 v4 v5 m) 30 [(0, .ref 60), (1, .int v1), (2, .int v2), (3, .int v3), (4, .int v4), (5, .int v5)] [] m) (v1 : Int32) (v2 : Int32) (v3 : Int32) (v4 : Int32) (m : qm_M) : qe_J kp md_Le_measured d (X_Le_measured_7 l30 v1 v2 v3 v4 m) 7 [(0, .ref 60), (1, .int v1), (2, .int v2), (3, .int v3), (4, .int v4)] [] m := qe_run (B := [(30, [0, 1, 2, 3, 4, 5], qp_ciiiii_ 60 l30)]) (n := 1000) hT (qe_B1 (qp_ciiiii__ok h30) qe_B0) rfl
def L_Le_measured_7 : Nat → Int32 → Int32 → Int32 → Int32 → qm_M → Option qm_R
  | 0, _, _, _, _, _ => none
  | n + 1, v1, v2, v3, v4, m => X_Le_measured_7 (L_Le_measured_30 (L_Le_measured_7 n) 1000000) v1 v2 v3 v4 m
theorem lg_Le_measured_7 {kp : pm_K} {d : Nat} (hT : qe_G kp d (T_Le_measured)) : ∀ (n : Nat) (v1 : Int32) (v2 : Int32) (v3 : Int32) (v4 : Int32) (m : qm_M), qe_J kp md_Le_measured d (L_Le_measured_7 n v1 v2 v3 v4 m) 7 [(0, .ref 60), (1, .int v1), (2, .int v2), (3, .int v3), (4, .int v4)] [] m
  | 0, v1, v2, v3, v4, m => qe_none rfl
  | n + 1, v1, v2, v3, v4, m => xg_Le_measured_7 hT (lg_Le_measured_30 hT (lg_Le_measured_7 hT n) 1000000) v1 v2 v3 v4 m
def X_Le_measured_e (l7 : Int32 → Int32 → Int32 → Int32 → qm_M → Option qm_R) (v1 : Int32) (m : qm_M) : Option qm_R :=
  l7 v1 (0 : Int32) (0 : Int32) (0 : Int32) m
set_option maxRecDepth 100000 in
theorem xg_Le_measured_e {kp : pm_K} {d : Nat} {l7 : Int32 → Int32 → Int32 → Int32 → qm_M → Option qm_R} (hT : qe_G kp d (T_Le_measured)) (h7 : ∀ (v1 : Int32) (v2 : Int32) (v3 : Int32) (v4 : Int32) (m : qm_M), qe_J kp md_Le_measured d (l7 v1 v2 v3 v4 m) 7 [(0, .ref 60), (1, .int v1), (2, .int v2), (3, .int v3), (4, .int v4)] [] m) (v1 : Int32) (m : qm_M) : qe_J kp md_Le_measured d (X_Le_measured_e l7 v1 m) 0 [(0, .ref 60), (1, .int v1)] [] m := qe_run (B := [(7, [0, 1, 2, 3, 4], qp_ciiii_ 60 l7)]) (n := 1000) hT (qe_B1 (qp_ciiii__ok h7) qe_B0) rfl
def F_Le_measured (v1 : Int32) (m : qm_M) : Option qm_R := X_Le_measured_e (L_Le_measured_7 1000000) v1 m
theorem fj_Le_measured {kp : pm_K} {d : Nat} (hT : qe_G kp d (T_Le_measured)) (v1 : Int32) (m : qm_M) : qe_J kp md_Le_measured d (F_Le_measured v1 m) 0 [(0, .ref 60), (1, .int v1)] [] m := xg_Le_measured_e hT (lg_Le_measured_7 hT 1000000) v1 m
theorem fg_Le_measured {kp : pm_K} (d : Nat) : qe_GE kp (d + 1) (16, 0, 1, 1, qw_ci 60 F_Le_measured) := qe_entry (by decide +kernel) (qw_ci_ok (d := d + 0) rfl rfl (fj_Le_measured qe_G0))
/-! TurnField$Lengths.measure()V -/
noncomputable def T_Le_measure (f_Le_measured : Int32 → qm_M → Option qm_R) : qe_T := [(16, 0, 1, 1, qw_ci 60 f_Le_measured)]
def X_Le_measure_17 (f_Le_measured : Int32 → qm_M → Option qm_R) (l17 : Int32 → qm_M → Option qm_R) (v1 : Int32) (m : qm_M) : Option qm_R :=
  if v1 < (qo_ishl (1 : Int32) ((m.1 60 4) * (m.1 60 5))) then
    qe_rI (f_Le_measured v1 m) fun x1 m1 =>
    qe_b (qm_in v1 4096) (
    let m2 : qm_M := qm_sI m1 61 (Int32.toNatClampNeg v1) x1
    let m3 : qm_M := qm_sI m2 60 7 ((m2.1 60 7) + ((1 : Int32) - (x1 &&& (1 : Int32))))
    if (m3.1 60 8) < x1 then
      let m4 : qm_M := qm_sI m3 60 8 x1
      let m5 : qm_M := qm_sI m4 60 9 v1
      l17 (v1 + (1 : Int32)) m5
    else
      l17 (v1 + (1 : Int32)) m3)
  else
    some (none, m)
set_option maxRecDepth 100000 in
theorem xg_Le_measure_17 {kp : pm_K} {d : Nat} {f_Le_measured : Int32 → qm_M → Option qm_R} {l17 : Int32 → qm_M → Option qm_R} (hT : qe_G kp d (T_Le_measure f_Le_measured)) (h17 : ∀ (v1 : Int32) (m : qm_M), qe_J kp md_Le_measure d (l17 v1 m) 17 [(0, .ref 60), (1, .int v1)] [] m) (v1 : Int32) (m : qm_M) : qe_J kp md_Le_measure d (X_Le_measure_17 f_Le_measured l17 v1 m) 17 [(0, .ref 60), (1, .int v1)] [] m := qe_run (B := [(17, [0, 1], qp_ci_ 60 l17)]) (n := 1000) hT (qe_B1 (qp_ci__ok h17) qe_B0) rfl
def L_Le_measure_17 : Nat → Int32 → qm_M → Option qm_R
  | 0, _, _ => none
  | n + 1, v1, m => X_Le_measure_17 F_Le_measured (L_Le_measure_17 n) v1 m
theorem lg_Le_measure_17 {kp : pm_K} {d : Nat} (hT : qe_G kp d (T_Le_measure F_Le_measured)) : ∀ (n : Nat) (v1 : Int32) (m : qm_M), qe_J kp md_Le_measure d (L_Le_measure_17 n v1 m) 17 [(0, .ref 60), (1, .int v1)] [] m
  | 0, v1, m => qe_none rfl
  | n + 1, v1, m => xg_Le_measure_17 hT (lg_Le_measure_17 hT n) v1 m
def X_Le_measure_e (f_Le_measured : Int32 → qm_M → Option qm_R) (l17 : Int32 → qm_M → Option qm_R)  (m : qm_M) : Option qm_R :=
  let m1 : qm_M := qm_sI m 60 7 (0 : Int32)
  let m2 : qm_M := qm_sI m1 60 8 (0 : Int32)
  let m3 : qm_M := qm_sI m2 60 9 (0 : Int32)
  l17 (0 : Int32) m3
set_option maxRecDepth 100000 in
theorem xg_Le_measure_e {kp : pm_K} {d : Nat} {f_Le_measured : Int32 → qm_M → Option qm_R} {l17 : Int32 → qm_M → Option qm_R} (hT : qe_G kp d (T_Le_measure f_Le_measured)) (h17 : ∀ (v1 : Int32) (m : qm_M), qe_J kp md_Le_measure d (l17 v1 m) 17 [(0, .ref 60), (1, .int v1)] [] m) (m : qm_M) : qe_J kp md_Le_measure d (X_Le_measure_e f_Le_measured l17 m) 0 [(0, .ref 60)] [] m := qe_run (B := [(17, [0, 1], qp_ci_ 60 l17)]) (n := 1000) hT (qe_B1 (qp_ci__ok h17) qe_B0) rfl
def F_Le_measure (m : qm_M) : Option qm_R := X_Le_measure_e F_Le_measured (L_Le_measure_17 1000000) m
theorem fj_Le_measure {kp : pm_K} {d : Nat} (hT : qe_G kp d (T_Le_measure F_Le_measured)) (m : qm_M) : qe_J kp md_Le_measure d (F_Le_measure m) 0 [(0, .ref 60)] [] m := xg_Le_measure_e hT (lg_Le_measure_17 hT 1000000) m
theorem fg_Le_measure {kp : pm_K} (d : Nat) : qe_GE kp (d + 2) (15, 0, 1, 0, qw_c 60 F_Le_measure) := qe_entry (by decide +kernel) (qw_c_ok (d := d + 1) rfl rfl (fj_Le_measure (qe_G1 (fg_Le_measured (d + 0)) qe_G0)))
/-! TurnField$Lengths.tune(LTurnField$Position;LTurnField$Play;)V -/
noncomputable def T_Le_tune (f_Ps_rulesKey : Nat → qm_M → Option qm_R) (f_Le_canHold : qm_M → Option qm_R) (f_Pl_tune : qm_M → Option qm_R) (f_Le_listMoves : qm_M → Option qm_R) (f_Le_measure : qm_M → Option qm_R) : qe_T := [(90, 0, 5, 1, qw_r f_Ps_rulesKey), (11, 1, 0, 1, qw_c 1 f_Le_canHold), (49, 0, 3, 0, qw_cc 48 1 f_Pl_tune), (13, 0, 1, 0, qw_cc 60 48 f_Le_listMoves), (15, 0, 1, 0, qw_c 60 f_Le_measure)]
def X_Le_tune_e (f_Ps_rulesKey : Nat → qm_M → Option qm_R) (f_Le_canHold : qm_M → Option qm_R) (f_Pl_tune : qm_M → Option qm_R) (f_Le_listMoves : qm_M → Option qm_R) (f_Le_measure : qm_M → Option qm_R)  (m : qm_M) : Option qm_R :=
  qe_rI (f_Ps_rulesKey 1 m) fun x1 m1 =>
  if (m1.1 60 3) = x1 then
    some (none, m1)
  else
    qe_rI (f_Le_canHold m1) fun x2 m2 =>
    if x2 = 0 then
      some (none, m2)
    else
      let m3 : qm_M := qm_sI m2 60 3 x1
      let m4 : qm_M := qm_sI m3 60 4 (m3.1 1 0)
      let m5 : qm_M := qm_sI m4 60 5 (m4.1 1 1)
      qe_rV (f_Pl_tune m5) fun m6 =>
      qe_rV (f_Le_listMoves m6) fun m7 =>
      qe_rV (f_Le_measure m7) fun m8 =>
      some (none, m8)
set_option maxRecDepth 100000 in
theorem xg_Le_tune_e {kp : pm_K} {d : Nat} {f_Ps_rulesKey : Nat → qm_M → Option qm_R} {f_Le_canHold : qm_M → Option qm_R} {f_Pl_tune : qm_M → Option qm_R} {f_Le_listMoves : qm_M → Option qm_R} {f_Le_measure : qm_M → Option qm_R} (hT : qe_G kp d (T_Le_tune f_Ps_rulesKey f_Le_canHold f_Pl_tune f_Le_listMoves f_Le_measure)) (m : qm_M) : qe_J kp md_Le_tune d (X_Le_tune_e f_Ps_rulesKey f_Le_canHold f_Pl_tune f_Le_listMoves f_Le_measure m) 0 [(0, .ref 60), (1, .ref 1), (2, .ref 48)] [] m := qe_run (B := []) (n := 1000) hT qe_B0 rfl
def F_Le_tune (m : qm_M) : Option qm_R := X_Le_tune_e F_Ps_rulesKey F_Le_canHold F_Pl_tune F_Le_listMoves F_Le_measure m
theorem fj_Le_tune {kp : pm_K} {d : Nat} (hT : qe_G kp d (T_Le_tune F_Ps_rulesKey F_Le_canHold F_Pl_tune F_Le_listMoves F_Le_measure)) (m : qm_M) : qe_J kp md_Le_tune d (F_Le_tune m) 0 [(0, .ref 60), (1, .ref 1), (2, .ref 48)] [] m := xg_Le_tune_e hT m
theorem fg_Le_tune {kp : pm_K} (d : Nat) : qe_GE kp (d + 35) (12, 0, 1, 0, qw_ccc 60 1 48 F_Le_tune) := qe_entry (by decide +kernel) (qw_ccc_ok (d := d + 34) rfl rfl (fj_Le_tune (qe_G1 (fg_Ps_rulesKey (d + 33)) (qe_G1 (fg_Le_canHold (d + 33)) (qe_G1 (fg_Pl_tune (d + 0)) (qe_G1 (fg_Le_listMoves (d + 29)) (qe_G1 (fg_Le_measure (d + 32)) qe_G0)))))))
/-! TurnField$Lengths.spread(I)J -/
noncomputable def T_Le_spread : qe_T := []
def X_Le_spread_5 (l5 : Int32 → Int64 → Int32 → qm_M → Option qm_R) (v1 : Int32) (v2 : Int64) (v4 : Int32) (m : qm_M) : Option qm_R :=
  if v4 < (m.1 60 4) then
    let x1 : Int64 := (Int32.toInt64 ((qo_ishr v1 ((m.1 60 5) * v4)) &&& ((qo_ishl (1 : Int32) (m.1 60 5)) - (1 : Int32))))
    l5 v1 (v2 ||| (qo_lshl x1 ((6 : Int32) * v4))) (v4 + (1 : Int32)) m
  else
    some (some (.long v2), m)
set_option maxRecDepth 100000 in
theorem xg_Le_spread_5 {kp : pm_K} {d : Nat} {l5 : Int32 → Int64 → Int32 → qm_M → Option qm_R} (hT : qe_G kp d (T_Le_spread)) (h5 : ∀ (v1 : Int32) (v2 : Int64) (v4 : Int32) (m : qm_M), qe_J kp md_Le_spread d (l5 v1 v2 v4 m) 5 [(0, .ref 60), (1, .int v1), (2, .long v2), (4, .int v4)] [] m) (v1 : Int32) (v2 : Int64) (v4 : Int32) (m : qm_M) : qe_J kp md_Le_spread d (X_Le_spread_5 l5 v1 v2 v4 m) 5 [(0, .ref 60), (1, .int v1), (2, .long v2), (4, .int v4)] [] m := qe_run (B := [(5, [0, 1, 2, 4], qp_cili_ 60 l5)]) (n := 1000) hT (qe_B1 (qp_cili__ok h5) qe_B0) rfl
def L_Le_spread_5 : Nat → Int32 → Int64 → Int32 → qm_M → Option qm_R
  | 0, _, _, _, _ => none
  | n + 1, v1, v2, v4, m => X_Le_spread_5 (L_Le_spread_5 n) v1 v2 v4 m
theorem lg_Le_spread_5 {kp : pm_K} {d : Nat} (hT : qe_G kp d (T_Le_spread)) : ∀ (n : Nat) (v1 : Int32) (v2 : Int64) (v4 : Int32) (m : qm_M), qe_J kp md_Le_spread d (L_Le_spread_5 n v1 v2 v4 m) 5 [(0, .ref 60), (1, .int v1), (2, .long v2), (4, .int v4)] [] m
  | 0, v1, v2, v4, m => qe_none rfl
  | n + 1, v1, v2, v4, m => xg_Le_spread_5 hT (lg_Le_spread_5 hT n) v1 v2 v4 m
def X_Le_spread_e (l5 : Int32 → Int64 → Int32 → qm_M → Option qm_R) (v1 : Int32) (m : qm_M) : Option qm_R :=
  l5 v1 (0 : Int64) (0 : Int32) m
set_option maxRecDepth 100000 in
theorem xg_Le_spread_e {kp : pm_K} {d : Nat} {l5 : Int32 → Int64 → Int32 → qm_M → Option qm_R} (hT : qe_G kp d (T_Le_spread)) (h5 : ∀ (v1 : Int32) (v2 : Int64) (v4 : Int32) (m : qm_M), qe_J kp md_Le_spread d (l5 v1 v2 v4 m) 5 [(0, .ref 60), (1, .int v1), (2, .long v2), (4, .int v4)] [] m) (v1 : Int32) (m : qm_M) : qe_J kp md_Le_spread d (X_Le_spread_e l5 v1 m) 0 [(0, .ref 60), (1, .int v1)] [] m := qe_run (B := [(5, [0, 1, 2, 4], qp_cili_ 60 l5)]) (n := 1000) hT (qe_B1 (qp_cili__ok h5) qe_B0) rfl
def F_Le_spread (v1 : Int32) (m : qm_M) : Option qm_R := X_Le_spread_e (L_Le_spread_5 1000000) v1 m
theorem fj_Le_spread {kp : pm_K} {d : Nat} (hT : qe_G kp d (T_Le_spread)) (v1 : Int32) (m : qm_M) : qe_J kp md_Le_spread d (F_Le_spread v1 m) 0 [(0, .ref 60), (1, .int v1)] [] m := xg_Le_spread_e hT (lg_Le_spread_5 hT 1000000) v1 m
theorem fg_Le_spread {kp : pm_K} (d : Nat) : qe_GE kp (d + 1) (18, 0, 1, 2, qw_ci 60 F_Le_spread) := qe_entry (by decide +kernel) (qw_ci_ok (d := d + 0) rfl rfl (fj_Le_spread qe_G0))
/-! TurnField$Lengths.lengthOf(LTurnField$Position;)I -/
noncomputable def T_Le_lengthOf (f_Le_packed : Int64 → qm_M → Option qm_R) : qe_T := [(17, 0, 1, 1, qw_cl 60 f_Le_packed)]
def X_Le_lengthOf_e (f_Le_packed : Int64 → qm_M → Option qm_R)  (m : qm_M) : Option qm_R :=
  qe_rI (f_Le_packed (m.2 1 6) m) fun x1 m1 =>
  qe_b (qm_in (x1 &&& ((4096 : Int32) - (1 : Int32))) 4096) (
  some (some (.int (m1.1 61 (Int32.toNatClampNeg (x1 &&& ((4096 : Int32) - (1 : Int32)))))), m1))
set_option maxRecDepth 100000 in
theorem xg_Le_lengthOf_e {kp : pm_K} {d : Nat} {f_Le_packed : Int64 → qm_M → Option qm_R} (hT : qe_G kp d (T_Le_lengthOf f_Le_packed)) (m : qm_M) : qe_J kp md_Le_lengthOf d (X_Le_lengthOf_e f_Le_packed m) 0 [(0, .ref 60), (1, .ref 1)] [] m := qe_run (B := []) (n := 1000) hT qe_B0 rfl
def F_Le_lengthOf (m : qm_M) : Option qm_R := X_Le_lengthOf_e F_Le_packed m
theorem fj_Le_lengthOf {kp : pm_K} {d : Nat} (hT : qe_G kp d (T_Le_lengthOf F_Le_packed)) (m : qm_M) : qe_J kp md_Le_lengthOf d (F_Le_lengthOf m) 0 [(0, .ref 60), (1, .ref 1)] [] m := xg_Le_lengthOf_e hT m
theorem fg_Le_lengthOf {kp : pm_K} (d : Nat) : qe_GE kp (d + 2) (19, 0, 1, 1, qw_cc 60 1 F_Le_lengthOf) := qe_entry (by decide +kernel) (qw_cc_ok (d := d + 1) rfl rfl (fj_Le_lengthOf (qe_G1 (fg_Le_packed (d + 0)) qe_G0)))
/-! TurnField$Play.ruleOf(I)LTurnField$Rule; -/
noncomputable def T_Pl_ruleOf : qe_T := []
def X_Pl_ruleOf_e (v1 : Int32) (m : qm_M) : Option qm_R :=
  if v1 = 0 then
    some (some (.ref 49), m)
  else
    some (some (.ref 54), m)
set_option maxRecDepth 100000 in
theorem xg_Pl_ruleOf_e {kp : pm_K} {d : Nat} (hT : qe_G kp d (T_Pl_ruleOf)) (v1 : Int32) (m : qm_M) : qe_J kp md_Pl_ruleOf d (X_Pl_ruleOf_e v1 m) 0 [(0, .ref 48), (1, .int v1)] [] m := qe_run (B := []) (n := 1000) hT qe_B0 rfl
def F_Pl_ruleOf (v1 : Int32) (m : qm_M) : Option qm_R := X_Pl_ruleOf_e v1 m
theorem fj_Pl_ruleOf {kp : pm_K} {d : Nat} (hT : qe_G kp d (T_Pl_ruleOf)) (v1 : Int32) (m : qm_M) : qe_J kp md_Pl_ruleOf d (F_Pl_ruleOf v1 m) 0 [(0, .ref 48), (1, .int v1)] [] m := xg_Pl_ruleOf_e hT v1 m
theorem fg_Pl_ruleOf {kp : pm_K} (d : Nat) : qe_GE kp (d + 1) (53, 0, 3, 3, qw_ci 48 F_Pl_ruleOf) := qe_entry (by decide +kernel) (qw_ci_ok (d := d + 0) rfl rfl (fj_Pl_ruleOf qe_G0))
/-! TurnField$Play.boardWorth(LTurnField$Position;)I -/
noncomputable def T_Pl_boardWorth (f_Ps_headsOfRow : Nat → Int32 → qm_M → Option qm_R) (f_Pl_effectOf : Int32 → Int32 → qm_M → Option qm_R) : qe_T := [(87, 0, 5, 1, qw_ri f_Ps_headsOfRow), (52, 0, 3, 1, qw_cii 48 f_Pl_effectOf)]
def X_Pl_boardWorth_4 (f_Ps_headsOfRow : Nat → Int32 → qm_M → Option qm_R) (f_Pl_effectOf : Int32 → Int32 → qm_M → Option qm_R) (l4 : Int32 → Int32 → qm_M → Option qm_R) (v2 : Int32) (v3 : Int32) (m : qm_M) : Option qm_R :=
  if v3 < (m.1 1 0) then
    qe_rI (f_Ps_headsOfRow 1 v3 m) fun x1 m1 =>
    qe_rI (f_Pl_effectOf (qo_ishl (1 : Int32) v3) x1 m1) fun x2 m2 =>
    l4 (v2 ^^^ x2) (v3 + (1 : Int32)) m2
  else
    some (some (.int v2), m)
set_option maxRecDepth 100000 in
theorem xg_Pl_boardWorth_4 {kp : pm_K} {d : Nat} {f_Ps_headsOfRow : Nat → Int32 → qm_M → Option qm_R} {f_Pl_effectOf : Int32 → Int32 → qm_M → Option qm_R} {l4 : Int32 → Int32 → qm_M → Option qm_R} (hT : qe_G kp d (T_Pl_boardWorth f_Ps_headsOfRow f_Pl_effectOf)) (h4 : ∀ (v2 : Int32) (v3 : Int32) (m : qm_M), qe_J kp md_Pl_boardWorth d (l4 v2 v3 m) 4 [(0, .ref 48), (1, .ref 1), (2, .int v2), (3, .int v3)] [] m) (v2 : Int32) (v3 : Int32) (m : qm_M) : qe_J kp md_Pl_boardWorth d (X_Pl_boardWorth_4 f_Ps_headsOfRow f_Pl_effectOf l4 v2 v3 m) 4 [(0, .ref 48), (1, .ref 1), (2, .int v2), (3, .int v3)] [] m := qe_run (B := [(4, [0, 1, 2, 3], qp_ccii_ 48 1 l4)]) (n := 1000) hT (qe_B1 (qp_ccii__ok h4) qe_B0) rfl
def L_Pl_boardWorth_4 : Nat → Int32 → Int32 → qm_M → Option qm_R
  | 0, _, _, _ => none
  | n + 1, v2, v3, m => X_Pl_boardWorth_4 F_Ps_headsOfRow F_Pl_effectOf (L_Pl_boardWorth_4 n) v2 v3 m
theorem lg_Pl_boardWorth_4 {kp : pm_K} {d : Nat} (hT : qe_G kp d (T_Pl_boardWorth F_Ps_headsOfRow F_Pl_effectOf)) : ∀ (n : Nat) (v2 : Int32) (v3 : Int32) (m : qm_M), qe_J kp md_Pl_boardWorth d (L_Pl_boardWorth_4 n v2 v3 m) 4 [(0, .ref 48), (1, .ref 1), (2, .int v2), (3, .int v3)] [] m
  | 0, v2, v3, m => qe_none rfl
  | n + 1, v2, v3, m => xg_Pl_boardWorth_4 hT (lg_Pl_boardWorth_4 hT n) v2 v3 m
def X_Pl_boardWorth_e (f_Ps_headsOfRow : Nat → Int32 → qm_M → Option qm_R) (f_Pl_effectOf : Int32 → Int32 → qm_M → Option qm_R) (l4 : Int32 → Int32 → qm_M → Option qm_R)  (m : qm_M) : Option qm_R :=
  l4 (0 : Int32) (0 : Int32) m
set_option maxRecDepth 100000 in
theorem xg_Pl_boardWorth_e {kp : pm_K} {d : Nat} {f_Ps_headsOfRow : Nat → Int32 → qm_M → Option qm_R} {f_Pl_effectOf : Int32 → Int32 → qm_M → Option qm_R} {l4 : Int32 → Int32 → qm_M → Option qm_R} (hT : qe_G kp d (T_Pl_boardWorth f_Ps_headsOfRow f_Pl_effectOf)) (h4 : ∀ (v2 : Int32) (v3 : Int32) (m : qm_M), qe_J kp md_Pl_boardWorth d (l4 v2 v3 m) 4 [(0, .ref 48), (1, .ref 1), (2, .int v2), (3, .int v3)] [] m) (m : qm_M) : qe_J kp md_Pl_boardWorth d (X_Pl_boardWorth_e f_Ps_headsOfRow f_Pl_effectOf l4 m) 0 [(0, .ref 48), (1, .ref 1)] [] m := qe_run (B := [(4, [0, 1, 2, 3], qp_ccii_ 48 1 l4)]) (n := 1000) hT (qe_B1 (qp_ccii__ok h4) qe_B0) rfl
def F_Pl_boardWorth (m : qm_M) : Option qm_R := X_Pl_boardWorth_e F_Ps_headsOfRow F_Pl_effectOf (L_Pl_boardWorth_4 1000000) m
theorem fj_Pl_boardWorth {kp : pm_K} {d : Nat} (hT : qe_G kp d (T_Pl_boardWorth F_Ps_headsOfRow F_Pl_effectOf)) (m : qm_M) : qe_J kp md_Pl_boardWorth d (F_Pl_boardWorth m) 0 [(0, .ref 48), (1, .ref 1)] [] m := xg_Pl_boardWorth_e hT (lg_Pl_boardWorth_4 hT 1000000) m
theorem fg_Pl_boardWorth {kp : pm_K} (d : Nat) : qe_GE kp (d + 2) (54, 0, 3, 1, qw_cc 48 1 F_Pl_boardWorth) := qe_entry (by decide +kernel) (qw_cc_ok (d := d + 1) rfl rfl (fj_Pl_boardWorth (qe_G1 (fg_Ps_headsOfRow (d + 0)) (qe_G1 (fg_Pl_effectOf (d + 0)) qe_G0))))
/-! TurnField$Play.greatestOf(I)I -/
noncomputable def T_Pl_greatestOf : qe_T := []
def X_Pl_greatestOf_4 (l4 : Int32 → Int32 → Int32 → qm_M → Option qm_R) (v0 : Int32) (v1 : Int32) (v2 : Int32) (m : qm_M) : Option qm_R :=
  if v2 < (6 : Int32) then
    if ((qo_ishr v0 v2) &&& (1 : Int32)) = 0 then
      l4 v0 v1 (v2 + (1 : Int32)) m
    else
      l4 v0 v2 (v2 + (1 : Int32)) m
  else
    some (some (.int v1), m)
set_option maxRecDepth 100000 in
theorem xg_Pl_greatestOf_4 {kp : pm_K} {d : Nat} {l4 : Int32 → Int32 → Int32 → qm_M → Option qm_R} (hT : qe_G kp d (T_Pl_greatestOf)) (h4 : ∀ (v0 : Int32) (v1 : Int32) (v2 : Int32) (m : qm_M), qe_J kp md_Pl_greatestOf d (l4 v0 v1 v2 m) 4 [(0, .int v0), (1, .int v1), (2, .int v2)] [] m) (v0 : Int32) (v1 : Int32) (v2 : Int32) (m : qm_M) : qe_J kp md_Pl_greatestOf d (X_Pl_greatestOf_4 l4 v0 v1 v2 m) 4 [(0, .int v0), (1, .int v1), (2, .int v2)] [] m := qe_run (B := [(4, [0, 1, 2], qp_iii_ l4)]) (n := 1000) hT (qe_B1 (qp_iii__ok h4) qe_B0) rfl
def L_Pl_greatestOf_4 : Nat → Int32 → Int32 → Int32 → qm_M → Option qm_R
  | 0, _, _, _, _ => none
  | n + 1, v0, v1, v2, m => X_Pl_greatestOf_4 (L_Pl_greatestOf_4 n) v0 v1 v2 m
theorem lg_Pl_greatestOf_4 {kp : pm_K} {d : Nat} (hT : qe_G kp d (T_Pl_greatestOf)) : ∀ (n : Nat) (v0 : Int32) (v1 : Int32) (v2 : Int32) (m : qm_M), qe_J kp md_Pl_greatestOf d (L_Pl_greatestOf_4 n v0 v1 v2 m) 4 [(0, .int v0), (1, .int v1), (2, .int v2)] [] m
  | 0, v0, v1, v2, m => qe_none rfl
  | n + 1, v0, v1, v2, m => xg_Pl_greatestOf_4 hT (lg_Pl_greatestOf_4 hT n) v0 v1 v2 m
def X_Pl_greatestOf_e (l4 : Int32 → Int32 → Int32 → qm_M → Option qm_R) (v0 : Int32) (m : qm_M) : Option qm_R :=
  l4 v0 (0 : Int32) (0 : Int32) m
set_option maxRecDepth 100000 in
theorem xg_Pl_greatestOf_e {kp : pm_K} {d : Nat} {l4 : Int32 → Int32 → Int32 → qm_M → Option qm_R} (hT : qe_G kp d (T_Pl_greatestOf)) (h4 : ∀ (v0 : Int32) (v1 : Int32) (v2 : Int32) (m : qm_M), qe_J kp md_Pl_greatestOf d (l4 v0 v1 v2 m) 4 [(0, .int v0), (1, .int v1), (2, .int v2)] [] m) (v0 : Int32) (m : qm_M) : qe_J kp md_Pl_greatestOf d (X_Pl_greatestOf_e l4 v0 m) 0 [(0, .int v0)] [] m := qe_run (B := [(4, [0, 1, 2], qp_iii_ l4)]) (n := 1000) hT (qe_B1 (qp_iii__ok h4) qe_B0) rfl
def F_Pl_greatestOf (v0 : Int32) (m : qm_M) : Option qm_R := X_Pl_greatestOf_e (L_Pl_greatestOf_4 1000000) v0 m
theorem fj_Pl_greatestOf {kp : pm_K} {d : Nat} (hT : qe_G kp d (T_Pl_greatestOf)) (v0 : Int32) (m : qm_M) : qe_J kp md_Pl_greatestOf d (F_Pl_greatestOf v0 m) 0 [(0, .int v0)] [] m := xg_Pl_greatestOf_e hT (lg_Pl_greatestOf_4 hT 1000000) v0 m
theorem fg_Pl_greatestOf {kp : pm_K} (d : Nat) : qe_GE kp (d + 1) (57, 1, 0, 1, qw_i F_Pl_greatestOf) := qe_entry (by decide +kernel) (qw_i_ok (d := d + 0) rfl rfl (fj_Pl_greatestOf qe_G0))
/-! TurnField$Play.mayBe(LTurnField$Position;II)Z -/
noncomputable def T_Pl_mayBe (f_Pl_areSets : Int32 → Int32 → qm_M → Option qm_R) (f_Pl_greatestOf : Int32 → qm_M → Option qm_R) (f_Ps_showsHeads : Nat → Int32 → Int32 → qm_M → Option qm_R) : qe_T := [(55, 0, 3, 1, qw_cii 48 f_Pl_areSets), (57, 1, 0, 1, qw_i f_Pl_greatestOf), (85, 0, 5, 1, qw_rii f_Ps_showsHeads)]
def X_Pl_mayBe_e (f_Pl_areSets : Int32 → Int32 → qm_M → Option qm_R) (f_Pl_greatestOf : Int32 → qm_M → Option qm_R) (f_Ps_showsHeads : Nat → Int32 → Int32 → qm_M → Option qm_R) (v2 : Int32) (v3 : Int32) (m : qm_M) : Option qm_R :=
  qe_rI (f_Pl_areSets v2 v3 m) fun x1 m1 =>
  if x1 = 0 then
    some (some (.int (0 : Int32)), m1)
  else
    qe_rI (f_Pl_greatestOf v2 m1) fun x2 m2 =>
    qe_rI (f_Pl_greatestOf v3 m2) fun x3 m3 =>
    qe_rI (f_Ps_showsHeads 1 x2 x3 m3) fun x4 m4 =>
    qe_b (qm_ni .boolean x4) (
    some (some (.int x4), m4))
set_option maxRecDepth 100000 in
theorem xg_Pl_mayBe_e {kp : pm_K} {d : Nat} {f_Pl_areSets : Int32 → Int32 → qm_M → Option qm_R} {f_Pl_greatestOf : Int32 → qm_M → Option qm_R} {f_Ps_showsHeads : Nat → Int32 → Int32 → qm_M → Option qm_R} (hT : qe_G kp d (T_Pl_mayBe f_Pl_areSets f_Pl_greatestOf f_Ps_showsHeads)) (v2 : Int32) (v3 : Int32) (m : qm_M) : qe_J kp md_Pl_mayBe d (X_Pl_mayBe_e f_Pl_areSets f_Pl_greatestOf f_Ps_showsHeads v2 v3 m) 0 [(0, .ref 48), (1, .ref 1), (2, .int v2), (3, .int v3)] [] m := qe_run (B := []) (n := 1000) hT qe_B0 rfl
def F_Pl_mayBe (v2 : Int32) (v3 : Int32) (m : qm_M) : Option qm_R := X_Pl_mayBe_e F_Pl_areSets F_Pl_greatestOf F_Ps_showsHeads v2 v3 m
theorem fj_Pl_mayBe {kp : pm_K} {d : Nat} (hT : qe_G kp d (T_Pl_mayBe F_Pl_areSets F_Pl_greatestOf F_Ps_showsHeads)) (v2 : Int32) (v3 : Int32) (m : qm_M) : qe_J kp md_Pl_mayBe d (F_Pl_mayBe v2 v3 m) 0 [(0, .ref 48), (1, .ref 1), (2, .int v2), (3, .int v3)] [] m := xg_Pl_mayBe_e hT v2 v3 m
theorem fg_Pl_mayBe {kp : pm_K} (d : Nat) : qe_GE kp (d + 4) (56, 0, 3, 1, qw_ccii 48 1 F_Pl_mayBe) := qe_entry (by decide +kernel) (qw_ccii_ok (d := d + 3) rfl rfl (fj_Pl_mayBe (qe_G1 (fg_Pl_areSets (d + 0)) (qe_G1 (fg_Pl_greatestOf (d + 2)) (qe_G1 (fg_Ps_showsHeads (d + 1)) qe_G0)))))
/-! TurnField$Play.findAt(IIII)Z -/
noncomputable def T_Pl_findAt (f_Ru_allows : Nat → Int32 → qm_M → Option qm_R) (f_Pl_effectOf : Int32 → Int32 → qm_M → Option qm_R) : qe_T := [(99, 0, 6, 1, qw_ri f_Ru_allows), (52, 0, 3, 1, qw_cii 48 f_Pl_effectOf)]
def X_Pl_findAt_56 (f_Ru_allows : Nat → Int32 → qm_M → Option qm_R) (f_Pl_effectOf : Int32 → Int32 → qm_M → Option qm_R) (l14 : Int32 → Int32 → Int32 → Int32 → Int32 → Int32 → qm_M → Option qm_R) (v1 : Int32) (v2 : Int32) (v3 : Int32) (v4 : Int32) (v5 : Int32) (v6 : Int32) (s0 : Int32) (m : qm_M) : Option qm_R :=
  if s0 = 0 then
    l14 v1 v2 v3 v4 v5 (v6 + (1 : Int32)) m
  else
    qe_rI (f_Ru_allows 54 v6 m) fun x1 m1 =>
    if x1 = 0 then
      l14 v1 v2 v3 v4 v5 (v6 + (1 : Int32)) m1
    else
      if (m1.1 48 6) = v4 then
        let m2 : qm_M := qm_sI m1 48 4 v5
        let m3 : qm_M := qm_sI m2 48 5 v6
        some (some (.int (1 : Int32)), m3)
      else
        let m4 : qm_M := qm_sI m1 48 6 ((m1.1 48 6) + (1 : Int32))
        l14 v1 v2 v3 v4 v5 (v6 + (1 : Int32)) m4
set_option maxRecDepth 100000 in
theorem xg_Pl_findAt_56 {kp : pm_K} {d : Nat} {f_Ru_allows : Nat → Int32 → qm_M → Option qm_R} {f_Pl_effectOf : Int32 → Int32 → qm_M → Option qm_R} {l14 : Int32 → Int32 → Int32 → Int32 → Int32 → Int32 → qm_M → Option qm_R} (hT : qe_G kp d (T_Pl_findAt f_Ru_allows f_Pl_effectOf)) (h14 : ∀ (v1 : Int32) (v2 : Int32) (v3 : Int32) (v4 : Int32) (v5 : Int32) (v6 : Int32) (m : qm_M), qe_J kp md_Pl_findAt d (l14 v1 v2 v3 v4 v5 v6 m) 14 [(0, .ref 48), (1, .int v1), (2, .int v2), (3, .int v3), (4, .int v4), (5, .int v5), (6, .int v6)] [] m) (v1 : Int32) (v2 : Int32) (v3 : Int32) (v4 : Int32) (v5 : Int32) (v6 : Int32) (s0 : Int32) (m : qm_M) : qe_J kp md_Pl_findAt d (X_Pl_findAt_56 f_Ru_allows f_Pl_effectOf l14 v1 v2 v3 v4 v5 v6 s0 m) 56 [(0, .ref 48), (1, .int v1), (2, .int v2), (3, .int v3), (4, .int v4), (5, .int v5), (6, .int v6)] [.int s0] m := qe_run (B := [(14, [0, 1, 2, 3, 4, 5, 6], qp_ciiiiii_ 48 l14)]) (n := 1000) hT (qe_B1 (qp_ciiiiii__ok h14) qe_B0) rfl
def L_Pl_findAt_56 (K3 : Int32 → Int32 → Int32 → Int32 → Int32 → qm_M → Option qm_R) (K14 : Int32 → Int32 → Int32 → Int32 → Int32 → Int32 → qm_M → Option qm_R) (v1 : Int32) (v2 : Int32) (v3 : Int32) (v4 : Int32) (v5 : Int32) (v6 : Int32) (s0 : Int32) (m : qm_M) : Option qm_R := X_Pl_findAt_56 F_Ru_allows F_Pl_effectOf K14 v1 v2 v3 v4 v5 v6 s0 m
theorem lg_Pl_findAt_56 {kp : pm_K} {d : Nat} (hT : qe_G kp d (T_Pl_findAt F_Ru_allows F_Pl_effectOf)) {K3 : Int32 → Int32 → Int32 → Int32 → Int32 → qm_M → Option qm_R} (hK3 : ∀ (v1 : Int32) (v2 : Int32) (v3 : Int32) (v4 : Int32) (v5 : Int32) (m : qm_M), qe_J kp md_Pl_findAt d (K3 v1 v2 v3 v4 v5 m) 3 [(0, .ref 48), (1, .int v1), (2, .int v2), (3, .int v3), (4, .int v4), (5, .int v5)] [] m) {K14 : Int32 → Int32 → Int32 → Int32 → Int32 → Int32 → qm_M → Option qm_R} (hK14 : ∀ (v1 : Int32) (v2 : Int32) (v3 : Int32) (v4 : Int32) (v5 : Int32) (v6 : Int32) (m : qm_M), qe_J kp md_Pl_findAt d (K14 v1 v2 v3 v4 v5 v6 m) 14 [(0, .ref 48), (1, .int v1), (2, .int v2), (3, .int v3), (4, .int v4), (5, .int v5), (6, .int v6)] [] m) (v1 : Int32) (v2 : Int32) (v3 : Int32) (v4 : Int32) (v5 : Int32) (v6 : Int32) (s0 : Int32) (m : qm_M) : qe_J kp md_Pl_findAt d (L_Pl_findAt_56 K3 K14 v1 v2 v3 v4 v5 v6 s0 m) 56 [(0, .ref 48), (1, .int v1), (2, .int v2), (3, .int v3), (4, .int v4), (5, .int v5), (6, .int v6)] [.int s0] m := xg_Pl_findAt_56 hT hK14 v1 v2 v3 v4 v5 v6 s0 m
def X_Pl_findAt_14 (f_Ru_allows : Nat → Int32 → qm_M → Option qm_R) (f_Pl_effectOf : Int32 → Int32 → qm_M → Option qm_R) (l3 : Int32 → Int32 → Int32 → Int32 → Int32 → qm_M → Option qm_R) (l56 : Int32 → Int32 → Int32 → Int32 → Int32 → Int32 → Int32 → qm_M → Option qm_R) (v1 : Int32) (v2 : Int32) (v3 : Int32) (v4 : Int32) (v5 : Int32) (v6 : Int32) (m : qm_M) : Option qm_R :=
  qe_rI (f_Ru_allows 49 v5 m) fun x1 m1 =>
  if x1 = 0 then
    l3 v1 v2 v3 v4 (v5 + (1 : Int32)) m1
  else
    if v6 < (qo_ishl v2 (1 : Int32)) then
      if v3 = (-1 : Int32) then
        l56 v1 v2 v3 v4 v5 v6 (1 : Int32) m1
      else
        qe_rI (f_Pl_effectOf v5 v6 m1) fun x2 m2 =>
        if x2 = v3 then
          l56 v1 v2 v3 v4 v5 v6 (1 : Int32) m2
        else
          l56 v1 v2 v3 v4 v5 v6 (0 : Int32) m2
    else
      l3 v1 v2 v3 v4 (v5 + (1 : Int32)) m1
set_option maxRecDepth 100000 in
theorem xg_Pl_findAt_14 {kp : pm_K} {d : Nat} {f_Ru_allows : Nat → Int32 → qm_M → Option qm_R} {f_Pl_effectOf : Int32 → Int32 → qm_M → Option qm_R} {l3 : Int32 → Int32 → Int32 → Int32 → Int32 → qm_M → Option qm_R} {l56 : Int32 → Int32 → Int32 → Int32 → Int32 → Int32 → Int32 → qm_M → Option qm_R} (hT : qe_G kp d (T_Pl_findAt f_Ru_allows f_Pl_effectOf)) (h3 : ∀ (v1 : Int32) (v2 : Int32) (v3 : Int32) (v4 : Int32) (v5 : Int32) (m : qm_M), qe_J kp md_Pl_findAt d (l3 v1 v2 v3 v4 v5 m) 3 [(0, .ref 48), (1, .int v1), (2, .int v2), (3, .int v3), (4, .int v4), (5, .int v5)] [] m) (h56 : ∀ (v1 : Int32) (v2 : Int32) (v3 : Int32) (v4 : Int32) (v5 : Int32) (v6 : Int32) (s0 : Int32) (m : qm_M), qe_J kp md_Pl_findAt d (l56 v1 v2 v3 v4 v5 v6 s0 m) 56 [(0, .ref 48), (1, .int v1), (2, .int v2), (3, .int v3), (4, .int v4), (5, .int v5), (6, .int v6)] [.int s0] m) (v1 : Int32) (v2 : Int32) (v3 : Int32) (v4 : Int32) (v5 : Int32) (v6 : Int32) (m : qm_M) : qe_J kp md_Pl_findAt d (X_Pl_findAt_14 f_Ru_allows f_Pl_effectOf l3 l56 v1 v2 v3 v4 v5 v6 m) 14 [(0, .ref 48), (1, .int v1), (2, .int v2), (3, .int v3), (4, .int v4), (5, .int v5), (6, .int v6)] [] m := qe_run (B := [(3, [0, 1, 2, 3, 4, 5], qp_ciiiii_ 48 l3), (56, [0, 1, 2, 3, 4, 5, 6], qp_ciiiiii_i 48 l56)]) (n := 1000) hT (qe_B1 (qp_ciiiii__ok h3) (qe_B1 (qp_ciiiiii_i_ok h56) qe_B0)) rfl
def L_Pl_findAt_14 (K3 : Int32 → Int32 → Int32 → Int32 → Int32 → qm_M → Option qm_R) : Nat → Int32 → Int32 → Int32 → Int32 → Int32 → Int32 → qm_M → Option qm_R
  | 0, _, _, _, _, _, _, _ => none
  | n + 1, v1, v2, v3, v4, v5, v6, m => X_Pl_findAt_14 F_Ru_allows F_Pl_effectOf K3 (L_Pl_findAt_56 K3 (L_Pl_findAt_14 K3 n)) v1 v2 v3 v4 v5 v6 m
theorem lg_Pl_findAt_14 {kp : pm_K} {d : Nat} (hT : qe_G kp d (T_Pl_findAt F_Ru_allows F_Pl_effectOf)) {K3 : Int32 → Int32 → Int32 → Int32 → Int32 → qm_M → Option qm_R} (hK3 : ∀ (v1 : Int32) (v2 : Int32) (v3 : Int32) (v4 : Int32) (v5 : Int32) (m : qm_M), qe_J kp md_Pl_findAt d (K3 v1 v2 v3 v4 v5 m) 3 [(0, .ref 48), (1, .int v1), (2, .int v2), (3, .int v3), (4, .int v4), (5, .int v5)] [] m) : ∀ (n : Nat) (v1 : Int32) (v2 : Int32) (v3 : Int32) (v4 : Int32) (v5 : Int32) (v6 : Int32) (m : qm_M), qe_J kp md_Pl_findAt d (L_Pl_findAt_14 K3 n v1 v2 v3 v4 v5 v6 m) 14 [(0, .ref 48), (1, .int v1), (2, .int v2), (3, .int v3), (4, .int v4), (5, .int v5), (6, .int v6)] [] m
  | 0, v1, v2, v3, v4, v5, v6, m => qe_none rfl
  | n + 1, v1, v2, v3, v4, v5, v6, m => xg_Pl_findAt_14 hT hK3 (lg_Pl_findAt_56 hT hK3 (lg_Pl_findAt_14 hT hK3 n)) v1 v2 v3 v4 v5 v6 m
def X_Pl_findAt_3 (f_Ru_allows : Nat → Int32 → qm_M → Option qm_R) (f_Pl_effectOf : Int32 → Int32 → qm_M → Option qm_R) (l14 : Int32 → Int32 → Int32 → Int32 → Int32 → Int32 → qm_M → Option qm_R) (v1 : Int32) (v2 : Int32) (v3 : Int32) (v4 : Int32) (v5 : Int32) (m : qm_M) : Option qm_R :=
  if v5 < (qo_ishl v1 (1 : Int32)) then
    l14 v1 v2 v3 v4 v5 v2 m
  else
    some (some (.int (0 : Int32)), m)
set_option maxRecDepth 100000 in
theorem xg_Pl_findAt_3 {kp : pm_K} {d : Nat} {f_Ru_allows : Nat → Int32 → qm_M → Option qm_R} {f_Pl_effectOf : Int32 → Int32 → qm_M → Option qm_R} {l14 : Int32 → Int32 → Int32 → Int32 → Int32 → Int32 → qm_M → Option qm_R} (hT : qe_G kp d (T_Pl_findAt f_Ru_allows f_Pl_effectOf)) (h14 : ∀ (v1 : Int32) (v2 : Int32) (v3 : Int32) (v4 : Int32) (v5 : Int32) (v6 : Int32) (m : qm_M), qe_J kp md_Pl_findAt d (l14 v1 v2 v3 v4 v5 v6 m) 14 [(0, .ref 48), (1, .int v1), (2, .int v2), (3, .int v3), (4, .int v4), (5, .int v5), (6, .int v6)] [] m) (v1 : Int32) (v2 : Int32) (v3 : Int32) (v4 : Int32) (v5 : Int32) (m : qm_M) : qe_J kp md_Pl_findAt d (X_Pl_findAt_3 f_Ru_allows f_Pl_effectOf l14 v1 v2 v3 v4 v5 m) 3 [(0, .ref 48), (1, .int v1), (2, .int v2), (3, .int v3), (4, .int v4), (5, .int v5)] [] m := qe_run (B := [(14, [0, 1, 2, 3, 4, 5, 6], qp_ciiiiii_ 48 l14)]) (n := 1000) hT (qe_B1 (qp_ciiiiii__ok h14) qe_B0) rfl
def L_Pl_findAt_3 : Nat → Int32 → Int32 → Int32 → Int32 → Int32 → qm_M → Option qm_R
  | 0, _, _, _, _, _, _ => none
  | n + 1, v1, v2, v3, v4, v5, m => X_Pl_findAt_3 F_Ru_allows F_Pl_effectOf (L_Pl_findAt_14 (L_Pl_findAt_3 n) 1000000) v1 v2 v3 v4 v5 m
theorem lg_Pl_findAt_3 {kp : pm_K} {d : Nat} (hT : qe_G kp d (T_Pl_findAt F_Ru_allows F_Pl_effectOf)) : ∀ (n : Nat) (v1 : Int32) (v2 : Int32) (v3 : Int32) (v4 : Int32) (v5 : Int32) (m : qm_M), qe_J kp md_Pl_findAt d (L_Pl_findAt_3 n v1 v2 v3 v4 v5 m) 3 [(0, .ref 48), (1, .int v1), (2, .int v2), (3, .int v3), (4, .int v4), (5, .int v5)] [] m
  | 0, v1, v2, v3, v4, v5, m => qe_none rfl
  | n + 1, v1, v2, v3, v4, v5, m => xg_Pl_findAt_3 hT (lg_Pl_findAt_14 hT (lg_Pl_findAt_3 hT n) 1000000) v1 v2 v3 v4 v5 m
def X_Pl_findAt_e (f_Ru_allows : Nat → Int32 → qm_M → Option qm_R) (f_Pl_effectOf : Int32 → Int32 → qm_M → Option qm_R) (l3 : Int32 → Int32 → Int32 → Int32 → Int32 → qm_M → Option qm_R) (v1 : Int32) (v2 : Int32) (v3 : Int32) (v4 : Int32) (m : qm_M) : Option qm_R :=
  l3 v1 v2 v3 v4 v1 m
set_option maxRecDepth 100000 in
theorem xg_Pl_findAt_e {kp : pm_K} {d : Nat} {f_Ru_allows : Nat → Int32 → qm_M → Option qm_R} {f_Pl_effectOf : Int32 → Int32 → qm_M → Option qm_R} {l3 : Int32 → Int32 → Int32 → Int32 → Int32 → qm_M → Option qm_R} (hT : qe_G kp d (T_Pl_findAt f_Ru_allows f_Pl_effectOf)) (h3 : ∀ (v1 : Int32) (v2 : Int32) (v3 : Int32) (v4 : Int32) (v5 : Int32) (m : qm_M), qe_J kp md_Pl_findAt d (l3 v1 v2 v3 v4 v5 m) 3 [(0, .ref 48), (1, .int v1), (2, .int v2), (3, .int v3), (4, .int v4), (5, .int v5)] [] m) (v1 : Int32) (v2 : Int32) (v3 : Int32) (v4 : Int32) (m : qm_M) : qe_J kp md_Pl_findAt d (X_Pl_findAt_e f_Ru_allows f_Pl_effectOf l3 v1 v2 v3 v4 m) 0 [(0, .ref 48), (1, .int v1), (2, .int v2), (3, .int v3), (4, .int v4)] [] m := qe_run (B := [(3, [0, 1, 2, 3, 4, 5], qp_ciiiii_ 48 l3)]) (n := 1000) hT (qe_B1 (qp_ciiiii__ok h3) qe_B0) rfl
def F_Pl_findAt (v1 : Int32) (v2 : Int32) (v3 : Int32) (v4 : Int32) (m : qm_M) : Option qm_R := X_Pl_findAt_e F_Ru_allows F_Pl_effectOf (L_Pl_findAt_3 1000000) v1 v2 v3 v4 m
theorem fj_Pl_findAt {kp : pm_K} {d : Nat} (hT : qe_G kp d (T_Pl_findAt F_Ru_allows F_Pl_effectOf)) (v1 : Int32) (v2 : Int32) (v3 : Int32) (v4 : Int32) (m : qm_M) : qe_J kp md_Pl_findAt d (F_Pl_findAt v1 v2 v3 v4 m) 0 [(0, .ref 48), (1, .int v1), (2, .int v2), (3, .int v3), (4, .int v4)] [] m := xg_Pl_findAt_e hT (lg_Pl_findAt_3 hT 1000000) v1 v2 v3 v4 m
theorem fg_Pl_findAt {kp : pm_K} (d : Nat) : qe_GE kp (d + 3) (59, 0, 3, 1, qw_ciiii 48 F_Pl_findAt) := qe_entry (by decide +kernel) (qw_ciiii_ok (d := d + 2) rfl rfl (fj_Pl_findAt (qe_G1 (fg_Ru_allows (d + 0)) (qe_G1 (fg_Pl_effectOf (d + 1)) qe_G0))))
/-! TurnField$Play.find(LTurnField$Position;ZI)Z -/
noncomputable def T_Pl_find (f_Pl_boardWorth : qm_M → Option qm_R) (f_Ps_showsHeads : Nat → Int32 → Int32 → qm_M → Option qm_R) (f_Pl_findAt : Int32 → Int32 → Int32 → Int32 → qm_M → Option qm_R) : qe_T := [(54, 0, 3, 1, qw_cc 48 1 f_Pl_boardWorth), (85, 0, 5, 1, qw_rii f_Ps_showsHeads), (59, 0, 3, 1, qw_ciiii 48 f_Pl_findAt)]
def X_Pl_find_66 (f_Pl_boardWorth : qm_M → Option qm_R) (f_Ps_showsHeads : Nat → Int32 → Int32 → qm_M → Option qm_R) (f_Pl_findAt : Int32 → Int32 → Int32 → Int32 → qm_M → Option qm_R) (l27 : Int32 → Int32 → Int32 → Int32 → Int32 → qm_M → Option qm_R) (v2 : Int32) (v3 : Int32) (v4 : Int32) (v5 : Int32) (v6 : Int32) (s0 : Int32) (s1 : Int32) (s2 : Int32) (m : qm_M) : Option qm_R :=
  qe_rI (f_Pl_findAt s2 s1 s0 v3 m) fun x1 m1 =>
  if x1 = 0 then
    l27 v2 v3 v4 v5 (v6 + (1 : Int32)) m1
  else
    some (some (.int (1 : Int32)), m1)
set_option maxRecDepth 100000 in
theorem xg_Pl_find_66 {kp : pm_K} {d : Nat} {f_Pl_boardWorth : qm_M → Option qm_R} {f_Ps_showsHeads : Nat → Int32 → Int32 → qm_M → Option qm_R} {f_Pl_findAt : Int32 → Int32 → Int32 → Int32 → qm_M → Option qm_R} {l27 : Int32 → Int32 → Int32 → Int32 → Int32 → qm_M → Option qm_R} (hT : qe_G kp d (T_Pl_find f_Pl_boardWorth f_Ps_showsHeads f_Pl_findAt)) (h27 : ∀ (v2 : Int32) (v3 : Int32) (v4 : Int32) (v5 : Int32) (v6 : Int32) (m : qm_M), qe_J kp md_Pl_find d (l27 v2 v3 v4 v5 v6 m) 27 [(0, .ref 48), (1, .ref 1), (2, .int v2), (3, .int v3), (4, .int v4), (5, .int v5), (6, .int v6)] [] m) (v2 : Int32) (v3 : Int32) (v4 : Int32) (v5 : Int32) (v6 : Int32) (s0 : Int32) (s1 : Int32) (s2 : Int32) (m : qm_M) : qe_J kp md_Pl_find d (X_Pl_find_66 f_Pl_boardWorth f_Ps_showsHeads f_Pl_findAt l27 v2 v3 v4 v5 v6 s0 s1 s2 m) 66 [(0, .ref 48), (1, .ref 1), (2, .int v2), (3, .int v3), (4, .int v4), (5, .int v5), (6, .int v6)] [.int s0, .int s1, .int s2, .ref 48] m := qe_run (B := [(27, [0, 1, 2, 3, 4, 5, 6], qp_cciiiii_ 48 1 l27)]) (n := 1000) hT (qe_B1 (qp_cciiiii__ok h27) qe_B0) rfl
def L_Pl_find_66 (K15 : Int32 → Int32 → Int32 → Int32 → qm_M → Option qm_R) (K27 : Int32 → Int32 → Int32 → Int32 → Int32 → qm_M → Option qm_R) (v2 : Int32) (v3 : Int32) (v4 : Int32) (v5 : Int32) (v6 : Int32) (s0 : Int32) (s1 : Int32) (s2 : Int32) (m : qm_M) : Option qm_R := X_Pl_find_66 F_Pl_boardWorth F_Ps_showsHeads F_Pl_findAt K27 v2 v3 v4 v5 v6 s0 s1 s2 m
theorem lg_Pl_find_66 {kp : pm_K} {d : Nat} (hT : qe_G kp d (T_Pl_find F_Pl_boardWorth F_Ps_showsHeads F_Pl_findAt)) {K15 : Int32 → Int32 → Int32 → Int32 → qm_M → Option qm_R} (hK15 : ∀ (v2 : Int32) (v3 : Int32) (v4 : Int32) (v5 : Int32) (m : qm_M), qe_J kp md_Pl_find d (K15 v2 v3 v4 v5 m) 15 [(0, .ref 48), (1, .ref 1), (2, .int v2), (3, .int v3), (4, .int v4), (5, .int v5)] [] m) {K27 : Int32 → Int32 → Int32 → Int32 → Int32 → qm_M → Option qm_R} (hK27 : ∀ (v2 : Int32) (v3 : Int32) (v4 : Int32) (v5 : Int32) (v6 : Int32) (m : qm_M), qe_J kp md_Pl_find d (K27 v2 v3 v4 v5 v6 m) 27 [(0, .ref 48), (1, .ref 1), (2, .int v2), (3, .int v3), (4, .int v4), (5, .int v5), (6, .int v6)] [] m) (v2 : Int32) (v3 : Int32) (v4 : Int32) (v5 : Int32) (v6 : Int32) (s0 : Int32) (s1 : Int32) (s2 : Int32) (m : qm_M) : qe_J kp md_Pl_find d (L_Pl_find_66 K15 K27 v2 v3 v4 v5 v6 s0 s1 s2 m) 66 [(0, .ref 48), (1, .ref 1), (2, .int v2), (3, .int v3), (4, .int v4), (5, .int v5), (6, .int v6)] [.int s0, .int s1, .int s2, .ref 48] m := xg_Pl_find_66 hT hK27 v2 v3 v4 v5 v6 s0 s1 s2 m
def X_Pl_find_27 (f_Pl_boardWorth : qm_M → Option qm_R) (f_Ps_showsHeads : Nat → Int32 → Int32 → qm_M → Option qm_R) (f_Pl_findAt : Int32 → Int32 → Int32 → Int32 → qm_M → Option qm_R) (l15 : Int32 → Int32 → Int32 → Int32 → qm_M → Option qm_R) (l27 : Int32 → Int32 → Int32 → Int32 → Int32 → qm_M → Option qm_R) (l66 : Int32 → Int32 → Int32 → Int32 → Int32 → Int32 → Int32 → Int32 → qm_M → Option qm_R) (v2 : Int32) (v3 : Int32) (v4 : Int32) (v5 : Int32) (v6 : Int32) (m : qm_M) : Option qm_R :=
  if v6 < (m.1 1 1) then
    qe_rI (f_Ps_showsHeads 1 v5 v6 m) fun x1 m1 =>
    if x1 = 0 then
      l27 v2 v3 v4 v5 (v6 + (1 : Int32)) m1
    else
      if v2 = 0 then
        l66 v2 v3 v4 v5 v6 (-1 : Int32) (qo_ishl (1 : Int32) v6) (qo_ishl (1 : Int32) v5) m1
      else
        l66 v2 v3 v4 v5 v6 v4 (qo_ishl (1 : Int32) v6) (qo_ishl (1 : Int32) v5) m1
  else
    l15 v2 v3 v4 (v5 + (1 : Int32)) m
set_option maxRecDepth 100000 in
theorem xg_Pl_find_27 {kp : pm_K} {d : Nat} {f_Pl_boardWorth : qm_M → Option qm_R} {f_Ps_showsHeads : Nat → Int32 → Int32 → qm_M → Option qm_R} {f_Pl_findAt : Int32 → Int32 → Int32 → Int32 → qm_M → Option qm_R} {l15 : Int32 → Int32 → Int32 → Int32 → qm_M → Option qm_R} {l27 : Int32 → Int32 → Int32 → Int32 → Int32 → qm_M → Option qm_R} {l66 : Int32 → Int32 → Int32 → Int32 → Int32 → Int32 → Int32 → Int32 → qm_M → Option qm_R} (hT : qe_G kp d (T_Pl_find f_Pl_boardWorth f_Ps_showsHeads f_Pl_findAt)) (h15 : ∀ (v2 : Int32) (v3 : Int32) (v4 : Int32) (v5 : Int32) (m : qm_M), qe_J kp md_Pl_find d (l15 v2 v3 v4 v5 m) 15 [(0, .ref 48), (1, .ref 1), (2, .int v2), (3, .int v3), (4, .int v4), (5, .int v5)] [] m) (h27 : ∀ (v2 : Int32) (v3 : Int32) (v4 : Int32) (v5 : Int32) (v6 : Int32) (m : qm_M), qe_J kp md_Pl_find d (l27 v2 v3 v4 v5 v6 m) 27 [(0, .ref 48), (1, .ref 1), (2, .int v2), (3, .int v3), (4, .int v4), (5, .int v5), (6, .int v6)] [] m) (h66 : ∀ (v2 : Int32) (v3 : Int32) (v4 : Int32) (v5 : Int32) (v6 : Int32) (s0 : Int32) (s1 : Int32) (s2 : Int32) (m : qm_M), qe_J kp md_Pl_find d (l66 v2 v3 v4 v5 v6 s0 s1 s2 m) 66 [(0, .ref 48), (1, .ref 1), (2, .int v2), (3, .int v3), (4, .int v4), (5, .int v5), (6, .int v6)] [.int s0, .int s1, .int s2, .ref 48] m) (v2 : Int32) (v3 : Int32) (v4 : Int32) (v5 : Int32) (v6 : Int32) (m : qm_M) : qe_J kp md_Pl_find d (X_Pl_find_27 f_Pl_boardWorth f_Ps_showsHeads f_Pl_findAt l15 l27 l66 v2 v3 v4 v5 v6 m) 27 [(0, .ref 48), (1, .ref 1), (2, .int v2), (3, .int v3), (4, .int v4), (5, .int v5), (6, .int v6)] [] m := qe_run (B := [(15, [0, 1, 2, 3, 4, 5], qp_cciiii_ 48 1 l15), (27, [0, 1, 2, 3, 4, 5, 6], qp_cciiiii_ 48 1 l27), (66, [0, 1, 2, 3, 4, 5, 6], qp_cciiiii_iiic 48 1 48 l66)]) (n := 1000) hT (qe_B1 (qp_cciiii__ok h15) (qe_B1 (qp_cciiiii__ok h27) (qe_B1 (qp_cciiiii_iiic_ok h66) qe_B0))) rfl
def L_Pl_find_27 (K15 : Int32 → Int32 → Int32 → Int32 → qm_M → Option qm_R) : Nat → Int32 → Int32 → Int32 → Int32 → Int32 → qm_M → Option qm_R
  | 0, _, _, _, _, _, _ => none
  | n + 1, v2, v3, v4, v5, v6, m => X_Pl_find_27 F_Pl_boardWorth F_Ps_showsHeads F_Pl_findAt K15 (L_Pl_find_27 K15 n) (L_Pl_find_66 K15 (L_Pl_find_27 K15 n)) v2 v3 v4 v5 v6 m
theorem lg_Pl_find_27 {kp : pm_K} {d : Nat} (hT : qe_G kp d (T_Pl_find F_Pl_boardWorth F_Ps_showsHeads F_Pl_findAt)) {K15 : Int32 → Int32 → Int32 → Int32 → qm_M → Option qm_R} (hK15 : ∀ (v2 : Int32) (v3 : Int32) (v4 : Int32) (v5 : Int32) (m : qm_M), qe_J kp md_Pl_find d (K15 v2 v3 v4 v5 m) 15 [(0, .ref 48), (1, .ref 1), (2, .int v2), (3, .int v3), (4, .int v4), (5, .int v5)] [] m) : ∀ (n : Nat) (v2 : Int32) (v3 : Int32) (v4 : Int32) (v5 : Int32) (v6 : Int32) (m : qm_M), qe_J kp md_Pl_find d (L_Pl_find_27 K15 n v2 v3 v4 v5 v6 m) 27 [(0, .ref 48), (1, .ref 1), (2, .int v2), (3, .int v3), (4, .int v4), (5, .int v5), (6, .int v6)] [] m
  | 0, v2, v3, v4, v5, v6, m => qe_none rfl
  | n + 1, v2, v3, v4, v5, v6, m => xg_Pl_find_27 hT hK15 (lg_Pl_find_27 hT hK15 n) (lg_Pl_find_66 hT hK15 (lg_Pl_find_27 hT hK15 n)) v2 v3 v4 v5 v6 m
def X_Pl_find_15 (f_Pl_boardWorth : qm_M → Option qm_R) (f_Ps_showsHeads : Nat → Int32 → Int32 → qm_M → Option qm_R) (f_Pl_findAt : Int32 → Int32 → Int32 → Int32 → qm_M → Option qm_R) (l27 : Int32 → Int32 → Int32 → Int32 → Int32 → qm_M → Option qm_R) (v2 : Int32) (v3 : Int32) (v4 : Int32) (v5 : Int32) (m : qm_M) : Option qm_R :=
  if v5 < (m.1 1 0) then
    l27 v2 v3 v4 v5 (0 : Int32) m
  else
    some (some (.int (0 : Int32)), m)
set_option maxRecDepth 100000 in
theorem xg_Pl_find_15 {kp : pm_K} {d : Nat} {f_Pl_boardWorth : qm_M → Option qm_R} {f_Ps_showsHeads : Nat → Int32 → Int32 → qm_M → Option qm_R} {f_Pl_findAt : Int32 → Int32 → Int32 → Int32 → qm_M → Option qm_R} {l27 : Int32 → Int32 → Int32 → Int32 → Int32 → qm_M → Option qm_R} (hT : qe_G kp d (T_Pl_find f_Pl_boardWorth f_Ps_showsHeads f_Pl_findAt)) (h27 : ∀ (v2 : Int32) (v3 : Int32) (v4 : Int32) (v5 : Int32) (v6 : Int32) (m : qm_M), qe_J kp md_Pl_find d (l27 v2 v3 v4 v5 v6 m) 27 [(0, .ref 48), (1, .ref 1), (2, .int v2), (3, .int v3), (4, .int v4), (5, .int v5), (6, .int v6)] [] m) (v2 : Int32) (v3 : Int32) (v4 : Int32) (v5 : Int32) (m : qm_M) : qe_J kp md_Pl_find d (X_Pl_find_15 f_Pl_boardWorth f_Ps_showsHeads f_Pl_findAt l27 v2 v3 v4 v5 m) 15 [(0, .ref 48), (1, .ref 1), (2, .int v2), (3, .int v3), (4, .int v4), (5, .int v5)] [] m := qe_run (B := [(27, [0, 1, 2, 3, 4, 5, 6], qp_cciiiii_ 48 1 l27)]) (n := 1000) hT (qe_B1 (qp_cciiiii__ok h27) qe_B0) rfl
def L_Pl_find_15 : Nat → Int32 → Int32 → Int32 → Int32 → qm_M → Option qm_R
  | 0, _, _, _, _, _ => none
  | n + 1, v2, v3, v4, v5, m => X_Pl_find_15 F_Pl_boardWorth F_Ps_showsHeads F_Pl_findAt (L_Pl_find_27 (L_Pl_find_15 n) 1000000) v2 v3 v4 v5 m
theorem lg_Pl_find_15 {kp : pm_K} {d : Nat} (hT : qe_G kp d (T_Pl_find F_Pl_boardWorth F_Ps_showsHeads F_Pl_findAt)) : ∀ (n : Nat) (v2 : Int32) (v3 : Int32) (v4 : Int32) (v5 : Int32) (m : qm_M), qe_J kp md_Pl_find d (L_Pl_find_15 n v2 v3 v4 v5 m) 15 [(0, .ref 48), (1, .ref 1), (2, .int v2), (3, .int v3), (4, .int v4), (5, .int v5)] [] m
  | 0, v2, v3, v4, v5, m => qe_none rfl
  | n + 1, v2, v3, v4, v5, m => xg_Pl_find_15 hT (lg_Pl_find_27 hT (lg_Pl_find_15 hT n) 1000000) v2 v3 v4 v5 m
def X_Pl_find_e (f_Pl_boardWorth : qm_M → Option qm_R) (f_Ps_showsHeads : Nat → Int32 → Int32 → qm_M → Option qm_R) (f_Pl_findAt : Int32 → Int32 → Int32 → Int32 → qm_M → Option qm_R) (l15 : Int32 → Int32 → Int32 → Int32 → qm_M → Option qm_R) (v2 : Int32) (v3 : Int32) (m : qm_M) : Option qm_R :=
  qe_rI (f_Pl_boardWorth m) fun x1 m1 =>
  let m2 : qm_M := qm_sI m1 48 6 (0 : Int32)
  l15 v2 v3 x1 (0 : Int32) m2
set_option maxRecDepth 100000 in
theorem xg_Pl_find_e {kp : pm_K} {d : Nat} {f_Pl_boardWorth : qm_M → Option qm_R} {f_Ps_showsHeads : Nat → Int32 → Int32 → qm_M → Option qm_R} {f_Pl_findAt : Int32 → Int32 → Int32 → Int32 → qm_M → Option qm_R} {l15 : Int32 → Int32 → Int32 → Int32 → qm_M → Option qm_R} (hT : qe_G kp d (T_Pl_find f_Pl_boardWorth f_Ps_showsHeads f_Pl_findAt)) (h15 : ∀ (v2 : Int32) (v3 : Int32) (v4 : Int32) (v5 : Int32) (m : qm_M), qe_J kp md_Pl_find d (l15 v2 v3 v4 v5 m) 15 [(0, .ref 48), (1, .ref 1), (2, .int v2), (3, .int v3), (4, .int v4), (5, .int v5)] [] m) (v2 : Int32) (v3 : Int32) (m : qm_M) : qe_J kp md_Pl_find d (X_Pl_find_e f_Pl_boardWorth f_Ps_showsHeads f_Pl_findAt l15 v2 v3 m) 0 [(0, .ref 48), (1, .ref 1), (2, .int v2), (3, .int v3)] [] m := qe_run (B := [(15, [0, 1, 2, 3, 4, 5], qp_cciiii_ 48 1 l15)]) (n := 1000) hT (qe_B1 (qp_cciiii__ok h15) qe_B0) rfl
def F_Pl_find (v2 : Int32) (v3 : Int32) (m : qm_M) : Option qm_R := X_Pl_find_e F_Pl_boardWorth F_Ps_showsHeads F_Pl_findAt (L_Pl_find_15 1000000) v2 v3 m
theorem fj_Pl_find {kp : pm_K} {d : Nat} (hT : qe_G kp d (T_Pl_find F_Pl_boardWorth F_Ps_showsHeads F_Pl_findAt)) (v2 : Int32) (v3 : Int32) (m : qm_M) : qe_J kp md_Pl_find d (F_Pl_find v2 v3 m) 0 [(0, .ref 48), (1, .ref 1), (2, .int v2), (3, .int v3)] [] m := xg_Pl_find_e hT (lg_Pl_find_15 hT 1000000) v2 v3 m
theorem fg_Pl_find {kp : pm_K} (d : Nat) : qe_GE kp (d + 4) (58, 0, 3, 1, qw_ccii 48 1 F_Pl_find) := qe_entry (by decide +kernel) (qw_ccii_ok (d := d + 3) rfl rfl (fj_Pl_find (qe_G1 (fg_Pl_boardWorth (d + 1)) (qe_G1 (fg_Ps_showsHeads (d + 1)) (qe_G1 (fg_Pl_findAt (d + 0)) qe_G0)))))
/-! TurnField$Polynomials.degreeOf([J)I -/
noncomputable def T_Po_degreeOf : qe_T := []
def X_Po_degreeOf_5 (l5 : Nat → Int32 → qm_M → Option qm_R) (v0 : Nat) (v1 : Int32) (m : qm_M) : Option qm_R :=
  if v1 < 0 then
    some (some (.int (-1 : Int32)), m)
  else
    qe_b (qm_isA v0 1) (
    qe_b (qm_in v1 (qm_n v0)) (
    if (lg_cmp (qm_gL m v0 (Int32.toNatClampNeg v1)) (0 : Int64)) = 0 then
      l5 v0 (v1 + (-1 : Int32)) m
    else
      some (some (.int v1), m)))
set_option maxRecDepth 100000 in
theorem xg_Po_degreeOf_5 {kp : pm_K} {d : Nat} {l5 : Nat → Int32 → qm_M → Option qm_R} (hT : qe_G kp d (T_Po_degreeOf)) (h5 : ∀ (v0 : Nat) (v1 : Int32) (m : qm_M), qe_J kp md_Po_degreeOf d (l5 v0 v1 m) 5 [(0, .ref v0), (1, .int v1)] [] m) (v0 : Nat) (v1 : Int32) (m : qm_M) : qe_J kp md_Po_degreeOf d (X_Po_degreeOf_5 l5 v0 v1 m) 5 [(0, .ref v0), (1, .int v1)] [] m := qe_run (B := [(5, [0, 1], qp_ri_ l5)]) (n := 1000) hT (qe_B1 (qp_ri__ok h5) qe_B0) rfl
def L_Po_degreeOf_5 : Nat → Nat → Int32 → qm_M → Option qm_R
  | 0, _, _, _ => none
  | n + 1, v0, v1, m => X_Po_degreeOf_5 (L_Po_degreeOf_5 n) v0 v1 m
theorem lg_Po_degreeOf_5 {kp : pm_K} {d : Nat} (hT : qe_G kp d (T_Po_degreeOf)) : ∀ (n : Nat) (v0 : Nat) (v1 : Int32) (m : qm_M), qe_J kp md_Po_degreeOf d (L_Po_degreeOf_5 n v0 v1 m) 5 [(0, .ref v0), (1, .int v1)] [] m
  | 0, v0, v1, m => qe_none rfl
  | n + 1, v0, v1, m => xg_Po_degreeOf_5 hT (lg_Po_degreeOf_5 hT n) v0 v1 m
def X_Po_degreeOf_e (l5 : Nat → Int32 → qm_M → Option qm_R) (v0 : Nat) (m : qm_M) : Option qm_R :=
  qe_b (Nat.ble (qm_gk v0).1 5) (
  l5 v0 ((Int32.ofNat (qm_n v0)) - (1 : Int32)) m)
set_option maxRecDepth 100000 in
theorem xg_Po_degreeOf_e {kp : pm_K} {d : Nat} {l5 : Nat → Int32 → qm_M → Option qm_R} (hT : qe_G kp d (T_Po_degreeOf)) (h5 : ∀ (v0 : Nat) (v1 : Int32) (m : qm_M), qe_J kp md_Po_degreeOf d (l5 v0 v1 m) 5 [(0, .ref v0), (1, .int v1)] [] m) (v0 : Nat) (m : qm_M) : qe_J kp md_Po_degreeOf d (X_Po_degreeOf_e l5 v0 m) 0 [(0, .ref v0)] [] m := qe_run (B := [(5, [0, 1], qp_ri_ l5)]) (n := 1000) hT (qe_B1 (qp_ri__ok h5) qe_B0) rfl
def F_Po_degreeOf (v0 : Nat) (m : qm_M) : Option qm_R := X_Po_degreeOf_e (L_Po_degreeOf_5 1000000) v0 m
theorem fj_Po_degreeOf {kp : pm_K} {d : Nat} (hT : qe_G kp d (T_Po_degreeOf)) (v0 : Nat) (m : qm_M) : qe_J kp md_Po_degreeOf d (F_Po_degreeOf v0 m) 0 [(0, .ref v0)] [] m := xg_Po_degreeOf_e hT (lg_Po_degreeOf_5 hT 1000000) v0 m
theorem fg_Po_degreeOf {kp : pm_K} (d : Nat) : qe_GE kp (d + 1) (61, 1, 0, 1, qw_r F_Po_degreeOf) := qe_entry (by decide +kernel) (qw_r_ok (d := d + 0) rfl rfl (fj_Po_degreeOf qe_G0))
/-! TurnField$Polynomials.makeMonic([J)V -/
noncomputable def T_Po_makeMonic (f_Po_degreeOf : Nat → qm_M → Option qm_R) (f_Nu_inverted : Int64 → qm_M → Option qm_R) (f_Nu_product : Int64 → Int64 → qm_M → Option qm_R) : qe_T := [(61, 1, 0, 1, qw_r f_Po_degreeOf), (28, 1, 0, 2, qw_l f_Nu_inverted), (22, 1, 0, 2, qw_ll f_Nu_product)]
def X_Po_makeMonic_28 (f_Po_degreeOf : Nat → qm_M → Option qm_R) (f_Nu_inverted : Int64 → qm_M → Option qm_R) (f_Nu_product : Int64 → Int64 → qm_M → Option qm_R) (l28 : Nat → Int32 → Int64 → Int32 → qm_M → Option qm_R) (v0 : Nat) (v1 : Int32) (v2 : Int64) (v4 : Int32) (m : qm_M) : Option qm_R :=
  if v1 < v4 then
    some (none, m)
  else
    qe_b (qm_isA v0 1) (
    qe_b (qm_in v4 (qm_n v0)) (
    qe_rL (f_Nu_product (qm_gL m v0 (Int32.toNatClampNeg v4)) v2 m) fun x1 m1 =>
    qe_b (qm_isL v0 1) (
    qe_b (qm_in v4 (qm_nl v0)) (
    let m2 : qm_M := qm_sL m1 v0 (Int32.toNatClampNeg v4) x1
    l28 v0 v1 v2 (v4 + (1 : Int32)) m2))))
set_option maxRecDepth 100000 in
theorem xg_Po_makeMonic_28 {kp : pm_K} {d : Nat} {f_Po_degreeOf : Nat → qm_M → Option qm_R} {f_Nu_inverted : Int64 → qm_M → Option qm_R} {f_Nu_product : Int64 → Int64 → qm_M → Option qm_R} {l28 : Nat → Int32 → Int64 → Int32 → qm_M → Option qm_R} (hT : qe_G kp d (T_Po_makeMonic f_Po_degreeOf f_Nu_inverted f_Nu_product)) (h28 : ∀ (v0 : Nat) (v1 : Int32) (v2 : Int64) (v4 : Int32) (m : qm_M), qe_J kp md_Po_makeMonic d (l28 v0 v1 v2 v4 m) 28 [(0, .ref v0), (1, .int v1), (2, .long v2), (4, .int v4)] [] m) (v0 : Nat) (v1 : Int32) (v2 : Int64) (v4 : Int32) (m : qm_M) : qe_J kp md_Po_makeMonic d (X_Po_makeMonic_28 f_Po_degreeOf f_Nu_inverted f_Nu_product l28 v0 v1 v2 v4 m) 28 [(0, .ref v0), (1, .int v1), (2, .long v2), (4, .int v4)] [] m := qe_run (B := [(28, [0, 1, 2, 4], qp_rili_ l28)]) (n := 1000) hT (qe_B1 (qp_rili__ok h28) qe_B0) rfl
def L_Po_makeMonic_28 : Nat → Nat → Int32 → Int64 → Int32 → qm_M → Option qm_R
  | 0, _, _, _, _, _ => none
  | n + 1, v0, v1, v2, v4, m => X_Po_makeMonic_28 F_Po_degreeOf F_Nu_inverted F_Nu_product (L_Po_makeMonic_28 n) v0 v1 v2 v4 m
theorem lg_Po_makeMonic_28 {kp : pm_K} {d : Nat} (hT : qe_G kp d (T_Po_makeMonic F_Po_degreeOf F_Nu_inverted F_Nu_product)) : ∀ (n : Nat) (v0 : Nat) (v1 : Int32) (v2 : Int64) (v4 : Int32) (m : qm_M), qe_J kp md_Po_makeMonic d (L_Po_makeMonic_28 n v0 v1 v2 v4 m) 28 [(0, .ref v0), (1, .int v1), (2, .long v2), (4, .int v4)] [] m
  | 0, v0, v1, v2, v4, m => qe_none rfl
  | n + 1, v0, v1, v2, v4, m => xg_Po_makeMonic_28 hT (lg_Po_makeMonic_28 hT n) v0 v1 v2 v4 m
def X_Po_makeMonic_e (f_Po_degreeOf : Nat → qm_M → Option qm_R) (f_Nu_inverted : Int64 → qm_M → Option qm_R) (f_Nu_product : Int64 → Int64 → qm_M → Option qm_R) (l28 : Nat → Int32 → Int64 → Int32 → qm_M → Option qm_R) (v0 : Nat) (m : qm_M) : Option qm_R :=
  qe_rI (f_Po_degreeOf v0 m) fun x1 m1 =>
  if x1 < 0 then
    some (none, m1)
  else
    qe_b (qm_isA v0 1) (
    qe_b (qm_in x1 (qm_n v0)) (
    if (lg_cmp (qm_gL m1 v0 (Int32.toNatClampNeg x1)) (1 : Int64)) = 0 then
      some (none, m1)
    else
      qe_b (qm_isA v0 1) (
      qe_b (qm_in x1 (qm_n v0)) (
      qe_rL (f_Nu_inverted (qm_gL m1 v0 (Int32.toNatClampNeg x1)) m1) fun x2 m2 =>
      l28 v0 x1 x2 (0 : Int32) m2))))
set_option maxRecDepth 100000 in
theorem xg_Po_makeMonic_e {kp : pm_K} {d : Nat} {f_Po_degreeOf : Nat → qm_M → Option qm_R} {f_Nu_inverted : Int64 → qm_M → Option qm_R} {f_Nu_product : Int64 → Int64 → qm_M → Option qm_R} {l28 : Nat → Int32 → Int64 → Int32 → qm_M → Option qm_R} (hT : qe_G kp d (T_Po_makeMonic f_Po_degreeOf f_Nu_inverted f_Nu_product)) (h28 : ∀ (v0 : Nat) (v1 : Int32) (v2 : Int64) (v4 : Int32) (m : qm_M), qe_J kp md_Po_makeMonic d (l28 v0 v1 v2 v4 m) 28 [(0, .ref v0), (1, .int v1), (2, .long v2), (4, .int v4)] [] m) (v0 : Nat) (m : qm_M) : qe_J kp md_Po_makeMonic d (X_Po_makeMonic_e f_Po_degreeOf f_Nu_inverted f_Nu_product l28 v0 m) 0 [(0, .ref v0)] [] m := qe_run (B := [(28, [0, 1, 2, 4], qp_rili_ l28)]) (n := 1000) hT (qe_B1 (qp_rili__ok h28) qe_B0) rfl
def F_Po_makeMonic (v0 : Nat) (m : qm_M) : Option qm_R := X_Po_makeMonic_e F_Po_degreeOf F_Nu_inverted F_Nu_product (L_Po_makeMonic_28 1000000) v0 m
theorem fj_Po_makeMonic {kp : pm_K} {d : Nat} (hT : qe_G kp d (T_Po_makeMonic F_Po_degreeOf F_Nu_inverted F_Nu_product)) (v0 : Nat) (m : qm_M) : qe_J kp md_Po_makeMonic d (F_Po_makeMonic v0 m) 0 [(0, .ref v0)] [] m := xg_Po_makeMonic_e hT (lg_Po_makeMonic_28 hT 1000000) v0 m
theorem fg_Po_makeMonic {kp : pm_K} (d : Nat) : qe_GE kp (d + 34) (66, 1, 0, 0, qw_r F_Po_makeMonic) := qe_entry (by decide +kernel) (qw_r_ok (d := d + 33) rfl rfl (fj_Po_makeMonic (qe_G1 (fg_Po_degreeOf (d + 32)) (qe_G1 (fg_Nu_inverted (d + 0)) (qe_G1 (fg_Nu_product (d + 0)) qe_G0)))))
/-! TurnField$Polynomials.divide([J[J[J)V -/
noncomputable def T_Po_divide (f_Po_clear : Nat → qm_M → Option qm_R) (f_Po_degreeOf : Nat → qm_M → Option qm_R) (f_Nu_product : Int64 → Int64 → qm_M → Option qm_R) : qe_T := [(63, 1, 0, 0, qw_r f_Po_clear), (61, 1, 0, 1, qw_r f_Po_degreeOf), (22, 1, 0, 2, qw_ll f_Nu_product)]
def X_Po_divide_51 (f_Po_clear : Nat → qm_M → Option qm_R) (f_Po_degreeOf : Nat → qm_M → Option qm_R) (f_Nu_product : Int64 → Int64 → qm_M → Option qm_R) (l15 : Nat → Nat → Nat → Int32 → Int32 → qm_M → Option qm_R) (l51 : Nat → Nat → Nat → Int32 → Int32 → Int64 → Int32 → qm_M → Option qm_R) (v0 : Nat) (v1 : Nat) (v2 : Nat) (v3 : Int32) (v4 : Int32) (v5 : Int64) (v7 : Int32) (m : qm_M) : Option qm_R :=
  if v3 < v7 then
    l15 v0 v1 v2 v3 (v4 + (-1 : Int32)) m
  else
    if (lg_cmp v5 (0 : Int64)) = 0 then
      l15 v0 v1 v2 v3 (v4 + (-1 : Int32)) m
    else
      qe_b (qm_isA v0 1) (
      qe_b (qm_in ((v4 - v3) + v7) (qm_n v0)) (
      qe_b (qm_isA v1 1) (
      qe_b (qm_in v7 (qm_n v1)) (
      qe_rL (f_Nu_product v5 (qm_gL m v1 (Int32.toNatClampNeg v7)) m) fun x1 m1 =>
      qe_b (qm_isL v0 1) (
      qe_b (qm_in ((v4 - v3) + v7) (qm_nl v0)) (
      let m2 : qm_M := qm_sL m1 v0 (Int32.toNatClampNeg ((v4 - v3) + v7)) ((qm_gL m v0 (Int32.toNatClampNeg ((v4 - v3) + v7))) ^^^ x1)
      l51 v0 v1 v2 v3 v4 v5 (v7 + (1 : Int32)) m2))))))
set_option maxRecDepth 100000 in
theorem xg_Po_divide_51 {kp : pm_K} {d : Nat} {f_Po_clear : Nat → qm_M → Option qm_R} {f_Po_degreeOf : Nat → qm_M → Option qm_R} {f_Nu_product : Int64 → Int64 → qm_M → Option qm_R} {l15 : Nat → Nat → Nat → Int32 → Int32 → qm_M → Option qm_R} {l51 : Nat → Nat → Nat → Int32 → Int32 → Int64 → Int32 → qm_M → Option qm_R} (hT : qe_G kp d (T_Po_divide f_Po_clear f_Po_degreeOf f_Nu_product)) (h15 : ∀ (v0 : Nat) (v1 : Nat) (v2 : Nat) (v3 : Int32) (v4 : Int32) (m : qm_M), qe_J kp md_Po_divide d (l15 v0 v1 v2 v3 v4 m) 15 [(0, .ref v0), (1, .ref v1), (2, .ref v2), (3, .int v3), (4, .int v4)] [] m) (h51 : ∀ (v0 : Nat) (v1 : Nat) (v2 : Nat) (v3 : Int32) (v4 : Int32) (v5 : Int64) (v7 : Int32) (m : qm_M), qe_J kp md_Po_divide d (l51 v0 v1 v2 v3 v4 v5 v7 m) 51 [(0, .ref v0), (1, .ref v1), (2, .ref v2), (3, .int v3), (4, .int v4), (5, .long v5), (7, .int v7)] [] m) (v0 : Nat) (v1 : Nat) (v2 : Nat) (v3 : Int32) (v4 : Int32) (v5 : Int64) (v7 : Int32) (m : qm_M) : qe_J kp md_Po_divide d (X_Po_divide_51 f_Po_clear f_Po_degreeOf f_Nu_product l15 l51 v0 v1 v2 v3 v4 v5 v7 m) 51 [(0, .ref v0), (1, .ref v1), (2, .ref v2), (3, .int v3), (4, .int v4), (5, .long v5), (7, .int v7)] [] m := qe_run (B := [(15, [0, 1, 2, 3, 4], qp_rrrii_ l15), (51, [0, 1, 2, 3, 4, 5, 7], qp_rrriili_ l51)]) (n := 1000) hT (qe_B1 (qp_rrrii__ok h15) (qe_B1 (qp_rrriili__ok h51) qe_B0)) rfl
def L_Po_divide_51 (K15 : Nat → Nat → Nat → Int32 → Int32 → qm_M → Option qm_R) : Nat → Nat → Nat → Nat → Int32 → Int32 → Int64 → Int32 → qm_M → Option qm_R
  | 0, _, _, _, _, _, _, _, _ => none
  | n + 1, v0, v1, v2, v3, v4, v5, v7, m => X_Po_divide_51 F_Po_clear F_Po_degreeOf F_Nu_product K15 (L_Po_divide_51 K15 n) v0 v1 v2 v3 v4 v5 v7 m
theorem lg_Po_divide_51 {kp : pm_K} {d : Nat} (hT : qe_G kp d (T_Po_divide F_Po_clear F_Po_degreeOf F_Nu_product)) {K15 : Nat → Nat → Nat → Int32 → Int32 → qm_M → Option qm_R} (hK15 : ∀ (v0 : Nat) (v1 : Nat) (v2 : Nat) (v3 : Int32) (v4 : Int32) (m : qm_M), qe_J kp md_Po_divide d (K15 v0 v1 v2 v3 v4 m) 15 [(0, .ref v0), (1, .ref v1), (2, .ref v2), (3, .int v3), (4, .int v4)] [] m) : ∀ (n : Nat) (v0 : Nat) (v1 : Nat) (v2 : Nat) (v3 : Int32) (v4 : Int32) (v5 : Int64) (v7 : Int32) (m : qm_M), qe_J kp md_Po_divide d (L_Po_divide_51 K15 n v0 v1 v2 v3 v4 v5 v7 m) 51 [(0, .ref v0), (1, .ref v1), (2, .ref v2), (3, .int v3), (4, .int v4), (5, .long v5), (7, .int v7)] [] m
  | 0, v0, v1, v2, v3, v4, v5, v7, m => qe_none rfl
  | n + 1, v0, v1, v2, v3, v4, v5, v7, m => xg_Po_divide_51 hT hK15 (lg_Po_divide_51 hT hK15 n) v0 v1 v2 v3 v4 v5 v7 m
def X_Po_divide_15 (f_Po_clear : Nat → qm_M → Option qm_R) (f_Po_degreeOf : Nat → qm_M → Option qm_R) (f_Nu_product : Int64 → Int64 → qm_M → Option qm_R) (l51 : Nat → Nat → Nat → Int32 → Int32 → Int64 → Int32 → qm_M → Option qm_R) (v0 : Nat) (v1 : Nat) (v2 : Nat) (v3 : Int32) (v4 : Int32) (m : qm_M) : Option qm_R :=
  if v4 < v3 then
    some (none, m)
  else
    if v3 < 0 then
      some (none, m)
    else
      qe_b (qm_isA v0 1) (
      qe_b (qm_in v4 (qm_n v0)) (
      qe_b (Nat.ble (qm_gk v2).1 5) (
      if (v4 - v3) < (Int32.ofNat (qm_n v2)) then
        qe_b (qm_isL v2 1) (
        qe_b (qm_in (v4 - v3) (qm_nl v2)) (
        let m1 : qm_M := qm_sL m v2 (Int32.toNatClampNeg (v4 - v3)) (qm_gL m v0 (Int32.toNatClampNeg v4))
        l51 v0 v1 v2 v3 v4 (qm_gL m v0 (Int32.toNatClampNeg v4)) (0 : Int32) m1))
      else
        l51 v0 v1 v2 v3 v4 (qm_gL m v0 (Int32.toNatClampNeg v4)) (0 : Int32) m)))
set_option maxRecDepth 100000 in
theorem xg_Po_divide_15 {kp : pm_K} {d : Nat} {f_Po_clear : Nat → qm_M → Option qm_R} {f_Po_degreeOf : Nat → qm_M → Option qm_R} {f_Nu_product : Int64 → Int64 → qm_M → Option qm_R} {l51 : Nat → Nat → Nat → Int32 → Int32 → Int64 → Int32 → qm_M → Option qm_R} (hT : qe_G kp d (T_Po_divide f_Po_clear f_Po_degreeOf f_Nu_product)) (h51 : ∀ (v0 : Nat) (v1 : Nat) (v2 : Nat) (v3 : Int32) (v4 : Int32) (v5 : Int64) (v7 : Int32) (m : qm_M), qe_J kp md_Po_divide d (l51 v0 v1 v2 v3 v4 v5 v7 m) 51 [(0, .ref v0), (1, .ref v1), (2, .ref v2), (3, .int v3), (4, .int v4), (5, .long v5), (7, .int v7)] [] m) (v0 : Nat) (v1 : Nat) (v2 : Nat) (v3 : Int32) (v4 : Int32) (m : qm_M) : qe_J kp md_Po_divide d (X_Po_divide_15 f_Po_clear f_Po_degreeOf f_Nu_product l51 v0 v1 v2 v3 v4 m) 15 [(0, .ref v0), (1, .ref v1), (2, .ref v2), (3, .int v3), (4, .int v4)] [] m := qe_run (B := [(51, [0, 1, 2, 3, 4, 5, 7], qp_rrriili_ l51)]) (n := 1000) hT (qe_B1 (qp_rrriili__ok h51) qe_B0) rfl
def L_Po_divide_15 : Nat → Nat → Nat → Nat → Int32 → Int32 → qm_M → Option qm_R
  | 0, _, _, _, _, _, _ => none
  | n + 1, v0, v1, v2, v3, v4, m => X_Po_divide_15 F_Po_clear F_Po_degreeOf F_Nu_product (L_Po_divide_51 (L_Po_divide_15 n) 1000000) v0 v1 v2 v3 v4 m
theorem lg_Po_divide_15 {kp : pm_K} {d : Nat} (hT : qe_G kp d (T_Po_divide F_Po_clear F_Po_degreeOf F_Nu_product)) : ∀ (n : Nat) (v0 : Nat) (v1 : Nat) (v2 : Nat) (v3 : Int32) (v4 : Int32) (m : qm_M), qe_J kp md_Po_divide d (L_Po_divide_15 n v0 v1 v2 v3 v4 m) 15 [(0, .ref v0), (1, .ref v1), (2, .ref v2), (3, .int v3), (4, .int v4)] [] m
  | 0, v0, v1, v2, v3, v4, m => qe_none rfl
  | n + 1, v0, v1, v2, v3, v4, m => xg_Po_divide_15 hT (lg_Po_divide_51 hT (lg_Po_divide_15 hT n) 1000000) v0 v1 v2 v3 v4 m
def X_Po_divide_e (f_Po_clear : Nat → qm_M → Option qm_R) (f_Po_degreeOf : Nat → qm_M → Option qm_R) (f_Nu_product : Int64 → Int64 → qm_M → Option qm_R) (l15 : Nat → Nat → Nat → Int32 → Int32 → qm_M → Option qm_R) (v0 : Nat) (v1 : Nat) (v2 : Nat) (m : qm_M) : Option qm_R :=
  qe_rV (f_Po_clear v2 m) fun m1 =>
  qe_rI (f_Po_degreeOf v1 m1) fun x1 m2 =>
  qe_rI (f_Po_degreeOf v0 m2) fun x2 m3 =>
  l15 v0 v1 v2 x1 x2 m3
set_option maxRecDepth 100000 in
theorem xg_Po_divide_e {kp : pm_K} {d : Nat} {f_Po_clear : Nat → qm_M → Option qm_R} {f_Po_degreeOf : Nat → qm_M → Option qm_R} {f_Nu_product : Int64 → Int64 → qm_M → Option qm_R} {l15 : Nat → Nat → Nat → Int32 → Int32 → qm_M → Option qm_R} (hT : qe_G kp d (T_Po_divide f_Po_clear f_Po_degreeOf f_Nu_product)) (h15 : ∀ (v0 : Nat) (v1 : Nat) (v2 : Nat) (v3 : Int32) (v4 : Int32) (m : qm_M), qe_J kp md_Po_divide d (l15 v0 v1 v2 v3 v4 m) 15 [(0, .ref v0), (1, .ref v1), (2, .ref v2), (3, .int v3), (4, .int v4)] [] m) (v0 : Nat) (v1 : Nat) (v2 : Nat) (m : qm_M) : qe_J kp md_Po_divide d (X_Po_divide_e f_Po_clear f_Po_degreeOf f_Nu_product l15 v0 v1 v2 m) 0 [(0, .ref v0), (1, .ref v1), (2, .ref v2)] [] m := qe_run (B := [(15, [0, 1, 2, 3, 4], qp_rrrii_ l15)]) (n := 1000) hT (qe_B1 (qp_rrrii__ok h15) qe_B0) rfl
def F_Po_divide (v0 : Nat) (v1 : Nat) (v2 : Nat) (m : qm_M) : Option qm_R := X_Po_divide_e F_Po_clear F_Po_degreeOf F_Nu_product (L_Po_divide_15 1000000) v0 v1 v2 m
theorem fj_Po_divide {kp : pm_K} {d : Nat} (hT : qe_G kp d (T_Po_divide F_Po_clear F_Po_degreeOf F_Nu_product)) (v0 : Nat) (v1 : Nat) (v2 : Nat) (m : qm_M) : qe_J kp md_Po_divide d (F_Po_divide v0 v1 v2 m) 0 [(0, .ref v0), (1, .ref v1), (2, .ref v2)] [] m := xg_Po_divide_e hT (lg_Po_divide_15 hT 1000000) v0 v1 v2 m
theorem fg_Po_divide {kp : pm_K} (d : Nat) : qe_GE kp (d + 34) (67, 1, 0, 0, qw_rrr F_Po_divide) := qe_entry (by decide +kernel) (qw_rrr_ok (d := d + 33) rfl rfl (fj_Po_divide (qe_G1 (fg_Po_clear (d + 32)) (qe_G1 (fg_Po_degreeOf (d + 32)) (qe_G1 (fg_Nu_product (d + 0)) qe_G0)))))
/-! TurnField$Polynomials.meet([J[J[J)V -/
noncomputable def T_Po_meet (f_Po_degreeOf : Nat → qm_M → Option qm_R) (f_Po_makeMonic : Nat → qm_M → Option qm_R) (f_Po_divide : Nat → Nat → Nat → qm_M → Option qm_R) (f_Po_copy : Nat → Nat → qm_M → Option qm_R) : qe_T := [(61, 1, 0, 1, qw_r f_Po_degreeOf), (66, 1, 0, 0, qw_r f_Po_makeMonic), (67, 1, 0, 0, qw_rrr f_Po_divide), (64, 1, 0, 0, qw_rr f_Po_copy)]
def X_Po_meet_2 (f_Po_degreeOf : Nat → qm_M → Option qm_R) (f_Po_makeMonic : Nat → qm_M → Option qm_R) (f_Po_divide : Nat → Nat → Nat → qm_M → Option qm_R) (f_Po_copy : Nat → Nat → qm_M → Option qm_R) (l2 : Nat → Nat → Nat → Int32 → qm_M → Option qm_R) (v0 : Nat) (v1 : Nat) (v2 : Nat) (v3 : Int32) (m : qm_M) : Option qm_R :=
  qe_b (Nat.ble (qm_gk v0).1 5) (
  if v3 < (Int32.ofNat (qm_n v0)) then
    qe_rI (f_Po_degreeOf v1 m) fun x1 m1 =>
    if x1 < 0 then
      qe_rV (f_Po_makeMonic v0 m1) fun m2 =>
      some (none, m2)
    else
      qe_rV (f_Po_makeMonic v1 m1) fun m3 =>
      qe_rV (f_Po_divide v0 v1 v2 m3) fun m4 =>
      qe_rV (f_Po_copy v0 v2 m4) fun m5 =>
      qe_rV (f_Po_copy v1 v0 m5) fun m6 =>
      qe_rV (f_Po_copy v2 v1 m6) fun m7 =>
      l2 v0 v1 v2 (v3 + (1 : Int32)) m7
  else
    qe_rV (f_Po_makeMonic v0 m) fun m8 =>
    some (none, m8))
set_option maxRecDepth 100000 in
theorem xg_Po_meet_2 {kp : pm_K} {d : Nat} {f_Po_degreeOf : Nat → qm_M → Option qm_R} {f_Po_makeMonic : Nat → qm_M → Option qm_R} {f_Po_divide : Nat → Nat → Nat → qm_M → Option qm_R} {f_Po_copy : Nat → Nat → qm_M → Option qm_R} {l2 : Nat → Nat → Nat → Int32 → qm_M → Option qm_R} (hT : qe_G kp d (T_Po_meet f_Po_degreeOf f_Po_makeMonic f_Po_divide f_Po_copy)) (h2 : ∀ (v0 : Nat) (v1 : Nat) (v2 : Nat) (v3 : Int32) (m : qm_M), qe_J kp md_Po_meet d (l2 v0 v1 v2 v3 m) 2 [(0, .ref v0), (1, .ref v1), (2, .ref v2), (3, .int v3)] [] m) (v0 : Nat) (v1 : Nat) (v2 : Nat) (v3 : Int32) (m : qm_M) : qe_J kp md_Po_meet d (X_Po_meet_2 f_Po_degreeOf f_Po_makeMonic f_Po_divide f_Po_copy l2 v0 v1 v2 v3 m) 2 [(0, .ref v0), (1, .ref v1), (2, .ref v2), (3, .int v3)] [] m := qe_run (B := [(2, [0, 1, 2, 3], qp_rrri_ l2)]) (n := 1000) hT (qe_B1 (qp_rrri__ok h2) qe_B0) rfl
def L_Po_meet_2 : Nat → Nat → Nat → Nat → Int32 → qm_M → Option qm_R
  | 0, _, _, _, _, _ => none
  | n + 1, v0, v1, v2, v3, m => X_Po_meet_2 F_Po_degreeOf F_Po_makeMonic F_Po_divide F_Po_copy (L_Po_meet_2 n) v0 v1 v2 v3 m
theorem lg_Po_meet_2 {kp : pm_K} {d : Nat} (hT : qe_G kp d (T_Po_meet F_Po_degreeOf F_Po_makeMonic F_Po_divide F_Po_copy)) : ∀ (n : Nat) (v0 : Nat) (v1 : Nat) (v2 : Nat) (v3 : Int32) (m : qm_M), qe_J kp md_Po_meet d (L_Po_meet_2 n v0 v1 v2 v3 m) 2 [(0, .ref v0), (1, .ref v1), (2, .ref v2), (3, .int v3)] [] m
  | 0, v0, v1, v2, v3, m => qe_none rfl
  | n + 1, v0, v1, v2, v3, m => xg_Po_meet_2 hT (lg_Po_meet_2 hT n) v0 v1 v2 v3 m
def X_Po_meet_e (f_Po_degreeOf : Nat → qm_M → Option qm_R) (f_Po_makeMonic : Nat → qm_M → Option qm_R) (f_Po_divide : Nat → Nat → Nat → qm_M → Option qm_R) (f_Po_copy : Nat → Nat → qm_M → Option qm_R) (l2 : Nat → Nat → Nat → Int32 → qm_M → Option qm_R) (v0 : Nat) (v1 : Nat) (v2 : Nat) (m : qm_M) : Option qm_R :=
  l2 v0 v1 v2 (0 : Int32) m
set_option maxRecDepth 100000 in
theorem xg_Po_meet_e {kp : pm_K} {d : Nat} {f_Po_degreeOf : Nat → qm_M → Option qm_R} {f_Po_makeMonic : Nat → qm_M → Option qm_R} {f_Po_divide : Nat → Nat → Nat → qm_M → Option qm_R} {f_Po_copy : Nat → Nat → qm_M → Option qm_R} {l2 : Nat → Nat → Nat → Int32 → qm_M → Option qm_R} (hT : qe_G kp d (T_Po_meet f_Po_degreeOf f_Po_makeMonic f_Po_divide f_Po_copy)) (h2 : ∀ (v0 : Nat) (v1 : Nat) (v2 : Nat) (v3 : Int32) (m : qm_M), qe_J kp md_Po_meet d (l2 v0 v1 v2 v3 m) 2 [(0, .ref v0), (1, .ref v1), (2, .ref v2), (3, .int v3)] [] m) (v0 : Nat) (v1 : Nat) (v2 : Nat) (m : qm_M) : qe_J kp md_Po_meet d (X_Po_meet_e f_Po_degreeOf f_Po_makeMonic f_Po_divide f_Po_copy l2 v0 v1 v2 m) 0 [(0, .ref v0), (1, .ref v1), (2, .ref v2)] [] m := qe_run (B := [(2, [0, 1, 2, 3], qp_rrri_ l2)]) (n := 1000) hT (qe_B1 (qp_rrri__ok h2) qe_B0) rfl
def F_Po_meet (v0 : Nat) (v1 : Nat) (v2 : Nat) (m : qm_M) : Option qm_R := X_Po_meet_e F_Po_degreeOf F_Po_makeMonic F_Po_divide F_Po_copy (L_Po_meet_2 1000000) v0 v1 v2 m
theorem fj_Po_meet {kp : pm_K} {d : Nat} (hT : qe_G kp d (T_Po_meet F_Po_degreeOf F_Po_makeMonic F_Po_divide F_Po_copy)) (v0 : Nat) (v1 : Nat) (v2 : Nat) (m : qm_M) : qe_J kp md_Po_meet d (F_Po_meet v0 v1 v2 m) 0 [(0, .ref v0), (1, .ref v1), (2, .ref v2)] [] m := xg_Po_meet_e hT (lg_Po_meet_2 hT 1000000) v0 v1 v2 m
theorem fg_Po_meet {kp : pm_K} (d : Nat) : qe_GE kp (d + 35) (68, 1, 0, 0, qw_rrr F_Po_meet) := qe_entry (by decide +kernel) (qw_rrr_ok (d := d + 34) rfl rfl (fj_Po_meet (qe_G1 (fg_Po_degreeOf (d + 33)) (qe_G1 (fg_Po_makeMonic (d + 0)) (qe_G1 (fg_Po_divide (d + 0)) (qe_G1 (fg_Po_copy (d + 33)) qe_G0))))))
/-! TurnField$Polynomials.meetHalves([J)V -/
noncomputable def T_Po_meetHalves (f_Po_meet : Nat → Nat → Nat → qm_M → Option qm_R) : qe_T := [(68, 1, 0, 0, qw_rrr f_Po_meet)]
def X_Po_meetHalves_41 (f_Po_meet : Nat → Nat → Nat → qm_M → Option qm_R)  (m : qm_M) : Option qm_R :=
  qe_rV (f_Po_meet 71 72 73 m) fun m1 =>
  some (none, m1)
set_option maxRecDepth 100000 in
theorem xg_Po_meetHalves_41 {kp : pm_K} {d : Nat} {f_Po_meet : Nat → Nat → Nat → qm_M → Option qm_R} (hT : qe_G kp d (T_Po_meetHalves f_Po_meet)) (m : qm_M) : qe_J kp md_Po_meetHalves d (X_Po_meetHalves_41 f_Po_meet m) 41 [(0, .ref 70)] [] m := qe_run (B := []) (n := 1000) hT qe_B0 rfl
def L_Po_meetHalves_41  (m : qm_M) : Option qm_R := X_Po_meetHalves_41 F_Po_meet m
theorem lg_Po_meetHalves_41 {kp : pm_K} {d : Nat} (hT : qe_G kp d (T_Po_meetHalves F_Po_meet)) (m : qm_M) : qe_J kp md_Po_meetHalves d (L_Po_meetHalves_41 m) 41 [(0, .ref 70)] [] m := xg_Po_meetHalves_41 hT m
def X_Po_meetHalves_2 (f_Po_meet : Nat → Nat → Nat → qm_M → Option qm_R) (l2 : Int32 → qm_M → Option qm_R) (l41 : qm_M → Option qm_R) (v2 : Int32) (m : qm_M) : Option qm_R :=
  if v2 < (4 : Int32) then
    if (v2 + (4 : Int32)) < (8 : Int32) then
      qe_b (qm_in v2 8) (
      qe_b (qm_in v2 4) (
      let m1 : qm_M := qm_sL m 71 (Int32.toNatClampNeg v2) (m.2 2 (Int32.toNatClampNeg v2))
      qe_b (qm_in ((4 : Int32) + v2) 8) (
      qe_b (qm_in v2 4) (
      let m2 : qm_M := qm_sL m1 72 (Int32.toNatClampNeg v2) (m1.2 2 (Int32.toNatClampNeg ((4 : Int32) + v2)))
      l2 (v2 + (1 : Int32)) m2))))
    else
      l41 m
  else
    l41 m
set_option maxRecDepth 100000 in
theorem xg_Po_meetHalves_2 {kp : pm_K} {d : Nat} {f_Po_meet : Nat → Nat → Nat → qm_M → Option qm_R} {l2 : Int32 → qm_M → Option qm_R} {l41 : qm_M → Option qm_R} (hT : qe_G kp d (T_Po_meetHalves f_Po_meet)) (h2 : ∀ (v2 : Int32) (m : qm_M), qe_J kp md_Po_meetHalves d (l2 v2 m) 2 [(0, .ref 70), (1, .ref 2), (2, .int v2)] [] m) (h41 : ∀ (m : qm_M), qe_J kp md_Po_meetHalves d (l41 m) 41 [(0, .ref 70)] [] m) (v2 : Int32) (m : qm_M) : qe_J kp md_Po_meetHalves d (X_Po_meetHalves_2 f_Po_meet l2 l41 v2 m) 2 [(0, .ref 70), (1, .ref 2), (2, .int v2)] [] m := qe_run (B := [(2, [0, 1, 2], qp_cci_ 70 2 l2), (41, [0], qp_c_ 70 l41)]) (n := 1000) hT (qe_B1 (qp_cci__ok h2) (qe_B1 (qp_c__ok h41) qe_B0)) rfl
def L_Po_meetHalves_2 : Nat → Int32 → qm_M → Option qm_R
  | 0, _, _ => none
  | n + 1, v2, m => X_Po_meetHalves_2 F_Po_meet (L_Po_meetHalves_2 n) (L_Po_meetHalves_41) v2 m
theorem lg_Po_meetHalves_2 {kp : pm_K} {d : Nat} (hT : qe_G kp d (T_Po_meetHalves F_Po_meet)) : ∀ (n : Nat) (v2 : Int32) (m : qm_M), qe_J kp md_Po_meetHalves d (L_Po_meetHalves_2 n v2 m) 2 [(0, .ref 70), (1, .ref 2), (2, .int v2)] [] m
  | 0, v2, m => qe_none rfl
  | n + 1, v2, m => xg_Po_meetHalves_2 hT (lg_Po_meetHalves_2 hT n) (lg_Po_meetHalves_41 hT) v2 m
def X_Po_meetHalves_e (f_Po_meet : Nat → Nat → Nat → qm_M → Option qm_R) (l2 : Int32 → qm_M → Option qm_R)  (m : qm_M) : Option qm_R :=
  l2 (0 : Int32) m
set_option maxRecDepth 100000 in
theorem xg_Po_meetHalves_e {kp : pm_K} {d : Nat} {f_Po_meet : Nat → Nat → Nat → qm_M → Option qm_R} {l2 : Int32 → qm_M → Option qm_R} (hT : qe_G kp d (T_Po_meetHalves f_Po_meet)) (h2 : ∀ (v2 : Int32) (m : qm_M), qe_J kp md_Po_meetHalves d (l2 v2 m) 2 [(0, .ref 70), (1, .ref 2), (2, .int v2)] [] m) (m : qm_M) : qe_J kp md_Po_meetHalves d (X_Po_meetHalves_e f_Po_meet l2 m) 0 [(0, .ref 70), (1, .ref 2)] [] m := qe_run (B := [(2, [0, 1, 2], qp_cci_ 70 2 l2)]) (n := 1000) hT (qe_B1 (qp_cci__ok h2) qe_B0) rfl
def F_Po_meetHalves (m : qm_M) : Option qm_R := X_Po_meetHalves_e F_Po_meet (L_Po_meetHalves_2 1000000) m
theorem fj_Po_meetHalves {kp : pm_K} {d : Nat} (hT : qe_G kp d (T_Po_meetHalves F_Po_meet)) (m : qm_M) : qe_J kp md_Po_meetHalves d (F_Po_meetHalves m) 0 [(0, .ref 70), (1, .ref 2)] [] m := xg_Po_meetHalves_e hT (lg_Po_meetHalves_2 hT 1000000) m
theorem fg_Po_meetHalves {kp : pm_K} (d : Nat) : qe_GE kp (d + 36) (69, 0, 4, 0, qw_cc 70 2 F_Po_meetHalves) := qe_entry (by decide +kernel) (qw_cc_ok (d := d + 35) rfl rfl (fj_Po_meetHalves (qe_G1 (fg_Po_meet (d + 0)) qe_G0)))
/-! TurnField$Polynomials.metCoefficient(I)J -/
noncomputable def T_Po_metCoefficient : qe_T := []
def X_Po_metCoefficient_e (v1 : Int32) (m : qm_M) : Option qm_R :=
  if v1 < 0 then
    some (some (.long (0 : Int64)), m)
  else
    if v1 < (4 : Int32) then
      qe_b (qm_in v1 4) (
      some (some (.long (m.2 71 (Int32.toNatClampNeg v1))), m))
    else
      some (some (.long (0 : Int64)), m)
set_option maxRecDepth 100000 in
theorem xg_Po_metCoefficient_e {kp : pm_K} {d : Nat} (hT : qe_G kp d (T_Po_metCoefficient)) (v1 : Int32) (m : qm_M) : qe_J kp md_Po_metCoefficient d (X_Po_metCoefficient_e v1 m) 0 [(0, .ref 70), (1, .int v1)] [] m := qe_run (B := []) (n := 1000) hT qe_B0 rfl
def F_Po_metCoefficient (v1 : Int32) (m : qm_M) : Option qm_R := X_Po_metCoefficient_e v1 m
theorem fj_Po_metCoefficient {kp : pm_K} {d : Nat} (hT : qe_G kp d (T_Po_metCoefficient)) (v1 : Int32) (m : qm_M) : qe_J kp md_Po_metCoefficient d (F_Po_metCoefficient v1 m) 0 [(0, .ref 70), (1, .int v1)] [] m := xg_Po_metCoefficient_e hT v1 m
theorem fg_Po_metCoefficient {kp : pm_K} (d : Nat) : qe_GE kp (d + 1) (70, 0, 4, 2, qw_ci 70 F_Po_metCoefficient) := qe_entry (by decide +kernel) (qw_ci_ok (d := d + 0) rfl rfl (fj_Po_metCoefficient qe_G0))
/-! TurnField$Polynomials.raiseImage(I)V -/
noncomputable def T_Po_raiseImage (f_Po_clear : Nat → qm_M → Option qm_R) (f_Po_copy : Nat → Nat → qm_M → Option qm_R) (f_Po_divide : Nat → Nat → Nat → qm_M → Option qm_R) (f_Nu_square : Int64 → qm_M → Option qm_R) : qe_T := [(63, 1, 0, 0, qw_r f_Po_clear), (64, 1, 0, 0, qw_rr f_Po_copy), (67, 1, 0, 0, qw_rrr f_Po_divide), (26, 1, 0, 2, qw_l f_Nu_square)]
def X_Po_raiseImage_46 (f_Po_clear : Nat → qm_M → Option qm_R) (f_Po_copy : Nat → Nat → qm_M → Option qm_R) (f_Po_divide : Nat → Nat → Nat → qm_M → Option qm_R) (f_Nu_square : Int64 → qm_M → Option qm_R) (l16 : Int32 → Int32 → qm_M → Option qm_R) (l46 : Int32 → Int32 → Int32 → qm_M → Option qm_R) (v1 : Int32) (v2 : Int32) (v3 : Int32) (m : qm_M) : Option qm_R :=
  if v3 < 0 then
    qe_rV (f_Po_divide 75 74 78 m) fun m1 =>
    l16 v1 (v2 + (1 : Int32)) m1
  else
    qe_b (qm_in v3 16) (
    qe_rL (f_Nu_square (m.2 75 (Int32.toNatClampNeg v3)) m) fun x1 m2 =>
    qe_b (qm_in ((2 : Int32) * v3) 16) (
    let m3 : qm_M := qm_sL m2 75 (Int32.toNatClampNeg ((2 : Int32) * v3)) x1
    qe_b (qm_in (((2 : Int32) * v3) + (1 : Int32)) 16) (
    let m4 : qm_M := qm_sL m3 75 (Int32.toNatClampNeg (((2 : Int32) * v3) + (1 : Int32))) (0 : Int64)
    l46 v1 v2 (v3 + (-1 : Int32)) m4)))
set_option maxRecDepth 100000 in
theorem xg_Po_raiseImage_46 {kp : pm_K} {d : Nat} {f_Po_clear : Nat → qm_M → Option qm_R} {f_Po_copy : Nat → Nat → qm_M → Option qm_R} {f_Po_divide : Nat → Nat → Nat → qm_M → Option qm_R} {f_Nu_square : Int64 → qm_M → Option qm_R} {l16 : Int32 → Int32 → qm_M → Option qm_R} {l46 : Int32 → Int32 → Int32 → qm_M → Option qm_R} (hT : qe_G kp d (T_Po_raiseImage f_Po_clear f_Po_copy f_Po_divide f_Nu_square)) (h16 : ∀ (v1 : Int32) (v2 : Int32) (m : qm_M), qe_J kp md_Po_raiseImage d (l16 v1 v2 m) 16 [(0, .ref 70), (1, .int v1), (2, .int v2)] [] m) (h46 : ∀ (v1 : Int32) (v2 : Int32) (v3 : Int32) (m : qm_M), qe_J kp md_Po_raiseImage d (l46 v1 v2 v3 m) 46 [(0, .ref 70), (1, .int v1), (2, .int v2), (3, .int v3)] [] m) (v1 : Int32) (v2 : Int32) (v3 : Int32) (m : qm_M) : qe_J kp md_Po_raiseImage d (X_Po_raiseImage_46 f_Po_clear f_Po_copy f_Po_divide f_Nu_square l16 l46 v1 v2 v3 m) 46 [(0, .ref 70), (1, .int v1), (2, .int v2), (3, .int v3)] [] m := qe_run (B := [(16, [0, 1, 2], qp_cii_ 70 l16), (46, [0, 1, 2, 3], qp_ciii_ 70 l46)]) (n := 1000) hT (qe_B1 (qp_cii__ok h16) (qe_B1 (qp_ciii__ok h46) qe_B0)) rfl
def L_Po_raiseImage_46 (K16 : Int32 → Int32 → qm_M → Option qm_R) : Nat → Int32 → Int32 → Int32 → qm_M → Option qm_R
  | 0, _, _, _, _ => none
  | n + 1, v1, v2, v3, m => X_Po_raiseImage_46 F_Po_clear F_Po_copy F_Po_divide F_Nu_square K16 (L_Po_raiseImage_46 K16 n) v1 v2 v3 m
theorem lg_Po_raiseImage_46 {kp : pm_K} {d : Nat} (hT : qe_G kp d (T_Po_raiseImage F_Po_clear F_Po_copy F_Po_divide F_Nu_square)) {K16 : Int32 → Int32 → qm_M → Option qm_R} (hK16 : ∀ (v1 : Int32) (v2 : Int32) (m : qm_M), qe_J kp md_Po_raiseImage d (K16 v1 v2 m) 16 [(0, .ref 70), (1, .int v1), (2, .int v2)] [] m) : ∀ (n : Nat) (v1 : Int32) (v2 : Int32) (v3 : Int32) (m : qm_M), qe_J kp md_Po_raiseImage d (L_Po_raiseImage_46 K16 n v1 v2 v3 m) 46 [(0, .ref 70), (1, .int v1), (2, .int v2), (3, .int v3)] [] m
  | 0, v1, v2, v3, m => qe_none rfl
  | n + 1, v1, v2, v3, m => xg_Po_raiseImage_46 hT hK16 (lg_Po_raiseImage_46 hT hK16 n) v1 v2 v3 m
def X_Po_raiseImage_16 (f_Po_clear : Nat → qm_M → Option qm_R) (f_Po_copy : Nat → Nat → qm_M → Option qm_R) (f_Po_divide : Nat → Nat → Nat → qm_M → Option qm_R) (f_Nu_square : Int64 → qm_M → Option qm_R) (l46 : Int32 → Int32 → Int32 → qm_M → Option qm_R) (v1 : Int32) (v2 : Int32) (m : qm_M) : Option qm_R :=
  if v2 < v1 then
    if v2 < (16 : Int32) then
      qe_b (qm_in v2 16) (
      qe_rV (f_Po_copy 75 (qm_rf 79 (Int32.toNatClampNeg v2)) m) fun m1 =>
      l46 v1 v2 (7 : Int32) m1)
    else
      some (none, m)
  else
    some (none, m)
set_option maxRecDepth 100000 in
theorem xg_Po_raiseImage_16 {kp : pm_K} {d : Nat} {f_Po_clear : Nat → qm_M → Option qm_R} {f_Po_copy : Nat → Nat → qm_M → Option qm_R} {f_Po_divide : Nat → Nat → Nat → qm_M → Option qm_R} {f_Nu_square : Int64 → qm_M → Option qm_R} {l46 : Int32 → Int32 → Int32 → qm_M → Option qm_R} (hT : qe_G kp d (T_Po_raiseImage f_Po_clear f_Po_copy f_Po_divide f_Nu_square)) (h46 : ∀ (v1 : Int32) (v2 : Int32) (v3 : Int32) (m : qm_M), qe_J kp md_Po_raiseImage d (l46 v1 v2 v3 m) 46 [(0, .ref 70), (1, .int v1), (2, .int v2), (3, .int v3)] [] m) (v1 : Int32) (v2 : Int32) (m : qm_M) : qe_J kp md_Po_raiseImage d (X_Po_raiseImage_16 f_Po_clear f_Po_copy f_Po_divide f_Nu_square l46 v1 v2 m) 16 [(0, .ref 70), (1, .int v1), (2, .int v2)] [] m := qe_run (B := [(46, [0, 1, 2, 3], qp_ciii_ 70 l46)]) (n := 1000) hT (qe_B1 (qp_ciii__ok h46) qe_B0) rfl
def L_Po_raiseImage_16 : Nat → Int32 → Int32 → qm_M → Option qm_R
  | 0, _, _, _ => none
  | n + 1, v1, v2, m => X_Po_raiseImage_16 F_Po_clear F_Po_copy F_Po_divide F_Nu_square (L_Po_raiseImage_46 (L_Po_raiseImage_16 n) 1000000) v1 v2 m
theorem lg_Po_raiseImage_16 {kp : pm_K} {d : Nat} (hT : qe_G kp d (T_Po_raiseImage F_Po_clear F_Po_copy F_Po_divide F_Nu_square)) : ∀ (n : Nat) (v1 : Int32) (v2 : Int32) (m : qm_M), qe_J kp md_Po_raiseImage d (L_Po_raiseImage_16 n v1 v2 m) 16 [(0, .ref 70), (1, .int v1), (2, .int v2)] [] m
  | 0, v1, v2, m => qe_none rfl
  | n + 1, v1, v2, m => xg_Po_raiseImage_16 hT (lg_Po_raiseImage_46 hT (lg_Po_raiseImage_16 hT n) 1000000) v1 v2 m
def X_Po_raiseImage_e (f_Po_clear : Nat → qm_M → Option qm_R) (f_Po_copy : Nat → Nat → qm_M → Option qm_R) (f_Po_divide : Nat → Nat → Nat → qm_M → Option qm_R) (f_Nu_square : Int64 → qm_M → Option qm_R) (l16 : Int32 → Int32 → qm_M → Option qm_R) (v1 : Int32) (m : qm_M) : Option qm_R :=
  qe_rV (f_Po_clear 75 m) fun m1 =>
  let m2 : qm_M := qm_sL m1 75 1 (1 : Int64)
  l16 v1 (0 : Int32) m2
set_option maxRecDepth 100000 in
theorem xg_Po_raiseImage_e {kp : pm_K} {d : Nat} {f_Po_clear : Nat → qm_M → Option qm_R} {f_Po_copy : Nat → Nat → qm_M → Option qm_R} {f_Po_divide : Nat → Nat → Nat → qm_M → Option qm_R} {f_Nu_square : Int64 → qm_M → Option qm_R} {l16 : Int32 → Int32 → qm_M → Option qm_R} (hT : qe_G kp d (T_Po_raiseImage f_Po_clear f_Po_copy f_Po_divide f_Nu_square)) (h16 : ∀ (v1 : Int32) (v2 : Int32) (m : qm_M), qe_J kp md_Po_raiseImage d (l16 v1 v2 m) 16 [(0, .ref 70), (1, .int v1), (2, .int v2)] [] m) (v1 : Int32) (m : qm_M) : qe_J kp md_Po_raiseImage d (X_Po_raiseImage_e f_Po_clear f_Po_copy f_Po_divide f_Nu_square l16 v1 m) 0 [(0, .ref 70), (1, .int v1)] [] m := qe_run (B := [(16, [0, 1, 2], qp_cii_ 70 l16)]) (n := 1000) hT (qe_B1 (qp_cii__ok h16) qe_B0) rfl
def F_Po_raiseImage (v1 : Int32) (m : qm_M) : Option qm_R := X_Po_raiseImage_e F_Po_clear F_Po_copy F_Po_divide F_Nu_square (L_Po_raiseImage_16 1000000) v1 m
theorem fj_Po_raiseImage {kp : pm_K} {d : Nat} (hT : qe_G kp d (T_Po_raiseImage F_Po_clear F_Po_copy F_Po_divide F_Nu_square)) (v1 : Int32) (m : qm_M) : qe_J kp md_Po_raiseImage d (F_Po_raiseImage v1 m) 0 [(0, .ref 70), (1, .int v1)] [] m := xg_Po_raiseImage_e hT (lg_Po_raiseImage_16 hT 1000000) v1 m
theorem fg_Po_raiseImage {kp : pm_K} (d : Nat) : qe_GE kp (d + 35) (72, 0, 4, 0, qw_ci 70 F_Po_raiseImage) := qe_entry (by decide +kernel) (qw_ci_ok (d := d + 34) rfl rfl (fj_Po_raiseImage (qe_G1 (fg_Po_clear (d + 33)) (qe_G1 (fg_Po_copy (d + 33)) (qe_G1 (fg_Po_divide (d + 0)) (qe_G1 (fg_Nu_square (d + 11)) qe_G0))))))
/-! TurnField$Polynomials.sumTraces(JI)V -/
noncomputable def T_Po_sumTraces (f_Po_clear : Nat → qm_M → Option qm_R) (f_Nu_product : Int64 → Int64 → qm_M → Option qm_R) (f_Nu_square : Int64 → qm_M → Option qm_R) : qe_T := [(63, 1, 0, 0, qw_r f_Po_clear), (22, 1, 0, 2, qw_ll f_Nu_product), (26, 1, 0, 2, qw_l f_Nu_square)]
def X_Po_sumTraces_32 (f_Po_clear : Nat → qm_M → Option qm_R) (f_Nu_product : Int64 → Int64 → qm_M → Option qm_R) (f_Nu_square : Int64 → qm_M → Option qm_R) (l13 : Int32 → Int64 → Int32 → qm_M → Option qm_R) (l32 : Int32 → Int64 → Int32 → Int32 → qm_M → Option qm_R) (v3 : Int32) (v4 : Int64) (v6 : Int32) (v7 : Int32) (m : qm_M) : Option qm_R :=
  if v7 < (7 : Int32) then
    qe_b (qm_in v7 16) (
    qe_b (qm_in v6 16) (
    qe_b (qm_isA (qm_rf 79 (Int32.toNatClampNeg v6)) 1) (
    qe_b (qm_in v7 (qm_n (qm_rf 79 (Int32.toNatClampNeg v6)))) (
    qe_rL (f_Nu_product v4 (qm_gL m (qm_rf 79 (Int32.toNatClampNeg v6)) (Int32.toNatClampNeg v7)) m) fun x1 m1 =>
    qe_b (qm_in v7 16) (
    let m2 : qm_M := qm_sL m1 76 (Int32.toNatClampNeg v7) ((m.2 76 (Int32.toNatClampNeg v7)) ^^^ x1)
    l32 v3 v4 v6 (v7 + (1 : Int32)) m2)))))
  else
    qe_rL (f_Nu_square v4 m) fun x2 m3 =>
    l13 v3 x2 (v6 + (1 : Int32)) m3
set_option maxRecDepth 100000 in
theorem xg_Po_sumTraces_32 {kp : pm_K} {d : Nat} {f_Po_clear : Nat → qm_M → Option qm_R} {f_Nu_product : Int64 → Int64 → qm_M → Option qm_R} {f_Nu_square : Int64 → qm_M → Option qm_R} {l13 : Int32 → Int64 → Int32 → qm_M → Option qm_R} {l32 : Int32 → Int64 → Int32 → Int32 → qm_M → Option qm_R} (hT : qe_G kp d (T_Po_sumTraces f_Po_clear f_Nu_product f_Nu_square)) (h13 : ∀ (v3 : Int32) (v4 : Int64) (v6 : Int32) (m : qm_M), qe_J kp md_Po_sumTraces d (l13 v3 v4 v6 m) 13 [(0, .ref 70), (3, .int v3), (4, .long v4), (6, .int v6)] [] m) (h32 : ∀ (v3 : Int32) (v4 : Int64) (v6 : Int32) (v7 : Int32) (m : qm_M), qe_J kp md_Po_sumTraces d (l32 v3 v4 v6 v7 m) 32 [(0, .ref 70), (3, .int v3), (4, .long v4), (6, .int v6), (7, .int v7)] [] m) (v3 : Int32) (v4 : Int64) (v6 : Int32) (v7 : Int32) (m : qm_M) : qe_J kp md_Po_sumTraces d (X_Po_sumTraces_32 f_Po_clear f_Nu_product f_Nu_square l13 l32 v3 v4 v6 v7 m) 32 [(0, .ref 70), (3, .int v3), (4, .long v4), (6, .int v6), (7, .int v7)] [] m := qe_run (B := [(13, [0, 3, 4, 6], qp_cili_ 70 l13), (32, [0, 3, 4, 6, 7], qp_cilii_ 70 l32)]) (n := 1000) hT (qe_B1 (qp_cili__ok h13) (qe_B1 (qp_cilii__ok h32) qe_B0)) rfl
def L_Po_sumTraces_32 (K13 : Int32 → Int64 → Int32 → qm_M → Option qm_R) : Nat → Int32 → Int64 → Int32 → Int32 → qm_M → Option qm_R
  | 0, _, _, _, _, _ => none
  | n + 1, v3, v4, v6, v7, m => X_Po_sumTraces_32 F_Po_clear F_Nu_product F_Nu_square K13 (L_Po_sumTraces_32 K13 n) v3 v4 v6 v7 m
theorem lg_Po_sumTraces_32 {kp : pm_K} {d : Nat} (hT : qe_G kp d (T_Po_sumTraces F_Po_clear F_Nu_product F_Nu_square)) {K13 : Int32 → Int64 → Int32 → qm_M → Option qm_R} (hK13 : ∀ (v3 : Int32) (v4 : Int64) (v6 : Int32) (m : qm_M), qe_J kp md_Po_sumTraces d (K13 v3 v4 v6 m) 13 [(0, .ref 70), (3, .int v3), (4, .long v4), (6, .int v6)] [] m) : ∀ (n : Nat) (v3 : Int32) (v4 : Int64) (v6 : Int32) (v7 : Int32) (m : qm_M), qe_J kp md_Po_sumTraces d (L_Po_sumTraces_32 K13 n v3 v4 v6 v7 m) 32 [(0, .ref 70), (3, .int v3), (4, .long v4), (6, .int v6), (7, .int v7)] [] m
  | 0, v3, v4, v6, v7, m => qe_none rfl
  | n + 1, v3, v4, v6, v7, m => xg_Po_sumTraces_32 hT hK13 (lg_Po_sumTraces_32 hT hK13 n) v3 v4 v6 v7 m
def X_Po_sumTraces_13 (f_Po_clear : Nat → qm_M → Option qm_R) (f_Nu_product : Int64 → Int64 → qm_M → Option qm_R) (f_Nu_square : Int64 → qm_M → Option qm_R) (l32 : Int32 → Int64 → Int32 → Int32 → qm_M → Option qm_R) (v3 : Int32) (v4 : Int64) (v6 : Int32) (m : qm_M) : Option qm_R :=
  if v6 < v3 then
    if v6 < (16 : Int32) then
      l32 v3 v4 v6 (0 : Int32) m
    else
      some (none, m)
  else
    some (none, m)
set_option maxRecDepth 100000 in
theorem xg_Po_sumTraces_13 {kp : pm_K} {d : Nat} {f_Po_clear : Nat → qm_M → Option qm_R} {f_Nu_product : Int64 → Int64 → qm_M → Option qm_R} {f_Nu_square : Int64 → qm_M → Option qm_R} {l32 : Int32 → Int64 → Int32 → Int32 → qm_M → Option qm_R} (hT : qe_G kp d (T_Po_sumTraces f_Po_clear f_Nu_product f_Nu_square)) (h32 : ∀ (v3 : Int32) (v4 : Int64) (v6 : Int32) (v7 : Int32) (m : qm_M), qe_J kp md_Po_sumTraces d (l32 v3 v4 v6 v7 m) 32 [(0, .ref 70), (3, .int v3), (4, .long v4), (6, .int v6), (7, .int v7)] [] m) (v3 : Int32) (v4 : Int64) (v6 : Int32) (m : qm_M) : qe_J kp md_Po_sumTraces d (X_Po_sumTraces_13 f_Po_clear f_Nu_product f_Nu_square l32 v3 v4 v6 m) 13 [(0, .ref 70), (3, .int v3), (4, .long v4), (6, .int v6)] [] m := qe_run (B := [(32, [0, 3, 4, 6, 7], qp_cilii_ 70 l32)]) (n := 1000) hT (qe_B1 (qp_cilii__ok h32) qe_B0) rfl
def L_Po_sumTraces_13 : Nat → Int32 → Int64 → Int32 → qm_M → Option qm_R
  | 0, _, _, _, _ => none
  | n + 1, v3, v4, v6, m => X_Po_sumTraces_13 F_Po_clear F_Nu_product F_Nu_square (L_Po_sumTraces_32 (L_Po_sumTraces_13 n) 1000000) v3 v4 v6 m
theorem lg_Po_sumTraces_13 {kp : pm_K} {d : Nat} (hT : qe_G kp d (T_Po_sumTraces F_Po_clear F_Nu_product F_Nu_square)) : ∀ (n : Nat) (v3 : Int32) (v4 : Int64) (v6 : Int32) (m : qm_M), qe_J kp md_Po_sumTraces d (L_Po_sumTraces_13 n v3 v4 v6 m) 13 [(0, .ref 70), (3, .int v3), (4, .long v4), (6, .int v6)] [] m
  | 0, v3, v4, v6, m => qe_none rfl
  | n + 1, v3, v4, v6, m => xg_Po_sumTraces_13 hT (lg_Po_sumTraces_32 hT (lg_Po_sumTraces_13 hT n) 1000000) v3 v4 v6 m
def X_Po_sumTraces_e (f_Po_clear : Nat → qm_M → Option qm_R) (f_Nu_product : Int64 → Int64 → qm_M → Option qm_R) (f_Nu_square : Int64 → qm_M → Option qm_R) (l13 : Int32 → Int64 → Int32 → qm_M → Option qm_R) (v1 : Int64) (v3 : Int32) (m : qm_M) : Option qm_R :=
  qe_rV (f_Po_clear 76 m) fun m1 =>
  l13 v3 v1 (0 : Int32) m1
set_option maxRecDepth 100000 in
theorem xg_Po_sumTraces_e {kp : pm_K} {d : Nat} {f_Po_clear : Nat → qm_M → Option qm_R} {f_Nu_product : Int64 → Int64 → qm_M → Option qm_R} {f_Nu_square : Int64 → qm_M → Option qm_R} {l13 : Int32 → Int64 → Int32 → qm_M → Option qm_R} (hT : qe_G kp d (T_Po_sumTraces f_Po_clear f_Nu_product f_Nu_square)) (h13 : ∀ (v3 : Int32) (v4 : Int64) (v6 : Int32) (m : qm_M), qe_J kp md_Po_sumTraces d (l13 v3 v4 v6 m) 13 [(0, .ref 70), (3, .int v3), (4, .long v4), (6, .int v6)] [] m) (v1 : Int64) (v3 : Int32) (m : qm_M) : qe_J kp md_Po_sumTraces d (X_Po_sumTraces_e f_Po_clear f_Nu_product f_Nu_square l13 v1 v3 m) 0 [(0, .ref 70), (1, .long v1), (3, .int v3)] [] m := qe_run (B := [(13, [0, 3, 4, 6], qp_cili_ 70 l13)]) (n := 1000) hT (qe_B1 (qp_cili__ok h13) qe_B0) rfl
def F_Po_sumTraces (v1 : Int64) (v3 : Int32) (m : qm_M) : Option qm_R := X_Po_sumTraces_e F_Po_clear F_Nu_product F_Nu_square (L_Po_sumTraces_13 1000000) v1 v3 m
theorem fj_Po_sumTraces {kp : pm_K} {d : Nat} (hT : qe_G kp d (T_Po_sumTraces F_Po_clear F_Nu_product F_Nu_square)) (v1 : Int64) (v3 : Int32) (m : qm_M) : qe_J kp md_Po_sumTraces d (F_Po_sumTraces v1 v3 m) 0 [(0, .ref 70), (1, .long v1), (3, .int v3)] [] m := xg_Po_sumTraces_e hT (lg_Po_sumTraces_13 hT 1000000) v1 v3 m
theorem fg_Po_sumTraces {kp : pm_K} (d : Nat) : qe_GE kp (d + 34) (73, 0, 4, 0, qw_cli 70 F_Po_sumTraces) := qe_entry (by decide +kernel) (qw_cli_ok (d := d + 33) rfl rfl (fj_Po_sumTraces (qe_G1 (fg_Po_clear (d + 32)) (qe_G1 (fg_Nu_product (d + 0)) (qe_G1 (fg_Nu_square (d + 10)) qe_G0)))))
/-! TurnField$Polynomials.splitParts()V -/
noncomputable def T_Po_splitParts (f_Po_copy : Nat → Nat → qm_M → Option qm_R) (f_Po_meet : Nat → Nat → Nat → qm_M → Option qm_R) (f_Po_degreeOf : Nat → qm_M → Option qm_R) (f_Po_divide : Nat → Nat → Nat → qm_M → Option qm_R) : qe_T := [(64, 1, 0, 0, qw_rr f_Po_copy), (68, 1, 0, 0, qw_rrr f_Po_meet), (61, 1, 0, 1, qw_r f_Po_degreeOf), (67, 1, 0, 0, qw_rrr f_Po_divide)]
def X_Po_splitParts_7 (f_Po_copy : Nat → Nat → qm_M → Option qm_R) (f_Po_meet : Nat → Nat → Nat → qm_M → Option qm_R) (f_Po_degreeOf : Nat → qm_M → Option qm_R) (f_Po_divide : Nat → Nat → Nat → qm_M → Option qm_R) (l7 : Int32 → Int32 → qm_M → Option qm_R) (v1 : Int32) (v2 : Int32) (m : qm_M) : Option qm_R :=
  if v2 < v1 then
    if (m.1 70 13) < (8 : Int32) then
      qe_b (qm_in (m.1 70 13) 8) (
      qe_b (qm_in v2 8) (
      qe_rV (f_Po_copy (qm_rf 96 (Int32.toNatClampNeg v2)) (qm_rf 96 (Int32.toNatClampNeg (m.1 70 13))) m) fun m1 =>
      qe_rV (f_Po_copy 76 75 m1) fun m2 =>
      qe_rV (f_Po_meet (qm_rf 96 (Int32.toNatClampNeg (m.1 70 13))) 75 77 m2) fun m3 =>
      qe_rI (f_Po_degreeOf (qm_rf 96 (Int32.toNatClampNeg (m.1 70 13))) m3) fun x1 m4 =>
      if 0 < x1 then
        qe_b (qm_in v2 8) (
        qe_rI (f_Po_degreeOf (qm_rf 96 (Int32.toNatClampNeg v2)) m4) fun x2 m5 =>
        if x1 < x2 then
          qe_b (qm_in v2 8) (
          qe_rV (f_Po_divide (qm_rf 96 (Int32.toNatClampNeg v2)) (qm_rf 96 (Int32.toNatClampNeg (m.1 70 13))) 78 m5) fun m6 =>
          qe_b (qm_in v2 8) (
          qe_rV (f_Po_copy 78 (qm_rf 96 (Int32.toNatClampNeg v2)) m6) fun m7 =>
          let m8 : qm_M := qm_sI m7 70 13 ((m7.1 70 13) + (1 : Int32))
          l7 v1 (v2 + (1 : Int32)) m8))
        else
          l7 v1 (v2 + (1 : Int32)) m5)
      else
        l7 v1 (v2 + (1 : Int32)) m4))
    else
      some (none, m)
  else
    some (none, m)
set_option maxRecDepth 100000 in
theorem xg_Po_splitParts_7 {kp : pm_K} {d : Nat} {f_Po_copy : Nat → Nat → qm_M → Option qm_R} {f_Po_meet : Nat → Nat → Nat → qm_M → Option qm_R} {f_Po_degreeOf : Nat → qm_M → Option qm_R} {f_Po_divide : Nat → Nat → Nat → qm_M → Option qm_R} {l7 : Int32 → Int32 → qm_M → Option qm_R} (hT : qe_G kp d (T_Po_splitParts f_Po_copy f_Po_meet f_Po_degreeOf f_Po_divide)) (h7 : ∀ (v1 : Int32) (v2 : Int32) (m : qm_M), qe_J kp md_Po_splitParts d (l7 v1 v2 m) 7 [(0, .ref 70), (1, .int v1), (2, .int v2)] [] m) (v1 : Int32) (v2 : Int32) (m : qm_M) : qe_J kp md_Po_splitParts d (X_Po_splitParts_7 f_Po_copy f_Po_meet f_Po_degreeOf f_Po_divide l7 v1 v2 m) 7 [(0, .ref 70), (1, .int v1), (2, .int v2)] [] m := qe_run (B := [(7, [0, 1, 2], qp_cii_ 70 l7)]) (n := 1000) hT (qe_B1 (qp_cii__ok h7) qe_B0) rfl
def L_Po_splitParts_7 : Nat → Int32 → Int32 → qm_M → Option qm_R
  | 0, _, _, _ => none
  | n + 1, v1, v2, m => X_Po_splitParts_7 F_Po_copy F_Po_meet F_Po_degreeOf F_Po_divide (L_Po_splitParts_7 n) v1 v2 m
theorem lg_Po_splitParts_7 {kp : pm_K} {d : Nat} (hT : qe_G kp d (T_Po_splitParts F_Po_copy F_Po_meet F_Po_degreeOf F_Po_divide)) : ∀ (n : Nat) (v1 : Int32) (v2 : Int32) (m : qm_M), qe_J kp md_Po_splitParts d (L_Po_splitParts_7 n v1 v2 m) 7 [(0, .ref 70), (1, .int v1), (2, .int v2)] [] m
  | 0, v1, v2, m => qe_none rfl
  | n + 1, v1, v2, m => xg_Po_splitParts_7 hT (lg_Po_splitParts_7 hT n) v1 v2 m
def X_Po_splitParts_e (f_Po_copy : Nat → Nat → qm_M → Option qm_R) (f_Po_meet : Nat → Nat → Nat → qm_M → Option qm_R) (f_Po_degreeOf : Nat → qm_M → Option qm_R) (f_Po_divide : Nat → Nat → Nat → qm_M → Option qm_R) (l7 : Int32 → Int32 → qm_M → Option qm_R)  (m : qm_M) : Option qm_R :=
  l7 (m.1 70 13) (0 : Int32) m
set_option maxRecDepth 100000 in
theorem xg_Po_splitParts_e {kp : pm_K} {d : Nat} {f_Po_copy : Nat → Nat → qm_M → Option qm_R} {f_Po_meet : Nat → Nat → Nat → qm_M → Option qm_R} {f_Po_degreeOf : Nat → qm_M → Option qm_R} {f_Po_divide : Nat → Nat → Nat → qm_M → Option qm_R} {l7 : Int32 → Int32 → qm_M → Option qm_R} (hT : qe_G kp d (T_Po_splitParts f_Po_copy f_Po_meet f_Po_degreeOf f_Po_divide)) (h7 : ∀ (v1 : Int32) (v2 : Int32) (m : qm_M), qe_J kp md_Po_splitParts d (l7 v1 v2 m) 7 [(0, .ref 70), (1, .int v1), (2, .int v2)] [] m) (m : qm_M) : qe_J kp md_Po_splitParts d (X_Po_splitParts_e f_Po_copy f_Po_meet f_Po_degreeOf f_Po_divide l7 m) 0 [(0, .ref 70)] [] m := qe_run (B := [(7, [0, 1, 2], qp_cii_ 70 l7)]) (n := 1000) hT (qe_B1 (qp_cii__ok h7) qe_B0) rfl
def F_Po_splitParts (m : qm_M) : Option qm_R := X_Po_splitParts_e F_Po_copy F_Po_meet F_Po_degreeOf F_Po_divide (L_Po_splitParts_7 1000000) m
theorem fj_Po_splitParts {kp : pm_K} {d : Nat} (hT : qe_G kp d (T_Po_splitParts F_Po_copy F_Po_meet F_Po_degreeOf F_Po_divide)) (m : qm_M) : qe_J kp md_Po_splitParts d (F_Po_splitParts m) 0 [(0, .ref 70)] [] m := xg_Po_splitParts_e hT (lg_Po_splitParts_7 hT 1000000) m
theorem fg_Po_splitParts {kp : pm_K} (d : Nat) : qe_GE kp (d + 36) (74, 0, 4, 0, qw_c 70 F_Po_splitParts) := qe_entry (by decide +kernel) (qw_c_ok (d := d + 35) rfl rfl (fj_Po_splitParts (qe_G1 (fg_Po_copy (d + 34)) (qe_G1 (fg_Po_meet (d + 0)) (qe_G1 (fg_Po_degreeOf (d + 34)) (qe_G1 (fg_Po_divide (d + 1)) qe_G0))))))
/-! TurnField$Polynomials.insertResult(I)V -/
noncomputable def T_Po_insertResult : qe_T := []
def X_Po_insertResult_41 (v1 : Int32) (v2 : Int32) (m : qm_M) : Option qm_R :=
  qe_b (qm_in v2 7) (
  let m1 : qm_M := qm_sI m 105 (Int32.toNatClampNeg v2) v1
  let m2 : qm_M := qm_sI m1 70 14 ((m1.1 70 14) + (1 : Int32))
  some (none, m2))
set_option maxRecDepth 100000 in
theorem xg_Po_insertResult_41 {kp : pm_K} {d : Nat} (hT : qe_G kp d (T_Po_insertResult)) (v1 : Int32) (v2 : Int32) (m : qm_M) : qe_J kp md_Po_insertResult d (X_Po_insertResult_41 v1 v2 m) 41 [(0, .ref 70), (1, .int v1), (2, .int v2)] [] m := qe_run (B := []) (n := 1000) hT qe_B0 rfl
def L_Po_insertResult_41 (v1 : Int32) (v2 : Int32) (m : qm_M) : Option qm_R := X_Po_insertResult_41 v1 v2 m
theorem lg_Po_insertResult_41 {kp : pm_K} {d : Nat} (hT : qe_G kp d (T_Po_insertResult)) (v1 : Int32) (v2 : Int32) (m : qm_M) : qe_J kp md_Po_insertResult d (L_Po_insertResult_41 v1 v2 m) 41 [(0, .ref 70), (1, .int v1), (2, .int v2)] [] m := xg_Po_insertResult_41 hT v1 v2 m
def X_Po_insertResult_5 (l5 : Int32 → Int32 → qm_M → Option qm_R) (l41 : Int32 → Int32 → qm_M → Option qm_R) (v1 : Int32) (v2 : Int32) (m : qm_M) : Option qm_R :=
  if 0 < v2 then
    qe_b (qm_in (v2 - (1 : Int32)) 7) (
    if v1 < (m.1 105 (Int32.toNatClampNeg (v2 - (1 : Int32)))) then
      qe_b (qm_in (v2 - (1 : Int32)) 7) (
      qe_b (qm_in v2 7) (
      let m1 : qm_M := qm_sI m 105 (Int32.toNatClampNeg v2) (m.1 105 (Int32.toNatClampNeg (v2 - (1 : Int32))))
      l5 v1 (v2 + (-1 : Int32)) m1))
    else
      l41 v1 v2 m)
  else
    l41 v1 v2 m
set_option maxRecDepth 100000 in
theorem xg_Po_insertResult_5 {kp : pm_K} {d : Nat} {l5 : Int32 → Int32 → qm_M → Option qm_R} {l41 : Int32 → Int32 → qm_M → Option qm_R} (hT : qe_G kp d (T_Po_insertResult)) (h5 : ∀ (v1 : Int32) (v2 : Int32) (m : qm_M), qe_J kp md_Po_insertResult d (l5 v1 v2 m) 5 [(0, .ref 70), (1, .int v1), (2, .int v2)] [] m) (h41 : ∀ (v1 : Int32) (v2 : Int32) (m : qm_M), qe_J kp md_Po_insertResult d (l41 v1 v2 m) 41 [(0, .ref 70), (1, .int v1), (2, .int v2)] [] m) (v1 : Int32) (v2 : Int32) (m : qm_M) : qe_J kp md_Po_insertResult d (X_Po_insertResult_5 l5 l41 v1 v2 m) 5 [(0, .ref 70), (1, .int v1), (2, .int v2)] [] m := qe_run (B := [(5, [0, 1, 2], qp_cii_ 70 l5), (41, [0, 1, 2], qp_cii_ 70 l41)]) (n := 1000) hT (qe_B1 (qp_cii__ok h5) (qe_B1 (qp_cii__ok h41) qe_B0)) rfl
def L_Po_insertResult_5 : Nat → Int32 → Int32 → qm_M → Option qm_R
  | 0, _, _, _ => none
  | n + 1, v1, v2, m => X_Po_insertResult_5 (L_Po_insertResult_5 n) (L_Po_insertResult_41) v1 v2 m
theorem lg_Po_insertResult_5 {kp : pm_K} {d : Nat} (hT : qe_G kp d (T_Po_insertResult)) : ∀ (n : Nat) (v1 : Int32) (v2 : Int32) (m : qm_M), qe_J kp md_Po_insertResult d (L_Po_insertResult_5 n v1 v2 m) 5 [(0, .ref 70), (1, .int v1), (2, .int v2)] [] m
  | 0, v1, v2, m => qe_none rfl
  | n + 1, v1, v2, m => xg_Po_insertResult_5 hT (lg_Po_insertResult_5 hT n) (lg_Po_insertResult_41 hT) v1 v2 m
def X_Po_insertResult_e (l5 : Int32 → Int32 → qm_M → Option qm_R) (v1 : Int32) (m : qm_M) : Option qm_R :=
  l5 v1 (m.1 70 14) m
set_option maxRecDepth 100000 in
theorem xg_Po_insertResult_e {kp : pm_K} {d : Nat} {l5 : Int32 → Int32 → qm_M → Option qm_R} (hT : qe_G kp d (T_Po_insertResult)) (h5 : ∀ (v1 : Int32) (v2 : Int32) (m : qm_M), qe_J kp md_Po_insertResult d (l5 v1 v2 m) 5 [(0, .ref 70), (1, .int v1), (2, .int v2)] [] m) (v1 : Int32) (m : qm_M) : qe_J kp md_Po_insertResult d (X_Po_insertResult_e l5 v1 m) 0 [(0, .ref 70), (1, .int v1)] [] m := qe_run (B := [(5, [0, 1, 2], qp_cii_ 70 l5)]) (n := 1000) hT (qe_B1 (qp_cii__ok h5) qe_B0) rfl
def F_Po_insertResult (v1 : Int32) (m : qm_M) : Option qm_R := X_Po_insertResult_e (L_Po_insertResult_5 1000000) v1 m
theorem fj_Po_insertResult {kp : pm_K} {d : Nat} (hT : qe_G kp d (T_Po_insertResult)) (v1 : Int32) (m : qm_M) : qe_J kp md_Po_insertResult d (F_Po_insertResult v1 m) 0 [(0, .ref 70), (1, .int v1)] [] m := xg_Po_insertResult_e hT (lg_Po_insertResult_5 hT 1000000) v1 m
theorem fg_Po_insertResult {kp : pm_K} (d : Nat) : qe_GE kp (d + 1) (76, 0, 4, 0, qw_ci 70 F_Po_insertResult) := qe_entry (by decide +kernel) (qw_ci_ok (d := d + 0) rfl rfl (fj_Po_insertResult qe_G0))
/-! TurnField$Polynomials.readResults()V -/
noncomputable def T_Po_readResults (f_Po_degreeOf : Nat → qm_M → Option qm_R) (f_Po_insertResult : Int32 → qm_M → Option qm_R) : qe_T := [(61, 1, 0, 1, qw_r f_Po_degreeOf), (76, 0, 4, 0, qw_ci 70 f_Po_insertResult)]
def X_Po_readResults_7 (f_Po_degreeOf : Nat → qm_M → Option qm_R) (f_Po_insertResult : Int32 → qm_M → Option qm_R) (l7 : Int32 → qm_M → Option qm_R) (v1 : Int32) (m : qm_M) : Option qm_R :=
  if v1 < (m.1 70 13) then
    if (m.1 70 14) < (7 : Int32) then
      qe_b (qm_in v1 8) (
      qe_rI (f_Po_degreeOf (qm_rf 96 (Int32.toNatClampNeg v1)) m) fun x1 m1 =>
      if x1 = (1 : Int32) then
        qe_b (qm_in v1 8) (
        qe_b (qm_isA (qm_rf 96 (Int32.toNatClampNeg v1)) 1) (
        qe_b (qm_in (0 : Int32) (qm_n (qm_rf 96 (Int32.toNatClampNeg v1)))) (
        qe_rV (f_Po_insertResult (Int64.toInt32 (qm_gL m1 (qm_rf 96 (Int32.toNatClampNeg v1)) 0)) m1) fun m2 =>
        l7 (v1 + (1 : Int32)) m2)))
      else
        l7 (v1 + (1 : Int32)) m1)
    else
      some (none, m)
  else
    some (none, m)
set_option maxRecDepth 100000 in
theorem xg_Po_readResults_7 {kp : pm_K} {d : Nat} {f_Po_degreeOf : Nat → qm_M → Option qm_R} {f_Po_insertResult : Int32 → qm_M → Option qm_R} {l7 : Int32 → qm_M → Option qm_R} (hT : qe_G kp d (T_Po_readResults f_Po_degreeOf f_Po_insertResult)) (h7 : ∀ (v1 : Int32) (m : qm_M), qe_J kp md_Po_readResults d (l7 v1 m) 7 [(0, .ref 70), (1, .int v1)] [] m) (v1 : Int32) (m : qm_M) : qe_J kp md_Po_readResults d (X_Po_readResults_7 f_Po_degreeOf f_Po_insertResult l7 v1 m) 7 [(0, .ref 70), (1, .int v1)] [] m := qe_run (B := [(7, [0, 1], qp_ci_ 70 l7)]) (n := 1000) hT (qe_B1 (qp_ci__ok h7) qe_B0) rfl
def L_Po_readResults_7 : Nat → Int32 → qm_M → Option qm_R
  | 0, _, _ => none
  | n + 1, v1, m => X_Po_readResults_7 F_Po_degreeOf F_Po_insertResult (L_Po_readResults_7 n) v1 m
theorem lg_Po_readResults_7 {kp : pm_K} {d : Nat} (hT : qe_G kp d (T_Po_readResults F_Po_degreeOf F_Po_insertResult)) : ∀ (n : Nat) (v1 : Int32) (m : qm_M), qe_J kp md_Po_readResults d (L_Po_readResults_7 n v1 m) 7 [(0, .ref 70), (1, .int v1)] [] m
  | 0, v1, m => qe_none rfl
  | n + 1, v1, m => xg_Po_readResults_7 hT (lg_Po_readResults_7 hT n) v1 m
def X_Po_readResults_e (f_Po_degreeOf : Nat → qm_M → Option qm_R) (f_Po_insertResult : Int32 → qm_M → Option qm_R) (l7 : Int32 → qm_M → Option qm_R)  (m : qm_M) : Option qm_R :=
  let m1 : qm_M := qm_sI m 70 14 (0 : Int32)
  l7 (0 : Int32) m1
set_option maxRecDepth 100000 in
theorem xg_Po_readResults_e {kp : pm_K} {d : Nat} {f_Po_degreeOf : Nat → qm_M → Option qm_R} {f_Po_insertResult : Int32 → qm_M → Option qm_R} {l7 : Int32 → qm_M → Option qm_R} (hT : qe_G kp d (T_Po_readResults f_Po_degreeOf f_Po_insertResult)) (h7 : ∀ (v1 : Int32) (m : qm_M), qe_J kp md_Po_readResults d (l7 v1 m) 7 [(0, .ref 70), (1, .int v1)] [] m) (m : qm_M) : qe_J kp md_Po_readResults d (X_Po_readResults_e f_Po_degreeOf f_Po_insertResult l7 m) 0 [(0, .ref 70)] [] m := qe_run (B := [(7, [0, 1], qp_ci_ 70 l7)]) (n := 1000) hT (qe_B1 (qp_ci__ok h7) qe_B0) rfl
def F_Po_readResults (m : qm_M) : Option qm_R := X_Po_readResults_e F_Po_degreeOf F_Po_insertResult (L_Po_readResults_7 1000000) m
theorem fj_Po_readResults {kp : pm_K} {d : Nat} (hT : qe_G kp d (T_Po_readResults F_Po_degreeOf F_Po_insertResult)) (m : qm_M) : qe_J kp md_Po_readResults d (F_Po_readResults m) 0 [(0, .ref 70)] [] m := xg_Po_readResults_e hT (lg_Po_readResults_7 hT 1000000) m
theorem fg_Po_readResults {kp : pm_K} (d : Nat) : qe_GE kp (d + 2) (75, 0, 4, 0, qw_c 70 F_Po_readResults) := qe_entry (by decide +kernel) (qw_c_ok (d := d + 1) rfl rfl (fj_Po_readResults (qe_G1 (fg_Po_degreeOf (d + 0)) (qe_G1 (fg_Po_insertResult (d + 0)) qe_G0))))
/-! TurnField$Polynomials.findRoots([JI)V -/
noncomputable def T_Po_findRoots (f_Po_areAlike : Nat → Nat → qm_M → Option qm_R) (f_Po_copy : Nat → Nat → qm_M → Option qm_R) (f_Po_makeMonic : Nat → qm_M → Option qm_R) (f_Po_raiseImage : Int32 → qm_M → Option qm_R) (f_Po_meet : Nat → Nat → Nat → qm_M → Option qm_R) (f_Po_sumTraces : Int64 → Int32 → qm_M → Option qm_R) (f_Po_splitParts : qm_M → Option qm_R) (f_Po_readResults : qm_M → Option qm_R) : qe_T := [(65, 1, 0, 1, qw_rr f_Po_areAlike), (64, 1, 0, 0, qw_rr f_Po_copy), (66, 1, 0, 0, qw_r f_Po_makeMonic), (72, 0, 4, 0, qw_ci 70 f_Po_raiseImage), (68, 1, 0, 0, qw_rrr f_Po_meet), (73, 0, 4, 0, qw_cli 70 f_Po_sumTraces), (74, 0, 4, 0, qw_c 70 f_Po_splitParts), (75, 0, 4, 0, qw_c 70 f_Po_readResults)]
def X_Po_findRoots_103 (f_Po_areAlike : Nat → Nat → qm_M → Option qm_R) (f_Po_copy : Nat → Nat → qm_M → Option qm_R) (f_Po_makeMonic : Nat → qm_M → Option qm_R) (f_Po_raiseImage : Int32 → qm_M → Option qm_R) (f_Po_meet : Nat → Nat → Nat → qm_M → Option qm_R) (f_Po_sumTraces : Int64 → Int32 → qm_M → Option qm_R) (f_Po_splitParts : qm_M → Option qm_R) (f_Po_readResults : qm_M → Option qm_R) (l103 : Int32 → Int32 → qm_M → Option qm_R) (v3 : Int32) (v4 : Int32) (m : qm_M) : Option qm_R :=
  if v4 < v3 then
    qe_rV (f_Po_sumTraces (qo_lshl (1 : Int64) v4) v3 m) fun m1 =>
    qe_rV (f_Po_splitParts m1) fun m2 =>
    l103 v3 (v4 + (1 : Int32)) m2
  else
    qe_rV (f_Po_readResults m) fun m3 =>
    some (none, m3)
set_option maxRecDepth 100000 in
theorem xg_Po_findRoots_103 {kp : pm_K} {d : Nat} {f_Po_areAlike : Nat → Nat → qm_M → Option qm_R} {f_Po_copy : Nat → Nat → qm_M → Option qm_R} {f_Po_makeMonic : Nat → qm_M → Option qm_R} {f_Po_raiseImage : Int32 → qm_M → Option qm_R} {f_Po_meet : Nat → Nat → Nat → qm_M → Option qm_R} {f_Po_sumTraces : Int64 → Int32 → qm_M → Option qm_R} {f_Po_splitParts : qm_M → Option qm_R} {f_Po_readResults : qm_M → Option qm_R} {l103 : Int32 → Int32 → qm_M → Option qm_R} (hT : qe_G kp d (T_Po_findRoots f_Po_areAlike f_Po_copy f_Po_makeMonic f_Po_raiseImage f_Po_meet f_Po_sumTraces f_Po_splitParts f_Po_readResults)) (h103 : ∀ (v3 : Int32) (v4 : Int32) (m : qm_M), qe_J kp md_Po_findRoots d (l103 v3 v4 m) 103 [(0, .ref 70), (3, .int v3), (4, .int v4)] [] m) (v3 : Int32) (v4 : Int32) (m : qm_M) : qe_J kp md_Po_findRoots d (X_Po_findRoots_103 f_Po_areAlike f_Po_copy f_Po_makeMonic f_Po_raiseImage f_Po_meet f_Po_sumTraces f_Po_splitParts f_Po_readResults l103 v3 v4 m) 103 [(0, .ref 70), (3, .int v3), (4, .int v4)] [] m := qe_run (B := [(103, [0, 3, 4], qp_cii_ 70 l103)]) (n := 1000) hT (qe_B1 (qp_cii__ok h103) qe_B0) rfl
def L_Po_findRoots_103 : Nat → Int32 → Int32 → qm_M → Option qm_R
  | 0, _, _, _ => none
  | n + 1, v3, v4, m => X_Po_findRoots_103 F_Po_areAlike F_Po_copy F_Po_makeMonic F_Po_raiseImage F_Po_meet F_Po_sumTraces F_Po_splitParts F_Po_readResults (L_Po_findRoots_103 n) v3 v4 m
theorem lg_Po_findRoots_103 {kp : pm_K} {d : Nat} (hT : qe_G kp d (T_Po_findRoots F_Po_areAlike F_Po_copy F_Po_makeMonic F_Po_raiseImage F_Po_meet F_Po_sumTraces F_Po_splitParts F_Po_readResults)) : ∀ (n : Nat) (v3 : Int32) (v4 : Int32) (m : qm_M), qe_J kp md_Po_findRoots d (L_Po_findRoots_103 n v3 v4 m) 103 [(0, .ref 70), (3, .int v3), (4, .int v4)] [] m
  | 0, v3, v4, m => qe_none rfl
  | n + 1, v3, v4, m => xg_Po_findRoots_103 hT (lg_Po_findRoots_103 hT n) v3 v4 m
def X_Po_findRoots_20 (f_Po_areAlike : Nat → Nat → qm_M → Option qm_R) (f_Po_copy : Nat → Nat → qm_M → Option qm_R) (f_Po_makeMonic : Nat → qm_M → Option qm_R) (f_Po_raiseImage : Int32 → qm_M → Option qm_R) (f_Po_meet : Nat → Nat → Nat → qm_M → Option qm_R) (f_Po_sumTraces : Int64 → Int32 → qm_M → Option qm_R) (f_Po_splitParts : qm_M → Option qm_R) (f_Po_readResults : qm_M → Option qm_R) (l103 : Int32 → Int32 → qm_M → Option qm_R) (v2 : Int32) (m : qm_M) : Option qm_R :=
  let m1 : qm_M := qm_sI m 70 12 v2
  qe_rV (f_Po_copy 2 106 m1) fun m2 =>
  qe_rV (f_Po_copy 2 74 m2) fun m3 =>
  qe_rV (f_Po_makeMonic 74 m3) fun m4 =>
  qe_rV (f_Po_raiseImage (qo_ishl (1 : Int32) v2) m4) fun m5 =>
  let m6 : qm_M := qm_sL m5 75 1 ((m5.2 75 1) ^^^ (1 : Int64))
  qe_rV (f_Po_meet 74 75 77 m6) fun m7 =>
  let m8 : qm_M := qm_sI m7 70 13 (1 : Int32)
  qe_rV (f_Po_copy 74 97 m8) fun m9 =>
  l103 (qo_ishl (1 : Int32) v2) (0 : Int32) m9
set_option maxRecDepth 100000 in
theorem xg_Po_findRoots_20 {kp : pm_K} {d : Nat} {f_Po_areAlike : Nat → Nat → qm_M → Option qm_R} {f_Po_copy : Nat → Nat → qm_M → Option qm_R} {f_Po_makeMonic : Nat → qm_M → Option qm_R} {f_Po_raiseImage : Int32 → qm_M → Option qm_R} {f_Po_meet : Nat → Nat → Nat → qm_M → Option qm_R} {f_Po_sumTraces : Int64 → Int32 → qm_M → Option qm_R} {f_Po_splitParts : qm_M → Option qm_R} {f_Po_readResults : qm_M → Option qm_R} {l103 : Int32 → Int32 → qm_M → Option qm_R} (hT : qe_G kp d (T_Po_findRoots f_Po_areAlike f_Po_copy f_Po_makeMonic f_Po_raiseImage f_Po_meet f_Po_sumTraces f_Po_splitParts f_Po_readResults)) (h103 : ∀ (v3 : Int32) (v4 : Int32) (m : qm_M), qe_J kp md_Po_findRoots d (l103 v3 v4 m) 103 [(0, .ref 70), (3, .int v3), (4, .int v4)] [] m) (v2 : Int32) (m : qm_M) : qe_J kp md_Po_findRoots d (X_Po_findRoots_20 f_Po_areAlike f_Po_copy f_Po_makeMonic f_Po_raiseImage f_Po_meet f_Po_sumTraces f_Po_splitParts f_Po_readResults l103 v2 m) 20 [(0, .ref 70), (1, .ref 2), (2, .int v2)] [] m := qe_run (B := [(103, [0, 3, 4], qp_cii_ 70 l103)]) (n := 1000) hT (qe_B1 (qp_cii__ok h103) qe_B0) rfl
def L_Po_findRoots_20 (v2 : Int32) (m : qm_M) : Option qm_R := X_Po_findRoots_20 F_Po_areAlike F_Po_copy F_Po_makeMonic F_Po_raiseImage F_Po_meet F_Po_sumTraces F_Po_splitParts F_Po_readResults (L_Po_findRoots_103 1000000) v2 m
theorem lg_Po_findRoots_20 {kp : pm_K} {d : Nat} (hT : qe_G kp d (T_Po_findRoots F_Po_areAlike F_Po_copy F_Po_makeMonic F_Po_raiseImage F_Po_meet F_Po_sumTraces F_Po_splitParts F_Po_readResults)) (v2 : Int32) (m : qm_M) : qe_J kp md_Po_findRoots d (L_Po_findRoots_20 v2 m) 20 [(0, .ref 70), (1, .ref 2), (2, .int v2)] [] m := xg_Po_findRoots_20 hT (lg_Po_findRoots_103 hT 1000000) v2 m
def X_Po_findRoots_e (f_Po_areAlike : Nat → Nat → qm_M → Option qm_R) (f_Po_copy : Nat → Nat → qm_M → Option qm_R) (f_Po_makeMonic : Nat → qm_M → Option qm_R) (f_Po_raiseImage : Int32 → qm_M → Option qm_R) (f_Po_meet : Nat → Nat → Nat → qm_M → Option qm_R) (f_Po_sumTraces : Int64 → Int32 → qm_M → Option qm_R) (f_Po_splitParts : qm_M → Option qm_R) (f_Po_readResults : qm_M → Option qm_R) (l20 : Int32 → qm_M → Option qm_R) (v2 : Int32) (m : qm_M) : Option qm_R :=
  if v2 = (m.1 70 12) then
    qe_rI (f_Po_areAlike 2 106 m) fun x1 m1 =>
    if x1 = 0 then
      l20 v2 m1
    else
      some (none, m1)
  else
    l20 v2 m
set_option maxRecDepth 100000 in
theorem xg_Po_findRoots_e {kp : pm_K} {d : Nat} {f_Po_areAlike : Nat → Nat → qm_M → Option qm_R} {f_Po_copy : Nat → Nat → qm_M → Option qm_R} {f_Po_makeMonic : Nat → qm_M → Option qm_R} {f_Po_raiseImage : Int32 → qm_M → Option qm_R} {f_Po_meet : Nat → Nat → Nat → qm_M → Option qm_R} {f_Po_sumTraces : Int64 → Int32 → qm_M → Option qm_R} {f_Po_splitParts : qm_M → Option qm_R} {f_Po_readResults : qm_M → Option qm_R} {l20 : Int32 → qm_M → Option qm_R} (hT : qe_G kp d (T_Po_findRoots f_Po_areAlike f_Po_copy f_Po_makeMonic f_Po_raiseImage f_Po_meet f_Po_sumTraces f_Po_splitParts f_Po_readResults)) (h20 : ∀ (v2 : Int32) (m : qm_M), qe_J kp md_Po_findRoots d (l20 v2 m) 20 [(0, .ref 70), (1, .ref 2), (2, .int v2)] [] m) (v2 : Int32) (m : qm_M) : qe_J kp md_Po_findRoots d (X_Po_findRoots_e f_Po_areAlike f_Po_copy f_Po_makeMonic f_Po_raiseImage f_Po_meet f_Po_sumTraces f_Po_splitParts f_Po_readResults l20 v2 m) 0 [(0, .ref 70), (1, .ref 2), (2, .int v2)] [] m := qe_run (B := [(20, [0, 1, 2], qp_cci_ 70 2 l20)]) (n := 1000) hT (qe_B1 (qp_cci__ok h20) qe_B0) rfl
def F_Po_findRoots (v2 : Int32) (m : qm_M) : Option qm_R := X_Po_findRoots_e F_Po_areAlike F_Po_copy F_Po_makeMonic F_Po_raiseImage F_Po_meet F_Po_sumTraces F_Po_splitParts F_Po_readResults (L_Po_findRoots_20) v2 m
theorem fj_Po_findRoots {kp : pm_K} {d : Nat} (hT : qe_G kp d (T_Po_findRoots F_Po_areAlike F_Po_copy F_Po_makeMonic F_Po_raiseImage F_Po_meet F_Po_sumTraces F_Po_splitParts F_Po_readResults)) (v2 : Int32) (m : qm_M) : qe_J kp md_Po_findRoots d (F_Po_findRoots v2 m) 0 [(0, .ref 70), (1, .ref 2), (2, .int v2)] [] m := xg_Po_findRoots_e hT (lg_Po_findRoots_20 hT) v2 m
theorem fg_Po_findRoots {kp : pm_K} (d : Nat) : qe_GE kp (d + 37) (71, 0, 4, 0, qw_cci 70 2 F_Po_findRoots) := qe_entry (by decide +kernel) (qw_cci_ok (d := d + 36) rfl rfl (fj_Po_findRoots (qe_G1 (fg_Po_areAlike (d + 35)) (qe_G1 (fg_Po_copy (d + 35)) (qe_G1 (fg_Po_makeMonic (d + 2)) (qe_G1 (fg_Po_raiseImage (d + 1)) (qe_G1 (fg_Po_meet (d + 1)) (qe_G1 (fg_Po_sumTraces (d + 2)) (qe_G1 (fg_Po_splitParts (d + 0)) (qe_G1 (fg_Po_readResults (d + 34)) qe_G0))))))))))
/-! TurnField$Polynomials.rootAt(I)I -/
noncomputable def T_Po_rootAt : qe_T := []
def X_Po_rootAt_e (v1 : Int32) (m : qm_M) : Option qm_R :=
  if v1 < 0 then
    some (some (.int (-2 : Int32)), m)
  else
    if v1 < (m.1 70 14) then
      qe_b (qm_in v1 7) (
      some (some (.int (m.1 105 (Int32.toNatClampNeg v1))), m))
    else
      some (some (.int (-2 : Int32)), m)
set_option maxRecDepth 100000 in
theorem xg_Po_rootAt_e {kp : pm_K} {d : Nat} (hT : qe_G kp d (T_Po_rootAt)) (v1 : Int32) (m : qm_M) : qe_J kp md_Po_rootAt d (X_Po_rootAt_e v1 m) 0 [(0, .ref 70), (1, .int v1)] [] m := qe_run (B := []) (n := 1000) hT qe_B0 rfl
def F_Po_rootAt (v1 : Int32) (m : qm_M) : Option qm_R := X_Po_rootAt_e v1 m
theorem fj_Po_rootAt {kp : pm_K} {d : Nat} (hT : qe_G kp d (T_Po_rootAt)) (v1 : Int32) (m : qm_M) : qe_J kp md_Po_rootAt d (F_Po_rootAt v1 m) 0 [(0, .ref 70), (1, .int v1)] [] m := xg_Po_rootAt_e hT v1 m
theorem fg_Po_rootAt {kp : pm_K} (d : Nat) : qe_GE kp (d + 1) (77, 0, 4, 1, qw_ci 70 F_Po_rootAt) := qe_entry (by decide +kernel) (qw_ci_ok (d := d + 0) rfl rfl (fj_Po_rootAt qe_G0))
