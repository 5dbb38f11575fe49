/-! TurnField$Numbers.below(JJ)Z -/
noncomputable def T_Nu_below : qe_T := []
def X_Nu_below_e (v0 : Int64) (v2 : Int64) (m : qm_M) : Option qm_R :=
  if (lg_cmp (v0 ^^^ (-9223372036854775808 : Int64)) (v2 ^^^ (-9223372036854775808 : Int64))) < 0 then
    some (some (.int (1 : Int32)), m)
  else
    some (some (.int (0 : Int32)), m)
set_option maxRecDepth 100000 in
theorem xg_Nu_below_e {kp : pm_K} {d : Nat} (hT : qe_G kp d (T_Nu_below)) (v0 : Int64) (v2 : Int64) (m : qm_M) : qe_J kp md_Nu_below d (X_Nu_below_e v0 v2 m) 0 [(0, .long v0), (2, .long v2)] [] m := qe_run (B := []) (n := 1000) hT qe_B0 rfl
def F_Nu_below (v0 : Int64) (v2 : Int64) (m : qm_M) : Option qm_R := X_Nu_below_e v0 v2 m
theorem fj_Nu_below {kp : pm_K} {d : Nat} (hT : qe_G kp d (T_Nu_below)) (v0 : Int64) (v2 : Int64) (m : qm_M) : qe_J kp md_Nu_below d (F_Nu_below v0 v2 m) 0 [(0, .long v0), (2, .long v2)] [] m := xg_Nu_below_e hT v0 v2 m
theorem fg_Nu_below {kp : pm_K} (d : Nat) : qe_GE kp (d + 1) (20, 1, 0, 1, qw_ll F_Nu_below) := qe_entry (by decide +kernel) (qw_ll_ok (d := d + 0) rfl rfl (fj_Nu_below qe_G0))
/-! TurnField$Numbers.levelOf(J)I -/
noncomputable def T_Nu_levelOf : qe_T := []
def X_Nu_levelOf_2 (l2 : Int64 → Int32 → qm_M → Option qm_R) (v0 : Int64) (v2 : Int32) (m : qm_M) : Option qm_R :=
  if v2 < (6 : Int32) then
    if (lg_cmp (qo_lushr v0 (qo_ishl (1 : Int32) v2)) (0 : Int64)) = 0 then
      some (some (.int v2), m)
    else
      l2 v0 (v2 + (1 : Int32)) m
  else
    some (some (.int (6 : Int32)), m)
set_option maxRecDepth 100000 in
theorem xg_Nu_levelOf_2 {kp : pm_K} {d : Nat} {l2 : Int64 → Int32 → qm_M → Option qm_R} (hT : qe_G kp d (T_Nu_levelOf)) (h2 : ∀ (v0 : Int64) (v2 : Int32) (m : qm_M), qe_J kp md_Nu_levelOf d (l2 v0 v2 m) 2 [(0, .long v0), (2, .int v2)] [] m) (v0 : Int64) (v2 : Int32) (m : qm_M) : qe_J kp md_Nu_levelOf d (X_Nu_levelOf_2 l2 v0 v2 m) 2 [(0, .long v0), (2, .int v2)] [] m := qe_run (B := [(2, [0, 2], qp_li_ l2)]) (n := 1000) hT (qe_B1 (qp_li__ok h2) qe_B0) rfl
def L_Nu_levelOf_2 : Nat → Int64 → Int32 → qm_M → Option qm_R
  | 0, _, _, _ => none
  | n + 1, v0, v2, m => X_Nu_levelOf_2 (L_Nu_levelOf_2 n) v0 v2 m
theorem lg_Nu_levelOf_2 {kp : pm_K} {d : Nat} (hT : qe_G kp d (T_Nu_levelOf)) : ∀ (n : Nat) (v0 : Int64) (v2 : Int32) (m : qm_M), qe_J kp md_Nu_levelOf d (L_Nu_levelOf_2 n v0 v2 m) 2 [(0, .long v0), (2, .int v2)] [] m
  | 0, v0, v2, m => qe_none rfl
  | n + 1, v0, v2, m => xg_Nu_levelOf_2 hT (lg_Nu_levelOf_2 hT n) v0 v2 m
def X_Nu_levelOf_e (l2 : Int64 → Int32 → qm_M → Option qm_R) (v0 : Int64) (m : qm_M) : Option qm_R :=
  l2 v0 (0 : Int32) m
set_option maxRecDepth 100000 in
theorem xg_Nu_levelOf_e {kp : pm_K} {d : Nat} {l2 : Int64 → Int32 → qm_M → Option qm_R} (hT : qe_G kp d (T_Nu_levelOf)) (h2 : ∀ (v0 : Int64) (v2 : Int32) (m : qm_M), qe_J kp md_Nu_levelOf d (l2 v0 v2 m) 2 [(0, .long v0), (2, .int v2)] [] m) (v0 : Int64) (m : qm_M) : qe_J kp md_Nu_levelOf d (X_Nu_levelOf_e l2 v0 m) 0 [(0, .long v0)] [] m := qe_run (B := [(2, [0, 2], qp_li_ l2)]) (n := 1000) hT (qe_B1 (qp_li__ok h2) qe_B0) rfl
def F_Nu_levelOf (v0 : Int64) (m : qm_M) : Option qm_R := X_Nu_levelOf_e (L_Nu_levelOf_2 1000000) v0 m
theorem fj_Nu_levelOf {kp : pm_K} {d : Nat} (hT : qe_G kp d (T_Nu_levelOf)) (v0 : Int64) (m : qm_M) : qe_J kp md_Nu_levelOf d (F_Nu_levelOf v0 m) 0 [(0, .long v0)] [] m := xg_Nu_levelOf_e hT (lg_Nu_levelOf_2 hT 1000000) v0 m
theorem fg_Nu_levelOf {kp : pm_K} (d : Nat) : qe_GE kp (d + 1) (21, 1, 0, 1, qw_l F_Nu_levelOf) := qe_entry (by decide +kernel) (qw_l_ok (d := d + 0) rfl rfl (fj_Nu_levelOf qe_G0))
/-! TurnField$Numbers.toppedBy(JI)J -/
noncomputable def T_Nu_toppedBy (f_Nu_lifted : Int64 → Int32 → qm_M → Option qm_R) : qe_T := [(24, 1, 0, 2, qw_li f_Nu_lifted)]
def X_Nu_toppedBy_5 (f_Nu_lifted : Int64 → Int32 → qm_M → Option qm_R) (l5 : Int32 → Int64 → Int32 → qm_M → Option qm_R) (v2 : Int32) (v3 : Int64) (v5 : Int32) (m : qm_M) : Option qm_R :=
  if v5 < v2 then
    qe_rL (f_Nu_lifted v3 v5 m) fun x1 m1 =>
    l5 v2 x1 (v5 + (1 : Int32)) m1
  else
    some (some (.long v3), m)
set_option maxRecDepth 100000 in
theorem xg_Nu_toppedBy_5 {kp : pm_K} {d : Nat} {f_Nu_lifted : Int64 → Int32 → qm_M → Option qm_R} {l5 : Int32 → Int64 → Int32 → qm_M → Option qm_R} (hT : qe_G kp d (T_Nu_toppedBy f_Nu_lifted)) (h5 : ∀ (v2 : Int32) (v3 : Int64) (v5 : Int32) (m : qm_M), qe_J kp md_Nu_toppedBy d (l5 v2 v3 v5 m) 5 [(2, .int v2), (3, .long v3), (5, .int v5)] [] m) (v2 : Int32) (v3 : Int64) (v5 : Int32) (m : qm_M) : qe_J kp md_Nu_toppedBy d (X_Nu_toppedBy_5 f_Nu_lifted l5 v2 v3 v5 m) 5 [(2, .int v2), (3, .long v3), (5, .int v5)] [] m := qe_run (B := [(5, [2, 3, 5], qp_ili_ l5)]) (n := 1000) hT (qe_B1 (qp_ili__ok h5) qe_B0) rfl
def L_Nu_toppedBy_5 (R : Int64 → Int32 → qm_M → Option qm_R) : Nat → Int32 → Int64 → Int32 → qm_M → Option qm_R
  | 0, _, _, _, _ => none
  | n + 1, v2, v3, v5, m => X_Nu_toppedBy_5 R (L_Nu_toppedBy_5 R n) v2 v3 v5 m
theorem lg_Nu_toppedBy_5 {kp : pm_K} {d : Nat} {R : Int64 → Int32 → qm_M → Option qm_R} (hT : qe_G kp d (T_Nu_toppedBy R)) : ∀ (n : Nat) (v2 : Int32) (v3 : Int64) (v5 : Int32) (m : qm_M), qe_J kp md_Nu_toppedBy d (L_Nu_toppedBy_5 R n v2 v3 v5 m) 5 [(2, .int v2), (3, .long v3), (5, .int v5)] [] m
  | 0, v2, v3, v5, m => qe_none rfl
  | n + 1, v2, v3, v5, m => xg_Nu_toppedBy_5 hT (lg_Nu_toppedBy_5 hT n) v2 v3 v5 m
def X_Nu_toppedBy_e (f_Nu_lifted : Int64 → Int32 → qm_M → Option qm_R) (l5 : Int32 → Int64 → Int32 → qm_M → Option qm_R) (v0 : Int64) (v2 : Int32) (m : qm_M) : Option qm_R :=
  l5 v2 v0 (0 : Int32) m
set_option maxRecDepth 100000 in
theorem xg_Nu_toppedBy_e {kp : pm_K} {d : Nat} {f_Nu_lifted : Int64 → Int32 → qm_M → Option qm_R} {l5 : Int32 → Int64 → Int32 → qm_M → Option qm_R} (hT : qe_G kp d (T_Nu_toppedBy f_Nu_lifted)) (h5 : ∀ (v2 : Int32) (v3 : Int64) (v5 : Int32) (m : qm_M), qe_J kp md_Nu_toppedBy d (l5 v2 v3 v5 m) 5 [(2, .int v2), (3, .long v3), (5, .int v5)] [] m) (v0 : Int64) (v2 : Int32) (m : qm_M) : qe_J kp md_Nu_toppedBy d (X_Nu_toppedBy_e f_Nu_lifted l5 v0 v2 m) 0 [(0, .long v0), (2, .int v2)] [] m := qe_run (B := [(5, [2, 3, 5], qp_ili_ l5)]) (n := 1000) hT (qe_B1 (qp_ili__ok h5) qe_B0) rfl
def B_Nu_toppedBy (R : Int64 → Int32 → qm_M → Option qm_R) (v0 : Int64) (v2 : Int32) (m : qm_M) : Option qm_R := X_Nu_toppedBy_e R (L_Nu_toppedBy_5 R 1000000) v0 v2 m
theorem fj_Nu_toppedBy {kp : pm_K} {d : Nat} {R : Int64 → Int32 → qm_M → Option qm_R} (hT : qe_G kp d (T_Nu_toppedBy R)) (v0 : Int64) (v2 : Int32) (m : qm_M) : qe_J kp md_Nu_toppedBy d (B_Nu_toppedBy R v0 v2 m) 0 [(0, .long v0), (2, .int v2)] [] m := xg_Nu_toppedBy_e hT (lg_Nu_toppedBy_5 hT 1000000) v0 v2 m
theorem eg_Nu_toppedBy {kp : pm_K} {d : Nat} {R : Int64 → Int32 → qm_M → Option qm_R} (hR : qe_GE kp d (24, 1, 0, 2, qw_li R)) : qe_GE kp (d + 1) (25, 1, 0, 2, qw_li (B_Nu_toppedBy R)) := qe_entry (by decide +kernel) (qw_li_ok rfl rfl (fj_Nu_toppedBy (qe_G1 hR qe_G0)))
/-! TurnField$Numbers.lifted(JI)J -/
noncomputable def T_Nu_lifted (f_Nu_toppedBy : Int64 → Int32 → qm_M → Option qm_R) : qe_T := [(25, 1, 0, 2, qw_li f_Nu_toppedBy)]
def X_Nu_lifted_e (f_Nu_toppedBy : Int64 → Int32 → qm_M → Option qm_R) (v0 : Int64) (v2 : Int32) (m : qm_M) : Option qm_R :=
  if (lg_cmp v0 (0 : Int64)) = 0 then
    some (some (.long v0), m)
  else
    if v2 < 0 then
      some (some (.long v0), m)
    else
      if (5 : Int32) < v2 then
        some (some (.long v0), m)
      else
        qe_b (qm_in v2 6) (
        let x1 : Int64 := ((qo_lushr v0 (qo_ishl (1 : Int32) v2)) &&& (qm_gL m 1000001 (Int32.toNatClampNeg v2)))
        qe_b (qm_in v2 6) (
        let x2 : Int64 := (v0 &&& (qm_gL m 1000001 (Int32.toNatClampNeg v2)))
        qe_rL (f_Nu_toppedBy x1 v2 m) fun x3 m1 =>
        some (some (.long ((qo_lshl (x1 ^^^ x2) (qo_ishl (1 : Int32) v2)) ^^^ x3)), m1)))
set_option maxRecDepth 100000 in
theorem xg_Nu_lifted_e {kp : pm_K} {d : Nat} {f_Nu_toppedBy : Int64 → Int32 → qm_M → Option qm_R} (hT : qe_G kp d (T_Nu_lifted f_Nu_toppedBy)) (v0 : Int64) (v2 : Int32) (m : qm_M) : qe_J kp md_Nu_lifted d (X_Nu_lifted_e f_Nu_toppedBy v0 v2 m) 0 [(0, .long v0), (2, .int v2)] [] m := qe_run (B := []) (n := 1000) hT qe_B0 rfl
def B_Nu_lifted (R : Int64 → Int32 → qm_M → Option qm_R) (v0 : Int64) (v2 : Int32) (m : qm_M) : Option qm_R := X_Nu_lifted_e (B_Nu_toppedBy R) v0 v2 m
theorem fj_Nu_lifted {kp : pm_K} {d : Nat} {R : Int64 → Int32 → qm_M → Option qm_R} (hT : qe_G kp d (T_Nu_lifted (B_Nu_toppedBy R))) (v0 : Int64) (v2 : Int32) (m : qm_M) : qe_J kp md_Nu_lifted d (B_Nu_lifted R v0 v2 m) 0 [(0, .long v0), (2, .int v2)] [] m := xg_Nu_lifted_e hT v0 v2 m
def F_Nu_lifted : Nat → Int64 → Int32 → qm_M → Option qm_R
  | 0, _, _, _ => none
  | n + 1, v0, v2, m => B_Nu_lifted (F_Nu_lifted n) v0 v2 m
theorem er_Nu_lifted {kp : pm_K} (d : Nat) : ∀ n : Nat, qe_GE kp (d + 2 * n + 1) (24, 1, 0, 2, qw_li (F_Nu_lifted n))
  | 0 => qe_entry (by decide +kernel) (qw_li_ok (d := d + 0) rfl rfl (fun v0 v2 m => qe_none rfl))
  | n + 1 => by
    have ih := er_Nu_lifted (kp := kp) d n
    exact qe_at (d1 := d + 2 * n + 2 + 1) (by omega) (qe_entry (by decide +kernel) (qw_li_ok (d := d + 2 * n + 2) rfl rfl (fj_Nu_lifted (qe_G1 (eg_Nu_toppedBy ih) qe_G0))))
theorem fg_Nu_lifted {kp : pm_K} (d : Nat) : qe_GE kp (d + 21) (24, 1, 0, 2, qw_li (F_Nu_lifted 10)) := er_Nu_lifted d 10
def F_Nu_toppedBy (n : Nat) : Int64 → Int32 → qm_M → Option qm_R := B_Nu_toppedBy (F_Nu_lifted n)
theorem fg_Nu_toppedBy {kp : pm_K} (d : Nat) : qe_GE kp (d + 22) (25, 1, 0, 2, qw_li (F_Nu_toppedBy 10)) := eg_Nu_toppedBy (fg_Nu_lifted d)
/-! TurnField$Numbers.sharedOut(JJI)J -/
noncomputable def T_Nu_sharedOut (f_Nu_sharedOut : Int64 → Int64 → Int32 → qm_M → Option qm_R) (f_Nu_lifted : Int64 → Int32 → qm_M → Option qm_R) : qe_T := [(23, 1, 0, 2, qw_lli f_Nu_sharedOut), (24, 1, 0, 2, qw_li f_Nu_lifted)]
def X_Nu_sharedOut_e (f_Nu_sharedOut : Int64 → Int64 → Int32 → qm_M → Option qm_R) (f_Nu_lifted : Int64 → Int32 → qm_M → Option qm_R) (v0 : Int64) (v2 : Int64) (v4 : Int32) (m : qm_M) : Option qm_R :=
  if (lg_cmp v2 (0 : Int64)) = 0 then
    some (some (.long (0 : Int64)), m)
  else
    if (lg_cmp v2 (1 : Int64)) = 0 then
      some (some (.long v0), m)
    else
      if 0 < v4 then
        if (6 : Int32) < v4 then
          some (some (.long v0), m)
        else
          let x1 : Int64 := (qo_lushr v2 (qo_ishl (1 : Int32) (v4 - (1 : Int32))))
          if (lg_cmp x1 (0 : Int64)) = 0 then
            qe_rL (f_Nu_sharedOut v0 v2 (v4 - (1 : Int32)) m) fun x2 m1 =>
            some (some (.long x2), m1)
          else
            qe_b (qm_in (v4 - (1 : Int32)) 6) (
            let x3 : Int64 := (v2 &&& (qm_gL m 1000001 (Int32.toNatClampNeg (v4 - (1 : Int32)))))
            qe_rL (f_Nu_sharedOut v0 x3 (v4 - (1 : Int32)) m) fun x4 m2 =>
            qe_rL (f_Nu_sharedOut v0 x1 (v4 - (1 : Int32)) m2) fun x5 m3 =>
            qe_rL (f_Nu_lifted x5 (v4 - (1 : Int32)) m3) fun x6 m4 =>
            some (some (.long (x4 ^^^ x6)), m4))
      else
        some (some (.long v0), m)
set_option maxRecDepth 100000 in
theorem xg_Nu_sharedOut_e {kp : pm_K} {d : Nat} {f_Nu_sharedOut : Int64 → Int64 → Int32 → qm_M → Option qm_R} {f_Nu_lifted : Int64 → Int32 → qm_M → Option qm_R} (hT : qe_G kp d (T_Nu_sharedOut f_Nu_sharedOut f_Nu_lifted)) (v0 : Int64) (v2 : Int64) (v4 : Int32) (m : qm_M) : qe_J kp md_Nu_sharedOut d (X_Nu_sharedOut_e f_Nu_sharedOut f_Nu_lifted v0 v2 v4 m) 0 [(0, .long v0), (2, .long v2), (4, .int v4)] [] m := qe_run (B := []) (n := 1000) hT qe_B0 rfl
def B_Nu_sharedOut (R : Int64 → Int64 → Int32 → qm_M → Option qm_R) (v0 : Int64) (v2 : Int64) (v4 : Int32) (m : qm_M) : Option qm_R := X_Nu_sharedOut_e R (F_Nu_lifted 10) v0 v2 v4 m
theorem fj_Nu_sharedOut {kp : pm_K} {d : Nat} {R : Int64 → Int64 → Int32 → qm_M → Option qm_R} (hT : qe_G kp d (T_Nu_sharedOut R (F_Nu_lifted 10))) (v0 : Int64) (v2 : Int64) (v4 : Int32) (m : qm_M) : qe_J kp md_Nu_sharedOut d (B_Nu_sharedOut R v0 v2 v4 m) 0 [(0, .long v0), (2, .long v2), (4, .int v4)] [] m := xg_Nu_sharedOut_e hT v0 v2 v4 m
def F_Nu_sharedOut : Nat → Int64 → Int64 → Int32 → qm_M → Option qm_R
  | 0, _, _, _, _ => none
  | n + 1, v0, v2, v4, m => B_Nu_sharedOut (F_Nu_sharedOut n) v0 v2 v4 m
theorem er_Nu_sharedOut {kp : pm_K} (d : Nat) : ∀ n : Nat, qe_GE kp (d + 1 * n + 22) (23, 1, 0, 2, qw_lli (F_Nu_sharedOut n))
  | 0 => qe_entry (by decide +kernel) (qw_lli_ok (d := d + 21) rfl rfl (fun v0 v2 v4 m => qe_none rfl))
  | n + 1 => by
    have ih := er_Nu_sharedOut (kp := kp) d n
    exact qe_at (d1 := d + 1 * n + 22 + 1) (by omega) (qe_entry (by decide +kernel) (qw_lli_ok (d := d + 1 * n + 22) rfl rfl (fj_Nu_sharedOut (qe_G1 ih (qe_G1 (qe_at (by omega) (fg_Nu_lifted (d + 1 * n + 1))) qe_G0)))))
theorem fg_Nu_sharedOut {kp : pm_K} (d : Nat) : qe_GE kp (d + 32) (23, 1, 0, 2, qw_lli (F_Nu_sharedOut 10)) := er_Nu_sharedOut d 10
/-! TurnField$Numbers.product(JJ)J -/
noncomputable def T_Nu_product (f_Nu_below : Int64 → Int64 → qm_M → Option qm_R) (f_Nu_sharedOut : Int64 → Int64 → Int32 → qm_M → Option qm_R) : qe_T := [(20, 1, 0, 1, qw_ll f_Nu_below), (23, 1, 0, 2, qw_lli f_Nu_sharedOut)]
def X_Nu_product_e (f_Nu_below : Int64 → Int64 → qm_M → Option qm_R) (f_Nu_sharedOut : Int64 → Int64 → Int32 → qm_M → Option qm_R) (v0 : Int64) (v2 : Int64) (m : qm_M) : Option qm_R :=
  qe_rI (f_Nu_below v0 v2 m) fun x1 m1 =>
  if x1 = 0 then
    qe_rL (f_Nu_sharedOut v0 v2 (6 : Int32) m1) fun x2 m2 =>
    some (some (.long x2), m2)
  else
    qe_rL (f_Nu_sharedOut v2 v0 (6 : Int32) m1) fun x3 m3 =>
    some (some (.long x3), m3)
set_option maxRecDepth 100000 in
theorem xg_Nu_product_e {kp : pm_K} {d : Nat} {f_Nu_below : Int64 → Int64 → qm_M → Option qm_R} {f_Nu_sharedOut : Int64 → Int64 → Int32 → qm_M → Option qm_R} (hT : qe_G kp d (T_Nu_product f_Nu_below f_Nu_sharedOut)) (v0 : Int64) (v2 : Int64) (m : qm_M) : qe_J kp md_Nu_product d (X_Nu_product_e f_Nu_below f_Nu_sharedOut v0 v2 m) 0 [(0, .long v0), (2, .long v2)] [] m := qe_run (B := []) (n := 1000) hT qe_B0 rfl
def F_Nu_product (v0 : Int64) (v2 : Int64) (m : qm_M) : Option qm_R := X_Nu_product_e F_Nu_below (F_Nu_sharedOut 10) v0 v2 m
theorem fj_Nu_product {kp : pm_K} {d : Nat} (hT : qe_G kp d (T_Nu_product F_Nu_below (F_Nu_sharedOut 10))) (v0 : Int64) (v2 : Int64) (m : qm_M) : qe_J kp md_Nu_product d (F_Nu_product v0 v2 m) 0 [(0, .long v0), (2, .long v2)] [] m := xg_Nu_product_e hT v0 v2 m
theorem fg_Nu_product {kp : pm_K} (d : Nat) : qe_GE kp (d + 33) (22, 1, 0, 2, qw_ll F_Nu_product) := qe_entry (by decide +kernel) (qw_ll_ok (d := d + 32) rfl rfl (fj_Nu_product (qe_G1 (fg_Nu_below (d + 31)) (qe_G1 (fg_Nu_sharedOut (d + 0)) qe_G0))))
/-! TurnField$Numbers.square(J)J -/
noncomputable def T_Nu_square (f_Nu_toppedBy : Int64 → Int32 → qm_M → Option qm_R) : qe_T := [(25, 1, 0, 2, qw_li f_Nu_toppedBy)]
def X_Nu_square_5 (f_Nu_toppedBy : Int64 → Int32 → qm_M → Option qm_R) (l5 : Int64 → Int32 → qm_M → Option qm_R) (v2 : Int64) (v4 : Int32) (m : qm_M) : Option qm_R :=
  if v4 < (6 : Int32) then
    qe_b (qm_in v4 6) (
    qe_rL (f_Nu_toppedBy ((qo_lushr v2 (qo_ishl (1 : Int32) v4)) &&& (qm_gL m 1000001 (Int32.toNatClampNeg v4))) v4 m) fun x1 m1 =>
    l5 (v2 ^^^ x1) (v4 + (1 : Int32)) m1)
  else
    some (some (.long v2), m)
set_option maxRecDepth 100000 in
theorem xg_Nu_square_5 {kp : pm_K} {d : Nat} {f_Nu_toppedBy : Int64 → Int32 → qm_M → Option qm_R} {l5 : Int64 → Int32 → qm_M → Option qm_R} (hT : qe_G kp d (T_Nu_square f_Nu_toppedBy)) (h5 : ∀ (v2 : Int64) (v4 : Int32) (m : qm_M), qe_J kp md_Nu_square d (l5 v2 v4 m) 5 [(2, .long v2), (4, .int v4)] [] m) (v2 : Int64) (v4 : Int32) (m : qm_M) : qe_J kp md_Nu_square d (X_Nu_square_5 f_Nu_toppedBy l5 v2 v4 m) 5 [(2, .long v2), (4, .int v4)] [] m := qe_run (B := [(5, [2, 4], qp_li_ l5)]) (n := 1000) hT (qe_B1 (qp_li__ok h5) qe_B0) rfl
def L_Nu_square_5 : Nat → Int64 → Int32 → qm_M → Option qm_R
  | 0, _, _, _ => none
  | n + 1, v2, v4, m => X_Nu_square_5 (F_Nu_toppedBy 10) (L_Nu_square_5 n) v2 v4 m
theorem lg_Nu_square_5 {kp : pm_K} {d : Nat} (hT : qe_G kp d (T_Nu_square (F_Nu_toppedBy 10))) : ∀ (n : Nat) (v2 : Int64) (v4 : Int32) (m : qm_M), qe_J kp md_Nu_square d (L_Nu_square_5 n v2 v4 m) 5 [(2, .long v2), (4, .int v4)] [] m
  | 0, v2, v4, m => qe_none rfl
  | n + 1, v2, v4, m => xg_Nu_square_5 hT (lg_Nu_square_5 hT n) v2 v4 m
def X_Nu_square_e (f_Nu_toppedBy : Int64 → Int32 → qm_M → Option qm_R) (l5 : Int64 → Int32 → qm_M → Option qm_R) (v0 : Int64) (m : qm_M) : Option qm_R :=
  l5 v0 (0 : Int32) m
set_option maxRecDepth 100000 in
theorem xg_Nu_square_e {kp : pm_K} {d : Nat} {f_Nu_toppedBy : Int64 → Int32 → qm_M → Option qm_R} {l5 : Int64 → Int32 → qm_M → Option qm_R} (hT : qe_G kp d (T_Nu_square f_Nu_toppedBy)) (h5 : ∀ (v2 : Int64) (v4 : Int32) (m : qm_M), qe_J kp md_Nu_square d (l5 v2 v4 m) 5 [(2, .long v2), (4, .int v4)] [] m) (v0 : Int64) (m : qm_M) : qe_J kp md_Nu_square d (X_Nu_square_e f_Nu_toppedBy l5 v0 m) 0 [(0, .long v0)] [] m := qe_run (B := [(5, [2, 4], qp_li_ l5)]) (n := 1000) hT (qe_B1 (qp_li__ok h5) qe_B0) rfl
def F_Nu_square (v0 : Int64) (m : qm_M) : Option qm_R := X_Nu_square_e (F_Nu_toppedBy 10) (L_Nu_square_5 1000000) v0 m
theorem fj_Nu_square {kp : pm_K} {d : Nat} (hT : qe_G kp d (T_Nu_square (F_Nu_toppedBy 10))) (v0 : Int64) (m : qm_M) : qe_J kp md_Nu_square d (F_Nu_square v0 m) 0 [(0, .long v0)] [] m := xg_Nu_square_e hT (lg_Nu_square_5 hT 1000000) v0 m
theorem fg_Nu_square {kp : pm_K} (d : Nat) : qe_GE kp (d + 23) (26, 1, 0, 2, qw_l F_Nu_square) := qe_entry (by decide +kernel) (qw_l_ok (d := d + 22) rfl rfl (fj_Nu_square (qe_G1 (fg_Nu_toppedBy (d + 0)) qe_G0)))
/-! TurnField$Numbers.rootOf(J)J -/
noncomputable def T_Nu_rootOf (f_Nu_toppedBy : Int64 → Int32 → qm_M → Option qm_R) : qe_T := [(25, 1, 0, 2, qw_li f_Nu_toppedBy)]
def X_Nu_rootOf_5 (f_Nu_toppedBy : Int64 → Int32 → qm_M → Option qm_R) (l5 : Int64 → Int32 → qm_M → Option qm_R) (v2 : Int64) (v4 : Int32) (m : qm_M) : Option qm_R :=
  if v4 < 0 then
    some (some (.long v2), m)
  else
    qe_b (qm_in v4 6) (
    qe_rL (f_Nu_toppedBy ((qo_lushr v2 (qo_ishl (1 : Int32) v4)) &&& (qm_gL m 1000001 (Int32.toNatClampNeg v4))) v4 m) fun x1 m1 =>
    l5 (v2 ^^^ x1) (v4 + (-1 : Int32)) m1)
set_option maxRecDepth 100000 in
theorem xg_Nu_rootOf_5 {kp : pm_K} {d : Nat} {f_Nu_toppedBy : Int64 → Int32 → qm_M → Option qm_R} {l5 : Int64 → Int32 → qm_M → Option qm_R} (hT : qe_G kp d (T_Nu_rootOf f_Nu_toppedBy)) (h5 : ∀ (v2 : Int64) (v4 : Int32) (m : qm_M), qe_J kp md_Nu_rootOf d (l5 v2 v4 m) 5 [(2, .long v2), (4, .int v4)] [] m) (v2 : Int64) (v4 : Int32) (m : qm_M) : qe_J kp md_Nu_rootOf d (X_Nu_rootOf_5 f_Nu_toppedBy l5 v2 v4 m) 5 [(2, .long v2), (4, .int v4)] [] m := qe_run (B := [(5, [2, 4], qp_li_ l5)]) (n := 1000) hT (qe_B1 (qp_li__ok h5) qe_B0) rfl
def L_Nu_rootOf_5 : Nat → Int64 → Int32 → qm_M → Option qm_R
  | 0, _, _, _ => none
  | n + 1, v2, v4, m => X_Nu_rootOf_5 (F_Nu_toppedBy 10) (L_Nu_rootOf_5 n) v2 v4 m
theorem lg_Nu_rootOf_5 {kp : pm_K} {d : Nat} (hT : qe_G kp d (T_Nu_rootOf (F_Nu_toppedBy 10))) : ∀ (n : Nat) (v2 : Int64) (v4 : Int32) (m : qm_M), qe_J kp md_Nu_rootOf d (L_Nu_rootOf_5 n v2 v4 m) 5 [(2, .long v2), (4, .int v4)] [] m
  | 0, v2, v4, m => qe_none rfl
  | n + 1, v2, v4, m => xg_Nu_rootOf_5 hT (lg_Nu_rootOf_5 hT n) v2 v4 m
def X_Nu_rootOf_e (f_Nu_toppedBy : Int64 → Int32 → qm_M → Option qm_R) (l5 : Int64 → Int32 → qm_M → Option qm_R) (v0 : Int64) (m : qm_M) : Option qm_R :=
  l5 v0 (5 : Int32) m
set_option maxRecDepth 100000 in
theorem xg_Nu_rootOf_e {kp : pm_K} {d : Nat} {f_Nu_toppedBy : Int64 → Int32 → qm_M → Option qm_R} {l5 : Int64 → Int32 → qm_M → Option qm_R} (hT : qe_G kp d (T_Nu_rootOf f_Nu_toppedBy)) (h5 : ∀ (v2 : Int64) (v4 : Int32) (m : qm_M), qe_J kp md_Nu_rootOf d (l5 v2 v4 m) 5 [(2, .long v2), (4, .int v4)] [] m) (v0 : Int64) (m : qm_M) : qe_J kp md_Nu_rootOf d (X_Nu_rootOf_e f_Nu_toppedBy l5 v0 m) 0 [(0, .long v0)] [] m := qe_run (B := [(5, [2, 4], qp_li_ l5)]) (n := 1000) hT (qe_B1 (qp_li__ok h5) qe_B0) rfl
def F_Nu_rootOf (v0 : Int64) (m : qm_M) : Option qm_R := X_Nu_rootOf_e (F_Nu_toppedBy 10) (L_Nu_rootOf_5 1000000) v0 m
theorem fj_Nu_rootOf {kp : pm_K} {d : Nat} (hT : qe_G kp d (T_Nu_rootOf (F_Nu_toppedBy 10))) (v0 : Int64) (m : qm_M) : qe_J kp md_Nu_rootOf d (F_Nu_rootOf v0 m) 0 [(0, .long v0)] [] m := xg_Nu_rootOf_e hT (lg_Nu_rootOf_5 hT 1000000) v0 m
theorem fg_Nu_rootOf {kp : pm_K} (d : Nat) : qe_GE kp (d + 23) (27, 1, 0, 2, qw_l F_Nu_rootOf) := qe_entry (by decide +kernel) (qw_l_ok (d := d + 22) rfl rfl (fj_Nu_rootOf (qe_G1 (fg_Nu_toppedBy (d + 0)) qe_G0)))
/-! TurnField$Numbers.inverted(J)J -/
noncomputable def T_Nu_inverted (f_Nu_sharedOut : Int64 → Int64 → Int32 → qm_M → Option qm_R) (f_Nu_square : Int64 → qm_M → Option qm_R) (f_Nu_toppedBy : Int64 → Int32 → qm_M → Option qm_R) : qe_T := [(23, 1, 0, 2, qw_lli f_Nu_sharedOut), (26, 1, 0, 2, qw_l f_Nu_square), (25, 1, 0, 2, qw_li f_Nu_toppedBy)]
def X_Nu_inverted_8 (f_Nu_sharedOut : Int64 → Int64 → Int32 → qm_M → Option qm_R) (f_Nu_square : Int64 → qm_M → Option qm_R) (f_Nu_toppedBy : Int64 → Int32 → qm_M → Option qm_R) (l8 : Int64 → Int64 → Int32 → qm_M → Option qm_R) (v2 : Int64) (v4 : Int64) (v6 : Int32) (m : qm_M) : Option qm_R :=
  if v6 < 0 then
    if (lg_cmp v4 (0 : Int64)) = 0 then
      some (some (.long (0 : Int64)), m)
    else
      some (some (.long v2), m)
  else
    if (lg_cmp (qo_lushr v4 (qo_ishl (1 : Int32) v6)) (0 : Int64)) = 0 then
      l8 v2 v4 (v6 + (-1 : Int32)) m
    else
      qe_b (qm_in v6 6) (
      let x1 : Int64 := (v4 &&& (qm_gL m 1000001 (Int32.toNatClampNeg v6)))
      qe_rL (f_Nu_sharedOut v2 (v4 ^^^ (qo_lushr v4 (qo_ishl (1 : Int32) v6))) (v6 + (1 : Int32)) m) fun x2 m1 =>
      qe_rL (f_Nu_sharedOut x1 (x1 ^^^ (qo_lushr v4 (qo_ishl (1 : Int32) v6))) v6 m1) fun x3 m2 =>
      qe_rL (f_Nu_square (qo_lushr v4 (qo_ishl (1 : Int32) v6)) m2) fun x4 m3 =>
      qe_rL (f_Nu_toppedBy x4 v6 m3) fun x5 m4 =>
      l8 x2 (x3 ^^^ x5) (v6 + (-1 : Int32)) m4)
set_option maxRecDepth 100000 in
theorem xg_Nu_inverted_8 {kp : pm_K} {d : Nat} {f_Nu_sharedOut : Int64 → Int64 → Int32 → qm_M → Option qm_R} {f_Nu_square : Int64 → qm_M → Option qm_R} {f_Nu_toppedBy : Int64 → Int32 → qm_M → Option qm_R} {l8 : Int64 → Int64 → Int32 → qm_M → Option qm_R} (hT : qe_G kp d (T_Nu_inverted f_Nu_sharedOut f_Nu_square f_Nu_toppedBy)) (h8 : ∀ (v2 : Int64) (v4 : Int64) (v6 : Int32) (m : qm_M), qe_J kp md_Nu_inverted d (l8 v2 v4 v6 m) 8 [(2, .long v2), (4, .long v4), (6, .int v6)] [] m) (v2 : Int64) (v4 : Int64) (v6 : Int32) (m : qm_M) : qe_J kp md_Nu_inverted d (X_Nu_inverted_8 f_Nu_sharedOut f_Nu_square f_Nu_toppedBy l8 v2 v4 v6 m) 8 [(2, .long v2), (4, .long v4), (6, .int v6)] [] m := qe_run (B := [(8, [2, 4, 6], qp_lli_ l8)]) (n := 1000) hT (qe_B1 (qp_lli__ok h8) qe_B0) rfl
def L_Nu_inverted_8 : Nat → Int64 → Int64 → Int32 → qm_M → Option qm_R
  | 0, _, _, _, _ => none
  | n + 1, v2, v4, v6, m => X_Nu_inverted_8 (F_Nu_sharedOut 10) F_Nu_square (F_Nu_toppedBy 10) (L_Nu_inverted_8 n) v2 v4 v6 m
theorem lg_Nu_inverted_8 {kp : pm_K} {d : Nat} (hT : qe_G kp d (T_Nu_inverted (F_Nu_sharedOut 10) F_Nu_square (F_Nu_toppedBy 10))) : ∀ (n : Nat) (v2 : Int64) (v4 : Int64) (v6 : Int32) (m : qm_M), qe_J kp md_Nu_inverted d (L_Nu_inverted_8 n v2 v4 v6 m) 8 [(2, .long v2), (4, .long v4), (6, .int v6)] [] m
  | 0, v2, v4, v6, m => qe_none rfl
  | n + 1, v2, v4, v6, m => xg_Nu_inverted_8 hT (lg_Nu_inverted_8 hT n) v2 v4 v6 m
def X_Nu_inverted_e (f_Nu_sharedOut : Int64 → Int64 → Int32 → qm_M → Option qm_R) (f_Nu_square : Int64 → qm_M → Option qm_R) (f_Nu_toppedBy : Int64 → Int32 → qm_M → Option qm_R) (l8 : Int64 → Int64 → Int32 → qm_M → Option qm_R) (v0 : Int64) (m : qm_M) : Option qm_R :=
  l8 (1 : Int64) v0 (5 : Int32) m
set_option maxRecDepth 100000 in
theorem xg_Nu_inverted_e {kp : pm_K} {d : Nat} {f_Nu_sharedOut : Int64 → Int64 → Int32 → qm_M → Option qm_R} {f_Nu_square : Int64 → qm_M → Option qm_R} {f_Nu_toppedBy : Int64 → Int32 → qm_M → Option qm_R} {l8 : Int64 → Int64 → Int32 → qm_M → Option qm_R} (hT : qe_G kp d (T_Nu_inverted f_Nu_sharedOut f_Nu_square f_Nu_toppedBy)) (h8 : ∀ (v2 : Int64) (v4 : Int64) (v6 : Int32) (m : qm_M), qe_J kp md_Nu_inverted d (l8 v2 v4 v6 m) 8 [(2, .long v2), (4, .long v4), (6, .int v6)] [] m) (v0 : Int64) (m : qm_M) : qe_J kp md_Nu_inverted d (X_Nu_inverted_e f_Nu_sharedOut f_Nu_square f_Nu_toppedBy l8 v0 m) 0 [(0, .long v0)] [] m := qe_run (B := [(8, [2, 4, 6], qp_lli_ l8)]) (n := 1000) hT (qe_B1 (qp_lli__ok h8) qe_B0) rfl
def F_Nu_inverted (v0 : Int64) (m : qm_M) : Option qm_R := X_Nu_inverted_e (F_Nu_sharedOut 10) F_Nu_square (F_Nu_toppedBy 10) (L_Nu_inverted_8 1000000) v0 m
theorem fj_Nu_inverted {kp : pm_K} {d : Nat} (hT : qe_G kp d (T_Nu_inverted (F_Nu_sharedOut 10) F_Nu_square (F_Nu_toppedBy 10))) (v0 : Int64) (m : qm_M) : qe_J kp md_Nu_inverted d (F_Nu_inverted v0 m) 0 [(0, .long v0)] [] m := xg_Nu_inverted_e hT (lg_Nu_inverted_8 hT 1000000) v0 m
theorem fg_Nu_inverted {kp : pm_K} (d : Nat) : qe_GE kp (d + 33) (28, 1, 0, 2, qw_l F_Nu_inverted) := qe_entry (by decide +kernel) (qw_l_ok (d := d + 32) rfl rfl (fj_Nu_inverted (qe_G1 (fg_Nu_sharedOut (d + 0)) (qe_G1 (fg_Nu_square (d + 9)) (qe_G1 (fg_Nu_toppedBy (d + 10)) qe_G0)))))
/-! TurnField$Numbers.hasHalf(J)Z -/
noncomputable def T_Nu_hasHalf : qe_T := []
def X_Nu_hasHalf_e (v0 : Int64) (m : qm_M) : Option qm_R :=
  if (lg_cmp v0 (0 : Int64)) < 0 then
    some (some (.int (0 : Int32)), m)
  else
    some (some (.int (1 : Int32)), m)
set_option maxRecDepth 100000 in
theorem xg_Nu_hasHalf_e {kp : pm_K} {d : Nat} (hT : qe_G kp d (T_Nu_hasHalf)) (v0 : Int64) (m : qm_M) : qe_J kp md_Nu_hasHalf d (X_Nu_hasHalf_e v0 m) 0 [(0, .long v0)] [] m := qe_run (B := []) (n := 1000) hT qe_B0 rfl
def F_Nu_hasHalf (v0 : Int64) (m : qm_M) : Option qm_R := X_Nu_hasHalf_e v0 m
theorem fj_Nu_hasHalf {kp : pm_K} {d : Nat} (hT : qe_G kp d (T_Nu_hasHalf)) (v0 : Int64) (m : qm_M) : qe_J kp md_Nu_hasHalf d (F_Nu_hasHalf v0 m) 0 [(0, .long v0)] [] m := xg_Nu_hasHalf_e hT v0 m
theorem fg_Nu_hasHalf {kp : pm_K} (d : Nat) : qe_GE kp (d + 1) (29, 1, 0, 1, qw_l F_Nu_hasHalf) := qe_entry (by decide +kernel) (qw_l_ok (d := d + 0) rfl rfl (fj_Nu_hasHalf qe_G0))
/-! TurnField$Numbers.halvedIn(JI)J -/
noncomputable def T_Nu_halvedIn (f_Nu_halvedIn : Int64 → Int32 → qm_M → Option qm_R) (f_Nu_toppedBy : Int64 → Int32 → qm_M → Option qm_R) : qe_T := [(31, 1, 0, 2, qw_li f_Nu_halvedIn), (25, 1, 0, 2, qw_li f_Nu_toppedBy)]
def X_Nu_halvedIn_91 (f_Nu_halvedIn : Int64 → Int32 → qm_M → Option qm_R) (f_Nu_toppedBy : Int64 → Int32 → qm_M → Option qm_R) (v2 : Int32) (v3 : Int32) (v6 : Int64) (v8 : Int64) (m : qm_M) : Option qm_R :=
  qe_rL (f_Nu_halvedIn v8 (v2 - (1 : Int32)) m) fun x1 m1 =>
  some (some (.long ((qo_lshl v6 v3) ||| x1)), m1)
set_option maxRecDepth 100000 in
theorem xg_Nu_halvedIn_91 {kp : pm_K} {d : Nat} {f_Nu_halvedIn : Int64 → Int32 → qm_M → Option qm_R} {f_Nu_toppedBy : Int64 → Int32 → qm_M → Option qm_R} (hT : qe_G kp d (T_Nu_halvedIn f_Nu_halvedIn f_Nu_toppedBy)) (v2 : Int32) (v3 : Int32) (v6 : Int64) (v8 : Int64) (m : qm_M) : qe_J kp md_Nu_halvedIn d (X_Nu_halvedIn_91 f_Nu_halvedIn f_Nu_toppedBy v2 v3 v6 v8 m) 91 [(2, .int v2), (3, .int v3), (6, .long v6), (8, .long v8)] [] m := qe_run (B := []) (n := 1000) hT qe_B0 rfl
def L_Nu_halvedIn_91 (R : Int64 → Int32 → qm_M → Option qm_R) (v2 : Int32) (v3 : Int32) (v6 : Int64) (v8 : Int64) (m : qm_M) : Option qm_R := X_Nu_halvedIn_91 R (F_Nu_toppedBy 10) v2 v3 v6 v8 m
theorem lg_Nu_halvedIn_91 {kp : pm_K} {d : Nat} {R : Int64 → Int32 → qm_M → Option qm_R} (hT : qe_G kp d (T_Nu_halvedIn R (F_Nu_toppedBy 10))) (v2 : Int32) (v3 : Int32) (v6 : Int64) (v8 : Int64) (m : qm_M) : qe_J kp md_Nu_halvedIn d (L_Nu_halvedIn_91 R v2 v3 v6 v8 m) 91 [(2, .int v2), (3, .int v3), (6, .long v6), (8, .long v8)] [] m := xg_Nu_halvedIn_91 hT v2 v3 v6 v8 m
def X_Nu_halvedIn_e (f_Nu_halvedIn : Int64 → Int32 → qm_M → Option qm_R) (f_Nu_toppedBy : Int64 → Int32 → qm_M → Option qm_R) (l91 : Int32 → Int32 → Int64 → Int64 → qm_M → Option qm_R) (v0 : Int64) (v2 : Int32) (m : qm_M) : Option qm_R :=
  if (lg_cmp v0 (0 : Int64)) = 0 then
    some (some (.long (0 : Int64)), m)
  else
    if 0 < v2 then
      if (6 : Int32) < v2 then
        some (some (.long (0 : Int64)), m)
      else
        let x1 : Int64 := (qo_lushr v0 (qo_ishl (1 : Int32) (v2 - (1 : Int32))))
        qe_rL (f_Nu_halvedIn x1 (v2 - (1 : Int32)) m) fun x2 m1 =>
        qe_b (qm_in (v2 - (1 : Int32)) 6) (
        qe_rL (f_Nu_toppedBy (x2 ^^^ x1) (v2 - (1 : Int32)) m1) fun x3 m2 =>
        let x4 : Int64 := ((v0 &&& (qm_gL m1 1000001 (Int32.toNatClampNeg (v2 - (1 : Int32))))) ^^^ x3)
        if (lg_cmp ((qo_lushr x4 ((qo_ishl (1 : Int32) (v2 - (1 : Int32))) - (1 : Int32))) &&& (1 : Int64)) (0 : Int64)) = 0 then
          l91 v2 (qo_ishl (1 : Int32) (v2 - (1 : Int32))) x2 x4 m2
        else
          let x5 : Int64 := (x4 ^^^ (qo_lshl (1 : Int64) ((qo_ishl (1 : Int32) (v2 - (1 : Int32))) - (1 : Int32))))
          l91 v2 (qo_ishl (1 : Int32) (v2 - (1 : Int32))) (x2 ^^^ (1 : Int64)) x5 m2)
    else
      some (some (.long (0 : Int64)), m)
set_option maxRecDepth 100000 in
theorem xg_Nu_halvedIn_e {kp : pm_K} {d : Nat} {f_Nu_halvedIn : Int64 → Int32 → qm_M → Option qm_R} {f_Nu_toppedBy : Int64 → Int32 → qm_M → Option qm_R} {l91 : Int32 → Int32 → Int64 → Int64 → qm_M → Option qm_R} (hT : qe_G kp d (T_Nu_halvedIn f_Nu_halvedIn f_Nu_toppedBy)) (h91 : ∀ (v2 : Int32) (v3 : Int32) (v6 : Int64) (v8 : Int64) (m : qm_M), qe_J kp md_Nu_halvedIn d (l91 v2 v3 v6 v8 m) 91 [(2, .int v2), (3, .int v3), (6, .long v6), (8, .long v8)] [] m) (v0 : Int64) (v2 : Int32) (m : qm_M) : qe_J kp md_Nu_halvedIn d (X_Nu_halvedIn_e f_Nu_halvedIn f_Nu_toppedBy l91 v0 v2 m) 0 [(0, .long v0), (2, .int v2)] [] m := qe_run (B := [(91, [2, 3, 6, 8], qp_iill_ l91)]) (n := 1000) hT (qe_B1 (qp_iill__ok h91) qe_B0) rfl
def B_Nu_halvedIn (R : Int64 → Int32 → qm_M → Option qm_R) (v0 : Int64) (v2 : Int32) (m : qm_M) : Option qm_R := X_Nu_halvedIn_e R (F_Nu_toppedBy 10) (L_Nu_halvedIn_91 R) v0 v2 m
theorem fj_Nu_halvedIn {kp : pm_K} {d : Nat} {R : Int64 → Int32 → qm_M → Option qm_R} (hT : qe_G kp d (T_Nu_halvedIn R (F_Nu_toppedBy 10))) (v0 : Int64) (v2 : Int32) (m : qm_M) : qe_J kp md_Nu_halvedIn d (B_Nu_halvedIn R v0 v2 m) 0 [(0, .long v0), (2, .int v2)] [] m := xg_Nu_halvedIn_e hT (lg_Nu_halvedIn_91 hT) v0 v2 m
def F_Nu_halvedIn : Nat → Int64 → Int32 → qm_M → Option qm_R
  | 0, _, _, _ => none
  | n + 1, v0, v2, m => B_Nu_halvedIn (F_Nu_halvedIn n) v0 v2 m
theorem er_Nu_halvedIn {kp : pm_K} (d : Nat) : ∀ n : Nat, qe_GE kp (d + 1 * n + 23) (31, 1, 0, 2, qw_li (F_Nu_halvedIn n))
  | 0 => qe_entry (by decide +kernel) (qw_li_ok (d := d + 22) rfl rfl (fun v0 v2 m => qe_none rfl))
  | n + 1 => by
    have ih := er_Nu_halvedIn (kp := kp) d n
    exact qe_at (d1 := d + 1 * n + 23 + 1) (by omega) (qe_entry (by decide +kernel) (qw_li_ok (d := d + 1 * n + 23) rfl rfl (fj_Nu_halvedIn (qe_G1 ih (qe_G1 (qe_at (by omega) (fg_Nu_toppedBy (d + 1 * n + 1))) qe_G0)))))
theorem fg_Nu_halvedIn {kp : pm_K} (d : Nat) : qe_GE kp (d + 33) (31, 1, 0, 2, qw_li (F_Nu_halvedIn 10)) := er_Nu_halvedIn d 10
/-! TurnField$Numbers.halved(J)J -/
noncomputable def T_Nu_halved (f_Nu_halvedIn : Int64 → Int32 → qm_M → Option qm_R) : qe_T := [(31, 1, 0, 2, qw_li f_Nu_halvedIn)]
def X_Nu_halved_e (f_Nu_halvedIn : Int64 → Int32 → qm_M → Option qm_R) (v0 : Int64) (m : qm_M) : Option qm_R :=
  qe_rL (f_Nu_halvedIn v0 (6 : Int32) m) fun x1 m1 =>
  some (some (.long x1), m1)
set_option maxRecDepth 100000 in
theorem xg_Nu_halved_e {kp : pm_K} {d : Nat} {f_Nu_halvedIn : Int64 → Int32 → qm_M → Option qm_R} (hT : qe_G kp d (T_Nu_halved f_Nu_halvedIn)) (v0 : Int64) (m : qm_M) : qe_J kp md_Nu_halved d (X_Nu_halved_e f_Nu_halvedIn v0 m) 0 [(0, .long v0)] [] m := qe_run (B := []) (n := 1000) hT qe_B0 rfl
def F_Nu_halved (v0 : Int64) (m : qm_M) : Option qm_R := X_Nu_halved_e (F_Nu_halvedIn 10) v0 m
theorem fj_Nu_halved {kp : pm_K} {d : Nat} (hT : qe_G kp d (T_Nu_halved (F_Nu_halvedIn 10))) (v0 : Int64) (m : qm_M) : qe_J kp md_Nu_halved d (F_Nu_halved v0 m) 0 [(0, .long v0)] [] m := xg_Nu_halved_e hT v0 m
theorem fg_Nu_halved {kp : pm_K} (d : Nat) : qe_GE kp (d + 34) (30, 1, 0, 2, qw_l F_Nu_halved) := qe_entry (by decide +kernel) (qw_l_ok (d := d + 33) rfl rfl (fj_Nu_halved (qe_G1 (fg_Nu_halvedIn (d + 0)) qe_G0)))
/-! TurnField$Numbers.traceOf(JI)I -/
noncomputable def T_Nu_traceOf : qe_T := []
def X_Nu_traceOf_e (v0 : Int64) (v2 : Int32) (m : qm_M) : Option qm_R :=
  some (some (.int (Int64.toInt32 ((qo_lushr v0 ((qo_ishl (1 : Int32) v2) - (1 : Int32))) &&& (1 : Int64)))), m)
set_option maxRecDepth 100000 in
theorem xg_Nu_traceOf_e {kp : pm_K} {d : Nat} (hT : qe_G kp d (T_Nu_traceOf)) (v0 : Int64) (v2 : Int32) (m : qm_M) : qe_J kp md_Nu_traceOf d (X_Nu_traceOf_e v0 v2 m) 0 [(0, .long v0), (2, .int v2)] [] m := qe_run (B := []) (n := 1000) hT qe_B0 rfl
def F_Nu_traceOf (v0 : Int64) (v2 : Int32) (m : qm_M) : Option qm_R := X_Nu_traceOf_e v0 v2 m
theorem fj_Nu_traceOf {kp : pm_K} {d : Nat} (hT : qe_G kp d (T_Nu_traceOf)) (v0 : Int64) (v2 : Int32) (m : qm_M) : qe_J kp md_Nu_traceOf d (F_Nu_traceOf v0 v2 m) 0 [(0, .long v0), (2, .int v2)] [] m := xg_Nu_traceOf_e hT v0 v2 m
theorem fg_Nu_traceOf {kp : pm_K} (d : Nat) : qe_GE kp (d + 1) (32, 1, 0, 1, qw_li F_Nu_traceOf) := qe_entry (by decide +kernel) (qw_li_ok (d := d + 0) rfl rfl (fj_Nu_traceOf qe_G0))
/-! TurnField$Numbers.raisedTo(JJ)J -/
noncomputable def T_Nu_raisedTo (f_Nu_square : Int64 → qm_M → Option qm_R) (f_Nu_product : Int64 → Int64 → qm_M → Option qm_R) : qe_T := [(26, 1, 0, 2, qw_l f_Nu_square), (22, 1, 0, 2, qw_ll f_Nu_product)]
def X_Nu_raisedTo_26 (f_Nu_square : Int64 → qm_M → Option qm_R) (f_Nu_product : Int64 → Int64 → qm_M → Option qm_R) (l7 : Int64 → Int64 → Int64 → Int32 → qm_M → Option qm_R) (v0 : Int64) (v2 : Int64) (v4 : Int64) (v6 : Int32) (m : qm_M) : Option qm_R :=
  if (lg_cmp ((qo_lushr v2 v6) &&& (1 : Int64)) (0 : Int64)) = 0 then
    l7 v0 v2 v4 (v6 + (-1 : Int32)) m
  else
    qe_rL (f_Nu_product v4 v0 m) fun x1 m1 =>
    l7 v0 v2 x1 (v6 + (-1 : Int32)) m1
set_option maxRecDepth 100000 in
theorem xg_Nu_raisedTo_26 {kp : pm_K} {d : Nat} {f_Nu_square : Int64 → qm_M → Option qm_R} {f_Nu_product : Int64 → Int64 → qm_M → Option qm_R} {l7 : Int64 → Int64 → Int64 → Int32 → qm_M → Option qm_R} (hT : qe_G kp d (T_Nu_raisedTo f_Nu_square f_Nu_product)) (h7 : ∀ (v0 : Int64) (v2 : Int64) (v4 : Int64) (v6 : Int32) (m : qm_M), qe_J kp md_Nu_raisedTo d (l7 v0 v2 v4 v6 m) 7 [(0, .long v0), (2, .long v2), (4, .long v4), (6, .int v6)] [] m) (v0 : Int64) (v2 : Int64) (v4 : Int64) (v6 : Int32) (m : qm_M) : qe_J kp md_Nu_raisedTo d (X_Nu_raisedTo_26 f_Nu_square f_Nu_product l7 v0 v2 v4 v6 m) 26 [(0, .long v0), (2, .long v2), (4, .long v4), (6, .int v6)] [] m := qe_run (B := [(7, [0, 2, 4, 6], qp_llli_ l7)]) (n := 1000) hT (qe_B1 (qp_llli__ok h7) qe_B0) rfl
def L_Nu_raisedTo_26 (K7 : Int64 → Int64 → Int64 → Int32 → qm_M → Option qm_R) (v0 : Int64) (v2 : Int64) (v4 : Int64) (v6 : Int32) (m : qm_M) : Option qm_R := X_Nu_raisedTo_26 F_Nu_square F_Nu_product K7 v0 v2 v4 v6 m
theorem lg_Nu_raisedTo_26 {kp : pm_K} {d : Nat} (hT : qe_G kp d (T_Nu_raisedTo F_Nu_square F_Nu_product)) {K7 : Int64 → Int64 → Int64 → Int32 → qm_M → Option qm_R} (hK7 : ∀ (v0 : Int64) (v2 : Int64) (v4 : Int64) (v6 : Int32) (m : qm_M), qe_J kp md_Nu_raisedTo d (K7 v0 v2 v4 v6 m) 7 [(0, .long v0), (2, .long v2), (4, .long v4), (6, .int v6)] [] m) (v0 : Int64) (v2 : Int64) (v4 : Int64) (v6 : Int32) (m : qm_M) : qe_J kp md_Nu_raisedTo d (L_Nu_raisedTo_26 K7 v0 v2 v4 v6 m) 26 [(0, .long v0), (2, .long v2), (4, .long v4), (6, .int v6)] [] m := xg_Nu_raisedTo_26 hT hK7 v0 v2 v4 v6 m
def X_Nu_raisedTo_7 (f_Nu_square : Int64 → qm_M → Option qm_R) (f_Nu_product : Int64 → Int64 → qm_M → Option qm_R) (l26 : Int64 → Int64 → Int64 → Int32 → qm_M → Option qm_R) (v0 : Int64) (v2 : Int64) (v4 : Int64) (v6 : Int32) (m : qm_M) : Option qm_R :=
  if v6 < 0 then
    some (some (.long v4), m)
  else
    if (lg_cmp v4 (1 : Int64)) = 0 then
      l26 v0 v2 v4 v6 m
    else
      qe_rL (f_Nu_square v4 m) fun x1 m1 =>
      l26 v0 v2 x1 v6 m1
set_option maxRecDepth 100000 in
theorem xg_Nu_raisedTo_7 {kp : pm_K} {d : Nat} {f_Nu_square : Int64 → qm_M → Option qm_R} {f_Nu_product : Int64 → Int64 → qm_M → Option qm_R} {l26 : Int64 → Int64 → Int64 → Int32 → qm_M → Option qm_R} (hT : qe_G kp d (T_Nu_raisedTo f_Nu_square f_Nu_product)) (h26 : ∀ (v0 : Int64) (v2 : Int64) (v4 : Int64) (v6 : Int32) (m : qm_M), qe_J kp md_Nu_raisedTo d (l26 v0 v2 v4 v6 m) 26 [(0, .long v0), (2, .long v2), (4, .long v4), (6, .int v6)] [] m) (v0 : Int64) (v2 : Int64) (v4 : Int64) (v6 : Int32) (m : qm_M) : qe_J kp md_Nu_raisedTo d (X_Nu_raisedTo_7 f_Nu_square f_Nu_product l26 v0 v2 v4 v6 m) 7 [(0, .long v0), (2, .long v2), (4, .long v4), (6, .int v6)] [] m := qe_run (B := [(26, [0, 2, 4, 6], qp_llli_ l26)]) (n := 1000) hT (qe_B1 (qp_llli__ok h26) qe_B0) rfl
def L_Nu_raisedTo_7 : Nat → Int64 → Int64 → Int64 → Int32 → qm_M → Option qm_R
  | 0, _, _, _, _, _ => none
  | n + 1, v0, v2, v4, v6, m => X_Nu_raisedTo_7 F_Nu_square F_Nu_product (L_Nu_raisedTo_26 (L_Nu_raisedTo_7 n)) v0 v2 v4 v6 m
theorem lg_Nu_raisedTo_7 {kp : pm_K} {d : Nat} (hT : qe_G kp d (T_Nu_raisedTo F_Nu_square F_Nu_product)) : ∀ (n : Nat) (v0 : Int64) (v2 : Int64) (v4 : Int64) (v6 : Int32) (m : qm_M), qe_J kp md_Nu_raisedTo d (L_Nu_raisedTo_7 n v0 v2 v4 v6 m) 7 [(0, .long v0), (2, .long v2), (4, .long v4), (6, .int v6)] [] m
  | 0, v0, v2, v4, v6, m => qe_none rfl
  | n + 1, v0, v2, v4, v6, m => xg_Nu_raisedTo_7 hT (lg_Nu_raisedTo_26 hT (lg_Nu_raisedTo_7 hT n)) v0 v2 v4 v6 m
def X_Nu_raisedTo_e (f_Nu_square : Int64 → qm_M → Option qm_R) (f_Nu_product : Int64 → Int64 → qm_M → Option qm_R) (l7 : Int64 → Int64 → Int64 → Int32 → qm_M → Option qm_R) (v0 : Int64) (v2 : Int64) (m : qm_M) : Option qm_R :=
  l7 v0 v2 (1 : Int64) (63 : Int32) m
set_option maxRecDepth 100000 in
theorem xg_Nu_raisedTo_e {kp : pm_K} {d : Nat} {f_Nu_square : Int64 → qm_M → Option qm_R} {f_Nu_product : Int64 → Int64 → qm_M → Option qm_R} {l7 : Int64 → Int64 → Int64 → Int32 → qm_M → Option qm_R} (hT : qe_G kp d (T_Nu_raisedTo f_Nu_square f_Nu_product)) (h7 : ∀ (v0 : Int64) (v2 : Int64) (v4 : Int64) (v6 : Int32) (m : qm_M), qe_J kp md_Nu_raisedTo d (l7 v0 v2 v4 v6 m) 7 [(0, .long v0), (2, .long v2), (4, .long v4), (6, .int v6)] [] m) (v0 : Int64) (v2 : Int64) (m : qm_M) : qe_J kp md_Nu_raisedTo d (X_Nu_raisedTo_e f_Nu_square f_Nu_product l7 v0 v2 m) 0 [(0, .long v0), (2, .long v2)] [] m := qe_run (B := [(7, [0, 2, 4, 6], qp_llli_ l7)]) (n := 1000) hT (qe_B1 (qp_llli__ok h7) qe_B0) rfl
def F_Nu_raisedTo (v0 : Int64) (v2 : Int64) (m : qm_M) : Option qm_R := X_Nu_raisedTo_e F_Nu_square F_Nu_product (L_Nu_raisedTo_7 1000000) v0 v2 m
theorem fj_Nu_raisedTo {kp : pm_K} {d : Nat} (hT : qe_G kp d (T_Nu_raisedTo F_Nu_square F_Nu_product)) (v0 : Int64) (v2 : Int64) (m : qm_M) : qe_J kp md_Nu_raisedTo d (F_Nu_raisedTo v0 v2 m) 0 [(0, .long v0), (2, .long v2)] [] m := xg_Nu_raisedTo_e hT (lg_Nu_raisedTo_7 hT 1000000) v0 v2 m
theorem fg_Nu_raisedTo {kp : pm_K} (d : Nat) : qe_GE kp (d + 34) (33, 1, 0, 2, qw_ll F_Nu_raisedTo) := qe_entry (by decide +kernel) (qw_ll_ok (d := d + 33) rfl rfl (fj_Nu_raisedTo (qe_G1 (fg_Nu_square (d + 10)) (qe_G1 (fg_Nu_product (d + 0)) qe_G0))))
/-! TurnField$Numbers.primesIn(I)I -/
noncomputable def T_Nu_primesIn : qe_T := []
def X_Nu_primesIn_e (v0 : Int32) (m : qm_M) : Option qm_R :=
  if v0 < (6 : Int32) then
    some (some (.int v0), m)
  else
    some (some (.int (7 : Int32)), m)
set_option maxRecDepth 100000 in
theorem xg_Nu_primesIn_e {kp : pm_K} {d : Nat} (hT : qe_G kp d (T_Nu_primesIn)) (v0 : Int32) (m : qm_M) : qe_J kp md_Nu_primesIn d (X_Nu_primesIn_e v0 m) 0 [(0, .int v0)] [] m := qe_run (B := []) (n := 1000) hT qe_B0 rfl
def F_Nu_primesIn (v0 : Int32) (m : qm_M) : Option qm_R := X_Nu_primesIn_e v0 m
theorem fj_Nu_primesIn {kp : pm_K} {d : Nat} (hT : qe_G kp d (T_Nu_primesIn)) (v0 : Int32) (m : qm_M) : qe_J kp md_Nu_primesIn d (F_Nu_primesIn v0 m) 0 [(0, .int v0)] [] m := xg_Nu_primesIn_e hT v0 m
theorem fg_Nu_primesIn {kp : pm_K} (d : Nat) : qe_GE kp (d + 1) (34, 1, 0, 1, qw_i F_Nu_primesIn) := qe_entry (by decide +kernel) (qw_i_ok (d := d + 0) rfl rfl (fj_Nu_primesIn qe_G0))
/-! TurnField$Numbers.powerWithout(JII)J -/
noncomputable def T_Nu_powerWithout (f_Nu_primesIn : Int32 → qm_M → Option qm_R) (f_Nu_raisedTo : Int64 → Int64 → qm_M → Option qm_R) : qe_T := [(34, 1, 0, 1, qw_i f_Nu_primesIn), (33, 1, 0, 2, qw_ll f_Nu_raisedTo)]
def X_Nu_powerWithout_6 (f_Nu_primesIn : Int32 → qm_M → Option qm_R) (f_Nu_raisedTo : Int64 → Int64 → qm_M → Option qm_R) (l6 : Int32 → Int32 → Int64 → Int32 → qm_M → Option qm_R) (v2 : Int32) (v3 : Int32) (v4 : Int64) (v6 : Int32) (m : qm_M) : Option qm_R :=
  qe_rI (f_Nu_primesIn v2 m) fun x1 m1 =>
  if v6 < x1 then
    if v6 = v3 then
      l6 v2 v3 v4 (v6 + (1 : Int32)) m1
    else
      qe_b (qm_in v6 7) (
      qe_rL (f_Nu_raisedTo v4 (qm_gL m1 1000002 (Int32.toNatClampNeg v6)) m1) fun x2 m2 =>
      l6 v2 v3 x2 (v6 + (1 : Int32)) m2)
  else
    some (some (.long v4), m1)
set_option maxRecDepth 100000 in
theorem xg_Nu_powerWithout_6 {kp : pm_K} {d : Nat} {f_Nu_primesIn : Int32 → qm_M → Option qm_R} {f_Nu_raisedTo : Int64 → Int64 → qm_M → Option qm_R} {l6 : Int32 → Int32 → Int64 → Int32 → qm_M → Option qm_R} (hT : qe_G kp d (T_Nu_powerWithout f_Nu_primesIn f_Nu_raisedTo)) (h6 : ∀ (v2 : Int32) (v3 : Int32) (v4 : Int64) (v6 : Int32) (m : qm_M), qe_J kp md_Nu_powerWithout d (l6 v2 v3 v4 v6 m) 6 [(2, .int v2), (3, .int v3), (4, .long v4), (6, .int v6)] [] m) (v2 : Int32) (v3 : Int32) (v4 : Int64) (v6 : Int32) (m : qm_M) : qe_J kp md_Nu_powerWithout d (X_Nu_powerWithout_6 f_Nu_primesIn f_Nu_raisedTo l6 v2 v3 v4 v6 m) 6 [(2, .int v2), (3, .int v3), (4, .long v4), (6, .int v6)] [] m := qe_run (B := [(6, [2, 3, 4, 6], qp_iili_ l6)]) (n := 1000) hT (qe_B1 (qp_iili__ok h6) qe_B0) rfl
def L_Nu_powerWithout_6 : Nat → Int32 → Int32 → Int64 → Int32 → qm_M → Option qm_R
  | 0, _, _, _, _, _ => none
  | n + 1, v2, v3, v4, v6, m => X_Nu_powerWithout_6 F_Nu_primesIn F_Nu_raisedTo (L_Nu_powerWithout_6 n) v2 v3 v4 v6 m
theorem lg_Nu_powerWithout_6 {kp : pm_K} {d : Nat} (hT : qe_G kp d (T_Nu_powerWithout F_Nu_primesIn F_Nu_raisedTo)) : ∀ (n : Nat) (v2 : Int32) (v3 : Int32) (v4 : Int64) (v6 : Int32) (m : qm_M), qe_J kp md_Nu_powerWithout d (L_Nu_powerWithout_6 n v2 v3 v4 v6 m) 6 [(2, .int v2), (3, .int v3), (4, .long v4), (6, .int v6)] [] m
  | 0, v2, v3, v4, v6, m => qe_none rfl
  | n + 1, v2, v3, v4, v6, m => xg_Nu_powerWithout_6 hT (lg_Nu_powerWithout_6 hT n) v2 v3 v4 v6 m
def X_Nu_powerWithout_e (f_Nu_primesIn : Int32 → qm_M → Option qm_R) (f_Nu_raisedTo : Int64 → Int64 → qm_M → Option qm_R) (l6 : Int32 → Int32 → Int64 → Int32 → qm_M → Option qm_R) (v0 : Int64) (v2 : Int32) (v3 : Int32) (m : qm_M) : Option qm_R :=
  l6 v2 v3 v0 (0 : Int32) m
set_option maxRecDepth 100000 in
theorem xg_Nu_powerWithout_e {kp : pm_K} {d : Nat} {f_Nu_primesIn : Int32 → qm_M → Option qm_R} {f_Nu_raisedTo : Int64 → Int64 → qm_M → Option qm_R} {l6 : Int32 → Int32 → Int64 → Int32 → qm_M → Option qm_R} (hT : qe_G kp d (T_Nu_powerWithout f_Nu_primesIn f_Nu_raisedTo)) (h6 : ∀ (v2 : Int32) (v3 : Int32) (v4 : Int64) (v6 : Int32) (m : qm_M), qe_J kp md_Nu_powerWithout d (l6 v2 v3 v4 v6 m) 6 [(2, .int v2), (3, .int v3), (4, .long v4), (6, .int v6)] [] m) (v0 : Int64) (v2 : Int32) (v3 : Int32) (m : qm_M) : qe_J kp md_Nu_powerWithout d (X_Nu_powerWithout_e f_Nu_primesIn f_Nu_raisedTo l6 v0 v2 v3 m) 0 [(0, .long v0), (2, .int v2), (3, .int v3)] [] m := qe_run (B := [(6, [2, 3, 4, 6], qp_iili_ l6)]) (n := 1000) hT (qe_B1 (qp_iili__ok h6) qe_B0) rfl
def F_Nu_powerWithout (v0 : Int64) (v2 : Int32) (v3 : Int32) (m : qm_M) : Option qm_R := X_Nu_powerWithout_e F_Nu_primesIn F_Nu_raisedTo (L_Nu_powerWithout_6 1000000) v0 v2 v3 m
theorem fj_Nu_powerWithout {kp : pm_K} {d : Nat} (hT : qe_G kp d (T_Nu_powerWithout F_Nu_primesIn F_Nu_raisedTo)) (v0 : Int64) (v2 : Int32) (v3 : Int32) (m : qm_M) : qe_J kp md_Nu_powerWithout d (F_Nu_powerWithout v0 v2 v3 m) 0 [(0, .long v0), (2, .int v2), (3, .int v3)] [] m := xg_Nu_powerWithout_e hT (lg_Nu_powerWithout_6 hT 1000000) v0 v2 v3 m
theorem fg_Nu_powerWithout {kp : pm_K} (d : Nat) : qe_GE kp (d + 35) (35, 1, 0, 2, qw_lii F_Nu_powerWithout) := qe_entry (by decide +kernel) (qw_lii_ok (d := d + 34) rfl rfl (fj_Nu_powerWithout (qe_G1 (fg_Nu_primesIn (d + 33)) (qe_G1 (fg_Nu_raisedTo (d + 0)) qe_G0))))
/-! TurnField$Numbers.orderOf(J)J -/
noncomputable def T_Nu_orderOf (f_Nu_levelOf : Int64 → qm_M → Option qm_R) (f_Nu_primesIn : Int32 → qm_M → Option qm_R) (f_Nu_powerWithout : Int64 → Int32 → Int32 → qm_M → Option qm_R) : qe_T := [(21, 1, 0, 1, qw_l f_Nu_levelOf), (34, 1, 0, 1, qw_i f_Nu_primesIn), (35, 1, 0, 2, qw_lii f_Nu_powerWithout)]
def X_Nu_orderOf_18 (f_Nu_levelOf : Int64 → qm_M → Option qm_R) (f_Nu_primesIn : Int32 → qm_M → Option qm_R) (f_Nu_powerWithout : Int64 → Int32 → Int32 → qm_M → Option qm_R) (l18 : Int64 → Int32 → Int64 → Int32 → qm_M → Option qm_R) (v0 : Int64) (v2 : Int32) (v3 : Int64) (v5 : Int32) (m : qm_M) : Option qm_R :=
  qe_rI (f_Nu_primesIn v2 m) fun x1 m1 =>
  if v5 < x1 then
    qe_rL (f_Nu_powerWithout v0 v2 v5 m1) fun x2 m2 =>
    if (lg_cmp x2 (1 : Int64)) = 0 then
      l18 v0 v2 v3 (v5 + (1 : Int32)) m2
    else
      qe_b (qm_in v5 7) (
      let x3 : Int64 := (v3 * (qm_gL m2 1000002 (Int32.toNatClampNeg v5)))
      l18 v0 v2 x3 (v5 + (1 : Int32)) m2)
  else
    some (some (.long v3), m1)
set_option maxRecDepth 100000 in
theorem xg_Nu_orderOf_18 {kp : pm_K} {d : Nat} {f_Nu_levelOf : Int64 → qm_M → Option qm_R} {f_Nu_primesIn : Int32 → qm_M → Option qm_R} {f_Nu_powerWithout : Int64 → Int32 → Int32 → qm_M → Option qm_R} {l18 : Int64 → Int32 → Int64 → Int32 → qm_M → Option qm_R} (hT : qe_G kp d (T_Nu_orderOf f_Nu_levelOf f_Nu_primesIn f_Nu_powerWithout)) (h18 : ∀ (v0 : Int64) (v2 : Int32) (v3 : Int64) (v5 : Int32) (m : qm_M), qe_J kp md_Nu_orderOf d (l18 v0 v2 v3 v5 m) 18 [(0, .long v0), (2, .int v2), (3, .long v3), (5, .int v5)] [] m) (v0 : Int64) (v2 : Int32) (v3 : Int64) (v5 : Int32) (m : qm_M) : qe_J kp md_Nu_orderOf d (X_Nu_orderOf_18 f_Nu_levelOf f_Nu_primesIn f_Nu_powerWithout l18 v0 v2 v3 v5 m) 18 [(0, .long v0), (2, .int v2), (3, .long v3), (5, .int v5)] [] m := qe_run (B := [(18, [0, 2, 3, 5], qp_lili_ l18)]) (n := 1000) hT (qe_B1 (qp_lili__ok h18) qe_B0) rfl
def L_Nu_orderOf_18 : Nat → Int64 → Int32 → Int64 → Int32 → qm_M → Option qm_R
  | 0, _, _, _, _, _ => none
  | n + 1, v0, v2, v3, v5, m => X_Nu_orderOf_18 F_Nu_levelOf F_Nu_primesIn F_Nu_powerWithout (L_Nu_orderOf_18 n) v0 v2 v3 v5 m
theorem lg_Nu_orderOf_18 {kp : pm_K} {d : Nat} (hT : qe_G kp d (T_Nu_orderOf F_Nu_levelOf F_Nu_primesIn F_Nu_powerWithout)) : ∀ (n : Nat) (v0 : Int64) (v2 : Int32) (v3 : Int64) (v5 : Int32) (m : qm_M), qe_J kp md_Nu_orderOf d (L_Nu_orderOf_18 n v0 v2 v3 v5 m) 18 [(0, .long v0), (2, .int v2), (3, .long v3), (5, .int v5)] [] m
  | 0, v0, v2, v3, v5, m => qe_none rfl
  | n + 1, v0, v2, v3, v5, m => xg_Nu_orderOf_18 hT (lg_Nu_orderOf_18 hT n) v0 v2 v3 v5 m
def X_Nu_orderOf_e (f_Nu_levelOf : Int64 → qm_M → Option qm_R) (f_Nu_primesIn : Int32 → qm_M → Option qm_R) (f_Nu_powerWithout : Int64 → Int32 → Int32 → qm_M → Option qm_R) (l18 : Int64 → Int32 → Int64 → Int32 → qm_M → Option qm_R) (v0 : Int64) (m : qm_M) : Option qm_R :=
  if (lg_cmp v0 (0 : Int64)) = 0 then
    some (some (.long (0 : Int64)), m)
  else
    qe_rI (f_Nu_levelOf v0 m) fun x1 m1 =>
    l18 v0 x1 (1 : Int64) (0 : Int32) m1
set_option maxRecDepth 100000 in
theorem xg_Nu_orderOf_e {kp : pm_K} {d : Nat} {f_Nu_levelOf : Int64 → qm_M → Option qm_R} {f_Nu_primesIn : Int32 → qm_M → Option qm_R} {f_Nu_powerWithout : Int64 → Int32 → Int32 → qm_M → Option qm_R} {l18 : Int64 → Int32 → Int64 → Int32 → qm_M → Option qm_R} (hT : qe_G kp d (T_Nu_orderOf f_Nu_levelOf f_Nu_primesIn f_Nu_powerWithout)) (h18 : ∀ (v0 : Int64) (v2 : Int32) (v3 : Int64) (v5 : Int32) (m : qm_M), qe_J kp md_Nu_orderOf d (l18 v0 v2 v3 v5 m) 18 [(0, .long v0), (2, .int v2), (3, .long v3), (5, .int v5)] [] m) (v0 : Int64) (m : qm_M) : qe_J kp md_Nu_orderOf d (X_Nu_orderOf_e f_Nu_levelOf f_Nu_primesIn f_Nu_powerWithout l18 v0 m) 0 [(0, .long v0)] [] m := qe_run (B := [(18, [0, 2, 3, 5], qp_lili_ l18)]) (n := 1000) hT (qe_B1 (qp_lili__ok h18) qe_B0) rfl
def F_Nu_orderOf (v0 : Int64) (m : qm_M) : Option qm_R := X_Nu_orderOf_e F_Nu_levelOf F_Nu_primesIn F_Nu_powerWithout (L_Nu_orderOf_18 1000000) v0 m
theorem fj_Nu_orderOf {kp : pm_K} {d : Nat} (hT : qe_G kp d (T_Nu_orderOf F_Nu_levelOf F_Nu_primesIn F_Nu_powerWithout)) (v0 : Int64) (m : qm_M) : qe_J kp md_Nu_orderOf d (F_Nu_orderOf v0 m) 0 [(0, .long v0)] [] m := xg_Nu_orderOf_e hT (lg_Nu_orderOf_18 hT 1000000) v0 m
theorem fg_Nu_orderOf {kp : pm_K} (d : Nat) : qe_GE kp (d + 36) (36, 1, 0, 2, qw_l F_Nu_orderOf) := qe_entry (by decide +kernel) (qw_l_ok (d := d + 35) rfl rfl (fj_Nu_orderOf (qe_G1 (fg_Nu_levelOf (d + 34)) (qe_G1 (fg_Nu_primesIn (d + 34)) (qe_G1 (fg_Nu_powerWithout (d + 0)) qe_G0)))))
/-! TurnField$Numbers.fullCount(I)J -/
noncomputable def T_Nu_fullCount (f_Nu_primesIn : Int32 → qm_M → Option qm_R) : qe_T := [(34, 1, 0, 1, qw_i f_Nu_primesIn)]
def X_Nu_fullCount_4 (f_Nu_primesIn : Int32 → qm_M → Option qm_R) (l4 : Int32 → Int64 → Int32 → qm_M → Option qm_R) (v0 : Int32) (v1 : Int64) (v3 : Int32) (m : qm_M) : Option qm_R :=
  qe_rI (f_Nu_primesIn v0 m) fun x1 m1 =>
  if v3 < x1 then
    qe_b (qm_in v3 7) (
    let x2 : Int64 := (v1 * ((qm_gL m1 1000002 (Int32.toNatClampNeg v3)) - (1 : Int64)))
    l4 v0 x2 (v3 + (1 : Int32)) m1)
  else
    some (some (.long v1), m1)
set_option maxRecDepth 100000 in
theorem xg_Nu_fullCount_4 {kp : pm_K} {d : Nat} {f_Nu_primesIn : Int32 → qm_M → Option qm_R} {l4 : Int32 → Int64 → Int32 → qm_M → Option qm_R} (hT : qe_G kp d (T_Nu_fullCount f_Nu_primesIn)) (h4 : ∀ (v0 : Int32) (v1 : Int64) (v3 : Int32) (m : qm_M), qe_J kp md_Nu_fullCount d (l4 v0 v1 v3 m) 4 [(0, .int v0), (1, .long v1), (3, .int v3)] [] m) (v0 : Int32) (v1 : Int64) (v3 : Int32) (m : qm_M) : qe_J kp md_Nu_fullCount d (X_Nu_fullCount_4 f_Nu_primesIn l4 v0 v1 v3 m) 4 [(0, .int v0), (1, .long v1), (3, .int v3)] [] m := qe_run (B := [(4, [0, 1, 3], qp_ili_ l4)]) (n := 1000) hT (qe_B1 (qp_ili__ok h4) qe_B0) rfl
def L_Nu_fullCount_4 : Nat → Int32 → Int64 → Int32 → qm_M → Option qm_R
  | 0, _, _, _, _ => none
  | n + 1, v0, v1, v3, m => X_Nu_fullCount_4 F_Nu_primesIn (L_Nu_fullCount_4 n) v0 v1 v3 m
theorem lg_Nu_fullCount_4 {kp : pm_K} {d : Nat} (hT : qe_G kp d (T_Nu_fullCount F_Nu_primesIn)) : ∀ (n : Nat) (v0 : Int32) (v1 : Int64) (v3 : Int32) (m : qm_M), qe_J kp md_Nu_fullCount d (L_Nu_fullCount_4 n v0 v1 v3 m) 4 [(0, .int v0), (1, .long v1), (3, .int v3)] [] m
  | 0, v0, v1, v3, m => qe_none rfl
  | n + 1, v0, v1, v3, m => xg_Nu_fullCount_4 hT (lg_Nu_fullCount_4 hT n) v0 v1 v3 m
def X_Nu_fullCount_e (f_Nu_primesIn : Int32 → qm_M → Option qm_R) (l4 : Int32 → Int64 → Int32 → qm_M → Option qm_R) (v0 : Int32) (m : qm_M) : Option qm_R :=
  l4 v0 (1 : Int64) (0 : Int32) m
set_option maxRecDepth 100000 in
theorem xg_Nu_fullCount_e {kp : pm_K} {d : Nat} {f_Nu_primesIn : Int32 → qm_M → Option qm_R} {l4 : Int32 → Int64 → Int32 → qm_M → Option qm_R} (hT : qe_G kp d (T_Nu_fullCount f_Nu_primesIn)) (h4 : ∀ (v0 : Int32) (v1 : Int64) (v3 : Int32) (m : qm_M), qe_J kp md_Nu_fullCount d (l4 v0 v1 v3 m) 4 [(0, .int v0), (1, .long v1), (3, .int v3)] [] m) (v0 : Int32) (m : qm_M) : qe_J kp md_Nu_fullCount d (X_Nu_fullCount_e f_Nu_primesIn l4 v0 m) 0 [(0, .int v0)] [] m := qe_run (B := [(4, [0, 1, 3], qp_ili_ l4)]) (n := 1000) hT (qe_B1 (qp_ili__ok h4) qe_B0) rfl
def F_Nu_fullCount (v0 : Int32) (m : qm_M) : Option qm_R := X_Nu_fullCount_e F_Nu_primesIn (L_Nu_fullCount_4 1000000) v0 m
theorem fj_Nu_fullCount {kp : pm_K} {d : Nat} (hT : qe_G kp d (T_Nu_fullCount F_Nu_primesIn)) (v0 : Int32) (m : qm_M) : qe_J kp md_Nu_fullCount d (F_Nu_fullCount v0 m) 0 [(0, .int v0)] [] m := xg_Nu_fullCount_e hT (lg_Nu_fullCount_4 hT 1000000) v0 m
theorem fg_Nu_fullCount {kp : pm_K} (d : Nat) : qe_GE kp (d + 2) (37, 1, 0, 2, qw_i F_Nu_fullCount) := qe_entry (by decide +kernel) (qw_i_ok (d := d + 1) rfl rfl (fj_Nu_fullCount (qe_G1 (fg_Nu_primesIn (d + 0)) qe_G0)))
/-! TurnField$Numbers.isFull(JI)Z -/
noncomputable def T_Nu_isFull (f_Nu_primesIn : Int32 → qm_M → Option qm_R) (f_Nu_powerWithout : Int64 → Int32 → Int32 → qm_M → Option qm_R) : qe_T := [(34, 1, 0, 1, qw_i f_Nu_primesIn), (35, 1, 0, 2, qw_lii f_Nu_powerWithout)]
def X_Nu_isFull_2 (f_Nu_primesIn : Int32 → qm_M → Option qm_R) (f_Nu_powerWithout : Int64 → Int32 → Int32 → qm_M → Option qm_R) (l2 : Int64 → Int32 → Int32 → qm_M → Option qm_R) (v0 : Int64) (v2 : Int32) (v3 : Int32) (m : qm_M) : Option qm_R :=
  qe_rI (f_Nu_primesIn v2 m) fun x1 m1 =>
  if v3 < x1 then
    qe_rL (f_Nu_powerWithout v0 v2 v3 m1) fun x2 m2 =>
    if (lg_cmp x2 (1 : Int64)) = 0 then
      some (some (.int (0 : Int32)), m2)
    else
      l2 v0 v2 (v3 + (1 : Int32)) m2
  else
    some (some (.int (1 : Int32)), m1)
set_option maxRecDepth 100000 in
theorem xg_Nu_isFull_2 {kp : pm_K} {d : Nat} {f_Nu_primesIn : Int32 → qm_M → Option qm_R} {f_Nu_powerWithout : Int64 → Int32 → Int32 → qm_M → Option qm_R} {l2 : Int64 → Int32 → Int32 → qm_M → Option qm_R} (hT : qe_G kp d (T_Nu_isFull f_Nu_primesIn f_Nu_powerWithout)) (h2 : ∀ (v0 : Int64) (v2 : Int32) (v3 : Int32) (m : qm_M), qe_J kp md_Nu_isFull d (l2 v0 v2 v3 m) 2 [(0, .long v0), (2, .int v2), (3, .int v3)] [] m) (v0 : Int64) (v2 : Int32) (v3 : Int32) (m : qm_M) : qe_J kp md_Nu_isFull d (X_Nu_isFull_2 f_Nu_primesIn f_Nu_powerWithout l2 v0 v2 v3 m) 2 [(0, .long v0), (2, .int v2), (3, .int v3)] [] m := qe_run (B := [(2, [0, 2, 3], qp_lii_ l2)]) (n := 1000) hT (qe_B1 (qp_lii__ok h2) qe_B0) rfl
def L_Nu_isFull_2 : Nat → Int64 → Int32 → Int32 → qm_M → Option qm_R
  | 0, _, _, _, _ => none
  | n + 1, v0, v2, v3, m => X_Nu_isFull_2 F_Nu_primesIn F_Nu_powerWithout (L_Nu_isFull_2 n) v0 v2 v3 m
theorem lg_Nu_isFull_2 {kp : pm_K} {d : Nat} (hT : qe_G kp d (T_Nu_isFull F_Nu_primesIn F_Nu_powerWithout)) : ∀ (n : Nat) (v0 : Int64) (v2 : Int32) (v3 : Int32) (m : qm_M), qe_J kp md_Nu_isFull d (L_Nu_isFull_2 n v0 v2 v3 m) 2 [(0, .long v0), (2, .int v2), (3, .int v3)] [] m
  | 0, v0, v2, v3, m => qe_none rfl
  | n + 1, v0, v2, v3, m => xg_Nu_isFull_2 hT (lg_Nu_isFull_2 hT n) v0 v2 v3 m
def X_Nu_isFull_e (f_Nu_primesIn : Int32 → qm_M → Option qm_R) (f_Nu_powerWithout : Int64 → Int32 → Int32 → qm_M → Option qm_R) (l2 : Int64 → Int32 → Int32 → qm_M → Option qm_R) (v0 : Int64) (v2 : Int32) (m : qm_M) : Option qm_R :=
  l2 v0 v2 (0 : Int32) m
set_option maxRecDepth 100000 in
theorem xg_Nu_isFull_e {kp : pm_K} {d : Nat} {f_Nu_primesIn : Int32 → qm_M → Option qm_R} {f_Nu_powerWithout : Int64 → Int32 → Int32 → qm_M → Option qm_R} {l2 : Int64 → Int32 → Int32 → qm_M → Option qm_R} (hT : qe_G kp d (T_Nu_isFull f_Nu_primesIn f_Nu_powerWithout)) (h2 : ∀ (v0 : Int64) (v2 : Int32) (v3 : Int32) (m : qm_M), qe_J kp md_Nu_isFull d (l2 v0 v2 v3 m) 2 [(0, .long v0), (2, .int v2), (3, .int v3)] [] m) (v0 : Int64) (v2 : Int32) (m : qm_M) : qe_J kp md_Nu_isFull d (X_Nu_isFull_e f_Nu_primesIn f_Nu_powerWithout l2 v0 v2 m) 0 [(0, .long v0), (2, .int v2)] [] m := qe_run (B := [(2, [0, 2, 3], qp_lii_ l2)]) (n := 1000) hT (qe_B1 (qp_lii__ok h2) qe_B0) rfl
def F_Nu_isFull (v0 : Int64) (v2 : Int32) (m : qm_M) : Option qm_R := X_Nu_isFull_e F_Nu_primesIn F_Nu_powerWithout (L_Nu_isFull_2 1000000) v0 v2 m
theorem fj_Nu_isFull {kp : pm_K} {d : Nat} (hT : qe_G kp d (T_Nu_isFull F_Nu_primesIn F_Nu_powerWithout)) (v0 : Int64) (v2 : Int32) (m : qm_M) : qe_J kp md_Nu_isFull d (F_Nu_isFull v0 v2 m) 0 [(0, .long v0), (2, .int v2)] [] m := xg_Nu_isFull_e hT (lg_Nu_isFull_2 hT 1000000) v0 v2 m
theorem fg_Nu_isFull {kp : pm_K} (d : Nat) : qe_GE kp (d + 36) (39, 1, 0, 1, qw_li F_Nu_isFull) := qe_entry (by decide +kernel) (qw_li_ok (d := d + 35) rfl rfl (fj_Nu_isFull (qe_G1 (fg_Nu_primesIn (d + 34)) (qe_G1 (fg_Nu_powerWithout (d + 0)) qe_G0))))
/-! TurnField$Numbers.leastFull(I)J -/
noncomputable def T_Nu_leastFull (f_Nu_isFull : Int64 → Int32 → qm_M → Option qm_R) : qe_T := [(39, 1, 0, 1, qw_li f_Nu_isFull)]
def X_Nu_leastFull_16 (f_Nu_isFull : Int64 → Int32 → qm_M → Option qm_R) (l16 : Int32 → Int64 → Int32 → qm_M → Option qm_R) (v0 : Int32) (v1 : Int64) (v3 : Int32) (m : qm_M) : Option qm_R :=
  if v3 < (1000000 : Int32) then
    qe_rI (f_Nu_isFull (v1 + (Int32.toInt64 v3)) v0 m) fun x1 m1 =>
    if x1 = 0 then
      l16 v0 v1 (v3 + (1 : Int32)) m1
    else
      some (some (.long (v1 + (Int32.toInt64 v3))), m1)
  else
    some (some (.long (0 : Int64)), m)
set_option maxRecDepth 100000 in
theorem xg_Nu_leastFull_16 {kp : pm_K} {d : Nat} {f_Nu_isFull : Int64 → Int32 → qm_M → Option qm_R} {l16 : Int32 → Int64 → Int32 → qm_M → Option qm_R} (hT : qe_G kp d (T_Nu_leastFull f_Nu_isFull)) (h16 : ∀ (v0 : Int32) (v1 : Int64) (v3 : Int32) (m : qm_M), qe_J kp md_Nu_leastFull d (l16 v0 v1 v3 m) 16 [(0, .int v0), (1, .long v1), (3, .int v3)] [] m) (v0 : Int32) (v1 : Int64) (v3 : Int32) (m : qm_M) : qe_J kp md_Nu_leastFull d (X_Nu_leastFull_16 f_Nu_isFull l16 v0 v1 v3 m) 16 [(0, .int v0), (1, .long v1), (3, .int v3)] [] m := qe_run (B := [(16, [0, 1, 3], qp_ili_ l16)]) (n := 1000) hT (qe_B1 (qp_ili__ok h16) qe_B0) rfl
def L_Nu_leastFull_16 : Nat → Int32 → Int64 → Int32 → qm_M → Option qm_R
  | 0, _, _, _, _ => none
  | n + 1, v0, v1, v3, m => X_Nu_leastFull_16 F_Nu_isFull (L_Nu_leastFull_16 n) v0 v1 v3 m
theorem lg_Nu_leastFull_16 {kp : pm_K} {d : Nat} (hT : qe_G kp d (T_Nu_leastFull F_Nu_isFull)) : ∀ (n : Nat) (v0 : Int32) (v1 : Int64) (v3 : Int32) (m : qm_M), qe_J kp md_Nu_leastFull d (L_Nu_leastFull_16 n v0 v1 v3 m) 16 [(0, .int v0), (1, .long v1), (3, .int v3)] [] m
  | 0, v0, v1, v3, m => qe_none rfl
  | n + 1, v0, v1, v3, m => xg_Nu_leastFull_16 hT (lg_Nu_leastFull_16 hT n) v0 v1 v3 m
def X_Nu_leastFull_e (f_Nu_isFull : Int64 → Int32 → qm_M → Option qm_R) (l16 : Int32 → Int64 → Int32 → qm_M → Option qm_R) (v0 : Int32) (m : qm_M) : Option qm_R :=
  if 0 < v0 then
    let x1 : Int64 := (qo_lshl (1 : Int64) (qo_ishl (1 : Int32) (v0 - (1 : Int32))))
    l16 v0 x1 (0 : Int32) m
  else
    some (some (.long (1 : Int64)), m)
set_option maxRecDepth 100000 in
theorem xg_Nu_leastFull_e {kp : pm_K} {d : Nat} {f_Nu_isFull : Int64 → Int32 → qm_M → Option qm_R} {l16 : Int32 → Int64 → Int32 → qm_M → Option qm_R} (hT : qe_G kp d (T_Nu_leastFull f_Nu_isFull)) (h16 : ∀ (v0 : Int32) (v1 : Int64) (v3 : Int32) (m : qm_M), qe_J kp md_Nu_leastFull d (l16 v0 v1 v3 m) 16 [(0, .int v0), (1, .long v1), (3, .int v3)] [] m) (v0 : Int32) (m : qm_M) : qe_J kp md_Nu_leastFull d (X_Nu_leastFull_e f_Nu_isFull l16 v0 m) 0 [(0, .int v0)] [] m := qe_run (B := [(16, [0, 1, 3], qp_ili_ l16)]) (n := 1000) hT (qe_B1 (qp_ili__ok h16) qe_B0) rfl
def F_Nu_leastFull (v0 : Int32) (m : qm_M) : Option qm_R := X_Nu_leastFull_e F_Nu_isFull (L_Nu_leastFull_16 1000000) v0 m
theorem fj_Nu_leastFull {kp : pm_K} {d : Nat} (hT : qe_G kp d (T_Nu_leastFull F_Nu_isFull)) (v0 : Int32) (m : qm_M) : qe_J kp md_Nu_leastFull d (F_Nu_leastFull v0 m) 0 [(0, .int v0)] [] m := xg_Nu_leastFull_e hT (lg_Nu_leastFull_16 hT 1000000) v0 m
theorem fg_Nu_leastFull {kp : pm_K} (d : Nat) : qe_GE kp (d + 37) (38, 1, 0, 2, qw_i F_Nu_leastFull) := qe_entry (by decide +kernel) (qw_i_ok (d := d + 36) rfl rfl (fj_Nu_leastFull (qe_G1 (fg_Nu_isFull (d + 0)) qe_G0)))
/-! TurnField$Numbers.restOf(JJJ)J -/
noncomputable def T_Nu_restOf (f_Nu_product : Int64 → Int64 → qm_M → Option qm_R) : qe_T := [(22, 1, 0, 2, qw_ll f_Nu_product)]
def X_Nu_restOf_6 (f_Nu_product : Int64 → Int64 → qm_M → Option qm_R) (l6 : Int64 → Int64 → Int64 → Int64 → Int64 → qm_M → Option qm_R) (v0 : Int64) (v2 : Int64) (v4 : Int64) (v6 : Int64) (v8 : Int64) (m : qm_M) : Option qm_R :=
  if (lg_cmp v8 v4) < 0 then
    if (lg_cmp v6 v0) = 0 then
      some (some (.long v8), m)
    else
      qe_rL (f_Nu_product v6 v2 m) fun x1 m1 =>
      l6 v0 v2 v4 x1 (v8 + (1 : Int64)) m1
  else
    some (some (.long (0 : Int64)), m)
set_option maxRecDepth 100000 in
theorem xg_Nu_restOf_6 {kp : pm_K} {d : Nat} {f_Nu_product : Int64 → Int64 → qm_M → Option qm_R} {l6 : Int64 → Int64 → Int64 → Int64 → Int64 → qm_M → Option qm_R} (hT : qe_G kp d (T_Nu_restOf f_Nu_product)) (h6 : ∀ (v0 : Int64) (v2 : Int64) (v4 : Int64) (v6 : Int64) (v8 : Int64) (m : qm_M), qe_J kp md_Nu_restOf d (l6 v0 v2 v4 v6 v8 m) 6 [(0, .long v0), (2, .long v2), (4, .long v4), (6, .long v6), (8, .long v8)] [] m) (v0 : Int64) (v2 : Int64) (v4 : Int64) (v6 : Int64) (v8 : Int64) (m : qm_M) : qe_J kp md_Nu_restOf d (X_Nu_restOf_6 f_Nu_product l6 v0 v2 v4 v6 v8 m) 6 [(0, .long v0), (2, .long v2), (4, .long v4), (6, .long v6), (8, .long v8)] [] m := qe_run (B := [(6, [0, 2, 4, 6, 8], qp_lllll_ l6)]) (n := 1000) hT (qe_B1 (qp_lllll__ok h6) qe_B0) rfl
def L_Nu_restOf_6 : Nat → Int64 → Int64 → Int64 → Int64 → Int64 → qm_M → Option qm_R
  | 0, _, _, _, _, _, _ => none
  | n + 1, v0, v2, v4, v6, v8, m => X_Nu_restOf_6 F_Nu_product (L_Nu_restOf_6 n) v0 v2 v4 v6 v8 m
theorem lg_Nu_restOf_6 {kp : pm_K} {d : Nat} (hT : qe_G kp d (T_Nu_restOf F_Nu_product)) : ∀ (n : Nat) (v0 : Int64) (v2 : Int64) (v4 : Int64) (v6 : Int64) (v8 : Int64) (m : qm_M), qe_J kp md_Nu_restOf d (L_Nu_restOf_6 n v0 v2 v4 v6 v8 m) 6 [(0, .long v0), (2, .long v2), (4, .long v4), (6, .long v6), (8, .long v8)] [] m
  | 0, v0, v2, v4, v6, v8, m => qe_none rfl
  | n + 1, v0, v2, v4, v6, v8, m => xg_Nu_restOf_6 hT (lg_Nu_restOf_6 hT n) v0 v2 v4 v6 v8 m
def X_Nu_restOf_e (f_Nu_product : Int64 → Int64 → qm_M → Option qm_R) (l6 : Int64 → Int64 → Int64 → Int64 → Int64 → qm_M → Option qm_R) (v0 : Int64) (v2 : Int64) (v4 : Int64) (m : qm_M) : Option qm_R :=
  l6 v0 v2 v4 (1 : Int64) (0 : Int64) m
set_option maxRecDepth 100000 in
theorem xg_Nu_restOf_e {kp : pm_K} {d : Nat} {f_Nu_product : Int64 → Int64 → qm_M → Option qm_R} {l6 : Int64 → Int64 → Int64 → Int64 → Int64 → qm_M → Option qm_R} (hT : qe_G kp d (T_Nu_restOf f_Nu_product)) (h6 : ∀ (v0 : Int64) (v2 : Int64) (v4 : Int64) (v6 : Int64) (v8 : Int64) (m : qm_M), qe_J kp md_Nu_restOf d (l6 v0 v2 v4 v6 v8 m) 6 [(0, .long v0), (2, .long v2), (4, .long v4), (6, .long v6), (8, .long v8)] [] m) (v0 : Int64) (v2 : Int64) (v4 : Int64) (m : qm_M) : qe_J kp md_Nu_restOf d (X_Nu_restOf_e f_Nu_product l6 v0 v2 v4 m) 0 [(0, .long v0), (2, .long v2), (4, .long v4)] [] m := qe_run (B := [(6, [0, 2, 4, 6, 8], qp_lllll_ l6)]) (n := 1000) hT (qe_B1 (qp_lllll__ok h6) qe_B0) rfl
def F_Nu_restOf (v0 : Int64) (v2 : Int64) (v4 : Int64) (m : qm_M) : Option qm_R := X_Nu_restOf_e F_Nu_product (L_Nu_restOf_6 1000000) v0 v2 v4 m
theorem fj_Nu_restOf {kp : pm_K} {d : Nat} (hT : qe_G kp d (T_Nu_restOf F_Nu_product)) (v0 : Int64) (v2 : Int64) (v4 : Int64) (m : qm_M) : qe_J kp md_Nu_restOf d (F_Nu_restOf v0 v2 v4 m) 0 [(0, .long v0), (2, .long v2), (4, .long v4)] [] m := xg_Nu_restOf_e hT (lg_Nu_restOf_6 hT 1000000) v0 v2 v4 m
theorem fg_Nu_restOf {kp : pm_K} (d : Nat) : qe_GE kp (d + 34) (41, 1, 0, 2, qw_lll F_Nu_restOf) := qe_entry (by decide +kernel) (qw_lll_ok (d := d + 33) rfl rfl (fj_Nu_restOf (qe_G1 (fg_Nu_product (d + 0)) qe_G0)))
/-! TurnField$Numbers.joined(JJJJ)J -/
noncomputable def T_Nu_joined : qe_T := []
def X_Nu_joined_6 (l6 : Int64 → Int64 → Int64 → Int64 → Int64 → qm_M → Option qm_R) (v2 : Int64) (v4 : Int64) (v6 : Int64) (v8 : Int64) (v10 : Int64) (m : qm_M) : Option qm_R :=
  if (lg_cmp v10 v6) < 0 then
    qe_b (!decide (v6 = 0)) (
    if (lg_cmp (qo_lrem v8 v6) v4) = 0 then
      some (some (.long v8), m)
    else
      l6 v2 v4 v6 (v8 + v2) (v10 + (1 : Int64)) m)
  else
    some (some (.long v8), m)
set_option maxRecDepth 100000 in
theorem xg_Nu_joined_6 {kp : pm_K} {d : Nat} {l6 : Int64 → Int64 → Int64 → Int64 → Int64 → qm_M → Option qm_R} (hT : qe_G kp d (T_Nu_joined)) (h6 : ∀ (v2 : Int64) (v4 : Int64) (v6 : Int64) (v8 : Int64) (v10 : Int64) (m : qm_M), qe_J kp md_Nu_joined d (l6 v2 v4 v6 v8 v10 m) 6 [(2, .long v2), (4, .long v4), (6, .long v6), (8, .long v8), (10, .long v10)] [] m) (v2 : Int64) (v4 : Int64) (v6 : Int64) (v8 : Int64) (v10 : Int64) (m : qm_M) : qe_J kp md_Nu_joined d (X_Nu_joined_6 l6 v2 v4 v6 v8 v10 m) 6 [(2, .long v2), (4, .long v4), (6, .long v6), (8, .long v8), (10, .long v10)] [] m := qe_run (B := [(6, [2, 4, 6, 8, 10], qp_lllll_ l6)]) (n := 1000) hT (qe_B1 (qp_lllll__ok h6) qe_B0) rfl
def L_Nu_joined_6 : Nat → Int64 → Int64 → Int64 → Int64 → Int64 → qm_M → Option qm_R
  | 0, _, _, _, _, _, _ => none
  | n + 1, v2, v4, v6, v8, v10, m => X_Nu_joined_6 (L_Nu_joined_6 n) v2 v4 v6 v8 v10 m
theorem lg_Nu_joined_6 {kp : pm_K} {d : Nat} (hT : qe_G kp d (T_Nu_joined)) : ∀ (n : Nat) (v2 : Int64) (v4 : Int64) (v6 : Int64) (v8 : Int64) (v10 : Int64) (m : qm_M), qe_J kp md_Nu_joined d (L_Nu_joined_6 n v2 v4 v6 v8 v10 m) 6 [(2, .long v2), (4, .long v4), (6, .long v6), (8, .long v8), (10, .long v10)] [] m
  | 0, v2, v4, v6, v8, v10, m => qe_none rfl
  | n + 1, v2, v4, v6, v8, v10, m => xg_Nu_joined_6 hT (lg_Nu_joined_6 hT n) v2 v4 v6 v8 v10 m
def X_Nu_joined_e (l6 : Int64 → Int64 → Int64 → Int64 → Int64 → qm_M → Option qm_R) (v0 : Int64) (v2 : Int64) (v4 : Int64) (v6 : Int64) (m : qm_M) : Option qm_R :=
  l6 v2 v4 v6 v0 (0 : Int64) m
set_option maxRecDepth 100000 in
theorem xg_Nu_joined_e {kp : pm_K} {d : Nat} {l6 : Int64 → Int64 → Int64 → Int64 → Int64 → qm_M → Option qm_R} (hT : qe_G kp d (T_Nu_joined)) (h6 : ∀ (v2 : Int64) (v4 : Int64) (v6 : Int64) (v8 : Int64) (v10 : Int64) (m : qm_M), qe_J kp md_Nu_joined d (l6 v2 v4 v6 v8 v10 m) 6 [(2, .long v2), (4, .long v4), (6, .long v6), (8, .long v8), (10, .long v10)] [] m) (v0 : Int64) (v2 : Int64) (v4 : Int64) (v6 : Int64) (m : qm_M) : qe_J kp md_Nu_joined d (X_Nu_joined_e l6 v0 v2 v4 v6 m) 0 [(0, .long v0), (2, .long v2), (4, .long v4), (6, .long v6)] [] m := qe_run (B := [(6, [2, 4, 6, 8, 10], qp_lllll_ l6)]) (n := 1000) hT (qe_B1 (qp_lllll__ok h6) qe_B0) rfl
def F_Nu_joined (v0 : Int64) (v2 : Int64) (v4 : Int64) (v6 : Int64) (m : qm_M) : Option qm_R := X_Nu_joined_e (L_Nu_joined_6 1000000) v0 v2 v4 v6 m
theorem fj_Nu_joined {kp : pm_K} {d : Nat} (hT : qe_G kp d (T_Nu_joined)) (v0 : Int64) (v2 : Int64) (v4 : Int64) (v6 : Int64) (m : qm_M) : qe_J kp md_Nu_joined d (F_Nu_joined v0 v2 v4 v6 m) 0 [(0, .long v0), (2, .long v2), (4, .long v4), (6, .long v6)] [] m := xg_Nu_joined_e hT (lg_Nu_joined_6 hT 1000000) v0 v2 v4 v6 m
theorem fg_Nu_joined {kp : pm_K} (d : Nat) : qe_GE kp (d + 1) (42, 1, 0, 2, qw_llll F_Nu_joined) := qe_entry (by decide +kernel) (qw_llll_ok (d := d + 0) rfl rfl (fj_Nu_joined qe_G0))
/-! TurnField$Numbers.logarithm(JJ)I -/
noncomputable def T_Nu_logarithm (f_Nu_orderOf : Int64 → qm_M → Option qm_R) (f_Nu_raisedTo : Int64 → Int64 → qm_M → Option qm_R) (f_Nu_restOf : Int64 → Int64 → Int64 → qm_M → Option qm_R) (f_Nu_joined : Int64 → Int64 → Int64 → Int64 → qm_M → Option qm_R) : qe_T := [(36, 1, 0, 2, qw_l f_Nu_orderOf), (33, 1, 0, 2, qw_ll f_Nu_raisedTo), (41, 1, 0, 2, qw_lll f_Nu_restOf), (42, 1, 0, 2, qw_llll f_Nu_joined)]
def X_Nu_logarithm_60 (f_Nu_orderOf : Int64 → qm_M → Option qm_R) (f_Nu_raisedTo : Int64 → Int64 → qm_M → Option qm_R) (f_Nu_restOf : Int64 → Int64 → Int64 → qm_M → Option qm_R) (f_Nu_joined : Int64 → Int64 → Int64 → Int64 → qm_M → Option qm_R) (l60 : Int64 → Int64 → Int64 → Int64 → Int64 → Int32 → qm_M → Option qm_R) (v0 : Int64) (v2 : Int64) (v4 : Int64) (v6 : Int64) (v8 : Int64) (v10 : Int32) (m : qm_M) : Option qm_R :=
  if v10 < (4 : Int32) then
    qe_b (qm_in v10 7) (
    let x1 : Int64 := (qm_gL m 1000002 (Int32.toNatClampNeg v10))
    if 0 < (lg_cmp x1 (0 : Int64)) then
      qe_b (!decide (x1 = 0)) (
      if (lg_cmp (qo_lrem v4 x1) (0 : Int64)) = 0 then
        qe_b (!decide (x1 = 0)) (
        qe_rL (f_Nu_raisedTo v0 (v4 / x1) m) fun x2 m1 =>
        qe_rL (f_Nu_raisedTo v2 (v4 / x1) m1) fun x3 m2 =>
        qe_rL (f_Nu_restOf x2 x3 x1 m2) fun x4 m3 =>
        qe_rL (f_Nu_joined v6 v8 x4 x1 m3) fun x5 m4 =>
        l60 v0 v2 v4 x5 (v8 * x1) (v10 + (1 : Int32)) m4)
      else
        l60 v0 v2 v4 v6 v8 (v10 + (1 : Int32)) m)
    else
      l60 v0 v2 v4 v6 v8 (v10 + (1 : Int32)) m)
  else
    some (some (.int (Int64.toInt32 v6)), m)
set_option maxRecDepth 100000 in
theorem xg_Nu_logarithm_60 {kp : pm_K} {d : Nat} {f_Nu_orderOf : Int64 → qm_M → Option qm_R} {f_Nu_raisedTo : Int64 → Int64 → qm_M → Option qm_R} {f_Nu_restOf : Int64 → Int64 → Int64 → qm_M → Option qm_R} {f_Nu_joined : Int64 → Int64 → Int64 → Int64 → qm_M → Option qm_R} {l60 : Int64 → Int64 → Int64 → Int64 → Int64 → Int32 → qm_M → Option qm_R} (hT : qe_G kp d (T_Nu_logarithm f_Nu_orderOf f_Nu_raisedTo f_Nu_restOf f_Nu_joined)) (h60 : ∀ (v0 : Int64) (v2 : Int64) (v4 : Int64) (v6 : Int64) (v8 : Int64) (v10 : Int32) (m : qm_M), qe_J kp md_Nu_logarithm d (l60 v0 v2 v4 v6 v8 v10 m) 60 [(0, .long v0), (2, .long v2), (4, .long v4), (6, .long v6), (8, .long v8), (10, .int v10)] [] m) (v0 : Int64) (v2 : Int64) (v4 : Int64) (v6 : Int64) (v8 : Int64) (v10 : Int32) (m : qm_M) : qe_J kp md_Nu_logarithm d (X_Nu_logarithm_60 f_Nu_orderOf f_Nu_raisedTo f_Nu_restOf f_Nu_joined l60 v0 v2 v4 v6 v8 v10 m) 60 [(0, .long v0), (2, .long v2), (4, .long v4), (6, .long v6), (8, .long v8), (10, .int v10)] [] m := qe_run (B := [(60, [0, 2, 4, 6, 8, 10], qp_llllli_ l60)]) (n := 1000) hT (qe_B1 (qp_llllli__ok h60) qe_B0) rfl
def L_Nu_logarithm_60 : Nat → Int64 → Int64 → Int64 → Int64 → Int64 → Int32 → qm_M → Option qm_R
  | 0, _, _, _, _, _, _, _ => none
  | n + 1, v0, v2, v4, v6, v8, v10, m => X_Nu_logarithm_60 F_Nu_orderOf F_Nu_raisedTo F_Nu_restOf F_Nu_joined (L_Nu_logarithm_60 n) v0 v2 v4 v6 v8 v10 m
theorem lg_Nu_logarithm_60 {kp : pm_K} {d : Nat} (hT : qe_G kp d (T_Nu_logarithm F_Nu_orderOf F_Nu_raisedTo F_Nu_restOf F_Nu_joined)) : ∀ (n : Nat) (v0 : Int64) (v2 : Int64) (v4 : Int64) (v6 : Int64) (v8 : Int64) (v10 : Int32) (m : qm_M), qe_J kp md_Nu_logarithm d (L_Nu_logarithm_60 n v0 v2 v4 v6 v8 v10 m) 60 [(0, .long v0), (2, .long v2), (4, .long v4), (6, .long v6), (8, .long v8), (10, .int v10)] [] m
  | 0, v0, v2, v4, v6, v8, v10, m => qe_none rfl
  | n + 1, v0, v2, v4, v6, v8, v10, m => xg_Nu_logarithm_60 hT (lg_Nu_logarithm_60 hT n) v0 v2 v4 v6 v8 v10 m
def X_Nu_logarithm_20 (f_Nu_orderOf : Int64 → qm_M → Option qm_R) (f_Nu_raisedTo : Int64 → Int64 → qm_M → Option qm_R) (f_Nu_restOf : Int64 → Int64 → Int64 → qm_M → Option qm_R) (f_Nu_joined : Int64 → Int64 → Int64 → Int64 → qm_M → Option qm_R) (v0 : Int64) (v2 : Int64) (m : qm_M) : Option qm_R :=
  if (lg_cmp v0 v2) = 0 then
    some (some (.int (1 : Int32)), m)
  else
    some (some (.int (-1 : Int32)), m)
set_option maxRecDepth 100000 in
theorem xg_Nu_logarithm_20 {kp : pm_K} {d : Nat} {f_Nu_orderOf : Int64 → qm_M → Option qm_R} {f_Nu_raisedTo : Int64 → Int64 → qm_M → Option qm_R} {f_Nu_restOf : Int64 → Int64 → Int64 → qm_M → Option qm_R} {f_Nu_joined : Int64 → Int64 → Int64 → Int64 → qm_M → Option qm_R} (hT : qe_G kp d (T_Nu_logarithm f_Nu_orderOf f_Nu_raisedTo f_Nu_restOf f_Nu_joined)) (v0 : Int64) (v2 : Int64) (m : qm_M) : qe_J kp md_Nu_logarithm d (X_Nu_logarithm_20 f_Nu_orderOf f_Nu_raisedTo f_Nu_restOf f_Nu_joined v0 v2 m) 20 [(0, .long v0), (2, .long v2)] [] m := qe_run (B := []) (n := 1000) hT qe_B0 rfl
def L_Nu_logarithm_20 (v0 : Int64) (v2 : Int64) (m : qm_M) : Option qm_R := X_Nu_logarithm_20 F_Nu_orderOf F_Nu_raisedTo F_Nu_restOf F_Nu_joined v0 v2 m
theorem lg_Nu_logarithm_20 {kp : pm_K} {d : Nat} (hT : qe_G kp d (T_Nu_logarithm F_Nu_orderOf F_Nu_raisedTo F_Nu_restOf F_Nu_joined)) (v0 : Int64) (v2 : Int64) (m : qm_M) : qe_J kp md_Nu_logarithm d (L_Nu_logarithm_20 v0 v2 m) 20 [(0, .long v0), (2, .long v2)] [] m := xg_Nu_logarithm_20 hT v0 v2 m
def X_Nu_logarithm_e (f_Nu_orderOf : Int64 → qm_M → Option qm_R) (f_Nu_raisedTo : Int64 → Int64 → qm_M → Option qm_R) (f_Nu_restOf : Int64 → Int64 → Int64 → qm_M → Option qm_R) (f_Nu_joined : Int64 → Int64 → Int64 → Int64 → qm_M → Option qm_R) (l20 : Int64 → Int64 → qm_M → Option qm_R) (l60 : Int64 → Int64 → Int64 → Int64 → Int64 → Int32 → qm_M → Option qm_R) (v0 : Int64) (v2 : Int64) (m : qm_M) : Option qm_R :=
  if (lg_cmp v0 (1 : Int64)) = 0 then
    some (some (.int (0 : Int32)), m)
  else
    if (lg_cmp v0 (0 : Int64)) = 0 then
      l20 v0 v2 m
    else
      if (lg_cmp v2 (0 : Int64)) = 0 then
        l20 v0 v2 m
      else
        qe_rL (f_Nu_orderOf v2 m) fun x1 m1 =>
        qe_rL (f_Nu_raisedTo v0 x1 m1) fun x2 m2 =>
        if (lg_cmp x2 (1 : Int64)) = 0 then
          l60 v0 v2 x1 (0 : Int64) (1 : Int64) (0 : Int32) m2
        else
          some (some (.int (-1 : Int32)), m2)
set_option maxRecDepth 100000 in
theorem xg_Nu_logarithm_e {kp : pm_K} {d : Nat} {f_Nu_orderOf : Int64 → qm_M → Option qm_R} {f_Nu_raisedTo : Int64 → Int64 → qm_M → Option qm_R} {f_Nu_restOf : Int64 → Int64 → Int64 → qm_M → Option qm_R} {f_Nu_joined : Int64 → Int64 → Int64 → Int64 → qm_M → Option qm_R} {l20 : Int64 → Int64 → qm_M → Option qm_R} {l60 : Int64 → Int64 → Int64 → Int64 → Int64 → Int32 → qm_M → Option qm_R} (hT : qe_G kp d (T_Nu_logarithm f_Nu_orderOf f_Nu_raisedTo f_Nu_restOf f_Nu_joined)) (h20 : ∀ (v0 : Int64) (v2 : Int64) (m : qm_M), qe_J kp md_Nu_logarithm d (l20 v0 v2 m) 20 [(0, .long v0), (2, .long v2)] [] m) (h60 : ∀ (v0 : Int64) (v2 : Int64) (v4 : Int64) (v6 : Int64) (v8 : Int64) (v10 : Int32) (m : qm_M), qe_J kp md_Nu_logarithm d (l60 v0 v2 v4 v6 v8 v10 m) 60 [(0, .long v0), (2, .long v2), (4, .long v4), (6, .long v6), (8, .long v8), (10, .int v10)] [] m) (v0 : Int64) (v2 : Int64) (m : qm_M) : qe_J kp md_Nu_logarithm d (X_Nu_logarithm_e f_Nu_orderOf f_Nu_raisedTo f_Nu_restOf f_Nu_joined l20 l60 v0 v2 m) 0 [(0, .long v0), (2, .long v2)] [] m := qe_run (B := [(20, [0, 2], qp_ll_ l20), (60, [0, 2, 4, 6, 8, 10], qp_llllli_ l60)]) (n := 1000) hT (qe_B1 (qp_ll__ok h20) (qe_B1 (qp_llllli__ok h60) qe_B0)) rfl
def F_Nu_logarithm (v0 : Int64) (v2 : Int64) (m : qm_M) : Option qm_R := X_Nu_logarithm_e F_Nu_orderOf F_Nu_raisedTo F_Nu_restOf F_Nu_joined (L_Nu_logarithm_20) (L_Nu_logarithm_60 1000000) v0 v2 m
theorem fj_Nu_logarithm {kp : pm_K} {d : Nat} (hT : qe_G kp d (T_Nu_logarithm F_Nu_orderOf F_Nu_raisedTo F_Nu_restOf F_Nu_joined)) (v0 : Int64) (v2 : Int64) (m : qm_M) : qe_J kp md_Nu_logarithm d (F_Nu_logarithm v0 v2 m) 0 [(0, .long v0), (2, .long v2)] [] m := xg_Nu_logarithm_e hT (lg_Nu_logarithm_20 hT) (lg_Nu_logarithm_60 hT 1000000) v0 v2 m
theorem fg_Nu_logarithm {kp : pm_K} (d : Nat) : qe_GE kp (d + 37) (40, 1, 0, 1, qw_ll F_Nu_logarithm) := qe_entry (by decide +kernel) (qw_ll_ok (d := d + 36) rfl rfl (fj_Nu_logarithm (qe_G1 (fg_Nu_orderOf (d + 0)) (qe_G1 (fg_Nu_raisedTo (d + 2)) (qe_G1 (fg_Nu_restOf (d + 2)) (qe_G1 (fg_Nu_joined (d + 35)) qe_G0))))))
/-! java/lang/Integer.bitCount(I)I -/
noncomputable def T_JI_bitCount : qe_T := []
def X_JI_bitCount_e (v0 : Int32) (m : qm_M) : Option qm_R :=
  let x1 : Int32 := (v0 - ((qo_iushr v0 (1 : Int32)) &&& (1431655765 : Int32)))
  let x2 : Int32 := ((x1 &&& (858993459 : Int32)) + ((qo_iushr x1 (2 : Int32)) &&& (858993459 : Int32)))
  let x3 : Int32 := ((x2 + (qo_iushr x2 (4 : Int32))) &&& (252645135 : Int32))
  let x4 : Int32 := ((x3 + (qo_iushr x3 (8 : Int32))) + (qo_iushr (x3 + (qo_iushr x3 (8 : Int32))) (16 : Int32)))
  some (some (.int (x4 &&& (63 : Int32))), m)
set_option maxRecDepth 100000 in
theorem xg_JI_bitCount_e {kp : pm_K} {d : Nat} (hT : qe_G kp d (T_JI_bitCount)) (v0 : Int32) (m : qm_M) : qe_J kp md_JI_bitCount d (X_JI_bitCount_e v0 m) 0 [(0, .int v0)] [] m := qe_run (B := []) (n := 1000) hT qe_B0 rfl
def F_JI_bitCount (v0 : Int32) (m : qm_M) : Option qm_R := X_JI_bitCount_e v0 m
theorem fj_JI_bitCount {kp : pm_K} {d : Nat} (hT : qe_G kp d (T_JI_bitCount)) (v0 : Int32) (m : qm_M) : qe_J kp md_JI_bitCount d (F_JI_bitCount v0 m) 0 [(0, .int v0)] [] m := xg_JI_bitCount_e hT v0 m
theorem fg_JI_bitCount {kp : pm_K} (d : Nat) : qe_GE kp (d + 1) (318, 1, 0, 1, qw_i F_JI_bitCount) := qe_entry (by decide +kernel) (qw_i_ok (d := d + 0) rfl rfl (fj_JI_bitCount qe_G0))
/-! java/lang/Long.bitCount(J)I -/
noncomputable def T_JL_bitCount : qe_T := []
def X_JL_bitCount_e (v0 : Int64) (m : qm_M) : Option qm_R :=
  let x1 : Int64 := (v0 - ((qo_lushr v0 (1 : Int32)) &&& (6148914691236517205 : Int64)))
  let x2 : Int64 := ((x1 &&& (3689348814741910323 : Int64)) + ((qo_lushr x1 (2 : Int32)) &&& (3689348814741910323 : Int64)))
  let x3 : Int64 := ((x2 + (qo_lushr x2 (4 : Int32))) &&& (1085102592571150095 : Int64))
  let x4 : Int64 := ((x3 + (qo_lushr x3 (8 : Int32))) + (qo_lushr (x3 + (qo_lushr x3 (8 : Int32))) (16 : Int32)))
  some (some (.int ((Int64.toInt32 (x4 + (qo_lushr x4 (32 : Int32)))) &&& (127 : Int32))), m)
set_option maxRecDepth 100000 in
theorem xg_JL_bitCount_e {kp : pm_K} {d : Nat} (hT : qe_G kp d (T_JL_bitCount)) (v0 : Int64) (m : qm_M) : qe_J kp md_JL_bitCount d (X_JL_bitCount_e v0 m) 0 [(0, .long v0)] [] m := qe_run (B := []) (n := 1000) hT qe_B0 rfl
def F_JL_bitCount (v0 : Int64) (m : qm_M) : Option qm_R := X_JL_bitCount_e v0 m
theorem fj_JL_bitCount {kp : pm_K} {d : Nat} (hT : qe_G kp d (T_JL_bitCount)) (v0 : Int64) (m : qm_M) : qe_J kp md_JL_bitCount d (F_JL_bitCount v0 m) 0 [(0, .long v0)] [] m := xg_JL_bitCount_e hT v0 m
theorem fg_JL_bitCount {kp : pm_K} (d : Nat) : qe_GE kp (d + 1) (319, 1, 0, 1, qw_l F_JL_bitCount) := qe_entry (by decide +kernel) (qw_l_ok (d := d + 0) rfl rfl (fj_JL_bitCount qe_G0))
/-! java/lang/String.coder()B -/
noncomputable def T_JS_coder : qe_T := []
def X_JS_coder_e (v0 : Nat) (m : qm_M) : Option qm_R :=
  if (1 : Int32) = 0 then
    qe_b (qm_ni .byte (1 : Int32)) (
    some (some (.int (1 : Int32)), m))
  else
    qe_b (Nat.ble 1000010 v0 && Nat.ble v0 1000014) (
    qe_b (qm_ni .byte (0 : Int32)) (
    some (some (.int (0 : Int32)), m)))
set_option maxRecDepth 100000 in
theorem xg_JS_coder_e {kp : pm_K} {d : Nat} (hT : qe_G kp d (T_JS_coder)) (v0 : Nat) (m : qm_M) : qe_J kp md_JS_coder d (X_JS_coder_e v0 m) 0 [(0, .ref v0)] [] m := qe_run (B := []) (n := 1000) hT qe_B0 rfl
def F_JS_coder (v0 : Nat) (m : qm_M) : Option qm_R := X_JS_coder_e v0 m
theorem fj_JS_coder {kp : pm_K} {d : Nat} (hT : qe_G kp d (T_JS_coder)) (v0 : Nat) (m : qm_M) : qe_J kp md_JS_coder d (F_JS_coder v0 m) 0 [(0, .ref v0)] [] m := xg_JS_coder_e hT v0 m
theorem fg_JS_coder {kp : pm_K} (d : Nat) : qe_GE kp (d + 1) (322, 3, 0, 1, qw_r F_JS_coder) := qe_entry (by decide +kernel) (qw_r_ok (d := d + 0) rfl rfl (fj_JS_coder qe_G0))
/-! java/lang/String.length()I -/
noncomputable def T_JS_length (f_JS_coder : Nat → qm_M → Option qm_R) : qe_T := [(322, 3, 0, 1, qw_r f_JS_coder)]
def X_JS_length_e (f_JS_coder : Nat → qm_M → Option qm_R) (v0 : Nat) (m : qm_M) : Option qm_R :=
  qe_b (Nat.ble 1000010 v0 && Nat.ble v0 1000014) (
  qe_b (Nat.ble (qm_gk (v0 + 20)).1 5) (
  qe_b (Nat.ble 1000010 v0 && Nat.ble v0 1000014) (
  qe_rI (f_JS_coder v0 m) fun x1 m1 =>
  some (some (.int (qo_ishr (Int32.ofNat (qm_n (v0 + 20))) x1)), m1))))
set_option maxRecDepth 100000 in
theorem xg_JS_length_e {kp : pm_K} {d : Nat} {f_JS_coder : Nat → qm_M → Option qm_R} (hT : qe_G kp d (T_JS_length f_JS_coder)) (v0 : Nat) (m : qm_M) : qe_J kp md_JS_length d (X_JS_length_e f_JS_coder v0 m) 0 [(0, .ref v0)] [] m := qe_run (B := []) (n := 1000) hT qe_B0 rfl
def F_JS_length (v0 : Nat) (m : qm_M) : Option qm_R := X_JS_length_e F_JS_coder v0 m
theorem fj_JS_length {kp : pm_K} {d : Nat} (hT : qe_G kp d (T_JS_length F_JS_coder)) (v0 : Nat) (m : qm_M) : qe_J kp md_JS_length d (F_JS_length v0 m) 0 [(0, .ref v0)] [] m := xg_JS_length_e hT v0 m
theorem fg_JS_length {kp : pm_K} (d : Nat) : qe_GE kp (d + 2) (320, 3, 0, 1, qw_r F_JS_length) := qe_entry (by decide +kernel) (qw_r_ok (d := d + 1) rfl rfl (fj_JS_length (qe_G1 (fg_JS_coder (d + 0)) qe_G0)))
/-! java/lang/String.isLatin1()Z -/
noncomputable def T_JS_isLatin1 : qe_T := []
def X_JS_isLatin1_e (v0 : Nat) (m : qm_M) : Option qm_R :=
  if (1 : Int32) = 0 then
    some (some (.int (0 : Int32)), m)
  else
    qe_b (Nat.ble 1000010 v0 && Nat.ble v0 1000014) (
    if (0 : Int32) = 0 then
      some (some (.int (1 : Int32)), m)
    else
      some (some (.int (0 : Int32)), m))
set_option maxRecDepth 100000 in
theorem xg_JS_isLatin1_e {kp : pm_K} {d : Nat} (hT : qe_G kp d (T_JS_isLatin1)) (v0 : Nat) (m : qm_M) : qe_J kp md_JS_isLatin1 d (X_JS_isLatin1_e v0 m) 0 [(0, .ref v0)] [] m := qe_run (B := []) (n := 1000) hT qe_B0 rfl
def F_JS_isLatin1 (v0 : Nat) (m : qm_M) : Option qm_R := X_JS_isLatin1_e v0 m
theorem fj_JS_isLatin1 {kp : pm_K} {d : Nat} (hT : qe_G kp d (T_JS_isLatin1)) (v0 : Nat) (m : qm_M) : qe_J kp md_JS_isLatin1 d (F_JS_isLatin1 v0 m) 0 [(0, .ref v0)] [] m := xg_JS_isLatin1_e hT v0 m
theorem fg_JS_isLatin1 {kp : pm_K} (d : Nat) : qe_GE kp (d + 1) (323, 3, 0, 1, qw_r F_JS_isLatin1) := qe_entry (by decide +kernel) (qw_r_ok (d := d + 0) rfl rfl (fj_JS_isLatin1 qe_G0))
/-! jdk/internal/util/Preconditions.checkIndex(IILjava/util/function/BiFunction;)I -/
noncomputable def T_JP_checkIndex : qe_T := []
def X_JP_checkIndex_e (v0 : Int32) (v1 : Int32) (m : qm_M) : Option qm_R :=
  if v0 < 0 then
    none
  else
    if v0 < v1 then
      some (some (.int v0), m)
    else
      none
set_option maxRecDepth 100000 in
theorem xg_JP_checkIndex_e {kp : pm_K} {d : Nat} (hT : qe_G kp d (T_JP_checkIndex)) (v0 : Int32) (v1 : Int32) (m : qm_M) : qe_J kp md_JP_checkIndex d (X_JP_checkIndex_e v0 v1 m) 0 [(0, .int v0), (1, .int v1), (2, .retAddr 0)] [] m := qe_run (B := []) (n := 1000) hT qe_B0 rfl
def F_JP_checkIndex (v0 : Int32) (v1 : Int32) (m : qm_M) : Option qm_R := X_JP_checkIndex_e v0 v1 m
theorem fj_JP_checkIndex {kp : pm_K} {d : Nat} (hT : qe_G kp d (T_JP_checkIndex)) (v0 : Int32) (v1 : Int32) (m : qm_M) : qe_J kp md_JP_checkIndex d (F_JP_checkIndex v0 v1 m) 0 [(0, .int v0), (1, .int v1), (2, .retAddr 0)] [] m := xg_JP_checkIndex_e hT v0 v1 m
theorem fg_JP_checkIndex {kp : pm_K} (d : Nat) : qe_GE kp (d + 1) (326, 1, 0, 1, qw_iix F_JP_checkIndex) := qe_entry (by decide +kernel) (qw_iix_ok (d := d + 0) rfl rfl (fj_JP_checkIndex qe_G0))
/-! java/lang/String.checkIndex(II)V -/
noncomputable def T_JS_checkIndex (f_JP_checkIndex : Int32 → Int32 → qm_M → Option qm_R) : qe_T := [(326, 1, 0, 1, qw_iix f_JP_checkIndex)]
def X_JS_checkIndex_e (f_JP_checkIndex : Int32 → Int32 → qm_M → Option qm_R) (v0 : Int32) (v1 : Int32) (m : qm_M) : Option qm_R :=
  qe_rI (f_JP_checkIndex v0 v1 m) fun x1 m1 =>
  some (none, m1)
set_option maxRecDepth 100000 in
theorem xg_JS_checkIndex_e {kp : pm_K} {d : Nat} {f_JP_checkIndex : Int32 → Int32 → qm_M → Option qm_R} (hT : qe_G kp d (T_JS_checkIndex f_JP_checkIndex)) (v0 : Int32) (v1 : Int32) (m : qm_M) : qe_J kp md_JS_checkIndex d (X_JS_checkIndex_e f_JP_checkIndex v0 v1 m) 0 [(0, .int v0), (1, .int v1)] [] m := qe_run (B := []) (n := 1000) hT qe_B0 rfl
def F_JS_checkIndex (v0 : Int32) (v1 : Int32) (m : qm_M) : Option qm_R := X_JS_checkIndex_e F_JP_checkIndex v0 v1 m
theorem fj_JS_checkIndex {kp : pm_K} {d : Nat} (hT : qe_G kp d (T_JS_checkIndex F_JP_checkIndex)) (v0 : Int32) (v1 : Int32) (m : qm_M) : qe_J kp md_JS_checkIndex d (F_JS_checkIndex v0 v1 m) 0 [(0, .int v0), (1, .int v1)] [] m := xg_JS_checkIndex_e hT v0 v1 m
theorem fg_JS_checkIndex {kp : pm_K} (d : Nat) : qe_GE kp (d + 2) (324, 1, 0, 0, qw_ii F_JS_checkIndex) := qe_entry (by decide +kernel) (qw_ii_ok (d := d + 1) rfl rfl (fj_JS_checkIndex (qe_G1 (fg_JP_checkIndex (d + 0)) qe_G0)))
/-! java/lang/StringLatin1.charAt([BI)C -/
noncomputable def T_JA_charAt (f_JS_checkIndex : Int32 → Int32 → qm_M → Option qm_R) : qe_T := [(324, 1, 0, 0, qw_ii f_JS_checkIndex)]
def X_JA_charAt_e (f_JS_checkIndex : Int32 → Int32 → qm_M → Option qm_R) (v0 : Nat) (v1 : Int32) (m : qm_M) : Option qm_R :=
  qe_b (Nat.ble (qm_gk v0).1 5) (
  qe_rV (f_JS_checkIndex v1 (Int32.ofNat (qm_n v0)) m) fun m1 =>
  qe_b (qm_isA v0 2 || qm_isL v0 3) (
  qe_b (qm_in v1 (qm_n v0)) (
  qe_b (qm_ni .char (qo_i2c ((qm_gI m1 v0 (Int32.toNatClampNeg v1)) &&& (255 : Int32)))) (
  some (some (.int (qo_i2c ((qm_gI m1 v0 (Int32.toNatClampNeg v1)) &&& (255 : Int32)))), m1)))))
set_option maxRecDepth 100000 in
theorem xg_JA_charAt_e {kp : pm_K} {d : Nat} {f_JS_checkIndex : Int32 → Int32 → qm_M → Option qm_R} (hT : qe_G kp d (T_JA_charAt f_JS_checkIndex)) (v0 : Nat) (v1 : Int32) (m : qm_M) : qe_J kp md_JA_charAt d (X_JA_charAt_e f_JS_checkIndex v0 v1 m) 0 [(0, .ref v0), (1, .int v1)] [] m := qe_run (B := []) (n := 1000) hT qe_B0 rfl
def F_JA_charAt (v0 : Nat) (v1 : Int32) (m : qm_M) : Option qm_R := X_JA_charAt_e F_JS_checkIndex v0 v1 m
theorem fj_JA_charAt {kp : pm_K} {d : Nat} (hT : qe_G kp d (T_JA_charAt F_JS_checkIndex)) (v0 : Nat) (v1 : Int32) (m : qm_M) : qe_J kp md_JA_charAt d (F_JA_charAt v0 v1 m) 0 [(0, .ref v0), (1, .int v1)] [] m := xg_JA_charAt_e hT v0 v1 m
theorem fg_JA_charAt {kp : pm_K} (d : Nat) : qe_GE kp (d + 3) (325, 1, 0, 1, qw_ri F_JA_charAt) := qe_entry (by decide +kernel) (qw_ri_ok (d := d + 2) rfl rfl (fj_JA_charAt (qe_G1 (fg_JS_checkIndex (d + 0)) qe_G0)))
/-! java/lang/String.charAt(I)C -/
noncomputable def T_JS_charAt (f_JS_isLatin1 : Nat → qm_M → Option qm_R) (f_JA_charAt : Nat → Int32 → qm_M → Option qm_R) : qe_T := [(323, 3, 0, 1, qw_r f_JS_isLatin1), (325, 1, 0, 1, qw_ri f_JA_charAt)]
def X_JS_charAt_e (f_JS_isLatin1 : Nat → qm_M → Option qm_R) (f_JA_charAt : Nat → Int32 → qm_M → Option qm_R) (v0 : Nat) (v1 : Int32) (m : qm_M) : Option qm_R :=
  qe_b (Nat.ble 1000010 v0 && Nat.ble v0 1000014) (
  qe_rI (f_JS_isLatin1 v0 m) fun x1 m1 =>
  if x1 = 0 then
    qe_b (Nat.ble 1000010 v0 && Nat.ble v0 1000014) (
    none)
  else
    qe_b (Nat.ble 1000010 v0 && Nat.ble v0 1000014) (
    qe_rI (f_JA_charAt (v0 + 20) v1 m1) fun x2 m2 =>
    qe_b (qm_ni .char x2) (
    some (some (.int x2), m2))))
set_option maxRecDepth 100000 in
theorem xg_JS_charAt_e {kp : pm_K} {d : Nat} {f_JS_isLatin1 : Nat → qm_M → Option qm_R} {f_JA_charAt : Nat → Int32 → qm_M → Option qm_R} (hT : qe_G kp d (T_JS_charAt f_JS_isLatin1 f_JA_charAt)) (v0 : Nat) (v1 : Int32) (m : qm_M) : qe_J kp md_JS_charAt d (X_JS_charAt_e f_JS_isLatin1 f_JA_charAt v0 v1 m) 0 [(0, .ref v0), (1, .int v1)] [] m := qe_run (B := []) (n := 1000) hT qe_B0 rfl
def F_JS_charAt (v0 : Nat) (v1 : Int32) (m : qm_M) : Option qm_R := X_JS_charAt_e F_JS_isLatin1 F_JA_charAt v0 v1 m
theorem fj_JS_charAt {kp : pm_K} {d : Nat} (hT : qe_G kp d (T_JS_charAt F_JS_isLatin1 F_JA_charAt)) (v0 : Nat) (v1 : Int32) (m : qm_M) : qe_J kp md_JS_charAt d (F_JS_charAt v0 v1 m) 0 [(0, .ref v0), (1, .int v1)] [] m := xg_JS_charAt_e hT v0 v1 m
theorem fg_JS_charAt {kp : pm_K} (d : Nat) : qe_GE kp (d + 4) (321, 3, 0, 1, qw_ri F_JS_charAt) := qe_entry (by decide +kernel) (qw_ri_ok (d := d + 3) rfl rfl (fj_JS_charAt (qe_G1 (fg_JS_isLatin1 (d + 2)) (qe_G1 (fg_JA_charAt (d + 0)) qe_G0))))
