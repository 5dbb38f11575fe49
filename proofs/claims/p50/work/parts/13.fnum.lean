/-! TurnField$Numbers.below(JJ)Z -/
noncomputable def T_Nu_below : qe_T := []
def X_Nu_below_e (v0 : Int64) (v2 : Int64) (m : qm_M) : Option qm_R :=
  if (lg_cmp (v0 ^^^ (-9223372036854775808 : Int64)) (v2 ^^^ (-9223372036854775808 : Int64))) < 0 then
    some (some (.int (1 : Int32)), m)
  else
    some (some (.int (0 : Int32)), m)
set_option maxRecDepth 100000 in
theorem xg_Nu_below_e {kp : pm_K} {d : Nat} (hT : qe_G kp d (T_Nu_below)) (v0 : Int64) (v2 : Int64) (m : qm_M) : qe_J kp md_Nu_below d (X_Nu_below_e v0 v2 m) 0 [(0, .long v0), (2, .long v2)] [] m := qe_run (B := []) (n := 1000) hT qe_B0 rfl
def F_Nu_below (v0 : Int64) (v2 : Int64) (m : qm_M) : Option qm_R := X_Nu_below_e v0 v2 m
theorem fj_Nu_below {kp : pm_K} {d : Nat} (hT : qe_G kp d (T_Nu_below)) (v0 : Int64) (v2 : Int64) (m : qm_M) : qe_J kp md_Nu_below d (F_Nu_below v0 v2 m) 0 [(0, .long v0), (2, .long v2)] [] m := xg_Nu_below_e hT v0 v2 m
theorem fg_Nu_below {kp : pm_K} (d : Nat) : qe_GE kp (d + 1) (10, 1, 0, 1, qw_ll F_Nu_below) := qe_entry (by decide +kernel) (qw_ll_ok (d := d + 0) rfl rfl (fj_Nu_below qe_G0))
/-! TurnField$Numbers.toppedBy(JI)J -/
noncomputable def T_Nu_toppedBy (f_Nu_lifted : Int64 → Int32 → qm_M → Option qm_R) : qe_T := [(13, 1, 0, 2, qw_li f_Nu_lifted)]
def X_Nu_toppedBy_5 (f_Nu_lifted : Int64 → Int32 → qm_M → Option qm_R) (l5 : Int32 → Int64 → Int32 → qm_M → Option qm_R) (v2 : Int32) (v3 : Int64) (v5 : Int32) (m : qm_M) : Option qm_R :=
  if v5 < v2 then
    qe_rL (f_Nu_lifted v3 v5 m) fun x1 m1 =>
    l5 v2 x1 (v5 + (1 : Int32)) m1
  else
    some (some (.long v3), m)
set_option maxRecDepth 100000 in
theorem xg_Nu_toppedBy_5 {kp : pm_K} {d : Nat} {f_Nu_lifted : Int64 → Int32 → qm_M → Option qm_R} {l5 : Int32 → Int64 → Int32 → qm_M → Option qm_R} (hT : qe_G kp d (T_Nu_toppedBy f_Nu_lifted)) (h5 : ∀ (v2 : Int32) (v3 : Int64) (v5 : Int32) (m : qm_M), qe_J kp md_Nu_toppedBy d (l5 v2 v3 v5 m) 5 [(2, .int v2), (3, .long v3), (5, .int v5)] [] m) (v2 : Int32) (v3 : Int64) (v5 : Int32) (m : qm_M) : qe_J kp md_Nu_toppedBy d (X_Nu_toppedBy_5 f_Nu_lifted l5 v2 v3 v5 m) 5 [(2, .int v2), (3, .long v3), (5, .int v5)] [] m := qe_run (B := [(5, [2, 3, 5], qp_ili_ l5)]) (n := 1000) hT (qe_B1 (qp_ili__ok h5) qe_B0) rfl
def L_Nu_toppedBy_5 (R : Int64 → Int32 → qm_M → Option qm_R) : Nat → Int32 → Int64 → Int32 → qm_M → Option qm_R
  | 0, _, _, _, _ => none
  | n + 1, v2, v3, v5, m => X_Nu_toppedBy_5 R (L_Nu_toppedBy_5 R n) v2 v3 v5 m
theorem lg_Nu_toppedBy_5 {kp : pm_K} {d : Nat} {R : Int64 → Int32 → qm_M → Option qm_R} (hT : qe_G kp d (T_Nu_toppedBy R)) : ∀ (n : Nat) (v2 : Int32) (v3 : Int64) (v5 : Int32) (m : qm_M), qe_J kp md_Nu_toppedBy d (L_Nu_toppedBy_5 R n v2 v3 v5 m) 5 [(2, .int v2), (3, .long v3), (5, .int v5)] [] m
  | 0, v2, v3, v5, m => qe_none rfl
  | n + 1, v2, v3, v5, m => xg_Nu_toppedBy_5 hT (lg_Nu_toppedBy_5 hT n) v2 v3 v5 m
def X_Nu_toppedBy_e (f_Nu_lifted : Int64 → Int32 → qm_M → Option qm_R) (l5 : Int32 → Int64 → Int32 → qm_M → Option qm_R) (v0 : Int64) (v2 : Int32) (m : qm_M) : Option qm_R :=
  l5 v2 v0 (0 : Int32) m
set_option maxRecDepth 100000 in
theorem xg_Nu_toppedBy_e {kp : pm_K} {d : Nat} {f_Nu_lifted : Int64 → Int32 → qm_M → Option qm_R} {l5 : Int32 → Int64 → Int32 → qm_M → Option qm_R} (hT : qe_G kp d (T_Nu_toppedBy f_Nu_lifted)) (h5 : ∀ (v2 : Int32) (v3 : Int64) (v5 : Int32) (m : qm_M), qe_J kp md_Nu_toppedBy d (l5 v2 v3 v5 m) 5 [(2, .int v2), (3, .long v3), (5, .int v5)] [] m) (v0 : Int64) (v2 : Int32) (m : qm_M) : qe_J kp md_Nu_toppedBy d (X_Nu_toppedBy_e f_Nu_lifted l5 v0 v2 m) 0 [(0, .long v0), (2, .int v2)] [] m := qe_run (B := [(5, [2, 3, 5], qp_ili_ l5)]) (n := 1000) hT (qe_B1 (qp_ili__ok h5) qe_B0) rfl
def B_Nu_toppedBy (R : Int64 → Int32 → qm_M → Option qm_R) (v0 : Int64) (v2 : Int32) (m : qm_M) : Option qm_R := X_Nu_toppedBy_e R (L_Nu_toppedBy_5 R 1000000) v0 v2 m
theorem fj_Nu_toppedBy {kp : pm_K} {d : Nat} {R : Int64 → Int32 → qm_M → Option qm_R} (hT : qe_G kp d (T_Nu_toppedBy R)) (v0 : Int64) (v2 : Int32) (m : qm_M) : qe_J kp md_Nu_toppedBy d (B_Nu_toppedBy R v0 v2 m) 0 [(0, .long v0), (2, .int v2)] [] m := xg_Nu_toppedBy_e hT (lg_Nu_toppedBy_5 hT 1000000) v0 v2 m
theorem eg_Nu_toppedBy {kp : pm_K} {d : Nat} {R : Int64 → Int32 → qm_M → Option qm_R} (hR : qe_GE kp d (13, 1, 0, 2, qw_li R)) : qe_GE kp (d + 1) (14, 1, 0, 2, qw_li (B_Nu_toppedBy R)) := qe_entry (by decide +kernel) (qw_li_ok rfl rfl (fj_Nu_toppedBy (qe_G1 hR qe_G0)))
/-! TurnField$Numbers.lifted(JI)J -/
noncomputable def T_Nu_lifted (f_Nu_toppedBy : Int64 → Int32 → qm_M → Option qm_R) : qe_T := [(14, 1, 0, 2, qw_li f_Nu_toppedBy)]
def X_Nu_lifted_e (f_Nu_toppedBy : Int64 → Int32 → qm_M → Option qm_R) (v0 : Int64) (v2 : Int32) (m : qm_M) : Option qm_R :=
  if (lg_cmp v0 (0 : Int64)) = 0 then
    some (some (.long v0), m)
  else
    if v2 < 0 then
      some (some (.long v0), m)
    else
      if (5 : Int32) < v2 then
        some (some (.long v0), m)
      else
        qe_b (qm_in v2 6) (
        let x1 : Int64 := ((qo_lushr v0 (qo_ishl (1 : Int32) v2)) &&& (qm_gL m 1000001 (Int32.toNatClampNeg v2)))
        qe_b (qm_in v2 6) (
        let x2 : Int64 := (v0 &&& (qm_gL m 1000001 (Int32.toNatClampNeg v2)))
        qe_rL (f_Nu_toppedBy x1 v2 m) fun x3 m1 =>
        some (some (.long ((qo_lshl (x1 ^^^ x2) (qo_ishl (1 : Int32) v2)) ^^^ x3)), m1)))
set_option maxRecDepth 100000 in
theorem xg_Nu_lifted_e {kp : pm_K} {d : Nat} {f_Nu_toppedBy : Int64 → Int32 → qm_M → Option qm_R} (hT : qe_G kp d (T_Nu_lifted f_Nu_toppedBy)) (v0 : Int64) (v2 : Int32) (m : qm_M) : qe_J kp md_Nu_lifted d (X_Nu_lifted_e f_Nu_toppedBy v0 v2 m) 0 [(0, .long v0), (2, .int v2)] [] m := qe_run (B := []) (n := 1000) hT qe_B0 rfl
def B_Nu_lifted (R : Int64 → Int32 → qm_M → Option qm_R) (v0 : Int64) (v2 : Int32) (m : qm_M) : Option qm_R := X_Nu_lifted_e (B_Nu_toppedBy R) v0 v2 m
theorem fj_Nu_lifted {kp : pm_K} {d : Nat} {R : Int64 → Int32 → qm_M → Option qm_R} (hT : qe_G kp d (T_Nu_lifted (B_Nu_toppedBy R))) (v0 : Int64) (v2 : Int32) (m : qm_M) : qe_J kp md_Nu_lifted d (B_Nu_lifted R v0 v2 m) 0 [(0, .long v0), (2, .int v2)] [] m := xg_Nu_lifted_e hT v0 v2 m
def F_Nu_lifted : Nat → Int64 → Int32 → qm_M → Option qm_R
  | 0, _, _, _ => none
  | n + 1, v0, v2, m => B_Nu_lifted (F_Nu_lifted n) v0 v2 m
theorem er_Nu_lifted {kp : pm_K} (d : Nat) : ∀ n : Nat, qe_GE kp (d + 2 * n + 1) (13, 1, 0, 2, qw_li (F_Nu_lifted n))
  | 0 => qe_entry (by decide +kernel) (qw_li_ok (d := d + 0) rfl rfl (fun v0 v2 m => qe_none rfl))
  | n + 1 => by
    have ih := er_Nu_lifted (kp := kp) d n
    exact qe_at (d1 := d + 2 * n + 2 + 1) (by omega) (qe_entry (by decide +kernel) (qw_li_ok (d := d + 2 * n + 2) rfl rfl (fj_Nu_lifted (qe_G1 (eg_Nu_toppedBy ih) qe_G0))))
theorem fg_Nu_lifted {kp : pm_K} (d : Nat) : qe_GE kp (d + 21) (13, 1, 0, 2, qw_li (F_Nu_lifted 10)) := er_Nu_lifted d 10
def F_Nu_toppedBy (n : Nat) : Int64 → Int32 → qm_M → Option qm_R := B_Nu_toppedBy (F_Nu_lifted n)
theorem fg_Nu_toppedBy {kp : pm_K} (d : Nat) : qe_GE kp (d + 22) (14, 1, 0, 2, qw_li (F_Nu_toppedBy 10)) := eg_Nu_toppedBy (fg_Nu_lifted d)
/-! TurnField$Numbers.sharedOut(JJI)J -/
noncomputable def T_Nu_sharedOut (f_Nu_sharedOut : Int64 → Int64 → Int32 → qm_M → Option qm_R) (f_Nu_lifted : Int64 → Int32 → qm_M → Option qm_R) : qe_T := [(12, 1, 0, 2, qw_lli f_Nu_sharedOut), (13, 1, 0, 2, qw_li f_Nu_lifted)]
def X_Nu_sharedOut_e (f_Nu_sharedOut : Int64 → Int64 → Int32 → qm_M → Option qm_R) (f_Nu_lifted : Int64 → Int32 → qm_M → Option qm_R) (v0 : Int64) (v2 : Int64) (v4 : Int32) (m : qm_M) : Option qm_R :=
  if (lg_cmp v2 (0 : Int64)) = 0 then
    some (some (.long (0 : Int64)), m)
  else
    if (lg_cmp v2 (1 : Int64)) = 0 then
      some (some (.long v0), m)
    else
      if 0 < v4 then
        if (6 : Int32) < v4 then
          some (some (.long v0), m)
        else
          let x1 : Int64 := (qo_lushr v2 (qo_ishl (1 : Int32) (v4 - (1 : Int32))))
          if (lg_cmp x1 (0 : Int64)) = 0 then
            qe_rL (f_Nu_sharedOut v0 v2 (v4 - (1 : Int32)) m) fun x2 m1 =>
            some (some (.long x2), m1)
          else
            qe_b (qm_in (v4 - (1 : Int32)) 6) (
            let x3 : Int64 := (v2 &&& (qm_gL m 1000001 (Int32.toNatClampNeg (v4 - (1 : Int32)))))
            qe_rL (f_Nu_sharedOut v0 x3 (v4 - (1 : Int32)) m) fun x4 m2 =>
            qe_rL (f_Nu_sharedOut v0 x1 (v4 - (1 : Int32)) m2) fun x5 m3 =>
            qe_rL (f_Nu_lifted x5 (v4 - (1 : Int32)) m3) fun x6 m4 =>
            some (some (.long (x4 ^^^ x6)), m4))
      else
        some (some (.long v0), m)
set_option maxRecDepth 100000 in
theorem xg_Nu_sharedOut_e {kp : pm_K} {d : Nat} {f_Nu_sharedOut : Int64 → Int64 → Int32 → qm_M → Option qm_R} {f_Nu_lifted : Int64 → Int32 → qm_M → Option qm_R} (hT : qe_G kp d (T_Nu_sharedOut f_Nu_sharedOut f_Nu_lifted)) (v0 : Int64) (v2 : Int64) (v4 : Int32) (m : qm_M) : qe_J kp md_Nu_sharedOut d (X_Nu_sharedOut_e f_Nu_sharedOut f_Nu_lifted v0 v2 v4 m) 0 [(0, .long v0), (2, .long v2), (4, .int v4)] [] m := qe_run (B := []) (n := 1000) hT qe_B0 rfl
def B_Nu_sharedOut (R : Int64 → Int64 → Int32 → qm_M → Option qm_R) (v0 : Int64) (v2 : Int64) (v4 : Int32) (m : qm_M) : Option qm_R := X_Nu_sharedOut_e R (F_Nu_lifted 10) v0 v2 v4 m
theorem fj_Nu_sharedOut {kp : pm_K} {d : Nat} {R : Int64 → Int64 → Int32 → qm_M → Option qm_R} (hT : qe_G kp d (T_Nu_sharedOut R (F_Nu_lifted 10))) (v0 : Int64) (v2 : Int64) (v4 : Int32) (m : qm_M) : qe_J kp md_Nu_sharedOut d (B_Nu_sharedOut R v0 v2 v4 m) 0 [(0, .long v0), (2, .long v2), (4, .int v4)] [] m := xg_Nu_sharedOut_e hT v0 v2 v4 m
def F_Nu_sharedOut : Nat → Int64 → Int64 → Int32 → qm_M → Option qm_R
  | 0, _, _, _, _ => none
  | n + 1, v0, v2, v4, m => B_Nu_sharedOut (F_Nu_sharedOut n) v0 v2 v4 m
theorem er_Nu_sharedOut {kp : pm_K} (d : Nat) : ∀ n : Nat, qe_GE kp (d + 1 * n + 22) (12, 1, 0, 2, qw_lli (F_Nu_sharedOut n))
  | 0 => qe_entry (by decide +kernel) (qw_lli_ok (d := d + 21) rfl rfl (fun v0 v2 v4 m => qe_none rfl))
  | n + 1 => by
    have ih := er_Nu_sharedOut (kp := kp) d n
    exact qe_at (d1 := d + 1 * n + 22 + 1) (by omega) (qe_entry (by decide +kernel) (qw_lli_ok (d := d + 1 * n + 22) rfl rfl (fj_Nu_sharedOut (qe_G1 ih (qe_G1 (qe_at (by omega) (fg_Nu_lifted (d + 1 * n + 1))) qe_G0)))))
theorem fg_Nu_sharedOut {kp : pm_K} (d : Nat) : qe_GE kp (d + 32) (12, 1, 0, 2, qw_lli (F_Nu_sharedOut 10)) := er_Nu_sharedOut d 10
/-! TurnField$Numbers.product(JJ)J -/
noncomputable def T_Nu_product (f_Nu_below : Int64 → Int64 → qm_M → Option qm_R) (f_Nu_sharedOut : Int64 → Int64 → Int32 → qm_M → Option qm_R) : qe_T := [(10, 1, 0, 1, qw_ll f_Nu_below), (12, 1, 0, 2, qw_lli f_Nu_sharedOut)]
def X_Nu_product_e (f_Nu_below : Int64 → Int64 → qm_M → Option qm_R) (f_Nu_sharedOut : Int64 → Int64 → Int32 → qm_M → Option qm_R) (v0 : Int64) (v2 : Int64) (m : qm_M) : Option qm_R :=
  qe_rI (f_Nu_below v0 v2 m) fun x1 m1 =>
  if x1 = 0 then
    qe_rL (f_Nu_sharedOut v0 v2 (6 : Int32) m1) fun x2 m2 =>
    some (some (.long x2), m2)
  else
    qe_rL (f_Nu_sharedOut v2 v0 (6 : Int32) m1) fun x3 m3 =>
    some (some (.long x3), m3)
set_option maxRecDepth 100000 in
theorem xg_Nu_product_e {kp : pm_K} {d : Nat} {f_Nu_below : Int64 → Int64 → qm_M → Option qm_R} {f_Nu_sharedOut : Int64 → Int64 → Int32 → qm_M → Option qm_R} (hT : qe_G kp d (T_Nu_product f_Nu_below f_Nu_sharedOut)) (v0 : Int64) (v2 : Int64) (m : qm_M) : qe_J kp md_Nu_product d (X_Nu_product_e f_Nu_below f_Nu_sharedOut v0 v2 m) 0 [(0, .long v0), (2, .long v2)] [] m := qe_run (B := []) (n := 1000) hT qe_B0 rfl
def F_Nu_product (v0 : Int64) (v2 : Int64) (m : qm_M) : Option qm_R := X_Nu_product_e F_Nu_below (F_Nu_sharedOut 10) v0 v2 m
theorem fj_Nu_product {kp : pm_K} {d : Nat} (hT : qe_G kp d (T_Nu_product F_Nu_below (F_Nu_sharedOut 10))) (v0 : Int64) (v2 : Int64) (m : qm_M) : qe_J kp md_Nu_product d (F_Nu_product v0 v2 m) 0 [(0, .long v0), (2, .long v2)] [] m := xg_Nu_product_e hT v0 v2 m
theorem fg_Nu_product {kp : pm_K} (d : Nat) : qe_GE kp (d + 33) (11, 1, 0, 2, qw_ll F_Nu_product) := qe_entry (by decide +kernel) (qw_ll_ok (d := d + 32) rfl rfl (fj_Nu_product (qe_G1 (fg_Nu_below (d + 31)) (qe_G1 (fg_Nu_sharedOut (d + 0)) qe_G0))))
/-! java/lang/Integer.numberOfLeadingZeros(I)I -/
noncomputable def T_JI_numberOfLeadingZeros : qe_T := []
def X_JI_numberOfLeadingZeros_61 (v0 : Int32) (v1 : Int32) (m : qm_M) : Option qm_R :=
  if v0 < (4 : Int32) then
    some (some (.int (v1 - (qo_iushr v0 (1 : Int32)))), m)
  else
    some (some (.int ((v1 + (-2 : Int32)) - (qo_iushr (qo_iushr v0 (2 : Int32)) (1 : Int32)))), m)
set_option maxRecDepth 100000 in
theorem xg_JI_numberOfLeadingZeros_61 {kp : pm_K} {d : Nat} (hT : qe_G kp d (T_JI_numberOfLeadingZeros)) (v0 : Int32) (v1 : Int32) (m : qm_M) : qe_J kp md_JI_numberOfLeadingZeros d (X_JI_numberOfLeadingZeros_61 v0 v1 m) 61 [(0, .int v0), (1, .int v1)] [] m := qe_run (B := []) (n := 1000) hT qe_B0 rfl
def L_JI_numberOfLeadingZeros_61 (v0 : Int32) (v1 : Int32) (m : qm_M) : Option qm_R := X_JI_numberOfLeadingZeros_61 v0 v1 m
theorem lg_JI_numberOfLeadingZeros_61 {kp : pm_K} {d : Nat} (hT : qe_G kp d (T_JI_numberOfLeadingZeros)) (v0 : Int32) (v1 : Int32) (m : qm_M) : qe_J kp md_JI_numberOfLeadingZeros d (L_JI_numberOfLeadingZeros_61 v0 v1 m) 61 [(0, .int v0), (1, .int v1)] [] m := xg_JI_numberOfLeadingZeros_61 hT v0 v1 m
def X_JI_numberOfLeadingZeros_48 (l61 : Int32 → Int32 → qm_M → Option qm_R) (v0 : Int32) (v1 : Int32) (m : qm_M) : Option qm_R :=
  if v0 < (16 : Int32) then
    l61 v0 v1 m
  else
    l61 (qo_iushr v0 (4 : Int32)) (v1 + (-4 : Int32)) m
set_option maxRecDepth 100000 in
theorem xg_JI_numberOfLeadingZeros_48 {kp : pm_K} {d : Nat} {l61 : Int32 → Int32 → qm_M → Option qm_R} (hT : qe_G kp d (T_JI_numberOfLeadingZeros)) (h61 : ∀ (v0 : Int32) (v1 : Int32) (m : qm_M), qe_J kp md_JI_numberOfLeadingZeros d (l61 v0 v1 m) 61 [(0, .int v0), (1, .int v1)] [] m) (v0 : Int32) (v1 : Int32) (m : qm_M) : qe_J kp md_JI_numberOfLeadingZeros d (X_JI_numberOfLeadingZeros_48 l61 v0 v1 m) 48 [(0, .int v0), (1, .int v1)] [] m := qe_run (B := [(61, [0, 1], qp_ii_ l61)]) (n := 1000) hT (qe_B1 (qp_ii__ok h61) qe_B0) rfl
def L_JI_numberOfLeadingZeros_48 (v0 : Int32) (v1 : Int32) (m : qm_M) : Option qm_R := X_JI_numberOfLeadingZeros_48 (L_JI_numberOfLeadingZeros_61) v0 v1 m
theorem lg_JI_numberOfLeadingZeros_48 {kp : pm_K} {d : Nat} (hT : qe_G kp d (T_JI_numberOfLeadingZeros)) (v0 : Int32) (v1 : Int32) (m : qm_M) : qe_J kp md_JI_numberOfLeadingZeros d (L_JI_numberOfLeadingZeros_48 v0 v1 m) 48 [(0, .int v0), (1, .int v1)] [] m := xg_JI_numberOfLeadingZeros_48 hT (lg_JI_numberOfLeadingZeros_61 hT) v0 v1 m
def X_JI_numberOfLeadingZeros_33 (l48 : Int32 → Int32 → qm_M → Option qm_R) (v0 : Int32) (v1 : Int32) (m : qm_M) : Option qm_R :=
  if v0 < (256 : Int32) then
    l48 v0 v1 m
  else
    l48 (qo_iushr v0 (8 : Int32)) (v1 + (-8 : Int32)) m
set_option maxRecDepth 100000 in
theorem xg_JI_numberOfLeadingZeros_33 {kp : pm_K} {d : Nat} {l48 : Int32 → Int32 → qm_M → Option qm_R} (hT : qe_G kp d (T_JI_numberOfLeadingZeros)) (h48 : ∀ (v0 : Int32) (v1 : Int32) (m : qm_M), qe_J kp md_JI_numberOfLeadingZeros d (l48 v0 v1 m) 48 [(0, .int v0), (1, .int v1)] [] m) (v0 : Int32) (v1 : Int32) (m : qm_M) : qe_J kp md_JI_numberOfLeadingZeros d (X_JI_numberOfLeadingZeros_33 l48 v0 v1 m) 33 [(0, .int v0), (1, .int v1)] [] m := qe_run (B := [(48, [0, 1], qp_ii_ l48)]) (n := 1000) hT (qe_B1 (qp_ii__ok h48) qe_B0) rfl
def L_JI_numberOfLeadingZeros_33 (v0 : Int32) (v1 : Int32) (m : qm_M) : Option qm_R := X_JI_numberOfLeadingZeros_33 (L_JI_numberOfLeadingZeros_48) v0 v1 m
theorem lg_JI_numberOfLeadingZeros_33 {kp : pm_K} {d : Nat} (hT : qe_G kp d (T_JI_numberOfLeadingZeros)) (v0 : Int32) (v1 : Int32) (m : qm_M) : qe_J kp md_JI_numberOfLeadingZeros d (L_JI_numberOfLeadingZeros_33 v0 v1 m) 33 [(0, .int v0), (1, .int v1)] [] m := xg_JI_numberOfLeadingZeros_33 hT (lg_JI_numberOfLeadingZeros_48 hT) v0 v1 m
def X_JI_numberOfLeadingZeros_e (l33 : Int32 → Int32 → qm_M → Option qm_R) (v0 : Int32) (m : qm_M) : Option qm_R :=
  if 0 < v0 then
    if v0 < (65536 : Int32) then
      l33 v0 (31 : Int32) m
    else
      l33 (qo_iushr v0 (16 : Int32)) ((31 : Int32) + (-16 : Int32)) m
  else
    if v0 = 0 then
      some (some (.int (32 : Int32)), m)
    else
      some (some (.int (0 : Int32)), m)
set_option maxRecDepth 100000 in
theorem xg_JI_numberOfLeadingZeros_e {kp : pm_K} {d : Nat} {l33 : Int32 → Int32 → qm_M → Option qm_R} (hT : qe_G kp d (T_JI_numberOfLeadingZeros)) (h33 : ∀ (v0 : Int32) (v1 : Int32) (m : qm_M), qe_J kp md_JI_numberOfLeadingZeros d (l33 v0 v1 m) 33 [(0, .int v0), (1, .int v1)] [] m) (v0 : Int32) (m : qm_M) : qe_J kp md_JI_numberOfLeadingZeros d (X_JI_numberOfLeadingZeros_e l33 v0 m) 0 [(0, .int v0)] [] m := qe_run (B := [(33, [0, 1], qp_ii_ l33)]) (n := 1000) hT (qe_B1 (qp_ii__ok h33) qe_B0) rfl
def F_JI_numberOfLeadingZeros (v0 : Int32) (m : qm_M) : Option qm_R := X_JI_numberOfLeadingZeros_e (L_JI_numberOfLeadingZeros_33) v0 m
theorem fj_JI_numberOfLeadingZeros {kp : pm_K} {d : Nat} (hT : qe_G kp d (T_JI_numberOfLeadingZeros)) (v0 : Int32) (m : qm_M) : qe_J kp md_JI_numberOfLeadingZeros d (F_JI_numberOfLeadingZeros v0 m) 0 [(0, .int v0)] [] m := xg_JI_numberOfLeadingZeros_e hT (lg_JI_numberOfLeadingZeros_33 hT) v0 m
theorem fg_JI_numberOfLeadingZeros {kp : pm_K} (d : Nat) : qe_GE kp (d + 1) (104, 1, 0, 1, qw_i F_JI_numberOfLeadingZeros) := qe_entry (by decide +kernel) (qw_i_ok (d := d + 0) rfl rfl (fj_JI_numberOfLeadingZeros qe_G0))
/-! java/lang/Integer.numberOfTrailingZeros(I)I -/
noncomputable def T_JI_numberOfTrailingZeros : qe_T := []
def X_JI_numberOfTrailingZeros_62 (v0 : Int32) (v1 : Int32) (m : qm_M) : Option qm_R :=
  if (4 : Int32) < v0 then
    some (some (.int ((v1 + (2 : Int32)) + (qo_iushr (qo_iushr v0 (2 : Int32)) (1 : Int32)))), m)
  else
    some (some (.int (v1 + (qo_iushr v0 (1 : Int32)))), m)
set_option maxRecDepth 100000 in
theorem xg_JI_numberOfTrailingZeros_62 {kp : pm_K} {d : Nat} (hT : qe_G kp d (T_JI_numberOfTrailingZeros)) (v0 : Int32) (v1 : Int32) (m : qm_M) : qe_J kp md_JI_numberOfTrailingZeros d (X_JI_numberOfTrailingZeros_62 v0 v1 m) 62 [(0, .int v0), (1, .int v1)] [] m := qe_run (B := []) (n := 1000) hT qe_B0 rfl
def L_JI_numberOfTrailingZeros_62 (v0 : Int32) (v1 : Int32) (m : qm_M) : Option qm_R := X_JI_numberOfTrailingZeros_62 v0 v1 m
theorem lg_JI_numberOfTrailingZeros_62 {kp : pm_K} {d : Nat} (hT : qe_G kp d (T_JI_numberOfTrailingZeros)) (v0 : Int32) (v1 : Int32) (m : qm_M) : qe_J kp md_JI_numberOfTrailingZeros d (L_JI_numberOfTrailingZeros_62 v0 v1 m) 62 [(0, .int v0), (1, .int v1)] [] m := xg_JI_numberOfTrailingZeros_62 hT v0 v1 m
def X_JI_numberOfTrailingZeros_49 (l62 : Int32 → Int32 → qm_M → Option qm_R) (v0 : Int32) (v1 : Int32) (m : qm_M) : Option qm_R :=
  if (16 : Int32) < v0 then
    l62 (qo_iushr v0 (4 : Int32)) (v1 + (4 : Int32)) m
  else
    l62 v0 v1 m
set_option maxRecDepth 100000 in
theorem xg_JI_numberOfTrailingZeros_49 {kp : pm_K} {d : Nat} {l62 : Int32 → Int32 → qm_M → Option qm_R} (hT : qe_G kp d (T_JI_numberOfTrailingZeros)) (h62 : ∀ (v0 : Int32) (v1 : Int32) (m : qm_M), qe_J kp md_JI_numberOfTrailingZeros d (l62 v0 v1 m) 62 [(0, .int v0), (1, .int v1)] [] m) (v0 : Int32) (v1 : Int32) (m : qm_M) : qe_J kp md_JI_numberOfTrailingZeros d (X_JI_numberOfTrailingZeros_49 l62 v0 v1 m) 49 [(0, .int v0), (1, .int v1)] [] m := qe_run (B := [(62, [0, 1], qp_ii_ l62)]) (n := 1000) hT (qe_B1 (qp_ii__ok h62) qe_B0) rfl
def L_JI_numberOfTrailingZeros_49 (v0 : Int32) (v1 : Int32) (m : qm_M) : Option qm_R := X_JI_numberOfTrailingZeros_49 (L_JI_numberOfTrailingZeros_62) v0 v1 m
theorem lg_JI_numberOfTrailingZeros_49 {kp : pm_K} {d : Nat} (hT : qe_G kp d (T_JI_numberOfTrailingZeros)) (v0 : Int32) (v1 : Int32) (m : qm_M) : qe_J kp md_JI_numberOfTrailingZeros d (L_JI_numberOfTrailingZeros_49 v0 v1 m) 49 [(0, .int v0), (1, .int v1)] [] m := xg_JI_numberOfTrailingZeros_49 hT (lg_JI_numberOfTrailingZeros_62 hT) v0 v1 m
def X_JI_numberOfTrailingZeros_34 (l49 : Int32 → Int32 → qm_M → Option qm_R) (v0 : Int32) (v1 : Int32) (m : qm_M) : Option qm_R :=
  if (256 : Int32) < v0 then
    l49 (qo_iushr v0 (8 : Int32)) (v1 + (8 : Int32)) m
  else
    l49 v0 v1 m
set_option maxRecDepth 100000 in
theorem xg_JI_numberOfTrailingZeros_34 {kp : pm_K} {d : Nat} {l49 : Int32 → Int32 → qm_M → Option qm_R} (hT : qe_G kp d (T_JI_numberOfTrailingZeros)) (h49 : ∀ (v0 : Int32) (v1 : Int32) (m : qm_M), qe_J kp md_JI_numberOfTrailingZeros d (l49 v0 v1 m) 49 [(0, .int v0), (1, .int v1)] [] m) (v0 : Int32) (v1 : Int32) (m : qm_M) : qe_J kp md_JI_numberOfTrailingZeros d (X_JI_numberOfTrailingZeros_34 l49 v0 v1 m) 34 [(0, .int v0), (1, .int v1)] [] m := qe_run (B := [(49, [0, 1], qp_ii_ l49)]) (n := 1000) hT (qe_B1 (qp_ii__ok h49) qe_B0) rfl
def L_JI_numberOfTrailingZeros_34 (v0 : Int32) (v1 : Int32) (m : qm_M) : Option qm_R := X_JI_numberOfTrailingZeros_34 (L_JI_numberOfTrailingZeros_49) v0 v1 m
theorem lg_JI_numberOfTrailingZeros_34 {kp : pm_K} {d : Nat} (hT : qe_G kp d (T_JI_numberOfTrailingZeros)) (v0 : Int32) (v1 : Int32) (m : qm_M) : qe_J kp md_JI_numberOfTrailingZeros d (L_JI_numberOfTrailingZeros_34 v0 v1 m) 34 [(0, .int v0), (1, .int v1)] [] m := xg_JI_numberOfTrailingZeros_34 hT (lg_JI_numberOfTrailingZeros_49 hT) v0 v1 m
def X_JI_numberOfTrailingZeros_e (l34 : Int32 → Int32 → qm_M → Option qm_R) (v0 : Int32) (m : qm_M) : Option qm_R :=
  let x1 : Int32 := ((v0 ^^^ (-1 : Int32)) &&& (v0 - (1 : Int32)))
  if 0 < x1 then
    if (65536 : Int32) < x1 then
      l34 (qo_iushr x1 (16 : Int32)) ((1 : Int32) + (16 : Int32)) m
    else
      l34 x1 (1 : Int32) m
  else
    some (some (.int (x1 &&& (32 : Int32))), m)
set_option maxRecDepth 100000 in
theorem xg_JI_numberOfTrailingZeros_e {kp : pm_K} {d : Nat} {l34 : Int32 → Int32 → qm_M → Option qm_R} (hT : qe_G kp d (T_JI_numberOfTrailingZeros)) (h34 : ∀ (v0 : Int32) (v1 : Int32) (m : qm_M), qe_J kp md_JI_numberOfTrailingZeros d (l34 v0 v1 m) 34 [(0, .int v0), (1, .int v1)] [] m) (v0 : Int32) (m : qm_M) : qe_J kp md_JI_numberOfTrailingZeros d (X_JI_numberOfTrailingZeros_e l34 v0 m) 0 [(0, .int v0)] [] m := qe_run (B := [(34, [0, 1], qp_ii_ l34)]) (n := 1000) hT (qe_B1 (qp_ii__ok h34) qe_B0) rfl
def F_JI_numberOfTrailingZeros (v0 : Int32) (m : qm_M) : Option qm_R := X_JI_numberOfTrailingZeros_e (L_JI_numberOfTrailingZeros_34) v0 m
theorem fj_JI_numberOfTrailingZeros {kp : pm_K} {d : Nat} (hT : qe_G kp d (T_JI_numberOfTrailingZeros)) (v0 : Int32) (m : qm_M) : qe_J kp md_JI_numberOfTrailingZeros d (F_JI_numberOfTrailingZeros v0 m) 0 [(0, .int v0)] [] m := xg_JI_numberOfTrailingZeros_e hT (lg_JI_numberOfTrailingZeros_34 hT) v0 m
theorem fg_JI_numberOfTrailingZeros {kp : pm_K} (d : Nat) : qe_GE kp (d + 1) (105, 1, 0, 1, qw_i F_JI_numberOfTrailingZeros) := qe_entry (by decide +kernel) (qw_i_ok (d := d + 0) rfl rfl (fj_JI_numberOfTrailingZeros qe_G0))
/-! java/lang/Integer.bitCount(I)I -/
noncomputable def T_JI_bitCount : qe_T := []
def X_JI_bitCount_e (v0 : Int32) (m : qm_M) : Option qm_R :=
  let x1 : Int32 := (v0 - ((qo_iushr v0 (1 : Int32)) &&& (1431655765 : Int32)))
  let x2 : Int32 := ((x1 &&& (858993459 : Int32)) + ((qo_iushr x1 (2 : Int32)) &&& (858993459 : Int32)))
  let x3 : Int32 := ((x2 + (qo_iushr x2 (4 : Int32))) &&& (252645135 : Int32))
  let x4 : Int32 := ((x3 + (qo_iushr x3 (8 : Int32))) + (qo_iushr (x3 + (qo_iushr x3 (8 : Int32))) (16 : Int32)))
  some (some (.int (x4 &&& (63 : Int32))), m)
set_option maxRecDepth 100000 in
theorem xg_JI_bitCount_e {kp : pm_K} {d : Nat} (hT : qe_G kp d (T_JI_bitCount)) (v0 : Int32) (m : qm_M) : qe_J kp md_JI_bitCount d (X_JI_bitCount_e v0 m) 0 [(0, .int v0)] [] m := qe_run (B := []) (n := 1000) hT qe_B0 rfl
def F_JI_bitCount (v0 : Int32) (m : qm_M) : Option qm_R := X_JI_bitCount_e v0 m
theorem fj_JI_bitCount {kp : pm_K} {d : Nat} (hT : qe_G kp d (T_JI_bitCount)) (v0 : Int32) (m : qm_M) : qe_J kp md_JI_bitCount d (F_JI_bitCount v0 m) 0 [(0, .int v0)] [] m := xg_JI_bitCount_e hT v0 m
theorem fg_JI_bitCount {kp : pm_K} (d : Nat) : qe_GE kp (d + 1) (106, 1, 0, 1, qw_i F_JI_bitCount) := qe_entry (by decide +kernel) (qw_i_ok (d := d + 0) rfl rfl (fj_JI_bitCount qe_G0))
/-! java/lang/Long.bitCount(J)I -/
noncomputable def T_JL_bitCount : qe_T := []
def X_JL_bitCount_e (v0 : Int64) (m : qm_M) : Option qm_R :=
  let x1 : Int64 := (v0 - ((qo_lushr v0 (1 : Int32)) &&& (6148914691236517205 : Int64)))
  let x2 : Int64 := ((x1 &&& (3689348814741910323 : Int64)) + ((qo_lushr x1 (2 : Int32)) &&& (3689348814741910323 : Int64)))
  let x3 : Int64 := ((x2 + (qo_lushr x2 (4 : Int32))) &&& (1085102592571150095 : Int64))
  let x4 : Int64 := ((x3 + (qo_lushr x3 (8 : Int32))) + (qo_lushr (x3 + (qo_lushr x3 (8 : Int32))) (16 : Int32)))
  some (some (.int ((Int64.toInt32 (x4 + (qo_lushr x4 (32 : Int32)))) &&& (127 : Int32))), m)
set_option maxRecDepth 100000 in
theorem xg_JL_bitCount_e {kp : pm_K} {d : Nat} (hT : qe_G kp d (T_JL_bitCount)) (v0 : Int64) (m : qm_M) : qe_J kp md_JL_bitCount d (X_JL_bitCount_e v0 m) 0 [(0, .long v0)] [] m := qe_run (B := []) (n := 1000) hT qe_B0 rfl
def F_JL_bitCount (v0 : Int64) (m : qm_M) : Option qm_R := X_JL_bitCount_e v0 m
theorem fj_JL_bitCount {kp : pm_K} {d : Nat} (hT : qe_G kp d (T_JL_bitCount)) (v0 : Int64) (m : qm_M) : qe_J kp md_JL_bitCount d (F_JL_bitCount v0 m) 0 [(0, .long v0)] [] m := xg_JL_bitCount_e hT v0 m
theorem fg_JL_bitCount {kp : pm_K} (d : Nat) : qe_GE kp (d + 1) (107, 1, 0, 1, qw_l F_JL_bitCount) := qe_entry (by decide +kernel) (qw_l_ok (d := d + 0) rfl rfl (fj_JL_bitCount qe_G0))
/-! java/lang/String.coder()B -/
noncomputable def T_JS_coder : qe_T := []
def X_JS_coder_e (v0 : Nat) (m : qm_M) : Option qm_R :=
  if (1 : Int32) = 0 then
    qe_b (qm_ni .byte (1 : Int32)) (
    some (some (.int (1 : Int32)), m))
  else
    qe_b (Nat.ble 1000010 v0 && Nat.ble v0 1000018) (
    qe_b (qm_ni .byte (0 : Int32)) (
    some (some (.int (0 : Int32)), m)))
set_option maxRecDepth 100000 in
theorem xg_JS_coder_e {kp : pm_K} {d : Nat} (hT : qe_G kp d (T_JS_coder)) (v0 : Nat) (m : qm_M) : qe_J kp md_JS_coder d (X_JS_coder_e v0 m) 0 [(0, .ref v0)] [] m := qe_run (B := []) (n := 1000) hT qe_B0 rfl
def F_JS_coder (v0 : Nat) (m : qm_M) : Option qm_R := X_JS_coder_e v0 m
theorem fj_JS_coder {kp : pm_K} {d : Nat} (hT : qe_G kp d (T_JS_coder)) (v0 : Nat) (m : qm_M) : qe_J kp md_JS_coder d (F_JS_coder v0 m) 0 [(0, .ref v0)] [] m := xg_JS_coder_e hT v0 m
theorem fg_JS_coder {kp : pm_K} (d : Nat) : qe_GE kp (d + 1) (111, 3, 0, 1, qw_r F_JS_coder) := qe_entry (by decide +kernel) (qw_r_ok (d := d + 0) rfl rfl (fj_JS_coder qe_G0))
/-! java/lang/String.length()I -/
noncomputable def T_JS_length (f_JS_coder : Nat → qm_M → Option qm_R) : qe_T := [(111, 3, 0, 1, qw_r f_JS_coder)]
def X_JS_length_e (f_JS_coder : Nat → qm_M → Option qm_R) (v0 : Nat) (m : qm_M) : Option qm_R :=
  qe_b (Nat.ble 1000010 v0 && Nat.ble v0 1000018) (
  qe_b (Nat.ble (qm_gk (v0 + 20)).1 6) (
  qe_b (Nat.ble 1000010 v0 && Nat.ble v0 1000018) (
  qe_rI (f_JS_coder v0 m) fun x1 m1 =>
  some (some (.int (qo_ishr (Int32.ofNat (qm_n (v0 + 20))) x1)), m1))))
set_option maxRecDepth 100000 in
theorem xg_JS_length_e {kp : pm_K} {d : Nat} {f_JS_coder : Nat → qm_M → Option qm_R} (hT : qe_G kp d (T_JS_length f_JS_coder)) (v0 : Nat) (m : qm_M) : qe_J kp md_JS_length d (X_JS_length_e f_JS_coder v0 m) 0 [(0, .ref v0)] [] m := qe_run (B := []) (n := 1000) hT qe_B0 rfl
def F_JS_length (v0 : Nat) (m : qm_M) : Option qm_R := X_JS_length_e F_JS_coder v0 m
theorem fj_JS_length {kp : pm_K} {d : Nat} (hT : qe_G kp d (T_JS_length F_JS_coder)) (v0 : Nat) (m : qm_M) : qe_J kp md_JS_length d (F_JS_length v0 m) 0 [(0, .ref v0)] [] m := xg_JS_length_e hT v0 m
theorem fg_JS_length {kp : pm_K} (d : Nat) : qe_GE kp (d + 2) (108, 3, 0, 1, qw_r F_JS_length) := qe_entry (by decide +kernel) (qw_r_ok (d := d + 1) rfl rfl (fj_JS_length (qe_G1 (fg_JS_coder (d + 0)) qe_G0)))
/-! java/lang/String.isLatin1()Z -/
noncomputable def T_JS_isLatin1 : qe_T := []
def X_JS_isLatin1_e (v0 : Nat) (m : qm_M) : Option qm_R :=
  if (1 : Int32) = 0 then
    some (some (.int (0 : Int32)), m)
  else
    qe_b (Nat.ble 1000010 v0 && Nat.ble v0 1000018) (
    if (0 : Int32) = 0 then
      some (some (.int (1 : Int32)), m)
    else
      some (some (.int (0 : Int32)), m))
set_option maxRecDepth 100000 in
theorem xg_JS_isLatin1_e {kp : pm_K} {d : Nat} (hT : qe_G kp d (T_JS_isLatin1)) (v0 : Nat) (m : qm_M) : qe_J kp md_JS_isLatin1 d (X_JS_isLatin1_e v0 m) 0 [(0, .ref v0)] [] m := qe_run (B := []) (n := 1000) hT qe_B0 rfl
def F_JS_isLatin1 (v0 : Nat) (m : qm_M) : Option qm_R := X_JS_isLatin1_e v0 m
theorem fj_JS_isLatin1 {kp : pm_K} {d : Nat} (hT : qe_G kp d (T_JS_isLatin1)) (v0 : Nat) (m : qm_M) : qe_J kp md_JS_isLatin1 d (F_JS_isLatin1 v0 m) 0 [(0, .ref v0)] [] m := xg_JS_isLatin1_e hT v0 m
theorem fg_JS_isLatin1 {kp : pm_K} (d : Nat) : qe_GE kp (d + 1) (112, 3, 0, 1, qw_r F_JS_isLatin1) := qe_entry (by decide +kernel) (qw_r_ok (d := d + 0) rfl rfl (fj_JS_isLatin1 qe_G0))
/-! jdk/internal/util/Preconditions.checkIndex(IILjava/util/function/BiFunction;)I -/
noncomputable def T_JP_checkIndex : qe_T := []
def X_JP_checkIndex_e (v0 : Int32) (v1 : Int32) (m : qm_M) : Option qm_R :=
  if v0 < 0 then
    none
  else
    if v0 < v1 then
      some (some (.int v0), m)
    else
      none
set_option maxRecDepth 100000 in
theorem xg_JP_checkIndex_e {kp : pm_K} {d : Nat} (hT : qe_G kp d (T_JP_checkIndex)) (v0 : Int32) (v1 : Int32) (m : qm_M) : qe_J kp md_JP_checkIndex d (X_JP_checkIndex_e v0 v1 m) 0 [(0, .int v0), (1, .int v1), (2, .retAddr 0)] [] m := qe_run (B := []) (n := 1000) hT qe_B0 rfl
def F_JP_checkIndex (v0 : Int32) (v1 : Int32) (m : qm_M) : Option qm_R := X_JP_checkIndex_e v0 v1 m
theorem fj_JP_checkIndex {kp : pm_K} {d : Nat} (hT : qe_G kp d (T_JP_checkIndex)) (v0 : Int32) (v1 : Int32) (m : qm_M) : qe_J kp md_JP_checkIndex d (F_JP_checkIndex v0 v1 m) 0 [(0, .int v0), (1, .int v1), (2, .retAddr 0)] [] m := xg_JP_checkIndex_e hT v0 v1 m
theorem fg_JP_checkIndex {kp : pm_K} (d : Nat) : qe_GE kp (d + 1) (122, 1, 0, 1, qw_iix F_JP_checkIndex) := qe_entry (by decide +kernel) (qw_iix_ok (d := d + 0) rfl rfl (fj_JP_checkIndex qe_G0))
/-! java/lang/String.checkIndex(II)V -/
noncomputable def T_JS_checkIndex (f_JP_checkIndex : Int32 → Int32 → qm_M → Option qm_R) : qe_T := [(122, 1, 0, 1, qw_iix f_JP_checkIndex)]
def X_JS_checkIndex_e (f_JP_checkIndex : Int32 → Int32 → qm_M → Option qm_R) (v0 : Int32) (v1 : Int32) (m : qm_M) : Option qm_R :=
  qe_rI (f_JP_checkIndex v0 v1 m) fun x1 m1 =>
  some (none, m1)
set_option maxRecDepth 100000 in
theorem xg_JS_checkIndex_e {kp : pm_K} {d : Nat} {f_JP_checkIndex : Int32 → Int32 → qm_M → Option qm_R} (hT : qe_G kp d (T_JS_checkIndex f_JP_checkIndex)) (v0 : Int32) (v1 : Int32) (m : qm_M) : qe_J kp md_JS_checkIndex d (X_JS_checkIndex_e f_JP_checkIndex v0 v1 m) 0 [(0, .int v0), (1, .int v1)] [] m := qe_run (B := []) (n := 1000) hT qe_B0 rfl
def F_JS_checkIndex (v0 : Int32) (v1 : Int32) (m : qm_M) : Option qm_R := X_JS_checkIndex_e F_JP_checkIndex v0 v1 m
theorem fj_JS_checkIndex {kp : pm_K} {d : Nat} (hT : qe_G kp d (T_JS_checkIndex F_JP_checkIndex)) (v0 : Int32) (v1 : Int32) (m : qm_M) : qe_J kp md_JS_checkIndex d (F_JS_checkIndex v0 v1 m) 0 [(0, .int v0), (1, .int v1)] [] m := xg_JS_checkIndex_e hT v0 v1 m
theorem fg_JS_checkIndex {kp : pm_K} (d : Nat) : qe_GE kp (d + 2) (113, 1, 0, 0, qw_ii F_JS_checkIndex) := qe_entry (by decide +kernel) (qw_ii_ok (d := d + 1) rfl rfl (fj_JS_checkIndex (qe_G1 (fg_JP_checkIndex (d + 0)) qe_G0)))
/-! java/lang/StringLatin1.charAt([BI)C -/
noncomputable def T_JA_charAt (f_JS_checkIndex : Int32 → Int32 → qm_M → Option qm_R) : qe_T := [(113, 1, 0, 0, qw_ii f_JS_checkIndex)]
def X_JA_charAt_e (f_JS_checkIndex : Int32 → Int32 → qm_M → Option qm_R) (v0 : Nat) (v1 : Int32) (m : qm_M) : Option qm_R :=
  qe_b (Nat.ble (qm_gk v0).1 6) (
  qe_rV (f_JS_checkIndex v1 (Int32.ofNat (qm_n v0)) m) fun m1 =>
  qe_b (qm_isA v0 2 || qm_isL v0 3) (
  qe_b (qm_in v1 (qm_n v0)) (
  qe_b (qm_ni .char (qo_i2c ((qm_gI m1 v0 (Int32.toNatClampNeg v1)) &&& (255 : Int32)))) (
  some (some (.int (qo_i2c ((qm_gI m1 v0 (Int32.toNatClampNeg v1)) &&& (255 : Int32)))), m1)))))
set_option maxRecDepth 100000 in
theorem xg_JA_charAt_e {kp : pm_K} {d : Nat} {f_JS_checkIndex : Int32 → Int32 → qm_M → Option qm_R} (hT : qe_G kp d (T_JA_charAt f_JS_checkIndex)) (v0 : Nat) (v1 : Int32) (m : qm_M) : qe_J kp md_JA_charAt d (X_JA_charAt_e f_JS_checkIndex v0 v1 m) 0 [(0, .ref v0), (1, .int v1)] [] m := qe_run (B := []) (n := 1000) hT qe_B0 rfl
def F_JA_charAt (v0 : Nat) (v1 : Int32) (m : qm_M) : Option qm_R := X_JA_charAt_e F_JS_checkIndex v0 v1 m
theorem fj_JA_charAt {kp : pm_K} {d : Nat} (hT : qe_G kp d (T_JA_charAt F_JS_checkIndex)) (v0 : Nat) (v1 : Int32) (m : qm_M) : qe_J kp md_JA_charAt d (F_JA_charAt v0 v1 m) 0 [(0, .ref v0), (1, .int v1)] [] m := xg_JA_charAt_e hT v0 v1 m
theorem fg_JA_charAt {kp : pm_K} (d : Nat) : qe_GE kp (d + 3) (120, 1, 0, 1, qw_ri F_JA_charAt) := qe_entry (by decide +kernel) (qw_ri_ok (d := d + 2) rfl rfl (fj_JA_charAt (qe_G1 (fg_JS_checkIndex (d + 0)) qe_G0)))
/-! java/lang/String.charAt(I)C -/
noncomputable def T_JS_charAt (f_JS_isLatin1 : Nat → qm_M → Option qm_R) (f_JA_charAt : Nat → Int32 → qm_M → Option qm_R) : qe_T := [(112, 3, 0, 1, qw_r f_JS_isLatin1), (120, 1, 0, 1, qw_ri f_JA_charAt)]
def X_JS_charAt_e (f_JS_isLatin1 : Nat → qm_M → Option qm_R) (f_JA_charAt : Nat → Int32 → qm_M → Option qm_R) (v0 : Nat) (v1 : Int32) (m : qm_M) : Option qm_R :=
  qe_b (Nat.ble 1000010 v0 && Nat.ble v0 1000018) (
  qe_rI (f_JS_isLatin1 v0 m) fun x1 m1 =>
  if x1 = 0 then
    qe_b (Nat.ble 1000010 v0 && Nat.ble v0 1000018) (
    none)
  else
    qe_b (Nat.ble 1000010 v0 && Nat.ble v0 1000018) (
    qe_rI (f_JA_charAt (v0 + 20) v1 m1) fun x2 m2 =>
    qe_b (qm_ni .char x2) (
    some (some (.int x2), m2))))
set_option maxRecDepth 100000 in
theorem xg_JS_charAt_e {kp : pm_K} {d : Nat} {f_JS_isLatin1 : Nat → qm_M → Option qm_R} {f_JA_charAt : Nat → Int32 → qm_M → Option qm_R} (hT : qe_G kp d (T_JS_charAt f_JS_isLatin1 f_JA_charAt)) (v0 : Nat) (v1 : Int32) (m : qm_M) : qe_J kp md_JS_charAt d (X_JS_charAt_e f_JS_isLatin1 f_JA_charAt v0 v1 m) 0 [(0, .ref v0), (1, .int v1)] [] m := qe_run (B := []) (n := 1000) hT qe_B0 rfl
def F_JS_charAt (v0 : Nat) (v1 : Int32) (m : qm_M) : Option qm_R := X_JS_charAt_e F_JS_isLatin1 F_JA_charAt v0 v1 m
theorem fj_JS_charAt {kp : pm_K} {d : Nat} (hT : qe_G kp d (T_JS_charAt F_JS_isLatin1 F_JA_charAt)) (v0 : Nat) (v1 : Int32) (m : qm_M) : qe_J kp md_JS_charAt d (F_JS_charAt v0 v1 m) 0 [(0, .ref v0), (1, .int v1)] [] m := xg_JS_charAt_e hT v0 v1 m
theorem fg_JS_charAt {kp : pm_K} (d : Nat) : qe_GE kp (d + 4) (109, 3, 0, 1, qw_ri F_JS_charAt) := qe_entry (by decide +kernel) (qw_ri_ok (d := d + 3) rfl rfl (fj_JS_charAt (qe_G1 (fg_JS_isLatin1 (d + 2)) (qe_G1 (fg_JA_charAt (d + 0)) qe_G0))))
/-! java/lang/StringLatin1.canEncode(C)Z -/
noncomputable def T_JA_canEncode : qe_T := []
def X_JA_canEncode_e (v0 : Int32) (m : qm_M) : Option qm_R :=
  if (255 : Int32) < v0 then
    some (some (.int (0 : Int32)), m)
  else
    some (some (.int (1 : Int32)), m)
set_option maxRecDepth 100000 in
theorem xg_JA_canEncode_e {kp : pm_K} {d : Nat} (hT : qe_G kp d (T_JA_canEncode)) (v0 : Int32) (m : qm_M) : qe_J kp md_JA_canEncode d (X_JA_canEncode_e v0 m) 0 [(0, .int v0)] [] m := qe_run (B := []) (n := 1000) hT qe_B0 rfl
def F_JA_canEncode (v0 : Int32) (m : qm_M) : Option qm_R := X_JA_canEncode_e v0 m
theorem fj_JA_canEncode {kp : pm_K} {d : Nat} (hT : qe_G kp d (T_JA_canEncode)) (v0 : Int32) (m : qm_M) : qe_J kp md_JA_canEncode d (F_JA_canEncode v0 m) 0 [(0, .int v0)] [] m := xg_JA_canEncode_e hT v0 m
theorem fg_JA_canEncode {kp : pm_K} (d : Nat) : qe_GE kp (d + 1) (121, 1, 0, 1, qw_i F_JA_canEncode) := qe_entry (by decide +kernel) (qw_i_ok (d := d + 0) rfl rfl (fj_JA_canEncode qe_G0))
