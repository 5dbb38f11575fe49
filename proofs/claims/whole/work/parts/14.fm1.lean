/-! TurnFieldModel.isIn(JJJ)Z -/
noncomputable def T_M_isIn : qe_T := []
def X_M_isIn_e (v0 : Int64) (v2 : Int64) (v4 : Int64) (m : qm_M) : Option qm_R :=
  if (lg_cmp v0 v2) < 0 then
    some (some (.int (0 : Int32)), m)
  else
    if 0 < (lg_cmp v0 v4) then
      some (some (.int (0 : Int32)), m)
    else
      some (some (.int (1 : Int32)), m)
set_option maxRecDepth 100000 in
theorem xg_M_isIn_e {kp : pm_K} {d : Nat} (hT : qe_G kp d (T_M_isIn)) (v0 : Int64) (v2 : Int64) (v4 : Int64) (m : qm_M) : qe_J kp md_M_isIn d (X_M_isIn_e v0 v2 v4 m) 0 [(0, .long v0), (2, .long v2), (4, .long v4)] [] m := qe_run (B := []) (n := 1000) hT qe_B0 rfl
def F_M_isIn (v0 : Int64) (v2 : Int64) (v4 : Int64) (m : qm_M) : Option qm_R := X_M_isIn_e v0 v2 v4 m
theorem fj_M_isIn {kp : pm_K} {d : Nat} (hT : qe_G kp d (T_M_isIn)) (v0 : Int64) (v2 : Int64) (v4 : Int64) (m : qm_M) : qe_J kp md_M_isIn d (F_M_isIn v0 v2 v4 m) 0 [(0, .long v0), (2, .long v2), (4, .long v4)] [] m := xg_M_isIn_e hT v0 v2 v4 m
theorem fg_M_isIn {kp : pm_K} (d : Nat) : qe_GE kp (d + 1) (185, 1, 0, 1, qw_lll F_M_isIn) := qe_entry (by decide +kernel) (qw_lll_ok (d := d + 0) rfl rfl (fj_M_isIn qe_G0))
/-! TurnFieldModel.has(JI)Z -/
noncomputable def T_M_has : qe_T := []
def X_M_has_e (v0 : Int64) (v2 : Int32) (m : qm_M) : Option qm_R :=
  if (lg_cmp ((qo_lshr v0 v2) &&& (1 : Int64)) (1 : Int64)) = 0 then
    some (some (.int (1 : Int32)), m)
  else
    some (some (.int (0 : Int32)), m)
set_option maxRecDepth 100000 in
theorem xg_M_has_e {kp : pm_K} {d : Nat} (hT : qe_G kp d (T_M_has)) (v0 : Int64) (v2 : Int32) (m : qm_M) : qe_J kp md_M_has d (X_M_has_e v0 v2 m) 0 [(0, .long v0), (2, .int v2)] [] m := qe_run (B := []) (n := 1000) hT qe_B0 rfl
def F_M_has (v0 : Int64) (v2 : Int32) (m : qm_M) : Option qm_R := X_M_has_e v0 v2 m
theorem fj_M_has {kp : pm_K} {d : Nat} (hT : qe_G kp d (T_M_has)) (v0 : Int64) (v2 : Int32) (m : qm_M) : qe_J kp md_M_has d (F_M_has v0 v2 m) 0 [(0, .long v0), (2, .int v2)] [] m := xg_M_has_e hT v0 v2 m
theorem fg_M_has {kp : pm_K} (d : Nat) : qe_GE kp (d + 1) (186, 1, 0, 1, qw_li F_M_has) := qe_entry (by decide +kernel) (qw_li_ok (d := d + 0) rfl rfl (fj_M_has qe_G0))
/-! TurnFieldModel.isLess(JJ)Z -/
noncomputable def T_M_isLess : qe_T := []
def X_M_isLess_e (v0 : Int64) (v2 : Int64) (m : qm_M) : Option qm_R :=
  if (lg_cmp (v0 ^^^ (-9223372036854775808 : Int64)) (v2 ^^^ (-9223372036854775808 : Int64))) < 0 then
    some (some (.int (1 : Int32)), m)
  else
    some (some (.int (0 : Int32)), m)
set_option maxRecDepth 100000 in
theorem xg_M_isLess_e {kp : pm_K} {d : Nat} (hT : qe_G kp d (T_M_isLess)) (v0 : Int64) (v2 : Int64) (m : qm_M) : qe_J kp md_M_isLess d (X_M_isLess_e v0 v2 m) 0 [(0, .long v0), (2, .long v2)] [] m := qe_run (B := []) (n := 1000) hT qe_B0 rfl
def F_M_isLess (v0 : Int64) (v2 : Int64) (m : qm_M) : Option qm_R := X_M_isLess_e v0 v2 m
theorem fj_M_isLess {kp : pm_K} {d : Nat} (hT : qe_G kp d (T_M_isLess)) (v0 : Int64) (v2 : Int64) (m : qm_M) : qe_J kp md_M_isLess d (F_M_isLess v0 v2 m) 0 [(0, .long v0), (2, .long v2)] [] m := xg_M_isLess_e hT v0 v2 m
theorem fg_M_isLess {kp : pm_K} (d : Nat) : qe_GE kp (d + 1) (187, 1, 0, 1, qw_ll F_M_isLess) := qe_entry (by decide +kernel) (qw_ll_ok (d := d + 0) rfl rfl (fj_M_isLess qe_G0))
/-! TurnFieldModel.byTwo(IJ)J -/
noncomputable def T_M_byTwo : qe_T := []
def X_M_byTwo_9 (l9 : Int32 → Int64 → Int64 → Int32 → qm_M → Option qm_R) (v1 : Int32) (v4 : Int64) (v6 : Int64) (v8 : Int32) (m : qm_M) : Option qm_R :=
  if (lg_cmp v6 (0 : Int64)) = 0 then
    some (some (.long v4), m)
  else
    if (lg_cmp (v6 &&& (1 : Int64)) (1 : Int64)) = 0 then
      qe_b (qm_in (((64 : Int32) * v1) + v8) 4096) (
      let x1 : Int64 := (v4 ^^^ (m.2 117 (Int32.toNatClampNeg (((64 : Int32) * v1) + v8))))
      l9 v1 x1 (qo_lushr v6 (1 : Int32)) (v8 + (1 : Int32)) m)
    else
      l9 v1 v4 (qo_lushr v6 (1 : Int32)) (v8 + (1 : Int32)) m
set_option maxRecDepth 100000 in
theorem xg_M_byTwo_9 {kp : pm_K} {d : Nat} {l9 : Int32 → Int64 → Int64 → Int32 → qm_M → Option qm_R} (hT : qe_G kp d (T_M_byTwo)) (h9 : ∀ (v1 : Int32) (v4 : Int64) (v6 : Int64) (v8 : Int32) (m : qm_M), qe_J kp md_M_byTwo d (l9 v1 v4 v6 v8 m) 9 [(0, .ref 112), (1, .int v1), (4, .long v4), (6, .long v6), (8, .int v8)] [] m) (v1 : Int32) (v4 : Int64) (v6 : Int64) (v8 : Int32) (m : qm_M) : qe_J kp md_M_byTwo d (X_M_byTwo_9 l9 v1 v4 v6 v8 m) 9 [(0, .ref 112), (1, .int v1), (4, .long v4), (6, .long v6), (8, .int v8)] [] m := qe_run (B := [(9, [0, 1, 4, 6, 8], qp_cilli_ 112 l9)]) (n := 1000) hT (qe_B1 (qp_cilli__ok h9) qe_B0) rfl
def L_M_byTwo_9 : Nat → Int32 → Int64 → Int64 → Int32 → qm_M → Option qm_R
  | 0, _, _, _, _, _ => none
  | n + 1, v1, v4, v6, v8, m => X_M_byTwo_9 (L_M_byTwo_9 n) v1 v4 v6 v8 m
theorem lg_M_byTwo_9 {kp : pm_K} {d : Nat} (hT : qe_G kp d (T_M_byTwo)) : ∀ (n : Nat) (v1 : Int32) (v4 : Int64) (v6 : Int64) (v8 : Int32) (m : qm_M), qe_J kp md_M_byTwo d (L_M_byTwo_9 n v1 v4 v6 v8 m) 9 [(0, .ref 112), (1, .int v1), (4, .long v4), (6, .long v6), (8, .int v8)] [] m
  | 0, v1, v4, v6, v8, m => qe_none rfl
  | n + 1, v1, v4, v6, v8, m => xg_M_byTwo_9 hT (lg_M_byTwo_9 hT n) v1 v4 v6 v8 m
def X_M_byTwo_e (l9 : Int32 → Int64 → Int64 → Int32 → qm_M → Option qm_R) (v1 : Int32) (v2 : Int64) (m : qm_M) : Option qm_R :=
  l9 v1 (0 : Int64) v2 (0 : Int32) m
set_option maxRecDepth 100000 in
theorem xg_M_byTwo_e {kp : pm_K} {d : Nat} {l9 : Int32 → Int64 → Int64 → Int32 → qm_M → Option qm_R} (hT : qe_G kp d (T_M_byTwo)) (h9 : ∀ (v1 : Int32) (v4 : Int64) (v6 : Int64) (v8 : Int32) (m : qm_M), qe_J kp md_M_byTwo d (l9 v1 v4 v6 v8 m) 9 [(0, .ref 112), (1, .int v1), (4, .long v4), (6, .long v6), (8, .int v8)] [] m) (v1 : Int32) (v2 : Int64) (m : qm_M) : qe_J kp md_M_byTwo d (X_M_byTwo_e l9 v1 v2 m) 0 [(0, .ref 112), (1, .int v1), (2, .long v2)] [] m := qe_run (B := [(9, [0, 1, 4, 6, 8], qp_cilli_ 112 l9)]) (n := 1000) hT (qe_B1 (qp_cilli__ok h9) qe_B0) rfl
def F_M_byTwo (v1 : Int32) (v2 : Int64) (m : qm_M) : Option qm_R := X_M_byTwo_e (L_M_byTwo_9 1000000) v1 v2 m
theorem fj_M_byTwo {kp : pm_K} {d : Nat} (hT : qe_G kp d (T_M_byTwo)) (v1 : Int32) (v2 : Int64) (m : qm_M) : qe_J kp md_M_byTwo d (F_M_byTwo v1 v2 m) 0 [(0, .ref 112), (1, .int v1), (2, .long v2)] [] m := xg_M_byTwo_e hT (lg_M_byTwo_9 hT 1000000) v1 v2 m
theorem fg_M_byTwo {kp : pm_K} (d : Nat) : qe_GE kp (d + 1) (188, 0, 11, 2, qw_cil 112 F_M_byTwo) := qe_entry (by decide +kernel) (qw_cil_ok (d := d + 0) rfl rfl (fj_M_byTwo qe_G0))
/-! TurnFieldModel.topOf(II)I -/
noncomputable def T_M_topOf : qe_T := []
def X_M_topOf_2 (l2 : Int32 → Int32 → Int32 → qm_M → Option qm_R) (v0 : Int32) (v1 : Int32) (v2 : Int32) (m : qm_M) : Option qm_R :=
  if 0 < v2 then
    if ((qo_ishr v0 v2) &&& (1 : Int32)) = 0 then
      if ((qo_ishr v1 v2) &&& (1 : Int32)) = 0 then
        l2 v0 v1 (v2 + (-1 : Int32)) m
      else
        some (some (.int v2), m)
    else
      some (some (.int v2), m)
  else
    some (some (.int v2), m)
set_option maxRecDepth 100000 in
theorem xg_M_topOf_2 {kp : pm_K} {d : Nat} {l2 : Int32 → Int32 → Int32 → qm_M → Option qm_R} (hT : qe_G kp d (T_M_topOf)) (h2 : ∀ (v0 : Int32) (v1 : Int32) (v2 : Int32) (m : qm_M), qe_J kp md_M_topOf d (l2 v0 v1 v2 m) 2 [(0, .int v0), (1, .int v1), (2, .int v2)] [] m) (v0 : Int32) (v1 : Int32) (v2 : Int32) (m : qm_M) : qe_J kp md_M_topOf d (X_M_topOf_2 l2 v0 v1 v2 m) 2 [(0, .int v0), (1, .int v1), (2, .int v2)] [] m := qe_run (B := [(2, [0, 1, 2], qp_iii_ l2)]) (n := 1000) hT (qe_B1 (qp_iii__ok h2) qe_B0) rfl
def L_M_topOf_2 : Nat → Int32 → Int32 → Int32 → qm_M → Option qm_R
  | 0, _, _, _, _ => none
  | n + 1, v0, v1, v2, m => X_M_topOf_2 (L_M_topOf_2 n) v0 v1 v2 m
theorem lg_M_topOf_2 {kp : pm_K} {d : Nat} (hT : qe_G kp d (T_M_topOf)) : ∀ (n : Nat) (v0 : Int32) (v1 : Int32) (v2 : Int32) (m : qm_M), qe_J kp md_M_topOf d (L_M_topOf_2 n v0 v1 v2 m) 2 [(0, .int v0), (1, .int v1), (2, .int v2)] [] m
  | 0, v0, v1, v2, m => qe_none rfl
  | n + 1, v0, v1, v2, m => xg_M_topOf_2 hT (lg_M_topOf_2 hT n) v0 v1 v2 m
def X_M_topOf_e (l2 : Int32 → Int32 → Int32 → qm_M → Option qm_R) (v0 : Int32) (v1 : Int32) (m : qm_M) : Option qm_R :=
  l2 v0 v1 (5 : Int32) m
set_option maxRecDepth 100000 in
theorem xg_M_topOf_e {kp : pm_K} {d : Nat} {l2 : Int32 → Int32 → Int32 → qm_M → Option qm_R} (hT : qe_G kp d (T_M_topOf)) (h2 : ∀ (v0 : Int32) (v1 : Int32) (v2 : Int32) (m : qm_M), qe_J kp md_M_topOf d (l2 v0 v1 v2 m) 2 [(0, .int v0), (1, .int v1), (2, .int v2)] [] m) (v0 : Int32) (v1 : Int32) (m : qm_M) : qe_J kp md_M_topOf d (X_M_topOf_e l2 v0 v1 m) 0 [(0, .int v0), (1, .int v1)] [] m := qe_run (B := [(2, [0, 1, 2], qp_iii_ l2)]) (n := 1000) hT (qe_B1 (qp_iii__ok h2) qe_B0) rfl
def F_M_topOf (v0 : Int32) (v1 : Int32) (m : qm_M) : Option qm_R := X_M_topOf_e (L_M_topOf_2 1000000) v0 v1 m
theorem fj_M_topOf {kp : pm_K} {d : Nat} (hT : qe_G kp d (T_M_topOf)) (v0 : Int32) (v1 : Int32) (m : qm_M) : qe_J kp md_M_topOf d (F_M_topOf v0 v1 m) 0 [(0, .int v0), (1, .int v1)] [] m := xg_M_topOf_e hT (lg_M_topOf_2 hT 1000000) v0 v1 m
theorem fg_M_topOf {kp : pm_K} (d : Nat) : qe_GE kp (d + 1) (189, 1, 0, 1, qw_ii F_M_topOf) := qe_entry (by decide +kernel) (qw_ii_ok (d := d + 0) rfl rfl (fj_M_topOf qe_G0))
/-! TurnFieldModel.twoByTwo(II)J -/
noncomputable def T_M_twoByTwo (f_M_topOf : Int32 → Int32 → qm_M → Option qm_R) (f_M_byTwo : Int32 → Int64 → qm_M → Option qm_R) : qe_T := [(189, 1, 0, 1, qw_ii f_M_topOf), (188, 0, 11, 2, qw_cil 112 f_M_byTwo)]
def X_M_twoByTwo_63 (f_M_topOf : Int32 → Int32 → qm_M → Option qm_R) (f_M_byTwo : Int32 → Int64 → qm_M → Option qm_R) (v4 : Int32) (v5 : Int64) (s0 : Int32) (m : qm_M) : Option qm_R :=
  if s0 = 0 then
    some (some (.long (qo_lshl v5 v4)), m)
  else
    qe_rL (f_M_byTwo (v4 - (1 : Int32)) v5 m) fun x1 m1 =>
    some (some (.long ((qo_lshl v5 v4) ^^^ x1)), m1)
set_option maxRecDepth 100000 in
theorem xg_M_twoByTwo_63 {kp : pm_K} {d : Nat} {f_M_topOf : Int32 → Int32 → qm_M → Option qm_R} {f_M_byTwo : Int32 → Int64 → qm_M → Option qm_R} (hT : qe_G kp d (T_M_twoByTwo f_M_topOf f_M_byTwo)) (v4 : Int32) (v5 : Int64) (s0 : Int32) (m : qm_M) : qe_J kp md_M_twoByTwo d (X_M_twoByTwo_63 f_M_topOf f_M_byTwo v4 v5 s0 m) 63 [(0, .ref 112), (4, .int v4), (5, .long v5)] [.int s0] m := qe_run (B := []) (n := 1000) hT qe_B0 rfl
def L_M_twoByTwo_63 (v4 : Int32) (v5 : Int64) (s0 : Int32) (m : qm_M) : Option qm_R := X_M_twoByTwo_63 F_M_topOf F_M_byTwo v4 v5 s0 m
theorem lg_M_twoByTwo_63 {kp : pm_K} {d : Nat} (hT : qe_G kp d (T_M_twoByTwo F_M_topOf F_M_byTwo)) (v4 : Int32) (v5 : Int64) (s0 : Int32) (m : qm_M) : qe_J kp md_M_twoByTwo d (L_M_twoByTwo_63 v4 v5 s0 m) 63 [(0, .ref 112), (4, .int v4), (5, .long v5)] [.int s0] m := xg_M_twoByTwo_63 hT v4 v5 s0 m
def X_M_twoByTwo_10 (f_M_topOf : Int32 → Int32 → qm_M → Option qm_R) (f_M_byTwo : Int32 → Int64 → qm_M → Option qm_R) (l63 : Int32 → Int64 → Int32 → qm_M → Option qm_R) (v1 : Int32) (v2 : Int32) (m : qm_M) : Option qm_R :=
  qe_rI (f_M_topOf v1 v2 m) fun x1 m1 =>
  qe_b (qm_in (((64 : Int32) * (v1 &&& ((qo_ishl (1 : Int32) x1) - (1 : Int32)))) + (v2 &&& ((qo_ishl (1 : Int32) x1) - (1 : Int32)))) 4096) (
  let x2 : Int64 := (m1.2 117 (Int32.toNatClampNeg (((64 : Int32) * (v1 &&& ((qo_ishl (1 : Int32) x1) - (1 : Int32)))) + (v2 &&& ((qo_ishl (1 : Int32) x1) - (1 : Int32))))))
  if (v1 &&& (qo_ishl (1 : Int32) x1)) = 0 then
    l63 (qo_ishl (1 : Int32) x1) x2 (0 : Int32) m1
  else
    if (v2 &&& (qo_ishl (1 : Int32) x1)) = 0 then
      l63 (qo_ishl (1 : Int32) x1) x2 (0 : Int32) m1
    else
      l63 (qo_ishl (1 : Int32) x1) x2 (1 : Int32) m1)
set_option maxRecDepth 100000 in
theorem xg_M_twoByTwo_10 {kp : pm_K} {d : Nat} {f_M_topOf : Int32 → Int32 → qm_M → Option qm_R} {f_M_byTwo : Int32 → Int64 → qm_M → Option qm_R} {l63 : Int32 → Int64 → Int32 → qm_M → Option qm_R} (hT : qe_G kp d (T_M_twoByTwo f_M_topOf f_M_byTwo)) (h63 : ∀ (v4 : Int32) (v5 : Int64) (s0 : Int32) (m : qm_M), qe_J kp md_M_twoByTwo d (l63 v4 v5 s0 m) 63 [(0, .ref 112), (4, .int v4), (5, .long v5)] [.int s0] m) (v1 : Int32) (v2 : Int32) (m : qm_M) : qe_J kp md_M_twoByTwo d (X_M_twoByTwo_10 f_M_topOf f_M_byTwo l63 v1 v2 m) 10 [(0, .ref 112), (1, .int v1), (2, .int v2)] [] m := qe_run (B := [(63, [0, 4, 5], qp_cil_i 112 l63)]) (n := 1000) hT (qe_B1 (qp_cil_i_ok h63) qe_B0) rfl
def L_M_twoByTwo_10 (v1 : Int32) (v2 : Int32) (m : qm_M) : Option qm_R := X_M_twoByTwo_10 F_M_topOf F_M_byTwo (L_M_twoByTwo_63) v1 v2 m
theorem lg_M_twoByTwo_10 {kp : pm_K} {d : Nat} (hT : qe_G kp d (T_M_twoByTwo F_M_topOf F_M_byTwo)) (v1 : Int32) (v2 : Int32) (m : qm_M) : qe_J kp md_M_twoByTwo d (L_M_twoByTwo_10 v1 v2 m) 10 [(0, .ref 112), (1, .int v1), (2, .int v2)] [] m := xg_M_twoByTwo_10 hT (lg_M_twoByTwo_63 hT) v1 v2 m
def X_M_twoByTwo_e (f_M_topOf : Int32 → Int32 → qm_M → Option qm_R) (f_M_byTwo : Int32 → Int64 → qm_M → Option qm_R) (l10 : Int32 → Int32 → qm_M → Option qm_R) (v1 : Int32) (v2 : Int32) (m : qm_M) : Option qm_R :=
  if v1 = 0 then
    if v2 = 0 then
      some (some (.long (1 : Int64)), m)
    else
      l10 v1 v2 m
  else
    l10 v1 v2 m
set_option maxRecDepth 100000 in
theorem xg_M_twoByTwo_e {kp : pm_K} {d : Nat} {f_M_topOf : Int32 → Int32 → qm_M → Option qm_R} {f_M_byTwo : Int32 → Int64 → qm_M → Option qm_R} {l10 : Int32 → Int32 → qm_M → Option qm_R} (hT : qe_G kp d (T_M_twoByTwo f_M_topOf f_M_byTwo)) (h10 : ∀ (v1 : Int32) (v2 : Int32) (m : qm_M), qe_J kp md_M_twoByTwo d (l10 v1 v2 m) 10 [(0, .ref 112), (1, .int v1), (2, .int v2)] [] m) (v1 : Int32) (v2 : Int32) (m : qm_M) : qe_J kp md_M_twoByTwo d (X_M_twoByTwo_e f_M_topOf f_M_byTwo l10 v1 v2 m) 0 [(0, .ref 112), (1, .int v1), (2, .int v2)] [] m := qe_run (B := [(10, [0, 1, 2], qp_cii_ 112 l10)]) (n := 1000) hT (qe_B1 (qp_cii__ok h10) qe_B0) rfl
def F_M_twoByTwo (v1 : Int32) (v2 : Int32) (m : qm_M) : Option qm_R := X_M_twoByTwo_e F_M_topOf F_M_byTwo (L_M_twoByTwo_10) v1 v2 m
theorem fj_M_twoByTwo {kp : pm_K} {d : Nat} (hT : qe_G kp d (T_M_twoByTwo F_M_topOf F_M_byTwo)) (v1 : Int32) (v2 : Int32) (m : qm_M) : qe_J kp md_M_twoByTwo d (F_M_twoByTwo v1 v2 m) 0 [(0, .ref 112), (1, .int v1), (2, .int v2)] [] m := xg_M_twoByTwo_e hT (lg_M_twoByTwo_10 hT) v1 v2 m
theorem fg_M_twoByTwo {kp : pm_K} (d : Nat) : qe_GE kp (d + 2) (190, 0, 11, 2, qw_cii 112 F_M_twoByTwo) := qe_entry (by decide +kernel) (qw_cii_ok (d := d + 1) rfl rfl (fj_M_twoByTwo (qe_G1 (fg_M_topOf (d + 0)) (qe_G1 (fg_M_byTwo (d + 0)) qe_G0))))
/-! TurnFieldModel.laysTwos()V -/
noncomputable def T_M_laysTwos (f_M_twoByTwo : Int32 → Int32 → qm_M → Option qm_R) : qe_T := [(190, 0, 11, 2, qw_cii 112 f_M_twoByTwo)]
def X_M_laysTwos_10 (f_M_twoByTwo : Int32 → Int32 → qm_M → Option qm_R) (l2 : Int32 → qm_M → Option qm_R) (l10 : Int32 → Int32 → qm_M → Option qm_R) (v1 : Int32) (v2 : Int32) (m : qm_M) : Option qm_R :=
  if v1 < v2 then
    l2 (v1 + (1 : Int32)) m
  else
    qe_rL (f_M_twoByTwo v1 v2 m) fun x1 m1 =>
    qe_b (qm_in (((64 : Int32) * v1) + v2) 4096) (
    let m2 : qm_M := qm_sL m1 117 (Int32.toNatClampNeg (((64 : Int32) * v1) + v2)) x1
    qe_b (qm_in (((64 : Int32) * v2) + v1) 4096) (
    let m3 : qm_M := qm_sL m2 117 (Int32.toNatClampNeg (((64 : Int32) * v2) + v1)) x1
    l10 v1 (v2 + (1 : Int32)) m3))
set_option maxRecDepth 100000 in
theorem xg_M_laysTwos_10 {kp : pm_K} {d : Nat} {f_M_twoByTwo : Int32 → Int32 → qm_M → Option qm_R} {l2 : Int32 → qm_M → Option qm_R} {l10 : Int32 → Int32 → qm_M → Option qm_R} (hT : qe_G kp d (T_M_laysTwos f_M_twoByTwo)) (h2 : ∀ (v1 : Int32) (m : qm_M), qe_J kp md_M_laysTwos d (l2 v1 m) 2 [(0, .ref 112), (1, .int v1)] [] m) (h10 : ∀ (v1 : Int32) (v2 : Int32) (m : qm_M), qe_J kp md_M_laysTwos d (l10 v1 v2 m) 10 [(0, .ref 112), (1, .int v1), (2, .int v2)] [] m) (v1 : Int32) (v2 : Int32) (m : qm_M) : qe_J kp md_M_laysTwos d (X_M_laysTwos_10 f_M_twoByTwo l2 l10 v1 v2 m) 10 [(0, .ref 112), (1, .int v1), (2, .int v2)] [] m := qe_run (B := [(2, [0, 1], qp_ci_ 112 l2), (10, [0, 1, 2], qp_cii_ 112 l10)]) (n := 1000) hT (qe_B1 (qp_ci__ok h2) (qe_B1 (qp_cii__ok h10) qe_B0)) rfl
def L_M_laysTwos_10 (K2 : Int32 → qm_M → Option qm_R) : Nat → Int32 → Int32 → qm_M → Option qm_R
  | 0, _, _, _ => none
  | n + 1, v1, v2, m => X_M_laysTwos_10 F_M_twoByTwo K2 (L_M_laysTwos_10 K2 n) v1 v2 m
theorem lg_M_laysTwos_10 {kp : pm_K} {d : Nat} (hT : qe_G kp d (T_M_laysTwos F_M_twoByTwo)) {K2 : Int32 → qm_M → Option qm_R} (hK2 : ∀ (v1 : Int32) (m : qm_M), qe_J kp md_M_laysTwos d (K2 v1 m) 2 [(0, .ref 112), (1, .int v1)] [] m) : ∀ (n : Nat) (v1 : Int32) (v2 : Int32) (m : qm_M), qe_J kp md_M_laysTwos d (L_M_laysTwos_10 K2 n v1 v2 m) 10 [(0, .ref 112), (1, .int v1), (2, .int v2)] [] m
  | 0, v1, v2, m => qe_none rfl
  | n + 1, v1, v2, m => xg_M_laysTwos_10 hT hK2 (lg_M_laysTwos_10 hT hK2 n) v1 v2 m
def X_M_laysTwos_2 (f_M_twoByTwo : Int32 → Int32 → qm_M → Option qm_R) (l10 : Int32 → Int32 → qm_M → Option qm_R) (v1 : Int32) (m : qm_M) : Option qm_R :=
  if v1 < (64 : Int32) then
    l10 v1 (0 : Int32) m
  else
    some (none, m)
set_option maxRecDepth 100000 in
theorem xg_M_laysTwos_2 {kp : pm_K} {d : Nat} {f_M_twoByTwo : Int32 → Int32 → qm_M → Option qm_R} {l10 : Int32 → Int32 → qm_M → Option qm_R} (hT : qe_G kp d (T_M_laysTwos f_M_twoByTwo)) (h10 : ∀ (v1 : Int32) (v2 : Int32) (m : qm_M), qe_J kp md_M_laysTwos d (l10 v1 v2 m) 10 [(0, .ref 112), (1, .int v1), (2, .int v2)] [] m) (v1 : Int32) (m : qm_M) : qe_J kp md_M_laysTwos d (X_M_laysTwos_2 f_M_twoByTwo l10 v1 m) 2 [(0, .ref 112), (1, .int v1)] [] m := qe_run (B := [(10, [0, 1, 2], qp_cii_ 112 l10)]) (n := 1000) hT (qe_B1 (qp_cii__ok h10) qe_B0) rfl
def L_M_laysTwos_2 : Nat → Int32 → qm_M → Option qm_R
  | 0, _, _ => none
  | n + 1, v1, m => X_M_laysTwos_2 F_M_twoByTwo (L_M_laysTwos_10 (L_M_laysTwos_2 n) 1000000) v1 m
theorem lg_M_laysTwos_2 {kp : pm_K} {d : Nat} (hT : qe_G kp d (T_M_laysTwos F_M_twoByTwo)) : ∀ (n : Nat) (v1 : Int32) (m : qm_M), qe_J kp md_M_laysTwos d (L_M_laysTwos_2 n v1 m) 2 [(0, .ref 112), (1, .int v1)] [] m
  | 0, v1, m => qe_none rfl
  | n + 1, v1, m => xg_M_laysTwos_2 hT (lg_M_laysTwos_10 hT (lg_M_laysTwos_2 hT n) 1000000) v1 m
def X_M_laysTwos_e (f_M_twoByTwo : Int32 → Int32 → qm_M → Option qm_R) (l2 : Int32 → qm_M → Option qm_R)  (m : qm_M) : Option qm_R :=
  l2 (0 : Int32) m
set_option maxRecDepth 100000 in
theorem xg_M_laysTwos_e {kp : pm_K} {d : Nat} {f_M_twoByTwo : Int32 → Int32 → qm_M → Option qm_R} {l2 : Int32 → qm_M → Option qm_R} (hT : qe_G kp d (T_M_laysTwos f_M_twoByTwo)) (h2 : ∀ (v1 : Int32) (m : qm_M), qe_J kp md_M_laysTwos d (l2 v1 m) 2 [(0, .ref 112), (1, .int v1)] [] m) (m : qm_M) : qe_J kp md_M_laysTwos d (X_M_laysTwos_e f_M_twoByTwo l2 m) 0 [(0, .ref 112)] [] m := qe_run (B := [(2, [0, 1], qp_ci_ 112 l2)]) (n := 1000) hT (qe_B1 (qp_ci__ok h2) qe_B0) rfl
def F_M_laysTwos (m : qm_M) : Option qm_R := X_M_laysTwos_e F_M_twoByTwo (L_M_laysTwos_2 1000000) m
theorem fj_M_laysTwos {kp : pm_K} {d : Nat} (hT : qe_G kp d (T_M_laysTwos F_M_twoByTwo)) (m : qm_M) : qe_J kp md_M_laysTwos d (F_M_laysTwos m) 0 [(0, .ref 112)] [] m := xg_M_laysTwos_e hT (lg_M_laysTwos_2 hT 1000000) m
theorem fg_M_laysTwos {kp : pm_K} (d : Nat) : qe_GE kp (d + 3) (191, 0, 11, 0, qw_c 112 F_M_laysTwos) := qe_entry (by decide +kernel) (qw_c_ok (d := d + 2) rfl rfl (fj_M_laysTwos (qe_G1 (fg_M_twoByTwo (d + 0)) qe_G0)))
/-! TurnFieldModel.product(JJ)J -/
noncomputable def T_M_product (f_M_byTwo : Int32 → Int64 → qm_M → Option qm_R) : qe_T := [(188, 0, 11, 2, qw_cil 112 f_M_byTwo)]
def X_M_product_9 (f_M_byTwo : Int32 → Int64 → qm_M → Option qm_R) (l9 : Int64 → Int64 → Int64 → Int32 → qm_M → Option qm_R) (v3 : Int64) (v5 : Int64) (v7 : Int64) (v9 : Int32) (m : qm_M) : Option qm_R :=
  if (lg_cmp v7 (0 : Int64)) = 0 then
    some (some (.long v5), m)
  else
    if (lg_cmp (v7 &&& (1 : Int64)) (1 : Int64)) = 0 then
      qe_rL (f_M_byTwo v9 v3 m) fun x1 m1 =>
      l9 v3 (v5 ^^^ x1) (qo_lushr v7 (1 : Int32)) (v9 + (1 : Int32)) m1
    else
      l9 v3 v5 (qo_lushr v7 (1 : Int32)) (v9 + (1 : Int32)) m
set_option maxRecDepth 100000 in
theorem xg_M_product_9 {kp : pm_K} {d : Nat} {f_M_byTwo : Int32 → Int64 → qm_M → Option qm_R} {l9 : Int64 → Int64 → Int64 → Int32 → qm_M → Option qm_R} (hT : qe_G kp d (T_M_product f_M_byTwo)) (h9 : ∀ (v3 : Int64) (v5 : Int64) (v7 : Int64) (v9 : Int32) (m : qm_M), qe_J kp md_M_product d (l9 v3 v5 v7 v9 m) 9 [(0, .ref 112), (3, .long v3), (5, .long v5), (7, .long v7), (9, .int v9)] [] m) (v3 : Int64) (v5 : Int64) (v7 : Int64) (v9 : Int32) (m : qm_M) : qe_J kp md_M_product d (X_M_product_9 f_M_byTwo l9 v3 v5 v7 v9 m) 9 [(0, .ref 112), (3, .long v3), (5, .long v5), (7, .long v7), (9, .int v9)] [] m := qe_run (B := [(9, [0, 3, 5, 7, 9], qp_cllli_ 112 l9)]) (n := 1000) hT (qe_B1 (qp_cllli__ok h9) qe_B0) rfl
def L_M_product_9 : Nat → Int64 → Int64 → Int64 → Int32 → qm_M → Option qm_R
  | 0, _, _, _, _, _ => none
  | n + 1, v3, v5, v7, v9, m => X_M_product_9 F_M_byTwo (L_M_product_9 n) v3 v5 v7 v9 m
theorem lg_M_product_9 {kp : pm_K} {d : Nat} (hT : qe_G kp d (T_M_product F_M_byTwo)) : ∀ (n : Nat) (v3 : Int64) (v5 : Int64) (v7 : Int64) (v9 : Int32) (m : qm_M), qe_J kp md_M_product d (L_M_product_9 n v3 v5 v7 v9 m) 9 [(0, .ref 112), (3, .long v3), (5, .long v5), (7, .long v7), (9, .int v9)] [] m
  | 0, v3, v5, v7, v9, m => qe_none rfl
  | n + 1, v3, v5, v7, v9, m => xg_M_product_9 hT (lg_M_product_9 hT n) v3 v5 v7 v9 m
def X_M_product_e (f_M_byTwo : Int32 → Int64 → qm_M → Option qm_R) (l9 : Int64 → Int64 → Int64 → Int32 → qm_M → Option qm_R) (v1 : Int64) (v3 : Int64) (m : qm_M) : Option qm_R :=
  l9 v3 (0 : Int64) v1 (0 : Int32) m
set_option maxRecDepth 100000 in
theorem xg_M_product_e {kp : pm_K} {d : Nat} {f_M_byTwo : Int32 → Int64 → qm_M → Option qm_R} {l9 : Int64 → Int64 → Int64 → Int32 → qm_M → Option qm_R} (hT : qe_G kp d (T_M_product f_M_byTwo)) (h9 : ∀ (v3 : Int64) (v5 : Int64) (v7 : Int64) (v9 : Int32) (m : qm_M), qe_J kp md_M_product d (l9 v3 v5 v7 v9 m) 9 [(0, .ref 112), (3, .long v3), (5, .long v5), (7, .long v7), (9, .int v9)] [] m) (v1 : Int64) (v3 : Int64) (m : qm_M) : qe_J kp md_M_product d (X_M_product_e f_M_byTwo l9 v1 v3 m) 0 [(0, .ref 112), (1, .long v1), (3, .long v3)] [] m := qe_run (B := [(9, [0, 3, 5, 7, 9], qp_cllli_ 112 l9)]) (n := 1000) hT (qe_B1 (qp_cllli__ok h9) qe_B0) rfl
def F_M_product (v1 : Int64) (v3 : Int64) (m : qm_M) : Option qm_R := X_M_product_e F_M_byTwo (L_M_product_9 1000000) v1 v3 m
theorem fj_M_product {kp : pm_K} {d : Nat} (hT : qe_G kp d (T_M_product F_M_byTwo)) (v1 : Int64) (v3 : Int64) (m : qm_M) : qe_J kp md_M_product d (F_M_product v1 v3 m) 0 [(0, .ref 112), (1, .long v1), (3, .long v3)] [] m := xg_M_product_e hT (lg_M_product_9 hT 1000000) v1 v3 m
theorem fg_M_product {kp : pm_K} (d : Nat) : qe_GE kp (d + 2) (192, 0, 11, 2, qw_cll 112 F_M_product) := qe_entry (by decide +kernel) (qw_cll_ok (d := d + 1) rfl rfl (fj_M_product (qe_G1 (fg_M_byTwo (d + 0)) qe_G0)))
/-! TurnFieldModel.square(J)J -/
noncomputable def T_M_square (f_M_product : Int64 → Int64 → qm_M → Option qm_R) : qe_T := [(192, 0, 11, 2, qw_cll 112 f_M_product)]
def X_M_square_e (f_M_product : Int64 → Int64 → qm_M → Option qm_R) (v1 : Int64) (m : qm_M) : Option qm_R :=
  qe_rL (f_M_product v1 v1 m) fun x1 m1 =>
  some (some (.long x1), m1)
set_option maxRecDepth 100000 in
theorem xg_M_square_e {kp : pm_K} {d : Nat} {f_M_product : Int64 → Int64 → qm_M → Option qm_R} (hT : qe_G kp d (T_M_square f_M_product)) (v1 : Int64) (m : qm_M) : qe_J kp md_M_square d (X_M_square_e f_M_product v1 m) 0 [(0, .ref 112), (1, .long v1)] [] m := qe_run (B := []) (n := 1000) hT qe_B0 rfl
def F_M_square (v1 : Int64) (m : qm_M) : Option qm_R := X_M_square_e F_M_product v1 m
theorem fj_M_square {kp : pm_K} {d : Nat} (hT : qe_G kp d (T_M_square F_M_product)) (v1 : Int64) (m : qm_M) : qe_J kp md_M_square d (F_M_square v1 m) 0 [(0, .ref 112), (1, .long v1)] [] m := xg_M_square_e hT v1 m
theorem fg_M_square {kp : pm_K} (d : Nat) : qe_GE kp (d + 3) (193, 0, 11, 2, qw_cl 112 F_M_square) := qe_entry (by decide +kernel) (qw_cl_ok (d := d + 2) rfl rfl (fj_M_square (qe_G1 (fg_M_product (d + 0)) qe_G0)))
/-! TurnFieldModel.powerOf(JJ)J -/
noncomputable def T_M_powerOf (f_M_product : Int64 → Int64 → qm_M → Option qm_R) (f_M_square : Int64 → qm_M → Option qm_R) : qe_T := [(192, 0, 11, 2, qw_cll 112 f_M_product), (193, 0, 11, 2, qw_cl 112 f_M_square)]
def X_M_powerOf_35 (f_M_product : Int64 → Int64 → qm_M → Option qm_R) (f_M_square : Int64 → qm_M → Option qm_R) (l9 : Int64 → Int64 → Int64 → qm_M → Option qm_R) (v5 : Int64) (v7 : Int64) (v9 : Int64) (m : qm_M) : Option qm_R :=
  qe_rL (f_M_square v7 m) fun x1 m1 =>
  l9 v5 x1 (qo_lushr v9 (1 : Int32)) m1
set_option maxRecDepth 100000 in
theorem xg_M_powerOf_35 {kp : pm_K} {d : Nat} {f_M_product : Int64 → Int64 → qm_M → Option qm_R} {f_M_square : Int64 → qm_M → Option qm_R} {l9 : Int64 → Int64 → Int64 → qm_M → Option qm_R} (hT : qe_G kp d (T_M_powerOf f_M_product f_M_square)) (h9 : ∀ (v5 : Int64) (v7 : Int64) (v9 : Int64) (m : qm_M), qe_J kp md_M_powerOf d (l9 v5 v7 v9 m) 9 [(0, .ref 112), (5, .long v5), (7, .long v7), (9, .long v9)] [] m) (v5 : Int64) (v7 : Int64) (v9 : Int64) (m : qm_M) : qe_J kp md_M_powerOf d (X_M_powerOf_35 f_M_product f_M_square l9 v5 v7 v9 m) 35 [(0, .ref 112), (5, .long v5), (7, .long v7), (9, .long v9)] [] m := qe_run (B := [(9, [0, 5, 7, 9], qp_clll_ 112 l9)]) (n := 1000) hT (qe_B1 (qp_clll__ok h9) qe_B0) rfl
def L_M_powerOf_35 (K9 : Int64 → Int64 → Int64 → qm_M → Option qm_R) (v5 : Int64) (v7 : Int64) (v9 : Int64) (m : qm_M) : Option qm_R := X_M_powerOf_35 F_M_product F_M_square K9 v5 v7 v9 m
theorem lg_M_powerOf_35 {kp : pm_K} {d : Nat} (hT : qe_G kp d (T_M_powerOf F_M_product F_M_square)) {K9 : Int64 → Int64 → Int64 → qm_M → Option qm_R} (hK9 : ∀ (v5 : Int64) (v7 : Int64) (v9 : Int64) (m : qm_M), qe_J kp md_M_powerOf d (K9 v5 v7 v9 m) 9 [(0, .ref 112), (5, .long v5), (7, .long v7), (9, .long v9)] [] m) (v5 : Int64) (v7 : Int64) (v9 : Int64) (m : qm_M) : qe_J kp md_M_powerOf d (L_M_powerOf_35 K9 v5 v7 v9 m) 35 [(0, .ref 112), (5, .long v5), (7, .long v7), (9, .long v9)] [] m := xg_M_powerOf_35 hT hK9 v5 v7 v9 m
def X_M_powerOf_9 (f_M_product : Int64 → Int64 → qm_M → Option qm_R) (f_M_square : Int64 → qm_M → Option qm_R) (l35 : Int64 → Int64 → Int64 → qm_M → Option qm_R) (v5 : Int64) (v7 : Int64) (v9 : Int64) (m : qm_M) : Option qm_R :=
  if (lg_cmp v9 (0 : Int64)) = 0 then
    some (some (.long v5), m)
  else
    if (lg_cmp (v9 &&& (1 : Int64)) (1 : Int64)) = 0 then
      qe_rL (f_M_product v5 v7 m) fun x1 m1 =>
      l35 x1 v7 v9 m1
    else
      l35 v5 v7 v9 m
set_option maxRecDepth 100000 in
theorem xg_M_powerOf_9 {kp : pm_K} {d : Nat} {f_M_product : Int64 → Int64 → qm_M → Option qm_R} {f_M_square : Int64 → qm_M → Option qm_R} {l35 : Int64 → Int64 → Int64 → qm_M → Option qm_R} (hT : qe_G kp d (T_M_powerOf f_M_product f_M_square)) (h35 : ∀ (v5 : Int64) (v7 : Int64) (v9 : Int64) (m : qm_M), qe_J kp md_M_powerOf d (l35 v5 v7 v9 m) 35 [(0, .ref 112), (5, .long v5), (7, .long v7), (9, .long v9)] [] m) (v5 : Int64) (v7 : Int64) (v9 : Int64) (m : qm_M) : qe_J kp md_M_powerOf d (X_M_powerOf_9 f_M_product f_M_square l35 v5 v7 v9 m) 9 [(0, .ref 112), (5, .long v5), (7, .long v7), (9, .long v9)] [] m := qe_run (B := [(35, [0, 5, 7, 9], qp_clll_ 112 l35)]) (n := 1000) hT (qe_B1 (qp_clll__ok h35) qe_B0) rfl
def L_M_powerOf_9 : Nat → Int64 → Int64 → Int64 → qm_M → Option qm_R
  | 0, _, _, _, _ => none
  | n + 1, v5, v7, v9, m => X_M_powerOf_9 F_M_product F_M_square (L_M_powerOf_35 (L_M_powerOf_9 n)) v5 v7 v9 m
theorem lg_M_powerOf_9 {kp : pm_K} {d : Nat} (hT : qe_G kp d (T_M_powerOf F_M_product F_M_square)) : ∀ (n : Nat) (v5 : Int64) (v7 : Int64) (v9 : Int64) (m : qm_M), qe_J kp md_M_powerOf d (L_M_powerOf_9 n v5 v7 v9 m) 9 [(0, .ref 112), (5, .long v5), (7, .long v7), (9, .long v9)] [] m
  | 0, v5, v7, v9, m => qe_none rfl
  | n + 1, v5, v7, v9, m => xg_M_powerOf_9 hT (lg_M_powerOf_35 hT (lg_M_powerOf_9 hT n)) v5 v7 v9 m
def X_M_powerOf_e (f_M_product : Int64 → Int64 → qm_M → Option qm_R) (f_M_square : Int64 → qm_M → Option qm_R) (l9 : Int64 → Int64 → Int64 → qm_M → Option qm_R) (v1 : Int64) (v3 : Int64) (m : qm_M) : Option qm_R :=
  l9 (1 : Int64) v1 v3 m
set_option maxRecDepth 100000 in
theorem xg_M_powerOf_e {kp : pm_K} {d : Nat} {f_M_product : Int64 → Int64 → qm_M → Option qm_R} {f_M_square : Int64 → qm_M → Option qm_R} {l9 : Int64 → Int64 → Int64 → qm_M → Option qm_R} (hT : qe_G kp d (T_M_powerOf f_M_product f_M_square)) (h9 : ∀ (v5 : Int64) (v7 : Int64) (v9 : Int64) (m : qm_M), qe_J kp md_M_powerOf d (l9 v5 v7 v9 m) 9 [(0, .ref 112), (5, .long v5), (7, .long v7), (9, .long v9)] [] m) (v1 : Int64) (v3 : Int64) (m : qm_M) : qe_J kp md_M_powerOf d (X_M_powerOf_e f_M_product f_M_square l9 v1 v3 m) 0 [(0, .ref 112), (1, .long v1), (3, .long v3)] [] m := qe_run (B := [(9, [0, 5, 7, 9], qp_clll_ 112 l9)]) (n := 1000) hT (qe_B1 (qp_clll__ok h9) qe_B0) rfl
def F_M_powerOf (v1 : Int64) (v3 : Int64) (m : qm_M) : Option qm_R := X_M_powerOf_e F_M_product F_M_square (L_M_powerOf_9 1000000) v1 v3 m
theorem fj_M_powerOf {kp : pm_K} {d : Nat} (hT : qe_G kp d (T_M_powerOf F_M_product F_M_square)) (v1 : Int64) (v3 : Int64) (m : qm_M) : qe_J kp md_M_powerOf d (F_M_powerOf v1 v3 m) 0 [(0, .ref 112), (1, .long v1), (3, .long v3)] [] m := xg_M_powerOf_e hT (lg_M_powerOf_9 hT 1000000) v1 v3 m
theorem fg_M_powerOf {kp : pm_K} (d : Nat) : qe_GE kp (d + 4) (194, 0, 11, 2, qw_cll 112 F_M_powerOf) := qe_entry (by decide +kernel) (qw_cll_ok (d := d + 3) rfl rfl (fj_M_powerOf (qe_G1 (fg_M_product (d + 1)) (qe_G1 (fg_M_square (d + 0)) qe_G0))))
/-! TurnFieldModel.levelOf(J)I -/
noncomputable def T_M_levelOf : qe_T := []
def X_M_levelOf_2 (l2 : Int64 → Int32 → qm_M → Option qm_R) (v0 : Int64) (v2 : Int32) (m : qm_M) : Option qm_R :=
  if v2 < (6 : Int32) then
    if (lg_cmp (qo_lushr v0 (qo_ishl (1 : Int32) v2)) (0 : Int64)) = 0 then
      some (some (.int v2), m)
    else
      l2 v0 (v2 + (1 : Int32)) m
  else
    some (some (.int v2), m)
set_option maxRecDepth 100000 in
theorem xg_M_levelOf_2 {kp : pm_K} {d : Nat} {l2 : Int64 → Int32 → qm_M → Option qm_R} (hT : qe_G kp d (T_M_levelOf)) (h2 : ∀ (v0 : Int64) (v2 : Int32) (m : qm_M), qe_J kp md_M_levelOf d (l2 v0 v2 m) 2 [(0, .long v0), (2, .int v2)] [] m) (v0 : Int64) (v2 : Int32) (m : qm_M) : qe_J kp md_M_levelOf d (X_M_levelOf_2 l2 v0 v2 m) 2 [(0, .long v0), (2, .int v2)] [] m := qe_run (B := [(2, [0, 2], qp_li_ l2)]) (n := 1000) hT (qe_B1 (qp_li__ok h2) qe_B0) rfl
def L_M_levelOf_2 : Nat → Int64 → Int32 → qm_M → Option qm_R
  | 0, _, _, _ => none
  | n + 1, v0, v2, m => X_M_levelOf_2 (L_M_levelOf_2 n) v0 v2 m
theorem lg_M_levelOf_2 {kp : pm_K} {d : Nat} (hT : qe_G kp d (T_M_levelOf)) : ∀ (n : Nat) (v0 : Int64) (v2 : Int32) (m : qm_M), qe_J kp md_M_levelOf d (L_M_levelOf_2 n v0 v2 m) 2 [(0, .long v0), (2, .int v2)] [] m
  | 0, v0, v2, m => qe_none rfl
  | n + 1, v0, v2, m => xg_M_levelOf_2 hT (lg_M_levelOf_2 hT n) v0 v2 m
def X_M_levelOf_e (l2 : Int64 → Int32 → qm_M → Option qm_R) (v0 : Int64) (m : qm_M) : Option qm_R :=
  l2 v0 (0 : Int32) m
set_option maxRecDepth 100000 in
theorem xg_M_levelOf_e {kp : pm_K} {d : Nat} {l2 : Int64 → Int32 → qm_M → Option qm_R} (hT : qe_G kp d (T_M_levelOf)) (h2 : ∀ (v0 : Int64) (v2 : Int32) (m : qm_M), qe_J kp md_M_levelOf d (l2 v0 v2 m) 2 [(0, .long v0), (2, .int v2)] [] m) (v0 : Int64) (m : qm_M) : qe_J kp md_M_levelOf d (X_M_levelOf_e l2 v0 m) 0 [(0, .long v0)] [] m := qe_run (B := [(2, [0, 2], qp_li_ l2)]) (n := 1000) hT (qe_B1 (qp_li__ok h2) qe_B0) rfl
def F_M_levelOf (v0 : Int64) (m : qm_M) : Option qm_R := X_M_levelOf_e (L_M_levelOf_2 1000000) v0 m
theorem fj_M_levelOf {kp : pm_K} {d : Nat} (hT : qe_G kp d (T_M_levelOf)) (v0 : Int64) (m : qm_M) : qe_J kp md_M_levelOf d (F_M_levelOf v0 m) 0 [(0, .long v0)] [] m := xg_M_levelOf_e hT (lg_M_levelOf_2 hT 1000000) v0 m
theorem fg_M_levelOf {kp : pm_K} (d : Nat) : qe_GE kp (d + 1) (195, 1, 0, 1, qw_l F_M_levelOf) := qe_entry (by decide +kernel) (qw_l_ok (d := d + 0) rfl rfl (fj_M_levelOf qe_G0))
/-! TurnFieldModel.allBut(I)J -/
noncomputable def T_M_allBut : qe_T := []
def X_M_allBut_e (v0 : Int32) (m : qm_M) : Option qm_R :=
  if v0 = (6 : Int32) then
    some (some (.long (-2 : Int64)), m)
  else
    some (some (.long ((qo_lshl (1 : Int64) (qo_ishl (1 : Int32) v0)) - (2 : Int64))), m)
set_option maxRecDepth 100000 in
theorem xg_M_allBut_e {kp : pm_K} {d : Nat} (hT : qe_G kp d (T_M_allBut)) (v0 : Int32) (m : qm_M) : qe_J kp md_M_allBut d (X_M_allBut_e v0 m) 0 [(0, .int v0)] [] m := qe_run (B := []) (n := 1000) hT qe_B0 rfl
def F_M_allBut (v0 : Int32) (m : qm_M) : Option qm_R := X_M_allBut_e v0 m
theorem fj_M_allBut {kp : pm_K} {d : Nat} (hT : qe_G kp d (T_M_allBut)) (v0 : Int32) (m : qm_M) : qe_J kp md_M_allBut d (F_M_allBut v0 m) 0 [(0, .int v0)] [] m := xg_M_allBut_e hT v0 m
theorem fg_M_allBut {kp : pm_K} (d : Nat) : qe_GE kp (d + 1) (196, 1, 0, 2, qw_i F_M_allBut) := qe_entry (by decide +kernel) (qw_i_ok (d := d + 0) rfl rfl (fj_M_allBut qe_G0))
/-! TurnFieldModel.inverseOf(J)J -/
noncomputable def T_M_inverseOf (f_M_levelOf : Int64 → qm_M → Option qm_R) (f_M_allBut : Int32 → qm_M → Option qm_R) (f_M_powerOf : Int64 → Int64 → qm_M → Option qm_R) : qe_T := [(195, 1, 0, 1, qw_l f_M_levelOf), (196, 1, 0, 2, qw_i f_M_allBut), (194, 0, 11, 2, qw_cll 112 f_M_powerOf)]
def X_M_inverseOf_e (f_M_levelOf : Int64 → qm_M → Option qm_R) (f_M_allBut : Int32 → qm_M → Option qm_R) (f_M_powerOf : Int64 → Int64 → qm_M → Option qm_R) (v1 : Int64) (m : qm_M) : Option qm_R :=
  if (lg_cmp v1 (0 : Int64)) = 0 then
    some (some (.long (0 : Int64)), m)
  else
    qe_rI (f_M_levelOf v1 m) fun x1 m1 =>
    qe_rL (f_M_allBut x1 m1) fun x2 m2 =>
    qe_rL (f_M_powerOf v1 x2 m2) fun x3 m3 =>
    some (some (.long x3), m3)
set_option maxRecDepth 100000 in
theorem xg_M_inverseOf_e {kp : pm_K} {d : Nat} {f_M_levelOf : Int64 → qm_M → Option qm_R} {f_M_allBut : Int32 → qm_M → Option qm_R} {f_M_powerOf : Int64 → Int64 → qm_M → Option qm_R} (hT : qe_G kp d (T_M_inverseOf f_M_levelOf f_M_allBut f_M_powerOf)) (v1 : Int64) (m : qm_M) : qe_J kp md_M_inverseOf d (X_M_inverseOf_e f_M_levelOf f_M_allBut f_M_powerOf v1 m) 0 [(0, .ref 112), (1, .long v1)] [] m := qe_run (B := []) (n := 1000) hT qe_B0 rfl
def F_M_inverseOf (v1 : Int64) (m : qm_M) : Option qm_R := X_M_inverseOf_e F_M_levelOf F_M_allBut F_M_powerOf v1 m
theorem fj_M_inverseOf {kp : pm_K} {d : Nat} (hT : qe_G kp d (T_M_inverseOf F_M_levelOf F_M_allBut F_M_powerOf)) (v1 : Int64) (m : qm_M) : qe_J kp md_M_inverseOf d (F_M_inverseOf v1 m) 0 [(0, .ref 112), (1, .long v1)] [] m := xg_M_inverseOf_e hT v1 m
theorem fg_M_inverseOf {kp : pm_K} (d : Nat) : qe_GE kp (d + 5) (197, 0, 11, 2, qw_cl 112 F_M_inverseOf) := qe_entry (by decide +kernel) (qw_cl_ok (d := d + 4) rfl rfl (fj_M_inverseOf (qe_G1 (fg_M_levelOf (d + 3)) (qe_G1 (fg_M_allBut (d + 3)) (qe_G1 (fg_M_powerOf (d + 0)) qe_G0)))))
/-! TurnFieldModel.rootOf(J)J -/
noncomputable def T_M_rootOf (f_M_levelOf : Int64 → qm_M → Option qm_R) (f_M_square : Int64 → qm_M → Option qm_R) : qe_T := [(195, 1, 0, 1, qw_l f_M_levelOf), (193, 0, 11, 2, qw_cl 112 f_M_square)]
def X_M_rootOf_5 (f_M_levelOf : Int64 → qm_M → Option qm_R) (f_M_square : Int64 → qm_M → Option qm_R) (l5 : Int64 → Int64 → Int32 → qm_M → Option qm_R) (v1 : Int64) (v3 : Int64) (v5 : Int32) (m : qm_M) : Option qm_R :=
  qe_rI (f_M_levelOf v1 m) fun x1 m1 =>
  if v5 < (qo_ishl (1 : Int32) x1) then
    qe_rL (f_M_square v3 m1) fun x2 m2 =>
    l5 v1 x2 (v5 + (1 : Int32)) m2
  else
    some (some (.long v3), m1)
set_option maxRecDepth 100000 in
theorem xg_M_rootOf_5 {kp : pm_K} {d : Nat} {f_M_levelOf : Int64 → qm_M → Option qm_R} {f_M_square : Int64 → qm_M → Option qm_R} {l5 : Int64 → Int64 → Int32 → qm_M → Option qm_R} (hT : qe_G kp d (T_M_rootOf f_M_levelOf f_M_square)) (h5 : ∀ (v1 : Int64) (v3 : Int64) (v5 : Int32) (m : qm_M), qe_J kp md_M_rootOf d (l5 v1 v3 v5 m) 5 [(0, .ref 112), (1, .long v1), (3, .long v3), (5, .int v5)] [] m) (v1 : Int64) (v3 : Int64) (v5 : Int32) (m : qm_M) : qe_J kp md_M_rootOf d (X_M_rootOf_5 f_M_levelOf f_M_square l5 v1 v3 v5 m) 5 [(0, .ref 112), (1, .long v1), (3, .long v3), (5, .int v5)] [] m := qe_run (B := [(5, [0, 1, 3, 5], qp_clli_ 112 l5)]) (n := 1000) hT (qe_B1 (qp_clli__ok h5) qe_B0) rfl
def L_M_rootOf_5 : Nat → Int64 → Int64 → Int32 → qm_M → Option qm_R
  | 0, _, _, _, _ => none
  | n + 1, v1, v3, v5, m => X_M_rootOf_5 F_M_levelOf F_M_square (L_M_rootOf_5 n) v1 v3 v5 m
theorem lg_M_rootOf_5 {kp : pm_K} {d : Nat} (hT : qe_G kp d (T_M_rootOf F_M_levelOf F_M_square)) : ∀ (n : Nat) (v1 : Int64) (v3 : Int64) (v5 : Int32) (m : qm_M), qe_J kp md_M_rootOf d (L_M_rootOf_5 n v1 v3 v5 m) 5 [(0, .ref 112), (1, .long v1), (3, .long v3), (5, .int v5)] [] m
  | 0, v1, v3, v5, m => qe_none rfl
  | n + 1, v1, v3, v5, m => xg_M_rootOf_5 hT (lg_M_rootOf_5 hT n) v1 v3 v5 m
def X_M_rootOf_e (f_M_levelOf : Int64 → qm_M → Option qm_R) (f_M_square : Int64 → qm_M → Option qm_R) (l5 : Int64 → Int64 → Int32 → qm_M → Option qm_R) (v1 : Int64) (m : qm_M) : Option qm_R :=
  l5 v1 v1 (1 : Int32) m
set_option maxRecDepth 100000 in
theorem xg_M_rootOf_e {kp : pm_K} {d : Nat} {f_M_levelOf : Int64 → qm_M → Option qm_R} {f_M_square : Int64 → qm_M → Option qm_R} {l5 : Int64 → Int64 → Int32 → qm_M → Option qm_R} (hT : qe_G kp d (T_M_rootOf f_M_levelOf f_M_square)) (h5 : ∀ (v1 : Int64) (v3 : Int64) (v5 : Int32) (m : qm_M), qe_J kp md_M_rootOf d (l5 v1 v3 v5 m) 5 [(0, .ref 112), (1, .long v1), (3, .long v3), (5, .int v5)] [] m) (v1 : Int64) (m : qm_M) : qe_J kp md_M_rootOf d (X_M_rootOf_e f_M_levelOf f_M_square l5 v1 m) 0 [(0, .ref 112), (1, .long v1)] [] m := qe_run (B := [(5, [0, 1, 3, 5], qp_clli_ 112 l5)]) (n := 1000) hT (qe_B1 (qp_clli__ok h5) qe_B0) rfl
def F_M_rootOf (v1 : Int64) (m : qm_M) : Option qm_R := X_M_rootOf_e F_M_levelOf F_M_square (L_M_rootOf_5 1000000) v1 m
theorem fj_M_rootOf {kp : pm_K} {d : Nat} (hT : qe_G kp d (T_M_rootOf F_M_levelOf F_M_square)) (v1 : Int64) (m : qm_M) : qe_J kp md_M_rootOf d (F_M_rootOf v1 m) 0 [(0, .ref 112), (1, .long v1)] [] m := xg_M_rootOf_e hT (lg_M_rootOf_5 hT 1000000) v1 m
theorem fg_M_rootOf {kp : pm_K} (d : Nat) : qe_GE kp (d + 4) (198, 0, 11, 2, qw_cl 112 F_M_rootOf) := qe_entry (by decide +kernel) (qw_cl_ok (d := d + 3) rfl rfl (fj_M_rootOf (qe_G1 (fg_M_levelOf (d + 2)) (qe_G1 (fg_M_square (d + 0)) qe_G0))))
/-! TurnFieldModel.times(JJ)J -/
noncomputable def T_M_times (f_M_product : Int64 → Int64 → qm_M → Option qm_R) : qe_T := [(192, 0, 11, 2, qw_cll 112 f_M_product)]
def X_M_times_e (f_M_product : Int64 → Int64 → qm_M → Option qm_R) (v1 : Int64) (v3 : Int64) (m : qm_M) : Option qm_R :=
  qe_rL (f_M_product v1 v3 m) fun x1 m1 =>
  some (some (.long x1), m1)
set_option maxRecDepth 100000 in
theorem xg_M_times_e {kp : pm_K} {d : Nat} {f_M_product : Int64 → Int64 → qm_M → Option qm_R} (hT : qe_G kp d (T_M_times f_M_product)) (v1 : Int64) (v3 : Int64) (m : qm_M) : qe_J kp md_M_times d (X_M_times_e f_M_product v1 v3 m) 0 [(0, .ref 112), (1, .long v1), (3, .long v3)] [] m := qe_run (B := []) (n := 1000) hT qe_B0 rfl
def F_M_times (v1 : Int64) (v3 : Int64) (m : qm_M) : Option qm_R := X_M_times_e F_M_product v1 v3 m
theorem fj_M_times {kp : pm_K} {d : Nat} (hT : qe_G kp d (T_M_times F_M_product)) (v1 : Int64) (v3 : Int64) (m : qm_M) : qe_J kp md_M_times d (F_M_times v1 v3 m) 0 [(0, .ref 112), (1, .long v1), (3, .long v3)] [] m := xg_M_times_e hT v1 v3 m
theorem fg_M_times {kp : pm_K} (d : Nat) : qe_GE kp (d + 3) (199, 0, 11, 2, qw_cll 112 F_M_times) := qe_entry (by decide +kernel) (qw_cll_ok (d := d + 2) rfl rfl (fj_M_times (qe_G1 (fg_M_product (d + 0)) qe_G0)))
/-! TurnFieldModel.inverse(J)J -/
noncomputable def T_M_inverse (f_M_inverseOf : Int64 → qm_M → Option qm_R) : qe_T := [(197, 0, 11, 2, qw_cl 112 f_M_inverseOf)]
def X_M_inverse_e (f_M_inverseOf : Int64 → qm_M → Option qm_R) (v1 : Int64) (m : qm_M) : Option qm_R :=
  qe_rL (f_M_inverseOf v1 m) fun x1 m1 =>
  some (some (.long x1), m1)
set_option maxRecDepth 100000 in
theorem xg_M_inverse_e {kp : pm_K} {d : Nat} {f_M_inverseOf : Int64 → qm_M → Option qm_R} (hT : qe_G kp d (T_M_inverse f_M_inverseOf)) (v1 : Int64) (m : qm_M) : qe_J kp md_M_inverse d (X_M_inverse_e f_M_inverseOf v1 m) 0 [(0, .ref 112), (1, .long v1)] [] m := qe_run (B := []) (n := 1000) hT qe_B0 rfl
def F_M_inverse (v1 : Int64) (m : qm_M) : Option qm_R := X_M_inverse_e F_M_inverseOf v1 m
theorem fj_M_inverse {kp : pm_K} {d : Nat} (hT : qe_G kp d (T_M_inverse F_M_inverseOf)) (v1 : Int64) (m : qm_M) : qe_J kp md_M_inverse d (F_M_inverse v1 m) 0 [(0, .ref 112), (1, .long v1)] [] m := xg_M_inverse_e hT v1 m
theorem fg_M_inverse {kp : pm_K} (d : Nat) : qe_GE kp (d + 6) (200, 0, 11, 2, qw_cl 112 F_M_inverse) := qe_entry (by decide +kernel) (qw_cl_ok (d := d + 5) rfl rfl (fj_M_inverse (qe_G1 (fg_M_inverseOf (d + 0)) qe_G0)))
/-! TurnFieldModel.root(J)J -/
noncomputable def T_M_root (f_M_rootOf : Int64 → qm_M → Option qm_R) : qe_T := [(198, 0, 11, 2, qw_cl 112 f_M_rootOf)]
def X_M_root_e (f_M_rootOf : Int64 → qm_M → Option qm_R) (v1 : Int64) (m : qm_M) : Option qm_R :=
  qe_rL (f_M_rootOf v1 m) fun x1 m1 =>
  some (some (.long x1), m1)
set_option maxRecDepth 100000 in
theorem xg_M_root_e {kp : pm_K} {d : Nat} {f_M_rootOf : Int64 → qm_M → Option qm_R} (hT : qe_G kp d (T_M_root f_M_rootOf)) (v1 : Int64) (m : qm_M) : qe_J kp md_M_root d (X_M_root_e f_M_rootOf v1 m) 0 [(0, .ref 112), (1, .long v1)] [] m := qe_run (B := []) (n := 1000) hT qe_B0 rfl
def F_M_root (v1 : Int64) (m : qm_M) : Option qm_R := X_M_root_e F_M_rootOf v1 m
theorem fj_M_root {kp : pm_K} {d : Nat} (hT : qe_G kp d (T_M_root F_M_rootOf)) (v1 : Int64) (m : qm_M) : qe_J kp md_M_root d (F_M_root v1 m) 0 [(0, .ref 112), (1, .long v1)] [] m := xg_M_root_e hT v1 m
theorem fg_M_root {kp : pm_K} (d : Nat) : qe_GE kp (d + 5) (201, 0, 11, 2, qw_cl 112 F_M_root) := qe_entry (by decide +kernel) (qw_cl_ok (d := d + 4) rfl rfl (fj_M_root (qe_G1 (fg_M_rootOf (d + 0)) qe_G0)))
/-! TurnFieldModel.power(JJ)J -/
noncomputable def T_M_power (f_M_powerOf : Int64 → Int64 → qm_M → Option qm_R) (f_M_inverseOf : Int64 → qm_M → Option qm_R) : qe_T := [(194, 0, 11, 2, qw_cll 112 f_M_powerOf), (197, 0, 11, 2, qw_cl 112 f_M_inverseOf)]
def X_M_power_e (f_M_powerOf : Int64 → Int64 → qm_M → Option qm_R) (f_M_inverseOf : Int64 → qm_M → Option qm_R) (v1 : Int64) (v3 : Int64) (m : qm_M) : Option qm_R :=
  if (lg_cmp v3 (0 : Int64)) < 0 then
    qe_rL (f_M_powerOf v1 (-v3) m) fun x1 m1 =>
    qe_rL (f_M_inverseOf x1 m1) fun x2 m2 =>
    some (some (.long x2), m2)
  else
    qe_rL (f_M_powerOf v1 v3 m) fun x3 m3 =>
    some (some (.long x3), m3)
set_option maxRecDepth 100000 in
theorem xg_M_power_e {kp : pm_K} {d : Nat} {f_M_powerOf : Int64 → Int64 → qm_M → Option qm_R} {f_M_inverseOf : Int64 → qm_M → Option qm_R} (hT : qe_G kp d (T_M_power f_M_powerOf f_M_inverseOf)) (v1 : Int64) (v3 : Int64) (m : qm_M) : qe_J kp md_M_power d (X_M_power_e f_M_powerOf f_M_inverseOf v1 v3 m) 0 [(0, .ref 112), (1, .long v1), (3, .long v3)] [] m := qe_run (B := []) (n := 1000) hT qe_B0 rfl
def F_M_power (v1 : Int64) (v3 : Int64) (m : qm_M) : Option qm_R := X_M_power_e F_M_powerOf F_M_inverseOf v1 v3 m
theorem fj_M_power {kp : pm_K} {d : Nat} (hT : qe_G kp d (T_M_power F_M_powerOf F_M_inverseOf)) (v1 : Int64) (v3 : Int64) (m : qm_M) : qe_J kp md_M_power d (F_M_power v1 v3 m) 0 [(0, .ref 112), (1, .long v1), (3, .long v3)] [] m := xg_M_power_e hT v1 v3 m
theorem fg_M_power {kp : pm_K} (d : Nat) : qe_GE kp (d + 6) (202, 0, 11, 2, qw_cll 112 F_M_power) := qe_entry (by decide +kernel) (qw_cll_ok (d := d + 5) rfl rfl (fj_M_power (qe_G1 (fg_M_powerOf (d + 1)) (qe_G1 (fg_M_inverseOf (d + 0)) qe_G0))))
/-! TurnFieldModel.madeOf(I)J -/
noncomputable def T_M_madeOf (f_M_has : Int64 → Int32 → qm_M → Option qm_R) : qe_T := [(186, 1, 0, 1, qw_li f_M_has)]
def X_M_madeOf_5 (f_M_has : Int64 → Int32 → qm_M → Option qm_R) (l5 : Int32 → Int64 → Int32 → qm_M → Option qm_R) (v1 : Int32) (v2 : Int64) (v4 : Int32) (m : qm_M) : Option qm_R :=
  if v4 < (7 : Int32) then
    qe_rI (f_M_has (Int32.toInt64 v1) v4 m) fun x1 m1 =>
    if x1 = 0 then
      l5 v1 v2 (v4 + (1 : Int32)) m1
    else
      qe_b (qm_in v4 7) (
      let x2 : Int64 := (v2 * (m1.2 118 (Int32.toNatClampNeg v4)))
      l5 v1 x2 (v4 + (1 : Int32)) m1)
  else
    some (some (.long v2), m)
set_option maxRecDepth 100000 in
theorem xg_M_madeOf_5 {kp : pm_K} {d : Nat} {f_M_has : Int64 → Int32 → qm_M → Option qm_R} {l5 : Int32 → Int64 → Int32 → qm_M → Option qm_R} (hT : qe_G kp d (T_M_madeOf f_M_has)) (h5 : ∀ (v1 : Int32) (v2 : Int64) (v4 : Int32) (m : qm_M), qe_J kp md_M_madeOf d (l5 v1 v2 v4 m) 5 [(0, .ref 112), (1, .int v1), (2, .long v2), (4, .int v4)] [] m) (v1 : Int32) (v2 : Int64) (v4 : Int32) (m : qm_M) : qe_J kp md_M_madeOf d (X_M_madeOf_5 f_M_has l5 v1 v2 v4 m) 5 [(0, .ref 112), (1, .int v1), (2, .long v2), (4, .int v4)] [] m := qe_run (B := [(5, [0, 1, 2, 4], qp_cili_ 112 l5)]) (n := 1000) hT (qe_B1 (qp_cili__ok h5) qe_B0) rfl
def L_M_madeOf_5 : Nat → Int32 → Int64 → Int32 → qm_M → Option qm_R
  | 0, _, _, _, _ => none
  | n + 1, v1, v2, v4, m => X_M_madeOf_5 F_M_has (L_M_madeOf_5 n) v1 v2 v4 m
theorem lg_M_madeOf_5 {kp : pm_K} {d : Nat} (hT : qe_G kp d (T_M_madeOf F_M_has)) : ∀ (n : Nat) (v1 : Int32) (v2 : Int64) (v4 : Int32) (m : qm_M), qe_J kp md_M_madeOf d (L_M_madeOf_5 n v1 v2 v4 m) 5 [(0, .ref 112), (1, .int v1), (2, .long v2), (4, .int v4)] [] m
  | 0, v1, v2, v4, m => qe_none rfl
  | n + 1, v1, v2, v4, m => xg_M_madeOf_5 hT (lg_M_madeOf_5 hT n) v1 v2 v4 m
def X_M_madeOf_e (f_M_has : Int64 → Int32 → qm_M → Option qm_R) (l5 : Int32 → Int64 → Int32 → qm_M → Option qm_R) (v1 : Int32) (m : qm_M) : Option qm_R :=
  l5 v1 (1 : Int64) (0 : Int32) m
set_option maxRecDepth 100000 in
theorem xg_M_madeOf_e {kp : pm_K} {d : Nat} {f_M_has : Int64 → Int32 → qm_M → Option qm_R} {l5 : Int32 → Int64 → Int32 → qm_M → Option qm_R} (hT : qe_G kp d (T_M_madeOf f_M_has)) (h5 : ∀ (v1 : Int32) (v2 : Int64) (v4 : Int32) (m : qm_M), qe_J kp md_M_madeOf d (l5 v1 v2 v4 m) 5 [(0, .ref 112), (1, .int v1), (2, .long v2), (4, .int v4)] [] m) (v1 : Int32) (m : qm_M) : qe_J kp md_M_madeOf d (X_M_madeOf_e f_M_has l5 v1 m) 0 [(0, .ref 112), (1, .int v1)] [] m := qe_run (B := [(5, [0, 1, 2, 4], qp_cili_ 112 l5)]) (n := 1000) hT (qe_B1 (qp_cili__ok h5) qe_B0) rfl
def F_M_madeOf (v1 : Int32) (m : qm_M) : Option qm_R := X_M_madeOf_e F_M_has (L_M_madeOf_5 1000000) v1 m
theorem fj_M_madeOf {kp : pm_K} {d : Nat} (hT : qe_G kp d (T_M_madeOf F_M_has)) (v1 : Int32) (m : qm_M) : qe_J kp md_M_madeOf d (F_M_madeOf v1 m) 0 [(0, .ref 112), (1, .int v1)] [] m := xg_M_madeOf_e hT (lg_M_madeOf_5 hT 1000000) v1 m
theorem fg_M_madeOf {kp : pm_K} (d : Nat) : qe_GE kp (d + 2) (203, 0, 11, 2, qw_ci 112 F_M_madeOf) := qe_entry (by decide +kernel) (qw_ci_ok (d := d + 1) rfl rfl (fj_M_madeOf (qe_G1 (fg_M_has (d + 0)) qe_G0)))
/-! TurnFieldModel.order(J)J -/
noncomputable def T_M_order (f_M_madeOf : Int32 → qm_M → Option qm_R) (f_M_powerOf : Int64 → Int64 → qm_M → Option qm_R) : qe_T := [(203, 0, 11, 2, qw_ci 112 f_M_madeOf), (194, 0, 11, 2, qw_cll 112 f_M_powerOf)]
def X_M_order_14 (f_M_madeOf : Int32 → qm_M → Option qm_R) (f_M_powerOf : Int64 → Int64 → qm_M → Option qm_R) (l14 : Int64 → Int32 → Int32 → qm_M → Option qm_R) (v1 : Int64) (v3 : Int32) (v4 : Int32) (m : qm_M) : Option qm_R :=
  if v4 < (7 : Int32) then
    qe_rL (f_M_madeOf (v3 &&& ((qo_ishl (1 : Int32) v4) ^^^ (-1 : Int32))) m) fun x1 m1 =>
    qe_rL (f_M_powerOf v1 x1 m1) fun x2 m2 =>
    if (lg_cmp x2 (1 : Int64)) = 0 then
      let x3 : Int32 := (v3 &&& ((qo_ishl (1 : Int32) v4) ^^^ (-1 : Int32)))
      l14 v1 x3 (v4 + (1 : Int32)) m2
    else
      l14 v1 v3 (v4 + (1 : Int32)) m2
  else
    qe_rL (f_M_madeOf v3 m) fun x4 m3 =>
    some (some (.long x4), m3)
set_option maxRecDepth 100000 in
theorem xg_M_order_14 {kp : pm_K} {d : Nat} {f_M_madeOf : Int32 → qm_M → Option qm_R} {f_M_powerOf : Int64 → Int64 → qm_M → Option qm_R} {l14 : Int64 → Int32 → Int32 → qm_M → Option qm_R} (hT : qe_G kp d (T_M_order f_M_madeOf f_M_powerOf)) (h14 : ∀ (v1 : Int64) (v3 : Int32) (v4 : Int32) (m : qm_M), qe_J kp md_M_order d (l14 v1 v3 v4 m) 14 [(0, .ref 112), (1, .long v1), (3, .int v3), (4, .int v4)] [] m) (v1 : Int64) (v3 : Int32) (v4 : Int32) (m : qm_M) : qe_J kp md_M_order d (X_M_order_14 f_M_madeOf f_M_powerOf l14 v1 v3 v4 m) 14 [(0, .ref 112), (1, .long v1), (3, .int v3), (4, .int v4)] [] m := qe_run (B := [(14, [0, 1, 3, 4], qp_clii_ 112 l14)]) (n := 1000) hT (qe_B1 (qp_clii__ok h14) qe_B0) rfl
def L_M_order_14 : Nat → Int64 → Int32 → Int32 → qm_M → Option qm_R
  | 0, _, _, _, _ => none
  | n + 1, v1, v3, v4, m => X_M_order_14 F_M_madeOf F_M_powerOf (L_M_order_14 n) v1 v3 v4 m
theorem lg_M_order_14 {kp : pm_K} {d : Nat} (hT : qe_G kp d (T_M_order F_M_madeOf F_M_powerOf)) : ∀ (n : Nat) (v1 : Int64) (v3 : Int32) (v4 : Int32) (m : qm_M), qe_J kp md_M_order d (L_M_order_14 n v1 v3 v4 m) 14 [(0, .ref 112), (1, .long v1), (3, .int v3), (4, .int v4)] [] m
  | 0, v1, v3, v4, m => qe_none rfl
  | n + 1, v1, v3, v4, m => xg_M_order_14 hT (lg_M_order_14 hT n) v1 v3 v4 m
def X_M_order_e (f_M_madeOf : Int32 → qm_M → Option qm_R) (f_M_powerOf : Int64 → Int64 → qm_M → Option qm_R) (l14 : Int64 → Int32 → Int32 → qm_M → Option qm_R) (v1 : Int64) (m : qm_M) : Option qm_R :=
  if (lg_cmp v1 (0 : Int64)) = 0 then
    some (some (.long (0 : Int64)), m)
  else
    l14 v1 (127 : Int32) (0 : Int32) m
set_option maxRecDepth 100000 in
theorem xg_M_order_e {kp : pm_K} {d : Nat} {f_M_madeOf : Int32 → qm_M → Option qm_R} {f_M_powerOf : Int64 → Int64 → qm_M → Option qm_R} {l14 : Int64 → Int32 → Int32 → qm_M → Option qm_R} (hT : qe_G kp d (T_M_order f_M_madeOf f_M_powerOf)) (h14 : ∀ (v1 : Int64) (v3 : Int32) (v4 : Int32) (m : qm_M), qe_J kp md_M_order d (l14 v1 v3 v4 m) 14 [(0, .ref 112), (1, .long v1), (3, .int v3), (4, .int v4)] [] m) (v1 : Int64) (m : qm_M) : qe_J kp md_M_order d (X_M_order_e f_M_madeOf f_M_powerOf l14 v1 m) 0 [(0, .ref 112), (1, .long v1)] [] m := qe_run (B := [(14, [0, 1, 3, 4], qp_clii_ 112 l14)]) (n := 1000) hT (qe_B1 (qp_clii__ok h14) qe_B0) rfl
def F_M_order (v1 : Int64) (m : qm_M) : Option qm_R := X_M_order_e F_M_madeOf F_M_powerOf (L_M_order_14 1000000) v1 m
theorem fj_M_order {kp : pm_K} {d : Nat} (hT : qe_G kp d (T_M_order F_M_madeOf F_M_powerOf)) (v1 : Int64) (m : qm_M) : qe_J kp md_M_order d (F_M_order v1 m) 0 [(0, .ref 112), (1, .long v1)] [] m := xg_M_order_e hT (lg_M_order_14 hT 1000000) v1 m
theorem fg_M_order {kp : pm_K} (d : Nat) : qe_GE kp (d + 5) (204, 0, 11, 2, qw_cl 112 F_M_order) := qe_entry (by decide +kernel) (qw_cl_ok (d := d + 4) rfl rfl (fj_M_order (qe_G1 (fg_M_madeOf (d + 2)) (qe_G1 (fg_M_powerOf (d + 0)) qe_G0))))
/-! TurnFieldModel.degreeOf(J)I -/
noncomputable def T_M_degreeOf_JI (f_M_square : Int64 → qm_M → Option qm_R) : qe_T := [(193, 0, 11, 2, qw_cl 112 f_M_square)]
def X_M_degreeOf_JI_9 (f_M_square : Int64 → qm_M → Option qm_R) (l9 : Int64 → Int32 → Int64 → qm_M → Option qm_R) (v1 : Int64) (v3 : Int32) (v4 : Int64) (m : qm_M) : Option qm_R :=
  if (lg_cmp v4 v1) = 0 then
    some (some (.int v3), m)
  else
    qe_rL (f_M_square v4 m) fun x1 m1 =>
    l9 v1 (v3 + (1 : Int32)) x1 m1
set_option maxRecDepth 100000 in
theorem xg_M_degreeOf_JI_9 {kp : pm_K} {d : Nat} {f_M_square : Int64 → qm_M → Option qm_R} {l9 : Int64 → Int32 → Int64 → qm_M → Option qm_R} (hT : qe_G kp d (T_M_degreeOf_JI f_M_square)) (h9 : ∀ (v1 : Int64) (v3 : Int32) (v4 : Int64) (m : qm_M), qe_J kp md_M_degreeOf_JI d (l9 v1 v3 v4 m) 9 [(0, .ref 112), (1, .long v1), (3, .int v3), (4, .long v4)] [] m) (v1 : Int64) (v3 : Int32) (v4 : Int64) (m : qm_M) : qe_J kp md_M_degreeOf_JI d (X_M_degreeOf_JI_9 f_M_square l9 v1 v3 v4 m) 9 [(0, .ref 112), (1, .long v1), (3, .int v3), (4, .long v4)] [] m := qe_run (B := [(9, [0, 1, 3, 4], qp_clil_ 112 l9)]) (n := 1000) hT (qe_B1 (qp_clil__ok h9) qe_B0) rfl
def L_M_degreeOf_JI_9 : Nat → Int64 → Int32 → Int64 → qm_M → Option qm_R
  | 0, _, _, _, _ => none
  | n + 1, v1, v3, v4, m => X_M_degreeOf_JI_9 F_M_square (L_M_degreeOf_JI_9 n) v1 v3 v4 m
theorem lg_M_degreeOf_JI_9 {kp : pm_K} {d : Nat} (hT : qe_G kp d (T_M_degreeOf_JI F_M_square)) : ∀ (n : Nat) (v1 : Int64) (v3 : Int32) (v4 : Int64) (m : qm_M), qe_J kp md_M_degreeOf_JI d (L_M_degreeOf_JI_9 n v1 v3 v4 m) 9 [(0, .ref 112), (1, .long v1), (3, .int v3), (4, .long v4)] [] m
  | 0, v1, v3, v4, m => qe_none rfl
  | n + 1, v1, v3, v4, m => xg_M_degreeOf_JI_9 hT (lg_M_degreeOf_JI_9 hT n) v1 v3 v4 m
def X_M_degreeOf_JI_e (f_M_square : Int64 → qm_M → Option qm_R) (l9 : Int64 → Int32 → Int64 → qm_M → Option qm_R) (v1 : Int64) (m : qm_M) : Option qm_R :=
  qe_rL (f_M_square v1 m) fun x1 m1 =>
  l9 v1 (1 : Int32) x1 m1
set_option maxRecDepth 100000 in
theorem xg_M_degreeOf_JI_e {kp : pm_K} {d : Nat} {f_M_square : Int64 → qm_M → Option qm_R} {l9 : Int64 → Int32 → Int64 → qm_M → Option qm_R} (hT : qe_G kp d (T_M_degreeOf_JI f_M_square)) (h9 : ∀ (v1 : Int64) (v3 : Int32) (v4 : Int64) (m : qm_M), qe_J kp md_M_degreeOf_JI d (l9 v1 v3 v4 m) 9 [(0, .ref 112), (1, .long v1), (3, .int v3), (4, .long v4)] [] m) (v1 : Int64) (m : qm_M) : qe_J kp md_M_degreeOf_JI d (X_M_degreeOf_JI_e f_M_square l9 v1 m) 0 [(0, .ref 112), (1, .long v1)] [] m := qe_run (B := [(9, [0, 1, 3, 4], qp_clil_ 112 l9)]) (n := 1000) hT (qe_B1 (qp_clil__ok h9) qe_B0) rfl
def F_M_degreeOf_JI (v1 : Int64) (m : qm_M) : Option qm_R := X_M_degreeOf_JI_e F_M_square (L_M_degreeOf_JI_9 1000000) v1 m
theorem fj_M_degreeOf_JI {kp : pm_K} {d : Nat} (hT : qe_G kp d (T_M_degreeOf_JI F_M_square)) (v1 : Int64) (m : qm_M) : qe_J kp md_M_degreeOf_JI d (F_M_degreeOf_JI v1 m) 0 [(0, .ref 112), (1, .long v1)] [] m := xg_M_degreeOf_JI_e hT (lg_M_degreeOf_JI_9 hT 1000000) v1 m
theorem fg_M_degreeOf_JI {kp : pm_K} (d : Nat) : qe_GE kp (d + 4) (205, 0, 11, 1, qw_cl 112 F_M_degreeOf_JI) := qe_entry (by decide +kernel) (qw_cl_ok (d := d + 3) rfl rfl (fj_M_degreeOf_JI (qe_G1 (fg_M_square (d + 0)) qe_G0)))
/-! TurnFieldModel.level(JI)I -/
noncomputable def T_M_level (f_M_levelOf : Int64 → qm_M → Option qm_R) (f_M_degreeOf_JI : Int64 → qm_M → Option qm_R) : qe_T := [(195, 1, 0, 1, qw_l f_M_levelOf), (205, 0, 11, 1, qw_cl 112 f_M_degreeOf_JI)]
def X_M_level_e (f_M_levelOf : Int64 → qm_M → Option qm_R) (f_M_degreeOf_JI : Int64 → qm_M → Option qm_R) (v1 : Int64) (v3 : Int32) (m : qm_M) : Option qm_R :=
  if v3 = 0 then
    qe_rI (f_M_levelOf v1 m) fun x1 m1 =>
    some (some (.int x1), m1)
  else
    if v3 = (1 : Int32) then
      qe_rI (f_M_degreeOf_JI v1 m) fun x2 m2 =>
      some (some (.int x2), m2)
    else
      some (some (.int (-1 : Int32)), m)
set_option maxRecDepth 100000 in
theorem xg_M_level_e {kp : pm_K} {d : Nat} {f_M_levelOf : Int64 → qm_M → Option qm_R} {f_M_degreeOf_JI : Int64 → qm_M → Option qm_R} (hT : qe_G kp d (T_M_level f_M_levelOf f_M_degreeOf_JI)) (v1 : Int64) (v3 : Int32) (m : qm_M) : qe_J kp md_M_level d (X_M_level_e f_M_levelOf f_M_degreeOf_JI v1 v3 m) 0 [(0, .ref 112), (1, .long v1), (3, .int v3)] [] m := qe_run (B := []) (n := 1000) hT qe_B0 rfl
def F_M_level (v1 : Int64) (v3 : Int32) (m : qm_M) : Option qm_R := X_M_level_e F_M_levelOf F_M_degreeOf_JI v1 v3 m
theorem fj_M_level {kp : pm_K} {d : Nat} (hT : qe_G kp d (T_M_level F_M_levelOf F_M_degreeOf_JI)) (v1 : Int64) (v3 : Int32) (m : qm_M) : qe_J kp md_M_level d (F_M_level v1 v3 m) 0 [(0, .ref 112), (1, .long v1), (3, .int v3)] [] m := xg_M_level_e hT v1 v3 m
theorem fg_M_level {kp : pm_K} (d : Nat) : qe_GE kp (d + 5) (206, 0, 11, 1, qw_cli 112 F_M_level) := qe_entry (by decide +kernel) (qw_cli_ok (d := d + 4) rfl rfl (fj_M_level (qe_G1 (fg_M_levelOf (d + 3)) (qe_G1 (fg_M_degreeOf_JI (d + 0)) qe_G0))))
/-! TurnFieldModel.least(J)J -/
noncomputable def T_M_least (f_M_degreeOf_JI : Int64 → qm_M → Option qm_R) (f_M_square : Int64 → qm_M → Option qm_R) (f_M_product : Int64 → Int64 → qm_M → Option qm_R) : qe_T := [(205, 0, 11, 1, qw_cl 112 f_M_degreeOf_JI), (193, 0, 11, 2, qw_cl 112 f_M_square), (192, 0, 11, 2, qw_cll 112 f_M_product)]
def X_M_least_126 (f_M_degreeOf_JI : Int64 → qm_M → Option qm_R) (f_M_square : Int64 → qm_M → Option qm_R) (f_M_product : Int64 → Int64 → qm_M → Option qm_R) (l126 : Int32 → Int64 → Int32 → qm_M → Option qm_R) (v3 : Int32) (v6 : Int64) (v8 : Int32) (m : qm_M) : Option qm_R :=
  if v8 < v3 then
    qe_b (qm_in v8 66) (
    let x1 : Int64 := (v6 ||| (qo_lshl ((m.2 119 (Int32.toNatClampNeg v8)) &&& (1 : Int64)) v8))
    l126 v3 x1 (v8 + (1 : Int32)) m)
  else
    some (some (.long v6), m)
set_option maxRecDepth 100000 in
theorem xg_M_least_126 {kp : pm_K} {d : Nat} {f_M_degreeOf_JI : Int64 → qm_M → Option qm_R} {f_M_square : Int64 → qm_M → Option qm_R} {f_M_product : Int64 → Int64 → qm_M → Option qm_R} {l126 : Int32 → Int64 → Int32 → qm_M → Option qm_R} (hT : qe_G kp d (T_M_least f_M_degreeOf_JI f_M_square f_M_product)) (h126 : ∀ (v3 : Int32) (v6 : Int64) (v8 : Int32) (m : qm_M), qe_J kp md_M_least d (l126 v3 v6 v8 m) 126 [(0, .ref 112), (3, .int v3), (6, .long v6), (8, .int v8)] [] m) (v3 : Int32) (v6 : Int64) (v8 : Int32) (m : qm_M) : qe_J kp md_M_least d (X_M_least_126 f_M_degreeOf_JI f_M_square f_M_product l126 v3 v6 v8 m) 126 [(0, .ref 112), (3, .int v3), (6, .long v6), (8, .int v8)] [] m := qe_run (B := [(126, [0, 3, 6, 8], qp_cili_ 112 l126)]) (n := 1000) hT (qe_B1 (qp_cili__ok h126) qe_B0) rfl
def L_M_least_126 : Nat → Int32 → Int64 → Int32 → qm_M → Option qm_R
  | 0, _, _, _, _ => none
  | n + 1, v3, v6, v8, m => X_M_least_126 F_M_degreeOf_JI F_M_square F_M_product (L_M_least_126 n) v3 v6 v8 m
theorem lg_M_least_126 {kp : pm_K} {d : Nat} (hT : qe_G kp d (T_M_least F_M_degreeOf_JI F_M_square F_M_product)) : ∀ (n : Nat) (v3 : Int32) (v6 : Int64) (v8 : Int32) (m : qm_M), qe_J kp md_M_least d (L_M_least_126 n v3 v6 v8 m) 126 [(0, .ref 112), (3, .int v3), (6, .long v6), (8, .int v8)] [] m
  | 0, v3, v6, v8, m => qe_none rfl
  | n + 1, v3, v6, v8, m => xg_M_least_126 hT (lg_M_least_126 hT n) v3 v6 v8 m
def X_M_least_85 (f_M_degreeOf_JI : Int64 → qm_M → Option qm_R) (f_M_square : Int64 → qm_M → Option qm_R) (f_M_product : Int64 → Int64 → qm_M → Option qm_R) (l56 : Int32 → Int64 → Int32 → Int32 → qm_M → Option qm_R) (v3 : Int32) (v4 : Int64) (v6 : Int32) (v7 : Int32) (s0 : Int64) (s1 : Int32) (m : qm_M) : Option qm_R :=
  qe_b (qm_in v7 66) (
  qe_rL (f_M_product v4 (m.2 119 (Int32.toNatClampNeg v7)) m) fun x1 m1 =>
  qe_b (qm_in s1 66) (
  let m2 : qm_M := qm_sL m1 119 (Int32.toNatClampNeg s1) (s0 ^^^ x1)
  l56 v3 v4 v6 (v7 + (-1 : Int32)) m2))
set_option maxRecDepth 100000 in
theorem xg_M_least_85 {kp : pm_K} {d : Nat} {f_M_degreeOf_JI : Int64 → qm_M → Option qm_R} {f_M_square : Int64 → qm_M → Option qm_R} {f_M_product : Int64 → Int64 → qm_M → Option qm_R} {l56 : Int32 → Int64 → Int32 → Int32 → qm_M → Option qm_R} (hT : qe_G kp d (T_M_least f_M_degreeOf_JI f_M_square f_M_product)) (h56 : ∀ (v3 : Int32) (v4 : Int64) (v6 : Int32) (v7 : Int32) (m : qm_M), qe_J kp md_M_least d (l56 v3 v4 v6 v7 m) 56 [(0, .ref 112), (3, .int v3), (4, .long v4), (6, .int v6), (7, .int v7)] [] m) (v3 : Int32) (v4 : Int64) (v6 : Int32) (v7 : Int32) (s0 : Int64) (s1 : Int32) (m : qm_M) : qe_J kp md_M_least d (X_M_least_85 f_M_degreeOf_JI f_M_square f_M_product l56 v3 v4 v6 v7 s0 s1 m) 85 [(0, .ref 112), (3, .int v3), (4, .long v4), (6, .int v6), (7, .int v7)] [.long s0, .int s1, .ref 119] m := qe_run (B := [(56, [0, 3, 4, 6, 7], qp_cilii_ 112 l56)]) (n := 1000) hT (qe_B1 (qp_cilii__ok h56) qe_B0) rfl
def L_M_least_85 (K44 : Int32 → Int64 → Int32 → qm_M → Option qm_R) (K56 : Int32 → Int64 → Int32 → Int32 → qm_M → Option qm_R) (v3 : Int32) (v4 : Int64) (v6 : Int32) (v7 : Int32) (s0 : Int64) (s1 : Int32) (m : qm_M) : Option qm_R := X_M_least_85 F_M_degreeOf_JI F_M_square F_M_product K56 v3 v4 v6 v7 s0 s1 m
theorem lg_M_least_85 {kp : pm_K} {d : Nat} (hT : qe_G kp d (T_M_least F_M_degreeOf_JI F_M_square F_M_product)) {K44 : Int32 → Int64 → Int32 → qm_M → Option qm_R} (hK44 : ∀ (v3 : Int32) (v4 : Int64) (v6 : Int32) (m : qm_M), qe_J kp md_M_least d (K44 v3 v4 v6 m) 44 [(0, .ref 112), (3, .int v3), (4, .long v4), (6, .int v6)] [] m) {K56 : Int32 → Int64 → Int32 → Int32 → qm_M → Option qm_R} (hK56 : ∀ (v3 : Int32) (v4 : Int64) (v6 : Int32) (v7 : Int32) (m : qm_M), qe_J kp md_M_least d (K56 v3 v4 v6 v7 m) 56 [(0, .ref 112), (3, .int v3), (4, .long v4), (6, .int v6), (7, .int v7)] [] m) (v3 : Int32) (v4 : Int64) (v6 : Int32) (v7 : Int32) (s0 : Int64) (s1 : Int32) (m : qm_M) : qe_J kp md_M_least d (L_M_least_85 K44 K56 v3 v4 v6 v7 s0 s1 m) 85 [(0, .ref 112), (3, .int v3), (4, .long v4), (6, .int v6), (7, .int v7)] [.long s0, .int s1, .ref 119] m := xg_M_least_85 hT hK56 v3 v4 v6 v7 s0 s1 m
def X_M_least_56 (f_M_degreeOf_JI : Int64 → qm_M → Option qm_R) (f_M_square : Int64 → qm_M → Option qm_R) (f_M_product : Int64 → Int64 → qm_M → Option qm_R) (l44 : Int32 → Int64 → Int32 → qm_M → Option qm_R) (l85 : Int32 → Int64 → Int32 → Int32 → Int64 → Int32 → qm_M → Option qm_R) (v3 : Int32) (v4 : Int64) (v6 : Int32) (v7 : Int32) (m : qm_M) : Option qm_R :=
  if v7 < 0 then
    qe_rL (f_M_square v4 m) fun x1 m1 =>
    l44 v3 x1 (v6 + (1 : Int32)) m1
  else
    if 0 < v7 then
      qe_b (qm_in (v7 - (1 : Int32)) 66) (
      l85 v3 v4 v6 v7 (m.2 119 (Int32.toNatClampNeg (v7 - (1 : Int32)))) v7 m)
    else
      l85 v3 v4 v6 v7 (0 : Int64) v7 m
set_option maxRecDepth 100000 in
theorem xg_M_least_56 {kp : pm_K} {d : Nat} {f_M_degreeOf_JI : Int64 → qm_M → Option qm_R} {f_M_square : Int64 → qm_M → Option qm_R} {f_M_product : Int64 → Int64 → qm_M → Option qm_R} {l44 : Int32 → Int64 → Int32 → qm_M → Option qm_R} {l85 : Int32 → Int64 → Int32 → Int32 → Int64 → Int32 → qm_M → Option qm_R} (hT : qe_G kp d (T_M_least f_M_degreeOf_JI f_M_square f_M_product)) (h44 : ∀ (v3 : Int32) (v4 : Int64) (v6 : Int32) (m : qm_M), qe_J kp md_M_least d (l44 v3 v4 v6 m) 44 [(0, .ref 112), (3, .int v3), (4, .long v4), (6, .int v6)] [] m) (h85 : ∀ (v3 : Int32) (v4 : Int64) (v6 : Int32) (v7 : Int32) (s0 : Int64) (s1 : Int32) (m : qm_M), qe_J kp md_M_least d (l85 v3 v4 v6 v7 s0 s1 m) 85 [(0, .ref 112), (3, .int v3), (4, .long v4), (6, .int v6), (7, .int v7)] [.long s0, .int s1, .ref 119] m) (v3 : Int32) (v4 : Int64) (v6 : Int32) (v7 : Int32) (m : qm_M) : qe_J kp md_M_least d (X_M_least_56 f_M_degreeOf_JI f_M_square f_M_product l44 l85 v3 v4 v6 v7 m) 56 [(0, .ref 112), (3, .int v3), (4, .long v4), (6, .int v6), (7, .int v7)] [] m := qe_run (B := [(44, [0, 3, 4, 6], qp_cili_ 112 l44), (85, [0, 3, 4, 6, 7], qp_cilii_lic 112 119 l85)]) (n := 1000) hT (qe_B1 (qp_cili__ok h44) (qe_B1 (qp_cilii_lic_ok h85) qe_B0)) rfl
def L_M_least_56 (K44 : Int32 → Int64 → Int32 → qm_M → Option qm_R) : Nat → Int32 → Int64 → Int32 → Int32 → qm_M → Option qm_R
  | 0, _, _, _, _, _ => none
  | n + 1, v3, v4, v6, v7, m => X_M_least_56 F_M_degreeOf_JI F_M_square F_M_product K44 (L_M_least_85 K44 (L_M_least_56 K44 n)) v3 v4 v6 v7 m
theorem lg_M_least_56 {kp : pm_K} {d : Nat} (hT : qe_G kp d (T_M_least F_M_degreeOf_JI F_M_square F_M_product)) {K44 : Int32 → Int64 → Int32 → qm_M → Option qm_R} (hK44 : ∀ (v3 : Int32) (v4 : Int64) (v6 : Int32) (m : qm_M), qe_J kp md_M_least d (K44 v3 v4 v6 m) 44 [(0, .ref 112), (3, .int v3), (4, .long v4), (6, .int v6)] [] m) : ∀ (n : Nat) (v3 : Int32) (v4 : Int64) (v6 : Int32) (v7 : Int32) (m : qm_M), qe_J kp md_M_least d (L_M_least_56 K44 n v3 v4 v6 v7 m) 56 [(0, .ref 112), (3, .int v3), (4, .long v4), (6, .int v6), (7, .int v7)] [] m
  | 0, v3, v4, v6, v7, m => qe_none rfl
  | n + 1, v3, v4, v6, v7, m => xg_M_least_56 hT hK44 (lg_M_least_85 hT hK44 (lg_M_least_56 hT hK44 n)) v3 v4 v6 v7 m
def X_M_least_44 (f_M_degreeOf_JI : Int64 → qm_M → Option qm_R) (f_M_square : Int64 → qm_M → Option qm_R) (f_M_product : Int64 → Int64 → qm_M → Option qm_R) (l56 : Int32 → Int64 → Int32 → Int32 → qm_M → Option qm_R) (l126 : Int32 → Int64 → Int32 → qm_M → Option qm_R) (v3 : Int32) (v4 : Int64) (v6 : Int32) (m : qm_M) : Option qm_R :=
  if v6 < v3 then
    l56 v3 v4 v6 (v6 + (1 : Int32)) m
  else
    l126 v3 (0 : Int64) (0 : Int32) m
set_option maxRecDepth 100000 in
theorem xg_M_least_44 {kp : pm_K} {d : Nat} {f_M_degreeOf_JI : Int64 → qm_M → Option qm_R} {f_M_square : Int64 → qm_M → Option qm_R} {f_M_product : Int64 → Int64 → qm_M → Option qm_R} {l56 : Int32 → Int64 → Int32 → Int32 → qm_M → Option qm_R} {l126 : Int32 → Int64 → Int32 → qm_M → Option qm_R} (hT : qe_G kp d (T_M_least f_M_degreeOf_JI f_M_square f_M_product)) (h56 : ∀ (v3 : Int32) (v4 : Int64) (v6 : Int32) (v7 : Int32) (m : qm_M), qe_J kp md_M_least d (l56 v3 v4 v6 v7 m) 56 [(0, .ref 112), (3, .int v3), (4, .long v4), (6, .int v6), (7, .int v7)] [] m) (h126 : ∀ (v3 : Int32) (v6 : Int64) (v8 : Int32) (m : qm_M), qe_J kp md_M_least d (l126 v3 v6 v8 m) 126 [(0, .ref 112), (3, .int v3), (6, .long v6), (8, .int v8)] [] m) (v3 : Int32) (v4 : Int64) (v6 : Int32) (m : qm_M) : qe_J kp md_M_least d (X_M_least_44 f_M_degreeOf_JI f_M_square f_M_product l56 l126 v3 v4 v6 m) 44 [(0, .ref 112), (3, .int v3), (4, .long v4), (6, .int v6)] [] m := qe_run (B := [(56, [0, 3, 4, 6, 7], qp_cilii_ 112 l56), (126, [0, 3, 6, 8], qp_cili_ 112 l126)]) (n := 1000) hT (qe_B1 (qp_cilii__ok h56) (qe_B1 (qp_cili__ok h126) qe_B0)) rfl
def L_M_least_44 : Nat → Int32 → Int64 → Int32 → qm_M → Option qm_R
  | 0, _, _, _, _ => none
  | n + 1, v3, v4, v6, m => X_M_least_44 F_M_degreeOf_JI F_M_square F_M_product (L_M_least_56 (L_M_least_44 n) 1000000) (L_M_least_126 1000000) v3 v4 v6 m
theorem lg_M_least_44 {kp : pm_K} {d : Nat} (hT : qe_G kp d (T_M_least F_M_degreeOf_JI F_M_square F_M_product)) : ∀ (n : Nat) (v3 : Int32) (v4 : Int64) (v6 : Int32) (m : qm_M), qe_J kp md_M_least d (L_M_least_44 n v3 v4 v6 m) 44 [(0, .ref 112), (3, .int v3), (4, .long v4), (6, .int v6)] [] m
  | 0, v3, v4, v6, m => qe_none rfl
  | n + 1, v3, v4, v6, m => xg_M_least_44 hT (lg_M_least_56 hT (lg_M_least_44 hT n) 1000000) (lg_M_least_126 hT 1000000) v3 v4 v6 m
def X_M_least_9 (f_M_degreeOf_JI : Int64 → qm_M → Option qm_R) (f_M_square : Int64 → qm_M → Option qm_R) (f_M_product : Int64 → Int64 → qm_M → Option qm_R) (l9 : Int64 → Int32 → Int32 → qm_M → Option qm_R) (l44 : Int32 → Int64 → Int32 → qm_M → Option qm_R) (v1 : Int64) (v3 : Int32) (v4 : Int32) (m : qm_M) : Option qm_R :=
  if v3 < v4 then
    l44 v3 v1 (0 : Int32) m
  else
    if v4 = 0 then
      qe_b (qm_in v4 66) (
      let m1 : qm_M := qm_sL m 119 (Int32.toNatClampNeg v4) (1 : Int64)
      l9 v1 v3 (v4 + (1 : Int32)) m1)
    else
      qe_b (qm_in v4 66) (
      let m2 : qm_M := qm_sL m 119 (Int32.toNatClampNeg v4) (0 : Int64)
      l9 v1 v3 (v4 + (1 : Int32)) m2)
set_option maxRecDepth 100000 in
theorem xg_M_least_9 {kp : pm_K} {d : Nat} {f_M_degreeOf_JI : Int64 → qm_M → Option qm_R} {f_M_square : Int64 → qm_M → Option qm_R} {f_M_product : Int64 → Int64 → qm_M → Option qm_R} {l9 : Int64 → Int32 → Int32 → qm_M → Option qm_R} {l44 : Int32 → Int64 → Int32 → qm_M → Option qm_R} (hT : qe_G kp d (T_M_least f_M_degreeOf_JI f_M_square f_M_product)) (h9 : ∀ (v1 : Int64) (v3 : Int32) (v4 : Int32) (m : qm_M), qe_J kp md_M_least d (l9 v1 v3 v4 m) 9 [(0, .ref 112), (1, .long v1), (3, .int v3), (4, .int v4)] [] m) (h44 : ∀ (v3 : Int32) (v4 : Int64) (v6 : Int32) (m : qm_M), qe_J kp md_M_least d (l44 v3 v4 v6 m) 44 [(0, .ref 112), (3, .int v3), (4, .long v4), (6, .int v6)] [] m) (v1 : Int64) (v3 : Int32) (v4 : Int32) (m : qm_M) : qe_J kp md_M_least d (X_M_least_9 f_M_degreeOf_JI f_M_square f_M_product l9 l44 v1 v3 v4 m) 9 [(0, .ref 112), (1, .long v1), (3, .int v3), (4, .int v4)] [] m := qe_run (B := [(9, [0, 1, 3, 4], qp_clii_ 112 l9), (44, [0, 3, 4, 6], qp_cili_ 112 l44)]) (n := 1000) hT (qe_B1 (qp_clii__ok h9) (qe_B1 (qp_cili__ok h44) qe_B0)) rfl
def L_M_least_9 : Nat → Int64 → Int32 → Int32 → qm_M → Option qm_R
  | 0, _, _, _, _ => none
  | n + 1, v1, v3, v4, m => X_M_least_9 F_M_degreeOf_JI F_M_square F_M_product (L_M_least_9 n) (L_M_least_44 1000000) v1 v3 v4 m
theorem lg_M_least_9 {kp : pm_K} {d : Nat} (hT : qe_G kp d (T_M_least F_M_degreeOf_JI F_M_square F_M_product)) : ∀ (n : Nat) (v1 : Int64) (v3 : Int32) (v4 : Int32) (m : qm_M), qe_J kp md_M_least d (L_M_least_9 n v1 v3 v4 m) 9 [(0, .ref 112), (1, .long v1), (3, .int v3), (4, .int v4)] [] m
  | 0, v1, v3, v4, m => qe_none rfl
  | n + 1, v1, v3, v4, m => xg_M_least_9 hT (lg_M_least_9 hT n) (lg_M_least_44 hT 1000000) v1 v3 v4 m
def X_M_least_e (f_M_degreeOf_JI : Int64 → qm_M → Option qm_R) (f_M_square : Int64 → qm_M → Option qm_R) (f_M_product : Int64 → Int64 → qm_M → Option qm_R) (l9 : Int64 → Int32 → Int32 → qm_M → Option qm_R) (v1 : Int64) (m : qm_M) : Option qm_R :=
  qe_rI (f_M_degreeOf_JI v1 m) fun x1 m1 =>
  l9 v1 x1 (0 : Int32) m1
set_option maxRecDepth 100000 in
theorem xg_M_least_e {kp : pm_K} {d : Nat} {f_M_degreeOf_JI : Int64 → qm_M → Option qm_R} {f_M_square : Int64 → qm_M → Option qm_R} {f_M_product : Int64 → Int64 → qm_M → Option qm_R} {l9 : Int64 → Int32 → Int32 → qm_M → Option qm_R} (hT : qe_G kp d (T_M_least f_M_degreeOf_JI f_M_square f_M_product)) (h9 : ∀ (v1 : Int64) (v3 : Int32) (v4 : Int32) (m : qm_M), qe_J kp md_M_least d (l9 v1 v3 v4 m) 9 [(0, .ref 112), (1, .long v1), (3, .int v3), (4, .int v4)] [] m) (v1 : Int64) (m : qm_M) : qe_J kp md_M_least d (X_M_least_e f_M_degreeOf_JI f_M_square f_M_product l9 v1 m) 0 [(0, .ref 112), (1, .long v1)] [] m := qe_run (B := [(9, [0, 1, 3, 4], qp_clii_ 112 l9)]) (n := 1000) hT (qe_B1 (qp_clii__ok h9) qe_B0) rfl
def F_M_least (v1 : Int64) (m : qm_M) : Option qm_R := X_M_least_e F_M_degreeOf_JI F_M_square F_M_product (L_M_least_9 1000000) v1 m
theorem fj_M_least {kp : pm_K} {d : Nat} (hT : qe_G kp d (T_M_least F_M_degreeOf_JI F_M_square F_M_product)) (v1 : Int64) (m : qm_M) : qe_J kp md_M_least d (F_M_least v1 m) 0 [(0, .ref 112), (1, .long v1)] [] m := xg_M_least_e hT (lg_M_least_9 hT 1000000) v1 m
theorem fg_M_least {kp : pm_K} (d : Nat) : qe_GE kp (d + 5) (207, 0, 11, 2, qw_cl 112 F_M_least) := qe_entry (by decide +kernel) (qw_cl_ok (d := d + 4) rfl rfl (fj_M_least (qe_G1 (fg_M_degreeOf_JI (d + 0)) (qe_G1 (fg_M_square (d + 1)) (qe_G1 (fg_M_product (d + 2)) qe_G0)))))
/-! TurnFieldModel.trace(JI)I -/
noncomputable def T_M_trace (f_M_isIn : Int64 → Int64 → Int64 → qm_M → Option qm_R) (f_M_levelOf : Int64 → qm_M → Option qm_R) (f_M_square : Int64 → qm_M → Option qm_R) : qe_T := [(185, 1, 0, 1, qw_lll f_M_isIn), (195, 1, 0, 1, qw_l f_M_levelOf), (193, 0, 11, 2, qw_cl 112 f_M_square)]
def X_M_trace_31 (f_M_isIn : Int64 → Int64 → Int64 → qm_M → Option qm_R) (f_M_levelOf : Int64 → qm_M → Option qm_R) (f_M_square : Int64 → qm_M → Option qm_R) (l31 : Int32 → Int64 → Int64 → Int32 → qm_M → Option qm_R) (v3 : Int32) (v4 : Int64) (v6 : Int64) (v8 : Int32) (m : qm_M) : Option qm_R :=
  if v8 < (qo_ishl (1 : Int32) v3) then
    qe_rL (f_M_square v6 m) fun x1 m1 =>
    l31 v3 (v4 ^^^ v6) x1 (v8 + (1 : Int32)) m1
  else
    some (some (.int (Int64.toInt32 v4)), m)
set_option maxRecDepth 100000 in
theorem xg_M_trace_31 {kp : pm_K} {d : Nat} {f_M_isIn : Int64 → Int64 → Int64 → qm_M → Option qm_R} {f_M_levelOf : Int64 → qm_M → Option qm_R} {f_M_square : Int64 → qm_M → Option qm_R} {l31 : Int32 → Int64 → Int64 → Int32 → qm_M → Option qm_R} (hT : qe_G kp d (T_M_trace f_M_isIn f_M_levelOf f_M_square)) (h31 : ∀ (v3 : Int32) (v4 : Int64) (v6 : Int64) (v8 : Int32) (m : qm_M), qe_J kp md_M_trace d (l31 v3 v4 v6 v8 m) 31 [(0, .ref 112), (3, .int v3), (4, .long v4), (6, .long v6), (8, .int v8)] [] m) (v3 : Int32) (v4 : Int64) (v6 : Int64) (v8 : Int32) (m : qm_M) : qe_J kp md_M_trace d (X_M_trace_31 f_M_isIn f_M_levelOf f_M_square l31 v3 v4 v6 v8 m) 31 [(0, .ref 112), (3, .int v3), (4, .long v4), (6, .long v6), (8, .int v8)] [] m := qe_run (B := [(31, [0, 3, 4, 6, 8], qp_cilli_ 112 l31)]) (n := 1000) hT (qe_B1 (qp_cilli__ok h31) qe_B0) rfl
def L_M_trace_31 : Nat → Int32 → Int64 → Int64 → Int32 → qm_M → Option qm_R
  | 0, _, _, _, _, _ => none
  | n + 1, v3, v4, v6, v8, m => X_M_trace_31 F_M_isIn F_M_levelOf F_M_square (L_M_trace_31 n) v3 v4 v6 v8 m
theorem lg_M_trace_31 {kp : pm_K} {d : Nat} (hT : qe_G kp d (T_M_trace F_M_isIn F_M_levelOf F_M_square)) : ∀ (n : Nat) (v3 : Int32) (v4 : Int64) (v6 : Int64) (v8 : Int32) (m : qm_M), qe_J kp md_M_trace d (L_M_trace_31 n v3 v4 v6 v8 m) 31 [(0, .ref 112), (3, .int v3), (4, .long v4), (6, .long v6), (8, .int v8)] [] m
  | 0, v3, v4, v6, v8, m => qe_none rfl
  | n + 1, v3, v4, v6, v8, m => xg_M_trace_31 hT (lg_M_trace_31 hT n) v3 v4 v6 v8 m
def X_M_trace_e (f_M_isIn : Int64 → Int64 → Int64 → qm_M → Option qm_R) (f_M_levelOf : Int64 → qm_M → Option qm_R) (f_M_square : Int64 → qm_M → Option qm_R) (l31 : Int32 → Int64 → Int64 → Int32 → qm_M → Option qm_R) (v1 : Int64) (v3 : Int32) (m : qm_M) : Option qm_R :=
  qe_rI (f_M_isIn (Int32.toInt64 v3) (0 : Int64) (6 : Int64) m) fun x1 m1 =>
  if x1 = 0 then
    some (some (.int (-1 : Int32)), m1)
  else
    qe_rI (f_M_levelOf v1 m1) fun x2 m2 =>
    if v3 < x2 then
      some (some (.int (-1 : Int32)), m2)
    else
      l31 v3 (0 : Int64) v1 (0 : Int32) m2
set_option maxRecDepth 100000 in
theorem xg_M_trace_e {kp : pm_K} {d : Nat} {f_M_isIn : Int64 → Int64 → Int64 → qm_M → Option qm_R} {f_M_levelOf : Int64 → qm_M → Option qm_R} {f_M_square : Int64 → qm_M → Option qm_R} {l31 : Int32 → Int64 → Int64 → Int32 → qm_M → Option qm_R} (hT : qe_G kp d (T_M_trace f_M_isIn f_M_levelOf f_M_square)) (h31 : ∀ (v3 : Int32) (v4 : Int64) (v6 : Int64) (v8 : Int32) (m : qm_M), qe_J kp md_M_trace d (l31 v3 v4 v6 v8 m) 31 [(0, .ref 112), (3, .int v3), (4, .long v4), (6, .long v6), (8, .int v8)] [] m) (v1 : Int64) (v3 : Int32) (m : qm_M) : qe_J kp md_M_trace d (X_M_trace_e f_M_isIn f_M_levelOf f_M_square l31 v1 v3 m) 0 [(0, .ref 112), (1, .long v1), (3, .int v3)] [] m := qe_run (B := [(31, [0, 3, 4, 6, 8], qp_cilli_ 112 l31)]) (n := 1000) hT (qe_B1 (qp_cilli__ok h31) qe_B0) rfl
def F_M_trace (v1 : Int64) (v3 : Int32) (m : qm_M) : Option qm_R := X_M_trace_e F_M_isIn F_M_levelOf F_M_square (L_M_trace_31 1000000) v1 v3 m
theorem fj_M_trace {kp : pm_K} {d : Nat} (hT : qe_G kp d (T_M_trace F_M_isIn F_M_levelOf F_M_square)) (v1 : Int64) (v3 : Int32) (m : qm_M) : qe_J kp md_M_trace d (F_M_trace v1 v3 m) 0 [(0, .ref 112), (1, .long v1), (3, .int v3)] [] m := xg_M_trace_e hT (lg_M_trace_31 hT 1000000) v1 v3 m
theorem fg_M_trace {kp : pm_K} (d : Nat) : qe_GE kp (d + 4) (208, 0, 11, 1, qw_cli 112 F_M_trace) := qe_entry (by decide +kernel) (qw_cli_ok (d := d + 3) rfl rfl (fj_M_trace (qe_G1 (fg_M_isIn (d + 2)) (qe_G1 (fg_M_levelOf (d + 2)) (qe_G1 (fg_M_square (d + 0)) qe_G0)))))
/-! TurnFieldModel.highest(J)I -/
noncomputable def T_M_highest (f_M_has : Int64 → Int32 → qm_M → Option qm_R) : qe_T := [(186, 1, 0, 1, qw_li f_M_has)]
def X_M_highest_3 (f_M_has : Int64 → Int32 → qm_M → Option qm_R) (l3 : Int64 → Int32 → qm_M → Option qm_R) (v0 : Int64) (v2 : Int32) (m : qm_M) : Option qm_R :=
  qe_rI (f_M_has v0 v2 m) fun x1 m1 =>
  if x1 = 0 then
    l3 v0 (v2 + (-1 : Int32)) m1
  else
    some (some (.int v2), m1)
set_option maxRecDepth 100000 in
theorem xg_M_highest_3 {kp : pm_K} {d : Nat} {f_M_has : Int64 → Int32 → qm_M → Option qm_R} {l3 : Int64 → Int32 → qm_M → Option qm_R} (hT : qe_G kp d (T_M_highest f_M_has)) (h3 : ∀ (v0 : Int64) (v2 : Int32) (m : qm_M), qe_J kp md_M_highest d (l3 v0 v2 m) 3 [(0, .long v0), (2, .int v2)] [] m) (v0 : Int64) (v2 : Int32) (m : qm_M) : qe_J kp md_M_highest d (X_M_highest_3 f_M_has l3 v0 v2 m) 3 [(0, .long v0), (2, .int v2)] [] m := qe_run (B := [(3, [0, 2], qp_li_ l3)]) (n := 1000) hT (qe_B1 (qp_li__ok h3) qe_B0) rfl
def L_M_highest_3 : Nat → Int64 → Int32 → qm_M → Option qm_R
  | 0, _, _, _ => none
  | n + 1, v0, v2, m => X_M_highest_3 F_M_has (L_M_highest_3 n) v0 v2 m
theorem lg_M_highest_3 {kp : pm_K} {d : Nat} (hT : qe_G kp d (T_M_highest F_M_has)) : ∀ (n : Nat) (v0 : Int64) (v2 : Int32) (m : qm_M), qe_J kp md_M_highest d (L_M_highest_3 n v0 v2 m) 3 [(0, .long v0), (2, .int v2)] [] m
  | 0, v0, v2, m => qe_none rfl
  | n + 1, v0, v2, m => xg_M_highest_3 hT (lg_M_highest_3 hT n) v0 v2 m
def X_M_highest_e (f_M_has : Int64 → Int32 → qm_M → Option qm_R) (l3 : Int64 → Int32 → qm_M → Option qm_R) (v0 : Int64) (m : qm_M) : Option qm_R :=
  l3 v0 (63 : Int32) m
set_option maxRecDepth 100000 in
theorem xg_M_highest_e {kp : pm_K} {d : Nat} {f_M_has : Int64 → Int32 → qm_M → Option qm_R} {l3 : Int64 → Int32 → qm_M → Option qm_R} (hT : qe_G kp d (T_M_highest f_M_has)) (h3 : ∀ (v0 : Int64) (v2 : Int32) (m : qm_M), qe_J kp md_M_highest d (l3 v0 v2 m) 3 [(0, .long v0), (2, .int v2)] [] m) (v0 : Int64) (m : qm_M) : qe_J kp md_M_highest d (X_M_highest_e f_M_has l3 v0 m) 0 [(0, .long v0)] [] m := qe_run (B := [(3, [0, 2], qp_li_ l3)]) (n := 1000) hT (qe_B1 (qp_li__ok h3) qe_B0) rfl
def F_M_highest (v0 : Int64) (m : qm_M) : Option qm_R := X_M_highest_e F_M_has (L_M_highest_3 1000000) v0 m
theorem fj_M_highest {kp : pm_K} {d : Nat} (hT : qe_G kp d (T_M_highest F_M_has)) (v0 : Int64) (m : qm_M) : qe_J kp md_M_highest d (F_M_highest v0 m) 0 [(0, .long v0)] [] m := xg_M_highest_e hT (lg_M_highest_3 hT 1000000) v0 m
theorem fg_M_highest {kp : pm_K} (d : Nat) : qe_GE kp (d + 2) (209, 1, 0, 1, qw_l F_M_highest) := qe_entry (by decide +kernel) (qw_l_ok (d := d + 1) rfl rfl (fj_M_highest (qe_G1 (fg_M_has (d + 0)) qe_G0)))
/-! TurnFieldModel.laysHalves()V -/
noncomputable def T_M_laysHalves (f_M_highest : Int64 → qm_M → Option qm_R) : qe_T := [(209, 1, 0, 1, qw_l f_M_highest)]
def X_M_laysHalves_99 (f_M_highest : Int64 → qm_M → Option qm_R) (l23 : Int32 → qm_M → Option qm_R) (v1 : Int32) (v2 : Int64) (v4 : Int64) (m : qm_M) : Option qm_R :=
  if (lg_cmp v2 (0 : Int64)) = 0 then
    l23 (v1 + (1 : Int32)) m
  else
    qe_rI (f_M_highest v2 m) fun x1 m1 =>
    qe_b (qm_in x1 64) (
    let m2 : qm_M := qm_sL m1 120 (Int32.toNatClampNeg x1) v2
    qe_rI (f_M_highest v2 m2) fun x2 m3 =>
    qe_b (qm_in x2 64) (
    let m4 : qm_M := qm_sL m3 121 (Int32.toNatClampNeg x2) v4
    l23 (v1 + (1 : Int32)) m4))
set_option maxRecDepth 100000 in
theorem xg_M_laysHalves_99 {kp : pm_K} {d : Nat} {f_M_highest : Int64 → qm_M → Option qm_R} {l23 : Int32 → qm_M → Option qm_R} (hT : qe_G kp d (T_M_laysHalves f_M_highest)) (h23 : ∀ (v1 : Int32) (m : qm_M), qe_J kp md_M_laysHalves d (l23 v1 m) 23 [(0, .ref 112), (1, .int v1)] [] m) (v1 : Int32) (v2 : Int64) (v4 : Int64) (m : qm_M) : qe_J kp md_M_laysHalves d (X_M_laysHalves_99 f_M_highest l23 v1 v2 v4 m) 99 [(0, .ref 112), (1, .int v1), (2, .long v2), (4, .long v4)] [] m := qe_run (B := [(23, [0, 1], qp_ci_ 112 l23)]) (n := 1000) hT (qe_B1 (qp_ci__ok h23) qe_B0) rfl
def L_M_laysHalves_99 (K23 : Int32 → qm_M → Option qm_R) (v1 : Int32) (v2 : Int64) (v4 : Int64) (m : qm_M) : Option qm_R := X_M_laysHalves_99 F_M_highest K23 v1 v2 v4 m
theorem lg_M_laysHalves_99 {kp : pm_K} {d : Nat} (hT : qe_G kp d (T_M_laysHalves F_M_highest)) {K23 : Int32 → qm_M → Option qm_R} (hK23 : ∀ (v1 : Int32) (m : qm_M), qe_J kp md_M_laysHalves d (K23 v1 m) 23 [(0, .ref 112), (1, .int v1)] [] m) (v1 : Int32) (v2 : Int64) (v4 : Int64) (m : qm_M) : qe_J kp md_M_laysHalves d (L_M_laysHalves_99 K23 v1 v2 v4 m) 99 [(0, .ref 112), (1, .int v1), (2, .long v2), (4, .long v4)] [] m := xg_M_laysHalves_99 hT hK23 v1 v2 v4 m
def X_M_laysHalves_48 (f_M_highest : Int64 → qm_M → Option qm_R) (l48 : Int32 → Int64 → Int64 → qm_M → Option qm_R) (l99 : Int32 → Int64 → Int64 → qm_M → Option qm_R) (v1 : Int32) (v2 : Int64) (v4 : Int64) (m : qm_M) : Option qm_R :=
  if (lg_cmp v2 (0 : Int64)) = 0 then
    l99 v1 v2 v4 m
  else
    qe_rI (f_M_highest v2 m) fun x1 m1 =>
    qe_b (qm_in x1 64) (
    if (lg_cmp (m1.2 120 (Int32.toNatClampNeg x1)) (0 : Int64)) = 0 then
      l99 v1 v2 v4 m1
    else
      qe_rI (f_M_highest v2 m1) fun x2 m2 =>
      qe_b (qm_in x2 64) (
      let x3 : Int64 := (v2 ^^^ (m2.2 120 (Int32.toNatClampNeg x2)))
      qe_b (qm_in x2 64) (
      let x4 : Int64 := (v4 ^^^ (m2.2 121 (Int32.toNatClampNeg x2)))
      l48 v1 x3 x4 m2)))
set_option maxRecDepth 100000 in
theorem xg_M_laysHalves_48 {kp : pm_K} {d : Nat} {f_M_highest : Int64 → qm_M → Option qm_R} {l48 : Int32 → Int64 → Int64 → qm_M → Option qm_R} {l99 : Int32 → Int64 → Int64 → qm_M → Option qm_R} (hT : qe_G kp d (T_M_laysHalves f_M_highest)) (h48 : ∀ (v1 : Int32) (v2 : Int64) (v4 : Int64) (m : qm_M), qe_J kp md_M_laysHalves d (l48 v1 v2 v4 m) 48 [(0, .ref 112), (1, .int v1), (2, .long v2), (4, .long v4)] [] m) (h99 : ∀ (v1 : Int32) (v2 : Int64) (v4 : Int64) (m : qm_M), qe_J kp md_M_laysHalves d (l99 v1 v2 v4 m) 99 [(0, .ref 112), (1, .int v1), (2, .long v2), (4, .long v4)] [] m) (v1 : Int32) (v2 : Int64) (v4 : Int64) (m : qm_M) : qe_J kp md_M_laysHalves d (X_M_laysHalves_48 f_M_highest l48 l99 v1 v2 v4 m) 48 [(0, .ref 112), (1, .int v1), (2, .long v2), (4, .long v4)] [] m := qe_run (B := [(48, [0, 1, 2, 4], qp_cill_ 112 l48), (99, [0, 1, 2, 4], qp_cill_ 112 l99)]) (n := 1000) hT (qe_B1 (qp_cill__ok h48) (qe_B1 (qp_cill__ok h99) qe_B0)) rfl
def L_M_laysHalves_48 (K23 : Int32 → qm_M → Option qm_R) : Nat → Int32 → Int64 → Int64 → qm_M → Option qm_R
  | 0, _, _, _, _ => none
  | n + 1, v1, v2, v4, m => X_M_laysHalves_48 F_M_highest (L_M_laysHalves_48 K23 n) (L_M_laysHalves_99 K23) v1 v2 v4 m
theorem lg_M_laysHalves_48 {kp : pm_K} {d : Nat} (hT : qe_G kp d (T_M_laysHalves F_M_highest)) {K23 : Int32 → qm_M → Option qm_R} (hK23 : ∀ (v1 : Int32) (m : qm_M), qe_J kp md_M_laysHalves d (K23 v1 m) 23 [(0, .ref 112), (1, .int v1)] [] m) : ∀ (n : Nat) (v1 : Int32) (v2 : Int64) (v4 : Int64) (m : qm_M), qe_J kp md_M_laysHalves d (L_M_laysHalves_48 K23 n v1 v2 v4 m) 48 [(0, .ref 112), (1, .int v1), (2, .long v2), (4, .long v4)] [] m
  | 0, v1, v2, v4, m => qe_none rfl
  | n + 1, v1, v2, v4, m => xg_M_laysHalves_48 hT (lg_M_laysHalves_48 hT hK23 n) (lg_M_laysHalves_99 hT hK23) v1 v2 v4 m
def X_M_laysHalves_23 (f_M_highest : Int64 → qm_M → Option qm_R) (l48 : Int32 → Int64 → Int64 → qm_M → Option qm_R) (v1 : Int32) (m : qm_M) : Option qm_R :=
  if v1 < (64 : Int32) then
    qe_b (qm_in ((65 : Int32) * v1) 4096) (
    let x1 : Int64 := ((m.2 117 (Int32.toNatClampNeg ((65 : Int32) * v1))) ^^^ (qo_lshl (1 : Int64) v1))
    l48 v1 x1 (qo_lshl (1 : Int64) v1) m)
  else
    some (none, m)
set_option maxRecDepth 100000 in
theorem xg_M_laysHalves_23 {kp : pm_K} {d : Nat} {f_M_highest : Int64 → qm_M → Option qm_R} {l48 : Int32 → Int64 → Int64 → qm_M → Option qm_R} (hT : qe_G kp d (T_M_laysHalves f_M_highest)) (h48 : ∀ (v1 : Int32) (v2 : Int64) (v4 : Int64) (m : qm_M), qe_J kp md_M_laysHalves d (l48 v1 v2 v4 m) 48 [(0, .ref 112), (1, .int v1), (2, .long v2), (4, .long v4)] [] m) (v1 : Int32) (m : qm_M) : qe_J kp md_M_laysHalves d (X_M_laysHalves_23 f_M_highest l48 v1 m) 23 [(0, .ref 112), (1, .int v1)] [] m := qe_run (B := [(48, [0, 1, 2, 4], qp_cill_ 112 l48)]) (n := 1000) hT (qe_B1 (qp_cill__ok h48) qe_B0) rfl
def L_M_laysHalves_23 : Nat → Int32 → qm_M → Option qm_R
  | 0, _, _ => none
  | n + 1, v1, m => X_M_laysHalves_23 F_M_highest (L_M_laysHalves_48 (L_M_laysHalves_23 n) 1000000) v1 m
theorem lg_M_laysHalves_23 {kp : pm_K} {d : Nat} (hT : qe_G kp d (T_M_laysHalves F_M_highest)) : ∀ (n : Nat) (v1 : Int32) (m : qm_M), qe_J kp md_M_laysHalves d (L_M_laysHalves_23 n v1 m) 23 [(0, .ref 112), (1, .int v1)] [] m
  | 0, v1, m => qe_none rfl
  | n + 1, v1, m => xg_M_laysHalves_23 hT (lg_M_laysHalves_48 hT (lg_M_laysHalves_23 hT n) 1000000) v1 m
def X_M_laysHalves_2 (f_M_highest : Int64 → qm_M → Option qm_R) (l2 : Int32 → qm_M → Option qm_R) (l23 : Int32 → qm_M → Option qm_R) (v1 : Int32) (m : qm_M) : Option qm_R :=
  if v1 < (64 : Int32) then
    qe_b (qm_in v1 64) (
    let m1 : qm_M := qm_sL m 120 (Int32.toNatClampNeg v1) (0 : Int64)
    l2 (v1 + (1 : Int32)) m1)
  else
    l23 (1 : Int32) m
set_option maxRecDepth 100000 in
theorem xg_M_laysHalves_2 {kp : pm_K} {d : Nat} {f_M_highest : Int64 → qm_M → Option qm_R} {l2 : Int32 → qm_M → Option qm_R} {l23 : Int32 → qm_M → Option qm_R} (hT : qe_G kp d (T_M_laysHalves f_M_highest)) (h2 : ∀ (v1 : Int32) (m : qm_M), qe_J kp md_M_laysHalves d (l2 v1 m) 2 [(0, .ref 112), (1, .int v1)] [] m) (h23 : ∀ (v1 : Int32) (m : qm_M), qe_J kp md_M_laysHalves d (l23 v1 m) 23 [(0, .ref 112), (1, .int v1)] [] m) (v1 : Int32) (m : qm_M) : qe_J kp md_M_laysHalves d (X_M_laysHalves_2 f_M_highest l2 l23 v1 m) 2 [(0, .ref 112), (1, .int v1)] [] m := qe_run (B := [(2, [0, 1], qp_ci_ 112 l2), (23, [0, 1], qp_ci_ 112 l23)]) (n := 1000) hT (qe_B1 (qp_ci__ok h2) (qe_B1 (qp_ci__ok h23) qe_B0)) rfl
def L_M_laysHalves_2 : Nat → Int32 → qm_M → Option qm_R
  | 0, _, _ => none
  | n + 1, v1, m => X_M_laysHalves_2 F_M_highest (L_M_laysHalves_2 n) (L_M_laysHalves_23 1000000) v1 m
theorem lg_M_laysHalves_2 {kp : pm_K} {d : Nat} (hT : qe_G kp d (T_M_laysHalves F_M_highest)) : ∀ (n : Nat) (v1 : Int32) (m : qm_M), qe_J kp md_M_laysHalves d (L_M_laysHalves_2 n v1 m) 2 [(0, .ref 112), (1, .int v1)] [] m
  | 0, v1, m => qe_none rfl
  | n + 1, v1, m => xg_M_laysHalves_2 hT (lg_M_laysHalves_2 hT n) (lg_M_laysHalves_23 hT 1000000) v1 m
def X_M_laysHalves_e (f_M_highest : Int64 → qm_M → Option qm_R) (l2 : Int32 → qm_M → Option qm_R)  (m : qm_M) : Option qm_R :=
  l2 (0 : Int32) m
set_option maxRecDepth 100000 in
theorem xg_M_laysHalves_e {kp : pm_K} {d : Nat} {f_M_highest : Int64 → qm_M → Option qm_R} {l2 : Int32 → qm_M → Option qm_R} (hT : qe_G kp d (T_M_laysHalves f_M_highest)) (h2 : ∀ (v1 : Int32) (m : qm_M), qe_J kp md_M_laysHalves d (l2 v1 m) 2 [(0, .ref 112), (1, .int v1)] [] m) (m : qm_M) : qe_J kp md_M_laysHalves d (X_M_laysHalves_e f_M_highest l2 m) 0 [(0, .ref 112)] [] m := qe_run (B := [(2, [0, 1], qp_ci_ 112 l2)]) (n := 1000) hT (qe_B1 (qp_ci__ok h2) qe_B0) rfl
def F_M_laysHalves (m : qm_M) : Option qm_R := X_M_laysHalves_e F_M_highest (L_M_laysHalves_2 1000000) m
theorem fj_M_laysHalves {kp : pm_K} {d : Nat} (hT : qe_G kp d (T_M_laysHalves F_M_highest)) (m : qm_M) : qe_J kp md_M_laysHalves d (F_M_laysHalves m) 0 [(0, .ref 112)] [] m := xg_M_laysHalves_e hT (lg_M_laysHalves_2 hT 1000000) m
theorem fg_M_laysHalves {kp : pm_K} (d : Nat) : qe_GE kp (d + 3) (210, 0, 11, 0, qw_c 112 F_M_laysHalves) := qe_entry (by decide +kernel) (qw_c_ok (d := d + 2) rfl rfl (fj_M_laysHalves (qe_G1 (fg_M_highest (d + 0)) qe_G0)))
/-! TurnFieldModel.halfOf(J)J -/
noncomputable def T_M_halfOf (f_M_laysHalves : qm_M → Option qm_R) (f_M_highest : Int64 → qm_M → Option qm_R) : qe_T := [(210, 0, 11, 0, qw_c 112 f_M_laysHalves), (209, 1, 0, 1, qw_l f_M_highest)]
def X_M_halfOf_9 (f_M_laysHalves : qm_M → Option qm_R) (f_M_highest : Int64 → qm_M → Option qm_R) (l9 : Int64 → Int64 → qm_M → Option qm_R) (v3 : Int64) (v5 : Int64) (m : qm_M) : Option qm_R :=
  if (lg_cmp v3 (0 : Int64)) = 0 then
    some (some (.long (v5 &&& (-2 : Int64))), m)
  else
    qe_rI (f_M_highest v3 m) fun x1 m1 =>
    qe_b (qm_in x1 64) (
    if (lg_cmp (m1.2 120 (Int32.toNatClampNeg x1)) (0 : Int64)) = 0 then
      some (some (.long (0 : Int64)), m1)
    else
      qe_b (qm_in x1 64) (
      let x2 : Int64 := (v3 ^^^ (m1.2 120 (Int32.toNatClampNeg x1)))
      qe_b (qm_in x1 64) (
      let x3 : Int64 := (v5 ^^^ (m1.2 121 (Int32.toNatClampNeg x1)))
      l9 x2 x3 m1)))
set_option maxRecDepth 100000 in
theorem xg_M_halfOf_9 {kp : pm_K} {d : Nat} {f_M_laysHalves : qm_M → Option qm_R} {f_M_highest : Int64 → qm_M → Option qm_R} {l9 : Int64 → Int64 → qm_M → Option qm_R} (hT : qe_G kp d (T_M_halfOf f_M_laysHalves f_M_highest)) (h9 : ∀ (v3 : Int64) (v5 : Int64) (m : qm_M), qe_J kp md_M_halfOf d (l9 v3 v5 m) 9 [(0, .ref 112), (3, .long v3), (5, .long v5)] [] m) (v3 : Int64) (v5 : Int64) (m : qm_M) : qe_J kp md_M_halfOf d (X_M_halfOf_9 f_M_laysHalves f_M_highest l9 v3 v5 m) 9 [(0, .ref 112), (3, .long v3), (5, .long v5)] [] m := qe_run (B := [(9, [0, 3, 5], qp_cll_ 112 l9)]) (n := 1000) hT (qe_B1 (qp_cll__ok h9) qe_B0) rfl
def L_M_halfOf_9 : Nat → Int64 → Int64 → qm_M → Option qm_R
  | 0, _, _, _ => none
  | n + 1, v3, v5, m => X_M_halfOf_9 F_M_laysHalves F_M_highest (L_M_halfOf_9 n) v3 v5 m
theorem lg_M_halfOf_9 {kp : pm_K} {d : Nat} (hT : qe_G kp d (T_M_halfOf F_M_laysHalves F_M_highest)) : ∀ (n : Nat) (v3 : Int64) (v5 : Int64) (m : qm_M), qe_J kp md_M_halfOf d (L_M_halfOf_9 n v3 v5 m) 9 [(0, .ref 112), (3, .long v3), (5, .long v5)] [] m
  | 0, v3, v5, m => qe_none rfl
  | n + 1, v3, v5, m => xg_M_halfOf_9 hT (lg_M_halfOf_9 hT n) v3 v5 m
def X_M_halfOf_e (f_M_laysHalves : qm_M → Option qm_R) (f_M_highest : Int64 → qm_M → Option qm_R) (l9 : Int64 → Int64 → qm_M → Option qm_R) (v1 : Int64) (m : qm_M) : Option qm_R :=
  qe_rV (f_M_laysHalves m) fun m1 =>
  l9 v1 (0 : Int64) m1
set_option maxRecDepth 100000 in
theorem xg_M_halfOf_e {kp : pm_K} {d : Nat} {f_M_laysHalves : qm_M → Option qm_R} {f_M_highest : Int64 → qm_M → Option qm_R} {l9 : Int64 → Int64 → qm_M → Option qm_R} (hT : qe_G kp d (T_M_halfOf f_M_laysHalves f_M_highest)) (h9 : ∀ (v3 : Int64) (v5 : Int64) (m : qm_M), qe_J kp md_M_halfOf d (l9 v3 v5 m) 9 [(0, .ref 112), (3, .long v3), (5, .long v5)] [] m) (v1 : Int64) (m : qm_M) : qe_J kp md_M_halfOf d (X_M_halfOf_e f_M_laysHalves f_M_highest l9 v1 m) 0 [(0, .ref 112), (1, .long v1)] [] m := qe_run (B := [(9, [0, 3, 5], qp_cll_ 112 l9)]) (n := 1000) hT (qe_B1 (qp_cll__ok h9) qe_B0) rfl
def F_M_halfOf (v1 : Int64) (m : qm_M) : Option qm_R := X_M_halfOf_e F_M_laysHalves F_M_highest (L_M_halfOf_9 1000000) v1 m
theorem fj_M_halfOf {kp : pm_K} {d : Nat} (hT : qe_G kp d (T_M_halfOf F_M_laysHalves F_M_highest)) (v1 : Int64) (m : qm_M) : qe_J kp md_M_halfOf d (F_M_halfOf v1 m) 0 [(0, .ref 112), (1, .long v1)] [] m := xg_M_halfOf_e hT (lg_M_halfOf_9 hT 1000000) v1 m
theorem fg_M_halfOf {kp : pm_K} (d : Nat) : qe_GE kp (d + 4) (211, 0, 11, 2, qw_cl 112 F_M_halfOf) := qe_entry (by decide +kernel) (qw_cl_ok (d := d + 3) rfl rfl (fj_M_halfOf (qe_G1 (fg_M_laysHalves (d + 0)) (qe_G1 (fg_M_highest (d + 1)) qe_G0))))
/-! TurnFieldModel.half(J)J -/
noncomputable def T_M_half (f_M_halfOf : Int64 → qm_M → Option qm_R) : qe_T := [(211, 0, 11, 2, qw_cl 112 f_M_halfOf)]
def X_M_half_e (f_M_halfOf : Int64 → qm_M → Option qm_R) (v1 : Int64) (m : qm_M) : Option qm_R :=
  qe_rL (f_M_halfOf v1 m) fun x1 m1 =>
  some (some (.long x1), m1)
set_option maxRecDepth 100000 in
theorem xg_M_half_e {kp : pm_K} {d : Nat} {f_M_halfOf : Int64 → qm_M → Option qm_R} (hT : qe_G kp d (T_M_half f_M_halfOf)) (v1 : Int64) (m : qm_M) : qe_J kp md_M_half d (X_M_half_e f_M_halfOf v1 m) 0 [(0, .ref 112), (1, .long v1)] [] m := qe_run (B := []) (n := 1000) hT qe_B0 rfl
def F_M_half (v1 : Int64) (m : qm_M) : Option qm_R := X_M_half_e F_M_halfOf v1 m
theorem fj_M_half {kp : pm_K} {d : Nat} (hT : qe_G kp d (T_M_half F_M_halfOf)) (v1 : Int64) (m : qm_M) : qe_J kp md_M_half d (F_M_half v1 m) 0 [(0, .ref 112), (1, .long v1)] [] m := xg_M_half_e hT v1 m
theorem fg_M_half {kp : pm_K} (d : Nat) : qe_GE kp (d + 5) (212, 0, 11, 2, qw_cl 112 F_M_half) := qe_entry (by decide +kernel) (qw_cl_ok (d := d + 4) rfl rfl (fj_M_half (qe_G1 (fg_M_halfOf (d + 0)) qe_G0)))
/-! TurnFieldModel.solve(JJI)J -/
noncomputable def T_M_solve (f_M_isIn : Int64 → Int64 → Int64 → qm_M → Option qm_R) (f_M_rootOf : Int64 → qm_M → Option qm_R) (f_M_square : Int64 → qm_M → Option qm_R) (f_M_inverseOf : Int64 → qm_M → Option qm_R) (f_M_product : Int64 → Int64 → qm_M → Option qm_R) (f_M_halfOf : Int64 → qm_M → Option qm_R) (f_M_isLess : Int64 → Int64 → qm_M → Option qm_R) : qe_T := [(185, 1, 0, 1, qw_lll f_M_isIn), (198, 0, 11, 2, qw_cl 112 f_M_rootOf), (193, 0, 11, 2, qw_cl 112 f_M_square), (197, 0, 11, 2, qw_cl 112 f_M_inverseOf), (192, 0, 11, 2, qw_cll 112 f_M_product), (211, 0, 11, 2, qw_cl 112 f_M_halfOf), (187, 1, 0, 1, qw_ll f_M_isLess)]
def X_M_solve_76 (f_M_isIn : Int64 → Int64 → Int64 → qm_M → Option qm_R) (f_M_rootOf : Int64 → qm_M → Option qm_R) (f_M_square : Int64 → qm_M → Option qm_R) (f_M_inverseOf : Int64 → qm_M → Option qm_R) (f_M_product : Int64 → Int64 → qm_M → Option qm_R) (f_M_halfOf : Int64 → qm_M → Option qm_R) (f_M_isLess : Int64 → Int64 → qm_M → Option qm_R) (v1 : Int64) (v5 : Int32) (v8 : Int64) (m : qm_M) : Option qm_R :=
  qe_rL (f_M_product v1 v8 m) fun x1 m1 =>
  if v5 = 0 then
    some (some (.long (2 : Int64)), m1)
  else
    qe_rI (f_M_isLess x1 (x1 ^^^ v1) m1) fun x2 m2 =>
    if v5 = (1 : Int32) then
      if x2 = (1 : Int32) then
        some (some (.long x1), m2)
      else
        some (some (.long (x1 ^^^ v1)), m2)
    else
      if x2 = (0 : Int32) then
        some (some (.long x1), m2)
      else
        some (some (.long (x1 ^^^ v1)), m2)
set_option maxRecDepth 100000 in
theorem xg_M_solve_76 {kp : pm_K} {d : Nat} {f_M_isIn : Int64 → Int64 → Int64 → qm_M → Option qm_R} {f_M_rootOf : Int64 → qm_M → Option qm_R} {f_M_square : Int64 → qm_M → Option qm_R} {f_M_inverseOf : Int64 → qm_M → Option qm_R} {f_M_product : Int64 → Int64 → qm_M → Option qm_R} {f_M_halfOf : Int64 → qm_M → Option qm_R} {f_M_isLess : Int64 → Int64 → qm_M → Option qm_R} (hT : qe_G kp d (T_M_solve f_M_isIn f_M_rootOf f_M_square f_M_inverseOf f_M_product f_M_halfOf f_M_isLess)) (v1 : Int64) (v5 : Int32) (v8 : Int64) (m : qm_M) : qe_J kp md_M_solve d (X_M_solve_76 f_M_isIn f_M_rootOf f_M_square f_M_inverseOf f_M_product f_M_halfOf f_M_isLess v1 v5 v8 m) 76 [(0, .ref 112), (1, .long v1), (5, .int v5), (8, .long v8)] [] m := qe_run (B := []) (n := 1000) hT qe_B0 rfl
def L_M_solve_76 (v1 : Int64) (v5 : Int32) (v8 : Int64) (m : qm_M) : Option qm_R := X_M_solve_76 F_M_isIn F_M_rootOf F_M_square F_M_inverseOf F_M_product F_M_halfOf F_M_isLess v1 v5 v8 m
theorem lg_M_solve_76 {kp : pm_K} {d : Nat} (hT : qe_G kp d (T_M_solve F_M_isIn F_M_rootOf F_M_square F_M_inverseOf F_M_product F_M_halfOf F_M_isLess)) (v1 : Int64) (v5 : Int32) (v8 : Int64) (m : qm_M) : qe_J kp md_M_solve d (L_M_solve_76 v1 v5 v8 m) 76 [(0, .ref 112), (1, .long v1), (5, .int v5), (8, .long v8)] [] m := xg_M_solve_76 hT v1 v5 v8 m
def X_M_solve_e (f_M_isIn : Int64 → Int64 → Int64 → qm_M → Option qm_R) (f_M_rootOf : Int64 → qm_M → Option qm_R) (f_M_square : Int64 → qm_M → Option qm_R) (f_M_inverseOf : Int64 → qm_M → Option qm_R) (f_M_product : Int64 → Int64 → qm_M → Option qm_R) (f_M_halfOf : Int64 → qm_M → Option qm_R) (f_M_isLess : Int64 → Int64 → qm_M → Option qm_R) (l76 : Int64 → Int32 → Int64 → qm_M → Option qm_R) (v1 : Int64) (v3 : Int64) (v5 : Int32) (m : qm_M) : Option qm_R :=
  qe_rI (f_M_isIn (Int32.toInt64 v5) (0 : Int64) (2 : Int64) m) fun x1 m1 =>
  if x1 = 0 then
    some (some (.long (0 : Int64)), m1)
  else
    if (lg_cmp v1 (0 : Int64)) = 0 then
      if v5 = 0 then
        some (some (.long (1 : Int64)), m1)
      else
        qe_rL (f_M_rootOf v3 m1) fun x2 m2 =>
        some (some (.long x2), m2)
    else
      qe_rL (f_M_square v1 m1) fun x3 m3 =>
      qe_rL (f_M_inverseOf x3 m3) fun x4 m4 =>
      qe_rL (f_M_product v3 x4 m4) fun x5 m5 =>
      qe_rL (f_M_halfOf x5 m5) fun x6 m6 =>
      if (lg_cmp x5 (0 : Int64)) = 0 then
        l76 v1 v5 x6 m6
      else
        if (lg_cmp x6 (0 : Int64)) = 0 then
          some (some (.long (0 : Int64)), m6)
        else
          l76 v1 v5 x6 m6
set_option maxRecDepth 100000 in
theorem xg_M_solve_e {kp : pm_K} {d : Nat} {f_M_isIn : Int64 → Int64 → Int64 → qm_M → Option qm_R} {f_M_rootOf : Int64 → qm_M → Option qm_R} {f_M_square : Int64 → qm_M → Option qm_R} {f_M_inverseOf : Int64 → qm_M → Option qm_R} {f_M_product : Int64 → Int64 → qm_M → Option qm_R} {f_M_halfOf : Int64 → qm_M → Option qm_R} {f_M_isLess : Int64 → Int64 → qm_M → Option qm_R} {l76 : Int64 → Int32 → Int64 → qm_M → Option qm_R} (hT : qe_G kp d (T_M_solve f_M_isIn f_M_rootOf f_M_square f_M_inverseOf f_M_product f_M_halfOf f_M_isLess)) (h76 : ∀ (v1 : Int64) (v5 : Int32) (v8 : Int64) (m : qm_M), qe_J kp md_M_solve d (l76 v1 v5 v8 m) 76 [(0, .ref 112), (1, .long v1), (5, .int v5), (8, .long v8)] [] m) (v1 : Int64) (v3 : Int64) (v5 : Int32) (m : qm_M) : qe_J kp md_M_solve d (X_M_solve_e f_M_isIn f_M_rootOf f_M_square f_M_inverseOf f_M_product f_M_halfOf f_M_isLess l76 v1 v3 v5 m) 0 [(0, .ref 112), (1, .long v1), (3, .long v3), (5, .int v5)] [] m := qe_run (B := [(76, [0, 1, 5, 8], qp_clil_ 112 l76)]) (n := 1000) hT (qe_B1 (qp_clil__ok h76) qe_B0) rfl
def F_M_solve (v1 : Int64) (v3 : Int64) (v5 : Int32) (m : qm_M) : Option qm_R := X_M_solve_e F_M_isIn F_M_rootOf F_M_square F_M_inverseOf F_M_product F_M_halfOf F_M_isLess (L_M_solve_76) v1 v3 v5 m
theorem fj_M_solve {kp : pm_K} {d : Nat} (hT : qe_G kp d (T_M_solve F_M_isIn F_M_rootOf F_M_square F_M_inverseOf F_M_product F_M_halfOf F_M_isLess)) (v1 : Int64) (v3 : Int64) (v5 : Int32) (m : qm_M) : qe_J kp md_M_solve d (F_M_solve v1 v3 v5 m) 0 [(0, .ref 112), (1, .long v1), (3, .long v3), (5, .int v5)] [] m := xg_M_solve_e hT (lg_M_solve_76 hT) v1 v3 v5 m
theorem fg_M_solve {kp : pm_K} (d : Nat) : qe_GE kp (d + 6) (213, 0, 11, 2, qw_clli 112 F_M_solve) := qe_entry (by decide +kernel) (qw_clli_ok (d := d + 5) rfl rfl (fj_M_solve (qe_G1 (fg_M_isIn (d + 4)) (qe_G1 (fg_M_rootOf (d + 1)) (qe_G1 (fg_M_square (d + 2)) (qe_G1 (fg_M_inverseOf (d + 0)) (qe_G1 (fg_M_product (d + 3)) (qe_G1 (fg_M_halfOf (d + 1)) (qe_G1 (fg_M_isLess (d + 4)) qe_G0)))))))))
/-! TurnFieldModel.laysBy(J)V -/
noncomputable def T_M_laysBy (f_M_byTwo : Int32 → Int64 → qm_M → Option qm_R) : qe_T := [(188, 0, 11, 2, qw_cil 112 f_M_byTwo)]
def X_M_laysBy_2 (f_M_byTwo : Int32 → Int64 → qm_M → Option qm_R) (l2 : Int64 → Int32 → qm_M → Option qm_R) (v1 : Int64) (v3 : Int32) (m : qm_M) : Option qm_R :=
  if v3 < (64 : Int32) then
    if v3 < (16 : Int32) then
      qe_rL (f_M_byTwo v3 v1 m) fun x1 m1 =>
      qe_b (qm_in v3 64) (
      let m2 : qm_M := qm_sL m1 122 (Int32.toNatClampNeg v3) x1
      l2 v1 (v3 + (1 : Int32)) m2)
    else
      qe_b (qm_in (v3 - (16 : Int32)) 64) (
      qe_b (qm_in v3 64) (
      let m3 : qm_M := qm_sL m 122 (Int32.toNatClampNeg v3) (qo_lshl (m.2 122 (Int32.toNatClampNeg (v3 - (16 : Int32)))) (16 : Int32))
      l2 v1 (v3 + (1 : Int32)) m3))
  else
    some (none, m)
set_option maxRecDepth 100000 in
theorem xg_M_laysBy_2 {kp : pm_K} {d : Nat} {f_M_byTwo : Int32 → Int64 → qm_M → Option qm_R} {l2 : Int64 → Int32 → qm_M → Option qm_R} (hT : qe_G kp d (T_M_laysBy f_M_byTwo)) (h2 : ∀ (v1 : Int64) (v3 : Int32) (m : qm_M), qe_J kp md_M_laysBy d (l2 v1 v3 m) 2 [(0, .ref 112), (1, .long v1), (3, .int v3)] [] m) (v1 : Int64) (v3 : Int32) (m : qm_M) : qe_J kp md_M_laysBy d (X_M_laysBy_2 f_M_byTwo l2 v1 v3 m) 2 [(0, .ref 112), (1, .long v1), (3, .int v3)] [] m := qe_run (B := [(2, [0, 1, 3], qp_cli_ 112 l2)]) (n := 1000) hT (qe_B1 (qp_cli__ok h2) qe_B0) rfl
def L_M_laysBy_2 : Nat → Int64 → Int32 → qm_M → Option qm_R
  | 0, _, _, _ => none
  | n + 1, v1, v3, m => X_M_laysBy_2 F_M_byTwo (L_M_laysBy_2 n) v1 v3 m
theorem lg_M_laysBy_2 {kp : pm_K} {d : Nat} (hT : qe_G kp d (T_M_laysBy F_M_byTwo)) : ∀ (n : Nat) (v1 : Int64) (v3 : Int32) (m : qm_M), qe_J kp md_M_laysBy d (L_M_laysBy_2 n v1 v3 m) 2 [(0, .ref 112), (1, .long v1), (3, .int v3)] [] m
  | 0, v1, v3, m => qe_none rfl
  | n + 1, v1, v3, m => xg_M_laysBy_2 hT (lg_M_laysBy_2 hT n) v1 v3 m
def X_M_laysBy_e (f_M_byTwo : Int32 → Int64 → qm_M → Option qm_R) (l2 : Int64 → Int32 → qm_M → Option qm_R) (v1 : Int64) (m : qm_M) : Option qm_R :=
  l2 v1 (0 : Int32) m
set_option maxRecDepth 100000 in
theorem xg_M_laysBy_e {kp : pm_K} {d : Nat} {f_M_byTwo : Int32 → Int64 → qm_M → Option qm_R} {l2 : Int64 → Int32 → qm_M → Option qm_R} (hT : qe_G kp d (T_M_laysBy f_M_byTwo)) (h2 : ∀ (v1 : Int64) (v3 : Int32) (m : qm_M), qe_J kp md_M_laysBy d (l2 v1 v3 m) 2 [(0, .ref 112), (1, .long v1), (3, .int v3)] [] m) (v1 : Int64) (m : qm_M) : qe_J kp md_M_laysBy d (X_M_laysBy_e f_M_byTwo l2 v1 m) 0 [(0, .ref 112), (1, .long v1)] [] m := qe_run (B := [(2, [0, 1, 3], qp_cli_ 112 l2)]) (n := 1000) hT (qe_B1 (qp_cli__ok h2) qe_B0) rfl
def F_M_laysBy (v1 : Int64) (m : qm_M) : Option qm_R := X_M_laysBy_e F_M_byTwo (L_M_laysBy_2 1000000) v1 m
theorem fj_M_laysBy {kp : pm_K} {d : Nat} (hT : qe_G kp d (T_M_laysBy F_M_byTwo)) (v1 : Int64) (m : qm_M) : qe_J kp md_M_laysBy d (F_M_laysBy v1 m) 0 [(0, .ref 112), (1, .long v1)] [] m := xg_M_laysBy_e hT (lg_M_laysBy_2 hT 1000000) v1 m
theorem fg_M_laysBy {kp : pm_K} (d : Nat) : qe_GE kp (d + 2) (214, 0, 11, 0, qw_cl 112 F_M_laysBy) := qe_entry (by decide +kernel) (qw_cl_ok (d := d + 1) rfl rfl (fj_M_laysBy (qe_G1 (fg_M_byTwo (d + 0)) qe_G0)))
/-! TurnFieldModel.by(J)J -/
noncomputable def T_M_by : qe_T := []
def X_M_by_8 (l8 : Int64 → Int64 → Int32 → qm_M → Option qm_R) (v3 : Int64) (v5 : Int64) (v7 : Int32) (m : qm_M) : Option qm_R :=
  if (lg_cmp v5 (0 : Int64)) = 0 then
    some (some (.long v3), m)
  else
    if (lg_cmp (v5 &&& (1 : Int64)) (1 : Int64)) = 0 then
      qe_b (qm_in v7 64) (
      let x1 : Int64 := (v3 ^^^ (m.2 122 (Int32.toNatClampNeg v7)))
      l8 x1 (qo_lushr v5 (1 : Int32)) (v7 + (1 : Int32)) m)
    else
      l8 v3 (qo_lushr v5 (1 : Int32)) (v7 + (1 : Int32)) m
set_option maxRecDepth 100000 in
theorem xg_M_by_8 {kp : pm_K} {d : Nat} {l8 : Int64 → Int64 → Int32 → qm_M → Option qm_R} (hT : qe_G kp d (T_M_by)) (h8 : ∀ (v3 : Int64) (v5 : Int64) (v7 : Int32) (m : qm_M), qe_J kp md_M_by d (l8 v3 v5 v7 m) 8 [(0, .ref 112), (3, .long v3), (5, .long v5), (7, .int v7)] [] m) (v3 : Int64) (v5 : Int64) (v7 : Int32) (m : qm_M) : qe_J kp md_M_by d (X_M_by_8 l8 v3 v5 v7 m) 8 [(0, .ref 112), (3, .long v3), (5, .long v5), (7, .int v7)] [] m := qe_run (B := [(8, [0, 3, 5, 7], qp_clli_ 112 l8)]) (n := 1000) hT (qe_B1 (qp_clli__ok h8) qe_B0) rfl
def L_M_by_8 : Nat → Int64 → Int64 → Int32 → qm_M → Option qm_R
  | 0, _, _, _, _ => none
  | n + 1, v3, v5, v7, m => X_M_by_8 (L_M_by_8 n) v3 v5 v7 m
theorem lg_M_by_8 {kp : pm_K} {d : Nat} (hT : qe_G kp d (T_M_by)) : ∀ (n : Nat) (v3 : Int64) (v5 : Int64) (v7 : Int32) (m : qm_M), qe_J kp md_M_by d (L_M_by_8 n v3 v5 v7 m) 8 [(0, .ref 112), (3, .long v3), (5, .long v5), (7, .int v7)] [] m
  | 0, v3, v5, v7, m => qe_none rfl
  | n + 1, v3, v5, v7, m => xg_M_by_8 hT (lg_M_by_8 hT n) v3 v5 v7 m
def X_M_by_e (l8 : Int64 → Int64 → Int32 → qm_M → Option qm_R) (v1 : Int64) (m : qm_M) : Option qm_R :=
  l8 (0 : Int64) v1 (0 : Int32) m
set_option maxRecDepth 100000 in
theorem xg_M_by_e {kp : pm_K} {d : Nat} {l8 : Int64 → Int64 → Int32 → qm_M → Option qm_R} (hT : qe_G kp d (T_M_by)) (h8 : ∀ (v3 : Int64) (v5 : Int64) (v7 : Int32) (m : qm_M), qe_J kp md_M_by d (l8 v3 v5 v7 m) 8 [(0, .ref 112), (3, .long v3), (5, .long v5), (7, .int v7)] [] m) (v1 : Int64) (m : qm_M) : qe_J kp md_M_by d (X_M_by_e l8 v1 m) 0 [(0, .ref 112), (1, .long v1)] [] m := qe_run (B := [(8, [0, 3, 5, 7], qp_clli_ 112 l8)]) (n := 1000) hT (qe_B1 (qp_clli__ok h8) qe_B0) rfl
def F_M_by (v1 : Int64) (m : qm_M) : Option qm_R := X_M_by_e (L_M_by_8 1000000) v1 m
theorem fj_M_by {kp : pm_K} {d : Nat} (hT : qe_G kp d (T_M_by)) (v1 : Int64) (m : qm_M) : qe_J kp md_M_by d (F_M_by v1 m) 0 [(0, .ref 112), (1, .long v1)] [] m := xg_M_by_e hT (lg_M_by_8 hT 1000000) v1 m
theorem fg_M_by {kp : pm_K} (d : Nat) : qe_GE kp (d + 1) (215, 0, 11, 2, qw_cl 112 F_M_by) := qe_entry (by decide +kernel) (qw_cl_ok (d := d + 0) rfl rfl (fj_M_by qe_G0))
/-! TurnFieldModel.log(JJ)I -/
noncomputable def T_M_log (f_M_levelOf : Int64 → qm_M → Option qm_R) (f_M_laysBy : Int64 → qm_M → Option qm_R) (f_M_by : Int64 → qm_M → Option qm_R) : qe_T := [(195, 1, 0, 1, qw_l f_M_levelOf), (214, 0, 11, 0, qw_cl 112 f_M_laysBy), (215, 0, 11, 2, qw_cl 112 f_M_by)]
def X_M_log_30 (f_M_levelOf : Int64 → qm_M → Option qm_R) (f_M_laysBy : Int64 → qm_M → Option qm_R) (f_M_by : Int64 → qm_M → Option qm_R) (l30 : Int64 → Int64 → Int32 → qm_M → Option qm_R) (v1 : Int64) (v5 : Int64) (v7 : Int32) (m : qm_M) : Option qm_R :=
  if (65536 : Int32) < v7 then
    some (some (.int (-1 : Int32)), m)
  else
    if (lg_cmp v5 v1) = 0 then
      some (some (.int v7), m)
    else
      qe_rL (f_M_by v5 m) fun x1 m1 =>
      l30 v1 x1 (v7 + (1 : Int32)) m1
set_option maxRecDepth 100000 in
theorem xg_M_log_30 {kp : pm_K} {d : Nat} {f_M_levelOf : Int64 → qm_M → Option qm_R} {f_M_laysBy : Int64 → qm_M → Option qm_R} {f_M_by : Int64 → qm_M → Option qm_R} {l30 : Int64 → Int64 → Int32 → qm_M → Option qm_R} (hT : qe_G kp d (T_M_log f_M_levelOf f_M_laysBy f_M_by)) (h30 : ∀ (v1 : Int64) (v5 : Int64) (v7 : Int32) (m : qm_M), qe_J kp md_M_log d (l30 v1 v5 v7 m) 30 [(0, .ref 112), (1, .long v1), (5, .long v5), (7, .int v7)] [] m) (v1 : Int64) (v5 : Int64) (v7 : Int32) (m : qm_M) : qe_J kp md_M_log d (X_M_log_30 f_M_levelOf f_M_laysBy f_M_by l30 v1 v5 v7 m) 30 [(0, .ref 112), (1, .long v1), (5, .long v5), (7, .int v7)] [] m := qe_run (B := [(30, [0, 1, 5, 7], qp_clli_ 112 l30)]) (n := 1000) hT (qe_B1 (qp_clli__ok h30) qe_B0) rfl
def L_M_log_30 : Nat → Int64 → Int64 → Int32 → qm_M → Option qm_R
  | 0, _, _, _, _ => none
  | n + 1, v1, v5, v7, m => X_M_log_30 F_M_levelOf F_M_laysBy F_M_by (L_M_log_30 n) v1 v5 v7 m
theorem lg_M_log_30 {kp : pm_K} {d : Nat} (hT : qe_G kp d (T_M_log F_M_levelOf F_M_laysBy F_M_by)) : ∀ (n : Nat) (v1 : Int64) (v5 : Int64) (v7 : Int32) (m : qm_M), qe_J kp md_M_log d (L_M_log_30 n v1 v5 v7 m) 30 [(0, .ref 112), (1, .long v1), (5, .long v5), (7, .int v7)] [] m
  | 0, v1, v5, v7, m => qe_none rfl
  | n + 1, v1, v5, v7, m => xg_M_log_30 hT (lg_M_log_30 hT n) v1 v5 v7 m
def X_M_log_e (f_M_levelOf : Int64 → qm_M → Option qm_R) (f_M_laysBy : Int64 → qm_M → Option qm_R) (f_M_by : Int64 → qm_M → Option qm_R) (l30 : Int64 → Int64 → Int32 → qm_M → Option qm_R) (v1 : Int64) (v3 : Int64) (m : qm_M) : Option qm_R :=
  qe_rI (f_M_levelOf v1 m) fun x1 m1 =>
  if (4 : Int32) < x1 then
    some (some (.int (-2 : Int32)), m1)
  else
    qe_rI (f_M_levelOf v3 m1) fun x2 m2 =>
    if (4 : Int32) < x2 then
      some (some (.int (-2 : Int32)), m2)
    else
      qe_rV (f_M_laysBy v3 m2) fun m3 =>
      l30 v1 (1 : Int64) (0 : Int32) m3
set_option maxRecDepth 100000 in
theorem xg_M_log_e {kp : pm_K} {d : Nat} {f_M_levelOf : Int64 → qm_M → Option qm_R} {f_M_laysBy : Int64 → qm_M → Option qm_R} {f_M_by : Int64 → qm_M → Option qm_R} {l30 : Int64 → Int64 → Int32 → qm_M → Option qm_R} (hT : qe_G kp d (T_M_log f_M_levelOf f_M_laysBy f_M_by)) (h30 : ∀ (v1 : Int64) (v5 : Int64) (v7 : Int32) (m : qm_M), qe_J kp md_M_log d (l30 v1 v5 v7 m) 30 [(0, .ref 112), (1, .long v1), (5, .long v5), (7, .int v7)] [] m) (v1 : Int64) (v3 : Int64) (m : qm_M) : qe_J kp md_M_log d (X_M_log_e f_M_levelOf f_M_laysBy f_M_by l30 v1 v3 m) 0 [(0, .ref 112), (1, .long v1), (3, .long v3)] [] m := qe_run (B := [(30, [0, 1, 5, 7], qp_clli_ 112 l30)]) (n := 1000) hT (qe_B1 (qp_clli__ok h30) qe_B0) rfl
def F_M_log (v1 : Int64) (v3 : Int64) (m : qm_M) : Option qm_R := X_M_log_e F_M_levelOf F_M_laysBy F_M_by (L_M_log_30 1000000) v1 v3 m
theorem fj_M_log {kp : pm_K} {d : Nat} (hT : qe_G kp d (T_M_log F_M_levelOf F_M_laysBy F_M_by)) (v1 : Int64) (v3 : Int64) (m : qm_M) : qe_J kp md_M_log d (F_M_log v1 v3 m) 0 [(0, .ref 112), (1, .long v1), (3, .long v3)] [] m := xg_M_log_e hT (lg_M_log_30 hT 1000000) v1 v3 m
theorem fg_M_log {kp : pm_K} (d : Nat) : qe_GE kp (d + 3) (216, 0, 11, 1, qw_cll 112 F_M_log) := qe_entry (by decide +kernel) (qw_cll_ok (d := d + 2) rfl rfl (fj_M_log (qe_G1 (fg_M_levelOf (d + 1)) (qe_G1 (fg_M_laysBy (d + 0)) (qe_G1 (fg_M_by (d + 1)) qe_G0)))))
/-! TurnFieldModel.placeOf(I)J -/
noncomputable def T_M_placeOf : qe_T := []
def X_M_placeOf_e (v1 : Int32) (m : qm_M) : Option qm_R :=
  qe_b (qm_in ((7 : Int32) + v1) 33) (
  some (some (.long (m.2 113 (Int32.toNatClampNeg ((7 : Int32) + v1)))), m))
set_option maxRecDepth 100000 in
theorem xg_M_placeOf_e {kp : pm_K} {d : Nat} (hT : qe_G kp d (T_M_placeOf)) (v1 : Int32) (m : qm_M) : qe_J kp md_M_placeOf d (X_M_placeOf_e v1 m) 0 [(0, .ref 112), (1, .int v1)] [] m := qe_run (B := []) (n := 1000) hT qe_B0 rfl
def F_M_placeOf (v1 : Int32) (m : qm_M) : Option qm_R := X_M_placeOf_e v1 m
theorem fj_M_placeOf {kp : pm_K} {d : Nat} (hT : qe_G kp d (T_M_placeOf)) (v1 : Int32) (m : qm_M) : qe_J kp md_M_placeOf d (F_M_placeOf v1 m) 0 [(0, .ref 112), (1, .int v1)] [] m := xg_M_placeOf_e hT v1 m
theorem fg_M_placeOf {kp : pm_K} (d : Nat) : qe_GE kp (d + 1) (217, 0, 11, 2, qw_ci 112 F_M_placeOf) := qe_entry (by decide +kernel) (qw_ci_ok (d := d + 0) rfl rfl (fj_M_placeOf qe_G0))
/-! TurnFieldModel.place(I)J -/
noncomputable def T_M_place_IJ (f_M_isIn : Int64 → Int64 → Int64 → qm_M → Option qm_R) (f_M_placeOf : Int32 → qm_M → Option qm_R) : qe_T := [(185, 1, 0, 1, qw_lll f_M_isIn), (217, 0, 11, 2, qw_ci 112 f_M_placeOf)]
def X_M_place_IJ_e (f_M_isIn : Int64 → Int64 → Int64 → qm_M → Option qm_R) (f_M_placeOf : Int32 → qm_M → Option qm_R) (v1 : Int32) (m : qm_M) : Option qm_R :=
  qe_rI (f_M_isIn (Int32.toInt64 v1) (0 : Int64) (7 : Int64) m) fun x1 m1 =>
  if x1 = 0 then
    some (some (.long (0 : Int64)), m1)
  else
    qe_rL (f_M_placeOf v1 m1) fun x2 m2 =>
    some (some (.long x2), m2)
set_option maxRecDepth 100000 in
theorem xg_M_place_IJ_e {kp : pm_K} {d : Nat} {f_M_isIn : Int64 → Int64 → Int64 → qm_M → Option qm_R} {f_M_placeOf : Int32 → qm_M → Option qm_R} (hT : qe_G kp d (T_M_place_IJ f_M_isIn f_M_placeOf)) (v1 : Int32) (m : qm_M) : qe_J kp md_M_place_IJ d (X_M_place_IJ_e f_M_isIn f_M_placeOf v1 m) 0 [(0, .ref 112), (1, .int v1)] [] m := qe_run (B := []) (n := 1000) hT qe_B0 rfl
def F_M_place_IJ (v1 : Int32) (m : qm_M) : Option qm_R := X_M_place_IJ_e F_M_isIn F_M_placeOf v1 m
theorem fj_M_place_IJ {kp : pm_K} {d : Nat} (hT : qe_G kp d (T_M_place_IJ F_M_isIn F_M_placeOf)) (v1 : Int32) (m : qm_M) : qe_J kp md_M_place_IJ d (F_M_place_IJ v1 m) 0 [(0, .ref 112), (1, .int v1)] [] m := xg_M_place_IJ_e hT v1 m
theorem fg_M_place_IJ {kp : pm_K} (d : Nat) : qe_GE kp (d + 2) (218, 0, 11, 2, qw_ci 112 F_M_place_IJ) := qe_entry (by decide +kernel) (qw_ci_ok (d := d + 1) rfl rfl (fj_M_place_IJ (qe_G1 (fg_M_isIn (d + 0)) (qe_G1 (fg_M_placeOf (d + 0)) qe_G0))))
/-! TurnFieldModel.polynomialAt(J)J -/
noncomputable def T_M_polynomialAt (f_M_product : Int64 → Int64 → qm_M → Option qm_R) (f_M_placeOf : Int32 → qm_M → Option qm_R) : qe_T := [(192, 0, 11, 2, qw_cll 112 f_M_product), (217, 0, 11, 2, qw_ci 112 f_M_placeOf)]
def X_M_polynomialAt_6 (f_M_product : Int64 → Int64 → qm_M → Option qm_R) (f_M_placeOf : Int32 → qm_M → Option qm_R) (l6 : Int64 → Int64 → Int32 → qm_M → Option qm_R) (v1 : Int64) (v3 : Int64) (v5 : Int32) (m : qm_M) : Option qm_R :=
  if v5 < 0 then
    some (some (.long v3), m)
  else
    qe_rL (f_M_product v3 v1 m) fun x1 m1 =>
    qe_rL (f_M_placeOf v5 m1) fun x2 m2 =>
    l6 v1 (x1 ^^^ x2) (v5 + (-1 : Int32)) m2
set_option maxRecDepth 100000 in
theorem xg_M_polynomialAt_6 {kp : pm_K} {d : Nat} {f_M_product : Int64 → Int64 → qm_M → Option qm_R} {f_M_placeOf : Int32 → qm_M → Option qm_R} {l6 : Int64 → Int64 → Int32 → qm_M → Option qm_R} (hT : qe_G kp d (T_M_polynomialAt f_M_product f_M_placeOf)) (h6 : ∀ (v1 : Int64) (v3 : Int64) (v5 : Int32) (m : qm_M), qe_J kp md_M_polynomialAt d (l6 v1 v3 v5 m) 6 [(0, .ref 112), (1, .long v1), (3, .long v3), (5, .int v5)] [] m) (v1 : Int64) (v3 : Int64) (v5 : Int32) (m : qm_M) : qe_J kp md_M_polynomialAt d (X_M_polynomialAt_6 f_M_product f_M_placeOf l6 v1 v3 v5 m) 6 [(0, .ref 112), (1, .long v1), (3, .long v3), (5, .int v5)] [] m := qe_run (B := [(6, [0, 1, 3, 5], qp_clli_ 112 l6)]) (n := 1000) hT (qe_B1 (qp_clli__ok h6) qe_B0) rfl
def L_M_polynomialAt_6 : Nat → Int64 → Int64 → Int32 → qm_M → Option qm_R
  | 0, _, _, _, _ => none
  | n + 1, v1, v3, v5, m => X_M_polynomialAt_6 F_M_product F_M_placeOf (L_M_polynomialAt_6 n) v1 v3 v5 m
theorem lg_M_polynomialAt_6 {kp : pm_K} {d : Nat} (hT : qe_G kp d (T_M_polynomialAt F_M_product F_M_placeOf)) : ∀ (n : Nat) (v1 : Int64) (v3 : Int64) (v5 : Int32) (m : qm_M), qe_J kp md_M_polynomialAt d (L_M_polynomialAt_6 n v1 v3 v5 m) 6 [(0, .ref 112), (1, .long v1), (3, .long v3), (5, .int v5)] [] m
  | 0, v1, v3, v5, m => qe_none rfl
  | n + 1, v1, v3, v5, m => xg_M_polynomialAt_6 hT (lg_M_polynomialAt_6 hT n) v1 v3 v5 m
def X_M_polynomialAt_e (f_M_product : Int64 → Int64 → qm_M → Option qm_R) (f_M_placeOf : Int32 → qm_M → Option qm_R) (l6 : Int64 → Int64 → Int32 → qm_M → Option qm_R) (v1 : Int64) (m : qm_M) : Option qm_R :=
  l6 v1 (0 : Int64) (7 : Int32) m
set_option maxRecDepth 100000 in
theorem xg_M_polynomialAt_e {kp : pm_K} {d : Nat} {f_M_product : Int64 → Int64 → qm_M → Option qm_R} {f_M_placeOf : Int32 → qm_M → Option qm_R} {l6 : Int64 → Int64 → Int32 → qm_M → Option qm_R} (hT : qe_G kp d (T_M_polynomialAt f_M_product f_M_placeOf)) (h6 : ∀ (v1 : Int64) (v3 : Int64) (v5 : Int32) (m : qm_M), qe_J kp md_M_polynomialAt d (l6 v1 v3 v5 m) 6 [(0, .ref 112), (1, .long v1), (3, .long v3), (5, .int v5)] [] m) (v1 : Int64) (m : qm_M) : qe_J kp md_M_polynomialAt d (X_M_polynomialAt_e f_M_product f_M_placeOf l6 v1 m) 0 [(0, .ref 112), (1, .long v1)] [] m := qe_run (B := [(6, [0, 1, 3, 5], qp_clli_ 112 l6)]) (n := 1000) hT (qe_B1 (qp_clli__ok h6) qe_B0) rfl
def F_M_polynomialAt (v1 : Int64) (m : qm_M) : Option qm_R := X_M_polynomialAt_e F_M_product F_M_placeOf (L_M_polynomialAt_6 1000000) v1 m
theorem fj_M_polynomialAt {kp : pm_K} {d : Nat} (hT : qe_G kp d (T_M_polynomialAt F_M_product F_M_placeOf)) (v1 : Int64) (m : qm_M) : qe_J kp md_M_polynomialAt d (F_M_polynomialAt v1 m) 0 [(0, .ref 112), (1, .long v1)] [] m := xg_M_polynomialAt_e hT (lg_M_polynomialAt_6 hT 1000000) v1 m
theorem fg_M_polynomialAt {kp : pm_K} (d : Nat) : qe_GE kp (d + 3) (219, 0, 11, 2, qw_cl 112 F_M_polynomialAt) := qe_entry (by decide +kernel) (qw_cl_ok (d := d + 2) rfl rfl (fj_M_polynomialAt (qe_G1 (fg_M_product (d + 0)) (qe_G1 (fg_M_placeOf (d + 1)) qe_G0))))
/-! TurnFieldModel.throughAt(J)J -/
noncomputable def T_M_throughAt (f_M_placeOf : Int32 → qm_M → Option qm_R) (f_M_product : Int64 → Int64 → qm_M → Option qm_R) (f_M_inverseOf : Int64 → qm_M → Option qm_R) : qe_T := [(217, 0, 11, 2, qw_ci 112 f_M_placeOf), (192, 0, 11, 2, qw_cll 112 f_M_product), (197, 0, 11, 2, qw_cl 112 f_M_inverseOf)]
def X_M_throughAt_26 (f_M_placeOf : Int32 → qm_M → Option qm_R) (f_M_product : Int64 → Int64 → qm_M → Option qm_R) (f_M_inverseOf : Int64 → qm_M → Option qm_R) (l5 : Int64 → Int64 → Int32 → qm_M → Option qm_R) (l26 : Int64 → Int64 → Int32 → Int64 → Int64 → Int32 → qm_M → Option qm_R) (v1 : Int64) (v3 : Int64) (v5 : Int32) (v6 : Int64) (v8 : Int64) (v10 : Int32) (m : qm_M) : Option qm_R :=
  if v10 < (8 : Int32) then
    if v10 = v5 then
      l26 v1 v3 v5 v6 v8 (v10 + (1 : Int32)) m
    else
      qe_rL (f_M_product v6 (v1 ^^^ (Int32.toInt64 v10)) m) fun x1 m1 =>
      qe_rL (f_M_product v8 (Int32.toInt64 (v5 ^^^ v10)) m1) fun x2 m2 =>
      l26 v1 v3 v5 x1 x2 (v10 + (1 : Int32)) m2
  else
    qe_rL (f_M_inverseOf v8 m) fun x3 m3 =>
    qe_rL (f_M_product v6 x3 m3) fun x4 m4 =>
    l5 v1 (v3 ^^^ x4) (v5 + (1 : Int32)) m4
set_option maxRecDepth 100000 in
theorem xg_M_throughAt_26 {kp : pm_K} {d : Nat} {f_M_placeOf : Int32 → qm_M → Option qm_R} {f_M_product : Int64 → Int64 → qm_M → Option qm_R} {f_M_inverseOf : Int64 → qm_M → Option qm_R} {l5 : Int64 → Int64 → Int32 → qm_M → Option qm_R} {l26 : Int64 → Int64 → Int32 → Int64 → Int64 → Int32 → qm_M → Option qm_R} (hT : qe_G kp d (T_M_throughAt f_M_placeOf f_M_product f_M_inverseOf)) (h5 : ∀ (v1 : Int64) (v3 : Int64) (v5 : Int32) (m : qm_M), qe_J kp md_M_throughAt d (l5 v1 v3 v5 m) 5 [(0, .ref 112), (1, .long v1), (3, .long v3), (5, .int v5)] [] m) (h26 : ∀ (v1 : Int64) (v3 : Int64) (v5 : Int32) (v6 : Int64) (v8 : Int64) (v10 : Int32) (m : qm_M), qe_J kp md_M_throughAt d (l26 v1 v3 v5 v6 v8 v10 m) 26 [(0, .ref 112), (1, .long v1), (3, .long v3), (5, .int v5), (6, .long v6), (8, .long v8), (10, .int v10)] [] m) (v1 : Int64) (v3 : Int64) (v5 : Int32) (v6 : Int64) (v8 : Int64) (v10 : Int32) (m : qm_M) : qe_J kp md_M_throughAt d (X_M_throughAt_26 f_M_placeOf f_M_product f_M_inverseOf l5 l26 v1 v3 v5 v6 v8 v10 m) 26 [(0, .ref 112), (1, .long v1), (3, .long v3), (5, .int v5), (6, .long v6), (8, .long v8), (10, .int v10)] [] m := qe_run (B := [(5, [0, 1, 3, 5], qp_clli_ 112 l5), (26, [0, 1, 3, 5, 6, 8, 10], qp_cllilli_ 112 l26)]) (n := 1000) hT (qe_B1 (qp_clli__ok h5) (qe_B1 (qp_cllilli__ok h26) qe_B0)) rfl
def L_M_throughAt_26 (K5 : Int64 → Int64 → Int32 → qm_M → Option qm_R) : Nat → Int64 → Int64 → Int32 → Int64 → Int64 → Int32 → qm_M → Option qm_R
  | 0, _, _, _, _, _, _, _ => none
  | n + 1, v1, v3, v5, v6, v8, v10, m => X_M_throughAt_26 F_M_placeOf F_M_product F_M_inverseOf K5 (L_M_throughAt_26 K5 n) v1 v3 v5 v6 v8 v10 m
theorem lg_M_throughAt_26 {kp : pm_K} {d : Nat} (hT : qe_G kp d (T_M_throughAt F_M_placeOf F_M_product F_M_inverseOf)) {K5 : Int64 → Int64 → Int32 → qm_M → Option qm_R} (hK5 : ∀ (v1 : Int64) (v3 : Int64) (v5 : Int32) (m : qm_M), qe_J kp md_M_throughAt d (K5 v1 v3 v5 m) 5 [(0, .ref 112), (1, .long v1), (3, .long v3), (5, .int v5)] [] m) : ∀ (n : Nat) (v1 : Int64) (v3 : Int64) (v5 : Int32) (v6 : Int64) (v8 : Int64) (v10 : Int32) (m : qm_M), qe_J kp md_M_throughAt d (L_M_throughAt_26 K5 n v1 v3 v5 v6 v8 v10 m) 26 [(0, .ref 112), (1, .long v1), (3, .long v3), (5, .int v5), (6, .long v6), (8, .long v8), (10, .int v10)] [] m
  | 0, v1, v3, v5, v6, v8, v10, m => qe_none rfl
  | n + 1, v1, v3, v5, v6, v8, v10, m => xg_M_throughAt_26 hT hK5 (lg_M_throughAt_26 hT hK5 n) v1 v3 v5 v6 v8 v10 m
def X_M_throughAt_5 (f_M_placeOf : Int32 → qm_M → Option qm_R) (f_M_product : Int64 → Int64 → qm_M → Option qm_R) (f_M_inverseOf : Int64 → qm_M → Option qm_R) (l26 : Int64 → Int64 → Int32 → Int64 → Int64 → Int32 → qm_M → Option qm_R) (v1 : Int64) (v3 : Int64) (v5 : Int32) (m : qm_M) : Option qm_R :=
  if v5 < (8 : Int32) then
    qe_rL (f_M_placeOf v5 m) fun x1 m1 =>
    l26 v1 v3 v5 x1 (1 : Int64) (0 : Int32) m1
  else
    some (some (.long v3), m)
set_option maxRecDepth 100000 in
theorem xg_M_throughAt_5 {kp : pm_K} {d : Nat} {f_M_placeOf : Int32 → qm_M → Option qm_R} {f_M_product : Int64 → Int64 → qm_M → Option qm_R} {f_M_inverseOf : Int64 → qm_M → Option qm_R} {l26 : Int64 → Int64 → Int32 → Int64 → Int64 → Int32 → qm_M → Option qm_R} (hT : qe_G kp d (T_M_throughAt f_M_placeOf f_M_product f_M_inverseOf)) (h26 : ∀ (v1 : Int64) (v3 : Int64) (v5 : Int32) (v6 : Int64) (v8 : Int64) (v10 : Int32) (m : qm_M), qe_J kp md_M_throughAt d (l26 v1 v3 v5 v6 v8 v10 m) 26 [(0, .ref 112), (1, .long v1), (3, .long v3), (5, .int v5), (6, .long v6), (8, .long v8), (10, .int v10)] [] m) (v1 : Int64) (v3 : Int64) (v5 : Int32) (m : qm_M) : qe_J kp md_M_throughAt d (X_M_throughAt_5 f_M_placeOf f_M_product f_M_inverseOf l26 v1 v3 v5 m) 5 [(0, .ref 112), (1, .long v1), (3, .long v3), (5, .int v5)] [] m := qe_run (B := [(26, [0, 1, 3, 5, 6, 8, 10], qp_cllilli_ 112 l26)]) (n := 1000) hT (qe_B1 (qp_cllilli__ok h26) qe_B0) rfl
def L_M_throughAt_5 : Nat → Int64 → Int64 → Int32 → qm_M → Option qm_R
  | 0, _, _, _, _ => none
  | n + 1, v1, v3, v5, m => X_M_throughAt_5 F_M_placeOf F_M_product F_M_inverseOf (L_M_throughAt_26 (L_M_throughAt_5 n) 1000000) v1 v3 v5 m
theorem lg_M_throughAt_5 {kp : pm_K} {d : Nat} (hT : qe_G kp d (T_M_throughAt F_M_placeOf F_M_product F_M_inverseOf)) : ∀ (n : Nat) (v1 : Int64) (v3 : Int64) (v5 : Int32) (m : qm_M), qe_J kp md_M_throughAt d (L_M_throughAt_5 n v1 v3 v5 m) 5 [(0, .ref 112), (1, .long v1), (3, .long v3), (5, .int v5)] [] m
  | 0, v1, v3, v5, m => qe_none rfl
  | n + 1, v1, v3, v5, m => xg_M_throughAt_5 hT (lg_M_throughAt_26 hT (lg_M_throughAt_5 hT n) 1000000) v1 v3 v5 m
def X_M_throughAt_e (f_M_placeOf : Int32 → qm_M → Option qm_R) (f_M_product : Int64 → Int64 → qm_M → Option qm_R) (f_M_inverseOf : Int64 → qm_M → Option qm_R) (l5 : Int64 → Int64 → Int32 → qm_M → Option qm_R) (v1 : Int64) (m : qm_M) : Option qm_R :=
  l5 v1 (0 : Int64) (0 : Int32) m
set_option maxRecDepth 100000 in
theorem xg_M_throughAt_e {kp : pm_K} {d : Nat} {f_M_placeOf : Int32 → qm_M → Option qm_R} {f_M_product : Int64 → Int64 → qm_M → Option qm_R} {f_M_inverseOf : Int64 → qm_M → Option qm_R} {l5 : Int64 → Int64 → Int32 → qm_M → Option qm_R} (hT : qe_G kp d (T_M_throughAt f_M_placeOf f_M_product f_M_inverseOf)) (h5 : ∀ (v1 : Int64) (v3 : Int64) (v5 : Int32) (m : qm_M), qe_J kp md_M_throughAt d (l5 v1 v3 v5 m) 5 [(0, .ref 112), (1, .long v1), (3, .long v3), (5, .int v5)] [] m) (v1 : Int64) (m : qm_M) : qe_J kp md_M_throughAt d (X_M_throughAt_e f_M_placeOf f_M_product f_M_inverseOf l5 v1 m) 0 [(0, .ref 112), (1, .long v1)] [] m := qe_run (B := [(5, [0, 1, 3, 5], qp_clli_ 112 l5)]) (n := 1000) hT (qe_B1 (qp_clli__ok h5) qe_B0) rfl
def F_M_throughAt (v1 : Int64) (m : qm_M) : Option qm_R := X_M_throughAt_e F_M_placeOf F_M_product F_M_inverseOf (L_M_throughAt_5 1000000) v1 m
theorem fj_M_throughAt {kp : pm_K} {d : Nat} (hT : qe_G kp d (T_M_throughAt F_M_placeOf F_M_product F_M_inverseOf)) (v1 : Int64) (m : qm_M) : qe_J kp md_M_throughAt d (F_M_throughAt v1 m) 0 [(0, .ref 112), (1, .long v1)] [] m := xg_M_throughAt_e hT (lg_M_throughAt_5 hT 1000000) v1 m
theorem fg_M_throughAt {kp : pm_K} (d : Nat) : qe_GE kp (d + 6) (220, 0, 11, 2, qw_cl 112 F_M_throughAt) := qe_entry (by decide +kernel) (qw_cl_ok (d := d + 5) rfl rfl (fj_M_throughAt (qe_G1 (fg_M_placeOf (d + 4)) (qe_G1 (fg_M_product (d + 3)) (qe_G1 (fg_M_inverseOf (d + 0)) qe_G0)))))
/-! TurnFieldModel.at(JI)J -/
noncomputable def T_M_at (f_M_polynomialAt : Int64 → qm_M → Option qm_R) (f_M_throughAt : Int64 → qm_M → Option qm_R) : qe_T := [(219, 0, 11, 2, qw_cl 112 f_M_polynomialAt), (220, 0, 11, 2, qw_cl 112 f_M_throughAt)]
def X_M_at_e (f_M_polynomialAt : Int64 → qm_M → Option qm_R) (f_M_throughAt : Int64 → qm_M → Option qm_R) (v1 : Int64) (v3 : Int32) (m : qm_M) : Option qm_R :=
  if v3 = 0 then
    qe_rL (f_M_polynomialAt v1 m) fun x1 m1 =>
    some (some (.long x1), m1)
  else
    if v3 = (1 : Int32) then
      qe_rL (f_M_throughAt v1 m) fun x2 m2 =>
      some (some (.long x2), m2)
    else
      some (some (.long (0 : Int64)), m)
set_option maxRecDepth 100000 in
theorem xg_M_at_e {kp : pm_K} {d : Nat} {f_M_polynomialAt : Int64 → qm_M → Option qm_R} {f_M_throughAt : Int64 → qm_M → Option qm_R} (hT : qe_G kp d (T_M_at f_M_polynomialAt f_M_throughAt)) (v1 : Int64) (v3 : Int32) (m : qm_M) : qe_J kp md_M_at d (X_M_at_e f_M_polynomialAt f_M_throughAt v1 v3 m) 0 [(0, .ref 112), (1, .long v1), (3, .int v3)] [] m := qe_run (B := []) (n := 1000) hT qe_B0 rfl
def F_M_at (v1 : Int64) (v3 : Int32) (m : qm_M) : Option qm_R := X_M_at_e F_M_polynomialAt F_M_throughAt v1 v3 m
theorem fj_M_at {kp : pm_K} {d : Nat} (hT : qe_G kp d (T_M_at F_M_polynomialAt F_M_throughAt)) (v1 : Int64) (v3 : Int32) (m : qm_M) : qe_J kp md_M_at d (F_M_at v1 v3 m) 0 [(0, .ref 112), (1, .long v1), (3, .int v3)] [] m := xg_M_at_e hT v1 v3 m
theorem fg_M_at {kp : pm_K} (d : Nat) : qe_GE kp (d + 7) (221, 0, 11, 2, qw_cli 112 F_M_at) := qe_entry (by decide +kernel) (qw_cli_ok (d := d + 6) rfl rfl (fj_M_at (qe_G1 (fg_M_polynomialAt (d + 3)) (qe_G1 (fg_M_throughAt (d + 0)) qe_G0))))
/-! TurnFieldModel.isRoot(J)Z -/
noncomputable def T_M_isRoot (f_M_laysBy : Int64 → qm_M → Option qm_R) (f_M_by : Int64 → qm_M → Option qm_R) (f_M_placeOf : Int32 → qm_M → Option qm_R) : qe_T := [(214, 0, 11, 0, qw_cl 112 f_M_laysBy), (215, 0, 11, 2, qw_cl 112 f_M_by), (217, 0, 11, 2, qw_ci 112 f_M_placeOf)]
def X_M_isRoot_11 (f_M_laysBy : Int64 → qm_M → Option qm_R) (f_M_by : Int64 → qm_M → Option qm_R) (f_M_placeOf : Int32 → qm_M → Option qm_R) (l11 : Int64 → Int32 → qm_M → Option qm_R) (v3 : Int64) (v5 : Int32) (m : qm_M) : Option qm_R :=
  if v5 < 0 then
    if (lg_cmp v3 (0 : Int64)) = 0 then
      some (some (.int (1 : Int32)), m)
    else
      some (some (.int (0 : Int32)), m)
  else
    qe_rL (f_M_by v3 m) fun x1 m1 =>
    qe_rL (f_M_placeOf v5 m1) fun x2 m2 =>
    l11 (x1 ^^^ x2) (v5 + (-1 : Int32)) m2
set_option maxRecDepth 100000 in
theorem xg_M_isRoot_11 {kp : pm_K} {d : Nat} {f_M_laysBy : Int64 → qm_M → Option qm_R} {f_M_by : Int64 → qm_M → Option qm_R} {f_M_placeOf : Int32 → qm_M → Option qm_R} {l11 : Int64 → Int32 → qm_M → Option qm_R} (hT : qe_G kp d (T_M_isRoot f_M_laysBy f_M_by f_M_placeOf)) (h11 : ∀ (v3 : Int64) (v5 : Int32) (m : qm_M), qe_J kp md_M_isRoot d (l11 v3 v5 m) 11 [(0, .ref 112), (3, .long v3), (5, .int v5)] [] m) (v3 : Int64) (v5 : Int32) (m : qm_M) : qe_J kp md_M_isRoot d (X_M_isRoot_11 f_M_laysBy f_M_by f_M_placeOf l11 v3 v5 m) 11 [(0, .ref 112), (3, .long v3), (5, .int v5)] [] m := qe_run (B := [(11, [0, 3, 5], qp_cli_ 112 l11)]) (n := 1000) hT (qe_B1 (qp_cli__ok h11) qe_B0) rfl
def L_M_isRoot_11 : Nat → Int64 → Int32 → qm_M → Option qm_R
  | 0, _, _, _ => none
  | n + 1, v3, v5, m => X_M_isRoot_11 F_M_laysBy F_M_by F_M_placeOf (L_M_isRoot_11 n) v3 v5 m
theorem lg_M_isRoot_11 {kp : pm_K} {d : Nat} (hT : qe_G kp d (T_M_isRoot F_M_laysBy F_M_by F_M_placeOf)) : ∀ (n : Nat) (v3 : Int64) (v5 : Int32) (m : qm_M), qe_J kp md_M_isRoot d (L_M_isRoot_11 n v3 v5 m) 11 [(0, .ref 112), (3, .long v3), (5, .int v5)] [] m
  | 0, v3, v5, m => qe_none rfl
  | n + 1, v3, v5, m => xg_M_isRoot_11 hT (lg_M_isRoot_11 hT n) v3 v5 m
def X_M_isRoot_e (f_M_laysBy : Int64 → qm_M → Option qm_R) (f_M_by : Int64 → qm_M → Option qm_R) (f_M_placeOf : Int32 → qm_M → Option qm_R) (l11 : Int64 → Int32 → qm_M → Option qm_R) (v1 : Int64) (m : qm_M) : Option qm_R :=
  qe_rV (f_M_laysBy v1 m) fun m1 =>
  l11 (0 : Int64) (7 : Int32) m1
set_option maxRecDepth 100000 in
theorem xg_M_isRoot_e {kp : pm_K} {d : Nat} {f_M_laysBy : Int64 → qm_M → Option qm_R} {f_M_by : Int64 → qm_M → Option qm_R} {f_M_placeOf : Int32 → qm_M → Option qm_R} {l11 : Int64 → Int32 → qm_M → Option qm_R} (hT : qe_G kp d (T_M_isRoot f_M_laysBy f_M_by f_M_placeOf)) (h11 : ∀ (v3 : Int64) (v5 : Int32) (m : qm_M), qe_J kp md_M_isRoot d (l11 v3 v5 m) 11 [(0, .ref 112), (3, .long v3), (5, .int v5)] [] m) (v1 : Int64) (m : qm_M) : qe_J kp md_M_isRoot d (X_M_isRoot_e f_M_laysBy f_M_by f_M_placeOf l11 v1 m) 0 [(0, .ref 112), (1, .long v1)] [] m := qe_run (B := [(11, [0, 3, 5], qp_cli_ 112 l11)]) (n := 1000) hT (qe_B1 (qp_cli__ok h11) qe_B0) rfl
def F_M_isRoot (v1 : Int64) (m : qm_M) : Option qm_R := X_M_isRoot_e F_M_laysBy F_M_by F_M_placeOf (L_M_isRoot_11 1000000) v1 m
theorem fj_M_isRoot {kp : pm_K} {d : Nat} (hT : qe_G kp d (T_M_isRoot F_M_laysBy F_M_by F_M_placeOf)) (v1 : Int64) (m : qm_M) : qe_J kp md_M_isRoot d (F_M_isRoot v1 m) 0 [(0, .ref 112), (1, .long v1)] [] m := xg_M_isRoot_e hT (lg_M_isRoot_11 hT 1000000) v1 m
theorem fg_M_isRoot {kp : pm_K} (d : Nat) : qe_GE kp (d + 3) (222, 0, 11, 1, qw_cl 112 F_M_isRoot) := qe_entry (by decide +kernel) (qw_cl_ok (d := d + 2) rfl rfl (fj_M_isRoot (qe_G1 (fg_M_laysBy (d + 0)) (qe_G1 (fg_M_by (d + 1)) (qe_G1 (fg_M_placeOf (d + 1)) qe_G0)))))
/-! TurnFieldModel.roots(II)I -/
noncomputable def T_M_roots (f_M_isIn : Int64 → Int64 → Int64 → qm_M → Option qm_R) (f_M_isRoot : Int64 → qm_M → Option qm_R) : qe_T := [(185, 1, 0, 1, qw_lll f_M_isIn), (222, 0, 11, 1, qw_cl 112 f_M_isRoot)]
def X_M_roots_24 (f_M_isIn : Int64 → Int64 → Int64 → qm_M → Option qm_R) (f_M_isRoot : Int64 → qm_M → Option qm_R) (l24 : Int32 → Int32 → Int32 → Int64 → qm_M → Option qm_R) (v1 : Int32) (v2 : Int32) (v3 : Int32) (v4 : Int64) (m : qm_M) : Option qm_R :=
  if (lg_cmp v4 (qo_lshl (1 : Int64) (qo_ishl (1 : Int32) v1))) < 0 then
    qe_rI (f_M_isRoot v4 m) fun x1 m1 =>
    if x1 = 0 then
      l24 v1 v2 v3 (v4 + (1 : Int64)) m1
    else
      if v3 = v2 then
        some (some (.int (Int64.toInt32 v4)), m1)
      else
        l24 v1 v2 (v3 + (1 : Int32)) (v4 + (1 : Int64)) m1
  else
    if v2 = (-1 : Int32) then
      some (some (.int v3), m)
    else
      some (some (.int (-2 : Int32)), m)
set_option maxRecDepth 100000 in
theorem xg_M_roots_24 {kp : pm_K} {d : Nat} {f_M_isIn : Int64 → Int64 → Int64 → qm_M → Option qm_R} {f_M_isRoot : Int64 → qm_M → Option qm_R} {l24 : Int32 → Int32 → Int32 → Int64 → qm_M → Option qm_R} (hT : qe_G kp d (T_M_roots f_M_isIn f_M_isRoot)) (h24 : ∀ (v1 : Int32) (v2 : Int32) (v3 : Int32) (v4 : Int64) (m : qm_M), qe_J kp md_M_roots d (l24 v1 v2 v3 v4 m) 24 [(0, .ref 112), (1, .int v1), (2, .int v2), (3, .int v3), (4, .long v4)] [] m) (v1 : Int32) (v2 : Int32) (v3 : Int32) (v4 : Int64) (m : qm_M) : qe_J kp md_M_roots d (X_M_roots_24 f_M_isIn f_M_isRoot l24 v1 v2 v3 v4 m) 24 [(0, .ref 112), (1, .int v1), (2, .int v2), (3, .int v3), (4, .long v4)] [] m := qe_run (B := [(24, [0, 1, 2, 3, 4], qp_ciiil_ 112 l24)]) (n := 1000) hT (qe_B1 (qp_ciiil__ok h24) qe_B0) rfl
def L_M_roots_24 : Nat → Int32 → Int32 → Int32 → Int64 → qm_M → Option qm_R
  | 0, _, _, _, _, _ => none
  | n + 1, v1, v2, v3, v4, m => X_M_roots_24 F_M_isIn F_M_isRoot (L_M_roots_24 n) v1 v2 v3 v4 m
theorem lg_M_roots_24 {kp : pm_K} {d : Nat} (hT : qe_G kp d (T_M_roots F_M_isIn F_M_isRoot)) : ∀ (n : Nat) (v1 : Int32) (v2 : Int32) (v3 : Int32) (v4 : Int64) (m : qm_M), qe_J kp md_M_roots d (L_M_roots_24 n v1 v2 v3 v4 m) 24 [(0, .ref 112), (1, .int v1), (2, .int v2), (3, .int v3), (4, .long v4)] [] m
  | 0, v1, v2, v3, v4, m => qe_none rfl
  | n + 1, v1, v2, v3, v4, m => xg_M_roots_24 hT (lg_M_roots_24 hT n) v1 v2 v3 v4 m
def X_M_roots_e (f_M_isIn : Int64 → Int64 → Int64 → qm_M → Option qm_R) (f_M_isRoot : Int64 → qm_M → Option qm_R) (l24 : Int32 → Int32 → Int32 → Int64 → qm_M → Option qm_R) (v1 : Int32) (v2 : Int32) (m : qm_M) : Option qm_R :=
  qe_rI (f_M_isIn (Int32.toInt64 v1) (0 : Int64) (4 : Int64) m) fun x1 m1 =>
  if x1 = 0 then
    some (some (.int (-1 : Int32)), m1)
  else
    if v2 < (-1 : Int32) then
      some (some (.int (-1 : Int32)), m1)
    else
      l24 v1 v2 (0 : Int32) (0 : Int64) m1
set_option maxRecDepth 100000 in
theorem xg_M_roots_e {kp : pm_K} {d : Nat} {f_M_isIn : Int64 → Int64 → Int64 → qm_M → Option qm_R} {f_M_isRoot : Int64 → qm_M → Option qm_R} {l24 : Int32 → Int32 → Int32 → Int64 → qm_M → Option qm_R} (hT : qe_G kp d (T_M_roots f_M_isIn f_M_isRoot)) (h24 : ∀ (v1 : Int32) (v2 : Int32) (v3 : Int32) (v4 : Int64) (m : qm_M), qe_J kp md_M_roots d (l24 v1 v2 v3 v4 m) 24 [(0, .ref 112), (1, .int v1), (2, .int v2), (3, .int v3), (4, .long v4)] [] m) (v1 : Int32) (v2 : Int32) (m : qm_M) : qe_J kp md_M_roots d (X_M_roots_e f_M_isIn f_M_isRoot l24 v1 v2 m) 0 [(0, .ref 112), (1, .int v1), (2, .int v2)] [] m := qe_run (B := [(24, [0, 1, 2, 3, 4], qp_ciiil_ 112 l24)]) (n := 1000) hT (qe_B1 (qp_ciiil__ok h24) qe_B0) rfl
def F_M_roots (v1 : Int32) (v2 : Int32) (m : qm_M) : Option qm_R := X_M_roots_e F_M_isIn F_M_isRoot (L_M_roots_24 1000000) v1 v2 m
theorem fj_M_roots {kp : pm_K} {d : Nat} (hT : qe_G kp d (T_M_roots F_M_isIn F_M_isRoot)) (v1 : Int32) (v2 : Int32) (m : qm_M) : qe_J kp md_M_roots d (F_M_roots v1 v2 m) 0 [(0, .ref 112), (1, .int v1), (2, .int v2)] [] m := xg_M_roots_e hT (lg_M_roots_24 hT 1000000) v1 v2 m
theorem fg_M_roots {kp : pm_K} (d : Nat) : qe_GE kp (d + 4) (223, 0, 11, 1, qw_cii 112 F_M_roots) := qe_entry (by decide +kernel) (qw_cii_ok (d := d + 3) rfl rfl (fj_M_roots (qe_G1 (fg_M_isIn (d + 2)) (qe_G1 (fg_M_isRoot (d + 0)) qe_G0))))
/-! TurnFieldModel.degreeOf([J)I -/
noncomputable def T_M_degreeOf_AJI : qe_T := []
def X_M_degreeOf_AJI_2 (l2 : Nat → Int32 → qm_M → Option qm_R) (v0 : Nat) (v1 : Int32) (m : qm_M) : Option qm_R :=
  if v1 < 0 then
    some (some (.int v1), m)
  else
    qe_b (qm_isA v0 1) (
    qe_b (qm_in v1 (qm_n v0)) (
    if (lg_cmp (qm_gL m v0 (Int32.toNatClampNeg v1)) (0 : Int64)) = 0 then
      l2 v0 (v1 + (-1 : Int32)) m
    else
      some (some (.int v1), m)))
set_option maxRecDepth 100000 in
theorem xg_M_degreeOf_AJI_2 {kp : pm_K} {d : Nat} {l2 : Nat → Int32 → qm_M → Option qm_R} (hT : qe_G kp d (T_M_degreeOf_AJI)) (h2 : ∀ (v0 : Nat) (v1 : Int32) (m : qm_M), qe_J kp md_M_degreeOf_AJI d (l2 v0 v1 m) 2 [(0, .ref v0), (1, .int v1)] [] m) (v0 : Nat) (v1 : Int32) (m : qm_M) : qe_J kp md_M_degreeOf_AJI d (X_M_degreeOf_AJI_2 l2 v0 v1 m) 2 [(0, .ref v0), (1, .int v1)] [] m := qe_run (B := [(2, [0, 1], qp_ri_ l2)]) (n := 1000) hT (qe_B1 (qp_ri__ok h2) qe_B0) rfl
def L_M_degreeOf_AJI_2 : Nat → Nat → Int32 → qm_M → Option qm_R
  | 0, _, _, _ => none
  | n + 1, v0, v1, m => X_M_degreeOf_AJI_2 (L_M_degreeOf_AJI_2 n) v0 v1 m
theorem lg_M_degreeOf_AJI_2 {kp : pm_K} {d : Nat} (hT : qe_G kp d (T_M_degreeOf_AJI)) : ∀ (n : Nat) (v0 : Nat) (v1 : Int32) (m : qm_M), qe_J kp md_M_degreeOf_AJI d (L_M_degreeOf_AJI_2 n v0 v1 m) 2 [(0, .ref v0), (1, .int v1)] [] m
  | 0, v0, v1, m => qe_none rfl
  | n + 1, v0, v1, m => xg_M_degreeOf_AJI_2 hT (lg_M_degreeOf_AJI_2 hT n) v0 v1 m
def X_M_degreeOf_AJI_e (l2 : Nat → Int32 → qm_M → Option qm_R) (v0 : Nat) (m : qm_M) : Option qm_R :=
  l2 v0 (3 : Int32) m
set_option maxRecDepth 100000 in
theorem xg_M_degreeOf_AJI_e {kp : pm_K} {d : Nat} {l2 : Nat → Int32 → qm_M → Option qm_R} (hT : qe_G kp d (T_M_degreeOf_AJI)) (h2 : ∀ (v0 : Nat) (v1 : Int32) (m : qm_M), qe_J kp md_M_degreeOf_AJI d (l2 v0 v1 m) 2 [(0, .ref v0), (1, .int v1)] [] m) (v0 : Nat) (m : qm_M) : qe_J kp md_M_degreeOf_AJI d (X_M_degreeOf_AJI_e l2 v0 m) 0 [(0, .ref v0)] [] m := qe_run (B := [(2, [0, 1], qp_ri_ l2)]) (n := 1000) hT (qe_B1 (qp_ri__ok h2) qe_B0) rfl
def F_M_degreeOf_AJI (v0 : Nat) (m : qm_M) : Option qm_R := X_M_degreeOf_AJI_e (L_M_degreeOf_AJI_2 1000000) v0 m
theorem fj_M_degreeOf_AJI {kp : pm_K} {d : Nat} (hT : qe_G kp d (T_M_degreeOf_AJI)) (v0 : Nat) (m : qm_M) : qe_J kp md_M_degreeOf_AJI d (F_M_degreeOf_AJI v0 m) 0 [(0, .ref v0)] [] m := xg_M_degreeOf_AJI_e hT (lg_M_degreeOf_AJI_2 hT 1000000) v0 m
theorem fg_M_degreeOf_AJI {kp : pm_K} (d : Nat) : qe_GE kp (d + 1) (224, 1, 0, 1, qw_r F_M_degreeOf_AJI) := qe_entry (by decide +kernel) (qw_r_ok (d := d + 0) rfl rfl (fj_M_degreeOf_AJI qe_G0))
/-! TurnFieldModel.leaves([J[J)V -/
noncomputable def T_M_leaves (f_M_degreeOf_AJI : Nat → qm_M → Option qm_R) (f_M_inverseOf : Int64 → qm_M → Option qm_R) (f_M_product : Int64 → Int64 → qm_M → Option qm_R) : qe_T := [(224, 1, 0, 1, qw_r f_M_degreeOf_AJI), (197, 0, 11, 2, qw_cl 112 f_M_inverseOf), (192, 0, 11, 2, qw_cll 112 f_M_product)]
def X_M_leaves_41 (f_M_degreeOf_AJI : Nat → qm_M → Option qm_R) (f_M_inverseOf : Int64 → qm_M → Option qm_R) (f_M_product : Int64 → Int64 → qm_M → Option qm_R) (l20 : Nat → Nat → Int32 → Int64 → Int32 → qm_M → Option qm_R) (l41 : Nat → Nat → Int32 → Int64 → Int32 → Int64 → Int32 → qm_M → Option qm_R) (v1 : Nat) (v2 : Nat) (v3 : Int32) (v4 : Int64) (v6 : Int32) (v7 : Int64) (v9 : Int32) (m : qm_M) : Option qm_R :=
  if v3 < v9 then
    qe_rI (f_M_degreeOf_AJI v1 m) fun x1 m1 =>
    l20 v1 v2 v3 v4 x1 m1
  else
    qe_b (qm_isA v1 1) (
    qe_b (qm_in ((v6 - v3) + v9) (qm_n v1)) (
    qe_b (qm_isA v2 1) (
    qe_b (qm_in v9 (qm_n v2)) (
    qe_rL (f_M_product v7 (qm_gL m v2 (Int32.toNatClampNeg v9)) m) fun x2 m2 =>
    qe_b (qm_isL v1 1) (
    qe_b (qm_in ((v6 - v3) + v9) (qm_nl v1)) (
    let m3 : qm_M := qm_sL m2 v1 (Int32.toNatClampNeg ((v6 - v3) + v9)) ((qm_gL m v1 (Int32.toNatClampNeg ((v6 - v3) + v9))) ^^^ x2)
    l41 v1 v2 v3 v4 v6 v7 (v9 + (1 : Int32)) m3))))))
set_option maxRecDepth 100000 in
theorem xg_M_leaves_41 {kp : pm_K} {d : Nat} {f_M_degreeOf_AJI : Nat → qm_M → Option qm_R} {f_M_inverseOf : Int64 → qm_M → Option qm_R} {f_M_product : Int64 → Int64 → qm_M → Option qm_R} {l20 : Nat → Nat → Int32 → Int64 → Int32 → qm_M → Option qm_R} {l41 : Nat → Nat → Int32 → Int64 → Int32 → Int64 → Int32 → qm_M → Option qm_R} (hT : qe_G kp d (T_M_leaves f_M_degreeOf_AJI f_M_inverseOf f_M_product)) (h20 : ∀ (v1 : Nat) (v2 : Nat) (v3 : Int32) (v4 : Int64) (v6 : Int32) (m : qm_M), qe_J kp md_M_leaves d (l20 v1 v2 v3 v4 v6 m) 20 [(0, .ref 112), (1, .ref v1), (2, .ref v2), (3, .int v3), (4, .long v4), (6, .int v6)] [] m) (h41 : ∀ (v1 : Nat) (v2 : Nat) (v3 : Int32) (v4 : Int64) (v6 : Int32) (v7 : Int64) (v9 : Int32) (m : qm_M), qe_J kp md_M_leaves d (l41 v1 v2 v3 v4 v6 v7 v9 m) 41 [(0, .ref 112), (1, .ref v1), (2, .ref v2), (3, .int v3), (4, .long v4), (6, .int v6), (7, .long v7), (9, .int v9)] [] m) (v1 : Nat) (v2 : Nat) (v3 : Int32) (v4 : Int64) (v6 : Int32) (v7 : Int64) (v9 : Int32) (m : qm_M) : qe_J kp md_M_leaves d (X_M_leaves_41 f_M_degreeOf_AJI f_M_inverseOf f_M_product l20 l41 v1 v2 v3 v4 v6 v7 v9 m) 41 [(0, .ref 112), (1, .ref v1), (2, .ref v2), (3, .int v3), (4, .long v4), (6, .int v6), (7, .long v7), (9, .int v9)] [] m := qe_run (B := [(20, [0, 1, 2, 3, 4, 6], qp_crrili_ 112 l20), (41, [0, 1, 2, 3, 4, 6, 7, 9], qp_crrilili_ 112 l41)]) (n := 1000) hT (qe_B1 (qp_crrili__ok h20) (qe_B1 (qp_crrilili__ok h41) qe_B0)) rfl
def L_M_leaves_41 (K20 : Nat → Nat → Int32 → Int64 → Int32 → qm_M → Option qm_R) : Nat → Nat → Nat → Int32 → Int64 → Int32 → Int64 → Int32 → qm_M → Option qm_R
  | 0, _, _, _, _, _, _, _, _ => none
  | n + 1, v1, v2, v3, v4, v6, v7, v9, m => X_M_leaves_41 F_M_degreeOf_AJI F_M_inverseOf F_M_product K20 (L_M_leaves_41 K20 n) v1 v2 v3 v4 v6 v7 v9 m
theorem lg_M_leaves_41 {kp : pm_K} {d : Nat} (hT : qe_G kp d (T_M_leaves F_M_degreeOf_AJI F_M_inverseOf F_M_product)) {K20 : Nat → Nat → Int32 → Int64 → Int32 → qm_M → Option qm_R} (hK20 : ∀ (v1 : Nat) (v2 : Nat) (v3 : Int32) (v4 : Int64) (v6 : Int32) (m : qm_M), qe_J kp md_M_leaves d (K20 v1 v2 v3 v4 v6 m) 20 [(0, .ref 112), (1, .ref v1), (2, .ref v2), (3, .int v3), (4, .long v4), (6, .int v6)] [] m) : ∀ (n : Nat) (v1 : Nat) (v2 : Nat) (v3 : Int32) (v4 : Int64) (v6 : Int32) (v7 : Int64) (v9 : Int32) (m : qm_M), qe_J kp md_M_leaves d (L_M_leaves_41 K20 n v1 v2 v3 v4 v6 v7 v9 m) 41 [(0, .ref 112), (1, .ref v1), (2, .ref v2), (3, .int v3), (4, .long v4), (6, .int v6), (7, .long v7), (9, .int v9)] [] m
  | 0, v1, v2, v3, v4, v6, v7, v9, m => qe_none rfl
  | n + 1, v1, v2, v3, v4, v6, v7, v9, m => xg_M_leaves_41 hT hK20 (lg_M_leaves_41 hT hK20 n) v1 v2 v3 v4 v6 v7 v9 m
def X_M_leaves_20 (f_M_degreeOf_AJI : Nat → qm_M → Option qm_R) (f_M_inverseOf : Int64 → qm_M → Option qm_R) (f_M_product : Int64 → Int64 → qm_M → Option qm_R) (l41 : Nat → Nat → Int32 → Int64 → Int32 → Int64 → Int32 → qm_M → Option qm_R) (v1 : Nat) (v2 : Nat) (v3 : Int32) (v4 : Int64) (v6 : Int32) (m : qm_M) : Option qm_R :=
  if v6 < v3 then
    some (none, m)
  else
    qe_b (qm_isA v1 1) (
    qe_b (qm_in v6 (qm_n v1)) (
    qe_rL (f_M_product (qm_gL m v1 (Int32.toNatClampNeg v6)) v4 m) fun x1 m1 =>
    l41 v1 v2 v3 v4 v6 x1 (0 : Int32) m1))
set_option maxRecDepth 100000 in
theorem xg_M_leaves_20 {kp : pm_K} {d : Nat} {f_M_degreeOf_AJI : Nat → qm_M → Option qm_R} {f_M_inverseOf : Int64 → qm_M → Option qm_R} {f_M_product : Int64 → Int64 → qm_M → Option qm_R} {l41 : Nat → Nat → Int32 → Int64 → Int32 → Int64 → Int32 → qm_M → Option qm_R} (hT : qe_G kp d (T_M_leaves f_M_degreeOf_AJI f_M_inverseOf f_M_product)) (h41 : ∀ (v1 : Nat) (v2 : Nat) (v3 : Int32) (v4 : Int64) (v6 : Int32) (v7 : Int64) (v9 : Int32) (m : qm_M), qe_J kp md_M_leaves d (l41 v1 v2 v3 v4 v6 v7 v9 m) 41 [(0, .ref 112), (1, .ref v1), (2, .ref v2), (3, .int v3), (4, .long v4), (6, .int v6), (7, .long v7), (9, .int v9)] [] m) (v1 : Nat) (v2 : Nat) (v3 : Int32) (v4 : Int64) (v6 : Int32) (m : qm_M) : qe_J kp md_M_leaves d (X_M_leaves_20 f_M_degreeOf_AJI f_M_inverseOf f_M_product l41 v1 v2 v3 v4 v6 m) 20 [(0, .ref 112), (1, .ref v1), (2, .ref v2), (3, .int v3), (4, .long v4), (6, .int v6)] [] m := qe_run (B := [(41, [0, 1, 2, 3, 4, 6, 7, 9], qp_crrilili_ 112 l41)]) (n := 1000) hT (qe_B1 (qp_crrilili__ok h41) qe_B0) rfl
def L_M_leaves_20 : Nat → Nat → Nat → Int32 → Int64 → Int32 → qm_M → Option qm_R
  | 0, _, _, _, _, _, _ => none
  | n + 1, v1, v2, v3, v4, v6, m => X_M_leaves_20 F_M_degreeOf_AJI F_M_inverseOf F_M_product (L_M_leaves_41 (L_M_leaves_20 n) 1000000) v1 v2 v3 v4 v6 m
theorem lg_M_leaves_20 {kp : pm_K} {d : Nat} (hT : qe_G kp d (T_M_leaves F_M_degreeOf_AJI F_M_inverseOf F_M_product)) : ∀ (n : Nat) (v1 : Nat) (v2 : Nat) (v3 : Int32) (v4 : Int64) (v6 : Int32) (m : qm_M), qe_J kp md_M_leaves d (L_M_leaves_20 n v1 v2 v3 v4 v6 m) 20 [(0, .ref 112), (1, .ref v1), (2, .ref v2), (3, .int v3), (4, .long v4), (6, .int v6)] [] m
  | 0, v1, v2, v3, v4, v6, m => qe_none rfl
  | n + 1, v1, v2, v3, v4, v6, m => xg_M_leaves_20 hT (lg_M_leaves_41 hT (lg_M_leaves_20 hT n) 1000000) v1 v2 v3 v4 v6 m
def X_M_leaves_e (f_M_degreeOf_AJI : Nat → qm_M → Option qm_R) (f_M_inverseOf : Int64 → qm_M → Option qm_R) (f_M_product : Int64 → Int64 → qm_M → Option qm_R) (l20 : Nat → Nat → Int32 → Int64 → Int32 → qm_M → Option qm_R) (v1 : Nat) (v2 : Nat) (m : qm_M) : Option qm_R :=
  qe_rI (f_M_degreeOf_AJI v2 m) fun x1 m1 =>
  qe_b (qm_isA v2 1) (
  qe_b (qm_in x1 (qm_n v2)) (
  qe_rL (f_M_inverseOf (qm_gL m1 v2 (Int32.toNatClampNeg x1)) m1) fun x2 m2 =>
  qe_rI (f_M_degreeOf_AJI v1 m2) fun x3 m3 =>
  l20 v1 v2 x1 x2 x3 m3))
set_option maxRecDepth 100000 in
theorem xg_M_leaves_e {kp : pm_K} {d : Nat} {f_M_degreeOf_AJI : Nat → qm_M → Option qm_R} {f_M_inverseOf : Int64 → qm_M → Option qm_R} {f_M_product : Int64 → Int64 → qm_M → Option qm_R} {l20 : Nat → Nat → Int32 → Int64 → Int32 → qm_M → Option qm_R} (hT : qe_G kp d (T_M_leaves f_M_degreeOf_AJI f_M_inverseOf f_M_product)) (h20 : ∀ (v1 : Nat) (v2 : Nat) (v3 : Int32) (v4 : Int64) (v6 : Int32) (m : qm_M), qe_J kp md_M_leaves d (l20 v1 v2 v3 v4 v6 m) 20 [(0, .ref 112), (1, .ref v1), (2, .ref v2), (3, .int v3), (4, .long v4), (6, .int v6)] [] m) (v1 : Nat) (v2 : Nat) (m : qm_M) : qe_J kp md_M_leaves d (X_M_leaves_e f_M_degreeOf_AJI f_M_inverseOf f_M_product l20 v1 v2 m) 0 [(0, .ref 112), (1, .ref v1), (2, .ref v2)] [] m := qe_run (B := [(20, [0, 1, 2, 3, 4, 6], qp_crrili_ 112 l20)]) (n := 1000) hT (qe_B1 (qp_crrili__ok h20) qe_B0) rfl
def F_M_leaves (v1 : Nat) (v2 : Nat) (m : qm_M) : Option qm_R := X_M_leaves_e F_M_degreeOf_AJI F_M_inverseOf F_M_product (L_M_leaves_20 1000000) v1 v2 m
theorem fj_M_leaves {kp : pm_K} {d : Nat} (hT : qe_G kp d (T_M_leaves F_M_degreeOf_AJI F_M_inverseOf F_M_product)) (v1 : Nat) (v2 : Nat) (m : qm_M) : qe_J kp md_M_leaves d (F_M_leaves v1 v2 m) 0 [(0, .ref 112), (1, .ref v1), (2, .ref v2)] [] m := xg_M_leaves_e hT (lg_M_leaves_20 hT 1000000) v1 v2 m
theorem fg_M_leaves {kp : pm_K} (d : Nat) : qe_GE kp (d + 6) (225, 0, 11, 0, qw_crr 112 F_M_leaves) := qe_entry (by decide +kernel) (qw_crr_ok (d := d + 5) rfl rfl (fj_M_leaves (qe_G1 (fg_M_degreeOf_AJI (d + 4)) (qe_G1 (fg_M_inverseOf (d + 0)) (qe_G1 (fg_M_product (d + 3)) qe_G0)))))
/-! TurnFieldModel.laysCommon()V -/
noncomputable def T_M_laysCommon (f_M_placeOf : Int32 → qm_M → Option qm_R) (f_M_degreeOf_AJI : Nat → qm_M → Option qm_R) (f_M_inverseOf : Int64 → qm_M → Option qm_R) (f_M_leaves : Nat → Nat → qm_M → Option qm_R) (f_M_product : Int64 → Int64 → qm_M → Option qm_R) : qe_T := [(217, 0, 11, 2, qw_ci 112 f_M_placeOf), (224, 1, 0, 1, qw_r f_M_degreeOf_AJI), (197, 0, 11, 2, qw_cl 112 f_M_inverseOf), (225, 0, 11, 0, qw_crr 112 f_M_leaves), (192, 0, 11, 2, qw_cll 112 f_M_product)]
def X_M_laysCommon_131 (f_M_placeOf : Int32 → qm_M → Option qm_R) (f_M_degreeOf_AJI : Nat → qm_M → Option qm_R) (f_M_inverseOf : Int64 → qm_M → Option qm_R) (f_M_leaves : Nat → Nat → qm_M → Option qm_R) (f_M_product : Int64 → Int64 → qm_M → Option qm_R) (l131 : Int64 → Int32 → qm_M → Option qm_R) (v2 : Int64) (v4 : Int32) (m : qm_M) : Option qm_R :=
  if v4 < (4 : Int32) then
    qe_b (qm_in v4 4) (
    qe_rL (f_M_product (m.2 123 (Int32.toNatClampNeg v4)) v2 m) fun x1 m1 =>
    qe_b (qm_in v4 4) (
    let m2 : qm_M := qm_sL m1 123 (Int32.toNatClampNeg v4) x1
    l131 v2 (v4 + (1 : Int32)) m2))
  else
    some (none, m)
set_option maxRecDepth 100000 in
theorem xg_M_laysCommon_131 {kp : pm_K} {d : Nat} {f_M_placeOf : Int32 → qm_M → Option qm_R} {f_M_degreeOf_AJI : Nat → qm_M → Option qm_R} {f_M_inverseOf : Int64 → qm_M → Option qm_R} {f_M_leaves : Nat → Nat → qm_M → Option qm_R} {f_M_product : Int64 → Int64 → qm_M → Option qm_R} {l131 : Int64 → Int32 → qm_M → Option qm_R} (hT : qe_G kp d (T_M_laysCommon f_M_placeOf f_M_degreeOf_AJI f_M_inverseOf f_M_leaves f_M_product)) (h131 : ∀ (v2 : Int64) (v4 : Int32) (m : qm_M), qe_J kp md_M_laysCommon d (l131 v2 v4 m) 131 [(0, .ref 112), (2, .long v2), (4, .int v4)] [] m) (v2 : Int64) (v4 : Int32) (m : qm_M) : qe_J kp md_M_laysCommon d (X_M_laysCommon_131 f_M_placeOf f_M_degreeOf_AJI f_M_inverseOf f_M_leaves f_M_product l131 v2 v4 m) 131 [(0, .ref 112), (2, .long v2), (4, .int v4)] [] m := qe_run (B := [(131, [0, 2, 4], qp_cli_ 112 l131)]) (n := 1000) hT (qe_B1 (qp_cli__ok h131) qe_B0) rfl
def L_M_laysCommon_131 : Nat → Int64 → Int32 → qm_M → Option qm_R
  | 0, _, _, _ => none
  | n + 1, v2, v4, m => X_M_laysCommon_131 F_M_placeOf F_M_degreeOf_AJI F_M_inverseOf F_M_leaves F_M_product (L_M_laysCommon_131 n) v2 v4 m
theorem lg_M_laysCommon_131 {kp : pm_K} {d : Nat} (hT : qe_G kp d (T_M_laysCommon F_M_placeOf F_M_degreeOf_AJI F_M_inverseOf F_M_leaves F_M_product)) : ∀ (n : Nat) (v2 : Int64) (v4 : Int32) (m : qm_M), qe_J kp md_M_laysCommon d (L_M_laysCommon_131 n v2 v4 m) 131 [(0, .ref 112), (2, .long v2), (4, .int v4)] [] m
  | 0, v2, v4, m => qe_none rfl
  | n + 1, v2, v4, m => xg_M_laysCommon_131 hT (lg_M_laysCommon_131 hT n) v2 v4 m
def X_M_laysCommon_61 (f_M_placeOf : Int32 → qm_M → Option qm_R) (f_M_degreeOf_AJI : Nat → qm_M → Option qm_R) (f_M_inverseOf : Int64 → qm_M → Option qm_R) (f_M_leaves : Nat → Nat → qm_M → Option qm_R) (f_M_product : Int64 → Int64 → qm_M → Option qm_R) (l37 : qm_M → Option qm_R) (l61 : Int32 → qm_M → Option qm_R) (v1 : Int32) (m : qm_M) : Option qm_R :=
  if v1 < (4 : Int32) then
    qe_b (qm_in v1 4) (
    qe_b (qm_in v1 4) (
    qe_b (qm_in v1 4) (
    let m1 : qm_M := qm_sL m 123 (Int32.toNatClampNeg v1) (m.2 124 (Int32.toNatClampNeg v1))
    qe_b (qm_in v1 4) (
    let m2 : qm_M := qm_sL m1 124 (Int32.toNatClampNeg v1) (m.2 123 (Int32.toNatClampNeg v1))
    l61 (v1 + (1 : Int32)) m2))))
  else
    l37 m
set_option maxRecDepth 100000 in
theorem xg_M_laysCommon_61 {kp : pm_K} {d : Nat} {f_M_placeOf : Int32 → qm_M → Option qm_R} {f_M_degreeOf_AJI : Nat → qm_M → Option qm_R} {f_M_inverseOf : Int64 → qm_M → Option qm_R} {f_M_leaves : Nat → Nat → qm_M → Option qm_R} {f_M_product : Int64 → Int64 → qm_M → Option qm_R} {l37 : qm_M → Option qm_R} {l61 : Int32 → qm_M → Option qm_R} (hT : qe_G kp d (T_M_laysCommon f_M_placeOf f_M_degreeOf_AJI f_M_inverseOf f_M_leaves f_M_product)) (h37 : ∀ (m : qm_M), qe_J kp md_M_laysCommon d (l37 m) 37 [(0, .ref 112)] [] m) (h61 : ∀ (v1 : Int32) (m : qm_M), qe_J kp md_M_laysCommon d (l61 v1 m) 61 [(0, .ref 112), (1, .int v1)] [] m) (v1 : Int32) (m : qm_M) : qe_J kp md_M_laysCommon d (X_M_laysCommon_61 f_M_placeOf f_M_degreeOf_AJI f_M_inverseOf f_M_leaves f_M_product l37 l61 v1 m) 61 [(0, .ref 112), (1, .int v1)] [] m := qe_run (B := [(37, [0], qp_c_ 112 l37), (61, [0, 1], qp_ci_ 112 l61)]) (n := 1000) hT (qe_B1 (qp_c__ok h37) (qe_B1 (qp_ci__ok h61) qe_B0)) rfl
def L_M_laysCommon_61 (K37 : qm_M → Option qm_R) : Nat → Int32 → qm_M → Option qm_R
  | 0, _, _ => none
  | n + 1, v1, m => X_M_laysCommon_61 F_M_placeOf F_M_degreeOf_AJI F_M_inverseOf F_M_leaves F_M_product K37 (L_M_laysCommon_61 K37 n) v1 m
theorem lg_M_laysCommon_61 {kp : pm_K} {d : Nat} (hT : qe_G kp d (T_M_laysCommon F_M_placeOf F_M_degreeOf_AJI F_M_inverseOf F_M_leaves F_M_product)) {K37 : qm_M → Option qm_R} (hK37 : ∀ (m : qm_M), qe_J kp md_M_laysCommon d (K37 m) 37 [(0, .ref 112)] [] m) : ∀ (n : Nat) (v1 : Int32) (m : qm_M), qe_J kp md_M_laysCommon d (L_M_laysCommon_61 K37 n v1 m) 61 [(0, .ref 112), (1, .int v1)] [] m
  | 0, v1, m => qe_none rfl
  | n + 1, v1, m => xg_M_laysCommon_61 hT hK37 (lg_M_laysCommon_61 hT hK37 n) v1 m
def X_M_laysCommon_37 (f_M_placeOf : Int32 → qm_M → Option qm_R) (f_M_degreeOf_AJI : Nat → qm_M → Option qm_R) (f_M_inverseOf : Int64 → qm_M → Option qm_R) (f_M_leaves : Nat → Nat → qm_M → Option qm_R) (f_M_product : Int64 → Int64 → qm_M → Option qm_R) (l61 : Int32 → qm_M → Option qm_R) (l131 : Int64 → Int32 → qm_M → Option qm_R)  (m : qm_M) : Option qm_R :=
  qe_rI (f_M_degreeOf_AJI 124 m) fun x1 m1 =>
  if x1 < 0 then
    qe_rI (f_M_degreeOf_AJI 123 m1) fun x2 m2 =>
    if x2 < 0 then
      l131 (0 : Int64) (0 : Int32) m2
    else
      qe_b (qm_in x2 4) (
      qe_rL (f_M_inverseOf (m2.2 123 (Int32.toNatClampNeg x2)) m2) fun x3 m3 =>
      l131 x3 (0 : Int32) m3)
  else
    qe_rV (f_M_leaves 123 124 m1) fun m4 =>
    l61 (0 : Int32) m4
set_option maxRecDepth 100000 in
theorem xg_M_laysCommon_37 {kp : pm_K} {d : Nat} {f_M_placeOf : Int32 → qm_M → Option qm_R} {f_M_degreeOf_AJI : Nat → qm_M → Option qm_R} {f_M_inverseOf : Int64 → qm_M → Option qm_R} {f_M_leaves : Nat → Nat → qm_M → Option qm_R} {f_M_product : Int64 → Int64 → qm_M → Option qm_R} {l61 : Int32 → qm_M → Option qm_R} {l131 : Int64 → Int32 → qm_M → Option qm_R} (hT : qe_G kp d (T_M_laysCommon f_M_placeOf f_M_degreeOf_AJI f_M_inverseOf f_M_leaves f_M_product)) (h61 : ∀ (v1 : Int32) (m : qm_M), qe_J kp md_M_laysCommon d (l61 v1 m) 61 [(0, .ref 112), (1, .int v1)] [] m) (h131 : ∀ (v2 : Int64) (v4 : Int32) (m : qm_M), qe_J kp md_M_laysCommon d (l131 v2 v4 m) 131 [(0, .ref 112), (2, .long v2), (4, .int v4)] [] m) (m : qm_M) : qe_J kp md_M_laysCommon d (X_M_laysCommon_37 f_M_placeOf f_M_degreeOf_AJI f_M_inverseOf f_M_leaves f_M_product l61 l131 m) 37 [(0, .ref 112)] [] m := qe_run (B := [(61, [0, 1], qp_ci_ 112 l61), (131, [0, 2, 4], qp_cli_ 112 l131)]) (n := 1000) hT (qe_B1 (qp_ci__ok h61) (qe_B1 (qp_cli__ok h131) qe_B0)) rfl
def L_M_laysCommon_37 : Nat → qm_M → Option qm_R
  | 0, _ => none
  | n + 1, m => X_M_laysCommon_37 F_M_placeOf F_M_degreeOf_AJI F_M_inverseOf F_M_leaves F_M_product (L_M_laysCommon_61 (L_M_laysCommon_37 n) 1000000) (L_M_laysCommon_131 1000000) m
theorem lg_M_laysCommon_37 {kp : pm_K} {d : Nat} (hT : qe_G kp d (T_M_laysCommon F_M_placeOf F_M_degreeOf_AJI F_M_inverseOf F_M_leaves F_M_product)) : ∀ (n : Nat) (m : qm_M), qe_J kp md_M_laysCommon d (L_M_laysCommon_37 n m) 37 [(0, .ref 112)] [] m
  | 0, m => qe_none rfl
  | n + 1, m => xg_M_laysCommon_37 hT (lg_M_laysCommon_61 hT (lg_M_laysCommon_37 hT n) 1000000) (lg_M_laysCommon_131 hT 1000000) m
def X_M_laysCommon_2 (f_M_placeOf : Int32 → qm_M → Option qm_R) (f_M_degreeOf_AJI : Nat → qm_M → Option qm_R) (f_M_inverseOf : Int64 → qm_M → Option qm_R) (f_M_leaves : Nat → Nat → qm_M → Option qm_R) (f_M_product : Int64 → Int64 → qm_M → Option qm_R) (l2 : Int32 → qm_M → Option qm_R) (l37 : qm_M → Option qm_R) (v1 : Int32) (m : qm_M) : Option qm_R :=
  if v1 < (4 : Int32) then
    qe_rL (f_M_placeOf v1 m) fun x1 m1 =>
    qe_b (qm_in v1 4) (
    let m2 : qm_M := qm_sL m1 123 (Int32.toNatClampNeg v1) x1
    qe_rL (f_M_placeOf ((4 : Int32) + v1) m2) fun x2 m3 =>
    qe_b (qm_in v1 4) (
    let m4 : qm_M := qm_sL m3 124 (Int32.toNatClampNeg v1) x2
    l2 (v1 + (1 : Int32)) m4))
  else
    l37 m
set_option maxRecDepth 100000 in
theorem xg_M_laysCommon_2 {kp : pm_K} {d : Nat} {f_M_placeOf : Int32 → qm_M → Option qm_R} {f_M_degreeOf_AJI : Nat → qm_M → Option qm_R} {f_M_inverseOf : Int64 → qm_M → Option qm_R} {f_M_leaves : Nat → Nat → qm_M → Option qm_R} {f_M_product : Int64 → Int64 → qm_M → Option qm_R} {l2 : Int32 → qm_M → Option qm_R} {l37 : qm_M → Option qm_R} (hT : qe_G kp d (T_M_laysCommon f_M_placeOf f_M_degreeOf_AJI f_M_inverseOf f_M_leaves f_M_product)) (h2 : ∀ (v1 : Int32) (m : qm_M), qe_J kp md_M_laysCommon d (l2 v1 m) 2 [(0, .ref 112), (1, .int v1)] [] m) (h37 : ∀ (m : qm_M), qe_J kp md_M_laysCommon d (l37 m) 37 [(0, .ref 112)] [] m) (v1 : Int32) (m : qm_M) : qe_J kp md_M_laysCommon d (X_M_laysCommon_2 f_M_placeOf f_M_degreeOf_AJI f_M_inverseOf f_M_leaves f_M_product l2 l37 v1 m) 2 [(0, .ref 112), (1, .int v1)] [] m := qe_run (B := [(2, [0, 1], qp_ci_ 112 l2), (37, [0], qp_c_ 112 l37)]) (n := 1000) hT (qe_B1 (qp_ci__ok h2) (qe_B1 (qp_c__ok h37) qe_B0)) rfl
def L_M_laysCommon_2 : Nat → Int32 → qm_M → Option qm_R
  | 0, _, _ => none
  | n + 1, v1, m => X_M_laysCommon_2 F_M_placeOf F_M_degreeOf_AJI F_M_inverseOf F_M_leaves F_M_product (L_M_laysCommon_2 n) (L_M_laysCommon_37 1000000) v1 m
theorem lg_M_laysCommon_2 {kp : pm_K} {d : Nat} (hT : qe_G kp d (T_M_laysCommon F_M_placeOf F_M_degreeOf_AJI F_M_inverseOf F_M_leaves F_M_product)) : ∀ (n : Nat) (v1 : Int32) (m : qm_M), qe_J kp md_M_laysCommon d (L_M_laysCommon_2 n v1 m) 2 [(0, .ref 112), (1, .int v1)] [] m
  | 0, v1, m => qe_none rfl
  | n + 1, v1, m => xg_M_laysCommon_2 hT (lg_M_laysCommon_2 hT n) (lg_M_laysCommon_37 hT 1000000) v1 m
def X_M_laysCommon_e (f_M_placeOf : Int32 → qm_M → Option qm_R) (f_M_degreeOf_AJI : Nat → qm_M → Option qm_R) (f_M_inverseOf : Int64 → qm_M → Option qm_R) (f_M_leaves : Nat → Nat → qm_M → Option qm_R) (f_M_product : Int64 → Int64 → qm_M → Option qm_R) (l2 : Int32 → qm_M → Option qm_R)  (m : qm_M) : Option qm_R :=
  l2 (0 : Int32) m
set_option maxRecDepth 100000 in
theorem xg_M_laysCommon_e {kp : pm_K} {d : Nat} {f_M_placeOf : Int32 → qm_M → Option qm_R} {f_M_degreeOf_AJI : Nat → qm_M → Option qm_R} {f_M_inverseOf : Int64 → qm_M → Option qm_R} {f_M_leaves : Nat → Nat → qm_M → Option qm_R} {f_M_product : Int64 → Int64 → qm_M → Option qm_R} {l2 : Int32 → qm_M → Option qm_R} (hT : qe_G kp d (T_M_laysCommon f_M_placeOf f_M_degreeOf_AJI f_M_inverseOf f_M_leaves f_M_product)) (h2 : ∀ (v1 : Int32) (m : qm_M), qe_J kp md_M_laysCommon d (l2 v1 m) 2 [(0, .ref 112), (1, .int v1)] [] m) (m : qm_M) : qe_J kp md_M_laysCommon d (X_M_laysCommon_e f_M_placeOf f_M_degreeOf_AJI f_M_inverseOf f_M_leaves f_M_product l2 m) 0 [(0, .ref 112)] [] m := qe_run (B := [(2, [0, 1], qp_ci_ 112 l2)]) (n := 1000) hT (qe_B1 (qp_ci__ok h2) qe_B0) rfl
def F_M_laysCommon (m : qm_M) : Option qm_R := X_M_laysCommon_e F_M_placeOf F_M_degreeOf_AJI F_M_inverseOf F_M_leaves F_M_product (L_M_laysCommon_2 1000000) m
theorem fj_M_laysCommon {kp : pm_K} {d : Nat} (hT : qe_G kp d (T_M_laysCommon F_M_placeOf F_M_degreeOf_AJI F_M_inverseOf F_M_leaves F_M_product)) (m : qm_M) : qe_J kp md_M_laysCommon d (F_M_laysCommon m) 0 [(0, .ref 112)] [] m := xg_M_laysCommon_e hT (lg_M_laysCommon_2 hT 1000000) m
theorem fg_M_laysCommon {kp : pm_K} (d : Nat) : qe_GE kp (d + 7) (226, 0, 11, 0, qw_c 112 F_M_laysCommon) := qe_entry (by decide +kernel) (qw_c_ok (d := d + 6) rfl rfl (fj_M_laysCommon (qe_G1 (fg_M_placeOf (d + 5)) (qe_G1 (fg_M_degreeOf_AJI (d + 5)) (qe_G1 (fg_M_inverseOf (d + 1)) (qe_G1 (fg_M_leaves (d + 0)) (qe_G1 (fg_M_product (d + 4)) qe_G0)))))))
/-! TurnFieldModel.common(I)J -/
noncomputable def T_M_common (f_M_isIn : Int64 → Int64 → Int64 → qm_M → Option qm_R) (f_M_laysCommon : qm_M → Option qm_R) : qe_T := [(185, 1, 0, 1, qw_lll f_M_isIn), (226, 0, 11, 0, qw_c 112 f_M_laysCommon)]
def X_M_common_e (f_M_isIn : Int64 → Int64 → Int64 → qm_M → Option qm_R) (f_M_laysCommon : qm_M → Option qm_R) (v1 : Int32) (m : qm_M) : Option qm_R :=
  qe_rI (f_M_isIn (Int32.toInt64 v1) (0 : Int64) (3 : Int64) m) fun x1 m1 =>
  if x1 = 0 then
    some (some (.long (0 : Int64)), m1)
  else
    qe_rV (f_M_laysCommon m1) fun m2 =>
    qe_b (qm_in v1 4) (
    some (some (.long (m2.2 123 (Int32.toNatClampNeg v1))), m2))
set_option maxRecDepth 100000 in
theorem xg_M_common_e {kp : pm_K} {d : Nat} {f_M_isIn : Int64 → Int64 → Int64 → qm_M → Option qm_R} {f_M_laysCommon : qm_M → Option qm_R} (hT : qe_G kp d (T_M_common f_M_isIn f_M_laysCommon)) (v1 : Int32) (m : qm_M) : qe_J kp md_M_common d (X_M_common_e f_M_isIn f_M_laysCommon v1 m) 0 [(0, .ref 112), (1, .int v1)] [] m := qe_run (B := []) (n := 1000) hT qe_B0 rfl
def F_M_common (v1 : Int32) (m : qm_M) : Option qm_R := X_M_common_e F_M_isIn F_M_laysCommon v1 m
theorem fj_M_common {kp : pm_K} {d : Nat} (hT : qe_G kp d (T_M_common F_M_isIn F_M_laysCommon)) (v1 : Int32) (m : qm_M) : qe_J kp md_M_common d (F_M_common v1 m) 0 [(0, .ref 112), (1, .int v1)] [] m := xg_M_common_e hT v1 m
theorem fg_M_common {kp : pm_K} (d : Nat) : qe_GE kp (d + 8) (227, 0, 11, 2, qw_ci 112 F_M_common) := qe_entry (by decide +kernel) (qw_ci_ok (d := d + 7) rfl rfl (fj_M_common (qe_G1 (fg_M_isIn (d + 6)) (qe_G1 (fg_M_laysCommon (d + 0)) qe_G0))))
/-! TurnFieldModel.bySet(IJ)J -/
noncomputable def T_M_bySet (f_M_has : Int64 → Int32 → qm_M → Option qm_R) (f_M_product : Int64 → Int64 → qm_M → Option qm_R) (f_M_inverseOf : Int64 → qm_M → Option qm_R) (f_M_placeOf : Int32 → qm_M → Option qm_R) : qe_T := [(186, 1, 0, 1, qw_li f_M_has), (192, 0, 11, 2, qw_cll 112 f_M_product), (197, 0, 11, 2, qw_cl 112 f_M_inverseOf), (217, 0, 11, 2, qw_ci 112 f_M_placeOf)]
def X_M_bySet_35 (f_M_has : Int64 → Int32 → qm_M → Option qm_R) (f_M_product : Int64 → Int64 → qm_M → Option qm_R) (f_M_inverseOf : Int64 → qm_M → Option qm_R) (f_M_placeOf : Int32 → qm_M → Option qm_R) (l6 : Int32 → Int64 → Int64 → Int32 → qm_M → Option qm_R) (l35 : Int32 → Int64 → Int64 → Int32 → Int64 → Int64 → Int32 → qm_M → Option qm_R) (v1 : Int32) (v2 : Int64) (v4 : Int64) (v6 : Int32) (v7 : Int64) (v9 : Int64) (v11 : Int32) (m : qm_M) : Option qm_R :=
  if v11 < (8 : Int32) then
    if v11 = v6 then
      l35 v1 v2 v4 v6 v7 v9 (v11 + (1 : Int32)) m
    else
      qe_rI (f_M_has (Int32.toInt64 v1) v11 m) fun x1 m1 =>
      if x1 = 0 then
        l35 v1 v2 v4 v6 v7 v9 (v11 + (1 : Int32)) m1
      else
        qe_rL (f_M_product v7 (v2 ^^^ (Int32.toInt64 v11)) m1) fun x2 m2 =>
        qe_rL (f_M_product v9 (Int32.toInt64 (v6 ^^^ v11)) m2) fun x3 m3 =>
        l35 v1 v2 v4 v6 x2 x3 (v11 + (1 : Int32)) m3
  else
    qe_rL (f_M_inverseOf v9 m) fun x4 m4 =>
    qe_rL (f_M_product v7 x4 m4) fun x5 m5 =>
    qe_rL (f_M_placeOf v6 m5) fun x6 m6 =>
    qe_rL (f_M_product x5 x6 m6) fun x7 m7 =>
    l6 v1 v2 (v4 ^^^ x7) (v6 + (1 : Int32)) m7
set_option maxRecDepth 100000 in
theorem xg_M_bySet_35 {kp : pm_K} {d : Nat} {f_M_has : Int64 → Int32 → qm_M → Option qm_R} {f_M_product : Int64 → Int64 → qm_M → Option qm_R} {f_M_inverseOf : Int64 → qm_M → Option qm_R} {f_M_placeOf : Int32 → qm_M → Option qm_R} {l6 : Int32 → Int64 → Int64 → Int32 → qm_M → Option qm_R} {l35 : Int32 → Int64 → Int64 → Int32 → Int64 → Int64 → Int32 → qm_M → Option qm_R} (hT : qe_G kp d (T_M_bySet f_M_has f_M_product f_M_inverseOf f_M_placeOf)) (h6 : ∀ (v1 : Int32) (v2 : Int64) (v4 : Int64) (v6 : Int32) (m : qm_M), qe_J kp md_M_bySet d (l6 v1 v2 v4 v6 m) 6 [(0, .ref 112), (1, .int v1), (2, .long v2), (4, .long v4), (6, .int v6)] [] m) (h35 : ∀ (v1 : Int32) (v2 : Int64) (v4 : Int64) (v6 : Int32) (v7 : Int64) (v9 : Int64) (v11 : Int32) (m : qm_M), qe_J kp md_M_bySet d (l35 v1 v2 v4 v6 v7 v9 v11 m) 35 [(0, .ref 112), (1, .int v1), (2, .long v2), (4, .long v4), (6, .int v6), (7, .long v7), (9, .long v9), (11, .int v11)] [] m) (v1 : Int32) (v2 : Int64) (v4 : Int64) (v6 : Int32) (v7 : Int64) (v9 : Int64) (v11 : Int32) (m : qm_M) : qe_J kp md_M_bySet d (X_M_bySet_35 f_M_has f_M_product f_M_inverseOf f_M_placeOf l6 l35 v1 v2 v4 v6 v7 v9 v11 m) 35 [(0, .ref 112), (1, .int v1), (2, .long v2), (4, .long v4), (6, .int v6), (7, .long v7), (9, .long v9), (11, .int v11)] [] m := qe_run (B := [(6, [0, 1, 2, 4, 6], qp_cilli_ 112 l6), (35, [0, 1, 2, 4, 6, 7, 9, 11], qp_cillilli_ 112 l35)]) (n := 1000) hT (qe_B1 (qp_cilli__ok h6) (qe_B1 (qp_cillilli__ok h35) qe_B0)) rfl
def L_M_bySet_35 (K6 : Int32 → Int64 → Int64 → Int32 → qm_M → Option qm_R) : Nat → Int32 → Int64 → Int64 → Int32 → Int64 → Int64 → Int32 → qm_M → Option qm_R
  | 0, _, _, _, _, _, _, _, _ => none
  | n + 1, v1, v2, v4, v6, v7, v9, v11, m => X_M_bySet_35 F_M_has F_M_product F_M_inverseOf F_M_placeOf K6 (L_M_bySet_35 K6 n) v1 v2 v4 v6 v7 v9 v11 m
theorem lg_M_bySet_35 {kp : pm_K} {d : Nat} (hT : qe_G kp d (T_M_bySet F_M_has F_M_product F_M_inverseOf F_M_placeOf)) {K6 : Int32 → Int64 → Int64 → Int32 → qm_M → Option qm_R} (hK6 : ∀ (v1 : Int32) (v2 : Int64) (v4 : Int64) (v6 : Int32) (m : qm_M), qe_J kp md_M_bySet d (K6 v1 v2 v4 v6 m) 6 [(0, .ref 112), (1, .int v1), (2, .long v2), (4, .long v4), (6, .int v6)] [] m) : ∀ (n : Nat) (v1 : Int32) (v2 : Int64) (v4 : Int64) (v6 : Int32) (v7 : Int64) (v9 : Int64) (v11 : Int32) (m : qm_M), qe_J kp md_M_bySet d (L_M_bySet_35 K6 n v1 v2 v4 v6 v7 v9 v11 m) 35 [(0, .ref 112), (1, .int v1), (2, .long v2), (4, .long v4), (6, .int v6), (7, .long v7), (9, .long v9), (11, .int v11)] [] m
  | 0, v1, v2, v4, v6, v7, v9, v11, m => qe_none rfl
  | n + 1, v1, v2, v4, v6, v7, v9, v11, m => xg_M_bySet_35 hT hK6 (lg_M_bySet_35 hT hK6 n) v1 v2 v4 v6 v7 v9 v11 m
def X_M_bySet_6 (f_M_has : Int64 → Int32 → qm_M → Option qm_R) (f_M_product : Int64 → Int64 → qm_M → Option qm_R) (f_M_inverseOf : Int64 → qm_M → Option qm_R) (f_M_placeOf : Int32 → qm_M → Option qm_R) (l6 : Int32 → Int64 → Int64 → Int32 → qm_M → Option qm_R) (l35 : Int32 → Int64 → Int64 → Int32 → Int64 → Int64 → Int32 → qm_M → Option qm_R) (v1 : Int32) (v2 : Int64) (v4 : Int64) (v6 : Int32) (m : qm_M) : Option qm_R :=
  if v6 < (8 : Int32) then
    qe_rI (f_M_has (Int32.toInt64 v1) v6 m) fun x1 m1 =>
    if x1 = 0 then
      l6 v1 v2 v4 (v6 + (1 : Int32)) m1
    else
      l35 v1 v2 v4 v6 (1 : Int64) (1 : Int64) (0 : Int32) m1
  else
    some (some (.long v4), m)
set_option maxRecDepth 100000 in
theorem xg_M_bySet_6 {kp : pm_K} {d : Nat} {f_M_has : Int64 → Int32 → qm_M → Option qm_R} {f_M_product : Int64 → Int64 → qm_M → Option qm_R} {f_M_inverseOf : Int64 → qm_M → Option qm_R} {f_M_placeOf : Int32 → qm_M → Option qm_R} {l6 : Int32 → Int64 → Int64 → Int32 → qm_M → Option qm_R} {l35 : Int32 → Int64 → Int64 → Int32 → Int64 → Int64 → Int32 → qm_M → Option qm_R} (hT : qe_G kp d (T_M_bySet f_M_has f_M_product f_M_inverseOf f_M_placeOf)) (h6 : ∀ (v1 : Int32) (v2 : Int64) (v4 : Int64) (v6 : Int32) (m : qm_M), qe_J kp md_M_bySet d (l6 v1 v2 v4 v6 m) 6 [(0, .ref 112), (1, .int v1), (2, .long v2), (4, .long v4), (6, .int v6)] [] m) (h35 : ∀ (v1 : Int32) (v2 : Int64) (v4 : Int64) (v6 : Int32) (v7 : Int64) (v9 : Int64) (v11 : Int32) (m : qm_M), qe_J kp md_M_bySet d (l35 v1 v2 v4 v6 v7 v9 v11 m) 35 [(0, .ref 112), (1, .int v1), (2, .long v2), (4, .long v4), (6, .int v6), (7, .long v7), (9, .long v9), (11, .int v11)] [] m) (v1 : Int32) (v2 : Int64) (v4 : Int64) (v6 : Int32) (m : qm_M) : qe_J kp md_M_bySet d (X_M_bySet_6 f_M_has f_M_product f_M_inverseOf f_M_placeOf l6 l35 v1 v2 v4 v6 m) 6 [(0, .ref 112), (1, .int v1), (2, .long v2), (4, .long v4), (6, .int v6)] [] m := qe_run (B := [(6, [0, 1, 2, 4, 6], qp_cilli_ 112 l6), (35, [0, 1, 2, 4, 6, 7, 9, 11], qp_cillilli_ 112 l35)]) (n := 1000) hT (qe_B1 (qp_cilli__ok h6) (qe_B1 (qp_cillilli__ok h35) qe_B0)) rfl
def L_M_bySet_6 : Nat → Int32 → Int64 → Int64 → Int32 → qm_M → Option qm_R
  | 0, _, _, _, _, _ => none
  | n + 1, v1, v2, v4, v6, m => X_M_bySet_6 F_M_has F_M_product F_M_inverseOf F_M_placeOf (L_M_bySet_6 n) (L_M_bySet_35 (L_M_bySet_6 n) 1000000) v1 v2 v4 v6 m
theorem lg_M_bySet_6 {kp : pm_K} {d : Nat} (hT : qe_G kp d (T_M_bySet F_M_has F_M_product F_M_inverseOf F_M_placeOf)) : ∀ (n : Nat) (v1 : Int32) (v2 : Int64) (v4 : Int64) (v6 : Int32) (m : qm_M), qe_J kp md_M_bySet d (L_M_bySet_6 n v1 v2 v4 v6 m) 6 [(0, .ref 112), (1, .int v1), (2, .long v2), (4, .long v4), (6, .int v6)] [] m
  | 0, v1, v2, v4, v6, m => qe_none rfl
  | n + 1, v1, v2, v4, v6, m => xg_M_bySet_6 hT (lg_M_bySet_6 hT n) (lg_M_bySet_35 hT (lg_M_bySet_6 hT n) 1000000) v1 v2 v4 v6 m
def X_M_bySet_e (f_M_has : Int64 → Int32 → qm_M → Option qm_R) (f_M_product : Int64 → Int64 → qm_M → Option qm_R) (f_M_inverseOf : Int64 → qm_M → Option qm_R) (f_M_placeOf : Int32 → qm_M → Option qm_R) (l6 : Int32 → Int64 → Int64 → Int32 → qm_M → Option qm_R) (v1 : Int32) (v2 : Int64) (m : qm_M) : Option qm_R :=
  l6 v1 v2 (0 : Int64) (0 : Int32) m
set_option maxRecDepth 100000 in
theorem xg_M_bySet_e {kp : pm_K} {d : Nat} {f_M_has : Int64 → Int32 → qm_M → Option qm_R} {f_M_product : Int64 → Int64 → qm_M → Option qm_R} {f_M_inverseOf : Int64 → qm_M → Option qm_R} {f_M_placeOf : Int32 → qm_M → Option qm_R} {l6 : Int32 → Int64 → Int64 → Int32 → qm_M → Option qm_R} (hT : qe_G kp d (T_M_bySet f_M_has f_M_product f_M_inverseOf f_M_placeOf)) (h6 : ∀ (v1 : Int32) (v2 : Int64) (v4 : Int64) (v6 : Int32) (m : qm_M), qe_J kp md_M_bySet d (l6 v1 v2 v4 v6 m) 6 [(0, .ref 112), (1, .int v1), (2, .long v2), (4, .long v4), (6, .int v6)] [] m) (v1 : Int32) (v2 : Int64) (m : qm_M) : qe_J kp md_M_bySet d (X_M_bySet_e f_M_has f_M_product f_M_inverseOf f_M_placeOf l6 v1 v2 m) 0 [(0, .ref 112), (1, .int v1), (2, .long v2)] [] m := qe_run (B := [(6, [0, 1, 2, 4, 6], qp_cilli_ 112 l6)]) (n := 1000) hT (qe_B1 (qp_cilli__ok h6) qe_B0) rfl
def F_M_bySet (v1 : Int32) (v2 : Int64) (m : qm_M) : Option qm_R := X_M_bySet_e F_M_has F_M_product F_M_inverseOf F_M_placeOf (L_M_bySet_6 1000000) v1 v2 m
theorem fj_M_bySet {kp : pm_K} {d : Nat} (hT : qe_G kp d (T_M_bySet F_M_has F_M_product F_M_inverseOf F_M_placeOf)) (v1 : Int32) (v2 : Int64) (m : qm_M) : qe_J kp md_M_bySet d (F_M_bySet v1 v2 m) 0 [(0, .ref 112), (1, .int v1), (2, .long v2)] [] m := xg_M_bySet_e hT (lg_M_bySet_6 hT 1000000) v1 v2 m
theorem fg_M_bySet {kp : pm_K} (d : Nat) : qe_GE kp (d + 6) (228, 0, 11, 2, qw_cil 112 F_M_bySet) := qe_entry (by decide +kernel) (qw_cil_ok (d := d + 5) rfl rfl (fj_M_bySet (qe_G1 (fg_M_has (d + 4)) (qe_G1 (fg_M_product (d + 3)) (qe_G1 (fg_M_inverseOf (d + 0)) (qe_G1 (fg_M_placeOf (d + 4)) qe_G0))))))
/-! TurnFieldModel.agreesBy(I)I -/
noncomputable def T_M_agreesBy (f_M_has : Int64 → Int32 → qm_M → Option qm_R) (f_M_bySet : Int32 → Int64 → qm_M → Option qm_R) (f_M_placeOf : Int32 → qm_M → Option qm_R) : qe_T := [(186, 1, 0, 1, qw_li f_M_has), (228, 0, 11, 2, qw_cil 112 f_M_bySet), (217, 0, 11, 2, qw_ci 112 f_M_placeOf)]
def X_M_agreesBy_4 (f_M_has : Int64 → Int32 → qm_M → Option qm_R) (f_M_bySet : Int32 → Int64 → qm_M → Option qm_R) (f_M_placeOf : Int32 → qm_M → Option qm_R) (l4 : Int32 → Int32 → Int32 → qm_M → Option qm_R) (v1 : Int32) (v2 : Int32) (v3 : Int32) (m : qm_M) : Option qm_R :=
  if v3 < (8 : Int32) then
    qe_rI (f_M_has (Int32.toInt64 v1) v3 m) fun x1 m1 =>
    if x1 = 0 then
      qe_rL (f_M_bySet v1 (Int32.toInt64 v3) m1) fun x2 m2 =>
      qe_rL (f_M_placeOf v3 m2) fun x3 m3 =>
      if (lg_cmp x2 x3) = 0 then
        l4 v1 (v2 ||| (qo_ishl (1 : Int32) v3)) (v3 + (1 : Int32)) m3
      else
        l4 v1 (v2 ||| (0 : Int32)) (v3 + (1 : Int32)) m3
    else
      l4 v1 (v2 ||| (qo_ishl (1 : Int32) v3)) (v3 + (1 : Int32)) m1
  else
    some (some (.int v2), m)
set_option maxRecDepth 100000 in
theorem xg_M_agreesBy_4 {kp : pm_K} {d : Nat} {f_M_has : Int64 → Int32 → qm_M → Option qm_R} {f_M_bySet : Int32 → Int64 → qm_M → Option qm_R} {f_M_placeOf : Int32 → qm_M → Option qm_R} {l4 : Int32 → Int32 → Int32 → qm_M → Option qm_R} (hT : qe_G kp d (T_M_agreesBy f_M_has f_M_bySet f_M_placeOf)) (h4 : ∀ (v1 : Int32) (v2 : Int32) (v3 : Int32) (m : qm_M), qe_J kp md_M_agreesBy d (l4 v1 v2 v3 m) 4 [(0, .ref 112), (1, .int v1), (2, .int v2), (3, .int v3)] [] m) (v1 : Int32) (v2 : Int32) (v3 : Int32) (m : qm_M) : qe_J kp md_M_agreesBy d (X_M_agreesBy_4 f_M_has f_M_bySet f_M_placeOf l4 v1 v2 v3 m) 4 [(0, .ref 112), (1, .int v1), (2, .int v2), (3, .int v3)] [] m := qe_run (B := [(4, [0, 1, 2, 3], qp_ciii_ 112 l4)]) (n := 1000) hT (qe_B1 (qp_ciii__ok h4) qe_B0) rfl
def L_M_agreesBy_4 : Nat → Int32 → Int32 → Int32 → qm_M → Option qm_R
  | 0, _, _, _, _ => none
  | n + 1, v1, v2, v3, m => X_M_agreesBy_4 F_M_has F_M_bySet F_M_placeOf (L_M_agreesBy_4 n) v1 v2 v3 m
theorem lg_M_agreesBy_4 {kp : pm_K} {d : Nat} (hT : qe_G kp d (T_M_agreesBy F_M_has F_M_bySet F_M_placeOf)) : ∀ (n : Nat) (v1 : Int32) (v2 : Int32) (v3 : Int32) (m : qm_M), qe_J kp md_M_agreesBy d (L_M_agreesBy_4 n v1 v2 v3 m) 4 [(0, .ref 112), (1, .int v1), (2, .int v2), (3, .int v3)] [] m
  | 0, v1, v2, v3, m => qe_none rfl
  | n + 1, v1, v2, v3, m => xg_M_agreesBy_4 hT (lg_M_agreesBy_4 hT n) v1 v2 v3 m
def X_M_agreesBy_e (f_M_has : Int64 → Int32 → qm_M → Option qm_R) (f_M_bySet : Int32 → Int64 → qm_M → Option qm_R) (f_M_placeOf : Int32 → qm_M → Option qm_R) (l4 : Int32 → Int32 → Int32 → qm_M → Option qm_R) (v1 : Int32) (m : qm_M) : Option qm_R :=
  l4 v1 (0 : Int32) (0 : Int32) m
set_option maxRecDepth 100000 in
theorem xg_M_agreesBy_e {kp : pm_K} {d : Nat} {f_M_has : Int64 → Int32 → qm_M → Option qm_R} {f_M_bySet : Int32 → Int64 → qm_M → Option qm_R} {f_M_placeOf : Int32 → qm_M → Option qm_R} {l4 : Int32 → Int32 → Int32 → qm_M → Option qm_R} (hT : qe_G kp d (T_M_agreesBy f_M_has f_M_bySet f_M_placeOf)) (h4 : ∀ (v1 : Int32) (v2 : Int32) (v3 : Int32) (m : qm_M), qe_J kp md_M_agreesBy d (l4 v1 v2 v3 m) 4 [(0, .ref 112), (1, .int v1), (2, .int v2), (3, .int v3)] [] m) (v1 : Int32) (m : qm_M) : qe_J kp md_M_agreesBy d (X_M_agreesBy_e f_M_has f_M_bySet f_M_placeOf l4 v1 m) 0 [(0, .ref 112), (1, .int v1)] [] m := qe_run (B := [(4, [0, 1, 2, 3], qp_ciii_ 112 l4)]) (n := 1000) hT (qe_B1 (qp_ciii__ok h4) qe_B0) rfl
def F_M_agreesBy (v1 : Int32) (m : qm_M) : Option qm_R := X_M_agreesBy_e F_M_has F_M_bySet F_M_placeOf (L_M_agreesBy_4 1000000) v1 m
theorem fj_M_agreesBy {kp : pm_K} {d : Nat} (hT : qe_G kp d (T_M_agreesBy F_M_has F_M_bySet F_M_placeOf)) (v1 : Int32) (m : qm_M) : qe_J kp md_M_agreesBy d (F_M_agreesBy v1 m) 0 [(0, .ref 112), (1, .int v1)] [] m := xg_M_agreesBy_e hT (lg_M_agreesBy_4 hT 1000000) v1 m
theorem fg_M_agreesBy {kp : pm_K} (d : Nat) : qe_GE kp (d + 7) (229, 0, 11, 1, qw_ci 112 F_M_agreesBy) := qe_entry (by decide +kernel) (qw_ci_ok (d := d + 6) rfl rfl (fj_M_agreesBy (qe_G1 (fg_M_has (d + 5)) (qe_G1 (fg_M_bySet (d + 0)) (qe_G1 (fg_M_placeOf (d + 5)) qe_G0)))))
/-! TurnFieldModel.size(J)I -/
noncomputable def T_M_size : qe_T := []
def X_M_size_4 (l4 : Int32 → Int64 → qm_M → Option qm_R) (v2 : Int32) (v3 : Int64) (m : qm_M) : Option qm_R :=
  if (lg_cmp v3 (0 : Int64)) = 0 then
    some (some (.int v2), m)
  else
    l4 (v2 + (1 : Int32)) (v3 &&& (v3 - (1 : Int64))) m
set_option maxRecDepth 100000 in
theorem xg_M_size_4 {kp : pm_K} {d : Nat} {l4 : Int32 → Int64 → qm_M → Option qm_R} (hT : qe_G kp d (T_M_size)) (h4 : ∀ (v2 : Int32) (v3 : Int64) (m : qm_M), qe_J kp md_M_size d (l4 v2 v3 m) 4 [(2, .int v2), (3, .long v3)] [] m) (v2 : Int32) (v3 : Int64) (m : qm_M) : qe_J kp md_M_size d (X_M_size_4 l4 v2 v3 m) 4 [(2, .int v2), (3, .long v3)] [] m := qe_run (B := [(4, [2, 3], qp_il_ l4)]) (n := 1000) hT (qe_B1 (qp_il__ok h4) qe_B0) rfl
def L_M_size_4 : Nat → Int32 → Int64 → qm_M → Option qm_R
  | 0, _, _, _ => none
  | n + 1, v2, v3, m => X_M_size_4 (L_M_size_4 n) v2 v3 m
theorem lg_M_size_4 {kp : pm_K} {d : Nat} (hT : qe_G kp d (T_M_size)) : ∀ (n : Nat) (v2 : Int32) (v3 : Int64) (m : qm_M), qe_J kp md_M_size d (L_M_size_4 n v2 v3 m) 4 [(2, .int v2), (3, .long v3)] [] m
  | 0, v2, v3, m => qe_none rfl
  | n + 1, v2, v3, m => xg_M_size_4 hT (lg_M_size_4 hT n) v2 v3 m
def X_M_size_e (l4 : Int32 → Int64 → qm_M → Option qm_R) (v0 : Int64) (m : qm_M) : Option qm_R :=
  l4 (0 : Int32) v0 m
set_option maxRecDepth 100000 in
theorem xg_M_size_e {kp : pm_K} {d : Nat} {l4 : Int32 → Int64 → qm_M → Option qm_R} (hT : qe_G kp d (T_M_size)) (h4 : ∀ (v2 : Int32) (v3 : Int64) (m : qm_M), qe_J kp md_M_size d (l4 v2 v3 m) 4 [(2, .int v2), (3, .long v3)] [] m) (v0 : Int64) (m : qm_M) : qe_J kp md_M_size d (X_M_size_e l4 v0 m) 0 [(0, .long v0)] [] m := qe_run (B := [(4, [2, 3], qp_il_ l4)]) (n := 1000) hT (qe_B1 (qp_il__ok h4) qe_B0) rfl
def F_M_size (v0 : Int64) (m : qm_M) : Option qm_R := X_M_size_e (L_M_size_4 1000000) v0 m
theorem fj_M_size {kp : pm_K} {d : Nat} (hT : qe_G kp d (T_M_size)) (v0 : Int64) (m : qm_M) : qe_J kp md_M_size d (F_M_size v0 m) 0 [(0, .long v0)] [] m := xg_M_size_e hT (lg_M_size_4 hT 1000000) v0 m
theorem fg_M_size {kp : pm_K} (d : Nat) : qe_GE kp (d + 1) (256, 1, 0, 1, qw_l F_M_size) := qe_entry (by decide +kernel) (qw_l_ok (d := d + 0) rfl rfl (fj_M_size qe_G0))
/-! TurnFieldModel.findsMended()Z -/
noncomputable def T_M_findsMended (f_M_size : Int64 → qm_M → Option qm_R) (f_M_agreesBy : Int32 → qm_M → Option qm_R) : qe_T := [(256, 1, 0, 1, qw_l f_M_size), (229, 0, 11, 1, qw_ci 112 f_M_agreesBy)]
def X_M_findsMended_73 (f_M_size : Int64 → qm_M → Option qm_R) (f_M_agreesBy : Int32 → qm_M → Option qm_R)  (m : qm_M) : Option qm_R :=
  if (m.1 112 14) = 0 then
    some (some (.int (0 : Int32)), m)
  else
    some (some (.int (1 : Int32)), m)
set_option maxRecDepth 100000 in
theorem xg_M_findsMended_73 {kp : pm_K} {d : Nat} {f_M_size : Int64 → qm_M → Option qm_R} {f_M_agreesBy : Int32 → qm_M → Option qm_R} (hT : qe_G kp d (T_M_findsMended f_M_size f_M_agreesBy)) (m : qm_M) : qe_J kp md_M_findsMended d (X_M_findsMended_73 f_M_size f_M_agreesBy m) 73 [(0, .ref 112)] [] m := qe_run (B := []) (n := 1000) hT qe_B0 rfl
def L_M_findsMended_73  (m : qm_M) : Option qm_R := X_M_findsMended_73 F_M_size F_M_agreesBy m
theorem lg_M_findsMended_73 {kp : pm_K} {d : Nat} (hT : qe_G kp d (T_M_findsMended F_M_size F_M_agreesBy)) (m : qm_M) : qe_J kp md_M_findsMended d (L_M_findsMended_73 m) 73 [(0, .ref 112)] [] m := xg_M_findsMended_73 hT m
def X_M_findsMended_12 (f_M_size : Int64 → qm_M → Option qm_R) (f_M_agreesBy : Int32 → qm_M → Option qm_R) (l12 : Int32 → qm_M → Option qm_R) (l73 : qm_M → Option qm_R) (v1 : Int32) (m : qm_M) : Option qm_R :=
  if v1 < (256 : Int32) then
    if (m.1 112 14) = 0 then
      qe_rI (f_M_size (Int32.toInt64 v1) m) fun x1 m1 =>
      if x1 = (4 : Int32) then
        qe_rI (f_M_agreesBy v1 m1) fun x2 m2 =>
        qe_rI (f_M_size (Int32.toInt64 x2) m2) fun x3 m3 =>
        if x3 < (6 : Int32) then
          l12 (v1 + (1 : Int32)) m3
        else
          let m4 : qm_M := qm_sI m3 112 14 v1
          let m5 : qm_M := qm_sI m4 112 13 x2
          l12 (v1 + (1 : Int32)) m5
      else
        l12 (v1 + (1 : Int32)) m1
    else
      l73 m
  else
    l73 m
set_option maxRecDepth 100000 in
theorem xg_M_findsMended_12 {kp : pm_K} {d : Nat} {f_M_size : Int64 → qm_M → Option qm_R} {f_M_agreesBy : Int32 → qm_M → Option qm_R} {l12 : Int32 → qm_M → Option qm_R} {l73 : qm_M → Option qm_R} (hT : qe_G kp d (T_M_findsMended f_M_size f_M_agreesBy)) (h12 : ∀ (v1 : Int32) (m : qm_M), qe_J kp md_M_findsMended d (l12 v1 m) 12 [(0, .ref 112), (1, .int v1)] [] m) (h73 : ∀ (m : qm_M), qe_J kp md_M_findsMended d (l73 m) 73 [(0, .ref 112)] [] m) (v1 : Int32) (m : qm_M) : qe_J kp md_M_findsMended d (X_M_findsMended_12 f_M_size f_M_agreesBy l12 l73 v1 m) 12 [(0, .ref 112), (1, .int v1)] [] m := qe_run (B := [(12, [0, 1], qp_ci_ 112 l12), (73, [0], qp_c_ 112 l73)]) (n := 1000) hT (qe_B1 (qp_ci__ok h12) (qe_B1 (qp_c__ok h73) qe_B0)) rfl
def L_M_findsMended_12 : Nat → Int32 → qm_M → Option qm_R
  | 0, _, _ => none
  | n + 1, v1, m => X_M_findsMended_12 F_M_size F_M_agreesBy (L_M_findsMended_12 n) (L_M_findsMended_73) v1 m
theorem lg_M_findsMended_12 {kp : pm_K} {d : Nat} (hT : qe_G kp d (T_M_findsMended F_M_size F_M_agreesBy)) : ∀ (n : Nat) (v1 : Int32) (m : qm_M), qe_J kp md_M_findsMended d (L_M_findsMended_12 n v1 m) 12 [(0, .ref 112), (1, .int v1)] [] m
  | 0, v1, m => qe_none rfl
  | n + 1, v1, m => xg_M_findsMended_12 hT (lg_M_findsMended_12 hT n) (lg_M_findsMended_73 hT) v1 m
def X_M_findsMended_e (f_M_size : Int64 → qm_M → Option qm_R) (f_M_agreesBy : Int32 → qm_M → Option qm_R) (l12 : Int32 → qm_M → Option qm_R)  (m : qm_M) : Option qm_R :=
  let m1 : qm_M := qm_sI m 112 14 (0 : Int32)
  let m2 : qm_M := qm_sI m1 112 13 (0 : Int32)
  l12 (0 : Int32) m2
set_option maxRecDepth 100000 in
theorem xg_M_findsMended_e {kp : pm_K} {d : Nat} {f_M_size : Int64 → qm_M → Option qm_R} {f_M_agreesBy : Int32 → qm_M → Option qm_R} {l12 : Int32 → qm_M → Option qm_R} (hT : qe_G kp d (T_M_findsMended f_M_size f_M_agreesBy)) (h12 : ∀ (v1 : Int32) (m : qm_M), qe_J kp md_M_findsMended d (l12 v1 m) 12 [(0, .ref 112), (1, .int v1)] [] m) (m : qm_M) : qe_J kp md_M_findsMended d (X_M_findsMended_e f_M_size f_M_agreesBy l12 m) 0 [(0, .ref 112)] [] m := qe_run (B := [(12, [0, 1], qp_ci_ 112 l12)]) (n := 1000) hT (qe_B1 (qp_ci__ok h12) qe_B0) rfl
def F_M_findsMended (m : qm_M) : Option qm_R := X_M_findsMended_e F_M_size F_M_agreesBy (L_M_findsMended_12 1000000) m
theorem fj_M_findsMended {kp : pm_K} {d : Nat} (hT : qe_G kp d (T_M_findsMended F_M_size F_M_agreesBy)) (m : qm_M) : qe_J kp md_M_findsMended d (F_M_findsMended m) 0 [(0, .ref 112)] [] m := xg_M_findsMended_e hT (lg_M_findsMended_12 hT 1000000) m
theorem fg_M_findsMended {kp : pm_K} (d : Nat) : qe_GE kp (d + 8) (230, 0, 11, 1, qw_c 112 F_M_findsMended) := qe_entry (by decide +kernel) (qw_c_ok (d := d + 7) rfl rfl (fj_M_findsMended (qe_G1 (fg_M_size (d + 6)) (qe_G1 (fg_M_agreesBy (d + 0)) qe_G0))))
/-! TurnFieldModel.addsBase(I)V -/
noncomputable def T_M_addsBase (f_M_has : Int64 → Int32 → qm_M → Option qm_R) (f_M_placeOf : Int32 → qm_M → Option qm_R) (f_M_inverseOf : Int64 → qm_M → Option qm_R) (f_M_product : Int64 → Int64 → qm_M → Option qm_R) : qe_T := [(186, 1, 0, 1, qw_li f_M_has), (217, 0, 11, 2, qw_ci 112 f_M_placeOf), (197, 0, 11, 2, qw_cl 112 f_M_inverseOf), (192, 0, 11, 2, qw_cll 112 f_M_product)]
def X_M_addsBase_156 (f_M_has : Int64 → Int32 → qm_M → Option qm_R) (f_M_placeOf : Int32 → qm_M → Option qm_R) (f_M_inverseOf : Int64 → qm_M → Option qm_R) (f_M_product : Int64 → Int64 → qm_M → Option qm_R) (l156 : Int64 → Int32 → qm_M → Option qm_R) (v4 : Int64) (v6 : Int32) (m : qm_M) : Option qm_R :=
  if v6 < (4 : Int32) then
    qe_b (qm_in v6 4) (
    qe_b (qm_in v6 5) (
    qe_rL (f_M_product v4 (m.2 126 (Int32.toNatClampNeg v6)) m) fun x1 m1 =>
    qe_b (qm_in v6 4) (
    let m2 : qm_M := qm_sL m1 125 (Int32.toNatClampNeg v6) ((m.2 125 (Int32.toNatClampNeg v6)) ^^^ x1)
    l156 v4 (v6 + (1 : Int32)) m2)))
  else
    some (none, m)
set_option maxRecDepth 100000 in
theorem xg_M_addsBase_156 {kp : pm_K} {d : Nat} {f_M_has : Int64 → Int32 → qm_M → Option qm_R} {f_M_placeOf : Int32 → qm_M → Option qm_R} {f_M_inverseOf : Int64 → qm_M → Option qm_R} {f_M_product : Int64 → Int64 → qm_M → Option qm_R} {l156 : Int64 → Int32 → qm_M → Option qm_R} (hT : qe_G kp d (T_M_addsBase f_M_has f_M_placeOf f_M_inverseOf f_M_product)) (h156 : ∀ (v4 : Int64) (v6 : Int32) (m : qm_M), qe_J kp md_M_addsBase d (l156 v4 v6 m) 156 [(0, .ref 112), (4, .long v4), (6, .int v6)] [] m) (v4 : Int64) (v6 : Int32) (m : qm_M) : qe_J kp md_M_addsBase d (X_M_addsBase_156 f_M_has f_M_placeOf f_M_inverseOf f_M_product l156 v4 v6 m) 156 [(0, .ref 112), (4, .long v4), (6, .int v6)] [] m := qe_run (B := [(156, [0, 4, 6], qp_cli_ 112 l156)]) (n := 1000) hT (qe_B1 (qp_cli__ok h156) qe_B0) rfl
def L_M_addsBase_156 : Nat → Int64 → Int32 → qm_M → Option qm_R
  | 0, _, _, _ => none
  | n + 1, v4, v6, m => X_M_addsBase_156 F_M_has F_M_placeOf F_M_inverseOf F_M_product (L_M_addsBase_156 n) v4 v6 m
theorem lg_M_addsBase_156 {kp : pm_K} {d : Nat} (hT : qe_G kp d (T_M_addsBase F_M_has F_M_placeOf F_M_inverseOf F_M_product)) : ∀ (n : Nat) (v4 : Int64) (v6 : Int32) (m : qm_M), qe_J kp md_M_addsBase d (L_M_addsBase_156 n v4 v6 m) 156 [(0, .ref 112), (4, .long v4), (6, .int v6)] [] m
  | 0, v4, v6, m => qe_none rfl
  | n + 1, v4, v6, m => xg_M_addsBase_156 hT (lg_M_addsBase_156 hT n) v4 v6 m
def X_M_addsBase_98 (f_M_has : Int64 → Int32 → qm_M → Option qm_R) (f_M_placeOf : Int32 → qm_M → Option qm_R) (f_M_inverseOf : Int64 → qm_M → Option qm_R) (f_M_product : Int64 → Int64 → qm_M → Option qm_R) (l69 : Int32 → Int64 → Int32 → Int32 → qm_M → Option qm_R) (v1 : Int32) (v2 : Int64) (v4 : Int32) (v5 : Int32) (s0 : Int64) (s1 : Int32) (m : qm_M) : Option qm_R :=
  qe_b (qm_in v5 5) (
  qe_rL (f_M_product (Int32.toInt64 v4) (m.2 126 (Int32.toNatClampNeg v5)) m) fun x1 m1 =>
  qe_b (qm_in s1 5) (
  let m2 : qm_M := qm_sL m1 126 (Int32.toNatClampNeg s1) (s0 ^^^ x1)
  l69 v1 v2 v4 (v5 + (-1 : Int32)) m2))
set_option maxRecDepth 100000 in
theorem xg_M_addsBase_98 {kp : pm_K} {d : Nat} {f_M_has : Int64 → Int32 → qm_M → Option qm_R} {f_M_placeOf : Int32 → qm_M → Option qm_R} {f_M_inverseOf : Int64 → qm_M → Option qm_R} {f_M_product : Int64 → Int64 → qm_M → Option qm_R} {l69 : Int32 → Int64 → Int32 → Int32 → qm_M → Option qm_R} (hT : qe_G kp d (T_M_addsBase f_M_has f_M_placeOf f_M_inverseOf f_M_product)) (h69 : ∀ (v1 : Int32) (v2 : Int64) (v4 : Int32) (v5 : Int32) (m : qm_M), qe_J kp md_M_addsBase d (l69 v1 v2 v4 v5 m) 69 [(0, .ref 112), (1, .int v1), (2, .long v2), (4, .int v4), (5, .int v5)] [] m) (v1 : Int32) (v2 : Int64) (v4 : Int32) (v5 : Int32) (s0 : Int64) (s1 : Int32) (m : qm_M) : qe_J kp md_M_addsBase d (X_M_addsBase_98 f_M_has f_M_placeOf f_M_inverseOf f_M_product l69 v1 v2 v4 v5 s0 s1 m) 98 [(0, .ref 112), (1, .int v1), (2, .long v2), (4, .int v4), (5, .int v5)] [.long s0, .int s1, .ref 126] m := qe_run (B := [(69, [0, 1, 2, 4, 5], qp_cilii_ 112 l69)]) (n := 1000) hT (qe_B1 (qp_cilii__ok h69) qe_B0) rfl
def L_M_addsBase_98 (K37 : Int32 → Int64 → Int32 → qm_M → Option qm_R) (K69 : Int32 → Int64 → Int32 → Int32 → qm_M → Option qm_R) (v1 : Int32) (v2 : Int64) (v4 : Int32) (v5 : Int32) (s0 : Int64) (s1 : Int32) (m : qm_M) : Option qm_R := X_M_addsBase_98 F_M_has F_M_placeOf F_M_inverseOf F_M_product K69 v1 v2 v4 v5 s0 s1 m
theorem lg_M_addsBase_98 {kp : pm_K} {d : Nat} (hT : qe_G kp d (T_M_addsBase F_M_has F_M_placeOf F_M_inverseOf F_M_product)) {K37 : Int32 → Int64 → Int32 → qm_M → Option qm_R} (hK37 : ∀ (v1 : Int32) (v2 : Int64) (v4 : Int32) (m : qm_M), qe_J kp md_M_addsBase d (K37 v1 v2 v4 m) 37 [(0, .ref 112), (1, .int v1), (2, .long v2), (4, .int v4)] [] m) {K69 : Int32 → Int64 → Int32 → Int32 → qm_M → Option qm_R} (hK69 : ∀ (v1 : Int32) (v2 : Int64) (v4 : Int32) (v5 : Int32) (m : qm_M), qe_J kp md_M_addsBase d (K69 v1 v2 v4 v5 m) 69 [(0, .ref 112), (1, .int v1), (2, .long v2), (4, .int v4), (5, .int v5)] [] m) (v1 : Int32) (v2 : Int64) (v4 : Int32) (v5 : Int32) (s0 : Int64) (s1 : Int32) (m : qm_M) : qe_J kp md_M_addsBase d (L_M_addsBase_98 K37 K69 v1 v2 v4 v5 s0 s1 m) 98 [(0, .ref 112), (1, .int v1), (2, .long v2), (4, .int v4), (5, .int v5)] [.long s0, .int s1, .ref 126] m := xg_M_addsBase_98 hT hK69 v1 v2 v4 v5 s0 s1 m
def X_M_addsBase_69 (f_M_has : Int64 → Int32 → qm_M → Option qm_R) (f_M_placeOf : Int32 → qm_M → Option qm_R) (f_M_inverseOf : Int64 → qm_M → Option qm_R) (f_M_product : Int64 → Int64 → qm_M → Option qm_R) (l37 : Int32 → Int64 → Int32 → qm_M → Option qm_R) (l98 : Int32 → Int64 → Int32 → Int32 → Int64 → Int32 → qm_M → Option qm_R) (v1 : Int32) (v2 : Int64) (v4 : Int32) (v5 : Int32) (m : qm_M) : Option qm_R :=
  if v5 < 0 then
    qe_rL (f_M_product v2 (Int32.toInt64 (v1 ^^^ v4)) m) fun x1 m1 =>
    l37 v1 x1 (v4 + (1 : Int32)) m1
  else
    if 0 < v5 then
      qe_b (qm_in (v5 - (1 : Int32)) 5) (
      l98 v1 v2 v4 v5 (m.2 126 (Int32.toNatClampNeg (v5 - (1 : Int32)))) v5 m)
    else
      l98 v1 v2 v4 v5 (0 : Int64) v5 m
set_option maxRecDepth 100000 in
theorem xg_M_addsBase_69 {kp : pm_K} {d : Nat} {f_M_has : Int64 → Int32 → qm_M → Option qm_R} {f_M_placeOf : Int32 → qm_M → Option qm_R} {f_M_inverseOf : Int64 → qm_M → Option qm_R} {f_M_product : Int64 → Int64 → qm_M → Option qm_R} {l37 : Int32 → Int64 → Int32 → qm_M → Option qm_R} {l98 : Int32 → Int64 → Int32 → Int32 → Int64 → Int32 → qm_M → Option qm_R} (hT : qe_G kp d (T_M_addsBase f_M_has f_M_placeOf f_M_inverseOf f_M_product)) (h37 : ∀ (v1 : Int32) (v2 : Int64) (v4 : Int32) (m : qm_M), qe_J kp md_M_addsBase d (l37 v1 v2 v4 m) 37 [(0, .ref 112), (1, .int v1), (2, .long v2), (4, .int v4)] [] m) (h98 : ∀ (v1 : Int32) (v2 : Int64) (v4 : Int32) (v5 : Int32) (s0 : Int64) (s1 : Int32) (m : qm_M), qe_J kp md_M_addsBase d (l98 v1 v2 v4 v5 s0 s1 m) 98 [(0, .ref 112), (1, .int v1), (2, .long v2), (4, .int v4), (5, .int v5)] [.long s0, .int s1, .ref 126] m) (v1 : Int32) (v2 : Int64) (v4 : Int32) (v5 : Int32) (m : qm_M) : qe_J kp md_M_addsBase d (X_M_addsBase_69 f_M_has f_M_placeOf f_M_inverseOf f_M_product l37 l98 v1 v2 v4 v5 m) 69 [(0, .ref 112), (1, .int v1), (2, .long v2), (4, .int v4), (5, .int v5)] [] m := qe_run (B := [(37, [0, 1, 2, 4], qp_cili_ 112 l37), (98, [0, 1, 2, 4, 5], qp_cilii_lic 112 126 l98)]) (n := 1000) hT (qe_B1 (qp_cili__ok h37) (qe_B1 (qp_cilii_lic_ok h98) qe_B0)) rfl
def L_M_addsBase_69 (K37 : Int32 → Int64 → Int32 → qm_M → Option qm_R) : Nat → Int32 → Int64 → Int32 → Int32 → qm_M → Option qm_R
  | 0, _, _, _, _, _ => none
  | n + 1, v1, v2, v4, v5, m => X_M_addsBase_69 F_M_has F_M_placeOf F_M_inverseOf F_M_product K37 (L_M_addsBase_98 K37 (L_M_addsBase_69 K37 n)) v1 v2 v4 v5 m
theorem lg_M_addsBase_69 {kp : pm_K} {d : Nat} (hT : qe_G kp d (T_M_addsBase F_M_has F_M_placeOf F_M_inverseOf F_M_product)) {K37 : Int32 → Int64 → Int32 → qm_M → Option qm_R} (hK37 : ∀ (v1 : Int32) (v2 : Int64) (v4 : Int32) (m : qm_M), qe_J kp md_M_addsBase d (K37 v1 v2 v4 m) 37 [(0, .ref 112), (1, .int v1), (2, .long v2), (4, .int v4)] [] m) : ∀ (n : Nat) (v1 : Int32) (v2 : Int64) (v4 : Int32) (v5 : Int32) (m : qm_M), qe_J kp md_M_addsBase d (L_M_addsBase_69 K37 n v1 v2 v4 v5 m) 69 [(0, .ref 112), (1, .int v1), (2, .long v2), (4, .int v4), (5, .int v5)] [] m
  | 0, v1, v2, v4, v5, m => qe_none rfl
  | n + 1, v1, v2, v4, v5, m => xg_M_addsBase_69 hT hK37 (lg_M_addsBase_98 hT hK37 (lg_M_addsBase_69 hT hK37 n)) v1 v2 v4 v5 m
def X_M_addsBase_37 (f_M_has : Int64 → Int32 → qm_M → Option qm_R) (f_M_placeOf : Int32 → qm_M → Option qm_R) (f_M_inverseOf : Int64 → qm_M → Option qm_R) (f_M_product : Int64 → Int64 → qm_M → Option qm_R) (l37 : Int32 → Int64 → Int32 → qm_M → Option qm_R) (l69 : Int32 → Int64 → Int32 → Int32 → qm_M → Option qm_R) (l156 : Int64 → Int32 → qm_M → Option qm_R) (v1 : Int32) (v2 : Int64) (v4 : Int32) (m : qm_M) : Option qm_R :=
  if v4 < (8 : Int32) then
    if v4 = v1 then
      l37 v1 v2 (v4 + (1 : Int32)) m
    else
      qe_rI (f_M_has (Int32.toInt64 (m.1 112 14)) v4 m) fun x1 m1 =>
      if x1 = 0 then
        l37 v1 v2 (v4 + (1 : Int32)) m1
      else
        l69 v1 v2 v4 (4 : Int32) m1
  else
    qe_rL (f_M_placeOf v1 m) fun x2 m2 =>
    qe_rL (f_M_inverseOf v2 m2) fun x3 m3 =>
    qe_rL (f_M_product x2 x3 m3) fun x4 m4 =>
    l156 x4 (0 : Int32) m4
set_option maxRecDepth 100000 in
theorem xg_M_addsBase_37 {kp : pm_K} {d : Nat} {f_M_has : Int64 → Int32 → qm_M → Option qm_R} {f_M_placeOf : Int32 → qm_M → Option qm_R} {f_M_inverseOf : Int64 → qm_M → Option qm_R} {f_M_product : Int64 → Int64 → qm_M → Option qm_R} {l37 : Int32 → Int64 → Int32 → qm_M → Option qm_R} {l69 : Int32 → Int64 → Int32 → Int32 → qm_M → Option qm_R} {l156 : Int64 → Int32 → qm_M → Option qm_R} (hT : qe_G kp d (T_M_addsBase f_M_has f_M_placeOf f_M_inverseOf f_M_product)) (h37 : ∀ (v1 : Int32) (v2 : Int64) (v4 : Int32) (m : qm_M), qe_J kp md_M_addsBase d (l37 v1 v2 v4 m) 37 [(0, .ref 112), (1, .int v1), (2, .long v2), (4, .int v4)] [] m) (h69 : ∀ (v1 : Int32) (v2 : Int64) (v4 : Int32) (v5 : Int32) (m : qm_M), qe_J kp md_M_addsBase d (l69 v1 v2 v4 v5 m) 69 [(0, .ref 112), (1, .int v1), (2, .long v2), (4, .int v4), (5, .int v5)] [] m) (h156 : ∀ (v4 : Int64) (v6 : Int32) (m : qm_M), qe_J kp md_M_addsBase d (l156 v4 v6 m) 156 [(0, .ref 112), (4, .long v4), (6, .int v6)] [] m) (v1 : Int32) (v2 : Int64) (v4 : Int32) (m : qm_M) : qe_J kp md_M_addsBase d (X_M_addsBase_37 f_M_has f_M_placeOf f_M_inverseOf f_M_product l37 l69 l156 v1 v2 v4 m) 37 [(0, .ref 112), (1, .int v1), (2, .long v2), (4, .int v4)] [] m := qe_run (B := [(37, [0, 1, 2, 4], qp_cili_ 112 l37), (69, [0, 1, 2, 4, 5], qp_cilii_ 112 l69), (156, [0, 4, 6], qp_cli_ 112 l156)]) (n := 1000) hT (qe_B1 (qp_cili__ok h37) (qe_B1 (qp_cilii__ok h69) (qe_B1 (qp_cli__ok h156) qe_B0))) rfl
def L_M_addsBase_37 : Nat → Int32 → Int64 → Int32 → qm_M → Option qm_R
  | 0, _, _, _, _ => none
  | n + 1, v1, v2, v4, m => X_M_addsBase_37 F_M_has F_M_placeOf F_M_inverseOf F_M_product (L_M_addsBase_37 n) (L_M_addsBase_69 (L_M_addsBase_37 n) 1000000) (L_M_addsBase_156 1000000) v1 v2 v4 m
theorem lg_M_addsBase_37 {kp : pm_K} {d : Nat} (hT : qe_G kp d (T_M_addsBase F_M_has F_M_placeOf F_M_inverseOf F_M_product)) : ∀ (n : Nat) (v1 : Int32) (v2 : Int64) (v4 : Int32) (m : qm_M), qe_J kp md_M_addsBase d (L_M_addsBase_37 n v1 v2 v4 m) 37 [(0, .ref 112), (1, .int v1), (2, .long v2), (4, .int v4)] [] m
  | 0, v1, v2, v4, m => qe_none rfl
  | n + 1, v1, v2, v4, m => xg_M_addsBase_37 hT (lg_M_addsBase_37 hT n) (lg_M_addsBase_69 hT (lg_M_addsBase_37 hT n) 1000000) (lg_M_addsBase_156 hT 1000000) v1 v2 v4 m
def X_M_addsBase_5 (f_M_has : Int64 → Int32 → qm_M → Option qm_R) (f_M_placeOf : Int32 → qm_M → Option qm_R) (f_M_inverseOf : Int64 → qm_M → Option qm_R) (f_M_product : Int64 → Int64 → qm_M → Option qm_R) (l5 : Int32 → Int64 → Int32 → qm_M → Option qm_R) (l37 : Int32 → Int64 → Int32 → qm_M → Option qm_R) (v1 : Int32) (v2 : Int64) (v4 : Int32) (m : qm_M) : Option qm_R :=
  if v4 < (5 : Int32) then
    if v4 = 0 then
      qe_b (qm_in v4 5) (
      let m1 : qm_M := qm_sL m 126 (Int32.toNatClampNeg v4) (1 : Int64)
      l5 v1 v2 (v4 + (1 : Int32)) m1)
    else
      qe_b (qm_in v4 5) (
      let m2 : qm_M := qm_sL m 126 (Int32.toNatClampNeg v4) (0 : Int64)
      l5 v1 v2 (v4 + (1 : Int32)) m2)
  else
    l37 v1 v2 (0 : Int32) m
set_option maxRecDepth 100000 in
theorem xg_M_addsBase_5 {kp : pm_K} {d : Nat} {f_M_has : Int64 → Int32 → qm_M → Option qm_R} {f_M_placeOf : Int32 → qm_M → Option qm_R} {f_M_inverseOf : Int64 → qm_M → Option qm_R} {f_M_product : Int64 → Int64 → qm_M → Option qm_R} {l5 : Int32 → Int64 → Int32 → qm_M → Option qm_R} {l37 : Int32 → Int64 → Int32 → qm_M → Option qm_R} (hT : qe_G kp d (T_M_addsBase f_M_has f_M_placeOf f_M_inverseOf f_M_product)) (h5 : ∀ (v1 : Int32) (v2 : Int64) (v4 : Int32) (m : qm_M), qe_J kp md_M_addsBase d (l5 v1 v2 v4 m) 5 [(0, .ref 112), (1, .int v1), (2, .long v2), (4, .int v4)] [] m) (h37 : ∀ (v1 : Int32) (v2 : Int64) (v4 : Int32) (m : qm_M), qe_J kp md_M_addsBase d (l37 v1 v2 v4 m) 37 [(0, .ref 112), (1, .int v1), (2, .long v2), (4, .int v4)] [] m) (v1 : Int32) (v2 : Int64) (v4 : Int32) (m : qm_M) : qe_J kp md_M_addsBase d (X_M_addsBase_5 f_M_has f_M_placeOf f_M_inverseOf f_M_product l5 l37 v1 v2 v4 m) 5 [(0, .ref 112), (1, .int v1), (2, .long v2), (4, .int v4)] [] m := qe_run (B := [(5, [0, 1, 2, 4], qp_cili_ 112 l5), (37, [0, 1, 2, 4], qp_cili_ 112 l37)]) (n := 1000) hT (qe_B1 (qp_cili__ok h5) (qe_B1 (qp_cili__ok h37) qe_B0)) rfl
def L_M_addsBase_5 : Nat → Int32 → Int64 → Int32 → qm_M → Option qm_R
  | 0, _, _, _, _ => none
  | n + 1, v1, v2, v4, m => X_M_addsBase_5 F_M_has F_M_placeOf F_M_inverseOf F_M_product (L_M_addsBase_5 n) (L_M_addsBase_37 1000000) v1 v2 v4 m
theorem lg_M_addsBase_5 {kp : pm_K} {d : Nat} (hT : qe_G kp d (T_M_addsBase F_M_has F_M_placeOf F_M_inverseOf F_M_product)) : ∀ (n : Nat) (v1 : Int32) (v2 : Int64) (v4 : Int32) (m : qm_M), qe_J kp md_M_addsBase d (L_M_addsBase_5 n v1 v2 v4 m) 5 [(0, .ref 112), (1, .int v1), (2, .long v2), (4, .int v4)] [] m
  | 0, v1, v2, v4, m => qe_none rfl
  | n + 1, v1, v2, v4, m => xg_M_addsBase_5 hT (lg_M_addsBase_5 hT n) (lg_M_addsBase_37 hT 1000000) v1 v2 v4 m
def X_M_addsBase_e (f_M_has : Int64 → Int32 → qm_M → Option qm_R) (f_M_placeOf : Int32 → qm_M → Option qm_R) (f_M_inverseOf : Int64 → qm_M → Option qm_R) (f_M_product : Int64 → Int64 → qm_M → Option qm_R) (l5 : Int32 → Int64 → Int32 → qm_M → Option qm_R) (v1 : Int32) (m : qm_M) : Option qm_R :=
  l5 v1 (1 : Int64) (0 : Int32) m
set_option maxRecDepth 100000 in
theorem xg_M_addsBase_e {kp : pm_K} {d : Nat} {f_M_has : Int64 → Int32 → qm_M → Option qm_R} {f_M_placeOf : Int32 → qm_M → Option qm_R} {f_M_inverseOf : Int64 → qm_M → Option qm_R} {f_M_product : Int64 → Int64 → qm_M → Option qm_R} {l5 : Int32 → Int64 → Int32 → qm_M → Option qm_R} (hT : qe_G kp d (T_M_addsBase f_M_has f_M_placeOf f_M_inverseOf f_M_product)) (h5 : ∀ (v1 : Int32) (v2 : Int64) (v4 : Int32) (m : qm_M), qe_J kp md_M_addsBase d (l5 v1 v2 v4 m) 5 [(0, .ref 112), (1, .int v1), (2, .long v2), (4, .int v4)] [] m) (v1 : Int32) (m : qm_M) : qe_J kp md_M_addsBase d (X_M_addsBase_e f_M_has f_M_placeOf f_M_inverseOf f_M_product l5 v1 m) 0 [(0, .ref 112), (1, .int v1)] [] m := qe_run (B := [(5, [0, 1, 2, 4], qp_cili_ 112 l5)]) (n := 1000) hT (qe_B1 (qp_cili__ok h5) qe_B0) rfl
def F_M_addsBase (v1 : Int32) (m : qm_M) : Option qm_R := X_M_addsBase_e F_M_has F_M_placeOf F_M_inverseOf F_M_product (L_M_addsBase_5 1000000) v1 m
theorem fj_M_addsBase {kp : pm_K} {d : Nat} (hT : qe_G kp d (T_M_addsBase F_M_has F_M_placeOf F_M_inverseOf F_M_product)) (v1 : Int32) (m : qm_M) : qe_J kp md_M_addsBase d (F_M_addsBase v1 m) 0 [(0, .ref 112), (1, .int v1)] [] m := xg_M_addsBase_e hT (lg_M_addsBase_5 hT 1000000) v1 m
theorem fg_M_addsBase {kp : pm_K} (d : Nat) : qe_GE kp (d + 6) (231, 0, 11, 0, qw_ci 112 F_M_addsBase) := qe_entry (by decide +kernel) (qw_ci_ok (d := d + 5) rfl rfl (fj_M_addsBase (qe_G1 (fg_M_has (d + 4)) (qe_G1 (fg_M_placeOf (d + 4)) (qe_G1 (fg_M_inverseOf (d + 0)) (qe_G1 (fg_M_product (d + 3)) qe_G0))))))
/-! TurnFieldModel.laysMended()Z -/
noncomputable def T_M_laysMended (f_M_findsMended : qm_M → Option qm_R) (f_M_has : Int64 → Int32 → qm_M → Option qm_R) (f_M_addsBase : Int32 → qm_M → Option qm_R) : qe_T := [(230, 0, 11, 1, qw_c 112 f_M_findsMended), (186, 1, 0, 1, qw_li f_M_has), (231, 0, 11, 0, qw_ci 112 f_M_addsBase)]
def X_M_laysMended_31 (f_M_findsMended : qm_M → Option qm_R) (f_M_has : Int64 → Int32 → qm_M → Option qm_R) (f_M_addsBase : Int32 → qm_M → Option qm_R) (l31 : Int32 → qm_M → Option qm_R) (v1 : Int32) (m : qm_M) : Option qm_R :=
  if v1 < (8 : Int32) then
    qe_rI (f_M_has (Int32.toInt64 (m.1 112 14)) v1 m) fun x1 m1 =>
    if x1 = 0 then
      l31 (v1 + (1 : Int32)) m1
    else
      qe_rV (f_M_addsBase v1 m1) fun m2 =>
      l31 (v1 + (1 : Int32)) m2
  else
    some (some (.int (1 : Int32)), m)
set_option maxRecDepth 100000 in
theorem xg_M_laysMended_31 {kp : pm_K} {d : Nat} {f_M_findsMended : qm_M → Option qm_R} {f_M_has : Int64 → Int32 → qm_M → Option qm_R} {f_M_addsBase : Int32 → qm_M → Option qm_R} {l31 : Int32 → qm_M → Option qm_R} (hT : qe_G kp d (T_M_laysMended f_M_findsMended f_M_has f_M_addsBase)) (h31 : ∀ (v1 : Int32) (m : qm_M), qe_J kp md_M_laysMended d (l31 v1 m) 31 [(0, .ref 112), (1, .int v1)] [] m) (v1 : Int32) (m : qm_M) : qe_J kp md_M_laysMended d (X_M_laysMended_31 f_M_findsMended f_M_has f_M_addsBase l31 v1 m) 31 [(0, .ref 112), (1, .int v1)] [] m := qe_run (B := [(31, [0, 1], qp_ci_ 112 l31)]) (n := 1000) hT (qe_B1 (qp_ci__ok h31) qe_B0) rfl
def L_M_laysMended_31 : Nat → Int32 → qm_M → Option qm_R
  | 0, _, _ => none
  | n + 1, v1, m => X_M_laysMended_31 F_M_findsMended F_M_has F_M_addsBase (L_M_laysMended_31 n) v1 m
theorem lg_M_laysMended_31 {kp : pm_K} {d : Nat} (hT : qe_G kp d (T_M_laysMended F_M_findsMended F_M_has F_M_addsBase)) : ∀ (n : Nat) (v1 : Int32) (m : qm_M), qe_J kp md_M_laysMended d (L_M_laysMended_31 n v1 m) 31 [(0, .ref 112), (1, .int v1)] [] m
  | 0, v1, m => qe_none rfl
  | n + 1, v1, m => xg_M_laysMended_31 hT (lg_M_laysMended_31 hT n) v1 m
def X_M_laysMended_2 (f_M_findsMended : qm_M → Option qm_R) (f_M_has : Int64 → Int32 → qm_M → Option qm_R) (f_M_addsBase : Int32 → qm_M → Option qm_R) (l2 : Int32 → qm_M → Option qm_R) (l31 : Int32 → qm_M → Option qm_R) (v1 : Int32) (m : qm_M) : Option qm_R :=
  if v1 < (4 : Int32) then
    qe_b (qm_in v1 4) (
    let m1 : qm_M := qm_sL m 125 (Int32.toNatClampNeg v1) (0 : Int64)
    l2 (v1 + (1 : Int32)) m1)
  else
    qe_rI (f_M_findsMended m) fun x1 m2 =>
    if x1 = 0 then
      some (some (.int (0 : Int32)), m2)
    else
      l31 (0 : Int32) m2
set_option maxRecDepth 100000 in
theorem xg_M_laysMended_2 {kp : pm_K} {d : Nat} {f_M_findsMended : qm_M → Option qm_R} {f_M_has : Int64 → Int32 → qm_M → Option qm_R} {f_M_addsBase : Int32 → qm_M → Option qm_R} {l2 : Int32 → qm_M → Option qm_R} {l31 : Int32 → qm_M → Option qm_R} (hT : qe_G kp d (T_M_laysMended f_M_findsMended f_M_has f_M_addsBase)) (h2 : ∀ (v1 : Int32) (m : qm_M), qe_J kp md_M_laysMended d (l2 v1 m) 2 [(0, .ref 112), (1, .int v1)] [] m) (h31 : ∀ (v1 : Int32) (m : qm_M), qe_J kp md_M_laysMended d (l31 v1 m) 31 [(0, .ref 112), (1, .int v1)] [] m) (v1 : Int32) (m : qm_M) : qe_J kp md_M_laysMended d (X_M_laysMended_2 f_M_findsMended f_M_has f_M_addsBase l2 l31 v1 m) 2 [(0, .ref 112), (1, .int v1)] [] m := qe_run (B := [(2, [0, 1], qp_ci_ 112 l2), (31, [0, 1], qp_ci_ 112 l31)]) (n := 1000) hT (qe_B1 (qp_ci__ok h2) (qe_B1 (qp_ci__ok h31) qe_B0)) rfl
def L_M_laysMended_2 : Nat → Int32 → qm_M → Option qm_R
  | 0, _, _ => none
  | n + 1, v1, m => X_M_laysMended_2 F_M_findsMended F_M_has F_M_addsBase (L_M_laysMended_2 n) (L_M_laysMended_31 1000000) v1 m
theorem lg_M_laysMended_2 {kp : pm_K} {d : Nat} (hT : qe_G kp d (T_M_laysMended F_M_findsMended F_M_has F_M_addsBase)) : ∀ (n : Nat) (v1 : Int32) (m : qm_M), qe_J kp md_M_laysMended d (L_M_laysMended_2 n v1 m) 2 [(0, .ref 112), (1, .int v1)] [] m
  | 0, v1, m => qe_none rfl
  | n + 1, v1, m => xg_M_laysMended_2 hT (lg_M_laysMended_2 hT n) (lg_M_laysMended_31 hT 1000000) v1 m
def X_M_laysMended_e (f_M_findsMended : qm_M → Option qm_R) (f_M_has : Int64 → Int32 → qm_M → Option qm_R) (f_M_addsBase : Int32 → qm_M → Option qm_R) (l2 : Int32 → qm_M → Option qm_R)  (m : qm_M) : Option qm_R :=
  l2 (0 : Int32) m
set_option maxRecDepth 100000 in
theorem xg_M_laysMended_e {kp : pm_K} {d : Nat} {f_M_findsMended : qm_M → Option qm_R} {f_M_has : Int64 → Int32 → qm_M → Option qm_R} {f_M_addsBase : Int32 → qm_M → Option qm_R} {l2 : Int32 → qm_M → Option qm_R} (hT : qe_G kp d (T_M_laysMended f_M_findsMended f_M_has f_M_addsBase)) (h2 : ∀ (v1 : Int32) (m : qm_M), qe_J kp md_M_laysMended d (l2 v1 m) 2 [(0, .ref 112), (1, .int v1)] [] m) (m : qm_M) : qe_J kp md_M_laysMended d (X_M_laysMended_e f_M_findsMended f_M_has f_M_addsBase l2 m) 0 [(0, .ref 112)] [] m := qe_run (B := [(2, [0, 1], qp_ci_ 112 l2)]) (n := 1000) hT (qe_B1 (qp_ci__ok h2) qe_B0) rfl
def F_M_laysMended (m : qm_M) : Option qm_R := X_M_laysMended_e F_M_findsMended F_M_has F_M_addsBase (L_M_laysMended_2 1000000) m
theorem fj_M_laysMended {kp : pm_K} {d : Nat} (hT : qe_G kp d (T_M_laysMended F_M_findsMended F_M_has F_M_addsBase)) (m : qm_M) : qe_J kp md_M_laysMended d (F_M_laysMended m) 0 [(0, .ref 112)] [] m := xg_M_laysMended_e hT (lg_M_laysMended_2 hT 1000000) m
theorem fg_M_laysMended {kp : pm_K} (d : Nat) : qe_GE kp (d + 9) (232, 0, 11, 1, qw_c 112 F_M_laysMended) := qe_entry (by decide +kernel) (qw_c_ok (d := d + 8) rfl rfl (fj_M_laysMended (qe_G1 (fg_M_findsMended (d + 0)) (qe_G1 (fg_M_has (d + 7)) (qe_G1 (fg_M_addsBase (d + 2)) qe_G0)))))
/-! TurnFieldModel.mended(I)J -/
noncomputable def T_M_mended (f_M_isIn : Int64 → Int64 → Int64 → qm_M → Option qm_R) (f_M_laysMended : qm_M → Option qm_R) : qe_T := [(185, 1, 0, 1, qw_lll f_M_isIn), (232, 0, 11, 1, qw_c 112 f_M_laysMended)]
def X_M_mended_e (f_M_isIn : Int64 → Int64 → Int64 → qm_M → Option qm_R) (f_M_laysMended : qm_M → Option qm_R) (v1 : Int32) (m : qm_M) : Option qm_R :=
  qe_rI (f_M_isIn (Int32.toInt64 v1) (0 : Int64) (3 : Int64) m) fun x1 m1 =>
  if x1 = 0 then
    some (some (.long (0 : Int64)), m1)
  else
    qe_rI (f_M_laysMended m1) fun x2 m2 =>
    if x2 = 0 then
      some (some (.long (0 : Int64)), m2)
    else
      qe_b (qm_in v1 4) (
      some (some (.long (m2.2 125 (Int32.toNatClampNeg v1))), m2))
set_option maxRecDepth 100000 in
theorem xg_M_mended_e {kp : pm_K} {d : Nat} {f_M_isIn : Int64 → Int64 → Int64 → qm_M → Option qm_R} {f_M_laysMended : qm_M → Option qm_R} (hT : qe_G kp d (T_M_mended f_M_isIn f_M_laysMended)) (v1 : Int32) (m : qm_M) : qe_J kp md_M_mended d (X_M_mended_e f_M_isIn f_M_laysMended v1 m) 0 [(0, .ref 112), (1, .int v1)] [] m := qe_run (B := []) (n := 1000) hT qe_B0 rfl
def F_M_mended (v1 : Int32) (m : qm_M) : Option qm_R := X_M_mended_e F_M_isIn F_M_laysMended v1 m
theorem fj_M_mended {kp : pm_K} {d : Nat} (hT : qe_G kp d (T_M_mended F_M_isIn F_M_laysMended)) (v1 : Int32) (m : qm_M) : qe_J kp md_M_mended d (F_M_mended v1 m) 0 [(0, .ref 112), (1, .int v1)] [] m := xg_M_mended_e hT v1 m
theorem fg_M_mended {kp : pm_K} (d : Nat) : qe_GE kp (d + 10) (233, 0, 11, 2, qw_ci 112 F_M_mended) := qe_entry (by decide +kernel) (qw_ci_ok (d := d + 9) rfl rfl (fj_M_mended (qe_G1 (fg_M_isIn (d + 8)) (qe_G1 (fg_M_laysMended (d + 0)) qe_G0))))
/-! TurnFieldModel.mendedAt(J)J -/
noncomputable def T_M_mendedAt (f_M_laysMended : qm_M → Option qm_R) (f_M_product : Int64 → Int64 → qm_M → Option qm_R) : qe_T := [(232, 0, 11, 1, qw_c 112 f_M_laysMended), (192, 0, 11, 2, qw_cll 112 f_M_product)]
def X_M_mendedAt_14 (f_M_laysMended : qm_M → Option qm_R) (f_M_product : Int64 → Int64 → qm_M → Option qm_R) (l14 : Int64 → Int64 → Int32 → qm_M → Option qm_R) (v1 : Int64) (v3 : Int64) (v5 : Int32) (m : qm_M) : Option qm_R :=
  if v5 < 0 then
    some (some (.long v3), m)
  else
    qe_rL (f_M_product v3 v1 m) fun x1 m1 =>
    qe_b (qm_in v5 4) (
    let x2 : Int64 := (x1 ^^^ (m1.2 125 (Int32.toNatClampNeg v5)))
    l14 v1 x2 (v5 + (-1 : Int32)) m1)
set_option maxRecDepth 100000 in
theorem xg_M_mendedAt_14 {kp : pm_K} {d : Nat} {f_M_laysMended : qm_M → Option qm_R} {f_M_product : Int64 → Int64 → qm_M → Option qm_R} {l14 : Int64 → Int64 → Int32 → qm_M → Option qm_R} (hT : qe_G kp d (T_M_mendedAt f_M_laysMended f_M_product)) (h14 : ∀ (v1 : Int64) (v3 : Int64) (v5 : Int32) (m : qm_M), qe_J kp md_M_mendedAt d (l14 v1 v3 v5 m) 14 [(0, .ref 112), (1, .long v1), (3, .long v3), (5, .int v5)] [] m) (v1 : Int64) (v3 : Int64) (v5 : Int32) (m : qm_M) : qe_J kp md_M_mendedAt d (X_M_mendedAt_14 f_M_laysMended f_M_product l14 v1 v3 v5 m) 14 [(0, .ref 112), (1, .long v1), (3, .long v3), (5, .int v5)] [] m := qe_run (B := [(14, [0, 1, 3, 5], qp_clli_ 112 l14)]) (n := 1000) hT (qe_B1 (qp_clli__ok h14) qe_B0) rfl
def L_M_mendedAt_14 : Nat → Int64 → Int64 → Int32 → qm_M → Option qm_R
  | 0, _, _, _, _ => none
  | n + 1, v1, v3, v5, m => X_M_mendedAt_14 F_M_laysMended F_M_product (L_M_mendedAt_14 n) v1 v3 v5 m
theorem lg_M_mendedAt_14 {kp : pm_K} {d : Nat} (hT : qe_G kp d (T_M_mendedAt F_M_laysMended F_M_product)) : ∀ (n : Nat) (v1 : Int64) (v3 : Int64) (v5 : Int32) (m : qm_M), qe_J kp md_M_mendedAt d (L_M_mendedAt_14 n v1 v3 v5 m) 14 [(0, .ref 112), (1, .long v1), (3, .long v3), (5, .int v5)] [] m
  | 0, v1, v3, v5, m => qe_none rfl
  | n + 1, v1, v3, v5, m => xg_M_mendedAt_14 hT (lg_M_mendedAt_14 hT n) v1 v3 v5 m
def X_M_mendedAt_e (f_M_laysMended : qm_M → Option qm_R) (f_M_product : Int64 → Int64 → qm_M → Option qm_R) (l14 : Int64 → Int64 → Int32 → qm_M → Option qm_R) (v1 : Int64) (m : qm_M) : Option qm_R :=
  qe_rI (f_M_laysMended m) fun x1 m1 =>
  if x1 = 0 then
    some (some (.long (0 : Int64)), m1)
  else
    l14 v1 (0 : Int64) (3 : Int32) m1
set_option maxRecDepth 100000 in
theorem xg_M_mendedAt_e {kp : pm_K} {d : Nat} {f_M_laysMended : qm_M → Option qm_R} {f_M_product : Int64 → Int64 → qm_M → Option qm_R} {l14 : Int64 → Int64 → Int32 → qm_M → Option qm_R} (hT : qe_G kp d (T_M_mendedAt f_M_laysMended f_M_product)) (h14 : ∀ (v1 : Int64) (v3 : Int64) (v5 : Int32) (m : qm_M), qe_J kp md_M_mendedAt d (l14 v1 v3 v5 m) 14 [(0, .ref 112), (1, .long v1), (3, .long v3), (5, .int v5)] [] m) (v1 : Int64) (m : qm_M) : qe_J kp md_M_mendedAt d (X_M_mendedAt_e f_M_laysMended f_M_product l14 v1 m) 0 [(0, .ref 112), (1, .long v1)] [] m := qe_run (B := [(14, [0, 1, 3, 5], qp_clli_ 112 l14)]) (n := 1000) hT (qe_B1 (qp_clli__ok h14) qe_B0) rfl
def F_M_mendedAt (v1 : Int64) (m : qm_M) : Option qm_R := X_M_mendedAt_e F_M_laysMended F_M_product (L_M_mendedAt_14 1000000) v1 m
theorem fj_M_mendedAt {kp : pm_K} {d : Nat} (hT : qe_G kp d (T_M_mendedAt F_M_laysMended F_M_product)) (v1 : Int64) (m : qm_M) : qe_J kp md_M_mendedAt d (F_M_mendedAt v1 m) 0 [(0, .ref 112), (1, .long v1)] [] m := xg_M_mendedAt_e hT (lg_M_mendedAt_14 hT 1000000) v1 m
theorem fg_M_mendedAt {kp : pm_K} (d : Nat) : qe_GE kp (d + 10) (234, 0, 11, 2, qw_cl 112 F_M_mendedAt) := qe_entry (by decide +kernel) (qw_cl_ok (d := d + 9) rfl rfl (fj_M_mendedAt (qe_G1 (fg_M_laysMended (d + 0)) (qe_G1 (fg_M_product (d + 7)) qe_G0))))
/-! TurnFieldModel.agrees(I)I -/
noncomputable def T_M_agrees (f_M_isIn : Int64 → Int64 → Int64 → qm_M → Option qm_R) (f_M_findsMended : qm_M → Option qm_R) (f_M_size : Int64 → qm_M → Option qm_R) : qe_T := [(185, 1, 0, 1, qw_lll f_M_isIn), (230, 0, 11, 1, qw_c 112 f_M_findsMended), (256, 1, 0, 1, qw_l f_M_size)]
def X_M_agrees_e (f_M_isIn : Int64 → Int64 → Int64 → qm_M → Option qm_R) (f_M_findsMended : qm_M → Option qm_R) (f_M_size : Int64 → qm_M → Option qm_R) (v1 : Int32) (m : qm_M) : Option qm_R :=
  qe_rI (f_M_isIn (Int32.toInt64 v1) (0 : Int64) (1 : Int64) m) fun x1 m1 =>
  if x1 = 0 then
    some (some (.int (-1 : Int32)), m1)
  else
    qe_rI (f_M_findsMended m1) fun x2 m2 =>
    if x2 = 0 then
      some (some (.int (-2 : Int32)), m2)
    else
      if v1 = 0 then
        qe_rI (f_M_size (Int32.toInt64 (m2.1 112 13)) m2) fun x3 m3 =>
        some (some (.int x3), m3)
      else
        some (some (.int ((255 : Int32) &&& ((m2.1 112 13) ^^^ (-1 : Int32)))), m2)
set_option maxRecDepth 100000 in
theorem xg_M_agrees_e {kp : pm_K} {d : Nat} {f_M_isIn : Int64 → Int64 → Int64 → qm_M → Option qm_R} {f_M_findsMended : qm_M → Option qm_R} {f_M_size : Int64 → qm_M → Option qm_R} (hT : qe_G kp d (T_M_agrees f_M_isIn f_M_findsMended f_M_size)) (v1 : Int32) (m : qm_M) : qe_J kp md_M_agrees d (X_M_agrees_e f_M_isIn f_M_findsMended f_M_size v1 m) 0 [(0, .ref 112), (1, .int v1)] [] m := qe_run (B := []) (n := 1000) hT qe_B0 rfl
def F_M_agrees (v1 : Int32) (m : qm_M) : Option qm_R := X_M_agrees_e F_M_isIn F_M_findsMended F_M_size v1 m
theorem fj_M_agrees {kp : pm_K} {d : Nat} (hT : qe_G kp d (T_M_agrees F_M_isIn F_M_findsMended F_M_size)) (v1 : Int32) (m : qm_M) : qe_J kp md_M_agrees d (F_M_agrees v1 m) 0 [(0, .ref 112), (1, .int v1)] [] m := xg_M_agrees_e hT v1 m
theorem fg_M_agrees {kp : pm_K} (d : Nat) : qe_GE kp (d + 9) (235, 0, 11, 1, qw_ci 112 F_M_agrees) := qe_entry (by decide +kernel) (qw_ci_ok (d := d + 8) rfl rfl (fj_M_agrees (qe_G1 (fg_M_isIn (d + 7)) (qe_G1 (fg_M_findsMended (d + 0)) (qe_G1 (fg_M_size (d + 7)) qe_G0)))))
/-! TurnFieldModel.primesOf(I)I -/
noncomputable def T_M_primesOf : qe_T := []
def X_M_primesOf_e (v0 : Int32) (m : qm_M) : Option qm_R :=
  if v0 < (4 : Int32) then
    some (some (.int ((qo_ishl (1 : Int32) v0) - (1 : Int32))), m)
  else
    if v0 = (4 : Int32) then
      some (some (.int (15 : Int32)), m)
    else
      if v0 = (5 : Int32) then
        some (some (.int (47 : Int32)), m)
      else
        some (some (.int (127 : Int32)), m)
set_option maxRecDepth 100000 in
theorem xg_M_primesOf_e {kp : pm_K} {d : Nat} (hT : qe_G kp d (T_M_primesOf)) (v0 : Int32) (m : qm_M) : qe_J kp md_M_primesOf d (X_M_primesOf_e v0 m) 0 [(0, .int v0)] [] m := qe_run (B := []) (n := 1000) hT qe_B0 rfl
def F_M_primesOf (v0 : Int32) (m : qm_M) : Option qm_R := X_M_primesOf_e v0 m
theorem fj_M_primesOf {kp : pm_K} {d : Nat} (hT : qe_G kp d (T_M_primesOf)) (v0 : Int32) (m : qm_M) : qe_J kp md_M_primesOf d (F_M_primesOf v0 m) 0 [(0, .int v0)] [] m := xg_M_primesOf_e hT v0 m
theorem fg_M_primesOf {kp : pm_K} (d : Nat) : qe_GE kp (d + 1) (236, 1, 0, 1, qw_i F_M_primesOf) := qe_entry (by decide +kernel) (qw_i_ok (d := d + 0) rfl rfl (fj_M_primesOf qe_G0))
/-! TurnFieldModel.isFull(JI)Z -/
noncomputable def T_M_isFull (f_M_has : Int64 → Int32 → qm_M → Option qm_R) (f_M_madeOf : Int32 → qm_M → Option qm_R) (f_M_powerOf : Int64 → Int64 → qm_M → Option qm_R) : qe_T := [(186, 1, 0, 1, qw_li f_M_has), (203, 0, 11, 2, qw_ci 112 f_M_madeOf), (194, 0, 11, 2, qw_cll 112 f_M_powerOf)]
def X_M_isFull_3 (f_M_has : Int64 → Int32 → qm_M → Option qm_R) (f_M_madeOf : Int32 → qm_M → Option qm_R) (f_M_powerOf : Int64 → Int64 → qm_M → Option qm_R) (l3 : Int64 → Int32 → Int32 → qm_M → Option qm_R) (v1 : Int64) (v3 : Int32) (v4 : Int32) (m : qm_M) : Option qm_R :=
  if v4 < (7 : Int32) then
    qe_rI (f_M_has (Int32.toInt64 v3) v4 m) fun x1 m1 =>
    if x1 = 0 then
      l3 v1 v3 (v4 + (1 : Int32)) m1
    else
      qe_rL (f_M_madeOf (v3 &&& ((qo_ishl (1 : Int32) v4) ^^^ (-1 : Int32))) m1) fun x2 m2 =>
      qe_rL (f_M_powerOf v1 x2 m2) fun x3 m3 =>
      if (lg_cmp x3 (1 : Int64)) = 0 then
        some (some (.int (0 : Int32)), m3)
      else
        l3 v1 v3 (v4 + (1 : Int32)) m3
  else
    some (some (.int (1 : Int32)), m)
set_option maxRecDepth 100000 in
theorem xg_M_isFull_3 {kp : pm_K} {d : Nat} {f_M_has : Int64 → Int32 → qm_M → Option qm_R} {f_M_madeOf : Int32 → qm_M → Option qm_R} {f_M_powerOf : Int64 → Int64 → qm_M → Option qm_R} {l3 : Int64 → Int32 → Int32 → qm_M → Option qm_R} (hT : qe_G kp d (T_M_isFull f_M_has f_M_madeOf f_M_powerOf)) (h3 : ∀ (v1 : Int64) (v3 : Int32) (v4 : Int32) (m : qm_M), qe_J kp md_M_isFull d (l3 v1 v3 v4 m) 3 [(0, .ref 112), (1, .long v1), (3, .int v3), (4, .int v4)] [] m) (v1 : Int64) (v3 : Int32) (v4 : Int32) (m : qm_M) : qe_J kp md_M_isFull d (X_M_isFull_3 f_M_has f_M_madeOf f_M_powerOf l3 v1 v3 v4 m) 3 [(0, .ref 112), (1, .long v1), (3, .int v3), (4, .int v4)] [] m := qe_run (B := [(3, [0, 1, 3, 4], qp_clii_ 112 l3)]) (n := 1000) hT (qe_B1 (qp_clii__ok h3) qe_B0) rfl
def L_M_isFull_3 : Nat → Int64 → Int32 → Int32 → qm_M → Option qm_R
  | 0, _, _, _, _ => none
  | n + 1, v1, v3, v4, m => X_M_isFull_3 F_M_has F_M_madeOf F_M_powerOf (L_M_isFull_3 n) v1 v3 v4 m
theorem lg_M_isFull_3 {kp : pm_K} {d : Nat} (hT : qe_G kp d (T_M_isFull F_M_has F_M_madeOf F_M_powerOf)) : ∀ (n : Nat) (v1 : Int64) (v3 : Int32) (v4 : Int32) (m : qm_M), qe_J kp md_M_isFull d (L_M_isFull_3 n v1 v3 v4 m) 3 [(0, .ref 112), (1, .long v1), (3, .int v3), (4, .int v4)] [] m
  | 0, v1, v3, v4, m => qe_none rfl
  | n + 1, v1, v3, v4, m => xg_M_isFull_3 hT (lg_M_isFull_3 hT n) v1 v3 v4 m
def X_M_isFull_e (f_M_has : Int64 → Int32 → qm_M → Option qm_R) (f_M_madeOf : Int32 → qm_M → Option qm_R) (f_M_powerOf : Int64 → Int64 → qm_M → Option qm_R) (l3 : Int64 → Int32 → Int32 → qm_M → Option qm_R) (v1 : Int64) (v3 : Int32) (m : qm_M) : Option qm_R :=
  l3 v1 v3 (0 : Int32) m
set_option maxRecDepth 100000 in
theorem xg_M_isFull_e {kp : pm_K} {d : Nat} {f_M_has : Int64 → Int32 → qm_M → Option qm_R} {f_M_madeOf : Int32 → qm_M → Option qm_R} {f_M_powerOf : Int64 → Int64 → qm_M → Option qm_R} {l3 : Int64 → Int32 → Int32 → qm_M → Option qm_R} (hT : qe_G kp d (T_M_isFull f_M_has f_M_madeOf f_M_powerOf)) (h3 : ∀ (v1 : Int64) (v3 : Int32) (v4 : Int32) (m : qm_M), qe_J kp md_M_isFull d (l3 v1 v3 v4 m) 3 [(0, .ref 112), (1, .long v1), (3, .int v3), (4, .int v4)] [] m) (v1 : Int64) (v3 : Int32) (m : qm_M) : qe_J kp md_M_isFull d (X_M_isFull_e f_M_has f_M_madeOf f_M_powerOf l3 v1 v3 m) 0 [(0, .ref 112), (1, .long v1), (3, .int v3)] [] m := qe_run (B := [(3, [0, 1, 3, 4], qp_clii_ 112 l3)]) (n := 1000) hT (qe_B1 (qp_clii__ok h3) qe_B0) rfl
def F_M_isFull (v1 : Int64) (v3 : Int32) (m : qm_M) : Option qm_R := X_M_isFull_e F_M_has F_M_madeOf F_M_powerOf (L_M_isFull_3 1000000) v1 v3 m
theorem fj_M_isFull {kp : pm_K} {d : Nat} (hT : qe_G kp d (T_M_isFull F_M_has F_M_madeOf F_M_powerOf)) (v1 : Int64) (v3 : Int32) (m : qm_M) : qe_J kp md_M_isFull d (F_M_isFull v1 v3 m) 0 [(0, .ref 112), (1, .long v1), (3, .int v3)] [] m := xg_M_isFull_e hT (lg_M_isFull_3 hT 1000000) v1 v3 m
theorem fg_M_isFull {kp : pm_K} (d : Nat) : qe_GE kp (d + 5) (237, 0, 11, 1, qw_cli 112 F_M_isFull) := qe_entry (by decide +kernel) (qw_cli_ok (d := d + 4) rfl rfl (fj_M_isFull (qe_G1 (fg_M_has (d + 3)) (qe_G1 (fg_M_madeOf (d + 2)) (qe_G1 (fg_M_powerOf (d + 0)) qe_G0)))))
/-! TurnFieldModel.full(II)J -/
noncomputable def T_M_full (f_M_isIn : Int64 → Int64 → Int64 → qm_M → Option qm_R) (f_M_primesOf : Int32 → qm_M → Option qm_R) (f_M_has : Int64 → Int32 → qm_M → Option qm_R) (f_M_isFull : Int64 → Int32 → qm_M → Option qm_R) : qe_T := [(185, 1, 0, 1, qw_lll f_M_isIn), (236, 1, 0, 1, qw_i f_M_primesOf), (186, 1, 0, 1, qw_li f_M_has), (237, 0, 11, 1, qw_cli 112 f_M_isFull)]
def X_M_full_80 (f_M_isIn : Int64 → Int64 → Int64 → qm_M → Option qm_R) (f_M_primesOf : Int32 → qm_M → Option qm_R) (f_M_has : Int64 → Int32 → qm_M → Option qm_R) (f_M_isFull : Int64 → Int32 → qm_M → Option qm_R) (l80 : Int32 → Int64 → Int32 → qm_M → Option qm_R) (v3 : Int32) (v4 : Int64) (v6 : Int32) (m : qm_M) : Option qm_R :=
  if v6 < (7 : Int32) then
    qe_rI (f_M_has (Int32.toInt64 v3) v6 m) fun x1 m1 =>
    if x1 = 0 then
      l80 v3 v4 (v6 + (1 : Int32)) m1
    else
      qe_b (qm_in v6 7) (
      let x2 : Int64 := (v4 * ((m1.2 118 (Int32.toNatClampNeg v6)) - (1 : Int64)))
      l80 v3 x2 (v6 + (1 : Int32)) m1)
  else
    some (some (.long v4), m)
set_option maxRecDepth 100000 in
theorem xg_M_full_80 {kp : pm_K} {d : Nat} {f_M_isIn : Int64 → Int64 → Int64 → qm_M → Option qm_R} {f_M_primesOf : Int32 → qm_M → Option qm_R} {f_M_has : Int64 → Int32 → qm_M → Option qm_R} {f_M_isFull : Int64 → Int32 → qm_M → Option qm_R} {l80 : Int32 → Int64 → Int32 → qm_M → Option qm_R} (hT : qe_G kp d (T_M_full f_M_isIn f_M_primesOf f_M_has f_M_isFull)) (h80 : ∀ (v3 : Int32) (v4 : Int64) (v6 : Int32) (m : qm_M), qe_J kp md_M_full d (l80 v3 v4 v6 m) 80 [(0, .ref 112), (3, .int v3), (4, .long v4), (6, .int v6)] [] m) (v3 : Int32) (v4 : Int64) (v6 : Int32) (m : qm_M) : qe_J kp md_M_full d (X_M_full_80 f_M_isIn f_M_primesOf f_M_has f_M_isFull l80 v3 v4 v6 m) 80 [(0, .ref 112), (3, .int v3), (4, .long v4), (6, .int v6)] [] m := qe_run (B := [(80, [0, 3, 4, 6], qp_cili_ 112 l80)]) (n := 1000) hT (qe_B1 (qp_cili__ok h80) qe_B0) rfl
def L_M_full_80 : Nat → Int32 → Int64 → Int32 → qm_M → Option qm_R
  | 0, _, _, _, _ => none
  | n + 1, v3, v4, v6, m => X_M_full_80 F_M_isIn F_M_primesOf F_M_has F_M_isFull (L_M_full_80 n) v3 v4 v6 m
theorem lg_M_full_80 {kp : pm_K} {d : Nat} (hT : qe_G kp d (T_M_full F_M_isIn F_M_primesOf F_M_has F_M_isFull)) : ∀ (n : Nat) (v3 : Int32) (v4 : Int64) (v6 : Int32) (m : qm_M), qe_J kp md_M_full d (L_M_full_80 n v3 v4 v6 m) 80 [(0, .ref 112), (3, .int v3), (4, .long v4), (6, .int v6)] [] m
  | 0, v3, v4, v6, m => qe_none rfl
  | n + 1, v3, v4, v6, m => xg_M_full_80 hT (lg_M_full_80 hT n) v3 v4 v6 m
def X_M_full_52 (f_M_isIn : Int64 → Int64 → Int64 → qm_M → Option qm_R) (f_M_primesOf : Int32 → qm_M → Option qm_R) (f_M_has : Int64 → Int32 → qm_M → Option qm_R) (f_M_isFull : Int64 → Int32 → qm_M → Option qm_R) (l52 : Int32 → Int64 → qm_M → Option qm_R) (v3 : Int32) (v4 : Int64) (m : qm_M) : Option qm_R :=
  qe_rI (f_M_isFull v4 v3 m) fun x1 m1 =>
  if x1 = 0 then
    l52 v3 (v4 + (1 : Int64)) m1
  else
    some (some (.long v4), m1)
set_option maxRecDepth 100000 in
theorem xg_M_full_52 {kp : pm_K} {d : Nat} {f_M_isIn : Int64 → Int64 → Int64 → qm_M → Option qm_R} {f_M_primesOf : Int32 → qm_M → Option qm_R} {f_M_has : Int64 → Int32 → qm_M → Option qm_R} {f_M_isFull : Int64 → Int32 → qm_M → Option qm_R} {l52 : Int32 → Int64 → qm_M → Option qm_R} (hT : qe_G kp d (T_M_full f_M_isIn f_M_primesOf f_M_has f_M_isFull)) (h52 : ∀ (v3 : Int32) (v4 : Int64) (m : qm_M), qe_J kp md_M_full d (l52 v3 v4 m) 52 [(0, .ref 112), (3, .int v3), (4, .long v4)] [] m) (v3 : Int32) (v4 : Int64) (m : qm_M) : qe_J kp md_M_full d (X_M_full_52 f_M_isIn f_M_primesOf f_M_has f_M_isFull l52 v3 v4 m) 52 [(0, .ref 112), (3, .int v3), (4, .long v4)] [] m := qe_run (B := [(52, [0, 3, 4], qp_cil_ 112 l52)]) (n := 1000) hT (qe_B1 (qp_cil__ok h52) qe_B0) rfl
def L_M_full_52 : Nat → Int32 → Int64 → qm_M → Option qm_R
  | 0, _, _, _ => none
  | n + 1, v3, v4, m => X_M_full_52 F_M_isIn F_M_primesOf F_M_has F_M_isFull (L_M_full_52 n) v3 v4 m
theorem lg_M_full_52 {kp : pm_K} {d : Nat} (hT : qe_G kp d (T_M_full F_M_isIn F_M_primesOf F_M_has F_M_isFull)) : ∀ (n : Nat) (v3 : Int32) (v4 : Int64) (m : qm_M), qe_J kp md_M_full d (L_M_full_52 n v3 v4 m) 52 [(0, .ref 112), (3, .int v3), (4, .long v4)] [] m
  | 0, v3, v4, m => qe_none rfl
  | n + 1, v3, v4, m => xg_M_full_52 hT (lg_M_full_52 hT n) v3 v4 m
def X_M_full_e (f_M_isIn : Int64 → Int64 → Int64 → qm_M → Option qm_R) (f_M_primesOf : Int32 → qm_M → Option qm_R) (f_M_has : Int64 → Int32 → qm_M → Option qm_R) (f_M_isFull : Int64 → Int32 → qm_M → Option qm_R) (l52 : Int32 → Int64 → qm_M → Option qm_R) (l80 : Int32 → Int64 → Int32 → qm_M → Option qm_R) (v1 : Int32) (v2 : Int32) (m : qm_M) : Option qm_R :=
  qe_rI (f_M_isIn (Int32.toInt64 v1) (0 : Int64) (6 : Int64) m) fun x1 m1 =>
  if x1 = 0 then
    some (some (.long (-1 : Int64)), m1)
  else
    qe_rI (f_M_isIn (Int32.toInt64 v2) (0 : Int64) (1 : Int64) m1) fun x2 m2 =>
    if x2 = 0 then
      some (some (.long (-1 : Int64)), m2)
    else
      qe_rI (f_M_primesOf v1 m2) fun x3 m3 =>
      if v2 = 0 then
        if v1 = 0 then
          l52 x3 (1 : Int64) m3
        else
          let x4 : Int64 := (qo_lshl (1 : Int64) (qo_ishl (1 : Int32) (v1 - (1 : Int32))))
          l52 x3 x4 m3
      else
        l80 x3 (1 : Int64) (0 : Int32) m3
set_option maxRecDepth 100000 in
theorem xg_M_full_e {kp : pm_K} {d : Nat} {f_M_isIn : Int64 → Int64 → Int64 → qm_M → Option qm_R} {f_M_primesOf : Int32 → qm_M → Option qm_R} {f_M_has : Int64 → Int32 → qm_M → Option qm_R} {f_M_isFull : Int64 → Int32 → qm_M → Option qm_R} {l52 : Int32 → Int64 → qm_M → Option qm_R} {l80 : Int32 → Int64 → Int32 → qm_M → Option qm_R} (hT : qe_G kp d (T_M_full f_M_isIn f_M_primesOf f_M_has f_M_isFull)) (h52 : ∀ (v3 : Int32) (v4 : Int64) (m : qm_M), qe_J kp md_M_full d (l52 v3 v4 m) 52 [(0, .ref 112), (3, .int v3), (4, .long v4)] [] m) (h80 : ∀ (v3 : Int32) (v4 : Int64) (v6 : Int32) (m : qm_M), qe_J kp md_M_full d (l80 v3 v4 v6 m) 80 [(0, .ref 112), (3, .int v3), (4, .long v4), (6, .int v6)] [] m) (v1 : Int32) (v2 : Int32) (m : qm_M) : qe_J kp md_M_full d (X_M_full_e f_M_isIn f_M_primesOf f_M_has f_M_isFull l52 l80 v1 v2 m) 0 [(0, .ref 112), (1, .int v1), (2, .int v2)] [] m := qe_run (B := [(52, [0, 3, 4], qp_cil_ 112 l52), (80, [0, 3, 4, 6], qp_cili_ 112 l80)]) (n := 1000) hT (qe_B1 (qp_cil__ok h52) (qe_B1 (qp_cili__ok h80) qe_B0)) rfl
def F_M_full (v1 : Int32) (v2 : Int32) (m : qm_M) : Option qm_R := X_M_full_e F_M_isIn F_M_primesOf F_M_has F_M_isFull (L_M_full_52 1000000) (L_M_full_80 1000000) v1 v2 m
theorem fj_M_full {kp : pm_K} {d : Nat} (hT : qe_G kp d (T_M_full F_M_isIn F_M_primesOf F_M_has F_M_isFull)) (v1 : Int32) (v2 : Int32) (m : qm_M) : qe_J kp md_M_full d (F_M_full v1 v2 m) 0 [(0, .ref 112), (1, .int v1), (2, .int v2)] [] m := xg_M_full_e hT (lg_M_full_52 hT 1000000) (lg_M_full_80 hT 1000000) v1 v2 m
theorem fg_M_full {kp : pm_K} (d : Nat) : qe_GE kp (d + 6) (238, 0, 11, 2, qw_cii 112 F_M_full) := qe_entry (by decide +kernel) (qw_cii_ok (d := d + 5) rfl rfl (fj_M_full (qe_G1 (fg_M_isIn (d + 4)) (qe_G1 (fg_M_primesOf (d + 4)) (qe_G1 (fg_M_has (d + 4)) (qe_G1 (fg_M_isFull (d + 0)) qe_G0))))))
/-! TurnFieldModel.entryOf(II)J -/
noncomputable def T_M_entryOf : qe_T := []
def X_M_entryOf_e (v1 : Int32) (v2 : Int32) (m : qm_M) : Option qm_R :=
  qe_b (qm_in (((17 : Int32) + ((4 : Int32) * v1)) + v2) 33) (
  some (some (.long (m.2 113 (Int32.toNatClampNeg (((17 : Int32) + ((4 : Int32) * v1)) + v2)))), m))
set_option maxRecDepth 100000 in
theorem xg_M_entryOf_e {kp : pm_K} {d : Nat} (hT : qe_G kp d (T_M_entryOf)) (v1 : Int32) (v2 : Int32) (m : qm_M) : qe_J kp md_M_entryOf d (X_M_entryOf_e v1 v2 m) 0 [(0, .ref 112), (1, .int v1), (2, .int v2)] [] m := qe_run (B := []) (n := 1000) hT qe_B0 rfl
def F_M_entryOf (v1 : Int32) (v2 : Int32) (m : qm_M) : Option qm_R := X_M_entryOf_e v1 v2 m
theorem fj_M_entryOf {kp : pm_K} {d : Nat} (hT : qe_G kp d (T_M_entryOf)) (v1 : Int32) (v2 : Int32) (m : qm_M) : qe_J kp md_M_entryOf d (F_M_entryOf v1 v2 m) 0 [(0, .ref 112), (1, .int v1), (2, .int v2)] [] m := xg_M_entryOf_e hT v1 v2 m
theorem fg_M_entryOf {kp : pm_K} (d : Nat) : qe_GE kp (d + 1) (239, 0, 11, 2, qw_cii 112 F_M_entryOf) := qe_entry (by decide +kernel) (qw_cii_ok (d := d + 0) rfl rfl (fj_M_entryOf qe_G0))
/-! TurnFieldModel.cellAt(II)I -/
noncomputable def T_M_cellAt : qe_T := []
def X_M_cellAt_e (v0 : Int32) (v1 : Int32) (m : qm_M) : Option qm_R :=
  some (some (.int (((8 : Int32) * v0) + v1)), m)
set_option maxRecDepth 100000 in
theorem xg_M_cellAt_e {kp : pm_K} {d : Nat} (hT : qe_G kp d (T_M_cellAt)) (v0 : Int32) (v1 : Int32) (m : qm_M) : qe_J kp md_M_cellAt d (X_M_cellAt_e v0 v1 m) 0 [(0, .int v0), (1, .int v1)] [] m := qe_run (B := []) (n := 1000) hT qe_B0 rfl
def F_M_cellAt (v0 : Int32) (v1 : Int32) (m : qm_M) : Option qm_R := X_M_cellAt_e v0 v1 m
theorem fj_M_cellAt {kp : pm_K} {d : Nat} (hT : qe_G kp d (T_M_cellAt)) (v0 : Int32) (v1 : Int32) (m : qm_M) : qe_J kp md_M_cellAt d (F_M_cellAt v0 v1 m) 0 [(0, .int v0), (1, .int v1)] [] m := xg_M_cellAt_e hT v0 v1 m
theorem fg_M_cellAt {kp : pm_K} (d : Nat) : qe_GE kp (d + 1) (240, 1, 0, 1, qw_ii F_M_cellAt) := qe_entry (by decide +kernel) (qw_ii_ok (d := d + 0) rfl rfl (fj_M_cellAt qe_G0))
/-! TurnFieldModel.laysForm()V -/
noncomputable def T_M_laysForm (f_M_cellAt : Int32 → Int32 → qm_M → Option qm_R) (f_M_entryOf : Int32 → Int32 → qm_M → Option qm_R) : qe_T := [(240, 1, 0, 1, qw_ii f_M_cellAt), (239, 0, 11, 2, qw_cii 112 f_M_entryOf)]
def X_M_laysForm_36 (f_M_cellAt : Int32 → Int32 → qm_M → Option qm_R) (f_M_entryOf : Int32 → Int32 → qm_M → Option qm_R) (l26 : Int32 → qm_M → Option qm_R) (l36 : Int32 → Int32 → qm_M → Option qm_R) (v1 : Int32) (v2 : Int32) (m : qm_M) : Option qm_R :=
  if v2 < (8 : Int32) then
    qe_rI (f_M_cellAt v1 v2 m) fun x1 m1 =>
    if v2 < (m1.1 112 18) then
      qe_rL (f_M_entryOf v1 v2 m1) fun x2 m2 =>
      qe_b (qm_in x1 32) (
      let m3 : qm_M := qm_sL m2 127 (Int32.toNatClampNeg x1) x2
      l36 v1 (v2 + (1 : Int32)) m3)
    else
      qe_b (qm_in x1 32) (
      let m4 : qm_M := qm_sL m1 127 (Int32.toNatClampNeg x1) (0 : Int64)
      l36 v1 (v2 + (1 : Int32)) m4)
  else
    l26 (v1 + (1 : Int32)) m
set_option maxRecDepth 100000 in
theorem xg_M_laysForm_36 {kp : pm_K} {d : Nat} {f_M_cellAt : Int32 → Int32 → qm_M → Option qm_R} {f_M_entryOf : Int32 → Int32 → qm_M → Option qm_R} {l26 : Int32 → qm_M → Option qm_R} {l36 : Int32 → Int32 → qm_M → Option qm_R} (hT : qe_G kp d (T_M_laysForm f_M_cellAt f_M_entryOf)) (h26 : ∀ (v1 : Int32) (m : qm_M), qe_J kp md_M_laysForm d (l26 v1 m) 26 [(0, .ref 112), (1, .int v1)] [] m) (h36 : ∀ (v1 : Int32) (v2 : Int32) (m : qm_M), qe_J kp md_M_laysForm d (l36 v1 v2 m) 36 [(0, .ref 112), (1, .int v1), (2, .int v2)] [] m) (v1 : Int32) (v2 : Int32) (m : qm_M) : qe_J kp md_M_laysForm d (X_M_laysForm_36 f_M_cellAt f_M_entryOf l26 l36 v1 v2 m) 36 [(0, .ref 112), (1, .int v1), (2, .int v2)] [] m := qe_run (B := [(26, [0, 1], qp_ci_ 112 l26), (36, [0, 1, 2], qp_cii_ 112 l36)]) (n := 1000) hT (qe_B1 (qp_ci__ok h26) (qe_B1 (qp_cii__ok h36) qe_B0)) rfl
def L_M_laysForm_36 (K26 : Int32 → qm_M → Option qm_R) : Nat → Int32 → Int32 → qm_M → Option qm_R
  | 0, _, _, _ => none
  | n + 1, v1, v2, m => X_M_laysForm_36 F_M_cellAt F_M_entryOf K26 (L_M_laysForm_36 K26 n) v1 v2 m
theorem lg_M_laysForm_36 {kp : pm_K} {d : Nat} (hT : qe_G kp d (T_M_laysForm F_M_cellAt F_M_entryOf)) {K26 : Int32 → qm_M → Option qm_R} (hK26 : ∀ (v1 : Int32) (m : qm_M), qe_J kp md_M_laysForm d (K26 v1 m) 26 [(0, .ref 112), (1, .int v1)] [] m) : ∀ (n : Nat) (v1 : Int32) (v2 : Int32) (m : qm_M), qe_J kp md_M_laysForm d (L_M_laysForm_36 K26 n v1 v2 m) 36 [(0, .ref 112), (1, .int v1), (2, .int v2)] [] m
  | 0, v1, v2, m => qe_none rfl
  | n + 1, v1, v2, m => xg_M_laysForm_36 hT hK26 (lg_M_laysForm_36 hT hK26 n) v1 v2 m
def X_M_laysForm_26 (f_M_cellAt : Int32 → Int32 → qm_M → Option qm_R) (f_M_entryOf : Int32 → Int32 → qm_M → Option qm_R) (l36 : Int32 → Int32 → qm_M → Option qm_R) (v1 : Int32) (m : qm_M) : Option qm_R :=
  if v1 < (m.1 112 17) then
    l36 v1 (0 : Int32) m
  else
    some (none, m)
set_option maxRecDepth 100000 in
theorem xg_M_laysForm_26 {kp : pm_K} {d : Nat} {f_M_cellAt : Int32 → Int32 → qm_M → Option qm_R} {f_M_entryOf : Int32 → Int32 → qm_M → Option qm_R} {l36 : Int32 → Int32 → qm_M → Option qm_R} (hT : qe_G kp d (T_M_laysForm f_M_cellAt f_M_entryOf)) (h36 : ∀ (v1 : Int32) (v2 : Int32) (m : qm_M), qe_J kp md_M_laysForm d (l36 v1 v2 m) 36 [(0, .ref 112), (1, .int v1), (2, .int v2)] [] m) (v1 : Int32) (m : qm_M) : qe_J kp md_M_laysForm d (X_M_laysForm_26 f_M_cellAt f_M_entryOf l36 v1 m) 26 [(0, .ref 112), (1, .int v1)] [] m := qe_run (B := [(36, [0, 1, 2], qp_cii_ 112 l36)]) (n := 1000) hT (qe_B1 (qp_cii__ok h36) qe_B0) rfl
def L_M_laysForm_26 : Nat → Int32 → qm_M → Option qm_R
  | 0, _, _ => none
  | n + 1, v1, m => X_M_laysForm_26 F_M_cellAt F_M_entryOf (L_M_laysForm_36 (L_M_laysForm_26 n) 1000000) v1 m
theorem lg_M_laysForm_26 {kp : pm_K} {d : Nat} (hT : qe_G kp d (T_M_laysForm F_M_cellAt F_M_entryOf)) : ∀ (n : Nat) (v1 : Int32) (m : qm_M), qe_J kp md_M_laysForm d (L_M_laysForm_26 n v1 m) 26 [(0, .ref 112), (1, .int v1)] [] m
  | 0, v1, m => qe_none rfl
  | n + 1, v1, m => xg_M_laysForm_26 hT (lg_M_laysForm_36 hT (lg_M_laysForm_26 hT n) 1000000) v1 m
def X_M_laysForm_e (f_M_cellAt : Int32 → Int32 → qm_M → Option qm_R) (f_M_entryOf : Int32 → Int32 → qm_M → Option qm_R) (l26 : Int32 → qm_M → Option qm_R)  (m : qm_M) : Option qm_R :=
  let m1 : qm_M := qm_sI m 112 17 (Int64.toInt32 (m.2 113 15))
  let m2 : qm_M := qm_sI m1 112 18 (Int64.toInt32 (m1.2 113 16))
  l26 (0 : Int32) m2
set_option maxRecDepth 100000 in
theorem xg_M_laysForm_e {kp : pm_K} {d : Nat} {f_M_cellAt : Int32 → Int32 → qm_M → Option qm_R} {f_M_entryOf : Int32 → Int32 → qm_M → Option qm_R} {l26 : Int32 → qm_M → Option qm_R} (hT : qe_G kp d (T_M_laysForm f_M_cellAt f_M_entryOf)) (h26 : ∀ (v1 : Int32) (m : qm_M), qe_J kp md_M_laysForm d (l26 v1 m) 26 [(0, .ref 112), (1, .int v1)] [] m) (m : qm_M) : qe_J kp md_M_laysForm d (X_M_laysForm_e f_M_cellAt f_M_entryOf l26 m) 0 [(0, .ref 112)] [] m := qe_run (B := [(26, [0, 1], qp_ci_ 112 l26)]) (n := 1000) hT (qe_B1 (qp_ci__ok h26) qe_B0) rfl
def F_M_laysForm (m : qm_M) : Option qm_R := X_M_laysForm_e F_M_cellAt F_M_entryOf (L_M_laysForm_26 1000000) m
theorem fj_M_laysForm {kp : pm_K} {d : Nat} (hT : qe_G kp d (T_M_laysForm F_M_cellAt F_M_entryOf)) (m : qm_M) : qe_J kp md_M_laysForm d (F_M_laysForm m) 0 [(0, .ref 112)] [] m := xg_M_laysForm_e hT (lg_M_laysForm_26 hT 1000000) m
theorem fg_M_laysForm {kp : pm_K} (d : Nat) : qe_GE kp (d + 2) (241, 0, 11, 0, qw_c 112 F_M_laysForm) := qe_entry (by decide +kernel) (qw_c_ok (d := d + 1) rfl rfl (fj_M_laysForm (qe_G1 (fg_M_cellAt (d + 0)) (qe_G1 (fg_M_entryOf (d + 0)) qe_G0))))
/-! TurnFieldModel.swaps(II)V -/
noncomputable def T_M_swaps (f_M_cellAt : Int32 → Int32 → qm_M → Option qm_R) : qe_T := [(240, 1, 0, 1, qw_ii f_M_cellAt)]
def X_M_swaps_2 (f_M_cellAt : Int32 → Int32 → qm_M → Option qm_R) (l2 : Int32 → Int32 → Int32 → qm_M → Option qm_R) (v1 : Int32) (v2 : Int32) (v3 : Int32) (m : qm_M) : Option qm_R :=
  if v3 < (8 : Int32) then
    qe_rI (f_M_cellAt v1 v3 m) fun x1 m1 =>
    qe_b (qm_in x1 32) (
    qe_rI (f_M_cellAt v1 v3 m1) fun x2 m2 =>
    qe_rI (f_M_cellAt v2 v3 m2) fun x3 m3 =>
    qe_b (qm_in x3 32) (
    qe_b (qm_in x2 32) (
    let m4 : qm_M := qm_sL m3 127 (Int32.toNatClampNeg x2) (m3.2 127 (Int32.toNatClampNeg x3))
    qe_rI (f_M_cellAt v2 v3 m4) fun x4 m5 =>
    qe_b (qm_in x4 32) (
    let m6 : qm_M := qm_sL m5 127 (Int32.toNatClampNeg x4) (m1.2 127 (Int32.toNatClampNeg x1))
    l2 v1 v2 (v3 + (1 : Int32)) m6))))
  else
    some (none, m)
set_option maxRecDepth 100000 in
theorem xg_M_swaps_2 {kp : pm_K} {d : Nat} {f_M_cellAt : Int32 → Int32 → qm_M → Option qm_R} {l2 : Int32 → Int32 → Int32 → qm_M → Option qm_R} (hT : qe_G kp d (T_M_swaps f_M_cellAt)) (h2 : ∀ (v1 : Int32) (v2 : Int32) (v3 : Int32) (m : qm_M), qe_J kp md_M_swaps d (l2 v1 v2 v3 m) 2 [(0, .ref 112), (1, .int v1), (2, .int v2), (3, .int v3)] [] m) (v1 : Int32) (v2 : Int32) (v3 : Int32) (m : qm_M) : qe_J kp md_M_swaps d (X_M_swaps_2 f_M_cellAt l2 v1 v2 v3 m) 2 [(0, .ref 112), (1, .int v1), (2, .int v2), (3, .int v3)] [] m := qe_run (B := [(2, [0, 1, 2, 3], qp_ciii_ 112 l2)]) (n := 1000) hT (qe_B1 (qp_ciii__ok h2) qe_B0) rfl
def L_M_swaps_2 : Nat → Int32 → Int32 → Int32 → qm_M → Option qm_R
  | 0, _, _, _, _ => none
  | n + 1, v1, v2, v3, m => X_M_swaps_2 F_M_cellAt (L_M_swaps_2 n) v1 v2 v3 m
theorem lg_M_swaps_2 {kp : pm_K} {d : Nat} (hT : qe_G kp d (T_M_swaps F_M_cellAt)) : ∀ (n : Nat) (v1 : Int32) (v2 : Int32) (v3 : Int32) (m : qm_M), qe_J kp md_M_swaps d (L_M_swaps_2 n v1 v2 v3 m) 2 [(0, .ref 112), (1, .int v1), (2, .int v2), (3, .int v3)] [] m
  | 0, v1, v2, v3, m => qe_none rfl
  | n + 1, v1, v2, v3, m => xg_M_swaps_2 hT (lg_M_swaps_2 hT n) v1 v2 v3 m
def X_M_swaps_e (f_M_cellAt : Int32 → Int32 → qm_M → Option qm_R) (l2 : Int32 → Int32 → Int32 → qm_M → Option qm_R) (v1 : Int32) (v2 : Int32) (m : qm_M) : Option qm_R :=
  l2 v1 v2 (0 : Int32) m
set_option maxRecDepth 100000 in
theorem xg_M_swaps_e {kp : pm_K} {d : Nat} {f_M_cellAt : Int32 → Int32 → qm_M → Option qm_R} {l2 : Int32 → Int32 → Int32 → qm_M → Option qm_R} (hT : qe_G kp d (T_M_swaps f_M_cellAt)) (h2 : ∀ (v1 : Int32) (v2 : Int32) (v3 : Int32) (m : qm_M), qe_J kp md_M_swaps d (l2 v1 v2 v3 m) 2 [(0, .ref 112), (1, .int v1), (2, .int v2), (3, .int v3)] [] m) (v1 : Int32) (v2 : Int32) (m : qm_M) : qe_J kp md_M_swaps d (X_M_swaps_e f_M_cellAt l2 v1 v2 m) 0 [(0, .ref 112), (1, .int v1), (2, .int v2)] [] m := qe_run (B := [(2, [0, 1, 2, 3], qp_ciii_ 112 l2)]) (n := 1000) hT (qe_B1 (qp_ciii__ok h2) qe_B0) rfl
def F_M_swaps (v1 : Int32) (v2 : Int32) (m : qm_M) : Option qm_R := X_M_swaps_e F_M_cellAt (L_M_swaps_2 1000000) v1 v2 m
theorem fj_M_swaps {kp : pm_K} {d : Nat} (hT : qe_G kp d (T_M_swaps F_M_cellAt)) (v1 : Int32) (v2 : Int32) (m : qm_M) : qe_J kp md_M_swaps d (F_M_swaps v1 v2 m) 0 [(0, .ref 112), (1, .int v1), (2, .int v2)] [] m := xg_M_swaps_e hT (lg_M_swaps_2 hT 1000000) v1 v2 m
theorem fg_M_swaps {kp : pm_K} (d : Nat) : qe_GE kp (d + 2) (242, 0, 11, 0, qw_cii 112 F_M_swaps) := qe_entry (by decide +kernel) (qw_cii_ok (d := d + 1) rfl rfl (fj_M_swaps (qe_G1 (fg_M_cellAt (d + 0)) qe_G0)))
/-! TurnFieldModel.divides(IJ)V -/
noncomputable def T_M_divides (f_M_inverseOf : Int64 → qm_M → Option qm_R) (f_M_cellAt : Int32 → Int32 → qm_M → Option qm_R) (f_M_product : Int64 → Int64 → qm_M → Option qm_R) : qe_T := [(197, 0, 11, 2, qw_cl 112 f_M_inverseOf), (240, 1, 0, 1, qw_ii f_M_cellAt), (192, 0, 11, 2, qw_cll 112 f_M_product)]
def X_M_divides_10 (f_M_inverseOf : Int64 → qm_M → Option qm_R) (f_M_cellAt : Int32 → Int32 → qm_M → Option qm_R) (f_M_product : Int64 → Int64 → qm_M → Option qm_R) (l10 : Int32 → Int64 → Int32 → qm_M → Option qm_R) (v1 : Int32) (v4 : Int64) (v6 : Int32) (m : qm_M) : Option qm_R :=
  if v6 < (8 : Int32) then
    qe_rI (f_M_cellAt v1 v6 m) fun x1 m1 =>
    qe_rI (f_M_cellAt v1 v6 m1) fun x2 m2 =>
    qe_b (qm_in x2 32) (
    qe_rL (f_M_product v4 (m2.2 127 (Int32.toNatClampNeg x2)) m2) fun x3 m3 =>
    qe_b (qm_in x1 32) (
    let m4 : qm_M := qm_sL m3 127 (Int32.toNatClampNeg x1) x3
    l10 v1 v4 (v6 + (1 : Int32)) m4))
  else
    some (none, m)
set_option maxRecDepth 100000 in
theorem xg_M_divides_10 {kp : pm_K} {d : Nat} {f_M_inverseOf : Int64 → qm_M → Option qm_R} {f_M_cellAt : Int32 → Int32 → qm_M → Option qm_R} {f_M_product : Int64 → Int64 → qm_M → Option qm_R} {l10 : Int32 → Int64 → Int32 → qm_M → Option qm_R} (hT : qe_G kp d (T_M_divides f_M_inverseOf f_M_cellAt f_M_product)) (h10 : ∀ (v1 : Int32) (v4 : Int64) (v6 : Int32) (m : qm_M), qe_J kp md_M_divides d (l10 v1 v4 v6 m) 10 [(0, .ref 112), (1, .int v1), (4, .long v4), (6, .int v6)] [] m) (v1 : Int32) (v4 : Int64) (v6 : Int32) (m : qm_M) : qe_J kp md_M_divides d (X_M_divides_10 f_M_inverseOf f_M_cellAt f_M_product l10 v1 v4 v6 m) 10 [(0, .ref 112), (1, .int v1), (4, .long v4), (6, .int v6)] [] m := qe_run (B := [(10, [0, 1, 4, 6], qp_cili_ 112 l10)]) (n := 1000) hT (qe_B1 (qp_cili__ok h10) qe_B0) rfl
def L_M_divides_10 : Nat → Int32 → Int64 → Int32 → qm_M → Option qm_R
  | 0, _, _, _, _ => none
  | n + 1, v1, v4, v6, m => X_M_divides_10 F_M_inverseOf F_M_cellAt F_M_product (L_M_divides_10 n) v1 v4 v6 m
theorem lg_M_divides_10 {kp : pm_K} {d : Nat} (hT : qe_G kp d (T_M_divides F_M_inverseOf F_M_cellAt F_M_product)) : ∀ (n : Nat) (v1 : Int32) (v4 : Int64) (v6 : Int32) (m : qm_M), qe_J kp md_M_divides d (L_M_divides_10 n v1 v4 v6 m) 10 [(0, .ref 112), (1, .int v1), (4, .long v4), (6, .int v6)] [] m
  | 0, v1, v4, v6, m => qe_none rfl
  | n + 1, v1, v4, v6, m => xg_M_divides_10 hT (lg_M_divides_10 hT n) v1 v4 v6 m
def X_M_divides_e (f_M_inverseOf : Int64 → qm_M → Option qm_R) (f_M_cellAt : Int32 → Int32 → qm_M → Option qm_R) (f_M_product : Int64 → Int64 → qm_M → Option qm_R) (l10 : Int32 → Int64 → Int32 → qm_M → Option qm_R) (v1 : Int32) (v2 : Int64) (m : qm_M) : Option qm_R :=
  qe_rL (f_M_inverseOf v2 m) fun x1 m1 =>
  l10 v1 x1 (0 : Int32) m1
set_option maxRecDepth 100000 in
theorem xg_M_divides_e {kp : pm_K} {d : Nat} {f_M_inverseOf : Int64 → qm_M → Option qm_R} {f_M_cellAt : Int32 → Int32 → qm_M → Option qm_R} {f_M_product : Int64 → Int64 → qm_M → Option qm_R} {l10 : Int32 → Int64 → Int32 → qm_M → Option qm_R} (hT : qe_G kp d (T_M_divides f_M_inverseOf f_M_cellAt f_M_product)) (h10 : ∀ (v1 : Int32) (v4 : Int64) (v6 : Int32) (m : qm_M), qe_J kp md_M_divides d (l10 v1 v4 v6 m) 10 [(0, .ref 112), (1, .int v1), (4, .long v4), (6, .int v6)] [] m) (v1 : Int32) (v2 : Int64) (m : qm_M) : qe_J kp md_M_divides d (X_M_divides_e f_M_inverseOf f_M_cellAt f_M_product l10 v1 v2 m) 0 [(0, .ref 112), (1, .int v1), (2, .long v2)] [] m := qe_run (B := [(10, [0, 1, 4, 6], qp_cili_ 112 l10)]) (n := 1000) hT (qe_B1 (qp_cili__ok h10) qe_B0) rfl
def F_M_divides (v1 : Int32) (v2 : Int64) (m : qm_M) : Option qm_R := X_M_divides_e F_M_inverseOf F_M_cellAt F_M_product (L_M_divides_10 1000000) v1 v2 m
theorem fj_M_divides {kp : pm_K} {d : Nat} (hT : qe_G kp d (T_M_divides F_M_inverseOf F_M_cellAt F_M_product)) (v1 : Int32) (v2 : Int64) (m : qm_M) : qe_J kp md_M_divides d (F_M_divides v1 v2 m) 0 [(0, .ref 112), (1, .int v1), (2, .long v2)] [] m := xg_M_divides_e hT (lg_M_divides_10 hT 1000000) v1 v2 m
theorem fg_M_divides {kp : pm_K} (d : Nat) : qe_GE kp (d + 6) (243, 0, 11, 0, qw_cil 112 F_M_divides) := qe_entry (by decide +kernel) (qw_cil_ok (d := d + 5) rfl rfl (fj_M_divides (qe_G1 (fg_M_inverseOf (d + 0)) (qe_G1 (fg_M_cellAt (d + 4)) (qe_G1 (fg_M_product (d + 3)) qe_G0)))))
/-! TurnFieldModel.adds(IIJ)V -/
noncomputable def T_M_adds (f_M_cellAt : Int32 → Int32 → qm_M → Option qm_R) (f_M_product : Int64 → Int64 → qm_M → Option qm_R) : qe_T := [(240, 1, 0, 1, qw_ii f_M_cellAt), (192, 0, 11, 2, qw_cll 112 f_M_product)]
def X_M_adds_3 (f_M_cellAt : Int32 → Int32 → qm_M → Option qm_R) (f_M_product : Int64 → Int64 → qm_M → Option qm_R) (l3 : Int32 → Int32 → Int64 → Int32 → qm_M → Option qm_R) (v1 : Int32) (v2 : Int32) (v3 : Int64) (v5 : Int32) (m : qm_M) : Option qm_R :=
  if v5 < (8 : Int32) then
    qe_rI (f_M_cellAt v1 v5 m) fun x1 m1 =>
    qe_b (qm_in x1 32) (
    qe_rI (f_M_cellAt v2 v5 m1) fun x2 m2 =>
    qe_b (qm_in x2 32) (
    qe_rL (f_M_product v3 (m2.2 127 (Int32.toNatClampNeg x2)) m2) fun x3 m3 =>
    qe_b (qm_in x1 32) (
    let m4 : qm_M := qm_sL m3 127 (Int32.toNatClampNeg x1) ((m1.2 127 (Int32.toNatClampNeg x1)) ^^^ x3)
    l3 v1 v2 v3 (v5 + (1 : Int32)) m4)))
  else
    some (none, m)
set_option maxRecDepth 100000 in
theorem xg_M_adds_3 {kp : pm_K} {d : Nat} {f_M_cellAt : Int32 → Int32 → qm_M → Option qm_R} {f_M_product : Int64 → Int64 → qm_M → Option qm_R} {l3 : Int32 → Int32 → Int64 → Int32 → qm_M → Option qm_R} (hT : qe_G kp d (T_M_adds f_M_cellAt f_M_product)) (h3 : ∀ (v1 : Int32) (v2 : Int32) (v3 : Int64) (v5 : Int32) (m : qm_M), qe_J kp md_M_adds d (l3 v1 v2 v3 v5 m) 3 [(0, .ref 112), (1, .int v1), (2, .int v2), (3, .long v3), (5, .int v5)] [] m) (v1 : Int32) (v2 : Int32) (v3 : Int64) (v5 : Int32) (m : qm_M) : qe_J kp md_M_adds d (X_M_adds_3 f_M_cellAt f_M_product l3 v1 v2 v3 v5 m) 3 [(0, .ref 112), (1, .int v1), (2, .int v2), (3, .long v3), (5, .int v5)] [] m := qe_run (B := [(3, [0, 1, 2, 3, 5], qp_ciili_ 112 l3)]) (n := 1000) hT (qe_B1 (qp_ciili__ok h3) qe_B0) rfl
def L_M_adds_3 : Nat → Int32 → Int32 → Int64 → Int32 → qm_M → Option qm_R
  | 0, _, _, _, _, _ => none
  | n + 1, v1, v2, v3, v5, m => X_M_adds_3 F_M_cellAt F_M_product (L_M_adds_3 n) v1 v2 v3 v5 m
theorem lg_M_adds_3 {kp : pm_K} {d : Nat} (hT : qe_G kp d (T_M_adds F_M_cellAt F_M_product)) : ∀ (n : Nat) (v1 : Int32) (v2 : Int32) (v3 : Int64) (v5 : Int32) (m : qm_M), qe_J kp md_M_adds d (L_M_adds_3 n v1 v2 v3 v5 m) 3 [(0, .ref 112), (1, .int v1), (2, .int v2), (3, .long v3), (5, .int v5)] [] m
  | 0, v1, v2, v3, v5, m => qe_none rfl
  | n + 1, v1, v2, v3, v5, m => xg_M_adds_3 hT (lg_M_adds_3 hT n) v1 v2 v3 v5 m
def X_M_adds_e (f_M_cellAt : Int32 → Int32 → qm_M → Option qm_R) (f_M_product : Int64 → Int64 → qm_M → Option qm_R) (l3 : Int32 → Int32 → Int64 → Int32 → qm_M → Option qm_R) (v1 : Int32) (v2 : Int32) (v3 : Int64) (m : qm_M) : Option qm_R :=
  l3 v1 v2 v3 (0 : Int32) m
set_option maxRecDepth 100000 in
theorem xg_M_adds_e {kp : pm_K} {d : Nat} {f_M_cellAt : Int32 → Int32 → qm_M → Option qm_R} {f_M_product : Int64 → Int64 → qm_M → Option qm_R} {l3 : Int32 → Int32 → Int64 → Int32 → qm_M → Option qm_R} (hT : qe_G kp d (T_M_adds f_M_cellAt f_M_product)) (h3 : ∀ (v1 : Int32) (v2 : Int32) (v3 : Int64) (v5 : Int32) (m : qm_M), qe_J kp md_M_adds d (l3 v1 v2 v3 v5 m) 3 [(0, .ref 112), (1, .int v1), (2, .int v2), (3, .long v3), (5, .int v5)] [] m) (v1 : Int32) (v2 : Int32) (v3 : Int64) (m : qm_M) : qe_J kp md_M_adds d (X_M_adds_e f_M_cellAt f_M_product l3 v1 v2 v3 m) 0 [(0, .ref 112), (1, .int v1), (2, .int v2), (3, .long v3)] [] m := qe_run (B := [(3, [0, 1, 2, 3, 5], qp_ciili_ 112 l3)]) (n := 1000) hT (qe_B1 (qp_ciili__ok h3) qe_B0) rfl
def F_M_adds (v1 : Int32) (v2 : Int32) (v3 : Int64) (m : qm_M) : Option qm_R := X_M_adds_e F_M_cellAt F_M_product (L_M_adds_3 1000000) v1 v2 v3 m
theorem fj_M_adds {kp : pm_K} {d : Nat} (hT : qe_G kp d (T_M_adds F_M_cellAt F_M_product)) (v1 : Int32) (v2 : Int32) (v3 : Int64) (m : qm_M) : qe_J kp md_M_adds d (F_M_adds v1 v2 v3 m) 0 [(0, .ref 112), (1, .int v1), (2, .int v2), (3, .long v3)] [] m := xg_M_adds_e hT (lg_M_adds_3 hT 1000000) v1 v2 v3 m
theorem fg_M_adds {kp : pm_K} (d : Nat) : qe_GE kp (d + 3) (244, 0, 11, 0, qw_ciil 112 F_M_adds) := qe_entry (by decide +kernel) (qw_ciil_ok (d := d + 2) rfl rfl (fj_M_adds (qe_G1 (fg_M_cellAt (d + 1)) (qe_G1 (fg_M_product (d + 0)) qe_G0))))
/-! TurnFieldModel.clears(I)V -/
noncomputable def T_M_clears (f_M_cellAt : Int32 → Int32 → qm_M → Option qm_R) (f_M_swaps : Int32 → Int32 → qm_M → Option qm_R) (f_M_product : Int64 → Int64 → qm_M → Option qm_R) (f_M_divides : Int32 → Int64 → qm_M → Option qm_R) (f_M_adds : Int32 → Int32 → Int64 → qm_M → Option qm_R) : qe_T := [(240, 1, 0, 1, qw_ii f_M_cellAt), (242, 0, 11, 0, qw_cii 112 f_M_swaps), (192, 0, 11, 2, qw_cll 112 f_M_product), (243, 0, 11, 0, qw_cil 112 f_M_divides), (244, 0, 11, 0, qw_ciil 112 f_M_adds)]
def X_M_clears_124 (f_M_cellAt : Int32 → Int32 → qm_M → Option qm_R) (f_M_swaps : Int32 → Int32 → qm_M → Option qm_R) (f_M_product : Int64 → Int64 → qm_M → Option qm_R) (f_M_divides : Int32 → Int64 → qm_M → Option qm_R) (f_M_adds : Int32 → Int32 → Int64 → qm_M → Option qm_R) (l12 : Int32 → Int32 → qm_M → Option qm_R) (l124 : Int32 → Int32 → Int32 → qm_M → Option qm_R) (v1 : Int32) (v2 : Int32) (v6 : Int32) (m : qm_M) : Option qm_R :=
  if v6 < (m.1 112 17) then
    if v6 = (m.1 112 21) then
      l124 v1 v2 (v6 + (1 : Int32)) m
    else
      qe_rI (f_M_cellAt v6 v2 m) fun x1 m1 =>
      qe_b (qm_in x1 32) (
      qe_rV (f_M_adds v6 (m.1 112 21) (m1.2 127 (Int32.toNatClampNeg x1)) m1) fun m2 =>
      l124 v1 v2 (v6 + (1 : Int32)) m2)
  else
    qe_b (qm_in (m.1 112 21) 4) (
    let m3 : qm_M := qm_sI m 128 (Int32.toNatClampNeg (m.1 112 21)) v2
    let m4 : qm_M := qm_sI m3 112 21 ((m3.1 112 21) + (1 : Int32))
    l12 v1 (v2 + (1 : Int32)) m4)
set_option maxRecDepth 100000 in
theorem xg_M_clears_124 {kp : pm_K} {d : Nat} {f_M_cellAt : Int32 → Int32 → qm_M → Option qm_R} {f_M_swaps : Int32 → Int32 → qm_M → Option qm_R} {f_M_product : Int64 → Int64 → qm_M → Option qm_R} {f_M_divides : Int32 → Int64 → qm_M → Option qm_R} {f_M_adds : Int32 → Int32 → Int64 → qm_M → Option qm_R} {l12 : Int32 → Int32 → qm_M → Option qm_R} {l124 : Int32 → Int32 → Int32 → qm_M → Option qm_R} (hT : qe_G kp d (T_M_clears f_M_cellAt f_M_swaps f_M_product f_M_divides f_M_adds)) (h12 : ∀ (v1 : Int32) (v2 : Int32) (m : qm_M), qe_J kp md_M_clears d (l12 v1 v2 m) 12 [(0, .ref 112), (1, .int v1), (2, .int v2)] [] m) (h124 : ∀ (v1 : Int32) (v2 : Int32) (v6 : Int32) (m : qm_M), qe_J kp md_M_clears d (l124 v1 v2 v6 m) 124 [(0, .ref 112), (1, .int v1), (2, .int v2), (6, .int v6)] [] m) (v1 : Int32) (v2 : Int32) (v6 : Int32) (m : qm_M) : qe_J kp md_M_clears d (X_M_clears_124 f_M_cellAt f_M_swaps f_M_product f_M_divides f_M_adds l12 l124 v1 v2 v6 m) 124 [(0, .ref 112), (1, .int v1), (2, .int v2), (6, .int v6)] [] m := qe_run (B := [(12, [0, 1, 2], qp_cii_ 112 l12), (124, [0, 1, 2, 6], qp_ciii_ 112 l124)]) (n := 1000) hT (qe_B1 (qp_cii__ok h12) (qe_B1 (qp_ciii__ok h124) qe_B0)) rfl
def L_M_clears_124 (K12 : Int32 → Int32 → qm_M → Option qm_R) : Nat → Int32 → Int32 → Int32 → qm_M → Option qm_R
  | 0, _, _, _, _ => none
  | n + 1, v1, v2, v6, m => X_M_clears_124 F_M_cellAt F_M_swaps F_M_product F_M_divides F_M_adds K12 (L_M_clears_124 K12 n) v1 v2 v6 m
theorem lg_M_clears_124 {kp : pm_K} {d : Nat} (hT : qe_G kp d (T_M_clears F_M_cellAt F_M_swaps F_M_product F_M_divides F_M_adds)) {K12 : Int32 → Int32 → qm_M → Option qm_R} (hK12 : ∀ (v1 : Int32) (v2 : Int32) (m : qm_M), qe_J kp md_M_clears d (K12 v1 v2 m) 12 [(0, .ref 112), (1, .int v1), (2, .int v2)] [] m) : ∀ (n : Nat) (v1 : Int32) (v2 : Int32) (v6 : Int32) (m : qm_M), qe_J kp md_M_clears d (L_M_clears_124 K12 n v1 v2 v6 m) 124 [(0, .ref 112), (1, .int v1), (2, .int v2), (6, .int v6)] [] m
  | 0, v1, v2, v6, m => qe_none rfl
  | n + 1, v1, v2, v6, m => xg_M_clears_124 hT hK12 (lg_M_clears_124 hT hK12 n) v1 v2 v6 m
def X_M_clears_62 (f_M_cellAt : Int32 → Int32 → qm_M → Option qm_R) (f_M_swaps : Int32 → Int32 → qm_M → Option qm_R) (f_M_product : Int64 → Int64 → qm_M → Option qm_R) (f_M_divides : Int32 → Int64 → qm_M → Option qm_R) (f_M_adds : Int32 → Int32 → Int64 → qm_M → Option qm_R) (l12 : Int32 → Int32 → qm_M → Option qm_R) (l124 : Int32 → Int32 → Int32 → qm_M → Option qm_R) (v1 : Int32) (v2 : Int32) (v3 : Int32) (m : qm_M) : Option qm_R :=
  if v3 = (m.1 112 17) then
    l12 v1 (v2 + (1 : Int32)) m
  else
    qe_rV (f_M_swaps v3 (m.1 112 21) m) fun m1 =>
    qe_rI (f_M_cellAt (m1.1 112 21) v2 m1) fun x1 m2 =>
    qe_b (qm_in x1 32) (
    qe_rL (f_M_product (m2.2 112 22) (m2.2 127 (Int32.toNatClampNeg x1)) m2) fun x2 m3 =>
    let m4 : qm_M := qm_sL m3 112 22 x2
    qe_rV (f_M_divides (m4.1 112 21) (m2.2 127 (Int32.toNatClampNeg x1)) m4) fun m5 =>
    l124 v1 v2 (0 : Int32) m5)
set_option maxRecDepth 100000 in
theorem xg_M_clears_62 {kp : pm_K} {d : Nat} {f_M_cellAt : Int32 → Int32 → qm_M → Option qm_R} {f_M_swaps : Int32 → Int32 → qm_M → Option qm_R} {f_M_product : Int64 → Int64 → qm_M → Option qm_R} {f_M_divides : Int32 → Int64 → qm_M → Option qm_R} {f_M_adds : Int32 → Int32 → Int64 → qm_M → Option qm_R} {l12 : Int32 → Int32 → qm_M → Option qm_R} {l124 : Int32 → Int32 → Int32 → qm_M → Option qm_R} (hT : qe_G kp d (T_M_clears f_M_cellAt f_M_swaps f_M_product f_M_divides f_M_adds)) (h12 : ∀ (v1 : Int32) (v2 : Int32) (m : qm_M), qe_J kp md_M_clears d (l12 v1 v2 m) 12 [(0, .ref 112), (1, .int v1), (2, .int v2)] [] m) (h124 : ∀ (v1 : Int32) (v2 : Int32) (v6 : Int32) (m : qm_M), qe_J kp md_M_clears d (l124 v1 v2 v6 m) 124 [(0, .ref 112), (1, .int v1), (2, .int v2), (6, .int v6)] [] m) (v1 : Int32) (v2 : Int32) (v3 : Int32) (m : qm_M) : qe_J kp md_M_clears d (X_M_clears_62 f_M_cellAt f_M_swaps f_M_product f_M_divides f_M_adds l12 l124 v1 v2 v3 m) 62 [(0, .ref 112), (1, .int v1), (2, .int v2), (3, .int v3)] [] m := qe_run (B := [(12, [0, 1, 2], qp_cii_ 112 l12), (124, [0, 1, 2, 6], qp_ciii_ 112 l124)]) (n := 1000) hT (qe_B1 (qp_cii__ok h12) (qe_B1 (qp_ciii__ok h124) qe_B0)) rfl
def L_M_clears_62 (K12 : Int32 → Int32 → qm_M → Option qm_R) (v1 : Int32) (v2 : Int32) (v3 : Int32) (m : qm_M) : Option qm_R := X_M_clears_62 F_M_cellAt F_M_swaps F_M_product F_M_divides F_M_adds K12 (L_M_clears_124 K12 1000000) v1 v2 v3 m
theorem lg_M_clears_62 {kp : pm_K} {d : Nat} (hT : qe_G kp d (T_M_clears F_M_cellAt F_M_swaps F_M_product F_M_divides F_M_adds)) {K12 : Int32 → Int32 → qm_M → Option qm_R} (hK12 : ∀ (v1 : Int32) (v2 : Int32) (m : qm_M), qe_J kp md_M_clears d (K12 v1 v2 m) 12 [(0, .ref 112), (1, .int v1), (2, .int v2)] [] m) (v1 : Int32) (v2 : Int32) (v3 : Int32) (m : qm_M) : qe_J kp md_M_clears d (L_M_clears_62 K12 v1 v2 v3 m) 62 [(0, .ref 112), (1, .int v1), (2, .int v2), (3, .int v3)] [] m := xg_M_clears_62 hT hK12 (lg_M_clears_124 hT hK12 1000000) v1 v2 v3 m
def X_M_clears_33 (f_M_cellAt : Int32 → Int32 → qm_M → Option qm_R) (f_M_swaps : Int32 → Int32 → qm_M → Option qm_R) (f_M_product : Int64 → Int64 → qm_M → Option qm_R) (f_M_divides : Int32 → Int64 → qm_M → Option qm_R) (f_M_adds : Int32 → Int32 → Int64 → qm_M → Option qm_R) (l33 : Int32 → Int32 → Int32 → qm_M → Option qm_R) (l62 : Int32 → Int32 → Int32 → qm_M → Option qm_R) (v1 : Int32) (v2 : Int32) (v3 : Int32) (m : qm_M) : Option qm_R :=
  if v3 < (m.1 112 17) then
    qe_rI (f_M_cellAt v3 v2 m) fun x1 m1 =>
    qe_b (qm_in x1 32) (
    if (lg_cmp (m1.2 127 (Int32.toNatClampNeg x1)) (0 : Int64)) = 0 then
      l33 v1 v2 (v3 + (1 : Int32)) m1
    else
      l62 v1 v2 v3 m1)
  else
    l62 v1 v2 v3 m
set_option maxRecDepth 100000 in
theorem xg_M_clears_33 {kp : pm_K} {d : Nat} {f_M_cellAt : Int32 → Int32 → qm_M → Option qm_R} {f_M_swaps : Int32 → Int32 → qm_M → Option qm_R} {f_M_product : Int64 → Int64 → qm_M → Option qm_R} {f_M_divides : Int32 → Int64 → qm_M → Option qm_R} {f_M_adds : Int32 → Int32 → Int64 → qm_M → Option qm_R} {l33 : Int32 → Int32 → Int32 → qm_M → Option qm_R} {l62 : Int32 → Int32 → Int32 → qm_M → Option qm_R} (hT : qe_G kp d (T_M_clears f_M_cellAt f_M_swaps f_M_product f_M_divides f_M_adds)) (h33 : ∀ (v1 : Int32) (v2 : Int32) (v3 : Int32) (m : qm_M), qe_J kp md_M_clears d (l33 v1 v2 v3 m) 33 [(0, .ref 112), (1, .int v1), (2, .int v2), (3, .int v3)] [] m) (h62 : ∀ (v1 : Int32) (v2 : Int32) (v3 : Int32) (m : qm_M), qe_J kp md_M_clears d (l62 v1 v2 v3 m) 62 [(0, .ref 112), (1, .int v1), (2, .int v2), (3, .int v3)] [] m) (v1 : Int32) (v2 : Int32) (v3 : Int32) (m : qm_M) : qe_J kp md_M_clears d (X_M_clears_33 f_M_cellAt f_M_swaps f_M_product f_M_divides f_M_adds l33 l62 v1 v2 v3 m) 33 [(0, .ref 112), (1, .int v1), (2, .int v2), (3, .int v3)] [] m := qe_run (B := [(33, [0, 1, 2, 3], qp_ciii_ 112 l33), (62, [0, 1, 2, 3], qp_ciii_ 112 l62)]) (n := 1000) hT (qe_B1 (qp_ciii__ok h33) (qe_B1 (qp_ciii__ok h62) qe_B0)) rfl
def L_M_clears_33 (K12 : Int32 → Int32 → qm_M → Option qm_R) : Nat → Int32 → Int32 → Int32 → qm_M → Option qm_R
  | 0, _, _, _, _ => none
  | n + 1, v1, v2, v3, m => X_M_clears_33 F_M_cellAt F_M_swaps F_M_product F_M_divides F_M_adds (L_M_clears_33 K12 n) (L_M_clears_62 K12) v1 v2 v3 m
theorem lg_M_clears_33 {kp : pm_K} {d : Nat} (hT : qe_G kp d (T_M_clears F_M_cellAt F_M_swaps F_M_product F_M_divides F_M_adds)) {K12 : Int32 → Int32 → qm_M → Option qm_R} (hK12 : ∀ (v1 : Int32) (v2 : Int32) (m : qm_M), qe_J kp md_M_clears d (K12 v1 v2 m) 12 [(0, .ref 112), (1, .int v1), (2, .int v2)] [] m) : ∀ (n : Nat) (v1 : Int32) (v2 : Int32) (v3 : Int32) (m : qm_M), qe_J kp md_M_clears d (L_M_clears_33 K12 n v1 v2 v3 m) 33 [(0, .ref 112), (1, .int v1), (2, .int v2), (3, .int v3)] [] m
  | 0, v1, v2, v3, m => qe_none rfl
  | n + 1, v1, v2, v3, m => xg_M_clears_33 hT (lg_M_clears_33 hT hK12 n) (lg_M_clears_62 hT hK12) v1 v2 v3 m
def X_M_clears_12 (f_M_cellAt : Int32 → Int32 → qm_M → Option qm_R) (f_M_swaps : Int32 → Int32 → qm_M → Option qm_R) (f_M_product : Int64 → Int64 → qm_M → Option qm_R) (f_M_divides : Int32 → Int64 → qm_M → Option qm_R) (f_M_adds : Int32 → Int32 → Int64 → qm_M → Option qm_R) (l33 : Int32 → Int32 → Int32 → qm_M → Option qm_R) (v1 : Int32) (v2 : Int32) (m : qm_M) : Option qm_R :=
  if v2 < v1 then
    if (m.1 112 21) < (m.1 112 17) then
      l33 v1 v2 (m.1 112 21) m
    else
      some (none, m)
  else
    some (none, m)
set_option maxRecDepth 100000 in
theorem xg_M_clears_12 {kp : pm_K} {d : Nat} {f_M_cellAt : Int32 → Int32 → qm_M → Option qm_R} {f_M_swaps : Int32 → Int32 → qm_M → Option qm_R} {f_M_product : Int64 → Int64 → qm_M → Option qm_R} {f_M_divides : Int32 → Int64 → qm_M → Option qm_R} {f_M_adds : Int32 → Int32 → Int64 → qm_M → Option qm_R} {l33 : Int32 → Int32 → Int32 → qm_M → Option qm_R} (hT : qe_G kp d (T_M_clears f_M_cellAt f_M_swaps f_M_product f_M_divides f_M_adds)) (h33 : ∀ (v1 : Int32) (v2 : Int32) (v3 : Int32) (m : qm_M), qe_J kp md_M_clears d (l33 v1 v2 v3 m) 33 [(0, .ref 112), (1, .int v1), (2, .int v2), (3, .int v3)] [] m) (v1 : Int32) (v2 : Int32) (m : qm_M) : qe_J kp md_M_clears d (X_M_clears_12 f_M_cellAt f_M_swaps f_M_product f_M_divides f_M_adds l33 v1 v2 m) 12 [(0, .ref 112), (1, .int v1), (2, .int v2)] [] m := qe_run (B := [(33, [0, 1, 2, 3], qp_ciii_ 112 l33)]) (n := 1000) hT (qe_B1 (qp_ciii__ok h33) qe_B0) rfl
def L_M_clears_12 : Nat → Int32 → Int32 → qm_M → Option qm_R
  | 0, _, _, _ => none
  | n + 1, v1, v2, m => X_M_clears_12 F_M_cellAt F_M_swaps F_M_product F_M_divides F_M_adds (L_M_clears_33 (L_M_clears_12 n) 1000000) v1 v2 m
theorem lg_M_clears_12 {kp : pm_K} {d : Nat} (hT : qe_G kp d (T_M_clears F_M_cellAt F_M_swaps F_M_product F_M_divides F_M_adds)) : ∀ (n : Nat) (v1 : Int32) (v2 : Int32) (m : qm_M), qe_J kp md_M_clears d (L_M_clears_12 n v1 v2 m) 12 [(0, .ref 112), (1, .int v1), (2, .int v2)] [] m
  | 0, v1, v2, m => qe_none rfl
  | n + 1, v1, v2, m => xg_M_clears_12 hT (lg_M_clears_33 hT (lg_M_clears_12 hT n) 1000000) v1 v2 m
def X_M_clears_e (f_M_cellAt : Int32 → Int32 → qm_M → Option qm_R) (f_M_swaps : Int32 → Int32 → qm_M → Option qm_R) (f_M_product : Int64 → Int64 → qm_M → Option qm_R) (f_M_divides : Int32 → Int64 → qm_M → Option qm_R) (f_M_adds : Int32 → Int32 → Int64 → qm_M → Option qm_R) (l12 : Int32 → Int32 → qm_M → Option qm_R) (v1 : Int32) (m : qm_M) : Option qm_R :=
  let m1 : qm_M := qm_sI m 112 21 (0 : Int32)
  let m2 : qm_M := qm_sL m1 112 22 (1 : Int64)
  l12 v1 (0 : Int32) m2
set_option maxRecDepth 100000 in
theorem xg_M_clears_e {kp : pm_K} {d : Nat} {f_M_cellAt : Int32 → Int32 → qm_M → Option qm_R} {f_M_swaps : Int32 → Int32 → qm_M → Option qm_R} {f_M_product : Int64 → Int64 → qm_M → Option qm_R} {f_M_divides : Int32 → Int64 → qm_M → Option qm_R} {f_M_adds : Int32 → Int32 → Int64 → qm_M → Option qm_R} {l12 : Int32 → Int32 → qm_M → Option qm_R} (hT : qe_G kp d (T_M_clears f_M_cellAt f_M_swaps f_M_product f_M_divides f_M_adds)) (h12 : ∀ (v1 : Int32) (v2 : Int32) (m : qm_M), qe_J kp md_M_clears d (l12 v1 v2 m) 12 [(0, .ref 112), (1, .int v1), (2, .int v2)] [] m) (v1 : Int32) (m : qm_M) : qe_J kp md_M_clears d (X_M_clears_e f_M_cellAt f_M_swaps f_M_product f_M_divides f_M_adds l12 v1 m) 0 [(0, .ref 112), (1, .int v1)] [] m := qe_run (B := [(12, [0, 1, 2], qp_cii_ 112 l12)]) (n := 1000) hT (qe_B1 (qp_cii__ok h12) qe_B0) rfl
def F_M_clears (v1 : Int32) (m : qm_M) : Option qm_R := X_M_clears_e F_M_cellAt F_M_swaps F_M_product F_M_divides F_M_adds (L_M_clears_12 1000000) v1 m
theorem fj_M_clears {kp : pm_K} {d : Nat} (hT : qe_G kp d (T_M_clears F_M_cellAt F_M_swaps F_M_product F_M_divides F_M_adds)) (v1 : Int32) (m : qm_M) : qe_J kp md_M_clears d (F_M_clears v1 m) 0 [(0, .ref 112), (1, .int v1)] [] m := xg_M_clears_e hT (lg_M_clears_12 hT 1000000) v1 m
theorem fg_M_clears {kp : pm_K} (d : Nat) : qe_GE kp (d + 7) (245, 0, 11, 0, qw_ci 112 F_M_clears) := qe_entry (by decide +kernel) (qw_ci_ok (d := d + 6) rfl rfl (fj_M_clears (qe_G1 (fg_M_cellAt (d + 5)) (qe_G1 (fg_M_swaps (d + 4)) (qe_G1 (fg_M_product (d + 4)) (qe_G1 (fg_M_divides (d + 0)) (qe_G1 (fg_M_adds (d + 3)) qe_G0)))))))
/-! TurnFieldModel.laysStepForm()V -/
noncomputable def T_M_laysStepForm (f_M_laysForm : qm_M → Option qm_R) (f_M_clears : Int32 → qm_M → Option qm_R) : qe_T := [(241, 0, 11, 0, qw_c 112 f_M_laysForm), (245, 0, 11, 0, qw_ci 112 f_M_clears)]
def X_M_laysStepForm_e (f_M_laysForm : qm_M → Option qm_R) (f_M_clears : Int32 → qm_M → Option qm_R)  (m : qm_M) : Option qm_R :=
  qe_rV (f_M_laysForm m) fun m1 =>
  qe_rV (f_M_clears (m1.1 112 18) m1) fun m2 =>
  some (none, m2)
set_option maxRecDepth 100000 in
theorem xg_M_laysStepForm_e {kp : pm_K} {d : Nat} {f_M_laysForm : qm_M → Option qm_R} {f_M_clears : Int32 → qm_M → Option qm_R} (hT : qe_G kp d (T_M_laysStepForm f_M_laysForm f_M_clears)) (m : qm_M) : qe_J kp md_M_laysStepForm d (X_M_laysStepForm_e f_M_laysForm f_M_clears m) 0 [(0, .ref 112)] [] m := qe_run (B := []) (n := 1000) hT qe_B0 rfl
def F_M_laysStepForm (m : qm_M) : Option qm_R := X_M_laysStepForm_e F_M_laysForm F_M_clears m
theorem fj_M_laysStepForm {kp : pm_K} {d : Nat} (hT : qe_G kp d (T_M_laysStepForm F_M_laysForm F_M_clears)) (m : qm_M) : qe_J kp md_M_laysStepForm d (F_M_laysStepForm m) 0 [(0, .ref 112)] [] m := xg_M_laysStepForm_e hT m
theorem fg_M_laysStepForm {kp : pm_K} (d : Nat) : qe_GE kp (d + 8) (246, 0, 11, 0, qw_c 112 F_M_laysStepForm) := qe_entry (by decide +kernel) (qw_c_ok (d := d + 7) rfl rfl (fj_M_laysStepForm (qe_G1 (fg_M_laysForm (d + 5)) (qe_G1 (fg_M_clears (d + 0)) qe_G0))))
/-! TurnFieldModel.isEntry(II)Z -/
noncomputable def T_M_isEntry (f_M_isIn : Int64 → Int64 → Int64 → qm_M → Option qm_R) : qe_T := [(185, 1, 0, 1, qw_lll f_M_isIn)]
def X_M_isEntry_e (f_M_isIn : Int64 → Int64 → Int64 → qm_M → Option qm_R) (v1 : Int32) (v2 : Int32) (m : qm_M) : Option qm_R :=
  qe_rI (f_M_isIn (Int32.toInt64 v1) (0 : Int64) ((m.2 113 15) - (1 : Int64)) m) fun x1 m1 =>
  if x1 = 0 then
    some (some (.int (0 : Int32)), m1)
  else
    qe_rI (f_M_isIn (Int32.toInt64 v2) (0 : Int64) ((m1.2 113 16) - (1 : Int64)) m1) fun x2 m2 =>
    if x2 = 0 then
      some (some (.int (0 : Int32)), m2)
    else
      some (some (.int (1 : Int32)), m2)
set_option maxRecDepth 100000 in
theorem xg_M_isEntry_e {kp : pm_K} {d : Nat} {f_M_isIn : Int64 → Int64 → Int64 → qm_M → Option qm_R} (hT : qe_G kp d (T_M_isEntry f_M_isIn)) (v1 : Int32) (v2 : Int32) (m : qm_M) : qe_J kp md_M_isEntry d (X_M_isEntry_e f_M_isIn v1 v2 m) 0 [(0, .ref 112), (1, .int v1), (2, .int v2)] [] m := qe_run (B := []) (n := 1000) hT qe_B0 rfl
def F_M_isEntry (v1 : Int32) (v2 : Int32) (m : qm_M) : Option qm_R := X_M_isEntry_e F_M_isIn v1 v2 m
theorem fj_M_isEntry {kp : pm_K} {d : Nat} (hT : qe_G kp d (T_M_isEntry F_M_isIn)) (v1 : Int32) (v2 : Int32) (m : qm_M) : qe_J kp md_M_isEntry d (F_M_isEntry v1 v2 m) 0 [(0, .ref 112), (1, .int v1), (2, .int v2)] [] m := xg_M_isEntry_e hT v1 v2 m
theorem fg_M_isEntry {kp : pm_K} (d : Nat) : qe_GE kp (d + 2) (247, 0, 11, 1, qw_cii 112 F_M_isEntry) := qe_entry (by decide +kernel) (qw_cii_ok (d := d + 1) rfl rfl (fj_M_isEntry (qe_G1 (fg_M_isIn (d + 0)) qe_G0)))
/-! TurnFieldModel.entry(III)J -/
noncomputable def T_M_entry (f_M_isEntry : Int32 → Int32 → qm_M → Option qm_R) (f_M_isIn : Int64 → Int64 → Int64 → qm_M → Option qm_R) (f_M_entryOf : Int32 → Int32 → qm_M → Option qm_R) (f_M_laysStepForm : qm_M → Option qm_R) (f_M_cellAt : Int32 → Int32 → qm_M → Option qm_R) : qe_T := [(247, 0, 11, 1, qw_cii 112 f_M_isEntry), (185, 1, 0, 1, qw_lll f_M_isIn), (239, 0, 11, 2, qw_cii 112 f_M_entryOf), (246, 0, 11, 0, qw_c 112 f_M_laysStepForm), (240, 1, 0, 1, qw_ii f_M_cellAt)]
def X_M_entry_e (f_M_isEntry : Int32 → Int32 → qm_M → Option qm_R) (f_M_isIn : Int64 → Int64 → Int64 → qm_M → Option qm_R) (f_M_entryOf : Int32 → Int32 → qm_M → Option qm_R) (f_M_laysStepForm : qm_M → Option qm_R) (f_M_cellAt : Int32 → Int32 → qm_M → Option qm_R) (v1 : Int32) (v2 : Int32) (v3 : Int32) (m : qm_M) : Option qm_R :=
  qe_rI (f_M_isEntry v1 v2 m) fun x1 m1 =>
  if x1 = 0 then
    some (some (.long (0 : Int64)), m1)
  else
    qe_rI (f_M_isIn (Int32.toInt64 v3) (0 : Int64) (1 : Int64) m1) fun x2 m2 =>
    if x2 = 0 then
      some (some (.long (0 : Int64)), m2)
    else
      if v3 = 0 then
        qe_rL (f_M_entryOf v1 v2 m2) fun x3 m3 =>
        some (some (.long x3), m3)
      else
        qe_rV (f_M_laysStepForm m2) fun m4 =>
        qe_rI (f_M_cellAt v1 v2 m4) fun x4 m5 =>
        qe_b (qm_in x4 32) (
        some (some (.long (m5.2 127 (Int32.toNatClampNeg x4))), m5))
set_option maxRecDepth 100000 in
theorem xg_M_entry_e {kp : pm_K} {d : Nat} {f_M_isEntry : Int32 → Int32 → qm_M → Option qm_R} {f_M_isIn : Int64 → Int64 → Int64 → qm_M → Option qm_R} {f_M_entryOf : Int32 → Int32 → qm_M → Option qm_R} {f_M_laysStepForm : qm_M → Option qm_R} {f_M_cellAt : Int32 → Int32 → qm_M → Option qm_R} (hT : qe_G kp d (T_M_entry f_M_isEntry f_M_isIn f_M_entryOf f_M_laysStepForm f_M_cellAt)) (v1 : Int32) (v2 : Int32) (v3 : Int32) (m : qm_M) : qe_J kp md_M_entry d (X_M_entry_e f_M_isEntry f_M_isIn f_M_entryOf f_M_laysStepForm f_M_cellAt v1 v2 v3 m) 0 [(0, .ref 112), (1, .int v1), (2, .int v2), (3, .int v3)] [] m := qe_run (B := []) (n := 1000) hT qe_B0 rfl
def F_M_entry (v1 : Int32) (v2 : Int32) (v3 : Int32) (m : qm_M) : Option qm_R := X_M_entry_e F_M_isEntry F_M_isIn F_M_entryOf F_M_laysStepForm F_M_cellAt v1 v2 v3 m
theorem fj_M_entry {kp : pm_K} {d : Nat} (hT : qe_G kp d (T_M_entry F_M_isEntry F_M_isIn F_M_entryOf F_M_laysStepForm F_M_cellAt)) (v1 : Int32) (v2 : Int32) (v3 : Int32) (m : qm_M) : qe_J kp md_M_entry d (F_M_entry v1 v2 v3 m) 0 [(0, .ref 112), (1, .int v1), (2, .int v2), (3, .int v3)] [] m := xg_M_entry_e hT v1 v2 v3 m
theorem fg_M_entry {kp : pm_K} (d : Nat) : qe_GE kp (d + 9) (248, 0, 11, 2, qw_ciii 112 F_M_entry) := qe_entry (by decide +kernel) (qw_ciii_ok (d := d + 8) rfl rfl (fj_M_entry (qe_G1 (fg_M_isEntry (d + 6)) (qe_G1 (fg_M_isIn (d + 7)) (qe_G1 (fg_M_entryOf (d + 7)) (qe_G1 (fg_M_laysStepForm (d + 0)) (qe_G1 (fg_M_cellAt (d + 7)) qe_G0)))))))
/-! TurnFieldModel.determinant()J -/
noncomputable def T_M_determinant (f_M_laysStepForm : qm_M → Option qm_R) : qe_T := [(246, 0, 11, 0, qw_c 112 f_M_laysStepForm)]
def X_M_determinant_e (f_M_laysStepForm : qm_M → Option qm_R)  (m : qm_M) : Option qm_R :=
  if (lg_cmp (m.2 113 15) (m.2 113 16)) = 0 then
    qe_rV (f_M_laysStepForm m) fun m1 =>
    if (m1.1 112 21) = (m1.1 112 17) then
      some (some (.long (m1.2 112 22)), m1)
    else
      some (some (.long (0 : Int64)), m1)
  else
    some (some (.long (0 : Int64)), m)
set_option maxRecDepth 100000 in
theorem xg_M_determinant_e {kp : pm_K} {d : Nat} {f_M_laysStepForm : qm_M → Option qm_R} (hT : qe_G kp d (T_M_determinant f_M_laysStepForm)) (m : qm_M) : qe_J kp md_M_determinant d (X_M_determinant_e f_M_laysStepForm m) 0 [(0, .ref 112)] [] m := qe_run (B := []) (n := 1000) hT qe_B0 rfl
def F_M_determinant (m : qm_M) : Option qm_R := X_M_determinant_e F_M_laysStepForm m
theorem fj_M_determinant {kp : pm_K} {d : Nat} (hT : qe_G kp d (T_M_determinant F_M_laysStepForm)) (m : qm_M) : qe_J kp md_M_determinant d (F_M_determinant m) 0 [(0, .ref 112)] [] m := xg_M_determinant_e hT m
theorem fg_M_determinant {kp : pm_K} (d : Nat) : qe_GE kp (d + 9) (249, 0, 11, 2, qw_c 112 F_M_determinant) := qe_entry (by decide +kernel) (qw_c_ok (d := d + 8) rfl rfl (fj_M_determinant (qe_G1 (fg_M_laysStepForm (d + 0)) qe_G0)))
/-! TurnFieldModel.isSolved()Z -/
noncomputable def T_M_isSolved (f_M_laysStepForm : qm_M → Option qm_R) : qe_T := [(246, 0, 11, 0, qw_c 112 f_M_laysStepForm)]
def X_M_isSolved_e (f_M_laysStepForm : qm_M → Option qm_R)  (m : qm_M) : Option qm_R :=
  qe_rV (f_M_laysStepForm m) fun m1 =>
  if (m1.1 112 21) = 0 then
    some (some (.int (1 : Int32)), m1)
  else
    qe_b (qm_in ((m1.1 112 21) - (1 : Int32)) 4) (
    if (m1.1 128 (Int32.toNatClampNeg ((m1.1 112 21) - (1 : Int32)))) = ((m1.1 112 18) - (1 : Int32)) then
      some (some (.int (0 : Int32)), m1)
    else
      some (some (.int (1 : Int32)), m1))
set_option maxRecDepth 100000 in
theorem xg_M_isSolved_e {kp : pm_K} {d : Nat} {f_M_laysStepForm : qm_M → Option qm_R} (hT : qe_G kp d (T_M_isSolved f_M_laysStepForm)) (m : qm_M) : qe_J kp md_M_isSolved d (X_M_isSolved_e f_M_laysStepForm m) 0 [(0, .ref 112)] [] m := qe_run (B := []) (n := 1000) hT qe_B0 rfl
def F_M_isSolved (m : qm_M) : Option qm_R := X_M_isSolved_e F_M_laysStepForm m
theorem fj_M_isSolved {kp : pm_K} {d : Nat} (hT : qe_G kp d (T_M_isSolved F_M_laysStepForm)) (m : qm_M) : qe_J kp md_M_isSolved d (F_M_isSolved m) 0 [(0, .ref 112)] [] m := xg_M_isSolved_e hT m
theorem fg_M_isSolved {kp : pm_K} (d : Nat) : qe_GE kp (d + 9) (250, 0, 11, 1, qw_c 112 F_M_isSolved) := qe_entry (by decide +kernel) (qw_c_ok (d := d + 8) rfl rfl (fj_M_isSolved (qe_G1 (fg_M_laysStepForm (d + 0)) qe_G0)))
