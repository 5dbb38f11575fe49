def qw_l (f : Int64 → qm_M → Option qm_R) : qe_F := fun as m => match as with
  | [.long a0] => f a0 m
  | _ => none
theorem qw_l_ok {kp : pm_K} {md : pm_M} {d k : Nat} {f : Int64 → qm_M → Option qm_R} (g : pt_M[k]? = some md) (h : ∀ (a0 : Int64) (m : qm_M), qe_J kp md d (f a0 m) 0 [(0, .long a0)] [] m) : ∀ as m x, qw_l f as m = some x → pm_X kp (d + 1) k as (qm_hp m) x.1 (qm_hp x.2) := by
  intro as m x e
  unfold qw_l at e
  split at e
  · exact pm_Xi md _ g rfl (h _ _ _ e)
  · cases e
def qw_li (f : Int64 → Int32 → qm_M → Option qm_R) : qe_F := fun as m => match as with
  | [.long a0, .int a1] => f a0 a1 m
  | _ => none
theorem qw_li_ok {kp : pm_K} {md : pm_M} {d k : Nat} {f : Int64 → Int32 → qm_M → Option qm_R} (g : pt_M[k]? = some md) (h : ∀ (a0 : Int64) (a1 : Int32) (m : qm_M), qe_J kp md d (f a0 a1 m) 0 [(0, .long a0), (2, .int a1)] [] m) : ∀ as m x, qw_li f as m = some x → pm_X kp (d + 1) k as (qm_hp m) x.1 (qm_hp x.2) := by
  intro as m x e
  unfold qw_li at e
  split at e
  · exact pm_Xi md _ g rfl (h _ _ _ _ e)
  · cases e
def qw_ll (f : Int64 → Int64 → qm_M → Option qm_R) : qe_F := fun as m => match as with
  | [.long a0, .long a1] => f a0 a1 m
  | _ => none
theorem qw_ll_ok {kp : pm_K} {md : pm_M} {d k : Nat} {f : Int64 → Int64 → qm_M → Option qm_R} (g : pt_M[k]? = some md) (h : ∀ (a0 : Int64) (a1 : Int64) (m : qm_M), qe_J kp md d (f a0 a1 m) 0 [(0, .long a0), (2, .long a1)] [] m) : ∀ as m x, qw_ll f as m = some x → pm_X kp (d + 1) k as (qm_hp m) x.1 (qm_hp x.2) := by
  intro as m x e
  unfold qw_ll at e
  split at e
  · exact pm_Xi md _ g rfl (h _ _ _ _ e)
  · cases e
def qw_lli (f : Int64 → Int64 → Int32 → qm_M → Option qm_R) : qe_F := fun as m => match as with
  | [.long a0, .long a1, .int a2] => f a0 a1 a2 m
  | _ => none
theorem qw_lli_ok {kp : pm_K} {md : pm_M} {d k : Nat} {f : Int64 → Int64 → Int32 → qm_M → Option qm_R} (g : pt_M[k]? = some md) (h : ∀ (a0 : Int64) (a1 : Int64) (a2 : Int32) (m : qm_M), qe_J kp md d (f a0 a1 a2 m) 0 [(0, .long a0), (2, .long a1), (4, .int a2)] [] m) : ∀ as m x, qw_lli f as m = some x → pm_X kp (d + 1) k as (qm_hp m) x.1 (qm_hp x.2) := by
  intro as m x e
  unfold qw_lli at e
  split at e
  · exact pm_Xi md _ g rfl (h _ _ _ _ _ e)
  · cases e
def qp_iill_ (f : Int32 → Int32 → Int64 → Int64 → qm_M → Option qm_R) : qe_P := fun vs st m => match vs, st with
  | [.int a0, .int a1, .long a2, .long a3], [] => f a0 a1 a2 a3 m
  | _, _ => none
theorem qp_iill__ok {kp : pm_K} {md : pm_M} {d pc : Nat} {n0 n1 n2 n3 : Nat} {f : Int32 → Int32 → Int64 → Int64 → qm_M → Option qm_R} (h : ∀ (a0 : Int32) (a1 : Int32) (a2 : Int64) (a3 : Int64) (m : qm_M), qe_J kp md d (f a0 a1 a2 a3 m) pc [(n0, .int a0), (n1, .int a1), (n2, .long a2), (n3, .long a3)] [] m) : qe_BE kp md d (pc, [n0, n1, n2, n3], qp_iill_ f) := by
  intro vs st m x e
  dsimp only at e ⊢
  unfold qp_iill_ at e
  split at e
  · exact h _ _ _ _ _ _ e
  · cases e
def qp_ili_ (f : Int32 → Int64 → Int32 → qm_M → Option qm_R) : qe_P := fun vs st m => match vs, st with
  | [.int a0, .long a1, .int a2], [] => f a0 a1 a2 m
  | _, _ => none
theorem qp_ili__ok {kp : pm_K} {md : pm_M} {d pc : Nat} {n0 n1 n2 : Nat} {f : Int32 → Int64 → Int32 → qm_M → Option qm_R} (h : ∀ (a0 : Int32) (a1 : Int64) (a2 : Int32) (m : qm_M), qe_J kp md d (f a0 a1 a2 m) pc [(n0, .int a0), (n1, .long a1), (n2, .int a2)] [] m) : qe_BE kp md d (pc, [n0, n1, n2], qp_ili_ f) := by
  intro vs st m x e
  dsimp only at e ⊢
  unfold qp_ili_ at e
  split at e
  · exact h _ _ _ _ _ e
  · cases e
def qp_li_ (f : Int64 → Int32 → qm_M → Option qm_R) : qe_P := fun vs st m => match vs, st with
  | [.long a0, .int a1], [] => f a0 a1 m
  | _, _ => none
theorem qp_li__ok {kp : pm_K} {md : pm_M} {d pc : Nat} {n0 n1 : Nat} {f : Int64 → Int32 → qm_M → Option qm_R} (h : ∀ (a0 : Int64) (a1 : Int32) (m : qm_M), qe_J kp md d (f a0 a1 m) pc [(n0, .long a0), (n1, .int a1)] [] m) : qe_BE kp md d (pc, [n0, n1], qp_li_ f) := by
  intro vs st m x e
  dsimp only at e ⊢
  unfold qp_li_ at e
  split at e
  · exact h _ _ _ _ e
  · cases e
def qp_lli_ (f : Int64 → Int64 → Int32 → qm_M → Option qm_R) : qe_P := fun vs st m => match vs, st with
  | [.long a0, .long a1, .int a2], [] => f a0 a1 a2 m
  | _, _ => none
theorem qp_lli__ok {kp : pm_K} {md : pm_M} {d pc : Nat} {n0 n1 n2 : Nat} {f : Int64 → Int64 → Int32 → qm_M → Option qm_R} (h : ∀ (a0 : Int64) (a1 : Int64) (a2 : Int32) (m : qm_M), qe_J kp md d (f a0 a1 a2 m) pc [(n0, .long a0), (n1, .long a1), (n2, .int a2)] [] m) : qe_BE kp md d (pc, [n0, n1, n2], qp_lli_ f) := by
  intro vs st m x e
  dsimp only at e ⊢
  unfold qp_lli_ at e
  split at e
  · exact h _ _ _ _ _ e
  · cases e
/-! TurnField$Numbers.below(JJ)Z -/
noncomputable def T_Nu_below : qe_T := []
def X_Nu_below_e (v0 : Int64) (v2 : Int64) (m : qm_M) : Option qm_R :=
  if (lg_cmp (v0 ^^^ (-9223372036854775808 : Int64)) (v2 ^^^ (-9223372036854775808 : Int64))) < 0 then
    some (some (.int (1 : Int32)), m)
  else
    some (some (.int (0 : Int32)), m)
set_option maxRecDepth 100000 in
theorem xg_Nu_below_e {kp : pm_K} {d : Nat} (hT : qe_G kp d (T_Nu_below)) (v0 : Int64) (v2 : Int64) (m : qm_M) : qe_J kp md_Nu_below d (X_Nu_below_e v0 v2 m) 0 [(0, .long v0), (2, .long v2)] [] m := qe_run (B := []) (n := 1000) hT qe_B0 rfl
def F_Nu_below (v0 : Int64) (v2 : Int64) (m : qm_M) : Option qm_R := X_Nu_below_e v0 v2 m
theorem fj_Nu_below {kp : pm_K} {d : Nat} (hT : qe_G kp d (T_Nu_below)) (v0 : Int64) (v2 : Int64) (m : qm_M) : qe_J kp md_Nu_below d (F_Nu_below v0 v2 m) 0 [(0, .long v0), (2, .long v2)] [] m := xg_Nu_below_e hT v0 v2 m
theorem fg_Nu_below {kp : pm_K} (d : Nat) : qe_GE kp (d + 1) (20, 1, 0, 1, qw_ll F_Nu_below) := qe_entry (by decide +kernel) (qw_ll_ok (d := d + 0) rfl (fj_Nu_below qe_G0))
/-! TurnField$Numbers.levelOf(J)I -/
noncomputable def T_Nu_levelOf : qe_T := []
def X_Nu_levelOf_2 (l2 : Int64 → Int32 → qm_M → Option qm_R) (v0 : Int64) (v2 : Int32) (m : qm_M) : Option qm_R :=
  if v2 < (6 : Int32) then
    if (lg_cmp (qo_lushr v0 (qo_ishl (1 : Int32) v2)) (0 : Int64)) = 0 then
      some (some (.int v2), m)
    else
      l2 v0 (v2 + (1 : Int32)) m
  else
    some (some (.int (6 : Int32)), m)
set_option maxRecDepth 100000 in
theorem xg_Nu_levelOf_2 {kp : pm_K} {d : Nat} {l2 : Int64 → Int32 → qm_M → Option qm_R} (hT : qe_G kp d (T_Nu_levelOf)) (h2 : ∀ (v0 : Int64) (v2 : Int32) (m : qm_M), qe_J kp md_Nu_levelOf d (l2 v0 v2 m) 2 [(0, .long v0), (2, .int v2)] [] m) (v0 : Int64) (v2 : Int32) (m : qm_M) : qe_J kp md_Nu_levelOf d (X_Nu_levelOf_2 l2 v0 v2 m) 2 [(0, .long v0), (2, .int v2)] [] m := qe_run (B := [(2, [0, 2], qp_li_ l2)]) (n := 1000) hT (qe_B1 (qp_li__ok h2) qe_B0) rfl
def L_Nu_levelOf_2 : Nat → Int64 → Int32 → qm_M → Option qm_R
  | 0, _, _, _ => none
  | n + 1, v0, v2, m => X_Nu_levelOf_2 (L_Nu_levelOf_2 n) v0 v2 m
theorem lg_Nu_levelOf_2 {kp : pm_K} {d : Nat} (hT : qe_G kp d (T_Nu_levelOf)) : ∀ (n : Nat) (v0 : Int64) (v2 : Int32) (m : qm_M), qe_J kp md_Nu_levelOf d (L_Nu_levelOf_2 n v0 v2 m) 2 [(0, .long v0), (2, .int v2)] [] m
  | 0, v0, v2, m => qe_none rfl
  | n + 1, v0, v2, m => xg_Nu_levelOf_2 hT (lg_Nu_levelOf_2 hT n) v0 v2 m
def X_Nu_levelOf_e (l2 : Int64 → Int32 → qm_M → Option qm_R) (v0 : Int64) (m : qm_M) : Option qm_R :=
  l2 v0 (0 : Int32) m
set_option maxRecDepth 100000 in
theorem xg_Nu_levelOf_e {kp : pm_K} {d : Nat} {l2 : Int64 → Int32 → qm_M → Option qm_R} (hT : qe_G kp d (T_Nu_levelOf)) (h2 : ∀ (v0 : Int64) (v2 : Int32) (m : qm_M), qe_J kp md_Nu_levelOf d (l2 v0 v2 m) 2 [(0, .long v0), (2, .int v2)] [] m) (v0 : Int64) (m : qm_M) : qe_J kp md_Nu_levelOf d (X_Nu_levelOf_e l2 v0 m) 0 [(0, .long v0)] [] m := qe_run (B := [(2, [0, 2], qp_li_ l2)]) (n := 1000) hT (qe_B1 (qp_li__ok h2) qe_B0) rfl
def F_Nu_levelOf (v0 : Int64) (m : qm_M) : Option qm_R := X_Nu_levelOf_e (L_Nu_levelOf_2 1000000) v0 m
theorem fj_Nu_levelOf {kp : pm_K} {d : Nat} (hT : qe_G kp d (T_Nu_levelOf)) (v0 : Int64) (m : qm_M) : qe_J kp md_Nu_levelOf d (F_Nu_levelOf v0 m) 0 [(0, .long v0)] [] m := xg_Nu_levelOf_e hT (lg_Nu_levelOf_2 hT 1000000) v0 m
theorem fg_Nu_levelOf {kp : pm_K} (d : Nat) : qe_GE kp (d + 1) (21, 1, 0, 1, qw_l F_Nu_levelOf) := qe_entry (by decide +kernel) (qw_l_ok (d := d + 0) rfl (fj_Nu_levelOf qe_G0))
/-! TurnField$Numbers.toppedBy(JI)J -/
noncomputable def T_Nu_toppedBy (f_Nu_lifted : Int64 → Int32 → qm_M → Option qm_R) : qe_T := [(24, 1, 0, 2, qw_li f_Nu_lifted)]
def X_Nu_toppedBy_5 (f_Nu_lifted : Int64 → Int32 → qm_M → Option qm_R) (l5 : Int32 → Int64 → Int32 → qm_M → Option qm_R) (v2 : Int32) (v3 : Int64) (v5 : Int32) (m : qm_M) : Option qm_R :=
  if v5 < v2 then
    qe_rL (f_Nu_lifted v3 v5 m) fun x1 m1 =>
    l5 v2 x1 (v5 + (1 : Int32)) m1
  else
    some (some (.long v3), m)
set_option maxRecDepth 100000 in
theorem xg_Nu_toppedBy_5 {kp : pm_K} {d : Nat} {f_Nu_lifted : Int64 → Int32 → qm_M → Option qm_R} {l5 : Int32 → Int64 → Int32 → qm_M → Option qm_R} (hT : qe_G kp d (T_Nu_toppedBy f_Nu_lifted)) (h5 : ∀ (v2 : Int32) (v3 : Int64) (v5 : Int32) (m : qm_M), qe_J kp md_Nu_toppedBy d (l5 v2 v3 v5 m) 5 [(2, .int v2), (3, .long v3), (5, .int v5)] [] m) (v2 : Int32) (v3 : Int64) (v5 : Int32) (m : qm_M) : qe_J kp md_Nu_toppedBy d (X_Nu_toppedBy_5 f_Nu_lifted l5 v2 v3 v5 m) 5 [(2, .int v2), (3, .long v3), (5, .int v5)] [] m := qe_run (B := [(5, [2, 3, 5], qp_ili_ l5)]) (n := 1000) hT (qe_B1 (qp_ili__ok h5) qe_B0) rfl
def L_Nu_toppedBy_5 (R : Int64 → Int32 → qm_M → Option qm_R) : Nat → Int32 → Int64 → Int32 → qm_M → Option qm_R
  | 0, _, _, _, _ => none
  | n + 1, v2, v3, v5, m => X_Nu_toppedBy_5 R (L_Nu_toppedBy_5 R n) v2 v3 v5 m
theorem lg_Nu_toppedBy_5 {kp : pm_K} {d : Nat} {R : Int64 → Int32 → qm_M → Option qm_R} (hT : qe_G kp d (T_Nu_toppedBy R)) : ∀ (n : Nat) (v2 : Int32) (v3 : Int64) (v5 : Int32) (m : qm_M), qe_J kp md_Nu_toppedBy d (L_Nu_toppedBy_5 R n v2 v3 v5 m) 5 [(2, .int v2), (3, .long v3), (5, .int v5)] [] m
  | 0, v2, v3, v5, m => qe_none rfl
  | n + 1, v2, v3, v5, m => xg_Nu_toppedBy_5 hT (lg_Nu_toppedBy_5 hT n) v2 v3 v5 m
def X_Nu_toppedBy_e (f_Nu_lifted : Int64 → Int32 → qm_M → Option qm_R) (l5 : Int32 → Int64 → Int32 → qm_M → Option qm_R) (v0 : Int64) (v2 : Int32) (m : qm_M) : Option qm_R :=
  l5 v2 v0 (0 : Int32) m
set_option maxRecDepth 100000 in
theorem xg_Nu_toppedBy_e {kp : pm_K} {d : Nat} {f_Nu_lifted : Int64 → Int32 → qm_M → Option qm_R} {l5 : Int32 → Int64 → Int32 → qm_M → Option qm_R} (hT : qe_G kp d (T_Nu_toppedBy f_Nu_lifted)) (h5 : ∀ (v2 : Int32) (v3 : Int64) (v5 : Int32) (m : qm_M), qe_J kp md_Nu_toppedBy d (l5 v2 v3 v5 m) 5 [(2, .int v2), (3, .long v3), (5, .int v5)] [] m) (v0 : Int64) (v2 : Int32) (m : qm_M) : qe_J kp md_Nu_toppedBy d (X_Nu_toppedBy_e f_Nu_lifted l5 v0 v2 m) 0 [(0, .long v0), (2, .int v2)] [] m := qe_run (B := [(5, [2, 3, 5], qp_ili_ l5)]) (n := 1000) hT (qe_B1 (qp_ili__ok h5) qe_B0) rfl
def B_Nu_toppedBy (R : Int64 → Int32 → qm_M → Option qm_R) (v0 : Int64) (v2 : Int32) (m : qm_M) : Option qm_R := X_Nu_toppedBy_e R (L_Nu_toppedBy_5 R 1000000) v0 v2 m
theorem fj_Nu_toppedBy {kp : pm_K} {d : Nat} {R : Int64 → Int32 → qm_M → Option qm_R} (hT : qe_G kp d (T_Nu_toppedBy R)) (v0 : Int64) (v2 : Int32) (m : qm_M) : qe_J kp md_Nu_toppedBy d (B_Nu_toppedBy R v0 v2 m) 0 [(0, .long v0), (2, .int v2)] [] m := xg_Nu_toppedBy_e hT (lg_Nu_toppedBy_5 hT 1000000) v0 v2 m
theorem eg_Nu_toppedBy {kp : pm_K} {d : Nat} {R : Int64 → Int32 → qm_M → Option qm_R} (hR : qe_GE kp d (24, 1, 0, 2, qw_li R)) : qe_GE kp (d + 1) (25, 1, 0, 2, qw_li (B_Nu_toppedBy R)) := qe_entry (by decide +kernel) (qw_li_ok rfl (fj_Nu_toppedBy (qe_G1 hR qe_G0)))
/-! TurnField$Numbers.lifted(JI)J -/
noncomputable def T_Nu_lifted (f_Nu_toppedBy : Int64 → Int32 → qm_M → Option qm_R) : qe_T := [(25, 1, 0, 2, qw_li f_Nu_toppedBy)]
def X_Nu_lifted_e (f_Nu_toppedBy : Int64 → Int32 → qm_M → Option qm_R) (v0 : Int64) (v2 : Int32) (m : qm_M) : Option qm_R :=
  if (lg_cmp v0 (0 : Int64)) = 0 then
    some (some (.long v0), m)
  else
    if v2 < 0 then
      some (some (.long v0), m)
    else
      if (5 : Int32) < v2 then
        some (some (.long v0), m)
      else
        qe_b (qm_in v2 6) (
        let x1 : Int64 := ((qo_lushr v0 (qo_ishl (1 : Int32) v2)) &&& (qm_gL m 1000001 (Int32.toNatClampNeg v2)))
        qe_b (qm_in v2 6) (
        let x2 : Int64 := (v0 &&& (qm_gL m 1000001 (Int32.toNatClampNeg v2)))
        qe_rL (f_Nu_toppedBy x1 v2 m) fun x3 m1 =>
        some (some (.long ((qo_lshl (x1 ^^^ x2) (qo_ishl (1 : Int32) v2)) ^^^ x3)), m1)))
set_option maxRecDepth 100000 in
theorem xg_Nu_lifted_e {kp : pm_K} {d : Nat} {f_Nu_toppedBy : Int64 → Int32 → qm_M → Option qm_R} (hT : qe_G kp d (T_Nu_lifted f_Nu_toppedBy)) (v0 : Int64) (v2 : Int32) (m : qm_M) : qe_J kp md_Nu_lifted d (X_Nu_lifted_e f_Nu_toppedBy v0 v2 m) 0 [(0, .long v0), (2, .int v2)] [] m := qe_run (B := []) (n := 1000) hT qe_B0 rfl
def B_Nu_lifted (R : Int64 → Int32 → qm_M → Option qm_R) (v0 : Int64) (v2 : Int32) (m : qm_M) : Option qm_R := X_Nu_lifted_e (B_Nu_toppedBy R) v0 v2 m
theorem fj_Nu_lifted {kp : pm_K} {d : Nat} {R : Int64 → Int32 → qm_M → Option qm_R} (hT : qe_G kp d (T_Nu_lifted (B_Nu_toppedBy R))) (v0 : Int64) (v2 : Int32) (m : qm_M) : qe_J kp md_Nu_lifted d (B_Nu_lifted R v0 v2 m) 0 [(0, .long v0), (2, .int v2)] [] m := xg_Nu_lifted_e hT v0 v2 m
def F_Nu_lifted : Nat → Int64 → Int32 → qm_M → Option qm_R
  | 0, _, _, _ => none
  | n + 1, v0, v2, m => B_Nu_lifted (F_Nu_lifted n) v0 v2 m
theorem er_Nu_lifted {kp : pm_K} (d : Nat) : ∀ n : Nat, qe_GE kp (d + 2 * n + 1) (24, 1, 0, 2, qw_li (F_Nu_lifted n))
  | 0 => qe_entry (by decide +kernel) (qw_li_ok (d := d + 0) rfl (fun v0 v2 m => qe_none rfl))
  | n + 1 => by
    have ih := er_Nu_lifted (kp := kp) d n
    exact qe_at (d1 := d + 2 * n + 2 + 1) (by omega) (qe_entry (by decide +kernel) (qw_li_ok (d := d + 2 * n + 2) rfl (fj_Nu_lifted (qe_G1 (eg_Nu_toppedBy ih) qe_G0))))
theorem fg_Nu_lifted {kp : pm_K} (d : Nat) : qe_GE kp (d + 21) (24, 1, 0, 2, qw_li (F_Nu_lifted 10)) := er_Nu_lifted d 10
def F_Nu_toppedBy (n : Nat) : Int64 → Int32 → qm_M → Option qm_R := B_Nu_toppedBy (F_Nu_lifted n)
theorem fg_Nu_toppedBy {kp : pm_K} (d : Nat) : qe_GE kp (d + 22) (25, 1, 0, 2, qw_li (F_Nu_toppedBy 10)) := eg_Nu_toppedBy (fg_Nu_lifted d)
/-! TurnField$Numbers.sharedOut(JJI)J -/
noncomputable def T_Nu_sharedOut (f_Nu_sharedOut : Int64 → Int64 → Int32 → qm_M → Option qm_R) (f_Nu_lifted : Int64 → Int32 → qm_M → Option qm_R) : qe_T := [(23, 1, 0, 2, qw_lli f_Nu_sharedOut), (24, 1, 0, 2, qw_li f_Nu_lifted)]
def X_Nu_sharedOut_e (f_Nu_sharedOut : Int64 → Int64 → Int32 → qm_M → Option qm_R) (f_Nu_lifted : Int64 → Int32 → qm_M → Option qm_R) (v0 : Int64) (v2 : Int64) (v4 : Int32) (m : qm_M) : Option qm_R :=
  if (lg_cmp v2 (0 : Int64)) = 0 then
    some (some (.long (0 : Int64)), m)
  else
    if (lg_cmp v2 (1 : Int64)) = 0 then
      some (some (.long v0), m)
    else
      if 0 < v4 then
        let x1 : Int64 := (qo_lushr v2 (qo_ishl (1 : Int32) (v4 - (1 : Int32))))
        if (lg_cmp x1 (0 : Int64)) = 0 then
          qe_rL (f_Nu_sharedOut v0 v2 (v4 - (1 : Int32)) m) fun x2 m1 =>
          some (some (.long x2), m1)
        else
          qe_b (qm_in (v4 - (1 : Int32)) 6) (
          let x3 : Int64 := (v2 &&& (qm_gL m 1000001 (Int32.toNatClampNeg (v4 - (1 : Int32)))))
          qe_rL (f_Nu_sharedOut v0 x3 (v4 - (1 : Int32)) m) fun x4 m2 =>
          qe_rL (f_Nu_sharedOut v0 x1 (v4 - (1 : Int32)) m2) fun x5 m3 =>
          qe_rL (f_Nu_lifted x5 (v4 - (1 : Int32)) m3) fun x6 m4 =>
          some (some (.long (x4 ^^^ x6)), m4))
      else
        some (some (.long v0), m)
set_option maxRecDepth 100000 in
theorem xg_Nu_sharedOut_e {kp : pm_K} {d : Nat} {f_Nu_sharedOut : Int64 → Int64 → Int32 → qm_M → Option qm_R} {f_Nu_lifted : Int64 → Int32 → qm_M → Option qm_R} (hT : qe_G kp d (T_Nu_sharedOut f_Nu_sharedOut f_Nu_lifted)) (v0 : Int64) (v2 : Int64) (v4 : Int32) (m : qm_M) : qe_J kp md_Nu_sharedOut d (X_Nu_sharedOut_e f_Nu_sharedOut f_Nu_lifted v0 v2 v4 m) 0 [(0, .long v0), (2, .long v2), (4, .int v4)] [] m := qe_run (B := []) (n := 1000) hT qe_B0 rfl
def B_Nu_sharedOut (R : Int64 → Int64 → Int32 → qm_M → Option qm_R) (v0 : Int64) (v2 : Int64) (v4 : Int32) (m : qm_M) : Option qm_R := X_Nu_sharedOut_e R (F_Nu_lifted 10) v0 v2 v4 m
theorem fj_Nu_sharedOut {kp : pm_K} {d : Nat} {R : Int64 → Int64 → Int32 → qm_M → Option qm_R} (hT : qe_G kp d (T_Nu_sharedOut R (F_Nu_lifted 10))) (v0 : Int64) (v2 : Int64) (v4 : Int32) (m : qm_M) : qe_J kp md_Nu_sharedOut d (B_Nu_sharedOut R v0 v2 v4 m) 0 [(0, .long v0), (2, .long v2), (4, .int v4)] [] m := xg_Nu_sharedOut_e hT v0 v2 v4 m
def F_Nu_sharedOut : Nat → Int64 → Int64 → Int32 → qm_M → Option qm_R
  | 0, _, _, _, _ => none
  | n + 1, v0, v2, v4, m => B_Nu_sharedOut (F_Nu_sharedOut n) v0 v2 v4 m
theorem er_Nu_sharedOut {kp : pm_K} (d : Nat) : ∀ n : Nat, qe_GE kp (d + 1 * n + 22) (23, 1, 0, 2, qw_lli (F_Nu_sharedOut n))
  | 0 => qe_entry (by decide +kernel) (qw_lli_ok (d := d + 21) rfl (fun v0 v2 v4 m => qe_none rfl))
  | n + 1 => by
    have ih := er_Nu_sharedOut (kp := kp) d n
    exact qe_at (d1 := d + 1 * n + 22 + 1) (by omega) (qe_entry (by decide +kernel) (qw_lli_ok (d := d + 1 * n + 22) rfl (fj_Nu_sharedOut (qe_G1 ih (qe_G1 (qe_at (by omega) (fg_Nu_lifted (d + 1 * n + 1))) qe_G0)))))
theorem fg_Nu_sharedOut {kp : pm_K} (d : Nat) : qe_GE kp (d + 32) (23, 1, 0, 2, qw_lli (F_Nu_sharedOut 10)) := er_Nu_sharedOut d 10
/-! TurnField$Numbers.product(JJ)J -/
noncomputable def T_Nu_product (f_Nu_below : Int64 → Int64 → qm_M → Option qm_R) (f_Nu_sharedOut : Int64 → Int64 → Int32 → qm_M → Option qm_R) : qe_T := [(20, 1, 0, 1, qw_ll f_Nu_below), (23, 1, 0, 2, qw_lli f_Nu_sharedOut)]
def X_Nu_product_e (f_Nu_below : Int64 → Int64 → qm_M → Option qm_R) (f_Nu_sharedOut : Int64 → Int64 → Int32 → qm_M → Option qm_R) (v0 : Int64) (v2 : Int64) (m : qm_M) : Option qm_R :=
  qe_rI (f_Nu_below v0 v2 m) fun x1 m1 =>
  if x1 = 0 then
    qe_rL (f_Nu_sharedOut v0 v2 (6 : Int32) m1) fun x2 m2 =>
    some (some (.long x2), m2)
  else
    qe_rL (f_Nu_sharedOut v2 v0 (6 : Int32) m1) fun x3 m3 =>
    some (some (.long x3), m3)
set_option maxRecDepth 100000 in
theorem xg_Nu_product_e {kp : pm_K} {d : Nat} {f_Nu_below : Int64 → Int64 → qm_M → Option qm_R} {f_Nu_sharedOut : Int64 → Int64 → Int32 → qm_M → Option qm_R} (hT : qe_G kp d (T_Nu_product f_Nu_below f_Nu_sharedOut)) (v0 : Int64) (v2 : Int64) (m : qm_M) : qe_J kp md_Nu_product d (X_Nu_product_e f_Nu_below f_Nu_sharedOut v0 v2 m) 0 [(0, .long v0), (2, .long v2)] [] m := qe_run (B := []) (n := 1000) hT qe_B0 rfl
def F_Nu_product (v0 : Int64) (v2 : Int64) (m : qm_M) : Option qm_R := X_Nu_product_e F_Nu_below (F_Nu_sharedOut 10) v0 v2 m
theorem fj_Nu_product {kp : pm_K} {d : Nat} (hT : qe_G kp d (T_Nu_product F_Nu_below (F_Nu_sharedOut 10))) (v0 : Int64) (v2 : Int64) (m : qm_M) : qe_J kp md_Nu_product d (F_Nu_product v0 v2 m) 0 [(0, .long v0), (2, .long v2)] [] m := xg_Nu_product_e hT v0 v2 m
theorem fg_Nu_product {kp : pm_K} (d : Nat) : qe_GE kp (d + 33) (22, 1, 0, 2, qw_ll F_Nu_product) := qe_entry (by decide +kernel) (qw_ll_ok (d := d + 32) rfl (fj_Nu_product (qe_G1 (fg_Nu_below (d + 31)) (qe_G1 (fg_Nu_sharedOut (d + 0)) qe_G0))))
/-! TurnField$Numbers.square(J)J -/
noncomputable def T_Nu_square (f_Nu_toppedBy : Int64 → Int32 → qm_M → Option qm_R) : qe_T := [(25, 1, 0, 2, qw_li f_Nu_toppedBy)]
def X_Nu_square_5 (f_Nu_toppedBy : Int64 → Int32 → qm_M → Option qm_R) (l5 : Int64 → Int32 → qm_M → Option qm_R) (v2 : Int64) (v4 : Int32) (m : qm_M) : Option qm_R :=
  if v4 < (6 : Int32) then
    qe_b (qm_in v4 6) (
    qe_rL (f_Nu_toppedBy ((qo_lushr v2 (qo_ishl (1 : Int32) v4)) &&& (qm_gL m 1000001 (Int32.toNatClampNeg v4))) v4 m) fun x1 m1 =>
    l5 (v2 ^^^ x1) (v4 + (1 : Int32)) m1)
  else
    some (some (.long v2), m)
set_option maxRecDepth 100000 in
theorem xg_Nu_square_5 {kp : pm_K} {d : Nat} {f_Nu_toppedBy : Int64 → Int32 → qm_M → Option qm_R} {l5 : Int64 → Int32 → qm_M → Option qm_R} (hT : qe_G kp d (T_Nu_square f_Nu_toppedBy)) (h5 : ∀ (v2 : Int64) (v4 : Int32) (m : qm_M), qe_J kp md_Nu_square d (l5 v2 v4 m) 5 [(2, .long v2), (4, .int v4)] [] m) (v2 : Int64) (v4 : Int32) (m : qm_M) : qe_J kp md_Nu_square d (X_Nu_square_5 f_Nu_toppedBy l5 v2 v4 m) 5 [(2, .long v2), (4, .int v4)] [] m := qe_run (B := [(5, [2, 4], qp_li_ l5)]) (n := 1000) hT (qe_B1 (qp_li__ok h5) qe_B0) rfl
def L_Nu_square_5 : Nat → Int64 → Int32 → qm_M → Option qm_R
  | 0, _, _, _ => none
  | n + 1, v2, v4, m => X_Nu_square_5 (F_Nu_toppedBy 10) (L_Nu_square_5 n) v2 v4 m
theorem lg_Nu_square_5 {kp : pm_K} {d : Nat} (hT : qe_G kp d (T_Nu_square (F_Nu_toppedBy 10))) : ∀ (n : Nat) (v2 : Int64) (v4 : Int32) (m : qm_M), qe_J kp md_Nu_square d (L_Nu_square_5 n v2 v4 m) 5 [(2, .long v2), (4, .int v4)] [] m
  | 0, v2, v4, m => qe_none rfl
  | n + 1, v2, v4, m => xg_Nu_square_5 hT (lg_Nu_square_5 hT n) v2 v4 m
def X_Nu_square_e (f_Nu_toppedBy : Int64 → Int32 → qm_M → Option qm_R) (l5 : Int64 → Int32 → qm_M → Option qm_R) (v0 : Int64) (m : qm_M) : Option qm_R :=
  l5 v0 (0 : Int32) m
set_option maxRecDepth 100000 in
theorem xg_Nu_square_e {kp : pm_K} {d : Nat} {f_Nu_toppedBy : Int64 → Int32 → qm_M → Option qm_R} {l5 : Int64 → Int32 → qm_M → Option qm_R} (hT : qe_G kp d (T_Nu_square f_Nu_toppedBy)) (h5 : ∀ (v2 : Int64) (v4 : Int32) (m : qm_M), qe_J kp md_Nu_square d (l5 v2 v4 m) 5 [(2, .long v2), (4, .int v4)] [] m) (v0 : Int64) (m : qm_M) : qe_J kp md_Nu_square d (X_Nu_square_e f_Nu_toppedBy l5 v0 m) 0 [(0, .long v0)] [] m := qe_run (B := [(5, [2, 4], qp_li_ l5)]) (n := 1000) hT (qe_B1 (qp_li__ok h5) qe_B0) rfl
def F_Nu_square (v0 : Int64) (m : qm_M) : Option qm_R := X_Nu_square_e (F_Nu_toppedBy 10) (L_Nu_square_5 1000000) v0 m
theorem fj_Nu_square {kp : pm_K} {d : Nat} (hT : qe_G kp d (T_Nu_square (F_Nu_toppedBy 10))) (v0 : Int64) (m : qm_M) : qe_J kp md_Nu_square d (F_Nu_square v0 m) 0 [(0, .long v0)] [] m := xg_Nu_square_e hT (lg_Nu_square_5 hT 1000000) v0 m
theorem fg_Nu_square {kp : pm_K} (d : Nat) : qe_GE kp (d + 23) (26, 1, 0, 2, qw_l F_Nu_square) := qe_entry (by decide +kernel) (qw_l_ok (d := d + 22) rfl (fj_Nu_square (qe_G1 (fg_Nu_toppedBy (d + 0)) qe_G0)))
/-! TurnField$Numbers.halvedIn(JI)J -/
noncomputable def T_Nu_halvedIn (f_Nu_halvedIn : Int64 → Int32 → qm_M → Option qm_R) (f_Nu_toppedBy : Int64 → Int32 → qm_M → Option qm_R) : qe_T := [(31, 1, 0, 2, qw_li f_Nu_halvedIn), (25, 1, 0, 2, qw_li f_Nu_toppedBy)]
def X_Nu_halvedIn_91 (f_Nu_halvedIn : Int64 → Int32 → qm_M → Option qm_R) (f_Nu_toppedBy : Int64 → Int32 → qm_M → Option qm_R) (v2 : Int32) (v3 : Int32) (v6 : Int64) (v8 : Int64) (m : qm_M) : Option qm_R :=
  qe_rL (f_Nu_halvedIn v8 (v2 - (1 : Int32)) m) fun x1 m1 =>
  some (some (.long ((qo_lshl v6 v3) ||| x1)), m1)
set_option maxRecDepth 100000 in
theorem xg_Nu_halvedIn_91 {kp : pm_K} {d : Nat} {f_Nu_halvedIn : Int64 → Int32 → qm_M → Option qm_R} {f_Nu_toppedBy : Int64 → Int32 → qm_M → Option qm_R} (hT : qe_G kp d (T_Nu_halvedIn f_Nu_halvedIn f_Nu_toppedBy)) (v2 : Int32) (v3 : Int32) (v6 : Int64) (v8 : Int64) (m : qm_M) : qe_J kp md_Nu_halvedIn d (X_Nu_halvedIn_91 f_Nu_halvedIn f_Nu_toppedBy v2 v3 v6 v8 m) 91 [(2, .int v2), (3, .int v3), (6, .long v6), (8, .long v8)] [] m := qe_run (B := []) (n := 1000) hT qe_B0 rfl
def L_Nu_halvedIn_91 (R : Int64 → Int32 → qm_M → Option qm_R) (v2 : Int32) (v3 : Int32) (v6 : Int64) (v8 : Int64) (m : qm_M) : Option qm_R := X_Nu_halvedIn_91 R (F_Nu_toppedBy 10) v2 v3 v6 v8 m
theorem lg_Nu_halvedIn_91 {kp : pm_K} {d : Nat} {R : Int64 → Int32 → qm_M → Option qm_R} (hT : qe_G kp d (T_Nu_halvedIn R (F_Nu_toppedBy 10))) (v2 : Int32) (v3 : Int32) (v6 : Int64) (v8 : Int64) (m : qm_M) : qe_J kp md_Nu_halvedIn d (L_Nu_halvedIn_91 R v2 v3 v6 v8 m) 91 [(2, .int v2), (3, .int v3), (6, .long v6), (8, .long v8)] [] m := xg_Nu_halvedIn_91 hT v2 v3 v6 v8 m
def X_Nu_halvedIn_e (f_Nu_halvedIn : Int64 → Int32 → qm_M → Option qm_R) (f_Nu_toppedBy : Int64 → Int32 → qm_M → Option qm_R) (l91 : Int32 → Int32 → Int64 → Int64 → qm_M → Option qm_R) (v0 : Int64) (v2 : Int32) (m : qm_M) : Option qm_R :=
  if (lg_cmp v0 (0 : Int64)) = 0 then
    some (some (.long (0 : Int64)), m)
  else
    if 0 < v2 then
      if (6 : Int32) < v2 then
        some (some (.long (0 : Int64)), m)
      else
        let x1 : Int64 := (qo_lushr v0 (qo_ishl (1 : Int32) (v2 - (1 : Int32))))
        qe_rL (f_Nu_halvedIn x1 (v2 - (1 : Int32)) m) fun x2 m1 =>
        qe_b (qm_in (v2 - (1 : Int32)) 6) (
        qe_rL (f_Nu_toppedBy (x2 ^^^ x1) (v2 - (1 : Int32)) m1) fun x3 m2 =>
        let x4 : Int64 := ((v0 &&& (qm_gL m1 1000001 (Int32.toNatClampNeg (v2 - (1 : Int32))))) ^^^ x3)
        if (lg_cmp ((qo_lushr x4 ((qo_ishl (1 : Int32) (v2 - (1 : Int32))) - (1 : Int32))) &&& (1 : Int64)) (0 : Int64)) = 0 then
          l91 v2 (qo_ishl (1 : Int32) (v2 - (1 : Int32))) x2 x4 m2
        else
          let x5 : Int64 := (x4 ^^^ (qo_lshl (1 : Int64) ((qo_ishl (1 : Int32) (v2 - (1 : Int32))) - (1 : Int32))))
          l91 v2 (qo_ishl (1 : Int32) (v2 - (1 : Int32))) (x2 ^^^ (1 : Int64)) x5 m2)
    else
      some (some (.long (0 : Int64)), m)
set_option maxRecDepth 100000 in
theorem xg_Nu_halvedIn_e {kp : pm_K} {d : Nat} {f_Nu_halvedIn : Int64 → Int32 → qm_M → Option qm_R} {f_Nu_toppedBy : Int64 → Int32 → qm_M → Option qm_R} {l91 : Int32 → Int32 → Int64 → Int64 → qm_M → Option qm_R} (hT : qe_G kp d (T_Nu_halvedIn f_Nu_halvedIn f_Nu_toppedBy)) (h91 : ∀ (v2 : Int32) (v3 : Int32) (v6 : Int64) (v8 : Int64) (m : qm_M), qe_J kp md_Nu_halvedIn d (l91 v2 v3 v6 v8 m) 91 [(2, .int v2), (3, .int v3), (6, .long v6), (8, .long v8)] [] m) (v0 : Int64) (v2 : Int32) (m : qm_M) : qe_J kp md_Nu_halvedIn d (X_Nu_halvedIn_e f_Nu_halvedIn f_Nu_toppedBy l91 v0 v2 m) 0 [(0, .long v0), (2, .int v2)] [] m := qe_run (B := [(91, [2, 3, 6, 8], qp_iill_ l91)]) (n := 1000) hT (qe_B1 (qp_iill__ok h91) qe_B0) rfl
def B_Nu_halvedIn (R : Int64 → Int32 → qm_M → Option qm_R) (v0 : Int64) (v2 : Int32) (m : qm_M) : Option qm_R := X_Nu_halvedIn_e R (F_Nu_toppedBy 10) (L_Nu_halvedIn_91 R) v0 v2 m
theorem fj_Nu_halvedIn {kp : pm_K} {d : Nat} {R : Int64 → Int32 → qm_M → Option qm_R} (hT : qe_G kp d (T_Nu_halvedIn R (F_Nu_toppedBy 10))) (v0 : Int64) (v2 : Int32) (m : qm_M) : qe_J kp md_Nu_halvedIn d (B_Nu_halvedIn R v0 v2 m) 0 [(0, .long v0), (2, .int v2)] [] m := xg_Nu_halvedIn_e hT (lg_Nu_halvedIn_91 hT) v0 v2 m
def F_Nu_halvedIn : Nat → Int64 → Int32 → qm_M → Option qm_R
  | 0, _, _, _ => none
  | n + 1, v0, v2, m => B_Nu_halvedIn (F_Nu_halvedIn n) v0 v2 m
theorem er_Nu_halvedIn {kp : pm_K} (d : Nat) : ∀ n : Nat, qe_GE kp (d + 1 * n + 23) (31, 1, 0, 2, qw_li (F_Nu_halvedIn n))
  | 0 => qe_entry (by decide +kernel) (qw_li_ok (d := d + 22) rfl (fun v0 v2 m => qe_none rfl))
  | n + 1 => by
    have ih := er_Nu_halvedIn (kp := kp) d n
    exact qe_at (d1 := d + 1 * n + 23 + 1) (by omega) (qe_entry (by decide +kernel) (qw_li_ok (d := d + 1 * n + 23) rfl (fj_Nu_halvedIn (qe_G1 ih (qe_G1 (qe_at (by omega) (fg_Nu_toppedBy (d + 1 * n + 1))) qe_G0)))))
theorem fg_Nu_halvedIn {kp : pm_K} (d : Nat) : qe_GE kp (d + 33) (31, 1, 0, 2, qw_li (F_Nu_halvedIn 10)) := er_Nu_halvedIn d 10
/-! TurnField$Numbers.inverted(J)J -/
noncomputable def T_Nu_inverted (f_Nu_product : Int64 → Int64 → qm_M → Option qm_R) (f_Nu_square : Int64 → qm_M → Option qm_R) (f_Nu_toppedBy : Int64 → Int32 → qm_M → Option qm_R) : qe_T := [(22, 1, 0, 2, qw_ll f_Nu_product), (26, 1, 0, 2, qw_l f_Nu_square), (25, 1, 0, 2, qw_li f_Nu_toppedBy)]
def X_Nu_inverted_8 (f_Nu_product : Int64 → Int64 → qm_M → Option qm_R) (f_Nu_square : Int64 → qm_M → Option qm_R) (f_Nu_toppedBy : Int64 → Int32 → qm_M → Option qm_R) (l8 : Int64 → Int64 → Int32 → qm_M → Option qm_R) (v2 : Int64) (v4 : Int64) (v6 : Int32) (m : qm_M) : Option qm_R :=
  if v6 < 0 then
    if (lg_cmp v4 (0 : Int64)) = 0 then
      some (some (.long (0 : Int64)), m)
    else
      some (some (.long v2), m)
  else
    if (lg_cmp (qo_lushr v4 (qo_ishl (1 : Int32) v6)) (0 : Int64)) = 0 then
      l8 v2 v4 (v6 + (-1 : Int32)) m
    else
      qe_b (qm_in v6 6) (
      let x1 : Int64 := (v4 &&& (qm_gL m 1000001 (Int32.toNatClampNeg v6)))
      qe_rL (f_Nu_product v2 (v4 ^^^ (qo_lushr v4 (qo_ishl (1 : Int32) v6))) m) fun x2 m1 =>
      qe_rL (f_Nu_product x1 (x1 ^^^ (qo_lushr v4 (qo_ishl (1 : Int32) v6))) m1) fun x3 m2 =>
      qe_rL (f_Nu_square (qo_lushr v4 (qo_ishl (1 : Int32) v6)) m2) fun x4 m3 =>
      qe_rL (f_Nu_toppedBy x4 v6 m3) fun x5 m4 =>
      l8 x2 (x3 ^^^ x5) (v6 + (-1 : Int32)) m4)
set_option maxRecDepth 100000 in
theorem xg_Nu_inverted_8 {kp : pm_K} {d : Nat} {f_Nu_product : Int64 → Int64 → qm_M → Option qm_R} {f_Nu_square : Int64 → qm_M → Option qm_R} {f_Nu_toppedBy : Int64 → Int32 → qm_M → Option qm_R} {l8 : Int64 → Int64 → Int32 → qm_M → Option qm_R} (hT : qe_G kp d (T_Nu_inverted f_Nu_product f_Nu_square f_Nu_toppedBy)) (h8 : ∀ (v2 : Int64) (v4 : Int64) (v6 : Int32) (m : qm_M), qe_J kp md_Nu_inverted d (l8 v2 v4 v6 m) 8 [(2, .long v2), (4, .long v4), (6, .int v6)] [] m) (v2 : Int64) (v4 : Int64) (v6 : Int32) (m : qm_M) : qe_J kp md_Nu_inverted d (X_Nu_inverted_8 f_Nu_product f_Nu_square f_Nu_toppedBy l8 v2 v4 v6 m) 8 [(2, .long v2), (4, .long v4), (6, .int v6)] [] m := qe_run (B := [(8, [2, 4, 6], qp_lli_ l8)]) (n := 1000) hT (qe_B1 (qp_lli__ok h8) qe_B0) rfl
def L_Nu_inverted_8 : Nat → Int64 → Int64 → Int32 → qm_M → Option qm_R
  | 0, _, _, _, _ => none
  | n + 1, v2, v4, v6, m => X_Nu_inverted_8 F_Nu_product F_Nu_square (F_Nu_toppedBy 10) (L_Nu_inverted_8 n) v2 v4 v6 m
theorem lg_Nu_inverted_8 {kp : pm_K} {d : Nat} (hT : qe_G kp d (T_Nu_inverted F_Nu_product F_Nu_square (F_Nu_toppedBy 10))) : ∀ (n : Nat) (v2 : Int64) (v4 : Int64) (v6 : Int32) (m : qm_M), qe_J kp md_Nu_inverted d (L_Nu_inverted_8 n v2 v4 v6 m) 8 [(2, .long v2), (4, .long v4), (6, .int v6)] [] m
  | 0, v2, v4, v6, m => qe_none rfl
  | n + 1, v2, v4, v6, m => xg_Nu_inverted_8 hT (lg_Nu_inverted_8 hT n) v2 v4 v6 m
def X_Nu_inverted_e (f_Nu_product : Int64 → Int64 → qm_M → Option qm_R) (f_Nu_square : Int64 → qm_M → Option qm_R) (f_Nu_toppedBy : Int64 → Int32 → qm_M → Option qm_R) (l8 : Int64 → Int64 → Int32 → qm_M → Option qm_R) (v0 : Int64) (m : qm_M) : Option qm_R :=
  l8 (1 : Int64) v0 (5 : Int32) m
set_option maxRecDepth 100000 in
theorem xg_Nu_inverted_e {kp : pm_K} {d : Nat} {f_Nu_product : Int64 → Int64 → qm_M → Option qm_R} {f_Nu_square : Int64 → qm_M → Option qm_R} {f_Nu_toppedBy : Int64 → Int32 → qm_M → Option qm_R} {l8 : Int64 → Int64 → Int32 → qm_M → Option qm_R} (hT : qe_G kp d (T_Nu_inverted f_Nu_product f_Nu_square f_Nu_toppedBy)) (h8 : ∀ (v2 : Int64) (v4 : Int64) (v6 : Int32) (m : qm_M), qe_J kp md_Nu_inverted d (l8 v2 v4 v6 m) 8 [(2, .long v2), (4, .long v4), (6, .int v6)] [] m) (v0 : Int64) (m : qm_M) : qe_J kp md_Nu_inverted d (X_Nu_inverted_e f_Nu_product f_Nu_square f_Nu_toppedBy l8 v0 m) 0 [(0, .long v0)] [] m := qe_run (B := [(8, [2, 4, 6], qp_lli_ l8)]) (n := 1000) hT (qe_B1 (qp_lli__ok h8) qe_B0) rfl
def F_Nu_inverted (v0 : Int64) (m : qm_M) : Option qm_R := X_Nu_inverted_e F_Nu_product F_Nu_square (F_Nu_toppedBy 10) (L_Nu_inverted_8 1000000) v0 m
theorem fj_Nu_inverted {kp : pm_K} {d : Nat} (hT : qe_G kp d (T_Nu_inverted F_Nu_product F_Nu_square (F_Nu_toppedBy 10))) (v0 : Int64) (m : qm_M) : qe_J kp md_Nu_inverted d (F_Nu_inverted v0 m) 0 [(0, .long v0)] [] m := xg_Nu_inverted_e hT (lg_Nu_inverted_8 hT 1000000) v0 m
theorem fg_Nu_inverted {kp : pm_K} (d : Nat) : qe_GE kp (d + 34) (28, 1, 0, 2, qw_l F_Nu_inverted) := qe_entry (by decide +kernel) (qw_l_ok (d := d + 33) rfl (fj_Nu_inverted (qe_G1 (fg_Nu_product (d + 0)) (qe_G1 (fg_Nu_square (d + 10)) (qe_G1 (fg_Nu_toppedBy (d + 11)) qe_G0)))))
