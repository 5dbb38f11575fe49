/-! TurnField$Position.becomeBoard(LTurnField$Position;)V -/
noncomputable def T_Ps_becomeBoard : qe_T := []
def X_Ps_becomeBoard_e (v0 : Nat) (v1 : Nat) (m : qm_M) : Option qm_R :=
  qe_b (qm_isO v1 5) (
  qe_b (qm_isO v0 5) (
  let m1 : qm_M := qm_sI m v0 0 (m.1 v1 0)
  qe_b (qm_isO v1 5) (
  qe_b (qm_isO v0 5) (
  let m2 : qm_M := qm_sI m1 v0 1 (m1.1 v1 1)
  qe_b (qm_isO v1 5) (
  qe_b (qm_isO v0 5) (
  let m3 : qm_M := qm_sI m2 v0 2 (m2.1 v1 2)
  qe_b (qm_isO v1 5) (
  qe_b (qm_isO v0 5) (
  let m4 : qm_M := qm_sI m3 v0 3 (m3.1 v1 3)
  qe_b (qm_isO v1 5) (
  qe_b (qm_isO v0 5) (
  let m5 : qm_M := qm_sI m4 v0 4 (m4.1 v1 4)
  qe_b (qm_isO v1 5) (
  qe_b (qm_isO v0 5) (
  let m6 : qm_M := qm_sI m5 v0 5 (m5.1 v1 5)
  qe_b (qm_isO v1 5) (
  qe_b (qm_isO v0 5) (
  let m7 : qm_M := qm_sL m6 v0 6 (m6.2 v1 6)
  some (none, m7)))))))))))))))
set_option maxRecDepth 100000 in
theorem xg_Ps_becomeBoard_e {kp : pm_K} {d : Nat} (hT : qe_G kp d (T_Ps_becomeBoard)) (v0 : Nat) (v1 : Nat) (m : qm_M) : qe_J kp md_Ps_becomeBoard d (X_Ps_becomeBoard_e v0 v1 m) 0 [(0, .ref v0), (1, .ref v1)] [] m := qe_run (B := []) (n := 1000) hT qe_B0 rfl
def F_Ps_becomeBoard (v0 : Nat) (v1 : Nat) (m : qm_M) : Option qm_R := X_Ps_becomeBoard_e v0 v1 m
theorem fj_Ps_becomeBoard {kp : pm_K} {d : Nat} (hT : qe_G kp d (T_Ps_becomeBoard)) (v0 : Nat) (v1 : Nat) (m : qm_M) : qe_J kp md_Ps_becomeBoard d (F_Ps_becomeBoard v0 v1 m) 0 [(0, .ref v0), (1, .ref v1)] [] m := xg_Ps_becomeBoard_e hT v0 v1 m
theorem fg_Ps_becomeBoard {kp : pm_K} (d : Nat) : qe_GE kp (d + 1) (33, 0, 5, 0, qw_rr F_Ps_becomeBoard) := qe_entry (by decide +kernel) (qw_rr_ok (d := d + 0) rfl rfl (fj_Ps_becomeBoard qe_G0))
/-! TurnField$Position.become(LTurnField$Position;)V -/
noncomputable def T_Ps_become (f_Ps_becomeBoard : Nat → Nat → qm_M → Option qm_R) : qe_T := [(33, 0, 5, 0, qw_rr f_Ps_becomeBoard)]
def X_Ps_become_52 (f_Ps_becomeBoard : Nat → Nat → qm_M → Option qm_R) (l52 : Nat → Nat → Int32 → qm_M → Option qm_R) (v0 : Nat) (v1 : Nat) (v2 : Int32) (m : qm_M) : Option qm_R :=
  qe_b (qm_isO v0 5) (
  qe_b (Nat.ble (qm_gk (qm_rf v0 10)).1 6) (
  if v2 < (Int32.ofNat (qm_n (qm_rf v0 10))) then
    qe_b (qm_isO v0 5) (
    qe_b (qm_isO v1 5) (
    qe_b (qm_isA (qm_rf v1 10) 1) (
    qe_b (qm_in v2 (qm_n (qm_rf v1 10))) (
    qe_b (qm_isL (qm_rf v0 10) 1) (
    qe_b (qm_in v2 (qm_nl (qm_rf v0 10))) (
    let m1 : qm_M := qm_sL m (qm_rf v0 10) (Int32.toNatClampNeg v2) (qm_gL m (qm_rf v1 10) (Int32.toNatClampNeg v2))
    l52 v0 v1 (v2 + (1 : Int32)) m1))))))
  else
    some (none, m)))
set_option maxRecDepth 100000 in
theorem xg_Ps_become_52 {kp : pm_K} {d : Nat} {f_Ps_becomeBoard : Nat → Nat → qm_M → Option qm_R} {l52 : Nat → Nat → Int32 → qm_M → Option qm_R} (hT : qe_G kp d (T_Ps_become f_Ps_becomeBoard)) (h52 : ∀ (v0 : Nat) (v1 : Nat) (v2 : Int32) (m : qm_M), qe_J kp md_Ps_become d (l52 v0 v1 v2 m) 52 [(0, .ref v0), (1, .ref v1), (2, .int v2)] [] m) (v0 : Nat) (v1 : Nat) (v2 : Int32) (m : qm_M) : qe_J kp md_Ps_become d (X_Ps_become_52 f_Ps_becomeBoard l52 v0 v1 v2 m) 52 [(0, .ref v0), (1, .ref v1), (2, .int v2)] [] m := qe_run (B := [(52, [0, 1, 2], qp_rri_ l52)]) (n := 1000) hT (qe_B1 (qp_rri__ok h52) qe_B0) rfl
def L_Ps_become_52 : Nat → Nat → Nat → Int32 → qm_M → Option qm_R
  | 0, _, _, _, _ => none
  | n + 1, v0, v1, v2, m => X_Ps_become_52 F_Ps_becomeBoard (L_Ps_become_52 n) v0 v1 v2 m
theorem lg_Ps_become_52 {kp : pm_K} {d : Nat} (hT : qe_G kp d (T_Ps_become F_Ps_becomeBoard)) : ∀ (n : Nat) (v0 : Nat) (v1 : Nat) (v2 : Int32) (m : qm_M), qe_J kp md_Ps_become d (L_Ps_become_52 n v0 v1 v2 m) 52 [(0, .ref v0), (1, .ref v1), (2, .int v2)] [] m
  | 0, v0, v1, v2, m => qe_none rfl
  | n + 1, v0, v1, v2, m => xg_Ps_become_52 hT (lg_Ps_become_52 hT n) v0 v1 v2 m
def X_Ps_become_7 (f_Ps_becomeBoard : Nat → Nat → qm_M → Option qm_R) (l7 : Nat → Nat → Int32 → qm_M → Option qm_R) (l52 : Nat → Nat → Int32 → qm_M → Option qm_R) (v0 : Nat) (v1 : Nat) (v2 : Int32) (m : qm_M) : Option qm_R :=
  qe_b (qm_isO v0 5) (
  qe_b (Nat.ble (qm_gk (qm_rf v0 7)).1 6) (
  if v2 < (Int32.ofNat (qm_n (qm_rf v0 7))) then
    qe_b (qm_isO v0 5) (
    qe_b (qm_isO v1 5) (
    qe_b (qm_isA (qm_rf v1 7) 1) (
    qe_b (qm_in v2 (qm_n (qm_rf v1 7))) (
    qe_b (qm_isL (qm_rf v0 7) 1) (
    qe_b (qm_in v2 (qm_nl (qm_rf v0 7))) (
    let m1 : qm_M := qm_sL m (qm_rf v0 7) (Int32.toNatClampNeg v2) (qm_gL m (qm_rf v1 7) (Int32.toNatClampNeg v2))
    l7 v0 v1 (v2 + (1 : Int32)) m1))))))
  else
    qe_b (qm_isO v1 5) (
    qe_b (qm_isO v0 5) (
    let m2 : qm_M := qm_sI m v0 8 (m.1 v1 8)
    qe_b (qm_isO v1 5) (
    qe_b (qm_isO v0 5) (
    let m3 : qm_M := qm_sI m2 v0 9 (m2.1 v1 9)
    l52 v0 v1 (0 : Int32) m3))))))
set_option maxRecDepth 100000 in
theorem xg_Ps_become_7 {kp : pm_K} {d : Nat} {f_Ps_becomeBoard : Nat → Nat → qm_M → Option qm_R} {l7 : Nat → Nat → Int32 → qm_M → Option qm_R} {l52 : Nat → Nat → Int32 → qm_M → Option qm_R} (hT : qe_G kp d (T_Ps_become f_Ps_becomeBoard)) (h7 : ∀ (v0 : Nat) (v1 : Nat) (v2 : Int32) (m : qm_M), qe_J kp md_Ps_become d (l7 v0 v1 v2 m) 7 [(0, .ref v0), (1, .ref v1), (2, .int v2)] [] m) (h52 : ∀ (v0 : Nat) (v1 : Nat) (v2 : Int32) (m : qm_M), qe_J kp md_Ps_become d (l52 v0 v1 v2 m) 52 [(0, .ref v0), (1, .ref v1), (2, .int v2)] [] m) (v0 : Nat) (v1 : Nat) (v2 : Int32) (m : qm_M) : qe_J kp md_Ps_become d (X_Ps_become_7 f_Ps_becomeBoard l7 l52 v0 v1 v2 m) 7 [(0, .ref v0), (1, .ref v1), (2, .int v2)] [] m := qe_run (B := [(7, [0, 1, 2], qp_rri_ l7), (52, [0, 1, 2], qp_rri_ l52)]) (n := 1000) hT (qe_B1 (qp_rri__ok h7) (qe_B1 (qp_rri__ok h52) qe_B0)) rfl
def L_Ps_become_7 : Nat → Nat → Nat → Int32 → qm_M → Option qm_R
  | 0, _, _, _, _ => none
  | n + 1, v0, v1, v2, m => X_Ps_become_7 F_Ps_becomeBoard (L_Ps_become_7 n) (L_Ps_become_52 1000000) v0 v1 v2 m
theorem lg_Ps_become_7 {kp : pm_K} {d : Nat} (hT : qe_G kp d (T_Ps_become F_Ps_becomeBoard)) : ∀ (n : Nat) (v0 : Nat) (v1 : Nat) (v2 : Int32) (m : qm_M), qe_J kp md_Ps_become d (L_Ps_become_7 n v0 v1 v2 m) 7 [(0, .ref v0), (1, .ref v1), (2, .int v2)] [] m
  | 0, v0, v1, v2, m => qe_none rfl
  | n + 1, v0, v1, v2, m => xg_Ps_become_7 hT (lg_Ps_become_7 hT n) (lg_Ps_become_52 hT 1000000) v0 v1 v2 m
def X_Ps_become_e (f_Ps_becomeBoard : Nat → Nat → qm_M → Option qm_R) (l7 : Nat → Nat → Int32 → qm_M → Option qm_R) (v0 : Nat) (v1 : Nat) (m : qm_M) : Option qm_R :=
  qe_b (qm_isO v0 5) (
  qe_rV (f_Ps_becomeBoard v0 v1 m) fun m1 =>
  l7 v0 v1 (0 : Int32) m1)
set_option maxRecDepth 100000 in
theorem xg_Ps_become_e {kp : pm_K} {d : Nat} {f_Ps_becomeBoard : Nat → Nat → qm_M → Option qm_R} {l7 : Nat → Nat → Int32 → qm_M → Option qm_R} (hT : qe_G kp d (T_Ps_become f_Ps_becomeBoard)) (h7 : ∀ (v0 : Nat) (v1 : Nat) (v2 : Int32) (m : qm_M), qe_J kp md_Ps_become d (l7 v0 v1 v2 m) 7 [(0, .ref v0), (1, .ref v1), (2, .int v2)] [] m) (v0 : Nat) (v1 : Nat) (m : qm_M) : qe_J kp md_Ps_become d (X_Ps_become_e f_Ps_becomeBoard l7 v0 v1 m) 0 [(0, .ref v0), (1, .ref v1)] [] m := qe_run (B := [(7, [0, 1, 2], qp_rri_ l7)]) (n := 1000) hT (qe_B1 (qp_rri__ok h7) qe_B0) rfl
def F_Ps_become (v0 : Nat) (v1 : Nat) (m : qm_M) : Option qm_R := X_Ps_become_e F_Ps_becomeBoard (L_Ps_become_7 1000000) v0 v1 m
theorem fj_Ps_become {kp : pm_K} {d : Nat} (hT : qe_G kp d (T_Ps_become F_Ps_becomeBoard)) (v0 : Nat) (v1 : Nat) (m : qm_M) : qe_J kp md_Ps_become d (F_Ps_become v0 v1 m) 0 [(0, .ref v0), (1, .ref v1)] [] m := xg_Ps_become_e hT (lg_Ps_become_7 hT 1000000) v0 v1 m
theorem fg_Ps_become {kp : pm_K} (d : Nat) : qe_GE kp (d + 2) (34, 0, 5, 0, qw_rr F_Ps_become) := qe_entry (by decide +kernel) (qw_rr_ok (d := d + 1) rfl rfl (fj_Ps_become (qe_G1 (fg_Ps_becomeBoard (d + 0)) qe_G0)))
/-! TurnField$Past.push(LTurnField$Position;)V -/
noncomputable def T_Pa_push (f_Ps_become : Nat → Nat → qm_M → Option qm_R) : qe_T := [(34, 0, 5, 0, qw_rr f_Ps_become)]
def X_Pa_push_35 (f_Ps_become : Nat → Nat → qm_M → Option qm_R) (s0 : Int32) (m : qm_M) : Option qm_R :=
  let m1 : qm_M := qm_sI m 4 1 s0
  if (m1.1 4 2) < (10 : Int32) then
    let m2 : qm_M := qm_sI m1 4 2 ((m1.1 4 2) + (1 : Int32))
    some (none, m2)
  else
    let m3 : qm_M := qm_sI m1 4 2 (10 : Int32)
    some (none, m3)
set_option maxRecDepth 100000 in
theorem xg_Pa_push_35 {kp : pm_K} {d : Nat} {f_Ps_become : Nat → Nat → qm_M → Option qm_R} (hT : qe_G kp d (T_Pa_push f_Ps_become)) (s0 : Int32) (m : qm_M) : qe_J kp md_Pa_push d (X_Pa_push_35 f_Ps_become s0 m) 35 [(0, .ref 4)] [.int s0, .ref 4] m := qe_run (B := []) (n := 1000) hT qe_B0 rfl
def L_Pa_push_35 (s0 : Int32) (m : qm_M) : Option qm_R := X_Pa_push_35 F_Ps_become s0 m
theorem lg_Pa_push_35 {kp : pm_K} {d : Nat} (hT : qe_G kp d (T_Pa_push F_Ps_become)) (s0 : Int32) (m : qm_M) : qe_J kp md_Pa_push d (L_Pa_push_35 s0 m) 35 [(0, .ref 4)] [.int s0, .ref 4] m := xg_Pa_push_35 hT s0 m
def X_Pa_push_e (f_Ps_become : Nat → Nat → qm_M → Option qm_R) (l35 : Int32 → qm_M → Option qm_R)  (m : qm_M) : Option qm_R :=
  qe_b (qm_in (m.1 4 1) 10) (
  qe_b (qm_isO (qm_rf 5 (Int32.toNatClampNeg (m.1 4 1))) 5) (
  qe_rV (f_Ps_become (qm_rf 5 (Int32.toNatClampNeg (m.1 4 1))) 1 m) fun m1 =>
  if ((m1.1 4 1) + (1 : Int32)) < (10 : Int32) then
    l35 ((m1.1 4 1) + (1 : Int32)) m1
  else
    l35 (0 : Int32) m1))
set_option maxRecDepth 100000 in
theorem xg_Pa_push_e {kp : pm_K} {d : Nat} {f_Ps_become : Nat → Nat → qm_M → Option qm_R} {l35 : Int32 → qm_M → Option qm_R} (hT : qe_G kp d (T_Pa_push f_Ps_become)) (h35 : ∀ (s0 : Int32) (m : qm_M), qe_J kp md_Pa_push d (l35 s0 m) 35 [(0, .ref 4)] [.int s0, .ref 4] m) (m : qm_M) : qe_J kp md_Pa_push d (X_Pa_push_e f_Ps_become l35 m) 0 [(0, .ref 4), (1, .ref 1)] [] m := qe_run (B := [(35, [0], qp_c_ic 4 4 l35)]) (n := 1000) hT (qe_B1 (qp_c_ic_ok h35) qe_B0) rfl
def F_Pa_push (m : qm_M) : Option qm_R := X_Pa_push_e F_Ps_become (L_Pa_push_35) m
theorem fj_Pa_push {kp : pm_K} {d : Nat} (hT : qe_G kp d (T_Pa_push F_Ps_become)) (m : qm_M) : qe_J kp md_Pa_push d (F_Pa_push m) 0 [(0, .ref 4), (1, .ref 1)] [] m := xg_Pa_push_e hT (lg_Pa_push_35 hT) m
theorem fg_Pa_push {kp : pm_K} (d : Nat) : qe_GE kp (d + 3) (16, 0, 2, 0, qw_cc 4 1 F_Pa_push) := qe_entry (by decide +kernel) (qw_cc_ok (d := d + 2) rfl rfl (fj_Pa_push (qe_G1 (fg_Ps_become (d + 0)) qe_G0)))
/-! TurnField$Past.newest()I -/
noncomputable def T_Pa_newest : qe_T := []
def X_Pa_newest_e  (m : qm_M) : Option qm_R :=
  if 0 < (m.1 4 1) then
    some (some (.int ((m.1 4 1) - (1 : Int32))), m)
  else
    some (some (.int (9 : Int32)), m)
set_option maxRecDepth 100000 in
theorem xg_Pa_newest_e {kp : pm_K} {d : Nat} (hT : qe_G kp d (T_Pa_newest)) (m : qm_M) : qe_J kp md_Pa_newest d (X_Pa_newest_e m) 0 [(0, .ref 4)] [] m := qe_run (B := []) (n := 1000) hT qe_B0 rfl
def F_Pa_newest (m : qm_M) : Option qm_R := X_Pa_newest_e m
theorem fj_Pa_newest {kp : pm_K} {d : Nat} (hT : qe_G kp d (T_Pa_newest)) (m : qm_M) : qe_J kp md_Pa_newest d (F_Pa_newest m) 0 [(0, .ref 4)] [] m := xg_Pa_newest_e hT m
theorem fg_Pa_newest {kp : pm_K} (d : Nat) : qe_GE kp (d + 1) (17, 0, 2, 1, qw_c 4 F_Pa_newest) := qe_entry (by decide +kernel) (qw_c_ok (d := d + 0) rfl rfl (fj_Pa_newest qe_G0))
/-! TurnField$Past.pop(LTurnField$Position;)V -/
noncomputable def T_Pa_pop (f_Pa_newest : qm_M → Option qm_R) (f_Ps_become : Nat → Nat → qm_M → Option qm_R) : qe_T := [(17, 0, 2, 1, qw_c 4 f_Pa_newest), (34, 0, 5, 0, qw_rr f_Ps_become)]
def X_Pa_pop_e (f_Pa_newest : qm_M → Option qm_R) (f_Ps_become : Nat → Nat → qm_M → Option qm_R)  (m : qm_M) : Option qm_R :=
  if 0 < (m.1 4 2) then
    qe_rI (f_Pa_newest m) fun x1 m1 =>
    let m2 : qm_M := qm_sI m1 4 1 x1
    let m3 : qm_M := qm_sI m2 4 2 ((m2.1 4 2) - (1 : Int32))
    qe_b (qm_in (m3.1 4 1) 10) (
    qe_rV (f_Ps_become 1 (qm_rf 5 (Int32.toNatClampNeg (m3.1 4 1))) m3) fun m4 =>
    some (none, m4))
  else
    some (none, m)
set_option maxRecDepth 100000 in
theorem xg_Pa_pop_e {kp : pm_K} {d : Nat} {f_Pa_newest : qm_M → Option qm_R} {f_Ps_become : Nat → Nat → qm_M → Option qm_R} (hT : qe_G kp d (T_Pa_pop f_Pa_newest f_Ps_become)) (m : qm_M) : qe_J kp md_Pa_pop d (X_Pa_pop_e f_Pa_newest f_Ps_become m) 0 [(0, .ref 4), (1, .ref 1)] [] m := qe_run (B := []) (n := 1000) hT qe_B0 rfl
def F_Pa_pop (m : qm_M) : Option qm_R := X_Pa_pop_e F_Pa_newest F_Ps_become m
theorem fj_Pa_pop {kp : pm_K} {d : Nat} (hT : qe_G kp d (T_Pa_pop F_Pa_newest F_Ps_become)) (m : qm_M) : qe_J kp md_Pa_pop d (F_Pa_pop m) 0 [(0, .ref 4), (1, .ref 1)] [] m := xg_Pa_pop_e hT m
theorem fg_Pa_pop {kp : pm_K} (d : Nat) : qe_GE kp (d + 3) (18, 0, 2, 0, qw_cc 4 1 F_Pa_pop) := qe_entry (by decide +kernel) (qw_cc_ok (d := d + 2) rfl rfl (fj_Pa_pop (qe_G1 (fg_Pa_newest (d + 1)) (qe_G1 (fg_Ps_become (d + 0)) qe_G0))))
/-! TurnField$Position.hasCell(II)Z -/
noncomputable def T_Ps_hasCell : qe_T := []
def X_Ps_hasCell_e (v0 : Nat) (v1 : Int32) (v2 : Int32) (m : qm_M) : Option qm_R :=
  if v1 < 0 then
    some (some (.int (0 : Int32)), m)
  else
    qe_b (qm_isO v0 5) (
    if v1 < (m.1 v0 0) then
      if v2 < 0 then
        some (some (.int (0 : Int32)), m)
      else
        qe_b (qm_isO v0 5) (
        if v2 < (m.1 v0 1) then
          some (some (.int (1 : Int32)), m)
        else
          some (some (.int (0 : Int32)), m))
    else
      some (some (.int (0 : Int32)), m))
set_option maxRecDepth 100000 in
theorem xg_Ps_hasCell_e {kp : pm_K} {d : Nat} (hT : qe_G kp d (T_Ps_hasCell)) (v0 : Nat) (v1 : Int32) (v2 : Int32) (m : qm_M) : qe_J kp md_Ps_hasCell d (X_Ps_hasCell_e v0 v1 v2 m) 0 [(0, .ref v0), (1, .int v1), (2, .int v2)] [] m := qe_run (B := []) (n := 1000) hT qe_B0 rfl
def F_Ps_hasCell (v0 : Nat) (v1 : Int32) (v2 : Int32) (m : qm_M) : Option qm_R := X_Ps_hasCell_e v0 v1 v2 m
theorem fj_Ps_hasCell {kp : pm_K} {d : Nat} (hT : qe_G kp d (T_Ps_hasCell)) (v0 : Nat) (v1 : Int32) (v2 : Int32) (m : qm_M) : qe_J kp md_Ps_hasCell d (F_Ps_hasCell v0 v1 v2 m) 0 [(0, .ref v0), (1, .int v1), (2, .int v2)] [] m := xg_Ps_hasCell_e hT v0 v1 v2 m
theorem fg_Ps_hasCell {kp : pm_K} (d : Nat) : qe_GE kp (d + 1) (35, 0, 5, 1, qw_rii F_Ps_hasCell) := qe_entry (by decide +kernel) (qw_rii_ok (d := d + 0) rfl rfl (fj_Ps_hasCell qe_G0))
/-! TurnField$Position.bitOf(II)J -/
noncomputable def T_Ps_bitOf : qe_T := []
def X_Ps_bitOf_e (v0 : Int32) (v1 : Int32) (m : qm_M) : Option qm_R :=
  some (some (.long (qo_lshl (1 : Int64) (((6 : Int32) * v0) + v1))), m)
set_option maxRecDepth 100000 in
theorem xg_Ps_bitOf_e {kp : pm_K} {d : Nat} (hT : qe_G kp d (T_Ps_bitOf)) (v0 : Int32) (v1 : Int32) (m : qm_M) : qe_J kp md_Ps_bitOf d (X_Ps_bitOf_e v0 v1 m) 0 [(0, .int v0), (1, .int v1)] [] m := qe_run (B := []) (n := 1000) hT qe_B0 rfl
def F_Ps_bitOf (v0 : Int32) (v1 : Int32) (m : qm_M) : Option qm_R := X_Ps_bitOf_e v0 v1 m
theorem fj_Ps_bitOf {kp : pm_K} {d : Nat} (hT : qe_G kp d (T_Ps_bitOf)) (v0 : Int32) (v1 : Int32) (m : qm_M) : qe_J kp md_Ps_bitOf d (F_Ps_bitOf v0 v1 m) 0 [(0, .int v0), (1, .int v1)] [] m := xg_Ps_bitOf_e hT v0 v1 m
theorem fg_Ps_bitOf {kp : pm_K} (d : Nat) : qe_GE kp (d + 1) (36, 1, 0, 2, qw_ii F_Ps_bitOf) := qe_entry (by decide +kernel) (qw_ii_ok (d := d + 0) rfl rfl (fj_Ps_bitOf qe_G0))
/-! TurnField$Position.bitsOf(II)J -/
noncomputable def T_Ps_bitsOf : qe_T := []
def X_Ps_bitsOf_5 (l5 : Int32 → Int32 → Int64 → Int32 → qm_M → Option qm_R) (v0 : Int32) (v1 : Int32) (v2 : Int64) (v4 : Int32) (m : qm_M) : Option qm_R :=
  if v4 < (6 : Int32) then
    if ((qo_ishr v0 v4) &&& (1 : Int32)) = 0 then
      l5 v0 v1 v2 (v4 + (1 : Int32)) m
    else
      let x1 : Int64 := (v2 ||| (qo_lshl (Int32.toInt64 v1) ((6 : Int32) * v4)))
      l5 v0 v1 x1 (v4 + (1 : Int32)) m
  else
    some (some (.long v2), m)
set_option maxRecDepth 100000 in
theorem xg_Ps_bitsOf_5 {kp : pm_K} {d : Nat} {l5 : Int32 → Int32 → Int64 → Int32 → qm_M → Option qm_R} (hT : qe_G kp d (T_Ps_bitsOf)) (h5 : ∀ (v0 : Int32) (v1 : Int32) (v2 : Int64) (v4 : Int32) (m : qm_M), qe_J kp md_Ps_bitsOf d (l5 v0 v1 v2 v4 m) 5 [(0, .int v0), (1, .int v1), (2, .long v2), (4, .int v4)] [] m) (v0 : Int32) (v1 : Int32) (v2 : Int64) (v4 : Int32) (m : qm_M) : qe_J kp md_Ps_bitsOf d (X_Ps_bitsOf_5 l5 v0 v1 v2 v4 m) 5 [(0, .int v0), (1, .int v1), (2, .long v2), (4, .int v4)] [] m := qe_run (B := [(5, [0, 1, 2, 4], qp_iili_ l5)]) (n := 1000) hT (qe_B1 (qp_iili__ok h5) qe_B0) rfl
def L_Ps_bitsOf_5 : Nat → Int32 → Int32 → Int64 → Int32 → qm_M → Option qm_R
  | 0, _, _, _, _, _ => none
  | n + 1, v0, v1, v2, v4, m => X_Ps_bitsOf_5 (L_Ps_bitsOf_5 n) v0 v1 v2 v4 m
theorem lg_Ps_bitsOf_5 {kp : pm_K} {d : Nat} (hT : qe_G kp d (T_Ps_bitsOf)) : ∀ (n : Nat) (v0 : Int32) (v1 : Int32) (v2 : Int64) (v4 : Int32) (m : qm_M), qe_J kp md_Ps_bitsOf d (L_Ps_bitsOf_5 n v0 v1 v2 v4 m) 5 [(0, .int v0), (1, .int v1), (2, .long v2), (4, .int v4)] [] m
  | 0, v0, v1, v2, v4, m => qe_none rfl
  | n + 1, v0, v1, v2, v4, m => xg_Ps_bitsOf_5 hT (lg_Ps_bitsOf_5 hT n) v0 v1 v2 v4 m
def X_Ps_bitsOf_e (l5 : Int32 → Int32 → Int64 → Int32 → qm_M → Option qm_R) (v0 : Int32) (v1 : Int32) (m : qm_M) : Option qm_R :=
  l5 v0 v1 (0 : Int64) (0 : Int32) m
set_option maxRecDepth 100000 in
theorem xg_Ps_bitsOf_e {kp : pm_K} {d : Nat} {l5 : Int32 → Int32 → Int64 → Int32 → qm_M → Option qm_R} (hT : qe_G kp d (T_Ps_bitsOf)) (h5 : ∀ (v0 : Int32) (v1 : Int32) (v2 : Int64) (v4 : Int32) (m : qm_M), qe_J kp md_Ps_bitsOf d (l5 v0 v1 v2 v4 m) 5 [(0, .int v0), (1, .int v1), (2, .long v2), (4, .int v4)] [] m) (v0 : Int32) (v1 : Int32) (m : qm_M) : qe_J kp md_Ps_bitsOf d (X_Ps_bitsOf_e l5 v0 v1 m) 0 [(0, .int v0), (1, .int v1)] [] m := qe_run (B := [(5, [0, 1, 2, 4], qp_iili_ l5)]) (n := 1000) hT (qe_B1 (qp_iili__ok h5) qe_B0) rfl
def F_Ps_bitsOf (v0 : Int32) (v1 : Int32) (m : qm_M) : Option qm_R := X_Ps_bitsOf_e (L_Ps_bitsOf_5 1000000) v0 v1 m
theorem fj_Ps_bitsOf {kp : pm_K} {d : Nat} (hT : qe_G kp d (T_Ps_bitsOf)) (v0 : Int32) (v1 : Int32) (m : qm_M) : qe_J kp md_Ps_bitsOf d (F_Ps_bitsOf v0 v1 m) 0 [(0, .int v0), (1, .int v1)] [] m := xg_Ps_bitsOf_e hT (lg_Ps_bitsOf_5 hT 1000000) v0 v1 m
theorem fg_Ps_bitsOf {kp : pm_K} (d : Nat) : qe_GE kp (d + 1) (37, 1, 0, 2, qw_ii F_Ps_bitsOf) := qe_entry (by decide +kernel) (qw_ii_ok (d := d + 0) rfl rfl (fj_Ps_bitsOf qe_G0))
/-! TurnField$Position.showsHeads(II)Z -/
noncomputable def T_Ps_showsHeads (f_Ps_bitOf : Int32 → Int32 → qm_M → Option qm_R) : qe_T := [(36, 1, 0, 2, qw_ii f_Ps_bitOf)]
def X_Ps_showsHeads_e (f_Ps_bitOf : Int32 → Int32 → qm_M → Option qm_R) (v0 : Nat) (v1 : Int32) (v2 : Int32) (m : qm_M) : Option qm_R :=
  qe_b (qm_isO v0 5) (
  qe_rL (f_Ps_bitOf v1 v2 m) fun x1 m1 =>
  if (lg_cmp ((m.2 v0 6) &&& x1) (0 : Int64)) = 0 then
    some (some (.int (0 : Int32)), m1)
  else
    some (some (.int (1 : Int32)), m1))
set_option maxRecDepth 100000 in
theorem xg_Ps_showsHeads_e {kp : pm_K} {d : Nat} {f_Ps_bitOf : Int32 → Int32 → qm_M → Option qm_R} (hT : qe_G kp d (T_Ps_showsHeads f_Ps_bitOf)) (v0 : Nat) (v1 : Int32) (v2 : Int32) (m : qm_M) : qe_J kp md_Ps_showsHeads d (X_Ps_showsHeads_e f_Ps_bitOf v0 v1 v2 m) 0 [(0, .ref v0), (1, .int v1), (2, .int v2)] [] m := qe_run (B := []) (n := 1000) hT qe_B0 rfl
def F_Ps_showsHeads (v0 : Nat) (v1 : Int32) (v2 : Int32) (m : qm_M) : Option qm_R := X_Ps_showsHeads_e F_Ps_bitOf v0 v1 v2 m
theorem fj_Ps_showsHeads {kp : pm_K} {d : Nat} (hT : qe_G kp d (T_Ps_showsHeads F_Ps_bitOf)) (v0 : Nat) (v1 : Int32) (v2 : Int32) (m : qm_M) : qe_J kp md_Ps_showsHeads d (F_Ps_showsHeads v0 v1 v2 m) 0 [(0, .ref v0), (1, .int v1), (2, .int v2)] [] m := xg_Ps_showsHeads_e hT v0 v1 v2 m
theorem fg_Ps_showsHeads {kp : pm_K} (d : Nat) : qe_GE kp (d + 2) (38, 0, 5, 1, qw_rii F_Ps_showsHeads) := qe_entry (by decide +kernel) (qw_rii_ok (d := d + 1) rfl rfl (fj_Ps_showsHeads (qe_G1 (fg_Ps_bitOf (d + 0)) qe_G0)))
/-! TurnField$Position.headsShown()I -/
noncomputable def T_Ps_headsShown (f_JL_bitCount : Int64 → qm_M → Option qm_R) : qe_T := [(107, 1, 0, 1, qw_l f_JL_bitCount)]
def X_Ps_headsShown_e (f_JL_bitCount : Int64 → qm_M → Option qm_R) (v0 : Nat) (m : qm_M) : Option qm_R :=
  qe_b (qm_isO v0 5) (
  qe_rI (f_JL_bitCount (m.2 v0 6) m) fun x1 m1 =>
  some (some (.int x1), m1))
set_option maxRecDepth 100000 in
theorem xg_Ps_headsShown_e {kp : pm_K} {d : Nat} {f_JL_bitCount : Int64 → qm_M → Option qm_R} (hT : qe_G kp d (T_Ps_headsShown f_JL_bitCount)) (v0 : Nat) (m : qm_M) : qe_J kp md_Ps_headsShown d (X_Ps_headsShown_e f_JL_bitCount v0 m) 0 [(0, .ref v0)] [] m := qe_run (B := []) (n := 1000) hT qe_B0 rfl
def F_Ps_headsShown (v0 : Nat) (m : qm_M) : Option qm_R := X_Ps_headsShown_e F_JL_bitCount v0 m
theorem fj_Ps_headsShown {kp : pm_K} {d : Nat} (hT : qe_G kp d (T_Ps_headsShown F_JL_bitCount)) (v0 : Nat) (m : qm_M) : qe_J kp md_Ps_headsShown d (F_Ps_headsShown v0 m) 0 [(0, .ref v0)] [] m := xg_Ps_headsShown_e hT v0 m
theorem fg_Ps_headsShown {kp : pm_K} (d : Nat) : qe_GE kp (d + 2) (39, 0, 5, 1, qw_r F_Ps_headsShown) := qe_entry (by decide +kernel) (qw_r_ok (d := d + 1) rfl rfl (fj_Ps_headsShown (qe_G1 (fg_JL_bitCount (d + 0)) qe_G0)))
/-! TurnField$Position.headsOfRow(I)I -/
noncomputable def T_Ps_headsOfRow : qe_T := []
def X_Ps_headsOfRow_e (v0 : Nat) (v1 : Int32) (m : qm_M) : Option qm_R :=
  qe_b (qm_isO v0 5) (
  some (some (.int (Int64.toInt32 ((qo_lushr (m.2 v0 6) ((6 : Int32) * v1)) &&& (63 : Int64)))), m))
set_option maxRecDepth 100000 in
theorem xg_Ps_headsOfRow_e {kp : pm_K} {d : Nat} (hT : qe_G kp d (T_Ps_headsOfRow)) (v0 : Nat) (v1 : Int32) (m : qm_M) : qe_J kp md_Ps_headsOfRow d (X_Ps_headsOfRow_e v0 v1 m) 0 [(0, .ref v0), (1, .int v1)] [] m := qe_run (B := []) (n := 1000) hT qe_B0 rfl
def F_Ps_headsOfRow (v0 : Nat) (v1 : Int32) (m : qm_M) : Option qm_R := X_Ps_headsOfRow_e v0 v1 m
theorem fj_Ps_headsOfRow {kp : pm_K} {d : Nat} (hT : qe_G kp d (T_Ps_headsOfRow)) (v0 : Nat) (v1 : Int32) (m : qm_M) : qe_J kp md_Ps_headsOfRow d (F_Ps_headsOfRow v0 v1 m) 0 [(0, .ref v0), (1, .int v1)] [] m := xg_Ps_headsOfRow_e hT v0 v1 m
theorem fg_Ps_headsOfRow {kp : pm_K} (d : Nat) : qe_GE kp (d + 1) (40, 0, 5, 1, qw_ri F_Ps_headsOfRow) := qe_entry (by decide +kernel) (qw_ri_ok (d := d + 0) rfl rfl (fj_Ps_headsOfRow qe_G0))
/-! TurnField$Position.rowsWithHeads()I -/
noncomputable def T_Ps_rowsWithHeads (f_Ps_headsOfRow : Nat → Int32 → qm_M → Option qm_R) : qe_T := [(40, 0, 5, 1, qw_ri f_Ps_headsOfRow)]
def X_Ps_rowsWithHeads_4 (f_Ps_headsOfRow : Nat → Int32 → qm_M → Option qm_R) (l4 : Nat → Int32 → Int32 → qm_M → Option qm_R) (v0 : Nat) (v1 : Int32) (v2 : Int32) (m : qm_M) : Option qm_R :=
  qe_b (qm_isO v0 5) (
  if v2 < (m.1 v0 0) then
    qe_b (qm_isO v0 5) (
    qe_rI (f_Ps_headsOfRow v0 v2 m) fun x1 m1 =>
    if x1 = 0 then
      l4 v0 (v1 ||| (0 : Int32)) (v2 + (1 : Int32)) m1
    else
      l4 v0 (v1 ||| (qo_ishl (1 : Int32) v2)) (v2 + (1 : Int32)) m1)
  else
    some (some (.int v1), m))
set_option maxRecDepth 100000 in
theorem xg_Ps_rowsWithHeads_4 {kp : pm_K} {d : Nat} {f_Ps_headsOfRow : Nat → Int32 → qm_M → Option qm_R} {l4 : Nat → Int32 → Int32 → qm_M → Option qm_R} (hT : qe_G kp d (T_Ps_rowsWithHeads f_Ps_headsOfRow)) (h4 : ∀ (v0 : Nat) (v1 : Int32) (v2 : Int32) (m : qm_M), qe_J kp md_Ps_rowsWithHeads d (l4 v0 v1 v2 m) 4 [(0, .ref v0), (1, .int v1), (2, .int v2)] [] m) (v0 : Nat) (v1 : Int32) (v2 : Int32) (m : qm_M) : qe_J kp md_Ps_rowsWithHeads d (X_Ps_rowsWithHeads_4 f_Ps_headsOfRow l4 v0 v1 v2 m) 4 [(0, .ref v0), (1, .int v1), (2, .int v2)] [] m := qe_run (B := [(4, [0, 1, 2], qp_rii_ l4)]) (n := 1000) hT (qe_B1 (qp_rii__ok h4) qe_B0) rfl
def L_Ps_rowsWithHeads_4 : Nat → Nat → Int32 → Int32 → qm_M → Option qm_R
  | 0, _, _, _, _ => none
  | n + 1, v0, v1, v2, m => X_Ps_rowsWithHeads_4 F_Ps_headsOfRow (L_Ps_rowsWithHeads_4 n) v0 v1 v2 m
theorem lg_Ps_rowsWithHeads_4 {kp : pm_K} {d : Nat} (hT : qe_G kp d (T_Ps_rowsWithHeads F_Ps_headsOfRow)) : ∀ (n : Nat) (v0 : Nat) (v1 : Int32) (v2 : Int32) (m : qm_M), qe_J kp md_Ps_rowsWithHeads d (L_Ps_rowsWithHeads_4 n v0 v1 v2 m) 4 [(0, .ref v0), (1, .int v1), (2, .int v2)] [] m
  | 0, v0, v1, v2, m => qe_none rfl
  | n + 1, v0, v1, v2, m => xg_Ps_rowsWithHeads_4 hT (lg_Ps_rowsWithHeads_4 hT n) v0 v1 v2 m
def X_Ps_rowsWithHeads_e (f_Ps_headsOfRow : Nat → Int32 → qm_M → Option qm_R) (l4 : Nat → Int32 → Int32 → qm_M → Option qm_R) (v0 : Nat) (m : qm_M) : Option qm_R :=
  l4 v0 (0 : Int32) (0 : Int32) m
set_option maxRecDepth 100000 in
theorem xg_Ps_rowsWithHeads_e {kp : pm_K} {d : Nat} {f_Ps_headsOfRow : Nat → Int32 → qm_M → Option qm_R} {l4 : Nat → Int32 → Int32 → qm_M → Option qm_R} (hT : qe_G kp d (T_Ps_rowsWithHeads f_Ps_headsOfRow)) (h4 : ∀ (v0 : Nat) (v1 : Int32) (v2 : Int32) (m : qm_M), qe_J kp md_Ps_rowsWithHeads d (l4 v0 v1 v2 m) 4 [(0, .ref v0), (1, .int v1), (2, .int v2)] [] m) (v0 : Nat) (m : qm_M) : qe_J kp md_Ps_rowsWithHeads d (X_Ps_rowsWithHeads_e f_Ps_headsOfRow l4 v0 m) 0 [(0, .ref v0)] [] m := qe_run (B := [(4, [0, 1, 2], qp_rii_ l4)]) (n := 1000) hT (qe_B1 (qp_rii__ok h4) qe_B0) rfl
def F_Ps_rowsWithHeads (v0 : Nat) (m : qm_M) : Option qm_R := X_Ps_rowsWithHeads_e F_Ps_headsOfRow (L_Ps_rowsWithHeads_4 1000000) v0 m
theorem fj_Ps_rowsWithHeads {kp : pm_K} {d : Nat} (hT : qe_G kp d (T_Ps_rowsWithHeads F_Ps_headsOfRow)) (v0 : Nat) (m : qm_M) : qe_J kp md_Ps_rowsWithHeads d (F_Ps_rowsWithHeads v0 m) 0 [(0, .ref v0)] [] m := xg_Ps_rowsWithHeads_e hT (lg_Ps_rowsWithHeads_4 hT 1000000) v0 m
theorem fg_Ps_rowsWithHeads {kp : pm_K} (d : Nat) : qe_GE kp (d + 2) (41, 0, 5, 1, qw_r F_Ps_rowsWithHeads) := qe_entry (by decide +kernel) (qw_r_ok (d := d + 1) rfl rfl (fj_Ps_rowsWithHeads (qe_G1 (fg_Ps_headsOfRow (d + 0)) qe_G0)))
/-! TurnField$Position.columnsWithHeads()I -/
noncomputable def T_Ps_columnsWithHeads (f_Ps_headsOfRow : Nat → Int32 → qm_M → Option qm_R) : qe_T := [(40, 0, 5, 1, qw_ri f_Ps_headsOfRow)]
def X_Ps_columnsWithHeads_4 (f_Ps_headsOfRow : Nat → Int32 → qm_M → Option qm_R) (l4 : Nat → Int32 → Int32 → qm_M → Option qm_R) (v0 : Nat) (v1 : Int32) (v2 : Int32) (m : qm_M) : Option qm_R :=
  qe_b (qm_isO v0 5) (
  if v2 < (m.1 v0 0) then
    qe_b (qm_isO v0 5) (
    qe_rI (f_Ps_headsOfRow v0 v2 m) fun x1 m1 =>
    l4 v0 (v1 ||| x1) (v2 + (1 : Int32)) m1)
  else
    some (some (.int v1), m))
set_option maxRecDepth 100000 in
theorem xg_Ps_columnsWithHeads_4 {kp : pm_K} {d : Nat} {f_Ps_headsOfRow : Nat → Int32 → qm_M → Option qm_R} {l4 : Nat → Int32 → Int32 → qm_M → Option qm_R} (hT : qe_G kp d (T_Ps_columnsWithHeads f_Ps_headsOfRow)) (h4 : ∀ (v0 : Nat) (v1 : Int32) (v2 : Int32) (m : qm_M), qe_J kp md_Ps_columnsWithHeads d (l4 v0 v1 v2 m) 4 [(0, .ref v0), (1, .int v1), (2, .int v2)] [] m) (v0 : Nat) (v1 : Int32) (v2 : Int32) (m : qm_M) : qe_J kp md_Ps_columnsWithHeads d (X_Ps_columnsWithHeads_4 f_Ps_headsOfRow l4 v0 v1 v2 m) 4 [(0, .ref v0), (1, .int v1), (2, .int v2)] [] m := qe_run (B := [(4, [0, 1, 2], qp_rii_ l4)]) (n := 1000) hT (qe_B1 (qp_rii__ok h4) qe_B0) rfl
def L_Ps_columnsWithHeads_4 : Nat → Nat → Int32 → Int32 → qm_M → Option qm_R
  | 0, _, _, _, _ => none
  | n + 1, v0, v1, v2, m => X_Ps_columnsWithHeads_4 F_Ps_headsOfRow (L_Ps_columnsWithHeads_4 n) v0 v1 v2 m
theorem lg_Ps_columnsWithHeads_4 {kp : pm_K} {d : Nat} (hT : qe_G kp d (T_Ps_columnsWithHeads F_Ps_headsOfRow)) : ∀ (n : Nat) (v0 : Nat) (v1 : Int32) (v2 : Int32) (m : qm_M), qe_J kp md_Ps_columnsWithHeads d (L_Ps_columnsWithHeads_4 n v0 v1 v2 m) 4 [(0, .ref v0), (1, .int v1), (2, .int v2)] [] m
  | 0, v0, v1, v2, m => qe_none rfl
  | n + 1, v0, v1, v2, m => xg_Ps_columnsWithHeads_4 hT (lg_Ps_columnsWithHeads_4 hT n) v0 v1 v2 m
def X_Ps_columnsWithHeads_e (f_Ps_headsOfRow : Nat → Int32 → qm_M → Option qm_R) (l4 : Nat → Int32 → Int32 → qm_M → Option qm_R) (v0 : Nat) (m : qm_M) : Option qm_R :=
  l4 v0 (0 : Int32) (0 : Int32) m
set_option maxRecDepth 100000 in
theorem xg_Ps_columnsWithHeads_e {kp : pm_K} {d : Nat} {f_Ps_headsOfRow : Nat → Int32 → qm_M → Option qm_R} {l4 : Nat → Int32 → Int32 → qm_M → Option qm_R} (hT : qe_G kp d (T_Ps_columnsWithHeads f_Ps_headsOfRow)) (h4 : ∀ (v0 : Nat) (v1 : Int32) (v2 : Int32) (m : qm_M), qe_J kp md_Ps_columnsWithHeads d (l4 v0 v1 v2 m) 4 [(0, .ref v0), (1, .int v1), (2, .int v2)] [] m) (v0 : Nat) (m : qm_M) : qe_J kp md_Ps_columnsWithHeads d (X_Ps_columnsWithHeads_e f_Ps_headsOfRow l4 v0 m) 0 [(0, .ref v0)] [] m := qe_run (B := [(4, [0, 1, 2], qp_rii_ l4)]) (n := 1000) hT (qe_B1 (qp_rii__ok h4) qe_B0) rfl
def F_Ps_columnsWithHeads (v0 : Nat) (m : qm_M) : Option qm_R := X_Ps_columnsWithHeads_e F_Ps_headsOfRow (L_Ps_columnsWithHeads_4 1000000) v0 m
theorem fj_Ps_columnsWithHeads {kp : pm_K} {d : Nat} (hT : qe_G kp d (T_Ps_columnsWithHeads F_Ps_headsOfRow)) (v0 : Nat) (m : qm_M) : qe_J kp md_Ps_columnsWithHeads d (F_Ps_columnsWithHeads v0 m) 0 [(0, .ref v0)] [] m := xg_Ps_columnsWithHeads_e hT (lg_Ps_columnsWithHeads_4 hT 1000000) v0 m
theorem fg_Ps_columnsWithHeads {kp : pm_K} (d : Nat) : qe_GE kp (d + 2) (42, 0, 5, 1, qw_r F_Ps_columnsWithHeads) := qe_entry (by decide +kernel) (qw_r_ok (d := d + 1) rfl rfl (fj_Ps_columnsWithHeads (qe_G1 (fg_Ps_headsOfRow (d + 0)) qe_G0)))
/-! TurnField$Position.rulesKey()I -/
noncomputable def T_Ps_rulesKey : qe_T := []
def X_Ps_rulesKey_e (v0 : Nat) (m : qm_M) : Option qm_R :=
  qe_b (qm_isO v0 5) (
  qe_b (qm_isO v0 5) (
  let x1 : Int32 := ((qo_ishl (m.1 v0 0) (3 : Int32)) ||| (m.1 v0 1))
  qe_b (qm_isO v0 5) (
  qe_b (qm_isO v0 5) (
  let x2 : Int32 := ((qo_ishl (m.1 v0 2) (2 : Int32)) ||| (m.1 v0 3))
  qe_b (qm_isO v0 5) (
  qe_b (qm_isO v0 5) (
  some (some (.int ((((qo_ishl x1 (12 : Int32)) ||| (qo_ishl x2 (8 : Int32))) ||| (qo_ishl (m.1 v0 4) (4 : Int32))) ||| (m.1 v0 5))), m)))))))
set_option maxRecDepth 100000 in
theorem xg_Ps_rulesKey_e {kp : pm_K} {d : Nat} (hT : qe_G kp d (T_Ps_rulesKey)) (v0 : Nat) (m : qm_M) : qe_J kp md_Ps_rulesKey d (X_Ps_rulesKey_e v0 m) 0 [(0, .ref v0)] [] m := qe_run (B := []) (n := 1000) hT qe_B0 rfl
def F_Ps_rulesKey (v0 : Nat) (m : qm_M) : Option qm_R := X_Ps_rulesKey_e v0 m
theorem fj_Ps_rulesKey {kp : pm_K} {d : Nat} (hT : qe_G kp d (T_Ps_rulesKey)) (v0 : Nat) (m : qm_M) : qe_J kp md_Ps_rulesKey d (F_Ps_rulesKey v0 m) 0 [(0, .ref v0)] [] m := xg_Ps_rulesKey_e hT v0 m
theorem fg_Ps_rulesKey {kp : pm_K} (d : Nat) : qe_GE kp (d + 1) (43, 0, 5, 1, qw_r F_Ps_rulesKey) := qe_entry (by decide +kernel) (qw_r_ok (d := d + 0) rfl rfl (fj_Ps_rulesKey qe_G0))
/-! TurnField$Rule.areNear(I)Z -/
noncomputable def T_Ru_areNear : qe_T := []
def X_Ru_areNear_e (v0 : Nat) (v1 : Int32) (m : qm_M) : Option qm_R :=
  qe_b (qm_isO v0 6) (
  if (qo_ishl (v1 &&& (-v1)) (m.1 v0 5)) < (v1 ^^^ (v1 &&& (-v1))) then
    some (some (.int (0 : Int32)), m)
  else
    some (some (.int (1 : Int32)), m))
set_option maxRecDepth 100000 in
theorem xg_Ru_areNear_e {kp : pm_K} {d : Nat} (hT : qe_G kp d (T_Ru_areNear)) (v0 : Nat) (v1 : Int32) (m : qm_M) : qe_J kp md_Ru_areNear d (X_Ru_areNear_e v0 v1 m) 0 [(0, .ref v0), (1, .int v1)] [] m := qe_run (B := []) (n := 1000) hT qe_B0 rfl
def F_Ru_areNear (v0 : Nat) (v1 : Int32) (m : qm_M) : Option qm_R := X_Ru_areNear_e v0 v1 m
theorem fj_Ru_areNear {kp : pm_K} {d : Nat} (hT : qe_G kp d (T_Ru_areNear)) (v0 : Nat) (v1 : Int32) (m : qm_M) : qe_J kp md_Ru_areNear d (F_Ru_areNear v0 v1 m) 0 [(0, .ref v0), (1, .int v1)] [] m := xg_Ru_areNear_e hT v0 v1 m
theorem fg_Ru_areNear {kp : pm_K} (d : Nat) : qe_GE kp (d + 1) (49, 0, 6, 1, qw_ri F_Ru_areNear) := qe_entry (by decide +kernel) (qw_ri_ok (d := d + 0) rfl rfl (fj_Ru_areNear qe_G0))
/-! TurnField$Rule.allows(I)Z -/
noncomputable def T_Ru_allows (f_JI_bitCount : Int32 → qm_M → Option qm_R) (f_Ru_areNear : Nat → Int32 → qm_M → Option qm_R) : qe_T := [(106, 1, 0, 1, qw_i f_JI_bitCount), (49, 0, 6, 1, qw_ri f_Ru_areNear)]
def X_Ru_allows_e (f_JI_bitCount : Int32 → qm_M → Option qm_R) (f_Ru_areNear : Nat → Int32 → qm_M → Option qm_R) (v0 : Nat) (v1 : Int32) (m : qm_M) : Option qm_R :=
  qe_rI (f_JI_bitCount v1 m) fun x1 m1 =>
  qe_b (qm_isO v0 6) (
  if Int32.toInt (m1.1 v0 4) = 0 then
    if x1 < (1 : Int32) then
      some (some (.int (0 : Int32)), m1)
    else
      qe_b (qm_isO v0 6) (
      if (m1.1 v0 5) < x1 then
        some (some (.int (0 : Int32)), m1)
      else
        some (some (.int (1 : Int32)), m1))
  else
   if Int32.toInt (m1.1 v0 4) = 1 then
     qe_b (qm_isO v0 6) (
     if x1 = (m1.1 v0 5) then
       some (some (.int (1 : Int32)), m1)
     else
       some (some (.int (0 : Int32)), m1))
   else
    if Int32.toInt (m1.1 v0 4) = 2 then
      if x1 < (1 : Int32) then
        some (some (.int (0 : Int32)), m1)
      else
        qe_b (qm_isO v0 6) (
        if (m1.1 v0 5) < x1 then
          some (some (.int (0 : Int32)), m1)
        else
          if (v1 &&& (v1 + (v1 &&& (-v1)))) = 0 then
            some (some (.int (1 : Int32)), m1)
          else
            some (some (.int (0 : Int32)), m1))
    else
      if x1 = (1 : Int32) then
        some (some (.int (1 : Int32)), m1)
      else
        if x1 = (2 : Int32) then
          qe_b (qm_isO v0 6) (
          qe_rI (f_Ru_areNear v0 v1 m1) fun x2 m2 =>
          if x2 = 0 then
            some (some (.int (0 : Int32)), m2)
          else
            some (some (.int (1 : Int32)), m2))
        else
          some (some (.int (0 : Int32)), m1))
set_option maxRecDepth 100000 in
theorem xg_Ru_allows_e {kp : pm_K} {d : Nat} {f_JI_bitCount : Int32 → qm_M → Option qm_R} {f_Ru_areNear : Nat → Int32 → qm_M → Option qm_R} (hT : qe_G kp d (T_Ru_allows f_JI_bitCount f_Ru_areNear)) (v0 : Nat) (v1 : Int32) (m : qm_M) : qe_J kp md_Ru_allows d (X_Ru_allows_e f_JI_bitCount f_Ru_areNear v0 v1 m) 0 [(0, .ref v0), (1, .int v1)] [] m := qe_run (B := []) (n := 1000) hT qe_B0 rfl
def F_Ru_allows (v0 : Nat) (v1 : Int32) (m : qm_M) : Option qm_R := X_Ru_allows_e F_JI_bitCount F_Ru_areNear v0 v1 m
theorem fj_Ru_allows {kp : pm_K} {d : Nat} (hT : qe_G kp d (T_Ru_allows F_JI_bitCount F_Ru_areNear)) (v0 : Nat) (v1 : Int32) (m : qm_M) : qe_J kp md_Ru_allows d (F_Ru_allows v0 v1 m) 0 [(0, .ref v0), (1, .int v1)] [] m := xg_Ru_allows_e hT v0 v1 m
theorem fg_Ru_allows {kp : pm_K} (d : Nat) : qe_GE kp (d + 2) (48, 0, 6, 1, qw_ri F_Ru_allows) := qe_entry (by decide +kernel) (qw_ri_ok (d := d + 1) rfl rfl (fj_Ru_allows (qe_G1 (fg_JI_bitCount (d + 0)) (qe_G1 (fg_Ru_areNear (d + 0)) qe_G0))))
/-! TurnField$Rule.leastUnmet()I -/
noncomputable def T_Ru_leastUnmet : qe_T := []
def X_Ru_leastUnmet_2 (l2 : Nat → Int32 → qm_M → Option qm_R) (v0 : Nat) (v1 : Int32) (m : qm_M) : Option qm_R :=
  if v1 < (4096 : Int32) then
    qe_b (qm_isO v0 6) (
    qe_b (qm_isA (qm_rf v0 3) 1) (
    qe_b (qm_in (qo_ishr v1 (6 : Int32)) (qm_n (qm_rf v0 3))) (
    if (lg_cmp ((qo_lushr (qm_gL m (qm_rf v0 3) (Int32.toNatClampNeg (qo_ishr v1 (6 : Int32)))) (v1 &&& (63 : Int32))) &&& (1 : Int64)) (0 : Int64)) = 0 then
      some (some (.int v1), m)
    else
      l2 v0 (v1 + (1 : Int32)) m)))
  else
    some (some (.int (0 : Int32)), m)
set_option maxRecDepth 100000 in
theorem xg_Ru_leastUnmet_2 {kp : pm_K} {d : Nat} {l2 : Nat → Int32 → qm_M → Option qm_R} (hT : qe_G kp d (T_Ru_leastUnmet)) (h2 : ∀ (v0 : Nat) (v1 : Int32) (m : qm_M), qe_J kp md_Ru_leastUnmet d (l2 v0 v1 m) 2 [(0, .ref v0), (1, .int v1)] [] m) (v0 : Nat) (v1 : Int32) (m : qm_M) : qe_J kp md_Ru_leastUnmet d (X_Ru_leastUnmet_2 l2 v0 v1 m) 2 [(0, .ref v0), (1, .int v1)] [] m := qe_run (B := [(2, [0, 1], qp_ri_ l2)]) (n := 1000) hT (qe_B1 (qp_ri__ok h2) qe_B0) rfl
def L_Ru_leastUnmet_2 : Nat → Nat → Int32 → qm_M → Option qm_R
  | 0, _, _, _ => none
  | n + 1, v0, v1, m => X_Ru_leastUnmet_2 (L_Ru_leastUnmet_2 n) v0 v1 m
theorem lg_Ru_leastUnmet_2 {kp : pm_K} {d : Nat} (hT : qe_G kp d (T_Ru_leastUnmet)) : ∀ (n : Nat) (v0 : Nat) (v1 : Int32) (m : qm_M), qe_J kp md_Ru_leastUnmet d (L_Ru_leastUnmet_2 n v0 v1 m) 2 [(0, .ref v0), (1, .int v1)] [] m
  | 0, v0, v1, m => qe_none rfl
  | n + 1, v0, v1, m => xg_Ru_leastUnmet_2 hT (lg_Ru_leastUnmet_2 hT n) v0 v1 m
def X_Ru_leastUnmet_e (l2 : Nat → Int32 → qm_M → Option qm_R) (v0 : Nat) (m : qm_M) : Option qm_R :=
  l2 v0 (0 : Int32) m
set_option maxRecDepth 100000 in
theorem xg_Ru_leastUnmet_e {kp : pm_K} {d : Nat} {l2 : Nat → Int32 → qm_M → Option qm_R} (hT : qe_G kp d (T_Ru_leastUnmet)) (h2 : ∀ (v0 : Nat) (v1 : Int32) (m : qm_M), qe_J kp md_Ru_leastUnmet d (l2 v0 v1 m) 2 [(0, .ref v0), (1, .int v1)] [] m) (v0 : Nat) (m : qm_M) : qe_J kp md_Ru_leastUnmet d (X_Ru_leastUnmet_e l2 v0 m) 0 [(0, .ref v0)] [] m := qe_run (B := [(2, [0, 1], qp_ri_ l2)]) (n := 1000) hT (qe_B1 (qp_ri__ok h2) qe_B0) rfl
def F_Ru_leastUnmet (v0 : Nat) (m : qm_M) : Option qm_R := X_Ru_leastUnmet_e (L_Ru_leastUnmet_2 1000000) v0 m
theorem fj_Ru_leastUnmet {kp : pm_K} {d : Nat} (hT : qe_G kp d (T_Ru_leastUnmet)) (v0 : Nat) (m : qm_M) : qe_J kp md_Ru_leastUnmet d (F_Ru_leastUnmet v0 m) 0 [(0, .ref v0)] [] m := xg_Ru_leastUnmet_e hT (lg_Ru_leastUnmet_2 hT 1000000) v0 m
theorem fg_Ru_leastUnmet {kp : pm_K} (d : Nat) : qe_GE kp (d + 1) (47, 0, 6, 1, qw_r F_Ru_leastUnmet) := qe_entry (by decide +kernel) (qw_r_ok (d := d + 0) rfl rfl (fj_Ru_leastUnmet qe_G0))
/-! TurnField$Rule.weigh(I)V -/
noncomputable def T_Ru_weigh (f_Ru_allows : Nat → Int32 → qm_M → Option qm_R) (f_Ru_leastUnmet : Nat → qm_M → Option qm_R) : qe_T := [(48, 0, 6, 1, qw_ri f_Ru_allows), (47, 0, 6, 1, qw_r f_Ru_leastUnmet)]
def X_Ru_weigh_111 (f_Ru_allows : Nat → Int32 → qm_M → Option qm_R) (f_Ru_leastUnmet : Nat → qm_M → Option qm_R) (l111 : Nat → Int32 → Int32 → Int32 → qm_M → Option qm_R) (v0 : Nat) (v1 : Int32) (v2 : Int32) (v3 : Int32) (m : qm_M) : Option qm_R :=
  if v3 < v2 then
    if v1 < (11 : Int32) then
      qe_b (qm_isO v0 6) (
      qe_b (qm_isO v0 6) (
      qe_b (qm_isL (qm_rf v0 2) 0) (
      qe_b (qm_in v3 (qm_nl (qm_rf v0 2))) (
      qe_b (qm_isO v0 6) (
      qe_b (qm_isL (qm_rf v0 0) 0) (
      qe_b (qm_in v1 (qm_nl (qm_rf v0 0))) (
      qe_b (qm_isL (qm_rf v0 2) 0) (
      qe_b (qm_in (v2 ||| v3) (qm_nl (qm_rf v0 2))) (
      let m1 : qm_M := qm_sI m (qm_rf v0 2) (Int32.toNatClampNeg (v2 ||| v3)) ((m.1 (qm_rf v0 2) (Int32.toNatClampNeg v3)) ^^^ (m.1 (qm_rf v0 0) (Int32.toNatClampNeg v1)))
      l111 v0 v1 v2 (v3 + (1 : Int32)) m1)))))))))
    else
      some (none, m)
  else
    some (none, m)
set_option maxRecDepth 100000 in
theorem xg_Ru_weigh_111 {kp : pm_K} {d : Nat} {f_Ru_allows : Nat → Int32 → qm_M → Option qm_R} {f_Ru_leastUnmet : Nat → qm_M → Option qm_R} {l111 : Nat → Int32 → Int32 → Int32 → qm_M → Option qm_R} (hT : qe_G kp d (T_Ru_weigh f_Ru_allows f_Ru_leastUnmet)) (h111 : ∀ (v0 : Nat) (v1 : Int32) (v2 : Int32) (v3 : Int32) (m : qm_M), qe_J kp md_Ru_weigh d (l111 v0 v1 v2 v3 m) 111 [(0, .ref v0), (1, .int v1), (2, .int v2), (3, .int v3)] [] m) (v0 : Nat) (v1 : Int32) (v2 : Int32) (v3 : Int32) (m : qm_M) : qe_J kp md_Ru_weigh d (X_Ru_weigh_111 f_Ru_allows f_Ru_leastUnmet l111 v0 v1 v2 v3 m) 111 [(0, .ref v0), (1, .int v1), (2, .int v2), (3, .int v3)] [] m := qe_run (B := [(111, [0, 1, 2, 3], qp_riii_ l111)]) (n := 1000) hT (qe_B1 (qp_riii__ok h111) qe_B0) rfl
def L_Ru_weigh_111 : Nat → Nat → Int32 → Int32 → Int32 → qm_M → Option qm_R
  | 0, _, _, _, _, _ => none
  | n + 1, v0, v1, v2, v3, m => X_Ru_weigh_111 F_Ru_allows F_Ru_leastUnmet (L_Ru_weigh_111 n) v0 v1 v2 v3 m
theorem lg_Ru_weigh_111 {kp : pm_K} {d : Nat} (hT : qe_G kp d (T_Ru_weigh F_Ru_allows F_Ru_leastUnmet)) : ∀ (n : Nat) (v0 : Nat) (v1 : Int32) (v2 : Int32) (v3 : Int32) (m : qm_M), qe_J kp md_Ru_weigh d (L_Ru_weigh_111 n v0 v1 v2 v3 m) 111 [(0, .ref v0), (1, .int v1), (2, .int v2), (3, .int v3)] [] m
  | 0, v0, v1, v2, v3, m => qe_none rfl
  | n + 1, v0, v1, v2, v3, m => xg_Ru_weigh_111 hT (lg_Ru_weigh_111 hT n) v0 v1 v2 v3 m
def X_Ru_weigh_37 (f_Ru_allows : Nat → Int32 → qm_M → Option qm_R) (f_Ru_leastUnmet : Nat → qm_M → Option qm_R) (l37 : Nat → Int32 → Int32 → Int32 → qm_M → Option qm_R) (l111 : Nat → Int32 → Int32 → Int32 → qm_M → Option qm_R) (v0 : Nat) (v1 : Int32) (v2 : Int32) (v3 : Int32) (m : qm_M) : Option qm_R :=
  if v3 < v2 then
    qe_b (qm_isO v0 6) (
    qe_rI (f_Ru_allows v0 (v2 ||| v3) m) fun x1 m1 =>
    if x1 = 0 then
      l37 v0 v1 v2 (v3 + (1 : Int32)) m1
    else
      qe_b (qm_isO v0 6) (
      qe_b (qm_isL (qm_rf v0 1) 0) (
      qe_b (qm_in v1 (qm_nl (qm_rf v0 1))) (
      qe_b (qm_isL (qm_rf v0 1) 0) (
      qe_b (qm_in v1 (qm_nl (qm_rf v0 1))) (
      let m2 : qm_M := qm_sI m1 (qm_rf v0 1) (Int32.toNatClampNeg v1) ((m1.1 (qm_rf v0 1) (Int32.toNatClampNeg v1)) + (1 : Int32))
      qe_b (qm_isO v0 6) (
      qe_b (qm_isO v0 6) (
      qe_b (qm_isL (qm_rf v0 2) 0) (
      qe_b (qm_in v3 (qm_nl (qm_rf v0 2))) (
      qe_b (qm_isA (qm_rf v0 3) 1) (
      qe_b (qm_in ((qo_ishr (m2.1 (qm_rf v0 2) (Int32.toNatClampNeg v3)) (6 : Int32)) &&& (63 : Int32)) (qm_n (qm_rf v0 3))) (
      qe_b (qm_isO v0 6) (
      qe_b (qm_isL (qm_rf v0 2) 0) (
      qe_b (qm_in v3 (qm_nl (qm_rf v0 2))) (
      qe_b (qm_isL (qm_rf v0 3) 1) (
      qe_b (qm_in ((qo_ishr (m2.1 (qm_rf v0 2) (Int32.toNatClampNeg v3)) (6 : Int32)) &&& (63 : Int32)) (qm_nl (qm_rf v0 3))) (
      let m3 : qm_M := qm_sL m2 (qm_rf v0 3) (Int32.toNatClampNeg ((qo_ishr (m2.1 (qm_rf v0 2) (Int32.toNatClampNeg v3)) (6 : Int32)) &&& (63 : Int32))) ((qm_gL m2 (qm_rf v0 3) (Int32.toNatClampNeg ((qo_ishr (m2.1 (qm_rf v0 2) (Int32.toNatClampNeg v3)) (6 : Int32)) &&& (63 : Int32)))) ||| (qo_lshl (1 : Int64) ((m2.1 (qm_rf v0 2) (Int32.toNatClampNeg v3)) &&& (63 : Int32))))
      l37 v0 v1 v2 (v3 + (1 : Int32)) m3)))))))))))))))))
  else
    qe_b (qm_isO v0 6) (
    qe_b (qm_isO v0 6) (
    qe_rI (f_Ru_leastUnmet v0 m) fun x2 m4 =>
    qe_b (qm_isL (qm_rf v0 0) 0) (
    qe_b (qm_in v1 (qm_nl (qm_rf v0 0))) (
    let m5 : qm_M := qm_sI m4 (qm_rf v0 0) (Int32.toNatClampNeg v1) x2
    l111 v0 v1 v2 (0 : Int32) m5))))
set_option maxRecDepth 100000 in
theorem xg_Ru_weigh_37 {kp : pm_K} {d : Nat} {f_Ru_allows : Nat → Int32 → qm_M → Option qm_R} {f_Ru_leastUnmet : Nat → qm_M → Option qm_R} {l37 : Nat → Int32 → Int32 → Int32 → qm_M → Option qm_R} {l111 : Nat → Int32 → Int32 → Int32 → qm_M → Option qm_R} (hT : qe_G kp d (T_Ru_weigh f_Ru_allows f_Ru_leastUnmet)) (h37 : ∀ (v0 : Nat) (v1 : Int32) (v2 : Int32) (v3 : Int32) (m : qm_M), qe_J kp md_Ru_weigh d (l37 v0 v1 v2 v3 m) 37 [(0, .ref v0), (1, .int v1), (2, .int v2), (3, .int v3)] [] m) (h111 : ∀ (v0 : Nat) (v1 : Int32) (v2 : Int32) (v3 : Int32) (m : qm_M), qe_J kp md_Ru_weigh d (l111 v0 v1 v2 v3 m) 111 [(0, .ref v0), (1, .int v1), (2, .int v2), (3, .int v3)] [] m) (v0 : Nat) (v1 : Int32) (v2 : Int32) (v3 : Int32) (m : qm_M) : qe_J kp md_Ru_weigh d (X_Ru_weigh_37 f_Ru_allows f_Ru_leastUnmet l37 l111 v0 v1 v2 v3 m) 37 [(0, .ref v0), (1, .int v1), (2, .int v2), (3, .int v3)] [] m := qe_run (B := [(37, [0, 1, 2, 3], qp_riii_ l37), (111, [0, 1, 2, 3], qp_riii_ l111)]) (n := 1000) hT (qe_B1 (qp_riii__ok h37) (qe_B1 (qp_riii__ok h111) qe_B0)) rfl
def L_Ru_weigh_37 : Nat → Nat → Int32 → Int32 → Int32 → qm_M → Option qm_R
  | 0, _, _, _, _, _ => none
  | n + 1, v0, v1, v2, v3, m => X_Ru_weigh_37 F_Ru_allows F_Ru_leastUnmet (L_Ru_weigh_37 n) (L_Ru_weigh_111 1000000) v0 v1 v2 v3 m
theorem lg_Ru_weigh_37 {kp : pm_K} {d : Nat} (hT : qe_G kp d (T_Ru_weigh F_Ru_allows F_Ru_leastUnmet)) : ∀ (n : Nat) (v0 : Nat) (v1 : Int32) (v2 : Int32) (v3 : Int32) (m : qm_M), qe_J kp md_Ru_weigh d (L_Ru_weigh_37 n v0 v1 v2 v3 m) 37 [(0, .ref v0), (1, .int v1), (2, .int v2), (3, .int v3)] [] m
  | 0, v0, v1, v2, v3, m => qe_none rfl
  | n + 1, v0, v1, v2, v3, m => xg_Ru_weigh_37 hT (lg_Ru_weigh_37 hT n) (lg_Ru_weigh_111 hT 1000000) v0 v1 v2 v3 m
def X_Ru_weigh_2 (f_Ru_allows : Nat → Int32 → qm_M → Option qm_R) (f_Ru_leastUnmet : Nat → qm_M → Option qm_R) (l2 : Nat → Int32 → Int32 → qm_M → Option qm_R) (l37 : Nat → Int32 → Int32 → Int32 → qm_M → Option qm_R) (v0 : Nat) (v1 : Int32) (v2 : Int32) (m : qm_M) : Option qm_R :=
  qe_b (qm_isO v0 6) (
  qe_b (Nat.ble (qm_gk (qm_rf v0 3)).1 6) (
  if v2 < (Int32.ofNat (qm_n (qm_rf v0 3))) then
    qe_b (qm_isO v0 6) (
    qe_b (qm_isL (qm_rf v0 3) 1) (
    qe_b (qm_in v2 (qm_nl (qm_rf v0 3))) (
    let m1 : qm_M := qm_sL m (qm_rf v0 3) (Int32.toNatClampNeg v2) (0 : Int64)
    l2 v0 v1 (v2 + (1 : Int32)) m1)))
  else
    qe_b (qm_isO v0 6) (
    qe_b (qm_isL (qm_rf v0 1) 0) (
    qe_b (qm_in v1 (qm_nl (qm_rf v0 1))) (
    let m2 : qm_M := qm_sI m (qm_rf v0 1) (Int32.toNatClampNeg v1) (0 : Int32)
    l37 v0 v1 (qo_ishl (1 : Int32) v1) (0 : Int32) m2)))))
set_option maxRecDepth 100000 in
theorem xg_Ru_weigh_2 {kp : pm_K} {d : Nat} {f_Ru_allows : Nat → Int32 → qm_M → Option qm_R} {f_Ru_leastUnmet : Nat → qm_M → Option qm_R} {l2 : Nat → Int32 → Int32 → qm_M → Option qm_R} {l37 : Nat → Int32 → Int32 → Int32 → qm_M → Option qm_R} (hT : qe_G kp d (T_Ru_weigh f_Ru_allows f_Ru_leastUnmet)) (h2 : ∀ (v0 : Nat) (v1 : Int32) (v2 : Int32) (m : qm_M), qe_J kp md_Ru_weigh d (l2 v0 v1 v2 m) 2 [(0, .ref v0), (1, .int v1), (2, .int v2)] [] m) (h37 : ∀ (v0 : Nat) (v1 : Int32) (v2 : Int32) (v3 : Int32) (m : qm_M), qe_J kp md_Ru_weigh d (l37 v0 v1 v2 v3 m) 37 [(0, .ref v0), (1, .int v1), (2, .int v2), (3, .int v3)] [] m) (v0 : Nat) (v1 : Int32) (v2 : Int32) (m : qm_M) : qe_J kp md_Ru_weigh d (X_Ru_weigh_2 f_Ru_allows f_Ru_leastUnmet l2 l37 v0 v1 v2 m) 2 [(0, .ref v0), (1, .int v1), (2, .int v2)] [] m := qe_run (B := [(2, [0, 1, 2], qp_rii_ l2), (37, [0, 1, 2, 3], qp_riii_ l37)]) (n := 1000) hT (qe_B1 (qp_rii__ok h2) (qe_B1 (qp_riii__ok h37) qe_B0)) rfl
def L_Ru_weigh_2 : Nat → Nat → Int32 → Int32 → qm_M → Option qm_R
  | 0, _, _, _, _ => none
  | n + 1, v0, v1, v2, m => X_Ru_weigh_2 F_Ru_allows F_Ru_leastUnmet (L_Ru_weigh_2 n) (L_Ru_weigh_37 1000000) v0 v1 v2 m
theorem lg_Ru_weigh_2 {kp : pm_K} {d : Nat} (hT : qe_G kp d (T_Ru_weigh F_Ru_allows F_Ru_leastUnmet)) : ∀ (n : Nat) (v0 : Nat) (v1 : Int32) (v2 : Int32) (m : qm_M), qe_J kp md_Ru_weigh d (L_Ru_weigh_2 n v0 v1 v2 m) 2 [(0, .ref v0), (1, .int v1), (2, .int v2)] [] m
  | 0, v0, v1, v2, m => qe_none rfl
  | n + 1, v0, v1, v2, m => xg_Ru_weigh_2 hT (lg_Ru_weigh_2 hT n) (lg_Ru_weigh_37 hT 1000000) v0 v1 v2 m
def X_Ru_weigh_e (f_Ru_allows : Nat → Int32 → qm_M → Option qm_R) (f_Ru_leastUnmet : Nat → qm_M → Option qm_R) (l2 : Nat → Int32 → Int32 → qm_M → Option qm_R) (v0 : Nat) (v1 : Int32) (m : qm_M) : Option qm_R :=
  l2 v0 v1 (0 : Int32) m
set_option maxRecDepth 100000 in
theorem xg_Ru_weigh_e {kp : pm_K} {d : Nat} {f_Ru_allows : Nat → Int32 → qm_M → Option qm_R} {f_Ru_leastUnmet : Nat → qm_M → Option qm_R} {l2 : Nat → Int32 → Int32 → qm_M → Option qm_R} (hT : qe_G kp d (T_Ru_weigh f_Ru_allows f_Ru_leastUnmet)) (h2 : ∀ (v0 : Nat) (v1 : Int32) (v2 : Int32) (m : qm_M), qe_J kp md_Ru_weigh d (l2 v0 v1 v2 m) 2 [(0, .ref v0), (1, .int v1), (2, .int v2)] [] m) (v0 : Nat) (v1 : Int32) (m : qm_M) : qe_J kp md_Ru_weigh d (X_Ru_weigh_e f_Ru_allows f_Ru_leastUnmet l2 v0 v1 m) 0 [(0, .ref v0), (1, .int v1)] [] m := qe_run (B := [(2, [0, 1, 2], qp_rii_ l2)]) (n := 1000) hT (qe_B1 (qp_rii__ok h2) qe_B0) rfl
def F_Ru_weigh (v0 : Nat) (v1 : Int32) (m : qm_M) : Option qm_R := X_Ru_weigh_e F_Ru_allows F_Ru_leastUnmet (L_Ru_weigh_2 1000000) v0 v1 m
theorem fj_Ru_weigh {kp : pm_K} {d : Nat} (hT : qe_G kp d (T_Ru_weigh F_Ru_allows F_Ru_leastUnmet)) (v0 : Nat) (v1 : Int32) (m : qm_M) : qe_J kp md_Ru_weigh d (F_Ru_weigh v0 v1 m) 0 [(0, .ref v0), (1, .int v1)] [] m := xg_Ru_weigh_e hT (lg_Ru_weigh_2 hT 1000000) v0 v1 m
theorem fg_Ru_weigh {kp : pm_K} (d : Nat) : qe_GE kp (d + 3) (46, 0, 6, 0, qw_ri F_Ru_weigh) := qe_entry (by decide +kernel) (qw_ri_ok (d := d + 2) rfl rfl (fj_Ru_weigh (qe_G1 (fg_Ru_allows (d + 0)) (qe_G1 (fg_Ru_leastUnmet (d + 1)) qe_G0))))
/-! TurnField$Rule.tune(II)V -/
noncomputable def T_Ru_tune (f_Ru_weigh : Nat → Int32 → qm_M → Option qm_R) : qe_T := [(46, 0, 6, 0, qw_ri f_Ru_weigh)]
def X_Ru_tune_29 (f_Ru_weigh : Nat → Int32 → qm_M → Option qm_R) (l29 : Nat → Int32 → qm_M → Option qm_R) (v0 : Nat) (v3 : Int32) (m : qm_M) : Option qm_R :=
  if v3 < (12 : Int32) then
    qe_b (qm_isO v0 6) (
    qe_rV (f_Ru_weigh v0 v3 m) fun m1 =>
    l29 v0 (v3 + (1 : Int32)) m1)
  else
    some (none, m)
set_option maxRecDepth 100000 in
theorem xg_Ru_tune_29 {kp : pm_K} {d : Nat} {f_Ru_weigh : Nat → Int32 → qm_M → Option qm_R} {l29 : Nat → Int32 → qm_M → Option qm_R} (hT : qe_G kp d (T_Ru_tune f_Ru_weigh)) (h29 : ∀ (v0 : Nat) (v3 : Int32) (m : qm_M), qe_J kp md_Ru_tune d (l29 v0 v3 m) 29 [(0, .ref v0), (3, .int v3)] [] m) (v0 : Nat) (v3 : Int32) (m : qm_M) : qe_J kp md_Ru_tune d (X_Ru_tune_29 f_Ru_weigh l29 v0 v3 m) 29 [(0, .ref v0), (3, .int v3)] [] m := qe_run (B := [(29, [0, 3], qp_ri_ l29)]) (n := 1000) hT (qe_B1 (qp_ri__ok h29) qe_B0) rfl
def L_Ru_tune_29 : Nat → Nat → Int32 → qm_M → Option qm_R
  | 0, _, _, _ => none
  | n + 1, v0, v3, m => X_Ru_tune_29 F_Ru_weigh (L_Ru_tune_29 n) v0 v3 m
theorem lg_Ru_tune_29 {kp : pm_K} {d : Nat} (hT : qe_G kp d (T_Ru_tune F_Ru_weigh)) : ∀ (n : Nat) (v0 : Nat) (v3 : Int32) (m : qm_M), qe_J kp md_Ru_tune d (L_Ru_tune_29 n v0 v3 m) 29 [(0, .ref v0), (3, .int v3)] [] m
  | 0, v0, v3, m => qe_none rfl
  | n + 1, v0, v3, m => xg_Ru_tune_29 hT (lg_Ru_tune_29 hT n) v0 v3 m
def X_Ru_tune_e (f_Ru_weigh : Nat → Int32 → qm_M → Option qm_R) (l29 : Nat → Int32 → qm_M → Option qm_R) (v0 : Nat) (v1 : Int32) (v2 : Int32) (m : qm_M) : Option qm_R :=
  qe_b (qm_isO v0 6) (
  if (m.1 v0 4) = v1 then
    qe_b (qm_isO v0 6) (
    if (m.1 v0 5) = v2 then
      some (none, m)
    else
      qe_b (qm_isO v0 6) (
      let m1 : qm_M := qm_sI m v0 4 v1
      qe_b (qm_isO v0 6) (
      let m2 : qm_M := qm_sI m1 v0 5 v2
      l29 v0 (0 : Int32) m2)))
  else
    qe_b (qm_isO v0 6) (
    let m3 : qm_M := qm_sI m v0 4 v1
    qe_b (qm_isO v0 6) (
    let m4 : qm_M := qm_sI m3 v0 5 v2
    l29 v0 (0 : Int32) m4)))
set_option maxRecDepth 100000 in
theorem xg_Ru_tune_e {kp : pm_K} {d : Nat} {f_Ru_weigh : Nat → Int32 → qm_M → Option qm_R} {l29 : Nat → Int32 → qm_M → Option qm_R} (hT : qe_G kp d (T_Ru_tune f_Ru_weigh)) (h29 : ∀ (v0 : Nat) (v3 : Int32) (m : qm_M), qe_J kp md_Ru_tune d (l29 v0 v3 m) 29 [(0, .ref v0), (3, .int v3)] [] m) (v0 : Nat) (v1 : Int32) (v2 : Int32) (m : qm_M) : qe_J kp md_Ru_tune d (X_Ru_tune_e f_Ru_weigh l29 v0 v1 v2 m) 0 [(0, .ref v0), (1, .int v1), (2, .int v2)] [] m := qe_run (B := [(29, [0, 3], qp_ri_ l29)]) (n := 1000) hT (qe_B1 (qp_ri__ok h29) qe_B0) rfl
def F_Ru_tune (v0 : Nat) (v1 : Int32) (v2 : Int32) (m : qm_M) : Option qm_R := X_Ru_tune_e F_Ru_weigh (L_Ru_tune_29 1000000) v0 v1 v2 m
theorem fj_Ru_tune {kp : pm_K} {d : Nat} (hT : qe_G kp d (T_Ru_tune F_Ru_weigh)) (v0 : Nat) (v1 : Int32) (v2 : Int32) (m : qm_M) : qe_J kp md_Ru_tune d (F_Ru_tune v0 v1 v2 m) 0 [(0, .ref v0), (1, .int v1), (2, .int v2)] [] m := xg_Ru_tune_e hT (lg_Ru_tune_29 hT 1000000) v0 v1 v2 m
theorem fg_Ru_tune {kp : pm_K} (d : Nat) : qe_GE kp (d + 4) (45, 0, 6, 0, qw_rii F_Ru_tune) := qe_entry (by decide +kernel) (qw_rii_ok (d := d + 3) rfl rfl (fj_Ru_tune (qe_G1 (fg_Ru_weigh (d + 0)) qe_G0)))
/-! TurnField$Rule.worthOf(I)I -/
noncomputable def T_Ru_worthOf : qe_T := []
def X_Ru_worthOf_e (v0 : Nat) (v1 : Int32) (m : qm_M) : Option qm_R :=
  if v1 < 0 then
    some (some (.int (-1 : Int32)), m)
  else
    if v1 < (12 : Int32) then
      qe_b (qm_isO v0 6) (
      qe_b (qm_isL (qm_rf v0 0) 0) (
      qe_b (qm_in v1 (qm_nl (qm_rf v0 0))) (
      some (some (.int (m.1 (qm_rf v0 0) (Int32.toNatClampNeg v1))), m))))
    else
      some (some (.int (-1 : Int32)), m)
set_option maxRecDepth 100000 in
theorem xg_Ru_worthOf_e {kp : pm_K} {d : Nat} (hT : qe_G kp d (T_Ru_worthOf)) (v0 : Nat) (v1 : Int32) (m : qm_M) : qe_J kp md_Ru_worthOf d (X_Ru_worthOf_e v0 v1 m) 0 [(0, .ref v0), (1, .int v1)] [] m := qe_run (B := []) (n := 1000) hT qe_B0 rfl
def F_Ru_worthOf (v0 : Nat) (v1 : Int32) (m : qm_M) : Option qm_R := X_Ru_worthOf_e v0 v1 m
theorem fj_Ru_worthOf {kp : pm_K} {d : Nat} (hT : qe_G kp d (T_Ru_worthOf)) (v0 : Nat) (v1 : Int32) (m : qm_M) : qe_J kp md_Ru_worthOf d (F_Ru_worthOf v0 v1 m) 0 [(0, .ref v0), (1, .int v1)] [] m := xg_Ru_worthOf_e hT v0 v1 m
theorem fg_Ru_worthOf {kp : pm_K} (d : Nat) : qe_GE kp (d + 1) (50, 0, 6, 1, qw_ri F_Ru_worthOf) := qe_entry (by decide +kernel) (qw_ri_ok (d := d + 0) rfl rfl (fj_Ru_worthOf qe_G0))
/-! TurnField$Rule.setsOf(I)I -/
noncomputable def T_Ru_setsOf : qe_T := []
def X_Ru_setsOf_e (v0 : Nat) (v1 : Int32) (m : qm_M) : Option qm_R :=
  if v1 < 0 then
    some (some (.int (-1 : Int32)), m)
  else
    if v1 < (12 : Int32) then
      qe_b (qm_isO v0 6) (
      qe_b (qm_isL (qm_rf v0 1) 0) (
      qe_b (qm_in v1 (qm_nl (qm_rf v0 1))) (
      some (some (.int (m.1 (qm_rf v0 1) (Int32.toNatClampNeg v1))), m))))
    else
      some (some (.int (-1 : Int32)), m)
set_option maxRecDepth 100000 in
theorem xg_Ru_setsOf_e {kp : pm_K} {d : Nat} (hT : qe_G kp d (T_Ru_setsOf)) (v0 : Nat) (v1 : Int32) (m : qm_M) : qe_J kp md_Ru_setsOf d (X_Ru_setsOf_e v0 v1 m) 0 [(0, .ref v0), (1, .int v1)] [] m := qe_run (B := []) (n := 1000) hT qe_B0 rfl
def F_Ru_setsOf (v0 : Nat) (v1 : Int32) (m : qm_M) : Option qm_R := X_Ru_setsOf_e v0 v1 m
theorem fj_Ru_setsOf {kp : pm_K} {d : Nat} (hT : qe_G kp d (T_Ru_setsOf)) (v0 : Nat) (v1 : Int32) (m : qm_M) : qe_J kp md_Ru_setsOf d (F_Ru_setsOf v0 v1 m) 0 [(0, .ref v0), (1, .int v1)] [] m := xg_Ru_setsOf_e hT v0 v1 m
theorem fg_Ru_setsOf {kp : pm_K} (d : Nat) : qe_GE kp (d + 1) (51, 0, 6, 1, qw_ri F_Ru_setsOf) := qe_entry (by decide +kernel) (qw_ri_ok (d := d + 0) rfl rfl (fj_Ru_setsOf qe_G0))
/-! TurnField$Tape.hasRoom(I)Z -/
noncomputable def T_Ta_hasRoom : qe_T := []
def X_Ta_hasRoom_e (v1 : Int32) (m : qm_M) : Option qm_R :=
  if (120 : Int32) < ((m.1 43 2) + v1) then
    some (some (.int (0 : Int32)), m)
  else
    some (some (.int (1 : Int32)), m)
set_option maxRecDepth 100000 in
theorem xg_Ta_hasRoom_e {kp : pm_K} {d : Nat} (hT : qe_G kp d (T_Ta_hasRoom)) (v1 : Int32) (m : qm_M) : qe_J kp md_Ta_hasRoom d (X_Ta_hasRoom_e v1 m) 0 [(0, .ref 43), (1, .int v1)] [] m := qe_run (B := []) (n := 1000) hT qe_B0 rfl
def F_Ta_hasRoom (v1 : Int32) (m : qm_M) : Option qm_R := X_Ta_hasRoom_e v1 m
theorem fj_Ta_hasRoom {kp : pm_K} {d : Nat} (hT : qe_G kp d (T_Ta_hasRoom)) (v1 : Int32) (m : qm_M) : qe_J kp md_Ta_hasRoom d (F_Ta_hasRoom v1 m) 0 [(0, .ref 43), (1, .int v1)] [] m := xg_Ta_hasRoom_e hT v1 m
theorem fg_Ta_hasRoom {kp : pm_K} (d : Nat) : qe_GE kp (d + 1) (55, 0, 9, 1, qw_ci 43 F_Ta_hasRoom) := qe_entry (by decide +kernel) (qw_ci_ok (d := d + 0) rfl rfl (fj_Ta_hasRoom qe_G0))
/-! TurnField$Tape.append(I)V -/
noncomputable def T_Ta_append : qe_T := []
def X_Ta_append_3 (l3 : Int32 → Int32 → qm_M → Option qm_R) (v1 : Int32) (v2 : Int32) (m : qm_M) : Option qm_R :=
  if v2 < 0 then
    some (none, m)
  else
    if (m.1 43 2) < (120 : Int32) then
      qe_b (qm_in (m.1 43 2) 120) (
      let m1 : qm_M := qm_sI m 44 (Int32.toNatClampNeg (m.1 43 2)) (Int8.toInt32 (Int32.toInt8 (Int8.toInt32 (Int32.toInt8 (qo_ishr v1 v2)))))
      let m2 : qm_M := qm_sI m1 43 2 ((m1.1 43 2) + (1 : Int32))
      l3 v1 (v2 + (-8 : Int32)) m2)
    else
      some (none, m)
set_option maxRecDepth 100000 in
theorem xg_Ta_append_3 {kp : pm_K} {d : Nat} {l3 : Int32 → Int32 → qm_M → Option qm_R} (hT : qe_G kp d (T_Ta_append)) (h3 : ∀ (v1 : Int32) (v2 : Int32) (m : qm_M), qe_J kp md_Ta_append d (l3 v1 v2 m) 3 [(0, .ref 43), (1, .int v1), (2, .int v2)] [] m) (v1 : Int32) (v2 : Int32) (m : qm_M) : qe_J kp md_Ta_append d (X_Ta_append_3 l3 v1 v2 m) 3 [(0, .ref 43), (1, .int v1), (2, .int v2)] [] m := qe_run (B := [(3, [0, 1, 2], qp_cii_ 43 l3)]) (n := 1000) hT (qe_B1 (qp_cii__ok h3) qe_B0) rfl
def L_Ta_append_3 : Nat → Int32 → Int32 → qm_M → Option qm_R
  | 0, _, _, _ => none
  | n + 1, v1, v2, m => X_Ta_append_3 (L_Ta_append_3 n) v1 v2 m
theorem lg_Ta_append_3 {kp : pm_K} {d : Nat} (hT : qe_G kp d (T_Ta_append)) : ∀ (n : Nat) (v1 : Int32) (v2 : Int32) (m : qm_M), qe_J kp md_Ta_append d (L_Ta_append_3 n v1 v2 m) 3 [(0, .ref 43), (1, .int v1), (2, .int v2)] [] m
  | 0, v1, v2, m => qe_none rfl
  | n + 1, v1, v2, m => xg_Ta_append_3 hT (lg_Ta_append_3 hT n) v1 v2 m
def X_Ta_append_e (l3 : Int32 → Int32 → qm_M → Option qm_R) (v1 : Int32) (m : qm_M) : Option qm_R :=
  l3 v1 (24 : Int32) m
set_option maxRecDepth 100000 in
theorem xg_Ta_append_e {kp : pm_K} {d : Nat} {l3 : Int32 → Int32 → qm_M → Option qm_R} (hT : qe_G kp d (T_Ta_append)) (h3 : ∀ (v1 : Int32) (v2 : Int32) (m : qm_M), qe_J kp md_Ta_append d (l3 v1 v2 m) 3 [(0, .ref 43), (1, .int v1), (2, .int v2)] [] m) (v1 : Int32) (m : qm_M) : qe_J kp md_Ta_append d (X_Ta_append_e l3 v1 m) 0 [(0, .ref 43), (1, .int v1)] [] m := qe_run (B := [(3, [0, 1, 2], qp_cii_ 43 l3)]) (n := 1000) hT (qe_B1 (qp_cii__ok h3) qe_B0) rfl
def F_Ta_append (v1 : Int32) (m : qm_M) : Option qm_R := X_Ta_append_e (L_Ta_append_3 1000000) v1 m
theorem fj_Ta_append {kp : pm_K} {d : Nat} (hT : qe_G kp d (T_Ta_append)) (v1 : Int32) (m : qm_M) : qe_J kp md_Ta_append d (F_Ta_append v1 m) 0 [(0, .ref 43), (1, .int v1)] [] m := xg_Ta_append_e hT (lg_Ta_append_3 hT 1000000) v1 m
theorem fg_Ta_append {kp : pm_K} (d : Nat) : qe_GE kp (d + 1) (56, 0, 9, 0, qw_ci 43 F_Ta_append) := qe_entry (by decide +kernel) (qw_ci_ok (d := d + 0) rfl rfl (fj_Ta_append qe_G0))
/-! TurnField$Tape.skipBlanks()V -/
noncomputable def T_Ta_skipBlanks : qe_T := []
def X_Ta_skipBlanks_0 (l0 : qm_M → Option qm_R)  (m : qm_M) : Option qm_R :=
  if (m.1 43 3) < (m.1 43 2) then
    qe_b (qm_in (m.1 43 3) 120) (
    if (m.1 44 (Int32.toNatClampNeg (m.1 43 3))) = (32 : Int32) then
      let m1 : qm_M := qm_sI m 43 3 ((m.1 43 3) + (1 : Int32))
      l0 m1
    else
      qe_b (qm_in (m.1 43 3) 120) (
      if (m.1 44 (Int32.toNatClampNeg (m.1 43 3))) = (59 : Int32) then
        let m2 : qm_M := qm_sI m 43 3 ((m.1 43 3) + (1 : Int32))
        l0 m2
      else
        some (none, m)))
  else
    some (none, m)
set_option maxRecDepth 100000 in
theorem xg_Ta_skipBlanks_0 {kp : pm_K} {d : Nat} {l0 : qm_M → Option qm_R} (hT : qe_G kp d (T_Ta_skipBlanks)) (h0 : ∀ (m : qm_M), qe_J kp md_Ta_skipBlanks d (l0 m) 0 [(0, .ref 43)] [] m) (m : qm_M) : qe_J kp md_Ta_skipBlanks d (X_Ta_skipBlanks_0 l0 m) 0 [(0, .ref 43)] [] m := qe_run (B := [(0, [0], qp_c_ 43 l0)]) (n := 1000) hT (qe_B1 (qp_c__ok h0) qe_B0) rfl
def L_Ta_skipBlanks_0 : Nat → qm_M → Option qm_R
  | 0, _ => none
  | n + 1, m => X_Ta_skipBlanks_0 (L_Ta_skipBlanks_0 n) m
theorem lg_Ta_skipBlanks_0 {kp : pm_K} {d : Nat} (hT : qe_G kp d (T_Ta_skipBlanks)) : ∀ (n : Nat) (m : qm_M), qe_J kp md_Ta_skipBlanks d (L_Ta_skipBlanks_0 n m) 0 [(0, .ref 43)] [] m
  | 0, m => qe_none rfl
  | n + 1, m => xg_Ta_skipBlanks_0 hT (lg_Ta_skipBlanks_0 hT n) m
def F_Ta_skipBlanks (m : qm_M) : Option qm_R := (L_Ta_skipBlanks_0 1000000) m
theorem fj_Ta_skipBlanks {kp : pm_K} {d : Nat} (hT : qe_G kp d (T_Ta_skipBlanks)) (m : qm_M) : qe_J kp md_Ta_skipBlanks d (F_Ta_skipBlanks m) 0 [(0, .ref 43)] [] m := qe_sub (by simp) ((lg_Ta_skipBlanks_0 hT 1000000) m)
theorem fg_Ta_skipBlanks {kp : pm_K} (d : Nat) : qe_GE kp (d + 1) (60, 0, 9, 0, qw_c 43 F_Ta_skipBlanks) := qe_entry (by decide +kernel) (qw_c_ok (d := d + 0) rfl rfl (fj_Ta_skipBlanks qe_G0))
/-! TurnField$Tape.isBetween(BCC)Z -/
noncomputable def T_Ta_isBetween : qe_T := []
def X_Ta_isBetween_e (v0 : Int32) (v1 : Int32) (v2 : Int32) (m : qm_M) : Option qm_R :=
  if v0 < v1 then
    some (some (.int (0 : Int32)), m)
  else
    if v2 < v0 then
      some (some (.int (0 : Int32)), m)
    else
      some (some (.int (1 : Int32)), m)
set_option maxRecDepth 100000 in
theorem xg_Ta_isBetween_e {kp : pm_K} {d : Nat} (hT : qe_G kp d (T_Ta_isBetween)) (v0 : Int32) (v1 : Int32) (v2 : Int32) (m : qm_M) : qe_J kp md_Ta_isBetween d (X_Ta_isBetween_e v0 v1 v2 m) 0 [(0, .int v0), (1, .int v1), (2, .int v2)] [] m := qe_run (B := []) (n := 1000) hT qe_B0 rfl
def F_Ta_isBetween (v0 : Int32) (v1 : Int32) (v2 : Int32) (m : qm_M) : Option qm_R := X_Ta_isBetween_e v0 v1 v2 m
theorem fj_Ta_isBetween {kp : pm_K} {d : Nat} (hT : qe_G kp d (T_Ta_isBetween)) (v0 : Int32) (v1 : Int32) (v2 : Int32) (m : qm_M) : qe_J kp md_Ta_isBetween d (F_Ta_isBetween v0 v1 v2 m) 0 [(0, .int v0), (1, .int v1), (2, .int v2)] [] m := xg_Ta_isBetween_e hT v0 v1 v2 m
theorem fg_Ta_isBetween {kp : pm_K} (d : Nat) : qe_GE kp (d + 1) (61, 1, 0, 1, qw_iii F_Ta_isBetween) := qe_entry (by decide +kernel) (qw_iii_ok (d := d + 0) rfl rfl (fj_Ta_isBetween qe_G0))
/-! TurnField$Tape.blame(II)V -/
noncomputable def T_Ta_blame : qe_T := []
def X_Ta_blame_e (v1 : Int32) (v2 : Int32) (m : qm_M) : Option qm_R :=
  if (m.1 43 4) = 0 then
    let m1 : qm_M := qm_sI m 43 4 (((8 : Int32) * v1) + v2)
    some (none, m1)
  else
    some (none, m)
set_option maxRecDepth 100000 in
theorem xg_Ta_blame_e {kp : pm_K} {d : Nat} (hT : qe_G kp d (T_Ta_blame)) (v1 : Int32) (v2 : Int32) (m : qm_M) : qe_J kp md_Ta_blame d (X_Ta_blame_e v1 v2 m) 0 [(0, .ref 43), (1, .int v1), (2, .int v2)] [] m := qe_run (B := []) (n := 1000) hT qe_B0 rfl
def F_Ta_blame (v1 : Int32) (v2 : Int32) (m : qm_M) : Option qm_R := X_Ta_blame_e v1 v2 m
theorem fj_Ta_blame {kp : pm_K} {d : Nat} (hT : qe_G kp d (T_Ta_blame)) (v1 : Int32) (v2 : Int32) (m : qm_M) : qe_J kp md_Ta_blame d (F_Ta_blame v1 v2 m) 0 [(0, .ref 43), (1, .int v1), (2, .int v2)] [] m := xg_Ta_blame_e hT v1 v2 m
theorem fg_Ta_blame {kp : pm_K} (d : Nat) : qe_GE kp (d + 1) (59, 0, 9, 0, qw_cii 43 F_Ta_blame) := qe_entry (by decide +kernel) (qw_cii_ok (d := d + 0) rfl rfl (fj_Ta_blame qe_G0))
/-! TurnField$Tape.readNumber(II)I -/
noncomputable def T_Ta_readNumber (f_Ta_skipBlanks : qm_M → Option qm_R) (f_Ta_isBetween : Int32 → Int32 → Int32 → qm_M → Option qm_R) (f_Ta_blame : Int32 → Int32 → qm_M → Option qm_R) : qe_T := [(60, 0, 9, 0, qw_c 43 f_Ta_skipBlanks), (61, 1, 0, 1, qw_iii f_Ta_isBetween), (59, 0, 9, 0, qw_cii 43 f_Ta_blame)]
def X_Ta_readNumber_119 (f_Ta_skipBlanks : qm_M → Option qm_R) (f_Ta_isBetween : Int32 → Int32 → Int32 → qm_M → Option qm_R) (f_Ta_blame : Int32 → Int32 → qm_M → Option qm_R) (v3 : Int32) (v4 : Int32) (m : qm_M) : Option qm_R :=
  qe_rV (f_Ta_blame v3 (2 : Int32) m) fun m1 =>
  some (some (.int v4), m1)
set_option maxRecDepth 100000 in
theorem xg_Ta_readNumber_119 {kp : pm_K} {d : Nat} {f_Ta_skipBlanks : qm_M → Option qm_R} {f_Ta_isBetween : Int32 → Int32 → Int32 → qm_M → Option qm_R} {f_Ta_blame : Int32 → Int32 → qm_M → Option qm_R} (hT : qe_G kp d (T_Ta_readNumber f_Ta_skipBlanks f_Ta_isBetween f_Ta_blame)) (v3 : Int32) (v4 : Int32) (m : qm_M) : qe_J kp md_Ta_readNumber d (X_Ta_readNumber_119 f_Ta_skipBlanks f_Ta_isBetween f_Ta_blame v3 v4 m) 119 [(0, .ref 43), (3, .int v3), (4, .int v4)] [] m := qe_run (B := []) (n := 1000) hT qe_B0 rfl
def L_Ta_readNumber_119 (v3 : Int32) (v4 : Int32) (m : qm_M) : Option qm_R := X_Ta_readNumber_119 F_Ta_skipBlanks F_Ta_isBetween F_Ta_blame v3 v4 m
theorem lg_Ta_readNumber_119 {kp : pm_K} {d : Nat} (hT : qe_G kp d (T_Ta_readNumber F_Ta_skipBlanks F_Ta_isBetween F_Ta_blame)) (v3 : Int32) (v4 : Int32) (m : qm_M) : qe_J kp md_Ta_readNumber d (L_Ta_readNumber_119 v3 v4 m) 119 [(0, .ref 43), (3, .int v3), (4, .int v4)] [] m := xg_Ta_readNumber_119 hT v3 v4 m
def X_Ta_readNumber_90 (f_Ta_skipBlanks : qm_M → Option qm_R) (f_Ta_isBetween : Int32 → Int32 → Int32 → qm_M → Option qm_R) (f_Ta_blame : Int32 → Int32 → qm_M → Option qm_R) (l119 : Int32 → Int32 → qm_M → Option qm_R) (v1 : Int32) (v2 : Int32) (v3 : Int32) (v4 : Int32) (m : qm_M) : Option qm_R :=
  if (m.1 43 3) = v3 then
    qe_rV (f_Ta_blame v3 (1 : Int32) m) fun m1 =>
    some (some (.int v4), m1)
  else
    if v4 < v1 then
      l119 v3 v4 m
    else
      if v2 < v4 then
        l119 v3 v4 m
      else
        some (some (.int v4), m)
set_option maxRecDepth 100000 in
theorem xg_Ta_readNumber_90 {kp : pm_K} {d : Nat} {f_Ta_skipBlanks : qm_M → Option qm_R} {f_Ta_isBetween : Int32 → Int32 → Int32 → qm_M → Option qm_R} {f_Ta_blame : Int32 → Int32 → qm_M → Option qm_R} {l119 : Int32 → Int32 → qm_M → Option qm_R} (hT : qe_G kp d (T_Ta_readNumber f_Ta_skipBlanks f_Ta_isBetween f_Ta_blame)) (h119 : ∀ (v3 : Int32) (v4 : Int32) (m : qm_M), qe_J kp md_Ta_readNumber d (l119 v3 v4 m) 119 [(0, .ref 43), (3, .int v3), (4, .int v4)] [] m) (v1 : Int32) (v2 : Int32) (v3 : Int32) (v4 : Int32) (m : qm_M) : qe_J kp md_Ta_readNumber d (X_Ta_readNumber_90 f_Ta_skipBlanks f_Ta_isBetween f_Ta_blame l119 v1 v2 v3 v4 m) 90 [(0, .ref 43), (1, .int v1), (2, .int v2), (3, .int v3), (4, .int v4)] [] m := qe_run (B := [(119, [0, 3, 4], qp_cii_ 43 l119)]) (n := 1000) hT (qe_B1 (qp_cii__ok h119) qe_B0) rfl
def L_Ta_readNumber_90 (v1 : Int32) (v2 : Int32) (v3 : Int32) (v4 : Int32) (m : qm_M) : Option qm_R := X_Ta_readNumber_90 F_Ta_skipBlanks F_Ta_isBetween F_Ta_blame (L_Ta_readNumber_119) v1 v2 v3 v4 m
theorem lg_Ta_readNumber_90 {kp : pm_K} {d : Nat} (hT : qe_G kp d (T_Ta_readNumber F_Ta_skipBlanks F_Ta_isBetween F_Ta_blame)) (v1 : Int32) (v2 : Int32) (v3 : Int32) (v4 : Int32) (m : qm_M) : qe_J kp md_Ta_readNumber d (L_Ta_readNumber_90 v1 v2 v3 v4 m) 90 [(0, .ref 43), (1, .int v1), (2, .int v2), (3, .int v3), (4, .int v4)] [] m := xg_Ta_readNumber_90 hT (lg_Ta_readNumber_119 hT) v1 v2 v3 v4 m
def X_Ta_readNumber_21 (f_Ta_skipBlanks : qm_M → Option qm_R) (f_Ta_isBetween : Int32 → Int32 → Int32 → qm_M → Option qm_R) (f_Ta_blame : Int32 → Int32 → qm_M → Option qm_R) (l21 : Int32 → Int32 → Int32 → Int32 → qm_M → Option qm_R) (l90 : Int32 → Int32 → Int32 → Int32 → qm_M → Option qm_R) (v1 : Int32) (v2 : Int32) (v3 : Int32) (v4 : Int32) (m : qm_M) : Option qm_R :=
  if (m.1 43 3) < (m.1 43 2) then
    qe_b (qm_in (m.1 43 3) 120) (
    qe_rI (f_Ta_isBetween (m.1 44 (Int32.toNatClampNeg (m.1 43 3))) (48 : Int32) (57 : Int32) m) fun x1 m1 =>
    if x1 = 0 then
      l90 v1 v2 v3 v4 m1
    else
      qe_b (qm_in (m1.1 43 3) 120) (
      let x2 : Int32 := (qo_min (1000 : Int32) ((((10 : Int32) * v4) + (m1.1 44 (Int32.toNatClampNeg (m1.1 43 3)))) - (48 : Int32)))
      let m2 : qm_M := qm_sI m1 43 3 ((m1.1 43 3) + (1 : Int32))
      l21 v1 v2 v3 x2 m2))
  else
    l90 v1 v2 v3 v4 m
set_option maxRecDepth 100000 in
theorem xg_Ta_readNumber_21 {kp : pm_K} {d : Nat} {f_Ta_skipBlanks : qm_M → Option qm_R} {f_Ta_isBetween : Int32 → Int32 → Int32 → qm_M → Option qm_R} {f_Ta_blame : Int32 → Int32 → qm_M → Option qm_R} {l21 : Int32 → Int32 → Int32 → Int32 → qm_M → Option qm_R} {l90 : Int32 → Int32 → Int32 → Int32 → qm_M → Option qm_R} (hT : qe_G kp d (T_Ta_readNumber f_Ta_skipBlanks f_Ta_isBetween f_Ta_blame)) (h21 : ∀ (v1 : Int32) (v2 : Int32) (v3 : Int32) (v4 : Int32) (m : qm_M), qe_J kp md_Ta_readNumber d (l21 v1 v2 v3 v4 m) 21 [(0, .ref 43), (1, .int v1), (2, .int v2), (3, .int v3), (4, .int v4)] [] m) (h90 : ∀ (v1 : Int32) (v2 : Int32) (v3 : Int32) (v4 : Int32) (m : qm_M), qe_J kp md_Ta_readNumber d (l90 v1 v2 v3 v4 m) 90 [(0, .ref 43), (1, .int v1), (2, .int v2), (3, .int v3), (4, .int v4)] [] m) (v1 : Int32) (v2 : Int32) (v3 : Int32) (v4 : Int32) (m : qm_M) : qe_J kp md_Ta_readNumber d (X_Ta_readNumber_21 f_Ta_skipBlanks f_Ta_isBetween f_Ta_blame l21 l90 v1 v2 v3 v4 m) 21 [(0, .ref 43), (1, .int v1), (2, .int v2), (3, .int v3), (4, .int v4)] [] m := qe_run (B := [(21, [0, 1, 2, 3, 4], qp_ciiii_ 43 l21), (90, [0, 1, 2, 3, 4], qp_ciiii_ 43 l90)]) (n := 1000) hT (qe_B1 (qp_ciiii__ok h21) (qe_B1 (qp_ciiii__ok h90) qe_B0)) rfl
def L_Ta_readNumber_21 : Nat → Int32 → Int32 → Int32 → Int32 → qm_M → Option qm_R
  | 0, _, _, _, _, _ => none
  | n + 1, v1, v2, v3, v4, m => X_Ta_readNumber_21 F_Ta_skipBlanks F_Ta_isBetween F_Ta_blame (L_Ta_readNumber_21 n) (L_Ta_readNumber_90) v1 v2 v3 v4 m
theorem lg_Ta_readNumber_21 {kp : pm_K} {d : Nat} (hT : qe_G kp d (T_Ta_readNumber F_Ta_skipBlanks F_Ta_isBetween F_Ta_blame)) : ∀ (n : Nat) (v1 : Int32) (v2 : Int32) (v3 : Int32) (v4 : Int32) (m : qm_M), qe_J kp md_Ta_readNumber d (L_Ta_readNumber_21 n v1 v2 v3 v4 m) 21 [(0, .ref 43), (1, .int v1), (2, .int v2), (3, .int v3), (4, .int v4)] [] m
  | 0, v1, v2, v3, v4, m => qe_none rfl
  | n + 1, v1, v2, v3, v4, m => xg_Ta_readNumber_21 hT (lg_Ta_readNumber_21 hT n) (lg_Ta_readNumber_90 hT) v1 v2 v3 v4 m
def X_Ta_readNumber_e (f_Ta_skipBlanks : qm_M → Option qm_R) (f_Ta_isBetween : Int32 → Int32 → Int32 → qm_M → Option qm_R) (f_Ta_blame : Int32 → Int32 → qm_M → Option qm_R) (l21 : Int32 → Int32 → Int32 → Int32 → qm_M → Option qm_R) (v1 : Int32) (v2 : Int32) (m : qm_M) : Option qm_R :=
  if (m.1 43 4) = 0 then
    qe_rV (f_Ta_skipBlanks m) fun m1 =>
    l21 v1 v2 (m1.1 43 3) (0 : Int32) m1
  else
    some (some (.int (0 : Int32)), m)
set_option maxRecDepth 100000 in
theorem xg_Ta_readNumber_e {kp : pm_K} {d : Nat} {f_Ta_skipBlanks : qm_M → Option qm_R} {f_Ta_isBetween : Int32 → Int32 → Int32 → qm_M → Option qm_R} {f_Ta_blame : Int32 → Int32 → qm_M → Option qm_R} {l21 : Int32 → Int32 → Int32 → Int32 → qm_M → Option qm_R} (hT : qe_G kp d (T_Ta_readNumber f_Ta_skipBlanks f_Ta_isBetween f_Ta_blame)) (h21 : ∀ (v1 : Int32) (v2 : Int32) (v3 : Int32) (v4 : Int32) (m : qm_M), qe_J kp md_Ta_readNumber d (l21 v1 v2 v3 v4 m) 21 [(0, .ref 43), (1, .int v1), (2, .int v2), (3, .int v3), (4, .int v4)] [] m) (v1 : Int32) (v2 : Int32) (m : qm_M) : qe_J kp md_Ta_readNumber d (X_Ta_readNumber_e f_Ta_skipBlanks f_Ta_isBetween f_Ta_blame l21 v1 v2 m) 0 [(0, .ref 43), (1, .int v1), (2, .int v2)] [] m := qe_run (B := [(21, [0, 1, 2, 3, 4], qp_ciiii_ 43 l21)]) (n := 1000) hT (qe_B1 (qp_ciiii__ok h21) qe_B0) rfl
def F_Ta_readNumber (v1 : Int32) (v2 : Int32) (m : qm_M) : Option qm_R := X_Ta_readNumber_e F_Ta_skipBlanks F_Ta_isBetween F_Ta_blame (L_Ta_readNumber_21 1000000) v1 v2 m
theorem fj_Ta_readNumber {kp : pm_K} {d : Nat} (hT : qe_G kp d (T_Ta_readNumber F_Ta_skipBlanks F_Ta_isBetween F_Ta_blame)) (v1 : Int32) (v2 : Int32) (m : qm_M) : qe_J kp md_Ta_readNumber d (F_Ta_readNumber v1 v2 m) 0 [(0, .ref 43), (1, .int v1), (2, .int v2)] [] m := xg_Ta_readNumber_e hT (lg_Ta_readNumber_21 hT 1000000) v1 v2 m
theorem fg_Ta_readNumber {kp : pm_K} (d : Nat) : qe_GE kp (d + 2) (62, 0, 9, 1, qw_cii 43 F_Ta_readNumber) := qe_entry (by decide +kernel) (qw_cii_ok (d := d + 1) rfl rfl (fj_Ta_readNumber (qe_G1 (fg_Ta_skipBlanks (d + 0)) (qe_G1 (fg_Ta_isBetween (d + 0)) (qe_G1 (fg_Ta_blame (d + 0)) qe_G0)))))
/-! TurnField$Tape.readWord()V -/
noncomputable def T_Ta_readWord (f_Ta_isBetween : Int32 → Int32 → Int32 → qm_M → Option qm_R) : qe_T := [(61, 1, 0, 1, qw_iii f_Ta_isBetween)]
def X_Ta_readWord_0 (f_Ta_isBetween : Int32 → Int32 → Int32 → qm_M → Option qm_R) (l0 : qm_M → Option qm_R)  (m : qm_M) : Option qm_R :=
  if (m.1 43 3) < (m.1 43 2) then
    qe_b (qm_in (m.1 43 3) 120) (
    qe_rI (f_Ta_isBetween (m.1 44 (Int32.toNatClampNeg (m.1 43 3))) (97 : Int32) (122 : Int32) m) fun x1 m1 =>
    if x1 = 0 then
      some (none, m1)
    else
      let m2 : qm_M := qm_sI m1 43 3 ((m1.1 43 3) + (1 : Int32))
      l0 m2)
  else
    some (none, m)
set_option maxRecDepth 100000 in
theorem xg_Ta_readWord_0 {kp : pm_K} {d : Nat} {f_Ta_isBetween : Int32 → Int32 → Int32 → qm_M → Option qm_R} {l0 : qm_M → Option qm_R} (hT : qe_G kp d (T_Ta_readWord f_Ta_isBetween)) (h0 : ∀ (m : qm_M), qe_J kp md_Ta_readWord d (l0 m) 0 [(0, .ref 43)] [] m) (m : qm_M) : qe_J kp md_Ta_readWord d (X_Ta_readWord_0 f_Ta_isBetween l0 m) 0 [(0, .ref 43)] [] m := qe_run (B := [(0, [0], qp_c_ 43 l0)]) (n := 1000) hT (qe_B1 (qp_c__ok h0) qe_B0) rfl
def L_Ta_readWord_0 : Nat → qm_M → Option qm_R
  | 0, _ => none
  | n + 1, m => X_Ta_readWord_0 F_Ta_isBetween (L_Ta_readWord_0 n) m
theorem lg_Ta_readWord_0 {kp : pm_K} {d : Nat} (hT : qe_G kp d (T_Ta_readWord F_Ta_isBetween)) : ∀ (n : Nat) (m : qm_M), qe_J kp md_Ta_readWord d (L_Ta_readWord_0 n m) 0 [(0, .ref 43)] [] m
  | 0, m => qe_none rfl
  | n + 1, m => xg_Ta_readWord_0 hT (lg_Ta_readWord_0 hT n) m
def F_Ta_readWord (m : qm_M) : Option qm_R := (L_Ta_readWord_0 1000000) m
theorem fj_Ta_readWord {kp : pm_K} {d : Nat} (hT : qe_G kp d (T_Ta_readWord F_Ta_isBetween)) (m : qm_M) : qe_J kp md_Ta_readWord d (F_Ta_readWord m) 0 [(0, .ref 43)] [] m := qe_sub (by simp) ((lg_Ta_readWord_0 hT 1000000) m)
theorem fg_Ta_readWord {kp : pm_K} (d : Nat) : qe_GE kp (d + 2) (64, 0, 9, 0, qw_c 43 F_Ta_readWord) := qe_entry (by decide +kernel) (qw_c_ok (d := d + 1) rfl rfl (fj_Ta_readWord (qe_G1 (fg_Ta_isBetween (d + 0)) qe_G0)))
/-! TurnField$Tape.isWord(ILjava/lang/String;)Z -/
noncomputable def T_Ta_isWord (f_JS_length : Nat → qm_M → Option qm_R) (f_JS_charAt : Nat → Int32 → qm_M → Option qm_R) : qe_T := [(108, 3, 0, 1, qw_r f_JS_length), (109, 3, 0, 1, qw_ri f_JS_charAt)]
def X_Ta_isWord_17 (f_JS_length : Nat → qm_M → Option qm_R) (f_JS_charAt : Nat → Int32 → qm_M → Option qm_R) (l17 : Int32 → Nat → Int32 → qm_M → Option qm_R) (v1 : Int32) (v2 : Nat) (v3 : Int32) (m : qm_M) : Option qm_R :=
  qe_b (Nat.ble 1000010 v2 && Nat.ble v2 1000018) (
  qe_rI (f_JS_length v2 m) fun x1 m1 =>
  if v3 < x1 then
    qe_b (qm_in (v1 + v3) 120) (
    qe_b (Nat.ble 1000010 v2 && Nat.ble v2 1000018) (
    qe_rI (f_JS_charAt v2 v3 m1) fun x2 m2 =>
    if (m1.1 44 (Int32.toNatClampNeg (v1 + v3))) = x2 then
      l17 v1 v2 (v3 + (1 : Int32)) m2
    else
      some (some (.int (0 : Int32)), m2)))
  else
    some (some (.int (1 : Int32)), m1))
set_option maxRecDepth 100000 in
theorem xg_Ta_isWord_17 {kp : pm_K} {d : Nat} {f_JS_length : Nat → qm_M → Option qm_R} {f_JS_charAt : Nat → Int32 → qm_M → Option qm_R} {l17 : Int32 → Nat → Int32 → qm_M → Option qm_R} (hT : qe_G kp d (T_Ta_isWord f_JS_length f_JS_charAt)) (h17 : ∀ (v1 : Int32) (v2 : Nat) (v3 : Int32) (m : qm_M), qe_J kp md_Ta_isWord d (l17 v1 v2 v3 m) 17 [(0, .ref 43), (1, .int v1), (2, .ref v2), (3, .int v3)] [] m) (v1 : Int32) (v2 : Nat) (v3 : Int32) (m : qm_M) : qe_J kp md_Ta_isWord d (X_Ta_isWord_17 f_JS_length f_JS_charAt l17 v1 v2 v3 m) 17 [(0, .ref 43), (1, .int v1), (2, .ref v2), (3, .int v3)] [] m := qe_run (B := [(17, [0, 1, 2, 3], qp_ciri_ 43 l17)]) (n := 1000) hT (qe_B1 (qp_ciri__ok h17) qe_B0) rfl
def L_Ta_isWord_17 : Nat → Int32 → Nat → Int32 → qm_M → Option qm_R
  | 0, _, _, _, _ => none
  | n + 1, v1, v2, v3, m => X_Ta_isWord_17 F_JS_length F_JS_charAt (L_Ta_isWord_17 n) v1 v2 v3 m
theorem lg_Ta_isWord_17 {kp : pm_K} {d : Nat} (hT : qe_G kp d (T_Ta_isWord F_JS_length F_JS_charAt)) : ∀ (n : Nat) (v1 : Int32) (v2 : Nat) (v3 : Int32) (m : qm_M), qe_J kp md_Ta_isWord d (L_Ta_isWord_17 n v1 v2 v3 m) 17 [(0, .ref 43), (1, .int v1), (2, .ref v2), (3, .int v3)] [] m
  | 0, v1, v2, v3, m => qe_none rfl
  | n + 1, v1, v2, v3, m => xg_Ta_isWord_17 hT (lg_Ta_isWord_17 hT n) v1 v2 v3 m
def X_Ta_isWord_e (f_JS_length : Nat → qm_M → Option qm_R) (f_JS_charAt : Nat → Int32 → qm_M → Option qm_R) (l17 : Int32 → Nat → Int32 → qm_M → Option qm_R) (v1 : Int32) (v2 : Nat) (m : qm_M) : Option qm_R :=
  qe_b (Nat.ble 1000010 v2 && Nat.ble v2 1000018) (
  qe_rI (f_JS_length v2 m) fun x1 m1 =>
  if ((m.1 43 3) - v1) = x1 then
    l17 v1 v2 (0 : Int32) m1
  else
    some (some (.int (0 : Int32)), m1))
set_option maxRecDepth 100000 in
theorem xg_Ta_isWord_e {kp : pm_K} {d : Nat} {f_JS_length : Nat → qm_M → Option qm_R} {f_JS_charAt : Nat → Int32 → qm_M → Option qm_R} {l17 : Int32 → Nat → Int32 → qm_M → Option qm_R} (hT : qe_G kp d (T_Ta_isWord f_JS_length f_JS_charAt)) (h17 : ∀ (v1 : Int32) (v2 : Nat) (v3 : Int32) (m : qm_M), qe_J kp md_Ta_isWord d (l17 v1 v2 v3 m) 17 [(0, .ref 43), (1, .int v1), (2, .ref v2), (3, .int v3)] [] m) (v1 : Int32) (v2 : Nat) (m : qm_M) : qe_J kp md_Ta_isWord d (X_Ta_isWord_e f_JS_length f_JS_charAt l17 v1 v2 m) 0 [(0, .ref 43), (1, .int v1), (2, .ref v2)] [] m := qe_run (B := [(17, [0, 1, 2, 3], qp_ciri_ 43 l17)]) (n := 1000) hT (qe_B1 (qp_ciri__ok h17) qe_B0) rfl
def F_Ta_isWord (v1 : Int32) (v2 : Nat) (m : qm_M) : Option qm_R := X_Ta_isWord_e F_JS_length F_JS_charAt (L_Ta_isWord_17 1000000) v1 v2 m
theorem fj_Ta_isWord {kp : pm_K} {d : Nat} (hT : qe_G kp d (T_Ta_isWord F_JS_length F_JS_charAt)) (v1 : Int32) (v2 : Nat) (m : qm_M) : qe_J kp md_Ta_isWord d (F_Ta_isWord v1 v2 m) 0 [(0, .ref 43), (1, .int v1), (2, .ref v2)] [] m := xg_Ta_isWord_e hT (lg_Ta_isWord_17 hT 1000000) v1 v2 m
theorem fg_Ta_isWord {kp : pm_K} (d : Nat) : qe_GE kp (d + 5) (65, 0, 9, 1, qw_cir 43 F_Ta_isWord) := qe_entry (by decide +kernel) (qw_cir_ok (d := d + 4) rfl rfl (fj_Ta_isWord (qe_G1 (fg_JS_length (d + 2)) (qe_G1 (fg_JS_charAt (d + 0)) qe_G0))))
/-! TurnField$Tape.readKind()I -/
noncomputable def T_Ta_readKind (f_Ta_skipBlanks : qm_M → Option qm_R) (f_Ta_readWord : qm_M → Option qm_R) (f_Ta_isWord : Int32 → Nat → qm_M → Option qm_R) (f_Ta_blame : Int32 → Int32 → qm_M → Option qm_R) : qe_T := [(60, 0, 9, 0, qw_c 43 f_Ta_skipBlanks), (64, 0, 9, 0, qw_c 43 f_Ta_readWord), (65, 0, 9, 1, qw_cir 43 f_Ta_isWord), (59, 0, 9, 0, qw_cii 43 f_Ta_blame)]
def X_Ta_readKind_e (f_Ta_skipBlanks : qm_M → Option qm_R) (f_Ta_readWord : qm_M → Option qm_R) (f_Ta_isWord : Int32 → Nat → qm_M → Option qm_R) (f_Ta_blame : Int32 → Int32 → qm_M → Option qm_R)  (m : qm_M) : Option qm_R :=
  if (m.1 43 4) = 0 then
    qe_rV (f_Ta_skipBlanks m) fun m1 =>
    qe_rV (f_Ta_readWord m1) fun m2 =>
    qe_rI (f_Ta_isWord (m1.1 43 3) 1000010 m2) fun x1 m3 =>
    if x1 = 0 then
      qe_rI (f_Ta_isWord (m1.1 43 3) 1000011 m3) fun x2 m4 =>
      if x2 = 0 then
        qe_rI (f_Ta_isWord (m1.1 43 3) 1000012 m4) fun x3 m5 =>
        if x3 = 0 then
          qe_rI (f_Ta_isWord (m1.1 43 3) 1000013 m5) fun x4 m6 =>
          if x4 = 0 then
            qe_rV (f_Ta_blame (m1.1 43 3) (1 : Int32) m6) fun m7 =>
            some (some (.int (0 : Int32)), m7)
          else
            some (some (.int (3 : Int32)), m6)
        else
          some (some (.int (2 : Int32)), m5)
      else
        some (some (.int (1 : Int32)), m4)
    else
      some (some (.int (0 : Int32)), m3)
  else
    some (some (.int (0 : Int32)), m)
set_option maxRecDepth 100000 in
theorem xg_Ta_readKind_e {kp : pm_K} {d : Nat} {f_Ta_skipBlanks : qm_M → Option qm_R} {f_Ta_readWord : qm_M → Option qm_R} {f_Ta_isWord : Int32 → Nat → qm_M → Option qm_R} {f_Ta_blame : Int32 → Int32 → qm_M → Option qm_R} (hT : qe_G kp d (T_Ta_readKind f_Ta_skipBlanks f_Ta_readWord f_Ta_isWord f_Ta_blame)) (m : qm_M) : qe_J kp md_Ta_readKind d (X_Ta_readKind_e f_Ta_skipBlanks f_Ta_readWord f_Ta_isWord f_Ta_blame m) 0 [(0, .ref 43)] [] m := qe_run (B := []) (n := 1000) hT qe_B0 rfl
def F_Ta_readKind (m : qm_M) : Option qm_R := X_Ta_readKind_e F_Ta_skipBlanks F_Ta_readWord F_Ta_isWord F_Ta_blame m
theorem fj_Ta_readKind {kp : pm_K} {d : Nat} (hT : qe_G kp d (T_Ta_readKind F_Ta_skipBlanks F_Ta_readWord F_Ta_isWord F_Ta_blame)) (m : qm_M) : qe_J kp md_Ta_readKind d (F_Ta_readKind m) 0 [(0, .ref 43)] [] m := xg_Ta_readKind_e hT m
theorem fg_Ta_readKind {kp : pm_K} (d : Nat) : qe_GE kp (d + 6) (63, 0, 9, 1, qw_c 43 F_Ta_readKind) := qe_entry (by decide +kernel) (qw_c_ok (d := d + 5) rfl rfl (fj_Ta_readKind (qe_G1 (fg_Ta_skipBlanks (d + 4)) (qe_G1 (fg_Ta_readWord (d + 3)) (qe_G1 (fg_Ta_isWord (d + 0)) (qe_G1 (fg_Ta_blame (d + 4)) qe_G0))))))
/-! TurnField$Tape.readHeads()V -/
noncomputable def T_Ta_readHeads (f_Ta_readWord : qm_M → Option qm_R) (f_Ta_isWord : Int32 → Nat → qm_M → Option qm_R) (f_Ta_blame : Int32 → Int32 → qm_M → Option qm_R) (f_Ta_readNumber : Int32 → Int32 → qm_M → Option qm_R) (f_Ps_bitOf : Int32 → Int32 → qm_M → Option qm_R) : qe_T := [(64, 0, 9, 0, qw_c 43 f_Ta_readWord), (65, 0, 9, 1, qw_cir 43 f_Ta_isWord), (59, 0, 9, 0, qw_cii 43 f_Ta_blame), (62, 0, 9, 1, qw_cii 43 f_Ta_readNumber), (36, 1, 0, 2, qw_ii f_Ps_bitOf)]
def X_Ta_readHeads_25 (f_Ta_readWord : qm_M → Option qm_R) (f_Ta_isWord : Int32 → Nat → qm_M → Option qm_R) (f_Ta_blame : Int32 → Int32 → qm_M → Option qm_R) (f_Ta_readNumber : Int32 → Int32 → qm_M → Option qm_R) (f_Ps_bitOf : Int32 → Int32 → qm_M → Option qm_R)  (m : qm_M) : Option qm_R :=
  qe_rI (f_Ta_readNumber (0 : Int32) ((m.1 45 0) - (1 : Int32)) m) fun x1 m1 =>
  qe_rI (f_Ta_readNumber (0 : Int32) ((m1.1 45 1) - (1 : Int32)) m1) fun x2 m2 =>
  if (m2.1 43 4) = 0 then
    qe_rL (f_Ps_bitOf x1 x2 m2) fun x3 m3 =>
    let m4 : qm_M := qm_sL m3 45 6 ((m2.2 45 6) ||| x3)
    some (none, m4)
  else
    some (none, m2)
set_option maxRecDepth 100000 in
theorem xg_Ta_readHeads_25 {kp : pm_K} {d : Nat} {f_Ta_readWord : qm_M → Option qm_R} {f_Ta_isWord : Int32 → Nat → qm_M → Option qm_R} {f_Ta_blame : Int32 → Int32 → qm_M → Option qm_R} {f_Ta_readNumber : Int32 → Int32 → qm_M → Option qm_R} {f_Ps_bitOf : Int32 → Int32 → qm_M → Option qm_R} (hT : qe_G kp d (T_Ta_readHeads f_Ta_readWord f_Ta_isWord f_Ta_blame f_Ta_readNumber f_Ps_bitOf)) (m : qm_M) : qe_J kp md_Ta_readHeads d (X_Ta_readHeads_25 f_Ta_readWord f_Ta_isWord f_Ta_blame f_Ta_readNumber f_Ps_bitOf m) 25 [(0, .ref 43)] [] m := qe_run (B := []) (n := 1000) hT qe_B0 rfl
def L_Ta_readHeads_25  (m : qm_M) : Option qm_R := X_Ta_readHeads_25 F_Ta_readWord F_Ta_isWord F_Ta_blame F_Ta_readNumber F_Ps_bitOf m
theorem lg_Ta_readHeads_25 {kp : pm_K} {d : Nat} (hT : qe_G kp d (T_Ta_readHeads F_Ta_readWord F_Ta_isWord F_Ta_blame F_Ta_readNumber F_Ps_bitOf)) (m : qm_M) : qe_J kp md_Ta_readHeads d (L_Ta_readHeads_25 m) 25 [(0, .ref 43)] [] m := xg_Ta_readHeads_25 hT m
def X_Ta_readHeads_e (f_Ta_readWord : qm_M → Option qm_R) (f_Ta_isWord : Int32 → Nat → qm_M → Option qm_R) (f_Ta_blame : Int32 → Int32 → qm_M → Option qm_R) (f_Ta_readNumber : Int32 → Int32 → qm_M → Option qm_R) (f_Ps_bitOf : Int32 → Int32 → qm_M → Option qm_R) (l25 : qm_M → Option qm_R)  (m : qm_M) : Option qm_R :=
  qe_rV (f_Ta_readWord m) fun m1 =>
  qe_rI (f_Ta_isWord (m.1 43 3) 1000014 m1) fun x1 m2 =>
  if x1 = 0 then
    qe_rV (f_Ta_blame (m.1 43 3) (1 : Int32) m2) fun m3 =>
    l25 m3
  else
    l25 m2
set_option maxRecDepth 100000 in
theorem xg_Ta_readHeads_e {kp : pm_K} {d : Nat} {f_Ta_readWord : qm_M → Option qm_R} {f_Ta_isWord : Int32 → Nat → qm_M → Option qm_R} {f_Ta_blame : Int32 → Int32 → qm_M → Option qm_R} {f_Ta_readNumber : Int32 → Int32 → qm_M → Option qm_R} {f_Ps_bitOf : Int32 → Int32 → qm_M → Option qm_R} {l25 : qm_M → Option qm_R} (hT : qe_G kp d (T_Ta_readHeads f_Ta_readWord f_Ta_isWord f_Ta_blame f_Ta_readNumber f_Ps_bitOf)) (h25 : ∀ (m : qm_M), qe_J kp md_Ta_readHeads d (l25 m) 25 [(0, .ref 43)] [] m) (m : qm_M) : qe_J kp md_Ta_readHeads d (X_Ta_readHeads_e f_Ta_readWord f_Ta_isWord f_Ta_blame f_Ta_readNumber f_Ps_bitOf l25 m) 0 [(0, .ref 43)] [] m := qe_run (B := [(25, [0], qp_c_ 43 l25)]) (n := 1000) hT (qe_B1 (qp_c__ok h25) qe_B0) rfl
def F_Ta_readHeads (m : qm_M) : Option qm_R := X_Ta_readHeads_e F_Ta_readWord F_Ta_isWord F_Ta_blame F_Ta_readNumber F_Ps_bitOf (L_Ta_readHeads_25) m
theorem fj_Ta_readHeads {kp : pm_K} {d : Nat} (hT : qe_G kp d (T_Ta_readHeads F_Ta_readWord F_Ta_isWord F_Ta_blame F_Ta_readNumber F_Ps_bitOf)) (m : qm_M) : qe_J kp md_Ta_readHeads d (F_Ta_readHeads m) 0 [(0, .ref 43)] [] m := xg_Ta_readHeads_e hT (lg_Ta_readHeads_25 hT) m
theorem fg_Ta_readHeads {kp : pm_K} (d : Nat) : qe_GE kp (d + 6) (58, 0, 9, 0, qw_c 43 F_Ta_readHeads) := qe_entry (by decide +kernel) (qw_c_ok (d := d + 5) rfl rfl (fj_Ta_readHeads (qe_G1 (fg_Ta_readWord (d + 3)) (qe_G1 (fg_Ta_isWord (d + 0)) (qe_G1 (fg_Ta_blame (d + 4)) (qe_G1 (fg_Ta_readNumber (d + 3)) (qe_G1 (fg_Ps_bitOf (d + 4)) qe_G0)))))))
/-! TurnField$Tape.read()I -/
noncomputable def T_Ta_read (f_Ta_readNumber : Int32 → Int32 → qm_M → Option qm_R) (f_Ta_readKind : qm_M → Option qm_R) (f_Ta_skipBlanks : qm_M → Option qm_R) (f_Ta_readHeads : qm_M → Option qm_R) : qe_T := [(62, 0, 9, 1, qw_cii 43 f_Ta_readNumber), (63, 0, 9, 1, qw_c 43 f_Ta_readKind), (60, 0, 9, 0, qw_c 43 f_Ta_skipBlanks), (58, 0, 9, 0, qw_c 43 f_Ta_readHeads)]
def X_Ta_read_98 (f_Ta_readNumber : Int32 → Int32 → qm_M → Option qm_R) (f_Ta_readKind : qm_M → Option qm_R) (f_Ta_skipBlanks : qm_M → Option qm_R) (f_Ta_readHeads : qm_M → Option qm_R) (l98 : Int32 → qm_M → Option qm_R) (v1 : Int32) (m : qm_M) : Option qm_R :=
  if v1 < (120 : Int32) then
    if (m.1 43 4) = 0 then
      qe_rV (f_Ta_skipBlanks m) fun m1 =>
      if (m1.1 43 3) < (m1.1 43 2) then
        qe_rV (f_Ta_readHeads m1) fun m2 =>
        l98 (v1 + (1 : Int32)) m2
      else
        some (some (.int (0 : Int32)), m1)
    else
      some (some (.int (m.1 43 4)), m)
  else
    some (some (.int (m.1 43 4)), m)
set_option maxRecDepth 100000 in
theorem xg_Ta_read_98 {kp : pm_K} {d : Nat} {f_Ta_readNumber : Int32 → Int32 → qm_M → Option qm_R} {f_Ta_readKind : qm_M → Option qm_R} {f_Ta_skipBlanks : qm_M → Option qm_R} {f_Ta_readHeads : qm_M → Option qm_R} {l98 : Int32 → qm_M → Option qm_R} (hT : qe_G kp d (T_Ta_read f_Ta_readNumber f_Ta_readKind f_Ta_skipBlanks f_Ta_readHeads)) (h98 : ∀ (v1 : Int32) (m : qm_M), qe_J kp md_Ta_read d (l98 v1 m) 98 [(0, .ref 43), (1, .int v1)] [] m) (v1 : Int32) (m : qm_M) : qe_J kp md_Ta_read d (X_Ta_read_98 f_Ta_readNumber f_Ta_readKind f_Ta_skipBlanks f_Ta_readHeads l98 v1 m) 98 [(0, .ref 43), (1, .int v1)] [] m := qe_run (B := [(98, [0, 1], qp_ci_ 43 l98)]) (n := 1000) hT (qe_B1 (qp_ci__ok h98) qe_B0) rfl
def L_Ta_read_98 : Nat → Int32 → qm_M → Option qm_R
  | 0, _, _ => none
  | n + 1, v1, m => X_Ta_read_98 F_Ta_readNumber F_Ta_readKind F_Ta_skipBlanks F_Ta_readHeads (L_Ta_read_98 n) v1 m
theorem lg_Ta_read_98 {kp : pm_K} {d : Nat} (hT : qe_G kp d (T_Ta_read F_Ta_readNumber F_Ta_readKind F_Ta_skipBlanks F_Ta_readHeads)) : ∀ (n : Nat) (v1 : Int32) (m : qm_M), qe_J kp md_Ta_read d (L_Ta_read_98 n v1 m) 98 [(0, .ref 43), (1, .int v1)] [] m
  | 0, v1, m => qe_none rfl
  | n + 1, v1, m => xg_Ta_read_98 hT (lg_Ta_read_98 hT n) v1 m
def X_Ta_read_e (f_Ta_readNumber : Int32 → Int32 → qm_M → Option qm_R) (f_Ta_readKind : qm_M → Option qm_R) (f_Ta_skipBlanks : qm_M → Option qm_R) (f_Ta_readHeads : qm_M → Option qm_R) (l98 : Int32 → qm_M → Option qm_R)  (m : qm_M) : Option qm_R :=
  let m1 : qm_M := qm_sI m 43 3 (0 : Int32)
  let m2 : qm_M := qm_sI m1 43 4 (0 : Int32)
  qe_rI (f_Ta_readNumber (1 : Int32) (6 : Int32) m2) fun x1 m3 =>
  let m4 : qm_M := qm_sI m3 45 0 x1
  qe_rI (f_Ta_readKind m4) fun x2 m5 =>
  let m6 : qm_M := qm_sI m5 45 2 x2
  qe_rI (f_Ta_readNumber (1 : Int32) (8 : Int32) m6) fun x3 m7 =>
  let m8 : qm_M := qm_sI m7 45 4 x3
  qe_rI (f_Ta_readNumber (1 : Int32) (6 : Int32) m8) fun x4 m9 =>
  let m10 : qm_M := qm_sI m9 45 1 x4
  qe_rI (f_Ta_readKind m10) fun x5 m11 =>
  let m12 : qm_M := qm_sI m11 45 3 x5
  qe_rI (f_Ta_readNumber (1 : Int32) (8 : Int32) m12) fun x6 m13 =>
  let m14 : qm_M := qm_sI m13 45 5 x6
  let m15 : qm_M := qm_sL m14 45 6 (0 : Int64)
  l98 (0 : Int32) m15
set_option maxRecDepth 100000 in
theorem xg_Ta_read_e {kp : pm_K} {d : Nat} {f_Ta_readNumber : Int32 → Int32 → qm_M → Option qm_R} {f_Ta_readKind : qm_M → Option qm_R} {f_Ta_skipBlanks : qm_M → Option qm_R} {f_Ta_readHeads : qm_M → Option qm_R} {l98 : Int32 → qm_M → Option qm_R} (hT : qe_G kp d (T_Ta_read f_Ta_readNumber f_Ta_readKind f_Ta_skipBlanks f_Ta_readHeads)) (h98 : ∀ (v1 : Int32) (m : qm_M), qe_J kp md_Ta_read d (l98 v1 m) 98 [(0, .ref 43), (1, .int v1)] [] m) (m : qm_M) : qe_J kp md_Ta_read d (X_Ta_read_e f_Ta_readNumber f_Ta_readKind f_Ta_skipBlanks f_Ta_readHeads l98 m) 0 [(0, .ref 43)] [] m := qe_run (B := [(98, [0, 1], qp_ci_ 43 l98)]) (n := 1000) hT (qe_B1 (qp_ci__ok h98) qe_B0) rfl
def F_Ta_read (m : qm_M) : Option qm_R := X_Ta_read_e F_Ta_readNumber F_Ta_readKind F_Ta_skipBlanks F_Ta_readHeads (L_Ta_read_98 1000000) m
theorem fj_Ta_read {kp : pm_K} {d : Nat} (hT : qe_G kp d (T_Ta_read F_Ta_readNumber F_Ta_readKind F_Ta_skipBlanks F_Ta_readHeads)) (m : qm_M) : qe_J kp md_Ta_read d (F_Ta_read m) 0 [(0, .ref 43)] [] m := xg_Ta_read_e hT (lg_Ta_read_98 hT 1000000) m
theorem fg_Ta_read {kp : pm_K} (d : Nat) : qe_GE kp (d + 7) (57, 0, 9, 1, qw_c 43 F_Ta_read) := qe_entry (by decide +kernel) (qw_c_ok (d := d + 6) rfl rfl (fj_Ta_read (qe_G1 (fg_Ta_readNumber (d + 4)) (qe_G1 (fg_Ta_readKind (d + 0)) (qe_G1 (fg_Ta_skipBlanks (d + 5)) (qe_G1 (fg_Ta_readHeads (d + 0)) qe_G0))))))
