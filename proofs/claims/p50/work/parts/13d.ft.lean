/-! TurnField.feed(IIIII)I -/
noncomputable def T_T_feed (f_Ta_hasRoom : Int32 → qm_M → Option qm_R) (f_Ta_append : Int32 → qm_M → Option qm_R) : qe_T := [(55, 0, 9, 1, qw_ci 43 f_Ta_hasRoom), (56, 0, 9, 0, qw_ci 43 f_Ta_append)]
def X_T_feed_e (f_Ta_hasRoom : Int32 → qm_M → Option qm_R) (f_Ta_append : Int32 → qm_M → Option qm_R) (v1 : Int32) (v2 : Int32) (v3 : Int32) (v4 : Int32) (v5 : Int32) (m : qm_M) : Option qm_R :=
  qe_rI (f_Ta_hasRoom (20 : Int32) m) fun x1 m1 =>
  if x1 = 0 then
    some (some (.int (-1 : Int32)), m1)
  else
    qe_rV (f_Ta_append v1 m1) fun m2 =>
    qe_rV (f_Ta_append v2 m2) fun m3 =>
    qe_rV (f_Ta_append v3 m3) fun m4 =>
    qe_rV (f_Ta_append v4 m4) fun m5 =>
    qe_rV (f_Ta_append v5 m5) fun m6 =>
    some (some (.int (m6.1 43 2)), m6)
set_option maxRecDepth 100000 in
theorem xg_T_feed_e {kp : pm_K} {d : Nat} {f_Ta_hasRoom : Int32 → qm_M → Option qm_R} {f_Ta_append : Int32 → qm_M → Option qm_R} (hT : qe_G kp d (T_T_feed f_Ta_hasRoom f_Ta_append)) (v1 : Int32) (v2 : Int32) (v3 : Int32) (v4 : Int32) (v5 : Int32) (m : qm_M) : qe_J kp md_T_feed d (X_T_feed_e f_Ta_hasRoom f_Ta_append v1 v2 v3 v4 v5 m) 0 [(0, .ref 0), (1, .int v1), (2, .int v2), (3, .int v3), (4, .int v4), (5, .int v5)] [] m := qe_run (B := []) (n := 1000) hT qe_B0 rfl
def F_T_feed (v1 : Int32) (v2 : Int32) (v3 : Int32) (v4 : Int32) (v5 : Int32) (m : qm_M) : Option qm_R := X_T_feed_e F_Ta_hasRoom F_Ta_append v1 v2 v3 v4 v5 m
theorem fj_T_feed {kp : pm_K} {d : Nat} (hT : qe_G kp d (T_T_feed F_Ta_hasRoom F_Ta_append)) (v1 : Int32) (v2 : Int32) (v3 : Int32) (v4 : Int32) (v5 : Int32) (m : qm_M) : qe_J kp md_T_feed d (F_T_feed v1 v2 v3 v4 v5 m) 0 [(0, .ref 0), (1, .int v1), (2, .int v2), (3, .int v3), (4, .int v4), (5, .int v5)] [] m := xg_T_feed_e hT v1 v2 v3 v4 v5 m
theorem fg_T_feed {kp : pm_K} (d : Nat) : qe_GE kp (d + 2) (67, 0, 10, 1, qw_ciiiii 0 F_T_feed) := qe_entry (by decide +kernel) (qw_ciiiii_ok (d := d + 1) rfl rfl (fj_T_feed (qe_G1 (fg_Ta_hasRoom (d + 0)) (qe_G1 (fg_Ta_append (d + 0)) qe_G0))))
/-! TurnField.end(I)I -/
noncomputable def T_T_end : qe_T := []
def X_T_end_e (v1 : Int32) (m : qm_M) : Option qm_R :=
  if v1 < 0 then
    some (some (.int (-1 : Int32)), m)
  else
    if (m.1 43 2) < v1 then
      some (some (.int (-1 : Int32)), m)
    else
      let m1 : qm_M := qm_sI m 43 2 v1
      some (some (.int v1), m1)
set_option maxRecDepth 100000 in
theorem xg_T_end_e {kp : pm_K} {d : Nat} (hT : qe_G kp d (T_T_end)) (v1 : Int32) (m : qm_M) : qe_J kp md_T_end d (X_T_end_e v1 m) 0 [(0, .ref 0), (1, .int v1)] [] m := qe_run (B := []) (n := 1000) hT qe_B0 rfl
def F_T_end (v1 : Int32) (m : qm_M) : Option qm_R := X_T_end_e v1 m
theorem fj_T_end {kp : pm_K} {d : Nat} (hT : qe_G kp d (T_T_end)) (v1 : Int32) (m : qm_M) : qe_J kp md_T_end d (F_T_end v1 m) 0 [(0, .ref 0), (1, .int v1)] [] m := xg_T_end_e hT v1 m
theorem fg_T_end {kp : pm_K} (d : Nat) : qe_GE kp (d + 1) (68, 0, 10, 1, qw_ci 0 F_T_end) := qe_entry (by decide +kernel) (qw_ci_ok (d := d + 0) rfl rfl (fj_T_end qe_G0))
/-! TurnField.tell()I -/
noncomputable def T_T_tell (f_Ta_read : qm_M → Option qm_R) (f_Pa_push : qm_M → Option qm_R) (f_Ps_becomeBoard : Nat → Nat → qm_M → Option qm_R) (f_Ps_headsShown : Nat → qm_M → Option qm_R) : qe_T := [(57, 0, 9, 1, qw_c 43 f_Ta_read), (16, 0, 2, 0, qw_cc 4 1 f_Pa_push), (33, 0, 5, 0, qw_rr f_Ps_becomeBoard), (39, 0, 5, 1, qw_r f_Ps_headsShown)]
def X_T_tell_e (f_Ta_read : qm_M → Option qm_R) (f_Pa_push : qm_M → Option qm_R) (f_Ps_becomeBoard : Nat → Nat → qm_M → Option qm_R) (f_Ps_headsShown : Nat → qm_M → Option qm_R)  (m : qm_M) : Option qm_R :=
  qe_rI (f_Ta_read m) fun x1 m1 =>
  let m2 : qm_M := qm_sI m1 43 2 (0 : Int32)
  if x1 = 0 then
    qe_rV (f_Pa_push m2) fun m3 =>
    qe_rV (f_Ps_becomeBoard 1 45 m3) fun m4 =>
    qe_rI (f_Ps_headsShown 1 m4) fun x2 m5 =>
    some (some (.int x2), m5)
  else
    some (some (.int ((-2 : Int32) - x1)), m2)
set_option maxRecDepth 100000 in
theorem xg_T_tell_e {kp : pm_K} {d : Nat} {f_Ta_read : qm_M → Option qm_R} {f_Pa_push : qm_M → Option qm_R} {f_Ps_becomeBoard : Nat → Nat → qm_M → Option qm_R} {f_Ps_headsShown : Nat → qm_M → Option qm_R} (hT : qe_G kp d (T_T_tell f_Ta_read f_Pa_push f_Ps_becomeBoard f_Ps_headsShown)) (m : qm_M) : qe_J kp md_T_tell d (X_T_tell_e f_Ta_read f_Pa_push f_Ps_becomeBoard f_Ps_headsShown m) 0 [(0, .ref 0)] [] m := qe_run (B := []) (n := 1000) hT qe_B0 rfl
def F_T_tell (m : qm_M) : Option qm_R := X_T_tell_e F_Ta_read F_Pa_push F_Ps_becomeBoard F_Ps_headsShown m
theorem fj_T_tell {kp : pm_K} {d : Nat} (hT : qe_G kp d (T_T_tell F_Ta_read F_Pa_push F_Ps_becomeBoard F_Ps_headsShown)) (m : qm_M) : qe_J kp md_T_tell d (F_T_tell m) 0 [(0, .ref 0)] [] m := xg_T_tell_e hT m
theorem fg_T_tell {kp : pm_K} (d : Nat) : qe_GE kp (d + 8) (69, 0, 10, 1, qw_c 0 F_T_tell) := qe_entry (by decide +kernel) (qw_c_ok (d := d + 7) rfl rfl (fj_T_tell (qe_G1 (fg_Ta_read (d + 0)) (qe_G1 (fg_Pa_push (d + 4)) (qe_G1 (fg_Ps_becomeBoard (d + 6)) (qe_G1 (fg_Ps_headsShown (d + 5)) qe_G0))))))
/-! TurnField.turn(II)I -/
noncomputable def T_T_turn (f_Ps_hasCell : Nat → Int32 → Int32 → qm_M → Option qm_R) (f_Pa_push : qm_M → Option qm_R) (f_Ps_bitOf : Int32 → Int32 → qm_M → Option qm_R) (f_Ps_headsShown : Nat → qm_M → Option qm_R) : qe_T := [(35, 0, 5, 1, qw_rii f_Ps_hasCell), (16, 0, 2, 0, qw_cc 4 1 f_Pa_push), (36, 1, 0, 2, qw_ii f_Ps_bitOf), (39, 0, 5, 1, qw_r f_Ps_headsShown)]
def X_T_turn_e (f_Ps_hasCell : Nat → Int32 → Int32 → qm_M → Option qm_R) (f_Pa_push : qm_M → Option qm_R) (f_Ps_bitOf : Int32 → Int32 → qm_M → Option qm_R) (f_Ps_headsShown : Nat → qm_M → Option qm_R) (v1 : Int32) (v2 : Int32) (m : qm_M) : Option qm_R :=
  qe_rI (f_Ps_hasCell 1 v1 v2 m) fun x1 m1 =>
  if x1 = 0 then
    some (some (.int (-1 : Int32)), m1)
  else
    qe_rV (f_Pa_push m1) fun m2 =>
    qe_rL (f_Ps_bitOf v1 v2 m2) fun x2 m3 =>
    let m4 : qm_M := qm_sL m3 1 6 ((m2.2 1 6) ^^^ x2)
    qe_rI (f_Ps_headsShown 1 m4) fun x3 m5 =>
    some (some (.int x3), m5)
set_option maxRecDepth 100000 in
theorem xg_T_turn_e {kp : pm_K} {d : Nat} {f_Ps_hasCell : Nat → Int32 → Int32 → qm_M → Option qm_R} {f_Pa_push : qm_M → Option qm_R} {f_Ps_bitOf : Int32 → Int32 → qm_M → Option qm_R} {f_Ps_headsShown : Nat → qm_M → Option qm_R} (hT : qe_G kp d (T_T_turn f_Ps_hasCell f_Pa_push f_Ps_bitOf f_Ps_headsShown)) (v1 : Int32) (v2 : Int32) (m : qm_M) : qe_J kp md_T_turn d (X_T_turn_e f_Ps_hasCell f_Pa_push f_Ps_bitOf f_Ps_headsShown v1 v2 m) 0 [(0, .ref 0), (1, .int v1), (2, .int v2)] [] m := qe_run (B := []) (n := 1000) hT qe_B0 rfl
def F_T_turn (v1 : Int32) (v2 : Int32) (m : qm_M) : Option qm_R := X_T_turn_e F_Ps_hasCell F_Pa_push F_Ps_bitOf F_Ps_headsShown v1 v2 m
theorem fj_T_turn {kp : pm_K} {d : Nat} (hT : qe_G kp d (T_T_turn F_Ps_hasCell F_Pa_push F_Ps_bitOf F_Ps_headsShown)) (v1 : Int32) (v2 : Int32) (m : qm_M) : qe_J kp md_T_turn d (F_T_turn v1 v2 m) 0 [(0, .ref 0), (1, .int v1), (2, .int v2)] [] m := xg_T_turn_e hT v1 v2 m
theorem fg_T_turn {kp : pm_K} (d : Nat) : qe_GE kp (d + 4) (70, 0, 10, 1, qw_cii 0 F_T_turn) := qe_entry (by decide +kernel) (qw_cii_ok (d := d + 3) rfl rfl (fj_T_turn (qe_G1 (fg_Ps_hasCell (d + 2)) (qe_G1 (fg_Pa_push (d + 0)) (qe_G1 (fg_Ps_bitOf (d + 2)) (qe_G1 (fg_Ps_headsShown (d + 1)) qe_G0))))))
/-! TurnField.played(II)I -/
noncomputable def T_T_played (f_Pa_push : qm_M → Option qm_R) (f_Ps_bitsOf : Int32 → Int32 → qm_M → Option qm_R) (f_Ps_headsShown : Nat → qm_M → Option qm_R) : qe_T := [(16, 0, 2, 0, qw_cc 4 1 f_Pa_push), (37, 1, 0, 2, qw_ii f_Ps_bitsOf), (39, 0, 5, 1, qw_r f_Ps_headsShown)]
def X_T_played_e (f_Pa_push : qm_M → Option qm_R) (f_Ps_bitsOf : Int32 → Int32 → qm_M → Option qm_R) (f_Ps_headsShown : Nat → qm_M → Option qm_R) (v1 : Int32) (v2 : Int32) (m : qm_M) : Option qm_R :=
  qe_rV (f_Pa_push m) fun m1 =>
  qe_rL (f_Ps_bitsOf v1 v2 m1) fun x1 m2 =>
  let m3 : qm_M := qm_sL m2 1 6 ((m1.2 1 6) ^^^ x1)
  qe_rI (f_Ps_headsShown 1 m3) fun x2 m4 =>
  some (some (.int x2), m4)
set_option maxRecDepth 100000 in
theorem xg_T_played_e {kp : pm_K} {d : Nat} {f_Pa_push : qm_M → Option qm_R} {f_Ps_bitsOf : Int32 → Int32 → qm_M → Option qm_R} {f_Ps_headsShown : Nat → qm_M → Option qm_R} (hT : qe_G kp d (T_T_played f_Pa_push f_Ps_bitsOf f_Ps_headsShown)) (v1 : Int32) (v2 : Int32) (m : qm_M) : qe_J kp md_T_played d (X_T_played_e f_Pa_push f_Ps_bitsOf f_Ps_headsShown v1 v2 m) 0 [(0, .ref 0), (1, .int v1), (2, .int v2)] [] m := qe_run (B := []) (n := 1000) hT qe_B0 rfl
def F_T_played (v1 : Int32) (v2 : Int32) (m : qm_M) : Option qm_R := X_T_played_e F_Pa_push F_Ps_bitsOf F_Ps_headsShown v1 v2 m
theorem fj_T_played {kp : pm_K} {d : Nat} (hT : qe_G kp d (T_T_played F_Pa_push F_Ps_bitsOf F_Ps_headsShown)) (v1 : Int32) (v2 : Int32) (m : qm_M) : qe_J kp md_T_played d (F_T_played v1 v2 m) 0 [(0, .ref 0), (1, .int v1), (2, .int v2)] [] m := xg_T_played_e hT v1 v2 m
theorem fg_T_played {kp : pm_K} (d : Nat) : qe_GE kp (d + 4) (72, 0, 10, 1, qw_cii 0 F_T_played) := qe_entry (by decide +kernel) (qw_cii_ok (d := d + 3) rfl rfl (fj_T_played (qe_G1 (fg_Pa_push (d + 0)) (qe_G1 (fg_Ps_bitsOf (d + 2)) (qe_G1 (fg_Ps_headsShown (d + 1)) qe_G0)))))
/-! TurnField.play(II)I -/
noncomputable def T_T_play (f_Pl_tune : qm_M → Option qm_R) (f_Pl_mayBe : Int32 → Int32 → qm_M → Option qm_R) (f_T_played : Int32 → Int32 → qm_M → Option qm_R) : qe_T := [(20, 0, 3, 0, qw_cc 48 1 f_Pl_tune), (27, 0, 3, 1, qw_ccii 48 1 f_Pl_mayBe), (72, 0, 10, 1, qw_cii 0 f_T_played)]
def X_T_play_e (f_Pl_tune : qm_M → Option qm_R) (f_Pl_mayBe : Int32 → Int32 → qm_M → Option qm_R) (f_T_played : Int32 → Int32 → qm_M → Option qm_R) (v1 : Int32) (v2 : Int32) (m : qm_M) : Option qm_R :=
  if 0 < v1 then
    if 0 < v2 then
      if v1 < (qo_ishl (1 : Int32) (m.1 1 0)) then
        if v2 < (qo_ishl (1 : Int32) (m.1 1 1)) then
          qe_rV (f_Pl_tune m) fun m1 =>
          qe_rI (f_Pl_mayBe v1 v2 m1) fun x1 m2 =>
          if x1 = 0 then
            some (some (.int (-2 : Int32)), m2)
          else
            qe_rI (f_T_played v1 v2 m2) fun x2 m3 =>
            some (some (.int x2), m3)
        else
          some (some (.int (-1 : Int32)), m)
      else
        some (some (.int (-1 : Int32)), m)
    else
      some (some (.int (-1 : Int32)), m)
  else
    some (some (.int (-1 : Int32)), m)
set_option maxRecDepth 100000 in
theorem xg_T_play_e {kp : pm_K} {d : Nat} {f_Pl_tune : qm_M → Option qm_R} {f_Pl_mayBe : Int32 → Int32 → qm_M → Option qm_R} {f_T_played : Int32 → Int32 → qm_M → Option qm_R} (hT : qe_G kp d (T_T_play f_Pl_tune f_Pl_mayBe f_T_played)) (v1 : Int32) (v2 : Int32) (m : qm_M) : qe_J kp md_T_play d (X_T_play_e f_Pl_tune f_Pl_mayBe f_T_played v1 v2 m) 0 [(0, .ref 0), (1, .int v1), (2, .int v2)] [] m := qe_run (B := []) (n := 1000) hT qe_B0 rfl
def F_T_play (v1 : Int32) (v2 : Int32) (m : qm_M) : Option qm_R := X_T_play_e F_Pl_tune F_Pl_mayBe F_T_played v1 v2 m
theorem fj_T_play {kp : pm_K} {d : Nat} (hT : qe_G kp d (T_T_play F_Pl_tune F_Pl_mayBe F_T_played)) (v1 : Int32) (v2 : Int32) (m : qm_M) : qe_J kp md_T_play d (F_T_play v1 v2 m) 0 [(0, .ref 0), (1, .int v1), (2, .int v2)] [] m := xg_T_play_e hT v1 v2 m
theorem fg_T_play {kp : pm_K} (d : Nat) : qe_GE kp (d + 35) (71, 0, 10, 1, qw_cii 0 F_T_play) := qe_entry (by decide +kernel) (qw_cii_ok (d := d + 34) rfl rfl (fj_T_play (qe_G1 (fg_Pl_tune (d + 0)) (qe_G1 (fg_Pl_mayBe (d + 30)) (qe_G1 (fg_T_played (d + 30)) qe_G0)))))
/-! TurnField.answer()I -/
noncomputable def T_T_answer (f_Pl_tune : qm_M → Option qm_R) (f_Pl_find : Int32 → Int32 → qm_M → Option qm_R) (f_T_played : Int32 → Int32 → qm_M → Option qm_R) : qe_T := [(20, 0, 3, 0, qw_cc 48 1 f_Pl_tune), (29, 0, 3, 1, qw_ccii 48 1 f_Pl_find), (72, 0, 10, 1, qw_cii 0 f_T_played)]
def X_T_answer_56 (f_Pl_tune : qm_M → Option qm_R) (f_Pl_find : Int32 → Int32 → qm_M → Option qm_R) (f_T_played : Int32 → Int32 → qm_M → Option qm_R) (v1 : Int32) (m : qm_M) : Option qm_R :=
  qe_rI (f_T_played (m.1 48 4) (m.1 48 5) m) fun x1 m1 =>
  some (some (.int v1), m1)
set_option maxRecDepth 100000 in
theorem xg_T_answer_56 {kp : pm_K} {d : Nat} {f_Pl_tune : qm_M → Option qm_R} {f_Pl_find : Int32 → Int32 → qm_M → Option qm_R} {f_T_played : Int32 → Int32 → qm_M → Option qm_R} (hT : qe_G kp d (T_T_answer f_Pl_tune f_Pl_find f_T_played)) (v1 : Int32) (m : qm_M) : qe_J kp md_T_answer d (X_T_answer_56 f_Pl_tune f_Pl_find f_T_played v1 m) 56 [(0, .ref 0), (1, .int v1)] [] m := qe_run (B := []) (n := 1000) hT qe_B0 rfl
def L_T_answer_56 (v1 : Int32) (m : qm_M) : Option qm_R := X_T_answer_56 F_Pl_tune F_Pl_find F_T_played v1 m
theorem lg_T_answer_56 {kp : pm_K} {d : Nat} (hT : qe_G kp d (T_T_answer F_Pl_tune F_Pl_find F_T_played)) (v1 : Int32) (m : qm_M) : qe_J kp md_T_answer d (L_T_answer_56 v1 m) 56 [(0, .ref 0), (1, .int v1)] [] m := xg_T_answer_56 hT v1 m
def X_T_answer_32 (f_Pl_tune : qm_M → Option qm_R) (f_Pl_find : Int32 → Int32 → qm_M → Option qm_R) (f_T_played : Int32 → Int32 → qm_M → Option qm_R) (l56 : Int32 → qm_M → Option qm_R) (s0 : Int32) (m : qm_M) : Option qm_R :=
  if s0 = 0 then
    qe_rI (f_Pl_find (0 : Int32) (0 : Int32) m) fun x1 m1 =>
    if x1 = 0 then
      some (some (.int (-2 : Int32)), m1)
    else
      l56 s0 m1
  else
    l56 s0 m
set_option maxRecDepth 100000 in
theorem xg_T_answer_32 {kp : pm_K} {d : Nat} {f_Pl_tune : qm_M → Option qm_R} {f_Pl_find : Int32 → Int32 → qm_M → Option qm_R} {f_T_played : Int32 → Int32 → qm_M → Option qm_R} {l56 : Int32 → qm_M → Option qm_R} (hT : qe_G kp d (T_T_answer f_Pl_tune f_Pl_find f_T_played)) (h56 : ∀ (v1 : Int32) (m : qm_M), qe_J kp md_T_answer d (l56 v1 m) 56 [(0, .ref 0), (1, .int v1)] [] m) (s0 : Int32) (m : qm_M) : qe_J kp md_T_answer d (X_T_answer_32 f_Pl_tune f_Pl_find f_T_played l56 s0 m) 32 [(0, .ref 0)] [.int s0] m := qe_run (B := [(56, [0, 1], qp_ci_ 0 l56)]) (n := 1000) hT (qe_B1 (qp_ci__ok h56) qe_B0) rfl
def L_T_answer_32 (s0 : Int32) (m : qm_M) : Option qm_R := X_T_answer_32 F_Pl_tune F_Pl_find F_T_played (L_T_answer_56) s0 m
theorem lg_T_answer_32 {kp : pm_K} {d : Nat} (hT : qe_G kp d (T_T_answer F_Pl_tune F_Pl_find F_T_played)) (s0 : Int32) (m : qm_M) : qe_J kp md_T_answer d (L_T_answer_32 s0 m) 32 [(0, .ref 0)] [.int s0] m := xg_T_answer_32 hT (lg_T_answer_56 hT) s0 m
def X_T_answer_e (f_Pl_tune : qm_M → Option qm_R) (f_Pl_find : Int32 → Int32 → qm_M → Option qm_R) (f_T_played : Int32 → Int32 → qm_M → Option qm_R) (l32 : Int32 → qm_M → Option qm_R)  (m : qm_M) : Option qm_R :=
  qe_rV (f_Pl_tune m) fun m1 =>
  qe_rI (f_Pl_find (1 : Int32) (0 : Int32) m1) fun x1 m2 =>
  if x1 = 0 then
    l32 (0 : Int32) m2
  else
    l32 (1 : Int32) m2
set_option maxRecDepth 100000 in
theorem xg_T_answer_e {kp : pm_K} {d : Nat} {f_Pl_tune : qm_M → Option qm_R} {f_Pl_find : Int32 → Int32 → qm_M → Option qm_R} {f_T_played : Int32 → Int32 → qm_M → Option qm_R} {l32 : Int32 → qm_M → Option qm_R} (hT : qe_G kp d (T_T_answer f_Pl_tune f_Pl_find f_T_played)) (h32 : ∀ (s0 : Int32) (m : qm_M), qe_J kp md_T_answer d (l32 s0 m) 32 [(0, .ref 0)] [.int s0] m) (m : qm_M) : qe_J kp md_T_answer d (X_T_answer_e f_Pl_tune f_Pl_find f_T_played l32 m) 0 [(0, .ref 0)] [] m := qe_run (B := [(32, [0], qp_c_i 0 l32)]) (n := 1000) hT (qe_B1 (qp_c_i_ok h32) qe_B0) rfl
def F_T_answer (m : qm_M) : Option qm_R := X_T_answer_e F_Pl_tune F_Pl_find F_T_played (L_T_answer_32) m
theorem fj_T_answer {kp : pm_K} {d : Nat} (hT : qe_G kp d (T_T_answer F_Pl_tune F_Pl_find F_T_played)) (m : qm_M) : qe_J kp md_T_answer d (F_T_answer m) 0 [(0, .ref 0)] [] m := xg_T_answer_e hT (lg_T_answer_32 hT) m
theorem fg_T_answer {kp : pm_K} (d : Nat) : qe_GE kp (d + 35) (73, 0, 10, 1, qw_c 0 F_T_answer) := qe_entry (by decide +kernel) (qw_c_ok (d := d + 34) rfl rfl (fj_T_answer (qe_G1 (fg_Pl_tune (d + 0)) (qe_G1 (fg_Pl_find (d + 30)) (qe_G1 (fg_T_played (d + 30)) qe_G0)))))
/-! TurnField.undo()I -/
noncomputable def T_T_undo (f_Pa_pop : qm_M → Option qm_R) : qe_T := [(18, 0, 2, 0, qw_cc 4 1 f_Pa_pop)]
def X_T_undo_e (f_Pa_pop : qm_M → Option qm_R)  (m : qm_M) : Option qm_R :=
  if (m.1 4 2) = 0 then
    some (some (.int (-1 : Int32)), m)
  else
    qe_rV (f_Pa_pop m) fun m1 =>
    some (some (.int (m1.1 4 2)), m1)
set_option maxRecDepth 100000 in
theorem xg_T_undo_e {kp : pm_K} {d : Nat} {f_Pa_pop : qm_M → Option qm_R} (hT : qe_G kp d (T_T_undo f_Pa_pop)) (m : qm_M) : qe_J kp md_T_undo d (X_T_undo_e f_Pa_pop m) 0 [(0, .ref 0)] [] m := qe_run (B := []) (n := 1000) hT qe_B0 rfl
def F_T_undo (m : qm_M) : Option qm_R := X_T_undo_e F_Pa_pop m
theorem fj_T_undo {kp : pm_K} {d : Nat} (hT : qe_G kp d (T_T_undo F_Pa_pop)) (m : qm_M) : qe_J kp md_T_undo d (F_T_undo m) 0 [(0, .ref 0)] [] m := xg_T_undo_e hT m
theorem fg_T_undo {kp : pm_K} (d : Nat) : qe_GE kp (d + 4) (74, 0, 10, 1, qw_c 0 F_T_undo) := qe_entry (by decide +kernel) (qw_c_ok (d := d + 3) rfl rfl (fj_T_undo (qe_G1 (fg_Pa_pop (d + 0)) qe_G0)))
/-! TurnField.hasShelf(I)Z -/
noncomputable def T_T_hasShelf : qe_T := []
def X_T_hasShelf_e (v1 : Int32) (m : qm_M) : Option qm_R :=
  if v1 < 0 then
    some (some (.int (0 : Int32)), m)
  else
    if v1 < (2 : Int32) then
      some (some (.int (1 : Int32)), m)
    else
      some (some (.int (0 : Int32)), m)
set_option maxRecDepth 100000 in
theorem xg_T_hasShelf_e {kp : pm_K} {d : Nat} (hT : qe_G kp d (T_T_hasShelf)) (v1 : Int32) (m : qm_M) : qe_J kp md_T_hasShelf d (X_T_hasShelf_e v1 m) 0 [(0, .ref 0), (1, .int v1)] [] m := qe_run (B := []) (n := 1000) hT qe_B0 rfl
def F_T_hasShelf (v1 : Int32) (m : qm_M) : Option qm_R := X_T_hasShelf_e v1 m
theorem fj_T_hasShelf {kp : pm_K} {d : Nat} (hT : qe_G kp d (T_T_hasShelf)) (v1 : Int32) (m : qm_M) : qe_J kp md_T_hasShelf d (F_T_hasShelf v1 m) 0 [(0, .ref 0), (1, .int v1)] [] m := xg_T_hasShelf_e hT v1 m
theorem fg_T_hasShelf {kp : pm_K} (d : Nat) : qe_GE kp (d + 1) (77, 0, 10, 1, qw_ci 0 F_T_hasShelf) := qe_entry (by decide +kernel) (qw_ci_ok (d := d + 0) rfl rfl (fj_T_hasShelf qe_G0))
/-! TurnField.keep(I)I -/
noncomputable def T_T_keep (f_T_hasShelf : Int32 → qm_M → Option qm_R) (f_Ps_become : Nat → Nat → qm_M → Option qm_R) (f_Ps_headsShown : Nat → qm_M → Option qm_R) : qe_T := [(77, 0, 10, 1, qw_ci 0 f_T_hasShelf), (34, 0, 5, 0, qw_rr f_Ps_become), (39, 0, 5, 1, qw_r f_Ps_headsShown)]
def X_T_keep_e (f_T_hasShelf : Int32 → qm_M → Option qm_R) (f_Ps_become : Nat → Nat → qm_M → Option qm_R) (f_Ps_headsShown : Nat → qm_M → Option qm_R) (v1 : Int32) (m : qm_M) : Option qm_R :=
  qe_rI (f_T_hasShelf v1 m) fun x1 m1 =>
  if x1 = 0 then
    some (some (.int (-1 : Int32)), m1)
  else
    qe_b (qm_in v1 2) (
    qe_b (qm_isO (qm_rf 36 (Int32.toNatClampNeg v1)) 5) (
    qe_rV (f_Ps_become (qm_rf 36 (Int32.toNatClampNeg v1)) 1 m1) fun m2 =>
    qe_b (qm_in v1 2) (
    qe_b (qm_isO (qm_rf 36 (Int32.toNatClampNeg v1)) 5) (
    let m3 : qm_M := qm_sI m2 (qm_rf 36 (Int32.toNatClampNeg v1)) 11 (1 : Int32)
    qe_rI (f_Ps_headsShown 1 m3) fun x2 m4 =>
    some (some (.int x2), m4)))))
set_option maxRecDepth 100000 in
theorem xg_T_keep_e {kp : pm_K} {d : Nat} {f_T_hasShelf : Int32 → qm_M → Option qm_R} {f_Ps_become : Nat → Nat → qm_M → Option qm_R} {f_Ps_headsShown : Nat → qm_M → Option qm_R} (hT : qe_G kp d (T_T_keep f_T_hasShelf f_Ps_become f_Ps_headsShown)) (v1 : Int32) (m : qm_M) : qe_J kp md_T_keep d (X_T_keep_e f_T_hasShelf f_Ps_become f_Ps_headsShown v1 m) 0 [(0, .ref 0), (1, .int v1)] [] m := qe_run (B := []) (n := 1000) hT qe_B0 rfl
def F_T_keep (v1 : Int32) (m : qm_M) : Option qm_R := X_T_keep_e F_T_hasShelf F_Ps_become F_Ps_headsShown v1 m
theorem fj_T_keep {kp : pm_K} {d : Nat} (hT : qe_G kp d (T_T_keep F_T_hasShelf F_Ps_become F_Ps_headsShown)) (v1 : Int32) (m : qm_M) : qe_J kp md_T_keep d (F_T_keep v1 m) 0 [(0, .ref 0), (1, .int v1)] [] m := xg_T_keep_e hT v1 m
theorem fg_T_keep {kp : pm_K} (d : Nat) : qe_GE kp (d + 3) (75, 0, 10, 1, qw_ci 0 F_T_keep) := qe_entry (by decide +kernel) (qw_ci_ok (d := d + 2) rfl rfl (fj_T_keep (qe_G1 (fg_T_hasShelf (d + 1)) (qe_G1 (fg_Ps_become (d + 0)) (qe_G1 (fg_Ps_headsShown (d + 0)) qe_G0)))))
/-! TurnField.back(I)I -/
noncomputable def T_T_back (f_T_hasShelf : Int32 → qm_M → Option qm_R) (f_Pa_push : qm_M → Option qm_R) (f_Ps_become : Nat → Nat → qm_M → Option qm_R) (f_Ps_headsShown : Nat → qm_M → Option qm_R) : qe_T := [(77, 0, 10, 1, qw_ci 0 f_T_hasShelf), (16, 0, 2, 0, qw_cc 4 1 f_Pa_push), (34, 0, 5, 0, qw_rr f_Ps_become), (39, 0, 5, 1, qw_r f_Ps_headsShown)]
def X_T_back_e (f_T_hasShelf : Int32 → qm_M → Option qm_R) (f_Pa_push : qm_M → Option qm_R) (f_Ps_become : Nat → Nat → qm_M → Option qm_R) (f_Ps_headsShown : Nat → qm_M → Option qm_R) (v1 : Int32) (m : qm_M) : Option qm_R :=
  qe_rI (f_T_hasShelf v1 m) fun x1 m1 =>
  if x1 = 0 then
    some (some (.int (-1 : Int32)), m1)
  else
    qe_b (qm_in v1 2) (
    qe_b (qm_isO (qm_rf 36 (Int32.toNatClampNeg v1)) 5) (
    if (m1.1 (qm_rf 36 (Int32.toNatClampNeg v1)) 11) = 0 then
      some (some (.int (-2 : Int32)), m1)
    else
      qe_rV (f_Pa_push m1) fun m2 =>
      qe_b (qm_in v1 2) (
      qe_rV (f_Ps_become 1 (qm_rf 36 (Int32.toNatClampNeg v1)) m2) fun m3 =>
      qe_rI (f_Ps_headsShown 1 m3) fun x2 m4 =>
      some (some (.int x2), m4))))
set_option maxRecDepth 100000 in
theorem xg_T_back_e {kp : pm_K} {d : Nat} {f_T_hasShelf : Int32 → qm_M → Option qm_R} {f_Pa_push : qm_M → Option qm_R} {f_Ps_become : Nat → Nat → qm_M → Option qm_R} {f_Ps_headsShown : Nat → qm_M → Option qm_R} (hT : qe_G kp d (T_T_back f_T_hasShelf f_Pa_push f_Ps_become f_Ps_headsShown)) (v1 : Int32) (m : qm_M) : qe_J kp md_T_back d (X_T_back_e f_T_hasShelf f_Pa_push f_Ps_become f_Ps_headsShown v1 m) 0 [(0, .ref 0), (1, .int v1)] [] m := qe_run (B := []) (n := 1000) hT qe_B0 rfl
def F_T_back (v1 : Int32) (m : qm_M) : Option qm_R := X_T_back_e F_T_hasShelf F_Pa_push F_Ps_become F_Ps_headsShown v1 m
theorem fj_T_back {kp : pm_K} {d : Nat} (hT : qe_G kp d (T_T_back F_T_hasShelf F_Pa_push F_Ps_become F_Ps_headsShown)) (v1 : Int32) (m : qm_M) : qe_J kp md_T_back d (F_T_back v1 m) 0 [(0, .ref 0), (1, .int v1)] [] m := xg_T_back_e hT v1 m
theorem fg_T_back {kp : pm_K} (d : Nat) : qe_GE kp (d + 4) (76, 0, 10, 1, qw_ci 0 F_T_back) := qe_entry (by decide +kernel) (qw_ci_ok (d := d + 3) rfl rfl (fj_T_back (qe_G1 (fg_T_hasShelf (d + 2)) (qe_G1 (fg_Pa_push (d + 0)) (qe_G1 (fg_Ps_become (d + 1)) (qe_G1 (fg_Ps_headsShown (d + 1)) qe_G0))))))
/-! TurnField.game(I)I -/
noncomputable def T_T_game (f_Le_canHold : qm_M → Option qm_R) (f_Le_tune : qm_M → Option qm_R) (f_Le_lengthOf : qm_M → Option qm_R) : qe_T := [(2, 1, 0, 1, qw_c 1 f_Le_canHold), (3, 0, 1, 0, qw_ccc 60 1 48 f_Le_tune), (9, 0, 1, 1, qw_cc 60 1 f_Le_lengthOf)]
def X_T_game_e (f_Le_canHold : qm_M → Option qm_R) (f_Le_tune : qm_M → Option qm_R) (f_Le_lengthOf : qm_M → Option qm_R) (v1 : Int32) (m : qm_M) : Option qm_R :=
  if v1 < 0 then
    some (some (.int (-1 : Int32)), m)
  else
    if (1 : Int32) < v1 then
      some (some (.int (-1 : Int32)), m)
    else
      qe_rI (f_Le_canHold m) fun x1 m1 =>
      if x1 = 0 then
        some (some (.int (-2 : Int32)), m1)
      else
        qe_rV (f_Le_tune m1) fun m2 =>
        qe_rI (f_Le_lengthOf m2) fun x2 m3 =>
        if v1 = 0 then
          some (some (.int (x2 &&& (1 : Int32))), m3)
        else
          some (some (.int x2), m3)
set_option maxRecDepth 100000 in
theorem xg_T_game_e {kp : pm_K} {d : Nat} {f_Le_canHold : qm_M → Option qm_R} {f_Le_tune : qm_M → Option qm_R} {f_Le_lengthOf : qm_M → Option qm_R} (hT : qe_G kp d (T_T_game f_Le_canHold f_Le_tune f_Le_lengthOf)) (v1 : Int32) (m : qm_M) : qe_J kp md_T_game d (X_T_game_e f_Le_canHold f_Le_tune f_Le_lengthOf v1 m) 0 [(0, .ref 0), (1, .int v1)] [] m := qe_run (B := []) (n := 1000) hT qe_B0 rfl
def F_T_game (v1 : Int32) (m : qm_M) : Option qm_R := X_T_game_e F_Le_canHold F_Le_tune F_Le_lengthOf v1 m
theorem fj_T_game {kp : pm_K} {d : Nat} (hT : qe_G kp d (T_T_game F_Le_canHold F_Le_tune F_Le_lengthOf)) (v1 : Int32) (m : qm_M) : qe_J kp md_T_game d (F_T_game v1 m) 0 [(0, .ref 0), (1, .int v1)] [] m := xg_T_game_e hT v1 m
theorem fg_T_game {kp : pm_K} (d : Nat) : qe_GE kp (d + 36) (78, 0, 10, 1, qw_ci 0 F_T_game) := qe_entry (by decide +kernel) (qw_ci_ok (d := d + 35) rfl rfl (fj_T_game (qe_G1 (fg_Le_canHold (d + 34)) (qe_G1 (fg_Le_tune (d + 0)) (qe_G1 (fg_Le_lengthOf (d + 33)) qe_G0)))))
/-! TurnField.cell(III)I -/
noncomputable def T_T_cell (f_Ps_hasCell : Nat → Int32 → Int32 → qm_M → Option qm_R) (f_Ps_showsHeads : Nat → Int32 → Int32 → qm_M → Option qm_R) (f_Pl_tune : qm_M → Option qm_R) (f_Pl_effectOf : Int32 → Int32 → qm_M → Option qm_R) : qe_T := [(35, 0, 5, 1, qw_rii f_Ps_hasCell), (38, 0, 5, 1, qw_rii f_Ps_showsHeads), (20, 0, 3, 0, qw_cc 48 1 f_Pl_tune), (23, 0, 3, 1, qw_cii 48 f_Pl_effectOf)]
def X_T_cell_e (f_Ps_hasCell : Nat → Int32 → Int32 → qm_M → Option qm_R) (f_Ps_showsHeads : Nat → Int32 → Int32 → qm_M → Option qm_R) (f_Pl_tune : qm_M → Option qm_R) (f_Pl_effectOf : Int32 → Int32 → qm_M → Option qm_R) (v1 : Int32) (v2 : Int32) (v3 : Int32) (m : qm_M) : Option qm_R :=
  qe_rI (f_Ps_hasCell 1 v1 v2 m) fun x1 m1 =>
  if x1 = 0 then
    some (some (.int (-1 : Int32)), m1)
  else
    if v3 < 0 then
      some (some (.int (-1 : Int32)), m1)
    else
      if (2 : Int32) < v3 then
        some (some (.int (-1 : Int32)), m1)
      else
        if v3 = (2 : Int32) then
          qe_rI (f_Ps_showsHeads 1 v1 v2 m1) fun x2 m2 =>
          if x2 = 0 then
            some (some (.int (0 : Int32)), m2)
          else
            some (some (.int (1 : Int32)), m2)
        else
          qe_rV (f_Pl_tune m1) fun m3 =>
          qe_rI (f_Pl_effectOf (qo_ishl (1 : Int32) v1) (qo_ishl (1 : Int32) v2) m3) fun x3 m4 =>
          some (some (.int x3), m4)
set_option maxRecDepth 100000 in
theorem xg_T_cell_e {kp : pm_K} {d : Nat} {f_Ps_hasCell : Nat → Int32 → Int32 → qm_M → Option qm_R} {f_Ps_showsHeads : Nat → Int32 → Int32 → qm_M → Option qm_R} {f_Pl_tune : qm_M → Option qm_R} {f_Pl_effectOf : Int32 → Int32 → qm_M → Option qm_R} (hT : qe_G kp d (T_T_cell f_Ps_hasCell f_Ps_showsHeads f_Pl_tune f_Pl_effectOf)) (v1 : Int32) (v2 : Int32) (v3 : Int32) (m : qm_M) : qe_J kp md_T_cell d (X_T_cell_e f_Ps_hasCell f_Ps_showsHeads f_Pl_tune f_Pl_effectOf v1 v2 v3 m) 0 [(0, .ref 0), (1, .int v1), (2, .int v2), (3, .int v3)] [] m := qe_run (B := []) (n := 1000) hT qe_B0 rfl
def F_T_cell (v1 : Int32) (v2 : Int32) (v3 : Int32) (m : qm_M) : Option qm_R := X_T_cell_e F_Ps_hasCell F_Ps_showsHeads F_Pl_tune F_Pl_effectOf v1 v2 v3 m
theorem fj_T_cell {kp : pm_K} {d : Nat} (hT : qe_G kp d (T_T_cell F_Ps_hasCell F_Ps_showsHeads F_Pl_tune F_Pl_effectOf)) (v1 : Int32) (v2 : Int32) (v3 : Int32) (m : qm_M) : qe_J kp md_T_cell d (F_T_cell v1 v2 v3 m) 0 [(0, .ref 0), (1, .int v1), (2, .int v2), (3, .int v3)] [] m := xg_T_cell_e hT v1 v2 v3 m
theorem fg_T_cell {kp : pm_K} (d : Nat) : qe_GE kp (d + 35) (79, 0, 10, 1, qw_ciii 0 F_T_cell) := qe_entry (by decide +kernel) (qw_ciii_ok (d := d + 34) rfl rfl (fj_T_cell (qe_G1 (fg_Ps_hasCell (d + 33)) (qe_G1 (fg_Ps_showsHeads (d + 32)) (qe_G1 (fg_Pl_tune (d + 0)) (qe_G1 (fg_Pl_effectOf (d + 33)) qe_G0))))))
/-! TurnField.total()J -/
noncomputable def T_T_total (f_Pl_tune : qm_M → Option qm_R) (f_Pl_boardWorth : qm_M → Option qm_R) : qe_T := [(20, 0, 3, 0, qw_cc 48 1 f_Pl_tune), (25, 0, 3, 1, qw_cc 48 1 f_Pl_boardWorth)]
def X_T_total_e (f_Pl_tune : qm_M → Option qm_R) (f_Pl_boardWorth : qm_M → Option qm_R)  (m : qm_M) : Option qm_R :=
  qe_rV (f_Pl_tune m) fun m1 =>
  qe_rI (f_Pl_boardWorth m1) fun x1 m2 =>
  some (some (.long (Int32.toInt64 x1)), m2)
set_option maxRecDepth 100000 in
theorem xg_T_total_e {kp : pm_K} {d : Nat} {f_Pl_tune : qm_M → Option qm_R} {f_Pl_boardWorth : qm_M → Option qm_R} (hT : qe_G kp d (T_T_total f_Pl_tune f_Pl_boardWorth)) (m : qm_M) : qe_J kp md_T_total d (X_T_total_e f_Pl_tune f_Pl_boardWorth m) 0 [(0, .ref 0)] [] m := qe_run (B := []) (n := 1000) hT qe_B0 rfl
def F_T_total (m : qm_M) : Option qm_R := X_T_total_e F_Pl_tune F_Pl_boardWorth m
theorem fj_T_total {kp : pm_K} {d : Nat} (hT : qe_G kp d (T_T_total F_Pl_tune F_Pl_boardWorth)) (m : qm_M) : qe_J kp md_T_total d (F_T_total m) 0 [(0, .ref 0)] [] m := xg_T_total_e hT m
theorem fg_T_total {kp : pm_K} (d : Nat) : qe_GE kp (d + 35) (80, 0, 10, 2, qw_c 0 F_T_total) := qe_entry (by decide +kernel) (qw_c_ok (d := d + 34) rfl rfl (fj_T_total (qe_G1 (fg_Pl_tune (d + 0)) (qe_G1 (fg_Pl_boardWorth (d + 32)) qe_G0))))
/-! TurnField.moves(I)I -/
noncomputable def T_T_moves (f_Pl_tune : qm_M → Option qm_R) (f_Pl_find : Int32 → Int32 → qm_M → Option qm_R) : qe_T := [(20, 0, 3, 0, qw_cc 48 1 f_Pl_tune), (29, 0, 3, 1, qw_ccii 48 1 f_Pl_find)]
def X_T_moves_40 (f_Pl_tune : qm_M → Option qm_R) (f_Pl_find : Int32 → Int32 → qm_M → Option qm_R) (s0 : Int32) (m : qm_M) : Option qm_R :=
  qe_rI (f_Pl_find s0 (1073741824 : Int32) m) fun x1 m1 =>
  some (some (.int (m1.1 48 6)), m1)
set_option maxRecDepth 100000 in
theorem xg_T_moves_40 {kp : pm_K} {d : Nat} {f_Pl_tune : qm_M → Option qm_R} {f_Pl_find : Int32 → Int32 → qm_M → Option qm_R} (hT : qe_G kp d (T_T_moves f_Pl_tune f_Pl_find)) (s0 : Int32) (m : qm_M) : qe_J kp md_T_moves d (X_T_moves_40 f_Pl_tune f_Pl_find s0 m) 40 [(0, .ref 0)] [.int s0, .ref 1, .ref 48] m := qe_run (B := []) (n := 1000) hT qe_B0 rfl
def L_T_moves_40 (s0 : Int32) (m : qm_M) : Option qm_R := X_T_moves_40 F_Pl_tune F_Pl_find s0 m
theorem lg_T_moves_40 {kp : pm_K} {d : Nat} (hT : qe_G kp d (T_T_moves F_Pl_tune F_Pl_find)) (s0 : Int32) (m : qm_M) : qe_J kp md_T_moves d (L_T_moves_40 s0 m) 40 [(0, .ref 0)] [.int s0, .ref 1, .ref 48] m := xg_T_moves_40 hT s0 m
def X_T_moves_e (f_Pl_tune : qm_M → Option qm_R) (f_Pl_find : Int32 → Int32 → qm_M → Option qm_R) (l40 : Int32 → qm_M → Option qm_R) (v1 : Int32) (m : qm_M) : Option qm_R :=
  if v1 < 0 then
    some (some (.int (-1 : Int32)), m)
  else
    if (1 : Int32) < v1 then
      some (some (.int (-1 : Int32)), m)
    else
      qe_rV (f_Pl_tune m) fun m1 =>
      if v1 = (1 : Int32) then
        l40 (1 : Int32) m1
      else
        l40 (0 : Int32) m1
set_option maxRecDepth 100000 in
theorem xg_T_moves_e {kp : pm_K} {d : Nat} {f_Pl_tune : qm_M → Option qm_R} {f_Pl_find : Int32 → Int32 → qm_M → Option qm_R} {l40 : Int32 → qm_M → Option qm_R} (hT : qe_G kp d (T_T_moves f_Pl_tune f_Pl_find)) (h40 : ∀ (s0 : Int32) (m : qm_M), qe_J kp md_T_moves d (l40 s0 m) 40 [(0, .ref 0)] [.int s0, .ref 1, .ref 48] m) (v1 : Int32) (m : qm_M) : qe_J kp md_T_moves d (X_T_moves_e f_Pl_tune f_Pl_find l40 v1 m) 0 [(0, .ref 0), (1, .int v1)] [] m := qe_run (B := [(40, [0], qp_c_icc 0 1 48 l40)]) (n := 1000) hT (qe_B1 (qp_c_icc_ok h40) qe_B0) rfl
def F_T_moves (v1 : Int32) (m : qm_M) : Option qm_R := X_T_moves_e F_Pl_tune F_Pl_find (L_T_moves_40) v1 m
theorem fj_T_moves {kp : pm_K} {d : Nat} (hT : qe_G kp d (T_T_moves F_Pl_tune F_Pl_find)) (v1 : Int32) (m : qm_M) : qe_J kp md_T_moves d (F_T_moves v1 m) 0 [(0, .ref 0), (1, .int v1)] [] m := xg_T_moves_e hT (lg_T_moves_40 hT) v1 m
theorem fg_T_moves {kp : pm_K} (d : Nat) : qe_GE kp (d + 35) (81, 0, 10, 1, qw_ci 0 F_T_moves) := qe_entry (by decide +kernel) (qw_ci_ok (d := d + 34) rfl rfl (fj_T_moves (qe_G1 (fg_Pl_tune (d + 0)) (qe_G1 (fg_Pl_find (d + 30)) qe_G0))))
/-! TurnField.move(III)I -/
noncomputable def T_T_move (f_Pl_tune : qm_M → Option qm_R) (f_Pl_find : Int32 → Int32 → qm_M → Option qm_R) (f_Pl_boardWorth : qm_M → Option qm_R) (f_Pl_effectOf : Int32 → Int32 → qm_M → Option qm_R) : qe_T := [(20, 0, 3, 0, qw_cc 48 1 f_Pl_tune), (29, 0, 3, 1, qw_ccii 48 1 f_Pl_find), (25, 0, 3, 1, qw_cc 48 1 f_Pl_boardWorth), (23, 0, 3, 1, qw_cii 48 f_Pl_effectOf)]
def X_T_move_54 (f_Pl_tune : qm_M → Option qm_R) (f_Pl_find : Int32 → Int32 → qm_M → Option qm_R) (f_Pl_boardWorth : qm_M → Option qm_R) (f_Pl_effectOf : Int32 → Int32 → qm_M → Option qm_R) (v2 : Int32) (v3 : Int32) (s0 : Int32) (m : qm_M) : Option qm_R :=
  qe_rI (f_Pl_find s0 v2 m) fun x1 m1 =>
  if x1 = 0 then
    some (some (.int (-2 : Int32)), m1)
  else
    if v3 = (3 : Int32) then
      qe_rI (f_Pl_boardWorth m1) fun x2 m2 =>
      qe_rI (f_Pl_effectOf (m2.1 48 4) (m2.1 48 5) m2) fun x3 m3 =>
      some (some (.int (x2 ^^^ x3)), m3)
    else
      if v3 = (1 : Int32) then
        some (some (.int (m1.1 48 4)), m1)
      else
        some (some (.int (m1.1 48 5)), m1)
set_option maxRecDepth 100000 in
theorem xg_T_move_54 {kp : pm_K} {d : Nat} {f_Pl_tune : qm_M → Option qm_R} {f_Pl_find : Int32 → Int32 → qm_M → Option qm_R} {f_Pl_boardWorth : qm_M → Option qm_R} {f_Pl_effectOf : Int32 → Int32 → qm_M → Option qm_R} (hT : qe_G kp d (T_T_move f_Pl_tune f_Pl_find f_Pl_boardWorth f_Pl_effectOf)) (v2 : Int32) (v3 : Int32) (s0 : Int32) (m : qm_M) : qe_J kp md_T_move d (X_T_move_54 f_Pl_tune f_Pl_find f_Pl_boardWorth f_Pl_effectOf v2 v3 s0 m) 54 [(0, .ref 0), (2, .int v2), (3, .int v3)] [.int s0, .ref 1, .ref 48] m := qe_run (B := []) (n := 1000) hT qe_B0 rfl
def L_T_move_54 (v2 : Int32) (v3 : Int32) (s0 : Int32) (m : qm_M) : Option qm_R := X_T_move_54 F_Pl_tune F_Pl_find F_Pl_boardWorth F_Pl_effectOf v2 v3 s0 m
theorem lg_T_move_54 {kp : pm_K} {d : Nat} (hT : qe_G kp d (T_T_move F_Pl_tune F_Pl_find F_Pl_boardWorth F_Pl_effectOf)) (v2 : Int32) (v3 : Int32) (s0 : Int32) (m : qm_M) : qe_J kp md_T_move d (L_T_move_54 v2 v3 s0 m) 54 [(0, .ref 0), (2, .int v2), (3, .int v3)] [.int s0, .ref 1, .ref 48] m := xg_T_move_54 hT v2 v3 s0 m
def X_T_move_e (f_Pl_tune : qm_M → Option qm_R) (f_Pl_find : Int32 → Int32 → qm_M → Option qm_R) (f_Pl_boardWorth : qm_M → Option qm_R) (f_Pl_effectOf : Int32 → Int32 → qm_M → Option qm_R) (l54 : Int32 → Int32 → Int32 → qm_M → Option qm_R) (v1 : Int32) (v2 : Int32) (v3 : Int32) (m : qm_M) : Option qm_R :=
  if v1 < 0 then
    some (some (.int (-1 : Int32)), m)
  else
    if (1 : Int32) < v1 then
      some (some (.int (-1 : Int32)), m)
    else
      if v2 < 0 then
        some (some (.int (-1 : Int32)), m)
      else
        if v3 < (1 : Int32) then
          some (some (.int (-1 : Int32)), m)
        else
          if (3 : Int32) < v3 then
            some (some (.int (-1 : Int32)), m)
          else
            qe_rV (f_Pl_tune m) fun m1 =>
            if v1 = (1 : Int32) then
              l54 v2 v3 (1 : Int32) m1
            else
              l54 v2 v3 (0 : Int32) m1
set_option maxRecDepth 100000 in
theorem xg_T_move_e {kp : pm_K} {d : Nat} {f_Pl_tune : qm_M → Option qm_R} {f_Pl_find : Int32 → Int32 → qm_M → Option qm_R} {f_Pl_boardWorth : qm_M → Option qm_R} {f_Pl_effectOf : Int32 → Int32 → qm_M → Option qm_R} {l54 : Int32 → Int32 → Int32 → qm_M → Option qm_R} (hT : qe_G kp d (T_T_move f_Pl_tune f_Pl_find f_Pl_boardWorth f_Pl_effectOf)) (h54 : ∀ (v2 : Int32) (v3 : Int32) (s0 : Int32) (m : qm_M), qe_J kp md_T_move d (l54 v2 v3 s0 m) 54 [(0, .ref 0), (2, .int v2), (3, .int v3)] [.int s0, .ref 1, .ref 48] m) (v1 : Int32) (v2 : Int32) (v3 : Int32) (m : qm_M) : qe_J kp md_T_move d (X_T_move_e f_Pl_tune f_Pl_find f_Pl_boardWorth f_Pl_effectOf l54 v1 v2 v3 m) 0 [(0, .ref 0), (1, .int v1), (2, .int v2), (3, .int v3)] [] m := qe_run (B := [(54, [0, 2, 3], qp_cii_icc 0 1 48 l54)]) (n := 1000) hT (qe_B1 (qp_cii_icc_ok h54) qe_B0) rfl
def F_T_move (v1 : Int32) (v2 : Int32) (v3 : Int32) (m : qm_M) : Option qm_R := X_T_move_e F_Pl_tune F_Pl_find F_Pl_boardWorth F_Pl_effectOf (L_T_move_54) v1 v2 v3 m
theorem fj_T_move {kp : pm_K} {d : Nat} (hT : qe_G kp d (T_T_move F_Pl_tune F_Pl_find F_Pl_boardWorth F_Pl_effectOf)) (v1 : Int32) (v2 : Int32) (v3 : Int32) (m : qm_M) : qe_J kp md_T_move d (F_T_move v1 v2 v3 m) 0 [(0, .ref 0), (1, .int v1), (2, .int v2), (3, .int v3)] [] m := xg_T_move_e hT (lg_T_move_54 hT) v1 v2 v3 m
theorem fg_T_move {kp : pm_K} (d : Nat) : qe_GE kp (d + 35) (82, 0, 10, 1, qw_ciii 0 F_T_move) := qe_entry (by decide +kernel) (qw_ciii_ok (d := d + 34) rfl rfl (fj_T_move (qe_G1 (fg_Pl_tune (d + 0)) (qe_G1 (fg_Pl_find (d + 30)) (qe_G1 (fg_Pl_boardWorth (d + 32)) (qe_G1 (fg_Pl_effectOf (d + 33)) qe_G0))))))
/-! TurnField.sets(II)I -/
noncomputable def T_T_sets (f_Pl_tune : qm_M → Option qm_R) (f_Pl_ruleOf : Int32 → qm_M → Option qm_R) (f_Ru_setsOf : Nat → Int32 → qm_M → Option qm_R) : qe_T := [(20, 0, 3, 0, qw_cc 48 1 f_Pl_tune), (24, 0, 3, 3, qw_ci 48 f_Pl_ruleOf), (51, 0, 6, 1, qw_ri f_Ru_setsOf)]
def X_T_sets_e (f_Pl_tune : qm_M → Option qm_R) (f_Pl_ruleOf : Int32 → qm_M → Option qm_R) (f_Ru_setsOf : Nat → Int32 → qm_M → Option qm_R) (v1 : Int32) (v2 : Int32) (m : qm_M) : Option qm_R :=
  if v1 < 0 then
    some (some (.int (-1 : Int32)), m)
  else
    if (1 : Int32) < v1 then
      some (some (.int (-1 : Int32)), m)
    else
      qe_rV (f_Pl_tune m) fun m1 =>
      qe_rR (f_Pl_ruleOf v1 m1) fun x1 m2 =>
      qe_b (qm_isO x1 6) (
      qe_rI (f_Ru_setsOf x1 v2 m2) fun x2 m3 =>
      some (some (.int x2), m3))
set_option maxRecDepth 100000 in
theorem xg_T_sets_e {kp : pm_K} {d : Nat} {f_Pl_tune : qm_M → Option qm_R} {f_Pl_ruleOf : Int32 → qm_M → Option qm_R} {f_Ru_setsOf : Nat → Int32 → qm_M → Option qm_R} (hT : qe_G kp d (T_T_sets f_Pl_tune f_Pl_ruleOf f_Ru_setsOf)) (v1 : Int32) (v2 : Int32) (m : qm_M) : qe_J kp md_T_sets d (X_T_sets_e f_Pl_tune f_Pl_ruleOf f_Ru_setsOf v1 v2 m) 0 [(0, .ref 0), (1, .int v1), (2, .int v2)] [] m := qe_run (B := []) (n := 1000) hT qe_B0 rfl
def F_T_sets (v1 : Int32) (v2 : Int32) (m : qm_M) : Option qm_R := X_T_sets_e F_Pl_tune F_Pl_ruleOf F_Ru_setsOf v1 v2 m
theorem fj_T_sets {kp : pm_K} {d : Nat} (hT : qe_G kp d (T_T_sets F_Pl_tune F_Pl_ruleOf F_Ru_setsOf)) (v1 : Int32) (v2 : Int32) (m : qm_M) : qe_J kp md_T_sets d (F_T_sets v1 v2 m) 0 [(0, .ref 0), (1, .int v1), (2, .int v2)] [] m := xg_T_sets_e hT v1 v2 m
theorem fg_T_sets {kp : pm_K} (d : Nat) : qe_GE kp (d + 35) (83, 0, 10, 1, qw_cii 0 F_T_sets) := qe_entry (by decide +kernel) (qw_cii_ok (d := d + 34) rfl rfl (fj_T_sets (qe_G1 (fg_Pl_tune (d + 0)) (qe_G1 (fg_Pl_ruleOf (d + 33)) (qe_G1 (fg_Ru_setsOf (d + 33)) qe_G0)))))
/-! TurnField.count(I)I -/
noncomputable def T_T_count (f_Ps_headsShown : Nat → qm_M → Option qm_R) (f_Ps_rowsWithHeads : Nat → qm_M → Option qm_R) (f_Ps_columnsWithHeads : Nat → qm_M → Option qm_R) : qe_T := [(39, 0, 5, 1, qw_r f_Ps_headsShown), (41, 0, 5, 1, qw_r f_Ps_rowsWithHeads), (42, 0, 5, 1, qw_r f_Ps_columnsWithHeads)]
def X_T_count_153 (f_Ps_headsShown : Nat → qm_M → Option qm_R) (f_Ps_rowsWithHeads : Nat → qm_M → Option qm_R) (f_Ps_columnsWithHeads : Nat → qm_M → Option qm_R) (s0 : Int32) (m : qm_M) : Option qm_R :=
  if (m.1 40 11) = 0 then
    some (some (.int (s0 ||| (0 : Int32))), m)
  else
    some (some (.int (s0 ||| (2 : Int32))), m)
set_option maxRecDepth 100000 in
theorem xg_T_count_153 {kp : pm_K} {d : Nat} {f_Ps_headsShown : Nat → qm_M → Option qm_R} {f_Ps_rowsWithHeads : Nat → qm_M → Option qm_R} {f_Ps_columnsWithHeads : Nat → qm_M → Option qm_R} (hT : qe_G kp d (T_T_count f_Ps_headsShown f_Ps_rowsWithHeads f_Ps_columnsWithHeads)) (s0 : Int32) (m : qm_M) : qe_J kp md_T_count d (X_T_count_153 f_Ps_headsShown f_Ps_rowsWithHeads f_Ps_columnsWithHeads s0 m) 153 [(0, .ref 0)] [.int s0] m := qe_run (B := []) (n := 1000) hT qe_B0 rfl
def L_T_count_153 (s0 : Int32) (m : qm_M) : Option qm_R := X_T_count_153 F_Ps_headsShown F_Ps_rowsWithHeads F_Ps_columnsWithHeads s0 m
theorem lg_T_count_153 {kp : pm_K} {d : Nat} (hT : qe_G kp d (T_T_count F_Ps_headsShown F_Ps_rowsWithHeads F_Ps_columnsWithHeads)) (s0 : Int32) (m : qm_M) : qe_J kp md_T_count d (L_T_count_153 s0 m) 153 [(0, .ref 0)] [.int s0] m := xg_T_count_153 hT s0 m
def X_T_count_e (f_Ps_headsShown : Nat → qm_M → Option qm_R) (f_Ps_rowsWithHeads : Nat → qm_M → Option qm_R) (f_Ps_columnsWithHeads : Nat → qm_M → Option qm_R) (l153 : Int32 → qm_M → Option qm_R) (v1 : Int32) (m : qm_M) : Option qm_R :=
  if Int32.toInt v1 = 0 then
    some (some (.int (m.1 1 0)), m)
  else
   if Int32.toInt v1 = 1 then
     some (some (.int (m.1 1 1)), m)
   else
    if Int32.toInt v1 = 2 then
      some (some (.int (m.1 1 2)), m)
    else
     if Int32.toInt v1 = 3 then
       some (some (.int (m.1 1 3)), m)
     else
      if Int32.toInt v1 = 4 then
        some (some (.int (m.1 1 4)), m)
      else
       if Int32.toInt v1 = 5 then
         some (some (.int (m.1 1 5)), m)
       else
        if Int32.toInt v1 = 6 then
          qe_rI (f_Ps_headsShown 1 m) fun x1 m1 =>
          some (some (.int x1), m1)
        else
         if Int32.toInt v1 = 7 then
           some (some (.int (m.1 4 2)), m)
         else
          if Int32.toInt v1 = 8 then
            some (some (.int (m.1 43 2)), m)
          else
           if Int32.toInt v1 = 9 then
             if (m.1 37 11) = 0 then
               l153 (0 : Int32) m
             else
               l153 (1 : Int32) m
           else
            if Int32.toInt v1 = 10 then
              qe_rI (f_Ps_rowsWithHeads 1 m) fun x2 m2 =>
              some (some (.int x2), m2)
            else
             if Int32.toInt v1 = 11 then
               qe_rI (f_Ps_columnsWithHeads 1 m) fun x3 m3 =>
               some (some (.int x3), m3)
             else
               some (some (.int (-1 : Int32)), m)
set_option maxRecDepth 100000 in
theorem xg_T_count_e {kp : pm_K} {d : Nat} {f_Ps_headsShown : Nat → qm_M → Option qm_R} {f_Ps_rowsWithHeads : Nat → qm_M → Option qm_R} {f_Ps_columnsWithHeads : Nat → qm_M → Option qm_R} {l153 : Int32 → qm_M → Option qm_R} (hT : qe_G kp d (T_T_count f_Ps_headsShown f_Ps_rowsWithHeads f_Ps_columnsWithHeads)) (h153 : ∀ (s0 : Int32) (m : qm_M), qe_J kp md_T_count d (l153 s0 m) 153 [(0, .ref 0)] [.int s0] m) (v1 : Int32) (m : qm_M) : qe_J kp md_T_count d (X_T_count_e f_Ps_headsShown f_Ps_rowsWithHeads f_Ps_columnsWithHeads l153 v1 m) 0 [(0, .ref 0), (1, .int v1)] [] m := qe_run (B := [(153, [0], qp_c_i 0 l153)]) (n := 1000) hT (qe_B1 (qp_c_i_ok h153) qe_B0) rfl
def F_T_count (v1 : Int32) (m : qm_M) : Option qm_R := X_T_count_e F_Ps_headsShown F_Ps_rowsWithHeads F_Ps_columnsWithHeads (L_T_count_153) v1 m
theorem fj_T_count {kp : pm_K} {d : Nat} (hT : qe_G kp d (T_T_count F_Ps_headsShown F_Ps_rowsWithHeads F_Ps_columnsWithHeads)) (v1 : Int32) (m : qm_M) : qe_J kp md_T_count d (F_T_count v1 m) 0 [(0, .ref 0), (1, .int v1)] [] m := xg_T_count_e hT (lg_T_count_153 hT) v1 m
theorem fg_T_count {kp : pm_K} (d : Nat) : qe_GE kp (d + 3) (84, 0, 10, 1, qw_ci 0 F_T_count) := qe_entry (by decide +kernel) (qw_ci_ok (d := d + 2) rfl rfl (fj_T_count (qe_G1 (fg_Ps_headsShown (d + 0)) (qe_G1 (fg_Ps_rowsWithHeads (d + 0)) (qe_G1 (fg_Ps_columnsWithHeads (d + 0)) qe_G0)))))
