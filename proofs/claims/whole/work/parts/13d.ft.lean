/-! TurnField.feed(IIIII)I -/
noncomputable def T_T_feed (f_Ta_hasRoom : Int32 → qm_M → Option qm_R) (f_Ta_append : Int32 → qm_M → Option qm_R) : qe_T := [(121, 0, 9, 1, qw_ci 43 f_Ta_hasRoom), (122, 0, 9, 0, qw_ci 43 f_Ta_append)]
def X_T_feed_e (f_Ta_hasRoom : Int32 → qm_M → Option qm_R) (f_Ta_append : Int32 → qm_M → Option qm_R) (v1 : Int32) (v2 : Int32) (v3 : Int32) (v4 : Int32) (v5 : Int32) (m : qm_M) : Option qm_R :=
  qe_rI (f_Ta_hasRoom (20 : Int32) m) fun x1 m1 =>
  if x1 = 0 then
    some (some (.int (-1 : Int32)), m1)
  else
    qe_rV (f_Ta_append v1 m1) fun m2 =>
    qe_rV (f_Ta_append v2 m2) fun m3 =>
    qe_rV (f_Ta_append v3 m3) fun m4 =>
    qe_rV (f_Ta_append v4 m4) fun m5 =>
    qe_rV (f_Ta_append v5 m5) fun m6 =>
    some (some (.int (m6.1 43 2)), m6)
set_option maxRecDepth 100000 in
theorem xg_T_feed_e {kp : pm_K} {d : Nat} {f_Ta_hasRoom : Int32 → qm_M → Option qm_R} {f_Ta_append : Int32 → qm_M → Option qm_R} (hT : qe_G kp d (T_T_feed f_Ta_hasRoom f_Ta_append)) (v1 : Int32) (v2 : Int32) (v3 : Int32) (v4 : Int32) (v5 : Int32) (m : qm_M) : qe_J kp md_T_feed d (X_T_feed_e f_Ta_hasRoom f_Ta_append v1 v2 v3 v4 v5 m) 0 [(0, .ref 0), (1, .int v1), (2, .int v2), (3, .int v3), (4, .int v4), (5, .int v5)] [] m := qe_run (B := []) (n := 1000) hT qe_B0 rfl
def F_T_feed (v1 : Int32) (v2 : Int32) (v3 : Int32) (v4 : Int32) (v5 : Int32) (m : qm_M) : Option qm_R := X_T_feed_e F_Ta_hasRoom F_Ta_append v1 v2 v3 v4 v5 m
theorem fj_T_feed {kp : pm_K} {d : Nat} (hT : qe_G kp d (T_T_feed F_Ta_hasRoom F_Ta_append)) (v1 : Int32) (v2 : Int32) (v3 : Int32) (v4 : Int32) (v5 : Int32) (m : qm_M) : qe_J kp md_T_feed d (F_T_feed v1 v2 v3 v4 v5 m) 0 [(0, .ref 0), (1, .int v1), (2, .int v2), (3, .int v3), (4, .int v4), (5, .int v5)] [] m := xg_T_feed_e hT v1 v2 v3 v4 v5 m
theorem fg_T_feed {kp : pm_K} (d : Nat) : qe_GE kp (d + 2) (133, 0, 10, 1, qw_ciiiii 0 F_T_feed) := qe_entry (by decide +kernel) (qw_ciiiii_ok (d := d + 1) rfl rfl (fj_T_feed (qe_G1 (fg_Ta_hasRoom (d + 0)) (qe_G1 (fg_Ta_append (d + 0)) qe_G0))))
/-! TurnField.end(I)I -/
noncomputable def T_T_end : qe_T := []
def X_T_end_e (v1 : Int32) (m : qm_M) : Option qm_R :=
  if v1 < 0 then
    some (some (.int (-1 : Int32)), m)
  else
    if (m.1 43 2) < v1 then
      some (some (.int (-1 : Int32)), m)
    else
      let m1 : qm_M := qm_sI m 43 2 v1
      some (some (.int v1), m1)
set_option maxRecDepth 100000 in
theorem xg_T_end_e {kp : pm_K} {d : Nat} (hT : qe_G kp d (T_T_end)) (v1 : Int32) (m : qm_M) : qe_J kp md_T_end d (X_T_end_e v1 m) 0 [(0, .ref 0), (1, .int v1)] [] m := qe_run (B := []) (n := 1000) hT qe_B0 rfl
def F_T_end (v1 : Int32) (m : qm_M) : Option qm_R := X_T_end_e v1 m
theorem fj_T_end {kp : pm_K} {d : Nat} (hT : qe_G kp d (T_T_end)) (v1 : Int32) (m : qm_M) : qe_J kp md_T_end d (F_T_end v1 m) 0 [(0, .ref 0), (1, .int v1)] [] m := xg_T_end_e hT v1 m
theorem fg_T_end {kp : pm_K} (d : Nat) : qe_GE kp (d + 1) (134, 0, 10, 1, qw_ci 0 F_T_end) := qe_entry (by decide +kernel) (qw_ci_ok (d := d + 0) rfl rfl (fj_T_end qe_G0))
/-! TurnField.tell()I -/
noncomputable def T_T_tell (f_Ta_read : qm_M → Option qm_R) (f_Pa_push : qm_M → Option qm_R) (f_Ps_becomeBoard : Nat → Nat → qm_M → Option qm_R) (f_Ps_headsShown : Nat → qm_M → Option qm_R) : qe_T := [(123, 0, 9, 1, qw_c 43 f_Ta_read), (44, 0, 2, 0, qw_cc 4 1 f_Pa_push), (79, 0, 5, 0, qw_rr f_Ps_becomeBoard), (86, 0, 5, 1, qw_r f_Ps_headsShown)]
def X_T_tell_e (f_Ta_read : qm_M → Option qm_R) (f_Pa_push : qm_M → Option qm_R) (f_Ps_becomeBoard : Nat → Nat → qm_M → Option qm_R) (f_Ps_headsShown : Nat → qm_M → Option qm_R)  (m : qm_M) : Option qm_R :=
  qe_rI (f_Ta_read m) fun x1 m1 =>
  let m2 : qm_M := qm_sI m1 43 2 (0 : Int32)
  if x1 = 0 then
    qe_rV (f_Pa_push m2) fun m3 =>
    qe_rV (f_Ps_becomeBoard 1 45 m3) fun m4 =>
    qe_rI (f_Ps_headsShown 1 m4) fun x2 m5 =>
    some (some (.int x2), m5)
  else
    some (some (.int ((-2 : Int32) - x1)), m2)
set_option maxRecDepth 100000 in
theorem xg_T_tell_e {kp : pm_K} {d : Nat} {f_Ta_read : qm_M → Option qm_R} {f_Pa_push : qm_M → Option qm_R} {f_Ps_becomeBoard : Nat → Nat → qm_M → Option qm_R} {f_Ps_headsShown : Nat → qm_M → Option qm_R} (hT : qe_G kp d (T_T_tell f_Ta_read f_Pa_push f_Ps_becomeBoard f_Ps_headsShown)) (m : qm_M) : qe_J kp md_T_tell d (X_T_tell_e f_Ta_read f_Pa_push f_Ps_becomeBoard f_Ps_headsShown m) 0 [(0, .ref 0)] [] m := qe_run (B := []) (n := 1000) hT qe_B0 rfl
def F_T_tell (m : qm_M) : Option qm_R := X_T_tell_e F_Ta_read F_Pa_push F_Ps_becomeBoard F_Ps_headsShown m
theorem fj_T_tell {kp : pm_K} {d : Nat} (hT : qe_G kp d (T_T_tell F_Ta_read F_Pa_push F_Ps_becomeBoard F_Ps_headsShown)) (m : qm_M) : qe_J kp md_T_tell d (F_T_tell m) 0 [(0, .ref 0)] [] m := xg_T_tell_e hT m
theorem fg_T_tell {kp : pm_K} (d : Nat) : qe_GE kp (d + 8) (135, 0, 10, 1, qw_c 0 F_T_tell) := qe_entry (by decide +kernel) (qw_c_ok (d := d + 7) rfl rfl (fj_T_tell (qe_G1 (fg_Ta_read (d + 0)) (qe_G1 (fg_Pa_push (d + 4)) (qe_G1 (fg_Ps_becomeBoard (d + 6)) (qe_G1 (fg_Ps_headsShown (d + 5)) qe_G0))))))
/-! TurnField.turn(II)I -/
noncomputable def T_T_turn (f_Ps_hasCell : Nat → Int32 → Int32 → qm_M → Option qm_R) (f_Pa_push : qm_M → Option qm_R) (f_Ps_bitOf : Int32 → Int32 → qm_M → Option qm_R) (f_Ps_headsShown : Nat → qm_M → Option qm_R) : qe_T := [(82, 0, 5, 1, qw_rii f_Ps_hasCell), (44, 0, 2, 0, qw_cc 4 1 f_Pa_push), (83, 1, 0, 2, qw_ii f_Ps_bitOf), (86, 0, 5, 1, qw_r f_Ps_headsShown)]
def X_T_turn_e (f_Ps_hasCell : Nat → Int32 → Int32 → qm_M → Option qm_R) (f_Pa_push : qm_M → Option qm_R) (f_Ps_bitOf : Int32 → Int32 → qm_M → Option qm_R) (f_Ps_headsShown : Nat → qm_M → Option qm_R) (v1 : Int32) (v2 : Int32) (m : qm_M) : Option qm_R :=
  qe_rI (f_Ps_hasCell 1 v1 v2 m) fun x1 m1 =>
  if x1 = 0 then
    some (some (.int (-1 : Int32)), m1)
  else
    qe_rV (f_Pa_push m1) fun m2 =>
    qe_rL (f_Ps_bitOf v1 v2 m2) fun x2 m3 =>
    let m4 : qm_M := qm_sL m3 1 6 ((m2.2 1 6) ^^^ x2)
    qe_rI (f_Ps_headsShown 1 m4) fun x3 m5 =>
    some (some (.int x3), m5)
set_option maxRecDepth 100000 in
theorem xg_T_turn_e {kp : pm_K} {d : Nat} {f_Ps_hasCell : Nat → Int32 → Int32 → qm_M → Option qm_R} {f_Pa_push : qm_M → Option qm_R} {f_Ps_bitOf : Int32 → Int32 → qm_M → Option qm_R} {f_Ps_headsShown : Nat → qm_M → Option qm_R} (hT : qe_G kp d (T_T_turn f_Ps_hasCell f_Pa_push f_Ps_bitOf f_Ps_headsShown)) (v1 : Int32) (v2 : Int32) (m : qm_M) : qe_J kp md_T_turn d (X_T_turn_e f_Ps_hasCell f_Pa_push f_Ps_bitOf f_Ps_headsShown v1 v2 m) 0 [(0, .ref 0), (1, .int v1), (2, .int v2)] [] m := qe_run (B := []) (n := 1000) hT qe_B0 rfl
def F_T_turn (v1 : Int32) (v2 : Int32) (m : qm_M) : Option qm_R := X_T_turn_e F_Ps_hasCell F_Pa_push F_Ps_bitOf F_Ps_headsShown v1 v2 m
theorem fj_T_turn {kp : pm_K} {d : Nat} (hT : qe_G kp d (T_T_turn F_Ps_hasCell F_Pa_push F_Ps_bitOf F_Ps_headsShown)) (v1 : Int32) (v2 : Int32) (m : qm_M) : qe_J kp md_T_turn d (F_T_turn v1 v2 m) 0 [(0, .ref 0), (1, .int v1), (2, .int v2)] [] m := xg_T_turn_e hT v1 v2 m
theorem fg_T_turn {kp : pm_K} (d : Nat) : qe_GE kp (d + 4) (136, 0, 10, 1, qw_cii 0 F_T_turn) := qe_entry (by decide +kernel) (qw_cii_ok (d := d + 3) rfl rfl (fj_T_turn (qe_G1 (fg_Ps_hasCell (d + 2)) (qe_G1 (fg_Pa_push (d + 0)) (qe_G1 (fg_Ps_bitOf (d + 2)) (qe_G1 (fg_Ps_headsShown (d + 1)) qe_G0))))))
/-! TurnField.played(II)I -/
noncomputable def T_T_played (f_Pa_push : qm_M → Option qm_R) (f_Ps_bitsOf : Int32 → Int32 → qm_M → Option qm_R) (f_Ps_headsShown : Nat → qm_M → Option qm_R) : qe_T := [(44, 0, 2, 0, qw_cc 4 1 f_Pa_push), (84, 1, 0, 2, qw_ii f_Ps_bitsOf), (86, 0, 5, 1, qw_r f_Ps_headsShown)]
def X_T_played_e (f_Pa_push : qm_M → Option qm_R) (f_Ps_bitsOf : Int32 → Int32 → qm_M → Option qm_R) (f_Ps_headsShown : Nat → qm_M → Option qm_R) (v1 : Int32) (v2 : Int32) (m : qm_M) : Option qm_R :=
  qe_rV (f_Pa_push m) fun m1 =>
  qe_rL (f_Ps_bitsOf v1 v2 m1) fun x1 m2 =>
  let m3 : qm_M := qm_sL m2 1 6 ((m1.2 1 6) ^^^ x1)
  qe_rI (f_Ps_headsShown 1 m3) fun x2 m4 =>
  some (some (.int x2), m4)
set_option maxRecDepth 100000 in
theorem xg_T_played_e {kp : pm_K} {d : Nat} {f_Pa_push : qm_M → Option qm_R} {f_Ps_bitsOf : Int32 → Int32 → qm_M → Option qm_R} {f_Ps_headsShown : Nat → qm_M → Option qm_R} (hT : qe_G kp d (T_T_played f_Pa_push f_Ps_bitsOf f_Ps_headsShown)) (v1 : Int32) (v2 : Int32) (m : qm_M) : qe_J kp md_T_played d (X_T_played_e f_Pa_push f_Ps_bitsOf f_Ps_headsShown v1 v2 m) 0 [(0, .ref 0), (1, .int v1), (2, .int v2)] [] m := qe_run (B := []) (n := 1000) hT qe_B0 rfl
def F_T_played (v1 : Int32) (v2 : Int32) (m : qm_M) : Option qm_R := X_T_played_e F_Pa_push F_Ps_bitsOf F_Ps_headsShown v1 v2 m
theorem fj_T_played {kp : pm_K} {d : Nat} (hT : qe_G kp d (T_T_played F_Pa_push F_Ps_bitsOf F_Ps_headsShown)) (v1 : Int32) (v2 : Int32) (m : qm_M) : qe_J kp md_T_played d (F_T_played v1 v2 m) 0 [(0, .ref 0), (1, .int v1), (2, .int v2)] [] m := xg_T_played_e hT v1 v2 m
theorem fg_T_played {kp : pm_K} (d : Nat) : qe_GE kp (d + 4) (138, 0, 10, 1, qw_cii 0 F_T_played) := qe_entry (by decide +kernel) (qw_cii_ok (d := d + 3) rfl rfl (fj_T_played (qe_G1 (fg_Pa_push (d + 0)) (qe_G1 (fg_Ps_bitsOf (d + 2)) (qe_G1 (fg_Ps_headsShown (d + 1)) qe_G0)))))
/-! TurnField.play(II)I -/
noncomputable def T_T_play (f_Pl_tune : qm_M → Option qm_R) (f_Pl_mayBe : Int32 → Int32 → qm_M → Option qm_R) (f_T_played : Int32 → Int32 → qm_M → Option qm_R) : qe_T := [(49, 0, 3, 0, qw_cc 48 1 f_Pl_tune), (56, 0, 3, 1, qw_ccii 48 1 f_Pl_mayBe), (138, 0, 10, 1, qw_cii 0 f_T_played)]
def X_T_play_e (f_Pl_tune : qm_M → Option qm_R) (f_Pl_mayBe : Int32 → Int32 → qm_M → Option qm_R) (f_T_played : Int32 → Int32 → qm_M → Option qm_R) (v1 : Int32) (v2 : Int32) (m : qm_M) : Option qm_R :=
  if 0 < v1 then
    if 0 < v2 then
      if v1 < (qo_ishl (1 : Int32) (m.1 1 0)) then
        if v2 < (qo_ishl (1 : Int32) (m.1 1 1)) then
          qe_rV (f_Pl_tune m) fun m1 =>
          qe_rI (f_Pl_mayBe v1 v2 m1) fun x1 m2 =>
          if x1 = 0 then
            some (some (.int (-2 : Int32)), m2)
          else
            qe_rI (f_T_played v1 v2 m2) fun x2 m3 =>
            some (some (.int x2), m3)
        else
          some (some (.int (-1 : Int32)), m)
      else
        some (some (.int (-1 : Int32)), m)
    else
      some (some (.int (-1 : Int32)), m)
  else
    some (some (.int (-1 : Int32)), m)
set_option maxRecDepth 100000 in
theorem xg_T_play_e {kp : pm_K} {d : Nat} {f_Pl_tune : qm_M → Option qm_R} {f_Pl_mayBe : Int32 → Int32 → qm_M → Option qm_R} {f_T_played : Int32 → Int32 → qm_M → Option qm_R} (hT : qe_G kp d (T_T_play f_Pl_tune f_Pl_mayBe f_T_played)) (v1 : Int32) (v2 : Int32) (m : qm_M) : qe_J kp md_T_play d (X_T_play_e f_Pl_tune f_Pl_mayBe f_T_played v1 v2 m) 0 [(0, .ref 0), (1, .int v1), (2, .int v2)] [] m := qe_run (B := []) (n := 1000) hT qe_B0 rfl
def F_T_play (v1 : Int32) (v2 : Int32) (m : qm_M) : Option qm_R := X_T_play_e F_Pl_tune F_Pl_mayBe F_T_played v1 v2 m
theorem fj_T_play {kp : pm_K} {d : Nat} (hT : qe_G kp d (T_T_play F_Pl_tune F_Pl_mayBe F_T_played)) (v1 : Int32) (v2 : Int32) (m : qm_M) : qe_J kp md_T_play d (F_T_play v1 v2 m) 0 [(0, .ref 0), (1, .int v1), (2, .int v2)] [] m := xg_T_play_e hT v1 v2 m
theorem fg_T_play {kp : pm_K} (d : Nat) : qe_GE kp (d + 35) (137, 0, 10, 1, qw_cii 0 F_T_play) := qe_entry (by decide +kernel) (qw_cii_ok (d := d + 34) rfl rfl (fj_T_play (qe_G1 (fg_Pl_tune (d + 0)) (qe_G1 (fg_Pl_mayBe (d + 30)) (qe_G1 (fg_T_played (d + 30)) qe_G0)))))
/-! TurnField.answer()I -/
noncomputable def T_T_answer (f_Pl_tune : qm_M → Option qm_R) (f_Pl_find : Int32 → Int32 → qm_M → Option qm_R) (f_T_played : Int32 → Int32 → qm_M → Option qm_R) : qe_T := [(49, 0, 3, 0, qw_cc 48 1 f_Pl_tune), (58, 0, 3, 1, qw_ccii 48 1 f_Pl_find), (138, 0, 10, 1, qw_cii 0 f_T_played)]
def X_T_answer_56 (f_Pl_tune : qm_M → Option qm_R) (f_Pl_find : Int32 → Int32 → qm_M → Option qm_R) (f_T_played : Int32 → Int32 → qm_M → Option qm_R) (v1 : Int32) (m : qm_M) : Option qm_R :=
  qe_rI (f_T_played (m.1 48 4) (m.1 48 5) m) fun x1 m1 =>
  some (some (.int v1), m1)
set_option maxRecDepth 100000 in
theorem xg_T_answer_56 {kp : pm_K} {d : Nat} {f_Pl_tune : qm_M → Option qm_R} {f_Pl_find : Int32 → Int32 → qm_M → Option qm_R} {f_T_played : Int32 → Int32 → qm_M → Option qm_R} (hT : qe_G kp d (T_T_answer f_Pl_tune f_Pl_find f_T_played)) (v1 : Int32) (m : qm_M) : qe_J kp md_T_answer d (X_T_answer_56 f_Pl_tune f_Pl_find f_T_played v1 m) 56 [(0, .ref 0), (1, .int v1)] [] m := qe_run (B := []) (n := 1000) hT qe_B0 rfl
def L_T_answer_56 (v1 : Int32) (m : qm_M) : Option qm_R := X_T_answer_56 F_Pl_tune F_Pl_find F_T_played v1 m
theorem lg_T_answer_56 {kp : pm_K} {d : Nat} (hT : qe_G kp d (T_T_answer F_Pl_tune F_Pl_find F_T_played)) (v1 : Int32) (m : qm_M) : qe_J kp md_T_answer d (L_T_answer_56 v1 m) 56 [(0, .ref 0), (1, .int v1)] [] m := xg_T_answer_56 hT v1 m
def X_T_answer_32 (f_Pl_tune : qm_M → Option qm_R) (f_Pl_find : Int32 → Int32 → qm_M → Option qm_R) (f_T_played : Int32 → Int32 → qm_M → Option qm_R) (l56 : Int32 → qm_M → Option qm_R) (s0 : Int32) (m : qm_M) : Option qm_R :=
  if s0 = 0 then
    qe_rI (f_Pl_find (0 : Int32) (0 : Int32) m) fun x1 m1 =>
    if x1 = 0 then
      some (some (.int (-2 : Int32)), m1)
    else
      l56 s0 m1
  else
    l56 s0 m
set_option maxRecDepth 100000 in
theorem xg_T_answer_32 {kp : pm_K} {d : Nat} {f_Pl_tune : qm_M → Option qm_R} {f_Pl_find : Int32 → Int32 → qm_M → Option qm_R} {f_T_played : Int32 → Int32 → qm_M → Option qm_R} {l56 : Int32 → qm_M → Option qm_R} (hT : qe_G kp d (T_T_answer f_Pl_tune f_Pl_find f_T_played)) (h56 : ∀ (v1 : Int32) (m : qm_M), qe_J kp md_T_answer d (l56 v1 m) 56 [(0, .ref 0), (1, .int v1)] [] m) (s0 : Int32) (m : qm_M) : qe_J kp md_T_answer d (X_T_answer_32 f_Pl_tune f_Pl_find f_T_played l56 s0 m) 32 [(0, .ref 0)] [.int s0] m := qe_run (B := [(56, [0, 1], qp_ci_ 0 l56)]) (n := 1000) hT (qe_B1 (qp_ci__ok h56) qe_B0) rfl
def L_T_answer_32 (s0 : Int32) (m : qm_M) : Option qm_R := X_T_answer_32 F_Pl_tune F_Pl_find F_T_played (L_T_answer_56) s0 m
theorem lg_T_answer_32 {kp : pm_K} {d : Nat} (hT : qe_G kp d (T_T_answer F_Pl_tune F_Pl_find F_T_played)) (s0 : Int32) (m : qm_M) : qe_J kp md_T_answer d (L_T_answer_32 s0 m) 32 [(0, .ref 0)] [.int s0] m := xg_T_answer_32 hT (lg_T_answer_56 hT) s0 m
def X_T_answer_e (f_Pl_tune : qm_M → Option qm_R) (f_Pl_find : Int32 → Int32 → qm_M → Option qm_R) (f_T_played : Int32 → Int32 → qm_M → Option qm_R) (l32 : Int32 → qm_M → Option qm_R)  (m : qm_M) : Option qm_R :=
  qe_rV (f_Pl_tune m) fun m1 =>
  qe_rI (f_Pl_find (1 : Int32) (0 : Int32) m1) fun x1 m2 =>
  if x1 = 0 then
    l32 (0 : Int32) m2
  else
    l32 (1 : Int32) m2
set_option maxRecDepth 100000 in
theorem xg_T_answer_e {kp : pm_K} {d : Nat} {f_Pl_tune : qm_M → Option qm_R} {f_Pl_find : Int32 → Int32 → qm_M → Option qm_R} {f_T_played : Int32 → Int32 → qm_M → Option qm_R} {l32 : Int32 → qm_M → Option qm_R} (hT : qe_G kp d (T_T_answer f_Pl_tune f_Pl_find f_T_played)) (h32 : ∀ (s0 : Int32) (m : qm_M), qe_J kp md_T_answer d (l32 s0 m) 32 [(0, .ref 0)] [.int s0] m) (m : qm_M) : qe_J kp md_T_answer d (X_T_answer_e f_Pl_tune f_Pl_find f_T_played l32 m) 0 [(0, .ref 0)] [] m := qe_run (B := [(32, [0], qp_c_i 0 l32)]) (n := 1000) hT (qe_B1 (qp_c_i_ok h32) qe_B0) rfl
def F_T_answer (m : qm_M) : Option qm_R := X_T_answer_e F_Pl_tune F_Pl_find F_T_played (L_T_answer_32) m
theorem fj_T_answer {kp : pm_K} {d : Nat} (hT : qe_G kp d (T_T_answer F_Pl_tune F_Pl_find F_T_played)) (m : qm_M) : qe_J kp md_T_answer d (F_T_answer m) 0 [(0, .ref 0)] [] m := xg_T_answer_e hT (lg_T_answer_32 hT) m
theorem fg_T_answer {kp : pm_K} (d : Nat) : qe_GE kp (d + 35) (139, 0, 10, 1, qw_c 0 F_T_answer) := qe_entry (by decide +kernel) (qw_c_ok (d := d + 34) rfl rfl (fj_T_answer (qe_G1 (fg_Pl_tune (d + 0)) (qe_G1 (fg_Pl_find (d + 30)) (qe_G1 (fg_T_played (d + 30)) qe_G0)))))
/-! TurnField.put(IJ)I -/
noncomputable def T_T_put (f_Ps_hasPlace : Int32 → qm_M → Option qm_R) (f_Pa_push : qm_M → Option qm_R) : qe_T := [(81, 1, 0, 1, qw_i f_Ps_hasPlace), (44, 0, 2, 0, qw_cc 4 1 f_Pa_push)]
def X_T_put_e (f_Ps_hasPlace : Int32 → qm_M → Option qm_R) (f_Pa_push : qm_M → Option qm_R) (v1 : Int32) (v2 : Int64) (m : qm_M) : Option qm_R :=
  qe_rI (f_Ps_hasPlace v1 m) fun x1 m1 =>
  if x1 = 0 then
    some (some (.int (-1 : Int32)), m1)
  else
    qe_b (qm_in v1 8) (
    if (lg_cmp (m1.2 2 (Int32.toNatClampNeg v1)) v2) = 0 then
      some (some (.int (-2 : Int32)), m1)
    else
      qe_rV (f_Pa_push m1) fun m2 =>
      qe_b (qm_in v1 8) (
      let m3 : qm_M := qm_sL m2 2 (Int32.toNatClampNeg v1) v2
      some (some (.int (1 : Int32)), m3)))
set_option maxRecDepth 100000 in
theorem xg_T_put_e {kp : pm_K} {d : Nat} {f_Ps_hasPlace : Int32 → qm_M → Option qm_R} {f_Pa_push : qm_M → Option qm_R} (hT : qe_G kp d (T_T_put f_Ps_hasPlace f_Pa_push)) (v1 : Int32) (v2 : Int64) (m : qm_M) : qe_J kp md_T_put d (X_T_put_e f_Ps_hasPlace f_Pa_push v1 v2 m) 0 [(0, .ref 0), (1, .int v1), (2, .long v2)] [] m := qe_run (B := []) (n := 1000) hT qe_B0 rfl
def F_T_put (v1 : Int32) (v2 : Int64) (m : qm_M) : Option qm_R := X_T_put_e F_Ps_hasPlace F_Pa_push v1 v2 m
theorem fj_T_put {kp : pm_K} {d : Nat} (hT : qe_G kp d (T_T_put F_Ps_hasPlace F_Pa_push)) (v1 : Int32) (v2 : Int64) (m : qm_M) : qe_J kp md_T_put d (F_T_put v1 v2 m) 0 [(0, .ref 0), (1, .int v1), (2, .long v2)] [] m := xg_T_put_e hT v1 v2 m
theorem fg_T_put {kp : pm_K} (d : Nat) : qe_GE kp (d + 4) (140, 0, 10, 1, qw_cil 0 F_T_put) := qe_entry (by decide +kernel) (qw_cil_ok (d := d + 3) rfl rfl (fj_T_put (qe_G1 (fg_Ps_hasPlace (d + 2)) (qe_G1 (fg_Pa_push (d + 0)) qe_G0))))
/-! TurnField.reckoned(JJI)J -/
noncomputable def T_T_reckoned (f_Nu_product : Int64 → Int64 → qm_M → Option qm_R) (f_Nu_inverted : Int64 → qm_M → Option qm_R) (f_Nu_rootOf : Int64 → qm_M → Option qm_R) (f_Nu_raisedTo : Int64 → Int64 → qm_M → Option qm_R) : qe_T := [(22, 1, 0, 2, qw_ll f_Nu_product), (28, 1, 0, 2, qw_l f_Nu_inverted), (27, 1, 0, 2, qw_l f_Nu_rootOf), (33, 1, 0, 2, qw_ll f_Nu_raisedTo)]
def X_T_reckoned_e (f_Nu_product : Int64 → Int64 → qm_M → Option qm_R) (f_Nu_inverted : Int64 → qm_M → Option qm_R) (f_Nu_rootOf : Int64 → qm_M → Option qm_R) (f_Nu_raisedTo : Int64 → Int64 → qm_M → Option qm_R) (v0 : Int64) (v2 : Int64) (v4 : Int32) (m : qm_M) : Option qm_R :=
  if Int32.toInt v4 = 0 then
    some (some (.long (v0 ^^^ v2)), m)
  else
   if Int32.toInt v4 = 1 then
     qe_rL (f_Nu_product v0 v2 m) fun x1 m1 =>
     some (some (.long x1), m1)
   else
    if Int32.toInt v4 = 2 then
      qe_rL (f_Nu_inverted v2 m) fun x2 m2 =>
      qe_rL (f_Nu_product v0 x2 m2) fun x3 m3 =>
      some (some (.long x3), m3)
    else
     if Int32.toInt v4 = 3 then
       qe_rL (f_Nu_rootOf v0 m) fun x4 m4 =>
       some (some (.long x4), m4)
     else
       qe_rL (f_Nu_raisedTo v0 v2 m) fun x5 m5 =>
       some (some (.long x5), m5)
set_option maxRecDepth 100000 in
theorem xg_T_reckoned_e {kp : pm_K} {d : Nat} {f_Nu_product : Int64 → Int64 → qm_M → Option qm_R} {f_Nu_inverted : Int64 → qm_M → Option qm_R} {f_Nu_rootOf : Int64 → qm_M → Option qm_R} {f_Nu_raisedTo : Int64 → Int64 → qm_M → Option qm_R} (hT : qe_G kp d (T_T_reckoned f_Nu_product f_Nu_inverted f_Nu_rootOf f_Nu_raisedTo)) (v0 : Int64) (v2 : Int64) (v4 : Int32) (m : qm_M) : qe_J kp md_T_reckoned d (X_T_reckoned_e f_Nu_product f_Nu_inverted f_Nu_rootOf f_Nu_raisedTo v0 v2 v4 m) 0 [(0, .long v0), (2, .long v2), (4, .int v4)] [] m := qe_run (B := []) (n := 1000) hT qe_B0 rfl
def F_T_reckoned (v0 : Int64) (v2 : Int64) (v4 : Int32) (m : qm_M) : Option qm_R := X_T_reckoned_e F_Nu_product F_Nu_inverted F_Nu_rootOf F_Nu_raisedTo v0 v2 v4 m
theorem fj_T_reckoned {kp : pm_K} {d : Nat} (hT : qe_G kp d (T_T_reckoned F_Nu_product F_Nu_inverted F_Nu_rootOf F_Nu_raisedTo)) (v0 : Int64) (v2 : Int64) (v4 : Int32) (m : qm_M) : qe_J kp md_T_reckoned d (F_T_reckoned v0 v2 v4 m) 0 [(0, .long v0), (2, .long v2), (4, .int v4)] [] m := xg_T_reckoned_e hT v0 v2 v4 m
theorem fg_T_reckoned {kp : pm_K} (d : Nat) : qe_GE kp (d + 35) (142, 1, 0, 2, qw_lli F_T_reckoned) := qe_entry (by decide +kernel) (qw_lli_ok (d := d + 34) rfl rfl (fj_T_reckoned (qe_G1 (fg_Nu_product (d + 1)) (qe_G1 (fg_Nu_inverted (d + 1)) (qe_G1 (fg_Nu_rootOf (d + 11)) (qe_G1 (fg_Nu_raisedTo (d + 0)) qe_G0))))))
/-! TurnField.reckon(IIII)I -/
noncomputable def T_T_reckon (f_Ps_hasPlace : Int32 → qm_M → Option qm_R) (f_Pa_push : qm_M → Option qm_R) (f_T_reckoned : Int64 → Int64 → Int32 → qm_M → Option qm_R) : qe_T := [(81, 1, 0, 1, qw_i f_Ps_hasPlace), (44, 0, 2, 0, qw_cc 4 1 f_Pa_push), (142, 1, 0, 2, qw_lli f_T_reckoned)]
def X_T_reckon_91 (f_Ps_hasPlace : Int32 → qm_M → Option qm_R) (f_Pa_push : qm_M → Option qm_R) (f_T_reckoned : Int64 → Int64 → Int32 → qm_M → Option qm_R) (v1 : Int32) (v4 : Int32) (v5 : Int64) (v7 : Int64) (m : qm_M) : Option qm_R :=
  qe_rV (f_Pa_push m) fun m1 =>
  qe_rL (f_T_reckoned v5 v7 v4 m1) fun x1 m2 =>
  qe_b (qm_in v1 8) (
  let m3 : qm_M := qm_sL m2 2 (Int32.toNatClampNeg v1) x1
  some (some (.int (1 : Int32)), m3))
set_option maxRecDepth 100000 in
theorem xg_T_reckon_91 {kp : pm_K} {d : Nat} {f_Ps_hasPlace : Int32 → qm_M → Option qm_R} {f_Pa_push : qm_M → Option qm_R} {f_T_reckoned : Int64 → Int64 → Int32 → qm_M → Option qm_R} (hT : qe_G kp d (T_T_reckon f_Ps_hasPlace f_Pa_push f_T_reckoned)) (v1 : Int32) (v4 : Int32) (v5 : Int64) (v7 : Int64) (m : qm_M) : qe_J kp md_T_reckon d (X_T_reckon_91 f_Ps_hasPlace f_Pa_push f_T_reckoned v1 v4 v5 v7 m) 91 [(0, .ref 0), (1, .int v1), (4, .int v4), (5, .long v5), (7, .long v7)] [] m := qe_run (B := []) (n := 1000) hT qe_B0 rfl
def L_T_reckon_91 (v1 : Int32) (v4 : Int32) (v5 : Int64) (v7 : Int64) (m : qm_M) : Option qm_R := X_T_reckon_91 F_Ps_hasPlace F_Pa_push F_T_reckoned v1 v4 v5 v7 m
theorem lg_T_reckon_91 {kp : pm_K} {d : Nat} (hT : qe_G kp d (T_T_reckon F_Ps_hasPlace F_Pa_push F_T_reckoned)) (v1 : Int32) (v4 : Int32) (v5 : Int64) (v7 : Int64) (m : qm_M) : qe_J kp md_T_reckon d (L_T_reckon_91 v1 v4 v5 v7 m) 91 [(0, .ref 0), (1, .int v1), (4, .int v4), (5, .long v5), (7, .long v7)] [] m := xg_T_reckon_91 hT v1 v4 v5 v7 m
def X_T_reckon_73 (f_Ps_hasPlace : Int32 → qm_M → Option qm_R) (f_Pa_push : qm_M → Option qm_R) (f_T_reckoned : Int64 → Int64 → Int32 → qm_M → Option qm_R) (l91 : Int32 → Int32 → Int64 → Int64 → qm_M → Option qm_R) (v1 : Int32) (v4 : Int32) (v5 : Int64) (s0 : Int64) (m : qm_M) : Option qm_R :=
  if v4 = (2 : Int32) then
    if (lg_cmp s0 (0 : Int64)) = 0 then
      some (some (.int (-2 : Int32)), m)
    else
      l91 v1 v4 v5 s0 m
  else
    l91 v1 v4 v5 s0 m
set_option maxRecDepth 100000 in
theorem xg_T_reckon_73 {kp : pm_K} {d : Nat} {f_Ps_hasPlace : Int32 → qm_M → Option qm_R} {f_Pa_push : qm_M → Option qm_R} {f_T_reckoned : Int64 → Int64 → Int32 → qm_M → Option qm_R} {l91 : Int32 → Int32 → Int64 → Int64 → qm_M → Option qm_R} (hT : qe_G kp d (T_T_reckon f_Ps_hasPlace f_Pa_push f_T_reckoned)) (h91 : ∀ (v1 : Int32) (v4 : Int32) (v5 : Int64) (v7 : Int64) (m : qm_M), qe_J kp md_T_reckon d (l91 v1 v4 v5 v7 m) 91 [(0, .ref 0), (1, .int v1), (4, .int v4), (5, .long v5), (7, .long v7)] [] m) (v1 : Int32) (v4 : Int32) (v5 : Int64) (s0 : Int64) (m : qm_M) : qe_J kp md_T_reckon d (X_T_reckon_73 f_Ps_hasPlace f_Pa_push f_T_reckoned l91 v1 v4 v5 s0 m) 73 [(0, .ref 0), (1, .int v1), (4, .int v4), (5, .long v5)] [.long s0] m := qe_run (B := [(91, [0, 1, 4, 5, 7], qp_ciill_ 0 l91)]) (n := 1000) hT (qe_B1 (qp_ciill__ok h91) qe_B0) rfl
def L_T_reckon_73 (v1 : Int32) (v4 : Int32) (v5 : Int64) (s0 : Int64) (m : qm_M) : Option qm_R := X_T_reckon_73 F_Ps_hasPlace F_Pa_push F_T_reckoned (L_T_reckon_91) v1 v4 v5 s0 m
theorem lg_T_reckon_73 {kp : pm_K} {d : Nat} (hT : qe_G kp d (T_T_reckon F_Ps_hasPlace F_Pa_push F_T_reckoned)) (v1 : Int32) (v4 : Int32) (v5 : Int64) (s0 : Int64) (m : qm_M) : qe_J kp md_T_reckon d (L_T_reckon_73 v1 v4 v5 s0 m) 73 [(0, .ref 0), (1, .int v1), (4, .int v4), (5, .long v5)] [.long s0] m := xg_T_reckon_73 hT (lg_T_reckon_91 hT) v1 v4 v5 s0 m
def X_T_reckon_42 (f_Ps_hasPlace : Int32 → qm_M → Option qm_R) (f_Pa_push : qm_M → Option qm_R) (f_T_reckoned : Int64 → Int64 → Int32 → qm_M → Option qm_R) (l73 : Int32 → Int32 → Int64 → Int64 → qm_M → Option qm_R) (v1 : Int32) (v2 : Int32) (v3 : Int32) (v4 : Int32) (m : qm_M) : Option qm_R :=
  qe_b (qm_in v2 8) (
  qe_rI (f_Ps_hasPlace v3 m) fun x1 m1 =>
  if x1 = 0 then
    l73 v1 v4 (m.2 2 (Int32.toNatClampNeg v2)) (0 : Int64) m1
  else
    qe_b (qm_in v3 8) (
    l73 v1 v4 (m.2 2 (Int32.toNatClampNeg v2)) (m1.2 2 (Int32.toNatClampNeg v3)) m1))
set_option maxRecDepth 100000 in
theorem xg_T_reckon_42 {kp : pm_K} {d : Nat} {f_Ps_hasPlace : Int32 → qm_M → Option qm_R} {f_Pa_push : qm_M → Option qm_R} {f_T_reckoned : Int64 → Int64 → Int32 → qm_M → Option qm_R} {l73 : Int32 → Int32 → Int64 → Int64 → qm_M → Option qm_R} (hT : qe_G kp d (T_T_reckon f_Ps_hasPlace f_Pa_push f_T_reckoned)) (h73 : ∀ (v1 : Int32) (v4 : Int32) (v5 : Int64) (s0 : Int64) (m : qm_M), qe_J kp md_T_reckon d (l73 v1 v4 v5 s0 m) 73 [(0, .ref 0), (1, .int v1), (4, .int v4), (5, .long v5)] [.long s0] m) (v1 : Int32) (v2 : Int32) (v3 : Int32) (v4 : Int32) (m : qm_M) : qe_J kp md_T_reckon d (X_T_reckon_42 f_Ps_hasPlace f_Pa_push f_T_reckoned l73 v1 v2 v3 v4 m) 42 [(0, .ref 0), (1, .int v1), (2, .int v2), (3, .int v3), (4, .int v4)] [] m := qe_run (B := [(73, [0, 1, 4, 5], qp_ciil_l 0 l73)]) (n := 1000) hT (qe_B1 (qp_ciil_l_ok h73) qe_B0) rfl
def L_T_reckon_42 (v1 : Int32) (v2 : Int32) (v3 : Int32) (v4 : Int32) (m : qm_M) : Option qm_R := X_T_reckon_42 F_Ps_hasPlace F_Pa_push F_T_reckoned (L_T_reckon_73) v1 v2 v3 v4 m
theorem lg_T_reckon_42 {kp : pm_K} {d : Nat} (hT : qe_G kp d (T_T_reckon F_Ps_hasPlace F_Pa_push F_T_reckoned)) (v1 : Int32) (v2 : Int32) (v3 : Int32) (v4 : Int32) (m : qm_M) : qe_J kp md_T_reckon d (L_T_reckon_42 v1 v2 v3 v4 m) 42 [(0, .ref 0), (1, .int v1), (2, .int v2), (3, .int v3), (4, .int v4)] [] m := xg_T_reckon_42 hT (lg_T_reckon_73 hT) v1 v2 v3 v4 m
def X_T_reckon_e (f_Ps_hasPlace : Int32 → qm_M → Option qm_R) (f_Pa_push : qm_M → Option qm_R) (f_T_reckoned : Int64 → Int64 → Int32 → qm_M → Option qm_R) (l42 : Int32 → Int32 → Int32 → Int32 → qm_M → Option qm_R) (v1 : Int32) (v2 : Int32) (v3 : Int32) (v4 : Int32) (m : qm_M) : Option qm_R :=
  if v4 < 0 then
    some (some (.int (-1 : Int32)), m)
  else
    if (4 : Int32) < v4 then
      some (some (.int (-1 : Int32)), m)
    else
      qe_rI (f_Ps_hasPlace v1 m) fun x1 m1 =>
      if x1 = 0 then
        some (some (.int (-1 : Int32)), m1)
      else
        qe_rI (f_Ps_hasPlace v2 m1) fun x2 m2 =>
        if x2 = 0 then
          some (some (.int (-1 : Int32)), m2)
        else
          if v4 = (3 : Int32) then
            l42 v1 v2 v3 v4 m2
          else
            qe_rI (f_Ps_hasPlace v3 m2) fun x3 m3 =>
            if x3 = 0 then
              some (some (.int (-1 : Int32)), m3)
            else
              l42 v1 v2 v3 v4 m3
set_option maxRecDepth 100000 in
theorem xg_T_reckon_e {kp : pm_K} {d : Nat} {f_Ps_hasPlace : Int32 → qm_M → Option qm_R} {f_Pa_push : qm_M → Option qm_R} {f_T_reckoned : Int64 → Int64 → Int32 → qm_M → Option qm_R} {l42 : Int32 → Int32 → Int32 → Int32 → qm_M → Option qm_R} (hT : qe_G kp d (T_T_reckon f_Ps_hasPlace f_Pa_push f_T_reckoned)) (h42 : ∀ (v1 : Int32) (v2 : Int32) (v3 : Int32) (v4 : Int32) (m : qm_M), qe_J kp md_T_reckon d (l42 v1 v2 v3 v4 m) 42 [(0, .ref 0), (1, .int v1), (2, .int v2), (3, .int v3), (4, .int v4)] [] m) (v1 : Int32) (v2 : Int32) (v3 : Int32) (v4 : Int32) (m : qm_M) : qe_J kp md_T_reckon d (X_T_reckon_e f_Ps_hasPlace f_Pa_push f_T_reckoned l42 v1 v2 v3 v4 m) 0 [(0, .ref 0), (1, .int v1), (2, .int v2), (3, .int v3), (4, .int v4)] [] m := qe_run (B := [(42, [0, 1, 2, 3, 4], qp_ciiii_ 0 l42)]) (n := 1000) hT (qe_B1 (qp_ciiii__ok h42) qe_B0) rfl
def F_T_reckon (v1 : Int32) (v2 : Int32) (v3 : Int32) (v4 : Int32) (m : qm_M) : Option qm_R := X_T_reckon_e F_Ps_hasPlace F_Pa_push F_T_reckoned (L_T_reckon_42) v1 v2 v3 v4 m
theorem fj_T_reckon {kp : pm_K} {d : Nat} (hT : qe_G kp d (T_T_reckon F_Ps_hasPlace F_Pa_push F_T_reckoned)) (v1 : Int32) (v2 : Int32) (v3 : Int32) (v4 : Int32) (m : qm_M) : qe_J kp md_T_reckon d (F_T_reckon v1 v2 v3 v4 m) 0 [(0, .ref 0), (1, .int v1), (2, .int v2), (3, .int v3), (4, .int v4)] [] m := xg_T_reckon_e hT (lg_T_reckon_42 hT) v1 v2 v3 v4 m
theorem fg_T_reckon {kp : pm_K} (d : Nat) : qe_GE kp (d + 36) (141, 0, 10, 1, qw_ciiii 0 F_T_reckon) := qe_entry (by decide +kernel) (qw_ciiii_ok (d := d + 35) rfl rfl (fj_T_reckon (qe_G1 (fg_Ps_hasPlace (d + 34)) (qe_G1 (fg_Pa_push (d + 32)) (qe_G1 (fg_T_reckoned (d + 0)) qe_G0)))))
/-! TurnField.undo()I -/
noncomputable def T_T_undo (f_Pa_pop : qm_M → Option qm_R) : qe_T := [(47, 0, 2, 0, qw_cc 4 1 f_Pa_pop)]
def X_T_undo_e (f_Pa_pop : qm_M → Option qm_R)  (m : qm_M) : Option qm_R :=
  if (m.1 4 2) = 0 then
    some (some (.int (-1 : Int32)), m)
  else
    qe_rV (f_Pa_pop m) fun m1 =>
    some (some (.int (m1.1 4 2)), m1)
set_option maxRecDepth 100000 in
theorem xg_T_undo_e {kp : pm_K} {d : Nat} {f_Pa_pop : qm_M → Option qm_R} (hT : qe_G kp d (T_T_undo f_Pa_pop)) (m : qm_M) : qe_J kp md_T_undo d (X_T_undo_e f_Pa_pop m) 0 [(0, .ref 0)] [] m := qe_run (B := []) (n := 1000) hT qe_B0 rfl
def F_T_undo (m : qm_M) : Option qm_R := X_T_undo_e F_Pa_pop m
theorem fj_T_undo {kp : pm_K} {d : Nat} (hT : qe_G kp d (T_T_undo F_Pa_pop)) (m : qm_M) : qe_J kp md_T_undo d (F_T_undo m) 0 [(0, .ref 0)] [] m := xg_T_undo_e hT m
theorem fg_T_undo {kp : pm_K} (d : Nat) : qe_GE kp (d + 4) (143, 0, 10, 1, qw_c 0 F_T_undo) := qe_entry (by decide +kernel) (qw_c_ok (d := d + 3) rfl rfl (fj_T_undo (qe_G1 (fg_Pa_pop (d + 0)) qe_G0)))
/-! TurnField.hasShelf(I)Z -/
noncomputable def T_T_hasShelf : qe_T := []
def X_T_hasShelf_e (v1 : Int32) (m : qm_M) : Option qm_R :=
  if v1 < 0 then
    some (some (.int (0 : Int32)), m)
  else
    if v1 < (2 : Int32) then
      some (some (.int (1 : Int32)), m)
    else
      some (some (.int (0 : Int32)), m)
set_option maxRecDepth 100000 in
theorem xg_T_hasShelf_e {kp : pm_K} {d : Nat} (hT : qe_G kp d (T_T_hasShelf)) (v1 : Int32) (m : qm_M) : qe_J kp md_T_hasShelf d (X_T_hasShelf_e v1 m) 0 [(0, .ref 0), (1, .int v1)] [] m := qe_run (B := []) (n := 1000) hT qe_B0 rfl
def F_T_hasShelf (v1 : Int32) (m : qm_M) : Option qm_R := X_T_hasShelf_e v1 m
theorem fj_T_hasShelf {kp : pm_K} {d : Nat} (hT : qe_G kp d (T_T_hasShelf)) (v1 : Int32) (m : qm_M) : qe_J kp md_T_hasShelf d (F_T_hasShelf v1 m) 0 [(0, .ref 0), (1, .int v1)] [] m := xg_T_hasShelf_e hT v1 m
theorem fg_T_hasShelf {kp : pm_K} (d : Nat) : qe_GE kp (d + 1) (146, 0, 10, 1, qw_ci 0 F_T_hasShelf) := qe_entry (by decide +kernel) (qw_ci_ok (d := d + 0) rfl rfl (fj_T_hasShelf qe_G0))
/-! TurnField.keep(I)I -/
noncomputable def T_T_keep (f_T_hasShelf : Int32 → qm_M → Option qm_R) (f_Ps_become : Nat → Nat → qm_M → Option qm_R) (f_Ps_headsShown : Nat → qm_M → Option qm_R) : qe_T := [(146, 0, 10, 1, qw_ci 0 f_T_hasShelf), (80, 0, 5, 0, qw_rr f_Ps_become), (86, 0, 5, 1, qw_r f_Ps_headsShown)]
def X_T_keep_e (f_T_hasShelf : Int32 → qm_M → Option qm_R) (f_Ps_become : Nat → Nat → qm_M → Option qm_R) (f_Ps_headsShown : Nat → qm_M → Option qm_R) (v1 : Int32) (m : qm_M) : Option qm_R :=
  qe_rI (f_T_hasShelf v1 m) fun x1 m1 =>
  if x1 = 0 then
    some (some (.int (-1 : Int32)), m1)
  else
    qe_b (qm_in v1 2) (
    qe_b (qm_isO (qm_rf 36 (Int32.toNatClampNeg v1)) 5) (
    qe_rV (f_Ps_become (qm_rf 36 (Int32.toNatClampNeg v1)) 1 m1) fun m2 =>
    qe_b (qm_in v1 2) (
    qe_b (qm_isO (qm_rf 36 (Int32.toNatClampNeg v1)) 5) (
    let m3 : qm_M := qm_sI m2 (qm_rf 36 (Int32.toNatClampNeg v1)) 11 (1 : Int32)
    qe_rI (f_Ps_headsShown 1 m3) fun x2 m4 =>
    some (some (.int x2), m4)))))
set_option maxRecDepth 100000 in
theorem xg_T_keep_e {kp : pm_K} {d : Nat} {f_T_hasShelf : Int32 → qm_M → Option qm_R} {f_Ps_become : Nat → Nat → qm_M → Option qm_R} {f_Ps_headsShown : Nat → qm_M → Option qm_R} (hT : qe_G kp d (T_T_keep f_T_hasShelf f_Ps_become f_Ps_headsShown)) (v1 : Int32) (m : qm_M) : qe_J kp md_T_keep d (X_T_keep_e f_T_hasShelf f_Ps_become f_Ps_headsShown v1 m) 0 [(0, .ref 0), (1, .int v1)] [] m := qe_run (B := []) (n := 1000) hT qe_B0 rfl
def F_T_keep (v1 : Int32) (m : qm_M) : Option qm_R := X_T_keep_e F_T_hasShelf F_Ps_become F_Ps_headsShown v1 m
theorem fj_T_keep {kp : pm_K} {d : Nat} (hT : qe_G kp d (T_T_keep F_T_hasShelf F_Ps_become F_Ps_headsShown)) (v1 : Int32) (m : qm_M) : qe_J kp md_T_keep d (F_T_keep v1 m) 0 [(0, .ref 0), (1, .int v1)] [] m := xg_T_keep_e hT v1 m
theorem fg_T_keep {kp : pm_K} (d : Nat) : qe_GE kp (d + 3) (144, 0, 10, 1, qw_ci 0 F_T_keep) := qe_entry (by decide +kernel) (qw_ci_ok (d := d + 2) rfl rfl (fj_T_keep (qe_G1 (fg_T_hasShelf (d + 1)) (qe_G1 (fg_Ps_become (d + 0)) (qe_G1 (fg_Ps_headsShown (d + 0)) qe_G0)))))
/-! TurnField.back(I)I -/
noncomputable def T_T_back (f_T_hasShelf : Int32 → qm_M → Option qm_R) (f_Pa_push : qm_M → Option qm_R) (f_Ps_become : Nat → Nat → qm_M → Option qm_R) (f_Ps_headsShown : Nat → qm_M → Option qm_R) : qe_T := [(146, 0, 10, 1, qw_ci 0 f_T_hasShelf), (44, 0, 2, 0, qw_cc 4 1 f_Pa_push), (80, 0, 5, 0, qw_rr f_Ps_become), (86, 0, 5, 1, qw_r f_Ps_headsShown)]
def X_T_back_e (f_T_hasShelf : Int32 → qm_M → Option qm_R) (f_Pa_push : qm_M → Option qm_R) (f_Ps_become : Nat → Nat → qm_M → Option qm_R) (f_Ps_headsShown : Nat → qm_M → Option qm_R) (v1 : Int32) (m : qm_M) : Option qm_R :=
  qe_rI (f_T_hasShelf v1 m) fun x1 m1 =>
  if x1 = 0 then
    some (some (.int (-1 : Int32)), m1)
  else
    qe_b (qm_in v1 2) (
    qe_b (qm_isO (qm_rf 36 (Int32.toNatClampNeg v1)) 5) (
    if (m1.1 (qm_rf 36 (Int32.toNatClampNeg v1)) 11) = 0 then
      some (some (.int (-2 : Int32)), m1)
    else
      qe_rV (f_Pa_push m1) fun m2 =>
      qe_b (qm_in v1 2) (
      qe_rV (f_Ps_become 1 (qm_rf 36 (Int32.toNatClampNeg v1)) m2) fun m3 =>
      qe_rI (f_Ps_headsShown 1 m3) fun x2 m4 =>
      some (some (.int x2), m4))))
set_option maxRecDepth 100000 in
theorem xg_T_back_e {kp : pm_K} {d : Nat} {f_T_hasShelf : Int32 → qm_M → Option qm_R} {f_Pa_push : qm_M → Option qm_R} {f_Ps_become : Nat → Nat → qm_M → Option qm_R} {f_Ps_headsShown : Nat → qm_M → Option qm_R} (hT : qe_G kp d (T_T_back f_T_hasShelf f_Pa_push f_Ps_become f_Ps_headsShown)) (v1 : Int32) (m : qm_M) : qe_J kp md_T_back d (X_T_back_e f_T_hasShelf f_Pa_push f_Ps_become f_Ps_headsShown v1 m) 0 [(0, .ref 0), (1, .int v1)] [] m := qe_run (B := []) (n := 1000) hT qe_B0 rfl
def F_T_back (v1 : Int32) (m : qm_M) : Option qm_R := X_T_back_e F_T_hasShelf F_Pa_push F_Ps_become F_Ps_headsShown v1 m
theorem fj_T_back {kp : pm_K} {d : Nat} (hT : qe_G kp d (T_T_back F_T_hasShelf F_Pa_push F_Ps_become F_Ps_headsShown)) (v1 : Int32) (m : qm_M) : qe_J kp md_T_back d (F_T_back v1 m) 0 [(0, .ref 0), (1, .int v1)] [] m := xg_T_back_e hT v1 m
theorem fg_T_back {kp : pm_K} (d : Nat) : qe_GE kp (d + 4) (145, 0, 10, 1, qw_ci 0 F_T_back) := qe_entry (by decide +kernel) (qw_ci_ok (d := d + 3) rfl rfl (fj_T_back (qe_G1 (fg_T_hasShelf (d + 2)) (qe_G1 (fg_Pa_push (d + 0)) (qe_G1 (fg_Ps_become (d + 1)) (qe_G1 (fg_Ps_headsShown (d + 1)) qe_G0))))))
/-! TurnField.grid(II)I -/
noncomputable def T_T_grid (f_Pa_push : qm_M → Option qm_R) (f_Ps_clearGrid : Nat → Int32 → Int32 → qm_M → Option qm_R) : qe_T := [(44, 0, 2, 0, qw_cc 4 1 f_Pa_push), (94, 0, 5, 0, qw_rii f_Ps_clearGrid)]
def X_T_grid_e (f_Pa_push : qm_M → Option qm_R) (f_Ps_clearGrid : Nat → Int32 → Int32 → qm_M → Option qm_R) (v1 : Int32) (v2 : Int32) (m : qm_M) : Option qm_R :=
  if v1 < (1 : Int32) then
    some (some (.int (-1 : Int32)), m)
  else
    if (4 : Int32) < v1 then
      some (some (.int (-1 : Int32)), m)
    else
      if v2 < (1 : Int32) then
        some (some (.int (-1 : Int32)), m)
      else
        if (4 : Int32) < v2 then
          some (some (.int (-1 : Int32)), m)
        else
          qe_rV (f_Pa_push m) fun m1 =>
          qe_rV (f_Ps_clearGrid 1 v1 v2 m1) fun m2 =>
          some (some (.int (v1 * v2)), m2)
set_option maxRecDepth 100000 in
theorem xg_T_grid_e {kp : pm_K} {d : Nat} {f_Pa_push : qm_M → Option qm_R} {f_Ps_clearGrid : Nat → Int32 → Int32 → qm_M → Option qm_R} (hT : qe_G kp d (T_T_grid f_Pa_push f_Ps_clearGrid)) (v1 : Int32) (v2 : Int32) (m : qm_M) : qe_J kp md_T_grid d (X_T_grid_e f_Pa_push f_Ps_clearGrid v1 v2 m) 0 [(0, .ref 0), (1, .int v1), (2, .int v2)] [] m := qe_run (B := []) (n := 1000) hT qe_B0 rfl
def F_T_grid (v1 : Int32) (v2 : Int32) (m : qm_M) : Option qm_R := X_T_grid_e F_Pa_push F_Ps_clearGrid v1 v2 m
theorem fj_T_grid {kp : pm_K} {d : Nat} (hT : qe_G kp d (T_T_grid F_Pa_push F_Ps_clearGrid)) (v1 : Int32) (v2 : Int32) (m : qm_M) : qe_J kp md_T_grid d (F_T_grid v1 v2 m) 0 [(0, .ref 0), (1, .int v1), (2, .int v2)] [] m := xg_T_grid_e hT v1 v2 m
theorem fg_T_grid {kp : pm_K} (d : Nat) : qe_GE kp (d + 4) (147, 0, 10, 1, qw_cii 0 F_T_grid) := qe_entry (by decide +kernel) (qw_cii_ok (d := d + 3) rfl rfl (fj_T_grid (qe_G1 (fg_Pa_push (d + 0)) (qe_G1 (fg_Ps_clearGrid (d + 2)) qe_G0))))
/-! TurnField.enter(IIJ)I -/
noncomputable def T_T_enter (f_Ps_hasEntry : Nat → Int32 → Int32 → qm_M → Option qm_R) (f_Ps_entryAt : Nat → Int32 → Int32 → qm_M → Option qm_R) (f_Pa_push : qm_M → Option qm_R) (f_Ps_setEntry : Nat → Int32 → Int32 → Int64 → qm_M → Option qm_R) : qe_T := [(91, 0, 5, 1, qw_rii f_Ps_hasEntry), (92, 0, 5, 2, qw_rii f_Ps_entryAt), (44, 0, 2, 0, qw_cc 4 1 f_Pa_push), (93, 0, 5, 0, qw_riil f_Ps_setEntry)]
def X_T_enter_e (f_Ps_hasEntry : Nat → Int32 → Int32 → qm_M → Option qm_R) (f_Ps_entryAt : Nat → Int32 → Int32 → qm_M → Option qm_R) (f_Pa_push : qm_M → Option qm_R) (f_Ps_setEntry : Nat → Int32 → Int32 → Int64 → qm_M → Option qm_R) (v1 : Int32) (v2 : Int32) (v3 : Int64) (m : qm_M) : Option qm_R :=
  qe_rI (f_Ps_hasEntry 1 v1 v2 m) fun x1 m1 =>
  if x1 = 0 then
    some (some (.int (-1 : Int32)), m1)
  else
    qe_rL (f_Ps_entryAt 1 v1 v2 m1) fun x2 m2 =>
    if (lg_cmp x2 v3) = 0 then
      some (some (.int (-2 : Int32)), m2)
    else
      qe_rV (f_Pa_push m2) fun m3 =>
      qe_rV (f_Ps_setEntry 1 v1 v2 v3 m3) fun m4 =>
      some (some (.int (1 : Int32)), m4)
set_option maxRecDepth 100000 in
theorem xg_T_enter_e {kp : pm_K} {d : Nat} {f_Ps_hasEntry : Nat → Int32 → Int32 → qm_M → Option qm_R} {f_Ps_entryAt : Nat → Int32 → Int32 → qm_M → Option qm_R} {f_Pa_push : qm_M → Option qm_R} {f_Ps_setEntry : Nat → Int32 → Int32 → Int64 → qm_M → Option qm_R} (hT : qe_G kp d (T_T_enter f_Ps_hasEntry f_Ps_entryAt f_Pa_push f_Ps_setEntry)) (v1 : Int32) (v2 : Int32) (v3 : Int64) (m : qm_M) : qe_J kp md_T_enter d (X_T_enter_e f_Ps_hasEntry f_Ps_entryAt f_Pa_push f_Ps_setEntry v1 v2 v3 m) 0 [(0, .ref 0), (1, .int v1), (2, .int v2), (3, .long v3)] [] m := qe_run (B := []) (n := 1000) hT qe_B0 rfl
def F_T_enter (v1 : Int32) (v2 : Int32) (v3 : Int64) (m : qm_M) : Option qm_R := X_T_enter_e F_Ps_hasEntry F_Ps_entryAt F_Pa_push F_Ps_setEntry v1 v2 v3 m
theorem fj_T_enter {kp : pm_K} {d : Nat} (hT : qe_G kp d (T_T_enter F_Ps_hasEntry F_Ps_entryAt F_Pa_push F_Ps_setEntry)) (v1 : Int32) (v2 : Int32) (v3 : Int64) (m : qm_M) : qe_J kp md_T_enter d (F_T_enter v1 v2 v3 m) 0 [(0, .ref 0), (1, .int v1), (2, .int v2), (3, .long v3)] [] m := xg_T_enter_e hT v1 v2 v3 m
theorem fg_T_enter {kp : pm_K} (d : Nat) : qe_GE kp (d + 4) (148, 0, 10, 1, qw_ciil 0 F_T_enter) := qe_entry (by decide +kernel) (qw_ciil_ok (d := d + 3) rfl rfl (fj_T_enter (qe_G1 (fg_Ps_hasEntry (d + 2)) (qe_G1 (fg_Ps_entryAt (d + 1)) (qe_G1 (fg_Pa_push (d + 0)) (qe_G1 (fg_Ps_setEntry (d + 1)) qe_G0))))))
/-! TurnField.sharedOut(LTurnField$Position;ILTurnField$Position;I)J -/
noncomputable def T_T_sharedOut (f_Ps_entryAt : Nat → Int32 → Int32 → qm_M → Option qm_R) (f_Nu_product : Int64 → Int64 → qm_M → Option qm_R) : qe_T := [(92, 0, 5, 2, qw_rii f_Ps_entryAt), (22, 1, 0, 2, qw_ll f_Nu_product)]
def X_T_sharedOut_6 (f_Ps_entryAt : Nat → Int32 → Int32 → qm_M → Option qm_R) (f_Nu_product : Int64 → Int64 → qm_M → Option qm_R) (l6 : Nat → Int32 → Nat → Int32 → Int64 → Int32 → qm_M → Option qm_R) (v0 : Nat) (v1 : Int32) (v2 : Nat) (v3 : Int32) (v4 : Int64) (v6 : Int32) (m : qm_M) : Option qm_R :=
  qe_b (qm_isO v0 5) (
  if v6 < (m.1 v0 9) then
    qe_b (qm_isO v0 5) (
    qe_rL (f_Ps_entryAt v0 v1 v6 m) fun x1 m1 =>
    qe_b (qm_isO v2 5) (
    qe_rL (f_Ps_entryAt v2 v6 v3 m1) fun x2 m2 =>
    qe_rL (f_Nu_product x1 x2 m2) fun x3 m3 =>
    l6 v0 v1 v2 v3 (v4 ^^^ x3) (v6 + (1 : Int32)) m3))
  else
    some (some (.long v4), m))
set_option maxRecDepth 100000 in
theorem xg_T_sharedOut_6 {kp : pm_K} {d : Nat} {f_Ps_entryAt : Nat → Int32 → Int32 → qm_M → Option qm_R} {f_Nu_product : Int64 → Int64 → qm_M → Option qm_R} {l6 : Nat → Int32 → Nat → Int32 → Int64 → Int32 → qm_M → Option qm_R} (hT : qe_G kp d (T_T_sharedOut f_Ps_entryAt f_Nu_product)) (h6 : ∀ (v0 : Nat) (v1 : Int32) (v2 : Nat) (v3 : Int32) (v4 : Int64) (v6 : Int32) (m : qm_M), qe_J kp md_T_sharedOut d (l6 v0 v1 v2 v3 v4 v6 m) 6 [(0, .ref v0), (1, .int v1), (2, .ref v2), (3, .int v3), (4, .long v4), (6, .int v6)] [] m) (v0 : Nat) (v1 : Int32) (v2 : Nat) (v3 : Int32) (v4 : Int64) (v6 : Int32) (m : qm_M) : qe_J kp md_T_sharedOut d (X_T_sharedOut_6 f_Ps_entryAt f_Nu_product l6 v0 v1 v2 v3 v4 v6 m) 6 [(0, .ref v0), (1, .int v1), (2, .ref v2), (3, .int v3), (4, .long v4), (6, .int v6)] [] m := qe_run (B := [(6, [0, 1, 2, 3, 4, 6], qp_ririli_ l6)]) (n := 1000) hT (qe_B1 (qp_ririli__ok h6) qe_B0) rfl
def L_T_sharedOut_6 : Nat → Nat → Int32 → Nat → Int32 → Int64 → Int32 → qm_M → Option qm_R
  | 0, _, _, _, _, _, _, _ => none
  | n + 1, v0, v1, v2, v3, v4, v6, m => X_T_sharedOut_6 F_Ps_entryAt F_Nu_product (L_T_sharedOut_6 n) v0 v1 v2 v3 v4 v6 m
theorem lg_T_sharedOut_6 {kp : pm_K} {d : Nat} (hT : qe_G kp d (T_T_sharedOut F_Ps_entryAt F_Nu_product)) : ∀ (n : Nat) (v0 : Nat) (v1 : Int32) (v2 : Nat) (v3 : Int32) (v4 : Int64) (v6 : Int32) (m : qm_M), qe_J kp md_T_sharedOut d (L_T_sharedOut_6 n v0 v1 v2 v3 v4 v6 m) 6 [(0, .ref v0), (1, .int v1), (2, .ref v2), (3, .int v3), (4, .long v4), (6, .int v6)] [] m
  | 0, v0, v1, v2, v3, v4, v6, m => qe_none rfl
  | n + 1, v0, v1, v2, v3, v4, v6, m => xg_T_sharedOut_6 hT (lg_T_sharedOut_6 hT n) v0 v1 v2 v3 v4 v6 m
def X_T_sharedOut_e (f_Ps_entryAt : Nat → Int32 → Int32 → qm_M → Option qm_R) (f_Nu_product : Int64 → Int64 → qm_M → Option qm_R) (l6 : Nat → Int32 → Nat → Int32 → Int64 → Int32 → qm_M → Option qm_R) (v0 : Nat) (v1 : Int32) (v2 : Nat) (v3 : Int32) (m : qm_M) : Option qm_R :=
  l6 v0 v1 v2 v3 (0 : Int64) (0 : Int32) m
set_option maxRecDepth 100000 in
theorem xg_T_sharedOut_e {kp : pm_K} {d : Nat} {f_Ps_entryAt : Nat → Int32 → Int32 → qm_M → Option qm_R} {f_Nu_product : Int64 → Int64 → qm_M → Option qm_R} {l6 : Nat → Int32 → Nat → Int32 → Int64 → Int32 → qm_M → Option qm_R} (hT : qe_G kp d (T_T_sharedOut f_Ps_entryAt f_Nu_product)) (h6 : ∀ (v0 : Nat) (v1 : Int32) (v2 : Nat) (v3 : Int32) (v4 : Int64) (v6 : Int32) (m : qm_M), qe_J kp md_T_sharedOut d (l6 v0 v1 v2 v3 v4 v6 m) 6 [(0, .ref v0), (1, .int v1), (2, .ref v2), (3, .int v3), (4, .long v4), (6, .int v6)] [] m) (v0 : Nat) (v1 : Int32) (v2 : Nat) (v3 : Int32) (m : qm_M) : qe_J kp md_T_sharedOut d (X_T_sharedOut_e f_Ps_entryAt f_Nu_product l6 v0 v1 v2 v3 m) 0 [(0, .ref v0), (1, .int v1), (2, .ref v2), (3, .int v3)] [] m := qe_run (B := [(6, [0, 1, 2, 3, 4, 6], qp_ririli_ l6)]) (n := 1000) hT (qe_B1 (qp_ririli__ok h6) qe_B0) rfl
def F_T_sharedOut (v0 : Nat) (v1 : Int32) (v2 : Nat) (v3 : Int32) (m : qm_M) : Option qm_R := X_T_sharedOut_e F_Ps_entryAt F_Nu_product (L_T_sharedOut_6 1000000) v0 v1 v2 v3 m
theorem fj_T_sharedOut {kp : pm_K} {d : Nat} (hT : qe_G kp d (T_T_sharedOut F_Ps_entryAt F_Nu_product)) (v0 : Nat) (v1 : Int32) (v2 : Nat) (v3 : Int32) (m : qm_M) : qe_J kp md_T_sharedOut d (F_T_sharedOut v0 v1 v2 v3 m) 0 [(0, .ref v0), (1, .int v1), (2, .ref v2), (3, .int v3)] [] m := xg_T_sharedOut_e hT (lg_T_sharedOut_6 hT 1000000) v0 v1 v2 v3 m
theorem fg_T_sharedOut {kp : pm_K} (d : Nat) : qe_GE kp (d + 34) (150, 1, 0, 2, qw_riri F_T_sharedOut) := qe_entry (by decide +kernel) (qw_riri_ok (d := d + 33) rfl rfl (fj_T_sharedOut (qe_G1 (fg_Ps_entryAt (d + 31)) (qe_G1 (fg_Nu_product (d + 0)) qe_G0))))
/-! TurnField.multiply(I)I -/
noncomputable def T_T_multiply (f_T_hasShelf : Int32 → qm_M → Option qm_R) (f_Pa_push : qm_M → Option qm_R) (f_Pa_last : qm_M → Option qm_R) (f_Ps_clearGrid : Nat → Int32 → Int32 → qm_M → Option qm_R) (f_T_sharedOut : Nat → Int32 → Nat → Int32 → qm_M → Option qm_R) (f_Ps_setEntry : Nat → Int32 → Int32 → Int64 → qm_M → Option qm_R) : qe_T := [(146, 0, 10, 1, qw_ci 0 f_T_hasShelf), (44, 0, 2, 0, qw_cc 4 1 f_Pa_push), (46, 0, 2, 3, qw_c 4 f_Pa_last), (94, 0, 5, 0, qw_rii f_Ps_clearGrid), (150, 1, 0, 2, qw_riri f_T_sharedOut), (93, 0, 5, 0, qw_riil f_Ps_setEntry)]
def X_T_multiply_98 (f_T_hasShelf : Int32 → qm_M → Option qm_R) (f_Pa_push : qm_M → Option qm_R) (f_Pa_last : qm_M → Option qm_R) (f_Ps_clearGrid : Nat → Int32 → Int32 → qm_M → Option qm_R) (f_T_sharedOut : Nat → Int32 → Nat → Int32 → qm_M → Option qm_R) (f_Ps_setEntry : Nat → Int32 → Int32 → Int64 → qm_M → Option qm_R) (l83 : Nat → Nat → Int32 → qm_M → Option qm_R) (l98 : Nat → Nat → Int32 → Int32 → qm_M → Option qm_R) (v2 : Nat) (v3 : Nat) (v4 : Int32) (v5 : Int32) (m : qm_M) : Option qm_R :=
  if v5 < (m.1 1 9) then
    qe_rL (f_T_sharedOut v3 v4 v2 v5 m) fun x1 m1 =>
    qe_rV (f_Ps_setEntry 1 v4 v5 x1 m1) fun m2 =>
    l98 v2 v3 v4 (v5 + (1 : Int32)) m2
  else
    l83 v2 v3 (v4 + (1 : Int32)) m
set_option maxRecDepth 100000 in
theorem xg_T_multiply_98 {kp : pm_K} {d : Nat} {f_T_hasShelf : Int32 → qm_M → Option qm_R} {f_Pa_push : qm_M → Option qm_R} {f_Pa_last : qm_M → Option qm_R} {f_Ps_clearGrid : Nat → Int32 → Int32 → qm_M → Option qm_R} {f_T_sharedOut : Nat → Int32 → Nat → Int32 → qm_M → Option qm_R} {f_Ps_setEntry : Nat → Int32 → Int32 → Int64 → qm_M → Option qm_R} {l83 : Nat → Nat → Int32 → qm_M → Option qm_R} {l98 : Nat → Nat → Int32 → Int32 → qm_M → Option qm_R} (hT : qe_G kp d (T_T_multiply f_T_hasShelf f_Pa_push f_Pa_last f_Ps_clearGrid f_T_sharedOut f_Ps_setEntry)) (h83 : ∀ (v2 : Nat) (v3 : Nat) (v4 : Int32) (m : qm_M), qe_J kp md_T_multiply d (l83 v2 v3 v4 m) 83 [(0, .ref 0), (2, .ref v2), (3, .ref v3), (4, .int v4)] [] m) (h98 : ∀ (v2 : Nat) (v3 : Nat) (v4 : Int32) (v5 : Int32) (m : qm_M), qe_J kp md_T_multiply d (l98 v2 v3 v4 v5 m) 98 [(0, .ref 0), (2, .ref v2), (3, .ref v3), (4, .int v4), (5, .int v5)] [] m) (v2 : Nat) (v3 : Nat) (v4 : Int32) (v5 : Int32) (m : qm_M) : qe_J kp md_T_multiply d (X_T_multiply_98 f_T_hasShelf f_Pa_push f_Pa_last f_Ps_clearGrid f_T_sharedOut f_Ps_setEntry l83 l98 v2 v3 v4 v5 m) 98 [(0, .ref 0), (2, .ref v2), (3, .ref v3), (4, .int v4), (5, .int v5)] [] m := qe_run (B := [(83, [0, 2, 3, 4], qp_crri_ 0 l83), (98, [0, 2, 3, 4, 5], qp_crrii_ 0 l98)]) (n := 1000) hT (qe_B1 (qp_crri__ok h83) (qe_B1 (qp_crrii__ok h98) qe_B0)) rfl
def L_T_multiply_98 (K83 : Nat → Nat → Int32 → qm_M → Option qm_R) : Nat → Nat → Nat → Int32 → Int32 → qm_M → Option qm_R
  | 0, _, _, _, _, _ => none
  | n + 1, v2, v3, v4, v5, m => X_T_multiply_98 F_T_hasShelf F_Pa_push F_Pa_last F_Ps_clearGrid F_T_sharedOut F_Ps_setEntry K83 (L_T_multiply_98 K83 n) v2 v3 v4 v5 m
theorem lg_T_multiply_98 {kp : pm_K} {d : Nat} (hT : qe_G kp d (T_T_multiply F_T_hasShelf F_Pa_push F_Pa_last F_Ps_clearGrid F_T_sharedOut F_Ps_setEntry)) {K83 : Nat → Nat → Int32 → qm_M → Option qm_R} (hK83 : ∀ (v2 : Nat) (v3 : Nat) (v4 : Int32) (m : qm_M), qe_J kp md_T_multiply d (K83 v2 v3 v4 m) 83 [(0, .ref 0), (2, .ref v2), (3, .ref v3), (4, .int v4)] [] m) : ∀ (n : Nat) (v2 : Nat) (v3 : Nat) (v4 : Int32) (v5 : Int32) (m : qm_M), qe_J kp md_T_multiply d (L_T_multiply_98 K83 n v2 v3 v4 v5 m) 98 [(0, .ref 0), (2, .ref v2), (3, .ref v3), (4, .int v4), (5, .int v5)] [] m
  | 0, v2, v3, v4, v5, m => qe_none rfl
  | n + 1, v2, v3, v4, v5, m => xg_T_multiply_98 hT hK83 (lg_T_multiply_98 hT hK83 n) v2 v3 v4 v5 m
def X_T_multiply_83 (f_T_hasShelf : Int32 → qm_M → Option qm_R) (f_Pa_push : qm_M → Option qm_R) (f_Pa_last : qm_M → Option qm_R) (f_Ps_clearGrid : Nat → Int32 → Int32 → qm_M → Option qm_R) (f_T_sharedOut : Nat → Int32 → Nat → Int32 → qm_M → Option qm_R) (f_Ps_setEntry : Nat → Int32 → Int32 → Int64 → qm_M → Option qm_R) (l98 : Nat → Nat → Int32 → Int32 → qm_M → Option qm_R) (v2 : Nat) (v3 : Nat) (v4 : Int32) (m : qm_M) : Option qm_R :=
  if v4 < (m.1 1 8) then
    l98 v2 v3 v4 (0 : Int32) m
  else
    some (some (.int ((m.1 1 8) * (m.1 1 9))), m)
set_option maxRecDepth 100000 in
theorem xg_T_multiply_83 {kp : pm_K} {d : Nat} {f_T_hasShelf : Int32 → qm_M → Option qm_R} {f_Pa_push : qm_M → Option qm_R} {f_Pa_last : qm_M → Option qm_R} {f_Ps_clearGrid : Nat → Int32 → Int32 → qm_M → Option qm_R} {f_T_sharedOut : Nat → Int32 → Nat → Int32 → qm_M → Option qm_R} {f_Ps_setEntry : Nat → Int32 → Int32 → Int64 → qm_M → Option qm_R} {l98 : Nat → Nat → Int32 → Int32 → qm_M → Option qm_R} (hT : qe_G kp d (T_T_multiply f_T_hasShelf f_Pa_push f_Pa_last f_Ps_clearGrid f_T_sharedOut f_Ps_setEntry)) (h98 : ∀ (v2 : Nat) (v3 : Nat) (v4 : Int32) (v5 : Int32) (m : qm_M), qe_J kp md_T_multiply d (l98 v2 v3 v4 v5 m) 98 [(0, .ref 0), (2, .ref v2), (3, .ref v3), (4, .int v4), (5, .int v5)] [] m) (v2 : Nat) (v3 : Nat) (v4 : Int32) (m : qm_M) : qe_J kp md_T_multiply d (X_T_multiply_83 f_T_hasShelf f_Pa_push f_Pa_last f_Ps_clearGrid f_T_sharedOut f_Ps_setEntry l98 v2 v3 v4 m) 83 [(0, .ref 0), (2, .ref v2), (3, .ref v3), (4, .int v4)] [] m := qe_run (B := [(98, [0, 2, 3, 4, 5], qp_crrii_ 0 l98)]) (n := 1000) hT (qe_B1 (qp_crrii__ok h98) qe_B0) rfl
def L_T_multiply_83 : Nat → Nat → Nat → Int32 → qm_M → Option qm_R
  | 0, _, _, _, _ => none
  | n + 1, v2, v3, v4, m => X_T_multiply_83 F_T_hasShelf F_Pa_push F_Pa_last F_Ps_clearGrid F_T_sharedOut F_Ps_setEntry (L_T_multiply_98 (L_T_multiply_83 n) 1000000) v2 v3 v4 m
theorem lg_T_multiply_83 {kp : pm_K} {d : Nat} (hT : qe_G kp d (T_T_multiply F_T_hasShelf F_Pa_push F_Pa_last F_Ps_clearGrid F_T_sharedOut F_Ps_setEntry)) : ∀ (n : Nat) (v2 : Nat) (v3 : Nat) (v4 : Int32) (m : qm_M), qe_J kp md_T_multiply d (L_T_multiply_83 n v2 v3 v4 m) 83 [(0, .ref 0), (2, .ref v2), (3, .ref v3), (4, .int v4)] [] m
  | 0, v2, v3, v4, m => qe_none rfl
  | n + 1, v2, v3, v4, m => xg_T_multiply_83 hT (lg_T_multiply_98 hT (lg_T_multiply_83 hT n) 1000000) v2 v3 v4 m
def X_T_multiply_e (f_T_hasShelf : Int32 → qm_M → Option qm_R) (f_Pa_push : qm_M → Option qm_R) (f_Pa_last : qm_M → Option qm_R) (f_Ps_clearGrid : Nat → Int32 → Int32 → qm_M → Option qm_R) (f_T_sharedOut : Nat → Int32 → Nat → Int32 → qm_M → Option qm_R) (f_Ps_setEntry : Nat → Int32 → Int32 → Int64 → qm_M → Option qm_R) (l83 : Nat → Nat → Int32 → qm_M → Option qm_R) (v1 : Int32) (m : qm_M) : Option qm_R :=
  qe_rI (f_T_hasShelf v1 m) fun x1 m1 =>
  if x1 = 0 then
    some (some (.int (-1 : Int32)), m1)
  else
    qe_b (qm_in v1 2) (
    qe_b (qm_isO (qm_rf 36 (Int32.toNatClampNeg v1)) 5) (
    if (m1.1 (qm_rf 36 (Int32.toNatClampNeg v1)) 11) = 0 then
      some (some (.int (-1 : Int32)), m1)
    else
      qe_b (qm_in v1 2) (
      qe_b (qm_isO (qm_rf 36 (Int32.toNatClampNeg v1)) 5) (
      if (m1.1 1 9) = (m1.1 (qm_rf 36 (Int32.toNatClampNeg v1)) 8) then
        qe_rV (f_Pa_push m1) fun m2 =>
        qe_rR (f_Pa_last m2) fun x2 m3 =>
        qe_b (qm_isO x2 5) (
        qe_b (qm_isO (qm_rf 36 (Int32.toNatClampNeg v1)) 5) (
        qe_rV (f_Ps_clearGrid 1 (m3.1 x2 8) (m3.1 (qm_rf 36 (Int32.toNatClampNeg v1)) 9) m3) fun m4 =>
        l83 (qm_rf 36 (Int32.toNatClampNeg v1)) x2 (0 : Int32) m4))
      else
        some (some (.int (-2 : Int32)), m1)))))
set_option maxRecDepth 100000 in
theorem xg_T_multiply_e {kp : pm_K} {d : Nat} {f_T_hasShelf : Int32 → qm_M → Option qm_R} {f_Pa_push : qm_M → Option qm_R} {f_Pa_last : qm_M → Option qm_R} {f_Ps_clearGrid : Nat → Int32 → Int32 → qm_M → Option qm_R} {f_T_sharedOut : Nat → Int32 → Nat → Int32 → qm_M → Option qm_R} {f_Ps_setEntry : Nat → Int32 → Int32 → Int64 → qm_M → Option qm_R} {l83 : Nat → Nat → Int32 → qm_M → Option qm_R} (hT : qe_G kp d (T_T_multiply f_T_hasShelf f_Pa_push f_Pa_last f_Ps_clearGrid f_T_sharedOut f_Ps_setEntry)) (h83 : ∀ (v2 : Nat) (v3 : Nat) (v4 : Int32) (m : qm_M), qe_J kp md_T_multiply d (l83 v2 v3 v4 m) 83 [(0, .ref 0), (2, .ref v2), (3, .ref v3), (4, .int v4)] [] m) (v1 : Int32) (m : qm_M) : qe_J kp md_T_multiply d (X_T_multiply_e f_T_hasShelf f_Pa_push f_Pa_last f_Ps_clearGrid f_T_sharedOut f_Ps_setEntry l83 v1 m) 0 [(0, .ref 0), (1, .int v1)] [] m := qe_run (B := [(83, [0, 2, 3, 4], qp_crri_ 0 l83)]) (n := 1000) hT (qe_B1 (qp_crri__ok h83) qe_B0) rfl
def F_T_multiply (v1 : Int32) (m : qm_M) : Option qm_R := X_T_multiply_e F_T_hasShelf F_Pa_push F_Pa_last F_Ps_clearGrid F_T_sharedOut F_Ps_setEntry (L_T_multiply_83 1000000) v1 m
theorem fj_T_multiply {kp : pm_K} {d : Nat} (hT : qe_G kp d (T_T_multiply F_T_hasShelf F_Pa_push F_Pa_last F_Ps_clearGrid F_T_sharedOut F_Ps_setEntry)) (v1 : Int32) (m : qm_M) : qe_J kp md_T_multiply d (F_T_multiply v1 m) 0 [(0, .ref 0), (1, .int v1)] [] m := xg_T_multiply_e hT (lg_T_multiply_83 hT 1000000) v1 m
theorem fg_T_multiply {kp : pm_K} (d : Nat) : qe_GE kp (d + 35) (149, 0, 10, 1, qw_ci 0 F_T_multiply) := qe_entry (by decide +kernel) (qw_ci_ok (d := d + 34) rfl rfl (fj_T_multiply (qe_G1 (fg_T_hasShelf (d + 33)) (qe_G1 (fg_Pa_push (d + 31)) (qe_G1 (fg_Pa_last (d + 32)) (qe_G1 (fg_Ps_clearGrid (d + 33)) (qe_G1 (fg_T_sharedOut (d + 0)) (qe_G1 (fg_Ps_setEntry (d + 32)) qe_G0))))))))
/-! TurnField.invert()I -/
noncomputable def T_T_invert (f_St_reduceBesideUnit : qm_M → Option qm_R) (f_Pa_push : qm_M → Option qm_R) (f_St_cellAt : Int32 → Int32 → qm_M → Option qm_R) (f_Ps_setEntry : Nat → Int32 → Int32 → Int64 → qm_M → Option qm_R) : qe_T := [(110, 0, 8, 1, qw_cc 67 1 f_St_reduceBesideUnit), (44, 0, 2, 0, qw_cc 4 1 f_Pa_push), (117, 0, 8, 2, qw_cii 67 f_St_cellAt), (93, 0, 5, 0, qw_riil f_Ps_setEntry)]
def X_T_invert_60 (f_St_reduceBesideUnit : qm_M → Option qm_R) (f_Pa_push : qm_M → Option qm_R) (f_St_cellAt : Int32 → Int32 → qm_M → Option qm_R) (f_Ps_setEntry : Nat → Int32 → Int32 → Int64 → qm_M → Option qm_R) (l47 : Int32 → qm_M → Option qm_R) (l60 : Int32 → Int32 → qm_M → Option qm_R) (v1 : Int32) (v2 : Int32) (m : qm_M) : Option qm_R :=
  if v2 < (m.1 1 9) then
    qe_rL (f_St_cellAt v1 ((m.1 1 9) + v2) m) fun x1 m1 =>
    qe_rV (f_Ps_setEntry 1 v1 v2 x1 m1) fun m2 =>
    l60 v1 (v2 + (1 : Int32)) m2
  else
    l47 (v1 + (1 : Int32)) m
set_option maxRecDepth 100000 in
theorem xg_T_invert_60 {kp : pm_K} {d : Nat} {f_St_reduceBesideUnit : qm_M → Option qm_R} {f_Pa_push : qm_M → Option qm_R} {f_St_cellAt : Int32 → Int32 → qm_M → Option qm_R} {f_Ps_setEntry : Nat → Int32 → Int32 → Int64 → qm_M → Option qm_R} {l47 : Int32 → qm_M → Option qm_R} {l60 : Int32 → Int32 → qm_M → Option qm_R} (hT : qe_G kp d (T_T_invert f_St_reduceBesideUnit f_Pa_push f_St_cellAt f_Ps_setEntry)) (h47 : ∀ (v1 : Int32) (m : qm_M), qe_J kp md_T_invert d (l47 v1 m) 47 [(0, .ref 0), (1, .int v1)] [] m) (h60 : ∀ (v1 : Int32) (v2 : Int32) (m : qm_M), qe_J kp md_T_invert d (l60 v1 v2 m) 60 [(0, .ref 0), (1, .int v1), (2, .int v2)] [] m) (v1 : Int32) (v2 : Int32) (m : qm_M) : qe_J kp md_T_invert d (X_T_invert_60 f_St_reduceBesideUnit f_Pa_push f_St_cellAt f_Ps_setEntry l47 l60 v1 v2 m) 60 [(0, .ref 0), (1, .int v1), (2, .int v2)] [] m := qe_run (B := [(47, [0, 1], qp_ci_ 0 l47), (60, [0, 1, 2], qp_cii_ 0 l60)]) (n := 1000) hT (qe_B1 (qp_ci__ok h47) (qe_B1 (qp_cii__ok h60) qe_B0)) rfl
def L_T_invert_60 (K47 : Int32 → qm_M → Option qm_R) : Nat → Int32 → Int32 → qm_M → Option qm_R
  | 0, _, _, _ => none
  | n + 1, v1, v2, m => X_T_invert_60 F_St_reduceBesideUnit F_Pa_push F_St_cellAt F_Ps_setEntry K47 (L_T_invert_60 K47 n) v1 v2 m
theorem lg_T_invert_60 {kp : pm_K} {d : Nat} (hT : qe_G kp d (T_T_invert F_St_reduceBesideUnit F_Pa_push F_St_cellAt F_Ps_setEntry)) {K47 : Int32 → qm_M → Option qm_R} (hK47 : ∀ (v1 : Int32) (m : qm_M), qe_J kp md_T_invert d (K47 v1 m) 47 [(0, .ref 0), (1, .int v1)] [] m) : ∀ (n : Nat) (v1 : Int32) (v2 : Int32) (m : qm_M), qe_J kp md_T_invert d (L_T_invert_60 K47 n v1 v2 m) 60 [(0, .ref 0), (1, .int v1), (2, .int v2)] [] m
  | 0, v1, v2, m => qe_none rfl
  | n + 1, v1, v2, m => xg_T_invert_60 hT hK47 (lg_T_invert_60 hT hK47 n) v1 v2 m
def X_T_invert_47 (f_St_reduceBesideUnit : qm_M → Option qm_R) (f_Pa_push : qm_M → Option qm_R) (f_St_cellAt : Int32 → Int32 → qm_M → Option qm_R) (f_Ps_setEntry : Nat → Int32 → Int32 → Int64 → qm_M → Option qm_R) (l60 : Int32 → Int32 → qm_M → Option qm_R) (v1 : Int32) (m : qm_M) : Option qm_R :=
  if v1 < (m.1 1 8) then
    l60 v1 (0 : Int32) m
  else
    some (some (.int (1 : Int32)), m)
set_option maxRecDepth 100000 in
theorem xg_T_invert_47 {kp : pm_K} {d : Nat} {f_St_reduceBesideUnit : qm_M → Option qm_R} {f_Pa_push : qm_M → Option qm_R} {f_St_cellAt : Int32 → Int32 → qm_M → Option qm_R} {f_Ps_setEntry : Nat → Int32 → Int32 → Int64 → qm_M → Option qm_R} {l60 : Int32 → Int32 → qm_M → Option qm_R} (hT : qe_G kp d (T_T_invert f_St_reduceBesideUnit f_Pa_push f_St_cellAt f_Ps_setEntry)) (h60 : ∀ (v1 : Int32) (v2 : Int32) (m : qm_M), qe_J kp md_T_invert d (l60 v1 v2 m) 60 [(0, .ref 0), (1, .int v1), (2, .int v2)] [] m) (v1 : Int32) (m : qm_M) : qe_J kp md_T_invert d (X_T_invert_47 f_St_reduceBesideUnit f_Pa_push f_St_cellAt f_Ps_setEntry l60 v1 m) 47 [(0, .ref 0), (1, .int v1)] [] m := qe_run (B := [(60, [0, 1, 2], qp_cii_ 0 l60)]) (n := 1000) hT (qe_B1 (qp_cii__ok h60) qe_B0) rfl
def L_T_invert_47 : Nat → Int32 → qm_M → Option qm_R
  | 0, _, _ => none
  | n + 1, v1, m => X_T_invert_47 F_St_reduceBesideUnit F_Pa_push F_St_cellAt F_Ps_setEntry (L_T_invert_60 (L_T_invert_47 n) 1000000) v1 m
theorem lg_T_invert_47 {kp : pm_K} {d : Nat} (hT : qe_G kp d (T_T_invert F_St_reduceBesideUnit F_Pa_push F_St_cellAt F_Ps_setEntry)) : ∀ (n : Nat) (v1 : Int32) (m : qm_M), qe_J kp md_T_invert d (L_T_invert_47 n v1 m) 47 [(0, .ref 0), (1, .int v1)] [] m
  | 0, v1, m => qe_none rfl
  | n + 1, v1, m => xg_T_invert_47 hT (lg_T_invert_60 hT (lg_T_invert_47 hT n) 1000000) v1 m
def X_T_invert_e (f_St_reduceBesideUnit : qm_M → Option qm_R) (f_Pa_push : qm_M → Option qm_R) (f_St_cellAt : Int32 → Int32 → qm_M → Option qm_R) (f_Ps_setEntry : Nat → Int32 → Int32 → Int64 → qm_M → Option qm_R) (l47 : Int32 → qm_M → Option qm_R)  (m : qm_M) : Option qm_R :=
  if (m.1 1 8) = (m.1 1 9) then
    qe_rI (f_St_reduceBesideUnit m) fun x1 m1 =>
    if x1 = 0 then
      some (some (.int (-2 : Int32)), m1)
    else
      qe_rV (f_Pa_push m1) fun m2 =>
      l47 (0 : Int32) m2
  else
    some (some (.int (-2 : Int32)), m)
set_option maxRecDepth 100000 in
theorem xg_T_invert_e {kp : pm_K} {d : Nat} {f_St_reduceBesideUnit : qm_M → Option qm_R} {f_Pa_push : qm_M → Option qm_R} {f_St_cellAt : Int32 → Int32 → qm_M → Option qm_R} {f_Ps_setEntry : Nat → Int32 → Int32 → Int64 → qm_M → Option qm_R} {l47 : Int32 → qm_M → Option qm_R} (hT : qe_G kp d (T_T_invert f_St_reduceBesideUnit f_Pa_push f_St_cellAt f_Ps_setEntry)) (h47 : ∀ (v1 : Int32) (m : qm_M), qe_J kp md_T_invert d (l47 v1 m) 47 [(0, .ref 0), (1, .int v1)] [] m) (m : qm_M) : qe_J kp md_T_invert d (X_T_invert_e f_St_reduceBesideUnit f_Pa_push f_St_cellAt f_Ps_setEntry l47 m) 0 [(0, .ref 0)] [] m := qe_run (B := [(47, [0, 1], qp_ci_ 0 l47)]) (n := 1000) hT (qe_B1 (qp_ci__ok h47) qe_B0) rfl
def F_T_invert (m : qm_M) : Option qm_R := X_T_invert_e F_St_reduceBesideUnit F_Pa_push F_St_cellAt F_Ps_setEntry (L_T_invert_47 1000000) m
theorem fj_T_invert {kp : pm_K} {d : Nat} (hT : qe_G kp d (T_T_invert F_St_reduceBesideUnit F_Pa_push F_St_cellAt F_Ps_setEntry)) (m : qm_M) : qe_J kp md_T_invert d (F_T_invert m) 0 [(0, .ref 0)] [] m := xg_T_invert_e hT (lg_T_invert_47 hT 1000000) m
theorem fg_T_invert {kp : pm_K} (d : Nat) : qe_GE kp (d + 37) (151, 0, 10, 1, qw_c 0 F_T_invert) := qe_entry (by decide +kernel) (qw_c_ok (d := d + 36) rfl rfl (fj_T_invert (qe_G1 (fg_St_reduceBesideUnit (d + 0)) (qe_G1 (fg_Pa_push (d + 33)) (qe_G1 (fg_St_cellAt (d + 35)) (qe_G1 (fg_Ps_setEntry (d + 34)) qe_G0))))))
/-! TurnField.entry(III)J -/
noncomputable def T_T_entry (f_Ps_hasEntry : Nat → Int32 → Int32 → qm_M → Option qm_R) (f_Ps_entryAt : Nat → Int32 → Int32 → qm_M → Option qm_R) (f_St_reduceGrid : qm_M → Option qm_R) (f_St_cellAt : Int32 → Int32 → qm_M → Option qm_R) : qe_T := [(91, 0, 5, 1, qw_rii f_Ps_hasEntry), (92, 0, 5, 2, qw_rii f_Ps_entryAt), (109, 0, 8, 0, qw_cc 67 1 f_St_reduceGrid), (117, 0, 8, 2, qw_cii 67 f_St_cellAt)]
def X_T_entry_e (f_Ps_hasEntry : Nat → Int32 → Int32 → qm_M → Option qm_R) (f_Ps_entryAt : Nat → Int32 → Int32 → qm_M → Option qm_R) (f_St_reduceGrid : qm_M → Option qm_R) (f_St_cellAt : Int32 → Int32 → qm_M → Option qm_R) (v1 : Int32) (v2 : Int32) (v3 : Int32) (m : qm_M) : Option qm_R :=
  qe_rI (f_Ps_hasEntry 1 v1 v2 m) fun x1 m1 =>
  if x1 = 0 then
    some (some (.long (0 : Int64)), m1)
  else
    if v3 < 0 then
      some (some (.long (0 : Int64)), m1)
    else
      if (1 : Int32) < v3 then
        some (some (.long (0 : Int64)), m1)
      else
        if v3 = 0 then
          qe_rL (f_Ps_entryAt 1 v1 v2 m1) fun x2 m2 =>
          some (some (.long x2), m2)
        else
          qe_rV (f_St_reduceGrid m1) fun m3 =>
          qe_rL (f_St_cellAt v1 v2 m3) fun x3 m4 =>
          some (some (.long x3), m4)
set_option maxRecDepth 100000 in
theorem xg_T_entry_e {kp : pm_K} {d : Nat} {f_Ps_hasEntry : Nat → Int32 → Int32 → qm_M → Option qm_R} {f_Ps_entryAt : Nat → Int32 → Int32 → qm_M → Option qm_R} {f_St_reduceGrid : qm_M → Option qm_R} {f_St_cellAt : Int32 → Int32 → qm_M → Option qm_R} (hT : qe_G kp d (T_T_entry f_Ps_hasEntry f_Ps_entryAt f_St_reduceGrid f_St_cellAt)) (v1 : Int32) (v2 : Int32) (v3 : Int32) (m : qm_M) : qe_J kp md_T_entry d (X_T_entry_e f_Ps_hasEntry f_Ps_entryAt f_St_reduceGrid f_St_cellAt v1 v2 v3 m) 0 [(0, .ref 0), (1, .int v1), (2, .int v2), (3, .int v3)] [] m := qe_run (B := []) (n := 1000) hT qe_B0 rfl
def F_T_entry (v1 : Int32) (v2 : Int32) (v3 : Int32) (m : qm_M) : Option qm_R := X_T_entry_e F_Ps_hasEntry F_Ps_entryAt F_St_reduceGrid F_St_cellAt v1 v2 v3 m
theorem fj_T_entry {kp : pm_K} {d : Nat} (hT : qe_G kp d (T_T_entry F_Ps_hasEntry F_Ps_entryAt F_St_reduceGrid F_St_cellAt)) (v1 : Int32) (v2 : Int32) (v3 : Int32) (m : qm_M) : qe_J kp md_T_entry d (F_T_entry v1 v2 v3 m) 0 [(0, .ref 0), (1, .int v1), (2, .int v2), (3, .int v3)] [] m := xg_T_entry_e hT v1 v2 v3 m
theorem fg_T_entry {kp : pm_K} (d : Nat) : qe_GE kp (d + 37) (152, 0, 10, 2, qw_ciii 0 F_T_entry) := qe_entry (by decide +kernel) (qw_ciii_ok (d := d + 36) rfl rfl (fj_T_entry (qe_G1 (fg_Ps_hasEntry (d + 35)) (qe_G1 (fg_Ps_entryAt (d + 34)) (qe_G1 (fg_St_reduceGrid (d + 0)) (qe_G1 (fg_St_cellAt (d + 35)) qe_G0))))))
/-! TurnField.determinant()J -/
noncomputable def T_T_determinant (f_St_reduceGrid : qm_M → Option qm_R) : qe_T := [(109, 0, 8, 0, qw_cc 67 1 f_St_reduceGrid)]
def X_T_determinant_e (f_St_reduceGrid : qm_M → Option qm_R)  (m : qm_M) : Option qm_R :=
  if (m.1 1 8) = (m.1 1 9) then
    qe_rV (f_St_reduceGrid m) fun m1 =>
    if (m1.1 67 2) < (m1.1 1 8) then
      some (some (.long (0 : Int64)), m1)
    else
      some (some (.long (m1.2 67 3)), m1)
  else
    some (some (.long (0 : Int64)), m)
set_option maxRecDepth 100000 in
theorem xg_T_determinant_e {kp : pm_K} {d : Nat} {f_St_reduceGrid : qm_M → Option qm_R} (hT : qe_G kp d (T_T_determinant f_St_reduceGrid)) (m : qm_M) : qe_J kp md_T_determinant d (X_T_determinant_e f_St_reduceGrid m) 0 [(0, .ref 0)] [] m := qe_run (B := []) (n := 1000) hT qe_B0 rfl
def F_T_determinant (m : qm_M) : Option qm_R := X_T_determinant_e F_St_reduceGrid m
theorem fj_T_determinant {kp : pm_K} {d : Nat} (hT : qe_G kp d (T_T_determinant F_St_reduceGrid)) (m : qm_M) : qe_J kp md_T_determinant d (F_T_determinant m) 0 [(0, .ref 0)] [] m := xg_T_determinant_e hT m
theorem fg_T_determinant {kp : pm_K} (d : Nat) : qe_GE kp (d + 37) (153, 0, 10, 2, qw_c 0 F_T_determinant) := qe_entry (by decide +kernel) (qw_c_ok (d := d + 36) rfl rfl (fj_T_determinant (qe_G1 (fg_St_reduceGrid (d + 0)) qe_G0)))
/-! TurnField.shape(I)I -/
noncomputable def T_T_shape (f_St_reduceGrid : qm_M → Option qm_R) (f_St_hasLead : Int32 → qm_M → Option qm_R) : qe_T := [(109, 0, 8, 0, qw_cc 67 1 f_St_reduceGrid), (118, 0, 8, 1, qw_ci 67 f_St_hasLead)]
def X_T_shape_e (f_St_reduceGrid : qm_M → Option qm_R) (f_St_hasLead : Int32 → qm_M → Option qm_R) (v1 : Int32) (m : qm_M) : Option qm_R :=
  if Int32.toInt v1 = 0 then
    some (some (.int (m.1 1 8)), m)
  else
   if Int32.toInt v1 = 1 then
     some (some (.int (m.1 1 9)), m)
   else
    if Int32.toInt v1 = 2 then
      qe_rV (f_St_reduceGrid m) fun m1 =>
      some (some (.int (m1.1 67 2)), m1)
    else
     if Int32.toInt v1 = 3 then
       qe_rV (f_St_reduceGrid m) fun m2 =>
       qe_rI (f_St_hasLead ((m2.1 1 9) - (1 : Int32)) m2) fun x1 m3 =>
       if x1 = 0 then
         some (some (.int (((m3.1 1 9) - (1 : Int32)) - (m3.1 67 2))), m3)
       else
         some (some (.int (-2 : Int32)), m3)
     else
       some (some (.int (-1 : Int32)), m)
set_option maxRecDepth 100000 in
theorem xg_T_shape_e {kp : pm_K} {d : Nat} {f_St_reduceGrid : qm_M → Option qm_R} {f_St_hasLead : Int32 → qm_M → Option qm_R} (hT : qe_G kp d (T_T_shape f_St_reduceGrid f_St_hasLead)) (v1 : Int32) (m : qm_M) : qe_J kp md_T_shape d (X_T_shape_e f_St_reduceGrid f_St_hasLead v1 m) 0 [(0, .ref 0), (1, .int v1)] [] m := qe_run (B := []) (n := 1000) hT qe_B0 rfl
def F_T_shape (v1 : Int32) (m : qm_M) : Option qm_R := X_T_shape_e F_St_reduceGrid F_St_hasLead v1 m
theorem fj_T_shape {kp : pm_K} {d : Nat} (hT : qe_G kp d (T_T_shape F_St_reduceGrid F_St_hasLead)) (v1 : Int32) (m : qm_M) : qe_J kp md_T_shape d (F_T_shape v1 m) 0 [(0, .ref 0), (1, .int v1)] [] m := xg_T_shape_e hT v1 m
theorem fg_T_shape {kp : pm_K} (d : Nat) : qe_GE kp (d + 37) (154, 0, 10, 1, qw_ci 0 F_T_shape) := qe_entry (by decide +kernel) (qw_ci_ok (d := d + 36) rfl rfl (fj_T_shape (qe_G1 (fg_St_reduceGrid (d + 0)) (qe_G1 (fg_St_hasLead (d + 35)) qe_G0))))
/-! TurnField.solution(I)J -/
noncomputable def T_T_solution (f_St_reduceGrid : qm_M → Option qm_R) (f_St_hasLead : Int32 → qm_M → Option qm_R) (f_St_besideLead : Int32 → Int32 → qm_M → Option qm_R) : qe_T := [(109, 0, 8, 0, qw_cc 67 1 f_St_reduceGrid), (118, 0, 8, 1, qw_ci 67 f_St_hasLead), (119, 0, 8, 2, qw_cii 67 f_St_besideLead)]
def X_T_solution_e (f_St_reduceGrid : qm_M → Option qm_R) (f_St_hasLead : Int32 → qm_M → Option qm_R) (f_St_besideLead : Int32 → Int32 → qm_M → Option qm_R) (v1 : Int32) (m : qm_M) : Option qm_R :=
  qe_rV (f_St_reduceGrid m) fun m1 =>
  qe_rI (f_St_hasLead ((m.1 1 9) - (1 : Int32)) m1) fun x1 m2 =>
  if x1 = 0 then
    qe_rL (f_St_besideLead v1 ((m.1 1 9) - (1 : Int32)) m2) fun x2 m3 =>
    some (some (.long x2), m3)
  else
    some (some (.long (0 : Int64)), m2)
set_option maxRecDepth 100000 in
theorem xg_T_solution_e {kp : pm_K} {d : Nat} {f_St_reduceGrid : qm_M → Option qm_R} {f_St_hasLead : Int32 → qm_M → Option qm_R} {f_St_besideLead : Int32 → Int32 → qm_M → Option qm_R} (hT : qe_G kp d (T_T_solution f_St_reduceGrid f_St_hasLead f_St_besideLead)) (v1 : Int32) (m : qm_M) : qe_J kp md_T_solution d (X_T_solution_e f_St_reduceGrid f_St_hasLead f_St_besideLead v1 m) 0 [(0, .ref 0), (1, .int v1)] [] m := qe_run (B := []) (n := 1000) hT qe_B0 rfl
def F_T_solution (v1 : Int32) (m : qm_M) : Option qm_R := X_T_solution_e F_St_reduceGrid F_St_hasLead F_St_besideLead v1 m
theorem fj_T_solution {kp : pm_K} {d : Nat} (hT : qe_G kp d (T_T_solution F_St_reduceGrid F_St_hasLead F_St_besideLead)) (v1 : Int32) (m : qm_M) : qe_J kp md_T_solution d (F_T_solution v1 m) 0 [(0, .ref 0), (1, .int v1)] [] m := xg_T_solution_e hT v1 m
theorem fg_T_solution {kp : pm_K} (d : Nat) : qe_GE kp (d + 37) (155, 0, 10, 2, qw_ci 0 F_T_solution) := qe_entry (by decide +kernel) (qw_ci_ok (d := d + 36) rfl rfl (fj_T_solution (qe_G1 (fg_St_reduceGrid (d + 0)) (qe_G1 (fg_St_hasLead (d + 35)) (qe_G1 (fg_St_besideLead (d + 34)) qe_G0)))))
/-! TurnField.roots(II)I -/
noncomputable def T_T_roots (f_Po_degreeOf : Nat → qm_M → Option qm_R) (f_Po_findRoots : Int32 → qm_M → Option qm_R) (f_Po_rootAt : Int32 → qm_M → Option qm_R) : qe_T := [(61, 1, 0, 1, qw_r f_Po_degreeOf), (71, 0, 4, 0, qw_cci 70 2 f_Po_findRoots), (77, 0, 4, 1, qw_ci 70 f_Po_rootAt)]
def X_T_roots_e (f_Po_degreeOf : Nat → qm_M → Option qm_R) (f_Po_findRoots : Int32 → qm_M → Option qm_R) (f_Po_rootAt : Int32 → qm_M → Option qm_R) (v1 : Int32) (v2 : Int32) (m : qm_M) : Option qm_R :=
  if v1 < 0 then
    some (some (.int (-1 : Int32)), m)
  else
    if (4 : Int32) < v1 then
      some (some (.int (-1 : Int32)), m)
    else
      if v2 < (-1 : Int32) then
        some (some (.int (-1 : Int32)), m)
      else
        qe_rI (f_Po_degreeOf 2 m) fun x1 m1 =>
        if x1 < 0 then
          let x2 : Int32 := (qo_ishl (1 : Int32) (qo_ishl (1 : Int32) v1))
          if v2 = (-1 : Int32) then
            some (some (.int x2), m1)
          else
            if v2 < x2 then
              some (some (.int v2), m1)
            else
              some (some (.int (-2 : Int32)), m1)
        else
          qe_rV (f_Po_findRoots v1 m1) fun m2 =>
          if v2 = (-1 : Int32) then
            some (some (.int (m2.1 70 14)), m2)
          else
            qe_rI (f_Po_rootAt v2 m2) fun x3 m3 =>
            some (some (.int x3), m3)
set_option maxRecDepth 100000 in
theorem xg_T_roots_e {kp : pm_K} {d : Nat} {f_Po_degreeOf : Nat → qm_M → Option qm_R} {f_Po_findRoots : Int32 → qm_M → Option qm_R} {f_Po_rootAt : Int32 → qm_M → Option qm_R} (hT : qe_G kp d (T_T_roots f_Po_degreeOf f_Po_findRoots f_Po_rootAt)) (v1 : Int32) (v2 : Int32) (m : qm_M) : qe_J kp md_T_roots d (X_T_roots_e f_Po_degreeOf f_Po_findRoots f_Po_rootAt v1 v2 m) 0 [(0, .ref 0), (1, .int v1), (2, .int v2)] [] m := qe_run (B := []) (n := 1000) hT qe_B0 rfl
def F_T_roots (v1 : Int32) (v2 : Int32) (m : qm_M) : Option qm_R := X_T_roots_e F_Po_degreeOf F_Po_findRoots F_Po_rootAt v1 v2 m
theorem fj_T_roots {kp : pm_K} {d : Nat} (hT : qe_G kp d (T_T_roots F_Po_degreeOf F_Po_findRoots F_Po_rootAt)) (v1 : Int32) (v2 : Int32) (m : qm_M) : qe_J kp md_T_roots d (F_T_roots v1 v2 m) 0 [(0, .ref 0), (1, .int v1), (2, .int v2)] [] m := xg_T_roots_e hT v1 v2 m
theorem fg_T_roots {kp : pm_K} (d : Nat) : qe_GE kp (d + 38) (156, 0, 10, 1, qw_cii 0 F_T_roots) := qe_entry (by decide +kernel) (qw_cii_ok (d := d + 37) rfl rfl (fj_T_roots (qe_G1 (fg_Po_degreeOf (d + 36)) (qe_G1 (fg_Po_findRoots (d + 0)) (qe_G1 (fg_Po_rootAt (d + 36)) qe_G0)))))
/-! TurnField.common(I)J -/
noncomputable def T_T_common (f_Po_meetHalves : qm_M → Option qm_R) (f_Po_metCoefficient : Int32 → qm_M → Option qm_R) : qe_T := [(69, 0, 4, 0, qw_cc 70 2 f_Po_meetHalves), (70, 0, 4, 2, qw_ci 70 f_Po_metCoefficient)]
def X_T_common_e (f_Po_meetHalves : qm_M → Option qm_R) (f_Po_metCoefficient : Int32 → qm_M → Option qm_R) (v1 : Int32) (m : qm_M) : Option qm_R :=
  qe_rV (f_Po_meetHalves m) fun m1 =>
  qe_rL (f_Po_metCoefficient v1 m1) fun x1 m2 =>
  some (some (.long x1), m2)
set_option maxRecDepth 100000 in
theorem xg_T_common_e {kp : pm_K} {d : Nat} {f_Po_meetHalves : qm_M → Option qm_R} {f_Po_metCoefficient : Int32 → qm_M → Option qm_R} (hT : qe_G kp d (T_T_common f_Po_meetHalves f_Po_metCoefficient)) (v1 : Int32) (m : qm_M) : qe_J kp md_T_common d (X_T_common_e f_Po_meetHalves f_Po_metCoefficient v1 m) 0 [(0, .ref 0), (1, .int v1)] [] m := qe_run (B := []) (n := 1000) hT qe_B0 rfl
def F_T_common (v1 : Int32) (m : qm_M) : Option qm_R := X_T_common_e F_Po_meetHalves F_Po_metCoefficient v1 m
theorem fj_T_common {kp : pm_K} {d : Nat} (hT : qe_G kp d (T_T_common F_Po_meetHalves F_Po_metCoefficient)) (v1 : Int32) (m : qm_M) : qe_J kp md_T_common d (F_T_common v1 m) 0 [(0, .ref 0), (1, .int v1)] [] m := xg_T_common_e hT v1 m
theorem fg_T_common {kp : pm_K} (d : Nat) : qe_GE kp (d + 37) (157, 0, 10, 2, qw_ci 0 F_T_common) := qe_entry (by decide +kernel) (qw_ci_ok (d := d + 36) rfl rfl (fj_T_common (qe_G1 (fg_Po_meetHalves (d + 0)) (qe_G1 (fg_Po_metCoefficient (d + 35)) qe_G0))))
/-! TurnField.mended(I)J -/
noncomputable def T_T_mended (f_Cu_mend : qm_M → Option qm_R) (f_Cu_coefficient : Int32 → qm_M → Option qm_R) : qe_T := [(3, 0, 0, 0, qw_cc 107 2 f_Cu_mend), (8, 0, 0, 2, qw_ci 107 f_Cu_coefficient)]
def X_T_mended_e (f_Cu_mend : qm_M → Option qm_R) (f_Cu_coefficient : Int32 → qm_M → Option qm_R) (v1 : Int32) (m : qm_M) : Option qm_R :=
  qe_rV (f_Cu_mend m) fun m1 =>
  qe_rL (f_Cu_coefficient v1 m1) fun x1 m2 =>
  some (some (.long x1), m2)
set_option maxRecDepth 100000 in
theorem xg_T_mended_e {kp : pm_K} {d : Nat} {f_Cu_mend : qm_M → Option qm_R} {f_Cu_coefficient : Int32 → qm_M → Option qm_R} (hT : qe_G kp d (T_T_mended f_Cu_mend f_Cu_coefficient)) (v1 : Int32) (m : qm_M) : qe_J kp md_T_mended d (X_T_mended_e f_Cu_mend f_Cu_coefficient v1 m) 0 [(0, .ref 0), (1, .int v1)] [] m := qe_run (B := []) (n := 1000) hT qe_B0 rfl
def F_T_mended (v1 : Int32) (m : qm_M) : Option qm_R := X_T_mended_e F_Cu_mend F_Cu_coefficient v1 m
theorem fj_T_mended {kp : pm_K} {d : Nat} (hT : qe_G kp d (T_T_mended F_Cu_mend F_Cu_coefficient)) (v1 : Int32) (m : qm_M) : qe_J kp md_T_mended d (F_T_mended v1 m) 0 [(0, .ref 0), (1, .int v1)] [] m := xg_T_mended_e hT v1 m
theorem fg_T_mended {kp : pm_K} (d : Nat) : qe_GE kp (d + 37) (158, 0, 10, 2, qw_ci 0 F_T_mended) := qe_entry (by decide +kernel) (qw_ci_ok (d := d + 36) rfl rfl (fj_T_mended (qe_G1 (fg_Cu_mend (d + 0)) (qe_G1 (fg_Cu_coefficient (d + 35)) qe_G0))))
/-! TurnField.mendedAt(J)J -/
noncomputable def T_T_mendedAt (f_Cu_mend : qm_M → Option qm_R) (f_Cu_mendedValue : Int64 → qm_M → Option qm_R) : qe_T := [(3, 0, 0, 0, qw_cc 107 2 f_Cu_mend), (9, 0, 0, 2, qw_cl 107 f_Cu_mendedValue)]
def X_T_mendedAt_e (f_Cu_mend : qm_M → Option qm_R) (f_Cu_mendedValue : Int64 → qm_M → Option qm_R) (v1 : Int64) (m : qm_M) : Option qm_R :=
  qe_rV (f_Cu_mend m) fun m1 =>
  qe_rL (f_Cu_mendedValue v1 m1) fun x1 m2 =>
  some (some (.long x1), m2)
set_option maxRecDepth 100000 in
theorem xg_T_mendedAt_e {kp : pm_K} {d : Nat} {f_Cu_mend : qm_M → Option qm_R} {f_Cu_mendedValue : Int64 → qm_M → Option qm_R} (hT : qe_G kp d (T_T_mendedAt f_Cu_mend f_Cu_mendedValue)) (v1 : Int64) (m : qm_M) : qe_J kp md_T_mendedAt d (X_T_mendedAt_e f_Cu_mend f_Cu_mendedValue v1 m) 0 [(0, .ref 0), (1, .long v1)] [] m := qe_run (B := []) (n := 1000) hT qe_B0 rfl
def F_T_mendedAt (v1 : Int64) (m : qm_M) : Option qm_R := X_T_mendedAt_e F_Cu_mend F_Cu_mendedValue v1 m
theorem fj_T_mendedAt {kp : pm_K} {d : Nat} (hT : qe_G kp d (T_T_mendedAt F_Cu_mend F_Cu_mendedValue)) (v1 : Int64) (m : qm_M) : qe_J kp md_T_mendedAt d (F_T_mendedAt v1 m) 0 [(0, .ref 0), (1, .long v1)] [] m := xg_T_mendedAt_e hT v1 m
theorem fg_T_mendedAt {kp : pm_K} (d : Nat) : qe_GE kp (d + 37) (159, 0, 10, 2, qw_cl 0 F_T_mendedAt) := qe_entry (by decide +kernel) (qw_cl_ok (d := d + 36) rfl rfl (fj_T_mendedAt (qe_G1 (fg_Cu_mend (d + 0)) (qe_G1 (fg_Cu_mendedValue (d + 1)) qe_G0))))
/-! TurnField.agrees(I)I -/
noncomputable def T_T_agrees (f_Cu_mend : qm_M → Option qm_R) (f_Cu_isMended : qm_M → Option qm_R) (f_JI_bitCount : Int32 → qm_M → Option qm_R) : qe_T := [(3, 0, 0, 0, qw_cc 107 2 f_Cu_mend), (7, 0, 0, 1, qw_c 107 f_Cu_isMended), (318, 1, 0, 1, qw_i f_JI_bitCount)]
def X_T_agrees_e (f_Cu_mend : qm_M → Option qm_R) (f_Cu_isMended : qm_M → Option qm_R) (f_JI_bitCount : Int32 → qm_M → Option qm_R) (v1 : Int32) (m : qm_M) : Option qm_R :=
  if v1 < 0 then
    some (some (.int (-1 : Int32)), m)
  else
    if (1 : Int32) < v1 then
      some (some (.int (-1 : Int32)), m)
    else
      qe_rV (f_Cu_mend m) fun m1 =>
      qe_rI (f_Cu_isMended m1) fun x1 m2 =>
      if x1 = 0 then
        some (some (.int (-2 : Int32)), m2)
      else
        if v1 = 0 then
          qe_rI (f_JI_bitCount (m2.1 107 5) m2) fun x2 m3 =>
          some (some (.int x2), m3)
        else
          some (some (.int ((255 : Int32) ^^^ (m2.1 107 5))), m2)
set_option maxRecDepth 100000 in
theorem xg_T_agrees_e {kp : pm_K} {d : Nat} {f_Cu_mend : qm_M → Option qm_R} {f_Cu_isMended : qm_M → Option qm_R} {f_JI_bitCount : Int32 → qm_M → Option qm_R} (hT : qe_G kp d (T_T_agrees f_Cu_mend f_Cu_isMended f_JI_bitCount)) (v1 : Int32) (m : qm_M) : qe_J kp md_T_agrees d (X_T_agrees_e f_Cu_mend f_Cu_isMended f_JI_bitCount v1 m) 0 [(0, .ref 0), (1, .int v1)] [] m := qe_run (B := []) (n := 1000) hT qe_B0 rfl
def F_T_agrees (v1 : Int32) (m : qm_M) : Option qm_R := X_T_agrees_e F_Cu_mend F_Cu_isMended F_JI_bitCount v1 m
theorem fj_T_agrees {kp : pm_K} {d : Nat} (hT : qe_G kp d (T_T_agrees F_Cu_mend F_Cu_isMended F_JI_bitCount)) (v1 : Int32) (m : qm_M) : qe_J kp md_T_agrees d (F_T_agrees v1 m) 0 [(0, .ref 0), (1, .int v1)] [] m := xg_T_agrees_e hT v1 m
theorem fg_T_agrees {kp : pm_K} (d : Nat) : qe_GE kp (d + 37) (160, 0, 10, 1, qw_ci 0 F_T_agrees) := qe_entry (by decide +kernel) (qw_ci_ok (d := d + 36) rfl rfl (fj_T_agrees (qe_G1 (fg_Cu_mend (d + 0)) (qe_G1 (fg_Cu_isMended (d + 34)) (qe_G1 (fg_JI_bitCount (d + 35)) qe_G0)))))
/-! TurnField.place(I)J -/
noncomputable def T_T_place (f_Ps_hasPlace : Int32 → qm_M → Option qm_R) : qe_T := [(81, 1, 0, 1, qw_i f_Ps_hasPlace)]
def X_T_place_e (f_Ps_hasPlace : Int32 → qm_M → Option qm_R) (v1 : Int32) (m : qm_M) : Option qm_R :=
  qe_rI (f_Ps_hasPlace v1 m) fun x1 m1 =>
  if x1 = 0 then
    some (some (.long (0 : Int64)), m1)
  else
    qe_b (qm_in v1 8) (
    some (some (.long (m1.2 2 (Int32.toNatClampNeg v1))), m1))
set_option maxRecDepth 100000 in
theorem xg_T_place_e {kp : pm_K} {d : Nat} {f_Ps_hasPlace : Int32 → qm_M → Option qm_R} (hT : qe_G kp d (T_T_place f_Ps_hasPlace)) (v1 : Int32) (m : qm_M) : qe_J kp md_T_place d (X_T_place_e f_Ps_hasPlace v1 m) 0 [(0, .ref 0), (1, .int v1)] [] m := qe_run (B := []) (n := 1000) hT qe_B0 rfl
def F_T_place (v1 : Int32) (m : qm_M) : Option qm_R := X_T_place_e F_Ps_hasPlace v1 m
theorem fj_T_place {kp : pm_K} {d : Nat} (hT : qe_G kp d (T_T_place F_Ps_hasPlace)) (v1 : Int32) (m : qm_M) : qe_J kp md_T_place d (F_T_place v1 m) 0 [(0, .ref 0), (1, .int v1)] [] m := xg_T_place_e hT v1 m
theorem fg_T_place {kp : pm_K} (d : Nat) : qe_GE kp (d + 2) (161, 0, 10, 2, qw_ci 0 F_T_place) := qe_entry (by decide +kernel) (qw_ci_ok (d := d + 1) rfl rfl (fj_T_place (qe_G1 (fg_Ps_hasPlace (d + 0)) qe_G0)))
/-! TurnField.at(JI)J -/
noncomputable def T_T_at (f_Po_valueAt : Nat → Int64 → qm_M → Option qm_R) (f_Cu_through : Int64 → qm_M → Option qm_R) : qe_T := [(62, 1, 0, 2, qw_rl f_Po_valueAt), (1, 0, 0, 2, qw_ccl 107 2 f_Cu_through)]
def X_T_at_e (f_Po_valueAt : Nat → Int64 → qm_M → Option qm_R) (f_Cu_through : Int64 → qm_M → Option qm_R) (v1 : Int64) (v3 : Int32) (m : qm_M) : Option qm_R :=
  if v3 = 0 then
    qe_rL (f_Po_valueAt 2 v1 m) fun x1 m1 =>
    some (some (.long x1), m1)
  else
    if v3 = (1 : Int32) then
      qe_rL (f_Cu_through v1 m) fun x2 m2 =>
      some (some (.long x2), m2)
    else
      some (some (.long (0 : Int64)), m)
set_option maxRecDepth 100000 in
theorem xg_T_at_e {kp : pm_K} {d : Nat} {f_Po_valueAt : Nat → Int64 → qm_M → Option qm_R} {f_Cu_through : Int64 → qm_M → Option qm_R} (hT : qe_G kp d (T_T_at f_Po_valueAt f_Cu_through)) (v1 : Int64) (v3 : Int32) (m : qm_M) : qe_J kp md_T_at d (X_T_at_e f_Po_valueAt f_Cu_through v1 v3 m) 0 [(0, .ref 0), (1, .long v1), (3, .int v3)] [] m := qe_run (B := []) (n := 1000) hT qe_B0 rfl
def F_T_at (v1 : Int64) (v3 : Int32) (m : qm_M) : Option qm_R := X_T_at_e F_Po_valueAt F_Cu_through v1 v3 m
theorem fj_T_at {kp : pm_K} {d : Nat} (hT : qe_G kp d (T_T_at F_Po_valueAt F_Cu_through)) (v1 : Int64) (v3 : Int32) (m : qm_M) : qe_J kp md_T_at d (F_T_at v1 v3 m) 0 [(0, .ref 0), (1, .long v1), (3, .int v3)] [] m := xg_T_at_e hT v1 v3 m
theorem fg_T_at {kp : pm_K} (d : Nat) : qe_GE kp (d + 36) (162, 0, 10, 2, qw_cli 0 F_T_at) := qe_entry (by decide +kernel) (qw_cli_ok (d := d + 35) rfl rfl (fj_T_at (qe_G1 (fg_Po_valueAt (d + 1)) (qe_G1 (fg_Cu_through (d + 0)) qe_G0))))
/-! TurnField.full(II)J -/
noncomputable def T_T_full (f_Nu_leastFull : Int32 → qm_M → Option qm_R) (f_Nu_fullCount : Int32 → qm_M → Option qm_R) : qe_T := [(38, 1, 0, 2, qw_i f_Nu_leastFull), (37, 1, 0, 2, qw_i f_Nu_fullCount)]
def X_T_full_e (f_Nu_leastFull : Int32 → qm_M → Option qm_R) (f_Nu_fullCount : Int32 → qm_M → Option qm_R) (v1 : Int32) (v2 : Int32) (m : qm_M) : Option qm_R :=
  if v1 < 0 then
    some (some (.long (-1 : Int64)), m)
  else
    if (6 : Int32) < v1 then
      some (some (.long (-1 : Int64)), m)
    else
      if v2 < 0 then
        some (some (.long (-1 : Int64)), m)
      else
        if (1 : Int32) < v2 then
          some (some (.long (-1 : Int64)), m)
        else
          if v2 = 0 then
            qe_rL (f_Nu_leastFull v1 m) fun x1 m1 =>
            some (some (.long x1), m1)
          else
            qe_rL (f_Nu_fullCount v1 m) fun x2 m2 =>
            some (some (.long x2), m2)
set_option maxRecDepth 100000 in
theorem xg_T_full_e {kp : pm_K} {d : Nat} {f_Nu_leastFull : Int32 → qm_M → Option qm_R} {f_Nu_fullCount : Int32 → qm_M → Option qm_R} (hT : qe_G kp d (T_T_full f_Nu_leastFull f_Nu_fullCount)) (v1 : Int32) (v2 : Int32) (m : qm_M) : qe_J kp md_T_full d (X_T_full_e f_Nu_leastFull f_Nu_fullCount v1 v2 m) 0 [(0, .ref 0), (1, .int v1), (2, .int v2)] [] m := qe_run (B := []) (n := 1000) hT qe_B0 rfl
def F_T_full (v1 : Int32) (v2 : Int32) (m : qm_M) : Option qm_R := X_T_full_e F_Nu_leastFull F_Nu_fullCount v1 v2 m
theorem fj_T_full {kp : pm_K} {d : Nat} (hT : qe_G kp d (T_T_full F_Nu_leastFull F_Nu_fullCount)) (v1 : Int32) (v2 : Int32) (m : qm_M) : qe_J kp md_T_full d (F_T_full v1 v2 m) 0 [(0, .ref 0), (1, .int v1), (2, .int v2)] [] m := xg_T_full_e hT v1 v2 m
theorem fg_T_full {kp : pm_K} (d : Nat) : qe_GE kp (d + 38) (163, 0, 10, 2, qw_cii 0 F_T_full) := qe_entry (by decide +kernel) (qw_cii_ok (d := d + 37) rfl rfl (fj_T_full (qe_G1 (fg_Nu_leastFull (d + 0)) (qe_G1 (fg_Nu_fullCount (d + 35)) qe_G0))))
/-! TurnField.times(JJ)J -/
noncomputable def T_T_times (f_Nu_product : Int64 → Int64 → qm_M → Option qm_R) : qe_T := [(22, 1, 0, 2, qw_ll f_Nu_product)]
def X_T_times_e (f_Nu_product : Int64 → Int64 → qm_M → Option qm_R) (v1 : Int64) (v3 : Int64) (m : qm_M) : Option qm_R :=
  qe_rL (f_Nu_product v1 v3 m) fun x1 m1 =>
  some (some (.long x1), m1)
set_option maxRecDepth 100000 in
theorem xg_T_times_e {kp : pm_K} {d : Nat} {f_Nu_product : Int64 → Int64 → qm_M → Option qm_R} (hT : qe_G kp d (T_T_times f_Nu_product)) (v1 : Int64) (v3 : Int64) (m : qm_M) : qe_J kp md_T_times d (X_T_times_e f_Nu_product v1 v3 m) 0 [(0, .ref 0), (1, .long v1), (3, .long v3)] [] m := qe_run (B := []) (n := 1000) hT qe_B0 rfl
def F_T_times (v1 : Int64) (v3 : Int64) (m : qm_M) : Option qm_R := X_T_times_e F_Nu_product v1 v3 m
theorem fj_T_times {kp : pm_K} {d : Nat} (hT : qe_G kp d (T_T_times F_Nu_product)) (v1 : Int64) (v3 : Int64) (m : qm_M) : qe_J kp md_T_times d (F_T_times v1 v3 m) 0 [(0, .ref 0), (1, .long v1), (3, .long v3)] [] m := xg_T_times_e hT v1 v3 m
theorem fg_T_times {kp : pm_K} (d : Nat) : qe_GE kp (d + 34) (164, 0, 10, 2, qw_cll 0 F_T_times) := qe_entry (by decide +kernel) (qw_cll_ok (d := d + 33) rfl rfl (fj_T_times (qe_G1 (fg_Nu_product (d + 0)) qe_G0)))
/-! TurnField.inverse(J)J -/
noncomputable def T_T_inverse (f_Nu_inverted : Int64 → qm_M → Option qm_R) : qe_T := [(28, 1, 0, 2, qw_l f_Nu_inverted)]
def X_T_inverse_e (f_Nu_inverted : Int64 → qm_M → Option qm_R) (v1 : Int64) (m : qm_M) : Option qm_R :=
  qe_rL (f_Nu_inverted v1 m) fun x1 m1 =>
  some (some (.long x1), m1)
set_option maxRecDepth 100000 in
theorem xg_T_inverse_e {kp : pm_K} {d : Nat} {f_Nu_inverted : Int64 → qm_M → Option qm_R} (hT : qe_G kp d (T_T_inverse f_Nu_inverted)) (v1 : Int64) (m : qm_M) : qe_J kp md_T_inverse d (X_T_inverse_e f_Nu_inverted v1 m) 0 [(0, .ref 0), (1, .long v1)] [] m := qe_run (B := []) (n := 1000) hT qe_B0 rfl
def F_T_inverse (v1 : Int64) (m : qm_M) : Option qm_R := X_T_inverse_e F_Nu_inverted v1 m
theorem fj_T_inverse {kp : pm_K} {d : Nat} (hT : qe_G kp d (T_T_inverse F_Nu_inverted)) (v1 : Int64) (m : qm_M) : qe_J kp md_T_inverse d (F_T_inverse v1 m) 0 [(0, .ref 0), (1, .long v1)] [] m := xg_T_inverse_e hT v1 m
theorem fg_T_inverse {kp : pm_K} (d : Nat) : qe_GE kp (d + 34) (165, 0, 10, 2, qw_cl 0 F_T_inverse) := qe_entry (by decide +kernel) (qw_cl_ok (d := d + 33) rfl rfl (fj_T_inverse (qe_G1 (fg_Nu_inverted (d + 0)) qe_G0)))
/-! TurnField.root(J)J -/
noncomputable def T_T_root (f_Nu_rootOf : Int64 → qm_M → Option qm_R) : qe_T := [(27, 1, 0, 2, qw_l f_Nu_rootOf)]
def X_T_root_e (f_Nu_rootOf : Int64 → qm_M → Option qm_R) (v1 : Int64) (m : qm_M) : Option qm_R :=
  qe_rL (f_Nu_rootOf v1 m) fun x1 m1 =>
  some (some (.long x1), m1)
set_option maxRecDepth 100000 in
theorem xg_T_root_e {kp : pm_K} {d : Nat} {f_Nu_rootOf : Int64 → qm_M → Option qm_R} (hT : qe_G kp d (T_T_root f_Nu_rootOf)) (v1 : Int64) (m : qm_M) : qe_J kp md_T_root d (X_T_root_e f_Nu_rootOf v1 m) 0 [(0, .ref 0), (1, .long v1)] [] m := qe_run (B := []) (n := 1000) hT qe_B0 rfl
def F_T_root (v1 : Int64) (m : qm_M) : Option qm_R := X_T_root_e F_Nu_rootOf v1 m
theorem fj_T_root {kp : pm_K} {d : Nat} (hT : qe_G kp d (T_T_root F_Nu_rootOf)) (v1 : Int64) (m : qm_M) : qe_J kp md_T_root d (F_T_root v1 m) 0 [(0, .ref 0), (1, .long v1)] [] m := xg_T_root_e hT v1 m
theorem fg_T_root {kp : pm_K} (d : Nat) : qe_GE kp (d + 24) (166, 0, 10, 2, qw_cl 0 F_T_root) := qe_entry (by decide +kernel) (qw_cl_ok (d := d + 23) rfl rfl (fj_T_root (qe_G1 (fg_Nu_rootOf (d + 0)) qe_G0)))
/-! TurnField.power(JJ)J -/
noncomputable def T_T_power (f_Nu_raisedTo : Int64 → Int64 → qm_M → Option qm_R) (f_Nu_inverted : Int64 → qm_M → Option qm_R) : qe_T := [(33, 1, 0, 2, qw_ll f_Nu_raisedTo), (28, 1, 0, 2, qw_l f_Nu_inverted)]
def X_T_power_e (f_Nu_raisedTo : Int64 → Int64 → qm_M → Option qm_R) (f_Nu_inverted : Int64 → qm_M → Option qm_R) (v1 : Int64) (v3 : Int64) (m : qm_M) : Option qm_R :=
  if (lg_cmp v3 (0 : Int64)) < 0 then
    qe_rL (f_Nu_raisedTo v1 (-v3) m) fun x1 m1 =>
    qe_rL (f_Nu_inverted x1 m1) fun x2 m2 =>
    some (some (.long x2), m2)
  else
    qe_rL (f_Nu_raisedTo v1 v3 m) fun x3 m3 =>
    some (some (.long x3), m3)
set_option maxRecDepth 100000 in
theorem xg_T_power_e {kp : pm_K} {d : Nat} {f_Nu_raisedTo : Int64 → Int64 → qm_M → Option qm_R} {f_Nu_inverted : Int64 → qm_M → Option qm_R} (hT : qe_G kp d (T_T_power f_Nu_raisedTo f_Nu_inverted)) (v1 : Int64) (v3 : Int64) (m : qm_M) : qe_J kp md_T_power d (X_T_power_e f_Nu_raisedTo f_Nu_inverted v1 v3 m) 0 [(0, .ref 0), (1, .long v1), (3, .long v3)] [] m := qe_run (B := []) (n := 1000) hT qe_B0 rfl
def F_T_power (v1 : Int64) (v3 : Int64) (m : qm_M) : Option qm_R := X_T_power_e F_Nu_raisedTo F_Nu_inverted v1 v3 m
theorem fj_T_power {kp : pm_K} {d : Nat} (hT : qe_G kp d (T_T_power F_Nu_raisedTo F_Nu_inverted)) (v1 : Int64) (v3 : Int64) (m : qm_M) : qe_J kp md_T_power d (F_T_power v1 v3 m) 0 [(0, .ref 0), (1, .long v1), (3, .long v3)] [] m := xg_T_power_e hT v1 v3 m
theorem fg_T_power {kp : pm_K} (d : Nat) : qe_GE kp (d + 35) (167, 0, 10, 2, qw_cll 0 F_T_power) := qe_entry (by decide +kernel) (qw_cll_ok (d := d + 34) rfl rfl (fj_T_power (qe_G1 (fg_Nu_raisedTo (d + 0)) (qe_G1 (fg_Nu_inverted (d + 1)) qe_G0))))
/-! TurnField.order(J)J -/
noncomputable def T_T_order (f_Nu_orderOf : Int64 → qm_M → Option qm_R) : qe_T := [(36, 1, 0, 2, qw_l f_Nu_orderOf)]
def X_T_order_e (f_Nu_orderOf : Int64 → qm_M → Option qm_R) (v1 : Int64) (m : qm_M) : Option qm_R :=
  qe_rL (f_Nu_orderOf v1 m) fun x1 m1 =>
  some (some (.long x1), m1)
set_option maxRecDepth 100000 in
theorem xg_T_order_e {kp : pm_K} {d : Nat} {f_Nu_orderOf : Int64 → qm_M → Option qm_R} (hT : qe_G kp d (T_T_order f_Nu_orderOf)) (v1 : Int64) (m : qm_M) : qe_J kp md_T_order d (X_T_order_e f_Nu_orderOf v1 m) 0 [(0, .ref 0), (1, .long v1)] [] m := qe_run (B := []) (n := 1000) hT qe_B0 rfl
def F_T_order (v1 : Int64) (m : qm_M) : Option qm_R := X_T_order_e F_Nu_orderOf v1 m
theorem fj_T_order {kp : pm_K} {d : Nat} (hT : qe_G kp d (T_T_order F_Nu_orderOf)) (v1 : Int64) (m : qm_M) : qe_J kp md_T_order d (F_T_order v1 m) 0 [(0, .ref 0), (1, .long v1)] [] m := xg_T_order_e hT v1 m
theorem fg_T_order {kp : pm_K} (d : Nat) : qe_GE kp (d + 37) (168, 0, 10, 2, qw_cl 0 F_T_order) := qe_entry (by decide +kernel) (qw_cl_ok (d := d + 36) rfl rfl (fj_T_order (qe_G1 (fg_Nu_orderOf (d + 0)) qe_G0)))
/-! TurnField.level(JI)I -/
noncomputable def T_T_level (f_Nu_levelOf : Int64 → qm_M → Option qm_R) : qe_T := [(21, 1, 0, 1, qw_l f_Nu_levelOf)]
def X_T_level_e (f_Nu_levelOf : Int64 → qm_M → Option qm_R) (v1 : Int64) (v3 : Int32) (m : qm_M) : Option qm_R :=
  if v3 < 0 then
    some (some (.int (-1 : Int32)), m)
  else
    if (1 : Int32) < v3 then
      some (some (.int (-1 : Int32)), m)
    else
      qe_rI (f_Nu_levelOf v1 m) fun x1 m1 =>
      if v3 = 0 then
        some (some (.int x1), m1)
      else
        some (some (.int (qo_ishl (1 : Int32) x1)), m1)
set_option maxRecDepth 100000 in
theorem xg_T_level_e {kp : pm_K} {d : Nat} {f_Nu_levelOf : Int64 → qm_M → Option qm_R} (hT : qe_G kp d (T_T_level f_Nu_levelOf)) (v1 : Int64) (v3 : Int32) (m : qm_M) : qe_J kp md_T_level d (X_T_level_e f_Nu_levelOf v1 v3 m) 0 [(0, .ref 0), (1, .long v1), (3, .int v3)] [] m := qe_run (B := []) (n := 1000) hT qe_B0 rfl
def F_T_level (v1 : Int64) (v3 : Int32) (m : qm_M) : Option qm_R := X_T_level_e F_Nu_levelOf v1 v3 m
theorem fj_T_level {kp : pm_K} {d : Nat} (hT : qe_G kp d (T_T_level F_Nu_levelOf)) (v1 : Int64) (v3 : Int32) (m : qm_M) : qe_J kp md_T_level d (F_T_level v1 v3 m) 0 [(0, .ref 0), (1, .long v1), (3, .int v3)] [] m := xg_T_level_e hT v1 v3 m
theorem fg_T_level {kp : pm_K} (d : Nat) : qe_GE kp (d + 2) (169, 0, 10, 1, qw_cli 0 F_T_level) := qe_entry (by decide +kernel) (qw_cli_ok (d := d + 1) rfl rfl (fj_T_level (qe_G1 (fg_Nu_levelOf (d + 0)) qe_G0)))
/-! TurnField.least(J)J -/
noncomputable def T_T_least (f_Sp_leastPolynomial : Int64 → qm_M → Option qm_R) : qe_T := [(104, 0, 7, 2, qw_cl 64 f_Sp_leastPolynomial)]
def X_T_least_e (f_Sp_leastPolynomial : Int64 → qm_M → Option qm_R) (v1 : Int64) (m : qm_M) : Option qm_R :=
  qe_rL (f_Sp_leastPolynomial v1 m) fun x1 m1 =>
  some (some (.long x1), m1)
set_option maxRecDepth 100000 in
theorem xg_T_least_e {kp : pm_K} {d : Nat} {f_Sp_leastPolynomial : Int64 → qm_M → Option qm_R} (hT : qe_G kp d (T_T_least f_Sp_leastPolynomial)) (v1 : Int64) (m : qm_M) : qe_J kp md_T_least d (X_T_least_e f_Sp_leastPolynomial v1 m) 0 [(0, .ref 0), (1, .long v1)] [] m := qe_run (B := []) (n := 1000) hT qe_B0 rfl
def F_T_least (v1 : Int64) (m : qm_M) : Option qm_R := X_T_least_e F_Sp_leastPolynomial v1 m
theorem fj_T_least {kp : pm_K} {d : Nat} (hT : qe_G kp d (T_T_least F_Sp_leastPolynomial)) (v1 : Int64) (m : qm_M) : qe_J kp md_T_least d (F_T_least v1 m) 0 [(0, .ref 0), (1, .long v1)] [] m := xg_T_least_e hT v1 m
theorem fg_T_least {kp : pm_K} (d : Nat) : qe_GE kp (d + 35) (170, 0, 10, 2, qw_cl 0 F_T_least) := qe_entry (by decide +kernel) (qw_cl_ok (d := d + 34) rfl rfl (fj_T_least (qe_G1 (fg_Sp_leastPolynomial (d + 0)) qe_G0)))
/-! TurnField.trace(JI)I -/
noncomputable def T_T_trace (f_Nu_levelOf : Int64 → qm_M → Option qm_R) (f_Nu_traceOf : Int64 → Int32 → qm_M → Option qm_R) : qe_T := [(21, 1, 0, 1, qw_l f_Nu_levelOf), (32, 1, 0, 1, qw_li f_Nu_traceOf)]
def X_T_trace_e (f_Nu_levelOf : Int64 → qm_M → Option qm_R) (f_Nu_traceOf : Int64 → Int32 → qm_M → Option qm_R) (v1 : Int64) (v3 : Int32) (m : qm_M) : Option qm_R :=
  if v3 < 0 then
    some (some (.int (-1 : Int32)), m)
  else
    if (6 : Int32) < v3 then
      some (some (.int (-1 : Int32)), m)
    else
      qe_rI (f_Nu_levelOf v1 m) fun x1 m1 =>
      if v3 < x1 then
        some (some (.int (-1 : Int32)), m1)
      else
        qe_rI (f_Nu_traceOf v1 v3 m1) fun x2 m2 =>
        some (some (.int x2), m2)
set_option maxRecDepth 100000 in
theorem xg_T_trace_e {kp : pm_K} {d : Nat} {f_Nu_levelOf : Int64 → qm_M → Option qm_R} {f_Nu_traceOf : Int64 → Int32 → qm_M → Option qm_R} (hT : qe_G kp d (T_T_trace f_Nu_levelOf f_Nu_traceOf)) (v1 : Int64) (v3 : Int32) (m : qm_M) : qe_J kp md_T_trace d (X_T_trace_e f_Nu_levelOf f_Nu_traceOf v1 v3 m) 0 [(0, .ref 0), (1, .long v1), (3, .int v3)] [] m := qe_run (B := []) (n := 1000) hT qe_B0 rfl
def F_T_trace (v1 : Int64) (v3 : Int32) (m : qm_M) : Option qm_R := X_T_trace_e F_Nu_levelOf F_Nu_traceOf v1 v3 m
theorem fj_T_trace {kp : pm_K} {d : Nat} (hT : qe_G kp d (T_T_trace F_Nu_levelOf F_Nu_traceOf)) (v1 : Int64) (v3 : Int32) (m : qm_M) : qe_J kp md_T_trace d (F_T_trace v1 v3 m) 0 [(0, .ref 0), (1, .long v1), (3, .int v3)] [] m := xg_T_trace_e hT v1 v3 m
theorem fg_T_trace {kp : pm_K} (d : Nat) : qe_GE kp (d + 2) (171, 0, 10, 1, qw_cli 0 F_T_trace) := qe_entry (by decide +kernel) (qw_cli_ok (d := d + 1) rfl rfl (fj_T_trace (qe_G1 (fg_Nu_levelOf (d + 0)) (qe_G1 (fg_Nu_traceOf (d + 0)) qe_G0))))
/-! TurnField.half(J)J -/
noncomputable def T_T_half (f_Nu_hasHalf : Int64 → qm_M → Option qm_R) (f_Nu_halved : Int64 → qm_M → Option qm_R) : qe_T := [(29, 1, 0, 1, qw_l f_Nu_hasHalf), (30, 1, 0, 2, qw_l f_Nu_halved)]
def X_T_half_e (f_Nu_hasHalf : Int64 → qm_M → Option qm_R) (f_Nu_halved : Int64 → qm_M → Option qm_R) (v1 : Int64) (m : qm_M) : Option qm_R :=
  qe_rI (f_Nu_hasHalf v1 m) fun x1 m1 =>
  if x1 = 0 then
    some (some (.long (0 : Int64)), m1)
  else
    qe_rL (f_Nu_halved v1 m1) fun x2 m2 =>
    some (some (.long x2), m2)
set_option maxRecDepth 100000 in
theorem xg_T_half_e {kp : pm_K} {d : Nat} {f_Nu_hasHalf : Int64 → qm_M → Option qm_R} {f_Nu_halved : Int64 → qm_M → Option qm_R} (hT : qe_G kp d (T_T_half f_Nu_hasHalf f_Nu_halved)) (v1 : Int64) (m : qm_M) : qe_J kp md_T_half d (X_T_half_e f_Nu_hasHalf f_Nu_halved v1 m) 0 [(0, .ref 0), (1, .long v1)] [] m := qe_run (B := []) (n := 1000) hT qe_B0 rfl
def F_T_half (v1 : Int64) (m : qm_M) : Option qm_R := X_T_half_e F_Nu_hasHalf F_Nu_halved v1 m
theorem fj_T_half {kp : pm_K} {d : Nat} (hT : qe_G kp d (T_T_half F_Nu_hasHalf F_Nu_halved)) (v1 : Int64) (m : qm_M) : qe_J kp md_T_half d (F_T_half v1 m) 0 [(0, .ref 0), (1, .long v1)] [] m := xg_T_half_e hT v1 m
theorem fg_T_half {kp : pm_K} (d : Nat) : qe_GE kp (d + 35) (172, 0, 10, 2, qw_cl 0 F_T_half) := qe_entry (by decide +kernel) (qw_cl_ok (d := d + 34) rfl rfl (fj_T_half (qe_G1 (fg_Nu_hasHalf (d + 33)) (qe_G1 (fg_Nu_halved (d + 0)) qe_G0))))
/-! TurnField.solve(JJI)J -/
noncomputable def T_T_solve (f_Nu_rootOf : Int64 → qm_M → Option qm_R) (f_Nu_square : Int64 → qm_M → Option qm_R) (f_Nu_inverted : Int64 → qm_M → Option qm_R) (f_Nu_product : Int64 → Int64 → qm_M → Option qm_R) (f_Nu_hasHalf : Int64 → qm_M → Option qm_R) (f_Nu_halved : Int64 → qm_M → Option qm_R) (f_Nu_below : Int64 → Int64 → qm_M → Option qm_R) : qe_T := [(27, 1, 0, 2, qw_l f_Nu_rootOf), (26, 1, 0, 2, qw_l f_Nu_square), (28, 1, 0, 2, qw_l f_Nu_inverted), (22, 1, 0, 2, qw_ll f_Nu_product), (29, 1, 0, 1, qw_l f_Nu_hasHalf), (30, 1, 0, 2, qw_l f_Nu_halved), (20, 1, 0, 1, qw_ll f_Nu_below)]
def X_T_solve_e (f_Nu_rootOf : Int64 → qm_M → Option qm_R) (f_Nu_square : Int64 → qm_M → Option qm_R) (f_Nu_inverted : Int64 → qm_M → Option qm_R) (f_Nu_product : Int64 → Int64 → qm_M → Option qm_R) (f_Nu_hasHalf : Int64 → qm_M → Option qm_R) (f_Nu_halved : Int64 → qm_M → Option qm_R) (f_Nu_below : Int64 → Int64 → qm_M → Option qm_R) (v1 : Int64) (v3 : Int64) (v5 : Int32) (m : qm_M) : Option qm_R :=
  if v5 < 0 then
    some (some (.long (0 : Int64)), m)
  else
    if (2 : Int32) < v5 then
      some (some (.long (0 : Int64)), m)
    else
      if (lg_cmp v1 (0 : Int64)) = 0 then
        if v5 = 0 then
          some (some (.long (1 : Int64)), m)
        else
          qe_rL (f_Nu_rootOf v3 m) fun x1 m1 =>
          some (some (.long x1), m1)
      else
        qe_rL (f_Nu_square v1 m) fun x2 m2 =>
        qe_rL (f_Nu_inverted x2 m2) fun x3 m3 =>
        qe_rL (f_Nu_product v3 x3 m3) fun x4 m4 =>
        qe_rI (f_Nu_hasHalf x4 m4) fun x5 m5 =>
        if x5 = 0 then
          some (some (.long (0 : Int64)), m5)
        else
          if v5 = 0 then
            some (some (.long (2 : Int64)), m5)
          else
            qe_rL (f_Nu_halved x4 m5) fun x6 m6 =>
            qe_rL (f_Nu_product v1 x6 m6) fun x7 m7 =>
            qe_rI (f_Nu_below x7 (x7 ^^^ v1) m7) fun x8 m8 =>
            if v5 = (1 : Int32) then
              if x8 = (1 : Int32) then
                some (some (.long x7), m8)
              else
                some (some (.long (x7 ^^^ v1)), m8)
            else
              if x8 = (0 : Int32) then
                some (some (.long x7), m8)
              else
                some (some (.long (x7 ^^^ v1)), m8)
set_option maxRecDepth 100000 in
theorem xg_T_solve_e {kp : pm_K} {d : Nat} {f_Nu_rootOf : Int64 → qm_M → Option qm_R} {f_Nu_square : Int64 → qm_M → Option qm_R} {f_Nu_inverted : Int64 → qm_M → Option qm_R} {f_Nu_product : Int64 → Int64 → qm_M → Option qm_R} {f_Nu_hasHalf : Int64 → qm_M → Option qm_R} {f_Nu_halved : Int64 → qm_M → Option qm_R} {f_Nu_below : Int64 → Int64 → qm_M → Option qm_R} (hT : qe_G kp d (T_T_solve f_Nu_rootOf f_Nu_square f_Nu_inverted f_Nu_product f_Nu_hasHalf f_Nu_halved f_Nu_below)) (v1 : Int64) (v3 : Int64) (v5 : Int32) (m : qm_M) : qe_J kp md_T_solve d (X_T_solve_e f_Nu_rootOf f_Nu_square f_Nu_inverted f_Nu_product f_Nu_hasHalf f_Nu_halved f_Nu_below v1 v3 v5 m) 0 [(0, .ref 0), (1, .long v1), (3, .long v3), (5, .int v5)] [] m := qe_run (B := []) (n := 1000) hT qe_B0 rfl
def F_T_solve (v1 : Int64) (v3 : Int64) (v5 : Int32) (m : qm_M) : Option qm_R := X_T_solve_e F_Nu_rootOf F_Nu_square F_Nu_inverted F_Nu_product F_Nu_hasHalf F_Nu_halved F_Nu_below v1 v3 v5 m
theorem fj_T_solve {kp : pm_K} {d : Nat} (hT : qe_G kp d (T_T_solve F_Nu_rootOf F_Nu_square F_Nu_inverted F_Nu_product F_Nu_hasHalf F_Nu_halved F_Nu_below)) (v1 : Int64) (v3 : Int64) (v5 : Int32) (m : qm_M) : qe_J kp md_T_solve d (F_T_solve v1 v3 v5 m) 0 [(0, .ref 0), (1, .long v1), (3, .long v3), (5, .int v5)] [] m := xg_T_solve_e hT v1 v3 v5 m
theorem fg_T_solve {kp : pm_K} (d : Nat) : qe_GE kp (d + 35) (173, 0, 10, 2, qw_clli 0 F_T_solve) := qe_entry (by decide +kernel) (qw_clli_ok (d := d + 34) rfl rfl (fj_T_solve (qe_G1 (fg_Nu_rootOf (d + 11)) (qe_G1 (fg_Nu_square (d + 11)) (qe_G1 (fg_Nu_inverted (d + 1)) (qe_G1 (fg_Nu_product (d + 1)) (qe_G1 (fg_Nu_hasHalf (d + 33)) (qe_G1 (fg_Nu_halved (d + 0)) (qe_G1 (fg_Nu_below (d + 33)) qe_G0)))))))))
/-! TurnField.log(JJ)I -/
noncomputable def T_T_log (f_Nu_levelOf : Int64 → qm_M → Option qm_R) (f_Nu_logarithm : Int64 → Int64 → qm_M → Option qm_R) : qe_T := [(21, 1, 0, 1, qw_l f_Nu_levelOf), (40, 1, 0, 1, qw_ll f_Nu_logarithm)]
def X_T_log_e (f_Nu_levelOf : Int64 → qm_M → Option qm_R) (f_Nu_logarithm : Int64 → Int64 → qm_M → Option qm_R) (v1 : Int64) (v3 : Int64) (m : qm_M) : Option qm_R :=
  qe_rI (f_Nu_levelOf v1 m) fun x1 m1 =>
  if (4 : Int32) < x1 then
    some (some (.int (-2 : Int32)), m1)
  else
    qe_rI (f_Nu_levelOf v3 m1) fun x2 m2 =>
    if (4 : Int32) < x2 then
      some (some (.int (-2 : Int32)), m2)
    else
      qe_rI (f_Nu_logarithm v1 v3 m2) fun x3 m3 =>
      some (some (.int x3), m3)
set_option maxRecDepth 100000 in
theorem xg_T_log_e {kp : pm_K} {d : Nat} {f_Nu_levelOf : Int64 → qm_M → Option qm_R} {f_Nu_logarithm : Int64 → Int64 → qm_M → Option qm_R} (hT : qe_G kp d (T_T_log f_Nu_levelOf f_Nu_logarithm)) (v1 : Int64) (v3 : Int64) (m : qm_M) : qe_J kp md_T_log d (X_T_log_e f_Nu_levelOf f_Nu_logarithm v1 v3 m) 0 [(0, .ref 0), (1, .long v1), (3, .long v3)] [] m := qe_run (B := []) (n := 1000) hT qe_B0 rfl
def F_T_log (v1 : Int64) (v3 : Int64) (m : qm_M) : Option qm_R := X_T_log_e F_Nu_levelOf F_Nu_logarithm v1 v3 m
theorem fj_T_log {kp : pm_K} {d : Nat} (hT : qe_G kp d (T_T_log F_Nu_levelOf F_Nu_logarithm)) (v1 : Int64) (v3 : Int64) (m : qm_M) : qe_J kp md_T_log d (F_T_log v1 v3 m) 0 [(0, .ref 0), (1, .long v1), (3, .long v3)] [] m := xg_T_log_e hT v1 v3 m
theorem fg_T_log {kp : pm_K} (d : Nat) : qe_GE kp (d + 38) (174, 0, 10, 1, qw_cll 0 F_T_log) := qe_entry (by decide +kernel) (qw_cll_ok (d := d + 37) rfl rfl (fj_T_log (qe_G1 (fg_Nu_levelOf (d + 36)) (qe_G1 (fg_Nu_logarithm (d + 0)) qe_G0))))
/-! TurnField.boards(I)J -/
noncomputable def T_T_boards (f_Le_canHold : qm_M → Option qm_R) (f_Le_tune : qm_M → Option qm_R) (f_Le_spread : Int32 → qm_M → Option qm_R) : qe_T := [(11, 1, 0, 1, qw_c 1 f_Le_canHold), (12, 0, 1, 0, qw_ccc 60 1 48 f_Le_tune), (18, 0, 1, 2, qw_ci 60 f_Le_spread)]
def X_T_boards_e (f_Le_canHold : qm_M → Option qm_R) (f_Le_tune : qm_M → Option qm_R) (f_Le_spread : Int32 → qm_M → Option qm_R) (v1 : Int32) (m : qm_M) : Option qm_R :=
  if v1 < 0 then
    some (some (.long (-1 : Int64)), m)
  else
    if (2 : Int32) < v1 then
      some (some (.long (-1 : Int64)), m)
    else
      qe_rI (f_Le_canHold m) fun x1 m1 =>
      if x1 = 0 then
        some (some (.long (-2 : Int64)), m1)
      else
        qe_rV (f_Le_tune m1) fun m2 =>
        if Int32.toInt v1 = 0 then
          some (some (.long (Int32.toInt64 (m2.1 60 7))), m2)
        else
         if Int32.toInt v1 = 1 then
           some (some (.long (Int32.toInt64 (m2.1 60 8))), m2)
         else
           qe_rL (f_Le_spread (m2.1 60 9) m2) fun x2 m3 =>
           some (some (.long x2), m3)
set_option maxRecDepth 100000 in
theorem xg_T_boards_e {kp : pm_K} {d : Nat} {f_Le_canHold : qm_M → Option qm_R} {f_Le_tune : qm_M → Option qm_R} {f_Le_spread : Int32 → qm_M → Option qm_R} (hT : qe_G kp d (T_T_boards f_Le_canHold f_Le_tune f_Le_spread)) (v1 : Int32) (m : qm_M) : qe_J kp md_T_boards d (X_T_boards_e f_Le_canHold f_Le_tune f_Le_spread v1 m) 0 [(0, .ref 0), (1, .int v1)] [] m := qe_run (B := []) (n := 1000) hT qe_B0 rfl
def F_T_boards (v1 : Int32) (m : qm_M) : Option qm_R := X_T_boards_e F_Le_canHold F_Le_tune F_Le_spread v1 m
theorem fj_T_boards {kp : pm_K} {d : Nat} (hT : qe_G kp d (T_T_boards F_Le_canHold F_Le_tune F_Le_spread)) (v1 : Int32) (m : qm_M) : qe_J kp md_T_boards d (F_T_boards v1 m) 0 [(0, .ref 0), (1, .int v1)] [] m := xg_T_boards_e hT v1 m
theorem fg_T_boards {kp : pm_K} (d : Nat) : qe_GE kp (d + 36) (175, 0, 10, 2, qw_ci 0 F_T_boards) := qe_entry (by decide +kernel) (qw_ci_ok (d := d + 35) rfl rfl (fj_T_boards (qe_G1 (fg_Le_canHold (d + 34)) (qe_G1 (fg_Le_tune (d + 0)) (qe_G1 (fg_Le_spread (d + 34)) qe_G0)))))
/-! TurnField.game(I)I -/
noncomputable def T_T_game (f_Le_canHold : qm_M → Option qm_R) (f_Le_tune : qm_M → Option qm_R) (f_Le_lengthOf : qm_M → Option qm_R) : qe_T := [(11, 1, 0, 1, qw_c 1 f_Le_canHold), (12, 0, 1, 0, qw_ccc 60 1 48 f_Le_tune), (19, 0, 1, 1, qw_cc 60 1 f_Le_lengthOf)]
def X_T_game_e (f_Le_canHold : qm_M → Option qm_R) (f_Le_tune : qm_M → Option qm_R) (f_Le_lengthOf : qm_M → Option qm_R) (v1 : Int32) (m : qm_M) : Option qm_R :=
  if v1 < 0 then
    some (some (.int (-1 : Int32)), m)
  else
    if (1 : Int32) < v1 then
      some (some (.int (-1 : Int32)), m)
    else
      qe_rI (f_Le_canHold m) fun x1 m1 =>
      if x1 = 0 then
        some (some (.int (-2 : Int32)), m1)
      else
        qe_rV (f_Le_tune m1) fun m2 =>
        qe_rI (f_Le_lengthOf m2) fun x2 m3 =>
        if v1 = 0 then
          some (some (.int (x2 &&& (1 : Int32))), m3)
        else
          some (some (.int x2), m3)
set_option maxRecDepth 100000 in
theorem xg_T_game_e {kp : pm_K} {d : Nat} {f_Le_canHold : qm_M → Option qm_R} {f_Le_tune : qm_M → Option qm_R} {f_Le_lengthOf : qm_M → Option qm_R} (hT : qe_G kp d (T_T_game f_Le_canHold f_Le_tune f_Le_lengthOf)) (v1 : Int32) (m : qm_M) : qe_J kp md_T_game d (X_T_game_e f_Le_canHold f_Le_tune f_Le_lengthOf v1 m) 0 [(0, .ref 0), (1, .int v1)] [] m := qe_run (B := []) (n := 1000) hT qe_B0 rfl
def F_T_game (v1 : Int32) (m : qm_M) : Option qm_R := X_T_game_e F_Le_canHold F_Le_tune F_Le_lengthOf v1 m
theorem fj_T_game {kp : pm_K} {d : Nat} (hT : qe_G kp d (T_T_game F_Le_canHold F_Le_tune F_Le_lengthOf)) (v1 : Int32) (m : qm_M) : qe_J kp md_T_game d (F_T_game v1 m) 0 [(0, .ref 0), (1, .int v1)] [] m := xg_T_game_e hT v1 m
theorem fg_T_game {kp : pm_K} (d : Nat) : qe_GE kp (d + 36) (176, 0, 10, 1, qw_ci 0 F_T_game) := qe_entry (by decide +kernel) (qw_ci_ok (d := d + 35) rfl rfl (fj_T_game (qe_G1 (fg_Le_canHold (d + 34)) (qe_G1 (fg_Le_tune (d + 0)) (qe_G1 (fg_Le_lengthOf (d + 33)) qe_G0)))))
/-! TurnField.worth(II)I -/
noncomputable def T_T_worth (f_Pl_tune : qm_M → Option qm_R) (f_Pl_ruleOf : Int32 → qm_M → Option qm_R) (f_Ru_worthOf : Nat → Int32 → qm_M → Option qm_R) : qe_T := [(49, 0, 3, 0, qw_cc 48 1 f_Pl_tune), (53, 0, 3, 3, qw_ci 48 f_Pl_ruleOf), (101, 0, 6, 1, qw_ri f_Ru_worthOf)]
def X_T_worth_e (f_Pl_tune : qm_M → Option qm_R) (f_Pl_ruleOf : Int32 → qm_M → Option qm_R) (f_Ru_worthOf : Nat → Int32 → qm_M → Option qm_R) (v1 : Int32) (v2 : Int32) (m : qm_M) : Option qm_R :=
  if v1 < 0 then
    some (some (.int (-1 : Int32)), m)
  else
    if (1 : Int32) < v1 then
      some (some (.int (-1 : Int32)), m)
    else
      qe_rV (f_Pl_tune m) fun m1 =>
      qe_rR (f_Pl_ruleOf v1 m1) fun x1 m2 =>
      qe_b (qm_isO x1 6) (
      qe_rI (f_Ru_worthOf x1 v2 m2) fun x2 m3 =>
      some (some (.int x2), m3))
set_option maxRecDepth 100000 in
theorem xg_T_worth_e {kp : pm_K} {d : Nat} {f_Pl_tune : qm_M → Option qm_R} {f_Pl_ruleOf : Int32 → qm_M → Option qm_R} {f_Ru_worthOf : Nat → Int32 → qm_M → Option qm_R} (hT : qe_G kp d (T_T_worth f_Pl_tune f_Pl_ruleOf f_Ru_worthOf)) (v1 : Int32) (v2 : Int32) (m : qm_M) : qe_J kp md_T_worth d (X_T_worth_e f_Pl_tune f_Pl_ruleOf f_Ru_worthOf v1 v2 m) 0 [(0, .ref 0), (1, .int v1), (2, .int v2)] [] m := qe_run (B := []) (n := 1000) hT qe_B0 rfl
def F_T_worth (v1 : Int32) (v2 : Int32) (m : qm_M) : Option qm_R := X_T_worth_e F_Pl_tune F_Pl_ruleOf F_Ru_worthOf v1 v2 m
theorem fj_T_worth {kp : pm_K} {d : Nat} (hT : qe_G kp d (T_T_worth F_Pl_tune F_Pl_ruleOf F_Ru_worthOf)) (v1 : Int32) (v2 : Int32) (m : qm_M) : qe_J kp md_T_worth d (F_T_worth v1 v2 m) 0 [(0, .ref 0), (1, .int v1), (2, .int v2)] [] m := xg_T_worth_e hT v1 v2 m
theorem fg_T_worth {kp : pm_K} (d : Nat) : qe_GE kp (d + 35) (177, 0, 10, 1, qw_cii 0 F_T_worth) := qe_entry (by decide +kernel) (qw_cii_ok (d := d + 34) rfl rfl (fj_T_worth (qe_G1 (fg_Pl_tune (d + 0)) (qe_G1 (fg_Pl_ruleOf (d + 33)) (qe_G1 (fg_Ru_worthOf (d + 33)) qe_G0)))))
/-! TurnField.cell(III)I -/
noncomputable def T_T_cell (f_Ps_hasCell : Nat → Int32 → Int32 → qm_M → Option qm_R) (f_Ps_showsHeads : Nat → Int32 → Int32 → qm_M → Option qm_R) (f_Pl_tune : qm_M → Option qm_R) (f_Pl_effectOf : Int32 → Int32 → qm_M → Option qm_R) : qe_T := [(82, 0, 5, 1, qw_rii f_Ps_hasCell), (85, 0, 5, 1, qw_rii f_Ps_showsHeads), (49, 0, 3, 0, qw_cc 48 1 f_Pl_tune), (52, 0, 3, 1, qw_cii 48 f_Pl_effectOf)]
def X_T_cell_e (f_Ps_hasCell : Nat → Int32 → Int32 → qm_M → Option qm_R) (f_Ps_showsHeads : Nat → Int32 → Int32 → qm_M → Option qm_R) (f_Pl_tune : qm_M → Option qm_R) (f_Pl_effectOf : Int32 → Int32 → qm_M → Option qm_R) (v1 : Int32) (v2 : Int32) (v3 : Int32) (m : qm_M) : Option qm_R :=
  qe_rI (f_Ps_hasCell 1 v1 v2 m) fun x1 m1 =>
  if x1 = 0 then
    some (some (.int (-1 : Int32)), m1)
  else
    if v3 < 0 then
      some (some (.int (-1 : Int32)), m1)
    else
      if (2 : Int32) < v3 then
        some (some (.int (-1 : Int32)), m1)
      else
        if v3 = (2 : Int32) then
          qe_rI (f_Ps_showsHeads 1 v1 v2 m1) fun x2 m2 =>
          if x2 = 0 then
            some (some (.int (0 : Int32)), m2)
          else
            some (some (.int (1 : Int32)), m2)
        else
          qe_rV (f_Pl_tune m1) fun m3 =>
          qe_rI (f_Pl_effectOf (qo_ishl (1 : Int32) v1) (qo_ishl (1 : Int32) v2) m3) fun x3 m4 =>
          some (some (.int x3), m4)
set_option maxRecDepth 100000 in
theorem xg_T_cell_e {kp : pm_K} {d : Nat} {f_Ps_hasCell : Nat → Int32 → Int32 → qm_M → Option qm_R} {f_Ps_showsHeads : Nat → Int32 → Int32 → qm_M → Option qm_R} {f_Pl_tune : qm_M → Option qm_R} {f_Pl_effectOf : Int32 → Int32 → qm_M → Option qm_R} (hT : qe_G kp d (T_T_cell f_Ps_hasCell f_Ps_showsHeads f_Pl_tune f_Pl_effectOf)) (v1 : Int32) (v2 : Int32) (v3 : Int32) (m : qm_M) : qe_J kp md_T_cell d (X_T_cell_e f_Ps_hasCell f_Ps_showsHeads f_Pl_tune f_Pl_effectOf v1 v2 v3 m) 0 [(0, .ref 0), (1, .int v1), (2, .int v2), (3, .int v3)] [] m := qe_run (B := []) (n := 1000) hT qe_B0 rfl
def F_T_cell (v1 : Int32) (v2 : Int32) (v3 : Int32) (m : qm_M) : Option qm_R := X_T_cell_e F_Ps_hasCell F_Ps_showsHeads F_Pl_tune F_Pl_effectOf v1 v2 v3 m
theorem fj_T_cell {kp : pm_K} {d : Nat} (hT : qe_G kp d (T_T_cell F_Ps_hasCell F_Ps_showsHeads F_Pl_tune F_Pl_effectOf)) (v1 : Int32) (v2 : Int32) (v3 : Int32) (m : qm_M) : qe_J kp md_T_cell d (F_T_cell v1 v2 v3 m) 0 [(0, .ref 0), (1, .int v1), (2, .int v2), (3, .int v3)] [] m := xg_T_cell_e hT v1 v2 v3 m
theorem fg_T_cell {kp : pm_K} (d : Nat) : qe_GE kp (d + 35) (178, 0, 10, 1, qw_ciii 0 F_T_cell) := qe_entry (by decide +kernel) (qw_ciii_ok (d := d + 34) rfl rfl (fj_T_cell (qe_G1 (fg_Ps_hasCell (d + 33)) (qe_G1 (fg_Ps_showsHeads (d + 32)) (qe_G1 (fg_Pl_tune (d + 0)) (qe_G1 (fg_Pl_effectOf (d + 33)) qe_G0))))))
/-! TurnField.total()J -/
noncomputable def T_T_total (f_Pl_tune : qm_M → Option qm_R) (f_Pl_boardWorth : qm_M → Option qm_R) : qe_T := [(49, 0, 3, 0, qw_cc 48 1 f_Pl_tune), (54, 0, 3, 1, qw_cc 48 1 f_Pl_boardWorth)]
def X_T_total_e (f_Pl_tune : qm_M → Option qm_R) (f_Pl_boardWorth : qm_M → Option qm_R)  (m : qm_M) : Option qm_R :=
  qe_rV (f_Pl_tune m) fun m1 =>
  qe_rI (f_Pl_boardWorth m1) fun x1 m2 =>
  some (some (.long (Int32.toInt64 x1)), m2)
set_option maxRecDepth 100000 in
theorem xg_T_total_e {kp : pm_K} {d : Nat} {f_Pl_tune : qm_M → Option qm_R} {f_Pl_boardWorth : qm_M → Option qm_R} (hT : qe_G kp d (T_T_total f_Pl_tune f_Pl_boardWorth)) (m : qm_M) : qe_J kp md_T_total d (X_T_total_e f_Pl_tune f_Pl_boardWorth m) 0 [(0, .ref 0)] [] m := qe_run (B := []) (n := 1000) hT qe_B0 rfl
def F_T_total (m : qm_M) : Option qm_R := X_T_total_e F_Pl_tune F_Pl_boardWorth m
theorem fj_T_total {kp : pm_K} {d : Nat} (hT : qe_G kp d (T_T_total F_Pl_tune F_Pl_boardWorth)) (m : qm_M) : qe_J kp md_T_total d (F_T_total m) 0 [(0, .ref 0)] [] m := xg_T_total_e hT m
theorem fg_T_total {kp : pm_K} (d : Nat) : qe_GE kp (d + 35) (179, 0, 10, 2, qw_c 0 F_T_total) := qe_entry (by decide +kernel) (qw_c_ok (d := d + 34) rfl rfl (fj_T_total (qe_G1 (fg_Pl_tune (d + 0)) (qe_G1 (fg_Pl_boardWorth (d + 32)) qe_G0))))
/-! TurnField.moves(I)I -/
noncomputable def T_T_moves (f_Pl_tune : qm_M → Option qm_R) (f_Pl_find : Int32 → Int32 → qm_M → Option qm_R) : qe_T := [(49, 0, 3, 0, qw_cc 48 1 f_Pl_tune), (58, 0, 3, 1, qw_ccii 48 1 f_Pl_find)]
def X_T_moves_40 (f_Pl_tune : qm_M → Option qm_R) (f_Pl_find : Int32 → Int32 → qm_M → Option qm_R) (s0 : Int32) (m : qm_M) : Option qm_R :=
  qe_rI (f_Pl_find s0 (1073741824 : Int32) m) fun x1 m1 =>
  some (some (.int (m1.1 48 6)), m1)
set_option maxRecDepth 100000 in
theorem xg_T_moves_40 {kp : pm_K} {d : Nat} {f_Pl_tune : qm_M → Option qm_R} {f_Pl_find : Int32 → Int32 → qm_M → Option qm_R} (hT : qe_G kp d (T_T_moves f_Pl_tune f_Pl_find)) (s0 : Int32) (m : qm_M) : qe_J kp md_T_moves d (X_T_moves_40 f_Pl_tune f_Pl_find s0 m) 40 [(0, .ref 0)] [.int s0, .ref 1, .ref 48] m := qe_run (B := []) (n := 1000) hT qe_B0 rfl
def L_T_moves_40 (s0 : Int32) (m : qm_M) : Option qm_R := X_T_moves_40 F_Pl_tune F_Pl_find s0 m
theorem lg_T_moves_40 {kp : pm_K} {d : Nat} (hT : qe_G kp d (T_T_moves F_Pl_tune F_Pl_find)) (s0 : Int32) (m : qm_M) : qe_J kp md_T_moves d (L_T_moves_40 s0 m) 40 [(0, .ref 0)] [.int s0, .ref 1, .ref 48] m := xg_T_moves_40 hT s0 m
def X_T_moves_e (f_Pl_tune : qm_M → Option qm_R) (f_Pl_find : Int32 → Int32 → qm_M → Option qm_R) (l40 : Int32 → qm_M → Option qm_R) (v1 : Int32) (m : qm_M) : Option qm_R :=
  if v1 < 0 then
    some (some (.int (-1 : Int32)), m)
  else
    if (1 : Int32) < v1 then
      some (some (.int (-1 : Int32)), m)
    else
      qe_rV (f_Pl_tune m) fun m1 =>
      if v1 = (1 : Int32) then
        l40 (1 : Int32) m1
      else
        l40 (0 : Int32) m1
set_option maxRecDepth 100000 in
theorem xg_T_moves_e {kp : pm_K} {d : Nat} {f_Pl_tune : qm_M → Option qm_R} {f_Pl_find : Int32 → Int32 → qm_M → Option qm_R} {l40 : Int32 → qm_M → Option qm_R} (hT : qe_G kp d (T_T_moves f_Pl_tune f_Pl_find)) (h40 : ∀ (s0 : Int32) (m : qm_M), qe_J kp md_T_moves d (l40 s0 m) 40 [(0, .ref 0)] [.int s0, .ref 1, .ref 48] m) (v1 : Int32) (m : qm_M) : qe_J kp md_T_moves d (X_T_moves_e f_Pl_tune f_Pl_find l40 v1 m) 0 [(0, .ref 0), (1, .int v1)] [] m := qe_run (B := [(40, [0], qp_c_icc 0 1 48 l40)]) (n := 1000) hT (qe_B1 (qp_c_icc_ok h40) qe_B0) rfl
def F_T_moves (v1 : Int32) (m : qm_M) : Option qm_R := X_T_moves_e F_Pl_tune F_Pl_find (L_T_moves_40) v1 m
theorem fj_T_moves {kp : pm_K} {d : Nat} (hT : qe_G kp d (T_T_moves F_Pl_tune F_Pl_find)) (v1 : Int32) (m : qm_M) : qe_J kp md_T_moves d (F_T_moves v1 m) 0 [(0, .ref 0), (1, .int v1)] [] m := xg_T_moves_e hT (lg_T_moves_40 hT) v1 m
theorem fg_T_moves {kp : pm_K} (d : Nat) : qe_GE kp (d + 35) (180, 0, 10, 1, qw_ci 0 F_T_moves) := qe_entry (by decide +kernel) (qw_ci_ok (d := d + 34) rfl rfl (fj_T_moves (qe_G1 (fg_Pl_tune (d + 0)) (qe_G1 (fg_Pl_find (d + 30)) qe_G0))))
/-! TurnField.move(III)I -/
noncomputable def T_T_move (f_Pl_tune : qm_M → Option qm_R) (f_Pl_find : Int32 → Int32 → qm_M → Option qm_R) (f_Pl_boardWorth : qm_M → Option qm_R) (f_Pl_effectOf : Int32 → Int32 → qm_M → Option qm_R) : qe_T := [(49, 0, 3, 0, qw_cc 48 1 f_Pl_tune), (58, 0, 3, 1, qw_ccii 48 1 f_Pl_find), (54, 0, 3, 1, qw_cc 48 1 f_Pl_boardWorth), (52, 0, 3, 1, qw_cii 48 f_Pl_effectOf)]
def X_T_move_54 (f_Pl_tune : qm_M → Option qm_R) (f_Pl_find : Int32 → Int32 → qm_M → Option qm_R) (f_Pl_boardWorth : qm_M → Option qm_R) (f_Pl_effectOf : Int32 → Int32 → qm_M → Option qm_R) (v2 : Int32) (v3 : Int32) (s0 : Int32) (m : qm_M) : Option qm_R :=
  qe_rI (f_Pl_find s0 v2 m) fun x1 m1 =>
  if x1 = 0 then
    some (some (.int (-2 : Int32)), m1)
  else
    if v3 = (3 : Int32) then
      qe_rI (f_Pl_boardWorth m1) fun x2 m2 =>
      qe_rI (f_Pl_effectOf (m2.1 48 4) (m2.1 48 5) m2) fun x3 m3 =>
      some (some (.int (x2 ^^^ x3)), m3)
    else
      if v3 = (1 : Int32) then
        some (some (.int (m1.1 48 4)), m1)
      else
        some (some (.int (m1.1 48 5)), m1)
set_option maxRecDepth 100000 in
theorem xg_T_move_54 {kp : pm_K} {d : Nat} {f_Pl_tune : qm_M → Option qm_R} {f_Pl_find : Int32 → Int32 → qm_M → Option qm_R} {f_Pl_boardWorth : qm_M → Option qm_R} {f_Pl_effectOf : Int32 → Int32 → qm_M → Option qm_R} (hT : qe_G kp d (T_T_move f_Pl_tune f_Pl_find f_Pl_boardWorth f_Pl_effectOf)) (v2 : Int32) (v3 : Int32) (s0 : Int32) (m : qm_M) : qe_J kp md_T_move d (X_T_move_54 f_Pl_tune f_Pl_find f_Pl_boardWorth f_Pl_effectOf v2 v3 s0 m) 54 [(0, .ref 0), (2, .int v2), (3, .int v3)] [.int s0, .ref 1, .ref 48] m := qe_run (B := []) (n := 1000) hT qe_B0 rfl
def L_T_move_54 (v2 : Int32) (v3 : Int32) (s0 : Int32) (m : qm_M) : Option qm_R := X_T_move_54 F_Pl_tune F_Pl_find F_Pl_boardWorth F_Pl_effectOf v2 v3 s0 m
theorem lg_T_move_54 {kp : pm_K} {d : Nat} (hT : qe_G kp d (T_T_move F_Pl_tune F_Pl_find F_Pl_boardWorth F_Pl_effectOf)) (v2 : Int32) (v3 : Int32) (s0 : Int32) (m : qm_M) : qe_J kp md_T_move d (L_T_move_54 v2 v3 s0 m) 54 [(0, .ref 0), (2, .int v2), (3, .int v3)] [.int s0, .ref 1, .ref 48] m := xg_T_move_54 hT v2 v3 s0 m
def X_T_move_e (f_Pl_tune : qm_M → Option qm_R) (f_Pl_find : Int32 → Int32 → qm_M → Option qm_R) (f_Pl_boardWorth : qm_M → Option qm_R) (f_Pl_effectOf : Int32 → Int32 → qm_M → Option qm_R) (l54 : Int32 → Int32 → Int32 → qm_M → Option qm_R) (v1 : Int32) (v2 : Int32) (v3 : Int32) (m : qm_M) : Option qm_R :=
  if v1 < 0 then
    some (some (.int (-1 : Int32)), m)
  else
    if (1 : Int32) < v1 then
      some (some (.int (-1 : Int32)), m)
    else
      if v2 < 0 then
        some (some (.int (-1 : Int32)), m)
      else
        if v3 < (1 : Int32) then
          some (some (.int (-1 : Int32)), m)
        else
          if (3 : Int32) < v3 then
            some (some (.int (-1 : Int32)), m)
          else
            qe_rV (f_Pl_tune m) fun m1 =>
            if v1 = (1 : Int32) then
              l54 v2 v3 (1 : Int32) m1
            else
              l54 v2 v3 (0 : Int32) m1
set_option maxRecDepth 100000 in
theorem xg_T_move_e {kp : pm_K} {d : Nat} {f_Pl_tune : qm_M → Option qm_R} {f_Pl_find : Int32 → Int32 → qm_M → Option qm_R} {f_Pl_boardWorth : qm_M → Option qm_R} {f_Pl_effectOf : Int32 → Int32 → qm_M → Option qm_R} {l54 : Int32 → Int32 → Int32 → qm_M → Option qm_R} (hT : qe_G kp d (T_T_move f_Pl_tune f_Pl_find f_Pl_boardWorth f_Pl_effectOf)) (h54 : ∀ (v2 : Int32) (v3 : Int32) (s0 : Int32) (m : qm_M), qe_J kp md_T_move d (l54 v2 v3 s0 m) 54 [(0, .ref 0), (2, .int v2), (3, .int v3)] [.int s0, .ref 1, .ref 48] m) (v1 : Int32) (v2 : Int32) (v3 : Int32) (m : qm_M) : qe_J kp md_T_move d (X_T_move_e f_Pl_tune f_Pl_find f_Pl_boardWorth f_Pl_effectOf l54 v1 v2 v3 m) 0 [(0, .ref 0), (1, .int v1), (2, .int v2), (3, .int v3)] [] m := qe_run (B := [(54, [0, 2, 3], qp_cii_icc 0 1 48 l54)]) (n := 1000) hT (qe_B1 (qp_cii_icc_ok h54) qe_B0) rfl
def F_T_move (v1 : Int32) (v2 : Int32) (v3 : Int32) (m : qm_M) : Option qm_R := X_T_move_e F_Pl_tune F_Pl_find F_Pl_boardWorth F_Pl_effectOf (L_T_move_54) v1 v2 v3 m
theorem fj_T_move {kp : pm_K} {d : Nat} (hT : qe_G kp d (T_T_move F_Pl_tune F_Pl_find F_Pl_boardWorth F_Pl_effectOf)) (v1 : Int32) (v2 : Int32) (v3 : Int32) (m : qm_M) : qe_J kp md_T_move d (F_T_move v1 v2 v3 m) 0 [(0, .ref 0), (1, .int v1), (2, .int v2), (3, .int v3)] [] m := xg_T_move_e hT (lg_T_move_54 hT) v1 v2 v3 m
theorem fg_T_move {kp : pm_K} (d : Nat) : qe_GE kp (d + 35) (181, 0, 10, 1, qw_ciii 0 F_T_move) := qe_entry (by decide +kernel) (qw_ciii_ok (d := d + 34) rfl rfl (fj_T_move (qe_G1 (fg_Pl_tune (d + 0)) (qe_G1 (fg_Pl_find (d + 30)) (qe_G1 (fg_Pl_boardWorth (d + 32)) (qe_G1 (fg_Pl_effectOf (d + 33)) qe_G0))))))
/-! TurnField.sets(II)I -/
noncomputable def T_T_sets (f_Pl_tune : qm_M → Option qm_R) (f_Pl_ruleOf : Int32 → qm_M → Option qm_R) (f_Ru_setsOf : Nat → Int32 → qm_M → Option qm_R) : qe_T := [(49, 0, 3, 0, qw_cc 48 1 f_Pl_tune), (53, 0, 3, 3, qw_ci 48 f_Pl_ruleOf), (102, 0, 6, 1, qw_ri f_Ru_setsOf)]
def X_T_sets_e (f_Pl_tune : qm_M → Option qm_R) (f_Pl_ruleOf : Int32 → qm_M → Option qm_R) (f_Ru_setsOf : Nat → Int32 → qm_M → Option qm_R) (v1 : Int32) (v2 : Int32) (m : qm_M) : Option qm_R :=
  if v1 < 0 then
    some (some (.int (-1 : Int32)), m)
  else
    if (1 : Int32) < v1 then
      some (some (.int (-1 : Int32)), m)
    else
      qe_rV (f_Pl_tune m) fun m1 =>
      qe_rR (f_Pl_ruleOf v1 m1) fun x1 m2 =>
      qe_b (qm_isO x1 6) (
      qe_rI (f_Ru_setsOf x1 v2 m2) fun x2 m3 =>
      some (some (.int x2), m3))
set_option maxRecDepth 100000 in
theorem xg_T_sets_e {kp : pm_K} {d : Nat} {f_Pl_tune : qm_M → Option qm_R} {f_Pl_ruleOf : Int32 → qm_M → Option qm_R} {f_Ru_setsOf : Nat → Int32 → qm_M → Option qm_R} (hT : qe_G kp d (T_T_sets f_Pl_tune f_Pl_ruleOf f_Ru_setsOf)) (v1 : Int32) (v2 : Int32) (m : qm_M) : qe_J kp md_T_sets d (X_T_sets_e f_Pl_tune f_Pl_ruleOf f_Ru_setsOf v1 v2 m) 0 [(0, .ref 0), (1, .int v1), (2, .int v2)] [] m := qe_run (B := []) (n := 1000) hT qe_B0 rfl
def F_T_sets (v1 : Int32) (v2 : Int32) (m : qm_M) : Option qm_R := X_T_sets_e F_Pl_tune F_Pl_ruleOf F_Ru_setsOf v1 v2 m
theorem fj_T_sets {kp : pm_K} {d : Nat} (hT : qe_G kp d (T_T_sets F_Pl_tune F_Pl_ruleOf F_Ru_setsOf)) (v1 : Int32) (v2 : Int32) (m : qm_M) : qe_J kp md_T_sets d (F_T_sets v1 v2 m) 0 [(0, .ref 0), (1, .int v1), (2, .int v2)] [] m := xg_T_sets_e hT v1 v2 m
theorem fg_T_sets {kp : pm_K} (d : Nat) : qe_GE kp (d + 35) (182, 0, 10, 1, qw_cii 0 F_T_sets) := qe_entry (by decide +kernel) (qw_cii_ok (d := d + 34) rfl rfl (fj_T_sets (qe_G1 (fg_Pl_tune (d + 0)) (qe_G1 (fg_Pl_ruleOf (d + 33)) (qe_G1 (fg_Ru_setsOf (d + 33)) qe_G0)))))
/-! TurnField.count(I)I -/
noncomputable def T_T_count (f_Ps_headsShown : Nat → qm_M → Option qm_R) (f_Ps_rowsWithHeads : Nat → qm_M → Option qm_R) (f_Ps_columnsWithHeads : Nat → qm_M → Option qm_R) : qe_T := [(86, 0, 5, 1, qw_r f_Ps_headsShown), (88, 0, 5, 1, qw_r f_Ps_rowsWithHeads), (89, 0, 5, 1, qw_r f_Ps_columnsWithHeads)]
def X_T_count_153 (f_Ps_headsShown : Nat → qm_M → Option qm_R) (f_Ps_rowsWithHeads : Nat → qm_M → Option qm_R) (f_Ps_columnsWithHeads : Nat → qm_M → Option qm_R) (s0 : Int32) (m : qm_M) : Option qm_R :=
  if (m.1 40 11) = 0 then
    some (some (.int (s0 ||| (0 : Int32))), m)
  else
    some (some (.int (s0 ||| (2 : Int32))), m)
set_option maxRecDepth 100000 in
theorem xg_T_count_153 {kp : pm_K} {d : Nat} {f_Ps_headsShown : Nat → qm_M → Option qm_R} {f_Ps_rowsWithHeads : Nat → qm_M → Option qm_R} {f_Ps_columnsWithHeads : Nat → qm_M → Option qm_R} (hT : qe_G kp d (T_T_count f_Ps_headsShown f_Ps_rowsWithHeads f_Ps_columnsWithHeads)) (s0 : Int32) (m : qm_M) : qe_J kp md_T_count d (X_T_count_153 f_Ps_headsShown f_Ps_rowsWithHeads f_Ps_columnsWithHeads s0 m) 153 [(0, .ref 0)] [.int s0] m := qe_run (B := []) (n := 1000) hT qe_B0 rfl
def L_T_count_153 (s0 : Int32) (m : qm_M) : Option qm_R := X_T_count_153 F_Ps_headsShown F_Ps_rowsWithHeads F_Ps_columnsWithHeads s0 m
theorem lg_T_count_153 {kp : pm_K} {d : Nat} (hT : qe_G kp d (T_T_count F_Ps_headsShown F_Ps_rowsWithHeads F_Ps_columnsWithHeads)) (s0 : Int32) (m : qm_M) : qe_J kp md_T_count d (L_T_count_153 s0 m) 153 [(0, .ref 0)] [.int s0] m := xg_T_count_153 hT s0 m
def X_T_count_e (f_Ps_headsShown : Nat → qm_M → Option qm_R) (f_Ps_rowsWithHeads : Nat → qm_M → Option qm_R) (f_Ps_columnsWithHeads : Nat → qm_M → Option qm_R) (l153 : Int32 → qm_M → Option qm_R) (v1 : Int32) (m : qm_M) : Option qm_R :=
  if Int32.toInt v1 = 0 then
    some (some (.int (m.1 1 0)), m)
  else
   if Int32.toInt v1 = 1 then
     some (some (.int (m.1 1 1)), m)
   else
    if Int32.toInt v1 = 2 then
      some (some (.int (m.1 1 2)), m)
    else
     if Int32.toInt v1 = 3 then
       some (some (.int (m.1 1 3)), m)
     else
      if Int32.toInt v1 = 4 then
        some (some (.int (m.1 1 4)), m)
      else
       if Int32.toInt v1 = 5 then
         some (some (.int (m.1 1 5)), m)
       else
        if Int32.toInt v1 = 6 then
          qe_rI (f_Ps_headsShown 1 m) fun x1 m1 =>
          some (some (.int x1), m1)
        else
         if Int32.toInt v1 = 7 then
           some (some (.int (m.1 4 2)), m)
         else
          if Int32.toInt v1 = 8 then
            some (some (.int (m.1 43 2)), m)
          else
           if Int32.toInt v1 = 9 then
             if (m.1 37 11) = 0 then
               l153 (0 : Int32) m
             else
               l153 (1 : Int32) m
           else
            if Int32.toInt v1 = 10 then
              qe_rI (f_Ps_rowsWithHeads 1 m) fun x2 m2 =>
              some (some (.int x2), m2)
            else
             if Int32.toInt v1 = 11 then
               qe_rI (f_Ps_columnsWithHeads 1 m) fun x3 m3 =>
               some (some (.int x3), m3)
             else
               some (some (.int (-1 : Int32)), m)
set_option maxRecDepth 100000 in
theorem xg_T_count_e {kp : pm_K} {d : Nat} {f_Ps_headsShown : Nat → qm_M → Option qm_R} {f_Ps_rowsWithHeads : Nat → qm_M → Option qm_R} {f_Ps_columnsWithHeads : Nat → qm_M → Option qm_R} {l153 : Int32 → qm_M → Option qm_R} (hT : qe_G kp d (T_T_count f_Ps_headsShown f_Ps_rowsWithHeads f_Ps_columnsWithHeads)) (h153 : ∀ (s0 : Int32) (m : qm_M), qe_J kp md_T_count d (l153 s0 m) 153 [(0, .ref 0)] [.int s0] m) (v1 : Int32) (m : qm_M) : qe_J kp md_T_count d (X_T_count_e f_Ps_headsShown f_Ps_rowsWithHeads f_Ps_columnsWithHeads l153 v1 m) 0 [(0, .ref 0), (1, .int v1)] [] m := qe_run (B := [(153, [0], qp_c_i 0 l153)]) (n := 1000) hT (qe_B1 (qp_c_i_ok h153) qe_B0) rfl
def F_T_count (v1 : Int32) (m : qm_M) : Option qm_R := X_T_count_e F_Ps_headsShown F_Ps_rowsWithHeads F_Ps_columnsWithHeads (L_T_count_153) v1 m
theorem fj_T_count {kp : pm_K} {d : Nat} (hT : qe_G kp d (T_T_count F_Ps_headsShown F_Ps_rowsWithHeads F_Ps_columnsWithHeads)) (v1 : Int32) (m : qm_M) : qe_J kp md_T_count d (F_T_count v1 m) 0 [(0, .ref 0), (1, .int v1)] [] m := xg_T_count_e hT (lg_T_count_153 hT) v1 m
theorem fg_T_count {kp : pm_K} (d : Nat) : qe_GE kp (d + 3) (183, 0, 10, 1, qw_ci 0 F_T_count) := qe_entry (by decide +kernel) (qw_ci_ok (d := d + 2) rfl rfl (fj_T_count (qe_G1 (fg_Ps_headsShown (d + 0)) (qe_G1 (fg_Ps_rowsWithHeads (d + 0)) (qe_G1 (fg_Ps_columnsWithHeads (d + 0)) qe_G0)))))
