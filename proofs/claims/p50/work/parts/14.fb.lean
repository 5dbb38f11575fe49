/-! TurnFieldLaw$Board.shown()I -/
noncomputable def T_B_shown : qe_T := []
def X_B_shown_37 (l13 : Int32 → Int32 → Int32 → qm_M → Option qm_R) (l37 : Int32 → Int32 → Int32 → Nat → Int32 → Int32 → qm_M → Option qm_R) (v1 : Int32) (v3 : Int32) (v4 : Int32) (v6 : Nat) (v7 : Int32) (v8 : Int32) (m : qm_M) : Option qm_R :=
  if v8 < v7 then
    qe_b (qm_isA v6 2 || qm_isL v6 3) (
    qe_b (qm_in v8 (qm_n v6)) (
    if (qm_gI m v6 (Int32.toNatClampNeg v8)) = 0 then
      l37 (v1 + (0 : Int32)) v3 v4 v6 v7 (v8 + (1 : Int32)) m
    else
      l37 (v1 + (1 : Int32)) v3 v4 v6 v7 (v8 + (1 : Int32)) m))
  else
    l13 v1 v3 (v4 + (1 : Int32)) m
set_option maxRecDepth 100000 in
theorem xg_B_shown_37 {kp : pm_K} {d : Nat} {l13 : Int32 → Int32 → Int32 → qm_M → Option qm_R} {l37 : Int32 → Int32 → Int32 → Nat → Int32 → Int32 → qm_M → Option qm_R} (hT : qe_G kp d (T_B_shown)) (h13 : ∀ (v1 : Int32) (v3 : Int32) (v4 : Int32) (m : qm_M), qe_J kp md_B_shown d (l13 v1 v3 v4 m) 13 [(1, .int v1), (2, .ref 116), (3, .int v3), (4, .int v4)] [] m) (h37 : ∀ (v1 : Int32) (v3 : Int32) (v4 : Int32) (v6 : Nat) (v7 : Int32) (v8 : Int32) (m : qm_M), qe_J kp md_B_shown d (l37 v1 v3 v4 v6 v7 v8 m) 37 [(1, .int v1), (2, .ref 116), (3, .int v3), (4, .int v4), (6, .ref v6), (7, .int v7), (8, .int v8)] [] m) (v1 : Int32) (v3 : Int32) (v4 : Int32) (v6 : Nat) (v7 : Int32) (v8 : Int32) (m : qm_M) : qe_J kp md_B_shown d (X_B_shown_37 l13 l37 v1 v3 v4 v6 v7 v8 m) 37 [(1, .int v1), (2, .ref 116), (3, .int v3), (4, .int v4), (6, .ref v6), (7, .int v7), (8, .int v8)] [] m := qe_run (B := [(13, [1, 2, 3, 4], qp_icii_ 116 l13), (37, [1, 2, 3, 4, 6, 7, 8], qp_iciirii_ 116 l37)]) (n := 1000) hT (qe_B1 (qp_icii__ok h13) (qe_B1 (qp_iciirii__ok h37) qe_B0)) rfl
def L_B_shown_37 (K13 : Int32 → Int32 → Int32 → qm_M → Option qm_R) : Nat → Int32 → Int32 → Int32 → Nat → Int32 → Int32 → qm_M → Option qm_R
  | 0, _, _, _, _, _, _, _ => none
  | n + 1, v1, v3, v4, v6, v7, v8, m => X_B_shown_37 K13 (L_B_shown_37 K13 n) v1 v3 v4 v6 v7 v8 m
theorem lg_B_shown_37 {kp : pm_K} {d : Nat} (hT : qe_G kp d (T_B_shown)) {K13 : Int32 → Int32 → Int32 → qm_M → Option qm_R} (hK13 : ∀ (v1 : Int32) (v3 : Int32) (v4 : Int32) (m : qm_M), qe_J kp md_B_shown d (K13 v1 v3 v4 m) 13 [(1, .int v1), (2, .ref 116), (3, .int v3), (4, .int v4)] [] m) : ∀ (n : Nat) (v1 : Int32) (v3 : Int32) (v4 : Int32) (v6 : Nat) (v7 : Int32) (v8 : Int32) (m : qm_M), qe_J kp md_B_shown d (L_B_shown_37 K13 n v1 v3 v4 v6 v7 v8 m) 37 [(1, .int v1), (2, .ref 116), (3, .int v3), (4, .int v4), (6, .ref v6), (7, .int v7), (8, .int v8)] [] m
  | 0, v1, v3, v4, v6, v7, v8, m => qe_none rfl
  | n + 1, v1, v3, v4, v6, v7, v8, m => xg_B_shown_37 hT hK13 (lg_B_shown_37 hT hK13 n) v1 v3 v4 v6 v7 v8 m
def X_B_shown_13 (l37 : Int32 → Int32 → Int32 → Nat → Int32 → Int32 → qm_M → Option qm_R) (v1 : Int32) (v3 : Int32) (v4 : Int32) (m : qm_M) : Option qm_R :=
  if v4 < v3 then
    qe_b (qm_in v4 6) (
    qe_b (Nat.ble (qm_gk (qm_rf 116 (Int32.toNatClampNeg v4))).1 6) (
    let x1 : Int32 := (Int32.ofNat (qm_n (qm_rf 116 (Int32.toNatClampNeg v4))))
    l37 v1 v3 v4 (qm_rf 116 (Int32.toNatClampNeg v4)) x1 (0 : Int32) m))
  else
    some (some (.int v1), m)
set_option maxRecDepth 100000 in
theorem xg_B_shown_13 {kp : pm_K} {d : Nat} {l37 : Int32 → Int32 → Int32 → Nat → Int32 → Int32 → qm_M → Option qm_R} (hT : qe_G kp d (T_B_shown)) (h37 : ∀ (v1 : Int32) (v3 : Int32) (v4 : Int32) (v6 : Nat) (v7 : Int32) (v8 : Int32) (m : qm_M), qe_J kp md_B_shown d (l37 v1 v3 v4 v6 v7 v8 m) 37 [(1, .int v1), (2, .ref 116), (3, .int v3), (4, .int v4), (6, .ref v6), (7, .int v7), (8, .int v8)] [] m) (v1 : Int32) (v3 : Int32) (v4 : Int32) (m : qm_M) : qe_J kp md_B_shown d (X_B_shown_13 l37 v1 v3 v4 m) 13 [(1, .int v1), (2, .ref 116), (3, .int v3), (4, .int v4)] [] m := qe_run (B := [(37, [1, 2, 3, 4, 6, 7, 8], qp_iciirii_ 116 l37)]) (n := 1000) hT (qe_B1 (qp_iciirii__ok h37) qe_B0) rfl
def L_B_shown_13 : Nat → Int32 → Int32 → Int32 → qm_M → Option qm_R
  | 0, _, _, _, _ => none
  | n + 1, v1, v3, v4, m => X_B_shown_13 (L_B_shown_37 (L_B_shown_13 n) 1000000) v1 v3 v4 m
theorem lg_B_shown_13 {kp : pm_K} {d : Nat} (hT : qe_G kp d (T_B_shown)) : ∀ (n : Nat) (v1 : Int32) (v3 : Int32) (v4 : Int32) (m : qm_M), qe_J kp md_B_shown d (L_B_shown_13 n v1 v3 v4 m) 13 [(1, .int v1), (2, .ref 116), (3, .int v3), (4, .int v4)] [] m
  | 0, v1, v3, v4, m => qe_none rfl
  | n + 1, v1, v3, v4, m => xg_B_shown_13 hT (lg_B_shown_37 hT (lg_B_shown_13 hT n) 1000000) v1 v3 v4 m
def X_B_shown_e (l13 : Int32 → Int32 → Int32 → qm_M → Option qm_R)  (m : qm_M) : Option qm_R :=
  l13 (0 : Int32) (6 : Int32) (0 : Int32) m
set_option maxRecDepth 100000 in
theorem xg_B_shown_e {kp : pm_K} {d : Nat} {l13 : Int32 → Int32 → Int32 → qm_M → Option qm_R} (hT : qe_G kp d (T_B_shown)) (h13 : ∀ (v1 : Int32) (v3 : Int32) (v4 : Int32) (m : qm_M), qe_J kp md_B_shown d (l13 v1 v3 v4 m) 13 [(1, .int v1), (2, .ref 116), (3, .int v3), (4, .int v4)] [] m) (m : qm_M) : qe_J kp md_B_shown d (X_B_shown_e l13 m) 0 [(0, .ref 112)] [] m := qe_run (B := [(13, [1, 2, 3, 4], qp_icii_ 116 l13)]) (n := 1000) hT (qe_B1 (qp_icii__ok h13) qe_B0) rfl
def F_B_shown (m : qm_M) : Option qm_R := X_B_shown_e (L_B_shown_13 1000000) m
theorem fj_B_shown {kp : pm_K} {d : Nat} (hT : qe_G kp d (T_B_shown)) (m : qm_M) : qe_J kp md_B_shown d (F_B_shown m) 0 [(0, .ref 112)] [] m := xg_B_shown_e hT (lg_B_shown_13 hT 1000000) m
theorem fg_B_shown {kp : pm_K} (d : Nat) : qe_GE kp (d + 1) (87, 0, 11, 1, qw_c 112 F_B_shown) := qe_entry (by decide +kernel) (qw_c_ok (d := d + 0) rfl rfl (fj_B_shown qe_G0))
/-! TurnFieldLaw$Board.top(I)I -/
noncomputable def T_B_top (f_JI_numberOfLeadingZeros : Int32 → qm_M → Option qm_R) : qe_T := [(104, 1, 0, 1, qw_i f_JI_numberOfLeadingZeros)]
def X_B_top_e (f_JI_numberOfLeadingZeros : Int32 → qm_M → Option qm_R) (v0 : Int32) (m : qm_M) : Option qm_R :=
  qe_rI (f_JI_numberOfLeadingZeros v0 m) fun x1 m1 =>
  some (some (.int ((31 : Int32) - x1)), m1)
set_option maxRecDepth 100000 in
theorem xg_B_top_e {kp : pm_K} {d : Nat} {f_JI_numberOfLeadingZeros : Int32 → qm_M → Option qm_R} (hT : qe_G kp d (T_B_top f_JI_numberOfLeadingZeros)) (v0 : Int32) (m : qm_M) : qe_J kp md_B_top d (X_B_top_e f_JI_numberOfLeadingZeros v0 m) 0 [(0, .int v0)] [] m := qe_run (B := []) (n := 1000) hT qe_B0 rfl
def F_B_top (v0 : Int32) (m : qm_M) : Option qm_R := X_B_top_e F_JI_numberOfLeadingZeros v0 m
theorem fj_B_top {kp : pm_K} {d : Nat} (hT : qe_G kp d (T_B_top F_JI_numberOfLeadingZeros)) (v0 : Int32) (m : qm_M) : qe_J kp md_B_top d (F_B_top v0 m) 0 [(0, .int v0)] [] m := xg_B_top_e hT v0 m
theorem fg_B_top {kp : pm_K} (d : Nat) : qe_GE kp (d + 2) (88, 1, 0, 1, qw_i F_B_top) := qe_entry (by decide +kernel) (qw_i_ok (d := d + 1) rfl rfl (fj_B_top (qe_G1 (fg_JI_numberOfLeadingZeros (d + 0)) qe_G0)))
/-! TurnFieldLaw$Board.may(II)Z -/
noncomputable def T_B_may (f_JI_bitCount : Int32 → qm_M → Option qm_R) (f_B_top : Int32 → qm_M → Option qm_R) (f_JI_numberOfTrailingZeros : Int32 → qm_M → Option qm_R) : qe_T := [(106, 1, 0, 1, qw_i f_JI_bitCount), (88, 1, 0, 1, qw_i f_B_top), (105, 1, 0, 1, qw_i f_JI_numberOfTrailingZeros)]
def X_B_may_e (f_JI_bitCount : Int32 → qm_M → Option qm_R) (f_B_top : Int32 → qm_M → Option qm_R) (f_JI_numberOfTrailingZeros : Int32 → qm_M → Option qm_R) (v1 : Int32) (v2 : Int32) (m : qm_M) : Option qm_R :=
  qe_rI (f_JI_bitCount v2 m) fun x1 m1 =>
  qe_rI (f_B_top v2 m1) fun x2 m2 =>
  qe_rI (f_JI_numberOfTrailingZeros v2 m2) fun x3 m3 =>
  qe_b (qm_in v1 2) (
  if Int32.toInt (m3.1 114 (Int32.toNatClampNeg v1)) = 0 then
    qe_b (qm_in v1 2) (
    if (m3.1 115 (Int32.toNatClampNeg v1)) < x1 then
      some (some (.int (0 : Int32)), m3)
    else
      some (some (.int (1 : Int32)), m3))
  else
   if Int32.toInt (m3.1 114 (Int32.toNatClampNeg v1)) = 1 then
     qe_b (qm_in v1 2) (
     if x1 = (m3.1 115 (Int32.toNatClampNeg v1)) then
       some (some (.int (1 : Int32)), m3)
     else
       some (some (.int (0 : Int32)), m3))
   else
    if Int32.toInt (m3.1 114 (Int32.toNatClampNeg v1)) = 2 then
      qe_b (qm_in v1 2) (
      if (m3.1 115 (Int32.toNatClampNeg v1)) < x1 then
        some (some (.int (0 : Int32)), m3)
      else
        if (x2 - x3) = (x1 - (1 : Int32)) then
          some (some (.int (1 : Int32)), m3)
        else
          some (some (.int (0 : Int32)), m3))
    else
      if x1 = (1 : Int32) then
        some (some (.int (1 : Int32)), m3)
      else
        if x1 = (2 : Int32) then
          qe_b (qm_in v1 2) (
          if (m3.1 115 (Int32.toNatClampNeg v1)) < (x2 - x3) then
            some (some (.int (0 : Int32)), m3)
          else
            some (some (.int (1 : Int32)), m3))
        else
          some (some (.int (0 : Int32)), m3))
set_option maxRecDepth 100000 in
theorem xg_B_may_e {kp : pm_K} {d : Nat} {f_JI_bitCount : Int32 → qm_M → Option qm_R} {f_B_top : Int32 → qm_M → Option qm_R} {f_JI_numberOfTrailingZeros : Int32 → qm_M → Option qm_R} (hT : qe_G kp d (T_B_may f_JI_bitCount f_B_top f_JI_numberOfTrailingZeros)) (v1 : Int32) (v2 : Int32) (m : qm_M) : qe_J kp md_B_may d (X_B_may_e f_JI_bitCount f_B_top f_JI_numberOfTrailingZeros v1 v2 m) 0 [(0, .ref 112), (1, .int v1), (2, .int v2)] [] m := qe_run (B := []) (n := 1000) hT qe_B0 rfl
def F_B_may (v1 : Int32) (v2 : Int32) (m : qm_M) : Option qm_R := X_B_may_e F_JI_bitCount F_B_top F_JI_numberOfTrailingZeros v1 v2 m
theorem fj_B_may {kp : pm_K} {d : Nat} (hT : qe_G kp d (T_B_may F_JI_bitCount F_B_top F_JI_numberOfTrailingZeros)) (v1 : Int32) (v2 : Int32) (m : qm_M) : qe_J kp md_B_may d (F_B_may v1 v2 m) 0 [(0, .ref 112), (1, .int v1), (2, .int v2)] [] m := xg_B_may_e hT v1 v2 m
theorem fg_B_may {kp : pm_K} (d : Nat) : qe_GE kp (d + 3) (89, 0, 11, 1, qw_cii 112 F_B_may) := qe_entry (by decide +kernel) (qw_cii_ok (d := d + 2) rfl rfl (fj_B_may (qe_G1 (fg_JI_bitCount (d + 1)) (qe_G1 (fg_B_top (d + 0)) (qe_G1 (fg_JI_numberOfTrailingZeros (d + 1)) qe_G0)))))
/-! TurnFieldLaw$Board.can(II)Z -/
noncomputable def T_B_can (f_B_may : Int32 → Int32 → qm_M → Option qm_R) (f_B_top : Int32 → qm_M → Option qm_R) : qe_T := [(89, 0, 11, 1, qw_cii 112 f_B_may), (88, 1, 0, 1, qw_i f_B_top)]
def X_B_can_e (f_B_may : Int32 → Int32 → qm_M → Option qm_R) (f_B_top : Int32 → qm_M → Option qm_R) (v1 : Int32) (v2 : Int32) (m : qm_M) : Option qm_R :=
  qe_rI (f_B_may (0 : Int32) v1 m) fun x1 m1 =>
  if x1 = 0 then
    some (some (.int (0 : Int32)), m1)
  else
    qe_rI (f_B_may (1 : Int32) v2 m1) fun x2 m2 =>
    if x2 = 0 then
      some (some (.int (0 : Int32)), m2)
    else
      qe_rI (f_B_top v1 m2) fun x3 m3 =>
      qe_b (qm_in x3 6) (
      qe_rI (f_B_top v2 m3) fun x4 m4 =>
      qe_b (qm_isA (qm_rf 116 (Int32.toNatClampNeg x3)) 2 || qm_isL (qm_rf 116 (Int32.toNatClampNeg x3)) 3) (
      qe_b (qm_in x4 (qm_n (qm_rf 116 (Int32.toNatClampNeg x3)))) (
      if (qm_gI m4 (qm_rf 116 (Int32.toNatClampNeg x3)) (Int32.toNatClampNeg x4)) = 0 then
        some (some (.int (0 : Int32)), m4)
      else
        some (some (.int (1 : Int32)), m4))))
set_option maxRecDepth 100000 in
theorem xg_B_can_e {kp : pm_K} {d : Nat} {f_B_may : Int32 → Int32 → qm_M → Option qm_R} {f_B_top : Int32 → qm_M → Option qm_R} (hT : qe_G kp d (T_B_can f_B_may f_B_top)) (v1 : Int32) (v2 : Int32) (m : qm_M) : qe_J kp md_B_can d (X_B_can_e f_B_may f_B_top v1 v2 m) 0 [(0, .ref 112), (1, .int v1), (2, .int v2)] [] m := qe_run (B := []) (n := 1000) hT qe_B0 rfl
def F_B_can (v1 : Int32) (v2 : Int32) (m : qm_M) : Option qm_R := X_B_can_e F_B_may F_B_top v1 v2 m
theorem fj_B_can {kp : pm_K} {d : Nat} (hT : qe_G kp d (T_B_can F_B_may F_B_top)) (v1 : Int32) (v2 : Int32) (m : qm_M) : qe_J kp md_B_can d (F_B_can v1 v2 m) 0 [(0, .ref 112), (1, .int v1), (2, .int v2)] [] m := xg_B_can_e hT v1 v2 m
theorem fg_B_can {kp : pm_K} (d : Nat) : qe_GE kp (d + 4) (90, 0, 11, 1, qw_cii 112 F_B_can) := qe_entry (by decide +kernel) (qw_cii_ok (d := d + 3) rfl rfl (fj_B_can (qe_G1 (fg_B_may (d + 0)) (qe_G1 (fg_B_top (d + 1)) qe_G0))))
/-! TurnFieldLaw$Board.turns(II)V -/
noncomputable def T_B_turns : qe_T := []
def X_B_turns_11 (l2 : Int32 → Int32 → Int32 → qm_M → Option qm_R) (l11 : Int32 → Int32 → Int32 → Int32 → qm_M → Option qm_R) (v1 : Int32) (v2 : Int32) (v3 : Int32) (v4 : Int32) (m : qm_M) : Option qm_R :=
  if v4 < (6 : Int32) then
    qe_b (qm_in v3 6) (
    qe_b (qm_isA (qm_rf 116 (Int32.toNatClampNeg v3)) 2 || qm_isL (qm_rf 116 (Int32.toNatClampNeg v3)) 3) (
    qe_b (qm_in v4 (qm_n (qm_rf 116 (Int32.toNatClampNeg v3)))) (
    if ((qo_ishr v1 v3) &&& (1 : Int32)) = (1 : Int32) then
      if ((qo_ishr v2 v4) &&& (1 : Int32)) = (1 : Int32) then
        bif qm_isL (qm_rf 116 (Int32.toNatClampNeg v3)) 2 then
        qe_b (qm_in v4 (qm_nl (qm_rf 116 (Int32.toNatClampNeg v3)))) (
        let m1 : qm_M := qm_sI m (qm_rf 116 (Int32.toNatClampNeg v3)) (Int32.toNatClampNeg v4) (Int8.toInt32 (Int32.toInt8 ((qm_gI m (qm_rf 116 (Int32.toNatClampNeg v3)) (Int32.toNatClampNeg v4)) ^^^ (1 : Int32))))
        l11 v1 v2 v3 (v4 + (1 : Int32)) m1)
        else
        qe_b (qm_isL (qm_rf 116 (Int32.toNatClampNeg v3)) 3) (
        qe_b (qm_in v4 (qm_nl (qm_rf 116 (Int32.toNatClampNeg v3)))) (
        let m1 : qm_M := qm_sI m (qm_rf 116 (Int32.toNatClampNeg v3)) (Int32.toNatClampNeg v4) (((qm_gI m (qm_rf 116 (Int32.toNatClampNeg v3)) (Int32.toNatClampNeg v4)) ^^^ (1 : Int32)) &&& 1)
        l11 v1 v2 v3 (v4 + (1 : Int32)) m1))
      else
        bif qm_isL (qm_rf 116 (Int32.toNatClampNeg v3)) 2 then
        qe_b (qm_in v4 (qm_nl (qm_rf 116 (Int32.toNatClampNeg v3)))) (
        let m2 : qm_M := qm_sI m (qm_rf 116 (Int32.toNatClampNeg v3)) (Int32.toNatClampNeg v4) (Int8.toInt32 (Int32.toInt8 ((qm_gI m (qm_rf 116 (Int32.toNatClampNeg v3)) (Int32.toNatClampNeg v4)) ^^^ (0 : Int32))))
        l11 v1 v2 v3 (v4 + (1 : Int32)) m2)
        else
        qe_b (qm_isL (qm_rf 116 (Int32.toNatClampNeg v3)) 3) (
        qe_b (qm_in v4 (qm_nl (qm_rf 116 (Int32.toNatClampNeg v3)))) (
        let m2 : qm_M := qm_sI m (qm_rf 116 (Int32.toNatClampNeg v3)) (Int32.toNatClampNeg v4) (((qm_gI m (qm_rf 116 (Int32.toNatClampNeg v3)) (Int32.toNatClampNeg v4)) ^^^ (0 : Int32)) &&& 1)
        l11 v1 v2 v3 (v4 + (1 : Int32)) m2))
    else
      bif qm_isL (qm_rf 116 (Int32.toNatClampNeg v3)) 2 then
      qe_b (qm_in v4 (qm_nl (qm_rf 116 (Int32.toNatClampNeg v3)))) (
      let m3 : qm_M := qm_sI m (qm_rf 116 (Int32.toNatClampNeg v3)) (Int32.toNatClampNeg v4) (Int8.toInt32 (Int32.toInt8 ((qm_gI m (qm_rf 116 (Int32.toNatClampNeg v3)) (Int32.toNatClampNeg v4)) ^^^ (0 : Int32))))
      l11 v1 v2 v3 (v4 + (1 : Int32)) m3)
      else
      qe_b (qm_isL (qm_rf 116 (Int32.toNatClampNeg v3)) 3) (
      qe_b (qm_in v4 (qm_nl (qm_rf 116 (Int32.toNatClampNeg v3)))) (
      let m3 : qm_M := qm_sI m (qm_rf 116 (Int32.toNatClampNeg v3)) (Int32.toNatClampNeg v4) (((qm_gI m (qm_rf 116 (Int32.toNatClampNeg v3)) (Int32.toNatClampNeg v4)) ^^^ (0 : Int32)) &&& 1)
      l11 v1 v2 v3 (v4 + (1 : Int32)) m3)))))
  else
    l2 v1 v2 (v3 + (1 : Int32)) m
set_option maxRecDepth 100000 in
theorem xg_B_turns_11 {kp : pm_K} {d : Nat} {l2 : Int32 → Int32 → Int32 → qm_M → Option qm_R} {l11 : Int32 → Int32 → Int32 → Int32 → qm_M → Option qm_R} (hT : qe_G kp d (T_B_turns)) (h2 : ∀ (v1 : Int32) (v2 : Int32) (v3 : Int32) (m : qm_M), qe_J kp md_B_turns d (l2 v1 v2 v3 m) 2 [(0, .ref 112), (1, .int v1), (2, .int v2), (3, .int v3)] [] m) (h11 : ∀ (v1 : Int32) (v2 : Int32) (v3 : Int32) (v4 : Int32) (m : qm_M), qe_J kp md_B_turns d (l11 v1 v2 v3 v4 m) 11 [(0, .ref 112), (1, .int v1), (2, .int v2), (3, .int v3), (4, .int v4)] [] m) (v1 : Int32) (v2 : Int32) (v3 : Int32) (v4 : Int32) (m : qm_M) : qe_J kp md_B_turns d (X_B_turns_11 l2 l11 v1 v2 v3 v4 m) 11 [(0, .ref 112), (1, .int v1), (2, .int v2), (3, .int v3), (4, .int v4)] [] m := qe_run (B := [(2, [0, 1, 2, 3], qp_ciii_ 112 l2), (11, [0, 1, 2, 3, 4], qp_ciiii_ 112 l11)]) (n := 1000) hT (qe_B1 (qp_ciii__ok h2) (qe_B1 (qp_ciiii__ok h11) qe_B0)) rfl
def L_B_turns_11 (K2 : Int32 → Int32 → Int32 → qm_M → Option qm_R) : Nat → Int32 → Int32 → Int32 → Int32 → qm_M → Option qm_R
  | 0, _, _, _, _, _ => none
  | n + 1, v1, v2, v3, v4, m => X_B_turns_11 K2 (L_B_turns_11 K2 n) v1 v2 v3 v4 m
theorem lg_B_turns_11 {kp : pm_K} {d : Nat} (hT : qe_G kp d (T_B_turns)) {K2 : Int32 → Int32 → Int32 → qm_M → Option qm_R} (hK2 : ∀ (v1 : Int32) (v2 : Int32) (v3 : Int32) (m : qm_M), qe_J kp md_B_turns d (K2 v1 v2 v3 m) 2 [(0, .ref 112), (1, .int v1), (2, .int v2), (3, .int v3)] [] m) : ∀ (n : Nat) (v1 : Int32) (v2 : Int32) (v3 : Int32) (v4 : Int32) (m : qm_M), qe_J kp md_B_turns d (L_B_turns_11 K2 n v1 v2 v3 v4 m) 11 [(0, .ref 112), (1, .int v1), (2, .int v2), (3, .int v3), (4, .int v4)] [] m
  | 0, v1, v2, v3, v4, m => qe_none rfl
  | n + 1, v1, v2, v3, v4, m => xg_B_turns_11 hT hK2 (lg_B_turns_11 hT hK2 n) v1 v2 v3 v4 m
def X_B_turns_2 (l11 : Int32 → Int32 → Int32 → Int32 → qm_M → Option qm_R) (v1 : Int32) (v2 : Int32) (v3 : Int32) (m : qm_M) : Option qm_R :=
  if v3 < (6 : Int32) then
    l11 v1 v2 v3 (0 : Int32) m
  else
    some (none, m)
set_option maxRecDepth 100000 in
theorem xg_B_turns_2 {kp : pm_K} {d : Nat} {l11 : Int32 → Int32 → Int32 → Int32 → qm_M → Option qm_R} (hT : qe_G kp d (T_B_turns)) (h11 : ∀ (v1 : Int32) (v2 : Int32) (v3 : Int32) (v4 : Int32) (m : qm_M), qe_J kp md_B_turns d (l11 v1 v2 v3 v4 m) 11 [(0, .ref 112), (1, .int v1), (2, .int v2), (3, .int v3), (4, .int v4)] [] m) (v1 : Int32) (v2 : Int32) (v3 : Int32) (m : qm_M) : qe_J kp md_B_turns d (X_B_turns_2 l11 v1 v2 v3 m) 2 [(0, .ref 112), (1, .int v1), (2, .int v2), (3, .int v3)] [] m := qe_run (B := [(11, [0, 1, 2, 3, 4], qp_ciiii_ 112 l11)]) (n := 1000) hT (qe_B1 (qp_ciiii__ok h11) qe_B0) rfl
def L_B_turns_2 : Nat → Int32 → Int32 → Int32 → qm_M → Option qm_R
  | 0, _, _, _, _ => none
  | n + 1, v1, v2, v3, m => X_B_turns_2 (L_B_turns_11 (L_B_turns_2 n) 1000000) v1 v2 v3 m
theorem lg_B_turns_2 {kp : pm_K} {d : Nat} (hT : qe_G kp d (T_B_turns)) : ∀ (n : Nat) (v1 : Int32) (v2 : Int32) (v3 : Int32) (m : qm_M), qe_J kp md_B_turns d (L_B_turns_2 n v1 v2 v3 m) 2 [(0, .ref 112), (1, .int v1), (2, .int v2), (3, .int v3)] [] m
  | 0, v1, v2, v3, m => qe_none rfl
  | n + 1, v1, v2, v3, m => xg_B_turns_2 hT (lg_B_turns_11 hT (lg_B_turns_2 hT n) 1000000) v1 v2 v3 m
def X_B_turns_e (l2 : Int32 → Int32 → Int32 → qm_M → Option qm_R) (v1 : Int32) (v2 : Int32) (m : qm_M) : Option qm_R :=
  l2 v1 v2 (0 : Int32) m
set_option maxRecDepth 100000 in
theorem xg_B_turns_e {kp : pm_K} {d : Nat} {l2 : Int32 → Int32 → Int32 → qm_M → Option qm_R} (hT : qe_G kp d (T_B_turns)) (h2 : ∀ (v1 : Int32) (v2 : Int32) (v3 : Int32) (m : qm_M), qe_J kp md_B_turns d (l2 v1 v2 v3 m) 2 [(0, .ref 112), (1, .int v1), (2, .int v2), (3, .int v3)] [] m) (v1 : Int32) (v2 : Int32) (m : qm_M) : qe_J kp md_B_turns d (X_B_turns_e l2 v1 v2 m) 0 [(0, .ref 112), (1, .int v1), (2, .int v2)] [] m := qe_run (B := [(2, [0, 1, 2, 3], qp_ciii_ 112 l2)]) (n := 1000) hT (qe_B1 (qp_ciii__ok h2) qe_B0) rfl
def F_B_turns (v1 : Int32) (v2 : Int32) (m : qm_M) : Option qm_R := X_B_turns_e (L_B_turns_2 1000000) v1 v2 m
theorem fj_B_turns {kp : pm_K} {d : Nat} (hT : qe_G kp d (T_B_turns)) (v1 : Int32) (v2 : Int32) (m : qm_M) : qe_J kp md_B_turns d (F_B_turns v1 v2 m) 0 [(0, .ref 112), (1, .int v1), (2, .int v2)] [] m := xg_B_turns_e hT (lg_B_turns_2 hT 1000000) v1 v2 m
theorem fg_B_turns {kp : pm_K} (d : Nat) : qe_GE kp (d + 1) (91, 0, 11, 0, qw_cii 112 F_B_turns) := qe_entry (by decide +kernel) (qw_cii_ok (d := d + 0) rfl rfl (fj_B_turns qe_G0))
