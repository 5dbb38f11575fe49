/-! TurnFieldLaw.same(LTurnField;LTurnFieldLaw$Board;)Z -/
noncomputable def T_L_same (f_T_count : Int32 → qm_M → Option qm_R) (f_B_shown : qm_M → Option qm_R) (f_T_sets : Int32 → Int32 → qm_M → Option qm_R) (f_T_cell : Int32 → Int32 → Int32 → qm_M → Option qm_R) (f_B_may : Int32 → Int32 → qm_M → Option qm_R) : qe_T := [(84, 0, 10, 1, qw_ci 0 f_T_count), (87, 0, 11, 1, qw_c 112 f_B_shown), (83, 0, 10, 1, qw_cii 0 f_T_sets), (79, 0, 10, 1, qw_ciii 0 f_T_cell), (89, 0, 11, 1, qw_cii 112 f_B_may)]
def X_L_same_328 (f_T_count : Int32 → qm_M → Option qm_R) (f_B_shown : qm_M → Option qm_R) (f_T_sets : Int32 → Int32 → qm_M → Option qm_R) (f_T_cell : Int32 → Int32 → Int32 → qm_M → Option qm_R) (f_B_may : Int32 → Int32 → qm_M → Option qm_R) (v2 : Int32) (v3 : Int32) (v4 : Int32) (m : qm_M) : Option qm_R :=
  if v2 = 0 then
    some (some (.int (0 : Int32)), m)
  else
    qe_rI (f_T_count (6 : Int32) m) fun x1 m1 =>
    qe_rI (f_B_shown m1) fun x2 m2 =>
    if x1 = x2 then
      qe_rI (f_T_count (10 : Int32) m2) fun x3 m3 =>
      if x3 = v3 then
        qe_rI (f_T_count (11 : Int32) m3) fun x4 m4 =>
        if x4 = v4 then
          qe_rI (f_T_sets (2 : Int32) (0 : Int32) m4) fun x5 m5 =>
          if x5 = (-1 : Int32) then
            qe_rI (f_T_sets (0 : Int32) (12 : Int32) m5) fun x6 m6 =>
            if x6 = (-1 : Int32) then
              some (some (.int (1 : Int32)), m6)
            else
              some (some (.int (0 : Int32)), m6)
          else
            some (some (.int (0 : Int32)), m5)
        else
          some (some (.int (0 : Int32)), m4)
      else
        some (some (.int (0 : Int32)), m3)
    else
      some (some (.int (0 : Int32)), m2)
set_option maxRecDepth 100000 in
theorem xg_L_same_328 {kp : pm_K} {d : Nat} {f_T_count : Int32 → qm_M → Option qm_R} {f_B_shown : qm_M → Option qm_R} {f_T_sets : Int32 → Int32 → qm_M → Option qm_R} {f_T_cell : Int32 → Int32 → Int32 → qm_M → Option qm_R} {f_B_may : Int32 → Int32 → qm_M → Option qm_R} (hT : qe_G kp d (T_L_same f_T_count f_B_shown f_T_sets f_T_cell f_B_may)) (v2 : Int32) (v3 : Int32) (v4 : Int32) (m : qm_M) : qe_J kp md_L_same d (X_L_same_328 f_T_count f_B_shown f_T_sets f_T_cell f_B_may v2 v3 v4 m) 328 [(0, .ref 0), (1, .ref 112), (2, .int v2), (3, .int v3), (4, .int v4)] [] m := qe_run (B := []) (n := 1000) hT qe_B0 rfl
def L_L_same_328 (v2 : Int32) (v3 : Int32) (v4 : Int32) (m : qm_M) : Option qm_R := X_L_same_328 F_T_count F_B_shown F_T_sets F_T_cell F_B_may v2 v3 v4 m
theorem lg_L_same_328 {kp : pm_K} {d : Nat} (hT : qe_G kp d (T_L_same F_T_count F_B_shown F_T_sets F_T_cell F_B_may)) (v2 : Int32) (v3 : Int32) (v4 : Int32) (m : qm_M) : qe_J kp md_L_same d (L_L_same_328 v2 v3 v4 m) 328 [(0, .ref 0), (1, .ref 112), (2, .int v2), (3, .int v3), (4, .int v4)] [] m := xg_L_same_328 hT v2 v3 v4 m
def X_L_same_288 (f_T_count : Int32 → qm_M → Option qm_R) (f_B_shown : qm_M → Option qm_R) (f_T_sets : Int32 → Int32 → qm_M → Option qm_R) (f_T_cell : Int32 → Int32 → Int32 → qm_M → Option qm_R) (f_B_may : Int32 → Int32 → qm_M → Option qm_R) (l193 : Int32 → Int32 → Int32 → Int32 → Int32 → qm_M → Option qm_R) (v2 : Int32) (v4 : Int32) (v5 : Int32) (v6 : Int32) (s0 : Int32) (s1 : Int32) (m : qm_M) : Option qm_R :=
  qe_b (qm_in v5 6) (
  qe_b (qm_isA (qm_rf 116 (Int32.toNatClampNeg v5)) 2 || qm_isL (qm_rf 116 (Int32.toNatClampNeg v5)) 3) (
  qe_b (qm_in v6 (qm_n (qm_rf 116 (Int32.toNatClampNeg v5)))) (
  if (qm_gI m (qm_rf 116 (Int32.toNatClampNeg v5)) (Int32.toNatClampNeg v6)) = 0 then
    l193 v2 (s1 ||| s0) (v4 ||| (0 : Int32)) v5 (v6 + (1 : Int32)) m
  else
    l193 v2 (s1 ||| s0) (v4 ||| (qo_ishl (1 : Int32) v6)) v5 (v6 + (1 : Int32)) m)))
set_option maxRecDepth 100000 in
theorem xg_L_same_288 {kp : pm_K} {d : Nat} {f_T_count : Int32 → qm_M → Option qm_R} {f_B_shown : qm_M → Option qm_R} {f_T_sets : Int32 → Int32 → qm_M → Option qm_R} {f_T_cell : Int32 → Int32 → Int32 → qm_M → Option qm_R} {f_B_may : Int32 → Int32 → qm_M → Option qm_R} {l193 : Int32 → Int32 → Int32 → Int32 → Int32 → qm_M → Option qm_R} (hT : qe_G kp d (T_L_same f_T_count f_B_shown f_T_sets f_T_cell f_B_may)) (h193 : ∀ (v2 : Int32) (v3 : Int32) (v4 : Int32) (v5 : Int32) (v6 : Int32) (m : qm_M), qe_J kp md_L_same d (l193 v2 v3 v4 v5 v6 m) 193 [(0, .ref 0), (1, .ref 112), (2, .int v2), (3, .int v3), (4, .int v4), (5, .int v5), (6, .int v6)] [] m) (v2 : Int32) (v4 : Int32) (v5 : Int32) (v6 : Int32) (s0 : Int32) (s1 : Int32) (m : qm_M) : qe_J kp md_L_same d (X_L_same_288 f_T_count f_B_shown f_T_sets f_T_cell f_B_may l193 v2 v4 v5 v6 s0 s1 m) 288 [(0, .ref 0), (1, .ref 112), (2, .int v2), (4, .int v4), (5, .int v5), (6, .int v6)] [.int s0, .int s1] m := qe_run (B := [(193, [0, 1, 2, 3, 4, 5, 6], qp_cciiiii_ 0 112 l193)]) (n := 1000) hT (qe_B1 (qp_cciiiii__ok h193) qe_B0) rfl
def L_L_same_288 (K179 : Int32 → Int32 → Int32 → Int32 → qm_M → Option qm_R) (K193 : Int32 → Int32 → Int32 → Int32 → Int32 → qm_M → Option qm_R) (v2 : Int32) (v4 : Int32) (v5 : Int32) (v6 : Int32) (s0 : Int32) (s1 : Int32) (m : qm_M) : Option qm_R := X_L_same_288 F_T_count F_B_shown F_T_sets F_T_cell F_B_may K193 v2 v4 v5 v6 s0 s1 m
theorem lg_L_same_288 {kp : pm_K} {d : Nat} (hT : qe_G kp d (T_L_same F_T_count F_B_shown F_T_sets F_T_cell F_B_may)) {K179 : Int32 → Int32 → Int32 → Int32 → qm_M → Option qm_R} (hK179 : ∀ (v2 : Int32) (v3 : Int32) (v4 : Int32) (v5 : Int32) (m : qm_M), qe_J kp md_L_same d (K179 v2 v3 v4 v5 m) 179 [(0, .ref 0), (1, .ref 112), (2, .int v2), (3, .int v3), (4, .int v4), (5, .int v5)] [] m) {K193 : Int32 → Int32 → Int32 → Int32 → Int32 → qm_M → Option qm_R} (hK193 : ∀ (v2 : Int32) (v3 : Int32) (v4 : Int32) (v5 : Int32) (v6 : Int32) (m : qm_M), qe_J kp md_L_same d (K193 v2 v3 v4 v5 v6 m) 193 [(0, .ref 0), (1, .ref 112), (2, .int v2), (3, .int v3), (4, .int v4), (5, .int v5), (6, .int v6)] [] m) (v2 : Int32) (v4 : Int32) (v5 : Int32) (v6 : Int32) (s0 : Int32) (s1 : Int32) (m : qm_M) : qe_J kp md_L_same d (L_L_same_288 K179 K193 v2 v4 v5 v6 s0 s1 m) 288 [(0, .ref 0), (1, .ref 112), (2, .int v2), (4, .int v4), (5, .int v5), (6, .int v6)] [.int s0, .int s1] m := xg_L_same_288 hT hK193 v2 v4 v5 v6 s0 s1 m
def X_L_same_265 (f_T_count : Int32 → qm_M → Option qm_R) (f_B_shown : qm_M → Option qm_R) (f_T_sets : Int32 → Int32 → qm_M → Option qm_R) (f_T_cell : Int32 → Int32 → Int32 → qm_M → Option qm_R) (f_B_may : Int32 → Int32 → qm_M → Option qm_R) (l288 : Int32 → Int32 → Int32 → Int32 → Int32 → Int32 → qm_M → Option qm_R) (v3 : Int32) (v4 : Int32) (v5 : Int32) (v6 : Int32) (s0 : Int32) (m : qm_M) : Option qm_R :=
  qe_b (qm_in v5 6) (
  qe_b (qm_isA (qm_rf 116 (Int32.toNatClampNeg v5)) 2 || qm_isL (qm_rf 116 (Int32.toNatClampNeg v5)) 3) (
  qe_b (qm_in v6 (qm_n (qm_rf 116 (Int32.toNatClampNeg v5)))) (
  if (qm_gI m (qm_rf 116 (Int32.toNatClampNeg v5)) (Int32.toNatClampNeg v6)) = 0 then
    l288 s0 v4 v5 v6 (0 : Int32) v3 m
  else
    l288 s0 v4 v5 v6 (qo_ishl (1 : Int32) v5) v3 m)))
set_option maxRecDepth 100000 in
theorem xg_L_same_265 {kp : pm_K} {d : Nat} {f_T_count : Int32 → qm_M → Option qm_R} {f_B_shown : qm_M → Option qm_R} {f_T_sets : Int32 → Int32 → qm_M → Option qm_R} {f_T_cell : Int32 → Int32 → Int32 → qm_M → Option qm_R} {f_B_may : Int32 → Int32 → qm_M → Option qm_R} {l288 : Int32 → Int32 → Int32 → Int32 → Int32 → Int32 → qm_M → Option qm_R} (hT : qe_G kp d (T_L_same f_T_count f_B_shown f_T_sets f_T_cell f_B_may)) (h288 : ∀ (v2 : Int32) (v4 : Int32) (v5 : Int32) (v6 : Int32) (s0 : Int32) (s1 : Int32) (m : qm_M), qe_J kp md_L_same d (l288 v2 v4 v5 v6 s0 s1 m) 288 [(0, .ref 0), (1, .ref 112), (2, .int v2), (4, .int v4), (5, .int v5), (6, .int v6)] [.int s0, .int s1] m) (v3 : Int32) (v4 : Int32) (v5 : Int32) (v6 : Int32) (s0 : Int32) (m : qm_M) : qe_J kp md_L_same d (X_L_same_265 f_T_count f_B_shown f_T_sets f_T_cell f_B_may l288 v3 v4 v5 v6 s0 m) 265 [(0, .ref 0), (1, .ref 112), (3, .int v3), (4, .int v4), (5, .int v5), (6, .int v6)] [.int s0] m := qe_run (B := [(288, [0, 1, 2, 4, 5, 6], qp_cciiii_ii 0 112 l288)]) (n := 1000) hT (qe_B1 (qp_cciiii_ii_ok h288) qe_B0) rfl
def L_L_same_265 (K179 : Int32 → Int32 → Int32 → Int32 → qm_M → Option qm_R) (K193 : Int32 → Int32 → Int32 → Int32 → Int32 → qm_M → Option qm_R) (v3 : Int32) (v4 : Int32) (v5 : Int32) (v6 : Int32) (s0 : Int32) (m : qm_M) : Option qm_R := X_L_same_265 F_T_count F_B_shown F_T_sets F_T_cell F_B_may (L_L_same_288 K179 K193) v3 v4 v5 v6 s0 m
theorem lg_L_same_265 {kp : pm_K} {d : Nat} (hT : qe_G kp d (T_L_same F_T_count F_B_shown F_T_sets F_T_cell F_B_may)) {K179 : Int32 → Int32 → Int32 → Int32 → qm_M → Option qm_R} (hK179 : ∀ (v2 : Int32) (v3 : Int32) (v4 : Int32) (v5 : Int32) (m : qm_M), qe_J kp md_L_same d (K179 v2 v3 v4 v5 m) 179 [(0, .ref 0), (1, .ref 112), (2, .int v2), (3, .int v3), (4, .int v4), (5, .int v5)] [] m) {K193 : Int32 → Int32 → Int32 → Int32 → Int32 → qm_M → Option qm_R} (hK193 : ∀ (v2 : Int32) (v3 : Int32) (v4 : Int32) (v5 : Int32) (v6 : Int32) (m : qm_M), qe_J kp md_L_same d (K193 v2 v3 v4 v5 v6 m) 193 [(0, .ref 0), (1, .ref 112), (2, .int v2), (3, .int v3), (4, .int v4), (5, .int v5), (6, .int v6)] [] m) (v3 : Int32) (v4 : Int32) (v5 : Int32) (v6 : Int32) (s0 : Int32) (m : qm_M) : qe_J kp md_L_same d (L_L_same_265 K179 K193 v3 v4 v5 v6 s0 m) 265 [(0, .ref 0), (1, .ref 112), (3, .int v3), (4, .int v4), (5, .int v5), (6, .int v6)] [.int s0] m := xg_L_same_265 hT (lg_L_same_288 hT hK179 hK193) v3 v4 v5 v6 s0 m
def X_L_same_235 (f_T_count : Int32 → qm_M → Option qm_R) (f_B_shown : qm_M → Option qm_R) (f_T_sets : Int32 → Int32 → qm_M → Option qm_R) (f_T_cell : Int32 → Int32 → Int32 → qm_M → Option qm_R) (f_B_may : Int32 → Int32 → qm_M → Option qm_R) (l265 : Int32 → Int32 → Int32 → Int32 → Int32 → qm_M → Option qm_R) (v3 : Int32) (v4 : Int32) (v5 : Int32) (v6 : Int32) (s0 : Int32) (m : qm_M) : Option qm_R :=
  if s0 = (-1 : Int32) then
    l265 v3 v4 v5 v6 (1 : Int32) m
  else
    l265 v3 v4 v5 v6 (0 : Int32) m
set_option maxRecDepth 100000 in
theorem xg_L_same_235 {kp : pm_K} {d : Nat} {f_T_count : Int32 → qm_M → Option qm_R} {f_B_shown : qm_M → Option qm_R} {f_T_sets : Int32 → Int32 → qm_M → Option qm_R} {f_T_cell : Int32 → Int32 → Int32 → qm_M → Option qm_R} {f_B_may : Int32 → Int32 → qm_M → Option qm_R} {l265 : Int32 → Int32 → Int32 → Int32 → Int32 → qm_M → Option qm_R} (hT : qe_G kp d (T_L_same f_T_count f_B_shown f_T_sets f_T_cell f_B_may)) (h265 : ∀ (v3 : Int32) (v4 : Int32) (v5 : Int32) (v6 : Int32) (s0 : Int32) (m : qm_M), qe_J kp md_L_same d (l265 v3 v4 v5 v6 s0 m) 265 [(0, .ref 0), (1, .ref 112), (3, .int v3), (4, .int v4), (5, .int v5), (6, .int v6)] [.int s0] m) (v3 : Int32) (v4 : Int32) (v5 : Int32) (v6 : Int32) (s0 : Int32) (m : qm_M) : qe_J kp md_L_same d (X_L_same_235 f_T_count f_B_shown f_T_sets f_T_cell f_B_may l265 v3 v4 v5 v6 s0 m) 235 [(0, .ref 0), (1, .ref 112), (3, .int v3), (4, .int v4), (5, .int v5), (6, .int v6)] [.int s0] m := qe_run (B := [(265, [0, 1, 3, 4, 5, 6], qp_cciiii_i 0 112 l265)]) (n := 1000) hT (qe_B1 (qp_cciiii_i_ok h265) qe_B0) rfl
def L_L_same_235 (K179 : Int32 → Int32 → Int32 → Int32 → qm_M → Option qm_R) (K193 : Int32 → Int32 → Int32 → Int32 → Int32 → qm_M → Option qm_R) (v3 : Int32) (v4 : Int32) (v5 : Int32) (v6 : Int32) (s0 : Int32) (m : qm_M) : Option qm_R := X_L_same_235 F_T_count F_B_shown F_T_sets F_T_cell F_B_may (L_L_same_265 K179 K193) v3 v4 v5 v6 s0 m
theorem lg_L_same_235 {kp : pm_K} {d : Nat} (hT : qe_G kp d (T_L_same F_T_count F_B_shown F_T_sets F_T_cell F_B_may)) {K179 : Int32 → Int32 → Int32 → Int32 → qm_M → Option qm_R} (hK179 : ∀ (v2 : Int32) (v3 : Int32) (v4 : Int32) (v5 : Int32) (m : qm_M), qe_J kp md_L_same d (K179 v2 v3 v4 v5 m) 179 [(0, .ref 0), (1, .ref 112), (2, .int v2), (3, .int v3), (4, .int v4), (5, .int v5)] [] m) {K193 : Int32 → Int32 → Int32 → Int32 → Int32 → qm_M → Option qm_R} (hK193 : ∀ (v2 : Int32) (v3 : Int32) (v4 : Int32) (v5 : Int32) (v6 : Int32) (m : qm_M), qe_J kp md_L_same d (K193 v2 v3 v4 v5 v6 m) 193 [(0, .ref 0), (1, .ref 112), (2, .int v2), (3, .int v3), (4, .int v4), (5, .int v5), (6, .int v6)] [] m) (v3 : Int32) (v4 : Int32) (v5 : Int32) (v6 : Int32) (s0 : Int32) (m : qm_M) : qe_J kp md_L_same d (L_L_same_235 K179 K193 v3 v4 v5 v6 s0 m) 235 [(0, .ref 0), (1, .ref 112), (3, .int v3), (4, .int v4), (5, .int v5), (6, .int v6)] [.int s0] m := xg_L_same_235 hT (lg_L_same_265 hT hK179 hK193) v3 v4 v5 v6 s0 m
def X_L_same_193 (f_T_count : Int32 → qm_M → Option qm_R) (f_B_shown : qm_M → Option qm_R) (f_T_sets : Int32 → Int32 → qm_M → Option qm_R) (f_T_cell : Int32 → Int32 → Int32 → qm_M → Option qm_R) (f_B_may : Int32 → Int32 → qm_M → Option qm_R) (l179 : Int32 → Int32 → Int32 → Int32 → qm_M → Option qm_R) (l235 : Int32 → Int32 → Int32 → Int32 → Int32 → qm_M → Option qm_R) (l265 : Int32 → Int32 → Int32 → Int32 → Int32 → qm_M → Option qm_R) (v2 : Int32) (v3 : Int32) (v4 : Int32) (v5 : Int32) (v6 : Int32) (m : qm_M) : Option qm_R :=
  if v6 < (6 : Int32) then
    if v2 = 0 then
      l179 v2 v3 v4 (v5 + (1 : Int32)) m
    else
      qe_rI (f_T_cell v5 v6 (2 : Int32) m) fun x1 m1 =>
      if v5 < (m1.1 113 0) then
        if v6 < (m1.1 113 1) then
          qe_b (qm_in v5 6) (
          qe_b (qm_isA (qm_rf 116 (Int32.toNatClampNeg v5)) 2 || qm_isL (qm_rf 116 (Int32.toNatClampNeg v5)) 3) (
          qe_b (qm_in v6 (qm_n (qm_rf 116 (Int32.toNatClampNeg v5)))) (
          if (qm_gI m1 (qm_rf 116 (Int32.toNatClampNeg v5)) (Int32.toNatClampNeg v6)) = 0 then
            if x1 = (0 : Int32) then
              l265 v3 v4 v5 v6 (1 : Int32) m1
            else
              l265 v3 v4 v5 v6 (0 : Int32) m1
          else
            if x1 = (1 : Int32) then
              l265 v3 v4 v5 v6 (1 : Int32) m1
            else
              l265 v3 v4 v5 v6 (0 : Int32) m1)))
        else
          l235 v3 v4 v5 v6 x1 m1
      else
        l235 v3 v4 v5 v6 x1 m1
  else
    l179 v2 v3 v4 (v5 + (1 : Int32)) m
set_option maxRecDepth 100000 in
theorem xg_L_same_193 {kp : pm_K} {d : Nat} {f_T_count : Int32 → qm_M → Option qm_R} {f_B_shown : qm_M → Option qm_R} {f_T_sets : Int32 → Int32 → qm_M → Option qm_R} {f_T_cell : Int32 → Int32 → Int32 → qm_M → Option qm_R} {f_B_may : Int32 → Int32 → qm_M → Option qm_R} {l179 : Int32 → Int32 → Int32 → Int32 → qm_M → Option qm_R} {l235 : Int32 → Int32 → Int32 → Int32 → Int32 → qm_M → Option qm_R} {l265 : Int32 → Int32 → Int32 → Int32 → Int32 → qm_M → Option qm_R} (hT : qe_G kp d (T_L_same f_T_count f_B_shown f_T_sets f_T_cell f_B_may)) (h179 : ∀ (v2 : Int32) (v3 : Int32) (v4 : Int32) (v5 : Int32) (m : qm_M), qe_J kp md_L_same d (l179 v2 v3 v4 v5 m) 179 [(0, .ref 0), (1, .ref 112), (2, .int v2), (3, .int v3), (4, .int v4), (5, .int v5)] [] m) (h235 : ∀ (v3 : Int32) (v4 : Int32) (v5 : Int32) (v6 : Int32) (s0 : Int32) (m : qm_M), qe_J kp md_L_same d (l235 v3 v4 v5 v6 s0 m) 235 [(0, .ref 0), (1, .ref 112), (3, .int v3), (4, .int v4), (5, .int v5), (6, .int v6)] [.int s0] m) (h265 : ∀ (v3 : Int32) (v4 : Int32) (v5 : Int32) (v6 : Int32) (s0 : Int32) (m : qm_M), qe_J kp md_L_same d (l265 v3 v4 v5 v6 s0 m) 265 [(0, .ref 0), (1, .ref 112), (3, .int v3), (4, .int v4), (5, .int v5), (6, .int v6)] [.int s0] m) (v2 : Int32) (v3 : Int32) (v4 : Int32) (v5 : Int32) (v6 : Int32) (m : qm_M) : qe_J kp md_L_same d (X_L_same_193 f_T_count f_B_shown f_T_sets f_T_cell f_B_may l179 l235 l265 v2 v3 v4 v5 v6 m) 193 [(0, .ref 0), (1, .ref 112), (2, .int v2), (3, .int v3), (4, .int v4), (5, .int v5), (6, .int v6)] [] m := qe_run (B := [(179, [0, 1, 2, 3, 4, 5], qp_cciiii_ 0 112 l179), (235, [0, 1, 3, 4, 5, 6], qp_cciiii_i 0 112 l235), (265, [0, 1, 3, 4, 5, 6], qp_cciiii_i 0 112 l265)]) (n := 1000) hT (qe_B1 (qp_cciiii__ok h179) (qe_B1 (qp_cciiii_i_ok h235) (qe_B1 (qp_cciiii_i_ok h265) qe_B0))) rfl
def L_L_same_193 (K179 : Int32 → Int32 → Int32 → Int32 → qm_M → Option qm_R) : Nat → Int32 → Int32 → Int32 → Int32 → Int32 → qm_M → Option qm_R
  | 0, _, _, _, _, _, _ => none
  | n + 1, v2, v3, v4, v5, v6, m => X_L_same_193 F_T_count F_B_shown F_T_sets F_T_cell F_B_may K179 (L_L_same_235 K179 (L_L_same_193 K179 n)) (L_L_same_265 K179 (L_L_same_193 K179 n)) v2 v3 v4 v5 v6 m
theorem lg_L_same_193 {kp : pm_K} {d : Nat} (hT : qe_G kp d (T_L_same F_T_count F_B_shown F_T_sets F_T_cell F_B_may)) {K179 : Int32 → Int32 → Int32 → Int32 → qm_M → Option qm_R} (hK179 : ∀ (v2 : Int32) (v3 : Int32) (v4 : Int32) (v5 : Int32) (m : qm_M), qe_J kp md_L_same d (K179 v2 v3 v4 v5 m) 179 [(0, .ref 0), (1, .ref 112), (2, .int v2), (3, .int v3), (4, .int v4), (5, .int v5)] [] m) : ∀ (n : Nat) (v2 : Int32) (v3 : Int32) (v4 : Int32) (v5 : Int32) (v6 : Int32) (m : qm_M), qe_J kp md_L_same d (L_L_same_193 K179 n v2 v3 v4 v5 v6 m) 193 [(0, .ref 0), (1, .ref 112), (2, .int v2), (3, .int v3), (4, .int v4), (5, .int v5), (6, .int v6)] [] m
  | 0, v2, v3, v4, v5, v6, m => qe_none rfl
  | n + 1, v2, v3, v4, v5, v6, m => xg_L_same_193 hT hK179 (lg_L_same_235 hT hK179 (lg_L_same_193 hT hK179 n)) (lg_L_same_265 hT hK179 (lg_L_same_193 hT hK179 n)) v2 v3 v4 v5 v6 m
def X_L_same_179 (f_T_count : Int32 → qm_M → Option qm_R) (f_B_shown : qm_M → Option qm_R) (f_T_sets : Int32 → Int32 → qm_M → Option qm_R) (f_T_cell : Int32 → Int32 → Int32 → qm_M → Option qm_R) (f_B_may : Int32 → Int32 → qm_M → Option qm_R) (l193 : Int32 → Int32 → Int32 → Int32 → Int32 → qm_M → Option qm_R) (l328 : Int32 → Int32 → Int32 → qm_M → Option qm_R) (v2 : Int32) (v3 : Int32) (v4 : Int32) (v5 : Int32) (m : qm_M) : Option qm_R :=
  if v5 < (6 : Int32) then
    if v2 = 0 then
      l328 v2 v3 v4 m
    else
      l193 v2 v3 v4 v5 (0 : Int32) m
  else
    l328 v2 v3 v4 m
set_option maxRecDepth 100000 in
theorem xg_L_same_179 {kp : pm_K} {d : Nat} {f_T_count : Int32 → qm_M → Option qm_R} {f_B_shown : qm_M → Option qm_R} {f_T_sets : Int32 → Int32 → qm_M → Option qm_R} {f_T_cell : Int32 → Int32 → Int32 → qm_M → Option qm_R} {f_B_may : Int32 → Int32 → qm_M → Option qm_R} {l193 : Int32 → Int32 → Int32 → Int32 → Int32 → qm_M → Option qm_R} {l328 : Int32 → Int32 → Int32 → qm_M → Option qm_R} (hT : qe_G kp d (T_L_same f_T_count f_B_shown f_T_sets f_T_cell f_B_may)) (h193 : ∀ (v2 : Int32) (v3 : Int32) (v4 : Int32) (v5 : Int32) (v6 : Int32) (m : qm_M), qe_J kp md_L_same d (l193 v2 v3 v4 v5 v6 m) 193 [(0, .ref 0), (1, .ref 112), (2, .int v2), (3, .int v3), (4, .int v4), (5, .int v5), (6, .int v6)] [] m) (h328 : ∀ (v2 : Int32) (v3 : Int32) (v4 : Int32) (m : qm_M), qe_J kp md_L_same d (l328 v2 v3 v4 m) 328 [(0, .ref 0), (1, .ref 112), (2, .int v2), (3, .int v3), (4, .int v4)] [] m) (v2 : Int32) (v3 : Int32) (v4 : Int32) (v5 : Int32) (m : qm_M) : qe_J kp md_L_same d (X_L_same_179 f_T_count f_B_shown f_T_sets f_T_cell f_B_may l193 l328 v2 v3 v4 v5 m) 179 [(0, .ref 0), (1, .ref 112), (2, .int v2), (3, .int v3), (4, .int v4), (5, .int v5)] [] m := qe_run (B := [(193, [0, 1, 2, 3, 4, 5, 6], qp_cciiiii_ 0 112 l193), (328, [0, 1, 2, 3, 4], qp_cciii_ 0 112 l328)]) (n := 1000) hT (qe_B1 (qp_cciiiii__ok h193) (qe_B1 (qp_cciii__ok h328) qe_B0)) rfl
def L_L_same_179 : Nat → Int32 → Int32 → Int32 → Int32 → qm_M → Option qm_R
  | 0, _, _, _, _, _ => none
  | n + 1, v2, v3, v4, v5, m => X_L_same_179 F_T_count F_B_shown F_T_sets F_T_cell F_B_may (L_L_same_193 (L_L_same_179 n) 1000000) (L_L_same_328) v2 v3 v4 v5 m
theorem lg_L_same_179 {kp : pm_K} {d : Nat} (hT : qe_G kp d (T_L_same F_T_count F_B_shown F_T_sets F_T_cell F_B_may)) : ∀ (n : Nat) (v2 : Int32) (v3 : Int32) (v4 : Int32) (v5 : Int32) (m : qm_M), qe_J kp md_L_same d (L_L_same_179 n v2 v3 v4 v5 m) 179 [(0, .ref 0), (1, .ref 112), (2, .int v2), (3, .int v3), (4, .int v4), (5, .int v5)] [] m
  | 0, v2, v3, v4, v5, m => qe_none rfl
  | n + 1, v2, v3, v4, v5, m => xg_L_same_179 hT (lg_L_same_193 hT (lg_L_same_179 hT n) 1000000) (lg_L_same_328 hT) v2 v3 v4 v5 m
def X_L_same_155 (f_T_count : Int32 → qm_M → Option qm_R) (f_B_shown : qm_M → Option qm_R) (f_T_sets : Int32 → Int32 → qm_M → Option qm_R) (f_T_cell : Int32 → Int32 → Int32 → qm_M → Option qm_R) (f_B_may : Int32 → Int32 → qm_M → Option qm_R) (l81 : Int32 → Int32 → Int32 → Int32 → Int32 → qm_M → Option qm_R) (v3 : Int32) (v4 : Int32) (v5 : Int32) (v6 : Int32) (s0 : Int32) (m : qm_M) : Option qm_R :=
  qe_b (!decide ((4 : Int32) = 0)) (
  let x1 : Int32 := (v6 + ((1 : Int32) + (v6 / (4 : Int32))))
  l81 s0 v3 v4 v5 x1 m)
set_option maxRecDepth 100000 in
theorem xg_L_same_155 {kp : pm_K} {d : Nat} {f_T_count : Int32 → qm_M → Option qm_R} {f_B_shown : qm_M → Option qm_R} {f_T_sets : Int32 → Int32 → qm_M → Option qm_R} {f_T_cell : Int32 → Int32 → Int32 → qm_M → Option qm_R} {f_B_may : Int32 → Int32 → qm_M → Option qm_R} {l81 : Int32 → Int32 → Int32 → Int32 → Int32 → qm_M → Option qm_R} (hT : qe_G kp d (T_L_same f_T_count f_B_shown f_T_sets f_T_cell f_B_may)) (h81 : ∀ (v2 : Int32) (v3 : Int32) (v4 : Int32) (v5 : Int32) (v6 : Int32) (m : qm_M), qe_J kp md_L_same d (l81 v2 v3 v4 v5 v6 m) 81 [(0, .ref 0), (1, .ref 112), (2, .int v2), (3, .int v3), (4, .int v4), (5, .int v5), (6, .int v6)] [] m) (v3 : Int32) (v4 : Int32) (v5 : Int32) (v6 : Int32) (s0 : Int32) (m : qm_M) : qe_J kp md_L_same d (X_L_same_155 f_T_count f_B_shown f_T_sets f_T_cell f_B_may l81 v3 v4 v5 v6 s0 m) 155 [(0, .ref 0), (1, .ref 112), (3, .int v3), (4, .int v4), (5, .int v5), (6, .int v6)] [.int s0] m := qe_run (B := [(81, [0, 1, 2, 3, 4, 5, 6], qp_cciiiii_ 0 112 l81)]) (n := 1000) hT (qe_B1 (qp_cciiiii__ok h81) qe_B0) rfl
def L_L_same_155 (K10 : Int32 → Int32 → Int32 → Int32 → qm_M → Option qm_R) (K81 : Int32 → Int32 → Int32 → Int32 → Int32 → qm_M → Option qm_R) (v3 : Int32) (v4 : Int32) (v5 : Int32) (v6 : Int32) (s0 : Int32) (m : qm_M) : Option qm_R := X_L_same_155 F_T_count F_B_shown F_T_sets F_T_cell F_B_may K81 v3 v4 v5 v6 s0 m
theorem lg_L_same_155 {kp : pm_K} {d : Nat} (hT : qe_G kp d (T_L_same F_T_count F_B_shown F_T_sets F_T_cell F_B_may)) {K10 : Int32 → Int32 → Int32 → Int32 → qm_M → Option qm_R} (hK10 : ∀ (v2 : Int32) (v3 : Int32) (v4 : Int32) (v5 : Int32) (m : qm_M), qe_J kp md_L_same d (K10 v2 v3 v4 v5 m) 10 [(0, .ref 0), (1, .ref 112), (2, .int v2), (3, .int v3), (4, .int v4), (5, .int v5)] [] m) {K81 : Int32 → Int32 → Int32 → Int32 → Int32 → qm_M → Option qm_R} (hK81 : ∀ (v2 : Int32) (v3 : Int32) (v4 : Int32) (v5 : Int32) (v6 : Int32) (m : qm_M), qe_J kp md_L_same d (K81 v2 v3 v4 v5 v6 m) 81 [(0, .ref 0), (1, .ref 112), (2, .int v2), (3, .int v3), (4, .int v4), (5, .int v5), (6, .int v6)] [] m) (v3 : Int32) (v4 : Int32) (v5 : Int32) (v6 : Int32) (s0 : Int32) (m : qm_M) : qe_J kp md_L_same d (L_L_same_155 K10 K81 v3 v4 v5 v6 s0 m) 155 [(0, .ref 0), (1, .ref 112), (3, .int v3), (4, .int v4), (5, .int v5), (6, .int v6)] [.int s0] m := xg_L_same_155 hT hK81 v3 v4 v5 v6 s0 m
def X_L_same_101 (f_T_count : Int32 → qm_M → Option qm_R) (f_B_shown : qm_M → Option qm_R) (f_T_sets : Int32 → Int32 → qm_M → Option qm_R) (f_T_cell : Int32 → Int32 → Int32 → qm_M → Option qm_R) (f_B_may : Int32 → Int32 → qm_M → Option qm_R) (l101 : Int32 → Int32 → Int32 → Int32 → Int32 → Int32 → qm_M → Option qm_R) (l155 : Int32 → Int32 → Int32 → Int32 → Int32 → qm_M → Option qm_R) (v3 : Int32) (v4 : Int32) (v5 : Int32) (v6 : Int32) (v7 : Int32) (v8 : Int32) (m : qm_M) : Option qm_R :=
  if v8 < (qo_ishl (2 : Int32) v6) then
    qe_rI (f_B_may v5 v8 m) fun x1 m1 =>
    if x1 = 0 then
      l101 v3 v4 v5 v6 (v7 + (0 : Int32)) (v8 + (1 : Int32)) m1
    else
      l101 v3 v4 v5 v6 (v7 + (1 : Int32)) (v8 + (1 : Int32)) m1
  else
    qe_rI (f_T_sets v5 v6 m) fun x2 m2 =>
    if x2 = v7 then
      l155 v3 v4 v5 v6 (1 : Int32) m2
    else
      l155 v3 v4 v5 v6 (0 : Int32) m2
set_option maxRecDepth 100000 in
theorem xg_L_same_101 {kp : pm_K} {d : Nat} {f_T_count : Int32 → qm_M → Option qm_R} {f_B_shown : qm_M → Option qm_R} {f_T_sets : Int32 → Int32 → qm_M → Option qm_R} {f_T_cell : Int32 → Int32 → Int32 → qm_M → Option qm_R} {f_B_may : Int32 → Int32 → qm_M → Option qm_R} {l101 : Int32 → Int32 → Int32 → Int32 → Int32 → Int32 → qm_M → Option qm_R} {l155 : Int32 → Int32 → Int32 → Int32 → Int32 → qm_M → Option qm_R} (hT : qe_G kp d (T_L_same f_T_count f_B_shown f_T_sets f_T_cell f_B_may)) (h101 : ∀ (v3 : Int32) (v4 : Int32) (v5 : Int32) (v6 : Int32) (v7 : Int32) (v8 : Int32) (m : qm_M), qe_J kp md_L_same d (l101 v3 v4 v5 v6 v7 v8 m) 101 [(0, .ref 0), (1, .ref 112), (3, .int v3), (4, .int v4), (5, .int v5), (6, .int v6), (7, .int v7), (8, .int v8)] [] m) (h155 : ∀ (v3 : Int32) (v4 : Int32) (v5 : Int32) (v6 : Int32) (s0 : Int32) (m : qm_M), qe_J kp md_L_same d (l155 v3 v4 v5 v6 s0 m) 155 [(0, .ref 0), (1, .ref 112), (3, .int v3), (4, .int v4), (5, .int v5), (6, .int v6)] [.int s0] m) (v3 : Int32) (v4 : Int32) (v5 : Int32) (v6 : Int32) (v7 : Int32) (v8 : Int32) (m : qm_M) : qe_J kp md_L_same d (X_L_same_101 f_T_count f_B_shown f_T_sets f_T_cell f_B_may l101 l155 v3 v4 v5 v6 v7 v8 m) 101 [(0, .ref 0), (1, .ref 112), (3, .int v3), (4, .int v4), (5, .int v5), (6, .int v6), (7, .int v7), (8, .int v8)] [] m := qe_run (B := [(101, [0, 1, 3, 4, 5, 6, 7, 8], qp_cciiiiii_ 0 112 l101), (155, [0, 1, 3, 4, 5, 6], qp_cciiii_i 0 112 l155)]) (n := 1000) hT (qe_B1 (qp_cciiiiii__ok h101) (qe_B1 (qp_cciiii_i_ok h155) qe_B0)) rfl
def L_L_same_101 (K10 : Int32 → Int32 → Int32 → Int32 → qm_M → Option qm_R) (K81 : Int32 → Int32 → Int32 → Int32 → Int32 → qm_M → Option qm_R) : Nat → Int32 → Int32 → Int32 → Int32 → Int32 → Int32 → qm_M → Option qm_R
  | 0, _, _, _, _, _, _, _ => none
  | n + 1, v3, v4, v5, v6, v7, v8, m => X_L_same_101 F_T_count F_B_shown F_T_sets F_T_cell F_B_may (L_L_same_101 K10 K81 n) (L_L_same_155 K10 K81) v3 v4 v5 v6 v7 v8 m
theorem lg_L_same_101 {kp : pm_K} {d : Nat} (hT : qe_G kp d (T_L_same F_T_count F_B_shown F_T_sets F_T_cell F_B_may)) {K10 : Int32 → Int32 → Int32 → Int32 → qm_M → Option qm_R} (hK10 : ∀ (v2 : Int32) (v3 : Int32) (v4 : Int32) (v5 : Int32) (m : qm_M), qe_J kp md_L_same d (K10 v2 v3 v4 v5 m) 10 [(0, .ref 0), (1, .ref 112), (2, .int v2), (3, .int v3), (4, .int v4), (5, .int v5)] [] m) {K81 : Int32 → Int32 → Int32 → Int32 → Int32 → qm_M → Option qm_R} (hK81 : ∀ (v2 : Int32) (v3 : Int32) (v4 : Int32) (v5 : Int32) (v6 : Int32) (m : qm_M), qe_J kp md_L_same d (K81 v2 v3 v4 v5 v6 m) 81 [(0, .ref 0), (1, .ref 112), (2, .int v2), (3, .int v3), (4, .int v4), (5, .int v5), (6, .int v6)] [] m) : ∀ (n : Nat) (v3 : Int32) (v4 : Int32) (v5 : Int32) (v6 : Int32) (v7 : Int32) (v8 : Int32) (m : qm_M), qe_J kp md_L_same d (L_L_same_101 K10 K81 n v3 v4 v5 v6 v7 v8 m) 101 [(0, .ref 0), (1, .ref 112), (3, .int v3), (4, .int v4), (5, .int v5), (6, .int v6), (7, .int v7), (8, .int v8)] [] m
  | 0, v3, v4, v5, v6, v7, v8, m => qe_none rfl
  | n + 1, v3, v4, v5, v6, v7, v8, m => xg_L_same_101 hT (lg_L_same_101 hT hK10 hK81 n) (lg_L_same_155 hT hK10 hK81) v3 v4 v5 v6 v7 v8 m
def X_L_same_81 (f_T_count : Int32 → qm_M → Option qm_R) (f_B_shown : qm_M → Option qm_R) (f_T_sets : Int32 → Int32 → qm_M → Option qm_R) (f_T_cell : Int32 → Int32 → Int32 → qm_M → Option qm_R) (f_B_may : Int32 → Int32 → qm_M → Option qm_R) (l10 : Int32 → Int32 → Int32 → Int32 → qm_M → Option qm_R) (l101 : Int32 → Int32 → Int32 → Int32 → Int32 → Int32 → qm_M → Option qm_R) (v2 : Int32) (v3 : Int32) (v4 : Int32) (v5 : Int32) (v6 : Int32) (m : qm_M) : Option qm_R :=
  if v6 < (12 : Int32) then
    if v2 = 0 then
      l10 v2 v3 v4 (v5 + (1 : Int32)) m
    else
      l101 v3 v4 v5 v6 (0 : Int32) (qo_ishl (1 : Int32) v6) m
  else
    l10 v2 v3 v4 (v5 + (1 : Int32)) m
set_option maxRecDepth 100000 in
theorem xg_L_same_81 {kp : pm_K} {d : Nat} {f_T_count : Int32 → qm_M → Option qm_R} {f_B_shown : qm_M → Option qm_R} {f_T_sets : Int32 → Int32 → qm_M → Option qm_R} {f_T_cell : Int32 → Int32 → Int32 → qm_M → Option qm_R} {f_B_may : Int32 → Int32 → qm_M → Option qm_R} {l10 : Int32 → Int32 → Int32 → Int32 → qm_M → Option qm_R} {l101 : Int32 → Int32 → Int32 → Int32 → Int32 → Int32 → qm_M → Option qm_R} (hT : qe_G kp d (T_L_same f_T_count f_B_shown f_T_sets f_T_cell f_B_may)) (h10 : ∀ (v2 : Int32) (v3 : Int32) (v4 : Int32) (v5 : Int32) (m : qm_M), qe_J kp md_L_same d (l10 v2 v3 v4 v5 m) 10 [(0, .ref 0), (1, .ref 112), (2, .int v2), (3, .int v3), (4, .int v4), (5, .int v5)] [] m) (h101 : ∀ (v3 : Int32) (v4 : Int32) (v5 : Int32) (v6 : Int32) (v7 : Int32) (v8 : Int32) (m : qm_M), qe_J kp md_L_same d (l101 v3 v4 v5 v6 v7 v8 m) 101 [(0, .ref 0), (1, .ref 112), (3, .int v3), (4, .int v4), (5, .int v5), (6, .int v6), (7, .int v7), (8, .int v8)] [] m) (v2 : Int32) (v3 : Int32) (v4 : Int32) (v5 : Int32) (v6 : Int32) (m : qm_M) : qe_J kp md_L_same d (X_L_same_81 f_T_count f_B_shown f_T_sets f_T_cell f_B_may l10 l101 v2 v3 v4 v5 v6 m) 81 [(0, .ref 0), (1, .ref 112), (2, .int v2), (3, .int v3), (4, .int v4), (5, .int v5), (6, .int v6)] [] m := qe_run (B := [(10, [0, 1, 2, 3, 4, 5], qp_cciiii_ 0 112 l10), (101, [0, 1, 3, 4, 5, 6, 7, 8], qp_cciiiiii_ 0 112 l101)]) (n := 1000) hT (qe_B1 (qp_cciiii__ok h10) (qe_B1 (qp_cciiiiii__ok h101) qe_B0)) rfl
def L_L_same_81 (K10 : Int32 → Int32 → Int32 → Int32 → qm_M → Option qm_R) : Nat → Int32 → Int32 → Int32 → Int32 → Int32 → qm_M → Option qm_R
  | 0, _, _, _, _, _, _ => none
  | n + 1, v2, v3, v4, v5, v6, m => X_L_same_81 F_T_count F_B_shown F_T_sets F_T_cell F_B_may K10 (L_L_same_101 K10 (L_L_same_81 K10 n) 1000000) v2 v3 v4 v5 v6 m
theorem lg_L_same_81 {kp : pm_K} {d : Nat} (hT : qe_G kp d (T_L_same F_T_count F_B_shown F_T_sets F_T_cell F_B_may)) {K10 : Int32 → Int32 → Int32 → Int32 → qm_M → Option qm_R} (hK10 : ∀ (v2 : Int32) (v3 : Int32) (v4 : Int32) (v5 : Int32) (m : qm_M), qe_J kp md_L_same d (K10 v2 v3 v4 v5 m) 10 [(0, .ref 0), (1, .ref 112), (2, .int v2), (3, .int v3), (4, .int v4), (5, .int v5)] [] m) : ∀ (n : Nat) (v2 : Int32) (v3 : Int32) (v4 : Int32) (v5 : Int32) (v6 : Int32) (m : qm_M), qe_J kp md_L_same d (L_L_same_81 K10 n v2 v3 v4 v5 v6 m) 81 [(0, .ref 0), (1, .ref 112), (2, .int v2), (3, .int v3), (4, .int v4), (5, .int v5), (6, .int v6)] [] m
  | 0, v2, v3, v4, v5, v6, m => qe_none rfl
  | n + 1, v2, v3, v4, v5, v6, m => xg_L_same_81 hT hK10 (lg_L_same_101 hT hK10 (lg_L_same_81 hT hK10 n) 1000000) v2 v3 v4 v5 v6 m
def X_L_same_10 (f_T_count : Int32 → qm_M → Option qm_R) (f_B_shown : qm_M → Option qm_R) (f_T_sets : Int32 → Int32 → qm_M → Option qm_R) (f_T_cell : Int32 → Int32 → Int32 → qm_M → Option qm_R) (f_B_may : Int32 → Int32 → qm_M → Option qm_R) (l81 : Int32 → Int32 → Int32 → Int32 → Int32 → qm_M → Option qm_R) (l179 : Int32 → Int32 → Int32 → Int32 → qm_M → Option qm_R) (v2 : Int32) (v3 : Int32) (v4 : Int32) (v5 : Int32) (m : qm_M) : Option qm_R :=
  if v5 < (2 : Int32) then
    if v2 = 0 then
      l179 v2 v3 v4 (0 : Int32) m
    else
      qe_rI (f_T_count v5 m) fun x1 m1 =>
      qe_b (qm_in v5 2) (
      if x1 = (m1.1 113 (Int32.toNatClampNeg v5)) then
        qe_rI (f_T_count ((2 : Int32) + v5) m1) fun x2 m2 =>
        qe_b (qm_in v5 2) (
        if x2 = (m2.1 114 (Int32.toNatClampNeg v5)) then
          qe_rI (f_T_count ((4 : Int32) + v5) m2) fun x3 m3 =>
          qe_b (qm_in v5 2) (
          if x3 = (m3.1 115 (Int32.toNatClampNeg v5)) then
            l81 (1 : Int32) v3 v4 v5 (0 : Int32) m3
          else
            l81 (0 : Int32) v3 v4 v5 (0 : Int32) m3)
        else
          l81 (0 : Int32) v3 v4 v5 (0 : Int32) m2)
      else
        l81 (0 : Int32) v3 v4 v5 (0 : Int32) m1)
  else
    l179 v2 v3 v4 (0 : Int32) m
set_option maxRecDepth 100000 in
theorem xg_L_same_10 {kp : pm_K} {d : Nat} {f_T_count : Int32 → qm_M → Option qm_R} {f_B_shown : qm_M → Option qm_R} {f_T_sets : Int32 → Int32 → qm_M → Option qm_R} {f_T_cell : Int32 → Int32 → Int32 → qm_M → Option qm_R} {f_B_may : Int32 → Int32 → qm_M → Option qm_R} {l81 : Int32 → Int32 → Int32 → Int32 → Int32 → qm_M → Option qm_R} {l179 : Int32 → Int32 → Int32 → Int32 → qm_M → Option qm_R} (hT : qe_G kp d (T_L_same f_T_count f_B_shown f_T_sets f_T_cell f_B_may)) (h81 : ∀ (v2 : Int32) (v3 : Int32) (v4 : Int32) (v5 : Int32) (v6 : Int32) (m : qm_M), qe_J kp md_L_same d (l81 v2 v3 v4 v5 v6 m) 81 [(0, .ref 0), (1, .ref 112), (2, .int v2), (3, .int v3), (4, .int v4), (5, .int v5), (6, .int v6)] [] m) (h179 : ∀ (v2 : Int32) (v3 : Int32) (v4 : Int32) (v5 : Int32) (m : qm_M), qe_J kp md_L_same d (l179 v2 v3 v4 v5 m) 179 [(0, .ref 0), (1, .ref 112), (2, .int v2), (3, .int v3), (4, .int v4), (5, .int v5)] [] m) (v2 : Int32) (v3 : Int32) (v4 : Int32) (v5 : Int32) (m : qm_M) : qe_J kp md_L_same d (X_L_same_10 f_T_count f_B_shown f_T_sets f_T_cell f_B_may l81 l179 v2 v3 v4 v5 m) 10 [(0, .ref 0), (1, .ref 112), (2, .int v2), (3, .int v3), (4, .int v4), (5, .int v5)] [] m := qe_run (B := [(81, [0, 1, 2, 3, 4, 5, 6], qp_cciiiii_ 0 112 l81), (179, [0, 1, 2, 3, 4, 5], qp_cciiii_ 0 112 l179)]) (n := 1000) hT (qe_B1 (qp_cciiiii__ok h81) (qe_B1 (qp_cciiii__ok h179) qe_B0)) rfl
def L_L_same_10 : Nat → Int32 → Int32 → Int32 → Int32 → qm_M → Option qm_R
  | 0, _, _, _, _, _ => none
  | n + 1, v2, v3, v4, v5, m => X_L_same_10 F_T_count F_B_shown F_T_sets F_T_cell F_B_may (L_L_same_81 (L_L_same_10 n) 1000000) (L_L_same_179 1000000) v2 v3 v4 v5 m
theorem lg_L_same_10 {kp : pm_K} {d : Nat} (hT : qe_G kp d (T_L_same F_T_count F_B_shown F_T_sets F_T_cell F_B_may)) : ∀ (n : Nat) (v2 : Int32) (v3 : Int32) (v4 : Int32) (v5 : Int32) (m : qm_M), qe_J kp md_L_same d (L_L_same_10 n v2 v3 v4 v5 m) 10 [(0, .ref 0), (1, .ref 112), (2, .int v2), (3, .int v3), (4, .int v4), (5, .int v5)] [] m
  | 0, v2, v3, v4, v5, m => qe_none rfl
  | n + 1, v2, v3, v4, v5, m => xg_L_same_10 hT (lg_L_same_81 hT (lg_L_same_10 hT n) 1000000) (lg_L_same_179 hT 1000000) v2 v3 v4 v5 m
def X_L_same_e (f_T_count : Int32 → qm_M → Option qm_R) (f_B_shown : qm_M → Option qm_R) (f_T_sets : Int32 → Int32 → qm_M → Option qm_R) (f_T_cell : Int32 → Int32 → Int32 → qm_M → Option qm_R) (f_B_may : Int32 → Int32 → qm_M → Option qm_R) (l10 : Int32 → Int32 → Int32 → Int32 → qm_M → Option qm_R)  (m : qm_M) : Option qm_R :=
  l10 (1 : Int32) (0 : Int32) (0 : Int32) (0 : Int32) m
set_option maxRecDepth 100000 in
theorem xg_L_same_e {kp : pm_K} {d : Nat} {f_T_count : Int32 → qm_M → Option qm_R} {f_B_shown : qm_M → Option qm_R} {f_T_sets : Int32 → Int32 → qm_M → Option qm_R} {f_T_cell : Int32 → Int32 → Int32 → qm_M → Option qm_R} {f_B_may : Int32 → Int32 → qm_M → Option qm_R} {l10 : Int32 → Int32 → Int32 → Int32 → qm_M → Option qm_R} (hT : qe_G kp d (T_L_same f_T_count f_B_shown f_T_sets f_T_cell f_B_may)) (h10 : ∀ (v2 : Int32) (v3 : Int32) (v4 : Int32) (v5 : Int32) (m : qm_M), qe_J kp md_L_same d (l10 v2 v3 v4 v5 m) 10 [(0, .ref 0), (1, .ref 112), (2, .int v2), (3, .int v3), (4, .int v4), (5, .int v5)] [] m) (m : qm_M) : qe_J kp md_L_same d (X_L_same_e f_T_count f_B_shown f_T_sets f_T_cell f_B_may l10 m) 0 [(0, .ref 0), (1, .ref 112)] [] m := qe_run (B := [(10, [0, 1, 2, 3, 4, 5], qp_cciiii_ 0 112 l10)]) (n := 1000) hT (qe_B1 (qp_cciiii__ok h10) qe_B0) rfl
def F_L_same (m : qm_M) : Option qm_R := X_L_same_e F_T_count F_B_shown F_T_sets F_T_cell F_B_may (L_L_same_10 1000000) m
theorem fj_L_same {kp : pm_K} {d : Nat} (hT : qe_G kp d (T_L_same F_T_count F_B_shown F_T_sets F_T_cell F_B_may)) (m : qm_M) : qe_J kp md_L_same d (F_L_same m) 0 [(0, .ref 0), (1, .ref 112)] [] m := xg_L_same_e hT (lg_L_same_10 hT 1000000) m
theorem fg_L_same {kp : pm_K} (d : Nat) : qe_GE kp (d + 36) (125, 1, 0, 1, qw_cc 0 112 F_L_same) := qe_entry (by decide +kernel) (qw_cc_ok (d := d + 35) rfl rfl (fj_L_same (qe_G1 (fg_T_count (d + 32)) (qe_G1 (fg_B_shown (d + 34)) (qe_G1 (fg_T_sets (d + 0)) (qe_G1 (fg_T_cell (d + 0)) (qe_G1 (fg_B_may (d + 32)) qe_G0)))))))
