/-! moves, move, play, answer, as both answer -/
theorem w_moves (v : Int32) : rdQ (F_T_moves v) (F_M_moves v) := by
  intro mc mm s hc hv hm g
  unfold F_T_moves X_T_moves_e F_M_moves X_M_moves_e
  rcases w_side v with ⟨j, hj, rfl⟩ | ⟨h1, h2⟩
  · have e1 : ¬ (1 : Int32) < nI j := nI_nlt (a := 1) (b := j) (by omega) (by omega)
    obtain ⟨mc1, a1, a2, a3, a4⟩ := nu_tuneP hc g.1 hv
    have hc1 := a4.cs (by omega) hc
    rw [if_neg (nI_pos (by omega)), if_neg e1, a1, qe_rV_e, mt_in1 (j := j) (a := 0) (b := 1) (n := 0) (k := 1) rfl rfl rfl (by omega) (by omega) (by omega), qe_rI_e, if_neg n10]
    have fin : ∀ w : Int32, ∃ r mc2 mm1, L_T_moves_40 w mc1 = some (some (.int r), mc2) ∧ L_M_moves_23 w mm = some (some (.int r), mm1) ∧ cvPl mc2 ∧ ou 48 59 mc mc2 ∧ ms mm1 s ∧ lo_fr mm mm1 := fun w => by
      have hl := mvA_len (s := s) (e := eW s w) g.1
      have w1 := wk_all (q := fun p => decide (nI p = (1073741824 : Int32))) (mvA s (eW s w)) 0 (fun i _ hi => by
        rw [decide_eq_true_iff]
        intro z
        have := (nI_eq (b := 1073741824) (by omega) (by omega)).mp z
        omega)
      have w2 := wk_all (q := fun p => decide (nI p = (-1 : Int32))) (mvA s (eW s w)) 0 (fun i _ hi => by
        rw [decide_eq_true_iff]
        exact nI_m1 (by omega))
      unfold L_T_moves_40 X_T_moves_40 L_M_moves_23 X_M_moves_23
      rcases nu_find hc1 g.1 a2 w (1073741824 : Int32) with ⟨p, mc2, x1, x2, x3⟩ | ⟨a, x1, -⟩
      · rcases mt_finds hm g.1 w (-1 : Int32) with ⟨p2, mm1, y1, y2, y3, y4⟩ | ⟨a, -, y1, -⟩
        · have ep : p = p2 := by
            rw [w1] at x1
            rw [w2] at y1
            cases x1
            cases y1
            rfl
          rw [x3, qe_rI_e, y2, qe_rI_e, x2.2, y3, ep]
          exact ⟨_, _, _, rfl, rfl, x2.1.cv a3, a4.tr x2.1.ou, y4.ms hm, y4.lo⟩
        · rw [w2] at y1
          cases y1
      · rw [w1] at x1
        cases x1
    by_cases q : nI j = 1
    · rw [if_pos q, if_pos q]
      obtain ⟨r, mc2, mm1, x1, x2, x3, x4, x5, x6⟩ := fin 1
      rw [x1, x2]
      exact ⟨_, _, _, rfl, rfl, x3, x4, x5, x6⟩
    · rw [if_neg q, if_neg q]
      obtain ⟨r, mc2, mm1, x1, x2, x3, x4, x5, x6⟩ := fin 0
      rw [x1, x2]
      exact ⟨_, _, _, rfl, rfl, x3, x4, x5, x6⟩
  · rw [mt_in0 (a := 0) (b := 1) (n := 0) (k := 1) rfl rfl (by omega) (by omega) h2, qe_rI_e, if_pos rfl]
    by_cases q : v < 0
    · rw [if_pos q]
      exact ⟨_, _, _, rfl, rfl, hv, ou.rf _ _ mc, hm, lo_fr.rf mm⟩
    · rw [if_neg q, if_pos (h1.resolve_left q)]
      exact ⟨_, _, _, rfl, rfl, hv, ou.rf _ _ mc, hm, lo_fr.rf mm⟩
/-- both find the same -/
theorem w_find {mc mm : qm_M} {s : sT} (hc : cs mc s) (hT : plT mc (bK s.1) (bL s.1)) (hm : ms mm s) (g : px_ok s.1) (w k : Int32) :
    (∃ mc1 mm1, F_Pl_find w k mc = some (some (.int 0), mc1) ∧ F_M_finds w k mm = some (some (.int 0), mm1) ∧ pfr mc mc1 ∧ ffr mm mm1) ∨
    (∃ R C mc1 mm1, (R < 2 ^ bR s.1 ∧ C < 2 ^ bC s.1 ∧ R < 64 ∧ C < 64) ∧ F_Pl_find w k mc = some (some (.int 1), mc1) ∧ F_M_finds w k mm = some (some (.int 1), mm1) ∧ (mc1.1 48 4 = nI R ∧ mc1.1 48 5 = nI C) ∧ (mm1.1 112 36 = nI R ∧ mm1.1 112 37 = nI C ∧ mm1.1 112 38 = iB (tW s ^^^ ef (bK s.1) (bL s.1) R C)) ∧ pfr mc mc1 ∧ ffr mm mm1) := by
  rcases nu_find hc g hT w k with ⟨p, mc2, x1, x2, x3⟩ | ⟨a, x1, mc2, x2, x3, x4, x5⟩
  · rcases mt_finds hm g w k with ⟨p2, mm1, y1, y2, y3, y4⟩ | ⟨a, mm1, y1, -⟩
    · exact Or.inl ⟨mc2, mm1, x3, y2, x2.1, y4⟩
    · rw [x1] at y1
      cases y1
  · rcases mt_finds hm g w k with ⟨p2, mm1, y1, -⟩ | ⟨b, mm1, y1, y2, y3, y4, y5, y6⟩
    · rw [x1] at y1
      cases y1
    · rw [x1] at y1
      cases y1
      exact Or.inr ⟨a.1, a.2, mc2, mm1, mvA_mem g (wk_mem _ _ x1), x2, y2, ⟨x3, x4⟩, ⟨y3, y4, y5⟩, x5, y6⟩
theorem w_move (v w u : Int32) : rdQ (F_T_move v w u) (F_M_move v w u) := by
  intro mc mm s hc hv hm g
  unfold F_T_move X_T_move_e F_M_move X_M_move_e
  have no : ∀ {A B : Option qm_R} {r : Int32}, A = some (some (.int r), mc) → B = some (some (.int r), mm) → ∃ r mc1 mm1, A = some (some r, mc1) ∧ B = some (some r, mm1) ∧ cvPl mc1 ∧ ou 48 59 mc mc1 ∧ ms mm1 s ∧ lo_fr mm mm1 := fun h1 h2 => ⟨_, _, _, h1, h2, hv, ou.rf _ _ mc, hm, lo_fr.rf mm⟩
  rcases w_side v with ⟨j, hj, rfl⟩ | ⟨h1, h2⟩
  · have e1 : ¬ (1 : Int32) < nI j := nI_nlt (a := 1) (b := j) (by omega) (by omega)
    rw [if_neg (nI_pos (by omega)), if_neg e1, mt_in1 (j := j) (a := 0) (b := 1) (n := 0) (k := 1) rfl rfl rfl (by omega) (by omega) (by omega), qe_rI_e, if_neg n10]
    by_cases q : w < 0
    · rw [if_pos q, if_pos q]
      exact no rfl rfl
    · rw [if_neg q, if_neg q]
      have hu : (∃ k, 1 ≤ k ∧ k ≤ 3 ∧ u = nI k) ∨ (u < 1 ∨ 3 < u) := by
        by_cases z1 : u < 1
        · exact Or.inr (Or.inl z1)
        · by_cases z2 : 3 < u
          · exact Or.inr (Or.inr z2)
          · rcases nw_lt u (N := 4) (by omega) (by omega) with ⟨k, hk, rfl⟩ | ⟨h1, h2⟩
            · refine Or.inl ⟨k, ?_, by omega, rfl⟩
              by_cases y : k = 0
              · rw [y] at z1
                exact absurd (show nI 0 < 1 by decide) z1
              · omega
            · rcases h2 with h2 | h2
              · have e0 : (nI 0 : Int32) = 0 := rfl
                rw [e0] at h2
                exact Or.inr (Or.inl (by
                  rw [Int32.lt_iff_toInt_lt] at h2 ⊢
                  have i0 : (0 : Int32).toInt = 0 := by decide
                  have i1 : (1 : Int32).toInt = 1 := by decide
                  omega))
              · exact absurd h2 z2
      rcases hu with ⟨k, k1, k3, rfl⟩ | hu
      · have f1 : ¬ nI k < 1 := nI_nlt (b := 1) k1 (by omega)
        have f3 : ¬ (3 : Int32) < nI k := nI_nlt (a := 3) k3 (by omega)
        obtain ⟨mc1, a1, a2, a3, a4⟩ := nu_tuneP hc g.1 hv
        have hc1 := a4.cs (by omega) hc
        rw [if_neg f1, if_neg f3, a1, qe_rV_e, mt_in1 (j := k) (a := 1) (b := 3) (n := 1) (k := 3) rfl rfl rfl k1 k3 (by omega), qe_rI_e, if_neg n10]
        have fin : ∀ x : Int32, ∃ r mc2 mm1, L_T_move_54 w (nI k) x mc1 = some (some (.int r), mc2) ∧ L_M_move_39 w (nI k) x mm = some (some (.int r), mm1) ∧ cvPl mc2 ∧ ou 48 59 mc mc2 ∧ ms mm1 s ∧ lo_fr mm mm1 := fun x => by
          unfold L_T_move_54 X_T_move_54 L_M_move_39 X_M_move_39
          rcases w_find hc1 a2 hm g.1 x w with ⟨mc2, mm1, x1, x2, x3, x4⟩ | ⟨R, C, mc2, mm1, ⟨-, -, hR, hC⟩, x1, x2, ⟨x3, x4⟩, ⟨y1, y2, y3⟩, x5, x6⟩
          · rw [x1, qe_rI_e, if_pos rfl, x2, qe_rI_e, if_pos rfl]
            exact ⟨_, _, _, rfl, rfl, x3.cv a3, a4.tr x3.ou, x4.ms hm, x4.lo⟩
          · rw [x1, qe_rI_e, if_neg n10, x2, qe_rI_e, if_neg n10]
            have fr := And.intro (x5.cv a3) (And.intro (a4.tr x5.ou) (And.intro (x6.ms hm) x6.lo))
            by_cases z3 : k = 3
            · have g3 : nI k = 3 := by rw [z3]; rfl
              have g1 : ¬ nI k = 1 := fun z => by rw [(nI_eq (b := 1) (by omega) (by omega)).mp z] at z3; cases z3
              have g2 : ¬ nI k = 2 := fun z => by rw [(nI_eq (b := 2) (by omega) (by omega)).mp z] at z3; cases z3
              have hT2 := x5.T a2
              rw [if_pos g3, nu_boardWorth (x5.cs hc1) g.1 hT2.2.2, qe_rI_e, x3, x4, nu_effectOf hR hC (hT2.2.2 R C hR hC), qe_rI_e, if_neg g1, if_neg g2, y3, iB_x]
              exact ⟨_, _, _, rfl, rfl, fr⟩
            · have g3 : ¬ nI k = 3 := fun z => z3 ((nI_eq (b := 3) (by omega) (by omega)).mp z)
              rw [if_neg g3]
              by_cases z1 : k = 1
              · have g1 : nI k = 1 := by rw [z1]; rfl
                rw [if_pos g1, if_pos g1, x3, y1]
                exact ⟨_, _, _, rfl, rfl, fr⟩
              · have g1 : ¬ nI k = 1 := fun z => z1 ((nI_eq (b := 1) (by omega) (by omega)).mp z)
                have g2 : nI k = 2 := by rw [show k = 2 by omega]; rfl
                rw [if_neg g1, if_neg g1, if_pos g2, x4, y2]
                exact ⟨_, _, _, rfl, rfl, fr⟩
        by_cases q : nI j = 1
        · rw [if_pos q, if_pos q]
          obtain ⟨r, mc2, mm1, x1, x2, x3⟩ := fin 1
          rw [x1, x2]
          exact ⟨_, _, _, rfl, rfl, x3⟩
        · rw [if_neg q, if_neg q]
          obtain ⟨r, mc2, mm1, x1, x2, x3⟩ := fin 0
          rw [x1, x2]
          exact ⟨_, _, _, rfl, rfl, x3⟩
      · rw [mt_in0 (a := 1) (b := 3) (n := 1) (k := 3) rfl rfl (by omega) (by omega) hu, qe_rI_e, if_pos rfl]
        by_cases q1 : u < 1
        · rw [if_pos q1]
          exact no rfl rfl
        · rw [if_neg q1, if_pos (hu.resolve_left q1)]
          exact no rfl rfl
  · rw [mt_in0 (a := 0) (b := 1) (n := 0) (k := 1) rfl rfl (by omega) (by omega) h2, qe_rI_e, if_pos rfl]
    by_cases q : v < 0
    · rw [if_pos q]
      exact no rfl rfl
    · rw [if_neg q, if_pos (h1.resolve_left q)]
      exact no rfl rfl
/-- acts with the class's play -/
def rdA (FT FM : qm_M → Option qm_R) : Prop := ∀ mc mm s, cs mc s → cvPl mc → ms mm s → gd s → ∃ r s1 mc1 mm1, FT mc = some (some r, mc1) ∧ FM mm = some (some r, mm1) ∧ cs mc1 s1 ∧ cvPl mc1 ∧ ms mm1 s1 ∧ gd s1 ∧ (∀ a, 59 < a → mc1.1 a = mc.1 a ∧ mc1.2 a = mc.2 a) ∧ lo_fr mm mm1
theorem cvPl.hi {m m1 : qm_M} (h : cvPl m) (e : ∀ a, 48 ≤ a → a ≤ 59 → m1.1 a = m.1 a) : cvPl m1 := by
  have hR : ∀ {o : Nat}, cvR m o → o = 49 ∨ o = 54 → cvR m1 o := fun {o} h ho => by
    obtain ⟨x1, x2⟩ := h
    refine ⟨by rw [e (o + 3) (by omega) (by omega)]; exact x1, ?_⟩
    rw [e o (by omega) (by omega)]
    rcases x2 with x2 | ⟨κ, l, y1, y2, y3, y4, y5⟩
    · exact Or.inl x2
    · exact Or.inr ⟨κ, l, y1, y2, y3, y4, y5.c (e (o + 1) (by omega) (by omega)) (e (o + 2) (by omega) (by omega))⟩
  obtain ⟨h1, h2, h3, h4⟩ := h
  refine ⟨hR h1 (Or.inl rfl), hR h2 (Or.inr rfl), fun x hx => by rw [e 59 (by omega) (by omega)]; exact h3 x hx, ?_⟩
  rw [e 48 (by omega) (by omega)]
  rcases h4 with h4 | ⟨r, c, K, L, y1, y2, ⟨⟨a1, a2, a3⟩, ⟨b1, b2, b3⟩, t⟩⟩
  · exact Or.inl h4
  · exact Or.inr ⟨r, c, K, L, y1, y2, ⟨by rw [e 49 (by omega) (by omega)]; exact a1, by rw [e 49 (by omega) (by omega)]; exact a2, a3.c (e 50 (by omega) (by omega)) (e 51 (by omega) (by omega))⟩, ⟨by rw [e 54 (by omega) (by omega)]; exact b1, by rw [e 54 (by omega) (by omega)]; exact b2, b3.c (e 55 (by omega) (by omega)) (e 56 (by omega) (by omega))⟩, fun R C hR hC => by rw [e 59 (by omega) (by omega)]; exact t R C hR hC⟩
theorem cells_ok {P : sP} (h : px_ok P) {R C : Nat} (hR : R < 2 ^ bR P) (hC : C < 2 ^ bC P) : px_ok (sS P 6 (P 6 ^^^ bn (sC R C 6))) := by
  obtain ⟨-, ⟨r1, r2, r3⟩, ⟨c1, c2, c3⟩⟩ := h.prl
  have hC64 : C < 64 := Nat.lt_of_lt_of_le hC (Nat.le_trans (Nat.pow_le_pow_right (by omega) c3) (by decide))
  refine h.turn (fun i hi => ?_)
  have hi64 : i < 64 := by
    rcases Nat.lt_or_ge i 64 with z | z
    · exact z
    · rw [BitVec.getLsbD_of_ge _ _ z] at hi
      cases hi
  rw [nb_bn, sC_bit hC64 hi64 6 (by omega), Bool.and_eq_true, Bool.and_eq_true, decide_eq_true_iff] at hi
  obtain ⟨⟨h1, h2⟩, h3⟩ := hi
  have b1 : i / 6 < bR P := by
    by_cases z : i / 6 < bR P
    · exact z
    · rw [Nat.testBit_lt_two_pow (Nat.lt_of_lt_of_le hR (Nat.pow_le_pow_right (by omega) (by omega)))] at h2
      cases h2
  have b2 : i % 6 < bC P := by
    by_cases z : i % 6 < bC P
    · exact z
    · rw [Nat.testBit_lt_two_pow (Nat.lt_of_lt_of_le hC (Nat.pow_le_pow_right (by omega) (by omega)))] at h3
      cases h3
  exact ⟨by omega, bR P, bC P, r1, c1, b1, b2, r3, c3⟩
/-- a move played -/
theorem act_move {mc mm : qm_M} {s : sT} (hc : cs mc s) (hv : cvPl mc) (hm : ms mm s) (g : gd s) {R C : Nat} (hR : R < 2 ^ bR s.1) (hC : C < 2 ^ bC s.1) (hR6 : R < 64) (hC6 : C < 64) :
    ∃ r s1 mc1 ma mm1, F_T_played (nI R) (nI C) mc = some (some (.int r), mc1) ∧ F_M_keepsAct mm = some (none, ma) ∧ (∀ j, j ≠ 2 → ma.1 112 j = mm.1 112 j) ∧ ma.2 113 6 = s.1 6 ∧ qm_sL ma 113 6 (s.1 6 ^^^ bn (sC R C 6)) = mm1 ∧ F_M_heads mm1 = some (some (.int r), mm1) ∧ cs mc1 s1 ∧ cvPl mc1 ∧ ms mm1 s1 ∧ gd s1 ∧ hi_fr mc mc1 ∧ lo_fr mm mm1 := by
  have hP := cells_ok g.1 hR hC
  obtain ⟨mc1, p1, p2, p3⟩ := nu_push hc g.2.1
  obtain ⟨ma, q1, q2, q3, q4⟩ := mt_keepsAct hm g.2.1
  have c6 : mc1.2 1 6 = s.1 6 := cs_h (s := (s.1, st_past s.1 s.2.1, s.2.2)) p2
  have hcs : cs (qm_sL mc1 1 6 (s.1 6 ^^^ bn (sC R C 6))) (st_act s (sS s.1 6 (s.1 6 ^^^ bn (sC R C 6)))) := p2.setH _
  have hms : ms (qm_sL ma 113 6 (s.1 6 ^^^ bn (sC R C 6))) (st_act s (sS s.1 6 (s.1 6 ^^^ bn (sC R C 6)))) := q2.set _
  have hh := p3.tr (hi_fr.L mc1 (o := 1) (j := 6) (x := s.1 6 ^^^ bn (sC R C 6)) (by omega))
  refine ⟨_, _, _, ma, _, ?_, q1, fun j hj => by rw [q3]; exact me_oth _ _ _ _ (Or.inr hj), q2.2.1 6 (by omega), rfl, mt_heads hms.2.1, hcs, hv.hi (fun a h1 _ => hh.1 a (by omega)), hms, g.act hP, hh, (mt_keepsAct_lo q3 q4).tr (lo_fr.L _ (by omega))⟩
  unfold F_T_played X_T_played_e
  rw [p1, qe_rV_e, nu_bitsOf hR6 hC6, qe_rL_e]
  dsimp only
  rw [c6, nu_headsShown hcs, qe_rI_e]
/-- the greatest of a set -/
def g6 (S : Nat) : Nat → Nat
  | 0 => 0
  | k + 1 => if S.testBit k = true then k else g6 S k
theorem g6_chk : (List.range 64).all (fun S => (S == 0) || decide (g6 S 6 = Nat.log2 S ∧ Nat.log2 S < 6)) = true := by decide +kernel
theorem nu_greatest {S : Nat} (h0 : 0 < S) (h : S < 64) (m : qm_M) : F_Pl_greatestOf (nI S) m = some (some (.int (nI (Nat.log2 S))), m) ∧ Nat.log2 S < 6 := by
  have c := List.all_eq_true.mp g6_chk S (List.mem_range.mpr h)
  rw [Bool.or_eq_true] at c
  have c2 : g6 S 6 = Nat.log2 S ∧ Nat.log2 S < 6 := by
    rcases c with c | c
    · have : S = 0 := by simpa using c
      omega
    · exact of_decide_eq_true c
  refine ⟨?_, c2.2⟩
  obtain ⟨m1, h1, e⟩ := lpU (fun f k (m1 : qm_M) => L_Pl_greatestOf_4 f (nI S) (nI (g6 S k)) (nI k) m1) 6 (fun k m1 => m1 = m) (fun m1 => some (some (.int (nI (Nat.log2 S))), m1)) (fun f k m1 hk hI => by
      subst hI
      have e6 : nI k < (6 : Int32) := nI_lt (b := 6) hk (by omega)
      have hb := (nI_bit1 (a := S) (k := k) (by omega) (by omega)).2
      have es : g6 S (k + 1) = if S.testBit k = true then k else g6 S k := rfl
      refine ⟨m1, rfl, ?_⟩
      show L_Pl_greatestOf_4 (f + 1) (nI S) (nI (g6 S k)) (nI k) m1 = _
      rw [le_Pl_greatestOf_4]
      unfold X_Pl_greatestOf_4
      rw [if_pos e6, nI_1, es]
      cases q : S.testBit k with
      | true => rw [if_neg (fun z => by rw [hb.mp z] at q; cases q), if_pos rfl]
      | false => rw [if_pos (hb.mpr q), if_neg (by decide)]) (fun f m1 _ => by
      have e6 : ¬ nI 6 < (6 : Int32) := by decide
      show L_Pl_greatestOf_4 (f + 1) (nI S) (nI (g6 S 6)) (nI 6) m1 = _
      rw [le_Pl_greatestOf_4]
      unfold X_Pl_greatestOf_4
      rw [if_neg e6, c2.1]) 1000000 0 m (Nat.zero_le _) (by omega) rfl
  rw [h1] at e
  exact e
theorem w_play (v w : Int32) : rdA (F_T_play v w) (F_M_play v w) := by
  intro mc mm s hc hv hm g
  obtain ⟨hp, ⟨r1, r2, r3⟩, ⟨c1, c2, c3⟩⟩ := g.1.prl
  have hR := cs_i hc (k := 0) (by omega) r1
  have hC := cs_i hc (k := 1) (by omega) c1
  have m0 : F_M_manyOf (0 : Int32) mm = _ := mt_manyOf hm.2.1 (k := 0) (by omega) r1
  have m1 : F_M_manyOf (1 : Int32) mm = _ := mt_manyOf hm.2.1 (k := 1) (by omega) c1
  have p64 : ∀ n, n ≤ 6 → 2 ^ n ≤ 64 := fun n hn => Nat.le_trans (Nat.pow_le_pow_right (by omega) hn) (by decide)
  have pR := p64 _ r3
  have pC := p64 _ c3
  have qR := Nat.two_pow_pos (bR s.1)
  have qC := Nat.two_pow_pos (bC s.1)
  have sR : (nI (2 ^ bR s.1) - 1).toInt64 = lN (2 ^ bR s.1 - 1) := nI_m1L qR (by omega)
  have sC' : (nI (2 ^ bC s.1) - 1).toInt64 = lN (2 ^ bC s.1 - 1) := nI_m1L qC (by omega)
  have no : ∀ {A B : Option qm_R} {r : Int32}, A = some (some (.int r), mc) → B = some (some (.int r), mm) → ∃ r s1 mc1 mm1, A = some (some r, mc1) ∧ B = some (some r, mm1) ∧ cs mc1 s1 ∧ cvPl mc1 ∧ ms mm1 s1 ∧ gd s1 ∧ (∀ a, 59 < a → mc1.1 a = mc.1 a ∧ mc1.2 a = mc.2 a) ∧ lo_fr mm mm1 := fun h1 h2 => ⟨_, s, _, _, h1, h2, hc, hv, hm, g, fun _ _ => ⟨rfl, rfl⟩, lo_fr.rf mm⟩
  have rng : ∀ (x : Int32) {n : Nat}, 0 < n → n ≤ 64 → (∃ k, 0 < k ∧ k < n ∧ x = nI k) ∨ (¬ 0 < x ∨ ¬ x < nI n) ∧ (x < nI 1 ∨ nI (n - 1) < x) := fun x n h0 hn => by
    rcases nw_lt x (N := n) h0 (by omega) with ⟨k, hk, rfl⟩ | ⟨h1, h2⟩
    · by_cases z : k = 0
      · refine Or.inr ⟨Or.inl (by rw [z]; decide), Or.inl (by rw [z]; decide)⟩
      · exact Or.inl ⟨k, by omega, hk, rfl⟩
    · refine Or.inr ⟨h1.elim (fun z => Or.inl (fun y => ?_)) Or.inr, h2.elim (fun z => Or.inl ?_) Or.inr⟩
      · rw [Int32.lt_iff_toInt_lt] at z y
        omega
      · rw [Int32.lt_iff_toInt_lt] at z ⊢
        have i0 : (nI 0).toInt = 0 := by decide
        have i1 : (nI 1).toInt = 1 := by decide
        omega
  unfold F_T_play X_T_play_e F_M_play X_M_play_e
  rw [hR, hC, no_ishl1 (by omega), no_ishl1 (by omega), m0, qe_rI_e, no_ishl1 (by omega)]
  rcases rng v qR pR with ⟨R, R0, hR', rfl⟩ | ⟨h1, h2⟩
  · have e0 : (0 : Int32) < nI R := nI_lt (a := 0) R0 (by omega)
    rw [if_pos e0, if_pos (nI_lt hR' (by omega)), mt_in1 (j := R) (a := 1) (n := 1) (k := 2 ^ bR s.1 - 1) rfl rfl sR (by omega) (by omega) (by omega), qe_rI_e, if_neg n10, m1, qe_rI_e, no_ishl1 (by omega)]
    rcases rng w qC pC with ⟨C, C0, hC', rfl⟩ | ⟨h1, h2⟩
    · have f0 : (0 : Int32) < nI C := nI_lt (a := 0) C0 (by omega)
      obtain ⟨mc1, a1, a2, a3, a4⟩ := nu_tuneP hc g.1 hv
      have hc1 := a4.cs (by omega) hc
      obtain ⟨t1, -⟩ := nu_alR hp.b a2 (pfr.rf mc1) (S := R) (by omega)
      obtain ⟨-, t2⟩ := nu_alR hp.b a2 (pfr.rf mc1) (S := C) (by omega)
      obtain ⟨k1, k2, k3, k4⟩ := hp 0 (by omega)
      obtain ⟨l1, l2, l3, l4⟩ := hp 1 (by omega)
      have u1 : F_M_maySet (0 : Int32) (nI R) mm = _ := mt_maySet (m := mm) (v := 0) hm.2.1 (by omega) k1 k2 k3 k4 R0 (by omega)
      have u2 : F_M_maySet (1 : Int32) (nI C) mm = _ := mt_maySet (m := mm) (v := 1) hm.2.1 (by omega) l1 l2 l3 l4 C0 (by omega)
      obtain ⟨g1, g2⟩ := nu_greatest R0 (show R < 64 by omega) mc1
      obtain ⟨g3, g4⟩ := nu_greatest C0 (show C < 64 by omega) mc1
      have sh := nu_showsHeads hc1 g2 g4
      rw [if_pos f0, if_pos (nI_lt hC' (by omega)), a1, qe_rV_e, mt_in1 (j := C) (a := 1) (n := 1) (k := 2 ^ bC s.1 - 1) rfl rfl sC' (by omega) (by omega) (by omega), qe_rI_e, if_neg n10]
      unfold F_Pl_mayBe X_Pl_mayBe_e F_Pl_areSets X_Pl_areSets_e F_M_isMove X_M_isMove_e F_M_place_III X_M_place_III_e
      rw [t1, qe_rI_e, u1, qe_rI_e]
      have cant : ∀ {A B : Option qm_R}, A = some (some (.int (-2)), mc1) → B = some (some (.int (-2)), mm) → ∃ r s1 mc1 mm1, A = some (some r, mc1) ∧ B = some (some r, mm1) ∧ cs mc1 s1 ∧ cvPl mc1 ∧ ms mm1 s1 ∧ gd s1 ∧ (∀ a, 59 < a → mc1.1 a = mc.1 a ∧ mc1.2 a = mc.2 a) ∧ lo_fr mm mm1 := fun h1 h2 => ⟨_, s, _, _, h1, h2, hc1, a3, hm, g, fun a ha => a4 a (Or.inr ha), lo_fr.rf mm⟩
      by_cases q1 : al (bK s.1 0) (bL s.1 0) R = true
      · rw [if_pos q1, if_neg n10, if_neg n10, t2, qe_rI_e, u2, qe_rI_e]
        by_cases q2 : al (bK s.1 1) (bL s.1 1) C = true
        · rw [if_pos q2, if_neg n10, if_neg n10, qe_rI_e, if_neg n10, g1, qe_rI_e, g3, qe_rI_e, sh, qe_rI_e, mt_greatest R0 (by omega), qe_rI_e, mt_greatest C0 (by omega), qe_rI_e, qe_rI_e, nI_6, mt_has _ (by omega), qe_rI_e, hm.2.1 6 (by omega)]
          by_cases q3 : (nb (s.1 6)).getLsbD (6 * Nat.log2 R + Nat.log2 C) = true
          · have nb1 : qm_ni .boolean 1 = true := rfl
            obtain ⟨r, s1, mc2, ma, mm1, y1, y2, y3, y4, y5, y6, y7, y8, y9, y10, y11, y12⟩ := act_move hc1 a3 hm g hR' hC' (by omega) (by omega)
            rw [if_pos q3, nb1, qe_b_e, qe_rI_e, if_neg n10, y1, qe_rI_e, if_neg n10, qe_rI_e, if_neg n10, y2, qe_rV_e, mt_cellsOf (by omega) (by omega), qe_rL_e, y4]
            dsimp only
            rw [y5, y6, qe_rI_e]
            exact ⟨_, _, _, _, rfl, rfl, y7, y8, y9, y10, fun a ha => ⟨(y11.1 a (by omega)).trans (a4 a (Or.inr ha)).1, (y11.2 a (by omega)).trans (a4 a (Or.inr ha)).2⟩, y12⟩
          · have nb0 : qm_ni .boolean 0 = true := rfl
            rw [if_neg q3, nb0, qe_b_e, qe_rI_e, if_pos rfl, if_pos rfl, qe_rI_e, if_pos rfl]
            exact cant rfl rfl
        · rw [if_neg q2, if_pos rfl, if_pos rfl, qe_rI_e, if_pos rfl, qe_rI_e, if_pos rfl, qe_rI_e, if_pos rfl]
          exact cant rfl rfl
      · rw [if_neg q1, if_pos rfl, if_pos rfl, qe_rI_e, if_pos rfl, qe_rI_e, if_pos rfl, qe_rI_e, if_pos rfl]
        exact cant rfl rfl
    · rw [mt_in0 (a := 1) (n := 1) (k := 2 ^ bC s.1 - 1) rfl sC' (by omega) (by omega) h2, qe_rI_e, if_pos rfl]
      by_cases q : 0 < w
      · rw [if_pos q, if_neg (h1.resolve_left (fun z => z q))]
        exact no rfl rfl
      · rw [if_neg q]
        exact no rfl rfl
  · rw [mt_in0 (a := 1) (n := 1) (k := 2 ^ bR s.1 - 1) rfl sR (by omega) (by omega) h2, qe_rI_e, if_pos rfl]
    by_cases q : 0 < v
    · rw [if_pos q, if_neg (h1.resolve_left (fun z => z q))]
      split
      · exact no rfl rfl
      · exact no rfl rfl
    · rw [if_neg q]
      exact no rfl rfl
theorem w_answer : rdA F_T_answer F_M_answer := by
  intro mc mm s hc hv hm g
  obtain ⟨mc1, a1, a2, a3, a4⟩ := nu_tuneP hc g.1 hv
  have hc1 := a4.cs (by omega) hc
  have fin : ∀ (x : Int32) (mc2 mm1 : qm_M) (R C : Nat), (R < 2 ^ bR s.1 ∧ C < 2 ^ bC s.1 ∧ R < 64 ∧ C < 64) → (mc2.1 48 4 = nI R ∧ mc2.1 48 5 = nI C) → (mm1.1 112 36 = nI R ∧ mm1.1 112 37 = nI C) → pfr mc1 mc2 → ffr mm mm1 → (x = 0 ∨ x = 1) → ∃ r s1 mc3 mm2, L_T_answer_56 x mc2 = some (some r, mc3) ∧ L_M_answer_23 x mm1 = some (some r, mm2) ∧ cs mc3 s1 ∧ cvPl mc3 ∧ ms mm2 s1 ∧ gd s1 ∧ (∀ a, 59 < a → mc3.1 a = mc.1 a ∧ mc3.2 a = mc.2 a) ∧ lo_fr mm mm2 := by
    intro x mc2 mm1 R C ⟨h1, h2, h3, h4⟩ ⟨h5, h6⟩ ⟨h7, h8⟩ h9 h10 hx
    obtain ⟨r, s1, mc3, ma, mm2, y1, y2, y3, y4, y5, y6, y7, y8, y9, y10, y11, y12⟩ := act_move (h9.cs hc1) (h9.cv a3) (h10.ms hm) g h1 h2 h3 h4
    unfold L_T_answer_56 X_T_answer_56 L_M_answer_23 X_M_answer_23
    rw [h5, h6, y1, qe_rI_e, y2, qe_rV_e, y3 36 (by decide), y3 37 (by decide), h7, h8, mt_cellsOf h3 h4, qe_rL_e, y4]
    dsimp only
    rw [y5]
    have fr : ∀ a, 59 < a → mc3.1 a = mc.1 a ∧ mc3.2 a = mc.2 a := fun a ha => ⟨((y11.1 a (by omega)).trans (h9.ou a (Or.inr ha)).1).trans (a4 a (Or.inr ha)).1, ((y11.2 a (by omega)).trans (h9.ou a (Or.inr ha)).2).trans (a4 a (Or.inr ha)).2⟩
    rcases hx with rfl | rfl
    · rw [if_pos rfl]
      exact ⟨_, _, _, _, rfl, rfl, y7, y8, y9, y10, fr, h10.lo.tr y12⟩
    · rw [if_neg n10]
      exact ⟨_, _, _, _, rfl, rfl, y7, y8, y9, y10, fr, h10.lo.tr y12⟩
  unfold F_T_answer X_T_answer_e F_M_answer X_M_answer_e
  rw [a1, qe_rV_e]
  rcases w_find hc1 a2 hm g.1 1 0 with ⟨mc2, mm1, x1, x2, x3, x4⟩ | ⟨R, C, mc2, mm1, hb, x1, x2, x3, ⟨x4, x5, -⟩, x6, x7⟩
  · rw [x1, qe_rI_e, if_pos rfl, x2, qe_rI_e, if_pos rfl]
    unfold L_T_answer_32 X_T_answer_32
    rw [if_pos rfl]
    rcases w_find (x3.cs hc1) (x3.T a2) (x4.ms hm) g.1 0 0 with ⟨mc3, mm2, y1, y2, y3, y4⟩ | ⟨R, C, mc3, mm2, hb, y1, y2, y3, ⟨y4, y5, -⟩, y6, y7⟩
    · rw [y1, qe_rI_e, if_pos rfl, y2, qe_rI_e, if_pos rfl]
      have h3 := x3.tr y3
      have h4 := x4.tr y4
      exact ⟨_, s, _, _, rfl, rfl, h3.cs hc1, h3.cv a3, h4.ms hm, g, fun a ha => ⟨(h3.ou a (Or.inr ha)).1.trans (a4 a (Or.inr ha)).1, (h3.ou a (Or.inr ha)).2.trans (a4 a (Or.inr ha)).2⟩, h4.lo⟩
    · rw [y1, qe_rI_e, if_neg n10, y2, qe_rI_e, if_neg n10]
      exact fin 0 mc3 mm2 R C hb y3 ⟨y4, y5⟩ (x3.tr y6) (x4.tr y7) (Or.inl rfl)
  · rw [x1, qe_rI_e, if_neg n10, x2, qe_rI_e, if_neg n10]
    unfold L_T_answer_32 X_T_answer_32
    rw [if_neg n10]
    exact fin 1 mc2 mm1 R C hb x3 ⟨x4, x5⟩ x6 x7 (Or.inr rfl)
