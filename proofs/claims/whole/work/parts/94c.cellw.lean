/-! cell, as both answer -/
theorem and_e {x : nb_F} {k : Nat} (hk : k < 64) : x &&& nb_e k = 0 ↔ x.getLsbD k = false := by
  constructor
  · intro h
    have e := congrArg (fun y : nb_F => y.getLsbD k) h
    have e2 : (x &&& nb_e k).getLsbD k = (0 : nb_F).getLsbD k := e
    rw [BitVec.getLsbD_and, nb_e_bl hk, decide_eq_true rfl, Bool.and_true] at e2
    exact e2.trans BitVec.getLsbD_zero
  · intro h
    apply BitVec.eq_of_getLsbD_eq
    intro i hi
    rw [BitVec.getLsbD_and, nb_e_bl hi]
    by_cases q : i = k
    · rw [q, h]
      exact BitVec.getLsbD_zero.symm
    · rw [decide_eq_false q, Bool.and_false]
      exact BitVec.getLsbD_zero.symm
theorem nu_showsHeads {m : qm_M} {s : sT} (h : cs m s) {r c : Nat} (hr : r < 6) (hc : c < 6) : F_Ps_showsHeads 1 (nI r) (nI c) m = some (some (.int (if (nb (s.1 6)).getLsbD (6 * r + c) = true then 1 else 0)), m) := by
  unfold F_Ps_showsHeads X_Ps_showsHeads_e F_Ps_bitOf X_Ps_bitOf_e
  have e : qm_isO 1 5 = true := rfl
  rw [e, qe_b_e, qe_rL_e, nI_6, no_lshl1 (by omega), cs_h h]
  have e2 : s.1 6 &&& bn (nb_e (6 * r + c)) = bn (nb (s.1 6) &&& nb_e (6 * r + c)) := rfl
  rw [e2]
  have hb := and_e (x := nb (s.1 6)) (k := 6 * r + c) (by omega)
  by_cases q : (nb (s.1 6)).getLsbD (6 * r + c) = true
  · rw [if_neg (fun z => by rw [hb.mp ((no_zB _).mp z)] at q; cases q), if_pos q]
  · rw [if_pos ((no_zB _).mpr (hb.mpr (by simpa using q))), if_neg q]
theorem w_cell (v w u : Int32) : rdQ (F_T_cell v w u) (F_M_cell v w u) := by
  intro mc mm s hc hv hm g
  obtain ⟨hp, ⟨r1, r2, r3⟩, ⟨c1, c2, c3⟩⟩ := g.1.prl
  unfold F_T_cell X_T_cell_e F_M_cell X_M_cell_e
  rcases nu_hasCell hc r1 c1 ⟨by omega, r3⟩ ⟨by omega, c3⟩ v w with ⟨i, j, hi, hj, rfl, rfl, e⟩ | ⟨e, q⟩
  · rw [e, qe_rI_e, if_neg n10, mt_isCell1 hm.2.1 r1 c1 ⟨by omega, r3⟩ ⟨by omega, c3⟩ hi hj, qe_rI_e, if_neg n10]
    rcases nw_lt u (N := 3) (by omega) (by omega) with ⟨k, hk, rfl⟩ | ⟨h1, h2⟩
    · have e2 : ¬ (2 : Int32) < nI k := nI_nlt (a := 2) (b := k) (by omega) (by omega)
      have t0 : (nI k).toInt = 0 ↔ k = 0 := nI_tI (k := 0) (by omega)
      have t1 : (nI k).toInt = 1 ↔ k = 1 := nI_tI (k := 1) (by omega)
      have t2 : (nI k).toInt = 2 ↔ k = 2 := nI_tI (k := 2) (by omega)
      rw [if_neg (nI_pos (by omega)), if_neg e2]
      by_cases k2 : k = 2
      · have ek : nI k = 2 := by rw [k2]; rfl
        have y0 : ¬ (nI k).toInt = 0 := fun z => by have := t0.mp z; omega
        have y1 : ¬ (nI k).toInt = 1 := fun z => by have := t1.mp z; omega
        rw [if_pos ek, nu_showsHeads hc (by omega) (by omega), qe_rI_e, if_neg y0, if_neg y1, if_pos (t2.mpr k2)]
        unfold F_M_place_III X_M_place_III_e
        rw [qe_rI_e, nI_6, mt_has _ (by omega), qe_rI_e, hm.2.1 6 (by omega)]
        by_cases q : (nb (s.1 6)).getLsbD (6 * i + j) = true
        · rw [if_pos q, if_neg n10]
          exact ⟨_, _, _, rfl, rfl, hv, ou.rf _ _ mc, hm, lo_fr.rf mm⟩
        · rw [if_neg q, if_pos rfl]
          exact ⟨_, _, _, rfl, rfl, hv, ou.rf _ _ mc, hm, lo_fr.rf mm⟩
      · have ek : ¬ nI k = 2 := fun z => k2 ((nI_eq (b := 2) (by omega) (by omega)).mp z)
        obtain ⟨mc1, a1, a2, a3, a4⟩ := nu_tuneP hc g.1 hv
        have pi := (p2_6 (show i < 6 by omega)).2.2
        have pj := (p2_6 (show j < 6 by omega)).2.2
        rw [if_neg ek, a1, qe_rV_e, no_ishl1 (by omega), no_ishl1 (by omega), nu_effectOf pi pj (a2.2.2 _ _ pi pj), qe_rI_e]
        by_cases k0 : k = 0
        · obtain ⟨mm1, b1, b2, b3⟩ := mt_laysWorths hm.2.1 hp
          rw [if_pos (t0.mpr k0), b1, qe_rV_e, mt_worthOf (b3.ms hm).1.1 b2 (by omega) (by omega), qe_rI_e]
          exact ⟨_, _, _, rfl, rfl, a3, a4, b3.ms hm, b3.lo⟩
        · obtain ⟨mm1, b1, b2⟩ := mt_excludedOf hm.2.1 hp (r := i) (c := j) (by omega) (by omega)
          rw [if_neg (fun z => k0 (t0.mp z)), if_pos (t1.mpr (by omega)), b1, qe_rI_e]
          exact ⟨_, _, _, rfl, rfl, a3, a4, b2.lcf.ms hm, b2.lcf.lo⟩
    · have n0 : ∀ k : Nat, k < 3 → u.toInt ≠ (k : Int) := fun k hk z => by
        have eu : u = nI k := Int32.toInt_inj.mp (z.trans ((nI_tI (w := k) (k := k) (by omega)).mpr rfl).symm)
        rw [eu] at h1
        rcases h1 with h1 | h1
        · exact nI_pos (by omega) h1
        · exact h1 (nI_lt hk (by omega))
      have z0 : ¬ u.toInt = 0 := n0 0 (by omega)
      have z1 : ¬ u.toInt = 1 := n0 1 (by omega)
      have z2 : ¬ u.toInt = 2 := n0 2 (by omega)
      rw [if_neg z0, if_neg z1, if_neg z2]
      by_cases q : u < 0
      · rw [if_pos q]
        exact ⟨_, _, _, rfl, rfl, hv, ou.rf _ _ mc, hm, lo_fr.rf mm⟩
      · have h3 : (2 : Int32) < u := h2.resolve_left q
        rw [if_neg q, if_pos h3]
        exact ⟨_, _, _, rfl, rfl, hv, ou.rf _ _ mc, hm, lo_fr.rf mm⟩
  · rw [e, qe_rI_e, if_pos rfl, mt_isCell0 hm.2.1 r1 c1 ⟨by omega, r3⟩ ⟨by omega, c3⟩ q, qe_rI_e, if_pos rfl]
    exact ⟨_, _, _, rfl, rfl, hv, ou.rf _ _ mc, hm, lo_fr.rf mm⟩
