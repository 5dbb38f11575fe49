/-! cell, as both answer -/
theorem and_e {x : nb_F} {k : Nat} (hk : k < 64) : x &&& nb_e k = 0 ↔ x.getLsbD k = false := by
  constructor
  · intro h
    have e := congrArg (fun y : nb_F => y.getLsbD k) h
    have e2 : (x &&& nb_e k).getLsbD k = (0 : nb_F).getLsbD k := e
    rw [BitVec.getLsbD_and, nb_e_bl hk, decide_eq_true rfl, Bool.and_true] at e2
    exact e2.trans BitVec.getLsbD_zero
  · intro h
    apply BitVec.eq_of_getLsbD_eq
    intro i hi
    rw [BitVec.getLsbD_and, nb_e_bl hi]
    by_cases q : i = k
    · rw [q, h]
      exact BitVec.getLsbD_zero.symm
    · rw [decide_eq_false q, Bool.and_false]
      exact BitVec.getLsbD_zero.symm
theorem nu_showsHeads {m : qm_M} {s : sT} (h : cs m s) {r c : Nat} (hr : r < 6) (hc : c < 6) : F_Ps_showsHeads 1 (nI r) (nI c) m = some (some (.int (if (nb (s.1 6)).getLsbD (6 * r + c) = true then 1 else 0)), m) := by
  unfold F_Ps_showsHeads X_Ps_showsHeads_e F_Ps_bitOf X_Ps_bitOf_e
  have e : qm_isO 1 5 = true := rfl
  rw [e, qe_b_e, qe_rL_e, nI_6, no_lshl1 (by omega), cs_h h]
  have e2 : s.1 6 &&& bn (nb_e (6 * r + c)) = bn (nb (s.1 6) &&& nb_e (6 * r + c)) := rfl
  rw [e2]
  have hb := and_e (x := nb (s.1 6)) (k := 6 * r + c) (by omega)
  by_cases q : (nb (s.1 6)).getLsbD (6 * r + c) = true
  · rw [if_neg (fun z => by rw [hb.mp ((no_zB _).mp z)] at q; cases q), if_pos q]
  · rw [if_pos ((no_zB _).mpr (hb.mpr (by simpa using q))), if_neg q]
