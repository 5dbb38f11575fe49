/-! inverses of grids: both -/
/-- an act of both that uses the class's steps -/
def act3 (FT FM : qm_M → Option qm_R) : Prop := ∀ mc mm s, cs mc s → ms mm s → gd s → ∃ r s1 mc1 mm1, FT mc = some (some (.int r), mc1) ∧ FM mm = some (some (.int r), mm1) ∧ cs mc1 s1 ∧ ms mm1 s1 ∧ gd s1 ∧ ((∀ a, 45 < a → a ≠ 67 → a ≠ 69 → mc1.1 a = mc.1 a) ∧ ∀ a, 45 < a → a ≠ 67 → a ≠ 68 → mc1.2 a = mc.2 a) ∧ lo_fr mm mm1
theorem w_invert : act3 F_T_invert F_M_invert := by
  intro mc mm s hc hm g
  obtain ⟨r0, c0, k1, k2, l1, l2, R, C, h1, h2, h3⟩ := id g.1
  have e0 := h2.2.2.2.2.2.2.1
  have e1 := h2.2.2.2.2.2.2.2
  unfold F_T_invert X_T_invert_e F_M_invert X_M_invert_e
  have f0 : mc.1 1 8 = nI R := cs_g hc (k := 0) (by omega) e0
  have f1 : mc.1 1 9 = nI C := cs_g hc (k := 1) (by omega) e1
  have hE : (lg_cmp (mm.2 113 15) (mm.2 113 16) = 0) ↔ R = C := by
    rw [hm.2.1 15 (by omega), hm.2.1 16 (by omega), e0, e1, lN_cmpE (by omega) (by omega)]
  have hE2 : (nI R = nI C) ↔ R = C := nI_eq (by omega) (by omega)
  rw [f0, f1]
  by_cases q : R = C
  · subst q
    have hn : 0 < R ∧ R ≤ 4 := by omega
    obtain ⟨mc1, a1, a2, a3⟩ := nu_besideUnit hc e0 e1 hn
    obtain ⟨mm1, b1, b2, b3, b4, b5⟩ := mt_laysForm hm.2.1 e0 e1 hn hn
    have hm1 := b5.ms hm
    obtain ⟨mm2, d1, d2, d3⟩ := mt_unit_loop hm1.1.1 hn b3 b4 (gG s.1 R R) R 1000000 0 mm1 rfl (Nat.zero_le _) (by omega) (fun r c hr hc => by
      unfold gU
      rw [if_neg (by omega)]
      exact b2 r c hr hc) (gQ.rf mm1)
    have hm2 := d3.F.m.ms hm1
    obtain ⟨mm3, c1, c2, c3⟩ := mt_clears (N := R) hm2.1.1 hn.2 (by omega) d2 (by rw [d3.1]; exact b3)
    have hm3 := c3.m.ms hm2
    have hle := gs_run_le (R := R) (A := gU (gG s.1 R R) R R) R
    have d1' : L_M_invert_27 1000000 0 mm1 = _ := d1
    rw [if_pos (hE2.mpr rfl), if_pos (hE.mpr rfl), a1, qe_rI_e, b1, qe_rV_e, d1', c1, qe_rV_e, c2.2.1, c2.2.2.1]
    have lo3 : lo_fr mm mm3 := (b5.lo.tr d3.F.m.lo).tr c3.m.lo
    by_cases y : (gs_run R (gU (gG s.1 R R) R R) R).2.1 = R
    · obtain ⟨mc2, p1, p2, p3⟩ := nu_push (a3.cs hc) g.2.1
      obtain ⟨mm4, t1, t2, t3, t4⟩ := mt_keepsAct hm3 g.2.1
      have hcM : cM mc2 R (gs_run R (gU (gG s.1 R R) R R) R).1 := fun r c hr hc => by rw [p3.2 68 (by omega)]; exact a2.1 r c hr hc
      obtain ⟨mc3, u1, u2, u3⟩ := nu_inv47 hn e0 e1 (st_past s.1 s.2.1) s.2.2 (T := gs_run R (gU (gG s.1 R R) R R) R) R 1000000 0 mc2 rfl (Nat.zero_le _) (by omega) (by rw [sI_0]; exact p2) hcM
      have h17' : mm4.1 112 17 = nI R := by rw [t3, me_1I, if_pos rfl, if_neg (by decide)]; exact c2.2.1
      have h18' : mm4.1 112 18 = nI R := by rw [t3, me_1I, if_pos rfl, if_neg (by decide), c3.2.2.2, d3.1]; exact b4
      obtain ⟨mm5, v1, v2, v3, v4⟩ := mt_inv85 hn h17' h18' (T := gs_run R (gU (gG s.1 R R) R R) R) (P := s.1) (fun r c hr hc => by rw [t4 127 (by omega)]; exact c2.1 r c hr hc) R 1000000 0 mm4 rfl (Nat.zero_le _) (by omega) (by rw [sI_0]; exact t2.2.1) rfl (fun _ _ => rfl)
      have hms : ms mm5 (st_act s (sI s.1 R (gs_run R (gU (gG s.1 R R) R R) R).1 R 0)) := t2.now v3 v4 v2
      rw [if_pos y, if_neg n10, p1, qe_rV_e, if_neg (nI_nlt (by omega) (by omega)), t1, qe_rV_e]
      refine ⟨1, st_act s (sI s.1 R (gs_run R (gU (gG s.1 R R) R R) R).1 R 0), mc3, mm5, u1, v1, u2, hms, g.act (g.1.inv _ _ _ _), ⟨fun a z1 z2 z3 => ?_, fun a z1 z2 z3 => ?_⟩, (lo3.tr (mt_keepsAct_lo t3 t4)).tr ⟨fun a _ => by rw [v3], fun a ha => v4 a (by omega)⟩⟩
      · rw [u3.1 a z1, p3.1 a z1, a3.1 a z2 z3]
      · rw [u3.2 a z1, p3.2 a z1, a3.2 a z2 z3]
    · rw [if_neg y, if_pos rfl, if_pos (nI_lt (by omega) (by omega))]
      exact ⟨_, s, mc1, mm3, rfl, rfl, a3.cs hc, hm3, g, ⟨fun a _ z2 z3 => a3.1 a z2 z3, fun a _ z2 z3 => a3.2 a z2 z3⟩, lo3⟩
  · rw [if_neg (fun z => q (hE2.mp z)), if_neg (fun z => q (hE.mp z))]
    exact ⟨_, s, mc, mm, rfl, rfl, hc, hm, g, ⟨fun _ _ _ _ => rfl, fun _ _ _ _ => rfl⟩, lo_fr.rf mm⟩
