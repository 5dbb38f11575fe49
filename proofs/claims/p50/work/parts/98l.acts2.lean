/-! the law's acts: coins played, the class's answer; printed by wip/p50/w/gen_acts2.py -/
theorem CI_tnd {m m1 : qm_M} {s : sT} {R C : Nat} (h : CI m s) (g : tnd R C 36 m m1) : CI m1 s := ⟨h.1.fr (fun a ha => g.2.1 a (Or.inl (by omega))) (fun a _ => by rw [g.2.2]), h.2.1.hi (fun a h1 h2 => g.2.1 a (Or.inl (by omega))), h.2.2⟩
theorem bd.u59 {m m1 : qm_M} {s : sT} (h : bd m s) (g : up59 m m1) : bd m1 s := ⟨⟨by rw [(g 113 (by omega)).1]; exact h.1.1, by rw [(g 113 (by omega)).1]; exact h.1.2⟩, fun j hj => ⟨by rw [(g 114 (by omega)).1]; exact (h.2.1 j hj).1, by rw [(g 115 (by omega)).1]; exact (h.2.1 j hj).2⟩, fun r c hr hc => by rw [(g (117 + r) (by omega)).1]; exact h.2.2 r c hr hc⟩
theorem win_mem {s : sT} {a : Nat × Nat} (h : a ∈ mvA s (iB (tW s))) : iB (tW s ^^^ ef (bK s.1) (bL s.1) a.1 a.2) = 0 ∧ a ∈ mvA s (-1) := by
  unfold mvA mvr at h
  obtain ⟨r, q1, h⟩ := rg_mem.mp h
  obtain ⟨c, q2, h⟩ := rg_mem.mp h
  unfold mvc at h
  split at h
  · rename_i a0
    obtain ⟨S, q3, h⟩ := rg_mem.mp h
    unfold mvR at h
    split at h
    · rename_i a1
      obtain ⟨U, q4, h⟩ := rg_mem.mp h
      unfold mvC at h
      split at h
      · rename_i a2
        rw [Bool.and_eq_true] at a2
        have e := List.mem_singleton.mp h
        subst e
        refine ⟨(fit_w _ _).mp a2.1, ?_⟩
        unfold mvA mvr
        refine rg_mem.mpr ⟨r, q1, rg_mem.mpr ⟨c, q2, ?_⟩⟩
        unfold mvc
        rw [if_pos a0]
        refine rg_mem.mpr ⟨S, q3, ?_⟩
        unfold mvR
        rw [if_pos a1]
        refine rg_mem.mpr ⟨U, q4, ?_⟩
        unfold mvC
        rw [fit_m1, if_pos (by rw [Bool.true_and]; exact a2.2)]
        exact List.mem_singleton.mpr rfl
      · cases h
    · cases h
  · cases h
theorem tW_heads {s : sT} {R C : Nat} (hC : C < 64) : tW (st_heads s (sC R C 6)) = tW s ^^^ ef (bK s.1) (bL s.1) R C := by
  show hs (cf (bK s.1) (bL s.1)) (nb (s.1 6) ^^^ sC R C 6) 36 = _
  rw [hs_x, hs_move _ _ hC]
  rfl
theorem pw_b {a b : Nat} (hb : 1 ≤ b) : 0 < 1 + a % (2 ^ b - 1) ∧ 1 + a % (2 ^ b - 1) < 2 ^ b := by
  have h2 : 2 ^ 1 ≤ 2 ^ b := Nat.pow_le_pow_right (by omega) hb
  have h3 : a % (2 ^ b - 1) < 2 ^ b - 1 := Nat.mod_lt _ (by omega)
  omega
set_option maxRecDepth 100000 in
theorem lw_play {kp : pm_K} {d : Nat} {Q : Option Value → pm_H → Prop} {i N Kd L S : Nat} {A B : Nat → Nat} {m mB : qm_M} {s : sT} {H : pm_H} (hN : N < 2 ^ 31) (hl : lst A Kd m s H) (hk : kept A B Kd mB s H) (hL : H.length ≤ L) (hS : pm_sl H ≤ S)
    (cont : ∀ does A' m' s' H', lst A' Kd m' s' H' → kept A' B Kd mB s H' → (does = 0 ∨ does = 1 ∧ (st_undo s').1 = s.1 ∧ 1 ≤ s'.2.1.1) → H'.length ≤ L → pm_sl H' ≤ S → pm_W kp md_L_law (pm_X kp (d + 40)) 2000 40000 Q 853 [(3, .int 1), (8, .int does), (7, .ref (B 112)), (2, .ref (A' 112)), (6, .int (nI N)), (5, .int (nI i)), (4, .ref Kd), (1, .ref 0), (0, .ref 1000000)] [] H') :
    pm_W kp md_L_law (pm_X kp (d + 40)) 2000 40000 Q 632 [(8, .int 1), (7, .ref (B 112)), (6, .int (nI N)), (5, .int (nI i)), (3, .int 1), (2, .ref (A 112)), (4, .ref Kd), (1, .ref 0), (0, .ref 1000000)] [] H := by
  obtain ⟨hB, h, hb, h0, hK⟩ := hl
  obtain ⟨hp, ⟨r1, r2, r3⟩, ⟨c1, c2, c3⟩⟩ := h.2.2.1.prl
  have hN4 : N / 2 ^ 4 < 2 ^ 31 := by omega
  have hN10 : N / 2 ^ 10 < 2 ^ 31 := by omega
  have pR : 2 ^ bR s.1 ≤ 64 := Nat.pow_le_pow_right (n := 2) (by omega) r3
  have pC : 2 ^ bC s.1 ≤ 64 := Nat.pow_le_pow_right (n := 2) (by omega) c3
  obtain ⟨x0, xl⟩ := pw_b (a := N / 2 ^ 4) r2
  obtain ⟨y0, yl⟩ := pw_b (a := N / 2 ^ 10) c2
  have hcan := nu_can hb h.2.2.1 x0 (show (1 + N / 2 ^ 4 % (2 ^ bR s.1 - 1)) < 64 by omega) y0 (show (1 + N / 2 ^ 10 % (2 ^ bC s.1 - 1)) < 64 by omega)
  obtain ⟨H1, x1⟩ := lx_bii hB (fg_B_can (kp := kp) (d + 36)) hcan
  have f1 := xfr.of x1.2.1
  obtain ⟨fs0, hfs0⟩ := hb_o112 hB
  obtain ⟨fs0b, hfs0b⟩ := hb_o112 x1.1
  refine pq_cst rfl rfl ?_
  refine pq_ld 2 rfl rfl rfl ?_
  refine pq_cst rfl rfl ?_
  refine pq_bop rfl rfl ?_
  rw [show ((nI N).toUInt32 >>> (((Int32.ofInt 4) : Int32).toUInt32 &&& Int32.toUInt32 31)).toInt32 = nI (N / 2 ^ 4) from nI_ushr (k := 4) hN (by omega)]
  refine pq_cst rfl rfl ?_
  refine pq_ld 5 rfl rfl rfl ?_
  refine pq_get rfl (bH_of hB).1 rfl ?_
  refine pq_cst rfl rfl ?_
  refine pq_ial rfl (bH_of hB).2.1 (qm_in_ok rfl) ?_
  rw [(bd_gen hb).1]
  refine pq_bop rfl rfl ?_
  rw [show Int32.ofInt 1 <<< (nI (bR s.1) &&& 31) = nI (2 ^ bR s.1) from no_ishl1 (by omega)]
  refine pq_cst rfl rfl ?_
  refine pq_bop rfl rfl ?_
  rw [show nI (2 ^ bR s.1) - Int32.ofInt 1 = nI (2 ^ bR s.1 - 1) from nI_sub (b := 1) (by omega)]
  refine pq_dop rfl rfl (nI_ne0 (show 0 < 2 ^ bR s.1 - 1 by omega) (by omega)) ?_
  rw [rem_e hN4 (show 0 < 2 ^ bR s.1 - 1 by omega) (by omega)]
  refine pq_bop rfl rfl ?_
  rw [show Int32.ofInt 1 + nI (N / 2 ^ 4 % (2 ^ bR s.1 - 1)) = nI (1 + N / 2 ^ 4 % (2 ^ bR s.1 - 1)) from nI_add 1 _]
  refine pq_sto rfl rfl rfl ?_
  refine pq_cst rfl rfl ?_
  refine pq_ld 3 rfl rfl rfl ?_
  refine pq_cst rfl rfl ?_
  refine pq_bop rfl rfl ?_
  rw [show ((nI N).toUInt32 >>> ((((Int8.ofInt 10).toInt32) : Int32).toUInt32 &&& Int32.toUInt32 31)).toInt32 = nI (N / 2 ^ 10) from nI_ushr (k := 10) hN (by omega)]
  refine pq_cst rfl rfl ?_
  refine pq_ld 6 rfl rfl rfl ?_
  refine pq_get rfl (bH_of hB).1 rfl ?_
  refine pq_cst rfl rfl ?_
  refine pq_ial rfl (bH_of hB).2.1 (qm_in_ok rfl) ?_
  rw [(bd_gen hb).2]
  refine pq_bop rfl rfl ?_
  rw [show Int32.ofInt 1 <<< (nI (bC s.1) &&& 31) = nI (2 ^ bC s.1) from no_ishl1 (by omega)]
  refine pq_cst rfl rfl ?_
  refine pq_bop rfl rfl ?_
  rw [show nI (2 ^ bC s.1) - Int32.ofInt 1 = nI (2 ^ bC s.1 - 1) from nI_sub (b := 1) (by omega)]
  refine pq_dop rfl rfl (nI_ne0 (show 0 < 2 ^ bC s.1 - 1 by omega) (by omega)) ?_
  rw [rem_e hN10 (show 0 < 2 ^ bC s.1 - 1 by omega) (by omega)]
  refine pq_bop rfl rfl ?_
  rw [show Int32.ofInt 1 + nI (N / 2 ^ 10 % (2 ^ bC s.1 - 1)) = nI (1 + N / 2 ^ 10 % (2 ^ bC s.1 - 1)) from nI_add 1 _]
  refine pq_sto rfl rfl rfl ?_
  refine pq_ld 7 rfl rfl rfl ?_
  refine pq_ld 1 rfl rfl rfl ?_
  refine pq_ld 0 rfl rfl rfl ?_
  refine pq_clv rfl (Or.inl ⟨rfl, rfl⟩) rfl (Nat.le_of_ble_eq_true rfl) hfs0 (by decide +kernel) (Or.inl x1.2.2.2) x1.2.2.1 ?_
  refine pq_sto rfl rfl rfl ?_
  refine pq_ld 0 rfl rfl rfl ?_
  by_cases q : al (bK s.1 0) (bL s.1 0) (1 + N / 2 ^ 4 % (2 ^ bR s.1 - 1)) = true ∧ al (bK s.1 1) (bL s.1 1) (1 + N / 2 ^ 10 % (2 ^ bC s.1 - 1)) = true ∧ (nb (s.1 6)).getLsbD (6 * Nat.log2 (1 + N / 2 ^ 4 % (2 ^ bR s.1 - 1)) + Nat.log2 (1 + N / 2 ^ 10 % (2 ^ bC s.1 - 1))) = true
  · obtain ⟨m1, e1, g1⟩ := nu_turns hb (R := (1 + N / 2 ^ 4 % (2 ^ bR s.1 - 1))) (C := (1 + N / 2 ^ 10 % (2 ^ bC s.1 - 1))) (by omega) (by omega)
    rw [if_pos q]
    rw [if_pos q] at x1
    obtain ⟨H2, t1⟩ := lx_biiv x1.1 (fg_B_turns (kp := kp) (d + 39)) e1
    have hC1 := CI_tnd h g1
    have hb1 := bd_turns hb (show (1 + N / 2 ^ 10 % (2 ^ bC s.1 - 1)) < 64 by omega) g1
    obtain ⟨m2, a1, a2, a3⟩ : ∃ m2, F_T_play (nI (1 + N / 2 ^ 4 % (2 ^ bR s.1 - 1))) (nI (1 + N / 2 ^ 10 % (2 ^ bC s.1 - 1))) m1 = some (some (.int (sH (st_heads s (sC (1 + N / 2 ^ 4 % (2 ^ bR s.1 - 1)) (1 + N / 2 ^ 10 % (2 ^ bC s.1 - 1)) 6)).1)), m2) ∧ CI m2 (st_heads s (sC (1 + N / 2 ^ 4 % (2 ^ bR s.1 - 1)) (1 + N / 2 ^ 10 % (2 ^ bC s.1 - 1)) 6)) ∧ up59 m1 m2 := by
      rcases tc_play hC1 x0 xl y0 yl with ⟨-, z⟩ | ⟨z, -⟩
      · exact z
      · exact absurd q z
    obtain ⟨H3, p1⟩ := lx_cii t1.1 (fg_T_play (kp := kp) (d + 5)) a1
    have hb2 := hb1.u59 a3
    obtain ⟨H4, y1⟩ := lx_b p1.1 (fg_B_shown (kp := kp) (d + 39)) (nu_shown hb2 a2.2.2.1)
    have ff : xfr A H H4 := ((f1.tr (xfr.of t1.2.1) (Nat.le_of_eq x1.2.1.2.1.symm)).tr (xfr.of p1.2.1) (by rw [t1.2.1.2.1, x1.2.1.2.1]; exact Nat.le_refl _)).tr (xfr.of y1.2.1) (by rw [p1.2.1.2.1, t1.2.1.2.1, x1.2.1.2.1]; exact Nat.le_refl _)
    have lL : H4.length = H.length := by rw [y1.2.1.2.1, p1.2.1.2.1, t1.2.1.2.1, x1.2.1.2.1]
    have lS : pm_sl H4 = pm_sl H := by rw [y1.2.1.2.2, p1.2.1.2.2, t1.2.1.2.2, x1.2.1.2.2]
    obtain ⟨fs, hfs⟩ := hb_o0 t1.1
    obtain ⟨fs2, hfs2⟩ := hb_o112 p1.1
    refine pq_ifc rfl (fun z => absurd z (n10)) (fun _ => ?_)
    refine pq_ld 7 rfl rfl rfl ?_
    refine pq_ld 2 rfl rfl rfl ?_
    refine pq_ld 1 rfl rfl rfl ?_
    refine pq_clv rfl (Or.inl ⟨rfl, rfl⟩) rfl (Nat.le_of_ble_eq_true rfl) hfs0b (by decide +kernel) (Or.inl t1.2.2.2) t1.2.2.1 ?_
    refine pq_ld 9 rfl rfl rfl ?_
    refine pq_ld 2 rfl rfl rfl ?_
    refine pq_ld 1 rfl rfl rfl ?_
    refine pq_clv rfl (Or.inl ⟨rfl, rfl⟩) rfl (Nat.le_of_ble_eq_true rfl) hfs (by decide +kernel) (Or.inl p1.2.2.2) p1.2.2.1 ?_
    refine pq_ld 0 rfl rfl rfl ?_
    refine pq_ifc rfl (fun z => absurd z (n10)) (fun _ => ?_)
    refine pq_ld 7 rfl rfl rfl ?_
    refine pq_clv rfl (Or.inl ⟨rfl, rfl⟩) rfl (Nat.le_of_ble_eq_true rfl) hfs2 (by decide +kernel) (Or.inl y1.2.2.2) y1.2.2.1 ?_
    refine pq_goto rfl ?_
    refine pq_icm rfl (fun z => absurd z (fun z => z rfl)) (fun _ => ?_)
    refine pq_cst rfl rfl ?_
    refine pq_goto rfl ?_
    refine pq_sto rfl rfl rfl ?_
    refine pq_goto rfl ?_
    refine pq_sub (nx := 0) (a := 0) (b := 0) [0, 1, 4, 7, 5, 6, 8, 9, 10] rfl ?_
    exact cont 1 _ _ _ _ ⟨y1.1, a2, hb2, h0, hK.fr ff⟩ (hk.fr ff) (Or.inr ⟨rfl, st_back h.2.2.2.1 _⟩) (by omega) (by omega)
  · rw [if_neg q]
    rw [if_neg q] at x1
    obtain ⟨m2, a1, a2, a3⟩ : ∃ m2, F_T_play (nI (1 + N / 2 ^ 4 % (2 ^ bR s.1 - 1))) (nI (1 + N / 2 ^ 10 % (2 ^ bC s.1 - 1))) m = some (some (.int (-2)), m2) ∧ CI m2 s ∧ up59 m m2 := by
      rcases tc_play h x0 xl y0 yl with ⟨z, -⟩ | ⟨-, z⟩
      · exact absurd z q
      · exact z
    obtain ⟨H3, p1⟩ := lx_cii x1.1 (fg_T_play (kp := kp) (d + 5)) a1
    have ff : xfr A H H3 := f1.tr (xfr.of p1.2.1) (Nat.le_of_eq x1.2.1.2.1.symm)
    have lL : H3.length = H.length := by rw [p1.2.1.2.1, x1.2.1.2.1]
    have lS : pm_sl H3 = pm_sl H := by rw [p1.2.1.2.2, x1.2.1.2.2]
    obtain ⟨fs, hfs⟩ := hb_o0 x1.1
    refine pq_ifc rfl (fun _ => ?_) (fun z => absurd (rfl) z)
    refine pq_ld 9 rfl rfl rfl ?_
    refine pq_ld 2 rfl rfl rfl ?_
    refine pq_ld 1 rfl rfl rfl ?_
    refine pq_clv rfl (Or.inl ⟨rfl, rfl⟩) rfl (Nat.le_of_ble_eq_true rfl) hfs (by decide +kernel) (Or.inl p1.2.2.2) p1.2.2.1 ?_
    refine pq_ld 0 rfl rfl rfl ?_
    refine pq_ifc rfl (fun _ => ?_) (fun z => absurd (rfl) z)
    refine pq_cst rfl rfl ?_
    refine pq_icm rfl (fun z => absurd z (fun z => z rfl)) (fun _ => ?_)
    refine pq_cst rfl rfl ?_
    refine pq_goto rfl ?_
    refine pq_sto rfl rfl rfl ?_
    refine pq_goto rfl ?_
    refine pq_sub (nx := 0) (a := 0) (b := 0) [0, 1, 4, 7, 5, 6, 8, 9, 10] rfl ?_
    exact cont 0 _ _ _ _ ⟨p1.1, a2, hb.u59 a3, h0, hK.fr ff⟩ (hk.fr ff) (Or.inl rfl) (by omega) (by omega)
theorem w_le0 : pm_cnd .le (nI 0) 0 := @of_decide_eq_true _ (jb_dec _ _ _) rfl
theorem w_nle0 {n : Nat} (h : 0 < n) (hn : n < 2 ^ 31) : ¬ pm_cnd .le (nI n) 0 := fun z => absurd (show (0 : Int32) < nI n from nI_lt (a := 0) h hn) (Int32.not_lt.mpr z)
set_option maxRecDepth 100000 in
theorem lw_answer {kp : pm_K} {d : Nat} {Q : Option Value → pm_H → Prop} {i N Kd L S : Nat} {A B : Nat → Nat} {m mB : qm_M} {s : sT} {H : pm_H} (hN : N < 2 ^ 31) (hl : lst A Kd m s H) (hk : kept A B Kd mB s H) (hL : H.length ≤ L) (hS : pm_sl H ≤ S)
    (cont : ∀ does A' m' s' H', lst A' Kd m' s' H' → kept A' B Kd mB s H' → (does = 0 ∨ does = 1 ∧ (st_undo s').1 = s.1 ∧ 1 ≤ s'.2.1.1) → H'.length ≤ L → pm_sl H' ≤ S → pm_W kp md_L_law (pm_X kp (d + 40)) 2000 40000 Q 853 [(3, .int 1), (8, .int does), (7, .ref (B 112)), (2, .ref (A' 112)), (6, .int (nI N)), (5, .int (nI i)), (4, .ref Kd), (1, .ref 0), (0, .ref 1000000)] [] H') :
    pm_W kp md_L_law (pm_X kp (d + 40)) 2000 40000 Q 728 [(8, .int 1), (7, .ref (B 112)), (6, .int (nI N)), (5, .int (nI i)), (3, .int 1), (2, .ref (A 112)), (4, .ref Kd), (1, .ref 0), (0, .ref 1000000)] [] H := by
  obtain ⟨hB, h, hb, h0, hK⟩ := hl
  have hl0 := mvs_len h.2.2.1 0
  have hl1 := mvs_len h.2.2.1 1
  obtain ⟨m1, a1, a2, a3⟩ := tc_moves h (j := 1) (by omega)
  obtain ⟨H1, x1⟩ := lx_ci hB (fg_T_moves (kp := kp) (d + 5)) a1
  have h1 := h.ou a2 a3
  have hb1 := hb.ou a3
  obtain ⟨m2, b1, b2, b3⟩ := tc_moves h1 (j := 0) (by omega)
  obtain ⟨H2, x2⟩ := lx_ci x1.1 (fg_T_moves (kp := kp) (d + 5)) b1
  have h2 := h1.ou b2 b3
  have hb2 := hb1.ou b3
  obtain ⟨f0, hf0⟩ := hb_o0 hB
  obtain ⟨f1, hf1⟩ := hb_o0 x1.1
  obtain ⟨f2, hf2⟩ := hb_o0 x2.1
  have f12 : xfr A H H2 := (xfr.of x1.2.1).tr (xfr.of x2.2.1) (Nat.le_of_eq x1.2.1.2.1.symm)
  have l12 : H2.length = H.length := by rw [x2.2.1.2.1, x1.2.1.2.1]
  have s12 : pm_sl H2 = pm_sl H := by rw [x2.2.1.2.2, x1.2.1.2.2]
  have emp : mvs s 0 = [] → mvs s 1 = [] := fun z => by
    rw [eW_0] at z
    rw [eW_1]
    cases e : mvA s (iB (tW s)) with
    | nil => rfl
    | cons a l =>
      have := (win_mem (a := a) (by rw [e]; exact List.mem_cons_self)).2
      rw [z] at this
      cases this
  by_cases q0 : mvs s 0 = []
  · have q1 := emp q0
    obtain ⟨m3, c1, c2, c3⟩ := tc_move h2 (j := 0) (K := 0) (u := 1) (by omega) (by omega) (by omega)
    obtain ⟨m4, d1, d2, d3⟩ := tc_move (h2.ou c2 c3) (j := 0) (K := 0) (u := 2) (by omega) (by omega) (by omega)
    rw [q0] at c1 d1 x2
    rw [q1] at x1
    obtain ⟨H3, x3⟩ := lx_ciii x2.1 (fg_T_move (kp := kp) (d + 5)) c1
    obtain ⟨H4, x4⟩ := lx_ciii x3.1 (fg_T_move (kp := kp) (d + 5)) d1
    have h4 := (h2.ou c2 c3).ou d2 d3
    have hb4 := (hb2.ou c3).ou d3
    obtain ⟨m5, e1, e2, e3⟩ : ∃ m5, F_T_answer m4 = some (some (.int (-2)), m5) ∧ CI m5 s ∧ up59 m4 m5 := by
      rcases tc_answer h4 with ⟨-, -, z⟩ | ⟨a, z, -⟩ | ⟨-, a, z, -⟩
      · exact z
      · rw [q1] at z; cases z
      · rw [q0] at z; cases z
    obtain ⟨H5, p1⟩ := lx_c x4.1 (fg_T_answer (kp := kp) (d + 5)) e1
    obtain ⟨f3, hf3⟩ := hb_o0 x3.1
    obtain ⟨f5, hf5⟩ := hb_o0 x4.1
    have ff : xfr A H H5 := ((f12.tr (xfr.of x3.2.1) (Nat.le_of_eq l12.symm)).tr (xfr.of x4.2.1) (by rw [x3.2.1.2.1, l12]; exact Nat.le_refl _)).tr (xfr.of p1.2.1) (by rw [x4.2.1.2.1, x3.2.1.2.1, l12]; exact Nat.le_refl _)
    have lL : H5.length = H.length := by rw [p1.2.1.2.1, x4.2.1.2.1, x3.2.1.2.1, l12]
    have lS : pm_sl H5 = pm_sl H := by rw [p1.2.1.2.2, x4.2.1.2.2, x3.2.1.2.2, s12]
    have w_le : pm_cnd .le (nI ([] : List (Nat × Nat)).length) 0 := w_le0
    have a_le : pm_cnd .le (nI ([] : List (Nat × Nat)).length) 0 := w_le0
    have a_nne : ¬ pm_cnd .ne (nI ([] : List (Nat × Nat)).length) 0 := fun z => z rfl
    have w_e0 : pm_cnd .eq (nI ([] : List (Nat × Nat)).length) 0 := rfl
    refine pq_ld 7 rfl rfl rfl ?_
    refine pq_cst rfl rfl ?_
    refine pq_clv rfl (Or.inl ⟨rfl, rfl⟩) rfl (Nat.le_of_ble_eq_true rfl) hf0 (by decide +kernel) (Or.inl x1.2.2.2) x1.2.2.1 ?_
    refine pq_sto rfl rfl rfl ?_
    refine pq_ld 8 rfl rfl rfl ?_
    refine pq_cst rfl rfl ?_
    refine pq_clv rfl (Or.inl ⟨rfl, rfl⟩) rfl (Nat.le_of_ble_eq_true rfl) hf1 (by decide +kernel) (Or.inl x2.2.2.2) x2.2.2.1 ?_
    refine pq_sto rfl rfl rfl ?_
    refine pq_ld 9 rfl rfl rfl ?_
    refine pq_ld 1 rfl rfl rfl ?_
    refine pq_ifc rfl (fun _ => ?_) (fun z => absurd (w_le) z)
    refine pq_cst rfl rfl ?_
    refine pq_cst rfl rfl ?_
    refine pq_cst rfl rfl ?_
    refine pq_clv rfl (Or.inl ⟨rfl, rfl⟩) rfl (Nat.le_of_ble_eq_true rfl) hf2 (by decide +kernel) (Or.inl x3.2.2.2) x3.2.2.1 ?_
    refine pq_sto rfl rfl rfl ?_
    refine pq_ld 10 rfl rfl rfl ?_
    refine pq_ld 2 rfl rfl rfl ?_
    refine pq_ifc rfl (fun _ => ?_) (fun z => absurd (w_le) z)
    refine pq_cst rfl rfl ?_
    refine pq_cst rfl rfl ?_
    refine pq_cst rfl rfl ?_
    refine pq_clv rfl (Or.inl ⟨rfl, rfl⟩) rfl (Nat.le_of_ble_eq_true rfl) hf3 (by decide +kernel) (Or.inl x4.2.2.2) x4.2.2.1 ?_
    refine pq_sto rfl rfl rfl ?_
    refine pq_ld 2 rfl rfl rfl ?_
    refine pq_ifc rfl (fun _ => ?_) (fun z => absurd (a_le) z)
    refine pq_cst rfl rfl ?_
    refine pq_sto rfl rfl rfl ?_
    refine pq_ld 0 rfl rfl rfl ?_
    refine pq_ifc rfl (fun _ => ?_) (fun z => absurd (rfl) z)
    refine pq_ld 11 rfl rfl rfl ?_
    refine pq_clv rfl (Or.inl ⟨rfl, rfl⟩) rfl (Nat.le_of_ble_eq_true rfl) hf5 (by decide +kernel) (Or.inl p1.2.2.2) p1.2.2.1 ?_
    refine pq_ld 3 rfl rfl rfl ?_
    refine pq_ifc rfl (fun z => absurd z (a_nne)) (fun _ => ?_)
    refine pq_cst rfl rfl ?_
    refine pq_goto rfl ?_
    refine pq_icm rfl (fun z => absurd z (fun z => z rfl)) (fun _ => ?_)
    refine pq_ld 4 rfl rfl rfl ?_
    refine pq_ifc rfl (fun _ => ?_) (fun z => absurd (w_e0) z)
    refine pq_cst rfl rfl ?_
    refine pq_goto rfl ?_
    refine pq_sto rfl rfl rfl ?_
    refine pq_goto rfl ?_
    refine pq_sub (nx := 0) (a := 0) (b := 0) [0, 1, 6, 9, 7, 8, 10, 11, 12] rfl ?_
    exact cont 0 _ _ _ _ ⟨p1.1, e2, hb4.u59 e3, h0, hK.fr ff⟩ (hk.fr ff) (Or.inl rfl) (by omega) (by omega)
  · have a_pos : 0 < (mvs s 0).length := List.length_pos_iff.mpr q0
    have a_nle := w_nle0 a_pos (by omega)
    have a_ne : pm_cnd .ne (nI (mvs s 0).length) 0 := nI_ne0 a_pos (by omega)
    by_cases q1 : mvs s 1 = []
    · obtain ⟨a, l, ea⟩ : ∃ a l, mvs s 0 = a :: l := by
        cases e : mvs s 0 with
        | nil => exact absurd e q0
        | cons a l => exact ⟨a, l, rfl⟩
      have eg : (mvs s 0)[0]? = some a := by rw [ea]; rfl
      obtain ⟨-, -, aR, aC⟩ := mvA_mem h.2.2.1 (List.mem_of_getElem? (show (mvA s (-1))[0]? = some a by rw [← eW_0]; exact eg))
      obtain ⟨m3, c1, c2, c3⟩ := tc_move h2 (j := 0) (K := 0) (u := 1) (by omega) (by omega) (by omega)
      obtain ⟨m4, d1, d2, d3⟩ := tc_move (h2.ou c2 c3) (j := 0) (K := 0) (u := 2) (by omega) (by omega) (by omega)
      rw [eg] at c1 d1
      rw [q1] at x1
      have c1 : F_T_move 0 0 1 m2 = some (some (.int (nI a.1)), m3) := c1
      have d1 : F_T_move 0 0 2 m3 = some (some (.int (nI a.2)), m4) := d1
      obtain ⟨H3, x3⟩ := lx_ciii x2.1 (fg_T_move (kp := kp) (d + 5)) c1
      obtain ⟨H4, x4⟩ := lx_ciii x3.1 (fg_T_move (kp := kp) (d + 5)) d1
      have h4 := (h2.ou c2 c3).ou d2 d3
      have hb4 := (hb2.ou c3).ou d3
      obtain ⟨m5, e1, g1⟩ := nu_turns hb4 aR aC
      obtain ⟨H5, t1⟩ := lx_biiv x4.1 (fg_B_turns (kp := kp) (d + 39)) e1
      have h5 := CI_tnd h4 g1
      have hb5 := bd_turns hb4 aC g1
      obtain ⟨m6, k1, k2, k3⟩ : ∃ m6, F_T_answer m5 = some (some (.int 0), m6) ∧ CI m6 (st_heads s (sC a.1 a.2 6)) ∧ up59 m5 m6 := by
        rcases tc_answer h5 with ⟨z, -⟩ | ⟨b, z, -⟩ | ⟨-, b, z, w⟩
        · exact absurd z q0
        · rw [q1] at z; cases z
        · rw [eg] at z; cases z; exact w
      obtain ⟨H6, p1⟩ := lx_c t1.1 (fg_T_answer (kp := kp) (d + 5)) k1
      obtain ⟨f3, hf3⟩ := hb_o0 x3.1
      obtain ⟨f4, hf4⟩ := hb_o112 x4.1
      obtain ⟨f5, hf5⟩ := hb_o0 t1.1
      have l4 : H4.length = H.length := by rw [x4.2.1.2.1, x3.2.1.2.1, l12]
      have ff : xfr A H H6 := (((f12.tr (xfr.of x3.2.1) (Nat.le_of_eq l12.symm)).tr (xfr.of x4.2.1) (by rw [x3.2.1.2.1, l12]; exact Nat.le_refl _)).tr (xfr.of t1.2.1) (Nat.le_of_eq l4.symm)).tr (xfr.of p1.2.1) (by rw [t1.2.1.2.1, l4]; exact Nat.le_refl _)
      have lL : H6.length = H.length := by rw [p1.2.1.2.1, t1.2.1.2.1, l4]
      have lS : pm_sl H6 = pm_sl H := by rw [p1.2.1.2.2, t1.2.1.2.2, x4.2.1.2.2, x3.2.1.2.2, s12]
      have w_le : pm_cnd .le (nI ([] : List (Nat × Nat)).length) 0 := w_le0
      have w_e0 : pm_cnd .eq (nI ([] : List (Nat × Nat)).length) 0 := rfl
      refine pq_ld 7 rfl rfl rfl ?_
      refine pq_cst rfl rfl ?_
      refine pq_clv rfl (Or.inl ⟨rfl, rfl⟩) rfl (Nat.le_of_ble_eq_true rfl) hf0 (by decide +kernel) (Or.inl x1.2.2.2) x1.2.2.1 ?_
      refine pq_sto rfl rfl rfl ?_
      refine pq_ld 8 rfl rfl rfl ?_
      refine pq_cst rfl rfl ?_
      refine pq_clv rfl (Or.inl ⟨rfl, rfl⟩) rfl (Nat.le_of_ble_eq_true rfl) hf1 (by decide +kernel) (Or.inl x2.2.2.2) x2.2.2.1 ?_
      refine pq_sto rfl rfl rfl ?_
      refine pq_ld 9 rfl rfl rfl ?_
      refine pq_ld 1 rfl rfl rfl ?_
      refine pq_ifc rfl (fun _ => ?_) (fun z => absurd (w_le) z)
      refine pq_cst rfl rfl ?_
      refine pq_cst rfl rfl ?_
      refine pq_cst rfl rfl ?_
      refine pq_clv rfl (Or.inl ⟨rfl, rfl⟩) rfl (Nat.le_of_ble_eq_true rfl) hf2 (by decide +kernel) (Or.inl x3.2.2.2) x3.2.2.1 ?_
      refine pq_sto rfl rfl rfl ?_
      refine pq_ld 10 rfl rfl rfl ?_
      refine pq_ld 2 rfl rfl rfl ?_
      refine pq_ifc rfl (fun _ => ?_) (fun z => absurd (w_le) z)
      refine pq_cst rfl rfl ?_
      refine pq_cst rfl rfl ?_
      refine pq_cst rfl rfl ?_
      refine pq_clv rfl (Or.inl ⟨rfl, rfl⟩) rfl (Nat.le_of_ble_eq_true rfl) hf3 (by decide +kernel) (Or.inl x4.2.2.2) x4.2.2.1 ?_
      refine pq_sto rfl rfl rfl ?_
      refine pq_ld 2 rfl rfl rfl ?_
      refine pq_ifc rfl (fun z => absurd z (a_nle)) (fun _ => ?_)
      refine pq_cst rfl rfl ?_
      refine pq_goto rfl ?_
      refine pq_sto rfl rfl rfl ?_
      refine pq_ld 0 rfl rfl rfl ?_
      refine pq_ifc rfl (fun z => absurd z (n10)) (fun _ => ?_)
      refine pq_ld 9 rfl rfl rfl ?_
      refine pq_ld 2 rfl rfl rfl ?_
      refine pq_ld 1 rfl rfl rfl ?_
      refine pq_clv rfl (Or.inl ⟨rfl, rfl⟩) rfl (Nat.le_of_ble_eq_true rfl) hf4 (by decide +kernel) (Or.inl t1.2.2.2) t1.2.2.1 ?_
      refine pq_ld 11 rfl rfl rfl ?_
      refine pq_clv rfl (Or.inl ⟨rfl, rfl⟩) rfl (Nat.le_of_ble_eq_true rfl) hf5 (by decide +kernel) (Or.inl p1.2.2.2) p1.2.2.1 ?_
      refine pq_ld 3 rfl rfl rfl ?_
      refine pq_ifc rfl (fun _ => ?_) (fun z => absurd (a_ne) z)
      refine pq_ld 4 rfl rfl rfl ?_
      refine pq_ifc rfl (fun _ => ?_) (fun z => absurd (w_le) z)
      refine pq_cst rfl rfl ?_
      refine pq_icm rfl (fun z => absurd z (fun z => z rfl)) (fun _ => ?_)
      refine pq_ld 4 rfl rfl rfl ?_
      refine pq_ifc rfl (fun _ => ?_) (fun z => absurd (w_e0) z)
      refine pq_cst rfl rfl ?_
      refine pq_goto rfl ?_
      refine pq_sto rfl rfl rfl ?_
      refine pq_goto rfl ?_
      refine pq_sub (nx := 0) (a := 0) (b := 0) [0, 1, 6, 9, 7, 8, 10, 11, 12] rfl ?_
      exact cont 1 _ _ _ _ ⟨p1.1, k2, hb5.u59 k3, h0, hK.fr ff⟩ (hk.fr ff) (Or.inr ⟨rfl, st_back h.2.2.2.1 _⟩) (by omega) (by omega)
    · obtain ⟨a, l, ea⟩ : ∃ a l, mvs s 1 = a :: l := by
        cases e : mvs s 1 with
        | nil => exact absurd e q1
        | cons a l => exact ⟨a, l, rfl⟩
      have eg : (mvs s 1)[0]? = some a := by rw [ea]; rfl
      have em : a ∈ mvA s (iB (tW s)) := by rw [← eW_1, ea]; exact List.mem_cons_self
      obtain ⟨-, -, aR, aC⟩ := mvA_mem h.2.2.1 em
      have w_pos : 0 < (mvs s 1).length := List.length_pos_iff.mpr q1
      have w_nle := w_nle0 w_pos (by omega)
      have w_ne0 : ¬ pm_cnd .eq (nI (mvs s 1).length) 0 := nI_ne0 w_pos (by omega)
      obtain ⟨m3, c1, c2, c3⟩ := tc_move h2 (j := 1) (K := 0) (u := 1) (by omega) (by omega) (by omega)
      obtain ⟨m4, d1, d2, d3⟩ := tc_move (h2.ou c2 c3) (j := 1) (K := 0) (u := 2) (by omega) (by omega) (by omega)
      rw [eg] at c1 d1
      have c1 : F_T_move 1 0 1 m2 = some (some (.int (nI a.1)), m3) := c1
      have d1 : F_T_move 1 0 2 m3 = some (some (.int (nI a.2)), m4) := d1
      obtain ⟨H3, x3⟩ := lx_ciii x2.1 (fg_T_move (kp := kp) (d + 5)) c1
      obtain ⟨H4, x4⟩ := lx_ciii x3.1 (fg_T_move (kp := kp) (d + 5)) d1
      have h4 := (h2.ou c2 c3).ou d2 d3
      have hb4 := (hb2.ou c3).ou d3
      obtain ⟨m5, e1, g1⟩ := nu_turns hb4 aR aC
      obtain ⟨H5, t1⟩ := lx_biiv x4.1 (fg_B_turns (kp := kp) (d + 39)) e1
      have h5 := CI_tnd h4 g1
      have hb5 := bd_turns hb4 aC g1
      obtain ⟨m6, k1, k2, k3⟩ : ∃ m6, F_T_answer m5 = some (some (.int 1), m6) ∧ CI m6 (st_heads s (sC a.1 a.2 6)) ∧ up59 m5 m6 := by
        rcases tc_answer h5 with ⟨-, z, -⟩ | ⟨b, z, w⟩ | ⟨z, -⟩
        · exact absurd z q1
        · rw [eg] at z; cases z; exact w
        · exact absurd z q1
      obtain ⟨H6, p1⟩ := lx_c t1.1 (fg_T_answer (kp := kp) (d + 5)) k1
      have hb6 := hb5.u59 k3
      obtain ⟨m7, t1', t2, t3⟩ := tc_total k2
      obtain ⟨H7, z1⟩ := lx_cl p1.1 (fg_T_total (kp := kp) (d + 5)) t1'
      have hw : iB (tW (st_heads s (sC a.1 a.2 6))) = 0 := by rw [tW_heads aC]; exact (win_mem em).1
      have hz : lg_cmp (Int32.toInt64 (iB (tW (st_heads s (sC a.1 a.2 6))))) (Int64.ofNat ((0 : Fin 2) : Nat)) = 0 := by
        rw [hw]
        rfl
      obtain ⟨f3, hf3⟩ := hb_o0 x3.1
      obtain ⟨f4, hf4⟩ := hb_o112 x4.1
      obtain ⟨f5, hf5⟩ := hb_o0 t1.1
      obtain ⟨f6, hf6⟩ := hb_o0 p1.1
      have l4 : H4.length = H.length := by rw [x4.2.1.2.1, x3.2.1.2.1, l12]
      have l6 : H6.length = H.length := by rw [p1.2.1.2.1, t1.2.1.2.1, l4]
      have ff : xfr A H H7 := ((((f12.tr (xfr.of x3.2.1) (Nat.le_of_eq l12.symm)).tr (xfr.of x4.2.1) (by rw [x3.2.1.2.1, l12]; exact Nat.le_refl _)).tr (xfr.of t1.2.1) (Nat.le_of_eq l4.symm)).tr (xfr.of p1.2.1) (by rw [t1.2.1.2.1, l4]; exact Nat.le_refl _)).tr (xfr.of z1.2.1) (Nat.le_of_eq l6.symm)
      have lL : H7.length = H.length := by rw [z1.2.1.2.1, l6]
      have lS : pm_sl H7 = pm_sl H := by rw [z1.2.1.2.2, p1.2.1.2.2, t1.2.1.2.2, x4.2.1.2.2, x3.2.1.2.2, s12]
      refine pq_ld 7 rfl rfl rfl ?_
      refine pq_cst rfl rfl ?_
      refine pq_clv rfl (Or.inl ⟨rfl, rfl⟩) rfl (Nat.le_of_ble_eq_true rfl) hf0 (by decide +kernel) (Or.inl x1.2.2.2) x1.2.2.1 ?_
      refine pq_sto rfl rfl rfl ?_
      refine pq_ld 8 rfl rfl rfl ?_
      refine pq_cst rfl rfl ?_
      refine pq_clv rfl (Or.inl ⟨rfl, rfl⟩) rfl (Nat.le_of_ble_eq_true rfl) hf1 (by decide +kernel) (Or.inl x2.2.2.2) x2.2.2.1 ?_
      refine pq_sto rfl rfl rfl ?_
      refine pq_ld 9 rfl rfl rfl ?_
      refine pq_ld 1 rfl rfl rfl ?_
      refine pq_ifc rfl (fun z => absurd z (w_nle)) (fun _ => ?_)
      refine pq_cst rfl rfl ?_
      refine pq_goto rfl ?_
      refine pq_cst rfl rfl ?_
      refine pq_cst rfl rfl ?_
      refine pq_clv rfl (Or.inl ⟨rfl, rfl⟩) rfl (Nat.le_of_ble_eq_true rfl) hf2 (by decide +kernel) (Or.inl x3.2.2.2) x3.2.2.1 ?_
      refine pq_sto rfl rfl rfl ?_
      refine pq_ld 10 rfl rfl rfl ?_
      refine pq_ld 2 rfl rfl rfl ?_
      refine pq_ifc rfl (fun z => absurd z (w_nle)) (fun _ => ?_)
      refine pq_cst rfl rfl ?_
      refine pq_goto rfl ?_
      refine pq_cst rfl rfl ?_
      refine pq_cst rfl rfl ?_
      refine pq_clv rfl (Or.inl ⟨rfl, rfl⟩) rfl (Nat.le_of_ble_eq_true rfl) hf3 (by decide +kernel) (Or.inl x4.2.2.2) x4.2.2.1 ?_
      refine pq_sto rfl rfl rfl ?_
      refine pq_ld 2 rfl rfl rfl ?_
      refine pq_ifc rfl (fun z => absurd z (a_nle)) (fun _ => ?_)
      refine pq_cst rfl rfl ?_
      refine pq_goto rfl ?_
      refine pq_sto rfl rfl rfl ?_
      refine pq_ld 0 rfl rfl rfl ?_
      refine pq_ifc rfl (fun z => absurd z (n10)) (fun _ => ?_)
      refine pq_ld 9 rfl rfl rfl ?_
      refine pq_ld 2 rfl rfl rfl ?_
      refine pq_ld 1 rfl rfl rfl ?_
      refine pq_clv rfl (Or.inl ⟨rfl, rfl⟩) rfl (Nat.le_of_ble_eq_true rfl) hf4 (by decide +kernel) (Or.inl t1.2.2.2) t1.2.2.1 ?_
      refine pq_ld 11 rfl rfl rfl ?_
      refine pq_clv rfl (Or.inl ⟨rfl, rfl⟩) rfl (Nat.le_of_ble_eq_true rfl) hf5 (by decide +kernel) (Or.inl p1.2.2.2) p1.2.2.1 ?_
      refine pq_ld 3 rfl rfl rfl ?_
      refine pq_ifc rfl (fun _ => ?_) (fun z => absurd (a_ne) z)
      refine pq_ld 4 rfl rfl rfl ?_
      refine pq_ifc rfl (fun z => absurd z (w_nle)) (fun _ => ?_)
      refine pq_cst rfl rfl ?_
      refine pq_goto rfl ?_
      refine pq_icm rfl (fun z => absurd z (fun z => z rfl)) (fun _ => ?_)
      refine pq_ld 4 rfl rfl rfl ?_
      refine pq_ifc rfl (fun z => absurd z (w_ne0)) (fun _ => ?_)
      refine pq_ld 11 rfl rfl rfl ?_
      refine pq_clv rfl (Or.inl ⟨rfl, rfl⟩) rfl (Nat.le_of_ble_eq_true rfl) hf6 (by decide +kernel) (Or.inl z1.2.2.2) z1.2.2.1 ?_
      refine pq_cst rfl rfl ?_
      refine pq_bop rfl rfl ?_
      rw [hz]
      refine pq_ifc rfl (fun z => absurd z (fun z => z rfl)) (fun _ => ?_)
      refine pq_cst rfl rfl ?_
      refine pq_goto rfl ?_
      refine pq_sto rfl rfl rfl ?_
      refine pq_goto rfl ?_
      refine pq_sub (nx := 0) (a := 0) (b := 0) [0, 1, 6, 9, 7, 8, 10, 11, 12] rfl ?_
      exact cont 1 _ _ _ _ ⟨z1.1, k2.ou t2 t3, hb6.ou t3, h0, hK.fr ff⟩ (hk.fr ff) (Or.inr ⟨rfl, st_back h.2.2.2.1 _⟩) (by omega) (by omega)
