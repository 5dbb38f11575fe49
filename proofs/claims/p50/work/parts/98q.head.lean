/-! the law's start, behind the class's constructor; printed by wip/p50/w/gen_head.py -/
theorem rn_e_id (c : va_E) : rn_e (fun k => k) c = c := by
  obtain ⟨t, n, f | f | f | f | f⟩ | x := c
  · rfl
  · rfl
  · rfl
  · rfl
  · show (Sum.inl (t, (n, Sum.inr (Sum.inr (Sum.inr (Sum.inr (fun j => (f j).map (fun k => k))))))) : va_E) = _
    have e : (fun j => (f j).map (fun k => k)) = f := by
      funext j
      cases f j <;> rfl
    rw [e]
  · show Sum.inr (x.1, x.2.map (rn_v (fun k => k))) = _
    have e : x.2.map (rn_v (fun k => k)) = x.2 := by
      rw [List.map_congr_left (g := id) (fun v _ => by cases v <;> rfl), List.map_id]
    rw [e]
theorem hbd_of {B : Nat → Nat} {m mB : qm_M} {H : pm_H} (hc : ∀ k c, k < 112 → (qm_hp m)[k]? = some c → H[k]? = some c) (hb : bH B mB H) (b1 : rn_ad B (fun k => k < 123)) (b2 : ∀ k, k < 112 → B k = k) : hbd' B (mix m mB) H := by
  refine ⟨b1, fun k c hk gk => ?_, b2⟩
  have hk : k < 123 := hk
  by_cases q : k < 112
  · have e : (qm_hp (mix m mB))[k]? = (qm_hp m)[k]? := by
      rw [qm_hp_at, qm_hp_at]
      congr 1
      funext t
      exact qm_cell_eq (mix_l q).1 (mix_l q).2
    rw [e] at gk
    rw [b2 k q, hc k c q gk]
    congr 1
    rw [rn_e_c (A := B) (B := fun k => k) (fun a ha => by
      by_cases z : a < 1000000
      · have : a < 112 := cl_hp2 m k c q gk a ha z
        exact b2 a this
      · exact b1.1 a (by omega)), rn_e_id]
  · obtain ⟨c0, c1, c2, c3, ⟨f, c4, c5, c6⟩, c7⟩ : _ ∧ _ ∧ _ ∧ _ ∧ (∃ f : Nat → Option Nat, _ ∧ _ ∧ _) ∧ _ := hb
    have e : ∀ t, qm_lay[k]? = some t → c = qm_cell (mix m mB) k t := fun t h => by
      rw [qm_hp_at, h] at gk
      exact (Option.some.inj gk).symm
    rcases (by omega : k = 112 ∨ k = 113 ∨ k = 114 ∨ k = 115 ∨ k = 116 ∨ k = 117 ∨ k = 118 ∨ k = 119 ∨ k = 120 ∨ k = 121 ∨ k = 122) with rfl | rfl | rfl | rfl | rfl | rfl | rfl | rfl | rfl | rfl | rfl
    · rw [e (111, 0) rfl]; exact c0
    · rw [e (0, 2) rfl]; exact c1
    · rw [e (0, 2) rfl]; exact c2
    · rw [e (0, 2) rfl]; exact c3
    · rw [e (6, 6) rfl]
      have ef : f = fun j => ((if j < 6 then some (116 + 1 + j) else none) : Option Nat).map B := by
        funext j
        by_cases z : j < 6
        · rw [c5 j z, if_pos z]; rfl
        · rw [c6 j (by omega), if_neg z]; rfl
      rw [ef] at c4
      exact c4
    · rw [e (3, 6) rfl]; exact c7 0 (by omega)
    · rw [e (3, 6) rfl]; exact c7 1 (by omega)
    · rw [e (3, 6) rfl]; exact c7 2 (by omega)
    · rw [e (3, 6) rfl]; exact c7 3 (by omega)
    · rw [e (3, 6) rfl]; exact c7 4 (by omega)
    · rw [e (3, 6) rfl]; exact c7 5 (by omega)
theorem qx_aak {kp : pm_K} {md : pm_M} {C : pm_C} {hb sb : Nat} {Q : Option Value → pm_H → Prop} {pc nx a b : Nat} {lv : pm_L} {st : List Value} {H X : pm_H} {n r : Nat} {f : Nat → Option Nat} {j : Int32} (i : Nat) (g0 : pm_at (pm_cd md) pc = some (.aastore, nx, a, b)) (g1 : X[i]? = some (.inl (7, (n, .inr (.inr (.inr (.inr f))))))) (g2 : vp_in j n) (g3 : 1000010 ≤ r) (g4 : r ≤ 1000018) (g5 : pm_W kp md C hb sb Q nx lv st (H ++ X.set i (.inl (7, (n, .inr (.inr (.inr (.inr (va_up f j.toNatClampNeg (some r)))))))))) : pm_W kp md C hb sb Q pc lv (.ref r :: .int j :: .ref (H.length + i) :: st) (H ++ X) :=
  pq_aak g0 (by rw [ap_g]; exact g1) g2 g3 g4 (by rw [ap_s]; exact g5)
theorem bd_o63 {m m1 : qm_M} {s : sT} (h : bd m s) (g : ou 48 63 m m1) : bd m1 s := ⟨⟨by rw [(g 113 (by omega)).1]; exact h.1.1, by rw [(g 113 (by omega)).1]; exact h.1.2⟩, fun j hj => ⟨by rw [(g 114 (by omega)).1]; exact (h.2.1 j hj).1, by rw [(g 115 (by omega)).1]; exact (h.2.1 j hj).2⟩, fun r c hr hc => by rw [(g (117 + r) (by omega)).1]; exact h.2.2 r c hr hc⟩
/-- the class's state behind its constructor -/
def s0ok (s : sT) : Prop := (bR s.1 = 3 ∧ bC s.1 = 3) ∧ (∀ j, j < 2 → bK s.1 j = 0 ∧ bL s.1 j = 2) ∧ nb (s.1 6) = 0 ∧ s.2.1.1 = 0 ∧ s.2.2.1.1 0 = false ∧ s.2.2.2.1 = 0
theorem s0_bd (m : qm_M) {s : sT} (h : s0ok s) : bd (mix m mI) s := by
  obtain ⟨⟨h1, h2⟩, h3, h4, -⟩ := h
  refine mix_bd ⟨⟨by rw [h1]; rfl, by rw [h2]; rfl⟩, fun j hj => ?_, fun r c hr hc => ?_⟩
  · rw [(h3 j hj).1, (h3 j hj).2]
    rcases (by omega : j = 0 ∨ j = 1) with rfl | rfl
    · exact ⟨rfl, rfl⟩
    · exact ⟨rfl, rfl⟩
  · have e : mI.1 (117 + r) = fun _ => 0 := by
      show (if 117 + r = 113 then _ else if 117 + r = 115 then _ else fun _ => 0) = _
      rw [if_neg (by omega), if_neg (by omega)]
    rw [e, h4]
    show (0 : Int32) = if (0 : nb_F).getLsbD (6 * r + c) = true then 1 else 0
    rw [show (0 : nb_F).getLsbD (6 * r + c) = false from BitVec.getLsbD_zero]
    rfl
theorem s0_mvs {s : sT} (g : px_ok s.1) (h : s0ok s) : mvs s 0 = [] ∧ mvs s 1 = [] := by
  have e : ∀ e, mvA s e = [] := fun e => by
    rw [mvA_k g]
    refine rg_z 36 (fun k hk => ?_)
    unfold mvk
    rw [h.2.2.1, show (0 : nb_F).getLsbD k = false from BitVec.getLsbD_zero]
    rfl
  exact ⟨by rw [eW_0]; exact e _, by rw [eW_1]; exact e _⟩
set_option maxRecDepth 100000 in
theorem lw_head {kp : pm_K} {d : Nat} {m0 : qm_M} {s : sT} {H : pm_H} (hkp : kp.1 < 2 ^ 31) (hc : ∀ k c, k < 112 → (qm_hp m0)[k]? = some c → H[k]? = some c) (hH : H.length = 112) (hS : pm_sl H ≤ 15000) (hC : CI m0 s) (hz : cvLe m0) (h0 : s0ok s) :
    pm_W kp md_L_law (pm_X kp (d + 40)) 2000 40000 (fun r _ => r = some (.int 1)) 8 [(1, .ref 0), (0, .ref 1000000)] [] H := by
  have l1 : (H ++ bI H.length).length = H.length + 11 := by rw [List.length_append]; rfl
  have s1 : pm_sl (H ++ bI H.length) = pm_sl H + 52 := by rw [sl_app]; unfold bI; simp only [pm_sl, pm_sz, List.length_cons, List.length_nil]
  obtain ⟨i1, i2⟩ := iA_ad (n := H.length) (by omega) (by omega)
  have hB : hbd' (iA H.length) (mix m0 mI) (H ++ bI H.length) := hbd_of (fun k c hk gk => ap_k _ (hc k c hk gk)) (bH_new H) i1 i2
  have h : CI (mix m0 mI) s := mix_CI hC
  have hb := s0_bd m0 h0
  have hz1 : cvLe (mix m0 mI) := hz.c rfl rfl
  obtain ⟨m1, e1, g1⟩ := nu_same h hb
  have hz2 : cvLe m1 := hz1.c (g1.2.2 60 (by omega)).1 (g1.2.2 61 (by omega)).1
  obtain ⟨H1, x1⟩ := lx_same hB (fg_L_same (kp := kp) (d + 4)) e1
  have l2 : H1.length = H.length + 11 := by rw [x1.2.1.2.1, l1]
  have s2 : pm_sl H1 = pm_sl H + 52 := by rw [x1.2.1.2.2, s1]
  obtain ⟨m2, H2, y1, y2, y3, y4, y5, y6, y7, y8⟩ := hb_moves (b := true) (kp := kp) x1.1 g1.1 g1.2.1 (by omega) (d + 4) (fun _ => hz2)
  have z2 := y8 rfl
  obtain ⟨n0, n1⟩ := s0_mvs h.2.2.1 h0
  obtain ⟨⟨hR, hCc⟩, hKL, hX, hac, hsh, htp⟩ := id h0
  obtain ⟨a0, u0, v0, w0⟩ := tc_undo y1
  rw [if_pos hac] at u0
  rw [if_pos hac] at v0
  have z3 : cvLe a0 := z2.c (w0.1 60 (by omega)) (w0.1 61 (by omega))
  have b0 := y2.hi w0
  obtain ⟨a1, u1, v1, w1⟩ : ∃ a1, F_T_answer a0 = some (some (.int (-2)), a1) ∧ CI a1 s ∧ up59 a0 a1 := by
    rcases tc_answer v0 with ⟨-, -, z⟩ | ⟨a, z, -⟩ | ⟨-, a, z, -⟩
    · exact z
    · rw [n1] at z; cases z
    · rw [n0] at z; cases z
  have z4 : cvLe a1 := z3.c (w1 60 (by omega)).1 (w1 61 (by omega)).1
  have b1 := b0.u59 w1
  have u2 : F_T_play 0 1 a1 = some (some (.int (-1)), a1) := by
    unfold F_T_play X_T_play_e
    rw [if_neg (by decide)]
  have u3 : F_T_play 8 1 a1 = some (some (.int (-1)), a1) := by
    have e := cs_i v1.1 (k := 0) (by omega) (v1.2.2.1.prl).2.1.1
    unfold F_T_play X_T_play_e
    rw [if_pos (by decide), if_pos (by decide), e, hR, if_neg (by decide)]
  obtain ⟨a4, u4, v4, w4⟩ : ∃ a4, F_T_play 1 1 a1 = some (some (.int (-2)), a4) ∧ CI a4 s ∧ up59 a1 a4 := by
    rcases tc_play v1 (R := 1) (C := 1) (by omega) (by rw [hR]; decide) (by omega) (by rw [hCc]; decide) with ⟨z, -⟩ | ⟨-, z⟩
    · have z3 := z.2.2
      rw [hX, show (0 : nb_F).getLsbD (6 * Nat.log2 1 + Nat.log2 1) = false from BitVec.getLsbD_zero] at z3
      cases z3
    · exact z
  have z5 : cvLe a4 := z4.c (w4 60 (by omega)).1 (w4 61 (by omega)).1
  have b4 := b1.u59 w4
  have u5 : F_T_turn 3 0 a4 = some (some (.int (-1)), a4) := tc_turn0 v4 (Or.inl (Or.inr (by rw [hR]; decide)))
  have u6 : F_T_turn 0 (-1) a4 = some (some (.int (-1)), a4) := tc_turn0 v4 (Or.inr (Or.inl (by decide)))
  obtain ⟨-, -, -, -, -, -, u7⟩ := tc_count v4
  have lz : ln (bK s.1) (bL s.1) (bR s.1) (bC s.1) (pkR (bC s.1) (nb (s.1 6)) (bR s.1)) = 0 := by
    have hp : pkR (bC s.1) (nb (s.1 6)) (bR s.1) = 0 := by rw [hX, hCc, hR]; rfl
    have := ln_le (K := bK s.1) (L := bL s.1) (r := bR s.1) (c := bC s.1) (by omega) (by omega) (pkR (bC s.1) (nb (s.1 6)) (bR s.1))
    omega
  have hrc : bR s.1 * bC s.1 ≤ 12 := by rw [hR, hCc]; decide
  obtain ⟨a8, u8, v8, z8, w8⟩ := tc_game v4 z5 hrc (j := 0) (by omega)
  obtain ⟨a9, u9, v9, z9, w9⟩ := tc_game v8 z8 hrc (j := 1) (by omega)
  rw [lz] at u8 u9
  have u8 : F_T_game 0 a4 = some (some (.int 0), a8) := u8
  have u9 : F_T_game 1 a8 = some (some (.int 0), a9) := u9
  have u10 := tc_game2 a9
  have u11 := tc_keep2 a9
  obtain ⟨a12, u12, v12, w12⟩ := tc_back0 v9 hsh
  have bE : bd a12 s := by
    have ou63 : ∀ {p q : qm_M}, bd p s → ou 48 63 p q → bd q s := fun h o => bd_o63 h o
    exact (ou63 (ou63 b4 w8) w9).hi w12
  obtain ⟨G0, c0⟩ := lx_c y3 (fg_T_undo (kp := kp) (d + 36)) u0
  obtain ⟨fs0, hfs0⟩ := hb_o0 y3
  obtain ⟨G1, c1⟩ := lx_c c0.1 (fg_T_answer (kp := kp) (d + 5)) u1
  obtain ⟨fs1, hfs1⟩ := hb_o0 c0.1
  obtain ⟨G2, c2⟩ := lx_cii c1.1 (fg_T_play (kp := kp) (d + 5)) u2
  obtain ⟨fs2, hfs2⟩ := hb_o0 c1.1
  obtain ⟨G3, c3⟩ := lx_cii c2.1 (fg_T_play (kp := kp) (d + 5)) u3
  obtain ⟨fs3, hfs3⟩ := hb_o0 c2.1
  obtain ⟨G4, c4⟩ := lx_cii c3.1 (fg_T_play (kp := kp) (d + 5)) u4
  obtain ⟨fs4, hfs4⟩ := hb_o0 c3.1
  obtain ⟨G5, c5⟩ := lx_cii c4.1 (fg_T_turn (kp := kp) (d + 36)) u5
  obtain ⟨fs5, hfs5⟩ := hb_o0 c4.1
  obtain ⟨G6, c6⟩ := lx_cii c5.1 (fg_T_turn (kp := kp) (d + 36)) u6
  obtain ⟨fs6, hfs6⟩ := hb_o0 c5.1
  obtain ⟨G7, c7⟩ := lx_ci c6.1 (fg_T_count (kp := kp) (d + 37)) u7
  obtain ⟨fs7, hfs7⟩ := hb_o0 c6.1
  obtain ⟨G8, c8⟩ := lx_ci c7.1 (fg_T_game (kp := kp) (d + 4)) u8
  obtain ⟨fs8, hfs8⟩ := hb_o0 c7.1
  obtain ⟨G9, c9⟩ := lx_ci c8.1 (fg_T_game (kp := kp) (d + 4)) u9
  obtain ⟨fs9, hfs9⟩ := hb_o0 c8.1
  obtain ⟨G10, c10⟩ := lx_ci c9.1 (fg_T_game (kp := kp) (d + 4)) u10
  obtain ⟨fs10, hfs10⟩ := hb_o0 c9.1
  obtain ⟨G11, c11⟩ := lx_ci c10.1 (fg_T_keep (kp := kp) (d + 37)) u11
  obtain ⟨fs11, hfs11⟩ := hb_o0 c10.1
  obtain ⟨G12, c12⟩ := lx_ci c11.1 (fg_T_back (kp := kp) (d + 36)) u12
  obtain ⟨fs12, hfs12⟩ := hb_o0 c11.1
  have lE : G12.length = H.length + 12 := by rw [c12.2.1.2.1, c11.2.1.2.1, c10.2.1.2.1, c9.2.1.2.1, c8.2.1.2.1, c7.2.1.2.1, c6.2.1.2.1, c5.2.1.2.1, c4.2.1.2.1, c3.2.1.2.1, c2.2.1.2.1, c1.2.1.2.1, c0.2.1.2.1, y5, l2]
  have sE : pm_sl G12 = pm_sl H + 88 := by rw [c12.2.1.2.2, c11.2.1.2.2, c10.2.1.2.2, c9.2.1.2.2, c8.2.1.2.2, c7.2.1.2.2, c6.2.1.2.2, c5.2.1.2.2, c4.2.1.2.2, c3.2.1.2.2, c2.2.1.2.2, c1.2.1.2.2, c0.2.1.2.2, y6, s2]
  refine pq_new rfl rfl rfl (by omega) (by show pm_sl H + 4 ≤ _; omega) (by omega) ?_
  refine pq_sop rfl rfl ?_
  refine pq_clv rfl (Or.inr ⟨rfl, rfl⟩) rfl (Nat.le_of_ble_eq_true rfl) (ap_g H _ 0) (by decide +kernel) (Or.inr ⟨rfl, by omega, by omega⟩) (al_board (d + 39) H (by omega)) ?_
  refine pq_sto rfl rfl rfl ?_
  refine pq_ld 1 rfl rfl rfl ?_
  refine pq_ld 0 rfl rfl rfl ?_
  refine pq_cls rfl rfl rfl rfl (Nat.le_of_ble_eq_true rfl) (Or.inl x1.2.2.2) x1.2.2.1 ?_
  refine pq_ifc rfl (fun z => absurd z (@of_decide_eq_false _ (jb_dec _ _ _) rfl)) (fun _ => ?_)
  refine pq_ld 1 rfl rfl rfl ?_
  refine pq_ld 0 rfl rfl rfl ?_
  refine pq_cls rfl rfl rfl rfl (Nat.le_of_ble_eq_true rfl) (Or.inr ⟨rfl, by omega, by omega⟩) y7 ?_
  refine pq_ifc rfl (fun z => absurd z (@of_decide_eq_false _ (jb_dec _ _ _) rfl)) (fun _ => ?_)
  refine pq_ld 1 rfl rfl rfl ?_
  refine pq_clv rfl (Or.inl ⟨rfl, rfl⟩) rfl (Nat.le_of_ble_eq_true rfl) hfs0 (by decide +kernel) (Or.inl c0.2.2.2) c0.2.2.1 ?_
  refine pq_cst rfl rfl ?_
  refine pq_icm rfl (fun z => absurd z (fun z => z rfl)) (fun _ => ?_)
  refine pq_ld 1 rfl rfl rfl ?_
  refine pq_clv rfl (Or.inl ⟨rfl, rfl⟩) rfl (Nat.le_of_ble_eq_true rfl) hfs1 (by decide +kernel) (Or.inl c1.2.2.2) c1.2.2.1 ?_
  refine pq_cst rfl rfl ?_
  refine pq_icm rfl (fun z => absurd z (fun z => z rfl)) (fun _ => ?_)
  refine pq_ld 1 rfl rfl rfl ?_
  refine pq_cst rfl rfl ?_
  refine pq_cst rfl rfl ?_
  refine pq_clv rfl (Or.inl ⟨rfl, rfl⟩) rfl (Nat.le_of_ble_eq_true rfl) hfs2 (by decide +kernel) (Or.inl c2.2.2.2) c2.2.2.1 ?_
  refine pq_cst rfl rfl ?_
  refine pq_icm rfl (fun z => absurd z (fun z => z rfl)) (fun _ => ?_)
  refine pq_ld 1 rfl rfl rfl ?_
  refine pq_cst rfl rfl ?_
  refine pq_cst rfl rfl ?_
  refine pq_clv rfl (Or.inl ⟨rfl, rfl⟩) rfl (Nat.le_of_ble_eq_true rfl) hfs3 (by decide +kernel) (Or.inl c3.2.2.2) c3.2.2.1 ?_
  refine pq_cst rfl rfl ?_
  refine pq_icm rfl (fun z => absurd z (fun z => z rfl)) (fun _ => ?_)
  refine pq_ld 1 rfl rfl rfl ?_
  refine pq_cst rfl rfl ?_
  refine pq_cst rfl rfl ?_
  refine pq_clv rfl (Or.inl ⟨rfl, rfl⟩) rfl (Nat.le_of_ble_eq_true rfl) hfs4 (by decide +kernel) (Or.inl c4.2.2.2) c4.2.2.1 ?_
  refine pq_cst rfl rfl ?_
  refine pq_icm rfl (fun z => absurd z (fun z => z rfl)) (fun _ => ?_)
  refine pq_ld 1 rfl rfl rfl ?_
  refine pq_cst rfl rfl ?_
  refine pq_cst rfl rfl ?_
  refine pq_clv rfl (Or.inl ⟨rfl, rfl⟩) rfl (Nat.le_of_ble_eq_true rfl) hfs5 (by decide +kernel) (Or.inl c5.2.2.2) c5.2.2.1 ?_
  refine pq_cst rfl rfl ?_
  refine pq_icm rfl (fun z => absurd z (fun z => z rfl)) (fun _ => ?_)
  refine pq_ld 1 rfl rfl rfl ?_
  refine pq_cst rfl rfl ?_
  refine pq_cst rfl rfl ?_
  refine pq_clv rfl (Or.inl ⟨rfl, rfl⟩) rfl (Nat.le_of_ble_eq_true rfl) hfs6 (by decide +kernel) (Or.inl c6.2.2.2) c6.2.2.1 ?_
  refine pq_cst rfl rfl ?_
  refine pq_icm rfl (fun z => absurd z (fun z => z rfl)) (fun _ => ?_)
  refine pq_ld 1 rfl rfl rfl ?_
  refine pq_cst rfl rfl ?_
  refine pq_clv rfl (Or.inl ⟨rfl, rfl⟩) rfl (Nat.le_of_ble_eq_true rfl) hfs7 (by decide +kernel) (Or.inl c7.2.2.2) c7.2.2.1 ?_
  refine pq_cst rfl rfl ?_
  refine pq_icm rfl (fun z => absurd z (fun z => z rfl)) (fun _ => ?_)
  refine pq_ld 1 rfl rfl rfl ?_
  refine pq_cst rfl rfl ?_
  refine pq_clv rfl (Or.inl ⟨rfl, rfl⟩) rfl (Nat.le_of_ble_eq_true rfl) hfs8 (by decide +kernel) (Or.inl c8.2.2.2) c8.2.2.1 ?_
  refine pq_ifc rfl (fun z => absurd z (fun z => z rfl)) (fun _ => ?_)
  refine pq_ld 1 rfl rfl rfl ?_
  refine pq_cst rfl rfl ?_
  refine pq_clv rfl (Or.inl ⟨rfl, rfl⟩) rfl (Nat.le_of_ble_eq_true rfl) hfs9 (by decide +kernel) (Or.inl c9.2.2.2) c9.2.2.1 ?_
  refine pq_ifc rfl (fun z => absurd z (fun z => z rfl)) (fun _ => ?_)
  refine pq_ld 1 rfl rfl rfl ?_
  refine pq_cst rfl rfl ?_
  refine pq_clv rfl (Or.inl ⟨rfl, rfl⟩) rfl (Nat.le_of_ble_eq_true rfl) hfs10 (by decide +kernel) (Or.inl c10.2.2.2) c10.2.2.1 ?_
  refine pq_cst rfl rfl ?_
  refine pq_icm rfl (fun z => absurd z (fun z => z rfl)) (fun _ => ?_)
  refine pq_ld 1 rfl rfl rfl ?_
  refine pq_cst rfl rfl ?_
  refine pq_clv rfl (Or.inl ⟨rfl, rfl⟩) rfl (Nat.le_of_ble_eq_true rfl) hfs11 (by decide +kernel) (Or.inl c11.2.2.2) c11.2.2.1 ?_
  refine pq_cst rfl rfl ?_
  refine pq_icm rfl (fun z => absurd z (fun z => z rfl)) (fun _ => ?_)
  refine pq_ld 1 rfl rfl rfl ?_
  refine pq_cst rfl rfl ?_
  refine pq_clv rfl (Or.inl ⟨rfl, rfl⟩) rfl (Nat.le_of_ble_eq_true rfl) hfs12 (by decide +kernel) (Or.inl c12.2.2.2) c12.2.2.1 ?_
  refine pq_cst rfl rfl ?_
  refine pq_icm rfl (fun z => absurd z (fun z => z rfl)) (fun _ => ?_)
  refine pq_cst rfl rfl ?_
  refine pq_goto rfl ?_
  refine pq_sto rfl rfl rfl ?_
  refine pq_cst rfl rfl ?_
  refine pq_nwr (N := 4) rfl (Or.inr rfl) rfl (by decide) rfl (by decide) (by omega) (by omega) (by omega) ?_
  refine pq_sop rfl rfl ?_
  refine pq_cst rfl rfl ?_
  refine pq_ldc rfl rfl rfl ?_
  refine qx_aak 0 rfl rfl (qm_in_ok rfl) (by decide) (by decide) ?_
  refine pq_sop rfl rfl ?_
  refine pq_cst rfl rfl ?_
  refine pq_ldc rfl rfl rfl ?_
  refine qx_aak 0 rfl rfl (qm_in_ok rfl) (by decide) (by decide) ?_
  refine pq_sop rfl rfl ?_
  refine pq_cst rfl rfl ?_
  refine pq_ldc rfl rfl rfl ?_
  refine qx_aak 0 rfl rfl (qm_in_ok rfl) (by decide) (by decide) ?_
  refine pq_sop rfl rfl ?_
  refine pq_cst rfl rfl ?_
  refine pq_ldc rfl rfl rfl ?_
  refine qx_aak 0 rfl rfl (qm_in_ok rfl) (by decide) (by decide) ?_
  refine pq_sto rfl rfl rfl ?_
  refine pq_cst rfl rfl ?_
  refine pq_sto rfl rfl rfl ?_
  refine pq_sub (nx := 0) (a := 0) (b := 0) [0, 2, 3, 1, 4, 5] rfl ?_
  refine lw_loop hkp 20 0 (iA H.length) a12 s _ rfl ⟨hbd_app _ c12.1, v12, bE, htp, ⟨_, ap_g G12 _ 0, fun j hj => ?_⟩, fun k hk => ?_⟩ (by rw [List.length_append]; show G12.length + 1 ≤ _; omega) (by rw [sl_app]; show pm_sl G12 + 4 ≤ _; omega)
  · rcases (by omega : j = 0 ∨ j = 1 ∨ j = 2 ∨ j = 3) with rfl | rfl | rfl | rfl <;> rfl
  · have := hb_lt c12.1 hk
    omega
