/-! the law's act: a board told, whole; printed by wip/p50/w/gen_act0.py -/
theorem bH_lt {B : Nat → Nat} {mB : qm_M} {H : pm_H} (h : bH B mB H) {k : Nat} (h1 : 112 ≤ k) (h2 : k < 123) : B k < H.length := by
  by_cases q : k < 117
  · rcases (by omega : k = 112 ∨ k = 113 ∨ k = 114 ∨ k = 115 ∨ k = 116) with rfl | rfl | rfl | rfl | rfl
    · exact ap_lt h.1
    · exact ap_lt h.2.1
    · exact ap_lt h.2.2.1
    · exact ap_lt h.2.2.2.1
    · have h5 := h.2.2.2.2.1
      exact Exists.elim h5 (fun f hf => ap_lt hf.1)
  · have h6 := h.2.2.2.2.2 (k - 117) (by omega)
    rw [show 117 + (k - 117) = k by omega] at h6
    exact ap_lt h6
theorem bH_app {B : Nat → Nat} {mB : qm_M} {H : pm_H} (X : pm_H) (h : bH B mB H) : bH B mB (H ++ X) := by
  have h5 := h.2.2.2.2.1
  exact ⟨ap_k X h.1, ap_k X h.2.1, ap_k X h.2.2.1, ap_k X h.2.2.2.1, Exists.elim h5 (fun f hf => ⟨f, ap_k X hf.1, hf.2⟩), fun r hr => ap_k X (h.2.2.2.2.2 r hr)⟩
/-- over a longer heap, the board being new -/
theorem ws_new {A B : Nat → Nat} {Kd : Nat} {m mB : qm_M} {s : sT} {H H1 H2 : pm_H} (hB : hbd' A m H) (hK : kd A Kd H) (hk : kept A B Kd mB s H) (eH1 : H1 = H ++ bI H.length) (eH2 : H2 = H1 ++ sI H1.length) (hL : 112 ≤ H.length ∧ H.length ≤ 90000) :
    ws (iA H.length) B Kd H1.length (H1.length + 1) mB s (mix m mI) [] (fun _ => 0) H2 := by
  obtain ⟨i1, i2⟩ := iA_ad hL.1 hL.2
  have hB1 : hbd' (iA H.length) (mix m mI) H1 := by rw [eH1]; exact hbd_sw (hbd_app _ hB) (bH_new H) i1 i2
  have l1 : H.length + 11 = H1.length := by rw [eH1, List.length_append]; rfl
  have hi : ∀ k, 112 ≤ k → k < 123 → H.length ≤ iA H.length k := fun k h1 h2 => by unfold iA; rw [if_neg (by omega), if_pos h2]; omega
  have hKd : Kd < H.length := Exists.elim hK.1 (fun kf h => ap_lt h.1)
  have hBk : ∀ k, 112 ≤ k → k < 123 → B k < H.length := fun k h1 h2 => bH_lt hk.1 h1 h2
  refine ⟨by rw [eH2]; exact hbd_app _ hB1, by rw [eH2]; exact ⟨ap_g H1 _ 0, ap_g H1 _ 1, by omega⟩, fun k hk => absurd hk (by simp), ⟨?_, fun k hk => ?_⟩, ⟨?_, hk.2.1, hk.2.2.1, hk.2.2.2.1, hk.2.2.2.2.1, fun k j h1 h2 h3 => ?_⟩, fun k hk => ?_, ⟨by omega, by omega⟩, fun k h1 h2 => by have := hBk k h1 h2; omega⟩
  · exact Exists.elim hK.1 (fun kf h => ⟨kf, by rw [eH2, eH1]; exact ap_k _ (ap_k _ h.1), h.2⟩)
  · by_cases q : k < 112
    · rw [i2 k q]
      have := hK.2 k hk
      rw [hB.2.2 k q] at this
      exact this
    · have := hi k (by omega) hk
      omega
  · rw [eH2, eH1]; exact bH_app _ (bH_app _ hk.1)
  · by_cases q : j < 112
    · rw [i2 j q]
      have := hk.2.2.2.2.2 k j h1 h2 h3
      rw [hB.2.2 j q] at this
      exact this
    · have := hi j (by omega) h3
      have := hBk k h1 h2
      omega
  · have := hb_lt hB1 hk
    exact ⟨by omega, by omega⟩
theorem sB_bd {m : qm_M} {s : sT} {r0 k0 l0 r1 k1 l1 : Nat} {X : nb_F} (h0 : r0 ≤ 8 ∧ k0 ≤ 8 ∧ l0 ≤ 8 ∧ r1 ≤ 8 ∧ k1 ≤ 8 ∧ l1 ≤ 8) (a1 : m.1 113 0 = nI r0 ∧ m.1 113 1 = nI r1) (a2 : m.1 114 0 = nI k0 ∧ m.1 114 1 = nI k1) (a3 : m.1 115 0 = nI l0 ∧ m.1 115 1 = nI l1) (a4 : ∀ r c, r < 6 → c < 6 → m.1 (117 + r) c = if X.getLsbD (6 * r + c) = true then 1 else 0) (q : (Nat × (Nat → sP)) × ((Nat → Bool) × (Nat → sP)) × (Nat × (Nat → Int32))) :
    bd m (sB s.1 r0 k0 l0 r1 k1 l1 X, q) := by
  have b0 : bR (sB s.1 r0 k0 l0 r1 k1 l1 X) = r0 := nb_lNt (by omega)
  have b1 : bC (sB s.1 r0 k0 l0 r1 k1 l1 X) = r1 := nb_lNt (by omega)
  have b2 : bK (sB s.1 r0 k0 l0 r1 k1 l1 X) 0 = k0 := nb_lNt (by omega)
  have b3 : bK (sB s.1 r0 k0 l0 r1 k1 l1 X) 1 = k1 := nb_lNt (by omega)
  have b4 : bL (sB s.1 r0 k0 l0 r1 k1 l1 X) 0 = l0 := nb_lNt (by omega)
  have b5 : bL (sB s.1 r0 k0 l0 r1 k1 l1 X) 1 = l1 := nb_lNt (by omega)
  refine ⟨⟨by rw [a1.1]; exact (congrArg nI b0).symm, by rw [a1.2]; exact (congrArg nI b1).symm⟩, fun j hj => ?_, fun r c hr hc => a4 r c hr hc⟩
  rcases (by omega : j = 0 ∨ j = 1) with rfl | rfl
  · exact ⟨by rw [a2.1]; exact (congrArg nI b2).symm, by rw [a3.1]; exact (congrArg nI b4).symm⟩
  · exact ⟨by rw [a2.2]; exact (congrArg nI b3).symm, by rw [a3.2]; exact (congrArg nI b5).symm⟩
set_option maxRecDepth 100000 in
theorem lw_tell {kp : pm_K} {d : Nat} {Q : Option Value → pm_H → Prop} {i N Kd L S : Nat} {A B : Nat → Nat} {m mB : qm_M} {s : sT} {H : pm_H} (hkp : kp.1 < 2 ^ 31) (hi : i < 20) (hL2 : L ≤ 1900) (hS2 : S ≤ 39000) (hN : N < 2 ^ 31) (hl : lst A Kd m s H) (hk : kept A B Kd mB s H) (hL : H.length ≤ L) (hS : pm_sl H ≤ S)
    (cont : ∀ does A' m' s' H', lst A' Kd m' s' H' → kept A' B Kd mB s H' → (does = 0 ∨ does = 1 ∧ (st_undo s').1 = s.1 ∧ 1 ≤ s'.2.1.1) → H'.length ≤ L + 18 → pm_sl H' ≤ S + 201 → pm_W kp md_L_law (pm_X kp (d + 40)) 2000 40000 Q 853 [(3, .int 1), (8, .int does), (7, .ref (B 112)), (2, .ref (A' 112)), (6, .int (nI N)), (5, .int (nI i)), (4, .ref Kd), (1, .ref 0), (0, .ref 1000000)] [] H') :
    pm_W kp md_L_law (pm_X kp (d + 40)) 2000 40000 Q 260 [(8, .int 1), (7, .ref (B 112)), (6, .int (nI N)), (5, .int (nI i)), (3, .int 1), (2, .ref (A 112)), (4, .ref Kd), (1, .ref 0), (0, .ref 1000000)] [] H := by
  obtain ⟨hB, h, hb, h0, hK⟩ := hl
  have hH : 112 ≤ H.length := by have := hb_lt hB (k := 111) (by omega); rw [hB.2.2 111 (by omega)] at this; omega
  obtain ⟨H1, eH1⟩ : ∃ H1, H1 = H ++ bI H.length := ⟨_, rfl⟩
  have l1 : (H ++ bI H.length).length = H.length + 11 := by rw [List.length_append]; rfl
  have s1 : pm_sl (H ++ bI H.length) = pm_sl H + 52 := by rw [sl_app]; unfold bI; simp only [pm_sl, pm_sz, List.length_cons, List.length_nil]
  have l1' : H1.length = H.length + 11 := by rw [eH1]; exact l1
  have s1' : pm_sl H1 = pm_sl H + 52 := by rw [eH1]; exact s1
  obtain ⟨H2, eH2⟩ : ∃ H2, H2 = H1 ++ sI H1.length := ⟨_, rfl⟩
  have l2 : (H1 ++ sI H1.length).length = H1.length + 2 := by rw [List.length_append]; rfl
  have s2 : pm_sl (H1 ++ sI H1.length) = pm_sl H1 + 124 := by rw [sl_app]; unfold sI; simp only [pm_sl, pm_sz, List.length_cons, List.length_nil]
  have l2' : H2.length = H.length + 13 := by rw [eH2, l2, l1']
  have s2' : pm_sl H2 = pm_sl H + 176 := by rw [eH2, s2, s1']
  have hws := ws_new hB hK hk eH1 eH2 ⟨hH, by omega⟩
  refine pq_new rfl rfl rfl (by omega) (by show pm_sl H + 4 ≤ _; omega) (by omega) ?_
  refine pq_sop rfl rfl ?_
  refine pq_clv rfl (Or.inr ⟨rfl, rfl⟩) rfl (Nat.le_of_ble_eq_true rfl) (ap_g H _ 0) (by decide +kernel) (Or.inr ⟨rfl, by omega, by omega⟩) (al_board (d + 39) H (by omega)) ?_
  rw [← eH1]
  refine pq_sto rfl rfl rfl ?_
  refine pq_new rfl rfl rfl (by omega) (by show pm_sl H1 + 4 ≤ _; omega) (by omega) ?_
  refine pq_sop rfl rfl ?_
  refine pq_cst rfl rfl ?_
  refine pq_clv rfl (Or.inr ⟨rfl, rfl⟩) rfl (Nat.le_of_ble_eq_true rfl) (ap_g H1 _ 0) (by decide +kernel) (Or.inr ⟨rfl, by omega, by omega⟩) (al_sb (d + 38) H1 (by omega)) ?_
  rw [← eH2]
  refine pq_sto rfl rfl rfl ?_
  refine pq_cst rfl rfl ?_
  refine pq_sto rfl rfl rfl ?_
  refine pq_ld 0 rfl rfl rfl ?_
  refine pq_cst rfl rfl ?_
  refine pq_icm rfl (fun z => absurd z (@of_decide_eq_false _ (jb_dec _ _ _) rfl)) (fun _ => ?_)
  generalize hWa : H1.length = Wa at *
  generalize hV : Wa + 1 = V at *
  have hk0 : (N / 2 ^ 10 % 4) < 4 := Nat.mod_lt _ (by decide)
  have hk1 : (N / 2 ^ 12 % 4) < 4 := Nat.mod_lt _ (by decide)
  have hr0 : N / 2 ^ 4 % 5 < 5 := Nat.mod_lt _ (by decide)
  have hr1 : N / 2 ^ 7 % 5 < 5 := Nat.mod_lt _ (by decide)
  have hl0 : N / 2 ^ 14 % 4 < 4 := Nat.mod_lt _ (by decide)
  have hl1 : N / 2 ^ 17 % 4 < 4 := Nat.mod_lt _ (by decide)
  have w0 := wl_le (N / 2 ^ 10 % 4)
  have w1 := wl_le (N / 2 ^ 12 % 4)
  obtain ⟨f3, H3, hw3, e3, g3⟩ := lw_rule0 (kp := kp) (d := d) (Q := Q) (i := i) hN hws (by simp)
  have len0 := rlt_len (r := (1 + N / 2 ^ 4 % 5)) (l := (1 + N / 2 ^ 14 % 4)) (bl := [32]) hk0
  have len1 := rlt_len (r := (1 + N / 2 ^ 7 % 5)) (l := (1 + N / 2 ^ 17 % 4)) (bl := []) hk1
  have q1 : ([32] : List Nat).length = 1 := rfl
  have q0 : ([] : List Nat).length = 0 := rfl
  rw [q1] at len0
  rw [q0] at len1
  obtain ⟨f4, H4, hw4, e4, g4⟩ := lw_rule1 (kp := kp) (d := d) (Q := Q) (i := i) hN hw3 (by rw [List.length_append, len0, q0]; omega)
  refine g3 ?_
  refine pq_ld 0 rfl rfl rfl ?_
  refine pq_cst rfl rfl ?_
  refine pq_icm rfl (fun z => absurd z (@of_decide_eq_false _ (jb_dec _ _ _) rfl)) (fun _ => ?_)
  refine g4 ?_
  refine pq_ld 0 rfl rfl rfl ?_
  refine pq_cst rfl rfl ?_
  refine pq_icm rfl (fun _ => ?_) (fun z => absurd (@of_decide_eq_true _ (jb_dec _ _ _) rfl) z)
  refine pq_cst rfl rfl ?_
  refine pq_sto rfl rfl rfl ?_
  generalize hm0 : qm_sI (qm_sI (qm_sI (qm_sI (qm_sI (qm_sI (mix m mI) 113 0 (nI (1 + N / 2 ^ 4 % 5))) 114 0 (nI (N / 2 ^ 10 % 4))) 115 0 (nI (1 + N / 2 ^ 14 % 4))) 113 1 (nI (1 + N / 2 ^ 7 % 5))) 114 1 (nI (N / 2 ^ 12 % 4))) 115 1 (nI (1 + N / 2 ^ 17 % 4)) = m0 at *
  have c113 : m0.1 113 0 = nI (1 + N / 2 ^ 4 % 5) ∧ m0.1 113 1 = nI (1 + N / 2 ^ 7 % 5) := by rw [← hm0]; simp [me_1I]
  have c114 : m0.1 114 0 = nI (N / 2 ^ 10 % 4) ∧ m0.1 114 1 = nI (N / 2 ^ 12 % 4) := by rw [← hm0]; simp [me_1I]
  have c115 : m0.1 115 0 = nI (1 + N / 2 ^ 14 % 4) ∧ m0.1 115 1 = nI (1 + N / 2 ^ 17 % 4) := by rw [← hm0]; simp [me_1I]
  have oth : ∀ a, a ≠ 113 → a ≠ 114 → a ≠ 115 → m0.1 a = (mix m mI).1 a := fun a h1 h2 h3 => by
    rw [← hm0, (qm_sI_other a h3).1, (qm_sI_other a h2).1, (qm_sI_other a h1).1, (qm_sI_other a h3).1, (qm_sI_other a h2).1, (qm_sI_other a h1).1]
  have m2e : m0.2 = (mix m mI).2 := by rw [← hm0]; rfl
  refine lw_heads (kp := kp) (H0 := H4) (m0 := m0) (r0 := (1 + N / 2 ^ 4 % 5)) (r1 := (1 + N / 2 ^ 7 % 5)) hkp hi hN (cs := [] ++ rlt (1 + N / 2 ^ 4 % 5) (N / 2 ^ 10 % 4) (1 + N / 2 ^ 14 % 4) [32] ++ rlt (1 + N / 2 ^ 7 % 5) (N / 2 ^ 12 % 4) (1 + N / 2 ^ 17 % 4) []) (by rw [List.length_append, List.length_append, len0, len1, q0]; omega) ⟨by omega, by omega⟩ ⟨by omega, by omega⟩ (fun m5 l f5 H5 hw5 hl5 hq5 hm5 e5 => ?_) (N / 2 ^ 20 % 6) 0 m0 [] f4 H4 (by omega) (by rw [List.flatMap_nil, List.append_nil]; exact hw4) rfl (fun q hq => by cases hq) ⟨c113, fun r c hr hc => ?_, fun _ _ => rfl, rfl⟩ ⟨rfl, rfl⟩
  · have ecs : [] ++ rlt (1 + N / 2 ^ 4 % 5) (N / 2 ^ 10 % 4) (1 + N / 2 ^ 14 % 4) [32] ++ rlt (1 + N / 2 ^ 7 % 5) (N / 2 ^ 12 % 4) (1 + N / 2 ^ 17 % 4) [] ++ l.flatMap hdt = txl (1 + N / 2 ^ 4 % 5) (N / 2 ^ 10 % 4) (1 + N / 2 ^ 14 % 4) (1 + N / 2 ^ 7 % 5) (N / 2 ^ 12 % 4) (1 + N / 2 ^ 17 % 4) l := by
      unfold txl
      rw [List.nil_append, List.append_assoc]
    rw [ecs] at hw5
    have hfl : ∀ l : List (Nat × Nat), (l.flatMap hdt).length = 10 * l.length := fun l => by
      induction l with
      | nil => rfl
      | cons a l ih => rw [List.flatMap_cons, List.length_append, ih]; show 10 + _ = 10 * (l.length + 1); omega
    have hn : (txl (1 + N / 2 ^ 4 % 5) (N / 2 ^ 10 % 4) (1 + N / 2 ^ 14 % 4) (1 + N / 2 ^ 7 % 5) (N / 2 ^ 12 % 4) (1 + N / 2 ^ 17 % 4) l).length = (rlt (1 + N / 2 ^ 4 % 5) (N / 2 ^ 10 % 4) (1 + N / 2 ^ 14 % 4) [32]).length + ((rlt (1 + N / 2 ^ 7 % 5) (N / 2 ^ 12 % 4) (1 + N / 2 ^ 17 % 4) []).length + (l.flatMap hdt).length) := by unfold txl; rw [List.length_append, List.length_append]
    rw [hfl, len0, len1] at hn
    have hrT := rT_at (T := fun k => (txl (1 + N / 2 ^ 4 % 5) (N / 2 ^ 10 % 4) (1 + N / 2 ^ 14 % 4) (1 + N / 2 ^ 7 % 5) (N / 2 ^ 12 % 4) (1 + N / 2 ^ 17 % 4) l).getD k 0) (r0 := (1 + N / 2 ^ 4 % 5)) (k0 := (N / 2 ^ 10 % 4)) (l0 := (1 + N / 2 ^ 14 % 4)) (r1 := (1 + N / 2 ^ 7 % 5)) (k1 := (N / 2 ^ 12 % 4)) (l1 := (1 + N / 2 ^ 17 % 4)) (l := l) (by omega) (by omega) hl5 hq5 (fun i hi => by rw [Nat.zero_add])
    generalize txl (1 + N / 2 ^ 4 % 5) (N / 2 ^ 10 % 4) (1 + N / 2 ^ 14 % 4) (1 + N / 2 ^ 7 % 5) (N / 2 ^ 12 % 4) (1 + N / 2 ^ 17 % 4) l = cs at *
    have hT : tx (fun k => cs.getD k 0) cs.length f5 := ⟨by omega, fun k hk => hw5.2.2.1 k hk⟩
    have cl1 : ∀ a, a < 112 → m5.1 a = m.1 a := fun a ha => by rw [hm5.2.2.1 a (by omega), oth a (by omega) (by omega) (by omega), (mix_l ha).1]
    have cl2 : ∀ a, a < 112 → m5.2 a = m.2 a := fun a ha => by rw [hm5.2.2.2, m2e, (mix_l ha).2]
    have hC5 : CI m5 s := ⟨h.1.fr (fun a ha => cl1 a (by omega)) (fun a ha => cl2 a (by omega)), h.2.1.hi (fun a h1 h2 => cl1 a (by omega)), h.2.2⟩
    have hb5 : bd m5 (sB s.1 (1 + N / 2 ^ 4 % 5) (N / 2 ^ 10 % 4) (1 + N / 2 ^ 14 % 4) (1 + N / 2 ^ 7 % 5) (N / 2 ^ 12 % 4) (1 + N / 2 ^ 17 % 4) (hds 0 l), s.2) := sB_bd (by omega) hm5.1 (by rw [hm5.2.2.1 114 (by omega)]; exact c114) (by rw [hm5.2.2.1 115 (by omega)]; exact c115) hm5.2.1 _
    obtain ⟨m6, H6, τ, y1, y2, y3, y4, y5, y6, y7, y8, y9, y10⟩ := hb_says (kp := kp) (d + 3) hT (by omega) (fun k hk => (hw5.2.2.2.2.2.1 k hk).1) (fun k hk => (hw5.2.2.2.2.2.1 k hk).2) hw5.1 hC5 h0 hb5 hw5.2.1 (by omega)
    obtain ⟨m7, t0, t2, t3⟩ := tc_tell y1 (T := fun k => cs.getD k 0) (fun k hk => ⟨Nat.lt_trans (hT.2 k hk).2 (by decide), y2 k hk⟩) hrT
    obtain ⟨H7, t1⟩ := lx_c y4 (fg_T_tell (kp := kp) (d + 32)) t0
    have hb7 := y3.hi t3
    obtain ⟨H8, b1⟩ := lx_b t1.1 (fg_B_shown (kp := kp) (d + 39)) (nu_shown hb7 t2.2.2.1)
    obtain ⟨-, -, -, c8, -⟩ := tc_count t2
    obtain ⟨H9, c1⟩ := lx_ci b1.1 (fg_T_count (kp := kp) (d + 37)) c8
    have ff : xfr (iA H.length) H5 H9 := ((y5.tr (xfr.of t1.2.1) y6).tr (xfr.of b1.2.1) (by rw [t1.2.1.2.1]; exact y6)).tr (xfr.of c1.2.1) (by rw [b1.2.1.2.1, t1.2.1.2.1]; exact y6)
    have lL : H9.length ≤ L + 18 := by
      rw [c1.2.1.2.1, b1.2.1.2.1, t1.2.1.2.1]
      omega
    have lS : pm_sl H9 ≤ S + 201 := by
      rw [c1.2.1.2.2, b1.2.1.2.2, t1.2.1.2.2]
      omega
    obtain ⟨fs, hfs⟩ := hb_o0 y4
    obtain ⟨fs2, hfs2⟩ := hb_o112 t1.1
    obtain ⟨fs3, hfs3⟩ := hb_o0 b1.1
    refine pq_ld 8 rfl rfl rfl ?_
    refine pq_ld 0 rfl rfl rfl ?_
    refine pq_cls rfl rfl rfl rfl (Nat.le_of_ble_eq_true rfl) (Or.inr ⟨rfl, by omega, by omega⟩) y10 ?_
    refine pq_ifc rfl (fun z => absurd z (@of_decide_eq_false _ (jb_dec _ _ _) rfl)) (fun _ => ?_)
    refine pq_ld 8 rfl rfl rfl ?_
    refine pq_clv rfl (Or.inl ⟨rfl, rfl⟩) rfl (Nat.le_of_ble_eq_true rfl) hfs (by decide +kernel) (Or.inl t1.2.2.2) t1.2.2.1 ?_
    refine pq_ld 1 rfl rfl rfl ?_
    refine pq_clv rfl (Or.inl ⟨rfl, rfl⟩) rfl (Nat.le_of_ble_eq_true rfl) hfs2 (by decide +kernel) (Or.inl b1.2.2.2) b1.2.2.1 ?_
    refine pq_icm rfl (fun z => absurd z (fun z => z rfl)) (fun _ => ?_)
    refine pq_ld 8 rfl rfl rfl ?_
    refine pq_cst rfl rfl ?_
    refine pq_clv rfl (Or.inl ⟨rfl, rfl⟩) rfl (Nat.le_of_ble_eq_true rfl) hfs3 (by decide +kernel) (Or.inl c1.2.2.2) c1.2.2.1 ?_
    refine pq_ifc rfl (fun z => absurd z (fun z => z rfl)) (fun _ => ?_)
    refine pq_cst rfl rfl ?_
    refine pq_goto rfl ?_
    refine pq_sto rfl rfl rfl ?_
    refine pq_goto rfl ?_
    refine pq_sub (nx := 0) (a := 0) (b := 0) [0, 3, 4, 2, 5, 6, 7, 8, 9] rfl ?_
    exact cont 1 _ _ _ _ ⟨c1.1, t2, hb7.eq rfl, rfl, hw5.2.2.2.1.fr ff⟩ (hw5.2.2.2.2.1.fr ff) (Or.inr ⟨rfl, st_back (s := st_cut (st_tp s cs.length τ) 0) h.2.2.2.1 _⟩) lL lS
  · rw [oth (117 + r) (by omega) (by omega) (by omega), (mix_h (by omega)).1]
    have e : mI.1 (117 + r) = fun _ => 0 := by
      show (if 117 + r = 113 then _ else if 117 + r = 115 then _ else fun _ => 0) = _
      rw [if_neg (by omega), if_neg (by omega)]
    rw [e]
    show (0 : Int32) = if (0 : nb_F).getLsbD (6 * r + c) = true then 1 else 0
    rw [show (0 : nb_F).getLsbD (6 * r + c) = false from BitVec.getLsbD_zero]
    rfl
