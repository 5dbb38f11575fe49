/-! the law's loop; printed by wip/p50/w/gen_loop.py -/
set_option maxRecDepth 100000 in
theorem lw_loop {kp : pm_K} {d : Nat} {Kd : Nat} (hkp : kp.1 < 2 ^ 31) : ∀ (e i : Nat) (A : Nat → Nat) (m : qm_M) (s : sT) (H : pm_H), i + e = 20 → lst A Kd m s H → H.length ≤ 200 + 60 * i → pm_sl H ≤ 16000 + 400 * i →
    pm_W kp md_L_law (pm_X kp (d + 40)) 2000 40000 (fun r _ => r = some (.int 1)) 190 [(5, .int (nI i)), (3, .int 1), (2, .ref (A 112)), (4, .ref Kd), (1, .ref 0), (0, .ref 1000000)] [] H
  | 0, i, A, m, s, H, he, hl, hL, hS => by
    have hi : i = 20 := by omega
    subst hi
    refine pq_ld 0 rfl rfl rfl ?_
    refine pq_cst rfl rfl ?_
    refine pq_icm rfl (fun _ => ?_) (fun z => absurd (@of_decide_eq_true _ (jb_dec _ _ _) rfl) z)
    refine pq_ld 1 rfl rfl rfl ?_
    exact pq_irt rfl rfl rfl rfl
  | e + 1, i, A, m, s, H, he, hl, hL, hS => by
    obtain ⟨N, hN, hNe⟩ := ush_ex (cel kp i) (k := 1) (by omega)
    have hv : ∀ r, r < 6 → ∀ i, i < 6 → m.1 (117 + r) i = 0 ∨ m.1 (117 + r) i = 1 := fun r hr c hc => by
      rw [hl.2.2.1.2.2 r c hr hc]
      cases (nb (s.1 6)).getLsbD (6 * r + c)
      · exact Or.inl rfl
      · exact Or.inr rfl
    obtain ⟨fs, hfs⟩ := hb_o112 hl.1
    have hH : 112 ≤ H.length := by have := hb_lt hl.1 (k := 111) (by omega); rw [hl.1.2.2 111 (by omega)] at this; omega
    have l1 : (H ++ bC' H.length m).length = H.length + 20 := by rw [List.length_append]; rfl
    have s1 : pm_sl (H ++ bC' H.length m) = pm_sl H + 94 := by rw [sl_app]; unfold bC'; simp only [pm_sl, pm_sz, List.length_cons, List.length_nil]
    obtain ⟨c1, c2⟩ := cA_ad hH (show H.length ≤ 90000 by omega)
    have hKd : Kd < H.length := Exists.elim hl.2.2.2.2.1 (fun kf h => ap_lt h.1)
    have hl1 : lst A Kd m s (H ++ bC' H.length m) := ⟨hbd_app _ hl.1, hl.2.1, hl.2.2.1, hl.2.2.2.1, Exists.elim hl.2.2.2.2.1 (fun kf h => ⟨kf, ap_k _ h.1, h.2⟩), hl.2.2.2.2.2⟩
    have hk1 : kept A (cA H.length) Kd m s (H ++ bC' H.length m) := ⟨bH_copy H m, hl.2.2.1, c1, c2, fun k hk => by
      by_cases q : k < 112
      · rw [c2 k q]
        have := hl.2.2.2.2.2 k hk
        rw [hl.1.2.2 k q] at this
        exact this
      · have := cA_hi (n := H.length) (show 112 ≤ k by omega) hk
        omega, fun k j h1 h2 h3 => by
      have := cA_hi (n := H.length) h1 h2
      have := hb_lt hl.1 h3
      omega⟩
    have K853 : ∀ does A' m' s' H', lst A' Kd m' s' H' → kept A' (cA H.length) Kd m s H' → (does = 0 ∨ does = 1 ∧ (st_undo s').1 = s.1 ∧ 1 ≤ s'.2.1.1) → H'.length ≤ (H ++ bC' H.length m).length + 18 → pm_sl H' ≤ pm_sl (H ++ bC' H.length m) + 201 → pm_W kp md_L_law (pm_X kp (d + 40)) 2000 40000 (fun r _ => r = some (.int 1)) 853 [(3, .int 1), (8, .int does), (7, .ref (cA H.length 112)), (2, .ref (A' 112)), (6, .int (nI N)), (5, .int (nI i)), (4, .ref Kd), (1, .ref 0), (0, .ref 1000000)] [] H' := fun does A' m' s' H' l k dd a b =>
      lw_tail (L := H'.length) (S := pm_sl H') l k dd (Nat.le_refl _) (Nat.le_refl _) (by omega) (by omega) (fun A2 m2 s2 H2 l2 a2 b2 => lw_loop hkp e (i + 1) A2 m2 s2 H2 (by omega) l2 (by omega) (by omega))
    refine pq_ld 0 rfl rfl rfl ?_
    refine pq_cst rfl rfl ?_
    refine pq_icm rfl (fun z => absurd z (ge_n (show i < 20 by omega) (by omega))) (fun _ => ?_)
    refine pq_ld 1 rfl rfl rfl ?_
    refine pq_ifc rfl (fun z => absurd z (@of_decide_eq_false _ (jb_dec _ _ _) rfl)) (fun _ => ?_)
    refine pq_ld 5 rfl rfl rfl ?_
    refine pq_ld 0 rfl rfl rfl ?_
    refine pq_cls rfl rfl rfl rfl (Nat.le_of_ble_eq_true rfl) (Or.inl rfl) (lc_cell hkp (d + 39) _ (j := i) (by omega)) ?_
    refine pq_cst rfl rfl ?_
    refine pq_bop rfl rfl ?_
    rw [show ((cel kp i).toUInt32 >>> ((Int32.ofInt 1).toUInt32 &&& Int32.toUInt32 31)).toInt32 = nI N from hNe]
    refine pq_sto rfl rfl rfl ?_
    refine pq_ld 3 rfl rfl rfl ?_
    refine pq_clv rfl (Or.inl ⟨rfl, rfl⟩) rfl (Nat.le_of_ble_eq_true rfl) hfs (by decide +kernel) (Or.inr ⟨rfl, by omega, by omega⟩) (al_copy (d + 38) H (by omega) (bH_of hl.1) hv) ?_
    refine pq_sto rfl rfl rfl ?_
    refine pq_cst rfl rfl ?_
    refine pq_sto rfl rfl rfl ?_
    refine pq_ld 2 rfl rfl rfl ?_
    refine pq_cst rfl rfl ?_
    refine pq_dop rfl rfl (by decide) ?_
    rw [show nI N - nI N / (Int8.ofInt 7).toInt32 * (Int8.ofInt 7).toInt32 = nI (N % 7) from rem_e (b := 7) hN (by omega) (by omega)]
    have h7 : N % 7 < 7 := Nat.mod_lt _ (by decide)
    have cl : ∀ {a b : Nat}, a ≤ b → a ≤ b + 18 := fun h => by omega
    rcases (by omega : N % 7 = 0 ∨ N % 7 = 1 ∨ N % 7 = 2 ∨ N % 7 = 3 ∨ N % 7 = 4 ∨ N % 7 = 5 ∨ N % 7 = 6) with h | h | h | h | h | h | h
    · rw [h]
      refine pq_tsi rfl (by decide) (by decide) rfl rfl ?_
      exact lw_tell hkp (by omega) (by omega) (by omega) hN hl1 hk1 (Nat.le_refl _) (Nat.le_refl _) K853
    · rw [h]
      refine pq_tsi rfl (by decide) (by decide) rfl rfl ?_
      exact lw_turn hN hl1 hk1 (Nat.le_refl _) (Nat.le_refl _) (fun does A' m' s' H' l k dd a b => K853 does A' m' s' H' l k dd (by omega) (by omega))
    · rw [h]
      refine pq_tsi rfl (by decide) (by decide) rfl rfl ?_
      exact lw_turn hN hl1 hk1 (Nat.le_refl _) (Nat.le_refl _) (fun does A' m' s' H' l k dd a b => K853 does A' m' s' H' l k dd (by omega) (by omega))
    · rw [h]
      refine pq_tsi rfl (by decide) (by decide) rfl rfl ?_
      exact lw_play hN hl1 hk1 (Nat.le_refl _) (Nat.le_refl _) (fun does A' m' s' H' l k dd a b => K853 does A' m' s' H' l k dd (by omega) (by omega))
    · rw [h]
      refine pq_tsi rfl (by decide) (by decide) rfl rfl ?_
      exact lw_play hN hl1 hk1 (Nat.le_refl _) (Nat.le_refl _) (fun does A' m' s' H' l k dd a b => K853 does A' m' s' H' l k dd (by omega) (by omega))
    · rw [h]
      refine pq_tso rfl (by decide) rfl ?_
      exact lw_answer hN hl1 hk1 (Nat.le_refl _) (Nat.le_refl _) (fun does A' m' s' H' l k dd a b => K853 does A' m' s' H' l k dd (by omega) (by omega))
    · rw [h]
      refine pq_tso rfl (by decide) rfl ?_
      exact lw_answer hN hl1 hk1 (Nat.le_refl _) (Nat.le_refl _) (fun does A' m' s' H' l k dd a b => K853 does A' m' s' H' l k dd (by omega) (by omega))
