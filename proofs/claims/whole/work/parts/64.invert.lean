/-! inverses of grids -/
def gU (A : gA) (n i : Nat) : gA := fun r c => if c = n + r ∧ r < i then 1 else A r c
theorem mt_unit_loop {m0 : qm_M} (hm : nt_ok 64 m0) {n : Nat} (hn : 0 < n ∧ n ≤ 4) (h17 : m0.1 112 17 = nI n) (h18 : m0.1 112 18 = nI n) (A : gA) (d : Nat) : ∀ (f i : Nat) (m : qm_M), n - i = d → i ≤ n → d < f → gM m n (gU A n i) → gQ m0 m → ∃ m1, L_M_invert_27 f (nI i) m = (qe_rV (F_M_clears (nI n) m1) fun m3 => if (m3.1 112 21) < (m3.1 112 17) then some (some (.int (-2 : Int32)), m3) else qe_rV (F_M_keepsAct m3) fun m4 => L_M_invert_85 1000000 (0 : Int32) m4) ∧ gM m1 n (gU A n n) ∧ gQ m0 m1 := by
  induction d with
  | zero =>
    intro f i m h1 h2 h3 h g
    obtain ⟨f, rfl⟩ : ∃ g, f = g + 1 := ⟨f - 1, by omega⟩
    have e : i = n := by omega
    subst e
    refine ⟨m, ?_, h, g⟩
    have st : L_M_invert_27 (f + 1) (nI i) m = X_M_invert_27 F_M_laysForm F_M_cellAt F_M_clears F_M_keepsAct (L_M_invert_27 f) (L_M_invert_85 1000000) (nI i) m := rfl
    rw [st]
    unfold X_M_invert_27
    rw [g.1, h17, if_neg (nI_nlt (Nat.le_refl _) (by omega)), h18]
  | succ d ih =>
    intro f i m h1 h2 h3 h g
    obtain ⟨f, rfl⟩ : ∃ g, f = g + 1 := ⟨f - 1, by omega⟩
    have hi : i < n := by omega
    obtain ⟨m1, r1, r2⟩ := ih f (i + 1) (qm_sL m 127 (8 * i + (n + i)) 1) (by omega) (by omega) (by omega) (fun r c hr hc => by
      rw [me_2L, if_pos rfl, h r c hr hc]
      unfold gU
      by_cases q : r = i ∧ c = n + i
      · rw [if_pos (by omega), if_pos (by omega)]; rfl
      · rw [if_neg (by omega)]
        by_cases y : c = n + r ∧ r < i
        · rw [if_pos y, if_pos (by omega)]
        · rw [if_neg y, if_neg (by omega)]) (g.tr (gQ.st _ _ _))
    refine ⟨m1, ?_, r2⟩
    have st : L_M_invert_27 (f + 1) (nI i) m = X_M_invert_27 F_M_laysForm F_M_cellAt F_M_clears F_M_keepsAct (L_M_invert_27 f) (L_M_invert_85 1000000) (nI i) m := rfl
    rw [st]
    unfold X_M_invert_27
    rw [g.1, h17, if_pos (nI_lt hi (by omega)), h18, nI_add, mt_cellAt, qe_rI_e, qm_in_nI (by omega) (by omega), nI_clamp (by omega), qe_b_e, nI_1]
    exact r1
theorem nu_unit_loop {m0 : qm_M} {n : Nat} (hn : 0 < n ∧ n ≤ 4) (A : gA) (d : Nat) : ∀ (f i : Nat) (m : qm_M), n - i = d → i ≤ n → d < f → cM m n (gU A n i) → cQ m0 m → ∃ m1, L_St_reduceBesideUnit_12 f (nI n) (nI i) m = (qe_rV (F_St_reduce (nI n) (nI n) (nI (2 * n)) m1) fun m2 => if (m2.1 67 2) = nI n then some (some (.int (1 : Int32)), m2) else some (some (.int (0 : Int32)), m2)) ∧ cM m1 n (gU A n n) ∧ cQ m0 m1 := by
  have e2 : (2 : Int32) * nI n = nI (2 * n) := pk_mul 2 n
  induction d with
  | zero =>
    intro f i m h1 h2 h3 h g
    obtain ⟨f, rfl⟩ : ∃ g, f = g + 1 := ⟨f - 1, by omega⟩
    have e : i = n := by omega
    subst e
    refine ⟨m, ?_, h, g⟩
    show X_St_reduceBesideUnit_12 _ _ _ _ _ _ = _
    unfold X_St_reduceBesideUnit_12
    rw [if_neg (nI_nlt (Nat.le_refl _) (by omega)), e2]
  | succ d ih =>
    intro f i m h1 h2 h3 h g
    obtain ⟨f, rfl⟩ : ∃ g, f = g + 1 := ⟨f - 1, by omega⟩
    have hi : i < n := by omega
    obtain ⟨m1, r1, r2⟩ := ih f (i + 1) (qm_sL m 68 (8 * i + n + i) 1) (by omega) (by omega) (by omega) (fun r c hr hc => by
      rw [me_2L, if_pos rfl, h r c hr hc]
      unfold gU
      by_cases q : r = i ∧ c = n + i
      · rw [if_pos (by omega), if_pos (by omega)]; rfl
      · rw [if_neg (by omega)]
        by_cases y : c = n + r ∧ r < i
        · rw [if_pos y, if_pos (by omega)]
        · rw [if_neg y, if_neg (by omega)]) (g.tr (cQ.st _ _ _))
    refine ⟨m1, ?_, r2⟩
    show X_St_reduceBesideUnit_12 _ _ _ _ _ _ = _
    unfold X_St_reduceBesideUnit_12
    rw [if_pos (nI_lt hi (by omega)), nI_8, nI_add, qm_in_nI (by omega) (by omega), nI_clamp (by omega), qe_b_e, nI_1]
    exact r1
theorem nu_besideUnit {m : qm_M} {s : sT} (h : cs m s) {n : Nat} (e0 : s.1 15 = lN n) (e1 : s.1 16 = lN n) (hn : 0 < n ∧ n ≤ 4) : ∃ m1, F_St_reduceBesideUnit m = some (some (.int (if (gs_run n (gU (gG s.1 n n) n n) n).2.1 = n then 1 else 0)), m1) ∧ cMS m1 n (gs_run n (gU (gG s.1 n n) n n) n) ∧ cF m m1 := by
  unfold F_St_reduceBesideUnit X_St_reduceBesideUnit_e
  obtain ⟨m1, a1, a2, a3⟩ := nu_load h e0 e1 hn hn
  have f0 : m.1 1 8 = nI n := cs_g h (k := 0) (by omega) e0
  obtain ⟨m2, b1, b2, b3⟩ := nu_unit_loop hn (gG s.1 n n) n 1000000 0 m1 rfl (Nat.zero_le _) (by omega) (fun r c hr hc => by
    unfold gU
    rw [if_neg (by omega)]
    exact a3 r c (by omega) hc) (cQ.rf m1)
  obtain ⟨m3, c1, c2, c3⟩ := nu_reduce (W := 2 * n) (N := n) hn.2 (by omega) (by omega) b2 (fun r c hr hc => by
    unfold gU
    rw [if_neg (by omega)]
    exact gG_z r c (by omega))
  have hle := gs_run_le (R := n) (A := gU (gG s.1 n n) n n) n
  have b1' : L_St_reduceBesideUnit_12 1000000 (nI n) 0 m1 = _ := b1
  rw [a1, qe_rV_e, f0, b1', c1, qe_rV_e, c2.2.1]
  refine ⟨m3, ?_, c2, (show cF m m2 from ⟨fun a _ _ => by rw [b3.1, a2.1], fun a _ z => by rw [b3.2 a z, a2.2 a z]⟩).tr c3⟩
  by_cases q : (gs_run n (gU (gG s.1 n n) n n) n).2.1 = n
  · rw [if_pos q, if_pos (by rw [q])]
  · rw [if_neg q, if_neg (fun z => q ((nI_eq (by omega) (by omega)).mp z))]
