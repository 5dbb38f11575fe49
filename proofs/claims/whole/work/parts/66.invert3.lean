/-! inverses of grids: the model writes them back; both -/
theorem mt_inv95 {n : Nat} (hn : 0 < n ∧ n ≤ 4) {T : gT} {P : sP} {m0 : qm_M} (h17 : m0.1 112 17 = nI n) (h18 : m0.1 112 18 = nI n) (hT : gM m0 n T.1) (K : Int32 → qm_M → Option qm_R) {i : Nat} (hi : i < n) (d : Nat) : ∀ (f k : Nat) (m : qm_M), n - k = d → k ≤ n → d < f → ms_now m (sI P n T.1 i k) → m.1 = m0.1 → (∀ a, a ≠ 113 → m.2 a = m0.2 a) →
    ∃ m1, L_M_invert_95 K f (nI i) (nI k) m = K (nI (i + 1)) m1 ∧ ms_now m1 (sI P n T.1 (i + 1) 0) ∧ m1.1 = m0.1 ∧ (∀ a, a ≠ 113 → m1.2 a = m0.2 a) := by
  induction d with
  | zero =>
    intro f k m h1 h2 h3 h q1 q2
    obtain ⟨f, rfl⟩ : ∃ g, f = g + 1 := ⟨f - 1, by omega⟩
    have e : k = n := by omega
    subst e
    refine ⟨m, ?_, by rw [← sI_n]; exact h, q1, q2⟩
    show X_M_invert_95 _ _ _ _ _ _ _ _ _ = _
    unfold X_M_invert_95
    rw [q1, h18, if_neg (nI_nlt (Nat.le_refl _) (by omega)), nI_1]
  | succ d ih =>
    intro f k m h1 h2 h3 h q1 q2
    obtain ⟨f, rfl⟩ : ∃ g, f = g + 1 := ⟨f - 1, by omega⟩
    have hk : k < n := by omega
    obtain ⟨m1, r1, r2⟩ := ih f (k + 1) (qm_sL m 113 (17 + (4 * i + k)) (bn (T.1 i (n + k)))) (by omega) (by omega) (by omega) (fun j hj => by
      rw [me_2L, if_pos rfl, ← sI_s P T.1 (by omega) hk hn.2]
      show _ = if j = 17 + (4 * i + k) then bn (T.1 i (n + k)) else sI P n T.1 i k j
      rw [h j hj]) q1 (fun a ha => by rw [(qm_sL_other a ha).2]; exact q2 a ha)
    refine ⟨m1, ?_, r2⟩
    show X_M_invert_95 _ _ _ _ _ _ _ _ _ = _
    unfold X_M_invert_95
    have e17 : (17 : Int32) + (4 : Int32) * nI i + nI k = nI (17 + (4 * i + k)) := by
      have e4 : (4 : Int32) * nI i = nI (4 * i) := pk_mul 4 i
      have e17 : (17 : Int32) + nI (4 * i) = nI (17 + 4 * i) := nI_add 17 (4 * i)
      rw [e4, e17, nI_add, Nat.add_assoc]
    rw [q1, h18, if_pos (nI_lt hk (by omega)), nI_add, mt_cellAt, qe_rI_e, qm_in_nI (by omega) (by omega), nI_clamp (by omega), qe_b_e, e17, qm_in_nI (by omega) (by omega), nI_clamp (by omega), qe_b_e, q2 127 (by omega), hT i (n + k) hi (by omega), nI_1]
    exact r1
theorem mt_inv85 {n : Nat} (hn : 0 < n ∧ n ≤ 4) {T : gT} {P : sP} {m0 : qm_M} (h17 : m0.1 112 17 = nI n) (h18 : m0.1 112 18 = nI n) (hT : gM m0 n T.1) (d : Nat) : ∀ (f i : Nat) (m : qm_M), n - i = d → i ≤ n → d < f → ms_now m (sI P n T.1 i 0) → m.1 = m0.1 → (∀ a, a ≠ 113 → m.2 a = m0.2 a) →
    ∃ m1, L_M_invert_85 f (nI i) m = some (some (.int 1), m1) ∧ ms_now m1 (sI P n T.1 n 0) ∧ m1.1 = m0.1 ∧ (∀ a, a ≠ 113 → m1.2 a = m0.2 a) := by
  induction d with
  | zero =>
    intro f i m h1 h2 h3 h q1 q2
    obtain ⟨f, rfl⟩ : ∃ g, f = g + 1 := ⟨f - 1, by omega⟩
    have e : i = n := by omega
    subst e
    refine ⟨m, ?_, h, q1, q2⟩
    show X_M_invert_85 _ _ _ _ _ _ _ = _
    unfold X_M_invert_85
    rw [q1, h17, if_neg (nI_nlt (Nat.le_refl _) (by omega))]
  | succ d ih =>
    intro f i m h1 h2 h3 h q1 q2
    obtain ⟨f, rfl⟩ : ∃ g, f = g + 1 := ⟨f - 1, by omega⟩
    have hi : i < n := by omega
    obtain ⟨m1, a1, a2, a3, a4⟩ := mt_inv95 hn h17 h18 hT (L_M_invert_85 f) hi n 1000000 0 m rfl (Nat.zero_le _) (by omega) h q1 q2
    obtain ⟨m2, b1, b2⟩ := ih f (i + 1) m1 (by omega) (by omega) (by omega) a2 a3 a4
    refine ⟨m2, ?_, b2⟩
    have st : L_M_invert_85 (f + 1) (nI i) m = X_M_invert_85 F_M_laysForm F_M_cellAt F_M_clears F_M_keepsAct (L_M_invert_95 (L_M_invert_85 f) 1000000) (nI i) m := rfl
    rw [st]
    unfold X_M_invert_85
    rw [q1, h17, if_pos (nI_lt hi (by omega))]
    exact a1.trans b1
