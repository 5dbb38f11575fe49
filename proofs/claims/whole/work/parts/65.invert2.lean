/-! inverses of grids: written back -/
/-- the inverse's entries; below i rows, of row i below k -/
def sI (P : sP) (n : Nat) (T : gA) (i k : Nat) : sP := fun j => if 17 ≤ j ∧ j < 33 ∧ (j - 17) % 4 < n ∧ ((j - 17) / 4 < i ∨ (j - 17) / 4 = i ∧ (j - 17) % 4 < k) then bn (T ((j - 17) / 4) (n + (j - 17) % 4)) else P j
theorem sI_n (P : sP) (n : Nat) (T : gA) (i : Nat) : sI P n T i n = sI P n T (i + 1) 0 := by
  funext j
  unfold sI
  by_cases h : 17 ≤ j ∧ j < 33 ∧ (j - 17) % 4 < n ∧ ((j - 17) / 4 < i ∨ (j - 17) / 4 = i ∧ (j - 17) % 4 < n)
  · rw [if_pos h, if_pos (by omega)]
  · rw [if_neg h, if_neg (by omega)]
theorem sI_s (P : sP) {n : Nat} (T : gA) {i k : Nat} (hi : i < 4) (hk : k < n) (hn : n ≤ 4) : sS (sI P n T i k) (17 + (4 * i + k)) (bn (T i (n + k))) = sI P n T i (k + 1) := by
  funext j
  show (if j = 17 + (4 * i + k) then bn (T i (n + k)) else sI P n T i k j) = sI P n T i (k + 1) j
  unfold sI
  by_cases q : j = 17 + (4 * i + k)
  · rw [if_pos q, if_pos (by omega), show (j - 17) / 4 = i by omega, show (j - 17) % 4 = k by omega]
  · rw [if_neg q]
    by_cases h : 17 ≤ j ∧ j < 33 ∧ (j - 17) % 4 < n ∧ ((j - 17) / 4 < i ∨ (j - 17) / 4 = i ∧ (j - 17) % 4 < k)
    · rw [if_pos h, if_pos (by omega)]
    · rw [if_neg h, if_neg (by omega)]
theorem sI_0 (P : sP) (n : Nat) (T : gA) : sI P n T 0 0 = P := by
  funext j
  unfold sI
  rw [if_neg (by omega)]
theorem sI_g (P : sP) (n : Nat) (T : gA) (i k : Nat) : sI P n T i k 15 = P 15 ∧ sI P n T i k 16 = P 16 := by
  unfold sI
  exact ⟨if_neg (by omega), if_neg (by omega)⟩
theorem px_ok.inv {P : sP} (h : px_ok P) (n : Nat) (T : gA) (i k : Nat) : px_ok (sI P n T i k) := h.c (fun j hj => by
  unfold sI
  rw [if_neg (by omega)])
theorem nu_inv60 {n : Nat} (hn : 0 < n ∧ n ≤ 4) {T : gT} {P : sP} (e0 : P 15 = lN n) (e1 : P 16 = lN n) (r : Nat × (Nat → sP)) (u : ((Nat → Bool) × (Nat → sP)) × (Nat × (Nat → Int32))) (K : Int32 → qm_M → Option qm_R) {i : Nat} (hi : i < n) (d : Nat) : ∀ (f k : Nat) (m : qm_M), n - k = d → k ≤ n → d < f → cs m (sI P n T.1 i k, r, u) → cM m n T.1 →
    ∃ m1, L_T_invert_60 K f (nI i) (nI k) m = K (nI (i + 1)) m1 ∧ cs m1 (sI P n T.1 (i + 1) 0, r, u) ∧ cM m1 n T.1 ∧ hi_fr m m1 := by
  induction d with
  | zero =>
    intro f k m h1 h2 h3 h hT
    obtain ⟨f, rfl⟩ : ∃ g, f = g + 1 := ⟨f - 1, by omega⟩
    have e : k = n := by omega
    subst e
    refine ⟨m, ?_, by rw [← sI_n]; exact h, hT, hi_fr.rf m⟩
    have f1 : m.1 1 9 = nI k := cs_g h (k := 1) (by omega) (by show sI P k T.1 i k 16 = _; rw [(sI_g _ _ _ _ _).2]; exact e1)
    show X_T_invert_60 _ _ _ _ _ _ _ _ _ = _
    unfold X_T_invert_60
    rw [f1, if_neg (nI_nlt (Nat.le_refl _) (by omega)), nI_1]
  | succ d ih =>
    intro f k m h1 h2 h3 h hT
    obtain ⟨f, rfl⟩ : ∃ g, f = g + 1 := ⟨f - 1, by omega⟩
    have hk : k < n := by omega
    have e0' : sI P n T.1 i k 15 = lN n := by rw [(sI_g _ _ _ _ _).1]; exact e0
    have e1' : sI P n T.1 i k 16 = lN n := by rw [(sI_g _ _ _ _ _).2]; exact e1
    have f1 : m.1 1 9 = nI n := cs_g h (k := 1) (by omega) e1'
    have hE := h.setE (k := 4 * i + k) (by omega) (bn (T.1 i (n + k)))
    have hs : (sS (sI P n T.1 i k, r, u).1 (17 + (4 * i + k)) (bn (T.1 i (n + k))), (sI P n T.1 i k, r, u).2) = (sI P n T.1 i (k + 1), r, u) := by
      show (sS (sI P n T.1 i k) (17 + (4 * i + k)) (bn (T.1 i (n + k))), r, u) = _
      rw [sI_s P T.1 (by omega) hk hn.2]
    rw [hs] at hE
    obtain ⟨m1, r1, r2, r3, r4⟩ := ih f (k + 1) (qm_sL m 3 (4 * i + k) (bn (T.1 i (n + k)))) (by omega) (by omega) (by omega) hE (fun r c hr hc => by rw [me_2L, if_neg (by decide)]; exact hT r c hr hc)
    refine ⟨m1, ?_, r2, r3, (hi_fr.L m (by omega)).tr r4⟩
    show X_T_invert_60 _ _ _ _ _ _ _ _ _ = _
    unfold X_T_invert_60
    rw [f1, if_pos (nI_lt hk (by omega)), nI_add, nu_cellAt hT hn.2 hi (by omega), qe_rL_e, nu_setEntry h e0' e1' (by omega) (by omega) hi hk, qe_rV_e, nI_1]
    exact r1
theorem nu_inv47 {n : Nat} (hn : 0 < n ∧ n ≤ 4) {T : gT} {P : sP} (e0 : P 15 = lN n) (e1 : P 16 = lN n) (r : Nat × (Nat → sP)) (u : ((Nat → Bool) × (Nat → sP)) × (Nat × (Nat → Int32))) (d : Nat) : ∀ (f i : Nat) (m : qm_M), n - i = d → i ≤ n → d < f → cs m (sI P n T.1 i 0, r, u) → cM m n T.1 →
    ∃ m1, L_T_invert_47 f (nI i) m = some (some (.int 1), m1) ∧ cs m1 (sI P n T.1 n 0, r, u) ∧ hi_fr m m1 := by
  induction d with
  | zero =>
    intro f i m h1 h2 h3 h hT
    obtain ⟨f, rfl⟩ : ∃ g, f = g + 1 := ⟨f - 1, by omega⟩
    have e : i = n := by omega
    subst e
    refine ⟨m, ?_, h, hi_fr.rf m⟩
    have f0 : m.1 1 8 = nI i := cs_g h (k := 0) (by omega) (by show sI P i T.1 i 0 15 = _; rw [(sI_g _ _ _ _ _).1]; exact e0)
    show X_T_invert_47 _ _ _ _ _ _ _ = _
    unfold X_T_invert_47
    rw [f0, if_neg (nI_nlt (Nat.le_refl _) (by omega))]
  | succ d ih =>
    intro f i m h1 h2 h3 h hT
    obtain ⟨f, rfl⟩ : ∃ g, f = g + 1 := ⟨f - 1, by omega⟩
    have hi : i < n := by omega
    have f0 : m.1 1 8 = nI n := cs_g h (k := 0) (by omega) (by show sI P n T.1 i 0 15 = _; rw [(sI_g _ _ _ _ _).1]; exact e0)
    obtain ⟨m1, a1, a2, a3, a4⟩ := nu_inv60 hn e0 e1 r u (L_T_invert_47 f) hi n 1000000 0 m rfl (Nat.zero_le _) (by omega) h hT
    obtain ⟨m2, b1, b2, b3⟩ := ih f (i + 1) m1 (by omega) (by omega) (by omega) a2 a3
    refine ⟨m2, ?_, b2, a4.tr b3⟩
    have st : L_T_invert_47 (f + 1) (nI i) m = X_T_invert_47 F_St_reduceBesideUnit F_Pa_push F_St_cellAt F_Ps_setEntry (L_T_invert_60 (L_T_invert_47 f) 1000000) (nI i) m := rfl
    rw [st]
    unfold X_T_invert_47
    rw [f0, if_pos (nI_lt hi (by omega))]
    exact a1.trans b1
