/-! the model lays its table -/
def nt_fr (m m1 : qm_M) : Prop := m1.1 = m.1 ∧ ∀ a, a ≠ 117 → m1.2 a = m.2 a
theorem nt_fr.rf (m : qm_M) : nt_fr m m := ⟨rfl, fun _ _ => rfl⟩
theorem nt_fr.tr {m m1 m2 : qm_M} (h : nt_fr m m1) (g : nt_fr m1 m2) : nt_fr m m2 := ⟨g.1.trans h.1, fun a ha => (g.2 a ha).trans (h.2 a ha)⟩
theorem nt_fr.st (m : qm_M) (j : Nat) (x : Int64) : nt_fr m (qm_sL m 117 j x) := ⟨rfl, fun a ha => (qm_sL_other a ha).2⟩
theorem qm_sL_at (m : qm_M) (o j i : Nat) (x : Int64) : (qm_sL m o j x).2 o i = if i = j then x else m.2 o i := by
  rw [qm_sL_self]
  rfl
theorem nb_MM {i k : Nat} (hi : i < 64) (hk : k < 64) : nb_M i (nb_e k) = nb_M k (nb_e i) := by
  rw [nb_M_mul i hi, nb_M_mul k hk, nb_comm]
def nt_row (M k : Nat) (m : qm_M) : Prop := nt_ok M m ∧ ∀ b, b < k → m.2 117 (64 * M + b) = bn (nb_M M (nb_e b)) ∧ m.2 117 (64 * b + M) = bn (nb_M b (nb_e M))
theorem nt_row_ok {M : Nat} {m : qm_M} (h : nt_row M (M + 1) m) : nt_ok (M + 1) m := by
  intro a b ha hb
  by_cases e1 : a = M
  · subst e1; exact (h.2 b hb).1
  · by_cases e2 : b = M
    · subst e2; exact (h.2 a ha).2
    · exact h.1 a b (by omega) (by omega)
theorem mt_lays_row {M : Nat} (hM : M < 64) (K : Int32 → qm_M → Option qm_R) : ∀ (d f k : Nat) (m : qm_M), M + 1 - k = d → k ≤ M + 1 → d < f → nt_row M k m → ∃ m1, L_M_laysTwos_10 K f (nI M) (nI k) m = K (nI (M + 1)) m1 ∧ nt_row M (M + 1) m1 ∧ nt_fr m m1 := by
  intro d
  induction d with
  | zero =>
    intro f k m h1 h2 h3 hr
    obtain ⟨f, rfl⟩ : ∃ g, f = g + 1 := ⟨f - 1, by omega⟩
    have e : k = M + 1 := by omega
    subst e
    refine ⟨m, ?_, hr, nt_fr.rf m⟩
    show X_M_laysTwos_10 _ _ _ _ _ _ = _
    unfold X_M_laysTwos_10
    rw [if_pos (nI_lt (by omega) (by omega)), nI_succ]
  | succ d ih =>
    intro f k m h1 h2 h3 hr
    obtain ⟨f, rfl⟩ : ∃ g, f = g + 1 := ⟨f - 1, by omega⟩
    have hk : k ≤ M := by omega
    have hstep : L_M_laysTwos_10 K (f + 1) (nI M) (nI k) m = L_M_laysTwos_10 K f (nI M) (nI (k + 1)) (qm_sL (qm_sL m 117 (64 * M + k) (bn (nb_M M (nb_e k)))) 117 (64 * k + M) (bn (nb_M M (nb_e k)))) := by
      show X_M_laysTwos_10 _ _ _ _ _ _ = _
      unfold X_M_laysTwos_10
      rw [if_neg (nI_nlt hk (by omega)), mt_twoByTwo hr.1 hM (by omega) (Nat.le_refl _) hk]
      dsimp only [qe_rL]
      rw [nI_64 hM, nI_64 (by omega), nI_add, nI_add, qm_in_nI (by omega) (by omega), qm_in_nI (by omega) (by omega), nI_clamp (by omega), nI_clamp (by omega), nI_succ]
      rfl
    have hr2 : nt_row M (k + 1) (qm_sL (qm_sL m 117 (64 * M + k) (bn (nb_M M (nb_e k)))) 117 (64 * k + M) (bn (nb_M M (nb_e k)))) := by
      refine ⟨fun a b ha hb => ?_, fun b hb => ⟨?_, ?_⟩⟩
      · rw [qm_sL_at, if_neg (by omega), qm_sL_at, if_neg (by omega)]
        exact hr.1 a b ha hb
      · rw [qm_sL_at]
        by_cases q : 64 * M + b = 64 * k + M
        · rw [if_pos q]
          have e1 : b = k := by omega
          subst e1
          rfl
        · rw [if_neg q, qm_sL_at]
          by_cases q2 : 64 * M + b = 64 * M + k
          · rw [if_pos q2]
            have e1 : b = k := by omega
            subst e1
            rfl
          · rw [if_neg q2]
            exact (hr.2 b (by omega)).1
      · rw [qm_sL_at]
        by_cases q : 64 * b + M = 64 * k + M
        · rw [if_pos q]
          have e1 : b = k := by omega
          subst e1
          rw [nb_MM hM (by omega)]
        · rw [if_neg q, qm_sL_at]
          by_cases q2 : 64 * b + M = 64 * M + k
          · have e1 : b = k := by omega
            omega
          · rw [if_neg q2]
            exact (hr.2 b (by omega)).2
    obtain ⟨m1, g1, g2, g3⟩ := ih f (k + 1) _ (by omega) (by omega) (by omega) hr2
    exact ⟨m1, hstep.trans g1, g2, ((nt_fr.st m _ _).tr (nt_fr.st _ _ _)).tr g3⟩
theorem mt_lays_all : ∀ (d f M : Nat) (m : qm_M), 64 - M = d → M ≤ 64 → d < f → nt_ok M m → ∃ m1, L_M_laysTwos_2 f (nI M) m = some (none, m1) ∧ nt_ok 64 m1 ∧ nt_fr m m1 := by
  intro d
  induction d with
  | zero =>
    intro f M m h1 h2 h3 hm
    obtain ⟨f, rfl⟩ : ∃ g, f = g + 1 := ⟨f - 1, by omega⟩
    have e : M = 64 := by omega
    subst e
    refine ⟨m, ?_, hm, nt_fr.rf m⟩
    show X_M_laysTwos_2 _ _ _ _ = _
    unfold X_M_laysTwos_2
    have e64 : nI 64 = (64 : Int32) := rfl
    rw [e64, if_neg (by decide)]
  | succ d ih =>
    intro f M m h1 h2 h3 hm
    obtain ⟨f, rfl⟩ : ∃ g, f = g + 1 := ⟨f - 1, by omega⟩
    have hM : M < 64 := by omega
    obtain ⟨m1, g1, g2, g3⟩ := mt_lays_row hM (L_M_laysTwos_2 f) (M + 1) 1000000 0 m (by omega) (by omega) (by omega) ⟨hm, fun b hb => absurd hb (Nat.not_lt_zero _)⟩
    obtain ⟨m2, k1, k2, k3⟩ := ih f (M + 1) m1 (by omega) (by omega) (by omega) (nt_row_ok g2)
    refine ⟨m2, ?_, k2, g3.tr k3⟩
    show X_M_laysTwos_2 _ _ _ _ = _
    unfold X_M_laysTwos_2
    rw [if_pos (show nI M < 64 from nI_lt (a := M) (b := 64) (by omega) (by omega))]
    exact g1.trans k1
/-- the table is laid, nothing else is changed -/
theorem mt_lays (m : qm_M) : ∃ m1, F_M_laysTwos m = some (none, m1) ∧ nt_ok 64 m1 ∧ nt_fr m m1 := by
  unfold F_M_laysTwos X_M_laysTwos_e
  exact mt_lays_all 64 1000000 0 m rfl (by omega) (by omega) (fun a b ha => absurd ha (Nat.not_lt_zero _))
/-! the model's product -/
theorem mt_byTwoT {m : qm_M} (hm : nt_ok 64 m) {i : Nat} (hi : i < 64) (r : Int64) : F_M_byTwo (nI i) r m = some (some (.long (bn (nb_M i (nb r)))), m) :=
  mt_byTwo (B := 64) hi (fun k hk => hm i k hi hk) r (nb_cut_64 _)
theorem nb_mulN_cut (a b : nb_F) : ∀ n, nb_mulN n a b = nb_mul (nb_cut n a) b := by
  intro n
  induction n with
  | zero => rw [nb_cut_0, nb_0_mul]; rfl
  | succ n ih =>
    by_cases h : a.getLsbD n = true
    · have hn : n < 64 := by
        rcases Nat.lt_or_ge n 64 with q | q
        · exact q
        · rw [BitVec.getLsbD_of_ge _ _ q] at h; cases h
      simp only [nb_mulN, h, if_true]
      rw [nb_cut_succ, if_pos h, nb_add_mul, ih, nb_M_mul n hn]
    · simp only [nb_mulN, h]
      rw [nb_cut_succ, if_neg h, nb_x0, ih]
      exact nb_x0 _
theorem mt_product_loop {m : qm_M} (hm : nt_ok 64 m) (a b : nb_F) :
    ∀ (d f k : Nat), 64 - k = d → k ≤ 64 → d < f → L_M_product_9 f (bn b) (bn (nb_mulN k a b)) (bn (a >>> k)) (nI k) m = some (some (.long (bn (nb_mul a b))), m) := by
  intro d
  induction d with
  | zero =>
    intro f k h1 h2 h3
    obtain ⟨f, rfl⟩ : ∃ g, f = g + 1 := ⟨f - 1, by omega⟩
    have e : k = 64 := by omega
    subst e
    show X_M_product_9 _ _ _ _ _ _ _ = _
    unfold X_M_product_9
    have h0 : a >>> 64 = 0 := by
      ext i hi
      rw [BitVec.getElem_ushiftRight]
      simp
    rw [h0, if_pos ((no_cmpz _).mpr rfl)]
    rfl
  | succ d ih =>
    intro f k h1 h2 h3
    obtain ⟨f, rfl⟩ : ∃ g, f = g + 1 := ⟨f - 1, by omega⟩
    show X_M_product_9 _ _ _ _ _ _ _ = _
    unfold X_M_product_9
    by_cases h0 : a >>> k = 0
    · rw [h0, if_pos ((no_cmpz _).mpr rfl), nb_mulN_cut, nb_shr_0 h0]
    · rw [if_neg (fun q => h0 ((no_cmpz (bn (a >>> k))).mp q))]
      have es : qo_lushr (bn (a >>> k)) 1 = bn (a >>> (k + 1)) := nb_inj (by rw [no_lushr1, nb_bn, nb_bn, nb_shr_succ])
      have en : nI k + 1 = nI (k + 1) := (nI_succ k).symm
      by_cases hb : a.getLsbD k = true
      · rw [if_pos ((no_cmpo _).mpr (by rw [no_and, nb_bn, nb_1l]; exact (nb_bit1 a k).mpr hb)), mt_byTwoT hm (by omega)]
        dsimp only [qe_rL]
        have ev : bn (nb_mulN k a b) ^^^ bn (nb_M k (nb (bn b))) = bn (nb_mulN (k + 1) a b) := nb_inj (by
          rw [no_xor, nb_bn, nb_bn, nb_bn]
          simp only [nb_mulN, hb, if_true]
          rfl)
        rw [ev, es, en]
        exact ih f (k + 1) (by omega) (by omega) (by omega)
      · rw [if_neg (fun q => hb (by
          have q2 := (no_cmpo _).mp q
          rw [no_and, nb_bn, nb_1l] at q2
          exact (nb_bit1 a k).mp q2))]
        have ev : nb_mulN k a b = nb_mulN (k + 1) a b := by
          simp only [nb_mulN, hb]
          exact (nb_x0 _).symm
        rw [ev, es, en]
        exact ih f (k + 1) (by omega) (by omega) (by omega)
theorem mt_product {m : qm_M} (hm : nt_ok 64 m) (a b : Int64) : F_M_product a b m = some (some (.long (bn (nb_mul (nb a) (nb b)))), m) := by
  unfold F_M_product X_M_product_e
  have h := mt_product_loop hm (nb a) (nb b) 64 1000000 0 rfl (by omega) (by omega)
  have e0 : nb a >>> 0 = nb a := by
    ext i hi
    simp
  rw [e0] at h
  exact h
theorem mt_square {m : qm_M} (hm : nt_ok 64 m) (a : Int64) : F_M_square a m = some (some (.long (bn (nb_mul (nb a) (nb a)))), m) := by
  unfold F_M_square X_M_square_e
  rw [mt_product hm]
  rfl
