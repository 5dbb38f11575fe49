/-! least polynomials: the model computes them -/
abbrev nl_T (a : Nat) : Prop := a = 119
theorem mt_least126 {x : nb_F} {m : qm_M} (hp : ∀ k, k ≤ 2 ^ nb_lev x → m.2 119 k = bn (nl_p (nl_cs x) (2 ^ nb_lev x) k)) (d : Nat) : ∀ (f k : Nat), 2 ^ nb_lev x - k = d → k ≤ 2 ^ nb_lev x → d < f → L_M_least_126 f (nI (2 ^ nb_lev x)) (bn (nl_B x k)) (nI k) m = some (some (.long (bn (nw_least x))), m) := by
  obtain ⟨d0, d64⟩ := nl_D64 x
  induction d with
  | zero =>
    intro f k h1 h2 h3
    obtain ⟨f, rfl⟩ : ∃ g, f = g + 1 := ⟨f - 1, by omega⟩
    have e : k = 2 ^ nb_lev x := by omega
    subst e
    show X_M_least_126 _ _ _ _ _ _ _ _ = _
    unfold X_M_least_126
    rw [if_neg (nI_nlt (Nat.le_refl _) (by omega))]
    rfl
  | succ d ih =>
    intro f k h1 h2 h3
    obtain ⟨f, rfl⟩ : ∃ g, f = g + 1 := ⟨f - 1, by omega⟩
    show X_M_least_126 _ _ _ _ _ _ _ _ = _
    unfold X_M_least_126
    have ih2 := ih f (k + 1) (by omega) (by omega) (by omega)
    rw [if_pos (nI_lt (by omega) (by omega)), qm_in_nI (by omega) (by omega), nI_clamp (by omega), hp k (by omega), nI_1]
    dsimp only [qe_b, cond_true]
    have e : bn (nl_B x k) ||| qo_lshl (bn (nl_p (nl_cs x) (2 ^ nb_lev x) k) &&& 1) (nI k) = bn (nl_B x (k + 1)) := by
      have e1 : qo_lshl (bn (nl_p (nl_cs x) (2 ^ nb_lev x) k) &&& 1) (nI k) = bn ((nl_p (nl_cs x) (2 ^ nb_lev x) k &&& 1) <<< k) := nb_inj (no_lshl _ (by omega))
      rw [e1]
      rfl
    rw [e]
    exact ih2
/-- the rows while one factor comes in: those above k are new -/
def nl_row (cs : Nat → nb_F) (D n : Nat) (k : Nat) (m : qm_M) : Prop := ∀ j, j ≤ D → m.2 119 j = bn (if k < j then nl_p cs (n + 1) j else nl_p cs n j)
theorem mt_least56 {m0 : qm_M} (hm : nt_ok 64 m0) {cs : Nat → nb_F} {D n : Nat} (hD : D ≤ 64) (hn : n < D) (K : Int32 → Int64 → Int32 → qm_M → Option qm_R) : ∀ (k f : Nat) (m : qm_M), k ≤ n + 1 → k + 1 < f → nl_row cs D n k m → fr no_S nl_T m0 m →
    ∃ m1, L_M_least_56 K f (nI D) (bn (cs n)) (nI n) (nI k) m = K (nI D) (bn (nb_sq (cs n))) (nI (n + 1)) m1 ∧ (∀ j, j ≤ D → m1.2 119 j = bn (nl_p cs (n + 1) j)) ∧ fr no_S nl_T m0 m1 := by
  intro k
  induction k with
  | zero =>
    intro f m hk hf hr g
    obtain ⟨f, rfl⟩ : ∃ g, f = g + 2 := ⟨f - 2, by omega⟩
    have e0 := hr 0 (by omega)
    rw [if_neg (by omega)] at e0
    have en : (0 : Int64) ^^^ bn (nb_mul (cs n) (nl_p cs n 0)) = bn (nl_p cs (n + 1) 0) := by
      rw [nl_p_s, if_pos rfl]
      exact bn_xor 0 _
    refine ⟨qm_sL m 119 0 (bn (nl_p cs (n + 1) 0)), ?_, fun j hj => ?_, g.sL rfl⟩
    · show X_M_least_56 _ _ _ _ (L_M_least_85 K (L_M_least_56 K (f + 1))) _ _ _ _ _ = _
      unfold X_M_least_56
      rw [if_neg (by decide), if_neg (by decide)]
      unfold L_M_least_85 X_M_least_85
      rw [qm_in_nI (by omega) (by omega), nI_clamp (by omega), e0, mt_product (hm.fr g (by decide)), nb_bn, nb_bn]
      dsimp only [qe_b, cond_true, qe_rL]
      rw [en]
      show X_M_least_56 _ _ _ _ (L_M_least_85 K (L_M_least_56 K f)) _ _ _ _ _ = _
      unfold X_M_least_56
      rw [if_pos (by decide), mt_square (hm.fr (g.sL rfl) (by decide)), nb_bn, nI_1]
      rfl
    · rw [me_2L, if_pos rfl]
      by_cases q : j = 0
      · rw [if_pos q, q]
      · rw [if_neg q, hr j hj, if_pos (by omega)]
  | succ k ih =>
    intro f m hk hf hr g
    obtain ⟨f, rfl⟩ : ∃ g, f = g + 1 := ⟨f - 1, by omega⟩
    have e0 := hr (k + 1) (by omega)
    rw [if_neg (by omega)] at e0
    have e1 := hr k (by omega)
    rw [if_neg (by omega)] at e1
    have en : bn (nl_p cs n k) ^^^ bn (nb_mul (cs n) (nl_p cs n (k + 1))) = bn (nl_p cs (n + 1) (k + 1)) := by
      rw [nl_p_s, if_neg (by omega), Nat.add_sub_cancel]
      exact bn_xor _ _
    obtain ⟨m1, q1, q2, q3⟩ := ih f (qm_sL m 119 (k + 1) (bn (nl_p cs (n + 1) (k + 1)))) (by omega) (by omega) (fun j hj => by
      rw [me_2L, if_pos rfl]
      by_cases q : j = k + 1
      · rw [if_pos q, q, if_pos (by omega)]
      · rw [if_neg q, hr j hj]
        by_cases z : k + 1 < j
        · rw [if_pos z, if_pos (by omega)]
        · rw [if_neg z, if_neg (by omega)]) (g.sL rfl)
    refine ⟨m1, ?_, q2, q3⟩
    show X_M_least_56 _ _ _ _ (L_M_least_85 K (L_M_least_56 K f)) _ _ _ _ _ = _
    unfold X_M_least_56
    have ep : (0 : Int32) < nI (k + 1) := nI_lt (a := 0) (b := k + 1) (by omega) (by omega)
    rw [if_neg (nI_pos (by omega)), if_pos ep, nI_pred, qm_in_nI (by omega) (by omega), nI_clamp (by omega), e1]
    dsimp only [qe_b, cond_true]
    unfold L_M_least_85 X_M_least_85
    rw [qm_in_nI (by omega) (by omega), nI_clamp (by omega), e0, mt_product (hm.fr g (by decide)), nb_bn, nb_bn]
    dsimp only [qe_b, cond_true, qe_rL]
    rw [en, pk_m1]
    exact q1
theorem mt_least44 {m0 : qm_M} (hm : nt_ok 64 m0) (x : nb_F) (d : Nat) : ∀ (f n : Nat) (m : qm_M), 2 ^ nb_lev x - n = d → n ≤ 2 ^ nb_lev x → d < f → (∀ j, j ≤ 2 ^ nb_lev x → m.2 119 j = bn (nl_p (nl_cs x) n j)) → fr no_S nl_T m0 m →
    ∃ m1, L_M_least_44 f (nI (2 ^ nb_lev x)) (bn (nl_cs x n)) (nI n) m = some (some (.long (bn (nw_least x))), m1) ∧ fr no_S nl_T m0 m1 := by
  obtain ⟨d0, d64⟩ := nl_D64 x
  induction d with
  | zero =>
    intro f n m h1 h2 h3 hr g
    obtain ⟨f, rfl⟩ : ∃ g, f = g + 1 := ⟨f - 1, by omega⟩
    have e : n = 2 ^ nb_lev x := by omega
    subst e
    refine ⟨m, ?_, g⟩
    show X_M_least_44 _ _ _ _ _ _ _ _ _ = _
    unfold X_M_least_44
    rw [if_neg (nI_nlt (Nat.le_refl _) (by omega))]
    exact mt_least126 hr (2 ^ nb_lev x) 1000000 0 rfl (Nat.zero_le _) (by omega)
  | succ d ih =>
    intro f n m h1 h2 h3 hr g
    obtain ⟨f, rfl⟩ : ∃ g, f = g + 1 := ⟨f - 1, by omega⟩
    obtain ⟨m1, q1, q2, q3⟩ := mt_least56 hm d64 (cs := nl_cs x) (n := n) (by omega) (L_M_least_44 f) (n + 1) 1000000 m (Nat.le_refl _) (by omega) (fun j hj => by
      rw [hr j hj]
      by_cases z : n + 1 < j
      · rw [if_pos z, nl_p_z _ _ _ (by omega), nl_p_z _ _ _ (by omega)]
      · rw [if_neg z]) g
    obtain ⟨m2, r1, r2⟩ := ih f (n + 1) m1 (by omega) (by omega) (by omega) q2 q3
    refine ⟨m2, ?_, r2⟩
    show X_M_least_44 _ _ _ _ _ _ _ _ _ = _
    unfold X_M_least_44
    rw [if_pos (nI_lt (by omega) (by omega)), nI_1, q1]
    have e : nb_sq (nl_cs x n) = nl_cs x (n + 1) := nb_sqN_s' n x
    rw [e]
    exact r1
theorem mt_least9 {m0 : qm_M} (hm : nt_ok 64 m0) (x : nb_F) (d : Nat) : ∀ (f k : Nat) (m : qm_M), 2 ^ nb_lev x + 1 - k = d → k ≤ 2 ^ nb_lev x + 1 → d < f → (∀ j, j < k → m.2 119 j = bn (nl_p (nl_cs x) 0 j)) → fr no_S nl_T m0 m →
    ∃ m1, L_M_least_9 f (bn x) (nI (2 ^ nb_lev x)) (nI k) m = some (some (.long (bn (nw_least x))), m1) ∧ fr no_S nl_T m0 m1 := by
  obtain ⟨d0, d64⟩ := nl_D64 x
  induction d with
  | zero =>
    intro f k m h1 h2 h3 hr g
    obtain ⟨f, rfl⟩ : ∃ g, f = g + 1 := ⟨f - 1, by omega⟩
    have e : k = 2 ^ nb_lev x + 1 := by omega
    subst e
    obtain ⟨m1, q1, q2⟩ := mt_least44 hm x (2 ^ nb_lev x) 1000000 0 m rfl (Nat.zero_le _) (by omega) (fun j hj => hr j (by omega)) g
    refine ⟨m1, ?_, q2⟩
    show X_M_least_9 _ _ _ _ _ _ _ _ _ = _
    unfold X_M_least_9
    rw [if_pos (nI_lt (by omega) (by omega))]
    exact q1
  | succ d ih =>
    intro f k m h1 h2 h3 hr g
    obtain ⟨f, rfl⟩ : ∃ g, f = g + 1 := ⟨f - 1, by omega⟩
    obtain ⟨m1, q1, q2⟩ := ih f (k + 1) (qm_sL m 119 k (bn (nl_p (nl_cs x) 0 k))) (by omega) (by omega) (by omega) (fun j hj => by
      rw [me_2L, if_pos rfl]
      by_cases q : j = k
      · rw [if_pos q, q]
      · rw [if_neg q]; exact hr j (by omega)) (g.sL rfl)
    refine ⟨m1, ?_, q2⟩
    show X_M_least_9 _ _ _ _ _ _ _ _ _ = _
    unfold X_M_least_9
    rw [if_neg (nI_nlt (by omega) (by omega)), qm_in_nI (by omega) (by omega), nI_clamp (by omega), nI_1]
    rw [nl_p_0] at q1
    by_cases q : k = 0
    · rw [if_pos q] at q1
      rw [if_pos (by rw [q]; rfl)]
      exact q1
    · rw [if_neg q] at q1
      rw [if_neg (nI_ne0 (by omega) (by omega))]
      exact q1
theorem mw_least {m : qm_M} (hm : nt_ok 64 m) (x : Int64) : ∃ m1, F_M_least x m = some (some (.long (bn (nw_least (nb x)))), m1) ∧ fr no_S nl_T m m1 := by
  unfold F_M_least X_M_least_e
  rw [mt_degreeOf hm]
  dsimp only [qe_rI]
  exact mt_least9 hm (nb x) (2 ^ nb_lev (nb x) + 1) 1000000 0 m rfl (Nat.zero_le _) (by have := nl_D64 (nb x); omega) (fun j hj => absurd hj (Nat.not_lt_zero _)) (fr.rf m)
/-! the class: by vectors of bits -/
abbrev ns_T (a : Nat) : Prop := a = 65 ∨ a = 66
theorem nu_clear_loop (m0 : qm_M) (d : Nat) : ∀ (f k : Nat) (m : qm_M), 64 - k = d → k ≤ 64 → d < f → (∀ j, j < k → m.2 65 j = 0) → fr no_S ns_T m0 m → ∃ m1, L_Sp_clear_2 f (nI k) m = some (none, m1) ∧ (∀ j, j < 64 → m1.2 65 j = 0) ∧ fr no_S ns_T m0 m1 := by
  induction d with
  | zero =>
    intro f k m h1 h2 h3 hr g
    obtain ⟨f, rfl⟩ : ∃ g, f = g + 1 := ⟨f - 1, by omega⟩
    have e : k = 64 := by omega
    subst e
    refine ⟨m, ?_, hr, g⟩
    show X_Sp_clear_2 _ _ _ = _
    unfold X_Sp_clear_2
    rw [if_neg (by decide)]
  | succ d ih =>
    intro f k m h1 h2 h3 hr g
    obtain ⟨f, rfl⟩ : ∃ g, f = g + 1 := ⟨f - 1, by omega⟩
    obtain ⟨m1, q1, q2, q3⟩ := ih f (k + 1) (qm_sL m 65 k 0) (by omega) (by omega) (by omega) (fun j hj => by
      rw [me_2L, if_pos rfl]
      by_cases q : j = k
      · rw [if_pos q]
      · rw [if_neg q]; exact hr j (by omega)) (g.sL (Or.inl rfl))
    refine ⟨m1, ?_, q2, q3⟩
    show X_Sp_clear_2 _ _ _ = _
    unfold X_Sp_clear_2
    have e1 : nI k < (64 : Int32) := nI_lt (a := k) (b := 64) (by omega) (by omega)
    rw [if_pos e1, qm_in_nI (by omega) (by omega), nI_clamp (by omega), nI_1]
    exact q1
/-- behind i vectors: what stands there is what its tag stands for; the highest bits of all sums are there -/
def ns_ok (x : nb_F) (i : Nat) (m : qm_M) : Prop := (∀ h, h < 64 → m.2 65 h ≠ 0 → nl_lt i (nb (m.2 66 h)) ∧ nb (m.2 65 h) = nl_v x (nb (m.2 66 h)) ∧ nb_hib (nb (m.2 65 h)) h) ∧ ∀ t h, nl_lt i t → nb_hib (nl_v x t) h → m.2 65 h ≠ 0
theorem nb_hib_lt {v : nb_F} {n : Nat} (h : ∀ j, n + 1 ≤ j → v.getLsbD j = false) (hb : v.getLsbD n = false) : ∀ j, n ≤ j → v.getLsbD j = false := fun j hj => by
  by_cases q : j = n
  · rw [q]; exact hb
  · exact h j (by omega)
theorem nb_xor_hib {v w : nb_F} {n : Nat} (h : ∀ j, n + 1 ≤ j → v.getLsbD j = false) (hv : v.getLsbD n = true) (hw : nb_hib w n) : ∀ j, n ≤ j → (v ^^^ w).getLsbD j = false := fun j hj => by
  rw [BitVec.getLsbD_xor]
  by_cases q : j = n
  · rw [q, hv, hw.2.1]; rfl
  · rw [h j (by omega), hw.2.2 j (by omega)]; rfl
theorem nu_add_loop {x : nb_F} {i : Nat} (hi : i < 2 ^ nb_lev x) {m : qm_M} (hr : ns_ok x i m) : ∀ (n f : Nat) (v s : nb_F), n ≤ 64 → n < f → (∀ j, n ≤ j → v.getLsbD j = false) → v = nl_v x s → nl_lt (i + 1) s → s.getLsbD i = true →
    ∃ m1, L_Sp_add_10 f (bn v) (bn s) (nI n - 1) m = some (none, m1) ∧ ns_ok x (i + 1) m1 ∧ fr no_S ns_T m m1 := by
  have hnz : ∀ s : nb_F, nl_lt (i + 1) s → s.getLsbD i = true → nl_v x s ≠ 0 := fun s h1 h2 z => by
    have := nl_ind (nl_lt_up (by omega) h1) z
    rw [this] at h2
    simp at h2
  intro n
  induction n with
  | zero =>
    intro f v s _ _ hv e1 e2 e3
    exact absurd (BitVec.eq_of_getLsbD_eq (fun i _ => by rw [hv i (Nat.zero_le _)]; simp)) (e1 ▸ hnz s e2 e3)
  | succ n ih =>
    intro f v s hn hf hv e1 e2 e3
    obtain ⟨f, rfl⟩ : ∃ g, f = g + 1 := ⟨f - 1, by omega⟩
    rw [nI_pred]
    have em : nI n + (-1) = nI n - 1 := by rw [← Int32.sub_eq_add_neg]
    have step : L_Sp_add_10 (f + 1) (bn v) (bn s) (nI n) m = X_Sp_add_10 (L_Sp_add_10 f) (bn v) (bn s) (nI n) m := rfl
    rw [step]
    unfold X_Sp_add_10
    rw [if_neg (nI_pos (by omega)), em]
    by_cases hb : v.getLsbD n = true
    · rw [if_neg (fun z => by rw [(no_cmp0b v n (by omega)).mp z] at hb; cases hb), qm_in_nI (by omega) (by omega), nI_clamp (by omega)]
      dsimp only [qe_b, cond_true]
      have hvh : nb_hib v n := ⟨by omega, hb, fun j hj => hv j (by omega)⟩
      by_cases hz : m.2 65 n = 0
      · rw [if_pos ((lg_cmp_eq _ _).mpr hz)]
        refine ⟨_, rfl, ⟨fun h hh => ?_, fun t h ht hth => ?_⟩, ((fr.rf m).sL (Or.inl rfl)).sL (Or.inr rfl)⟩
        · rw [me_2L, if_neg (by decide), me_2L, if_pos rfl, me_2L, if_pos rfl]
          by_cases q : h = n
          · rw [if_pos q, if_pos q, q]
            exact fun _ => ⟨e2, e1, hvh⟩
          · rw [if_neg q, if_neg q, me_2L, if_neg (by decide)]
            intro h0
            obtain ⟨a1, a2, a3⟩ := hr.1 h hh h0
            exact ⟨nl_lt_up (by omega) a1, a2, a3⟩
        · rw [me_2L, if_neg (by decide), me_2L, if_pos rfl]
          by_cases q : h = n
          · rw [if_pos q]
            exact fun z => nb_hib_nz hvh (congrArg nb z)
          · rw [if_neg q]
            have old : ∀ u, nl_lt (i + 1) u → u.getLsbD i = false → ∀ g, nb_hib (nl_v x u) g → m.2 65 g ≠ 0 := fun u hu hb g hg => hr.2 u g (nb_hib_lt hu hb) hg
            by_cases ti : t.getLsbD i = true
            · have hu : nl_lt (i + 1) (t ^^^ s) := nl_lt_add ht e2
              have hub : (t ^^^ s).getLsbD i = false := by rw [BitVec.getLsbD_xor, ti, e3]; rfl
              have ev : nl_v x (t ^^^ s) = nl_v x t ^^^ v := by rw [nl_v_add, e1]
              by_cases qh : h < n
              · exfalso
                refine old _ hu hub n ?_ hz
                rw [ev]
                refine ⟨by omega, ?_, fun j hj => ?_⟩
                · rw [BitVec.getLsbD_xor, hth.2.2 n qh, hb]; rfl
                · rw [BitVec.getLsbD_xor, hth.2.2 j (by omega), hv j (by omega)]; rfl
              · refine old _ hu hub h ?_
                rw [ev]
                refine ⟨hth.1, ?_, fun j hj => ?_⟩
                · rw [BitVec.getLsbD_xor, hth.2.1, hv h (by omega)]; rfl
                · rw [BitVec.getLsbD_xor, hth.2.2 j hj, hv j (by omega)]; rfl
            · exact old t ht (by simpa using ti) h hth
      · rw [if_neg (fun z => hz ((lg_cmp_eq _ _).mp z))]
        obtain ⟨a1, a2, a3⟩ := hr.1 n (by omega) hz
        exact ih f (v ^^^ nb (m.2 65 n)) (s ^^^ nb (m.2 66 n)) (by omega) (by omega) (nb_xor_hib hv hb a3) (by rw [nl_v_add, e1, a2]) (nl_lt_add e2 (nl_lt_up (by omega) a1)) (by rw [BitVec.getLsbD_xor, e3, a1 i (Nat.le_refl _)]; rfl)
    · rw [if_pos ((no_cmp0b v n (by omega)).mpr (by simpa using hb))]
      exact ih f v s (by omega) (by omega) (nb_hib_lt hv (by simpa using hb)) e1 e2 e3
theorem nu_tag_loop {x : nb_F} {m : qm_M} {D : Nat} (hr : ns_ok x D m) (w : nb_F) : ∀ (n f : Nat) (v s t : nb_F), n ≤ 64 → n < f → (∀ j, n ≤ j → v.getLsbD j = false) → v = nl_v x t → nl_lt D t → v ^^^ nl_v x s = w → nl_lt D s →
    ∃ z, L_Sp_tagOf_9 f (bn v) (bn s) (nI n - 1) m = some (some (.long (bn z)), m) ∧ nl_v x z = w ∧ nl_lt D z := by
  intro n
  induction n with
  | zero =>
    intro f v s t _ hf hv e1 e2 e3 e4
    obtain ⟨f, rfl⟩ : ∃ g, f = g + 1 := ⟨f - 1, by omega⟩
    have h0 : v = 0 := BitVec.eq_of_getLsbD_eq (fun i _ => by rw [hv i (Nat.zero_le _)]; simp)
    rw [h0, nb_0x] at e3
    refine ⟨s, ?_, e3, e4⟩
    show X_Sp_tagOf_9 _ _ _ _ _ = _
    unfold X_Sp_tagOf_9
    rw [if_pos (by decide)]
  | succ n ih =>
    intro f v s t hn hf hv e1 e2 e3 e4
    obtain ⟨f, rfl⟩ : ∃ g, f = g + 1 := ⟨f - 1, by omega⟩
    rw [nI_pred]
    have em : nI n + (-1) = nI n - 1 := by rw [← Int32.sub_eq_add_neg]
    have step : L_Sp_tagOf_9 (f + 1) (bn v) (bn s) (nI n) m = X_Sp_tagOf_9 (L_Sp_tagOf_9 f) (bn v) (bn s) (nI n) m := rfl
    rw [step]
    unfold X_Sp_tagOf_9
    rw [if_neg (nI_pos (by omega)), em]
    by_cases hb : v.getLsbD n = true
    · rw [if_neg (fun z => by rw [(no_cmp0b v n (by omega)).mp z] at hb; cases hb), qm_in_nI (by omega) (by omega), nI_clamp (by omega)]
      dsimp only [qe_b, cond_true]
      have hvh : nb_hib v n := ⟨by omega, hb, fun j hj => hv j (by omega)⟩
      have hz : m.2 65 n ≠ 0 := hr.2 t n e2 (e1 ▸ hvh)
      obtain ⟨a1, a2, a3⟩ := hr.1 n (by omega) hz
      exact ih f (v ^^^ nb (m.2 65 n)) (s ^^^ nb (m.2 66 n)) (t ^^^ nb (m.2 66 n)) (by omega) (by omega) (nb_xor_hib hv hb a3) (by rw [nl_v_add, e1, a2]) (nl_lt_add e2 a1) (by
        rw [nl_v_add, a2, nb_xxxx, nb_xx, nb_x0, e3]) (nl_lt_add e4 a1)
    · rw [if_pos ((no_cmp0b v n (by omega)).mpr (by simpa using hb))]
      exact ih f v s t (by omega) (by omega) (nb_hib_lt hv (by simpa using hb)) e1 e2 e3 e4
theorem nu_least_loop {x : nb_F} {m0 : qm_M} (d : Nat) : ∀ (f i : Nat) (m : qm_M), 2 ^ nb_lev x - i = d → i ≤ 2 ^ nb_lev x → d < f → ns_ok x i m → fr no_S ns_T m0 m → ∃ m1, L_Sp_leastPolynomial_17 f (bn x) (nI (2 ^ nb_lev x)) (bn (nb_pow i x)) (nI i) m = some (some (.long (bn (nw_least x))), m1) ∧ fr no_S ns_T m0 m1 := by
  obtain ⟨d0, d64⟩ := nl_D64 x
  induction d with
  | zero =>
    intro f i m h1 h2 h3 hr g
    obtain ⟨f, rfl⟩ : ∃ g, f = g + 1 := ⟨f - 1, by omega⟩
    have e : i = 2 ^ nb_lev x := by omega
    subst e
    refine ⟨m, ?_, g⟩
    show X_Sp_leastPolynomial_17 _ _ _ _ _ _ _ _ _ _ _ = _
    unfold X_Sp_leastPolynomial_17
    rw [if_neg (nI_nlt (Nat.le_refl _) (by omega))]
    unfold F_Sp_tagOf X_Sp_tagOf_e
    obtain ⟨z, z1, z2, z3⟩ := nu_tag_loop hr (nb_pow (2 ^ nb_lev x) x) 64 1000000 (nb_pow (2 ^ nb_lev x) x) 0 (nw_least x) (by omega) (by omega) (fun j hj => BitVec.getLsbD_of_ge _ _ hj) (nw_least_v x).symm (nw_least_lt x) (by
      have e := nl_v_add x 0 0
      rw [nb_xx, nb_xx] at e
      rw [e, nb_x0]) (nl_lt_0 _)
    have z4 : L_Sp_tagOf_9 1000000 (bn (nb_pow (2 ^ nb_lev x) x)) 0 63 m = some (some (.long (bn z)), m) := z1
    rw [z4, nw_least_un z3 z2]
    rfl
  | succ d ih =>
    intro f i m h1 h2 h3 hr g
    obtain ⟨f, rfl⟩ : ∃ g, f = g + 1 := ⟨f - 1, by omega⟩
    have hi : i < 2 ^ nb_lev x := by omega
    obtain ⟨m1, q1, q2, q3⟩ := nu_add_loop hi hr 64 1000000 (nb_pow i x) (nb_e i) (by omega) (by omega) (fun j hj => BitVec.getLsbD_of_ge _ _ hj) (nl_v_e x (by omega)).symm (nl_lt_e (by omega)) (by
      rw [BitVec.getLsbD_eq_getElem (by omega), nb_e_bit i i (by omega)]; simp)
    obtain ⟨m2, r1, r2⟩ := ih f (i + 1) m1 (by omega) (by omega) (by omega) q2 (g.tr q3)
    refine ⟨m2, ?_, r2⟩
    show X_Sp_leastPolynomial_17 _ _ _ _ _ _ _ _ _ _ _ = _
    unfold X_Sp_leastPolynomial_17
    rw [if_pos (nI_lt (by omega) (by omega)), no_lshl1 (by omega)]
    have q4 : F_Sp_add (bn (nb_pow i x)) (bn (nb_e i)) m = some (none, m1) := q1
    rw [q4]
    dsimp only [qe_rV]
    rw [nu_product, nb_bn, nb_bn, ← nb_pow_s, nI_1]
    dsimp only [qe_rL]
    exact r1
theorem tw_least (x : Int64) (m : qm_M) : ∃ m1, F_T_least x m = some (some (.long (bn (nw_least (nb x)))), m1) ∧ fr no_S ns_T m m1 := by
  unfold F_T_least X_T_least_e F_Sp_leastPolynomial X_Sp_leastPolynomial_e
  obtain ⟨m1, q1, q2, q3⟩ := nu_clear_loop m 64 1000000 0 m rfl (by omega) (by omega) (fun j hj => absurd hj (Nat.not_lt_zero _)) (fr.rf m)
  have q4 : F_Sp_clear m = some (none, m1) := q1
  rw [q4]
  dsimp only [qe_rV]
  rw [nu_levelOf]
  dsimp only [qe_rI]
  rw [no_ishl1 (by have := nb_lev_lt (nb x); omega)]
  obtain ⟨m2, r1, r2⟩ := nu_least_loop (x := nb x) (m0 := m) (2 ^ nb_lev (nb x)) 1000000 0 m1 rfl (Nat.zero_le _) (by have := nl_D64 (nb x); omega) ⟨fun h hh h0 => absurd (q2 h hh) h0, fun t h ht hth => by
    exfalso
    have e : t = 0 := BitVec.eq_of_getLsbD_eq (fun i _ => by rw [ht i (Nat.zero_le _)]; simp)
    have e2 := nl_v_add (nb x) 0 0
    rw [nb_xx, nb_xx] at e2
    rw [e, e2] at hth
    exact nb_hib_nz hth rfl⟩ q3
  refine ⟨m2, ?_, r2⟩
  have r3 : L_Sp_leastPolynomial_17 1000000 x (nI (2 ^ nb_lev (nb x))) 1 0 m1 = some (some (.long (bn (nw_least (nb x)))), m2) := r1
  rw [r3]
  rfl
