/-! mended: the class -/
theorem le_Po_areAlike_2  (n : Nat) (v0 : Nat) (v1 : Nat) (v2 : Int32) (m : qm_M) : L_Po_areAlike_2 (n + 1) v0 v1 v2 m = X_Po_areAlike_2 (L_Po_areAlike_2 n) v0 v1 v2 m := rfl
theorem le_Po_copy_2  (n : Nat) (v0 : Nat) (v1 : Nat) (v2 : Int32) (m : qm_M) : L_Po_copy_2 (n + 1) v0 v1 v2 m = X_Po_copy_2 (L_Po_copy_2 n) v0 v1 v2 m := rfl
theorem le_Po_clear_2  (n : Nat) (v0 : Nat) (v1 : Int32) (m : qm_M) : L_Po_clear_2 (n + 1) v0 v1 m = X_Po_clear_2 (L_Po_clear_2 n) v0 v1 m := rfl
theorem le_Cu_fit_66 (K58 : Int32 → qm_M → Option qm_R) (n : Nat) (v4 : Int32) (v5 : Int32) (m : qm_M) : L_Cu_fit_66 K58 (n + 1) v4 v5 m = X_Cu_fit_66 F_Cu_setPoint F_Cu_differ F_Po_clear F_Nu_product K58 (L_Cu_fit_66 K58 n) v4 v5 m := rfl
theorem le_Cu_fit_58  (n : Nat) (v4 : Int32) (m : qm_M) : L_Cu_fit_58 (n + 1) v4 m = X_Cu_fit_58 F_Cu_setPoint F_Cu_differ F_Po_clear F_Nu_product (L_Cu_fit_66 (L_Cu_fit_58 n) 1000000) v4 m := rfl
theorem le_Cu_fit_3  (n : Nat) (v2 : Int32) (v3 : Int32) (v4 : Int32) (m : qm_M) : L_Cu_fit_3 (n + 1) v2 v3 v4 m = X_Cu_fit_3 F_Cu_setPoint F_Cu_differ F_Po_clear F_Nu_product (L_Cu_fit_3 n) (L_Cu_fit_58 1000000) v2 v3 v4 m := rfl
theorem le_Cu_agreement_4  (n : Nat) (v2 : Int32) (v3 : Int32) (m : qm_M) : L_Cu_agreement_4 (n + 1) v2 v3 m = X_Cu_agreement_4 F_Po_valueAt (L_Cu_agreement_4 n) v2 v3 m := rfl
theorem le_Cu_mend_43 (K34 : Int32 → qm_M → Option qm_R) (n : Nat) (v2 : Int32) (v3 : Int32) (m : qm_M) : L_Cu_mend_43 K34 (n + 1) v2 v3 m = X_Cu_mend_43 F_Po_areAlike F_Po_copy F_Po_clear F_Cu_fit F_Cu_agreement F_Cu_isMended K34 (L_Cu_mend_43 K34 n) v2 v3 m := rfl
theorem le_Cu_mend_34  (n : Nat) (v2 : Int32) (m : qm_M) : L_Cu_mend_34 (n + 1) v2 m = X_Cu_mend_34 F_Po_areAlike F_Po_copy F_Po_clear F_Cu_fit F_Cu_agreement F_Cu_isMended (L_Cu_mend_43 (L_Cu_mend_34 n) 1000000) v2 m := rfl
theorem pc_more {f : Nat} : ∀ (d n : Nat), n < 2 ^ f → pc (f + d) n = pc f n := by
  induction f with
  | zero =>
    intro d n h
    have e : n = 0 := by rw [Nat.pow_zero] at h; omega
    subst e
    rw [pc_z, pc_z]
  | succ f ih =>
    intro d n h
    rw [Nat.pow_succ] at h
    rw [show f + 1 + d = (f + d) + 1 by omega, pc_s, pc_s, ih d (n / 2) (by omega)]
/-- bits of a property -/
def bs (g : Nat → Bool) : Nat → Nat
  | 0 => 0
  | n + 1 => bs g n + (if g n = true then 2 ^ n else 0)
theorem bs_s (g : Nat → Bool) (n : Nat) : bs g (n + 1) = bs g n + (if g n = true then 2 ^ n else 0) := rfl
theorem bs_lt (g : Nat → Bool) : ∀ n, bs g n < 2 ^ n
  | 0 => Nat.one_pos
  | n + 1 => by
    have h := bs_lt g n
    rw [bs_s, Nat.pow_succ]
    split <;> omega
theorem bs_bit (g : Nat → Bool) : ∀ n j, j < n → (bs g n).testBit j = g j
  | 0, _, h => absurd h (Nat.not_lt_zero _)
  | n + 1, j, h => by
    have hb := bs_lt g n
    rw [bs_s]
    by_cases q : g n = true
    · rw [if_pos q, Nat.add_comm]
      by_cases e : j = n
      · rw [e, Nat.testBit_two_pow_add_eq, Nat.testBit_lt_two_pow hb, q]
        rfl
      · rw [Nat.testBit_two_pow_add_gt (by omega)]
        exact bs_bit g n j (by omega)
    · rw [if_neg q, Nat.add_zero]
      by_cases e : j = n
      · rw [e, Nat.testBit_lt_two_pow hb]
        cases hg : g n with
        | false => rfl
        | true => exact absurd hg q
      · exact bs_bit g n j (by omega)
theorem bs_c {g h : Nat → Bool} : ∀ n, (∀ j, j < n → g j = h j) → bs g n = bs h n
  | 0, _ => rfl
  | n + 1, e => by rw [bs_s, bs_s, bs_c n (fun j hj => e j (by omega)), e n (by omega)]
/-! which of the places it has -/
def gP (c P : Nat → nb_F) (j : Nat) : Bool := decide (pf_e 4 c (bN j) = P j)
def gdp (c P : Nat → nb_F) : Prop := 6 ≤ pc 8 (bs (gP c P) 8)
theorem gP_c {c d P : Nat → nb_F} (h : ∀ i, i < 4 → c i = d i) (j : Nat) : gP c P j = gP d P j := by
  unfold gP
  rw [pf_e_c h]
theorem two_chk : (List.range 256).all (fun A => decide (pc 8 A < 6) || (List.range 256).all (fun B => decide (pc 8 B < 6) || decide (4 ≤ ((List.range 8).filter (fun j => A.testBit j && B.testBit j)).length))) = true := by decide +kernel
theorem bN_filter (f : Nat → Bool) : (((List.range 8).filter f).map bN).Nodup := by
  refine List.Nodup.sublist (List.Sublist.map bN List.filter_sublist) ?_
  exact bN8_nodup
/-- there is one alone -/
theorem gdp_un {c d P : Nat → nb_F} (hc : gdp c P) (hd : gdp d P) : ∀ i, i < 4 → c i = d i := by
  have h1 := List.all_eq_true.mp two_chk (bs (gP c P) 8) (List.mem_range.mpr (bs_lt _ 8))
  rw [Bool.or_eq_true] at h1
  have h2 := h1.resolve_left (fun z => by have := of_decide_eq_true z; unfold gdp at hc; omega)
  have h3 := List.all_eq_true.mp h2 (bs (gP d P) 8) (List.mem_range.mpr (bs_lt _ 8))
  rw [Bool.or_eq_true] at h3
  have h4 := of_decide_eq_true (h3.resolve_left (fun z => by have := of_decide_eq_true z; unfold gdp at hd; omega))
  refine pf_same (((List.range 8).filter (fun j => (bs (gP c P) 8).testBit j && (bs (gP d P) 8).testBit j)).map bN) (bN_filter _) (by rw [List.length_map]; exact h4) (fun a ha => ?_)
  obtain ⟨j, hj, rfl⟩ := List.mem_map.mp ha
  obtain ⟨hj1, hj2⟩ := List.mem_filter.mp hj
  have hj8 := List.mem_range.mp hj1
  rw [bs_bit _ 8 j hj8, bs_bit _ 8 j hj8, Bool.and_eq_true] at hj2
  rw [of_decide_eq_true hj2.1, of_decide_eq_true hj2.2]
/-! the fit by two blocks -/
def fp (i k t : Nat) : Nat := if t < 2 then 2 * i + t else 2 * k + (t - 2)
/-- coefficients: times x less p, and s more -/
def cst (c : Nat → nb_F) (p s : nb_F) : Nat → nb_F := fun j => (if j = 0 then s else c (j - 1)) ^^^ nb_mul (c j) p
def cu (p s : Nat → nb_F) : Nat → Nat → nb_F
  | 0 => fun _ => 0
  | d + 1 => cst (cu p s d) (p (3 - d)) (s (3 - d))
theorem cu_s (p s : Nat → nb_F) (d : Nat) : cu p s (d + 1) = cst (cu p s d) (p (3 - d)) (s (3 - d)) := rfl
theorem cu_z (p s : Nat → nb_F) : ∀ d j, d ≤ j → cu p s d j = 0
  | 0, _, _ => rfl
  | d + 1, j, h => by
    rw [cu_s]
    unfold cst
    rw [if_neg (by omega), cu_z p s d (j - 1) (by omega), cu_z p s d j (by omega), nb_0_mul, nb_xx]
theorem cu_e (p s : Nat → nb_F) (x : nb_F) : ∀ d, d ≤ 4 → pf_e 4 (cu p s d) x = hv p s x d (4 - d)
  | 0, _ => pf_e_z (fun _ _ => rfl) x
  | d + 1, h => by
    have ih := cu_e p s x d (by omega)
    have h3 := cu_z p s d 3 (by omega)
    rw [show 4 - (d + 1) = 3 - d by omega, hv_s, show 3 - d + 1 = 4 - d by omega, ← ih, cu_s]
    simp only [pf_e_s, pf_e_0, cst]
    simp only [if_true, Nat.add_one_sub_one, Nat.succ_ne_zero, if_false, Nat.zero_add, Nat.add_zero]
    generalize s (3 - d) = z
    generalize p (3 - d) = q
    rw [h3]
    generalize cu p s d 0 = c0
    generalize cu p s d 1 = c1
    generalize cu p s d 2 = c2
    letI := nb_RI
    haveI := nb_RC
    exact (show ∀ z q c0 c1 c2 x : nb_R, (z + c0 * q) + x * ((c0 + c1 * q) + x * ((c1 + c2 * q) + x * ((c2 + 0 * q) + x * 0))) = (c0 + x * (c1 + x * (c2 + x * (0 + x * 0)))) * (x + q) + z by intros; grind) z q c0 c1 c2 x
/-- the cubic by blocks i, k -/
noncomputable def cub (P : Nat → nb_F) (i k : Nat) : Nat → nb_F := cu (fun t => bN (fp i k t)) (dd (fun t => bN (fp i k t)) (fun t => P (fp i k t)) 3) 4
theorem cub_at (P : Nat → nb_F) {i k : Nat} (hik : i < k) (hk : k < 4) {t : Nat} (ht : t < 4) : pf_e 4 (cub P i k) (bN (fp i k t)) = P (fp i k t) := by
  unfold cub
  rw [cu_e _ _ _ 4 (Nat.le_refl _)]
  exact hv_at (fun t => bN (fp i k t)) (fun t => P (fp i k t)) (n := 4) (by omega) (fun a b h1 h2 => bN_ne (by unfold fp; split <;> omega) (by unfold fp; split <;> omega) (by unfold fp; split <;> split <;> omega)) ht
theorem blk_chk : (List.range 256).all (fun A => decide (pc 8 A < 6) || (List.range 4).any (fun i => (List.range 4).any (fun k => decide (i < k) && A.testBit (2 * i) && A.testBit (2 * i + 1) && A.testBit (2 * k) && A.testBit (2 * k + 1)))) = true := by decide +kernel
/-- where there is one, two blocks tell it -/
theorem cub_good {c P : Nat → nb_F} (hc : gdp c P) : ∃ i k, i < k ∧ k < 4 ∧ gdp (cub P i k) P := by
  have h1 := List.all_eq_true.mp blk_chk (bs (gP c P) 8) (List.mem_range.mpr (bs_lt _ 8))
  rw [Bool.or_eq_true] at h1
  have h2 := h1.resolve_left (fun z => by have := of_decide_eq_true z; unfold gdp at hc; omega)
  obtain ⟨i, hi, h3⟩ := List.any_eq_true.mp h2
  obtain ⟨k, hk, h4⟩ := List.any_eq_true.mp h3
  have hi4 := List.mem_range.mp hi
  have hk4 := List.mem_range.mp hk
  rw [Bool.and_eq_true, Bool.and_eq_true, Bool.and_eq_true, Bool.and_eq_true] at h4
  obtain ⟨⟨⟨⟨g0, g1⟩, g2⟩, g3⟩, g4⟩ := h4
  have hik : i < k := of_decide_eq_true g0
  rw [bs_bit _ 8 _ (by omega)] at g1 g2 g3 g4
  have ev : ∀ t, t < 4 → pf_e 4 c (bN (fp i k t)) = P (fp i k t) := fun t ht => by
    match t, ht with
    | 0, _ => exact of_decide_eq_true g1
    | 1, _ => exact of_decide_eq_true g2
    | 2, _ => exact of_decide_eq_true g3
    | 3, _ => exact of_decide_eq_true g4
    | t + 4, h => exact absurd h (by omega)
  have hs : ∀ j, j < 4 → cub P i k j = c j := pf_same ((List.range 4).map (fun t => bN (fp i k t))) (by
      have hn : ∀ i, i < 4 → ∀ k, k < 4 → i < k → ((List.range 4).map (fun t => bN (fp i k t))).Nodup := by decide +kernel
      exact hn i hi4 k hk4 hik) (by rw [List.length_map, List.length_range]; omega) (fun a ha => by
      obtain ⟨t, ht, rfl⟩ := List.mem_map.mp ha
      have ht4 := List.mem_range.mp ht
      rw [cub_at P hik hk4 ht4, ev t ht4])
  refine ⟨i, k, hik, hk4, ?_⟩
  unfold gdp
  rw [bs_c 8 (fun j _ => gP_c hs j)]
  exact hc
/-! on the machine -/
theorem nu_setPoint {m : qm_M} {s : sT} (h : cs m s) {t j : Nat} (ht : t < 8) (hj : j < 8) : F_Cu_setPoint (nI t) (nI j) m = some (none, qm_sL (qm_sL m 108 t (lN j)) 109 t (s.1 (7 + j))) := by
  unfold F_Cu_setPoint X_Cu_setPoint_e
  simp (disch := omega) only [qe_rI_e, qe_rL_e, qe_rV_e, qe_rR_e, qe_b_e, n10F, nI_lt0, nI_e0T, nI_e0F, nI_ltT, nI_ltF, nI_eqT, nI_eqF, qm_in_nI, nI_clamp, nI_1, nI_add, pk_mul, if_true, if_false, eq_self, nI_l, me_2L]
  rw [if_neg (by decide), cs_p h hj]
theorem nu_clear {o n : Nat} {m0 : qm_M} (h1 : Nat.ble (qm_gk o).1 5 = true) (h2 : qm_n o = n) (h4 : qm_isL o 1 = true) (h5 : qm_nl o = n) (hn : n < 1000) : ∃ m1, F_Po_clear o m0 = some (none, m1) ∧ (∀ j, j < n → m1.2 o j = 0) ∧ m1.1 = m0.1 ∧ ∀ a, a ≠ o → m1.2 a = m0.2 a := by
  obtain ⟨m1, i1, e⟩ := lpU (fun f k (m : qm_M) => L_Po_clear_2 f o (nI k) m) n (fun k m => (∀ j, j < k → m.2 o j = 0) ∧ m.1 = m0.1 ∧ ∀ a, a ≠ o → m.2 a = m0.2 a) (fun m => some (none, m)) (fun f k m hk hI => by
      refine ⟨qm_sL m o k 0, ⟨fun j hj => ?_, hI.2.1, fun a ha => by rw [(qm_sL_other a ha).2]; exact hI.2.2 a ha⟩, ?_⟩
      · rw [me_2L, if_pos rfl]
        by_cases q : j = k
        · rw [if_pos q]
        · rw [if_neg q]; exact hI.1 j (by omega)
      · show L_Po_clear_2 (f + 1) o (nI k) m = _
        rw [le_Po_clear_2]
        unfold X_Po_clear_2
        simp (disch := omega) only [qe_rI_e, qe_rL_e, qe_rV_e, qe_rR_e, qe_b_e, n10F, nI_lt0, nI_e0T, nI_e0F, nI_ltT, nI_ltF, nI_eqT, nI_eqF, qm_in_nI, nI_clamp, nI_1, nI_add, pk_mul, if_true, if_false, eq_self, h1, h2, h4, h5, liN]) (fun f m hI => by
      show L_Po_clear_2 (f + 1) o (nI n) m = _
      rw [le_Po_clear_2]
      unfold X_Po_clear_2
      simp (disch := omega) only [qe_rI_e, qe_rL_e, qe_rV_e, qe_rR_e, qe_b_e, n10F, nI_lt0, nI_e0T, nI_e0F, nI_ltT, nI_ltF, nI_eqT, nI_eqF, qm_in_nI, nI_clamp, nI_1, nI_add, pk_mul, if_true, if_false, eq_self, h1, h2, liN]) 1000000 0 m0 (Nat.zero_le _) (by omega) ⟨fun j hj => absurd hj (Nat.not_lt_zero _), rfl, fun _ _ => rfl⟩
  unfold F_Po_clear X_Po_clear_e
  exact ⟨m1, e, i1⟩
theorem nu_fit {m : qm_M} {s : sT} (h : cs m s) {i k : Nat} (hi : i < 4) (hk : k < 4) : ∃ m1, F_Cu_fit (nI i) (nI k) m = some (none, m1) ∧ (∀ j, j < 4 → m1.2 110 j = bn (cub (pP s.1) i k j)) ∧ ou 108 110 m m1 := by
  obtain ⟨m1, h1, e⟩ := lpU (fun f t (m : qm_M) => L_Cu_fit_3 f (nI i) (nI k) (nI t) m) 2 (fun t m1 => (∀ j, j < t → (m1.2 108 j = bn (bN (fp i k j)) ∧ m1.2 109 j = bn (pP s.1 (fp i k j))) ∧ m1.2 108 (2 + j) = bn (bN (fp i k (2 + j))) ∧ m1.2 109 (2 + j) = bn (pP s.1 (fp i k (2 + j)))) ∧ ou 108 110 m m1) (fun m => L_Cu_fit_3 1 (nI i) (nI k) (nI 2) m) (fun f t m1 ht hI => by
      obtain ⟨i1, i2⟩ := hI
      have c1 := i2.cs (by omega) h
      have g1 : ou 108 110 m1 (qm_sL (qm_sL m1 108 t (lN (2 * i + t))) 109 t (s.1 (7 + (2 * i + t)))) := (ou.L _ (by omega) _ _).tr (ou.L _ (by omega) _ _)
      have c2 := g1.cs (by omega) c1
      have b1 : fp i k t = 2 * i + t := if_pos ht
      have b2 : fp i k (2 + t) = 2 * k + t := by unfold fp; rw [if_neg (by omega), show 2 + t - 2 = t by omega]
      refine ⟨qm_sL (qm_sL (qm_sL (qm_sL m1 108 t (lN (2 * i + t))) 109 t (s.1 (7 + (2 * i + t)))) 108 (2 + t) (lN (2 * k + t))) 109 (2 + t) (s.1 (7 + (2 * k + t))), ⟨fun j hj => ?_, (i2.tr g1).tr ((ou.L _ (by omega) _ _).tr (ou.L _ (by omega) _ _))⟩, ?_⟩
      · simp only [me_2L, if_true, show ¬ (108 : Nat) = 109 by decide, show ¬ (109 : Nat) = 108 by decide, if_false]
        by_cases q : j = t
        · subst q
          rw [if_neg (by omega), if_pos rfl, if_neg (by omega), if_pos rfl, if_pos rfl, if_pos rfl, b1, b2]
          exact ⟨⟨rfl, rfl⟩, rfl, rfl⟩
        · rw [if_neg (by omega), if_neg q, if_neg (by omega), if_neg q, if_neg (by omega), if_neg (by omega), if_neg (by omega), if_neg (by omega)]
          exact i1 j (by omega)
      · show L_Cu_fit_3 (f + 1) (nI i) (nI k) (nI t) m1 = _
        rw [le_Cu_fit_3]
        unfold X_Cu_fit_3
        have e2 : nI t < (2 : Int32) := nI_lt (a := t) (b := 2) ht (by omega)
        rw [if_pos e2]
        simp (disch := omega) only [qe_rI_e, qe_rL_e, qe_rV_e, qe_rR_e, qe_b_e, n10F, nI_lt0, nI_e0T, nI_e0F, nI_ltT, nI_ltF, nI_eqT, nI_eqF, qm_in_nI, nI_clamp, nI_1, nI_add, pk_mul, if_true, if_false, eq_self, li2, nu_setPoint c1 (show t < 8 by omega) (show 2 * i + t < 8 by omega), nu_setPoint c2 (show 2 + t < 8 by omega) (show 2 * k + t < 8 by omega)]) (fun f m1 _ => by
      show L_Cu_fit_3 (f + 1) (nI i) (nI k) (nI 2) m1 = L_Cu_fit_3 (0 + 1) (nI i) (nI k) (nI 2) m1
      rw [le_Cu_fit_3, le_Cu_fit_3]
      unfold X_Cu_fit_3
      have e2 : ¬ nI 2 < (2 : Int32) := nI_nlt (a := 2) (b := 2) (by omega) (by omega)
      rw [if_neg e2, if_neg e2]) 1000000 0 m (Nat.zero_le _) (by omega) ⟨fun j hj => absurd hj (Nat.not_lt_zero _), ou.rf _ _ m⟩
  obtain ⟨i1, i2⟩ := h1
  have pt : ∀ t, t < 4 → m1.2 108 t = bn (bN (fp i k t)) ∧ m1.2 109 t = bn (pP s.1 (fp i k t)) := fun t ht => by
    match t, ht with
    | 0, _ => exact (i1 0 (by omega)).1
    | 1, _ => exact (i1 1 (by omega)).1
    | 2, _ => exact (i1 0 (by omega)).2
    | 3, _ => exact (i1 1 (by omega)).2
    | t + 4, h => exact absurd h (by omega)
  obtain ⟨m2, d1, d2, d3, d4⟩ := nu_differ (n := 4) (m0 := m1) (by omega)
  generalize hp : (fun t => bN (fp i k t)) = p
  generalize hq : dd p (fun t => pP s.1 (fp i k t)) 3 = q0
  have g8 : ∀ t, t < 4 → m2.2 108 t = bn (p t) := fun t ht => by rw [d4 108 (by omega), ← hp]; exact (pt t ht).1
  have g9 : ∀ t, t < 4 → m2.2 109 t = bn (q0 t) := fun t ht => by
    rw [d2 t ht, ← hq, dd_eq, dd_eq]
    have key : ∀ t a, a + t < 4 → dq (fun i => nb (m1.2 108 i)) (fun i => nb (m1.2 109 i)) t a = dq p (fun t => pP s.1 (fp i k t)) t a := fun t => by
      induction t with
      | zero => intro a ha; show nb (m1.2 109 a) = _; rw [(pt a (by omega)).2]; rfl
      | succ t ih =>
        intro a ha
        rw [dq_s, dq_s, ih (a + 1) (by omega), ih a (by omega), (pt (a + t + 1) (by omega)).1, (pt a (by omega)).1, ← hp]
        rfl
    by_cases y : 4 - 1 ≤ t
    · rw [if_pos y, if_pos y, key _ _ (by omega)]
    · rw [if_neg y, if_neg y, key _ _ (by omega)]
  obtain ⟨m3, z1, z2, z3, z4⟩ := nu_clear (o := 110) (n := 4) (m0 := m2) rfl rfl rfl rfl (by omega)
  obtain ⟨m4, h4, e4⟩ := lpD (fun f r (m : qm_M) => L_Cu_fit_58 f (dv r) m) 4 (fun r m => (∀ j, j < 4 → m.2 110 j = bn (cu p q0 (4 - r) j)) ∧ m.1 = m3.1 ∧ ∀ a, a ≠ 110 → m.2 a = m3.2 a) (fun m => some (none, m)) (fun f r m hr hI => by
      obtain ⟨j1, j2, j3⟩ := hI
      have g8' : m.2 108 r = bn (p r) := by rw [j3 108 (by omega), z4 108 (by omega)]; exact g8 r hr
      have g9' : m.2 109 r = bn (q0 r) := by rw [j3 109 (by omega), z4 109 (by omega)]; exact g9 r hr
      have hd : 4 - r = (4 - (r + 1)) + 1 := by omega
      have hcs : cu p q0 (4 - r) = cst (cu p q0 (4 - (r + 1))) (p r) (q0 r) := by rw [hd, cu_s, show 3 - (4 - (r + 1)) = r by omega]
      generalize cu p q0 (4 - (r + 1)) = c at *
      obtain ⟨m5, h5, e5⟩ := lpD (fun f2 t (m : qm_M) => L_Cu_fit_66 (L_Cu_fit_58 f) f2 (nI r) (nI t) m) 3 (fun t m1 => (∀ j, j < 4 → m1.2 110 j = bn (if t < j then cst c (p r) (q0 r) j else c j)) ∧ m1.1 = m.1 ∧ ∀ a, a ≠ 110 → m1.2 a = m.2 a) (fun m1 => L_Cu_fit_58 f (dv r) (qm_sL m1 110 0 (bn (cst c (p r) (q0 r) 0)))) (fun f2 t m1 ht hI => by
          obtain ⟨k1, k2, k3⟩ := hI
          have a1 := k1 (t + 1) (by omega)
          have a2 := k1 t (by omega)
          rw [if_neg (by omega)] at a1 a2
          refine ⟨qm_sL m1 110 (t + 1) (bn (cst c (p r) (q0 r) (t + 1))), ⟨fun j hj => ?_, k2, fun a ha => by rw [(qm_sL_other a ha).2]; exact k3 a ha⟩, ?_⟩
          · rw [me_2L, if_pos rfl]
            by_cases q : j = t + 1
            · rw [if_pos q, if_pos (by omega), q]
            · rw [if_neg q, k1 j hj]
              by_cases y : t + 1 < j
              · rw [if_pos y, if_pos (by omega)]
              · rw [if_neg y, if_neg (by omega)]
          · show L_Cu_fit_66 (L_Cu_fit_58 f) (f2 + 1) (nI r) (nI (t + 1)) m1 = _
            rw [le_Cu_fit_66]
            unfold X_Cu_fit_66
            have e0 : (0 : Int32) < nI (t + 1) := nI_lt (a := 0) (b := t + 1) (by omega) (by omega)
            have c8 : m1.2 108 r = bn (p r) := by rw [k3 108 (by omega)]; exact g8'
            have en : nI (t + 1) + (-1) = nI t := pk_m1 t
            rw [if_pos e0]
            simp (disch := omega) only [qe_rI_e, qe_rL_e, qe_rV_e, qe_rR_e, qe_b_e, n10F, nI_lt0, nI_e0T, nI_e0F, nI_ltT, nI_ltF, nI_eqT, nI_eqF, qm_in_nI, nI_clamp, nI_1, nI_add, pk_mul, if_true, if_false, eq_self, nI_sub1, a1, a2, c8, nu_product, en]
            unfold cst
            rw [if_neg (by omega)]
            rfl) (fun f2 m1 hI => by
          obtain ⟨k1, k2, k3⟩ := hI
          have a2 := k1 0 (by omega)
          rw [if_neg (by omega)] at a2
          show L_Cu_fit_66 (L_Cu_fit_58 f) (f2 + 1) (nI r) (nI 0) m1 = _
          rw [le_Cu_fit_66]
          unfold X_Cu_fit_66
          have e0 : ¬ (0 : Int32) < nI 0 := by decide
          have c8 : m1.2 108 r = bn (p r) := by rw [k3 108 (by omega)]; exact g8'
          have c9 : m1.2 109 r = bn (q0 r) := by rw [k3 109 (by omega)]; exact g9'
          rw [if_neg e0]
          simp (disch := omega) only [qe_rI_e, qe_rL_e, qe_rV_e, qe_rR_e, qe_b_e, n10F, nI_lt0, nI_e0T, nI_e0F, nI_ltT, nI_ltF, nI_eqT, nI_eqF, qm_in_nI, nI_clamp, nI_1, nI_add, pk_mul, if_true, if_false, eq_self, a2, c8, c9, nu_product, dv_d]
          unfold cst
          rw [if_pos rfl, BitVec.xor_comm (q0 r)]
          rfl) 3 1000000 m (Nat.le_refl _) (by omega) ⟨fun j hj => by rw [if_neg (by omega)]; exact j1 j hj, rfl, fun _ _ => rfl⟩
      obtain ⟨k1, k2, k3⟩ := h5
      refine ⟨qm_sL m5 110 0 (bn (cst c (p r) (q0 r) 0)), ⟨fun j hj => ?_, k2.trans j2, fun a ha => by rw [(qm_sL_other a ha).2, k3 a ha, j3 a ha]⟩, ?_⟩
      · rw [me_2L, if_pos rfl, hcs]
        by_cases q : j = 0
        · rw [if_pos q, q]
        · rw [if_neg q, k1 j hj, if_pos (by omega)]
      · show L_Cu_fit_58 (f + 1) (dv (r + 1)) m = _
        rw [le_Cu_fit_58]
        unfold X_Cu_fit_58
        rw [dv_s, if_neg (nI_pos (by omega))]
        exact e5) (fun f m hI => by
      show L_Cu_fit_58 (f + 1) (dv 0) m = _
      rw [le_Cu_fit_58]
      unfold X_Cu_fit_58
      rw [if_pos dv_0]) 4 1000000 m3 (Nat.le_refl _) (by omega) ⟨fun j hj => by rw [z2 j hj]; rfl, rfl, fun _ _ => rfl⟩
  obtain ⟨j1, j2, j3⟩ := h4
  refine ⟨m4, ?_, fun j hj => ?_, i2.tr (fun a q => ⟨by rw [j2, z3, d3], by rw [j3 a (by omega), z4 a (by omega), d4 a (by omega)]⟩)⟩
  · unfold F_Cu_fit X_Cu_fit_e
    refine Eq.trans e ?_
    rw [show L_Cu_fit_3 1 (nI i) (nI k) (nI 2) m1 = X_Cu_fit_3 F_Cu_setPoint F_Cu_differ F_Po_clear F_Nu_product (L_Cu_fit_3 0) (L_Cu_fit_58 1000000) (nI i) (nI k) (nI 2) m1 from rfl]
    unfold X_Cu_fit_3
    have e2 : ¬ nI 2 < (2 : Int32) := nI_nlt (a := 2) (b := 2) (by omega) (by omega)
    have d1' : F_Cu_differ 4 m1 = _ := d1
    rw [if_neg e2, d1', qe_rV_e, z1, qe_rV_e]
    exact e4
  · rw [j1 j hj]
    unfold cub
    rw [hp, hq]
theorem nu_agreement {m : qm_M} {s : sT} (h : cs m s) {c : Nat → nb_F} (hc : ∀ j, j < 4 → m.2 110 j = bn (c j)) : F_Cu_agreement m = some (some (.int (nI (bs (gP c (pP s.1)) 8))), m) := by
  have ev : ∀ x : Int64, F_Po_valueAt 110 x m = some (some (.long (bn (pf_e 4 c (nb x)))), m) := fun x => by
    rw [nu_valueAt (o := 110) (n := 4) (by omega) rfl rfl rfl (by omega)]
    rw [pf_e_c (n := 4) (c := fun i => nb (m.2 110 i)) (d := c) (fun i hi => by rw [hc i hi]; rfl) _]
  obtain ⟨t', ht', e⟩ := lpU (fun f k (t : Nat) => L_Cu_agreement_4 f (nI t) (nI k) m) 8 (fun k t => t = bs (gP c (pP s.1)) k) (fun t => some (some (.int (nI t)), m)) (fun f k t hk ht => ⟨bs (gP c (pP s.1)) (k + 1), rfl, by
      have hb := bs_lt (gP c (pP s.1)) k
      have hp8 : 2 ^ k ≤ 128 := Nat.pow_le_pow_right (n := 2) (by omega) (show k ≤ 7 by omega)
      show L_Cu_agreement_4 (f + 1) (nI t) (nI k) m = _
      rw [le_Cu_agreement_4]
      unfold X_Cu_agreement_4
      have e8 : nI k < (8 : Int32) := nI_lt (a := k) (b := 8) hk (by omega)
      rw [if_pos e8, nI_l (by omega), ev, qe_rL_e, qm_in_nI hk (by omega), qe_b_e, nI_clamp (by omega), cs_p h hk, ht, bs_s]
      have eq0 : (lg_cmp (bn (pf_e 4 c (nb (lN k)))) (s.1 (7 + k)) = 0) ↔ gP c (pP s.1) k = true := by
        rw [show s.1 (7 + k) = bn (pP s.1 k) from rfl, no_eB]
        unfold gP
        rw [decide_eq_true_eq]
        rfl
      by_cases q : gP c (pP s.1) k = true
      · rw [if_pos (eq0.mpr q), if_pos q, no_ishl1 (by omega), nI_or (by omega) (by omega), nb_orp hb, nI_1]
      · rw [if_neg (fun z => q (eq0.mp z)), if_neg q, Nat.add_zero, nI_1]
        have e0 : nI (bs (gP c (pP s.1)) k) ||| (0 : Int32) = nI (bs (gP c (pP s.1)) k) := by
          have := nI_or (a := bs (gP c (pP s.1)) k) (b := 0) (by omega) (by omega)
          rw [Nat.or_zero] at this
          exact this
        rw [e0]⟩) (fun f t ht => by
      show L_Cu_agreement_4 (f + 1) (nI t) (nI 8) m = _
      rw [le_Cu_agreement_4]
      unfold X_Cu_agreement_4
      have e8 : ¬ nI 8 < (8 : Int32) := nI_nlt (a := 8) (b := 8) (by omega) (by omega)
      rw [if_neg e8]) 1000000 0 0 (Nat.zero_le _) (by omega) rfl
  unfold F_Cu_agreement X_Cu_agreement_e
  refine Eq.trans e ?_
  rw [ht']
theorem nu_isMended {m : qm_M} {A : Nat} (hA : A < 256) (h : m.1 107 5 = nI A) : F_Cu_isMended m = some (some (.int (if 6 ≤ pc 8 A then 1 else 0)), m) := by
  unfold F_Cu_isMended X_Cu_isMended_e
  have hp : pc 12 A = pc 8 A := pc_more (f := 8) 4 A (by omega)
  have hle := pc_le 8 A
  rw [h, nu_bitCountI (by omega), qe_rI_e, hp]
  by_cases q : 6 ≤ pc 8 A
  · have e6 : ¬ nI (pc 8 A) < (6 : Int32) := nI_nlt (a := pc 8 A) (b := 6) q (by omega)
    rw [if_neg e6, if_pos q]
  · have e6 : nI (pc 8 A) < (6 : Int32) := nI_lt (a := pc 8 A) (b := 6) (by omega) (by omega)
    rw [if_pos e6, if_neg q]
/-- what the class knows of places P -/
def cuR (m : qm_M) (P : Nat → nb_F) : Prop := (∃ c, gdp c P ∧ (∀ j, j < 4 → m.2 110 j = bn (c j)) ∧ m.1 107 5 = nI (bs (gP c P) 8)) ∨ ((∀ c, ¬ gdp c P) ∧ (∀ j, j < 4 → m.2 110 j = 0) ∧ m.1 107 5 = nI 0)
def cvCu (m : qm_M) : Prop := m.1 107 4 = 0 ∨ (m.1 107 4 = 1 ∧ cuR m (fun k => nb (m.2 111 k)))
theorem gP_P {c P Q : Nat → nb_F} (h : ∀ k, k < 8 → P k = Q k) : bs (gP c P) 8 = bs (gP c Q) 8 := bs_c 8 (fun j hj => by unfold gP; rw [h j hj])
theorem gdp_P {c P Q : Nat → nb_F} (h : ∀ k, k < 8 → P k = Q k) : gdp c P ↔ gdp c Q := by unfold gdp; rw [gP_P h]
theorem cuR.P {m : qm_M} {P Q : Nat → nb_F} (r : cuR m P) (h : ∀ k, k < 8 → P k = Q k) : cuR m Q := by
  rcases r with ⟨c, h1, h2, h3⟩ | ⟨h1, h2, h3⟩
  · exact Or.inl ⟨c, (gdp_P h).mp h1, h2, by rw [← gP_P h]; exact h3⟩
  · exact Or.inr ⟨fun c z => h1 c ((gdp_P h).mpr z), h2, h3⟩
theorem cuR.c {m m1 : qm_M} {P : Nat → nb_F} (r : cuR m P) (h1 : m1.2 110 = m.2 110) (h2 : m1.1 107 5 = m.1 107 5) : cuR m1 P := by
  unfold cuR
  rw [h1, h2]
  exact r
theorem nu_alike {m : qm_M} {a b n : Nat} (ha : a < 1000000) (hb : b < 1000000) (a1 : Nat.ble (qm_gk a).1 5 = true) (a2 : qm_n a = n) (a3 : qm_isA a 1 = true) (b1 : Nat.ble (qm_gk b).1 5 = true) (b2 : qm_n b = n) (b3 : qm_isA b 1 = true) (hn : n < 1000) : ∃ r : Int32, F_Po_areAlike a b m = some (some (.int r), m) ∧ (r = 1 ∧ (∀ k, k < n → m.2 a k = m.2 b k) ∨ r = 0 ∧ ¬ ∀ k, k < n → m.2 a k = m.2 b k) := by
  refine lpE (fun f k (m1 : qm_M) => L_Po_areAlike_2 f a b (nI k) m1) n (fun k m1 => m1 = m ∧ ∀ j, j < k → m.2 a j = m.2 b j) (fun r => ∃ v : Int32, r = some (some (.int v), m) ∧ (v = 1 ∧ (∀ k, k < n → m.2 a k = m.2 b k) ∨ v = 0 ∧ ¬ ∀ k, k < n → m.2 a k = m.2 b k)) (fun f k m1 hk hI => ?_) (fun f m1 hI => ?_) 1000000 0 m (Nat.zero_le _) (by omega) ⟨rfl, fun j hj => absurd hj (Nat.not_lt_zero _)⟩
  · obtain ⟨rfl, hI⟩ := hI
    rw [le_Po_areAlike_2]
    unfold X_Po_areAlike_2
    rw [a1, b1, a2, b2, a3, b3]
    simp (disch := omega) only [qe_rI_e, qe_rL_e, qe_rV_e, qe_rR_e, qe_b_e, n10F, nI_lt0, nI_e0T, nI_e0F, nI_ltT, nI_ltF, nI_eqT, nI_eqF, qm_in_nI, nI_clamp, nI_1, nI_add, pk_mul, if_true, if_false, eq_self, liN]
    rw [qm_gL_o ha, qm_gL_o hb]
    by_cases q : m1.2 a k = m1.2 b k
    · rw [if_pos ((lg_cmp_eq _ _).mpr q)]
      refine Or.inl ⟨m1, ⟨rfl, fun j hj => ?_⟩, rfl⟩
      by_cases y : j = k
      · rw [y]; exact q
      · exact hI j (by omega)
    · rw [if_neg (fun z => q ((lg_cmp_eq _ _).mp z))]
      exact Or.inr ⟨0, rfl, Or.inr ⟨rfl, fun z => q (z k hk)⟩⟩
  · obtain ⟨rfl, hI⟩ := hI
    rw [le_Po_areAlike_2]
    unfold X_Po_areAlike_2
    rw [a1, a2]
    simp (disch := omega) only [qe_rI_e, qe_rL_e, qe_rV_e, qe_rR_e, qe_b_e, n10F, nI_lt0, nI_e0T, nI_e0F, nI_ltT, nI_ltF, nI_eqT, nI_eqF, qm_in_nI, nI_clamp, nI_1, nI_add, pk_mul, if_true, if_false, eq_self, liN]
    exact ⟨1, rfl, Or.inl ⟨rfl, hI⟩⟩
theorem nu_copy {m0 : qm_M} {a b n k0 : Nat} (hab : a ≠ b) (ha : a < 1000000) (a1 : Nat.ble (qm_gk a).1 5 = true) (a2 : qm_n a = k0) (a3 : qm_isA a 1 = true) (b1 : Nat.ble (qm_gk b).1 5 = true) (b2 : qm_n b = n) (b4 : qm_isL b 1 = true) (b5 : qm_nl b = n) (hn : n < 1000) (hk0 : k0 < 1000) : ∃ m1, F_Po_copy a b m0 = some (none, m1) ∧ (∀ j, j < n → m1.2 b j = if j < k0 then m0.2 a j else 0) ∧ m1.1 = m0.1 ∧ ∀ x, x ≠ b → m1.2 x = m0.2 x := by
  obtain ⟨m1, i1, e⟩ := lpU (fun f k (m : qm_M) => L_Po_copy_2 f a b (nI k) m) n (fun k m => (∀ j, j < k → m.2 b j = if j < k0 then m0.2 a j else 0) ∧ m.1 = m0.1 ∧ ∀ x, x ≠ b → m.2 x = m0.2 x) (fun m => some (none, m)) (fun f k m hk hI => by
      refine ⟨qm_sL m b k (if k < k0 then m0.2 a k else 0), ⟨fun j hj => ?_, hI.2.1, fun x hx => by rw [(qm_sL_other x hx).2]; exact hI.2.2 x hx⟩, ?_⟩
      · rw [me_2L, if_pos rfl]
        by_cases q : j = k
        · rw [if_pos q, q]
        · rw [if_neg q]; exact hI.1 j (by omega)
      · show L_Po_copy_2 (f + 1) a b (nI k) m = _
        rw [le_Po_copy_2]
        unfold X_Po_copy_2
        rw [a1, b1, a2, b2, a3, b4, b5]
        by_cases q : k < k0
        · rw [if_pos q]
          simp (disch := omega) only [qe_rI_e, qe_rL_e, qe_rV_e, qe_rR_e, qe_b_e, n10F, nI_lt0, nI_e0T, nI_e0F, nI_ltT, nI_ltF, nI_eqT, nI_eqF, qm_in_nI, nI_clamp, nI_1, nI_add, pk_mul, if_true, if_false, eq_self, liN]
          rw [qm_gL_o ha, hI.2.2 a hab]
        · rw [if_neg q]
          simp (disch := omega) only [qe_rI_e, qe_rL_e, qe_rV_e, qe_rR_e, qe_b_e, n10F, nI_lt0, nI_e0T, nI_e0F, nI_ltT, nI_ltF, nI_eqT, nI_eqF, qm_in_nI, nI_clamp, nI_1, nI_add, pk_mul, if_true, if_false, eq_self, liN]) (fun f m hI => by
      show L_Po_copy_2 (f + 1) a b (nI n) m = _
      rw [le_Po_copy_2]
      unfold X_Po_copy_2
      rw [b1, b2]
      simp (disch := omega) only [qe_rI_e, qe_rL_e, qe_rV_e, qe_rR_e, qe_b_e, n10F, nI_lt0, nI_e0T, nI_e0F, nI_ltT, nI_ltF, nI_eqT, nI_eqF, qm_in_nI, nI_clamp, nI_1, nI_add, pk_mul, if_true, if_false, eq_self, liN]) 1000000 0 m0 (Nat.zero_le _) (by omega) ⟨fun j hj => absurd hj (Nat.not_lt_zero _), rfl, fun _ _ => rfl⟩
  unfold F_Po_copy X_Po_copy_e
  exact ⟨m1, e, i1⟩
/-- the class mends -/
theorem nu_mend34 {m0 : qm_M} {s : sT} (h : cs m0 s) : ∃ m1, L_Cu_mend_34 1000000 0 m0 = some (none, m1) ∧ cuR m1 (pP s.1) ∧ m1.1 107 4 = m0.1 107 4 ∧ m1.2 111 = m0.2 111 ∧ ou 107 110 m0 m1 := by
  refine lpE (fun f i (m : qm_M) => L_Cu_mend_34 f (nI i) m) 4 (fun i m => (∀ i' k', i' < i → i' < k' → k' < 4 → ¬ gdp (cub (pP s.1) i' k') (pP s.1)) ∧ m.1 107 4 = m0.1 107 4 ∧ m.2 111 = m0.2 111 ∧ ou 107 110 m0 m) (fun r => ∃ m1, r = some (none, m1) ∧ cuR m1 (pP s.1) ∧ m1.1 107 4 = m0.1 107 4 ∧ m1.2 111 = m0.2 111 ∧ ou 107 110 m0 m1) (fun f i m hi hI => ?_) (fun f m hI => ?_) 1000000 0 m0 (Nat.zero_le _) (by omega) ⟨fun i' k' h1 => absurd h1 (Nat.not_lt_zero _), rfl, rfl, ou.rf _ _ m0⟩
  · obtain ⟨i1, i2, i3, i4⟩ := hI
    rw [le_Cu_mend_34]
    unfold X_Cu_mend_34
    have e4 : nI i < (4 : Int32) := nI_lt (a := i) (b := 4) hi (by omega)
    rw [if_pos e4, nI_1]
    refine lpE (fun f2 k (m : qm_M) => L_Cu_mend_43 (L_Cu_mend_34 f) f2 (nI i) (nI k) m) 4 (fun k m => (∀ k', i < k' → k' < k → ¬ gdp (cub (pP s.1) i k') (pP s.1)) ∧ i < k ∧ m.1 107 4 = m0.1 107 4 ∧ m.2 111 = m0.2 111 ∧ ou 107 110 m0 m) (fun r => (∃ m', ((∀ i' k', i' < i + 1 → i' < k' → k' < 4 → ¬ gdp (cub (pP s.1) i' k') (pP s.1)) ∧ m'.1 107 4 = m0.1 107 4 ∧ m'.2 111 = m0.2 111 ∧ ou 107 110 m0 m') ∧ r = L_Cu_mend_34 f (nI (i + 1)) m') ∨ ∃ m1, r = some (none, m1) ∧ cuR m1 (pP s.1) ∧ m1.1 107 4 = m0.1 107 4 ∧ m1.2 111 = m0.2 111 ∧ ou 107 110 m0 m1) (fun f2 k m hk hI => ?_) (fun f2 m hI => ?_) 1000000 (i + 1) m (by omega) (by omega) ⟨fun k' h1 h2 => absurd h1 (by omega), by omega, i2, i3, i4⟩
    · obtain ⟨j1, j2, j3, j4, j5⟩ := hI
      have hc := j5.cs (by omega) h
      obtain ⟨m1, a1, a2, a3⟩ := nu_fit hc (i := i) (k := k) hi hk
      have hc1 := a3.cs (by omega) hc
      have hag := nu_agreement hc1 a2
      have hlt := bs_lt (gP (cub (pP s.1) i k) (pP s.1)) 8
      have k4 : (nI k < (4 : Int32)) := nI_lt (a := k) (b := 4) hk (by omega)
      rw [le_Cu_mend_43]
      unfold X_Cu_mend_43
      rw [if_pos k4, a1, qe_rV_e, hag, qe_rI_e]
      dsimp only
      rw [nu_isMended (A := bs (gP (cub (pP s.1) i k) (pP s.1)) 8) (by omega) (me_self _ _ _ _), qe_rI_e]
      have fr1 : ou 107 110 m0 (qm_sI m1 107 5 (nI (bs (gP (cub (pP s.1) i k) (pP s.1)) 8))) := (j5.tr (a3.le (by omega) (by omega))).tr (ou.I _ (by omega) _ _)
      have f4 : (qm_sI m1 107 5 (nI (bs (gP (cub (pP s.1) i k) (pP s.1)) 8))).1 107 4 = m0.1 107 4 := by rw [me_oth _ _ _ _ (Or.inr (by decide)), (a3 107 (by omega)).1]; exact j3
      have f11 : (qm_sI m1 107 5 (nI (bs (gP (cub (pP s.1) i k) (pP s.1)) 8))).2 111 = m0.2 111 := by rw [me_2I, (a3 111 (by omega)).2]; exact j4
      by_cases q : 6 ≤ pc 8 (bs (gP (cub (pP s.1) i k) (pP s.1)) 8)
      · rw [if_pos q, if_neg n10]
        exact Or.inr (Or.inr ⟨_, rfl, Or.inl ⟨cub (pP s.1) i k, q, a2, me_self _ _ _ _⟩, f4, f11, fr1⟩)
      · rw [if_neg q, if_pos rfl, nI_1]
        refine Or.inl ⟨_, ⟨fun k' h1 h2 => ?_, by omega, f4, f11, fr1⟩, rfl⟩
        by_cases y : k' = k
        · rw [y]; exact q
        · exact j1 k' h1 (by omega)
    · obtain ⟨j1, j2, j3, j4, j5⟩ := hI
      have k4 : ¬ (nI 4 < (4 : Int32)) := nI_nlt (a := 4) (b := 4) (by omega) (by omega)
      rw [le_Cu_mend_43]
      unfold X_Cu_mend_43
      rw [if_neg k4, nI_1]
      refine Or.inl ⟨m, ⟨fun i' k' h1 h2 h3 => ?_, j3, j4, j5⟩, rfl⟩
      by_cases y : i' = i
      · rw [y] at h2 ⊢; exact j1 k' h2 h3
      · exact i1 i' k' (by omega) h2 h3
  · obtain ⟨i1, i2, i3, i4⟩ := hI
    have e4 : ¬ (nI 4 < (4 : Int32)) := nI_nlt (a := 4) (b := 4) (by omega) (by omega)
    obtain ⟨m3, z1, z2, z3, z4⟩ := nu_clear (o := 110) (n := 4) (m0 := qm_sI m 107 5 0) rfl rfl rfl rfl (by omega)
    rw [le_Cu_mend_34]
    unfold X_Cu_mend_34
    rw [if_neg e4]
    dsimp only
    rw [z1, qe_rV_e]
    refine ⟨m3, rfl, Or.inr ⟨fun c z => ?_, z2, by rw [z3, me_self]; rfl⟩, by rw [z3, me_oth _ _ _ _ (Or.inr (by decide))]; exact i2, by rw [z4 111 (by omega), me_2I]; exact i3, i4.tr ((ou.I m (by omega) _ _).tr (fun a q => ⟨by rw [z3], z4 a (by omega)⟩))⟩
    obtain ⟨i', k', h1, h2, h3⟩ := cub_good z
    exact i1 i' k' (by omega) h1 h2 h3
theorem nu_mend {m : qm_M} {s : sT} (h : cs m s) (hv : cvCu m) : ∃ m1, F_Cu_mend m = some (none, m1) ∧ cuR m1 (pP s.1) ∧ cvCu m1 ∧ ou 107 111 m m1 := by
  have anew : ∃ m1, L_Cu_mend_19 m = some (none, m1) ∧ cuR m1 (pP s.1) ∧ cvCu m1 ∧ ou 107 111 m m1 := by
    obtain ⟨m1, a1, a2, a3, a4⟩ := nu_copy (m0 := qm_sI m 107 4 1) (a := 2) (b := 111) (n := 8) (k0 := 8) (by decide) (by decide) rfl rfl rfl rfl rfl rfl rfl (by omega) (by omega)
    have fr1 : ou 107 111 m m1 := (ou.I m (by omega) 4 1).tr (fun a q => ⟨by rw [a3], a4 a (by omega)⟩)
    have hc1 := fr1.cs (by omega) h
    obtain ⟨m2, b1, b2, b3, b4, b5⟩ := nu_mend34 hc1
    refine ⟨m2, ?_, b2, Or.inr ⟨by rw [b3, a3, me_self], b2.P (fun k hk => ?_)⟩, fr1.tr (b5.le (by omega) (by omega))⟩
    · unfold L_Cu_mend_19 X_Cu_mend_19
      dsimp only
      rw [a1, qe_rV_e]
      exact b1
    · show pP s.1 k = nb (m2.2 111 k)
      rw [b4, a2 k hk, if_pos hk, me_2I, cs_p h hk]
      rfl
  unfold F_Cu_mend X_Cu_mend_e
  rcases hv with hv | ⟨hv1, hv2⟩
  · rw [if_pos hv]
    exact anew
  · obtain ⟨r, e1, e2⟩ := nu_alike (m := m) (a := 2) (b := 111) (n := 8) (by omega) (by omega) rfl rfl rfl rfl rfl rfl (by omega)
    rw [hv1, if_neg n10, e1, qe_rI_e]
    rcases e2 with ⟨rfl, e2⟩ | ⟨rfl, -⟩
    · rw [if_neg n10]
      exact ⟨m, rfl, hv2.P (fun k hk => by rw [← e2 k hk, cs_p h hk]; rfl), Or.inr ⟨hv1, hv2⟩, ou.rf _ _ m⟩
    · rw [if_pos rfl]
      exact anew
