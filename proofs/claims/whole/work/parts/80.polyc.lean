/-! polynomials in arrays: the class -/
theorem le_Po_degreeOf_5  (n : Nat) (v0 : Nat) (v1 : Int32) (m : qm_M) : L_Po_degreeOf_5 (n + 1) v0 v1 m = X_Po_degreeOf_5 (L_Po_degreeOf_5 n) v0 v1 m := rfl
theorem le_Po_makeMonic_28  (n : Nat) (v0 : Nat) (v1 : Int32) (v2 : Int64) (v4 : Int32) (m : qm_M) : L_Po_makeMonic_28 (n + 1) v0 v1 v2 v4 m = X_Po_makeMonic_28 F_Po_degreeOf F_Nu_inverted F_Nu_product (L_Po_makeMonic_28 n) v0 v1 v2 v4 m := rfl
theorem le_Po_divide_51 (K15 : Nat → Nat → Nat → Int32 → Int32 → qm_M → Option qm_R) (n : Nat) (v0 : Nat) (v1 : Nat) (v2 : Nat) (v3 : Int32) (v4 : Int32) (v5 : Int64) (v7 : Int32) (m : qm_M) : L_Po_divide_51 K15 (n + 1) v0 v1 v2 v3 v4 v5 v7 m = X_Po_divide_51 F_Po_clear F_Po_degreeOf F_Nu_product K15 (L_Po_divide_51 K15 n) v0 v1 v2 v3 v4 v5 v7 m := rfl
theorem le_Po_divide_15  (n : Nat) (v0 : Nat) (v1 : Nat) (v2 : Nat) (v3 : Int32) (v4 : Int32) (m : qm_M) : L_Po_divide_15 (n + 1) v0 v1 v2 v3 v4 m = X_Po_divide_15 F_Po_clear F_Po_degreeOf F_Nu_product (L_Po_divide_51 (L_Po_divide_15 n) 1000000) v0 v1 v2 v3 v4 m := rfl
theorem le_Po_meet_2  (n : Nat) (v0 : Nat) (v1 : Nat) (v2 : Nat) (v3 : Int32) (m : qm_M) : L_Po_meet_2 (n + 1) v0 v1 v2 v3 m = X_Po_meet_2 F_Po_degreeOf F_Po_makeMonic F_Po_divide F_Po_copy (L_Po_meet_2 n) v0 v1 v2 v3 m := rfl
theorem le_Po_meetHalves_2  (n : Nat) (v2 : Int32) (m : qm_M) : L_Po_meetHalves_2 (n + 1) v2 m = X_Po_meetHalves_2 F_Po_meet (L_Po_meetHalves_2 n) (L_Po_meetHalves_41) v2 m := rfl
/-- a loop that goes down and may end early -/
theorem lpDE {σ α : Type} (L : Nat → Nat → σ → α) (n : Nat) (I : Nat → σ → Prop) (R : α → Prop) (hs : ∀ f k s, k < n → I (k + 1) s → (∃ s', I k s' ∧ L (f + 1) (k + 1) s = L f k s') ∨ R (L (f + 1) (k + 1) s)) (he : ∀ f s, I 0 s → R (L (f + 1) 0 s)) : ∀ (k f : Nat) (s : σ), k ≤ n → k < f → I k s → R (L f k s) := by
  intro k
  induction k with
  | zero =>
    intro f s h2 h3 h4
    obtain ⟨f, rfl⟩ : ∃ g, f = g + 1 := ⟨f - 1, by omega⟩
    exact he f s h4
  | succ k ih =>
    intro f s h2 h3 h4
    obtain ⟨f, rfl⟩ : ∃ g, f = g + 1 := ⟨f - 1, by omega⟩
    rcases hs f k s (by omega) h4 with ⟨s', a, b⟩ | r
    · rw [b]
      exact ih f s' (by omega) (by omega) a
    · exact r
/-- an array of n longs -/
def ary (o n : Nat) : Prop := o < 1000000 ∧ Nat.ble (qm_gk o).1 5 = true ∧ qm_n o = n ∧ qm_isA o 1 = true ∧ qm_isL o 1 = true ∧ qm_nl o = n
/-- what it holds -/
def pa (m : qm_M) (o n : Nat) (c : Nat → nb_F) : Prop := (∀ i, i < n → m.2 o i = bn (c i)) ∧ ∀ i, n ≤ i → c i = 0
theorem pa.c {m m1 : qm_M} {o n : Nat} {c : Nat → nb_F} (h : pa m o n c) (e : m1.2 o = m.2 o) : pa m1 o n c := ⟨fun i hi => by rw [e]; exact h.1 i hi, h.2⟩
theorem dv_neg : dv 0 = -1 := by decide
theorem dv_lt {a b : Nat} (ha : a < 1000) (hb : b < 1000) : (dv a < dv b) ↔ a < b := by
  have e : ∀ k, k < 1000 → (dv k).toInt = (k : Int) - 1 := fun k hk => pk_sub_toInt (a := k) (b := 1) (by omega) (by omega)
  rw [Int32.lt_iff_toInt_lt, e a ha, e b hb]
  omega
theorem dv_z {a : Nat} (ha : a < 1000) : (dv a < 0) ↔ a = 0 := by
  have e : (dv a).toInt = (a : Int) - 1 := pk_sub_toInt (a := a) (b := 1) (by omega) (by omega)
  rw [Int32.lt_iff_toInt_lt, e]
  show (a : Int) - 1 < 0 ↔ _
  omega
theorem dv_p {a : Nat} (ha : 1 ≤ a) : dv a = nI (a - 1) := pk_sub (b := 1) ha
theorem nu_degree {m : qm_M} {o n : Nat} {c : Nat → nb_F} (ho : ary o n) (hn : n < 1000) (h : pa m o n c) : ∃ L, L ≤ n ∧ isL c L ∧ F_Po_degreeOf o m = some (some (.int (dv L)), m) := by
  obtain ⟨o0, o1, o2, o3, o4, o5⟩ := ho
  unfold F_Po_degreeOf X_Po_degreeOf_e
  rw [o1, qe_b_e, o2]
  refine lpDE (fun f k (m1 : qm_M) => L_Po_degreeOf_5 f o (dv k) m1) n (fun k m1 => m1 = m ∧ ∀ i, k ≤ i → c i = 0) (fun r => ∃ L, L ≤ n ∧ isL c L ∧ r = some (some (.int (dv L)), m)) (fun f k m1 hk hI => ?_) (fun f m1 hI => ?_) n 1000000 m (Nat.le_refl _) (by omega) ⟨rfl, h.2⟩
  · obtain ⟨rfl, hz⟩ := hI
    rw [le_Po_degreeOf_5]
    unfold X_Po_degreeOf_5
    rw [dv_s]
    simp (disch := omega) only [qe_rI_e, qe_rL_e, qe_rV_e, qe_rR_e, qe_b_e, n10F, nI_lt0, nI_e0T, nI_e0F, nI_ltT, nI_ltF, nI_eqT, nI_eqF, qm_in_nI, nI_clamp, nI_1, nI_add, pk_mul, if_true, if_false, eq_self, o3, o2, dv_d]
    rw [qm_gL_o o0, h.1 k hk]
    by_cases q : c k = 0
    · rw [if_pos ((no_zB _).mpr q)]
      refine Or.inl ⟨m1, ⟨rfl, fun i hi => ?_⟩, rfl⟩
      by_cases e : i = k
      · rw [e]; exact q
      · exact hz i (by omega)
    · rw [if_neg (fun z => q ((no_zB _).mp z))]
      exact Or.inr ⟨k + 1, by omega, ⟨hz, Or.inr q⟩, by rw [dv_s]⟩
  · obtain ⟨rfl, hz⟩ := hI
    rw [le_Po_degreeOf_5]
    unfold X_Po_degreeOf_5
    rw [if_pos dv_0]
    exact ⟨0, Nat.zero_le _, ⟨hz, Or.inl rfl⟩, by rw [dv_neg]⟩
theorem nu_makeMonic {m : qm_M} {o n : Nat} {c : Nat → nb_F} (ho : ary o n) (hn : n < 1000) (h : pa m o n c) {L : Nat} (hL : isL c L) : ∃ m1 s, s ≠ 0 ∧ F_Po_makeMonic o m = some (none, m1) ∧ pa m1 o n (fun i => nb_mul s (c i)) ∧ (1 ≤ L → nb_mul s (c (L - 1)) = 1) ∧ m1.1 = m.1 ∧ ∀ a, a ≠ o → m1.2 a = m.2 a := by
  obtain ⟨K, k1, k2, k3⟩ := nu_degree ho hn h
  have eK := isL_un k2 hL
  subst eK
  obtain ⟨o0, o1, o2, o3, o4, o5⟩ := ho
  have h1 : pa m o n (fun i => nb_mul 1 (c i)) := ⟨fun i hi => by show m.2 o i = bn (nb_mul 1 (c i)); rw [nb_1_mul]; exact h.1 i hi, fun i hi => by show nb_mul 1 (c i) = 0; rw [nb_1_mul]; exact h.2 i hi⟩
  unfold F_Po_makeMonic X_Po_makeMonic_e
  rw [k3, qe_rI_e]
  by_cases q : K = 0
  · rw [if_pos ((dv_z (by omega)).mpr q)]
    exact ⟨m, 1, by decide, rfl, h1, fun z => by omega, rfl, fun _ _ => rfl⟩
  · have ht : c (K - 1) ≠ 0 := hL.2.resolve_left q
    rw [if_neg (fun z => q ((dv_z (by omega)).mp z)), dv_p (by omega)]
    simp (disch := omega) only [qe_rI_e, qe_rL_e, qe_rV_e, qe_rR_e, qe_b_e, n10F, nI_lt0, nI_e0T, nI_e0F, nI_ltT, nI_ltF, nI_eqT, nI_eqF, qm_in_nI, nI_clamp, nI_1, nI_add, pk_mul, if_true, if_false, eq_self, o3, o2]
    rw [qm_gL_o o0, h.1 _ (by omega)]
    by_cases y : c (K - 1) = 1
    · rw [if_pos ((no_oB _).mpr y)]
      exact ⟨m, 1, by decide, rfl, h1, fun _ => by rw [nb_1_mul]; exact y, rfl, fun _ _ => rfl⟩
    · rw [if_neg (fun z => y ((no_oB _).mp z)), nu_inverted, qe_rL_e, nb_bn]
      generalize hs : nb_inv (c (K - 1)) = s
      have hi := nb_mul_inv ht
      rw [hs] at hi
      have hs0 : s ≠ 0 := fun z => by rw [z, nb_mul_0] at hi; exact absurd hi (by decide)
      obtain ⟨m1, i1, e⟩ := lpU (fun f k (m : qm_M) => L_Po_makeMonic_28 f o (nI (K - 1)) (bn s) (nI k) m) K (fun k m1 => (∀ i, i < n → m1.2 o i = bn (if i < k then nb_mul s (c i) else c i)) ∧ m1.1 = m.1 ∧ ∀ a, a ≠ o → m1.2 a = m.2 a) (fun m1 => some (none, m1)) (fun f k m1 hk hI => by
          obtain ⟨j1, j2, j3⟩ := hI
          have a1 := j1 k (by omega)
          rw [if_neg (by omega)] at a1
          refine ⟨qm_sL m1 o k (bn (nb_mul s (c k))), ⟨fun i hi => ?_, j2, fun a ha => by rw [(qm_sL_other a ha).2]; exact j3 a ha⟩, ?_⟩
          · rw [me_2L, if_pos rfl]
            by_cases e : i = k
            · rw [if_pos e, e, if_pos (by omega)]
            · rw [if_neg e, j1 i hi]
              by_cases z : i < k
              · rw [if_pos z, if_pos (by omega)]
              · rw [if_neg z, if_neg (by omega)]
          · show L_Po_makeMonic_28 (f + 1) o (nI (K - 1)) (bn s) (nI k) m1 = _
            rw [le_Po_makeMonic_28]
            unfold X_Po_makeMonic_28
            simp (disch := omega) only [qe_rI_e, qe_rL_e, qe_rV_e, qe_rR_e, qe_b_e, n10F, nI_lt0, nI_e0T, nI_e0F, nI_ltT, nI_ltF, nI_eqT, nI_eqF, qm_in_nI, nI_clamp, nI_1, nI_add, pk_mul, if_true, if_false, eq_self, o3, o2, o4, o5]
            rw [qm_gL_o o0, a1, nu_product, qe_rL_e, nb_bn, nb_bn, nb_comm]) (fun f m1 hI => by
          show L_Po_makeMonic_28 (f + 1) o (nI (K - 1)) (bn s) (nI K) m1 = _
          rw [le_Po_makeMonic_28]
          unfold X_Po_makeMonic_28
          rw [if_pos (nI_lt (by omega) (by omega))]) 1000000 0 m (Nat.zero_le _) (by omega) ⟨fun i hi => by rw [if_neg (by omega)]; exact h.1 i hi, rfl, fun _ _ => rfl⟩
      obtain ⟨j1, j2, j3⟩ := i1
      refine ⟨m1, s, hs0, e, ⟨fun i hi => ?_, fun i hi => by show nb_mul s (c i) = 0; rw [h.2 i hi, nb_mul_0]⟩, fun _ => by rw [nb_comm]; exact hi, j2, j3⟩
      rw [j1 i hi]
      by_cases z : i < K
      · rw [if_pos z]
      · rw [if_neg z]; show bn (c i) = bn (nb_mul s (c i)); rw [hL.1 i (by omega), nb_mul_0]
/-! quotients -/
theorem pf_shift (x : nb_F) {n : Nat} {c : Nat → nb_F} : ∀ t, pf_e (t + n) (fun i => if i < t then 0 else c (i - t)) x = nb_mul (nb_pow t x) (pf_e n c x)
  | 0 => by
    rw [nb_pow_0, nb_1_mul, Nat.zero_add]
    exact pf_e_c (fun i _ => by rw [if_neg (by omega), Nat.sub_zero]) x
  | t + 1 => by
    rw [show t + 1 + n = (t + n) + 1 by omega, pf_e_s, if_pos (by omega), nb_0x, nb_pow_s, nb_comm (nb_pow t x) x, nb_assoc, ← pf_shift x t]
    exact nb_mc x (pf_e_c (fun i _ => by
      by_cases q : i < t
      · rw [if_pos (by omega), if_pos q]
      · rw [if_neg (by omega), if_neg q, show i + 1 - (t + 1) = i - t by omega]) x)
theorem pf_one (x a : nb_F) {n t : Nat} (h : t < n) : pf_e n (fun i => if i = t then a else 0) x = nb_mul (nb_pow t x) a := by
  have e := pf_shift x (n := n - t) (c := fun i => if i = 0 then a else 0) t
  rw [show t + (n - t) = n by omega] at e
  have e2 : pf_e (n - t) (fun i => if i = 0 then a else 0) x = a := by
    rw [show n - t = (n - t - 1) + 1 by omega, pf_e_s, if_pos rfl, pf_e_z (fun i _ => if_neg (by omega)), nb_mul_0, nb_x0]
  rw [e2] at e
  rw [← e]
  exact pf_e_c (fun i _ => by
    by_cases q : i < t
    · rw [if_pos q, if_neg (by omega)]
    · rw [if_neg q]
      by_cases y : i = t
      · rw [if_pos y, if_pos (by omega)]
      · rw [if_neg y, if_neg (by omega)]) x
/-- the rest, less a multiple of the divisor -/
def dvs (c d : Nat → nb_F) (a : nb_F) (t : Nat) : Nat → nb_F := fun i => c i ^^^ (if i < t then 0 else nb_mul a (d (i - t)))
theorem dvs_e {c d : Nat → nb_F} {n n1 K : Nat} (a : nb_F) {t : Nat} (hd : ∀ i, K ≤ i → d i = 0) (ht : t + K ≤ n) (h1 : K ≤ n1) (x : nb_F) : pf_e n (dvs c d a t) x = pf_e n c x ^^^ nb_mul (nb_mul (nb_pow t x) a) (pf_e n1 d x) := by
  have e1 : pf_e n (dvs c d a t) x = pf_e n c x ^^^ pf_e n (fun i => if i < t then 0 else nb_mul a (d (i - t))) x := by
    rw [← pf_e_add]
    rfl
  have e2 : pf_e n (fun i => if i < t then 0 else nb_mul a (d (i - t))) x = pf_e (t + K) (fun i => if i < t then 0 else nb_mul a (d (i - t))) x := pf_e_len (fun i hi => by rw [if_neg (by omega), hd _ (by omega), nb_mul_0]) ht x
  rw [e1, e2, pf_shift x (n := K) (c := fun i => nb_mul a (d i)) t, pf_e_sc, pf_e_len hd h1, nb_assoc]
theorem nu_divide {m : qm_M} {v0 v1 v2 n : Nat} {c d : Nat → nb_F} (h0 : ary v0 n) (h1 : ary v1 n) (h2 : ary v2 n) (d01 : v0 ≠ v1) (d02 : v0 ≠ v2) (d12 : v1 ≠ v2) (hn : n < 1000) (hc : pa m v0 n c) (hd : pa m v1 n d) {K : Nat} (hK : isL d K) (hm : 1 ≤ K → d (K - 1) = 1) :
    ∃ m1 c1 q, F_Po_divide v0 v1 v2 m = some (none, m1) ∧ pa m1 v0 n c1 ∧ pa m1 v2 n q ∧ (1 ≤ K → ∀ i, K - 1 ≤ i → c1 i = 0) ∧ (K = 0 → c1 = c) ∧ (∀ x, pf_e n c x = nb_mul (pf_e n q x) (pf_e n d x) ^^^ pf_e n c1 x) ∧ m1.1 = m.1 ∧ ∀ a, a ≠ v0 → a ≠ v2 → m1.2 a = m.2 a := by
  obtain ⟨m1, z1, z2, z3, z4⟩ := nu_clear (m0 := m) h2.2.1 h2.2.2.1 h2.2.2.2.2.1 h2.2.2.2.2.2 hn
  have hc1 : pa m1 v0 n c := hc.c (z4 v0 d02)
  have hd1 : pa m1 v1 n d := hd.c (z4 v1 d12)
  obtain ⟨K', k1, k2, k3⟩ := nu_degree h1 hn hd1
  have eK := isL_un k2 hK
  subst eK
  obtain ⟨L, l1, l2, l3⟩ := nu_degree h0 hn hc1
  obtain ⟨a0, a1, a2, a3, a4, a5⟩ := h0
  obtain ⟨b0, b1, b2, b3, b4, b5⟩ := h1
  obtain ⟨e0, e1, e2, e3, e4, e5⟩ := h2
  unfold F_Po_divide X_Po_divide_e
  rw [z1, qe_rV_e, k3, qe_rI_e, l3, qe_rI_e]
  -- k: the rest is below it
  let J : Nat → qm_M → (Nat → nb_F) → (Nat → nb_F) → Prop := fun k m2 c1 q => pa m2 v0 n c1 ∧ pa m2 v2 n q ∧ (∀ i, k ≤ i → c1 i = 0) ∧ (∀ x, pf_e n c x = nb_mul (pf_e n q x) (pf_e n d x) ^^^ pf_e n c1 x) ∧ m2.1 = m.1 ∧ (∀ a, a ≠ v0 → a ≠ v2 → m2.2 a = m.2 a) ∧ (K' = 0 → c1 = c) ∧ ∀ i, i + (K' - 1) < k → q i = 0
  have fin : ∀ k m2 c1 q, J k m2 c1 q → (1 ≤ K' → k ≤ K' - 1) → ∃ m1 c1 q, some (none, m2) = (some (none, m1) : Option qm_R) ∧ pa m1 v0 n c1 ∧ pa m1 v2 n q ∧ (1 ≤ K' → ∀ i, K' - 1 ≤ i → c1 i = 0) ∧ (K' = 0 → c1 = c) ∧ (∀ x, pf_e n c x = nb_mul (pf_e n q x) (pf_e n d x) ^^^ pf_e n c1 x) ∧ m1.1 = m.1 ∧ ∀ a, a ≠ v0 → a ≠ v2 → m1.2 a = m.2 a := fun k m2 c1 q hJ hk => ⟨m2, c1, q, rfl, hJ.1, hJ.2.1, fun z i hi => hJ.2.2.1 i (by have := hk z; omega), hJ.2.2.2.2.2.2.1, hJ.2.2.2.1, hJ.2.2.2.2.1, hJ.2.2.2.2.2.1⟩
  refine lpDE (fun f k (w : qm_M × (Nat → nb_F) × (Nat → nb_F)) => L_Po_divide_15 f v0 v1 v2 (dv K') (dv k) w.1) n (fun k w => J k w.1 w.2.1 w.2.2) (fun r => ∃ m1 c1 q, r = some (none, m1) ∧ pa m1 v0 n c1 ∧ pa m1 v2 n q ∧ (1 ≤ K' → ∀ i, K' - 1 ≤ i → c1 i = 0) ∧ (K' = 0 → c1 = c) ∧ (∀ x, pf_e n c x = nb_mul (pf_e n q x) (pf_e n d x) ^^^ pf_e n c1 x) ∧ m1.1 = m.1 ∧ ∀ a, a ≠ v0 → a ≠ v2 → m1.2 a = m.2 a) (fun f k w hk hI => ?_) (fun f w hI => ?_) L 1000000 (m1, c, fun _ => 0) l1 (by omega) ⟨hc1, ⟨fun i hi => z2 i hi, fun _ _ => rfl⟩, l2.1, fun x => by rw [pf_e_z (fun _ _ => rfl), nb_0_mul, nb_0x], z3, fun a x y => z4 a y, fun _ => rfl, fun _ _ => rfl⟩
  · obtain ⟨m2, c1, q⟩ := w
    obtain ⟨i1, i2, i3, i4, i5, i6, i7, i8⟩ := hI
    dsimp only at i1 i2 i3 i4 i5 i6 i7 i8 ⊢
    rw [le_Po_divide_15]
    unfold X_Po_divide_15
    by_cases y : k + 1 < K'
    · rw [if_pos ((dv_lt (by omega) (by omega)).mpr y)]
      exact Or.inr (fin (k + 1) m2 c1 q ⟨i1, i2, i3, i4, i5, i6, i7, i8⟩ (fun _ => by omega))
    · rw [if_neg (fun z => y ((dv_lt (by omega) (by omega)).mp z))]
      by_cases y0 : K' = 0
      · rw [if_pos ((dv_z (by omega)).mpr y0)]
        exact Or.inr (fin (k + 1) m2 c1 q ⟨i1, i2, i3, i4, i5, i6, i7, i8⟩ (fun z => by omega))
      · rw [if_neg (fun z => y0 ((dv_z (by omega)).mp z)), dv_s, dv_p (show 1 ≤ K' by omega)]
        have hmon := hm (by omega)
        have hD : pa m2 v1 n d := hd.c (i6 v1 (Ne.symm d01) d12)
        have ev : m2.2 v0 k = bn (c1 k) := i1.1 k (by omega)
        have ht : ∃ t, t = k - (K' - 1) := ⟨_, rfl⟩
        obtain ⟨t, ht⟩ := ht
        have et : nI k - nI (K' - 1) = nI t := by rw [pk_sub (by omega), ht]
        rw [et]
        simp (disch := omega) only [qe_rI_e, qe_rL_e, qe_rV_e, qe_rR_e, qe_b_e, n10F, nI_lt0, nI_e0T, nI_e0F, nI_ltT, nI_ltF, nI_eqT, nI_eqF, qm_in_nI, nI_clamp, nI_1, nI_add, pk_mul, if_true, if_false, eq_self, a3, a2, e1, e2, e4, e5, liN]
        rw [qm_gL_o a0, ev]
        -- the rest, the quotient
        have zt : ∀ i, k ≤ i → dvs c1 d (c1 k) t i = 0 := fun i hi => by
          unfold dvs
          by_cases e : i = k
          · rw [e, if_neg (by omega), show k - t = K' - 1 by omega, hmon, nb_mul_1, nb_xx]
          · rw [i3 i (by omega), if_neg (by omega), hK.1 _ (by omega), nb_mul_0, nb_xx]
        have hq : ∀ x, pf_e n (fun i => if i = t then c1 k else q i) x = pf_e n q x ^^^ nb_mul (nb_pow t x) (c1 k) := fun x => by
          rw [← pf_one x (c1 k) (show t < n by omega), ← pf_e_add]
          refine pf_e_c (fun i _ => ?_) x
          by_cases e : i = t
          · rw [if_pos e, if_pos e, e, i8 t (by omega), nb_0x]
          · rw [if_neg e, if_neg e, nb_x0]
        have hsum : ∀ x, pf_e n c x = nb_mul (pf_e n (fun i => if i = t then c1 k else q i) x) (pf_e n d x) ^^^ pf_e n (dvs c1 d (c1 k) t) x := fun x => by
          rw [hq x, dvs_e (n1 := n) (c1 k) hK.1 (by omega) k1, i4 x]
          generalize pf_e n q x = u1
          generalize pf_e n d x = u2
          generalize pf_e n c1 x = u3
          generalize nb_pow t x = u4
          generalize c1 k = u5
          letI := nb_RI
          haveI := nb_RC
          exact (show ∀ u1 u2 u3 u4 u5 : nb_R, u1 * u2 + u3 = (u1 + u4 * u5) * u2 + (u3 + u4 * u5 * u2) by intros; grind) u1 u2 u3 u4 u5
        have nq : pa (qm_sL m2 v2 t (bn (c1 k))) v2 n (fun i => if i = t then c1 k else q i) := ⟨fun i hi => by
          rw [me_2L, if_pos rfl]
          show _ = bn (if i = t then c1 k else q i)
          by_cases e : i = t
          · rw [if_pos e, if_pos e]
          · rw [if_neg e, if_neg e]; exact i2.1 i hi, fun i hi => by show (if i = t then c1 k else q i) = 0; rw [if_neg (by omega)]; exact i2.2 i hi⟩
        have hfr : ∀ a, a ≠ v2 → (qm_sL m2 v2 t (bn (c1 k))).2 a = m2.2 a := fun a ha => (qm_sL_other a ha).2
        have q8 : ∀ i, i + (K' - 1) < k → (fun i => if i = t then c1 k else q i) i = 0 := fun i hi => by
          show (if i = t then c1 k else q i) = 0
          rw [if_neg (by omega)]
          exact i8 i (by omega)
        have c7 : K' = 0 → dvs c1 d (c1 k) t = c := fun z => absurd z y0
        by_cases yz : c1 k = 0
        · -- nothing to take away
          have ed : dvs c1 d (c1 k) t = c1 := by
            funext i
            unfold dvs
            rw [yz, nb_0_mul, ite_self, nb_x0]
          have st : L_Po_divide_51 (L_Po_divide_15 f) 1000000 v0 v1 v2 (nI (K' - 1)) (nI k) (bn (c1 k)) 0 (qm_sL m2 v2 t (bn (c1 k))) = L_Po_divide_15 f v0 v1 v2 (nI (K' - 1)) (dv k) (qm_sL m2 v2 t (bn (c1 k))) := by
            rw [show (1000000 : Nat) = 999999 + 1 from rfl, le_Po_divide_51]
            unfold X_Po_divide_51
            have n0 : ¬ nI (K' - 1) < (0 : Int32) := nI_pos (by omega)
            rw [if_neg n0, if_pos ((no_zB _).mpr yz), dv_d]
          rw [st, ← dv_p (show 1 ≤ K' by omega)]
          refine Or.inl ⟨(qm_sL m2 v2 t (bn (c1 k)), dvs c1 d (c1 k) t, fun i => if i = t then c1 k else q i), ⟨?_, nq, zt, hsum, i5, fun a x y => by rw [hfr a y]; exact i6 a x y, c7, q8⟩, rfl⟩
          show pa _ v0 n (dvs c1 d (c1 k) t)
          rw [ed]
          exact i1.c (hfr v0 d02)
        · obtain ⟨m3, h3, e3'⟩ := lpU (fun f2 j (m3 : qm_M) => L_Po_divide_51 (L_Po_divide_15 f) f2 v0 v1 v2 (nI (K' - 1)) (nI k) (bn (c1 k)) (nI j) m3) K' (fun j m3 => (∀ i, i < n → m3.2 v0 i = bn (if t ≤ i ∧ i < t + j then dvs c1 d (c1 k) t i else c1 i)) ∧ m3.1 = m2.1 ∧ ∀ a, a ≠ v0 → m3.2 a = (qm_sL m2 v2 t (bn (c1 k))).2 a) (fun m3 => L_Po_divide_15 f v0 v1 v2 (nI (K' - 1)) (dv k) m3) (fun f2 j m3 hj hI => by
              obtain ⟨j1, j2, j3⟩ := hI
              have b1' := j1 (t + j) (by omega)
              rw [if_neg (by omega)] at b1'
              have b2' : m3.2 v1 j = bn (d j) := by rw [j3 v1 (Ne.symm d01), hfr v1 d12]; exact hD.1 j (by omega)
              refine ⟨qm_sL m3 v0 (t + j) (bn (dvs c1 d (c1 k) t (t + j))), ⟨fun i hi => ?_, j2, fun a ha => by rw [(qm_sL_other a ha).2]; exact j3 a ha⟩, ?_⟩
              · rw [me_2L, if_pos rfl]
                by_cases e : i = t + j
                · rw [if_pos e, if_pos (show t ≤ i ∧ i < t + (j + 1) by omega), e]
                · rw [if_neg e, j1 i hi]
                  by_cases z : t ≤ i ∧ i < t + j
                  · rw [if_pos z, if_pos (show t ≤ i ∧ i < t + (j + 1) by omega)]
                  · rw [if_neg z, if_neg (show ¬ (t ≤ i ∧ i < t + (j + 1)) by omega)]
              · show L_Po_divide_51 (L_Po_divide_15 f) (f2 + 1) v0 v1 v2 (nI (K' - 1)) (nI k) (bn (c1 k)) (nI j) m3 = _
                rw [le_Po_divide_51]
                unfold X_Po_divide_51
                rw [if_neg (nI_nlt (by omega) (by omega)), if_neg (fun z => yz ((no_zB _).mp z)), et]
                simp (disch := omega) only [qe_rI_e, qe_rL_e, qe_rV_e, qe_rR_e, qe_b_e, n10F, nI_lt0, nI_e0T, nI_e0F, nI_ltT, nI_ltF, nI_eqT, nI_eqF, qm_in_nI, nI_clamp, nI_1, nI_add, pk_mul, if_true, if_false, eq_self, a3, a2, a4, a5, b2, b3]
                rw [qm_gL_o b0, b2', nu_product, qe_rL_e, nb_bn, nb_bn]
                rw [qm_gL_o a0, b1']
                unfold dvs
                rw [if_neg (by omega), show t + j - t = j by omega]
                rfl) (fun f2 m3 hI => by
              show L_Po_divide_51 (L_Po_divide_15 f) (f2 + 1) v0 v1 v2 (nI (K' - 1)) (nI k) (bn (c1 k)) (nI K') m3 = _
              rw [le_Po_divide_51]
              unfold X_Po_divide_51
              rw [if_pos (nI_lt (by omega) (by omega)), dv_d]) 1000000 0 (qm_sL m2 v2 t (bn (c1 k))) (Nat.zero_le _) (by omega) ⟨fun i hi => by rw [if_neg (by omega), hfr v0 d02]; exact i1.1 i hi, rfl, fun _ _ => rfl⟩
          obtain ⟨j1, j2, j3⟩ := h3
          have e3 : L_Po_divide_51 (L_Po_divide_15 f) 1000000 v0 v1 v2 (nI (K' - 1)) (nI k) (bn (c1 k)) 0 (qm_sL m2 v2 t (bn (c1 k))) = _ := e3'
          rw [e3, ← dv_p (show 1 ≤ K' by omega)]
          refine Or.inl ⟨(m3, dvs c1 d (c1 k) t, fun i => if i = t then c1 k else q i), ⟨⟨fun i hi => ?_, fun i hi => zt i (by omega)⟩, nq.c (j3 v2 (Ne.symm d02)), zt, hsum, j2.trans i5, fun a x y => by rw [j3 a x, hfr a y]; exact i6 a x y, c7, q8⟩, rfl⟩
          rw [j1 i hi]
          by_cases z : t ≤ i ∧ i < t + K'
          · rw [if_pos z]
          · rw [if_neg z]
            show bn (c1 i) = bn (c1 i ^^^ (if i < t then 0 else nb_mul (c1 k) (d (i - t))))
            by_cases z2 : i < t
            · rw [if_pos z2, nb_x0]
            · rw [if_neg z2, hK.1 _ (by omega), nb_mul_0, nb_x0]
  · obtain ⟨m2, c1, q⟩ := w
    dsimp only at hI ⊢
    rw [le_Po_divide_15]
    unfold X_Po_divide_15
    by_cases y0 : K' = 0
    · have hl : ¬ dv 0 < dv K' := by rw [y0]; exact Int32.lt_irrefl
      rw [if_neg hl, if_pos ((dv_z (by omega)).mpr y0)]
      exact fin 0 m2 c1 q hI (fun z => by omega)
    · have hl : dv 0 < dv K' := (dv_lt (by omega) (by omega)).mpr (by omega)
      rw [if_pos hl]
      exact fin 0 m2 c1 q hI (fun _ => by omega)
/-- what is common of both -/
theorem nu_meet {m : qm_M} {v0 v1 v2 n : Nat} {c d : Nat → nb_F} (h0 : ary v0 n) (h1 : ary v1 n) (h2 : ary v2 n) (d01 : v0 ≠ v1) (d02 : v0 ≠ v2) (d12 : v1 ≠ v2) (hn : n ≤ 16) (hc : pa m v0 n c) (hd : pa m v1 n d) :
    ∃ m1 g, F_Po_meet v0 v1 v2 m = some (none, m1) ∧ pa m1 v0 n g ∧ GD (pf_e n c) (pf_e n d) (pf_e n g) ∧ mnc g ∧ m1.1 = m.1 ∧ ∀ a, a ≠ v0 → a ≠ v1 → a ≠ v2 → m1.2 a = m.2 a := by
  have fin : ∀ (m2 : qm_M) (a b : Nat → nb_F) (k : Nat), k ≤ 400 → pa m2 v0 n a → (∀ i, b i = 0) → GC k (pf_e n c) (pf_e n d) (pf_e n a) (pf_e n b) → m2.1 = m.1 → (∀ a, a ≠ v0 → a ≠ v1 → a ≠ v2 → m2.2 a = m.2 a) → ∃ m1 g, F_Po_makeMonic v0 m2 = some (none, m1) ∧ pa m1 v0 n g ∧ GD (pf_e n c) (pf_e n d) (pf_e n g) ∧ mnc g ∧ m1.1 = m.1 ∧ ∀ a, a ≠ v0 → a ≠ v1 → a ≠ v2 → m1.2 a = m.2 a := by
    intro m2 a b k hk ha hb hG f1 f2
    obtain ⟨L, l1, l2⟩ := isL_ex n ha.2
    obtain ⟨m1, s, s1, s2, s3, s4, s5, s6⟩ := nu_makeMonic h0 (by omega) ha l2
    refine ⟨m1, _, s2, s3, hG.end hk (fun x => pf_e_z (fun i _ => hb i) x) s1 (fun x => pf_e_sc s n a x), ?_, s5.trans f1, fun w x y z => by rw [s6 w x]; exact f2 w x y z⟩
    by_cases q : L = 0
    · exact Or.inr (fun i => by show nb_mul s (a i) = 0; rw [l2.1 i (by omega), nb_mul_0])
    · refine Or.inl ⟨L, by omega, ⟨fun i hi => by show nb_mul s (a i) = 0; rw [l2.1 i hi, nb_mul_0], Or.inr ?_⟩, s4 (by omega)⟩
      show nb_mul s (a (L - 1)) ≠ 0
      rw [s4 (by omega)]
      decide
  unfold F_Po_meet X_Po_meet_e
  refine lpE (fun f i (w : qm_M × (Nat → nb_F) × (Nat → nb_F)) => L_Po_meet_2 f v0 v1 v2 (nI i) w.1) n (fun i w => pa w.1 v0 n w.2.1 ∧ pa w.1 v1 n w.2.2 ∧ (∃ k, k ≤ 1 + 16 * i ∧ GC k (pf_e n c) (pf_e n d) (pf_e n w.2.1) (pf_e n w.2.2)) ∧ (∀ j, n ≤ j + i → w.2.2 j = 0) ∧ w.1.1 = m.1 ∧ ∀ a, a ≠ v0 → a ≠ v1 → a ≠ v2 → w.1.2 a = m.2 a) (fun r => ∃ m1 g, r = some (none, m1) ∧ pa m1 v0 n g ∧ GD (pf_e n c) (pf_e n d) (pf_e n g) ∧ mnc g ∧ m1.1 = m.1 ∧ ∀ a, a ≠ v0 → a ≠ v1 → a ≠ v2 → m1.2 a = m.2 a) (fun f i w hi hI => ?_) (fun f w hI => ?_) 1000000 0 (m, c, d) (Nat.zero_le _) (by omega) ⟨hc, hd, ⟨1, by omega, GC.first _ _⟩, fun j hj => hd.2 j (by omega), rfl, fun _ _ _ _ => rfl⟩
  · obtain ⟨m2, a, b⟩ := w
    obtain ⟨i1, i2, ⟨k, k1, k2⟩, i3, i4, i5⟩ := hI
    dsimp only at i1 i2 k2 i3 i4 i5 ⊢
    obtain ⟨K, g1, g2, g3⟩ := nu_degree h1 (by omega) i2
    rw [le_Po_meet_2]
    unfold X_Po_meet_2
    rw [h0.2.1, h0.2.2.1, liN, qe_b_e, if_pos (nI_lt hi (by omega)), g3, qe_rI_e]
    by_cases q : K = 0
    · rw [if_pos ((dv_z (by omega)).mpr q)]
      obtain ⟨m1, g, r1, r2⟩ := fin m2 a b k (by omega) i1 (fun j => g2.1 j (by omega)) k2 i4 i5
      rw [r1, qe_rV_e]
      exact Or.inr ⟨m1, g, rfl, r2⟩
    · rw [if_neg (fun z => q ((dv_z (by omega)).mp z))]
      obtain ⟨m3, s, s1, s2, s3, s4, s5, s6⟩ := nu_makeMonic h1 (by omega) i2 g2
      have L3 : isL (fun i => nb_mul s (b i)) K := ⟨fun j hj => by show nb_mul s (b j) = 0; rw [g2.1 j hj, nb_mul_0], Or.inr (by show nb_mul s (b (K - 1)) ≠ 0; rw [s4 (by omega)]; decide)⟩
      obtain ⟨m4, a2, qt, t1, t2, t3, t4, t5, t6, t7, t8⟩ := nu_divide h0 h1 h2 d01 d02 d12 (by omega) (i1.c (s6 v0 d01)) s3 L3 (fun z => s4 z)
      obtain ⟨m5, u1, u2, u3, u4⟩ := nu_copy (m0 := m4) (a := v0) (b := v2) (n := n) (k0 := n) d02 h0.1 h0.2.1 h0.2.2.1 h0.2.2.2.1 h2.2.1 h2.2.2.1 h2.2.2.2.2.1 h2.2.2.2.2.2 (by omega) (by omega)
      obtain ⟨m6, x1, x2, x3, x4⟩ := nu_copy (m0 := m5) (a := v1) (b := v0) (n := n) (k0 := n) (Ne.symm d01) h1.1 h1.2.1 h1.2.2.1 h1.2.2.2.1 h0.2.1 h0.2.2.1 h0.2.2.2.2.1 h0.2.2.2.2.2 (by omega) (by omega)
      obtain ⟨m7, y1, y2, y3, y4⟩ := nu_copy (m0 := m6) (a := v2) (b := v1) (n := n) (k0 := n) (Ne.symm d12) h2.1 h2.2.1 h2.2.2.1 h2.2.2.2.1 h1.2.1 h1.2.2.1 h1.2.2.2.2.1 h1.2.2.2.2.2 (by omega) (by omega)
      rw [s2, qe_rV_e, t1, qe_rV_e, u1, qe_rV_e, x1, qe_rV_e, y1, qe_rV_e, nI_1]
      refine Or.inl ⟨(m7, (fun i => nb_mul s (b i)), a2), ⟨⟨fun j hj => ?_, s3.2⟩, ⟨fun j hj => ?_, t2.2⟩, ⟨n + k, by omega, ?_⟩, fun j hj => ?_, ?_, fun w p1 p2 p3 => ?_⟩, rfl⟩
      · rw [y4 v0 d01, x2 j hj, if_pos hj, u4 v1 d12, t8 v1 (Ne.symm d01) d12]
        exact s3.1 j hj
      · rw [y2 j hj, if_pos hj, x4 v2 (Ne.symm d02), u2 j hj, if_pos hj]
        exact t2.1 j hj
      · exact ((k2.scale s1 (fun x => pf_e_sc s n b x)).less (k := n) (Q := pf_e n qt) ⟨qt, fun _ => rfl⟩ t6).swap
      · have hKi : K ≤ n - i := by
          by_cases z : K ≤ n - i
          · exact z
          · exact absurd (i3 (K - 1) (by omega)) (g2.2.resolve_left q)
        exact t4 (by omega) j (by omega)
      · rw [y3, x3, u3, t7, s5]; exact i4
      · rw [y4 w p2, x4 w p1, u4 w p3, t8 w p1 p3, s6 w p2]; exact i5 w p1 p2 p3
  · obtain ⟨m2, a, b⟩ := w
    obtain ⟨i1, i2, ⟨k, k1, k2⟩, i3, i4, i5⟩ := hI
    dsimp only at i1 i2 k2 i3 i4 i5 ⊢
    rw [le_Po_meet_2]
    unfold X_Po_meet_2
    rw [h0.2.1, h0.2.2.1, liN, qe_b_e, if_neg (nI_nlt (Nat.le_refl _) (by omega))]
    obtain ⟨m1, g, r1, r2⟩ := fin m2 a b k (by omega) i1 (fun j => i3 j (by omega)) k2 i4 i5
    rw [r1, qe_rV_e]
    exact ⟨m1, g, rfl, r2⟩
/-- the two halves of the places -/
def hA (P : sP) : Nat → nb_F := fun i => if i < 4 then pP P i else 0
def hB (P : sP) : Nat → nb_F := fun i => if i < 4 then pP P (4 + i) else 0
theorem ary_71 : ary 71 4 ∧ ary 72 4 ∧ ary 73 4 := ⟨⟨by decide, rfl, rfl, rfl, rfl, rfl⟩, ⟨by decide, rfl, rfl, rfl, rfl, rfl⟩, ⟨by decide, rfl, rfl, rfl, rfl, rfl⟩⟩
theorem nu_meetHalves {m : qm_M} {s : sT} (h : cs m s) : ∃ m1 g, F_Po_meetHalves m = some (none, m1) ∧ pa m1 71 4 g ∧ GD (pf_e 4 (hA s.1)) (pf_e 4 (hB s.1)) (pf_e 4 g) ∧ mnc g ∧ ou 71 73 m m1 := by
  obtain ⟨m1, i1, e⟩ := lpU (fun f k (m : qm_M) => L_Po_meetHalves_2 f (nI k) m) 4 (fun k m1 => (∀ i, i < k → m1.2 71 i = bn (pP s.1 i) ∧ m1.2 72 i = bn (pP s.1 (4 + i))) ∧ ou 71 73 m m1) (fun m1 => L_Po_meetHalves_41 m1) (fun f k m1 hk hI => by
      obtain ⟨j1, j2⟩ := hI
      refine ⟨qm_sL (qm_sL m1 71 k (s.1 (7 + k))) 72 k (s.1 (7 + (4 + k))), ⟨fun i hi => ?_, (j2.tr (ou.L _ (by omega) _ _)).tr (ou.L _ (by omega) _ _)⟩, ?_⟩
      · rw [me_2L, if_neg (show ¬ 71 = 72 by decide), me_2L, if_pos rfl, me_2L, if_pos rfl]
        by_cases q : i = k
        · rw [if_pos q, if_pos q, q]
          exact ⟨rfl, rfl⟩
        · rw [if_neg q, if_neg q, me_2L, if_neg (show ¬ 72 = 71 by decide)]
          exact j1 i (by omega)
      · have e4 : nI k < (4 : Int32) := nI_lt (a := k) (b := 4) hk (by omega)
        have e8 : nI (k + 4) < (8 : Int32) := nI_lt (a := k + 4) (b := 8) (by omega) (by omega)
        have ea : nI k + (4 : Int32) = nI (k + 4) := nI_add k 4
        have eb : (4 : Int32) + nI k = nI (4 + k) := nI_add 4 k
        have p1 : m1.2 2 k = s.1 (7 + k) := by rw [(j2 2 (by omega)).2]; exact cs_p h (by omega)
        have p2 : m1.2 2 (4 + k) = s.1 (7 + (4 + k)) := by rw [(j2 2 (by omega)).2]; exact cs_p h (by omega)
        show L_Po_meetHalves_2 (f + 1) (nI k) m1 = _
        rw [le_Po_meetHalves_2]
        unfold X_Po_meetHalves_2
        rw [if_pos e4, ea, if_pos e8, eb]
        simp (disch := omega) only [qe_rI_e, qe_rL_e, qe_rV_e, qe_rR_e, qe_b_e, n10F, nI_lt0, nI_e0T, nI_e0F, nI_ltT, nI_ltF, nI_eqT, nI_eqF, qm_in_nI, nI_clamp, nI_1, nI_add, pk_mul, if_true, if_false, eq_self, p1, me_2L]
        rw [if_neg (by decide), p2]) (fun f m1 _ => by
      have e4 : ¬ nI 4 < (4 : Int32) := nI_nlt (a := 4) (b := 4) (by omega) (by omega)
      show L_Po_meetHalves_2 (f + 1) (nI 4) m1 = _
      rw [le_Po_meetHalves_2]
      unfold X_Po_meetHalves_2
      rw [if_neg e4]) 1000000 0 m (Nat.zero_le _) (by omega) ⟨fun i hi => absurd hi (Nat.not_lt_zero _), ou.rf _ _ m⟩
  obtain ⟨j1, j2⟩ := i1
  obtain ⟨r1, r2, r3⟩ := ary_71
  obtain ⟨m2, g, g1, g2, g3, g4, g5, g6⟩ := nu_meet (m := m1) r1 r2 r3 (by decide) (by decide) (by decide) (by omega) (c := hA s.1) (d := hB s.1) ⟨fun i hi => by rw [(j1 i hi).1]; unfold hA; rw [if_pos hi], fun i hi => if_neg (by omega)⟩ ⟨fun i hi => by rw [(j1 i hi).2]; unfold hB; rw [if_pos hi], fun i hi => if_neg (by omega)⟩
  refine ⟨m2, g, ?_, g2, g3, g4, j2.tr (fun a q => ⟨by rw [g5], g6 a (by omega) (by omega) (by omega)⟩)⟩
  unfold F_Po_meetHalves X_Po_meetHalves_e
  refine Eq.trans e ?_
  unfold L_Po_meetHalves_41 X_Po_meetHalves_41
  rw [g1, qe_rV_e]
