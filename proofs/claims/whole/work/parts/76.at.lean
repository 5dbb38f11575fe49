/-! values of the places' polynomials: both -/
theorem le_Po_valueAt_8  (n : Nat) (v0 : Nat) (v1 : Int64) (v3 : Int64) (v5 : Int32) (m : qm_M) : L_Po_valueAt_8 (n + 1) v0 v1 v3 v5 m = X_Po_valueAt_8 F_Nu_product (L_Po_valueAt_8 n) v0 v1 v3 v5 m := rfl
theorem le_M_polynomialAt_6  (n : Nat) (v1 : Int64) (v3 : Int64) (v5 : Int32) (m : qm_M) : L_M_polynomialAt_6 (n + 1) v1 v3 v5 m = X_M_polynomialAt_6 F_M_product F_M_placeOf (L_M_polynomialAt_6 n) v1 v3 v5 m := rfl
theorem le_Cu_differ_11 (K2 : Int32 → Int32 → qm_M → Option qm_R) (n : Nat) (v1 : Int32) (v2 : Int32) (v3 : Int32) (m : qm_M) : L_Cu_differ_11 K2 (n + 1) v1 v2 v3 m = X_Cu_differ_11 F_Nu_inverted F_Nu_product K2 (L_Cu_differ_11 K2 n) v1 v2 v3 m := rfl
theorem le_Cu_differ_2  (n : Nat) (v1 : Int32) (v2 : Int32) (m : qm_M) : L_Cu_differ_2 (n + 1) v1 v2 m = X_Cu_differ_2 F_Nu_inverted F_Nu_product (L_Cu_differ_11 (L_Cu_differ_2 n) 1000000) v1 v2 m := rfl
theorem le_Cu_through_53  (n : Nat) (v2 : Int64) (v4 : Int64) (v6 : Int32) (m : qm_M) : L_Cu_through_53 (n + 1) v2 v4 v6 m = X_Cu_through_53 F_Cu_differ F_Nu_product (L_Cu_through_53 n) v2 v4 v6 m := rfl
theorem le_Cu_through_3  (n : Nat) (v2 : Int64) (v4 : Int32) (m : qm_M) : L_Cu_through_3 (n + 1) v2 v4 m = X_Cu_through_3 F_Cu_differ F_Nu_product (L_Cu_through_3 n) (L_Cu_through_53 1000000) v2 v4 m := rfl
theorem le_M_throughAt_26 (K5 : Int64 → Int64 → Int32 → qm_M → Option qm_R) (n : Nat) (v1 : Int64) (v3 : Int64) (v5 : Int32) (v6 : Int64) (v8 : Int64) (v10 : Int32) (m : qm_M) : L_M_throughAt_26 K5 (n + 1) v1 v3 v5 v6 v8 v10 m = X_M_throughAt_26 F_M_placeOf F_M_product F_M_inverseOf K5 (L_M_throughAt_26 K5 n) v1 v3 v5 v6 v8 v10 m := rfl
theorem le_M_throughAt_5  (n : Nat) (v1 : Int64) (v3 : Int64) (v5 : Int32) (m : qm_M) : L_M_throughAt_5 (n + 1) v1 v3 v5 m = X_M_throughAt_5 F_M_placeOf F_M_product F_M_inverseOf (L_M_throughAt_26 (L_M_throughAt_5 n) 1000000) v1 v3 v5 m := rfl
theorem nI_subL {a : Nat} (h : 1 ≤ a) : nI a - 1 = nI (a - 1) := pk_sub (b := 1) h
/-- cells apart from some stay -/
def ou (lo hi : Nat) (m m1 : qm_M) : Prop := ∀ a, a < lo ∨ hi < a → m1.1 a = m.1 a ∧ m1.2 a = m.2 a
theorem ou.rf (lo hi : Nat) (m : qm_M) : ou lo hi m m := fun _ _ => ⟨rfl, rfl⟩
theorem ou.tr {lo hi : Nat} {m m1 m2 : qm_M} (h : ou lo hi m m1) (g : ou lo hi m1 m2) : ou lo hi m m2 := fun a q => ⟨(g a q).1.trans (h a q).1, (g a q).2.trans (h a q).2⟩
theorem ou.le {lo hi lo2 hi2 : Nat} {m m1 : qm_M} (h : ou lo hi m m1) (h1 : lo2 ≤ lo) (h2 : hi ≤ hi2) : ou lo2 hi2 m m1 := fun a q => h a (by omega)
theorem ou.I {lo hi : Nat} (m : qm_M) {o : Nat} (ho : lo ≤ o ∧ o ≤ hi) (j : Nat) (x : Int32) : ou lo hi m (qm_sI m o j x) := fun a q => ⟨(qm_sI_other a (by omega)).1, rfl⟩
theorem ou.L {lo hi : Nat} (m : qm_M) {o : Nat} (ho : lo ≤ o ∧ o ≤ hi) (j : Nat) (x : Int64) : ou lo hi m (qm_sL m o j x) := fun a q => ⟨rfl, (qm_sL_other a (by omega)).2⟩
theorem ou.cs {lo hi : Nat} {m m1 : qm_M} {s : sT} (g : ou lo hi m m1) (hl : 44 < lo) (h : cs m s) : cs m1 s := h.fr (fun a ha => (g a (by omega)).1) (fun a ha => (g a (by omega)).2)
theorem ou.up {lo hi : Nat} {m m1 : qm_M} (g : ou lo hi m m1) (hh : hi < 112) : up_fr m m1 := ⟨fun a ha => (g a (by omega)).1, fun a ha => (g a (by omega)).2⟩
theorem ou.of1 {o : Nat} {m m1 : qm_M} (h1 : m1.1 = m.1) (h2 : ∀ a, a ≠ o → m1.2 a = m.2 a) : ou o o m m1 := fun a q => ⟨by rw [h1], h2 a (by omega)⟩
theorem nu_valueAt {o n : Nat} {m : qm_M} (ho : o < 1000000) (h1 : Nat.ble (qm_gk o).1 5 = true) (h2 : qm_n o = n) (h3 : qm_isA o 1 = true) (hn : n < 1000) (x : Int64) : F_Po_valueAt o x m = some (some (.long (bn (pf_e n (fun i => nb (m.2 o i)) (nb x)))), m) := by
  obtain ⟨s', hs, e⟩ := lpD (fun f k (v : nb_F) => L_Po_valueAt_8 f o x (bn v) (dv k) m) n (fun k v => v = pf_e (n - k) (fun j => nb (m.2 o (k + j))) (nb x)) (fun v => some (some (.long (bn v)), m)) (fun f k v hk hv => ⟨nb_mul v (nb x) ^^^ nb (m.2 o k), by
      rw [hv, show n - k = (n - (k + 1)) + 1 by omega, pf_e_s, Nat.add_zero, BitVec.xor_comm, nb_comm]
      congr 2
      exact pf_e_c (fun i _ => by rw [show k + 1 + i = k + (i + 1) by omega]) _, by
      show L_Po_valueAt_8 (f + 1) o x (bn v) (dv (k + 1)) m = _
      rw [le_Po_valueAt_8]
      unfold X_Po_valueAt_8
      rw [dv_s]
      simp (disch := omega) only [qe_rI_e, qe_rL_e, qe_rV_e, qe_rR_e, qe_b_e, n10F, nI_lt0, nI_e0T, nI_e0F, nI_ltT, nI_ltF, nI_eqT, nI_eqF, qm_in_nI, nI_clamp, nI_1, nI_add, pk_mul, if_true, if_false, eq_self, nu_product, h3, h2, dv_d, nb_bn]
      rw [qm_gL_o ho]
      rfl⟩) (fun f v hv => by
      show L_Po_valueAt_8 (f + 1) o x (bn v) (dv 0) m = _
      rw [le_Po_valueAt_8]
      unfold X_Po_valueAt_8
      rw [if_pos dv_0]) n 1000000 0 (Nat.le_refl _) (by omega) (by rw [Nat.sub_self]; rfl)
  unfold F_Po_valueAt X_Po_valueAt_e
  rw [h1, qe_b_e, h2]
  refine Eq.trans e ?_
  rw [hs, Nat.sub_zero, pf_e_c (n := n) (c := fun j => nb (m.2 o (0 + j))) (d := fun i => nb (m.2 o i)) (fun i _ => by rw [Nat.zero_add]) _]
/-- the places -/
def pP (P : sP) (k : Nat) : nb_F := nb (P (7 + k))
theorem nu_polyAt {m : qm_M} {s : sT} (h : cs m s) (x : Int64) : F_Po_valueAt 2 x m = some (some (.long (bn (pf_e 8 (pP s.1) (nb x)))), m) := by
  rw [nu_valueAt (o := 2) (n := 8) (by omega) rfl rfl rfl (by omega)]
  rw [pf_e_c (n := 8) (c := fun i => nb (m.2 2 i)) (d := pP s.1) (fun i hi => by rw [cs_p h hi]; rfl) _]
theorem mt_polyAt {m : qm_M} {P : sP} (hm : nt_ok 64 m) (h : ms_now m P) (x : Int64) : F_M_polynomialAt x m = some (some (.long (bn (pf_e 8 (pP P) (nb x)))), m) := by
  obtain ⟨s', hs, e⟩ := lpD (fun f k (v : nb_F) => L_M_polynomialAt_6 f x (bn v) (dv k) m) 8 (fun k v => v = pf_e (8 - k) (fun j => pP P (k + j)) (nb x)) (fun v => some (some (.long (bn v)), m)) (fun f k v hk hv => ⟨nb_mul v (nb x) ^^^ pP P k, by
      rw [hv, show 8 - k = (8 - (k + 1)) + 1 by omega, pf_e_s, Nat.add_zero, BitVec.xor_comm, nb_comm]
      congr 2
      exact pf_e_c (fun i _ => by rw [show k + 1 + i = k + (i + 1) by omega]) _, by
      show L_M_polynomialAt_6 (f + 1) x (bn v) (dv (k + 1)) m = _
      rw [le_M_polynomialAt_6]
      unfold X_M_polynomialAt_6
      rw [dv_s]
      simp (disch := omega) only [qe_rI_e, qe_rL_e, qe_rV_e, qe_rR_e, qe_b_e, n10F, nI_lt0, nI_e0T, nI_e0F, nI_ltT, nI_ltF, nI_eqT, nI_eqF, qm_in_nI, nI_clamp, nI_1, nI_add, pk_mul, if_true, if_false, eq_self, mt_product hm, mt_placeOf h hk, dv_d, nb_bn]
      rfl⟩) (fun f v hv => by
      show L_M_polynomialAt_6 (f + 1) x (bn v) (dv 0) m = _
      rw [le_M_polynomialAt_6]
      unfold X_M_polynomialAt_6
      rw [if_pos dv_0]) 8 1000000 0 (Nat.le_refl _) (by omega) rfl
  unfold F_M_polynomialAt X_M_polynomialAt_e
  refine Eq.trans e ?_
  rw [hs, Nat.sub_zero, pf_e_c (n := 8) (c := fun j => pP P (0 + j)) (d := pP P) (fun i _ => by rw [Nat.zero_add]) _]
/-- divided differences in place -/
theorem nu_differ {n : Nat} {m0 : qm_M} (hn : 0 < n ∧ n ≤ 8) : ∃ m1, F_Cu_differ (nI n) m0 = some (none, m1) ∧ (∀ i, i < n → m1.2 109 i = bn (dd (fun i => nb (m0.2 108 i)) (fun i => nb (m0.2 109 i)) (n - 1) i)) ∧ m1.1 = m0.1 ∧ ∀ a, a ≠ 109 → m1.2 a = m0.2 a := by
  generalize hp : (fun i => nb (m0.2 108 i)) = p
  generalize hq : (fun i => nb (m0.2 109 i)) = q0
  obtain ⟨m1, h1, e⟩ := lpU (fun f w (m : qm_M) => L_Cu_differ_2 f (nI n) (nI w) m) n (fun w m => 1 ≤ w ∧ (∀ i, i < n → m.2 109 i = bn (dd p q0 (w - 1) i)) ∧ m.1 = m0.1 ∧ ∀ a, a ≠ 109 → m.2 a = m0.2 a) (fun m => some (none, m)) (fun f w m hw hI => by
      obtain ⟨w1, i1, i2, i3⟩ := hI
      obtain ⟨m1, h1, e⟩ := lpD (fun f2 r (m : qm_M) => L_Cu_differ_11 (L_Cu_differ_2 f) f2 (nI n) (nI w) (dv (w + r)) m) (n - w) (fun r m => (∀ i, i < n → m.2 109 i = bn (if w + r ≤ i then dP p w (dd p q0 (w - 1)) i else dd p q0 (w - 1) i)) ∧ m.1 = m0.1 ∧ ∀ a, a ≠ 109 → m.2 a = m0.2 a) (fun m => L_Cu_differ_2 f (nI n) (nI (w + 1)) m) (fun f2 r m hr hI => by
          obtain ⟨j1, j2, j3⟩ := hI
          have a1 := j1 (w + r) (by omega)
          have a2 := j1 (w + r - 1) (by omega)
          rw [if_neg (by omega)] at a1 a2
          have b1 : ∀ i, m.2 108 i = bn (p i) := fun i => by rw [j3 108 (by omega), ← hp]; rfl
          refine ⟨qm_sL m 109 (w + r) (bn (dP p w (dd p q0 (w - 1)) (w + r))), ⟨fun i hi => ?_, j2, fun a ha => by rw [(qm_sL_other a ha).2]; exact j3 a ha⟩, ?_⟩
          · rw [me_2L, if_pos rfl]
            by_cases q : i = w + r
            · rw [if_pos q, if_pos (by omega), q]
            · rw [if_neg q, j1 i hi]
              by_cases y : w + (r + 1) ≤ i
              · rw [if_pos y, if_pos (by omega)]
              · rw [if_neg y, if_neg (by omega)]
          · show L_Cu_differ_11 (L_Cu_differ_2 f) (f2 + 1) (nI n) (nI w) (dv (w + r + 1)) m = _
            rw [le_Cu_differ_11]
            unfold X_Cu_differ_11
            rw [dv_s]
            simp (disch := omega) only [qe_rI_e, qe_rL_e, qe_rV_e, qe_rR_e, qe_b_e, n10F, nI_lt0, nI_e0T, nI_e0F, nI_ltT, nI_ltF, nI_eqT, nI_eqF, qm_in_nI, nI_clamp, nI_1, nI_add, pk_mul, if_true, if_false, eq_self, nI_sub, nI_subL, nu_inverted, nu_product, dv_d, a1, a2, b1]
            unfold dP
            rw [if_pos (by omega)]
            rfl) (fun f2 m hI => by
          show L_Cu_differ_11 (L_Cu_differ_2 f) (f2 + 1) (nI n) (nI w) (dv w) m = _
          rw [le_Cu_differ_11]
          unfold X_Cu_differ_11
          rw [show dv w = nI (w - 1) from nI_subL w1]
          simp (disch := omega) only [qe_rI_e, qe_rL_e, qe_rV_e, qe_rR_e, qe_b_e, n10F, nI_lt0, nI_e0T, nI_e0F, nI_ltT, nI_ltF, nI_eqT, nI_eqF, qm_in_nI, nI_clamp, nI_1, nI_add, pk_mul, if_true, if_false, eq_self]) (n - w) 1000000 m (Nat.le_refl _) (by omega) ⟨fun i hi => by rw [if_neg (by omega)]; exact i1 i hi, i2, i3⟩
      obtain ⟨k1, k2, k3⟩ := h1
      refine ⟨m1, ⟨by omega, fun i hi => ?_, k2, k3⟩, ?_⟩
      · rw [k1 i hi, Nat.add_zero, show w + 1 - 1 = (w - 1) + 1 by omega, dd_s, show w - 1 + 1 = w by omega]
        unfold dP
        by_cases y : w ≤ i
        · rw [if_pos y]
        · rw [if_neg y, if_neg y]
      · show L_Cu_differ_2 (f + 1) (nI n) (nI w) m = _
        rw [le_Cu_differ_2]
        unfold X_Cu_differ_2
        rw [if_pos (nI_lt hw (by omega))]
        have en : nI n - 1 = dv (w + (n - w)) := by rw [show w + (n - w) = n by omega]; rfl
        rw [en]
        exact e) (fun f m hI => by
      show L_Cu_differ_2 (f + 1) (nI n) (nI n) m = _
      rw [le_Cu_differ_2]
      unfold X_Cu_differ_2
      rw [if_neg (nI_nlt (Nat.le_refl _) (by omega))]) 1000000 1 m0 (by omega) (by omega) ⟨Nat.le_refl _, fun i hi => by show _ = bn (q0 i); rw [← hq]; rfl, rfl, fun _ _ => rfl⟩
  unfold F_Cu_differ X_Cu_differ_e
  exact ⟨m1, e, h1.2.1, h1.2.2.1, h1.2.2.2⟩
theorem lN_bN (k : Nat) : lN k = bn (bN k) := rfl
/-- the class: through all eight -/
theorem nu_through {m : qm_M} {s : sT} (h : cs m s) (x : Int64) : ∃ m1, F_Cu_through x m = some (some (.long (bn (hv bN (dd bN (pP s.1) 7) (nb x) 8 0))), m1) ∧ ou 108 109 m m1 := by
  obtain ⟨m1, h1, e⟩ := lpU (fun f k (m : qm_M) => L_Cu_through_3 f x (nI k) m) 8 (fun k m1 => (∀ i, i < k → m1.2 108 i = bn (bN i) ∧ m1.2 109 i = bn (pP s.1 i)) ∧ ou 108 109 m m1) (fun m => L_Cu_through_3 1 x (nI 8) m) (fun f k m1 hk hI => by
      obtain ⟨i1, i2⟩ := hI
      refine ⟨qm_sL (qm_sL m1 108 k (lN k)) 109 k (m1.2 2 k), ⟨fun i hi => ?_, (i2.tr (ou.L _ (by omega) _ _)).tr (ou.L _ (by omega) _ _)⟩, ?_⟩
      · rw [me_2L, if_neg (show ¬ 108 = 109 by decide), me_2L, if_pos rfl, me_2L, if_pos rfl]
        by_cases q : i = k
        · rw [if_pos q, if_pos q, q, (i2 2 (by omega)).2, cs_p h hk]
          exact ⟨rfl, rfl⟩
        · rw [if_neg q, if_neg q, me_2L, if_neg (show ¬ 109 = 108 by decide)]
          exact i1 i (by omega)
      · show L_Cu_through_3 (f + 1) x (nI k) m1 = _
        rw [le_Cu_through_3]
        unfold X_Cu_through_3
        have e8 : nI k < (8 : Int32) := nI_lt (a := k) (b := 8) hk (by omega)
        rw [if_pos e8]
        simp (disch := omega) only [qe_rI_e, qe_rL_e, qe_rV_e, qe_rR_e, qe_b_e, n10F, nI_lt0, nI_e0T, nI_e0F, nI_ltT, nI_ltF, nI_eqT, nI_eqF, qm_in_nI, nI_clamp, nI_1, nI_add, pk_mul, if_true, if_false, eq_self, nI_l, me_2L]
        rfl) (fun f m1 _ => by
      show L_Cu_through_3 (f + 1) x (nI 8) m1 = L_Cu_through_3 (0 + 1) x (nI 8) m1
      rw [le_Cu_through_3, le_Cu_through_3]
      unfold X_Cu_through_3
      have e8 : ¬ nI 8 < (8 : Int32) := nI_nlt (a := 8) (b := 8) (by omega) (by omega)
      rw [if_neg e8, if_neg e8]) 1000000 0 m (Nat.zero_le _) (by omega) ⟨fun i hi => absurd hi (Nat.not_lt_zero _), ou.rf _ _ m⟩
  obtain ⟨i1, i2⟩ := h1
  obtain ⟨m2, d1, d2, d3, d4⟩ := nu_differ (n := 8) (m0 := m1) (by omega)
  have g8 : ∀ i, i < 8 → m2.2 108 i = bn (bN i) := fun i hi => by rw [d4 108 (by omega)]; exact (i1 i hi).1
  have g9 : ∀ i, i < 8 → m2.2 109 i = bn (dd bN (pP s.1) 7 i) := fun i hi => by
    rw [d2 i hi, dd_eq, dd_eq]
    have key : ∀ t a, a + t < 8 → dq (fun i => nb (m1.2 108 i)) (fun i => nb (m1.2 109 i)) t a = dq bN (pP s.1) t a := fun t => by
      induction t with
      | zero => intro a ha; show nb (m1.2 109 a) = _; rw [(i1 a (by omega)).2]; rfl
      | succ t ih =>
        intro a ha
        rw [dq_s, dq_s, ih (a + 1) (by omega), ih a (by omega), (i1 (a + t + 1) (by omega)).1, (i1 a (by omega)).1]
        rfl
    by_cases y : 8 - 1 ≤ i
    · rw [if_pos y, if_pos y, key _ _ (by omega)]
    · rw [if_neg y, if_neg y, key _ _ (by omega)]
  obtain ⟨v', hv', e2⟩ := lpD (fun f k (v : nb_F) => L_Cu_through_53 f x (bn v) (dv k) m2) 8 (fun k v => v = hv bN (dd bN (pP s.1) 7) (nb x) (8 - k) k) (fun v => some (some (.long (bn v)), m2)) (fun f k v hk hv => ⟨nb_mul v (nb x ^^^ bN k) ^^^ dd bN (pP s.1) 7 k, by
      rw [hv, show 8 - k = (8 - (k + 1)) + 1 by omega, hv_s], by
      show L_Cu_through_53 (f + 1) x (bn v) (dv (k + 1)) m2 = _
      rw [le_Cu_through_53]
      unfold X_Cu_through_53
      rw [dv_s]
      simp (disch := omega) only [qe_rI_e, qe_rL_e, qe_rV_e, qe_rR_e, qe_b_e, n10F, nI_lt0, nI_e0T, nI_e0F, nI_ltT, nI_ltF, nI_eqT, nI_eqF, qm_in_nI, nI_clamp, nI_1, nI_add, pk_mul, if_true, if_false, eq_self, g8 k hk, g9 k hk, nu_product, dv_d]
      rfl⟩) (fun f v hv => by
      show L_Cu_through_53 (f + 1) x (bn v) (dv 0) m2 = _
      rw [le_Cu_through_53]
      unfold X_Cu_through_53
      rw [if_pos dv_0]) 8 1000000 0 (Nat.le_refl _) (by omega) rfl
  refine ⟨m2, ?_, i2.tr (fun a q => ⟨by rw [d3], d4 a (by omega)⟩)⟩
  unfold F_Cu_through X_Cu_through_e
  refine Eq.trans e ?_
  rw [show L_Cu_through_3 1 x (nI 8) m1 = X_Cu_through_3 F_Cu_differ F_Nu_product (L_Cu_through_3 0) (L_Cu_through_53 1000000) x (nI 8) m1 from rfl]
  unfold X_Cu_through_3
  have e8 : ¬ nI 8 < (8 : Int32) := nI_nlt (a := 8) (b := 8) (by omega) (by omega)
  have d1' : F_Cu_differ 8 m1 = _ := d1
  rw [if_neg e8, d1', qe_rV_e]
  refine Eq.trans e2 ?_
  rw [hv', Nat.sub_zero]
/-- the model: through all eight -/
def sEv : Nat → Bool := fun _ => true
theorem nI_xor {a b : Nat} (ha : a < 2 ^ 31) (hb : b < 2 ^ 31) : nI a ^^^ nI b = nI (a ^^^ b) := by
  apply Int32.toBitVec_inj.1
  show BitVec.ofNat 32 a ^^^ BitVec.ofNat 32 b = BitVec.ofNat 32 (a ^^^ b)
  apply BitVec.eq_of_toNat_eq
  rw [BitVec.toNat_xor, BitVec.toNat_ofNat, BitVec.toNat_ofNat, BitVec.toNat_ofNat, Nat.mod_eq_of_lt (by omega), Nat.mod_eq_of_lt (by omega), Nat.mod_eq_of_lt]
  exact Nat.xor_lt_two_pow (by omega) (by omega)
theorem bN_xor {a b : Nat} (ha : a < 8) (hb : b < 8) : bN (a ^^^ b) = bN a ^^^ bN b := by
  have c : (List.range 8).all (fun a => (List.range 8).all (fun b => decide (bN (a ^^^ b) = bN a ^^^ bN b))) = true := by decide +kernel
  exact of_decide_eq_true (List.all_eq_true.mp (List.all_eq_true.mp c a (List.mem_range.mpr ha)) b (List.mem_range.mpr hb))
theorem x8 {a b : Nat} (ha : a < 8) (hb : b < 8) : a ^^^ b < 8 := Nat.xor_lt_two_pow (n := 3) ha hb
theorem mt_through {m : qm_M} {P : sP} (hm : nt_ok 64 m) (h : ms_now m P) (x : Int64) : F_M_throughAt x m = some (some (.long (bn (lS sEv (pP P) (nb x) 8))), m) := by
  obtain ⟨v', hv', e⟩ := lpU (fun f k (v : nb_F) => L_M_throughAt_5 f x (bn v) (nI k) m) 8 (fun k v => v = lS sEv (pP P) (nb x) k) (fun v => some (some (.long (bn v)), m)) (fun f k v hk hv => by
      obtain ⟨w, hw, e⟩ := lpU (fun f2 j (w : nb_F × nb_F) => L_M_throughAt_26 (L_M_throughAt_5 f) f2 x (bn v) (nI k) (bn w.1) (bn w.2) (nI j) m) 8 (fun j w => w = (nb_mul (pP P k) (lA sEv k (nb x) j), lA sEv k (bN k) j)) (fun w => L_M_throughAt_5 f x (bn (v ^^^ nb_mul w.1 (nb_inv w.2))) (nI (k + 1)) m) (fun f2 j w hj hw => by
          refine ⟨(nb_mul (pP P k) (lA sEv k (nb x) (j + 1)), lA sEv k (bN k) (j + 1)), rfl, ?_⟩
          show L_M_throughAt_26 (L_M_throughAt_5 f) (f2 + 1) x (bn v) (nI k) (bn w.1) (bn w.2) (nI j) m = _
          rw [le_M_throughAt_26]
          unfold X_M_throughAt_26
          have e8 : nI j < (8 : Int32) := nI_lt (a := j) (b := 8) hj (by omega)
          rw [if_pos e8, lA_s, lA_s, hw]
          by_cases q : j = k
          · rw [if_pos (by rw [q]), if_pos (Or.inl q), if_pos (Or.inl q), nI_1]
          · rw [if_neg (fun z => q ((nI_eq (by omega) (by omega)).mp z)), if_neg (by intro z; rcases z with z | z; exact q z; cases z), if_neg (by intro z; rcases z with z | z; exact q z; cases z), nI_l (by omega), nI_xor (by omega) (by omega), nI_l (by have := x8 hk hj; omega)]
            simp (disch := omega) only [qe_rI_e, qe_rL_e, qe_rV_e, qe_rR_e, qe_b_e, n10F, nI_lt0, nI_e0T, nI_e0F, nI_ltT, nI_ltF, nI_eqT, nI_eqF, qm_in_nI, nI_clamp, nI_1, nI_add, pk_mul, if_true, if_false, eq_self, mt_product hm, nb_bn]
            rw [nb_assoc]
            have ek : lN (k ^^^ j) = bn (bN k ^^^ bN j) := by rw [← bN_xor hk hj]; rfl
            rw [ek]
            rfl) (fun f2 w hw => by
          show L_M_throughAt_26 (L_M_throughAt_5 f) (f2 + 1) x (bn v) (nI k) (bn w.1) (bn w.2) (nI 8) m = _
          rw [le_M_throughAt_26]
          unfold X_M_throughAt_26
          have e8 : ¬ nI 8 < (8 : Int32) := nI_nlt (a := 8) (b := 8) (by omega) (by omega)
          rw [if_neg e8]
          simp (disch := omega) only [qe_rI_e, qe_rL_e, qe_rV_e, qe_rR_e, qe_b_e, n10F, nI_lt0, nI_e0T, nI_e0F, nI_ltT, nI_ltF, nI_eqT, nI_eqF, qm_in_nI, nI_clamp, nI_1, nI_add, pk_mul, if_true, if_false, eq_self, mt_product hm, mt_inverseOf hm, nb_bn]
          rfl) 1000000 0 (pP P k, 1) (Nat.zero_le _) (by omega) (by rw [lA_0, lA_0, nb_mul_1])
      refine ⟨lS sEv (pP P) (nb x) (k + 1), rfl, ?_⟩
      show L_M_throughAt_5 (f + 1) x (bn v) (nI k) m = _
      rw [le_M_throughAt_5]
      unfold X_M_throughAt_5
      have e8 : nI k < (8 : Int32) := nI_lt (a := k) (b := 8) hk (by omega)
      rw [if_pos e8, mt_placeOf h hk, qe_rL_e]
      refine Eq.trans e ?_
      rw [hw, lS_s, if_pos (show sEv k = true from rfl), hv]
      dsimp only
      have e3 : nb_mul (nb_mul (pP P k) (lA sEv k (nb x) 8)) (nb_inv (lA sEv k (bN k) 8)) = nb_mul (nb_mul (lA sEv k (nb x) 8) (nb_inv (lA sEv k (bN k) 8))) (pP P k) := by
        rw [nb_assoc, nb_comm]
      rw [e3]) (fun f v hv => by
      show L_M_throughAt_5 (f + 1) x (bn v) (nI 8) m = _
      rw [le_M_throughAt_5]
      unfold X_M_throughAt_5
      have e8 : ¬ nI 8 < (8 : Int32) := nI_nlt (a := 8) (b := 8) (by omega) (by omega)
      rw [if_neg e8]) 1000000 0 0 (Nat.zero_le _) (by omega) rfl
  unfold F_M_throughAt X_M_throughAt_e
  refine Eq.trans e ?_
  rw [hv']
theorem bN8_nodup : ((List.range 8).map bN).Nodup := by decide
theorem through_same (P : sP) (x : nb_F) : hv bN (dd bN (pP P) 7) x 8 0 = lS sEv (pP P) x 8 := by
  refine (hv_P bN (dd bN (pP P) 7) 8 0).eq (lS_P (S := sEv) (pP P) (d := 8) (fun k hk _ => ?_) 8 (Nat.le_refl _)) ((List.range 8).map bN) bN8_nodup (by decide) (fun a ha => ?_) x
  · have c : (List.range 8).all (fun k => decide (lC sEv k 8 < 8)) = true := by decide +kernel
    exact of_decide_eq_true (List.all_eq_true.mp c k (List.mem_range.mpr hk))
  · obtain ⟨j, hj, rfl⟩ := List.mem_map.mp ha
    have hj8 := List.mem_range.mp hj
    show hv bN (dd bN (pP P) (8 - 1)) (bN j) 8 0 = lS sEv (pP P) (bN j) 8
    rw [hv_at bN (pP P) (by omega) (fun i k h1 h2 => bN_ne (by omega) (by omega) (by omega)) hj8, lS_at hj8 rfl 8 (Nat.le_refl _), if_pos hj8]
/-- a reading of both that uses the class's curve -/
def rdO (lo hi : Nat) (FT FM : qm_M → Option qm_R) : Prop := ∀ mc mm s, cs mc s → ms mm s → gd s → ∃ r mc1 mm1, FT mc = some (some r, mc1) ∧ FM mm = some (some r, mm1) ∧ ou lo hi mc mc1 ∧ ms mm1 s ∧ lo_fr mm mm1
theorem w_at (x : Int64) (v : Int32) : rdO 108 109 (F_T_at x v) (F_M_at x v) := by
  intro mc mm s hc hm g
  unfold F_T_at X_T_at_e F_M_at X_M_at_e
  by_cases v0 : v = 0
  · rw [if_pos v0, if_pos v0, nu_polyAt hc, qe_rL_e, mt_polyAt hm.1.1 hm.2.1, qe_rL_e]
    exact ⟨_, _, _, rfl, rfl, ou.rf _ _ mc, hm, lo_fr.rf mm⟩
  · rw [if_neg v0, if_neg v0]
    by_cases v1 : v = 1
    · obtain ⟨mc1, a1, a2⟩ := nu_through hc x
      rw [if_pos v1, if_pos v1, a1, qe_rL_e, mt_through hm.1.1 hm.2.1, qe_rL_e, through_same]
      exact ⟨_, _, _, rfl, rfl, a2, hm, lo_fr.rf mm⟩
    · rw [if_neg v1, if_neg v1]
      exact ⟨_, _, _, rfl, rfl, ou.rf _ _ mc, hm, lo_fr.rf mm⟩
