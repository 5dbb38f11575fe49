/-! what is common: the model; both -/
theorem le_M_degreeOf_AJI_2  (n : Nat) (v0 : Nat) (v1 : Int32) (m : qm_M) : L_M_degreeOf_AJI_2 (n + 1) v0 v1 m = X_M_degreeOf_AJI_2 (L_M_degreeOf_AJI_2 n) v0 v1 m := rfl
theorem le_M_leaves_41 (K20 : Nat → Nat → Int32 → Int64 → Int32 → qm_M → Option qm_R) (n : Nat) (v1 : Nat) (v2 : Nat) (v3 : Int32) (v4 : Int64) (v6 : Int32) (v7 : Int64) (v9 : Int32) (m : qm_M) : L_M_leaves_41 K20 (n + 1) v1 v2 v3 v4 v6 v7 v9 m = X_M_leaves_41 F_M_degreeOf_AJI F_M_inverseOf F_M_product K20 (L_M_leaves_41 K20 n) v1 v2 v3 v4 v6 v7 v9 m := rfl
theorem le_M_leaves_20  (n : Nat) (v1 : Nat) (v2 : Nat) (v3 : Int32) (v4 : Int64) (v6 : Int32) (m : qm_M) : L_M_leaves_20 (n + 1) v1 v2 v3 v4 v6 m = X_M_leaves_20 F_M_degreeOf_AJI F_M_inverseOf F_M_product (L_M_leaves_41 (L_M_leaves_20 n) 1000000) v1 v2 v3 v4 v6 m := rfl
theorem le_M_laysCommon_131  (n : Nat) (v2 : Int64) (v4 : Int32) (m : qm_M) : L_M_laysCommon_131 (n + 1) v2 v4 m = X_M_laysCommon_131 F_M_placeOf F_M_degreeOf_AJI F_M_inverseOf F_M_leaves F_M_product (L_M_laysCommon_131 n) v2 v4 m := rfl
theorem le_M_laysCommon_61 (K37 : qm_M → Option qm_R) (n : Nat) (v1 : Int32) (m : qm_M) : L_M_laysCommon_61 K37 (n + 1) v1 m = X_M_laysCommon_61 F_M_placeOf F_M_degreeOf_AJI F_M_inverseOf F_M_leaves F_M_product K37 (L_M_laysCommon_61 K37 n) v1 m := rfl
theorem le_M_laysCommon_37  (n : Nat) (m : qm_M) : L_M_laysCommon_37 (n + 1) m = X_M_laysCommon_37 F_M_placeOf F_M_degreeOf_AJI F_M_inverseOf F_M_leaves F_M_product (L_M_laysCommon_61 (L_M_laysCommon_37 n) 1000000) (L_M_laysCommon_131 1000000) m := rfl
theorem le_M_laysCommon_2  (n : Nat) (v1 : Int32) (m : qm_M) : L_M_laysCommon_2 (n + 1) v1 m = X_M_laysCommon_2 F_M_placeOf F_M_degreeOf_AJI F_M_inverseOf F_M_leaves F_M_product (L_M_laysCommon_2 n) (L_M_laysCommon_37 1000000) v1 m := rfl
theorem mt_degree {m : qm_M} {o : Nat} {c : Nat → nb_F} (ho : ary o 4) (h : pa m o 4 c) : ∃ L, L ≤ 4 ∧ isL c L ∧ F_M_degreeOf_AJI o m = some (some (.int (dv L)), m) := by
  obtain ⟨o0, o1, o2, o3, o4, o5⟩ := ho
  unfold F_M_degreeOf_AJI X_M_degreeOf_AJI_e
  refine lpDE (fun f k (m1 : qm_M) => L_M_degreeOf_AJI_2 f o (dv k) m1) 4 (fun k m1 => m1 = m ∧ ∀ i, k ≤ i → c i = 0) (fun r => ∃ L, L ≤ 4 ∧ isL c L ∧ r = some (some (.int (dv L)), m)) (fun f k m1 hk hI => ?_) (fun f m1 hI => ?_) 4 1000000 m (Nat.le_refl _) (by omega) ⟨rfl, h.2⟩
  · obtain ⟨rfl, hz⟩ := hI
    rw [le_M_degreeOf_AJI_2]
    unfold X_M_degreeOf_AJI_2
    rw [dv_s]
    simp (disch := omega) only [qe_rI_e, qe_rL_e, qe_rV_e, qe_rR_e, qe_b_e, n10F, nI_lt0, nI_e0T, nI_e0F, nI_ltT, nI_ltF, nI_eqT, nI_eqF, qm_in_nI, nI_clamp, nI_1, nI_add, pk_mul, if_true, if_false, eq_self, o3, o2, dv_d]
    rw [qm_gL_o o0, h.1 k hk]
    by_cases q : c k = 0
    · rw [if_pos ((no_zB _).mpr q)]
      refine Or.inl ⟨m1, ⟨rfl, fun i hi => ?_⟩, rfl⟩
      by_cases e : i = k
      · rw [e]; exact q
      · exact hz i (by omega)
    · rw [if_neg (fun z => q ((no_zB _).mp z))]
      exact Or.inr ⟨k + 1, by omega, ⟨hz, Or.inr q⟩, by rw [dv_s]⟩
  · obtain ⟨rfl, hz⟩ := hI
    rw [le_M_degreeOf_AJI_2]
    unfold X_M_degreeOf_AJI_2
    rw [if_pos dv_0]
    exact ⟨0, Nat.zero_le _, ⟨hz, Or.inl rfl⟩, rfl⟩
theorem ri_5 (u1 u2 u3 u4 a : nb_F) : nb_mul u1 u2 ^^^ u3 = nb_mul (u1 ^^^ nb_mul u4 a) u2 ^^^ (u3 ^^^ nb_mul (nb_mul u4 a) u2) := by
  letI := nb_RI
  haveI := nb_RC
  exact (show ∀ u1 u2 u3 u4 a : nb_R, u1 * u2 + u3 = (u1 + u4 * a) * u2 + (u3 + u4 * a * u2) by intros; grind) u1 u2 u3 u4 a
theorem mt_leaves {m : qm_M} (hm : nt_ok 64 m) {v1 v2 : Nat} {c d : Nat → nb_F} (h1 : ary v1 4) (h2 : ary v2 4) (d12 : v1 ≠ v2) (n1 : v1 ≠ 117) (hc : pa m v1 4 c) (hd : pa m v2 4 d) {K : Nat} (hK : isL d K) (hK1 : 1 ≤ K) :
    ∃ m1 c1 Q, F_M_leaves v1 v2 m = some (none, m1) ∧ pa m1 v1 4 c1 ∧ (∀ i, K - 1 ≤ i → c1 i = 0) ∧ pf_P 4 Q ∧ (∀ x, pf_e 4 c x = nb_mul (Q x) (pf_e 4 d x) ^^^ pf_e 4 c1 x) ∧ m1.1 = m.1 ∧ ∀ a, a ≠ v1 → m1.2 a = m.2 a := by
  obtain ⟨K', k1, k2, k3⟩ := mt_degree h2 hd
  have eK := isL_un k2 hK
  subst eK
  obtain ⟨L, l1, l2, l3⟩ := mt_degree h1 hc
  have ht : d (K' - 1) ≠ 0 := hK.2.resolve_left (by omega)
  have ha1 := h1
  have ha2 := h2
  obtain ⟨a0, a1, a2, a3, a4, a5⟩ := h1
  obtain ⟨b0, b1, b2, b3, b4, b5⟩ := h2
  unfold F_M_leaves X_M_leaves_e
  rw [k3, qe_rI_e, dv_p hK1]
  simp (disch := omega) only [qe_rI_e, qe_rL_e, qe_rV_e, qe_rR_e, qe_b_e, n10F, nI_lt0, nI_e0T, nI_e0F, nI_ltT, nI_ltF, nI_eqT, nI_eqF, qm_in_nI, nI_clamp, nI_1, nI_add, pk_mul, if_true, if_false, eq_self, b3, b2]
  rw [qm_gL_o b0, hd.1 _ (by omega), mt_inverseOf hm, qe_rL_e, l3, qe_rI_e, nb_bn]
  refine lpG (fun f (w : qm_M × (Nat → nb_F) × Nat) => L_M_leaves_20 f v1 v2 (nI (K' - 1)) (bn (nb_inv (d (K' - 1)))) (dv w.2.2) w.1) (fun w => w.2.2) (fun w => w.2.2 ≤ 4 ∧ isL w.2.1 w.2.2 ∧ pa w.1 v1 4 w.2.1 ∧ (∃ Q, pf_P 4 Q ∧ ∀ x, pf_e 4 c x = nb_mul (Q x) (pf_e 4 d x) ^^^ pf_e 4 w.2.1 x) ∧ w.1.1 = m.1 ∧ ∀ a, a ≠ v1 → w.1.2 a = m.2 a) (fun r => ∃ m1 c1 Q, r = some (none, m1) ∧ pa m1 v1 4 c1 ∧ (∀ i, K' - 1 ≤ i → c1 i = 0) ∧ pf_P 4 Q ∧ (∀ x, pf_e 4 c x = nb_mul (Q x) (pf_e 4 d x) ^^^ pf_e 4 c1 x) ∧ m1.1 = m.1 ∧ ∀ a, a ≠ v1 → m1.2 a = m.2 a) (fun f w hI => ?_) 1000000 (m, c, L) ⟨l1, l2, hc, ⟨fun _ => 0, pf_P.zero 4, fun x => by rw [nb_0_mul, nb_0x]⟩, rfl, fun _ _ => rfl⟩ (by show L < _; omega)
  obtain ⟨m2, c1, k⟩ := w
  obtain ⟨i1, i2, i3, ⟨Q, q1, q2⟩, i4, i5⟩ := hI
  dsimp only at i1 i2 i3 q2 i4 i5 ⊢
  rw [le_M_leaves_20]
  unfold X_M_leaves_20
  by_cases y : k < K'
  · have e : dv k < nI (K' - 1) := by rw [← dv_p hK1]; exact (dv_lt (by omega) (by omega)).mpr y
    rw [if_pos e]
    exact Or.inr ⟨m2, c1, Q, rfl, i3, fun i hi => i2.1 i (by omega), q1, q2, i4, i5⟩
  · have e : ¬ dv k < nI (K' - 1) := by rw [← dv_p hK1]; exact fun z => y ((dv_lt (by omega) (by omega)).mp z)
    have hm2 : nt_ok 64 m2 := fun a b ha hb => by rw [i5 117 (Ne.symm n1)]; exact hm a b ha hb
    have hD : pa m2 v2 4 d := hd.c (i5 v2 (Ne.symm d12))
    rw [if_neg e, dv_p (show 1 ≤ k by omega)]
    simp (disch := omega) only [qe_rI_e, qe_rL_e, qe_rV_e, qe_rR_e, qe_b_e, n10F, nI_lt0, nI_e0T, nI_e0F, nI_ltT, nI_ltF, nI_eqT, nI_eqF, qm_in_nI, nI_clamp, nI_1, nI_add, pk_mul, if_true, if_false, eq_self, a3, a2]
    rw [qm_gL_o a0, i3.1 _ (by omega), mt_product hm2, qe_rL_e, nb_bn, nb_bn]
    generalize ha : nb_mul (c1 (k - 1)) (nb_inv (d (K' - 1))) = a
    generalize htt : k - K' = t
    have et : nI (k - 1) - nI (K' - 1) = nI t := by rw [pk_sub (by omega), ← htt]; congr 1; omega
    have ztop : dvs c1 d a t (k - 1) = 0 := by
      unfold dvs
      rw [if_neg (by omega), show k - 1 - t = K' - 1 by omega, ← ha, nb_assoc, nb_comm (nb_inv _), nb_mul_inv ht, nb_mul_1, nb_xx]
    have zt : ∀ i, k - 1 ≤ i → dvs c1 d a t i = 0 := fun i hi => by
      by_cases e : i = k - 1
      · rw [e]; exact ztop
      · unfold dvs
        rw [i2.1 i (by omega), if_neg (by omega), hK.1 _ (by omega), nb_mul_0, nb_xx]
    obtain ⟨m3, h3, e3⟩ := lpU (fun f2 j (m3 : qm_M) => L_M_leaves_41 (L_M_leaves_20 f) f2 v1 v2 (nI (K' - 1)) (bn (nb_inv (d (K' - 1)))) (nI (k - 1)) (bn a) (nI j) m3) K' (fun j m3 => (∀ i, i < 4 → m3.2 v1 i = bn (if t ≤ i ∧ i < t + j then dvs c1 d a t i else c1 i)) ∧ m3.1 = m2.1 ∧ ∀ x, x ≠ v1 → m3.2 x = m2.2 x) (fun m3 => qe_rI (F_M_degreeOf_AJI v1 m3) fun x1 m1 => L_M_leaves_20 f v1 v2 (nI (K' - 1)) (bn (nb_inv (d (K' - 1)))) x1 m1) (fun f2 j m3 hj hI => by
        obtain ⟨j1, j2, j3⟩ := hI
        have b1' := j1 (t + j) (by omega)
        rw [if_neg (by omega)] at b1'
        have b2' : m3.2 v2 j = bn (d j) := by rw [j3 v2 (Ne.symm d12)]; exact hD.1 j (by omega)
        have hm3 : nt_ok 64 m3 := fun a b ha hb => by rw [j3 117 (Ne.symm n1)]; exact hm2 a b ha hb
        refine ⟨qm_sL m3 v1 (t + j) (bn (dvs c1 d a t (t + j))), ⟨fun i hi => ?_, j2, fun x hx => by rw [(qm_sL_other x hx).2]; exact j3 x hx⟩, ?_⟩
        · rw [me_2L, if_pos rfl]
          by_cases e : i = t + j
          · rw [if_pos e, if_pos (show t ≤ i ∧ i < t + (j + 1) by omega), e]
          · rw [if_neg e, j1 i hi]
            by_cases z : t ≤ i ∧ i < t + j
            · rw [if_pos z, if_pos (show t ≤ i ∧ i < t + (j + 1) by omega)]
            · rw [if_neg z, if_neg (show ¬ (t ≤ i ∧ i < t + (j + 1)) by omega)]
        · show L_M_leaves_41 (L_M_leaves_20 f) (f2 + 1) v1 v2 (nI (K' - 1)) (bn (nb_inv (d (K' - 1)))) (nI (k - 1)) (bn a) (nI j) m3 = _
          rw [le_M_leaves_41]
          unfold X_M_leaves_41
          rw [if_neg (nI_nlt (by omega) (by omega)), et]
          simp (disch := omega) only [qe_rI_e, qe_rL_e, qe_rV_e, qe_rR_e, qe_b_e, n10F, nI_lt0, nI_e0T, nI_e0F, nI_ltT, nI_ltF, nI_eqT, nI_eqF, qm_in_nI, nI_clamp, nI_1, nI_add, pk_mul, if_true, if_false, eq_self, a3, a2, a4, a5, b2, b3]
          rw [qm_gL_o b0, b2', mt_product hm3, qe_rL_e, nb_bn, nb_bn]
          rw [qm_gL_o a0, b1']
          unfold dvs
          rw [if_neg (by omega), show t + j - t = j by omega]
          rfl) (fun f2 m3 hI => by
        show L_M_leaves_41 (L_M_leaves_20 f) (f2 + 1) v1 v2 (nI (K' - 1)) (bn (nb_inv (d (K' - 1)))) (nI (k - 1)) (bn a) (nI K') m3 = _
        rw [le_M_leaves_41]
        unfold X_M_leaves_41
        rw [if_pos (nI_lt (by omega) (by omega))]) 1000000 0 m2 (Nat.zero_le _) (by omega) ⟨fun i hi => by rw [if_neg (by omega)]; exact i3.1 i hi, rfl, fun _ _ => rfl⟩
    obtain ⟨j1, j2, j3⟩ := h3
    have p3 : pa m3 v1 4 (dvs c1 d a t) := ⟨fun i hi => by
      rw [j1 i hi]
      by_cases z : t ≤ i ∧ i < t + K'
      · rw [if_pos z]
      · rw [if_neg z]
        unfold dvs
        by_cases z2 : i < t
        · rw [if_pos z2, nb_x0]
        · rw [if_neg z2, hK.1 _ (by omega), nb_mul_0, nb_x0], fun i hi => zt i (by omega)⟩
    obtain ⟨L3, g1, g2, g3⟩ := mt_degree ha1 p3
    have hL3 : L3 ≤ k - 1 := isL_le g2 zt
    refine Or.inl ⟨(m3, dvs c1 d a t, L3), ⟨g1, g2, p3, ⟨fun x => Q x ^^^ nb_mul (nb_pow t x) a, ?_, fun x => ?_⟩, j2.trans i4, fun x hx => by rw [j3 x hx]; exact i5 x hx⟩, by show L3 < k; omega, ?_⟩
    · have hp : pf_P 4 (fun x => nb_mul (nb_pow t x) a) := ⟨fun i => if i = t then a else 0, fun x => (pf_one x a (show t < 4 by omega)).symm⟩
      exact q1.add hp
    · rw [dvs_e (n1 := 4) a hK.1 (by omega) k1, q2 x]
      exact ri_5 _ _ _ _ _
    · refine Eq.trans e3 ?_
      rw [g3, qe_rI_e]
def mcm (m m1 : qm_M) : Prop := m1.1 = m.1 ∧ ∀ a, a ≠ 123 → a ≠ 124 → m1.2 a = m.2 a
theorem mcm.rf (m : qm_M) : mcm m m := ⟨rfl, fun _ _ _ => rfl⟩
theorem mcm.tr {m m1 m2 : qm_M} (h : mcm m m1) (g : mcm m1 m2) : mcm m m2 := ⟨g.1.trans h.1, fun a x y => (g.2 a x y).trans (h.2 a x y)⟩
theorem mcm.ms {m m1 : qm_M} {s : sT} (g : mcm m m1) (h : ms m s) : ms m1 s := h.fr (by rw [g.1]) (by rw [g.1]) (by rw [g.1]) (by rw [g.1]) (fun a h1 h2 => g.2 a (by omega) (by omega))
theorem mcm.lo {m m1 : qm_M} (g : mcm m m1) : lo_fr m m1 := ⟨fun a _ => by rw [g.1], fun a h => g.2 a (by omega) (by omega)⟩
theorem ary_123 : ary 123 4 ∧ ary 124 4 := ⟨⟨by decide, rfl, rfl, rfl, rfl, rfl⟩, ⟨by decide, rfl, rfl, rfl, rfl, rfl⟩⟩
theorem mt_laysCommon {m : qm_M} {s : sT} (h : ms m s) : ∃ m1 g, F_M_laysCommon m = some (none, m1) ∧ pa m1 123 4 g ∧ GD (pf_e 4 (hA s.1)) (pf_e 4 (hB s.1)) (pf_e 4 g) ∧ mnc g ∧ mcm m m1 := by
  obtain ⟨r1, r2⟩ := ary_123
  obtain ⟨m1, i1, e⟩ := lpU (fun f k (m : qm_M) => L_M_laysCommon_2 f (nI k) m) 4 (fun k m1 => (∀ i, i < k → m1.2 123 i = bn (pP s.1 i) ∧ m1.2 124 i = bn (pP s.1 (4 + i))) ∧ mcm m m1) (fun m1 => L_M_laysCommon_37 1000000 m1) (fun f k m1 hk hI => by
      obtain ⟨j1, j2⟩ := hI
      have h1 := j2.ms h
      refine ⟨qm_sL (qm_sL m1 123 k (s.1 (7 + k))) 124 k (s.1 (7 + (4 + k))), ⟨fun i hi => ?_, j2.tr ⟨rfl, fun a x y => by rw [(qm_sL_other a y).2, (qm_sL_other a x).2]⟩⟩, ?_⟩
      · rw [me_2L, if_neg (show ¬ 123 = 124 by decide), me_2L, if_pos rfl, me_2L, if_pos rfl]
        by_cases q : i = k
        · rw [if_pos q, if_pos q, q]
          exact ⟨rfl, rfl⟩
        · rw [if_neg q, if_neg q, me_2L, if_neg (show ¬ 124 = 123 by decide)]
          exact j1 i (by omega)
      · have e4 : nI k < (4 : Int32) := nI_lt (a := k) (b := 4) hk (by omega)
        have eb : (4 : Int32) + nI k = nI (4 + k) := nI_add 4 k
        have hp2 : ms_now (qm_sL m1 123 k (s.1 (7 + k))) s.1 := fun i hi => by rw [me_2L, if_neg (by decide)]; exact h1.2.1 i hi
        show L_M_laysCommon_2 (f + 1) (nI k) m1 = _
        rw [le_M_laysCommon_2]
        unfold X_M_laysCommon_2
        rw [if_pos e4, mt_placeOf h1.2.1 (by omega), qe_rL_e, qm_in_nI hk (by omega), qe_b_e, nI_clamp (by omega)]
        dsimp only
        rw [eb, mt_placeOf hp2 (by omega), qe_rL_e, qe_b_e, nI_1]) (fun f m1 _ => by
      have e4 : ¬ nI 4 < (4 : Int32) := nI_nlt (a := 4) (b := 4) (by omega) (by omega)
      show L_M_laysCommon_2 (f + 1) (nI 4) m1 = _
      rw [le_M_laysCommon_2]
      unfold X_M_laysCommon_2
      rw [if_neg e4]) 1000000 0 m (Nat.zero_le _) (by omega) ⟨fun i hi => absurd hi (Nat.not_lt_zero _), mcm.rf m⟩
  obtain ⟨j1, j2⟩ := i1
  have pA : pa m1 123 4 (hA s.1) := ⟨fun i hi => by rw [(j1 i hi).1]; unfold hA; rw [if_pos hi], fun i hi => if_neg (by omega)⟩
  have pB : pa m1 124 4 (hB s.1) := ⟨fun i hi => by rw [(j1 i hi).2]; unfold hB; rw [if_pos hi], fun i hi => if_neg (by omega)⟩
  unfold F_M_laysCommon X_M_laysCommon_e
  have e' : L_M_laysCommon_2 1000000 0 m = _ := e
  rw [e']
  obtain ⟨K0, c1, c2, c3⟩ := mt_degree r2 pB
  refine lpG (fun f (w : qm_M × (Nat → nb_F) × (Nat → nb_F) × Nat) => L_M_laysCommon_37 f w.1) (fun w => w.2.2.2) (fun w => pa w.1 123 4 w.2.1 ∧ pa w.1 124 4 w.2.2.1 ∧ isL w.2.2.1 w.2.2.2 ∧ w.2.2.2 ≤ 4 ∧ (∃ k, k + 4 * w.2.2.2 ≤ 17 ∧ GC k (pf_e 4 (hA s.1)) (pf_e 4 (hB s.1)) (pf_e 4 w.2.1) (pf_e 4 w.2.2.1)) ∧ mcm m w.1) (fun r => ∃ m1 g, r = some (none, m1) ∧ pa m1 123 4 g ∧ GD (pf_e 4 (hA s.1)) (pf_e 4 (hB s.1)) (pf_e 4 g) ∧ mnc g ∧ mcm m m1) (fun f w hI => ?_) 1000000 (m1, hA s.1, hB s.1, K0) ⟨pA, pB, c2, c1, ⟨1, by show 1 + 4 * K0 ≤ 17; omega, GC.first _ _⟩, j2⟩ (by show K0 < _; omega)
  obtain ⟨m2, a, b, K⟩ := w
  obtain ⟨i1, i2, i3, i4, ⟨k, k1, k2⟩, i5⟩ := hI
  dsimp only at i1 i2 i3 i4 k1 k2 i5 ⊢
  have hms := i5.ms h
  obtain ⟨K', g1, g2, g3⟩ := mt_degree r2 i2
  have eK := isL_un g2 i3
  subst eK
  rw [le_M_laysCommon_37]
  unfold X_M_laysCommon_37
  rw [g3, qe_rI_e]
  by_cases q : K' = 0
  · rw [if_pos ((dv_z (by omega)).mpr q)]
    obtain ⟨L, l1, l2, l3⟩ := mt_degree r1 i1
    -- made monic
    have scl : ∀ t : nb_F, ∃ m3, L_M_laysCommon_131 1000000 (bn t) 0 m2 = some (none, m3) ∧ pa m3 123 4 (fun i => nb_mul (a i) t) ∧ mcm m2 m3 := fun t => by
      obtain ⟨m3, h3, e3⟩ := lpU (fun f k (m3 : qm_M) => L_M_laysCommon_131 f (bn t) (nI k) m3) 4 (fun k m3 => (∀ i, i < 4 → m3.2 123 i = bn (if i < k then nb_mul (a i) t else a i)) ∧ m3.1 = m2.1 ∧ ∀ x, x ≠ 123 → m3.2 x = m2.2 x) (fun m3 => some (none, m3)) (fun f k m3 hk hI => by
          obtain ⟨n1, n2, n3⟩ := hI
          have a1 := n1 k hk
          rw [if_neg (by omega)] at a1
          have hm3 : nt_ok 64 m3 := fun a b ha hb => by rw [n3 117 (by omega)]; exact hms.1.1 a b ha hb
          refine ⟨qm_sL m3 123 k (bn (nb_mul (a k) t)), ⟨fun i hi => ?_, n2, fun x hx => by rw [(qm_sL_other x hx).2]; exact n3 x hx⟩, ?_⟩
          · rw [me_2L, if_pos rfl]
            by_cases e : i = k
            · rw [if_pos e, e, if_pos (by omega)]
            · rw [if_neg e, n1 i hi]
              by_cases z : i < k
              · rw [if_pos z, if_pos (by omega)]
              · rw [if_neg z, if_neg (by omega)]
          · have e4 : nI k < (4 : Int32) := nI_lt (a := k) (b := 4) hk (by omega)
            show L_M_laysCommon_131 (f + 1) (bn t) (nI k) m3 = _
            rw [le_M_laysCommon_131]
            unfold X_M_laysCommon_131
            rw [if_pos e4]
            simp (disch := omega) only [qe_rI_e, qe_rL_e, qe_rV_e, qe_rR_e, qe_b_e, n10F, nI_lt0, nI_e0T, nI_e0F, nI_ltT, nI_ltF, nI_eqT, nI_eqF, qm_in_nI, nI_clamp, nI_1, nI_add, pk_mul, if_true, if_false, eq_self, a1, mt_product hm3, nb_bn]) (fun f m3 _ => by
          have e4 : ¬ nI 4 < (4 : Int32) := nI_nlt (a := 4) (b := 4) (by omega) (by omega)
          show L_M_laysCommon_131 (f + 1) (bn t) (nI 4) m3 = _
          rw [le_M_laysCommon_131]
          unfold X_M_laysCommon_131
          rw [if_neg e4]) 1000000 0 m2 (Nat.zero_le _) (by omega) ⟨fun i hi => by rw [if_neg (by omega)]; exact i1.1 i hi, rfl, fun _ _ => rfl⟩
      obtain ⟨n1, n2, n3⟩ := h3
      exact ⟨m3, e3, ⟨fun i hi => by rw [n1 i hi, if_pos hi], fun i hi => by show nb_mul (a i) t = 0; rw [i1.2 i hi, nb_0_mul]⟩, n2, fun x hx _ => n3 x hx⟩
    rw [l3, qe_rI_e]
    by_cases qL : L = 0
    · obtain ⟨m3, s1, s2, s3⟩ := scl 0
      have s1' : L_M_laysCommon_131 1000000 0 0 m2 = _ := s1
      have za : ∀ i, a i = 0 := fun i => l2.1 i (by omega)
      rw [if_pos ((dv_z (by omega)).mpr qL), s1']
      refine Or.inr ⟨m3, _, rfl, s2, k2.end (by omega) (fun x => pf_e_z (fun i _ => i3.1 i (by omega)) x) (s := 1) (by decide) (fun x => ?_), Or.inr (fun i => nb_mul_0 (a i)), i5.tr s3⟩
      rw [pf_e_z (fun i _ => nb_mul_0 _), pf_e_z (fun i _ => za i), nb_mul_0]
    · have ht : a (L - 1) ≠ 0 := l2.2.resolve_left qL
      have hi := nb_mul_inv ht
      obtain ⟨m3, s1, s2, s3⟩ := scl (nb_inv (a (L - 1)))
      have hs0 : nb_inv (a (L - 1)) ≠ 0 := fun z => by rw [z, nb_mul_0] at hi; exact absurd hi (by decide)
      rw [if_neg (fun z => qL ((dv_z (by omega)).mp z)), dv_p (by omega), qm_in_nI (by omega) (by omega), qe_b_e, nI_clamp (by omega), i1.1 _ (by omega), mt_inverseOf hms.1.1, qe_rL_e, nb_bn, s1]
      refine Or.inr ⟨m3, _, rfl, s2, k2.end (by omega) (fun x => pf_e_z (fun i _ => i3.1 i (by omega)) x) hs0 (fun x => ?_), Or.inl ⟨L, by omega, ⟨fun i hi => by show nb_mul (a i) _ = 0; rw [l2.1 i hi, nb_0_mul], Or.inr (by show nb_mul (a (L - 1)) _ ≠ 0; rw [hi]; decide)⟩, hi⟩, i5.tr s3⟩
      rw [← pf_e_sc]
      exact pf_e_c (fun i _ => nb_comm _ _) x
  · rw [if_neg (fun z => q ((dv_z (by omega)).mp z))]
    obtain ⟨m3, a2, Q, t1, t2, t3, t4, t5, t6, t7⟩ := mt_leaves hms.1.1 r1 r2 (by decide) (by decide) i1 i2 i3 (by omega)
    have i2' : pa m3 124 4 b := i2.c (t7 124 (by decide))
    rw [t1, qe_rV_e]
    obtain ⟨m4, h4, e4⟩ := lpU (fun f2 k (m4 : qm_M) => L_M_laysCommon_61 (L_M_laysCommon_37 f) f2 (nI k) m4) 4 (fun k m4 => (∀ i, i < 4 → m4.2 123 i = bn (if i < k then b i else a2 i) ∧ m4.2 124 i = bn (if i < k then a2 i else b i)) ∧ mcm m3 m4) (fun m4 => L_M_laysCommon_37 f m4) (fun f2 k m4 hk hI => by
        obtain ⟨n1, n2⟩ := hI
        obtain ⟨a1, b1⟩ := n1 k hk
        rw [if_neg (by omega)] at a1 b1
        refine ⟨qm_sL (qm_sL m4 123 k (bn (b k))) 124 k (bn (a2 k)), ⟨fun i hi => ?_, n2.tr ⟨rfl, fun a x y => by rw [(qm_sL_other a y).2, (qm_sL_other a x).2]⟩⟩, ?_⟩
        · rw [me_2L, if_neg (show ¬ 123 = 124 by decide), me_2L, if_pos rfl, me_2L, if_pos rfl]
          by_cases q : i = k
          · rw [if_pos q, if_pos q, q, if_pos (by omega), if_pos (by omega)]
            exact ⟨rfl, rfl⟩
          · rw [if_neg q, if_neg q, me_2L, if_neg (show ¬ 124 = 123 by decide), (n1 i hi).1, (n1 i hi).2]
            by_cases z : i < k
            · rw [if_pos z, if_pos z, if_pos (by omega), if_pos (by omega)]
              exact ⟨rfl, rfl⟩
            · rw [if_neg z, if_neg z, if_neg (by omega), if_neg (by omega)]
              exact ⟨rfl, rfl⟩
        · have e4 : nI k < (4 : Int32) := nI_lt (a := k) (b := 4) hk (by omega)
          show L_M_laysCommon_61 (L_M_laysCommon_37 f) (f2 + 1) (nI k) m4 = _
          rw [le_M_laysCommon_61]
          unfold X_M_laysCommon_61
          rw [if_pos e4]
          simp (disch := omega) only [qe_rI_e, qe_rL_e, qe_rV_e, qe_rR_e, qe_b_e, n10F, nI_lt0, nI_e0T, nI_e0F, nI_ltT, nI_ltF, nI_eqT, nI_eqF, qm_in_nI, nI_clamp, nI_1, nI_add, pk_mul, if_true, if_false, eq_self, a1, b1]) (fun f2 m4 _ => by
        have e4 : ¬ nI 4 < (4 : Int32) := nI_nlt (a := 4) (b := 4) (by omega) (by omega)
        show L_M_laysCommon_61 (L_M_laysCommon_37 f) (f2 + 1) (nI 4) m4 = _
        rw [le_M_laysCommon_61]
        unfold X_M_laysCommon_61
        rw [if_neg e4]) 1000000 0 m3 (Nat.zero_le _) (by omega) ⟨fun i hi => by rw [if_neg (by omega), if_neg (by omega)]; exact ⟨t2.1 i hi, i2'.1 i hi⟩, mcm.rf m3⟩
    obtain ⟨n1, n2⟩ := h4
    have e4' : L_M_laysCommon_61 (L_M_laysCommon_37 f) 1000000 0 m3 = _ := e4
    obtain ⟨K2, w1, w2⟩ := isL_ex 4 t2.2
    have hK2 : K2 ≤ K' - 1 := isL_le w2 t3
    refine Or.inl ⟨(m4, b, a2, K2), ⟨⟨fun i hi => by rw [(n1 i hi).1, if_pos hi], i2.2⟩, ⟨fun i hi => by rw [(n1 i hi).2, if_pos hi], t2.2⟩, w2, w1, ⟨4 + k, by show 4 + k + 4 * K2 ≤ 17; omega, (k2.less t4 t5).swap⟩, i5.tr (mcm.tr ⟨t6, fun x hx _ => t7 x hx⟩ n2)⟩, by show K2 < K'; omega, ?_⟩
    exact e4'
theorem w_common (v : Int32) : rdO 71 73 (F_T_common v) (F_M_common v) := by
  intro mc mm s hc hm g
  obtain ⟨mc1, gA', a1, a2, a3, a4, a5⟩ := nu_meetHalves hc
  unfold F_T_common X_T_common_e F_M_common X_M_common_e F_Po_metCoefficient X_Po_metCoefficient_e
  rw [a1, qe_rV_e]
  rcases nw_lt v (N := 4) (by omega) (by omega) with ⟨j, hj, rfl⟩ | ⟨h1, h2⟩
  · obtain ⟨mm1, gB', b1, b2, b3, b4, b5⟩ := mt_laysCommon hm
    have e4 : nI j < (4 : Int32) := nI_lt (a := j) (b := 4) hj (by omega)
    have eg := GD_un (n := 4) (by omega) a2.2 b2.2 a3 b3 a4 b4 j
    rw [if_neg (nI_pos (by omega)), if_pos e4, qm_in_nI hj (by omega), qe_b_e, nI_clamp (by omega), qe_rL_e, mt_in1 (j := j) (a := 0) (b := 3) (n := 0) (k := 3) rfl rfl rfl (by omega) (by omega) (by omega), qe_rI_e, if_neg n10, b1, qe_rV_e, qe_b_e, a2.1 j hj, b2.1 j hj, eg]
    exact ⟨_, _, _, rfl, rfl, a5, b5.ms hm, b5.lo⟩
  · have eT : (if v < 0 then some (some (Value.long 0), mc1) else if v < (4 : Int32) then qe_b (qm_in v 4) (some (some (Value.long (mc1.2 71 v.toNatClampNeg)), mc1)) else some (some (Value.long 0), mc1)) = some (some (Value.long 0), mc1) := by
      by_cases q : v < 0
      · rw [if_pos q]
      · have h4 : ¬ v < (4 : Int32) := h1.resolve_left q
        rw [if_neg q, if_neg h4]
    rw [eT, qe_rL_e, mt_in0 (a := 0) (b := 3) (n := 0) (k := 3) rfl rfl (by omega) (by omega) h2, qe_rI_e, if_pos rfl]
    exact ⟨_, _, _, rfl, rfl, a5, hm, lo_fr.rf mm⟩
