/-! the class: images, sums of traces -/
theorem le_Po_raiseImage_46 (K16 : Int32 → Int32 → qm_M → Option qm_R) (n : Nat) (v1 : Int32) (v2 : Int32) (v3 : Int32) (m : qm_M) : L_Po_raiseImage_46 K16 (n + 1) v1 v2 v3 m = X_Po_raiseImage_46 F_Po_clear F_Po_copy F_Po_divide F_Nu_square K16 (L_Po_raiseImage_46 K16 n) v1 v2 v3 m := rfl
theorem le_Po_raiseImage_16  (n : Nat) (v1 : Int32) (v2 : Int32) (m : qm_M) : L_Po_raiseImage_16 (n + 1) v1 v2 m = X_Po_raiseImage_16 F_Po_clear F_Po_copy F_Po_divide F_Nu_square (L_Po_raiseImage_46 (L_Po_raiseImage_16 n) 1000000) v1 v2 m := rfl
theorem le_Po_sumTraces_32 (K13 : Int32 → Int64 → Int32 → qm_M → Option qm_R) (n : Nat) (v3 : Int32) (v4 : Int64) (v6 : Int32) (v7 : Int32) (m : qm_M) : L_Po_sumTraces_32 K13 (n + 1) v3 v4 v6 v7 m = X_Po_sumTraces_32 F_Po_clear F_Nu_product F_Nu_square K13 (L_Po_sumTraces_32 K13 n) v3 v4 v6 v7 m := rfl
theorem le_Po_sumTraces_13  (n : Nat) (v3 : Int32) (v4 : Int64) (v6 : Int32) (m : qm_M) : L_Po_sumTraces_13 (n + 1) v3 v4 v6 m = X_Po_sumTraces_13 F_Po_clear F_Nu_product F_Nu_square (L_Po_sumTraces_32 (L_Po_sumTraces_13 n) 1000000) v3 v4 v6 m := rfl
theorem ary_of {o : Nat} (h : (74 ≤ o ∧ o ≤ 78) ∨ (80 ≤ o ∧ o ≤ 95) ∨ (97 ≤ o ∧ o ≤ 104)) : ary o 16 := by
  have c : (List.range 105).all (fun o => !(decide ((74 ≤ o ∧ o ≤ 78) ∨ (80 ≤ o ∧ o ≤ 95) ∨ (97 ≤ o ∧ o ≤ 104))) || decide (o < 1000000 ∧ Nat.ble (qm_gk o).1 5 = true ∧ qm_n o = 16 ∧ qm_isA o 1 = true ∧ qm_isL o 1 = true ∧ qm_nl o = 16)) = true := by decide +kernel
  have c1 := List.all_eq_true.mp c o (List.mem_range.mpr (by omega))
  rw [decide_eq_true h] at c1
  have c2 : o < 1000000 ∧ Nat.ble (qm_gk o).1 5 = true ∧ qm_n o = 16 ∧ qm_isA o 1 = true ∧ qm_isL o 1 = true ∧ qm_nl o = 16 := of_decide_eq_true (by simpa only [Bool.not_true, Bool.false_or] using c1)
  exact c2
theorem rf79 {i : Nat} (h : i < 16) : qm_rf 79 i = 80 + i := by
  have c : (List.range 16).all (fun i => decide (qm_rf 79 i = 80 + i)) = true := by decide +kernel
  exact of_decide_eq_true (List.all_eq_true.mp c i (List.mem_range.mpr h))
theorem rf96 {i : Nat} (h : i < 8) : qm_rf 96 i = 97 + i := by
  have c : (List.range 8).all (fun i => decide (qm_rf 96 i = 97 + i)) = true := by decide +kernel
  exact of_decide_eq_true (List.all_eq_true.mp c i (List.mem_range.mpr h))
theorem pa.un {m : qm_M} {o n : Nat} {c d : Nat → nb_F} (h : pa m o n c) (g : pa m o n d) : c = d := by
  funext i
  by_cases q : i < n
  · have e := (h.1 i q).symm.trans (g.1 i q)
    exact congrArg nb e
  · rw [h.2 i (by omega), g.2 i (by omega)]
theorem nu_copyP {m : qm_M} {a b n : Nat} {c : Nat → nb_F} (ha : ary a n) (hb : ary b n) (hab : a ≠ b) (hn : n < 1000) (h : pa m a n c) : ∃ m1, F_Po_copy a b m = some (none, m1) ∧ pa m1 b n c ∧ m1.1 = m.1 ∧ ∀ x, x ≠ b → m1.2 x = m.2 x := by
  obtain ⟨m1, e1, e2, e3, e4⟩ := nu_copy (m0 := m) (a := a) (b := b) (n := n) (k0 := n) hab ha.1 ha.2.1 ha.2.2.1 ha.2.2.2.1 hb.2.1 hb.2.2.1 hb.2.2.2.2.1 hb.2.2.2.2.2 hn hn
  exact ⟨m1, e1, ⟨fun i hi => by rw [e2 i hi, if_pos hi]; exact h.1 i hi, h.2⟩, e3, e4⟩
theorem nu_clearP {m : qm_M} {o n : Nat} (ho : ary o n) (hn : n < 1000) : ∃ m1, F_Po_clear o m = some (none, m1) ∧ pa m1 o n (fun _ => 0) ∧ m1.1 = m.1 ∧ ∀ a, a ≠ o → m1.2 a = m.2 a := by
  obtain ⟨m1, e1, e2, e3, e4⟩ := nu_clear (m0 := m) ho.2.1 ho.2.2.1 ho.2.2.2.2.1 ho.2.2.2.2.2 hn
  exact ⟨m1, e1, ⟨fun i hi => e2 i hi, fun _ _ => rfl⟩, e3, e4⟩
/-- squares of coefficients, in place -/
theorem nu_spread (K16 : Int32 → Int32 → qm_M → Option qm_R) (u v : Int32) {m0 : qm_M} {c : Nat → nb_F} (h : pa m0 75 16 c) (hz : ∀ j, 7 ≤ j → c j = 0) :
    ∃ m1, L_Po_raiseImage_46 K16 1000000 u v 7 m0 = (qe_rV (F_Po_divide 75 74 78 m1) fun m2 => K16 u (v + 1) m2) ∧ pa m1 75 16 (sqs c) ∧ m1.1 = m0.1 ∧ ∀ a, a ≠ 75 → m1.2 a = m0.2 a := by
  obtain ⟨m1, h1, e⟩ := lpD (fun f r (m : qm_M) => L_Po_raiseImage_46 K16 f u v (dv r) m) 8 (fun r m => (∀ j, j < 16 → m.2 75 j = bn (if 2 * r ≤ j then sqs c j else c j)) ∧ m.1 = m0.1 ∧ ∀ a, a ≠ 75 → m.2 a = m0.2 a) (fun m1 => qe_rV (F_Po_divide 75 74 78 m1) fun m2 => K16 u (v + 1) m2) (fun f r m hr hI => by
      obtain ⟨i1, i2, i3⟩ := hI
      have a1 := i1 r (by omega)
      rw [if_neg (by omega)] at a1
      refine ⟨qm_sL (qm_sL m 75 (2 * r) (bn (nb_sq (c r)))) 75 (2 * r + 1) 0, ⟨fun j hj => ?_, i2, fun a ha => by rw [(qm_sL_other a ha).2, (qm_sL_other a ha).2]; exact i3 a ha⟩, ?_⟩
      · rw [me_2L, if_pos rfl]
        by_cases q1 : j = 2 * r + 1
        · rw [if_pos q1, if_pos (by omega)]
          unfold sqs
          rw [if_neg (by omega)]
          rfl
        · rw [if_neg q1, me_2L, if_pos rfl]
          by_cases q2 : j = 2 * r
          · rw [if_pos q2, if_pos (by omega)]
            unfold sqs
            rw [if_pos (by omega), show j / 2 = r by omega]
          · rw [if_neg q2, i1 j hj]
            by_cases q3 : 2 * r ≤ j
            · rw [if_pos q3, if_pos (by omega)]
            · rw [if_neg q3, if_neg (by omega)]
      · show L_Po_raiseImage_46 K16 (f + 1) u v (dv (r + 1)) m = _
        rw [le_Po_raiseImage_46]
        unfold X_Po_raiseImage_46
        have e2 : (2 : Int32) * nI r = nI (2 * r) := pk_mul 2 r
        rw [dv_s, if_neg (nI_pos (by omega)), e2, qm_in_nI (show r < 16 by omega) (by omega), qe_b_e, nI_clamp (by omega), a1, nu_square, qe_rL_e, nb_bn, qm_in_nI (show 2 * r < 16 by omega) (by omega), qe_b_e, nI_clamp (by omega)]
        have e3 : nI (2 * r) + 1 = nI (2 * r + 1) := nI_add (2 * r) 1
        dsimp only
        rw [e3, qm_in_nI (show 2 * r + 1 < 16 by omega) (by omega), qe_b_e, nI_clamp (by omega), dv_d]) (fun f m _ => by
      show L_Po_raiseImage_46 K16 (f + 1) u v (dv 0) m = _
      rw [le_Po_raiseImage_46]
      unfold X_Po_raiseImage_46
      rw [if_pos dv_0]) 8 1000000 m0 (Nat.le_refl _) (by omega) ⟨fun j hj => by
        rw [h.1 j hj]
        by_cases q : 2 * 8 ≤ j
        · omega
        · rw [if_neg q], rfl, fun _ _ => rfl⟩
  obtain ⟨i1, i2, i3⟩ := h1
  refine ⟨m1, e, ⟨fun j hj => by rw [i1 j hj, if_pos (Nat.zero_le _)], fun j hj => ?_⟩, i2, i3⟩
  unfold sqs
  rw [hz _ (by omega)]
  by_cases q : j % 2 = 0
  · rw [if_pos q]
    exact nb_lin0 nb_sq_lin
  · rw [if_neg q]
/-- the images of x -/
theorem nu_raiseImage {m0 : qm_M} {fm : Nat → nb_F} {L E : Nat} (hf : pa m0 74 16 fm) (hL : isL fm L) (h1 : 1 ≤ L) (h8 : L ≤ 8) (hm : fm (L - 1) = 1) (hE : E ≤ 16) :
    ∃ m1 c, F_Po_raiseImage (nI E) m0 = some (none, m1) ∧ (∀ i, i < E → ∃ d, pa m1 (80 + i) 16 d ∧ img (pf_e 16 fm) i d) ∧ pa m1 75 16 c ∧ img (pf_e 16 fm) E c ∧ m1.1 = m0.1 ∧ ∀ a, a ≠ 75 → a ≠ 78 → a < 80 ∨ 95 < a → m1.2 a = m0.2 a := by
  have hF : pf_P 16 (pf_e 16 fm) := ⟨fm, fun _ => rfl⟩
  obtain ⟨ma, a1, a2, a3, a4⟩ := nu_clearP (m := m0) (ary_of (o := 75) (by omega)) (by omega)
  obtain ⟨m1, ⟨c, g1, g2, g3, g4, g5⟩, e⟩ := lpU (fun f i (m : qm_M) => L_Po_raiseImage_16 f (nI E) (nI i) m) E (fun i m => ∃ c, pa m 75 16 c ∧ img (pf_e 16 fm) i c ∧ (∀ t, t < i → ∃ d, pa m (80 + t) 16 d ∧ img (pf_e 16 fm) t d) ∧ m.1 = m0.1 ∧ ∀ a, a ≠ 75 → a ≠ 78 → a < 80 ∨ 95 < a → m.2 a = m0.2 a) (fun m => some (none, m)) (fun f i m hi hI => by
      obtain ⟨c, i1, i2, i3, i4, i5⟩ := hI
      obtain ⟨m2, b1, b2, b3, b4⟩ := nu_copyP (ary_of (o := 75) (by omega)) (ary_of (o := 80 + i) (by omega)) (by omega) (by omega) i1
      obtain ⟨m3, c1, c2, c3, c4⟩ := nu_spread (L_Po_raiseImage_16 f) (nI E) (nI i) (i1.c (b4 75 (by omega))) i2.1
      have hf3 : pa m3 74 16 fm := hf.c (by rw [c4 74 (by omega), b4 74 (by omega)]; exact i5 74 (by omega) (by omega) (by omega))
      obtain ⟨m4, r, q, d1, d2, d3, d4, d5, d6, d7, d8⟩ := nu_divide (ary_of (o := 75) (by omega)) (ary_of (o := 74) (by omega)) (ary_of (o := 78) (by omega)) (by decide) (by decide) (by decide) (by omega) c2 hf3 hL (fun _ => hm)
      refine ⟨m4, ⟨r, d2, img_s i2 hF (fun j hj => d4 h1 j (by omega)) d6, fun t ht => ?_, by rw [d7, c3, b3]; exact i4, fun a x y z => by rw [d8 a x y, c4 a x, b4 a (by omega)]; exact i5 a x y z⟩, ?_⟩
      · by_cases q1 : t = i
        · rw [q1]
          exact ⟨c, b2.c (by rw [d8 (80 + i) (by omega) (by omega), c4 (80 + i) (by omega)]), i2⟩
        · obtain ⟨d, x1, x2⟩ := i3 t (by omega)
          exact ⟨d, x1.c (by rw [d8 (80 + t) (by omega) (by omega), c4 (80 + t) (by omega), b4 (80 + t) (by omega)]), x2⟩
      · have e16 : nI i < (16 : Int32) := nI_lt (a := i) (b := 16) (by omega) (by omega)
        show L_Po_raiseImage_16 (f + 1) (nI E) (nI i) m = _
        rw [le_Po_raiseImage_16]
        unfold X_Po_raiseImage_16
        rw [if_pos (nI_lt hi (by omega)), if_pos e16, qm_in_nI (show i < 16 by omega) (by omega), qe_b_e, nI_clamp (by omega), rf79 (by omega), b1, qe_rV_e, c1, d1, qe_rV_e, nI_1]) (fun f m _ => by
      show L_Po_raiseImage_16 (f + 1) (nI E) (nI E) m = _
      rw [le_Po_raiseImage_16]
      unfold X_Po_raiseImage_16
      rw [if_neg (nI_nlt (Nat.le_refl _) (by omega))]) 1000000 0 (qm_sL ma 75 1 1) (Nat.zero_le _) (by omega) ⟨fun j => if j = 1 then 1 else 0, ⟨fun j hj => by
        rw [me_2L, if_pos rfl]
        show _ = bn (if j = 1 then 1 else 0)
        by_cases q : j = 1
        · rw [if_pos q, if_pos q]
          rfl
        · rw [if_neg q, if_neg q]
          exact a2.1 j hj, fun j hj => if_neg (by omega)⟩, img_0 _ (fun _ => rfl), fun t ht => absurd ht (Nat.not_lt_zero _), a3, fun a x _ _ => by rw [(qm_sL_other a x).2]; exact a4 a x⟩
  refine ⟨m1, c, ?_, g3, g1, g2, g4, g5⟩
  unfold F_Po_raiseImage X_Po_raiseImage_e
  rw [a1, qe_rV_e]
  exact e
theorem xs_z {n : Nat} {f : Nat → nb_F} (h : ∀ i, i < n → f i = 0) : xs n f = 0 := by
  induction n with
  | zero => rfl
  | succ n ih => rw [xs_s, ih (fun i hi => h i (by omega)), h n (by omega), nb_xx]
theorem nb_sqN_up (n : Nat) (x : nb_F) : nb_sqN (n + 1) x = nb_sq (nb_sqN n x) := by
  rw [Nat.add_comm, nb_sqN_add x 1 n x]
  rfl
/-- the sum of traces of the images -/
theorem nu_sumTraces {m0 : qm_M} {im : Nat → Nat → nb_F} {E : Nat} (hE : E ≤ 16) (him : ∀ i, i < E → pa m0 (80 + i) 16 (im i)) (hz : ∀ i, i < E → ∀ j, 7 ≤ j → im i j = 0) (y : nb_F) :
    ∃ m1, F_Po_sumTraces (bn y) (nI E) m0 = some (none, m1) ∧ pa m1 76 16 (fun j => xs E (fun i => nb_mul (nb_sqN i y) (im i j))) ∧ m1.1 = m0.1 ∧ ∀ a, a ≠ 76 → m1.2 a = m0.2 a := by
  obtain ⟨ma, a1, a2, a3, a4⟩ := nu_clearP (m := m0) (ary_of (o := 76) (by omega)) (by omega)
  obtain ⟨m1, ⟨g1, g2, g3⟩, e⟩ := lpU (fun f i (m : qm_M) => L_Po_sumTraces_13 f (nI E) (bn (nb_sqN i y)) (nI i) m) E (fun i m => pa m 76 16 (fun j => xs i (fun t => nb_mul (nb_sqN t y) (im t j))) ∧ m.1 = m0.1 ∧ ∀ a, a ≠ 76 → m.2 a = m0.2 a) (fun m => some (none, m)) (fun f i m hi hI => by
      obtain ⟨i1, i2, i3⟩ := hI
      obtain ⟨m2, ⟨b1, b2, b3⟩, e2⟩ := lpU (fun f2 j (m2 : qm_M) => L_Po_sumTraces_32 (L_Po_sumTraces_13 f) f2 (nI E) (bn (nb_sqN i y)) (nI i) (nI j) m2) 7 (fun j m2 => (∀ t, t < 16 → m2.2 76 t = bn (if t < j then xs (i + 1) (fun u => nb_mul (nb_sqN u y) (im u t)) else xs i (fun u => nb_mul (nb_sqN u y) (im u t)))) ∧ m2.1 = m0.1 ∧ ∀ a, a ≠ 76 → m2.2 a = m0.2 a) (fun m2 => L_Po_sumTraces_13 f (nI E) (bn (nb_sqN (i + 1) y)) (nI (i + 1)) m2) (fun f2 j m2 hj hJ => by
          obtain ⟨j1, j2, j3⟩ := hJ
          have c1 := j1 j (by omega)
          rw [if_neg (by omega)] at c1
          have c2 : m2.2 (80 + i) j = bn (im i j) := by rw [j3 (80 + i) (by omega)]; exact (him i hi).1 j (by omega)
          refine ⟨qm_sL m2 76 j (bn (xs (i + 1) (fun u => nb_mul (nb_sqN u y) (im u j)))), ⟨fun t ht => ?_, j2, fun a ha => by rw [(qm_sL_other a ha).2]; exact j3 a ha⟩, ?_⟩
          · rw [me_2L, if_pos rfl]
            by_cases q : t = j
            · rw [if_pos q, if_pos (by omega), q]
            · rw [if_neg q, j1 t ht]
              by_cases q2 : t < j
              · rw [if_pos q2, if_pos (by omega)]
              · rw [if_neg q2, if_neg (by omega)]
          · obtain ⟨o1, o2, o3, o4, o5, o6⟩ := ary_of (o := 80 + i) (by omega)
            have e7 : nI j < (7 : Int32) := nI_lt (a := j) (b := 7) hj (by omega)
            show L_Po_sumTraces_32 (L_Po_sumTraces_13 f) (f2 + 1) (nI E) (bn (nb_sqN i y)) (nI i) (nI j) m2 = _
            rw [le_Po_sumTraces_32]
            unfold X_Po_sumTraces_32
            rw [if_pos e7, qm_in_nI (show j < 16 by omega) (by omega), qe_b_e, qm_in_nI (show i < 16 by omega) (by omega), qe_b_e, nI_clamp (by omega), rf79 (by omega), o4, qe_b_e, o3, qm_in_nI (show j < 16 by omega) (by omega), qe_b_e, nI_clamp (by omega), qm_gL_o o1, c2, nu_product, qe_rL_e, nb_bn, nb_bn, qe_b_e, c1, bn_xor, nI_1]
            rfl) (fun f2 m2 _ => by
          have e7 : ¬ nI 7 < (7 : Int32) := nI_nlt (a := 7) (b := 7) (by omega) (by omega)
          show L_Po_sumTraces_32 (L_Po_sumTraces_13 f) (f2 + 1) (nI E) (bn (nb_sqN i y)) (nI i) (nI 7) m2 = _
          rw [le_Po_sumTraces_32]
          unfold X_Po_sumTraces_32
          rw [if_neg e7, nu_square, qe_rL_e, nb_bn, nI_1, nb_sqN_up]) 1000000 0 m (Nat.zero_le _) (by omega) ⟨fun t ht => by rw [if_neg (by omega)]; exact i1.1 t ht, i2, i3⟩
      refine ⟨m2, ⟨⟨fun t ht => ?_, fun t ht => ?_⟩, b2, b3⟩, ?_⟩
      · rw [b1 t ht]
        by_cases q : t < 7
        · rw [if_pos q]
        · show _ = bn (xs (i + 1) (fun u => nb_mul (nb_sqN u y) (im u t)))
          rw [if_neg q, xs_s, hz i hi t (by omega), nb_mul_0, nb_x0]
      · exact xs_z (fun u hu => by rw [hz u (by omega) t (by omega), nb_mul_0])
      · have e16 : nI i < (16 : Int32) := nI_lt (a := i) (b := 16) (by omega) (by omega)
        show L_Po_sumTraces_13 (f + 1) (nI E) (bn (nb_sqN i y)) (nI i) m = _
        rw [le_Po_sumTraces_13]
        unfold X_Po_sumTraces_13
        rw [if_pos (nI_lt hi (by omega)), if_pos e16]
        exact e2) (fun f m _ => by
      show L_Po_sumTraces_13 (f + 1) (nI E) (bn (nb_sqN E y)) (nI E) m = _
      rw [le_Po_sumTraces_13]
      unfold X_Po_sumTraces_13
      rw [if_neg (nI_nlt (Nat.le_refl _) (by omega))]) 1000000 0 ma (Nat.zero_le _) (by omega) ⟨a2, a3, a4⟩
  refine ⟨m1, ?_, g1, g2, g3⟩
  unfold F_Po_sumTraces X_Po_sumTraces_e
  rw [a1, qe_rV_e]
  exact e
