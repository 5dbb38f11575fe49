/-! mended: the model; both -/
theorem le_M_bySet_35 (K6 : Int32 → Int64 → Int64 → Int32 → qm_M → Option qm_R) (n : Nat) (v1 : Int32) (v2 : Int64) (v4 : Int64) (v6 : Int32) (v7 : Int64) (v9 : Int64) (v11 : Int32) (m : qm_M) : L_M_bySet_35 K6 (n + 1) v1 v2 v4 v6 v7 v9 v11 m = X_M_bySet_35 F_M_has F_M_product F_M_inverseOf F_M_placeOf K6 (L_M_bySet_35 K6 n) v1 v2 v4 v6 v7 v9 v11 m := rfl
theorem le_M_bySet_6  (n : Nat) (v1 : Int32) (v2 : Int64) (v4 : Int64) (v6 : Int32) (m : qm_M) : L_M_bySet_6 (n + 1) v1 v2 v4 v6 m = X_M_bySet_6 F_M_has F_M_product F_M_inverseOf F_M_placeOf (L_M_bySet_6 n) (L_M_bySet_35 (L_M_bySet_6 n) 1000000) v1 v2 v4 v6 m := rfl
theorem le_M_agreesBy_4  (n : Nat) (v1 : Int32) (v2 : Int32) (v3 : Int32) (m : qm_M) : L_M_agreesBy_4 (n + 1) v1 v2 v3 m = X_M_agreesBy_4 F_M_has F_M_bySet F_M_placeOf (L_M_agreesBy_4 n) v1 v2 v3 m := rfl
theorem le_M_findsMended_12  (n : Nat) (v1 : Int32) (m : qm_M) : L_M_findsMended_12 (n + 1) v1 m = X_M_findsMended_12 F_M_size F_M_agreesBy (L_M_findsMended_12 n) (L_M_findsMended_73) v1 m := rfl
theorem le_M_addsBase_156  (n : Nat) (v4 : Int64) (v6 : Int32) (m : qm_M) : L_M_addsBase_156 (n + 1) v4 v6 m = X_M_addsBase_156 F_M_has F_M_placeOf F_M_inverseOf F_M_product (L_M_addsBase_156 n) v4 v6 m := rfl
theorem le_M_addsBase_69 (K37 : Int32 → Int64 → Int32 → qm_M → Option qm_R) (n : Nat) (v1 : Int32) (v2 : Int64) (v4 : Int32) (v5 : Int32) (m : qm_M) : L_M_addsBase_69 K37 (n + 1) v1 v2 v4 v5 m = X_M_addsBase_69 F_M_has F_M_placeOf F_M_inverseOf F_M_product K37 (L_M_addsBase_98 K37 (L_M_addsBase_69 K37 n)) v1 v2 v4 v5 m := rfl
theorem le_M_addsBase_37  (n : Nat) (v1 : Int32) (v2 : Int64) (v4 : Int32) (m : qm_M) : L_M_addsBase_37 (n + 1) v1 v2 v4 m = X_M_addsBase_37 F_M_has F_M_placeOf F_M_inverseOf F_M_product (L_M_addsBase_37 n) (L_M_addsBase_69 (L_M_addsBase_37 n) 1000000) (L_M_addsBase_156 1000000) v1 v2 v4 m := rfl
theorem le_M_addsBase_5  (n : Nat) (v1 : Int32) (v2 : Int64) (v4 : Int32) (m : qm_M) : L_M_addsBase_5 (n + 1) v1 v2 v4 m = X_M_addsBase_5 F_M_has F_M_placeOf F_M_inverseOf F_M_product (L_M_addsBase_5 n) (L_M_addsBase_37 1000000) v1 v2 v4 m := rfl
theorem le_M_laysMended_31  (n : Nat) (v1 : Int32) (m : qm_M) : L_M_laysMended_31 (n + 1) v1 m = X_M_laysMended_31 F_M_findsMended F_M_has F_M_addsBase (L_M_laysMended_31 n) v1 m := rfl
theorem le_M_laysMended_2  (n : Nat) (v1 : Int32) (m : qm_M) : L_M_laysMended_2 (n + 1) v1 m = X_M_laysMended_2 F_M_findsMended F_M_has F_M_addsBase (L_M_laysMended_2 n) (L_M_laysMended_31 1000000) v1 m := rfl
theorem le_M_mendedAt_14  (n : Nat) (v1 : Int64) (v3 : Int64) (v5 : Int32) (m : qm_M) : L_M_mendedAt_14 (n + 1) v1 v3 v5 m = X_M_mendedAt_14 F_M_laysMended F_M_product (L_M_mendedAt_14 n) v1 v3 v5 m := rfl
theorem mt_hasN {v k : Nat} (hv : v < 2 ^ 31) (hk : k < 64) (m : qm_M) : F_M_has (nI v).toInt64 (nI k) m = some (some (.int (if v.testBit k = true then 1 else 0)), m) := by
  rw [nI_l hv, mt_has _ hk]
  have e : (nb (lN v)).getLsbD k = v.testBit k := by
    show (BitVec.ofNat 64 v).getLsbD k = _
    rw [BitVec.getLsbD_ofNat]
    simp [hk]
  rw [e]
theorem mt_sizeN {v : Nat} (hv : v < 256) (m : qm_M) : F_M_size (nI v).toInt64 m = some (some (.int (nI (pc 8 v))), m) := by
  rw [nI_l (by omega), mt_size]
  have e : (nb (lN v)).toNat = v := nb_lN (by omega)
  rw [e, show (64 : Nat) = 8 + 56 from rfl, pc_more 56 v hv]
theorem mt_bySet {m : qm_M} {P : sP} (hm : nt_ok 64 m) (h : ms_now m P) {A : Nat} (hA : A < 256) (x : Int64) : F_M_bySet (nI A) x m = some (some (.long (bn (lS (fun j => A.testBit j) (pP P) (nb x) 8))), m) := by
  generalize hS : (fun j => A.testBit j) = S
  have hb : ∀ k, k < 8 → F_M_has (nI A).toInt64 (nI k) m = some (some (.int (if S k = true then 1 else 0)), m) := fun k hk => by rw [mt_hasN (by omega) (by omega), ← hS]
  obtain ⟨v', hv', e⟩ := lpU (fun f k (v : nb_F) => L_M_bySet_6 f (nI A) x (bn v) (nI k) m) 8 (fun k v => v = lS S (pP P) (nb x) k) (fun v => some (some (.long (bn v)), m)) (fun f k v hk hv => by
      refine ⟨lS S (pP P) (nb x) (k + 1), rfl, ?_⟩
      have e8 : nI k < (8 : Int32) := nI_lt (a := k) (b := 8) hk (by omega)
      show L_M_bySet_6 (f + 1) (nI A) x (bn v) (nI k) m = _
      rw [le_M_bySet_6]
      unfold X_M_bySet_6
      rw [if_pos e8, hb k hk, qe_rI_e, lS_s]
      by_cases qk : S k = true
      · rw [if_pos qk, if_neg n10, if_pos qk]
        obtain ⟨w, hw, e⟩ := lpU (fun f2 j (w : nb_F × nb_F) => L_M_bySet_35 (L_M_bySet_6 f) f2 (nI A) x (bn v) (nI k) (bn w.1) (bn w.2) (nI j) m) 8 (fun j w => w = (lA S k (nb x) j, lA S k (bN k) j)) (fun w => L_M_bySet_6 f (nI A) x (bn (v ^^^ nb_mul (nb_mul w.1 (nb_inv w.2)) (pP P k))) (nI (k + 1)) m) (fun f2 j w hj hw => by
            refine ⟨(lA S k (nb x) (j + 1), lA S k (bN k) (j + 1)), rfl, ?_⟩
            show L_M_bySet_35 (L_M_bySet_6 f) (f2 + 1) (nI A) x (bn v) (nI k) (bn w.1) (bn w.2) (nI j) m = _
            rw [le_M_bySet_35]
            unfold X_M_bySet_35
            have e8 : nI j < (8 : Int32) := nI_lt (a := j) (b := 8) hj (by omega)
            rw [if_pos e8, lA_s, lA_s, hw]
            by_cases q : j = k
            · rw [if_pos (by rw [q]), if_pos (Or.inl q), if_pos (Or.inl q), nI_1]
            · rw [if_neg (fun z => q ((nI_eq (by omega) (by omega)).mp z)), hb j hj, qe_rI_e]
              by_cases qj : S j = true
              · have hn : ¬ (j = k ∨ S j = false) := fun z => by rcases z with z | z; exact q z; rw [qj] at z; cases z
                rw [if_pos qj, if_neg n10, if_neg hn, if_neg hn, nI_l (by omega), nI_xor (by omega) (by omega), nI_l (by have := x8 hk hj; omega)]
                simp (disch := omega) only [qe_rI_e, qe_rL_e, qe_rV_e, qe_rR_e, qe_b_e, n10F, nI_lt0, nI_e0T, nI_e0F, nI_ltT, nI_ltF, nI_eqT, nI_eqF, qm_in_nI, nI_clamp, nI_1, nI_add, pk_mul, if_true, if_false, eq_self, mt_product hm, nb_bn]
                have ek : lN (k ^^^ j) = bn (bN k ^^^ bN j) := by rw [← bN_xor hk hj]; rfl
                rw [ek]
                rfl
              · have hf : S j = false := by cases hs : S j with
                  | true => exact absurd hs qj
                  | false => rfl
                rw [if_neg qj, if_pos rfl, if_pos (Or.inr hf), if_pos (Or.inr hf), nI_1]) (fun f2 w hw => by
            show L_M_bySet_35 (L_M_bySet_6 f) (f2 + 1) (nI A) x (bn v) (nI k) (bn w.1) (bn w.2) (nI 8) m = _
            rw [le_M_bySet_35]
            unfold X_M_bySet_35
            have e8 : ¬ nI 8 < (8 : Int32) := nI_nlt (a := 8) (b := 8) (by omega) (by omega)
            rw [if_neg e8]
            simp (disch := omega) only [qe_rI_e, qe_rL_e, qe_rV_e, qe_rR_e, qe_b_e, n10F, nI_lt0, nI_e0T, nI_e0F, nI_ltT, nI_ltF, nI_eqT, nI_eqF, qm_in_nI, nI_clamp, nI_1, nI_add, pk_mul, if_true, if_false, eq_self, mt_product hm, mt_inverseOf hm, mt_placeOf h hk, nb_bn]
            rfl) 1000000 0 (1, 1) (Nat.zero_le _) (by omega) rfl
        refine Eq.trans e ?_
        rw [hw, hv]
      · rw [if_neg qk, if_pos rfl, if_neg qk, nI_1, hv]) (fun f v hv => by
      show L_M_bySet_6 (f + 1) (nI A) x (bn v) (nI 8) m = _
      rw [le_M_bySet_6]
      unfold X_M_bySet_6
      have e8 : ¬ nI 8 < (8 : Int32) := nI_nlt (a := 8) (b := 8) (by omega) (by omega)
      rw [if_neg e8]) 1000000 0 0 (Nat.zero_le _) (by omega) rfl
  unfold F_M_bySet X_M_bySet_e
  refine Eq.trans e ?_
  rw [hv']
/-- what agrees with the one by a set -/
noncomputable def gS (A : Nat) (P : Nat → nb_F) (j : Nat) : Bool := decide (lS (fun j => A.testBit j) P (bN j) 8 = P j)
theorem mt_agreesBy {m : qm_M} {P : sP} (hm : nt_ok 64 m) (h : ms_now m P) {A : Nat} (hA : A < 256) : F_M_agreesBy (nI A) m = some (some (.int (nI (bs (gS A (pP P)) 8))), m) := by
  obtain ⟨t', ht', e⟩ := lpU (fun f k (t : Nat) => L_M_agreesBy_4 f (nI A) (nI t) (nI k) m) 8 (fun k t => t = bs (gS A (pP P)) k) (fun t => some (some (.int (nI t)), m)) (fun f k t hk ht => ⟨bs (gS A (pP P)) (k + 1), rfl, by
      have hb := bs_lt (gS A (pP P)) k
      have hp8 : 2 ^ k ≤ 128 := Nat.pow_le_pow_right (n := 2) (by omega) (show k ≤ 7 by omega)
      show L_M_agreesBy_4 (f + 1) (nI A) (nI t) (nI k) m = _
      rw [le_M_agreesBy_4]
      unfold X_M_agreesBy_4
      have e8 : nI k < (8 : Int32) := nI_lt (a := k) (b := 8) hk (by omega)
      rw [if_pos e8, mt_hasN (by omega) (by omega), qe_rI_e, ht, bs_s]
      have eor : nI (bs (gS A (pP P)) k) ||| qo_ishl 1 (nI k) = nI (bs (gS A (pP P)) k + 2 ^ k) := by rw [no_ishl1 (by omega), nI_or (by omega) (by omega), nb_orp hb]
      by_cases qb : A.testBit k = true
      · have hg : gS A (pP P) k = true := decide_eq_true (by rw [lS_at hk qb 8 (Nat.le_refl _), if_pos hk])
        rw [if_pos qb, if_neg n10, if_pos hg, eor, nI_1]
      · rw [if_neg qb, if_pos rfl, nI_l (by omega), mt_bySet hm h hA, qe_rL_e, mt_placeOf h hk, qe_rL_e]
        have eq0 : (lg_cmp (bn (lS (fun j => A.testBit j) (pP P) (nb (lN k)) 8)) (P (7 + k)) = 0) ↔ gS A (pP P) k = true := by
          rw [show P (7 + k) = bn (pP P k) from rfl, no_eB]
          unfold gS
          rw [decide_eq_true_eq]
          rfl
        by_cases q : gS A (pP P) k = true
        · rw [if_pos (eq0.mpr q), if_pos q, eor, nI_1]
        · have e0 : nI (bs (gS A (pP P)) k) ||| (0 : Int32) = nI (bs (gS A (pP P)) k) := by
            have := nI_or (a := bs (gS A (pP P)) k) (b := 0) (by omega) (by omega)
            rw [Nat.or_zero] at this
            exact this
          rw [if_neg (fun z => q (eq0.mp z)), if_neg q, Nat.add_zero, nI_1, e0]⟩) (fun f t ht => by
      show L_M_agreesBy_4 (f + 1) (nI A) (nI t) (nI 8) m = _
      rw [le_M_agreesBy_4]
      unfold X_M_agreesBy_4
      have e8 : ¬ nI 8 < (8 : Int32) := nI_nlt (a := 8) (b := 8) (by omega) (by omega)
      rw [if_neg e8]) 1000000 0 0 (Nat.zero_le _) (by omega) rfl
  unfold F_M_agreesBy X_M_agreesBy_e
  refine Eq.trans e ?_
  rw [ht']
/-- sets of four -/
theorem four_chk : (List.range 256).all (fun A => !decide (pc 8 A = 4) || (List.range 8).all (fun k => !A.testBit k || decide (lC (fun j => A.testBit j) k 8 = 3))) = true := by decide +kernel
theorem four_C {A : Nat} (hA : A < 256) (h4 : pc 8 A = 4) {k : Nat} (hk : k < 8) (hb : A.testBit k = true) : lC (fun j => A.testBit j) k 8 = 3 := by
  have h1 := List.all_eq_true.mp four_chk A (List.mem_range.mpr hA)
  rw [decide_eq_true h4, Bool.not_true, Bool.false_or] at h1
  have h2 := List.all_eq_true.mp h1 k (List.mem_range.mpr hk)
  rw [hb, Bool.not_true, Bool.false_or] at h2
  exact of_decide_eq_true h2
theorem four_P {A : Nat} (hA : A < 256) (h4 : pc 8 A = 4) (P : Nat → nb_F) : pf_P 4 (fun x => lS (fun j => A.testBit j) P x 8) := lS_P P (fun k hk hb => by rw [four_C hA h4 hk hb]; omega) 8 (Nat.le_refl _)
theorem gS_gP {A : Nat} {P c : Nat → nb_F} (hc : ∀ x, lS (fun j => A.testBit j) P x 8 = pf_e 4 c x) (j : Nat) : gS A P j = gP c P j := by
  unfold gS gP
  rw [hc]
theorem sub_chk : (List.range 256).all (fun B => decide (pc 8 B < 6) || (List.range 256).any (fun A => decide (pc 8 A = 4) && decide (4 ≤ ((List.range 8).filter (fun j => A.testBit j && B.testBit j)).length) && decide (A &&& B = A))) = true := by decide +kernel
/-- where there is one, a set of four tells it -/
theorem gS_good {c P : Nat → nb_F} (hc : gdp c P) : ∃ A, A < 256 ∧ pc 8 A = 4 ∧ 6 ≤ pc 8 (bs (gS A P) 8) := by
  have h1 := List.all_eq_true.mp sub_chk (bs (gP c P) 8) (List.mem_range.mpr (bs_lt _ 8))
  rw [Bool.or_eq_true] at h1
  have h2 := h1.resolve_left (fun z => by have := of_decide_eq_true z; unfold gdp at hc; omega)
  obtain ⟨A, hA, h3⟩ := List.any_eq_true.mp h2
  have hA2 := List.mem_range.mp hA
  rw [Bool.and_eq_true, Bool.and_eq_true] at h3
  obtain ⟨⟨g1, g2⟩, g3⟩ := h3
  have h4 := of_decide_eq_true g1
  have hl := of_decide_eq_true g2
  obtain ⟨d, hd⟩ := four_P hA2 h4 P
  have hs : ∀ i, i < 4 → d i = c i := pf_same (((List.range 8).filter (fun j => A.testBit j && (bs (gP c P) 8).testBit j)).map bN) (bN_filter _) (by rw [List.length_map]; exact hl) (fun a ha => by
    obtain ⟨j, hj, rfl⟩ := List.mem_map.mp ha
    obtain ⟨hj1, hj2⟩ := List.mem_filter.mp hj
    have hj8 := List.mem_range.mp hj1
    rw [bs_bit _ 8 j hj8, Bool.and_eq_true] at hj2
    rw [← hd]
    show lS (fun j => A.testBit j) P (bN j) 8 = _
    rw [lS_at (S := fun j => A.testBit j) hj8 hj2.1 8 (Nat.le_refl _), if_pos hj8]
    exact (of_decide_eq_true hj2.2).symm)
  refine ⟨A, hA2, h4, ?_⟩
  rw [bs_c 8 (fun j _ => (gS_gP hd j).trans (gP_c hs j))]
  exact hc
/-- the model's finding -/
def mF (m : qm_M) (P : Nat → nb_F) : Prop := (∃ A, A < 256 ∧ pc 8 A = 4 ∧ 6 ≤ pc 8 (bs (gS A P) 8) ∧ m.1 112 14 = nI A ∧ m.1 112 13 = nI (bs (gS A P) 8)) ∨ ((∀ c, ¬ gdp c P) ∧ m.1 112 14 = 0)
/-- the model's cells for it -/
def mfr (m m1 : qm_M) : Prop := (∀ a, a ≠ 112 → m1.1 a = m.1 a) ∧ (∀ i, i ≠ 13 → i ≠ 14 → m1.1 112 i = m.1 112 i) ∧ ∀ a, a ≠ 125 → a ≠ 126 → m1.2 a = m.2 a
theorem mfr.rf (m : qm_M) : mfr m m := ⟨fun _ _ => rfl, fun _ _ _ => rfl, fun _ _ _ => rfl⟩
theorem mfr.tr {m m1 m2 : qm_M} (h : mfr m m1) (g : mfr m1 m2) : mfr m m2 := ⟨fun a x => (g.1 a x).trans (h.1 a x), fun i x y => (g.2.1 i x y).trans (h.2.1 i x y), fun a x y => (g.2.2 a x y).trans (h.2.2 a x y)⟩
theorem mfr.I (m : qm_M) {j : Nat} (hj : j = 13 ∨ j = 14) (x : Int32) : mfr m (qm_sI m 112 j x) := ⟨fun a h => (qm_sI_other a h).1, fun i h1 h2 => me_oth _ _ _ _ (Or.inr (by omega)), fun _ _ _ => rfl⟩
theorem mfr.L (m : qm_M) {o : Nat} (ho : o = 125 ∨ o = 126) (j : Nat) (x : Int64) : mfr m (qm_sL m o j x) := ⟨fun _ _ => rfl, fun _ _ _ => rfl, fun a h1 h2 => (qm_sL_other a (by omega)).2⟩
theorem mfr.ms {m m1 : qm_M} {s : sT} (g : mfr m m1) (h : ms m s) : ms m1 s := h.fr (g.2.1 2 (by omega) (by omega)) (g.2.1 24 (by omega) (by omega)) (g.1 116 (by omega)) (g.1 129 (by omega)) (fun a h1 h2 => g.2.2 a (by omega) (by omega))
theorem mfr.lo {m m1 : qm_M} (g : mfr m m1) : lo_fr m m1 := ⟨fun a h => g.1 a (by omega), fun a h => g.2.2 a (by omega) (by omega)⟩
theorem mt_findsMended {m : qm_M} {s : sT} (h : ms m s) : ∃ m1, F_M_findsMended m = some (some (.int (if m1.1 112 14 = 0 then 0 else 1)), m1) ∧ mF m1 (pP s.1) ∧ mfr m m1 ∧ m1.2 = m.2 := by
  have e73 : ∀ m1 : qm_M, L_M_findsMended_73 m1 = some (some (.int (if m1.1 112 14 = 0 then 0 else 1)), m1) := fun m1 => by
    unfold L_M_findsMended_73 X_M_findsMended_73
    by_cases q : m1.1 112 14 = 0
    · rw [if_pos q, if_pos q]
    · rw [if_neg q, if_neg q]
  unfold F_M_findsMended X_M_findsMended_e
  refine lpE (fun f A (m1 : qm_M) => L_M_findsMended_12 f (nI A) m1) 256 (fun A m1 => mfr m m1 ∧ m1.2 = m.2 ∧ ((m1.1 112 14 = 0 ∧ ∀ B, B < A → pc 8 B = 4 → ¬ 6 ≤ pc 8 (bs (gS B (pP s.1)) 8)) ∨ (∃ B, B < 256 ∧ pc 8 B = 4 ∧ 6 ≤ pc 8 (bs (gS B (pP s.1)) 8) ∧ m1.1 112 14 = nI B ∧ m1.1 112 13 = nI (bs (gS B (pP s.1)) 8)))) (fun r => ∃ m1, r = some (some (.int (if m1.1 112 14 = 0 then 0 else 1)), m1) ∧ mF m1 (pP s.1) ∧ mfr m m1 ∧ m1.2 = m.2) (fun f A m1 hA hI => ?_) (fun f m1 hI => ?_) 1000000 0 (qm_sI (qm_sI m 112 14 0) 112 13 0) (Nat.zero_le _) (by omega) ⟨(mfr.I m (Or.inr rfl) _).tr (mfr.I _ (Or.inl rfl) _), rfl, Or.inl ⟨by rw [me_oth _ _ _ _ (Or.inr (by decide)), me_self], fun B hB => absurd hB (Nat.not_lt_zero _)⟩⟩
  · obtain ⟨i1, i2, i3⟩ := hI
    have e256 : nI A < (256 : Int32) := nI_lt (a := A) (b := 256) hA (by omega)
    rw [le_M_findsMended_12]
    unfold X_M_findsMended_12
    rw [if_pos e256]
    rcases i3 with ⟨j1, j2⟩ | ⟨B, j1, j2, j3, j4, j5⟩
    · have hms := i1.ms h
      have hpl := pc_le 8 A
      rw [if_pos j1, mt_sizeN hA, qe_rI_e]
      by_cases q : pc 8 A = 4
      · have e4 : nI (pc 8 A) = (4 : Int32) := by rw [q]; rfl
        rw [if_pos e4, mt_agreesBy hms.1.1 hms.2.1 hA, qe_rI_e, mt_sizeN (bs_lt _ 8), qe_rI_e]
        have hpl2 := pc_le 8 (bs (gS A (pP s.1)) 8)
        by_cases y : 6 ≤ pc 8 (bs (gS A (pP s.1)) 8)
        · have e6 : ¬ nI (pc 8 (bs (gS A (pP s.1)) 8)) < (6 : Int32) := nI_nlt (b := 6) y (by omega)
          rw [if_neg e6, nI_1]
          refine Or.inl ⟨_, ⟨(i1.tr (mfr.I m1 (Or.inr rfl) (nI A))).tr (mfr.I _ (Or.inl rfl) _), i2, Or.inr ⟨A, hA, q, y, by rw [me_oth _ _ _ _ (Or.inr (by decide)), me_self], me_self _ _ _ _⟩⟩, rfl⟩
        · have e6 : nI (pc 8 (bs (gS A (pP s.1)) 8)) < (6 : Int32) := nI_lt (b := 6) (by omega) (by omega)
          rw [if_pos e6, nI_1]
          refine Or.inl ⟨m1, ⟨i1, i2, Or.inl ⟨j1, fun B hB hB4 => ?_⟩⟩, rfl⟩
          by_cases z : B = A
          · rw [z]; exact y
          · exact j2 B (by omega) hB4
      · have e4 : ¬ nI (pc 8 A) = (4 : Int32) := fun z => q ((nI_eq (a := pc 8 A) (b := 4) (by omega) (by omega)).mp z)
        rw [if_neg e4, nI_1]
        refine Or.inl ⟨m1, ⟨i1, i2, Or.inl ⟨j1, fun B hB hB4 => ?_⟩⟩, rfl⟩
        by_cases z : B = A
        · rw [z] at hB4; exact absurd hB4 q
        · exact j2 B (by omega) hB4
    · have hnz : ¬ m1.1 112 14 = 0 := by
        rw [j4]
        refine nI_ne0 ?_ (by omega)
        by_cases z : B = 0
        · rw [z] at j2; exact absurd j2 (by decide)
        · omega
      rw [if_neg hnz, e73]
      exact Or.inr ⟨m1, rfl, Or.inl ⟨B, j1, j2, j3, j4, j5⟩, i1, i2⟩
  · obtain ⟨i1, i2, i3⟩ := hI
    have e256 : ¬ nI 256 < (256 : Int32) := nI_nlt (a := 256) (b := 256) (by omega) (by omega)
    rw [le_M_findsMended_12]
    unfold X_M_findsMended_12
    rw [if_neg e256, e73]
    refine ⟨m1, rfl, ?_, i1, i2⟩
    rcases i3 with ⟨j1, j2⟩ | j
    · refine Or.inr ⟨fun c hc => ?_, j1⟩
      obtain ⟨A, a1, a2, a3⟩ := gS_good hc
      exact j2 A a1 a2 a3
    · exact Or.inl j
/-! coefficients of the products -/
/-- times x less p, five of them -/
def bst (c : Nat → nb_F) (p : nb_F) : Nat → nb_F := fun j => (if j = 0 then 0 else c (j - 1)) ^^^ nb_mul p (c j)
def bcf (S : Nat → Bool) (k : Nat) : Nat → Nat → nb_F
  | 0 => fun j => if j = 0 then 1 else 0
  | n + 1 => if n = k ∨ S n = false then bcf S k n else bst (bcf S k n) (bN n)
theorem bcf_s (S : Nat → Bool) (k n : Nat) : bcf S k (n + 1) = if n = k ∨ S n = false then bcf S k n else bst (bcf S k n) (bN n) := rfl
theorem bcf_z (S : Nat → Bool) (k : Nat) : ∀ n j, lC S k n < j → bcf S k n j = 0
  | 0, j, h => if_neg (by have : lC S k 0 = 0 := rfl; omega)
  | n + 1, j, h => by
    rw [lC_s] at h
    rw [bcf_s]
    by_cases q : n = k ∨ S n = false
    · rw [if_pos q] at h ⊢
      exact bcf_z S k n j h
    · rw [if_neg q] at h ⊢
      unfold bst
      rw [if_neg (by omega), bcf_z S k n (j - 1) (by omega), bcf_z S k n j (by omega), nb_mul_0, nb_xx]
theorem bcf_e (S : Nat → Bool) (k : Nat) (x : nb_F) : ∀ n, lC S k n ≤ 4 → pf_e 5 (bcf S k n) x = lA S k x n
  | 0, _ => by
    rw [lA_0, pf_e_s, pf_e_z (c := fun i => bcf S k 0 (i + 1)) (fun i _ => if_neg (c := i + 1 = 0) (t := (1 : nb_F)) (e := 0) (Nat.succ_ne_zero i)), nb_mul_0, nb_x0]
    rfl
  | n + 1, h => by
    rw [lC_s] at h
    rw [bcf_s, lA_s]
    by_cases q : n = k ∨ S n = false
    · rw [if_pos q] at h ⊢
      rw [if_pos q]
      exact bcf_e S k x n h
    · rw [if_neg q] at h ⊢
      rw [if_neg q, ← bcf_e S k x n (by omega)]
      have h4 := bcf_z S k n 4 (by omega)
      simp only [pf_e_s, pf_e_0, bst]
      simp only [if_true, Nat.add_one_sub_one, Nat.succ_ne_zero, if_false, Nat.zero_add, Nat.add_zero]
      rw [h4]
      generalize bN n = p
      generalize bcf S k n 0 = c0
      generalize bcf S k n 1 = c1
      generalize bcf S k n 2 = c2
      generalize bcf S k n 3 = c3
      letI := nb_RI
      haveI := nb_RC
      exact (show ∀ p c0 c1 c2 c3 x : nb_R, (0 + p * c0) + x * ((c0 + p * c1) + x * ((c1 + p * c2) + x * ((c2 + p * c3) + x * ((c3 + p * 0) + x * 0)))) = (c0 + x * (c1 + x * (c2 + x * (c3 + x * (0 + x * 0))))) * (x + p) by intros; grind) p c0 c1 c2 c3 x
theorem lC_mono (S : Nat → Bool) (k : Nat) : ∀ d n, lC S k n ≤ lC S k (n + d)
  | 0, n => Nat.le_refl _
  | d + 1, n => by
    have h := lC_mono S k d n
    rw [show n + (d + 1) = (n + d) + 1 by omega, lC_s]
    split <;> omega
/-- one more of the four: the model -/
theorem mt_addsBase {m : qm_M} {P : sP} (hm : nt_ok 64 m) (h : ms_now m P) {A k : Nat} (hA : A < 256) (h14 : m.1 112 14 = nI A) (hk : k < 8) {c : Nat → nb_F} (hc : ∀ j, j < 4 → m.2 125 j = bn (c j)) :
    ∃ m1, F_M_addsBase (nI k) m = some (none, m1) ∧ (∀ j, j < 4 → m1.2 125 j = bn (c j ^^^ nb_mul (nb_mul (pP P k) (nb_inv (lA (fun j => A.testBit j) k (bN k) 8))) (bcf (fun j => A.testBit j) k 8 j))) ∧ m1.1 = m.1 ∧ ∀ a, a ≠ 125 → a ≠ 126 → m1.2 a = m.2 a := by
  generalize hS : (fun j => A.testBit j) = S
  -- the base at first
  obtain ⟨m1, i1, e1⟩ := lpU (fun f j (m : qm_M) => L_M_addsBase_5 f (nI k) 1 (nI j) m) 5 (fun j m1 => (∀ i, i < j → m1.2 126 i = bn (bcf S k 0 i)) ∧ m1.1 = m.1 ∧ ∀ a, a ≠ 126 → m1.2 a = m.2 a) (fun m1 => L_M_addsBase_37 1000000 (nI k) 1 0 m1) (fun f j m1 hj hI => by
      obtain ⟨j1, j2, j3⟩ := hI
      refine ⟨qm_sL m1 126 j (bn (bcf S k 0 j)), ⟨fun i hi => ?_, j2, fun a ha => by rw [(qm_sL_other a ha).2]; exact j3 a ha⟩, ?_⟩
      · rw [me_2L, if_pos rfl]
        by_cases q : i = j
        · rw [if_pos q, q]
        · rw [if_neg q]; exact j1 i (by omega)
      · have e5 : nI j < (5 : Int32) := nI_lt (a := j) (b := 5) hj (by omega)
        show L_M_addsBase_5 (f + 1) (nI k) 1 (nI j) m1 = _
        rw [le_M_addsBase_5]
        unfold X_M_addsBase_5
        rw [if_pos e5]
        by_cases q : j = 0
        · subst q
          simp (disch := omega) only [qe_rI_e, qe_rL_e, qe_rV_e, qe_rR_e, qe_b_e, n10F, nI_lt0, nI_e0T, nI_e0F, nI_ltT, nI_ltF, nI_eqT, nI_eqF, qm_in_nI, nI_clamp, nI_1, nI_add, pk_mul, if_true, if_false, eq_self]
          rfl
        · simp (disch := omega) only [qe_rI_e, qe_rL_e, qe_rV_e, qe_rR_e, qe_b_e, n10F, nI_lt0, nI_e0T, nI_e0F, nI_ltT, nI_ltF, nI_eqT, nI_eqF, qm_in_nI, nI_clamp, nI_1, nI_add, pk_mul, if_true, if_false, eq_self]
          rw [show bcf S k 0 j = 0 from if_neg q]
          rfl) (fun f m1 hI => by
      have e5 : ¬ nI 5 < (5 : Int32) := nI_nlt (a := 5) (b := 5) (by omega) (by omega)
      show L_M_addsBase_5 (f + 1) (nI k) 1 (nI 5) m1 = _
      rw [le_M_addsBase_5]
      unfold X_M_addsBase_5
      rw [if_neg e5]) 1000000 0 m (Nat.zero_le _) (by omega) ⟨fun i hi => absurd hi (Nat.not_lt_zero _), rfl, fun _ _ => rfl⟩
  obtain ⟨i1, i2, i3⟩ := i1
  have hm1 : nt_ok 64 m1 := fun a b ha hb => by rw [i3 117 (by omega)]; exact hm a b ha hb
  -- the products
  obtain ⟨w, iw, e2⟩ := lpU (fun f n (w : nb_F × qm_M) => L_M_addsBase_37 f (nI k) (bn w.1) (nI n) w.2) 8 (fun n w => w.1 = lA S k (bN k) n ∧ (∀ i, i < 5 → w.2.2 126 i = bn (bcf S k n i)) ∧ w.2.1 = m.1 ∧ ∀ a, a ≠ 126 → w.2.2 a = m.2 a) (fun w => L_M_addsBase_37 1 (nI k) (bn w.1) (nI 8) w.2) (fun f n w hn hI => by
      obtain ⟨j0, j1, j2, j3⟩ := hI
      have hmw : nt_ok 64 w.2 := fun a b ha hb => by rw [j3 117 (by omega)]; exact hm a b ha hb
      have e8 : nI n < (8 : Int32) := nI_lt (a := n) (b := 8) hn (by omega)
      rw [le_M_addsBase_37]
      unfold X_M_addsBase_37
      rw [if_pos e8]
      by_cases q : n = k
      · refine ⟨w, ⟨by rw [lA_s, if_pos (Or.inl q)]; exact j0, fun i hi => by rw [bcf_s, if_pos (Or.inl q)]; exact j1 i hi, j2, j3⟩, ?_⟩
        rw [if_pos (by rw [q]), nI_1]
      · have q14 : w.2.1 112 14 = nI A := by rw [j2]; exact h14
        rw [if_neg (fun z => q ((nI_eq (by omega) (by omega)).mp z)), q14, mt_hasN (by omega) (by omega), qe_rI_e]
        by_cases qb : A.testBit n = true
        · have hSn : S n = true := by rw [← hS]; exact qb
          have hno : ¬ (n = k ∨ S n = false) := fun z => by rcases z with z | z; exact q z; rw [hSn] at z; cases z
          rw [if_pos qb, if_neg n10]
          obtain ⟨m3, h3, e3⟩ := lpD (fun f2 r (m3 : qm_M) => L_M_addsBase_69 (L_M_addsBase_37 f) f2 (nI k) (bn w.1) (nI n) (dv r) m3) 5 (fun r m3 => (∀ i, i < 5 → m3.2 126 i = bn (if r ≤ i then bst (bcf S k n) (bN n) i else bcf S k n i)) ∧ m3.1 = m.1 ∧ ∀ a, a ≠ 126 → m3.2 a = m.2 a) (fun m3 => L_M_addsBase_37 f (nI k) (bn (nb_mul w.1 (bN k ^^^ bN n))) (nI (n + 1)) m3) (fun f2 r m3 hr hI => by
              obtain ⟨l1, l2, l3⟩ := hI
              have a1 := l1 r hr
              rw [if_neg (by omega)] at a1
              have hm3 : nt_ok 64 m3 := fun a b ha hb => by rw [l3 117 (by omega)]; exact hm a b ha hb
              refine ⟨qm_sL m3 126 r (bn (bst (bcf S k n) (bN n) r)), ⟨fun i hi => ?_, l2, fun a ha => by rw [(qm_sL_other a ha).2]; exact l3 a ha⟩, ?_⟩
              · rw [me_2L, if_pos rfl]
                by_cases y : i = r
                · rw [if_pos y, y, if_pos (Nat.le_refl _)]
                · rw [if_neg y, l1 i hi]
                  by_cases z : r + 1 ≤ i
                  · rw [if_pos z, if_pos (by omega)]
                  · rw [if_neg z, if_neg (by omega)]
              · show L_M_addsBase_69 (L_M_addsBase_37 f) (f2 + 1) (nI k) (bn w.1) (nI n) (dv (r + 1)) m3 = _
                rw [le_M_addsBase_69]
                unfold X_M_addsBase_69
                rw [dv_s, if_neg (nI_pos (by omega))]
                by_cases y : r = 0
                · have e0 : ¬ (0 : Int32) < nI r := by rw [y]; decide
                  rw [if_neg e0]
                  unfold L_M_addsBase_98 X_M_addsBase_98
                  simp (disch := omega) only [qe_rI_e, qe_rL_e, qe_rV_e, qe_rR_e, qe_b_e, n10F, nI_lt0, nI_e0T, nI_e0F, nI_ltT, nI_ltF, nI_eqT, nI_eqF, qm_in_nI, nI_clamp, nI_1, nI_add, pk_mul, if_true, if_false, eq_self, nI_l, a1, mt_product hm3, dv_d]
                  unfold bst
                  rw [if_pos y]
                  rfl
                · have e0 : (0 : Int32) < nI r := nI_lt (a := 0) (b := r) (by omega) (by omega)
                  have a2 := l1 (r - 1) (by omega)
                  rw [if_neg (by omega)] at a2
                  rw [if_pos e0]
                  unfold L_M_addsBase_98 X_M_addsBase_98
                  simp (disch := omega) only [qe_rI_e, qe_rL_e, qe_rV_e, qe_rR_e, qe_b_e, n10F, nI_lt0, nI_e0T, nI_e0F, nI_ltT, nI_ltF, nI_eqT, nI_eqF, qm_in_nI, nI_clamp, nI_1, nI_add, pk_mul, if_true, if_false, eq_self, nI_l, nI_subL, a1, a2, mt_product hm3, dv_d]
                  unfold bst
                  rw [if_neg y]
                  rfl) (fun f2 m3 hI => by
              obtain ⟨l1, l2, l3⟩ := hI
              have hm3 : nt_ok 64 m3 := fun a b ha hb => by rw [l3 117 (by omega)]; exact hm a b ha hb
              show L_M_addsBase_69 (L_M_addsBase_37 f) (f2 + 1) (nI k) (bn w.1) (nI n) (dv 0) m3 = _
              rw [le_M_addsBase_69]
              unfold X_M_addsBase_69
              have ek : lN (k ^^^ n) = bn (bN k ^^^ bN n) := by rw [← bN_xor hk hn]; rfl
              have e13 : nI 1 = 1 := rfl
              rw [if_pos dv_0, nI_xor (by omega) (by omega), nI_l (by have := x8 hk hn; omega), ek, mt_product hm3, qe_rL_e, nI_1, nb_bn, nb_bn]) 5 1000000 w.2 (Nat.le_refl _) (by omega) ⟨fun i hi => by rw [if_neg (by omega)]; exact j1 i hi, j2, j3⟩
          obtain ⟨l1, l2, l3⟩ := h3
          refine ⟨(nb_mul w.1 (bN k ^^^ bN n), m3), ⟨by rw [lA_s, if_neg hno, ← j0], fun i hi => ?_, l2, l3⟩, e3⟩
          rw [bcf_s, if_neg hno]
          show m3.2 126 i = _
          rw [l1 i hi, if_pos (Nat.zero_le _)]
        · have hSn : S n = false := by
            rw [← hS]
            cases hs : A.testBit n with
            | true => exact absurd hs qb
            | false => exact hs
          refine ⟨w, ⟨by rw [lA_s, if_pos (Or.inr hSn)]; exact j0, fun i hi => by rw [bcf_s, if_pos (Or.inr hSn)]; exact j1 i hi, j2, j3⟩, ?_⟩
          rw [if_neg qb, if_pos rfl, nI_1]) (fun f w _ => by
      have e8 : ¬ nI 8 < (8 : Int32) := nI_nlt (a := 8) (b := 8) (by omega) (by omega)
      show L_M_addsBase_37 (f + 1) (nI k) (bn w.1) (nI 8) w.2 = L_M_addsBase_37 (0 + 1) (nI k) (bn w.1) (nI 8) w.2
      rw [le_M_addsBase_37, le_M_addsBase_37]
      unfold X_M_addsBase_37
      rw [if_neg e8, if_neg e8]) 1000000 0 (1, m1) (Nat.zero_le _) (by omega) ⟨(lA_0 _ _ _).symm, i1, i2, i3⟩
  obtain ⟨j0, j1, j2, j3⟩ := iw
  have hmw : nt_ok 64 w.2 := fun a b ha hb => by rw [j3 117 (by omega)]; exact hm a b ha hb
  have hPw : ms_now w.2 P := fun i hi => by rw [j3 113 (by omega)]; exact h i hi
  generalize hT : nb_mul (pP P k) (nb_inv (lA S k (bN k) 8)) = t
  obtain ⟨m4, h4, e4⟩ := lpU (fun f d (m4 : qm_M) => L_M_addsBase_156 f (bn t) (nI d) m4) 4 (fun d m4 => (∀ i, i < 4 → m4.2 125 i = bn (if i < d then c i ^^^ nb_mul t (bcf S k 8 i) else c i)) ∧ m4.1 = m.1 ∧ m4.2 126 = w.2.2 126 ∧ ∀ a, a ≠ 125 → a ≠ 126 → m4.2 a = m.2 a) (fun m4 => some (none, m4)) (fun f d m4 hd hI => by
      obtain ⟨l1, l2, l3, l4⟩ := hI
      have a1 := l1 d hd
      rw [if_neg (by omega)] at a1
      have a2 : m4.2 126 d = bn (bcf S k 8 d) := by rw [l3]; exact j1 d (by omega)
      have hm4 : nt_ok 64 m4 := fun a b ha hb => by rw [l4 117 (by omega) (by omega)]; exact hm a b ha hb
      refine ⟨qm_sL m4 125 d (bn (c d ^^^ nb_mul t (bcf S k 8 d))), ⟨fun i hi => ?_, l2, by rw [(qm_sL_other 126 (by decide)).2]; exact l3, fun a x y => by rw [(qm_sL_other a x).2]; exact l4 a x y⟩, ?_⟩
      · rw [me_2L, if_pos rfl]
        by_cases q : i = d
        · rw [if_pos q, q, if_pos (by omega)]
        · rw [if_neg q, l1 i hi]
          by_cases y : i < d
          · rw [if_pos y, if_pos (by omega)]
          · rw [if_neg y, if_neg (by omega)]
      · show L_M_addsBase_156 (f + 1) (bn t) (nI d) m4 = _
        rw [le_M_addsBase_156]
        unfold X_M_addsBase_156
        have e4 : nI d < (4 : Int32) := nI_lt (a := d) (b := 4) hd (by omega)
        rw [if_pos e4]
        simp (disch := omega) only [qe_rI_e, qe_rL_e, qe_rV_e, qe_rR_e, qe_b_e, n10F, nI_lt0, nI_e0T, nI_e0F, nI_ltT, nI_ltF, nI_eqT, nI_eqF, qm_in_nI, nI_clamp, nI_1, nI_add, pk_mul, if_true, if_false, eq_self, a1, a2, mt_product hm4]
        rfl) (fun f m4 hI => by
      have e4 : ¬ nI 4 < (4 : Int32) := nI_nlt (a := 4) (b := 4) (by omega) (by omega)
      show L_M_addsBase_156 (f + 1) (bn t) (nI 4) m4 = _
      rw [le_M_addsBase_156]
      unfold X_M_addsBase_156
      rw [if_neg e4]) 1000000 0 w.2 (Nat.zero_le _) (by omega) ⟨fun i hi => by rw [if_neg (by omega), j3 125 (by omega)]; exact hc i hi, j2, rfl, fun a x y => j3 a y⟩
  obtain ⟨l1, l2, l3, l4⟩ := h4
  refine ⟨m4, ?_, fun j hj => by rw [l1 j hj, if_pos hj], l2, l4⟩
  unfold F_M_addsBase X_M_addsBase_e
  refine Eq.trans e1 ?_
  refine Eq.trans e2 ?_
  rw [show L_M_addsBase_37 1 (nI k) (bn w.1) (nI 8) w.2 = X_M_addsBase_37 F_M_has F_M_placeOf F_M_inverseOf F_M_product (L_M_addsBase_37 0) (L_M_addsBase_69 (L_M_addsBase_37 0) 1000000) (L_M_addsBase_156 1000000) (nI k) (bn w.1) (nI 8) w.2 from rfl]
  unfold X_M_addsBase_37
  have e8 : ¬ nI 8 < (8 : Int32) := nI_nlt (a := 8) (b := 8) (by omega) (by omega)
  rw [if_neg e8, mt_placeOf hPw hk, qe_rL_e, mt_inverseOf hmw, qe_rL_e, mt_product hmw, qe_rL_e, nb_bn, nb_bn, j0]
  have ht : bn (nb_mul (nb (P (7 + k))) (nb_inv (lA S k (bN k) 8))) = bn t := by rw [← hT]; rfl
  rw [ht]
  exact e4
/-- the model mends -/
theorem mt_laysMended {m : qm_M} {s : sT} (h : ms m s) : ∃ m1, mfr m m1 ∧ ((∃ c, gdp c (pP s.1) ∧ F_M_laysMended m = some (some (.int 1), m1) ∧ ∀ j, j < 4 → m1.2 125 j = bn (c j)) ∨ ((∀ c, ¬ gdp c (pP s.1)) ∧ F_M_laysMended m = some (some (.int 0), m1))) := by
  obtain ⟨m1, i1, e1⟩ := lpU (fun f j (m : qm_M) => L_M_laysMended_2 f (nI j) m) 4 (fun j m1 => (∀ i, i < j → m1.2 125 i = 0) ∧ m1.1 = m.1 ∧ ∀ a, a ≠ 125 → m1.2 a = m.2 a) (fun m1 => L_M_laysMended_2 1 (nI 4) m1) (fun f j m1 hj hI => by
      obtain ⟨j1, j2, j3⟩ := hI
      refine ⟨qm_sL m1 125 j 0, ⟨fun i hi => ?_, j2, fun a ha => by rw [(qm_sL_other a ha).2]; exact j3 a ha⟩, ?_⟩
      · rw [me_2L, if_pos rfl]
        by_cases q : i = j
        · rw [if_pos q]
        · rw [if_neg q]; exact j1 i (by omega)
      · have e4 : nI j < (4 : Int32) := nI_lt (a := j) (b := 4) hj (by omega)
        show L_M_laysMended_2 (f + 1) (nI j) m1 = _
        rw [le_M_laysMended_2]
        unfold X_M_laysMended_2
        rw [if_pos e4]
        simp (disch := omega) only [qe_rI_e, qe_rL_e, qe_rV_e, qe_rR_e, qe_b_e, n10F, nI_lt0, nI_e0T, nI_e0F, nI_ltT, nI_ltF, nI_eqT, nI_eqF, qm_in_nI, nI_clamp, nI_1, nI_add, pk_mul, if_true, if_false, eq_self]) (fun f m1 _ => by
      have e4 : ¬ nI 4 < (4 : Int32) := nI_nlt (a := 4) (b := 4) (by omega) (by omega)
      show L_M_laysMended_2 (f + 1) (nI 4) m1 = L_M_laysMended_2 (0 + 1) (nI 4) m1
      rw [le_M_laysMended_2, le_M_laysMended_2]
      unfold X_M_laysMended_2
      rw [if_neg e4, if_neg e4]) 1000000 0 m (Nat.zero_le _) (by omega) ⟨fun i hi => absurd hi (Nat.not_lt_zero _), rfl, fun _ _ => rfl⟩
  obtain ⟨i1, i2, i3⟩ := i1
  have g1 : mfr m m1 := ⟨fun a _ => by rw [i2], fun i _ _ => by rw [i2], fun a x _ => i3 a x⟩
  have h1 := g1.ms h
  obtain ⟨m2, a1, a2, a3, a4⟩ := mt_findsMended h1
  have h2 := a3.ms h1
  have e4 : ¬ nI 4 < (4 : Int32) := nI_nlt (a := 4) (b := 4) (by omega) (by omega)
  have eM : F_M_laysMended m = (if (if m2.1 112 14 = 0 then (0 : Int32) else 1) = 0 then some (some (.int (0 : Int32)), m2) else L_M_laysMended_31 1000000 0 m2) := by
    unfold F_M_laysMended X_M_laysMended_e
    refine Eq.trans e1 ?_
    rw [show L_M_laysMended_2 1 (nI 4) m1 = X_M_laysMended_2 F_M_findsMended F_M_has F_M_addsBase (L_M_laysMended_2 0) (L_M_laysMended_31 1000000) (nI 4) m1 from rfl]
    unfold X_M_laysMended_2
    rw [if_neg e4, a1, qe_rI_e]
  rcases a2 with ⟨A, b1, b2, b3, b4, b5⟩ | ⟨b1, b2⟩
  · have hnz : ¬ m2.1 112 14 = 0 := by
      rw [b4]
      refine nI_ne0 ?_ (by omega)
      by_cases z : A = 0
      · rw [z] at b2; exact absurd b2 (by decide)
      · omega
    rw [if_neg hnz, if_neg n10] at eM
    have z125 : ∀ j, j < 4 → m2.2 125 j = bn ((fun _ : Nat => (0 : nb_F)) j) := fun j hj => by rw [a4, i1 j hj]; rfl
    generalize hS : (fun j => A.testBit j) = S
    obtain ⟨w, iw, e3⟩ := lpU (fun f k (w : (Nat → nb_F) × qm_M) => L_M_laysMended_31 f (nI k) w.2) 8 (fun k w => (∀ j, j < 4 → w.2.2 125 j = bn (w.1 j)) ∧ (∀ x, pf_e 4 w.1 x = lS S (pP s.1) x k) ∧ mfr m2 w.2 ∧ w.2.1 112 14 = nI A) (fun w => some (some (.int 1), w.2)) (fun f k w hk hI => by
        obtain ⟨l1, l2, l3, l4⟩ := hI
        have hw := l3.ms h2
        have e8 : nI k < (8 : Int32) := nI_lt (a := k) (b := 8) hk (by omega)
        rw [le_M_laysMended_31]
        unfold X_M_laysMended_31
        rw [if_pos e8, l4, mt_hasN (by omega) (by omega), qe_rI_e]
        by_cases qb : A.testBit k = true
        · have hSk : S k = true := by rw [← hS]; exact qb
          obtain ⟨m3, c1, c2, c3, c4⟩ := mt_addsBase hw.1.1 hw.2.1 b1 l4 hk l1
          rw [if_pos qb, if_neg n10, c1, qe_rV_e, nI_1]
          rw [hS] at c2
          refine ⟨(fun j => w.1 j ^^^ nb_mul (nb_mul (pP s.1 k) (nb_inv (lA S k (bN k) 8))) (bcf S k 8 j), m3), ⟨c2, fun x => ?_, l3.tr ⟨fun a _ => by rw [c3], fun i _ _ => by rw [c3], fun a x y => c4 a x y⟩, by rw [c3]; exact l4⟩, rfl⟩
          have hC3 : lC S k 8 = 3 := by rw [← hS]; exact four_C b1 b2 hk qb
          rw [pf_e_add, l2 x, pf_e_sc, lS_s, if_pos hSk]
          have e5 := bcf_e S k x 8 (by omega)
          rw [pf_e_hi 4, bcf_z S k 8 4 (by omega), nb_mul_0, nb_x0] at e5
          rw [e5]
          generalize lS S (pP s.1) x k = u
          generalize lA S k x 8 = v
          generalize nb_inv (lA S k (bN k) 8) = z
          generalize pP s.1 k = y
          letI := nb_RI
          haveI := nb_RC
          exact (show ∀ u v z y : nb_R, u + y * z * v = u + v * z * y by intros; grind) u v z y
        · have hSk : ¬ S k = true := by rw [← hS]; exact qb
          rw [if_neg qb, if_pos rfl, nI_1]
          exact ⟨w, ⟨l1, fun x => by rw [lS_s, if_neg hSk]; exact l2 x, l3, l4⟩, rfl⟩) (fun f w hI => by
        have e8 : ¬ nI 8 < (8 : Int32) := nI_nlt (a := 8) (b := 8) (by omega) (by omega)
        rw [le_M_laysMended_31]
        unfold X_M_laysMended_31
        rw [if_neg e8]) 1000000 0 (fun _ => 0, m2) (Nat.zero_le _) (by omega) ⟨z125, fun x => by rw [lS_0]; exact pf_e_z (fun _ _ => rfl) x, mfr.rf m2, b4⟩
    obtain ⟨l1, l2, l3, l4⟩ := iw
    refine ⟨w.2, (g1.tr a3).tr l3, Or.inl ⟨w.1, ?_, eM.trans e3, l1⟩⟩
    unfold gdp
    rw [← hS] at l2
    rw [← bs_c 8 (fun j _ => gS_gP (fun x => (l2 x).symm) j)]
    exact b3
  · rw [if_pos b2, if_pos rfl] at eM
    exact ⟨m2, g1.tr a3, Or.inr ⟨b1, eM⟩⟩
/-- a reading of both that uses the class's curve, and what it knows -/
def rdC (FT FM : qm_M → Option qm_R) : Prop := ∀ mc mm s, cs mc s → cvCu mc → ms mm s → gd s → ∃ r mc1 mm1, FT mc = some (some r, mc1) ∧ FM mm = some (some r, mm1) ∧ cvCu mc1 ∧ ou 107 111 mc mc1 ∧ ms mm1 s ∧ lo_fr mm mm1
theorem w_mended (v : Int32) : rdC (F_T_mended v) (F_M_mended v) := by
  intro mc mm s hc hv hm g
  obtain ⟨mc1, a1, a2, a3, a4⟩ := nu_mend hc hv
  obtain ⟨mm1, b1, b2⟩ := mt_laysMended hm
  unfold F_T_mended X_T_mended_e F_M_mended X_M_mended_e F_Cu_coefficient X_Cu_coefficient_e
  rw [a1, qe_rV_e]
  rcases nw_lt v (N := 4) (by omega) (by omega) with ⟨j, hj, rfl⟩ | ⟨h1, h2⟩
  · have e4 : nI j < (4 : Int32) := nI_lt (a := j) (b := 4) hj (by omega)
    rw [if_neg (nI_pos (by omega)), if_pos e4, qm_in_nI hj (by omega), qe_b_e, nI_clamp (by omega), qe_rL_e, mt_in1 (j := j) (a := 0) (b := 3) (n := 0) (k := 3) rfl rfl rfl (by omega) (by omega) (by omega), qe_rI_e, if_neg n10]
    rcases a2 with ⟨c, c1, c2, c3⟩ | ⟨c1, c2, c3⟩
    · rcases b2 with ⟨d, d1, d2, d3⟩ | ⟨d1, d2⟩
      · rw [d2, qe_rI_e, if_neg n10, qe_b_e, c2 j hj, d3 j hj, gdp_un c1 d1 j hj]
        exact ⟨_, _, _, rfl, rfl, a3, a4, b1.ms hm, b1.lo⟩
      · exact absurd c1 (d1 c)
    · rcases b2 with ⟨d, d1, d2, d3⟩ | ⟨d1, d2⟩
      · exact absurd d1 (c1 d)
      · rw [d2, qe_rI_e, if_pos rfl, c2 j hj]
        exact ⟨_, _, _, rfl, rfl, a3, a4, b1.ms hm, b1.lo⟩
  · have eT : (if v < 0 then some (some (Value.long 0), mc1) else if v < (4 : Int32) then qe_b (qm_in v 4) (some (some (Value.long (mc1.2 110 v.toNatClampNeg)), mc1)) else some (some (Value.long 0), mc1)) = some (some (Value.long 0), mc1) := by
      by_cases q : v < 0
      · rw [if_pos q]
      · have h4 : ¬ v < (4 : Int32) := h1.resolve_left q
        rw [if_neg q, if_neg h4]
    rw [eT, qe_rL_e, mt_in0 (a := 0) (b := 3) (n := 0) (k := 3) rfl rfl (by omega) (by omega) h2, qe_rI_e, if_pos rfl]
    exact ⟨_, _, _, rfl, rfl, a3, a4, hm, lo_fr.rf mm⟩
theorem w_mendedAt (x : Int64) : rdC (F_T_mendedAt x) (F_M_mendedAt x) := by
  intro mc mm s hc hv hm g
  obtain ⟨mc1, a1, a2, a3, a4⟩ := nu_mend hc hv
  obtain ⟨mm1, b1, b2⟩ := mt_laysMended hm
  have hm1 := b1.ms hm
  unfold F_T_mendedAt X_T_mendedAt_e F_M_mendedAt X_M_mendedAt_e F_Cu_mendedValue X_Cu_mendedValue_e
  rw [a1, qe_rV_e, nu_valueAt (o := 110) (n := 4) (by omega) rfl rfl rfl (by omega), qe_rL_e, qe_rL_e]
  rcases a2 with ⟨c, c1, c2, c3⟩ | ⟨c1, c2, c3⟩
  · rcases b2 with ⟨d, d1, d2, d3⟩ | ⟨d1, d2⟩
    · obtain ⟨v', hv', e⟩ := lpD (fun f k (v : nb_F) => L_M_mendedAt_14 f x (bn v) (dv k) mm1) 4 (fun k v => v = pf_e (4 - k) (fun j => d (k + j)) (nb x)) (fun v => some (some (.long (bn v)), mm1)) (fun f k v hk hv => ⟨nb_mul v (nb x) ^^^ d k, by
          rw [hv, show 4 - k = (4 - (k + 1)) + 1 by omega, pf_e_s, Nat.add_zero, BitVec.xor_comm, nb_comm]
          congr 2
          exact pf_e_c (fun i _ => by rw [show k + 1 + i = k + (i + 1) by omega]) _, by
          show L_M_mendedAt_14 (f + 1) x (bn v) (dv (k + 1)) mm1 = _
          rw [le_M_mendedAt_14]
          unfold X_M_mendedAt_14
          rw [dv_s]
          simp (disch := omega) only [qe_rI_e, qe_rL_e, qe_rV_e, qe_rR_e, qe_b_e, n10F, nI_lt0, nI_e0T, nI_e0F, nI_ltT, nI_ltF, nI_eqT, nI_eqF, qm_in_nI, nI_clamp, nI_1, nI_add, pk_mul, if_true, if_false, eq_self, mt_product hm1.1.1, d3 k hk, dv_d, nb_bn]
          rfl⟩) (fun f v hv => by
          show L_M_mendedAt_14 (f + 1) x (bn v) (dv 0) mm1 = _
          rw [le_M_mendedAt_14]
          unfold X_M_mendedAt_14
          rw [if_pos dv_0]) 4 1000000 0 (Nat.le_refl _) (by omega) rfl
      have e' : L_M_mendedAt_14 1000000 x 0 3 mm1 = _ := e
      have es : pf_e 4 (fun i => nb (mc1.2 110 i)) (nb x) = v' := by
        rw [hv', Nat.sub_zero]
        exact pf_e_c (fun i hi => by rw [c2 i hi, Nat.zero_add]; exact gdp_un c1 d1 i hi) _
      rw [d2, qe_rI_e, if_neg n10, e', es]
      exact ⟨_, _, _, rfl, rfl, a3, a4, hm1, b1.lo⟩
    · exact absurd c1 (d1 c)
  · rcases b2 with ⟨d, d1, d2, d3⟩ | ⟨d1, d2⟩
    · exact absurd d1 (c1 d)
    · have ez : pf_e 4 (fun i => nb (mc1.2 110 i)) (nb x) = 0 := pf_e_z (fun i hi => by rw [c2 i hi]; rfl) _
      rw [d2, qe_rI_e, if_pos rfl, ez]
      exact ⟨_, _, _, rfl, rfl, a3, a4, hm1, b1.lo⟩
theorem nI_notAnd {A : Nat} (hA : A < 256) : ((255 : Int32) ^^^ nI A) = (255 : Int32) &&& (nI A ^^^ (-1 : Int32)) := by
  have c : (List.range 256).all (fun A => decide (((255 : Int32) ^^^ nI A) = (255 : Int32) &&& (nI A ^^^ (-1 : Int32)))) = true := by decide +kernel
  exact of_decide_eq_true (List.all_eq_true.mp c A (List.mem_range.mpr hA))
theorem w_agrees (v : Int32) : rdC (F_T_agrees v) (F_M_agrees v) := by
  intro mc mm s hc hv hm g
  unfold F_T_agrees X_T_agrees_e F_M_agrees X_M_agrees_e
  rcases nw_lt v (N := 2) (by omega) (by omega) with ⟨j, hj, rfl⟩ | ⟨h1, h2⟩
  · have e1 : ¬ (1 : Int32) < nI j := nI_nlt (a := 1) (b := j) (by omega) (by omega)
    obtain ⟨mc1, a1, a2, a3, a4⟩ := nu_mend hc hv
    obtain ⟨mm1, b1, b2, b3, b4⟩ := mt_findsMended hm
    have hm1 := b3.ms hm
    rw [if_neg (nI_pos (by omega)), if_neg e1, a1, qe_rV_e, mt_in1 (j := j) (a := 0) (b := 1) (n := 0) (k := 1) rfl rfl rfl (by omega) (by omega) (by omega), qe_rI_e, if_neg n10, b1, qe_rI_e]
    rcases a2 with ⟨c, c1, c2, c3⟩ | ⟨c1, c2, c3⟩
    · have hlt := bs_lt (gP c (pP s.1)) 8
      rw [nu_isMended (by omega) c3, qe_rI_e, tp_T (P := 6 ≤ pc 8 (bs (gP c (pP s.1)) 8)) c1]
      rcases b2 with ⟨A, d1, d2, d3, d4, d5⟩ | ⟨d1, d2⟩
      · have hnz : ¬ mm1.1 112 14 = 0 := by
          rw [d4]
          refine nI_ne0 ?_ (by omega)
          by_cases z : A = 0
          · rw [z] at d2; exact absurd d2 (by decide)
          · omega
        obtain ⟨d, hd⟩ := four_P d1 d2 (pP s.1)
        have e6 : bs (gS A (pP s.1)) 8 = bs (gP d (pP s.1)) 8 := bs_c 8 (fun j _ => gS_gP hd j)
        have gd' : gdp d (pP s.1) := by unfold gdp; rw [← e6]; exact d3
        have e7 : bs (gS A (pP s.1)) 8 = bs (gP c (pP s.1)) 8 := by rw [e6]; exact bs_c 8 (fun j _ => gP_c (gdp_un gd' c1) j)
        rw [if_neg hnz, if_neg n10, c3, d5, e7]
        by_cases q : nI j = 0
        · rw [if_pos q, if_pos q, nu_bitCountI (by omega), qe_rI_e, mt_sizeN hlt, qe_rI_e, pc_more (f := 8) 4 _ hlt]
          exact ⟨_, _, _, rfl, rfl, a3, a4, hm1, b3.lo⟩
        · rw [if_neg q, if_neg q, nI_notAnd hlt]
          exact ⟨_, _, _, rfl, rfl, a3, a4, hm1, b3.lo⟩
      · exact absurd c1 (d1 c)
    · rcases b2 with ⟨A, d1, d2, d3, d4, d5⟩ | ⟨d1, d2⟩
      · obtain ⟨d, hd⟩ := four_P d1 d2 (pP s.1)
        have e6 : bs (gS A (pP s.1)) 8 = bs (gP d (pP s.1)) 8 := bs_c 8 (fun j _ => gS_gP hd j)
        have gd' : gdp d (pP s.1) := by unfold gdp; rw [← e6]; exact d3
        exact absurd gd' (c1 d)
      · rw [nu_isMended (A := 0) (by omega) c3, qe_rI_e, tp_F (P := 6 ≤ pc 8 0) (by decide), if_pos d2, if_pos rfl]
        exact ⟨_, _, _, rfl, rfl, a3, a4, hm1, b3.lo⟩
  · rw [mt_in0 (a := 0) (b := 1) (n := 0) (k := 1) rfl rfl (by omega) (by omega) h2, qe_rI_e, if_pos rfl]
    by_cases q : v < 0
    · rw [if_pos q]
      exact ⟨_, _, _, rfl, rfl, hv, ou.rf _ _ mc, hm, lo_fr.rf mm⟩
    · have h3 : (1 : Int32) < v := h2.resolve_left q
      rw [if_neg q, if_pos h3]
      exact ⟨_, _, _, rfl, rfl, hv, ou.rf _ _ mc, hm, lo_fr.rf mm⟩
