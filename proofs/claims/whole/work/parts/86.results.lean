/-! the class: roots read off in order -/
theorem le_Po_insertResult_5  (n : Nat) (v1 : Int32) (v2 : Int32) (m : qm_M) : L_Po_insertResult_5 (n + 1) v1 v2 m = X_Po_insertResult_5 (L_Po_insertResult_5 n) (L_Po_insertResult_41) v1 v2 m := rfl
theorem le_Po_readResults_7  (n : Nat) (v1 : Int32) (m : qm_M) : L_Po_readResults_7 (n + 1) v1 m = X_Po_readResults_7 F_Po_degreeOf F_Po_insertResult (L_Po_readResults_7 n) v1 m := rfl
theorem le_Po_findRoots_103  (n : Nat) (v3 : Int32) (v4 : Int32) (m : qm_M) : L_Po_findRoots_103 (n + 1) v3 v4 m = X_Po_findRoots_103 F_Po_areAlike F_Po_copy F_Po_makeMonic F_Po_raiseImage F_Po_meet F_Po_sumTraces F_Po_splitParts F_Po_readResults (L_Po_findRoots_103 n) v3 v4 m := rfl
theorem bn_i32 (r : nb_F) : Int64.toInt32 (bn r) = nI r.toNat := by
  refine Int32.toBitVec_inj.1 (BitVec.eq_of_toNat_eq ?_)
  show (BitVec.signExtend 32 r).toNat = (BitVec.ofNat 32 r.toNat).toNat
  rw [BitVec.signExtend_eq_setWidth_of_le r (by omega), BitVec.toNat_setWidth, BitVec.toNat_ofNat]
def inc (n : Nat) (a : Nat → Nat) : Prop := ∀ t u, t < u → u < n → a t < a u
def rsf (m m1 : qm_M) : Prop := (∀ a, a ≠ 70 → a ≠ 105 → m1.1 a = m.1 a) ∧ (∀ j, j ≠ 14 → m1.1 70 j = m.1 70 j) ∧ m1.2 = m.2
theorem rsf.rf (m : qm_M) : rsf m m := ⟨fun _ _ _ => rfl, fun _ _ => rfl, rfl⟩
theorem rsf.tr {m m1 m2 : qm_M} (h : rsf m m1) (g : rsf m1 m2) : rsf m m2 := ⟨fun a x y => (g.1 a x y).trans (h.1 a x y), fun a x => (g.2.1 a x).trans (h.2.1 a x), g.2.2.trans h.2.2⟩
theorem rsf.R (m : qm_M) (j : Nat) (x : Int32) : rsf m (qm_sI m 105 j x) := ⟨fun a _ h => (qm_sI_other a h).1, fun _ _ => me_oth _ _ _ _ (Or.inl (by decide)), rfl⟩
theorem rsf.N (m : qm_M) (x : Int32) : rsf m (qm_sI m 70 14 x) := ⟨fun a h _ => (qm_sI_other a h).1, fun _ h => me_oth _ _ _ _ (Or.inr h), rfl⟩
theorem nu_insert {m0 : qm_M} {t w : Nat} {a : Nat → Nat} (ht : t < 7) (h14 : m0.1 70 14 = nI t) (ha : ∀ u, u < t → m0.1 105 u = nI (a u)) (hi : inc t a) (hb : ∀ u, u < t → a u < 65536) (hw : w < 65536) (hn : ∀ u, u < t → a u ≠ w) :
    ∃ m1 b, F_Po_insertResult (nI w) m0 = some (none, m1) ∧ m1.1 70 14 = nI (t + 1) ∧ (∀ u, u < t + 1 → m1.1 105 u = nI (b u)) ∧ inc (t + 1) b ∧ (∀ i, (∃ u, u < t + 1 ∧ b u = i) ↔ i = w ∨ ∃ u, u < t ∧ a u = i) ∧ rsf m0 m1 := by
  have fin : ∀ (k : Nat) (m : qm_M), k ≤ t → (∀ u, u < k → m.1 105 u = nI (a u)) → (∀ u, k < u → u ≤ t → m.1 105 u = nI (a (u - 1))) → (∀ u, k ≤ u → u < t → w < a u) → (∀ u, u < k → a u < w) → rsf m0 m → m.1 70 14 = nI t →
      ∃ m1 b, L_Po_insertResult_41 (nI w) (nI k) m = some (none, m1) ∧ m1.1 70 14 = nI (t + 1) ∧ (∀ u, u < t + 1 → m1.1 105 u = nI (b u)) ∧ inc (t + 1) b ∧ (∀ i, (∃ u, u < t + 1 ∧ b u = i) ↔ i = w ∨ ∃ u, u < t ∧ a u = i) ∧ rsf m0 m1 := by
    intro k m hk h1 h2 h3 h4 h5 h6
    refine ⟨qm_sI (qm_sI m 105 k (nI w)) 70 14 (nI (t + 1)), fun u => if u < k then a u else if u = k then w else a (u - 1), ?_, me_self _ _ _ _, fun u hu => ?_, fun u v huv hv => ?_, fun i => ⟨?_, ?_⟩, (h5.tr (rsf.R m _ _)).tr (rsf.N _ _)⟩
    · unfold L_Po_insertResult_41 X_Po_insertResult_41
      rw [qm_in_nI (show k < 7 by omega) (by omega), qe_b_e, nI_clamp (by omega)]
      dsimp only
      rw [me_oth _ _ _ _ (Or.inl (by decide)), h6, nI_1]
    · rw [me_oth _ _ _ _ (Or.inl (by decide))]
      show _ = nI (if u < k then a u else if u = k then w else a (u - 1))
      by_cases q1 : u = k
      · rw [q1, me_self, if_neg (Nat.lt_irrefl _), if_pos rfl]
      · rw [me_oth _ _ _ _ (Or.inr q1)]
        by_cases q2 : u < k
        · rw [if_pos q2]
          exact h1 u q2
        · rw [if_neg q2, if_neg q1]
          exact h2 u (by omega) (by omega)
    · show (if u < k then a u else if u = k then w else a (u - 1)) < (if v < k then a v else if v = k then w else a (v - 1))
      by_cases q1 : u < k
      · rw [if_pos q1]
        by_cases q2 : v < k
        · rw [if_pos q2]
          exact hi u v huv (by omega)
        · rw [if_neg q2]
          by_cases q3 : v = k
          · rw [if_pos q3]
            exact h4 u q1
          · rw [if_neg q3]
            exact hi u (v - 1) (by omega) (by omega)
      · rw [if_neg q1, if_neg (show ¬ v < k by omega), if_neg (show ¬ v = k by omega)]
        by_cases q2 : u = k
        · rw [if_pos q2]
          exact h3 (v - 1) (by omega) (by omega)
        · rw [if_neg q2]
          exact hi (u - 1) (v - 1) (by omega) (by omega)
    · rintro ⟨u, hu, rfl⟩
      show (if u < k then a u else if u = k then w else a (u - 1)) = w ∨ ∃ v, v < t ∧ a v = (if u < k then a u else if u = k then w else a (u - 1))
      by_cases q1 : u < k
      · rw [if_pos q1]
        exact Or.inr ⟨u, by omega, rfl⟩
      · rw [if_neg q1]
        by_cases q2 : u = k
        · rw [if_pos q2]
          exact Or.inl rfl
        · rw [if_neg q2]
          exact Or.inr ⟨u - 1, by omega, rfl⟩
    · rintro (rfl | ⟨u, hu, rfl⟩)
      · refine ⟨k, by omega, ?_⟩
        show (if k < k then a k else if k = k then i else a (k - 1)) = i
        rw [if_neg (Nat.lt_irrefl _), if_pos rfl]
      · by_cases q1 : u < k
        · exact ⟨u, by omega, if_pos q1⟩
        · refine ⟨u + 1, by omega, ?_⟩
          show (if u + 1 < k then a (u + 1) else if u + 1 = k then w else a (u + 1 - 1)) = a u
          rw [if_neg (by omega), if_neg (by omega), Nat.add_sub_cancel]
  unfold F_Po_insertResult X_Po_insertResult_e
  rw [h14]
  refine lpDE (fun f k (m : qm_M) => L_Po_insertResult_5 f (nI w) (nI k) m) t (fun k m => k ≤ t ∧ (∀ u, u < k → m.1 105 u = nI (a u)) ∧ (∀ u, k < u → u ≤ t → m.1 105 u = nI (a (u - 1))) ∧ (∀ u, k ≤ u → u < t → w < a u) ∧ rsf m0 m ∧ m.1 70 14 = nI t) (fun r => ∃ m1 b, r = some (none, m1) ∧ m1.1 70 14 = nI (t + 1) ∧ (∀ u, u < t + 1 → m1.1 105 u = nI (b u)) ∧ inc (t + 1) b ∧ (∀ i, (∃ u, u < t + 1 ∧ b u = i) ↔ i = w ∨ ∃ u, u < t ∧ a u = i) ∧ rsf m0 m1) (fun f k m hk hI => ?_) (fun f m hI => ?_) t 1000000 m0 (Nat.le_refl _) (by omega) ⟨Nat.le_refl _, ha, fun u h1 h2 => by omega, fun u h1 h2 => by omega, rsf.rf m0, h14⟩
  · obtain ⟨h1, h2, h3, h4, h5, h6⟩ := hI
    have e0 : (0 : Int32) < nI (k + 1) := nI_lt (a := 0) (b := k + 1) (by omega) (by omega)
    have e1 : nI (k + 1) - (1 : Int32) = nI k := nI_sub1 k
    have e2 : nI (k + 1) + (-1 : Int32) = nI k := by rw [dv_d, dv_s]
    have hbk := hb k hk
    show (∃ s', _ ∧ L_Po_insertResult_5 (f + 1) (nI w) (nI (k + 1)) m = _) ∨ _
    rw [le_Po_insertResult_5]
    unfold X_Po_insertResult_5
    rw [if_pos e0, e1, qm_in_nI (show k < 7 by omega) (by omega), qe_b_e, nI_clamp (by omega), h2 k (by omega)]
    by_cases q : w < a k
    · rw [if_pos (nI_lt q (by omega)), qe_b_e, qm_in_nI (show k + 1 < 7 by omega) (by omega), qe_b_e, nI_clamp (by omega), e2]
      refine Or.inl ⟨qm_sI m 105 (k + 1) (nI (a k)), ⟨by omega, fun u hu => ?_, fun u x y => ?_, fun u x y => ?_, h5.tr (rsf.R _ _ _), ?_⟩, rfl⟩
      · rw [me_oth _ _ _ _ (Or.inr (by omega))]
        exact h2 u (by omega)
      · by_cases z : u = k + 1
        · rw [z, me_self, Nat.add_sub_cancel]
        · rw [me_oth _ _ _ _ (Or.inr z)]
          exact h3 u (by omega) y
      · by_cases z : u = k
        · rw [z]
          exact q
        · exact h4 u (by omega) y
      · rw [me_oth _ _ _ _ (Or.inl (by decide))]
        exact h6
    · rw [if_neg (nI_nlt (by omega) (by omega))]
      have hk2 : a k < w := by
        have := hn k hk
        omega
      exact Or.inr (fin (k + 1) m h1 h2 h3 h4 (fun u hu => by
        by_cases z : u = k
        · rw [z]
          exact hk2
        · have := hi u k (by omega) hk
          omega) h5 h6)
  · obtain ⟨h1, h2, h3, h4, h5, h6⟩ := hI
    show ∃ m1 b, L_Po_insertResult_5 (f + 1) (nI w) (nI 0) m = _ ∧ _
    rw [le_Po_insertResult_5]
    unfold X_Po_insertResult_5
    have e0 : ¬ (0 : Int32) < nI 0 := by decide
    rw [if_neg e0]
    exact fin 0 m h1 h2 h3 h4 (fun u hu => absurd hu (Nat.not_lt_zero _)) h5 h6
/-- the parts' roots -/
theorem nu_readResults {m0 : qm_M} {R : List nb_F} (hR : R.length ≤ 7) (hin : ∀ r, r ∈ R → r.toNat < 65536) {n : Nat} {S : Nat → List nb_F} (hS : sok R n S) (hn : m0.1 70 13 = nI n) (hp : ∀ j, j < n → prt m0 j (S j)) (h1 : ∀ j, j < n → (S j).length ≤ 1) :
    ∃ m1 t a, F_Po_readResults m0 = some (none, m1) ∧ t ≤ 7 ∧ m1.1 70 14 = nI t ∧ (∀ u, u < t → m1.1 105 u = nI (a u)) ∧ inc t a ∧ (∀ i, (∃ u, u < t ∧ a u = i) ↔ ∃ r, r ∈ R ∧ r.toNat = i) ∧ rsf m0 m1 := by
  have hn7 := hS.le hR
  have mem : ∀ j r, j < n → r ∈ S j → r ∈ R := fun j r hj hr => (hS.2.2.1 r).mp ⟨j, hj, hr⟩
  have e : ∃ m1, (∃ t a, t ≤ n ∧ m1.1 70 14 = nI t ∧ (∀ u, u < t → m1.1 105 u = nI (a u)) ∧ inc t a ∧ (∀ i, (∃ u, u < t ∧ a u = i) ↔ ∃ j r, j < n ∧ r ∈ S j ∧ r.toNat = i) ∧ rsf m0 m1) ∧ L_Po_readResults_7 1000000 (nI 0) (qm_sI m0 70 14 0) = some (none, m1) := by
    refine lpU (fun f j (m : qm_M) => L_Po_readResults_7 f (nI j) m) n (fun j m => ∃ t a, t ≤ j ∧ m.1 70 14 = nI t ∧ (∀ u, u < t → m.1 105 u = nI (a u)) ∧ inc t a ∧ (∀ i, (∃ u, u < t ∧ a u = i) ↔ ∃ j2 r, j2 < j ∧ r ∈ S j2 ∧ r.toNat = i) ∧ rsf m0 m) (fun m => some (none, m)) (fun f j m hj hI => ?_) (fun f m hI => ?_) 1000000 0 (qm_sI m0 70 14 0) (Nat.zero_le _) (by omega) ⟨0, fun _ => 0, Nat.le_refl _, me_self _ _ _ _, fun u hu => absurd hu (Nat.not_lt_zero _), fun u v _ hv => absurd hv (Nat.not_lt_zero _), fun i => ⟨fun ⟨u, hu, _⟩ => absurd hu (Nat.not_lt_zero _), fun ⟨j2, r, hj2, _⟩ => absurd hj2 (Nat.not_lt_zero _)⟩, rsf.N _ _⟩
    · obtain ⟨t, a, g1, g2, g3, g4, g5, g6⟩ := hI
      obtain ⟨c, p1, p2⟩ := (hp j hj).c (m1 := m) (by rw [g6.2.2])
      obtain ⟨o1, o2, o3, o4, o5, o6⟩ := ary_of (o := 97 + j) (by omega)
      obtain ⟨L, l1, l2, l3⟩ := nu_degree (ary_of (o := 97 + j) (by omega)) (by omega) p1
      have hlj := h1 j hj
      have eL := isL_un l2 (rp_len (by omega) (by omega) p1.2 p2).1
      rw [eL, dv_s] at l3
      have e7 : nI t < (7 : Int32) := nI_lt (a := t) (b := 7) (by omega) (by omega)
      show ∃ s', _ ∧ L_Po_readResults_7 (f + 1) (nI j) m = _
      rw [le_Po_readResults_7]
      unfold X_Po_readResults_7
      rw [show m.1 70 13 = nI n by rw [g6.2.1 13 (by decide)]; exact hn, if_pos (nI_lt hj (by omega)), g2, if_pos e7, qm_in_nI (show j < 8 by omega) (by omega), qe_b_e, nI_clamp (by omega), rf96 (by omega), l3, qe_rI_e]
      cases hSj : S j with
      | nil =>
        have e1 : ¬ nI ([] : List nb_F).length = (1 : Int32) := by decide
        rw [if_neg e1, nI_1]
        refine ⟨m, ⟨t, a, by omega, g2, g3, g4, fun i => (g5 i).trans ⟨fun ⟨j2, r, x, y⟩ => ⟨j2, r, by omega, y⟩, fun ⟨j2, r, x, y, z⟩ => ?_⟩, g6⟩, rfl⟩
        by_cases q : j2 = j
        · rw [q, hSj] at y
          cases y
        · exact ⟨j2, r, by omega, y, z⟩
      | cons r l =>
        have hl : l = [] := by
          rw [hSj, List.length_cons] at hlj
          exact List.eq_nil_of_length_eq_zero (by omega)
        subst hl
        have e1 : nI ([r] : List nb_F).length = (1 : Int32) := show nI 1 = 1 from rfl
        have hr : r ∈ S j := by rw [hSj]; exact List.mem_cons_self
        have hrlt := hin r (mem j r hj hr)
        have c0 : c 0 = r := by
          have e2 := p2 0
          rw [hSj, rp_c, rp_n, nb_mul_1, nb_0x, pf_e_s, nb_0_mul, nb_x0] at e2
          exact e2
        have ev : Int64.toInt32 (m.2 (97 + j) 0) = nI r.toNat := by
          rw [p1.1 0 (by omega), c0, bn_i32]
        have uniq : ∀ u, u < t → a u ≠ r.toNat := fun u hu z => by
          obtain ⟨j2, r2, x1, x2, x3⟩ := (g5 (a u)).mp ⟨u, hu, rfl⟩
          have er : r2 = r := BitVec.eq_of_toNat_eq (x3.trans z)
          rw [er] at x2
          have := hS.2.1 j2 j r (by omega) hj x2 hr
          omega
        obtain ⟨m1, b, b1, b2, b3, b4, b5, b6⟩ := nu_insert (by omega) g2 g3 g4 (fun u hu => by
          obtain ⟨j2, r2, x1, x2, x3⟩ := (g5 (a u)).mp ⟨u, hu, rfl⟩
          rw [← x3]
          exact hin r2 (mem j2 r2 (by omega) x2)) hrlt uniq
        have z8 : qm_in (0 : Int32) 16 = true := by decide
        rw [if_pos e1, qe_b_e, o4, qe_b_e, o3, z8, qe_b_e, qm_gL_o o1, ev, b1, qe_rV_e, nI_1]
        refine ⟨m1, ⟨t + 1, b, by omega, b2, b3, b4, fun i => (b5 i).trans ⟨?_, ?_⟩, g6.tr b6⟩, rfl⟩
        · rintro (rfl | h)
          · exact ⟨j, r, by omega, hr, rfl⟩
          · obtain ⟨j2, r2, x1, x2⟩ := (g5 i).mp h
            exact ⟨j2, r2, by omega, x2⟩
        · rintro ⟨j2, r2, x1, x2, x3⟩
          by_cases q : j2 = j
          · rw [q, hSj] at x2
            exact Or.inl (by rw [← x3, List.mem_singleton.mp x2])
          · exact Or.inr ((g5 i).mpr ⟨j2, r2, by omega, x2, x3⟩)
    · obtain ⟨t, a, g1, g2, g3, g4, g5, g6⟩ := hI
      show L_Po_readResults_7 (f + 1) (nI n) m = _
      rw [le_Po_readResults_7]
      unfold X_Po_readResults_7
      rw [show m.1 70 13 = nI n by rw [g6.2.1 13 (by decide)]; exact hn, if_neg (nI_nlt (Nat.le_refl _) (by omega))]
  obtain ⟨m1, ⟨t, a, g1, g2, g3, g4, g5, g6⟩, e⟩ := e
  refine ⟨m1, t, a, e, by omega, g2, g3, g4, fun i => (g5 i).trans ⟨fun ⟨j, r, x, y, z⟩ => ⟨r, mem j r x y, z⟩, fun ⟨r, y, z⟩ => ?_⟩, g6⟩
  obtain ⟨j, x, y⟩ := (hS.2.2.1 r).mpr y
  exact ⟨j, r, x, y, z⟩
