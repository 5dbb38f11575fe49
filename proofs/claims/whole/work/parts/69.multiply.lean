/-! products of grids -/
theorem le_T_multiply_98 (K83 : Nat → Nat → Int32 → qm_M → Option qm_R) (n : Nat) (v2 : Nat) (v3 : Nat) (v4 : Int32) (v5 : Int32) (m : qm_M) : L_T_multiply_98 K83 (n + 1) v2 v3 v4 v5 m = X_T_multiply_98 F_T_hasShelf F_Pa_push F_Pa_last F_Ps_clearGrid F_T_sharedOut F_Ps_setEntry K83 (L_T_multiply_98 K83 n) v2 v3 v4 v5 m := rfl
theorem le_T_multiply_83  (n : Nat) (v2 : Nat) (v3 : Nat) (v4 : Int32) (m : qm_M) : L_T_multiply_83 (n + 1) v2 v3 v4 m = X_T_multiply_83 F_T_hasShelf F_Pa_push F_Pa_last F_Ps_clearGrid F_T_sharedOut F_Ps_setEntry (L_T_multiply_98 (L_T_multiply_83 n) 1000000) v2 v3 v4 m := rfl
theorem le_T_sharedOut_6  (n : Nat) (v0 : Nat) (v1 : Int32) (v2 : Nat) (v3 : Int32) (v4 : Int64) (v6 : Int32) (m : qm_M) : L_T_sharedOut_6 (n + 1) v0 v1 v2 v3 v4 v6 m = X_T_sharedOut_6 F_Ps_entryAt F_Nu_product (L_T_sharedOut_6 n) v0 v1 v2 v3 v4 v6 m := rfl
theorem le_M_multiply_90 (K70 : Int32 → Int32 → Int32 → qm_M → Option qm_R) (K78 : Int32 → Int32 → Int32 → Int32 → qm_M → Option qm_R) (n : Nat) (v1 : Int32) (v2 : Int32) (v3 : Int32) (v4 : Int32) (v5 : Int64) (v7 : Int32) (m : qm_M) : L_M_multiply_90 K70 K78 (n + 1) v1 v2 v3 v4 v5 v7 m = X_M_multiply_90 F_M_isShelf F_M_laysForm F_M_keepsAct F_M_cellAt F_M_keptEntry F_M_product (L_M_multiply_90 K70 K78 n) (L_M_multiply_148 K70 K78) v1 v2 v3 v4 v5 v7 m := rfl
theorem le_M_multiply_78 (K70 : Int32 → Int32 → Int32 → qm_M → Option qm_R) (n : Nat) (v1 : Int32) (v2 : Int32) (v3 : Int32) (v4 : Int32) (m : qm_M) : L_M_multiply_78 K70 (n + 1) v1 v2 v3 v4 m = X_M_multiply_78 F_M_isShelf F_M_laysForm F_M_keepsAct F_M_cellAt F_M_keptEntry F_M_product K70 (L_M_multiply_90 K70 (L_M_multiply_78 K70 n) 1000000) v1 v2 v3 v4 m := rfl
theorem le_M_multiply_70  (n : Nat) (v1 : Int32) (v2 : Int32) (v3 : Int32) (m : qm_M) : L_M_multiply_70 (n + 1) v1 v2 v3 m = X_M_multiply_70 F_M_isShelf F_M_laysForm F_M_keepsAct F_M_cellAt F_M_keptEntry F_M_product (L_M_multiply_78 (L_M_multiply_70 n) 1000000) v1 v2 v3 m := rfl
/-- an entry of the product -/
noncomputable def gX (A B : gA) (n : Nat) : gA := fun i k => xs n (fun j => nb_mul (A i j) (B j k))
/-- the product's entries in a grid of R rows, C columns; below i rows, of row i below k -/
noncomputable def sX (P : sP) (R C : Nat) (T : gA) (i k : Nat) : sP := fun j => if 17 ≤ j ∧ j < 33 ∧ (j - 17) % 4 < C ∧ ((j - 17) / 4 < i ∨ (j - 17) / 4 = i ∧ (j - 17) % 4 < k) then bn (T ((j - 17) / 4) ((j - 17) % 4)) else sG P R C j
theorem sX_n (P : sP) (R C : Nat) (T : gA) (i : Nat) : sX P R C T i C = sX P R C T (i + 1) 0 := by
  funext j
  unfold sX
  by_cases h : 17 ≤ j ∧ j < 33 ∧ (j - 17) % 4 < C ∧ ((j - 17) / 4 < i ∨ (j - 17) / 4 = i ∧ (j - 17) % 4 < C)
  · rw [if_pos h, if_pos (by omega)]
  · rw [if_neg h, if_neg (by omega)]
theorem sX_s (P : sP) {R C : Nat} (T : gA) {i k : Nat} (hi : i < 4) (hk : k < C) (hC : C ≤ 4) : sS (sX P R C T i k) (17 + (4 * i + k)) (bn (T i k)) = sX P R C T i (k + 1) := by
  funext j
  show (if j = 17 + (4 * i + k) then bn (T i k) else sX P R C T i k j) = sX P R C T i (k + 1) j
  unfold sX
  by_cases q : j = 17 + (4 * i + k)
  · rw [if_pos q, if_pos (by omega), show (j - 17) / 4 = i by omega, show (j - 17) % 4 = k by omega]
  · rw [if_neg q]
    by_cases h : 17 ≤ j ∧ j < 33 ∧ (j - 17) % 4 < C ∧ ((j - 17) / 4 < i ∨ (j - 17) / 4 = i ∧ (j - 17) % 4 < k)
    · rw [if_pos h, if_pos (by omega)]
    · rw [if_neg h, if_neg (by omega)]
theorem sX_0 (P : sP) (R C : Nat) (T : gA) : sX P R C T 0 0 = sG P R C := by
  funext j
  unfold sX
  rw [if_neg (by omega)]
theorem sX_g (P : sP) (R C : Nat) (T : gA) (i k : Nat) : sX P R C T i k 15 = lN R ∧ sX P R C T i k 16 = lN C := by
  unfold sX
  exact ⟨if_neg (by omega), if_neg (by omega)⟩
theorem px_ok.mul {P : sP} (h : px_ok P) {R C : Nat} (hR : 1 ≤ R ∧ R ≤ 4) (hC : 1 ≤ C ∧ C ≤ 4) (T : gA) (i k : Nat) : px_ok (sX P R C T i k) := (h.grid hR hC).c (fun j hj => by
  unfold sX
  rw [if_neg (by omega)])
theorem nu_sharedOut {m : qm_M} {o z : Nat} (ho : po o) (hz : po z) {P Q : sP} (h : ∀ k, k < 33 → px_c m o k = P k) (g : ∀ k, k < 33 → px_c m z k = Q k) {R n C : Nat} (p0 : P 15 = lN R) (p1 : P 16 = lN n) (q0 : Q 15 = lN n) (q1 : Q 16 = lN C) (hR : 0 < R ∧ R ≤ 4) (hn : 0 < n ∧ n ≤ 4) (hC : 0 < C ∧ C ≤ 4) {i k : Nat} (hi : i < 4) (hk : k < 4) : F_T_sharedOut o (nI i) z (nI k) m = some (some (.long (bn (gX (gG P R n) (gG Q n C) n i k))), m) := by
  obtain ⟨⟨fa, -, fa10, fa45⟩, -, -⟩ := po_f ho
  obtain ⟨⟨fb, -, fb10, fb45⟩, -, -⟩ := po_f hz
  have f1 : m.1 o 9 = nI n := px_g (k := 1) (by omega) ((h 16 (by omega)).trans p1)
  obtain ⟨s', hs, e⟩ := lpU (fun f j (t : nb_F) => L_T_sharedOut_6 f o (nI i) z (nI k) (bn t) (nI j) m) n (fun j t => t = xs j (fun j => nb_mul (gG P R n i j) (gG Q n C j k))) (fun t => some (some (.long (bn t)), m)) (fun f j t hj ht => ⟨t ^^^ nb_mul (gG P R n i j) (gG Q n C j k), by rw [xs_s, ht], by
      show L_T_sharedOut_6 (f + 1) o (nI i) z (nI k) (bn t) (nI j) m = _
      rw [le_T_sharedOut_6]
      unfold X_T_sharedOut_6
      simp (disch := omega) only [qe_rI_e, qe_rL_e, qe_rV_e, qe_rR_e, qe_b_e, n10F, nI_lt0, nI_e0T, nI_e0F, nI_ltT, nI_ltF, nI_eqT, nI_eqF, qm_in_nI, nI_clamp, nI_1, nI_add, pk_mul, if_true, if_false, eq_self, fa, fb, f1, nu_entryAtO ho h p0 p1 hR hn hi (show j < 8 by omega), nu_entryAtO hz g q0 q1 hn hC (show j < 4 by omega) (show k < 8 by omega), nu_product, nb_bn]
      rfl⟩) (fun f t ht => by
      show L_T_sharedOut_6 (f + 1) o (nI i) z (nI k) (bn t) (nI n) m = _
      rw [le_T_sharedOut_6]
      unfold X_T_sharedOut_6
      simp (disch := omega) only [qe_rI_e, qe_rL_e, qe_rV_e, qe_rR_e, qe_b_e, n10F, nI_lt0, nI_e0T, nI_e0F, nI_ltT, nI_ltF, nI_eqT, nI_eqF, qm_in_nI, nI_clamp, nI_1, nI_add, pk_mul, if_true, if_false, eq_self, fa, f1]) 1000000 0 0 (Nat.zero_le _) (by omega) rfl
  unfold F_T_sharedOut X_T_sharedOut_e
  refine Eq.trans e ?_
  rw [hs]
  rfl
theorem nu_mul83 {m0 : qm_M} {o z : Nat} (ho : po o) (hz : po z) (o1 : o ≠ 1) (z1 : z ≠ 1) {P Q B : sP} {R n C : Nat} (p0 : P 15 = lN R) (p1 : P 16 = lN n) (q0 : Q 15 = lN n) (q1 : Q 16 = lN C) (hR : 0 < R ∧ R ≤ 4) (hn : 0 < n ∧ n ≤ 4) (hC : 0 < C ∧ C ≤ 4) (st : (Nat × (Nat → sP)) × ((Nat → Bool) × (Nat → sP)) × (Nat × (Nat → Int32)))
    (h : cs m0 (sG B R C, st)) (ho0 : ∀ k, k < 33 → px_c m0 o k = P k) (hz0 : ∀ k, k < 33 → px_c m0 z k = Q k) :
    ∃ m1, L_T_multiply_83 1000000 z o 0 m0 = some (some (.int (nI (R * C))), m1) ∧ cs m1 (sX B R C (gX (gG P R n) (gG Q n C) n) R 0, st) ∧ hi_fr m0 m1 := by
  generalize hT : gX (gG P R n) (gG Q n C) n = T
  -- what holds with row i, column k next
  let J : Nat → Nat → qm_M → Prop := fun i k m => cs m (sX B R C T i k, st) ∧ (∀ j, j < 33 → px_c m o j = P j) ∧ (∀ j, j < 33 → px_c m z j = Q j) ∧ hi_fr m0 m
  have fJ : ∀ {i k : Nat} {m : qm_M}, J i k m → m.1 1 8 = nI R ∧ m.1 1 9 = nI C := fun {i k m} hJ => ⟨cs_g (m := m) (s := (sX B R C T i k, st)) hJ.1 (k := 0) (by omega) (sX_g B R C T i k).1, cs_g (m := m) (s := (sX B R C T i k, st)) hJ.1 (k := 1) (by omega) (sX_g B R C T i k).2⟩
  have hpo : ∀ {w : Nat}, po w → w ≠ 1 → ∀ (m : qm_M) (i : Nat) (x : Int64) (j : Nat), px_c (qm_sL m 3 i x) w j = px_c m w j := fun {w} hw w1 m i x j => by
    have hd := po_dis hw po_1 w1
    exact px_c_eq (m := m) (m1 := qm_sL m 3 i x) (o := w) rfl (qm_sL_other (m := m) (o := 3) (j := i) (y := x) w (by omega)).2 (qm_sL_other (m := m) (o := 3) (j := i) (y := x) (w + 1) (by omega)).2 (qm_sL_other (m := m) (o := 3) (j := i) (y := x) (w + 2) (by omega)).2 j
  obtain ⟨m1, h1, e⟩ := lpU (fun f i m => L_T_multiply_83 f z o (nI i) m) R (fun i m => J i 0 m) (fun m => some (some (.int (nI (R * C))), m)) (fun f i m hi hJ => by
      obtain ⟨m1, h1, e⟩ := lpU (fun f2 k m => L_T_multiply_98 (L_T_multiply_83 f) f2 z o (nI i) (nI k) m) C (fun k m => J i k m) (fun m => L_T_multiply_83 f z o (nI (i + 1)) m) (fun f2 k m hk hJ => by
          refine ⟨qm_sL m 3 (4 * i + k) (bn (T i k)), ⟨?_, fun j hj => ?_, fun j hj => ?_, hJ.2.2.2.tr (hi_fr.L _ (by omega))⟩, ?_⟩
          · have hE := hJ.1.setE (k := 4 * i + k) (by omega) (bn (T i k))
            have hs : (sS (sX B R C T i k, st).1 (17 + (4 * i + k)) (bn (T i k)), (sX B R C T i k, st).2) = (sX B R C T i (k + 1), st) := by
              show (sS (sX B R C T i k) (17 + (4 * i + k)) (bn (T i k)), st) = _
              rw [sX_s B T (by omega) hk hC.2]
            rw [hs] at hE
            exact hE
          · rw [hpo ho o1]; exact hJ.2.1 j hj
          · rw [hpo hz z1]; exact hJ.2.2.1 j hj
          · show L_T_multiply_98 (L_T_multiply_83 f) (f2 + 1) z o (nI i) (nI k) m = _
            rw [le_T_multiply_98]
            unfold X_T_multiply_98
            have hsh := nu_sharedOut ho hz hJ.2.1 hJ.2.2.1 p0 p1 q0 q1 hR hn hC (show i < 4 by omega) (show k < 4 by omega)
            rw [hT] at hsh
            simp (disch := omega) only [qe_rI_e, qe_rL_e, qe_rV_e, qe_rR_e, qe_b_e, n10F, nI_lt0, nI_e0T, nI_e0F, nI_ltT, nI_ltF, nI_eqT, nI_eqF, qm_in_nI, nI_clamp, nI_1, nI_add, pk_mul, if_true, if_false, eq_self, (fJ hJ).2, hsh, nu_setEntry (m := m) (s := (sX B R C T i k, st)) hJ.1 (sX_g B R C T i k).1 (sX_g B R C T i k).2 hR hC hi hk]) (fun f2 m hJ => by
          show L_T_multiply_98 (L_T_multiply_83 f) (f2 + 1) z o (nI i) (nI C) m = _
          rw [le_T_multiply_98]
          unfold X_T_multiply_98
          simp (disch := omega) only [qe_rI_e, qe_rL_e, qe_rV_e, qe_rR_e, qe_b_e, n10F, nI_lt0, nI_e0T, nI_e0F, nI_ltT, nI_ltF, nI_eqT, nI_eqF, qm_in_nI, nI_clamp, nI_1, nI_add, pk_mul, if_true, if_false, eq_self, (fJ hJ).2]) 1000000 0 m (Nat.zero_le _) (by omega) hJ
      refine ⟨m1, ?_, ?_⟩
      · show J (i + 1) 0 m1
        obtain ⟨a, b⟩ := h1
        rw [sX_n] at a
        exact ⟨a, b⟩
      · show L_T_multiply_83 (f + 1) z o (nI i) m = _
        rw [le_T_multiply_83]
        unfold X_T_multiply_83
        simp (disch := omega) only [qe_rI_e, qe_rL_e, qe_rV_e, qe_rR_e, qe_b_e, n10F, nI_lt0, nI_e0T, nI_e0F, nI_ltT, nI_ltF, nI_eqT, nI_eqF, qm_in_nI, nI_clamp, nI_1, nI_add, pk_mul, if_true, if_false, eq_self, (fJ hJ).1]
        exact e) (fun f m hJ => by
      show L_T_multiply_83 (f + 1) z o (nI R) m = _
      rw [le_T_multiply_83]
      unfold X_T_multiply_83
      simp (disch := omega) only [qe_rI_e, qe_rL_e, qe_rV_e, qe_rR_e, qe_b_e, n10F, nI_lt0, nI_e0T, nI_e0F, nI_ltT, nI_ltF, nI_eqT, nI_eqF, qm_in_nI, nI_clamp, nI_1, nI_add, pk_mul, if_true, if_false, eq_self, (fJ hJ).1, (fJ hJ).2]) 1000000 0 m0 (Nat.zero_le _) (by omega) ⟨by rw [sX_0]; exact h, ho0, hz0, hi_fr.rf m0⟩
  exact ⟨m1, e, h1.1, h1.2.2.2⟩
/-! the model's -/
theorem mt_keptEntry {m : qm_M} {z i k : Nat} (hz : z < 2) (hi : i < 4) (hk : k < 4) : F_M_keptEntry (nI z) (nI i) (nI k) m = some (some (.long (m.2 115 (33 * z + 17 + 4 * i + k))), m) := by
  unfold F_M_keptEntry X_M_keptEntry_e
  simp (disch := omega) only [qe_rI_e, qe_rL_e, qe_rV_e, qe_rR_e, qe_b_e, n10F, nI_lt0, nI_e0T, nI_e0F, nI_ltT, nI_ltF, nI_eqT, nI_eqF, qm_in_nI, nI_clamp, nI_1, nI_add, pk_mul, if_true, if_false, eq_self, li33, li17, li4]
/-- the model's way: all entries, row by row -/
noncomputable def sY (P : sP) (R C : Nat) (T : gA) (q : Nat) : sP := fun j => if 17 ≤ j ∧ j < 17 + q then (if (j - 17) / 4 < R ∧ (j - 17) % 4 < C then bn (T ((j - 17) / 4) ((j - 17) % 4)) else 0) else P j
theorem mt_mul {m0 : qm_M} (hm : nt_ok 64 m0) {P Q : sP} {z R n C : Nat} (hz : z < 2) (h17 : m0.1 112 17 = nI R) (h18 : m0.1 112 18 = nI n) (hA : gM m0 R (gG P R n)) (hQ : ∀ k, k < 33 → m0.2 115 (33 * z + k) = Q k) (hP : ms_now m0 P) (hR : 0 < R ∧ R ≤ 4) (hn : 0 < n ∧ n ≤ 4) (hC : 0 < C ∧ C ≤ 4) :
    ∃ m1, L_M_multiply_70 1000000 (nI z) (nI C) 0 m0 = some (some (.int (nI (R * C))), m1) ∧ ms_now m1 (sS (sY P R C (gX (gG P R n) (gG Q n C) n) 16) 16 (lN C)) ∧ m1.1 = m0.1 ∧ ∀ a, a ≠ 113 → m1.2 a = m0.2 a := by
  generalize hT : gX (gG P R n) (gG Q n C) n = T
  let J : Nat → qm_M → Prop := fun q m => ms_now m (sY P R C T q) ∧ m.1 = m0.1 ∧ ∀ a, a ≠ 113 → m.2 a = m0.2 a
  have hgQ : ∀ j c, j < n → c < C → bn (gG Q n C j c) = Q (17 + (4 * j + c)) := fun j c hj hc => by
    unfold gG
    rw [if_pos ⟨hj, hc⟩]
    exact bn_nb _
  -- one entry
  have one : ∀ (K70 : Int32 → Int32 → Int32 → qm_M → Option qm_R) (K78 : Int32 → Int32 → Int32 → Int32 → qm_M → Option qm_R) (m : qm_M), m.1 = m0.1 → (∀ a, a ≠ 113 → m.2 a = m0.2 a) → ∀ r c, r < 4 → c < 4 →
      L_M_multiply_90 K70 K78 1000000 (nI z) (nI C) (nI r) (nI c) 0 0 m = L_M_multiply_148 K70 K78 (nI z) (nI C) (nI r) (nI c) (if r < R ∧ c < C then bn (T r c) else 0) m := by
    intro K70 K78 m q1 q2 r c hr hc
    have g17 : m.1 112 17 = nI R := by rw [q1]; exact h17
    have g18 : m.1 112 18 = nI n := by rw [q1]; exact h18
    by_cases hin : r < R ∧ c < C
    · rw [if_pos hin]
      have hm' : nt_ok 64 m := fun a b ha hb => by rw [q2 117 (by omega)]; exact hm a b ha hb
      obtain ⟨s', hs, e⟩ := lpU (fun f j (t : nb_F) => L_M_multiply_90 K70 K78 f (nI z) (nI C) (nI r) (nI c) (bn t) (nI j) m) n (fun j t => t = xs j (fun j => nb_mul (gG P R n r j) (gG Q n C j c))) (fun t => L_M_multiply_148 K70 K78 (nI z) (nI C) (nI r) (nI c) (bn t) m) (fun f j t hj ht => ⟨t ^^^ nb_mul (gG P R n r j) (gG Q n C j c), by rw [xs_s, ht], by
          show L_M_multiply_90 K70 K78 (f + 1) (nI z) (nI C) (nI r) (nI c) (bn t) (nI j) m = _
          rw [le_M_multiply_90]
          unfold X_M_multiply_90
          have c1 : r < R := hin.1
          have c2 : c < C := hin.2
          have e1 : m.2 127 (8 * r + j) = bn (gG P R n r j) := by rw [q2 127 (by omega)]; exact hA r j c1 (by omega)
          have e2 : m.2 115 (33 * z + 17 + 4 * j + c) = bn (gG Q n C j c) := by rw [q2 115 (by omega), show 33 * z + 17 + 4 * j + c = 33 * z + (17 + (4 * j + c)) by omega, hQ _ (by omega), hgQ j c hj c2]
          simp (disch := omega) only [qe_rI_e, qe_rL_e, qe_rV_e, qe_rR_e, qe_b_e, n10F, nI_lt0, nI_e0T, nI_e0F, nI_ltT, nI_ltF, nI_eqT, nI_eqF, qm_in_nI, nI_clamp, nI_1, nI_add, pk_mul, if_true, if_false, eq_self, g17, g18, mt_cellAt, nI_8, mt_keptEntry hz (show j < 4 by omega) hc, e1, e2, mt_product hm', nb_bn]
          rfl⟩) (fun f t ht => by
          show L_M_multiply_90 K70 K78 (f + 1) (nI z) (nI C) (nI r) (nI c) (bn t) (nI n) m = _
          rw [le_M_multiply_90]
          unfold X_M_multiply_90
          simp (disch := omega) only [qe_rI_e, qe_rL_e, qe_rV_e, qe_rR_e, qe_b_e, n10F, nI_lt0, nI_e0T, nI_e0F, nI_ltT, nI_ltF, nI_eqT, nI_eqF, qm_in_nI, nI_clamp, nI_1, nI_add, pk_mul, if_true, if_false, eq_self, g18]) 1000000 0 0 (Nat.zero_le _) (by omega) rfl
      refine Eq.trans e ?_
      rw [hs, ← hT]
      rfl
    · rw [if_neg hin, show (1000000 : Nat) = 999999 + 1 from rfl, le_M_multiply_90]
      unfold X_M_multiply_90
      rw [g18, g17]
      by_cases c1 : r < R
      · simp (disch := omega) only [qe_rI_e, qe_rL_e, qe_rV_e, qe_rR_e, qe_b_e, n10F, nI_lt0, nI_e0T, nI_e0F, nI_ltT, nI_ltF, nI_eqT, nI_eqF, qm_in_nI, nI_clamp, nI_1, nI_add, pk_mul, if_true, if_false, eq_self, li0]
      · simp (disch := omega) only [qe_rI_e, qe_rL_e, qe_rV_e, qe_rR_e, qe_b_e, n10F, nI_lt0, nI_e0T, nI_e0F, nI_ltT, nI_ltF, nI_eqT, nI_eqF, qm_in_nI, nI_clamp, nI_1, nI_add, pk_mul, if_true, if_false, eq_self, li0]
  obtain ⟨m1, h1, e⟩ := lpU (fun f r m => L_M_multiply_70 f (nI z) (nI C) (nI r) m) 4 (fun r m => J (4 * r) m) (fun m => some (some (.int (nI (R * C))), qm_sL m 113 16 (lN C))) (fun f r m hr hJ => by
      obtain ⟨m1, h1, e⟩ := lpU (fun f2 c m => L_M_multiply_78 (L_M_multiply_70 f) f2 (nI z) (nI C) (nI r) (nI c) m) 4 (fun c m => J (4 * r + c) m) (fun m => L_M_multiply_70 f (nI z) (nI C) (nI (r + 1)) m) (fun f2 c m hc hJ => by
          refine ⟨qm_sL m 113 (17 + 4 * r + c) (if r < R ∧ c < C then bn (T r c) else 0), ⟨fun j hj => ?_, hJ.2.1, fun a ha => by rw [(qm_sL_other a ha).2]; exact hJ.2.2 a ha⟩, ?_⟩
          · rw [me_2L, if_pos rfl, hJ.1 j hj]
            unfold sY
            by_cases q : j = 17 + 4 * r + c
            · rw [if_pos q, if_pos (show 17 ≤ j ∧ j < 17 + (4 * r + (c + 1)) by omega), show (j - 17) / 4 = r by omega, show (j - 17) % 4 = c by omega]
            · rw [if_neg q]
              by_cases y : 17 ≤ j ∧ j < 17 + (4 * r + c)
              · rw [if_pos y, if_pos (show 17 ≤ j ∧ j < 17 + (4 * r + (c + 1)) by omega)]
              · rw [if_neg y, if_neg (show ¬ (17 ≤ j ∧ j < 17 + (4 * r + (c + 1))) by omega)]
          · show L_M_multiply_78 (L_M_multiply_70 f) (f2 + 1) (nI z) (nI C) (nI r) (nI c) m = _
            rw [le_M_multiply_78]
            unfold X_M_multiply_78
            have ho := one (L_M_multiply_70 f) (L_M_multiply_78 (L_M_multiply_70 f) f2) m hJ.2.1 hJ.2.2 r c hr hc
            have ec4 : nI c < (4 : Int32) := nI_lt (a := c) (b := 4) hc (by omega)
            rw [if_pos ec4]
            refine Eq.trans ho ?_
            unfold L_M_multiply_148 X_M_multiply_148
            simp (disch := omega) only [qe_rI_e, qe_rL_e, qe_rV_e, qe_rR_e, qe_b_e, n10F, nI_lt0, nI_e0T, nI_e0F, nI_ltT, nI_ltF, nI_eqT, nI_eqF, qm_in_nI, nI_clamp, nI_1, nI_add, pk_mul, if_true, if_false, eq_self, li17, li4]) (fun f2 m hJ => by
          show L_M_multiply_78 (L_M_multiply_70 f) (f2 + 1) (nI z) (nI C) (nI r) (nI 4) m = _
          rw [le_M_multiply_78]
          unfold X_M_multiply_78
          simp (disch := omega) only [qe_rI_e, qe_rL_e, qe_rV_e, qe_rR_e, qe_b_e, n10F, nI_lt0, nI_e0T, nI_e0F, nI_ltT, nI_ltF, nI_eqT, nI_eqF, qm_in_nI, nI_clamp, nI_1, nI_add, pk_mul, if_true, if_false, eq_self, li4]) 1000000 0 m (Nat.zero_le _) (by omega) hJ
      refine ⟨m1, h1, ?_⟩
      show L_M_multiply_70 (f + 1) (nI z) (nI C) (nI r) m = _
      rw [le_M_multiply_70]
      unfold X_M_multiply_70
      have er4 : nI r < (4 : Int32) := nI_lt (a := r) (b := 4) hr (by omega)
      rw [if_pos er4]
      exact e) (fun f m hJ => by
      show L_M_multiply_70 (f + 1) (nI z) (nI C) (nI 4) m = _
      rw [le_M_multiply_70]
      unfold X_M_multiply_70
      have e44 : ¬ nI 4 < (4 : Int32) := nI_nlt (a := 4) (b := 4) (by omega) (by omega)
      rw [if_neg e44]
      dsimp only
      rw [nI_l (by omega)]
      have g17 : m.1 112 17 = nI R := by rw [hJ.2.1]; exact h17
      simp (disch := omega) only [qe_rI_e, qe_rL_e, qe_rV_e, qe_rR_e, qe_b_e, n10F, nI_lt0, nI_e0T, nI_e0F, nI_ltT, nI_ltF, nI_eqT, nI_eqF, qm_in_nI, nI_clamp, nI_1, nI_add, pk_mul, if_true, if_false, eq_self, me_1L, g17]) 1000000 0 m0 (Nat.zero_le _) (by omega) ⟨fun j hj => by unfold sY; rw [if_neg (by omega)]; exact hP j hj, rfl, fun _ _ => rfl⟩
  refine ⟨qm_sL m1 113 16 (lN C), e, fun j hj => ?_, h1.2.1, fun a ha => by rw [(qm_sL_other a ha).2]; exact h1.2.2 a ha⟩
  rw [me_2L, if_pos rfl, h1.1 j hj]
  rfl
/-- both ways are one -/
theorem sX_sY {P : sP} {R C : Nat} (T : gA) (p0 : P 15 = lN R) {j : Nat} (hj : j < 33) : sX P R C T R 0 j = sS (sY P R C T 16) 16 (lN C) j := by
  by_cases h16 : j = 16
  · subst h16
    exact (sX_g P R C T R 0).2
  · rw [show sS (sY P R C T 16) 16 (lN C) j = sY P R C T 16 j from if_neg h16]
    unfold sX sY
    by_cases h17 : 17 ≤ j
    · rw [if_pos (show 17 ≤ j ∧ j < 17 + 16 by omega)]
      by_cases q : (j - 17) / 4 < R ∧ (j - 17) % 4 < C
      · rw [if_pos q, if_pos (show 17 ≤ j ∧ j < 33 ∧ (j - 17) % 4 < C ∧ ((j - 17) / 4 < R ∨ (j - 17) / 4 = R ∧ (j - 17) % 4 < 0) by omega)]
      · rw [if_neg q, if_neg (show ¬ (17 ≤ j ∧ j < 33 ∧ (j - 17) % 4 < C ∧ ((j - 17) / 4 < R ∨ (j - 17) / 4 = R ∧ (j - 17) % 4 < 0)) by omega)]
        unfold sG
        rw [if_neg (show ¬ j = 15 by omega), if_neg h16, if_pos h17]
    · rw [if_neg (show ¬ (17 ≤ j ∧ j < 33 ∧ (j - 17) % 4 < C ∧ ((j - 17) / 4 < R ∨ (j - 17) / 4 = R ∧ (j - 17) % 4 < 0)) by omega), if_neg (show ¬ (17 ≤ j ∧ j < 17 + 16) by omega)]
      unfold sG
      by_cases h15 : j = 15
      · rw [if_pos h15, h15, p0]
      · rw [if_neg h15, if_neg h16, if_neg h17]
theorem st_past_new (P : sP) {h : Nat × (Nat → sP)} (hd : h.1 ≤ 10) : 0 < (st_past P h).1 ∧ (st_past P h).1 ≤ 10 ∧ (st_past P h).2 ((st_past P h).1 - 1) = P := by
  unfold st_past
  by_cases q : h.1 < 10
  · rw [if_pos q]
    refine ⟨by show 0 < h.1 + 1; omega, by show h.1 + 1 ≤ 10; omega, ?_⟩
    show (if h.1 + 1 - 1 = h.1 then P else h.2 (h.1 + 1 - 1)) = P
    rw [if_pos (by omega)]
  · rw [if_neg q]
    refine ⟨by show 0 < 10; omega, by show 10 ≤ 10; omega, ?_⟩
    show (if 10 - 1 = 9 then P else h.2 (10 - 1 + 1)) = P
    rw [if_pos (by omega)]
theorem w_multiply (v : Int32) : act2 (F_T_multiply v) (F_M_multiply v) := by
  intro mc mm s hc hm g
  obtain ⟨r0, c0, k1, k2, l1, l2, R, n, h1, h2, h3⟩ := id g.1
  have p0 := h2.2.2.2.2.2.2.1
  have p1 := h2.2.2.2.2.2.2.2
  unfold F_T_multiply X_T_multiply_e F_M_multiply X_M_multiply_e
  rcases nw_shelf v with ⟨z, hz, rfl⟩ | hv
  · obtain ⟨z1, z2, z3⟩ := po_shelf hz
    obtain ⟨⟨fo, -, -, -⟩, -, -⟩ := po_f z1
    obtain ⟨c5, c6⟩ := hc.2.2.1 z hz
    obtain ⟨d5, d6⟩ := hm.2.2.2.1 z hz
    have f9 : mc.1 1 9 = nI n := cs_g hc (k := 1) (by omega) p1
    rw [nu_hasShelf1 hz, mt_isShelf1 hz]
    by_cases q : s.2.2.1.1 z = true
    · obtain ⟨rz0, cz0, kz1, kz2, lz1, lz2, R2, C, hz_1, hz_2, hz_3⟩ := g.2.2.2.1 z hz q
      have q0 := hz_2.2.2.2.2.2.2.1
      have q1 := hz_2.2.2.2.2.2.2.2
      rw [if_pos q] at c5 d5
      have f8 : mc.1 (37 + 3 * z) 8 = nI R2 := px_g (k := 0) (by omega) ((c6 q 15 (by omega)).trans q0)
      have m16 : mm.2 113 16 = lN n := (hm.2.1 16 (by omega)).trans p1
      have m15 : mm.2 115 (33 * z + 15) = lN R2 := (d6 q 15 (by omega)).trans q0
      simp (disch := omega) only [qe_rI_e, qe_rL_e, qe_rV_e, qe_rR_e, qe_b_e, n10F, nI_lt0, nI_e0T, nI_e0F, nI_ltT, nI_ltF, nI_eqT, nI_eqF, qm_in_nI, nI_clamp, nI_1, nI_add, pk_mul, if_true, if_false, eq_self, z3, fo, c5, d5, f9, f8, m16, m15, li33, li15]
      by_cases e : n = R2
      · subst e
        rw [if_pos rfl, if_pos ((lN_cmpE (by omega) (by omega)).mpr rfl)]
        have hR : 0 < R ∧ R ≤ 4 := by omega
        have hn : 0 < n ∧ n ≤ 4 := by omega
        have hC : 0 < C ∧ C ≤ 4 := by omega
        obtain ⟨mc1, a1, a2, a3⟩ := nu_push hc g.2.1
        obtain ⟨y1, y2, y3⟩ := st_past_new s.1 g.2.1
        obtain ⟨o, o1, o2, o3, o4, o5, o6⟩ := nu_last a2 y1 y2
        have o7 : ∀ k, k < 33 → px_c mc1 o k = s.1 k := fun k hk => by rw [o6 k hk]; exact congrFun y3 k
        obtain ⟨⟨fo2, -, -, -⟩, -, -⟩ := po_f o1
        have c7 := (a2.2.2.1 z hz).2 q
        have g8 : mc1.1 o 8 = nI R := px_g (k := 0) (by omega) ((o7 15 (by omega)).trans p0)
        have g9 : mc1.1 (37 + 3 * z) 9 = nI C := px_g (k := 1) (by omega) ((c7 16 (by omega)).trans q1)
        obtain ⟨mc2, b1, b2, b3, b4⟩ := nu_clearGrid2 a2 (r := R) (c := C) (by omega) (by omega)
        obtain ⟨mc3, u1, u2, u3⟩ := nu_mul83 (m0 := mc2) o1 z1 o2 z2 (P := s.1) (Q := s.2.2.1.2 z) (B := s.1) p0 p1 q0 q1 hR hn hC _ b2 (fun k hk => by rw [b4.c po_1 o1 o2 k]; exact o7 k hk) (fun k hk => by rw [b4.c po_1 z1 z2 k]; exact c7 k hk)
        obtain ⟨mm1, t1, t2, t3, t4, t5⟩ := mt_laysForm hm.2.1 p0 p1 hR hn
        have hm1 := t5.ms hm
        obtain ⟨mm2, v1, v2, v3, v4⟩ := mt_keepsAct hm1 g.2.1
        have h17' : mm2.1 112 17 = nI R := by rw [v3, me_1I, if_pos rfl, if_neg (by decide)]; exact t3
        have h18' : mm2.1 112 18 = nI n := by rw [v3, me_1I, if_pos rfl, if_neg (by decide)]; exact t4
        obtain ⟨mm3, w1, w2, w3, w4⟩ := mt_mul v2.1.1 (P := s.1) (Q := s.2.2.1.2 z) hz h17' h18' (fun r c hr hc => by rw [v4 127 (by omega)]; exact t2 r c hr hc) (fun k hk => (v2.2.2.2.1 z hz).2 q k hk) v2.2.1 hR hn hC
        have m16' : mm1.2 115 (33 * z + 15 + 1) = lN C := by rw [show 33 * z + 15 + 1 = 33 * z + 16 by omega]; exact ((hm1.2.2.2.1 z hz).2 q 16 (by omega)).trans q1
        simp (disch := omega) only [qe_rI_e, qe_rL_e, qe_rV_e, qe_rR_e, qe_b_e, n10F, nI_lt0, nI_e0T, nI_e0F, nI_ltT, nI_ltF, nI_eqT, nI_eqF, qm_in_nI, nI_clamp, nI_1, nI_add, pk_mul, if_true, if_false, eq_self, a1, o5, fo2, g8, g9, b1, t1, m16', lN_i, v1]
        rw [u1, w1]
        exact ⟨_, st_act s (sX s.1 R C (gX (gG s.1 R n) (gG (s.2.2.1.2 z) n C) n) R 0), mc3, mm3, rfl, rfl, u2, v2.now w3 w4 (fun j hj => (w2 j hj).trans (sX_sY _ p0 hj).symm), g.act (g.1.mul (by omega) (by omega) _ _ _), (a3.tr b3).tr u3, (t5.lo.tr (mt_keepsAct_lo v3 v4)).tr ⟨fun a _ => by rw [w3], fun a ha => w4 a (by omega)⟩⟩
      · rw [if_neg (fun y => e ((nI_eq (by omega) (by omega)).mp y)), if_neg (fun y => e ((lN_cmpE (by omega) (by omega)).mp y))]
        exact act2.no hc hm g rfl rfl
    · rw [if_neg q] at c5 d5
      simp (disch := omega) only [qe_rI_e, qe_rL_e, qe_rV_e, qe_rR_e, qe_b_e, n10F, nI_lt0, nI_e0T, nI_e0F, nI_ltT, nI_ltF, nI_eqT, nI_eqF, qm_in_nI, nI_clamp, nI_1, nI_add, pk_mul, if_true, if_false, eq_self, z3, fo, c5, d5]
      exact act2.no hc hm g rfl rfl
  · rw [nu_hasShelf0 hv, mt_isShelf0 hv]
    exact act2.no hc hm g rfl rfl
