/-! grids as rows of numbers: both load them -/
def gG (P : sP) (R C : Nat) : gA := fun r c => if r < R ∧ c < C then nb (P (17 + (4 * r + c))) else 0
theorem gG_z {P : sP} {R C : Nat} (r c : Nat) (h : C ≤ c) : gG P R C r c = 0 := by
  unfold gG
  rw [if_neg (by omega)]
theorem nu_entryAtG {m : qm_M} {s : sT} (h : cs m s) {R C : Nat} (e0 : s.1 15 = lN R) (e1 : s.1 16 = lN C) (hR : 0 < R ∧ R ≤ 4) (hC : 0 < C ∧ C ≤ 4) {r c : Nat} (hr : r < 4) (hc : c < 8) : F_Ps_entryAt 1 (nI r) (nI c) m = some (some (.long (bn (gG s.1 R C r c))), m) := by
  rcases nu_hasEntry h e0 e1 hR hC (nI r) (nI c) with ⟨i, j, hi, hj, z1, z2, e⟩ | ⟨e, q⟩
  · have ei : r = i := (nI_eq (by omega) (by omega)).mp z1
    have ej : c = j := (nI_eq (by omega) (by omega)).mp z2
    subst ei
    subst ej
    rw [nu_entryAt1 h (by omega) (by omega) e]
    unfold gG
    rw [if_pos ⟨hi, hj⟩]
    rfl
  · have hno : ¬ (r < R ∧ c < C) := fun z => by
      rcases q with q | ⟨q, -⟩
      · rcases q with q | q
        · exact nI_nlt (a := r) (b := 0) (by omega) (by omega) q
        · exact nI_nlt (a := R - 1) (b := r) (by omega) (by omega) q
      · rcases q with q | q
        · exact nI_nlt (a := c) (b := 0) (by omega) (by omega) q
        · exact nI_nlt (a := C - 1) (b := c) (by omega) (by omega) q
    obtain ⟨⟨fa, -, -, -⟩, -, -⟩ := po_f po_1
    unfold F_Ps_entryAt X_Ps_entryAt_e gG
    rw [fa, qe_b_e, e, qe_rI_e, if_pos rfl, if_neg hno]
    rfl
theorem nu_load9 {s : sT} {R C : Nat} (e0 : s.1 15 = lN R) (e1 : s.1 16 = lN C) (hR : 0 < R ∧ R ≤ 4) (hC : 0 < C ∧ C ≤ 4) (K : Int32 → qm_M → Option qm_R) {r : Nat} (hr : r < 4) {m0 : qm_M} (h0 : cs m0 s) (d : Nat) : ∀ (f k : Nat) (m : qm_M), 8 - k = d → k ≤ 8 → d < f → cQ m0 m → (∀ i, i < 8 * r + k → m.2 68 i = bn (gG s.1 R C (i / 8) (i % 8))) → ∃ m1, L_St_load_9 K f (nI r) (nI k) m = K (nI (r + 1)) m1 ∧ cQ m0 m1 ∧ ∀ i, i < 8 * (r + 1) → m1.2 68 i = bn (gG s.1 R C (i / 8) (i % 8)) := by
  induction d with
  | zero =>
    intro f k m h1 h2 h3 g h
    obtain ⟨f, rfl⟩ : ∃ g, f = g + 1 := ⟨f - 1, by omega⟩
    have e : k = 8 := by omega
    subst e
    refine ⟨m, ?_, g, fun i hi => h i (by omega)⟩
    show X_St_load_9 _ _ _ _ _ _ = _
    unfold X_St_load_9
    rw [if_neg (by decide), nI_1]
  | succ d ih =>
    intro f k m h1 h2 h3 g h
    obtain ⟨f, rfl⟩ : ∃ g, f = g + 1 := ⟨f - 1, by omega⟩
    have hcs : cs m s := h0.fr (fun a _ => by rw [g.1]) (fun a ha => g.2 a (by omega))
    obtain ⟨m1, r1, r2⟩ := ih f (k + 1) (qm_sL m 68 (8 * r + k) (bn (gG s.1 R C r k))) (by omega) (by omega) (by omega) (g.tr (cQ.st _ _ _)) (fun i hi => by
      rw [me_2L, if_pos rfl]
      by_cases q : i = 8 * r + k
      · rw [if_pos q, show i / 8 = r by omega, show i % 8 = k by omega]
      · rw [if_neg q]; exact h i (by omega))
    refine ⟨m1, ?_, r2⟩
    show X_St_load_9 _ _ _ _ _ _ = _
    unfold X_St_load_9
    have e1' : nI k < (8 : Int32) := nI_lt (a := k) (b := 8) (by omega) (by omega)
    rw [if_pos e1', nu_entryAtG hcs e0 e1 hR hC hr (by omega), qe_rL_e, nI_8, qm_in_nI (by omega) (by omega), nI_clamp (by omega), qe_b_e, nI_1]
    exact r1
theorem nu_load2 {s : sT} {R C : Nat} (e0 : s.1 15 = lN R) (e1 : s.1 16 = lN C) (hR : 0 < R ∧ R ≤ 4) (hC : 0 < C ∧ C ≤ 4) {m0 : qm_M} (h0 : cs m0 s) (d : Nat) : ∀ (f r : Nat) (m : qm_M), 4 - r = d → r ≤ 4 → d < f → cQ m0 m → (∀ i, i < 8 * r → m.2 68 i = bn (gG s.1 R C (i / 8) (i % 8))) → ∃ m1, L_St_load_2 f (nI r) m = some (none, m1) ∧ cQ m0 m1 ∧ ∀ i, i < 32 → m1.2 68 i = bn (gG s.1 R C (i / 8) (i % 8)) := by
  induction d with
  | zero =>
    intro f r m h1 h2 h3 g h
    obtain ⟨f, rfl⟩ : ∃ g, f = g + 1 := ⟨f - 1, by omega⟩
    have e : r = 4 := by omega
    subst e
    refine ⟨m, ?_, g, h⟩
    show X_St_load_2 _ _ _ _ = _
    unfold X_St_load_2
    rw [if_neg (by decide)]
  | succ d ih =>
    intro f r m h1 h2 h3 g h
    obtain ⟨f, rfl⟩ : ∃ g, f = g + 1 := ⟨f - 1, by omega⟩
    obtain ⟨m1, r1, r2, r3⟩ := nu_load9 e0 e1 hR hC (L_St_load_2 f) (r := r) (by omega) h0 8 1000000 0 m rfl (by omega) (by omega) g h
    obtain ⟨m2, b1, b2⟩ := ih f (r + 1) m1 (by omega) (by omega) (by omega) r2 r3
    refine ⟨m2, ?_, b2⟩
    show X_St_load_2 _ (L_St_load_9 (L_St_load_2 f) 1000000) _ _ = _
    unfold X_St_load_2
    have e1' : nI r < (4 : Int32) := nI_lt (a := r) (b := 4) (by omega) (by omega)
    rw [if_pos e1']
    exact r1.trans b1
theorem nu_load {m : qm_M} {s : sT} (h : cs m s) {R C : Nat} (e0 : s.1 15 = lN R) (e1 : s.1 16 = lN C) (hR : 0 < R ∧ R ≤ 4) (hC : 0 < C ∧ C ≤ 4) : ∃ m1, F_St_load m = some (none, m1) ∧ cQ m m1 ∧ cM m1 4 (gG s.1 R C) := by
  unfold F_St_load X_St_load_e
  obtain ⟨m1, r1, r2, r3⟩ := nu_load2 e0 e1 hR hC h 4 1000000 0 m rfl (by omega) (by omega) (cQ.rf m) (fun i hi => absurd hi (Nat.not_lt_zero _))
  refine ⟨m1, r1, r2, fun r c hr hc => ?_⟩
  rw [r3 _ (by omega), show (8 * r + c) / 8 = r by omega, show (8 * r + c) % 8 = c by omega]
theorem cM.le {m : qm_M} {R Q : Nat} {A : gA} (h : cM m Q A) (hR : R ≤ Q) : cM m R A := fun r c hr hc => h r c (by omega) hc
/-- the class's step form -/
theorem nu_reduceGrid {m : qm_M} {s : sT} (h : cs m s) {R C : Nat} (e0 : s.1 15 = lN R) (e1 : s.1 16 = lN C) (hR : 0 < R ∧ R ≤ 4) (hC : 0 < C ∧ C ≤ 4) : ∃ m1, F_St_reduceGrid m = some (none, m1) ∧ cMS m1 R (gs_run R (gG s.1 R C) C) ∧ cF m m1 := by
  unfold F_St_reduceGrid X_St_reduceGrid_e
  obtain ⟨m1, a1, a2, a3⟩ := nu_load h e0 e1 hR hC
  have f0 : m1.1 1 8 = nI R := by rw [a2.1]; exact cs_g h (k := 0) (by omega) e0
  have f1 : m1.1 1 9 = nI C := by rw [a2.1]; exact cs_g h (k := 1) (by omega) e1
  obtain ⟨m2, b1, b2, b3⟩ := nu_reduce hR.2 (Nat.le_refl C) (by omega) (a3.le hR.2) (fun r c _ hc => gG_z r c hc)
  rw [a1, qe_rV_e, f0, f1, b1, qe_rV_e]
  exact ⟨m2, rfl, b2, (show cF m m1 from ⟨fun a _ _ => by rw [a2.1], fun a _ z => a2.2 a z⟩).tr b3⟩
/-! the model -/
theorem mt_form36 {P : sP} {R C : Nat} (hC : 0 < C ∧ C ≤ 4) (K : Int32 → qm_M → Option qm_R) {r : Nat} (hr : r < R) (hR : R ≤ 4) {m0 : qm_M} (h0 : ms_now m0 P) (h18 : m0.1 112 18 = nI C) (d : Nat) : ∀ (f k : Nat) (m : qm_M), 8 - k = d → k ≤ 8 → d < f → gQ m0 m → (∀ i, i < 8 * r + k → m.2 127 i = bn (gG P R C (i / 8) (i % 8))) → ∃ m1, L_M_laysForm_36 K f (nI r) (nI k) m = K (nI (r + 1)) m1 ∧ gQ m0 m1 ∧ ∀ i, i < 8 * (r + 1) → m1.2 127 i = bn (gG P R C (i / 8) (i % 8)) := by
  induction d with
  | zero =>
    intro f k m h1 h2 h3 g h
    obtain ⟨f, rfl⟩ : ∃ g, f = g + 1 := ⟨f - 1, by omega⟩
    have e : k = 8 := by omega
    subst e
    refine ⟨m, ?_, g, fun i hi => h i (by omega)⟩
    show X_M_laysForm_36 _ _ _ _ _ _ _ = _
    unfold X_M_laysForm_36
    rw [if_neg (by decide), nI_1]
  | succ d ih =>
    intro f k m h1 h2 h3 g h
    obtain ⟨f, rfl⟩ : ∃ g, f = g + 1 := ⟨f - 1, by omega⟩
    obtain ⟨m1, r1, r2⟩ := ih f (k + 1) (qm_sL m 127 (8 * r + k) (bn (gG P R C r k))) (by omega) (by omega) (by omega) (g.tr (gQ.st _ _ _)) (fun i hi => by
      rw [me_2L, if_pos rfl]
      by_cases q : i = 8 * r + k
      · rw [if_pos q, show i / 8 = r by omega, show i % 8 = k by omega]
      · rw [if_neg q]; exact h i (by omega))
    refine ⟨m1, ?_, r2⟩
    show X_M_laysForm_36 _ _ _ _ _ _ _ = _
    unfold X_M_laysForm_36
    have e1' : nI k < (8 : Int32) := nI_lt (a := k) (b := 8) (by omega) (by omega)
    have hn : ms_now m P := fun j hj => by rw [g.2 113 (by omega)]; exact h0 j hj
    rw [if_pos e1', mt_cellAt, qe_rI_e, g.1, h18]
    unfold gG at r1
    by_cases q : k < C
    · rw [if_pos ⟨hr, q⟩] at r1
      rw [if_pos (nI_lt q (by omega)), mt_entryOf hn (by omega) (by omega), qe_rL_e, qm_in_nI (by omega) (by omega), nI_clamp (by omega), qe_b_e, nI_1]
      exact r1
    · rw [if_neg (by omega)] at r1
      rw [if_neg (nI_nlt (by omega) (by omega)), qm_in_nI (by omega) (by omega), nI_clamp (by omega), qe_b_e, nI_1]
      exact r1
theorem mt_form26 {P : sP} {R C : Nat} (hR : 0 < R ∧ R ≤ 4) (hC : 0 < C ∧ C ≤ 4) {m0 : qm_M} (h0 : ms_now m0 P) (h17 : m0.1 112 17 = nI R) (h18 : m0.1 112 18 = nI C) (d : Nat) : ∀ (f r : Nat) (m : qm_M), R - r = d → r ≤ R → d < f → gQ m0 m → (∀ i, i < 8 * r → m.2 127 i = bn (gG P R C (i / 8) (i % 8))) → ∃ m1, L_M_laysForm_26 f (nI r) m = some (none, m1) ∧ gQ m0 m1 ∧ ∀ i, i < 8 * R → m1.2 127 i = bn (gG P R C (i / 8) (i % 8)) := by
  induction d with
  | zero =>
    intro f r m h1 h2 h3 g h
    obtain ⟨f, rfl⟩ : ∃ g, f = g + 1 := ⟨f - 1, by omega⟩
    have e : r = R := by omega
    subst e
    refine ⟨m, ?_, g, h⟩
    show X_M_laysForm_26 _ _ _ _ _ = _
    unfold X_M_laysForm_26
    rw [g.1, h17, if_neg (nI_nlt (Nat.le_refl _) (by omega))]
  | succ d ih =>
    intro f r m h1 h2 h3 g h
    obtain ⟨f, rfl⟩ : ∃ g, f = g + 1 := ⟨f - 1, by omega⟩
    obtain ⟨m1, r1, r2, r3⟩ := mt_form36 hC (L_M_laysForm_26 f) (r := r) (by omega) hR.2 h0 h18 8 1000000 0 m rfl (by omega) (by omega) g h
    obtain ⟨m2, b1, b2⟩ := ih f (r + 1) m1 (by omega) (by omega) (by omega) r2 r3
    refine ⟨m2, ?_, b2⟩
    show X_M_laysForm_26 _ _ (L_M_laysForm_36 (L_M_laysForm_26 f) 1000000) _ _ = _
    unfold X_M_laysForm_26
    rw [g.1, h17, if_pos (nI_lt (by omega) (by omega))]
    exact r1.trans b1
/-- the form laid: sizes, cells -/
def gFm (m m1 : qm_M) : Prop := (∀ a, a ≠ 112 → a ≠ 128 → m1.1 a = m.1 a) ∧ (∀ i, i ≠ 17 → i ≠ 18 → i ≠ 21 → m1.1 112 i = m.1 112 i) ∧ (∀ a, a ≠ 112 → a ≠ 127 → m1.2 a = m.2 a)
theorem gFm.tr {m m1 m2 : qm_M} (h : gFm m m1) (g : gFm m1 m2) : gFm m m2 := ⟨fun a q r => (g.1 a q r).trans (h.1 a q r), fun i a b c => (g.2.1 i a b c).trans (h.2.1 i a b c), fun a q r => (g.2.2 a q r).trans (h.2.2 a q r)⟩
theorem gF.m {m m1 : qm_M} (g : gF m m1) : gFm m m1 := ⟨g.1, g.2.1, g.2.2.1⟩
theorem gFm.ms {m m1 : qm_M} {s : sT} (g : gFm m m1) (h : ms m s) : ms m1 s := h.fr (g.2.1 2 (by omega) (by omega) (by omega)) (g.2.1 24 (by omega) (by omega) (by omega)) (g.1 116 (by omega) (by omega)) (g.1 129 (by omega) (by omega)) (fun a h1 h2 => g.2.2 a (by omega) (by omega))
theorem gFm.lo {m m1 : qm_M} (g : gFm m m1) : lo_fr m m1 := ⟨fun a q => g.1 a (by omega) (by omega), fun a q => g.2.2 a (by omega) (by omega)⟩
theorem mt_laysForm {m : qm_M} {P : sP} (h : ms_now m P) {R C : Nat} (e0 : P 15 = lN R) (e1 : P 16 = lN C) (hR : 0 < R ∧ R ≤ 4) (hC : 0 < C ∧ C ≤ 4) : ∃ m1, F_M_laysForm m = some (none, m1) ∧ gM m1 R (gG P R C) ∧ m1.1 112 17 = nI R ∧ m1.1 112 18 = nI C ∧ gFm m m1 := by
  unfold F_M_laysForm X_M_laysForm_e
  rw [h 15 (by omega), e0, lN_i]
  dsimp only
  rw [me_2I, h 16 (by omega), e1, lN_i]
  have h17 : (qm_sI (qm_sI m 112 17 (nI R)) 112 18 (nI C)).1 112 17 = nI R := by rw [me_1I, if_pos rfl, if_neg (by decide), me_1I, if_pos rfl, if_pos rfl]
  have h18 : (qm_sI (qm_sI m 112 17 (nI R)) 112 18 (nI C)).1 112 18 = nI C := by rw [me_1I, if_pos rfl, if_pos rfl]
  obtain ⟨m1, r1, r2, r3⟩ := mt_form26 (m0 := qm_sI (qm_sI m 112 17 (nI R)) 112 18 (nI C)) hR hC (P := P) (fun j hj => h j hj) h17 h18 R 1000000 0 _ rfl (Nat.zero_le _) (by omega) (gQ.rf _) (fun i hi => absurd hi (Nat.not_lt_zero _))
  refine ⟨m1, r1, fun r c hr hc => ?_, by rw [r2.1]; exact h17, by rw [r2.1]; exact h18, ⟨fun a z1 z2 => ?_, fun i z1 z2 z3 => ?_, fun a z1 z2 => ?_⟩⟩
  · rw [r3 _ (by omega), show (8 * r + c) / 8 = r by omega, show (8 * r + c) % 8 = c by omega]
  · rw [r2.1, (qm_sI_other a z1).1, (qm_sI_other a z1).1]
  · rw [r2.1, me_1I, if_pos rfl, if_neg z2, me_1I, if_pos rfl, if_neg z1]
  · rw [r2.2 a z2, me_2I, me_2I]
theorem mt_laysStepForm {m : qm_M} {s : sT} (h : ms m s) {R C : Nat} (e0 : s.1 15 = lN R) (e1 : s.1 16 = lN C) (hR : 0 < R ∧ R ≤ 4) (hC : 0 < C ∧ C ≤ 4) : ∃ m1, F_M_laysStepForm m = some (none, m1) ∧ gMS m1 R (gs_run R (gG s.1 R C) C) ∧ m1.1 112 18 = nI C ∧ ms m1 s ∧ lo_fr m m1 := by
  unfold F_M_laysStepForm X_M_laysStepForm_e
  obtain ⟨m1, a1, a2, a3, a4, a5⟩ := mt_laysForm h.2.1 e0 e1 hR hC
  have hm1 := a5.ms h
  obtain ⟨m2, b1, b2, b3⟩ := mt_clears (N := C) hm1.1.1 hR.2 (by omega) a2 a3
  rw [a1, qe_rV_e, a4, b1, qe_rV_e]
  exact ⟨m2, rfl, b2, by rw [b3.2.2.2]; exact a4, b3.m.ms hm1, a5.lo.tr b3.m.lo⟩
