/-! step forms: the model's -/
def gM (m : qm_M) (R : Nat) (A : gA) : Prop := ∀ r c, r < R → c < 8 → m.2 127 (8 * r + c) = bn (A r c)
/-- columns below k are new -/
def gMk (m : qm_M) (R k : Nat) (B A : gA) : Prop := ∀ r c, r < R → c < 8 → m.2 127 (8 * r + c) = bn (if c < k then B r c else A r c)
theorem gMk.z {m : qm_M} {R : Nat} {B A : gA} (h : gM m R A) : gMk m R 0 B A := fun r c hr hc => by rw [if_neg (by omega)]; exact h r c hr hc
theorem gMk.e {m : qm_M} {R : Nat} {B A : gA} (h : gMk m R 8 B A) : gM m R B := fun r c hr hc => by have := h r c hr hc; rwa [if_pos hc] at this
/-- only the form changes -/
def gQ (m m1 : qm_M) : Prop := m1.1 = m.1 ∧ ∀ a, a ≠ 127 → m1.2 a = m.2 a
theorem gQ.rf (m : qm_M) : gQ m m := ⟨rfl, fun _ _ => rfl⟩
theorem gQ.tr {m m1 m2 : qm_M} (h : gQ m m1) (g : gQ m1 m2) : gQ m m2 := ⟨g.1.trans h.1, fun a q => (g.2 a q).trans (h.2 a q)⟩
theorem gQ.st (m : qm_M) (j : Nat) (x : Int64) : gQ m (qm_sL m 127 j x) := ⟨rfl, fun a q => (qm_sL_other a q).2⟩
theorem gQ.nt {m m1 : qm_M} (g : gQ m m1) (h : nt_ok 64 m) : nt_ok 64 m1 := fun a b ha hb => by rw [g.2 117 (by omega)]; exact h a b ha hb
theorem nI_8 (i j : Nat) : (8 : Int32) * nI i + nI j = nI (8 * i + j) := by
  have e : (8 : Int32) * nI i = nI (8 * i) := pk_mul 8 i
  rw [e, nI_add]
theorem mt_cellAt (i j : Nat) (m : qm_M) : F_M_cellAt (nI i) (nI j) m = some (some (.int (nI (8 * i + j))), m) := by
  unfold F_M_cellAt X_M_cellAt_e
  rw [nI_8]
theorem mt_swaps_loop {m0 : qm_M} {R p q : Nat} (hR : R ≤ 4) (hp : p < R) (hq : q < R) (A : gA) (d : Nat) : ∀ (f k : Nat) (m : qm_M), 8 - k = d → k ≤ 8 → d < f → gMk m R k (gs_swap A p q) A → gQ m0 m → ∃ m1, L_M_swaps_2 f (nI p) (nI q) (nI k) m = some (none, m1) ∧ gM m1 R (gs_swap A p q) ∧ gQ m0 m1 := by
  induction d with
  | zero =>
    intro f k m h1 h2 h3 h g
    obtain ⟨f, rfl⟩ : ∃ g, f = g + 1 := ⟨f - 1, by omega⟩
    have e : k = 8 := by omega
    subst e
    refine ⟨m, ?_, h.e, g⟩
    show X_M_swaps_2 _ _ _ _ _ _ = _
    unfold X_M_swaps_2
    rw [if_neg (by decide)]
  | succ d ih =>
    intro f k m h1 h2 h3 h g
    obtain ⟨f, rfl⟩ : ∃ g, f = g + 1 := ⟨f - 1, by omega⟩
    have hk : k < 8 := by omega
    have ep := h p k hp hk
    have eq := h q k hq hk
    rw [if_neg (by omega)] at ep eq
    obtain ⟨m1, r1, r2⟩ := ih f (k + 1) (qm_sL (qm_sL m 127 (8 * p + k) (bn (A q k))) 127 (8 * q + k) (bn (A p k))) (by omega) (by omega) (by omega) (fun r c hr hc => by
      rw [me_2L, if_pos rfl, me_2L, if_pos rfl, h r c hr hc]
      unfold gs_swap
      by_cases e : c = k
      · subst e
        rw [if_pos (show c < c + 1 by omega), if_neg (show ¬ c < c by omega)]
        by_cases z1 : r = q
        · rw [if_pos (by omega)]
          by_cases z2 : r = p
          · rw [if_pos z2, ← z2, z1]
          · rw [if_neg z2, if_pos z1]
        · rw [if_neg (by omega)]
          by_cases z2 : r = p
          · rw [if_pos (by omega), if_pos z2]
          · rw [if_neg (by omega), if_neg z2, if_neg z1]
      · rw [if_neg (by omega), if_neg (by omega)]
        by_cases y : c < k
        · rw [if_pos y, if_pos (show c < k + 1 by omega)]
        · rw [if_neg y, if_neg (show ¬ c < k + 1 by omega)]) ((g.tr (gQ.st _ _ _)).tr (gQ.st _ _ _))
    refine ⟨m1, ?_, r2⟩
    show X_M_swaps_2 _ _ _ _ _ _ = _
    unfold X_M_swaps_2
    have e1 : nI k < (8 : Int32) := nI_lt (a := k) (b := 8) hk (by omega)
    rw [if_pos e1]
    simp only [mt_cellAt, qe_rI_e]
    rw [qm_in_nI (show 8 * p + k < 32 by omega) (by omega), qm_in_nI (show 8 * q + k < 32 by omega) (by omega), nI_clamp (show 8 * p + k < 2 ^ 31 by omega), nI_clamp (show 8 * q + k < 2 ^ 31 by omega), ep, eq, nI_1]
    exact r1
theorem mt_swaps {m : qm_M} {R p q : Nat} (hR : R ≤ 4) (hp : p < R) (hq : q < R) {A : gA} (h : gM m R A) : ∃ m1, F_M_swaps (nI p) (nI q) m = some (none, m1) ∧ gM m1 R (gs_swap A p q) ∧ gQ m m1 := by
  unfold F_M_swaps X_M_swaps_e
  exact mt_swaps_loop hR hp hq A 8 1000000 0 m rfl (by omega) (by omega) (gMk.z h) (gQ.rf m)
theorem mt_divides_loop {m0 : qm_M} (hm : nt_ok 64 m0) {R p : Nat} (hR : R ≤ 4) (hp : p < R) (A : gA) (y : nb_F) (d : Nat) : ∀ (f k : Nat) (m : qm_M), 8 - k = d → k ≤ 8 → d < f → gMk m R k (gs_scale A p y) A → gQ m0 m → ∃ m1, L_M_divides_10 f (nI p) (bn y) (nI k) m = some (none, m1) ∧ gM m1 R (gs_scale A p y) ∧ gQ m0 m1 := by
  induction d with
  | zero =>
    intro f k m h1 h2 h3 h g
    obtain ⟨f, rfl⟩ : ∃ g, f = g + 1 := ⟨f - 1, by omega⟩
    have e : k = 8 := by omega
    subst e
    refine ⟨m, ?_, h.e, g⟩
    show X_M_divides_10 _ _ _ _ _ _ _ _ = _
    unfold X_M_divides_10
    rw [if_neg (by decide)]
  | succ d ih =>
    intro f k m h1 h2 h3 h g
    obtain ⟨f, rfl⟩ : ∃ g, f = g + 1 := ⟨f - 1, by omega⟩
    have hk : k < 8 := by omega
    have ep := h p k hp hk
    rw [if_neg (by omega)] at ep
    obtain ⟨m1, r1, r2⟩ := ih f (k + 1) (qm_sL m 127 (8 * p + k) (bn (nb_mul y (A p k)))) (by omega) (by omega) (by omega) (fun r c hr hc => by
      rw [me_2L, if_pos rfl, h r c hr hc]
      unfold gs_scale
      by_cases e : c = k
      · subst e
        rw [if_pos (show c < c + 1 by omega), if_neg (show ¬ c < c by omega)]
        by_cases z2 : r = p
        · rw [if_pos (by omega), if_pos z2]
        · rw [if_neg (by omega), if_neg z2]
      · rw [if_neg (by omega)]
        by_cases y : c < k
        · rw [if_pos y, if_pos (show c < k + 1 by omega)]
        · rw [if_neg y, if_neg (show ¬ c < k + 1 by omega)]) (g.tr (gQ.st _ _ _))
    refine ⟨m1, ?_, r2⟩
    show X_M_divides_10 _ _ _ _ _ _ _ _ = _
    unfold X_M_divides_10
    have e1 : nI k < (8 : Int32) := nI_lt (a := k) (b := 8) hk (by omega)
    rw [if_pos e1]
    simp only [mt_cellAt, qe_rI_e]
    rw [qm_in_nI (show 8 * p + k < 32 by omega) (by omega), nI_clamp (show 8 * p + k < 2 ^ 31 by omega), ep, qe_b_e, mt_product (g.nt hm), nb_bn, nb_bn, qe_rL_e, qe_b_e, nI_1]
    exact r1
theorem mt_divides {m : qm_M} (hm : nt_ok 64 m) {R p : Nat} (hR : R ≤ 4) (hp : p < R) {A : gA} (y : nb_F) (h : gM m R A) : ∃ m1, F_M_divides (nI p) (bn y) m = some (none, m1) ∧ gM m1 R (gs_scale A p (nb_inv y)) ∧ gQ m m1 := by
  unfold F_M_divides X_M_divides_e
  rw [mt_inverseOf hm, qe_rL_e, nb_bn]
  exact mt_divides_loop hm hR hp A (nb_inv y) 8 1000000 0 m rfl (by omega) (by omega) (gMk.z h) (gQ.rf m)
theorem mt_adds_loop {m0 : qm_M} (hm : nt_ok 64 m0) {R o p : Nat} (hR : R ≤ 4) (ho : o < R) (hp : p < R) (hop : o ≠ p) (A : gA) (y : nb_F) (d : Nat) : ∀ (f k : Nat) (m : qm_M), 8 - k = d → k ≤ 8 → d < f → gMk m R k (gs_add A o p y) A → gQ m0 m → ∃ m1, L_M_adds_3 f (nI o) (nI p) (bn y) (nI k) m = some (none, m1) ∧ gM m1 R (gs_add A o p y) ∧ gQ m0 m1 := by
  induction d with
  | zero =>
    intro f k m h1 h2 h3 h g
    obtain ⟨f, rfl⟩ : ∃ g, f = g + 1 := ⟨f - 1, by omega⟩
    have e : k = 8 := by omega
    subst e
    refine ⟨m, ?_, h.e, g⟩
    show X_M_adds_3 _ _ _ _ _ _ _ _ = _
    unfold X_M_adds_3
    rw [if_neg (by decide)]
  | succ d ih =>
    intro f k m h1 h2 h3 h g
    obtain ⟨f, rfl⟩ : ∃ g, f = g + 1 := ⟨f - 1, by omega⟩
    have hk : k < 8 := by omega
    have eo := h o k ho hk
    have ep := h p k hp hk
    rw [if_neg (by omega)] at eo ep
    obtain ⟨m1, r1, r2⟩ := ih f (k + 1) (qm_sL m 127 (8 * o + k) (bn (A o k ^^^ nb_mul y (A p k)))) (by omega) (by omega) (by omega) (fun r c hr hc => by
      rw [me_2L, if_pos rfl, h r c hr hc]
      unfold gs_add
      by_cases e : c = k
      · subst e
        rw [if_pos (show c < c + 1 by omega), if_neg (show ¬ c < c by omega)]
        by_cases z2 : r = o
        · rw [if_pos (by omega), if_pos z2]
        · rw [if_neg (by omega), if_neg z2]
      · rw [if_neg (by omega)]
        by_cases y : c < k
        · rw [if_pos y, if_pos (show c < k + 1 by omega)]
        · rw [if_neg y, if_neg (show ¬ c < k + 1 by omega)]) (g.tr (gQ.st _ _ _))
    refine ⟨m1, ?_, r2⟩
    show X_M_adds_3 _ _ _ _ _ _ _ _ = _
    unfold X_M_adds_3
    have e1 : nI k < (8 : Int32) := nI_lt (a := k) (b := 8) hk (by omega)
    rw [if_pos e1]
    simp only [mt_cellAt, qe_rI_e]
    rw [qm_in_nI (show 8 * o + k < 32 by omega) (by omega), qm_in_nI (show 8 * p + k < 32 by omega) (by omega), nI_clamp (show 8 * o + k < 2 ^ 31 by omega), nI_clamp (show 8 * p + k < 2 ^ 31 by omega), ep, eo, qe_b_e, qe_b_e, mt_product (g.nt hm), nb_bn, nb_bn, qe_rL_e, qe_b_e, bn_xor, nI_1]
    exact r1
theorem mt_adds {m : qm_M} (hm : nt_ok 64 m) {R o p : Nat} (hR : R ≤ 4) (ho : o < R) (hp : p < R) (hop : o ≠ p) {A : gA} (y : nb_F) (h : gM m R A) : ∃ m1, F_M_adds (nI o) (nI p) (bn y) m = some (none, m1) ∧ gM m1 R (gs_add A o p y) ∧ gQ m m1 := by
  unfold F_M_adds X_M_adds_e
  exact mt_adds_loop hm hR ho hp hop A y 8 1000000 0 m rfl (by omega) (by omega) (gMk.z h) (gQ.rf m)
