/-! step forms: the class's -/
def cM (m : qm_M) (R : Nat) (A : gA) : Prop := ∀ r c, r < R → c < 8 → m.2 68 (8 * r + c) = bn (A r c)
def cMk (m : qm_M) (R k : Nat) (B A : gA) : Prop := ∀ r c, r < R → c < 8 → m.2 68 (8 * r + c) = bn (if c < k then B r c else A r c)
theorem cMk.z {m : qm_M} {R : Nat} {B A : gA} (h : cM m R A) : cMk m R 0 B A := fun r c hr hc => by rw [if_neg (by omega)]; exact h r c hr hc
/-- from a column on nothing changes any more -/
theorem cMk.w {m : qm_M} {R k : Nat} {B A : gA} (h : cMk m R k B A) (e : ∀ r c, r < R → k ≤ c → B r c = A r c) : cM m R B := fun r c hr hc => by
  have h1 := h r c hr hc
  by_cases q : c < k
  · rwa [if_pos q] at h1
  · rw [if_neg q] at h1
    rw [h1, e r c hr (by omega)]
theorem cMk.f {m : qm_M} {R k : Nat} {B A : gA} (h : cM m R A) (e : ∀ r c, r < R → c < k → B r c = A r c) : cMk m R k B A := fun r c hr hc => by
  by_cases q : c < k
  · rw [if_pos q, e r c hr q]; exact h r c hr hc
  · rw [if_neg q]; exact h r c hr hc
def cQ (m m1 : qm_M) : Prop := m1.1 = m.1 ∧ ∀ a, a ≠ 68 → m1.2 a = m.2 a
theorem cQ.rf (m : qm_M) : cQ m m := ⟨rfl, fun _ _ => rfl⟩
theorem cQ.tr {m m1 m2 : qm_M} (h : cQ m m1) (g : cQ m1 m2) : cQ m m2 := ⟨g.1.trans h.1, fun a q => (g.2 a q).trans (h.2 a q)⟩
theorem cQ.st (m : qm_M) (j : Nat) (x : Int64) : cQ m (qm_sL m 68 j x) := ⟨rfl, fun a q => (qm_sL_other a q).2⟩
theorem nu_swap_loop {m0 : qm_M} {R p q W : Nat} (hR : R ≤ 4) (hp : p < R) (hq : q < R) (hW : W ≤ 8) (A : gA) (d : Nat) : ∀ (f k : Nat) (m : qm_M), W - k = d → k ≤ W → d < f → cMk m R k (gs_swap A p q) A → cQ m0 m → ∃ m1, L_St_swap_3 f (nI p) (nI q) (nI W) (nI k) m = some (none, m1) ∧ cMk m1 R W (gs_swap A p q) A ∧ cQ m0 m1 := by
  induction d with
  | zero =>
    intro f k m h1 h2 h3 h g
    obtain ⟨f, rfl⟩ : ∃ g, f = g + 1 := ⟨f - 1, by omega⟩
    have e : k = W := by omega
    subst e
    refine ⟨m, ?_, h, g⟩
    show X_St_swap_3 _ _ _ _ _ _ = _
    unfold X_St_swap_3
    rw [if_neg (nI_nlt (Nat.le_refl _) (by omega))]
  | succ d ih =>
    intro f k m h1 h2 h3 h g
    obtain ⟨f, rfl⟩ : ∃ g, f = g + 1 := ⟨f - 1, by omega⟩
    have hk : k < 8 := by omega
    have ep := h p k hp hk
    have eq := h q k hq hk
    rw [if_neg (by omega)] at ep eq
    obtain ⟨m1, r1, r2⟩ := ih f (k + 1) (qm_sL (qm_sL m 68 (8 * p + k) (bn (A q k))) 68 (8 * q + k) (bn (A p k))) (by omega) (by omega) (by omega) (fun r c hr hc => by
      rw [me_2L, if_pos rfl, me_2L, if_pos rfl, h r c hr hc]
      unfold gs_swap
      by_cases e : c = k
      · subst e
        rw [if_pos (show c < c + 1 by omega), if_neg (show ¬ c < c by omega)]
        by_cases z1 : r = q
        · rw [if_pos (by omega)]
          by_cases z2 : r = p
          · rw [if_pos z2, ← z2, z1]
          · rw [if_neg z2, if_pos z1]
        · rw [if_neg (by omega)]
          by_cases z2 : r = p
          · rw [if_pos (by omega), if_pos z2]
          · rw [if_neg (by omega), if_neg z2, if_neg z1]
      · rw [if_neg (by omega), if_neg (by omega)]
        by_cases y : c < k
        · rw [if_pos y, if_pos (show c < k + 1 by omega)]
        · rw [if_neg y, if_neg (show ¬ c < k + 1 by omega)]) ((g.tr (cQ.st _ _ _)).tr (cQ.st _ _ _))
    refine ⟨m1, ?_, r2⟩
    show X_St_swap_3 _ _ _ _ _ _ = _
    unfold X_St_swap_3
    rw [if_pos (nI_lt (by omega) (by omega)), nI_8, nI_8, qm_in_nI (show 8 * p + k < 32 by omega) (by omega), qm_in_nI (show 8 * q + k < 32 by omega) (by omega), nI_clamp (show 8 * p + k < 2 ^ 31 by omega), nI_clamp (show 8 * q + k < 2 ^ 31 by omega), ep, eq, nI_1]
    exact r1
theorem nu_swap {m : qm_M} {R p q W : Nat} (hR : R ≤ 4) (hp : p < R) (hq : q < R) (hW : W ≤ 8) {A : gA} (hz : ∀ r c, r < R → W ≤ c → A r c = 0) (h : cM m R A) : ∃ m1, F_St_swap (nI p) (nI q) (nI W) m = some (none, m1) ∧ cM m1 R (gs_swap A p q) ∧ cQ m m1 := by
  unfold F_St_swap X_St_swap_e
  obtain ⟨m1, a1, a2, a3⟩ := nu_swap_loop hR hp hq hW A W 1000000 0 m rfl (Nat.zero_le _) (by omega) (cMk.z h) (cQ.rf m)
  refine ⟨m1, a1, a2.w (fun r c hr hc => ?_), a3⟩
  unfold gs_swap
  by_cases z2 : r = p
  · rw [if_pos z2, hz q c hq hc, hz r c hr hc]
  · rw [if_neg z2]
    by_cases z1 : r = q
    · rw [if_pos z1, hz p c hp hc, hz r c hr hc]
    · rw [if_neg z1]
theorem nu_lead_loop {m0 : qm_M} {R p W : Nat} (hR : R ≤ 4) (hp : p < R) (hW : W ≤ 8) (h67 : m0.1 67 2 = nI p) (A : gA) (y : nb_F) (d : Nat) : ∀ (f k : Nat) (m : qm_M), W - k = d → k ≤ W → d < f → cMk m R k (gs_scale A p y) A → cQ m0 m → ∃ m1, L_St_lead_36 f (nI W) (bn y) (nI k) m = some (none, m1) ∧ cMk m1 R W (gs_scale A p y) A ∧ cQ m0 m1 := by
  induction d with
  | zero =>
    intro f k m h1 h2 h3 h g
    obtain ⟨f, rfl⟩ : ∃ g, f = g + 1 := ⟨f - 1, by omega⟩
    have e : k = W := by omega
    subst e
    refine ⟨m, ?_, h, g⟩
    show X_St_lead_36 _ _ _ _ _ _ _ = _
    unfold X_St_lead_36
    rw [if_neg (nI_nlt (Nat.le_refl _) (by omega))]
  | succ d ih =>
    intro f k m h1 h2 h3 h g
    obtain ⟨f, rfl⟩ : ∃ g, f = g + 1 := ⟨f - 1, by omega⟩
    have hk : k < 8 := by omega
    have ep := h p k hp hk
    rw [if_neg (by omega)] at ep
    obtain ⟨m1, r1, r2⟩ := ih f (k + 1) (qm_sL m 68 (8 * p + k) (bn (nb_mul (A p k) y))) (by omega) (by omega) (by omega) (fun r c hr hc => by
      rw [me_2L, if_pos rfl, h r c hr hc]
      unfold gs_scale
      by_cases e : c = k
      · subst e
        rw [if_pos (show c < c + 1 by omega), if_neg (show ¬ c < c by omega)]
        by_cases z2 : r = p
        · rw [if_pos (by omega), if_pos z2, nb_comm]
        · rw [if_neg (by omega), if_neg z2]
      · rw [if_neg (by omega)]
        by_cases y : c < k
        · rw [if_pos y, if_pos (show c < k + 1 by omega)]
        · rw [if_neg y, if_neg (show ¬ c < k + 1 by omega)]) (g.tr (cQ.st _ _ _))
    refine ⟨m1, ?_, r2⟩
    have st : L_St_lead_36 (f + 1) (nI W) (bn y) (nI k) m = X_St_lead_36 F_Nu_inverted F_Nu_product (L_St_lead_36 f) (nI W) (bn y) (nI k) m := rfl
    rw [st]
    unfold X_St_lead_36
    rw [if_pos (nI_lt (by omega) (by omega)), g.1, h67, nI_8, qm_in_nI (by omega) (by omega), nI_clamp (by omega), qe_b_e, ep, nu_product, nb_bn, nb_bn, qe_rL_e]
    dsimp only
    rw [qe_b_e, nI_1]
    exact r1
theorem nu_clr26 {m0 : qm_M} {R o p W : Nat} (hR : R ≤ 4) (ho : o < R) (hp : p < R) (hop : o ≠ p) (hW : W ≤ 8) (h67 : m0.1 67 2 = nI p) (A : gA) (y : nb_F) (K : Int32 → Int32 → Int32 → Int32 → qm_M → Option qm_R) (v1 v2 : Int32) (d : Nat) : ∀ (f k : Nat) (m : qm_M), W - k = d → k ≤ W → d < f → cMk m R k (gs_add A o p y) A → cQ m0 m → ∃ m1, L_St_clearOthers_26 K f v1 v2 (nI W) (nI o) (bn y) (nI k) m = K v1 v2 (nI W) (nI (o + 1)) m1 ∧ cMk m1 R W (gs_add A o p y) A ∧ cQ m0 m1 := by
  have nop : ¬ nI o = nI p := fun z => hop ((nI_eq (by omega) (by omega)).mp z)
  induction d with
  | zero =>
    intro f k m h1 h2 h3 h g
    obtain ⟨f, rfl⟩ : ∃ g, f = g + 1 := ⟨f - 1, by omega⟩
    have e : k = W := by omega
    subst e
    refine ⟨m, ?_, h, g⟩
    show X_St_clearOthers_26 _ _ _ _ _ _ _ _ _ _ = _
    unfold X_St_clearOthers_26
    rw [g.1, h67, if_neg nop, if_neg (nI_nlt (Nat.le_refl _) (by omega)), nI_1]
  | succ d ih =>
    intro f k m h1 h2 h3 h g
    obtain ⟨f, rfl⟩ : ∃ g, f = g + 1 := ⟨f - 1, by omega⟩
    have hk : k < 8 := by omega
    have eo := h o k ho hk
    have ep := h p k hp hk
    rw [if_neg (by omega)] at eo ep
    obtain ⟨m1, r1, r2⟩ := ih f (k + 1) (qm_sL m 68 (8 * o + k) (bn (A o k ^^^ nb_mul y (A p k)))) (by omega) (by omega) (by omega) (fun r c hr hc => by
      rw [me_2L, if_pos rfl, h r c hr hc]
      unfold gs_add
      by_cases e : c = k
      · subst e
        rw [if_pos (show c < c + 1 by omega), if_neg (show ¬ c < c by omega)]
        by_cases z2 : r = o
        · rw [if_pos (by omega), if_pos z2]
        · rw [if_neg (by omega), if_neg z2]
      · rw [if_neg (by omega)]
        by_cases y : c < k
        · rw [if_pos y, if_pos (show c < k + 1 by omega)]
        · rw [if_neg y, if_neg (show ¬ c < k + 1 by omega)]) (g.tr (cQ.st _ _ _))
    refine ⟨m1, ?_, r2⟩
    have st : L_St_clearOthers_26 K (f + 1) v1 v2 (nI W) (nI o) (bn y) (nI k) m = X_St_clearOthers_26 F_Nu_product K (L_St_clearOthers_26 K f) v1 v2 (nI W) (nI o) (bn y) (nI k) m := rfl
    rw [st]
    unfold X_St_clearOthers_26
    rw [g.1, h67, if_neg nop, if_pos (nI_lt (by omega) (by omega)), nI_8, nI_8, qm_in_nI (show 8 * o + k < 32 by omega) (by omega), qm_in_nI (show 8 * p + k < 32 by omega) (by omega), nI_clamp (show 8 * o + k < 2 ^ 31 by omega), nI_clamp (show 8 * p + k < 2 ^ 31 by omega), qe_b_e, qe_b_e, ep, eo, nu_product, nb_bn, nb_bn, qe_rL_e, qe_b_e, bn_xor, nI_1]
    exact r1
/-- only the cells, the first ones, what goes with them change -/
def cF (m m1 : qm_M) : Prop := (∀ a, a ≠ 67 → a ≠ 69 → m1.1 a = m.1 a) ∧ ∀ a, a ≠ 67 → a ≠ 68 → m1.2 a = m.2 a
theorem cF.rf (m : qm_M) : cF m m := ⟨fun _ _ _ => rfl, fun _ _ _ => rfl⟩
theorem cF.tr {m m1 m2 : qm_M} (h : cF m m1) (g : cF m1 m2) : cF m m2 := ⟨fun a q r => (g.1 a q r).trans (h.1 a q r), fun a q r => (g.2 a q r).trans (h.2 a q r)⟩
theorem nu_lead {m : qm_M} {R p W col : Nat} (hR : R ≤ 4) (hp : p < R) (hW : W ≤ 8) (hc : col < W) (h67 : m.1 67 2 = nI p) {A : gA} {v : nb_F} (hv : m.2 67 3 = bn v) (hl : ∀ c, c < col → A p c = 0) (hz : ∀ c, W ≤ c → A p c = 0) (h : cM m R A) : ∃ m1, F_St_lead (nI col) (nI W) m = some (none, m1) ∧ cM m1 R (gs_scale A p (nb_inv (A p col))) ∧ m1.1 = m.1 ∧ m1.2 67 3 = bn (nb_mul v (A p col)) ∧ ∀ a, a ≠ 67 → a ≠ 68 → m1.2 a = m.2 a := by
  unfold F_St_lead X_St_lead_e
  have hq : cM (qm_sL m 67 3 (bn (nb_mul v (A p col)))) R A := fun r c hr hc => by rw [me_2L, if_neg (by decide)]; exact h r c hr hc
  obtain ⟨m1, a1, a2, a3⟩ := nu_lead_loop (m0 := qm_sL m 67 3 (bn (nb_mul v (A p col)))) hR hp hW h67 A (nb_inv (A p col)) (W - col) 1000000 col _ rfl (by omega) (by omega) (cMk.f hq (fun r c hr hc => by
    unfold gs_scale
    by_cases z : r = p
    · rw [if_pos z, hl c hc, nb_mul_0, z, hl c hc]
    · rw [if_neg z])) (cQ.rf _)
  rw [h67, nI_8, qm_in_nI (by omega) (by omega), nI_clamp (by omega), qe_b_e, h p col hp (by omega)]
  dsimp only
  rw [nu_inverted, nb_bn, qe_rL_e, hv, nu_product, nb_bn, nb_bn, qe_rL_e]
  refine ⟨m1, a1, a2.w (fun r c hr hc => ?_), a3.1, ?_, fun a z1 z2 => ?_⟩
  · unfold gs_scale
    by_cases z : r = p
    · rw [if_pos z, hz c hc, nb_mul_0, z, hz c hc]
    · rw [if_neg z]
  · rw [a3.2 67 (by omega), me_2L, if_pos rfl, if_pos rfl]
  · rw [a3.2 a z2, (qm_sL_other a z1).2]
theorem nu_clr_loop {m0 : qm_M} {R p W col : Nat} (hR : R ≤ 4) (hp : p < R) (hW : W ≤ 8) (hc : col < W) (h67 : m0.1 67 2 = nI p) {B : gA} (hl : ∀ c, c < col → B p c = 0) (hz : ∀ c, W ≤ c → B p c = 0) (d : Nat) : ∀ (f n : Nat) (m : qm_M), R - n = d → n ≤ R → d < f → cM m R (gs_clear B p col n) → cQ m0 m → ∃ m1, L_St_clearOthers_3 f (nI col) (nI R) (nI W) (nI n) m = some (none, m1) ∧ cM m1 R (gs_clear B p col R) ∧ cQ m0 m1 := by
  induction d with
  | zero =>
    intro f n m h1 h2 h3 h g
    obtain ⟨f, rfl⟩ : ∃ g, f = g + 1 := ⟨f - 1, by omega⟩
    have e : n = R := by omega
    subst e
    refine ⟨m, ?_, h, g⟩
    show X_St_clearOthers_3 _ _ _ _ _ _ _ = _
    unfold X_St_clearOthers_3
    rw [if_neg (nI_nlt (Nat.le_refl _) (by omega))]
  | succ d ih =>
    intro f n m h1 h2 h3 h g
    obtain ⟨f, rfl⟩ : ∃ g, f = g + 1 := ⟨f - 1, by omega⟩
    have hn : n < R := by omega
    have ec : gs_clear B p col (n + 1) = if n = p then gs_clear B p col n else gs_add (gs_clear B p col n) n p (gs_clear B p col n n col) := rfl
    have st : L_St_clearOthers_3 (f + 1) (nI col) (nI R) (nI W) (nI n) m = X_St_clearOthers_3 F_Nu_product (L_St_clearOthers_26 (L_St_clearOthers_3 f) (999999 + 1)) (nI col) (nI R) (nI W) (nI n) m := rfl
    rw [st]
    unfold X_St_clearOthers_3
    rw [if_pos (nI_lt hn (by omega)), nI_8, qm_in_nI (by omega) (by omega), nI_clamp (by omega), qe_b_e, h n col hn (by omega)]
    dsimp only
    by_cases q : n = p
    · rw [if_pos q] at ec
      have s2 : L_St_clearOthers_26 (L_St_clearOthers_3 f) (999999 + 1) (nI col) (nI R) (nI W) (nI n) (bn (gs_clear B p col n n col)) (nI col) m = X_St_clearOthers_26 F_Nu_product (L_St_clearOthers_3 f) (L_St_clearOthers_26 (L_St_clearOthers_3 f) 999999) (nI col) (nI R) (nI W) (nI n) (bn (gs_clear B p col n n col)) (nI col) m := rfl
      rw [s2]
      unfold X_St_clearOthers_26
      rw [g.1, h67, if_pos (by rw [q]), nI_1]
      exact ih f (n + 1) m (by omega) (by omega) (by omega) (by rw [ec]; exact h) g
    · rw [if_neg q] at ec
      have hzp : ∀ c, (c < col ∨ W ≤ c) → gs_clear B p col n p c = 0 := fun c hc => by
        rw [gs_clear_p]
        rcases hc with z | z
        · exact hl c z
        · exact hz c z
      obtain ⟨m1, a1, a2, a3⟩ := nu_clr26 hR hn hp q hW (by rw [g.1]; exact h67) (gs_clear B p col n) (gs_clear B p col n n col) (L_St_clearOthers_3 f) (nI col) (nI R) (W - col) (999999 + 1) col m rfl (by omega) (by omega) (cMk.f h (fun r c hr hc => by
        unfold gs_add
        by_cases z : r = n
        · rw [if_pos z, hzp c (Or.inl hc), nb_mul_0, nb_x0, z]
        · rw [if_neg z])) (cQ.rf m)
      rw [a1]
      exact ih f (n + 1) m1 (by omega) (by omega) (by omega) (by
        rw [ec]
        exact a2.w (fun r c hr hc => by
          unfold gs_add
          by_cases z : r = n
          · rw [if_pos z, hzp c (Or.inr hc), nb_mul_0, nb_x0, z]
          · rw [if_neg z])) (g.tr a3)
theorem nu_first {m : qm_M} {R : Nat} (hR : R ≤ 4) {A : gA} (hA : cM m R A) {col : Nat} (hc : col < 8) : ∀ (d f p : Nat), R - p = d → p ≤ R → d < f → L_St_firstWith_5 f (nI col) (nI R) (nI p) m = some (some (.int (nI (gs_fst A R col d p))), m) := by
  intro d
  induction d with
  | zero =>
    intro f p h1 h2 h3
    obtain ⟨f, rfl⟩ : ∃ g, f = g + 1 := ⟨f - 1, by omega⟩
    show X_St_firstWith_5 _ _ _ _ _ = _
    unfold X_St_firstWith_5
    rw [if_neg (nI_nlt (by omega) (by omega))]
    rfl
  | succ d ih =>
    intro f p h1 h2 h3
    obtain ⟨f, rfl⟩ : ∃ g, f = g + 1 := ⟨f - 1, by omega⟩
    have hp : p < R := by omega
    show X_St_firstWith_5 _ _ _ _ _ = _
    unfold X_St_firstWith_5
    have e : gs_fst A R col (d + 1) p = if p < R then (if A p col = 0 then gs_fst A R col d (p + 1) else p) else p := rfl
    rw [e, if_pos hp, if_pos (nI_lt hp (by omega)), nI_8, qm_in_nI (by omega) (by omega), nI_clamp (by omega), qe_b_e, hA p col hp hc, nI_1]
    by_cases q : A p col = 0
    · rw [if_pos ((no_zB _).mpr q), if_pos q]
      exact ih f (p + 1) (by omega) (by omega) (by omega)
    · rw [if_neg (fun z => q ((no_zB _).mp z)), if_neg q]
def cMS (m : qm_M) (R : Nat) (t : gT) : Prop := cM m R t.1 ∧ m.1 67 2 = nI t.2.1 ∧ m.2 67 3 = bn t.2.2.1 ∧ ∀ i, i < t.2.1 → m.1 69 i = nI (t.2.2.2 i)
theorem nu_reduce_loop {m0 : qm_M} {R N W : Nat} (hR : R ≤ 4) (hN : N ≤ W) (hW : W ≤ 8) (A : gA) (d : Nat) : ∀ (f col : Nat) (m : qm_M), N - col = d → col ≤ N → d < f → cMS m R (gs_run R A col) → gz R W col (gs_run R A col) → cF m0 m → ∃ m1, L_St_reduce_13 f (nI R) (nI N) (nI W) (nI col) m = some (none, m1) ∧ cMS m1 R (gs_run R A N) ∧ cF m0 m1 := by
  induction d with
  | zero =>
    intro f col m h1 h2 h3 h z g
    obtain ⟨f, rfl⟩ : ∃ g, f = g + 1 := ⟨f - 1, by omega⟩
    have e : col = N := by omega
    subst e
    refine ⟨m, ?_, h, g⟩
    show X_St_reduce_13 _ _ _ _ _ _ _ _ _ _ = _
    unfold X_St_reduce_13
    rw [if_neg (nI_nlt (Nat.le_refl _) (by omega))]
  | succ d ih =>
    intro f col m h1 h2 h3 h z g
    obtain ⟨f, rfl⟩ : ∃ g, f = g + 1 := ⟨f - 1, by omega⟩
    have hc : col < N := by omega
    have st : L_St_reduce_13 (f + 1) (nI R) (nI N) (nI W) (nI col) m = X_St_reduce_13 F_St_firstWith F_St_swap F_St_lead F_St_clearOthers (L_St_reduce_13 f) (nI R) (nI N) (nI W) (nI col) m := rfl
    rw [st]
    unfold X_St_reduce_13
    obtain ⟨hA, h67, hv, h69⟩ := id h
    obtain ⟨z0, z1, z2, z3⟩ := id z
    have zn := z.step
    rw [if_pos (nI_lt hc (by omega)), h67]
    by_cases q : (gs_run R A col).2.1 < R
    · have hs : gs_run R A (col + 1) = gs_col R col (gs_run R A col) := rfl
      have ih2 := fun m1 => ih f (col + 1) m1 (by omega) (by omega) (by omega)
      rw [hs] at ih2
      have hF : F_St_firstWith (nI col) (nI R) m = some (some (.int (nI (gs_fst (gs_run R A col).1 R col (R - (gs_run R A col).2.1) (gs_run R A col).2.1))), m) := by
        unfold F_St_firstWith X_St_firstWith_e
        rw [h67]
        exact nu_first hR hA (by omega) (R - (gs_run R A col).2.1) 1000000 (gs_run R A col).2.1 rfl (by omega) (by omega)
      have hge := gs_fst_ge (gs_run R A col).1 R col (R - (gs_run R A col).2.1) (gs_run R A col).2.1
      have hle := gs_fst_le (gs_run R A col).1 R col (R - (gs_run R A col).2.1) (gs_run R A col).2.1 (by omega)
      rw [if_pos (nI_lt q (by omega)), hF, qe_rI_e]
      unfold gs_col at ih2 zn
      generalize gs_run R A col = t at h hA h67 hv h69 z0 z1 z2 z3 q ih2 zn hge hle ⊢
      generalize gs_fst t.1 R col (R - t.2.1) t.2.1 = p at hge hle ih2 zn ⊢
      by_cases qp : p < R
      · rw [if_pos (And.intro q qp)] at ih2 zn
        obtain ⟨m1, a1, a2, a3⟩ := nu_swap hR qp q hW z3 hA
        have esw : ∀ c, gs_swap t.1 p t.2.1 t.2.1 c = t.1 p c := fun c => by
          unfold gs_swap
          by_cases e : t.2.1 = p
          · rw [if_pos e, e]
          · rw [if_neg e, if_pos rfl]
        obtain ⟨m2, b1, b2, b3, b4, b5⟩ := nu_lead (col := col) hR q hW (by omega) (by rw [a3.1]; exact h67) (v := t.2.2.1) (by rw [a3.2 67 (by omega)]; exact hv) (fun c hc => by rw [esw, z2 p c hge qp hc]) (fun c hc => by rw [esw, z3 p c qp hc]) a2
        rw [esw] at b2 b4
        obtain ⟨m3, c1, c2, c3⟩ := nu_clr_loop (col := col) hR q hW (by omega) (by rw [b3, a3.1]; exact h67) (B := gs_scale (gs_swap t.1 p t.2.1) t.2.1 (nb_inv (t.1 p col))) (fun c hc => by
          unfold gs_scale
          rw [if_pos rfl, esw, z2 p c hge qp hc, nb_mul_0]) (fun c hc => by
          unfold gs_scale
          rw [if_pos rfl, esw, z3 p c qp hc, nb_mul_0]) R 1000000 0 m2 rfl (Nat.zero_le _) (by omega) b2 (cQ.rf m2)
        have e67 : m3.1 67 2 = nI t.2.1 := by rw [c3.1, b3, a3.1]; exact h67
        have c1' : F_St_clearOthers (nI col) (nI R) (nI W) m2 = some (none, m3) := c1
        rw [if_pos (nI_lt qp (by omega)), show m.1 67 2 = nI t.2.1 from h67, a1, qe_rV_e, b1, qe_rV_e, c1', qe_rV_e, e67, qm_in_nI (by omega) (by omega), nI_clamp (by omega), qe_b_e]
        dsimp only
        rw [me_1I, if_neg (by decide), e67, nI_1, nI_1]
        refine ih2 _ ⟨fun r c hr hc => ?_, ?_, ?_, fun i hi => ?_⟩ zn (g.tr ⟨fun a y1 y2 => ?_, fun a y1 y2 => ?_⟩)
        · rw [me_2I, me_2I]; exact c2 r c hr hc
        · rw [me_1I, if_pos rfl, if_pos rfl]
        · rw [me_2I, me_2I, c3.2 67 (by omega)]; exact b4
        · have hi' : i < t.2.1 + 1 := hi
          rw [me_1I, if_neg (by decide), me_1I, if_pos rfl, c3.1, b3, a3.1]
          show (if i = t.2.1 then nI col else m.1 69 i) = nI (if i = t.2.1 then col else t.2.2.2 i)
          by_cases e : i = t.2.1
          · rw [if_pos e, if_pos e]
          · rw [if_neg e, if_neg e]; exact h69 i (by omega)
        · rw [(qm_sI_other a y1).1, (qm_sI_other a y2).1, c3.1, b3, a3.1]
        · rw [me_2I, me_2I, c3.2 a y2, b5 a y1 y2, a3.2 a y2]
      · rw [if_neg (fun y => qp y.2)] at ih2 zn
        have np : ¬ nI p < nI R := nI_nlt (by omega) (by omega)
        rw [if_neg np, nI_1]
        exact ih2 m h zn g
    · have hf := gs_run_full R A col (by omega) (N - col)
      rw [show col + (N - col) = N by omega] at hf
      rw [if_neg (nI_nlt (by omega) (by omega)), hf]
      exact ⟨m, rfl, h, g⟩
theorem nu_reduce {m : qm_M} {R N W : Nat} (hR : R ≤ 4) (hN : N ≤ W) (hW : W ≤ 8) {A : gA} (hA : cM m R A) (hz : ∀ r c, r < R → W ≤ c → A r c = 0) : ∃ m1, F_St_reduce (nI R) (nI N) (nI W) m = some (none, m1) ∧ cMS m1 R (gs_run R A N) ∧ cF m m1 := by
  unfold F_St_reduce X_St_reduce_e
  exact nu_reduce_loop hR hN hW A N 1000000 0 _ rfl (Nat.zero_le _) (by omega) ⟨fun r c hr hc => by rw [me_2L, if_neg (by decide), me_2I]; exact hA r c hr hc, by rw [me_1L, me_1I, if_pos rfl, if_pos rfl]; rfl, by rw [me_2L, if_pos rfl, if_pos rfl]; rfl, fun i hi => absurd hi (Nat.not_lt_zero _)⟩ ⟨Nat.zero_le _, Nat.zero_le _, fun r c _ _ hc => absurd hc (Nat.not_lt_zero _), hz⟩ ⟨fun a y1 y2 => by rw [me_1L, (qm_sI_other a y1).1], fun a y1 y2 => by rw [(qm_sL_other a y1).2, me_2I]⟩
