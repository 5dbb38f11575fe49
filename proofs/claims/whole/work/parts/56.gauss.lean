/-! step forms: what both compute -/
abbrev gA : Type := Nat → Nat → nb_F
def gs_swap (A : gA) (p q : Nat) : gA := fun r c => if r = p then A q c else if r = q then A p c else A r c
def gs_scale (A : gA) (p : Nat) (k : nb_F) : gA := fun r c => if r = p then nb_mul k (A p c) else A r c
def gs_add (A : gA) (o p : Nat) (k : nb_F) : gA := fun r c => if r = o then A o c ^^^ nb_mul k (A p c) else A r c
/-- others are cleared: the first n rows -/
def gs_clear (A : gA) (p col : Nat) : Nat → gA
  | 0 => A
  | n + 1 => if n = p then gs_clear A p col n else gs_add (gs_clear A p col n) n p (gs_clear A p col n n col)
/-- the first row from p on that has something there -/
def gs_fst (A : gA) (R col : Nat) : Nat → Nat → Nat
  | 0, p => p
  | d + 1, p => if p < R then (if A p col = 0 then gs_fst A R col d (p + 1) else p) else p
abbrev gT : Type := gA × Nat × nb_F × (Nat → Nat)
noncomputable def gs_at (A : gA) (p r col R : Nat) : gA := gs_clear (gs_scale (gs_swap A p r) r (nb_inv (A p col))) r col R
noncomputable def gs_col (R col : Nat) (t : gT) : gT :=
  if t.2.1 < R ∧ gs_fst t.1 R col (R - t.2.1) t.2.1 < R then
    (gs_at t.1 (gs_fst t.1 R col (R - t.2.1) t.2.1) t.2.1 col R, t.2.1 + 1, nb_mul t.2.2.1 (t.1 (gs_fst t.1 R col (R - t.2.1) t.2.1) col), fun i => if i = t.2.1 then col else t.2.2.2 i)
  else t
noncomputable def gs_run (R : Nat) (A : gA) : Nat → gT
  | 0 => (A, 0, 1, fun _ => 0)
  | n + 1 => gs_col R n (gs_run R A n)
theorem gs_run_s (R : Nat) (A : gA) (n : Nat) : gs_run R A (n + 1) = gs_col R n (gs_run R A n) := rfl
theorem gs_fst_ge (A : gA) (R col : Nat) : ∀ d p, p ≤ gs_fst A R col d p
  | 0, p => Nat.le_refl p
  | d + 1, p => by
    show p ≤ if p < R then (if A p col = 0 then gs_fst A R col d (p + 1) else p) else p
    have := gs_fst_ge A R col d (p + 1)
    split
    · split <;> omega
    · exact Nat.le_refl p
theorem gs_fst_le (A : gA) (R col : Nat) : ∀ d p, p ≤ R → gs_fst A R col d p ≤ R
  | 0, p, h => h
  | d + 1, p, h => by
    show (if p < R then (if A p col = 0 then gs_fst A R col d (p + 1) else p) else p) ≤ R
    split
    · split
      · exact gs_fst_le A R col d (p + 1) (by omega)
      · exact h
    · exact h
/-- what stands ahead of it is 0; itself it is not, if it is a row -/
theorem gs_fst_ok (A : gA) (R col : Nat) : ∀ d p, R - p ≤ d → p ≤ R → (∀ r, p ≤ r → r < gs_fst A R col d p → A r col = 0) ∧ (gs_fst A R col d p < R → A (gs_fst A R col d p) col ≠ 0)
  | 0, p, h, hp => by
    have e : p = R := by omega
    refine ⟨fun r h1 h2 => ?_, fun h2 => ?_⟩
    · have : r < p := h2
      omega
    · have : p < R := h2
      omega
  | d + 1, p, h, hp => by
    have e : gs_fst A R col (d + 1) p = if p < R then (if A p col = 0 then gs_fst A R col d (p + 1) else p) else p := rfl
    rw [e]
    by_cases q : p < R
    · rw [if_pos q]
      by_cases z : A p col = 0
      · rw [if_pos z]
        obtain ⟨i1, i2⟩ := gs_fst_ok A R col d (p + 1) (by omega) (by omega)
        refine ⟨fun r h1 h2 => ?_, i2⟩
        by_cases y : r = p
        · rw [y]; exact z
        · exact i1 r (by omega) h2
      · rw [if_neg z]
        exact ⟨fun r h1 h2 => by omega, fun _ => z⟩
    · rw [if_neg q]
      exact ⟨fun r h1 h2 => by omega, fun h2 => absurd h2 q⟩
/-- nothing to the left below, nothing far right -/
def gz (R W col : Nat) (t : gT) : Prop := t.2.1 ≤ R ∧ t.2.1 ≤ col ∧ (∀ r c, t.2.1 ≤ r → r < R → c < col → t.1 r c = 0) ∧ (∀ r c, r < R → W ≤ c → t.1 r c = 0)
theorem gs_clear_c {A : gA} {p col : Nat} : ∀ n r c, A p c = 0 → gs_clear A p col n r c = A r c
  | 0, r, c, _ => rfl
  | n + 1, r, c, h => by
    show (if n = p then gs_clear A p col n else gs_add (gs_clear A p col n) n p (gs_clear A p col n n col)) r c = _
    by_cases q : n = p
    · rw [if_pos q]; exact gs_clear_c n r c h
    · rw [if_neg q]
      unfold gs_add
      rw [gs_clear_c n n c h, gs_clear_c n p c h, gs_clear_c n r c h, h, nb_mul_0, nb_x0]
      by_cases z : r = n
      · rw [if_pos z, z]
      · rw [if_neg z]
/-- the pivot's row stays -/
theorem gs_clear_p {A : gA} {p col : Nat} : ∀ n c, gs_clear A p col n p c = A p c
  | 0, c => rfl
  | n + 1, c => by
    show (if n = p then gs_clear A p col n else gs_add (gs_clear A p col n) n p (gs_clear A p col n n col)) p c = _
    by_cases q : n = p
    · rw [if_pos q]; exact gs_clear_p n c
    · rw [if_neg q]
      unfold gs_add
      rw [if_neg (fun z => q z.symm)]
      exact gs_clear_p n c
/-- rows not yet reached stay -/
theorem gs_clear_r {A : gA} {p col : Nat} : ∀ n r c, n ≤ r → gs_clear A p col n r c = A r c
  | 0, r, c, _ => rfl
  | n + 1, r, c, h => by
    show (if n = p then gs_clear A p col n else gs_add (gs_clear A p col n) n p (gs_clear A p col n n col)) r c = _
    by_cases q : n = p
    · rw [if_pos q]; exact gs_clear_r n r c (by omega)
    · rw [if_neg q]
      unfold gs_add
      rw [if_neg (by omega)]
      exact gs_clear_r n r c (by omega)
/-- behind it the column is 0 but for the pivot, which is 1 -/
theorem gs_clear_z {A : gA} {p col : Nat} (h : A p col = 1) : ∀ n r, r < n → r ≠ p → gs_clear A p col n r col = 0
  | 0, r, h1, _ => absurd h1 (Nat.not_lt_zero _)
  | n + 1, r, h1, h2 => by
    show (if n = p then gs_clear A p col n else gs_add (gs_clear A p col n) n p (gs_clear A p col n n col)) r col = _
    by_cases q : n = p
    · rw [if_pos q]; exact gs_clear_z h n r (by omega) h2
    · rw [if_neg q]
      unfold gs_add
      by_cases z : r = n
      · rw [if_pos z, gs_clear_p, h, nb_mul_1, nb_xx]
      · rw [if_neg z]; exact gs_clear_z h n r (by omega) h2
theorem gz.step {R W col : Nat} {t : gT} (h : gz R W col t) : gz R W (col + 1) (gs_col R col t) := by
  obtain ⟨h0, h1, h2, h3⟩ := h
  unfold gs_col
  have hge := gs_fst_ge t.1 R col (R - t.2.1) t.2.1
  have hle := gs_fst_le t.1 R col (R - t.2.1) t.2.1 h0
  obtain ⟨f1, f2⟩ := gs_fst_ok t.1 R col (R - t.2.1) t.2.1 (Nat.le_refl _) h0
  generalize gs_fst t.1 R col (R - t.2.1) t.2.1 = p at hge hle f1 f2 ⊢
  by_cases q : t.2.1 < R ∧ p < R
  · rw [if_pos q]
    have hrow : ∀ c, (gs_scale (gs_swap t.1 p t.2.1) t.2.1 (nb_inv (t.1 p col))) t.2.1 c = nb_mul (nb_inv (t.1 p col)) (t.1 p c) := fun c => by
      unfold gs_scale
      rw [if_pos rfl]
      unfold gs_swap
      by_cases e : t.2.1 = p
      · rw [if_pos e, e]
      · rw [if_neg e, if_pos rfl]
    have hpiv : (gs_scale (gs_swap t.1 p t.2.1) t.2.1 (nb_inv (t.1 p col))) t.2.1 col = 1 := by
      rw [hrow, nb_comm, nb_mul_inv (f2 q.2)]
    have hoth : ∀ r c, r ≠ t.2.1 → (gs_scale (gs_swap t.1 p t.2.1) t.2.1 (nb_inv (t.1 p col))) r c = if r = p then t.1 t.2.1 c else t.1 r c := fun r c hr => by
      unfold gs_scale
      rw [if_neg hr]
      unfold gs_swap
      by_cases e : r = p
      · rw [if_pos e, if_pos e]
      · rw [if_neg e, if_neg hr, if_neg e]
    refine ⟨by show t.2.1 + 1 ≤ R; omega, by show t.2.1 + 1 ≤ col + 1; omega, fun r c r1 r2 r3 => ?_, fun r c r1 r2 => ?_⟩
    · have r1' : t.2.1 + 1 ≤ r := r1
      show gs_clear _ t.2.1 col R r c = 0
      by_cases e : c = col
      · rw [e]; exact gs_clear_z hpiv R r r2 (by omega)
      · rw [gs_clear_c R r c (by rw [hrow, h2 p c hge q.2 (by omega), nb_mul_0]), hoth r c (by omega)]
        split
        · exact h2 _ c (Nat.le_refl _) q.1 (by omega)
        · exact h2 r c (by omega) r2 (by omega)
    · show gs_clear _ t.2.1 col R r c = 0
      rw [gs_clear_c R r c (by rw [hrow, h3 p c q.2 r2, nb_mul_0])]
      by_cases e : r = t.2.1
      · rw [e, hrow, h3 p c q.2 r2, nb_mul_0]
      · rw [hoth r c e]
        split
        · exact h3 _ c q.1 r2
        · exact h3 r c r1 r2
  · rw [if_neg q]
    refine ⟨h0, by omega, fun r c r1 r2 r3 => ?_, h3⟩
    by_cases e : c = col
    · rw [e]
      by_cases y : t.2.1 < R
      · exact f1 r r1 (by omega)
      · omega
    · exact h2 r c r1 r2 (by omega)
