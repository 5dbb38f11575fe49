/-! step forms: the model clears -/
def gMS (m : qm_M) (R : Nat) (t : gT) : Prop := gM m R t.1 ∧ m.1 112 17 = nI R ∧ m.1 112 21 = nI t.2.1 ∧ m.2 112 22 = bn t.2.2.1 ∧ ∀ i, i < t.2.1 → m.1 128 i = nI (t.2.2.2 i)
/-- only the form and what goes with it change -/
def gF (m m1 : qm_M) : Prop := (∀ a, a ≠ 112 → a ≠ 128 → m1.1 a = m.1 a) ∧ (∀ i, i ≠ 17 → i ≠ 18 → i ≠ 21 → m1.1 112 i = m.1 112 i) ∧ (∀ a, a ≠ 112 → a ≠ 127 → m1.2 a = m.2 a) ∧ m1.1 112 18 = m.1 112 18
theorem gF.rf (m : qm_M) : gF m m := ⟨fun _ _ _ => rfl, fun _ _ _ _ => rfl, fun _ _ _ => rfl, rfl⟩
theorem gF.tr {m m1 m2 : qm_M} (h : gF m m1) (g : gF m1 m2) : gF m m2 := ⟨fun a q r => (g.1 a q r).trans (h.1 a q r), fun i a b c => (g.2.1 i a b c).trans (h.2.1 i a b c), fun a q r => (g.2.2.1 a q r).trans (h.2.2.1 a q r), g.2.2.2.trans h.2.2.2⟩
theorem gQ.F {m m1 : qm_M} (g : gQ m m1) : gF m m1 := ⟨fun a _ _ => by rw [g.1], fun i _ _ _ => by rw [g.1], fun a _ q => g.2 a q, by rw [g.1]⟩
theorem gF.nt {m m1 : qm_M} (g : gF m m1) (h : nt_ok 64 m) : nt_ok 64 m1 := fun a b ha hb => by rw [g.2.2.1 117 (by omega) (by omega)]; exact h a b ha hb
theorem gs_run_full (R : Nat) (A : gA) (n : Nat) (h : R ≤ (gs_run R A n).2.1) : ∀ k, gs_run R A (n + k) = gs_run R A n
  | 0 => rfl
  | k + 1 => by
    have ih := gs_run_full R A n h k
    show gs_col R (n + k) (gs_run R A (n + k)) = _
    rw [ih]
    unfold gs_col
    rw [if_neg (by omega)]
theorem mt_clears33 {m : qm_M} {R : Nat} (hR : R ≤ 4) {A : gA} (hA : gM m R A) (h17 : m.1 112 17 = nI R) {col : Nat} (hc : col < 8) (K : Int32 → Int32 → qm_M → Option qm_R) (N : Int32) : ∀ (d f p : Nat), R - p = d → p ≤ R → d < f → L_M_clears_33 K f N (nI col) (nI p) m = L_M_clears_62 K N (nI col) (nI (gs_fst A R col d p)) m := by
  intro d
  induction d with
  | zero =>
    intro f p h1 h2 h3
    obtain ⟨f, rfl⟩ : ∃ g, f = g + 1 := ⟨f - 1, by omega⟩
    have e : p = R := by omega
    show X_M_clears_33 _ _ _ _ _ _ _ _ _ _ _ = _
    unfold X_M_clears_33
    rw [h17, if_neg (nI_nlt (by omega) (by omega))]
    rfl
  | succ d ih =>
    intro f p h1 h2 h3
    obtain ⟨f, rfl⟩ : ∃ g, f = g + 1 := ⟨f - 1, by omega⟩
    have hp : p < R := by omega
    show X_M_clears_33 _ _ _ _ _ _ _ _ _ _ _ = _
    unfold X_M_clears_33
    have e : gs_fst A R col (d + 1) p = if p < R then (if A p col = 0 then gs_fst A R col d (p + 1) else p) else p := rfl
    rw [e, if_pos hp, h17, if_pos (nI_lt hp (by omega)), mt_cellAt, qe_rI_e, qm_in_nI (by omega) (by omega), nI_clamp (by omega), qe_b_e, hA p col hp hc, nI_1]
    by_cases q : A p col = 0
    · rw [if_pos ((no_zB _).mpr q), if_pos q]
      exact ih f (p + 1) (by omega) (by omega) (by omega)
    · rw [if_neg (fun z => q ((no_zB _).mp z)), if_neg q]
theorem mt_clears124 {m0 : qm_M} (hm : nt_ok 64 m0) {R : Nat} (hR : R ≤ 4) {B : gA} {r col : Nat} (hr : r < R) (hc : col < 8) (h17 : m0.1 112 17 = nI R) (h21 : m0.1 112 21 = nI r) (K : Int32 → Int32 → qm_M → Option qm_R) (N : Int32) (d : Nat) : ∀ (f n : Nat) (m : qm_M), R - n = d → n ≤ R → d < f → gM m R (gs_clear B r col n) → gQ m0 m →
    ∃ m1, L_M_clears_124 K f N (nI col) (nI n) m = K N (nI (col + 1)) (qm_sI (qm_sI m1 128 r (nI col)) 112 21 (nI (r + 1))) ∧ gM m1 R (gs_clear B r col R) ∧ gQ m0 m1 := by
  induction d with
  | zero =>
    intro f n m h1 h2 h3 h g
    obtain ⟨f, rfl⟩ : ∃ g, f = g + 1 := ⟨f - 1, by omega⟩
    have e : n = R := by omega
    subst e
    refine ⟨m, ?_, h, g⟩
    show X_M_clears_124 _ _ _ _ _ _ _ _ _ _ _ = _
    unfold X_M_clears_124
    rw [g.1, h17, if_neg (nI_nlt (Nat.le_refl _) (by omega)), h21, qm_in_nI (by omega) (by omega), nI_clamp (by omega), qe_b_e]
    dsimp only
    rw [me_1I, if_neg (by decide), g.1, h21, nI_1, nI_1]
  | succ d ih =>
    intro f n m h1 h2 h3 h g
    obtain ⟨f, rfl⟩ : ∃ g, f = g + 1 := ⟨f - 1, by omega⟩
    have hn : n < R := by omega
    have ec : gs_clear B r col (n + 1) = if n = r then gs_clear B r col n else gs_add (gs_clear B r col n) n r (gs_clear B r col n n col) := rfl
    have st : L_M_clears_124 K (f + 1) N (nI col) (nI n) m = X_M_clears_124 F_M_cellAt F_M_swaps F_M_product F_M_divides F_M_adds K (L_M_clears_124 K f) N (nI col) (nI n) m := rfl
    rw [st]
    unfold X_M_clears_124
    rw [g.1, h17, if_pos (nI_lt hn (by omega)), h21, nI_1]
    by_cases q : n = r
    · rw [if_pos q] at ec
      rw [if_pos (by rw [q])]
      exact ih f (n + 1) m (by omega) (by omega) (by omega) (by rw [ec]; exact h) g
    · rw [if_neg q] at ec
      obtain ⟨m1, a1, a2, a3⟩ := mt_adds (g.nt hm) hR hn hr q (gs_clear B r col n n col) h
      have nq : ¬ nI n = nI r := fun z => q ((nI_eq (by omega) (by omega)).mp z)
      rw [if_neg nq, mt_cellAt, qe_rI_e, qm_in_nI (by omega) (by omega), nI_clamp (by omega), qe_b_e, h n col hn hc, a1, qe_rV_e]
      exact ih f (n + 1) m1 (by omega) (by omega) (by omega) (by rw [ec]; exact a2) (g.tr a3)
theorem mt_clears_step {m : qm_M} (hm : nt_ok 64 m) {R : Nat} (hR : R ≤ 4) {t : gT} (h : gMS m R t) (hlt : t.2.1 < R) {col : Nat} (hc : col < 8) (K : Int32 → Int32 → qm_M → Option qm_R) (N : Int32) : ∃ m1, L_M_clears_33 K 1000000 N (nI col) (nI t.2.1) m = K N (nI (col + 1)) m1 ∧ gMS m1 R (gs_col R col t) ∧ gF m m1 := by
  obtain ⟨hA, h17, h21, h22, h128⟩ := h
  rw [mt_clears33 hR hA h17 hc K N (R - t.2.1) 1000000 t.2.1 rfl (by omega) (by omega)]
  have hge := gs_fst_ge t.1 R col (R - t.2.1) t.2.1
  have hle := gs_fst_le t.1 R col (R - t.2.1) t.2.1 (by omega)
  unfold L_M_clears_62 X_M_clears_62 gs_col
  generalize gs_fst t.1 R col (R - t.2.1) t.2.1 = p at hge hle ⊢
  by_cases q : p < R
  · have np : ¬ nI p = nI R := fun z => by have := (nI_eq (by omega) (by omega)).mp z; omega
    obtain ⟨m1, a1, a2, a3⟩ := mt_swaps hR q hlt hA
    have epiv : gs_swap t.1 p t.2.1 t.2.1 col = t.1 p col := by
      unfold gs_swap
      by_cases e : t.2.1 = p
      · rw [if_pos e, e]
      · rw [if_neg e, if_pos rfl]
    have ec := a2 t.2.1 col hlt hc
    rw [epiv] at ec
    have m1_21 : m1.1 112 21 = nI t.2.1 := by rw [a3.1]; exact h21
    have m1_22 : m1.2 112 22 = bn t.2.2.1 := by rw [a3.2 112 (by omega)]; exact h22
    have hmq : gM (qm_sL m1 112 22 (bn (nb_mul t.2.2.1 (t.1 p col)))) R (gs_swap t.1 p t.2.1) := fun r c hr hc => by
      rw [me_2L, if_neg (by decide)]; exact a2 r c hr hc
    have hnt : nt_ok 64 (qm_sL m1 112 22 (bn (nb_mul t.2.2.1 (t.1 p col)))) := fun a b ha hb => by
      rw [me_2L, if_neg (by decide)]; exact a3.nt hm a b ha hb
    obtain ⟨m2, b1, b2, b3⟩ := mt_divides hnt hR hlt (t.1 p col) hmq
    obtain ⟨m3, d1, d2, d3⟩ := mt_clears124 (b3.nt hnt) hR hlt hc (by rw [b3.1, me_1L, a3.1]; exact h17) (by rw [b3.1, me_1L, a3.1]; exact h21) K N R 1000000 0 m2 rfl (Nat.zero_le _) (by omega) b2 (gQ.rf m2)
    rw [h17, if_neg np, h21, a1, qe_rV_e, m1_21, mt_cellAt, qe_rI_e, qm_in_nI (by omega) (by omega), nI_clamp (by omega), qe_b_e, ec, m1_22, mt_product (a3.nt hm), nb_bn, nb_bn, qe_rL_e]
    dsimp only
    rw [me_1L, m1_21, b1, qe_rV_e, if_pos ⟨hlt, q⟩]
    have e3 : m3.1 = m.1 := by rw [d3.1, b3.1, me_1L, a3.1]
    refine ⟨_, d1, ⟨fun r c hr hc => ?_, ?_, ?_, ?_, fun i hi => ?_⟩, ⟨fun a z1 z2 => ?_, fun i z1 z2 z3 => ?_, fun a z1 z2 => ?_, ?_⟩⟩
    · rw [me_2I, me_2I]; exact d2 r c hr hc
    · rw [me_1I, if_pos rfl, if_neg (by decide), me_1I, if_neg (by decide), e3]; exact h17
    · rw [me_1I, if_pos rfl, if_pos rfl]
    · rw [me_2I, me_2I, d3.2 112 (by omega), b3.2 112 (by omega), me_2L, if_pos rfl, if_pos rfl]
    · have hi' : i < t.2.1 + 1 := hi
      rw [me_1I, if_neg (by decide), me_1I, if_pos rfl, e3]
      show (if i = t.2.1 then nI col else m.1 128 i) = nI (if i = t.2.1 then col else t.2.2.2 i)
      by_cases e : i = t.2.1
      · rw [if_pos e, if_pos e]
      · rw [if_neg e, if_neg e]; exact h128 i (by omega)
    · rw [(qm_sI_other a z1).1, (qm_sI_other a z2).1, e3]
    · rw [me_1I, if_pos rfl, if_neg z3, me_1I, if_neg (by decide), e3]
    · rw [me_2I, me_2I, d3.2 a z2, b3.2 a z2, (qm_sL_other a z1).2, a3.2 a z2]
    · rw [me_1I, if_pos rfl, if_neg (by decide), me_1I, if_neg (by decide), e3]
  · have ep : p = R := by omega
    rw [h17, if_pos (by rw [ep]), if_neg (fun z => q z.2), nI_1]
    exact ⟨m, rfl, ⟨hA, h17, h21, h22, h128⟩, gF.rf m⟩
theorem mt_clears_loop {m0 : qm_M} (hm : nt_ok 64 m0) {R N : Nat} (hR : R ≤ 4) (hN : N ≤ 8) (A : gA) (hr : ∀ n, (gs_run R A n).2.1 ≤ R) (d : Nat) : ∀ (f col : Nat) (m : qm_M), N - col = d → col ≤ N → d < f → gMS m R (gs_run R A col) → gF m0 m → ∃ m1, L_M_clears_12 f (nI N) (nI col) m = some (none, m1) ∧ gMS m1 R (gs_run R A N) ∧ gF m0 m1 := by
  induction d with
  | zero =>
    intro f col m h1 h2 h3 h g
    obtain ⟨f, rfl⟩ : ∃ g, f = g + 1 := ⟨f - 1, by omega⟩
    have e : col = N := by omega
    subst e
    refine ⟨m, ?_, h, g⟩
    show X_M_clears_12 _ _ _ _ _ _ _ _ _ = _
    unfold X_M_clears_12
    rw [if_neg (nI_nlt (Nat.le_refl _) (by omega))]
  | succ d ih =>
    intro f col m h1 h2 h3 h g
    obtain ⟨f, rfl⟩ : ∃ g, f = g + 1 := ⟨f - 1, by omega⟩
    have st : L_M_clears_12 (f + 1) (nI N) (nI col) m = X_M_clears_12 F_M_cellAt F_M_swaps F_M_product F_M_divides F_M_adds (L_M_clears_33 (L_M_clears_12 f) 1000000) (nI N) (nI col) m := rfl
    rw [st]
    unfold X_M_clears_12
    obtain ⟨hA, h17, h21, h22, h128⟩ := id h
    rw [if_pos (nI_lt (by omega) (by omega)), h21, h17]
    by_cases q : (gs_run R A col).2.1 < R
    · obtain ⟨m1, a1, a2, a3⟩ := mt_clears_step (g.nt hm) hR h q (col := col) (by omega) (L_M_clears_12 f) (nI N)
      obtain ⟨m2, b1, b2⟩ := ih f (col + 1) m1 (by omega) (by omega) (by omega) a2 (g.tr a3)
      rw [if_pos (nI_lt q (by omega)), a1]
      exact ⟨m2, b1, b2⟩
    · have hf := gs_run_full R A col (by omega) (N - col)
      rw [show col + (N - col) = N by omega] at hf
      rw [if_neg (nI_nlt (by omega) (by have := hr col; omega)), hf]
      exact ⟨m, rfl, h, g⟩
theorem gs_run_le {R : Nat} {A : gA} : ∀ n, (gs_run R A n).2.1 ≤ R
  | 0 => Nat.zero_le R
  | n + 1 => by
    have ih := gs_run_le (R := R) (A := A) n
    rw [gs_run_s]
    unfold gs_col
    split
    · next h => show (gs_run R A n).2.1 + 1 ≤ R; omega
    · exact ih
theorem mt_clears {m : qm_M} (hm : nt_ok 64 m) {R N : Nat} (hR : R ≤ 4) (hN : N ≤ 8) {A : gA} (hA : gM m R A) (h17 : m.1 112 17 = nI R) : ∃ m1, F_M_clears (nI N) m = some (none, m1) ∧ gMS m1 R (gs_run R A N) ∧ gF m m1 := by
  unfold F_M_clears X_M_clears_e
  have g0 : gF m (qm_sL (qm_sI m 112 21 0) 112 22 1) := ⟨fun a z1 z2 => by rw [me_1L, (qm_sI_other a z1).1], fun i z1 z2 z3 => by rw [me_1L, me_1I, if_pos rfl, if_neg z3], fun a z1 z2 => by rw [(qm_sL_other a z1).2, me_2I], by rw [me_1L, me_1I, if_pos rfl, if_neg (by decide)]⟩
  exact mt_clears_loop hm hR hN A gs_run_le N 1000000 0 _ rfl (Nat.zero_le _) (by omega) ⟨fun r c hr hc => by rw [me_2L, if_neg (by decide), me_2I]; exact hA r c hr hc, by rw [me_1L, me_1I, if_pos rfl, if_neg (by decide)]; exact h17, by rw [me_1L, me_1I, if_pos rfl, if_pos rfl]; rfl, by rw [me_2L, if_pos rfl, if_pos rfl]; rfl, fun i hi => absurd hi (Nat.not_lt_zero _)⟩ g0
