/-! calls on both sides: numbers told, places, grids -/
/-- an act of both: one answer, one state -/
def act2 (FT FM : qm_M → Option qm_R) : Prop := ∀ mc mm s, cs mc s → ms mm s → gd s → ∃ r s1 mc1 mm1, FT mc = some (some (.int r), mc1) ∧ FM mm = some (some (.int r), mm1) ∧ cs mc1 s1 ∧ ms mm1 s1 ∧ gd s1 ∧ hi_fr mc mc1 ∧ lo_fr mm mm1
theorem act2.no {mc mm : qm_M} {s : sT} (hc : cs mc s) (hm : ms mm s) (g : gd s) {A B : Option qm_R} {r : Int32} (h1 : A = some (some (.int r), mc)) (h2 : B = some (some (.int r), mm)) : ∃ r s1 mc1 mm1, A = some (some (.int r), mc1) ∧ B = some (some (.int r), mm1) ∧ cs mc1 s1 ∧ ms mm1 s1 ∧ gd s1 ∧ hi_fr mc mc1 ∧ lo_fr mm mm1 :=
  ⟨r, s, mc, mm, h1, h2, hc, hm, g, hi_fr.rf mc, lo_fr.rf mm⟩
theorem n10 : ¬ (1 : Int32) = 0 := by decide
theorem cs_i {m : qm_M} {s : sT} (h : cs m s) {k n : Nat} (hk : k < 6) (e : s.1 k = lN n) : m.1 1 k = nI n := by
  have h1 := h.1 k (by omega)
  unfold px_c at h1
  rw [if_pos hk, e] at h1
  have h2 := congrArg Int64.toInt32 h1
  rw [Int32.toInt32_toInt64, lN_i] at h2
  exact h2
theorem cs_g {m : qm_M} {s : sT} (h : cs m s) {k n : Nat} (hk : k < 2) (e : s.1 (15 + k) = lN n) : m.1 1 (8 + k) = nI n := by
  have h1 := h.1 (15 + k) (by omega)
  unfold px_c at h1
  rw [if_neg (by omega), if_neg (by omega), if_neg (by omega), if_pos (by omega), e, show 15 + k - 7 = 8 + k by omega] at h1
  have h2 := congrArg Int64.toInt32 h1
  rw [Int32.toInt32_toInt64, lN_i] at h2
  exact h2
theorem cs_h {m : qm_M} {s : sT} (h : cs m s) : m.2 1 6 = s.1 6 := h.1 6 (by omega)
theorem cs_p {m : qm_M} {s : sT} (h : cs m s) {k : Nat} (hk : k < 8) : m.2 2 k = s.1 (7 + k) := by
  have h1 := h.1 (7 + k) (by omega)
  unfold px_c at h1
  rw [if_neg (by omega), if_neg (by omega), if_pos (by omega), show 7 + k - 7 = k by omega] at h1
  exact h1
theorem cs_e {m : qm_M} {s : sT} (h : cs m s) {k : Nat} (hk : k < 16) : m.2 3 k = s.1 (17 + k) := by
  have h1 := h.1 (17 + k) (by omega)
  unfold px_c at h1
  rw [if_neg (by omega), if_neg (by omega), if_neg (by omega), if_neg (by omega), show 17 + k - 17 = k by omega] at h1
  exact h1
theorem nw_lt (v : Int32) {N : Nat} (h0 : 0 < N) (hN : N < 2 ^ 31) : (∃ j, j < N ∧ v = nI j) ∨ ((v < 0 ∨ ¬ v < nI N) ∧ (v < nI 0 ∨ nI (N - 1) < v)) := by
  by_cases h1 : v < 0
  · exact Or.inr ⟨Or.inl h1, Or.inl h1⟩
  · obtain ⟨j, hj, rfl⟩ := nw_ex v h1
    by_cases q : j < N
    · exact Or.inl ⟨j, q, rfl⟩
    · exact Or.inr ⟨Or.inr (nI_nlt (by omega) hj), Or.inr (nI_lt (by omega) hj)⟩
/-- one entry of the position is another one -/
def sS (P : sP) (k : Nat) (x : Int64) : sP := fun j => if j = k then x else P j
theorem px_ok.set {P : sP} (h : px_ok P) {k : Nat} (hk : 7 ≤ k ∧ k < 15 ∨ 17 ≤ k) (x : Int64) : px_ok (sS P k x) := h.c (fun j hj => by
  show (if j = k then x else P j) = P j
  by_cases q : j = k
  · omega
  · rw [if_neg q])
/-- one place of the class's position is another one -/
theorem cs.setP {m : qm_M} {s : sT} (h : cs m s) {k : Nat} (hk : k < 8) (x : Int64) : cs (qm_sL m 2 k x) (sS s.1 (7 + k) x, s.2) := by
  refine h.now (m1 := qm_sL m 2 k x) ⟨fun _ _ => rfl, fun a h1 h2 _ => (qm_sL_other a h2).2⟩ (fun j hj => ?_)
  have hj' := h.1 j hj
  show px_c (qm_sL m 2 k x) 1 j = if j = 7 + k then x else s.1 j
  unfold px_c at hj' ⊢
  simp only [me_1L]
  by_cases c1 : j < 6
  · rw [if_pos c1] at hj' ⊢
    rw [if_neg (by omega)]; exact hj'
  · rw [if_neg c1] at hj' ⊢
    by_cases c2 : j = 6
    · rw [if_pos c2] at hj' ⊢
      rw [me_2L, if_neg (by decide), if_neg (by omega)]; exact hj'
    · rw [if_neg c2] at hj' ⊢
      by_cases c3 : j < 15
      · rw [if_pos c3] at hj' ⊢
        rw [me_2L, if_pos rfl]
        by_cases q : j = 7 + k
        · rw [if_pos (by omega), if_pos q]
        · rw [if_neg (by omega), if_neg q]; exact hj'
      · rw [if_neg c3] at hj' ⊢
        rw [if_neg (show ¬ j = 7 + k by omega)]
        by_cases c4 : j < 17
        · rw [if_pos c4] at hj' ⊢; exact hj'
        · rw [if_neg c4] at hj' ⊢
          rw [me_2L, if_neg (by decide)]; exact hj'
theorem cs.setE {m : qm_M} {s : sT} (h : cs m s) {k : Nat} (hk : k < 16) (x : Int64) : cs (qm_sL m 3 k x) (sS s.1 (17 + k) x, s.2) := by
  refine h.now (m1 := qm_sL m 3 k x) ⟨fun _ _ => rfl, fun a _ _ h3 => (qm_sL_other a h3).2⟩ (fun j hj => ?_)
  have hj' := h.1 j hj
  show px_c (qm_sL m 3 k x) 1 j = if j = 17 + k then x else s.1 j
  unfold px_c at hj' ⊢
  simp only [me_1L]
  by_cases c1 : j < 6
  · rw [if_pos c1] at hj' ⊢
    rw [if_neg (by omega)]; exact hj'
  · rw [if_neg c1] at hj' ⊢
    by_cases c2 : j = 6
    · rw [if_pos c2] at hj' ⊢
      rw [me_2L, if_neg (by decide), if_neg (by omega)]; exact hj'
    · rw [if_neg c2] at hj' ⊢
      by_cases c3 : j < 15
      · rw [if_pos c3] at hj' ⊢
        rw [me_2L, if_neg (by decide), if_neg (by omega)]; exact hj'
      · rw [if_neg c3] at hj' ⊢
        by_cases c4 : j < 17
        · rw [if_pos c4] at hj' ⊢
          rw [if_neg (by omega)]; exact hj'
        · rw [if_neg c4] at hj' ⊢
          rw [me_2L, if_pos rfl]
          by_cases q : j = 17 + k
          · rw [if_pos (by omega), if_pos q]
          · rw [if_neg (by omega), if_neg q]; exact hj'
theorem cs.setH {m : qm_M} {s : sT} (h : cs m s) (x : Int64) : cs (qm_sL m 1 6 x) (sS s.1 6 x, s.2) := by
  refine h.now (m1 := qm_sL m 1 6 x) ⟨fun _ _ => rfl, fun a h1 _ _ => (qm_sL_other a h1).2⟩ (fun j hj => ?_)
  have hj' := h.1 j hj
  show px_c (qm_sL m 1 6 x) 1 j = if j = 6 then x else s.1 j
  unfold px_c at hj' ⊢
  simp only [me_1L]
  by_cases c1 : j < 6
  · rw [if_pos c1] at hj' ⊢
    rw [if_neg (by omega)]; exact hj'
  · rw [if_neg c1] at hj' ⊢
    by_cases c2 : j = 6
    · rw [if_pos c2, if_pos c2, me_2L, if_pos rfl, if_pos rfl]
    · rw [if_neg c2] at hj' ⊢
      rw [if_neg c2, me_2L, me_2L, if_neg (show ¬ (1 + 1 : Nat) = 1 by decide), if_neg (show ¬ (1 + 2 : Nat) = 1 by decide)]; exact hj'
theorem ms.set {m : qm_M} {s : sT} (h : ms m s) {k : Nat} (x : Int64) : ms (qm_sL m 113 k x) (sS s.1 k x, s.2) := by
  refine h.now (m1 := qm_sL m 113 k x) rfl (fun a ha => (qm_sL_other a ha).2) (fun j hj => ?_)
  rw [me_2L, if_pos rfl]
  show (if j = k then x else m.2 113 j) = if j = k then x else s.1 j
  rw [h.2.1 j hj]
/-- what is reckoned -/
noncomputable def nw_reck (x y : Int64) (w : Nat) : Int64 := if w = 0 then x ^^^ y else if w = 1 then bn (nb_mul (nb x) (nb y)) else if w = 2 then bn (nb_mul (nb x) (nb_inv (nb y))) else if w = 3 then bn (nb_rt (nb x)) else bn (nb_pow (nb y).toNat (nb x))
theorem nI_tI {w k : Nat} (h : w < 2 ^ 31) : ((nI w).toInt = (k : Int)) ↔ w = k := by
  rw [nI_toInt h]
  omega
