/-! level and degree: how often it is squared until it comes again -/
theorem nb_levA_min (x : nb_F) (d : Nat) : d ≤ 6 → ∀ k, 6 - d ≤ k → k < nb_levA d x → ¬ x >>> (2 ^ k) = 0 := by
  induction d with
  | zero =>
    intro _ k h1 h2
    have e : nb_levA 0 x = 6 := rfl
    omega
  | succ d ih =>
    intro hd k h1 h2
    have e : nb_levA (d + 1) x = if x >>> (2 ^ (5 - d)) = 0 then 5 - d else nb_levA d x := rfl
    rw [e] at h2
    by_cases h : x >>> (2 ^ (5 - d)) = 0
    · rw [if_pos h] at h2
      omega
    · rw [if_neg h] at h2
      by_cases q : k = 5 - d
      · rw [q]
        exact h
      · exact ih (by omega) k (by omega) h2
theorem nb_per_mul {x : nb_F} {g : Nat} (h : nb_sqN g x = x) (c : Nat) : nb_sqN (g * c) x = x := by
  induction c with
  | zero => rw [Nat.mul_zero, nb_sqN_0]
  | succ c ih => rw [Nat.mul_succ, nb_sqN_add 0, h, ih]
theorem nb_per_gcd {x : nb_F} (a b : Nat) : nb_sqN a x = x → nb_sqN b x = x → nb_sqN (Nat.gcd a b) x = x := by
  induction a, b using Nat.gcd.induction with
  | H0 n =>
    intro _ h
    rw [Nat.gcd_zero_left]
    exact h
  | H1 a b ha ih =>
    intro h1 h2
    rw [Nat.gcd_rec]
    refine ih ?_ h1
    have e : b % a + a * (b / a) = b := Nat.mod_add_div b a
    rw [← e, nb_sqN_add 0, nb_per_mul h1] at h2
    exact h2
theorem nb_lev_per {x : nb_F} {d : Nat} (h0 : 0 < d) (hd : d < 2 ^ nb_lev x) : ¬ nb_sqN d x = x := by
  intro h
  have hL := nb_lev_lt x
  have hin := nb_lev_in x
  have hmin := fun k h2 => nb_levA_min x 6 (by omega) k (by omega) h2
  have hf := nb_frob _ hL x hin
  have hmin2 : ∀ k, k < nb_lev x → ¬ x >>> (2 ^ k) = 0 := hmin
  generalize nb_lev x = L at *
  have hg := nb_per_gcd d (2 ^ L) h hf
  have g1 : Nat.gcd d (2 ^ L) ∣ 2 ^ L := Nat.gcd_dvd_right _ _
  have g2 : Nat.gcd d (2 ^ L) ≤ d := Nat.gcd_le_left _ h0
  generalize Nat.gcd d (2 ^ L) = g at hg g1 g2
  have hp : 2 ^ L ≤ 2 ^ 6 := Nat.pow_le_pow_right (by decide) (by omega)
  have chk : (List.range 7).all (fun L => (List.range 65).all (fun g => decide (g ∣ 2 ^ L → g < 2 ^ L → 0 < L ∧ g ∣ 2 ^ (L - 1)))) = true := by decide +kernel
  have c := of_decide_eq_true (List.all_eq_true.mp (List.all_eq_true.mp chk L (List.mem_range.mpr hL)) g (List.mem_range.mpr (by omega))) g1 (by omega)
  obtain ⟨c1, q, c2⟩ := c
  have e1 : nb_sqN (2 ^ (L - 1)) x = x := by rw [c2]; exact nb_per_mul hg q
  have e2 := nb_conj (k := L - 1) (by omega) (x := x) (by rw [Nat.sub_add_cancel c1]; exact hin)
  rw [e1, nb_xx] at e2
  exact hmin2 (L - 1) (by omega) e2.symm
theorem mt_degree_loop {m : qm_M} (hm : nt_ok 64 m) (x : nb_F) (d : Nat) : ∀ (f i : Nat), 2 ^ nb_lev x - i = d → 0 < i → i ≤ 2 ^ nb_lev x → d < f → L_M_degreeOf_JI_9 f (bn x) (nI i) (bn (nb_sqN i x)) m = some (some (.int (nI (2 ^ nb_lev x))), m) := by
  induction d with
  | zero =>
    intro f i h1 h0 h2 h3
    obtain ⟨f, rfl⟩ : ∃ g, f = g + 1 := ⟨f - 1, by omega⟩
    have e : i = 2 ^ nb_lev x := by omega
    show X_M_degreeOf_JI_9 _ _ _ _ _ _ = _
    unfold X_M_degreeOf_JI_9
    rw [e, nb_frob _ (nb_lev_lt x) x (nb_lev_in x), if_pos ((lg_cmp_eq _ _).mpr rfl)]
  | succ d ih =>
    intro f i h1 h0 h2 h3
    obtain ⟨f, rfl⟩ : ∃ g, f = g + 1 := ⟨f - 1, by omega⟩
    show X_M_degreeOf_JI_9 _ _ _ _ _ _ = _
    unfold X_M_degreeOf_JI_9
    have hn : ¬ lg_cmp (bn (nb_sqN i x)) (bn x) = 0 := fun z => nb_lev_per h0 (by omega) (congrArg nb ((lg_cmp_eq _ _).mp z))
    rw [if_neg hn, mt_square hm]
    dsimp only [qe_rL]
    have e1 : nb_mul (nb_sqN i x) (nb_sqN i x) = nb_sqN (i + 1) x := by
      rw [Nat.add_comm i 1, nb_sqN_add 0 1 i x, nb_sqN_s, nb_sqN_0]
      unfold nb_sq
      with_reducible rfl
    rw [nb_bn, e1, ← nI_succ]
    exact ih f (i + 1) (by omega) (by omega) (by omega) (by omega)
theorem mt_degreeOf {m : qm_M} (hm : nt_ok 64 m) (x : Int64) : F_M_degreeOf_JI x m = some (some (.int (nI (2 ^ nb_lev (nb x)))), m) := by
  unfold F_M_degreeOf_JI X_M_degreeOf_JI_e
  rw [mt_square hm]
  dsimp only [qe_rL]
  have h1 : 0 < 2 ^ nb_lev (nb x) := Nat.pow_pos (by decide)
  have h2 : 2 ^ nb_lev (nb x) ≤ 2 ^ 6 := Nat.pow_le_pow_right (by decide) (by have := nb_lev_lt (nb x); omega)
  have h3 := mt_degree_loop hm (nb x) (2 ^ nb_lev (nb x) - 1) 1000000 1 rfl (by omega) h1 (by omega)
  rw [nb_sqN_s, nb_sqN_0, nb_sq] at h3
  exact h3
/-- the level (0) or the degree (1) -/
def nw_level (x : Int64) (k : Int32) : Int32 := if k = 0 then nI (nb_lev (nb x)) else if k = 1 then nI (2 ^ nb_lev (nb x)) else -1
theorem tw_level (x : Int64) (k : Int32) (m : qm_M) : F_T_level x k m = some (some (.int (nw_level x k)), m) := by
  unfold F_T_level X_T_level_e nw_level
  by_cases h1 : k < 0
  · have a1 : ¬ k = 0 := fun q => by rw [q] at h1; exact absurd h1 (by decide)
    have a2 : ¬ k = 1 := fun q => by rw [q] at h1; exact absurd h1 (by decide)
    rw [if_pos h1, if_neg a1, if_neg a2]
  · by_cases h2 : 1 < k
    · have a1 : ¬ k = 0 := fun q => by rw [q] at h2; exact absurd h2 (by decide)
      have a2 : ¬ k = 1 := fun q => by rw [q] at h2; exact absurd h2 (by decide)
      rw [if_neg h1, if_pos h2, if_neg a1, if_neg a2]
    · rw [if_neg h1, if_neg h2, nu_levelOf]
      dsimp only [qe_rI]
      by_cases h3 : k = 0
      · rw [if_pos h3, if_pos h3]
      · have h4 : k = 1 := by
          obtain ⟨j, hj, rfl⟩ := nw_ex k h1
          have q1 : ¬ 1 < j := fun q => h2 (nI_lt (a := 1) (b := j) q hj)
          have q0 : ¬ j = 0 := fun q => h3 (by rw [q]; rfl)
          have q2 : j = 1 := by omega
          rw [q2]
          rfl
        rw [if_neg h3, if_neg h3, if_pos h4, no_ishl1 (by have := nb_lev_lt (nb x); omega)]
theorem mw_level {m : qm_M} (hm : nt_ok 64 m) (x : Int64) (k : Int32) : F_M_level x k m = some (some (.int (nw_level x k)), m) := by
  unfold F_M_level X_M_level_e nw_level
  by_cases h1 : k = 0
  · rw [if_pos h1, if_pos h1, mt_levelOf]
    dsimp only [qe_rI]
  · rw [if_neg h1, if_neg h1]
    by_cases h2 : k = 1
    · rw [if_pos h2, if_pos h2, mt_degreeOf hm]
      dsimp only [qe_rI]
    · rw [if_neg h2, if_neg h2]
