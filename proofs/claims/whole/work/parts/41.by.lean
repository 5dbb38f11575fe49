/-! by a number of level 4: the model's table of its doubles -/
abbrev nv_T (a : Nat) : Prop := a = 122
/-- the table by x -/
def nv_ok (x : nb_F) (n : Nat) (m : qm_M) : Prop := ∀ k, k < n → m.2 122 k = bn (nb_M k x)
theorem nv_hi {x : nb_F} {k t : Nat} (hk : k < 2 ^ t) (ht : t < 6) (h : nb_in t (nb_M k x)) : nb_M (2 ^ t + k) x = (nb_M k x) <<< (2 ^ t) := by
  rw [nb_M_hi _ t hk ht, nb_L_shl t ht _ h]
theorem nv_in4 {x : nb_F} (hx : nb_in 4 x) {k : Nat} (hk : k < 16) : nb_in 4 (nb_M k x) := nb_M_in (t := 4) hk (by omega) hx
/-- 16 further: 16 bits higher -/
theorem nv_step {x : nb_F} (hx : nb_in 4 x) {k : Nat} (h1 : 16 ≤ k) (h2 : k < 64) : nb_M k x = (nb_M (k - 16) x) <<< 16 := by
  have a : ∀ r, r < 16 → nb_M (16 + r) x = (nb_M r x) <<< 16 := fun r hr => nv_hi (k := r) (t := 4) hr (by omega) (nv_in4 hx hr)
  have b : ∀ r, r < 32 → nb_M (32 + r) x = (nb_M r x) <<< 32 := fun r hr => nv_hi (k := r) (t := 5) hr (by omega) (nb_M_in (t := 5) hr (by omega) (nb_in_up hx))
  have s2 : ∀ v : nb_F, v <<< 32 = (v <<< 16) <<< 16 := fun v => by rw [← BitVec.shiftLeft_add]
  by_cases q : k < 32
  · obtain ⟨r, rfl⟩ : ∃ r, k = 16 + r := ⟨k - 16, by omega⟩
    rw [a r (by omega), Nat.add_sub_cancel_left]
  · by_cases q2 : k < 48
    · obtain ⟨r, rfl⟩ : ∃ r, k = 32 + r := ⟨k - 32, by omega⟩
      rw [b r (by omega), show 32 + r - 16 = 16 + r by omega, a r (by omega), s2]
    · obtain ⟨r, rfl⟩ : ∃ r, k = 32 + (16 + r) := ⟨k - 48, by omega⟩
      rw [b (16 + r) (by omega), show 32 + (16 + r) - 16 = 32 + r by omega, b r (by omega), a r (by omega), s2, s2]
theorem mt_laysBy_loop {m0 : qm_M} (hm : nt_ok 64 m0) {x : nb_F} (hx : nb_in 4 x) (d : Nat) : ∀ (f k : Nat) (m : qm_M), 64 - k = d → k ≤ 64 → d < f → nv_ok x k m → fr no_S nv_T m0 m → ∃ m1, L_M_laysBy_2 f (bn x) (nI k) m = some (none, m1) ∧ nv_ok x 64 m1 ∧ fr no_S nv_T m0 m1 := by
  induction d with
  | zero =>
    intro f k m h1 h2 h3 hk g
    obtain ⟨f, rfl⟩ : ∃ g, f = g + 1 := ⟨f - 1, by omega⟩
    have e : k = 64 := by omega
    subst e
    refine ⟨m, ?_, hk, g⟩
    show X_M_laysBy_2 _ _ _ _ _ = _
    unfold X_M_laysBy_2
    rw [if_neg (by decide)]
  | succ d ih =>
    intro f k m h1 h2 h3 hk g
    obtain ⟨f, rfl⟩ : ∃ g, f = g + 1 := ⟨f - 1, by omega⟩
    have e1 : nI k < (64 : Int32) := nI_lt (a := k) (b := 64) (by omega) (by omega)
    obtain ⟨m1, q1, q2, q3⟩ := ih f (k + 1) (qm_sL m 122 k (bn (nb_M k x))) (by omega) (by omega) (by omega) (fun h hh => by
      rw [me_2L, if_pos rfl]
      by_cases q : h = k
      · rw [if_pos q, q]
      · rw [if_neg q]; exact hk h (by omega)) (g.sL rfl)
    refine ⟨m1, ?_, q2, q3⟩
    show X_M_laysBy_2 _ _ _ _ _ = _
    unfold X_M_laysBy_2
    rw [if_pos e1]
    by_cases q : k < 16
    · have e2 : nI k < (16 : Int32) := nI_lt (a := k) (b := 16) (by omega) (by omega)
      rw [if_pos e2, mt_byTwoT (hm.fr g (by decide)) (by omega), nb_bn]
      dsimp only [qe_rL]
      rw [qm_in_nI (by omega) (by omega), nI_clamp (by omega), nI_1]
      exact q1
    · have e2 : ¬ nI k < (16 : Int32) := nI_nlt (a := k) (b := 16) (by omega) (by omega)
      have e3 : nI k - 16 = nI (k - 16) := pk_sub (a := k) (b := 16) (by omega)
      rw [if_neg e2, e3, qm_in_nI (by omega) (by omega), qm_in_nI (by omega) (by omega), nI_clamp (by omega), nI_clamp (by omega), hk (k - 16) (by omega), nI_1]
      dsimp only [qe_b, cond_true]
      have e4 : qo_lshl (bn (nb_M (k - 16) x)) 16 = bn (nb_M k x) := by
        rw [nv_step hx (k := k) (by omega) (by omega)]
        exact nb_inj (no_lshl (k := 16) _ (by omega))
      rw [e4]
      exact q1
theorem mt_laysBy {m : qm_M} (hm : nt_ok 64 m) {x : nb_F} (hx : nb_in 4 x) : ∃ m1, F_M_laysBy (bn x) m = some (none, m1) ∧ nv_ok x 64 m1 ∧ fr no_S nv_T m m1 := by
  unfold F_M_laysBy X_M_laysBy_e
  exact mt_laysBy_loop hm hx 64 1000000 0 m rfl (by omega) (by omega) (fun h hh => absurd hh (Nat.not_lt_zero _)) (fr.rf m)
theorem mt_by_loop {x : nb_F} {m : qm_M} (hx : nv_ok x 64 m) (a : nb_F) :
    ∀ (d f k : Nat), 64 - k = d → k ≤ 64 → d < f → L_M_by_8 f (bn (nb_mulN k a x)) (bn (a >>> k)) (nI k) m = some (some (.long (bn (nb_mul a x))), m) := by
  intro d
  induction d with
  | zero =>
    intro f k h1 h2 h3
    obtain ⟨f, rfl⟩ : ∃ g, f = g + 1 := ⟨f - 1, by omega⟩
    have e : k = 64 := by omega
    subst e
    show X_M_by_8 _ _ _ _ _ = _
    unfold X_M_by_8
    have h0 : a >>> 64 = 0 := by
      ext i hi
      rw [BitVec.getElem_ushiftRight]
      simp
    rw [h0, if_pos ((no_cmpz (bn 0)).mpr rfl)]
    rfl
  | succ d ih =>
    intro f k h1 h2 h3
    obtain ⟨f, rfl⟩ : ∃ g, f = g + 1 := ⟨f - 1, by omega⟩
    show X_M_by_8 _ _ _ _ _ = _
    unfold X_M_by_8
    by_cases h0 : a >>> k = 0
    · rw [h0, if_pos ((no_cmpz (bn 0)).mpr rfl), nb_mulN_cut, nb_shr_0 h0]
    · rw [if_neg (fun q => h0 ((no_cmpz (bn (a >>> k))).mp q))]
      have es : qo_lushr (bn (a >>> k)) 1 = bn (a >>> (k + 1)) := nb_inj (by rw [no_lushr1, nb_bn, nb_bn, nb_shr_succ])
      have ih2 := ih f (k + 1) (by omega) (by omega) (by omega)
      by_cases hb : a.getLsbD k = true
      · have ev : nb_mulN (k + 1) a x = nb_mulN k a x ^^^ nb_M k x := by
          simp only [nb_mulN, hb, if_true]
        rw [ev] at ih2
        rw [if_pos ((no_cmpo _).mpr (by rw [no_and, nb_bn, nb_1l]; exact (nb_bit1 a k).mpr hb)), qm_in_nI (by omega) (by omega), nI_clamp (by omega), hx k (by omega), es, nI_1]
        exact ih2
      · have ev : nb_mulN (k + 1) a x = nb_mulN k a x := by
          simp only [nb_mulN, hb]
          exact nb_x0 _
        rw [ev] at ih2
        rw [if_neg (fun q => hb (by
          have q2 := (no_cmpo _).mp q
          rw [no_and, nb_bn, nb_1l] at q2
          exact (nb_bit1 a k).mp q2)), es, nI_1]
        exact ih2
theorem mt_by {x : nb_F} {m : qm_M} (hx : nv_ok x 64 m) (a : nb_F) : F_M_by (bn a) m = some (some (.long (bn (nb_mul a x))), m) := by
  unfold F_M_by X_M_by_e
  have h := mt_by_loop hx a 64 1000000 0 rfl (by omega) (by omega)
  have e0 : a >>> 0 = a := by
    ext i hi
    simp
  rw [e0] at h
  exact h
/-! the model's logarithm: the first power -/
theorem mt_log_loop {b : nb_F} {m : qm_M} (hb : nv_ok b 64 m) (a : nb_F) (d : Nat) : ∀ (f n : Nat), 65537 - n = d → n ≤ 65537 → d < f → (∀ t, n ≤ t → t ≤ 65536 → (∀ i, n ≤ i → i < t → ¬ nb_pow i b = a) → nb_pow t b = a → L_M_log_30 f (bn a) (bn (nb_pow n b)) (nI n) m = some (some (.int (nI t)), m)) ∧
    ((∀ i, n ≤ i → i ≤ 65536 → ¬ nb_pow i b = a) → L_M_log_30 f (bn a) (bn (nb_pow n b)) (nI n) m = some (some (.int (-1)), m)) := by
  induction d with
  | zero =>
    intro f n h1 h2 h3
    obtain ⟨f, rfl⟩ : ∃ g, f = g + 1 := ⟨f - 1, by omega⟩
    have e : n = 65537 := by omega
    subst e
    refine ⟨fun t q1 q2 => by omega, fun _ => ?_⟩
    show X_M_log_30 _ _ _ _ _ _ _ _ = _
    unfold X_M_log_30
    rw [if_pos (by decide)]
  | succ d ih =>
    intro f n h1 h2 h3
    obtain ⟨f, rfl⟩ : ∃ g, f = g + 1 := ⟨f - 1, by omega⟩
    have e1 : ¬ (65536 : Int32) < nI n := nI_nlt (a := 65536) (b := n) (by omega) (by omega)
    have ih2 := ih f (n + 1) (by omega) (by omega) (by omega)
    have key : ¬ nb_pow n b = a → L_M_log_30 (f + 1) (bn a) (bn (nb_pow n b)) (nI n) m = L_M_log_30 f (bn a) (bn (nb_pow (n + 1) b)) (nI (n + 1)) m := fun q => by
      show X_M_log_30 _ _ _ _ _ _ _ _ = _
      unfold X_M_log_30
      have c : ¬ lg_cmp (bn (nb_pow n b)) (bn a) = 0 := fun z => q (congrArg nb ((lg_cmp_eq _ _).mp z))
      rw [if_neg e1, if_neg c, mt_by hb, nI_1]
      rfl
    refine ⟨fun t q1 q2 q3 q4 => ?_, fun q => ?_⟩
    · by_cases q : nb_pow n b = a
      · have et : t = n := by
          by_cases z : n < t
          · exact absurd q (q3 n (Nat.le_refl _) z)
          · omega
        rw [et]
        show X_M_log_30 _ _ _ _ _ _ _ _ = _
        unfold X_M_log_30
        have c : lg_cmp (bn (nb_pow n b)) (bn a) = 0 := (lg_cmp_eq _ _).mpr (by rw [q])
        rw [if_neg e1, if_pos c]
      · rw [key q]
        have ht : n ≠ t := fun z => q (by rw [z]; exact q4)
        exact ih2.1 t (by omega) q2 (fun i z1 z2 => q3 i (by omega) z2) q4
    · rw [key (q n (Nat.le_refl _) (by omega))]
      exact ih2.2 (fun i z1 z2 => q i (by omega) z2)
