/-! logarithms -/
theorem no_oB (y : nb_F) : (lg_cmp (bn y) 1 = 0) ↔ y = 1 := no_cmpo (bn y)
theorem no_zB (y : nb_F) : (lg_cmp (bn y) 0 = 0) ↔ y = 0 := no_cmpz (bn y)
theorem no_eB (x y : nb_F) : (lg_cmp (bn x) (bn y) = 0) ↔ x = y := ⟨fun h => congrArg nb ((lg_cmp_eq _ _).mp h), fun h => (lg_cmp_eq _ _).mpr (by rw [h])⟩
theorem nq_prime {k : Nat} (hk : k < 4) {d : Nat} (h : d ∣ nq k) : d = 1 ∨ d = nq k := by
  have c : (List.range 4).all (fun k => decide (0 < nq k ∧ nq k < 258) && (List.range 258).all (fun d => decide (d ∣ nq k → d = 1 ∨ d = nq k))) = true := by decide +kernel
  obtain ⟨c1, c2⟩ := Bool.and_eq_true_iff.mp (List.all_eq_true.mp c k (List.mem_range.mpr hk))
  have c1 := of_decide_eq_true c1
  exact of_decide_eq_true (List.all_eq_true.mp c2 d (List.mem_range.mpr (by have := Nat.le_of_dvd c1.1 h; omega))) h
theorem nq_cop {s i : Nat} (hs : s < 128) (hi : i < 7) : Nat.gcd (nq_mk s i) (nq i) = 1 := by
  have c : (List.range 128).all (fun s => (List.range 7).all (fun i => Nat.beq (Nat.gcd (nq_mk s i) (nq i)) 1)) = true := by decide +kernel
  exact Nat.eq_of_beq_eq_true (List.all_eq_true.mp (List.all_eq_true.mp c s (List.mem_range.mpr hs)) i (List.mem_range.mpr hi))
/-- all of its primes divide: it is a multiple -/
theorem nq_all_dvd {s : Nat} (hs : s < 128) {g : Nat} : ∀ n, n ≤ 7 → (∀ k, k < n → s.testBit k = true → nq k ∣ g) → nq_mk s n ∣ g
  | 0, _, _ => Nat.one_dvd g
  | n + 1, hn, h => by
    have ih := nq_all_dvd hs n (by omega) (fun k hk => h k (by omega))
    by_cases q : s.testBit n = true
    · rw [show nq_mk s (n + 1) = nq_mk s n * nq n by simp only [nq_mk, q, if_true]]
      exact Nat.Coprime.mul_dvd_of_dvd_of_dvd (nq_cop hs (by omega)) ih (h n (by omega) q)
    · rw [show nq_mk s (n + 1) = nq_mk s n by simp only [nq_mk, q]; rfl]
      exact ih
theorem nq_16_chk : (List.range 16).all (fun s => decide (nq_mk s 7 = nq_mk s 4 ∧ 0 < nq_mk s 7 ∧ nq_mk s 7 ≤ 65535) && (List.range 4).all (fun k => (bif s.testBit k then decide (nq_mk s 7 = nq k * nq_mk (nq_rm s k) 7 ∧ nq_mk s 7 / nq k = nq_mk (nq_rm s k) 7) else true) && decide ((nq_mk s 7 % nq k = 0) ↔ s.testBit k = true) && decide (0 < nq_mk s k ∧ nq_mk s k ≤ 65535))) = true := by decide +kernel
theorem nq_16 {s : Nat} (hs : s < 16) : nq_mk s 7 = nq_mk s 4 ∧ 0 < nq_mk s 7 ∧ nq_mk s 7 ≤ 65535 := of_decide_eq_true (Bool.and_eq_true_iff.mp (List.all_eq_true.mp nq_16_chk s (List.mem_range.mpr hs))).1
theorem nq_16k {s k : Nat} (hs : s < 16) (hk : k < 4) : (s.testBit k = true → nq_mk s 7 = nq k * nq_mk (nq_rm s k) 7 ∧ nq_mk s 7 / nq k = nq_mk (nq_rm s k) 7) ∧ ((nq_mk s 7 % nq k = 0) ↔ s.testBit k = true) ∧ 0 < nq_mk s k ∧ nq_mk s k ≤ 65535 := by
  have c := List.all_eq_true.mp (Bool.and_eq_true_iff.mp (List.all_eq_true.mp nq_16_chk s (List.mem_range.mpr hs))).2 k (List.mem_range.mpr hk)
  obtain ⟨c, c3⟩ := Bool.and_eq_true_iff.mp c
  obtain ⟨c1, c2⟩ := Bool.and_eq_true_iff.mp c
  refine ⟨fun q => ?_, of_decide_eq_true c2, of_decide_eq_true c3⟩
  rw [q, cond_true] at c1
  exact of_decide_eq_true c1
theorem nq_lt16 {s : Nat} (hs : s < 128) (h4 : s.testBit 4 = false) (h5 : s.testBit 5 = false) (h6 : s.testBit 6 = false) : s < 16 := by
  have c : (List.range 128).all (fun s => decide (s.testBit 4 = false → s.testBit 5 = false → s.testBit 6 = false → s < 16)) = true := by decide +kernel
  exact of_decide_eq_true (List.all_eq_true.mp c s (List.mem_range.mpr hs)) h4 h5 h6
/-- what the order of a number of level 4 is -/
theorem nq_ord {b : nb_F} (hb : nb_in 4 b) (h0 : b ≠ 0) : nq_S b 7 < 16 ∧ nb_pow (nq_mk (nq_S b 7) 7) b = 1 ∧ ∀ d, nb_pow d b = 1 → 0 < d → nq_mk (nq_S b 7) 7 ≤ d := by
  obtain ⟨s1, s2, s3, -⟩ := nq_S_ok h0 7 (by omega)
  have h65 := nb_pow_lev (k := 4) (by decide) hb h0
  have bit : ∀ j, j < 7 → (2 ^ (2 ^ 4) - 1) ∣ nq_N / nq j → (nq_S b 7).testBit j = false := fun j hj hd => by
    cases hc : (nq_S b 7).testBit j with
    | false => rfl
    | true => exact absurd (nb_pow_dvd h65 hd) ((s3 j hj).mp hc)
  have h16 := nq_lt16 s1 (bit 4 (by decide) (by decide +kernel)) (bit 5 (by decide) (by decide +kernel)) (bit 6 (by decide) (by decide +kernel))
  refine ⟨h16, s2, fun d hd hp => ?_⟩
  have hg := nb_pow_gcd _ _ hd s2
  have g1 : Nat.gcd d (nq_mk (nq_S b 7) 7) ∣ nq_mk (nq_S b 7) 7 := Nat.gcd_dvd_right _ _
  have g2 : Nat.gcd d (nq_mk (nq_S b 7) 7) ≤ d := Nat.gcd_le_left _ hp
  generalize Nat.gcd d (nq_mk (nq_S b 7) 7) = g at hg g1 g2
  refine Nat.le_trans (Nat.le_of_dvd (Nat.pos_of_ne_zero (fun z => ?_)) (nq_all_dvd s1 7 (Nat.le_refl _) (fun k hk hk2 => ?_))) g2
  · rw [z] at g1
    have := Nat.eq_zero_of_zero_dvd g1
    have := (nq_16 h16).2.1
    omega
  · have hk4 : k < 4 := by
      by_cases q : k < 4
      · exact q
      · have c : (nq_S b 7).testBit k = false := Nat.testBit_lt_two_pow (Nat.lt_of_lt_of_le h16 (Nat.pow_le_pow_right (n := 2) (by decide) (by omega : 4 ≤ k)))
        rw [c] at hk2; cases hk2
    rcases nq_prime hk4 (Nat.gcd_dvd_right g (nq k)) with q | q
    · exfalso
      obtain ⟨e1, -⟩ := (nq_16k h16 hk4).1 hk2
      have g3 : g ∣ nq_mk (nq_rm (nq_S b 7) k) 7 := Nat.Coprime.dvd_of_dvd_mul_left q (e1 ▸ g1)
      have r := (nq_rm_ok s1 (k := k) hk).2.2 hk2
      have g4 : nq_mk (nq_rm (nq_S b 7) k) 7 ∣ nq_N / nq k := by rw [← r]; exact Nat.gcd_dvd_left _ _
      exact (s3 k hk).mp hk2 (nb_pow_dvd hg (Nat.dvd_trans g3 g4))
    · rw [← q]; exact Nat.gcd_dvd_left _ _
/-- powers below the order are unlike -/
theorem nb_pow_ne {b : nb_F} (h0 : b ≠ 0) {o : Nat} (hmin : ∀ d, nb_pow d b = 1 → 0 < d → o ≤ d) {i j : Nat} (hij : i < j) (hj : j < o) : nb_pow i b ≠ nb_pow j b := by
  intro h
  have hz : ∀ n, nb_pow n b ≠ 0 := by
    intro n
    induction n with
    | zero => rw [nb_pow_0]; decide
    | succ n ih => rw [nb_pow_s]; intro z; rcases nb_nz z with q | q; exact ih q; exact h0 q
  have e : j = i + (j - i) := by omega
  rw [e, nb_pow_add] at h
  have h2 : nb_mul (nb_pow i b) (nb_pow (j - i) b ^^^ 1) = 0 := by rw [nb_mul_add, nb_mul_1, ← h, nb_xx]
  rcases nb_nz h2 with q | q
  · exact hz i q
  · have := hmin (j - i) (nb_x_eq q) (by omega)
    omega
theorem nodup_mapR {f : Nat → nb_F} {n : Nat} (h : ∀ i j, i < j → j < n → f i ≠ f j) : ((List.range n).map f).Nodup := by
  unfold List.Nodup
  rw [List.pairwise_iff_getElem]
  intro i j hi hj hij
  simp only [List.length_map, List.length_range] at hi hj
  rw [List.getElem_map, List.getElem_map, List.getElem_range, List.getElem_range]
  exact h i j hij hj
/-- roots of 1 are powers of what has the order -/
theorem nb_cyc {b a : nb_F} (h0 : b ≠ 0) {o : Nat} (ho : 0 < o) (hb : nb_pow o b = 1) (hmin : ∀ d, nb_pow d b = 1 → 0 < d → o ≤ d) (ha : nb_pow o a = 1) : ∃ t, t < o ∧ nb_pow t b = a := by
  by_cases h : a ∈ (List.range o).map (fun i => nb_pow i b)
  · obtain ⟨t, h1, h2⟩ := List.mem_map.mp h
    exact ⟨t, List.mem_range.mp h1, h2⟩
  · exfalso
    have hd : (a :: (List.range o).map (fun i => nb_pow i b)).Nodup := List.nodup_cons.mpr ⟨h, nodup_mapR (fun i j h1 h2 => nb_pow_ne h0 hmin h1 h2)⟩
    have ev : ∀ x, nb_pow o x = 1 → pf_e (o + 1) (fun i => if i = 0 then 1 else if i = o then 1 else 0) x = 0 := by
      intro x hx
      rw [pf_e_hi, hx, nb_1_mul]
      obtain ⟨p, rfl⟩ : ∃ p, o = p + 1 := ⟨o - 1, by omega⟩
      rw [pf_e_s, pf_e_z (n := p) (fun i hi => by rw [if_neg (by omega), if_neg (by omega)]), nb_mul_0, nb_x0, if_pos rfl, if_neg (by omega), if_pos rfl, nb_xx]
    have hz := pf_zero _ (o + 1) (fun i => if i = 0 then 1 else if i = o then 1 else 0) hd (by simp) (fun x hx => by
      rcases List.mem_cons.mp hx with q | q
      · rw [q]; exact ev a ha
      · obtain ⟨t, -, h2⟩ := List.mem_map.mp q
        rw [← h2]
        refine ev _ ?_
        rw [nb_pow_pow, Nat.mul_comm, ← nb_pow_pow, hb, nb_one_pow]) 0 (by omega)
    rw [if_pos rfl] at hz
    exact absurd hz (by decide)
/-! the class: what is left by a prime, and both joined -/
theorem bn_lN (n : Nat) : bn (BitVec.ofNat 64 n) = lN n := rfl
theorem nb_lN {n : Nat} (h : n < 2 ^ 64) : (nb (lN n)).toNat = n := by
  show (BitVec.ofNat 64 n).toNat = n
  rw [BitVec.toNat_ofNat, Nat.mod_eq_of_lt h]
theorem lN_cmpL {a b : Nat} (ha : a < 2 ^ 63) (hb : b < 2 ^ 63) : (lg_cmp (lN a) (lN b) < 0) ↔ a < b := by rw [lg_cmp_lt, pk_lLT ha hb]
theorem lg_cmpP {a : Nat} (ha : a < 2 ^ 63) (h : 0 < a) : 0 < lg_cmp (lN a) 0 := by
  have e1 : ¬ (lg_cmp (lN a) (lN 0) = 0) := fun z => by
    have := (lg_cmp_eq _ _).mp z
    have := (pk_lEQ ha (b := 0) (by omega)).mp this
    omega
  have e2 : ¬ (lg_cmp (lN a) (lN 0) < 0) := fun z => by
    have := (pk_lLT ha (b := 0) (by omega)).mp ((lg_cmp_lt _ _).mp z)
    omega
  have e3 : (0 : Int64) = lN 0 := rfl
  rw [e3]
  generalize lg_cmp (lN a) (lN 0) = x at e1 e2
  exact Int32.lt_of_le_of_ne (Int32.not_lt.mp e2) (Ne.symm e1)
theorem lN_cmpE {a b : Nat} (ha : a < 2 ^ 63) (hb : b < 2 ^ 63) : (lg_cmp (lN a) (lN b) = 0) ↔ a = b := by rw [lg_cmp_eq, pk_lEQ ha hb]
theorem nu_rest_loop {a b : nb_F} {p t : Nat} (hp : p < 1000) (ht : t < p) (ha : nb_pow t b = a) (hu : ∀ i, i < t → nb_pow i b ≠ a) (m : qm_M) (d : Nat) : ∀ (f n : Nat), t - n = d → n ≤ t → d < f → L_Nu_restOf_6 f (bn a) (bn b) (lN p) (bn (nb_pow n b)) (lN n) m = some (some (.long (lN t)), m) := by
  induction d with
  | zero =>
    intro f n h1 h2 h3
    obtain ⟨f, rfl⟩ : ∃ g, f = g + 1 := ⟨f - 1, by omega⟩
    have e : n = t := by omega
    subst e
    show X_Nu_restOf_6 _ _ _ _ _ _ _ _ = _
    unfold X_Nu_restOf_6
    have c : lg_cmp (bn (nb_pow n b)) (bn a) = 0 := (lg_cmp_eq _ _).mpr (by rw [ha])
    rw [if_pos ((lN_cmpL (by omega) (by omega)).mpr ht), if_pos c]
  | succ d ih =>
    intro f n h1 h2 h3
    obtain ⟨f, rfl⟩ : ∃ g, f = g + 1 := ⟨f - 1, by omega⟩
    show X_Nu_restOf_6 _ _ _ _ _ _ _ _ = _
    unfold X_Nu_restOf_6
    have c : ¬ lg_cmp (bn (nb_pow n b)) (bn a) = 0 := fun z => hu n (by omega) (congrArg nb ((lg_cmp_eq _ _).mp z))
    rw [if_pos ((lN_cmpL (by omega) (by omega)).mpr (by omega)), if_neg c, nu_product, nb_bn, nb_bn, ← nb_pow_s, lN_1]
    dsimp only [qe_rL]
    exact ih f (n + 1) (by omega) (by omega) (by omega)
theorem nu_restOf {a b : nb_F} {p t : Nat} (hp : p < 1000) (ht : t < p) (ha : nb_pow t b = a) (hu : ∀ i, i < t → nb_pow i b ≠ a) (m : qm_M) : F_Nu_restOf (bn a) (bn b) (lN p) m = some (some (.long (lN t)), m) := by
  unfold F_Nu_restOf X_Nu_restOf_e
  exact nu_rest_loop hp ht ha hu m t 1000000 0 rfl (Nat.zero_le _) (by omega)
theorem nu_joined_loop {M p n r i0 : Nat} (hp0 : 0 < p) (hp : p < 1000) (hM : M ≤ 65535) (hn : n < 65536) (hi : i0 < p) (hr : r < 1000) (h0 : (n + i0 * M) % p = r) (hu : ∀ i, i < i0 → (n + i * M) % p ≠ r) (m : qm_M) (d : Nat) : ∀ (f i : Nat), i0 - i = d → i ≤ i0 → d < f → L_Nu_joined_6 f (lN M) (lN r) (lN p) (lN (n + i * M)) (lN i) m = some (some (.long (lN (n + i0 * M))), m) := by
  have hb : ∀ i, i < p → n + i * M < 2 ^ 62 := fun i hi => by
    have : i * M ≤ 1000 * 65535 := Nat.mul_le_mul (by omega) hM
    omega
  have hrem : ∀ i, i < p → qo_lrem (lN (n + i * M)) (lN p) = lN ((n + i * M) % p) := fun i hi => pk_lRem (by have := hb i hi; omega) hp0 (by omega)
  have hlt : ∀ x, x % p < 1000 := fun x => Nat.lt_of_lt_of_le (Nat.mod_lt _ hp0) (by omega)
  have hpz : (!decide (lN p = 0)) = true := by
    have : ¬ lN p = 0 := fun z => by
      have := (pk_lEQ (a := p) (b := 0) (by omega) (by omega)).mp z
      omega
    simp [this]
  induction d with
  | zero =>
    intro f i h1 h2 h3
    obtain ⟨f, rfl⟩ : ∃ g, f = g + 1 := ⟨f - 1, by omega⟩
    have e : i = i0 := by omega
    subst e
    show X_Nu_joined_6 _ _ _ _ _ _ _ = _
    unfold X_Nu_joined_6
    rw [if_pos ((lN_cmpL (by omega) (by omega)).mpr hi), hpz, hrem i hi, if_pos ((lN_cmpE (by have := hlt (n + i * M); omega) (by omega)).mpr h0)]
    rfl
  | succ d ih =>
    intro f i h1 h2 h3
    obtain ⟨f, rfl⟩ : ∃ g, f = g + 1 := ⟨f - 1, by omega⟩
    show X_Nu_joined_6 _ _ _ _ _ _ _ = _
    unfold X_Nu_joined_6
    rw [if_pos ((lN_cmpL (by omega) (by omega)).mpr (by omega)), hpz, hrem i (by omega), if_neg (fun z => hu i (by omega) ((lN_cmpE (by have := hlt (n + i * M); omega) (by omega)).mp z)), lN_add, lN_1, show n + i * M + M = n + (i + 1) * M by rw [Nat.add_mul]; omega]
    exact ih f (i + 1) (by omega) (by omega) (by omega)
theorem nu_joined {M p t : Nat} (hc : Nat.gcd M p = 1) (hM0 : 0 < M) (hp0 : 0 < p) (hp : p < 1000) (hM : M ≤ 65535) (m : qm_M) : F_Nu_joined (lN (t % M)) (lN M) (lN (t % p)) (lN p) m = some (some (.long (lN (t % (M * p)))), m) := by
  unfold F_Nu_joined X_Nu_joined_e
  have e1 : t % (M * p) % M = t % M := Nat.mod_mul_right_mod t M p
  have e2 : t % (M * p) % p = t % p := Nat.mod_mul_left_mod t M p
  have hT : t % (M * p) < M * p := Nat.mod_lt _ (Nat.mul_pos hM0 hp0)
  generalize t % (M * p) = T at e1 e2 hT
  have hi : T / M < p := (Nat.div_lt_iff_lt_mul hM0).mpr (by rw [Nat.mul_comm]; exact hT)
  have hTe : t % M + T / M * M = T := by rw [← e1, Nat.mul_comm]; exact Nat.mod_add_div T M
  have h := nu_joined_loop (M := M) (p := p) (n := t % M) (r := t % p) (i0 := T / M) hp0 hp hM (by have := Nat.mod_lt t hM0; omega) hi (by have := Nat.mod_lt t hp0; omega) (by rw [hTe, e2]) (fun i hi2 z => by
    have z2 : (t % M + i * M) % p = T % p := z.trans e2.symm
    rw [← hTe] at z2
    have e3 : t % M + T / M * M = (t % M + i * M) + (T / M - i) * M := by
      have : T / M = i + (T / M - i) := by omega
      conv => lhs; rw [this]
      rw [Nat.add_mul]
      omega
    rw [e3] at z2
    have z3 : p ∣ (T / M - i) * M := by
      have z4 := Nat.sub_mod_eq_zero_of_mod_eq z2.symm
      rw [Nat.add_sub_cancel_left] at z4
      exact Nat.dvd_of_mod_eq_zero z4
    have z5 : p ∣ T / M - i := Nat.Coprime.dvd_of_dvd_mul_right (by rw [Nat.Coprime, Nat.gcd_comm]; exact hc) z3
    have := Nat.le_of_dvd (by omega) z5
    omega) m (T / M) 1000000 0 rfl (Nat.zero_le _) (by omega)
  rw [Nat.zero_mul, Nat.add_zero, hTe] at h
  exact h
theorem nw_p4 {i : Nat} (hi : i < 4) : nw_p i = nq i ∧ 0 < nq i ∧ nq i < 1000 := by
  have c : (List.range 4).all (fun i => decide (nw_p i = nq i ∧ 0 < nq i ∧ nq i < 1000)) = true := by decide +kernel
  exact of_decide_eq_true (List.all_eq_true.mp c i (List.mem_range.mpr hi))
theorem nq_mk_le4 {s : Nat} (hs : s < 16) {i : Nat} (hi : i < 4) (hb : s.testBit i = true) : nq_mk s i * nq i ≤ 65535 := by
  have c : (List.range 16).all (fun s => (List.range 4).all (fun i => decide (s.testBit i = true → nq_mk s i * nq i ≤ 65535))) = true := by decide +kernel
  exact of_decide_eq_true (List.all_eq_true.mp (List.all_eq_true.mp c s (List.mem_range.mpr hs)) i (List.mem_range.mpr hi)) hb
theorem nb_pow_mod {x : nb_F} {p : Nat} (h : nb_pow p x = 1) (t : Nat) : nb_pow (t % p) x = nb_pow t x := by
  have e : t % p + p * (t / p) = t := Nat.mod_add_div t p
  conv => rhs; rw [← e]
  rw [nb_pow_add, nb_pow_1 p h, nb_mul_1]
theorem nu_log_loop {b : nb_F} (h0 : b ≠ 0) {s : Nat} (hs : s < 16) (hb : nb_pow (nq_mk s 7) b = 1) (hmin : ∀ d, nb_pow d b = 1 → 0 < d → nq_mk s 7 ≤ d) {t : Nat} (ht : t < nq_mk s 7) (m : qm_M) (d : Nat) : ∀ (f i : Nat), 4 - i = d → i ≤ 4 → d < f →
    L_Nu_logarithm_60 f (bn (nb_pow t b)) (bn b) (lN (nq_mk s 7)) (lN (t % nq_mk s i)) (lN (nq_mk s i)) (nI i) m = some (some (.int (nI t)), m) := by
  have h16 := nq_16 hs
  induction d with
  | zero =>
    intro f i h1 h2 h3
    obtain ⟨f, rfl⟩ : ∃ g, f = g + 1 := ⟨f - 1, by omega⟩
    have e : i = 4 := by omega
    subst e
    show X_Nu_logarithm_60 _ _ _ _ _ _ _ _ _ _ _ _ = _
    unfold X_Nu_logarithm_60
    rw [if_neg (by decide), ← h16.1, Nat.mod_eq_of_lt ht, lN_i]
  | succ d ih =>
    intro f i h1 h2 h3
    obtain ⟨f, rfl⟩ : ∃ g, f = g + 1 := ⟨f - 1, by omega⟩
    have hi4 : i < 4 := by omega
    obtain ⟨k1, k2, k3, k4⟩ := nq_16k hs hi4
    obtain ⟨p1, p2, p3⟩ := nw_p4 hi4
    have ih2 := ih f (i + 1) (by omega) (by omega) (by omega)
    show X_Nu_logarithm_60 _ _ _ _ _ _ _ _ _ _ _ _ = _
    unfold X_Nu_logarithm_60
    have e1 : nI i < (4 : Int32) := nI_lt (a := i) (b := 4) hi4 (by omega)
    have e2 : qm_gL m 1000002 (nI i).toNatClampNeg = lN (nq i) := by rw [← p1]; exact nb_inj (no_prm m (by omega))
    have hpz : (!decide (lN (nq i) = 0)) = true := by
      have : ¬ lN (nq i) = 0 := fun z => by
        have := (pk_lEQ (a := nq i) (b := 0) (by omega) (by omega)).mp z
        omega
      simp [this]
    have hrem : qo_lrem (lN (nq_mk s 7)) (lN (nq i)) = lN (nq_mk s 7 % nq i) := pk_lRem (by omega) p2 (by omega)
    have hml : nq_mk s 7 % nq i < 1000 := Nat.lt_of_lt_of_le (Nat.mod_lt _ p2) (by omega)
    have hpp : 0 < lg_cmp (lN (nq i)) 0 := lg_cmpP (by omega) p2
    rw [if_pos e1, qm_in_nI (by omega) (by omega), e2]
    dsimp only [qe_b, cond_true]
    rw [if_pos hpp, hpz, hrem, nI_1]
    dsimp only [qe_b, cond_true]
    by_cases q : s.testBit i = true
    · have hz : nq_mk s 7 % nq i = 0 := k2.mpr q
      have c0 : lg_cmp (lN (nq_mk s 7 % nq i)) 0 = 0 := (lN_cmpE (a := nq_mk s 7 % nq i) (b := 0) (by omega) (by omega)).mpr hz
      obtain ⟨g1, g2⟩ := k1 q
      have hdiv : lN (nq_mk s 7) / lN (nq i) = lN (nq_mk (nq_rm s i) 7) := by rw [pk_lDiv (by omega) p2 (by omega), g2]
      generalize hP : nq_mk (nq_rm s i) 7 = P at g1 g2 hdiv
      have hPl : P ≤ nq_mk s 7 := by rw [g1]; exact Nat.le_mul_of_pos_left P p2
      have tn : (nb (lN P)).toNat = P := nb_lN (by omega)
      rw [if_pos c0, hdiv, nu_raisedTo, tn]
      dsimp only [qe_rL]
      rw [nu_raisedTo, tn]
      dsimp only [qe_rL]
      have x3p : nb_pow (nq i) (nb_pow P b) = 1 := by rw [nb_pow_pow, Nat.mul_comm, ← g1, hb]
      have hP0 : 0 < P := Nat.pos_of_ne_zero (fun z => by rw [z, Nat.mul_zero] at g1; omega)
      have x3m : ∀ d, nb_pow d (nb_pow P b) = 1 → 0 < d → nq i ≤ d := fun d z1 z2 => by
        rw [nb_pow_pow] at z1
        have z3 := hmin _ z1 (Nat.mul_pos hP0 z2)
        rw [g1, Nat.mul_comm P d] at z3
        exact Nat.le_of_mul_le_mul_right z3 hP0
      have ex : nb_pow P (nb_pow t b) = nb_pow (t % nq i) (nb_pow P b) := by rw [nb_pow_mod x3p, nb_pow_pow, nb_pow_pow, Nat.mul_comm]
      have x3z : nb_pow P b ≠ 0 := fun z => by
        rw [z] at x3p
        obtain ⟨w, hw⟩ : ∃ w, nq i = w + 1 := ⟨nq i - 1, by omega⟩
        rw [hw, nb_pow_s, nb_mul_0] at x3p
        exact absurd x3p (by decide)
      rw [nb_bn, nb_bn, nu_restOf (t := t % nq i) p3 (Nat.mod_lt _ p2) ex.symm (fun i2 hi2 z => nb_pow_ne x3z x3m hi2 (Nat.mod_lt _ p2) (z.trans ex))]
      dsimp only [qe_rL]
      rw [nu_joined (nq_cop (by omega) (by omega)) k3 p2 p3 k4]
      dsimp only [qe_rL]
      rw [show nq_mk s (i + 1) = nq_mk s i * nq i by simp only [nq_mk, q, if_true]] at ih2
      rw [lN_mul]
      exact ih2
    · have c0 : ¬ lg_cmp (lN (nq_mk s 7 % nq i)) 0 = 0 := fun z => q (k2.mp ((lN_cmpE (a := nq_mk s 7 % nq i) (b := 0) (by omega) (by omega)).mp z))
      rw [show nq_mk s (i + 1) = nq_mk s i by simp only [nq_mk, q]; rfl] at ih2
      rw [if_neg c0]
      exact ih2
/-! both answer alike -/
theorem nw_lev4 (x : nb_F) (h : ¬ (4 : Int32) < nI (nb_lev x)) : nb_in 4 x := by
  have h1 := nb_lev_lt x
  have h2 : nb_lev x ≤ 4 := by
    by_cases q : nb_lev x ≤ 4
    · exact q
    · exact absurd (nI_lt (a := 4) (b := nb_lev x) (by omega) (by omega)) h
  exact nb_in_mono h2 (nb_lev_in x)
theorem nb_pow_z {n : Nat} (h : 0 < n) : nb_pow n 0 = 0 := by
  obtain ⟨k, rfl⟩ : ∃ k, n = k + 1 := ⟨n - 1, by omega⟩
  rw [nb_pow_s, nb_mul_0]
theorem nb_pow_nz {b : nb_F} (h0 : b ≠ 0) (n : Nat) : nb_pow n b ≠ 0 := by
  induction n with
  | zero => rw [nb_pow_0]; decide
  | succ n ih => rw [nb_pow_s]; intro z; rcases nb_nz z with q | q; exact ih q; exact h0 q
theorem nu_raisedN (x : Int64) {n : Nat} (h : n < 2 ^ 64) (m : qm_M) : F_Nu_raisedTo x (lN n) m = some (some (.long (bn (nb_pow n (nb x)))), m) := by rw [nu_raisedTo, nb_lN h]
/-- the class's answer: the first power, or none -/
theorem nu_logarithm {a b : nb_F} (ha : nb_in 4 a) (hb : nb_in 4 b) (m : qm_M) : (∃ t, t ≤ 65536 ∧ (∀ i, i < t → ¬ nb_pow i b = a) ∧ nb_pow t b = a ∧ F_Nu_logarithm (bn a) (bn b) m = some (some (.int (nI t)), m)) ∨ ((∀ i, i ≤ 65536 → ¬ nb_pow i b = a) ∧ F_Nu_logarithm (bn a) (bn b) m = some (some (.int (-1)), m)) := by
  unfold F_Nu_logarithm X_Nu_logarithm_e
  by_cases h1 : a = 1
  · left
    refine ⟨0, by omega, fun i hi => absurd hi (Nat.not_lt_zero _), by rw [nb_pow_0, h1], ?_⟩
    rw [if_pos ((no_cmpo (bn a)).mpr h1)]
    rfl
  · rw [if_neg (fun z => h1 ((no_cmpo (bn a)).mp z))]
    by_cases hz : a = 0 ∨ b = 0
    · have e : (if lg_cmp (bn a) 0 = 0 then L_Nu_logarithm_20 (bn a) (bn b) m else if lg_cmp (bn b) 0 = 0 then L_Nu_logarithm_20 (bn a) (bn b) m else
          qe_rL (F_Nu_orderOf (bn b) m) fun x1 m1 => qe_rL (F_Nu_raisedTo (bn a) x1 m1) fun x2 m2 => if lg_cmp x2 1 = 0 then L_Nu_logarithm_60 1000000 (bn a) (bn b) x1 0 1 0 m2 else some (some (.int (-1)), m2)) = L_Nu_logarithm_20 (bn a) (bn b) m := by
        by_cases q : a = 0
        · rw [if_pos ((no_cmpz (bn a)).mpr q)]
        · rw [if_neg (fun z => q ((no_cmpz (bn a)).mp z)), if_pos ((no_cmpz (bn b)).mpr (hz.resolve_left q))]
      rw [e]
      unfold L_Nu_logarithm_20 X_Nu_logarithm_20
      by_cases q : a = b
      · have h0 : a = 0 ∧ b = 0 := by
          rcases hz with z | z
          · exact ⟨z, q ▸ z⟩
          · exact ⟨q.trans z, z⟩
        left
        refine ⟨1, by omega, fun i hi z => h1 ?_, ?_, ?_⟩
        · have : i = 0 := by omega
          rw [← z, this, nb_pow_0]
        · rw [h0.2, nb_pow_z (by omega), h0.1]
        · rw [if_pos ((lg_cmp_eq (bn a) (bn b)).mpr (by rw [q]))]
          rfl
      · right
        refine ⟨fun i hi z => ?_, ?_⟩
        · by_cases qb : b = 0
          · by_cases qi : i = 0
            · exact h1 (by rw [← z, qi, nb_pow_0])
            · rw [qb, nb_pow_z (by omega)] at z
              exact q (z.symm.trans qb.symm)
          · have qa := hz.resolve_right qb
            exact nb_pow_nz qb i (z.trans qa)
        · rw [if_neg (fun z => q (congrArg nb ((lg_cmp_eq (bn a) (bn b)).mp z)))]
    · have ha0 : a ≠ 0 := fun z => hz (Or.inl z)
      have hb0 : b ≠ 0 := fun z => hz (Or.inr z)
      obtain ⟨s1, s2, s3⟩ := nq_ord hb hb0
      have h16 := nq_16 s1
      rw [if_neg (fun z => ha0 ((no_cmpz (bn a)).mp z)), if_neg (fun z => hb0 ((no_cmpz (bn b)).mp z)), nu_orderOfE]
      dsimp only [qe_rL]
      unfold nw_order
      rw [nb_bn, if_neg hb0, bn_lN]
      generalize nq_S b 7 = s at s1 s2 s3 h16 ⊢
      rw [nu_raisedN (bn a) (Nat.lt_of_le_of_lt h16.2.2 (by decide)), nb_bn]
      dsimp only [qe_rL]
      by_cases q : nb_pow (nq_mk (s) 7) a = 1
      · obtain ⟨t, t1, t2⟩ := nb_cyc hb0 h16.2.1 s2 s3 q
        left
        refine ⟨t, by omega, fun i hi z => nb_pow_ne hb0 s3 hi t1 (z.trans t2.symm), t2, ?_⟩
        have h := nu_log_loop hb0 s1 s2 s3 t1 m 4 1000000 0 rfl (by omega) (by omega)
        rw [show nq_mk (s) 0 = 1 from rfl, Nat.mod_one, t2] at h
        have c : lg_cmp (bn (nb_pow (nq_mk s 7) a)) 1 = 0 := (no_oB _).mpr q
        rw [if_pos c]
        exact h
      · right
        refine ⟨fun i _ z => q ?_, ?_⟩
        · rw [← z, nb_pow_pow, Nat.mul_comm, ← nb_pow_pow, s2, nb_one_pow]
        · have c : ¬ lg_cmp (bn (nb_pow (nq_mk s 7) a)) 1 = 0 := fun z => q ((no_oB _).mp z)
          rw [if_neg c]
/-- both answer alike -/
theorem nw_log {m : qm_M} (hm : nt_ok 64 m) (a b : Int64) (mc : qm_M) : ∃ v m1, F_T_log a b mc = some (some (.int v), mc) ∧ F_M_log a b m = some (some (.int v), m1) ∧ fr no_S nv_T m m1 := by
  unfold F_T_log X_T_log_e F_M_log X_M_log_e
  rw [nu_levelOf, mt_levelOf]
  dsimp only [qe_rI]
  by_cases h1 : (4 : Int32) < nI (nb_lev (nb a))
  · rw [if_pos h1, if_pos h1]
    exact ⟨-2, m, rfl, rfl, fr.rf m⟩
  · rw [if_neg h1, if_neg h1, nu_levelOf, mt_levelOf]
    dsimp only [qe_rI]
    by_cases h2 : (4 : Int32) < nI (nb_lev (nb b))
    · rw [if_pos h2, if_pos h2]
      exact ⟨-2, m, rfl, rfl, fr.rf m⟩
    · rw [if_neg h2, if_neg h2]
      have ha := nw_lev4 _ h1
      have hb := nw_lev4 _ h2
      obtain ⟨m1, g1, g2, g3⟩ := mt_laysBy hm hb
      have eb : bn (nb b) = b := rfl
      have ea : bn (nb a) = a := rfl
      rw [eb] at g1
      rw [g1]
      dsimp only [qe_rV]
      have hl := mt_log_loop g2 (nb a) 65537 1000000 0 rfl (by omega) (by omega)
      rcases nu_logarithm ha hb mc with ⟨t, t1, t2, t3, t4⟩ | ⟨t1, t2⟩
      · rw [ea, eb] at t4
        rw [t4]
        exact ⟨nI t, m1, rfl, hl.1 t (Nat.zero_le _) t1 (fun i _ => t2 i) t3, g3⟩
      · rw [ea, eb] at t2
        rw [t2]
        exact ⟨-1, m1, rfl, hl.2 (fun i _ => t1 i), g3⟩
