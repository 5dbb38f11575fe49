/-! inverses, roots and powers: what the class and the model compute -/
theorem nb_in_shr {k : Nat} {x : nb_F} (h : nb_in k x) : x >>> (2 ^ k) = 0 := by
  apply BitVec.eq_of_getLsbD_eq
  intro i hi
  rw [BitVec.getLsbD_ushiftRight]
  by_cases q : 2 ^ k + i < 64
  · have := nb_in_bit.mp h (2 ^ k + i) q (by omega)
    rw [BitVec.getLsbD_eq_getElem q, this]
    simp
  · rw [BitVec.getLsbD_of_ge _ _ (by omega)]
    simp
theorem nb_shr_in {k : Nat} {x : nb_F} (h : x >>> (2 ^ k) = 0) : nb_in k x := by
  rw [nb_in_bit]
  intro i hi hk
  have e : (x >>> (2 ^ k)).getLsbD (i - 2 ^ k) = false := by
    rw [h]
    simp
  rw [BitVec.getLsbD_ushiftRight, Nat.add_sub_cancel' hk, BitVec.getLsbD_eq_getElem hi] at e
  exact e
theorem nb_in_upI {k : Nat} {x : nb_F} (h : nb_in k x) : nb_in (k + 1) x := by
  rw [nb_in_bit] at h ⊢
  intro i hi hk
  rw [Nat.pow_succ] at hk
  exact h i hi (by omega)
theorem bn_xor (x y : nb_F) : bn x ^^^ bn y = bn (x ^^^ y) := rfl
theorem bn_and (x y : nb_F) : bn x &&& bn y = bn (x &&& y) := rfl
theorem nb_norm_in {k : Nat} (hk6 : k < 6) {r : nb_F} (hr : nb_in (k + 1) r) : nb_in k (nb_mul r (r ^^^ (r >>> (2 ^ k)))) := by
  rw [nb_norm hk6 hr]
  refine nb_in_add (nb_in_mul (by omega) (nb_lo_in k hk6 r hr) (nb_in_add (nb_lo_in k hk6 r hr) (nb_hi_in k hk6 r hr))) ?_
  rw [nb_T_mul k hk6, nb_T1 k hk6]
  exact nb_in_mul (by omega) (nb_e_in (by have : 0 < 2 ^ k := Nat.pow_pos (by decide); omega)) (nb_in_mul (by omega) (nb_hi_in k hk6 r hr) (nb_hi_in k hk6 r hr))
theorem nb_norm_nz {k : Nat} (hk6 : k < 6) {r : nb_F} (hr : nb_in (k + 1) r) (hz : ¬ r >>> (2 ^ k) = 0) (h0 : r ≠ 0) : nb_mul r (r ^^^ (r >>> (2 ^ k))) ≠ 0 := by
  intro q
  rcases nb_nz q with q | q
  · exact h0 q
  · have hh := nb_hi_in k hk6 r hr
    have e := nb_x_eq q
    rw [← e] at hh
    exact hz (nb_in_shr hh)
theorem nu_inv_base (f : Nat) (y r : nb_F) (m : qm_M) (h0 : r ≠ 0) : L_Nu_inverted_8 (f + 1) (bn y) (bn r) (nI 0 - 1) m = some (some (.long (bn y)), m) := by
  show X_Nu_inverted_8 _ _ _ _ _ _ _ _ = _
  unfold X_Nu_inverted_8
  rw [if_pos (by decide), if_neg (fun q => h0 ((no_cmpz (bn r)).mp q))]
theorem nu_inv_low {k : Nat} (hk6 : k < 6) (f : Nat) (y r : nb_F) (m : qm_M) (hz : r >>> (2 ^ k) = 0) : L_Nu_inverted_8 (f + 1) (bn y) (bn r) (nI k) m = L_Nu_inverted_8 f (bn y) (bn r) (nI k - 1) m := by
  have hsh : qo_lushr (bn r) (nI (2 ^ k)) = bn (r >>> (2 ^ k)) := nb_inj (no_lushr _ (no_p2 hk6))
  rw [hz] at hsh
  show X_Nu_inverted_8 _ _ _ _ _ _ _ _ = _
  unfold X_Nu_inverted_8
  rw [if_neg (nI_pos (by omega)), no_ishl1 (by omega), hsh, if_pos ((no_cmpz (bn 0)).mpr rfl), ← Int32.sub_eq_add_neg]
theorem nu_inv_step {k : Nat} (hk6 : k < 6) (f : Nat) (y r : nb_F) (m : qm_M) (hr : nb_in (k + 1) r) (hz : ¬ r >>> (2 ^ k) = 0) : L_Nu_inverted_8 (f + 1) (bn y) (bn r) (nI k) m = L_Nu_inverted_8 f (bn (nb_mul y (r ^^^ (r >>> (2 ^ k))))) (bn (nb_mul r (r ^^^ (r >>> (2 ^ k))))) (nI k - 1) m := by
  have hsh : qo_lushr (bn r) (nI (2 ^ k)) = bn (r >>> (2 ^ k)) := nb_inj (no_lushr _ (no_p2 hk6))
  have hh := nb_hi_in k hk6 r hr
  have hl := nb_lo_in k hk6 r hr
  rw [nb_norm hk6 hr]
  generalize r >>> (2 ^ k) = h at hsh hz hh
  show X_Nu_inverted_8 _ _ _ _ _ _ _ _ = _
  unfold X_Nu_inverted_8
  rw [if_neg (nI_pos (by omega)), no_ishl1 (by omega), hsh, qm_in_nI hk6 (by omega), no_low m hk6, if_neg (fun q => hz ((no_cmpz (bn h)).mp q))]
  dsimp only [qe_b, cond_true]
  rw [bn_and, bn_xor, bn_xor, nI_1, nu_sharedN 10 (k + 1) (by omega) (by omega) (bn y) (bn (r ^^^ h)) m (show nb_in (k + 1) (nb (bn (r ^^^ h))) from nb_in_add hr (nb_in_upI hh))]
  dsimp only [qe_rL]
  rw [nu_sharedN 10 k (by omega) (by omega) (bn (r &&& nb_low k)) (bn (r &&& nb_low k ^^^ h)) m (show nb_in k (nb (bn (r &&& nb_low k ^^^ h))) from nb_in_add hl hh)]
  dsimp only [qe_rL]
  rw [nu_square]
  dsimp only [qe_rL]
  rw [nu_toppedBy (by omega)]
  dsimp only [qe_rL]
  rw [← Int32.sub_eq_add_neg, bn_xor]
  simp only [nb_bn]
theorem nu_inv_loop (a : nb_F) (m : qm_M) (k : Nat) : ∀ (f : Nat) (y r : nb_F), k ≤ 6 → k < f → nb_mul a y = r → r ≠ 0 → nb_in k r → L_Nu_inverted_8 f (bn y) (bn r) (nI k - 1) m = some (some (.long (bn (nb_inv a))), m) := by
  induction k with
  | zero =>
    intro f y r _ hf h h0 hr
    obtain ⟨f, rfl⟩ : ∃ g, f = g + 1 := ⟨f - 1, by omega⟩
    rw [nu_inv_base f y r m h0]
    rcases nb_in0 hr with q | q
    · exact absurd q h0
    · rw [nb_inv_of (h.trans q)]
  | succ k ih =>
    intro f y r hk hf h h0 hr
    obtain ⟨f, rfl⟩ : ∃ g, f = g + 1 := ⟨f - 1, by omega⟩
    have hk6 : k < 6 := by omega
    rw [nI_pred]
    by_cases hz : r >>> (2 ^ k) = 0
    · rw [nu_inv_low hk6 f y r m hz]
      exact ih f y r (by omega) (by omega) h h0 (nb_shr_in hz)
    · rw [nu_inv_step hk6 f y r m hr hz]
      exact ih f _ _ (by omega) (by omega) (by rw [← nb_assoc, h]) (nb_norm_nz hk6 hr hz h0) (nb_norm_in hk6 hr)
theorem nu_inv_zero (m : qm_M) (k : Nat) : ∀ (f : Nat) (y : nb_F), k ≤ 6 → k < f → L_Nu_inverted_8 f (bn y) (bn 0) (nI k - 1) m = some (some (.long (bn 0)), m) := by
  induction k with
  | zero =>
    intro f y _ hf
    obtain ⟨f, rfl⟩ : ∃ g, f = g + 1 := ⟨f - 1, by omega⟩
    show X_Nu_inverted_8 _ _ _ _ _ _ _ _ = _
    unfold X_Nu_inverted_8
    rw [if_pos (by decide), if_pos ((no_cmpz (bn 0)).mpr rfl)]
    rfl
  | succ k ih =>
    intro f y hk hf
    obtain ⟨f, rfl⟩ : ∃ g, f = g + 1 := ⟨f - 1, by omega⟩
    rw [nI_pred, nu_inv_low (by omega) f y 0 m (nb_lin0 (nb_shr (2 ^ k)))]
    exact ih f y (by omega) (by omega)
theorem nu_inverted (x : Int64) (m : qm_M) : F_Nu_inverted x m = some (some (.long (bn (nb_inv (nb x)))), m) := by
  unfold F_Nu_inverted X_Nu_inverted_e
  by_cases h : nb x = 0
  · rw [h, nb_inv_0]
    have e : x = bn 0 := nb_inj h
    rw [e]
    exact nu_inv_zero m 6 1000000 1 (by omega) (by omega)
  · exact nu_inv_loop (nb x) m 6 1000000 1 (nb x) (by omega) (by omega) (nb_mul_1 _) h (nb_in6 _)
/-! squaring again and again -/
def nb_sqN : Nat → nb_F → nb_F
  | 0, x => x
  | n + 1, x => nb_sqN n (nb_sq x)
theorem nb_sqN_add (x : nb_F) (p : Nat) : ∀ (q : Nat) (x : nb_F), nb_sqN (p + q) x = nb_sqN p (nb_sqN q x)
  | 0, _ => rfl
  | q + 1, x => nb_sqN_add x p q (nb_sq x)
theorem nb_sqN_lin : ∀ n, nb_lin (nb_sqN n)
  | 0 => nb_idl
  | n + 1 => fun x y => by
    show nb_sqN n (nb_sq (x ^^^ y)) = nb_sqN n (nb_sq x) ^^^ nb_sqN n (nb_sq y)
    rw [nb_sq_lin, nb_sqN_lin n]
theorem nb_sq_mul (x y : nb_F) : nb_sq (nb_mul x y) = nb_mul (nb_sq x) (nb_sq y) := by
  unfold nb_sq
  rw [nb_assoc, ← nb_assoc y x y, nb_comm y x, nb_assoc x y y, ← nb_assoc]
theorem nb_sqN_0 (x : nb_F) : nb_sqN 0 x = x := rfl
theorem nb_sqN_s (n : Nat) (x : nb_F) : nb_sqN (n + 1) x = nb_sqN n (nb_sq x) := rfl
theorem nb_sqN_mul (n : Nat) : ∀ (x y : nb_F), nb_sqN n (nb_mul x y) = nb_mul (nb_sqN n x) (nb_sqN n y) := by
  induction n with
  | zero =>
    intro x y
    rw [nb_sqN_0, nb_sqN_0, nb_sqN_0]
  | succ n ih =>
    intro x y
    rw [nb_sqN_s, nb_sqN_s, nb_sqN_s, nb_sq_mul, ih]
theorem nb_sq_1 : nb_sq 1 = 1 := nb_mul_1 1
theorem nb_sqN_1 : ∀ n, nb_sqN n 1 = 1
  | 0 => rfl
  | n + 1 => by
    show nb_sqN n (nb_sq 1) = 1
    rw [nb_sq_1, nb_sqN_1 n]
theorem nb_pow_sqN : ∀ (n : Nat) (x : nb_F), nb_pow (2 ^ n) x = nb_sqN n x
  | 0, x => nb_1_mul x
  | n + 1, x => by
    show _ = nb_sqN n (nb_sq x)
    rw [← nb_pow_sqN n, nb_pow_sq, Nat.pow_succ, Nat.mul_comm]
def nb_sqNA : Nat → nb_F → nb_F
  | 0, x => x
  | n + 1, x => nb_sqNA n (nb_sqA 6 x)
theorem nb_sqNA_eq : ∀ (n : Nat) (x : nb_F), nb_sqNA n x = nb_sqN n x
  | 0, _ => rfl
  | n + 1, x => by
    show nb_sqNA n (nb_sqA 6 x) = nb_sqN n (nb_sq x)
    rw [nb_sqNA_eq n, nb_sqA_eq]
theorem nb_cjA : ∀ k, k < 6 → nb_sqNA (2 ^ k) (nb_e (2 ^ k)) = nb_e (2 ^ k) ^^^ 1 := nb_k6 (by decide +kernel) (by decide +kernel) (by decide +kernel) (by decide +kernel) (by decide +kernel) (by decide +kernel)
theorem nb_frob : ∀ k, k < 7 → ∀ x, nb_in k x → nb_sqN (2 ^ k) x = x
  | 0, _, x, hx => by
    rcases nb_in0 hx with q | q
    · rw [q, nb_lin0 (nb_sqN_lin _)]
    · rw [q, nb_sqN_1]
  | k + 1, hk, x, hx => by
    have hk6 : k < 6 := by omega
    have ih := nb_frob k (by omega)
    have hs := nb_split k hk6 x hx
    have hl := ih _ (nb_lo_in k hk6 x hx)
    have hh := ih _ (nb_hi_in k hk6 x hx)
    have hc := nb_cjA k hk6
    rw [nb_sqNA_eq] at hc
    rw [nb_L_mul k hk6] at hs
    generalize x &&& nb_low k = l at hs hl
    generalize x >>> (2 ^ k) = h at hs hh
    have e : 2 ^ (k + 1) = 2 ^ k + 2 ^ k := by rw [Nat.pow_succ]; omega
    generalize 2 ^ k = n at *
    subst hs
    rw [e, nb_sqN_add 0, nb_sqN_lin n, nb_sqN_mul n, hc, hl, hh, nb_sqN_lin n, nb_sqN_mul n, nb_sqN_lin n, hc, hl, hh, nb_sqN_1, BitVec.xor_assoc (nb_e n) 1 1, nb_xx, nb_x0]
theorem nb_levA_in (x : nb_F) : ∀ d, d ≤ 6 → nb_levA d x < 7 ∧ nb_in (nb_levA d x) x
  | 0, _ => ⟨(by decide : 6 < 7), nb_in6 x⟩
  | d + 1, hd => by
    have e : nb_levA (d + 1) x = if x >>> (2 ^ (5 - d)) = 0 then 5 - d else nb_levA d x := rfl
    rw [e]
    by_cases h : x >>> (2 ^ (5 - d)) = 0
    · rw [if_pos h]
      exact ⟨by omega, nb_shr_in h⟩
    · rw [if_neg h]
      exact nb_levA_in x d (by omega)
theorem nb_lev_lt (x : nb_F) : nb_lev x < 7 := (nb_levA_in x 6 (by omega)).1
theorem nb_lev_in (x : nb_F) : nb_in (nb_lev x) x := (nb_levA_in x 6 (by omega)).2
theorem nb_pow_inv {k : Nat} (hk : k < 7) {x : nb_F} (hx : nb_in k x) (h0 : x ≠ 0) : nb_pow (2 ^ (2 ^ k) - 2) x = nb_inv x := by
  have h1 : nb_pow (2 ^ (2 ^ k)) x = x := by rw [nb_pow_sqN, nb_frob k hk x hx]
  have h2 : 2 ≤ 2 ^ (2 ^ k) := by
    have : 1 ≤ 2 ^ k := Nat.pow_pos (by decide)
    exact Nat.le_trans (by decide) (Nat.pow_le_pow_right (n := 2) (by decide) this)
  generalize 2 ^ (2 ^ k) = n at h1 h2
  obtain ⟨p, rfl⟩ : ∃ p, n = p + 1 + 1 := ⟨n - 2, by omega⟩
  have h3 : nb_mul (nb_mul (nb_pow p x) x) x = x := h1
  have h4 : nb_mul x (nb_pow p x) = 1 := by
    have e : nb_mul (nb_mul (nb_mul (nb_pow p x) x) x) (nb_inv x) = nb_mul x (nb_inv x) := by rw [h3]
    rw [nb_assoc _ x (nb_inv x), nb_mul_inv h0, nb_mul_1, nb_comm] at e
    exact e
  exact (nb_inv_of h4).symm
theorem mt_allBut {k : Nat} (hk : k < 7) (m : qm_M) : F_M_allBut (nI k) m = some (some (.long (bn (BitVec.ofNat 64 (2 ^ (2 ^ k) - 2)))), m) := by
  unfold F_M_allBut X_M_allBut_e
  have h : (List.range 6).all (fun k => decide (nI k ≠ 6 ∧ qo_lshl 1 (qo_ishl 1 (nI k)) - 2 = bn (BitVec.ofNat 64 (2 ^ (2 ^ k) - 2)))) = true := by decide +kernel
  by_cases q : k = 6
  · subst q
    have e : (-2 : Int64) = bn (BitVec.ofNat 64 (2 ^ (2 ^ 6) - 2)) := by decide +kernel
    rw [if_pos (by decide), e]
  · have := of_decide_eq_true (List.all_eq_true.mp h k (List.mem_range.mpr (by omega)))
    rw [if_neg this.1, this.2]
theorem mt_inverseOf {m : qm_M} (hm : nt_ok 64 m) (x : Int64) : F_M_inverseOf x m = some (some (.long (bn (nb_inv (nb x)))), m) := by
  unfold F_M_inverseOf X_M_inverseOf_e
  by_cases h : nb x = 0
  · rw [if_pos ((no_cmpz x).mpr h), h, nb_inv_0]
    rfl
  · rw [if_neg (fun q => h ((no_cmpz x).mp q)), mt_levelOf]
    dsimp only [qe_rI]
    rw [mt_allBut (nb_lev_lt _)]
    dsimp only [qe_rL]
    rw [mt_powerOf hm]
    dsimp only [qe_rL]
    have hlt := nb_lev_lt (nb x)
    have hin := nb_lev_in (nb x)
    generalize nb_lev (nb x) = k at hlt hin
    rw [← nb_pow_inv hlt hin h, nb_bn, BitVec.toNat_ofNat, Nat.mod_eq_of_lt]
    have h1 : 2 ^ k ≤ 2 ^ 6 := Nat.pow_le_pow_right (by decide) (by omega)
    have h2 : 2 ^ (2 ^ k) ≤ 2 ^ 64 := Nat.pow_le_pow_right (by decide) h1
    have h3 : 0 < 2 ^ (2 ^ k) := Nat.pow_pos (by decide)
    omega
/-! the model's root: squared but once less than its level asks -/
theorem mt_root_loop {m : qm_M} (hm : nt_ok 64 m) (v : Int64) (N : Nat) (hN : 2 ^ nb_lev (nb v) = N) (hN2 : N ≤ 64) (d : Nat) : ∀ (f j : Nat) (y : nb_F), N - j = d → j ≤ N → d < f → L_M_rootOf_5 f v (bn y) (nI j) m = some (some (.long (bn (nb_sqN d y))), m) := by
  induction d with
  | zero =>
    intro f j y h1 h2 h3
    obtain ⟨f, rfl⟩ : ∃ g, f = g + 1 := ⟨f - 1, by omega⟩
    have e : j = N := by omega
    show X_M_rootOf_5 _ _ _ _ _ _ _ = _
    unfold X_M_rootOf_5
    rw [mt_levelOf]
    dsimp only [qe_rI]
    rw [no_ishl1 (by have := nb_lev_lt (nb v); omega), hN, e, if_neg (nI_nlt (Nat.le_refl _) (by omega)), nb_sqN_0]
  | succ d ih =>
    intro f j y h1 h2 h3
    obtain ⟨f, rfl⟩ : ∃ g, f = g + 1 := ⟨f - 1, by omega⟩
    show X_M_rootOf_5 _ _ _ _ _ _ _ = _
    unfold X_M_rootOf_5
    rw [mt_levelOf]
    dsimp only [qe_rI]
    rw [no_ishl1 (by have := nb_lev_lt (nb v); omega), hN, if_pos (nI_lt (by omega) (by omega)), mt_square hm]
    dsimp only [qe_rL]
    rw [← nI_succ, nb_sqN_s, nb_bn]
    exact ih f (j + 1) (nb_sq y) (by omega) (by omega) (by omega)
theorem nb_rt_lev (x : nb_F) (d : Nat) (h : 2 ^ nb_lev x = d + 1) : nb_sqN d x = nb_rt x := by
  have e := nb_frob (nb_lev x) (nb_lev_lt x) x (nb_lev_in x)
  rw [h, Nat.add_comm, nb_sqN_add 0 1 d x, nb_sqN_s 0, nb_sqN_0] at e
  have e2 : nb_rt (nb_sq (nb_sqN d x)) = nb_rt x := by rw [e]
  rw [nb_rt_sq] at e2
  exact e2
theorem mt_rootOf {m : qm_M} (hm : nt_ok 64 m) (x : Int64) : F_M_rootOf x m = some (some (.long (bn (nb_rt (nb x)))), m) := by
  unfold F_M_rootOf X_M_rootOf_e
  have h1 : 0 < 2 ^ nb_lev (nb x) := Nat.pow_pos (by decide)
  have h2 : 2 ^ nb_lev (nb x) ≤ 2 ^ 6 := Nat.pow_le_pow_right (by decide) (by have := nb_lev_lt (nb x); omega)
  have h3 := mt_root_loop hm x _ rfl h2 (2 ^ nb_lev (nb x) - 1) 1000000 1 (nb x) rfl h1 (by omega)
  rw [nb_rt_lev (nb x) _ (by omega)] at h3
  exact h3
/-! the class's powers -/
theorem nu_bit (n : nb_F) (k : Nat) : ((n >>> k) &&& 1 = 0) ↔ n.toNat / 2 ^ k % 2 = 0 := by
  have e : ((n >>> k) &&& 1).toNat = n.toNat / 2 ^ k % 2 := by
    rw [BitVec.toNat_and, BitVec.toNat_ushiftRight, Nat.shiftRight_eq_div_pow]
    show _ &&& 1 = _
    rw [Nat.and_one_is_mod]
  constructor
  · intro h
    rw [← e, h]
    rfl
  · intro h
    apply BitVec.eq_of_toNat_eq
    rw [e, h]
    rfl
theorem nu_raised_loop (a n : nb_F) (m : qm_M) (k : Nat) : ∀ (f : Nat), k ≤ 64 → k < f → L_Nu_raisedTo_7 f (bn a) (bn n) (bn (nb_pow (n.toNat / 2 ^ k) a)) (nI k - 1) m = some (some (.long (bn (nb_pow n.toNat a))), m) := by
  induction k with
  | zero =>
    intro f _ hf
    obtain ⟨f, rfl⟩ : ∃ g, f = g + 1 := ⟨f - 1, by omega⟩
    rw [Nat.pow_zero, Nat.div_one]
    show X_Nu_raisedTo_7 _ _ _ _ _ _ _ _ = _
    unfold X_Nu_raisedTo_7
    rw [if_pos (by decide)]
  | succ k ih =>
    intro f hk hf
    obtain ⟨f, rfl⟩ : ∃ g, f = g + 1 := ⟨f - 1, by omega⟩
    have hd : n.toNat / 2 ^ (k + 1) = n.toNat / 2 ^ k / 2 := by rw [Nat.pow_succ, Nat.div_div_eq_div_mul]
    rw [hd, nI_pred]
    have ih2 := ih f (by omega) (by omega)
    have hb := nu_bit n k
    have hsh : qo_lushr (bn n) (nI k) = bn (n >>> k) := nb_inj (no_lushr _ (by omega))
    generalize n.toNat / 2 ^ k = q at hb ih2 ⊢
    have go : L_Nu_raisedTo_26 (L_Nu_raisedTo_7 f) (bn a) (bn n) (bn (nb_pow (2 * (q / 2)) a)) (nI k) m = some (some (.long (bn (nb_pow n.toNat a))), m) := by
      unfold L_Nu_raisedTo_26 X_Nu_raisedTo_26
      have e1 : (1 : Int64) = bn 1 := rfl
      rw [hsh, e1, bn_and]
      by_cases hz : (n >>> k) &&& 1 = 0
      · have e2 : 2 * (q / 2) = q := by have := hb.mp hz; omega
        rw [if_pos ((no_cmpz (bn _)).mpr hz), e2, ← Int32.sub_eq_add_neg]
        exact ih2
      · have e2 : q = 2 * (q / 2) + 1 := by have : ¬ q % 2 = 0 := fun z => hz (hb.mpr z); omega
        have e3 : nb_mul (nb_pow (2 * (q / 2)) a) a = nb_pow q a := by
          conv => rhs; rw [e2]
          rw [nb_pow]
        rw [if_neg (fun z => hz ((no_cmpz (bn _)).mp z)), nu_product]
        dsimp only [qe_rL]
        rw [← Int32.sub_eq_add_neg, nb_bn, nb_bn, e3]
        exact ih2
    show X_Nu_raisedTo_7 _ _ _ _ _ _ _ _ = _
    unfold X_Nu_raisedTo_7
    rw [if_neg (nI_pos (by omega))]
    by_cases h1 : nb_pow (q / 2) a = 1
    · rw [if_pos ((no_cmpo (bn _)).mpr h1)]
      have e : nb_pow (2 * (q / 2)) a = nb_pow (q / 2) a := by
        rw [Nat.two_mul, nb_pow_add, h1, nb_mul_1]
      rw [e] at go
      exact go
    · rw [if_neg (fun z => h1 ((no_cmpo (bn _)).mp z)), nu_square]
      dsimp only [qe_rL]
      have e : nb_sq (nb_pow (q / 2) a) = nb_pow (2 * (q / 2)) a := by
        unfold nb_sq
        rw [Nat.two_mul, nb_pow_add]
      rw [nb_bn, e]
      exact go
theorem nu_raisedTo (a n : Int64) (m : qm_M) : F_Nu_raisedTo a n m = some (some (.long (bn (nb_pow (nb n).toNat (nb a)))), m) := by
  unfold F_Nu_raisedTo X_Nu_raisedTo_e
  have h := nu_raised_loop (nb a) (nb n) m 64 1000000 (by omega) (by omega)
  have e : (nb n).toNat / 2 ^ 64 = 0 := Nat.div_eq_of_lt (nb n).isLt
  rw [e] at h
  exact h
